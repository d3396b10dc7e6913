/-! KEEPING: the world's numbers stay; what is written down of the moment -/
theorem RW.same {σ μ μ' : Mem} (h : RW σ μ) (e0 : ∀ i, i ≠ 23 → i ≠ 29 → μ' 0 i = μ 0 i) (e1 : ∀ k, 1 ≤ k → k ≤ 19 → μ' k = μ k) : RW σ μ' := by
  unfold RW pcN qcN at h ⊢
  rw [e0 5 (by decide) (by decide), e0 14 (by decide) (by decide), e0 15 (by decide) (by decide), e0 16 (by decide) (by decide), e1 1 (by decide) (by decide), e1 2 (by decide) (by decide), e1 3 (by decide) (by decide), e1 4 (by decide) (by decide), e1 5 (by decide) (by decide), e1 6 (by decide) (by decide), e1 7 (by decide) (by decide), e1 8 (by decide) (by decide), e1 9 (by decide) (by decide), e1 10 (by decide) (by decide), e1 11 (by decide) (by decide), e1 12 (by decide) (by decide), e1 13 (by decide) (by decide), e1 14 (by decide) (by decide), e1 15 (by decide) (by decide), e1 16 (by decide) (by decide), e1 17 (by decide) (by decide), e1 18 (by decide) (by decide), e1 19 (by decide) (by decide)]
  exact h
theorem IW.same {g r : Nat} {μ μ' : Mem} (h : IW g r μ) (e0 : ∀ i, i ≠ 23 → i ≠ 29 → μ' 0 i = μ 0 i) (e1 : ∀ k, 1 ≤ k → k ≤ 19 → μ' k = μ k) : IW g r μ' := by
  unfold IW at h ⊢
  rw [e0 5 (by decide) (by decide), e0 15 (by decide) (by decide), e0 16 (by decide) (by decide), e1 1 (by decide) (by decide), e1 2 (by decide) (by decide), e1 5 (by decide) (by decide), e1 6 (by decide) (by decide), e1 8 (by decide) (by decide), e1 9 (by decide) (by decide), e1 10 (by decide) (by decide), e1 11 (by decide) (by decide), e1 12 (by decide) (by decide), e1 15 (by decide) (by decide), e1 16 (by decide) (by decide), e1 17 (by decide) (by decide), e1 19 (by decide) (by decide)]
  exact h
/-- what is written down behind c calls -/
def At (c : Nat) (μ M : Mem) : Prop := μ 20 c = M 0 5 ∧ IsAct (M 10) 0 (pcN M) (μ 21 c) ∧ ∀ p, p < pcN M → μ 22 (c * 4 + p) = M 6 p ∧ μ 23 (c * 4 + p) = M 7 p
def Kp (c : Nat) (μ μ' : Mem) : Prop :=
  μ' 0 23 = nI (c + 1) ∧ (∀ i, i ≠ 23 → μ' 0 i = μ 0 i) ∧ (∀ k, k ≠ 0 → k ≠ 20 → k ≠ 21 → k ≠ 22 → k ≠ 23 → μ' k = μ k) ∧
  At (c + 1) μ' μ ∧ (∀ j, j ≤ c → μ' 20 j = μ 20 j ∧ μ' 21 j = μ 21 j) ∧ ∀ j, j < (c + 1) * 4 → μ' 22 j = μ 22 j ∧ μ' 23 j = μ 23 j
theorem keep_loop {c np : Nat} (hc : c < 1000) (hp : np ≤ 4) : ∀ (n i : Nat) (μ : Mem), i ≤ np → np + 1 ≤ i + n → μ 0 5 = nI np → μ 0 23 = nI c →
    ∃ μ', (∀ k, L_X6_keep_38 n k (nI i) μ = k μ') ∧ (∀ k, k ≠ 22 → k ≠ 23 → μ' k = μ k) ∧ (∀ j, j < c * 4 + i → μ' 22 j = μ 22 j ∧ μ' 23 j = μ 23 j) ∧ ∀ p, i ≤ p → p < np → μ' 22 (c * 4 + p) = μ 6 p ∧ μ' 23 (c * 4 + p) = μ 7 p := by
  intro n
  induction n with
  | zero => intro i μ h1 h2; omega
  | succ n ih =>
    intro i μ h1 h2 h5 h23
    by_cases hi : i = np
    · subst hi
      refine ⟨μ, fun k => ?_, fun _ _ _ => rfl, fun _ _ => ⟨rfl, rfl⟩, fun p a b => by omega⟩
      rw [L_X6_keep_38, h5]
      exact if_pos (nI_le (Nat.le_refl _) (by omega))
    · have hj : c * 4 + i < 4400 := by omega
      obtain ⟨μ', a1, a2, a3, a4⟩ := ih (i + 1) (mu (mu μ 22 (c * 4 + i) (μ 6 i)) 23 (c * 4 + i) (μ 7 i)) (by omega) (by omega) (by rw [mu_n (by decide), mu_n (by decide)]; exact h5) (by rw [mu_n (by decide), mu_n (by decide)]; exact h23)
      refine ⟨μ', fun k => ?_, fun k q1 q2 => ?_, fun j q => ?_, fun p q1 q2 => ?_⟩
      · rw [L_X6_keep_38, h5, if_neg (nI_ge (by omega) (by omega))]
        simp only [h23, n4l, gd_ok hj (by decide), gd_ok (show i < 4 by omega) (by decide), N_nI (show c * 4 + i < 2 ^ 31 by omega), N_nI (show i < 2 ^ 31 by omega), stp_s, mu_n (show (0 : Nat) ≠ 22 by decide), mu_n (show (7 : Nat) ≠ 22 by decide), nI_1]
        exact a1 k
      · rw [a2 k q1 q2, mu_n q2, mu_n q1]
      · obtain ⟨b1, b2⟩ := a3 j (by omega)
        rw [mu_n (by decide), mu_pl (by omega)] at b1
        rw [mu_pl (by omega), mu_n (by decide)] at b2
        exact ⟨b1, b2⟩
      · by_cases hp2 : p = i
        · subst hp2
          obtain ⟨b1, b2⟩ := a3 (c * 4 + p) (by omega)
          rw [mu_n (by decide), mu_at] at b1
          rw [mu_at] at b2
          exact ⟨b1, b2⟩
        · obtain ⟨b1, b2⟩ := a4 p (by omega) q2
          rw [mu_n (by decide), mu_n (by decide)] at b1
          rw [mu_n (by decide), mu_n (by decide)] at b2
          exact ⟨b1, b2⟩
theorem keep_ok {g r c : Nat} {μ : Mem} (hI : IW g r μ) (hc : c + 1 < 1000) (h23 : μ 0 23 = nI c) : ∃ μ', f_X6_keep μ = some μ' ∧ Kp c μ μ' ∧ IW g r μ' ∧ ∀ σ, RW σ μ → RW σ μ' := by
  have hnp := hI.np
  obtain ⟨y, y1, y2⟩ := actor_ok (μ := mu (mu μ 0 23 (nI (c + 1))) 20 (c + 1) (μ 0 5)) (np := pcN μ) (by rw [mu_n (by decide), mu_pl (by decide)]; exact hnp.2) hnp.1
  rw [mu_n (show (10 : Nat) ≠ 20 by decide), mu_n (show (10 : Nat) ≠ 0 by decide)] at y1
  obtain ⟨μ', a1, a2, a3, a4⟩ := keep_loop (c := c + 1) (by omega) hnp.1 FU 0 (mu (mu (mu μ 0 23 (nI (c + 1))) 20 (c + 1) (μ 0 5)) 21 (c + 1) y) (Nat.zero_le _) (by show pcN μ + 1 ≤ 0 + 6000; omega) (by rw [mu_n (by decide), mu_n (by decide), mu_pl (by decide)]; exact hnp.2) (by rw [mu_n (by decide), mu_n (by decide), mu_at])
  have e0 : ∀ i, i ≠ 23 → μ' 0 i = μ 0 i := fun i q => by rw [a2 0 (by decide) (by decide), mu_n (by decide), mu_n (by decide), mu_pl q]
  have e1 : ∀ k, k ≠ 0 → k ≠ 20 → k ≠ 21 → k ≠ 22 → k ≠ 23 → μ' k = μ k := fun k q1 q2 q3 q4 q5 => by rw [a2 k q4 q5, mu_n q3, mu_n q2, mu_n q1]
  refine ⟨μ', ?_, ⟨?_, e0, e1, ⟨?_, ?_, fun p q => ?_⟩, fun j q => ?_, fun j q => ?_⟩, hI.same (fun i q _ => e0 i q) (fun k q1 q2 => e1 k (by omega) (by omega) (by omega) (by omega) (by omega)), fun σ hR => hR.same (fun i q _ => e0 i q) (fun k q1 q2 => e1 k (by omega) (by omega) (by omega) (by omega) (by omega))⟩
  · unfold f_X6_keep
    have g11 : ∀ {α : Type} (x : Option α), gd (nI (c + 1)) 1100 x = x := fun x => gd_ok (by omega) (by decide)
    have hN : (nI (c + 1)).toNatClampNeg = c + 1 := N_nI (by omega)
    simp only [stp_s, h23, nI_1, mu_at, g11, hN, mu_n (show (0 : Nat) ≠ 20 by decide), mu_pl (show (5 : Nat) ≠ 23 by decide), y2, bd_s]
    exact a1 (fun σ8 => some σ8)
  · rw [a2 0 (by decide) (by decide), mu_n (by decide), mu_n (by decide), mu_at]
  · rw [a2 20 (by decide) (by decide), mu_n (by decide), mu_at]
  · rw [a2 21 (by decide) (by decide), mu_at]; exact y1
  · obtain ⟨b1, b2⟩ := a4 p (Nat.zero_le _) q
    rw [mu_n (by decide), mu_n (by decide), mu_n (by decide)] at b1 b2
    exact ⟨b1, b2⟩
  · rw [a2 20 (by decide) (by decide), a2 21 (by decide) (by decide), mu_n (show (20 : Nat) ≠ 21 by decide), mu_pl (by omega), mu_n (by decide), mu_pl (by omega), mu_n (by decide), mu_n (by decide)]
    exact ⟨rfl, rfl⟩
  · obtain ⟨b1, b2⟩ := a3 j (by omega)
    rw [mu_n (by decide), mu_n (by decide), mu_n (by decide)] at b1 b2
    exact ⟨b1, b2⟩
/-! AN ACT'S END: time, quests, keeping -/
/-- what an act's end leaves alone -/
def SmA (μ μ' : Mem) : Prop := (∀ k, k ≠ 0 → k ≠ 7 → k ≠ 10 → k ≠ 19 → k ≠ 20 → k ≠ 21 → k ≠ 22 → k ≠ 23 → μ' k = μ k) ∧ ∀ i, i ≠ 14 → i ≠ 23 → μ' 0 i = μ 0 i
theorem nI_le2 {a b : Nat} (h : a ≤ b) : ∃ q, q ≤ b ∧ nI a = nI q := ⟨a, h, rfl⟩
theorem ends_ok {g r c a t : Nat} {μ : Mem} {w b : Int32} (hI : IW g r μ) (hc : c + 1 < 1000) (h23 : μ 0 23 = nI c) (ha : a < pcN μ) (ht : t ≤ 3) (hr : r + 3 < 2 ^ 30) : ∃ μ' μ'', f_X6_ends μ (nI a) (nI t) w b = some μ'' ∧ IW g (r + 3) μ'' ∧ SmA μ μ'' ∧ Kp c μ' μ'' ∧ IW g (r + 3) μ' ∧ (∀ k, 20 ≤ k → μ' k = μ k) ∧
    ∀ σ1, RW σ1 (mu μ 10 a (μ 10 a + nI t)) → ∃ σ', f_X4_pursueQuests σ1 (nI a) w b = some σ' ∧ RW σ' μ' ∧ RW σ' μ'' := by
  have hnp := hI.np
  obtain ⟨-, -, -, -, -, -, -, -, h9, -⟩ := id hI
  obtain ⟨q, q1, q2⟩ := h9 a (by omega)
  have hI1 : IW g (r + 3) (mu μ 10 a (μ 10 a + nI t)) := (hI.mono (Nat.le_refl _) (Nat.le_add_right r 3)).ready a ha ⟨q + t, by omega, by rw [q2, nI_add]⟩
  have hp1 : pcN (mu μ 10 a (μ 10 a + nI t)) = pcN μ := by unfold pcN; rw [mu_n (by decide)]
  obtain ⟨μ', a1, a2, a3, a4⟩ := pursue_loop (w := w) (b := b) FU 0 g (r + 3) _ (Nat.zero_le _) (by have := hI1.nq; show _ + 1 ≤ 0 + 6000; omega) hI1 (by rw [hp1]; exact ha) rfl
  obtain ⟨μ'', b1, b2, b3, b4⟩ := keep_ok a2 hc (by rw [a3.2 23 (by decide), mu_n (by decide)]; exact h23)
  refine ⟨μ', μ'', ?_, b3, ⟨fun k c1 c2 c3 c4 c5 c6 c7 c8 => ?_, fun i c1 c2 => ?_⟩, b2, a2, fun k hk => by rw [a3.1 k (by omega) (by omega) (by omega), mu_n (by omega)], fun σ hR => ?_⟩
  · unfold f_X6_ends
    rw [gd_ok (by omega) (by decide), gd_ok (by omega) (by decide), N_nI (by omega), stp_s]
    rw [show (0 : Int32) = nI 0 from rfl, a1, b1]
    rfl
  · rw [b2.2.2.1 k c1 c5 c6 c7 c8, a3.1 k c1 c2 c4, mu_n c3]
  · rw [b2.2.1 i c2, a3.2 i c1, mu_n (by decide)]
  · obtain ⟨σ', d1, d2⟩ := a4 _ hR
    exact ⟨σ', d1 (fun σ7 => some σ7), d2, b4 σ' d2⟩
