/-! AN ACT'S END: what it changes -/
def PSt (a i j : Nat) (μ μ' : Mem) : Prop :=
  (∀ k, k ≠ 0 → k ≠ 7 → k ≠ 19 → μ' k = μ k) ∧ (∀ j, j ≠ 14 → μ' 0 j = μ 0 j) ∧ (∀ j, j ≠ a → μ' 7 j = μ 7 j) ∧
  (∀ x, (∀ q, i ≤ q → q < j → x ≠ a * 3 + q) → μ' 19 x = μ 19 x) ∧
  (∀ q, i ≤ q → q < j → μ' 19 (a * 3 + q) = μ 19 (a * 3 + q) ∨ ∃ t L, t < L ∧ L ≤ 4 ∧ μ 19 (a * 3 + q) = nI t ∧ μ 15 q = nI L ∧ μ' 19 (a * 3 + q) = nI (t + 1)) ∧
  ∀ pu cn, pu < 2 ^ 30 → μ 0 14 = nI pu → μ 7 a = nI cn → ∃ g, g ≤ pu ∧ μ' 0 14 = nI (pu - g) ∧ μ' 7 a = nI (cn + g)
theorem PSt.rf {a i j : Nat} {μ : Mem} : PSt a i j μ μ := ⟨fun _ _ _ _ => rfl, fun _ _ => rfl, fun _ _ => rfl, fun _ _ => rfl, fun _ _ _ => Or.inl rfl, fun pu cn _ h1 h2 => ⟨0, Nat.zero_le _, by rw [Nat.sub_zero]; exact h1, h2⟩⟩
theorem PSt.tr {a i j k : Nat} {μ μ1 μ' : Mem} (hij : i ≤ j) (hjk : j ≤ k) (h : PSt a i j μ μ1) (h' : PSt a j k μ1 μ') : PSt a i k μ μ' := by
  obtain ⟨a1, a2, a3, a4, a5, a6⟩ := h
  obtain ⟨b1, b2, b3, b4, b5, b6⟩ := h'
  refine ⟨fun z z1 z2 z3 => (b1 z z1 z2 z3).trans (a1 z z1 z2 z3), fun z z1 => (b2 z z1).trans (a2 z z1), fun z z1 => (b3 z z1).trans (a3 z z1), fun x hx => ?_, fun q q1 q2 => ?_, fun pu cn p1 p2 p3 => ?_⟩
  · rw [b4 x fun q q1 q2 => hx q (by omega) q2, a4 x fun q q1 q2 => hx q q1 (by omega)]
  · by_cases hq : q < j
    · rw [b4 (a * 3 + q) fun q' q1' q2' => by omega]
      exact a5 q q1 hq
    · rcases b5 q (by omega) q2 with e | ⟨t, L, t1, t2, t3, t4, t5⟩
      · rw [e]; exact Or.inl (a4 _ fun q' q1' q2' => by omega)
      · rw [a4 _ fun q' q1' q2' => by omega] at t3
        rw [a1 15 (by decide) (by decide) (by decide)] at t4
        exact Or.inr ⟨t, L, t1, t2, t3, t4, t5⟩
  · obtain ⟨g, g1, g2, g3⟩ := a6 pu cn p1 p2 p3
    obtain ⟨g', g4, g5, g6⟩ := b6 (pu - g) (cn + g) (by omega) g2 g3
    exact ⟨g + g', by omega, by rw [g5]; congr 1; omega, by rw [g6]; congr 1; omega⟩
def RWD (μ : Mem) : Prop := ∀ q, q < 3 → ∃ w, w ≤ 100 ∧ μ 14 q = nI w
theorem pur {a nq : Nat} {w b : Int32} : ∀ (n i g r : Nat) (μ : Mem), i ≤ nq → nq + 1 ≤ i + n → IW g r μ → a < pcN μ → qcN μ = nq → RWD μ →
    ∃ μ', (∀ k, L_X6_ends_13 n k (nI a) w b (nI i) μ = k μ') ∧ PSt a i nq μ μ' := by
  intro n
  induction n with
  | zero => intro i g r μ h1 h2; omega
  | succ n ih =>
    intro i g r μ h1 h2 hI ha hq hw
    have hnp := hI.np
    have hnq := hI.nq
    by_cases hi : i = nq
    · subst hi
      exact ⟨μ, fun k => by rw [L_X6_ends_13, hnq.2, hq]; exact if_pos (nI_le (Nat.le_refl _) (by omega)), PSt.rf⟩
    · obtain ⟨-, -, h3, -, -, -, -, -, -, -, h11⟩ := id hI
      obtain ⟨L, l1, l2, -⟩ := h3 i (by omega)
      have hj : a * 3 + i < 12 := by omega
      obtain ⟨t, t1, t2⟩ := h11 (a * 3 + i) hj
      have g12 : ∀ {α : Type} (x : Option α), gd (nI (a * 3 + i)) 12 x = x := fun x => gd_ok hj (by decide)
      have g3 : ∀ {α : Type} (x : Option α), gd (nI i) 3 x = x := fun x => gd_ok (by omega) (by decide)
      have g4 : ∀ {α : Type} (x : Option α), gd (nI a) 4 x = x := fun x => gd_ok (by omega) (by decide)
      have hN : (nI (a * 3 + i)).toNatClampNeg = a * 3 + i := N_nI (by omega)
      have hNi : (nI i).toNatClampNeg = i := N_nI (by omega)
      have hNa : (nI a).toNatClampNeg = a := N_nI (by omega)
      have go : ∀ μ1 : Mem, IW g r μ1 → PSt a i (i + 1) μ μ1 → ∃ μ', (∀ k, L_X6_ends_13 n k (nI a) w b (nI i + 1) μ1 = k μ') ∧ PSt a i nq μ μ' := fun μ1 hI1 hS1 => by
        have e1 : pcN μ1 = pcN μ := by unfold pcN; rw [hS1.2.1 5 (by decide)]
        have e2 : qcN μ1 = qcN μ := by unfold qcN; rw [hS1.2.1 16 (by decide)]
        obtain ⟨μ', a1, a2⟩ := ih (i + 1) g r μ1 (by omega) (by omega) hI1 (by rw [e1]; exact ha) (by rw [e2]; exact hq) (fun q q1 => by rw [hS1.1 14 (by decide) (by decide) (by decide)]; exact hw q q1)
        rw [nI_1]
        exact ⟨μ', a1, hS1.tr (by omega) (by omega) a2⟩
      by_cases hlt : nI L ≤ nI t
      · obtain ⟨μ', a1, a2⟩ := go μ hI PSt.rf
        refine ⟨μ', fun k => ?_, a2⟩
        rw [L_X6_ends_13, hnq.2, hq, if_neg (nI_ge (by omega) (by omega))]
        simp only [n3l, g12, g3, hN, hNi, t2, l2, jn_s]
        rw [if_pos hlt]
        exact a1 k
      · have htL : t < L := Nat.lt_of_not_le fun z => hlt (nI_le z (by omega))
        obtain ⟨v, v1, v2, -⟩ := fulfilled_ok (w := w) (b := b) hI ha (by omega) l2 l1 htL
        have hm : ∀ k, L_X6_ends_13 (n + 1) k (nI a) w b (nI i) μ = if v = 0 then L_X6_ends_13 n k (nI a) w b (nI i + 1) μ else
            (if nI L ≤ nI (t + 1) then (if μ 0 14 ≤ μ 14 i then L_X6_ends_13 n k (nI a) w b (nI i + 1) (mu (mu (mu μ 19 (a * 3 + i) (nI (t + 1))) 7 a (μ 7 a + μ 0 14)) 0 14 (μ 0 14 - μ 0 14)) else L_X6_ends_13 n k (nI a) w b (nI i + 1) (mu (mu (mu μ 19 (a * 3 + i) (nI (t + 1))) 7 a (μ 7 a + μ 14 i)) 0 14 (μ 0 14 - μ 14 i)))
             else L_X6_ends_13 n k (nI a) w b (nI i + 1) (mu (mu (mu μ 19 (a * 3 + i) (nI (t + 1))) 7 a (μ 7 a + 0)) 0 14 (μ 0 14 - 0))) := fun k => by
          rw [L_X6_ends_13, hnq.2, hq, if_neg (nI_ge (by omega) (by omega))]
          simp only [n3l, g12, g3, hN, hNi, t2, l2, jn_s]
          rw [if_neg hlt]
          simp only [n4l, v2, bd_s]
          by_cases hv : v = 0
          · rw [if_pos hv, if_pos hv]
          · rw [if_neg hv, if_neg hv]
            simp only [stp_s, g4, hNa, nI_1, mu_at, mu_n (show (15 : Nat) ≠ 19 by decide), mu_n (show (0 : Nat) ≠ 19 by decide), mu_n (show (14 : Nat) ≠ 19 by decide), mu_n (show (7 : Nat) ≠ 19 by decide), mu_n (show (0 : Nat) ≠ 7 by decide), l2]
        have pay : ∀ x : Int32, (∀ pu cn, pu < 2 ^ 30 → μ 0 14 = nI pu → μ 7 a = nI cn → ∃ g, g ≤ pu ∧ μ 0 14 - x = nI (pu - g) ∧ μ 7 a + x = nI (cn + g)) →
            IW g r (mu (mu (mu μ 19 (a * 3 + i) (nI (t + 1))) 7 a (μ 7 a + x)) 0 14 (μ 0 14 - x)) ∧ PSt a i (i + 1) μ (mu (mu (mu μ 19 (a * 3 + i) (nI (t + 1))) 7 a (μ 7 a + x)) 0 14 (μ 0 14 - x)) := fun x hx => by
          refine ⟨((hI.reached _ ⟨t + 1, by omega, rfl⟩).coins _ _).purse _, fun k k1 k2 k3 => by rw [mu_n k1, mu_n k2, mu_n k3], fun j j1 => by rw [mu_pl j1, mu_n (by decide), mu_n (by decide)], fun j j1 => by rw [mu_n (by decide), mu_pl j1, mu_n (by decide)], fun y hy => ?_, fun q q1 q2 => ?_, fun pu cn p1 p2 p3 => ?_⟩
          · rw [mu_n (by decide), mu_n (by decide), mu_pl (hy i (Nat.le_refl _) (by omega))]
          · have : q = i := by omega
            subst this
            exact Or.inr ⟨t, L, htL, l1, t2, l2, by rw [mu_n (by decide), mu_n (by decide), mu_at]⟩
          · obtain ⟨g, g1, g2, g3⟩ := hx pu cn p1 p2 p3
            exact ⟨g, g1, by rw [mu_at, g2], by rw [mu_n (by decide), mu_at, g3]⟩
        rcases v1 with rfl | rfl
        · obtain ⟨μ', a1, a2⟩ := go μ hI PSt.rf
          exact ⟨μ', fun k => by rw [hm, if_pos rfl]; exact a1 k, a2⟩
        · obtain ⟨rw0, rw1, rw2⟩ := hw i (by omega)
          by_cases hl : nI L ≤ nI (t + 1)
          · by_cases hh : μ 0 14 ≤ μ 14 i
            · obtain ⟨p1, p2⟩ := pay (μ 0 14) (fun pu cn q1 q2 q3 => ⟨pu, Nat.le_refl _, by rw [Int32.sub_self, Nat.sub_self]; rfl, by rw [q2, q3, nI_add]⟩)
              obtain ⟨μ', a1, a2⟩ := go _ p1 p2
              exact ⟨μ', fun k => by rw [hm, if_neg (by decide), if_pos hl, if_pos hh]; exact a1 k, a2⟩
            · obtain ⟨p1, p2⟩ := pay (μ 14 i) (fun pu cn q1 q2 q3 => by
                rw [q2, rw2] at hh
                have hle : rw0 ≤ pu := Nat.le_of_lt (Nat.lt_of_not_le fun z => hh (nI_le z (by omega)))
                exact ⟨rw0, hle, by rw [q2, rw2, pk_sub hle], by rw [q3, rw2, nI_add]⟩)
              obtain ⟨μ', a1, a2⟩ := go _ p1 p2
              exact ⟨μ', fun k => by rw [hm, if_neg (by decide), if_pos hl, if_neg hh]; exact a1 k, a2⟩
          · obtain ⟨p1, p2⟩ := pay 0 (fun pu cn q1 q2 q3 => ⟨0, Nat.zero_le _, by rw [q2, Int32.sub_zero]; rfl, by rw [q3, Int32.add_zero]; rfl⟩)
            obtain ⟨μ', a1, a2⟩ := go _ p1 p2
            exact ⟨μ', fun k => by rw [hm, if_neg (by decide), if_neg hl]; exact a1 k, a2⟩
/-- what an act's end leaves, and makes -/
def EndS (a t : Nat) (μ μ'' : Mem) : Prop :=
  (∀ k, 1 ≤ k → k ≤ 19 → k ≠ 7 → k ≠ 10 → k ≠ 19 → μ'' k = μ k) ∧ (∀ i, i ≠ 14 → i ≠ 23 → μ'' 0 i = μ 0 i) ∧ μ'' 10 = upd (μ 10) a (μ 10 a + nI t) ∧ (∀ j, j ≠ a → μ'' 7 j = μ 7 j) ∧
  (∀ x, (∀ q, q < qcN μ → x ≠ a * 3 + q) → μ'' 19 x = μ 19 x) ∧
  (∀ q, q < qcN μ → μ'' 19 (a * 3 + q) = μ 19 (a * 3 + q) ∨ ∃ t L, t < L ∧ L ≤ 4 ∧ μ 19 (a * 3 + q) = nI t ∧ μ 15 q = nI L ∧ μ'' 19 (a * 3 + q) = nI (t + 1)) ∧
  ∀ pu cn, pu < 2 ^ 30 → μ 0 14 = nI pu → μ 7 a = nI cn → ∃ g, g ≤ pu ∧ μ'' 0 14 = nI (pu - g) ∧ μ'' 7 a = nI (cn + g)
theorem ends_sem {g r c a t : Nat} {μ : Mem} {w b : Int32} (hI : IW g r μ) (hc : c + 1 < 1000) (h23 : μ 0 23 = nI c) (ha : a < pcN μ) (ht : t ≤ 3) (hr : r + 3 < 2 ^ 30) (hw : RWD μ) : ∃ μ'', f_X6_ends μ (nI a) (nI t) w b = some μ'' ∧ EndS a t μ μ'' ∧ μ'' 0 23 = nI (c + 1) := by
  have hnp := hI.np
  obtain ⟨-, -, -, -, -, -, -, -, h9, -⟩ := id hI
  obtain ⟨q, q1, q2⟩ := h9 a (by omega)
  have hI1 : IW g (r + 3) (mu μ 10 a (μ 10 a + nI t)) := (hI.mono (Nat.le_refl _) (Nat.le_add_right r 3)).ready a ha ⟨q + t, by omega, by rw [q2, nI_add]⟩
  have hp1 : pcN (mu μ 10 a (μ 10 a + nI t)) = pcN μ := by unfold pcN; rw [mu_n (by decide)]
  have hq1 : qcN (mu μ 10 a (μ 10 a + nI t)) = qcN μ := by unfold qcN; rw [mu_n (by decide)]
  obtain ⟨μ', a1, a3⟩ := pur (w := w) (b := b) FU 0 g (r + 3) _ (Nat.zero_le _) (by have := hI1.nq; show _ + 1 ≤ 0 + 6000; omega) hI1 (by rw [hp1]; exact ha) rfl (fun q hq => by rw [mu_n (by decide)]; exact hw q hq)
  obtain ⟨ν, ν2, a1', a2', -⟩ := pursue_loop (w := w) (b := b) FU 0 g (r + 3) _ (Nat.zero_le _) (by have := hI1.nq; show _ + 1 ≤ 0 + 6000; omega) hI1 (by rw [hp1]; exact ha) rfl
  have hν : ν = μ' := Option.some.inj ((ν2 (fun x => some x)).symm.trans (a1 (fun x => some x)))
  subst hν
  obtain ⟨μ'', b1, b2, -, -⟩ := keep_ok a1' hc (by rw [a3.2.1 23 (by decide), mu_n (by decide)]; exact h23)
  obtain ⟨c1, c2, c3, c4, c5, c6⟩ := a3
  obtain ⟨k1, k2, k3, -, -, -⟩ := b2
  have kk : ∀ k, 1 ≤ k → k ≤ 19 → μ'' k = ν k := fun k z1 z2 => k3 k (by omega) (by omega) (by omega) (by omega) (by omega)
  refine ⟨μ'', ?_, ⟨fun k z1 z2 z3 z4 z5 => ?_, fun i z1 z2 => ?_, ?_, fun j hj => ?_, fun x hx => ?_, fun q hq => ?_, fun pu cn p1 p2 p3 => ?_⟩, k1⟩
  · unfold f_X6_ends
    rw [gd_ok (by omega) (by decide), gd_ok (by omega) (by decide), N_nI (by omega), stp_s]
    rw [show (0 : Int32) = nI 0 from rfl, a1, b1]
    rfl
  · rw [kk k z1 z2, c1 k (by omega) z3 z5, mu_n z4]
  · rw [k2 i z2, c2 i z1, mu_n (by decide)]
  · rw [kk 10 (by decide) (by decide), c1 10 (by decide) (by decide) (by decide), mu_s]
  · rw [kk 7 (by decide) (by decide), c3 j hj, mu_n (by decide)]
  · rw [kk 19 (by decide) (by decide), c4 x fun q _ q2 => hx q (by rw [hq1] at q2; exact q2), mu_n (by decide)]
  · rw [kk 19 (by decide) (by decide)]
    have := c5 q (Nat.zero_le _) (by rw [hq1]; exact hq)
    rw [mu_n (by decide), mu_n (by decide)] at this
    exact this
  · obtain ⟨g, g1, g2, g3⟩ := c6 pu cn p1 (by rw [mu_n (by decide)]; exact p2) (by rw [mu_n (by decide)]; exact p3)
    exact ⟨g, g1, by rw [k2 14 (by decide), g2], by rw [kk 7 (by decide) (by decide), g3]⟩
