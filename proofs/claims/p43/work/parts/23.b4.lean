theorem mu_id (σ : Mem) (k i : Nat) : mu σ k i (σ k i) = σ := by
  funext a b
  unfold mu upd
  by_cases h : a = k
  · subst h
    rw [if_pos rfl]
    by_cases h2 : b = i
    · subst h2; simp
    · simp [h2]
  · rw [if_neg h]
theorem mu_comm {σ : Mem} {k k' i i' : Nat} {v v' : Int32} (h : k ≠ k') : mu (mu σ k i v) k' i' v' = mu (mu σ k' i' v') k i v := by
  funext a b
  unfold mu upd
  by_cases h1 : a = k
  · subst h1
    simp [h]
  · by_cases h2 : a = k'
    · subst h2
      simp [h1]
    · simp [h1, h2]
theorem mu_at (σ : Mem) (k i : Nat) (v : Int32) : mu σ k i v k i = v := by rw [mu_s]; exact if_pos rfl
theorem mu_pl {σ : Mem} {k i j : Nat} {v : Int32} (h : j ≠ i) : mu σ k i v k j = σ k j := by rw [mu_s]; exact if_neg h
theorem jmin_eq (x y : Int32) : jmin x y = if y ≤ x then y else x := by
  unfold jmin
  by_cases h : y < x
  · rw [if_pos h, if_pos (Int32.le_of_lt h)]
  · rw [if_neg h]
    by_cases h2 : y ≤ x
    · rw [if_pos h2]
      exact Int32.le_antisymm (i32_le_lt.mp h) h2
    · rw [if_neg h2]
/-- what the quests' pursuit leaves alone -/
def SmE (μ μ' : Mem) : Prop := (∀ k, k ≠ 0 → k ≠ 7 → k ≠ 19 → μ' k = μ k) ∧ ∀ i, i ≠ 14 → μ' 0 i = μ 0 i
theorem SmE.rf {μ : Mem} : SmE μ μ := ⟨fun _ _ _ _ => rfl, fun _ _ => rfl⟩
theorem SmE.tr {μ μ' μ'' : Mem} (h : SmE μ μ') (h' : SmE μ' μ'') : SmE μ μ'' := ⟨fun k a b c => (h'.1 k a b c).trans (h.1 k a b c), fun i a => (h'.2 i a).trans (h.2 i a)⟩
theorem IW.np {g r : Nat} {μ : Mem} (h : IW g r μ) : pcN μ ≤ 4 ∧ μ 0 5 = nI (pcN μ) := by
  obtain ⟨⟨np, n1, n2, -⟩, -⟩ := h
  have : pcN μ = np := by unfold pcN; rw [n2, N_nI (by omega)]
  rw [this]; exact ⟨n1, n2⟩
theorem IW.nq {g r : Nat} {μ : Mem} (h : IW g r μ) : qcN μ ≤ 3 ∧ μ 0 16 = nI (qcN μ) := by
  obtain ⟨-, ⟨np, n1, n2, -⟩, -⟩ := h
  have : qcN μ = np := by unfold qcN; rw [n2, N_nI (by omega)]
  rw [this]; exact ⟨n1, n2⟩
theorem IW.pl {g r : Nat} {μ : Mem} (h : IW g r μ) {i : Nat} (hi : i < pcN μ) : (∃ q, q < 8 ∧ μ 6 i = nI q) ∧ (∃ q, q ≤ 6 ∧ μ 8 i = nI q) ∧ ∃ q, 1 ≤ q ∧ q ≤ 20 ∧ μ 9 i = nI q := by
  have hn := h.np
  obtain ⟨⟨np, n1, n2, n3, -⟩, -⟩ := h
  have : pcN μ = np := by unfold pcN; rw [n2, N_nI (by omega)]
  exact n3 i (by omega)
/-- a stage is fulfilled: both say the same -/
theorem fulfilled_ok {g r : Nat} {μ : Mem} {a q t L : Nat} {w b : Int32} (hI : IW g r μ) (ha : a < pcN μ) (hq : q < qcN μ) (hL : μ 15 q = nI L) (hL4 : L ≤ 4) (ht : t < L) : ∃ v : Int32, (v = 0 ∨ v = 1) ∧ f_X6_isFulfilled μ (nI (q * 4 + t)) (nI a) w b = some v ∧ ∀ σ, RW σ μ → f_X4_isFulfilled σ (nI (q * 4 + t)) (nI a) w b = some v := by
  have hnp := hI.np
  have hnq := hI.nq
  obtain ⟨-, -, h3, -, -, -, -, h8, -⟩ := id hI
  obtain ⟨L', l1, l2, l3⟩ := h3 q (by omega)
  have hLL : L' = L := nI_inj (by omega) (by omega) (l2.symm.trans hL)
  subst hLL
  obtain ⟨k, k1, k2, k3⟩ := l3 t ht
  obtain ⟨⟨rm, rm1, rm2⟩, -⟩ := hI.pl ha
  have hs : ∀ σ, RW σ μ → σ 21 (q * 4 + t) = nI k ∧ σ 22 (q * 4 + t) = μ 17 (q * 4 + t) ∧ σ 23 (q * 4 + t) = μ 18 (q * 4 + t) ∧ σ 9 a = nI rm ∧ ∀ i, i < 20 → σ 14 i = μ 11 i := fun σ hR => by
    obtain ⟨-, ⟨b0, b⟩, ⟨c1, -⟩, -, ⟨e0, e⟩⟩ := hR
    obtain ⟨-, -, f⟩ := e q hq
    obtain ⟨f1, f2, f3⟩ := f t (by rw [l2, N_nI (by omega)]; exact ht)
    exact ⟨f1.trans k2, f2, f3, (b a ha).1.trans rm2, c1⟩
  have hix : q * 4 + t < 12 := by omega
  have g12 : ∀ {α : Type} (x : Option α), gd (nI (q * 4 + t)) 12 x = x := fun x => gd_ok hix (by decide)
  have g4 : ∀ {α : Type} (x : Option α), gd (nI a) 4 x = x := fun x => gd_ok (by omega) (by decide)
  have hN : (nI (q * 4 + t)).toNatClampNeg = q * 4 + t := N_nI (by omega)
  have hNa : (nI a).toNatClampNeg = a := N_nI (by omega)
  rcases (show k = 0 ∨ k = 1 ∨ k = 2 ∨ k = 3 by omega) with rfl | rfl | rfl | rfl
  · refine ⟨if nI rm = μ 17 (q * 4 + t) then 1 else 0, by split <;> simp, ?_, fun σ hR => ?_⟩
    · unfold f_X6_isFulfilled
      simp only [g12, g4, hN, hNa, k2, rm2, jn_s]
      rw [if_neg (by decide), if_neg (by decide)]
      by_cases hh : nI rm = μ 17 (q * 4 + t)
      · rw [if_pos hh, if_pos (by decide), if_pos hh]
      · rw [if_neg hh, if_neg hh]
    · obtain ⟨s1, s2, s3, s4, s5⟩ := hs σ hR
      unfold f_X4_isFulfilled
      simp only [g12, g4, hN, hNa, s1, s2, s3, s4]
      rw [if_pos (by decide)]
      by_cases hh : nI rm = μ 17 (q * 4 + t)
      · rw [if_pos hh, if_pos hh]
      · rw [if_neg hh, if_neg hh]
  · obtain ⟨f, f1, f2⟩ := k3 rfl
    have hj : a * 5 + f < 20 := by omega
    refine ⟨if μ 11 (a * 5 + f) < μ 18 (q * 4 + t) then 0 else 1, by split <;> simp, ?_, fun σ hR => ?_⟩
    · unfold f_X6_isFulfilled
      simp only [g12, g4, hN, hNa, k2, f2, n5l, gd_ok hj (by decide), N_nI (show a * 5 + f < 2 ^ 31 by omega)]
      rw [if_pos (by decide)]
      by_cases hh : μ 11 (a * 5 + f) < μ 18 (q * 4 + t)
      · rw [if_pos hh, if_pos hh]
      · rw [if_neg hh, if_neg hh]
    · obtain ⟨s1, s2, s3, s4, s5⟩ := hs σ hR
      unfold f_X4_isFulfilled f_X5_goodsAt
      simp only [g12, g4, hN, hNa, s1, s2, s3, f2, n5r, bd_s, gd_ok hj (by decide), N_nI (show a * 5 + f < 2 ^ 31 by omega), s5 _ hj]
      rw [if_neg (by decide), if_pos (by decide)]
      by_cases hh : μ 11 (a * 5 + f) < μ 18 (q * 4 + t)
      · rw [if_pos hh, if_pos hh]
      · rw [if_neg hh, if_neg hh]
  · refine ⟨if w = μ 18 (q * 4 + t) ∧ nI rm = μ 17 (q * 4 + t) then 1 else 0, by split <;> simp, ?_, fun σ hR => ?_⟩
    · unfold f_X6_isFulfilled
      simp only [g12, g4, hN, hNa, k2, rm2, jn_s]
      rw [if_neg (by decide), if_neg (by decide)]
      by_cases hh : nI rm = μ 17 (q * 4 + t)
      · rw [if_pos hh, if_neg (by decide)]
        by_cases hw : w = μ 18 (q * 4 + t)
        · rw [if_pos hw, if_pos ⟨hw, hh⟩]
        · rw [if_neg hw, if_neg (fun z => hw z.1)]
      · rw [if_neg hh, if_neg (fun z => hh z.2)]
    · obtain ⟨s1, s2, s3, s4, s5⟩ := hs σ hR
      unfold f_X4_isFulfilled
      simp only [g12, g4, hN, hNa, s1, s2, s3, s4]
      rw [if_neg (by decide), if_neg (by decide), if_pos (by decide)]
      by_cases hw : w = μ 18 (q * 4 + t)
      · rw [if_pos hw]
        by_cases hh : nI rm = μ 17 (q * 4 + t)
        · rw [if_pos hh, if_pos ⟨hw, hh⟩]
        · rw [if_neg hh, if_neg (fun z => hh z.2)]
      · rw [if_neg hw, if_neg (fun z => hw z.1)]
  · refine ⟨if b = μ 17 (q * 4 + t) then 1 else 0, by split <;> simp, ?_, fun σ hR => ?_⟩
    · unfold f_X6_isFulfilled
      simp only [g12, g4, hN, hNa, k2]
      rw [if_neg (by decide), if_pos (by decide)]
      by_cases hh : b = μ 17 (q * 4 + t)
      · rw [if_pos hh, if_pos hh]
      · rw [if_neg hh, if_neg hh]
    · obtain ⟨s1, s2, s3, s4, s5⟩ := hs σ hR
      unfold f_X4_isFulfilled
      simp only [g12, g4, hN, hNa, s1, s2, s3, s4]
      rw [if_neg (by decide), if_neg (by decide), if_neg (by decide)]
      by_cases hh : b = μ 17 (q * 4 + t)
      · rw [if_pos hh, if_pos hh]
      · rw [if_neg hh, if_neg hh]
