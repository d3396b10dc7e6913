theorem sem_take {c a T : Nat} {μ : Mem} (h : AC c a T μ) {q : Nat} (q1 : q < 5) : AR ok13 c a μ (f_X6_take μ (nI q)) (fun cost v μ5 μ'' => cost = 1 ∧ μ5 10 = μ 10 ∧ μ5 6 = μ 6 ∧ v = μ'' 11 (a * 5 + q)) := by
  obtain ⟨hI, h23, hc, Q, K, hT, ha, a3⟩ := h
  have hnp := hI.np
  obtain ⟨⟨rm, rm1, rm2⟩, -⟩ := hI.pl ha
  have g4 : ∀ {α : Type} (x : Option α), gd (nI a) 4 x = x := fun x => gd_ok (by omega) (by decide)
  have hNa : (nI a).toNatClampNeg = a := N_nI (by omega)
  have hNr : (nI rm).toNatClampNeg = rm := N_nI (by omega)
  have g8 : ∀ {α : Type} (x : Option α), gd (nI rm) 8 x = x := fun x => gd_ok rm1 (by decide)
  have am1 : (nI a = -1) = False := nI_m1 (show a < 2 ^ 31 by omega)
  have m1 := kindI q q1
  have hf : rm * 5 + q < 40 := by omega
  have gf : ∀ {α : Type} (x : Option α), gd (nI (rm * 5 + q)) 40 x = x := fun x => gd_ok hf (by decide)
  have hNf : (nI (rm * 5 + q)).toNatClampNeg = rm * 5 + q := N_nI (by omega)
  have hg : a * 5 + q < 20 := by omega
  have gg : ∀ {α : Type} (x : Option α), gd (nI (a * 5 + q)) 20 x = x := fun x => gd_ok hg (by decide)
  have hNg : (nI (a * 5 + q)).toNatClampNeg = a * 5 + q := N_nI (by omega)
  obtain ⟨-, -, -, -, -, hI6, hI7, hI8, -⟩ := id hI
  obtain ⟨F, F1, F2⟩ := hI6 _ hf
  obtain ⟨S, S1, S2⟩ := hI7 _ hf
  obtain ⟨G, G1, G2⟩ := hI8 _ hg
  unfold f_X6_take
  by_cases hz : F = 0
  · subst hz
    have z0 : (nI 0 = (0 : Int32)) = True := by decide
    exact Or.inl ⟨2, by decide, ok13_2, by simp only [a3, bd_s, m1, i10, if_false, jn_s, am1, g4, hNa, rm2, n5l, gf, hNf, F2, gg, hNg, G2, z0, if_true, can_ok, i20, bd2_s, i00]⟩
  · have z0 : (nI F = (0 : Int32)) = False := eq_false fun h => hz (nI_inj (a := F) (b := 0) (by omega) (by omega) h)
    have zm : nI F - 1 = nI (F - 1) := pk_sub (a := F) (b := 1) (by omega)
    obtain ⟨μ5, hμ5⟩ : ∃ μ5, μ5 = mu (mu (mu μ 0 29 0) 2 (rm * 5 + q) (nI (F - 1))) 11 (a * 5 + q) (nI (G + 1)) := ⟨_, rfl⟩
    have e : ∀ k, k ≠ 0 → k ≠ 2 → k ≠ 11 → μ5 k = μ k := fun k k1 k2 k3 => by rw [hμ5, mu_n k3, mu_n k2, mu_n k1]
    have e0 : ∀ i, i ≠ 29 → μ5 0 i = μ 0 i := fun i hi => by rw [hμ5, mu_n (by decide), mu_n (by decide), mu_pl hi]
    have e11 : μ5 11 = upd (μ 11) (a * 5 + q) (μ 11 (a * 5 + q) + 1) := by rw [hμ5, mu_s, mu_n (by decide), mu_n (by decide), G2, nI_1]
    have e2 : μ5 2 = upd (μ 2) (rm * 5 + q) (μ 2 (rm * 5 + q) + -1) := by rw [hμ5, mu_n (by decide), mu_s, mu_n (by decide), F2, ← Int32.sub_eq_add_neg, zm]
    have hpc : pcN μ5 = pcN μ := by unfold pcN; rw [e0 5 (by decide)]
    refine ar_end (μ5 := μ5) (t := 1) (w := -1) (b := -1) (fun μ'' => μ'' 11 (a * 5 + q)) (by rw [hμ5]; exact (((hI.thrown 0).mono (Nat.le_add_right c 1) (Nat.le_add_right _ 10)).floor _ ⟨F - 1, by omega, rfl⟩).goods _ ⟨G + 1, by omega, rfl⟩) hc ((e0 23 (by decide)).trans h23) (by rw [hμ5, mu_n (by decide), mu_n (by decide), mu_at]) (by rw [hpc]; exact ha) (by decide) (fun q hq => by rw [e 14 (by decide) (by decide) (by decide)]; exact Q.2.2.2.1 q hq) ⟨⟨e 1 (by decide) (by decide) (by decide), e 4 (by decide) (by decide) (by decide), e 14 (by decide) (by decide) (by decide), e 15 (by decide) (by decide) (by decide), e 19 (by decide) (by decide) (by decide)⟩, fun i _ _ h3 => e0 i h3, fun r _ => by rw [e 3 (by decide) (by decide) (by decide)], fun T _ hk => hk.same (e0 14 (by decide)) (e0 5 (by decide)) (e 7 (by decide) (by decide) (by decide)) (e 3 (by decide) (by decide) (by decide)), gsum_gf (e0 5 (by decide)) q1 ha rm1 e11 e2 (e 5 (by decide) (by decide) (by decide)) dm1, fun j hj _ => by rw [e11, upd_n (by omega)]⟩ (fun μ'' hq _ => ?_) (fun μ'' _ => ⟨rfl, e 10 (by decide) (by decide) (by decide), e 6 (by decide) (by decide) (by decide), rfl⟩)
    simp only [a3, bd_s, m1, i10, if_false, jn_s, am1, g4, hNa, rm2, n5l, gf, hNf, F2, gg, hNg, G2, z0, can_ok, i00, if_true, bd2_s, stp_s, mu_n (show (6 : Nat) ≠ 0 by decide), mu_n (show (2 : Nat) ≠ 0 by decide), mu_n (show (11 : Nat) ≠ 0 by decide), mu_n (show (11 : Nat) ≠ 2 by decide), mu_n (show (2 : Nat) ≠ 11 by decide), mu_n (show (6 : Nat) ≠ 11 by decide), zm, nI_1]
    rw [← hμ5, show f_X6_ends μ5 (nI a) 1 (-1) (-1) = some μ'' from hq, bd_s]
theorem sem_drop {c a T : Nat} {μ : Mem} (h : AC c a T μ) {q : Nat} (q1 : q < 5) : AR ok13 c a μ (f_X6_drop μ (nI q)) (fun cost v μ5 μ'' => cost = 1 ∧ μ5 10 = μ 10 ∧ μ5 6 = μ 6 ∧ v = μ'' 11 (a * 5 + q)) := by
  obtain ⟨hI, h23, hc, Q, K, hT, ha, a3⟩ := h
  have hnp := hI.np
  obtain ⟨⟨rm, rm1, rm2⟩, -⟩ := hI.pl ha
  have g4 : ∀ {α : Type} (x : Option α), gd (nI a) 4 x = x := fun x => gd_ok (by omega) (by decide)
  have hNa : (nI a).toNatClampNeg = a := N_nI (by omega)
  have hNr : (nI rm).toNatClampNeg = rm := N_nI (by omega)
  have g8 : ∀ {α : Type} (x : Option α), gd (nI rm) 8 x = x := fun x => gd_ok rm1 (by decide)
  have am1 : (nI a = -1) = False := nI_m1 (show a < 2 ^ 31 by omega)
  have m1 := kindI q q1
  have hf : rm * 5 + q < 40 := by omega
  have gf : ∀ {α : Type} (x : Option α), gd (nI (rm * 5 + q)) 40 x = x := fun x => gd_ok hf (by decide)
  have hNf : (nI (rm * 5 + q)).toNatClampNeg = rm * 5 + q := N_nI (by omega)
  have hg : a * 5 + q < 20 := by omega
  have gg : ∀ {α : Type} (x : Option α), gd (nI (a * 5 + q)) 20 x = x := fun x => gd_ok hg (by decide)
  have hNg : (nI (a * 5 + q)).toNatClampNeg = a * 5 + q := N_nI (by omega)
  obtain ⟨-, -, -, -, -, hI6, hI7, hI8, -⟩ := id hI
  obtain ⟨F, F1, F2⟩ := hI6 _ hf
  obtain ⟨S, S1, S2⟩ := hI7 _ hf
  obtain ⟨G, G1, G2⟩ := hI8 _ hg
  unfold f_X6_drop
  by_cases hz : G = 0
  · subst hz
    have z0 : (nI 0 = (0 : Int32)) = True := by decide
    exact Or.inl ⟨2, by decide, ok13_2, by simp only [a3, bd_s, m1, i10, if_false, jn_s, am1, g4, hNa, rm2, n5l, gf, hNf, F2, gg, hNg, G2, z0, if_true, can_ok, i20, bd2_s, i00]⟩
  · have z0 : (nI G = (0 : Int32)) = False := eq_false fun h => hz (nI_inj (a := G) (b := 0) (by omega) (by omega) h)
    have zm : nI G - 1 = nI (G - 1) := pk_sub (a := G) (b := 1) (by omega)
    obtain ⟨μ5, hμ5⟩ : ∃ μ5, μ5 = mu (mu (mu μ 0 29 0) 11 (a * 5 + q) (nI (G - 1))) 2 (rm * 5 + q) (nI (F + 1)) := ⟨_, rfl⟩
    have e : ∀ k, k ≠ 0 → k ≠ 2 → k ≠ 11 → μ5 k = μ k := fun k k1 k2 k3 => by rw [hμ5, mu_n k2, mu_n k3, mu_n k1]
    have e0 : ∀ i, i ≠ 29 → μ5 0 i = μ 0 i := fun i hi => by rw [hμ5, mu_n (by decide), mu_n (by decide), mu_pl hi]
    have e11 : μ5 11 = upd (μ 11) (a * 5 + q) (μ 11 (a * 5 + q) + -1) := by rw [hμ5, mu_n (by decide), mu_s, mu_n (by decide), G2, ← Int32.sub_eq_add_neg, zm]
    have e2 : μ5 2 = upd (μ 2) (rm * 5 + q) (μ 2 (rm * 5 + q) + 1) := by rw [hμ5, mu_s, mu_n (by decide), mu_n (by decide), F2, nI_1]
    have hpc : pcN μ5 = pcN μ := by unfold pcN; rw [e0 5 (by decide)]
    refine ar_end (μ5 := μ5) (t := 1) (w := -1) (b := -1) (fun μ'' => μ'' 11 (a * 5 + q)) (by rw [hμ5]; exact (((hI.thrown 0).mono (Nat.le_add_right c 1) (Nat.le_add_right _ 10)).goods _ ⟨G - 1, by omega, rfl⟩).floor _ ⟨F + 1, by omega, rfl⟩) hc ((e0 23 (by decide)).trans h23) (by rw [hμ5, mu_n (by decide), mu_n (by decide), mu_at]) (by rw [hpc]; exact ha) (by decide) (fun q hq => by rw [e 14 (by decide) (by decide) (by decide)]; exact Q.2.2.2.1 q hq) ⟨⟨e 1 (by decide) (by decide) (by decide), e 4 (by decide) (by decide) (by decide), e 14 (by decide) (by decide) (by decide), e 15 (by decide) (by decide) (by decide), e 19 (by decide) (by decide) (by decide)⟩, fun i _ _ h3 => e0 i h3, fun r _ => by rw [e 3 (by decide) (by decide) (by decide)], fun T _ hk => hk.same (e0 14 (by decide)) (e0 5 (by decide)) (e 7 (by decide) (by decide) (by decide)) (e 3 (by decide) (by decide) (by decide)), gsum_gf (e0 5 (by decide)) q1 ha rm1 e11 e2 (e 5 (by decide) (by decide) (by decide)) dm2, fun j hj _ => by rw [e11, upd_n (by omega)]⟩ (fun μ'' hq _ => ?_) (fun μ'' _ => ⟨rfl, e 10 (by decide) (by decide) (by decide), e 6 (by decide) (by decide) (by decide), rfl⟩)
    simp only [a3, bd_s, m1, i10, if_false, jn_s, am1, g4, hNa, rm2, n5l, gf, hNf, F2, gg, hNg, G2, z0, can_ok, i00, if_true, bd2_s, stp_s, mu_n (show (6 : Nat) ≠ 0 by decide), mu_n (show (2 : Nat) ≠ 0 by decide), mu_n (show (11 : Nat) ≠ 0 by decide), mu_n (show (11 : Nat) ≠ 2 by decide), mu_n (show (2 : Nat) ≠ 11 by decide), mu_n (show (6 : Nat) ≠ 11 by decide), zm, nI_1]
    rw [← hμ5, show f_X6_ends μ5 (nI a) 1 (-1) (-1) = some μ'' from hq, bd_s]
theorem away_cases {g r a q : Nat} {μ : Mem} (hI : IW g r μ) (ha : a < pcN μ) (hq : q < pcN μ) : (q ≠ a ∧ μ 6 q = μ 6 a ∧ f_X6_isAway μ (nI a) (nI q) = some 0) ∨ f_X6_isAway μ (nI a) (nI q) = some 1 := by
  have hnp := hI.np
  have g4 : ∀ {α : Type} (x : Option α), gd (nI a) 4 x = x := fun x => gd_ok (by omega) (by decide)
  have g4q : ∀ {α : Type} (x : Option α), gd (nI q) 4 x = x := fun x => gd_ok (by omega) (by decide)
  have hNa : (nI a).toNatClampNeg = a := N_nI (by omega)
  have hNq : (nI q).toNatClampNeg = q := N_nI (by omega)
  unfold f_X6_isAway
  simp only [jn_s, nI_m1 (show a < 2 ^ 31 by omega), if_false, g4, g4q, hNa, hNq]
  by_cases h : nI q = nI a
  · exact Or.inr (by rw [if_pos h])
  · by_cases h6 : μ 6 q = μ 6 a
    · exact Or.inl ⟨fun e => h (by rw [e]), h6, by rw [if_neg h, if_pos h6]⟩
    · exact Or.inr (by rw [if_neg h, if_neg h6])
theorem pl_cases {g r : Nat} {μ : Mem} (hI : IW g r μ) (pl : Nat) (h4 : pl < 5) : (pl < pcN μ ∧ f_X6_isPlayer μ (nI pl) = some 1) ∨ f_X6_isPlayer μ (nI pl) = some 0 := by
  have hm := hI.np
  unfold f_X6_isPlayer
  rw [hm.2]
  rcases below_cases (nI pl) (pcN μ) (by omega) with ⟨q, q1, q2, -, -, q5⟩ | ⟨-, h2⟩
  · have := nI_inj (by omega) (by omega) q2
    subst this
    exact Or.inl ⟨q1, by rw [q5]; rfl⟩
  · exact Or.inr (by rw [h2]; rfl)
theorem sem_give {c a T : Nat} {μ : Mem} (h : AC c a T μ) {pl q : Nat} (h4 : pl < 5) (q1 : q < 5) : AR ok13 c a μ (f_X6_give μ (nI pl) (nI q)) (fun cost v μ5 μ'' => cost = 1 ∧ μ5 10 = μ 10 ∧ μ5 6 = μ 6 ∧ v = μ'' 11 (a * 5 + q)) := by
  obtain ⟨hI, h23, hc, Q, K, hT, ha, a3⟩ := h
  have hnp := hI.np
  obtain ⟨⟨rm, rm1, rm2⟩, -⟩ := hI.pl ha
  have g4 : ∀ {α : Type} (x : Option α), gd (nI a) 4 x = x := fun x => gd_ok (by omega) (by decide)
  have hNa : (nI a).toNatClampNeg = a := N_nI (by omega)
  have hNr : (nI rm).toNatClampNeg = rm := N_nI (by omega)
  have g8 : ∀ {α : Type} (x : Option α), gd (nI rm) 8 x = x := fun x => gd_ok rm1 (by decide)
  have am1 : (nI a = -1) = False := nI_m1 (show a < 2 ^ 31 by omega)
  have m1 := kindI q q1
  have hf : rm * 5 + q < 40 := by omega
  have gf : ∀ {α : Type} (x : Option α), gd (nI (rm * 5 + q)) 40 x = x := fun x => gd_ok hf (by decide)
  have hNf : (nI (rm * 5 + q)).toNatClampNeg = rm * 5 + q := N_nI (by omega)
  have hg : a * 5 + q < 20 := by omega
  have gg : ∀ {α : Type} (x : Option α), gd (nI (a * 5 + q)) 20 x = x := fun x => gd_ok hg (by decide)
  have hNg : (nI (a * 5 + q)).toNatClampNeg = a * 5 + q := N_nI (by omega)
  obtain ⟨-, -, -, -, -, hI6, hI7, hI8, -⟩ := id hI
  obtain ⟨F, F1, F2⟩ := hI6 _ hf
  obtain ⟨S, S1, S2⟩ := hI7 _ hf
  obtain ⟨G, G1, G2⟩ := hI8 _ hg
  unfold f_X6_give
  rcases pl_cases hI pl h4 with ⟨p1, pm⟩ | pm
  · rcases away_cases hI ha p1 with ⟨c1, -, c4⟩ | c4
    · by_cases hz : G = 0
      · subst hz
        have z0 : (nI 0 = (0 : Int32)) = True := by decide
        exact Or.inl ⟨2, by decide, ok13_2, by simp only [a3, bd_s, pm, m1, c4, i10, i00, if_true, if_false, jn_s, n5l, gg, hNg, G2, z0, can_ok, i20, bd2_s]⟩
      · have z0 : (nI G = (0 : Int32)) = False := eq_false fun h => hz (nI_inj (a := G) (b := 0) (by omega) (by omega) h)
        have zm : nI G - 1 = nI (G - 1) := pk_sub (a := G) (b := 1) (by omega)
        have hgp : pl * 5 + q < 20 := by omega
        have ggp : ∀ {α : Type} (x : Option α), gd (nI (pl * 5 + q)) 20 x = x := fun x => gd_ok hgp (by decide)
        have hNgp : (nI (pl * 5 + q)).toNatClampNeg = pl * 5 + q := N_nI (by omega)
        have hne : pl * 5 + q ≠ a * 5 + q := by omega
        obtain ⟨P, P1, P2⟩ := hI8 _ hgp
        obtain ⟨μ5, hμ5⟩ : ∃ μ5, μ5 = mu (mu (mu μ 0 29 0) 11 (a * 5 + q) (nI (G - 1))) 11 (pl * 5 + q) (nI (P + 1)) := ⟨_, rfl⟩
        have e : ∀ k, k ≠ 0 → k ≠ 11 → μ5 k = μ k := fun k k1 k2 => by rw [hμ5, mu_n k2, mu_n k2, mu_n k1]
        have e0 : ∀ i, i ≠ 29 → μ5 0 i = μ 0 i := fun i hi => by rw [hμ5, mu_n (by decide), mu_n (by decide), mu_pl hi]
        have e11 : μ5 11 = upd (upd (μ 11) (a * 5 + q) (μ 11 (a * 5 + q) + -1)) (pl * 5 + q) (upd (μ 11) (a * 5 + q) (μ 11 (a * 5 + q) + -1) (pl * 5 + q) + 1) := by rw [hμ5, mu_s, mu_s, mu_n (by decide), G2, ← Int32.sub_eq_add_neg, zm, upd_n hne, P2, nI_1]
        have hpc : pcN μ5 = pcN μ := by unfold pcN; rw [e0 5 (by decide)]
        refine ar_end (μ5 := μ5) (t := 1) (w := -1) (b := -1) (fun μ'' => μ'' 11 (a * 5 + q)) (by rw [hμ5]; exact (((hI.thrown 0).mono (Nat.le_add_right c 1) (Nat.le_add_right _ 10)).goods _ ⟨G - 1, by omega, rfl⟩).goods _ ⟨P + 1, by omega, rfl⟩) hc ((e0 23 (by decide)).trans h23) (by rw [hμ5, mu_n (by decide), mu_n (by decide), mu_at]) (by rw [hpc]; exact ha) (by decide) (fun q hq => by rw [e 14 (by decide) (by decide)]; exact Q.2.2.2.1 q hq) ⟨⟨e 1 (by decide) (by decide), e 4 (by decide) (by decide), e 14 (by decide) (by decide), e 15 (by decide) (by decide), e 19 (by decide) (by decide)⟩, fun i _ _ h3 => e0 i h3, fun r _ => by rw [e 3 (by decide) (by decide)], fun T _ hk => hk.same (e0 14 (by decide)) (e0 5 (by decide)) (e 7 (by decide) (by decide)) (e 3 (by decide) (by decide)), gsum_gg (e0 5 (by decide)) q1 ha p1 rfl e11 (e 2 (by decide) (by decide)) (e 5 (by decide) (by decide)) dm2, fun j hj _ => by rw [e11, upd_n (by omega), upd_n (by omega)]⟩ (fun μ'' hq _ => ?_) (fun μ'' _ => ⟨rfl, e 10 (by decide) (by decide), e 6 (by decide) (by decide), rfl⟩)
        simp only [a3, bd_s, pm, m1, c4, i10, i00, if_true, if_false, jn_s, n5l, gg, hNg, G2, z0, can_ok, bd2_s, stp_s, ggp, hNgp, mu_n (show (11 : Nat) ≠ 0 by decide), zm, mu_pl hne, P2, nI_1]
        rw [← hμ5, show f_X6_ends μ5 (nI a) 1 (-1) (-1) = some μ'' from hq, bd_s]
    · exact Or.inl ⟨2, by decide, ok13_2, by simp only [a3, bd_s, pm, m1, c4, i10, i00, if_true, if_false, jn_s, can_ok, i20, bd2_s]⟩
  · exact Or.inl ⟨1, by decide, ok13_1, by simp only [a3, bd_s, pm, jn_s, can_ok, i10, i00, if_true, if_false, bd2_s]⟩
/-- coins from one to another -/
theorem WK2.move {T a b m : Nat} {μ μ5 : Mem} (K : WK2 T μ) (ha : a < pcN μ) (hb : b < pcN μ) (hab : b ≠ a) (e5 : μ5 0 5 = μ 0 5) (e14 : μ5 0 14 = μ 0 14) (e3 : μ5 3 = μ 3) (hm : ∀ x, μ 7 a = nI x → x ≤ T → m ≤ x) (e7 : μ5 7 = upd (upd (μ 7) a (μ 7 a - nI m)) b (μ 7 b + nI m)) : WK2 T μ5 := by
  obtain ⟨cn, tn, pu, h1, h2, h3, h4⟩ := K
  have hpc : pcN μ5 = pcN μ := by unfold pcN; rw [e5]
  have hle : m ≤ cn a := hm (cn a) (h1 a ha) (by have := ns_le (f := cn) (pcN μ) a ha; omega)
  refine ⟨fun k => if k = b then cn b + m else (if k = a then cn a - m else cn k), tn, pu, fun k hk => ?_, by rw [e3]; exact h2, e14.trans h3, ?_⟩
  · show μ5 7 k = nI (if k = b then cn b + m else (if k = a then cn a - m else cn k))
    rw [e7]
    by_cases q : k = b
    · subst q; rw [if_pos rfl, upd_s, h1 k hb, nI_add]
    · rw [if_neg q, upd_n q]
      by_cases q2 : k = a
      · subst q2; rw [if_pos rfl, upd_s, h1 k ha, pk_sub hle]
      · rw [if_neg q2, upd_n q2]; exact h1 k (by rw [← hpc]; exact hk)
  · rw [hpc]
    have u1 := ns_upd (f := fun k => if k = a then cn a - m else cn k) (j := b) (v := cn b + m) (pcN μ) hb
    have u2 := ns_upd (f := cn) (j := a) (v := cn a - m) (pcN μ) ha
    have u3 : (if b = a then cn a - m else cn b) = cn b := if_neg hab
    have u1 : ns (fun k => if k = b then cn b + m else (if k = a then cn a - m else cn k)) (pcN μ) + (if b = a then cn a - m else cn b) = ns (fun k => if k = a then cn a - m else cn k) (pcN μ) + (cn b + m) := u1
    rw [u3] at u1
    omega
theorem sem_pay {c a T : Nat} {μ : Mem} (h : AC c a T μ) {pl d : Nat} (h4 : pl < 5) (d1 : 1 ≤ d) (d2 : d ≤ 1000) : AR ok123 c a μ (f_X6_pay μ (nI pl) (nI d)) (fun cost v μ5 μ'' => cost = 1 ∧ μ5 10 = μ 10 ∧ μ5 6 = μ 6 ∧ v = μ'' 7 a) := by
  obtain ⟨hI, h23, hc, Q, K, hT, ha, a3⟩ := h
  have hnp := hI.np
  obtain ⟨⟨rm, rm1, rm2⟩, -⟩ := hI.pl ha
  have g4 : ∀ {α : Type} (x : Option α), gd (nI a) 4 x = x := fun x => gd_ok (by omega) (by decide)
  have hNa : (nI a).toNatClampNeg = a := N_nI (by omega)
  have hNr : (nI rm).toNatClampNeg = rm := N_nI (by omega)
  have g8 : ∀ {α : Type} (x : Option α), gd (nI rm) 8 x = x := fun x => gd_ok rm1 (by decide)
  have am1 : (nI a = -1) = False := nI_m1 (show a < 2 ^ 31 by omega)
  have m1 : f_X6_isIn (nI d) 1 1000 = some 1 := by
    rcases isIn_ok (nI d) 1 1000 (by decide) (by decide) with ⟨-, -, -, -, -, -, h⟩ | ⟨h, -⟩
    · exact h
    · rcases h with h | h
      · exact absurd h (i32_le_lt.mpr (nI_le d1 (by omega)))
      · exact absurd h (i32_le_lt.mpr (nI_le d2 (by decide)))
  unfold f_X6_pay
  rcases pl_cases hI pl h4 with ⟨p1, pm⟩ | pm
  · have g4p : ∀ {α : Type} (x : Option α), gd (nI pl) 4 x = x := fun x => gd_ok (by omega) (by decide)
    have hNp : (nI pl).toNatClampNeg = pl := N_nI (by omega)
    rcases away_cases hI ha p1 with ⟨c1, -, c4⟩ | c4
    · by_cases hz : nI d ≤ μ 7 a
      · obtain ⟨μ5, hμ5⟩ : ∃ μ5, μ5 = mu (mu (mu μ 0 29 0) 7 a (μ 7 a - nI d)) 7 pl (μ 7 pl + nI d) := ⟨_, rfl⟩
        have e : ∀ k, k ≠ 0 → k ≠ 7 → μ5 k = μ k := fun k k1 k2 => by rw [hμ5, mu_n k2, mu_n k2, mu_n k1]
        have e0 : ∀ i, i ≠ 29 → μ5 0 i = μ 0 i := fun i hi => by rw [hμ5, mu_n (by decide), mu_n (by decide), mu_pl hi]
        have hpc : pcN μ5 = pcN μ := by unfold pcN; rw [e0 5 (by decide)]
        refine ar_end (μ5 := μ5) (t := 1) (w := -1) (b := -1) (fun μ'' => μ'' 7 a) (by rw [hμ5]; exact (((hI.thrown 0).mono (Nat.le_add_right c 1) (Nat.le_add_right _ 10)).coins _ _).coins _ _) hc ((e0 23 (by decide)).trans h23) (by rw [hμ5, mu_n (by decide), mu_n (by decide), mu_at]) (by rw [hpc]; exact ha) (by decide) (fun q hq => by rw [e 14 (by decide) (by decide)]; exact Q.2.2.2.1 q hq) ⟨⟨e 1 (by decide) (by decide), e 4 (by decide) (by decide), e 14 (by decide) (by decide), e 15 (by decide) (by decide), e 19 (by decide) (by decide)⟩, fun i _ _ h3 => e0 i h3, fun r _ => by rw [e 3 (by decide) (by decide)], fun T' hT' hk => hk.move (m := d) ha p1 c1 (e0 5 (by decide)) (e0 14 (by decide)) (e 3 (by decide) (by decide)) (fun x hx hxT => Nat.le_of_not_lt fun z => by
          rw [hx] at hz
          exact nI_ge z (by omega) hz) (by rw [hμ5, mu_s, mu_s, mu_n (by decide)]), fun q _ => gsum_same (e0 5 (by decide)) (e 11 (by decide) (by decide)) (e 2 (by decide) (by decide)) (e 5 (by decide) (by decide)) q, fun j _ _ => by rw [e 11 (by decide) (by decide)]⟩ (fun μ'' hq _ => ?_) (fun μ'' _ => ⟨rfl, e 10 (by decide) (by decide), e 6 (by decide) (by decide), rfl⟩)
        simp only [a3, bd_s, pm, m1, c4, i10, i00, if_true, if_false, jn_s, g4, hNa, if_pos hz, can_ok, bd2_s, stp_s, g4p, hNp, mu_n (show (7 : Nat) ≠ 0 by decide), mu_pl c1]
        rw [← hμ5, show f_X6_ends μ5 (nI a) 1 (-1) (-1) = some μ'' from hq, bd_s]
      · exact Or.inl ⟨3, by decide, ok123_3, by simp only [a3, bd_s, pm, m1, c4, i10, i00, if_true, if_false, jn_s, g4, hNa, if_neg hz, can_ok, i30, bd2_s]⟩
    · exact Or.inl ⟨3, by decide, ok123_3, by simp only [a3, bd_s, pm, m1, c4, i10, i00, if_true, if_false, jn_s, can_ok, i30, bd2_s]⟩
  · exact Or.inl ⟨1, by decide, ok123_1, by simp only [a3, bd_s, pm, jn_s, can_ok, i10, i00, if_true, if_false, bd2_s]⟩
theorem ok3_1 : ∀ e, ok3 e 1 → e = 1 ∨ e = 3 := fun _ h => Or.inr h.1
theorem sem_rest {c a T : Nat} {μ : Mem} (h : AC c a T μ) : AR ok3 c a μ (f_X6_rest μ) (fun cost v μ5 μ'' => cost = 2 ∧ μ5 10 = μ 10 ∧ μ5 6 = μ 6 ∧ v = μ'' 9 a) := by
  obtain ⟨hI, h23, hc, Q, K, hT, ha, a3⟩ := h
  have hnp := hI.np
  obtain ⟨⟨rm, rm1, rm2⟩, -⟩ := hI.pl ha
  have g4 : ∀ {α : Type} (x : Option α), gd (nI a) 4 x = x := fun x => gd_ok (by omega) (by decide)
  have hNa : (nI a).toNatClampNeg = a := N_nI (by omega)
  have hNr : (nI rm).toNatClampNeg = rm := N_nI (by omega)
  have g8 : ∀ {α : Type} (x : Option α), gd (nI rm) 8 x = x := fun x => gd_ok rm1 (by decide)
  have am1 : (nI a = -1) = False := nI_m1 (show a < 2 ^ 31 by omega)
  obtain ⟨-, -, ⟨hh, h1, h2, h3⟩⟩ := hI.pl ha
  obtain ⟨h', hh1, hh2, hh3⟩ : ∃ h', 1 ≤ h' ∧ h' ≤ 20 ∧ (if 20 ≤ nI hh then nI hh + 0 else nI hh + 1) = nI h' := by
    rw [Int32.add_zero, nI_1]
    by_cases e : hh = 20
    · subst e; exact ⟨20, by omega, by omega, by decide⟩
    · exact ⟨hh + 1, by omega, by omega, by rw [if_neg (show ¬ (20 : Int32) ≤ nI hh from nI_ge (a := hh) (b := 20) (by omega) (by omega))]⟩
  unfold f_X6_rest
  obtain ⟨μ5, hμ5⟩ : ∃ μ5, μ5 = mu (mu μ 0 29 0) 9 a (nI h') := ⟨_, rfl⟩
  have e : ∀ k, k ≠ 0 → k ≠ 9 → μ5 k = μ k := fun k k1 k2 => by rw [hμ5, mu_n k2, mu_n k1]
  have e0 : ∀ i, i ≠ 29 → μ5 0 i = μ 0 i := fun i hi => by rw [hμ5, mu_n (by decide), mu_pl hi]
  have hpc : pcN μ5 = pcN μ := by unfold pcN; rw [e0 5 (by decide)]
  refine ar_end (μ5 := μ5) (t := 2) (w := -1) (b := -1) (fun μ'' => μ'' 9 a) (by rw [hμ5]; exact ((hI.thrown 0).mono (Nat.le_add_right c 1) (Nat.le_add_right _ 10)).health _ ⟨h', hh1, hh2, rfl⟩) hc ((e0 23 (by decide)).trans h23) (by rw [hμ5, mu_n (by decide), mu_at]) (by rw [hpc]; exact ha) (by decide) (fun q hq => by rw [e 14 (by decide) (by decide)]; exact Q.2.2.2.1 q hq) ⟨⟨e 1 (by decide) (by decide), e 4 (by decide) (by decide), e 14 (by decide) (by decide), e 15 (by decide) (by decide), e 19 (by decide) (by decide)⟩, fun i _ _ h3 => e0 i h3, fun r _ => by rw [e 3 (by decide) (by decide)], fun T _ hk => hk.same (e0 14 (by decide)) (e0 5 (by decide)) (e 7 (by decide) (by decide)) (e 3 (by decide) (by decide)), fun q _ => gsum_same (e0 5 (by decide)) (e 11 (by decide) (by decide)) (e 2 (by decide) (by decide)) (e 5 (by decide) (by decide)) q, fun j _ _ => by rw [e 11 (by decide) (by decide)]⟩ (fun μ'' hq _ => ?_) (fun μ'' _ => ⟨rfl, e 10 (by decide) (by decide), e 6 (by decide) (by decide), rfl⟩)
  simp only [a3, bd_s, i10, if_false, jn_s, am1, g4, hNa, can_ok, i00, if_true, bd2_s, stp_s, mu_n (show (9 : Nat) ≠ 0 by decide), h3]
  have fin : bd (f_X6_ends μ5 (nI a) 2 (-1) (-1)) (fun σ14 => some (σ14 9 a, σ14)) = some (μ'' 9 a, μ'') := by
    rw [show f_X6_ends μ5 (nI a) 2 (-1) (-1) = some μ'' from hq, bd_s]
  by_cases e : (20 : Int32) ≤ nI hh
  · rw [if_pos e] at hh3
    rw [if_pos e, hh3, ← hμ5]; exact fin
  · rw [if_neg e] at hh3
    rw [if_neg e, hh3, ← hμ5]; exact fin
