/-- coins between a player and a till -/
theorem WK2.trade {T r a x' y' : Nat} {μ μ5 : Mem} (K : WK2 T μ) (ha : a < pcN μ) (hr : r < 8) (h3 : μ 3 r ≠ -1) (e5 : μ5 0 5 = μ 0 5) (e14 : μ5 0 14 = μ 0 14) (hxy : ∀ x y, x ≤ T → y ≤ T → μ 7 a = nI x → μ 3 r = nI y → x' + y' = x + y) (e7 : μ5 7 = upd (μ 7) a (nI x')) (e3 : μ5 3 = upd (μ 3) r (nI y')) : WK2 T μ5 := by
  obtain ⟨cn, tn, pu, h1, h2, h4, h5⟩ := K
  have hpc : pcN μ5 = pcN μ := by unfold pcN; rw [e5]
  have l1 := ns_le (f := cn) (pcN μ) a ha
  have l2 := ns_le (f := tn) 8 r hr
  have ht : μ 3 r = nI (tn r) := (h2 r hr).resolve_left fun z => h3 z.1
  have hs := hxy (cn a) (tn r) (by omega) (by omega) (h1 a ha) ht
  refine ⟨fun k => if k = a then x' else cn k, fun k => if k = r then y' else tn k, pu, fun k hk => ?_, fun k hk => ?_, e14.trans h4, ?_⟩
  · show μ5 7 k = nI (if k = a then x' else cn k)
    rw [e7]
    by_cases q : k = a
    · subst q; rw [if_pos rfl, upd_s]
    · rw [if_neg q, upd_n q]; exact h1 k (by rw [← hpc]; exact hk)
  · show (μ5 3 k = -1 ∧ (if k = r then y' else tn k) = 0) ∨ μ5 3 k = nI (if k = r then y' else tn k)
    rw [e3]
    by_cases q : k = r
    · subst q; rw [if_pos rfl, upd_s]; exact Or.inr rfl
    · rw [if_neg q, upd_n q]; exact h2 k hk
  · rw [hpc]
    have u1 := ns_upd (f := cn) (j := a) (v := x') (pcN μ) ha
    have u2 := ns_upd (f := tn) (j := r) (v := y') 8 hr
    omega
theorem sem_buy {c a T : Nat} {μ : Mem} (h : AC c a T μ) {q : Nat} (q1 : q < 5) : AR ok13 c a μ (f_X6_buy μ (nI q)) (fun cost v μ5 μ'' => cost = 1 ∧ μ5 10 = μ 10 ∧ μ5 6 = μ 6 ∧ v = μ'' 7 a) := by
  obtain ⟨hI, h23, hc, Q, K, hT, ha, a3⟩ := h
  have hnp := hI.np
  obtain ⟨⟨rm, rm1, rm2⟩, -⟩ := hI.pl ha
  have g4 : ∀ {α : Type} (x : Option α), gd (nI a) 4 x = x := fun x => gd_ok (by omega) (by decide)
  have hNa : (nI a).toNatClampNeg = a := N_nI (by omega)
  have hNr : (nI rm).toNatClampNeg = rm := N_nI (by omega)
  have g8 : ∀ {α : Type} (x : Option α), gd (nI rm) 8 x = x := fun x => gd_ok rm1 (by decide)
  have am1 : (nI a = -1) = False := nI_m1 (show a < 2 ^ 31 by omega)
  have m1 := kindI q q1
  have hf : rm * 5 + q < 40 := by omega
  have gf : ∀ {α : Type} (x : Option α), gd (nI (rm * 5 + q)) 40 x = x := fun x => gd_ok hf (by decide)
  have hNf : (nI (rm * 5 + q)).toNatClampNeg = rm * 5 + q := N_nI (by omega)
  have hg : a * 5 + q < 20 := by omega
  have gg : ∀ {α : Type} (x : Option α), gd (nI (a * 5 + q)) 20 x = x := fun x => gd_ok hg (by decide)
  have hNg : (nI (a * 5 + q)).toNatClampNeg = a * 5 + q := N_nI (by omega)
  obtain ⟨-, -, -, -, -, hI6, hI7, hI8, -⟩ := id hI
  obtain ⟨F, F1, F2⟩ := hI6 _ hf
  obtain ⟨S, S1, S2⟩ := hI7 _ hf
  obtain ⟨G, G1, G2⟩ := hI8 _ hg
  have nfm : (nI (rm * 5 + q) = -1) = False := nI_m1 (by omega)
  obtain ⟨p, p1, p2⟩ := Q.2.2.2.2 _ hf
  have hPX : μ 4 (rm * 5 + q) = nI p := p2
  unfold f_X6_buy
  by_cases ht : μ 3 rm = -1
  · exact Or.inl ⟨2, by decide, ok13_2, by simp only [a3, bd_s, m1, i10, if_false, jn_s, f_X6_traded, am1, g4, hNa, rm2, g8, hNr, ht, im1, if_true, can_ok, i20, bd2_s, i00]⟩
  · by_cases hp : μ 4 (rm * 5 + q) = 0
    · exact Or.inl ⟨2, by decide, ok13_2, by simp only [a3, bd_s, m1, i10, if_false, jn_s, f_X6_traded, am1, g4, hNa, rm2, g8, hNr, if_neg ht, n5l, nfm, gf, hNf, hp, i00, im1, if_true, can_ok, i20, bd2_s]⟩
    · by_cases hz : S = 0
      · subst hz
        have z0 : (nI 0 = (0 : Int32)) = True := by decide
        exact Or.inl ⟨2, by decide, ok13_2, by simp only [a3, bd_s, m1, i10, if_false, jn_s, f_X6_traded, am1, g4, hNa, rm2, g8, hNr, if_neg ht, n5l, nfm, gf, hNf, if_neg hp, S2, gg, hNg, G2, z0, i00, if_true, can_ok, i20, bd2_s]⟩
      · have z0 : (nI S = (0 : Int32)) = False := eq_false fun h => hz (nI_inj (a := S) (b := 0) (by omega) (by omega) h)
        have zm : nI S - 1 = nI (S - 1) := pk_sub (a := S) (b := 1) (by omega)
        by_cases hcn : μ 4 (rm * 5 + q) ≤ μ 7 a
        · obtain ⟨cn, tn, pu, k1, k2, k3, k4⟩ := id K
          have l1 := ns_le (f := cn) (pcN μ) a ha
          have l2 := ns_le (f := tn) 8 rm rm1
          have ht2 : μ 3 rm = nI (tn rm) := (k2 rm rm1).resolve_left fun z => ht z.1
          have hle : p ≤ cn a := Nat.le_of_not_lt fun z => by
            rw [hPX, k1 a ha] at hcn
            exact nI_ge z (by omega) hcn
          obtain ⟨μ5, hμ5⟩ : ∃ μ5, μ5 = mu (mu (mu (mu (mu μ 0 29 0) 5 (rm * 5 + q) (nI (S - 1))) 11 (a * 5 + q) (nI (G + 1))) 7 a (μ 7 a - μ 4 (rm * 5 + q))) 3 rm (μ 3 rm + μ 4 (rm * 5 + q)) := ⟨_, rfl⟩
          have e : ∀ k, k ≠ 0 → k ≠ 5 → k ≠ 11 → k ≠ 7 → k ≠ 3 → μ5 k = μ k := fun k k1 k2 k3 k4 k5 => by rw [hμ5, mu_n k5, mu_n k4, mu_n k3, mu_n k2, mu_n k1]
          have e0 : ∀ i, i ≠ 29 → μ5 0 i = μ 0 i := fun i hi => by rw [hμ5, mu_n (by decide), mu_n (by decide), mu_n (by decide), mu_n (by decide), mu_pl hi]
          have e11 : μ5 11 = upd (μ 11) (a * 5 + q) (μ 11 (a * 5 + q) + 1) := by rw [hμ5, mu_n (by decide), mu_n (by decide), mu_s, mu_n (by decide), mu_n (by decide), G2, nI_1]
          have e5 : μ5 5 = upd (μ 5) (rm * 5 + q) (μ 5 (rm * 5 + q) + -1) := by rw [hμ5, mu_n (by decide), mu_n (by decide), mu_n (by decide), mu_s, mu_n (by decide), S2, ← Int32.sub_eq_add_neg, zm]
          have e7 : μ5 7 = upd (μ 7) a (nI (cn a - p)) := by rw [hμ5, mu_n (by decide), mu_s, mu_n (by decide), mu_n (by decide), mu_n (by decide), k1 a ha, hPX, pk_sub hle]
          have e3 : μ5 3 = upd (μ 3) rm (nI (tn rm + p)) := by rw [hμ5, mu_s, mu_n (by decide), mu_n (by decide), mu_n (by decide), mu_n (by decide), ht2, hPX, nI_add]
          have hpc : pcN μ5 = pcN μ := by unfold pcN; rw [e0 5 (by decide)]
          refine ar_end (μ5 := μ5) (t := 1) (w := -1) (b := -1) (fun μ'' => μ'' 7 a) (by rw [hμ5]; exact (((((hI.thrown 0).mono (Nat.le_add_right c 1) (Nat.le_add_right _ 10)).stock _ ⟨S - 1, by omega, rfl⟩).goods _ ⟨G + 1, by omega, rfl⟩).coins _ _).till _ _) hc ((e0 23 (by decide)).trans h23) (by rw [hμ5, mu_n (by decide), mu_n (by decide), mu_n (by decide), mu_n (by decide), mu_at]) (by rw [hpc]; exact ha) (by decide) (fun q hq => by rw [e 14 (by decide) (by decide) (by decide) (by decide) (by decide)]; exact Q.2.2.2.1 q hq) ⟨⟨e 1 (by decide) (by decide) (by decide) (by decide) (by decide), e 4 (by decide) (by decide) (by decide) (by decide) (by decide), e 14 (by decide) (by decide) (by decide) (by decide) (by decide), e 15 (by decide) (by decide) (by decide) (by decide) (by decide), e 19 (by decide) (by decide) (by decide) (by decide) (by decide)⟩, fun i _ _ h3 => e0 i h3, fun r hr => by
            rw [e3]
            by_cases hrr : r = rm
            · subst hrr; rw [upd_s]; exact ⟨fun z => absurd z (nI_neg1 (by omega)), fun z => absurd z ht⟩
            · rw [upd_n hrr], fun T' hT' hk => hk.trade ha rm1 ht (e0 5 (by decide)) (e0 14 (by decide)) (fun x y x1 y1 x2 y2 => by
            have hx := nI_inj (by omega) (by omega) (x2.symm.trans (k1 a ha))
            have hy := nI_inj (by omega) (by omega) (y2.symm.trans ht2)
            omega) e7 e3, gsum_gs (e0 5 (by decide)) q1 ha rm1 e11 e5 (e 2 (by decide) (by decide) (by decide) (by decide) (by decide)) dm1, fun j hj _ => by rw [e11, upd_n (by omega)]⟩ (fun μ'' hq _ => ?_) (fun μ'' _ => ⟨rfl, e 10 (by decide) (by decide) (by decide) (by decide) (by decide), e 6 (by decide) (by decide) (by decide) (by decide) (by decide), rfl⟩)
          simp only [a3, bd_s, m1, i10, if_false, jn_s, f_X6_traded, am1, g4, hNa, rm2, g8, hNr, if_neg ht, n5l, nfm, gf, hNf, if_neg hp, S2, gg, hNg, G2, z0, if_pos hcn, i00, if_true, can_ok, bd2_s, stp_s, mu_n (show (5 : Nat) ≠ 0 by decide), mu_n (show (11 : Nat) ≠ 5 by decide), mu_n (show (11 : Nat) ≠ 0 by decide), mu_n (show (7 : Nat) ≠ 11 by decide), mu_n (show (7 : Nat) ≠ 5 by decide), mu_n (show (7 : Nat) ≠ 0 by decide), mu_n (show (4 : Nat) ≠ 11 by decide), mu_n (show (4 : Nat) ≠ 5 by decide), mu_n (show (4 : Nat) ≠ 0 by decide), mu_n (show (4 : Nat) ≠ 7 by decide), mu_n (show (6 : Nat) ≠ 11 by decide), mu_n (show (6 : Nat) ≠ 5 by decide), mu_n (show (6 : Nat) ≠ 0 by decide), mu_n (show (6 : Nat) ≠ 7 by decide), mu_n (show (3 : Nat) ≠ 11 by decide), mu_n (show (3 : Nat) ≠ 5 by decide), mu_n (show (3 : Nat) ≠ 0 by decide), mu_n (show (3 : Nat) ≠ 7 by decide), zm, nI_1]
          rw [← hμ5, show f_X6_ends μ5 (nI a) 1 (-1) (-1) = some μ'' from hq, bd_s]
        · exact Or.inl ⟨2, by decide, ok13_2, by simp only [a3, bd_s, m1, i10, if_false, jn_s, f_X6_traded, am1, g4, hNa, rm2, g8, hNr, if_neg ht, n5l, nfm, gf, hNf, if_neg hp, S2, gg, hNg, G2, z0, if_neg hcn, i00, if_true, can_ok, i20, bd2_s]⟩
theorem sem_sell {c a T : Nat} {μ : Mem} (h : AC c a T μ) {q : Nat} (q1 : q < 5) : AR ok13 c a μ (f_X6_sell μ (nI q)) (fun cost v μ5 μ'' => cost = 1 ∧ μ5 10 = μ 10 ∧ μ5 6 = μ 6 ∧ v = μ'' 7 a) := by
  obtain ⟨hI, h23, hc, Q, K, hT, ha, a3⟩ := h
  have hnp := hI.np
  obtain ⟨⟨rm, rm1, rm2⟩, -⟩ := hI.pl ha
  have g4 : ∀ {α : Type} (x : Option α), gd (nI a) 4 x = x := fun x => gd_ok (by omega) (by decide)
  have hNa : (nI a).toNatClampNeg = a := N_nI (by omega)
  have hNr : (nI rm).toNatClampNeg = rm := N_nI (by omega)
  have g8 : ∀ {α : Type} (x : Option α), gd (nI rm) 8 x = x := fun x => gd_ok rm1 (by decide)
  have am1 : (nI a = -1) = False := nI_m1 (show a < 2 ^ 31 by omega)
  have m1 := kindI q q1
  have hf : rm * 5 + q < 40 := by omega
  have gf : ∀ {α : Type} (x : Option α), gd (nI (rm * 5 + q)) 40 x = x := fun x => gd_ok hf (by decide)
  have hNf : (nI (rm * 5 + q)).toNatClampNeg = rm * 5 + q := N_nI (by omega)
  have hg : a * 5 + q < 20 := by omega
  have gg : ∀ {α : Type} (x : Option α), gd (nI (a * 5 + q)) 20 x = x := fun x => gd_ok hg (by decide)
  have hNg : (nI (a * 5 + q)).toNatClampNeg = a * 5 + q := N_nI (by omega)
  obtain ⟨-, -, -, -, -, hI6, hI7, hI8, -⟩ := id hI
  obtain ⟨F, F1, F2⟩ := hI6 _ hf
  obtain ⟨S, S1, S2⟩ := hI7 _ hf
  obtain ⟨G, G1, G2⟩ := hI8 _ hg
  have nfm : (nI (rm * 5 + q) = -1) = False := nI_m1 (by omega)
  obtain ⟨p, p1, p2⟩ := Q.2.2.2.2 _ hf
  have hPX : μ 4 (rm * 5 + q) / 2 = nI (p / 2) := by rw [p2, show (2 : Int32) = nI 2 from rfl, pk_div (by omega) (by decide) (by decide)]
  unfold f_X6_sell
  by_cases ht : μ 3 rm = -1
  · exact Or.inl ⟨2, by decide, ok13_2, by simp only [a3, bd_s, m1, i10, if_false, jn_s, f_X6_traded, am1, g4, hNa, rm2, g8, hNr, ht, im1, if_true, can_ok, i20, bd2_s, i00]⟩
  · by_cases hp : μ 4 (rm * 5 + q) = 0
    · exact Or.inl ⟨2, by decide, ok13_2, by simp only [a3, bd_s, m1, i10, if_false, jn_s, f_X6_traded, am1, g4, hNa, rm2, g8, hNr, if_neg ht, n5l, nfm, gf, hNf, hp, i00, im1, if_true, can_ok, i20, bd2_s]⟩
    · by_cases hz : G = 0
      · subst hz
        have z0 : (nI 0 = (0 : Int32)) = True := by decide
        exact Or.inl ⟨2, by decide, ok13_2, by simp only [a3, bd_s, m1, i10, if_false, jn_s, f_X6_traded, am1, g4, hNa, rm2, g8, hNr, if_neg ht, n5l, nfm, gf, hNf, if_neg hp, S2, gg, hNg, G2, z0, i00, if_true, can_ok, i20, bd2_s]⟩
      · have z0 : (nI G = (0 : Int32)) = False := eq_false fun h => hz (nI_inj (a := G) (b := 0) (by omega) (by omega) h)
        have zm : nI G - 1 = nI (G - 1) := pk_sub (a := G) (b := 1) (by omega)
        by_cases hcn : μ 4 (rm * 5 + q) / 2 ≤ μ 3 rm
        · obtain ⟨cn, tn, pu, k1, k2, k3, k4⟩ := id K
          have l1 := ns_le (f := cn) (pcN μ) a ha
          have l2 := ns_le (f := tn) 8 rm rm1
          have ht2 : μ 3 rm = nI (tn rm) := (k2 rm rm1).resolve_left fun z => ht z.1
          have hle : (p / 2) ≤ tn rm := Nat.le_of_not_lt fun z => by
            rw [hPX, ht2] at hcn
            exact nI_ge z (by omega) hcn
          obtain ⟨μ5, hμ5⟩ : ∃ μ5, μ5 = mu (mu (mu (mu (mu μ 0 29 0) 5 (rm * 5 + q) (nI (S + 1))) 11 (a * 5 + q) (nI (G - 1))) 7 a (μ 7 a + μ 4 (rm * 5 + q) / 2)) 3 rm (μ 3 rm - μ 4 (rm * 5 + q) / 2) := ⟨_, rfl⟩
          have e : ∀ k, k ≠ 0 → k ≠ 5 → k ≠ 11 → k ≠ 7 → k ≠ 3 → μ5 k = μ k := fun k k1 k2 k3 k4 k5 => by rw [hμ5, mu_n k5, mu_n k4, mu_n k3, mu_n k2, mu_n k1]
          have e0 : ∀ i, i ≠ 29 → μ5 0 i = μ 0 i := fun i hi => by rw [hμ5, mu_n (by decide), mu_n (by decide), mu_n (by decide), mu_n (by decide), mu_pl hi]
          have e11 : μ5 11 = upd (μ 11) (a * 5 + q) (μ 11 (a * 5 + q) + -1) := by rw [hμ5, mu_n (by decide), mu_n (by decide), mu_s, mu_n (by decide), mu_n (by decide), G2, ← Int32.sub_eq_add_neg, zm]
          have e5 : μ5 5 = upd (μ 5) (rm * 5 + q) (μ 5 (rm * 5 + q) + 1) := by rw [hμ5, mu_n (by decide), mu_n (by decide), mu_n (by decide), mu_s, mu_n (by decide), S2, nI_1]
          have e7 : μ5 7 = upd (μ 7) a (nI (cn a + p / 2)) := by rw [hμ5, mu_n (by decide), mu_s, mu_n (by decide), mu_n (by decide), mu_n (by decide), k1 a ha, hPX, nI_add]
          have e3 : μ5 3 = upd (μ 3) rm (nI (tn rm - p / 2)) := by rw [hμ5, mu_s, mu_n (by decide), mu_n (by decide), mu_n (by decide), mu_n (by decide), ht2, hPX, pk_sub hle]
          have hpc : pcN μ5 = pcN μ := by unfold pcN; rw [e0 5 (by decide)]
          refine ar_end (μ5 := μ5) (t := 1) (w := -1) (b := -1) (fun μ'' => μ'' 7 a) (by rw [hμ5]; exact (((((hI.thrown 0).mono (Nat.le_add_right c 1) (Nat.le_add_right _ 10)).stock _ ⟨S + 1, by omega, rfl⟩).goods _ ⟨G - 1, by omega, rfl⟩).coins _ _).till _ _) hc ((e0 23 (by decide)).trans h23) (by rw [hμ5, mu_n (by decide), mu_n (by decide), mu_n (by decide), mu_n (by decide), mu_at]) (by rw [hpc]; exact ha) (by decide) (fun q hq => by rw [e 14 (by decide) (by decide) (by decide) (by decide) (by decide)]; exact Q.2.2.2.1 q hq) ⟨⟨e 1 (by decide) (by decide) (by decide) (by decide) (by decide), e 4 (by decide) (by decide) (by decide) (by decide) (by decide), e 14 (by decide) (by decide) (by decide) (by decide) (by decide), e 15 (by decide) (by decide) (by decide) (by decide) (by decide), e 19 (by decide) (by decide) (by decide) (by decide) (by decide)⟩, fun i _ _ h3 => e0 i h3, fun r hr => by
            rw [e3]
            by_cases hrr : r = rm
            · subst hrr; rw [upd_s]; exact ⟨fun z => absurd z (nI_neg1 (by omega)), fun z => absurd z ht⟩
            · rw [upd_n hrr], fun T' hT' hk => hk.trade ha rm1 ht (e0 5 (by decide)) (e0 14 (by decide)) (fun x y x1 y1 x2 y2 => by
            have hx := nI_inj (by omega) (by omega) (x2.symm.trans (k1 a ha))
            have hy := nI_inj (by omega) (by omega) (y2.symm.trans ht2)
            omega) e7 e3, gsum_gs (e0 5 (by decide)) q1 ha rm1 e11 e5 (e 2 (by decide) (by decide) (by decide) (by decide) (by decide)) dm2, fun j hj _ => by rw [e11, upd_n (by omega)]⟩ (fun μ'' hq _ => ?_) (fun μ'' _ => ⟨rfl, e 10 (by decide) (by decide) (by decide) (by decide) (by decide), e 6 (by decide) (by decide) (by decide) (by decide) (by decide), rfl⟩)
          simp only [a3, bd_s, m1, i10, if_false, jn_s, f_X6_traded, am1, g4, hNa, rm2, g8, hNr, if_neg ht, n5l, nfm, gf, hNf, if_neg hp, S2, gg, hNg, G2, z0, if_pos hcn, i00, if_true, can_ok, bd2_s, stp_s, mu_n (show (5 : Nat) ≠ 0 by decide), mu_n (show (11 : Nat) ≠ 5 by decide), mu_n (show (11 : Nat) ≠ 0 by decide), mu_n (show (7 : Nat) ≠ 11 by decide), mu_n (show (7 : Nat) ≠ 5 by decide), mu_n (show (7 : Nat) ≠ 0 by decide), mu_n (show (4 : Nat) ≠ 11 by decide), mu_n (show (4 : Nat) ≠ 5 by decide), mu_n (show (4 : Nat) ≠ 0 by decide), mu_n (show (4 : Nat) ≠ 7 by decide), mu_n (show (6 : Nat) ≠ 11 by decide), mu_n (show (6 : Nat) ≠ 5 by decide), mu_n (show (6 : Nat) ≠ 0 by decide), mu_n (show (6 : Nat) ≠ 7 by decide), mu_n (show (3 : Nat) ≠ 11 by decide), mu_n (show (3 : Nat) ≠ 5 by decide), mu_n (show (3 : Nat) ≠ 0 by decide), mu_n (show (3 : Nat) ≠ 7 by decide), zm, nI_1]
          rw [← hμ5, show f_X6_ends μ5 (nI a) 1 (-1) (-1) = some μ'' from hq, bd_s]
        · exact Or.inl ⟨2, by decide, ok13_2, by simp only [a3, bd_s, m1, i10, if_false, jn_s, f_X6_traded, am1, g4, hNa, rm2, g8, hNr, if_neg ht, n5l, nfm, gf, hNf, if_neg hp, S2, gg, hNg, G2, z0, if_neg hcn, i00, if_true, can_ok, i20, bd2_s]⟩
