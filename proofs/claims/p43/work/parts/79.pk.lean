/-! STOCK, SHOP, ENDOW -/
theorem msk : ∀ m, m < 256 → ∀ r, r < 8 → m / 2 ^ r % 2 = 0 → nI m ||| (1 <<< (nI r &&& 31)) = nI (m + 2 ^ r) ∧ m + 2 ^ r < 256 ∧ ∀ j, j < 8 → (m + 2 ^ r) / 2 ^ j % 2 = if j = r then 1 else m / 2 ^ j % 2 := by decide +kernel
section MKT
variable {c : Nat} {ρ μ : Mem} {M : Nat → Mem}
theorem mks_stock (S : SX c ρ μ M) (W : WI c (ρ 51) μ) (hc : c < 60) {a k n p : Nat} (ha : a < 8) (hk : k < 5) (hn : n ≤ 20) (hp50 : p ≤ 50) (hs : ¬ μ 3 a = -1) {σ2 : Mem} (e2 : σ2 = mu (mu ρ 51 (1 + k) (ρ 51 (1 + k) + nI n)) 51 6 (nI (c + 1))) : ∃ v τ' M' μ'', f_X5_stock σ2 (nI a) (nI k) (nI n) (nI p) = some (0, v, τ') ∧ v = μ 5 (a * 5 + k) + nI n ∧ Out c ρ μ (c + 1) (mgY τ' σ2) μ'' M' := by
  obtain ⟨⟨w1, w2, w3, w4⟩, ⟨mk, mk1, mk2, mk3⟩, ⟨T, T1, T2, T3⟩, w5, w6, q1, q2, q3, q4, q5⟩ := W
  have S2 : SX c σ2 μ M := S.g fun k hk => by rw [e2, mu_n (by omega), mu_n (by omega)]
  have c51 : σ2 51 = upd (upd (ρ 51) (1 + k) (ρ 51 (1 + k) + nI n)) 6 (nI (c + 1)) := by rw [e2, mu_s, mu_s]
  have hI := S.iw
  have hj : a * 5 + k < 40 := by omega
  have g40 : ∀ {α : Type} (x : Option α), gd (nI (a * 5 + k)) 40 x = x := fun x => gd_ok hj (by decide)
  have g8 : ∀ {α : Type} (x : Option α), gd (nI a) 8 x = x := fun x => gd_ok ha (by decide)
  have hNa : (nI a).toNatClampNeg = a := N_nI (by omega)
  have hN : (nI (a * 5 + k)).toNatClampNeg = a * 5 + k := N_nI (by omega)
  have hs' : (μ 3 a = -1) = False := eq_false hs
  obtain ⟨-, -, -, -, -, -, hI7, -⟩ := id hI
  obtain ⟨F, F1, F2⟩ := hI7 _ hj
  obtain ⟨μ5, hμ5⟩ : ∃ μ5, μ5 = mu (mu (mu μ 0 29 0) 5 (a * 5 + k) (μ 5 (a * 5 + k) + nI n)) 4 (a * 5 + k) (nI p) := ⟨_, rfl⟩
  have f0 : ∀ i, i ≠ 29 → μ5 0 i = μ 0 i := fun i hi => by rw [hμ5, mu_n (by decide), mu_n (by decide), mu_pl hi]
  have fk : ∀ k, k ≠ 0 → k ≠ 5 → k ≠ 4 → μ5 k = μ k := fun k k1 k2 k3 => by rw [hμ5, mu_n k3, mu_n k2, mu_n k1]
  have f5 : μ5 5 = upd (μ 5) (a * 5 + k) (μ 5 (a * 5 + k) + nI n) := by rw [hμ5, mu_n (by decide), mu_s, mu_n (by decide)]
  have f4 : μ5 4 = upd (μ 4) (a * 5 + k) (nI p) := by rw [hμ5, mu_s, mu_n (by decide), mu_n (by decide)]
  have hpc : pcN μ5 = pcN μ := by unfold pcN; rw [f0 5 (by decide)]
  obtain ⟨τ', M', μ'', x1, x2, x3⟩ := mk_out (ρ := ρ) (μ5 := μ5) (g := c + 1) (r := 13 * c + 13) (vf := fun μ => μ 5 (a * 5 + k)) S2 (by omega) ok123_0 (op_stock (S2.beg (by omega)) (nI a) (nI k) (nI n) (nI p)) (by rw [hμ5]; exact (((hI.thrown 0).mono (Nat.le_add_right c 1) (Nat.le_add_right _ 13)).stock _ ⟨F + n, by omega, by rw [F2, nI_add]⟩).price _ _) ((f0 23 (by decide)).trans S.2.1) (by rw [hμ5, mu_n (by decide), mu_n (by decide), mu_at]) (fun μ'' h1 h2 => by
    unfold f_X6_stock
    have ma := roomI a ha
    have mb := kindI k hk
    have m1 : f_X6_isIn (nI n) 0 20 = some 1 := isInD (a := 0) (b := 20) (by omega) (by omega) (by decide)
    have m2 : f_X6_isIn (nI p) 0 50 = some 1 := isInD (a := 0) (b := 50) (by omega) (by omega) (by decide)
    simp only [ma, mb, m1, m2, bd_s, i10, if_false, jn_s, g8, hNa, hs', n5l, g40, hN, can_ok, i00, if_true, bd2_s, stp_s, mu_n (show (5 : Nat) ≠ 0 by decide)]
    rw [← hμ5, h1, bd_s]) (by rw [e2, mu_n (by decide), mu_n (by decide)]) (by rw [e2, mu_n (by decide), mu_n (by decide)]) (by
    rw [c51]
    refine ⟨⟨upd_s, by rw [upd_n (by decide), upd_n (by omega), f0 5 (by decide)]; exact w2, by rw [upd_n (by decide), upd_n (by omega), f0 16 (by decide)]; exact w3, fun q hq => by rw [upd_n (by omega), upd_n (by omega), fk 15 (by decide) (by decide) (by decide)]; exact w4 q hq⟩, ⟨mk, mk1, by rw [upd_n (by decide), upd_n (by omega)]; exact mk2, fun r hr => by rw [fk 3 (by decide) (by decide) (by decide)]; exact mk3 r hr⟩, ⟨T, by omega, by rw [upd_n (by decide), upd_n (by omega)]; exact T2, T3.same (f0 14 (by decide)) (f0 5 (by decide)) (fk 7 (by decide) (by decide) (by decide)) (fk 3 (by decide) (by decide) (by decide))⟩, cf_goods hk w5 (gsum_s (f0 5 (by decide)) hk ha (fk 11 (by decide) (by decide) (by decide)) (fk 2 (by decide) (by decide) (by decide)) f5), by rw [fk 1 (by decide) (by decide) (by decide)]; exact w6, ?_⟩
    unfold WQ
    rw [hpc, fk 19 (by decide) (by decide) (by decide), fk 15 (by decide) (by decide) (by decide), fk 11 (by decide) (by decide) (by decide), fk 14 (by decide) (by decide) (by decide), f4]
    refine ⟨q1, q2, q3, q4, fun i hi => ?_⟩
    by_cases h : i = a * 5 + k
    · subst h; exact ⟨p, hp50, upd_s⟩
    · rw [upd_n h]; exact q5 i hi) (by rw [hpc]; exact Nat.le_refl _)
  exact ⟨_, τ', M', μ'', x1, by show μ'' 5 (a * 5 + k) = _; rw [x3.2 5 (by decide) (by decide), f5, upd_s], x2⟩
theorem mks_endow (S : SX c ρ μ M) (W : WI c (ρ 51) μ) (hc : c < 60) {n : Nat} (hn1 : 1 ≤ n) (hn : n ≤ 300) {σ2 : Mem} (e2 : σ2 = mu (mu ρ 51 0 (ρ 51 0 + nI n)) 51 6 (nI (c + 1))) : ∃ v τ' M' μ'', f_X5_endow σ2 (nI n) = some (0, v, τ') ∧ v = μ 0 14 + nI n ∧ Out c ρ μ (c + 1) (mgY τ' σ2) μ'' M' := by
  obtain ⟨⟨w1, w2, w3, w4⟩, ⟨mk, mk1, mk2, mk3⟩, ⟨T, T1, T2, cn, tn, pu, t1, t2, t3, t4⟩, w5, w6, w7⟩ := W
  have S2 : SX c σ2 μ M := S.g fun k hk => by rw [e2, mu_n (by omega), mu_n (by omega)]
  have c51 : σ2 51 = upd (upd (ρ 51) 0 (ρ 51 0 + nI n)) 6 (nI (c + 1)) := by rw [e2, mu_s, mu_s]
  have hI := S.iw
  obtain ⟨μ5, hμ5⟩ : ∃ μ5, μ5 = mu (mu μ 0 29 0) 0 14 (μ 0 14 + nI n) := ⟨_, rfl⟩
  have f0 : ∀ i, i ≠ 29 → i ≠ 14 → μ5 0 i = μ 0 i := fun i hi h2 => by rw [hμ5, mu_pl h2, mu_pl hi]
  have fk : ∀ k, k ≠ 0 → μ5 k = μ k := fun k k1 => by rw [hμ5, mu_n k1, mu_n k1]
  have f14 : μ5 0 14 = μ 0 14 + nI n := by rw [hμ5, mu_at]
  have hpc : pcN μ5 = pcN μ := by unfold pcN; rw [f0 5 (by decide) (by decide)]
  obtain ⟨τ', M', μ'', x1, x2, x3⟩ := mk_out (ρ := ρ) (μ5 := μ5) (g := c + 1) (r := 13 * c + 13) (vf := fun μ => μ 0 14) S2 (by omega) (fun e h => absurd h.2 (by decide)) (op_endow (S2.beg (by omega)) (nI n)) (by rw [hμ5]; exact ((hI.thrown 0).purse _).mono (by omega) (by omega)) ((f0 23 (by decide) (by decide)).trans S.2.1) (by rw [hμ5, mu_pl (by decide), mu_at]) (fun μ'' h1 h2 => by
    unfold f_X6_endow
    have m1 : f_X6_isIn (nI n) 1 1000 = some 1 := isInD (a := 1) (b := 1000) (by omega) (by omega) (by decide)
    simp only [m1, bd_s, i10, if_false, jn_s, can_ok, i00, if_true, bd2_s, stp_s, mu_pl (show (14 : Nat) ≠ 29 by decide)]
    rw [← hμ5, h1, bd_s]) (by rw [e2, mu_n (by decide), mu_n (by decide)]) (by rw [e2, mu_n (by decide), mu_n (by decide)]) (by
    rw [c51]
    refine ⟨⟨upd_s, by rw [upd_n (by decide), upd_n (by omega), f0 5 (by decide) (by decide)]; exact w2, by rw [upd_n (by decide), upd_n (by omega), f0 16 (by decide) (by decide)]; exact w3, fun q hq => by rw [upd_n (by omega), upd_n (by omega), fk 15 (by decide)]; exact w4 q hq⟩, ⟨mk, mk1, by rw [upd_n (by decide), upd_n (by omega)]; exact mk2, fun r hr => by rw [fk 3 (by decide)]; exact mk3 r hr⟩, ⟨T + n, by omega, by rw [upd_n (by decide), upd_s, T2, nI_add], cn, tn, pu + n, by rw [hpc, fk 7 (by decide)]; exact t1, by rw [fk 3 (by decide)]; exact t2, by rw [f14, t3, nI_add], by rw [hpc]; omega⟩, fun q hq => ?_, by rw [fk 1 (by decide)]; exact w6, ?_⟩
    · rw [upd_n (by omega), upd_n (by omega), w5 q hq]
      exact (gsum_same (f0 5 (by decide) (by decide)) (fk 11 (by decide)) (fk 2 (by decide)) (fk 5 (by decide)) q).symm
    · unfold WQ at w7 ⊢
      rw [hpc, fk 19 (by decide), fk 15 (by decide), fk 11 (by decide), fk 14 (by decide), fk 4 (by decide)]
      exact w7) (by rw [hpc]; exact Nat.le_refl _)
  exact ⟨_, τ', M', μ'', x1, by show μ'' 0 14 = _; rw [x3.1 14 (by decide), f14], x2⟩
theorem mks_shop (S : SX c ρ μ M) (W : WI c (ρ 51) μ) (hc : c < 60) {a n : Nat} (ha : a < 8) (hn : n ≤ 300) (hs : μ 3 a = -1) {σ2 : Mem} (e2 : σ2 = mu (mu (mu ρ 51 12 (ρ 51 12 ||| (1 <<< (nI a &&& 31)))) 51 0 (ρ 51 0 + nI n)) 51 6 (nI (c + 1))) : ∃ τ' M' μ'', f_X5_shop σ2 (nI a) (nI n) = some (0, 0, τ') ∧ μ'' 3 a = nI n ∧ Out c ρ μ (c + 1) (mgY τ' σ2) μ'' M' := by
  obtain ⟨⟨w1, w2, w3, w4⟩, ⟨mk, mk1, mk2, mk3⟩, ⟨T, T1, T2, cn, tn, pu, t1, t2, t3, t4⟩, w5, w6, w7⟩ := W
  have S2 : SX c σ2 μ M := S.g fun k hk => by rw [e2, mu_n (by omega), mu_n (by omega), mu_n (by omega)]
  have c51 : σ2 51 = upd (upd (upd (ρ 51) 12 (ρ 51 12 ||| (1 <<< (nI a &&& 31)))) 0 (ρ 51 0 + nI n)) 6 (nI (c + 1)) := by rw [e2, mu_s, mu_s, mu_s]
  have hI := S.iw
  have g8 : ∀ {α : Type} (x : Option α), gd (nI a) 8 x = x := fun x => gd_ok ha (by decide)
  have hN : (nI a).toNatClampNeg = a := N_nI (by omega)
  have hs' : (μ 3 a = -1) = True := eq_true hs
  obtain ⟨μ5, hμ5⟩ : ∃ μ5, μ5 = mu (mu μ 0 29 0) 3 a (nI n) := ⟨_, rfl⟩
  have f0 : ∀ i, i ≠ 29 → μ5 0 i = μ 0 i := fun i hi => by rw [hμ5, mu_n (by decide), mu_pl hi]
  have fk : ∀ k, k ≠ 0 → k ≠ 3 → μ5 k = μ k := fun k k1 k2 => by rw [hμ5, mu_n k2, mu_n k1]
  have f3 : μ5 3 = upd (μ 3) a (nI n) := by rw [hμ5, mu_s, mu_n (by decide)]
  have hpc : pcN μ5 = pcN μ := by unfold pcN; rw [f0 5 (by decide)]
  obtain ⟨τ', M', μ'', x1, x2, x3, x4⟩ := mk_outV (μ5 := μ5) (g := c + 1) (r := 13 * c + 13) S2 (by omega) ok123_0 (op_shop (S2.beg (by omega)) (nI a) (nI n)) (by rw [hμ5]; exact ((hI.thrown 0).till _ _).mono (by omega) (by omega)) ((f0 23 (by decide)).trans S.2.1) (by rw [hμ5, mu_n (by decide), mu_at]) (fun μ'' h1 => by
    unfold f_X6_shop
    have ma := roomI a ha
    have m1 : f_X6_isIn (nI n) 0 1000 = some 1 := isInD (a := 0) (b := 1000) (by omega) (by omega) (by decide)
    simp only [ma, m1, bd_s, i10, if_false, jn_s, g8, hN, hs', can_ok, i00, if_true, bd2_s, stp_s]
    rw [← hμ5, h1, bd_s])
  have hb : mk / 2 ^ a % 2 = 0 := (mk3 a ha).mpr hs
  obtain ⟨b1, b2, b3⟩ := msk mk mk1 a ha hb
  have hta : tn a = 0 := by
    rcases t2 a ha with ⟨-, z⟩ | z
    · exact z
    · exact absurd (z.symm.trans hs) (nI_neg1 (by have := ns_le (f := tn) 8 a ha; omega))
  have W5 : WI (c + 1) (σ2 51) μ5 := by
    rw [c51]
    refine ⟨⟨upd_s, by rw [upd_n (by decide), upd_n (by decide), upd_n (by decide), f0 5 (by decide)]; exact w2, by rw [upd_n (by decide), upd_n (by decide), upd_n (by decide), f0 16 (by decide)]; exact w3, fun q hq => by rw [upd_n (by omega), upd_n (by omega), upd_n (by omega), fk 15 (by decide) (by decide)]; exact w4 q hq⟩, ⟨mk + 2 ^ a, b2, by rw [upd_n (by decide), upd_n (by decide), upd_s, mk2, b1], fun r hr => ?_⟩, ⟨T + n, by omega, by rw [upd_n (by decide), upd_s, T2, nI_add], cn, fun r => if r = a then n else tn r, pu, by rw [hpc, fk 7 (by decide) (by decide)]; exact t1, fun r hr => ?_, by rw [f0 14 (by decide)]; exact t3, ?_⟩, fun q hq => ?_, by rw [fk 1 (by decide) (by decide)]; exact w6, ?_⟩
    · rw [b3 r hr, f3]
      by_cases h : r = a
      · subst h
        rw [if_pos rfl, upd_s]
        exact ⟨fun z => absurd z (by decide), fun z => absurd z (nI_neg1 (by omega))⟩
      · rw [if_neg h, upd_n h]; exact mk3 r hr
    · rw [f3]
      by_cases h : r = a
      · subst h; exact Or.inr (by rw [upd_s]; exact congrArg nI (if_pos rfl).symm)
      · rw [upd_n h]
        show (μ 3 r = -1 ∧ (if r = a then n else tn r) = 0) ∨ μ 3 r = nI (if r = a then n else tn r)
        rw [if_neg h]; exact t2 r hr
    · have := ns_upd (f := tn) (j := a) (v := n) 8 ha
      rw [hpc]; omega
    · rw [upd_n (by omega), upd_n (by omega), upd_n (by omega), w5 q hq]
      exact (gsum_same (f0 5 (by decide)) (fk 11 (by decide) (by decide)) (fk 2 (by decide) (by decide)) (fk 5 (by decide) (by decide)) q).symm
    · unfold WQ at w7 ⊢
      rw [hpc, fk 19 (by decide) (by decide), fk 15 (by decide) (by decide), fk 11 (by decide) (by decide), fk 14 (by decide) (by decide), fk 4 (by decide) (by decide)]
      exact w7
  refine ⟨τ', M', μ'', x1, by rw [x4.2 3 (by decide) (by decide), f3, upd_s], Nat.le_succ _, Nat.le_refl _, Y.g x2, ?_, x3, by rw [x4.pc, hpc]; exact Nat.le_refl _, ?_, ?_⟩
  · rw [mgY_K τ' σ2 51 (by decide)]; exact W5.sm x4
  · rw [mgY_K τ' σ2 52 (by decide), e2, mu_n (by decide), mu_n (by decide), mu_n (by decide)]
  · rw [mgY_K τ' σ2 53 (by decide), e2, mu_n (by decide), mu_n (by decide), mu_n (by decide)]
end MKT
