/-! MAKING: what builds the world -/
def Sm5 (μ5 μ'' : Mem) : Prop := (∀ i, i ≠ 23 → μ'' 0 i = μ5 0 i) ∧ ∀ k, 1 ≤ k → k ≤ 19 → μ'' k = μ5 k
theorem Sm5.pc {μ5 μ'' : Mem} (h : Sm5 μ5 μ'') : pcN μ'' = pcN μ5 := by unfold pcN; rw [h.1 5 (by decide)]
theorem WI.sm {c : Nat} {cf : Nat → Int32} {μ5 μ'' : Mem} (W : WI c cf μ5) (h : Sm5 μ5 μ'') : WI c cf μ'' := by
  have hp := h.pc
  obtain ⟨e0, ek⟩ := h
  obtain ⟨⟨w1, w2, w3, w4⟩, ⟨mk, mk1, mk2, mk3⟩, ⟨T, T1, T2, T3⟩, w5, w6, q1, q2, q3, q4, q5⟩ := W
  have k1 := ek 1 (by decide) (by decide)
  have k2 := ek 2 (by decide) (by decide)
  have k3 := ek 3 (by decide) (by decide)
  have k4 := ek 4 (by decide) (by decide)
  have k5 := ek 5 (by decide) (by decide)
  have k7 := ek 7 (by decide) (by decide)
  have k11 := ek 11 (by decide) (by decide)
  have k14 := ek 14 (by decide) (by decide)
  have k15 := ek 15 (by decide) (by decide)
  have k19 := ek 19 (by decide) (by decide)
  refine ⟨⟨w1, by rw [e0 5 (by decide)]; exact w2, by rw [e0 16 (by decide)]; exact w3, fun q hq => by rw [k15]; exact w4 q hq⟩, ⟨mk, mk1, mk2, fun r hr => by rw [k3]; exact mk3 r hr⟩, ⟨T, T1, T2, T3.same (e0 14 (by decide)) (e0 5 (by decide)) k7 k3⟩, fun q hq => (w5 q hq).trans (gsum_same (e0 5 (by decide)) k11 k2 k5 q).symm, by rw [k1]; exact w6, fun k q hk hq => by rw [k19, k15]; exact q1 k q hk hq, fun k q hk => by rw [k19]; rw [hp] at hk; exact q2 k q hk, fun k q hk => by rw [k11]; rw [hp] at hk; exact q3 k q hk, by rw [k14]; exact q4, by rw [k4]; exact q5⟩
section MK
variable {c : Nat} {ρ σ2 μ μ5 : Mem} {M : Nat → Mem} {ok : Nat → Int32 → Prop} {K b0 b1 b2 b3 : Int32} {g r : Nat}
theorem mk_out {m : Option (Int32 × Mem)} {x : Option (Nat × Int32 × Mem)} {vf : Mem → Int32} (S2 : SX c σ2 μ M) (hc : c < 512) (hok0 : ∀ e, ¬ ok e 0) (hL : OpR ok c σ2 μ K b0 b1 b2 b3 m x) (hI5 : IW g r μ5) (h23 : μ5 0 23 = nI c) (h29 : μ5 0 29 = 0) (hm : ∀ μ'', f_X6_keep μ5 = some μ'' → Sm5 μ5 μ'' → m = some (vf μ'', μ'')) (h52 : σ2 52 = ρ 52) (h53 : σ2 53 = ρ 53) (W5 : WI (c + 1) (σ2 51) μ5) (hp : pcN μ ≤ pcN μ5) :
    ∃ τ' M' μ'', x = some (0, vf μ'', τ') ∧ Out c ρ μ (c + 1) (mgY τ' σ2) μ'' M' ∧ Sm5 μ5 μ'' := by
  obtain ⟨μ'', e1, e2, -⟩ := keep_ok hI5 (by omega) h23
  have hs : Sm5 μ5 μ'' := ⟨e2.2.1, fun k k1 k2 => e2.2.2.1 k (by omega) (by omega) (by omega) (by omega) (by omega)⟩
  have hm := hm μ'' e1 hs
  have h29' : μ'' 0 29 = 0 := (hs.1 29 (by decide)).trans h29
  rcases hL with ⟨e, t, h1, h2, h3⟩ | ⟨v, μ3, h1, h2, h3⟩
  · rw [h2] at hm
    obtain ⟨-, rfl⟩ := rt2 hm
    rw [mu_at] at h29'
    subst h29'
    exact absurd h1 (hok0 e)
  · rw [h1] at hm
    obtain ⟨rfl, rfl⟩ := rt2 hm
    obtain ⟨τ', M', k1, k2⟩ := S2.keep hc h2
    refine ⟨τ', M', μ3, by rw [h3, k1]; rfl, ⟨Nat.le_succ _, Nat.le_refl _, Y.g k2, ?_, ⟨h2.2.2.1.2.2.1, h2.2.2.1.2.2.2⟩, by rw [hs.pc]; exact hp, by rw [mgY_K τ' σ2 52 (by decide)]; exact h52, by rw [mgY_K τ' σ2 53 (by decide)]; exact h53⟩, hs⟩
    rw [mgY_K τ' σ2 51 (by decide)]
    exact W5.sm hs
theorem mk_outV {m : Option Mem} {x : Option (Nat × Int32 × Mem)} (S2 : SX c σ2 μ M) (hc : c < 512) (hok0 : ∀ e, ¬ ok e 0) (hL : OpV ok c σ2 μ K b0 b1 b2 b3 m x) (hI5 : IW g r μ5) (h23 : μ5 0 23 = nI c) (h29 : μ5 0 29 = 0) (hm : ∀ μ'', f_X6_keep μ5 = some μ'' → m = some μ'') :
    ∃ τ' M' μ'', x = some (0, 0, τ') ∧ SX (c + 1) τ' μ'' M' ∧ HK c μ μ'' ∧ Sm5 μ5 μ'' := by
  obtain ⟨μ'', e1, e2, -⟩ := keep_ok hI5 (by omega) h23
  have hs : Sm5 μ5 μ'' := ⟨e2.2.1, fun k k1 k2 => e2.2.2.1 k (by omega) (by omega) (by omega) (by omega) (by omega)⟩
  have hm := hm μ'' e1
  have h29' : μ'' 0 29 = 0 := (hs.1 29 (by decide)).trans h29
  rcases hL with ⟨e, t, h1, h2, h3⟩ | ⟨μ3, h1, h2, h3⟩
  · rw [h2] at hm
    cases hm
    rw [mu_at] at h29'
    subst h29'
    exact absurd h1 (hok0 e)
  · rw [h1] at hm
    cases hm
    obtain ⟨τ', M', k1, k2⟩ := S2.keep hc h2
    exact ⟨τ', M', μ'', by rw [h3, k1]; rfl, k2, ⟨h2.2.2.1.2.2.1, h2.2.2.1.2.2.2⟩, hs⟩
end MK
theorem gsum_f {μ μ5 : Mem} {r p : Nat} {d : Int32} (h5 : μ5 0 5 = μ 0 5) (hp : p < 5) (hr : r < 8) (e11 : μ5 11 = μ 11) (e2 : μ5 2 = upd (μ 2) (r * 5 + p) (μ 2 (r * 5 + p) + d)) (e5 : μ5 5 = μ 5) (q : Nat) (hq : q < 5) : gsum μ5 q = gsum μ q + (if p = q then d else 0) := by
  have hpc : pcN μ5 = pcN μ := by unfold pcN; rw [h5]
  rw [gsum3, gsum3, hpc, e11, e2, e5, sl_upd hp hq hr]
  ac_rfl
theorem gsum_s {μ μ5 : Mem} {r p : Nat} {d : Int32} (h5 : μ5 0 5 = μ 0 5) (hp : p < 5) (hr : r < 8) (e11 : μ5 11 = μ 11) (e2 : μ5 2 = μ 2) (e5 : μ5 5 = upd (μ 5) (r * 5 + p) (μ 5 (r * 5 + p) + d)) (q : Nat) (hq : q < 5) : gsum μ5 q = gsum μ q + (if p = q then d else 0) := by
  have hpc : pcN μ5 = pcN μ := by unfold pcN; rw [h5]
  rw [gsum3, gsum3, hpc, e11, e2, e5, sl_upd hp hq hr]
  ac_rfl
theorem ok12_0 : ∀ e, ¬ (fun (e : Nat) (t : Int32) => (e = 1 ∧ t = 1) ∨ (e = 2 ∧ t = 2)) e 0 := fun e h => by
  rcases h with ⟨-, h⟩ | ⟨-, h⟩ <;> exact absurd h (by decide)
theorem isInD {q a b : Nat} (h1 : a ≤ q) (h2 : q ≤ b) (hb : b < 2 ^ 30) : f_X6_isIn (nI q) (nI a) (nI b) = some 1 := by
  unfold f_X6_isIn
  rw [if_neg (i32_le_lt.mpr (nI_le h1 (by omega))), if_neg (i32_le_lt.mpr (nI_le h2 (by omega)))]
theorem roomI : ∀ r, r < 8 → f_X6_isRoom (nI r) = some 1 := by decide
section MKS
variable {c : Nat} {ρ μ : Mem} {M : Nat → Mem}
/-- the cells of the law behind a call that brings goods -/
theorem cf_goods {cf : Nat → Int32} {p : Nat} {d x : Int32} (hp : p < 5) {f f' : Nat → Int32} (h : ∀ q, q < 5 → cf (1 + q) = f q) (hf : ∀ q, q < 5 → f' q = f q + (if p = q then d else 0)) : ∀ q, q < 5 → upd (upd cf (1 + p) (cf (1 + p) + d)) 6 x (1 + q) = f' q := fun q hq => by
  rw [upd_n (by omega), hf q hq]
  by_cases e : p = q
  · subst e; rw [upd_s, if_pos rfl, h p hp]
  · rw [upd_n (by omega), if_neg e, Int32.add_zero, h q hq]
theorem mks_scatter (S : SX c ρ μ M) (W : WI c (ρ 51) μ) (hc : c < 60) {a k n : Nat} (ha : a < 8) (hk : k < 5) (hn : n ≤ 8) {σ2 : Mem} (e2 : σ2 = mu (mu ρ 51 (1 + k) (ρ 51 (1 + k) + nI (1 + n))) 51 6 (nI (c + 1))) : ∃ v τ' M' μ'', f_X5_scatter σ2 (nI a) (nI k) (nI (1 + n)) = some (0, v, τ') ∧ v = μ 2 (a * 5 + k) + nI (1 + n) ∧ Out c ρ μ (c + 1) (mgY τ' σ2) μ'' M' := by
  obtain ⟨⟨w1, w2, w3, w4⟩, ⟨mk, mk1, mk2, mk3⟩, ⟨T, T1, T2, T3⟩, w5, w6, w7⟩ := W
  have S2 : SX c σ2 μ M := S.g fun k hk => by rw [e2, mu_n (by omega), mu_n (by omega)]
  have c51 : σ2 51 = upd (upd (ρ 51) (1 + k) (ρ 51 (1 + k) + nI (1 + n))) 6 (nI (c + 1)) := by rw [e2, mu_s, mu_s]
  have hI := S.iw
  have hj : a * 5 + k < 40 := by omega
  have g40 : ∀ {α : Type} (x : Option α), gd (nI (a * 5 + k)) 40 x = x := fun x => gd_ok hj (by decide)
  have hN : (nI (a * 5 + k)).toNatClampNeg = a * 5 + k := N_nI (by omega)
  obtain ⟨-, -, -, -, -, hI6, -⟩ := id hI
  obtain ⟨F, F1, F2⟩ := hI6 _ hj
  obtain ⟨μ5, hμ5⟩ : ∃ μ5, μ5 = mu (mu μ 0 29 0) 2 (a * 5 + k) (μ 2 (a * 5 + k) + nI (1 + n)) := ⟨_, rfl⟩
  have f0 : ∀ i, i ≠ 29 → μ5 0 i = μ 0 i := fun i hi => by rw [hμ5, mu_n (by decide), mu_pl hi]
  have fk : ∀ k, k ≠ 0 → k ≠ 2 → μ5 k = μ k := fun k k1 k2 => by rw [hμ5, mu_n k2, mu_n k1]
  have f2 : μ5 2 = upd (μ 2) (a * 5 + k) (μ 2 (a * 5 + k) + nI (1 + n)) := by rw [hμ5, mu_s, mu_n (by decide)]
  have hpc : pcN μ5 = pcN μ := by unfold pcN; rw [f0 5 (by decide)]
  obtain ⟨τ', M', μ'', x1, x2, x3⟩ := mk_out (ρ := ρ) (μ5 := μ5) (g := c + 1) (r := 13 * c + 13) (vf := fun μ => μ 2 (a * 5 + k)) S2 (by omega) ok12_0 (op_scatter (S2.beg (by omega)) (nI a) (nI k) (nI (1 + n))) (by rw [hμ5]; exact ((hI.thrown 0).mono (Nat.le_add_right c 1) (Nat.le_add_right _ 13)).floor _ ⟨F + (1 + n), by omega, by rw [F2, nI_add]⟩) ((f0 23 (by decide)).trans S.2.1) (by rw [hμ5, mu_n (by decide), mu_at]) (fun μ'' h1 h2 => by
    unfold f_X6_scatter
    have ma := roomI a ha
    have mb := kindI k hk
    have m1 : f_X6_isIn (nI (1 + n)) 1 9 = some 1 := isInD (a := 1) (b := 9) (by omega) (by omega) (by decide)
    simp only [ma, mb, m1, bd_s, i10, if_false, jn_s, n5l, g40, hN, can_ok, i00, if_true, bd2_s, stp_s, mu_n (show (2 : Nat) ≠ 0 by decide)]
    rw [← hμ5, h1, bd_s]) (by rw [e2, mu_n (by decide), mu_n (by decide)]) (by rw [e2, mu_n (by decide), mu_n (by decide)]) (by
    rw [c51]
    refine ⟨⟨upd_s, by rw [upd_n (by decide), upd_n (by omega), f0 5 (by decide)]; exact w2, by rw [upd_n (by decide), upd_n (by omega), f0 16 (by decide)]; exact w3, fun q hq => by rw [upd_n (by omega), upd_n (by omega), fk 15 (by decide) (by decide)]; exact w4 q hq⟩, ⟨mk, mk1, by rw [upd_n (by decide), upd_n (by omega)]; exact mk2, fun r hr => by rw [fk 3 (by decide) (by decide)]; exact mk3 r hr⟩, ⟨T, by omega, by rw [upd_n (by decide), upd_n (by omega)]; exact T2, T3.same (f0 14 (by decide)) (f0 5 (by decide)) (fk 7 (by decide) (by decide)) (fk 3 (by decide) (by decide))⟩, cf_goods hk w5 (gsum_f (f0 5 (by decide)) hk ha (fk 11 (by decide) (by decide)) f2 (fk 5 (by decide) (by decide))), by rw [fk 1 (by decide) (by decide)]; exact w6, ?_⟩
    unfold WQ at w7 ⊢
    rw [hpc, fk 19 (by decide) (by decide), fk 15 (by decide) (by decide), fk 11 (by decide) (by decide), fk 14 (by decide) (by decide), fk 4 (by decide) (by decide)]
    exact w7) (by rw [hpc]; exact Nat.le_refl _)
  exact ⟨_, τ', M', μ'', x1, by show μ'' 2 (a * 5 + k) = _; rw [x3.2 2 (by decide) (by decide), f2, upd_s], x2⟩
end MKS
