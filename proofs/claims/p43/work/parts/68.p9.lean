/-! THE ACTS, ONE BY ONE -/
def AC (c a T : Nat) (μ : Mem) : Prop := IW c (13 * c) μ ∧ μ 0 23 = nI c ∧ c < 512 ∧ WQ μ ∧ WK2 T μ ∧ T < 2 ^ 30 ∧ a < pcN μ ∧ f_X6_actor μ = some (nI a)
theorem rg1 {x y z d e : Int32} (h : d + e = 0) : (x + d) + ((y + e) + z) = x + (y + z) := by
  have : (x + d) + ((y + e) + z) = (x + (y + z)) + (d + e) := by ac_rfl
  rw [this, h, Int32.add_zero]
theorem rg2 {x y z d e : Int32} (h : d + e = 0) : (x + d) + (y + (z + e)) = x + (y + z) := by
  have : (x + d) + (y + (z + e)) = (x + (y + z)) + (d + e) := by ac_rfl
  rw [this, h, Int32.add_zero]
theorem rg3 {x y d e : Int32} (h : d + e = 0) : (x + d + e) + y = x + y := by
  rw [Int32.add_assoc x, h, Int32.add_zero]
theorem dm1 : (1 : Int32) + -1 = 0 := by decide
theorem dm2 : (-1 : Int32) + 1 = 0 := by decide
section GS
variable {μ μ5 : Mem} {a r p : Nat} {d e : Int32}
theorem gsum_gf (h5 : μ5 0 5 = μ 0 5) (hp : p < 5) (ha : a < pcN μ) (hr : r < 8) (e11 : μ5 11 = upd (μ 11) (a * 5 + p) (μ 11 (a * 5 + p) + d)) (e2 : μ5 2 = upd (μ 2) (r * 5 + p) (μ 2 (r * 5 + p) + e)) (e5 : μ5 5 = μ 5) (hde : d + e = 0) : ∀ q, q < 5 → gsum μ5 q = gsum μ q := fun q hq => by
  have hpc : pcN μ5 = pcN μ := by unfold pcN; rw [h5]
  rw [gsum3, gsum3, hpc, e11, e2, e5, sl_upd hp hq ha, sl_upd hp hq hr]
  by_cases h : p = q
  · rw [if_pos h, if_pos h]; exact rg1 hde
  · rw [if_neg h, if_neg h, Int32.add_zero, Int32.add_zero]
theorem gsum_gs (h5 : μ5 0 5 = μ 0 5) (hp : p < 5) (ha : a < pcN μ) (hr : r < 8) (e11 : μ5 11 = upd (μ 11) (a * 5 + p) (μ 11 (a * 5 + p) + d)) (e2 : μ5 5 = upd (μ 5) (r * 5 + p) (μ 5 (r * 5 + p) + e)) (e5 : μ5 2 = μ 2) (hde : d + e = 0) : ∀ q, q < 5 → gsum μ5 q = gsum μ q := fun q hq => by
  have hpc : pcN μ5 = pcN μ := by unfold pcN; rw [h5]
  rw [gsum3, gsum3, hpc, e11, e2, e5, sl_upd hp hq ha, sl_upd hp hq hr]
  by_cases h : p = q
  · rw [if_pos h, if_pos h]; exact rg2 hde
  · rw [if_neg h, if_neg h, Int32.add_zero, Int32.add_zero]
theorem gsum_gg {b : Nat} (h5 : μ5 0 5 = μ 0 5) (hp : p < 5) (ha : a < pcN μ) (hb : b < pcN μ) {g1 : Nat → Int32} (e1 : g1 = upd (μ 11) (a * 5 + p) (μ 11 (a * 5 + p) + d)) (e11 : μ5 11 = upd g1 (b * 5 + p) (g1 (b * 5 + p) + e)) (e2 : μ5 2 = μ 2) (e5 : μ5 5 = μ 5) (hde : d + e = 0) : ∀ q, q < 5 → gsum μ5 q = gsum μ q := fun q hq => by
  have hpc : pcN μ5 = pcN μ := by unfold pcN; rw [h5]
  rw [gsum3, gsum3, hpc, e11, e2, e5, sl_upd (row := g1) hp hq hb, e1, sl_upd hp hq ha]
  by_cases h : p = q
  · rw [if_pos h, if_pos h]; exact rg3 hde
  · rw [if_neg h, if_neg h, Int32.add_zero, Int32.add_zero]
end GS
/-- the end of an act, from μ5 -/
theorem ar_end {ok : Nat → Int32 → Prop} {c a t : Nat} {μ μ5 : Mem} {w b : Int32} {P : Nat → Int32 → Mem → Mem → Prop} {res : Option (Int32 × Mem)} (vf : Mem → Int32) (hI5 : IW (c + 1) (13 * c + 10) μ5) (hc : c < 512) (h23 : μ5 0 23 = nI c) (h29 : μ5 0 29 = 0) (ha : a < pcN μ5) (ht : t ≤ 3) (hw : RWD μ5) (hm : Mid μ μ5)
    (hres : ∀ μ'', f_X6_ends μ5 (nI a) (nI t) w b = some μ'' → EndS a t μ5 μ'' → res = some (vf μ'', μ'')) (hP : ∀ μ'', EndS a t μ5 μ'' → P t (vf μ'') μ5 μ'') : AR ok c a μ res P := by
  obtain ⟨μ'', e1, e2, e3⟩ := ends_sem (w := w) (b := b) hI5 (by omega) h23 ha ht (by omega) hw
  exact Or.inr ⟨t, vf μ'', μ5, μ'', hres μ'' e1 e2, by rw [e2.2.1 29 (by decide) (by decide), h29], e3, hm, e2, hP μ'' e2⟩
theorem ok13_2 : ∀ e, ok13 e 2 → e = 1 ∨ e = 3 := fun e h => by
  rcases h with ⟨h, -⟩ | ⟨h, -⟩
  · exact Or.inl h
  · exact Or.inr h
theorem ok13_1 : ∀ e, ok13 e 1 → e = 1 ∨ e = 3 := fun e h => by
  rcases h with ⟨h, -⟩ | ⟨h, -⟩
  · exact Or.inl h
  · exact Or.inr h
theorem ok123_1 : ∀ e, ok123 e 1 → e = 1 ∨ e = 3 := fun e h => by
  rcases h with ⟨h, -⟩ | ⟨-, h⟩ | ⟨h, -⟩
  · exact Or.inl h
  · exact absurd h (by decide)
  · exact Or.inr h
theorem ok123_3 : ∀ e, ok123 e 3 → e = 1 ∨ e = 3 := fun e h => by
  rcases h with ⟨h, -⟩ | ⟨-, h⟩ | ⟨h, -⟩
  · exact Or.inl h
  · exact absurd h (by decide)
  · exact Or.inr h
theorem dirI : ∀ d, d < 4 → f_X6_isIn (nI d) 0 3 = some 1 := by decide
theorem kindI : ∀ d, d < 5 → f_X6_isKind (nI d) = some 1 := by decide
theorem sem_go {c a T : Nat} {μ : Mem} (h : AC c a T μ) {d : Nat} (hd : d < 4) : AR ok13 c a μ (f_X6_go μ (nI d)) (fun cost v μ5 _ => cost = 2 ∧ μ5 10 = μ 10 ∧ ∃ x, x < 8 ∧ v = nI x ∧ μ5 6 = upd (μ 6) a v) := by
  obtain ⟨hI, h23, hc, Q, K, hT, ha, a3⟩ := h
  have hnp := hI.np
  obtain ⟨⟨rm, rm1, rm2⟩, -⟩ := hI.pl ha
  have m1 := dirI d hd
  have g4 : ∀ {α : Type} (x : Option α), gd (nI a) 4 x = x := fun x => gd_ok (by omega) (by decide)
  have hNa : (nI a).toNatClampNeg = a := N_nI (by omega)
  have hj : rm * 4 + d < 32 := by omega
  have g32 : ∀ {α : Type} (x : Option α), gd (nI (rm * 4 + d)) 32 x = x := fun x => gd_ok hj (by decide)
  have hNj : (nI (rm * 4 + d)).toNatClampNeg = rm * 4 + d := N_nI (by omega)
  obtain ⟨-, -, -, -, h5, -⟩ := id hI
  unfold f_X6_go
  rcases h5 _ hj with hx | ⟨x, hx1, hx2⟩
  · exact Or.inl ⟨2, by decide, ok13_2, by simp only [a3, bd_s, m1, i10, if_false, jn_s, nI_m1 (show a < 2 ^ 31 by omega), g4, hNa, rm2, n4l, g32, hNj, hx, im1, if_true, can_ok, i20, bd2_s, i00]⟩
  · obtain ⟨μ5, hμ5⟩ : ∃ μ5, μ5 = mu (mu μ 0 29 0) 6 a (nI x) := ⟨_, rfl⟩
    have e : ∀ k, k ≠ 0 → k ≠ 6 → μ5 k = μ k := fun k k1 k2 => by rw [hμ5, mu_n k2, mu_n k1]
    have e0 : ∀ i, i ≠ 29 → μ5 0 i = μ 0 i := fun i hi => by rw [hμ5, mu_n (by decide), mu_pl hi]
    have e6 : μ5 6 = upd (μ 6) a (nI x) := by rw [hμ5, mu_s, mu_n (by decide)]
    have hpc : pcN μ5 = pcN μ := by unfold pcN; rw [e0 5 (by decide)]
    refine ar_end (μ5 := μ5) (t := 2) (w := -1) (b := -1) (fun _ => nI x) (by rw [hμ5]; exact ((hI.thrown 0).room a ⟨x, hx1, rfl⟩).mono (by omega) (by omega)) hc ((e0 23 (by decide)).trans h23) (by rw [hμ5, mu_n (by decide), mu_at]) (by rw [hpc]; exact ha) (by decide) (fun q hq => by rw [e 14 (by decide) (by decide)]; exact Q.2.2.2.1 q hq) ⟨⟨e 1 (by decide) (by decide), e 4 (by decide) (by decide), e 14 (by decide) (by decide), e 15 (by decide) (by decide), e 19 (by decide) (by decide)⟩, fun i _ _ h3 => e0 i h3, fun r _ => by rw [e 3 (by decide) (by decide)], fun T _ hk => hk.same (e0 14 (by decide)) (e0 5 (by decide)) (e 7 (by decide) (by decide)) (e 3 (by decide) (by decide)), fun q _ => gsum_same (e0 5 (by decide)) (e 11 (by decide) (by decide)) (e 2 (by decide) (by decide)) (e 5 (by decide) (by decide)) q, fun j _ _ => by rw [e 11 (by decide) (by decide)]⟩ (fun μ'' hq hE => ?_) (fun μ'' _ => ⟨rfl, e 10 (by decide) (by decide), x, hx1, rfl, e6⟩)
    have hq6 : μ'' 6 a = nI x := by rw [hE.1 6 (by decide) (by decide) (by decide) (by decide) (by decide), e6, upd_s]
    simp only [a3, bd_s, m1, i10, if_false, jn_s, nI_m1 (show a < 2 ^ 31 by omega), g4, hNa, rm2, n4l, g32, hNj, hx2, nI_m1 (show x < 2 ^ 31 by omega), can_ok, i00, if_true, bd2_s, mu_n (show (6 : Nat) ≠ 0 by decide), mu_n (show (1 : Nat) ≠ 0 by decide), stp_s]
    rw [← hμ5, show f_X6_ends μ5 (nI a) 2 (-1) (-1) = some μ'' from hq, bd_s, hq6]
