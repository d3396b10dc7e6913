/-! AN ACT OF THE LAW, WHOLE -/
section DW
variable {α : Type} {what x y : Nat} {σ : Mem} {v : Int32}
theorem wm (hw : what ≤ 10) : ((nI what = 0) = (what = 0) ∧ (nI what = 1) = (what = 1) ∧ (nI what = 2) = (what = 2) ∧ (nI what = 3) = (what = 3) ∧ (nI what = 4) = (what = 4)) ∧ (nI what = 5) = (what = 5) ∧ (nI what = 6) = (what = 6) ∧ (nI what = 9) = (what = 9) ∧ (nI what = 10) = (what = 10) := by
  have e : ∀ m, m ≤ 10 → (nI what = nI m) = (what = m) := fun m hm => propext ⟨fun h => nI_inj (by omega) (by omega) h, fun h => by rw [h]⟩
  exact ⟨⟨e 0 (by decide), e 1 (by decide), e 2 (by decide), e 3 (by decide), e 4 (by decide)⟩, e 5 (by decide), e 6 (by decide), e 9 (by decide), e 10 (by decide)⟩
theorem y_pick (hw : what ≤ 10) (hy : y < 2 ^ 30) (J : Int32 → Mem → Option α) : (jn J fun (J111 : Int32 → Mem → Option α) => if nI what = 6 then (J111 (1 + (jrem (nI y) 40)) σ) else (if nI what = 5 then (J111 (jrem (nI y) 4) σ) else (J111 (jrem (nI y) 30) σ))) = J (nI (Y1 what y)) σ := by
  obtain ⟨-, e5, e6, -, -⟩ := wm hw
  have r4 : jrem (nI y) 4 = nI (y % 4) := jrem_nI (d := 4) (by omega) (by decide) (by decide)
  have r30 : jrem (nI y) 30 = nI (y % 30) := jrem_nI (d := 30) (by omega) (by decide) (by decide)
  have r40 : jrem (nI y) 40 = nI (y % 40) := jrem_nI (d := 40) (by omega) (by decide) (by decide)
  unfold Y1
  rw [jn_s, r4, r30, r40, n1a]
  simp only [e5, e6]
  by_cases h6 : what = 6
  · rw [if_pos h6, if_pos h6]
  · rw [if_neg h6, if_neg h6]
    by_cases h5 : what = 5
    · rw [if_pos h5, if_pos h5]
    · rw [if_neg h5, if_neg h5]
theorem x_pick (hw : what ≤ 10) (hx : x < 2 ^ 30) (J : Int32 → Int32 → Mem → Option α) : (jn J fun (J115 : Int32 → Int32 → Mem → Option α) => jn (fun (y287 : Int32) (σ286 : Mem) => J115 y287 (jrem (nI x) 4) σ286) fun (J288 : Int32 → Mem → Option α) => if nI what = 0 then (J288 (nI what) σ) else (if nI what = 6 then (J288 (nI what) σ) else (if nI what = 9 then (J288 (nI what) σ) else (J115 (nI what) (jrem (nI x) 5) σ)))) = J (nI what) (nI (X1 what x)) σ := by
  obtain ⟨⟨e0, -⟩, -, e6, e9, -⟩ := wm hw
  have r4 : jrem (nI x) 4 = nI (x % 4) := jrem_nI (d := 4) (by omega) (by decide) (by decide)
  have r5 : jrem (nI x) 5 = nI (x % 5) := jrem_nI (d := 5) (by omega) (by decide) (by decide)
  unfold X1
  simp only [jn_s, r4, r5, e0, e6, e9]
  by_cases h0 : what = 0
  · rw [if_pos h0, if_pos (Or.inl h0)]
  · rw [if_neg h0]
    by_cases h6 : what = 6
    · rw [if_pos h6, if_pos (Or.inr (Or.inl h6))]
    · rw [if_neg h6]
      by_cases h9 : what = 9
      · rw [if_pos h9, if_pos (Or.inr (Or.inr h9))]
      · rw [if_neg h9, if_neg (by omega)]
def CO (what : Nat) : Nat := if what = 0 ∨ what = 10 then 2 else if what = 9 then 3 else 1
theorem c_pick (hw : what ≤ 10) (J : Int32 → Mem → Option α) : (jn J fun (J130 : Int32 → Mem → Option α) => jn (fun (σ279 : Mem) => J130 2 σ279) fun (J280 : Mem → Option α) => if nI what = 0 then (J280 σ) else (if nI what = 10 then (J280 σ) else (if nI what = 9 then (J130 3 σ) else (J130 1 σ)))) = J (nI (CO what)) σ := by
  obtain ⟨⟨e0, -⟩, -, -, e9, e10⟩ := wm hw
  unfold CO
  simp only [jn_s, e0, e9, e10]
  by_cases h0 : what = 0
  · rw [if_pos h0, if_pos (Or.inl h0)]; rfl
  · rw [if_neg h0]
    by_cases h6 : what = 10
    · rw [if_pos h6, if_pos (Or.inr h6)]; rfl
    · rw [if_neg h6, if_neg (show ¬ (what = 0 ∨ what = 10) by omega)]
      by_cases h9 : what = 9
      · rw [if_pos h9, if_pos h9]; rfl
      · rw [if_neg h9, if_neg h9]; rfl
theorem a_pick0 (h : v ≤ -7) (J : Int32 → Mem → Option α) : (jn J fun (J121 : Int32 → Mem → Option α) => if v ≤ (-7) then (J121 0 σ) else (J121 1 σ)) = J 0 σ := by rw [jn_s, if_pos h]
theorem a_pick1 (h : ¬ v ≤ -7) (J : Int32 → Mem → Option α) : (jn J fun (J121 : Int32 → Mem → Option α) => if v ≤ (-7) then (J121 0 σ) else (J121 1 σ)) = J 1 σ := by rw [jn_s, if_neg h]
theorem t_pick0 (J : Int32 → Int32 → Int32 → Mem → Option α) : (jn J fun (J126 : Int32 → Int32 → Int32 → Mem → Option α) => if (0 : Int32) = 0 then (J126 6 (σ 51 (6 : Int32).toNatClampNeg) 0 σ) else (J126 6 (σ 51 (6 : Int32).toNatClampNeg) 1 σ)) = J 6 (σ 51 6) 0 σ := by rw [jn_s, if_pos rfl, tc6]
theorem t_pick1 (J : Int32 → Int32 → Int32 → Mem → Option α) : (jn J fun (J126 : Int32 → Int32 → Int32 → Mem → Option α) => if (1 : Int32) = 0 then (J126 6 (σ 51 (6 : Int32).toNatClampNeg) 0 σ) else (J126 6 (σ 51 (6 : Int32).toNatClampNeg) 1 σ)) = J 6 (σ 51 6) 1 σ := by rw [jn_s, if_neg e10, tc6]
theorem k_pick0 {n : Int32} (h : f_X5_calls σ = some n) (h6 : σ 51 6 = n) (J : Int32 → Mem → Option α) : (jn J fun (J133 : Int32 → Mem → Option α) => jn (fun (σ274 : Mem) => J133 1 σ274) fun (J275 : Mem → Option α) => if (0 : Int32) = 0 then (bd (f_X5_calls σ) fun v277 => gd 6 13 <| if v277 = (σ 51 6) then (J275 σ) else (J133 0 σ)) else (J275 σ)) = J 1 σ := by rw [jn_s, jn_s, if_pos rfl, h, bd_s, gl6, h6, if_pos rfl]
theorem k_pick1 (J : Int32 → Mem → Option α) : (jn J fun (J133 : Int32 → Mem → Option α) => jn (fun (σ274 : Mem) => J133 1 σ274) fun (J275 : Mem → Option α) => if (1 : Int32) = 0 then (bd (f_X5_calls σ) fun v277 => gd 6 13 <| if v277 = (σ 51 6) then (J275 σ) else (J133 0 σ)) else (J275 σ)) = J 1 σ := by rw [jn_s, jn_s, if_neg e10]
end DW
/-- what a step of the council's law leaves -/
def Out (c : Nat) (ρ μ : Mem) (c' : Nat) (ρ' μ' : Mem) (M' : Nat → Mem) : Prop :=
  c ≤ c' ∧ c' ≤ c + 1 ∧ SX c' ρ' μ' M' ∧ WI c' (ρ' 51) μ' ∧ HK c μ μ' ∧ pcN μ ≤ pcN μ' ∧ ρ' 52 = ρ 52 ∧ ρ' 53 = ρ 53
theorem HK.rf {c : Nat} {μ : Mem} : HK c μ μ := ⟨fun _ _ => ⟨rfl, rfl⟩, fun _ _ => ⟨rfl, rfl⟩⟩
theorem upd_self {f : Nat → Int32} {k : Nat} {x : Int32} (h : f k = x) : upd f k x = f := by
  funext j
  by_cases q : j = k
  · subst q; rw [upd_s, h]
  · rw [upd_n q]
theorem nNL7 {n : Nat} (h : n < 2 ^ 31) : ¬ nI n ≤ -7 := fun q => by
  have : nI n < (0 : Int32) := Int32.lt_of_le_of_lt q (by decide)
  exact nI_pos h this
section DOK
variable {c : Nat} {ρ μ : Mem} {M : Nat → Mem}
theorem d25z (S : SX c ρ μ M) (h7 : ρ 51 7 = nI (pcN μ)) (h8 : ρ 51 8 = nI (qcN μ)) (x1 x2 x3 x4 : Int32) : ∃ σ', (∀ k, L_L_does_25 FU k x1 x2 x3 x4 0 (sZ ρ) = k σ') ∧ Rec ρ μ (pcN μ) σ' :=
  d25 S h7 h8 x1 x2 x3 x4 (pcN μ) FU 0 (sZ ρ) (by omega) (by have := S.iw.np.1; show _ ≤ 6000; omega) ⟨fun k hk => if_pos hk, fun p hp => absurd hp (Nat.not_lt_zero _)⟩
theorem d252z (S : SX c ρ μ M) (h7 : ρ 51 7 = nI (pcN μ)) (h8 : ρ 51 8 = nI (qcN μ)) {what a : Nat} (hw : what ≤ 10) (ha : a < pcN μ) {acc v cost : Int32} (hst : ∀ p q, p < pcN μ → q < qcN μ → μ 19 (p * 3 + q) - ρ 55 (p * 3 + q) = 0 ∨ (μ 19 (p * 3 + q) - ρ 55 (p * 3 + q) = 1 ∧ ¬ acc = 0 ∧ p = a)) (hE : ∀ i, i < pcN μ → Ef what a acc v cost ρ μ i) (x2 x4 : Int32) (k : Int32 → Mem → Option (Int32 × Mem)) : L_L_does_252 FU k (nI what) x2 (nI a) x4 v acc cost 1 0 ρ = k 1 ρ :=
  d252 S h7 h8 hw ha hst hE k x2 x4 (pcN μ) FU 0 (by omega) (by have := S.iw.np.1; show _ ≤ 6000; omega)
/-- accepted: each player behind it -/
theorem ef_ok {what a q w cost : Nat} {v : Int32} {μ5 μ'' τ : Mem} (hnp : pcN μ ≤ 4) (hP : PA what a q w μ cost v μ5 μ'') (hw : what ≤ 10) (ha : a < pcN μ) (e : EndS a cost μ5 μ'') (h54 : ∀ p, p < pcN μ → τ 54 p = μ 10 p ∧ τ 56 p = μ 6 p) : ∀ i, i < pcN μ → Ef what a 1 v (nI (CO what)) τ μ'' i := by
  obtain ⟨p0, p9, p10, p1, pn, -⟩ := hP
  have e10 := e.2.2.1
  have e6 := e.1 6 (by decide) (by decide) (by decide) (by decide) (by decide)
  have e9 := e.1 9 (by decide) (by decide) (by decide) (by decide) (by decide)
  intro i hi
  obtain ⟨t54, t56⟩ := h54 i hi
  obtain ⟨ta54, -⟩ := h54 a ha
  unfold Ef
  rw [t54, t56, ta54, e10, e6, e9]
  by_cases w9 : what = 9
  · subst w9
    have hCO : CO 9 = 3 := rfl
    rw [hCO]
    rcases p9 rfl with ⟨rfl, rfl, q1, q2⟩ | ⟨l, t, l1, rfl, l3, l4, l5, l6, l7⟩
    · refine Or.inr (Or.inr ⟨rfl, fun z => nI_neg1 (a := i) (by omega) z.2.symm, ?_, ?_⟩)
      · rw [q1]
        by_cases h : i = a
        · subst h; rw [upd_s, if_pos rfl]
        · rw [upd_n h, if_neg h]
      · rw [q2, if_neg fun z => absurd z.1 (by decide)]
    · have ht : nI t + 10 = nI (t + 10) := nI_add t 10
      by_cases h : i = l
      · subst h
        refine Or.inr (Or.inl ⟨rfl, rfl, rfl, ?_, ?_, l7⟩)
        · rw [l5, l3, ht]
          by_cases h : i = a
          · subst h
            rcases l4 with ⟨-, rfl⟩ | ⟨z, -⟩
            · rw [upd_s, upd_s]; exact Int32.add_zero _
            · exact absurd rfl z
          · rw [upd_n h, upd_s]
        · rw [l6, upd_s]
      · refine Or.inr (Or.inr ⟨rfl, fun z => h (nI_inj (by omega) (by omega) z.2.symm), ?_, ?_⟩)
        · rw [l5]
          by_cases hh : i = a
          · subst hh
            rcases l4 with ⟨z, -⟩ | ⟨-, rfl⟩
            · exact absurd z.symm h
            · rw [upd_s, upd_n h, if_pos rfl]
          · rw [upd_n hh, upd_n h, if_neg hh]
        · rw [l6, upd_n h, if_neg fun z => absurd z.1 (by decide)]
  · refine Or.inr (Or.inr ⟨rfl, fun z => w9 z.1, ?_, ?_⟩)
    · have hc : μ5 10 = μ 10 ∧ cost = CO what := by
        unfold CO
        by_cases w0 : what = 0
        · obtain ⟨z1, z2, -⟩ := p0 w0
          exact ⟨z2, by rw [z1, if_pos (Or.inl w0)]⟩
        · refine ⟨(pn w0 w9).1, ?_⟩
          by_cases w10 : what = 10
          · rw [(p10 w10).1, if_pos (Or.inr w10)]
          · rw [p1 (by omega) (by omega), if_neg (by omega), if_neg w9]
      rw [hc.1, hc.2]
      by_cases h : i = a
      · subst h; rw [upd_s, if_pos rfl]
      · rw [upd_n h, if_neg h]
    · by_cases w0 : what = 0
      · obtain ⟨z1, z2, x, x1, x2, x3⟩ := p0 w0
        rw [x3]
        by_cases h : i = a
        · subst h; rw [upd_s, if_pos ⟨w0, rfl⟩]
        · rw [upd_n h, if_neg fun z => h z.2]
      · rw [(pn w0 w9).2, if_neg fun z => w0 z.1]
end DOK
