/-! ROOMS -/
def Sm7 (ρ ρ' : Mem) : Prop := ∀ k, k ≠ 7 → ρ' k = ρ k
theorem Sm7.rf {ρ : Mem} : Sm7 ρ ρ := fun _ _ => rfl
theorem Sm7.tr {ρ ρ' ρ'' : Mem} (h : Sm7 ρ ρ') (h' : Sm7 ρ' ρ'') : Sm7 ρ ρ'' := fun k hk => (h' k hk).trans (h k hk)
theorem Sm7.SX {c : Nat} {ρ ρ' μ : Mem} {M : Nat → Mem} (h : Sm7 ρ ρ') (S : SX c ρ μ M) : SX c ρ' μ M := S.t (fun k _ h7 => h k h7) (h 49 (by decide)) (h 50 (by decide))
theorem q_dist {c : Nat} {ρ μ : Mem} {M : Nat → Mem} (S : SX c ρ μ M) {a b : Nat} (a1 : a < 8) (b1 : b < 8) : ∃ v τ', f_X5_distance ρ (nI a) (nI b) = some (0, v, τ') ∧ IsD (μ 1) a b v ∧ Sm7 ρ (mgY τ' ρ) := by
  obtain ⟨v, τ', h1, h2, -, h4⟩ := p_distance S a1 b1
  exact ⟨v, τ', h1, h2, fun k hk => by
    unfold mgY
    split
    · exact h4 k hk
    · rfl⟩
theorem jr4 : ∀ i, i < 4 → jrem (nI i + 2) 4 = nI ((i + 2) % 4) := by decide
theorem m1m {d d' : Nat} (h : d ≤ d' + 1) (hd : d < 100) (hd' : d' < 100) : ¬ nI d' < nI d - 1 := by
  cases d with
  | zero => exact i32_le_lt.mpr (show nI 0 - 1 ≤ nI d' from Int32.le_trans (by decide : nI 0 - 1 ≤ 0) (nI_le (a := 0) (by omega) (by omega)))
  | succ d => rw [nI_pred]; exact i32_le_lt.mpr (nI_le (by omega) (by omega))
theorem p1m {d d' : Nat} (h : d' ≤ d + 1) (hd : d < 100) : ¬ nI d + 1 < nI d' := by
  rw [nI_1]; exact i32_le_lt.mpr (nI_le h (by omega))
section ROOMS
variable {c : Nat} {μ : Mem} {M : Nat → Mem}
theorem r85 (hE : EI (μ 1)) {a b : Nat} (ha : a < 8) (hb : b < 8) {v : Int32} (hv : IsD (μ 1) a b v) (k : Int32 → Int32 → Mem → Option (Int32 × Mem)) : ∀ (m n i : Nat) (x35 : Int32) (σ : Mem), i + m = 4 → m + 1 ≤ n → SX c σ μ M → (x35 = 1 ∨ (x35 = 0 ∧ ∃ r u, i ≤ r ∧ r < 4 ∧ u < 8 ∧ μ 1 (b * 4 + r) = nI u ∧ ∀ w, IsD (μ 1) a u w → w = v - 1)) →
    ∃ σ', L_L_areRooms_85 n k (nI a) (nI b) v 1 x35 (nI i) σ = k 1 1 σ' ∧ Sm7 σ σ' := by
  intro m
  induction m with
  | zero =>
    intro n i x35 σ h1 h2 S hx
    obtain ⟨n, rfl⟩ : ∃ n', n = n' + 1 := ⟨n - 1, by omega⟩
    have : x35 = 1 := by
      rcases hx with hx | ⟨-, r, u, r1, r2, -⟩
      · exact hx
      · omega
    subst this
    exact ⟨σ, by rw [L_L_areRooms_85, if_pos (show (4 : Int32) ≤ nI i from nI_le (a := 4) (by omega) (by omega))], Sm7.rf⟩
  | succ m ih =>
    intro n i x35 σ h1 h2 S hx
    obtain ⟨n, rfl⟩ : ∃ n', n = n' + 1 := ⟨n - 1, by omega⟩
    have hi : i < 4 := by omega
    rw [L_L_areRooms_85, if_neg (show ¬ (4 : Int32) ≤ nI i from nI_ge (b := 4) (by omega) (by omega)), if_neg e10, p_exit S hb hi, bt_0]
    obtain ⟨-, -, -, -, h5, -⟩ := id S.iw
    rcases h5 (b * 4 + i) (by omega) with he | ⟨u, u1, he⟩
    · -- no exit
      simp only [jn_s, he, if_neg (show ¬ (0 : Int32) ≤ -1 by decide), if_pos (show (-1 : Int32) < 0 by decide)]
      have hx' : x35 = 1 ∨ (x35 = 0 ∧ ∃ r u, i + 1 ≤ r ∧ r < 4 ∧ u < 8 ∧ μ 1 (b * 4 + r) = nI u ∧ ∀ w, IsD (μ 1) a u w → w = v - 1) := by
        rcases hx with hx | ⟨hx, r, u, r1, r2, r3, r4, r5⟩
        · exact Or.inl hx
        · refine Or.inr ⟨hx, r, u, ?_, r2, r3, r4, r5⟩
          by_cases q : i = r
          · subst q; rw [he] at r4; exact absurd r4 (m1_nI (by omega))
          · omega
      have key := ih n (i + 1) x35 σ (by omega) (by omega) S hx'
      rw [← nI_1] at key
      rcases hx with hx | ⟨hx, -⟩
      · subst hx; rw [if_neg e10]; exact key
      · subst hx; rw [if_pos (show (0 : Int32) = 0 from rfl)]; exact key
    · -- an exit
      obtain ⟨hne, hbk⟩ := hE (b * 4 + i) u (by omega) u1 he
      rw [show (b * 4 + i) / 4 = b by omega, show (b * 4 + i) % 4 = i by omega] at *
      obtain ⟨w, τ', d1, d2, d3⟩ := q_dist S ha u1
      have S1 := d3.SX S
      have hx1 : f_X5_exit (mgY τ' σ) (nI u) (nI ((i + 2) % 4)) = some (0, nI b) := (p_exit S1 u1 (show (i + 2) % 4 < 4 by omega)).trans (by rw [hbk])
      have hub : ¬ nI u = nI b := fun q => hne (nI_inj (by omega) (by omega) q)
      have hedge := D_edge hE (i := b * 4 + i) (by omega) u1 he (by rw [show (b * 4 + i) / 4 = b by omega]; exact hv) d2
      simp only [jn_s, he, if_pos (show (0 : Int32) ≤ nI u from nI_le (a := 0) (by omega) (by omega)), d1, bt3_0, stp_s, if_neg (nI_pos (show u < 2 ^ 31 by omega)), if_neg hub, jr4 i hi, hx1, bt_0, if_true]
      have fin : ∀ y : Int32, (y = 1 ∨ (y = 0 ∧ x35 = 0 ∧ ¬ w = v - 1)) → ∃ σ', L_L_areRooms_85 n k (nI a) (nI b) v 1 y (nI i + 1) (mgY τ' σ) = k 1 1 σ' ∧ Sm7 σ σ' := fun y hy => by
        obtain ⟨σ', s1, s2⟩ := ih n (i + 1) y (mgY τ' σ) (by omega) (by omega) S1 (by
          rcases hy with hy | ⟨hy, h35, hw⟩
          · exact Or.inl hy
          · rcases hx with hx | ⟨-, r, u', r1, r2, r3, r4, r5⟩
            · rw [h35] at hx; exact absurd hx (by decide)
            · refine Or.inr ⟨hy, r, u', ?_, r2, r3, r4, r5⟩
              by_cases q : i = r
              · subst q
                rw [he] at r4
                have := nI_inj (by omega) (by omega) r4
                subst this
                exact absurd (r5 w d2) hw
              · omega)
        rw [nI_1]
        exact ⟨σ', s1, d3.tr s2⟩
      have near : ∃ σ', (if x35 = 0 then (if w = v - 1 then L_L_areRooms_85 n k (nI a) (nI b) v 1 1 (nI i + 1) (mgY τ' σ) else L_L_areRooms_85 n k (nI a) (nI b) v 1 0 (nI i + 1) (mgY τ' σ)) else L_L_areRooms_85 n k (nI a) (nI b) v 1 1 (nI i + 1) (mgY τ' σ)) = k 1 1 σ' ∧ Sm7 σ σ' := by
        by_cases h35 : x35 = 0
        · rw [if_pos h35]
          by_cases hw : w = v - 1
          · rw [if_pos hw]; exact fin 1 (Or.inl rfl)
          · rw [if_neg hw]; exact fin 0 (Or.inr ⟨rfl, h35, hw⟩)
        · rw [if_neg h35]; exact fin 1 (Or.inl rfl)
      rcases hedge with ⟨e1, e2⟩ | ⟨d, d', g1, g2, g3, g4, g5, g6⟩
      · subst e1; subst e2
        rw [if_neg (show ¬ (0 : Int32) ≤ -1 by decide)]
        exact near
      · subst g3; subst g4
        rw [if_pos (show (0 : Int32) ≤ nI d from nI_le (a := 0) (by omega) (by omega)), if_neg (m1m g6 (by omega) (by omega)), if_neg (p1m g5 (by omega))]
        exact near
theorem r17 (hE : EI (μ 1)) {a : Nat} (ha : a < 8) (k : Int32 → Mem → Option (Int32 × Mem)) : ∀ (m n i : Nat) (σ : Mem), i + m = 8 → m + 1 ≤ n → SX c σ μ M → ∃ σ', L_L_areRooms_17 n k (nI a) 1 (nI i) σ = k 1 σ' ∧ Sm7 σ σ' := by
  intro m
  induction m with
  | zero =>
    intro n i σ h1 h2 S
    obtain ⟨n, rfl⟩ : ∃ n', n = n' + 1 := ⟨n - 1, by omega⟩
    exact ⟨σ, by rw [L_L_areRooms_17, if_pos (show (8 : Int32) ≤ nI i from nI_le (a := 8) (by omega) (by omega))], Sm7.rf⟩
  | succ m ih =>
    intro n i σ h1 h2 S
    obtain ⟨n, rfl⟩ : ∃ n', n = n' + 1 := ⟨n - 1, by omega⟩
    have hi : i < 8 := by omega
    obtain ⟨v, τ', d1, d2, d3⟩ := q_dist S ha hi
    have S1 := d3.SX S
    obtain ⟨w, τ'', f1, f2, f3⟩ := q_dist S1 hi ha
    have S2 := f3.SX S1
    have hvw : v = w := D_sym hE ha hi d2 f2
    subst hvw
    rw [L_L_areRooms_17, if_neg (show ¬ (8 : Int32) ≤ nI i from nI_ge (b := 8) (by omega) (by omega)), if_neg e10, d1, bt3_0, stp_s]
    have hlo : ¬ v < -1 ∧ ¬ 7 < v := by
      rcases D_range hi d2 with z | ⟨d, e1, e2⟩
      · subst z; exact ⟨by decide, by decide⟩
      · subst e2
        exact ⟨fun h => absurd (Int32.lt_of_lt_of_le h (by decide : (-1 : Int32) ≤ 0)) (nI_pos (by omega)), i32_le_lt.mpr (nI_le (b := 7) e1 (by decide))⟩
    have go : ∀ y : Int32, (y = 1 ∨ (y = 0 ∧ ∃ r u, 0 ≤ r ∧ r < 4 ∧ u < 8 ∧ μ 1 (i * 4 + r) = nI u ∧ ∀ w, IsD (μ 1) a u w → w = v - 1)) →
        ∃ σ', L_L_areRooms_85 FU (fun (x39 : Int32) (x40 : Int32) (σ41 : Mem) => if x39 = 0 then L_L_areRooms_17 n k (nI a) 0 (nI i + 1) σ41 else (if x40 = 0 then L_L_areRooms_17 n k (nI a) 0 (nI i + 1) σ41 else L_L_areRooms_17 n k (nI a) 1 (nI i + 1) σ41)) (nI a) (nI i) v 1 y 0 (mgY τ'' (mgY τ' σ)) = k 1 σ' ∧ Sm7 σ σ' := fun y hy => by
      obtain ⟨σ1, s1, s2⟩ := r85 (c := c) (M := M) hE ha hi d2 (fun (x39 : Int32) (x40 : Int32) (σ41 : Mem) => if x39 = 0 then L_L_areRooms_17 n k (nI a) 0 (nI i + 1) σ41 else (if x40 = 0 then L_L_areRooms_17 n k (nI a) 0 (nI i + 1) σ41 else L_L_areRooms_17 n k (nI a) 1 (nI i + 1) σ41)) 4 FU 0 y (mgY τ'' (mgY τ' σ)) (by omega) (by decide) S2 hy
      obtain ⟨σ', t1, t2⟩ := ih n (i + 1) σ1 (by omega) (by omega) (s2.SX S2)
      refine ⟨σ', ?_, (d3.tr f3).tr (s2.tr t2)⟩
      rw [show nI 0 = (0 : Int32) from rfl] at s1
      rw [s1, if_neg e10, if_neg e10, nI_1]
      exact t1
    simp only [jn_s, f1, bt3_0, stp_s, if_true, if_neg hlo.1, if_neg hlo.2]
    by_cases hia : nI i = nI a
    · rw [if_pos hia]; exact go 1 (Or.inl rfl)
    · rw [if_neg hia]
      rcases D_range hi d2 with z | ⟨d, e1, e2⟩
      · subst z
        rw [if_neg (show ¬ (0 : Int32) ≤ -1 by decide)]
        exact go 1 (Or.inl rfl)
      · subst e2
        rw [if_pos (show (0 : Int32) ≤ nI d from nI_le (a := 0) (by omega) (by omega))]
        cases d with
        | zero => exact absurd (by rw [D_zero hi d2]) hia
        | succ d =>
          obtain ⟨r, u, r1, r2, r3, r4⟩ := D_pred hE hi e1 d2
          exact go 0 (Or.inr ⟨rfl, r, u, Nat.zero_le _, r1, r2, r3, fun w hw => by rw [r4 w hw, nI_pred]⟩)
theorem areRooms_ok {ρ : Mem} (S : SX c ρ μ M) (hE : EI (μ 1)) {a : Nat} (ha : a < 8) : ∃ ρ', f_L_areRooms ρ (nI a) = some (1, ρ') ∧ Sm7 ρ ρ' := by
  obtain ⟨v, τ', d1, d2, d3⟩ := q_dist S ha ha
  have hv := D_self d2
  subst hv
  obtain ⟨σ', s1, s2⟩ := r17 (c := c) (M := M) hE ha (fun (x13 : Int32) (σ14 : Mem) => gz x13 <| some (x13, σ14)) 8 FU 0 (mgY τ' ρ) (by omega) (by decide) (d3.SX S)
  refine ⟨σ', ?_, d3.tr s2⟩
  unfold f_L_areRooms
  rw [d1, bt3_0, stp_s, jn_s, if_pos (show (0 : Int32) = 0 from rfl)]
  rw [show nI 0 = (0 : Int32) from rfl] at s1
  refine s1.trans ?_
  rw [gz1]
end ROOMS
