/-! THE COUNCIL OF THE LAW SAYS YES -/
theorem mk_step {k : Nat} {ρ : Mem} (hk : k < 56) (hJ : JJ k ρ) {x y : Nat} (hx : x < 2 ^ 30) (hy : y < 2 ^ 30) {what : Nat} (hw : what ≤ 6) (h3 : 10 ≤ k → k < 13 → what = 3) : ∃ ρ' ρ'', f_L_makes ρ (nI what) (nI x) (nI y) = some (1, ρ') ∧ (∀ K, CHK 1 ρ' (nI x) (nI y) K = K ρ'') ∧ JJ (k + 1) ρ'' := by
  obtain ⟨c, μ, M, j1, S, W, hh, hp⟩ := hJ
  have hnp := S.iw.np.1
  obtain ⟨c', ρ', μ', M', m1, m2, m3⟩ := makes_ok S W (by omega) hx hy hw
  have hle := m2.2.2.2.2.2.1
  obtain ⟨ρ'', z1, z2⟩ := step_ok (M := M) hk j1 hh m2 (by
    by_cases h10 : k < 10
    · exact Or.inl (by omega)
    · by_cases h13 : k < 13
      · have m3 := m3 (h3 (by omega) h13)
        by_cases h4 : pcN μ < 4
        · have := m3 h4
          omega
        · exact Or.inr (by omega)
      · exact Or.inr (by omega)) hx hy
  exact ⟨ρ', ρ'', m1, z1, z2⟩
theorem do_step {k : Nat} {ρ : Mem} (hk : k < 56) (h13 : 13 ≤ k) (hJ : JJ k ρ) {x y : Nat} (hx : x < 2 ^ 30) (hy : y < 2 ^ 30) {what : Nat} (hw : what ≤ 10) : ∃ ρ' ρ'', f_L_does ρ (nI what) (nI x) (nI y) = some (1, ρ') ∧ (∀ K, CHK 1 ρ' (nI x) (nI y) K = K ρ'') ∧ JJ (k + 1) ρ'' := by
  obtain ⟨c, μ, M, j1, S, W, hh, hp⟩ := hJ
  obtain ⟨c', ρ', μ', M', m1, m2⟩ := does_ok S W (by omega) hw hx hy (by omega)
  have hle := m2.2.2.2.2.2.1
  obtain ⟨ρ'', z1, z2⟩ := step_ok (M := M) hk j1 hh m2 (Or.inr (by omega)) hx hy
  exact ⟨ρ', ρ'', m1, z1, z2⟩
theorem loop37 (xs : Nat → Int32) {L : Nat} (hL : L ≤ 260) {a0 : Nat} (h0 : a0 ≤ 340) : ∀ (m n k : Nat) (ρ : Mem), k + m = 56 → m + 1 ≤ n → JJ k ρ → ∃ σr, L_L_council_37 xs L n (fun (σ111 : Mem) => some (1, σ111)) (nI a0) (nI k) ρ = some (1, σr) := by
  intro m
  induction m with
  | zero =>
    intro n k ρ h1 h2 hJ
    obtain ⟨n, rfl⟩ : ∃ n', n = n' + 1 := ⟨n - 1, by omega⟩
    exact ⟨ρ, by rw [L_L_council_37, if_pos (show (56 : Int32) ≤ nI k from nI_le (a := 56) (by omega) (by omega))]⟩
  | succ m ih =>
    intro n k ρ h1 h2 hJ
    obtain ⟨n, rfl⟩ : ∃ n', n = n' + 1 := ⟨n - 1, by omega⟩
    have hk : k < 56 := by omega
    have e30 : (1073741824 : Int32) = nI (2 ^ 30) := rfl
    have e26 : (26 : Int32) = nI 26 := rfl
    have D0 : nI a0 + 3 * nI k = nI (a0 + k * 3) := by rw [show (3 : Int32) = nI 3 from rfl, pk_mul, nI_add, Nat.mul_comm]
    have D2 : nI (a0 + k * 3) + 2 = nI (a0 + k * 3 + 2) := nI_add _ 2
    obtain ⟨x, hx, dx⟩ := draw_ok xs hL (kk := a0 + k * 3 + 1) (m := 2 ^ 30) (by omega) (by decide) (by decide)
    obtain ⟨y, hy, dy⟩ := draw_ok xs hL (kk := a0 + k * 3 + 2) (m := 2 ^ 30) (by omega) (by decide) (by decide)
    obtain ⟨z, hz, dz⟩ := draw_ok xs hL (kk := a0 + k * 3) (m := 26) (by omega) (by decide) (by decide)
    have go : ∀ ρ'', JJ (k + 1) ρ'' → ∃ σr, L_L_council_37 xs L n (fun (σ111 : Mem) => some (1, σ111)) (nI a0) (nI k + 1) ρ'' = some (1, σr) := fun ρ'' hJ' => by
      rw [nI_1]; exact ih n (k + 1) ρ'' (by omega) (by omega) hJ'
    have le : ∀ b, b ≤ 56 → b ≤ k → nI b ≤ nI k := fun b hb h => nI_le h (by omega)
    have nle : ∀ b, k < b → b ≤ 56 → ¬ nI b ≤ nI k := fun b h hb => nI_ge h (by omega)
    rw [L_L_council_37, if_neg (show ¬ (56 : Int32) ≤ nI k from nle 56 hk (Nat.le_refl _)), D0, nI_1, D2, e30, dx, bd_s, dy, bd_s, jn_s]
    by_cases k7 : k < 7
    · obtain ⟨ρ', ρ'', m1, m2, m3⟩ := mk_step hk hJ hx hy (what := 0) (by decide) (by omega)
      obtain ⟨σr, hr⟩ := go ρ'' m3
      refine ⟨σr, ?_⟩
      have m1 : f_L_makes ρ 0 (nI x) (nI y) = some (1, ρ') := m1
      rw [if_neg (show ¬ (7 : Int32) ≤ nI k from nle 7 k7 (by decide))]
      dsimp only
      rw [jn_s, if_neg (by decide), m1, bd2_s]
      exact (m2 (fun σ => L_L_council_37 xs L n (fun (σ111 : Mem) => some (1, σ111)) (nI a0) (nI k + 1) σ)).trans hr
    · rw [if_pos (show (7 : Int32) ≤ nI k from le 7 (by decide) (by omega))]
      by_cases k10 : k < 10
      · obtain ⟨ρ', ρ'', m1, m2, m3⟩ := mk_step hk hJ hx hy (what := 1) (by decide) (by omega)
        obtain ⟨σr, hr⟩ := go ρ'' m3
        refine ⟨σr, ?_⟩
        have m1 : f_L_makes ρ 1 (nI x) (nI y) = some (1, ρ') := m1
        rw [if_neg (show ¬ (10 : Int32) ≤ nI k from nle 10 k10 (by decide))]
        dsimp only
        rw [jn_s, if_neg (by decide), m1, bd2_s]
        exact (m2 (fun σ => L_L_council_37 xs L n (fun (σ111 : Mem) => some (1, σ111)) (nI a0) (nI k + 1) σ)).trans hr
      · rw [if_pos (show (10 : Int32) ≤ nI k from le 10 (by decide) (by omega))]
        by_cases k13 : k < 13
        · obtain ⟨ρ', ρ'', m1, m2, m3⟩ := mk_step hk hJ hx hy (what := 3) (by decide) (fun _ _ => rfl)
          obtain ⟨σr, hr⟩ := go ρ'' m3
          refine ⟨σr, ?_⟩
          have m1 : f_L_makes ρ 3 (nI x) (nI y) = some (1, ρ') := m1
          rw [if_neg (show ¬ (13 : Int32) ≤ nI k from nle 13 k13 (by decide))]
          dsimp only
          rw [jn_s, if_neg (by decide), m1, bd2_s]
          exact (m2 (fun σ => L_L_council_37 xs L n (fun (σ111 : Mem) => some (1, σ111)) (nI a0) (nI k + 1) σ)).trans hr
        · rw [if_pos (show (13 : Int32) ≤ nI k from le 13 (by decide) (by omega))]
          by_cases k13e : k = 13
          · obtain ⟨ρ', ρ'', m1, m2, m3⟩ := mk_step hk hJ hx hy (what := 5) (by decide) (by omega)
            obtain ⟨σr, hr⟩ := go ρ'' m3
            refine ⟨σr, ?_⟩
            have m1 : f_L_makes ρ 5 (nI x) (nI y) = some (1, ρ') := m1
            rw [if_pos (show nI k = 13 by rw [k13e]; rfl)]
            dsimp only
            rw [jn_s, if_neg (by decide), m1, bd2_s]
            exact (m2 (fun σ => L_L_council_37 xs L n (fun (σ111 : Mem) => some (1, σ111)) (nI a0) (nI k + 1) σ)).trans hr
          · rw [if_neg (show ¬ nI k = 13 from fun q => k13e (nI_inj (b := 13) (by omega) (by decide) q))]
            by_cases k17 : k < 17
            · obtain ⟨ρ', ρ'', m1, m2, m3⟩ := mk_step hk hJ hx hy (what := 6) (by decide) (by omega)
              obtain ⟨σr, hr⟩ := go ρ'' m3
              refine ⟨σr, ?_⟩
              have m1 : f_L_makes ρ 6 (nI x) (nI y) = some (1, ρ') := m1
              rw [if_neg (show ¬ (17 : Int32) ≤ nI k from nle 17 k17 (by decide))]
              dsimp only
              rw [jn_s, if_neg (by decide), m1, bd2_s]
              exact (m2 (fun σ => L_L_council_37 xs L n (fun (σ111 : Mem) => some (1, σ111)) (nI a0) (nI k + 1) σ)).trans hr
            · rw [if_pos (show (17 : Int32) ≤ nI k from le 17 (by decide) (by omega)), e26, dz, bd_s, jn_s]
              by_cases z7 : z < 7
              · obtain ⟨ρ', ρ'', m1, m2, m3⟩ := mk_step hk hJ hx hy (what := z) (by omega) (by omega)
                obtain ⟨σr, hr⟩ := go ρ'' m3
                refine ⟨σr, ?_⟩
                rw [if_neg (show ¬ (7 : Int32) ≤ nI z from nI_ge (b := 7) z7 (by decide)), m1, bd2_s]
                exact (m2 (fun σ => L_L_council_37 xs L n (fun (σ111 : Mem) => some (1, σ111)) (nI a0) (nI k + 1) σ)).trans hr
              · have hw : (z - 7) % 11 ≤ 10 := by omega
                obtain ⟨ρ', ρ'', m1, m2, m3⟩ := do_step hk (by omega) hJ hx hy hw
                obtain ⟨σr, hr⟩ := go ρ'' m3
                refine ⟨σr, ?_⟩
                have ew : jrem (nI z - 7) 11 = nI ((z - 7) % 11) := by
                  rw [show (7 : Int32) = nI 7 from rfl, pk_sub (by omega), show (11 : Int32) = nI 11 from rfl, jrem_nI (by omega) (by decide) (by decide)]
                rw [if_pos (show (7 : Int32) ≤ nI z from nI_le (a := 7) (by omega) (by omega)), ew, m1, bd2_s]
                exact (m2 (fun σ => L_L_council_37 xs L n (fun (σ111 : Mem) => some (1, σ111)) (nI a0) (nI k + 1) σ)).trans hr
theorem WI_zM : WI 0 (zC 51) zM := by
  refine ⟨⟨rfl, rfl, rfl, fun q _ => rfl⟩, ⟨0, by decide, rfl, fun r hr => ⟨fun _ => if_pos hr, fun _ => by rw [Nat.zero_div]⟩⟩, ⟨0, by decide, rfl, fun _ => 0, fun _ => 0, 0, fun k hk => absurd hk (Nat.not_lt_zero k), fun r hr => Or.inl ⟨if_pos hr, rfl⟩, rfl, rfl⟩, fun q hq => ?_, fun i v hi hv he => ?_, fun k q _ _ => ⟨0, 0, by decide, by decide, rfl, rfl⟩, fun _ _ _ _ _ => rfl, fun _ _ _ _ _ => rfl, fun q _ => ⟨0, by decide, rfl⟩, fun i _ => ⟨0, by decide, rfl⟩⟩
  · rcases (show q = 0 ∨ q = 1 ∨ q = 2 ∨ q = 3 ∨ q = 4 by omega) with rfl | rfl | rfl | rfl | rfl <;> rfl
  · have : zM 1 i = -1 := if_pos hi
    rw [this] at he
    exact absurd he.symm (nI_neg1 (by omega))
theorem council_true (xs : Nat → Int32) (L : Nat) (hL : L ≤ 260) (a0 : Nat) (h0 : a0 ≤ 340) : ∃ σr, f_L_council xs L (nI a0) = some (1, σr) := by
  have S0 : SX 0 zC zM (fun _ => zM) := SX_zX.g fun k hk => if_pos hk
  obtain ⟨h7, -⟩ := pN S0.iw WI_zM.1
  obtain ⟨ρ1, a1, a2, a3, -⟩ := keeps_ok S0 (by decide) h7 (coins_lt (by decide) WI_zM)
  obtain ⟨σr, hr⟩ := loop37 xs hL h0 56 57 0 ρ1 rfl (by decide) ⟨0, zM, fun _ => zM, Nat.le_refl _, S0.g fun k hk => a2 k (by omega) (by omega), by rw [a2 51 (by decide) (by decide)]; exact WI_zM, fun i hi => by
    have : i = 0 := by omega
    subst this
    exact a3, Or.inl (Nat.zero_le _)⟩
  refine ⟨σr, ?_⟩
  unfold f_L_council
  rw [stp_s, a1, bd_s]
  exact hr
