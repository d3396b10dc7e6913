/-! AN ACT OF THE LAW: what is set down before, what is compared behind -/
section DOES
variable {c : Nat} {ρ μ : Mem} {M : Nat → Mem}
theorem d60 (S : SX c ρ μ M) (h8 : ρ 51 8 = nI (qcN μ)) {p : Nat} (hp : p < pcN μ) (x1 x2 x3 x4 : Int32) : ∀ (m n q : Nat) (σ : Mem), q + m = qcN μ → m + 1 ≤ n → (∀ k, k < 54 → σ k = ρ k) →
    ∃ σ', (∀ k, L_L_does_60 n k x1 x2 x3 x4 (nI p) (nI q) σ = k σ') ∧ (∀ k, k ≠ 55 → σ' k = σ k) ∧ (∀ j, j < p * 3 + q → σ' 55 j = σ 55 j) ∧ ∀ q', q ≤ q' → q' < qcN μ → σ' 55 (p * 3 + q') = μ 19 (p * 3 + q') := by
  have hnp := S.iw.np.1
  have hnq := S.iw.nq.1
  intro m
  induction m with
  | zero =>
    intro n q σ h1 h2 hs
    obtain ⟨n, rfl⟩ : ∃ n', n = n' + 1 := ⟨n - 1, by omega⟩
    exact ⟨σ, fun k => by rw [L_L_does_60, gl8, tc8, hs 51 (by decide), h8, if_pos (nI_le (by omega) (by omega))], fun _ _ => rfl, fun _ _ => rfl, fun q' a b => by omega⟩
  | succ m ih =>
    intro n q σ h1 h2 hs
    obtain ⟨n, rfl⟩ : ∃ n', n = n' + 1 := ⟨n - 1, by omega⟩
    have S1 : SX c σ μ M := S.g fun k hk => hs k (by omega)
    have g12 : ∀ {α : Type} (x : Option α), gd (nI (p * 3 + q)) 12 x = x := fun x => gd_ok (by omega) (by decide)
    have hN : (nI (p * 3 + q)).toNatClampNeg = p * 3 + q := N_nI (by omega)
    obtain ⟨σ', a1, a2, a3, a4⟩ := ih n (q + 1) (mu σ 55 (p * 3 + q) (μ 19 (p * 3 + q))) (by omega) (by omega) (fun k hk => by rw [mu_n (by omega)]; exact hs k hk)
    refine ⟨σ', fun k => ?_, fun k hk => by rw [a2 k hk, mu_n hk], fun j hj => by rw [a3 j (by omega), mu_pl (by omega)], fun q' b1 b2 => ?_⟩
    · rw [L_L_does_60, gl8, tc8, hs 51 (by decide), h8, if_neg (nI_ge (by omega) (by omega)), p_stage S1 hp (by omega), bt_0, n3l, g12, hN, stp_s, nI_1]
      exact a1 k
    · by_cases e : q' = q
      · subst e; rw [a3 _ (by omega), mu_at]
      · exact a4 q' (by omega) b2
def Rec (ρ μ : Mem) (i : Nat) (σ : Mem) : Prop := (∀ k, k < 54 → σ k = ρ k) ∧ ∀ p, p < i → σ 54 p = μ 10 p ∧ σ 56 p = μ 6 p ∧ ∀ q, q < qcN μ → σ 55 (p * 3 + q) = μ 19 (p * 3 + q)
theorem d25 (S : SX c ρ μ M) (h7 : ρ 51 7 = nI (pcN μ)) (h8 : ρ 51 8 = nI (qcN μ)) (x1 x2 x3 x4 : Int32) : ∀ (m n i : Nat) (σ : Mem), i + m = pcN μ → m + 1 ≤ n → Rec ρ μ i σ →
    ∃ σ', (∀ k, L_L_does_25 n k x1 x2 x3 x4 (nI i) σ = k σ') ∧ Rec ρ μ (pcN μ) σ' := by
  have hnp := S.iw.np.1
  have hnq := S.iw.nq.1
  intro m
  induction m with
  | zero =>
    intro n i σ h1 h2 hs
    obtain ⟨n, rfl⟩ : ∃ n', n = n' + 1 := ⟨n - 1, by omega⟩
    have : i = pcN μ := by omega
    subst this
    exact ⟨σ, fun k => by rw [L_L_does_25, gl7, tc7, hs.1 51 (by decide), h7, if_pos (nI_le (by omega) (by omega))], hs⟩
  | succ m ih =>
    intro n i σ h1 h2 hs
    obtain ⟨n, rfl⟩ : ∃ n', n = n' + 1 := ⟨n - 1, by omega⟩
    have hi : i < pcN μ := by omega
    have S1 : SX c σ μ M := S.g fun k hk => hs.1 k (by omega)
    have g4 : ∀ {α : Type} (x : Option α), gd (nI i) 4 x = x := fun x => gd_ok (by omega) (by decide)
    have hN : (nI i).toNatClampNeg = i := N_nI (by omega)
    obtain ⟨σ1, e1⟩ : ∃ σ1, σ1 = mu σ 54 i (μ 10 i) := ⟨_, rfl⟩
    obtain ⟨σ2, e2⟩ : ∃ σ2, σ2 = mu σ1 56 i (μ 6 i) := ⟨_, rfl⟩
    have S2 : SX c σ1 μ M := S1.g fun k hk => by rw [e1, mu_n (by omega)]
    have b2 : ∀ k, k < 54 → σ2 k = ρ k := fun k hk => by rw [e2, mu_n (by omega), e1, mu_n (by omega)]; exact hs.1 k hk
    obtain ⟨σ3, a1, a2, a3, a4⟩ := d60 S h8 hi x1 x2 x3 x4 (qcN μ) FU 0 σ2 (by omega) (by show _ ≤ 6000; omega) b2
    obtain ⟨σ', c1, c2⟩ := ih n (i + 1) σ3 (by omega) (by omega) ⟨fun k hk => (a2 k (by omega)).trans (b2 k hk), fun p hp => by
      by_cases q : p = i
      · subst q
        refine ⟨by rw [a2 54 (by decide), e2, mu_n (by decide), e1, mu_at], by rw [a2 56 (by decide), e2, mu_at], fun q hq => a4 q (Nat.zero_le _) hq⟩
      · obtain ⟨d1, d2, d3⟩ := hs.2 p (by omega)
        refine ⟨by rw [a2 54 (by decide), e2, mu_n (by decide), e1, mu_pl q]; exact d1, by rw [a2 56 (by decide), e2, mu_pl q, e1, mu_n (by decide)]; exact d2, fun q' hq => ?_⟩
        rw [a3 _ (by omega), e2, mu_n (by decide), e1, mu_n (by decide)]
        exact d3 q' hq⟩
    refine ⟨σ', fun k => ?_, c2⟩
    rw [L_L_does_25, gl7, tc7, hs.1 51 (by decide), h7, if_neg (nI_ge (by omega) (by omega)), p_ready S1 hi, bt_0, g4, hN, stp_s, ← e1, p_room S2 hi, bt_0, g4, stp_s, ← e2]
    rw [show (0 : Int32) = nI 0 from rfl, a1, nI_1]
    exact c1 k
theorem d437 (S : SX c ρ μ M) (h8 : ρ 51 8 = nI (qcN μ)) {p a : Nat} (hp : p < pcN μ) (ha : a < pcN μ) {y120 : Int32} (hst : ∀ q, q < qcN μ → μ 19 (p * 3 + q) - ρ 55 (p * 3 + q) = 0 ∨ (μ 19 (p * 3 + q) - ρ 55 (p * 3 + q) = 1 ∧ ¬ y120 = 0 ∧ p = a)) (k : Int32 → Mem → Option (Int32 × Mem)) (x1 x2 x4 x5 x7 : Int32) : ∀ (m n q : Nat), q + m = qcN μ → m + 1 ≤ n →
    L_L_does_437 n k x1 x2 (nI a) x4 x5 y120 x7 (nI p) 1 (nI q) ρ = k 1 ρ := by
  have hnp := S.iw.np.1
  have hnq := S.iw.nq.1
  intro m
  induction m with
  | zero =>
    intro n q h1 h2
    obtain ⟨n, rfl⟩ : ∃ n', n = n' + 1 := ⟨n - 1, by omega⟩
    rw [L_L_does_437, gl8, tc8, h8, if_pos (nI_le (by omega) (by omega))]
  | succ m ih =>
    intro n q h1 h2
    obtain ⟨n, rfl⟩ : ∃ n', n = n' + 1 := ⟨n - 1, by omega⟩
    have g12 : ∀ {α : Type} (x : Option α), gd (nI (p * 3 + q)) 12 x = x := fun x => gd_ok (by omega) (by decide)
    have hN : (nI (p * 3 + q)).toNatClampNeg = p * 3 + q := N_nI (by omega)
    have go := ih n (q + 1) (by omega) (by omega)
    rw [← nI_1] at go
    rw [L_L_does_437, gl8, tc8, h8, if_neg (nI_ge (by omega) (by omega)), if_neg e10, p_stage S hp (by omega), bt_0, n3l, g12, hN]
    simp only [jn_s]
    rcases hst q (by omega) with h | ⟨h, h', rfl⟩
    · rw [if_pos h]; exact go
    · rw [h, if_neg e10, if_pos rfl, if_neg h', if_pos rfl]; exact go
/-- player i behind an act -/
def Ef (what a : Nat) (acc v cost : Int32) (τ ν : Mem) (i : Nat) : Prop :=
  (acc = 0 ∧ ν 10 i = τ 54 i ∧ ν 6 i = τ 56 i) ∨
  (acc = 1 ∧ what = 9 ∧ v = nI i ∧ ν 10 i = (if τ 54 i ≤ τ 54 a + 10 then τ 54 a + 10 else τ 54 i) ∧ ν 6 i = 0 ∧ ν 9 i = 10) ∨
  (acc = 1 ∧ ¬ (what = 9 ∧ v = nI i) ∧ ν 10 i = (if i = a then τ 54 i + cost else τ 54 i) ∧ ν 6 i = if what = 0 ∧ i = a then v else τ 56 i)
theorem d252 (S : SX c ρ μ M) (h7 : ρ 51 7 = nI (pcN μ)) (h8 : ρ 51 8 = nI (qcN μ)) {what a : Nat} (hw : what ≤ 10) (ha : a < pcN μ) {acc v cost : Int32} (hst : ∀ p q, p < pcN μ → q < qcN μ → μ 19 (p * 3 + q) - ρ 55 (p * 3 + q) = 0 ∨ (μ 19 (p * 3 + q) - ρ 55 (p * 3 + q) = 1 ∧ ¬ acc = 0 ∧ p = a)) (hE : ∀ i, i < pcN μ → Ef what a acc v cost ρ μ i) (k : Int32 → Mem → Option (Int32 × Mem)) (x2 x4 : Int32) : ∀ (m n i : Nat), i + m = pcN μ → m + 1 ≤ n →
    L_L_does_252 n k (nI what) x2 (nI a) x4 v acc cost 1 (nI i) ρ = k 1 ρ := by
  have hnp := S.iw.np.1
  have hnq := S.iw.nq.1
  intro m
  induction m with
  | zero =>
    intro n i h1 h2
    obtain ⟨n, rfl⟩ : ∃ n', n = n' + 1 := ⟨n - 1, by omega⟩
    rw [L_L_does_252, gl7, tc7, h7, if_pos (nI_le (by omega) (by omega))]
  | succ m ih =>
    intro n i h1 h2
    obtain ⟨n, rfl⟩ : ∃ n', n = n' + 1 := ⟨n - 1, by omega⟩
    have hi : i < pcN μ := by omega
    have g4 : ∀ {α : Type} (x : Option α), gd (nI i) 4 x = x := fun x => gd_ok (by omega) (by decide)
    have g4a : ∀ {α : Type} (x : Option α), gd (nI a) 4 x = x := fun x => gd_ok (by omega) (by decide)
    have hN : (nI i).toNatClampNeg = i := N_nI (by omega)
    have hNa : (nI a).toNatClampNeg = a := N_nI (by omega)
    have go := ih n (i + 1) (by omega) (by omega)
    rw [← nI_1] at go
    have go2 : L_L_does_437 FU (fun (x215 : Int32) (σ216 : Mem) => L_L_does_252 n k (nI what) x2 (nI a) x4 v acc cost x215 (nI i + 1) σ216) (nI what) x2 (nI a) x4 v acc cost (nI i) 1 0 ρ = k 1 ρ :=
      (d437 S h8 hi ha (fun q hq => hst i q hi hq) (fun (x215 : Int32) (σ216 : Mem) => L_L_does_252 n k (nI what) x2 (nI a) x4 v acc cost x215 (nI i + 1) σ216) (nI what) x2 x4 v cost (qcN μ) FU 0 (by omega) (by show _ ≤ 6000; omega)).trans go
    clear ih go
    rw [L_L_does_252, gl7, tc7, h7, if_neg (nI_ge (by omega) (by omega)), if_neg e10, g4, hN]
    have h0 : (nI what = 0) = (what = 0) := propext ⟨fun h => nI_inj (by omega) (by decide) h, fun h => by rw [h]; rfl⟩
    have h9 : (nI what = 9) = (what = 9) := propext ⟨fun h => nI_inj (by omega) (by decide) h, fun h => by rw [h]; rfl⟩
    have hia : (nI i = nI a) = (i = a) := propext ⟨fun h => nI_inj (by omega) (by omega) h, fun h => by rw [h]⟩
    have e0 : ((0 : Int32) = 0) = True := i00
    have e1 : ((1 : Int32) = 0) = False := i10
    rcases hE i hi with ⟨rfl, a1, a2⟩ | ⟨rfl, rfl, rfl, a1, a2, a3⟩ | ⟨rfl, a0, a1, a2⟩
    · simp only [jn_s, e0, if_true, g4a, g4, hN, p_ready S hi, bt_0, a1, Int32.add_zero, p_room S hi, a2]
      exact go2
    · simp only [jn_s, e1, if_false, if_true, g4a, g4, hN, hNa, show ((nI 9 = (9 : Int32)) = True) from by decide, p_ready S hi, bt_0, a1, p_room S hi, a2, p_health S hi, a3]
      by_cases q : i = a
      · subst q
        by_cases q2 : ρ 54 i ≤ ρ 54 i + 10
        · simp only [hia, if_true, if_pos q2]; exact go2
        · simp only [hia, if_true, if_neg q2]; exact go2
      · by_cases q2 : ρ 54 i ≤ ρ 54 a + 10
        · simp only [hia, if_neg q, if_true, if_pos q2]; exact go2
        · simp only [hia, if_neg q, if_true, if_neg q2]; exact go2
    · by_cases q : i = a
      · subst q
        rw [if_pos rfl] at a1
        by_cases w0 : what = 0
        · subst w0
          rw [if_pos ⟨rfl, rfl⟩] at a2
          simp only [jn_s, e1, if_false, if_true, g4a, g4, hN, hNa, h0, h9, show ((0 : Nat) = 9) = False from by decide, p_ready S hi, bt_0, a1, p_room S hi, a2]
          exact go2
        · rw [if_neg fun z => w0 z.1] at a2
          by_cases w9 : what = 9
          · have hv : (v = nI i) = False := eq_false fun z => a0 ⟨w9, z⟩
            simp only [jn_s, e1, if_false, if_true, g4a, g4, hN, hNa, h0, h9, eq_false w0, eq_true w9, hv, p_ready S hi, bt_0, a1, p_room S hi, a2]
            exact go2
          · simp only [jn_s, e1, if_false, if_true, g4a, g4, hN, hNa, h0, h9, eq_false w0, eq_false w9, p_ready S hi, bt_0, a1, p_room S hi, a2]
            exact go2
      · rw [if_neg q] at a1
        rw [if_neg fun z => q z.2] at a2
        by_cases w9 : what = 9
        · have hv : (v = nI i) = False := eq_false fun z => a0 ⟨w9, z⟩
          have w0 : (what = 0) = False := eq_false (by omega)
          simp only [jn_s, e1, if_false, if_true, g4a, g4, hN, hNa, h0, h9, hia, eq_false q, w0, eq_true w9, hv, p_ready S hi, bt_0, a1, p_room S hi, a2, e0, Int32.add_zero]
          exact go2
        · by_cases w0 : what = 0
          · simp only [jn_s, e1, if_false, if_true, g4a, g4, hN, hNa, h0, h9, hia, eq_false q, eq_true w0, eq_false w9, p_ready S hi, bt_0, a1, p_room S hi, a2, e0, Int32.add_zero]
            exact go2
          · simp only [jn_s, e1, if_false, if_true, g4a, g4, hN, hNa, h0, h9, hia, eq_false q, eq_false w0, eq_false w9, p_ready S hi, bt_0, a1, p_room S hi, a2, e0, Int32.add_zero]
            exact go2
end DOES
