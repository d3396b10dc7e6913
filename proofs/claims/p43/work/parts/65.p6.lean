/-! KEEPING, AND WHAT WAS -/
def K51 (ρ ρ' : Mem) : Prop := ∀ k, 51 ≤ k → ρ' k = ρ k
theorem K51.rf {ρ : Mem} : K51 ρ ρ := fun _ _ => rfl
theorem K51.tr {ρ ρ' ρ'' : Mem} (h : K51 ρ ρ') (h' : K51 ρ' ρ'') : K51 ρ ρ'' := fun k hk => (h' k hk).trans (h k hk)
theorem mgY_K (τ ρ : Mem) : K51 ρ (mgY τ ρ) := fun _ hk => if_neg (by omega)
def HE (ρ μ : Mem) (i : Nat) : Prop := ∃ np t R f, np ≤ 4 ∧ t < 8 ∧ R < 4096 ∧ f < 2 ^ 63 ∧ μ 20 i = nI np ∧ nI t - 1 = μ 21 i ∧ ρ 52 i = nI ((np * 8 + t) * 4096 + R) ∧ lrd ρ 53 i = lN f ∧ ∀ p, p < np → μ 22 (i * 4 + p) = nI (R / 2 ^ (3 * p) % 8) ∧ μ 23 (i * 4 + p) = nI (f / 2 ^ (16 * p) % 65536)
theorem tc2 : (2 : Int32) = 0 ↔ False := by decide
section PAST
variable {c : Nat} {ρ μ : Mem} {M : Nat → Mem}
theorem SX.g {τ : Mem} (S : SX c ρ μ M) (h : ∀ k, k < 51 → τ k = ρ k) : SX c τ μ M := S.t (fun k hk _ => h k (by omega)) (h 49 (by decide)) (h 50 (by decide))
theorem now_at (S : SX c ρ μ M) : μ 20 c = μ 0 5 ∧ IsAct (μ 10) 0 (pcN μ) (μ 21 c) ∧ ∀ p, p < pcN μ → μ 22 (c * 4 + p) = μ 6 p ∧ μ 23 (c * 4 + p) = μ 7 p := by
  obtain ⟨-, -, -, -, h5, h6, -, -⟩ := S
  obtain ⟨⟨a1, a2, a3⟩, -⟩ := h6 c (Nat.le_refl _)
  have e5 : μ 0 5 = M c 0 5 := h5.1 5 (by decide) (by decide)
  have ep : pcN μ = pcN (M c) := by unfold pcN; rw [e5]
  rw [ep, h5.2 10 (by decide) (by decide), h5.2 6 (by decide) (by decide), h5.2 7 (by decide) (by decide), e5]
  exact ⟨a1, a2, a3⟩
theorem k42 (S : SX c ρ μ M) (hc : c < 60) (h7 : ρ 51 7 = nI (pcN μ)) (hcn : ∀ k, k < pcN μ → ∃ q, q < 32768 ∧ μ 7 k = nI q) {H : Nat} (hH : H < 64) : ∀ (m n i : Nat) (σ : Mem) (R f : Nat), i + m = pcN μ → m + 1 ≤ n → (∀ k, k ≠ 52 → k ≠ 53 → σ k = ρ k) → R < 2 ^ (3 * i) → f < 2 ^ (16 * i) → f < 2 ^ 63 → σ 52 c = nI (H * 4096 + R) → lrd σ 53 c = lN f → (∀ p, p < i → μ 6 p = nI (R / 2 ^ (3 * p) % 8) ∧ μ 7 p = nI (f / 2 ^ (16 * p) % 65536)) →
    ∃ σ' R' f', L_L_keeps_42 n (fun (σ10 : Mem) => some σ10) (nI c) (nI i) σ = some σ' ∧ (∀ k, k ≠ 52 → k ≠ 53 → σ' k = ρ k) ∧ (∀ j, j ≠ c → σ' 52 j = σ 52 j ∧ lrd σ' 53 j = lrd σ 53 j) ∧ R' < 2 ^ (3 * pcN μ) ∧ f' < 2 ^ 63 ∧ σ' 52 c = nI (H * 4096 + R') ∧ lrd σ' 53 c = lN f' ∧ ∀ p, p < pcN μ → μ 6 p = nI (R' / 2 ^ (3 * p) % 8) ∧ μ 7 p = nI (f' / 2 ^ (16 * p) % 65536) := by
  have hb := S.iw.np.1
  intro m
  induction m with
  | zero =>
    intro n i σ R f h1 h2 hs hR hf hf2 e1 e2 hp
    obtain ⟨n, rfl⟩ : ∃ n', n = n' + 1 := ⟨n - 1, by omega⟩
    have : i = pcN μ := by omega
    subst this
    refine ⟨σ, R, f, ?_, hs, fun _ _ => ⟨rfl, rfl⟩, hR, hf2, e1, e2, hp⟩
    rw [L_L_keeps_42, gl7, tc7, hs 51 (by decide) (by decide), h7, if_pos (nI_le (by omega) (by omega))]
  | succ m ih =>
    intro n i σ R f h1 h2 hs hR hf hf2 e1 e2 hp
    obtain ⟨n, rfl⟩ : ∃ n', n = n' + 1 := ⟨n - 1, by omega⟩
    have hi : i < pcN μ := by omega
    have hi4 : i < 4 := by omega
    obtain ⟨⟨rm, rm1, rm2⟩, -⟩ := S.iw.pl hi
    obtain ⟨cn, cn1, cn2⟩ := hcn i hi
    have S1 : SX c σ μ M := S.g fun k hk => hs k (by omega) (by omega)
    have g60 : ∀ {α : Type} (x : Option α), gd (nI c) 60 x = x := fun x => gd_ok hc (by decide)
    have hNc : (nI c).toNatClampNeg = c := N_nI (by omega)
    obtain ⟨σ1, hσ1⟩ : ∃ σ1, σ1 = mu σ 52 c (σ 52 c ||| (nI rm <<< ((3 * nI i) &&& 31))) := ⟨_, rfl⟩
    have S2 : SX c σ1 μ M := S1.g fun k hk => by rw [hσ1, mu_n (by omega)]
    have e3 : lrd σ1 53 = lrd σ 53 := by funext j; unfold lrd; rw [hσ1, mu_n (by decide)]
    obtain ⟨σ2, hσ2⟩ : ∃ σ2, σ2 = lwr σ1 53 c (lrd σ1 53 c ||| ((nI cn).toInt64 <<< ((16 * nI i).toInt64 &&& 63))) := ⟨_, rfl⟩
    obtain ⟨a1, a2, a3⟩ := add3 hi4 hR rm1
    obtain ⟨b1, b2, b3, b4⟩ := add16 hi4 hf cn1
    have f1 : σ2 52 c = nI (H * 4096 + (R + rm * 2 ^ (3 * i))) := by
      rw [hσ2, lwr_n (by decide), hσ1, mu_at, e1, enc3 hi4 hR rm1 hH]
    have f2 : lrd σ2 53 c = lN (f + cn * 2 ^ (16 * i)) := by
      rw [hσ2, lrd_lwr, if_pos rfl, e3, e2, enc16 hi4 hf cn1]
    obtain ⟨σ', R', f', t1, t2, t3, t4, t5, t6, t7, t8⟩ := ih n (i + 1) σ2 _ _ (by omega) (by omega) (fun k k1 k2 => by rw [hσ2, lwr_n k2, hσ1, mu_n k1]; exact hs k k1 k2) a1 b1 b2 f1 f2 (fun p hp2 => by
      by_cases q : p = i
      · subst q; rw [a2, b3]; exact ⟨rm2, cn2⟩
      · rw [a3 p (by omega), b4 p (by omega)]; exact hp p (by omega))
    refine ⟨σ', R', f', ?_, t2, fun j hj => ?_, t4, t5, t6, t7, t8⟩
    · rw [L_L_keeps_42, gl7, tc7, hs 51 (by decide) (by decide), h7, if_neg (nI_ge (by omega) (by omega)), g60, p_room S1 hi, bt_0, rm2, g60, hNc, stp_s, ← hσ1, g60, p_coins S2 hi, bt_0, cn2, g60, stp_s, ← hσ2, nI_1]
      exact t1
    · obtain ⟨u1, u2⟩ := t3 j hj
      rw [u1, u2]
      refine ⟨?_, ?_⟩
      · rw [hσ2, lwr_n (by decide), hσ1, mu_pl hj]
      · rw [hσ2, lrd_lwr, if_neg hj, e3]
theorem keeps_ok (S : SX c ρ μ M) (hc : c < 60) (h7 : ρ 51 7 = nI (pcN μ)) (hcn : ∀ k, k < pcN μ → ∃ q, q < 32768 ∧ μ 7 k = nI q) : ∃ ρ', f_L_keeps ρ = some ρ' ∧ (∀ k, k ≠ 52 → k ≠ 53 → ρ' k = ρ k) ∧ HE ρ' μ c ∧ ∀ i, i ≠ c → ρ' 52 i = ρ 52 i ∧ lrd ρ' 53 i = lrd ρ 53 i := by
  have hb := S.iw.np.1
  obtain ⟨x, x1, x2⟩ := p_turn S
  obtain ⟨n1, n2, n3⟩ := now_at S
  have hx : x = μ 21 c := x2.eq n2
  obtain ⟨t, t1, t2⟩ : ∃ t, t < 8 ∧ x + 1 = nI t := by
    rcases x2 with ⟨-, e⟩ | ⟨a, -, a2, e, -⟩
    · exact ⟨0, by decide, by rw [e]; decide⟩
    · exact ⟨a + 1, by omega, by rw [e, nI_1]⟩
  have ht : nI t - 1 = μ 21 c := by rw [← t2, hx, Int32.add_sub_cancel]
  have g60 : ∀ {α : Type} (x : Option α), gd (nI c) 60 x = x := fun x => gd_ok hc (by decide)
  have hNc : (nI c).toNatClampNeg = c := N_nI (by omega)
  have eE : ((x + 1) <<< (12 &&& 31)) ||| (nI (pcN μ) <<< (15 &&& 31)) = nI ((pcN μ * 8 + t) * 4096 + 0) := by
    rw [t2, pk_shlN _ 12 (by decide) (by omega), pk_shlN _ 15 (by decide) (by omega), Int32.or_comm, or32 (k := 15) rfl (by omega) (by omega)]
    exact congrArg nI (by omega)
  obtain ⟨σ1, hσ1⟩ : ∃ σ1, σ1 = mu ρ 52 c (((x + 1) <<< (12 &&& 31)) ||| (nI (pcN μ) <<< (15 &&& 31))) := ⟨_, rfl⟩
  obtain ⟨σ2, hσ2⟩ : ∃ σ2, σ2 = lwr σ1 53 c 0 := ⟨_, rfl⟩
  obtain ⟨σ', R', f', u1, u2, u3, u4, u5, u6, u7, u8⟩ := k42 S hc h7 hcn (H := pcN μ * 8 + t) (by omega) (pcN μ) FU 0 σ2 0 0 (by omega) (by show _ ≤ 6000; omega) (fun k k1 k2 => by rw [hσ2, lwr_n k2, hσ1, mu_n k1]) (by decide) (by decide) (by decide) (by rw [hσ2, lwr_n (by decide), hσ1, mu_at, eE]) (by rw [hσ2, lrd_lwr, if_pos rfl]; rfl) (fun p hp => absurd hp (Nat.not_lt_zero _))
  have hR4 : R' < 4096 := Nat.lt_of_lt_of_le u4 (Nat.le_trans (Nat.pow_le_pow_right (by decide) (by omega : 3 * pcN μ ≤ 12)) (by decide))
  refine ⟨σ', ?_, u2, ⟨pcN μ, t, R', f', hb, t1, hR4, u5, n1.trans S.iw.np.2, ht, u6, u7, fun p hp => ?_⟩, fun i hi => ?_⟩
  · unfold f_L_keeps
    rw [p_calls S, bd_s, if_neg (show ¬ (60 : Int32) ≤ nI c from nI_ge (b := 60) hc (by decide)), x1, bd_s, gl7, tc7, h7, g60, hNc, stp_s, ← hσ1, g60, stp_s, ← hσ2]
    exact u1
  · obtain ⟨v1, v2⟩ := n3 p hp
    rw [v1, v2]; exact u8 p hp
  · obtain ⟨v1, v2⟩ := u3 i hi
    rw [v1, v2]
    refine ⟨by rw [hσ2, lwr_n (by decide), hσ1, mu_pl hi], ?_⟩
    rw [hσ2, lrd_lwr, if_neg hi]
    unfold lrd
    rw [hσ1, mu_n (by decide)]
/-! what was told later -/
theorem Y.g {τ : Mem} (S : SX c τ μ M) : SX c (mgY τ ρ) μ M := S.g fun k hk => mgY_1 τ ρ k hk
theorem a_turn (S : SX c ρ μ M) (hc : c ≤ 512) {N : Nat} (hN : N ≤ c) (x : Int32) : ∃ ρ', f_L_after ρ 2 (nI N) x = some (μ 21 N, ρ') ∧ SX c ρ' μ M ∧ K51 ρ ρ' := by
  obtain ⟨τ', h1, h2⟩ := p_turnAfter S hc hN
  refine ⟨mgY τ' ρ, ?_, Y.g h2, mgY_K τ' ρ⟩
  unfold f_L_after
  rw [if_neg (by decide), if_neg (by decide), h1, bt3_0, stp_s]
theorem a_turnX (S : SX c ρ μ M) (hc : c ≤ 512) (x : Int32) : ∃ ρ', f_L_after ρ 2 (nI (c + 1)) x = some (-7, ρ') ∧ SX c ρ' μ M ∧ K51 ρ ρ' := by
  have h1 := p_turnAfterX S hc
  refine ⟨mgY ρ ρ, ?_, Y.g S, mgY_K ρ ρ⟩
  unfold f_L_after
  rw [if_neg (by decide), if_neg (by decide), h1, bt3_1, if_pos rfl, stp_s]
theorem a_past (S : SX c ρ μ M) (hc : c ≤ 512) {N np : Nat} (hN : N ≤ c) (hnp : np ≤ 4) (h20 : μ 20 N = nI np) {p : Nat} (p4 : p < 4) :
    (∃ ρ', f_L_after ρ 0 (nI N) (nI p) = some (if p < np then μ 22 (N * 4 + p) else -7, ρ') ∧ SX c ρ' μ M ∧ K51 ρ ρ') ∧ ∃ ρ', f_L_after ρ 1 (nI N) (nI p) = some (if p < np then μ 23 (N * 4 + p) else -7, ρ') ∧ SX c ρ' μ M ∧ K51 ρ ρ' := by
  obtain ⟨np', a1, a2, a3⟩ := p_past S hc hN
  have : np' = np := nI_inj (by omega) (by omega) (a2.symm.trans h20)
  subst this
  obtain ⟨b1, b2⟩ := a3 p p4
  by_cases hp : p < np'
  · obtain ⟨⟨τ1, c1, c2⟩, ⟨τ2, c3, c4⟩⟩ := b1 hp
    rw [if_pos hp, if_pos hp]
    refine ⟨⟨mgY τ1 ρ, ?_, Y.g c2, mgY_K τ1 ρ⟩, ⟨mgY τ2 ρ, ?_, Y.g c4, mgY_K τ2 ρ⟩⟩
    · unfold f_L_after
      rw [if_pos rfl, c1, bt3_0, stp_s]
    · unfold f_L_after
      rw [if_neg (by decide), if_pos rfl, c3, bt3_0, stp_s]
  · obtain ⟨⟨τ1, c1, c2⟩, ⟨τ2, c3, c4⟩⟩ := b2 (by omega)
    rw [if_neg hp, if_neg hp]
    refine ⟨⟨mgY τ1 ρ, ?_, Y.g c2, mgY_K τ1 ρ⟩, ⟨mgY τ2 ρ, ?_, Y.g c4, mgY_K τ2 ρ⟩⟩
    · unfold f_L_after
      rw [if_pos rfl, c1, bt3_1, if_pos rfl, stp_s]
    · unfold f_L_after
      rw [if_neg (by decide), if_pos rfl, c3, bt3_1, if_pos rfl, stp_s]
theorem w31 (hc : c ≤ 512) {N np t R f : Nat} (hN : N ≤ c) (hN60 : N < 60) (h1 : np ≤ 4) (h2 : t < 8) (h3 : R < 4096) (h4 : f < 2 ^ 63) (h5 : μ 20 N = nI np) (h9 : ∀ p, p < np → μ 22 (N * 4 + p) = nI (R / 2 ^ (3 * p) % 8) ∧ μ 23 (N * 4 + p) = nI (f / 2 ^ (16 * p) % 65536)) (k : Int32 → Mem → Option (Int32 × Mem)) : ∀ (m n i : Nat) (σ : Mem), i + m = 4 → m + 1 ≤ n → SX c σ μ M → σ 52 N = nI ((np * 8 + t) * 4096 + R) → lrd σ 53 N = lN f →
    ∃ σ', L_L_wasSo_31 n k (nI N) 1 (nI i) σ = k 1 σ' ∧ SX c σ' μ M ∧ K51 σ σ' := by
  have g60 : ∀ {α : Type} (x : Option α), gd (nI N) 60 x = x := fun x => gd_ok hN60 (by decide)
  have hNN : (nI N).toNatClampNeg = N := N_nI (by omega)
  intro m
  induction m with
  | zero =>
    intro n i σ g1 g2 S s1 s2
    obtain ⟨n, rfl⟩ : ∃ n', n = n' + 1 := ⟨n - 1, by omega⟩
    exact ⟨σ, by rw [L_L_wasSo_31, if_pos (show (4 : Int32) ≤ nI i from nI_le (a := 4) (by omega) (by omega))], S, K51.rf⟩
  | succ m ih =>
    intro n i σ g1 g2 S s1 s2
    obtain ⟨n, rfl⟩ : ∃ n', n = n' + 1 := ⟨n - 1, by omega⟩
    have hi : i < 4 := by omega
    obtain ⟨⟨σ1, a1, a2, a3⟩, -⟩ := a_past S hc hN h1 h5 hi
    obtain ⟨-, ⟨σ2, b1, b2, b3⟩⟩ := a_past a2 hc hN h1 h5 hi
    have k52 : ∀ σ', K51 σ σ' → σ' 52 N = nI ((np * 8 + t) * 4096 + R) ∧ lrd σ' 53 N = lN f := fun σ' h => by
      refine ⟨by rw [h 52 (by decide)]; exact s1, ?_⟩
      unfold lrd
      rw [h 53 (by decide)]
      exact s2
    obtain ⟨d1, d2⟩ := k52 σ1 a3
    obtain ⟨d3, d4⟩ := k52 σ2 (a3.tr b3)
    obtain ⟨σ', e1, e2, e3⟩ := ih n (i + 1) σ2 (by omega) (by omega) b2 d3 d4
    refine ⟨σ', ?_, e2, (a3.tr b3).tr e3⟩
    rw [L_L_wasSo_31, if_neg (show ¬ (4 : Int32) ≤ nI i from nI_ge (b := 4) (by omega) (by omega)), g60]
    simp only [jn_s, hNN, s1, dec15 (show (np * 8 + t) * 4096 + R < 2 ^ 31 by omega), show ((np * 8 + t) * 4096 + R) / 32768 = np by omega, if_neg e10, g60, a1, b1, bd2_s]
    by_cases hp : i < np
    · obtain ⟨f1, f2⟩ := h9 i hp
      simp only [if_neg (nI_ge hp (show np < 2 ^ 31 by omega)), if_pos hp, if_neg e10, d1, dec3 hi (show (np * 8 + t) * 4096 + R < 2 ^ 31 by omega), f1, f2]
      have e : ((np * 8 + t) * 4096 + R) / 2 ^ (3 * i) % 8 = R / 2 ^ (3 * i) % 8 := by
        rcases (show i = 0 ∨ i = 1 ∨ i = 2 ∨ i = 3 by omega) with rfl | rfl | rfl | rfl <;> simp only [Nat.reduceMul, Nat.reducePow] <;> omega
      rw [e]
      simp only [if_true, d4, dec16 hi h4, nI_1]
      exact e1
    · simp only [if_pos (nI_le (show np ≤ i by omega) (show i < 2 ^ 31 by omega)), if_neg hp, if_true, nI_1]
      exact e1
theorem wasSo_ok (S : SX c ρ μ M) (hc : c ≤ 512) {N : Nat} (hN : N ≤ c) (hN60 : N < 60) (h : HE ρ μ N) : ∃ ρ', f_L_wasSo ρ (nI N) = some (1, ρ') ∧ SX c ρ' μ M ∧ K51 ρ ρ' := by
  obtain ⟨np, t, R, f, h1, h2, h3, h4, h5, h6, h7, h8, h9⟩ := h
  have g60 : ∀ {α : Type} (x : Option α), gd (nI N) 60 x = x := fun x => gd_ok hN60 (by decide)
  have hNN : (nI N).toNatClampNeg = N := N_nI (by omega)
  obtain ⟨σ1, a1, a2, a3⟩ := a_turn S hc hN 0
  obtain ⟨σ', b1, b2, b3⟩ := w31 (M := M) hc hN hN60 h1 h2 h3 h4 h5 h9 (fun (x15 : Int32) (σ16 : Mem) => gz x15 <| some (x15, σ16)) 4 5 0 σ1 (by omega) (by decide) a2 (by rw [a3 52 (by decide)]; exact h7) (by unfold lrd at h8 ⊢; rw [a3 53 (by decide)]; exact h8)
  refine ⟨σ', ?_, b2, a3.tr b3⟩
  unfold f_L_wasSo
  rw [a1, bd2_s, g60, jn_s, hNN, a3 52 (by decide), h7, dec12 (by omega), show ((np * 8 + t) * 4096 + R) / 4096 % 8 = t by omega, h6, if_pos rfl]
  rw [show nI 0 = (0 : Int32) from rfl] at b1
  refine b1.trans ?_
  rw [gz1]
end PAST
