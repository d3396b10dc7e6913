/-! THE PAST: the calls played again -/
theorem past_loop {τ : Mem} {M : Nat → Mem} {N : Nat} (hN : N ≤ 512) (hP : ∀ i, i < N → Plays τ M i) (k : Mem → Option (Nat × Int32 × Mem)) : ∀ (m n i : Nat) (τi : Mem), i + m = N → m + 1 ≤ n → (∀ k, k < 24 ∨ 48 ≤ k → τi k = τ k) → RW (sh τi) (M i) → ∃ τ', (∀ k, k < 24 ∨ 48 ≤ k → τ' k = τ k) ∧ RW (sh τ') (M N) ∧ L_X5_worldAfter_34 n k (nI N) (nI i) τi = k τ' := by
  intro m
  induction m with
  | zero =>
    intro n i τi h1 h2 hs hR
    obtain ⟨n, rfl⟩ : ∃ n', n = n' + 1 := ⟨n - 1, by omega⟩
    have : i = N := by omega
    subst this
    exact ⟨τi, hs, hR, by rw [L_X5_worldAfter_34, if_pos (nI_le (Nat.le_refl _) (by omega))]⟩
  | succ m ih =>
    intro n i τi h1 h2 hs hR
    obtain ⟨n, rfl⟩ : ∃ n', n = n' + 1 := ⟨n - 1, by omega⟩
    rw [L_X5_worldAfter_34, if_neg (nI_ge (by omega) (by omega))]
    have e1 : nI (i * 5) + 1 = nI (i * 5 + 1) := nI_1 _
    have e2 : nI (i * 5) + 2 = nI (i * 5 + 2) := nI_add _ 2
    have e3 : nI (i * 5) + 3 = nI (i * 5 + 3) := nI_add _ 3
    have e4 : nI (i * 5) + 4 = nI (i * 5 + 4) := nI_add _ 4
    have gg : ∀ {α : Type} (x : Option α) (j : Nat), j < 5 → gd (nI (i * 5 + j)) 2560 x = x := fun x j hj => gd_ok (by omega) (by decide)
    have g0 : ∀ {α : Type} (x : Option α), gd (nI (i * 5)) 2560 x = x := fun x => gd_ok (by omega) (by decide)
    have N0 : (nI (i * 5)).toNatClampNeg = i * 5 := N_nI (by omega)
    have Nj : ∀ j, j < 5 → (nI (i * 5 + j)).toNatClampNeg = i * 5 + j := fun j hj => N_nI (by omega)
    obtain ⟨v, σ', p1, p2⟩ := hP i (by omega) _ hR
    simp only [n5m, e1, e2, e3, e4, g0, N0, gg _ 1 (by decide), gg _ 2 (by decide), gg _ 3 (by decide), gg _ 4 (by decide), Nj 1 (by decide), Nj 2 (by decide), Nj 3 (by decide), Nj 4 (by decide), hs 50 (by omega), p1, bd2_s, stp_s, nI_1]
    refine ih n (i + 1) (mgP σ' τi) (by omega) (by omega) (fun k hk => ?_) (p2.steps fun k hk _ => ?_)
    · rw [← hs k hk]; unfold mgP; exact if_neg (by omega)
    · show mgP σ' τi (k + 24) = σ' k
      exact mgP_1 σ' τi k hk
theorem past_ok {c : Nat} {τ μ : Mem} {M : Nat → Mem} (hS : SX c τ μ M) (hc : c ≤ 512) (x : Int32) : (∃ N, N ≤ c ∧ x = nI N ∧ f_X6_isIn x 0 (μ 0 23) = some 1 ∧ ∃ τ', (∀ k, k < 24 ∨ 48 ≤ k → τ' k = τ k) ∧ RW (sh τ') (M N) ∧ f_X5_worldAfter τ x = some (0, 0, τ')) ∨ (f_X6_isIn x 0 (μ 0 23) = some 0 ∧ f_X5_worldAfter τ x = some (1, 0, τ)) := by
  obtain ⟨h1, h2, h3, h4, h5, h6, h7, h8⟩ := hS
  rw [h2]
  unfold f_X5_worldAfter
  rw [h4, jn_s]
  rcases isIn_ok x 0 c (by omega) (by omega) with ⟨N, -, n2, rfl, n3, n4, n5⟩ | ⟨n3, n5⟩
  · left
    refine ⟨N, n2, rfl, n5, ?_⟩
    obtain ⟨σ', c1, c2⟩ := h8 (sh τ)
    obtain ⟨τ', d1, d2, d3⟩ := past_loop (N := N) (by omega) (fun i hi => h7 i (by omega)) (fun σ11 => some (0, 0, σ11)) N FU 0 (mgP σ' τ) (by omega) (by show N + 1 ≤ 6000; omega) (fun k hk => by unfold mgP; exact if_neg (by omega)) (c2.steps fun k hk _ => mgP_1 σ' τ k hk)
    refine ⟨τ', d1, d2, ?_⟩
    rw [if_neg (show ¬ nI N < 0 from nI_pos (by omega)), if_pos (nI_le n2 (by omega)), c1, bd_s, stp_s]
    exact d3
  · right
    refine ⟨n5, ?_⟩
    by_cases hx : x < 0
    · rw [if_pos hx]
    · rw [if_neg hx, if_neg (i32_lt_le.mpr (n3.resolve_left hx))]
theorem q_after {c : Nat} {τ μ : Mem} {M : Nat → Mem} (hS : SX c τ μ M) (hc : c ≤ 512) (x y : Int32) : (∃ N p τ', N ≤ c ∧ x = nI N ∧ y = nI p ∧ p < 4 ∧ p < pcN (M N) ∧ (∀ k, k < 24 ∨ 48 ≤ k → τ' k = τ k) ∧ RW (sh τ') (M N) ∧ f_X5_worldAfter τ x = some (0, 0, τ') ∧ f_X5_needPlayerIn_past τ' y = some (0, 0) ∧ f_X6_wasThere μ x y = some (1, mu μ 0 29 0)) ∨ (f_X6_wasThere μ x y = some (0, mu μ 0 29 1) ∧ ((f_X5_worldAfter τ x = some (1, 0, τ)) ∨ ∃ τ', (∀ k, k < 24 ∨ 48 ≤ k → τ' k = τ k) ∧ f_X5_worldAfter τ x = some (0, 0, τ') ∧ f_X5_needPlayerIn_past τ' y = some (1, 0))) := by
  unfold f_X6_wasThere
  rcases past_ok hS hc x with ⟨N, n1, rfl, m1, τ', t1, t2, t3⟩ | ⟨m1, t1⟩
  · obtain ⟨-, -, -, -, -, h6, -, -⟩ := hS
    obtain ⟨⟨a1, -, -⟩, np, np1, np2⟩ := h6 N n1
    have hpc : pcN (M N) = np := by unfold pcN; rw [np2, N_nI (by omega)]
    have g11 : ∀ {α : Type} (x : Option α), gd (nI N) 1100 x = x := fun x => gd_ok (by omega) (by decide)
    have hN : (nI N).toNatClampNeg = N := N_nI (by omega)
    have h32 : τ' 32 0 = nI np := t2.2.1.1.trans np2
    unfold f_X5_needPlayerIn_past
    rcases below_cases y np (by omega) with ⟨p, p1, rfl, b2, b3, b4⟩ | ⟨b2, b4⟩
    · left
      refine ⟨N, p, τ', n1, rfl, rfl, by omega, by omega, t1, t2, t3, ?_, ?_⟩
      · rw [h32, jn_s, if_neg b2, if_pos b3]
      · simp only [m1, bd_s, jn_s, i10, if_false, g11, hN, a1, np2, b4, can_ok, i00, if_true, bd2_s, gz1]
    · right
      refine ⟨by simp only [m1, bd_s, jn_s, i10, if_false, g11, hN, a1, np2, b4, can_ok, i00, if_true, bd2_s, gz0], Or.inr ⟨τ', t1, t3, ?_⟩⟩
      rw [h32, jn_s]
      by_cases hy : y < 0
      · rw [if_pos hy]
      · rw [if_neg hy, if_neg (b2.resolve_left hy)]
  · right
    exact ⟨by simp only [m1, bd_s, jn_s, i10, if_false, can_ok, i00, if_true, bd2_s, gz0], Or.inl t1⟩
theorem q_turnAfter {c : Nat} {τ μ : Mem} {M : Nat → Mem} (hS : SX c τ μ M) (hc : c ≤ 512) (x : Int32) : LawR ok1 c (f_X6_turnAfter μ x) (f_X5_turnAfter τ x) := by
  unfold f_X6_turnAfter f_X5_turnAfter
  rcases past_ok hS hc x with ⟨N, n1, rfl, m1, τ', t1, t2, t3⟩ | ⟨m1, t1⟩
  · obtain ⟨-, -, -, -, -, h6, -, -⟩ := id hS
    obtain ⟨⟨-, a2, -⟩, np, np1, np2⟩ := h6 N n1
    have hpc : pcN (M N) = np := by unfold pcN; rw [np2, N_nI (by omega)]
    have g11 : ∀ {α : Type} (x : Option α), gd (nI N) 1100 x = x := fun x => gd_ok (by omega) (by decide)
    have hN : (nI N).toNatClampNeg = N := N_nI (by omega)
    obtain ⟨z, z1, z2⟩ := next_ok (σ := sh τ') (np := np) (t2.2.1.1.trans np2) np1
    rw [hpc] at a2
    have hz : z = μ 21 N := (z1.congr (fun j hj => ((t2.2.1.2 j (by rw [hpc]; exact hj)).2.2.2.2).symm)).eq a2
    refine ⟨0, z, τ', μ 21 N, mu μ 0 29 0, c, M, ?_, ?_, by omega, hS.same (fun k hk _ => t1 k (Or.inl hk)) (t1 49 (by omega)) (t1 50 (by omega)) (WSm.thrown μ 0) (mu_pl (by decide)) (fun k k1 _ => mu_n (by omega)), Or.inl ⟨rfl, by rw [mu_at], hz⟩⟩
    · rw [t3, bt3_0, z2, bd_s]
    · simp only [m1, bd_s, jn_s, i10, if_false, can_ok, i00, if_true, bd2_s, g11, hN, mu_n (show (21 : Nat) ≠ 0 by decide)]
  · refine ⟨1, 0, τ, 0, mu μ 0 29 1, c, M, by rw [t1]; rfl, by simp only [m1, bd_s, jn_s, i10, if_false, can_ok, i00, if_true, bd2_s], by omega, hS.thrown 1, Or.inr ⟨rfl, by rw [mu_at]⟩⟩
theorem q_roomAfter {c : Nat} {τ μ : Mem} {M : Nat → Mem} (hS : SX c τ μ M) (hc : c ≤ 512) (x y : Int32) : LawR ok1 c (f_X6_roomAfter μ x y) (f_X5_roomAfter τ x y) := by
  unfold f_X6_roomAfter f_X5_roomAfter
  rcases q_after hS hc x y with ⟨N, p, τ', n1, rfl, rfl, p4, p1, t1, t2, t3, t4, t5⟩ | ⟨m1, t1 | ⟨τ', t1, t2, t3⟩⟩
  · obtain ⟨-, -, -, -, -, h6, -, -⟩ := id hS
    obtain ⟨⟨-, -, a3⟩, -⟩ := h6 N n1
    have hj : N * 4 + p < 4400 := by omega
    have gj : ∀ {α : Type} (x : Option α), gd (nI (N * 4 + p)) 4400 x = x := fun x => gd_ok hj (by decide)
    have hN : (nI (N * 4 + p)).toNatClampNeg = N * 4 + p := N_nI (by omega)
    have g4 : ∀ {α : Type} (x : Option α), gd (nI p) 4 x = x := fun x => gd_ok p4 (by decide)
    have hp : (nI p).toNatClampNeg = p := N_nI (by omega)
    have hv : τ' 33 p = M N 6 p := (t2.2.1.2 p p1).1
    refine ⟨0, M N 6 p, τ', M N 6 p, mu μ 0 29 0, c, M, ?_, ?_, by omega, hS.same (fun k hk _ => t1 k (Or.inl hk)) (t1 49 (by omega)) (t1 50 (by omega)) (WSm.thrown μ 0) (mu_pl (by decide)) (fun k k1 _ => mu_n (by omega)), Or.inl ⟨rfl, by rw [mu_at], rfl⟩⟩
    · rw [t3, bt3_0, t4, bt_0, g4, hp, hv]
    · simp only [t5, bd2_s, i10, if_false, n4l, gj, hN, mu_n (show (22 : Nat) ≠ 0 by decide), (a3 p p1).1]
  · exact ⟨1, 0, τ, 0, mu μ 0 29 1, c, M, by rw [t1]; rfl, by simp only [m1, bd2_s, i00, if_true], by omega, hS.thrown 1, Or.inr ⟨rfl, by rw [mu_at]⟩⟩
  · exact ⟨1, 0, τ', 0, mu μ 0 29 1, c, M, by rw [t2, bt3_0, t3, bt_e1], by simp only [m1, bd2_s, i00, if_true], by omega, hS.same (fun k hk _ => t1 k (Or.inl hk)) (t1 49 (by omega)) (t1 50 (by omega)) (WSm.thrown μ 1) (mu_pl (by decide)) (fun k k1 _ => mu_n (by omega)), Or.inr ⟨rfl, by rw [mu_at]⟩⟩
theorem q_coinsAfter {c : Nat} {τ μ : Mem} {M : Nat → Mem} (hS : SX c τ μ M) (hc : c ≤ 512) (x y : Int32) : LawR ok1 c (f_X6_coinsAfter μ x y) (f_X5_coinsAfter τ x y) := by
  unfold f_X6_coinsAfter f_X5_coinsAfter
  rcases q_after hS hc x y with ⟨N, p, τ', n1, rfl, rfl, p4, p1, t1, t2, t3, t4, t5⟩ | ⟨m1, t1 | ⟨τ', t1, t2, t3⟩⟩
  · obtain ⟨-, -, -, -, -, h6, -, -⟩ := id hS
    obtain ⟨⟨-, -, a3⟩, -⟩ := h6 N n1
    have hj : N * 4 + p < 4400 := by omega
    have gj : ∀ {α : Type} (x : Option α), gd (nI (N * 4 + p)) 4400 x = x := fun x => gd_ok hj (by decide)
    have hN : (nI (N * 4 + p)).toNatClampNeg = N * 4 + p := N_nI (by omega)
    have g4 : ∀ {α : Type} (x : Option α), gd (nI p) 4 x = x := fun x => gd_ok p4 (by decide)
    have hp : (nI p).toNatClampNeg = p := N_nI (by omega)
    have hv : τ' 34 p = M N 7 p := (t2.2.1.2 p p1).2.1
    refine ⟨0, M N 7 p, τ', M N 7 p, mu μ 0 29 0, c, M, ?_, ?_, by omega, hS.same (fun k hk _ => t1 k (Or.inl hk)) (t1 49 (by omega)) (t1 50 (by omega)) (WSm.thrown μ 0) (mu_pl (by decide)) (fun k k1 _ => mu_n (by omega)), Or.inl ⟨rfl, by rw [mu_at], rfl⟩⟩
    · rw [t3, bt3_0, t4, bt_0, g4, hp, hv]
    · simp only [t5, bd2_s, i10, if_false, n4l, gj, hN, mu_n (show (23 : Nat) ≠ 0 by decide), (a3 p p1).2]
  · exact ⟨1, 0, τ, 0, mu μ 0 29 1, c, M, by rw [t1]; rfl, by simp only [m1, bd2_s, i00, if_true], by omega, hS.thrown 1, Or.inr ⟨rfl, by rw [mu_at]⟩⟩
  · exact ⟨1, 0, τ', 0, mu μ 0 29 1, c, M, by rw [t2, bt3_0, t3, bt_e1], by simp only [m1, bd2_s, i00, if_true], by omega, hS.same (fun k hk _ => t1 k (Or.inl hk)) (t1 49 (by omega)) (t1 50 (by omega)) (WSm.thrown μ 1) (mu_pl (by decide)) (fun k k1 _ => mu_n (by omega)), Or.inr ⟨rfl, by rw [mu_at]⟩⟩
