/-! STAGES, QUESTS, PLAYERS IN THE LAW -/
theorem sr_zero {f : Nat → Nat} : ∀ (m i : Nat), sr f i m = 0 ↔ ∀ j, i ≤ j → j < i + m → f j = 0 := by
  intro m
  induction m with
  | zero => intro i; exact ⟨fun _ j h1 h2 => by omega, fun _ => rfl⟩
  | succ m ih =>
    intro i
    show f i + sr f (i + 1) m = 0 ↔ _
    constructor
    · intro h j h1 h2
      by_cases q : j = i
      · subst q; omega
      · exact (ih (i + 1)).mp (by omega) j (by omega) (by omega)
    · intro h
      have h1 := h i (Nat.le_refl _) (by omega)
      have h2 := (ih (i + 1)).mpr fun j a b => h j (by omega) (by omega)
      omega
section STG
variable {c : Nat} {ρ μ : Mem} {M : Nat → Mem} {x y : Nat}
theorem l606 (S : SX c ρ μ M) (h7 : ρ 51 7 = nI (pcN μ)) {q : Nat} (hq : q < qcN μ) {fa : Nat → Nat} (hfa : ∀ p, p < pcN μ → μ 19 (p * 3 + q) = nI (fa p)) (x10 x11 : Int32) (k : Int32 → Mem → Option (Int32 × Mem)) : ∀ (m n i s : Nat), i + m = pcN μ → m + 1 ≤ n → L_L_makes_606 n k x10 x11 (nI q) (nI s) (nI i) ρ = k (nI (s + sr fa i m)) ρ := by
  have hnp := S.iw.np.1
  intro m
  induction m with
  | zero =>
    intro n i s h1 h2
    obtain ⟨n, rfl⟩ : ∃ n', n = n' + 1 := ⟨n - 1, by omega⟩
    rw [L_L_makes_606, gl7, tc7, h7, if_pos (nI_le (by omega) (by omega))]
    rfl
  | succ m ih =>
    intro n i s h1 h2
    obtain ⟨n, rfl⟩ : ∃ n', n = n' + 1 := ⟨n - 1, by omega⟩
    rw [L_L_makes_606, gl7, tc7, h7, if_neg (nI_ge (by omega) (by omega)), p_stage S (by omega) hq, bt_0, hfa i (by omega), nI_add, nI_1, ih n (i + 1) (s + fa i) (by omega) (by omega)]
    show k (nI (s + fa i + sr fa (i + 1) m)) ρ = k (nI (s + (fa i + sr fa (i + 1) m))) ρ
    rw [Nat.add_assoc]
theorem stg_ok (S : SX c ρ μ M) (W : WI c (ρ 51) μ) (hc : c < 60) (hx : x < 2 ^ 30) (hy : y < 2 ^ 30) : ∃ c' ρ' μ' M', f_ST (nI x) (nI y) ρ = some (1, ρ') ∧ Out c ρ μ c' ρ' μ' M' := by
  have hnp := S.iw.np.1
  have hnq := S.iw.nq.1
  obtain ⟨h7, h8⟩ := pN S.iw W.1
  unfold f_ST
  rw [gl8, tc8, h8]
  by_cases n0 : qcN μ = 0
  · rw [n0, if_pos (show nI 0 = (0 : Int32) from rfl)]
    exact ⟨c, ρ, μ, M, rfl, Nat.le_refl _, Nat.le_succ _, S, W, HK.rf, Nat.le_refl _, rfl, rfl⟩
  · have nn : ¬ nI (qcN μ) = 0 := fun z => n0 (nI_inj (b := 0) (by omega) (by decide) z)
    have rq : jrem (nI x) (nI (qcN μ)) = nI (x % qcN μ) := jrem_nI (by omega) (by omega) (by omega)
    have ry4 : jrem (nI y) 4 = nI (y % 4) := jrem_nI (d := 4) (by omega) (by decide) (by decide)
    have dx8 : nI x / 8 = nI (x / 8) := pk_div8 hx 8 (by decide) (by decide)
    have rt : jrem (nI (x / 8)) 4 = nI (x / 8 % 4) := jrem_nI (d := 4) (by omega) (by decide) (by decide)
    have dy4 : nI y / 4 = nI (y / 4) := pk_div8 hy 4 (by decide) (by decide)
    have rm : jrem (nI (y / 4)) 5 = nI (y / 4 % 5) := jrem_nI (d := 5) (by omega) (by decide) (by decide)
    have hq : x % qcN μ < qcN μ := Nat.mod_lt _ (by omega)
    obtain ⟨q, eq⟩ : ∃ q, q = x % qcN μ := ⟨_, rfl⟩
    rw [← eq] at rq hq
    have hk4 : y % 4 < 4 := by omega
    have ht4 : x / 8 % 4 < 4 := by omega
    have hm5 : y / 4 % 5 < 5 := by omega
    have hq3 : q < 3 := by omega
    obtain ⟨w1, w2, w3, w4⟩ := W.1
    obtain ⟨q1, -⟩ := W.2.2.2.2.2
    obtain ⟨-, L, -, L4, -, hL⟩ := q1 0 q (by decide) hq3
    obtain ⟨fa, hfa⟩ : ∃ fa : Nat → Nat, ∀ p, p < pcN μ → μ 19 (p * 3 + q) = nI (fa p) ∧ fa p ≤ 4 := by
      refine ⟨fun p => (μ 19 (p * 3 + q)).toNatClampNeg, fun p hp => ?_⟩
      obtain ⟨z, L', z1, z2, z3, -⟩ := q1 p q (by omega) hq3
      show μ 19 (p * 3 + q) = nI (μ 19 (p * 3 + q)).toNatClampNeg ∧ (μ 19 (p * 3 + q)).toNatClampNeg ≤ 4
      rw [z3, N_nI (by omega)]
      exact ⟨rfl, by omega⟩
    have hsr4 : sr fa 0 (pcN μ) < 2 ^ 30 := by
      have : ∀ (m i : Nat), i + m ≤ pcN μ → sr fa i m ≤ 4 * m := by
        intro m
        induction m with
        | zero => intro i _; exact Nat.le_refl 0
        | succ m ih =>
          intro i h
          have h1 := (hfa i (by omega)).2
          have h2 := ih (i + 1) (by omega)
          show fa i + sr fa (i + 1) m ≤ 4 * (m + 1)
          omega
      have := this (pcN μ) 0 (by omega)
      omega
    have hcond : (∀ p, p < pcN μ → μ 19 (p * 3 + q) ≤ 0) ↔ sr fa 0 (pcN μ) = 0 := by
      rw [sr_zero]
      constructor
      · intro h j _ h2
        have := h j (by omega)
        rw [(hfa j (by omega)).1] at this
        by_cases z : fa j = 0
        · exact z
        · exact absurd this (nI_ge (b := fa j) (a := 0) (by omega) (by have := (hfa j (by omega)).2; omega))
      · intro h p hp
        rw [(hfa p hp).1, h p (Nat.zero_le _) (by omega)]
        exact Int32.le_refl _
    have g9 : ∀ {α : Type} (x : Option α), gd (nI (9 + q)) 13 x = x := fun x => gd_ok (by omega) (by decide)
    have N9 : (nI (9 + q)).toNatClampNeg = 9 + q := N_nI (by omega)
    have loop : ∀ k, L_L_makes_606 FU k (nI x) (nI y) (nI q) 0 0 ρ = k (nI (sr fa 0 (pcN μ))) ρ := fun k => by
      have := l606 S h7 hq (fun p hp => (hfa p hp).1) (nI x) (nI y) k (pcN μ) FU 0 0 (by omega) (by show _ ≤ 6000; omega)
      rw [Nat.zero_add] at this
      exact this
    have hn0 : ∀ {α : Type} (x : Option α), nz (nI (qcN μ)) x = x := fun x => if_neg nn
    have c9 : ρ 51 (9 + q) = nI L := (w4 q hq3).trans hL
    rw [if_neg nn, gl8, hn0, rq, loop]
    simp only [ry4, dx8, rt, dy4, rm, n1a, n9a, g9, N9, tc6, gl6, jn_s, stp_s]
    rcases mks_stage S W hc hq hk4 ht4 hm5 hL L4 with ⟨⟨l4, hz⟩, τ', M', μ'', x1, x2, x3, x4, x5⟩ | ⟨hno, x1⟩
    · have eL : f_L_stages ρ (nI q) (nI (y % 4)) (nI (x / 8 % 4)) (nI (1 + y / 4 % 5)) = some (nI (L + 1), mgY τ' ρ) := by
        unfold f_L_stages
        rw [x1, bt3_0, stp_s]
      obtain ⟨σ3, e3⟩ : ∃ σ3, σ3 = mgY τ' ρ := ⟨_, rfl⟩
      have k3 : ∀ k, 51 ≤ k → σ3 k = ρ k := fun k hk => by rw [e3]; exact mgY_K τ' ρ k hk
      rw [← e3] at eL
      have h4 : ¬ (4 : Int32) ≤ nI L := nI_ge (b := 4) l4 (by decide)
      have hs0 : nI (sr fa 0 (pcN μ)) = 0 := by rw [hcond.mp hz]; rfl
      obtain ⟨σ4, e4⟩ : ∃ σ4, σ4 = mu (mu σ3 51 (9 + q) (nI (L + 1))) 51 6 (nI (c + 1)) := ⟨_, rfl⟩
      refine ⟨c + 1, σ4, μ'', M', ?_, Nat.le_succ _, Nat.le_refl _, x2.g fun k hk => by rw [e4, mu_n (by omega), mu_n (by omega), e3, mgY_1 _ _ _ hk], ?_, x3, by rw [x4]; exact Nat.le_refl _, by rw [e4, mu_n (by decide), mu_n (by decide), k3 52 (by decide)], by rw [e4, mu_n (by decide), mu_n (by decide), k3 53 (by decide)]⟩
      · have E6 : mu σ3 51 (9 + q) (nI (L + 1)) 51 6 = nI c := by rw [mu_pl (by omega), k3 51 (by decide)]; exact w1
        have E9 : mu (mu σ3 51 (9 + q) (nI (L + 1))) 51 6 (nI (c + 1)) 51 (9 + q) = nI (L + 1) := by rw [mu_pl (by omega), mu_at]
        simp only [eL, bd2_s, k3 51 (by decide), c9, h4, if_false, hs0, if_true, i10, nI_1, E6, E9]
        rw [← e4]
      · rw [e4, mu_s, mu_s, k3 51 (by decide)]; exact x5
    · have eL : f_L_stages ρ (nI q) (nI (y % 4)) (nI (x / 8 % 4)) (nI (1 + y / 4 % 5)) = some (-8, mgY ρ ρ) := by
        unfold f_L_stages
        rw [x1, bt3_1, if_pos rfl, stp_s]
      obtain ⟨σ3, e3⟩ : ∃ σ3, σ3 = mgY ρ ρ := ⟨_, rfl⟩
      have k3 : ∀ k, 51 ≤ k → σ3 k = ρ k := fun k hk => by rw [e3]; exact mgY_K ρ ρ k hk
      rw [← e3] at eL
      obtain ⟨σ4, e4⟩ : ∃ σ4, σ4 = mu (mu σ3 51 (9 + q) (nI L)) 51 6 (nI c) := ⟨_, rfl⟩
      have k4 : σ4 51 = ρ 51 := by
        rw [e4, mu_s, mu_s, k3 51 (by decide), upd_self c9, upd_self w1]
      refine ⟨c, σ4, μ, M, ?_, Nat.le_refl _, Nat.le_succ _, S.g fun k hk => by rw [e4, mu_n (by omega), mu_n (by omega), e3, mgY_1 _ _ _ hk], by rw [k4]; exact W, HK.rf, Nat.le_refl _, by rw [e4, mu_n (by decide), mu_n (by decide), k3 52 (by decide)], by rw [e4, mu_n (by decide), mu_n (by decide), k3 53 (by decide)]⟩
      have E6 : mu σ3 51 (9 + q) (nI L) 51 6 = nI c := by rw [mu_pl (by omega), k3 51 (by decide)]; exact w1
      by_cases l4 : L = 4
      · have h4 : (4 : Int32) ≤ nI L := by rw [l4]; decide
        simp only [eL, bd2_s, k3 51 (by decide), c9, h4, if_true, i00, Int32.add_zero, E6]
        rw [← e4]
      · have h4 : ¬ (4 : Int32) ≤ nI L := nI_ge (b := 4) (by omega) (by decide)
        have hs0 : ¬ nI (sr fa 0 (pcN μ)) = 0 := fun z => hno ⟨by omega, hcond.mpr (nI_inj (b := 0) (by omega) (by decide) z)⟩
        simp only [eL, bd2_s, k3 51 (by decide), c9, h4, if_true, if_false, hs0, i00, Int32.add_zero, E6]
        rw [← e4]
theorem makes_6e (a1 a2 : Int32) : f_L_makes ρ (nI 6) a1 a2 = f_ST a1 a2 ρ := by
  unfold f_L_makes
  rw [if_neg (by decide), if_neg (by decide), if_neg (by decide), jn_s, if_neg (by decide)]
  dsimp only
  rw [if_neg (by decide), jn_s, if_neg (by decide)]
  rfl
theorem makes_5 (S : SX c ρ μ M) (W : WI c (ρ 51) μ) (hc : c < 60) (hx : x < 2 ^ 30) (hy : y < 2 ^ 30) : ∃ c' ρ' μ' M', f_L_makes ρ (nI 5) (nI x) (nI y) = some (1, ρ') ∧ Out c ρ μ c' ρ' μ' M' := by
  have hnq := S.iw.nq.1
  obtain ⟨h7, h8⟩ := pN S.iw W.1
  by_cases n3 : qcN μ = 3
  · have e : f_L_makes ρ (nI 5) (nI x) (nI y) = f_ST (nI x) (nI y) ρ := by
      unfold f_L_makes
      rw [if_neg (by decide), if_neg (by decide), if_neg (by decide), jn_s, if_neg (by decide)]
      dsimp only
      rw [if_neg (by decide), jn_s, if_pos (by decide), gl8, tc8, h8, n3, if_pos (by decide)]
      rfl
    rw [e]; exact stg_ok S W hc hx hy
  · have ry : jrem (nI y) 101 = nI (y % 101) := jrem_nI (d := 101) (by omega) (by decide) (by decide)
    obtain ⟨σ2, e2⟩ : ∃ σ2, σ2 = mu (mu ρ 51 8 (nI (qcN μ + 1))) 51 6 (nI (c + 1)) := ⟨_, rfl⟩
    have E6 : mu ρ 51 8 (nI (qcN μ + 1)) 51 6 = nI c := by rw [mu_pl (by decide)]; exact W.1.1
    obtain ⟨τ', M', μ'', x1, x3⟩ := mks_quest S W hc (q := y % 101) (by omega) (by omega) e2
    refine ⟨c + 1, mgY τ' σ2, μ'', M', ?_, x3⟩
    have h3 : ((3 : Int32) ≤ nI (qcN μ)) = False := by rw [cl8 hnq]; exact eq_false n3
    have k8 : mgY τ' σ2 51 8 = nI (qcN μ + 1) := by rw [mgY_K τ' σ2 51 (by decide), e2, mu_pl (by decide), mu_at]
    have s1 : nI (qcN μ + 1) - 1 = nI (qcN μ) := pk_sub (a := qcN μ + 1) (b := 1) (by omega)
    unfold f_L_makes
    rw [if_neg (by decide), if_neg (by decide), if_neg (by decide), jn_s, if_neg (by decide)]
    dsimp only
    rw [if_neg (by decide), jn_s, if_pos (by decide)]
    simp only [gl8, tc8, h8, h3, if_false, ry, stp_s, gl6, tc6, nI_1, E6]
    rw [← e2, x1, bt3_0, k8, s1, if_pos rfl]
theorem makes_3 (S : SX c ρ μ M) (W : WI c (ρ 51) μ) (hc : c < 60) (hx : x < 2 ^ 30) (hy : y < 2 ^ 30) : ∃ c' ρ' μ' M', f_L_makes ρ (nI 3) (nI x) (nI y) = some (1, ρ') ∧ Out c ρ μ c' ρ' μ' M' ∧ (pcN μ < 4 → pcN μ' = pcN μ + 1) := by
  have hnp := S.iw.np.1
  obtain ⟨h7, h8⟩ := pN S.iw W.1
  by_cases n4 : pcN μ = 4
  · have e : f_L_makes ρ (nI 3) (nI x) (nI y) = f_ST (nI x) (nI y) ρ := by
      unfold f_L_makes
      rw [if_neg (by decide), if_neg (by decide), if_neg (by decide), jn_s, if_pos (by decide), gl7, tc7, h7, n4, if_pos (by decide)]
      dsimp only
      rw [if_neg (by decide), jn_s, if_neg (by decide)]
      rfl
    rw [e]
    obtain ⟨c', ρ', μ', M', z1, z2⟩ := stg_ok S W hc hx hy
    exact ⟨c', ρ', μ', M', z1, z2, fun h => by omega⟩
  · have rx8 : jrem (nI x) 8 = nI (x % 8) := jrem_nI (d := 8) (by omega) (by decide) (by decide)
    have dx8 : nI x / 8 = nI (x / 8) := pk_div8 hx 8 (by decide) (by decide)
    have r201 : jrem (nI (x / 8)) 201 = nI (x / 8 % 201) := jrem_nI (d := 201) (by omega) (by decide) (by decide)
    have ry7 : jrem (nI y) 7 = nI (y % 7) := jrem_nI (d := 7) (by omega) (by decide) (by decide)
    obtain ⟨σ2, e2⟩ : ∃ σ2, σ2 = mu (mu (mu ρ 51 7 (nI (pcN μ + 1))) 51 0 (ρ 51 0 + nI (x / 8 % 201))) 51 6 (nI (c + 1)) := ⟨_, rfl⟩
    have E0 : mu ρ 51 7 (nI (pcN μ + 1)) 51 0 = ρ 51 0 := mu_pl (by decide)
    have E6 : mu (mu ρ 51 7 (nI (pcN μ + 1))) 51 0 (ρ 51 0 + nI (x / 8 % 201)) 51 6 = nI c := by rw [mu_pl (by decide), mu_pl (by decide)]; exact W.1.1
    obtain ⟨τ', M', μ'', x1, x5, x6, x7, x3⟩ := mks_join S W hc (a := x % 8) (q := x / 8 % 201) (u := y % 7) (by omega) (by omega) (by omega) (by omega) e2
    refine ⟨c + 1, mgY τ' σ2, μ'', M', ?_, x3, fun _ => x7⟩
    have h4 : ((4 : Int32) ≤ nI (pcN μ)) = False := by rw [cl7 hnp]; exact eq_false n4
    have k7 : mgY τ' σ2 51 7 = nI (pcN μ + 1) := by rw [mgY_K τ' σ2 51 (by decide), e2, mu_pl (by decide), mu_pl (by decide), mu_at]
    have s1 : nI (pcN μ + 1) - 1 = nI (pcN μ) := pk_sub (a := pcN μ + 1) (b := 1) (by omega)
    have SS := x3.2.2.1
    unfold f_L_makes
    rw [if_neg (by decide), if_neg (by decide), if_neg (by decide), jn_s, if_pos (by decide)]
    simp only [gl7, tc7, h7, h4, if_false, rx8, dx8, r201, ry7, stp_s, gl0, tc0, gl6, tc6, nI_1, E0, E6]
    rw [← e2, x1, bt3_0, k7, s1, if_pos rfl, p_health SS (by omega), bt_0, x5, if_pos rfl, p_ready SS (by omega), bt_0, x6, if_pos rfl]
theorem makes_ok (S : SX c ρ μ M) (W : WI c (ρ 51) μ) (hc : c < 60) (hx : x < 2 ^ 30) (hy : y < 2 ^ 30) {what : Nat} (hw : what ≤ 6) : ∃ c' ρ' μ' M', f_L_makes ρ (nI what) (nI x) (nI y) = some (1, ρ') ∧ Out c ρ μ c' ρ' μ' M' ∧ (what = 3 → pcN μ < 4 → pcN μ' = pcN μ + 1) := by
  have go : what ≠ 3 → (∃ c' ρ' μ' M', f_L_makes ρ (nI what) (nI x) (nI y) = some (1, ρ') ∧ Out c ρ μ c' ρ' μ' M') → ∃ c' ρ' μ' M', f_L_makes ρ (nI what) (nI x) (nI y) = some (1, ρ') ∧ Out c ρ μ c' ρ' μ' M' ∧ (what = 3 → pcN μ < 4 → pcN μ' = pcN μ + 1) := fun h3 ⟨c', ρ', μ', M', h1, h2⟩ => ⟨c', ρ', μ', M', h1, h2, fun z => absurd z h3⟩
  rcases (show what = 0 ∨ what = 1 ∨ what = 2 ∨ what = 3 ∨ what = 4 ∨ what = 5 ∨ what = 6 by omega) with rfl | rfl | rfl | rfl | rfl | rfl | rfl
  · exact go (by decide) (makes_0 S W hc hx hy)
  · exact go (by decide) (makes_1 S W hc hx hy)
  · exact go (by decide) (makes_2 S W hc hx hy)
  · obtain ⟨c', ρ', μ', M', h1, h2, h3⟩ := makes_3 S W hc hx hy
    exact ⟨c', ρ', μ', M', h1, h2, fun _ => h3⟩
  · exact go (by decide) (makes_4 S W hc hx hy)
  · exact go (by decide) (makes_5 S W hc hx hy)
  · refine go (by decide) ?_
    rw [makes_6e]
    exact stg_ok S W hc hx hy
end STG
