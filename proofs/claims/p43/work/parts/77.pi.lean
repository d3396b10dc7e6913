/-! AN ACT OF THE LAW -/
theorem sr_le {hb : Nat → Nat} : ∀ (m i : Nat), (∀ j, i ≤ j → j < i + m → hb j ≤ 1) → sr hb i m ≤ m := by
  intro m
  induction m with
  | zero => intro i _; exact Nat.le_refl 0
  | succ m ih =>
    intro i h
    have h1 := h i (Nat.le_refl _) (by omega)
    have h2 := ih (i + 1) fun j a b => h j (by omega) (by omega)
    show hb i + sr hb (i + 1) m ≤ m + 1
    omega
section DO
variable {c : Nat} {ρ μ : Mem} {M : Nat → Mem}
theorem v_ok {what a q w cost : Nat} {v : Int32} {μ5 μ'' : Mem} {cf : Nat → Int32} (hP : PA what a q w μ cost v μ5 μ'') (hw : what ≤ 10) (ha : a < pcN μ) (hnp : pcN μ ≤ 4) (hpc : pcN μ'' = pcN μ) (hI : IW (c + 1) (13 * (c + 1)) μ'') (hc : c < 512) (hq : q < 5) (W : WI (c + 1) cf μ'') : ¬ v ≤ -7 := by
  have hv : v = -1 ∨ ∃ n, n < 2 ^ 31 ∧ v = nI n := by
    obtain ⟨p0, p9, p10, -, -, p12, p35, p68⟩ := hP
    by_cases w0 : what = 0
    · obtain ⟨-, -, x, x1, x2, -⟩ := p0 w0
      exact Or.inr ⟨x, by omega, x2⟩
    · by_cases w9 : what = 9
      · rcases p9 w9 with ⟨h, -⟩ | ⟨l, t, l1, l2, -⟩
        · exact Or.inl h
        · exact Or.inr ⟨l, by omega, l2⟩
      · by_cases w10 : what = 10
        · obtain ⟨-, -, z, z1, z2, z3⟩ := hI.pl (i := a) (by omega)
          exact Or.inr ⟨z, by omega, (p10 w10).2.trans z3⟩
        · by_cases w2 : what ≤ 2
          · obtain ⟨rm, hb, -, -, b1, b2⟩ := p12 (by omega)
            have := sr_le (hb := hb) (pcN μ) 0 fun j _ hj => by
              rcases b2 j (by omega) with ⟨z, -⟩ | ⟨z, -⟩ <;> omega
            exact Or.inr ⟨_, by omega, b1⟩
          · by_cases w5 : what ≤ 5
            · obtain ⟨-, -, -, -, -, -, -, h8, -⟩ := id hI
              obtain ⟨z, z1, z2⟩ := h8 (a * 5 + q) (by omega)
              exact Or.inr ⟨z, by omega, (p35 (by omega) w5).trans z2⟩
            · obtain ⟨T, T1, -, cn, tn, pu, c1, -, -, c4⟩ := W.2.2.1
              have := ns_le (f := cn) (pcN μ'') a (by omega)
              exact Or.inr ⟨cn a, by omega, (p68 (by omega) (by omega)).trans (c1 a (by omega))⟩
  rcases hv with rfl | ⟨n, n1, rfl⟩
  · decide
  · exact nNL7 n1
theorem st_ok {a cost : Nat} {μ5 μ'' τ : Mem} (h19 : μ5 19 = μ 19) (hq5 : qcN μ5 = qcN μ) (hnq : qcN μ ≤ 3) (e : EndS a cost μ5 μ'') (h55 : ∀ p, p < pcN μ → ∀ q, q < qcN μ → τ 55 (p * 3 + q) = μ 19 (p * 3 + q)) : ∀ p q, p < pcN μ → q < qcN μ → μ'' 19 (p * 3 + q) - τ 55 (p * 3 + q) = 0 ∨ (μ'' 19 (p * 3 + q) - τ 55 (p * 3 + q) = 1 ∧ ¬ (1 : Int32) = 0 ∧ p = a) := by
  obtain ⟨-, -, -, -, e5, e6, -⟩ := e
  intro p q hp hq
  rw [h55 p hp q hq]
  by_cases h : p = a
  · subst h
    rcases e6 q (by omega) with z | ⟨t, L, t1, t2, t3, -, t5⟩
    · rw [z, h19]; exact Or.inl (Int32.sub_self _)
    · refine Or.inr ⟨?_, by decide, rfl⟩
      rw [t5, ← h19, t3, pk_sub (by omega)]
      rw [show t + 1 - t = 1 by omega]; rfl
  · rw [e5 (p * 3 + q) fun q' hq' he => h (by omega), h19]
    exact Or.inl (Int32.sub_self _)
theorem Hd.at {μ'' : Mem} {a rm : Nat} {lo w : Int32} {hb : Nat → Nat} {j : Nat} (e6 : μ'' 6 = μ 6) (e1 : μ'' 1 = μ 1) (h : Hd μ μ'' a rm lo w hb j) : Hd μ'' μ'' a rm lo w hb j := by
  rcases h with ⟨z1, z2, z3⟩ | ⟨z1, z2⟩
  · exact Or.inl ⟨z1, (Hr.same e6 e1).mpr z2, z3⟩
  · exact Or.inr ⟨z1, fun z => z2 ((Hr.same e6 e1).mp z)⟩
set_option maxHeartbeats 4000000 in
theorem does_ok (S : SX c ρ μ M) (W : WI c (ρ 51) μ) (hc : c < 60) {what x y : Nat} (hw : what ≤ 10) (hx : x < 2 ^ 30) (hy : y < 2 ^ 30) (h1 : 1 ≤ pcN μ) : ∃ c' ρ' μ' M', f_L_does ρ (nI what) (nI x) (nI y) = some (1, ρ') ∧ Out c ρ μ c' ρ' μ' M' := by
  have hnp := S.iw.np
  have hnq := S.iw.nq
  obtain ⟨WCx, WSx, ⟨T, T1, T2, T3⟩, Wg, WE, WQx⟩ := id W
  obtain ⟨h7, h8⟩ := pN S.iw WCx
  obtain ⟨v0, t1, t2⟩ := p_turn S
  obtain ⟨a, ha, rfl⟩ : ∃ a, a < pcN μ ∧ v0 = nI a := by
    rcases t2 with ⟨z, -⟩ | ⟨a, -, a2, e, -⟩
    · omega
    · exact ⟨a, a2, e⟩
  have A : AC c a T μ := by
    obtain ⟨y', y1, y2⟩ := actor_ok hnp.2 hnp.1
    refine ⟨S.iw, S.2.1, by omega, WQx, T3, by omega, ha, ?_⟩
    rw [y2, y1.eq t2]
  obtain ⟨σ2, r1, r2⟩ := d25z S h7 h8 (nI what) (nI x) (nI y) (nI a)
  have S2 : SX c σ2 μ M := S.g fun k hk => r2.1 k (by omega)
  have AOx := acts_ok S2 A x y what hw
  have rx5 : jrem (nI x) 5 = nI (x % 5) := jrem_nI (d := 5) (by omega) (by decide) (by decide)
  unfold f_L_does
  rw [t1, bd_s, stp_s, r1]
  try dsimp only
  rw [y_pick hw hy]
  try dsimp only
  rw [x_pick hw hx]
  try dsimp only
  rcases AOx with ⟨v, ρ3, g1, g2, g3, g4⟩ | ⟨cost, v, ρ3, M', μ5, μ'', g1, g2, g3, g4, g5, g6, g7⟩
  · obtain ⟨σ3, e3⟩ : ∃ σ3, σ3 = mgZ ρ3 σ2 := ⟨_, rfl⟩
    rw [g1, bd2_s, ← e3, stp_s, a_pick0 (by rcases g2 with rfl | rfl <;> decide)]
    try dsimp only
    rw [gl6, t_pick0]
    try dsimp only
    obtain ⟨σ4, e4⟩ : ∃ σ4, σ4 = mu σ3 51 6 (σ3 51 6 + 0) := ⟨_, rfl⟩
    rw [gl6, tc6, ← e4, stp_s]
    have k3 : ∀ k, 51 ≤ k → σ3 k = σ2 k := fun k hk => by
      by_cases q : k < 54
      · rw [e3, mgZ_1 _ _ _ q, g4 k hk]
      · rw [e3]; exact if_neg q
    have k4 : σ4 51 = ρ 51 := by
      rw [e4, mu_s, upd_self (Int32.add_zero _).symm, k3 51 (by decide), r2.1 51 (by decide)]
    have k4n : ∀ k, 52 ≤ k → σ4 k = σ2 k := fun k hk => by rw [e4, mu_n (by omega), k3 k (by omega)]
    have S4 : SX c σ4 μ M := g3.g fun k hk => by rw [e4, mu_n (by omega), e3, mgZ_1 _ _ _ (by omega)]
    rw [c_pick hw]
    try dsimp only
    rw [k_pick0 (p_calls S4) (by rw [k4]; exact WCx.1)]
    try dsimp only
    rw [d252z S4 (by rw [k4]; exact h7) (by rw [k4]; exact h8) hw ha (fun p q hp hq => Or.inl (by rw [k4n 55 (by decide), (r2.2 p hp).2.2 q hq, Int32.sub_self])) (fun i hi => Or.inl ⟨rfl, by rw [k4n 54 (by decide), (r2.2 i hi).1], by rw [k4n 56 (by decide), (r2.2 i hi).2.1]⟩)]
    try dsimp only
    rw [if_pos rfl, gz1]
    exact ⟨c, σ4, μ, M, rfl, Nat.le_refl _, Nat.le_succ _, S4, by rw [k4]; exact W, HK.rf, Nat.le_refl _, by rw [k4n 52 (by decide), r2.1 52 (by decide)], by rw [k4n 53 (by decide), r2.1 53 (by decide)]⟩
  · have W' : WI (c + 1) (upd (ρ 51) 6 (nI (c + 1))) μ'' := W.act (g := 0) (r := 0) (by omega) g5 g6 ha hnp.1 hnq.1
    obtain ⟨mp, mq⟩ := g5.pc
    have pc2 : pcN μ'' = pcN μ := by unfold pcN at mp ⊢; rw [g6.2.1 5 (by decide) (by decide)]; exact mp
    have qc2 : qcN μ'' = qcN μ := by unfold qcN at mq ⊢; rw [g6.2.1 16 (by decide) (by decide)]; exact mq
    obtain ⟨σ3, e3⟩ : ∃ σ3, σ3 = mgZ ρ3 σ2 := ⟨_, rfl⟩
    rw [g1, bd2_s, ← e3, stp_s, a_pick1 (v_ok g7 hw ha hnp.1 pc2 g2.iw (by omega) (by omega) W')]
    try dsimp only
    rw [gl6, t_pick1]
    try dsimp only
    obtain ⟨σ4, e4⟩ : ∃ σ4, σ4 = mu σ3 51 6 (σ3 51 6 + 1) := ⟨_, rfl⟩
    rw [gl6, tc6, ← e4, stp_s]
    have k3 : ∀ k, 51 ≤ k → σ3 k = σ2 k := fun k hk => by
      by_cases q : k < 54
      · rw [e3, mgZ_1 _ _ _ q, g3 k hk]
      · rw [e3]; exact if_neg q
    have k4 : σ4 51 = upd (ρ 51) 6 (nI (c + 1)) := by
      rw [e4, mu_s, k3 51 (by decide), r2.1 51 (by decide), WCx.1, nI_1]
    have k4n : ∀ k, 52 ≤ k → σ4 k = σ2 k := fun k hk => by rw [e4, mu_n (by omega), k3 k (by omega)]
    have S4 : SX (c + 1) σ4 μ'' M' := g2.g fun k hk => by rw [e4, mu_n (by omega), e3, mgZ_1 _ _ _ (by omega)]
    rw [← k4] at W'
    obtain ⟨h7', h8'⟩ := pN S4.iw W'.1
    have ha' : a < pcN μ'' := by omega
    rw [c_pick hw]
    try dsimp only
    rw [k_pick1]
    try dsimp only
    rw [d252z S4 h7' h8' hw ha' (fun p q hp hq => st_ok (τ := σ4) g5.1.2.2.2.2 mq hnq.1 g6 (fun p hp q hq => by rw [k4n 55 (by decide), (r2.2 p hp).2.2 q hq]) p q (by omega) (by omega)) (fun i hi => ef_ok (τ := σ4) hnp.1 g7 hw ha g6 (fun p hp => ⟨by rw [k4n 54 (by decide), (r2.2 p hp).1], by rw [k4n 56 (by decide), (r2.2 p hp).2.1]⟩) i (by omega))]
    try dsimp only
    rw [if_neg e10, if_neg e10]
    have o52 : σ4 52 = ρ 52 := by rw [k4n 52 (by decide), r2.1 52 (by decide)]
    have o53 : σ4 53 = ρ 53 := by rw [k4n 53 (by decide), r2.1 53 (by decide)]
    have oo : Out c ρ μ (c + 1) σ4 μ'' M' := ⟨Nat.le_succ _, Nat.le_refl _, S4, W', g4, by omega, o52, o53⟩
    obtain ⟨p0, p9, p10, -, pn, p12, p35, p68⟩ := g7
    have e1 : μ'' 1 = μ 1 := (g6.1 1 (by decide) (by decide) (by decide) (by decide) (by decide)).trans g5.1.1
    have e6 := g6.1 6 (by decide) (by decide) (by decide) (by decide) (by decide)
    rcases (show what = 0 ∨ what = 1 ∨ what = 2 ∨ what = 3 ∨ what = 4 ∨ what = 5 ∨ what = 6 ∨ what = 7 ∨ what = 8 ∨ what = 9 ∨ what = 10 by omega) with rfl | rfl | rfl | rfl | rfl | rfl | rfl | rfl | rfl | rfl | rfl
    · refine ⟨c + 1, σ4, μ'', M', ?_, oo⟩
      simp only [jn_s, show (nI 0 = (0 : Int32)) = True from by decide, show (nI 0 = (1 : Int32)) = False from by decide, show (nI 0 = (2 : Int32)) = False from by decide, show (nI 0 = (3 : Int32)) = False from by decide, show (nI 0 = (4 : Int32)) = False from by decide, show (nI 0 = (5 : Int32)) = False from by decide, show (nI 0 = (10 : Int32)) = False from by decide, show ((8 : Int32) < nI 0) = False from by decide, if_true, if_false]
      obtain ⟨-, -, x', x1', x2', x3'⟩ := p0 rfl
      rw [p_room S4 ha', bt_0, if_pos (by rw [e6, x3', upd_s])]
    · obtain ⟨rm, hb, rm1, rm2, b1, b2⟩ := p12 (Or.inl rfl)
      have e66 : μ'' 6 = μ 6 := e6.trans (pn (by decide) (by decide)).2
      have hY : Y1 1 y = y % 30 := rfl
      obtain ⟨ρ5, z1, z2, z3⟩ := areHearers_ok (w := y % 30) (hb := hb) (lo := 0) S4 (by rw [e1]; exact WE) ha' (by rw [e66]; exact rm2) rm1 h7' (Or.inl rfl) (fun j hj => by
        have := (b2 j (by omega)).at e66 e1
        exact this)
      rw [pc2, ← b1] at z1
      simp only [jn_s, show (nI 1 = (0 : Int32)) = False from by decide, show (nI 1 = (1 : Int32)) = True from by decide, show (nI 1 = (2 : Int32)) = False from by decide, show (nI 1 = (3 : Int32)) = False from by decide, show (nI 1 = (4 : Int32)) = False from by decide, show (nI 1 = (5 : Int32)) = False from by decide, show (nI 1 = (10 : Int32)) = False from by decide, show ((8 : Int32) < nI 1) = False from by decide, if_true, if_false, hY]
      rw [z1, bd2_s, stp_s, gz1]
      refine ⟨c + 1, mgZ ρ5 σ4, μ'', M', rfl, Nat.le_succ _, Nat.le_refl _, z2.g fun k hk => mgZ_1 _ _ _ (by omega), ?_, g4, by omega, ?_, ?_⟩
      · rw [mgZ_1 _ _ _ (by decide), z3 51 (by decide)]; exact W'
      · rw [mgZ_1 _ _ _ (by decide), z3 52 (by decide)]; exact o52
      · rw [mgZ_1 _ _ _ (by decide), z3 53 (by decide)]; exact o53
    · obtain ⟨rm, hb, rm1, rm2, b1, b2⟩ := p12 (Or.inr rfl)
      have e66 : μ'' 6 = μ 6 := e6.trans (pn (by decide) (by decide)).2
      have hY : Y1 2 y = y % 30 := rfl
      obtain ⟨ρ5, z1, z2, z3⟩ := areHearers_ok (w := y % 30) (hb := hb) (lo := 1) S4 (by rw [e1]; exact WE) ha' (by rw [e66]; exact rm2) rm1 h7' (Or.inr rfl) (fun j hj => by
        have := (b2 j (by omega)).at e66 e1
        exact this)
      rw [pc2, ← b1] at z1
      simp only [jn_s, show (nI 2 = (0 : Int32)) = False from by decide, show (nI 2 = (1 : Int32)) = False from by decide, show (nI 2 = (2 : Int32)) = True from by decide, show (nI 2 = (3 : Int32)) = False from by decide, show (nI 2 = (4 : Int32)) = False from by decide, show (nI 2 = (5 : Int32)) = False from by decide, show (nI 2 = (10 : Int32)) = False from by decide, show ((8 : Int32) < nI 2) = False from by decide, if_true, if_false, hY]
      rw [z1, bd2_s, stp_s, gz1]
      refine ⟨c + 1, mgZ ρ5 σ4, μ'', M', rfl, Nat.le_succ _, Nat.le_refl _, z2.g fun k hk => mgZ_1 _ _ _ (by omega), ?_, g4, by omega, ?_, ?_⟩
      · rw [mgZ_1 _ _ _ (by decide), z3 51 (by decide)]; exact W'
      · rw [mgZ_1 _ _ _ (by decide), z3 52 (by decide)]; exact o52
      · rw [mgZ_1 _ _ _ (by decide), z3 53 (by decide)]; exact o53
    · refine ⟨c + 1, σ4, μ'', M', ?_, oo⟩
      simp only [jn_s, show (nI 3 = (0 : Int32)) = False from by decide, show (nI 3 = (1 : Int32)) = False from by decide, show (nI 3 = (2 : Int32)) = False from by decide, show (nI 3 = (3 : Int32)) = True from by decide, show (nI 3 = (4 : Int32)) = False from by decide, show (nI 3 = (5 : Int32)) = False from by decide, show (nI 3 = (10 : Int32)) = False from by decide, show ((8 : Int32) < nI 3) = False from by decide, if_true, if_false]
      rw [rx5, p_goods S4 ha' (by omega), bt_0, if_pos (p35 (by decide) (by decide)).symm]
    · refine ⟨c + 1, σ4, μ'', M', ?_, oo⟩
      simp only [jn_s, show (nI 4 = (0 : Int32)) = False from by decide, show (nI 4 = (1 : Int32)) = False from by decide, show (nI 4 = (2 : Int32)) = False from by decide, show (nI 4 = (3 : Int32)) = False from by decide, show (nI 4 = (4 : Int32)) = True from by decide, show (nI 4 = (5 : Int32)) = False from by decide, show (nI 4 = (10 : Int32)) = False from by decide, show ((8 : Int32) < nI 4) = False from by decide, if_true, if_false]
      rw [rx5, p_goods S4 ha' (by omega), bt_0, if_pos (p35 (by decide) (by decide)).symm]
    · refine ⟨c + 1, σ4, μ'', M', ?_, oo⟩
      simp only [jn_s, show (nI 5 = (0 : Int32)) = False from by decide, show (nI 5 = (1 : Int32)) = False from by decide, show (nI 5 = (2 : Int32)) = False from by decide, show (nI 5 = (3 : Int32)) = False from by decide, show (nI 5 = (4 : Int32)) = False from by decide, show (nI 5 = (5 : Int32)) = True from by decide, show (nI 5 = (10 : Int32)) = False from by decide, show ((8 : Int32) < nI 5) = False from by decide, if_true, if_false]
      rw [rx5, p_goods S4 ha' (by omega), bt_0, if_pos (p35 (by decide) (by decide)).symm]
    · refine ⟨c + 1, σ4, μ'', M', ?_, oo⟩
      simp only [jn_s, show (nI 6 = (0 : Int32)) = False from by decide, show (nI 6 = (1 : Int32)) = False from by decide, show (nI 6 = (2 : Int32)) = False from by decide, show (nI 6 = (3 : Int32)) = False from by decide, show (nI 6 = (4 : Int32)) = False from by decide, show (nI 6 = (5 : Int32)) = False from by decide, show (nI 6 = (10 : Int32)) = False from by decide, show ((8 : Int32) < nI 6) = False from by decide, if_true, if_false]
      rw [p_coins S4 ha', bt_0, if_pos (p68 (by decide) (by decide)).symm]
    · refine ⟨c + 1, σ4, μ'', M', ?_, oo⟩
      simp only [jn_s, show (nI 7 = (0 : Int32)) = False from by decide, show (nI 7 = (1 : Int32)) = False from by decide, show (nI 7 = (2 : Int32)) = False from by decide, show (nI 7 = (3 : Int32)) = False from by decide, show (nI 7 = (4 : Int32)) = False from by decide, show (nI 7 = (5 : Int32)) = False from by decide, show (nI 7 = (10 : Int32)) = False from by decide, show ((8 : Int32) < nI 7) = False from by decide, if_true, if_false]
      rw [p_coins S4 ha', bt_0, if_pos (p68 (by decide) (by decide)).symm]
    · refine ⟨c + 1, σ4, μ'', M', ?_, oo⟩
      simp only [jn_s, show (nI 8 = (0 : Int32)) = False from by decide, show (nI 8 = (1 : Int32)) = False from by decide, show (nI 8 = (2 : Int32)) = False from by decide, show (nI 8 = (3 : Int32)) = False from by decide, show (nI 8 = (4 : Int32)) = False from by decide, show (nI 8 = (5 : Int32)) = False from by decide, show (nI 8 = (10 : Int32)) = False from by decide, show ((8 : Int32) < nI 8) = False from by decide, if_true, if_false]
      rw [p_coins S4 ha', bt_0, if_pos (p68 (by decide) (by decide)).symm]
    · refine ⟨c + 1, σ4, μ'', M', ?_, oo⟩
      simp only [jn_s, show (nI 9 = (0 : Int32)) = False from by decide, show (nI 9 = (1 : Int32)) = False from by decide, show (nI 9 = (2 : Int32)) = False from by decide, show (nI 9 = (3 : Int32)) = False from by decide, show (nI 9 = (4 : Int32)) = False from by decide, show (nI 9 = (5 : Int32)) = False from by decide, show (nI 9 = (10 : Int32)) = False from by decide, show ((8 : Int32) < nI 9) = True from by decide, if_true, if_false]
    · refine ⟨c + 1, σ4, μ'', M', ?_, oo⟩
      simp only [jn_s, show (nI 10 = (0 : Int32)) = False from by decide, show (nI 10 = (1 : Int32)) = False from by decide, show (nI 10 = (2 : Int32)) = False from by decide, show (nI 10 = (3 : Int32)) = False from by decide, show (nI 10 = (4 : Int32)) = False from by decide, show (nI 10 = (5 : Int32)) = False from by decide, show (nI 10 = (10 : Int32)) = True from by decide, show ((8 : Int32) < nI 10) = True from by decide, if_true, if_false]
      rw [p_health S4 ha', bt_0, if_pos (p10 rfl).2.symm]
end DO
