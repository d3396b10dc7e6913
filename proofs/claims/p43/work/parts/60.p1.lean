/-! WHAT IS ASKED OF THE COUNCIL, by places: the flat world's numbers -/
theorem np_ok {g r : Nat} {τ μ : Mem} (hI : IW g r μ) (hR : RW τ μ) {p : Nat} (hp : p < pcN μ) : f_X5_needPlayer τ (nI p) = some (0, 0) := by
  have hm := hI.np
  have hs : τ 8 0 = nI (pcN μ) := hR.2.1.1.trans hm.2
  have hb := hm.1
  unfold f_X5_needPlayer f_X5_needPlayerIn_now
  simp only [jn_s, hs]
  rw [if_neg (nI_pos (by omega)), if_pos (nI_lt hp (by omega))]; rfl
theorem nq_ok {g r : Nat} {τ μ : Mem} (hI : IW g r μ) (hR : RW τ μ) {q : Nat} (hq : q < qcN μ) : f_X5_needQuest τ (nI q) = some (0, 0) := by
  have hm := hI.nq
  have hs : τ 18 0 = nI (qcN μ) := hR.2.2.2.2.1.trans hm.2
  have hb := hm.1
  unfold f_X5_needQuest
  simp only [jn_s, hs]
  rw [if_neg (nI_pos (by omega)), if_pos (nI_lt hq (by omega))]
theorem nr_ok : ∀ r, r < 8 → f_X5_needRoom (nI r) = some (0, 0) := by decide
theorem nd_ok : ∀ r, r < 4 → f_X5_needDirection (nI r) = some (0, 0) := by decide
theorem nk_ok : ∀ r, r < 5 → f_X5_needKind (nI r) = some (0, 0) := by decide
section ASK
variable {c : Nat} {τ μ : Mem} {M : Nat → Mem}
theorem SX.iw (S : SX c τ μ M) : IW c (13 * c) μ := S.1
theorem SX.rw' (S : SX c τ μ M) : RW τ μ := S.2.2.1
theorem p_turn (S : SX c τ μ M) : ∃ x, f_X5_turn τ = some x ∧ IsAct (μ 10) 0 (pcN μ) x := by
  have hnp := S.iw.np
  obtain ⟨z, z1, z2⟩ := next_ok (σ := τ) (np := pcN μ) (S.rw'.2.1.1.trans hnp.2) hnp.1
  exact ⟨z, by unfold f_X5_turn; rw [z2]; rfl, z1.congr fun j hj => ((S.rw'.2.1.2 j hj).2.2.2.2).symm⟩
theorem p_ready (S : SX c τ μ M) {p : Nat} (hp : p < pcN μ) : f_X5_readyAt τ (nI p) = some (0, μ 10 p) := by
  have hb := S.iw.np.1
  unfold f_X5_readyAt
  rw [np_ok S.iw S.rw' hp, bt_0, gd_ok (by omega) (by decide), N_nI (by omega), (S.rw'.2.1.2 p hp).2.2.2.2]
theorem p_room (S : SX c τ μ M) {p : Nat} (hp : p < pcN μ) : f_X5_roomOf τ (nI p) = some (0, μ 6 p) := by
  have hb := S.iw.np.1
  unfold f_X5_roomOf
  rw [np_ok S.iw S.rw' hp, bt_0, gd_ok (by omega) (by decide), N_nI (by omega), (S.rw'.2.1.2 p hp).1]
theorem p_coins (S : SX c τ μ M) {p : Nat} (hp : p < pcN μ) : f_X5_coinsOf τ (nI p) = some (0, μ 7 p) := by
  have hb := S.iw.np.1
  unfold f_X5_coinsOf
  rw [np_ok S.iw S.rw' hp, bt_0, gd_ok (by omega) (by decide), N_nI (by omega), (S.rw'.2.1.2 p hp).2.1]
theorem p_health (S : SX c τ μ M) {p : Nat} (hp : p < pcN μ) : f_X5_healthOf τ (nI p) = some (0, μ 9 p) := by
  have hb := S.iw.np.1
  unfold f_X5_healthOf
  rw [np_ok S.iw S.rw' hp, bt_0, gd_ok (by omega) (by decide), N_nI (by omega), (S.rw'.2.1.2 p hp).2.2.2.1]
theorem p_goods (S : SX c τ μ M) {p k : Nat} (hp : p < pcN μ) (hk : k < 5) : f_X5_goodsOf τ (nI p) (nI k) = some (0, μ 11 (p * 5 + k)) := by
  have hb := S.iw.np.1
  unfold f_X5_goodsOf f_X5_goodsAt
  rw [np_ok S.iw S.rw' hp, bt_0, nk_ok k hk, bt_0, n5r, bd_s, gd_ok (by omega) (by decide), N_nI (by omega), S.rw'.2.2.1.1 _ (by omega)]
theorem p_stage (S : SX c τ μ M) {p q : Nat} (hp : p < pcN μ) (hq : q < qcN μ) : f_X5_stageOf τ (nI p) (nI q) = some (0, μ 19 (p * 3 + q)) := by
  have hb := S.iw.np.1
  have hb2 := S.iw.nq.1
  unfold f_X5_stageOf f_X5_reachedAt
  rw [np_ok S.iw S.rw' hp, bt_0, nq_ok S.iw S.rw' hq, bt_0, n3r, bd_s, gd_ok (by omega) (by decide), N_nI (by omega), S.rw'.2.2.1.2.1 _ (by omega)]
theorem p_exit (S : SX c τ μ M) {a d : Nat} (ha : a < 8) (hd : d < 4) : f_X5_exit τ (nI a) (nI d) = some (0, μ 1 (a * 4 + d)) := by
  unfold f_X5_exit f_X2_exitFrom
  rw [nr_ok a ha, bt_0, nd_ok d hd, bt_0, n4r, gd_ok (by omega) (by decide), N_nI (by omega), bd_s, S.rw'.1.1 _ (by omega)]
theorem p_floor (S : SX c τ μ M) {a k : Nat} (ha : a < 8) (hk : k < 5) : f_X5_onFloor τ (nI a) (nI k) = some (0, μ 2 (a * 5 + k)) := by
  unfold f_X5_onFloor f_X5_goodsAt
  rw [nr_ok a ha, bt_0, nk_ok k hk, bt_0, n5r, bd_s, gd_ok (by omega) (by decide), N_nI (by omega), S.rw'.1.2.2.2.2 _ (by omega)]
theorem p_stock (S : SX c τ μ M) {a k : Nat} (ha : a < 8) (hk : k < 5) : f_X5_stockOf τ (nI a) (nI k) = some (0, μ 5 (a * 5 + k)) := by
  unfold f_X5_stockOf f_X5_goodsAt
  rw [nr_ok a ha, bt_0, nk_ok k hk, bt_0, n5r, bd_s, gd_ok (by omega) (by decide), N_nI (by omega), S.rw'.1.2.2.2.1 _ (by omega)]
theorem p_till (S : SX c τ μ M) {a : Nat} (ha : a < 8) : f_X5_tillOf τ (nI a) = some (0, μ 3 a) := by
  unfold f_X5_tillOf
  rw [nr_ok a ha, bt_0, gd_ok ha (by decide), N_nI (by omega), S.rw'.1.2.1 _ ha]
theorem p_purse (S : SX c τ μ M) : f_X5_purse τ = some (μ 0 14) := by
  unfold f_X5_purse; rw [S.rw'.2.2.2.1.1]
theorem p_calls (S : SX c τ μ M) : f_X5_calls τ = some (nI c) := by
  unfold f_X5_calls; rw [S.2.2.2.1]
theorem p_allCoins (S : SX c τ μ M) : f_X5_allCoins τ = some (μ 0 14 + sm (μ 7) 0 (pcN μ) + sm (tl (μ 3)) 0 8) := by
  have hI := S.iw
  have hR := S.rw'
  obtain ⟨p1, p2⟩ := hI.np
  have ht : τ 8 0 = nI (pcN μ) := hR.2.1.1.trans p2
  unfold f_X5_allCoins f_X1_sumOfCoins f_X2_sumOfTills
  rw [show (0 : Int32) = nI 0 from rfl, lc1 ht p1 _ (pcN μ) FU 0 _ (by omega) (by show _ ≤ 6000; omega), bd_s, lt1 _ 8 FU 0 _ (by omega) (by decide), bd_s, hR.2.2.2.1.1, show nI 0 = (0 : Int32) from rfl, Int32.zero_add, Int32.zero_add]
  rw [sm_congr (f := τ 10) (g := μ 7) (pcN μ) 0 fun j _ hj => (hR.2.1.2 j (by omega)).2.1, sm_congr (f := tl (τ 3)) (g := tl (μ 3)) 8 0 fun j _ hj => by unfold tl; rw [hR.1.2.1 j (by omega)]]
theorem p_allGoods (S : SX c τ μ M) {q : Nat} (q1 : q < 5) : f_X5_allGoods τ (nI q) = some (0, sm (fun i => μ 11 (i * 5 + q)) 0 (pcN μ) + sm (fun i => μ 2 (i * 5 + q) + μ 5 (i * 5 + q)) 0 8) := by
  have hI := S.iw
  have hR := S.rw'
  obtain ⟨p1, p2⟩ := hI.np
  have ht : τ 8 0 = nI (pcN μ) := hR.2.1.1.trans p2
  unfold f_X5_allGoods f_X1_sumOfGoods f_X2_sumOfGoods
  rw [nk_ok q q1, bt_0, show (0 : Int32) = nI 0 from rfl, lg1 ht p1 q1 _ (pcN μ) FU 0 _ (by omega) (by show _ ≤ 6000; omega), bd_s, lh1 q1 _ 8 FU 0 _ (by omega) (by decide), bd_s, show nI 0 = (0 : Int32) from rfl, Int32.zero_add, Int32.zero_add]
  rw [sm_congr (f := fun i => τ 14 (i * 5 + q)) (g := fun i => μ 11 (i * 5 + q)) (pcN μ) 0 fun j _ hj => hR.2.2.1.1 _ (by omega), sm_congr (f := fun i => τ 6 (i * 5 + q) + τ 5 (i * 5 + q)) (g := fun i => μ 2 (i * 5 + q) + μ 5 (i * 5 + q)) 8 0 fun j _ hj => by
    show τ 6 (j * 5 + q) + τ 5 (j * 5 + q) = μ 2 (j * 5 + q) + μ 5 (j * 5 + q)
    rw [hR.1.2.2.2.2 _ (by omega), hR.1.2.2.2.1 _ (by omega)]]
/-- a word that is kept; too many -/
theorem p_heard0 (S : SX c τ μ M) {p : Nat} (hp : p < pcN μ) {w : Nat} (w1 : 1 ≤ w) (w3 : w ≤ 6) (w4 : μ 12 p = nI w) : f_X5_heard τ (nI p) 0 = some (0, μ 13 (p * 6)) := by
  have hb := S.iw.np.1
  have hw' : τ 17 p = nI w := (S.rw'.2.2.1.2.2.1 p (by omega)).trans w4
  unfold f_X5_heard
  rw [np_ok S.iw S.rw' hp, bt_0, jn_s, if_neg (by decide), gd_ok (by omega) (by decide), N_nI (by omega), hw', show (0 : Int32) = nI 0 from rfl, if_pos (nI_lt (a := 0) (b := w) (by omega) (by omega)), n6r, gd_ok (by omega) (by decide), N_nI (by omega), S.rw'.2.2.1.2.2.2 p 0 (by omega) (by rw [w4, N_nI (by omega)]; omega)]
  rfl
theorem p_heard6 (S : SX c τ μ M) {p : Nat} (hp : p < pcN μ) : f_X5_heard τ (nI p) 6 = some (1, 0) := by
  have hb := S.iw.np.1
  obtain ⟨-, -, -, -, -, -, -, -, -, h10, -⟩ := id S.iw
  obtain ⟨w', w3, w4⟩ := h10 p (by omega)
  have hw' : τ 17 p = nI w' := (S.rw'.2.2.1.2.2.1 p (by omega)).trans w4
  unfold f_X5_heard
  rw [np_ok S.iw S.rw' hp, bt_0, jn_s, if_neg (by decide), gd_ok (by omega) (by decide), N_nI (by omega), hw', if_neg (show ¬ (6 : Int32) < nI w' from i32_le_lt.mpr (nI_le (a := w') (b := 6) w3 (by decide)))]
/-- the same council, with another world for the past, and steps -/
theorem SX.t (S : SX c τ μ M) {τ' : Mem} (t1 : ∀ k, k < 24 → k ≠ 7 → τ' k = τ k) (t2 : τ' 49 = τ 49) (t3 : τ' 50 = τ 50) : SX c τ' μ M := S.same t1 t2 t3 WSm.rf rfl fun _ _ _ => rfl
theorem p_turnAfter (S : SX c τ μ M) (hc : c ≤ 512) {N : Nat} (hN : N ≤ c) : ∃ τ', f_X5_turnAfter τ (nI N) = some (0, μ 21 N, τ') ∧ SX c τ' μ M := by
  unfold f_X5_turnAfter
  rcases past_ok S hc (nI N) with ⟨N', n1, hx, -, τ', t1, t2, t3⟩ | ⟨m1, t1⟩
  · have := nI_inj (a := N) (b := N') (by omega) (by omega) hx
    subst this
    obtain ⟨-, -, -, -, -, h6, -, -⟩ := id S
    obtain ⟨⟨-, a2, -⟩, np, np1, np2⟩ := h6 N n1
    have hpc : pcN (M N) = np := by unfold pcN; rw [np2, N_nI (by omega)]
    obtain ⟨z, z1, z2⟩ := next_ok (σ := sh τ') (np := np) (t2.2.1.1.trans np2) np1
    rw [hpc] at a2
    have hz : z = μ 21 N := (z1.congr (fun j hj => ((t2.2.1.2 j (by rw [hpc]; exact hj)).2.2.2.2).symm)).eq a2
    exact ⟨τ', by rw [t3, bt3_0, z2, bd_s, hz], S.t (fun k hk _ => t1 k (Or.inl hk)) (t1 49 (by omega)) (t1 50 (by omega))⟩
  · exfalso
    have h2 := S.2.1
    rw [h2] at m1
    rcases isIn_ok (nI N) 0 c (by omega) (by omega) with ⟨-, -, -, -, -, -, n5⟩ | ⟨n3, -⟩
    · rw [show nI 0 = (0 : Int32) from rfl] at n5
      rw [n5] at m1; cases m1
    · rcases n3 with q | q
      · exact absurd q (nI_pos (by omega))
      · exact absurd q (i32_le_lt.mpr (nI_le hN (by omega)))
theorem p_turnAfterX (S : SX c τ μ M) (hc : c ≤ 512) : f_X5_turnAfter τ (nI (c + 1)) = some (1, 0, τ) := by
  unfold f_X5_turnAfter
  rcases past_ok S hc (nI (c + 1)) with ⟨N', n1, hx, -⟩ | ⟨-, t1⟩
  · exact absurd (nI_inj (by omega) (by omega) hx) (by omega)
  · rw [t1]; rfl
theorem past_in (S : SX c τ μ M) (hc : c ≤ 512) {N : Nat} (hN : N ≤ c) : ∃ τ', (∀ k, k < 24 ∨ 48 ≤ k → τ' k = τ k) ∧ RW (sh τ') (M N) ∧ f_X5_worldAfter τ (nI N) = some (0, 0, τ') := by
  rcases past_ok S hc (nI N) with ⟨N', n1, hx, -, h⟩ | ⟨m1, -⟩
  · have := nI_inj (a := N) (b := N') (by omega) (by omega) hx
    subst this
    exact h
  · exfalso
    have h2 := S.2.1
    rw [h2] at m1
    rcases isIn_ok (nI N) 0 c (by omega) (by omega) with ⟨-, -, -, -, -, -, n5⟩ | ⟨n3, -⟩
    · rw [show nI 0 = (0 : Int32) from rfl] at n5
      rw [n5] at m1; cases m1
    · rcases n3 with q | q
      · exact absurd q (nI_pos (by omega))
      · exact absurd q (i32_le_lt.mpr (nI_le hN (by omega)))
/-- what was: np players then -/
theorem p_past (S : SX c τ μ M) (hc : c ≤ 512) {N : Nat} (hN : N ≤ c) : ∃ np, np ≤ 4 ∧ μ 20 N = nI np ∧ ∀ p, p < 4 →
    (p < np → (∃ τ', f_X5_roomAfter τ (nI N) (nI p) = some (0, μ 22 (N * 4 + p), τ') ∧ SX c τ' μ M) ∧ ∃ τ', f_X5_coinsAfter τ (nI N) (nI p) = some (0, μ 23 (N * 4 + p), τ') ∧ SX c τ' μ M) ∧
    (np ≤ p → (∃ τ', f_X5_roomAfter τ (nI N) (nI p) = some (1, 0, τ') ∧ SX c τ' μ M) ∧ ∃ τ', f_X5_coinsAfter τ (nI N) (nI p) = some (1, 0, τ') ∧ SX c τ' μ M) := by
  obtain ⟨τ', t1, t2, t3⟩ := past_in S hc hN
  obtain ⟨-, -, -, -, -, h6, -, -⟩ := id S
  obtain ⟨⟨a1, -, a3⟩, np, np1, np2⟩ := h6 N hN
  have hpc : pcN (M N) = np := by unfold pcN; rw [np2, N_nI (by omega)]
  have h32 : τ' 32 0 = nI np := t2.2.1.1.trans np2
  have hS' : SX c τ' μ M := S.t (fun k hk _ => t1 k (Or.inl hk)) (t1 49 (by omega)) (t1 50 (by omega))
  refine ⟨np, np1, a1.trans np2, fun p p4 => ⟨fun hp => ?_, fun hp => ?_⟩⟩
  · have hn : f_X5_needPlayerIn_past τ' (nI p) = some (0, 0) := by
      unfold f_X5_needPlayerIn_past
      rw [h32, jn_s, if_neg (nI_pos (by omega)), if_pos (nI_lt hp (by omega))]
    have hr := t2.2.1.2 p (by rw [hpc]; exact hp)
    have hh := a3 p (by rw [hpc]; exact hp)
    refine ⟨⟨τ', ?_, hS'⟩, ⟨τ', ?_, hS'⟩⟩
    · unfold f_X5_roomAfter
      rw [t3, bt3_0, hn, bt_0, gd_ok p4 (by decide), N_nI (by omega), hh.1, show τ' 33 p = M N 6 p from hr.1]
    · unfold f_X5_coinsAfter
      rw [t3, bt3_0, hn, bt_0, gd_ok p4 (by decide), N_nI (by omega), hh.2, show τ' 34 p = M N 7 p from hr.2.1]
  · have hn : f_X5_needPlayerIn_past τ' (nI p) = some (1, 0) := by
      unfold f_X5_needPlayerIn_past
      rw [h32, jn_s, if_neg (nI_pos (by omega)), if_neg (i32_le_lt.mpr (nI_le hp (by omega)))]
    refine ⟨⟨τ', ?_, hS'⟩, ⟨τ', ?_, hS'⟩⟩
    · unfold f_X5_roomAfter
      rw [t3, bt3_0, hn, bt_e1]
    · unfold f_X5_coinsAfter
      rw [t3, bt3_0, hn, bt_e1]
end ASK
