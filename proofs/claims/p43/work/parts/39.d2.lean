theorem op_stage {c : Nat} {τ μ : Mem} (B : Beg c τ μ) (x0 x1 x2 x3 : Int32) : OpR ok123 c τ μ 6 x0 x1 x2 x3 (f_X6_stage μ x0 x1 x2 x3) (f_X5_stage τ x0 x1 x2 x3) := by
  obtain ⟨hc, hI, h23, hR⟩ := B
  obtain ⟨y1, t1, t2⟩ := tgt_ok x1 x2
  obtain ⟨y4, m1, m2⟩ := meas_ok x1 x3
  unfold f_X6_stage f_X5_stage
  rw [t2, m2]
  have hnp := hI.np
  rcases quest_cases hI hR x0 with ⟨q, q1, rfl, nq, mq⟩ | ⟨nq, mq⟩
  · have q3 : q < 3 := by have := hI.nq.1; omega
    have g3 : ∀ {α : Type} (x : Option α), gd (nI q) 3 x = x := fun x => gd_ok q3 (by decide)
    have hN : (nI q).toNatClampNeg = q := N_nI (by omega)
    obtain ⟨yb, b1, b2⟩ := stage_loop hnp.2 hnp.1 q3 mq (fun (x17 : Int32) (σ18 : Mem) =>
bd (f_X6_isQuest σ18 (nI q)) fun v19 =>
jn (fun (y20 : Int32) (σ21 : Mem) =>
bd2 (f_X6_can σ21 y20) fun v23 σ24 =>
if v23 = 0 then (
some (0, σ24))
else (
gd (nI q) 3 <|
gd ((4 * (nI q)) + (σ24 15 (nI q).toNatClampNeg)) 12 <| stp (mu σ24 16 ((4 * (nI q)) + (σ24 15 (nI q).toNatClampNeg)).toNatClampNeg x1) fun σ26 =>
gd ((4 * (nI q)) + (σ24 15 (nI q).toNatClampNeg)) 12 <| stp (mu σ26 17 ((4 * (nI q)) + (σ24 15 (nI q).toNatClampNeg)).toNatClampNeg x2) fun σ27 =>
gd ((4 * (nI q)) + (σ24 15 (nI q).toNatClampNeg)) 12 <| stp (mu σ27 18 ((4 * (nI q)) + (σ24 15 (nI q).toNatClampNeg)).toNatClampNeg x3) fun σ28 =>
gd (nI q) 3 <|
gd (nI q) 3 <| stp (mu σ28 15 (nI q).toNatClampNeg ((σ28 15 (nI q).toNatClampNeg) + 1)) fun σ29 =>
bd (f_X6_keep σ29) fun σ30 =>
gd (nI q) 3 <|
some ((σ30 15 (nI q).toNatClampNeg), σ30))) fun (J22 : Int32 → Mem → Option (Int32 × Mem)) =>
jn (fun (σ31 : Mem) =>
J22 1 σ31) fun (J32 : Mem → Option (Int32 × Mem)) =>
if v19 = 0 then (
J32 σ18)
else (
if y1 = 0 then (
J32 σ18)
else (
if y4 = 0 then (
J22 2 σ18)
else (
gd (nI q) 3 <|
jn (fun (σ36 : Mem) =>
J22 3 σ36) fun (J37 : Mem → Option (Int32 × Mem)) =>
if (σ18 15 (nI q).toNatClampNeg) = 4 then (
J37 σ18)
else (
if x17 = 0 then (
J22 0 σ18)
else (
J37 σ18)))))) x1 x2 x3 y1 y4 FU 0 0 (Nat.zero_le _) (by show pcN μ + 1 ≤ 0 + 6000; omega) (Or.inl ⟨rfl, fun p hp => by omega⟩)
    rw [show (0 : Int32) = nI 0 from rfl] at b2 ⊢
    rw [b2]
    rw [show nI 0 = (0 : Int32) from rfl]
    rcases t1 with ⟨rfl, t1⟩ | ⟨rfl, t1, t3⟩
    · exact Or.inl ⟨1, 1, Or.inl ⟨rfl, rfl⟩, by simp only [mq, bd_s, jn_s, i10, i00, if_true, if_false, can_ok, bd2_s], by simp only [nq, t1, bt_0, bt_e1]⟩
    · rcases m1 with ⟨rfl, m1⟩ | ⟨rfl, ⟨k, k1, rfl⟩, n0, m1⟩
      · refine Or.inl ⟨2, 2, Or.inr (Or.inl ⟨rfl, rfl⟩), by simp only [mq, bd_s, jn_s, i10, i20, i00, if_true, if_false, can_ok, bd2_s], ?_⟩
        simp only [nq, t1, bt_0]
        rcases range_cases x1 0 3 (by decide) (by decide) with ⟨u, -, -, -, n1, -⟩ | ⟨n1, -⟩
        · have n1 : f_X5_needRange x1 0 3 = some (0, 0) := n1
          rw [n1, bt_0] at m1
          rw [n1, bt_0, m1, bt_e2]
        · have n1 : f_X5_needRange x1 0 3 = some (2, 0) := n1
          rw [n1, bt_e2]
      · obtain ⟨-, -, hI3, -⟩ := id hI
        obtain ⟨L, l1, l2, -⟩ := hI3 q q3
        have hl : τ 20 q = nI L := (hR.2.2.2.2.2 q q1).2.1.trans l2
        by_cases hL : L = 4
        · subst hL
          have z1 : (nI 4 = (4 : Int32)) = True := by decide
          have z2 : (nI 4 < (4 : Int32)) = False := by decide
          exact Or.inl ⟨3, 3, Or.inr (Or.inr ⟨rfl, rfl⟩), by simp only [mq, bd_s, jn_s, i10, i30, i00, if_true, if_false, g3, hN, l2, z1, can_ok, bd2_s], by simp only [nq, t1, n0, m1, bt_0, g3, hN, hl, z2, if_false]⟩
        · have z1 : (nI L = (4 : Int32)) = False := eq_false fun z => hL (nI_inj (a := L) (b := 4) (by omega) (by omega) z)
          have z2 : (nI L < (4 : Int32)) = True := eq_true (nI_lt (a := L) (b := 4) (by omega) (by omega))
          obtain ⟨yc, c1, c2⟩ := begun_ok (hR.2.1.1.trans hnp.2) hnp.1 q3 hR.2.2.1.2.1
          have hyc := Bgn.eq c1 b1
          subst hyc
          rcases b1 with ⟨rfl, -⟩ | ⟨rfl, -⟩
          · have hj : q * 4 + L < 12 := by omega
            have g12 : ∀ {α : Type} (x : Option α), gd (nI (q * 4 + L)) 12 x = x := fun x => gd_ok hj (by decide)
            have hNj : (nI (q * 4 + L)).toNatClampNeg = q * 4 + L := N_nI (by omega)
            obtain ⟨μ5, hμ5⟩ : ∃ μ5, μ5 = mu (mu (mu (mu (mu μ 0 29 0) 16 (q * 4 + L) (nI k)) 17 (q * 4 + L) x2) 18 (q * 4 + L) x3) 15 q (nI (L + 1)) := ⟨_, rfl⟩
            obtain ⟨μ'', e1, e2, e3, e4⟩ := make_end (μ := μ) (μ5 := μ5) (v := nI (L + 1)) (K := 6) (b0 := nI q) (b1 := nI k) (b2 := x2) (b3 := x3) hc (by decide) (by
                rw [hμ5]
                exact ((hI.thrown 0).mono (Nat.le_add_right c 1) (Nat.le_add_right _ 13)).stage (by unfold qcN; rw [mu_pl (by decide)]; exact q1) (by rw [mu_n (by decide)]; exact l2) (by omega) k1 (fun hk => t3 (by rw [hk]; rfl)) x3) (by rw [hμ5, mu_n (by decide), mu_n (by decide), mu_n (by decide), mu_n (by decide), mu_at]) (by rw [hμ5, mu_n (by decide), mu_n (by decide), mu_n (by decide), mu_n (by decide), mu_pl (by decide)]; exact h23) (fun k k1 k2 => by rw [hμ5, mu_n (by omega), mu_n (by omega), mu_n (by omega), mu_n (by omega), mu_n (by omega)]) (fun σ hRs => by
              refine ⟨_, ?_, by rw [hμ5]; exact (hRs.thrown 0).stage (by rw [mu_n (by decide)]; exact l2) (by omega) (nI k) x2 x3⟩
              have hs8 : σ 20 q = nI L := (hRs.2.2.2.2.2 q q1).2.1.trans l2
              unfold f_X4_make f_X3_addStage f_X5_stageAt
              rw [if_neg (by decide), if_neg (by decide), if_neg (by decide), if_neg (by decide), if_neg (by decide), if_neg (by decide), if_pos rfl]
              simp only [g3, hN, hs8, n4r, bd_s, g12, hNj, stp_s, mu_n (show (20 : Nat) ≠ 23 by decide), mu_n (show (20 : Nat) ≠ 22 by decide), mu_n (show (20 : Nat) ≠ 21 by decide), nI_1, bd2_s, mu_at])
            refine Or.inr ⟨nI (L + 1), μ'', ?_, e2, ?_⟩
            · simp only [mq, bd_s, i10, if_false, jn_s, l2, z1, can_ok, i00, if_true, bd2_s, stp_s, g3, hN, n4l, mu_n (show (15 : Nat) ≠ 0 by decide), mu_n (show (15 : Nat) ≠ 16 by decide), mu_n (show (15 : Nat) ≠ 17 by decide), mu_n (show (15 : Nat) ≠ 18 by decide), g12, hNj, nI_1]
              rw [← hμ5, e1, bd_s, e3 15 (by decide) (by decide) (by decide) (by decide) (by decide), hμ5, mu_at]
            · simp only [nq, t1, n0, m1, bt_0, g3, hN, hl, z2, if_true, c2, bd_s, i00]
          · exact Or.inl ⟨3, 3, Or.inr (Or.inr ⟨rfl, rfl⟩), by simp only [mq, bd_s, jn_s, i10, i30, i00, if_true, if_false, g3, hN, l2, z1, can_ok, bd2_s], by simp only [nq, t1, n0, m1, bt_0, g3, hN, hl, z2, if_true, if_false, c2, bd_s, i10]⟩
  · rw [show FU = 5999 + 1 from rfl, L_X6_stage_103]
    exact Or.inl ⟨1, 1, Or.inl ⟨rfl, rfl⟩, by
      by_cases h : μ 0 5 ≤ 0
      · simp only [h, mq, bd_s, jn_s, i10, i00, if_true, if_false, can_ok, bd2_s]
      · simp only [h, mq, bd_s, jn_s, i10, i00, if_true, if_false, can_ok, bd2_s], by simp only [nq, bt_e1]⟩
