theorem pk_next {n : Nat} (h : n < 2 ^ 30) : (nI (n + 1)).toNatClampNeg = n + 1 := N_nI (by omega)
theorem RW.join {σ μ : Mem} {n : Nat} (h : RW σ μ) (hn : n ≤ 3) (e : μ 0 5 = nI n) (hr : μ 10 n = 0) (a0 a1 a2 : Int32) : RW (mu (mu (mu (mu (mu (mu σ 9 n a0) 10 n a1) 11 n a2) 12 n 20) 13 n 0) 8 0 (nI (n + 1))) (mu (mu (mu (mu (mu μ 6 n a0) 7 n a1) 8 n a2) 9 n 20) 0 5 (nI (n + 1))) := by
  obtain ⟨⟨x1, x2, x3, x4, x5⟩, ⟨b0, b⟩, ⟨c1, c2, c3, c4⟩, ⟨d1, d2⟩, ⟨e0, ee⟩⟩ := h
  have hp : pcN μ = n := by unfold pcN; rw [e, N_nI (by omega)]
  rw [hp] at b
  unfold RW pcN qcN
  simp only [mu, upd, reduceIte, Nat.reduceEqDiff, Nat.zero_ne_one, Nat.one_ne_zero]
  rw [pk_next (by omega)]
  refine ⟨⟨x1, x2, x3, x4, x5⟩, ⟨trivial, fun i hi => ?_⟩, ⟨c1, c2, c3, c4⟩, ⟨d1, d2⟩, ⟨e0, ee⟩⟩
  by_cases hin : i = n
  · subst hin
    simp only [if_true]
    exact ⟨trivial, trivial, trivial, trivial, hr.symm⟩
  · simp only [hin, if_false]
    exact b i (by omega)
theorem IW.join {g r : Nat} {μ : Mem} {n : Nat} (h : IW g r μ) (hn : n ≤ 3) (e : μ 0 5 = nI n) {a q : Nat} (ha : a < 8) (hq : q ≤ 6) (a1 : Int32) : IW g r (mu (mu (mu (mu (mu μ 6 n (nI a)) 7 n a1) 8 n (nI q)) 9 n 20) 0 5 (nI (n + 1))) := by
  obtain ⟨⟨np, n1, n2, n3, n4⟩, h2, h3, h4, h5, h6, h7, h8, h9, h10, h11⟩ := h
  have hp : np = n := nI_inj (by omega) (by omega) (n2.symm.trans e)
  subst hp
  unfold IW
  simp only [mu, upd, reduceIte, Nat.reduceEqDiff, Nat.zero_ne_one, Nat.one_ne_zero]
  refine ⟨⟨np + 1, by omega, rfl, fun i hi => ?_, fun i i1 i2 => n4 i (by omega) i2⟩, h2, h3, h4, h5, h6, h7, h8, h9, h10, h11⟩
  by_cases hin : i = np
  · subst hin
    simp only [if_true]
    exact ⟨⟨a, ha, rfl⟩, ⟨q, hq, rfl⟩, ⟨20, by omega, by omega, rfl⟩⟩
  · simp only [hin, if_false]
    exact n3 i (by omega)
theorem op_join {c : Nat} {τ μ : Mem} (B : Beg c τ μ) (r d s : Int32) : OpR ok123 c τ μ 4 r d s 0 (f_X6_join μ r d s) (f_X5_join τ r d s) := by
  obtain ⟨hc, hI, h23, hR⟩ := B
  unfold f_X6_join f_X5_join
  rcases room_cases r with ⟨a, a1, rfl, na, ma⟩ | ⟨na, ma⟩
  · rcases range_cases d 0 200 (by decide) (by decide) with ⟨q, -, q2, rfl, n1, m1⟩ | ⟨n1, m1⟩
    · have m1 : f_X6_isIn (nI q) 0 200 = some 1 := m1
      have n1 : f_X5_needRange (nI q) 0 200 = some (0, 0) := n1
      rcases range_cases s 0 6 (by decide) (by decide) with ⟨u, -, u2, rfl, n2, m2⟩ | ⟨n2, m2⟩
      · have m2 : f_X6_isIn (nI u) 0 6 = some 1 := m2
        have n2 : f_X5_needRange (nI u) 0 6 = some (0, 0) := n2
        obtain ⟨p1, p2⟩ := hI.np
        obtain ⟨n, hn⟩ : ∃ n, n = pcN μ := ⟨_, rfl⟩
        rw [← hn] at p1 p2
        have ht : τ 8 0 = nI n := hR.2.1.1.trans p2
        by_cases h4 : n = 4
        · subst h4
          have z1 : (nI 4 = (4 : Int32)) = True := by decide
          have z2 : (nI 4 < (4 : Int32)) = False := by decide
          exact Or.inl ⟨3, 3, Or.inr (Or.inr ⟨rfl, rfl⟩), by simp only [ma, m1, m2, bd_s, i10, if_false, jn_s, p2, z1, can_ok, i30, i00, if_true, bd2_s], by simp only [na, n1, n2, bt_0, ht, z2, if_false]⟩
        · have z1 : (nI n = (4 : Int32)) = False := eq_false fun z => h4 (nI_inj (a := n) (b := 4) (by omega) (by omega) z)
          have z2 : (nI n < (4 : Int32)) = True := eq_true (nI_lt (a := n) (b := 4) (by omega) (by omega))
          have g4 : ∀ {α : Type} (x : Option α), gd (nI n) 4 x = x := fun x => gd_ok (by omega) (by decide)
          have hN : (nI n).toNatClampNeg = n := N_nI (by omega)
          have hr : μ 10 n = 0 := by
            obtain ⟨⟨np, k1, k2, -, k4⟩, -⟩ := id hI
            have : np = n := nI_inj (by omega) (by omega) (k2.symm.trans p2)
            exact k4 n (by omega) (by omega)
          obtain ⟨μ5, hμ5⟩ : ∃ μ5, μ5 = mu (mu (mu (mu (mu (mu μ 0 29 0) 6 n (nI a)) 7 n (nI q)) 8 n (nI u)) 9 n 20) 0 5 (nI (n + 1)) := ⟨_, rfl⟩
          have h5o : μ5 0 5 = nI (n + 1) := by rw [hμ5, mu_at]
          obtain ⟨μ'', e1, e2, e3, e4⟩ := make_end (μ := μ) (μ5 := μ5) (v := nI n) (K := 4) (b0 := nI a) (b1 := nI q) (b2 := nI u) (b3 := 0) hc (by decide) (by
              rw [hμ5]
              exact ((hI.thrown 0).mono (Nat.le_add_right c 1) (Nat.le_add_right _ 13)).join (by omega) (by rw [mu_pl (by decide)]; exact p2) a1 u2 _) (by rw [hμ5, mu_pl (by decide), mu_n (by decide), mu_n (by decide), mu_n (by decide), mu_n (by decide), mu_at]) (by rw [hμ5, mu_pl (by decide), mu_n (by decide), mu_n (by decide), mu_n (by decide), mu_n (by decide), mu_pl (by decide)]; exact h23) (fun k k1 k2 => by rw [hμ5, mu_n (by omega), mu_n (by omega), mu_n (by omega), mu_n (by omega), mu_n (by omega), mu_n (by omega)]) (fun σ hRs => by
            refine ⟨_, ?_, by rw [hμ5]; exact (hRs.thrown 0).join (by omega) (by rw [mu_pl (by decide)]; exact p2) (by rw [mu_n (by decide)]; exact hr) (nI a) (nI q) (nI u)⟩
            have hs8 : σ 8 0 = nI n := hRs.2.1.1.trans p2
            unfold f_X4_make f_X1_add
            rw [if_neg (by decide), if_neg (by decide), if_neg (by decide), if_neg (by decide), if_pos rfl]
            simp only [hs8, g4, hN, stp_s, mu_n (show (8 : Nat) ≠ 13 by decide), mu_n (show (8 : Nat) ≠ 12 by decide), mu_n (show (8 : Nat) ≠ 11 by decide), mu_n (show (8 : Nat) ≠ 10 by decide), mu_n (show (8 : Nat) ≠ 9 by decide), nI_1, bd2_s])
          have s1 : nI (n + 1) - 1 = nI n := pk_sub (a := n + 1) (b := 1) (by omega)
          refine Or.inr ⟨nI n, μ'', ?_, e2, ?_⟩
          · simp only [ma, m1, m2, bd_s, i10, if_false, jn_s, p2, z1, can_ok, i00, if_true, bd2_s, stp_s, mu_n (show (0 : Nat) ≠ 6 by decide), mu_n (show (0 : Nat) ≠ 7 by decide), mu_n (show (0 : Nat) ≠ 8 by decide), mu_n (show (0 : Nat) ≠ 9 by decide), mu_pl (show (5 : Nat) ≠ 29 by decide), g4, hN, nI_1]
            rw [← hμ5, e1, bd_s, e4 5 (by decide), h5o, s1]
          · simp only [na, n1, n2, bt_0, ht, z2, if_true]
      · have m2 : f_X6_isIn s 0 6 = some 0 := m2
        have n2 : f_X5_needRange s 0 6 = some (2, 0) := n2
        exact Or.inl ⟨2, 2, Or.inr (Or.inl ⟨rfl, rfl⟩), by simp only [ma, m1, m2, bd_s, jn_s, can_ok, i10, i20, i00, if_true, if_false, bd2_s], by simp only [na, n1, n2, bt_0, bt_e2]⟩
    · have m1 : f_X6_isIn d 0 200 = some 0 := m1
      have n1 : f_X5_needRange d 0 200 = some (2, 0) := n1
      exact Or.inl ⟨2, 2, Or.inr (Or.inl ⟨rfl, rfl⟩), by simp only [ma, m1, bd_s, jn_s, can_ok, i10, i20, i00, if_true, if_false, bd2_s], by simp only [na, n1, bt_0, bt_e2]⟩
  · exact Or.inl ⟨1, 1, Or.inl ⟨rfl, rfl⟩, by simp only [ma, bd_s, jn_s, can_ok, i10, i00, if_true, if_false, bd2_s], by simp only [na, bt_e1]⟩
theorem RW.quest {σ μ : Mem} {n : Nat} (h : RW σ μ) (hn : n ≤ 2) (e : μ 0 16 = nI n) (hr : μ 15 n = 0) (a0 : Int32) : RW (mu (mu (mu σ 19 n a0) 20 n 0) 18 0 (nI (n + 1))) (mu (mu μ 14 n a0) 0 16 (nI (n + 1))) := by
  obtain ⟨⟨x1, x2, x3, x4, x5⟩, ⟨b0, b⟩, ⟨c1, c2, c3, c4⟩, ⟨d1, d2⟩, ⟨e0, ee⟩⟩ := h
  have hp : qcN μ = n := by unfold qcN; rw [e, N_nI (by omega)]
  rw [hp] at ee
  unfold RW pcN qcN
  simp only [mu, upd, reduceIte, Nat.reduceEqDiff, Nat.zero_ne_one, Nat.one_ne_zero]
  rw [pk_next (by omega)]
  refine ⟨⟨x1, x2, x3, x4, x5⟩, ⟨b0, b⟩, ⟨c1, c2, c3, c4⟩, ⟨d1, d2⟩, ⟨trivial, fun i hi => ?_⟩⟩
  by_cases hin : i = n
  · subst hin
    simp only [if_true]
    refine ⟨trivial, hr.symm, fun a ha => ?_⟩
    rw [hr] at ha
    exact absurd ha (Nat.not_lt_zero a)
  · simp only [hin, if_false]
    exact ee i (by omega)
theorem IW.quest {g r : Nat} {μ : Mem} {n : Nat} (h : IW g r μ) (hn : n ≤ 2) (e : μ 0 16 = nI n) (a1 : Int32) : IW g r (mu (mu μ 14 n a1) 0 16 (nI (n + 1))) := by
  obtain ⟨h1, ⟨np, n1, n2, n3⟩, h3, h4, h5, h6, h7, h8, h9, h10, h11⟩ := h
  have hp : np = n := nI_inj (by omega) (by omega) (n2.symm.trans e)
  subst hp
  unfold IW
  simp only [mu, upd, reduceIte, Nat.reduceEqDiff, Nat.zero_ne_one, Nat.one_ne_zero]
  exact ⟨h1, ⟨np + 1, by omega, rfl, fun i i1 i2 => n3 i (by omega) i2⟩, h3, h4, h5, h6, h7, h8, h9, h10, h11⟩
theorem op_quest {c : Nat} {τ μ : Mem} (B : Beg c τ μ) (d : Int32) : OpR ok23 c τ μ 5 d 0 0 0 (f_X6_quest μ d) (f_X5_quest τ d) := by
  obtain ⟨hc, hI, h23, hR⟩ := B
  unfold f_X6_quest f_X5_quest
  rcases range_cases d 0 100 (by decide) (by decide) with ⟨q, -, q2, rfl, n1, m1⟩ | ⟨n1, m1⟩
  · have m1 : f_X6_isIn (nI q) 0 100 = some 1 := m1
    have n1 : f_X5_needRange (nI q) 0 100 = some (0, 0) := n1
    obtain ⟨p1, p2⟩ := hI.nq
    obtain ⟨n, hn⟩ : ∃ n, n = qcN μ := ⟨_, rfl⟩
    rw [← hn] at p1 p2
    have ht : τ 18 0 = nI n := hR.2.2.2.2.1.trans p2
    by_cases h3 : n = 3
    · subst h3
      have z1 : (nI 3 = (3 : Int32)) = True := by decide
      have z2 : (nI 3 < (3 : Int32)) = False := by decide
      exact Or.inl ⟨3, 2, Or.inr ⟨rfl, rfl⟩, by simp only [m1, bd_s, i10, if_false, jn_s, p2, z1, can_ok, i20, i00, if_true, bd2_s], by simp only [n1, bt_0, ht, z2, if_false]⟩
    · have z1 : (nI n = (3 : Int32)) = False := eq_false fun z => h3 (nI_inj (a := n) (b := 3) (by omega) (by omega) z)
      have z2 : (nI n < (3 : Int32)) = True := eq_true (nI_lt (a := n) (b := 3) (by omega) (by omega))
      have g3 : ∀ {α : Type} (x : Option α), gd (nI n) 3 x = x := fun x => gd_ok (by omega) (by decide)
      have hN : (nI n).toNatClampNeg = n := N_nI (by omega)
      have hr : μ 15 n = 0 := by
        obtain ⟨-, ⟨np, k1, k2, k4⟩, -⟩ := id hI
        have : np = n := nI_inj (by omega) (by omega) (k2.symm.trans p2)
        exact k4 n (by omega) (by omega)
      obtain ⟨μ5, hμ5⟩ : ∃ μ5, μ5 = mu (mu (mu μ 0 29 0) 14 n (nI q)) 0 16 (nI (n + 1)) := ⟨_, rfl⟩
      have h5o : μ5 0 16 = nI (n + 1) := by rw [hμ5, mu_at]
      obtain ⟨μ'', e1, e2, e3, e4⟩ := make_end (μ := μ) (μ5 := μ5) (v := nI n) (K := 5) (b0 := nI q) (b1 := 0) (b2 := 0) (b3 := 0) hc (by decide) (by
          rw [hμ5]
          exact ((hI.thrown 0).mono (Nat.le_add_right c 1) (Nat.le_add_right _ 13)).quest (by omega) (by rw [mu_pl (by decide)]; exact p2) _) (by rw [hμ5, mu_pl (by decide), mu_n (by decide), mu_at]) (by rw [hμ5, mu_pl (by decide), mu_n (by decide), mu_pl (by decide)]; exact h23) (fun k k1 k2 => by rw [hμ5, mu_n (by omega), mu_n (by omega), mu_n (by omega)]) (fun σ hRs => by
        refine ⟨_, ?_, by rw [hμ5]; exact (hRs.thrown 0).quest (by omega) (by rw [mu_pl (by decide)]; exact p2) (by rw [mu_n (by decide)]; exact hr) (nI q)⟩
        have hs8 : σ 18 0 = nI n := hRs.2.2.2.2.1.trans p2
        unfold f_X4_make f_X3_add
        rw [if_neg (by decide), if_neg (by decide), if_neg (by decide), if_neg (by decide), if_neg (by decide), if_pos rfl]
        simp only [hs8, g3, hN, stp_s, mu_n (show (18 : Nat) ≠ 20 by decide), mu_n (show (18 : Nat) ≠ 19 by decide), nI_1, bd2_s])
      have s1 : nI (n + 1) - 1 = nI n := pk_sub (a := n + 1) (b := 1) (by omega)
      refine Or.inr ⟨nI n, μ'', ?_, e2, ?_⟩
      · simp only [m1, bd_s, i10, if_false, jn_s, p2, z1, can_ok, i00, if_true, bd2_s, stp_s, mu_n (show (0 : Nat) ≠ 14 by decide), mu_pl (show (16 : Nat) ≠ 29 by decide), g3, hN, nI_1]
        rw [← hμ5, e1, bd_s, e4 16 (by decide), h5o, s1]
      · simp only [n1, bt_0, ht, z2, if_true]
  · have m1 : f_X6_isIn d 0 100 = some 0 := m1
    have n1 : f_X5_needRange d 0 100 = some (2, 0) := n1
    exact Or.inl ⟨2, 1, Or.inl ⟨rfl, rfl⟩, by simp only [m1, bd_s, jn_s, can_ok, i10, i20, i00, if_true, if_false, bd2_s], by simp only [n1, bt_e2]⟩
