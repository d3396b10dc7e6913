theorem company_cases {g r a q : Nat} {σ μ : Mem} (hI : IW g r μ) (hR : RW σ μ) (ha : a < pcN μ) (hq : q < pcN μ) : (q ≠ a ∧ μ 6 q = μ 6 a ∧ f_X5_needCompany σ (nI a) (nI q) = some (0, 0) ∧ f_X6_isAway μ (nI a) (nI q) = some 0) ∨ (f_X5_needCompany σ (nI a) (nI q) = some (3, 0) ∧ f_X6_isAway μ (nI a) (nI q) = some 1) := by
  have hnp := hI.np
  unfold f_X5_needCompany f_X6_isAway
  simp only [jn_s, nI_m1 (show a < 2 ^ 31 by omega), if_false]
  by_cases e : nI q = nI a
  · rw [if_pos e, if_pos e]; exact Or.inr ⟨rfl, rfl⟩
  · rw [if_neg e, if_neg e]
    simp only [gd_ok (show q < 4 by omega) (show 4 < 2 ^ 31 by decide), gd_ok (show a < 4 by omega) (show 4 < 2 ^ 31 by decide), N_nI (show q < 2 ^ 31 by omega), N_nI (show a < 2 ^ 31 by omega), (hR.2.1.2 a ha).1, (hR.2.1.2 q hq).1]
    by_cases e2 : μ 6 q = μ 6 a
    · rw [if_pos e2, if_pos e2]; exact Or.inl ⟨fun h => e (by rw [h]), e2, rfl, rfl⟩
    · rw [if_neg e2, if_neg e2]; exact Or.inr ⟨rfl, rfl⟩
theorem away_m1 (μ : Mem) (x : Int32) : f_X6_isAway μ (-1) x = some 1 := by
  unfold f_X6_isAway
  rw [jn_s, if_pos rfl]
theorem op_give {c : Nat} {τ μ : Mem} (B : Beg c τ μ) (x d : Int32) : OpR ok13 c τ μ 14 x d 0 0 (f_X6_give μ x d) (f_X5_give τ x d) := by
  obtain ⟨hc, hI, h23, hR⟩ := B
  unfold f_X6_give f_X5_give
  rcases player_cases hI hR x with ⟨pl, p1, rfl, pn, pm⟩ | ⟨pn, pm⟩
  · rcases kind_cases d with ⟨q, q1, rfl, n1, m1⟩ | ⟨n1, m1⟩
    · rcases actor_cases hI hR with ⟨a1, a2, a3⟩ | ⟨a, ha, a1, a2, a3, a4⟩
      · exact Or.inl ⟨3, 2, Or.inr ⟨rfl, rfl⟩, by simp only [a3, bd_s, pm, m1, i10, if_false, jn_s, away_m1, if_true, can_ok, i20, bd2_s, i00], by simp only [pn, n1, bt_0, a2, bt_e3]⟩
      ·
        have hnp := hI.np
        obtain ⟨⟨rm, rm1, rm2⟩, -⟩ := hI.pl ha
        have hrs : τ 9 a = nI rm := (hR.2.1.2 a ha).1.trans rm2
        have g4 : ∀ {α : Type} (x : Option α), gd (nI a) 4 x = x := fun x => gd_ok (by omega) (by decide)
        have hNa : (nI a).toNatClampNeg = a := N_nI (by omega)
        have hNr : (nI rm).toNatClampNeg = rm := N_nI (by omega)
        have g8 : ∀ {α : Type} (x : Option α), gd (nI rm) 8 x = x := fun x => gd_ok rm1 (by decide)
        have am1 : (nI a = -1) = False := nI_m1 (show a < 2 ^ 31 by omega)
        have hf : rm * 5 + q < 40 := by omega
        have gf : ∀ {α : Type} (x : Option α), gd (nI (rm * 5 + q)) 40 x = x := fun x => gd_ok hf (by decide)
        have hNf : (nI (rm * 5 + q)).toNatClampNeg = rm * 5 + q := N_nI (by omega)
        have hg : a * 5 + q < 20 := by omega
        have gg : ∀ {α : Type} (x : Option α), gd (nI (a * 5 + q)) 20 x = x := fun x => gd_ok hg (by decide)
        have hNg : (nI (a * 5 + q)).toNatClampNeg = a * 5 + q := N_nI (by omega)
        obtain ⟨-, -, -, -, -, hI6, hI7, hI8, -⟩ := id hI
        obtain ⟨F, F1, F2⟩ := hI6 _ hf
        obtain ⟨S, S1, S2⟩ := hI7 _ hf
        obtain ⟨G, G1, G2⟩ := hI8 _ hg
        have sF : ∀ σ, RW σ μ → σ 6 (rm * 5 + q) = nI F := fun σ h => (h.1.2.2.2.2 _ hf).trans F2
        have sS : ∀ σ, RW σ μ → σ 5 (rm * 5 + q) = nI S := fun σ h => (h.1.2.2.2.1 _ hf).trans S2
        have sP : ∀ σ, RW σ μ → σ 4 (rm * 5 + q) = μ 4 (rm * 5 + q) := fun σ h => h.1.2.2.1 _ hf
        have sG : ∀ σ, RW σ μ → σ 14 (a * 5 + q) = nI G := fun σ h => (h.2.2.1.1 _ hg).trans G2
        have sT : ∀ σ, RW σ μ → σ 3 rm = μ 3 rm := fun σ h => h.1.2.1 _ rm1
        have sC : ∀ σ, RW σ μ → σ 10 a = μ 7 a := fun σ h => (h.2.1.2 a ha).2.1
        have sR : ∀ σ, RW σ μ → σ 9 a = nI rm := fun σ h => (h.2.1.2 a ha).1.trans rm2
        have sY : ∀ σ, RW σ μ → σ 13 a = μ 10 a := fun σ h => (h.2.1.2 a ha).2.2.2.2
        rcases company_cases hI hR ha p1 with ⟨c1, c2, c3, c4⟩ | ⟨c3, c4⟩
        · by_cases hz : G = 0
          · subst hz
            have z0 : (nI 0 = (0 : Int32)) = True := by decide
            have z1 : ((0 : Int32) < nI 0) = False := by decide
            exact Or.inl ⟨3, 2, Or.inr ⟨rfl, rfl⟩, by simp only [a3, bd_s, pm, m1, c4, i10, i00, if_true, if_false, jn_s, n5l, gg, hNg, G2, z0, can_ok, i20, bd2_s], by simp only [pn, n1, bt_0, a2, c3, f_X5_needOwned, f_X5_goodsAt, n5r, bd_s, gg, hNg, sG τ hR, z1, if_false, bt_e3]⟩
          · have z0 : (nI G = (0 : Int32)) = False := eq_false fun h => hz (nI_inj (a := G) (b := 0) (by omega) (by omega) h)
            have z1 : ((0 : Int32) < nI G) = True := eq_true (nI_lt (a := 0) (by omega) (by omega))
            have zm : nI G - 1 = nI (G - 1) := pk_sub (a := G) (b := 1) (by omega)
            have zc : nI G + (-1) = nI (G - 1) := by rw [← Int32.sub_eq_add_neg]; exact zm
            have hgp : pl * 5 + q < 20 := by omega
            have ggp : ∀ {α : Type} (x : Option α), gd (nI (pl * 5 + q)) 20 x = x := fun x => gd_ok hgp (by decide)
            have hNgp : (nI (pl * 5 + q)).toNatClampNeg = pl * 5 + q := N_nI (by omega)
            have hne : pl * 5 + q ≠ a * 5 + q := by omega
            have hne' : a * 5 + q ≠ pl * 5 + q := by omega
            obtain ⟨P, P1, P2⟩ := hI8 _ hgp
            have sQ : ∀ σ, RW σ μ → σ 14 (pl * 5 + q) = nI P := fun σ h => (h.2.2.1.1 _ hgp).trans P2
            obtain ⟨μ5, hμ5⟩ : ∃ μ5, μ5 = mu (mu (mu μ 0 29 0) 11 (a * 5 + q) (nI (G - 1))) 11 (pl * 5 + q) (nI (P + 1)) := ⟨_, rfl⟩
            obtain ⟨μ'', e1, e2, e3, e4, e5, e6⟩ := act_end (a := a) (t := 1) (μ := μ) (μ5 := μ5) (w := -1) (b := -1) (K := 14) (b0 := nI pl) (b1 := nI q) (b2 := 0) (b3 := 0) (vf := fun _ => nI (G - 1)) hc ha (by rw [hμ5]; exact (((hI.thrown 0).mono (Nat.le_add_right c 1) (Nat.le_add_right _ 10)).goods _ ⟨G - 1, by omega, rfl⟩).goods _ ⟨P + 1, by omega, rfl⟩) (by unfold pcN; rw [hμ5, mu_n (by decide), mu_n (by decide), mu_pl (by decide)]) (by rw [hμ5, mu_n (by decide), mu_n (by decide), mu_at]) (by rw [hμ5, mu_n (by decide), mu_n (by decide), mu_pl (by decide)]; exact h23) (fun k k1 k2 => by rw [hμ5, mu_n (by omega), mu_n (by omega), mu_n (by omega)]) (by omega) (fun σ hRs => by
              refine ⟨mu (mu (mu σ 14 (pl * 5 + q) (nI (P + 1))) 14 (a * 5 + q) (nI (G - 1))) 13 a (σ 13 a + nI 1), ?_, fun σ' hq => play_give (v := nI (G - 1)) (by omega) (next_of hI a4 hRs) ?_ hq⟩
              · have := (((hRs.thrown 0).goods (pl * 5 + q) (nI (P + 1))).goods (a * 5 + q) (nI (G - 1))).ready a (σ 13 a + nI 1)
                rw [hμ5, mu_n (show (10 : Nat) ≠ 11 by decide), mu_n (show (10 : Nat) ≠ 11 by decide), mu_n (show (10 : Nat) ≠ 0 by decide), ← sY σ hRs, mu_commP hne']
                exact this
              · unfold f_X4_perform f_X1_addGoods f_X5_goodsAt
                rw [g4, if_neg (by decide), if_neg (by decide), if_neg (by decide), if_neg (by decide), if_neg (by decide), if_pos rfl]
                simp only [hNa, n5r, bd_s, bd2_s, gg, ggp, hNg, hNgp, stp_s, mu_at, sQ σ hRs, sG σ hRs, nI_1, mu_pl hne', zc])
            refine Or.inr ⟨nI (G - 1), μ'', ?_, ⟨e3, e4, e5, e6⟩, ?_⟩
            · simp only [a3, bd_s, pm, m1, c4, i10, i00, if_true, if_false, jn_s, n5l, gg, hNg, G2, z0, can_ok, bd2_s, stp_s, ggp, hNgp, mu_n (show (11 : Nat) ≠ 0 by decide), zm, mu_pl hne, P2, nI_1]
              rw [← hμ5, show f_X6_ends μ5 (nI a) 1 (-1) (-1) = some μ'' from e1, bd_s, e2.1 11 (by decide) (by decide) (by decide) (by decide) (by decide) (by decide) (by decide) (by decide), hμ5, mu_pl hne', mu_at]
            · simp only [pn, n1, bt_0, a2, c3, f_X5_needOwned, f_X5_goodsAt, n5r, bd_s, gg, hNg, sG τ hR, z1, if_true]
        · exact Or.inl ⟨3, 2, Or.inr ⟨rfl, rfl⟩, by simp only [a3, bd_s, pm, m1, c4, i10, i00, if_true, if_false, jn_s, can_ok, i20, bd2_s], by simp only [pn, n1, bt_0, a2, c3, bt_e3]⟩
    · exact Or.inl ⟨1, 1, Or.inl ⟨rfl, rfl⟩, by
        rcases actor_cases hI hR with ⟨-, -, a3⟩ | ⟨a, -, -, -, a3, -⟩ <;> simp only [a3, bd_s, pm, m1, jn_s, can_ok, i10, i00, if_true, if_false, bd2_s], by simp only [pn, n1, bt_0, bt_e1]⟩
  · exact Or.inl ⟨1, 1, Or.inl ⟨rfl, rfl⟩, by
      rcases actor_cases hI hR with ⟨-, -, a3⟩ | ⟨a, -, -, -, a3, -⟩ <;> simp only [a3, bd_s, pm, jn_s, can_ok, i10, i00, if_true, if_false, bd2_s], by simp only [pn, bt_e1]⟩
theorem op_pay {c : Nat} {τ μ : Mem} (B : Beg c τ μ) (x d : Int32) : OpR ok123 c τ μ 15 x d 0 0 (f_X6_pay μ x d) (f_X5_pay τ x d) := by
  obtain ⟨hc, hI, h23, hR⟩ := B
  unfold f_X6_pay f_X5_pay
  rcases player_cases hI hR x with ⟨pl, p1, rfl, pn, pm⟩ | ⟨pn, pm⟩
  · rcases range_cases d 1 1000 (by decide) (by decide) with ⟨q, q1, q2, hd, n1, m1⟩ | ⟨n1, m1⟩
    · have n1 : f_X5_needRange d 1 1000 = some (0, 0) := n1
      have m1 : f_X6_isIn d 1 1000 = some 1 := m1
      rcases actor_cases hI hR with ⟨a1, a2, a3⟩ | ⟨a, ha, a1, a2, a3, a4⟩
      · exact Or.inl ⟨3, 3, Or.inr (Or.inr ⟨rfl, rfl⟩), by simp only [a3, bd_s, pm, m1, i10, if_false, jn_s, away_m1, if_true, can_ok, i30, bd2_s, i00], by simp only [pn, n1, bt_0, a2, bt_e3]⟩
      ·
        have hnp := hI.np
        obtain ⟨⟨rm, rm1, rm2⟩, -⟩ := hI.pl ha
        have hrs : τ 9 a = nI rm := (hR.2.1.2 a ha).1.trans rm2
        have g4 : ∀ {α : Type} (x : Option α), gd (nI a) 4 x = x := fun x => gd_ok (by omega) (by decide)
        have hNa : (nI a).toNatClampNeg = a := N_nI (by omega)
        have hNr : (nI rm).toNatClampNeg = rm := N_nI (by omega)
        have g8 : ∀ {α : Type} (x : Option α), gd (nI rm) 8 x = x := fun x => gd_ok rm1 (by decide)
        have am1 : (nI a = -1) = False := nI_m1 (show a < 2 ^ 31 by omega)
        have sC : ∀ σ, RW σ μ → σ 10 a = μ 7 a := fun σ h => (h.2.1.2 a ha).2.1
        have sD : ∀ σ, RW σ μ → σ 10 pl = μ 7 pl := fun σ h => (h.2.1.2 pl p1).2.1
        have sY : ∀ σ, RW σ μ → σ 13 a = μ 10 a := fun σ h => (h.2.1.2 a ha).2.2.2.2
        have g4p : ∀ {α : Type} (x : Option α), gd (nI pl) 4 x = x := fun x => gd_ok (by omega) (by decide)
        have hNp : (nI pl).toNatClampNeg = pl := N_nI (by omega)
        rcases company_cases hI hR ha p1 with ⟨c1, c2, c3, c4⟩ | ⟨c3, c4⟩
        · by_cases hz : d ≤ μ 7 a
          · have hne : a ≠ pl := fun h => c1 h.symm
            obtain ⟨μ5, hμ5⟩ : ∃ μ5, μ5 = mu (mu (mu μ 0 29 0) 7 a (μ 7 a - d)) 7 pl (μ 7 pl + d) := ⟨_, rfl⟩
            obtain ⟨μ'', e1, e2, e3, e4, e5, e6⟩ := act_end (a := a) (t := 1) (μ := μ) (μ5 := μ5) (w := -1) (b := -1) (K := 15) (b0 := nI pl) (b1 := d) (b2 := 0) (b3 := 0) (vf := fun σ' => σ' 10 a) hc ha (by rw [hμ5]; exact (((hI.thrown 0).mono (Nat.le_add_right c 1) (Nat.le_add_right _ 10)).coins _ _).coins _ _) (by unfold pcN; rw [hμ5, mu_n (by decide), mu_n (by decide), mu_pl (by decide)]) (by rw [hμ5, mu_n (by decide), mu_n (by decide), mu_at]) (by rw [hμ5, mu_n (by decide), mu_n (by decide), mu_pl (by decide)]; exact h23) (fun k k1 k2 => by rw [hμ5, mu_n (by omega), mu_n (by omega), mu_n (by omega)]) (by omega) (fun σ hRs => by
              refine ⟨mu (mu (mu σ 10 a (μ 7 a - d)) 10 pl (μ 7 pl + d)) 13 a (σ 13 a + nI 1), ?_, fun σ' hq => play_pay (v := 0) (by omega) (next_of hI a4 hRs) ?_ hq⟩
              · have := (((hRs.thrown 0).coins a (μ 7 a - d)).coins pl (μ 7 pl + d)).ready a (σ 13 a + nI 1)
                rw [hμ5, mu_n (show (10 : Nat) ≠ 7 by decide), mu_n (show (10 : Nat) ≠ 7 by decide), mu_n (show (10 : Nat) ≠ 0 by decide), ← sY σ hRs]
                exact this
              · unfold f_X4_perform f_X1_payOut
                rw [g4, if_neg (by decide), if_neg (by decide), if_neg (by decide), if_neg (by decide), if_neg (by decide), if_neg (by decide), if_pos rfl]
                simp only [hNa, hNp, g4, g4p, bd_s, stp_s, mu_pl c1, sC σ hRs, sD σ hRs])
            refine Or.inr ⟨μ'' 7 a, μ'', ?_, ⟨e3, e4, e5, fun σ hRs => ?_⟩, ?_⟩
            · simp only [a3, bd_s, pm, m1, c4, i10, i00, if_true, if_false, jn_s, g4, hNa, if_pos hz, can_ok, bd2_s, stp_s, g4p, hNp, mu_n (show (7 : Nat) ≠ 0 by decide), mu_pl c1]
              rw [← hμ5, show f_X6_ends μ5 (nI a) 1 (-1) (-1) = some μ'' from e1, bd_s]
            · obtain ⟨σ', s1, s2⟩ := e6 σ hRs
              have hpc : pcN μ'' = pcN μ := by unfold pcN; rw [e2.2 5 (by decide) (by decide), hμ5, mu_n (by decide), mu_n (by decide), mu_pl (by decide)]
              refine ⟨σ', ?_, s2⟩
              rw [s1, (s2.2.1.2 a (by omega)).2.1]
            · simp only [pn, n1, bt_0, a2, c3, g4, hNa, sC τ hR, f_X5_needCoins, if_pos hz]
          · exact Or.inl ⟨3, 3, Or.inr (Or.inr ⟨rfl, rfl⟩), by simp only [a3, bd_s, pm, m1, c4, i10, i00, if_true, if_false, jn_s, g4, hNa, if_neg hz, can_ok, i30, bd2_s], by simp only [pn, n1, bt_0, a2, c3, g4, hNa, sC τ hR, f_X5_needCoins, if_neg hz, bt_e3]⟩
        · exact Or.inl ⟨3, 3, Or.inr (Or.inr ⟨rfl, rfl⟩), by simp only [a3, bd_s, pm, m1, c4, i10, i00, if_true, if_false, jn_s, can_ok, i30, bd2_s], by simp only [pn, n1, bt_0, a2, c3, bt_e3]⟩
    · have n1 : f_X5_needRange d 1 1000 = some (2, 0) := n1
      have m1 : f_X6_isIn d 1 1000 = some 0 := m1
      exact Or.inl ⟨2, 2, Or.inr (Or.inl ⟨rfl, rfl⟩), by
        rcases actor_cases hI hR with ⟨-, -, a3⟩ | ⟨a, -, -, -, a3, -⟩ <;> simp only [a3, bd_s, pm, m1, jn_s, can_ok, i10, i20, i00, if_true, if_false, bd2_s], by simp only [pn, n1, bt_0, bt_e2]⟩
  · exact Or.inl ⟨1, 1, Or.inl ⟨rfl, rfl⟩, by
      rcases actor_cases hI hR with ⟨-, -, a3⟩ | ⟨a, -, -, -, a3, -⟩ <;> simp only [a3, bd_s, pm, jn_s, can_ok, i10, i00, if_true, if_false, bd2_s], by simp only [pn, bt_e1]⟩
theorem op_buy {c : Nat} {τ μ : Mem} (B : Beg c τ μ) (d : Int32) : OpR ok13 c τ μ 16 d 0 0 0 (f_X6_buy μ d) (f_X5_buy τ d) := by
  obtain ⟨hc, hI, h23, hR⟩ := B
  unfold f_X6_buy f_X5_buy
  rcases kind_cases d with ⟨q, q1, rfl, n1, m1⟩ | ⟨n1, m1⟩
  · rcases actor_cases hI hR with ⟨a1, a2, a3⟩ | ⟨a, ha, a1, a2, a3, a4⟩
    · exact Or.inl ⟨3, 2, Or.inr ⟨rfl, rfl⟩, by simp only [a3, bd_s, m1, i10, if_false, jn_s, f_X6_traded, im1, if_true, can_ok, i20, bd2_s, i00], by simp only [n1, bt_0, a2, bt_e3]⟩
    ·
      have hnp := hI.np
      obtain ⟨⟨rm, rm1, rm2⟩, -⟩ := hI.pl ha
      have hrs : τ 9 a = nI rm := (hR.2.1.2 a ha).1.trans rm2
      have g4 : ∀ {α : Type} (x : Option α), gd (nI a) 4 x = x := fun x => gd_ok (by omega) (by decide)
      have hNa : (nI a).toNatClampNeg = a := N_nI (by omega)
      have hNr : (nI rm).toNatClampNeg = rm := N_nI (by omega)
      have g8 : ∀ {α : Type} (x : Option α), gd (nI rm) 8 x = x := fun x => gd_ok rm1 (by decide)
      have am1 : (nI a = -1) = False := nI_m1 (show a < 2 ^ 31 by omega)
      have hf : rm * 5 + q < 40 := by omega
      have gf : ∀ {α : Type} (x : Option α), gd (nI (rm * 5 + q)) 40 x = x := fun x => gd_ok hf (by decide)
      have hNf : (nI (rm * 5 + q)).toNatClampNeg = rm * 5 + q := N_nI (by omega)
      have hg : a * 5 + q < 20 := by omega
      have gg : ∀ {α : Type} (x : Option α), gd (nI (a * 5 + q)) 20 x = x := fun x => gd_ok hg (by decide)
      have hNg : (nI (a * 5 + q)).toNatClampNeg = a * 5 + q := N_nI (by omega)
      obtain ⟨-, -, -, -, -, hI6, hI7, hI8, -⟩ := id hI
      obtain ⟨F, F1, F2⟩ := hI6 _ hf
      obtain ⟨S, S1, S2⟩ := hI7 _ hf
      obtain ⟨G, G1, G2⟩ := hI8 _ hg
      have sF : ∀ σ, RW σ μ → σ 6 (rm * 5 + q) = nI F := fun σ h => (h.1.2.2.2.2 _ hf).trans F2
      have sS : ∀ σ, RW σ μ → σ 5 (rm * 5 + q) = nI S := fun σ h => (h.1.2.2.2.1 _ hf).trans S2
      have sP : ∀ σ, RW σ μ → σ 4 (rm * 5 + q) = μ 4 (rm * 5 + q) := fun σ h => h.1.2.2.1 _ hf
      have sG : ∀ σ, RW σ μ → σ 14 (a * 5 + q) = nI G := fun σ h => (h.2.2.1.1 _ hg).trans G2
      have sT : ∀ σ, RW σ μ → σ 3 rm = μ 3 rm := fun σ h => h.1.2.1 _ rm1
      have sC : ∀ σ, RW σ μ → σ 10 a = μ 7 a := fun σ h => (h.2.1.2 a ha).2.1
      have sR : ∀ σ, RW σ μ → σ 9 a = nI rm := fun σ h => (h.2.1.2 a ha).1.trans rm2
      have sY : ∀ σ, RW σ μ → σ 13 a = μ 10 a := fun σ h => (h.2.1.2 a ha).2.2.2.2
      have nfm : (nI (rm * 5 + q) = -1) = False := nI_m1 (by omega)
      have CM : f_X2_hasShop τ (nI rm) = if μ 3 rm = -1 then some 0 else some 1 := by unfold f_X2_hasShop; rw [g8, hNr, sT τ hR]
      by_cases ht : μ 3 rm = -1
      · exact Or.inl ⟨3, 2, Or.inr ⟨rfl, rfl⟩, by simp only [a3, bd_s, m1, i10, if_false, jn_s, f_X6_traded, am1, g4, hNa, rm2, g8, hNr, ht, im1, if_true, can_ok, i20, bd2_s, i00], by simp only [n1, bt_0, a2, g4, hNa, hrs, f_X5_needTrade, CM, if_pos ht, bd_s, jn_s, i00, if_true, bt_e3]⟩
      · by_cases hp : μ 4 (rm * 5 + q) = 0
        · exact Or.inl ⟨3, 2, Or.inr ⟨rfl, rfl⟩, by simp only [a3, bd_s, m1, i10, if_false, jn_s, f_X6_traded, am1, g4, hNa, rm2, g8, hNr, if_neg ht, n5l, nfm, gf, hNf, hp, i00, im1, if_true, can_ok, i20, bd2_s], by simp only [n1, bt_0, a2, g4, hNa, hrs, f_X5_needTrade, f_X5_goodsAt, CM, if_neg ht, bd_s, jn_s, i10, if_false, n5r, gf, hNf, sP τ hR, hp, i00, if_true, bt_e3]⟩
        · by_cases hz : S = 0
          · subst hz
            have z0 : (nI 0 = (0 : Int32)) = True := by decide
            have z1 : ((0 : Int32) < nI 0) = False := by decide
            exact Or.inl ⟨3, 2, Or.inr ⟨rfl, rfl⟩, by simp only [a3, bd_s, m1, i10, if_false, jn_s, f_X6_traded, am1, g4, hNa, rm2, g8, hNr, if_neg ht, n5l, nfm, gf, hNf, if_neg hp, S2, gg, hNg, G2, z0, i00, if_true, can_ok, i20, bd2_s], by simp only [n1, bt_0, a2, g4, hNa, hrs, f_X5_needTrade, f_X5_needOwned, f_X5_goodsAt, CM, if_neg ht, bd_s, jn_s, i10, if_false, n5r, gf, hNf, sP τ hR, if_neg hp, sS τ hR, gg, hNg, sG τ hR, z1, bt_e3]⟩
          · have z0 : (nI S = (0 : Int32)) = False := eq_false fun h => hz (nI_inj (a := S) (b := 0) (by omega) (by omega) h)
            have z1 : ((0 : Int32) < nI S) = True := eq_true (nI_lt (a := 0) (by omega) (by omega))
            have zm : nI S - 1 = nI (S - 1) := pk_sub (a := S) (b := 1) (by omega)
            have zc : nI S + (-1) = nI (S - 1) := by rw [← Int32.sub_eq_add_neg]; exact zm
            by_cases hcn : μ 4 (rm * 5 + q) ≤ μ 7 a
            · obtain ⟨μ5, hμ5⟩ : ∃ μ5, μ5 = mu (mu (mu (mu (mu μ 0 29 0) 5 (rm * 5 + q) (nI (S - 1))) 11 (a * 5 + q) (nI (G + 1))) 7 a (μ 7 a - μ 4 (rm * 5 + q))) 3 rm (μ 3 rm + μ 4 (rm * 5 + q)) := ⟨_, rfl⟩
              obtain ⟨μ'', e1, e2, e3, e4, e5, e6⟩ := act_end (a := a) (t := 1) (μ := μ) (μ5 := μ5) (w := -1) (b := -1) (K := 16) (b0 := nI q) (b1 := 0) (b2 := 0) (b3 := 0) (vf := fun σ' => σ' 10 a) hc ha (by rw [hμ5]; exact (((((hI.thrown 0).mono (Nat.le_add_right c 1) (Nat.le_add_right _ 10)).stock _ ⟨S - 1, by omega, rfl⟩).goods _ ⟨G + 1, by omega, rfl⟩).coins _ _).till _ _) (by unfold pcN; rw [hμ5, mu_n (by decide), mu_n (by decide), mu_n (by decide), mu_n (by decide), mu_pl (by decide)]) (by rw [hμ5, mu_n (by decide), mu_n (by decide), mu_n (by decide), mu_n (by decide), mu_at]) (by rw [hμ5, mu_n (by decide), mu_n (by decide), mu_n (by decide), mu_n (by decide), mu_pl (by decide)]; exact h23) (fun k k1 k2 => by rw [hμ5, mu_n (by omega), mu_n (by omega), mu_n (by omega), mu_n (by omega), mu_n (by omega)]) (by omega) (fun σ hRs => by
                refine ⟨mu (mu (mu (mu (mu σ 14 (a * 5 + q) (nI (G + 1))) 5 (rm * 5 + q) (nI (S - 1))) 10 a (μ 7 a - μ 4 (rm * 5 + q))) 3 rm (μ 3 rm + μ 4 (rm * 5 + q))) 13 a (σ 13 a + nI 1), ?_, fun σ' hq => play_buy (v := 0) (by omega) (next_of hI a4 hRs) ?_ hq⟩
                · have := (((((hRs.thrown 0).goods (a * 5 + q) (nI (G + 1))).stock (rm * 5 + q) (nI (S - 1))).coins a (μ 7 a - μ 4 (rm * 5 + q))).till rm (μ 3 rm + μ 4 (rm * 5 + q))).ready a (σ 13 a + nI 1)
                  rw [hμ5, mu_n (show (10 : Nat) ≠ 3 by decide), mu_n (show (10 : Nat) ≠ 7 by decide), mu_n (show (10 : Nat) ≠ 11 by decide), mu_n (show (10 : Nat) ≠ 5 by decide), mu_n (show (10 : Nat) ≠ 0 by decide), ← sY σ hRs, mu_comm (show (5 : Nat) ≠ 11 by decide)]
                  exact this
                · unfold f_X4_perform f_X4_trade f_X2_halfPrice f_X1_addGoods f_X5_goodsAt
                  rw [g4, if_neg (by decide), if_neg (by decide), if_neg (by decide), if_neg (by decide), if_neg (by decide), if_neg (by decide), if_neg (by decide), if_pos rfl]
                  simp only [hNa, hNr, g4, g8, sR σ hRs, n5r, bd_s, bd2_s, gf, gg, hNf, hNg, stp_s, mu_at, sG σ hRs, sS σ hRs, sP σ hRs, sC σ hRs, sT σ hRs, mu_n (show (5 : Nat) ≠ 14 by decide), mu_n (show (9 : Nat) ≠ 14 by decide), mu_n (show (10 : Nat) ≠ 5 by decide), mu_n (show (10 : Nat) ≠ 14 by decide), mu_n (show (3 : Nat) ≠ 10 by decide), mu_n (show (3 : Nat) ≠ 5 by decide), mu_n (show (3 : Nat) ≠ 14 by decide), mu_n (show (9 : Nat) ≠ 10 by decide), mu_n (show (9 : Nat) ≠ 5 by decide), nI_1, zm, zc, Int32.sub_neg, ← Int32.sub_eq_add_neg])
              refine Or.inr ⟨μ'' 7 a, μ'', ?_, ⟨e3, e4, e5, fun σ hRs => ?_⟩, ?_⟩
              · simp only [a3, bd_s, m1, i10, if_false, jn_s, f_X6_traded, am1, g4, hNa, rm2, g8, hNr, if_neg ht, n5l, nfm, gf, hNf, if_neg hp, S2, gg, hNg, G2, z0, if_pos hcn, i00, if_true, can_ok, bd2_s, stp_s, mu_n (show (5 : Nat) ≠ 0 by decide), mu_n (show (11 : Nat) ≠ 5 by decide), mu_n (show (11 : Nat) ≠ 0 by decide), mu_n (show (7 : Nat) ≠ 11 by decide), mu_n (show (7 : Nat) ≠ 5 by decide), mu_n (show (7 : Nat) ≠ 0 by decide), mu_n (show (4 : Nat) ≠ 11 by decide), mu_n (show (4 : Nat) ≠ 5 by decide), mu_n (show (4 : Nat) ≠ 0 by decide), mu_n (show (4 : Nat) ≠ 7 by decide), mu_n (show (6 : Nat) ≠ 11 by decide), mu_n (show (6 : Nat) ≠ 5 by decide), mu_n (show (6 : Nat) ≠ 0 by decide), mu_n (show (6 : Nat) ≠ 7 by decide), mu_n (show (3 : Nat) ≠ 11 by decide), mu_n (show (3 : Nat) ≠ 5 by decide), mu_n (show (3 : Nat) ≠ 0 by decide), mu_n (show (3 : Nat) ≠ 7 by decide), zm, nI_1]
                rw [← hμ5, show f_X6_ends μ5 (nI a) 1 (-1) (-1) = some μ'' from e1, bd_s]
              · obtain ⟨σ', s1, s2⟩ := e6 σ hRs
                have hpc : pcN μ'' = pcN μ := by unfold pcN; rw [e2.2 5 (by decide) (by decide), hμ5, mu_n (by decide), mu_n (by decide), mu_n (by decide), mu_n (by decide), mu_pl (by decide)]
                refine ⟨σ', ?_, s2⟩
                rw [s1, (s2.2.1.2 a (by omega)).2.1]
              · simp only [n1, bt_0, a2, g4, hNa, hrs, f_X5_needTrade, f_X5_needOwned, f_X5_goodsAt, f_X2_halfPrice, f_X5_needCoins, CM, if_neg ht, bd_s, jn_s, i10, if_false, n5r, gf, hNf, sP τ hR, if_neg hp, sS τ hR, gg, hNg, sG τ hR, z1, if_true, g8, hNr, sT τ hR, sC τ hR, if_pos hcn]
            · exact Or.inl ⟨3, 2, Or.inr ⟨rfl, rfl⟩, by simp only [a3, bd_s, m1, i10, if_false, jn_s, f_X6_traded, am1, g4, hNa, rm2, g8, hNr, if_neg ht, n5l, nfm, gf, hNf, if_neg hp, S2, gg, hNg, G2, z0, if_neg hcn, i00, if_true, can_ok, i20, bd2_s], by simp only [n1, bt_0, a2, g4, hNa, hrs, f_X5_needTrade, f_X5_needOwned, f_X5_goodsAt, f_X2_halfPrice, f_X5_needCoins, CM, if_neg ht, bd_s, jn_s, i10, if_false, n5r, gf, hNf, sP τ hR, if_neg hp, sS τ hR, gg, hNg, sG τ hR, z1, if_true, g8, hNr, sT τ hR, sC τ hR, if_neg hcn, bt_e3]⟩
  · exact Or.inl ⟨1, 1, Or.inl ⟨rfl, rfl⟩, by
      rcases actor_cases hI hR with ⟨-, -, a3⟩ | ⟨a, -, -, -, a3, -⟩ <;> simp only [a3, bd_s, m1, jn_s, can_ok, i10, i00, if_true, if_false, bd2_s], by simp only [n1, bt_e1]⟩
theorem op_sell {c : Nat} {τ μ : Mem} (B : Beg c τ μ) (d : Int32) : OpR ok13 c τ μ 17 d 0 0 0 (f_X6_sell μ d) (f_X5_sell τ d) := by
  obtain ⟨hc, hI, h23, hR⟩ := B
  unfold f_X6_sell f_X5_sell
  rcases kind_cases d with ⟨q, q1, rfl, n1, m1⟩ | ⟨n1, m1⟩
  · rcases actor_cases hI hR with ⟨a1, a2, a3⟩ | ⟨a, ha, a1, a2, a3, a4⟩
    · exact Or.inl ⟨3, 2, Or.inr ⟨rfl, rfl⟩, by simp only [a3, bd_s, m1, i10, if_false, jn_s, f_X6_traded, im1, if_true, can_ok, i20, bd2_s, i00], by simp only [n1, bt_0, a2, bt_e3]⟩
    ·
      have hnp := hI.np
      obtain ⟨⟨rm, rm1, rm2⟩, -⟩ := hI.pl ha
      have hrs : τ 9 a = nI rm := (hR.2.1.2 a ha).1.trans rm2
      have g4 : ∀ {α : Type} (x : Option α), gd (nI a) 4 x = x := fun x => gd_ok (by omega) (by decide)
      have hNa : (nI a).toNatClampNeg = a := N_nI (by omega)
      have hNr : (nI rm).toNatClampNeg = rm := N_nI (by omega)
      have g8 : ∀ {α : Type} (x : Option α), gd (nI rm) 8 x = x := fun x => gd_ok rm1 (by decide)
      have am1 : (nI a = -1) = False := nI_m1 (show a < 2 ^ 31 by omega)
      have hf : rm * 5 + q < 40 := by omega
      have gf : ∀ {α : Type} (x : Option α), gd (nI (rm * 5 + q)) 40 x = x := fun x => gd_ok hf (by decide)
      have hNf : (nI (rm * 5 + q)).toNatClampNeg = rm * 5 + q := N_nI (by omega)
      have hg : a * 5 + q < 20 := by omega
      have gg : ∀ {α : Type} (x : Option α), gd (nI (a * 5 + q)) 20 x = x := fun x => gd_ok hg (by decide)
      have hNg : (nI (a * 5 + q)).toNatClampNeg = a * 5 + q := N_nI (by omega)
      obtain ⟨-, -, -, -, -, hI6, hI7, hI8, -⟩ := id hI
      obtain ⟨F, F1, F2⟩ := hI6 _ hf
      obtain ⟨S, S1, S2⟩ := hI7 _ hf
      obtain ⟨G, G1, G2⟩ := hI8 _ hg
      have sF : ∀ σ, RW σ μ → σ 6 (rm * 5 + q) = nI F := fun σ h => (h.1.2.2.2.2 _ hf).trans F2
      have sS : ∀ σ, RW σ μ → σ 5 (rm * 5 + q) = nI S := fun σ h => (h.1.2.2.2.1 _ hf).trans S2
      have sP : ∀ σ, RW σ μ → σ 4 (rm * 5 + q) = μ 4 (rm * 5 + q) := fun σ h => h.1.2.2.1 _ hf
      have sG : ∀ σ, RW σ μ → σ 14 (a * 5 + q) = nI G := fun σ h => (h.2.2.1.1 _ hg).trans G2
      have sT : ∀ σ, RW σ μ → σ 3 rm = μ 3 rm := fun σ h => h.1.2.1 _ rm1
      have sC : ∀ σ, RW σ μ → σ 10 a = μ 7 a := fun σ h => (h.2.1.2 a ha).2.1
      have sR : ∀ σ, RW σ μ → σ 9 a = nI rm := fun σ h => (h.2.1.2 a ha).1.trans rm2
      have sY : ∀ σ, RW σ μ → σ 13 a = μ 10 a := fun σ h => (h.2.1.2 a ha).2.2.2.2
      have nfm : (nI (rm * 5 + q) = -1) = False := nI_m1 (by omega)
      have CM : f_X2_hasShop τ (nI rm) = if μ 3 rm = -1 then some 0 else some 1 := by unfold f_X2_hasShop; rw [g8, hNr, sT τ hR]
      by_cases ht : μ 3 rm = -1
      · exact Or.inl ⟨3, 2, Or.inr ⟨rfl, rfl⟩, by simp only [a3, bd_s, m1, i10, if_false, jn_s, f_X6_traded, am1, g4, hNa, rm2, g8, hNr, ht, im1, if_true, can_ok, i20, bd2_s, i00], by simp only [n1, bt_0, a2, g4, hNa, hrs, f_X5_needTrade, CM, if_pos ht, bd_s, jn_s, i00, if_true, bt_e3]⟩
      · by_cases hp : μ 4 (rm * 5 + q) = 0
        · exact Or.inl ⟨3, 2, Or.inr ⟨rfl, rfl⟩, by simp only [a3, bd_s, m1, i10, if_false, jn_s, f_X6_traded, am1, g4, hNa, rm2, g8, hNr, if_neg ht, n5l, nfm, gf, hNf, hp, i00, im1, if_true, can_ok, i20, bd2_s], by simp only [n1, bt_0, a2, g4, hNa, hrs, f_X5_needTrade, f_X5_goodsAt, CM, if_neg ht, bd_s, jn_s, i10, if_false, n5r, gf, hNf, sP τ hR, hp, i00, if_true, bt_e3]⟩
        · by_cases hz : G = 0
          · subst hz
            have z0 : (nI 0 = (0 : Int32)) = True := by decide
            have z1 : ((0 : Int32) < nI 0) = False := by decide
            exact Or.inl ⟨3, 2, Or.inr ⟨rfl, rfl⟩, by simp only [a3, bd_s, m1, i10, if_false, jn_s, f_X6_traded, am1, g4, hNa, rm2, g8, hNr, if_neg ht, n5l, nfm, gf, hNf, if_neg hp, S2, gg, hNg, G2, z0, i00, if_true, can_ok, i20, bd2_s], by simp only [n1, bt_0, a2, g4, hNa, hrs, f_X5_needTrade, f_X5_needOwned, f_X5_goodsAt, CM, if_neg ht, bd_s, jn_s, i10, if_false, n5r, gf, hNf, sP τ hR, if_neg hp, sS τ hR, gg, hNg, sG τ hR, z1, bt_e3]⟩
          · have z0 : (nI G = (0 : Int32)) = False := eq_false fun h => hz (nI_inj (a := G) (b := 0) (by omega) (by omega) h)
            have z1 : ((0 : Int32) < nI G) = True := eq_true (nI_lt (a := 0) (by omega) (by omega))
            have zm : nI G - 1 = nI (G - 1) := pk_sub (a := G) (b := 1) (by omega)
            have zc : nI G + (-1) = nI (G - 1) := by rw [← Int32.sub_eq_add_neg]; exact zm
            by_cases hcn : μ 4 (rm * 5 + q) / 2 ≤ μ 3 rm
            · obtain ⟨μ5, hμ5⟩ : ∃ μ5, μ5 = mu (mu (mu (mu (mu μ 0 29 0) 5 (rm * 5 + q) (nI (S + 1))) 11 (a * 5 + q) (nI (G - 1))) 7 a (μ 7 a + μ 4 (rm * 5 + q) / 2)) 3 rm (μ 3 rm - μ 4 (rm * 5 + q) / 2) := ⟨_, rfl⟩
              obtain ⟨μ'', e1, e2, e3, e4, e5, e6⟩ := act_end (a := a) (t := 1) (μ := μ) (μ5 := μ5) (w := -1) (b := -1) (K := 17) (b0 := nI q) (b1 := 0) (b2 := 0) (b3 := 0) (vf := fun σ' => σ' 10 a) hc ha (by rw [hμ5]; exact (((((hI.thrown 0).mono (Nat.le_add_right c 1) (Nat.le_add_right _ 10)).stock _ ⟨S + 1, by omega, rfl⟩).goods _ ⟨G - 1, by omega, rfl⟩).coins _ _).till _ _) (by unfold pcN; rw [hμ5, mu_n (by decide), mu_n (by decide), mu_n (by decide), mu_n (by decide), mu_pl (by decide)]) (by rw [hμ5, mu_n (by decide), mu_n (by decide), mu_n (by decide), mu_n (by decide), mu_at]) (by rw [hμ5, mu_n (by decide), mu_n (by decide), mu_n (by decide), mu_n (by decide), mu_pl (by decide)]; exact h23) (fun k k1 k2 => by rw [hμ5, mu_n (by omega), mu_n (by omega), mu_n (by omega), mu_n (by omega), mu_n (by omega)]) (by omega) (fun σ hRs => by
                refine ⟨mu (mu (mu (mu (mu σ 14 (a * 5 + q) (nI (G - 1))) 5 (rm * 5 + q) (nI (S + 1))) 10 a (μ 7 a + μ 4 (rm * 5 + q) / 2)) 3 rm (μ 3 rm - μ 4 (rm * 5 + q) / 2)) 13 a (σ 13 a + nI 1), ?_, fun σ' hq => play_sell (v := 0) (by omega) (next_of hI a4 hRs) ?_ hq⟩
                · have := (((((hRs.thrown 0).goods (a * 5 + q) (nI (G - 1))).stock (rm * 5 + q) (nI (S + 1))).coins a (μ 7 a + μ 4 (rm * 5 + q) / 2)).till rm (μ 3 rm - μ 4 (rm * 5 + q) / 2)).ready a (σ 13 a + nI 1)
                  rw [hμ5, mu_n (show (10 : Nat) ≠ 3 by decide), mu_n (show (10 : Nat) ≠ 7 by decide), mu_n (show (10 : Nat) ≠ 11 by decide), mu_n (show (10 : Nat) ≠ 5 by decide), mu_n (show (10 : Nat) ≠ 0 by decide), ← sY σ hRs, mu_comm (show (5 : Nat) ≠ 11 by decide)]
                  exact this
                · unfold f_X4_perform f_X4_trade f_X2_halfPrice f_X1_addGoods f_X5_goodsAt
                  rw [g4, if_neg (by decide), if_neg (by decide), if_neg (by decide), if_neg (by decide), if_neg (by decide), if_neg (by decide), if_neg (by decide), if_neg (by decide), if_pos rfl]
                  simp only [hNa, hNr, g4, g8, sR σ hRs, n5r, bd_s, bd2_s, gf, gg, hNf, hNg, stp_s, mu_at, sG σ hRs, sS σ hRs, sP σ hRs, sC σ hRs, sT σ hRs, mu_n (show (5 : Nat) ≠ 14 by decide), mu_n (show (9 : Nat) ≠ 14 by decide), mu_n (show (10 : Nat) ≠ 5 by decide), mu_n (show (10 : Nat) ≠ 14 by decide), mu_n (show (3 : Nat) ≠ 10 by decide), mu_n (show (3 : Nat) ≠ 5 by decide), mu_n (show (3 : Nat) ≠ 14 by decide), mu_n (show (9 : Nat) ≠ 10 by decide), mu_n (show (9 : Nat) ≠ 5 by decide), nI_1, zm, zc, Int32.sub_neg, ← Int32.sub_eq_add_neg])
              refine Or.inr ⟨μ'' 7 a, μ'', ?_, ⟨e3, e4, e5, fun σ hRs => ?_⟩, ?_⟩
              · simp only [a3, bd_s, m1, i10, if_false, jn_s, f_X6_traded, am1, g4, hNa, rm2, g8, hNr, if_neg ht, n5l, nfm, gf, hNf, if_neg hp, S2, gg, hNg, G2, z0, if_pos hcn, i00, if_true, can_ok, bd2_s, stp_s, mu_n (show (5 : Nat) ≠ 0 by decide), mu_n (show (11 : Nat) ≠ 5 by decide), mu_n (show (11 : Nat) ≠ 0 by decide), mu_n (show (7 : Nat) ≠ 11 by decide), mu_n (show (7 : Nat) ≠ 5 by decide), mu_n (show (7 : Nat) ≠ 0 by decide), mu_n (show (4 : Nat) ≠ 11 by decide), mu_n (show (4 : Nat) ≠ 5 by decide), mu_n (show (4 : Nat) ≠ 0 by decide), mu_n (show (4 : Nat) ≠ 7 by decide), mu_n (show (6 : Nat) ≠ 11 by decide), mu_n (show (6 : Nat) ≠ 5 by decide), mu_n (show (6 : Nat) ≠ 0 by decide), mu_n (show (6 : Nat) ≠ 7 by decide), mu_n (show (3 : Nat) ≠ 11 by decide), mu_n (show (3 : Nat) ≠ 5 by decide), mu_n (show (3 : Nat) ≠ 0 by decide), mu_n (show (3 : Nat) ≠ 7 by decide), zm, nI_1]
                rw [← hμ5, show f_X6_ends μ5 (nI a) 1 (-1) (-1) = some μ'' from e1, bd_s]
              · obtain ⟨σ', s1, s2⟩ := e6 σ hRs
                have hpc : pcN μ'' = pcN μ := by unfold pcN; rw [e2.2 5 (by decide) (by decide), hμ5, mu_n (by decide), mu_n (by decide), mu_n (by decide), mu_n (by decide), mu_pl (by decide)]
                refine ⟨σ', ?_, s2⟩
                rw [s1, (s2.2.1.2 a (by omega)).2.1]
              · simp only [n1, bt_0, a2, g4, hNa, hrs, f_X5_needTrade, f_X5_needOwned, f_X5_goodsAt, f_X2_halfPrice, f_X5_needCoins, CM, if_neg ht, bd_s, jn_s, i10, if_false, n5r, gf, hNf, sP τ hR, if_neg hp, sS τ hR, gg, hNg, sG τ hR, z1, if_true, g8, hNr, sT τ hR, sC τ hR, if_pos hcn]
            · exact Or.inl ⟨3, 2, Or.inr ⟨rfl, rfl⟩, by simp only [a3, bd_s, m1, i10, if_false, jn_s, f_X6_traded, am1, g4, hNa, rm2, g8, hNr, if_neg ht, n5l, nfm, gf, hNf, if_neg hp, S2, gg, hNg, G2, z0, if_neg hcn, i00, if_true, can_ok, i20, bd2_s], by simp only [n1, bt_0, a2, g4, hNa, hrs, f_X5_needTrade, f_X5_needOwned, f_X5_goodsAt, f_X2_halfPrice, f_X5_needCoins, CM, if_neg ht, bd_s, jn_s, i10, if_false, n5r, gf, hNf, sP τ hR, if_neg hp, sS τ hR, gg, hNg, sG τ hR, z1, if_true, g8, hNr, sT τ hR, sC τ hR, if_neg hcn, bt_e3]⟩
  · exact Or.inl ⟨1, 1, Or.inl ⟨rfl, rfl⟩, by
      rcases actor_cases hI hR with ⟨-, -, a3⟩ | ⟨a, -, -, -, a3, -⟩ <;> simp only [a3, bd_s, m1, jn_s, can_ok, i10, i00, if_true, if_false, bd2_s], by simp only [n1, bt_e1]⟩
