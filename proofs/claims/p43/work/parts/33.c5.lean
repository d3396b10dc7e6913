theorem op_take {c : Nat} {τ μ : Mem} (B : Beg c τ μ) (d : Int32) : OpR ok13 c τ μ 12 d 0 0 0 (f_X6_take μ d) (f_X5_take τ d) := by
  obtain ⟨hc, hI, h23, hR⟩ := B
  unfold f_X6_take f_X5_take
  rcases kind_cases d with ⟨q, q1, rfl, n1, m1⟩ | ⟨n1, m1⟩
  · rcases actor_cases hI hR with ⟨a1, a2, a3⟩ | ⟨a, ha, a1, a2, a3, a4⟩
    · exact Or.inl ⟨3, 2, Or.inr ⟨rfl, rfl⟩, by simp only [a3, bd_s, m1, i10, if_false, jn_s, im1, if_true, can_ok, i20, bd2_s, i00], by simp only [n1, bt_0, a2, bt_e3]⟩
    ·
      have hnp := hI.np
      obtain ⟨⟨rm, rm1, rm2⟩, -⟩ := hI.pl ha
      have hrs : τ 9 a = nI rm := (hR.2.1.2 a ha).1.trans rm2
      have g4 : ∀ {α : Type} (x : Option α), gd (nI a) 4 x = x := fun x => gd_ok (by omega) (by decide)
      have hNa : (nI a).toNatClampNeg = a := N_nI (by omega)
      have hNr : (nI rm).toNatClampNeg = rm := N_nI (by omega)
      have g8 : ∀ {α : Type} (x : Option α), gd (nI rm) 8 x = x := fun x => gd_ok rm1 (by decide)
      have am1 : (nI a = -1) = False := nI_m1 (show a < 2 ^ 31 by omega)
      have hf : rm * 5 + q < 40 := by omega
      have gf : ∀ {α : Type} (x : Option α), gd (nI (rm * 5 + q)) 40 x = x := fun x => gd_ok hf (by decide)
      have hNf : (nI (rm * 5 + q)).toNatClampNeg = rm * 5 + q := N_nI (by omega)
      have hg : a * 5 + q < 20 := by omega
      have gg : ∀ {α : Type} (x : Option α), gd (nI (a * 5 + q)) 20 x = x := fun x => gd_ok hg (by decide)
      have hNg : (nI (a * 5 + q)).toNatClampNeg = a * 5 + q := N_nI (by omega)
      obtain ⟨-, -, -, -, -, hI6, hI7, hI8, -⟩ := id hI
      obtain ⟨F, F1, F2⟩ := hI6 _ hf
      obtain ⟨S, S1, S2⟩ := hI7 _ hf
      obtain ⟨G, G1, G2⟩ := hI8 _ hg
      have sF : ∀ σ, RW σ μ → σ 6 (rm * 5 + q) = nI F := fun σ h => (h.1.2.2.2.2 _ hf).trans F2
      have sS : ∀ σ, RW σ μ → σ 5 (rm * 5 + q) = nI S := fun σ h => (h.1.2.2.2.1 _ hf).trans S2
      have sP : ∀ σ, RW σ μ → σ 4 (rm * 5 + q) = μ 4 (rm * 5 + q) := fun σ h => h.1.2.2.1 _ hf
      have sG : ∀ σ, RW σ μ → σ 14 (a * 5 + q) = nI G := fun σ h => (h.2.2.1.1 _ hg).trans G2
      have sT : ∀ σ, RW σ μ → σ 3 rm = μ 3 rm := fun σ h => h.1.2.1 _ rm1
      have sC : ∀ σ, RW σ μ → σ 10 a = μ 7 a := fun σ h => (h.2.1.2 a ha).2.1
      have sR : ∀ σ, RW σ μ → σ 9 a = nI rm := fun σ h => (h.2.1.2 a ha).1.trans rm2
      have sY : ∀ σ, RW σ μ → σ 13 a = μ 10 a := fun σ h => (h.2.1.2 a ha).2.2.2.2
      by_cases hz : F = 0
      · subst hz
        have z0 : (nI 0 = (0 : Int32)) = True := by decide
        have z1 : ((0 : Int32) < nI 0) = False := by decide
        exact Or.inl ⟨3, 2, Or.inr ⟨rfl, rfl⟩, by simp only [a3, bd_s, m1, i10, if_false, jn_s, am1, g4, hNa, rm2, n5l, gf, hNf, F2, gg, hNg, G2, z0, if_true, can_ok, i20, bd2_s, i00], by simp only [n1, bt_0, a2, g4, hNa, hrs, f_X5_goodsAt, f_X5_needOwned, n5r, bd_s, gf, hNf, gg, hNg, sF τ hR, sG τ hR, z1, if_false, bt_e3]⟩
      · have z0 : (nI F = (0 : Int32)) = False := eq_false fun h => hz (nI_inj (a := F) (b := 0) (by omega) (by omega) h)
        have z1 : ((0 : Int32) < nI F) = True := eq_true (nI_lt (a := 0) (by omega) (by omega))
        have zm : nI F - 1 = nI (F - 1) := pk_sub (a := F) (b := 1) (by omega)
        have zc : nI F + (-1) = nI (F - 1) := by rw [← Int32.sub_eq_add_neg]; exact zm
        obtain ⟨μ5, hμ5⟩ : ∃ μ5, μ5 = mu (mu (mu μ 0 29 0) 2 (rm * 5 + q) (nI (F - 1))) 11 (a * 5 + q) (nI (G + 1)) := ⟨_, rfl⟩
        obtain ⟨μ'', e1, e2, e3, e4, e5, e6⟩ := act_end (a := a) (t := 1) (μ := μ) (μ5 := μ5) (w := -1) (b := -1) (K := 12) (b0 := nI q) (b1 := 0) (b2 := 0) (b3 := 0) (vf := fun _ => nI (G + 1)) hc ha (by rw [hμ5]; exact (((hI.thrown 0).mono (Nat.le_add_right c 1) (Nat.le_add_right _ 10)).floor _ ⟨F - 1, by omega, rfl⟩).goods _ ⟨G + 1, by omega, rfl⟩) (by unfold pcN; rw [hμ5, mu_n (by decide), mu_n (by decide), mu_pl (by decide)]) (by rw [hμ5, mu_n (by decide), mu_n (by decide), mu_at]) (by rw [hμ5, mu_n (by decide), mu_n (by decide), mu_pl (by decide)]; exact h23) (fun k k1 k2 => by rw [hμ5, mu_n (by omega), mu_n (by omega), mu_n (by omega)]) (by omega) (fun σ hRs => by
          refine ⟨mu (mu (mu σ 6 (rm * 5 + q) (nI (F - 1))) 14 (a * 5 + q) (nI (G + 1))) 13 a (σ 13 a + nI 1), ?_, fun σ' hq => play_take (v := nI (G + 1)) (by omega) (next_of hI a4 hRs) ?_ hq⟩
          · have := (((hRs.thrown 0).floor (rm * 5 + q) (nI (F - 1))).goods (a * 5 + q) (nI (G + 1))).ready a (σ 13 a + nI 1)
            rw [hμ5, mu_n (show (10 : Nat) ≠ 11 by decide), mu_n (show (10 : Nat) ≠ 2 by decide), mu_n (show (10 : Nat) ≠ 0 by decide), ← sY σ hRs]
            exact this
          · unfold f_X4_perform f_X2_addToFloor f_X1_addGoods f_X5_goodsAt
            rw [g4, if_neg (by decide), if_neg (by decide), if_neg (by decide), if_pos rfl]
            simp only [hNa, sR σ hRs, n5r, bd_s, bd2_s, gf, gg, hNf, hNg, stp_s, mu_at, sF σ hRs, mu_n (show (14 : Nat) ≠ 6 by decide), sG σ hRs, zc, nI_1])
        refine Or.inr ⟨nI (G + 1), μ'', ?_, ⟨e3, e4, e5, e6⟩, ?_⟩
        · simp only [a3, bd_s, m1, i10, if_false, jn_s, am1, g4, hNa, rm2, n5l, gf, hNf, F2, gg, hNg, G2, z0, can_ok, i00, if_true, bd2_s, stp_s, mu_n (show (6 : Nat) ≠ 0 by decide), mu_n (show (2 : Nat) ≠ 0 by decide), mu_n (show (11 : Nat) ≠ 0 by decide), mu_n (show (11 : Nat) ≠ 2 by decide), mu_n (show (2 : Nat) ≠ 11 by decide), mu_n (show (6 : Nat) ≠ 11 by decide), zm, nI_1]
          rw [← hμ5, show f_X6_ends μ5 (nI a) 1 (-1) (-1) = some μ'' from e1, bd_s, e2.1 11 (by decide) (by decide) (by decide) (by decide) (by decide) (by decide) (by decide) (by decide), hμ5, mu_at]
        · simp only [n1, bt_0, a2, g4, hNa, hrs, f_X5_goodsAt, f_X5_needOwned, n5r, bd_s, gf, hNf, gg, hNg, sF τ hR, sG τ hR, z1, if_true]
  · exact Or.inl ⟨1, 1, Or.inl ⟨rfl, rfl⟩, by
      rcases actor_cases hI hR with ⟨-, -, a3⟩ | ⟨a, -, -, -, a3, -⟩ <;> simp only [a3, bd_s, m1, jn_s, can_ok, i10, i00, if_true, if_false, bd2_s], by simp only [n1, bt_e1]⟩
theorem op_drop {c : Nat} {τ μ : Mem} (B : Beg c τ μ) (d : Int32) : OpR ok13 c τ μ 13 d 0 0 0 (f_X6_drop μ d) (f_X5_drop τ d) := by
  obtain ⟨hc, hI, h23, hR⟩ := B
  unfold f_X6_drop f_X5_drop
  rcases kind_cases d with ⟨q, q1, rfl, n1, m1⟩ | ⟨n1, m1⟩
  · rcases actor_cases hI hR with ⟨a1, a2, a3⟩ | ⟨a, ha, a1, a2, a3, a4⟩
    · exact Or.inl ⟨3, 2, Or.inr ⟨rfl, rfl⟩, by simp only [a3, bd_s, m1, i10, if_false, jn_s, im1, if_true, can_ok, i20, bd2_s, i00], by simp only [n1, bt_0, a2, bt_e3]⟩
    ·
      have hnp := hI.np
      obtain ⟨⟨rm, rm1, rm2⟩, -⟩ := hI.pl ha
      have hrs : τ 9 a = nI rm := (hR.2.1.2 a ha).1.trans rm2
      have g4 : ∀ {α : Type} (x : Option α), gd (nI a) 4 x = x := fun x => gd_ok (by omega) (by decide)
      have hNa : (nI a).toNatClampNeg = a := N_nI (by omega)
      have hNr : (nI rm).toNatClampNeg = rm := N_nI (by omega)
      have g8 : ∀ {α : Type} (x : Option α), gd (nI rm) 8 x = x := fun x => gd_ok rm1 (by decide)
      have am1 : (nI a = -1) = False := nI_m1 (show a < 2 ^ 31 by omega)
      have hf : rm * 5 + q < 40 := by omega
      have gf : ∀ {α : Type} (x : Option α), gd (nI (rm * 5 + q)) 40 x = x := fun x => gd_ok hf (by decide)
      have hNf : (nI (rm * 5 + q)).toNatClampNeg = rm * 5 + q := N_nI (by omega)
      have hg : a * 5 + q < 20 := by omega
      have gg : ∀ {α : Type} (x : Option α), gd (nI (a * 5 + q)) 20 x = x := fun x => gd_ok hg (by decide)
      have hNg : (nI (a * 5 + q)).toNatClampNeg = a * 5 + q := N_nI (by omega)
      obtain ⟨-, -, -, -, -, hI6, hI7, hI8, -⟩ := id hI
      obtain ⟨F, F1, F2⟩ := hI6 _ hf
      obtain ⟨S, S1, S2⟩ := hI7 _ hf
      obtain ⟨G, G1, G2⟩ := hI8 _ hg
      have sF : ∀ σ, RW σ μ → σ 6 (rm * 5 + q) = nI F := fun σ h => (h.1.2.2.2.2 _ hf).trans F2
      have sS : ∀ σ, RW σ μ → σ 5 (rm * 5 + q) = nI S := fun σ h => (h.1.2.2.2.1 _ hf).trans S2
      have sP : ∀ σ, RW σ μ → σ 4 (rm * 5 + q) = μ 4 (rm * 5 + q) := fun σ h => h.1.2.2.1 _ hf
      have sG : ∀ σ, RW σ μ → σ 14 (a * 5 + q) = nI G := fun σ h => (h.2.2.1.1 _ hg).trans G2
      have sT : ∀ σ, RW σ μ → σ 3 rm = μ 3 rm := fun σ h => h.1.2.1 _ rm1
      have sC : ∀ σ, RW σ μ → σ 10 a = μ 7 a := fun σ h => (h.2.1.2 a ha).2.1
      have sR : ∀ σ, RW σ μ → σ 9 a = nI rm := fun σ h => (h.2.1.2 a ha).1.trans rm2
      have sY : ∀ σ, RW σ μ → σ 13 a = μ 10 a := fun σ h => (h.2.1.2 a ha).2.2.2.2
      by_cases hz : G = 0
      · subst hz
        have z0 : (nI 0 = (0 : Int32)) = True := by decide
        have z1 : ((0 : Int32) < nI 0) = False := by decide
        exact Or.inl ⟨3, 2, Or.inr ⟨rfl, rfl⟩, by simp only [a3, bd_s, m1, i10, if_false, jn_s, am1, g4, hNa, rm2, n5l, gf, hNf, F2, gg, hNg, G2, z0, if_true, can_ok, i20, bd2_s, i00], by simp only [n1, bt_0, a2, g4, hNa, hrs, f_X5_goodsAt, f_X5_needOwned, n5r, bd_s, gf, hNf, gg, hNg, sF τ hR, sG τ hR, z1, if_false, bt_e3]⟩
      · have z0 : (nI G = (0 : Int32)) = False := eq_false fun h => hz (nI_inj (a := G) (b := 0) (by omega) (by omega) h)
        have z1 : ((0 : Int32) < nI G) = True := eq_true (nI_lt (a := 0) (by omega) (by omega))
        have zm : nI G - 1 = nI (G - 1) := pk_sub (a := G) (b := 1) (by omega)
        have zc : nI G + (-1) = nI (G - 1) := by rw [← Int32.sub_eq_add_neg]; exact zm
        obtain ⟨μ5, hμ5⟩ : ∃ μ5, μ5 = mu (mu (mu μ 0 29 0) 11 (a * 5 + q) (nI (G - 1))) 2 (rm * 5 + q) (nI (F + 1)) := ⟨_, rfl⟩
        obtain ⟨μ'', e1, e2, e3, e4, e5, e6⟩ := act_end (a := a) (t := 1) (μ := μ) (μ5 := μ5) (w := -1) (b := -1) (K := 13) (b0 := nI q) (b1 := 0) (b2 := 0) (b3 := 0) (vf := fun _ => nI (G - 1)) hc ha (by rw [hμ5]; exact (((hI.thrown 0).mono (Nat.le_add_right c 1) (Nat.le_add_right _ 10)).goods _ ⟨G - 1, by omega, rfl⟩).floor _ ⟨F + 1, by omega, rfl⟩) (by unfold pcN; rw [hμ5, mu_n (by decide), mu_n (by decide), mu_pl (by decide)]) (by rw [hμ5, mu_n (by decide), mu_n (by decide), mu_at]) (by rw [hμ5, mu_n (by decide), mu_n (by decide), mu_pl (by decide)]; exact h23) (fun k k1 k2 => by rw [hμ5, mu_n (by omega), mu_n (by omega), mu_n (by omega)]) (by omega) (fun σ hRs => by
          refine ⟨mu (mu (mu σ 6 (rm * 5 + q) (nI (F + 1))) 14 (a * 5 + q) (nI (G - 1))) 13 a (σ 13 a + nI 1), ?_, fun σ' hq => play_drop (v := nI (G - 1)) (by omega) (next_of hI a4 hRs) ?_ hq⟩
          · have := (((hRs.thrown 0).floor (rm * 5 + q) (nI (F + 1))).goods (a * 5 + q) (nI (G - 1))).ready a (σ 13 a + nI 1)
            rw [hμ5, mu_n (show (10 : Nat) ≠ 2 by decide), mu_n (show (10 : Nat) ≠ 11 by decide), mu_n (show (10 : Nat) ≠ 0 by decide), ← sY σ hRs]
            rw [mu_comm (show (2 : Nat) ≠ 11 by decide)] at this
            exact this
          · unfold f_X4_perform f_X2_addToFloor f_X1_addGoods f_X5_goodsAt
            rw [g4, if_neg (by decide), if_neg (by decide), if_neg (by decide), if_neg (by decide), if_pos rfl]
            simp only [hNa, sR σ hRs, n5r, bd_s, bd2_s, gf, gg, hNf, hNg, stp_s, mu_at, sF σ hRs, mu_n (show (14 : Nat) ≠ 6 by decide), sG σ hRs, zc, nI_1])
        refine Or.inr ⟨nI (G - 1), μ'', ?_, ⟨e3, e4, e5, e6⟩, ?_⟩
        · simp only [a3, bd_s, m1, i10, if_false, jn_s, am1, g4, hNa, rm2, n5l, gf, hNf, F2, gg, hNg, G2, z0, can_ok, i00, if_true, bd2_s, stp_s, mu_n (show (6 : Nat) ≠ 0 by decide), mu_n (show (2 : Nat) ≠ 0 by decide), mu_n (show (11 : Nat) ≠ 0 by decide), mu_n (show (11 : Nat) ≠ 2 by decide), mu_n (show (2 : Nat) ≠ 11 by decide), mu_n (show (6 : Nat) ≠ 11 by decide), zm, nI_1]
          rw [← hμ5, show f_X6_ends μ5 (nI a) 1 (-1) (-1) = some μ'' from e1, bd_s, e2.1 11 (by decide) (by decide) (by decide) (by decide) (by decide) (by decide) (by decide) (by decide), hμ5, mu_n (by decide), mu_at]
        · simp only [n1, bt_0, a2, g4, hNa, hrs, f_X5_goodsAt, f_X5_needOwned, n5r, bd_s, gf, hNf, gg, hNg, sF τ hR, sG τ hR, z1, if_true]
  · exact Or.inl ⟨1, 1, Or.inl ⟨rfl, rfl⟩, by
      rcases actor_cases hI hR with ⟨-, -, a3⟩ | ⟨a, -, -, -, a3, -⟩ <;> simp only [a3, bd_s, m1, jn_s, can_ok, i10, i00, if_true, if_false, bd2_s], by simp only [n1, bt_e1]⟩
theorem op_rest {c : Nat} {τ μ : Mem} (B : Beg c τ μ) : OpR ok3 c τ μ 19 0 0 0 0 (f_X6_rest μ) (f_X5_rest τ) := by
  obtain ⟨hc, hI, h23, hR⟩ := B
  unfold f_X6_rest f_X5_rest
  rcases actor_cases hI hR with ⟨a1, a2, a3⟩ | ⟨a, ha, a1, a2, a3, a4⟩
  · exact Or.inl ⟨3, 1, ⟨rfl, rfl⟩, by simp only [a3, bd_s, jn_s, im1, if_true, can_ok, i10, if_false, bd2_s, i00], by simp only [a2, bt_e3]⟩
  ·
      have hnp := hI.np
      obtain ⟨⟨rm, rm1, rm2⟩, -⟩ := hI.pl ha
      have hrs : τ 9 a = nI rm := (hR.2.1.2 a ha).1.trans rm2
      have g4 : ∀ {α : Type} (x : Option α), gd (nI a) 4 x = x := fun x => gd_ok (by omega) (by decide)
      have hNa : (nI a).toNatClampNeg = a := N_nI (by omega)
      have hNr : (nI rm).toNatClampNeg = rm := N_nI (by omega)
      have g8 : ∀ {α : Type} (x : Option α), gd (nI rm) 8 x = x := fun x => gd_ok rm1 (by decide)
      have am1 : (nI a = -1) = False := nI_m1 (show a < 2 ^ 31 by omega)
      obtain ⟨-, -, ⟨h, h1, h2, h3⟩⟩ := hI.pl ha
      have sY : ∀ σ, RW σ μ → σ 13 a = μ 10 a := fun σ h => (h.2.1.2 a ha).2.2.2.2
      have sH : ∀ σ, RW σ μ → σ 12 a = nI h := fun σ hh => (hh.2.1.2 a ha).2.2.2.1.trans h3
      obtain ⟨h', hh1, hh2, hh3, hh4⟩ : ∃ h', 1 ≤ h' ∧ h' ≤ 20 ∧ (if 20 ≤ nI h then nI h + 0 else nI h + 1) = nI h' ∧ jmin (nI h + 1) 20 = nI h' := by
        rw [Int32.add_zero, nI_1]
        unfold jmin
        by_cases e : h = 20
        · subst e; exact ⟨20, by omega, by omega, by decide, by decide⟩
        · refine ⟨h + 1, by omega, by omega, ?_, ?_⟩
          · rw [if_neg (show ¬ (20 : Int32) ≤ nI h from nI_ge (a := h) (b := 20) (by omega) (by omega))]
          · rw [if_neg (show ¬ (20 : Int32) < nI (h + 1) from nI_nlt (a := 20) (b := h + 1) (by omega) (by omega))]
      obtain ⟨μ5, hμ5⟩ : ∃ μ5, μ5 = mu (mu μ 0 29 0) 9 a (nI h') := ⟨_, rfl⟩
      obtain ⟨μ'', e1, e2, e3, e4, e5, e6⟩ := act_end (a := a) (t := 2) (μ := μ) (μ5 := μ5) (w := -1) (b := -1) (K := 19) (b0 := 0) (b1 := 0) (b2 := 0) (b3 := 0) (vf := fun _ => nI h') hc ha (by rw [hμ5]; exact ((hI.thrown 0).mono (Nat.le_add_right c 1) (Nat.le_add_right _ 10)).health _ ⟨h', hh1, hh2, rfl⟩) (by unfold pcN; rw [hμ5, mu_n (by decide), mu_pl (by decide)]) (by rw [hμ5, mu_n (by decide), mu_at]) (by rw [hμ5, mu_n (by decide), mu_pl (by decide)]; exact h23) (fun k k1 k2 => by rw [hμ5, mu_n (by omega), mu_n (by omega)]) (by omega) (fun σ hRs => by
        refine ⟨mu (mu σ 12 a (nI h')) 13 a (σ 13 a + nI 2), ?_, fun σ' hq => play_rest (v := nI h') (by omega) (next_of hI a4 hRs) ?_ hq⟩
        · have := ((hRs.thrown 0).health a (nI h')).ready a (σ 13 a + nI 2)
          rw [hμ5, mu_n (show (10 : Nat) ≠ 9 by decide), mu_n (show (10 : Nat) ≠ 0 by decide), ← sY σ hRs]
          exact this
        · unfold f_X4_perform
          rw [g4, if_neg (by decide), if_neg (by decide), if_neg (by decide), if_neg (by decide), if_neg (by decide), if_neg (by decide), if_neg (by decide), if_neg (by decide), if_neg (by decide), if_neg (by decide)]
          simp only [hNa, g4, stp_s, mu_at, sH σ hRs, hh4])
      refine Or.inr ⟨nI h', μ'', ?_, ⟨e3, e4, e5, e6⟩, ?_⟩
      · simp only [a3, bd_s, i10, if_false, jn_s, am1, g4, hNa, can_ok, i00, if_true, bd2_s, stp_s, mu_n (show (9 : Nat) ≠ 0 by decide), h3]
        have fin : bd (f_X6_ends μ5 (nI a) 2 (-1) (-1)) (fun σ14 => some (σ14 9 a, σ14)) = some (nI h', μ'') := by
          rw [show f_X6_ends μ5 (nI a) 2 (-1) (-1) = some μ'' from e1, bd_s, e2.1 9 (by decide) (by decide) (by decide) (by decide) (by decide) (by decide) (by decide) (by decide), hμ5, mu_at]
        by_cases e : (20 : Int32) ≤ nI h
        · rw [if_pos e] at hh3
          rw [if_pos e, hh3, ← hμ5]; exact fin
        · rw [if_neg e] at hh3
          rw [if_neg e, hh3, ← hμ5]; exact fin
      · simp only [a2, bt_0]
