/-- the quests behind an act: both loops, from quest i on -/
theorem pursue_loop {a nq : Nat} {w b : Int32} : ∀ (n i g r : Nat) (μ : Mem), i ≤ nq → nq + 1 ≤ i + n → IW g r μ → a < pcN μ → qcN μ = nq →
    ∃ μ', (∀ k, L_X6_ends_13 n k (nI a) w b (nI i) μ = k μ') ∧ IW g r μ' ∧ SmE μ μ' ∧ ∀ σ, RW σ μ → ∃ σ', (∀ k, L_X4_pursueQuests_3 n k (nI a) w b (nI i) σ = k σ') ∧ RW σ' μ' := by
  intro n
  induction n with
  | zero => intro i g r μ h1 h2; omega
  | succ n ih =>
    intro i g r μ h1 h2 hI ha hq
    have hnp := hI.np
    have hnq := hI.nq
    have hqs : ∀ σ, RW σ μ → σ 18 0 = nI nq := fun σ hR => by
      obtain ⟨-, -, -, -, ⟨e0, -⟩⟩ := hR
      rw [e0, hnq.2, hq]
    by_cases hi : i = nq
    · subst hi
      refine ⟨μ, fun k => ?_, hI, SmE.rf, fun σ hR => ⟨σ, fun k => ?_, hR⟩⟩
      · rw [L_X6_ends_13, hnq.2, hq]
        exact if_pos (nI_le (Nat.le_refl _) (by omega))
      · rw [L_X4_pursueQuests_3, hqs σ hR]
        exact if_pos (nI_le (Nat.le_refl _) (by omega))
    · have hilt : i < nq := by omega
      obtain ⟨-, -, h3, -, -, -, -, -, -, -, h11⟩ := id hI
      obtain ⟨L, l1, l2, -⟩ := h3 i (by omega)
      have hj : a * 3 + i < 12 := by omega
      obtain ⟨t, t1, t2⟩ := h11 (a * 3 + i) hj
      have g12 : ∀ {α : Type} (x : Option α), gd (nI (a * 3 + i)) 12 x = x := fun x => gd_ok hj (by decide)
      have g3 : ∀ {α : Type} (x : Option α), gd (nI i) 3 x = x := fun x => gd_ok (by omega) (by decide)
      have g4 : ∀ {α : Type} (x : Option α), gd (nI a) 4 x = x := fun x => gd_ok (by omega) (by decide)
      have hN : (nI (a * 3 + i)).toNatClampNeg = a * 3 + i := N_nI (by omega)
      have hNi : (nI i).toNatClampNeg = i := N_nI (by omega)
      have hNa : (nI a).toNatClampNeg = a := N_nI (by omega)
      have hrd : ∀ σ, RW σ μ → σ 15 (a * 3 + i) = nI t ∧ σ 20 i = nI L ∧ σ 19 i = μ 14 i ∧ σ 10 a = μ 7 a ∧ σ 0 3 = μ 0 14 := fun σ hR => by
        obtain ⟨-, ⟨b0, b⟩, ⟨c1, c2, -⟩, ⟨d1, d2⟩, ⟨e0, e⟩⟩ := hR
        obtain ⟨f1, f2, -⟩ := e i (by omega)
        exact ⟨(c2 _ hj).trans t2, f2.trans l2, f1, (b a ha).2.1, d1⟩
      -- one quest on, with the state μ1 (and σ1 beside it)
      have go : ∀ μ1 : Mem, IW g r μ1 → SmE μ μ1 → ∃ μ', (∀ k, L_X6_ends_13 n k (nI a) w b (nI i + 1) μ1 = k μ') ∧ IW g r μ' ∧ SmE μ μ' ∧ ∀ σ1, RW σ1 μ1 → ∃ σ', (∀ k, L_X4_pursueQuests_3 n k (nI a) w b (nI i + 1) σ1 = k σ') ∧ RW σ' μ' := fun μ1 hI1 hS1 => by
        have e1 : pcN μ1 = pcN μ := by unfold pcN; rw [hS1.2 5 (by decide)]
        have e2 : qcN μ1 = qcN μ := by unfold qcN; rw [hS1.2 16 (by decide)]
        obtain ⟨μ', a1, a2, a3, a4⟩ := ih (i + 1) g r μ1 (by omega) (by omega) hI1 (by rw [e1]; exact ha) (by rw [e2]; exact hq)
        rw [nI_1]
        exact ⟨μ', a1, a2, hS1.tr a3, a4⟩
      by_cases hlt : nI L ≤ nI t
      · obtain ⟨μ', a1, a2, a3, a4⟩ := go μ hI SmE.rf
        refine ⟨μ', fun k => ?_, a2, a3, fun σ hR => ?_⟩
        · rw [L_X6_ends_13, hnq.2, hq, if_neg (nI_ge (by omega) (by omega))]
          simp only [n3l, g12, g3, hN, hNi, t2, l2, jn_s]
          rw [if_pos hlt]
          exact a1 k
        · obtain ⟨r1, r2, -⟩ := hrd σ hR
          obtain ⟨σ', b1, b2⟩ := a4 σ hR
          refine ⟨σ', fun k => ?_, b2⟩
          rw [L_X4_pursueQuests_3, hqs σ hR, if_neg (nI_ge (by omega) (by omega))]
          simp only [f_X5_reachedAt, bd_s, n3r, g12, g3, hN, hNi, r1, r2, jn_s]
          rw [if_pos hlt]
          exact b1 k
      · have htL : t < L := Nat.lt_of_not_le fun z => hlt (nI_le z (by omega))
        obtain ⟨v, v1, v2, v3⟩ := fulfilled_ok (w := w) (b := b) hI ha (by omega) l2 l1 htL
        have hm : ∀ k, L_X6_ends_13 (n + 1) k (nI a) w b (nI i) μ = if v = 0 then L_X6_ends_13 n k (nI a) w b (nI i + 1) μ else
            (if nI L ≤ nI (t + 1) then (if μ 0 14 ≤ μ 14 i then L_X6_ends_13 n k (nI a) w b (nI i + 1) (mu (mu (mu μ 19 (a * 3 + i) (nI (t + 1))) 7 a (μ 7 a + μ 0 14)) 0 14 (μ 0 14 - μ 0 14)) else L_X6_ends_13 n k (nI a) w b (nI i + 1) (mu (mu (mu μ 19 (a * 3 + i) (nI (t + 1))) 7 a (μ 7 a + μ 14 i)) 0 14 (μ 0 14 - μ 14 i)))
             else L_X6_ends_13 n k (nI a) w b (nI i + 1) (mu (mu (mu μ 19 (a * 3 + i) (nI (t + 1))) 7 a (μ 7 a + 0)) 0 14 (μ 0 14 - 0))) := fun k => by
          rw [L_X6_ends_13, hnq.2, hq, if_neg (nI_ge (by omega) (by omega))]
          simp only [n3l, g12, g3, hN, hNi, t2, l2, jn_s]
          rw [if_neg hlt]
          simp only [n4l, v2, bd_s]
          by_cases hv : v = 0
          · rw [if_pos hv, if_pos hv]
          · rw [if_neg hv, if_neg hv]
            simp only [stp_s, g4, hNa, nI_1, mu_at, mu_n (show (15 : Nat) ≠ 19 by decide), mu_n (show (0 : Nat) ≠ 19 by decide), mu_n (show (14 : Nat) ≠ 19 by decide), mu_n (show (7 : Nat) ≠ 19 by decide), mu_n (show (0 : Nat) ≠ 7 by decide), l2]
        have hc : ∀ σ, RW σ μ → ∀ k, L_X4_pursueQuests_3 (n + 1) k (nI a) w b (nI i) σ = if v = 0 then L_X4_pursueQuests_3 n k (nI a) w b (nI i + 1) σ else
            (if nI (t + 1) = nI L then L_X4_pursueQuests_3 n k (nI a) w b (nI i + 1) (mu (mu (mu σ 15 (a * 3 + i) (nI (t + 1))) 0 3 (μ 0 14 - jmin (μ 14 i) (μ 0 14))) 10 a (μ 7 a + jmin (μ 14 i) (μ 0 14)))
             else L_X4_pursueQuests_3 n k (nI a) w b (nI i + 1) (mu σ 15 (a * 3 + i) (nI (t + 1)))) := fun σ hR k => by
          obtain ⟨r1, r2, r3, r4, r5⟩ := hrd σ hR
          rw [L_X4_pursueQuests_3, hqs σ hR, if_neg (nI_ge (by omega) (by omega))]
          simp only [f_X5_reachedAt, f_X5_stageAt, bd_s, n3r, n4r, g12, g3, hN, hNi, r1, r2, jn_s]
          rw [if_neg hlt]
          simp only [v3 σ hR, bd_s]
          by_cases hv : v = 0
          · rw [if_pos hv, if_pos hv]
          · rw [if_neg hv, if_neg hv]
            unfold f_X4_reward
            simp only [stp_s, g4, hNa, nI_1, mu_at, bd_s, mu_n (show (20 : Nat) ≠ 15 by decide), mu_n (show (19 : Nat) ≠ 15 by decide), mu_n (show (0 : Nat) ≠ 15 by decide), mu_n (show (10 : Nat) ≠ 15 by decide), mu_n (show (10 : Nat) ≠ 0 by decide), r2, r3, r4, r5]
        rcases v1 with rfl | rfl
        · obtain ⟨μ', a1, a2, a3, a4⟩ := go μ hI SmE.rf
          refine ⟨μ', fun k => ?_, a2, a3, fun σ hR => ?_⟩
          · rw [hm, if_pos rfl]; exact a1 k
          · obtain ⟨σ', b1, b2⟩ := a4 σ hR
            exact ⟨σ', fun k => by rw [hc σ hR, if_pos rfl]; exact b1 k, b2⟩
        · have hI1 : IW g r (mu μ 19 (a * 3 + i) (nI (t + 1))) := hI.reached _ ⟨t + 1, by omega, rfl⟩
          have hS1 : SmE μ (mu μ 19 (a * 3 + i) (nI (t + 1))) := ⟨fun k _ _ c => mu_n c, fun j _ => by rw [mu_n (by decide)]⟩
          by_cases hl : t + 1 = L
          · have hle : nI L ≤ nI (t + 1) := nI_le (by omega) (by omega)
            -- the last stage: the reward
            obtain ⟨x, hx, hmx⟩ : ∃ x : Int32, jmin (μ 14 i) (μ 0 14) = x ∧ ∀ k, L_X6_ends_13 (n + 1) k (nI a) w b (nI i) μ = L_X6_ends_13 n k (nI a) w b (nI i + 1) (mu (mu (mu μ 19 (a * 3 + i) (nI (t + 1))) 7 a (μ 7 a + x)) 0 14 (μ 0 14 - x)) := by
              refine ⟨_, rfl, fun k => ?_⟩
              rw [hm, if_neg (by decide), if_pos hle, jmin_eq]
              by_cases hh : μ 0 14 ≤ μ 14 i
              · rw [if_pos hh, if_pos hh]
              · rw [if_neg hh, if_neg hh]
            obtain ⟨μ', a1, a2, a3, a4⟩ := go (mu (mu (mu μ 19 (a * 3 + i) (nI (t + 1))) 7 a (μ 7 a + x)) 0 14 (μ 0 14 - x)) ((hI1.coins _ _).purse _) (hS1.tr ⟨fun k q1 q2 _ => by rw [mu_n q1, mu_n q2], fun j q => by rw [mu_pl q, mu_n (by decide)]⟩)
            refine ⟨μ', fun k => by rw [hmx]; exact a1 k, a2, a3, fun σ hR => ?_⟩
            have hR1 := ((hR.reached (a * 3 + i) (nI (t + 1))).coins a (μ 7 a + x)).purse (μ 0 14 - x)
            rw [mu_comm (show (10 : Nat) ≠ 0 by decide)] at hR1
            obtain ⟨σ', b1, b2⟩ := a4 _ hR1
            refine ⟨σ', fun k => ?_, b2⟩
            rw [hc σ hR, if_neg (by decide), if_pos (by rw [hl]), hx]
            exact b1 k
          · have hle : ¬ nI L ≤ nI (t + 1) := nI_ge (by omega) (by omega)
            have hmx : ∀ k, L_X6_ends_13 (n + 1) k (nI a) w b (nI i) μ = L_X6_ends_13 n k (nI a) w b (nI i + 1) (mu μ 19 (a * 3 + i) (nI (t + 1))) := fun k => by
              rw [hm, if_neg (by decide), if_neg hle, Int32.add_zero, Int32.sub_zero]
              have e1 := mu_id (mu μ 19 (a * 3 + i) (nI (t + 1))) 7 a
              rw [mu_n (show (7 : Nat) ≠ 19 by decide)] at e1
              have e2 := mu_id (mu μ 19 (a * 3 + i) (nI (t + 1))) 0 14
              rw [mu_n (show (0 : Nat) ≠ 19 by decide)] at e2
              rw [e1, e2]
            obtain ⟨μ', a1, a2, a3, a4⟩ := go _ hI1 hS1
            refine ⟨μ', fun k => by rw [hmx]; exact a1 k, a2, a3, fun σ hR => ?_⟩
            obtain ⟨σ', b1, b2⟩ := a4 _ (hR.reached (a * 3 + i) (nI (t + 1)))
            refine ⟨σ', fun k => ?_, b2⟩
            rw [hc σ hR, if_neg (by decide), if_neg (fun z => hl (nI_inj (by omega) (by omega) z))]
            exact b1 k
