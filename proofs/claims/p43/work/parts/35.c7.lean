/-! ATTACK -/
def bM (l w ro : Nat) (y : Int32) (μ : Mem) : Mem := mu (mu (mu (dlt 11 2 l ro 0 (payM 7 l w μ)) 6 l 0) 9 l 10) 10 l y
def bC (l w ro : Nat) (y : Int32) (σ : Mem) : Mem := mu (mu (mu (dlt 14 6 l ro 0 (payM 10 l w σ)) 9 l 0) 12 l 10) 13 l y
theorem payM_mu {kc l w k i : Nat} {v : Int32} {σ : Mem} (h : k ≠ kc) : payM kc l w (mu σ k i v) = mu (payM kc l w σ) k i v := by
  unfold payM
  rw [mu_n (Ne.symm h), mu_comm h, mu_n (Ne.symm h), mu_comm h]
theorem dlt_mu {ig jf l ro i k j : Nat} {v : Int32} {σ : Mem} (h1 : k ≠ ig) (h2 : k ≠ jf) : dlt ig jf l ro i (mu σ k j v) = mu (dlt ig jf l ro i σ) k j v := by
  funext a
  by_cases h : a = k
  · subst h
    rw [mu_s, dlt_n h1 h2, dlt_n h1 h2, mu_s]
  · rw [mu_n h]
    unfold dlt
    rw [mu_n (Ne.symm h1), mu_n (Ne.symm h2), mu_n h]
theorem bM_9 {l w ro : Nat} {y h : Int32} {μ : Mem} : bM l w ro y (mu μ 9 l h) = bM l w ro y μ := by
  unfold bM
  rw [payM_mu (by decide), dlt_mu (by decide) (by decide), mu_comm (show (9 : Nat) ≠ 6 by decide), mu_mu]
theorem bM_10 {l w ro : Nat} {y x : Int32} {μ : Mem} : bM l w ro y (mu μ 10 l x) = bM l w ro y μ := by
  unfold bM
  rw [payM_mu (by decide), dlt_mu (by decide) (by decide), mu_comm (show (10 : Nat) ≠ 6 by decide), mu_comm (show (10 : Nat) ≠ 9 by decide), mu_mu]
theorem bM_10a {l w ro a : Nat} {y x : Int32} {μ : Mem} (h : a ≠ l) : bM l w ro y (mu μ 10 a x) = mu (bM l w ro y μ) 10 a x := by
  unfold bM
  rw [payM_mu (by decide), dlt_mu (by decide) (by decide), mu_comm (show (10 : Nat) ≠ 6 by decide), mu_comm (show (10 : Nat) ≠ 9 by decide), mu_commP h]
theorem RW.b {σ μ : Mem} (h : RW σ μ) {l w ro : Nat} (hl : l < pcN μ) (hw : w < pcN μ) (h4 : pcN μ ≤ 4) (hro : ro < 8) (y : Int32) : RW (bC l w ro y σ) (bM l w ro y μ) := by
  have e1 : σ 10 l = μ 7 l := (h.2.1.2 l hl).2.1
  have e2 : mu σ 10 l (μ 7 l - μ 7 l / 2) 10 w = mu μ 7 l (μ 7 l - μ 7 l / 2) 7 w := by
    rw [mu_s, mu_s]
    unfold upd
    split
    · rfl
    · exact (h.2.1.2 w hw).2.1
  unfold bC bM payM
  rw [e1, e2]
  exact (((((h.coins l _).coins w _).dlt (by omega) hro).room l 0).health l 10).ready l y
theorem IW.b {g r r' : Nat} {μ : Mem} (h : IW g r μ) {l w ro q : Nat} (hl : l < pcN μ) (hro : ro < 8) (hg : g ≤ 600) (hr : r ≤ r') (hq : q ≤ r') : IW (g + 1) r' (bM l w ro (nI q) μ) := by
  have h4 := h.np.1
  unfold bM payM
  have h2 := (((((h.mono (Nat.le_refl g) hr).coins l (μ 7 l - μ 7 l / 2)).coins w (mu μ 7 l (μ 7 l - μ 7 l / 2) 7 w + μ 7 l / 2)).dlt (l := l) (ro := ro) (by omega) hro hg).room l (v := 0) ⟨0, by omega, rfl⟩).health l (v := 10) ⟨10, by omega, by omega, rfl⟩
  refine h2.ready l ?_ ⟨q, hq, rfl⟩
  unfold pcN at hl ⊢
  rw [mu_n (by decide), mu_n (by decide), dlt_n (by decide) (by decide), mu_n (by decide), mu_n (by decide)]
  exact hl
theorem bM_n {l w ro k : Nat} {y : Int32} {μ : Mem} (h : k ≠ 2 ∧ k ≠ 6 ∧ k ≠ 7 ∧ k ≠ 9 ∧ k ≠ 10 ∧ k ≠ 11) : bM l w ro y μ k = μ k := by
  unfold bM
  rw [mu_n h.2.2.2.2.1, mu_n h.2.2.2.1, mu_n h.2.1, dlt_n h.2.2.2.2.2 h.1, payM_n h.2.2.1]
/-- an attack, played: nobody is beaten -/
theorem play_att0 {σ σ5 σ6 : Mem} {a : Nat} {b0 b1 b2 b3 : Int32} (ha : a < 4) (hn : f_X1_next σ = some (nI a)) (hp : f_X4_fight σ (nI a) b0 = some (-1, σ5)) (hq : f_X4_pursueQuests (mu σ5 13 a (σ 13 a + nI 3)) (nI a) (-1) (-1) = some σ6) : f_X4_play σ 18 b0 b1 b2 b3 = some (-1, σ6) := by
  unfold f_X4_play f_X4_perform
  rw [if_pos (by decide), hn, bd_s, if_neg (nI_neg1 (by omega)), gd_ok (by omega) (by decide), gd_ok (by omega) (by decide), if_neg (by decide), if_neg (by decide), if_neg (by decide), if_neg (by decide), if_neg (by decide), if_neg (by decide), if_neg (by decide), if_neg (by decide), if_neg (by decide), if_pos rfl, hp, bd2_s, bd2_s, show f_X4_costOf 18 = some (nI 3) from by decide, bd_s, gd_ok (by omega) (by decide), N_nI (by omega), stp_s]
  have hne : ¬ (-1 : Int32) = nI a := fun h => nI_neg1 (a := a) (by omega) h.symm
  simp only [jn_s, ite_self, hq, bd_s, if_neg hne, show ((18 : Int32) = 10) = False from by decide, show ((18 : Int32) = 11) = False from by decide, show ((18 : Int32) = 15) = False from by decide, show ((18 : Int32) = 16) = False from by decide, show ((18 : Int32) = 17) = False from by decide, if_true, if_false, i10]
/-- an attack, played: the player l is beaten -/
theorem play_att1 {σ σ5 σ4 σ6 : Mem} {a l : Nat} {b0 b1 b2 b3 : Int32} (ha : a < 4) (hl : l < 4) (hn : f_X1_next σ = some (nI a)) (hp : f_X4_fight σ (nI a) b0 = some (nI l, σ5)) (hd : f_X4_defeat (mu σ5 13 a (σ 13 a + nI 3)) (nI l) (if nI l = nI a then b0 else nI a) (σ 13 a) = some σ4) (hq : f_X4_pursueQuests σ4 (nI a) (-1) (if nI l = nI a then -1 else nI l) = some σ6) : f_X4_play σ 18 b0 b1 b2 b3 = some (nI l, σ6) := by
  unfold f_X4_play f_X4_perform
  rw [if_pos (by decide), hn, bd_s, if_neg (nI_neg1 (by omega)), gd_ok (by omega) (by decide), gd_ok (by omega) (by decide), if_neg (by decide), if_neg (by decide), if_neg (by decide), if_neg (by decide), if_neg (by decide), if_neg (by decide), if_neg (by decide), if_neg (by decide), if_neg (by decide), if_pos rfl, hp, bd2_s, bd2_s, show f_X4_costOf 18 = some (nI 3) from by decide, bd_s, gd_ok (by omega) (by decide), N_nI (by omega), stp_s]
  have hne : (nI l = -1) = False := nI_m1 (by omega)
  by_cases e : nI l = nI a
  · rw [if_pos e] at hd hq
    simp only [jn_s, hne, if_false, if_pos e, if_true, hd, bd_s, hq, show ((18 : Int32) = 10) = False from by decide, show ((18 : Int32) = 11) = False from by decide, show ((18 : Int32) = 15) = False from by decide, show ((18 : Int32) = 16) = False from by decide, show ((18 : Int32) = 17) = False from by decide]
  · rw [if_neg e] at hd hq
    simp only [jn_s, hne, if_false, if_neg e, if_true, hd, bd_s, hq, show ((18 : Int32) = 10) = False from by decide, show ((18 : Int32) = 11) = False from by decide, show ((18 : Int32) = 15) = False from by decide, show ((18 : Int32) = 16) = False from by decide, show ((18 : Int32) = 17) = False from by decide]
theorem op_attack {c : Nat} {τ μ : Mem} (B : Beg c τ μ) (x : Int32) : OpR ok13 c τ μ 18 x 0 0 0 (f_X6_attack μ x) (f_X5_attack τ x) := by
  obtain ⟨hc, hI, h23, hR⟩ := B
  unfold f_X6_attack f_X5_attack
  rcases player_cases hI hR x with ⟨pl, p1, rfl, pn, pm⟩ | ⟨pn, pm⟩
  · rcases actor_cases hI hR with ⟨a1, a2, a3⟩ | ⟨a, ha, a1, a2, a3, a4⟩
    · exact Or.inl ⟨3, 2, Or.inr ⟨rfl, rfl⟩, by simp only [a3, bd_s, pm, i10, if_false, jn_s, away_m1, can_ok, i20, bd2_s, i00, if_true], by simp only [pn, bt_0, a2, bt_e3]⟩
    · have hnp := hI.np
      rcases company_cases hI hR ha p1 with ⟨c1, c2, c3, c4⟩ | ⟨c3, c4⟩
      · obtain ⟨⟨rm, rm1, rm2⟩, -⟩ := hI.pl ha
        have g4 : ∀ {α : Type} (x : Option α), gd (nI a) 4 x = x := fun x => gd_ok (by omega) (by decide)
        have hNa : (nI a).toNatClampNeg = a := N_nI (by omega)
        have am1 : ¬ (-1 : Int32) = nI a := fun h => nI_neg1 (a := a) (by omega) h.symm
        have pm1 : ¬ (-1 : Int32) = nI pl := fun h => nI_neg1 (a := pl) (by omega) h.symm
        obtain ⟨-, -, -, -, -, -, -, -, h9, -⟩ := id hI
        obtain ⟨T, T1, T2⟩ := h9 a (by omega)
        obtain ⟨v, μf, f1, f2, f3, f4⟩ := fight_loop (np := pcN μ) hnp.1 ha p1 (Ne.symm c1) FU 0 c (13 * c) (mu μ 0 29 0) (by omega) (by show 5 ≤ 0 + 6000; omega) (hI.thrown 0) (by unfold pcN; rw [mu_pl (by decide)])
        have hf0 : ∀ i, i ≠ 15 → μf 0 i = mu μ 0 29 0 0 i := fun i h => f3.2 i h
        have hfk : ∀ k, k ≠ 0 → k ≠ 9 → μf k = μ k := fun k h1 h2 => by rw [f3.1 k h1 h2, mu_n h1]
        have hpf : pcN μf = pcN μ := by unfold pcN; rw [hf0 5 (by decide), mu_pl (by decide)]
        have fcls : ∀ σ, RW σ μ → ∃ σ', (v = -1 → f_X4_fight σ (nI a) (nI pl) = some (-1, σ')) ∧ (v ≠ -1 → f_X4_fight σ (nI a) (nI pl) = some (v, σ')) ∧ RW σ' μf := fun σ hRs => by
          obtain ⟨σ', s1, s2, s3⟩ := f4 σ (hRs.thrown 0)
          exact ⟨σ', fun h => s1 h (fun σ6 => some (-1, σ6)), fun h => s2 h _, s3⟩
        have hm : ∀ {k : Int32 → Mem → Option (Int32 × Mem)}, L_X6_attack_45 FU k (nI pl) (nI a) (-1) 0 (mu μ 0 29 0) = k v μf := fun {k} => f2 k
        have hx5 : f_X5_attack τ (nI pl) = bd2 (f_X5_keep τ 18 (nI pl) 0 0 0) fun v σ => some (0, v, σ) := by
          unfold f_X5_attack
          simp only [pn, bt_0, a2, c3]
        unfold f_X5_attack at hx5
        -- what the reference does behind the fight
        have hm0 : v = -1 → ∀ μ'', f_X6_ends μf (nI a) 3 (-1) (-1) = some μ'' → f_X6_attack μ (nI pl) = some (-1, μ'') := fun hv μ'' he => by
          subst hv
          unfold f_X6_attack
          simp only [a3, bd_s, pm, i10, if_false, jn_s, c4, i00, if_true, can_ok, bd2_s, hm, if_neg am1, if_neg pm1, he]
        rcases f1 with ⟨rfl, hIf⟩ | ⟨l, hl, rfl, hIf⟩
        · obtain ⟨μ'', e1, e2, e3, e4, e5, e6⟩ := act_end (a := a) (t := 3) (μ := μ) (μ5 := μf) (w := -1) (b := -1) (K := 18) (b0 := nI pl) (b1 := 0) (b2 := 0) (b3 := 0) (vf := fun _ => -1) hc ha (hIf.mono (by omega) (by omega)) hpf (by rw [hf0 29 (by decide), mu_at]) (by rw [hf0 23 (by decide), mu_pl (by decide)]; exact h23) (fun k k1 k2 => hfk k (by omega) (by omega)) (by omega) (fun σ hRs => by
            obtain ⟨σ5, s1, -, s3⟩ := fcls σ hRs
            have ht2 : σ 13 a = μf 10 a := by rw [hfk 10 (by decide) (by decide)]; exact (hRs.2.1.2 a ha).2.2.2.2
            refine ⟨mu σ5 13 a (σ 13 a + nI 3), ?_, fun σ' hq => play_att0 (by omega) (next_of hI a4 hRs) (s1 rfl) hq⟩
            rw [ht2]; exact s3.ready a _)
          refine Or.inr ⟨-1, μ'', ?_, ⟨e3, e4, e5, e6⟩, hx5⟩
          have := hm0 rfl μ'' e1
          unfold f_X6_attack at this
          exact this
        · have hl4 : l < pcN μ := by rcases hl with rfl | rfl <;> assumption
          have lm1 : (nI l = -1) = False := nI_m1 (by omega)
          have lm1' : nI l ≠ -1 := fun h => nI_neg1 (by omega) h
          have tms : ∀ σ, RW σ μ → σ 13 a = nI T := fun σ hRs => (hRs.2.1.2 a ha).2.2.2.2.trans T2
          have tmf : μf 10 a = nI T := by rw [hfk 10 (by decide) (by decide)]; exact T2
          have rf : ∀ j, μf 6 j = μ 6 j := fun j => by rw [hfk 6 (by decide) (by decide)]
          have hten : nI T + 10 = nI (T + 10) := nI_add T 10
          by_cases hla : l = a
          · -- the actor is beaten
            subst hla
            have nlp : ¬ nI l = nI pl := fun h => c1 (nI_inj (by omega) (by omega) h).symm
            obtain ⟨μ5, hμ5⟩ : ∃ μ5, μ5 = bM l pl rm (nI (T + 10)) μf := ⟨_, rfl⟩
            have hb : f_X6_isBeaten μf (nI l) (nI pl) (nI T) = some μ5 := by
              rw [beaten_eq (l := l) (w := pl) (ro := rm) (by omega) (by omega) rm1 (by rw [rf]; exact rm2), hten, tmf, if_pos (nI_le (by omega) (by omega)), hμ5]; rfl
            have h50 : ∀ k, (k ≠ 2 ∧ k ≠ 6 ∧ k ≠ 7 ∧ k ≠ 9 ∧ k ≠ 10 ∧ k ≠ 11) → μ5 k = μf k := fun k h => by rw [hμ5, bM_n h]
            have h510 : μ5 10 l = nI (T + 10) := by rw [hμ5]; unfold bM; rw [mu_at]
            obtain ⟨μ'', e1, e2, e3, e4, e5, e6⟩ := act_end (a := l) (t := 0) (μ := μ) (μ5 := μ5) (w := -1) (b := -1) (K := 18) (b0 := nI pl) (b1 := 0) (b2 := 0) (b3 := 0) (vf := fun _ => nI l) hc ha (by
                rw [hμ5, ← bM_9 (h := 10)]
                exact hIf.b (by unfold pcN; rw [mu_n (by decide)]; unfold pcN at hpf ha; rw [hpf]; exact ha) rm1 (by omega) (by omega) (by omega)) (by unfold pcN; rw [h50 0 (by decide)]; exact hpf) (by rw [h50 0 (by decide), hf0 29 (by decide), mu_at]) (by rw [h50 0 (by decide), hf0 23 (by decide), mu_pl (by decide)]; exact h23) (fun k k1 k2 => by rw [h50 k (by omega), hfk k (by omega) (by omega)]) (by omega) (fun σ hRs => by
              obtain ⟨σ5, -, s2, s3⟩ := fcls σ hRs
              have r7 := s3.ready l (nI T + nI 3)
              have hrs7 : mu σ5 13 l (nI T + nI 3) 9 l = nI rm := by rw [mu_n (by decide), (s3.2.1.2 l (by rw [hpf]; exact ha)).1, rf]; exact rm2
              refine ⟨bC l pl rm (nI (T + 10)) (mu σ5 13 l (nI T + nI 3)), ?_, fun σ' hq => play_att1 (σ5 := σ5) (σ4 := bC l pl rm (nI (T + 10)) (mu σ5 13 l (nI T + nI 3))) (by omega) (by omega) (next_of hI a4 hRs) (s2 lm1') ?_ (by rw [if_pos rfl]; exact hq)⟩
              · have := r7.b (l := l) (w := pl) (ro := rm) (by unfold pcN; rw [mu_n (by decide)]; unfold pcN at hpf ha; rw [hpf]; exact ha) (by unfold pcN; rw [mu_n (by decide)]; unfold pcN at hpf p1; rw [hpf]; exact p1) (by unfold pcN; rw [mu_n (by decide)]; have := hnp.1; unfold pcN at hpf this; rw [hpf]; exact this) rm1 (nI (T + 10))
                rw [bM_10, ← hμ5] at this
                have e : mu μ5 10 l (μ5 10 l + nI 0) = μ5 := by rw [show nI 0 = (0 : Int32) from rfl, Int32.add_zero, mu_id]
                rw [e]
                exact this
              · rw [tms σ hRs, if_pos rfl, defeat_eq (l := l) (w := pl) (ro := rm) (by omega) (by omega) rm1 hrs7, mu_at, nI_add, hten, if_pos (nI_le (by omega) (by omega))]
                rfl)
            refine Or.inr ⟨nI l, μ'', ?_, ⟨e3, e4, e5, e6⟩, hx5⟩
            simp only [a3, bd_s, pm, i10, if_false, jn_s, c4, i00, if_true, can_ok, bd2_s, hm, lm1, if_neg nlp, g4, hNa, tmf, hb]
            rw [show f_X6_ends μ5 (nI l) 0 (-1) (-1) = some μ'' from e1, bd_s]
          · -- the other one is beaten
            have hlp : l = pl := hl.resolve_left hla
            subst hlp
            have nla : ¬ nI l = nI a := fun h => hla (nI_inj (by omega) (by omega) h)
            obtain ⟨T', T1', T2'⟩ := h9 l (by omega)
            have tmf' : μf 10 l = nI T' := by rw [hfk 10 (by decide) (by decide)]; exact T2'
            obtain ⟨q, q1, q2⟩ : ∃ q, q ≤ 13 * c + 10 ∧ (if nI T' ≤ nI (T + 10) then nI (T + 10) else nI T') = nI q := by
              by_cases h : nI T' ≤ nI (T + 10)
              · exact ⟨T + 10, by omega, if_pos h⟩
              · exact ⟨T', by omega, if_neg h⟩
            obtain ⟨μ5, hμ5⟩ : ∃ μ5, μ5 = bM l a rm (nI q) μf := ⟨_, rfl⟩
            have hb : f_X6_isBeaten μf (nI l) (nI a) (nI T) = some μ5 := by
              rw [beaten_eq (l := l) (w := a) (ro := rm) (by omega) (by omega) rm1 (by rw [rf, c2]; exact rm2), hten, tmf', q2, hμ5]; rfl
            have h50 : ∀ k, (k ≠ 2 ∧ k ≠ 6 ∧ k ≠ 7 ∧ k ≠ 9 ∧ k ≠ 10 ∧ k ≠ 11) → μ5 k = μf k := fun k h => by rw [hμ5, bM_n h]
            have h510 : μ5 10 a = nI T := by
              rw [hμ5]; unfold bM
              rw [mu_pl (Ne.symm hla), mu_n (by decide), mu_n (by decide), dlt_n (by decide) (by decide), payM_n (by decide)]; exact tmf
            obtain ⟨μ'', e1, e2, e3, e4, e5, e6⟩ := act_end (a := a) (t := 3) (μ := μ) (μ5 := μ5) (w := -1) (b := nI l) (K := 18) (b0 := nI l) (b1 := 0) (b2 := 0) (b3 := 0) (vf := fun _ => nI l) hc ha (by
                rw [hμ5, ← bM_9 (h := 10)]
                exact hIf.b (by unfold pcN; rw [mu_n (by decide)]; unfold pcN at hpf p1; rw [hpf]; exact p1) rm1 (by omega) (by omega) q1) (by unfold pcN; rw [h50 0 (by decide)]; exact hpf) (by rw [h50 0 (by decide), hf0 29 (by decide), mu_at]) (by rw [h50 0 (by decide), hf0 23 (by decide), mu_pl (by decide)]; exact h23) (fun k k1 k2 => by rw [h50 k (by omega), hfk k (by omega) (by omega)]) (by omega) (fun σ hRs => by
              obtain ⟨σ5, -, s2, s3⟩ := fcls σ hRs
              have r7 := s3.ready a (nI T + nI 3)
              have hrs7 : mu σ5 13 a (nI T + nI 3) 9 l = nI rm := by rw [mu_n (by decide), (s3.2.1.2 l (by rw [hpf]; exact p1)).1, rf, c2]; exact rm2
              have ht7 : mu σ5 13 a (nI T + nI 3) 13 l = nI T' := by rw [mu_pl hla, (s3.2.1.2 l (by rw [hpf]; exact p1)).2.2.2.2]; exact tmf'
              refine ⟨bC l a rm (nI q) (mu σ5 13 a (nI T + nI 3)), ?_, fun σ' hq => play_att1 (σ5 := σ5) (σ4 := bC l a rm (nI q) (mu σ5 13 a (nI T + nI 3))) (by omega) (by omega) (next_of hI a4 hRs) (s2 lm1') ?_ (by rw [if_neg nla]; exact hq)⟩
              · have := r7.b (l := l) (w := a) (ro := rm) (by unfold pcN; rw [mu_n (by decide)]; unfold pcN at hpf p1; rw [hpf]; exact p1) (by unfold pcN; rw [mu_n (by decide)]; unfold pcN at hpf ha; rw [hpf]; exact ha) (by unfold pcN; rw [mu_n (by decide)]; have := hnp.1; unfold pcN at hpf this; rw [hpf]; exact this) rm1 (nI q)
                rw [bM_10a (Ne.symm hla), ← hμ5] at this
                rw [h510]
                exact this
              · rw [tms σ hRs, if_neg nla, defeat_eq (l := l) (w := a) (ro := rm) (by omega) (by omega) rm1 hrs7, ht7, hten, q2]
                rfl)
            refine Or.inr ⟨nI l, μ'', ?_, ⟨e3, e4, e5, e6⟩, hx5⟩
            simp only [a3, bd_s, pm, i10, if_false, jn_s, c4, i00, if_true, can_ok, bd2_s, hm, lm1, g4, hNa, tmf, hb, if_neg nla]
            rw [show f_X6_ends μ5 (nI a) 3 (-1) (nI l) = some μ'' from e1, bd_s]
      · exact Or.inl ⟨3, 2, Or.inr ⟨rfl, rfl⟩, by simp only [a3, bd_s, pm, c4, i10, if_false, jn_s, can_ok, i20, bd2_s, i00, if_true], by simp only [pn, bt_0, a2, c3, bt_e3]⟩
  · exact Or.inl ⟨1, 1, Or.inl ⟨rfl, rfl⟩, by
      rcases actor_cases hI hR with ⟨-, -, a3⟩ | ⟨a, -, -, -, a3, -⟩ <;> simp only [a3, bd_s, pm, jn_s, can_ok, i10, i00, if_true, if_false, bd2_s], by simp only [pn, bt_e1]⟩
