theorem op_say {c : Nat} {τ μ : Mem} (B : Beg c τ μ) (d : Int32) : OpR ok23 c τ μ 10 d 0 0 0 (f_X6_say μ d) (f_X5_say τ d) := by
  obtain ⟨hc, hI, h23, hR⟩ := B
  unfold f_X6_say f_X6_speaks f_X5_say
  rcases range_cases d 0 99 (by decide) (by decide) with ⟨q, q1, q2, rfl, n1, m1⟩ | ⟨n1, m1⟩
  · have n1 : f_X5_needRange (nI q) 0 99 = some (0, 0) := n1
    have m1 : f_X6_isIn (nI q) 0 99 = some 1 := m1
    rcases actor_cases hI hR with ⟨a1, a2, a3⟩ | ⟨a, ha, a1, a2, a3, a4⟩
    · exact Or.inl ⟨3, 2, Or.inr ⟨rfl, rfl⟩, by simp only [a3, bd_s, m1, i10, if_false, jn_s, im1, if_true, can_ok, i20, bd2_s, i00], by simp only [n1, bt_0, a2, bt_e3]⟩
    · have hnp := hI.np
      obtain ⟨⟨rm, rm1, rm2⟩, -⟩ := hI.pl ha
      obtain ⟨c', μ5, b0, b1, b2, b3, b4⟩ := tell_loop (a := a) (w := nI q) (loud := 0) (Or.inl rfl) hnp.1 ha rm1 FU 0 0 c (13 * c) (mu μ 0 29 0) (Nat.zero_le _) (by show _ + 1 ≤ 0 + 6000; omega) (hI.thrown 0) (by unfold pcN; rw [mu_pl (by decide)]) (by rw [mu_n (by decide)]; exact rm2) (Nat.le_refl _)
      have f0 : μ5 0 = mu μ 0 29 0 0 := b3 0 (by decide) (by decide)
      obtain ⟨μ'', e1, e2, e3, e4, e5, e6⟩ := act_end (a := a) (t := 1) (μ := μ) (μ5 := μ5) (w := nI q) (b := -1) (K := 10) (b0 := nI q) (b1 := 0) (b2 := 0) (b3 := 0) (vf := fun _ => nI c') hc ha (b2.mono (by omega) (by omega)) (by unfold pcN; rw [f0, mu_pl (by decide)]) (by rw [f0, mu_at]) (by rw [f0, mu_pl (by decide)]; exact h23) (fun k k1 k2 => by rw [b3 k (by omega) (by omega), mu_n (by omega)]) (by omega) (fun σ hRs => by
        have hrs2 : σ 9 a = nI rm := (hRs.2.1.2 a ha).1.trans rm2
        have ht2 : σ 13 a = μ 10 a := (hRs.2.1.2 a ha).2.2.2.2
        obtain ⟨σ1, d1, d2⟩ := b4 σ (hRs.thrown 0)
        refine ⟨mu σ1 13 a (σ 13 a + nI 1), ?_, fun σ' hq => play_say (v := nI c') (by omega) (next_of hI a4 hRs) ?_ hq⟩
        · have := d2.ready a (σ 13 a + nI 1)
          rw [b3 10 (by decide) (by decide), mu_n (by decide), ← ht2]
          exact this
        · unfold f_X4_perform f_X4_tell
          rw [gd_ok (by omega) (by decide), if_neg (by decide), if_pos rfl, gd_ok (by omega) (by decide), N_nI (by omega), hrs2]
          have d1' : L_X4_tell_17 FU (fun x9 σ10 => some (x9, σ10)) (nI a) (nI q) 0 (nI rm) 0 0 σ = some (nI c', σ1) := d1 _
          rw [d1']
          rfl)
      refine Or.inr ⟨nI c', μ'', ?_, ⟨e3, e4, e5, e6⟩, ?_⟩
      · simp only [a3, bd_s, m1, i10, if_false, jn_s, nI_m1 (show a < 2 ^ 31 by omega), can_ok, i00, if_true, bd2_s]
        rw [show L_X6_speaks_44 FU (fun x16 σ17 => bd (f_X6_ends σ17 (nI a) 1 (nI q) (-1)) fun σ18 => some (x16, σ18)) (nI q) 0 (nI a) 0 0 (mu μ 0 29 0) = _ from b1 _]
        rw [show f_X6_ends μ5 (nI a) 1 (nI q) (-1) = some μ'' from e1, bd_s, bd2_s]
      · simp only [n1, bt_0, a2]
  · have n1 : f_X5_needRange d 0 99 = some (2, 0) := n1
    have m1 : f_X6_isIn d 0 99 = some 0 := m1
    exact Or.inl ⟨2, 1, Or.inl ⟨rfl, rfl⟩, by
      rcases actor_cases hI hR with ⟨-, -, a3⟩ | ⟨a, -, -, -, a3, -⟩ <;> simp only [a3, bd_s, m1, jn_s, can_ok, i10, i00, if_true, if_false, bd2_s], by simp only [n1, bt_e2]⟩
theorem op_shout {c : Nat} {τ μ : Mem} (B : Beg c τ μ) (d : Int32) : OpR ok23 c τ μ 11 d 0 0 0 (f_X6_shout μ d) (f_X5_shout τ d) := by
  obtain ⟨hc, hI, h23, hR⟩ := B
  unfold f_X6_shout f_X6_speaks f_X5_shout
  rcases range_cases d 0 99 (by decide) (by decide) with ⟨q, q1, q2, rfl, n1, m1⟩ | ⟨n1, m1⟩
  · have n1 : f_X5_needRange (nI q) 0 99 = some (0, 0) := n1
    have m1 : f_X6_isIn (nI q) 0 99 = some 1 := m1
    rcases actor_cases hI hR with ⟨a1, a2, a3⟩ | ⟨a, ha, a1, a2, a3, a4⟩
    · exact Or.inl ⟨3, 2, Or.inr ⟨rfl, rfl⟩, by simp only [a3, bd_s, m1, i10, if_false, jn_s, im1, if_true, can_ok, i20, bd2_s, i00], by simp only [n1, bt_0, a2, bt_e3]⟩
    · have hnp := hI.np
      obtain ⟨⟨rm, rm1, rm2⟩, -⟩ := hI.pl ha
      obtain ⟨c', μ5, b0, b1, b2, b3, b4⟩ := tell_loop (a := a) (w := nI q) (loud := 1) (Or.inr rfl) hnp.1 ha rm1 FU 0 0 c (13 * c) (mu μ 0 29 0) (Nat.zero_le _) (by show _ + 1 ≤ 0 + 6000; omega) (hI.thrown 0) (by unfold pcN; rw [mu_pl (by decide)]) (by rw [mu_n (by decide)]; exact rm2) (Nat.le_refl _)
      have f0 : μ5 0 = mu μ 0 29 0 0 := b3 0 (by decide) (by decide)
      obtain ⟨μ'', e1, e2, e3, e4, e5, e6⟩ := act_end (a := a) (t := 1) (μ := μ) (μ5 := μ5) (w := nI q) (b := -1) (K := 11) (b0 := nI q) (b1 := 0) (b2 := 0) (b3 := 0) (vf := fun _ => nI c') hc ha (b2.mono (by omega) (by omega)) (by unfold pcN; rw [f0, mu_pl (by decide)]) (by rw [f0, mu_at]) (by rw [f0, mu_pl (by decide)]; exact h23) (fun k k1 k2 => by rw [b3 k (by omega) (by omega), mu_n (by omega)]) (by omega) (fun σ hRs => by
        have hrs2 : σ 9 a = nI rm := (hRs.2.1.2 a ha).1.trans rm2
        have ht2 : σ 13 a = μ 10 a := (hRs.2.1.2 a ha).2.2.2.2
        obtain ⟨σ1, d1, d2⟩ := b4 σ (hRs.thrown 0)
        refine ⟨mu σ1 13 a (σ 13 a + nI 1), ?_, fun σ' hq => play_shout (v := nI c') (by omega) (next_of hI a4 hRs) ?_ hq⟩
        · have := d2.ready a (σ 13 a + nI 1)
          rw [b3 10 (by decide) (by decide), mu_n (by decide), ← ht2]
          exact this
        · unfold f_X4_perform f_X4_tell
          rw [gd_ok (by omega) (by decide), if_neg (by decide), if_neg (by decide), if_pos rfl, gd_ok (by omega) (by decide), N_nI (by omega), hrs2]
          have d1' : L_X4_tell_17 FU (fun x9 σ10 => some (x9, σ10)) (nI a) (nI q) 1 (nI rm) 0 0 σ = some (nI c', σ1) := d1 _
          rw [d1']
          rfl)
      refine Or.inr ⟨nI c', μ'', ?_, ⟨e3, e4, e5, e6⟩, ?_⟩
      · simp only [a3, bd_s, m1, i10, if_false, jn_s, nI_m1 (show a < 2 ^ 31 by omega), can_ok, i00, if_true, bd2_s]
        rw [show L_X6_speaks_44 FU (fun x16 σ17 => bd (f_X6_ends σ17 (nI a) 1 (nI q) (-1)) fun σ18 => some (x16, σ18)) (nI q) 1 (nI a) 0 0 (mu μ 0 29 0) = _ from b1 _]
        rw [show f_X6_ends μ5 (nI a) 1 (nI q) (-1) = some μ'' from e1, bd_s, bd2_s]
      · simp only [n1, bt_0, a2]
  · have n1 : f_X5_needRange d 0 99 = some (2, 0) := n1
    have m1 : f_X6_isIn d 0 99 = some 0 := m1
    exact Or.inl ⟨2, 1, Or.inl ⟨rfl, rfl⟩, by
      rcases actor_cases hI hR with ⟨-, -, a3⟩ | ⟨a, -, -, -, a3, -⟩ <;> simp only [a3, bd_s, m1, jn_s, can_ok, i10, i00, if_true, if_false, bd2_s], by simp only [n1, bt_e2]⟩
