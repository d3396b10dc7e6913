/-! STAGE -/
theorem stgT : ∀ k, k < 4 → ∀ t, t < 4 → f_X5_needStageTarget (nI k) (nI t) = some (0, 0) := by decide
theorem stgM : ∀ k, k < 4 → ∀ m, m < 5 → f_X5_needRange (nI k) 0 3 = some (0, 0) ∧ f_X5_needStageMeasure (nI k) (nI (1 + m)) = some (0, 0) := by decide
section MKV
variable {c : Nat} {ρ σ2 μ μ5 : Mem} {M : Nat → Mem}
theorem mk_outR {ok : Nat → Int32 → Prop} {K b0 b1 b2 b3 : Int32} {g r : Nat} {m : Option (Int32 × Mem)} {x : Option (Nat × Int32 × Mem)} {vf : Mem → Int32} (S2 : SX c σ2 μ M) (hc : c < 512) (hok0 : ∀ e, ¬ ok e 0) (hL : OpR ok c σ2 μ K b0 b1 b2 b3 m x) (hI5 : IW g r μ5) (h23 : μ5 0 23 = nI c) (h29 : μ5 0 29 = 0) (hm : ∀ μ'', f_X6_keep μ5 = some μ'' → Sm5 μ5 μ'' → m = some (vf μ'', μ'')) :
    ∃ τ' M' μ'', x = some (0, vf μ'', τ') ∧ SX (c + 1) τ' μ'' M' ∧ HK c μ μ'' ∧ Sm5 μ5 μ'' := by
  obtain ⟨μ'', e1, e2, -⟩ := keep_ok hI5 (by omega) h23
  have hs : Sm5 μ5 μ'' := ⟨e2.2.1, fun k k1 k2 => e2.2.2.1 k (by omega) (by omega) (by omega) (by omega) (by omega)⟩
  have hm := hm μ'' e1 hs
  have h29' : μ'' 0 29 = 0 := (hs.1 29 (by decide)).trans h29
  rcases hL with ⟨e, t, h1, h2, h3⟩ | ⟨v, μ3, h1, h2, h3⟩
  · rw [h2] at hm
    obtain ⟨-, rfl⟩ := rt2 hm
    rw [mu_at] at h29'
    subst h29'
    exact absurd h1 (hok0 e)
  · rw [h1] at hm
    obtain ⟨rfl, rfl⟩ := rt2 hm
    obtain ⟨τ', M', k1, k2⟩ := S2.keep hc h2
    exact ⟨τ', M', μ3, by rw [h3, k1]; rfl, k2, ⟨h2.2.2.1.2.2.1, h2.2.2.1.2.2.2⟩, hs⟩
theorem mks_stage (S : SX c ρ μ M) (W : WI c (ρ 51) μ) (hc : c < 60) {q k t me L : Nat} (hq : q < qcN μ) (hk : k < 4) (ht : t < 4) (hme : me < 5) (hL : μ 15 q = nI L) (L4 : L ≤ 4) :
    ((L < 4 ∧ ∀ p, p < pcN μ → μ 19 (p * 3 + q) ≤ 0) ∧ ∃ τ' M' μ'', f_X5_stage ρ (nI q) (nI k) (nI t) (nI (1 + me)) = some (0, nI (L + 1), τ') ∧ SX (c + 1) τ' μ'' M' ∧ HK c μ μ'' ∧ pcN μ'' = pcN μ ∧ WI (c + 1) (upd (upd (ρ 51) (9 + q) (nI (L + 1))) 6 (nI (c + 1))) μ'') ∨
    (¬ (L < 4 ∧ ∀ p, p < pcN μ → μ 19 (p * 3 + q) ≤ 0) ∧ f_X5_stage ρ (nI q) (nI k) (nI t) (nI (1 + me)) = some (3, 0, ρ)) := by
  have hI := S.iw
  have hnp := hI.np
  have q3 : q < 3 := by have := hI.nq.1; omega
  have hop := op_stage (S.beg (by omega)) (nI q) (nI k) (nI t) (nI (1 + me))
  obtain ⟨y1, t1, t2⟩ := tgt_ok (nI k) (nI t)
  obtain ⟨y4, m1, m2⟩ := meas_ok (nI k) (nI (1 + me))
  obtain ⟨sm1, sm2⟩ := stgM k hk me hme
  rcases t1 with ⟨-, t1⟩ | ⟨rfl, t1, t3⟩
  · rw [stgT k hk t ht] at t1; exact absurd t1 (by decide)
  rcases m1 with ⟨-, m1⟩ | ⟨rfl, -, -, m1⟩
  · rw [sm1, bt_0, sm2] at m1; exact absurd m1 (by decide)
  rcases quest_cases hI S.rw' (nI q) with ⟨q', q1', q2', nq, mq⟩ | ⟨nq, mq⟩
  case inr =>
    have := nq_ok hI S.rw' hq
    rw [nq] at this
    exact absurd this (by decide)
  have g3 : ∀ {α : Type} (x : Option α), gd (nI q) 3 x = x := fun x => gd_ok q3 (by decide)
  have hN : (nI q).toNatClampNeg = q := N_nI (by omega)
  obtain ⟨yb, b1, b2⟩ := stage_loop hnp.2 hnp.1 q3 mq (fun (x17 : Int32) (σ18 : Mem) =>
bd (f_X6_isQuest σ18 (nI q)) fun v19 =>
jn (fun (y20 : Int32) (σ21 : Mem) =>
bd2 (f_X6_can σ21 y20) fun v23 σ24 =>
if v23 = 0 then (
some (0, σ24))
else (
gd (nI q) 3 <|
gd ((4 * (nI q)) + (σ24 15 (nI q).toNatClampNeg)) 12 <| stp (mu σ24 16 ((4 * (nI q)) + (σ24 15 (nI q).toNatClampNeg)).toNatClampNeg (nI k)) fun σ26 =>
gd ((4 * (nI q)) + (σ24 15 (nI q).toNatClampNeg)) 12 <| stp (mu σ26 17 ((4 * (nI q)) + (σ24 15 (nI q).toNatClampNeg)).toNatClampNeg (nI t)) fun σ27 =>
gd ((4 * (nI q)) + (σ24 15 (nI q).toNatClampNeg)) 12 <| stp (mu σ27 18 ((4 * (nI q)) + (σ24 15 (nI q).toNatClampNeg)).toNatClampNeg (nI (1 + me))) fun σ28 =>
gd (nI q) 3 <|
gd (nI q) 3 <| stp (mu σ28 15 (nI q).toNatClampNeg ((σ28 15 (nI q).toNatClampNeg) + 1)) fun σ29 =>
bd (f_X6_keep σ29) fun σ30 =>
gd (nI q) 3 <|
some ((σ30 15 (nI q).toNatClampNeg), σ30))) fun (J22 : Int32 → Mem → Option (Int32 × Mem)) =>
jn (fun (σ31 : Mem) =>
J22 1 σ31) fun (J32 : Mem → Option (Int32 × Mem)) =>
if v19 = 0 then (
J32 σ18)
else (
if (1 : Int32) = 0 then (
J32 σ18)
else (
if (1 : Int32) = 0 then (
J22 2 σ18)
else (
gd (nI q) 3 <|
jn (fun (σ36 : Mem) =>
J22 3 σ36) fun (J37 : Mem → Option (Int32 × Mem)) =>
if (σ18 15 (nI q).toNatClampNeg) = 4 then (
J37 σ18)
else (
if x17 = 0 then (
J22 0 σ18)
else (
J37 σ18)))))) (nI k) (nI t) (nI (1 + me)) 1 1 FU 0 0 (Nat.zero_le _) (by show pcN μ + 1 ≤ 0 + 6000; omega) (Or.inl ⟨rfl, fun p hp => by omega⟩)
  rw [show nI 0 = (0 : Int32) from rfl] at b2
  have refuse : f_X6_stage μ (nI q) (nI k) (nI t) (nI (1 + me)) = some (0, mu μ 0 29 3) → f_X5_stage ρ (nI q) (nI k) (nI t) (nI (1 + me)) = some (3, 0, ρ) := fun hm => by
    rcases hop with ⟨e, t, o1, o2, o3⟩ | ⟨v, μ3, o1, o2, o3⟩
    · rw [hm] at o2
      obtain ⟨-, o2⟩ := rt2 o2
      have ht : t = 3 := by
        have := congrFun (congrFun o2 0) 29
        rw [mu_at, mu_at] at this
        exact this.symm
      subst ht
      rcases o1 with ⟨-, z⟩ | ⟨-, z⟩ | ⟨rfl, -⟩
      · exact absurd z (by decide)
      · exact absurd z (by decide)
      · exact o3
    · rw [hm] at o1
      obtain ⟨-, rfl⟩ := rt2 o1
      have := o2.1
      rw [mu_at] at this
      exact absurd this (by decide)
  by_cases hL4 : L = 4
  · subst hL4
    refine Or.inr ⟨fun z => absurd z.1 (by decide), refuse ?_⟩
    have z1 : (nI 4 = (4 : Int32)) = True := by decide
    unfold f_X6_stage
    rw [t2, m2, b2]
    simp only [mq, bd_s, jn_s, i10, i30, i00, if_true, if_false, g3, hN, hL, z1, can_ok, bd2_s]
  · have z1 : (nI L = (4 : Int32)) = False := eq_false fun z => hL4 (nI_inj (a := L) (b := 4) (by omega) (by omega) z)
    rcases b1 with ⟨rfl, b1⟩ | ⟨rfl, p, pb1, pb2⟩
    · refine Or.inl ⟨⟨by omega, b1⟩, ?_⟩
      obtain ⟨⟨w1, w2, w3, w4⟩, ⟨mk, mk1, mk2, mk3⟩, ⟨T, T1, T2, T3⟩, w5, w6, q1, q2, q3', q4, q5⟩ := W
      have hj : q * 4 + L < 12 := by omega
      have g12 : ∀ {α : Type} (x : Option α), gd (nI (q * 4 + L)) 12 x = x := fun x => gd_ok hj (by decide)
      have hNj : (nI (q * 4 + L)).toNatClampNeg = q * 4 + L := N_nI (by omega)
      obtain ⟨μ5, hμ5⟩ : ∃ μ5, μ5 = mu (mu (mu (mu (mu μ 0 29 0) 16 (q * 4 + L) (nI k)) 17 (q * 4 + L) (nI t)) 18 (q * 4 + L) (nI (1 + me))) 15 q (nI (L + 1)) := ⟨_, rfl⟩
      have f0 : ∀ i, i ≠ 29 → μ5 0 i = μ 0 i := fun i hi => by rw [hμ5, mu_n (by decide), mu_n (by decide), mu_n (by decide), mu_n (by decide), mu_pl hi]
      have fk : ∀ k, k ≠ 0 → k ≠ 15 → k ≠ 16 → k ≠ 17 → k ≠ 18 → μ5 k = μ k := fun k k0 k1 k2 k3 k4 => by rw [hμ5, mu_n k1, mu_n k4, mu_n k3, mu_n k2, mu_n k0]
      have f15 : μ5 15 = upd (μ 15) q (nI (L + 1)) := by rw [hμ5, mu_s, mu_n (by decide), mu_n (by decide), mu_n (by decide), mu_n (by decide)]
      have hpc : pcN μ5 = pcN μ := by unfold pcN; rw [f0 5 (by decide)]
      obtain ⟨τ', M', μ'', x1, x2, x3, x4⟩ := mk_outR (μ5 := μ5) (g := c + 1) (r := 13 * c + 13) (vf := fun _ => nI (L + 1)) S (by omega) ok123_0 hop (by
        rw [hμ5]
        exact ((hI.thrown 0).mono (Nat.le_add_right c 1) (Nat.le_add_right _ 13)).stage (by unfold qcN; rw [mu_pl (by decide)]; exact hq) (by rw [mu_n (by decide)]; exact hL) (by omega) (by omega) (fun hk => t3 (by rw [hk]; rfl)) _) ((f0 23 (by decide)).trans S.2.1) (by rw [hμ5, mu_n (by decide), mu_n (by decide), mu_n (by decide), mu_n (by decide), mu_at]) (fun μ'' h1 h2 => by
        unfold f_X6_stage
        rw [t2, m2, b2]
        simp only [mq, bd_s, i10, if_false, jn_s, hL, z1, can_ok, i00, if_true, bd2_s, stp_s, g3, hN, n4l, mu_n (show (15 : Nat) ≠ 0 by decide), mu_n (show (15 : Nat) ≠ 16 by decide), mu_n (show (15 : Nat) ≠ 17 by decide), mu_n (show (15 : Nat) ≠ 18 by decide), g12, hNj, nI_1]
        rw [← hμ5, h1, bd_s, h2.2 15 (by decide) (by decide), f15, upd_s])
      refine ⟨τ', M', μ'', x1, x2, x3, by rw [x4.pc, hpc], WI.sm ?_ x4⟩
      have k3 := fk 3 (by decide) (by decide) (by decide) (by decide) (by decide)
      have k19 := fk 19 (by decide) (by decide) (by decide) (by decide) (by decide)
      refine ⟨⟨upd_s, by rw [upd_n (by decide), upd_n (by omega), f0 5 (by decide)]; exact w2, by rw [upd_n (by decide), upd_n (by omega), f0 16 (by decide)]; exact w3, fun j hj => ?_⟩, ⟨mk, mk1, by rw [upd_n (by decide), upd_n (by omega)]; exact mk2, fun r hr => by rw [k3]; exact mk3 r hr⟩, ⟨T, by omega, by rw [upd_n (by decide), upd_n (by omega)]; exact T2, T3.same (f0 14 (by decide)) (f0 5 (by decide)) (fk 7 (by decide) (by decide) (by decide) (by decide) (by decide)) k3⟩, fun j hj => ?_, by rw [fk 1 (by decide) (by decide) (by decide) (by decide) (by decide)]; exact w6, fun k' j hk' hj => ?_, by rw [k19, hpc]; exact q2, by rw [fk 11 (by decide) (by decide) (by decide) (by decide) (by decide), hpc]; exact q3', by rw [fk 14 (by decide) (by decide) (by decide) (by decide) (by decide)]; exact q4, by rw [fk 4 (by decide) (by decide) (by decide) (by decide) (by decide)]; exact q5⟩
      · rw [upd_n (by omega), f15]
        by_cases h : j = q
        · subst h; rw [upd_s, upd_s]
        · rw [upd_n (by omega), upd_n h]; exact w4 j hj
      · rw [upd_n (by omega), upd_n (by omega), w5 j hj]
        exact (gsum_same (f0 5 (by decide)) (fk 11 (by decide) (by decide) (by decide) (by decide) (by decide)) (fk 2 (by decide) (by decide) (by decide) (by decide) (by decide)) (fk 5 (by decide) (by decide) (by decide) (by decide) (by decide)) j).symm
      · rw [k19, f15]
        obtain ⟨x, L', a1, a2, a3, a4⟩ := q1 k' j hk' hj
        by_cases h : j = q
        · subst h
          have : L' = L := nI_inj (by omega) (by omega) (a4.symm.trans hL)
          exact ⟨x, L + 1, by omega, by omega, a3, upd_s⟩
        · rw [upd_n h]; exact ⟨x, L', a1, a2, a3, a4⟩
    · refine Or.inr ⟨fun z => pb2 (z.2 p pb1), refuse ?_⟩
      unfold f_X6_stage
      rw [t2, m2, b2]
      simp only [mq, bd_s, jn_s, i10, i30, i00, if_true, if_false, g3, hN, hL, z1, can_ok, bd2_s]
end MKV
