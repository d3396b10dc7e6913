/-! CHECKS: the class's and the reference's say the same -/
theorem i10 : ((1 : Int32) = 0) = False := by decide
theorem i01 : ((0 : Int32) = 1) = False := by decide
theorem isIn_ok (x : Int32) (l h : Nat) (hl : l < 2 ^ 31) (hh : h < 2 ^ 31) : (∃ q, l ≤ q ∧ q ≤ h ∧ x = nI q ∧ ¬ x < nI l ∧ ¬ nI h < x ∧ f_X6_isIn x (nI l) (nI h) = some 1) ∨ ((x < nI l ∨ nI h < x) ∧ f_X6_isIn x (nI l) (nI h) = some 0) := by
  unfold f_X6_isIn
  by_cases h1 : x < nI l
  · exact Or.inr ⟨Or.inl h1, if_pos h1⟩
  · by_cases h2 : nI h < x
    · exact Or.inr ⟨Or.inr h2, by rw [if_neg h1, if_pos h2]⟩
    · left
      have h3 : ¬ x < 0 := fun z => h1 (Int32.lt_of_lt_of_le z (nI_pos' hl))
      obtain ⟨q, q1, rfl⟩ := nI_of h3
      exact ⟨q, Nat.le_of_not_lt fun z => h1 (nI_lt z hl), Nat.le_of_not_lt fun z => h2 (nI_lt z q1), rfl, h1, h2, by rw [if_neg h1, if_neg h2]⟩
theorem range_cases (x : Int32) (l h : Nat) (hl : l < 2 ^ 31) (hh : h < 2 ^ 31) : (∃ q, l ≤ q ∧ q ≤ h ∧ x = nI q ∧ f_X5_needRange x (nI l) (nI h) = some (0, 0) ∧ f_X6_isIn x (nI l) (nI h) = some 1) ∨ (f_X5_needRange x (nI l) (nI h) = some (2, 0) ∧ f_X6_isIn x (nI l) (nI h) = some 0) := by
  unfold f_X5_needRange
  simp only [jn_s]
  rcases isIn_ok x l h hl hh with ⟨q, q1, q2, q3, q4, q5, q6⟩ | ⟨h1, h2⟩
  · exact Or.inl ⟨q, q1, q2, q3, by rw [if_neg q4, if_pos (i32_le_lt.mp q5)], q6⟩
  · refine Or.inr ⟨?_, h2⟩
    by_cases h3 : x < nI l
    · rw [if_pos h3]
    · rw [if_neg h3, if_neg (i32_lt_le.mpr (h1.resolve_left h3))]
theorem below_cases (x : Int32) (n : Nat) (hn : n < 2 ^ 30) : (∃ q, q < n ∧ x = nI q ∧ ¬ x < 0 ∧ x < nI n ∧ f_X6_isIn x 0 (nI n - 1) = some 1) ∨ ((x < 0 ∨ ¬ x < nI n) ∧ f_X6_isIn x 0 (nI n - 1) = some 0) := by
  cases n with
  | zero =>
    right
    refine ⟨?_, ?_⟩
    · by_cases h : x < 0
      · exact Or.inl h
      · exact Or.inr h
    · unfold f_X6_isIn
      by_cases h : x < 0
      · rw [if_pos h]
      · rw [if_neg h, if_pos]
        exact Int32.lt_of_lt_of_le (show nI 0 - 1 < 0 by decide) (i32_le_lt.mp h)
  | succ n =>
    rw [nI_pred]
    rcases isIn_ok x 0 n (by omega) (by omega) with ⟨q, q1, q2, q3, q4, q5, q6⟩ | ⟨h1, h2⟩
    · exact Or.inl ⟨q, by omega, q3, q4, by rw [q3]; exact nI_lt (by omega) (by omega), q6⟩
    · refine Or.inr ⟨?_, h2⟩
      rcases h1 with h1 | h1
      · exact Or.inl h1
      · refine Or.inr fun z => ?_
        have h3 : ¬ x < 0 := fun y => absurd (Int32.lt_of_lt_of_le h1 (Int32.le_of_lt y)) (nI_pos (by omega))
        obtain ⟨q, q1, rfl⟩ := nI_of h3
        have a1 := (nI_ltI (by omega) q1).mp h1
        have a2 := (nI_ltI q1 (by omega)).mp z
        omega
theorem room_cases (x : Int32) : (∃ q, q < 8 ∧ x = nI q ∧ f_X5_needRoom x = some (0, 0) ∧ f_X6_isRoom x = some 1) ∨ (f_X5_needRoom x = some (1, 0) ∧ f_X6_isRoom x = some 0) := by
  unfold f_X5_needRoom f_X6_isRoom
  simp only [jn_s]
  rcases below_cases x 8 (by decide) with ⟨q, q1, q2, q3, q4, q5⟩ | ⟨h1, h2⟩
  · refine Or.inl ⟨q, q1, q2, by rw [if_neg q3]; exact if_pos q4, ?_⟩
    rw [show f_X6_isIn x 0 7 = some 1 from q5]; rfl
  · refine Or.inr ⟨?_, by rw [show f_X6_isIn x 0 7 = some 0 from h2]; rfl⟩
    by_cases h3 : x < 0
    · rw [if_pos h3]
    · rw [if_neg h3]; exact if_neg (h1.resolve_left h3)
theorem kind_cases (x : Int32) : (∃ q, q < 5 ∧ x = nI q ∧ f_X5_needKind x = some (0, 0) ∧ f_X6_isKind x = some 1) ∨ (f_X5_needKind x = some (1, 0) ∧ f_X6_isKind x = some 0) := by
  unfold f_X5_needKind f_X6_isKind
  simp only [jn_s]
  rcases below_cases x 5 (by decide) with ⟨q, q1, q2, q3, q4, q5⟩ | ⟨h1, h2⟩
  · refine Or.inl ⟨q, q1, q2, by rw [if_neg q3]; exact if_pos q4, ?_⟩
    rw [show f_X6_isIn x 0 4 = some 1 from q5]; rfl
  · refine Or.inr ⟨?_, by rw [show f_X6_isIn x 0 4 = some 0 from h2]; rfl⟩
    by_cases h3 : x < 0
    · rw [if_pos h3]
    · rw [if_neg h3]; exact if_neg (h1.resolve_left h3)
theorem dir_cases (x : Int32) : (∃ q, q < 4 ∧ x = nI q ∧ f_X5_needDirection x = some (0, 0) ∧ f_X6_isIn x 0 3 = some 1) ∨ (f_X5_needDirection x = some (1, 0) ∧ f_X6_isIn x 0 3 = some 0) := by
  unfold f_X5_needDirection
  simp only [jn_s]
  rcases below_cases x 4 (by decide) with ⟨q, q1, q2, q3, q4, q5⟩ | ⟨h1, h2⟩
  · exact Or.inl ⟨q, q1, q2, by rw [if_neg q3]; exact if_pos q4, q5⟩
  · refine Or.inr ⟨?_, h2⟩
    by_cases h3 : x < 0
    · rw [if_pos h3]
    · rw [if_neg h3]; exact if_neg (h1.resolve_left h3)
theorem player_cases {g r : Nat} {σ μ : Mem} (hI : IW g r μ) (hR : RW σ μ) (x : Int32) : (∃ q, q < pcN μ ∧ x = nI q ∧ f_X5_needPlayer σ x = some (0, 0) ∧ f_X6_isPlayer μ x = some 1) ∨ (f_X5_needPlayer σ x = some (1, 0) ∧ f_X6_isPlayer μ x = some 0) := by
  have hm : μ 0 5 = nI (pcN μ) := hI.np.2
  have hs : σ 8 0 = nI (pcN μ) := hR.2.1.1.trans hm
  have hb : pcN μ ≤ 4 := by have := hI.np; omega
  unfold f_X5_needPlayer f_X5_needPlayerIn_now f_X6_isPlayer
  simp only [jn_s, hm, hs]
  rcases below_cases x (pcN μ) (by omega) with ⟨q, q1, q2, q3, q4, q5⟩ | ⟨h1, h2⟩
  · refine Or.inl ⟨q, q1, q2, ?_, by rw [q5]; rfl⟩
    rw [if_neg q3, if_pos q4]; rfl
  · refine Or.inr ⟨?_, by rw [h2]; rfl⟩
    by_cases h3 : x < 0
    · rw [if_pos h3]; rfl
    · rw [if_neg h3, if_neg (h1.resolve_left h3)]; rfl
theorem quest_cases {g r : Nat} {σ μ : Mem} (hI : IW g r μ) (hR : RW σ μ) (x : Int32) : (∃ q, q < qcN μ ∧ x = nI q ∧ f_X5_needQuest σ x = some (0, 0) ∧ f_X6_isQuest μ x = some 1) ∨ (f_X5_needQuest σ x = some (1, 0) ∧ f_X6_isQuest μ x = some 0) := by
  have hm : μ 0 16 = nI (qcN μ) := hI.nq.2
  have hs : σ 18 0 = nI (qcN μ) := hR.2.2.2.2.1.trans hm
  have hb : qcN μ ≤ 4 := by have := hI.nq; omega
  unfold f_X5_needQuest f_X6_isQuest
  simp only [jn_s, hm, hs]
  rcases below_cases x (qcN μ) (by omega) with ⟨q, q1, q2, q3, q4, q5⟩ | ⟨h1, h2⟩
  · refine Or.inl ⟨q, q1, q2, ?_, by rw [q5]; rfl⟩
    rw [if_neg q3, if_pos q4]
  · refine Or.inr ⟨?_, by rw [h2]; rfl⟩
    by_cases h3 : x < 0
    · rw [if_pos h3]
    · rw [if_neg h3, if_neg (h1.resolve_left h3)]
theorem actor_cases {g r : Nat} {σ μ : Mem} (hI : IW g r μ) (hR : RW σ μ) : (f_X1_next σ = some (-1) ∧ f_X5_needActor σ = some (3, 0) ∧ f_X6_actor μ = some (-1)) ∨ ∃ a, a < pcN μ ∧ f_X1_next σ = some (nI a) ∧ f_X5_needActor σ = some (0, nI a) ∧ f_X6_actor μ = some (nI a) ∧ IsAct (μ 10) 0 (pcN μ) (nI a) := by
  have hnp := hI.np
  obtain ⟨y, y1, y2⟩ := actor_ok hnp.2 hnp.1
  obtain ⟨z, z1, z2⟩ := next_ok (σ := σ) (np := pcN μ) (hR.2.1.1.trans hnp.2) hnp.1
  have e : z = y := (z1.congr (fun j hj => ((hR.2.1.2 j hj).2.2.2.2).symm)).eq y1
  subst e
  unfold f_X5_needActor
  rw [z2, y2, bd_s]
  rcases y1 with ⟨e1, rfl⟩ | ⟨a, a1, a2, rfl, a3, a4⟩
  · exact Or.inl ⟨rfl, if_pos rfl, rfl⟩
  · exact Or.inr ⟨a, a2, rfl, if_neg (nI_neg1 (by omega)), rfl, Or.inr ⟨a, a1, a2, rfl, a3, a4⟩⟩
theorem next_of {g r a : Nat} {σ μ : Mem} (hI : IW g r μ) (hA : IsAct (μ 10) 0 (pcN μ) (nI a)) (hR : RW σ μ) : f_X1_next σ = some (nI a) := by
  have hnp := hI.np
  obtain ⟨z, z1, z2⟩ := next_ok (σ := σ) (np := pcN μ) (hR.2.1.1.trans hnp.2) hnp.1
  rw [z2, (z1.congr (fun j hj => ((hR.2.1.2 j hj).2.2.2.2).symm)).eq hA]
theorem can_ok (μ : Mem) (e : Int32) : f_X6_can μ e = some (if e = 0 then 1 else 0, mu μ 0 29 e) := by
  unfold f_X6_can
  rw [stp_s]
  by_cases h : e = 0
  · rw [if_pos h, if_pos h]
  · rw [if_neg h, if_neg h]
/-- the world's numbers are the same -/
def WSm (μ μ' : Mem) : Prop := (∀ i, i ≠ 23 → i ≠ 29 → μ' 0 i = μ 0 i) ∧ ∀ k, 1 ≤ k → k ≤ 19 → μ' k = μ k
theorem WSm.rf {μ : Mem} : WSm μ μ := ⟨fun _ _ _ => rfl, fun _ _ _ => rfl⟩
theorem WSm.sy {μ μ' : Mem} (h : WSm μ μ') : WSm μ' μ := ⟨fun i a b => (h.1 i a b).symm, fun k a b => (h.2 k a b).symm⟩
theorem WSm.tr {μ μ' μ'' : Mem} (h : WSm μ μ') (h' : WSm μ' μ'') : WSm μ μ'' := ⟨fun i a b => (h'.1 i a b).trans (h.1 i a b), fun k a b => (h'.2 k a b).trans (h.2 k a b)⟩
theorem WSm.thrown (μ : Mem) (v : Int32) : WSm μ (mu μ 0 29 v) := ⟨fun i _ b => mu_pl b, fun k a _ => mu_n (by omega)⟩
theorem WSm.RW {σ μ μ' : Mem} (h : WSm μ μ') (hR : RW σ μ) : RW σ μ' := hR.same h.1 h.2
theorem WSm.IW {g r : Nat} {μ μ' : Mem} (h : WSm μ μ') (hI : IW g r μ) : IW g r μ' := hI.same h.1 h.2
theorem At.same {c : Nat} {μ μ' M M' : Mem} (h : At c μ M) (hM : WSm M M') (e : μ' 20 c = μ 20 c ∧ μ' 21 c = μ 21 c) (e2 : ∀ p, p < 4 → μ' 22 (c * 4 + p) = μ 22 (c * 4 + p) ∧ μ' 23 (c * 4 + p) = μ 23 (c * 4 + p)) (h4 : pcN M ≤ 4) : At c μ' M' := by
  obtain ⟨h1, h2, h3⟩ := h
  have hp : pcN M' = pcN M := by unfold pcN; rw [hM.1 5 (by decide) (by decide)]
  refine ⟨by rw [e.1, h1, hM.1 5 (by decide) (by decide)], by rw [hp, e.2, hM.2 10 (by decide) (by decide)]; exact h2, fun p hp2 => ?_⟩
  rw [hp] at hp2
  obtain ⟨f1, f2⟩ := h3 p hp2
  obtain ⟨g1, g2⟩ := e2 p (by omega)
  rw [g1, g2, f1, f2, hM.2 6 (by decide) (by decide), hM.2 7 (by decide) (by decide)]
  exact ⟨rfl, rfl⟩
/-- kept: c calls before, one more behind; what was written down before stays -/
def Kpt (c : Nat) (μ μ'' : Mem) : Prop := μ'' 0 23 = nI (c + 1) ∧ At (c + 1) μ'' μ'' ∧ (∀ j, j ≤ c → μ'' 20 j = μ 20 j ∧ μ'' 21 j = μ 21 j) ∧ ∀ j, j < (c + 1) * 4 → μ'' 22 j = μ 22 j ∧ μ'' 23 j = μ 23 j
theorem Kp.kpt {c g r : Nat} {μ μ5 μ' μ'' : Mem} (h : Kp c μ' μ'') (hI : IW g r μ') (h20 : ∀ k, 20 ≤ k → k ≤ 23 → μ' k = μ k) : Kpt c μ μ'' := by
  obtain ⟨k1, k2, k3, k4, k5, k6⟩ := h
  refine ⟨k1, k4.same ⟨fun i a _ => k2 i a, fun k a b => k3 k (by omega) (by omega) (by omega) (by omega) (by omega)⟩ ⟨rfl, rfl⟩ (fun _ _ => ⟨rfl, rfl⟩) hI.np.1, fun j hj => ?_, fun j hj => ?_⟩
  · rw [(k5 j hj).1, (k5 j hj).2, h20 20 (by decide) (by decide), h20 21 (by decide) (by decide)]; exact ⟨rfl, rfl⟩
  · rw [(k6 j hj).1, (k6 j hj).2, h20 22 (by decide) (by decide), h20 23 (by decide) (by decide)]; exact ⟨rfl, rfl⟩
/-- a call that is kept: the reference's memory goes from μ to μ'', every world that stands for μ is played to one that stands for μ'' -/
def Step (c : Nat) (μ : Mem) (K b0 b1 b2 b3 v : Int32) (μ'' : Mem) : Prop :=
  μ'' 0 29 = 0 ∧ IW (c + 1) (13 * c + 13) μ'' ∧ Kpt c μ μ'' ∧ ∀ σ, RW σ μ → ∃ σ', f_X4_play σ K b0 b1 b2 b3 = some (v, σ') ∧ RW σ' μ''
theorem play_go {σ σ5 σ6 : Mem} {a : Nat} {b0 b1 b2 b3 v : Int32} (ha : a < 4) (hn : f_X1_next σ = some (nI a)) (hp : f_X4_perform σ 9 (nI a) b0 b1 = some (v, σ5)) (hq : f_X4_pursueQuests (mu σ5 13 a (σ 13 a + nI 2)) (nI a) (-1) (-1) = some σ6) : f_X4_play σ 9 b0 b1 b2 b3 = some (v, σ6) := by
  unfold f_X4_play
  rw [if_pos (by decide), hn, bd_s, if_neg (nI_neg1 (by omega)), gd_ok (by omega) (by decide), hp, bd2_s, show f_X4_costOf 9 = some (nI 2) from by decide, bd_s, gd_ok (by omega) (by decide), N_nI (by omega), stp_s]
  have hne : ¬ (-1 : Int32) = nI a := fun h => nI_neg1 (a := a) (by omega) h.symm
  simp only [jn_s, ite_self, hq, bd_s, if_neg hne, show ((9 : Int32) = 18) = False from by decide, show ((9 : Int32) = 10) = False from by decide, show ((9 : Int32) = 11) = False from by decide, show ((9 : Int32) = 15) = False from by decide, show ((9 : Int32) = 16) = False from by decide, show ((9 : Int32) = 17) = False from by decide, if_true, if_false, i10, gd_ok ha (show 4 < 2 ^ 31 by decide), N_nI (show a < 2 ^ 31 by omega)]
theorem play_say {σ σ5 σ6 : Mem} {a : Nat} {b0 b1 b2 b3 v : Int32} (ha : a < 4) (hn : f_X1_next σ = some (nI a)) (hp : f_X4_perform σ 10 (nI a) b0 b1 = some (v, σ5)) (hq : f_X4_pursueQuests (mu σ5 13 a (σ 13 a + nI 1)) (nI a) b0 (-1) = some σ6) : f_X4_play σ 10 b0 b1 b2 b3 = some (v, σ6) := by
  unfold f_X4_play
  rw [if_pos (by decide), hn, bd_s, if_neg (nI_neg1 (by omega)), gd_ok (by omega) (by decide), hp, bd2_s, show f_X4_costOf 10 = some (nI 1) from by decide, bd_s, gd_ok (by omega) (by decide), N_nI (by omega), stp_s]
  have hne : ¬ (-1 : Int32) = nI a := fun h => nI_neg1 (a := a) (by omega) h.symm
  simp only [jn_s, ite_self, hq, bd_s, if_neg hne, show ((10 : Int32) = 18) = False from by decide, show ((10 : Int32) = 10) = True from by decide, show ((10 : Int32) = 11) = False from by decide, show ((10 : Int32) = 15) = False from by decide, show ((10 : Int32) = 16) = False from by decide, show ((10 : Int32) = 17) = False from by decide, if_true, if_false, i10, gd_ok ha (show 4 < 2 ^ 31 by decide), N_nI (show a < 2 ^ 31 by omega)]
theorem play_shout {σ σ5 σ6 : Mem} {a : Nat} {b0 b1 b2 b3 v : Int32} (ha : a < 4) (hn : f_X1_next σ = some (nI a)) (hp : f_X4_perform σ 11 (nI a) b0 b1 = some (v, σ5)) (hq : f_X4_pursueQuests (mu σ5 13 a (σ 13 a + nI 1)) (nI a) b0 (-1) = some σ6) : f_X4_play σ 11 b0 b1 b2 b3 = some (v, σ6) := by
  unfold f_X4_play
  rw [if_pos (by decide), hn, bd_s, if_neg (nI_neg1 (by omega)), gd_ok (by omega) (by decide), hp, bd2_s, show f_X4_costOf 11 = some (nI 1) from by decide, bd_s, gd_ok (by omega) (by decide), N_nI (by omega), stp_s]
  have hne : ¬ (-1 : Int32) = nI a := fun h => nI_neg1 (a := a) (by omega) h.symm
  simp only [jn_s, ite_self, hq, bd_s, if_neg hne, show ((11 : Int32) = 18) = False from by decide, show ((11 : Int32) = 10) = False from by decide, show ((11 : Int32) = 11) = True from by decide, show ((11 : Int32) = 15) = False from by decide, show ((11 : Int32) = 16) = False from by decide, show ((11 : Int32) = 17) = False from by decide, if_true, if_false, i10, gd_ok ha (show 4 < 2 ^ 31 by decide), N_nI (show a < 2 ^ 31 by omega)]
theorem play_take {σ σ5 σ6 : Mem} {a : Nat} {b0 b1 b2 b3 v : Int32} (ha : a < 4) (hn : f_X1_next σ = some (nI a)) (hp : f_X4_perform σ 12 (nI a) b0 b1 = some (v, σ5)) (hq : f_X4_pursueQuests (mu σ5 13 a (σ 13 a + nI 1)) (nI a) (-1) (-1) = some σ6) : f_X4_play σ 12 b0 b1 b2 b3 = some (v, σ6) := by
  unfold f_X4_play
  rw [if_pos (by decide), hn, bd_s, if_neg (nI_neg1 (by omega)), gd_ok (by omega) (by decide), hp, bd2_s, show f_X4_costOf 12 = some (nI 1) from by decide, bd_s, gd_ok (by omega) (by decide), N_nI (by omega), stp_s]
  have hne : ¬ (-1 : Int32) = nI a := fun h => nI_neg1 (a := a) (by omega) h.symm
  simp only [jn_s, ite_self, hq, bd_s, if_neg hne, show ((12 : Int32) = 18) = False from by decide, show ((12 : Int32) = 10) = False from by decide, show ((12 : Int32) = 11) = False from by decide, show ((12 : Int32) = 15) = False from by decide, show ((12 : Int32) = 16) = False from by decide, show ((12 : Int32) = 17) = False from by decide, if_true, if_false, i10, gd_ok ha (show 4 < 2 ^ 31 by decide), N_nI (show a < 2 ^ 31 by omega)]
theorem play_drop {σ σ5 σ6 : Mem} {a : Nat} {b0 b1 b2 b3 v : Int32} (ha : a < 4) (hn : f_X1_next σ = some (nI a)) (hp : f_X4_perform σ 13 (nI a) b0 b1 = some (v, σ5)) (hq : f_X4_pursueQuests (mu σ5 13 a (σ 13 a + nI 1)) (nI a) (-1) (-1) = some σ6) : f_X4_play σ 13 b0 b1 b2 b3 = some (v, σ6) := by
  unfold f_X4_play
  rw [if_pos (by decide), hn, bd_s, if_neg (nI_neg1 (by omega)), gd_ok (by omega) (by decide), hp, bd2_s, show f_X4_costOf 13 = some (nI 1) from by decide, bd_s, gd_ok (by omega) (by decide), N_nI (by omega), stp_s]
  have hne : ¬ (-1 : Int32) = nI a := fun h => nI_neg1 (a := a) (by omega) h.symm
  simp only [jn_s, ite_self, hq, bd_s, if_neg hne, show ((13 : Int32) = 18) = False from by decide, show ((13 : Int32) = 10) = False from by decide, show ((13 : Int32) = 11) = False from by decide, show ((13 : Int32) = 15) = False from by decide, show ((13 : Int32) = 16) = False from by decide, show ((13 : Int32) = 17) = False from by decide, if_true, if_false, i10, gd_ok ha (show 4 < 2 ^ 31 by decide), N_nI (show a < 2 ^ 31 by omega)]
theorem play_give {σ σ5 σ6 : Mem} {a : Nat} {b0 b1 b2 b3 v : Int32} (ha : a < 4) (hn : f_X1_next σ = some (nI a)) (hp : f_X4_perform σ 14 (nI a) b0 b1 = some (v, σ5)) (hq : f_X4_pursueQuests (mu σ5 13 a (σ 13 a + nI 1)) (nI a) (-1) (-1) = some σ6) : f_X4_play σ 14 b0 b1 b2 b3 = some (v, σ6) := by
  unfold f_X4_play
  rw [if_pos (by decide), hn, bd_s, if_neg (nI_neg1 (by omega)), gd_ok (by omega) (by decide), hp, bd2_s, show f_X4_costOf 14 = some (nI 1) from by decide, bd_s, gd_ok (by omega) (by decide), N_nI (by omega), stp_s]
  have hne : ¬ (-1 : Int32) = nI a := fun h => nI_neg1 (a := a) (by omega) h.symm
  simp only [jn_s, ite_self, hq, bd_s, if_neg hne, show ((14 : Int32) = 18) = False from by decide, show ((14 : Int32) = 10) = False from by decide, show ((14 : Int32) = 11) = False from by decide, show ((14 : Int32) = 15) = False from by decide, show ((14 : Int32) = 16) = False from by decide, show ((14 : Int32) = 17) = False from by decide, if_true, if_false, i10, gd_ok ha (show 4 < 2 ^ 31 by decide), N_nI (show a < 2 ^ 31 by omega)]
theorem play_pay {σ σ5 σ6 : Mem} {a : Nat} {b0 b1 b2 b3 v : Int32} (ha : a < 4) (hn : f_X1_next σ = some (nI a)) (hp : f_X4_perform σ 15 (nI a) b0 b1 = some (v, σ5)) (hq : f_X4_pursueQuests (mu σ5 13 a (σ 13 a + nI 1)) (nI a) (-1) (-1) = some σ6) : f_X4_play σ 15 b0 b1 b2 b3 = some ((σ6 10 a), σ6) := by
  unfold f_X4_play
  rw [if_pos (by decide), hn, bd_s, if_neg (nI_neg1 (by omega)), gd_ok (by omega) (by decide), hp, bd2_s, show f_X4_costOf 15 = some (nI 1) from by decide, bd_s, gd_ok (by omega) (by decide), N_nI (by omega), stp_s]
  have hne : ¬ (-1 : Int32) = nI a := fun h => nI_neg1 (a := a) (by omega) h.symm
  simp only [jn_s, ite_self, hq, bd_s, if_neg hne, show ((15 : Int32) = 18) = False from by decide, show ((15 : Int32) = 10) = False from by decide, show ((15 : Int32) = 11) = False from by decide, show ((15 : Int32) = 15) = True from by decide, show ((15 : Int32) = 16) = False from by decide, show ((15 : Int32) = 17) = False from by decide, if_true, if_false, i10, gd_ok ha (show 4 < 2 ^ 31 by decide), N_nI (show a < 2 ^ 31 by omega)]
theorem play_buy {σ σ5 σ6 : Mem} {a : Nat} {b0 b1 b2 b3 v : Int32} (ha : a < 4) (hn : f_X1_next σ = some (nI a)) (hp : f_X4_perform σ 16 (nI a) b0 b1 = some (v, σ5)) (hq : f_X4_pursueQuests (mu σ5 13 a (σ 13 a + nI 1)) (nI a) (-1) (-1) = some σ6) : f_X4_play σ 16 b0 b1 b2 b3 = some ((σ6 10 a), σ6) := by
  unfold f_X4_play
  rw [if_pos (by decide), hn, bd_s, if_neg (nI_neg1 (by omega)), gd_ok (by omega) (by decide), hp, bd2_s, show f_X4_costOf 16 = some (nI 1) from by decide, bd_s, gd_ok (by omega) (by decide), N_nI (by omega), stp_s]
  have hne : ¬ (-1 : Int32) = nI a := fun h => nI_neg1 (a := a) (by omega) h.symm
  simp only [jn_s, ite_self, hq, bd_s, if_neg hne, show ((16 : Int32) = 18) = False from by decide, show ((16 : Int32) = 10) = False from by decide, show ((16 : Int32) = 11) = False from by decide, show ((16 : Int32) = 15) = False from by decide, show ((16 : Int32) = 16) = True from by decide, show ((16 : Int32) = 17) = False from by decide, if_true, if_false, i10, gd_ok ha (show 4 < 2 ^ 31 by decide), N_nI (show a < 2 ^ 31 by omega)]
theorem play_sell {σ σ5 σ6 : Mem} {a : Nat} {b0 b1 b2 b3 v : Int32} (ha : a < 4) (hn : f_X1_next σ = some (nI a)) (hp : f_X4_perform σ 17 (nI a) b0 b1 = some (v, σ5)) (hq : f_X4_pursueQuests (mu σ5 13 a (σ 13 a + nI 1)) (nI a) (-1) (-1) = some σ6) : f_X4_play σ 17 b0 b1 b2 b3 = some ((σ6 10 a), σ6) := by
  unfold f_X4_play
  rw [if_pos (by decide), hn, bd_s, if_neg (nI_neg1 (by omega)), gd_ok (by omega) (by decide), hp, bd2_s, show f_X4_costOf 17 = some (nI 1) from by decide, bd_s, gd_ok (by omega) (by decide), N_nI (by omega), stp_s]
  have hne : ¬ (-1 : Int32) = nI a := fun h => nI_neg1 (a := a) (by omega) h.symm
  simp only [jn_s, ite_self, hq, bd_s, if_neg hne, show ((17 : Int32) = 18) = False from by decide, show ((17 : Int32) = 10) = False from by decide, show ((17 : Int32) = 11) = False from by decide, show ((17 : Int32) = 15) = False from by decide, show ((17 : Int32) = 16) = False from by decide, show ((17 : Int32) = 17) = True from by decide, if_true, if_false, i10, gd_ok ha (show 4 < 2 ^ 31 by decide), N_nI (show a < 2 ^ 31 by omega)]
theorem play_rest {σ σ5 σ6 : Mem} {a : Nat} {b0 b1 b2 b3 v : Int32} (ha : a < 4) (hn : f_X1_next σ = some (nI a)) (hp : f_X4_perform σ 19 (nI a) b0 b1 = some (v, σ5)) (hq : f_X4_pursueQuests (mu σ5 13 a (σ 13 a + nI 2)) (nI a) (-1) (-1) = some σ6) : f_X4_play σ 19 b0 b1 b2 b3 = some (v, σ6) := by
  unfold f_X4_play
  rw [if_pos (by decide), hn, bd_s, if_neg (nI_neg1 (by omega)), gd_ok (by omega) (by decide), hp, bd2_s, show f_X4_costOf 19 = some (nI 2) from by decide, bd_s, gd_ok (by omega) (by decide), N_nI (by omega), stp_s]
  have hne : ¬ (-1 : Int32) = nI a := fun h => nI_neg1 (a := a) (by omega) h.symm
  simp only [jn_s, ite_self, hq, bd_s, if_neg hne, show ((19 : Int32) = 18) = False from by decide, show ((19 : Int32) = 10) = False from by decide, show ((19 : Int32) = 11) = False from by decide, show ((19 : Int32) = 15) = False from by decide, show ((19 : Int32) = 16) = False from by decide, show ((19 : Int32) = 17) = False from by decide, if_true, if_false, i10, gd_ok ha (show 4 < 2 ^ 31 by decide), N_nI (show a < 2 ^ 31 by omega)]
