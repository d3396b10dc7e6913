theorem RW.stage {σ μ : Mem} {i L : Nat} (h : RW σ μ) (e : μ 15 i = nI L) (hL : L < 4) (x1 x2 x3 : Int32) : RW (mu (mu (mu (mu σ 21 (i * 4 + L) x1) 22 (i * 4 + L) x2) 23 (i * 4 + L) x3) 20 i (nI (L + 1))) (mu (mu (mu (mu μ 16 (i * 4 + L) x1) 17 (i * 4 + L) x2) 18 (i * 4 + L) x3) 15 i (nI (L + 1))) := by
  obtain ⟨⟨y1, y2, y3, y4, y5⟩, ⟨b0, b⟩, ⟨c1, c2, c3, c4⟩, ⟨d1, d2⟩, ⟨e0, ee⟩⟩ := h
  unfold RW pcN qcN
  simp only [mu, upd, reduceIte, Nat.reduceEqDiff, Nat.zero_ne_one, Nat.one_ne_zero]
  refine ⟨⟨y1, y2, y3, y4, y5⟩, ⟨b0, b⟩, ⟨c1, c2, c3, c4⟩, ⟨d1, d2⟩, ⟨e0, fun j hj => ?_⟩⟩
  obtain ⟨f1, f2, f3⟩ := ee j hj
  refine ⟨f1, ?_, fun a ha => ?_⟩
  · split
    · rfl
    · exact f2
  · by_cases hx : j * 4 + a = i * 4 + L
    · simp only [hx, if_true]; exact ⟨trivial, trivial, trivial⟩
    · simp only [hx, if_false]
      by_cases hji : j = i
      · subst hji
        simp only [if_true] at ha
        rw [pk_next (by omega)] at ha
        exact f3 a (by rw [e, N_nI (by omega)]; omega)
      · simp only [hji, if_false] at ha
        exact f3 a ha
theorem IW.stage {g r : Nat} {μ : Mem} {i L : Nat} (h : IW g r μ) (hi : i < qcN μ) (e : μ 15 i = nI L) (hL : L < 4) {k : Nat} (hk : k ≤ 3) {x2 : Int32} (hx : k = 1 → ∃ f, f < 5 ∧ x2 = nI f) (x3 : Int32) : IW g r (mu (mu (mu (mu μ 16 (i * 4 + L) (nI k)) 17 (i * 4 + L) x2) 18 (i * 4 + L) x3) 15 i (nI (L + 1))) := by
  have hnq := h.nq
  obtain ⟨h1, ⟨nq, n1, n2, n3⟩, h3, h4, h5, h6, h7, h8, h9, h10, h11⟩ := h
  have hq : qcN μ = nq := by unfold qcN; rw [n2, N_nI (by omega)]
  unfold IW
  simp only [mu, upd, reduceIte, Nat.reduceEqDiff, Nat.zero_ne_one, Nat.one_ne_zero]
  refine ⟨h1, ⟨nq, n1, n2, fun j j1 j2 => ?_⟩, fun j hj => ?_, h4, h5, h6, h7, h8, h9, h10, h11⟩
  · rw [if_neg (by omega)]; exact n3 j j1 j2
  · obtain ⟨L', l1, l2, l3⟩ := h3 j hj
    by_cases hji : j = i
    · subst hji
      have hLL : L' = L := nI_inj (by omega) (by omega) (l2.symm.trans e)
      subst hLL
      refine ⟨L' + 1, by omega, by rw [if_pos rfl], fun t ht => ?_⟩
      by_cases htL : t = L'
      · subst htL
        simp only [if_true]
        exact ⟨k, hk, rfl, hx⟩
      · have : ¬ j * 4 + t = j * 4 + L' := by omega
        simp only [this, if_false]
        exact l3 t (by omega)
    · refine ⟨L', l1, by rw [if_neg hji]; exact l2, fun t ht => ?_⟩
      have : ¬ j * 4 + t = i * 4 + L := by omega
      simp only [this, if_false]
      exact l3 t ht
/-- whether a player has begun it -/
def Bgn (μ : Mem) (q n : Nat) (y : Int32) : Prop := (y = 0 ∧ ∀ p, p < n → μ 19 (p * 3 + q) ≤ 0) ∨ (y = 1 ∧ ∃ p, p < n ∧ ¬ μ 19 (p * 3 + q) ≤ 0)
theorem Bgn.eq {μ : Mem} {q n : Nat} {x y : Int32} (h1 : Bgn μ q n x) (h2 : Bgn μ q n y) : x = y := by
  rcases h1 with ⟨rfl, h1⟩ | ⟨rfl, p, p1, p2⟩ <;> rcases h2 with ⟨rfl, h2⟩ | ⟨rfl, p', p1', p2'⟩
  · rfl
  · exact absurd (h1 p' p1') p2'
  · exact absurd (h2 p p1) p2
  · rfl
theorem Bgn.up {μ : Mem} {q n : Nat} {x : Int32} (h : Bgn μ q n x) : Bgn μ q (n + 1) (if x = 0 then (if μ 19 (n * 3 + q) ≤ 0 then 0 else 1) else 1) := by
  rcases h with ⟨rfl, h⟩ | ⟨rfl, p, p1, p2⟩
  · rw [if_pos rfl]
    by_cases e : μ 19 (n * 3 + q) ≤ 0
    · rw [if_pos e]
      refine Or.inl ⟨rfl, fun p hp => ?_⟩
      by_cases hpn : p = n
      · subst hpn; exact e
      · exact h p (by omega)
    · rw [if_neg e]
      exact Or.inr ⟨rfl, n, by omega, e⟩
  · rw [if_neg (by decide)]
    exact Or.inr ⟨rfl, p, by omega, p2⟩
theorem begun_loop {σ μ : Mem} {np q : Nat} (h0 : σ 8 0 = nI np) (hp : np ≤ 4) (hq : q < 3) (hr : ∀ i, i < 12 → σ 15 i = μ 19 i) : ∀ (n i : Nat), i ≤ np → np + 1 ≤ i + n → (∀ p, p < i → μ 19 (p * 3 + q) ≤ 0) → ∃ y, Bgn μ q np y ∧ L_X1_isBegun_2 n (fun _ => some 0) σ (nI q) (nI i) = some y := by
  intro n
  induction n with
  | zero => intro i h1 h2; omega
  | succ n ih =>
    intro i h1 h2 h
    rw [L_X1_isBegun_2, h0]
    by_cases hi : i = np
    · subst hi
      exact ⟨0, Or.inl ⟨rfl, h⟩, if_pos (nI_le (Nat.le_refl _) (by omega))⟩
    · rw [if_neg (nI_ge (by omega) (by omega))]
      have hj : i * 3 + q < 12 := by omega
      unfold f_X5_reachedAt
      rw [n3r, bd_s, gd_ok hj (by decide), N_nI (by omega), hr _ hj]
      by_cases e : μ 19 (i * 3 + q) ≤ 0
      · rw [if_pos e, nI_1]
        exact ih (i + 1) (by omega) (by omega) fun p hp2 => by
          by_cases hpn : p = i
          · subst hpn; exact e
          · exact h p (by omega)
      · rw [if_neg e]
        exact ⟨1, Or.inr ⟨rfl, i, by omega, e⟩, rfl⟩
theorem begun_ok {σ μ : Mem} {np q : Nat} (h0 : σ 8 0 = nI np) (hp : np ≤ 4) (hq : q < 3) (hr : ∀ i, i < 12 → σ 15 i = μ 19 i) : ∃ y, Bgn μ q np y ∧ f_X1_isBegun σ (nI q) = some y :=
  begun_loop h0 hp hq hr FU 0 (Nat.zero_le _) (by show np + 1 ≤ 0 + 6000; omega) fun p hp2 => by omega
theorem stage_loop {μ : Mem} {np q : Nat} (h0 : μ 0 5 = nI np) (hp : np ≤ 4) (hq : q < 3) (hQ : f_X6_isQuest μ (nI q) = some 1) (k : Int32 → Mem → Option (Int32 × Mem)) (x8 x9 x10 x11 x12 : Int32) : ∀ (n i : Nat) (x : Int32), i ≤ np → np + 1 ≤ i + n → Bgn μ q i x → ∃ y, Bgn μ q np y ∧ L_X6_stage_103 n k (nI q) x8 x9 x10 x11 x12 x (nI i) μ = k y μ := by
  intro n
  induction n with
  | zero => intro i x h1 h2; omega
  | succ n ih =>
    intro i x h1 h2 h
    rw [L_X6_stage_103, h0]
    by_cases hi : i = np
    · subst hi
      exact ⟨x, h, if_pos (nI_le (Nat.le_refl _) (by omega))⟩
    · rw [if_neg (nI_ge (by omega) (by omega)), hQ, bd_s, if_neg (by decide)]
      have hj : i * 3 + q < 12 := by omega
      have hu := h.up
      simp only [jn_s, n3l, nI_1]
      rw [gd_ok hj (by decide), N_nI (by omega)]
      by_cases hx : x = 0
      · rw [if_pos hx] at hu ⊢
        by_cases e : μ 19 (i * 3 + q) ≤ 0
        · rw [if_pos e] at hu ⊢
          exact ih (i + 1) 0 (by omega) (by omega) hu
        · rw [if_neg e] at hu ⊢
          exact ih (i + 1) 1 (by omega) (by omega) hu
      · rw [if_neg hx] at hu ⊢
        exact ih (i + 1) 1 (by omega) (by omega) hu
theorem tgt_ok (x1 x2 : Int32) : ∃ y, ((y = 0 ∧ f_X5_needStageTarget x1 x2 = some (1, 0)) ∨ (y = 1 ∧ f_X5_needStageTarget x1 x2 = some (0, 0) ∧ (x1 = 1 → ∃ f, f < 5 ∧ x2 = nI f))) ∧ ∀ (J : Int32 → Mem → Option (Int32 × Mem)) (σ : Mem), (jn J fun (J3 : Int32 → Mem → Option (Int32 × Mem)) =>
    if x1 = 1 then (
    bd (f_X6_isKind x2) fun v69 =>
    J3 v69 σ)
    else (
    if x1 = 3 then (
    bd (f_X6_isIn x2 0 3) fun v68 =>
    J3 v68 σ)
    else (
    jn (fun (σ60 : Mem) =>
    J3 1 σ60) fun (J61 : Mem → Option (Int32 × Mem)) =>
    jn (fun (σ62 : Mem) =>
    bd (f_X6_isRoom x2) fun v64 =>
    if v64 = 0 then (
    J3 0 σ62)
    else (
    J61 σ62)) fun (J63 : Mem → Option (Int32 × Mem)) =>
    if x1 = 0 then (
    J63 σ)
    else (
    if x1 = 2 then (
    J63 σ)
    else (
    J61 σ))))) = J y σ := by
  by_cases h1 : x1 = 1
  · subst h1
    rcases kind_cases x2 with ⟨q, q1, rfl, n1, m1⟩ | ⟨n1, m1⟩
    · refine ⟨1, Or.inr ⟨rfl, ?_, fun _ => ⟨q, q1, rfl⟩⟩, fun J σ => by simp only [jn_s, if_true, m1, bd_s]⟩
      unfold f_X5_needStageTarget
      simp only [jn_s, i10, if_false, show ((1 : Int32) = 2) = False by decide, if_true, n1, bt_0]
    · refine ⟨0, Or.inl ⟨rfl, ?_⟩, fun J σ => by simp only [jn_s, if_true, m1, bd_s]⟩
      unfold f_X5_needStageTarget
      simp only [jn_s, i10, if_false, show ((1 : Int32) = 2) = False by decide, if_true, n1, bt_e1]
  · have h1' : (x1 = 1) = False := eq_false h1
    by_cases h3 : x1 = 3
    · subst h3
      rcases dir_cases x2 with ⟨q, q1, rfl, n1, m1⟩ | ⟨n1, m1⟩
      · refine ⟨1, Or.inr ⟨rfl, ?_, fun h => absurd h h1⟩, fun J σ => by simp only [jn_s, if_true, h1', if_false, m1, bd_s]⟩
        unfold f_X5_needStageTarget
        rw [jn_s, if_neg (by decide), if_neg (by decide), if_neg (by decide), if_pos rfl]
        exact n1
      · refine ⟨0, Or.inl ⟨rfl, ?_⟩, fun J σ => by simp only [jn_s, if_true, h1', if_false, m1, bd_s]⟩
        unfold f_X5_needStageTarget
        rw [jn_s, if_neg (by decide), if_neg (by decide), if_neg (by decide), if_pos rfl]
        exact n1
    · have h3' : (x1 = 3) = False := eq_false h3
      by_cases h02 : x1 = 0 ∨ x1 = 2
      · rcases room_cases x2 with ⟨q, q1, rfl, n1, m1⟩ | ⟨n1, m1⟩
        · refine ⟨1, Or.inr ⟨rfl, ?_, fun h => absurd h h1⟩, fun J σ => ?_⟩
          · unfold f_X5_needStageTarget
            rcases h02 with rfl | rfl <;> simp only [jn_s, if_true, show ((2 : Int32) = 0) = False by decide, if_false, n1, bt_0]
          · rcases h02 with rfl | rfl <;> simp only [jn_s, h1', h3', if_true, show ((2 : Int32) = 0) = False by decide, if_false, m1, bd_s, i10]
        · refine ⟨0, Or.inl ⟨rfl, ?_⟩, fun J σ => ?_⟩
          · unfold f_X5_needStageTarget
            rcases h02 with rfl | rfl <;> simp only [jn_s, if_true, show ((2 : Int32) = 0) = False by decide, if_false, n1, bt_e1]
          · rcases h02 with rfl | rfl <;> simp only [jn_s, h1', h3', if_true, show ((2 : Int32) = 0) = False by decide, if_false, m1, bd_s, i10]
      · have h0' : (x1 = 0) = False := eq_false fun z => h02 (Or.inl z)
        have h2' : (x1 = 2) = False := eq_false fun z => h02 (Or.inr z)
        refine ⟨1, Or.inr ⟨rfl, ?_, fun h => absurd h h1⟩, fun J σ => by simp only [jn_s, h1', h3', h0', h2', if_false]⟩
        unfold f_X5_needStageTarget
        simp only [jn_s, h1', h3', h0', h2', if_false]
/-- whether the kind and its measure are in their ranges -/
theorem meas_ok (x1 x3 : Int32) : ∃ y, ((y = 0 ∧ (bt (f_X5_needRange x1 0 3) (fun n => some (n, 0)) fun _ => f_X5_needStageMeasure x1 x3) = some (2, 0)) ∨ (y = 1 ∧ (∃ k, k ≤ 3 ∧ x1 = nI k) ∧ f_X5_needRange x1 0 3 = some (0, 0) ∧ f_X5_needStageMeasure x1 x3 = some (0, 0))) ∧ ∀ (J : Int32 → Mem → Option (Int32 × Mem)) (σ : Mem), (jn J fun (J6 : Int32 → Mem → Option (Int32 × Mem)) =>
    if x1 = 1 then (
    bd (f_X6_isIn x3 1 9) fun v57 =>
    J6 v57 σ)
    else (
    if x1 = 2 then (
    bd (f_X6_isIn x3 0 99) fun v56 =>
    J6 v56 σ)
    else (
    jn (fun (σ52 : Mem) =>
    J6 1 σ52) fun (J53 : Mem → Option (Int32 × Mem)) =>
    if x1 = 0 then (
    J53 σ)
    else (
    if x1 = 3 then (
    J53 σ)
    else (
    J6 0 σ))))) = J y σ := by
  by_cases h1 : x1 = 1
  · subst h1
    have n0 : f_X5_needRange 1 0 3 = some (0, 0) := by decide
    rcases range_cases x3 1 9 (by decide) (by decide) with ⟨q, -, q2, rfl, n1, m1⟩ | ⟨n1, m1⟩
    · have m1 : f_X6_isIn (nI q) 1 9 = some 1 := m1
      have n1 : f_X5_needRange (nI q) 1 9 = some (0, 0) := n1
      refine ⟨1, Or.inr ⟨rfl, ⟨1, by decide, rfl⟩, n0, ?_⟩, fun J σ => by simp only [jn_s, if_true, m1, bd_s]⟩
      unfold f_X5_needStageMeasure
      rw [if_pos rfl, n1, bt_0]
    · have m1 : f_X6_isIn x3 1 9 = some 0 := m1
      have n1 : f_X5_needRange x3 1 9 = some (2, 0) := n1
      refine ⟨0, Or.inl ⟨rfl, ?_⟩, fun J σ => by simp only [jn_s, if_true, m1, bd_s]⟩
      unfold f_X5_needStageMeasure
      rw [n0, bt_0, if_pos rfl, n1, bt_e2]
  · have h1' : (x1 = 1) = False := eq_false h1
    by_cases h2 : x1 = 2
    · subst h2
      have n0 : f_X5_needRange 2 0 3 = some (0, 0) := by decide
      rcases range_cases x3 0 99 (by decide) (by decide) with ⟨q, -, q2, rfl, n1, m1⟩ | ⟨n1, m1⟩
      · have m1 : f_X6_isIn (nI q) 0 99 = some 1 := m1
        have n1 : f_X5_needRange (nI q) 0 99 = some (0, 0) := n1
        refine ⟨1, Or.inr ⟨rfl, ⟨2, by decide, rfl⟩, n0, ?_⟩, fun J σ => by simp only [jn_s, if_true, h1', if_false, m1, bd_s]⟩
        unfold f_X5_needStageMeasure
        rw [if_neg (by decide), if_pos rfl, n1, bt_0]
      · have m1 : f_X6_isIn x3 0 99 = some 0 := m1
        have n1 : f_X5_needRange x3 0 99 = some (2, 0) := n1
        refine ⟨0, Or.inl ⟨rfl, ?_⟩, fun J σ => by simp only [jn_s, if_true, h1', if_false, m1, bd_s]⟩
        unfold f_X5_needStageMeasure
        rw [n0, bt_0, if_neg (by decide), if_pos rfl, n1, bt_e2]
    · have h2' : (x1 = 2) = False := eq_false h2
      by_cases h0 : x1 = 0
      · subst h0
        refine ⟨1, Or.inr ⟨rfl, ⟨0, by decide, rfl⟩, by decide, ?_⟩, fun J σ => by simp only [jn_s, h1', h2', if_true, if_false]⟩
        unfold f_X5_needStageMeasure
        simp only [h1', h2', if_false]
      · have h0' : (x1 = 0) = False := eq_false h0
        by_cases h3 : x1 = 3
        · subst h3
          refine ⟨1, Or.inr ⟨rfl, ⟨3, by decide, rfl⟩, by decide, ?_⟩, fun J σ => by simp only [jn_s, h1', h2', h0', if_true, if_false]⟩
          unfold f_X5_needStageMeasure
          simp only [h1', h2', if_false]
        · have h3' : (x1 = 3) = False := eq_false h3
          refine ⟨0, Or.inl ⟨rfl, ?_⟩, fun J σ => by simp only [jn_s, h1', h2', h0', h3', if_false]⟩
          rcases range_cases x1 0 3 (by decide) (by decide) with ⟨q, -, q2, rfl, n1, m1⟩ | ⟨n1, m1⟩
          · exfalso
            rcases (show q = 0 ∨ q = 1 ∨ q = 2 ∨ q = 3 by omega) with rfl | rfl | rfl | rfl
            · exact h0 rfl
            · exact h1 rfl
            · exact h2 rfl
            · exact h3 rfl
          · rw [show f_X5_needRange x1 0 3 = some (2, 0) from n1, bt_e2]
