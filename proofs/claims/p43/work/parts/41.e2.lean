/-! QUERIES -/
def QR (ok : Nat → Int32 → Prop) (μ : Mem) (m : Option (Int32 × Mem)) (x : Option (Nat × Int32)) : Prop := ∃ e v b t, x = some (e, v) ∧ m = some (b, mu μ 0 29 t) ∧ Agr ok e v t b
def QV (μ : Mem) (m : Option (Int32 × Mem)) (x : Option Int32) : Prop := ∃ v, x = some v ∧ m = some (v, mu μ 0 29 0)
theorem n6r (r k : Nat) : nI r * 6 + nI k = nI (r * 6 + k) := by rw [show (6 : Int32) = nI 6 from rfl, pk_mul, nI_add]
theorem n6l2 (r k : Nat) : 6 * nI r + nI k = nI (r * 6 + k) := by rw [show (6 : Int32) = nI 6 from rfl, pk_mul, nI_add, Nat.mul_comm]
theorem gz1 {α : Type} (a : Option α) : gz 1 a = a := if_pos (Or.inr rfl)
theorem gz0 {α : Type} (a : Option α) : gz 0 a = a := if_pos (Or.inl rfl)
theorem q_turn {g r : Nat} {τ μ : Mem} (hI : IW g r μ) (hR : RW τ μ) : QV μ (f_X6_turn μ) (f_X5_turn τ) := by
  unfold f_X6_turn f_X5_turn
  rcases actor_cases (hI.thrown 0) (hR.thrown 0) with ⟨a1, -, a3⟩ | ⟨a, -, a1, -, a3, -⟩
  · exact ⟨-1, by simp only [a1, bd_s], by simp only [stp_s, a3, bd_s]⟩
  · exact ⟨nI a, by simp only [a1, bd_s], by simp only [stp_s, a3, bd_s]⟩
theorem q_purse {τ μ : Mem} (hR : RW τ μ) : QV μ (f_X6_purse μ) (f_X5_purse τ) := ⟨μ 0 14, by unfold f_X5_purse; rw [hR.2.2.2.1.1], by unfold f_X6_purse; rw [stp_s, mu_pl (by decide)]⟩
theorem q_calls {c : Nat} {τ μ : Mem} {M : Nat → Mem} (h : SX c τ μ M) : QV μ (f_X6_calls μ) (f_X5_calls τ) := ⟨nI c, by unfold f_X5_calls; rw [h.2.2.2.1], by unfold f_X6_calls; rw [stp_s, mu_pl (by decide), h.2.1]⟩
theorem q_readyAt {g r : Nat} {τ μ : Mem} (hI : IW g r μ) (hR : RW τ μ) (x : Int32) : QR ok1 μ (f_X6_readyAt μ x) (f_X5_readyAt τ x) := by
  unfold f_X6_readyAt f_X5_readyAt f_X6_isAsked
  rcases player_cases hI hR x with ⟨q, q1, rfl, n1, m1⟩ | ⟨n1, m1⟩
  · have hp := hI.np.1
    have g4 : ∀ {α : Type} (x : Option α), gd (nI q) 4 x = x := fun x => gd_ok (by omega) (by decide)
    have hN : (nI q).toNatClampNeg = q := N_nI (by omega)
    exact ⟨0, μ 10 q, μ 10 q, 0, by simp only [n1, bt_0, g4, hN, ((hR.2.1.2 q q1).2.2.2.2)], by simp only [m1, bd_s, jn_s, i10, i00, if_true, if_false, can_ok, bd2_s, gz1, g4, hN, mu_n (show (10 : Nat) ≠ 0 by decide)], Or.inl ⟨rfl, rfl, rfl⟩⟩
  · exact ⟨1, 0, 0, 1, by simp only [n1, bt_e1], by simp only [m1, bd_s, jn_s, i10, i00, if_true, if_false, can_ok, bd2_s, gz0], Or.inr ⟨rfl, rfl⟩⟩
theorem q_roomOf {g r : Nat} {τ μ : Mem} (hI : IW g r μ) (hR : RW τ μ) (x : Int32) : QR ok1 μ (f_X6_roomOf μ x) (f_X5_roomOf τ x) := by
  unfold f_X6_roomOf f_X5_roomOf f_X6_isAsked
  rcases player_cases hI hR x with ⟨q, q1, rfl, n1, m1⟩ | ⟨n1, m1⟩
  · have hp := hI.np.1
    have g4 : ∀ {α : Type} (x : Option α), gd (nI q) 4 x = x := fun x => gd_ok (by omega) (by decide)
    have hN : (nI q).toNatClampNeg = q := N_nI (by omega)
    exact ⟨0, μ 6 q, μ 6 q, 0, by simp only [n1, bt_0, g4, hN, ((hR.2.1.2 q q1).1)], by simp only [m1, bd_s, jn_s, i10, i00, if_true, if_false, can_ok, bd2_s, gz1, g4, hN, mu_n (show (6 : Nat) ≠ 0 by decide)], Or.inl ⟨rfl, rfl, rfl⟩⟩
  · exact ⟨1, 0, 0, 1, by simp only [n1, bt_e1], by simp only [m1, bd_s, jn_s, i10, i00, if_true, if_false, can_ok, bd2_s, gz0], Or.inr ⟨rfl, rfl⟩⟩
theorem q_coinsOf {g r : Nat} {τ μ : Mem} (hI : IW g r μ) (hR : RW τ μ) (x : Int32) : QR ok1 μ (f_X6_coinsOf μ x) (f_X5_coinsOf τ x) := by
  unfold f_X6_coinsOf f_X5_coinsOf f_X6_isAsked
  rcases player_cases hI hR x with ⟨q, q1, rfl, n1, m1⟩ | ⟨n1, m1⟩
  · have hp := hI.np.1
    have g4 : ∀ {α : Type} (x : Option α), gd (nI q) 4 x = x := fun x => gd_ok (by omega) (by decide)
    have hN : (nI q).toNatClampNeg = q := N_nI (by omega)
    exact ⟨0, μ 7 q, μ 7 q, 0, by simp only [n1, bt_0, g4, hN, ((hR.2.1.2 q q1).2.1)], by simp only [m1, bd_s, jn_s, i10, i00, if_true, if_false, can_ok, bd2_s, gz1, g4, hN, mu_n (show (7 : Nat) ≠ 0 by decide)], Or.inl ⟨rfl, rfl, rfl⟩⟩
  · exact ⟨1, 0, 0, 1, by simp only [n1, bt_e1], by simp only [m1, bd_s, jn_s, i10, i00, if_true, if_false, can_ok, bd2_s, gz0], Or.inr ⟨rfl, rfl⟩⟩
theorem q_healthOf {g r : Nat} {τ μ : Mem} (hI : IW g r μ) (hR : RW τ μ) (x : Int32) : QR ok1 μ (f_X6_healthOf μ x) (f_X5_healthOf τ x) := by
  unfold f_X6_healthOf f_X5_healthOf f_X6_isAsked
  rcases player_cases hI hR x with ⟨q, q1, rfl, n1, m1⟩ | ⟨n1, m1⟩
  · have hp := hI.np.1
    have g4 : ∀ {α : Type} (x : Option α), gd (nI q) 4 x = x := fun x => gd_ok (by omega) (by decide)
    have hN : (nI q).toNatClampNeg = q := N_nI (by omega)
    exact ⟨0, μ 9 q, μ 9 q, 0, by simp only [n1, bt_0, g4, hN, ((hR.2.1.2 q q1).2.2.2.1)], by simp only [m1, bd_s, jn_s, i10, i00, if_true, if_false, can_ok, bd2_s, gz1, g4, hN, mu_n (show (9 : Nat) ≠ 0 by decide)], Or.inl ⟨rfl, rfl, rfl⟩⟩
  · exact ⟨1, 0, 0, 1, by simp only [n1, bt_e1], by simp only [m1, bd_s, jn_s, i10, i00, if_true, if_false, can_ok, bd2_s, gz0], Or.inr ⟨rfl, rfl⟩⟩
theorem q_goodsOf {g r : Nat} {τ μ : Mem} (hI : IW g r μ) (hR : RW τ μ) (x y : Int32) : QR ok1 μ (f_X6_goodsOf μ x y) (f_X5_goodsOf τ x y) := by
  unfold f_X6_goodsOf f_X5_goodsOf f_X5_goodsAt
  rcases player_cases hI hR x with ⟨q, q1, rfl, n1, m1⟩ | ⟨n1, m1⟩
  · rcases kind_cases y with ⟨u, u1, rfl, n2, m2⟩ | ⟨n2, m2⟩
    · have hp := hI.np.1
      have hq := hI.nq.1
      have hj : q * 5 + u < 20 := by omega
      have gj : ∀ {α : Type} (x : Option α), gd (nI (q * 5 + u)) 20 x = x := fun x => gd_ok hj (by decide)
      have hN : (nI (q * 5 + u)).toNatClampNeg = q * 5 + u := N_nI (by omega)
      exact ⟨0, μ 11 (q * 5 + u), μ 11 (q * 5 + u), 0, by simp only [n1, n2, bt_0, bd_s, n5r, gj, hN, (hR.2.2.1.1 _ hj)], by simp only [m1, m2, bd_s, jn_s, i10, i00, if_true, if_false, can_ok, bd2_s, n5l, gj, hN, mu_n (show (11 : Nat) ≠ 0 by decide)], Or.inl ⟨rfl, rfl, rfl⟩⟩
    · exact ⟨1, 0, 0, 1, by simp only [n1, n2, bt_0, bt_e1], by simp only [m1, m2, bd_s, jn_s, i10, i00, if_true, if_false, can_ok, bd2_s], Or.inr ⟨rfl, rfl⟩⟩
  · exact ⟨1, 0, 0, 1, by simp only [n1, bt_e1], by simp only [m1, bd_s, jn_s, i10, i00, if_true, if_false, can_ok, bd2_s], Or.inr ⟨rfl, rfl⟩⟩
theorem q_stageOf {g r : Nat} {τ μ : Mem} (hI : IW g r μ) (hR : RW τ μ) (x y : Int32) : QR ok1 μ (f_X6_stageOf μ x y) (f_X5_stageOf τ x y) := by
  unfold f_X6_stageOf f_X5_stageOf f_X5_reachedAt
  rcases player_cases hI hR x with ⟨q, q1, rfl, n1, m1⟩ | ⟨n1, m1⟩
  · rcases quest_cases hI hR y with ⟨u, u1, rfl, n2, m2⟩ | ⟨n2, m2⟩
    · have hp := hI.np.1
      have hq := hI.nq.1
      have hj : q * 3 + u < 12 := by omega
      have gj : ∀ {α : Type} (x : Option α), gd (nI (q * 3 + u)) 12 x = x := fun x => gd_ok hj (by decide)
      have hN : (nI (q * 3 + u)).toNatClampNeg = q * 3 + u := N_nI (by omega)
      exact ⟨0, μ 19 (q * 3 + u), μ 19 (q * 3 + u), 0, by simp only [n1, n2, bt_0, bd_s, n3r, gj, hN, (hR.2.2.1.2.1 _ hj)], by simp only [m1, m2, bd_s, jn_s, i10, i00, if_true, if_false, can_ok, bd2_s, n3l, gj, hN, mu_n (show (19 : Nat) ≠ 0 by decide)], Or.inl ⟨rfl, rfl, rfl⟩⟩
    · exact ⟨1, 0, 0, 1, by simp only [n1, n2, bt_0, bt_e1], by simp only [m1, m2, bd_s, jn_s, i10, i00, if_true, if_false, can_ok, bd2_s], Or.inr ⟨rfl, rfl⟩⟩
  · exact ⟨1, 0, 0, 1, by simp only [n1, bt_e1], by simp only [m1, bd_s, jn_s, i10, i00, if_true, if_false, can_ok, bd2_s], Or.inr ⟨rfl, rfl⟩⟩
theorem q_exit {g r : Nat} {τ μ : Mem} (hI : IW g r μ) (hR : RW τ μ) (x y : Int32) : QR ok1 μ (f_X6_exit μ x y) (f_X5_exit τ x y) := by
  unfold f_X6_exit f_X5_exit f_X2_exitFrom
  rcases room_cases x with ⟨q, q1, rfl, n1, m1⟩ | ⟨n1, m1⟩
  · rcases dir_cases y with ⟨u, u1, rfl, n2, m2⟩ | ⟨n2, m2⟩
    · have hp := hI.np.1
      have hq := hI.nq.1
      have hj : q * 4 + u < 32 := by omega
      have gj : ∀ {α : Type} (x : Option α), gd (nI (q * 4 + u)) 32 x = x := fun x => gd_ok hj (by decide)
      have hN : (nI (q * 4 + u)).toNatClampNeg = q * 4 + u := N_nI (by omega)
      exact ⟨0, μ 1 (q * 4 + u), μ 1 (q * 4 + u), 0, by simp only [n1, n2, bt_0, bd_s, n4r, gj, hN, (hR.1.1 _ hj)], by simp only [m1, m2, bd_s, jn_s, i10, i00, if_true, if_false, can_ok, bd2_s, n4l, gj, hN, mu_n (show (1 : Nat) ≠ 0 by decide)], Or.inl ⟨rfl, rfl, rfl⟩⟩
    · exact ⟨1, 0, 0, 1, by simp only [n1, n2, bt_0, bt_e1], by simp only [m1, m2, bd_s, jn_s, i10, i00, if_true, if_false, can_ok, bd2_s], Or.inr ⟨rfl, rfl⟩⟩
  · exact ⟨1, 0, 0, 1, by simp only [n1, bt_e1], by simp only [m1, bd_s, jn_s, i10, i00, if_true, if_false, can_ok, bd2_s], Or.inr ⟨rfl, rfl⟩⟩
theorem q_onFloor {g r : Nat} {τ μ : Mem} (hI : IW g r μ) (hR : RW τ μ) (x y : Int32) : QR ok1 μ (f_X6_onFloor μ x y) (f_X5_onFloor τ x y) := by
  unfold f_X6_onFloor f_X5_onFloor f_X5_goodsAt
  rcases room_cases x with ⟨q, q1, rfl, n1, m1⟩ | ⟨n1, m1⟩
  · rcases kind_cases y with ⟨u, u1, rfl, n2, m2⟩ | ⟨n2, m2⟩
    · have hp := hI.np.1
      have hq := hI.nq.1
      have hj : q * 5 + u < 40 := by omega
      have gj : ∀ {α : Type} (x : Option α), gd (nI (q * 5 + u)) 40 x = x := fun x => gd_ok hj (by decide)
      have hN : (nI (q * 5 + u)).toNatClampNeg = q * 5 + u := N_nI (by omega)
      exact ⟨0, μ 2 (q * 5 + u), μ 2 (q * 5 + u), 0, by simp only [n1, n2, bt_0, bd_s, n5r, gj, hN, (hR.1.2.2.2.2 _ hj)], by simp only [m1, m2, bd_s, jn_s, i10, i00, if_true, if_false, can_ok, bd2_s, n5l, gj, hN, mu_n (show (2 : Nat) ≠ 0 by decide)], Or.inl ⟨rfl, rfl, rfl⟩⟩
    · exact ⟨1, 0, 0, 1, by simp only [n1, n2, bt_0, bt_e1], by simp only [m1, m2, bd_s, jn_s, i10, i00, if_true, if_false, can_ok, bd2_s], Or.inr ⟨rfl, rfl⟩⟩
  · exact ⟨1, 0, 0, 1, by simp only [n1, bt_e1], by simp only [m1, bd_s, jn_s, i10, i00, if_true, if_false, can_ok, bd2_s], Or.inr ⟨rfl, rfl⟩⟩
theorem q_stockOf {g r : Nat} {τ μ : Mem} (hI : IW g r μ) (hR : RW τ μ) (x y : Int32) : QR ok1 μ (f_X6_stockOf μ x y) (f_X5_stockOf τ x y) := by
  unfold f_X6_stockOf f_X5_stockOf f_X5_goodsAt
  rcases room_cases x with ⟨q, q1, rfl, n1, m1⟩ | ⟨n1, m1⟩
  · rcases kind_cases y with ⟨u, u1, rfl, n2, m2⟩ | ⟨n2, m2⟩
    · have hp := hI.np.1
      have hq := hI.nq.1
      have hj : q * 5 + u < 40 := by omega
      have gj : ∀ {α : Type} (x : Option α), gd (nI (q * 5 + u)) 40 x = x := fun x => gd_ok hj (by decide)
      have hN : (nI (q * 5 + u)).toNatClampNeg = q * 5 + u := N_nI (by omega)
      exact ⟨0, μ 5 (q * 5 + u), μ 5 (q * 5 + u), 0, by simp only [n1, n2, bt_0, bd_s, n5r, gj, hN, (hR.1.2.2.2.1 _ hj)], by simp only [m1, m2, bd_s, jn_s, i10, i00, if_true, if_false, can_ok, bd2_s, n5l, gj, hN, mu_n (show (5 : Nat) ≠ 0 by decide)], Or.inl ⟨rfl, rfl, rfl⟩⟩
    · exact ⟨1, 0, 0, 1, by simp only [n1, n2, bt_0, bt_e1], by simp only [m1, m2, bd_s, jn_s, i10, i00, if_true, if_false, can_ok, bd2_s], Or.inr ⟨rfl, rfl⟩⟩
  · exact ⟨1, 0, 0, 1, by simp only [n1, bt_e1], by simp only [m1, bd_s, jn_s, i10, i00, if_true, if_false, can_ok, bd2_s], Or.inr ⟨rfl, rfl⟩⟩
theorem q_tillOf {τ μ : Mem} (hR : RW τ μ) (x : Int32) : QR ok1 μ (f_X6_tillOf μ x) (f_X5_tillOf τ x) := by
  unfold f_X6_tillOf f_X5_tillOf
  rcases room_cases x with ⟨q, q1, rfl, n1, m1⟩ | ⟨n1, m1⟩
  · have g8 : ∀ {α : Type} (x : Option α), gd (nI q) 8 x = x := fun x => gd_ok q1 (by decide)
    have hN : (nI q).toNatClampNeg = q := N_nI (by omega)
    exact ⟨0, μ 3 q, μ 3 q, 0, by simp only [n1, bt_0, g8, hN, hR.1.2.1 q q1], by simp only [m1, bd_s, jn_s, i10, i00, if_true, if_false, can_ok, bd2_s, g8, hN, mu_n (show (3 : Nat) ≠ 0 by decide)], Or.inl ⟨rfl, rfl, rfl⟩⟩
  · exact ⟨1, 0, 0, 1, by simp only [n1, bt_e1], by simp only [m1, bd_s, jn_s, i10, i00, if_true, if_false, can_ok, bd2_s], Or.inr ⟨rfl, rfl⟩⟩
theorem q_heard {g r : Nat} {τ μ : Mem} (hI : IW g r μ) (hR : RW τ μ) (x y : Int32) : QR ok1 μ (f_X6_heard μ x y) (f_X5_heard τ x y) := by
  unfold f_X6_heard f_X5_heard
  rcases player_cases hI hR x with ⟨q, q1, rfl, n1, m1⟩ | ⟨n1, m1⟩
  · have hp := hI.np.1
    have q4 : q < 4 := by omega
    have g4 : ∀ {α : Type} (x : Option α), gd (nI q) 4 x = x := fun x => gd_ok q4 (by decide)
    have hN4 : (nI q).toNatClampNeg = q := N_nI (by omega)
    obtain ⟨-, -, -, -, -, -, -, -, -, h10, -⟩ := id hI
    obtain ⟨w, w1, w2⟩ := h10 q q4
    have hw : τ 17 q = nI w := (hR.2.2.1.2.2.1 q q4).trans w2
    rcases below_cases y w (by omega) with ⟨u, u1, rfl, n2, n3, m2⟩ | ⟨n2, m2⟩
    · have hj : q * 6 + u < 24 := by omega
      have gj : ∀ {α : Type} (x : Option α), gd (nI (q * 6 + u)) 24 x = x := fun x => gd_ok hj (by decide)
      have hN : (nI (q * 6 + u)).toNatClampNeg = q * 6 + u := N_nI (by omega)
      have hh : τ 16 (q * 6 + u) = μ 13 (q * 6 + u) := hR.2.2.1.2.2.2 q u q4 (by rw [w2, N_nI (by omega)]; exact u1)
      exact ⟨0, μ 13 (q * 6 + u), μ 13 (q * 6 + u), 0, by simp only [n1, bt_0, jn_s, eq_false n2, if_false, g4, hN4, hw, eq_true n3, if_true, n6r, gj, hN, hh], by simp only [m1, bd_s, jn_s, i10, i00, if_true, if_false, g4, hN4, w2, m2, can_ok, bd2_s, n6l2, gj, hN, mu_n (show (13 : Nat) ≠ 0 by decide)], Or.inl ⟨rfl, rfl, rfl⟩⟩
    · refine ⟨1, 0, 0, 1, ?_, by simp only [m1, bd_s, jn_s, i10, i00, if_true, if_false, g4, hN4, w2, m2, can_ok, bd2_s], Or.inr ⟨rfl, rfl⟩⟩
      rw [n1, bt_0, jn_s]
      by_cases hy : y < 0
      · rw [if_pos hy]
      · rw [if_neg hy, g4, hN4, hw, if_neg (n2.resolve_left hy)]
  · exact ⟨1, 0, 0, 1, by simp only [n1, bt_e1], by simp only [m1, bd_s, jn_s, i10, i00, if_true, if_false, can_ok, bd2_s], Or.inr ⟨rfl, rfl⟩⟩
