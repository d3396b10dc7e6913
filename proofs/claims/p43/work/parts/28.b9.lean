/-! BEING BEATEN -/
theorem mu_mu (σ : Mem) (k i : Nat) (v v' : Int32) : mu (mu σ k i v) k i v' = mu σ k i v' := by
  funext a b
  unfold mu upd
  by_cases h : a = k
  · subst h
    by_cases h2 : b = i <;> simp [h2]
  · simp [h]
theorem mu_commP {σ : Mem} {k i i' : Nat} {v v' : Int32} (h : i ≠ i') : mu (mu σ k i v) k i' v' = mu (mu σ k i' v') k i v := by
  funext a b
  unfold mu upd
  by_cases h1 : a = k
  · subst h1
    by_cases h2 : b = i
    · subst h2; simp [h]
    · by_cases h3 : b = i' <;> simp [h2, h3, h.symm]
  · simp [h1]
/-- all goods (cell ig) of the player l, from the kind i on, fall on the floor (cell jf) of the room ro -/
def dlt (ig jf l ro i : Nat) (σ : Mem) : Mem := fun k => if k = ig then (fun j => if l * 5 + i ≤ j ∧ j < l * 5 + 5 then 0 else σ ig j) else if k = jf then (fun j => if ro * 5 + i ≤ j ∧ j < ro * 5 + 5 then σ jf j + σ ig (l * 5 + (j - ro * 5)) else σ jf j) else σ k
theorem dlt_5 {ig jf l ro : Nat} (σ : Mem) : dlt ig jf l ro 5 σ = σ := by
  funext k j
  unfold dlt
  by_cases h1 : k = ig
  · subst h1; rw [if_pos rfl]; exact if_neg (by omega)
  · rw [if_neg h1]
    by_cases h2 : k = jf
    · subst h2; rw [if_pos rfl]; exact if_neg (by omega)
    · rw [if_neg h2]
theorem dlt_s {ig jf l ro i : Nat} (hne : ig ≠ jf) (hi : i < 5) (σ : Mem) : dlt ig jf l ro (i + 1) (mu (mu σ jf (ro * 5 + i) (σ jf (ro * 5 + i) + σ ig (l * 5 + i))) ig (l * 5 + i) 0) = dlt ig jf l ro i σ := by
  have e1 : mu (mu σ jf (ro * 5 + i) (σ jf (ro * 5 + i) + σ ig (l * 5 + i))) ig (l * 5 + i) 0 ig = upd (σ ig) (l * 5 + i) 0 := by rw [mu_s, mu_n hne]
  have e2 : mu (mu σ jf (ro * 5 + i) (σ jf (ro * 5 + i) + σ ig (l * 5 + i))) ig (l * 5 + i) 0 jf = upd (σ jf) (ro * 5 + i) (σ jf (ro * 5 + i) + σ ig (l * 5 + i)) := by rw [mu_n (Ne.symm hne), mu_s]
  funext k j
  unfold dlt
  by_cases h1 : k = ig
  · subst h1
    rw [if_pos rfl, if_pos rfl, e1]
    unfold upd
    by_cases h3 : j = l * 5 + i
    · subst h3; rw [if_neg (by omega), if_pos rfl, if_pos (by omega)]
    · by_cases h4 : l * 5 + (i + 1) ≤ j ∧ j < l * 5 + 5
      · rw [if_pos h4, if_pos (by omega)]
      · rw [if_neg h4, if_neg h3, if_neg (by omega)]
  · rw [if_neg h1, if_neg h1]
    by_cases h2 : k = jf
    · subst h2
      rw [if_pos rfl, if_pos rfl, e1, e2]
      unfold upd
      by_cases h3 : j = ro * 5 + i
      · subst h3; rw [if_neg (by omega), if_pos rfl, if_pos (by omega), Nat.add_sub_cancel_left]
      · by_cases h4 : ro * 5 + (i + 1) ≤ j ∧ j < ro * 5 + 5
        · rw [if_pos h4, if_neg h3, if_neg (by omega), if_pos (by omega)]
        · rw [if_neg h4, if_neg h3, if_neg (by omega)]
    · rw [if_neg h2, if_neg h2, mu_n h1, mu_n h2]
theorem defeat_loop {l ro : Nat} {z : Int32} (hl : l < 4) (hro : ro < 8) (k : Mem → Option Mem) : ∀ (n i : Nat) (σ : Mem), i ≤ 5 → 6 ≤ i + n → σ 9 l = nI ro → L_X4_defeat_23 n k (nI l) z (nI i) σ = k (dlt 14 6 l ro i σ) := by
  intro n
  induction n with
  | zero => intro i σ h1 h2; omega
  | succ n ih =>
    intro i σ h1 h2 h9
    rw [L_X4_defeat_23]
    by_cases hi : i = 5
    · subst hi; rw [if_pos (by decide), dlt_5]
    · rw [if_neg (show ¬ (5 : Int32) ≤ nI i from nI_ge (a := i) (b := 5) (by omega) (by omega))]
      unfold f_X1_addGoods f_X2_addToFloor f_X5_goodsAt
      simp only [n5r, bd_s, bd2_s, gd_ok (show l * 5 + i < 20 by omega) (by decide), gd_ok (show l < 4 by omega) (by decide), N_nI (show l * 5 + i < 2 ^ 31 by omega), N_nI (show l < 2 ^ 31 by omega), stp_s, mu_n (show (9 : Nat) ≠ 14 by decide), h9, gd_ok (show ro * 5 + i < 40 by omega) (by decide), N_nI (show ro * 5 + i < 2 ^ 31 by omega), mu_n (show (6 : Nat) ≠ 14 by decide), Int32.add_right_neg, nI_1]
      rw [ih (i + 1) _ (by omega) (by omega) (by rw [mu_n (by decide), mu_n (by decide)]; exact h9), mu_comm (show (14 : Nat) ≠ 6 by decide), dlt_s (by decide) (by omega)]
theorem beaten_loop {l ro : Nat} {z : Int32} (hl : l < 4) (hro : ro < 8) (k : Mem → Option Mem) : ∀ (n i : Nat) (μ : Mem), i ≤ 5 → 6 ≤ i + n → μ 6 l = nI ro → L_X6_isBeaten_35 n k (nI l) z (nI i) μ = k (dlt 11 2 l ro i μ) := by
  intro n
  induction n with
  | zero => intro i σ h1 h2; omega
  | succ n ih =>
    intro i μ h1 h2 h9
    rw [L_X6_isBeaten_35]
    by_cases hi : i = 5
    · subst hi; rw [if_pos (by decide), dlt_5]
    · rw [if_neg (show ¬ (5 : Int32) ≤ nI i from nI_ge (a := i) (b := 5) (by omega) (by omega))]
      simp only [gd_ok (show l < 4 by omega) (by decide), N_nI (show l < 2 ^ 31 by omega), h9, n5l, gd_ok (show ro * 5 + i < 40 by omega) (by decide), N_nI (show ro * 5 + i < 2 ^ 31 by omega), gd_ok (show l * 5 + i < 20 by omega) (by decide), N_nI (show l * 5 + i < 2 ^ 31 by omega), stp_s, nI_1]
      rw [ih (i + 1) _ (by omega) (by omega) (by rw [mu_n (by decide), mu_n (by decide)]; exact h9), dlt_s (by decide) (by omega)]
def payM (kc l w : Nat) (σ : Mem) : Mem := mu (mu σ kc l (σ kc l - σ kc l / 2)) kc w (mu σ kc l (σ kc l - σ kc l / 2) kc w + σ kc l / 2)
theorem jmax_eq (x y : Int32) : jmax x y = if x ≤ y then y else x := by
  unfold jmax
  by_cases h : x < y
  · rw [if_pos h, if_pos (Int32.le_of_lt h)]
  · rw [if_neg h]
    by_cases h2 : x ≤ y
    · rw [if_pos h2]
      exact Int32.le_antisymm h2 (i32_le_lt.mp h)
    · rw [if_neg h2]
theorem payM_n {kc l w k : Nat} {σ : Mem} (h : k ≠ kc) : payM kc l w σ k = σ k := by unfold payM; rw [mu_n h, mu_n h]
theorem dlt_n {ig jf l ro i k : Nat} {σ : Mem} (h1 : k ≠ ig) (h2 : k ≠ jf) : dlt ig jf l ro i σ k = σ k := by unfold dlt; rw [if_neg h1, if_neg h2]
theorem defeat_eq {l w ro : Nat} {tm : Int32} {σ : Mem} (hl : l < 4) (hw : w < 4) (hro : ro < 8) (h9 : σ 9 l = nI ro) : f_X4_defeat σ (nI l) (nI w) tm = some (mu (mu (mu (dlt 14 6 l ro 0 (payM 10 l w σ)) 9 l 0) 12 l 10) 13 l (if σ 13 l ≤ tm + 10 then tm + 10 else σ 13 l)) := by
  unfold f_X4_defeat f_X1_payOut
  simp only [gd_ok (show l < 4 by omega) (by decide), gd_ok (show w < 4 by omega) (by decide), N_nI (show l < 2 ^ 31 by omega), N_nI (show w < 2 ^ 31 by omega), stp_s, bd_s]
  rw [show (0 : Int32) = nI 0 from rfl, defeat_loop hl hro _ FU 0 _ (by omega) (by show 6 ≤ 0 + 6000; omega) (by rw [mu_n (by decide), mu_n (by decide)]; exact h9)]
  simp only [jmax_eq, mu_n (show (13 : Nat) ≠ 12 by decide), mu_n (show (13 : Nat) ≠ 9 by decide), dlt_n (show (13 : Nat) ≠ 14 by decide) (show (13 : Nat) ≠ 6 by decide), mu_n (show (13 : Nat) ≠ 10 by decide)]
  rfl
theorem beaten_eq {l w ro : Nat} {tm : Int32} {μ : Mem} (hl : l < 4) (hw : w < 4) (hro : ro < 8) (h9 : μ 6 l = nI ro) : f_X6_isBeaten μ (nI l) (nI w) tm = some (mu (mu (mu (dlt 11 2 l ro 0 (payM 7 l w μ)) 6 l 0) 9 l 10) 10 l (if μ 10 l ≤ tm + 10 then tm + 10 else μ 10 l)) := by
  unfold f_X6_isBeaten
  simp only [gd_ok (show l < 4 by omega) (by decide), gd_ok (show w < 4 by omega) (by decide), N_nI (show l < 2 ^ 31 by omega), N_nI (show w < 2 ^ 31 by omega), stp_s, bd_s, jn_s]
  rw [show (0 : Int32) = nI 0 from rfl, beaten_loop hl hro _ FU 0 _ (by omega) (by show 6 ≤ 0 + 6000; omega) (by rw [mu_n (by decide), mu_n (by decide)]; exact h9)]
  simp only [mu_n (show (10 : Nat) ≠ 9 by decide), mu_n (show (10 : Nat) ≠ 6 by decide), dlt_n (show (10 : Nat) ≠ 11 by decide) (show (10 : Nat) ≠ 2 by decide), mu_n (show (10 : Nat) ≠ 7 by decide)]
  by_cases h : μ 10 l ≤ tm + 10
  · rw [if_pos h, if_pos h]; rfl
  · rw [if_neg h, if_neg h]; rfl
theorem RW.dlt {σ μ : Mem} (h : RW σ μ) {l ro : Nat} (hl : l < 4) (hro : ro < 8) : RW (dlt 14 6 l ro 0 σ) (dlt 11 2 l ro 0 μ) := by
  obtain ⟨⟨a1, a2, a3, a4, a5⟩, ⟨b0, b⟩, ⟨c1, c2, c3, c4⟩, ⟨d1, d2⟩, ⟨e0, e⟩⟩ := h
  refine ⟨⟨a1, a2, a3, a4, fun j hj => ?_⟩, ⟨b0, b⟩, ⟨fun j hj => ?_, c2, c3, c4⟩, ⟨d1, d2⟩, ⟨e0, e⟩⟩
  · show (if ro * 5 + 0 ≤ j ∧ j < ro * 5 + 5 then σ 6 j + σ 14 (l * 5 + (j - ro * 5)) else σ 6 j) = if ro * 5 + 0 ≤ j ∧ j < ro * 5 + 5 then μ 2 j + μ 11 (l * 5 + (j - ro * 5)) else μ 2 j
    by_cases h : ro * 5 + 0 ≤ j ∧ j < ro * 5 + 5
    · rw [if_pos h, if_pos h, a5 j hj, c1 _ (by omega)]
    · rw [if_neg h, if_neg h, a5 j hj]
  · show (if l * 5 + 0 ≤ j ∧ j < l * 5 + 5 then 0 else σ 14 j) = if l * 5 + 0 ≤ j ∧ j < l * 5 + 5 then 0 else μ 11 j
    by_cases h : l * 5 + 0 ≤ j ∧ j < l * 5 + 5
    · rw [if_pos h, if_pos h]
    · rw [if_neg h, if_neg h, c1 j hj]
theorem IW.dlt {g r : Nat} {μ : Mem} (h : IW g r μ) {l ro : Nat} (hl : l < 4) (hro : ro < 8) (hg : g ≤ 600) : IW (g + 1) r (dlt 11 2 l ro 0 μ) := by
  obtain ⟨h1, h2, h3, h4, h5, h6, h7, h8, h9, h10, h11⟩ := h.mono (Nat.le_add_right g 1) (Nat.le_refl r)
  obtain ⟨-, -, -, -, -, k6, -, k8, -⟩ := h
  refine ⟨h1, h2, h3, h4, h5, fun j hj => ?_, h7, fun j hj => ?_, h9, h10, h11⟩
  · show ∃ q, q ≤ 600 * (g + 1) ∧ (if ro * 5 + 0 ≤ j ∧ j < ro * 5 + 5 then μ 2 j + μ 11 (l * 5 + (j - ro * 5)) else μ 2 j) = nI q
    by_cases h : ro * 5 + 0 ≤ j ∧ j < ro * 5 + 5
    · rw [if_pos h]
      obtain ⟨q, q1, q2⟩ := k6 j hj
      obtain ⟨q', q1', q2'⟩ := k8 (l * 5 + (j - ro * 5)) (by omega)
      exact ⟨q + q', by omega, by rw [q2, q2', nI_add]⟩
    · rw [if_neg h]; exact h6 j hj
  · show ∃ q, q ≤ g + 1 ∧ (if l * 5 + 0 ≤ j ∧ j < l * 5 + 5 then 0 else μ 11 j) = nI q
    by_cases h : l * 5 + 0 ≤ j ∧ j < l * 5 + 5
    · rw [if_pos h]; exact ⟨0, Nat.zero_le _, rfl⟩
    · rw [if_neg h]; exact h8 j hj
