/-! MAKING: what builds the world -/
theorem make_end {c : Nat} {μ μ5 : Mem} {v K b0 b1 b2 b3 : Int32} (hc : c < 512) (hK : ¬ (9 : Int32) ≤ K) (hI5 : IW (c + 1) (13 * c + 13) μ5) (h29 : μ5 0 29 = 0) (h23 : μ5 0 23 = nI c) (hh : ∀ k, 20 ≤ k → k ≤ 23 → μ5 k = μ k)
    (hplay : ∀ σ, RW σ μ → ∃ σ', f_X4_make σ K b0 b1 b2 b3 = some (v, σ') ∧ RW σ' μ5) :
    ∃ μ'', f_X6_keep μ5 = some μ'' ∧ Step c μ K b0 b1 b2 b3 v μ'' ∧ (∀ k, k ≠ 0 → k ≠ 20 → k ≠ 21 → k ≠ 22 → k ≠ 23 → μ'' k = μ5 k) ∧ ∀ i, i ≠ 23 → μ'' 0 i = μ5 0 i := by
  obtain ⟨μ'', e1, e2, e3, e4⟩ := keep_ok hI5 (by omega) h23
  refine ⟨μ'', e1, ⟨by rw [e2.2.1 29 (by decide)]; exact h29, e3, e2.kpt (μ5 := μ5) hI5 hh, fun σ hR => ?_⟩, e2.2.2.1, e2.2.1⟩
  obtain ⟨σ', s1, s2⟩ := hplay σ hR
  refine ⟨σ', ?_, e4 σ' s2⟩
  unfold f_X4_play
  rw [if_neg hK, s1]; rfl
theorem op_endow {c : Nat} {τ μ : Mem} (B : Beg c τ μ) (d : Int32) : OpR ok2 c τ μ 7 d 0 0 0 (f_X6_endow μ d) (f_X5_endow τ d) := by
  obtain ⟨hc, hI, h23, hR⟩ := B
  unfold f_X6_endow f_X5_endow
  rcases range_cases d 1 1000 (by decide) (by decide) with ⟨q, -, q2, rfl, n1, m1⟩ | ⟨n1, m1⟩
  · obtain ⟨μ5, hμ5⟩ : ∃ μ5, μ5 = mu (mu μ 0 29 0) 0 14 (μ 0 14 + nI q) := ⟨_, rfl⟩
    obtain ⟨μ'', e1, e2, e3, e4⟩ := make_end (μ := μ) (μ5 := μ5) (v := μ 0 14 + nI q) (K := 7) (b0 := nI q) (b1 := 0) (b2 := 0) (b3 := 0) hc (by decide) (by rw [hμ5]; exact ((hI.thrown 0).purse _).mono (by omega) (by omega)) (by rw [hμ5, mu_pl (by decide), mu_at]) (by rw [hμ5, mu_pl (by decide), mu_pl (by decide)]; exact h23) (fun k k1 k2 => by rw [hμ5, mu_n (by omega), mu_n (by omega)]) (fun σ hRs => by
      refine ⟨mu σ 0 3 (μ 0 14 + nI q), ?_, by rw [hμ5]; exact (hRs.thrown 0).purse _⟩
      unfold f_X4_make
      rw [if_neg (by decide), if_neg (by decide), if_neg (by decide), if_neg (by decide), if_neg (by decide), if_neg (by decide), if_neg (by decide), if_pos rfl, stp_s, mu_at, hRs.2.2.2.1.1])
    refine Or.inr ⟨μ 0 14 + nI q, μ'', ?_, e2, ?_⟩
    · rw [show f_X6_isIn (nI q) 1 1000 = some 1 from m1]
      simp only [bd_s, i10, if_false, jn_s, can_ok, i00, if_true, bd2_s, stp_s, mu_pl (show (14 : Nat) ≠ 29 by decide)]
      rw [← hμ5, e1, bd_s, e4 14 (by decide), hμ5, mu_at]
    · rw [show f_X5_needRange (nI q) 1 1000 = some (0, 0) from n1, bt_0]
  · exact Or.inl ⟨2, 1, ⟨rfl, rfl⟩, by rw [show f_X6_isIn d 1 1000 = some 0 from m1]; simp only [bd_s, jn_s, can_ok, i10, i00, if_true, if_false, bd2_s], by rw [show f_X5_needRange d 1 1000 = some (2, 0) from n1, bt_e2]⟩
theorem op_shop {c : Nat} {τ μ : Mem} (B : Beg c τ μ) (r d : Int32) : OpV ok123 c τ μ 1 r d 0 0 (f_X6_shop μ r d) (f_X5_shop τ r d) := by
  obtain ⟨hc, hI, h23, hR⟩ := B
  unfold f_X6_shop f_X5_shop
  rcases room_cases r with ⟨a, a1, rfl, na, ma⟩ | ⟨na, ma⟩
  · rcases range_cases d 0 1000 (by decide) (by decide) with ⟨q, -, q2, rfl, n1, m1⟩ | ⟨n1, m1⟩
    · have m1 : f_X6_isIn (nI q) 0 1000 = some 1 := m1
      have n1 : f_X5_needRange (nI q) 0 1000 = some (0, 0) := n1
      have g8 : ∀ {α : Type} (x : Option α), gd (nI a) 8 x = x := fun x => gd_ok a1 (by decide)
      have hN : (nI a).toNatClampNeg = a := N_nI (by omega)
      have ht : τ 3 a = μ 3 a := hR.1.2.1 _ a1
      by_cases hs : μ 3 a = -1
      · have hs' : (μ 3 a = -1) = True := eq_true hs
        obtain ⟨μ5, hμ5⟩ : ∃ μ5, μ5 = mu (mu μ 0 29 0) 3 a (nI q) := ⟨_, rfl⟩
        obtain ⟨μ'', e1, e2, e3, e4⟩ := make_end (μ := μ) (μ5 := μ5) (v := 0) (K := 1) (b0 := nI a) (b1 := nI q) (b2 := 0) (b3 := 0) hc (by decide) (by rw [hμ5]; exact ((hI.thrown 0).till _ _).mono (by omega) (by omega)) (by rw [hμ5, mu_n (by decide), mu_at]) (by rw [hμ5, mu_n (by decide), mu_pl (by decide)]; exact h23) (fun k k1 k2 => by rw [hμ5, mu_n (by omega), mu_n (by omega)]) (fun σ hRs => by
          refine ⟨mu σ 3 a (nI q), ?_, by rw [hμ5]; exact (hRs.thrown 0).till _ _⟩
          unfold f_X4_make
          rw [if_neg (by decide), if_pos rfl, g8, hN, stp_s])
        refine Or.inr ⟨μ'', ?_, e2, ?_⟩
        · simp only [ma, m1, bd_s, i10, if_false, jn_s, g8, hN, hs', can_ok, i00, if_true, bd2_s, stp_s]
          rw [← hμ5, e1, bd_s]
        · simp only [na, n1, bt_0, f_X2_hasShop, g8, hN, ht, hs', if_true, bd_s, i00]
      · have hs' : (μ 3 a = -1) = False := eq_false hs
        exact Or.inl ⟨3, 3, Or.inr (Or.inr ⟨rfl, rfl⟩), by simp only [ma, m1, bd_s, i10, if_false, jn_s, g8, hN, hs', can_ok, i30, i00, if_true, bd2_s], by simp only [na, n1, bt_0, f_X2_hasShop, g8, hN, ht, hs', if_false, bd_s, i10]⟩
    · have m1 : f_X6_isIn d 0 1000 = some 0 := m1
      have n1 : f_X5_needRange d 0 1000 = some (2, 0) := n1
      exact Or.inl ⟨2, 2, Or.inr (Or.inl ⟨rfl, rfl⟩), by simp only [ma, m1, bd_s, jn_s, can_ok, i10, i20, i00, if_true, if_false, bd2_s], by simp only [na, n1, bt_0, bt_e2]⟩
  · exact Or.inl ⟨1, 1, Or.inl ⟨rfl, rfl⟩, by simp only [ma, bd_s, jn_s, can_ok, i10, i00, if_true, if_false, bd2_s], by simp only [na, bt_e1]⟩
theorem op_scatter {c : Nat} {τ μ : Mem} (B : Beg c τ μ) (r k d : Int32) : OpR (fun e t => (e = 1 ∧ t = 1) ∨ (e = 2 ∧ t = 2)) c τ μ 3 r k d 0 (f_X6_scatter μ r k d) (f_X5_scatter τ r k d) := by
  obtain ⟨hc, hI, h23, hR⟩ := B
  unfold f_X6_scatter f_X5_scatter
  rcases room_cases r with ⟨a, a1, rfl, na, ma⟩ | ⟨na, ma⟩
  · rcases kind_cases k with ⟨b, b1, rfl, nb, mb⟩ | ⟨nb, mb⟩
    · rcases range_cases d 1 9 (by decide) (by decide) with ⟨q, -, q2, rfl, n1, m1⟩ | ⟨n1, m1⟩
      · have m1 : f_X6_isIn (nI q) 1 9 = some 1 := m1
        have n1 : f_X5_needRange (nI q) 1 9 = some (0, 0) := n1
        have hj : a * 5 + b < 40 := by omega
        have g40 : ∀ {α : Type} (x : Option α), gd (nI (a * 5 + b)) 40 x = x := fun x => gd_ok hj (by decide)
        have hN : (nI (a * 5 + b)).toNatClampNeg = a * 5 + b := N_nI (by omega)
        obtain ⟨-, -, -, -, -, hI6, -⟩ := id hI
        obtain ⟨F, F1, F2⟩ := hI6 _ hj
        obtain ⟨μ5, hμ5⟩ : ∃ μ5, μ5 = mu (mu μ 0 29 0) 2 (a * 5 + b) (nI (F + q)) := ⟨_, rfl⟩
        obtain ⟨μ'', e1, e2, e3, e4⟩ := make_end (μ := μ) (μ5 := μ5) (v := nI (F + q)) (K := 3) (b0 := nI a) (b1 := nI b) (b2 := nI q) (b3 := 0) hc (by decide) (by rw [hμ5]; exact ((hI.thrown 0).mono (Nat.le_add_right c 1) (Nat.le_add_right _ 13)).floor _ ⟨F + q, by omega, rfl⟩) (by rw [hμ5, mu_n (by decide), mu_at]) (by rw [hμ5, mu_n (by decide), mu_pl (by decide)]; exact h23) (fun k k1 k2 => by rw [hμ5, mu_n (by omega), mu_n (by omega)]) (fun σ hRs => by
          refine ⟨mu σ 6 (a * 5 + b) (nI (F + q)), ?_, by rw [hμ5]; exact (hRs.thrown 0).floor _ _⟩
          have hf : σ 6 (a * 5 + b) = nI F := (hRs.1.2.2.2.2 _ hj).trans F2
          unfold f_X4_make f_X2_addToFloor f_X5_goodsAt
          rw [if_neg (by decide), if_neg (by decide), if_neg (by decide), if_pos rfl]
          simp only [n5r, bd_s, g40, hN, stp_s, bd2_s, hf, nI_add, mu_at])
        refine Or.inr ⟨nI (F + q), μ'', ?_, e2, ?_⟩
        · simp only [ma, mb, m1, bd_s, i10, if_false, jn_s, n5l, g40, hN, can_ok, i00, if_true, bd2_s, stp_s, mu_n (show (2 : Nat) ≠ 0 by decide), F2, nI_add]
          rw [← hμ5, e1, bd_s, e3 2 (by decide) (by decide) (by decide) (by decide) (by decide), hμ5, mu_at]
        · simp only [na, nb, n1, bt_0]
      · have m1 : f_X6_isIn d 1 9 = some 0 := m1
        have n1 : f_X5_needRange d 1 9 = some (2, 0) := n1
        exact Or.inl ⟨2, 2, Or.inr ⟨rfl, rfl⟩, by simp only [ma, mb, m1, bd_s, jn_s, can_ok, i10, i20, i00, if_true, if_false, bd2_s], by simp only [na, nb, n1, bt_0, bt_e2]⟩
    · exact Or.inl ⟨1, 1, Or.inl ⟨rfl, rfl⟩, by simp only [ma, mb, bd_s, jn_s, can_ok, i10, i00, if_true, if_false, bd2_s], by simp only [na, nb, bt_0, bt_e1]⟩
  · exact Or.inl ⟨1, 1, Or.inl ⟨rfl, rfl⟩, by simp only [ma, bd_s, jn_s, can_ok, i10, i00, if_true, if_false, bd2_s], by simp only [na, bt_e1]⟩
theorem op_stock {c : Nat} {τ μ : Mem} (B : Beg c τ μ) (r k d p : Int32) : OpR ok123 c τ μ 2 r k d p (f_X6_stock μ r k d p) (f_X5_stock τ r k d p) := by
  obtain ⟨hc, hI, h23, hR⟩ := B
  unfold f_X6_stock f_X5_stock
  rcases room_cases r with ⟨a, a1, rfl, na, ma⟩ | ⟨na, ma⟩
  · rcases kind_cases k with ⟨b, b1, rfl, nb, mb⟩ | ⟨nb, mb⟩
    · rcases range_cases d 0 20 (by decide) (by decide) with ⟨q, -, q2, rfl, n1, m1⟩ | ⟨n1, m1⟩
      · have m1 : f_X6_isIn (nI q) 0 20 = some 1 := m1
        have n1 : f_X5_needRange (nI q) 0 20 = some (0, 0) := n1
        rcases range_cases p 0 50 (by decide) (by decide) with ⟨u, -, u2, rfl, n2, m2⟩ | ⟨n2, m2⟩
        · have m2 : f_X6_isIn (nI u) 0 50 = some 1 := m2
          have n2 : f_X5_needRange (nI u) 0 50 = some (0, 0) := n2
          have g8 : ∀ {α : Type} (x : Option α), gd (nI a) 8 x = x := fun x => gd_ok a1 (by decide)
          have hNa : (nI a).toNatClampNeg = a := N_nI (by omega)
          have ht : τ 3 a = μ 3 a := hR.1.2.1 _ a1
          by_cases hs : μ 3 a = -1
          · have hs' : (μ 3 a = -1) = True := eq_true hs
            exact Or.inl ⟨3, 3, Or.inr (Or.inr ⟨rfl, rfl⟩), by simp only [ma, mb, m1, m2, bd_s, i10, if_false, jn_s, g8, hNa, hs', can_ok, i30, i00, if_true, bd2_s], by simp only [na, nb, n1, n2, bt_0, f_X2_hasShop, g8, hNa, ht, hs', if_true, bd_s, i00]⟩
          · have hs' : (μ 3 a = -1) = False := eq_false hs
            have hj : a * 5 + b < 40 := by omega
            have g40 : ∀ {α : Type} (x : Option α), gd (nI (a * 5 + b)) 40 x = x := fun x => gd_ok hj (by decide)
            have hN : (nI (a * 5 + b)).toNatClampNeg = a * 5 + b := N_nI (by omega)
            obtain ⟨-, -, -, -, -, -, hI7, -⟩ := id hI
            obtain ⟨F, F1, F2⟩ := hI7 _ hj
            obtain ⟨μ5, hμ5⟩ : ∃ μ5, μ5 = mu (mu (mu μ 0 29 0) 5 (a * 5 + b) (nI (F + q))) 4 (a * 5 + b) (nI u) := ⟨_, rfl⟩
            obtain ⟨μ'', e1, e2, e3, e4⟩ := make_end (μ := μ) (μ5 := μ5) (v := nI (F + q)) (K := 2) (b0 := nI a) (b1 := nI b) (b2 := nI q) (b3 := nI u) hc (by decide) (by rw [hμ5]; exact (((hI.thrown 0).mono (Nat.le_add_right c 1) (Nat.le_add_right _ 13)).stock _ ⟨F + q, by omega, rfl⟩).price _ _) (by rw [hμ5, mu_n (by decide), mu_n (by decide), mu_at]) (by rw [hμ5, mu_n (by decide), mu_n (by decide), mu_pl (by decide)]; exact h23) (fun k k1 k2 => by rw [hμ5, mu_n (by omega), mu_n (by omega), mu_n (by omega)]) (fun σ hRs => by
              refine ⟨mu (mu σ 4 (a * 5 + b) (nI u)) 5 (a * 5 + b) (nI (F + q)), ?_, by rw [hμ5, mu_comm (show (4 : Nat) ≠ 5 by decide)]; exact ((hRs.thrown 0).stock _ _).price _ _⟩
              have hf : σ 5 (a * 5 + b) = nI F := (hRs.1.2.2.2.1 _ hj).trans F2
              unfold f_X4_make f_X2_addStock f_X5_goodsAt
              rw [if_neg (by decide), if_neg (by decide), if_pos rfl]
              simp only [n5r, bd_s, g40, hN, stp_s, bd2_s, mu_n (show (5 : Nat) ≠ 4 by decide), hf, nI_add, mu_at])
            refine Or.inr ⟨nI (F + q), μ'', ?_, e2, ?_⟩
            · simp only [ma, mb, m1, m2, bd_s, i10, if_false, jn_s, g8, hNa, hs', n5l, g40, hN, can_ok, i00, if_true, bd2_s, stp_s, mu_n (show (5 : Nat) ≠ 0 by decide), F2, nI_add]
              rw [← hμ5, e1, bd_s, e3 5 (by decide) (by decide) (by decide) (by decide) (by decide), hμ5, mu_n (by decide), mu_at]
            · simp only [na, nb, n1, n2, bt_0, f_X2_hasShop, g8, hNa, ht, hs', if_false, bd_s, i10]
        · have m2 : f_X6_isIn p 0 50 = some 0 := m2
          have n2 : f_X5_needRange p 0 50 = some (2, 0) := n2
          exact Or.inl ⟨2, 2, Or.inr (Or.inl ⟨rfl, rfl⟩), by simp only [ma, mb, m1, m2, bd_s, jn_s, can_ok, i10, i20, i00, if_true, if_false, bd2_s], by simp only [na, nb, n1, n2, bt_0, bt_e2]⟩
      · have m1 : f_X6_isIn d 0 20 = some 0 := m1
        have n1 : f_X5_needRange d 0 20 = some (2, 0) := n1
        exact Or.inl ⟨2, 2, Or.inr (Or.inl ⟨rfl, rfl⟩), by simp only [ma, mb, m1, bd_s, jn_s, can_ok, i10, i20, i00, if_true, if_false, bd2_s], by simp only [na, nb, n1, bt_0, bt_e2]⟩
    · exact Or.inl ⟨1, 1, Or.inl ⟨rfl, rfl⟩, by simp only [ma, mb, bd_s, jn_s, can_ok, i10, i00, if_true, if_false, bd2_s], by simp only [na, nb, bt_0, bt_e1]⟩
  · exact Or.inl ⟨1, 1, Or.inl ⟨rfl, rfl⟩, by simp only [ma, bd_s, jn_s, can_ok, i10, i00, if_true, if_false, bd2_s], by simp only [na, bt_e1]⟩
theorem op_link {c : Nat} {τ μ : Mem} (B : Beg c τ μ) (r d s : Int32) : OpV ok123 c τ μ 0 r d s 0 (f_X6_link μ r d s) (f_X5_link τ r d s) := by
  obtain ⟨hc, hI, h23, hR⟩ := B
  unfold f_X6_link f_X5_link
  rcases room_cases r with ⟨a, a1, rfl, na, ma⟩ | ⟨na, ma⟩
  · rcases dir_cases d with ⟨q, q1, rfl, nq, mq⟩ | ⟨nq, mq⟩
    · rcases room_cases s with ⟨b, b1, rfl, nb, mb⟩ | ⟨nb, mb⟩
      · by_cases hab : nI a = nI b
        · have hab' : (nI a = nI b) = True := eq_true hab
          exact Or.inl ⟨2, 2, Or.inr (Or.inl ⟨rfl, rfl⟩), by simp only [ma, mb, mq, bd_s, jn_s, i10, i00, if_true, if_false, hab', can_ok, i20, bd2_s], by simp only [na, nq, nb, bt_0, hab', if_true]⟩
        · have hab' : (nI a = nI b) = False := eq_false hab
          obtain ⟨p, p1, p2⟩ : ∃ p, p < 4 ∧ jrem (nI q + 2) 4 = nI p := by
            rcases (show q = 0 ∨ q = 1 ∨ q = 2 ∨ q = 3 by omega) with rfl | rfl | rfl | rfl
            · exact ⟨2, by decide, by decide⟩
            · exact ⟨3, by decide, by decide⟩
            · exact ⟨0, by decide, by decide⟩
            · exact ⟨1, by decide, by decide⟩
          have j1 : a * 4 + q < 32 := by omega
          have j2 : b * 4 + p < 32 := by omega
          have ga : ∀ {α : Type} (x : Option α), gd (nI (a * 4 + q)) 32 x = x := fun x => gd_ok j1 (by decide)
          have gb : ∀ {α : Type} (x : Option α), gd (nI (b * 4 + p)) 32 x = x := fun x => gd_ok j2 (by decide)
          have hNa : (nI (a * 4 + q)).toNatClampNeg = a * 4 + q := N_nI (by omega)
          have hNb : (nI (b * 4 + p)).toNatClampNeg = b * 4 + p := N_nI (by omega)
          have x1 := hR.1.1 _ j1
          have x2 := hR.1.1 _ j2
          by_cases h1 : μ 1 (a * 4 + q) = -1
          · have h1' : (μ 1 (a * 4 + q) = -1) = True := eq_true h1
            by_cases h2 : μ 1 (b * 4 + p) = -1
            · have h2' : (μ 1 (b * 4 + p) = -1) = True := eq_true h2
              obtain ⟨μ5, hμ5⟩ : ∃ μ5, μ5 = mu (mu (mu μ 0 29 0) 1 (a * 4 + q) (nI b)) 1 (b * 4 + p) (nI a) := ⟨_, rfl⟩
              obtain ⟨μ'', e1, e2, e3, e4⟩ := make_end (μ := μ) (μ5 := μ5) (v := 0) (K := 0) (b0 := nI a) (b1 := nI q) (b2 := nI b) (b3 := 0) hc (by decide) (by rw [hμ5]; exact (((hI.thrown 0).exits _ (Or.inr ⟨b, b1, rfl⟩)).exits _ (Or.inr ⟨a, a1, rfl⟩)).mono (by omega) (by omega)) (by rw [hμ5, mu_n (by decide), mu_n (by decide), mu_at]) (by rw [hμ5, mu_n (by decide), mu_n (by decide), mu_pl (by decide)]; exact h23) (fun k k1 k2 => by rw [hμ5, mu_n (by omega), mu_n (by omega), mu_n (by omega)]) (fun σ hRs => by
                refine ⟨mu (mu σ 2 (a * 4 + q) (nI b)) 2 (b * 4 + p) (nI a), ?_, by rw [hμ5]; exact ((hRs.thrown 0).exits _ _).exits _ _⟩
                unfold f_X4_make f_X2_connect f_X5_opposite
                rw [if_pos rfl]
                simp only [n4r, bd_s, ga, gb, hNa, hNb, stp_s, p2])
              refine Or.inr ⟨μ'', ?_, e2, ?_⟩
              · simp only [ma, mb, mq, bd_s, i10, if_false, jn_s, hab', n4l, p2, ga, gb, hNa, hNb, h1', h2', can_ok, i00, if_true, bd2_s, stp_s]
                rw [← hμ5, e1, bd_s]
              · simp only [na, nq, nb, bt_0, hab', if_false, f_X2_exitFrom, f_X5_opposite, n4r, bd_s, p2, ga, gb, hNa, hNb, x1, x2, h1', h2', if_true, jn_s]
            · have h2' : (μ 1 (b * 4 + p) = -1) = False := eq_false h2
              exact Or.inl ⟨3, 3, Or.inr (Or.inr ⟨rfl, rfl⟩), by simp only [ma, mb, mq, bd_s, i10, if_false, jn_s, hab', n4l, p2, ga, gb, hNa, hNb, h1', h2', can_ok, i00, i30, if_true, bd2_s, stp_s], by simp only [na, nq, nb, bt_0, hab', if_false, f_X2_exitFrom, f_X5_opposite, n4r, bd_s, p2, ga, gb, hNa, hNb, x1, x2, h1', h2', if_true, jn_s]⟩
          · have h1' : (μ 1 (a * 4 + q) = -1) = False := eq_false h1
            exact Or.inl ⟨3, 3, Or.inr (Or.inr ⟨rfl, rfl⟩), by simp only [ma, mb, mq, bd_s, i10, if_false, jn_s, hab', n4l, p2, ga, gb, hNa, hNb, h1', can_ok, i00, i30, if_true, bd2_s, stp_s], by simp only [na, nq, nb, bt_0, hab', if_false, f_X2_exitFrom, f_X5_opposite, n4r, bd_s, p2, ga, gb, hNa, hNb, x1, x2, h1', if_true, jn_s]⟩
      · exact Or.inl ⟨1, 1, Or.inl ⟨rfl, rfl⟩, by simp only [ma, mb, mq, bd_s, jn_s, can_ok, i10, i00, if_true, if_false, bd2_s], by simp only [na, nq, nb, bt_0, bt_e1]⟩
    · rcases room_cases s with ⟨b, b1, rfl, nb, mb⟩ | ⟨nb, mb⟩
      · exact Or.inl ⟨1, 1, Or.inl ⟨rfl, rfl⟩, by simp only [ma, mb, mq, bd_s, jn_s, can_ok, i10, i00, if_true, if_false, bd2_s], by simp only [na, nq, bt_0, bt_e1]⟩
      · exact Or.inl ⟨1, 1, Or.inl ⟨rfl, rfl⟩, by simp only [ma, mb, bd_s, jn_s, can_ok, i10, i00, if_true, if_false, bd2_s], by simp only [na, nq, bt_0, bt_e1]⟩
  · exact Or.inl ⟨1, 1, Or.inl ⟨rfl, rfl⟩, by simp only [ma, bd_s, jn_s, can_ok, i10, i00, if_true, if_false, bd2_s], by simp only [na, bt_e1]⟩
