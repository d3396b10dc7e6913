/-! SUMS -/
def sm (f : Nat → Int32) : Nat → Nat → Int32
  | _, 0 => 0
  | i, n + 1 => f i + sm f (i + 1) n
theorem sm_congr {f g : Nat → Int32} : ∀ (n i : Nat), (∀ j, i ≤ j → j < i + n → f j = g j) → sm f i n = sm g i n := by
  intro n
  induction n with
  | zero => intro i h; rfl
  | succ n ih =>
    intro i h
    show f i + sm f (i + 1) n = g i + sm g (i + 1) n
    rw [h i (Nat.le_refl _) (by omega), ih (i + 1) fun j h1 h2 => h j (by omega) (by omega)]
theorem sm_s {f : Nat → Int32} {i n : Nat} {x : Int32} : x + f i + sm f (i + 1) n = x + sm f i (n + 1) := by
  show x + f i + sm f (i + 1) n = x + (f i + sm f (i + 1) n)
  rw [Int32.add_assoc]
theorem lc1 {σ : Mem} {np : Nat} (h0 : σ 8 0 = nI np) (hp : np ≤ 4) (k : Int32 → Option Int32) : ∀ (m n i : Nat) (x : Int32), i + m = np → m + 1 ≤ n → L_X1_sumOfCoins_4 n k σ x (nI i) = k (x + sm (σ 10) i m) := by
  intro m
  induction m with
  | zero =>
    intro n i x h1 h2
    obtain ⟨n, rfl⟩ : ∃ n', n = n' + 1 := ⟨n - 1, by omega⟩
    rw [L_X1_sumOfCoins_4, h0, if_pos (nI_le (by omega) (by omega))]
    show k x = k (x + 0)
    rw [Int32.add_zero]
  | succ m ih =>
    intro n i x h1 h2
    obtain ⟨n, rfl⟩ : ∃ n', n = n' + 1 := ⟨n - 1, by omega⟩
    rw [L_X1_sumOfCoins_4, h0, if_neg (nI_ge (by omega) (by omega)), gd_ok (by omega) (by decide), N_nI (by omega), nI_1, ih n (i + 1) _ (by omega) (by omega), sm_s]
theorem lc2 {μ : Mem} {np : Nat} (h0 : μ 0 5 = nI np) (hp : np ≤ 4) (k : Int32 → Mem → Option (Int32 × Mem)) : ∀ (m n i : Nat) (x : Int32), i + m = np → m + 1 ≤ n → L_X6_allCoins_12 n k x (nI i) μ = k (x + sm (μ 7) i m) μ := by
  intro m
  induction m with
  | zero =>
    intro n i x h1 h2
    obtain ⟨n, rfl⟩ : ∃ n', n = n' + 1 := ⟨n - 1, by omega⟩
    rw [L_X6_allCoins_12, h0, if_pos (nI_le (by omega) (by omega))]
    show k x μ = k (x + 0) μ
    rw [Int32.add_zero]
  | succ m ih =>
    intro n i x h1 h2
    obtain ⟨n, rfl⟩ : ∃ n', n = n' + 1 := ⟨n - 1, by omega⟩
    rw [L_X6_allCoins_12, h0, if_neg (nI_ge (by omega) (by omega)), gd_ok (by omega) (by decide), N_nI (by omega), nI_1, ih n (i + 1) _ (by omega) (by omega), sm_s]
def tl (f : Nat → Int32) (i : Nat) : Int32 := if f i = -1 then 0 else f i
theorem lt1 {σ : Mem} (k : Int32 → Option Int32) : ∀ (m n i : Nat) (x : Int32), i + m = 8 → m + 1 ≤ n → L_X2_sumOfTills_4 n k σ x (nI i) = k (x + sm (tl (σ 3)) i m) := by
  intro m
  induction m with
  | zero =>
    intro n i x h1 h2
    obtain ⟨n, rfl⟩ : ∃ n', n = n' + 1 := ⟨n - 1, by omega⟩
    rw [L_X2_sumOfTills_4, if_pos (show (8 : Int32) ≤ nI i from nI_le (a := 8) (by omega) (by omega))]
    show k x = k (x + 0)
    rw [Int32.add_zero]
  | succ m ih =>
    intro n i x h1 h2
    obtain ⟨n, rfl⟩ : ∃ n', n = n' + 1 := ⟨n - 1, by omega⟩
    rw [L_X2_sumOfTills_4, if_neg (show ¬ (8 : Int32) ≤ nI i from nI_ge (b := 8) (by omega) (by omega))]
    unfold f_X2_hasShop
    rw [gd_ok (by omega) (by decide), N_nI (by omega)]
    simp only [jn_s, nI_1]
    rw [← sm_s]
    unfold tl
    by_cases h : σ 3 i = -1
    · rw [if_pos h, if_pos h, bd_s, if_pos rfl, ih n (i + 1) _ (by omega) (by omega), Int32.add_zero]; rfl
    · rw [if_neg h, if_neg h, bd_s, if_neg (by decide), gd_ok (by omega) (by decide), ih n (i + 1) _ (by omega) (by omega)]; rfl
theorem lt2 {μ : Mem} (k : Int32 → Mem → Option (Int32 × Mem)) : ∀ (m n i : Nat) (x : Int32), i + m = 8 → m + 1 ≤ n → L_X6_allCoins_37 n k x (nI i) μ = k (x + sm (tl (μ 3)) i m) μ := by
  intro m
  induction m with
  | zero =>
    intro n i x h1 h2
    obtain ⟨n, rfl⟩ : ∃ n', n = n' + 1 := ⟨n - 1, by omega⟩
    rw [L_X6_allCoins_37, if_pos (show (8 : Int32) ≤ nI i from nI_le (a := 8) (by omega) (by omega))]
    show k x μ = k (x + 0) μ
    rw [Int32.add_zero]
  | succ m ih =>
    intro n i x h1 h2
    obtain ⟨n, rfl⟩ : ∃ n', n = n' + 1 := ⟨n - 1, by omega⟩
    rw [L_X6_allCoins_37, if_neg (show ¬ (8 : Int32) ≤ nI i from nI_ge (b := 8) (by omega) (by omega))]
    rw [gd_ok (by omega) (by decide), N_nI (by omega)]
    simp only [jn_s, nI_1]
    rw [← sm_s]
    unfold tl
    by_cases h : μ 3 i = -1
    · rw [if_pos h, if_pos h, ih n (i + 1) _ (by omega) (by omega)]; rfl
    · rw [if_neg h, if_neg h, gd_ok (by omega) (by decide), ih n (i + 1) _ (by omega) (by omega)]; rfl
theorem lg1 {σ : Mem} {np q : Nat} (h0 : σ 8 0 = nI np) (hp : np ≤ 4) (hq : q < 5) (k : Int32 → Option Int32) : ∀ (m n i : Nat) (x : Int32), i + m = np → m + 1 ≤ n → L_X1_sumOfGoods_4 n k σ (nI q) x (nI i) = k (x + sm (fun i => σ 14 (i * 5 + q)) i m) := by
  intro m
  induction m with
  | zero =>
    intro n i x h1 h2
    obtain ⟨n, rfl⟩ : ∃ n', n = n' + 1 := ⟨n - 1, by omega⟩
    rw [L_X1_sumOfGoods_4, h0, if_pos (nI_le (by omega) (by omega))]
    show k x = k (x + 0)
    rw [Int32.add_zero]
  | succ m ih =>
    intro n i x h1 h2
    obtain ⟨n, rfl⟩ : ∃ n', n = n' + 1 := ⟨n - 1, by omega⟩
    rw [L_X1_sumOfGoods_4, h0, if_neg (nI_ge (by omega) (by omega))]
    unfold f_X5_goodsAt
    rw [bd_s, n5r, gd_ok (by omega) (by decide), N_nI (by omega), nI_1, ih n (i + 1) _ (by omega) (by omega), ← sm_s]
theorem lg2 {μ : Mem} {np q : Nat} (h0 : μ 0 5 = nI np) (hp : np ≤ 4) (hq : q < 5) (k : Int32 → Mem → Option (Int32 × Mem)) : ∀ (m n i : Nat) (x : Int32), i + m = np → m + 1 ≤ n → L_X6_allGoods_25 n k (nI q) x (nI i) μ = k (x + sm (fun i => μ 11 (i * 5 + q)) i m) μ := by
  intro m
  induction m with
  | zero =>
    intro n i x h1 h2
    obtain ⟨n, rfl⟩ : ∃ n', n = n' + 1 := ⟨n - 1, by omega⟩
    rw [L_X6_allGoods_25, h0, if_pos (nI_le (by omega) (by omega))]
    show k x μ = k (x + 0) μ
    rw [Int32.add_zero]
  | succ m ih =>
    intro n i x h1 h2
    obtain ⟨n, rfl⟩ : ∃ n', n = n' + 1 := ⟨n - 1, by omega⟩
    rw [L_X6_allGoods_25, h0, if_neg (nI_ge (by omega) (by omega))]
    rw [n5l, gd_ok (by omega) (by decide), N_nI (by omega), nI_1, ih n (i + 1) _ (by omega) (by omega), ← sm_s]
theorem lh1 {σ : Mem} {q : Nat} (hq : q < 5) (k : Int32 → Option Int32) : ∀ (m n i : Nat) (x : Int32), i + m = 8 → m + 1 ≤ n → L_X2_sumOfGoods_4 n k σ (nI q) x (nI i) = k (x + sm (fun i => σ 6 (i * 5 + q) + σ 5 (i * 5 + q)) i m) := by
  intro m
  induction m with
  | zero =>
    intro n i x h1 h2
    obtain ⟨n, rfl⟩ : ∃ n', n = n' + 1 := ⟨n - 1, by omega⟩
    rw [L_X2_sumOfGoods_4, if_pos (show (8 : Int32) ≤ nI i from nI_le (a := 8) (by omega) (by omega))]
    show k x = k (x + 0)
    rw [Int32.add_zero]
  | succ m ih =>
    intro n i x h1 h2
    obtain ⟨n, rfl⟩ : ∃ n', n = n' + 1 := ⟨n - 1, by omega⟩
    rw [L_X2_sumOfGoods_4, if_neg (show ¬ (8 : Int32) ≤ nI i from nI_ge (b := 8) (by omega) (by omega))]
    unfold f_X5_goodsAt
    rw [bd_s, n5r, gd_ok (by omega) (by decide), bd_s, gd_ok (by omega) (by decide), N_nI (by omega), nI_1, ih n (i + 1) _ (by omega) (by omega), ← sm_s]
theorem lh2 {μ : Mem} {q : Nat} (hq : q < 5) (k : Int32 → Mem → Option (Int32 × Mem)) : ∀ (m n i : Nat) (x : Int32), i + m = 8 → m + 1 ≤ n → L_X6_allGoods_54 n k (nI q) x (nI i) μ = k (x + sm (fun i => μ 2 (i * 5 + q) + μ 5 (i * 5 + q)) i m) μ := by
  intro m
  induction m with
  | zero =>
    intro n i x h1 h2
    obtain ⟨n, rfl⟩ : ∃ n', n = n' + 1 := ⟨n - 1, by omega⟩
    rw [L_X6_allGoods_54, if_pos (show (8 : Int32) ≤ nI i from nI_le (a := 8) (by omega) (by omega))]
    show k x μ = k (x + 0) μ
    rw [Int32.add_zero]
  | succ m ih =>
    intro n i x h1 h2
    obtain ⟨n, rfl⟩ : ∃ n', n = n' + 1 := ⟨n - 1, by omega⟩
    rw [L_X6_allGoods_54, if_neg (show ¬ (8 : Int32) ≤ nI i from nI_ge (b := 8) (by omega) (by omega))]
    rw [n5l, gd_ok (by omega) (by decide), gd_ok (by omega) (by decide), N_nI (by omega), nI_1, ih n (i + 1) _ (by omega) (by omega), ← sm_s]
theorem q_allCoins {g r : Nat} {τ μ : Mem} (hI : IW g r μ) (hR : RW τ μ) : QV μ (f_X6_allCoins μ) (f_X5_allCoins τ) := by
  obtain ⟨p1, p2⟩ := hI.np
  have ht : τ 8 0 = nI (pcN μ) := hR.2.1.1.trans p2
  refine ⟨μ 0 14 + sm (μ 7) 0 (pcN μ) + sm (tl (μ 3)) 0 8, ?_, ?_⟩
  · unfold f_X5_allCoins f_X1_sumOfCoins f_X2_sumOfTills
    rw [show (0 : Int32) = nI 0 from rfl, lc1 ht p1 _ (pcN μ) FU 0 _ (by omega) (by show _ ≤ 6000; omega), bd_s, lt1 _ 8 FU 0 _ (by omega) (by decide), bd_s, hR.2.2.2.1.1, show nI 0 = (0 : Int32) from rfl, Int32.zero_add, Int32.zero_add]
    rw [sm_congr (f := τ 10) (g := μ 7) (pcN μ) 0 fun j _ hj => (hR.2.1.2 j (by omega)).2.1, sm_congr (f := tl (τ 3)) (g := tl (μ 3)) 8 0 fun j _ hj => by unfold tl; rw [hR.1.2.1 j (by omega)]]
  · unfold f_X6_allCoins
    rw [stp_s, show (0 : Int32) = nI 0 from rfl, lc2 (np := pcN μ) (by rw [mu_pl (by decide)]; exact p2) p1 _ (pcN μ) FU 0 _ (by omega) (by show _ ≤ 6000; omega), lt2 _ 8 FU 0 _ (by omega) (by decide), mu_pl (by decide), mu_n (by decide), mu_n (by decide)]
theorem q_allGoods {g r : Nat} {τ μ : Mem} (hI : IW g r μ) (hR : RW τ μ) (x : Int32) : QR ok1 μ (f_X6_allGoods μ x) (f_X5_allGoods τ x) := by
  unfold f_X6_allGoods f_X5_allGoods
  rcases kind_cases x with ⟨q, q1, rfl, n1, m1⟩ | ⟨n1, m1⟩
  · obtain ⟨p1, p2⟩ := hI.np
    have ht : τ 8 0 = nI (pcN μ) := hR.2.1.1.trans p2
    refine ⟨0, sm (fun i => μ 11 (i * 5 + q)) 0 (pcN μ) + sm (fun i => μ 2 (i * 5 + q) + μ 5 (i * 5 + q)) 0 8, sm (fun i => μ 11 (i * 5 + q)) 0 (pcN μ) + sm (fun i => μ 2 (i * 5 + q) + μ 5 (i * 5 + q)) 0 8, 0, ?_, ?_, Or.inl ⟨rfl, rfl, rfl⟩⟩
    · unfold f_X1_sumOfGoods f_X2_sumOfGoods
      rw [n1, bt_0, show (0 : Int32) = nI 0 from rfl, lg1 ht p1 q1 _ (pcN μ) FU 0 _ (by omega) (by show _ ≤ 6000; omega), bd_s, lh1 q1 _ 8 FU 0 _ (by omega) (by decide), bd_s, show nI 0 = (0 : Int32) from rfl, Int32.zero_add, Int32.zero_add]
      rw [sm_congr (f := fun i => τ 14 (i * 5 + q)) (g := fun i => μ 11 (i * 5 + q)) (pcN μ) 0 fun j _ hj => hR.2.2.1.1 _ (by omega), sm_congr (f := fun i => τ 6 (i * 5 + q) + τ 5 (i * 5 + q)) (g := fun i => μ 2 (i * 5 + q) + μ 5 (i * 5 + q)) 8 0 fun j _ hj => by
        show τ 6 (j * 5 + q) + τ 5 (j * 5 + q) = μ 2 (j * 5 + q) + μ 5 (j * 5 + q)
        rw [hR.1.2.2.2.2 _ (by omega), hR.1.2.2.2.1 _ (by omega)]]
    · simp only [m1, bd_s, jn_s, i10, if_false, can_ok, i00, if_true, bd2_s]
      rw [show (0 : Int32) = nI 0 from rfl, lg2 (np := pcN μ) (by rw [mu_pl (by decide)]; exact p2) p1 q1 _ (pcN μ) FU 0 _ (by omega) (by show _ ≤ 6000; omega), lh2 q1 _ 8 FU 0 _ (by omega) (by decide), show nI 0 = (0 : Int32) from rfl, Int32.zero_add, mu_n (by decide), mu_n (by decide), mu_n (by decide)]
  · exact ⟨1, 0, 0, 1, by simp only [n1, bt_e1], by simp only [m1, bd_s, jn_s, i10, i00, if_true, if_false, can_ok, bd2_s], Or.inr ⟨rfl, rfl⟩⟩
