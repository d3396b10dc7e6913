/-! DISTANCE -/
theorem nI_q4 : ∀ e, e < 32 → nI e / 4 = nI (e / 4) := by decide +kernel
/-- one door looked at, d steps out -/
def ed (μ : Mem) (d e : Nat) : Mem := if μ 1 e = -1 then μ else if μ 24 (e / 4) = nI d then (if μ 24 (μ 1 e).toNatClampNeg = -1 then mu μ 24 (μ 1 e).toNatClampNeg (nI (d + 1)) else μ) else μ
def eds (d : Nat) : Mem → Nat → Nat → Mem
  | μ, _, 0 => μ
  | μ, e, n + 1 => eds d (ed μ d e) (e + 1) n
theorem eds_add (d : Nat) : ∀ (n m e : Nat) (μ : Mem), eds d μ e (n + m) = eds d (eds d μ e n) (e + n) m := by
  intro n
  induction n with
  | zero => intro m e μ; rw [Nat.zero_add]; rfl
  | succ n ih =>
    intro m e μ
    rw [show n + 1 + m = (n + m) + 1 by omega]
    show eds d (ed μ d e) (e + 1) (n + m) = eds d (eds d (ed μ d e) (e + 1) n) (e + (n + 1)) m
    rw [ih, show e + 1 + n = e + (n + 1) by omega]
theorem ed_n {μ : Mem} {d e k : Nat} (h : k ≠ 24) : ed μ d e k = μ k := by
  unfold ed
  split
  · rfl
  · split
    · split
      · exact mu_n h
      · rfl
    · rfl
theorem eds_n {d k : Nat} (h : k ≠ 24) : ∀ (n e : Nat) (μ : Mem), eds d μ e n k = μ k := by
  intro n
  induction n with
  | zero => intro e μ; rfl
  | succ n ih => intro e μ; exact (ih (e + 1) (ed μ d e)).trans (ed_n h)
def DV (μ : Mem) : Prop := ∀ e, e < 32 → μ 1 e = -1 ∨ ∃ q, q < 8 ∧ μ 1 e = nI q
theorem DV.c {μ μ' : Mem} (h : DV μ) (e : μ' 1 = μ 1) : DV μ' := fun i hi => by rw [e]; exact h i hi
theorem m69 {d : Nat} (hd : d < 8) (k : Mem → Option (Int32 × Mem)) (x20 : Int32) : ∀ (m n e : Nat) (μ : Mem), e + m = 32 → m + 1 ≤ n → DV μ → L_X6_distance_69 n k x20 (nI d) (nI e) μ = k (eds d μ e m) := by
  intro m
  induction m with
  | zero =>
    intro n e μ h1 h2 hD
    obtain ⟨n, rfl⟩ : ∃ n', n = n' + 1 := ⟨n - 1, by omega⟩
    rw [L_X6_distance_69, if_pos (show (32 : Int32) ≤ nI e from nI_le (a := 32) (by omega) (by omega))]
    rfl
  | succ m ih =>
    intro n e μ h1 h2 hD
    obtain ⟨n, rfl⟩ : ∃ n', n = n' + 1 := ⟨n - 1, by omega⟩
    rw [L_X6_distance_69, if_neg (show ¬ (32 : Int32) ≤ nI e from nI_ge (b := 32) (by omega) (by omega))]
    have he : (nI e).toNatClampNeg = e := N_nI (by omega)
    have he4 : (nI (e / 4)).toNatClampNeg = e / 4 := N_nI (by omega)
    have g1 : ∀ {α : Type} (x : Option α), gd (nI e) 32 x = x := fun x => gd_ok (by omega) (by decide)
    have g2 : ∀ {α : Type} (x : Option α), gd (nI (e / 4)) 8 x = x := fun x => gd_ok (by omega) (by decide)
    simp only [g1, jn_s, he, nI_q4 e (by omega), g2, he4, stp_s, nI_1]
    show _ = k (eds d (ed μ d e) (e + 1) m)
    unfold ed
    by_cases hx : μ 1 e = -1
    · rw [if_pos hx, if_pos hx]
      exact ih n (e + 1) μ (by omega) (by omega) hD
    · rw [if_neg hx, if_neg hx]
      obtain ⟨q, q1, q2⟩ := (hD e (by omega)).resolve_left hx
      have g3 : ∀ {α : Type} (x : Option α), gd (μ 1 e) 8 x = x := fun x => gd_x q2 q1 (by decide)
      by_cases hy : μ 24 (e / 4) = nI d
      · rw [if_pos hy, if_pos hy, g3, g3]
        by_cases hz : μ 24 (μ 1 e).toNatClampNeg = -1
        · rw [if_pos hz, if_pos hz]
          exact ih n (e + 1) _ (by omega) (by omega) (hD.c (mu_n (by decide)))
        · rw [if_neg hz, if_neg hz]
          exact ih n (e + 1) μ (by omega) (by omega) hD
      · rw [if_neg hy, if_neg hy]
        exact ih n (e + 1) μ (by omega) (by omega) hD
def rnds : Nat → Mem → Nat → Mem
  | _, μ, 0 => μ
  | d, μ, n + 1 => rnds (d + 1) (eds d μ 0 32) n
theorem rnds_n {k : Nat} (h : k ≠ 24) : ∀ (n d : Nat) (μ : Mem), rnds d μ n k = μ k := by
  intro n
  induction n with
  | zero => intro d μ; rfl
  | succ n ih => intro d μ; exact (ih (d + 1) _).trans (eds_n h 32 0 μ)
theorem m60 (k : Mem → Option (Int32 × Mem)) (x14 : Int32) : ∀ (m n d : Nat) (μ : Mem), d + m = 8 → m + 1 ≤ n → DV μ → L_X6_distance_60 n k x14 (nI d) μ = k (rnds d μ m) := by
  intro m
  induction m with
  | zero =>
    intro n d μ h1 h2 hD
    obtain ⟨n, rfl⟩ : ∃ n', n = n' + 1 := ⟨n - 1, by omega⟩
    rw [L_X6_distance_60, if_pos (show (8 : Int32) ≤ nI d from nI_le (a := 8) (by omega) (by omega))]
    rfl
  | succ m ih =>
    intro n d μ h1 h2 hD
    obtain ⟨n, rfl⟩ : ∃ n', n = n' + 1 := ⟨n - 1, by omega⟩
    rw [L_X6_distance_60, if_neg (show ¬ (8 : Int32) ≤ nI d from nI_ge (b := 8) (by omega) (by omega))]
    rw [show (0 : Int32) = nI 0 from rfl, m69 (by omega) _ _ 32 FU 0 μ (by omega) (by decide) hD, nI_1]
    exact ih n (d + 1) _ (by omega) (by omega) (hD.c (eds_n (by decide) 32 0 μ))
/-- the class's world, as the reference's -/
def DR (σ0 σ μ : Mem) : Prop := (∀ k, k ≠ 7 → σ k = σ0 k) ∧ (∀ i, i < 32 → σ 2 i = μ 1 i) ∧ ∀ i, i < 8 → σ 7 i = μ 24 i
theorem s2 {σ0 : Mem} {d r : Nat} (hd : d < 8) (hr : r < 8) (k : Mem → Option Mem) : ∀ (m n i : Nat) (σ μ : Mem), i + m = 4 → m + 1 ≤ n → DV μ → DR σ0 σ μ → μ 24 r = nI d → ∃ σ', DR σ0 σ' (eds d μ (r * 4 + i) m) ∧ L_X2_stepOut_2 n k (nI r) (nI i) σ = k σ' := by
  intro m
  induction m with
  | zero =>
    intro n i σ μ h1 h2 hD hR h24
    obtain ⟨n, rfl⟩ : ∃ n', n = n' + 1 := ⟨n - 1, by omega⟩
    exact ⟨σ, hR, by rw [L_X2_stepOut_2, if_pos (show (4 : Int32) ≤ nI i from nI_le (a := 4) (by omega) (by omega))]⟩
  | succ m ih =>
    intro n i σ μ h1 h2 hD hR h24
    obtain ⟨n, rfl⟩ : ∃ n', n = n' + 1 := ⟨n - 1, by omega⟩
    rw [L_X2_stepOut_2, if_neg (show ¬ (4 : Int32) ≤ nI i from nI_ge (b := 4) (by omega) (by omega))]
    unfold f_X2_exitFrom
    have hj : r * 4 + i < 32 := by omega
    have hre : (nI r).toNatClampNeg = r := N_nI (by omega)
    rw [n4r, gd_ok hj (by decide), N_nI (by omega), bd_s, hR.2.1 _ hj]
    simp only [jn_s, stp_s, nI_1, hre]
    show ∃ σ', DR σ0 σ' (eds d (ed μ d (r * 4 + i)) (r * 4 + i + 1) m) ∧ _
    have hdiv : (r * 4 + i) / 4 = r := by omega
    unfold ed
    rw [hdiv]
    by_cases hx : μ 1 (r * 4 + i) = -1
    · rw [if_pos hx, if_pos hx]
      exact ih n (i + 1) σ μ (by omega) (by omega) hD hR h24
    · rw [if_neg hx, if_neg hx, if_pos h24]
      obtain ⟨q, q1, q2⟩ := (hD _ hj).resolve_left hx
      have g8 : ∀ {α : Type} (x : Option α), gd (nI q) 8 x = x := fun x => gd_ok q1 (by decide)
      have hqe : (nI q).toNatClampNeg = q := N_nI (by omega)
      rw [q2, g8, hqe, hR.2.2 q q1]
      by_cases hz : μ 24 q = -1
      · rw [if_pos hz, if_pos hz, gd_ok hr (by decide), g8, hR.2.2 r hr, h24, nI_1]
        have hqr : r ≠ q := fun e => by rw [← e, h24] at hz; exact nI_neg1 (by omega) hz
        refine ih n (i + 1) _ _ (by omega) (by omega) (hD.c (mu_n (by decide))) ⟨fun k hk => by rw [mu_n hk]; exact hR.1 k hk, fun j hj2 => by rw [mu_n (by decide), mu_n (by decide)]; exact hR.2.1 j hj2, fun j hj2 => ?_⟩ (by rw [mu_pl hqr]; exact h24)
        by_cases hjq : j = q
        · subst hjq; rw [mu_at, mu_at]
        · rw [mu_pl hjq, mu_pl hjq]; exact hR.2.2 j hj2
      · rw [if_neg hz, if_neg hz]
        exact ih n (i + 1) σ μ (by omega) (by omega) hD hR h24
theorem eds_off {d r : Nat} {μ : Mem} (h : ¬ μ 24 r = nI d) : ∀ (m i : Nat), i + m = 4 → eds d μ (r * 4 + i) m = μ := by
  intro m
  induction m with
  | zero => intro i h1; rfl
  | succ m ih =>
    intro i h1
    show eds d (ed μ d (r * 4 + i)) (r * 4 + i + 1) m = μ
    have : ed μ d (r * 4 + i) = μ := by
      unfold ed
      rw [show (r * 4 + i) / 4 = r by omega, if_neg h]
      split <;> rfl
    rw [this]
    exact ih (i + 1) (by omega)
theorem s26 {σ0 : Mem} {d : Nat} (hd : d < 8) (k : Mem → Option (Int32 × Mem)) (x9 : Int32) : ∀ (m n r : Nat) (σ μ : Mem), r + m = 8 → m + 1 ≤ n → DV μ → DR σ0 σ μ → ∃ σ', DR σ0 σ' (eds d μ (r * 4) (m * 4)) ∧ L_X2_stepsBetween_26 n k x9 (nI d) (nI r) σ = k σ' := by
  intro m
  induction m with
  | zero =>
    intro n r σ μ h1 h2 hD hR
    obtain ⟨n, rfl⟩ : ∃ n', n = n' + 1 := ⟨n - 1, by omega⟩
    exact ⟨σ, hR, by rw [L_X2_stepsBetween_26, if_pos (show (8 : Int32) ≤ nI r from nI_le (a := 8) (by omega) (by omega))]⟩
  | succ m ih =>
    intro n r σ μ h1 h2 hD hR
    obtain ⟨n, rfl⟩ : ∃ n', n = n' + 1 := ⟨n - 1, by omega⟩
    rw [L_X2_stepsBetween_26, if_neg (show ¬ (8 : Int32) ≤ nI r from nI_ge (b := 8) (by omega) (by omega))]
    have hr : r < 8 := by omega
    rw [gd_ok hr (by decide), N_nI (by omega), hR.2.2 r hr]
    simp only [jn_s, nI_1]
    rw [show (m + 1) * 4 = 4 + m * 4 by omega, eds_add, show r * 4 + 4 = (r + 1) * 4 by omega]
    by_cases hx : μ 24 r = nI d
    · rw [if_pos hx]
      obtain ⟨σ', a1, a2⟩ := s2 hd hr (fun σ5 => some σ5) 4 FU 0 σ μ (by omega) (by decide) hD hR hx
      unfold f_X2_stepOut
      rw [show (0 : Int32) = nI 0 from rfl, a2, bd_s]
      exact ih n (r + 1) σ' _ (by omega) (by omega) (hD.c (eds_n (by decide) 4 _ μ)) a1
    · rw [if_neg hx]
      have h0 := eds_off hx 4 0 (by omega)
      rw [Nat.add_zero] at h0
      rw [h0]
      exact ih n (r + 1) σ μ (by omega) (by omega) hD hR
theorem s17 {σ0 : Mem} (k : Mem → Option (Int32 × Mem)) (x3 : Int32) : ∀ (m n d : Nat) (σ μ : Mem), d + m = 8 → m + 1 ≤ n → DV μ → DR σ0 σ μ → ∃ σ', DR σ0 σ' (rnds d μ m) ∧ L_X2_stepsBetween_17 n k x3 (nI d) σ = k σ' := by
  intro m
  induction m with
  | zero =>
    intro n d σ μ h1 h2 hD hR
    obtain ⟨n, rfl⟩ : ∃ n', n = n' + 1 := ⟨n - 1, by omega⟩
    exact ⟨σ, hR, by rw [L_X2_stepsBetween_17, if_pos (show (8 : Int32) ≤ nI d from nI_le (a := 8) (by omega) (by omega))]⟩
  | succ m ih =>
    intro n d σ μ h1 h2 hD hR
    obtain ⟨n, rfl⟩ : ∃ n', n = n' + 1 := ⟨n - 1, by omega⟩
    rw [L_X2_stepsBetween_17, if_neg (show ¬ (8 : Int32) ≤ nI d from nI_ge (b := 8) (by omega) (by omega))]
    obtain ⟨σ', a1, a2⟩ := s26 (show d < 8 by omega) (fun σ14 => L_X2_stepsBetween_17 n k x3 (nI d + 1) σ14) x3 8 FU 0 σ μ (by omega) (by decide) hD hR
    rw [show (0 : Int32) = nI 0 from rfl, a2, nI_1]
    exact ih n (d + 1) σ' _ (by omega) (by omega) (hD.c (eds_n (by decide) 32 _ μ)) a1
theorem m30 {a : Nat} (ha : a < 8) (k : Mem → Option (Int32 × Mem)) (x9 : Int32) : ∀ (m n i : Nat) (μ : Mem), i + m = 8 → m + 1 ≤ n → (∀ j, j < i → μ 24 j = if j = a then 0 else -1) → ∃ μ', (∀ k, k ≠ 24 → μ' k = μ k) ∧ (∀ j, j < 8 → μ' 24 j = if j = a then 0 else -1) ∧ L_X6_distance_30 n k (nI a) x9 (nI i) μ = k μ' := by
  intro m
  induction m with
  | zero =>
    intro n i μ h1 h2 h
    obtain ⟨n, rfl⟩ : ∃ n', n = n' + 1 := ⟨n - 1, by omega⟩
    exact ⟨μ, fun _ _ => rfl, fun j hj => h j (by omega), by rw [L_X6_distance_30, if_pos (show (8 : Int32) ≤ nI i from nI_le (a := 8) (by omega) (by omega))]⟩
  | succ m ih =>
    intro n i μ h1 h2 h
    obtain ⟨n, rfl⟩ : ∃ n', n = n' + 1 := ⟨n - 1, by omega⟩
    rw [L_X6_distance_30, if_neg (show ¬ (8 : Int32) ≤ nI i from nI_ge (b := 8) (by omega) (by omega))]
    simp only [jn_s, stp_s, nI_1]
    rw [gd_ok (show i < 8 by omega) (by decide), gd_ok (show i < 8 by omega) (by decide), N_nI (by omega)]
    have key : ∀ v : Int32, (v = if i = a then 0 else -1) → ∃ μ', (∀ k, k ≠ 24 → μ' k = μ k) ∧ (∀ j, j < 8 → μ' 24 j = if j = a then 0 else -1) ∧ L_X6_distance_30 n k (nI a) x9 (nI (i + 1)) (mu μ 24 i v) = k μ' := fun v hv => by
      obtain ⟨μ', b1, b2, b3⟩ := ih n (i + 1) (mu μ 24 i v) (by omega) (by omega) fun j hj => by
        by_cases hji : j = i
        · subst hji; rw [mu_at]; exact hv
        · rw [mu_pl hji]; exact h j (by omega)
      exact ⟨μ', fun k hk => (b1 k hk).trans (mu_n hk), b2, b3⟩
    by_cases hia : i = a
    · rw [if_pos (by rw [hia])]
      exact key 0 (by rw [if_pos hia])
    · rw [if_neg (fun e => hia (nI_inj (by omega) (by omega) e))]
      exact key (-1) (by rw [if_neg hia])
def SmD (μ μ' : Mem) : Prop := ∀ k, k ≠ 24 → μ' k = μ k
theorem q_distance {g r : Nat} {τ μ : Mem} (hI : IW g r μ) (hR : RW τ μ) (x y : Int32) : (∃ e t, ok1 e t ∧ f_X6_distance μ x y = some (0, mu μ 0 29 t) ∧ f_X5_distance τ x y = some (e, 0, τ)) ∨ ∃ v μ' τ', f_X6_distance μ x y = some (v, μ') ∧ f_X5_distance τ x y = some (0, v, τ') ∧ SmD (mu μ 0 29 0) μ' ∧ ∀ k, k ≠ 7 → τ' k = τ k := by
  unfold f_X6_distance f_X5_distance
  rcases room_cases x with ⟨a, a1, rfl, n1, m1⟩ | ⟨n1, m1⟩
  · rcases room_cases y with ⟨b, b1, rfl, n2, m2⟩ | ⟨n2, m2⟩
    · right
      have ga : ∀ {α : Type} (x : Option α), gd (nI a) 8 x = x := fun x => gd_ok a1 (by decide)
      have gb : ∀ {α : Type} (x : Option α), gd (nI b) 8 x = x := fun x => gd_ok b1 (by decide)
      have hNa : (nI a).toNatClampNeg = a := N_nI (by omega)
      have hNb : (nI b).toNatClampNeg = b := N_nI (by omega)
      have hD : DV (mu μ 0 29 0) := fun e he => by
        obtain ⟨-, -, -, -, h5, -⟩ := id hI
        rw [mu_n (by decide)]; exact h5 e he
      obtain ⟨μ1, c1, c2, c3⟩ := m30 a1 (fun σ13 => L_X6_distance_60 FU (fun (σ18 : Mem) => gd (nI b) 8 <| some ((σ18 24 (nI b).toNatClampNeg), σ18)) (nI b) 0 σ13) (nI b) 8 FU 0 (mu μ 0 29 0) (by omega) (by decide) (fun j hj => by omega)
      have hD1 : DV μ1 := hD.c (c1 1 (by decide))
      have hDR : DR τ (mu (fl τ 7 8 (-1)) 7 a 0) μ1 := ⟨fun k hk => by rw [mu_n hk]; exact if_neg hk, fun i hi => by rw [mu_n (by decide), c1 1 (by decide), mu_n (by decide)]; exact (congrFun (if_neg (by decide) : fl τ 7 8 (-1) 2 = τ 2) i).trans (hR.1.1 i hi), fun i hi => by
        rw [c2 i hi]
        by_cases hia : i = a
        · subst hia; rw [mu_at, if_pos rfl]
        · rw [mu_pl hia, if_neg hia]
          exact (congrFun (if_pos rfl : fl τ 7 8 (-1) 7 = _) i).trans (if_pos hi)⟩
      obtain ⟨σ', d1, d2⟩ := s17 (fun σ7 => gd (nI b) 8 <| some ((σ7 7 (nI b).toNatClampNeg), σ7)) (nI b) 8 FU 0 _ μ1 (by omega) (by decide) hD1 hDR
      refine ⟨rnds 0 μ1 8 24 b, rnds 0 μ1 8, mgN σ' τ, ?_, ?_, fun k hk => (rnds_n hk 8 0 μ1).trans (c1 k hk), fun k hk => ?_⟩
      · simp only [m1, m2, bd_s, jn_s, i10, if_false, can_ok, i00, if_true, bd2_s]
        have := m60 (fun (σ18 : Mem) => gd (nI b) 8 <| some ((σ18 24 (nI b).toNatClampNeg), σ18)) (nI b) 8 FU 0 μ1 (by omega) (by decide) hD1
        rw [show (0 : Int32) = nI 0 from rfl] at c3 ⊢
        rw [c3]
        rw [this, gb, hNb]
      · unfold f_X2_stepsBetween
        rw [n1, bt_0, n2, bt_0, stp_s, ga, stp_s, hNa]
        rw [show (0 : Int32) = nI 0 from rfl] at d2 ⊢
        rw [d2, gb, hNb, bd2_s, stp_s, d1.2.2 b b1]
      · unfold mgN
        split
        · exact d1.1 k hk
        · rfl
    · exact Or.inl ⟨1, 1, ⟨rfl, rfl⟩, by simp only [m1, m2, bd_s, jn_s, i10, i00, if_true, if_false, can_ok, bd2_s], by simp only [n1, n2, bt_0, bt_e1]⟩
  · exact Or.inl ⟨1, 1, ⟨rfl, rfl⟩, by simp only [m1, bd_s, jn_s, i10, i00, if_true, if_false, can_ok, bd2_s], by simp only [n1, bt_e1]⟩
