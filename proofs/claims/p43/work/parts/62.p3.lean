/-! THE LAW'S NUMBERS -/
theorem tc0 : (0 : Int32).toNatClampNeg = 0 := by decide
theorem tc6 : (6 : Int32).toNatClampNeg = 6 := by decide
theorem tc7 : (7 : Int32).toNatClampNeg = 7 := by decide
theorem tc8 : (8 : Int32).toNatClampNeg = 8 := by decide
theorem tc12 : (12 : Int32).toNatClampNeg = 12 := by decide
theorem gl0 {α : Type} (x : Option α) : gd 0 13 x = x := gd_ok (i := 0) (by decide) (by decide)
theorem gl6 {α : Type} (x : Option α) : gd 6 13 x = x := gd_ok (i := 6) (by decide) (by decide)
theorem gl7 {α : Type} (x : Option α) : gd 7 13 x = x := gd_ok (i := 7) (by decide) (by decide)
theorem gl8 {α : Type} (x : Option α) : gd 8 13 x = x := gd_ok (i := 8) (by decide) (by decide)
theorem gl12 {α : Type} (x : Option α) : gd 12 13 x = x := gd_ok (i := 12) (by decide) (by decide)
theorem n9a (i : Nat) : 9 + nI i = nI (9 + i) := by rw [show (9 : Int32) = nI 9 from rfl, nI_add]
theorem n1a (i : Nat) : 1 + nI i = nI (1 + i) := by rw [show (1 : Int32) = nI 1 from rfl, nI_add]
theorem e10 : ¬ (1 : Int32) = 0 := by decide
def ns (f : Nat → Nat) : Nat → Nat
  | 0 => 0
  | n + 1 => ns f n + f n
def gsum (μ : Mem) (q : Nat) : Int32 := sm (fun i => μ 11 (i * 5 + q)) 0 (pcN μ) + sm (fun i => μ 2 (i * 5 + q) + μ 5 (i * 5 + q)) 0 8
/-- what the law has counted (cf: its array c), against the world -/
def WC (c : Nat) (cf : Nat → Int32) (μ : Mem) : Prop := cf 6 = nI c ∧ cf 7 = μ 0 5 ∧ cf 8 = μ 0 16 ∧ ∀ q, q < 3 → cf (9 + q) = μ 15 q
def WS (cf : Nat → Int32) (μ : Mem) : Prop := ∃ m, m < 256 ∧ cf 12 = nI m ∧ ∀ r, r < 8 → (m / 2 ^ r % 2 = 0 ↔ μ 3 r = -1)
def WK2 (T : Nat) (μ : Mem) : Prop := ∃ (cn tn : Nat → Nat) (pu : Nat), (∀ k, k < pcN μ → μ 7 k = nI (cn k)) ∧ (∀ r, r < 8 → (μ 3 r = -1 ∧ tn r = 0) ∨ μ 3 r = nI (tn r)) ∧ μ 0 14 = nI pu ∧ pu + ns cn (pcN μ) + ns tn 8 = T
def WQ (μ : Mem) : Prop := (∀ k q, k < 4 → q < 3 → ∃ a L, a ≤ L ∧ L ≤ 4 ∧ μ 19 (k * 3 + q) = nI a ∧ μ 15 q = nI L) ∧ (∀ k q, pcN μ ≤ k → k < 4 → q < 3 → μ 19 (k * 3 + q) = 0) ∧ (∀ k q, pcN μ ≤ k → k < 4 → q < 5 → μ 11 (k * 5 + q) = 0) ∧ (∀ q, q < 3 → ∃ w, w ≤ 100 ∧ μ 14 q = nI w) ∧ ∀ i, i < 40 → ∃ w, w ≤ 50 ∧ μ 4 i = nI w
def WI (c : Nat) (cf : Nat → Int32) (μ : Mem) : Prop := WC c cf μ ∧ WS cf μ ∧ (∃ T, T ≤ 400 * c ∧ cf 0 = nI T ∧ WK2 T μ) ∧ (∀ q, q < 5 → cf (1 + q) = gsum μ q) ∧ EI (μ 1) ∧ WQ μ
theorem ns_le {f : Nat → Nat} : ∀ (n i : Nat), i < n → f i ≤ ns f n := by
  intro n
  induction n with
  | zero => intro i h; omega
  | succ n ih =>
    intro i h
    show f i ≤ ns f n + f n
    by_cases q : i = n
    · subst q; omega
    · have := ih i (by omega); omega
theorem sm_0 (f : Nat → Int32) (n : Nat) : sm f n 0 = 0 := rfl
theorem sm_end (f : Nat → Int32) : ∀ (n i : Nat), sm f i (n + 1) = sm f i n + f (i + n) := by
  intro n
  induction n with
  | zero => intro i; show f i + 0 = 0 + f (i + 0); rw [Int32.add_zero, Int32.zero_add]; rfl
  | succ n ih =>
    intro i
    show f i + sm f (i + 1) (n + 1) = f i + sm f (i + 1) n + f (i + (n + 1))
    rw [ih (i + 1), Int32.add_assoc, show i + 1 + n = i + (n + 1) by omega]
theorem sm_ns {f : Nat → Int32} {g : Nat → Nat} : ∀ n, (∀ k, k < n → f k = nI (g k)) → sm f 0 n = nI (ns g n) := by
  intro n
  induction n with
  | zero => intro _; rfl
  | succ n ih =>
    intro h
    rw [sm_end, ih fun k hk => h k (by omega), Nat.zero_add, h n (by omega), nI_add]
    rfl
theorem pN {μ : Mem} {c : Nat} {cf : Nat → Int32} {g r : Nat} (hI : IW g r μ) (h : WC c cf μ) : cf 7 = nI (pcN μ) ∧ cf 8 = nI (qcN μ) := ⟨h.2.1.trans hI.np.2, h.2.2.1.trans hI.nq.2⟩
section ISW
variable {c : Nat} {ρ μ : Mem} {M : Nat → Mem}
theorem w143 (S : SX c ρ μ M) (W : WI c (ρ 51) μ) {p : Nat} (hp : p < pcN μ) (k : Int32 → Mem → Option (Int32 × Mem)) (x107 x108 : Int32) : ∀ (m n i : Nat), i + m = qcN μ → m + 1 ≤ n → L_L_isWorld_143 n k x107 x108 (nI p) 1 (nI i) ρ = k 1 ρ := by
  have hb := S.iw.np.1
  have hb2 := S.iw.nq.1
  obtain ⟨-, h8⟩ := pN S.iw W.1
  intro m
  induction m with
  | zero =>
    intro n i h1 h2
    obtain ⟨n, rfl⟩ : ∃ n', n = n' + 1 := ⟨n - 1, by omega⟩
    rw [L_L_isWorld_143, gl8, tc8, h8, if_pos (nI_le (by omega) (by omega))]
  | succ m ih =>
    intro n i h1 h2
    obtain ⟨n, rfl⟩ : ∃ n', n = n' + 1 := ⟨n - 1, by omega⟩
    obtain ⟨a, L, a1, a2, a3, a4⟩ := W.2.2.2.2.2.1 p i (by omega) (by omega)
    have h9 := W.1.2.2.2 i (by omega)
    rw [L_L_isWorld_143, gl8, tc8, h8, if_neg (nI_ge (by omega) (by omega)), jn_s, jn_s, if_neg e10, p_stage S hp (show i < qcN μ by omega), bt_0, a3, if_neg (nI_pos (by omega)), bt_0, n9a, gd_ok (by omega) (by decide), N_nI (by omega), h9, a4, if_neg (i32_le_lt.mpr (nI_le a1 (by omega))), nI_1]
    exact ih n (i + 1) (by omega) (by omega)
theorem w35 (S : SX c ρ μ M) (W : WI c (ρ 51) μ) {cn : Nat → Nat} (hcn : ∀ k, k < pcN μ → μ 7 k = nI (cn k)) (hlt : ns cn (pcN μ) < 2 ^ 30) (k : Int32 → Int32 → Int32 → Mem → Option (Int32 × Mem)) : ∀ (m n i : Nat) (x6 x7 : Int32), i + m = pcN μ → m + 1 ≤ n → IsAct (μ 10) 0 i x7 → ∃ y, IsAct (μ 10) 0 (pcN μ) y ∧ L_L_isWorld_35 n k x6 x7 1 (nI i) ρ = k (x6 + sm (μ 7) i m) y 1 ρ := by
  have hb := S.iw.np.1
  obtain ⟨h7, -⟩ := pN S.iw W.1
  intro m
  induction m with
  | zero =>
    intro n i x6 x7 h1 h2 hA
    obtain ⟨n, rfl⟩ : ∃ n', n = n' + 1 := ⟨n - 1, by omega⟩
    have : i = pcN μ := by omega
    subst this
    refine ⟨x7, hA, ?_⟩
    rw [L_L_isWorld_35, gl7, tc7, h7, if_pos (nI_le (by omega) (by omega)), sm_0, Int32.add_zero]
  | succ m ih =>
    intro n i x6 x7 h1 h2 hA
    obtain ⟨n, rfl⟩ : ∃ n', n = n' + 1 := ⟨n - 1, by omega⟩
    have hi : i < pcN μ := by omega
    obtain ⟨⟨rm, rm1, rm2⟩, -, hl, hl1, hl2, hl3⟩ := S.iw.pl hi
    have hc30 : cn i < 2 ^ 30 := Nat.lt_of_le_of_lt (ns_le _ i hi) hlt
    have hu := (IsAct.up hA).resolve_right (by omega)
    have key : ∀ y, IsAct (μ 10) 0 (i + 1) y → ∃ z, IsAct (μ 10) 0 (pcN μ) z ∧
        L_L_isWorld_143 FU (fun (x114 : Int32) (σ115 : Mem) => L_L_isWorld_35 n k (x6 + μ 7 i) y x114 (nI i + 1) σ115) (x6 + μ 7 i) y (nI i) 1 0 ρ = k (x6 + sm (μ 7) i (m + 1)) z 1 ρ := fun y hy => by
      obtain ⟨z, z1, z2⟩ := ih n (i + 1) (x6 + μ 7 i) y (by omega) (by omega) hy
      refine ⟨z, z1, ?_⟩
      rw [show (0 : Int32) = nI 0 from rfl, w143 S W hi _ _ _ (qcN μ) FU 0 (by omega) (by have := S.iw.nq.1; show _ ≤ 6000; omega), nI_1, z2, sm_s]
    rw [L_L_isWorld_35, gl7, tc7, h7, if_neg (nI_ge (by omega) (by omega)), p_coins S hi, bt_0]
    simp only [jn_s, p_coins S hi, bt_0, p_health S hi, p_room S hi, rm2, hl3, hcn i hi, if_neg e10, if_neg (nI_pos (show rm < 2 ^ 31 by omega)), if_neg (nI_pos (show cn i < 2 ^ 31 by omega)), if_neg (show ¬ nI hl < 1 from i32_le_lt.mpr (nI_le (a := 1) hl1 (by omega))), if_neg (show ¬ (20 : Int32) < nI hl from i32_le_lt.mpr (nI_le (b := 20) hl2 (by decide))), if_neg (show ¬ (7 : Int32) < nI rm from i32_le_lt.mpr (nI_le (a := rm) (b := 7) (by omega) (by decide)))]
    rw [← hcn i hi]
    rcases hA with ⟨e1, rfl⟩ | ⟨a, a1, a2, rfl, a3, a4⟩
    · rw [if_pos (show (-1 : Int32) < 0 by decide)]
      rw [if_pos rfl] at hu
      exact key _ hu
    · rw [if_neg (nI_pos (by omega)), p_ready S hi, bt_0, p_ready S (show a < pcN μ by omega), bt_0]
      rw [if_neg (nI_neg1 (by omega)), N_nI (by omega)] at hu
      by_cases hq : μ 10 a ≤ μ 10 i
      · rw [if_pos hq] at hu ⊢
        exact key _ hu
      · rw [if_neg hq] at hu ⊢
        exact key _ hu
/-- a bit of the mask -/
theorem bit_r {m r : Nat} (hm : m < 256) (hr : r < 8) : (nI m >>> (nI r &&& 31)) &&& 1 = nI (m / 2 ^ r % 2) := by
  have hs : ∀ r, r < 8 → ((nI r &&& 31).toBitVec.smod 32).toNat = r := by decide
  rw [pk_shrN (by omega) (nI r &&& 31) r (hs r hr), pk_andN (k := 1) (Nat.lt_of_le_of_lt (Nat.div_le_self m _) (by omega)) (by decide)]
theorem w208 (S : SX c ρ μ M) (W : WI c (ρ 51) μ) {tn : Nat → Nat} (htn : ∀ r, r < 8 → (μ 3 r = -1 ∧ tn r = 0) ∨ μ 3 r = nI (tn r)) (hlt : ns tn 8 < 2 ^ 30) (k : Int32 → Int32 → Mem → Option (Int32 × Mem)) (x17 : Int32) : ∀ (m n i : Nat) (x16 : Int32), i + m = 8 → m + 1 ≤ n → L_L_isWorld_208 n k x17 x16 1 (nI i) ρ = k (x16 + sm (tl (μ 3)) i m) 1 ρ := by
  obtain ⟨mk, mk1, mk2, mk3⟩ := W.2.1
  intro m
  induction m with
  | zero =>
    intro n i x16 h1 h2
    obtain ⟨n, rfl⟩ : ∃ n', n = n' + 1 := ⟨n - 1, by omega⟩
    rw [L_L_isWorld_208, if_pos (show (8 : Int32) ≤ nI i from nI_le (a := 8) (by omega) (by omega)), sm_0, Int32.add_zero]
  | succ m ih =>
    intro n i x16 h1 h2
    obtain ⟨n, rfl⟩ : ∃ n', n = n' + 1 := ⟨n - 1, by omega⟩
    have hi : i < 8 := by omega
    have hbit := bit_r mk1 hi
    have hmi := mk3 i hi
    have h2t : mk / 2 ^ i % 2 = 0 ∨ mk / 2 ^ i % 2 = 1 := by omega
    rw [L_L_isWorld_208, if_neg (show ¬ (8 : Int32) ≤ nI i from nI_ge (b := 8) (by omega) (by omega)), p_till S hi, bt_0]
    simp only [jn_s, gl12, tc12, mk2, hbit, if_neg e10]
    have ht30 : tn i < 2 ^ 30 := Nat.lt_of_le_of_lt (ns_le 8 i hi) hlt
    rcases htn i hi with ⟨t1, t2⟩ | t1
    · have hz := hmi.mpr t1
      have htl : tl (μ 3) i = 0 := by unfold tl; rw [if_pos t1]
      rw [t1, if_neg (show ¬ (-1 : Int32) < -1 by decide), if_pos (show (-1 : Int32) = -1 from rfl), hz, if_pos (show nI 0 = 0 from rfl), if_true, if_neg (show ¬ (0 : Int32) ≤ -1 by decide), nI_1, ih n (i + 1) _ (by omega) (by omega)]
      rw [← sm_s, htl]
    · have hne : ¬ μ 3 i = -1 := by rw [t1]; exact nI_neg1 (by omega)
      have hz : mk / 2 ^ i % 2 = 1 := by
        rcases h2t with q | q
        · exact absurd (hmi.mp q) hne
        · exact q
      have htl : tl (μ 3) i = nI (tn i) := by unfold tl; rw [if_neg hne, t1]
      rw [t1, if_neg (show ¬ nI (tn i) < -1 from fun h => absurd (Int32.lt_of_lt_of_le h (by decide : (-1 : Int32) ≤ 0)) (nI_pos (by omega))), if_neg (nI_neg1 (by omega)), hz, if_neg (show ¬ nI 1 = 0 by decide), if_true, if_pos (show (0 : Int32) ≤ nI (tn i) from nI_le (a := 0) (by omega) (by omega)), nI_1, ih n (i + 1) _ (by omega) (by omega)]
      rw [← sm_s, htl]
theorem w307 (S : SX c ρ μ M) (W : WI c (ρ 51) μ) {q : Nat} (hq : q < 5) (k : Int32 → Mem → Option (Int32 × Mem)) (x40 x41 x42 : Int32) : ∀ (m n i : Nat) (x44 : Int32), i + m = 8 → m + 1 ≤ n → L_L_isWorld_307 n k x40 x41 x42 (nI q) x44 (nI i) ρ = k (x44 + sm (fun i => (μ 2 (i * 5 + q) + μ 5 (i * 5 + q)) + if i < pcN μ then μ 11 (i * 5 + q) else 0) i m) ρ := by
  have hb := S.iw.np.1
  obtain ⟨h7, -⟩ := pN S.iw W.1
  intro m
  induction m with
  | zero =>
    intro n i x44 h1 h2
    obtain ⟨n, rfl⟩ : ∃ n', n = n' + 1 := ⟨n - 1, by omega⟩
    rw [L_L_isWorld_307, if_pos (show (8 : Int32) ≤ nI i from nI_le (a := 8) (by omega) (by omega)), sm_0, Int32.add_zero]
  | succ m ih =>
    intro n i x44 h1 h2
    obtain ⟨n, rfl⟩ : ∃ n', n = n' + 1 := ⟨n - 1, by omega⟩
    have hi : i < 8 := by omega
    rw [L_L_isWorld_307, if_neg (show ¬ (8 : Int32) ≤ nI i from nI_ge (b := 8) (by omega) (by omega)), p_floor S hi hq, bt_0, p_stock S hi hq, bt_0, gl7, jn_s, tc7, h7]
    by_cases hp : i < pcN μ
    · rw [if_neg (nI_ge hp (by omega)), p_goods S hp hq, bt_0, nI_1]
      refine (ih n (i + 1) _ (by omega) (by omega)).trans ?_
      rw [← sm_s]
      simp only [if_pos hp]
    · rw [if_pos (nI_le (by omega) (by omega)), nI_1]
      refine (ih n (i + 1) _ (by omega) (by omega)).trans ?_
      rw [← sm_s]
      simp only [if_neg hp]
theorem sm_add (f g : Nat → Int32) : ∀ (n i : Nat), sm (fun i => f i + g i) i n = sm f i n + sm g i n := by
  intro n
  induction n with
  | zero => intro i; show (0 : Int32) = 0 + 0; rfl
  | succ n ih =>
    intro i
    rw [sm_end, sm_end, sm_end, ih]
    show sm f i n + sm g i n + (f (i + n) + g (i + n)) = sm f i n + f (i + n) + (sm g i n + g (i + n))
    rw [Int32.add_assoc, Int32.add_assoc, ← Int32.add_assoc (sm g i n), Int32.add_comm (sm g i n) (f (i + n)), Int32.add_assoc (f (i + n))]
theorem sm_cut (f : Nat → Int32) (p : Nat) : ∀ (m : Nat), sm (fun i => if i < p then f i else 0) 0 (p + m) = sm f 0 p := by
  intro m
  induction m with
  | zero => exact sm_congr p 0 fun j _ h => if_pos (by omega)
  | succ m ih =>
    rw [← Nat.add_assoc, sm_end, ih]
    show sm f 0 p + (if 0 + (p + m) < p then f (0 + (p + m)) else 0) = _
    rw [if_neg (by omega), Int32.add_zero]
theorem w295 (S : SX c ρ μ M) (W : WI c (ρ 51) μ) (k : Int32 → Mem → Option (Int32 × Mem)) (x25 x26 : Int32) : ∀ (m n i : Nat), i + m = 5 → m + 1 ≤ n → L_L_isWorld_295 n k x25 x26 1 (nI i) ρ = k 1 ρ := by
  have hb := S.iw.np.1
  intro m
  induction m with
  | zero =>
    intro n i h1 h2
    obtain ⟨n, rfl⟩ : ∃ n', n = n' + 1 := ⟨n - 1, by omega⟩
    rw [L_L_isWorld_295, if_pos (show (5 : Int32) ≤ nI i from nI_le (a := 5) (by omega) (by omega))]
  | succ m ih =>
    intro n i h1 h2
    obtain ⟨n, rfl⟩ : ∃ n', n = n' + 1 := ⟨n - 1, by omega⟩
    have hi : i < 5 := by omega
    have hg := W.2.2.2.1 i hi
    have e1 : (0 : Int32) + sm (fun j => (μ 2 (j * 5 + i) + μ 5 (j * 5 + i)) + if j < pcN μ then μ 11 (j * 5 + i) else 0) 0 8 = gsum μ i := by
      rw [Int32.zero_add, sm_add (fun j => μ 2 (j * 5 + i) + μ 5 (j * 5 + i)) (fun j => if j < pcN μ then μ 11 (j * 5 + i) else 0)]
      have := sm_cut (fun j => μ 11 (j * 5 + i)) (pcN μ) (8 - pcN μ)
      rw [show pcN μ + (8 - pcN μ) = 8 by omega] at this
      rw [this, Int32.add_comm]
      rfl
    rw [L_L_isWorld_295, if_neg (show ¬ (5 : Int32) ≤ nI i from nI_ge (b := 5) (by omega) (by omega))]
    have h0 := w307 S W hi (fun (x48 : Int32) (σ49 : Mem) =>
      jn (fun (y51 : Int32) (σ50 : Mem) => L_L_isWorld_295 n k x25 x26 y51 (nI i + 1) σ50) fun (J52 : Int32 → Mem → Option (Int32 × Mem)) =>
      jn (fun (σ53 : Mem) => J52 0 σ53) fun (J54 : Mem → Option (Int32 × Mem)) =>
      if (1 : Int32) = 0 then (J54 σ49) else (
      bt (f_X5_allGoods σ49 (nI i)) (fun _ => none) fun v56 =>
      if v56 = x48 then (gd (1 + nI i) 13 <| if x48 = (σ49 51 (1 + nI i).toNatClampNeg) then (J52 1 σ49) else (J54 σ49)) else (J54 σ49))) x25 x26 1 8 FU 0 0 (by omega) (by decide)
    rw [show nI 0 = (0 : Int32) from rfl, e1] at h0
    have hgs : sm (fun j => μ 11 (j * 5 + i)) 0 (pcN μ) + sm (fun j => μ 2 (j * 5 + i) + μ 5 (j * 5 + i)) 0 8 = gsum μ i := rfl
    rw [h0, jn_s, jn_s, if_neg e10, p_allGoods S hi, bt_0, if_pos hgs, n1a, gd_ok (by omega) (by decide), N_nI (by omega), hg, if_pos rfl, nI_1]
    exact ih n (i + 1) (by omega) (by omega)
theorem isWorld_ok (S : SX c ρ μ M) (W : WI c (ρ 51) μ) (hc : c ≤ 60) : f_L_isWorld ρ = some (1, ρ) := by
  obtain ⟨W1, W2, ⟨T, T1, T2, cn, tn, pu, h1, h2, h3, h4⟩, W4, W5, W6⟩ := id W
  have hb := S.iw.np.1
  unfold f_L_isWorld
  rw [p_purse S, bd_s, bd_s, h3, jn_s, jn_s, if_neg (nI_pos (by omega)), p_calls S, bd_s, gl6, tc6, W1.1, if_pos rfl]
  obtain ⟨y, y1, y2⟩ := w35 S W h1 (by omega) (fun (x12 : Int32) (x13 : Int32) (x14 : Int32) (σ15 : Mem) =>
    L_L_isWorld_208 FU (fun (x22 : Int32) (x23 : Int32) (σ24 : Mem) =>
    L_L_isWorld_295 FU (fun (x31 : Int32) (σ32 : Mem) =>
    if x31 = 0 then (some (0, σ32)) else (
    bd (f_X5_turn σ32) fun v34 =>
    if v34 = x13 then (gd 0 13 <|
    if x22 = (σ32 51 (0 : Int32).toNatClampNeg) then (
    bd (f_X5_allCoins σ32) fun v37 =>
    if v37 = x22 then (some (1, σ32)) else (some (0, σ32))) else (some (0, σ32))) else (some (0, σ32)))) x22 x13 x23 0 σ24) x13 x12 x14 0 σ15) (pcN μ) FU 0 (nI pu) (-1) (by omega) (by show _ ≤ 6000; omega) (Or.inl ⟨rfl, rfl⟩)
  rw [show nI 0 = (0 : Int32) from rfl] at y2
  refine y2.trans ?_
  have e208 := fun k x17 x16 => w208 S W h2 (by omega) k x17 8 FU 0 x16 (by omega) (by decide)
  rw [show nI 0 = (0 : Int32) from rfl] at e208
  refine (e208 _ _ _).trans ?_
  have e295 := fun k x25 x26 => w295 S W k x25 x26 5 FU 0 (by omega) (by decide)
  rw [show nI 0 = (0 : Int32) from rfl] at e295
  refine (e295 _ _ _).trans ?_
  (try dsimp only)
  rw [if_neg e10]
  obtain ⟨x, x1, x2⟩ := p_turn S
  rw [x1, bd_s, if_pos (x2.eq y1), gl0, tc0]
  have et : sm (tl (μ 3)) 0 8 = nI (ns tn 8) := sm_ns 8 fun r hr => by
    unfold tl
    rcases h2 r hr with ⟨t1, t2⟩ | t1
    · rw [if_pos t1, t2]; rfl
    · rw [if_neg (by rw [t1]; exact nI_neg1 (by have := ns_le (f := tn) 8 r hr; omega)), t1]
  rw [sm_ns (pcN μ) h1, et, nI_add, nI_add, h4, T2, if_pos rfl, p_allCoins S, bd_s, sm_ns (pcN μ) h1, et, h3, nI_add, nI_add, h4, if_pos rfl]
end ISW
