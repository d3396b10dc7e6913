/-! NUMBERS: indices as nI of naturals -/
theorem gd_ok {α : Type} {i n : Nat} {a : Option α} (h : i < n) (hn : n < 2 ^ 31) : gd (nI i) n a = a := by
  unfold gd
  rw [if_neg (vp_in_nI h hn)]
theorem gd_x {α : Type} {x : Int32} {i n : Nat} {a : Option α} (e : x = nI i) (h : i < n) (hn : n < 2 ^ 31) : gd x n a = a := by
  subst e; exact gd_ok h hn
theorem N_nI {i : Nat} (h : i < 2 ^ 31) : (nI i).toNatClampNeg = i := nI_clamp h
theorem bd_s {α β : Type} (x : α) (k : α → Option β) : bd (some x) k = k x := rfl
theorem bd2_s {α γ β : Type} (x : α) (y : γ) (k : α → γ → Option β) : bd2 (some (x, y)) k = k x y := rfl
theorem bt_0 {β : Type} (v : Int32) (kx : Nat → Option β) (k : Int32 → Option β) : bt (some (0, v)) kx k = k v := rfl
theorem bt_1 {β : Type} (n : Nat) (v : Int32) (kx : Nat → Option β) (k : Int32 → Option β) : bt (some (n + 1, v)) kx k = kx (n + 1) := rfl
theorem bt3_0 {β : Type} (v : Int32) (σ : Mem) (kx : Nat → Mem → Option β) (k : Int32 → Mem → Option β) : bt3 (some (0, v, σ)) kx k = k v σ := rfl
theorem bt3_1 {β : Type} (n : Nat) (v : Int32) (σ : Mem) (kx : Nat → Mem → Option β) (k : Int32 → Mem → Option β) : bt3 (some (n + 1, v, σ)) kx k = kx (n + 1) σ := rfl
theorem stp_s {α β : Type} (a : α) (k : α → β) : stp a k = k a := rfl
theorem jn_s {α β : Type} (a : α) (b : α → β) : jn a b = b a := rfl
theorem n5r (r k : Nat) : nI r * 5 + nI k = nI (r * 5 + k) := by rw [show (5 : Int32) = nI 5 from rfl, pk_mul, nI_add]
theorem n5l (r k : Nat) : 5 * nI r + nI k = nI (r * 5 + k) := by rw [show (5 : Int32) = nI 5 from rfl, pk_mul, nI_add, Nat.mul_comm]
theorem n4r (r k : Nat) : nI r * 4 + nI k = nI (r * 4 + k) := by rw [show (4 : Int32) = nI 4 from rfl, pk_mul, nI_add]
theorem n4l (r k : Nat) : 4 * nI r + nI k = nI (r * 4 + k) := by rw [show (4 : Int32) = nI 4 from rfl, pk_mul, nI_add, Nat.mul_comm]
theorem n3r (r k : Nat) : nI r * 3 + nI k = nI (r * 3 + k) := by rw [show (3 : Int32) = nI 3 from rfl, pk_mul, nI_add]
theorem n3l (r k : Nat) : 3 * nI r + nI k = nI (r * 3 + k) := by rw [show (3 : Int32) = nI 3 from rfl, pk_mul, nI_add, Nat.mul_comm]
theorem n6m (r : Nat) : nI r * 6 = nI (r * 6) := by rw [show (6 : Int32) = nI 6 from rfl, pk_mul]
theorem n6l (r : Nat) : 6 * nI r = nI (r * 6) := by rw [show (6 : Int32) = nI 6 from rfl, pk_mul, Nat.mul_comm]
theorem n4m (r : Nat) : 4 * nI r = nI (r * 4) := by rw [show (4 : Int32) = nI 4 from rfl, pk_mul, Nat.mul_comm]
theorem n0 : (0 : Int32) = nI 0 := rfl
theorem nI_inj {a b : Nat} (ha : a < 2 ^ 31) (hb : b < 2 ^ 31) (h : nI a = nI b) : a = b := (nI_eq ha hb).mp h
theorem nI_neg1 {a : Nat} (ha : a < 2 ^ 31) : ¬ nI a = -1 := fun h => by
  have h1 : (nI a).toInt = (-1 : Int32).toInt := by rw [h]
  rw [nI_toInt ha] at h1
  have h2 : (-1 : Int32).toInt = -1 := by decide
  omega
theorem lt_nI {x : Int32} (h : ¬ x < 0) : ∃ j : Nat, j < 2 ^ 31 ∧ x = nI j := nI_of h
/-- the lowest of those with the least time, of the places from k to below n; -1 without places -/
def IsAct (r : Nat → Int32) (k n : Nat) (x : Int32) : Prop := (k = n ∧ x = -1) ∨ ∃ a, k ≤ a ∧ a < n ∧ x = nI a ∧ (∀ j, k ≤ j → j < n → r a ≤ r j) ∧ ∀ j, k ≤ j → j < a → r a < r j
theorem i32_lt_le {a b : Int32} : ¬ a ≤ b ↔ b < a := Int32.not_le
theorem i32_le_lt {a b : Int32} : ¬ a < b ↔ b ≤ a := Int32.not_lt
theorem IsAct.eq {r : Nat → Int32} {k n : Nat} {x y : Int32} (h1 : IsAct r k n x) (h2 : IsAct r k n y) : x = y := by
  rcases h1 with ⟨e1, rfl⟩ | ⟨a, a1, a2, rfl, a3, a4⟩ <;> rcases h2 with ⟨e2, rfl⟩ | ⟨b, b1, b2, rfl, b3, b4⟩
  · rfl
  · omega
  · omega
  · rcases Nat.lt_trichotomy a b with q | q | q
    · exact absurd (a3 b b1 b2) (i32_lt_le.mpr (b4 a a1 q))
    · rw [q]
    · exact absurd (b3 a a1 a2) (i32_lt_le.mpr (a4 b b1 q))
/-- upward: one place more -/
theorem IsAct.up {r : Nat → Int32} {n : Nat} {x : Int32} (h : IsAct r 0 n x) : IsAct r 0 (n + 1) (if x = -1 then nI n else if r x.toNatClampNeg ≤ r n then x else nI n) ∨ 2 ^ 31 ≤ n := by
  by_cases hn : 2 ^ 31 ≤ n
  · exact Or.inr hn
  left
  rcases h with ⟨e1, rfl⟩ | ⟨a, a1, a2, rfl, a3, a4⟩
  · rw [if_pos rfl]
    exact Or.inr ⟨n, by omega, by omega, rfl, fun j h1 h2 => by
      have : j = n := by omega
      subst this; exact Int32.le_refl _, fun j h1 h2 => by omega⟩
  · rw [if_neg (nI_neg1 (by omega)), N_nI (by omega)]
    by_cases q : r a ≤ r n
    · rw [if_pos q]
      exact Or.inr ⟨a, a1, by omega, rfl, fun j h1 h2 => by
        by_cases qj : j = n
        · subst qj; exact q
        · exact a3 j h1 (by omega), a4⟩
    · rw [if_neg q]
      have q := i32_lt_le.mp q
      exact Or.inr ⟨n, by omega, by omega, rfl, fun j h1 h2 => by
        by_cases qj : j = n
        · subst qj; exact Int32.le_refl _
        · exact Int32.le_of_lt (Int32.lt_of_lt_of_le q (a3 j h1 (by omega))), fun j h1 h2 => Int32.lt_of_lt_of_le q (a3 j h1 (by omega))⟩
/-- downward: one place less -/
theorem IsAct.down {r : Nat → Int32} {k n : Nat} {x : Int32} (hn : n < 2 ^ 31) (hk : k < n) (h : IsAct r (k + 1) n x) : IsAct r k n (if x = -1 then nI k else if r x.toNatClampNeg < r k then x else nI k) := by
  rcases h with ⟨e1, rfl⟩ | ⟨a, a1, a2, rfl, a3, a4⟩
  · rw [if_pos rfl]
    exact Or.inr ⟨k, by omega, by omega, rfl, fun j h1 h2 => by
      have : j = k := by omega
      subst this; exact Int32.le_refl _, fun j h1 h2 => by omega⟩
  · rw [if_neg (nI_neg1 (by omega)), N_nI (by omega)]
    by_cases q : r a < r k
    · rw [if_pos q]
      exact Or.inr ⟨a, by omega, a2, rfl, fun j h1 h2 => by
        by_cases qj : j = k
        · subst qj; exact Int32.le_of_lt q
        · exact a3 j (by omega) h2, fun j h1 h2 => by
        by_cases qj : j = k
        · subst qj; exact q
        · exact a4 j (by omega) h2⟩
    · rw [if_neg q]
      have q := i32_le_lt.mp q
      exact Or.inr ⟨k, by omega, hk, rfl, fun j h1 h2 => by
        by_cases qj : j = k
        · subst qj; exact Int32.le_refl _
        · exact Int32.le_trans q (a3 j (by omega) h2), fun j h1 h2 => by omega⟩
theorem IsAct.congr {r r' : Nat → Int32} {k n : Nat} {x : Int32} (h : IsAct r k n x) (e : ∀ j, j < n → r' j = r j) : IsAct r' k n x := by
  rcases h with h | ⟨a, a1, a2, a3, a4, a5⟩
  · exact Or.inl h
  · exact Or.inr ⟨a, a1, a2, a3, fun j h1 h2 => by rw [e j h2, e a a2]; exact a4 j h1 h2, fun j h1 h2 => by rw [e j (by omega), e a a2]; exact a5 j h1 h2⟩
/-! the one whose turn it is: class upward, reference downward -/
theorem next_loop {σ : Mem} {np : Nat} (h0 : σ 8 0 = nI np) (hp : np ≤ 4) (k : Int32 → Option Int32) : ∀ (n i : Nat) (x : Int32), i ≤ np → np + 1 ≤ i + n → IsAct (σ 13) 0 i x → ∃ y, IsAct (σ 13) 0 np y ∧ L_X1_next_4 n k σ x (nI i) = k y := by
  intro n
  induction n with
  | zero => intro i x h1 h2; omega
  | succ n ih =>
    intro i x h1 h2 h
    rw [L_X1_next_4, h0]
    by_cases hi : i = np
    · subst hi
      exact ⟨x, h, if_pos (nI_le (Nat.le_refl _) (by omega))⟩
    · rw [if_neg (nI_ge (by omega) (by omega))]
      have hu := (IsAct.up h).resolve_right (by omega)
      have key : ∀ y, IsAct (σ 13) 0 (i + 1) y → ∃ z, IsAct (σ 13) 0 np z ∧ L_X1_next_4 n k σ y (nI i + 1) = k z := fun y hy => by
        rw [nI_1]
        exact ih (i + 1) y (by omega) (by omega) hy
      simp only [jn]
      by_cases hx : x = -1
      · rw [if_pos hx] at hu ⊢
        exact key _ hu
      · rw [if_neg hx] at hu ⊢
        rcases h with ⟨-, rfl⟩ | ⟨a, a1, a2, rfl, a3, a4⟩
        · exact absurd rfl hx
        · rw [gd_ok (by omega) (by decide), gd_ok (by omega) (by decide)]
          rw [N_nI (i := a) (by omega)] at hu ⊢
          rw [N_nI (i := i) (by omega)]
          by_cases hq : σ 13 a ≤ σ 13 i
          · rw [if_pos hq] at hu ⊢
            exact key _ hu
          · rw [if_neg hq] at hu ⊢
            exact key _ hu
theorem next_ok {σ : Mem} {np : Nat} (h0 : σ 8 0 = nI np) (hp : np ≤ 4) : ∃ y, IsAct (σ 13) 0 np y ∧ f_X1_next σ = some y := by
  obtain ⟨y, h1, h2⟩ := next_loop h0 hp (fun x => some x) FU 0 (-1) (Nat.zero_le _) (by show np + 1 ≤ 0 + 6000; omega) (Or.inl ⟨rfl, rfl⟩)
  exact ⟨y, h1, h2⟩
theorem actor_loop {μ : Mem} {np : Nat} (hp : np ≤ 4) (k : Int32 → Option Int32) : ∀ (n i : Nat) (x : Int32), i ≤ np → i + 1 ≤ n → IsAct (μ 10) i np x → ∃ y, IsAct (μ 10) 0 np y ∧ L_X6_actor_9 n k μ x (nI i - 1) = k y := by
  intro n
  induction n with
  | zero => intro i x h1 h2; omega
  | succ n ih =>
    intro i x h1 h2 h
    rw [L_X6_actor_9]
    cases i with
    | zero => exact ⟨x, h, if_pos (by decide)⟩
    | succ i =>
      rw [nI_pred, if_neg (nI_pos (by omega))]
      have hd := IsAct.down (by omega) (by omega) h
      have key : ∀ y, IsAct (μ 10) i np y → ∃ z, IsAct (μ 10) 0 np z ∧ L_X6_actor_9 n k μ y (nI i + (-1)) = k z := fun y hy => by
        rw [← Int32.sub_eq_add_neg]
        exact ih i y (by omega) (by omega) hy
      simp only [jn]
      by_cases hx : x = -1
      · rw [if_pos hx] at hd ⊢
        exact key _ hd
      · rw [if_neg hx] at hd ⊢
        rcases h with ⟨-, rfl⟩ | ⟨a, a1, a2, rfl, a3, a4⟩
        · exact absurd rfl hx
        · rw [gd_ok (by omega) (by decide), gd_ok (by omega) (by decide)]
          rw [N_nI (i := a) (by omega)] at hd ⊢
          rw [N_nI (i := i) (by omega)]
          by_cases hq : μ 10 a < μ 10 i
          · rw [if_pos hq] at hd ⊢
            exact key _ hd
          · rw [if_neg hq] at hd ⊢
            exact key _ hd
theorem actor_ok {μ : Mem} {np : Nat} (h0 : μ 0 5 = nI np) (hp : np ≤ 4) : ∃ y, IsAct (μ 10) 0 np y ∧ f_X6_actor μ = some y := by
  obtain ⟨y, h1, h2⟩ := actor_loop hp (fun x => some x) FU np (-1) (Nat.le_refl _) (by show np + 1 ≤ 6000; omega) (Or.inl ⟨rfl, rfl⟩)
  refine ⟨y, h1, ?_⟩
  unfold f_X6_actor
  rw [h0]
  exact h2
