/-! HEARING -/
/-- one row moved by one place, from the place m up to m + a -/
def shf (f : Nat → Int32) (m a : Nat) : Nat → Int32 := fun j => if m + 1 ≤ j ∧ j ≤ m + a then f (j - 1) else f j
theorem shf_0 (f : Nat → Int32) (m : Nat) : shf f m 0 = f := by
  funext j; unfold shf; rw [if_neg (by omega)]
theorem shf_s (f : Nat → Int32) (m a : Nat) : shf (upd f (m + (a + 1)) (f (m + a))) m a = shf f m (a + 1) := by
  funext j
  unfold shf upd
  by_cases h : m + 1 ≤ j ∧ j ≤ m + a
  · rw [if_pos h, if_neg (by omega), if_pos (by omega)]
  · rw [if_neg h]
    by_cases h2 : j = m + (a + 1)
    · subst h2; rw [if_pos rfl, if_pos (by omega)]; rfl
    · rw [if_neg h2, if_neg (by omega)]
theorem hear_loop {p : Nat} (hp : p < 4) (y z : Int32) (k : Mem → Option Mem) : ∀ (n a : Nat) (σ : Mem), a ≤ 5 → a + 1 ≤ n → L_X1_hear_8 n k y z (nI (p * 6)) (nI a) σ = k (fun j => if j = 16 then shf (σ 16) (p * 6) a else σ j) := by
  intro n
  induction n with
  | zero => intro a σ h1 h2; omega
  | succ n ih =>
    intro a σ h1 h2
    rw [L_X1_hear_8]
    cases a with
    | zero =>
      rw [if_pos (by decide)]
      congr 1
      funext j
      split
      · rename_i h; subst h; rw [shf_0]
      · rfl
    | succ a =>
      rw [if_neg (nI_nle (by omega) (by omega)), nI_add, show p * 6 + (a + 1) = (p * 6 + a) + 1 from rfl, nI_pred, ← Int32.sub_eq_add_neg, nI_pred, gd_ok (by omega) (by decide), gd_ok (by omega) (by decide), stp_s, N_nI (by omega), N_nI (by omega), ih a _ (by omega) (by omega)]
      congr 1
      funext j
      by_cases h : j = 16
      · subst h; rw [if_pos rfl, if_pos rfl, mu_s]; exact shf_s _ _ _
      · rw [if_neg h, if_neg h, mu_n h]
theorem hears_loop {p : Nat} (hp : p < 4) (y z : Int32) (k : Mem → Option Mem) : ∀ (n a : Nat) (σ : Mem), a ≤ 5 → a + 1 ≤ n → L_X6_hears_3 n k (nI p) y z (nI a) σ = k (fun j => if j = 13 then shf (σ 13) (p * 6) a else σ j) := by
  intro n
  induction n with
  | zero => intro a σ h1 h2; omega
  | succ n ih =>
    intro a σ h1 h2
    rw [L_X6_hears_3]
    cases a with
    | zero =>
      rw [if_pos (by decide)]
      congr 1
      funext j
      split
      · rename_i h; subst h; rw [shf_0]
      · rfl
    | succ a =>
      rw [if_neg (nI_nle (by omega) (by omega)), n6l, nI_add, show p * 6 + (a + 1) = (p * 6 + a) + 1 from rfl, nI_pred, ← Int32.sub_eq_add_neg, nI_pred, gd_ok (by omega) (by decide), gd_ok (by omega) (by decide), stp_s, N_nI (by omega), N_nI (by omega), ih a _ (by omega) (by omega)]
      congr 1
      funext j
      by_cases h : j = 13
      · subst h; rw [if_pos rfl, if_pos rfl, mu_s]; exact shf_s _ _ _
      · rw [if_neg h, if_neg h, mu_n h]
theorem IW.no13 {g r : Nat} {μ μ' : Mem} (h : IW g r μ) (e : ∀ k, k ≠ 13 → μ' k = μ k) : IW g r μ' := by
  unfold IW at h ⊢
  rw [e 0 (by decide), e 1 (by decide), e 2 (by decide), e 5 (by decide), e 6 (by decide), e 8 (by decide), e 9 (by decide), e 10 (by decide), e 11 (by decide), e 12 (by decide), e 15 (by decide), e 16 (by decide), e 17 (by decide), e 19 (by decide)]
  exact h
/-- a word heard by the player p: the row of words moved, the word in front -/
def hrd (f : Nat → Int32) (p : Nat) (v : Int32) : Nat → Int32 := upd (shf f (p * 6) 5) (p * 6) v
theorem hear_ok {g r p : Nat} {μ : Mem} {s w : Int32} (hI : IW g r μ) (hp : p < 4) : ∃ μ' v, v = 100 * s + w ∧ f_X6_hears μ (nI p) s w = some μ' ∧ IW g r μ' ∧ (∀ k, k ≠ 12 → k ≠ 13 → μ' k = μ k) ∧ ∀ σ, RW σ μ → ∃ σ', f_X1_hear σ (nI p) v = some σ' ∧ RW σ' μ' := by
  obtain ⟨-, -, -, -, -, -, -, -, -, h10, -⟩ := id hI
  obtain ⟨q, q1, q2⟩ := h10 p hp
  have hN : (nI p).toNatClampNeg = p := N_nI (by omega)
  have hN6 : (nI (p * 6)).toNatClampNeg = p * 6 := N_nI (by omega)
  have g24 : ∀ {α : Type} (x : Option α), gd (nI (p * 6)) 24 x = x := fun x => gd_ok (by omega) (by decide)
  have g4 : ∀ {α : Type} (x : Option α), gd (nI p) 4 x = x := fun x => gd_ok (by omega) (by decide)
  obtain ⟨q', hq', e1, e2⟩ : ∃ q' : Nat, q' ≤ 6 ∧ (if 6 ≤ nI q then nI q + 0 else nI q + 1) = nI q' ∧ jmin (nI q + 1) 6 = nI q' ∧ True := by
    rw [Int32.add_zero, nI_1]
    unfold jmin
    by_cases h : q = 6
    · subst h; exact ⟨6, by omega, by decide, by decide, trivial⟩
    · refine ⟨q + 1, by omega, ?_, ?_, trivial⟩
      · rw [if_neg (show ¬ (6 : Int32) ≤ nI q from nI_ge (a := q) (b := 6) (by omega) (by omega))]
      · rw [if_neg (show ¬ (6 : Int32) < nI (q + 1) from nI_nlt (a := 6) (b := q + 1) (by omega) (by omega))]
  have hq'q : q' = q + 1 ∨ (q = 6 ∧ q' = 6) := by
    obtain ⟨e2, -⟩ := e2
    unfold jmin at e2
    rw [nI_1] at e2
    by_cases h : q = 6
    · subst h
      rw [if_pos (by decide)] at e2
      exact Or.inr ⟨rfl, (nI_inj (by decide) (by omega) e2).symm⟩
    · rw [if_neg (show ¬ (6 : Int32) < nI (q + 1) from nI_nlt (a := 6) (b := q + 1) (by omega) (by omega))] at e2
      exact Or.inl (nI_inj (by omega) (by omega) e2).symm
  have hwp : ∀ f : Nat → Int32, (fun j => if j = 13 then hrd (μ 13) p (100 * s + w) else if j = 12 then f else μ j) 0 = μ 0 := fun f => by simp
  refine ⟨fun j => if j = 13 then hrd (μ 13) p (100 * s + w) else if j = 12 then upd (μ 12) p (nI q') else μ j, _, rfl, ?_, ?_, fun k c1 c2 => ?_, fun σ hR => ?_⟩
  · unfold f_X6_hears
    rw [show (5 : Int32) = nI 5 from rfl, hears_loop hp _ _ _ FU 5 μ (by omega) (by show 5 + 1 ≤ 6000; omega)]
    simp only [n6l, g24, g4, hN, hN6, stp_s, jn_s, mu_n (show (12 : Nat) ≠ 13 by decide), show ((12 : Nat) = 13) = False from by simp, if_false, q2]
    have ex : ∀ y : Int32, y = nI q' → some (mu (mu (fun j => if j = 13 then shf (μ 13) (p * 6) 5 else μ j) 13 (p * 6) (100 * s + w)) 12 p y) = some (fun j => if j = 13 then hrd (μ 13) p (100 * s + w) else if j = 12 then upd (μ 12) p (nI q') else μ j) := fun y hy => by
      subst hy
      congr 1
      funext j
      by_cases h1 : j = 13
      · subst h1
        rw [mu_n (by decide), mu_s, if_pos rfl, if_pos rfl]; rfl
      · rw [if_neg h1]
        by_cases h2 : j = 12
        · subst h2
          rw [mu_s, mu_n (by decide), if_pos rfl, if_neg (by decide)]
        · rw [mu_n h2, mu_n h1, if_neg h1, if_neg h2]
    by_cases h : (6 : Int32) ≤ nI q
    · rw [if_pos h] at e1 ⊢
      exact ex _ e1
    · rw [if_neg h] at e1 ⊢
      exact ex _ e1
  · have hI2 := hI.words p (v := nI q') ⟨q', hq', rfl⟩
    refine hI2.no13 fun k hk => ?_
    show (if k = 13 then _ else if k = 12 then _ else μ k) = _
    rw [if_neg hk]
    by_cases h2 : k = 12
    · subst h2; rw [if_pos rfl, mu_s]
    · rw [if_neg h2, mu_n h2]
  · show (if k = 13 then _ else if k = 12 then _ else μ k) = μ k
    rw [if_neg c2, if_neg c1]
  · obtain ⟨⟨a1, a2, a3, a4, a5⟩, ⟨b0, b⟩, ⟨r1, r2, r3, r4⟩, ⟨d1, d2⟩, ⟨f0, f⟩⟩ := id hR
    refine ⟨fun j => if j = 16 then hrd (σ 16) p (100 * s + w) else if j = 17 then upd (σ 17) p (nI q') else σ j, ?_, ?_⟩
    · unfold f_X1_hear
      rw [show (5 : Int32) = nI 5 from rfl, n6m, hear_loop hp _ _ _ FU 5 σ (by omega) (by show 5 + 1 ≤ 6000; omega)]
      simp only [g24, g4, hN, hN6, stp_s, mu_n (show (17 : Nat) ≠ 16 by decide), show ((17 : Nat) = 16) = False from by simp, if_false, r3 p hp, q2, e2.1]
      congr 1
      funext j
      by_cases h1 : j = 16
      · subst h1
        rw [mu_n (by decide), mu_s, if_pos rfl, if_pos rfl]; rfl
      · rw [if_neg h1]
        by_cases h2 : j = 17
        · subst h2
          rw [mu_s, mu_n (by decide), if_pos rfl, if_neg (by decide)]
        · rw [mu_n h2, mu_n h1, if_neg h1, if_neg h2]
    · refine ⟨⟨a1, a2, a3, a4, a5⟩, ⟨b0, b⟩, ⟨r1, r2, fun i hi => ?_, fun i a hi ha => ?_⟩, ⟨d1, d2⟩, ⟨f0, f⟩⟩
      · show upd (σ 17) p (nI q') i = upd (μ 12) p (nI q') i
        unfold upd
        split
        · rfl
        · exact r3 i hi
      · have ha : a < (upd (μ 12) p (nI q') i).toNatClampNeg := ha
        show hrd (σ 16) p _ (i * 6 + a) = hrd (μ 13) p _ (i * 6 + a)
        obtain ⟨qi, hqi1, hqi2⟩ := h10 i hi
        unfold hrd upd
        unfold upd at ha
        by_cases hip : i = p
        · subst hip
          rw [if_pos rfl, N_nI (by omega)] at ha
          by_cases ha0 : a = 0
          · subst ha0; rw [Nat.add_zero, if_pos rfl, if_pos rfl]
          · rw [if_neg (by omega), if_neg (by omega)]
            unfold shf
            rw [if_pos (by omega), if_pos (by omega)]
            have := r4 i (a - 1) hi (by rw [q2, N_nI (by omega)]; omega)
            rw [show i * 6 + a - 1 = i * 6 + (a - 1) by omega]
            exact this
        · rw [if_neg hip] at ha
          have ha6 : a < 6 := by rw [hqi2, N_nI (by omega)] at ha; omega
          rw [if_neg (by omega), if_neg (by omega)]
          unfold shf
          rw [if_neg (by omega), if_neg (by omega)]
          exact r4 i a hi ha
