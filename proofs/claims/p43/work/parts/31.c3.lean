theorem bt_e1 {β : Type} (v : Int32) (kx : Nat → Option β) (k : Int32 → Option β) : bt (some (1, v)) kx k = kx 1 := rfl
theorem bt_e2 {β : Type} (v : Int32) (kx : Nat → Option β) (k : Int32 → Option β) : bt (some (2, v)) kx k = kx 2 := rfl
theorem bt_e3 {β : Type} (v : Int32) (kx : Nat → Option β) (k : Int32 → Option β) : bt (some (3, v)) kx k = kx 3 := rfl
theorem i20 : ((2 : Int32) = 0) = False := by decide
theorem i30 : ((3 : Int32) = 0) = False := by decide
theorem i00 : ((0 : Int32) = 0) = True := by decide
theorem im1 : ((-1 : Int32) = -1) = True := by decide
theorem nI_m1 {a : Nat} (h : a < 2 ^ 31) : (nI a = -1) = False := eq_false (nI_neg1 h)
/-- the end of an act, from the reference's memory μ5 behind what the act itself does -/
theorem act_end {c a t : Nat} {μ μ5 : Mem} {w b K b0 b1 b2 b3 : Int32} {vf : Mem → Int32} (hc : c < 512) (ha : a < pcN μ) (hI5 : IW (c + 1) (13 * c + 10) μ5) (h5a : pcN μ5 = pcN μ) (h29 : μ5 0 29 = 0) (h23 : μ5 0 23 = nI c) (hh : ∀ k, 20 ≤ k → k ≤ 23 → μ5 k = μ k) (ht : t ≤ 3)
    (hplay : ∀ σ, RW σ μ → ∃ σ5, RW σ5 (mu μ5 10 a (μ5 10 a + nI t)) ∧ ∀ σ', f_X4_pursueQuests σ5 (nI a) w b = some σ' → f_X4_play σ K b0 b1 b2 b3 = some (vf σ', σ')) :
    ∃ μ'', f_X6_ends μ5 (nI a) (nI t) w b = some μ'' ∧ SmA μ5 μ'' ∧ μ'' 0 29 = 0 ∧ IW (c + 1) (13 * c + 13) μ'' ∧ Kpt c μ μ'' ∧ ∀ σ, RW σ μ → ∃ σ', f_X4_play σ K b0 b1 b2 b3 = some (vf σ', σ') ∧ RW σ' μ'' := by
  obtain ⟨μ', μ'', e1, e2, e3, e4, e5, e6, e7⟩ := ends_ok (w := w) (b := b) hI5 (by omega) h23 (by rw [h5a]; exact ha) ht (by omega)
  refine ⟨μ'', e1, e3, by rw [e3.2 29 (by decide) (by decide)]; exact h29, e2, e4.kpt (μ5 := μ5) e5 (fun k k1 k2 => (e6 k k1).trans (hh k k1 k2)), fun σ hR => ?_⟩
  obtain ⟨σ5, s1, s2⟩ := hplay σ hR
  obtain ⟨σ', d1, -, d3⟩ := e7 σ5 s1
  exact ⟨σ', s2 σ' d1, d3⟩
/-- what an operation says: refused by both, or kept by both -/
def OpR (ok : Nat → Int32 → Prop) (c : Nat) (τ μ : Mem) (K b0 b1 b2 b3 : Int32) (m : Option (Int32 × Mem)) (x : Option (Nat × Int32 × Mem)) : Prop :=
  (∃ e t, ok e t ∧ m = some (0, mu μ 0 29 t) ∧ x = some (e, 0, τ)) ∨ ∃ v μ'', m = some (v, μ'') ∧ Step c μ K b0 b1 b2 b3 v μ'' ∧ x = bd2 (f_X5_keep τ K b0 b1 b2 b3) fun v σ => some (0, v, σ)
def OpV (ok : Nat → Int32 → Prop) (c : Nat) (τ μ : Mem) (K b0 b1 b2 b3 : Int32) (m : Option Mem) (x : Option (Nat × Int32 × Mem)) : Prop :=
  (∃ e t, ok e t ∧ m = some (mu μ 0 29 t) ∧ x = some (e, 0, τ)) ∨ ∃ μ'', m = some μ'' ∧ Step c μ K b0 b1 b2 b3 0 μ'' ∧ x = bd2 (f_X5_keep τ K b0 b1 b2 b3) fun _ σ => some (0, 0, σ)
def ok123 (e : Nat) (t : Int32) : Prop := (e = 1 ∧ t = 1) ∨ (e = 2 ∧ t = 2) ∨ (e = 3 ∧ t = 3)
def ok13 (e : Nat) (t : Int32) : Prop := (e = 1 ∧ t = 1) ∨ (e = 3 ∧ t = 2)
def ok23 (e : Nat) (t : Int32) : Prop := (e = 2 ∧ t = 1) ∨ (e = 3 ∧ t = 2)
def ok2 (e : Nat) (t : Int32) : Prop := e = 2 ∧ t = 1
def ok3 (e : Nat) (t : Int32) : Prop := e = 3 ∧ t = 1
def ok1 (e : Nat) (t : Int32) : Prop := e = 1 ∧ t = 1
/-- where a call of the council begins: c calls kept -/
def Beg (c : Nat) (τ μ : Mem) : Prop := c < 512 ∧ IW c (13 * c) μ ∧ μ 0 23 = nI c ∧ RW τ μ
theorem op_go {c : Nat} {τ μ : Mem} (B : Beg c τ μ) (d : Int32) : OpR ok13 c τ μ 9 d 0 0 0 (f_X6_go μ d) (f_X5_go τ d) := by
  obtain ⟨hc, hI, h23, hR⟩ := B
  unfold f_X6_go f_X5_go
  rcases dir_cases d with ⟨q, q1, rfl, n1, m1⟩ | ⟨n1, m1⟩
  · rcases actor_cases hI hR with ⟨a1, a2, a3⟩ | ⟨a, ha, a1, a2, a3, a4⟩
    · exact Or.inl ⟨3, 2, Or.inr ⟨rfl, rfl⟩, by simp only [a3, bd_s, m1, i10, if_false, jn_s, im1, if_true, can_ok, i20, bd2_s, i00], by simp only [n1, bt_0, a2, bt_e3]⟩
    · have hnp := hI.np
      obtain ⟨⟨rm, rm1, rm2⟩, -⟩ := hI.pl ha
      have hrs : τ 9 a = nI rm := (hR.2.1.2 a ha).1.trans rm2
      have g4 : ∀ {α : Type} (x : Option α), gd (nI a) 4 x = x := fun x => gd_ok (by omega) (by decide)
      have hNa : (nI a).toNatClampNeg = a := N_nI (by omega)
      have hj : rm * 4 + q < 32 := by omega
      have g32 : ∀ {α : Type} (x : Option α), gd (nI (rm * 4 + q)) 32 x = x := fun x => gd_ok hj (by decide)
      have hNj : (nI (rm * 4 + q)).toNatClampNeg = rm * 4 + q := N_nI (by omega)
      have hex : ∀ σ, RW σ μ → f_X2_exitFrom σ (nI rm) (nI q) = some (μ 1 (rm * 4 + q)) := fun σ hRs => by
        unfold f_X2_exitFrom
        rw [n4r, g32, hNj, hRs.1.1 _ hj]
      obtain ⟨-, -, -, -, h5, -⟩ := id hI
      rcases h5 _ hj with hx | ⟨x, hx1, hx2⟩
      · exact Or.inl ⟨3, 2, Or.inr ⟨rfl, rfl⟩, by simp only [a3, bd_s, m1, i10, if_false, jn_s, nI_m1 (show a < 2 ^ 31 by omega), g4, hNa, rm2, n4l, g32, hNj, hx, im1, if_true, can_ok, i20, bd2_s, i00], by simp only [n1, bt_0, a2, g4, hNa, hrs, hex τ hR, hx, bd_s, im1, if_true]⟩
      · -- the exit is there
        obtain ⟨μ5, hμ5⟩ : ∃ μ5, μ5 = mu (mu μ 0 29 0) 6 a (nI x) := ⟨_, rfl⟩
        have hI5 : IW (c + 1) (13 * c + 10) μ5 := by rw [hμ5]; exact ((hI.thrown 0).room a ⟨x, hx1, rfl⟩).mono (by omega) (by omega)
        obtain ⟨μ'', e1, e2, e3, e4, e5, e6⟩ := act_end (a := a) (t := 2) (μ := μ) (μ5 := μ5) (w := -1) (b := -1) (K := 9) (b0 := nI q) (b1 := 0) (b2 := 0) (b3 := 0) (vf := fun _ => nI x) hc ha hI5 (by unfold pcN; rw [hμ5, mu_n (by decide), mu_pl (by decide)]) (by rw [hμ5, mu_n (by decide), mu_at]) (by rw [hμ5, mu_n (by decide), mu_pl (by decide)]; exact h23) (fun k k1 k2 => by rw [hμ5, mu_n (by omega), mu_n (by omega)]) (by omega) (fun σ hRs => by
          have hrs2 : σ 9 a = nI rm := (hRs.2.1.2 a ha).1.trans rm2
          have ht2 : σ 13 a = μ 10 a := (hRs.2.1.2 a ha).2.2.2.2
          refine ⟨mu (mu σ 9 a (nI x)) 13 a (σ 13 a + nI 2), ?_, fun σ' hq => play_go (v := nI x) (by omega) (next_of hI a4 hRs) ?_ hq⟩
          · have := (((hRs.thrown 0).room a (nI x)).ready a (σ 13 a + nI 2))
            rw [hμ5, mu_n (show (10 : Nat) ≠ 6 by decide), mu_n (show (10 : Nat) ≠ 0 by decide), ← ht2]
            exact this
          · unfold f_X4_perform
            rw [g4, if_pos rfl, hNa, hrs2, hex σ hRs, bd_s, g4, stp_s, g4, mu_at, hx2])
        refine Or.inr ⟨nI x, μ'', ?_, ⟨e3, e4, e5, e6⟩, ?_⟩
        · simp only [a3, bd_s, m1, i10, if_false, jn_s, nI_m1 (show a < 2 ^ 31 by omega), g4, hNa, rm2, n4l, g32, hNj, hx2, nI_m1 (show x < 2 ^ 31 by omega), can_ok, i00, if_true, bd2_s, mu_n (show (6 : Nat) ≠ 0 by decide), mu_n (show (1 : Nat) ≠ 0 by decide), stp_s]
          rw [← hμ5, show (2 : Int32) = nI 2 from rfl, e1, bd_s, e2.1 6 (by decide) (by decide) (by decide) (by decide) (by decide) (by decide) (by decide) (by decide), hμ5, mu_at]
        · simp only [n1, bt_0, a2, g4, hNa, hrs, hex τ hR, hx2, bd_s, nI_m1 (show x < 2 ^ 31 by omega), if_false]
  · exact Or.inl ⟨1, 1, Or.inl ⟨rfl, rfl⟩, by
      rcases actor_cases hI hR with ⟨-, -, a3⟩ | ⟨a, -, -, -, a3, -⟩ <;> simp only [a3, bd_s, m1, jn_s, can_ok, i10, i00, if_true, if_false, bd2_s], by simp only [n1, bt_e1]⟩
