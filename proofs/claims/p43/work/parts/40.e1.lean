/-! THE COUNCIL: the calls kept, the worlds behind each -/
def Plays (τ : Mem) (M : Nat → Mem) (i : Nat) : Prop := ∀ σ, RW σ (M i) → ∃ v σ', f_X4_play σ (τ 50 (i * 5)) (τ 50 (i * 5 + 1)) (τ 50 (i * 5 + 2)) (τ 50 (i * 5 + 3)) (τ 50 (i * 5 + 4)) = some (v, σ') ∧ RW σ' (M (i + 1))
def SX (c : Nat) (τ μ : Mem) (M : Nat → Mem) : Prop :=
  IW c (13 * c) μ ∧ μ 0 23 = nI c ∧ RW τ μ ∧ τ 49 1 = nI c ∧ WSm (M c) μ ∧ (∀ i, i ≤ c → At i μ (M i) ∧ ∃ np, np ≤ 4 ∧ M i 0 5 = nI np) ∧ (∀ i, i < c → Plays τ M i) ∧ ∀ σ, ∃ σ', f_X4_clear σ = some σ' ∧ RW σ' (M 0)
theorem SX.beg {c : Nat} {τ μ : Mem} {M : Nat → Mem} (h : SX c τ μ M) (hc : c < 512) : Beg c τ μ := ⟨hc, h.1, h.2.1, h.2.2.1⟩
theorem At.far {c : Nat} {μ μ' M : Mem} (h : At c μ M) (e : μ' 20 c = μ 20 c ∧ μ' 21 c = μ 21 c) (e2 : ∀ p, p < 4 → μ' 22 (c * 4 + p) = μ 22 (c * 4 + p) ∧ μ' 23 (c * 4 + p) = μ 23 (c * 4 + p)) (h4 : ∃ np, np ≤ 4 ∧ M 0 5 = nI np) : At c μ' M := h.same WSm.rf e e2 (by
  obtain ⟨np, n1, n2⟩ := h4
  unfold pcN; rw [n2, N_nI (by omega)]; exact n1)
theorem SX.same {c : Nat} {τ μ τ' μ' : Mem} {M : Nat → Mem} (h : SX c τ μ M) (t1 : ∀ k, k < 24 → k ≠ 7 → τ' k = τ k) (t2 : τ' 49 = τ 49) (t3 : τ' 50 = τ 50) (m1 : WSm μ μ') (m2 : μ' 0 23 = μ 0 23) (m3 : ∀ k, 20 ≤ k → k ≤ 23 → μ' k = μ k) : SX c τ' μ' M := by
  obtain ⟨h1, h2, h3, h4, h5, h6, h7, h8⟩ := h
  refine ⟨m1.IW h1, m2.trans h2, m1.RW (h3.steps t1), by rw [t2]; exact h4, h5.tr m1, fun i hi => ?_, fun i hi => ?_, h8⟩
  · obtain ⟨a1, a2⟩ := h6 i hi
    exact ⟨a1.far (by rw [m3 20 (by decide) (by decide), m3 21 (by decide) (by decide)]; exact ⟨rfl, rfl⟩) (fun p hp => by rw [m3 22 (by decide) (by decide), m3 23 (by decide) (by decide)]; exact ⟨rfl, rfl⟩) a2, a2⟩
  · unfold Plays; rw [t3]; exact h7 i hi
theorem SX.thrown {c : Nat} {τ μ : Mem} {M : Nat → Mem} (h : SX c τ μ M) (t : Int32) : SX c τ (mu μ 0 29 t) M :=
  h.same (fun _ _ _ => rfl) rfl rfl (WSm.thrown μ t) (mu_pl (by decide)) fun k k1 _ => mu_n (by omega)
theorem n5m (r : Nat) : nI r * 5 = nI (r * 5) := by rw [show (5 : Int32) = nI 5 from rfl, pk_mul]
theorem add_ok {τ : Mem} {c : Nat} (h : τ 49 1 = nI c) (hc : c < 512) (a0 a1 a2 a3 a4 : Int32) : ∃ τ1, f_X0_add τ a0 a1 a2 a3 a4 = some τ1 ∧ (∀ k, k ≠ 49 → k ≠ 50 → τ1 k = τ k) ∧ τ1 49 1 = nI (c + 1) ∧ (τ1 50 (c * 5) = a0 ∧ τ1 50 (c * 5 + 1) = a1 ∧ τ1 50 (c * 5 + 2) = a2 ∧ τ1 50 (c * 5 + 3) = a3 ∧ τ1 50 (c * 5 + 4) = a4) ∧ ∀ j, j < c * 5 → τ1 50 j = τ 50 j := by
  have i0 : (nI c * 5) = nI (c * 5) := n5m c
  have e1 : nI (c * 5) + 1 = nI (c * 5 + 1) := nI_1 _
  have e2 : nI (c * 5) + 2 = nI (c * 5 + 2) := nI_add _ 2
  have e3 : nI (c * 5) + 3 = nI (c * 5 + 3) := nI_add _ 3
  have e4 : nI (c * 5) + 4 = nI (c * 5 + 4) := nI_add _ 4
  have gg : ∀ {α : Type} (x : Option α) (j : Nat), j < 5 → gd (nI (c * 5 + j)) 2560 x = x := fun x j hj => gd_ok (by omega) (by decide)
  have g0 : ∀ {α : Type} (x : Option α), gd (nI (c * 5)) 2560 x = x := fun x => gd_ok (by omega) (by decide)
  have N0 : (nI (c * 5)).toNatClampNeg = c * 5 := N_nI (by omega)
  have Nj : ∀ j, j < 5 → (nI (c * 5 + j)).toNatClampNeg = c * 5 + j := fun j hj => N_nI (by omega)
  refine ⟨mu (mu (mu (mu (mu (mu τ 50 (c * 5) a0) 50 (c * 5 + 1) a1) 50 (c * 5 + 2) a2) 50 (c * 5 + 3) a3) 50 (c * 5 + 4) a4) 49 1 (nI (c + 1)), ?_, fun k k1 k2 => by rw [mu_n k1, mu_n k2, mu_n k2, mu_n k2, mu_n k2, mu_n k2], by rw [mu_at], ⟨?_, ?_, ?_, ?_, ?_⟩, fun j hj => ?_⟩
  · unfold f_X0_add
    rw [h, if_pos (show nI c < 512 from nI_lt (a := c) (b := 512) hc (by decide))]
    simp only [mu_n (show (49 : Nat) ≠ 50 by decide), h, i0, e1, e2, e3, e4, g0, N0, gg _ 1 (by decide), gg _ 2 (by decide), gg _ 3 (by decide), gg _ 4 (by decide), Nj 1 (by decide), Nj 2 (by decide), Nj 3 (by decide), Nj 4 (by decide), stp_s, nI_1]
  · rw [mu_n (by decide), mu_pl (by omega), mu_pl (by omega), mu_pl (by omega), mu_pl (by omega), mu_at]
  · rw [mu_n (by decide), mu_pl (by omega), mu_pl (by omega), mu_pl (by omega), mu_at]
  · rw [mu_n (by decide), mu_pl (by omega), mu_pl (by omega), mu_at]
  · rw [mu_n (by decide), mu_pl (by omega), mu_at]
  · rw [mu_n (by decide), mu_at]
  · rw [mu_n (by decide), mu_pl (by omega), mu_pl (by omega), mu_pl (by omega), mu_pl (by omega), mu_pl (by omega)]
theorem SX.keep {c : Nat} {τ μ μ'' : Mem} {M : Nat → Mem} {K b0 b1 b2 b3 v : Int32} (h : SX c τ μ M) (hc : c < 512) (hs : Step c μ K b0 b1 b2 b3 v μ'') : ∃ τ' M', f_X5_keep τ K b0 b1 b2 b3 = some (v, τ') ∧ SX (c + 1) τ' μ'' M' := by
  obtain ⟨h1, h2, h3, h4, h5, h6, h7, h8⟩ := h
  obtain ⟨s1, s2, ⟨k1, k2, k3, k4⟩, s4⟩ := hs
  obtain ⟨τ1, t1, t2, t3, ⟨r0, r1, r2, r3, r4⟩, t5⟩ := add_ok h4 hc K b0 b1 b2 b3
  obtain ⟨σ3, p1, p2⟩ := s4 τ1 (h3.steps fun k q _ => t2 k (by omega) (by omega))
  have e50 : mgN σ3 τ1 50 = τ1 50 := if_neg (by decide)
  have e49 : mgN σ3 τ1 49 = τ1 49 := if_neg (by decide)
  obtain ⟨M', m1, m2⟩ : ∃ M' : Nat → Mem, M' (c + 1) = μ'' ∧ ∀ i, i ≤ c → M' i = M i := ⟨fun i => if i = c + 1 then μ'' else M i, if_pos rfl, fun i hi => if_neg (by omega)⟩
  refine ⟨mgN σ3 τ1, M', ?_, ?_⟩
  · unfold f_X5_keep
    rw [t1, bd_s, p1, bd2_s, stp_s]
  · unfold SX
    refine ⟨s2, k1, p2.steps fun k q _ => mgN_1 σ3 τ1 k q, by rw [e49]; exact t3, by rw [m1]; exact WSm.rf, fun i hi => ?_, fun i hi => ?_, fun σ => ?_⟩
    · by_cases hic : i = c + 1
      · subst hic
        rw [m1]
        exact ⟨k2, pcN μ'', s2.np.1, s2.np.2⟩
      · rw [m2 i (by omega)]
        obtain ⟨a1, a2⟩ := h6 i (by omega)
        exact ⟨a1.far (k3 i (by omega)) (fun p hp => k4 _ (by omega)) a2, a2⟩
    · unfold Plays
      rw [e50, m2 i (by omega)]
      by_cases hic : i = c
      · subst hic
        rw [m1, r0, r1, r2, r3, r4]
        intro σ hσ
        obtain ⟨σ', q1, q2⟩ := s4 σ (h5.RW hσ)
        exact ⟨v, σ', q1, q2⟩
      · rw [m2 (i + 1) (by omega), t5 _ (by omega), t5 _ (by omega), t5 _ (by omega), t5 _ (by omega), t5 _ (by omega)]
        exact h7 i (by omega)
    · rw [m2 0 (by omega)]
      exact h8 σ
/-- what a call of the law finds: the class threw e or answered v, the reference says t of what was thrown, and answers b -/
def Agr (ok : Nat → Int32 → Prop) (e : Nat) (v t b : Int32) : Prop := (e = 0 ∧ t = 0 ∧ v = b) ∨ ok e t
def LawR (ok : Nat → Int32 → Prop) (c : Nat) (m : Option (Int32 × Mem)) (x : Option (Nat × Int32 × Mem)) : Prop :=
  ∃ e v τ' b μ' c' M', x = some (e, v, τ') ∧ m = some (b, μ') ∧ c' ≤ c + 1 ∧ SX c' τ' μ' M' ∧ Agr ok e v (μ' 0 29) b
def LawV (ok : Nat → Int32 → Prop) (c : Nat) (m : Option Mem) (x : Option (Nat × Int32 × Mem)) : Prop :=
  ∃ e v τ' μ' c' M', x = some (e, v, τ') ∧ m = some μ' ∧ c' ≤ c + 1 ∧ SX c' τ' μ' M' ∧ Agr ok e v (μ' 0 29) v
theorem OpR.law {ok : Nat → Int32 → Prop} {c : Nat} {τ μ : Mem} {M : Nat → Mem} {K b0 b1 b2 b3 : Int32} {m : Option (Int32 × Mem)} {x : Option (Nat × Int32 × Mem)} (hS : SX c τ μ M) (hc : c < 512) (h : OpR ok c τ μ K b0 b1 b2 b3 m x) : LawR ok c m x := by
  rcases h with ⟨e, t, h1, h2, h3⟩ | ⟨v, μ'', h1, h2, h3⟩
  · exact ⟨e, 0, τ, 0, _, c, M, h3, h2, by omega, hS.thrown t, Or.inr (by rw [mu_at]; exact h1)⟩
  · obtain ⟨τ', M', k1, k2⟩ := hS.keep hc h2
    exact ⟨0, v, τ', v, μ'', c + 1, M', by rw [h3, k1]; rfl, h1, Nat.le_refl _, k2, Or.inl ⟨rfl, h2.1, rfl⟩⟩
theorem OpV.law {ok : Nat → Int32 → Prop} {c : Nat} {τ μ : Mem} {M : Nat → Mem} {K b0 b1 b2 b3 : Int32} {m : Option Mem} {x : Option (Nat × Int32 × Mem)} (hS : SX c τ μ M) (hc : c < 512) (h : OpV ok c τ μ K b0 b1 b2 b3 m x) : LawV ok c m x := by
  rcases h with ⟨e, t, h1, h2, h3⟩ | ⟨μ'', h1, h2, h3⟩
  · exact ⟨e, 0, τ, _, c, M, h3, h2, by omega, hS.thrown t, Or.inr (by rw [mu_at]; exact h1)⟩
  · obtain ⟨τ', M', k1, k2⟩ := hS.keep hc h2
    exact ⟨0, 0, τ', μ'', c + 1, M', by rw [h3, k1]; rfl, h1, Nat.le_refl _, k2, Or.inl ⟨rfl, h2.1, rfl⟩⟩
