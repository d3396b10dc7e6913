/-! ACTS AT THE CLASS -/
def HK (c : Nat) (μ μ'' : Mem) : Prop := (∀ j, j ≤ c → μ'' 20 j = μ 20 j ∧ μ'' 21 j = μ 21 j) ∧ ∀ j, j < (c + 1) * 4 → μ'' 22 j = μ 22 j ∧ μ'' 23 j = μ 23 j
theorem HE.go {c i : Nat} {ρ ρ' μ μ'' : Mem} (h : HE ρ μ i) (hk : HK c μ μ'') (hi : i ≤ c) (e52 : ρ' 52 i = ρ 52 i) (e53 : lrd ρ' 53 i = lrd ρ 53 i) : HE ρ' μ'' i := by
  obtain ⟨np, t, R, f, h1, h2, h3, h4, h5, h6, h7, h8, h9⟩ := h
  refine ⟨np, t, R, f, h1, h2, h3, h4, ((hk.1 i hi).1).trans h5, h6.trans ((hk.1 i hi).2).symm, e52.trans h7, e53.trans h8, fun p hp => ?_⟩
  obtain ⟨a, b⟩ := hk.2 (i * 4 + p) (by omega)
  rw [a, b]; exact h9 p hp
/-- an act, as the class does it -/
def AL2 (c a : Nat) (ρ μ : Mem) (x : Option (Nat × Int32 × Mem)) (P : Nat → Int32 → Mem → Mem → Prop) : Prop :=
  (∃ e, (e = 1 ∨ e = 3) ∧ x = some (e, 0, ρ)) ∨ ∃ cost v τ' M' μ5 μ'', x = some (0, v, τ') ∧ SX (c + 1) τ' μ'' M' ∧ HK c μ μ'' ∧ Mid μ μ5 ∧ EndS a cost μ5 μ'' ∧ P cost v μ5 μ''
theorem act_op {ok : Nat → Int32 → Prop} {c a : Nat} {ρ μ : Mem} {M : Nat → Mem} {K b0 b1 b2 b3 : Int32} {m : Option (Int32 × Mem)} {x : Option (Nat × Int32 × Mem)} {P : Nat → Int32 → Mem → Mem → Prop} (S : SX c ρ μ M) (hc : c < 512) (hok0 : ∀ e, ¬ ok e 0) (hL : OpR ok c ρ μ K b0 b1 b2 b3 m x) (hA : AR ok c a μ m P) : AL2 c a ρ μ x P := by
  rcases hL with ⟨e, t, h1, h2, h3⟩ | ⟨v, μ'', h1, h2, h3⟩
  · rcases hA with ⟨t', t1, t2, t3⟩ | ⟨cost, v', μ5, μ3, r1, r2, r3, r4, r5, r6⟩
    · rw [h2] at t3
      obtain ⟨-, ht⟩ := rt2 t3
      have : t = t' := by
        have := congrFun (congrFun ht 0) 29
        rwa [mu_at, mu_at] at this
      subst this
      exact Or.inl ⟨e, t2 e h1, h3⟩
    · rw [h2] at r1
      obtain ⟨-, rfl⟩ := rt2 r1
      rw [mu_at] at r2
      subst r2
      exact absurd h1 (hok0 e)
  · obtain ⟨τ', M', k1, k2⟩ := S.keep hc h2
    rcases hA with ⟨t', t1, t2, t3⟩ | ⟨cost, v', μ5, μ3, r1, r2, r3, r4, r5, r6⟩
    · rw [h1] at t3
      obtain ⟨-, rfl⟩ := rt2 t3
      have := h2.1
      rw [mu_at] at this
      exact absurd this t1
    · rw [h1] at r1
      obtain ⟨rfl, rfl⟩ := rt2 r1
      exact Or.inr ⟨cost, v, τ', M', μ5, μ'', by rw [h3, k1]; rfl, k2, ⟨h2.2.2.1.2.2.1, h2.2.2.1.2.2.2⟩, r4, r5, r6⟩
theorem AL2.imp {c a : Nat} {ρ μ : Mem} {x : Option (Nat × Int32 × Mem)} {P P' : Nat → Int32 → Mem → Mem → Prop} (h : AL2 c a ρ μ x P) (hp : ∀ cost v μ5 μ'', P cost v μ5 μ'' → P' cost v μ5 μ'') : AL2 c a ρ μ x P' := by
  rcases h with h | ⟨cost, v, τ', M', μ5, μ'', h1, h2, h3, h4, h5, h6⟩
  · exact Or.inl h
  · exact Or.inr ⟨cost, v, τ', M', μ5, μ'', h1, h2, h3, h4, h5, hp _ _ _ _ h6⟩
def WR (σ : Mem) (x : Option (Nat × Int32 × Mem)) : Option (Int32 × Mem) :=
  bt3 x (fun n σ' => if n = 1 then (stp (mgY σ' σ) fun σ1 => some ((-7), σ1)) else if n = 3 then (stp (mgY σ' σ) fun σ1 => some ((-8), σ1)) else none) fun v σ' => stp (mgY σ' σ) fun σ1 => some (v, σ1)
def AO (c a : Nat) (ρ μ : Mem) (M : Nat → Mem) (res : Option (Int32 × Mem)) (P : Nat → Int32 → Mem → Mem → Prop) : Prop :=
  (∃ v ρ', res = some (v, ρ') ∧ (v = -7 ∨ v = -8) ∧ SX c ρ' μ M ∧ K51 ρ ρ') ∨ ∃ cost v ρ' M' μ5 μ'', res = some (v, ρ') ∧ SX (c + 1) ρ' μ'' M' ∧ K51 ρ ρ' ∧ HK c μ μ'' ∧ Mid μ μ5 ∧ EndS a cost μ5 μ'' ∧ P cost v μ5 μ''
theorem wr_ok {c a : Nat} {ρ μ : Mem} {M : Nat → Mem} {x : Option (Nat × Int32 × Mem)} {P : Nat → Int32 → Mem → Mem → Prop} (S : SX c ρ μ M) (h : AL2 c a ρ μ x P) : AO c a ρ μ M (WR ρ x) P := by
  rcases h with ⟨e, he, h⟩ | ⟨cost, v, τ', M', μ5, μ'', h1, h2, h3, h4, h5, h6⟩
  · rcases he with rfl | rfl
    · exact Or.inl ⟨-7, mgY ρ ρ, by unfold WR; rw [h, bt3_1, if_pos rfl, stp_s], Or.inl rfl, Y.g S, mgY_K ρ ρ⟩
    · exact Or.inl ⟨-8, mgY ρ ρ, by unfold WR; rw [h, bt3_1, if_neg (by decide), if_pos rfl, stp_s], Or.inr rfl, Y.g S, mgY_K ρ ρ⟩
  · exact Or.inr ⟨cost, v, mgY τ' ρ, M', μ5, μ'', by unfold WR; rw [h1, bt3_0, stp_s], Y.g h2, mgY_K τ' ρ, h3, h4, h5, h6⟩
theorem ok13_0 : ∀ e, ¬ ok13 e 0 := fun e h => by
  rcases h with ⟨-, h⟩ | ⟨-, h⟩ <;> exact absurd h (by decide)
theorem ok23_0 : ∀ e, ¬ ok23 e 0 := fun e h => by
  rcases h with ⟨-, h⟩ | ⟨-, h⟩ <;> exact absurd h (by decide)
theorem ok123_0 : ∀ e, ¬ ok123 e 0 := fun e h => by
  rcases h with ⟨-, h⟩ | ⟨-, h⟩ | ⟨-, h⟩ <;> exact absurd h (by decide)
theorem ok3_0 : ∀ e, ¬ ok3 e 0 := fun e h => absurd h.2 (by decide)
theorem say_eq (μ : Mem) (d : Int32) : f_X6_say μ d = f_X6_speaks μ d 0 := by
  unfold f_X6_say
  cases f_X6_speaks μ d 0 with
  | none => rfl
  | some p => rfl
theorem shout_eq (μ : Mem) (d : Int32) : f_X6_shout μ d = f_X6_speaks μ d 1 := by
  unfold f_X6_shout
  cases f_X6_speaks μ d 1 with
  | none => rfl
  | some p => rfl
/-- what each act does and tells -/
def PA (what a q w : Nat) (μ : Mem) (cost : Nat) (v : Int32) (μ5 μ'' : Mem) : Prop :=
  (what = 0 → cost = 2 ∧ μ5 10 = μ 10 ∧ ∃ x, x < 8 ∧ v = nI x ∧ μ5 6 = upd (μ 6) a v) ∧
  (what = 9 → (v = -1 ∧ cost = 3 ∧ μ5 10 = μ 10 ∧ μ5 6 = μ 6) ∨ ∃ l t, l < pcN μ ∧ v = nI l ∧ μ 10 a = nI t ∧ ((l = a ∧ cost = 0) ∨ (l ≠ a ∧ cost = 3)) ∧ μ5 10 = upd (μ 10) l (if μ 10 l ≤ nI (t + 10) then nI (t + 10) else μ 10 l) ∧ μ5 6 = upd (μ 6) l 0 ∧ μ5 9 l = 10) ∧
  (what = 10 → cost = 2 ∧ v = μ'' 9 a) ∧ (1 ≤ what → what ≤ 8 → cost = 1) ∧ (what ≠ 0 → what ≠ 9 → μ5 10 = μ 10 ∧ μ5 6 = μ 6) ∧
  (what = 1 ∨ what = 2 → ∃ rm hb, rm < 8 ∧ μ 6 a = nI rm ∧ v = nI (sr hb 0 (pcN μ)) ∧ ∀ j, j < pcN μ → Hd μ μ'' a rm (if what = 2 then 1 else 0) (nI w) hb j) ∧
  (3 ≤ what → what ≤ 5 → v = μ'' 11 (a * 5 + q)) ∧ (6 ≤ what → what ≤ 8 → v = μ'' 7 a)
theorem acts_0 (ρ : Mem) (a1 a2 : Int32) : f_L_acts ρ (nI 0) a1 a2 = WR ρ (f_X5_go ρ a1) := by
  unfold f_L_acts
  rw [if_pos (by decide)]
  rfl
theorem acts_1 (ρ : Mem) (a1 a2 : Int32) : f_L_acts ρ (nI 1) a1 a2 = WR ρ (f_X5_say ρ a2) := by
  unfold f_L_acts
  rw [if_neg (by decide)]
  rw [if_pos (by decide)]
  rfl
theorem acts_2 (ρ : Mem) (a1 a2 : Int32) : f_L_acts ρ (nI 2) a1 a2 = WR ρ (f_X5_shout ρ a2) := by
  unfold f_L_acts
  rw [if_neg (by decide)]
  rw [if_neg (by decide)]
  rw [if_pos (by decide)]
  rfl
theorem acts_3 (ρ : Mem) (a1 a2 : Int32) : f_L_acts ρ (nI 3) a1 a2 = WR ρ (f_X5_take ρ a1) := by
  unfold f_L_acts
  rw [if_neg (by decide)]
  rw [if_neg (by decide)]
  rw [if_neg (by decide)]
  rw [if_pos (by decide)]
  rfl
theorem acts_4 (ρ : Mem) (a1 a2 : Int32) : f_L_acts ρ (nI 4) a1 a2 = WR ρ (f_X5_drop ρ a1) := by
  unfold f_L_acts
  rw [if_neg (by decide)]
  rw [if_neg (by decide)]
  rw [if_neg (by decide)]
  rw [if_neg (by decide)]
  rw [if_pos (by decide)]
  rfl
theorem acts_5 (ρ : Mem) (a1 a2 : Int32) : f_L_acts ρ (nI 5) a1 a2 = WR ρ (f_X5_give ρ a2 a1) := by
  unfold f_L_acts
  rw [if_neg (by decide)]
  rw [if_neg (by decide)]
  rw [if_neg (by decide)]
  rw [if_neg (by decide)]
  rw [if_neg (by decide)]
  rw [if_pos (by decide)]
  rfl
theorem acts_6 (ρ : Mem) (a1 a2 : Int32) : f_L_acts ρ (nI 6) a1 a2 = WR ρ (f_X5_pay ρ a1 a2) := by
  unfold f_L_acts
  rw [if_neg (by decide)]
  rw [if_neg (by decide)]
  rw [if_neg (by decide)]
  rw [if_neg (by decide)]
  rw [if_neg (by decide)]
  rw [if_neg (by decide)]
  rw [if_pos (by decide)]
  rfl
theorem acts_7 (ρ : Mem) (a1 a2 : Int32) : f_L_acts ρ (nI 7) a1 a2 = WR ρ (f_X5_buy ρ a1) := by
  unfold f_L_acts
  rw [if_neg (by decide)]
  rw [if_neg (by decide)]
  rw [if_neg (by decide)]
  rw [if_neg (by decide)]
  rw [if_neg (by decide)]
  rw [if_neg (by decide)]
  rw [if_neg (by decide)]
  rw [if_pos (by decide)]
  rfl
theorem acts_8 (ρ : Mem) (a1 a2 : Int32) : f_L_acts ρ (nI 8) a1 a2 = WR ρ (f_X5_sell ρ a1) := by
  unfold f_L_acts
  rw [if_neg (by decide)]
  rw [if_neg (by decide)]
  rw [if_neg (by decide)]
  rw [if_neg (by decide)]
  rw [if_neg (by decide)]
  rw [if_neg (by decide)]
  rw [if_neg (by decide)]
  rw [if_neg (by decide)]
  rw [if_pos (by decide)]
  rfl
theorem acts_9 (ρ : Mem) (a1 a2 : Int32) : f_L_acts ρ (nI 9) a1 a2 = WR ρ (f_X5_attack ρ a1) := by
  unfold f_L_acts
  rw [if_neg (by decide)]
  rw [if_neg (by decide)]
  rw [if_neg (by decide)]
  rw [if_neg (by decide)]
  rw [if_neg (by decide)]
  rw [if_neg (by decide)]
  rw [if_neg (by decide)]
  rw [if_neg (by decide)]
  rw [if_neg (by decide)]
  rw [if_pos (by decide)]
  rfl
theorem acts_10 (ρ : Mem) (a1 a2 : Int32) : f_L_acts ρ (nI 10) a1 a2 = WR ρ (f_X5_rest ρ) := by
  unfold f_L_acts
  rw [if_neg (by decide)]
  rw [if_neg (by decide)]
  rw [if_neg (by decide)]
  rw [if_neg (by decide)]
  rw [if_neg (by decide)]
  rw [if_neg (by decide)]
  rw [if_neg (by decide)]
  rw [if_neg (by decide)]
  rw [if_neg (by decide)]
  rw [if_neg (by decide)]
  rfl
def X1 (what x : Nat) : Nat := if what = 0 ∨ what = 6 ∨ what = 9 then x % 4 else x % 5
def Y1 (what y : Nat) : Nat := if what = 6 then 1 + y % 40 else if what = 5 then y % 4 else y % 30
theorem acts_ok {c a T : Nat} {ρ μ : Mem} {M : Nat → Mem} (S : SX c ρ μ M) (A : AC c a T μ) (x y : Nat) : ∀ what, what ≤ 10 → AO c a ρ μ M (f_L_acts ρ (nI what) (nI (X1 what x)) (nI (Y1 what y))) (PA what a (x % 5) (y % 30) μ) := by
  have hc : c < 512 := A.2.2.1
  have B := S.beg hc
  obtain ⟨⟨rm, rm1, rm2⟩, -⟩ := A.1.pl A.2.2.2.2.2.2.1
  intro what hw
  rcases (show what = 0 ∨ what = 1 ∨ what = 2 ∨ what = 3 ∨ what = 4 ∨ what = 5 ∨ what = 6 ∨ what = 7 ∨ what = 8 ∨ what = 9 ∨ what = 10 by omega) with rfl | rfl | rfl | rfl | rfl | rfl | rfl | rfl | rfl | rfl | rfl
  · rw [acts_0]
    refine wr_ok S (AL2.imp (act_op S hc ok13_0 (op_go B _) (sem_go A (d := x % 4) (by omega))) fun cost v μ5 μ3 h => ⟨fun _ => h, fun z => absurd z (by decide), fun z => absurd z (by decide), fun z _ => absurd z (by decide), fun z => absurd rfl z, fun z => absurd z (by decide), fun z _ => absurd z (by decide), fun z _ => absurd z (by decide)⟩)
  · rw [acts_1]
    have hs := sem_speaks A (w := y % 30) (by omega) (loud := 0) (Or.inl rfl) rm1 rm2
    rw [← say_eq] at hs
    refine wr_ok S (AL2.imp (act_op S hc ok23_0 (op_say B _) hs) fun cost v μ5 μ3 h => ⟨fun z => absurd z (by decide), fun z => absurd z (by decide), fun z => absurd z (by decide), fun _ _ => h.1, fun _ _ => ⟨h.2.1, h.2.2.1⟩, fun _ => ?_, fun z _ => absurd z (by decide), fun z _ => absurd z (by decide)⟩)
    obtain ⟨hb, b1, b2⟩ := h.2.2.2
    exact ⟨rm, hb, rm1, rm2, b1, b2⟩
  · rw [acts_2]
    have hs := sem_speaks A (w := y % 30) (by omega) (loud := 1) (Or.inr rfl) rm1 rm2
    rw [← shout_eq] at hs
    refine wr_ok S (AL2.imp (act_op S hc ok23_0 (op_shout B _) hs) fun cost v μ5 μ3 h => ⟨fun z => absurd z (by decide), fun z => absurd z (by decide), fun z => absurd z (by decide), fun _ _ => h.1, fun _ _ => ⟨h.2.1, h.2.2.1⟩, fun _ => ?_, fun z _ => absurd z (by decide), fun z _ => absurd z (by decide)⟩)
    obtain ⟨hb, b1, b2⟩ := h.2.2.2
    exact ⟨rm, hb, rm1, rm2, b1, b2⟩
  · rw [acts_3]
    refine wr_ok S (AL2.imp (act_op S hc ok13_0 (op_take B _) (sem_take A (q := x % 5) (by omega))) fun cost v μ5 μ3 h => ⟨fun z => absurd z (by decide), fun z => absurd z (by decide), fun z => absurd z (by decide), fun _ _ => h.1, fun _ _ => ⟨h.2.1, h.2.2.1⟩, fun z => absurd z (by decide), fun _ _ => h.2.2.2, fun z _ => absurd z (by decide)⟩)
  · rw [acts_4]
    refine wr_ok S (AL2.imp (act_op S hc ok13_0 (op_drop B _) (sem_drop A (q := x % 5) (by omega))) fun cost v μ5 μ3 h => ⟨fun z => absurd z (by decide), fun z => absurd z (by decide), fun z => absurd z (by decide), fun _ _ => h.1, fun _ _ => ⟨h.2.1, h.2.2.1⟩, fun z => absurd z (by decide), fun _ _ => h.2.2.2, fun z _ => absurd z (by decide)⟩)
  · rw [acts_5]
    refine wr_ok S (AL2.imp (act_op S hc ok13_0 (op_give B _ _) (sem_give A (pl := y % 4) (q := x % 5) (by omega) (by omega))) fun cost v μ5 μ3 h => ⟨fun z => absurd z (by decide), fun z => absurd z (by decide), fun z => absurd z (by decide), fun _ _ => h.1, fun _ _ => ⟨h.2.1, h.2.2.1⟩, fun z => absurd z (by decide), fun _ _ => h.2.2.2, fun z _ => absurd z (by decide)⟩)
  · rw [acts_6]
    refine wr_ok S (AL2.imp (act_op S hc ok123_0 (op_pay B _ _) (sem_pay A (pl := x % 4) (d := 1 + y % 40) (by omega) (by omega) (by omega))) fun cost v μ5 μ3 h => ⟨fun z => absurd z (by decide), fun z => absurd z (by decide), fun z => absurd z (by decide), fun _ _ => h.1, fun _ _ => ⟨h.2.1, h.2.2.1⟩, fun z => absurd z (by decide), fun _ z => absurd z (by decide), fun _ _ => h.2.2.2⟩)
  · rw [acts_7]
    refine wr_ok S (AL2.imp (act_op S hc ok13_0 (op_buy B _) (sem_buy A (q := x % 5) (by omega))) fun cost v μ5 μ3 h => ⟨fun z => absurd z (by decide), fun z => absurd z (by decide), fun z => absurd z (by decide), fun _ _ => h.1, fun _ _ => ⟨h.2.1, h.2.2.1⟩, fun z => absurd z (by decide), fun _ z => absurd z (by decide), fun _ _ => h.2.2.2⟩)
  · rw [acts_8]
    refine wr_ok S (AL2.imp (act_op S hc ok13_0 (op_sell B _) (sem_sell A (q := x % 5) (by omega))) fun cost v μ5 μ3 h => ⟨fun z => absurd z (by decide), fun z => absurd z (by decide), fun z => absurd z (by decide), fun _ _ => h.1, fun _ _ => ⟨h.2.1, h.2.2.1⟩, fun z => absurd z (by decide), fun _ z => absurd z (by decide), fun _ _ => h.2.2.2⟩)
  · rw [acts_9]
    refine wr_ok S (AL2.imp (act_op S hc ok13_0 (op_attack B _) (sem_attack A (pl := x % 4) (by omega))) fun cost v μ5 μ3 h => ⟨fun z => absurd z (by decide), fun _ => h, fun z => absurd z (by decide), fun _ z => absurd z (by decide), fun _ z => absurd rfl z, fun z => absurd z (by decide), fun _ z => absurd z (by decide), fun _ z => absurd z (by decide)⟩)
  · rw [acts_10]
    refine wr_ok S (AL2.imp (act_op S hc ok3_0 (op_rest B) (sem_rest A)) fun cost v μ5 μ3 h => ⟨fun z => absurd z (by decide), fun z => absurd z (by decide), fun _ => ⟨h.1, h.2.2.2⟩, fun _ z => absurd z (by decide), fun _ _ => ⟨h.2.1, h.2.2.1⟩, fun z => absurd z (by decide), fun _ z => absurd z (by decide), fun _ z => absurd z (by decide)⟩)
