/-! THE RELATION of a world of the class, σ, to the reference's memory, μ: what counts of each -/
abbrev pcN (μ : Mem) : Nat := (μ 0 5).toNatClampNeg
abbrev qcN (μ : Mem) : Nat := (μ 0 16).toNatClampNeg
def RW (σ μ : Mem) : Prop :=
  ((∀ i, i < 32 → σ 2 i = μ 1 i) ∧ (∀ i, i < 8 → σ 3 i = μ 3 i) ∧ (∀ i, i < 40 → σ 4 i = μ 4 i) ∧ (∀ i, i < 40 → σ 5 i = μ 5 i) ∧ (∀ i, i < 40 → σ 6 i = μ 2 i)) ∧
  (σ 8 0 = μ 0 5 ∧ ∀ i, i < pcN μ → σ 9 i = μ 6 i ∧ σ 10 i = μ 7 i ∧ σ 11 i = μ 8 i ∧ σ 12 i = μ 9 i ∧ σ 13 i = μ 10 i) ∧
  ((∀ i, i < 20 → σ 14 i = μ 11 i) ∧ (∀ i, i < 12 → σ 15 i = μ 19 i) ∧ (∀ i, i < 4 → σ 17 i = μ 12 i) ∧ ∀ i a, i < 4 → a < (μ 12 i).toNatClampNeg → σ 16 (i * 6 + a) = μ 13 (i * 6 + a)) ∧
  (σ 0 3 = μ 0 14 ∧ σ 0 4 = μ 0 15) ∧
  (σ 18 0 = μ 0 16 ∧ ∀ i, i < qcN μ → σ 19 i = μ 14 i ∧ σ 20 i = μ 15 i ∧ ∀ a, a < (μ 15 i).toNatClampNeg → σ 21 (i * 4 + a) = μ 16 (i * 4 + a) ∧ σ 22 (i * 4 + a) = μ 17 (i * 4 + a) ∧ σ 23 (i * 4 + a) = μ 18 (i * 4 + a))
theorem RW.exits {σ μ : Mem} (h : RW σ μ) (i : Nat) (v : Int32) : RW (mu σ 2 i v) (mu μ 1 i v) := by
  obtain ⟨⟨a1, a2, a3, a4, a5⟩, ⟨b0, b⟩, ⟨c1, c2, c3, c4⟩, ⟨d1, d2⟩, ⟨e0, e⟩⟩ := h
  unfold RW pcN qcN
  simp only [mu, upd, reduceIte, Nat.reduceEqDiff, Nat.zero_ne_one, Nat.one_ne_zero]
  refine ⟨⟨?_, ?_, ?_, ?_, ?_⟩, ⟨b0, ?_⟩, ⟨?_, ?_, ?_, ?_⟩, ⟨d1, d2⟩, ⟨e0, ?_⟩⟩
  all_goals first | assumption | (intro j hj; split <;> first | rfl | (first | exact a1 j hj | exact a2 j hj | exact a3 j hj | exact a4 j hj | exact a5 j hj | exact c1 j hj | exact c2 j hj | exact c3 j hj)) | (intro j hj; obtain ⟨f1, f2, f3, f4, f5⟩ := b j hj; refine ⟨?_, ?_, ?_, ?_, ?_⟩ <;> first | assumption | (split <;> first | rfl | assumption))
theorem RW.till {σ μ : Mem} (h : RW σ μ) (i : Nat) (v : Int32) : RW (mu σ 3 i v) (mu μ 3 i v) := by
  obtain ⟨⟨a1, a2, a3, a4, a5⟩, ⟨b0, b⟩, ⟨c1, c2, c3, c4⟩, ⟨d1, d2⟩, ⟨e0, e⟩⟩ := h
  unfold RW pcN qcN
  simp only [mu, upd, reduceIte, Nat.reduceEqDiff, Nat.zero_ne_one, Nat.one_ne_zero]
  refine ⟨⟨?_, ?_, ?_, ?_, ?_⟩, ⟨b0, ?_⟩, ⟨?_, ?_, ?_, ?_⟩, ⟨d1, d2⟩, ⟨e0, ?_⟩⟩
  all_goals first | assumption | (intro j hj; split <;> first | rfl | (first | exact a1 j hj | exact a2 j hj | exact a3 j hj | exact a4 j hj | exact a5 j hj | exact c1 j hj | exact c2 j hj | exact c3 j hj)) | (intro j hj; obtain ⟨f1, f2, f3, f4, f5⟩ := b j hj; refine ⟨?_, ?_, ?_, ?_, ?_⟩ <;> first | assumption | (split <;> first | rfl | assumption))
theorem RW.price {σ μ : Mem} (h : RW σ μ) (i : Nat) (v : Int32) : RW (mu σ 4 i v) (mu μ 4 i v) := by
  obtain ⟨⟨a1, a2, a3, a4, a5⟩, ⟨b0, b⟩, ⟨c1, c2, c3, c4⟩, ⟨d1, d2⟩, ⟨e0, e⟩⟩ := h
  unfold RW pcN qcN
  simp only [mu, upd, reduceIte, Nat.reduceEqDiff, Nat.zero_ne_one, Nat.one_ne_zero]
  refine ⟨⟨?_, ?_, ?_, ?_, ?_⟩, ⟨b0, ?_⟩, ⟨?_, ?_, ?_, ?_⟩, ⟨d1, d2⟩, ⟨e0, ?_⟩⟩
  all_goals first | assumption | (intro j hj; split <;> first | rfl | (first | exact a1 j hj | exact a2 j hj | exact a3 j hj | exact a4 j hj | exact a5 j hj | exact c1 j hj | exact c2 j hj | exact c3 j hj)) | (intro j hj; obtain ⟨f1, f2, f3, f4, f5⟩ := b j hj; refine ⟨?_, ?_, ?_, ?_, ?_⟩ <;> first | assumption | (split <;> first | rfl | assumption))
theorem RW.stock {σ μ : Mem} (h : RW σ μ) (i : Nat) (v : Int32) : RW (mu σ 5 i v) (mu μ 5 i v) := by
  obtain ⟨⟨a1, a2, a3, a4, a5⟩, ⟨b0, b⟩, ⟨c1, c2, c3, c4⟩, ⟨d1, d2⟩, ⟨e0, e⟩⟩ := h
  unfold RW pcN qcN
  simp only [mu, upd, reduceIte, Nat.reduceEqDiff, Nat.zero_ne_one, Nat.one_ne_zero]
  refine ⟨⟨?_, ?_, ?_, ?_, ?_⟩, ⟨b0, ?_⟩, ⟨?_, ?_, ?_, ?_⟩, ⟨d1, d2⟩, ⟨e0, ?_⟩⟩
  all_goals first | assumption | (intro j hj; split <;> first | rfl | (first | exact a1 j hj | exact a2 j hj | exact a3 j hj | exact a4 j hj | exact a5 j hj | exact c1 j hj | exact c2 j hj | exact c3 j hj)) | (intro j hj; obtain ⟨f1, f2, f3, f4, f5⟩ := b j hj; refine ⟨?_, ?_, ?_, ?_, ?_⟩ <;> first | assumption | (split <;> first | rfl | assumption))
theorem RW.floor {σ μ : Mem} (h : RW σ μ) (i : Nat) (v : Int32) : RW (mu σ 6 i v) (mu μ 2 i v) := by
  obtain ⟨⟨a1, a2, a3, a4, a5⟩, ⟨b0, b⟩, ⟨c1, c2, c3, c4⟩, ⟨d1, d2⟩, ⟨e0, e⟩⟩ := h
  unfold RW pcN qcN
  simp only [mu, upd, reduceIte, Nat.reduceEqDiff, Nat.zero_ne_one, Nat.one_ne_zero]
  refine ⟨⟨?_, ?_, ?_, ?_, ?_⟩, ⟨b0, ?_⟩, ⟨?_, ?_, ?_, ?_⟩, ⟨d1, d2⟩, ⟨e0, ?_⟩⟩
  all_goals first | assumption | (intro j hj; split <;> first | rfl | (first | exact a1 j hj | exact a2 j hj | exact a3 j hj | exact a4 j hj | exact a5 j hj | exact c1 j hj | exact c2 j hj | exact c3 j hj)) | (intro j hj; obtain ⟨f1, f2, f3, f4, f5⟩ := b j hj; refine ⟨?_, ?_, ?_, ?_, ?_⟩ <;> first | assumption | (split <;> first | rfl | assumption))
theorem RW.room {σ μ : Mem} (h : RW σ μ) (i : Nat) (v : Int32) : RW (mu σ 9 i v) (mu μ 6 i v) := by
  obtain ⟨⟨a1, a2, a3, a4, a5⟩, ⟨b0, b⟩, ⟨c1, c2, c3, c4⟩, ⟨d1, d2⟩, ⟨e0, e⟩⟩ := h
  unfold RW pcN qcN
  simp only [mu, upd, reduceIte, Nat.reduceEqDiff, Nat.zero_ne_one, Nat.one_ne_zero]
  refine ⟨⟨?_, ?_, ?_, ?_, ?_⟩, ⟨b0, ?_⟩, ⟨?_, ?_, ?_, ?_⟩, ⟨d1, d2⟩, ⟨e0, ?_⟩⟩
  all_goals first | assumption | (intro j hj; split <;> first | rfl | (first | exact a1 j hj | exact a2 j hj | exact a3 j hj | exact a4 j hj | exact a5 j hj | exact c1 j hj | exact c2 j hj | exact c3 j hj)) | (intro j hj; obtain ⟨f1, f2, f3, f4, f5⟩ := b j hj; refine ⟨?_, ?_, ?_, ?_, ?_⟩ <;> first | assumption | (split <;> first | rfl | assumption))
theorem RW.coins {σ μ : Mem} (h : RW σ μ) (i : Nat) (v : Int32) : RW (mu σ 10 i v) (mu μ 7 i v) := by
  obtain ⟨⟨a1, a2, a3, a4, a5⟩, ⟨b0, b⟩, ⟨c1, c2, c3, c4⟩, ⟨d1, d2⟩, ⟨e0, e⟩⟩ := h
  unfold RW pcN qcN
  simp only [mu, upd, reduceIte, Nat.reduceEqDiff, Nat.zero_ne_one, Nat.one_ne_zero]
  refine ⟨⟨?_, ?_, ?_, ?_, ?_⟩, ⟨b0, ?_⟩, ⟨?_, ?_, ?_, ?_⟩, ⟨d1, d2⟩, ⟨e0, ?_⟩⟩
  all_goals first | assumption | (intro j hj; split <;> first | rfl | (first | exact a1 j hj | exact a2 j hj | exact a3 j hj | exact a4 j hj | exact a5 j hj | exact c1 j hj | exact c2 j hj | exact c3 j hj)) | (intro j hj; obtain ⟨f1, f2, f3, f4, f5⟩ := b j hj; refine ⟨?_, ?_, ?_, ?_, ?_⟩ <;> first | assumption | (split <;> first | rfl | assumption))
theorem RW.strength {σ μ : Mem} (h : RW σ μ) (i : Nat) (v : Int32) : RW (mu σ 11 i v) (mu μ 8 i v) := by
  obtain ⟨⟨a1, a2, a3, a4, a5⟩, ⟨b0, b⟩, ⟨c1, c2, c3, c4⟩, ⟨d1, d2⟩, ⟨e0, e⟩⟩ := h
  unfold RW pcN qcN
  simp only [mu, upd, reduceIte, Nat.reduceEqDiff, Nat.zero_ne_one, Nat.one_ne_zero]
  refine ⟨⟨?_, ?_, ?_, ?_, ?_⟩, ⟨b0, ?_⟩, ⟨?_, ?_, ?_, ?_⟩, ⟨d1, d2⟩, ⟨e0, ?_⟩⟩
  all_goals first | assumption | (intro j hj; split <;> first | rfl | (first | exact a1 j hj | exact a2 j hj | exact a3 j hj | exact a4 j hj | exact a5 j hj | exact c1 j hj | exact c2 j hj | exact c3 j hj)) | (intro j hj; obtain ⟨f1, f2, f3, f4, f5⟩ := b j hj; refine ⟨?_, ?_, ?_, ?_, ?_⟩ <;> first | assumption | (split <;> first | rfl | assumption))
theorem RW.health {σ μ : Mem} (h : RW σ μ) (i : Nat) (v : Int32) : RW (mu σ 12 i v) (mu μ 9 i v) := by
  obtain ⟨⟨a1, a2, a3, a4, a5⟩, ⟨b0, b⟩, ⟨c1, c2, c3, c4⟩, ⟨d1, d2⟩, ⟨e0, e⟩⟩ := h
  unfold RW pcN qcN
  simp only [mu, upd, reduceIte, Nat.reduceEqDiff, Nat.zero_ne_one, Nat.one_ne_zero]
  refine ⟨⟨?_, ?_, ?_, ?_, ?_⟩, ⟨b0, ?_⟩, ⟨?_, ?_, ?_, ?_⟩, ⟨d1, d2⟩, ⟨e0, ?_⟩⟩
  all_goals first | assumption | (intro j hj; split <;> first | rfl | (first | exact a1 j hj | exact a2 j hj | exact a3 j hj | exact a4 j hj | exact a5 j hj | exact c1 j hj | exact c2 j hj | exact c3 j hj)) | (intro j hj; obtain ⟨f1, f2, f3, f4, f5⟩ := b j hj; refine ⟨?_, ?_, ?_, ?_, ?_⟩ <;> first | assumption | (split <;> first | rfl | assumption))
theorem RW.ready {σ μ : Mem} (h : RW σ μ) (i : Nat) (v : Int32) : RW (mu σ 13 i v) (mu μ 10 i v) := by
  obtain ⟨⟨a1, a2, a3, a4, a5⟩, ⟨b0, b⟩, ⟨c1, c2, c3, c4⟩, ⟨d1, d2⟩, ⟨e0, e⟩⟩ := h
  unfold RW pcN qcN
  simp only [mu, upd, reduceIte, Nat.reduceEqDiff, Nat.zero_ne_one, Nat.one_ne_zero]
  refine ⟨⟨?_, ?_, ?_, ?_, ?_⟩, ⟨b0, ?_⟩, ⟨?_, ?_, ?_, ?_⟩, ⟨d1, d2⟩, ⟨e0, ?_⟩⟩
  all_goals first | assumption | (intro j hj; split <;> first | rfl | (first | exact a1 j hj | exact a2 j hj | exact a3 j hj | exact a4 j hj | exact a5 j hj | exact c1 j hj | exact c2 j hj | exact c3 j hj)) | (intro j hj; obtain ⟨f1, f2, f3, f4, f5⟩ := b j hj; refine ⟨?_, ?_, ?_, ?_, ?_⟩ <;> first | assumption | (split <;> first | rfl | assumption))
theorem RW.goods {σ μ : Mem} (h : RW σ μ) (i : Nat) (v : Int32) : RW (mu σ 14 i v) (mu μ 11 i v) := by
  obtain ⟨⟨a1, a2, a3, a4, a5⟩, ⟨b0, b⟩, ⟨c1, c2, c3, c4⟩, ⟨d1, d2⟩, ⟨e0, e⟩⟩ := h
  unfold RW pcN qcN
  simp only [mu, upd, reduceIte, Nat.reduceEqDiff, Nat.zero_ne_one, Nat.one_ne_zero]
  refine ⟨⟨?_, ?_, ?_, ?_, ?_⟩, ⟨b0, ?_⟩, ⟨?_, ?_, ?_, ?_⟩, ⟨d1, d2⟩, ⟨e0, ?_⟩⟩
  all_goals first | assumption | (intro j hj; split <;> first | rfl | (first | exact a1 j hj | exact a2 j hj | exact a3 j hj | exact a4 j hj | exact a5 j hj | exact c1 j hj | exact c2 j hj | exact c3 j hj)) | (intro j hj; obtain ⟨f1, f2, f3, f4, f5⟩ := b j hj; refine ⟨?_, ?_, ?_, ?_, ?_⟩ <;> first | assumption | (split <;> first | rfl | assumption))
theorem RW.reached {σ μ : Mem} (h : RW σ μ) (i : Nat) (v : Int32) : RW (mu σ 15 i v) (mu μ 19 i v) := by
  obtain ⟨⟨a1, a2, a3, a4, a5⟩, ⟨b0, b⟩, ⟨c1, c2, c3, c4⟩, ⟨d1, d2⟩, ⟨e0, e⟩⟩ := h
  unfold RW pcN qcN
  simp only [mu, upd, reduceIte, Nat.reduceEqDiff, Nat.zero_ne_one, Nat.one_ne_zero]
  refine ⟨⟨?_, ?_, ?_, ?_, ?_⟩, ⟨b0, ?_⟩, ⟨?_, ?_, ?_, ?_⟩, ⟨d1, d2⟩, ⟨e0, ?_⟩⟩
  all_goals first | assumption | (intro j hj; split <;> first | rfl | (first | exact a1 j hj | exact a2 j hj | exact a3 j hj | exact a4 j hj | exact a5 j hj | exact c1 j hj | exact c2 j hj | exact c3 j hj)) | (intro j hj; obtain ⟨f1, f2, f3, f4, f5⟩ := b j hj; refine ⟨?_, ?_, ?_, ?_, ?_⟩ <;> first | assumption | (split <;> first | rfl | assumption))
