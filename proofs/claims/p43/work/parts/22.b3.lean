theorem RW.purse {σ μ : Mem} (h : RW σ μ) (v : Int32) : RW (mu σ 0 3 v) (mu μ 0 14 v) := by
  obtain ⟨⟨a1, a2, a3, a4, a5⟩, ⟨b0, b⟩, ⟨c1, c2, c3, c4⟩, ⟨d1, d2⟩, ⟨e0, e⟩⟩ := h
  unfold RW pcN qcN
  simp only [mu, upd, reduceIte, Nat.reduceEqDiff, Nat.zero_ne_one, Nat.one_ne_zero]
  exact ⟨⟨a1, a2, a3, a4, a5⟩, ⟨b0, b⟩, ⟨c1, c2, c3, c4⟩, ⟨trivial, d2⟩, ⟨e0, e⟩⟩
theorem RW.seed {σ μ : Mem} (h : RW σ μ) (v : Int32) : RW (mu σ 0 4 v) (mu μ 0 15 v) := by
  obtain ⟨⟨a1, a2, a3, a4, a5⟩, ⟨b0, b⟩, ⟨c1, c2, c3, c4⟩, ⟨d1, d2⟩, ⟨e0, e⟩⟩ := h
  unfold RW pcN qcN
  simp only [mu, upd, reduceIte, Nat.reduceEqDiff, Nat.zero_ne_one, Nat.one_ne_zero]
  exact ⟨⟨a1, a2, a3, a4, a5⟩, ⟨b0, b⟩, ⟨c1, c2, c3, c4⟩, ⟨d1, trivial⟩, ⟨e0, e⟩⟩
theorem RW.thrown {σ μ : Mem} (h : RW σ μ) (v : Int32) : RW σ (mu μ 0 29 v) := by
  obtain ⟨⟨a1, a2, a3, a4, a5⟩, ⟨b0, b⟩, ⟨c1, c2, c3, c4⟩, ⟨d1, d2⟩, ⟨e0, e⟩⟩ := h
  unfold RW pcN qcN
  simp only [mu, upd, reduceIte, Nat.reduceEqDiff, Nat.zero_ne_one, Nat.one_ne_zero]
  exact ⟨⟨a1, a2, a3, a4, a5⟩, ⟨b0, b⟩, ⟨c1, c2, c3, c4⟩, ⟨d1, d2⟩, ⟨e0, e⟩⟩
theorem RW.calls {σ μ : Mem} (h : RW σ μ) (v : Int32) : RW σ (mu μ 0 23 v) := by
  obtain ⟨⟨a1, a2, a3, a4, a5⟩, ⟨b0, b⟩, ⟨c1, c2, c3, c4⟩, ⟨d1, d2⟩, ⟨e0, e⟩⟩ := h
  unfold RW pcN qcN
  simp only [mu, upd, reduceIte, Nat.reduceEqDiff, Nat.zero_ne_one, Nat.one_ne_zero]
  exact ⟨⟨a1, a2, a3, a4, a5⟩, ⟨b0, b⟩, ⟨c1, c2, c3, c4⟩, ⟨d1, d2⟩, ⟨e0, e⟩⟩
theorem RW.h20 {σ μ : Mem} (h : RW σ μ) (i : Nat) (v : Int32) : RW σ (mu μ 20 i v) := by
  obtain ⟨⟨a1, a2, a3, a4, a5⟩, ⟨b0, b⟩, ⟨c1, c2, c3, c4⟩, ⟨d1, d2⟩, ⟨e0, e⟩⟩ := h
  unfold RW pcN qcN
  simp only [mu, upd, reduceIte, Nat.reduceEqDiff, Nat.zero_ne_one, Nat.one_ne_zero]
  exact ⟨⟨a1, a2, a3, a4, a5⟩, ⟨b0, b⟩, ⟨c1, c2, c3, c4⟩, ⟨d1, d2⟩, ⟨e0, e⟩⟩
theorem RW.h21 {σ μ : Mem} (h : RW σ μ) (i : Nat) (v : Int32) : RW σ (mu μ 21 i v) := by
  obtain ⟨⟨a1, a2, a3, a4, a5⟩, ⟨b0, b⟩, ⟨c1, c2, c3, c4⟩, ⟨d1, d2⟩, ⟨e0, e⟩⟩ := h
  unfold RW pcN qcN
  simp only [mu, upd, reduceIte, Nat.reduceEqDiff, Nat.zero_ne_one, Nat.one_ne_zero]
  exact ⟨⟨a1, a2, a3, a4, a5⟩, ⟨b0, b⟩, ⟨c1, c2, c3, c4⟩, ⟨d1, d2⟩, ⟨e0, e⟩⟩
theorem RW.h22 {σ μ : Mem} (h : RW σ μ) (i : Nat) (v : Int32) : RW σ (mu μ 22 i v) := by
  obtain ⟨⟨a1, a2, a3, a4, a5⟩, ⟨b0, b⟩, ⟨c1, c2, c3, c4⟩, ⟨d1, d2⟩, ⟨e0, e⟩⟩ := h
  unfold RW pcN qcN
  simp only [mu, upd, reduceIte, Nat.reduceEqDiff, Nat.zero_ne_one, Nat.one_ne_zero]
  exact ⟨⟨a1, a2, a3, a4, a5⟩, ⟨b0, b⟩, ⟨c1, c2, c3, c4⟩, ⟨d1, d2⟩, ⟨e0, e⟩⟩
theorem RW.h23 {σ μ : Mem} (h : RW σ μ) (i : Nat) (v : Int32) : RW σ (mu μ 23 i v) := by
  obtain ⟨⟨a1, a2, a3, a4, a5⟩, ⟨b0, b⟩, ⟨c1, c2, c3, c4⟩, ⟨d1, d2⟩, ⟨e0, e⟩⟩ := h
  unfold RW pcN qcN
  simp only [mu, upd, reduceIte, Nat.reduceEqDiff, Nat.zero_ne_one, Nat.one_ne_zero]
  exact ⟨⟨a1, a2, a3, a4, a5⟩, ⟨b0, b⟩, ⟨c1, c2, c3, c4⟩, ⟨d1, d2⟩, ⟨e0, e⟩⟩
theorem RW.h24 {σ μ : Mem} (h : RW σ μ) (i : Nat) (v : Int32) : RW σ (mu μ 24 i v) := by
  obtain ⟨⟨a1, a2, a3, a4, a5⟩, ⟨b0, b⟩, ⟨c1, c2, c3, c4⟩, ⟨d1, d2⟩, ⟨e0, e⟩⟩ := h
  unfold RW pcN qcN
  simp only [mu, upd, reduceIte, Nat.reduceEqDiff, Nat.zero_ne_one, Nat.one_ne_zero]
  exact ⟨⟨a1, a2, a3, a4, a5⟩, ⟨b0, b⟩, ⟨c1, c2, c3, c4⟩, ⟨d1, d2⟩, ⟨e0, e⟩⟩
theorem RW.steps {σ σ1 μ : Mem} (h : RW σ μ) (e1 : ∀ k, k < 24 → k ≠ 7 → σ1 k = σ k) : RW σ1 μ := by
  obtain ⟨⟨a1, a2, a3, a4, a5⟩, ⟨b0, b⟩, ⟨c1, c2, c3, c4⟩, ⟨d1, d2⟩, ⟨e0, e⟩⟩ := h
  unfold RW pcN qcN
  rw [e1 2 (by omega) (by omega), e1 3 (by omega) (by omega), e1 4 (by omega) (by omega), e1 5 (by omega) (by omega), e1 6 (by omega) (by omega), e1 8 (by omega) (by omega), e1 9 (by omega) (by omega), e1 10 (by omega) (by omega), e1 11 (by omega) (by omega), e1 12 (by omega) (by omega), e1 13 (by omega) (by omega), e1 14 (by omega) (by omega), e1 15 (by omega) (by omega), e1 17 (by omega) (by omega), e1 16 (by omega) (by omega), e1 0 (by omega) (by omega), e1 18 (by omega) (by omega), e1 19 (by omega) (by omega), e1 20 (by omega) (by omega), e1 21 (by omega) (by omega), e1 22 (by omega) (by omega), e1 23 (by omega) (by omega)]
  exact ⟨⟨a1, a2, a3, a4, a5⟩, ⟨b0, b⟩, ⟨c1, c2, c3, c4⟩, ⟨d1, d2⟩, ⟨e0, e⟩⟩
/-! WHAT ALWAYS HOLDS of the reference's memory: g, r bound goods and times -/
def IW (g r : Nat) (μ : Mem) : Prop :=
  (∃ np, np ≤ 4 ∧ μ 0 5 = nI np ∧ (∀ i, i < np → (∃ q, q < 8 ∧ μ 6 i = nI q) ∧ (∃ q, q ≤ 6 ∧ μ 8 i = nI q) ∧ ∃ q, 1 ≤ q ∧ q ≤ 20 ∧ μ 9 i = nI q) ∧ ∀ i, np ≤ i → i < 4 → μ 10 i = 0) ∧
  (∃ nq, nq ≤ 3 ∧ μ 0 16 = nI nq ∧ ∀ i, nq ≤ i → i < 3 → μ 15 i = 0) ∧
  (∀ i, i < 3 → ∃ L, L ≤ 4 ∧ μ 15 i = nI L ∧ ∀ t, t < L → ∃ k, k ≤ 3 ∧ μ 16 (i * 4 + t) = nI k ∧ (k = 1 → ∃ f, f < 5 ∧ μ 17 (i * 4 + t) = nI f)) ∧
  (∃ q, q < 65536 ∧ μ 0 15 = nI q) ∧
  (∀ i, i < 32 → μ 1 i = -1 ∨ ∃ q, q < 8 ∧ μ 1 i = nI q) ∧
  (∀ i, i < 40 → ∃ q, q ≤ 600 * g ∧ μ 2 i = nI q) ∧
  (∀ i, i < 40 → ∃ q, q ≤ 20 * g ∧ μ 5 i = nI q) ∧
  (∀ i, i < 20 → ∃ q, q ≤ g ∧ μ 11 i = nI q) ∧
  (∀ i, i < 4 → ∃ q, q ≤ r ∧ μ 10 i = nI q) ∧
  (∀ i, i < 4 → ∃ q, q ≤ 6 ∧ μ 12 i = nI q) ∧
  (∀ i, i < 12 → ∃ q, q ≤ 4 ∧ μ 19 i = nI q)
theorem IW.mono {g g' r r' : Nat} {μ : Mem} (h : IW g r μ) (hg : g ≤ g') (hr : r ≤ r') : IW g' r' μ := by
  obtain ⟨h1, h2, h3, h4, h5, h6, h7, h8, h9, h10, h11⟩ := h
  refine ⟨h1, h2, h3, h4, h5, fun i hi => ?_, fun i hi => ?_, fun i hi => ?_, fun i hi => ?_, h10, h11⟩
  · obtain ⟨q, a, b⟩ := h6 i hi; exact ⟨q, by omega, b⟩
  · obtain ⟨q, a, b⟩ := h7 i hi; exact ⟨q, by omega, b⟩
  · obtain ⟨q, a, b⟩ := h8 i hi; exact ⟨q, by omega, b⟩
  · obtain ⟨q, a, b⟩ := h9 i hi; exact ⟨q, by omega, b⟩
theorem IW.till {g r : Nat} {μ : Mem} (h : IW g r μ) (i : Nat) (v : Int32) : IW g r (mu μ 3 i v) := by
  obtain ⟨h1, h2, h3, h4, h5, h6, h7, h8, h9, h10, h11⟩ := h
  unfold IW
  simp only [mu, upd, reduceIte, Nat.reduceEqDiff, Nat.zero_ne_one, Nat.one_ne_zero]
  exact ⟨h1, h2, h3, h4, h5, h6, h7, h8, h9, h10, h11⟩
theorem IW.price {g r : Nat} {μ : Mem} (h : IW g r μ) (i : Nat) (v : Int32) : IW g r (mu μ 4 i v) := by
  obtain ⟨h1, h2, h3, h4, h5, h6, h7, h8, h9, h10, h11⟩ := h
  unfold IW
  simp only [mu, upd, reduceIte, Nat.reduceEqDiff, Nat.zero_ne_one, Nat.one_ne_zero]
  exact ⟨h1, h2, h3, h4, h5, h6, h7, h8, h9, h10, h11⟩
theorem IW.coins {g r : Nat} {μ : Mem} (h : IW g r μ) (i : Nat) (v : Int32) : IW g r (mu μ 7 i v) := by
  obtain ⟨h1, h2, h3, h4, h5, h6, h7, h8, h9, h10, h11⟩ := h
  unfold IW
  simp only [mu, upd, reduceIte, Nat.reduceEqDiff, Nat.zero_ne_one, Nat.one_ne_zero]
  exact ⟨h1, h2, h3, h4, h5, h6, h7, h8, h9, h10, h11⟩
theorem IW.heard {g r : Nat} {μ : Mem} (h : IW g r μ) (i : Nat) (v : Int32) : IW g r (mu μ 13 i v) := by
  obtain ⟨h1, h2, h3, h4, h5, h6, h7, h8, h9, h10, h11⟩ := h
  unfold IW
  simp only [mu, upd, reduceIte, Nat.reduceEqDiff, Nat.zero_ne_one, Nat.one_ne_zero]
  exact ⟨h1, h2, h3, h4, h5, h6, h7, h8, h9, h10, h11⟩
theorem IW.reward {g r : Nat} {μ : Mem} (h : IW g r μ) (i : Nat) (v : Int32) : IW g r (mu μ 14 i v) := by
  obtain ⟨h1, h2, h3, h4, h5, h6, h7, h8, h9, h10, h11⟩ := h
  unfold IW
  simp only [mu, upd, reduceIte, Nat.reduceEqDiff, Nat.zero_ne_one, Nat.one_ne_zero]
  exact ⟨h1, h2, h3, h4, h5, h6, h7, h8, h9, h10, h11⟩
theorem IW.stageSecond {g r : Nat} {μ : Mem} (h : IW g r μ) (i : Nat) (v : Int32) : IW g r (mu μ 18 i v) := by
  obtain ⟨h1, h2, h3, h4, h5, h6, h7, h8, h9, h10, h11⟩ := h
  unfold IW
  simp only [mu, upd, reduceIte, Nat.reduceEqDiff, Nat.zero_ne_one, Nat.one_ne_zero]
  exact ⟨h1, h2, h3, h4, h5, h6, h7, h8, h9, h10, h11⟩
theorem IW.h20 {g r : Nat} {μ : Mem} (h : IW g r μ) (i : Nat) (v : Int32) : IW g r (mu μ 20 i v) := by
  obtain ⟨h1, h2, h3, h4, h5, h6, h7, h8, h9, h10, h11⟩ := h
  unfold IW
  simp only [mu, upd, reduceIte, Nat.reduceEqDiff, Nat.zero_ne_one, Nat.one_ne_zero]
  exact ⟨h1, h2, h3, h4, h5, h6, h7, h8, h9, h10, h11⟩
theorem IW.h21 {g r : Nat} {μ : Mem} (h : IW g r μ) (i : Nat) (v : Int32) : IW g r (mu μ 21 i v) := by
  obtain ⟨h1, h2, h3, h4, h5, h6, h7, h8, h9, h10, h11⟩ := h
  unfold IW
  simp only [mu, upd, reduceIte, Nat.reduceEqDiff, Nat.zero_ne_one, Nat.one_ne_zero]
  exact ⟨h1, h2, h3, h4, h5, h6, h7, h8, h9, h10, h11⟩
theorem IW.h22 {g r : Nat} {μ : Mem} (h : IW g r μ) (i : Nat) (v : Int32) : IW g r (mu μ 22 i v) := by
  obtain ⟨h1, h2, h3, h4, h5, h6, h7, h8, h9, h10, h11⟩ := h
  unfold IW
  simp only [mu, upd, reduceIte, Nat.reduceEqDiff, Nat.zero_ne_one, Nat.one_ne_zero]
  exact ⟨h1, h2, h3, h4, h5, h6, h7, h8, h9, h10, h11⟩
theorem IW.h23 {g r : Nat} {μ : Mem} (h : IW g r μ) (i : Nat) (v : Int32) : IW g r (mu μ 23 i v) := by
  obtain ⟨h1, h2, h3, h4, h5, h6, h7, h8, h9, h10, h11⟩ := h
  unfold IW
  simp only [mu, upd, reduceIte, Nat.reduceEqDiff, Nat.zero_ne_one, Nat.one_ne_zero]
  exact ⟨h1, h2, h3, h4, h5, h6, h7, h8, h9, h10, h11⟩
theorem IW.h24 {g r : Nat} {μ : Mem} (h : IW g r μ) (i : Nat) (v : Int32) : IW g r (mu μ 24 i v) := by
  obtain ⟨h1, h2, h3, h4, h5, h6, h7, h8, h9, h10, h11⟩ := h
  unfold IW
  simp only [mu, upd, reduceIte, Nat.reduceEqDiff, Nat.zero_ne_one, Nat.one_ne_zero]
  exact ⟨h1, h2, h3, h4, h5, h6, h7, h8, h9, h10, h11⟩
theorem IW.purse {g r : Nat} {μ : Mem} (h : IW g r μ) (v : Int32) : IW g r (mu μ 0 14 v) := by
  obtain ⟨h1, h2, h3, h4, h5, h6, h7, h8, h9, h10, h11⟩ := h
  unfold IW
  simp only [mu, upd, reduceIte, Nat.reduceEqDiff, Nat.zero_ne_one, Nat.one_ne_zero]
  exact ⟨h1, h2, h3, h4, h5, h6, h7, h8, h9, h10, h11⟩
theorem IW.calls {g r : Nat} {μ : Mem} (h : IW g r μ) (v : Int32) : IW g r (mu μ 0 23 v) := by
  obtain ⟨h1, h2, h3, h4, h5, h6, h7, h8, h9, h10, h11⟩ := h
  unfold IW
  simp only [mu, upd, reduceIte, Nat.reduceEqDiff, Nat.zero_ne_one, Nat.one_ne_zero]
  exact ⟨h1, h2, h3, h4, h5, h6, h7, h8, h9, h10, h11⟩
theorem IW.thrown {g r : Nat} {μ : Mem} (h : IW g r μ) (v : Int32) : IW g r (mu μ 0 29 v) := by
  obtain ⟨h1, h2, h3, h4, h5, h6, h7, h8, h9, h10, h11⟩ := h
  unfold IW
  simp only [mu, upd, reduceIte, Nat.reduceEqDiff, Nat.zero_ne_one, Nat.one_ne_zero]
  exact ⟨h1, h2, h3, h4, h5, h6, h7, h8, h9, h10, h11⟩
theorem IW.seed {g r : Nat} {μ : Mem} (h : IW g r μ) {v : Int32} (hv : ∃ q, q < 65536 ∧ v = nI q) : IW g r (mu μ 0 15 v) := by
  obtain ⟨h1, h2, h3, h4, h5, h6, h7, h8, h9, h10, h11⟩ := h
  unfold IW
  simp only [mu, upd, reduceIte, Nat.reduceEqDiff, Nat.zero_ne_one, Nat.one_ne_zero]
  exact ⟨h1, h2, h3, hv, h5, h6, h7, h8, h9, h10, h11⟩
theorem IW.exits {g r : Nat} {μ : Mem} (h : IW g r μ) (i : Nat) {v : Int32} (hv : v = -1 ∨ ∃ q, q < 8 ∧ v = nI q) : IW g r (mu μ 1 i v) := by
  obtain ⟨h1, h2, h3, h4, h5, h6, h7, h8, h9, h10, h11⟩ := h
  unfold IW
  simp only [mu, upd, reduceIte, Nat.reduceEqDiff, Nat.zero_ne_one, Nat.one_ne_zero]
  refine ⟨h1, h2, h3, h4, ?_, h6, h7, h8, h9, h10, h11⟩
  intro j hj; split; exact hv; exact h5 j hj
theorem IW.floor {g r : Nat} {μ : Mem} (h : IW g r μ) (i : Nat) {v : Int32} (hv : ∃ q, q ≤ 600 * g ∧ v = nI q) : IW g r (mu μ 2 i v) := by
  obtain ⟨h1, h2, h3, h4, h5, h6, h7, h8, h9, h10, h11⟩ := h
  unfold IW
  simp only [mu, upd, reduceIte, Nat.reduceEqDiff, Nat.zero_ne_one, Nat.one_ne_zero]
  refine ⟨h1, h2, h3, h4, h5, ?_, h7, h8, h9, h10, h11⟩
  intro j hj; split; exact hv; exact h6 j hj
theorem IW.stock {g r : Nat} {μ : Mem} (h : IW g r μ) (i : Nat) {v : Int32} (hv : ∃ q, q ≤ 20 * g ∧ v = nI q) : IW g r (mu μ 5 i v) := by
  obtain ⟨h1, h2, h3, h4, h5, h6, h7, h8, h9, h10, h11⟩ := h
  unfold IW
  simp only [mu, upd, reduceIte, Nat.reduceEqDiff, Nat.zero_ne_one, Nat.one_ne_zero]
  refine ⟨h1, h2, h3, h4, h5, h6, ?_, h8, h9, h10, h11⟩
  intro j hj; split; exact hv; exact h7 j hj
theorem IW.goods {g r : Nat} {μ : Mem} (h : IW g r μ) (i : Nat) {v : Int32} (hv : ∃ q, q ≤ g ∧ v = nI q) : IW g r (mu μ 11 i v) := by
  obtain ⟨h1, h2, h3, h4, h5, h6, h7, h8, h9, h10, h11⟩ := h
  unfold IW
  simp only [mu, upd, reduceIte, Nat.reduceEqDiff, Nat.zero_ne_one, Nat.one_ne_zero]
  refine ⟨h1, h2, h3, h4, h5, h6, h7, ?_, h9, h10, h11⟩
  intro j hj; split; exact hv; exact h8 j hj
theorem IW.words {g r : Nat} {μ : Mem} (h : IW g r μ) (i : Nat) {v : Int32} (hv : ∃ q, q ≤ 6 ∧ v = nI q) : IW g r (mu μ 12 i v) := by
  obtain ⟨h1, h2, h3, h4, h5, h6, h7, h8, h9, h10, h11⟩ := h
  unfold IW
  simp only [mu, upd, reduceIte, Nat.reduceEqDiff, Nat.zero_ne_one, Nat.one_ne_zero]
  refine ⟨h1, h2, h3, h4, h5, h6, h7, h8, h9, ?_, h11⟩
  intro j hj; split; exact hv; exact h10 j hj
theorem IW.reached {g r : Nat} {μ : Mem} (h : IW g r μ) (i : Nat) {v : Int32} (hv : ∃ q, q ≤ 4 ∧ v = nI q) : IW g r (mu μ 19 i v) := by
  obtain ⟨h1, h2, h3, h4, h5, h6, h7, h8, h9, h10, h11⟩ := h
  unfold IW
  simp only [mu, upd, reduceIte, Nat.reduceEqDiff, Nat.zero_ne_one, Nat.one_ne_zero]
  refine ⟨h1, h2, h3, h4, h5, h6, h7, h8, h9, h10, ?_⟩
  intro j hj; split; exact hv; exact h11 j hj
theorem IW.room {g r : Nat} {μ : Mem} (h : IW g r μ) (i : Nat) {v : Int32} (hv : ∃ q, q < 8 ∧ v = nI q) : IW g r (mu μ 6 i v) := by
  obtain ⟨h1, h2, h3, h4, h5, h6, h7, h8, h9, h10, h11⟩ := h
  unfold IW
  simp only [mu, upd, reduceIte, Nat.reduceEqDiff, Nat.zero_ne_one, Nat.one_ne_zero]
  refine ⟨?_, h2, h3, h4, h5, h6, h7, h8, h9, h10, h11⟩
  obtain ⟨np, n1, n2, n3, n4⟩ := h1
  refine ⟨np, n1, n2, fun j hj => ?_, n4⟩
  obtain ⟨f1, f2, f3⟩ := n3 j hj
  refine ⟨?_, ?_, ?_⟩ <;> first | assumption | (split <;> assumption)
theorem IW.strength {g r : Nat} {μ : Mem} (h : IW g r μ) (i : Nat) {v : Int32} (hv : ∃ q, q ≤ 6 ∧ v = nI q) : IW g r (mu μ 8 i v) := by
  obtain ⟨h1, h2, h3, h4, h5, h6, h7, h8, h9, h10, h11⟩ := h
  unfold IW
  simp only [mu, upd, reduceIte, Nat.reduceEqDiff, Nat.zero_ne_one, Nat.one_ne_zero]
  refine ⟨?_, h2, h3, h4, h5, h6, h7, h8, h9, h10, h11⟩
  obtain ⟨np, n1, n2, n3, n4⟩ := h1
  refine ⟨np, n1, n2, fun j hj => ?_, n4⟩
  obtain ⟨f1, f2, f3⟩ := n3 j hj
  refine ⟨?_, ?_, ?_⟩ <;> first | assumption | (split <;> assumption)
theorem IW.health {g r : Nat} {μ : Mem} (h : IW g r μ) (i : Nat) {v : Int32} (hv : ∃ q, 1 ≤ q ∧ q ≤ 20 ∧ v = nI q) : IW g r (mu μ 9 i v) := by
  obtain ⟨h1, h2, h3, h4, h5, h6, h7, h8, h9, h10, h11⟩ := h
  unfold IW
  simp only [mu, upd, reduceIte, Nat.reduceEqDiff, Nat.zero_ne_one, Nat.one_ne_zero]
  refine ⟨?_, h2, h3, h4, h5, h6, h7, h8, h9, h10, h11⟩
  obtain ⟨np, n1, n2, n3, n4⟩ := h1
  refine ⟨np, n1, n2, fun j hj => ?_, n4⟩
  obtain ⟨f1, f2, f3⟩ := n3 j hj
  refine ⟨?_, ?_, ?_⟩ <;> first | assumption | (split <;> assumption)
theorem IW.ready {g r : Nat} {μ : Mem} (h : IW g r μ) (i : Nat) {v : Int32} (hi : i < pcN μ) (hv : ∃ q, q ≤ r ∧ v = nI q) : IW g r (mu μ 10 i v) := by
  obtain ⟨h1, h2, h3, h4, h5, h6, h7, h8, h9, h10, h11⟩ := h
  unfold IW
  simp only [mu, upd, reduceIte, Nat.reduceEqDiff, Nat.zero_ne_one, Nat.one_ne_zero]
  obtain ⟨np, n1, n2, n3, n4⟩ := h1
  have hnp : pcN μ = np := by unfold pcN; rw [n2, N_nI (by omega)]
  refine ⟨⟨np, n1, n2, n3, fun j h1 h2 => ?_⟩, h2, h3, h4, h5, h6, h7, h8, fun j hj => ?_, h10, h11⟩
  · rw [if_neg (by omega)]; exact n4 j h1 h2
  · split
    · exact hv
    · exact h9 j hj
