/-! DISTANCES: rows of steps, level by level -/
theorem pigeon : ∀ (n : Nat) (w : Nat → Nat), (∀ j, j ≤ n → w j < n) → ∃ i j, i < j ∧ j ≤ n ∧ w i = w j := by
  intro n
  induction n with
  | zero => intro w h; exact absurd (h 0 (Nat.le_refl _)) (Nat.not_lt_zero _)
  | succ n ih =>
    intro w h
    by_cases q : ∃ i, i ≤ n ∧ w i = w (n + 1)
    · obtain ⟨i, i1, i2⟩ := q
      exact ⟨i, n + 1, by omega, Nat.le_refl _, i2⟩
    · obtain ⟨i, j, h1, h2, h3⟩ := ih (fun k => if w k < w (n + 1) then w k else w k - 1) (fun j hj => by
        have h1 := h j (by omega)
        have h2 := h (n + 1) (Nat.le_refl _)
        have h3 : w j ≠ w (n + 1) := fun e => q ⟨j, hj, e⟩
        show (if w j < w (n + 1) then w j else w j - 1) < n
        split <;> omega)
      have h4 : w i ≠ w (n + 1) := fun e => q ⟨i, by omega, e⟩
      have h5 : w j ≠ w (n + 1) := fun e => q ⟨j, h2, e⟩
      refine ⟨i, j, h1, by omega, ?_⟩
      have h3 : (if w i < w (n + 1) then w i else w i - 1) = (if w j < w (n + 1) then w j else w j - 1) := h3
      split at h3 <;> split at h3 <;> omega
theorem m1_nI {n : Nat} (h : n < 2 ^ 31) : ¬ (-1 : Int32) = nI n := fun e => nI_neg1 h e.symm
/-- a round at the level d, as far as the doors below m -/
def RD (e g0 g : Nat → Int32) (d m : Nat) : Prop :=
  (∀ v, g v = g0 v ∨ (g0 v = -1 ∧ g v = nI (d + 1))) ∧ (∀ v, v < 8 → g v ≠ g0 v → ∃ i, i < 32 ∧ e i = nI v ∧ g0 (i / 4) = nI d) ∧ ∀ i v, i < m → v < 8 → e i = nI v → g0 (i / 4) = nI d → g v ≠ -1
theorem rd_step {e g0 : Nat → Int32} {d m : Nat} {μ : Mem} (hd : d < 8) (hm : m < 32) (he : μ 1 = e) (hD : DV μ) (h : RD e g0 (μ 24) d m) : RD e g0 (ed μ d m 24) d (m + 1) := by
  obtain ⟨h1, h2, h3⟩ := h
  have same : ∀ x, μ 24 x = nI d ↔ g0 x = nI d := fun x => by
    rcases h1 x with q | ⟨q1, q2⟩
    · rw [q]
    · rw [q1, q2]
      exact ⟨fun q => absurd (nI_inj (by omega) (by omega) q) (by omega), fun q => absurd q (m1_nI (by omega))⟩
  unfold ed
  rw [he]
  by_cases hx : e m = -1
  · rw [if_pos hx]
    refine ⟨h1, h2, fun i v hi hv he2 hg => ?_⟩
    by_cases him : i = m
    · subst him; rw [hx] at he2; exact absurd he2 (m1_nI (by omega))
    · exact h3 i v (by omega) hv he2 hg
  · rw [if_neg hx]
    obtain ⟨q, q1, q2⟩ := (hD m hm).resolve_left (by rw [he]; exact hx)
    rw [he] at q2
    rw [q2, N_nI (by omega)]
    by_cases hy : μ 24 (m / 4) = nI d
    · rw [if_pos hy]
      have hy0 := (same _).mp hy
      by_cases hz : μ 24 q = -1
      · rw [if_pos hz, mu_s]
        have hg0 : g0 q = -1 := by
          rcases h1 q with z | ⟨z, -⟩
          · rw [← z]; exact hz
          · exact z
        refine ⟨fun v => ?_, fun v hv hne => ?_, fun i v hi hv he2 hg => ?_⟩
        · unfold upd
          by_cases hvq : v = q
          · subst hvq; rw [if_pos rfl]; exact Or.inr ⟨hg0, rfl⟩
          · rw [if_neg hvq]; exact h1 v
        · unfold upd at hne
          by_cases hvq : v = q
          · subst hvq; exact ⟨m, hm, q2, hy0⟩
          · rw [if_neg hvq] at hne; exact h2 v hv hne
        · unfold upd
          by_cases hvq : v = q
          · rw [if_pos hvq]; exact nI_neg1 (by omega)
          · rw [if_neg hvq]
            by_cases him : i = m
            · subst him; rw [q2] at he2; exact absurd (nI_inj (by omega) (by omega) he2).symm hvq
            · exact h3 i v (by omega) hv he2 hg
      · rw [if_neg hz]
        refine ⟨h1, h2, fun i v hi hv he2 hg => ?_⟩
        by_cases him : i = m
        · subst him; rw [q2] at he2; have := nI_inj (by omega) (by omega) he2; subst this; exact hz
        · exact h3 i v (by omega) hv he2 hg
    · rw [if_neg hy]
      refine ⟨h1, h2, fun i v hi hv he2 hg => ?_⟩
      by_cases him : i = m
      · subst him; exact absurd ((same _).mpr hg) hy
      · exact h3 i v (by omega) hv he2 hg
theorem rd_all {d : Nat} {μ : Mem} (hd : d < 8) (hD : DV μ) : ∀ m, m ≤ 32 → RD (μ 1) (μ 24) (eds d μ 0 m 24) d m := by
  intro m
  induction m with
  | zero => intro _; exact ⟨fun v => Or.inl rfl, fun v _ h => absurd rfl h, fun i v hi => absurd hi (Nat.not_lt_zero _)⟩
  | succ m ih =>
    intro hm
    rw [eds_add d m 1 0 μ, Nat.zero_add]
    exact rd_step (μ := eds d μ 0 m) hd (by omega) (eds_n (by decide) m 0 μ) (hD.c (eds_n (by decide) m 0 μ)) (ih (by omega))
def Lev (e : Nat → Int32) (a t : Nat) (g : Nat → Int32) : Prop :=
  g a = nI 0 ∧ (∀ v, v < 8 → g v = -1 ∨ ∃ d, d ≤ t ∧ g v = nI d) ∧ (∀ v d, v < 8 → d + 1 ≤ t → g v = nI (d + 1) → ∃ i, i < 32 ∧ e i = nI v ∧ g (i / 4) = nI d) ∧ (∀ v, v < 8 → g v = nI 0 → v = a) ∧ ∀ i d v, i < 32 → d < t → v < 8 → g (i / 4) = nI d → e i = nI v → ∃ d', d' ≤ d + 1 ∧ g v = nI d'
theorem lev_up {e : Nat → Int32} {a t : Nat} {g g' : Nat → Int32} (ht : t < 8) (h : Lev e a t g) (hr : RD e g g' t 32) : Lev e a (t + 1) g' := by
  obtain ⟨l1, l2, l3, l4, l5⟩ := h
  obtain ⟨r1, r2, r3⟩ := hr
  have keep : ∀ v n, n < 100 → g v = nI n → g' v = nI n := fun v n hn q => by
    rcases r1 v with z | ⟨z, -⟩
    · rw [z, q]
    · rw [q] at z; exact absurd z (nI_neg1 (by omega))
  refine ⟨keep a 0 (by decide) l1, fun v hv => ?_, fun v d hv hd hg => ?_, fun v hv hg => ?_, fun i d v hi hd hv hg he => ?_⟩
  · rcases r1 v with z | ⟨-, z⟩
    · rw [z]
      rcases l2 v hv with z | ⟨d, d1, d2⟩
      · exact Or.inl z
      · exact Or.inr ⟨d, by omega, d2⟩
    · exact Or.inr ⟨t + 1, Nat.le_refl _, z⟩
  · rcases r1 v with z | ⟨z1, z2⟩
    · rw [z] at hg
      rcases l2 v hv with y | ⟨d', y1, y2⟩
      · rw [y] at hg; exact absurd hg (m1_nI (by omega))
      · rw [y2] at hg
        have := nI_inj (by omega) (by omega) hg
        obtain ⟨i, i1, i2, i3⟩ := l3 v d hv (by omega) (by rw [y2]; exact hg)
        exact ⟨i, i1, i2, keep _ d (by omega) i3⟩
    · have hg2 := hg
      rw [z2] at hg2
      have := nI_inj (by omega) (by omega) hg2
      obtain ⟨i, i1, i2, i3⟩ := r2 v hv (by rw [z1, z2]; exact nI_neg1 (by omega))
      have hdt : d = t := by omega
      exact ⟨i, i1, i2, by rw [hdt]; exact keep _ t (by omega) i3⟩
  · rcases r1 v with z | ⟨-, z⟩
    · rw [z] at hg; exact l4 v hv hg
    · rw [z] at hg; exact absurd (nI_inj (by omega) (by omega) hg) (by omega)
  · have hg0 : g (i / 4) = nI d := by
      rcases r1 (i / 4) with z | ⟨-, z⟩
      · rw [← z]; exact hg
      · rw [z] at hg; exact absurd (nI_inj (by omega) (by omega) hg) (by omega)
    by_cases hdt : d < t
    · obtain ⟨d', d1, d2⟩ := l5 i d v hi hdt hv hg0 he
      exact ⟨d', d1, keep v d' (by omega) d2⟩
    · have hdt : d = t := by omega
      subst hdt
      have hne := r3 i v hi hv he hg0
      rcases r1 v with z | ⟨-, z⟩
      · rw [z] at hne ⊢
        rcases l2 v hv with y | ⟨d', y1, y2⟩
        · exact absurd y hne
        · exact ⟨d', by omega, y2⟩
      · exact ⟨d + 1, Nat.le_refl _, z⟩
theorem lev_all : ∀ (n d : Nat) (e : Nat → Int32) (a : Nat) (μ : Mem), d + n = 8 → μ 1 = e → DV μ → Lev e a d (μ 24) → Lev e a 8 (rnds d μ n 24) := by
  intro n
  induction n with
  | zero =>
    intro d e a μ h _ _ hl
    have : d = 8 := by omega
    subst this
    exact hl
  | succ n ih =>
    intro d e a μ h he hD hl
    subst he
    exact ih (d + 1) _ a (eds d μ 0 32) (by omega) (eds_n (by decide) 32 0 μ) (hD.c (eds_n (by decide) 32 0 μ)) (lev_up (by omega) hl (rd_all (by omega) hD 32 (Nat.le_refl _)))
/-- the row of distances from a -/
def DS (e : Nat → Int32) (a : Nat) (g : Nat → Int32) : Prop :=
  g a = nI 0 ∧ (∀ v, v < 8 → g v = -1 ∨ ∃ d, d ≤ 7 ∧ g v = nI d) ∧ (∀ v d, v < 8 → d + 1 ≤ 7 → g v = nI (d + 1) → ∃ i, i < 32 ∧ e i = nI v ∧ g (i / 4) = nI d) ∧ (∀ v, v < 8 → g v = nI 0 → v = a) ∧ ∀ i d v, i < 32 → d ≤ 7 → v < 8 → g (i / 4) = nI d → e i = nI v → ∃ d', d' ≤ d + 1 ∧ g v = nI d'
theorem lev_chain {e : Nat → Int32} {a : Nat} {g : Nat → Int32} (h : Lev e a 8 g) : ∀ d v, d ≤ 8 → v < 8 → g v = nI d → ∃ w : Nat → Nat, ∀ j, j ≤ d → w j < 8 ∧ g (w j) = nI j := by
  intro d
  induction d with
  | zero =>
    intro v _ hv hg
    refine ⟨fun _ => v, fun j hj => ?_⟩
    have : j = 0 := by omega
    subst this
    exact ⟨hv, hg⟩
  | succ d ih =>
    intro v hd hv hg
    obtain ⟨i, i1, -, i3⟩ := h.2.2.1 v d hv hd hg
    obtain ⟨w, hw⟩ := ih (i / 4) (by omega) (by omega) i3
    refine ⟨fun j => if j = d + 1 then v else w j, fun j hj => ?_⟩
    by_cases q : j = d + 1
    · subst q
      show (if d + 1 = d + 1 then v else w (d + 1)) < 8 ∧ g (if d + 1 = d + 1 then v else w (d + 1)) = nI (d + 1)
      rw [if_pos rfl]; exact ⟨hv, hg⟩
    · show (if j = d + 1 then v else w j) < 8 ∧ g (if j = d + 1 then v else w j) = nI j
      rw [if_neg q]; exact hw j (by omega)
theorem lev_ds {e : Nat → Int32} {a : Nat} {g : Nat → Int32} (h : Lev e a 8 g) : DS e a g := by
  have h8 : ∀ v, v < 8 → ¬ g v = nI 8 := fun v hv hg => by
    obtain ⟨w, hw⟩ := lev_chain h 8 v (Nat.le_refl _) hv hg
    obtain ⟨i, j, h1, h2, h3⟩ := pigeon 8 w (fun j hj => (hw j hj).1)
    have e1 := (hw i (by omega)).2
    rw [h3, (hw j h2).2] at e1
    exact absurd (nI_inj (by omega) (by omega) e1) (by omega)
  obtain ⟨l1, l2, l3, l4, l5⟩ := h
  refine ⟨l1, fun v hv => ?_, fun v d hv hd hg => l3 v d hv (by omega) hg, l4, fun i d v hi hd hv hg he => l5 i d v hi (by omega) hv hg he⟩
  rcases l2 v hv with z | ⟨d, d1, d2⟩
  · exact Or.inl z
  · by_cases q : d = 8
    · subst q; exact absurd d2 (h8 v hv)
    · exact Or.inr ⟨d, by omega, d2⟩
/-- ways of n doors -/
def WK (e : Nat → Int32) (a : Nat) : Nat → Nat → Prop
  | 0, b => a = b
  | n + 1, b => ∃ i, i < 32 ∧ e i = nI b ∧ b < 8 ∧ WK e a n (i / 4)
theorem ds_wk {e : Nat → Int32} {a : Nat} {g : Nat → Int32} (h : DS e a g) : ∀ n v, n ≤ 7 → v < 8 → g v = nI n → WK e a n v := by
  intro n
  induction n with
  | zero => intro v _ hv hg; exact (h.2.2.2.1 v hv hg).symm
  | succ n ih =>
    intro v hn hv hg
    obtain ⟨i, i1, i2, i3⟩ := h.2.2.1 v n hv hn hg
    exact ⟨i, i1, i2, hv, ih (i / 4) (by omega) (by omega) i3⟩
theorem wk_ds {e : Nat → Int32} {a : Nat} {g : Nat → Int32} (h : DS e a g) : ∀ n v, WK e a n v → ∃ d, d ≤ n ∧ g v = nI d := by
  intro n
  induction n with
  | zero =>
    intro v hw
    have hw : a = v := hw
    subst hw
    exact ⟨0, Nat.le_refl _, h.1⟩
  | succ n ih =>
    intro v ⟨i, i1, i2, hv, hw⟩
    obtain ⟨d, d1, d2⟩ := ih (i / 4) hw
    rcases h.2.1 (i / 4) (by omega) with z | ⟨d', d3, d4⟩
    · rw [z] at d2
      rcases h.2.1 v hv with y | ⟨d5, d6, d7⟩
      · by_cases q : d < 2 ^ 31
        · exact absurd d2 (m1_nI q)
        · rcases Nat.le_total (n + 1) 7 with q2 | q2
          · omega
          · obtain ⟨d8, e1, e2⟩ : ∃ d8, d8 ≤ n + 1 ∧ nI d8 = (-1 : Int32) := ⟨d, by omega, d2.symm⟩
            exact ⟨d8, e1, by rw [y, e2]⟩
      · by_cases q : d < 2 ^ 31
        · exact absurd d2 (m1_nI q)
        · exact ⟨d5, by omega, d7⟩
    · obtain ⟨d5, e1, e2⟩ := h.2.2.2.2 i d' v i1 d3 hv d4 i2
      have : d' ≤ n := by
        rw [d4] at d2
        by_cases q : d < 2 ^ 31
        · have := nI_inj (by omega) q d2; omega
        · omega
      exact ⟨d5, by omega, e2⟩
/-- doors lead there and back -/
def EI (e : Nat → Int32) : Prop := ∀ i v, i < 32 → v < 8 → e i = nI v → v ≠ i / 4 ∧ e (v * 4 + (i % 4 + 2) % 4) = nI (i / 4)
theorem wk_cons {e : Nat → Int32} {b c : Nat} {i : Nat} (hi : i < 32) (hib : i / 4 = b) (hc : e i = nI c) (hc8 : c < 8) : ∀ n a, WK e c n a → WK e b (n + 1) a := by
  intro n
  induction n with
  | zero =>
    intro a hw
    have hw : c = a := hw
    subst hw
    exact ⟨i, hi, hc, hc8, hib.symm⟩
  | succ n ih =>
    intro a ⟨j, j1, j2, j3, j4⟩
    exact ⟨j, j1, j2, j3, ih (j / 4) j4⟩
theorem wk_rev {e : Nat → Int32} (hE : EI e) {a : Nat} : ∀ n b, WK e a n b → WK e b n a := by
  intro n
  induction n with
  | zero => intro b h; exact Eq.symm h
  | succ n ih =>
    intro b ⟨i, i1, i2, i3, i4⟩
    obtain ⟨-, e2⟩ := hE i b i1 i3 i2
    exact wk_cons (i := b * 4 + (i % 4 + 2) % 4) (by omega) (by omega) e2 (by omega) n a (ih _ i4)
def IsD (e : Nat → Int32) (a b : Nat) (v : Int32) : Prop := ∃ g, DS e a g ∧ g b = v
section DIST
variable {e : Nat → Int32} {a b : Nat} {v w : Int32}
theorem D_un (hb : b < 8) (h : IsD e a b v) (h' : IsD e a b w) : v = w := by
  obtain ⟨g, g1, rfl⟩ := h
  obtain ⟨g', g2, rfl⟩ := h'
  rcases g1.2.1 b hb with z | ⟨n, n1, n2⟩ <;> rcases g2.2.1 b hb with z' | ⟨n', n3, n4⟩
  · rw [z, z']
  · obtain ⟨d, d1, d2⟩ := wk_ds g1 n' b (ds_wk g2 n' b n3 hb n4)
    rw [z] at d2; exact absurd d2 (m1_nI (by omega))
  · obtain ⟨d, d1, d2⟩ := wk_ds g2 n b (ds_wk g1 n b n1 hb n2)
    rw [z'] at d2; exact absurd d2 (m1_nI (by omega))
  · obtain ⟨d, d1, d2⟩ := wk_ds g1 n' b (ds_wk g2 n' b n3 hb n4)
    obtain ⟨d', d3, d4⟩ := wk_ds g2 n b (ds_wk g1 n b n1 hb n2)
    rw [n2] at d2; rw [n4] at d4
    have := nI_inj (by omega) (by omega) d2
    have := nI_inj (by omega) (by omega) d4
    rw [n2, n4, show n = n' by omega]
theorem D_self (h : IsD e a a v) : v = 0 := by
  obtain ⟨g, g1, rfl⟩ := h
  exact g1.1
theorem D_range (hb : b < 8) (h : IsD e a b v) : v = -1 ∨ ∃ d, d ≤ 7 ∧ v = nI d := by
  obtain ⟨g, g1, rfl⟩ := h
  exact g1.2.1 b hb
theorem D_sym (hE : EI e) (ha : a < 8) (hb : b < 8) (h : IsD e a b v) (h' : IsD e b a w) : v = w := by
  obtain ⟨g, g1, rfl⟩ := h
  obtain ⟨g', g2, rfl⟩ := h'
  rcases g1.2.1 b hb with z | ⟨n, n1, n2⟩ <;> rcases g2.2.1 a ha with z' | ⟨n', n3, n4⟩
  · rw [z, z']
  · obtain ⟨d, d1, d2⟩ := wk_ds g1 n' b (wk_rev hE n' a (ds_wk g2 n' a n3 ha n4))
    rw [z] at d2; exact absurd d2 (m1_nI (by omega))
  · obtain ⟨d, d1, d2⟩ := wk_ds g2 n a (wk_rev hE n b (ds_wk g1 n b n1 hb n2))
    rw [z'] at d2; exact absurd d2 (m1_nI (by omega))
  · obtain ⟨d, d1, d2⟩ := wk_ds g1 n' b (wk_rev hE n' a (ds_wk g2 n' a n3 ha n4))
    obtain ⟨d', d3, d4⟩ := wk_ds g2 n a (wk_rev hE n b (ds_wk g1 n b n1 hb n2))
    rw [n2] at d2; rw [n4] at d4
    have := nI_inj (by omega) (by omega) d2
    have := nI_inj (by omega) (by omega) d4
    rw [n2, n4, show n = n' by omega]
theorem D_edge (hE : EI e) {i u : Nat} (hi : i < 32) (hu : u < 8) (he : e i = nI u) (h : IsD e a (i / 4) v) (h' : IsD e a u w) : (v = -1 ∧ w = -1) ∨ ∃ d d', d ≤ 7 ∧ d' ≤ 7 ∧ v = nI d ∧ w = nI d' ∧ d' ≤ d + 1 ∧ d ≤ d' + 1 := by
  obtain ⟨g, g1, rfl⟩ := h
  have hw : w = g u := D_un hu h' ⟨g, g1, rfl⟩
  subst hw
  obtain ⟨-, e2⟩ := hE i u hi hu he
  have hi2 : u * 4 + (i % 4 + 2) % 4 < 32 := by omega
  have hq : (u * 4 + (i % 4 + 2) % 4) / 4 = u := by omega
  rcases g1.2.1 (i / 4) (by omega) with z | ⟨n, n1, n2⟩ <;> rcases g1.2.1 u hu with z' | ⟨n', n3, n4⟩
  · exact Or.inl ⟨z, z'⟩
  · obtain ⟨d, -, d2⟩ := g1.2.2.2.2 _ n' (i / 4) hi2 n3 (by omega) (by rw [hq]; exact n4) e2
    rcases g1.2.1 (i / 4) (by omega) with y | ⟨m, m1, m2⟩
    · obtain ⟨d3, d4, d5⟩ := wk_ds g1 (n' + 1) (i / 4) ⟨_, hi2, e2, by omega, by rw [hq]; exact ds_wk g1 n' u n3 hu n4⟩
      rw [z] at d5; exact absurd d5 (m1_nI (by omega))
    · rw [z] at m2; exact absurd m2 (m1_nI (by omega))
  · obtain ⟨d3, d4, d5⟩ := wk_ds g1 (n + 1) u ⟨i, hi, he, hu, ds_wk g1 n _ n1 (by omega) n2⟩
    rw [z'] at d5; exact absurd d5 (m1_nI (by omega))
  · right
    obtain ⟨d, d1, d2⟩ := g1.2.2.2.2 i n u hi n1 hu n2 he
    obtain ⟨d', d3, d4⟩ := g1.2.2.2.2 _ n' (i / 4) hi2 n3 (by omega) (by rw [hq]; exact n4) e2
    rw [n4] at d2; rw [n2] at d4
    have := nI_inj (by omega) (by omega) d2
    have := nI_inj (by omega) (by omega) d4
    exact ⟨n, n', n1, n3, n2, n4, by omega, by omega⟩
theorem D_pred (hE : EI e) (hb : b < 8) {d : Nat} (hd : d + 1 ≤ 7) (h : IsD e a b (nI (d + 1))) : ∃ r u, r < 4 ∧ u < 8 ∧ e (b * 4 + r) = nI u ∧ ∀ w, IsD e a u w → w = nI d := by
  obtain ⟨g, g1, g2⟩ := h
  obtain ⟨i, i1, i2, i3⟩ := g1.2.2.1 b d hb hd g2
  obtain ⟨-, e2⟩ := hE i b i1 hb i2
  exact ⟨(i % 4 + 2) % 4, i / 4, by omega, by omega, e2, fun w hw => (D_un (by omega) hw ⟨g, g1, rfl⟩).trans i3⟩
theorem D_zero (hb : b < 8) (h : IsD e a b 0) : b = a := by
  obtain ⟨g, g1, g2⟩ := h
  exact g1.2.2.2.1 b hb g2
/-- a step: a door from a to b, another room -/
theorem D_one (ha : a < 8) (hb : b < 8) (hE : EI e) (h : IsD e a b v) : v = 1 ↔ ∃ r, r < 4 ∧ e (a * 4 + r) = nI b := by
  obtain ⟨g, g1, rfl⟩ := h
  constructor
  · intro hg
    obtain ⟨i, i1, i2, i3⟩ := g1.2.2.1 b 0 hb (by decide) hg
    have := g1.2.2.2.1 (i / 4) (by omega) i3
    exact ⟨i % 4, by omega, by rw [show a * 4 + i % 4 = i by omega]; exact i2⟩
  · intro ⟨r, r1, r2⟩
    have hq : (a * 4 + r) / 4 = a := by omega
    obtain ⟨hne, -⟩ := hE (a * 4 + r) b (by omega) hb r2
    obtain ⟨d, d1, d2⟩ := g1.2.2.2.2 (a * 4 + r) 0 b (by omega) (by decide) hb (by rw [hq]; exact g1.1) r2
    rcases (show d = 0 ∨ d = 1 by omega) with rfl | rfl
    · have := g1.2.2.2.1 b hb d2; omega
    · exact d2
end DIST
theorem p_distance {c : Nat} {τ μ : Mem} {M : Nat → Mem} (S : SX c τ μ M) {a b : Nat} (a1 : a < 8) (b1 : b < 8) : ∃ v τ', f_X5_distance τ (nI a) (nI b) = some (0, v, τ') ∧ IsD (μ 1) a b v ∧ SX c τ' μ M ∧ ∀ k, k ≠ 7 → τ' k = τ k := by
  have hI := S.iw
  have hR := S.rw'
  have ga : ∀ {α : Type} (x : Option α), gd (nI a) 8 x = x := fun x => gd_ok a1 (by decide)
  have gb : ∀ {α : Type} (x : Option α), gd (nI b) 8 x = x := fun x => gd_ok b1 (by decide)
  have hNa : (nI a).toNatClampNeg = a := N_nI (by omega)
  have hNb : (nI b).toNatClampNeg = b := N_nI (by omega)
  have hD : DV μ := fun e he => by
    obtain ⟨-, -, -, -, h5, -⟩ := id hI
    exact h5 e he
  obtain ⟨μ1, hμ1⟩ : ∃ μ1 : Mem, μ1 = fun k => if k = 24 then (fun j => if j = a then 0 else -1) else μ k := ⟨_, rfl⟩
  have c1 : ∀ k, k ≠ 24 → μ1 k = μ k := fun k hk => by rw [hμ1]; exact if_neg hk
  have c2 : ∀ j, μ1 24 j = if j = a then 0 else -1 := fun j => by rw [hμ1]; rfl
  have hD1 : DV μ1 := hD.c (c1 1 (by decide))
  have hDR : DR τ (mu (fl τ 7 8 (-1)) 7 a 0) μ1 := ⟨fun k hk => by rw [mu_n hk]; exact if_neg hk, fun i hi => by rw [mu_n (by decide), c1 1 (by decide)]; exact (congrFun (if_neg (by decide) : fl τ 7 8 (-1) 2 = τ 2) i).trans (hR.1.1 i hi), fun i hi => by
    rw [c2 i]
    by_cases hia : i = a
    · subst hia; rw [mu_at, if_pos rfl]
    · rw [mu_pl hia, if_neg hia]
      exact (congrFun (if_pos rfl : fl τ 7 8 (-1) 7 = _) i).trans (if_pos hi)⟩
  obtain ⟨σ', d1, d2⟩ := s17 (fun σ7 => gd (nI b) 8 <| some ((σ7 7 (nI b).toNatClampNeg), σ7)) (nI b) 8 FU 0 _ μ1 (by omega) (by decide) hD1 hDR
  have hlev : Lev (μ 1) a 0 (μ1 24) := by
    refine ⟨by rw [c2, if_pos rfl]; rfl, fun v hv => ?_, fun v d hv hd => absurd hd (by omega), fun v hv hg => ?_, fun i d v hi hd => absurd hd (Nat.not_lt_zero _)⟩
    · rw [c2]
      by_cases q : v = a
      · rw [if_pos q]; exact Or.inr ⟨0, Nat.le_refl _, rfl⟩
      · rw [if_neg q]; exact Or.inl rfl
    · rw [c2] at hg
      by_cases q : v = a
      · exact q
      · rw [if_neg q] at hg; exact absurd hg (m1_nI (by decide))
  have hds := lev_ds (lev_all 8 0 (μ 1) a μ1 (by omega) (c1 1 (by decide)) hD1 hlev)
  have hk : ∀ k, k ≠ 7 → mgN σ' τ k = τ k := fun k hk => by
    unfold mgN
    split
    · exact d1.1 k hk
    · rfl
  refine ⟨rnds 0 μ1 8 24 b, mgN σ' τ, ?_, ⟨_, hds, rfl⟩, S.t (fun k _ h7 => hk k h7) (hk 49 (by decide)) (hk 50 (by decide)), hk⟩
  unfold f_X5_distance f_X2_stepsBetween
  rw [nr_ok a a1, bt_0, nr_ok b b1, bt_0, stp_s, ga, stp_s, hNa]
  rw [show (0 : Int32) = nI 0 from rfl] at d2 ⊢
  rw [d2, gb, hNb, bd2_s, stp_s, d1.2.2 b b1]
