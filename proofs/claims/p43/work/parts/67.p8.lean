/-! SUMS THAT STAY -/
theorem upd_s {f : Nat → Int32} {k : Nat} {x : Int32} : upd f k x k = x := pk_us
theorem upd_n {f : Nat → Int32} {k j : Nat} {x : Int32} (h : j ≠ k) : upd f k x j = f j := pk_un h
theorem gsum3 (μ : Mem) (q : Nat) : gsum μ q = sm (fun i => μ 11 (i * 5 + q)) 0 (pcN μ) + (sm (fun i => μ 2 (i * 5 + q)) 0 8 + sm (fun i => μ 5 (i * 5 + q)) 0 8) := by
  unfold gsum
  rw [sm_add]
theorem sm_upd {f : Nat → Int32} {j : Nat} {d : Int32} : ∀ (n i : Nat), i ≤ j → j < i + n → sm (upd f j (f j + d)) i n = sm f i n + d := by
  intro n
  induction n with
  | zero => intro i h1 h2; omega
  | succ n ih =>
    intro i h1 h2
    rw [sm_end, sm_end]
    by_cases q : j = i + n
    · subst q
      rw [sm_congr (g := f) n i fun k k1 k2 => upd_n (by omega), upd_s, Int32.add_assoc]
    · rw [ih i h1 (by omega), upd_n (fun e => q e.symm), Int32.add_assoc, Int32.add_assoc, Int32.add_comm d]
theorem sl_upd {row : Nat → Int32} {j p q n : Nat} {d : Int32} (hp : p < 5) (hq : q < 5) (hj : j < n) : sm (fun i => upd row (j * 5 + p) (row (j * 5 + p) + d) (i * 5 + q)) 0 n = sm (fun i => row (i * 5 + q)) 0 n + (if p = q then d else 0) := by
  by_cases h : p = q
  · subst h
    rw [if_pos rfl, ← sm_upd (f := fun i => row (i * 5 + p)) (j := j) (d := d) n 0 (Nat.zero_le _) (by omega)]
    congr 1
    funext i
    by_cases hi : i = j
    · subst hi; rw [upd_s, upd_s]
    · rw [upd_n (by omega), upd_n hi]
  · rw [if_neg h, Int32.add_zero]
    congr 1
    funext i
    exact upd_n (by omega)
theorem ns_upd {f : Nat → Nat} {j v : Nat} : ∀ n, j < n → ns (fun k => if k = j then v else f k) n + f j = ns f n + v := by
  intro n
  induction n with
  | zero => intro h; omega
  | succ n ih =>
    intro h
    show ns (fun k => if k = j then v else f k) n + (if n = j then v else f n) + f j = ns f n + f n + v
    by_cases q : n = j
    · subst q
      have e : ns (fun k => if k = n then v else f k) n = ns f n := by
        have : ∀ m, m ≤ n → ns (fun k => if k = n then v else f k) m = ns f m := by
          intro m
          induction m with
          | zero => intro _; rfl
          | succ m ihm =>
            intro hm
            show ns (fun k => if k = n then v else f k) m + (if m = n then v else f m) = ns f m + f m
            rw [ihm (by omega), if_neg (by omega)]
        exact this n (Nat.le_refl _)
      rw [e, if_pos rfl]; omega
    · rw [if_neg q]
      have := ih (by omega)
      omega
theorem ns_congr {f g : Nat → Nat} : ∀ n, (∀ k, k < n → f k = g k) → ns f n = ns g n := by
  intro n
  induction n with
  | zero => intro _; rfl
  | succ n ih =>
    intro h
    show ns f n + f n = ns g n + g n
    rw [ih fun k hk => h k (by omega), h n (by omega)]
theorem ring2 (x y : Int32) : x + 1 + (y + -1) = x + y := by
  rw [Int32.add_assoc, ← Int32.add_assoc 1 y, Int32.add_comm 1 y, Int32.add_assoc y, show (1 : Int32) + -1 = 0 by decide, Int32.add_zero]
theorem ring3 (x y : Int32) : x + -1 + (y + 1) = x + y := by
  rw [Int32.add_assoc, ← Int32.add_assoc (-1) y, Int32.add_comm (-1) y, Int32.add_assoc y, show (-1 : Int32) + 1 = 0 by decide, Int32.add_zero]
theorem ring4 (x y d : Int32) : x + -d + (y + d) = x + y := by
  rw [Int32.add_assoc, ← Int32.add_assoc (-d) y, Int32.add_comm (-d) y, Int32.add_assoc y, Int32.add_left_neg, Int32.add_zero]
/-! THE MIDDLE OF AN ACT: what stays -/
def Mid (μ μ5 : Mem) : Prop :=
  (μ5 1 = μ 1 ∧ μ5 4 = μ 4 ∧ μ5 14 = μ 14 ∧ μ5 15 = μ 15 ∧ μ5 19 = μ 19) ∧ (∀ i, i ≠ 14 → i ≠ 15 → i ≠ 29 → μ5 0 i = μ 0 i) ∧ (∀ r, r < 8 → (μ5 3 r = -1 ↔ μ 3 r = -1)) ∧ (∀ T, T < 2 ^ 30 → WK2 T μ → WK2 T μ5) ∧ (∀ q, q < 5 → gsum μ5 q = gsum μ q) ∧ ∀ j, pcN μ * 5 ≤ j → j < 20 → μ5 11 j = μ 11 j
theorem Mid.pc {μ μ5 : Mem} (h : Mid μ μ5) : pcN μ5 = pcN μ ∧ qcN μ5 = qcN μ := by
  unfold pcN qcN
  rw [h.2.1 5 (by decide) (by decide) (by decide), h.2.1 16 (by decide) (by decide) (by decide)]
  exact ⟨rfl, rfl⟩
theorem WK2.same {T : Nat} {μ μ' : Mem} (h : WK2 T μ) (e0 : μ' 0 14 = μ 0 14) (e5 : μ' 0 5 = μ 0 5) (e7 : μ' 7 = μ 7) (e3 : μ' 3 = μ 3) : WK2 T μ' := by
  have hp : pcN μ' = pcN μ := by unfold pcN; rw [e5]
  obtain ⟨cn, tn, pu, h1, h2, h3, h4⟩ := h
  exact ⟨cn, tn, pu, by rw [hp, e7]; exact h1, by rw [e3]; exact h2, by rw [e0]; exact h3, by rw [hp]; exact h4⟩
theorem gsum_same {μ μ' : Mem} (e5 : μ' 0 5 = μ 0 5) (e11 : μ' 11 = μ 11) (e2 : μ' 2 = μ 2) (e6 : μ' 5 = μ 5) (q : Nat) : gsum μ' q = gsum μ q := by
  unfold gsum pcN
  rw [e5, e11, e2, e6]
theorem WI.act {c a t : Nat} {cf : Nat → Int32} {μ μ5 μ'' : Mem} {g r : Nat} (W : WI c cf μ) (hc : c < 1000) (m : Mid μ μ5) (e : EndS a t μ5 μ'') (ha : a < pcN μ) (hp4 : pcN μ ≤ 4) (hq3 : qcN μ ≤ 3) : WI (c + 1) (upd cf 6 (nI (c + 1))) μ'' := by
  obtain ⟨⟨w1, w2, w3, w4⟩, ⟨mk, mk1, mk2, mk3⟩, ⟨T, T1, T2, T3⟩, w5, w6, q1, q2, q3, q4, q5⟩ := W
  obtain ⟨p1, p2⟩ := m.pc
  obtain ⟨⟨m1, m4, m14, m15, m19⟩, m0, m3, mT, mg, m11⟩ := m
  obtain ⟨e1, e2, e3, e4, e5, e6, e7⟩ := e
  have h5 : μ'' 0 5 = μ 0 5 := (e2 5 (by decide) (by decide)).trans (m0 5 (by decide) (by decide) (by decide))
  have h16 : μ'' 0 16 = μ 0 16 := (e2 16 (by decide) (by decide)).trans (m0 16 (by decide) (by decide) (by decide))
  have pp : pcN μ'' = pcN μ := by unfold pcN; rw [h5]
  have h15 : μ'' 15 = μ 15 := (e1 15 (by decide) (by decide) (by decide) (by decide) (by decide)).trans m15
  have h1 : μ'' 1 = μ 1 := (e1 1 (by decide) (by decide) (by decide) (by decide) (by decide)).trans m1
  have h14 : μ'' 14 = μ 14 := (e1 14 (by decide) (by decide) (by decide) (by decide) (by decide)).trans m14
  refine ⟨⟨upd_s, by rw [upd_n (by decide), h5]; exact w2, by rw [upd_n (by decide), h16]; exact w3, fun q hq => by rw [upd_n (by omega), h15]; exact w4 q hq⟩, ⟨mk, mk1, by rw [upd_n (by decide)]; exact mk2, fun r hr => by rw [e1 3 (by decide) (by decide) (by decide) (by decide) (by decide)]; exact (mk3 r hr).trans (m3 r hr).symm⟩, ⟨T, by omega, by rw [upd_n (by decide)]; exact T2, ?_⟩, fun q hq => ?_, by rw [h1]; exact w6, fun k q hk hq => ?_, fun k q hk1 hk hq => ?_, fun k q hk1 hk hq => ?_, by rw [h14]; exact q4, by rw [(e1 4 (by decide) (by decide) (by decide) (by decide) (by decide)).trans m4]; exact q5⟩
  · obtain ⟨cn, tn, pu, h1, h2, h3, h4⟩ := mT T (by omega) T3
    obtain ⟨g, g1, g2, g3⟩ := e7 pu (cn a) (by omega) h3 (h1 a (by rw [p1]; exact ha))
    refine ⟨fun k => if k = a then cn a + g else cn k, tn, pu - g, fun k hk => ?_, by rw [e1 3 (by decide) (by decide) (by decide) (by decide) (by decide)]; exact h2, g2, ?_⟩
    · show μ'' 7 k = nI (if k = a then cn a + g else cn k)
      by_cases q : k = a
      · subst q; rw [if_pos rfl]; exact g3
      · rw [if_neg q, e4 k q]; exact h1 k (by rw [p1, ← pp]; exact hk)
    · rw [pp]
      have := ns_upd (f := cn) (j := a) (v := cn a + g) (pcN μ) ha
      rw [p1] at h4
      omega
  · rw [upd_n (by omega), w5 q hq, ← mg q hq]
    exact (gsum_same (e2 5 (by decide) (by decide)) (e1 11 (by decide) (by decide) (by decide) (by decide) (by decide)) (e1 2 (by decide) (by decide) (by decide) (by decide) (by decide)) (e1 5 (by decide) (by decide) (by decide) (by decide) (by decide)) q).symm
  · obtain ⟨x, L, x1, x2, x3, x4⟩ := q1 k q hk hq
    rw [h15]
    by_cases hka : k = a ∧ q < qcN μ5
    · obtain ⟨rfl, hq2⟩ := hka
      rcases e6 q hq2 with z | ⟨t', L', z1, z2, z3, z4, z5⟩
      · exact ⟨x, L, x1, x2, by rw [z, m19]; exact x3, x4⟩
      · rw [m15] at z4
        exact ⟨t' + 1, L', by omega, z2, z5, z4⟩
    · refine ⟨x, L, x1, x2, ?_, x4⟩
      rw [e5 (k * 3 + q) fun q' hq' he => hka ⟨by omega, by omega⟩, m19]
      exact x3
  · rw [pp] at hk1
    rw [e5 (k * 3 + q) fun q' hq' he => by omega, m19]
    exact q2 k q hk1 hk hq
  · rw [pp] at hk1
    rw [e1 11 (by decide) (by decide) (by decide) (by decide) (by decide), m11 _ (by omega) (by omega)]
    exact q3 k q hk1 hk hq
/-- the flat world's answer to an act: refused, or done -/
def AR (ok : Nat → Int32 → Prop) (c a : Nat) (μ : Mem) (res : Option (Int32 × Mem)) (P : Nat → Int32 → Mem → Mem → Prop) : Prop :=
  (∃ t, t ≠ 0 ∧ (∀ e, ok e t → e = 1 ∨ e = 3) ∧ res = some (0, mu μ 0 29 t)) ∨ ∃ cost v μ5 μ'', res = some (v, μ'') ∧ μ'' 0 29 = 0 ∧ μ'' 0 23 = nI (c + 1) ∧ Mid μ μ5 ∧ EndS a cost μ5 μ'' ∧ P cost v μ5 μ''
/-- the class's answer to it -/
def AL (c a : Nat) (ρ μ : Mem) (x : Option (Nat × Int32 × Mem)) (P : Nat → Int32 → Mem → Mem → Prop) : Prop :=
  (∃ e v τ' t M', (e = 1 ∨ e = 3) ∧ x = some (e, v, τ') ∧ SX c τ' (mu μ 0 29 t) M') ∨ ∃ cost v τ' M' μ5 μ'', x = some (0, v, τ') ∧ SX (c + 1) τ' μ'' M' ∧ Mid μ μ5 ∧ EndS a cost μ5 μ'' ∧ P cost v μ5 μ''
theorem act_law {ok : Nat → Int32 → Prop} {c a : Nat} {ρ μ : Mem} {M : Nat → Mem} {m : Option (Int32 × Mem)} {x : Option (Nat × Int32 × Mem)} {P : Nat → Int32 → Mem → Mem → Prop} (S : SX c ρ μ M) (hc : c < 512) (hok0 : ∀ e, ¬ ok e 0) (hL : LawR ok c m x) (hA : AR ok c a μ m P) : AL c a ρ μ x P := by
  obtain ⟨e, v, τ', b, μ', c', M', x1, x2, x3, x4, x5⟩ := hL
  rcases hA with ⟨t, t1, t2, t3⟩ | ⟨cost, v', μ5, μ'', r1, r2, r3, r4, r5, r6⟩
  · rw [t3] at x2
    obtain ⟨rfl, rfl⟩ := rt2 x2
    have h23 := x4.2.1
    rw [mu_pl (by decide), S.2.1] at h23
    have : c = c' := nI_inj (by omega) (by omega) h23
    subst this
    rcases x5 with ⟨-, x6, -⟩ | x6
    · rw [mu_at] at x6; exact absurd x6 t1
    · rw [mu_at] at x6; exact Or.inl ⟨e, v, τ', t, M', t2 e x6, x1, x4⟩
  · rw [r1] at x2
    obtain ⟨rfl, rfl⟩ := rt2 x2
    have h23 := x4.2.1
    rw [r3] at h23
    have : c + 1 = c' := nI_inj (by omega) (by omega) h23
    subst this
    rw [r2] at x5
    rcases x5 with ⟨rfl, -, rfl⟩ | x6
    · exact Or.inr ⟨cost, v, τ', M', μ5, μ'', x1, x4, r4, r5, r6⟩
    · exact absurd x6 (hok0 e)
