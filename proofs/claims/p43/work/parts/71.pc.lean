/-! TALK -/
theorem hear_sem {g r p : Nat} {μ : Mem} {s w : Int32} (hI : IW g r μ) (hp : p < 4) : ∃ μ', f_X6_hears μ (nI p) s w = some μ' ∧ IW g r μ' ∧ (∀ k, k ≠ 12 → k ≠ 13 → μ' k = μ k) ∧ μ' 13 (p * 6) = 100 * s + w ∧ (∃ q, 1 ≤ q ∧ q ≤ 6 ∧ μ' 12 p = nI q) ∧ ∀ j, j ≠ p → μ' 13 (j * 6) = μ 13 (j * 6) ∧ μ' 12 j = μ 12 j := by
  obtain ⟨-, -, -, -, -, -, -, -, -, h10, -⟩ := id hI
  obtain ⟨q, q1, q2⟩ := h10 p hp
  have hN : (nI p).toNatClampNeg = p := N_nI (by omega)
  have hN6 : (nI (p * 6)).toNatClampNeg = p * 6 := N_nI (by omega)
  have g24 : ∀ {α : Type} (x : Option α), gd (nI (p * 6)) 24 x = x := fun x => gd_ok (by omega) (by decide)
  have g4 : ∀ {α : Type} (x : Option α), gd (nI p) 4 x = x := fun x => gd_ok (by omega) (by decide)
  obtain ⟨q', hq1, hq', e1⟩ : ∃ q' : Nat, 1 ≤ q' ∧ q' ≤ 6 ∧ (if 6 ≤ nI q then nI q + 0 else nI q + 1) = nI q' := by
    rw [Int32.add_zero, nI_1]
    by_cases h : q = 6
    · subst h; exact ⟨6, by omega, by omega, by decide⟩
    · exact ⟨q + 1, by omega, by omega, by rw [if_neg (show ¬ (6 : Int32) ≤ nI q from nI_ge (a := q) (b := 6) (by omega) (by omega))]⟩
  refine ⟨fun j => if j = 13 then hrd (μ 13) p (100 * s + w) else if j = 12 then upd (μ 12) p (nI q') else μ j, ?_, ?_, fun k c1 c2 => ?_, ?_, ⟨q', hq1, hq', ?_⟩, fun j hj => ⟨?_, ?_⟩⟩
  · unfold f_X6_hears
    rw [show (5 : Int32) = nI 5 from rfl, hears_loop hp _ _ _ FU 5 μ (by omega) (by show 5 + 1 ≤ 6000; omega)]
    simp only [n6l, g24, g4, hN, hN6, stp_s, jn_s, mu_n (show (12 : Nat) ≠ 13 by decide), show ((12 : Nat) = 13) = False from by simp, if_false, q2]
    have ex : ∀ y : Int32, y = nI q' → some (mu (mu (fun j => if j = 13 then shf (μ 13) (p * 6) 5 else μ j) 13 (p * 6) (100 * s + w)) 12 p y) = some (fun j => if j = 13 then hrd (μ 13) p (100 * s + w) else if j = 12 then upd (μ 12) p (nI q') else μ j) := fun y hy => by
      subst hy
      congr 1
      funext j
      by_cases h1 : j = 13
      · subst h1
        rw [mu_n (by decide), mu_s, if_pos rfl, if_pos rfl]; rfl
      · rw [if_neg h1]
        by_cases h2 : j = 12
        · subst h2
          rw [mu_s, mu_n (by decide), if_pos rfl, if_neg (by decide)]
        · rw [mu_n h2, mu_n h1, if_neg h1, if_neg h2]
    by_cases h : (6 : Int32) ≤ nI q
    · rw [if_pos h] at e1 ⊢
      exact ex _ e1
    · rw [if_neg h] at e1 ⊢
      exact ex _ e1
  · have hI2 := hI.words p (v := nI q') ⟨q', hq', rfl⟩
    refine hI2.no13 fun k hk => ?_
    show (if k = 13 then _ else if k = 12 then _ else μ k) = _
    rw [if_neg hk]
    by_cases h2 : k = 12
    · subst h2; rw [if_pos rfl, mu_s]
    · rw [if_neg h2, mu_n h2]
  · show (if k = 13 then _ else if k = 12 then _ else μ k) = μ k
    rw [if_neg c2, if_neg c1]
  · show hrd (μ 13) p (100 * s + w) (p * 6) = _
    unfold hrd; rw [upd_s]
  · show upd (μ 12) p (nI q') p = _
    rw [upd_s]
  · show hrd (μ 13) p (100 * s + w) (j * 6) = _
    unfold hrd
    rw [upd_n (by omega)]
    unfold shf
    rw [if_neg (by omega)]
  · show upd (μ 12) p (nI q') j = _
    rw [upd_n hj]
def sr (f : Nat → Nat) : Nat → Nat → Nat
  | _, 0 => 0
  | i, m + 1 => f i + sr f (i + 1) m
theorem sr_congr {f g : Nat → Nat} : ∀ (m i : Nat), (∀ j, i ≤ j → j < i + m → f j = g j) → sr f i m = sr g i m := by
  intro m
  induction m with
  | zero => intro i h; rfl
  | succ m ih =>
    intro i h
    show f i + sr f (i + 1) m = g i + sr g (i + 1) m
    rw [h i (Nat.le_refl _) (by omega), ih (i + 1) fun j h1 h2 => h j (by omega) (by omega)]
/-- who hears a -/
def Hr (μ : Mem) (a rm : Nat) (loud : Int32) (k : Nat) : Prop := k ≠ a ∧ (μ 6 k = nI rm ∨ (loud = 1 ∧ ∃ j, j < 4 ∧ μ 1 (rm * 4 + j) = μ 6 k))
def Hd (μ μ' : Mem) (a rm : Nat) (loud w : Int32) (hb : Nat → Nat) (j : Nat) : Prop := (hb j = 1 ∧ Hr μ a rm loud j ∧ μ' 13 (j * 6) = 100 * nI a + w ∧ ∃ q, 1 ≤ q ∧ q ≤ 6 ∧ μ' 12 j = nI q) ∨ (hb j = 0 ∧ ¬ Hr μ a rm loud j)
theorem Hr.same {μ μ' : Mem} {a rm : Nat} {loud : Int32} {k : Nat} (e6 : μ' 6 = μ 6) (e1 : μ' 1 = μ 1) : Hr μ' a rm loud k ↔ Hr μ a rm loud k := by
  unfold Hr; rw [e6, e1]
theorem speak_loop {a np rm : Nat} {w loud : Int32} (hloud : loud = 0 ∨ loud = 1) (hnp : np ≤ 4) (ha : a < np) (hrm : rm < 8) : ∀ (m n i c g r : Nat) (μ : Mem), i + m = np → m + 1 ≤ n → IW g r μ → pcN μ = np → μ 6 a = nI rm → c ≤ i →
    ∃ μ' hb, (∀ k, L_X6_speaks_44 n k w loud (nI a) (nI c) (nI i) μ = k (nI (c + sr hb i m)) μ') ∧ IW g r μ' ∧ (∀ k, k ≠ 12 → k ≠ 13 → μ' k = μ k) ∧ (∀ j, j < i → μ' 13 (j * 6) = μ 13 (j * 6) ∧ μ' 12 j = μ 12 j) ∧ ∀ j, i ≤ j → j < np → Hd μ μ' a rm loud w hb j := by
  intro m
  induction m with
  | zero =>
    intro n i c g r μ h1 h2 hI hp hra hci
    obtain ⟨n, rfl⟩ : ∃ n', n = n' + 1 := ⟨n - 1, by omega⟩
    have hp5 := hI.np.2
    rw [hp] at hp5
    refine ⟨μ, fun _ => 0, fun k => ?_, hI, fun _ _ _ => rfl, fun _ _ => ⟨rfl, rfl⟩, fun j j1 j2 => by omega⟩
    rw [L_X6_speaks_44, hp5]; exact if_pos (nI_le (by omega) (by omega))
  | succ m ih =>
    intro n i c g r μ h1 h2 hI hp hra hci
    obtain ⟨n, rfl⟩ : ∃ n', n = n' + 1 := ⟨n - 1, by omega⟩
    have hp5 := hI.np.2
    rw [hp] at hp5
    obtain ⟨⟨ri, ri1, ri2⟩, -⟩ := hI.pl (i := i) (by omega)
    have g4i : ∀ {α : Type} (x : Option α), gd (nI i) 4 x = x := fun x => gd_ok (by omega) (by decide)
    have g4a : ∀ {α : Type} (x : Option α), gd (nI a) 4 x = x := fun x => gd_ok (by omega) (by decide)
    have hNi : (nI i).toNatClampNeg = i := N_nI (by omega)
    have hNa : (nI a).toNatClampNeg = a := N_nI (by omega)
    have skip : (¬ Hr μ a rm loud i) → (∀ k, L_X6_speaks_44 (n + 1) k w loud (nI a) (nI c) (nI i) μ = L_X6_speaks_44 n k w loud (nI a) (nI c) (nI i + 1) μ) →
        ∃ μ' hb, (∀ k, L_X6_speaks_44 (n + 1) k w loud (nI a) (nI c) (nI i) μ = k (nI (c + sr hb i (m + 1))) μ') ∧ IW g r μ' ∧ (∀ k, k ≠ 12 → k ≠ 13 → μ' k = μ k) ∧ (∀ j, j < i → μ' 13 (j * 6) = μ 13 (j * 6) ∧ μ' 12 j = μ 12 j) ∧ ∀ j, i ≤ j → j < np → Hd μ μ' a rm loud w hb j := fun hn hm => by
      obtain ⟨μ', hb, b1, b2, b3, b4, b5⟩ := ih n (i + 1) c g r μ (by omega) (by omega) hI hp hra (by omega)
      refine ⟨μ', fun j => if j = i then 0 else hb j, fun k => ?_, b2, b3, fun j hj => b4 j (by omega), fun j j1 j2 => ?_⟩
      · rw [hm, nI_1, b1 k]
        show k (nI (c + sr hb (i + 1) m)) μ' = k (nI (c + ((if i = i then 0 else hb i) + sr (fun j => if j = i then 0 else hb j) (i + 1) m))) μ'
        rw [if_pos rfl, Nat.zero_add, sr_congr (f := fun j => if j = i then 0 else hb j) (g := hb) m (i + 1) fun j q1 q2 => if_neg (by omega)]
      · by_cases q : j = i
        · subst q; exact Or.inr ⟨if_pos rfl, hn⟩
        · rcases b5 j (by omega) j2 with ⟨z1, z2⟩ | ⟨z1, z2⟩
          · exact Or.inl ⟨(if_neg q).trans z1, z2⟩
          · exact Or.inr ⟨(if_neg q).trans z1, z2⟩
    have hear : Hr μ a rm loud i → (∀ k, L_X6_speaks_44 (n + 1) k w loud (nI a) (nI c) (nI i) μ = bd (f_X6_hears μ (nI i) (nI a) w) fun μ1 => L_X6_speaks_44 n k w loud (nI a) (nI c + 1) (nI i + 1) μ1) →
        ∃ μ' hb, (∀ k, L_X6_speaks_44 (n + 1) k w loud (nI a) (nI c) (nI i) μ = k (nI (c + sr hb i (m + 1))) μ') ∧ IW g r μ' ∧ (∀ k, k ≠ 12 → k ≠ 13 → μ' k = μ k) ∧ (∀ j, j < i → μ' 13 (j * 6) = μ 13 (j * 6) ∧ μ' 12 j = μ 12 j) ∧ ∀ j, i ≤ j → j < np → Hd μ μ' a rm loud w hb j := fun hn hm => by
      obtain ⟨μ1, e1, e2, e3, e4, e5, e6⟩ := hear_sem (s := nI a) (w := w) hI (p := i) (by omega)
      obtain ⟨μ', hb, b1, b2, b3, b4, b5⟩ := ih n (i + 1) (c + 1) g r μ1 (by omega) (by omega) e2 (by unfold pcN at hp ⊢; rw [e3 0 (by decide) (by decide)]; exact hp) (by rw [e3 6 (by decide) (by decide)]; exact hra) (by omega)
      refine ⟨μ', fun j => if j = i then 1 else hb j, fun k => ?_, b2, fun k q1 q2 => (b3 k q1 q2).trans (e3 k q1 q2), fun j hj => ?_, fun j j1 j2 => ?_⟩
      · rw [hm, e1, bd_s, nI_1, nI_1, b1 k]
        show k (nI (c + 1 + sr hb (i + 1) m)) μ' = k (nI (c + ((if i = i then 1 else hb i) + sr (fun j => if j = i then 1 else hb j) (i + 1) m))) μ'
        rw [if_pos rfl, sr_congr (f := fun j => if j = i then 1 else hb j) (g := hb) m (i + 1) fun j q1 q2 => if_neg (by omega), Nat.add_assoc]
      · obtain ⟨u1, u2⟩ := b4 j (by omega)
        obtain ⟨v1, v2⟩ := e6 j (by omega)
        exact ⟨u1.trans v1, u2.trans v2⟩
      · by_cases q : j = i
        · subst q
          obtain ⟨u1, u2⟩ := b4 j (by omega)
          refine Or.inl ⟨if_pos rfl, hn, u1.trans e4, ?_⟩
          rw [u2]; exact e5
        · have hh : Hr μ1 a rm loud j ↔ Hr μ a rm loud j := Hr.same (e3 6 (by decide) (by decide)) (e3 1 (by decide) (by decide))
          rcases b5 j (by omega) j2 with ⟨z1, z2, z3⟩ | ⟨z1, z2⟩
          · exact Or.inl ⟨(if_neg q).trans z1, hh.mp z2, z3⟩
          · exact Or.inr ⟨(if_neg q).trans z1, fun z => z2 (hh.mpr z)⟩
    have hsp : ∀ k, L_X6_speaks_44 (n + 1) k w loud (nI a) (nI c) (nI i) μ = if nI i = nI a then L_X6_speaks_44 n k w loud (nI a) (nI c) (nI i + 1) μ else if nI ri = nI rm then (bd (f_X6_hears μ (nI i) (nI a) w) fun μ1 => L_X6_speaks_44 n k w loud (nI a) (nI c + 1) (nI i + 1) μ1) else if loud = 0 then L_X6_speaks_44 n k w loud (nI a) (nI c) (nI i + 1) μ else bd (f_X6_isNextTo μ (nI rm) (nI ri)) fun v => if v = 0 then L_X6_speaks_44 n k w loud (nI a) (nI c) (nI i + 1) μ else (bd (f_X6_hears μ (nI i) (nI a) w) fun μ1 => L_X6_speaks_44 n k w loud (nI a) (nI c + 1) (nI i + 1) μ1) := fun k => by
      rw [L_X6_speaks_44, hp5, if_neg (nI_ge (by omega) (by omega))]
      simp only [jn_s, g4i, g4a, hNi, hNa, ri2, hra]
    by_cases hia : nI i = nI a
    · have hia' : i = a := nI_inj (by omega) (by omega) hia
      exact skip (fun z => z.1 hia') (fun k => by rw [hsp, if_pos hia])
    · have hia' : i ≠ a := fun z => hia (by rw [z])
      by_cases hrr : nI ri = nI rm
      · exact hear ⟨hia', Or.inl (ri2.trans hrr)⟩ (fun k => by rw [hsp, if_neg hia, if_pos hrr])
      · have hrr' : ¬ μ 6 i = nI rm := fun z => hrr (ri2.symm.trans z)
        by_cases hl : loud = 0
        · exact skip (fun z => by
            rcases z.2 with z | ⟨z, -⟩
            · exact hrr' z
            · rw [hl] at z; exact absurd z (by decide)) (fun k => by rw [hsp, if_neg hia, if_neg hrr, if_pos hl])
        · have hl1 : loud = 1 := hloud.resolve_left hl
          by_cases hnx : ∃ j, 0 ≤ j ∧ j < 4 ∧ μ 1 (rm * 4 + j) = nI ri
          · have t2 := (next_to_ok hrm (nI ri)).1 hnx
            obtain ⟨j, -, j2, j3⟩ := hnx
            exact hear ⟨hia', Or.inr ⟨hl1, j, j2, j3.trans ri2.symm⟩⟩ (fun k => by rw [hsp, if_neg hia, if_neg hrr, if_neg hl, t2, bd_s, if_neg (by decide)])
          · have t2 := (next_to_ok hrm (nI ri)).2 hnx
            exact skip (fun z => by
              rcases z.2 with z | ⟨-, j, j2, j3⟩
              · exact hrr' z
              · exact hnx ⟨j, Nat.zero_le _, j2, j3.trans ri2⟩) (fun k => by rw [hsp, if_neg hia, if_neg hrr, if_neg hl, t2, bd_s, if_pos rfl])
theorem ok23_2 : ∀ e, ok23 e 2 → e = 1 ∨ e = 3 := fun e h => by
  rcases h with ⟨-, h⟩ | ⟨h, -⟩
  · exact absurd h (by decide)
  · exact Or.inr h
theorem sem_speaks {c a T : Nat} {μ : Mem} (h : AC c a T μ) {w : Nat} (hw : w ≤ 99) {loud : Int32} (hloud : loud = 0 ∨ loud = 1) {rm : Nat} (rm1 : rm < 8) (rm2 : μ 6 a = nI rm) : AR ok23 c a μ (f_X6_speaks μ (nI w) loud) (fun cost v μ5 μ'' => cost = 1 ∧ μ5 10 = μ 10 ∧ μ5 6 = μ 6 ∧ ∃ hb, v = nI (sr hb 0 (pcN μ)) ∧ ∀ j, j < pcN μ → Hd μ μ'' a rm loud (nI w) hb j) := by
  obtain ⟨hI, h23, hc, Q, K, hT, ha, a3⟩ := h
  have hnp := hI.np
  have m1 : f_X6_isIn (nI w) 0 99 = some 1 := by
    rcases isIn_ok (nI w) 0 99 (by decide) (by decide) with ⟨-, -, -, -, -, -, h⟩ | ⟨h, -⟩
    · exact h
    · rcases h with h | h
      · exact absurd h (nI_pos (by omega))
      · exact absurd h (i32_le_lt.mpr (nI_le hw (by decide)))
  obtain ⟨μ5, hb, b1, b2, b3, b4, b5⟩ := speak_loop (a := a) (w := nI w) hloud hnp.1 ha rm1 (pcN μ) FU 0 0 c (13 * c) (mu μ 0 29 0) (by omega) (by show _ ≤ 6000; omega) (hI.thrown 0) (by unfold pcN; rw [mu_pl (by decide)]) (by rw [mu_n (by decide)]; exact rm2) (Nat.le_refl _)
  have e : ∀ k, k ≠ 0 → k ≠ 12 → k ≠ 13 → μ5 k = μ k := fun k k1 k2 k3 => by rw [b3 k k2 k3, mu_n k1]
  have e0 : ∀ i, i ≠ 29 → μ5 0 i = μ 0 i := fun i hi => by rw [b3 0 (by decide) (by decide), mu_pl hi]
  have hpc : pcN μ5 = pcN μ := by unfold pcN; rw [e0 5 (by decide)]
  unfold f_X6_speaks
  refine ar_end (μ5 := μ5) (t := 1) (w := nI w) (b := -1) (fun _ => nI (sr hb 0 (pcN μ))) (b2.mono (by omega) (by omega)) hc ((e0 23 (by decide)).trans h23) (by rw [b3 0 (by decide) (by decide), mu_at]) (by rw [hpc]; exact ha) (by decide) (fun q hq => by rw [e 14 (by decide) (by decide) (by decide)]; exact Q.2.2.2.1 q hq) ⟨⟨e 1 (by decide) (by decide) (by decide), e 4 (by decide) (by decide) (by decide), e 14 (by decide) (by decide) (by decide), e 15 (by decide) (by decide) (by decide), e 19 (by decide) (by decide) (by decide)⟩, fun i _ _ h3 => e0 i h3, fun r _ => by rw [e 3 (by decide) (by decide) (by decide)], fun T _ hk => hk.same (e0 14 (by decide)) (e0 5 (by decide)) (e 7 (by decide) (by decide) (by decide)) (e 3 (by decide) (by decide) (by decide)), fun q _ => gsum_same (e0 5 (by decide)) (e 11 (by decide) (by decide) (by decide)) (e 2 (by decide) (by decide) (by decide)) (e 5 (by decide) (by decide) (by decide)) q, fun j _ _ => by rw [e 11 (by decide) (by decide) (by decide)]⟩ (fun μ'' hq _ => ?_) (fun μ'' hE => ⟨rfl, e 10 (by decide) (by decide) (by decide), e 6 (by decide) (by decide) (by decide), hb, rfl, fun j hj => ?_⟩)
  · have hb1 := b1 (fun x16 σ17 => bd (f_X6_ends σ17 (nI a) 1 (nI w) (-1)) fun σ18 => some (x16, σ18))
    rw [show nI 0 = (0 : Int32) from rfl, Nat.zero_add] at hb1
    simp only [a3, bd_s, m1, i10, if_false, jn_s, nI_m1 (show a < 2 ^ 31 by omega), can_ok, i00, if_true, bd2_s]
    rw [hb1, show f_X6_ends μ5 (nI a) 1 (nI w) (-1) = some μ'' from hq, bd_s]
  · have h12 := hE.1 12 (by decide) (by decide) (by decide) (by decide) (by decide)
    have h13 := hE.1 13 (by decide) (by decide) (by decide) (by decide) (by decide)
    have hh : Hr (mu μ 0 29 0) a rm loud j ↔ Hr μ a rm loud j := Hr.same (mu_n (by decide)) (mu_n (by decide))
    rcases b5 j (Nat.zero_le _) hj with ⟨z1, z2, z3, z4⟩ | ⟨z1, z2⟩
    · exact Or.inl ⟨z1, hh.mp z2, by rw [h13]; exact z3, by rw [h12]; exact z4⟩
    · exact Or.inr ⟨z1, fun z => z2 (hh.mpr z)⟩
