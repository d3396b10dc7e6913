theorem leads_loop {σ : Mem} {r : Nat} (hr : r < 8) (x : Int32) (k : Unit → Option Int32) : ∀ (n i : Nat), i ≤ 4 → 5 ≤ i + n → ((∃ j, i ≤ j ∧ j < 4 ∧ σ 2 (r * 4 + j) = x) → L_X2_leadsTo_2 n k σ (nI r) x (nI i) = some 1) ∧ ((¬ ∃ j, i ≤ j ∧ j < 4 ∧ σ 2 (r * 4 + j) = x) → L_X2_leadsTo_2 n k σ (nI r) x (nI i) = k ()) := by
  intro n
  induction n with
  | zero => intro i h1 h2; omega
  | succ n ih =>
    intro i h1 h2
    rw [L_X2_leadsTo_2]
    by_cases hi : i = 4
    · subst hi
      rw [if_pos (by decide)]
      exact ⟨fun ⟨j, a, b, _⟩ => by omega, fun _ => rfl⟩
    · rw [if_neg (show ¬ (4 : Int32) ≤ nI i from nI_ge (a := i) (b := 4) (by omega) (by omega)), n4r, gd_ok (by omega) (by decide), N_nI (by omega), nI_1]
      obtain ⟨ih1, ih2⟩ := ih (i + 1) (by omega) (by omega)
      by_cases hx : σ 2 (r * 4 + i) = x
      · rw [if_pos hx]
        exact ⟨fun _ => rfl, fun h => (h ⟨i, by omega, by omega, hx⟩).elim⟩
      · rw [if_neg hx]
        refine ⟨fun ⟨j, a, b, e⟩ => ih1 ⟨j, ?_, b, e⟩, fun h => ih2 fun ⟨j, a, b, e⟩ => h ⟨j, by omega, b, e⟩⟩
        by_cases hj : j = i
        · subst hj; exact absurd e hx
        · omega
theorem next_to_ok {μ : Mem} {r : Nat} (hr : r < 8) (x : Int32) : ((∃ j, 0 ≤ j ∧ j < 4 ∧ μ 1 (r * 4 + j) = x) → f_X6_isNextTo μ (nI r) x = some 1) ∧ ((¬ ∃ j, 0 ≤ j ∧ j < 4 ∧ μ 1 (r * 4 + j) = x) → f_X6_isNextTo μ (nI r) x = some 0) := by
  unfold f_X6_isNextTo
  rw [n4m, show (1 : Int32) = nI 1 from rfl, show (2 : Int32) = nI 2 from rfl, show (3 : Int32) = nI 3 from rfl, nI_add, nI_add, nI_add]
  simp only [gd_ok (show r * 4 < 32 by omega) (by decide), gd_ok (show r * 4 + 1 < 32 by omega) (by decide), gd_ok (show r * 4 + 2 < 32 by omega) (by decide), gd_ok (show r * 4 + 3 < 32 by omega) (by decide), N_nI (show r * 4 < 2 ^ 31 by omega), N_nI (show r * 4 + 1 < 2 ^ 31 by omega), N_nI (show r * 4 + 2 < 2 ^ 31 by omega), N_nI (show r * 4 + 3 < 2 ^ 31 by omega), jn_s]
  by_cases h0 : μ 1 (r * 4) = x
  · rw [if_pos h0]; exact ⟨fun _ => rfl, fun h => (h ⟨0, by omega, by omega, h0⟩).elim⟩
  · rw [if_neg h0]
    by_cases h1 : μ 1 (r * 4 + 1) = x
    · rw [if_pos h1]; exact ⟨fun _ => rfl, fun h => (h ⟨1, by omega, by omega, h1⟩).elim⟩
    · rw [if_neg h1]
      by_cases h2 : μ 1 (r * 4 + 2) = x
      · rw [if_pos h2]; exact ⟨fun _ => rfl, fun h => (h ⟨2, by omega, by omega, h2⟩).elim⟩
      · rw [if_neg h2]
        by_cases h3 : μ 1 (r * 4 + 3) = x
        · rw [if_pos h3]; exact ⟨fun _ => rfl, fun h => (h ⟨3, by omega, by omega, h3⟩).elim⟩
        · rw [if_neg h3]
          refine ⟨fun ⟨j, _, b, e⟩ => ?_, fun _ => rfl⟩
          rcases (show j = 0 ∨ j = 1 ∨ j = 2 ∨ j = 3 by omega) with rfl | rfl | rfl | rfl
          · exact absurd e h0
          · exact absurd e h1
          · exact absurd e h2
          · exact absurd e h3
theorem leads_ok {μ : Mem} {r : Nat} (hr : r < 8) (x : Int32) : ∃ t : Int32, (t = 0 ∨ t = 1) ∧ f_X6_isNextTo μ (nI r) x = some t ∧ ∀ σ, RW σ μ → f_X2_leadsTo σ (nI r) x = some t := by
  have hiff : ∀ σ, RW σ μ → ((∃ j, 0 ≤ j ∧ j < 4 ∧ σ 2 (r * 4 + j) = x) ↔ ∃ j, 0 ≤ j ∧ j < 4 ∧ μ 1 (r * 4 + j) = x) := fun σ hR => by
    obtain ⟨⟨a1, -⟩, -⟩ := hR
    constructor
    · rintro ⟨j, a, b, e⟩; exact ⟨j, a, b, by rw [← a1 _ (by omega)]; exact e⟩
    · rintro ⟨j, a, b, e⟩; exact ⟨j, a, b, by rw [a1 _ (by omega)]; exact e⟩
  by_cases h : ∃ j, 0 ≤ j ∧ j < 4 ∧ μ 1 (r * 4 + j) = x
  · exact ⟨1, Or.inr rfl, (next_to_ok hr x).1 h, fun σ hR => (leads_loop hr x _ FU 0 (by omega) (by show 5 ≤ 0 + 6000; omega)).1 ((hiff σ hR).mpr h)⟩
  · exact ⟨0, Or.inl rfl, (next_to_ok hr x).2 h, fun σ hR => (leads_loop hr x _ FU 0 (by omega) (by show 5 ≤ 0 + 6000; omega)).2 (fun z => h ((hiff σ hR).mp z))⟩
/-- all players hear in turn -/
theorem tell_loop {a np rm : Nat} {w loud : Int32} (hloud : loud = 0 ∨ loud = 1) (hnp : np ≤ 4) (ha : a < np) (hrm : rm < 8) : ∀ (n i c g r : Nat) (μ : Mem), i ≤ np → np + 1 ≤ i + n → IW g r μ → pcN μ = np → μ 6 a = nI rm → c ≤ i →
    ∃ c' μ', c' ≤ 4 ∧ (∀ k, L_X6_speaks_44 n k w loud (nI a) (nI c) (nI i) μ = k (nI c') μ') ∧ IW g r μ' ∧ (∀ k, k ≠ 12 → k ≠ 13 → μ' k = μ k) ∧ ∀ σ, RW σ μ → ∃ σ', (∀ k, L_X4_tell_17 n k (nI a) w loud (nI rm) (nI c) (nI i) σ = k (nI c') σ') ∧ RW σ' μ' := by
  intro n
  induction n with
  | zero => intro i c g r μ h1 h2; omega
  | succ n ih =>
    intro i c g r μ h1 h2 hI hp hra hci
    have hp5 := hI.np.2
    rw [hp] at hp5
    have hs0 : ∀ σ, RW σ μ → σ 8 0 = nI np := fun σ hR => hR.2.1.1.trans hp5
    by_cases hi : i = np
    · subst hi
      refine ⟨c, μ, by omega, fun k => ?_, hI, fun _ _ _ => rfl, fun σ hR => ⟨σ, fun k => ?_, hR⟩⟩
      · rw [L_X6_speaks_44, hp5]; exact if_pos (nI_le (Nat.le_refl _) (by omega))
      · rw [L_X4_tell_17, hs0 σ hR]; exact if_pos (nI_le (Nat.le_refl _) (by omega))
    · obtain ⟨⟨ri, ri1, ri2⟩, -⟩ := hI.pl (i := i) (by omega)
      have g4i : ∀ {α : Type} (x : Option α), gd (nI i) 4 x = x := fun x => gd_ok (by omega) (by decide)
      have g4a : ∀ {α : Type} (x : Option α), gd (nI a) 4 x = x := fun x => gd_ok (by omega) (by decide)
      have hNi : (nI i).toNatClampNeg = i := N_nI (by omega)
      have hNa : (nI a).toNatClampNeg = a := N_nI (by omega)
      have hsr : ∀ σ, RW σ μ → σ 9 i = nI ri := fun σ hR => (hR.2.1.2 i (by omega)).1.trans ri2
      -- skipped, or heard
      have skip : (∀ k, L_X6_speaks_44 (n + 1) k w loud (nI a) (nI c) (nI i) μ = L_X6_speaks_44 n k w loud (nI a) (nI c) (nI i + 1) μ) → (∀ σ, RW σ μ → ∀ k, L_X4_tell_17 (n + 1) k (nI a) w loud (nI rm) (nI c) (nI i) σ = L_X4_tell_17 n k (nI a) w loud (nI rm) (nI c) (nI i + 1) σ) →
          ∃ c' μ', c' ≤ 4 ∧ (∀ k, L_X6_speaks_44 (n + 1) k w loud (nI a) (nI c) (nI i) μ = k (nI c') μ') ∧ IW g r μ' ∧ (∀ k, k ≠ 12 → k ≠ 13 → μ' k = μ k) ∧ ∀ σ, RW σ μ → ∃ σ', (∀ k, L_X4_tell_17 (n + 1) k (nI a) w loud (nI rm) (nI c) (nI i) σ = k (nI c') σ') ∧ RW σ' μ' := fun hm hc => by
        obtain ⟨c', μ', b0, b1, b2, b3, b4⟩ := ih (i + 1) c g r μ (by omega) (by omega) hI hp hra (by omega)
        refine ⟨c', μ', b0, fun k => by rw [hm, nI_1]; exact b1 k, b2, b3, fun σ hR => ?_⟩
        obtain ⟨σ', d1, d2⟩ := b4 σ hR
        exact ⟨σ', fun k => by rw [hc σ hR, nI_1]; exact d1 k, d2⟩
      have hear : (∀ k, L_X6_speaks_44 (n + 1) k w loud (nI a) (nI c) (nI i) μ = bd (f_X6_hears μ (nI i) (nI a) w) fun μ1 => L_X6_speaks_44 n k w loud (nI a) (nI c + 1) (nI i + 1) μ1) → (∀ σ, RW σ μ → ∀ k, L_X4_tell_17 (n + 1) k (nI a) w loud (nI rm) (nI c) (nI i) σ = bd (f_X1_hear σ (nI i) (100 * nI a + w)) fun σ1 => L_X4_tell_17 n k (nI a) w loud (nI rm) (nI c + 1) (nI i + 1) σ1) →
          ∃ c' μ', c' ≤ 4 ∧ (∀ k, L_X6_speaks_44 (n + 1) k w loud (nI a) (nI c) (nI i) μ = k (nI c') μ') ∧ IW g r μ' ∧ (∀ k, k ≠ 12 → k ≠ 13 → μ' k = μ k) ∧ ∀ σ, RW σ μ → ∃ σ', (∀ k, L_X4_tell_17 (n + 1) k (nI a) w loud (nI rm) (nI c) (nI i) σ = k (nI c') σ') ∧ RW σ' μ' := fun hm hc => by
        obtain ⟨μ1, v, e0, e1, e2, e3, e4⟩ := hear_ok (s := nI a) (w := w) hI (p := i) (by omega)
        subst e0
        obtain ⟨c', μ', b0, b1, b2, b3, b4⟩ := ih (i + 1) (c + 1) g r μ1 (by omega) (by omega) e2 (by unfold pcN at hp ⊢; rw [e3 0 (by decide) (by decide)]; exact hp) (by rw [e3 6 (by decide) (by decide)]; exact hra) (by omega)
        refine ⟨c', μ', b0, fun k => by rw [hm, e1, bd_s, nI_1, nI_1]; exact b1 k, b2, fun k q1 q2 => (b3 k q1 q2).trans (e3 k q1 q2), fun σ hR => ?_⟩
        obtain ⟨σ1, f1, f2⟩ := e4 σ hR
        obtain ⟨σ', d1, d2⟩ := b4 σ1 f2
        exact ⟨σ', fun k => by rw [hc σ hR, f1, bd_s, nI_1, nI_1]; exact d1 k, d2⟩
      have hsp : ∀ k, L_X6_speaks_44 (n + 1) k w loud (nI a) (nI c) (nI i) μ = if nI i = nI a then L_X6_speaks_44 n k w loud (nI a) (nI c) (nI i + 1) μ else if nI ri = nI rm then (bd (f_X6_hears μ (nI i) (nI a) w) fun μ1 => L_X6_speaks_44 n k w loud (nI a) (nI c + 1) (nI i + 1) μ1) else if loud = 0 then L_X6_speaks_44 n k w loud (nI a) (nI c) (nI i + 1) μ else bd (f_X6_isNextTo μ (nI rm) (nI ri)) fun v => if v = 0 then L_X6_speaks_44 n k w loud (nI a) (nI c) (nI i + 1) μ else (bd (f_X6_hears μ (nI i) (nI a) w) fun μ1 => L_X6_speaks_44 n k w loud (nI a) (nI c + 1) (nI i + 1) μ1) := fun k => by
        rw [L_X6_speaks_44, hp5, if_neg (nI_ge (by omega) (by omega))]
        simp only [jn_s, g4i, g4a, hNi, hNa, ri2, hra]
      have hte : ∀ σ, RW σ μ → ∀ k, L_X4_tell_17 (n + 1) k (nI a) w loud (nI rm) (nI c) (nI i) σ = if nI ri = nI rm then (if nI i = nI a then L_X4_tell_17 n k (nI a) w loud (nI rm) (nI c) (nI i + 1) σ else bd (f_X1_hear σ (nI i) (100 * nI a + w)) fun σ1 => L_X4_tell_17 n k (nI a) w loud (nI rm) (nI c + 1) (nI i + 1) σ1) else if loud = 0 then L_X4_tell_17 n k (nI a) w loud (nI rm) (nI c) (nI i + 1) σ else bd (f_X2_leadsTo σ (nI rm) (nI ri)) fun v => if v = 0 then L_X4_tell_17 n k (nI a) w loud (nI rm) (nI c) (nI i + 1) σ else (if nI i = nI a then L_X4_tell_17 n k (nI a) w loud (nI rm) (nI c) (nI i + 1) σ else bd (f_X1_hear σ (nI i) (100 * nI a + w)) fun σ1 => L_X4_tell_17 n k (nI a) w loud (nI rm) (nI c + 1) (nI i + 1) σ1) := fun σ hR k => by
        rw [L_X4_tell_17, hs0 σ hR, if_neg (nI_ge (by omega) (by omega))]
        simp only [jn_s, g4i, hNi, hsr σ hR, ite_self, if_true, show ((1 : Int32) = 0) = False from by decide, if_false]
      by_cases hia : nI i = nI a
      · have hia' : i = a := nI_inj (by omega) (by omega) hia
        subst hia'
        have : ri = rm := nI_inj (by omega) (by omega) (ri2.symm.trans hra)
        subst this
        exact skip (fun k => by rw [hsp, if_pos rfl]) (fun σ hR k => by rw [hte σ hR, if_pos rfl, if_pos rfl])
      · by_cases hrr : nI ri = nI rm
        · exact hear (fun k => by rw [hsp, if_neg hia, if_pos hrr]) (fun σ hR k => by rw [hte σ hR, if_pos hrr, if_neg hia])
        · by_cases hl : loud = 0
          · exact skip (fun k => by rw [hsp, if_neg hia, if_neg hrr, if_pos hl]) (fun σ hR k => by rw [hte σ hR, if_neg hrr, if_pos hl])
          · obtain ⟨t, t1, t2, t3⟩ := leads_ok (μ := μ) hrm (nI ri)
            rcases t1 with rfl | rfl
            · exact skip (fun k => by rw [hsp, if_neg hia, if_neg hrr, if_neg hl, t2, bd_s, if_pos rfl]) (fun σ hR k => by rw [hte σ hR, if_neg hrr, if_neg hl, t3 σ hR, bd_s, if_pos rfl])
            · exact hear (fun k => by rw [hsp, if_neg hia, if_neg hrr, if_neg hl, t2, bd_s, if_neg (by decide)]) (fun σ hR k => by rw [hte σ hR, if_neg hrr, if_neg hl, t3 σ hR, bd_s, if_neg (by decide), if_neg hia])
