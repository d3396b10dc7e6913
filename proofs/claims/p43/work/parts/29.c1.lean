/-! THE FIGHT -/
theorem jrem_nI {a d : Nat} (ha : a < 2 ^ 31) (h0 : 0 < d) (hd : d < 2 ^ 31) : jrem (nI a) (nI d) = nI (a % d) := pk_rem ha h0 hd
/-- the die's next seed, and what it shows -/
def nsd (q : Nat) : Nat := (25173 * q + 13849) % 65536
theorem nsd_lt (q : Nat) : nsd q < 65536 := Nat.mod_lt _ (by decide)
theorem seed_nI {q : Nat} (hq : q < 65536) : jrem ((25173 * nI q) + 13849) 65536 = nI (nsd q) := by
  rw [show (25173 : Int32) = nI 25173 from rfl, show (13849 : Int32) = nI 13849 from rfl, show (65536 : Int32) = nI 65536 from rfl, pk_mul, nI_add, jrem_nI (by omega) (by decide) (by decide)]
  rfl
theorem roll_ok {σ : Mem} {q : Nat} (hq : q < 65536) (h : σ 0 4 = nI q) : f_X4_roll σ = some (nI (nsd q % 6 + 1), mu σ 0 4 (nI (nsd q))) := by
  unfold f_X4_roll
  have := nsd_lt q
  rw [h, seed_nI hq, stp_s, mu_at, show (6 : Int32) = nI 6 from rfl, jrem_nI (by omega) (by decide) (by decide), nI_1]
theorem rolls_ok {μ : Mem} {q a s : Nat} (hq : q < 65536) (h : μ 0 15 = nI q) (ha : a < 4) (hs : μ 8 a = nI s) : f_X6_rolls μ (nI a) = some (nI (nsd q % 6 + 1 + s), mu μ 0 15 (nI (nsd q))) := by
  unfold f_X6_rolls
  have := nsd_lt q
  rw [h, seed_nI hq, stp_s, mu_at, gd_ok ha (by decide), N_nI (by omega), mu_n (by decide), hs, show (6 : Int32) = nI 6 from rfl, jrem_nI (by omega) (by decide) (by decide), show (1 : Int32) = nI 1 from rfl, nI_add, nI_add, Nat.add_comm 1]
theorem sub_flip {A B : Nat} (h : A ≤ B) (x : Int32) : x + (nI A - nI B) = x - nI (B - A) := by
  have e : nI B = nI A + nI (B - A) := by rw [nI_add]; congr 1; omega
  rw [e, Int32.sub_eq_add_neg, Int32.neg_add, Int32.sub_eq_add_neg, ← Int32.add_assoc (nI A), Int32.add_right_neg, Int32.zero_add, ← Int32.sub_eq_add_neg]
theorem jabs_pos {A B : Nat} (h : B ≤ A) (hA : A < 2 ^ 30) : jabs (nI A - nI B) = nI (A - B) := by
  rw [pk_sub h]
  unfold jabs
  rw [if_pos (nI_pos' (by omega))]
theorem jabs_neg {A B : Nat} (h : A < B) (hB : B < 2 ^ 30) : jabs (nI A - nI B) = nI (B - A) := by
  unfold jabs
  rw [if_neg (i32_lt_le.mpr (pk_sneg (by omega) h))]
  have := sub_flip (Nat.le_of_lt h) 0
  rw [Int32.zero_add] at this
  rw [this, Int32.zero_sub, Int32.zero_sub, Int32.neg_neg]
/-- what a fight leaves alone -/
def SmF (μ μ' : Mem) : Prop := (∀ k, k ≠ 0 → k ≠ 9 → μ' k = μ k) ∧ ∀ i, i ≠ 15 → μ' 0 i = μ 0 i
theorem SmF.rf {μ : Mem} : SmF μ μ := ⟨fun _ _ _ => rfl, fun _ _ => rfl⟩
theorem SmF.tr {μ μ' μ'' : Mem} (h : SmF μ μ') (h' : SmF μ' μ'') : SmF μ μ'' := ⟨fun k a b => (h'.1 k a b).trans (h.1 k a b), fun i a => (h'.2 i a).trans (h.2 i a)⟩
theorem attack_done {n i a p : Nat} {x : Int32} (hx : ¬ x = -1) (k : Int32 → Mem → Option (Int32 × Mem)) (μ : Mem) : L_X6_attack_45 (n + 1) k (nI p) (nI a) x (nI i) μ = k x μ := by
  rw [L_X6_attack_45]
  by_cases h : (3 : Int32) ≤ nI i
  · rw [if_pos h]
  · rw [if_neg h, if_neg hx]
theorem fight_loop {a p np : Nat} (hnp : np ≤ 4) (ha : a < np) (hp : p < np) (hap : a ≠ p) : ∀ (n i g r : Nat) (μ : Mem), i ≤ 3 → 5 ≤ i + n → IW g r μ → pcN μ = np →
    ∃ x μ', (x = -1 ∧ IW g r μ' ∨ ∃ l, (l = a ∨ l = p) ∧ x = nI l ∧ IW g r (mu μ' 9 l 10)) ∧ (∀ k, L_X6_attack_45 n k (nI p) (nI a) (-1) (nI i) μ = k x μ') ∧ SmF μ μ' ∧
      ∀ σ, RW σ μ → ∃ σ', (x = -1 → ∀ k, L_X4_fight_2 n k (nI a) (nI p) (nI i) σ = k σ') ∧ (x ≠ -1 → ∀ k, L_X4_fight_2 n k (nI a) (nI p) (nI i) σ = some (x, σ')) ∧ RW σ' μ' := by
  intro n
  induction n with
  | zero => intro i g r μ h1 h2; omega
  | succ n ih =>
    intro i g r μ h1 h2 hI hpc
    by_cases hi : i = 3
    · subst hi
      refine ⟨-1, μ, Or.inl ⟨rfl, hI⟩, fun k => ?_, SmF.rf, fun σ hR => ⟨σ, fun _ k => ?_, fun h => absurd rfl h, hR⟩⟩
      · rw [L_X6_attack_45]; exact if_pos (by decide)
      · rw [L_X4_fight_2]; exact if_pos (by decide)
    · have hi3 : ¬ (3 : Int32) ≤ nI i := nI_ge (a := i) (b := 3) (by omega) (by omega)
      obtain ⟨-, -, -, ⟨q, q1, q2⟩, -⟩ := id hI
      obtain ⟨-, ⟨sa, sa1, sa2⟩, ⟨ha', hh1, hh2, hh3⟩⟩ := hI.pl (i := a) (by omega)
      obtain ⟨-, ⟨sp, sp1, sp2⟩, ⟨hp', hq1, hq2, hq3⟩⟩ := hI.pl (i := p) (by omega)
      obtain ⟨A, hA⟩ : ∃ A, nsd q % 6 + 1 + sa = A := ⟨_, rfl⟩
      obtain ⟨B, hB⟩ : ∃ B, nsd (nsd q) % 6 + 1 + sp = B := ⟨_, rfl⟩
      have hA12 : A ≤ 12 := by have := Nat.mod_lt (nsd q) (show 0 < 6 by decide); omega
      have hB12 : B ≤ 12 := by have := Nat.mod_lt (nsd (nsd q)) (show 0 < 6 by decide); omega
      obtain ⟨μ1, hμ1⟩ : ∃ μ1, μ1 = mu μ 0 15 (nI (nsd (nsd q))) := ⟨_, rfl⟩
      have hI1 : IW g r μ1 := by rw [hμ1]; exact hI.seed ⟨_, nsd_lt _, rfl⟩
      have hS1 : SmF μ μ1 := by rw [hμ1]; exact ⟨fun k c _ => mu_n c, fun j c => mu_pl c⟩
      have h9 : ∀ j, μ1 9 j = μ 9 j := fun j => by rw [hμ1, mu_n (by decide)]
      have r1 : f_X6_rolls μ (nI a) = some (nI A, mu μ 0 15 (nI (nsd q))) := by rw [← hA]; exact rolls_ok q1 q2 (by omega) sa2
      have r2 : f_X6_rolls (mu μ 0 15 (nI (nsd q))) (nI p) = some (nI B, μ1) := by
        rw [rolls_ok (nsd_lt q) (mu_at _ _ _ _) (by omega) (by rw [mu_n (by decide)]; exact sp2), mu_mu, ← hμ1, hB]
      have g4a : ∀ {α : Type} (x : Option α), gd (nI a) 4 x = x := fun x => gd_ok (by omega) (by decide)
      have g4p : ∀ {α : Type} (x : Option α), gd (nI p) 4 x = x := fun x => gd_ok (by omega) (by decide)
      have hNa : (nI a).toNatClampNeg = a := N_nI (by omega)
      have hNp : (nI p).toNatClampNeg = p := N_nI (by omega)
      -- the class's rolls
      have hc : ∀ σ, RW σ μ → ∃ σ1, RW σ1 μ1 ∧ (∀ k, L_X4_fight_2 (n + 1) k (nI a) (nI p) (nI i) σ =
          if nI B ≤ nI A then (if 0 < nI hp' - jabs (nI A - nI B) then L_X4_fight_2 n k (nI a) (nI p) (nI i + 1) (mu σ1 12 p (nI hp' - jabs (nI A - nI B))) else some (nI p, mu σ1 12 p (nI hp' - jabs (nI A - nI B))))
          else (if 0 < nI ha' - jabs (nI A - nI B) then L_X4_fight_2 n k (nI a) (nI p) (nI i + 1) (mu σ1 12 a (nI ha' - jabs (nI A - nI B))) else some (nI a, mu σ1 12 a (nI ha' - jabs (nI A - nI B))))) := fun σ hR => by
        have hRs := hR.seed (nI (nsd (nsd q)))
        rw [← hμ1] at hRs
        refine ⟨_, hRs, fun k => ?_⟩
        obtain ⟨-, ⟨b0, b⟩, -, ⟨d1, d2⟩, -⟩ := hR
        obtain ⟨-, -, ba1, ba2, -⟩ := b a (by omega)
        obtain ⟨-, -, bp1, bp2, -⟩ := b p (by omega)
        rw [L_X4_fight_2, if_neg hi3, roll_ok q1 (d2.trans q2), bd2_s, g4a, roll_ok (nsd_lt q) (mu_at _ _ _ _), bd2_s, g4p]
        simp only [mu_mu, jn_s, mu_n (show (11 : Nat) ≠ 0 by decide), mu_n (show (12 : Nat) ≠ 0 by decide), hNa, hNp, ba1, bp1, sa2, sp2, nI_add, hA, hB, g4a, g4p, stp_s, ba2, bp2, hh3, hq3, mu_at]
      have hm : ∀ k, L_X6_attack_45 (n + 1) k (nI p) (nI a) (-1) (nI i) μ =
          (let fin := fun μ2 : Mem => if 0 < μ2 9 p then (if 0 < μ2 9 a then L_X6_attack_45 n k (nI p) (nI a) (-1) (nI i + 1) μ2 else L_X6_attack_45 n k (nI p) (nI a) (nI a) (nI i + 1) μ2) else L_X6_attack_45 n k (nI p) (nI a) (nI p) (nI i + 1) μ2
           let y := if nI A - nI B ≤ 0 then 0 else nI A - nI B
           let z := if 0 ≤ nI A - nI B then 0 else nI A - nI B
           fin (mu (mu μ1 9 p (nI hp' - y)) 9 a (nI ha' + z))) := fun k => by
        rw [L_X6_attack_45, if_neg hi3, if_pos rfl, r1, bd2_s, r2, bd2_s]
        simp only [jn_s, g4a, g4p, hNa, hNp, stp_s, h9, hq3, hh3, mu_pl hap]
        by_cases c1 : nI A - nI B ≤ 0
        · rw [if_pos c1, if_pos c1]
          by_cases c2 : 0 ≤ nI A - nI B
          · rw [if_pos c2, if_pos c2]
          · rw [if_neg c2, if_neg c2]
        · rw [if_neg c1, if_neg c1]
          by_cases c2 : 0 ≤ nI A - nI B
          · rw [if_pos c2, if_pos c2]
          · rw [if_neg c2, if_neg c2]
      -- one more round with μ2
      have go : ∀ (μ2 : Mem), IW g r μ2 → SmF μ μ2 → (∀ k, L_X6_attack_45 (n + 1) k (nI p) (nI a) (-1) (nI i) μ = L_X6_attack_45 n k (nI p) (nI a) (-1) (nI i + 1) μ2) → (∀ σ, RW σ μ → ∃ σ2, RW σ2 μ2 ∧ ∀ k, L_X4_fight_2 (n + 1) k (nI a) (nI p) (nI i) σ = L_X4_fight_2 n k (nI a) (nI p) (nI i + 1) σ2) →
          ∃ x μ', (x = -1 ∧ IW g r μ' ∨ ∃ l, (l = a ∨ l = p) ∧ x = nI l ∧ IW g r (mu μ' 9 l 10)) ∧ (∀ k, L_X6_attack_45 (n + 1) k (nI p) (nI a) (-1) (nI i) μ = k x μ') ∧ SmF μ μ' ∧
      ∀ σ, RW σ μ → ∃ σ', (x = -1 → ∀ k, L_X4_fight_2 (n + 1) k (nI a) (nI p) (nI i) σ = k σ') ∧ (x ≠ -1 → ∀ k, L_X4_fight_2 (n + 1) k (nI a) (nI p) (nI i) σ = some (x, σ')) ∧ RW σ' μ' := fun μ2 hI2 hS2 e1 e2 => by
        obtain ⟨x, μ', f1, f2, f3, f4⟩ := ih (i + 1) g r μ2 (by omega) (by omega) hI2 (by unfold pcN at hpc ⊢; rw [hS2.2 5 (by decide)]; exact hpc)
        refine ⟨x, μ', f1, fun k => by rw [e1, nI_1]; exact f2 k, hS2.tr f3, fun σ hR => ?_⟩
        obtain ⟨σ2, d1, d2⟩ := e2 σ hR
        obtain ⟨σ', d3, d4, d5⟩ := f4 σ2 d1
        exact ⟨σ', fun h k => by rw [d2, nI_1]; exact d3 h k, fun h k => by rw [d2, nI_1]; exact d4 h k, d5⟩
      -- the player l is beaten, in the state μ2
      have fin : ∀ (l : Nat) (μ2 : Mem), (l = a ∨ l = p) → IW g r (mu μ2 9 l 10) → SmF μ μ2 → (∀ k, L_X6_attack_45 (n + 1) k (nI p) (nI a) (-1) (nI i) μ = L_X6_attack_45 n k (nI p) (nI a) (nI l) (nI i + 1) μ2) → (∀ σ, RW σ μ → ∃ σ2, RW σ2 μ2 ∧ ∀ k, L_X4_fight_2 (n + 1) k (nI a) (nI p) (nI i) σ = some (nI l, σ2)) →
          ∃ x μ', (x = -1 ∧ IW g r μ' ∨ ∃ l, (l = a ∨ l = p) ∧ x = nI l ∧ IW g r (mu μ' 9 l 10)) ∧ (∀ k, L_X6_attack_45 (n + 1) k (nI p) (nI a) (-1) (nI i) μ = k x μ') ∧ SmF μ μ' ∧
      ∀ σ, RW σ μ → ∃ σ', (x = -1 → ∀ k, L_X4_fight_2 (n + 1) k (nI a) (nI p) (nI i) σ = k σ') ∧ (x ≠ -1 → ∀ k, L_X4_fight_2 (n + 1) k (nI a) (nI p) (nI i) σ = some (x, σ')) ∧ RW σ' μ' := fun l μ2 hl hI2 hS2 e1 e2 => by
        have hlx : ¬ nI l = -1 := nI_neg1 (by rcases hl with rfl | rfl <;> omega)
        obtain ⟨n', rfl⟩ : ∃ n', n = n' + 1 := ⟨n - 1, by omega⟩
        refine ⟨nI l, μ2, Or.inr ⟨l, hl, rfl, hI2⟩, fun k => by rw [e1, nI_1, attack_done hlx], hS2, fun σ hR => ?_⟩
        obtain ⟨σ2, d1, d2⟩ := e2 σ hR
        exact ⟨σ2, fun h => absurd h hlx, fun _ k => d2 k, d1⟩
      by_cases hAB : B ≤ A
      · have hle : nI B ≤ nI A := nI_le hAB (by omega)
        have hz : (if 0 ≤ nI A - nI B then (0 : Int32) else nI A - nI B) = 0 := by rw [pk_sub hAB, if_pos (nI_pos' (by omega))]
        have hy : (if nI A - nI B ≤ 0 then (0 : Int32) else nI A - nI B) = nI (A - B) := by
          rw [pk_sub hAB]
          by_cases c : A = B
          · subst c; rw [Nat.sub_self]; exact if_pos (by decide)
          · rw [if_neg (nI_nle (by omega) (by omega))]
        have hm2 : ∀ k, L_X6_attack_45 (n + 1) k (nI p) (nI a) (-1) (nI i) μ = if 0 < nI hp' - nI (A - B) then L_X6_attack_45 n k (nI p) (nI a) (-1) (nI i + 1) (mu μ1 9 p (nI hp' - nI (A - B))) else L_X6_attack_45 n k (nI p) (nI a) (nI p) (nI i + 1) (mu μ1 9 p (nI hp' - nI (A - B))) := fun k => by
          rw [hm]
          simp only [hz, hy, Int32.add_zero]
          have e : mu (mu μ1 9 p (nI hp' - nI (A - B))) 9 a (nI ha') = mu μ1 9 p (nI hp' - nI (A - B)) := by
            have := mu_id (mu μ1 9 p (nI hp' - nI (A - B))) 9 a
            rw [mu_pl hap, h9, hh3] at this
            exact this
          rw [e, mu_at, mu_pl hap, h9, hh3]
          rw [if_pos (show (0 : Int32) < nI ha' from nI_lt (a := 0) (by omega) (by omega))]
        by_cases hd : A - B < hp'
        · have hv : nI hp' - nI (A - B) = nI (hp' - (A - B)) := pk_sub (by omega)
          have h0 : (0 : Int32) < nI (hp' - (A - B)) := nI_lt (a := 0) (by omega) (by omega)
          refine go (mu μ1 9 p (nI (hp' - (A - B)))) (hI1.health p ⟨_, by omega, by omega, rfl⟩) (hS1.tr ⟨fun k _ c => mu_n c, fun j _ => by rw [mu_n (by decide)]⟩) (fun k => by rw [hm2, hv, if_pos h0]) (fun σ hR => ?_)
          obtain ⟨σ1, s1, s2⟩ := hc σ hR
          exact ⟨_, s1.health p _, fun k => by rw [s2, if_pos hle, jabs_pos hAB (by omega), hv, if_pos h0]⟩
        · have h0 : ¬ (0 : Int32) < nI hp' - nI (A - B) := fun z => by
            have z' := Int32.lt_iff_toInt_lt.mp z
            rw [pk_sub_toInt (by omega) (by omega)] at z'
            have : (0 : Int32).toInt = 0 := by decide
            omega
          refine fin p (mu μ1 9 p (nI hp' - nI (A - B))) (Or.inr rfl) (by rw [mu_mu]; exact hI1.health p ⟨10, by omega, by omega, rfl⟩) (hS1.tr ⟨fun k _ c => mu_n c, fun j _ => by rw [mu_n (by decide)]⟩) (fun k => by rw [hm2, if_neg h0]) (fun σ hR => ?_)
          obtain ⟨σ1, s1, s2⟩ := hc σ hR
          exact ⟨_, s1.health p _, fun k => by rw [s2, if_pos hle, jabs_pos hAB (by omega), if_neg h0]⟩
      · have hlt : A < B := by omega
        have hle : ¬ nI B ≤ nI A := nI_ge hlt (by omega)
        have hneg : nI A - nI B < 0 := pk_sneg (by omega) hlt
        have hz : (if 0 ≤ nI A - nI B then (0 : Int32) else nI A - nI B) = nI A - nI B := if_neg (i32_lt_le.mpr hneg)
        have hy : (if nI A - nI B ≤ 0 then (0 : Int32) else nI A - nI B) = 0 := if_pos (Int32.le_of_lt hneg)
        have hm2 : ∀ k, L_X6_attack_45 (n + 1) k (nI p) (nI a) (-1) (nI i) μ = if 0 < nI ha' - nI (B - A) then L_X6_attack_45 n k (nI p) (nI a) (-1) (nI i + 1) (mu μ1 9 a (nI ha' - nI (B - A))) else L_X6_attack_45 n k (nI p) (nI a) (nI a) (nI i + 1) (mu μ1 9 a (nI ha' - nI (B - A))) := fun k => by
          rw [hm]
          simp only [hz, hy, Int32.sub_zero, sub_flip (Nat.le_of_lt hlt)]
          have e : mu μ1 9 p (nI hp') = μ1 := by
            have := mu_id μ1 9 p
            rw [h9, hq3] at this
            exact this
          rw [e, mu_at, mu_pl (Ne.symm hap), h9, hq3]
          rw [if_pos (show (0 : Int32) < nI hp' from nI_lt (a := 0) (by omega) (by omega))]
        by_cases hd : B - A < ha'
        · have hv : nI ha' - nI (B - A) = nI (ha' - (B - A)) := pk_sub (by omega)
          have h0 : (0 : Int32) < nI (ha' - (B - A)) := nI_lt (a := 0) (by omega) (by omega)
          refine go (mu μ1 9 a (nI (ha' - (B - A)))) (hI1.health a ⟨_, by omega, by omega, rfl⟩) (hS1.tr ⟨fun k _ c => mu_n c, fun j _ => by rw [mu_n (by decide)]⟩) (fun k => by rw [hm2, hv, if_pos h0]) (fun σ hR => ?_)
          obtain ⟨σ1, s1, s2⟩ := hc σ hR
          exact ⟨_, s1.health a _, fun k => by rw [s2, if_neg hle, jabs_neg hlt (by omega), hv, if_pos h0]⟩
        · have h0 : ¬ (0 : Int32) < nI ha' - nI (B - A) := fun z => by
            have z' := Int32.lt_iff_toInt_lt.mp z
            rw [pk_sub_toInt (by omega) (by omega)] at z'
            have : (0 : Int32).toInt = 0 := by decide
            omega
          refine fin a (mu μ1 9 a (nI ha' - nI (B - A))) (Or.inl rfl) (by rw [mu_mu]; exact hI1.health a ⟨10, by omega, by omega, rfl⟩) (hS1.tr ⟨fun k _ c => mu_n c, fun j _ => by rw [mu_n (by decide)]⟩) (fun k => by rw [hm2, if_neg h0]) (fun σ hR => ?_)
          obtain ⟨σ1, s1, s2⟩ := hc σ hR
          exact ⟨_, s1.health a _, fun k => by rw [s2, if_neg hle, jabs_neg hlt (by omega), if_neg h0]⟩
