/-! FIGHTS -/
theorem neg_add (x : Int32) : -x + x = 0 := Int32.add_left_neg x
theorem dlt_gsum {l ro : Nat} {μ ν : Mem} (h5 : ν 0 5 = μ 0 5) (hl : l < pcN μ) (hro : ro < 8) (e11 : ν 11 = fun j => if l * 5 + 0 ≤ j ∧ j < l * 5 + 5 then 0 else μ 11 j) (e2 : ν 2 = fun j => if ro * 5 + 0 ≤ j ∧ j < ro * 5 + 5 then μ 2 j + μ 11 (l * 5 + (j - ro * 5)) else μ 2 j) (e5 : ν 5 = μ 5) : ∀ q, q < 5 → gsum ν q = gsum μ q := fun q hq => by
  have hpc : pcN ν = pcN μ := by unfold pcN; rw [h5]
  have s11 : (fun i => ν 11 (i * 5 + q)) = upd (fun i => μ 11 (i * 5 + q)) l (μ 11 (l * 5 + q) + -(μ 11 (l * 5 + q))) := by
    funext i
    rw [e11]
    by_cases hi : i = l
    · subst hi
      rw [upd_s, Int32.add_right_neg]
      exact if_pos (by omega)
    · rw [upd_n hi]
      exact if_neg (by omega)
  have s2 : (fun i => ν 2 (i * 5 + q)) = upd (fun i => μ 2 (i * 5 + q)) ro (μ 2 (ro * 5 + q) + μ 11 (l * 5 + q)) := by
    funext i
    rw [e2]
    by_cases hi : i = ro
    · subst hi
      rw [upd_s]
      show (if i * 5 + 0 ≤ i * 5 + q ∧ i * 5 + q < i * 5 + 5 then μ 2 (i * 5 + q) + μ 11 (l * 5 + (i * 5 + q - i * 5)) else μ 2 (i * 5 + q)) = _
      rw [if_pos (by omega), show i * 5 + q - i * 5 = q by omega]
    · rw [upd_n hi]
      exact if_neg (by omega)
  rw [gsum3, gsum3, hpc, s11, s2, e5, sm_upd (f := fun i => μ 11 (i * 5 + q)) (j := l) (pcN μ) 0 (Nat.zero_le _) (by omega), sm_upd (f := fun i => μ 2 (i * 5 + q)) (j := ro) 8 0 (Nat.zero_le _) (by omega)]
  exact rg1 (neg_add _)
/-- who is beaten: what stays -/
theorem mid_bM {l w rm c T : Nat} {μ μf : Mem} {y : Int32} (hI : IW c (13 * c) μ) (K : WK2 T μ) (hT : T < 2 ^ 30) (hl : l < pcN μ) (hw : w < pcN μ) (hlw : w ≠ l) (hrm : rm < 8) (e0 : ∀ i, i ≠ 15 → i ≠ 29 → μf 0 i = μ 0 i) (ek : ∀ k, k ≠ 0 → k ≠ 9 → μf k = μ k) : Mid μ (bM l w rm y μf) := by
  obtain ⟨cn, tn, pu, k1, k2, k3, k4⟩ := K
  have l1 := ns_le (f := cn) (pcN μ) l hl
  have b0 : ∀ i, i ≠ 15 → i ≠ 29 → bM l w rm y μf 0 i = μ 0 i := fun i i1 i2 => by rw [bM_n (by decide)]; exact e0 i i1 i2
  have bk : ∀ k, k ≠ 0 → k ≠ 9 → (k ≠ 2 ∧ k ≠ 6 ∧ k ≠ 7 ∧ k ≠ 9 ∧ k ≠ 10 ∧ k ≠ 11) → bM l w rm y μf k = μ k := fun k k1 k2 h => by rw [bM_n h]; exact ek k k1 k2
  have h7 : bM l w rm y μf 7 = upd (upd (μ 7) l (μ 7 l - nI (cn l / 2))) w (μ 7 w + nI (cn l / 2)) := by
    have hd : μ 7 l / 2 = nI (cn l / 2) := by rw [k1 l hl, show (2 : Int32) = nI 2 from rfl, pk_div (by omega) (by decide) (by decide)]
    unfold bM
    rw [mu_n (by decide), mu_n (by decide), mu_n (by decide), dlt_n (by decide) (by decide)]
    unfold payM
    rw [mu_s, mu_s, ek 7 (by decide) (by decide), upd_n hlw, hd]
  have e11 : bM l w rm y μf 11 = fun j => if l * 5 + 0 ≤ j ∧ j < l * 5 + 5 then 0 else μ 11 j := by
    unfold bM
    rw [mu_n (by decide), mu_n (by decide), mu_n (by decide)]
    unfold dlt
    rw [if_pos rfl, payM_n (by decide), ek 11 (by decide) (by decide)]
  have e2 : bM l w rm y μf 2 = fun j => if rm * 5 + 0 ≤ j ∧ j < rm * 5 + 5 then μ 2 j + μ 11 (l * 5 + (j - rm * 5)) else μ 2 j := by
    unfold bM
    rw [mu_n (by decide), mu_n (by decide), mu_n (by decide)]
    unfold dlt
    rw [if_neg (by decide), if_pos rfl, payM_n (by decide), payM_n (by decide), ek 11 (by decide) (by decide), ek 2 (by decide) (by decide)]
  refine ⟨⟨bk 1 (by decide) (by decide) (by decide), bk 4 (by decide) (by decide) (by decide), bk 14 (by decide) (by decide) (by decide), bk 15 (by decide) (by decide) (by decide), bk 19 (by decide) (by decide) (by decide)⟩, fun i _ i2 i3 => b0 i i2 i3, fun r _ => by rw [bk 3 (by decide) (by decide) (by decide)], fun T' hT' hk => hk.move (m := cn l / 2) hl hw hlw (b0 5 (by decide) (by decide)) (b0 14 (by decide) (by decide)) (bk 3 (by decide) (by decide) (by decide)) (fun x hx hxT => by
    have := nI_inj (by omega) (by omega) (hx.symm.trans (k1 l hl))
    omega) h7, dlt_gsum (b0 5 (by decide) (by decide)) hl hrm e11 e2 (bk 5 (by decide) (by decide) (by decide)), fun j hj _ => by
      rw [e11]
      exact if_neg (by omega)⟩
theorem sem_attack {c a T : Nat} {μ : Mem} (h : AC c a T μ) {pl : Nat} (h4 : pl < 5) : AR ok13 c a μ (f_X6_attack μ (nI pl)) (fun cost v μ5 μ'' => (v = -1 ∧ cost = 3 ∧ μ5 10 = μ 10 ∧ μ5 6 = μ 6) ∨ ∃ l t, l < pcN μ ∧ v = nI l ∧ μ 10 a = nI t ∧ ((l = a ∧ cost = 0) ∨ (l ≠ a ∧ cost = 3)) ∧ μ5 10 = upd (μ 10) l (if μ 10 l ≤ nI (t + 10) then nI (t + 10) else μ 10 l) ∧ μ5 6 = upd (μ 6) l 0 ∧ μ5 9 l = 10) := by
  obtain ⟨hI, h23, hc, Q, K, hT, ha, a3⟩ := h
  have hnp := hI.np
  unfold f_X6_attack
  rcases pl_cases hI pl h4 with ⟨p1, pm⟩ | pm
  · rcases away_cases hI ha p1 with ⟨c1, c2, c4⟩ | c4
    · obtain ⟨⟨rm, rm1, rm2⟩, -⟩ := hI.pl ha
      have g4 : ∀ {α : Type} (x : Option α), gd (nI a) 4 x = x := fun x => gd_ok (by omega) (by decide)
      have hNa : (nI a).toNatClampNeg = a := N_nI (by omega)
      have am1 : ¬ (-1 : Int32) = nI a := fun h => nI_neg1 (a := a) (by omega) h.symm
      have pm1 : ¬ (-1 : Int32) = nI pl := fun h => nI_neg1 (a := pl) (by omega) h.symm
      obtain ⟨-, -, -, -, -, -, -, -, h9, -⟩ := id hI
      obtain ⟨t, T1, T2⟩ := h9 a (by omega)
      obtain ⟨v, μf, f1, f2, f3, -⟩ := fight_loop (np := pcN μ) hnp.1 ha p1 (Ne.symm c1) FU 0 c (13 * c) (mu μ 0 29 0) (by omega) (by show 5 ≤ 0 + 6000; omega) (hI.thrown 0) (by unfold pcN; rw [mu_pl (by decide)])
      have hf0 : ∀ i, i ≠ 15 → μf 0 i = mu μ 0 29 0 0 i := fun i h => f3.2 i h
      have hf00 : ∀ i, i ≠ 15 → i ≠ 29 → μf 0 i = μ 0 i := fun i h1 h2 => by rw [hf0 i h1, mu_pl h2]
      have hfk : ∀ k, k ≠ 0 → k ≠ 9 → μf k = μ k := fun k h1 h2 => by rw [f3.1 k h1 h2, mu_n h1]
      have hpf : pcN μf = pcN μ := by unfold pcN; rw [hf0 5 (by decide), mu_pl (by decide)]
      have hm : ∀ {k : Int32 → Mem → Option (Int32 × Mem)}, L_X6_attack_45 FU k (nI pl) (nI a) (-1) 0 (mu μ 0 29 0) = k v μf := fun {k} => f2 k
      rcases f1 with ⟨rfl, hIf⟩ | ⟨l, hl, rfl, hIf⟩
      · refine ar_end (μ5 := μf) (t := 3) (w := -1) (b := -1) (fun _ => -1) (hIf.mono (by omega) (by omega)) hc ((hf00 23 (by decide) (by decide)).trans h23) (by rw [hf0 29 (by decide), mu_at]) (by rw [hpf]; exact ha) (by decide) (fun q hq => by rw [hfk 14 (by decide) (by decide)]; exact Q.2.2.2.1 q hq) ⟨⟨hfk 1 (by decide) (by decide), hfk 4 (by decide) (by decide), hfk 14 (by decide) (by decide), hfk 15 (by decide) (by decide), hfk 19 (by decide) (by decide)⟩, fun i _ i2 i3 => hf00 i i2 i3, fun r _ => by rw [hfk 3 (by decide) (by decide)], fun T _ hk => hk.same (hf00 14 (by decide) (by decide)) (hf00 5 (by decide) (by decide)) (hfk 7 (by decide) (by decide)) (hfk 3 (by decide) (by decide)), fun q _ => gsum_same (hf00 5 (by decide) (by decide)) (hfk 11 (by decide) (by decide)) (hfk 2 (by decide) (by decide)) (hfk 5 (by decide) (by decide)) q, fun j _ _ => by rw [hfk 11 (by decide) (by decide)]⟩ (fun μ'' hq _ => ?_) (fun μ'' _ => Or.inl ⟨rfl, rfl, hfk 10 (by decide) (by decide), hfk 6 (by decide) (by decide)⟩)
        have he : f_X6_ends μf (nI a) 3 (-1) (-1) = some μ'' := hq
        simp only [a3, bd_s, pm, i10, if_false, jn_s, c4, i00, if_true, can_ok, bd2_s, hm, if_neg am1, if_neg pm1, he]
      · have hl4 : l < pcN μ := by rcases hl with rfl | rfl <;> assumption
        have lm1 : (nI l = -1) = False := nI_m1 (by omega)
        have tmf : μf 10 a = nI t := by rw [hfk 10 (by decide) (by decide)]; exact T2
        have rf : ∀ j, μf 6 j = μ 6 j := fun j => by rw [hfk 6 (by decide) (by decide)]
        have hten : nI t + 10 = nI (t + 10) := nI_add t 10
        obtain ⟨t', T1', T2'⟩ := h9 l (by omega)
        have tmf' : μf 10 l = nI t' := by rw [hfk 10 (by decide) (by decide)]; exact T2'
        obtain ⟨q, q1, q2⟩ : ∃ q, q ≤ 13 * c + 10 ∧ (if nI t' ≤ nI (t + 10) then nI (t + 10) else nI t') = nI q := by
          by_cases h : nI t' ≤ nI (t + 10)
          · exact ⟨t + 10, by omega, if_pos h⟩
          · exact ⟨t', by omega, if_neg h⟩
        have q3 : nI q = if μ 10 l ≤ nI (t + 10) then nI (t + 10) else μ 10 l := by rw [T2', q2]
        have rml : μ 6 l = nI rm := by
          rcases hl with rfl | rfl
          · exact rm2
          · rw [c2]; exact rm2
        have hbM : ∀ w y, (bM l w rm (nI y) μf) 10 = upd (μ 10) l (nI y) ∧ (bM l w rm (nI y) μf) 6 = upd (μ 6) l 0 ∧ (bM l w rm (nI y) μf) 9 l = 10 := fun w y => by
          unfold bM
          refine ⟨?_, ?_, ?_⟩
          · rw [mu_s, mu_n (by decide), mu_n (by decide), dlt_n (by decide) (by decide), payM_n (by decide), hfk 10 (by decide) (by decide)]
          · rw [mu_n (by decide), mu_n (by decide), mu_s, dlt_n (by decide) (by decide), payM_n (by decide), hfk 6 (by decide) (by decide)]
          · rw [mu_n (by decide), mu_at]
        by_cases hla : l = a
        · subst hla
          have nlp : ¬ nI l = nI pl := fun h => c1 (nI_inj (by omega) (by omega) h).symm
          have htt : t' = t := nI_inj (by omega) (by omega) (T2'.symm.trans T2)
          obtain ⟨μ5, hμ5⟩ : ∃ μ5, μ5 = bM l pl rm (nI q) μf := ⟨_, rfl⟩
          have hb : f_X6_isBeaten μf (nI l) (nI pl) (nI t) = some μ5 := by
            rw [beaten_eq (l := l) (w := pl) (ro := rm) (by omega) (by omega) rm1 (by rw [rf]; exact rml), hten, tmf', q2, hμ5]; rfl
          have h50 : ∀ k, (k ≠ 2 ∧ k ≠ 6 ∧ k ≠ 7 ∧ k ≠ 9 ∧ k ≠ 10 ∧ k ≠ 11) → μ5 k = μf k := fun k h => by rw [hμ5, bM_n h]
          obtain ⟨w1, w2, w3⟩ := hbM pl q
          rw [← hμ5] at w1 w2 w3
          refine ar_end (μ5 := μ5) (t := 0) (w := -1) (b := -1) (fun _ => nI l) (by
            rw [hμ5, ← bM_9 (h := 10)]
            exact hIf.b (by unfold pcN; rw [mu_n (by decide)]; unfold pcN at hpf ha; rw [hpf]; exact ha) rm1 (by omega) (by omega) q1) hc (by rw [h50 0 (by decide), hf0 23 (by decide), mu_pl (by decide)]; exact h23) (by rw [h50 0 (by decide), hf0 29 (by decide), mu_at]) (by unfold pcN at hpf ha ⊢; rw [h50 0 (by decide), hpf]; exact ha) (by decide) (fun q hq => by rw [h50 14 (by decide), hfk 14 (by decide) (by decide)]; exact Q.2.2.2.1 q hq) (by rw [hμ5]; exact mid_bM hI K hT hl4 p1 c1 rm1 hf00 hfk) (fun μ'' hq _ => ?_) (fun μ'' _ => Or.inr ⟨l, t, hl4, rfl, T2, Or.inl ⟨rfl, rfl⟩, by rw [w1, q3], w2, w3⟩)
          simp only [a3, bd_s, pm, i10, if_false, jn_s, c4, i00, if_true, can_ok, bd2_s, hm, lm1, if_neg nlp, g4, hNa, tmf, hb]
          rw [show f_X6_ends μ5 (nI l) 0 (-1) (-1) = some μ'' from hq, bd_s]
        · have hlp : l = pl := hl.resolve_left hla
          subst hlp
          have nla : ¬ nI l = nI a := fun h => hla (nI_inj (by omega) (by omega) h)
          obtain ⟨μ5, hμ5⟩ : ∃ μ5, μ5 = bM l a rm (nI q) μf := ⟨_, rfl⟩
          have hb : f_X6_isBeaten μf (nI l) (nI a) (nI t) = some μ5 := by
            rw [beaten_eq (l := l) (w := a) (ro := rm) (by omega) (by omega) rm1 (by rw [rf]; exact rml), hten, tmf', q2, hμ5]; rfl
          have h50 : ∀ k, (k ≠ 2 ∧ k ≠ 6 ∧ k ≠ 7 ∧ k ≠ 9 ∧ k ≠ 10 ∧ k ≠ 11) → μ5 k = μf k := fun k h => by rw [hμ5, bM_n h]
          obtain ⟨w1, w2, w3⟩ := hbM a q
          rw [← hμ5] at w1 w2 w3
          refine ar_end (μ5 := μ5) (t := 3) (w := -1) (b := nI l) (fun _ => nI l) (by
            rw [hμ5, ← bM_9 (h := 10)]
            exact hIf.b (by unfold pcN; rw [mu_n (by decide)]; unfold pcN at hpf p1; rw [hpf]; exact p1) rm1 (by omega) (by omega) q1) hc (by rw [h50 0 (by decide), hf0 23 (by decide), mu_pl (by decide)]; exact h23) (by rw [h50 0 (by decide), hf0 29 (by decide), mu_at]) (by unfold pcN at hpf ha ⊢; rw [h50 0 (by decide), hpf]; exact ha) (by decide) (fun q hq => by rw [h50 14 (by decide), hfk 14 (by decide) (by decide)]; exact Q.2.2.2.1 q hq) (by rw [hμ5]; exact mid_bM hI K hT hl4 ha (Ne.symm hla) rm1 hf00 hfk) (fun μ'' hq _ => ?_) (fun μ'' _ => Or.inr ⟨l, t, hl4, rfl, T2, Or.inr ⟨hla, rfl⟩, by rw [w1, q3], w2, w3⟩)
          simp only [a3, bd_s, pm, i10, if_false, jn_s, c4, i00, if_true, can_ok, bd2_s, hm, lm1, g4, hNa, tmf, hb, if_neg nla]
          rw [show f_X6_ends μ5 (nI a) 3 (-1) (nI l) = some μ'' from hq, bd_s]
    · exact Or.inl ⟨2, by decide, ok13_2, by simp only [a3, bd_s, pm, c4, i10, if_false, jn_s, can_ok, i20, bd2_s, i00, if_true]⟩
  · exact Or.inl ⟨1, by decide, ok13_1, by simp only [a3, bd_s, pm, jn_s, can_ok, i10, i00, if_true, if_false, bd2_s]⟩
