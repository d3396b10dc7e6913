/-! JOIN, QUEST, LINK, STAGE -/
section MKU
variable {c : Nat} {ρ μ : Mem} {M : Nat → Mem}
theorem mks_join (S : SX c ρ μ M) (W : WI c (ρ 51) μ) (hc : c < 60) {a q u : Nat} (ha : a < 8) (hq : q ≤ 200) (hu : u ≤ 6) (hn4 : pcN μ < 4) {σ2 : Mem} (e2 : σ2 = mu (mu (mu ρ 51 7 (nI (pcN μ + 1))) 51 0 (ρ 51 0 + nI q)) 51 6 (nI (c + 1))) : ∃ τ' M' μ'', f_X5_join σ2 (nI a) (nI q) (nI u) = some (0, nI (pcN μ), τ') ∧ μ'' 9 (pcN μ) = 20 ∧ μ'' 10 (pcN μ) = 0 ∧ pcN μ'' = pcN μ + 1 ∧ Out c ρ μ (c + 1) (mgY τ' σ2) μ'' M' := by
  obtain ⟨n, hn⟩ : ∃ n, n = pcN μ := ⟨_, rfl⟩
  have hI := S.iw
  have p2 := hI.np.2
  rw [← hn] at hn4 e2 p2 ⊢
  obtain ⟨⟨w1, w2, w3, w4⟩, ⟨mk, mk1, mk2, mk3⟩, ⟨T, T1, T2, cn, tn, pu, t1, t2, t3, t4⟩, w5, w6, q1, q2, q3, q4, q5⟩ := W
  rw [← hn] at t1 t4 q2 q3
  have S2 : SX c σ2 μ M := S.g fun k hk => by rw [e2, mu_n (by omega), mu_n (by omega), mu_n (by omega)]
  have c51 : σ2 51 = upd (upd (upd (ρ 51) 7 (nI (n + 1))) 0 (ρ 51 0 + nI q)) 6 (nI (c + 1)) := by rw [e2, mu_s, mu_s, mu_s]
  have z1 : (nI n = (4 : Int32)) = False := eq_false fun z => by have := nI_inj (a := n) (b := 4) (by omega) (by omega) z; omega
  have g4 : ∀ {α : Type} (x : Option α), gd (nI n) 4 x = x := fun x => gd_ok (by omega) (by decide)
  have hN : (nI n).toNatClampNeg = n := N_nI (by omega)
  have hr : μ 10 n = 0 := by
    obtain ⟨⟨np, k1, k2, -, k4⟩, -⟩ := id hI
    have : np = n := nI_inj (by omega) (by omega) (k2.symm.trans p2)
    exact k4 n (by omega) (by omega)
  obtain ⟨μ5, hμ5⟩ : ∃ μ5, μ5 = mu (mu (mu (mu (mu (mu μ 0 29 0) 6 n (nI a)) 7 n (nI q)) 8 n (nI u)) 9 n 20) 0 5 (nI (n + 1)) := ⟨_, rfl⟩
  have h5o : μ5 0 5 = nI (n + 1) := by rw [hμ5, mu_at]
  have f0 : ∀ i, i ≠ 29 → i ≠ 5 → μ5 0 i = μ 0 i := fun i hi h2 => by rw [hμ5, mu_pl h2, mu_n (by decide), mu_n (by decide), mu_n (by decide), mu_n (by decide), mu_pl hi]
  have fk : ∀ k, k ≠ 0 → k ≠ 6 → k ≠ 7 → k ≠ 8 → k ≠ 9 → μ5 k = μ k := fun k k0 k6 k7 k8 k9 => by rw [hμ5, mu_n k0, mu_n k9, mu_n k8, mu_n k7, mu_n k6, mu_n k0]
  have f7 : μ5 7 = upd (μ 7) n (nI q) := by rw [hμ5, mu_n (by decide), mu_n (by decide), mu_n (by decide), mu_s, mu_n (by decide), mu_n (by decide)]
  have f9 : μ5 9 n = 20 := by rw [hμ5, mu_n (by decide), mu_at]
  have hpc : pcN μ5 = n + 1 := by unfold pcN; rw [h5o, N_nI (by omega)]
  have s1 : nI (n + 1) - 1 = nI n := pk_sub (a := n + 1) (b := 1) (by omega)
  obtain ⟨τ', M', μ'', x1, x2, x3⟩ := mk_out (ρ := ρ) (μ5 := μ5) (g := c + 1) (r := 13 * c + 13) (vf := fun _ => nI n) S2 (by omega) ok123_0 (op_join (S2.beg (by omega)) (nI a) (nI q) (nI u)) (by
    rw [hμ5]
    exact ((hI.thrown 0).mono (Nat.le_add_right c 1) (Nat.le_add_right _ 13)).join (by omega) (by rw [mu_pl (by decide)]; exact p2) ha hu _) ((f0 23 (by decide) (by decide)).trans S.2.1) (by rw [hμ5, mu_pl (by decide), mu_n (by decide), mu_n (by decide), mu_n (by decide), mu_n (by decide), mu_at]) (fun μ'' h1 h2 => by
    unfold f_X6_join
    have ma := roomI a ha
    have m1 : f_X6_isIn (nI q) 0 200 = some 1 := isInD (a := 0) (b := 200) (by omega) (by omega) (by decide)
    have m2 : f_X6_isIn (nI u) 0 6 = some 1 := isInD (a := 0) (b := 6) (by omega) (by omega) (by decide)
    simp only [ma, m1, m2, bd_s, i10, if_false, jn_s, p2, z1, can_ok, i00, if_true, bd2_s, stp_s, mu_n (show (0 : Nat) ≠ 6 by decide), mu_n (show (0 : Nat) ≠ 7 by decide), mu_n (show (0 : Nat) ≠ 8 by decide), mu_n (show (0 : Nat) ≠ 9 by decide), mu_pl (show (5 : Nat) ≠ 29 by decide), g4, hN, nI_1]
    rw [← hμ5, h1, bd_s, h2.1 5 (by decide), h5o, s1]) (by rw [e2, mu_n (by decide), mu_n (by decide), mu_n (by decide)]) (by rw [e2, mu_n (by decide), mu_n (by decide), mu_n (by decide)]) (by
    rw [c51]
    have k15 := fk 15 (by decide) (by decide) (by decide) (by decide) (by decide)
    have k3 := fk 3 (by decide) (by decide) (by decide) (by decide) (by decide)
    have k1 := fk 1 (by decide) (by decide) (by decide) (by decide) (by decide)
    have k2 := fk 2 (by decide) (by decide) (by decide) (by decide) (by decide)
    have k5 := fk 5 (by decide) (by decide) (by decide) (by decide) (by decide)
    have k11 := fk 11 (by decide) (by decide) (by decide) (by decide) (by decide)
    have k19 := fk 19 (by decide) (by decide) (by decide) (by decide) (by decide)
    have k14 := fk 14 (by decide) (by decide) (by decide) (by decide) (by decide)
    have k4 := fk 4 (by decide) (by decide) (by decide) (by decide) (by decide)
    refine ⟨⟨upd_s, by rw [upd_n (by decide), upd_n (by decide), upd_s, h5o], by rw [upd_n (by decide), upd_n (by decide), upd_n (by decide), f0 16 (by decide) (by decide)]; exact w3, fun j hj => by rw [upd_n (by omega), upd_n (by omega), upd_n (by omega), k15]; exact w4 j hj⟩, ⟨mk, mk1, by rw [upd_n (by decide), upd_n (by decide), upd_n (by decide)]; exact mk2, fun r hr => by rw [k3]; exact mk3 r hr⟩, ⟨T + q, by omega, by rw [upd_n (by decide), upd_s, T2, nI_add], fun k => if k = n then q else cn k, tn, pu, fun k hk => ?_, by rw [k3]; exact t2, by rw [f0 14 (by decide) (by decide)]; exact t3, ?_⟩, fun j hj => ?_, by rw [k1]; exact w6, ?_, ?_, ?_, ?_, ?_⟩
    · rw [f7]
      show upd (μ 7) n (nI q) k = nI (if k = n then q else cn k)
      by_cases h : k = n
      · rw [if_pos h, h, upd_s]
      · rw [if_neg h, upd_n h]; rw [hpc] at hk; exact t1 k (by omega)
    · rw [hpc]
      show pu + (ns (fun k => if k = n then q else cn k) n + (if n = n then q else cn n)) + ns tn 8 = T + q
      rw [if_pos rfl, ns_congr (g := cn) n fun k hk => if_neg (by omega)]
      omega
    · rw [upd_n (by omega), upd_n (by omega), upd_n (by omega), w5 j hj, gsum3, gsum3, hpc, ← hn, k11, k2, k5, sm_end (fun i => μ 11 (i * 5 + j)) n 0, Nat.zero_add, q3 n j (Nat.le_refl _) hn4 hj, Int32.add_zero]
    · rw [k19, k15]; exact q1
    · rw [k19, hpc]; exact fun k j h1 h2 h3 => q2 k j (by omega) h2 h3
    · rw [k11, hpc]; exact fun k j h1 h2 h3 => q3 k j (by omega) h2 h3
    · rw [k14]; exact q4
    · rw [k4]; exact q5) (by rw [hpc, ← hn]; omega)
  exact ⟨τ', M', μ'', x1, by rw [x3.2 9 (by decide) (by decide)]; exact f9, by rw [x3.2 10 (by decide) (by decide), fk 10 (by decide) (by decide) (by decide) (by decide) (by decide)]; exact hr, by rw [x3.pc, hpc], x2⟩
theorem mks_quest (S : SX c ρ μ M) (W : WI c (ρ 51) μ) (hc : c < 60) {q : Nat} (hq : q ≤ 100) (hn3 : qcN μ < 3) {σ2 : Mem} (e2 : σ2 = mu (mu ρ 51 8 (nI (qcN μ + 1))) 51 6 (nI (c + 1))) : ∃ τ' M' μ'', f_X5_quest σ2 (nI q) = some (0, nI (qcN μ), τ') ∧ Out c ρ μ (c + 1) (mgY τ' σ2) μ'' M' := by
  obtain ⟨n, hn⟩ : ∃ n, n = qcN μ := ⟨_, rfl⟩
  have hI := S.iw
  have p2 := hI.nq.2
  rw [← hn] at hn3 e2 p2 ⊢
  obtain ⟨⟨w1, w2, w3, w4⟩, ⟨mk, mk1, mk2, mk3⟩, ⟨T, T1, T2, T3⟩, w5, w6, q1, q2, q3, q4, q5⟩ := W
  have S2 : SX c σ2 μ M := S.g fun k hk => by rw [e2, mu_n (by omega), mu_n (by omega)]
  have c51 : σ2 51 = upd (upd (ρ 51) 8 (nI (n + 1))) 6 (nI (c + 1)) := by rw [e2, mu_s, mu_s]
  have z1 : (nI n = (3 : Int32)) = False := eq_false fun z => by have := nI_inj (a := n) (b := 3) (by omega) (by omega) z; omega
  have g3 : ∀ {α : Type} (x : Option α), gd (nI n) 3 x = x := fun x => gd_ok (by omega) (by decide)
  have hN : (nI n).toNatClampNeg = n := N_nI (by omega)
  obtain ⟨μ5, hμ5⟩ : ∃ μ5, μ5 = mu (mu (mu μ 0 29 0) 14 n (nI q)) 0 16 (nI (n + 1)) := ⟨_, rfl⟩
  have h5o : μ5 0 16 = nI (n + 1) := by rw [hμ5, mu_at]
  have f0 : ∀ i, i ≠ 29 → i ≠ 16 → μ5 0 i = μ 0 i := fun i hi h2 => by rw [hμ5, mu_pl h2, mu_n (by decide), mu_pl hi]
  have fk : ∀ k, k ≠ 0 → k ≠ 14 → μ5 k = μ k := fun k k0 k14 => by rw [hμ5, mu_n k0, mu_n k14, mu_n k0]
  have f14 : μ5 14 = upd (μ 14) n (nI q) := by rw [hμ5, mu_n (by decide), mu_s, mu_n (by decide)]
  have hpc : pcN μ5 = pcN μ := by unfold pcN; rw [f0 5 (by decide) (by decide)]
  have s1 : nI (n + 1) - 1 = nI n := pk_sub (a := n + 1) (b := 1) (by omega)
  obtain ⟨τ', M', μ'', x1, x2, x3⟩ := mk_out (ρ := ρ) (μ5 := μ5) (g := c + 1) (r := 13 * c + 13) (vf := fun _ => nI n) S2 (by omega) ok23_0 (op_quest (S2.beg (by omega)) (nI q)) (by
    rw [hμ5]
    exact ((hI.thrown 0).mono (Nat.le_add_right c 1) (Nat.le_add_right _ 13)).quest (by omega) (by rw [mu_pl (by decide)]; exact p2) _) ((f0 23 (by decide) (by decide)).trans S.2.1) (by rw [hμ5, mu_pl (by decide), mu_n (by decide), mu_at]) (fun μ'' h1 h2 => by
    unfold f_X6_quest
    have m1 : f_X6_isIn (nI q) 0 100 = some 1 := isInD (a := 0) (b := 100) (by omega) (by omega) (by decide)
    simp only [m1, bd_s, i10, if_false, jn_s, p2, z1, can_ok, i00, if_true, bd2_s, stp_s, mu_n (show (0 : Nat) ≠ 14 by decide), mu_pl (show (16 : Nat) ≠ 29 by decide), g3, hN, nI_1]
    rw [← hμ5, h1, bd_s, h2.1 16 (by decide), h5o, s1]) (by rw [e2, mu_n (by decide), mu_n (by decide)]) (by rw [e2, mu_n (by decide), mu_n (by decide)]) (by
    rw [c51]
    have k15 := fk 15 (by decide) (by decide)
    have k3 := fk 3 (by decide) (by decide)
    refine ⟨⟨upd_s, by rw [upd_n (by decide), upd_n (by decide), f0 5 (by decide) (by decide)]; exact w2, by rw [upd_n (by decide), upd_s, h5o], fun j hj => by rw [upd_n (by omega), upd_n (by omega), k15]; exact w4 j hj⟩, ⟨mk, mk1, by rw [upd_n (by decide), upd_n (by decide)]; exact mk2, fun r hr => by rw [k3]; exact mk3 r hr⟩, ⟨T, by omega, by rw [upd_n (by decide), upd_n (by decide)]; exact T2, T3.same (f0 14 (by decide) (by decide)) (f0 5 (by decide) (by decide)) (fk 7 (by decide) (by decide)) k3⟩, fun j hj => ?_, by rw [fk 1 (by decide) (by decide)]; exact w6, by rw [fk 19 (by decide) (by decide), k15]; exact q1, by rw [fk 19 (by decide) (by decide), hpc]; exact q2, by rw [fk 11 (by decide) (by decide), hpc]; exact q3, fun j hj => ?_, by rw [fk 4 (by decide) (by decide)]; exact q5⟩
    · rw [upd_n (by omega), upd_n (by omega), w5 j hj]
      exact (gsum_same (f0 5 (by decide) (by decide)) (fk 11 (by decide) (by decide)) (fk 2 (by decide) (by decide)) (fk 5 (by decide) (by decide)) j).symm
    · rw [f14]
      by_cases h : j = n
      · subst h; exact ⟨q, hq, upd_s⟩
      · rw [upd_n h]; exact q4 j hj) (by rw [hpc]; exact Nat.le_refl _)
  exact ⟨τ', M', μ'', x1, x2⟩
theorem EI.link {e : Nat → Int32} (hE : EI e) {a b d p : Nat} (ha : a < 8) (hb : b < 8) (hd : d < 4) (hp : p < 4) (hpd : p = (d + 2) % 4) (hab : a ≠ b) (h1 : e (a * 4 + d) = -1) (h2 : e (b * 4 + p) = -1) : EI (upd (upd e (a * 4 + d) (nI b)) (b * 4 + p) (nI a)) := by
  have hne : a * 4 + d ≠ b * 4 + p := by omega
  have e1 : upd (upd e (a * 4 + d) (nI b)) (b * 4 + p) (nI a) (b * 4 + p) = nI a := upd_s
  have e2 : upd (upd e (a * 4 + d) (nI b)) (b * 4 + p) (nI a) (a * 4 + d) = nI b := by rw [upd_n hne, upd_s]
  intro i v hi hv hiv
  by_cases q1 : i = b * 4 + p
  · subst q1
    rw [e1] at hiv
    have : a = v := nI_inj (by omega) (by omega) hiv
    subst this
    refine ⟨by omega, ?_⟩
    rw [show a * 4 + ((b * 4 + p) % 4 + 2) % 4 = a * 4 + d by omega, e2, show (b * 4 + p) / 4 = b by omega]
  · by_cases q2 : i = a * 4 + d
    · subst q2
      rw [e2] at hiv
      have : b = v := nI_inj (by omega) (by omega) hiv
      subst this
      refine ⟨by omega, ?_⟩
      rw [show b * 4 + ((a * 4 + d) % 4 + 2) % 4 = b * 4 + p by omega, e1, show (a * 4 + d) / 4 = a by omega]
    · rw [upd_n q1, upd_n q2] at hiv
      obtain ⟨z1, z2⟩ := hE i v hi hv hiv
      refine ⟨z1, ?_⟩
      have n1 : v * 4 + (i % 4 + 2) % 4 ≠ b * 4 + p := fun z => by
        rw [z, h2] at z2; exact nI_neg1 (by omega) z2.symm
      have n2 : v * 4 + (i % 4 + 2) % 4 ≠ a * 4 + d := fun z => by
        rw [z, h1] at z2; exact nI_neg1 (by omega) z2.symm
      rw [upd_n n1, upd_n n2]
      exact z2
theorem rq4 : ∀ q, q < 4 → jrem (nI q + 2) 4 = nI ((q + 2) % 4) := by decide
theorem dirO : ∀ d, d < 4 → f_X6_isIn (nI d) 0 3 = some 1 := by decide
/-- link: kept when both doors are free, refused otherwise -/
theorem mks_link (S : SX c ρ μ M) (W : WI c (ρ 51) μ) (hc : c < 60) {a b d : Nat} (ha : a < 8) (hb : b < 8) (hd : d < 4) (hab : a ≠ b) :
    (((μ 1 (a * 4 + d) = -1 ∧ μ 1 (b * 4 + (d + 2) % 4) = -1) ∧ ∃ τ' M' μ'', f_X5_link ρ (nI a) (nI d) (nI b) = some (0, 0, τ') ∧ SX (c + 1) τ' μ'' M' ∧ HK c μ μ'' ∧ pcN μ'' = pcN μ ∧ WI (c + 1) (upd (ρ 51) 6 (nI (c + 1))) μ'') ∨
     (¬ (μ 1 (a * 4 + d) = -1 ∧ μ 1 (b * 4 + (d + 2) % 4) = -1) ∧ f_X5_link ρ (nI a) (nI d) (nI b) = some (3, 0, ρ))) := by
  obtain ⟨⟨w1, w2, w3, w4⟩, ⟨mk, mk1, mk2, mk3⟩, ⟨T, T1, T2, T3⟩, w5, w6, w7⟩ := W
  have hI := S.iw
  obtain ⟨p, hpd⟩ : ∃ p, p = (d + 2) % 4 := ⟨_, rfl⟩
  have hp : p < 4 := by omega
  have p2 : jrem (nI d + 2) 4 = nI p := by rw [hpd]; exact rq4 d hd
  rw [← hpd]
  have ma := roomI a ha
  have mb := roomI b hb
  have mq := dirO d hd
  have hab' : (nI a = nI b) = False := eq_false fun z => hab (nI_inj (by omega) (by omega) z)
  have j1 : a * 4 + d < 32 := by omega
  have j2 : b * 4 + p < 32 := by omega
  have ga : ∀ {α : Type} (x : Option α), gd (nI (a * 4 + d)) 32 x = x := fun x => gd_ok j1 (by decide)
  have gb : ∀ {α : Type} (x : Option α), gd (nI (b * 4 + p)) 32 x = x := fun x => gd_ok j2 (by decide)
  have hNa : (nI (a * 4 + d)).toNatClampNeg = a * 4 + d := N_nI (by omega)
  have hNb : (nI (b * 4 + p)).toNatClampNeg = b * 4 + p := N_nI (by omega)
  have hop := op_link (S.beg (by omega)) (nI a) (nI d) (nI b)
  by_cases h12 : μ 1 (a * 4 + d) = -1 ∧ μ 1 (b * 4 + p) = -1
  · refine Or.inl ⟨h12, ?_⟩
    obtain ⟨h1, h2⟩ := h12
    have h1' : (μ 1 (a * 4 + d) = -1) = True := eq_true h1
    have h2' : (μ 1 (b * 4 + p) = -1) = True := eq_true h2
    obtain ⟨μ5, hμ5⟩ : ∃ μ5, μ5 = mu (mu (mu μ 0 29 0) 1 (a * 4 + d) (nI b)) 1 (b * 4 + p) (nI a) := ⟨_, rfl⟩
    have f0 : ∀ i, i ≠ 29 → μ5 0 i = μ 0 i := fun i hi => by rw [hμ5, mu_n (by decide), mu_n (by decide), mu_pl hi]
    have fk : ∀ k, k ≠ 0 → k ≠ 1 → μ5 k = μ k := fun k k1 k2 => by rw [hμ5, mu_n k2, mu_n k2, mu_n k1]
    have f1 : μ5 1 = upd (upd (μ 1) (a * 4 + d) (nI b)) (b * 4 + p) (nI a) := by rw [hμ5, mu_s, mu_s, mu_n (by decide)]
    have hpc : pcN μ5 = pcN μ := by unfold pcN; rw [f0 5 (by decide)]
    obtain ⟨τ', M', μ'', x1, x2, x3, x4⟩ := mk_outV (μ5 := μ5) (g := c + 1) (r := 13 * c + 13) S (by omega) ok123_0 hop (by rw [hμ5]; exact (((hI.thrown 0).exits _ (Or.inr ⟨b, hb, rfl⟩)).exits _ (Or.inr ⟨a, ha, rfl⟩)).mono (by omega) (by omega)) ((f0 23 (by decide)).trans S.2.1) (by rw [hμ5, mu_n (by decide), mu_n (by decide), mu_at]) (fun μ'' h1 => by
      unfold f_X6_link
      simp only [ma, mb, mq, bd_s, i10, if_false, jn_s, hab', n4l, p2, ga, gb, hNa, hNb, h1', h2', can_ok, i00, if_true, bd2_s, stp_s]
      rw [← hμ5, h1, bd_s])
    refine ⟨τ', M', μ'', x1, x2, x3, by rw [x4.pc, hpc], WI.sm ?_ x4⟩
    refine ⟨⟨upd_s, by rw [upd_n (by decide), f0 5 (by decide)]; exact w2, by rw [upd_n (by decide), f0 16 (by decide)]; exact w3, fun q hq => by rw [upd_n (by omega), fk 15 (by decide) (by decide)]; exact w4 q hq⟩, ⟨mk, mk1, by rw [upd_n (by decide)]; exact mk2, fun r hr => by rw [fk 3 (by decide) (by decide)]; exact mk3 r hr⟩, ⟨T, by omega, by rw [upd_n (by decide)]; exact T2, T3.same (f0 14 (by decide)) (f0 5 (by decide)) (fk 7 (by decide) (by decide)) (fk 3 (by decide) (by decide))⟩, fun q hq => ?_, by rw [f1]; exact w6.link ha hb hd hp hpd hab h1 h2, ?_⟩
    · rw [upd_n (by omega), w5 q hq]
      exact (gsum_same (f0 5 (by decide)) (fk 11 (by decide) (by decide)) (fk 2 (by decide) (by decide)) (fk 5 (by decide) (by decide)) q).symm
    · unfold WQ at w7 ⊢
      rw [hpc, fk 19 (by decide) (by decide), fk 15 (by decide) (by decide), fk 11 (by decide) (by decide), fk 14 (by decide) (by decide), fk 4 (by decide) (by decide)]
      exact w7
  · refine Or.inr ⟨h12, ?_⟩
    have hm : f_X6_link μ (nI a) (nI d) (nI b) = some (mu μ 0 29 3) := by
      unfold f_X6_link
      by_cases h1 : μ 1 (a * 4 + d) = -1
      · have h1' : (μ 1 (a * 4 + d) = -1) = True := eq_true h1
        have h2' : (μ 1 (b * 4 + p) = -1) = False := eq_false fun z => h12 ⟨h1, z⟩
        simp only [ma, mb, mq, bd_s, i10, if_false, jn_s, hab', n4l, p2, ga, gb, hNa, hNb, h1', h2', can_ok, i00, i30, if_true, bd2_s, stp_s]
      · have h1' : (μ 1 (a * 4 + d) = -1) = False := eq_false h1
        simp only [ma, mb, mq, bd_s, i10, if_false, jn_s, hab', n4l, p2, ga, gb, hNa, hNb, h1', can_ok, i00, i30, if_true, bd2_s, stp_s]
    rcases hop with ⟨e, t, o1, o2, o3⟩ | ⟨μ3, o1, o2, o3⟩
    · rw [hm] at o2
      have ht : t = 3 := by
        have := congrFun (congrFun (Option.some.inj o2) 0) 29
        rw [mu_at, mu_at] at this
        exact this.symm
      subst ht
      rcases o1 with ⟨-, z⟩ | ⟨-, z⟩ | ⟨rfl, -⟩
      · exact absurd z (by decide)
      · exact absurd z (by decide)
      · exact o3
    · rw [hm] at o1
      cases o1
      have := o2.1
      rw [mu_at] at this
      exact absurd this (by decide)
end MKU
