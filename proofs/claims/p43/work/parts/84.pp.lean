/-! THE COUNCIL OF THE LAW -/
def CHK (y : Int32) (σ120 : Mem) (v113 v115 : Int32) (K : Mem → Option (Int32 × Mem)) : Option (Int32 × Mem) :=
    bd (f_L_keeps σ120) fun σ126 =>
    if y = 0 then (
    some (0, σ126))
    else (
    bd2 (f_L_isWorld σ126) fun v128 σ129 =>
    if v128 = 0 then (
    some (0, σ129))
    else (
    bd2 (f_L_areRooms σ129 (jrem (v113 / 9) 8)) fun v131 σ132 =>
    if v131 = 0 then (
    some (0, σ132))
    else (
    gd 6 13 <|
    nz ((σ132 51 (6 : Int32).toNatClampNeg) + 1) <|
    bd2 (f_L_wasSo σ132 (jrem (v115 / 7) ((σ132 51 (6 : Int32).toNatClampNeg) + 1))) fun v134 σ135 =>
    if v134 = 0 then (
    some (0, σ135))
    else (
    gd 6 13 <|
    bd2 (f_L_after σ135 2 ((σ135 51 (6 : Int32).toNatClampNeg) + 1) 0) fun v137 σ138 =>
    if v137 = (-7) then (
    K σ138)
    else (
    some (0, σ138))))))
def JJ (k : Nat) (ρ : Mem) : Prop := ∃ c μ M, c ≤ k ∧ SX c ρ μ M ∧ WI c (ρ 51) μ ∧ (∀ i, i ≤ c → HE ρ μ i) ∧ (k - 10 ≤ pcN μ ∨ 3 ≤ pcN μ)
theorem HE.mem {i : Nat} {ρ ρ' μ : Mem} (h : HE ρ μ i) (e52 : ρ' 52 i = ρ 52 i) (e53 : lrd ρ' 53 i = lrd ρ 53 i) : HE ρ' μ i := by
  obtain ⟨np, t, R, f, h1, h2, h3, h4, h5, h6, h7, h8, h9⟩ := h
  exact ⟨np, t, R, f, h1, h2, h3, h4, h5, h6, e52.trans h7, e53.trans h8, h9⟩
theorem coins_lt {c : Nat} {cf : Nat → Int32} {μ : Mem} (hc : c < 60) (W : WI c cf μ) : ∀ k, k < pcN μ → ∃ q, q < 32768 ∧ μ 7 k = nI q := fun k hk => by
  obtain ⟨T, T1, -, cn, tn, pu, c1, -, -, c4⟩ := W.2.2.1
  have := ns_le (f := cn) (pcN μ) k hk
  exact ⟨cn k, by omega, c1 k hk⟩
theorem chk_ok {c : Nat} {ρ μ : Mem} {M : Nat → Mem} (S : SX c ρ μ M) (W : WI c (ρ 51) μ) (hc : c < 60) (hh : ∀ i, i < c → HE ρ μ i) {x y : Nat} (hx : x < 2 ^ 30) (hy : y < 2 ^ 30) : ∃ ρ', (∀ K, CHK 1 ρ (nI x) (nI y) K = K ρ') ∧ SX c ρ' μ M ∧ WI c (ρ' 51) μ ∧ ∀ i, i ≤ c → HE ρ' μ i := by
  have dx : nI x / 9 = nI (x / 9) := pk_div8 hx 9 (by decide) (by decide)
  have rx : jrem (nI (x / 9)) 8 = nI (x / 9 % 8) := jrem_nI (d := 8) (by omega) (by decide) (by decide)
  have dy : nI y / 7 = nI (y / 7) := pk_div8 hy 7 (by decide) (by decide)
  have ry : jrem (nI (y / 7)) (nI (c + 1)) = nI (y / 7 % (c + 1)) := jrem_nI (by omega) (by omega) (by omega)
  obtain ⟨h7, h8⟩ := pN S.iw W.1
  obtain ⟨ρ1, a1, a2, a3, a4⟩ := keeps_ok S hc h7 (coins_lt hc W)
  have S1 : SX c ρ1 μ M := S.g fun k hk => a2 k (by omega) (by omega)
  have W1 : WI c (ρ1 51) μ := by rw [a2 51 (by decide) (by decide)]; exact W
  have b1 := isWorld_ok S1 W1 (by omega)
  have h1 : ∀ i, i ≤ c → HE ρ1 μ i := fun i hi => by
    by_cases q : i = c
    · subst q; exact a3
    · obtain ⟨z1, z2⟩ := a4 i q
      exact (hh i (by omega)).mem z1 z2
  obtain ⟨ρ2, d1, d2⟩ := areRooms_ok S1 W1.2.2.2.2.1 (a := x / 9 % 8) (by omega)
  have S2 : SX c ρ2 μ M := d2.SX S1
  have k2 : ∀ k, 51 ≤ k → ρ2 k = ρ1 k := fun k hk => d2 k (by omega)
  have hN : y / 7 % (c + 1) ≤ c := by have := Nat.mod_lt (y / 7) (show 0 < c + 1 by omega); omega
  have h2 : ∀ i, i ≤ c → HE ρ2 μ i := fun i hi => (h1 i hi).mem (by rw [k2 52 (by decide)]) (by unfold lrd; rw [k2 53 (by decide)])
  obtain ⟨ρ3, e1, e2, e3⟩ := wasSo_ok S2 (by omega) hN (by omega) (h2 _ hN)
  obtain ⟨ρ4, f1, f2, f3⟩ := a_turnX e2 (by omega) 0
  have k4 : ∀ k, 51 ≤ k → ρ4 k = ρ1 k := fun k hk => (f3 k hk).trans ((e3 k hk).trans (k2 k hk))
  have c62 : ρ2 51 6 = nI c := by rw [k2 51 (by decide)]; exact W1.1.1
  have c63 : ρ3 51 6 = nI c := by rw [e3 51 (by decide)]; exact c62
  refine ⟨ρ4, fun K => ?_, f2, by rw [k4 51 (by decide)]; exact W1, fun i hi => (h1 i hi).mem (by rw [k4 52 (by decide)]) (by unfold lrd; rw [k4 53 (by decide)])⟩
  have nzc : ∀ {α : Type} (x : Option α), nz (nI (c + 1)) x = x := fun x => if_neg fun z => by have := nI_inj (b := 0) (by omega) (by decide) z; omega
  unfold CHK
  rw [a1, bd_s, if_neg e10, b1, bd2_s, if_neg e10, dx, rx, d1, bd2_s, if_neg e10, gl6, tc6, c62, nI_1, nzc, dy, ry, e1, bd2_s, if_neg e10, gl6, c63, nI_1, f1, bd2_s, if_pos rfl]
theorem step_ok {k c c' : Nat} {ρ μ ρ' μ' : Mem} {M M' : Nat → Mem} (hk : k < 56) (hck : c ≤ k) (hh : ∀ i, i ≤ c → HE ρ μ i) (o : Out c ρ μ c' ρ' μ' M') (hp : k + 1 - 10 ≤ pcN μ' ∨ 3 ≤ pcN μ') {x y : Nat} (hx : x < 2 ^ 30) (hy : y < 2 ^ 30) : ∃ ρ'', (∀ K, CHK 1 ρ' (nI x) (nI y) K = K ρ'') ∧ JJ (k + 1) ρ'' := by
  obtain ⟨o1, o2, S', W', hk', -, e52, e53⟩ := o
  obtain ⟨ρ'', z1, z2, z3, z4⟩ := chk_ok S' W' (by omega) (fun i hi => (hh i (by omega)).go hk' (by omega) (by rw [e52]) (by unfold lrd; rw [e53])) hx hy
  exact ⟨ρ'', z1, c', μ', M', by omega, z2, z3, z4, hp⟩
theorem and31 (v : Int32) : ∃ w, w < 2 ^ 31 ∧ v &&& 2147483647 = nI w := by
  refine ⟨(v &&& 2147483647).toBitVec.toNat, ?_, ?_⟩
  · rw [Int32.toBitVec_and, BitVec.toNat_and]
    exact Nat.and_lt_two_pow _ (by decide)
  · apply Int32.toBitVec_inj.mp
    show _ = BitVec.ofNat 32 _
    rw [BitVec.ofNat_toNat, BitVec.setWidth_eq]
theorem draw_ok (xs : Nat → Int32) {L : Nat} (hL : L ≤ 260) {kk m : Nat} (hk : kk < 2 ^ 30) (m0 : 0 < m) (hm : m ≤ 2 ^ 30) : ∃ z, z < m ∧ f_draw xs L (nI kk) (nI m) = some (nI z) := by
  have hnz : ∀ {α : Type} (x : Option α), nz (nI m) x = x := fun x => if_neg fun z => by have := nI_inj (b := 0) (by omega) (by decide) z; omega
  unfold f_draw
  by_cases h : nI L ≤ nI kk
  · obtain ⟨w, w1, w2⟩ := and31 (1012914657 * (nI kk + 53) + 563787717)
    rw [if_pos h, hnz, w2, jrem_nI w1 m0 (by omega)]
    exact ⟨w % m, Nat.mod_lt _ m0, rfl⟩
  · have hlt : kk < L := Nat.lt_of_not_le fun z => h (nI_le z (by omega))
    obtain ⟨w, w1, w2⟩ := and31 (xs (nI kk).toNatClampNeg)
    rw [if_neg h, gd_ok hlt (by omega), hnz, w2, jrem_nI w1 m0 (by omega)]
    exact ⟨w % m, Nat.mod_lt _ m0, rfl⟩
