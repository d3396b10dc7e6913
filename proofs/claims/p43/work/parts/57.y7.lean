theorem MGC_ofW {l : Launch} {y : MethodName} {cc : ByteArray} {nL fr lo K b L : Nat} {ret : Option FieldType} {xs : Nat → Int32} {D : va_G} {cI cJ : ClassId} {as : List Value} {Qc : Nat → Array Value → State → Outcome → State → Prop} (hy : plainName y.cls = true)
    (body : ∀ p e s m args below meth c, p.tables.exec = Jvm.exec → c.code = cc → meth.sig.returnType = ret → c.maxLocals = nL → meth.locks = false → s.vm.findClass y.cls = some m.cls → (∀ w ∈ BIG, w.before args s = true) → KK D cI cJ s → ZZ (fun q : Nat => s.heap.size ≤ q) s s.heap → NC s → va_X b L xs s s.heap → b < s.heap.size →
      W p l e ({ frames := fr, cells := K, slots := 6 * K, locals := lo }) s m args below meth c s.heap [] 0 0 (MQ below (Qc s.heap.size) args s K (6 * K) (fun q : Nat => s.heap.size ≤ q)) (entryFrame m as.toArray nL)) (sz : Nat) : Met l y (Cond.code y cc nL ret :: BIG) ({ frames := fr, cells := K, slots := 6 * K, locals := lo }) (va_Pc as (PreC b L xs D cI cJ sz)) (Qc sz) K (6 * K) (fun q : Nat => sz ≤ q) := by
  refine Met.ofW (cc := cc) (maxL := nL) (ret := ret) hy rfl ?_
  intro p e s m args below meth c s₁ B hml hv
  obtain ⟨rfl, hsz, hK, hZ, hN, hX, hbl⟩ := hv
  subst hsz
  exact body p e s m _ below meth c B.exec B.bytes B.returns hml B.notSynchronized (findClass_of_methodNamed B.named) (bigH (atoms_spec (ws := Cond.code y cc nL ret :: BIG) B.pre)) hK hZ hN hX hbl
def L_L_council_37 (xs : Nat → Int32) (L : Nat) : Nat → (Mem → Option (Int32 × Mem)) → Int32 → Int32 → Mem → Option (Int32 × Mem)
  | 0, _, _, _, _ => none
  | n + 1, k, x103, x104, σ105 =>
    if 56 ≤ x104 then (
    k σ105)
    else (
    bd (f_draw xs L ((x103 + (3 * x104)) + 1) 1073741824) fun v113 =>
    bd (f_draw xs L ((x103 + (3 * x104)) + 2) 1073741824) fun v115 =>
    jn (fun (y118 : Int32) (σ117 : Mem) =>
    jn (fun (y121 : Int32) (σ120 : Mem) =>
    bd (f_L_keeps σ120) fun σ126 =>
    if y121 = 0 then (
    some (0, σ126))
    else (
    bd2 (f_L_isWorld σ126) fun v128 σ129 =>
    if v128 = 0 then (
    some (0, σ129))
    else (
    bd2 (f_L_areRooms σ129 (jrem (v113 / 9) 8)) fun v131 σ132 =>
    if v131 = 0 then (
    some (0, σ132))
    else (
    gd 6 13 <|
    nz ((σ132 51 (6 : Int32).toNatClampNeg) + 1) <|
    bd2 (f_L_wasSo σ132 (jrem (v115 / 7) ((σ132 51 (6 : Int32).toNatClampNeg) + 1))) fun v134 σ135 =>
    if v134 = 0 then (
    some (0, σ135))
    else (
    gd 6 13 <|
    bd2 (f_L_after σ135 2 ((σ135 51 (6 : Int32).toNatClampNeg) + 1) 0) fun v137 σ138 =>
    if v137 = (-7) then (
    L_L_council_37 xs L n k x103 (x104 + 1) σ138)
    else (
    some (0, σ138))))))) fun (J122 : Int32 → Mem → Option (Int32 × Mem)) =>
    if 7 ≤ y118 then (
    bd2 (f_L_does σ117 (jrem (y118 - 7) 11) v113 v115) fun v141 σ142 =>
    bd (f_L_keeps σ142) fun σ144 =>
    if v141 = 0 then (
    some (0, σ144))
    else (
    bd2 (f_L_isWorld σ144) fun v146 σ147 =>
    if v146 = 0 then (
    some (0, σ147))
    else (
    bd2 (f_L_areRooms σ147 (jrem (v113 / 9) 8)) fun v149 σ150 =>
    if v149 = 0 then (
    some (0, σ150))
    else (
    gd 6 13 <|
    nz ((σ150 51 (6 : Int32).toNatClampNeg) + 1) <|
    bd2 (f_L_wasSo σ150 (jrem (v115 / 7) ((σ150 51 (6 : Int32).toNatClampNeg) + 1))) fun v152 σ153 =>
    if v152 = 0 then (
    some (0, σ153))
    else (
    gd 6 13 <|
    bd2 (f_L_after σ153 2 ((σ153 51 (6 : Int32).toNatClampNeg) + 1) 0) fun v155 σ156 =>
    if v155 = (-7) then (
    L_L_council_37 xs L n k x103 (x104 + 1) σ156)
    else (
    some (0, σ156)))))))
    else (
    bd2 (f_L_makes σ117 y118 v113 v115) fun v158 σ159 =>
    J122 v158 σ159)) fun (J119 : Int32 → Mem → Option (Int32 × Mem)) =>
    if 7 ≤ x104 then (
    if 10 ≤ x104 then (
    if 13 ≤ x104 then (
    if x104 = 13 then (
    J119 5 σ105)
    else (
    if 17 ≤ x104 then (
    bd (f_draw xs L (x103 + (3 * x104)) 26) fun v165 =>
    jn (fun (y168 : Int32) (σ167 : Mem) =>
    bd (f_L_keeps σ167) fun σ173 =>
    if y168 = 0 then (
    some (0, σ173))
    else (
    bd2 (f_L_isWorld σ173) fun v175 σ176 =>
    if v175 = 0 then (
    some (0, σ176))
    else (
    bd2 (f_L_areRooms σ176 (jrem (v113 / 9) 8)) fun v178 σ179 =>
    if v178 = 0 then (
    some (0, σ179))
    else (
    gd 6 13 <|
    nz ((σ179 51 (6 : Int32).toNatClampNeg) + 1) <|
    bd2 (f_L_wasSo σ179 (jrem (v115 / 7) ((σ179 51 (6 : Int32).toNatClampNeg) + 1))) fun v181 σ182 =>
    if v181 = 0 then (
    some (0, σ182))
    else (
    gd 6 13 <|
    bd2 (f_L_after σ182 2 ((σ182 51 (6 : Int32).toNatClampNeg) + 1) 0) fun v184 σ185 =>
    if v184 = (-7) then (
    L_L_council_37 xs L n k x103 (x104 + 1) σ185)
    else (
    some (0, σ185))))))) fun (J169 : Int32 → Mem → Option (Int32 × Mem)) =>
    if 7 ≤ v165 then (
    bd2 (f_L_does σ105 (jrem (v165 - 7) 11) v113 v115) fun v188 σ189 =>
    bd (f_L_keeps σ189) fun σ191 =>
    if v188 = 0 then (
    some (0, σ191))
    else (
    bd2 (f_L_isWorld σ191) fun v193 σ194 =>
    if v193 = 0 then (
    some (0, σ194))
    else (
    bd2 (f_L_areRooms σ194 (jrem (v113 / 9) 8)) fun v196 σ197 =>
    if v196 = 0 then (
    some (0, σ197))
    else (
    gd 6 13 <|
    nz ((σ197 51 (6 : Int32).toNatClampNeg) + 1) <|
    bd2 (f_L_wasSo σ197 (jrem (v115 / 7) ((σ197 51 (6 : Int32).toNatClampNeg) + 1))) fun v199 σ200 =>
    if v199 = 0 then (
    some (0, σ200))
    else (
    gd 6 13 <|
    bd2 (f_L_after σ200 2 ((σ200 51 (6 : Int32).toNatClampNeg) + 1) 0) fun v202 σ203 =>
    if v202 = (-7) then (
    L_L_council_37 xs L n k x103 (x104 + 1) σ203)
    else (
    some (0, σ203)))))))
    else (
    bd2 (f_L_makes σ105 v165 v113 v115) fun v205 σ206 =>
    J169 v205 σ206))
    else (
    J119 6 σ105)))
    else (
    J119 3 σ105))
    else (
    J119 1 σ105))
    else (
    J119 0 σ105))
def f_L_council (xs : Nat → Int32) (L : Nat) (a0 : Int32) : Option (Int32 × Mem) :=
stp zC fun σ1 =>
bd (f_L_keeps σ1) fun σ102 =>
L_L_council_37 xs L 57 (fun (σ111 : Mem) =>
some (1, σ111)) a0 0 σ102
set_option maxHeartbeats 16000000 in
set_option maxRecDepth 100000 in
theorem c_L_council {l : Launch} {D : va_G} {cI cJ : ClassId} {b L : Nat} {xs : Nat → Int32} {σr : Mem} {a0 r : Int32} (hflag : l.stackTraces = false) (hf : f_L_council xs L a0 = some (r, σr)) (sz : Nat) : Met l yL_council (Cond.code yL_council cL_council 11 (some .boolean) :: BIG) ({ frames := 12, cells := 4000, slots := 6 * 4000, locals := 246 }) (va_Pc [.ref b, .int a0] (PreC b L xs D cI cJ sz)) (va_Qi (fun r2 (_ : Unit) => r2 = r) (fun _ _ => True) (fun q : Nat => sz ≤ q)) 4000 (6 * 4000) (fun q : Nat => sz ≤ q) := by
  refine MGC_ofW (Qc := fun sz => va_Qi (fun r2 (_ : Unit) => r2 = r) (fun _ _ => True) (fun q : Nat => sz ≤ q)) (by decide) ?_ sz
  clear sz
  intro p e s m args below meth c hx hb hr hml hlocks hown hB hK hZ hN hX hbl
  have hown : s.vm.findClass RL = some m.cls := hown
  have hA : ∀ q : Nat, s.heap.size ≤ q → (fun q : Nat => s.heap.size ≤ q) q := fun _ h => h
  have hbA : ¬ (fun q : Nat => s.heap.size ≤ q) b := Nat.not_le.mpr hbl
  have hS : va_S (fun q : Nat => s.heap.size ≤ q) s.heap s.heap [] := va_S.rf
  have hP : va_P D vwCl [] s.heap := fun k q h => by simp at h
  have hD : va_D (fun q : Nat => s.heap.size ≤ q) [] := ⟨fun i j p q h => by simp at h, fun k q h => by simp at h⟩
  have hl := lv_entry ([.ref b, .int a0] : List Value) (n := 11) (Nat.le_of_ble_eq_true rfl)
  rw [lg_entry_eq]
  generalize (lg_sl ([.ref b, .int a0] : List Value) ++ List.replicate (11 - (lg_sl ([.ref b, .int a0] : List Value)).length) Slot.unset).toArray = ls at hl ⊢
  have hl : lv_has ls 11 [(0, .ref b), (1, .int a0)] := hl
  generalize hQ : MQ below (va_Qi (fun r2 (_ : Unit) => r2 = r) (fun _ _ => True) (fun q : Nat => s.heap.size ≤ q)) _ s 4000 (6 * 4000) (fun q : Nat => s.heap.size ≤ q) = Q
  have hQ := hQ.symm
  obtain ⟨R, hR, hRf, hRl, hRc, hRs⟩ : ∃ R : Room, R = ({ frames := 12, cells := 4000, slots := 6 * 4000, locals := 246 } : Room) ∧ 12 ≤ R.frames ∧ 246 ≤ R.locals ∧ 4000 ≤ R.cells ∧ 6 * 4000 ≤ R.slots := ⟨_, rfl, Nat.le_refl _, Nat.le_refl _, Nat.le_refl _, Nat.le_refl _⟩
  rw [← hR]
  unfold f_L_council at hf
  obtain ⟨σ1, eσ1, hf⟩ := stp_e hf
  refine va_new (ci := 5) (fs := [.null, .null, .null]) (C := RX5) (T := TX5) (N := 3) hx hb hB kU_X5 tyX5 tyX5_ok hown (hB _ k_clL_11) (hB _ k_inX5) (hB _ kn_X5) hK.1 hP hD hS hA rfl (fun j hj => by rcases (show j = 0 ∨ j = 1 ∨ j = 2 by omega) with rfl | rfl | rfl <;> rfl) (by omega) (by omega) dL_council_0 (fun q0 H hP hD hS => ?_)
  refine W.widen (k := 1) (n := 3) (by omega) (by omega) ?_
  refine lv_dup hx hb dL_council_3 rfl ?_
  refine n_call (ws := []) (N := 51) (ob := 48) (E := fun ad => EX ad cI) (σ := zX) hx hb hml hown hB hK n_X5 hP hD hS hA kc_X5 kn_X5 ki_X5 kM_L_166 rfl (by decide +kernel) 0 [] rfl rfl rfl (by decide) ⟨Nat.le_trans (Nat.le_of_ble_eq_true rfl) hRf, Nat.le_trans (Nat.le_of_ble_eq_true rfl) hRl⟩ hl.1 (Nat.le_of_ble_eq_true rfl) dL_council_4 ⟨by omega, by omega⟩ (fun a1 H locs ha1 hP hD hS => ?_)
  rw [← ha1]
  refine W.widen (k := 51) (n := 3199) (by omega) (by omega) ?_
  refine lv_astore_n (lv' := [(2, .ref (a1 48)), (0, .ref b), (1, .int a0)]) hx hb dL_council_7 rfl hl (by decide) rfl (fun ls hl => ?_)
  have hP : va_P D vwCl (wsG 51 a1 (EX a1 cI) zX) H := hP
  have hD : va_D (fun q : Nat => s.heap.size ≤ q) (wsG 51 a1 (EX a1 cI) zX) := hD
  refine lv_bipush (v := 13) hx hb dL_council_8 (by decide) ?_
  refine va_newa (atype := .int) (a0 := (13, .inl fun _ => 0)) hx hb (hB _ k_arr) rfl hK.1 hP hD hS hA (fun cA => rfl) (by decide) (by decide) (by decide) (by omega) (by show _ + 13 ≤ _; omega) dL_council_10 (fun q1 cA H hK1 hP hD hS => ?_)
  rw [arr_same hK1 rfl] at hP hD
  clear hK1
  refine W.widen (k := 52) (n := 3212) (by omega) (by omega) ?_
  refine lv_astore_n (lv' := [(3, .ref q1), (2, .ref (a1 48)), (0, .ref b), (1, .int a0)]) hx hb dL_council_12 rfl hl (by decide) rfl (fun ls hl => ?_)
  refine lv_bipush (v := 60) hx hb dL_council_13 (by decide) ?_
  refine va_newa (atype := .int) (a0 := (60, .inl fun _ => 0)) hx hb (hB _ k_arr) rfl hK.1 hP hD hS hA (fun cA => rfl) (by decide) (by decide) (by decide) (by omega) (by show _ + 60 ≤ _; omega) dL_council_15 (fun q2 cA H hK1 hP hD hS => ?_)
  rw [arr_same hK1 rfl] at hP hD
  clear hK1
  refine W.widen (k := 53) (n := 3272) (by omega) (by omega) ?_
  refine lv_astore (lv' := [(4, .ref q2), (3, .ref q1), (2, .ref (a1 48)), (0, .ref b), (1, .int a0)]) hx hb dL_council_17 hl (by decide) rfl (fun ls hl => ?_)
  refine lv_bipush (v := 60) hx hb dL_council_19 (by decide) ?_
  refine va_newa (atype := .long) (a0 := (60, .inr (.inl fun _ => 0))) hx hb (hB _ k_arJ) rfl hK.1 hP hD hS hA (fun cA => rfl) (by decide) (by decide) (by decide) (by omega) (by show _ + 60 ≤ _; omega) dL_council_21 (fun q3 cA H hK1 hP hD hS => ?_)
  rw [arr_sameJ (cJ := cJ) (tys := [(cI, .int), (cJ, .long)]) hK1 rfl] at hP hD
  clear hK1
  refine W.widen (k := 54) (n := 3332) (by omega) (by omega) ?_
  refine lv_astore (lv' := [(5, .ref q3), (4, .ref q2), (3, .ref q1), (2, .ref (a1 48)), (0, .ref b), (1, .int a0)]) hx hb dL_council_23 hl (by decide) rfl (fun ls hl => ?_)
  rw [← wsC, ← eσ1] at hP hD
  obtain ⟨hi, hAd⟩ := wsG_inj hD
  obtain ⟨ad, had⟩ : ∃ ad : Nat → Nat, ad = adC a1 q1 q2 q3 := ⟨_, rfl⟩
  rw [← had] at hP hi hAd
  have hl : lv_has ls 11 [(5, .ref (ad 53)), (4, .ref (ad 52)), (3, .ref (ad 51)), (2, .ref (ad 48)), (0, .ref b), (1, .int a0)] := by rw [had]; exact hl
  clear hD
  refine lv_aload_n hx hb dL_council_25 rfl (lv_at hl 3 rfl) ?_
  refine lv_aload_n hx hb dL_council_26 rfl (lv_at hl 2 rfl) ?_
  refine lv_aload hx hb dL_council_27 (lv_at hl 1 rfl) ?_
  refine lv_aload hx hb dL_council_29 (lv_at hl 0 rfl) ?_
  obtain ⟨σ102, hv, hf⟩ := bd_e hf
  refine g_yv (τ := σ102) ⟨⟨hx, hb, hml, hown, hB⟩, hK, hi, hA, hAd, hP, hS⟩ hZ hN subG.rf (c_L_keeps hflag hi hv) (fun _ _ => rfl) cal_L_keeps kM_L_167 ⟨Nat.le_trans (Nat.le_of_ble_eq_true rfl) hRf, Nat.le_trans (Nat.le_of_ble_eq_true rfl) hRl⟩ rfl hl.1 (Nat.le_of_ble_eq_true rfl) rfl dL_council_31 ⟨by omega, by omega⟩ (fun _ _ => rfl) (fun j hj h => absurd rfl (h j hj)) (fun H locs hP hS => ?_)
  refine lv_iconst (v := 0) hx hb dL_council_34 (by decide) ?_
  refine lv_istore (lv' := [(6, .int 0), (5, .ref (ad 53)), (4, .ref (ad 52)), (3, .ref (ad 51)), (2, .ref (ad 48)), (0, .ref b), (1, .int a0)]) hx hb dL_council_35 hl (by decide) rfl (fun ls hl => ?_)
  obtain ⟨K110, eK110, hf⟩ := lp_e1 (b := fun K => L_L_council_37 xs L 57 K a0 0 σ102) hf
  replace hf : L_L_council_37 xs L 57 K110 a0 0 σ102 = some (r, σr) := hf
  have hKK110 : ∀ (σ111 : Mem) (ce106 sl107 : Nat) (hce106 : ce106 ≤ (54 + 0) + 28 * 57) (hsl107 : sl107 ≤ (3332 + 6 * 0) + 6 * (28 * 57)) (H : Heap) (locs : List Loc) (ls : Array Slot), K110 σ111 = some (r, σr) → va_P D vwCl (wsG 54 ad (EY ad cI cJ) σ111) H → va_S (fun q : Nat => s.heap.size ≤ q) s.heap H locs → lv_has ls 11 [] → W p l e R s m args below meth c H locs ce106 sl107 Q (F0 m 271 ls []) := by
    intro σ111 ce106 sl107 hce106 hsl107 H locs ls hf hP hS hl
    rw [eK110] at hf
    refine lv_iconst (v := 1) hx hb dL_council_271 (by decide) ?_
    obtain ⟨h1, h2⟩ := rt2 hf
    refine W.widen (k := 4000) (n := 6 * 4000) (by omega) (by omega) ?_
    rw [hQ]
    exact g_cret hx hb hr hlocks hS (Or.inr rfl) h1 dL_council_272
  have hL_L_council_37 : ∀ (n : Nat) (x104 : Int32) (σ105 : Mem) (ce108 sl109 : Nat) (hce108 : ce108 + 28 * n ≤ (54 + 0) + 28 * 57) (hsl109 : sl109 + 6 * (28 * n) ≤ (3332 + 6 * 0) + 6 * (28 * 57)) (H : Heap) (locs : List Loc) (ls : Array Slot), L_L_council_37 xs L n K110 a0 x104 σ105 = some (r, σr) → va_P D vwCl (wsG 54 ad (EY ad cI cJ) σ105) H → va_S (fun q : Nat => s.heap.size ≤ q) s.heap H locs → lv_has ls 11 [(0, .ref b), (1, .int a0), (2, .ref (ad 48)), (3, .ref (ad 51)), (4, .ref (ad 52)), (5, .ref (ad 53)), (6, .int x104)] → W p l e R s m args below meth c H locs ce108 sl109 Q (F0 m 37 ls []) := by
    intro n
    induction n with
    | zero => intro x104 σ105 ce108 sl109 hce108 hsl109 H locs ls hf; cases hf
    | succ n ih =>
      intro x104 σ105 ce108 sl109 hce108 hsl109 H locs ls hf hP hS hl
      rw [L_L_council_37] at hf
      refine lv_iload hx hb dL_council_37 (lv_at hl 6 rfl) ?_
      refine lv_bipush (v := 56) hx hb dL_council_39 (by decide) ?_
      refine lv_icmp_ge (tgt := 271) hx hb dL_council_41 (by decide) (fun q112 => ?_) (fun q112 => ?_)
      · rw [if_pos q112] at hf
        exact hKK110 σ105 ce108 sl109 (by omega) (by omega) _ _ ls hf hP hS (lv_sub hl [] rfl)
      · rw [if_neg q112] at hf
        refine lv_aload_n hx hb dL_council_44 rfl (lv_at hl 0 rfl) ?_
        refine lv_iload_n hx hb dL_council_45 rfl (lv_at hl 1 rfl) ?_
        refine lv_iconst (v := 3) hx hb dL_council_46 (by decide) ?_
        refine lv_iload hx hb dL_council_47 (lv_at hl 6 rfl) ?_
        refine lv_imul hx hb dL_council_49 ?_
        refine lv_iadd hx hb dL_council_50 ?_
        refine lv_iconst (v := 1) hx hb dL_council_51 (by decide) ?_
        refine lv_iadd hx hb dL_council_52 ?_
        refine lv_ldc (v := 1073741824) hx hb hown (hB _ kC_L_171) dL_council_53 ?_
        obtain ⟨v113, hv, hf⟩ := bd_e hf
        refine g_dr ⟨⟨hx, hb, hml, hown, hB⟩, hK, hi, hA, hAd, hP, hS⟩ hX hbl hbA hv kM_L_172 ⟨Nat.le_trans (Nat.le_of_ble_eq_true rfl) hRf, Nat.le_trans (Nat.le_of_ble_eq_true rfl) hRl⟩ hl.1 (Nat.le_of_ble_eq_true rfl) rfl dL_council_55 ⟨by omega, by omega⟩ (fun H locs hP hS => ?_)
        refine lv_istore (lv' := [(7, .int v113), (0, .ref b), (1, .int a0), (2, .ref (ad 48)), (3, .ref (ad 51)), (4, .ref (ad 52)), (5, .ref (ad 53)), (6, .int x104)]) hx hb dL_council_58 hl (by decide) rfl (fun ls hl => ?_)
        refine lv_aload_n hx hb dL_council_60 rfl (lv_at hl 1 rfl) ?_
        refine lv_iload_n hx hb dL_council_61 rfl (lv_at hl 2 rfl) ?_
        refine lv_iconst (v := 3) hx hb dL_council_62 (by decide) ?_
        refine lv_iload hx hb dL_council_63 (lv_at hl 7 rfl) ?_
        refine lv_imul hx hb dL_council_65 ?_
        refine lv_iadd hx hb dL_council_66 ?_
        refine lv_iconst (v := 2) hx hb dL_council_67 (by decide) ?_
        refine lv_iadd hx hb dL_council_68 ?_
        refine lv_ldc (v := 1073741824) hx hb hown (hB _ kC_L_171) dL_council_69 ?_
        obtain ⟨v115, hv, hf⟩ := bd_e hf
        refine g_dr ⟨⟨hx, hb, hml, hown, hB⟩, hK, hi, hA, hAd, hP, hS⟩ hX hbl hbA hv kM_L_172 ⟨Nat.le_trans (Nat.le_of_ble_eq_true rfl) hRf, Nat.le_trans (Nat.le_of_ble_eq_true rfl) hRl⟩ hl.1 (Nat.le_of_ble_eq_true rfl) rfl dL_council_71 ⟨by omega, by omega⟩ (fun H locs hP hS => ?_)
        refine lv_istore (lv' := [(8, .int v115), (7, .int v113), (0, .ref b), (1, .int a0), (2, .ref (ad 48)), (3, .ref (ad 51)), (4, .ref (ad 52)), (5, .ref (ad 53)), (6, .int x104)]) hx hb dL_council_74 hl (by decide) rfl (fun ls hl => ?_)
        refine lv_iload hx hb dL_council_76 (lv_at hl 8 rfl) ?_
        refine lv_bipush (v := 7) hx hb dL_council_78 (by decide) ?_
        obtain ⟨J119, eJ119, hf⟩ := jn_e2 hf
        have hJ119 : ∀ (y118 : Int32) (σ117 : Mem) (H : Heap) (locs : List Loc) (ls : Array Slot), J119 y118 σ117 = some (r, σr) → va_P D vwCl (wsG 54 ad (EY ad cI cJ) σ117) H → va_S (fun q : Nat => s.heap.size ≤ q) s.heap H locs → lv_has ls 11 [(0, .ref b), (1, .int a0), (2, .ref (ad 48)), (3, .ref (ad 51)), (4, .ref (ad 52)), (5, .ref (ad 53)), (6, .int x104), (7, .int v113), (8, .int v115)] → W p l e R s m args below meth c H locs ce108 sl109 Q (F0 m 144 ls [.int y118]) := by
          intro y118 σ117 H locs ls hf hP hS hl
          rw [eJ119] at hf
          refine lv_istore (lv' := [(9, .int y118), (0, .ref b), (1, .int a0), (2, .ref (ad 48)), (3, .ref (ad 51)), (4, .ref (ad 52)), (5, .ref (ad 53)), (6, .int x104), (7, .int v113), (8, .int v115)]) hx hb dL_council_144 hl (by decide) rfl (fun ls hl => ?_)
          refine lv_iload hx hb dL_council_146 (lv_at hl 0 rfl) ?_
          refine lv_bipush (v := 7) hx hb dL_council_148 (by decide) ?_
          obtain ⟨J122, eJ122, hf⟩ := jn_e2 hf
          have hJ122 : ∀ (y121 : Int32) (σ120 : Mem) (ce123 sl124 : Nat) (hce123 : ce123 ≤ ce108 + 16) (hsl124 : sl124 ≤ sl109 + 6 * 16) (H : Heap) (locs : List Loc) (ls : Array Slot), J122 y121 σ120 = some (r, σr) → va_P D vwCl (wsG 54 ad (EY ad cI cJ) σ120) H → va_S (fun q : Nat => s.heap.size ≤ q) s.heap H locs → lv_has ls 11 [(0, .ref b), (1, .int a0), (2, .ref (ad 48)), (3, .ref (ad 51)), (4, .ref (ad 52)), (5, .ref (ad 53)), (6, .int x104), (7, .int v113), (8, .int v115)] → W p l e R s m args below meth c H locs ce123 sl124 Q (F0 m 184 ls [.int y121]) := by
            intro y121 σ120 ce123 sl124 hce123 hsl124 H locs ls hf hP hS hl
            rw [eJ122] at hf
            refine lv_istore (lv' := [(10, .int y121), (0, .ref b), (1, .int a0), (2, .ref (ad 48)), (3, .ref (ad 51)), (4, .ref (ad 52)), (5, .ref (ad 53)), (6, .int x104), (7, .int v113), (8, .int v115)]) hx hb dL_council_184 hl (by decide) rfl (fun ls hl => ?_)
            refine lv_aload_n hx hb dL_council_186 rfl (lv_at hl 3 rfl) ?_
            refine lv_aload_n hx hb dL_council_187 rfl (lv_at hl 4 rfl) ?_
            refine lv_aload hx hb dL_council_188 (lv_at hl 5 rfl) ?_
            refine lv_aload hx hb dL_council_190 (lv_at hl 6 rfl) ?_
            obtain ⟨σ126, hv, hf⟩ := bd_e hf
            refine g_yv (τ := σ126) ⟨⟨hx, hb, hml, hown, hB⟩, hK, hi, hA, hAd, hP, hS⟩ hZ hN subG.rf (c_L_keeps hflag hi hv) (fun _ _ => rfl) cal_L_keeps kM_L_167 ⟨Nat.le_trans (Nat.le_of_ble_eq_true rfl) hRf, Nat.le_trans (Nat.le_of_ble_eq_true rfl) hRl⟩ rfl hl.1 (Nat.le_of_ble_eq_true rfl) rfl dL_council_192 ⟨by omega, by omega⟩ (fun _ _ => rfl) (fun j hj h => absurd rfl (h j hj)) (fun H locs hP hS => ?_)
            refine lv_iload hx hb dL_council_195 (lv_at hl 0 rfl) ?_
            refine lv_if_eq (tgt := 263) hx hb dL_council_197 (by decide) (fun q127 => ?_) (fun q127 => ?_)
            · rw [if_pos q127] at hf
              refine lv_iconst (v := 0) hx hb dL_council_263 (by decide) ?_
              obtain ⟨h1, h2⟩ := rt2 hf
              refine W.widen (k := 4000) (n := 6 * 4000) (by omega) (by omega) ?_
              rw [hQ]
              exact g_cret hx hb hr hlocks hS (Or.inl rfl) h1 dL_council_264
            · rw [if_neg q127] at hf
              refine lv_aload_n hx hb dL_council_200 rfl (lv_at hl 3 rfl) ?_
              refine lv_aload_n hx hb dL_council_201 rfl (lv_at hl 4 rfl) ?_
              obtain ⟨v128, σ129, hv, hf⟩ := bd2_e hf
              refine g_yi (τ := σ129) ⟨⟨hx, hb, hml, hown, hB⟩, hK, hi, hA, hAd, hP, hS⟩ hZ hN subG.rf (c_L_isWorld hflag hi hv) (fun _ _ => rfl) cal_L_isWorld kM_L_183 ⟨Nat.le_trans (Nat.le_of_ble_eq_true rfl) hRf, Nat.le_trans (Nat.le_of_ble_eq_true rfl) hRl⟩ rfl hl.1 (Nat.le_of_ble_eq_true rfl) rfl dL_council_202 ⟨by omega, by omega⟩ (fun _ _ => rfl) (fun j hj h => absurd rfl (h j hj)) (fun H locs hP hS => ?_)
              refine lv_if_eq (tgt := 263) hx hb dL_council_205 (by decide) (fun q130 => ?_) (fun q130 => ?_)
              · rw [if_pos q130] at hf
                refine lv_iconst (v := 0) hx hb dL_council_263 (by decide) ?_
                obtain ⟨h1, h2⟩ := rt2 hf
                refine W.widen (k := 4000) (n := 6 * 4000) (by omega) (by omega) ?_
                rw [hQ]
                exact g_cret hx hb hr hlocks hS (Or.inl rfl) h1 dL_council_264
              · rw [if_neg q130] at hf
                refine lv_aload_n hx hb dL_council_208 rfl (lv_at hl 3 rfl) ?_
                refine lv_iload hx hb dL_council_209 (lv_at hl 8 rfl) ?_
                refine lv_bipush (v := 9) hx hb dL_council_211 (by decide) ?_
                refine lv_idiv hx hb dL_council_213 (by decide) ?_
                refine lv_bipush (v := 8) hx hb dL_council_214 (by decide) ?_
                refine lv_iremJ hx hb dL_council_216 (by decide) ?_
                obtain ⟨v131, σ132, hv, hf⟩ := bd2_e hf
                refine g_yi (τ := σ132) ⟨⟨hx, hb, hml, hown, hB⟩, hK, hi, hA, hAd, hP, hS⟩ hZ hN subG.rf (c_L_areRooms hflag hi hv) (fun _ _ => rfl) cal_L_areRooms kM_L_187 ⟨Nat.le_trans (Nat.le_of_ble_eq_true rfl) hRf, Nat.le_trans (Nat.le_of_ble_eq_true rfl) hRl⟩ rfl hl.1 (Nat.le_of_ble_eq_true rfl) rfl dL_council_217 ⟨by omega, by omega⟩ (fun _ _ => rfl) (fun j hj h => absurd rfl (h j hj)) (fun H locs hP hS => ?_)
                refine lv_if_eq (tgt := 263) hx hb dL_council_220 (by decide) (fun q133 => ?_) (fun q133 => ?_)
                · rw [if_pos q133] at hf
                  refine lv_iconst (v := 0) hx hb dL_council_263 (by decide) ?_
                  obtain ⟨h1, h2⟩ := rt2 hf
                  refine W.widen (k := 4000) (n := 6 * 4000) (by omega) (by omega) ?_
                  rw [hQ]
                  exact g_cret hx hb hr hlocks hS (Or.inl rfl) h1 dL_council_264
                · rw [if_neg q133] at hf
                  refine lv_aload_n hx hb dL_council_223 rfl (lv_at hl 3 rfl) ?_
                  refine lv_aload hx hb dL_council_224 (lv_at hl 5 rfl) ?_
                  refine lv_aload hx hb dL_council_226 (lv_at hl 6 rfl) ?_
                  refine lv_iload hx hb dL_council_228 (lv_at hl 9 rfl) ?_
                  refine lv_bipush (v := 7) hx hb dL_council_230 (by decide) ?_
                  refine lv_idiv hx hb dL_council_232 (by decide) ?_
                  refine lv_aload_n hx hb dL_council_233 rfl (lv_at hl 4 rfl) ?_
                  refine lv_bipush (v := 6) hx hb dL_council_234 (by decide) ?_
                  obtain ⟨hin, hf⟩ := gd_e hf
                  refine g_iald hx hb hK hP 51 13 (by decide) (EY_51 _) hin dL_council_236 ?_
                  refine lv_iconst (v := 1) hx hb dL_council_237 (by decide) ?_
                  refine lv_iadd hx hb dL_council_238 ?_
                  obtain ⟨hnz, hf⟩ := nz_e hf
                  refine lv_iremJ hx hb dL_council_239 hnz ?_
                  obtain ⟨v134, σ135, hv, hf⟩ := bd2_e hf
                  refine g_yi (τ := σ135) ⟨⟨hx, hb, hml, hown, hB⟩, hK, hi, hA, hAd, hP, hS⟩ hZ hN subG.rf (c_L_wasSo hflag hi hv) (fun _ _ => rfl) cal_L_wasSo kM_L_191 ⟨Nat.le_trans (Nat.le_of_ble_eq_true rfl) hRf, Nat.le_trans (Nat.le_of_ble_eq_true rfl) hRl⟩ rfl hl.1 (Nat.le_of_ble_eq_true rfl) rfl dL_council_240 ⟨by omega, by omega⟩ (fun _ _ => rfl) (fun j hj h => absurd rfl (h j hj)) (fun H locs hP hS => ?_)
                  refine lv_if_eq (tgt := 263) hx hb dL_council_243 (by decide) (fun q136 => ?_) (fun q136 => ?_)
                  · rw [if_pos q136] at hf
                    refine lv_iconst (v := 0) hx hb dL_council_263 (by decide) ?_
                    obtain ⟨h1, h2⟩ := rt2 hf
                    refine W.widen (k := 4000) (n := 6 * 4000) (by omega) (by omega) ?_
                    rw [hQ]
                    exact g_cret hx hb hr hlocks hS (Or.inl rfl) h1 dL_council_264
                  · rw [if_neg q136] at hf
                    refine lv_aload_n hx hb dL_council_246 rfl (lv_at hl 3 rfl) ?_
                    refine lv_iconst (v := 2) hx hb dL_council_247 (by decide) ?_
                    refine lv_aload_n hx hb dL_council_248 rfl (lv_at hl 4 rfl) ?_
                    refine lv_bipush (v := 6) hx hb dL_council_249 (by decide) ?_
                    obtain ⟨hin, hf⟩ := gd_e hf
                    refine g_iald hx hb hK hP 51 13 (by decide) (EY_51 _) hin dL_council_251 ?_
                    refine lv_iconst (v := 1) hx hb dL_council_252 (by decide) ?_
                    refine lv_iadd hx hb dL_council_253 ?_
                    refine lv_iconst (v := 0) hx hb dL_council_254 (by decide) ?_
                    obtain ⟨v137, σ138, hv, hf⟩ := bd2_e hf
                    refine g_ti (τ := σ138) ⟨⟨hx, hb, hml, hown, hB⟩, hK, hi, hA, hAd, hP, hS⟩ hZ hN subG.rf (c_L_after hflag hi hv) (fun _ _ => rfl) cal_L_after kM_L_120 ⟨Nat.le_trans (Nat.le_of_ble_eq_true rfl) hRf, Nat.le_trans (Nat.le_of_ble_eq_true rfl) hRl⟩ rfl hl.1 (Nat.le_of_ble_eq_true rfl) rfl dL_council_255 ⟨by omega, by omega⟩ (fun _ _ => rfl) (fun j hj h => absurd rfl (h j hj)) (fun H locs hP hS => ?_)
                    refine lv_bipush (v := (-7)) hx hb dL_council_258 (by decide) ?_
                    refine lv_icmp_eq (tgt := 265) hx hb dL_council_260 (by decide) (fun q139 => ?_) (fun q139 => ?_)
                    · rw [if_pos q139] at hf
                      refine lv_iinc (v := (x104 + 1)) (lv' := [(6, .int (x104 + 1)), (10, .int y121), (0, .ref b), (1, .int a0), (2, .ref (ad 48)), (3, .ref (ad 51)), (4, .ref (ad 52)), (5, .ref (ad 53)), (7, .int v113), (8, .int v115)]) hx hb dL_council_265 hl (k := 7) rfl rfl (by decide) rfl (fun ls hl => ?_)
                      refine lv_goto (tgt := 37) hx hb dL_council_268 (by decide) ?_
                      exact ih (x104 + 1) σ138 (((((ce123 + 0) + 0) + 0) + 11) + 1) (((((sl124 + 6 * 0) + 6 * 0) + 6 * 0) + 6 * 11) + 6 * 1) (by omega) (by omega) _ _ ls hf hP hS (lv_sub hl [2, 3, 4, 5, 6, 7, 0] rfl)
                    · rw [if_neg q139] at hf
                      refine lv_iconst (v := 0) hx hb dL_council_263 (by decide) ?_
                      obtain ⟨h1, h2⟩ := rt2 hf
                      refine W.widen (k := 4000) (n := 6 * 4000) (by omega) (by omega) ?_
                      rw [hQ]
                      exact g_cret hx hb hr hlocks hS (Or.inl rfl) h1 dL_council_264
          refine lv_icmp_ge (tgt := 167) hx hb dL_council_150 (by decide) (fun q140 => ?_) (fun q140 => ?_)
          · rw [if_pos q140] at hf
            refine lv_aload_n hx hb dL_council_167 rfl (lv_at hl 3 rfl) ?_
            refine lv_iload hx hb dL_council_168 (lv_at hl 0 rfl) ?_
            refine lv_bipush (v := 7) hx hb dL_council_170 (by decide) ?_
            refine lv_isub hx hb dL_council_172 ?_
            refine lv_bipush (v := 11) hx hb dL_council_173 (by decide) ?_
            refine lv_iremJ hx hb dL_council_175 (by decide) ?_
            refine lv_iload hx hb dL_council_176 (lv_at hl 8 rfl) ?_
            refine lv_iload hx hb dL_council_178 (lv_at hl 9 rfl) ?_
            refine lv_aload_n hx hb dL_council_180 rfl (lv_at hl 4 rfl) ?_
            obtain ⟨v141, σ142, hv, hf⟩ := bd2_e hf
            refine g_yi (τ := σ142) ⟨⟨hx, hb, hml, hown, hB⟩, hK, hi, hA, hAd, hP, hS⟩ hZ hN subG.rf (c_L_does hflag hi hv) (fun _ _ => rfl) cal_L_does kM_L_180 ⟨Nat.le_trans (Nat.le_of_ble_eq_true rfl) hRf, Nat.le_trans (Nat.le_of_ble_eq_true rfl) hRl⟩ rfl hl.1 (Nat.le_of_ble_eq_true rfl) rfl dL_council_181 ⟨by omega, by omega⟩ (fun _ _ => rfl) (fun j hj h => absurd rfl (h j hj)) (fun H locs hP hS => ?_)
            refine lv_istore (lv' := [(10, .int v141), (9, .int y118), (0, .ref b), (1, .int a0), (2, .ref (ad 48)), (3, .ref (ad 51)), (4, .ref (ad 52)), (5, .ref (ad 53)), (6, .int x104), (7, .int v113), (8, .int v115)]) hx hb dL_council_184 hl (by decide) rfl (fun ls hl => ?_)
            refine lv_aload_n hx hb dL_council_186 rfl (lv_at hl 4 rfl) ?_
            refine lv_aload_n hx hb dL_council_187 rfl (lv_at hl 5 rfl) ?_
            refine lv_aload hx hb dL_council_188 (lv_at hl 6 rfl) ?_
            refine lv_aload hx hb dL_council_190 (lv_at hl 7 rfl) ?_
            obtain ⟨σ144, hv, hf⟩ := bd_e hf
            refine g_yv (τ := σ144) ⟨⟨hx, hb, hml, hown, hB⟩, hK, hi, hA, hAd, hP, hS⟩ hZ hN subG.rf (c_L_keeps hflag hi hv) (fun _ _ => rfl) cal_L_keeps kM_L_167 ⟨Nat.le_trans (Nat.le_of_ble_eq_true rfl) hRf, Nat.le_trans (Nat.le_of_ble_eq_true rfl) hRl⟩ rfl hl.1 (Nat.le_of_ble_eq_true rfl) rfl dL_council_192 ⟨by omega, by omega⟩ (fun _ _ => rfl) (fun j hj h => absurd rfl (h j hj)) (fun H locs hP hS => ?_)
            refine lv_iload hx hb dL_council_195 (lv_at hl 0 rfl) ?_
            refine lv_if_eq (tgt := 263) hx hb dL_council_197 (by decide) (fun q145 => ?_) (fun q145 => ?_)
            · rw [if_pos q145] at hf
              refine lv_iconst (v := 0) hx hb dL_council_263 (by decide) ?_
              obtain ⟨h1, h2⟩ := rt2 hf
              refine W.widen (k := 4000) (n := 6 * 4000) (by omega) (by omega) ?_
              rw [hQ]
              exact g_cret hx hb hr hlocks hS (Or.inl rfl) h1 dL_council_264
            · rw [if_neg q145] at hf
              refine lv_aload_n hx hb dL_council_200 rfl (lv_at hl 4 rfl) ?_
              refine lv_aload_n hx hb dL_council_201 rfl (lv_at hl 5 rfl) ?_
              obtain ⟨v146, σ147, hv, hf⟩ := bd2_e hf
              refine g_yi (τ := σ147) ⟨⟨hx, hb, hml, hown, hB⟩, hK, hi, hA, hAd, hP, hS⟩ hZ hN subG.rf (c_L_isWorld hflag hi hv) (fun _ _ => rfl) cal_L_isWorld kM_L_183 ⟨Nat.le_trans (Nat.le_of_ble_eq_true rfl) hRf, Nat.le_trans (Nat.le_of_ble_eq_true rfl) hRl⟩ rfl hl.1 (Nat.le_of_ble_eq_true rfl) rfl dL_council_202 ⟨by omega, by omega⟩ (fun _ _ => rfl) (fun j hj h => absurd rfl (h j hj)) (fun H locs hP hS => ?_)
              refine lv_if_eq (tgt := 263) hx hb dL_council_205 (by decide) (fun q148 => ?_) (fun q148 => ?_)
              · rw [if_pos q148] at hf
                refine lv_iconst (v := 0) hx hb dL_council_263 (by decide) ?_
                obtain ⟨h1, h2⟩ := rt2 hf
                refine W.widen (k := 4000) (n := 6 * 4000) (by omega) (by omega) ?_
                rw [hQ]
                exact g_cret hx hb hr hlocks hS (Or.inl rfl) h1 dL_council_264
              · rw [if_neg q148] at hf
                refine lv_aload_n hx hb dL_council_208 rfl (lv_at hl 4 rfl) ?_
                refine lv_iload hx hb dL_council_209 (lv_at hl 9 rfl) ?_
                refine lv_bipush (v := 9) hx hb dL_council_211 (by decide) ?_
                refine lv_idiv hx hb dL_council_213 (by decide) ?_
                refine lv_bipush (v := 8) hx hb dL_council_214 (by decide) ?_
                refine lv_iremJ hx hb dL_council_216 (by decide) ?_
                obtain ⟨v149, σ150, hv, hf⟩ := bd2_e hf
                refine g_yi (τ := σ150) ⟨⟨hx, hb, hml, hown, hB⟩, hK, hi, hA, hAd, hP, hS⟩ hZ hN subG.rf (c_L_areRooms hflag hi hv) (fun _ _ => rfl) cal_L_areRooms kM_L_187 ⟨Nat.le_trans (Nat.le_of_ble_eq_true rfl) hRf, Nat.le_trans (Nat.le_of_ble_eq_true rfl) hRl⟩ rfl hl.1 (Nat.le_of_ble_eq_true rfl) rfl dL_council_217 ⟨by omega, by omega⟩ (fun _ _ => rfl) (fun j hj h => absurd rfl (h j hj)) (fun H locs hP hS => ?_)
                refine lv_if_eq (tgt := 263) hx hb dL_council_220 (by decide) (fun q151 => ?_) (fun q151 => ?_)
                · rw [if_pos q151] at hf
                  refine lv_iconst (v := 0) hx hb dL_council_263 (by decide) ?_
                  obtain ⟨h1, h2⟩ := rt2 hf
                  refine W.widen (k := 4000) (n := 6 * 4000) (by omega) (by omega) ?_
                  rw [hQ]
                  exact g_cret hx hb hr hlocks hS (Or.inl rfl) h1 dL_council_264
                · rw [if_neg q151] at hf
                  refine lv_aload_n hx hb dL_council_223 rfl (lv_at hl 4 rfl) ?_
                  refine lv_aload hx hb dL_council_224 (lv_at hl 6 rfl) ?_
                  refine lv_aload hx hb dL_council_226 (lv_at hl 7 rfl) ?_
                  refine lv_iload hx hb dL_council_228 (lv_at hl 10 rfl) ?_
                  refine lv_bipush (v := 7) hx hb dL_council_230 (by decide) ?_
                  refine lv_idiv hx hb dL_council_232 (by decide) ?_
                  refine lv_aload_n hx hb dL_council_233 rfl (lv_at hl 5 rfl) ?_
                  refine lv_bipush (v := 6) hx hb dL_council_234 (by decide) ?_
                  obtain ⟨hin, hf⟩ := gd_e hf
                  refine g_iald hx hb hK hP 51 13 (by decide) (EY_51 _) hin dL_council_236 ?_
                  refine lv_iconst (v := 1) hx hb dL_council_237 (by decide) ?_
                  refine lv_iadd hx hb dL_council_238 ?_
                  obtain ⟨hnz, hf⟩ := nz_e hf
                  refine lv_iremJ hx hb dL_council_239 hnz ?_
                  obtain ⟨v152, σ153, hv, hf⟩ := bd2_e hf
                  refine g_yi (τ := σ153) ⟨⟨hx, hb, hml, hown, hB⟩, hK, hi, hA, hAd, hP, hS⟩ hZ hN subG.rf (c_L_wasSo hflag hi hv) (fun _ _ => rfl) cal_L_wasSo kM_L_191 ⟨Nat.le_trans (Nat.le_of_ble_eq_true rfl) hRf, Nat.le_trans (Nat.le_of_ble_eq_true rfl) hRl⟩ rfl hl.1 (Nat.le_of_ble_eq_true rfl) rfl dL_council_240 ⟨by omega, by omega⟩ (fun _ _ => rfl) (fun j hj h => absurd rfl (h j hj)) (fun H locs hP hS => ?_)
                  refine lv_if_eq (tgt := 263) hx hb dL_council_243 (by decide) (fun q154 => ?_) (fun q154 => ?_)
                  · rw [if_pos q154] at hf
                    refine lv_iconst (v := 0) hx hb dL_council_263 (by decide) ?_
                    obtain ⟨h1, h2⟩ := rt2 hf
                    refine W.widen (k := 4000) (n := 6 * 4000) (by omega) (by omega) ?_
                    rw [hQ]
                    exact g_cret hx hb hr hlocks hS (Or.inl rfl) h1 dL_council_264
                  · rw [if_neg q154] at hf
                    refine lv_aload_n hx hb dL_council_246 rfl (lv_at hl 4 rfl) ?_
                    refine lv_iconst (v := 2) hx hb dL_council_247 (by decide) ?_
                    refine lv_aload_n hx hb dL_council_248 rfl (lv_at hl 5 rfl) ?_
                    refine lv_bipush (v := 6) hx hb dL_council_249 (by decide) ?_
                    obtain ⟨hin, hf⟩ := gd_e hf
                    refine g_iald hx hb hK hP 51 13 (by decide) (EY_51 _) hin dL_council_251 ?_
                    refine lv_iconst (v := 1) hx hb dL_council_252 (by decide) ?_
                    refine lv_iadd hx hb dL_council_253 ?_
                    refine lv_iconst (v := 0) hx hb dL_council_254 (by decide) ?_
                    obtain ⟨v155, σ156, hv, hf⟩ := bd2_e hf
                    refine g_ti (τ := σ156) ⟨⟨hx, hb, hml, hown, hB⟩, hK, hi, hA, hAd, hP, hS⟩ hZ hN subG.rf (c_L_after hflag hi hv) (fun _ _ => rfl) cal_L_after kM_L_120 ⟨Nat.le_trans (Nat.le_of_ble_eq_true rfl) hRf, Nat.le_trans (Nat.le_of_ble_eq_true rfl) hRl⟩ rfl hl.1 (Nat.le_of_ble_eq_true rfl) rfl dL_council_255 ⟨by omega, by omega⟩ (fun _ _ => rfl) (fun j hj h => absurd rfl (h j hj)) (fun H locs hP hS => ?_)
                    refine lv_bipush (v := (-7)) hx hb dL_council_258 (by decide) ?_
                    refine lv_icmp_eq (tgt := 265) hx hb dL_council_260 (by decide) (fun q157 => ?_) (fun q157 => ?_)
                    · rw [if_pos q157] at hf
                      refine lv_iinc (v := (x104 + 1)) (lv' := [(6, .int (x104 + 1)), (10, .int v141), (9, .int y118), (0, .ref b), (1, .int a0), (2, .ref (ad 48)), (3, .ref (ad 51)), (4, .ref (ad 52)), (5, .ref (ad 53)), (7, .int v113), (8, .int v115)]) hx hb dL_council_265 hl (k := 8) rfl rfl (by decide) rfl (fun ls hl => ?_)
                      refine lv_goto (tgt := 37) hx hb dL_council_268 (by decide) ?_
                      exact ih (x104 + 1) σ156 ((((((ce108 + 16) + 0) + 0) + 0) + 11) + 1) ((((((sl109 + 6 * 16) + 6 * 0) + 6 * 0) + 6 * 0) + 6 * 11) + 6 * 1) (by omega) (by omega) _ _ ls hf hP hS (lv_sub hl [3, 4, 5, 6, 7, 8, 0] rfl)
                    · rw [if_neg q157] at hf
                      refine lv_iconst (v := 0) hx hb dL_council_263 (by decide) ?_
                      obtain ⟨h1, h2⟩ := rt2 hf
                      refine W.widen (k := 4000) (n := 6 * 4000) (by omega) (by omega) ?_
                      rw [hQ]
                      exact g_cret hx hb hr hlocks hS (Or.inl rfl) h1 dL_council_264
          · rw [if_neg q140] at hf
            refine lv_aload_n hx hb dL_council_153 rfl (lv_at hl 3 rfl) ?_
            refine lv_iload hx hb dL_council_154 (lv_at hl 0 rfl) ?_
            refine lv_iload hx hb dL_council_156 (lv_at hl 8 rfl) ?_
            refine lv_iload hx hb dL_council_158 (lv_at hl 9 rfl) ?_
            refine lv_aload_n hx hb dL_council_160 rfl (lv_at hl 4 rfl) ?_
            obtain ⟨v158, σ159, hv, hf⟩ := bd2_e hf
            refine g_yi (τ := σ159) ⟨⟨hx, hb, hml, hown, hB⟩, hK, hi, hA, hAd, hP, hS⟩ hZ hN subG.rf (c_L_makes hflag hi hv) (fun _ _ => rfl) cal_L_makes kM_L_176 ⟨Nat.le_trans (Nat.le_of_ble_eq_true rfl) hRf, Nat.le_trans (Nat.le_of_ble_eq_true rfl) hRl⟩ rfl hl.1 (Nat.le_of_ble_eq_true rfl) rfl dL_council_161 ⟨by omega, by omega⟩ (fun _ _ => rfl) (fun j hj h => absurd rfl (h j hj)) (fun H locs hP hS => ?_)
            refine lv_goto (tgt := 184) hx hb dL_council_164 (by decide) ?_
            exact hJ122 v158 σ159 (ce108 + 1) (sl109 + 6 * 1) (by omega) (by omega) _ _ ls hf hP hS (lv_sub hl [1, 2, 3, 4, 5, 6, 7, 8, 9] rfl)
        refine lv_icmp_ge (tgt := 87) hx hb dL_council_80 (by decide) (fun q160 => ?_) (fun q160 => ?_)
        · rw [if_pos q160] at hf
          refine lv_iload hx hb dL_council_87 (lv_at hl 8 rfl) ?_
          refine lv_bipush (v := 10) hx hb dL_council_89 (by decide) ?_
          refine lv_icmp_ge (tgt := 98) hx hb dL_council_91 (by decide) (fun q161 => ?_) (fun q161 => ?_)
          · rw [if_pos q161] at hf
            refine lv_iload hx hb dL_council_98 (lv_at hl 8 rfl) ?_
            refine lv_bipush (v := 13) hx hb dL_council_100 (by decide) ?_
            refine lv_icmp_ge (tgt := 109) hx hb dL_council_102 (by decide) (fun q162 => ?_) (fun q162 => ?_)
            · rw [if_pos q162] at hf
              refine lv_iload hx hb dL_council_109 (lv_at hl 8 rfl) ?_
              refine lv_bipush (v := 13) hx hb dL_council_111 (by decide) ?_
              refine lv_icmp_ne (tgt := 120) hx hb dL_council_113 (by decide) (fun q163 => ?_) (fun q163 => ?_)
              · rw [if_neg q163] at hf
                refine lv_iload hx hb dL_council_120 (lv_at hl 8 rfl) ?_
                refine lv_bipush (v := 17) hx hb dL_council_122 (by decide) ?_
                refine lv_icmp_ge (tgt := 132) hx hb dL_council_124 (by decide) (fun q164 => ?_) (fun q164 => ?_)
                · rw [if_pos q164] at hf
                  refine lv_aload_n hx hb dL_council_132 rfl (lv_at hl 2 rfl) ?_
                  refine lv_iload_n hx hb dL_council_133 rfl (lv_at hl 3 rfl) ?_
                  refine lv_iconst (v := 3) hx hb dL_council_134 (by decide) ?_
                  refine lv_iload hx hb dL_council_135 (lv_at hl 8 rfl) ?_
                  refine lv_imul hx hb dL_council_137 ?_
                  refine lv_iadd hx hb dL_council_138 ?_
                  refine lv_bipush (v := 26) hx hb dL_council_139 (by decide) ?_
                  obtain ⟨v165, hv, hf⟩ := bd_e hf
                  refine g_dr ⟨⟨hx, hb, hml, hown, hB⟩, hK, hi, hA, hAd, hP, hS⟩ hX hbl hbA hv kM_L_172 ⟨Nat.le_trans (Nat.le_of_ble_eq_true rfl) hRf, Nat.le_trans (Nat.le_of_ble_eq_true rfl) hRl⟩ hl.1 (Nat.le_of_ble_eq_true rfl) rfl dL_council_141 ⟨by omega, by omega⟩ (fun H locs hP hS => ?_)
                  refine lv_istore (lv' := [(9, .int v165), (8, .int v115), (7, .int v113), (0, .ref b), (1, .int a0), (2, .ref (ad 48)), (3, .ref (ad 51)), (4, .ref (ad 52)), (5, .ref (ad 53)), (6, .int x104)]) hx hb dL_council_144 hl (by decide) rfl (fun ls hl => ?_)
                  refine lv_iload hx hb dL_council_146 (lv_at hl 0 rfl) ?_
                  refine lv_bipush (v := 7) hx hb dL_council_148 (by decide) ?_
                  obtain ⟨J169, eJ169, hf⟩ := jn_e2 hf
                  have hJ169 : ∀ (y168 : Int32) (σ167 : Mem) (ce170 sl171 : Nat) (hce170 : ce170 ≤ ce108 + 16) (hsl171 : sl171 ≤ sl109 + 6 * 16) (H : Heap) (locs : List Loc) (ls : Array Slot), J169 y168 σ167 = some (r, σr) → va_P D vwCl (wsG 54 ad (EY ad cI cJ) σ167) H → va_S (fun q : Nat => s.heap.size ≤ q) s.heap H locs → lv_has ls 11 [(0, .ref b), (1, .int a0), (2, .ref (ad 48)), (3, .ref (ad 51)), (4, .ref (ad 52)), (5, .ref (ad 53)), (6, .int x104), (7, .int v113), (8, .int v115)] → W p l e R s m args below meth c H locs ce170 sl171 Q (F0 m 184 ls [.int y168]) := by
                    intro y168 σ167 ce170 sl171 hce170 hsl171 H locs ls hf hP hS hl
                    rw [eJ169] at hf
                    refine lv_istore (lv' := [(10, .int y168), (0, .ref b), (1, .int a0), (2, .ref (ad 48)), (3, .ref (ad 51)), (4, .ref (ad 52)), (5, .ref (ad 53)), (6, .int x104), (7, .int v113), (8, .int v115)]) hx hb dL_council_184 hl (by decide) rfl (fun ls hl => ?_)
                    refine lv_aload_n hx hb dL_council_186 rfl (lv_at hl 3 rfl) ?_
                    refine lv_aload_n hx hb dL_council_187 rfl (lv_at hl 4 rfl) ?_
                    refine lv_aload hx hb dL_council_188 (lv_at hl 5 rfl) ?_
                    refine lv_aload hx hb dL_council_190 (lv_at hl 6 rfl) ?_
                    obtain ⟨σ173, hv, hf⟩ := bd_e hf
                    refine g_yv (τ := σ173) ⟨⟨hx, hb, hml, hown, hB⟩, hK, hi, hA, hAd, hP, hS⟩ hZ hN subG.rf (c_L_keeps hflag hi hv) (fun _ _ => rfl) cal_L_keeps kM_L_167 ⟨Nat.le_trans (Nat.le_of_ble_eq_true rfl) hRf, Nat.le_trans (Nat.le_of_ble_eq_true rfl) hRl⟩ rfl hl.1 (Nat.le_of_ble_eq_true rfl) rfl dL_council_192 ⟨by omega, by omega⟩ (fun _ _ => rfl) (fun j hj h => absurd rfl (h j hj)) (fun H locs hP hS => ?_)
                    refine lv_iload hx hb dL_council_195 (lv_at hl 0 rfl) ?_
                    refine lv_if_eq (tgt := 263) hx hb dL_council_197 (by decide) (fun q174 => ?_) (fun q174 => ?_)
                    · rw [if_pos q174] at hf
                      refine lv_iconst (v := 0) hx hb dL_council_263 (by decide) ?_
                      obtain ⟨h1, h2⟩ := rt2 hf
                      refine W.widen (k := 4000) (n := 6 * 4000) (by omega) (by omega) ?_
                      rw [hQ]
                      exact g_cret hx hb hr hlocks hS (Or.inl rfl) h1 dL_council_264
                    · rw [if_neg q174] at hf
                      refine lv_aload_n hx hb dL_council_200 rfl (lv_at hl 3 rfl) ?_
                      refine lv_aload_n hx hb dL_council_201 rfl (lv_at hl 4 rfl) ?_
                      obtain ⟨v175, σ176, hv, hf⟩ := bd2_e hf
                      refine g_yi (τ := σ176) ⟨⟨hx, hb, hml, hown, hB⟩, hK, hi, hA, hAd, hP, hS⟩ hZ hN subG.rf (c_L_isWorld hflag hi hv) (fun _ _ => rfl) cal_L_isWorld kM_L_183 ⟨Nat.le_trans (Nat.le_of_ble_eq_true rfl) hRf, Nat.le_trans (Nat.le_of_ble_eq_true rfl) hRl⟩ rfl hl.1 (Nat.le_of_ble_eq_true rfl) rfl dL_council_202 ⟨by omega, by omega⟩ (fun _ _ => rfl) (fun j hj h => absurd rfl (h j hj)) (fun H locs hP hS => ?_)
                      refine lv_if_eq (tgt := 263) hx hb dL_council_205 (by decide) (fun q177 => ?_) (fun q177 => ?_)
                      · rw [if_pos q177] at hf
                        refine lv_iconst (v := 0) hx hb dL_council_263 (by decide) ?_
                        obtain ⟨h1, h2⟩ := rt2 hf
                        refine W.widen (k := 4000) (n := 6 * 4000) (by omega) (by omega) ?_
                        rw [hQ]
                        exact g_cret hx hb hr hlocks hS (Or.inl rfl) h1 dL_council_264
                      · rw [if_neg q177] at hf
                        refine lv_aload_n hx hb dL_council_208 rfl (lv_at hl 3 rfl) ?_
                        refine lv_iload hx hb dL_council_209 (lv_at hl 8 rfl) ?_
                        refine lv_bipush (v := 9) hx hb dL_council_211 (by decide) ?_
                        refine lv_idiv hx hb dL_council_213 (by decide) ?_
                        refine lv_bipush (v := 8) hx hb dL_council_214 (by decide) ?_
                        refine lv_iremJ hx hb dL_council_216 (by decide) ?_
                        obtain ⟨v178, σ179, hv, hf⟩ := bd2_e hf
                        refine g_yi (τ := σ179) ⟨⟨hx, hb, hml, hown, hB⟩, hK, hi, hA, hAd, hP, hS⟩ hZ hN subG.rf (c_L_areRooms hflag hi hv) (fun _ _ => rfl) cal_L_areRooms kM_L_187 ⟨Nat.le_trans (Nat.le_of_ble_eq_true rfl) hRf, Nat.le_trans (Nat.le_of_ble_eq_true rfl) hRl⟩ rfl hl.1 (Nat.le_of_ble_eq_true rfl) rfl dL_council_217 ⟨by omega, by omega⟩ (fun _ _ => rfl) (fun j hj h => absurd rfl (h j hj)) (fun H locs hP hS => ?_)
                        refine lv_if_eq (tgt := 263) hx hb dL_council_220 (by decide) (fun q180 => ?_) (fun q180 => ?_)
                        · rw [if_pos q180] at hf
                          refine lv_iconst (v := 0) hx hb dL_council_263 (by decide) ?_
                          obtain ⟨h1, h2⟩ := rt2 hf
                          refine W.widen (k := 4000) (n := 6 * 4000) (by omega) (by omega) ?_
                          rw [hQ]
                          exact g_cret hx hb hr hlocks hS (Or.inl rfl) h1 dL_council_264
                        · rw [if_neg q180] at hf
                          refine lv_aload_n hx hb dL_council_223 rfl (lv_at hl 3 rfl) ?_
                          refine lv_aload hx hb dL_council_224 (lv_at hl 5 rfl) ?_
                          refine lv_aload hx hb dL_council_226 (lv_at hl 6 rfl) ?_
                          refine lv_iload hx hb dL_council_228 (lv_at hl 9 rfl) ?_
                          refine lv_bipush (v := 7) hx hb dL_council_230 (by decide) ?_
                          refine lv_idiv hx hb dL_council_232 (by decide) ?_
                          refine lv_aload_n hx hb dL_council_233 rfl (lv_at hl 4 rfl) ?_
                          refine lv_bipush (v := 6) hx hb dL_council_234 (by decide) ?_
                          obtain ⟨hin, hf⟩ := gd_e hf
                          refine g_iald hx hb hK hP 51 13 (by decide) (EY_51 _) hin dL_council_236 ?_
                          refine lv_iconst (v := 1) hx hb dL_council_237 (by decide) ?_
                          refine lv_iadd hx hb dL_council_238 ?_
                          obtain ⟨hnz, hf⟩ := nz_e hf
                          refine lv_iremJ hx hb dL_council_239 hnz ?_
                          obtain ⟨v181, σ182, hv, hf⟩ := bd2_e hf
                          refine g_yi (τ := σ182) ⟨⟨hx, hb, hml, hown, hB⟩, hK, hi, hA, hAd, hP, hS⟩ hZ hN subG.rf (c_L_wasSo hflag hi hv) (fun _ _ => rfl) cal_L_wasSo kM_L_191 ⟨Nat.le_trans (Nat.le_of_ble_eq_true rfl) hRf, Nat.le_trans (Nat.le_of_ble_eq_true rfl) hRl⟩ rfl hl.1 (Nat.le_of_ble_eq_true rfl) rfl dL_council_240 ⟨by omega, by omega⟩ (fun _ _ => rfl) (fun j hj h => absurd rfl (h j hj)) (fun H locs hP hS => ?_)
                          refine lv_if_eq (tgt := 263) hx hb dL_council_243 (by decide) (fun q183 => ?_) (fun q183 => ?_)
                          · rw [if_pos q183] at hf
                            refine lv_iconst (v := 0) hx hb dL_council_263 (by decide) ?_
                            obtain ⟨h1, h2⟩ := rt2 hf
                            refine W.widen (k := 4000) (n := 6 * 4000) (by omega) (by omega) ?_
                            rw [hQ]
                            exact g_cret hx hb hr hlocks hS (Or.inl rfl) h1 dL_council_264
                          · rw [if_neg q183] at hf
                            refine lv_aload_n hx hb dL_council_246 rfl (lv_at hl 3 rfl) ?_
                            refine lv_iconst (v := 2) hx hb dL_council_247 (by decide) ?_
                            refine lv_aload_n hx hb dL_council_248 rfl (lv_at hl 4 rfl) ?_
                            refine lv_bipush (v := 6) hx hb dL_council_249 (by decide) ?_
                            obtain ⟨hin, hf⟩ := gd_e hf
                            refine g_iald hx hb hK hP 51 13 (by decide) (EY_51 _) hin dL_council_251 ?_
                            refine lv_iconst (v := 1) hx hb dL_council_252 (by decide) ?_
                            refine lv_iadd hx hb dL_council_253 ?_
                            refine lv_iconst (v := 0) hx hb dL_council_254 (by decide) ?_
                            obtain ⟨v184, σ185, hv, hf⟩ := bd2_e hf
                            refine g_ti (τ := σ185) ⟨⟨hx, hb, hml, hown, hB⟩, hK, hi, hA, hAd, hP, hS⟩ hZ hN subG.rf (c_L_after hflag hi hv) (fun _ _ => rfl) cal_L_after kM_L_120 ⟨Nat.le_trans (Nat.le_of_ble_eq_true rfl) hRf, Nat.le_trans (Nat.le_of_ble_eq_true rfl) hRl⟩ rfl hl.1 (Nat.le_of_ble_eq_true rfl) rfl dL_council_255 ⟨by omega, by omega⟩ (fun _ _ => rfl) (fun j hj h => absurd rfl (h j hj)) (fun H locs hP hS => ?_)
                            refine lv_bipush (v := (-7)) hx hb dL_council_258 (by decide) ?_
                            refine lv_icmp_eq (tgt := 265) hx hb dL_council_260 (by decide) (fun q186 => ?_) (fun q186 => ?_)
                            · rw [if_pos q186] at hf
                              refine lv_iinc (v := (x104 + 1)) (lv' := [(6, .int (x104 + 1)), (10, .int y168), (0, .ref b), (1, .int a0), (2, .ref (ad 48)), (3, .ref (ad 51)), (4, .ref (ad 52)), (5, .ref (ad 53)), (7, .int v113), (8, .int v115)]) hx hb dL_council_265 hl (k := 7) rfl rfl (by decide) rfl (fun ls hl => ?_)
                              refine lv_goto (tgt := 37) hx hb dL_council_268 (by decide) ?_
                              exact ih (x104 + 1) σ185 (((((ce170 + 0) + 0) + 0) + 11) + 1) (((((sl171 + 6 * 0) + 6 * 0) + 6 * 0) + 6 * 11) + 6 * 1) (by omega) (by omega) _ _ ls hf hP hS (lv_sub hl [2, 3, 4, 5, 6, 7, 0] rfl)
                            · rw [if_neg q186] at hf
                              refine lv_iconst (v := 0) hx hb dL_council_263 (by decide) ?_
                              obtain ⟨h1, h2⟩ := rt2 hf
                              refine W.widen (k := 4000) (n := 6 * 4000) (by omega) (by omega) ?_
                              rw [hQ]
                              exact g_cret hx hb hr hlocks hS (Or.inl rfl) h1 dL_council_264
                  refine lv_icmp_ge (tgt := 167) hx hb dL_council_150 (by decide) (fun q187 => ?_) (fun q187 => ?_)
                  · rw [if_pos q187] at hf
                    refine lv_aload_n hx hb dL_council_167 rfl (lv_at hl 5 rfl) ?_
                    refine lv_iload hx hb dL_council_168 (lv_at hl 0 rfl) ?_
                    refine lv_bipush (v := 7) hx hb dL_council_170 (by decide) ?_
                    refine lv_isub hx hb dL_council_172 ?_
                    refine lv_bipush (v := 11) hx hb dL_council_173 (by decide) ?_
                    refine lv_iremJ hx hb dL_council_175 (by decide) ?_
                    refine lv_iload hx hb dL_council_176 (lv_at hl 2 rfl) ?_
                    refine lv_iload hx hb dL_council_178 (lv_at hl 1 rfl) ?_
                    refine lv_aload_n hx hb dL_council_180 rfl (lv_at hl 6 rfl) ?_
                    obtain ⟨v188, σ189, hv, hf⟩ := bd2_e hf
                    refine g_yi (τ := σ189) ⟨⟨hx, hb, hml, hown, hB⟩, hK, hi, hA, hAd, hP, hS⟩ hZ hN subG.rf (c_L_does hflag hi hv) (fun _ _ => rfl) cal_L_does kM_L_180 ⟨Nat.le_trans (Nat.le_of_ble_eq_true rfl) hRf, Nat.le_trans (Nat.le_of_ble_eq_true rfl) hRl⟩ rfl hl.1 (Nat.le_of_ble_eq_true rfl) rfl dL_council_181 ⟨by omega, by omega⟩ (fun _ _ => rfl) (fun j hj h => absurd rfl (h j hj)) (fun H locs hP hS => ?_)
                    refine lv_istore (lv' := [(10, .int v188), (9, .int v165), (8, .int v115), (7, .int v113), (0, .ref b), (1, .int a0), (2, .ref (ad 48)), (3, .ref (ad 51)), (4, .ref (ad 52)), (5, .ref (ad 53)), (6, .int x104)]) hx hb dL_council_184 hl (by decide) rfl (fun ls hl => ?_)
                    refine lv_aload_n hx hb dL_council_186 rfl (lv_at hl 6 rfl) ?_
                    refine lv_aload_n hx hb dL_council_187 rfl (lv_at hl 7 rfl) ?_
                    refine lv_aload hx hb dL_council_188 (lv_at hl 8 rfl) ?_
                    refine lv_aload hx hb dL_council_190 (lv_at hl 9 rfl) ?_
                    obtain ⟨σ191, hv, hf⟩ := bd_e hf
                    refine g_yv (τ := σ191) ⟨⟨hx, hb, hml, hown, hB⟩, hK, hi, hA, hAd, hP, hS⟩ hZ hN subG.rf (c_L_keeps hflag hi hv) (fun _ _ => rfl) cal_L_keeps kM_L_167 ⟨Nat.le_trans (Nat.le_of_ble_eq_true rfl) hRf, Nat.le_trans (Nat.le_of_ble_eq_true rfl) hRl⟩ rfl hl.1 (Nat.le_of_ble_eq_true rfl) rfl dL_council_192 ⟨by omega, by omega⟩ (fun _ _ => rfl) (fun j hj h => absurd rfl (h j hj)) (fun H locs hP hS => ?_)
                    refine lv_iload hx hb dL_council_195 (lv_at hl 0 rfl) ?_
                    refine lv_if_eq (tgt := 263) hx hb dL_council_197 (by decide) (fun q192 => ?_) (fun q192 => ?_)
                    · rw [if_pos q192] at hf
                      refine lv_iconst (v := 0) hx hb dL_council_263 (by decide) ?_
                      obtain ⟨h1, h2⟩ := rt2 hf
                      refine W.widen (k := 4000) (n := 6 * 4000) (by omega) (by omega) ?_
                      rw [hQ]
                      exact g_cret hx hb hr hlocks hS (Or.inl rfl) h1 dL_council_264
                    · rw [if_neg q192] at hf
                      refine lv_aload_n hx hb dL_council_200 rfl (lv_at hl 6 rfl) ?_
                      refine lv_aload_n hx hb dL_council_201 rfl (lv_at hl 7 rfl) ?_
                      obtain ⟨v193, σ194, hv, hf⟩ := bd2_e hf
                      refine g_yi (τ := σ194) ⟨⟨hx, hb, hml, hown, hB⟩, hK, hi, hA, hAd, hP, hS⟩ hZ hN subG.rf (c_L_isWorld hflag hi hv) (fun _ _ => rfl) cal_L_isWorld kM_L_183 ⟨Nat.le_trans (Nat.le_of_ble_eq_true rfl) hRf, Nat.le_trans (Nat.le_of_ble_eq_true rfl) hRl⟩ rfl hl.1 (Nat.le_of_ble_eq_true rfl) rfl dL_council_202 ⟨by omega, by omega⟩ (fun _ _ => rfl) (fun j hj h => absurd rfl (h j hj)) (fun H locs hP hS => ?_)
                      refine lv_if_eq (tgt := 263) hx hb dL_council_205 (by decide) (fun q195 => ?_) (fun q195 => ?_)
                      · rw [if_pos q195] at hf
                        refine lv_iconst (v := 0) hx hb dL_council_263 (by decide) ?_
                        obtain ⟨h1, h2⟩ := rt2 hf
                        refine W.widen (k := 4000) (n := 6 * 4000) (by omega) (by omega) ?_
                        rw [hQ]
                        exact g_cret hx hb hr hlocks hS (Or.inl rfl) h1 dL_council_264
                      · rw [if_neg q195] at hf
                        refine lv_aload_n hx hb dL_council_208 rfl (lv_at hl 6 rfl) ?_
                        refine lv_iload hx hb dL_council_209 (lv_at hl 3 rfl) ?_
                        refine lv_bipush (v := 9) hx hb dL_council_211 (by decide) ?_
                        refine lv_idiv hx hb dL_council_213 (by decide) ?_
                        refine lv_bipush (v := 8) hx hb dL_council_214 (by decide) ?_
                        refine lv_iremJ hx hb dL_council_216 (by decide) ?_
                        obtain ⟨v196, σ197, hv, hf⟩ := bd2_e hf
                        refine g_yi (τ := σ197) ⟨⟨hx, hb, hml, hown, hB⟩, hK, hi, hA, hAd, hP, hS⟩ hZ hN subG.rf (c_L_areRooms hflag hi hv) (fun _ _ => rfl) cal_L_areRooms kM_L_187 ⟨Nat.le_trans (Nat.le_of_ble_eq_true rfl) hRf, Nat.le_trans (Nat.le_of_ble_eq_true rfl) hRl⟩ rfl hl.1 (Nat.le_of_ble_eq_true rfl) rfl dL_council_217 ⟨by omega, by omega⟩ (fun _ _ => rfl) (fun j hj h => absurd rfl (h j hj)) (fun H locs hP hS => ?_)
                        refine lv_if_eq (tgt := 263) hx hb dL_council_220 (by decide) (fun q198 => ?_) (fun q198 => ?_)
                        · rw [if_pos q198] at hf
                          refine lv_iconst (v := 0) hx hb dL_council_263 (by decide) ?_
                          obtain ⟨h1, h2⟩ := rt2 hf
                          refine W.widen (k := 4000) (n := 6 * 4000) (by omega) (by omega) ?_
                          rw [hQ]
                          exact g_cret hx hb hr hlocks hS (Or.inl rfl) h1 dL_council_264
                        · rw [if_neg q198] at hf
                          refine lv_aload_n hx hb dL_council_223 rfl (lv_at hl 6 rfl) ?_
                          refine lv_aload hx hb dL_council_224 (lv_at hl 8 rfl) ?_
                          refine lv_aload hx hb dL_council_226 (lv_at hl 9 rfl) ?_
                          refine lv_iload hx hb dL_council_228 (lv_at hl 2 rfl) ?_
                          refine lv_bipush (v := 7) hx hb dL_council_230 (by decide) ?_
                          refine lv_idiv hx hb dL_council_232 (by decide) ?_
                          refine lv_aload_n hx hb dL_council_233 rfl (lv_at hl 7 rfl) ?_
                          refine lv_bipush (v := 6) hx hb dL_council_234 (by decide) ?_
                          obtain ⟨hin, hf⟩ := gd_e hf
                          refine g_iald hx hb hK hP 51 13 (by decide) (EY_51 _) hin dL_council_236 ?_
                          refine lv_iconst (v := 1) hx hb dL_council_237 (by decide) ?_
                          refine lv_iadd hx hb dL_council_238 ?_
                          obtain ⟨hnz, hf⟩ := nz_e hf
                          refine lv_iremJ hx hb dL_council_239 hnz ?_
                          obtain ⟨v199, σ200, hv, hf⟩ := bd2_e hf
                          refine g_yi (τ := σ200) ⟨⟨hx, hb, hml, hown, hB⟩, hK, hi, hA, hAd, hP, hS⟩ hZ hN subG.rf (c_L_wasSo hflag hi hv) (fun _ _ => rfl) cal_L_wasSo kM_L_191 ⟨Nat.le_trans (Nat.le_of_ble_eq_true rfl) hRf, Nat.le_trans (Nat.le_of_ble_eq_true rfl) hRl⟩ rfl hl.1 (Nat.le_of_ble_eq_true rfl) rfl dL_council_240 ⟨by omega, by omega⟩ (fun _ _ => rfl) (fun j hj h => absurd rfl (h j hj)) (fun H locs hP hS => ?_)
                          refine lv_if_eq (tgt := 263) hx hb dL_council_243 (by decide) (fun q201 => ?_) (fun q201 => ?_)
                          · rw [if_pos q201] at hf
                            refine lv_iconst (v := 0) hx hb dL_council_263 (by decide) ?_
                            obtain ⟨h1, h2⟩ := rt2 hf
                            refine W.widen (k := 4000) (n := 6 * 4000) (by omega) (by omega) ?_
                            rw [hQ]
                            exact g_cret hx hb hr hlocks hS (Or.inl rfl) h1 dL_council_264
                          · rw [if_neg q201] at hf
                            refine lv_aload_n hx hb dL_council_246 rfl (lv_at hl 6 rfl) ?_
                            refine lv_iconst (v := 2) hx hb dL_council_247 (by decide) ?_
                            refine lv_aload_n hx hb dL_council_248 rfl (lv_at hl 7 rfl) ?_
                            refine lv_bipush (v := 6) hx hb dL_council_249 (by decide) ?_
                            obtain ⟨hin, hf⟩ := gd_e hf
                            refine g_iald hx hb hK hP 51 13 (by decide) (EY_51 _) hin dL_council_251 ?_
                            refine lv_iconst (v := 1) hx hb dL_council_252 (by decide) ?_
                            refine lv_iadd hx hb dL_council_253 ?_
                            refine lv_iconst (v := 0) hx hb dL_council_254 (by decide) ?_
                            obtain ⟨v202, σ203, hv, hf⟩ := bd2_e hf
                            refine g_ti (τ := σ203) ⟨⟨hx, hb, hml, hown, hB⟩, hK, hi, hA, hAd, hP, hS⟩ hZ hN subG.rf (c_L_after hflag hi hv) (fun _ _ => rfl) cal_L_after kM_L_120 ⟨Nat.le_trans (Nat.le_of_ble_eq_true rfl) hRf, Nat.le_trans (Nat.le_of_ble_eq_true rfl) hRl⟩ rfl hl.1 (Nat.le_of_ble_eq_true rfl) rfl dL_council_255 ⟨by omega, by omega⟩ (fun _ _ => rfl) (fun j hj h => absurd rfl (h j hj)) (fun H locs hP hS => ?_)
                            refine lv_bipush (v := (-7)) hx hb dL_council_258 (by decide) ?_
                            refine lv_icmp_eq (tgt := 265) hx hb dL_council_260 (by decide) (fun q204 => ?_) (fun q204 => ?_)
                            · rw [if_pos q204] at hf
                              refine lv_iinc (v := (x104 + 1)) (lv' := [(6, .int (x104 + 1)), (10, .int v188), (9, .int v165), (8, .int v115), (7, .int v113), (0, .ref b), (1, .int a0), (2, .ref (ad 48)), (3, .ref (ad 51)), (4, .ref (ad 52)), (5, .ref (ad 53))]) hx hb dL_council_265 hl (k := 10) rfl rfl (by decide) rfl (fun ls hl => ?_)
                              refine lv_goto (tgt := 37) hx hb dL_council_268 (by decide) ?_
                              exact ih (x104 + 1) σ203 ((((((ce108 + 16) + 0) + 0) + 0) + 11) + 1) ((((((sl109 + 6 * 16) + 6 * 0) + 6 * 0) + 6 * 0) + 6 * 11) + 6 * 1) (by omega) (by omega) _ _ ls hf hP hS (lv_sub hl [5, 6, 7, 8, 9, 10, 0] rfl)
                            · rw [if_neg q204] at hf
                              refine lv_iconst (v := 0) hx hb dL_council_263 (by decide) ?_
                              obtain ⟨h1, h2⟩ := rt2 hf
                              refine W.widen (k := 4000) (n := 6 * 4000) (by omega) (by omega) ?_
                              rw [hQ]
                              exact g_cret hx hb hr hlocks hS (Or.inl rfl) h1 dL_council_264
                  · rw [if_neg q187] at hf
                    refine lv_aload_n hx hb dL_council_153 rfl (lv_at hl 5 rfl) ?_
                    refine lv_iload hx hb dL_council_154 (lv_at hl 0 rfl) ?_
                    refine lv_iload hx hb dL_council_156 (lv_at hl 2 rfl) ?_
                    refine lv_iload hx hb dL_council_158 (lv_at hl 1 rfl) ?_
                    refine lv_aload_n hx hb dL_council_160 rfl (lv_at hl 6 rfl) ?_
                    obtain ⟨v205, σ206, hv, hf⟩ := bd2_e hf
                    refine g_yi (τ := σ206) ⟨⟨hx, hb, hml, hown, hB⟩, hK, hi, hA, hAd, hP, hS⟩ hZ hN subG.rf (c_L_makes hflag hi hv) (fun _ _ => rfl) cal_L_makes kM_L_176 ⟨Nat.le_trans (Nat.le_of_ble_eq_true rfl) hRf, Nat.le_trans (Nat.le_of_ble_eq_true rfl) hRl⟩ rfl hl.1 (Nat.le_of_ble_eq_true rfl) rfl dL_council_161 ⟨by omega, by omega⟩ (fun _ _ => rfl) (fun j hj h => absurd rfl (h j hj)) (fun H locs hP hS => ?_)
                    refine lv_goto (tgt := 184) hx hb dL_council_164 (by decide) ?_
                    exact hJ169 v205 σ206 (ce108 + 1) (sl109 + 6 * 1) (by omega) (by omega) _ _ ls hf hP hS (lv_sub hl [3, 4, 5, 6, 7, 8, 9, 2, 1] rfl)
                · rw [if_neg q164] at hf
                  refine lv_bipush (v := 6) hx hb dL_council_127 (by decide) ?_
                  refine lv_goto (tgt := 144) hx hb dL_council_129 (by decide) ?_
                  exact hJ119 6 σ105 _ _ ls hf hP hS (lv_sub hl [2, 3, 4, 5, 6, 7, 8, 1, 0] rfl)
              · rw [if_pos q163] at hf
                refine lv_iconst (v := 5) hx hb dL_council_116 (by decide) ?_
                refine lv_goto (tgt := 144) hx hb dL_council_117 (by decide) ?_
                exact hJ119 5 σ105 _ _ ls hf hP hS (lv_sub hl [2, 3, 4, 5, 6, 7, 8, 1, 0] rfl)
            · rw [if_neg q162] at hf
              refine lv_iconst (v := 3) hx hb dL_council_105 (by decide) ?_
              refine lv_goto (tgt := 144) hx hb dL_council_106 (by decide) ?_
              exact hJ119 3 σ105 _ _ ls hf hP hS (lv_sub hl [2, 3, 4, 5, 6, 7, 8, 1, 0] rfl)
          · rw [if_neg q161] at hf
            refine lv_iconst (v := 1) hx hb dL_council_94 (by decide) ?_
            refine lv_goto (tgt := 144) hx hb dL_council_95 (by decide) ?_
            exact hJ119 1 σ105 _ _ ls hf hP hS (lv_sub hl [2, 3, 4, 5, 6, 7, 8, 1, 0] rfl)
        · rw [if_neg q160] at hf
          refine lv_iconst (v := 0) hx hb dL_council_83 (by decide) ?_
          refine lv_goto (tgt := 144) hx hb dL_council_84 (by decide) ?_
          exact hJ119 0 σ105 _ _ ls hf hP hS (lv_sub hl [2, 3, 4, 5, 6, 7, 8, 1, 0] rfl)
  exact hL_L_council_37 57 0 σ102 (54 + 0) (3332 + 6 * 0) (by omega) (by omega) _ _ ls hf hP hS (lv_sub hl [5, 6, 4, 3, 2, 1, 0] rfl)
