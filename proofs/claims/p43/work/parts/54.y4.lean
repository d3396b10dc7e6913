def L_L_keeps_42 : Nat → (Mem → Option (Mem)) → Int32 → Int32 → Mem → Option (Mem)
  | 0, _, _, _, _ => none
  | n + 1, k, x6, x7, σ8 =>
    gd 7 13 <|
    if (σ8 51 (7 : Int32).toNatClampNeg) ≤ x7 then (
    k σ8)
    else (
    gd x6 60 <|
    bt (f_X5_roomOf σ8 x7) (fun _ => none) fun v12 =>
    gd x6 60 <| stp (mu σ8 52 x6.toNatClampNeg ((σ8 52 x6.toNatClampNeg) ||| (v12 <<< ((3 * x7) &&& 31)))) fun σ14 =>
    gd x6 60 <|
    bt (f_X5_coinsOf σ14 x7) (fun _ => none) fun v15 =>
    gd x6 60 <| stp (lwr σ14 53 x6.toNatClampNeg ((lrd σ14 53 x6.toNatClampNeg) ||| (v15.toInt64 <<< ((16 * x7).toInt64 &&& 63)))) fun σ17 =>
    L_L_keeps_42 n k x6 (x7 + 1) σ17)
def f_L_keeps (σ : Mem) : Option (Mem) :=
bd (f_X5_calls σ) fun v1 =>
if 60 ≤ v1 then (
some σ)
else (
bd (f_X5_turn σ) fun v3 =>
gd 7 13 <|
gd v1 60 <| stp (mu σ 52 v1.toNatClampNeg (((v3 + 1) <<< (12 &&& 31)) ||| ((σ 51 (7 : Int32).toNatClampNeg) <<< (15 &&& 31)))) fun σ4 =>
gd v1 60 <| stp (lwr σ4 53 v1.toNatClampNeg 0) fun σ5 =>
L_L_keeps_42 FU (fun (σ10 : Mem) =>
some σ10) v1 0 σ5)
set_option maxHeartbeats 16000000 in
set_option maxRecDepth 100000 in
theorem c_L_keeps {l : Launch} {D : va_G} {cI cJ : ClassId} {ad : Nat → Nat} {σ σr : Mem} (hflag : l.stackTraces = false) (hi : injG 54 ad) (hf : f_L_keeps σ = some σr) : MGY l yL_keeps (Cond.code yL_keeps cL_keeps 6 none) 9 153 0 D cI cJ 54 ad (EY ad cI cJ) [.ref (ad 48), .ref (ad 51), .ref (ad 52), .ref (ad 53)] σ (fun sz => Qgv D 54 ad (EY ad cI cJ) σr sz) := by
  refine MGY.ofW (by decide) ?_
  intro p e s m args below meth c hx hb hr hml hlocks hown hB hK hZ hN hP hA hAd hS
  have hown : s.vm.findClass RL = some m.cls := hown
  have hl := lv_entry ([.ref (ad 48), .ref (ad 51), .ref (ad 52), .ref (ad 53)] : List Value) (n := 6) (Nat.le_of_ble_eq_true rfl)
  rw [lg_entry_eq]
  generalize (lg_sl ([.ref (ad 48), .ref (ad 51), .ref (ad 52), .ref (ad 53)] : List Value) ++ List.replicate (6 - (lg_sl ([.ref (ad 48), .ref (ad 51), .ref (ad 52), .ref (ad 53)] : List Value)).length) Slot.unset).toArray = ls at hl ⊢
  have hl : lv_has ls 6 [(0, .ref (ad 48)), (1, .ref (ad 51)), (2, .ref (ad 52)), (3, .ref (ad 53))] := hl
  generalize hQ : MQ below (Qgv D 54 ad (EY ad cI cJ) σr s.heap.size) _ s 0 (6 * 0) (AG 54 ad s.heap.size) = Q
  have hQ := hQ.symm
  obtain ⟨R, hR, hRf, hRl, hRc, hRs⟩ : ∃ R : Room, R = ({ frames := 9, cells := 0, slots := 6 * 0, locals := 153 } : Room) ∧ 9 ≤ R.frames ∧ 153 ≤ R.locals ∧ 0 ≤ R.cells ∧ 6 * 0 ≤ R.slots := ⟨_, rfl, Nat.le_refl _, Nat.le_refl _, Nat.le_refl _, Nat.le_refl _⟩
  rw [← hR]
  unfold f_L_keeps at hf
  refine lv_aload_n hx hb dL_keeps_0 rfl (lv_at hl 0 rfl) ?_
  obtain ⟨v1, hv, hf⟩ := bd_e hf
  refine g_cVi (τ := σ) ⟨⟨hx, hb, hml, hown, hB⟩, hK, hi, hA, hAd, hP, hS⟩ sub_YX (c_X5_calls (injS (by decide) hi) hv) (fun _ _ => rfl) cal_X5_calls kM_L_66 ⟨Nat.le_trans (Nat.le_of_ble_eq_true rfl) hRf, Nat.le_trans (Nat.le_of_ble_eq_true rfl) hRl⟩ 48 (by decide) rfl rfl rfl rfl hl.1 (Nat.le_of_ble_eq_true rfl) rfl dL_keeps_1 ⟨by omega, by omega⟩ (fun _ _ => rfl) (fun _ _ _ => rfl) (fun H locs hP hS => ?_)
  refine lv_istore (lv' := [(4, .int v1), (0, .ref (ad 48)), (1, .ref (ad 51)), (2, .ref (ad 52)), (3, .ref (ad 53))]) hx hb dL_keeps_4 hl (by decide) rfl (fun ls hl => ?_)
  refine lv_iload hx hb dL_keeps_6 (lv_at hl 0 rfl) ?_
  refine lv_bipush (v := 60) hx hb dL_keeps_8 (by decide) ?_
  refine lv_icmp_ge (tgt := 95) hx hb dL_keeps_10 (by decide) (fun q2 => ?_) (fun q2 => ?_)
  · rw [if_pos q2] at hf
    have h2 := rt1 hf
    refine W.widen (k := 0) (n := 6 * 0) (by omega) (by omega) ?_
    rw [hQ]
    exact g_yvret hx hb hr hlocks hP hS h2 dL_keeps_95
  · rw [if_neg q2] at hf
    refine lv_aload_n hx hb dL_keeps_13 rfl (lv_at hl 3 rfl) ?_
    refine lv_iload hx hb dL_keeps_14 (lv_at hl 0 rfl) ?_
    refine lv_aload_n hx hb dL_keeps_16 rfl (lv_at hl 1 rfl) ?_
    obtain ⟨v3, hv, hf⟩ := bd_e hf
    refine g_cVi (τ := σ) ⟨⟨hx, hb, hml, hown, hB⟩, hK, hi, hA, hAd, hP, hS⟩ sub_YX (c_X5_turn (injS (by decide) hi) hv) (fun _ _ => rfl) cal_X5_turn kM_L_99 ⟨Nat.le_trans (Nat.le_of_ble_eq_true rfl) hRf, Nat.le_trans (Nat.le_of_ble_eq_true rfl) hRl⟩ 48 (by decide) rfl rfl rfl rfl hl.1 (Nat.le_of_ble_eq_true rfl) rfl dL_keeps_17 ⟨by omega, by omega⟩ (fun _ _ => rfl) (fun _ _ _ => rfl) (fun H locs hP hS => ?_)
    refine lv_iconst (v := 1) hx hb dL_keeps_20 (by decide) ?_
    refine lv_iadd hx hb dL_keeps_21 ?_
    refine lv_bipush (v := 12) hx hb dL_keeps_22 (by decide) ?_
    refine lv_ishl hx hb dL_keeps_24 ?_
    refine lv_aload_n hx hb dL_keeps_25 rfl (lv_at hl 2 rfl) ?_
    refine lv_bipush (v := 7) hx hb dL_keeps_26 (by decide) ?_
    obtain ⟨hin, hf⟩ := gd_e hf
    refine g_iald hx hb hK hP 51 13 (by decide) (EY_51 _) hin dL_keeps_28 ?_
    refine lv_bipush (v := 15) hx hb dL_keeps_29 (by decide) ?_
    refine lv_ishl hx hb dL_keeps_31 ?_
    refine lv_ior hx hb dL_keeps_32 ?_
    obtain ⟨hin, hf⟩ := gd_e hf
    obtain ⟨σ4, eσ4, hf⟩ := stp_e hf
    refine g_iast (σ1 := σ4) hx hb hK hP hi hAd hS 52 60 (by decide) EY_52 hin dL_keeps_33 eσ4 (fun H locs hP hS => ?_)
    refine lv_aload_n hx hb dL_keeps_34 rfl (lv_at hl 4 rfl) ?_
    refine lv_iload hx hb dL_keeps_35 (lv_at hl 0 rfl) ?_
    refine lv_lconst (v := 0) hx hb dL_keeps_37 (by decide) ?_
    obtain ⟨hin, hf⟩ := gd_e hf
    obtain ⟨σ5, eσ5, hf⟩ := stp_e hf
    refine g_ylast (σ1 := σ5) hx hb hK hP hi hAd hS 53 (by decide) EY_53 hin dL_keeps_38 eσ5 (fun H locs hP hS => ?_)
    refine lv_iconst (v := 0) hx hb dL_keeps_39 (by decide) ?_
    refine lv_istore (lv' := [(5, .int 0), (4, .int v1), (0, .ref (ad 48)), (1, .ref (ad 51)), (2, .ref (ad 52)), (3, .ref (ad 53))]) hx hb dL_keeps_40 hl (by decide) rfl (fun ls hl => ?_)
    obtain ⟨K9, eK9, hf⟩ := lp_e1 (b := fun K => L_L_keeps_42 FU K v1 0 σ5) hf
    replace hf : L_L_keeps_42 FU K9 v1 0 σ5 = some σr := hf
    have hKK9 : ∀ (σ10 : Mem) (H : Heap) (locs : List Loc) (ls : Array Slot), K9 σ10 = some σr → va_P D vwCl (wsG 54 ad (EY ad cI cJ) σ10) H → va_S (AG 54 ad s.heap.size) s.heap H locs → lv_has ls 6 [] → W p l e R s m args below meth c H locs 0 0 Q (F0 m 95 ls []) := by
      intro σ10 H locs ls hf hP hS hl
      rw [eK9] at hf
      have h2 := rt1 hf
      refine W.widen (k := 0) (n := 6 * 0) (by omega) (by omega) ?_
      rw [hQ]
      exact g_yvret hx hb hr hlocks hP hS h2 dL_keeps_95
    have hL_L_keeps_42 : ∀ (n : Nat) (x7 : Int32) (σ8 : Mem) (H : Heap) (locs : List Loc) (ls : Array Slot), L_L_keeps_42 n K9 v1 x7 σ8 = some σr → va_P D vwCl (wsG 54 ad (EY ad cI cJ) σ8) H → va_S (AG 54 ad s.heap.size) s.heap H locs → lv_has ls 6 [(0, .ref (ad 48)), (1, .ref (ad 51)), (2, .ref (ad 52)), (3, .ref (ad 53)), (4, .int v1), (5, .int x7)] → W p l e R s m args below meth c H locs 0 0 Q (F0 m 42 ls []) := by
      intro n
      induction n with
      | zero => intro x7 σ8 H locs ls hf; cases hf
      | succ n ih =>
        intro x7 σ8 H locs ls hf hP hS hl
        rw [L_L_keeps_42] at hf
        refine lv_iload hx hb dL_keeps_42 (lv_at hl 5 rfl) ?_
        refine lv_aload_n hx hb dL_keeps_44 rfl (lv_at hl 1 rfl) ?_
        refine lv_bipush (v := 7) hx hb dL_keeps_45 (by decide) ?_
        obtain ⟨hin, hf⟩ := gd_e hf
        refine g_iald hx hb hK hP 51 13 (by decide) (EY_51 _) hin dL_keeps_47 ?_
        refine lv_icmp_ge (tgt := 95) hx hb dL_keeps_48 (by decide) (fun q11 => ?_) (fun q11 => ?_)
        · rw [if_pos q11] at hf
          exact hKK9 σ8 _ _ ls hf hP hS (lv_sub hl [] rfl)
        · rw [if_neg q11] at hf
          refine lv_aload_n hx hb dL_keeps_51 rfl (lv_at hl 2 rfl) ?_
          refine lv_iload hx hb dL_keeps_52 (lv_at hl 4 rfl) ?_
          refine lv_dup2_11 hx hb dL_keeps_54 rfl rfl ?_
          obtain ⟨hin, hf⟩ := gd_e hf
          refine g_iald hx hb hK hP 52 60 (by decide) (EY_52 _) hin dL_keeps_55 ?_
          refine lv_aload_n hx hb dL_keeps_56 rfl (lv_at hl 0 rfl) ?_
          refine lv_iload hx hb dL_keeps_57 (lv_at hl 5 rfl) ?_
          rcases bt_e hf with ⟨v12, hv, hf⟩ | ⟨n13, v12, hn, hv, hf⟩
          · refine g_yVi (τ := σ8) ⟨⟨hx, hb, hml, hown, hB⟩, hK, hi, hA, hAd, hP, hS⟩ hZ sub_YX (c_X5_roomOf hflag (injS (by decide) hi) hv) (fun _ _ => rfl) cal_X5_roomOf kM_L_78 ⟨Nat.le_trans (Nat.le_of_ble_eq_true rfl) hRf, Nat.le_trans (Nat.le_of_ble_eq_true rfl) hRl⟩ 48 (by decide) rfl rfl rfl rfl hl.1 (Nat.le_of_ble_eq_true rfl) rfl dL_keeps_59 ⟨by omega, by omega⟩ (fun _ _ => rfl) (fun _ _ _ => rfl) (fun H locs hP hS => ?_)
            refine lv_iconst (v := 3) hx hb dL_keeps_62 (by decide) ?_
            refine lv_iload hx hb dL_keeps_63 (lv_at hl 5 rfl) ?_
            refine lv_imul hx hb dL_keeps_65 ?_
            refine lv_ishl hx hb dL_keeps_66 ?_
            refine lv_ior hx hb dL_keeps_67 ?_
            obtain ⟨hin, hf⟩ := gd_e hf
            obtain ⟨σ14, eσ14, hf⟩ := stp_e hf
            refine g_iast (σ1 := σ14) hx hb hK hP hi hAd hS 52 60 (by decide) EY_52 hin dL_keeps_68 eσ14 (fun H locs hP hS => ?_)
            refine lv_aload_n hx hb dL_keeps_69 rfl (lv_at hl 3 rfl) ?_
            refine lv_iload hx hb dL_keeps_70 (lv_at hl 4 rfl) ?_
            refine lv_dup2_11 hx hb dL_keeps_72 rfl rfl ?_
            obtain ⟨hin, hf⟩ := gd_e hf
            refine g_ylald hx hb hK hP 53 (by decide) EY_53 hin dL_keeps_73 ?_
            refine lv_aload_n hx hb dL_keeps_74 rfl (lv_at hl 0 rfl) ?_
            refine lv_iload hx hb dL_keeps_75 (lv_at hl 5 rfl) ?_
            rcases bt_e hf with ⟨v15, hv, hf⟩ | ⟨n16, v15, hn, hv, hf⟩
            · refine g_yVi (τ := σ14) ⟨⟨hx, hb, hml, hown, hB⟩, hK, hi, hA, hAd, hP, hS⟩ hZ sub_YX (c_X5_coinsOf hflag (injS (by decide) hi) hv) (fun _ _ => rfl) cal_X5_coinsOf kM_L_69 ⟨Nat.le_trans (Nat.le_of_ble_eq_true rfl) hRf, Nat.le_trans (Nat.le_of_ble_eq_true rfl) hRl⟩ 48 (by decide) rfl rfl rfl rfl hl.1 (Nat.le_of_ble_eq_true rfl) rfl dL_keeps_77 ⟨by omega, by omega⟩ (fun _ _ => rfl) (fun _ _ _ => rfl) (fun H locs hP hS => ?_)
              refine lv_i2l hx hb dL_keeps_80 rfl ?_
              refine lv_bipush (v := 16) hx hb dL_keeps_81 (by decide) ?_
              refine lv_iload hx hb dL_keeps_83 (lv_at hl 5 rfl) ?_
              refine lv_imul hx hb dL_keeps_85 ?_
              refine lv_lshl (v := (v15.toInt64 <<< ((16 * x7).toInt64 &&& 63))) hx hb dL_keeps_86 rfl ?_
              refine lv_lor hx hb dL_keeps_87 ?_
              obtain ⟨hin, hf⟩ := gd_e hf
              obtain ⟨σ17, eσ17, hf⟩ := stp_e hf
              refine g_ylast (σ1 := σ17) hx hb hK hP hi hAd hS 53 (by decide) EY_53 hin dL_keeps_88 eσ17 (fun H locs hP hS => ?_)
              refine lv_iinc (v := (x7 + 1)) (lv' := [(5, .int (x7 + 1)), (0, .ref (ad 48)), (1, .ref (ad 51)), (2, .ref (ad 52)), (3, .ref (ad 53)), (4, .int v1)]) hx hb dL_keeps_89 hl (k := 5) rfl rfl (by decide) rfl (fun ls hl => ?_)
              refine lv_goto (tgt := 42) hx hb dL_keeps_92 (by decide) ?_
              exact ih (x7 + 1) σ17 _ _ ls hf hP hS (lv_sub hl [1, 2, 3, 4, 5, 0] rfl)
            · cases hf
          · cases hf
    exact hL_L_keeps_42 FU 0 σ5 _ _ ls hf hP hS (lv_sub hl [2, 3, 4, 5, 1, 0] rfl)
def L_L_wasSo_31 : Nat → (Int32 → Mem → Option (Int32 × Mem)) → Int32 → Int32 → Int32 → Mem → Option (Int32 × Mem)
  | 0, _, _, _, _, _ => none
  | n + 1, k, x6, x7, x8, σ9 =>
    if 4 ≤ x8 then (
    k x7 σ9)
    else (
    gd x6 60 <|
    jn (fun (y19 : Int32) (σ18 : Mem) =>
    jn (fun (y22 : Int32) (σ21 : Mem) =>
    L_L_wasSo_31 n k x6 y22 (x8 + 1) σ21) fun (J23 : Int32 → Mem → Option (Int32 × Mem)) =>
    jn (fun (σ26 : Mem) =>
    J23 0 σ26) fun (J27 : Mem → Option (Int32 × Mem)) =>
    if x7 = 0 then (
    J27 σ18)
    else (
    bd2 (f_L_after σ18 0 x6 x8) fun v31 σ32 =>
    jn (fun (y34 : Int32) (y35 : Int32) (σ33 : Mem) =>
    if y34 = y35 then (
    bd2 (f_L_after σ33 1 x6 x8) fun v38 σ39 =>
    jn (fun (y41 : Int32) (y42 : Int32) (σ40 : Mem) =>
    if y41 = y42 then (
    J23 1 σ40)
    else (
    J27 σ40)) fun (J43 : Int32 → Int32 → Mem → Option (Int32 × Mem)) =>
    if y19 = 0 then (
    J43 v38 (-7) σ39)
    else (
    gd x6 60 <|
    J43 v38 ((((lrd σ39 53 x6.toNatClampNeg) >>> ((16 * x8).toInt64 &&& 63)) &&& 65535).toInt32) σ39))
    else (
    J27 σ33)) fun (J36 : Int32 → Int32 → Mem → Option (Int32 × Mem)) =>
    if y19 = 0 then (
    J36 v31 (-7) σ32)
    else (
    gd x6 60 <|
    J36 v31 (((σ32 52 x6.toNatClampNeg) >>> ((3 * x8) &&& 31)) &&& 7) σ32))) fun (J20 : Int32 → Mem → Option (Int32 × Mem)) =>
    if ((σ9 52 x6.toNatClampNeg) >>> (15 &&& 31)) ≤ x8 then (
    J20 0 σ9)
    else (
    J20 1 σ9))
def f_L_wasSo (σ : Mem) (a0 : Int32) : Option (Int32 × Mem) :=
bd2 (f_L_after σ 2 a0 0) fun v1 σ2 =>
gd a0 60 <|
jn (fun (y4 : Int32) (σ3 : Mem) =>
L_L_wasSo_31 5 (fun (x15 : Int32) (σ16 : Mem) =>
gz x15 <| some (x15, σ16)) a0 y4 0 σ3) fun (J5 : Int32 → Mem → Option (Int32 × Mem)) =>
if v1 = ((((σ2 52 a0.toNatClampNeg) >>> (12 &&& 31)) &&& 7) - 1) then (
J5 1 σ2)
else (
J5 0 σ2)
set_option maxHeartbeats 16000000 in
set_option maxRecDepth 100000 in
theorem c_L_wasSo {l : Launch} {D : va_G} {cI cJ : ClassId} {ad : Nat → Nat} {σ σr : Mem} {a0 : Int32} {r : Int32} (hflag : l.stackTraces = false) (hi : injG 54 ad) (hf : f_L_wasSo σ a0 = some (r, σr)) : MGY l yL_wasSo (Cond.code yL_wasSo cL_wasSo 7 (some .boolean)) 9 199 11 D cI cJ 54 ad (EY ad cI cJ) [.ref (ad 48), .ref (ad 52), .ref (ad 53), .int a0] σ (fun sz => Qgi D 54 ad (EY ad cI cJ) r σr sz) := by
  refine MGY.ofW (by decide) ?_
  intro p e s m args below meth c hx hb hr hml hlocks hown hB hK hZ hN hP hA hAd hS
  have hown : s.vm.findClass RL = some m.cls := hown
  have hl := lv_entry ([.ref (ad 48), .ref (ad 52), .ref (ad 53), .int a0] : List Value) (n := 7) (Nat.le_of_ble_eq_true rfl)
  rw [lg_entry_eq]
  generalize (lg_sl ([.ref (ad 48), .ref (ad 52), .ref (ad 53), .int a0] : List Value) ++ List.replicate (7 - (lg_sl ([.ref (ad 48), .ref (ad 52), .ref (ad 53), .int a0] : List Value)).length) Slot.unset).toArray = ls at hl ⊢
  have hl : lv_has ls 7 [(0, .ref (ad 48)), (1, .ref (ad 52)), (2, .ref (ad 53)), (3, .int a0)] := hl
  generalize hQ : MQ below (Qgi D 54 ad (EY ad cI cJ) r σr s.heap.size) _ s 11 (6 * 11) (AG 54 ad s.heap.size) = Q
  have hQ := hQ.symm
  obtain ⟨R, hR, hRf, hRl, hRc, hRs⟩ : ∃ R : Room, R = ({ frames := 9, cells := 11, slots := 6 * 11, locals := 199 } : Room) ∧ 9 ≤ R.frames ∧ 199 ≤ R.locals ∧ 11 ≤ R.cells ∧ 6 * 11 ≤ R.slots := ⟨_, rfl, Nat.le_refl _, Nat.le_refl _, Nat.le_refl _, Nat.le_refl _⟩
  rw [← hR]
  unfold f_L_wasSo at hf
  refine lv_aload_n hx hb dL_wasSo_0 rfl (lv_at hl 0 rfl) ?_
  refine lv_iconst (v := 2) hx hb dL_wasSo_1 (by decide) ?_
  refine lv_iload_n hx hb dL_wasSo_2 rfl (lv_at hl 3 rfl) ?_
  refine lv_iconst (v := 0) hx hb dL_wasSo_3 (by decide) ?_
  obtain ⟨v1, σ2, hv, hf⟩ := bd2_e hf
  refine g_ti (τ := σ2) ⟨⟨hx, hb, hml, hown, hB⟩, hK, hi, hA, hAd, hP, hS⟩ hZ hN subG.rf (c_L_after hflag hi hv) (fun _ _ => rfl) cal_L_after kM_L_120 ⟨Nat.le_trans (Nat.le_of_ble_eq_true rfl) hRf, Nat.le_trans (Nat.le_of_ble_eq_true rfl) hRl⟩ rfl hl.1 (Nat.le_of_ble_eq_true rfl) rfl dL_wasSo_4 ⟨by omega, by omega⟩ (fun _ _ => rfl) (fun j hj h => absurd rfl (h j hj)) (fun H locs hP hS => ?_)
  refine lv_aload_n hx hb dL_wasSo_7 rfl (lv_at hl 1 rfl) ?_
  refine lv_iload_n hx hb dL_wasSo_8 rfl (lv_at hl 3 rfl) ?_
  obtain ⟨hin, hf⟩ := gd_e hf
  refine g_iald hx hb hK hP 52 60 (by decide) (EY_52 _) hin dL_wasSo_9 ?_
  refine lv_bipush (v := 12) hx hb dL_wasSo_10 (by decide) ?_
  refine lv_ishr hx hb dL_wasSo_12 ?_
  refine lv_bipush (v := 7) hx hb dL_wasSo_13 (by decide) ?_
  refine lv_iand hx hb dL_wasSo_15 ?_
  refine lv_iconst (v := 1) hx hb dL_wasSo_16 (by decide) ?_
  refine lv_isub hx hb dL_wasSo_17 ?_
  obtain ⟨J5, eJ5, hf⟩ := jn_e2 hf
  have hJ5 : ∀ (y4 : Int32) (σ3 : Mem) (H : Heap) (locs : List Loc) (ls : Array Slot), J5 y4 σ3 = some (r, σr) → va_P D vwCl (wsG 54 ad (EY ad cI cJ) σ3) H → va_S (AG 54 ad s.heap.size) s.heap H locs → lv_has ls 7 [(0, .ref (ad 48)), (1, .ref (ad 52)), (2, .ref (ad 53)), (3, .int a0)] → W p l e R s m args below meth c H locs (0 + 1) (0 + 6 * 1) Q (F0 m 26 ls [.int y4]) := by
    intro y4 σ3 H locs ls hf hP hS hl
    rw [eJ5] at hf
    refine lv_istore (lv' := [(4, .int y4), (0, .ref (ad 48)), (1, .ref (ad 52)), (2, .ref (ad 53)), (3, .int a0)]) hx hb dL_wasSo_26 hl (by decide) rfl (fun ls hl => ?_)
    refine lv_iconst (v := 0) hx hb dL_wasSo_28 (by decide) ?_
    refine lv_istore (lv' := [(5, .int 0), (4, .int y4), (0, .ref (ad 48)), (1, .ref (ad 52)), (2, .ref (ad 53)), (3, .int a0)]) hx hb dL_wasSo_29 hl (by decide) rfl (fun ls hl => ?_)
    obtain ⟨K14, eK14, hf⟩ := lp_e2 (b := fun K => L_L_wasSo_31 5 K a0 y4 0 σ3) hf
    replace hf : L_L_wasSo_31 5 K14 a0 y4 0 σ3 = some (r, σr) := hf
    have hKK14 : ∀ (x15 : Int32) (σ16 : Mem) (ce10 sl11 : Nat) (hce10 : ce10 ≤ (0 + 1) + 2 * 5) (hsl11 : sl11 ≤ (0 + 6 * 1) + 6 * (2 * 5)) (H : Heap) (locs : List Loc) (ls : Array Slot), K14 x15 σ16 = some (r, σr) → va_P D vwCl (wsG 54 ad (EY ad cI cJ) σ16) H → va_S (AG 54 ad s.heap.size) s.heap H locs → lv_has ls 7 [(4, .int x15)] → W p l e R s m args below meth c H locs ce10 sl11 Q (F0 m 140 ls []) := by
      intro x15 σ16 ce10 sl11 hce10 hsl11 H locs ls hf hP hS hl
      rw [eK14] at hf
      refine lv_iload hx hb dL_wasSo_140 (lv_at hl 0 rfl) ?_
      obtain ⟨hz, hf⟩ := gz_e hf
      obtain ⟨h1, h2⟩ := rt2 hf
      refine W.widen (k := 11) (n := 6 * 11) (by omega) (by omega) ?_
      rw [hQ]
      exact g_yzret hx hb hr hlocks hP hS hz h1 h2 dL_wasSo_142
    have hL_L_wasSo_31 : ∀ (n : Nat) (x7 : Int32) (x8 : Int32) (σ9 : Mem) (ce12 sl13 : Nat) (hce12 : ce12 + 2 * n ≤ (0 + 1) + 2 * 5) (hsl13 : sl13 + 6 * (2 * n) ≤ (0 + 6 * 1) + 6 * (2 * 5)) (H : Heap) (locs : List Loc) (ls : Array Slot), L_L_wasSo_31 n K14 a0 x7 x8 σ9 = some (r, σr) → va_P D vwCl (wsG 54 ad (EY ad cI cJ) σ9) H → va_S (AG 54 ad s.heap.size) s.heap H locs → lv_has ls 7 [(0, .ref (ad 48)), (1, .ref (ad 52)), (2, .ref (ad 53)), (3, .int a0), (4, .int x7), (5, .int x8)] → W p l e R s m args below meth c H locs ce12 sl13 Q (F0 m 31 ls []) := by
      intro n
      induction n with
      | zero => intro x7 x8 σ9 ce12 sl13 hce12 hsl13 H locs ls hf; cases hf
      | succ n ih =>
        intro x7 x8 σ9 ce12 sl13 hce12 hsl13 H locs ls hf hP hS hl
        rw [L_L_wasSo_31] at hf
        refine lv_iload hx hb dL_wasSo_31 (lv_at hl 5 rfl) ?_
        refine lv_iconst (v := 4) hx hb dL_wasSo_33 (by decide) ?_
        refine lv_icmp_ge (tgt := 140) hx hb dL_wasSo_34 (by decide) (fun q17 => ?_) (fun q17 => ?_)
        · rw [if_pos q17] at hf
          exact hKK14 x7 σ9 ce12 sl13 (by omega) (by omega) _ _ ls hf hP hS (lv_sub hl [4] rfl)
        · rw [if_neg q17] at hf
          refine lv_iload hx hb dL_wasSo_37 (lv_at hl 5 rfl) ?_
          refine lv_aload_n hx hb dL_wasSo_39 rfl (lv_at hl 1 rfl) ?_
          refine lv_iload_n hx hb dL_wasSo_40 rfl (lv_at hl 3 rfl) ?_
          obtain ⟨hin, hf⟩ := gd_e hf
          refine g_iald hx hb hK hP 52 60 (by decide) (EY_52 _) hin dL_wasSo_41 ?_
          refine lv_bipush (v := 15) hx hb dL_wasSo_42 (by decide) ?_
          refine lv_ishr hx hb dL_wasSo_44 ?_
          obtain ⟨J20, eJ20, hf⟩ := jn_e2 hf
          have hJ20 : ∀ (y19 : Int32) (σ18 : Mem) (H : Heap) (locs : List Loc) (ls : Array Slot), J20 y19 σ18 = some (r, σr) → va_P D vwCl (wsG 54 ad (EY ad cI cJ) σ18) H → va_S (AG 54 ad s.heap.size) s.heap H locs → lv_has ls 7 [(0, .ref (ad 48)), (1, .ref (ad 52)), (2, .ref (ad 53)), (3, .int a0), (4, .int x7), (5, .int x8)] → W p l e R s m args below meth c H locs ce12 sl13 Q (F0 m 53 ls [.int y19]) := by
            intro y19 σ18 H locs ls hf hP hS hl
            rw [eJ20] at hf
            refine lv_istore (lv' := [(6, .int y19), (0, .ref (ad 48)), (1, .ref (ad 52)), (2, .ref (ad 53)), (3, .int a0), (4, .int x7), (5, .int x8)]) hx hb dL_wasSo_53 hl (by decide) rfl (fun ls hl => ?_)
            refine lv_iload hx hb dL_wasSo_55 (lv_at hl 5 rfl) ?_
            obtain ⟨J23, eJ23, hf⟩ := jn_e2 hf
            have hJ23 : ∀ (y22 : Int32) (σ21 : Mem) (ce24 sl25 : Nat) (hce24 : ce24 ≤ ce12 + 2) (hsl25 : sl25 ≤ sl13 + 6 * 2) (H : Heap) (locs : List Loc) (ls : Array Slot), J23 y22 σ21 = some (r, σr) → va_P D vwCl (wsG 54 ad (EY ad cI cJ) σ21) H → va_S (AG 54 ad s.heap.size) s.heap H locs → lv_has ls 7 [(0, .ref (ad 48)), (1, .ref (ad 52)), (2, .ref (ad 53)), (3, .int a0), (5, .int x8)] → W p l e R s m args below meth c H locs ce24 sl25 Q (F0 m 132 ls [.int y22]) := by
              intro y22 σ21 ce24 sl25 hce24 hsl25 H locs ls hf hP hS hl
              rw [eJ23] at hf
              refine lv_istore (lv' := [(4, .int y22), (0, .ref (ad 48)), (1, .ref (ad 52)), (2, .ref (ad 53)), (3, .int a0), (5, .int x8)]) hx hb dL_wasSo_132 hl (by decide) rfl (fun ls hl => ?_)
              refine lv_iinc (v := (x8 + 1)) (lv' := [(5, .int (x8 + 1)), (4, .int y22), (0, .ref (ad 48)), (1, .ref (ad 52)), (2, .ref (ad 53)), (3, .int a0)]) hx hb dL_wasSo_134 hl (k := 5) rfl rfl (by decide) rfl (fun ls hl => ?_)
              refine lv_goto (tgt := 31) hx hb dL_wasSo_137 (by decide) ?_
              exact ih y22 (x8 + 1) σ21 ce24 sl25 (by omega) (by omega) _ _ ls hf hP hS (lv_sub hl [2, 3, 4, 5, 1, 0] rfl)
            obtain ⟨J27, eJ27, hf⟩ := jn_e1 hf
            have hJ27 : ∀ (σ26 : Mem) (ce28 sl29 : Nat) (hce28 : ce28 ≤ ce12 + 2) (hsl29 : sl29 ≤ sl13 + 6 * 2) (H : Heap) (locs : List Loc) (ls : Array Slot), J27 σ26 = some (r, σr) → va_P D vwCl (wsG 54 ad (EY ad cI cJ) σ26) H → va_S (AG 54 ad s.heap.size) s.heap H locs → lv_has ls 7 [(0, .ref (ad 48)), (1, .ref (ad 52)), (2, .ref (ad 53)), (3, .int a0), (5, .int x8)] → W p l e R s m args below meth c H locs ce28 sl29 Q (F0 m 131 ls []) := by
              intro σ26 ce28 sl29 hce28 hsl29 H locs ls hf hP hS hl
              rw [eJ27] at hf
              refine lv_iconst (v := 0) hx hb dL_wasSo_131 (by decide) ?_
              exact hJ23 0 σ26 ce28 sl29 (by omega) (by omega) _ _ ls hf hP hS (lv_sub hl [0, 1, 2, 3, 4] rfl)
            refine lv_if_eq (tgt := 131) hx hb dL_wasSo_57 (by decide) (fun q30 => ?_) (fun q30 => ?_)
            · rw [if_pos q30] at hf
              exact hJ27 σ18 ce12 sl13 (by omega) (by omega) _ _ ls hf hP hS (lv_sub hl [1, 2, 3, 4, 6] rfl)
            · rw [if_neg q30] at hf
              refine lv_aload_n hx hb dL_wasSo_60 rfl (lv_at hl 1 rfl) ?_
              refine lv_iconst (v := 0) hx hb dL_wasSo_61 (by decide) ?_
              refine lv_iload_n hx hb dL_wasSo_62 rfl (lv_at hl 4 rfl) ?_
              refine lv_iload hx hb dL_wasSo_63 (lv_at hl 6 rfl) ?_
              obtain ⟨v31, σ32, hv, hf⟩ := bd2_e hf
              refine g_ti (τ := σ32) ⟨⟨hx, hb, hml, hown, hB⟩, hK, hi, hA, hAd, hP, hS⟩ hZ hN subG.rf (c_L_after hflag hi hv) (fun _ _ => rfl) cal_L_after kM_L_120 ⟨Nat.le_trans (Nat.le_of_ble_eq_true rfl) hRf, Nat.le_trans (Nat.le_of_ble_eq_true rfl) hRl⟩ rfl hl.1 (Nat.le_of_ble_eq_true rfl) rfl dL_wasSo_65 ⟨by omega, by omega⟩ (fun _ _ => rfl) (fun j hj h => absurd rfl (h j hj)) (fun H locs hP hS => ?_)
              refine lv_iload hx hb dL_wasSo_68 (lv_at hl 0 rfl) ?_
              obtain ⟨J36, eJ36, hf⟩ := jn_e3 hf
              have hJ36 : ∀ (y34 : Int32) (y35 : Int32) (σ33 : Mem) (H : Heap) (locs : List Loc) (ls : Array Slot), J36 y34 y35 σ33 = some (r, σr) → va_P D vwCl (wsG 54 ad (EY ad cI cJ) σ33) H → va_S (AG 54 ad s.heap.size) s.heap H locs → lv_has ls 7 [(0, .ref (ad 48)), (1, .ref (ad 52)), (2, .ref (ad 53)), (3, .int a0), (5, .int x8), (6, .int y19)] → W p l e R s m args below meth c H locs (ce12 + 1) (sl13 + 6 * 1) Q (F0 m 89 ls [.int y35, .int y34]) := by
                intro y34 y35 σ33 H locs ls hf hP hS hl
                rw [eJ36] at hf
                refine lv_icmp_ne (tgt := 131) hx hb dL_wasSo_89 (by decide) (fun q37 => ?_) (fun q37 => ?_)
                · rw [if_neg q37] at hf
                  exact hJ27 σ33 (ce12 + 1) (sl13 + 6 * 1) (by omega) (by omega) _ _ ls hf hP hS (lv_sub hl [0, 1, 2, 3, 4] rfl)
                · rw [if_pos q37] at hf
                  refine lv_aload_n hx hb dL_wasSo_92 rfl (lv_at hl 0 rfl) ?_
                  refine lv_iconst (v := 1) hx hb dL_wasSo_93 (by decide) ?_
                  refine lv_iload_n hx hb dL_wasSo_94 rfl (lv_at hl 3 rfl) ?_
                  refine lv_iload hx hb dL_wasSo_95 (lv_at hl 4 rfl) ?_
                  obtain ⟨v38, σ39, hv, hf⟩ := bd2_e hf
                  refine g_ti (τ := σ39) ⟨⟨hx, hb, hml, hown, hB⟩, hK, hi, hA, hAd, hP, hS⟩ hZ hN subG.rf (c_L_after hflag hi hv) (fun _ _ => rfl) cal_L_after kM_L_120 ⟨Nat.le_trans (Nat.le_of_ble_eq_true rfl) hRf, Nat.le_trans (Nat.le_of_ble_eq_true rfl) hRl⟩ rfl hl.1 (Nat.le_of_ble_eq_true rfl) rfl dL_wasSo_97 ⟨by omega, by omega⟩ (fun _ _ => rfl) (fun j hj h => absurd rfl (h j hj)) (fun H locs hP hS => ?_)
                  refine lv_iload hx hb dL_wasSo_100 (lv_at hl 5 rfl) ?_
                  obtain ⟨J43, eJ43, hf⟩ := jn_e3 hf
                  have hJ43 : ∀ (y41 : Int32) (y42 : Int32) (σ40 : Mem) (H : Heap) (locs : List Loc) (ls : Array Slot), J43 y41 y42 σ40 = some (r, σr) → va_P D vwCl (wsG 54 ad (EY ad cI cJ) σ40) H → va_S (AG 54 ad s.heap.size) s.heap H locs → lv_has ls 7 [(0, .ref (ad 48)), (1, .ref (ad 52)), (2, .ref (ad 53)), (3, .int a0), (5, .int x8)] → W p l e R s m args below meth c H locs ((ce12 + 1) + 1) ((sl13 + 6 * 1) + 6 * 1) Q (F0 m 124 ls [.int y42, .int y41]) := by
                    intro y41 y42 σ40 H locs ls hf hP hS hl
                    rw [eJ43] at hf
                    refine lv_icmp_ne (tgt := 131) hx hb dL_wasSo_124 (by decide) (fun q44 => ?_) (fun q44 => ?_)
                    · rw [if_neg q44] at hf
                      exact hJ27 σ40 ((ce12 + 1) + 1) ((sl13 + 6 * 1) + 6 * 1) (by omega) (by omega) _ _ ls hf hP hS (lv_sub hl [0, 1, 2, 3, 4] rfl)
                    · rw [if_pos q44] at hf
                      refine lv_iconst (v := 1) hx hb dL_wasSo_127 (by decide) ?_
                      refine lv_goto (tgt := 132) hx hb dL_wasSo_128 (by decide) ?_
                      exact hJ23 1 σ40 ((ce12 + 1) + 1) ((sl13 + 6 * 1) + 6 * 1) (by omega) (by omega) _ _ ls hf hP hS (lv_sub hl [0, 1, 2, 3, 4] rfl)
                  refine lv_if_eq (tgt := 122) hx hb dL_wasSo_102 (by decide) (fun q45 => ?_) (fun q45 => ?_)
                  · rw [if_pos q45] at hf
                    refine lv_bipush (v := (-7)) hx hb dL_wasSo_122 (by decide) ?_
                    exact hJ43 v38 (-7) σ39 _ _ ls hf hP hS (lv_sub hl [0, 1, 2, 3, 4] rfl)
                  · rw [if_neg q45] at hf
                    refine lv_aload_n hx hb dL_wasSo_105 rfl (lv_at hl 2 rfl) ?_
                    refine lv_iload_n hx hb dL_wasSo_106 rfl (lv_at hl 3 rfl) ?_
                    obtain ⟨hin, hf⟩ := gd_e hf
                    refine g_ylald hx hb hK hP 53 (by decide) EY_53 hin dL_wasSo_107 ?_
                    refine lv_bipush (v := 16) hx hb dL_wasSo_108 (by decide) ?_
                    refine lv_iload hx hb dL_wasSo_110 (lv_at hl 4 rfl) ?_
                    refine lv_imul hx hb dL_wasSo_112 ?_
                    refine lv_lshr (v := ((lrd σ39 53 a0.toNatClampNeg) >>> ((16 * x8).toInt64 &&& 63))) hx hb dL_wasSo_113 rfl ?_
                    refine lv_ldc2 (v := 65535) hx hb hown (hB _ kC2_L_126) dL_wasSo_114 ?_
                    refine lv_land hx hb dL_wasSo_117 ?_
                    refine lv_l2i hx hb dL_wasSo_118 rfl ?_
                    refine lv_goto (tgt := 124) hx hb dL_wasSo_119 (by decide) ?_
                    exact hJ43 v38 ((((lrd σ39 53 a0.toNatClampNeg) >>> ((16 * x8).toInt64 &&& 63)) &&& 65535).toInt32) σ39 _ _ ls hf hP hS (lv_sub hl [0, 1, 2, 3, 4] rfl)
              refine lv_if_eq (tgt := 87) hx hb dL_wasSo_70 (by decide) (fun q46 => ?_) (fun q46 => ?_)
              · rw [if_pos q46] at hf
                refine lv_bipush (v := (-7)) hx hb dL_wasSo_87 (by decide) ?_
                exact hJ36 v31 (-7) σ32 _ _ ls hf hP hS (lv_sub hl [1, 2, 3, 4, 6, 0] rfl)
              · rw [if_neg q46] at hf
                refine lv_aload_n hx hb dL_wasSo_73 rfl (lv_at hl 2 rfl) ?_
                refine lv_iload_n hx hb dL_wasSo_74 rfl (lv_at hl 4 rfl) ?_
                obtain ⟨hin, hf⟩ := gd_e hf
                refine g_iald hx hb hK hP 52 60 (by decide) (EY_52 _) hin dL_wasSo_75 ?_
                refine lv_iconst (v := 3) hx hb dL_wasSo_76 (by decide) ?_
                refine lv_iload hx hb dL_wasSo_77 (lv_at hl 6 rfl) ?_
                refine lv_imul hx hb dL_wasSo_79 ?_
                refine lv_ishr hx hb dL_wasSo_80 ?_
                refine lv_bipush (v := 7) hx hb dL_wasSo_81 (by decide) ?_
                refine lv_iand hx hb dL_wasSo_83 ?_
                refine lv_goto (tgt := 89) hx hb dL_wasSo_84 (by decide) ?_
                exact hJ36 v31 (((σ32 52 a0.toNatClampNeg) >>> ((3 * x8) &&& 31)) &&& 7) σ32 _ _ ls hf hP hS (lv_sub hl [1, 2, 3, 4, 6, 0] rfl)
          refine lv_icmp_ge (tgt := 52) hx hb dL_wasSo_45 (by decide) (fun q47 => ?_) (fun q47 => ?_)
          · rw [if_pos q47] at hf
            refine lv_iconst (v := 0) hx hb dL_wasSo_52 (by decide) ?_
            exact hJ20 0 σ9 _ _ ls hf hP hS (lv_sub hl [0, 1, 2, 3, 4, 5] rfl)
          · rw [if_neg q47] at hf
            refine lv_iconst (v := 1) hx hb dL_wasSo_48 (by decide) ?_
            refine lv_goto (tgt := 53) hx hb dL_wasSo_49 (by decide) ?_
            exact hJ20 1 σ9 _ _ ls hf hP hS (lv_sub hl [0, 1, 2, 3, 4, 5] rfl)
    exact hL_L_wasSo_31 5 y4 0 σ3 (0 + 1) (0 + 6 * 1) (by omega) (by omega) _ _ ls hf hP hS (lv_sub hl [2, 3, 4, 5, 1, 0] rfl)
  refine lv_icmp_ne (tgt := 25) hx hb dL_wasSo_18 (by decide) (fun q48 => ?_) (fun q48 => ?_)
  · rw [if_neg q48] at hf
    refine lv_iconst (v := 0) hx hb dL_wasSo_25 (by decide) ?_
    exact hJ5 0 σ2 _ _ ls hf hP hS (lv_sub hl [0, 1, 2, 3] rfl)
  · rw [if_pos q48] at hf
    refine lv_iconst (v := 1) hx hb dL_wasSo_21 (by decide) ?_
    refine lv_goto (tgt := 26) hx hb dL_wasSo_22 (by decide) ?_
    exact hJ5 1 σ2 _ _ ls hf hP hS (lv_sub hl [0, 1, 2, 3] rfl)
def L_L_areHearers_9 : Nat → (Int32 → Int32 → Mem → Option (Int32 × Mem)) → Int32 → Int32 → Int32 → Int32 → Int32 → Int32 → Int32 → Mem → Option (Int32 × Mem)
  | 0, _, _, _, _, _, _, _, _, _ => none
  | n + 1, k, x1, x2, x3, x4, x5, x6, x7, σ8 =>
    gd 7 13 <|
    if (σ8 51 (7 : Int32).toNatClampNeg) ≤ x7 then (
    k x5 x6 σ8)
    else (
    bt (f_X5_roomOf σ8 x1) (fun _ => none) fun v20 =>
    bt (f_X5_roomOf σ8 x7) (fun _ => none) fun v22 =>
    bt3 (f_X5_distance σ8 v20 v22) (fun _ _ => none) fun v24 σ25 =>
    stp (mgY σ25 σ8) fun σ27 =>
    jn (fun (y29 : Int32) (σ28 : Mem) =>
    jn (fun (y32 : Int32) (y33 : Int32) (σ31 : Mem) =>
    jn (fun (y36 : Int32) (σ35 : Mem) =>
    L_L_areHearers_9 n k x1 x2 x3 x4 (y32 + y33) y36 (x7 + 1) σ35) fun (J37 : Int32 → Mem → Option (Int32 × Mem)) =>
    jn (fun (σ40 : Mem) =>
    J37 0 σ40) fun (J41 : Mem → Option (Int32 × Mem)) =>
    if x6 = 0 then (
    J41 σ31)
    else (
    jn (fun (σ45 : Mem) =>
    bd2 (f_L_heard σ45 x7 6) fun v49 σ50 =>
    if v49 = (-7) then (
    J37 1 σ50)
    else (
    J41 σ50)) fun (J46 : Mem → Option (Int32 × Mem)) =>
    if y29 = 0 then (
    J46 σ31)
    else (
    bd2 (f_L_heard σ31 x7 0) fun v53 σ54 =>
    if v53 = ((100 * x1) + x2) then (
    J46 σ54)
    else (
    J41 σ54)))) fun (J34 : Int32 → Int32 → Mem → Option (Int32 × Mem)) =>
    if y29 = 0 then (
    J34 x5 0 σ28)
    else (
    J34 x5 1 σ28)) fun (J30 : Int32 → Mem → Option (Int32 × Mem)) =>
    jn (fun (σ57 : Mem) =>
    J30 0 σ57) fun (J58 : Mem → Option (Int32 × Mem)) =>
    if x7 = x1 then (
    J58 σ27)
    else (
    jn (fun (σ60 : Mem) =>
    J30 1 σ60) fun (J61 : Mem → Option (Int32 × Mem)) =>
    if v24 = 0 then (
    J61 σ27)
    else (
    if x4 = 0 then (
    J58 σ27)
    else (
    if v24 = 1 then (
    J61 σ27)
    else (
    J58 σ27)))))
def f_L_areHearers (σ : Mem) (a0 a1 a2 a3 : Int32) : Option (Int32 × Mem) :=
L_L_areHearers_9 5 (fun (x14 : Int32) (x15 : Int32) (σ16 : Mem) =>
if x15 = 0 then (
some (0, σ16))
else (
if x14 = a2 then (
some (1, σ16))
else (
some (0, σ16)))) a0 a1 a2 a3 0 1 0 σ
set_option maxHeartbeats 16000000 in
set_option maxRecDepth 100000 in
theorem c_L_areHearers {l : Launch} {D : va_G} {cI cJ : ClassId} {ad : Nat → Nat} {σ σr : Mem} {a0 a1 a2 a3 : Int32} {r : Int32} (hflag : l.stackTraces = false) (hi : injG 54 ad) (hf : f_L_areHearers σ a0 a1 a2 a3 = some (r, σr)) : MGY l yL_areHearers (Cond.code yL_areHearers cL_areHearers 11 (some .boolean)) 10 177 10 D cI cJ 54 ad (EY ad cI cJ) [.ref (ad 48), .ref (ad 51), .int a0, .int a1, .int a2, .int a3] σ (fun sz => Qgi D 54 ad (EY ad cI cJ) r σr sz) := by
  refine MGY.ofW (by decide) ?_
  intro p e s m args below meth c hx hb hr hml hlocks hown hB hK hZ hN hP hA hAd hS
  have hown : s.vm.findClass RL = some m.cls := hown
  have hl := lv_entry ([.ref (ad 48), .ref (ad 51), .int a0, .int a1, .int a2, .int a3] : List Value) (n := 11) (Nat.le_of_ble_eq_true rfl)
  rw [lg_entry_eq]
  generalize (lg_sl ([.ref (ad 48), .ref (ad 51), .int a0, .int a1, .int a2, .int a3] : List Value) ++ List.replicate (11 - (lg_sl ([.ref (ad 48), .ref (ad 51), .int a0, .int a1, .int a2, .int a3] : List Value)).length) Slot.unset).toArray = ls at hl ⊢
  have hl : lv_has ls 11 [(0, .ref (ad 48)), (1, .ref (ad 51)), (2, .int a0), (3, .int a1), (4, .int a2), (5, .int a3)] := hl
  generalize hQ : MQ below (Qgi D 54 ad (EY ad cI cJ) r σr s.heap.size) _ s 10 (6 * 10) (AG 54 ad s.heap.size) = Q
  have hQ := hQ.symm
  obtain ⟨R, hR, hRf, hRl, hRc, hRs⟩ : ∃ R : Room, R = ({ frames := 10, cells := 10, slots := 6 * 10, locals := 177 } : Room) ∧ 10 ≤ R.frames ∧ 177 ≤ R.locals ∧ 10 ≤ R.cells ∧ 6 * 10 ≤ R.slots := ⟨_, rfl, Nat.le_refl _, Nat.le_refl _, Nat.le_refl _, Nat.le_refl _⟩
  rw [← hR]
  unfold f_L_areHearers at hf
  refine lv_iconst (v := 0) hx hb dL_areHearers_0 (by decide) ?_
  refine lv_istore (lv' := [(6, .int 0), (0, .ref (ad 48)), (1, .ref (ad 51)), (2, .int a0), (3, .int a1), (4, .int a2), (5, .int a3)]) hx hb dL_areHearers_1 hl (by decide) rfl (fun ls hl => ?_)
  refine lv_iconst (v := 1) hx hb dL_areHearers_3 (by decide) ?_
  refine lv_istore (lv' := [(7, .int 1), (6, .int 0), (0, .ref (ad 48)), (1, .ref (ad 51)), (2, .int a0), (3, .int a1), (4, .int a2), (5, .int a3)]) hx hb dL_areHearers_4 hl (by decide) rfl (fun ls hl => ?_)
  refine lv_iconst (v := 0) hx hb dL_areHearers_6 (by decide) ?_
  refine lv_istore (lv' := [(8, .int 0), (7, .int 1), (6, .int 0), (0, .ref (ad 48)), (1, .ref (ad 51)), (2, .int a0), (3, .int a1), (4, .int a2), (5, .int a3)]) hx hb dL_areHearers_7 hl (by decide) rfl (fun ls hl => ?_)
  obtain ⟨K13, eK13, hf⟩ := lp_e3 (b := fun K => L_L_areHearers_9 5 K a0 a1 a2 a3 0 1 0 σ) hf
  replace hf : L_L_areHearers_9 5 K13 a0 a1 a2 a3 0 1 0 σ = some (r, σr) := hf
  have hKK13 : ∀ (x14 : Int32) (x15 : Int32) (σ16 : Mem) (ce9 sl10 : Nat) (hce9 : ce9 ≤ 0 + 2 * 5) (hsl10 : sl10 ≤ 0 + 6 * (2 * 5)) (H : Heap) (locs : List Loc) (ls : Array Slot), K13 x14 x15 σ16 = some (r, σr) → va_P D vwCl (wsG 54 ad (EY ad cI cJ) σ16) H → va_S (AG 54 ad s.heap.size) s.heap H locs → lv_has ls 11 [(4, .int a2), (6, .int x14), (7, .int x15)] → W p l e R s m args below meth c H locs ce9 sl10 Q (F0 m 131 ls []) := by
    intro x14 x15 σ16 ce9 sl10 hce9 hsl10 H locs ls hf hP hS hl
    rw [eK13] at hf
    refine lv_iload hx hb dL_areHearers_131 (lv_at hl 2 rfl) ?_
    refine lv_if_eq (tgt := 147) hx hb dL_areHearers_133 (by decide) (fun q17 => ?_) (fun q17 => ?_)
    · rw [if_pos q17] at hf
      refine lv_iconst (v := 0) hx hb dL_areHearers_147 (by decide) ?_
      obtain ⟨h1, h2⟩ := rt2 hf
      refine W.widen (k := 10) (n := 6 * 10) (by omega) (by omega) ?_
      rw [hQ]
      exact g_yzret hx hb hr hlocks hP hS (Or.inl rfl) h1 h2 dL_areHearers_148
    · rw [if_neg q17] at hf
      refine lv_iload hx hb dL_areHearers_136 (lv_at hl 1 rfl) ?_
      refine lv_iload hx hb dL_areHearers_138 (lv_at hl 0 rfl) ?_
      refine lv_icmp_ne (tgt := 147) hx hb dL_areHearers_140 (by decide) (fun q18 => ?_) (fun q18 => ?_)
      · rw [if_neg q18] at hf
        refine lv_iconst (v := 0) hx hb dL_areHearers_147 (by decide) ?_
        obtain ⟨h1, h2⟩ := rt2 hf
        refine W.widen (k := 10) (n := 6 * 10) (by omega) (by omega) ?_
        rw [hQ]
        exact g_yzret hx hb hr hlocks hP hS (Or.inl rfl) h1 h2 dL_areHearers_148
      · rw [if_pos q18] at hf
        refine lv_iconst (v := 1) hx hb dL_areHearers_143 (by decide) ?_
        refine lv_goto (tgt := 148) hx hb dL_areHearers_144 (by decide) ?_
        obtain ⟨h1, h2⟩ := rt2 hf
        refine W.widen (k := 10) (n := 6 * 10) (by omega) (by omega) ?_
        rw [hQ]
        exact g_yzret hx hb hr hlocks hP hS (Or.inr rfl) h1 h2 dL_areHearers_148
  have hL_L_areHearers_9 : ∀ (n : Nat) (x5 : Int32) (x6 : Int32) (x7 : Int32) (σ8 : Mem) (ce11 sl12 : Nat) (hce11 : ce11 + 2 * n ≤ 0 + 2 * 5) (hsl12 : sl12 + 6 * (2 * n) ≤ 0 + 6 * (2 * 5)) (H : Heap) (locs : List Loc) (ls : Array Slot), L_L_areHearers_9 n K13 a0 a1 a2 a3 x5 x6 x7 σ8 = some (r, σr) → va_P D vwCl (wsG 54 ad (EY ad cI cJ) σ8) H → va_S (AG 54 ad s.heap.size) s.heap H locs → lv_has ls 11 [(0, .ref (ad 48)), (1, .ref (ad 51)), (2, .int a0), (3, .int a1), (4, .int a2), (5, .int a3), (6, .int x5), (7, .int x6), (8, .int x7)] → W p l e R s m args below meth c H locs ce11 sl12 Q (F0 m 9 ls []) := by
    intro n
    induction n with
    | zero => intro x5 x6 x7 σ8 ce11 sl12 hce11 hsl12 H locs ls hf; cases hf
    | succ n ih =>
      intro x5 x6 x7 σ8 ce11 sl12 hce11 hsl12 H locs ls hf hP hS hl
      rw [L_L_areHearers_9] at hf
      refine lv_iload hx hb dL_areHearers_9 (lv_at hl 8 rfl) ?_
      refine lv_aload_n hx hb dL_areHearers_11 rfl (lv_at hl 1 rfl) ?_
      refine lv_bipush (v := 7) hx hb dL_areHearers_12 (by decide) ?_
      obtain ⟨hin, hf⟩ := gd_e hf
      refine g_iald hx hb hK hP 51 13 (by decide) (EY_51 _) hin dL_areHearers_14 ?_
      refine lv_icmp_ge (tgt := 131) hx hb dL_areHearers_15 (by decide) (fun q19 => ?_) (fun q19 => ?_)
      · rw [if_pos q19] at hf
        exact hKK13 x5 x6 σ8 ce11 sl12 (by omega) (by omega) _ _ ls hf hP hS (lv_sub hl [4, 6, 7] rfl)
      · rw [if_neg q19] at hf
        refine lv_aload_n hx hb dL_areHearers_18 rfl (lv_at hl 0 rfl) ?_
        refine lv_aload_n hx hb dL_areHearers_19 rfl (lv_at hl 0 rfl) ?_
        refine lv_iload_n hx hb dL_areHearers_20 rfl (lv_at hl 2 rfl) ?_
        rcases bt_e hf with ⟨v20, hv, hf⟩ | ⟨n21, v20, hn, hv, hf⟩
        · refine g_yVi (τ := σ8) ⟨⟨hx, hb, hml, hown, hB⟩, hK, hi, hA, hAd, hP, hS⟩ hZ sub_YX (c_X5_roomOf hflag (injS (by decide) hi) hv) (fun _ _ => rfl) cal_X5_roomOf kM_L_78 ⟨Nat.le_trans (Nat.le_of_ble_eq_true rfl) hRf, Nat.le_trans (Nat.le_of_ble_eq_true rfl) hRl⟩ 48 (by decide) rfl rfl rfl rfl hl.1 (Nat.le_of_ble_eq_true rfl) rfl dL_areHearers_21 ⟨by omega, by omega⟩ (fun _ _ => rfl) (fun _ _ _ => rfl) (fun H locs hP hS => ?_)
          refine lv_aload_n hx hb dL_areHearers_24 rfl (lv_at hl 0 rfl) ?_
          refine lv_iload hx hb dL_areHearers_25 (lv_at hl 8 rfl) ?_
          rcases bt_e hf with ⟨v22, hv, hf⟩ | ⟨n23, v22, hn, hv, hf⟩
          · refine g_yVi (τ := σ8) ⟨⟨hx, hb, hml, hown, hB⟩, hK, hi, hA, hAd, hP, hS⟩ hZ sub_YX (c_X5_roomOf hflag (injS (by decide) hi) hv) (fun _ _ => rfl) cal_X5_roomOf kM_L_78 ⟨Nat.le_trans (Nat.le_of_ble_eq_true rfl) hRf, Nat.le_trans (Nat.le_of_ble_eq_true rfl) hRl⟩ 48 (by decide) rfl rfl rfl rfl hl.1 (Nat.le_of_ble_eq_true rfl) rfl dL_areHearers_27 ⟨by omega, by omega⟩ (fun _ _ => rfl) (fun _ _ _ => rfl) (fun H locs hP hS => ?_)
            rcases bt3_e hf with ⟨v24, σ25, hv, hf⟩ | ⟨n26, σ25, hn, ⟨_, hv⟩, hf⟩
            · refine g_yVi (τ := (mgY σ25 σ8)) ⟨⟨hx, hb, hml, hown, hB⟩, hK, hi, hA, hAd, hP, hS⟩ hZ sub_YX (c_X5_distance hflag (injS (by decide) hi) hv) (fun _ _ => rfl) cal_X5_distance kM_L_105 ⟨Nat.le_trans (Nat.le_of_ble_eq_true rfl) hRf, Nat.le_trans (Nat.le_of_ble_eq_true rfl) hRl⟩ 48 (by decide) rfl rfl rfl rfl hl.1 (Nat.le_of_ble_eq_true rfl) rfl dL_areHearers_30 ⟨by omega, by omega⟩ (mgY_1 _ _) (mgY_2 54 _ _) (fun H locs hP hS => ?_)
              obtain ⟨σ27, eσ27, hf⟩ := stp_e hf
              rw [← eσ27] at hP
              refine lv_istore (lv' := [(9, .int v24), (0, .ref (ad 48)), (1, .ref (ad 51)), (2, .int a0), (3, .int a1), (4, .int a2), (5, .int a3), (6, .int x5), (7, .int x6), (8, .int x7)]) hx hb dL_areHearers_33 hl (by decide) rfl (fun ls hl => ?_)
              refine lv_iload hx hb dL_areHearers_35 (lv_at hl 9 rfl) ?_
              refine lv_iload_n hx hb dL_areHearers_37 rfl (lv_at hl 3 rfl) ?_
              obtain ⟨J30, eJ30, hf⟩ := jn_e2 hf
              have hJ30 : ∀ (y29 : Int32) (σ28 : Mem) (H : Heap) (locs : List Loc) (ls : Array Slot), J30 y29 σ28 = some (r, σr) → va_P D vwCl (wsG 54 ad (EY ad cI cJ) σ28) H → va_S (AG 54 ad s.heap.size) s.heap H locs → lv_has ls 11 [(0, .ref (ad 48)), (1, .ref (ad 51)), (2, .int a0), (3, .int a1), (4, .int a2), (5, .int a3), (6, .int x5), (7, .int x6), (8, .int x7)] → W p l e R s m args below meth c H locs ce11 sl12 Q (F0 m 62 ls [.int y29]) := by
                intro y29 σ28 H locs ls hf hP hS hl
                rw [eJ30] at hf
                refine lv_istore (lv' := [(10, .int y29), (0, .ref (ad 48)), (1, .ref (ad 51)), (2, .int a0), (3, .int a1), (4, .int a2), (5, .int a3), (6, .int x5), (7, .int x6), (8, .int x7)]) hx hb dL_areHearers_62 hl (by decide) rfl (fun ls hl => ?_)
                refine lv_iload hx hb dL_areHearers_64 (lv_at hl 7 rfl) ?_
                refine lv_iload hx hb dL_areHearers_66 (lv_at hl 0 rfl) ?_
                obtain ⟨J34, eJ34, hf⟩ := jn_e3 hf
                have hJ34 : ∀ (y32 : Int32) (y33 : Int32) (σ31 : Mem) (H : Heap) (locs : List Loc) (ls : Array Slot), J34 y32 y33 σ31 = some (r, σr) → va_P D vwCl (wsG 54 ad (EY ad cI cJ) σ31) H → va_S (AG 54 ad s.heap.size) s.heap H locs → lv_has ls 11 [(0, .ref (ad 48)), (1, .ref (ad 51)), (2, .int a0), (3, .int a1), (4, .int a2), (5, .int a3), (7, .int x6), (8, .int x7), (10, .int y29)] → W p l e R s m args below meth c H locs ce11 sl12 Q (F0 m 76 ls [.int y33, .int y32]) := by
                  intro y32 y33 σ31 H locs ls hf hP hS hl
                  rw [eJ34] at hf
                  refine lv_iadd hx hb dL_areHearers_76 ?_
                  refine lv_istore (lv' := [(6, .int (y32 + y33)), (0, .ref (ad 48)), (1, .ref (ad 51)), (2, .int a0), (3, .int a1), (4, .int a2), (5, .int a3), (7, .int x6), (8, .int x7), (10, .int y29)]) hx hb dL_areHearers_77 hl (by decide) rfl (fun ls hl => ?_)
                  refine lv_iload hx hb dL_areHearers_79 (lv_at hl 7 rfl) ?_
                  obtain ⟨J37, eJ37, hf⟩ := jn_e2 hf
                  have hJ37 : ∀ (y36 : Int32) (σ35 : Mem) (ce38 sl39 : Nat) (hce38 : ce38 ≤ ce11 + 2) (hsl39 : sl39 ≤ sl12 + 6 * 2) (H : Heap) (locs : List Loc) (ls : Array Slot), J37 y36 σ35 = some (r, σr) → va_P D vwCl (wsG 54 ad (EY ad cI cJ) σ35) H → va_S (AG 54 ad s.heap.size) s.heap H locs → lv_has ls 11 [(0, .ref (ad 48)), (1, .ref (ad 51)), (2, .int a0), (3, .int a1), (4, .int a2), (5, .int a3), (6, .int (y32 + y33)), (8, .int x7)] → W p l e R s m args below meth c H locs ce38 sl39 Q (F0 m 123 ls [.int y36]) := by
                    intro y36 σ35 ce38 sl39 hce38 hsl39 H locs ls hf hP hS hl
                    rw [eJ37] at hf
                    refine lv_istore (lv' := [(7, .int y36), (0, .ref (ad 48)), (1, .ref (ad 51)), (2, .int a0), (3, .int a1), (4, .int a2), (5, .int a3), (6, .int (y32 + y33)), (8, .int x7)]) hx hb dL_areHearers_123 hl (by decide) rfl (fun ls hl => ?_)
                    refine lv_iinc (v := (x7 + 1)) (lv' := [(8, .int (x7 + 1)), (7, .int y36), (0, .ref (ad 48)), (1, .ref (ad 51)), (2, .int a0), (3, .int a1), (4, .int a2), (5, .int a3), (6, .int (y32 + y33))]) hx hb dL_areHearers_125 hl (k := 8) rfl rfl (by decide) rfl (fun ls hl => ?_)
                    refine lv_goto (tgt := 9) hx hb dL_areHearers_128 (by decide) ?_
                    exact ih (y32 + y33) y36 (x7 + 1) σ35 ce38 sl39 (by omega) (by omega) _ _ ls hf hP hS (lv_sub hl [2, 3, 4, 5, 6, 7, 8, 1, 0] rfl)
                  obtain ⟨J41, eJ41, hf⟩ := jn_e1 hf
                  have hJ41 : ∀ (σ40 : Mem) (ce42 sl43 : Nat) (hce42 : ce42 ≤ ce11 + 2) (hsl43 : sl43 ≤ sl12 + 6 * 2) (H : Heap) (locs : List Loc) (ls : Array Slot), J41 σ40 = some (r, σr) → va_P D vwCl (wsG 54 ad (EY ad cI cJ) σ40) H → va_S (AG 54 ad s.heap.size) s.heap H locs → lv_has ls 11 [(0, .ref (ad 48)), (1, .ref (ad 51)), (2, .int a0), (3, .int a1), (4, .int a2), (5, .int a3), (6, .int (y32 + y33)), (8, .int x7)] → W p l e R s m args below meth c H locs ce42 sl43 Q (F0 m 122 ls []) := by
                    intro σ40 ce42 sl43 hce42 hsl43 H locs ls hf hP hS hl
                    rw [eJ41] at hf
                    refine lv_iconst (v := 0) hx hb dL_areHearers_122 (by decide) ?_
                    exact hJ37 0 σ40 ce42 sl43 (by omega) (by omega) _ _ ls hf hP hS (lv_sub hl [0, 1, 2, 3, 4, 5, 6, 7] rfl)
                  refine lv_if_eq (tgt := 122) hx hb dL_areHearers_81 (by decide) (fun q44 => ?_) (fun q44 => ?_)
                  · rw [if_pos q44] at hf
                    exact hJ41 σ31 ce11 sl12 (by omega) (by omega) _ _ ls hf hP hS (lv_sub hl [1, 2, 3, 4, 5, 6, 0, 8] rfl)
                  · rw [if_neg q44] at hf
                    refine lv_iload hx hb dL_areHearers_84 (lv_at hl 9 rfl) ?_
                    obtain ⟨J46, eJ46, hf⟩ := jn_e1 hf
                    have hJ46 : ∀ (σ45 : Mem) (ce47 sl48 : Nat) (hce47 : ce47 ≤ ce11 + 1) (hsl48 : sl48 ≤ sl12 + 6 * 1) (H : Heap) (locs : List Loc) (ls : Array Slot), J46 σ45 = some (r, σr) → va_P D vwCl (wsG 54 ad (EY ad cI cJ) σ45) H → va_S (AG 54 ad s.heap.size) s.heap H locs → lv_has ls 11 [(0, .ref (ad 48)), (1, .ref (ad 51)), (2, .int a0), (3, .int a1), (4, .int a2), (5, .int a3), (6, .int (y32 + y33)), (8, .int x7)] → W p l e R s m args below meth c H locs ce47 sl48 Q (F0 m 105 ls []) := by
                      intro σ45 ce47 sl48 hce47 hsl48 H locs ls hf hP hS hl
                      rw [eJ46] at hf
                      refine lv_aload_n hx hb dL_areHearers_105 rfl (lv_at hl 0 rfl) ?_
                      refine lv_iload hx hb dL_areHearers_106 (lv_at hl 7 rfl) ?_
                      refine lv_bipush (v := 6) hx hb dL_areHearers_108 (by decide) ?_
                      obtain ⟨v49, σ50, hv, hf⟩ := bd2_e hf
                      refine g_ti (τ := σ50) ⟨⟨hx, hb, hml, hown, hB⟩, hK, hi, hA, hAd, hP, hS⟩ hZ hN subG.rf (c_L_heard hflag hi hv) (fun _ _ => rfl) cal_L_heard kM_L_163 ⟨Nat.le_trans (Nat.le_of_ble_eq_true rfl) hRf, Nat.le_trans (Nat.le_of_ble_eq_true rfl) hRl⟩ rfl hl.1 (Nat.le_of_ble_eq_true rfl) rfl dL_areHearers_110 ⟨by omega, by omega⟩ (fun _ _ => rfl) (fun j hj h => absurd rfl (h j hj)) (fun H locs hP hS => ?_)
                      refine lv_bipush (v := (-7)) hx hb dL_areHearers_113 (by decide) ?_
                      refine lv_icmp_ne (tgt := 122) hx hb dL_areHearers_115 (by decide) (fun q51 => ?_) (fun q51 => ?_)
                      · rw [if_neg q51] at hf
                        exact hJ41 σ50 (ce47 + 1) (sl48 + 6 * 1) (by omega) (by omega) _ _ ls hf hP hS (lv_sub hl [0, 1, 2, 3, 4, 5, 6, 7] rfl)
                      · rw [if_pos q51] at hf
                        refine lv_iconst (v := 1) hx hb dL_areHearers_118 (by decide) ?_
                        refine lv_goto (tgt := 123) hx hb dL_areHearers_119 (by decide) ?_
                        exact hJ37 1 σ50 (ce47 + 1) (sl48 + 6 * 1) (by omega) (by omega) _ _ ls hf hP hS (lv_sub hl [0, 1, 2, 3, 4, 5, 6, 7] rfl)
                    refine lv_if_eq (tgt := 105) hx hb dL_areHearers_86 (by decide) (fun q52 => ?_) (fun q52 => ?_)
                    · rw [if_pos q52] at hf
                      exact hJ46 σ31 ce11 sl12 (by omega) (by omega) _ _ ls hf hP hS (lv_sub hl [1, 2, 3, 4, 5, 6, 0, 8] rfl)
                    · rw [if_neg q52] at hf
                      refine lv_aload_n hx hb dL_areHearers_89 rfl (lv_at hl 1 rfl) ?_
                      refine lv_iload hx hb dL_areHearers_90 (lv_at hl 8 rfl) ?_
                      refine lv_iconst (v := 0) hx hb dL_areHearers_92 (by decide) ?_
                      obtain ⟨v53, σ54, hv, hf⟩ := bd2_e hf
                      refine g_ti (τ := σ54) ⟨⟨hx, hb, hml, hown, hB⟩, hK, hi, hA, hAd, hP, hS⟩ hZ hN subG.rf (c_L_heard hflag hi hv) (fun _ _ => rfl) cal_L_heard kM_L_163 ⟨Nat.le_trans (Nat.le_of_ble_eq_true rfl) hRf, Nat.le_trans (Nat.le_of_ble_eq_true rfl) hRl⟩ rfl hl.1 (Nat.le_of_ble_eq_true rfl) rfl dL_areHearers_93 ⟨by omega, by omega⟩ (fun _ _ => rfl) (fun j hj h => absurd rfl (h j hj)) (fun H locs hP hS => ?_)
                      refine lv_bipush (v := 100) hx hb dL_areHearers_96 (by decide) ?_
                      refine lv_iload_n hx hb dL_areHearers_98 rfl (lv_at hl 3 rfl) ?_
                      refine lv_imul hx hb dL_areHearers_99 ?_
                      refine lv_iload_n hx hb dL_areHearers_100 rfl (lv_at hl 4 rfl) ?_
                      refine lv_iadd hx hb dL_areHearers_101 ?_
                      refine lv_icmp_ne (tgt := 122) hx hb dL_areHearers_102 (by decide) (fun q55 => ?_) (fun q55 => ?_)
                      · rw [if_neg q55] at hf
                        exact hJ41 σ54 (ce11 + 1) (sl12 + 6 * 1) (by omega) (by omega) _ _ ls hf hP hS (lv_sub hl [1, 2, 3, 4, 5, 6, 0, 8] rfl)
                      · rw [if_pos q55] at hf
                        exact hJ46 σ54 (ce11 + 1) (sl12 + 6 * 1) (by omega) (by omega) _ _ ls hf hP hS (lv_sub hl [1, 2, 3, 4, 5, 6, 0, 8] rfl)
                refine lv_if_eq (tgt := 75) hx hb dL_areHearers_68 (by decide) (fun q56 => ?_) (fun q56 => ?_)
                · rw [if_pos q56] at hf
                  refine lv_iconst (v := 0) hx hb dL_areHearers_75 (by decide) ?_
                  exact hJ34 x5 0 σ28 _ _ ls hf hP hS (lv_sub hl [1, 2, 3, 4, 5, 6, 8, 9, 0] rfl)
                · rw [if_neg q56] at hf
                  refine lv_iconst (v := 1) hx hb dL_areHearers_71 (by decide) ?_
                  refine lv_goto (tgt := 76) hx hb dL_areHearers_72 (by decide) ?_
                  exact hJ34 x5 1 σ28 _ _ ls hf hP hS (lv_sub hl [1, 2, 3, 4, 5, 6, 8, 9, 0] rfl)
              obtain ⟨J58, eJ58, hf⟩ := jn_e1 hf
              have hJ58 : ∀ (σ57 : Mem) (H : Heap) (locs : List Loc) (ls : Array Slot), J58 σ57 = some (r, σr) → va_P D vwCl (wsG 54 ad (EY ad cI cJ) σ57) H → va_S (AG 54 ad s.heap.size) s.heap H locs → lv_has ls 11 [(0, .ref (ad 48)), (1, .ref (ad 51)), (2, .int a0), (3, .int a1), (4, .int a2), (5, .int a3), (6, .int x5), (7, .int x6), (8, .int x7)] → W p l e R s m args below meth c H locs ce11 sl12 Q (F0 m 61 ls []) := by
                intro σ57 H locs ls hf hP hS hl
                rw [eJ58] at hf
                refine lv_iconst (v := 0) hx hb dL_areHearers_61 (by decide) ?_
                exact hJ30 0 σ57 _ _ ls hf hP hS (lv_sub hl [0, 1, 2, 3, 4, 5, 6, 7, 8] rfl)
              refine lv_icmp_eq (tgt := 61) hx hb dL_areHearers_38 (by decide) (fun q59 => ?_) (fun q59 => ?_)
              · rw [if_pos q59] at hf
                exact hJ58 σ27 _ _ ls hf hP hS (lv_sub hl [1, 2, 3, 4, 5, 6, 7, 8, 9] rfl)
              · rw [if_neg q59] at hf
                refine lv_iload hx hb dL_areHearers_41 (lv_at hl 0 rfl) ?_
                obtain ⟨J61, eJ61, hf⟩ := jn_e1 hf
                have hJ61 : ∀ (σ60 : Mem) (H : Heap) (locs : List Loc) (ls : Array Slot), J61 σ60 = some (r, σr) → va_P D vwCl (wsG 54 ad (EY ad cI cJ) σ60) H → va_S (AG 54 ad s.heap.size) s.heap H locs → lv_has ls 11 [(0, .ref (ad 48)), (1, .ref (ad 51)), (2, .int a0), (3, .int a1), (4, .int a2), (5, .int a3), (6, .int x5), (7, .int x6), (8, .int x7)] → W p l e R s m args below meth c H locs ce11 sl12 Q (F0 m 57 ls []) := by
                  intro σ60 H locs ls hf hP hS hl
                  rw [eJ61] at hf
                  refine lv_iconst (v := 1) hx hb dL_areHearers_57 (by decide) ?_
                  refine lv_goto (tgt := 62) hx hb dL_areHearers_58 (by decide) ?_
                  exact hJ30 1 σ60 _ _ ls hf hP hS (lv_sub hl [0, 1, 2, 3, 4, 5, 6, 7, 8] rfl)
                refine lv_if_eq (tgt := 57) hx hb dL_areHearers_43 (by decide) (fun q62 => ?_) (fun q62 => ?_)
                · rw [if_pos q62] at hf
                  exact hJ61 σ27 _ _ ls hf hP hS (lv_sub hl [1, 2, 3, 4, 5, 6, 7, 8, 9] rfl)
                · rw [if_neg q62] at hf
                  refine lv_iload hx hb dL_areHearers_46 (lv_at hl 6 rfl) ?_
                  refine lv_if_eq (tgt := 61) hx hb dL_areHearers_48 (by decide) (fun q63 => ?_) (fun q63 => ?_)
                  · rw [if_pos q63] at hf
                    exact hJ58 σ27 _ _ ls hf hP hS (lv_sub hl [1, 2, 3, 4, 5, 6, 7, 8, 9] rfl)
                  · rw [if_neg q63] at hf
                    refine lv_iload hx hb dL_areHearers_51 (lv_at hl 0 rfl) ?_
                    refine lv_iconst (v := 1) hx hb dL_areHearers_53 (by decide) ?_
                    refine lv_icmp_ne (tgt := 61) hx hb dL_areHearers_54 (by decide) (fun q64 => ?_) (fun q64 => ?_)
                    · rw [if_neg q64] at hf
                      exact hJ58 σ27 _ _ ls hf hP hS (lv_sub hl [1, 2, 3, 4, 5, 6, 7, 8, 9] rfl)
                    · rw [if_pos q64] at hf
                      exact hJ61 σ27 _ _ ls hf hP hS (lv_sub hl [1, 2, 3, 4, 5, 6, 7, 8, 9] rfl)
            · cases hf
          · cases hf
        · cases hf
  exact hL_L_areHearers_9 5 0 1 0 σ 0 0 (by omega) (by omega) _ _ ls hf hP hS (lv_sub hl [3, 4, 5, 6, 7, 8, 2, 1, 0] rfl)
def L_L_makes_606 : Nat → (Int32 → Mem → Option (Int32 × Mem)) → Int32 → Int32 → Int32 → Int32 → Int32 → Mem → Option (Int32 × Mem)
  | 0, _, _, _, _, _, _, _ => none
  | n + 1, k, x10, x11, x12, x13, x14, σ15 =>
    gd 7 13 <|
    if (σ15 51 (7 : Int32).toNatClampNeg) ≤ x14 then (
    k x13 σ15)
    else (
    bt (f_X5_stageOf σ15 x14 x12) (fun _ => none) fun v49 =>
    L_L_makes_606 n k x10 x11 x12 (x13 + v49) (x14 + 1) σ15)
def f_L_makes (σ : Mem) (a0 a1 a2 : Int32) : Option (Int32 × Mem) :=
if a0 = 0 then (
bt (f_X5_exit σ (jrem a1 8) (jrem a2 4)) (fun _ => none) fun v113 =>
jn (fun (y116 : Int32) (σ115 : Mem) =>
bd2 (f_L_links σ115 (jrem a1 8) (jrem a2 4) (jrem (((jrem a1 8) + 1) + (jrem (a1 / 8) 7)) 8)) fun v118 σ119 =>
gd 6 13 <|
jn (fun (y121 : Int32) (y122 : Int32) (y123 : Int32) (σ120 : Mem) =>
gd y121 13 <| stp (mu σ120 51 y121.toNatClampNeg (y122 + y123)) fun σ125 =>
if v118 = y116 then (
some (1, σ125))
else (
some (0, σ125))) fun (J124 : Int32 → Int32 → Int32 → Mem → Option (Int32 × Mem)) =>
if y116 = 0 then (
J124 6 (σ119 51 (6 : Int32).toNatClampNeg) 0 σ119)
else (
J124 6 (σ119 51 (6 : Int32).toNatClampNeg) 1 σ119)) fun (J117 : Int32 → Mem → Option (Int32 × Mem)) =>
jn (fun (σ128 : Mem) =>
J117 0 σ128) fun (J129 : Mem → Option (Int32 × Mem)) =>
if 0 ≤ v113 then (
J129 σ)
else (
bt (f_X5_exit σ (jrem (((jrem a1 8) + 1) + (jrem (a1 / 8) 7)) 8) (jrem (a2 + 2) 4)) (fun _ => none) fun v131 =>
if 0 ≤ v131 then (
J129 σ)
else (
J117 1 σ)))
else (
if a0 = 1 then (
gd 12 13 <|
if (((σ 51 (12 : Int32).toNatClampNeg) >>> ((jrem a1 8) &&& 31)) &&& 1) = 1 then (
bt (f_X5_stockOf σ (jrem a1 8) (jrem (a1 / 8) 5)) (fun _ => none) fun v104 =>
gd (1 + (jrem (a1 / 8) 5)) 13 <|
gd (1 + (jrem (a1 / 8) 5)) 13 <| stp (mu σ 51 (1 + (jrem (a1 / 8) 5)).toNatClampNeg ((σ 51 (1 + (jrem (a1 / 8) 5)).toNatClampNeg) + (jrem a2 6))) fun σ106 =>
gd 6 13 <|
gd 6 13 <| stp (mu σ106 51 (6 : Int32).toNatClampNeg ((σ106 51 (6 : Int32).toNatClampNeg) + 1)) fun σ107 =>
bt3 (f_X5_stock σ107 (jrem a1 8) (jrem (a1 / 8) 5) (jrem a2 6) (jrem (a2 / 6) 20)) (fun _ _ => none) fun v108 σ109 =>
stp (mgY σ109 σ107) fun σ111 =>
if v108 = (v104 + (jrem a2 6)) then (
some (1, σ111))
else (
some (0, σ111)))
else (
gd 12 13 <|
gd 12 13 <| stp (mu σ 51 (12 : Int32).toNatClampNeg ((σ 51 (12 : Int32).toNatClampNeg) ||| (1 <<< ((jrem a1 8) &&& 31)))) fun σ94 =>
gd 0 13 <|
gd 0 13 <| stp (mu σ94 51 (0 : Int32).toNatClampNeg ((σ94 51 (0 : Int32).toNatClampNeg) + (jrem a2 300))) fun σ95 =>
gd 6 13 <|
gd 6 13 <| stp (mu σ95 51 (6 : Int32).toNatClampNeg ((σ95 51 (6 : Int32).toNatClampNeg) + 1)) fun σ96 =>
bt3 (f_X5_shop σ96 (jrem a1 8) (jrem a2 300)) (fun _ _ => none) fun v97 σ98 =>
stp (mgY σ98 σ96) fun σ100 =>
bt (f_X5_tillOf σ100 (jrem a1 8)) (fun _ => none) fun v101 =>
if v101 = (jrem a2 300) then (
some (1, σ100))
else (
some (0, σ100))))
else (
if a0 = 2 then (
bt (f_X5_onFloor σ (jrem a1 8) (jrem a2 5)) (fun _ => none) fun v84 =>
gd (1 + (jrem a2 5)) 13 <|
gd (1 + (jrem a2 5)) 13 <| stp (mu σ 51 (1 + (jrem a2 5)).toNatClampNeg ((σ 51 (1 + (jrem a2 5)).toNatClampNeg) + (1 + (jrem (a2 / 5) 9)))) fun σ86 =>
gd 6 13 <|
gd 6 13 <| stp (mu σ86 51 (6 : Int32).toNatClampNeg ((σ86 51 (6 : Int32).toNatClampNeg) + 1)) fun σ87 =>
bt3 (f_X5_scatter σ87 (jrem a1 8) (jrem a2 5) (1 + (jrem (a2 / 5) 9))) (fun _ _ => none) fun v88 σ89 =>
stp (mgY σ89 σ87) fun σ91 =>
if v88 = ((v84 + 1) + (jrem (a2 / 5) 9)) then (
some (1, σ91))
else (
some (0, σ91)))
else (
jn (fun (σ4 : Mem) =>
if a0 = 4 then (
bd (f_X5_purse σ4) fun v60 =>
gd 0 13 <|
gd 0 13 <| stp (mu σ4 51 (0 : Int32).toNatClampNeg ((σ4 51 (0 : Int32).toNatClampNeg) + (1 + (jrem a2 90)))) fun σ61 =>
gd 6 13 <|
gd 6 13 <| stp (mu σ61 51 (6 : Int32).toNatClampNeg ((σ61 51 (6 : Int32).toNatClampNeg) + 1)) fun σ62 =>
bt3 (f_X5_endow σ62 (1 + (jrem a2 90))) (fun _ _ => none) fun v63 σ64 =>
stp (mgY σ64 σ62) fun σ66 =>
if v63 = ((v60 + 1) + (jrem a2 90)) then (
some (1, σ66))
else (
some (0, σ66)))
else (
jn (fun (σ7 : Mem) =>
gd 8 13 <|
if (σ7 51 (8 : Int32).toNatClampNeg) = 0 then (
some (1, σ7))
else (
gd 8 13 <|
nz (σ7 51 (8 : Int32).toNatClampNeg) <|
L_L_makes_606 FU (fun (x17 : Int32) (σ18 : Mem) =>
bd2 (f_L_stages σ18 (jrem a1 (σ7 51 (8 : Int32).toNatClampNeg)) (jrem a2 4) (jrem (a1 / 8) 4) (1 + (jrem (a2 / 4) 5))) fun v19 σ20 =>
gd (9 + (jrem a1 (σ7 51 (8 : Int32).toNatClampNeg))) 13 <|
jn (fun (y22 : Int32) (σ21 : Mem) =>
gd (9 + (jrem a1 (σ7 51 (8 : Int32).toNatClampNeg))) 13 <|
jn (fun (y25 : Int32) (y26 : Int32) (y27 : Int32) (σ24 : Mem) =>
gd y25 13 <| stp (mu σ24 51 y25.toNatClampNeg (y26 + y27)) fun σ29 =>
gd 6 13 <|
jn (fun (y31 : Int32) (y32 : Int32) (y33 : Int32) (σ30 : Mem) =>
gd y31 13 <| stp (mu σ30 51 y31.toNatClampNeg (y32 + y33)) fun σ35 =>
jn (fun (y37 : Int32) (y38 : Int32) (σ36 : Mem) =>
if y37 = y38 then (
some (1, σ36))
else (
some (0, σ36))) fun (J39 : Int32 → Int32 → Mem → Option (Int32 × Mem)) =>
if y22 = 0 then (
J39 v19 (-8) σ35)
else (
gd (9 + (jrem a1 (σ7 51 (8 : Int32).toNatClampNeg))) 13 <|
J39 v19 (σ35 51 (9 + (jrem a1 (σ7 51 (8 : Int32).toNatClampNeg))).toNatClampNeg) σ35)) fun (J34 : Int32 → Int32 → Int32 → Mem → Option (Int32 × Mem)) =>
if y22 = 0 then (
J34 6 (σ29 51 (6 : Int32).toNatClampNeg) 0 σ29)
else (
J34 6 (σ29 51 (6 : Int32).toNatClampNeg) 1 σ29)) fun (J28 : Int32 → Int32 → Int32 → Mem → Option (Int32 × Mem)) =>
if y22 = 0 then (
J28 (9 + (jrem a1 (σ7 51 (8 : Int32).toNatClampNeg))) (σ21 51 (9 + (jrem a1 (σ7 51 (8 : Int32).toNatClampNeg))).toNatClampNeg) 0 σ21)
else (
J28 (9 + (jrem a1 (σ7 51 (8 : Int32).toNatClampNeg))) (σ21 51 (9 + (jrem a1 (σ7 51 (8 : Int32).toNatClampNeg))).toNatClampNeg) 1 σ21)) fun (J23 : Int32 → Mem → Option (Int32 × Mem)) =>
jn (fun (σ44 : Mem) =>
J23 0 σ44) fun (J45 : Mem → Option (Int32 × Mem)) =>
if 4 ≤ (σ20 51 (9 + (jrem a1 (σ7 51 (8 : Int32).toNatClampNeg))).toNatClampNeg) then (
J45 σ20)
else (
if x17 = 0 then (
J23 1 σ20)
else (
J45 σ20))) a1 a2 (jrem a1 (σ7 51 (8 : Int32).toNatClampNeg)) 0 0 σ7)) fun (J8 : Mem → Option (Int32 × Mem)) =>
if a0 = 5 then (
gd 8 13 <|
if 3 ≤ (σ4 51 (8 : Int32).toNatClampNeg) then (
J8 σ4)
else (
gd 8 13 <|
gd 8 13 <| stp (mu σ4 51 (8 : Int32).toNatClampNeg ((σ4 51 (8 : Int32).toNatClampNeg) + 1)) fun σ53 =>
gd 6 13 <|
gd 6 13 <| stp (mu σ53 51 (6 : Int32).toNatClampNeg ((σ53 51 (6 : Int32).toNatClampNeg) + 1)) fun σ54 =>
bt3 (f_X5_quest σ54 (jrem a2 101)) (fun _ _ => none) fun v55 σ56 =>
stp (mgY σ56 σ54) fun σ58 =>
gd 8 13 <|
if v55 = ((σ58 51 (8 : Int32).toNatClampNeg) - 1) then (
some (1, σ58))
else (
some (0, σ58))))
else (
J8 σ4))) fun (J5 : Mem → Option (Int32 × Mem)) =>
if a0 = 3 then (
gd 7 13 <|
if 4 ≤ (σ 51 (7 : Int32).toNatClampNeg) then (
J5 σ)
else (
gd 7 13 <|
gd 7 13 <| stp (mu σ 51 (7 : Int32).toNatClampNeg ((σ 51 (7 : Int32).toNatClampNeg) + 1)) fun σ70 =>
gd 0 13 <|
gd 0 13 <| stp (mu σ70 51 (0 : Int32).toNatClampNeg ((σ70 51 (0 : Int32).toNatClampNeg) + (jrem (a1 / 8) 201))) fun σ71 =>
gd 6 13 <|
gd 6 13 <| stp (mu σ71 51 (6 : Int32).toNatClampNeg ((σ71 51 (6 : Int32).toNatClampNeg) + 1)) fun σ72 =>
bt3 (f_X5_join σ72 (jrem a1 8) (jrem (a1 / 8) 201) (jrem a2 7)) (fun _ _ => none) fun v73 σ74 =>
stp (mgY σ74 σ72) fun σ76 =>
gd 7 13 <|
if v73 = ((σ76 51 (7 : Int32).toNatClampNeg) - 1) then (
gd 7 13 <|
bt (f_X5_healthOf σ76 ((σ76 51 (7 : Int32).toNatClampNeg) - 1)) (fun _ => none) fun v78 =>
if v78 = 20 then (
gd 7 13 <|
bt (f_X5_readyAt σ76 ((σ76 51 (7 : Int32).toNatClampNeg) - 1)) (fun _ => none) fun v81 =>
if v81 = 0 then (
some (1, σ76))
else (
some (0, σ76)))
else (
some (0, σ76)))
else (
some (0, σ76))))
else (
J5 σ))))
set_option maxHeartbeats 16000000 in
set_option maxRecDepth 100000 in
theorem c_L_makes {l : Launch} {D : va_G} {cI cJ : ClassId} {ad : Nat → Nat} {σ σr : Mem} {a0 a1 a2 : Int32} {r : Int32} (hflag : l.stackTraces = false) (hi : injG 54 ad) (hf : f_L_makes σ a0 a1 a2 = some (r, σr)) : MGY l yL_makes (Cond.code yL_makes cL_makes 10 (some .boolean)) 10 203 1 D cI cJ 54 ad (EY ad cI cJ) [.ref (ad 48), .int a0, .int a1, .int a2, .ref (ad 51)] σ (fun sz => Qgi D 54 ad (EY ad cI cJ) r σr sz) := by
  refine MGY.ofW (by decide) ?_
  intro p e s m args below meth c hx hb hr hml hlocks hown hB hK hZ hN hP hA hAd hS
  have hown : s.vm.findClass RL = some m.cls := hown
  have hl := lv_entry ([.ref (ad 48), .int a0, .int a1, .int a2, .ref (ad 51)] : List Value) (n := 10) (Nat.le_of_ble_eq_true rfl)
  rw [lg_entry_eq]
  generalize (lg_sl ([.ref (ad 48), .int a0, .int a1, .int a2, .ref (ad 51)] : List Value) ++ List.replicate (10 - (lg_sl ([.ref (ad 48), .int a0, .int a1, .int a2, .ref (ad 51)] : List Value)).length) Slot.unset).toArray = ls at hl ⊢
  have hl : lv_has ls 10 [(0, .ref (ad 48)), (1, .int a0), (2, .int a1), (3, .int a2), (4, .ref (ad 51))] := hl
  generalize hQ : MQ below (Qgi D 54 ad (EY ad cI cJ) r σr s.heap.size) _ s 1 (6 * 1) (AG 54 ad s.heap.size) = Q
  have hQ := hQ.symm
  obtain ⟨R, hR, hRf, hRl, hRc, hRs⟩ : ∃ R : Room, R = ({ frames := 10, cells := 1, slots := 6 * 1, locals := 203 } : Room) ∧ 10 ≤ R.frames ∧ 203 ≤ R.locals ∧ 1 ≤ R.cells ∧ 6 * 1 ≤ R.slots := ⟨_, rfl, Nat.le_refl _, Nat.le_refl _, Nat.le_refl _, Nat.le_refl _⟩
  rw [← hR]
  unfold f_L_makes at hf
  refine lv_iload_n hx hb dL_makes_0 rfl (lv_at hl 2 rfl) ?_
  refine lv_bipush (v := 8) hx hb dL_makes_1 (by decide) ?_
  refine lv_iremJ hx hb dL_makes_3 (by decide) ?_
  refine lv_istore (lv' := [(5, .int (jrem a1 8)), (0, .ref (ad 48)), (1, .int a0), (2, .int a1), (3, .int a2), (4, .ref (ad 51))]) hx hb dL_makes_4 hl (by decide) rfl (fun ls hl => ?_)
  refine lv_iload_n hx hb dL_makes_6 rfl (lv_at hl 2 rfl) ?_
  refine lv_if_ne (tgt := 113) hx hb dL_makes_7 (by decide) (fun q1 => ?_) (fun q1 => ?_)
  · rw [if_neg q1] at hf
    refine lv_iload_n hx hb dL_makes_113 rfl (lv_at hl 2 rfl) ?_
    refine lv_iconst (v := 1) hx hb dL_makes_114 (by decide) ?_
    refine lv_icmp_ne (tgt := 272) hx hb dL_makes_115 (by decide) (fun q2 => ?_) (fun q2 => ?_)
    · rw [if_neg q2] at hf
      refine lv_iload_n hx hb dL_makes_272 rfl (lv_at hl 2 rfl) ?_
      refine lv_iconst (v := 2) hx hb dL_makes_273 (by decide) ?_
      refine lv_icmp_ne (tgt := 353) hx hb dL_makes_274 (by decide) (fun q3 => ?_) (fun q3 => ?_)
      · rw [if_neg q3] at hf
        refine lv_iload_n hx hb dL_makes_353 rfl (lv_at hl 2 rfl) ?_
        refine lv_iconst (v := 3) hx hb dL_makes_354 (by decide) ?_
        obtain ⟨J5, eJ5, hf⟩ := jn_e1 hf
        have hJ5 : ∀ (σ4 : Mem) (H : Heap) (locs : List Loc) (ls : Array Slot), J5 σ4 = some (r, σr) → va_P D vwCl (wsG 54 ad (EY ad cI cJ) σ4) H → va_S (AG 54 ad s.heap.size) s.heap H locs → lv_has ls 10 [(0, .ref (ad 48)), (1, .int a0), (2, .int a1), (3, .int a2), (4, .ref (ad 51))] → W p l e R s m args below meth c H locs 0 0 Q (F0 m 464 ls []) := by
          intro σ4 H locs ls hf hP hS hl
          rw [eJ5] at hf
          refine lv_iload_n hx hb dL_makes_464 rfl (lv_at hl 1 rfl) ?_
          refine lv_iconst (v := 4) hx hb dL_makes_465 (by decide) ?_
          refine lv_icmp_ne (tgt := 525) hx hb dL_makes_466 (by decide) (fun q6 => ?_) (fun q6 => ?_)
          · rw [if_neg q6] at hf
            refine lv_iload_n hx hb dL_makes_525 rfl (lv_at hl 1 rfl) ?_
            refine lv_iconst (v := 5) hx hb dL_makes_526 (by decide) ?_
            obtain ⟨J8, eJ8, hf⟩ := jn_e1 hf
            have hJ8 : ∀ (σ7 : Mem) (H : Heap) (locs : List Loc) (ls : Array Slot), J8 σ7 = some (r, σr) → va_P D vwCl (wsG 54 ad (EY ad cI cJ) σ7) H → va_S (AG 54 ad s.heap.size) s.heap H locs → lv_has ls 10 [(0, .ref (ad 48)), (2, .int a1), (3, .int a2), (4, .ref (ad 51))] → W p l e R s m args below meth c H locs 0 0 Q (F0 m 581 ls []) := by
              intro σ7 H locs ls hf hP hS hl
              rw [eJ8] at hf
              refine lv_aload hx hb dL_makes_581 (lv_at hl 3 rfl) ?_
              refine lv_bipush (v := 8) hx hb dL_makes_583 (by decide) ?_
              obtain ⟨hin, hf⟩ := gd_e hf
              refine g_iald hx hb hK hP 51 13 (by decide) (EY_51 _) hin dL_makes_585 ?_
              refine lv_if_ne (tgt := 591) hx hb dL_makes_586 (by decide) (fun q9 => ?_) (fun q9 => ?_)
              · rw [if_neg q9] at hf
                refine lv_iload_n hx hb dL_makes_591 rfl (lv_at hl 1 rfl) ?_
                refine lv_aload hx hb dL_makes_592 (lv_at hl 3 rfl) ?_
                refine lv_bipush (v := 8) hx hb dL_makes_594 (by decide) ?_
                obtain ⟨hin, hf⟩ := gd_e hf
                refine g_iald hx hb hK hP 51 13 (by decide) (EY_51 _) hin dL_makes_596 ?_
                obtain ⟨hnz, hf⟩ := nz_e hf
                refine lv_iremJ hx hb dL_makes_597 hnz ?_
                refine lv_istore (lv' := [(6, .int (jrem a1 (σ7 51 (8 : Int32).toNatClampNeg))), (0, .ref (ad 48)), (2, .int a1), (3, .int a2), (4, .ref (ad 51))]) hx hb dL_makes_598 hl (by decide) rfl (fun ls hl => ?_)
                refine lv_iconst (v := 0) hx hb dL_makes_600 (by decide) ?_
                refine lv_istore (lv' := [(7, .int 0), (6, .int (jrem a1 (σ7 51 (8 : Int32).toNatClampNeg))), (0, .ref (ad 48)), (2, .int a1), (3, .int a2), (4, .ref (ad 51))]) hx hb dL_makes_601 hl (by decide) rfl (fun ls hl => ?_)
                refine lv_iconst (v := 0) hx hb dL_makes_603 (by decide) ?_
                refine lv_istore (lv' := [(8, .int 0), (7, .int 0), (6, .int (jrem a1 (σ7 51 (8 : Int32).toNatClampNeg))), (0, .ref (ad 48)), (2, .int a1), (3, .int a2), (4, .ref (ad 51))]) hx hb dL_makes_604 hl (by decide) rfl (fun ls hl => ?_)
                obtain ⟨K16, eK16, hf⟩ := lp_e2 (b := fun K => L_L_makes_606 FU K a1 a2 (jrem a1 (σ7 51 (8 : Int32).toNatClampNeg)) 0 0 σ7) hf
                replace hf : L_L_makes_606 FU K16 a1 a2 (jrem a1 (σ7 51 (8 : Int32).toNatClampNeg)) 0 0 σ7 = some (r, σr) := hf
                have hKK16 : ∀ (x17 : Int32) (σ18 : Mem) (H : Heap) (locs : List Loc) (ls : Array Slot), K16 x17 σ18 = some (r, σr) → va_P D vwCl (wsG 54 ad (EY ad cI cJ) σ18) H → va_S (AG 54 ad s.heap.size) s.heap H locs → lv_has ls 10 [(0, .ref (ad 48)), (2, .int a1), (3, .int a2), (4, .ref (ad 51)), (6, .int (jrem a1 (σ7 51 (8 : Int32).toNatClampNeg))), (7, .int x17)] → W p l e R s m args below meth c H locs 0 0 Q (F0 m 635 ls []) := by
                  intro x17 σ18 H locs ls hf hP hS hl
                  rw [eK16] at hf
                  refine lv_aload_n hx hb dL_makes_635 rfl (lv_at hl 0 rfl) ?_
                  refine lv_iload hx hb dL_makes_636 (lv_at hl 4 rfl) ?_
                  refine lv_iload_n hx hb dL_makes_638 rfl (lv_at hl 2 rfl) ?_
                  refine lv_iconst (v := 4) hx hb dL_makes_639 (by decide) ?_
                  refine lv_iremJ hx hb dL_makes_640 (by decide) ?_
                  refine lv_iload_n hx hb dL_makes_641 rfl (lv_at hl 1 rfl) ?_
                  refine lv_bipush (v := 8) hx hb dL_makes_642 (by decide) ?_
                  refine lv_idiv hx hb dL_makes_644 (by decide) ?_
                  refine lv_iconst (v := 4) hx hb dL_makes_645 (by decide) ?_
                  refine lv_iremJ hx hb dL_makes_646 (by decide) ?_
                  refine lv_iconst (v := 1) hx hb dL_makes_647 (by decide) ?_
                  refine lv_iload_n hx hb dL_makes_648 rfl (lv_at hl 2 rfl) ?_
                  refine lv_iconst (v := 4) hx hb dL_makes_649 (by decide) ?_
                  refine lv_idiv hx hb dL_makes_650 (by decide) ?_
                  refine lv_iconst (v := 5) hx hb dL_makes_651 (by decide) ?_
                  refine lv_iremJ hx hb dL_makes_652 (by decide) ?_
                  refine lv_iadd hx hb dL_makes_653 ?_
                  obtain ⟨v19, σ20, hv, hf⟩ := bd2_e hf
                  refine g_ti (τ := σ20) ⟨⟨hx, hb, hml, hown, hB⟩, hK, hi, hA, hAd, hP, hS⟩ hZ hN subG.rf (c_L_stages hflag hi hv) (fun _ _ => rfl) cal_L_stages kM_L_152 ⟨Nat.le_trans (Nat.le_of_ble_eq_true rfl) hRf, Nat.le_trans (Nat.le_of_ble_eq_true rfl) hRl⟩ rfl hl.1 (Nat.le_of_ble_eq_true rfl) rfl dL_makes_654 ⟨by omega, by omega⟩ (fun _ _ => rfl) (fun j hj h => absurd rfl (h j hj)) (fun H locs hP hS => ?_)
                  refine lv_istore (lv' := [(8, .int v19), (0, .ref (ad 48)), (2, .int a1), (3, .int a2), (4, .ref (ad 51)), (6, .int (jrem a1 (σ7 51 (8 : Int32).toNatClampNeg))), (7, .int x17)]) hx hb dL_makes_657 hl (by decide) rfl (fun ls hl => ?_)
                  refine lv_aload hx hb dL_makes_659 (lv_at hl 4 rfl) ?_
                  refine lv_bipush (v := 9) hx hb dL_makes_661 (by decide) ?_
                  refine lv_iload hx hb dL_makes_663 (lv_at hl 5 rfl) ?_
                  refine lv_iadd hx hb dL_makes_665 ?_
                  obtain ⟨hin, hf⟩ := gd_e hf
                  refine g_iald hx hb hK hP 51 13 (by decide) (EY_51 _) hin dL_makes_666 ?_
                  refine lv_iconst (v := 4) hx hb dL_makes_667 (by decide) ?_
                  obtain ⟨J23, eJ23, hf⟩ := jn_e2 hf
                  have hJ23 : ∀ (y22 : Int32) (σ21 : Mem) (H : Heap) (locs : List Loc) (ls : Array Slot), J23 y22 σ21 = some (r, σr) → va_P D vwCl (wsG 54 ad (EY ad cI cJ) σ21) H → va_S (AG 54 ad s.heap.size) s.heap H locs → lv_has ls 10 [(4, .ref (ad 51)), (6, .int (jrem a1 (σ7 51 (8 : Int32).toNatClampNeg))), (8, .int v19)] → W p l e R s m args below meth c H locs (0 + 1) (0 + 6 * 1) Q (F0 m 681 ls [.int y22]) := by
                    intro y22 σ21 H locs ls hf hP hS hl
                    rw [eJ23] at hf
                    refine lv_istore (lv' := [(9, .int y22), (4, .ref (ad 51)), (6, .int (jrem a1 (σ7 51 (8 : Int32).toNatClampNeg))), (8, .int v19)]) hx hb dL_makes_681 hl (by decide) rfl (fun ls hl => ?_)
                    refine lv_aload hx hb dL_makes_683 (lv_at hl 1 rfl) ?_
                    refine lv_bipush (v := 9) hx hb dL_makes_685 (by decide) ?_
                    refine lv_iload hx hb dL_makes_687 (lv_at hl 2 rfl) ?_
                    refine lv_iadd hx hb dL_makes_689 ?_
                    refine lv_dup2_11 hx hb dL_makes_690 rfl rfl ?_
                    obtain ⟨hin, hf⟩ := gd_e hf
                    refine g_iald hx hb hK hP 51 13 (by decide) (EY_51 _) hin dL_makes_691 ?_
                    refine lv_iload hx hb dL_makes_692 (lv_at hl 0 rfl) ?_
                    obtain ⟨J28, eJ28, hf⟩ := jn_e4 hf
                    have hJ28 : ∀ (y25 : Int32) (y26 : Int32) (y27 : Int32) (σ24 : Mem) (H : Heap) (locs : List Loc) (ls : Array Slot), J28 y25 y26 y27 σ24 = some (r, σr) → va_P D vwCl (wsG 54 ad (EY ad cI cJ) σ24) H → va_S (AG 54 ad s.heap.size) s.heap H locs → lv_has ls 10 [(4, .ref (ad 51)), (6, .int (jrem a1 (σ7 51 (8 : Int32).toNatClampNeg))), (8, .int v19), (9, .int y22)] → W p l e R s m args below meth c H locs (0 + 1) (0 + 6 * 1) Q (F0 m 702 ls [.int y27, .int y26, .int y25, .ref (ad 51)]) := by
                      intro y25 y26 y27 σ24 H locs ls hf hP hS hl
                      rw [eJ28] at hf
                      refine lv_iadd hx hb dL_makes_702 ?_
                      obtain ⟨hin, hf⟩ := gd_e hf
                      obtain ⟨σ29, eσ29, hf⟩ := stp_e hf
                      refine g_iast (σ1 := σ29) hx hb hK hP hi hAd hS 51 13 (by decide) EY_51 hin dL_makes_703 eσ29 (fun H locs hP hS => ?_)
                      refine lv_aload hx hb dL_makes_704 (lv_at hl 0 rfl) ?_
                      refine lv_bipush (v := 6) hx hb dL_makes_706 (by decide) ?_
                      refine lv_dup2_11 hx hb dL_makes_708 rfl rfl ?_
                      obtain ⟨hin, hf⟩ := gd_e hf
                      refine g_iald hx hb hK hP 51 13 (by decide) (EY_51 _) hin dL_makes_709 ?_
                      refine lv_iload hx hb dL_makes_710 (lv_at hl 3 rfl) ?_
                      obtain ⟨J34, eJ34, hf⟩ := jn_e4 hf
                      have hJ34 : ∀ (y31 : Int32) (y32 : Int32) (y33 : Int32) (σ30 : Mem) (H : Heap) (locs : List Loc) (ls : Array Slot), J34 y31 y32 y33 σ30 = some (r, σr) → va_P D vwCl (wsG 54 ad (EY ad cI cJ) σ30) H → va_S (AG 54 ad s.heap.size) s.heap H locs → lv_has ls 10 [(4, .ref (ad 51)), (6, .int (jrem a1 (σ7 51 (8 : Int32).toNatClampNeg))), (8, .int v19), (9, .int y22)] → W p l e R s m args below meth c H locs (0 + 1) (0 + 6 * 1) Q (F0 m 720 ls [.int y33, .int y32, .int y31, .ref (ad 51)]) := by
                        intro y31 y32 y33 σ30 H locs ls hf hP hS hl
                        rw [eJ34] at hf
                        refine lv_iadd hx hb dL_makes_720 ?_
                        obtain ⟨hin, hf⟩ := gd_e hf
                        obtain ⟨σ35, eσ35, hf⟩ := stp_e hf
                        refine g_iast (σ1 := σ35) hx hb hK hP hi hAd hS 51 13 (by decide) EY_51 hin dL_makes_721 eσ35 (fun H locs hP hS => ?_)
                        refine lv_iload hx hb dL_makes_722 (lv_at hl 2 rfl) ?_
                        refine lv_iload hx hb dL_makes_724 (lv_at hl 3 rfl) ?_
                        obtain ⟨J39, eJ39, hf⟩ := jn_e3 hf
                        have hJ39 : ∀ (y37 : Int32) (y38 : Int32) (σ36 : Mem) (H : Heap) (locs : List Loc) (ls : Array Slot), J39 y37 y38 σ36 = some (r, σr) → va_P D vwCl (wsG 54 ad (EY ad cI cJ) σ36) H → va_S (AG 54 ad s.heap.size) s.heap H locs → lv_has ls 10 [] → W p l e R s m args below meth c H locs (0 + 1) (0 + 6 * 1) Q (F0 m 742 ls [.int y38, .int y37]) := by
                          intro y37 y38 σ36 H locs ls hf hP hS hl
                          rw [eJ39] at hf
                          refine lv_icmp_ne (tgt := 749) hx hb dL_makes_742 (by decide) (fun q40 => ?_) (fun q40 => ?_)
                          · rw [if_neg q40] at hf
                            refine lv_iconst (v := 0) hx hb dL_makes_749 (by decide) ?_
                            obtain ⟨h1, h2⟩ := rt2 hf
                            refine W.widen (k := 1) (n := 6 * 1) (by omega) (by omega) ?_
                            rw [hQ]
                            exact g_yzret hx hb hr hlocks hP hS (Or.inl rfl) h1 h2 dL_makes_750
                          · rw [if_pos q40] at hf
                            refine lv_iconst (v := 1) hx hb dL_makes_745 (by decide) ?_
                            refine lv_goto (tgt := 750) hx hb dL_makes_746 (by decide) ?_
                            obtain ⟨h1, h2⟩ := rt2 hf
                            refine W.widen (k := 1) (n := 6 * 1) (by omega) (by omega) ?_
                            rw [hQ]
                            exact g_yzret hx hb hr hlocks hP hS (Or.inr rfl) h1 h2 dL_makes_750
                        refine lv_if_eq (tgt := 740) hx hb dL_makes_726 (by decide) (fun q41 => ?_) (fun q41 => ?_)
                        · rw [if_pos q41] at hf
                          refine lv_bipush (v := (-8)) hx hb dL_makes_740 (by decide) ?_
                          exact hJ39 v19 (-8) σ35 _ _ ls hf hP hS (lv_sub hl [] rfl)
                        · rw [if_neg q41] at hf
                          refine lv_aload hx hb dL_makes_729 (lv_at hl 0 rfl) ?_
                          refine lv_bipush (v := 9) hx hb dL_makes_731 (by decide) ?_
                          refine lv_iload hx hb dL_makes_733 (lv_at hl 1 rfl) ?_
                          refine lv_iadd hx hb dL_makes_735 ?_
                          obtain ⟨hin, hf⟩ := gd_e hf
                          refine g_iald hx hb hK hP 51 13 (by decide) (EY_51 _) hin dL_makes_736 ?_
                          refine lv_goto (tgt := 742) hx hb dL_makes_737 (by decide) ?_
                          exact hJ39 v19 (σ35 51 (9 + (jrem a1 (σ7 51 (8 : Int32).toNatClampNeg))).toNatClampNeg) σ35 _ _ ls hf hP hS (lv_sub hl [] rfl)
                      refine lv_if_eq (tgt := 719) hx hb dL_makes_712 (by decide) (fun q42 => ?_) (fun q42 => ?_)
                      · rw [if_pos q42] at hf
                        refine lv_iconst (v := 0) hx hb dL_makes_719 (by decide) ?_
                        exact hJ34 6 (σ29 51 (6 : Int32).toNatClampNeg) 0 σ29 _ _ ls hf hP hS (lv_sub hl [0, 1, 2, 3] rfl)
                      · rw [if_neg q42] at hf
                        refine lv_iconst (v := 1) hx hb dL_makes_715 (by decide) ?_
                        refine lv_goto (tgt := 720) hx hb dL_makes_716 (by decide) ?_
                        exact hJ34 6 (σ29 51 (6 : Int32).toNatClampNeg) 1 σ29 _ _ ls hf hP hS (lv_sub hl [0, 1, 2, 3] rfl)
                    refine lv_if_eq (tgt := 701) hx hb dL_makes_694 (by decide) (fun q43 => ?_) (fun q43 => ?_)
                    · rw [if_pos q43] at hf
                      refine lv_iconst (v := 0) hx hb dL_makes_701 (by decide) ?_
                      exact hJ28 (9 + (jrem a1 (σ7 51 (8 : Int32).toNatClampNeg))) (σ21 51 (9 + (jrem a1 (σ7 51 (8 : Int32).toNatClampNeg))).toNatClampNeg) 0 σ21 _ _ ls hf hP hS (lv_sub hl [1, 2, 3, 0] rfl)
                    · rw [if_neg q43] at hf
                      refine lv_iconst (v := 1) hx hb dL_makes_697 (by decide) ?_
                      refine lv_goto (tgt := 702) hx hb dL_makes_698 (by decide) ?_
                      exact hJ28 (9 + (jrem a1 (σ7 51 (8 : Int32).toNatClampNeg))) (σ21 51 (9 + (jrem a1 (σ7 51 (8 : Int32).toNatClampNeg))).toNatClampNeg) 1 σ21 _ _ ls hf hP hS (lv_sub hl [1, 2, 3, 0] rfl)
                  obtain ⟨J45, eJ45, hf⟩ := jn_e1 hf
                  have hJ45 : ∀ (σ44 : Mem) (H : Heap) (locs : List Loc) (ls : Array Slot), J45 σ44 = some (r, σr) → va_P D vwCl (wsG 54 ad (EY ad cI cJ) σ44) H → va_S (AG 54 ad s.heap.size) s.heap H locs → lv_has ls 10 [(4, .ref (ad 51)), (6, .int (jrem a1 (σ7 51 (8 : Int32).toNatClampNeg))), (8, .int v19)] → W p l e R s m args below meth c H locs (0 + 1) (0 + 6 * 1) Q (F0 m 680 ls []) := by
                    intro σ44 H locs ls hf hP hS hl
                    rw [eJ45] at hf
                    refine lv_iconst (v := 0) hx hb dL_makes_680 (by decide) ?_
                    exact hJ23 0 σ44 _ _ ls hf hP hS (lv_sub hl [0, 1, 2] rfl)
                  refine lv_icmp_ge (tgt := 680) hx hb dL_makes_668 (by decide) (fun q46 => ?_) (fun q46 => ?_)
                  · rw [if_pos q46] at hf
                    exact hJ45 σ20 _ _ ls hf hP hS (lv_sub hl [4, 5, 0] rfl)
                  · rw [if_neg q46] at hf
                    refine lv_iload hx hb dL_makes_671 (lv_at hl 6 rfl) ?_
                    refine lv_if_ne (tgt := 680) hx hb dL_makes_673 (by decide) (fun q47 => ?_) (fun q47 => ?_)
                    · rw [if_neg q47] at hf
                      exact hJ45 σ20 _ _ ls hf hP hS (lv_sub hl [4, 5, 0] rfl)
                    · rw [if_pos q47] at hf
                      refine lv_iconst (v := 1) hx hb dL_makes_676 (by decide) ?_
                      refine lv_goto (tgt := 681) hx hb dL_makes_677 (by decide) ?_
                      exact hJ23 1 σ20 _ _ ls hf hP hS (lv_sub hl [4, 5, 0] rfl)
                have hL_L_makes_606 : ∀ (n : Nat) (x13 : Int32) (x14 : Int32) (σ15 : Mem) (H : Heap) (locs : List Loc) (ls : Array Slot), L_L_makes_606 n K16 a1 a2 (jrem a1 (σ7 51 (8 : Int32).toNatClampNeg)) x13 x14 σ15 = some (r, σr) → va_P D vwCl (wsG 54 ad (EY ad cI cJ) σ15) H → va_S (AG 54 ad s.heap.size) s.heap H locs → lv_has ls 10 [(0, .ref (ad 48)), (2, .int a1), (3, .int a2), (4, .ref (ad 51)), (6, .int (jrem a1 (σ7 51 (8 : Int32).toNatClampNeg))), (7, .int x13), (8, .int x14)] → W p l e R s m args below meth c H locs 0 0 Q (F0 m 606 ls []) := by
                  intro n
                  induction n with
                  | zero => intro x13 x14 σ15 H locs ls hf; cases hf
                  | succ n ih =>
                    intro x13 x14 σ15 H locs ls hf hP hS hl
                    rw [L_L_makes_606] at hf
                    refine lv_iload hx hb dL_makes_606 (lv_at hl 6 rfl) ?_
                    refine lv_aload hx hb dL_makes_608 (lv_at hl 3 rfl) ?_
                    refine lv_bipush (v := 7) hx hb dL_makes_610 (by decide) ?_
                    obtain ⟨hin, hf⟩ := gd_e hf
                    refine g_iald hx hb hK hP 51 13 (by decide) (EY_51 _) hin dL_makes_612 ?_
                    refine lv_icmp_ge (tgt := 635) hx hb dL_makes_613 (by decide) (fun q48 => ?_) (fun q48 => ?_)
                    · rw [if_pos q48] at hf
                      exact hKK16 x13 σ15 _ _ ls hf hP hS (lv_sub hl [0, 1, 2, 3, 4, 5] rfl)
                    · rw [if_neg q48] at hf
                      refine lv_iload hx hb dL_makes_616 (lv_at hl 5 rfl) ?_
                      refine lv_aload_n hx hb dL_makes_618 rfl (lv_at hl 0 rfl) ?_
                      refine lv_iload hx hb dL_makes_619 (lv_at hl 6 rfl) ?_
                      refine lv_iload hx hb dL_makes_621 (lv_at hl 4 rfl) ?_
                      rcases bt_e hf with ⟨v49, hv, hf⟩ | ⟨n50, v49, hn, hv, hf⟩
                      · refine g_yVi (τ := σ15) ⟨⟨hx, hb, hml, hown, hB⟩, hK, hi, hA, hAd, hP, hS⟩ hZ sub_YX (c_X5_stageOf hflag (injS (by decide) hi) hv) (fun _ _ => rfl) cal_X5_stageOf kM_L_81 ⟨Nat.le_trans (Nat.le_of_ble_eq_true rfl) hRf, Nat.le_trans (Nat.le_of_ble_eq_true rfl) hRl⟩ 48 (by decide) rfl rfl rfl rfl hl.1 (Nat.le_of_ble_eq_true rfl) rfl dL_makes_623 ⟨by omega, by omega⟩ (fun _ _ => rfl) (fun _ _ _ => rfl) (fun H locs hP hS => ?_)
                        refine lv_iadd hx hb dL_makes_626 ?_
                        refine lv_istore (lv' := [(7, .int (x13 + v49)), (0, .ref (ad 48)), (2, .int a1), (3, .int a2), (4, .ref (ad 51)), (6, .int (jrem a1 (σ7 51 (8 : Int32).toNatClampNeg))), (8, .int x14)]) hx hb dL_makes_627 hl (by decide) rfl (fun ls hl => ?_)
                        refine lv_iinc (v := (x14 + 1)) (lv' := [(8, .int (x14 + 1)), (7, .int (x13 + v49)), (0, .ref (ad 48)), (2, .int a1), (3, .int a2), (4, .ref (ad 51)), (6, .int (jrem a1 (σ7 51 (8 : Int32).toNatClampNeg)))]) hx hb dL_makes_629 hl (k := 6) rfl rfl (by decide) rfl (fun ls hl => ?_)
                        refine lv_goto (tgt := 606) hx hb dL_makes_632 (by decide) ?_
                        exact ih (x13 + v49) (x14 + 1) σ15 _ _ ls hf hP hS (lv_sub hl [2, 3, 4, 5, 6, 1, 0] rfl)
                      · cases hf
                exact hL_L_makes_606 FU 0 0 σ7 _ _ ls hf hP hS (lv_sub hl [3, 4, 5, 6, 2, 1, 0] rfl)
              · rw [if_pos q9] at hf
                refine lv_iconst (v := 1) hx hb dL_makes_589 (by decide) ?_
                obtain ⟨h1, h2⟩ := rt2 hf
                refine W.widen (k := 1) (n := 6 * 1) (by omega) (by omega) ?_
                rw [hQ]
                exact g_yzret hx hb hr hlocks hP hS (Or.inr rfl) h1 h2 dL_makes_590
            refine lv_icmp_ne (tgt := 581) hx hb dL_makes_527 (by decide) (fun q51 => ?_) (fun q51 => ?_)
            · rw [if_neg q51] at hf
              exact hJ8 σ4 _ _ ls hf hP hS (lv_sub hl [0, 2, 3, 4] rfl)
            · rw [if_pos q51] at hf
              refine lv_aload hx hb dL_makes_530 (lv_at hl 4 rfl) ?_
              refine lv_bipush (v := 8) hx hb dL_makes_532 (by decide) ?_
              obtain ⟨hin, hf⟩ := gd_e hf
              refine g_iald hx hb hK hP 51 13 (by decide) (EY_51 _) hin dL_makes_534 ?_
              refine lv_iconst (v := 3) hx hb dL_makes_535 (by decide) ?_
              refine lv_icmp_ge (tgt := 581) hx hb dL_makes_536 (by decide) (fun q52 => ?_) (fun q52 => ?_)
              · rw [if_pos q52] at hf
                exact hJ8 σ4 _ _ ls hf hP hS (lv_sub hl [0, 2, 3, 4] rfl)
              · rw [if_neg q52] at hf
                refine lv_aload hx hb dL_makes_539 (lv_at hl 4 rfl) ?_
                refine lv_bipush (v := 8) hx hb dL_makes_541 (by decide) ?_
                refine lv_dup2_11 hx hb dL_makes_543 rfl rfl ?_
                obtain ⟨hin, hf⟩ := gd_e hf
                refine g_iald hx hb hK hP 51 13 (by decide) (EY_51 _) hin dL_makes_544 ?_
                refine lv_iconst (v := 1) hx hb dL_makes_545 (by decide) ?_
                refine lv_iadd hx hb dL_makes_546 ?_
                obtain ⟨hin, hf⟩ := gd_e hf
                obtain ⟨σ53, eσ53, hf⟩ := stp_e hf
                refine g_iast (σ1 := σ53) hx hb hK hP hi hAd hS 51 13 (by decide) EY_51 hin dL_makes_547 eσ53 (fun H locs hP hS => ?_)
                refine lv_aload hx hb dL_makes_548 (lv_at hl 4 rfl) ?_
                refine lv_bipush (v := 6) hx hb dL_makes_550 (by decide) ?_
                refine lv_dup2_11 hx hb dL_makes_552 rfl rfl ?_
                obtain ⟨hin, hf⟩ := gd_e hf
                refine g_iald hx hb hK hP 51 13 (by decide) (EY_51 _) hin dL_makes_553 ?_
                refine lv_iconst (v := 1) hx hb dL_makes_554 (by decide) ?_
                refine lv_iadd hx hb dL_makes_555 ?_
                obtain ⟨hin, hf⟩ := gd_e hf
                obtain ⟨σ54, eσ54, hf⟩ := stp_e hf
                refine g_iast (σ1 := σ54) hx hb hK hP hi hAd hS 51 13 (by decide) EY_51 hin dL_makes_556 eσ54 (fun H locs hP hS => ?_)
                refine lv_aload_n hx hb dL_makes_557 rfl (lv_at hl 0 rfl) ?_
                refine lv_iload_n hx hb dL_makes_558 rfl (lv_at hl 3 rfl) ?_
                refine lv_bipush (v := 101) hx hb dL_makes_559 (by decide) ?_
                refine lv_iremJ hx hb dL_makes_561 (by decide) ?_
                rcases bt3_e hf with ⟨v55, σ56, hv, hf⟩ | ⟨n57, σ56, hn, ⟨_, hv⟩, hf⟩
                · refine g_yVi (τ := (mgY σ56 σ54)) ⟨⟨hx, hb, hml, hown, hB⟩, hK, hi, hA, hAd, hP, hS⟩ hZ sub_YX (c_X5_quest hflag (injS (by decide) hi) hv) (fun _ _ => rfl) cal_X5_quest kM_L_149 ⟨Nat.le_trans (Nat.le_of_ble_eq_true rfl) hRf, Nat.le_trans (Nat.le_of_ble_eq_true rfl) hRl⟩ 48 (by decide) rfl rfl rfl rfl hl.1 (Nat.le_of_ble_eq_true rfl) rfl dL_makes_562 ⟨by omega, by omega⟩ (mgY_1 _ _) (mgY_2 54 _ _) (fun H locs hP hS => ?_)
                  obtain ⟨σ58, eσ58, hf⟩ := stp_e hf
                  rw [← eσ58] at hP
                  refine lv_aload hx hb dL_makes_565 (lv_at hl 4 rfl) ?_
                  refine lv_bipush (v := 8) hx hb dL_makes_567 (by decide) ?_
                  obtain ⟨hin, hf⟩ := gd_e hf
                  refine g_iald hx hb hK hP 51 13 (by decide) (EY_51 _) hin dL_makes_569 ?_
                  refine lv_iconst (v := 1) hx hb dL_makes_570 (by decide) ?_
                  refine lv_isub hx hb dL_makes_571 ?_
                  refine lv_icmp_ne (tgt := 579) hx hb dL_makes_572 (by decide) (fun q59 => ?_) (fun q59 => ?_)
                  · rw [if_neg q59] at hf
                    refine lv_iconst (v := 0) hx hb dL_makes_579 (by decide) ?_
                    obtain ⟨h1, h2⟩ := rt2 hf
                    refine W.widen (k := 1) (n := 6 * 1) (by omega) (by omega) ?_
                    rw [hQ]
                    exact g_yzret hx hb hr hlocks hP hS (Or.inl rfl) h1 h2 dL_makes_580
                  · rw [if_pos q59] at hf
                    refine lv_iconst (v := 1) hx hb dL_makes_575 (by decide) ?_
                    refine lv_goto (tgt := 580) hx hb dL_makes_576 (by decide) ?_
                    obtain ⟨h1, h2⟩ := rt2 hf
                    refine W.widen (k := 1) (n := 6 * 1) (by omega) (by omega) ?_
                    rw [hQ]
                    exact g_yzret hx hb hr hlocks hP hS (Or.inr rfl) h1 h2 dL_makes_580
                · cases hf
          · rw [if_pos q6] at hf
            refine lv_aload_n hx hb dL_makes_469 rfl (lv_at hl 0 rfl) ?_
            obtain ⟨v60, hv, hf⟩ := bd_e hf
            refine g_cVi (τ := σ4) ⟨⟨hx, hb, hml, hown, hB⟩, hK, hi, hA, hAd, hP, hS⟩ sub_YX (c_X5_purse (injS (by decide) hi) hv) (fun _ _ => rfl) cal_X5_purse kM_L_63 ⟨Nat.le_trans (Nat.le_of_ble_eq_true rfl) hRf, Nat.le_trans (Nat.le_of_ble_eq_true rfl) hRl⟩ 48 (by decide) rfl rfl rfl rfl hl.1 (Nat.le_of_ble_eq_true rfl) rfl dL_makes_470 ⟨by omega, by omega⟩ (fun _ _ => rfl) (fun _ _ _ => rfl) (fun H locs hP hS => ?_)
            refine lv_istore (lv' := [(6, .int v60), (0, .ref (ad 48)), (1, .int a0), (2, .int a1), (3, .int a2), (4, .ref (ad 51))]) hx hb dL_makes_473 hl (by decide) rfl (fun ls hl => ?_)
            refine lv_aload hx hb dL_makes_475 (lv_at hl 5 rfl) ?_
            refine lv_iconst (v := 0) hx hb dL_makes_477 (by decide) ?_
            refine lv_dup2_11 hx hb dL_makes_478 rfl rfl ?_
            obtain ⟨hin, hf⟩ := gd_e hf
            refine g_iald hx hb hK hP 51 13 (by decide) (EY_51 _) hin dL_makes_479 ?_
            refine lv_iconst (v := 1) hx hb dL_makes_480 (by decide) ?_
            refine lv_iload_n hx hb dL_makes_481 rfl (lv_at hl 4 rfl) ?_
            refine lv_bipush (v := 90) hx hb dL_makes_482 (by decide) ?_
            refine lv_iremJ hx hb dL_makes_484 (by decide) ?_
            refine lv_iadd hx hb dL_makes_485 ?_
            refine lv_iadd hx hb dL_makes_486 ?_
            obtain ⟨hin, hf⟩ := gd_e hf
            obtain ⟨σ61, eσ61, hf⟩ := stp_e hf
            refine g_iast (σ1 := σ61) hx hb hK hP hi hAd hS 51 13 (by decide) EY_51 hin dL_makes_487 eσ61 (fun H locs hP hS => ?_)
            refine lv_aload hx hb dL_makes_488 (lv_at hl 5 rfl) ?_
            refine lv_bipush (v := 6) hx hb dL_makes_490 (by decide) ?_
            refine lv_dup2_11 hx hb dL_makes_492 rfl rfl ?_
            obtain ⟨hin, hf⟩ := gd_e hf
            refine g_iald hx hb hK hP 51 13 (by decide) (EY_51 _) hin dL_makes_493 ?_
            refine lv_iconst (v := 1) hx hb dL_makes_494 (by decide) ?_
            refine lv_iadd hx hb dL_makes_495 ?_
            obtain ⟨hin, hf⟩ := gd_e hf
            obtain ⟨σ62, eσ62, hf⟩ := stp_e hf
            refine g_iast (σ1 := σ62) hx hb hK hP hi hAd hS 51 13 (by decide) EY_51 hin dL_makes_496 eσ62 (fun H locs hP hS => ?_)
            refine lv_aload_n hx hb dL_makes_497 rfl (lv_at hl 1 rfl) ?_
            refine lv_iconst (v := 1) hx hb dL_makes_498 (by decide) ?_
            refine lv_iload_n hx hb dL_makes_499 rfl (lv_at hl 4 rfl) ?_
            refine lv_bipush (v := 90) hx hb dL_makes_500 (by decide) ?_
            refine lv_iremJ hx hb dL_makes_502 (by decide) ?_
            refine lv_iadd hx hb dL_makes_503 ?_
            rcases bt3_e hf with ⟨v63, σ64, hv, hf⟩ | ⟨n65, σ64, hn, ⟨_, hv⟩, hf⟩
            · refine g_yVi (τ := (mgY σ64 σ62)) ⟨⟨hx, hb, hml, hown, hB⟩, hK, hi, hA, hAd, hP, hS⟩ hZ sub_YX (c_X5_endow hflag (injS (by decide) hi) hv) (fun _ _ => rfl) cal_X5_endow kM_L_146 ⟨Nat.le_trans (Nat.le_of_ble_eq_true rfl) hRf, Nat.le_trans (Nat.le_of_ble_eq_true rfl) hRl⟩ 48 (by decide) rfl rfl rfl rfl hl.1 (Nat.le_of_ble_eq_true rfl) rfl dL_makes_504 ⟨by omega, by omega⟩ (mgY_1 _ _) (mgY_2 54 _ _) (fun H locs hP hS => ?_)
              obtain ⟨σ66, eσ66, hf⟩ := stp_e hf
              rw [← eσ66] at hP
              refine lv_iload hx hb dL_makes_507 (lv_at hl 0 rfl) ?_
              refine lv_iconst (v := 1) hx hb dL_makes_509 (by decide) ?_
              refine lv_iadd hx hb dL_makes_510 ?_
              refine lv_iload_n hx hb dL_makes_511 rfl (lv_at hl 4 rfl) ?_
              refine lv_bipush (v := 90) hx hb dL_makes_512 (by decide) ?_
              refine lv_iremJ hx hb dL_makes_514 (by decide) ?_
              refine lv_iadd hx hb dL_makes_515 ?_
              refine lv_icmp_ne (tgt := 523) hx hb dL_makes_516 (by decide) (fun q67 => ?_) (fun q67 => ?_)
              · rw [if_neg q67] at hf
                refine lv_iconst (v := 0) hx hb dL_makes_523 (by decide) ?_
                obtain ⟨h1, h2⟩ := rt2 hf
                refine W.widen (k := 1) (n := 6 * 1) (by omega) (by omega) ?_
                rw [hQ]
                exact g_yzret hx hb hr hlocks hP hS (Or.inl rfl) h1 h2 dL_makes_524
              · rw [if_pos q67] at hf
                refine lv_iconst (v := 1) hx hb dL_makes_519 (by decide) ?_
                refine lv_goto (tgt := 524) hx hb dL_makes_520 (by decide) ?_
                obtain ⟨h1, h2⟩ := rt2 hf
                refine W.widen (k := 1) (n := 6 * 1) (by omega) (by omega) ?_
                rw [hQ]
                exact g_yzret hx hb hr hlocks hP hS (Or.inr rfl) h1 h2 dL_makes_524
            · cases hf
        refine lv_icmp_ne (tgt := 464) hx hb dL_makes_355 (by decide) (fun q68 => ?_) (fun q68 => ?_)
        · rw [if_neg q68] at hf
          exact hJ5 σ _ _ ls hf hP hS (lv_sub hl [1, 2, 3, 4, 5] rfl)
        · rw [if_pos q68] at hf
          refine lv_aload hx hb dL_makes_358 (lv_at hl 5 rfl) ?_
          refine lv_bipush (v := 7) hx hb dL_makes_360 (by decide) ?_
          obtain ⟨hin, hf⟩ := gd_e hf
          refine g_iald hx hb hK hP 51 13 (by decide) (EY_51 _) hin dL_makes_362 ?_
          refine lv_iconst (v := 4) hx hb dL_makes_363 (by decide) ?_
          refine lv_icmp_ge (tgt := 464) hx hb dL_makes_364 (by decide) (fun q69 => ?_) (fun q69 => ?_)
          · rw [if_pos q69] at hf
            exact hJ5 σ _ _ ls hf hP hS (lv_sub hl [1, 2, 3, 4, 5] rfl)
          · rw [if_neg q69] at hf
            refine lv_aload hx hb dL_makes_367 (lv_at hl 5 rfl) ?_
            refine lv_bipush (v := 7) hx hb dL_makes_369 (by decide) ?_
            refine lv_dup2_11 hx hb dL_makes_371 rfl rfl ?_
            obtain ⟨hin, hf⟩ := gd_e hf
            refine g_iald hx hb hK hP 51 13 (by decide) (EY_51 _) hin dL_makes_372 ?_
            refine lv_iconst (v := 1) hx hb dL_makes_373 (by decide) ?_
            refine lv_iadd hx hb dL_makes_374 ?_
            obtain ⟨hin, hf⟩ := gd_e hf
            obtain ⟨σ70, eσ70, hf⟩ := stp_e hf
            refine g_iast (σ1 := σ70) hx hb hK hP hi hAd hS 51 13 (by decide) EY_51 hin dL_makes_375 eσ70 (fun H locs hP hS => ?_)
            refine lv_aload hx hb dL_makes_376 (lv_at hl 5 rfl) ?_
            refine lv_iconst (v := 0) hx hb dL_makes_378 (by decide) ?_
            refine lv_dup2_11 hx hb dL_makes_379 rfl rfl ?_
            obtain ⟨hin, hf⟩ := gd_e hf
            refine g_iald hx hb hK hP 51 13 (by decide) (EY_51 _) hin dL_makes_380 ?_
            refine lv_iload_n hx hb dL_makes_381 rfl (lv_at hl 3 rfl) ?_
            refine lv_bipush (v := 8) hx hb dL_makes_382 (by decide) ?_
            refine lv_idiv hx hb dL_makes_384 (by decide) ?_
            refine lv_sipush (v := 201) hx hb dL_makes_385 (by decide) ?_
            refine lv_iremJ hx hb dL_makes_388 (by decide) ?_
            refine lv_iadd hx hb dL_makes_389 ?_
            obtain ⟨hin, hf⟩ := gd_e hf
            obtain ⟨σ71, eσ71, hf⟩ := stp_e hf
            refine g_iast (σ1 := σ71) hx hb hK hP hi hAd hS 51 13 (by decide) EY_51 hin dL_makes_390 eσ71 (fun H locs hP hS => ?_)
            refine lv_aload hx hb dL_makes_391 (lv_at hl 5 rfl) ?_
            refine lv_bipush (v := 6) hx hb dL_makes_393 (by decide) ?_
            refine lv_dup2_11 hx hb dL_makes_395 rfl rfl ?_
            obtain ⟨hin, hf⟩ := gd_e hf
            refine g_iald hx hb hK hP 51 13 (by decide) (EY_51 _) hin dL_makes_396 ?_
            refine lv_iconst (v := 1) hx hb dL_makes_397 (by decide) ?_
            refine lv_iadd hx hb dL_makes_398 ?_
            obtain ⟨hin, hf⟩ := gd_e hf
            obtain ⟨σ72, eσ72, hf⟩ := stp_e hf
            refine g_iast (σ1 := σ72) hx hb hK hP hi hAd hS 51 13 (by decide) EY_51 hin dL_makes_399 eσ72 (fun H locs hP hS => ?_)
            refine lv_aload_n hx hb dL_makes_400 rfl (lv_at hl 1 rfl) ?_
            refine lv_iload hx hb dL_makes_401 (lv_at hl 0 rfl) ?_
            refine lv_iload_n hx hb dL_makes_403 rfl (lv_at hl 3 rfl) ?_
            refine lv_bipush (v := 8) hx hb dL_makes_404 (by decide) ?_
            refine lv_idiv hx hb dL_makes_406 (by decide) ?_
            refine lv_sipush (v := 201) hx hb dL_makes_407 (by decide) ?_
            refine lv_iremJ hx hb dL_makes_410 (by decide) ?_
            refine lv_iload_n hx hb dL_makes_411 rfl (lv_at hl 4 rfl) ?_
            refine lv_bipush (v := 7) hx hb dL_makes_412 (by decide) ?_
            refine lv_iremJ hx hb dL_makes_414 (by decide) ?_
            rcases bt3_e hf with ⟨v73, σ74, hv, hf⟩ | ⟨n75, σ74, hn, ⟨_, hv⟩, hf⟩
            · refine g_yVi (τ := (mgY σ74 σ72)) ⟨⟨hx, hb, hml, hown, hB⟩, hK, hi, hA, hAd, hP, hS⟩ hZ sub_YX (c_X5_join hflag (injS (by decide) hi) hv) (fun _ _ => rfl) cal_X5_join kM_L_143 ⟨Nat.le_trans (Nat.le_of_ble_eq_true rfl) hRf, Nat.le_trans (Nat.le_of_ble_eq_true rfl) hRl⟩ 48 (by decide) rfl rfl rfl rfl hl.1 (Nat.le_of_ble_eq_true rfl) rfl dL_makes_415 ⟨by omega, by omega⟩ (mgY_1 _ _) (mgY_2 54 _ _) (fun H locs hP hS => ?_)
              obtain ⟨σ76, eσ76, hf⟩ := stp_e hf
              rw [← eσ76] at hP
              refine lv_aload hx hb dL_makes_418 (lv_at hl 5 rfl) ?_
              refine lv_bipush (v := 7) hx hb dL_makes_420 (by decide) ?_
              obtain ⟨hin, hf⟩ := gd_e hf
              refine g_iald hx hb hK hP 51 13 (by decide) (EY_51 _) hin dL_makes_422 ?_
              refine lv_iconst (v := 1) hx hb dL_makes_423 (by decide) ?_
              refine lv_isub hx hb dL_makes_424 ?_
              refine lv_icmp_ne (tgt := 462) hx hb dL_makes_425 (by decide) (fun q77 => ?_) (fun q77 => ?_)
              · rw [if_neg q77] at hf
                refine lv_iconst (v := 0) hx hb dL_makes_462 (by decide) ?_
                obtain ⟨h1, h2⟩ := rt2 hf
                refine W.widen (k := 1) (n := 6 * 1) (by omega) (by omega) ?_
                rw [hQ]
                exact g_yzret hx hb hr hlocks hP hS (Or.inl rfl) h1 h2 dL_makes_463
              · rw [if_pos q77] at hf
                refine lv_aload_n hx hb dL_makes_428 rfl (lv_at hl 1 rfl) ?_
                refine lv_aload hx hb dL_makes_429 (lv_at hl 5 rfl) ?_
                refine lv_bipush (v := 7) hx hb dL_makes_431 (by decide) ?_
                obtain ⟨hin, hf⟩ := gd_e hf
                refine g_iald hx hb hK hP 51 13 (by decide) (EY_51 _) hin dL_makes_433 ?_
                refine lv_iconst (v := 1) hx hb dL_makes_434 (by decide) ?_
                refine lv_isub hx hb dL_makes_435 ?_
                rcases bt_e hf with ⟨v78, hv, hf⟩ | ⟨n79, v78, hn, hv, hf⟩
                · refine g_yVi (τ := σ76) ⟨⟨hx, hb, hml, hown, hB⟩, hK, hi, hA, hAd, hP, hS⟩ hZ sub_YX (c_X5_healthOf hflag (injS (by decide) hi) hv) (fun _ _ => rfl) cal_X5_healthOf kM_L_75 ⟨Nat.le_trans (Nat.le_of_ble_eq_true rfl) hRf, Nat.le_trans (Nat.le_of_ble_eq_true rfl) hRl⟩ 48 (by decide) rfl rfl rfl rfl hl.1 (Nat.le_of_ble_eq_true rfl) rfl dL_makes_436 ⟨by omega, by omega⟩ (fun _ _ => rfl) (fun _ _ _ => rfl) (fun H locs hP hS => ?_)
                  refine lv_bipush (v := 20) hx hb dL_makes_439 (by decide) ?_
                  refine lv_icmp_ne (tgt := 462) hx hb dL_makes_441 (by decide) (fun q80 => ?_) (fun q80 => ?_)
                  · rw [if_neg q80] at hf
                    refine lv_iconst (v := 0) hx hb dL_makes_462 (by decide) ?_
                    obtain ⟨h1, h2⟩ := rt2 hf
                    refine W.widen (k := 1) (n := 6 * 1) (by omega) (by omega) ?_
                    rw [hQ]
                    exact g_yzret hx hb hr hlocks hP hS (Or.inl rfl) h1 h2 dL_makes_463
                  · rw [if_pos q80] at hf
                    refine lv_aload_n hx hb dL_makes_444 rfl (lv_at hl 1 rfl) ?_
                    refine lv_aload hx hb dL_makes_445 (lv_at hl 5 rfl) ?_
                    refine lv_bipush (v := 7) hx hb dL_makes_447 (by decide) ?_
                    obtain ⟨hin, hf⟩ := gd_e hf
                    refine g_iald hx hb hK hP 51 13 (by decide) (EY_51 _) hin dL_makes_449 ?_
                    refine lv_iconst (v := 1) hx hb dL_makes_450 (by decide) ?_
                    refine lv_isub hx hb dL_makes_451 ?_
                    rcases bt_e hf with ⟨v81, hv, hf⟩ | ⟨n82, v81, hn, hv, hf⟩
                    · refine g_yVi (τ := σ76) ⟨⟨hx, hb, hml, hown, hB⟩, hK, hi, hA, hAd, hP, hS⟩ hZ sub_YX (c_X5_readyAt hflag (injS (by decide) hi) hv) (fun _ _ => rfl) cal_X5_readyAt kM_L_72 ⟨Nat.le_trans (Nat.le_of_ble_eq_true rfl) hRf, Nat.le_trans (Nat.le_of_ble_eq_true rfl) hRl⟩ 48 (by decide) rfl rfl rfl rfl hl.1 (Nat.le_of_ble_eq_true rfl) rfl dL_makes_452 ⟨by omega, by omega⟩ (fun _ _ => rfl) (fun _ _ _ => rfl) (fun H locs hP hS => ?_)
                      refine lv_if_ne (tgt := 462) hx hb dL_makes_455 (by decide) (fun q83 => ?_) (fun q83 => ?_)
                      · rw [if_neg q83] at hf
                        refine lv_iconst (v := 0) hx hb dL_makes_462 (by decide) ?_
                        obtain ⟨h1, h2⟩ := rt2 hf
                        refine W.widen (k := 1) (n := 6 * 1) (by omega) (by omega) ?_
                        rw [hQ]
                        exact g_yzret hx hb hr hlocks hP hS (Or.inl rfl) h1 h2 dL_makes_463
                      · rw [if_pos q83] at hf
                        refine lv_iconst (v := 1) hx hb dL_makes_458 (by decide) ?_
                        refine lv_goto (tgt := 463) hx hb dL_makes_459 (by decide) ?_
                        obtain ⟨h1, h2⟩ := rt2 hf
                        refine W.widen (k := 1) (n := 6 * 1) (by omega) (by omega) ?_
                        rw [hQ]
                        exact g_yzret hx hb hr hlocks hP hS (Or.inr rfl) h1 h2 dL_makes_463
                    · cases hf
                · cases hf
            · cases hf
      · rw [if_pos q3] at hf
        refine lv_aload_n hx hb dL_makes_277 rfl (lv_at hl 1 rfl) ?_
        refine lv_iload hx hb dL_makes_278 (lv_at hl 0 rfl) ?_
        refine lv_iload_n hx hb dL_makes_280 rfl (lv_at hl 4 rfl) ?_
        refine lv_iconst (v := 5) hx hb dL_makes_281 (by decide) ?_
        refine lv_iremJ hx hb dL_makes_282 (by decide) ?_
        rcases bt_e hf with ⟨v84, hv, hf⟩ | ⟨n85, v84, hn, hv, hf⟩
        · refine g_yVi (τ := σ) ⟨⟨hx, hb, hml, hown, hB⟩, hK, hi, hA, hAd, hP, hS⟩ hZ sub_YX (c_X5_onFloor hflag (injS (by decide) hi) hv) (fun _ _ => rfl) cal_X5_onFloor kM_L_87 ⟨Nat.le_trans (Nat.le_of_ble_eq_true rfl) hRf, Nat.le_trans (Nat.le_of_ble_eq_true rfl) hRl⟩ 48 (by decide) rfl rfl rfl rfl hl.1 (Nat.le_of_ble_eq_true rfl) rfl dL_makes_283 ⟨by omega, by omega⟩ (fun _ _ => rfl) (fun _ _ _ => rfl) (fun H locs hP hS => ?_)
          refine lv_istore (lv' := [(6, .int v84), (5, .int (jrem a1 8)), (0, .ref (ad 48)), (1, .int a0), (2, .int a1), (3, .int a2), (4, .ref (ad 51))]) hx hb dL_makes_286 hl (by decide) rfl (fun ls hl => ?_)
          refine lv_aload hx hb dL_makes_288 (lv_at hl 6 rfl) ?_
          refine lv_iconst (v := 1) hx hb dL_makes_290 (by decide) ?_
          refine lv_iload_n hx hb dL_makes_291 rfl (lv_at hl 5 rfl) ?_
          refine lv_iconst (v := 5) hx hb dL_makes_292 (by decide) ?_
          refine lv_iremJ hx hb dL_makes_293 (by decide) ?_
          refine lv_iadd hx hb dL_makes_294 ?_
          refine lv_dup2_11 hx hb dL_makes_295 rfl rfl ?_
          obtain ⟨hin, hf⟩ := gd_e hf
          refine g_iald hx hb hK hP 51 13 (by decide) (EY_51 _) hin dL_makes_296 ?_
          refine lv_iconst (v := 1) hx hb dL_makes_297 (by decide) ?_
          refine lv_iload_n hx hb dL_makes_298 rfl (lv_at hl 5 rfl) ?_
          refine lv_iconst (v := 5) hx hb dL_makes_299 (by decide) ?_
          refine lv_idiv hx hb dL_makes_300 (by decide) ?_
          refine lv_bipush (v := 9) hx hb dL_makes_301 (by decide) ?_
          refine lv_iremJ hx hb dL_makes_303 (by decide) ?_
          refine lv_iadd hx hb dL_makes_304 ?_
          refine lv_iadd hx hb dL_makes_305 ?_
          obtain ⟨hin, hf⟩ := gd_e hf
          obtain ⟨σ86, eσ86, hf⟩ := stp_e hf
          refine g_iast (σ1 := σ86) hx hb hK hP hi hAd hS 51 13 (by decide) EY_51 hin dL_makes_306 eσ86 (fun H locs hP hS => ?_)
          refine lv_aload hx hb dL_makes_307 (lv_at hl 6 rfl) ?_
          refine lv_bipush (v := 6) hx hb dL_makes_309 (by decide) ?_
          refine lv_dup2_11 hx hb dL_makes_311 rfl rfl ?_
          obtain ⟨hin, hf⟩ := gd_e hf
          refine g_iald hx hb hK hP 51 13 (by decide) (EY_51 _) hin dL_makes_312 ?_
          refine lv_iconst (v := 1) hx hb dL_makes_313 (by decide) ?_
          refine lv_iadd hx hb dL_makes_314 ?_
          obtain ⟨hin, hf⟩ := gd_e hf
          obtain ⟨σ87, eσ87, hf⟩ := stp_e hf
          refine g_iast (σ1 := σ87) hx hb hK hP hi hAd hS 51 13 (by decide) EY_51 hin dL_makes_315 eσ87 (fun H locs hP hS => ?_)
          refine lv_aload_n hx hb dL_makes_316 rfl (lv_at hl 2 rfl) ?_
          refine lv_iload hx hb dL_makes_317 (lv_at hl 1 rfl) ?_
          refine lv_iload_n hx hb dL_makes_319 rfl (lv_at hl 5 rfl) ?_
          refine lv_iconst (v := 5) hx hb dL_makes_320 (by decide) ?_
          refine lv_iremJ hx hb dL_makes_321 (by decide) ?_
          refine lv_iconst (v := 1) hx hb dL_makes_322 (by decide) ?_
          refine lv_iload_n hx hb dL_makes_323 rfl (lv_at hl 5 rfl) ?_
          refine lv_iconst (v := 5) hx hb dL_makes_324 (by decide) ?_
          refine lv_idiv hx hb dL_makes_325 (by decide) ?_
          refine lv_bipush (v := 9) hx hb dL_makes_326 (by decide) ?_
          refine lv_iremJ hx hb dL_makes_328 (by decide) ?_
          refine lv_iadd hx hb dL_makes_329 ?_
          rcases bt3_e hf with ⟨v88, σ89, hv, hf⟩ | ⟨n90, σ89, hn, ⟨_, hv⟩, hf⟩
          · refine g_yVi (τ := (mgY σ89 σ87)) ⟨⟨hx, hb, hml, hown, hB⟩, hK, hi, hA, hAd, hP, hS⟩ hZ sub_YX (c_X5_scatter hflag (injS (by decide) hi) hv) (fun _ _ => rfl) cal_X5_scatter kM_L_139 ⟨Nat.le_trans (Nat.le_of_ble_eq_true rfl) hRf, Nat.le_trans (Nat.le_of_ble_eq_true rfl) hRl⟩ 48 (by decide) rfl rfl rfl rfl hl.1 (Nat.le_of_ble_eq_true rfl) rfl dL_makes_330 ⟨by omega, by omega⟩ (mgY_1 _ _) (mgY_2 54 _ _) (fun H locs hP hS => ?_)
            obtain ⟨σ91, eσ91, hf⟩ := stp_e hf
            rw [← eσ91] at hP
            refine lv_iload hx hb dL_makes_333 (lv_at hl 0 rfl) ?_
            refine lv_iconst (v := 1) hx hb dL_makes_335 (by decide) ?_
            refine lv_iadd hx hb dL_makes_336 ?_
            refine lv_iload_n hx hb dL_makes_337 rfl (lv_at hl 5 rfl) ?_
            refine lv_iconst (v := 5) hx hb dL_makes_338 (by decide) ?_
            refine lv_idiv hx hb dL_makes_339 (by decide) ?_
            refine lv_bipush (v := 9) hx hb dL_makes_340 (by decide) ?_
            refine lv_iremJ hx hb dL_makes_342 (by decide) ?_
            refine lv_iadd hx hb dL_makes_343 ?_
            refine lv_icmp_ne (tgt := 351) hx hb dL_makes_344 (by decide) (fun q92 => ?_) (fun q92 => ?_)
            · rw [if_neg q92] at hf
              refine lv_iconst (v := 0) hx hb dL_makes_351 (by decide) ?_
              obtain ⟨h1, h2⟩ := rt2 hf
              refine W.widen (k := 1) (n := 6 * 1) (by omega) (by omega) ?_
              rw [hQ]
              exact g_yzret hx hb hr hlocks hP hS (Or.inl rfl) h1 h2 dL_makes_352
            · rw [if_pos q92] at hf
              refine lv_iconst (v := 1) hx hb dL_makes_347 (by decide) ?_
              refine lv_goto (tgt := 352) hx hb dL_makes_348 (by decide) ?_
              obtain ⟨h1, h2⟩ := rt2 hf
              refine W.widen (k := 1) (n := 6 * 1) (by omega) (by omega) ?_
              rw [hQ]
              exact g_yzret hx hb hr hlocks hP hS (Or.inr rfl) h1 h2 dL_makes_352
          · cases hf
        · cases hf
    · rw [if_pos q2] at hf
      refine lv_aload hx hb dL_makes_118 (lv_at hl 5 rfl) ?_
      refine lv_bipush (v := 12) hx hb dL_makes_120 (by decide) ?_
      obtain ⟨hin, hf⟩ := gd_e hf
      refine g_iald hx hb hK hP 51 13 (by decide) (EY_51 _) hin dL_makes_122 ?_
      refine lv_iload hx hb dL_makes_123 (lv_at hl 0 rfl) ?_
      refine lv_ishr hx hb dL_makes_125 ?_
      refine lv_iconst (v := 1) hx hb dL_makes_126 (by decide) ?_
      refine lv_iand hx hb dL_makes_127 ?_
      refine lv_iconst (v := 1) hx hb dL_makes_128 (by decide) ?_
      refine lv_icmp_ne (tgt := 208) hx hb dL_makes_129 (by decide) (fun q93 => ?_) (fun q93 => ?_)
      · rw [if_neg q93] at hf
        refine lv_aload hx hb dL_makes_208 (lv_at hl 5 rfl) ?_
        refine lv_bipush (v := 12) hx hb dL_makes_210 (by decide) ?_
        refine lv_dup2_11 hx hb dL_makes_212 rfl rfl ?_
        obtain ⟨hin, hf⟩ := gd_e hf
        refine g_iald hx hb hK hP 51 13 (by decide) (EY_51 _) hin dL_makes_213 ?_
        refine lv_iconst (v := 1) hx hb dL_makes_214 (by decide) ?_
        refine lv_iload hx hb dL_makes_215 (lv_at hl 0 rfl) ?_
        refine lv_ishl hx hb dL_makes_217 ?_
        refine lv_ior hx hb dL_makes_218 ?_
        obtain ⟨hin, hf⟩ := gd_e hf
        obtain ⟨σ94, eσ94, hf⟩ := stp_e hf
        refine g_iast (σ1 := σ94) hx hb hK hP hi hAd hS 51 13 (by decide) EY_51 hin dL_makes_219 eσ94 (fun H locs hP hS => ?_)
        refine lv_aload hx hb dL_makes_220 (lv_at hl 5 rfl) ?_
        refine lv_iconst (v := 0) hx hb dL_makes_222 (by decide) ?_
        refine lv_dup2_11 hx hb dL_makes_223 rfl rfl ?_
        obtain ⟨hin, hf⟩ := gd_e hf
        refine g_iald hx hb hK hP 51 13 (by decide) (EY_51 _) hin dL_makes_224 ?_
        refine lv_iload_n hx hb dL_makes_225 rfl (lv_at hl 4 rfl) ?_
        refine lv_sipush (v := 300) hx hb dL_makes_226 (by decide) ?_
        refine lv_iremJ hx hb dL_makes_229 (by decide) ?_
        refine lv_iadd hx hb dL_makes_230 ?_
        obtain ⟨hin, hf⟩ := gd_e hf
        obtain ⟨σ95, eσ95, hf⟩ := stp_e hf
        refine g_iast (σ1 := σ95) hx hb hK hP hi hAd hS 51 13 (by decide) EY_51 hin dL_makes_231 eσ95 (fun H locs hP hS => ?_)
        refine lv_aload hx hb dL_makes_232 (lv_at hl 5 rfl) ?_
        refine lv_bipush (v := 6) hx hb dL_makes_234 (by decide) ?_
        refine lv_dup2_11 hx hb dL_makes_236 rfl rfl ?_
        obtain ⟨hin, hf⟩ := gd_e hf
        refine g_iald hx hb hK hP 51 13 (by decide) (EY_51 _) hin dL_makes_237 ?_
        refine lv_iconst (v := 1) hx hb dL_makes_238 (by decide) ?_
        refine lv_iadd hx hb dL_makes_239 ?_
        obtain ⟨hin, hf⟩ := gd_e hf
        obtain ⟨σ96, eσ96, hf⟩ := stp_e hf
        refine g_iast (σ1 := σ96) hx hb hK hP hi hAd hS 51 13 (by decide) EY_51 hin dL_makes_240 eσ96 (fun H locs hP hS => ?_)
        refine lv_aload_n hx hb dL_makes_241 rfl (lv_at hl 1 rfl) ?_
        refine lv_iload hx hb dL_makes_242 (lv_at hl 0 rfl) ?_
        refine lv_iload_n hx hb dL_makes_244 rfl (lv_at hl 4 rfl) ?_
        refine lv_sipush (v := 300) hx hb dL_makes_245 (by decide) ?_
        refine lv_iremJ hx hb dL_makes_248 (by decide) ?_
        rcases bt3_e hf with ⟨v97, σ98, hv, hf⟩ | ⟨n99, σ98, hn, ⟨_, hv⟩, hf⟩
        · refine g_yVv (τ := (mgY σ98 σ96)) ⟨⟨hx, hb, hml, hown, hB⟩, hK, hi, hA, hAd, hP, hS⟩ hZ sub_YX (c_X5_shop hflag (injS (by decide) hi) hv) (fun _ _ => rfl) cal_X5_shop kM_L_135 ⟨Nat.le_trans (Nat.le_of_ble_eq_true rfl) hRf, Nat.le_trans (Nat.le_of_ble_eq_true rfl) hRl⟩ 48 (by decide) rfl rfl rfl rfl hl.1 (Nat.le_of_ble_eq_true rfl) rfl dL_makes_249 ⟨by omega, by omega⟩ (mgY_1 _ _) (mgY_2 54 _ _) (fun H locs hP hS => ?_)
          obtain ⟨σ100, eσ100, hf⟩ := stp_e hf
          rw [← eσ100] at hP
          refine lv_aload_n hx hb dL_makes_252 rfl (lv_at hl 1 rfl) ?_
          refine lv_iload hx hb dL_makes_253 (lv_at hl 0 rfl) ?_
          rcases bt_e hf with ⟨v101, hv, hf⟩ | ⟨n102, v101, hn, hv, hf⟩
          · refine g_yVi (τ := σ100) ⟨⟨hx, hb, hml, hown, hB⟩, hK, hi, hA, hAd, hP, hS⟩ hZ sub_YX (c_X5_tillOf hflag (injS (by decide) hi) hv) (fun _ _ => rfl) cal_X5_tillOf kM_L_84 ⟨Nat.le_trans (Nat.le_of_ble_eq_true rfl) hRf, Nat.le_trans (Nat.le_of_ble_eq_true rfl) hRl⟩ 48 (by decide) rfl rfl rfl rfl hl.1 (Nat.le_of_ble_eq_true rfl) rfl dL_makes_255 ⟨by omega, by omega⟩ (fun _ _ => rfl) (fun _ _ _ => rfl) (fun H locs hP hS => ?_)
            refine lv_iload_n hx hb dL_makes_258 rfl (lv_at hl 4 rfl) ?_
            refine lv_sipush (v := 300) hx hb dL_makes_259 (by decide) ?_
            refine lv_iremJ hx hb dL_makes_262 (by decide) ?_
            refine lv_icmp_ne (tgt := 270) hx hb dL_makes_263 (by decide) (fun q103 => ?_) (fun q103 => ?_)
            · rw [if_neg q103] at hf
              refine lv_iconst (v := 0) hx hb dL_makes_270 (by decide) ?_
              obtain ⟨h1, h2⟩ := rt2 hf
              refine W.widen (k := 1) (n := 6 * 1) (by omega) (by omega) ?_
              rw [hQ]
              exact g_yzret hx hb hr hlocks hP hS (Or.inl rfl) h1 h2 dL_makes_271
            · rw [if_pos q103] at hf
              refine lv_iconst (v := 1) hx hb dL_makes_266 (by decide) ?_
              refine lv_goto (tgt := 271) hx hb dL_makes_267 (by decide) ?_
              obtain ⟨h1, h2⟩ := rt2 hf
              refine W.widen (k := 1) (n := 6 * 1) (by omega) (by omega) ?_
              rw [hQ]
              exact g_yzret hx hb hr hlocks hP hS (Or.inr rfl) h1 h2 dL_makes_271
          · cases hf
        · cases hf
      · rw [if_pos q93] at hf
        refine lv_iload_n hx hb dL_makes_132 rfl (lv_at hl 4 rfl) ?_
        refine lv_bipush (v := 6) hx hb dL_makes_133 (by decide) ?_
        refine lv_iremJ hx hb dL_makes_135 (by decide) ?_
        refine lv_istore (lv' := [(6, .int (jrem a2 6)), (5, .int (jrem a1 8)), (0, .ref (ad 48)), (1, .int a0), (2, .int a1), (3, .int a2), (4, .ref (ad 51))]) hx hb dL_makes_136 hl (by decide) rfl (fun ls hl => ?_)
        refine lv_iload_n hx hb dL_makes_138 rfl (lv_at hl 4 rfl) ?_
        refine lv_bipush (v := 8) hx hb dL_makes_139 (by decide) ?_
        refine lv_idiv hx hb dL_makes_141 (by decide) ?_
        refine lv_iconst (v := 5) hx hb dL_makes_142 (by decide) ?_
        refine lv_iremJ hx hb dL_makes_143 (by decide) ?_
        refine lv_istore (lv' := [(7, .int (jrem (a1 / 8) 5)), (6, .int (jrem a2 6)), (5, .int (jrem a1 8)), (0, .ref (ad 48)), (1, .int a0), (2, .int a1), (3, .int a2), (4, .ref (ad 51))]) hx hb dL_makes_144 hl (by decide) rfl (fun ls hl => ?_)
        refine lv_aload_n hx hb dL_makes_146 rfl (lv_at hl 3 rfl) ?_
        refine lv_iload hx hb dL_makes_147 (lv_at hl 2 rfl) ?_
        refine lv_iload hx hb dL_makes_149 (lv_at hl 0 rfl) ?_
        rcases bt_e hf with ⟨v104, hv, hf⟩ | ⟨n105, v104, hn, hv, hf⟩
        · refine g_yVi (τ := σ) ⟨⟨hx, hb, hml, hown, hB⟩, hK, hi, hA, hAd, hP, hS⟩ hZ sub_YX (c_X5_stockOf hflag (injS (by decide) hi) hv) (fun _ _ => rfl) cal_X5_stockOf kM_L_90 ⟨Nat.le_trans (Nat.le_of_ble_eq_true rfl) hRf, Nat.le_trans (Nat.le_of_ble_eq_true rfl) hRl⟩ 48 (by decide) rfl rfl rfl rfl hl.1 (Nat.le_of_ble_eq_true rfl) rfl dL_makes_151 ⟨by omega, by omega⟩ (fun _ _ => rfl) (fun _ _ _ => rfl) (fun H locs hP hS => ?_)
          refine lv_istore (lv' := [(8, .int v104), (7, .int (jrem (a1 / 8) 5)), (6, .int (jrem a2 6)), (5, .int (jrem a1 8)), (0, .ref (ad 48)), (1, .int a0), (2, .int a1), (3, .int a2), (4, .ref (ad 51))]) hx hb dL_makes_154 hl (by decide) rfl (fun ls hl => ?_)
          refine lv_aload hx hb dL_makes_156 (lv_at hl 8 rfl) ?_
          refine lv_iconst (v := 1) hx hb dL_makes_158 (by decide) ?_
          refine lv_iload hx hb dL_makes_159 (lv_at hl 1 rfl) ?_
          refine lv_iadd hx hb dL_makes_161 ?_
          refine lv_dup2_11 hx hb dL_makes_162 rfl rfl ?_
          obtain ⟨hin, hf⟩ := gd_e hf
          refine g_iald hx hb hK hP 51 13 (by decide) (EY_51 _) hin dL_makes_163 ?_
          refine lv_iload hx hb dL_makes_164 (lv_at hl 2 rfl) ?_
          refine lv_iadd hx hb dL_makes_166 ?_
          obtain ⟨hin, hf⟩ := gd_e hf
          obtain ⟨σ106, eσ106, hf⟩ := stp_e hf
          refine g_iast (σ1 := σ106) hx hb hK hP hi hAd hS 51 13 (by decide) EY_51 hin dL_makes_167 eσ106 (fun H locs hP hS => ?_)
          refine lv_aload hx hb dL_makes_168 (lv_at hl 8 rfl) ?_
          refine lv_bipush (v := 6) hx hb dL_makes_170 (by decide) ?_
          refine lv_dup2_11 hx hb dL_makes_172 rfl rfl ?_
          obtain ⟨hin, hf⟩ := gd_e hf
          refine g_iald hx hb hK hP 51 13 (by decide) (EY_51 _) hin dL_makes_173 ?_
          refine lv_iconst (v := 1) hx hb dL_makes_174 (by decide) ?_
          refine lv_iadd hx hb dL_makes_175 ?_
          obtain ⟨hin, hf⟩ := gd_e hf
          obtain ⟨σ107, eσ107, hf⟩ := stp_e hf
          refine g_iast (σ1 := σ107) hx hb hK hP hi hAd hS 51 13 (by decide) EY_51 hin dL_makes_176 eσ107 (fun H locs hP hS => ?_)
          refine lv_aload_n hx hb dL_makes_177 rfl (lv_at hl 4 rfl) ?_
          refine lv_iload hx hb dL_makes_178 (lv_at hl 3 rfl) ?_
          refine lv_iload hx hb dL_makes_180 (lv_at hl 1 rfl) ?_
          refine lv_iload hx hb dL_makes_182 (lv_at hl 2 rfl) ?_
          refine lv_iload_n hx hb dL_makes_184 rfl (lv_at hl 7 rfl) ?_
          refine lv_bipush (v := 6) hx hb dL_makes_185 (by decide) ?_
          refine lv_idiv hx hb dL_makes_187 (by decide) ?_
          refine lv_bipush (v := 20) hx hb dL_makes_188 (by decide) ?_
          refine lv_iremJ hx hb dL_makes_190 (by decide) ?_
          rcases bt3_e hf with ⟨v108, σ109, hv, hf⟩ | ⟨n110, σ109, hn, ⟨_, hv⟩, hf⟩
          · refine g_yVi (τ := (mgY σ109 σ107)) ⟨⟨hx, hb, hml, hown, hB⟩, hK, hi, hA, hAd, hP, hS⟩ hZ sub_YX (c_X5_stock hflag (injS (by decide) hi) hv) (fun _ _ => rfl) cal_X5_stock kM_L_132 ⟨Nat.le_trans (Nat.le_of_ble_eq_true rfl) hRf, Nat.le_trans (Nat.le_of_ble_eq_true rfl) hRl⟩ 48 (by decide) rfl rfl rfl rfl hl.1 (Nat.le_of_ble_eq_true rfl) rfl dL_makes_191 ⟨by omega, by omega⟩ (mgY_1 _ _) (mgY_2 54 _ _) (fun H locs hP hS => ?_)
            obtain ⟨σ111, eσ111, hf⟩ := stp_e hf
            rw [← eσ111] at hP
            refine lv_iload hx hb dL_makes_194 (lv_at hl 0 rfl) ?_
            refine lv_iload hx hb dL_makes_196 (lv_at hl 2 rfl) ?_
            refine lv_iadd hx hb dL_makes_198 ?_
            refine lv_icmp_ne (tgt := 206) hx hb dL_makes_199 (by decide) (fun q112 => ?_) (fun q112 => ?_)
            · rw [if_neg q112] at hf
              refine lv_iconst (v := 0) hx hb dL_makes_206 (by decide) ?_
              obtain ⟨h1, h2⟩ := rt2 hf
              refine W.widen (k := 1) (n := 6 * 1) (by omega) (by omega) ?_
              rw [hQ]
              exact g_yzret hx hb hr hlocks hP hS (Or.inl rfl) h1 h2 dL_makes_207
            · rw [if_pos q112] at hf
              refine lv_iconst (v := 1) hx hb dL_makes_202 (by decide) ?_
              refine lv_goto (tgt := 207) hx hb dL_makes_203 (by decide) ?_
              obtain ⟨h1, h2⟩ := rt2 hf
              refine W.widen (k := 1) (n := 6 * 1) (by omega) (by omega) ?_
              rw [hQ]
              exact g_yzret hx hb hr hlocks hP hS (Or.inr rfl) h1 h2 dL_makes_207
          · cases hf
        · cases hf
  · rw [if_pos q1] at hf
    refine lv_aload_n hx hb dL_makes_10 rfl (lv_at hl 1 rfl) ?_
    refine lv_iload hx hb dL_makes_11 (lv_at hl 0 rfl) ?_
    refine lv_iload_n hx hb dL_makes_13 rfl (lv_at hl 4 rfl) ?_
    refine lv_iconst (v := 4) hx hb dL_makes_14 (by decide) ?_
    refine lv_iremJ hx hb dL_makes_15 (by decide) ?_
    rcases bt_e hf with ⟨v113, hv, hf⟩ | ⟨n114, v113, hn, hv, hf⟩
    · refine g_yVi (τ := σ) ⟨⟨hx, hb, hml, hown, hB⟩, hK, hi, hA, hAd, hP, hS⟩ hZ sub_YX (c_X5_exit hflag (injS (by decide) hi) hv) (fun _ _ => rfl) cal_X5_exit kM_L_108 ⟨Nat.le_trans (Nat.le_of_ble_eq_true rfl) hRf, Nat.le_trans (Nat.le_of_ble_eq_true rfl) hRl⟩ 48 (by decide) rfl rfl rfl rfl hl.1 (Nat.le_of_ble_eq_true rfl) rfl dL_makes_16 ⟨by omega, by omega⟩ (fun _ _ => rfl) (fun _ _ _ => rfl) (fun H locs hP hS => ?_)
      obtain ⟨J117, eJ117, hf⟩ := jn_e2 hf
      have hJ117 : ∀ (y116 : Int32) (σ115 : Mem) (H : Heap) (locs : List Loc) (ls : Array Slot), J117 y116 σ115 = some (r, σr) → va_P D vwCl (wsG 54 ad (EY ad cI cJ) σ115) H → va_S (AG 54 ad s.heap.size) s.heap H locs → lv_has ls 10 [(0, .ref (ad 48)), (2, .int a1), (3, .int a2), (4, .ref (ad 51)), (5, .int (jrem a1 8))] → W p l e R s m args below meth c H locs 0 0 Q (F0 m 54 ls [.int y116]) := by
        intro y116 σ115 H locs ls hf hP hS hl
        rw [eJ117] at hf
        refine lv_istore (lv' := [(6, .int y116), (0, .ref (ad 48)), (2, .int a1), (3, .int a2), (4, .ref (ad 51)), (5, .int (jrem a1 8))]) hx hb dL_makes_54 hl (by decide) rfl (fun ls hl => ?_)
        refine lv_aload_n hx hb dL_makes_56 rfl (lv_at hl 1 rfl) ?_
        refine lv_iload hx hb dL_makes_57 (lv_at hl 5 rfl) ?_
        refine lv_iload_n hx hb dL_makes_59 rfl (lv_at hl 3 rfl) ?_
        refine lv_iconst (v := 4) hx hb dL_makes_60 (by decide) ?_
        refine lv_iremJ hx hb dL_makes_61 (by decide) ?_
        refine lv_iload hx hb dL_makes_62 (lv_at hl 5 rfl) ?_
        refine lv_iconst (v := 1) hx hb dL_makes_64 (by decide) ?_
        refine lv_iadd hx hb dL_makes_65 ?_
        refine lv_iload_n hx hb dL_makes_66 rfl (lv_at hl 2 rfl) ?_
        refine lv_bipush (v := 8) hx hb dL_makes_67 (by decide) ?_
        refine lv_idiv hx hb dL_makes_69 (by decide) ?_
        refine lv_bipush (v := 7) hx hb dL_makes_70 (by decide) ?_
        refine lv_iremJ hx hb dL_makes_72 (by decide) ?_
        refine lv_iadd hx hb dL_makes_73 ?_
        refine lv_bipush (v := 8) hx hb dL_makes_74 (by decide) ?_
        refine lv_iremJ hx hb dL_makes_76 (by decide) ?_
        obtain ⟨v118, σ119, hv, hf⟩ := bd2_e hf
        refine g_ti (τ := σ119) ⟨⟨hx, hb, hml, hown, hB⟩, hK, hi, hA, hAd, hP, hS⟩ hZ hN subG.rf (c_L_links hflag hi hv) (fun _ _ => rfl) cal_L_links kM_L_128 ⟨Nat.le_trans (Nat.le_of_ble_eq_true rfl) hRf, Nat.le_trans (Nat.le_of_ble_eq_true rfl) hRl⟩ rfl hl.1 (Nat.le_of_ble_eq_true rfl) rfl dL_makes_77 ⟨by omega, by omega⟩ (fun _ _ => rfl) (fun j hj h => absurd rfl (h j hj)) (fun H locs hP hS => ?_)
        refine lv_istore (lv' := [(7, .int v118), (6, .int y116), (0, .ref (ad 48)), (2, .int a1), (3, .int a2), (4, .ref (ad 51)), (5, .int (jrem a1 8))]) hx hb dL_makes_80 hl (by decide) rfl (fun ls hl => ?_)
        refine lv_aload hx hb dL_makes_82 (lv_at hl 5 rfl) ?_
        refine lv_bipush (v := 6) hx hb dL_makes_84 (by decide) ?_
        refine lv_dup2_11 hx hb dL_makes_86 rfl rfl ?_
        obtain ⟨hin, hf⟩ := gd_e hf
        refine g_iald hx hb hK hP 51 13 (by decide) (EY_51 _) hin dL_makes_87 ?_
        refine lv_iload hx hb dL_makes_88 (lv_at hl 1 rfl) ?_
        obtain ⟨J124, eJ124, hf⟩ := jn_e4 hf
        have hJ124 : ∀ (y121 : Int32) (y122 : Int32) (y123 : Int32) (σ120 : Mem) (H : Heap) (locs : List Loc) (ls : Array Slot), J124 y121 y122 y123 σ120 = some (r, σr) → va_P D vwCl (wsG 54 ad (EY ad cI cJ) σ120) H → va_S (AG 54 ad s.heap.size) s.heap H locs → lv_has ls 10 [(6, .int y116), (7, .int v118)] → W p l e R s m args below meth c H locs (0 + 1) (0 + 6 * 1) Q (F0 m 98 ls [.int y123, .int y122, .int y121, .ref (ad 51)]) := by
          intro y121 y122 y123 σ120 H locs ls hf hP hS hl
          rw [eJ124] at hf
          refine lv_iadd hx hb dL_makes_98 ?_
          obtain ⟨hin, hf⟩ := gd_e hf
          obtain ⟨σ125, eσ125, hf⟩ := stp_e hf
          refine g_iast (σ1 := σ125) hx hb hK hP hi hAd hS 51 13 (by decide) EY_51 hin dL_makes_99 eσ125 (fun H locs hP hS => ?_)
          refine lv_iload hx hb dL_makes_100 (lv_at hl 1 rfl) ?_
          refine lv_iload hx hb dL_makes_102 (lv_at hl 0 rfl) ?_
          refine lv_icmp_ne (tgt := 111) hx hb dL_makes_104 (by decide) (fun q126 => ?_) (fun q126 => ?_)
          · rw [if_neg q126] at hf
            refine lv_iconst (v := 0) hx hb dL_makes_111 (by decide) ?_
            obtain ⟨h1, h2⟩ := rt2 hf
            refine W.widen (k := 1) (n := 6 * 1) (by omega) (by omega) ?_
            rw [hQ]
            exact g_yzret hx hb hr hlocks hP hS (Or.inl rfl) h1 h2 dL_makes_112
          · rw [if_pos q126] at hf
            refine lv_iconst (v := 1) hx hb dL_makes_107 (by decide) ?_
            refine lv_goto (tgt := 112) hx hb dL_makes_108 (by decide) ?_
            obtain ⟨h1, h2⟩ := rt2 hf
            refine W.widen (k := 1) (n := 6 * 1) (by omega) (by omega) ?_
            rw [hQ]
            exact g_yzret hx hb hr hlocks hP hS (Or.inr rfl) h1 h2 dL_makes_112
        refine lv_if_eq (tgt := 97) hx hb dL_makes_90 (by decide) (fun q127 => ?_) (fun q127 => ?_)
        · rw [if_pos q127] at hf
          refine lv_iconst (v := 0) hx hb dL_makes_97 (by decide) ?_
          exact hJ124 6 (σ119 51 (6 : Int32).toNatClampNeg) 0 σ119 _ _ ls hf hP hS (lv_sub hl [1, 0] rfl)
        · rw [if_neg q127] at hf
          refine lv_iconst (v := 1) hx hb dL_makes_93 (by decide) ?_
          refine lv_goto (tgt := 98) hx hb dL_makes_94 (by decide) ?_
          exact hJ124 6 (σ119 51 (6 : Int32).toNatClampNeg) 1 σ119 _ _ ls hf hP hS (lv_sub hl [1, 0] rfl)
      obtain ⟨J129, eJ129, hf⟩ := jn_e1 hf
      have hJ129 : ∀ (σ128 : Mem) (H : Heap) (locs : List Loc) (ls : Array Slot), J129 σ128 = some (r, σr) → va_P D vwCl (wsG 54 ad (EY ad cI cJ) σ128) H → va_S (AG 54 ad s.heap.size) s.heap H locs → lv_has ls 10 [(0, .ref (ad 48)), (2, .int a1), (3, .int a2), (4, .ref (ad 51)), (5, .int (jrem a1 8))] → W p l e R s m args below meth c H locs 0 0 Q (F0 m 53 ls []) := by
        intro σ128 H locs ls hf hP hS hl
        rw [eJ129] at hf
        refine lv_iconst (v := 0) hx hb dL_makes_53 (by decide) ?_
        exact hJ117 0 σ128 _ _ ls hf hP hS (lv_sub hl [0, 1, 2, 3, 4] rfl)
      refine lv_if_ge (tgt := 53) hx hb dL_makes_19 (by decide) (fun q130 => ?_) (fun q130 => ?_)
      · rw [if_pos q130] at hf
        exact hJ129 σ _ _ ls hf hP hS (lv_sub hl [1, 3, 4, 5, 0] rfl)
      · rw [if_neg q130] at hf
        refine lv_aload_n hx hb dL_makes_22 rfl (lv_at hl 1 rfl) ?_
        refine lv_iload hx hb dL_makes_23 (lv_at hl 0 rfl) ?_
        refine lv_iconst (v := 1) hx hb dL_makes_25 (by decide) ?_
        refine lv_iadd hx hb dL_makes_26 ?_
        refine lv_iload_n hx hb dL_makes_27 rfl (lv_at hl 3 rfl) ?_
        refine lv_bipush (v := 8) hx hb dL_makes_28 (by decide) ?_
        refine lv_idiv hx hb dL_makes_30 (by decide) ?_
        refine lv_bipush (v := 7) hx hb dL_makes_31 (by decide) ?_
        refine lv_iremJ hx hb dL_makes_33 (by decide) ?_
        refine lv_iadd hx hb dL_makes_34 ?_
        refine lv_bipush (v := 8) hx hb dL_makes_35 (by decide) ?_
        refine lv_iremJ hx hb dL_makes_37 (by decide) ?_
        refine lv_iload_n hx hb dL_makes_38 rfl (lv_at hl 4 rfl) ?_
        refine lv_iconst (v := 2) hx hb dL_makes_39 (by decide) ?_
        refine lv_iadd hx hb dL_makes_40 ?_
        refine lv_iconst (v := 4) hx hb dL_makes_41 (by decide) ?_
        refine lv_iremJ hx hb dL_makes_42 (by decide) ?_
        rcases bt_e hf with ⟨v131, hv, hf⟩ | ⟨n132, v131, hn, hv, hf⟩
        · refine g_yVi (τ := σ) ⟨⟨hx, hb, hml, hown, hB⟩, hK, hi, hA, hAd, hP, hS⟩ hZ sub_YX (c_X5_exit hflag (injS (by decide) hi) hv) (fun _ _ => rfl) cal_X5_exit kM_L_108 ⟨Nat.le_trans (Nat.le_of_ble_eq_true rfl) hRf, Nat.le_trans (Nat.le_of_ble_eq_true rfl) hRl⟩ 48 (by decide) rfl rfl rfl rfl hl.1 (Nat.le_of_ble_eq_true rfl) rfl dL_makes_43 ⟨by omega, by omega⟩ (fun _ _ => rfl) (fun _ _ _ => rfl) (fun H locs hP hS => ?_)
          refine lv_if_ge (tgt := 53) hx hb dL_makes_46 (by decide) (fun q133 => ?_) (fun q133 => ?_)
          · rw [if_pos q133] at hf
            exact hJ129 σ _ _ ls hf hP hS (lv_sub hl [1, 3, 4, 5, 0] rfl)
          · rw [if_neg q133] at hf
            refine lv_iconst (v := 1) hx hb dL_makes_49 (by decide) ?_
            refine lv_goto (tgt := 54) hx hb dL_makes_50 (by decide) ?_
            exact hJ117 1 σ _ _ ls hf hP hS (lv_sub hl [1, 3, 4, 5, 0] rfl)
        · cases hf
    · cases hf
