def f_X4_clear (σ : Mem) : Option (Mem) :=
bd (f_X2_clear σ) fun σ1 =>
bd (f_X1_clear σ1) fun σ2 =>
bd (f_X3_clear σ2) fun σ3 =>
stp (mu σ3 0 3 0) fun σ4 =>
stp (mu σ4 0 4 1) fun σ5 =>
some σ5
set_option maxHeartbeats 4000000 in
set_option maxRecDepth 100000 in
theorem c_X4_clear {l : Launch} {D : va_G} {cI cJ : ClassId} {ad : Nat → Nat} {σ : Mem} {σr : Mem}  (hi : injG 24 ad) (hf : f_X4_clear σ = some σr) : MGv l yX4_clear (Cond.code yX4_clear cX4_clear 1 none :: BIG) 2 43 D cI cJ 24 ad (EW ad cI) [.ref (ad 0)] σ σr := by
  refine MGv.ofW (cc := cX4_clear) (nL := 1) (ret := none) (by decide) rfl hi ?_
  intro p e s m args below meth c hx hb hr hml hlocks hown hB hK hP hA hAd hS
  have hown : s.vm.findClass RX4 = some m.cls := hown
  have hl := lv_entry ([.ref (ad 0)] : List Value) (n := 1) (Nat.le_of_ble_eq_true rfl)
  rw [lg_entry_eq]
  generalize (lg_sl ([.ref (ad 0)] : List Value) ++ List.replicate (1 - (lg_sl ([.ref (ad 0)] : List Value)).length) Slot.unset).toArray = ls at hl ⊢
  have hl : lv_has ls 1 [(0, .ref (ad 0))] := hl
  generalize hQ : MQ below (Qgv D 24 ad (EW ad cI) σr s.heap.size) _ s 0 0 (AG 24 ad s.heap.size) = Q
  have hQ := hQ.symm
  obtain ⟨R, hR, hRf, hRl⟩ : ∃ R : Room, R = ({ frames := 2, cells := 0, slots := 0, locals := 43 } : Room) ∧ 2 ≤ R.frames ∧ 43 ≤ R.locals := ⟨_, rfl, Nat.le_refl _, Nat.le_refl _⟩
  rw [← hR]
  unfold f_X4_clear at hf
  refine lv_aload_n hx hb dX4_clear_0 rfl (lv_at hl 0 rfl) ?_
  refine g_get (v := .ref (ad 1)) hx hb hB hown hK hP 0 (by decide) rfl rfl kU_X4 0 (by decide) kF_X4_12 rfl rfl dX4_clear_1 ?_
  obtain ⟨σ1, hv, hf⟩ := bd_e hf
  refine g_cVvS (k0 := 1) ⟨⟨hx, hb, hml, hown, hB⟩, hK, hi, hA, hAd, hP, hS⟩ (c_X2_clear hi hv) cal_X2_clear kM_X4_39 ⟨Nat.le_trans (Nat.le_of_ble_eq_true rfl) hRf, Nat.le_trans (Nat.le_of_ble_eq_true rfl) hRl⟩ (by decide) rfl rfl rfl hl.1 (Nat.le_of_ble_eq_true rfl) rfl dX4_clear_4 ⟨Nat.zero_le _, Nat.zero_le _⟩ (fun H locs hP hS => ?_)
  refine lv_aload_n hx hb dX4_clear_7 rfl (lv_at hl 0 rfl) ?_
  refine g_get (v := .ref (ad 8)) hx hb hB hown hK hP 0 (by decide) rfl rfl kU_X4 1 (by decide) kF_X4_21 rfl rfl dX4_clear_8 ?_
  obtain ⟨σ2, hv, hf⟩ := bd_e hf
  refine g_cVvS (k0 := 8) ⟨⟨hx, hb, hml, hown, hB⟩, hK, hi, hA, hAd, hP, hS⟩ (c_X1_clear hi hv) cal_X1_clear kM_X4_42 ⟨Nat.le_trans (Nat.le_of_ble_eq_true rfl) hRf, Nat.le_trans (Nat.le_of_ble_eq_true rfl) hRl⟩ (by decide) rfl rfl rfl hl.1 (Nat.le_of_ble_eq_true rfl) rfl dX4_clear_11 ⟨Nat.zero_le _, Nat.zero_le _⟩ (fun H locs hP hS => ?_)
  refine lv_aload_n hx hb dX4_clear_14 rfl (lv_at hl 0 rfl) ?_
  refine g_get (v := .ref (ad 18)) hx hb hB hown hK hP 0 (by decide) rfl rfl kU_X4 2 (by decide) kF_X4_28 rfl rfl dX4_clear_15 ?_
  obtain ⟨σ3, hv, hf⟩ := bd_e hf
  refine g_cVvS (k0 := 18) ⟨⟨hx, hb, hml, hown, hB⟩, hK, hi, hA, hAd, hP, hS⟩ (c_X3_clear hi hv) cal_X3_clear kM_X4_43 ⟨Nat.le_trans (Nat.le_of_ble_eq_true rfl) hRf, Nat.le_trans (Nat.le_of_ble_eq_true rfl) hRl⟩ (by decide) rfl rfl rfl hl.1 (Nat.le_of_ble_eq_true rfl) rfl dX4_clear_18 ⟨Nat.zero_le _, Nat.zero_le _⟩ (fun H locs hP hS => ?_)
  refine lv_aload_n hx hb dX4_clear_21 rfl (lv_at hl 0 rfl) ?_
  refine lv_iconst (v := 0) hx hb dX4_clear_22 (by decide) ?_
  obtain ⟨σ4, eσ4, hf⟩ := stp_e hf
  refine g_put (σ1 := σ4) hx hb hB hown hK hP hi hAd hS 0 (by decide) (fun f => [.ref (ad 1), .ref (ad 8), .ref (ad 18), .int (f 3), .int (f 4)]) (fun _ => rfl) rfl kU_X4 tyX4 tyX4_ok nmX4 3 (by decide) kF_X4_32 rfl (fun _ _ => rfl) (fun _ => Nat.le_of_ble_eq_true rfl) dX4_clear_23 eσ4 (fun H locs hP hS => ?_)
  refine lv_aload_n hx hb dX4_clear_26 rfl (lv_at hl 0 rfl) ?_
  refine lv_iconst (v := 1) hx hb dX4_clear_27 (by decide) ?_
  obtain ⟨σ5, eσ5, hf⟩ := stp_e hf
  refine g_put (σ1 := σ5) hx hb hB hown hK hP hi hAd hS 0 (by decide) (fun f => [.ref (ad 1), .ref (ad 8), .ref (ad 18), .int (f 3), .int (f 4)]) (fun _ => rfl) rfl kU_X4 tyX4 tyX4_ok nmX4 4 (by decide) kF_X4_36 rfl (fun _ _ => rfl) (fun _ => Nat.le_of_ble_eq_true rfl) dX4_clear_28 eσ5 (fun H locs hP hS => ?_)
  have h2 := rt1 hf
  rw [hQ]
  exact g_vret hx hb hr hlocks hP hS h2 dX4_clear_31
def f_X4_costOf (a0 : Int32) : Option (Int32) :=
if a0 = 18 then (
some 3)
else (
jn (fun (_ : Unit) =>
some 2) fun (J2 : Unit → Option (Int32)) =>
if a0 = 9 then (
J2 ())
else (
if a0 = 19 then (
J2 ())
else (
some 1)))
set_option maxHeartbeats 4000000 in
set_option maxRecDepth 100000 in
theorem c_X4_costOf {l : Launch} {D : va_G} {cI cJ : ClassId} {ad : Nat → Nat} {E : Ent} {σ : Mem} {a0 : Int32} {r : Int32}  (hf : f_X4_costOf a0 = some r) : MGi l yX4_costOf (Cond.code yX4_costOf cX4_costOf 1 (some .int) :: BIG) 0 0 D cI cJ 0 ad E [.int a0] σ σ r := by
  refine MGi.ofW (cc := cX4_costOf) (nL := 1) (ret := (some .int)) (by decide) rfl (fun i j h => absurd h (Nat.not_lt_zero i)) ?_
  intro p e s m args below meth c hx hb hr hml hlocks hown hB hK hP hA hAd hS
  have hown : s.vm.findClass RX4 = some m.cls := hown
  have hi : injG 0 ad := fun i j h => absurd h (Nat.not_lt_zero i)
  have hl := lv_entry ([.int a0] : List Value) (n := 1) (Nat.le_of_ble_eq_true rfl)
  rw [lg_entry_eq]
  generalize (lg_sl ([.int a0] : List Value) ++ List.replicate (1 - (lg_sl ([.int a0] : List Value)).length) Slot.unset).toArray = ls at hl ⊢
  have hl : lv_has ls 1 [(0, .int a0)] := hl
  generalize hQ : MQ below (Qgi D 0 ad E r σ s.heap.size) _ s 0 0 (AG 0 ad s.heap.size) = Q
  have hQ := hQ.symm
  obtain ⟨R, hR, hRf, hRl⟩ : ∃ R : Room, R = ({ frames := 0, cells := 0, slots := 0, locals := 0 } : Room) ∧ 0 ≤ R.frames ∧ 0 ≤ R.locals := ⟨_, rfl, Nat.le_refl _, Nat.le_refl _⟩
  rw [← hR]
  unfold f_X4_costOf at hf
  refine lv_iload_n hx hb dX4_costOf_0 rfl (lv_at hl 0 rfl) ?_
  refine lv_bipush (v := 18) hx hb dX4_costOf_1 (by decide) ?_
  refine lv_icmp_ne (tgt := 8) hx hb dX4_costOf_3 (by decide) (fun q1 => ?_) (fun q1 => ?_)
  · rw [if_neg q1] at hf
    refine lv_iload_n hx hb dX4_costOf_8 rfl (lv_at hl 0 rfl) ?_
    refine lv_bipush (v := 9) hx hb dX4_costOf_9 (by decide) ?_
    obtain ⟨J2, eJ2, hf⟩ := jn_e0 hf
    have hJ2 : ∀ (_ : Unit) (H : Heap) (locs : List Loc) (ls : Array Slot), J2 () = some r → va_P D vwCl (wsG 0 ad E σ) H → va_S (AG 0 ad s.heap.size) s.heap H locs → lv_has ls 1 [] → W p l e R s m args below meth c H locs 0 0 Q (F0 m 20 ls []) := by
      intro _ H locs ls hf hP hS hl
      rw [eJ2] at hf
      refine lv_iconst (v := 2) hx hb dX4_costOf_20 (by decide) ?_
      refine lv_goto (tgt := 25) hx hb dX4_costOf_21 (by decide) ?_
      have h1 := rt1 hf
      rw [hQ]
      exact g_iret hx hb hr hlocks hP hS h1 rfl dX4_costOf_25
    refine lv_icmp_eq (tgt := 20) hx hb dX4_costOf_11 (by decide) (fun q3 => ?_) (fun q3 => ?_)
    · rw [if_pos q3] at hf
      exact hJ2 () _ _ ls hf hP hS (lv_sub hl [] rfl)
    · rw [if_neg q3] at hf
      refine lv_iload_n hx hb dX4_costOf_14 rfl (lv_at hl 0 rfl) ?_
      refine lv_bipush (v := 19) hx hb dX4_costOf_15 (by decide) ?_
      refine lv_icmp_ne (tgt := 24) hx hb dX4_costOf_17 (by decide) (fun q4 => ?_) (fun q4 => ?_)
      · rw [if_neg q4] at hf
        refine lv_iconst (v := 1) hx hb dX4_costOf_24 (by decide) ?_
        have h1 := rt1 hf
        rw [hQ]
        exact g_iret hx hb hr hlocks hP hS h1 rfl dX4_costOf_25
      · rw [if_pos q4] at hf
        exact hJ2 () _ _ ls hf hP hS (lv_sub hl [] rfl)
  · rw [if_pos q1] at hf
    refine lv_iconst (v := 3) hx hb dX4_costOf_6 (by decide) ?_
    have h1 := rt1 hf
    rw [hQ]
    exact g_iret hx hb hr hlocks hP hS h1 rfl dX4_costOf_7
def f_X4_make (σ : Mem) (a0 a1 a2 a3 a4 : Int32) : Option (Int32 × Mem) :=
if a0 = 0 then (
bd (f_X2_connect σ a1 a2 a3) fun σ2 =>
some (0, σ2))
else if a0 = 1 then (
gd a1 8 <| stp (mu σ 3 a1.toNatClampNeg a2) fun σ4 =>
some (0, σ4))
else if a0 = 2 then (
bd2 (f_X2_addStock σ a1 a2 a3 a4) fun v6 σ7 =>
some (v6, σ7))
else if a0 = 3 then (
bd2 (f_X2_addToFloor σ a1 a2 a3) fun v9 σ10 =>
some (v9, σ10))
else if a0 = 4 then (
bd2 (f_X1_add σ a1 a2 a3) fun v12 σ13 =>
some (v12, σ13))
else if a0 = 5 then (
bd2 (f_X3_add σ a1) fun v15 σ16 =>
some (v15, σ16))
else if a0 = 6 then (
bd2 (f_X3_addStage σ a1 a2 a3 a4) fun v18 σ19 =>
some (v18, σ19))
else if a0 = 7 then (
stp (mu σ 0 3 ((σ 0 3) + a1)) fun σ21 =>
some ((σ21 0 3), σ21))
else (
stp (mu σ 0 4 a1) fun σ22 =>
some (0, σ22))
set_option maxHeartbeats 4000000 in
set_option maxRecDepth 100000 in
theorem c_X4_make {l : Launch} {D : va_G} {cI cJ : ClassId} {ad : Nat → Nat} {σ : Mem} {a0 a1 a2 a3 a4 : Int32} {r : Int32} {σr : Mem}  (hi : injG 24 ad) (hf : f_X4_make σ a0 a1 a2 a3 a4 = some (r, σr)) : MGi l yX4_make (Cond.code yX4_make cX4_make 6 (some .int) :: BIG) 2 46 D cI cJ 24 ad (EW ad cI) [.ref (ad 0), .int a0, .int a1, .int a2, .int a3, .int a4] σ σr r := by
  refine MGi.ofW (cc := cX4_make) (nL := 6) (ret := (some .int)) (by decide) rfl hi ?_
  intro p e s m args below meth c hx hb hr hml hlocks hown hB hK hP hA hAd hS
  have hown : s.vm.findClass RX4 = some m.cls := hown
  have hl := lv_entry ([.ref (ad 0), .int a0, .int a1, .int a2, .int a3, .int a4] : List Value) (n := 6) (Nat.le_of_ble_eq_true rfl)
  rw [lg_entry_eq]
  generalize (lg_sl ([.ref (ad 0), .int a0, .int a1, .int a2, .int a3, .int a4] : List Value) ++ List.replicate (6 - (lg_sl ([.ref (ad 0), .int a0, .int a1, .int a2, .int a3, .int a4] : List Value)).length) Slot.unset).toArray = ls at hl ⊢
  have hl : lv_has ls 6 [(0, .ref (ad 0)), (1, .int a0), (2, .int a1), (3, .int a2), (4, .int a3), (5, .int a4)] := hl
  generalize hQ : MQ below (Qgi D 24 ad (EW ad cI) r σr s.heap.size) _ s 0 0 (AG 24 ad s.heap.size) = Q
  have hQ := hQ.symm
  obtain ⟨R, hR, hRf, hRl⟩ : ∃ R : Room, R = ({ frames := 2, cells := 0, slots := 0, locals := 46 } : Room) ∧ 2 ≤ R.frames ∧ 46 ≤ R.locals := ⟨_, rfl, Nat.le_refl _, Nat.le_refl _⟩
  rw [← hR]
  unfold f_X4_make at hf
  refine lv_iload_n hx hb dX4_make_0 rfl (lv_at hl 1 rfl) ?_
  by_cases q1 : a0 = 0
  · rw [if_pos q1] at hf
    refine lv_tableIn (off := 47) (tgt := 48) hx hb dX4_make_1 (by rw [q1]; decide) (by rw [q1]; decide) (by rw [q1]; rfl) (by decide) ?_
    refine lv_aload_n hx hb dX4_make_48 rfl (lv_at hl 0 rfl) ?_
    refine g_get (v := .ref (ad 1)) hx hb hB hown hK hP 0 (by decide) rfl rfl kU_X4 0 (by decide) kF_X4_12 rfl rfl dX4_make_49 ?_
    refine lv_iload_n hx hb dX4_make_52 rfl (lv_at hl 2 rfl) ?_
    refine lv_iload_n hx hb dX4_make_53 rfl (lv_at hl 3 rfl) ?_
    refine lv_iload hx hb dX4_make_54 (lv_at hl 4 rfl) ?_
    obtain ⟨σ2, hv, hf⟩ := bd_e hf
    refine g_cVvS (k0 := 1) ⟨⟨hx, hb, hml, hown, hB⟩, hK, hi, hA, hAd, hP, hS⟩ (c_X2_connect hi hv) cal_X2_connect kM_X4_74 ⟨Nat.le_trans (Nat.le_of_ble_eq_true rfl) hRf, Nat.le_trans (Nat.le_of_ble_eq_true rfl) hRl⟩ (by decide) rfl rfl rfl hl.1 (Nat.le_of_ble_eq_true rfl) rfl dX4_make_56 ⟨Nat.zero_le _, Nat.zero_le _⟩ (fun H locs hP hS => ?_)
    refine lv_iconst (v := 0) hx hb dX4_make_59 (by decide) ?_
    obtain ⟨h1, h2⟩ := rt2 hf
    rw [hQ]
    exact g_iret hx hb hr hlocks hP hS h1 h2 dX4_make_60
  · rw [if_neg q1] at hf
    by_cases q3 : a0 = 1
    · rw [if_pos q3] at hf
      refine lv_tableIn (off := 60) (tgt := 61) hx hb dX4_make_1 (by rw [q3]; decide) (by rw [q3]; decide) (by rw [q3]; rfl) (by decide) ?_
      refine lv_aload_n hx hb dX4_make_61 rfl (lv_at hl 0 rfl) ?_
      refine g_get (v := .ref (ad 1)) hx hb hB hown hK hP 0 (by decide) rfl rfl kU_X4 0 (by decide) kF_X4_12 rfl rfl dX4_make_62 ?_
      refine g_get (v := .ref (ad 3)) hx hb hB hown hK hP 1 (by decide) rfl rfl kU_X2 1 (by decide) kF_X4_77 rfl rfl dX4_make_65 ?_
      refine lv_iload_n hx hb dX4_make_68 rfl (lv_at hl 2 rfl) ?_
      refine lv_iload_n hx hb dX4_make_69 rfl (lv_at hl 3 rfl) ?_
      obtain ⟨hin, hf⟩ := gd_e hf
      obtain ⟨σ4, eσ4, hf⟩ := stp_e hf
      refine g_iast (σ1 := σ4) hx hb hK hP hi hAd hS 3 8 (by decide) (fun _ => rfl) hin dX4_make_70 eσ4 (fun H locs hP hS => ?_)
      refine lv_iconst (v := 0) hx hb dX4_make_71 (by decide) ?_
      obtain ⟨h1, h2⟩ := rt2 hf
      rw [hQ]
      exact g_iret hx hb hr hlocks hP hS h1 h2 dX4_make_72
    · rw [if_neg q3] at hf
      by_cases q5 : a0 = 2
      · rw [if_pos q5] at hf
        refine lv_tableIn (off := 72) (tgt := 73) hx hb dX4_make_1 (by rw [q5]; decide) (by rw [q5]; decide) (by rw [q5]; rfl) (by decide) ?_
        refine lv_aload_n hx hb dX4_make_73 rfl (lv_at hl 0 rfl) ?_
        refine g_get (v := .ref (ad 1)) hx hb hB hown hK hP 0 (by decide) rfl rfl kU_X4 0 (by decide) kF_X4_12 rfl rfl dX4_make_74 ?_
        refine lv_iload_n hx hb dX4_make_77 rfl (lv_at hl 2 rfl) ?_
        refine lv_iload_n hx hb dX4_make_78 rfl (lv_at hl 3 rfl) ?_
        refine lv_iload hx hb dX4_make_79 (lv_at hl 4 rfl) ?_
        refine lv_iload hx hb dX4_make_81 (lv_at hl 5 rfl) ?_
        obtain ⟨v6, σ7, hv, hf⟩ := bd2_e hf
        refine g_cViS (k0 := 1) ⟨⟨hx, hb, hml, hown, hB⟩, hK, hi, hA, hAd, hP, hS⟩ (c_X2_addStock hi hv) cal_X2_addStock kM_X4_80 ⟨Nat.le_trans (Nat.le_of_ble_eq_true rfl) hRf, Nat.le_trans (Nat.le_of_ble_eq_true rfl) hRl⟩ (by decide) rfl rfl rfl hl.1 (Nat.le_of_ble_eq_true rfl) rfl dX4_make_83 ⟨Nat.zero_le _, Nat.zero_le _⟩ (fun H locs hP hS => ?_)
        obtain ⟨h1, h2⟩ := rt2 hf
        rw [hQ]
        exact g_iret hx hb hr hlocks hP hS h1 h2 dX4_make_86
      · rw [if_neg q5] at hf
        by_cases q8 : a0 = 3
        · rw [if_pos q8] at hf
          refine lv_tableIn (off := 86) (tgt := 87) hx hb dX4_make_1 (by rw [q8]; decide) (by rw [q8]; decide) (by rw [q8]; rfl) (by decide) ?_
          refine lv_aload_n hx hb dX4_make_87 rfl (lv_at hl 0 rfl) ?_
          refine g_get (v := .ref (ad 1)) hx hb hB hown hK hP 0 (by decide) rfl rfl kU_X4 0 (by decide) kF_X4_12 rfl rfl dX4_make_88 ?_
          refine lv_iload_n hx hb dX4_make_91 rfl (lv_at hl 2 rfl) ?_
          refine lv_iload_n hx hb dX4_make_92 rfl (lv_at hl 3 rfl) ?_
          refine lv_iload hx hb dX4_make_93 (lv_at hl 4 rfl) ?_
          obtain ⟨v9, σ10, hv, hf⟩ := bd2_e hf
          refine g_cViS (k0 := 1) ⟨⟨hx, hb, hml, hown, hB⟩, hK, hi, hA, hAd, hP, hS⟩ (c_X2_addToFloor hi hv) cal_X2_addToFloor kM_X4_83 ⟨Nat.le_trans (Nat.le_of_ble_eq_true rfl) hRf, Nat.le_trans (Nat.le_of_ble_eq_true rfl) hRl⟩ (by decide) rfl rfl rfl hl.1 (Nat.le_of_ble_eq_true rfl) rfl dX4_make_95 ⟨Nat.zero_le _, Nat.zero_le _⟩ (fun H locs hP hS => ?_)
          obtain ⟨h1, h2⟩ := rt2 hf
          rw [hQ]
          exact g_iret hx hb hr hlocks hP hS h1 h2 dX4_make_98
        · rw [if_neg q8] at hf
          by_cases q11 : a0 = 4
          · rw [if_pos q11] at hf
            refine lv_tableIn (off := 98) (tgt := 99) hx hb dX4_make_1 (by rw [q11]; decide) (by rw [q11]; decide) (by rw [q11]; rfl) (by decide) ?_
            refine lv_aload_n hx hb dX4_make_99 rfl (lv_at hl 0 rfl) ?_
            refine g_get (v := .ref (ad 8)) hx hb hB hown hK hP 0 (by decide) rfl rfl kU_X4 1 (by decide) kF_X4_21 rfl rfl dX4_make_100 ?_
            refine lv_iload_n hx hb dX4_make_103 rfl (lv_at hl 2 rfl) ?_
            refine lv_iload_n hx hb dX4_make_104 rfl (lv_at hl 3 rfl) ?_
            refine lv_iload hx hb dX4_make_105 (lv_at hl 4 rfl) ?_
            obtain ⟨v12, σ13, hv, hf⟩ := bd2_e hf
            refine g_cViS (k0 := 8) ⟨⟨hx, hb, hml, hown, hB⟩, hK, hi, hA, hAd, hP, hS⟩ (c_X1_add hi hv) cal_X1_add kM_X4_87 ⟨Nat.le_trans (Nat.le_of_ble_eq_true rfl) hRf, Nat.le_trans (Nat.le_of_ble_eq_true rfl) hRl⟩ (by decide) rfl rfl rfl hl.1 (Nat.le_of_ble_eq_true rfl) rfl dX4_make_107 ⟨Nat.zero_le _, Nat.zero_le _⟩ (fun H locs hP hS => ?_)
            obtain ⟨h1, h2⟩ := rt2 hf
            rw [hQ]
            exact g_iret hx hb hr hlocks hP hS h1 h2 dX4_make_110
          · rw [if_neg q11] at hf
            by_cases q14 : a0 = 5
            · rw [if_pos q14] at hf
              refine lv_tableIn (off := 110) (tgt := 111) hx hb dX4_make_1 (by rw [q14]; decide) (by rw [q14]; decide) (by rw [q14]; rfl) (by decide) ?_
              refine lv_aload_n hx hb dX4_make_111 rfl (lv_at hl 0 rfl) ?_
              refine g_get (v := .ref (ad 18)) hx hb hB hown hK hP 0 (by decide) rfl rfl kU_X4 2 (by decide) kF_X4_28 rfl rfl dX4_make_112 ?_
              refine lv_iload_n hx hb dX4_make_115 rfl (lv_at hl 2 rfl) ?_
              obtain ⟨v15, σ16, hv, hf⟩ := bd2_e hf
              refine g_cViS (k0 := 18) ⟨⟨hx, hb, hml, hown, hB⟩, hK, hi, hA, hAd, hP, hS⟩ (c_X3_add hi hv) cal_X3_add kM_X4_90 ⟨Nat.le_trans (Nat.le_of_ble_eq_true rfl) hRf, Nat.le_trans (Nat.le_of_ble_eq_true rfl) hRl⟩ (by decide) rfl rfl rfl hl.1 (Nat.le_of_ble_eq_true rfl) rfl dX4_make_116 ⟨Nat.zero_le _, Nat.zero_le _⟩ (fun H locs hP hS => ?_)
              obtain ⟨h1, h2⟩ := rt2 hf
              rw [hQ]
              exact g_iret hx hb hr hlocks hP hS h1 h2 dX4_make_119
            · rw [if_neg q14] at hf
              by_cases q17 : a0 = 6
              · rw [if_pos q17] at hf
                refine lv_tableIn (off := 119) (tgt := 120) hx hb dX4_make_1 (by rw [q17]; decide) (by rw [q17]; decide) (by rw [q17]; rfl) (by decide) ?_
                refine lv_aload_n hx hb dX4_make_120 rfl (lv_at hl 0 rfl) ?_
                refine g_get (v := .ref (ad 18)) hx hb hB hown hK hP 0 (by decide) rfl rfl kU_X4 2 (by decide) kF_X4_28 rfl rfl dX4_make_121 ?_
                refine lv_iload_n hx hb dX4_make_124 rfl (lv_at hl 2 rfl) ?_
                refine lv_iload_n hx hb dX4_make_125 rfl (lv_at hl 3 rfl) ?_
                refine lv_iload hx hb dX4_make_126 (lv_at hl 4 rfl) ?_
                refine lv_iload hx hb dX4_make_128 (lv_at hl 5 rfl) ?_
                obtain ⟨v18, σ19, hv, hf⟩ := bd2_e hf
                refine g_cViS (k0 := 18) ⟨⟨hx, hb, hml, hown, hB⟩, hK, hi, hA, hAd, hP, hS⟩ (c_X3_addStage hi hv) cal_X3_addStage kM_X4_92 ⟨Nat.le_trans (Nat.le_of_ble_eq_true rfl) hRf, Nat.le_trans (Nat.le_of_ble_eq_true rfl) hRl⟩ (by decide) rfl rfl rfl hl.1 (Nat.le_of_ble_eq_true rfl) rfl dX4_make_130 ⟨Nat.zero_le _, Nat.zero_le _⟩ (fun H locs hP hS => ?_)
                obtain ⟨h1, h2⟩ := rt2 hf
                rw [hQ]
                exact g_iret hx hb hr hlocks hP hS h1 h2 dX4_make_133
              · rw [if_neg q17] at hf
                by_cases q20 : a0 = 7
                · rw [if_pos q20] at hf
                  refine lv_tableIn (off := 133) (tgt := 134) hx hb dX4_make_1 (by rw [q20]; decide) (by rw [q20]; decide) (by rw [q20]; rfl) (by decide) ?_
                  refine lv_aload_n hx hb dX4_make_134 rfl (lv_at hl 0 rfl) ?_
                  refine lv_dup hx hb dX4_make_135 rfl ?_
                  refine g_get (v := .int (σ 0 3)) hx hb hB hown hK hP 0 (by decide) rfl rfl kU_X4 3 (by decide) kF_X4_32 rfl rfl dX4_make_136 ?_
                  refine lv_iload_n hx hb dX4_make_139 rfl (lv_at hl 2 rfl) ?_
                  refine lv_iadd hx hb dX4_make_140 ?_
                  obtain ⟨σ21, eσ21, hf⟩ := stp_e hf
                  refine g_put (σ1 := σ21) hx hb hB hown hK hP hi hAd hS 0 (by decide) (fun f => [.ref (ad 1), .ref (ad 8), .ref (ad 18), .int (f 3), .int (f 4)]) (fun _ => rfl) rfl kU_X4 tyX4 tyX4_ok nmX4 3 (by decide) kF_X4_32 rfl (fun _ _ => rfl) (fun _ => Nat.le_of_ble_eq_true rfl) dX4_make_141 eσ21 (fun H locs hP hS => ?_)
                  refine lv_aload_n hx hb dX4_make_144 rfl (lv_at hl 0 rfl) ?_
                  refine g_get (v := .int (σ21 0 3)) hx hb hB hown hK hP 0 (by decide) rfl rfl kU_X4 3 (by decide) kF_X4_32 rfl rfl dX4_make_145 ?_
                  obtain ⟨h1, h2⟩ := rt2 hf
                  rw [hQ]
                  exact g_iret hx hb hr hlocks hP hS h1 h2 dX4_make_148
                · rw [if_neg q20] at hf
                  refine lv_tableOut (tgt := 149) hx hb dX4_make_1 (by have tq1 := ne_ti 0 rfl q1; have tq3 := ne_ti 1 rfl q3; have tq5 := ne_ti 2 rfl q5; have tq8 := ne_ti 3 rfl q8; have tq11 := ne_ti 4 rfl q11; have tq14 := ne_ti 5 rfl q14; have tq17 := ne_ti 6 rfl q17; have tq20 := ne_ti 7 rfl q20; omega) (by decide) ?_
                  refine lv_aload_n hx hb dX4_make_149 rfl (lv_at hl 0 rfl) ?_
                  refine lv_iload_n hx hb dX4_make_150 rfl (lv_at hl 2 rfl) ?_
                  obtain ⟨σ22, eσ22, hf⟩ := stp_e hf
                  refine g_put (σ1 := σ22) hx hb hB hown hK hP hi hAd hS 0 (by decide) (fun f => [.ref (ad 1), .ref (ad 8), .ref (ad 18), .int (f 3), .int (f 4)]) (fun _ => rfl) rfl kU_X4 tyX4 tyX4_ok nmX4 4 (by decide) kF_X4_36 rfl (fun _ _ => rfl) (fun _ => Nat.le_of_ble_eq_true rfl) dX4_make_151 eσ22 (fun H locs hP hS => ?_)
                  refine lv_iconst (v := 0) hx hb dX4_make_154 (by decide) ?_
                  obtain ⟨h1, h2⟩ := rt2 hf
                  rw [hQ]
                  exact g_iret hx hb hr hlocks hP hS h1 h2 dX4_make_155
def L_X4_tell_17 : Nat → (Int32 → Mem → Option (Int32 × Mem)) → Int32 → Int32 → Int32 → Int32 → Int32 → Int32 → Mem → Option (Int32 × Mem)
  | 0, _, _, _, _, _, _, _, _ => none
  | n + 1, k, x1, x2, x3, x4, x5, x6, σ7 =>
    if (σ7 8 0) ≤ x6 then (
    k x5 σ7)
    else (
    gd x6 4 <|
    jn (fun (y12 : Int32) (σ13 : Mem) =>
    jn (fun (x15 : Int32) (σ16 : Mem) =>
    L_X4_tell_17 n k x1 x2 x3 x4 x15 (x6 + 1) σ16) fun (J17 : Int32 → Mem → Option (Int32 × Mem)) =>
    if x6 = x1 then (
    J17 x5 σ13)
    else (
    if y12 = 0 then (
    J17 x5 σ13)
    else (
    bd (f_X1_hear σ13 x6 ((100 * x1) + x2)) fun σ20 =>
    J17 (x5 + 1) σ20))) fun (J14 : Int32 → Mem → Option (Int32 × Mem)) =>
    jn (fun (σ21 : Mem) =>
    J14 1 σ21) fun (J22 : Mem → Option (Int32 × Mem)) =>
    if (σ7 9 x6.toNatClampNeg) = x4 then (
    J22 σ7)
    else (
    jn (fun (σ24 : Mem) =>
    J14 0 σ24) fun (J25 : Mem → Option (Int32 × Mem)) =>
    if x3 = 0 then (
    J25 σ7)
    else (
    bd (f_X2_leadsTo σ7 x4 (σ7 9 x6.toNatClampNeg)) fun v27 =>
    if v27 = 0 then (
    J25 σ7)
    else (
    J22 σ7))))
def f_X4_tell (σ : Mem) (a0 a1 a2 : Int32) : Option (Int32 × Mem) :=
gd a0 4 <|
L_X4_tell_17 FU (fun (x9 : Int32) (σ10 : Mem) =>
some (x9, σ10)) a0 a1 a2 (σ 9 a0.toNatClampNeg) 0 0 σ
set_option maxHeartbeats 4000000 in
set_option maxRecDepth 100000 in
theorem c_X4_tell {l : Launch} {D : va_G} {cI cJ : ClassId} {ad : Nat → Nat} {σ : Mem} {a0 a1 a2 : Int32} {r : Int32} {σr : Mem}  (hi : injG 24 ad) (hf : f_X4_tell σ a0 a1 a2 = some (r, σr)) : MGi l yX4_tell (Cond.code yX4_tell cX4_tell 9 (some .int) :: BIG) 2 45 D cI cJ 24 ad (EW ad cI) [.ref (ad 0), .int a0, .int a1, .int a2] σ σr r := by
  refine MGi.ofW (cc := cX4_tell) (nL := 9) (ret := (some .int)) (by decide) rfl hi ?_
  intro p e s m args below meth c hx hb hr hml hlocks hown hB hK hP hA hAd hS
  have hown : s.vm.findClass RX4 = some m.cls := hown
  have hl := lv_entry ([.ref (ad 0), .int a0, .int a1, .int a2] : List Value) (n := 9) (Nat.le_of_ble_eq_true rfl)
  rw [lg_entry_eq]
  generalize (lg_sl ([.ref (ad 0), .int a0, .int a1, .int a2] : List Value) ++ List.replicate (9 - (lg_sl ([.ref (ad 0), .int a0, .int a1, .int a2] : List Value)).length) Slot.unset).toArray = ls at hl ⊢
  have hl : lv_has ls 9 [(0, .ref (ad 0)), (1, .int a0), (2, .int a1), (3, .int a2)] := hl
  generalize hQ : MQ below (Qgi D 24 ad (EW ad cI) r σr s.heap.size) _ s 0 0 (AG 24 ad s.heap.size) = Q
  have hQ := hQ.symm
  obtain ⟨R, hR, hRf, hRl⟩ : ∃ R : Room, R = ({ frames := 2, cells := 0, slots := 0, locals := 45 } : Room) ∧ 2 ≤ R.frames ∧ 45 ≤ R.locals := ⟨_, rfl, Nat.le_refl _, Nat.le_refl _⟩
  rw [← hR]
  unfold f_X4_tell at hf
  refine lv_aload_n hx hb dX4_tell_0 rfl (lv_at hl 0 rfl) ?_
  refine g_get (v := .ref (ad 8)) hx hb hB hown hK hP 0 (by decide) rfl rfl kU_X4 1 (by decide) kF_X4_21 rfl rfl dX4_tell_1 ?_
  refine g_get (v := .ref (ad 9)) hx hb hB hown hK hP 8 (by decide) rfl rfl kU_X1 1 (by decide) kF_X4_95 rfl rfl dX4_tell_4 ?_
  refine lv_iload_n hx hb dX4_tell_7 rfl (lv_at hl 1 rfl) ?_
  obtain ⟨hin, hf⟩ := gd_e hf
  refine g_iald hx hb hK hP 9 4 (by decide) rfl hin dX4_tell_8 ?_
  refine lv_istore (lv' := [(4, .int (σ 9 a0.toNatClampNeg)), (0, .ref (ad 0)), (1, .int a0), (2, .int a1), (3, .int a2)]) hx hb dX4_tell_9 hl (by decide) rfl (fun ls hl => ?_)
  refine lv_iconst (v := 0) hx hb dX4_tell_11 (by decide) ?_
  refine lv_istore (lv' := [(5, .int 0), (4, .int (σ 9 a0.toNatClampNeg)), (0, .ref (ad 0)), (1, .int a0), (2, .int a1), (3, .int a2)]) hx hb dX4_tell_12 hl (by decide) rfl (fun ls hl => ?_)
  refine lv_iconst (v := 0) hx hb dX4_tell_14 (by decide) ?_
  refine lv_istore (lv' := [(6, .int 0), (5, .int 0), (4, .int (σ 9 a0.toNatClampNeg)), (0, .ref (ad 0)), (1, .int a0), (2, .int a1), (3, .int a2)]) hx hb dX4_tell_15 hl (by decide) rfl (fun ls hl => ?_)
  obtain ⟨K8, eK8, hf⟩ := lp_e2 (b := fun K => L_X4_tell_17 FU K a0 a1 a2 (σ 9 a0.toNatClampNeg) 0 0 σ) hf
  replace hf : L_X4_tell_17 FU K8 a0 a1 a2 (σ 9 a0.toNatClampNeg) 0 0 σ = some (r, σr) := hf
  have hKK8 : ∀ (x9 : Int32) (σ10 : Mem) (H : Heap) (locs : List Loc) (ls : Array Slot), K8 x9 σ10 = some (r, σr) → va_P D vwCl (wsG 24 ad (EW ad cI) σ10) H → va_S (AG 24 ad s.heap.size) s.heap H locs → lv_has ls 9 [(5, .int x9)] → W p l e R s m args below meth c H locs 0 0 Q (F0 m 108 ls []) := by
    intro x9 σ10 H locs ls hf hP hS hl
    rw [eK8] at hf
    refine lv_iload hx hb dX4_tell_108 (lv_at hl 0 rfl) ?_
    obtain ⟨h1, h2⟩ := rt2 hf
    rw [hQ]
    exact g_iret hx hb hr hlocks hP hS h1 h2 dX4_tell_110
  have hL_X4_tell_17 : ∀ (n : Nat) (x5 : Int32) (x6 : Int32) (σ7 : Mem) (H : Heap) (locs : List Loc) (ls : Array Slot), L_X4_tell_17 n K8 a0 a1 a2 (σ 9 a0.toNatClampNeg) x5 x6 σ7 = some (r, σr) → va_P D vwCl (wsG 24 ad (EW ad cI) σ7) H → va_S (AG 24 ad s.heap.size) s.heap H locs → lv_has ls 9 [(0, .ref (ad 0)), (1, .int a0), (2, .int a1), (3, .int a2), (4, .int (σ 9 a0.toNatClampNeg)), (5, .int x5), (6, .int x6)] → W p l e R s m args below meth c H locs 0 0 Q (F0 m 17 ls []) := by
    intro n
    induction n with
    | zero => intro x5 x6 σ7 H locs ls hf; cases hf
    | succ n ih =>
      intro x5 x6 σ7 H locs ls hf hP hS hl
      rw [L_X4_tell_17] at hf
      refine lv_iload hx hb dX4_tell_17 (lv_at hl 6 rfl) ?_
      refine lv_aload_n hx hb dX4_tell_19 rfl (lv_at hl 0 rfl) ?_
      refine g_get (v := .ref (ad 8)) hx hb hB hown hK hP 0 (by decide) rfl rfl kU_X4 1 (by decide) kF_X4_21 rfl rfl dX4_tell_20 ?_
      refine g_get (v := .int (σ7 8 0)) hx hb hB hown hK hP 8 (by decide) rfl rfl kU_X1 0 (by decide) kF_X4_136 rfl rfl dX4_tell_23 ?_
      refine lv_icmp_ge (tgt := 108) hx hb dX4_tell_26 (by decide) (fun q11 => ?_) (fun q11 => ?_)
      · rw [if_pos q11] at hf
        exact hKK8 x5 σ7 _ _ ls hf hP hS (lv_sub hl [5] rfl)
      · rw [if_neg q11] at hf
        refine lv_aload_n hx hb dX4_tell_29 rfl (lv_at hl 0 rfl) ?_
        refine g_get (v := .ref (ad 8)) hx hb hB hown hK hP 0 (by decide) rfl rfl kU_X4 1 (by decide) kF_X4_21 rfl rfl dX4_tell_30 ?_
        refine g_get (v := .ref (ad 9)) hx hb hB hown hK hP 8 (by decide) rfl rfl kU_X1 1 (by decide) kF_X4_95 rfl rfl dX4_tell_33 ?_
        refine lv_iload hx hb dX4_tell_36 (lv_at hl 6 rfl) ?_
        obtain ⟨hin, hf⟩ := gd_e hf
        refine g_iald hx hb hK hP 9 4 (by decide) rfl hin dX4_tell_38 ?_
        refine lv_istore (lv' := [(7, .int (σ7 9 x6.toNatClampNeg)), (0, .ref (ad 0)), (1, .int a0), (2, .int a1), (3, .int a2), (4, .int (σ 9 a0.toNatClampNeg)), (5, .int x5), (6, .int x6)]) hx hb dX4_tell_39 hl (by decide) rfl (fun ls hl => ?_)
        refine lv_iload hx hb dX4_tell_41 (lv_at hl 0 rfl) ?_
        refine lv_iload hx hb dX4_tell_43 (lv_at hl 5 rfl) ?_
        obtain ⟨J14, eJ14, hf⟩ := jn_e2 hf
        have hJ14 : ∀ (y12 : Int32) (σ13 : Mem) (H : Heap) (locs : List Loc) (ls : Array Slot), J14 y12 σ13 = some (r, σr) → va_P D vwCl (wsG 24 ad (EW ad cI) σ13) H → va_S (AG 24 ad s.heap.size) s.heap H locs → lv_has ls 9 [(0, .ref (ad 0)), (1, .int a0), (2, .int a1), (3, .int a2), (4, .int (σ 9 a0.toNatClampNeg)), (5, .int x5), (6, .int x6)] → W p l e R s m args below meth c H locs 0 0 Q (F0 m 71 ls [.int y12]) := by
          intro y12 σ13 H locs ls hf hP hS hl
          rw [eJ14] at hf
          refine lv_istore (lv' := [(8, .int y12), (0, .ref (ad 0)), (1, .int a0), (2, .int a1), (3, .int a2), (4, .int (σ 9 a0.toNatClampNeg)), (5, .int x5), (6, .int x6)]) hx hb dX4_tell_71 hl (by decide) rfl (fun ls hl => ?_)
          refine lv_iload hx hb dX4_tell_73 (lv_at hl 7 rfl) ?_
          refine lv_iload_n hx hb dX4_tell_75 rfl (lv_at hl 2 rfl) ?_
          obtain ⟨J17, eJ17, hf⟩ := jn_e2 hf
          have hJ17 : ∀ (x15 : Int32) (σ16 : Mem) (H : Heap) (locs : List Loc) (ls : Array Slot), J17 x15 σ16 = some (r, σr) → va_P D vwCl (wsG 24 ad (EW ad cI) σ16) H → va_S (AG 24 ad s.heap.size) s.heap H locs → lv_has ls 9 [(0, .ref (ad 0)), (1, .int a0), (2, .int a1), (3, .int a2), (4, .int (σ 9 a0.toNatClampNeg)), (5, .int x15), (6, .int x6)] → W p l e R s m args below meth c H locs 0 0 Q (F0 m 102 ls []) := by
            intro x15 σ16 H locs ls hf hP hS hl
            rw [eJ17] at hf
            refine lv_iinc (v := (x6 + 1)) (lv' := [(6, .int (x6 + 1)), (0, .ref (ad 0)), (1, .int a0), (2, .int a1), (3, .int a2), (4, .int (σ 9 a0.toNatClampNeg)), (5, .int x15)]) hx hb dX4_tell_102 hl (k := 6) rfl rfl (by decide) rfl (fun ls hl => ?_)
            refine lv_goto (tgt := 17) hx hb dX4_tell_105 (by decide) ?_
            exact ih x15 (x6 + 1) σ16 _ _ ls hf hP hS (lv_sub hl [1, 2, 3, 4, 5, 6, 0] rfl)
          refine lv_icmp_eq (tgt := 102) hx hb dX4_tell_76 (by decide) (fun q18 => ?_) (fun q18 => ?_)
          · rw [if_pos q18] at hf
            exact hJ17 x5 σ13 _ _ ls hf hP hS (lv_sub hl [1, 2, 3, 4, 5, 6, 7] rfl)
          · rw [if_neg q18] at hf
            refine lv_iload hx hb dX4_tell_79 (lv_at hl 0 rfl) ?_
            refine lv_if_eq (tgt := 102) hx hb dX4_tell_81 (by decide) (fun q19 => ?_) (fun q19 => ?_)
            · rw [if_pos q19] at hf
              exact hJ17 x5 σ13 _ _ ls hf hP hS (lv_sub hl [1, 2, 3, 4, 5, 6, 7] rfl)
            · rw [if_neg q19] at hf
              refine lv_aload_n hx hb dX4_tell_84 rfl (lv_at hl 1 rfl) ?_
              refine g_get (v := .ref (ad 8)) hx hb hB hown hK hP 0 (by decide) rfl rfl kU_X4 1 (by decide) kF_X4_21 rfl rfl dX4_tell_85 ?_
              refine lv_iload hx hb dX4_tell_88 (lv_at hl 7 rfl) ?_
              refine lv_bipush (v := 100) hx hb dX4_tell_90 (by decide) ?_
              refine lv_iload_n hx hb dX4_tell_92 rfl (lv_at hl 2 rfl) ?_
              refine lv_imul hx hb dX4_tell_93 ?_
              refine lv_iload_n hx hb dX4_tell_94 rfl (lv_at hl 3 rfl) ?_
              refine lv_iadd hx hb dX4_tell_95 ?_
              obtain ⟨σ20, hv, hf⟩ := bd_e hf
              refine g_cVvS (k0 := 8) ⟨⟨hx, hb, hml, hown, hB⟩, hK, hi, hA, hAd, hP, hS⟩ (c_X1_hear hi hv) cal_X1_hear kM_X4_143 ⟨Nat.le_trans (Nat.le_of_ble_eq_true rfl) hRf, Nat.le_trans (Nat.le_of_ble_eq_true rfl) hRl⟩ (by decide) rfl rfl rfl hl.1 (Nat.le_of_ble_eq_true rfl) rfl dX4_tell_96 ⟨Nat.zero_le _, Nat.zero_le _⟩ (fun H locs hP hS => ?_)
              refine lv_iinc (v := (x5 + 1)) (lv' := [(5, .int (x5 + 1)), (8, .int y12), (0, .ref (ad 0)), (1, .int a0), (2, .int a1), (3, .int a2), (4, .int (σ 9 a0.toNatClampNeg)), (6, .int x6)]) hx hb dX4_tell_99 hl (k := 6) rfl rfl (by decide) rfl (fun ls hl => ?_)
              exact hJ17 (x5 + 1) σ20 _ _ ls hf hP hS (lv_sub hl [2, 3, 4, 5, 6, 0, 7] rfl)
        obtain ⟨J22, eJ22, hf⟩ := jn_e1 hf
        have hJ22 : ∀ (σ21 : Mem) (H : Heap) (locs : List Loc) (ls : Array Slot), J22 σ21 = some (r, σr) → va_P D vwCl (wsG 24 ad (EW ad cI) σ21) H → va_S (AG 24 ad s.heap.size) s.heap H locs → lv_has ls 9 [(0, .ref (ad 0)), (1, .int a0), (2, .int a1), (3, .int a2), (4, .int (σ 9 a0.toNatClampNeg)), (5, .int x5), (6, .int x6)] → W p l e R s m args below meth c H locs 0 0 Q (F0 m 66 ls []) := by
          intro σ21 H locs ls hf hP hS hl
          rw [eJ22] at hf
          refine lv_iconst (v := 1) hx hb dX4_tell_66 (by decide) ?_
          refine lv_goto (tgt := 71) hx hb dX4_tell_67 (by decide) ?_
          exact hJ14 1 σ21 _ _ ls hf hP hS (lv_sub hl [0, 1, 2, 3, 4, 5, 6] rfl)
        refine lv_icmp_eq (tgt := 66) hx hb dX4_tell_45 (by decide) (fun q23 => ?_) (fun q23 => ?_)
        · rw [if_pos q23] at hf
          exact hJ22 σ7 _ _ ls hf hP hS (lv_sub hl [1, 2, 3, 4, 5, 6, 7] rfl)
        · rw [if_neg q23] at hf
          refine lv_iload_n hx hb dX4_tell_48 rfl (lv_at hl 4 rfl) ?_
          obtain ⟨J25, eJ25, hf⟩ := jn_e1 hf
          have hJ25 : ∀ (σ24 : Mem) (H : Heap) (locs : List Loc) (ls : Array Slot), J25 σ24 = some (r, σr) → va_P D vwCl (wsG 24 ad (EW ad cI) σ24) H → va_S (AG 24 ad s.heap.size) s.heap H locs → lv_has ls 9 [(0, .ref (ad 0)), (1, .int a0), (2, .int a1), (3, .int a2), (4, .int (σ 9 a0.toNatClampNeg)), (5, .int x5), (6, .int x6)] → W p l e R s m args below meth c H locs 0 0 Q (F0 m 70 ls []) := by
            intro σ24 H locs ls hf hP hS hl
            rw [eJ25] at hf
            refine lv_iconst (v := 0) hx hb dX4_tell_70 (by decide) ?_
            exact hJ14 0 σ24 _ _ ls hf hP hS (lv_sub hl [0, 1, 2, 3, 4, 5, 6] rfl)
          refine lv_if_eq (tgt := 70) hx hb dX4_tell_49 (by decide) (fun q26 => ?_) (fun q26 => ?_)
          · rw [if_pos q26] at hf
            exact hJ25 σ7 _ _ ls hf hP hS (lv_sub hl [1, 2, 3, 4, 5, 6, 7] rfl)
          · rw [if_neg q26] at hf
            refine lv_aload_n hx hb dX4_tell_52 rfl (lv_at hl 1 rfl) ?_
            refine g_get (v := .ref (ad 1)) hx hb hB hown hK hP 0 (by decide) rfl rfl kU_X4 0 (by decide) kF_X4_12 rfl rfl dX4_tell_53 ?_
            refine lv_iload hx hb dX4_tell_56 (lv_at hl 5 rfl) ?_
            refine lv_iload hx hb dX4_tell_58 (lv_at hl 0 rfl) ?_
            obtain ⟨v27, hv, hf⟩ := bd_e hf
            refine g_cViS (k0 := 1) ⟨⟨hx, hb, hml, hown, hB⟩, hK, hi, hA, hAd, hP, hS⟩ (c_X2_leadsTo hi hv) cal_X2_leadsTo kM_X4_139 ⟨Nat.le_trans (Nat.le_of_ble_eq_true rfl) hRf, Nat.le_trans (Nat.le_of_ble_eq_true rfl) hRl⟩ (by decide) rfl rfl rfl hl.1 (Nat.le_of_ble_eq_true rfl) rfl dX4_tell_60 ⟨Nat.zero_le _, Nat.zero_le _⟩ (fun H locs hP hS => ?_)
            refine lv_if_eq (tgt := 70) hx hb dX4_tell_63 (by decide) (fun q28 => ?_) (fun q28 => ?_)
            · rw [if_pos q28] at hf
              exact hJ25 σ7 _ _ ls hf hP hS (lv_sub hl [1, 2, 3, 4, 5, 6, 7] rfl)
            · rw [if_neg q28] at hf
              exact hJ22 σ7 _ _ ls hf hP hS (lv_sub hl [1, 2, 3, 4, 5, 6, 7] rfl)
  exact hL_X4_tell_17 FU 0 0 σ _ _ ls hf hP hS (lv_sub hl [3, 4, 5, 6, 2, 1, 0] rfl)
def f_X4_trade (σ : Mem) (a0 a1 a2 a3 : Int32) : Option (Mem) :=
gd a0 4 <|
bd2 (f_X1_addGoods σ a0 a1 a2) fun v1 σ2 =>
bd (f_X5_goodsAt (σ 9 a0.toNatClampNeg) a1) fun v3 =>
gd v3 40 <|
gd v3 40 <| stp (mu σ2 5 v3.toNatClampNeg ((σ2 5 v3.toNatClampNeg) - a2)) fun σ4 =>
gd a0 4 <|
gd a0 4 <| stp (mu σ4 10 a0.toNatClampNeg ((σ4 10 a0.toNatClampNeg) - a3)) fun σ5 =>
gd (σ 9 a0.toNatClampNeg) 8 <|
gd (σ 9 a0.toNatClampNeg) 8 <| stp (mu σ5 3 (σ 9 a0.toNatClampNeg).toNatClampNeg ((σ5 3 (σ 9 a0.toNatClampNeg).toNatClampNeg) + a3)) fun σ6 =>
some σ6
set_option maxHeartbeats 4000000 in
set_option maxRecDepth 100000 in
theorem c_X4_trade {l : Launch} {D : va_G} {cI cJ : ClassId} {ad : Nat → Nat} {σ : Mem} {a0 a1 a2 a3 : Int32} {σr : Mem}  (hi : injG 24 ad) (hf : f_X4_trade σ a0 a1 a2 a3 = some σr) : MGv l yX4_trade (Cond.code yX4_trade cX4_trade 6 none :: BIG) 2 45 D cI cJ 24 ad (EW ad cI) [.ref (ad 0), .int a0, .int a1, .int a2, .int a3] σ σr := by
  refine MGv.ofW (cc := cX4_trade) (nL := 6) (ret := none) (by decide) rfl hi ?_
  intro p e s m args below meth c hx hb hr hml hlocks hown hB hK hP hA hAd hS
  have hown : s.vm.findClass RX4 = some m.cls := hown
  have hl := lv_entry ([.ref (ad 0), .int a0, .int a1, .int a2, .int a3] : List Value) (n := 6) (Nat.le_of_ble_eq_true rfl)
  rw [lg_entry_eq]
  generalize (lg_sl ([.ref (ad 0), .int a0, .int a1, .int a2, .int a3] : List Value) ++ List.replicate (6 - (lg_sl ([.ref (ad 0), .int a0, .int a1, .int a2, .int a3] : List Value)).length) Slot.unset).toArray = ls at hl ⊢
  have hl : lv_has ls 6 [(0, .ref (ad 0)), (1, .int a0), (2, .int a1), (3, .int a2), (4, .int a3)] := hl
  generalize hQ : MQ below (Qgv D 24 ad (EW ad cI) σr s.heap.size) _ s 0 0 (AG 24 ad s.heap.size) = Q
  have hQ := hQ.symm
  obtain ⟨R, hR, hRf, hRl⟩ : ∃ R : Room, R = ({ frames := 2, cells := 0, slots := 0, locals := 45 } : Room) ∧ 2 ≤ R.frames ∧ 45 ≤ R.locals := ⟨_, rfl, Nat.le_refl _, Nat.le_refl _⟩
  rw [← hR]
  unfold f_X4_trade at hf
  refine lv_aload_n hx hb dX4_trade_0 rfl (lv_at hl 0 rfl) ?_
  refine g_get (v := .ref (ad 8)) hx hb hB hown hK hP 0 (by decide) rfl rfl kU_X4 1 (by decide) kF_X4_21 rfl rfl dX4_trade_1 ?_
  refine g_get (v := .ref (ad 9)) hx hb hB hown hK hP 8 (by decide) rfl rfl kU_X1 1 (by decide) kF_X4_95 rfl rfl dX4_trade_4 ?_
  refine lv_iload_n hx hb dX4_trade_7 rfl (lv_at hl 1 rfl) ?_
  obtain ⟨hin, hf⟩ := gd_e hf
  refine g_iald hx hb hK hP 9 4 (by decide) rfl hin dX4_trade_8 ?_
  refine lv_istore (lv' := [(5, .int (σ 9 a0.toNatClampNeg)), (0, .ref (ad 0)), (1, .int a0), (2, .int a1), (3, .int a2), (4, .int a3)]) hx hb dX4_trade_9 hl (by decide) rfl (fun ls hl => ?_)
  refine lv_aload_n hx hb dX4_trade_11 rfl (lv_at hl 1 rfl) ?_
  refine g_get (v := .ref (ad 8)) hx hb hB hown hK hP 0 (by decide) rfl rfl kU_X4 1 (by decide) kF_X4_21 rfl rfl dX4_trade_12 ?_
  refine lv_iload_n hx hb dX4_trade_15 rfl (lv_at hl 2 rfl) ?_
  refine lv_iload_n hx hb dX4_trade_16 rfl (lv_at hl 3 rfl) ?_
  refine lv_iload_n hx hb dX4_trade_17 rfl (lv_at hl 4 rfl) ?_
  obtain ⟨v1, σ2, hv, hf⟩ := bd2_e hf
  refine g_cViS (k0 := 8) ⟨⟨hx, hb, hml, hown, hB⟩, hK, hi, hA, hAd, hP, hS⟩ (c_X1_addGoods hi hv) cal_X1_addGoods kM_X4_106 ⟨Nat.le_trans (Nat.le_of_ble_eq_true rfl) hRf, Nat.le_trans (Nat.le_of_ble_eq_true rfl) hRl⟩ (by decide) rfl rfl rfl hl.1 (Nat.le_of_ble_eq_true rfl) rfl dX4_trade_18 ⟨Nat.zero_le _, Nat.zero_le _⟩ (fun H locs hP hS => ?_)
  refine lv_pop hx hb dX4_trade_21 rfl ?_
  refine lv_aload_n hx hb dX4_trade_22 rfl (lv_at hl 1 rfl) ?_
  refine g_get (v := .ref (ad 1)) hx hb hB hown hK hP 0 (by decide) rfl rfl kU_X4 0 (by decide) kF_X4_12 rfl rfl dX4_trade_23 ?_
  refine g_get (v := .ref (ad 5)) hx hb hB hown hK hP 1 (by decide) rfl rfl kU_X2 3 (by decide) kF_X4_147 rfl rfl dX4_trade_26 ?_
  refine lv_iload hx hb dX4_trade_29 (lv_at hl 0 rfl) ?_
  refine lv_iload_n hx hb dX4_trade_31 rfl (lv_at hl 3 rfl) ?_
  obtain ⟨v3, hv, hf⟩ := bd_e hf
  refine g_cNi0 ⟨⟨hx, hb, hml, hown, hB⟩, hK, hi, hA, hAd, hP, hS⟩ (c_X5_goodsAt hv) cal_X5_goodsAt kN_X4_115 ⟨Nat.le_trans (Nat.le_of_ble_eq_true rfl) hRf, Nat.le_trans (Nat.le_of_ble_eq_true rfl) hRl⟩ rfl hl.1 (Nat.le_of_ble_eq_true rfl) rfl dX4_trade_32 ⟨Nat.zero_le _, Nat.zero_le _⟩ (fun H locs hP hS => ?_)
  refine lv_dup2_11 hx hb dX4_trade_35 rfl rfl ?_
  obtain ⟨hin, hf⟩ := gd_e hf
  refine g_iald hx hb hK hP 5 40 (by decide) rfl hin dX4_trade_36 ?_
  refine lv_iload_n hx hb dX4_trade_37 rfl (lv_at hl 4 rfl) ?_
  refine lv_isub hx hb dX4_trade_38 ?_
  obtain ⟨hin, hf⟩ := gd_e hf
  obtain ⟨σ4, eσ4, hf⟩ := stp_e hf
  refine g_iast (σ1 := σ4) hx hb hK hP hi hAd hS 5 40 (by decide) (fun _ => rfl) hin dX4_trade_39 eσ4 (fun H locs hP hS => ?_)
  refine lv_aload_n hx hb dX4_trade_40 rfl (lv_at hl 1 rfl) ?_
  refine g_get (v := .ref (ad 8)) hx hb hB hown hK hP 0 (by decide) rfl rfl kU_X4 1 (by decide) kF_X4_21 rfl rfl dX4_trade_41 ?_
  refine g_get (v := .ref (ad 10)) hx hb hB hown hK hP 8 (by decide) rfl rfl kU_X1 2 (by decide) kF_X4_71 rfl rfl dX4_trade_44 ?_
  refine lv_iload_n hx hb dX4_trade_47 rfl (lv_at hl 2 rfl) ?_
  refine lv_dup2_11 hx hb dX4_trade_48 rfl rfl ?_
  obtain ⟨hin, hf⟩ := gd_e hf
  refine g_iald hx hb hK hP 10 4 (by decide) rfl hin dX4_trade_49 ?_
  refine lv_iload hx hb dX4_trade_50 (lv_at hl 5 rfl) ?_
  refine lv_isub hx hb dX4_trade_52 ?_
  obtain ⟨hin, hf⟩ := gd_e hf
  obtain ⟨σ5, eσ5, hf⟩ := stp_e hf
  refine g_iast (σ1 := σ5) hx hb hK hP hi hAd hS 10 4 (by decide) (fun _ => rfl) hin dX4_trade_53 eσ5 (fun H locs hP hS => ?_)
  refine lv_aload_n hx hb dX4_trade_54 rfl (lv_at hl 1 rfl) ?_
  refine g_get (v := .ref (ad 1)) hx hb hB hown hK hP 0 (by decide) rfl rfl kU_X4 0 (by decide) kF_X4_12 rfl rfl dX4_trade_55 ?_
  refine g_get (v := .ref (ad 3)) hx hb hB hown hK hP 1 (by decide) rfl rfl kU_X2 1 (by decide) kF_X4_77 rfl rfl dX4_trade_58 ?_
  refine lv_iload hx hb dX4_trade_61 (lv_at hl 0 rfl) ?_
  refine lv_dup2_11 hx hb dX4_trade_63 rfl rfl ?_
  obtain ⟨hin, hf⟩ := gd_e hf
  refine g_iald hx hb hK hP 3 8 (by decide) rfl hin dX4_trade_64 ?_
  refine lv_iload hx hb dX4_trade_65 (lv_at hl 5 rfl) ?_
  refine lv_iadd hx hb dX4_trade_67 ?_
  obtain ⟨hin, hf⟩ := gd_e hf
  obtain ⟨σ6, eσ6, hf⟩ := stp_e hf
  refine g_iast (σ1 := σ6) hx hb hK hP hi hAd hS 3 8 (by decide) (fun _ => rfl) hin dX4_trade_68 eσ6 (fun H locs hP hS => ?_)
  have h2 := rt1 hf
  rw [hQ]
  exact g_vret hx hb hr hlocks hP hS h2 dX4_trade_69
def f_X4_roll (σ : Mem) : Option (Int32 × Mem) :=
stp (mu σ 0 4 (jrem ((25173 * (σ 0 4)) + 13849) 65536)) fun σ1 =>
some (((jrem (σ1 0 4) 6) + 1), σ1)
set_option maxHeartbeats 4000000 in
set_option maxRecDepth 100000 in
theorem c_X4_roll {l : Launch} {D : va_G} {cI cJ : ClassId} {ad : Nat → Nat} {σ : Mem} {r : Int32} {σr : Mem}  (hi : injG 24 ad) (hf : f_X4_roll σ = some (r, σr)) : MGi l yX4_roll (Cond.code yX4_roll cX4_roll 1 (some .int) :: BIG) 0 0 D cI cJ 24 ad (EW ad cI) [.ref (ad 0)] σ σr r := by
  refine MGi.ofW (cc := cX4_roll) (nL := 1) (ret := (some .int)) (by decide) rfl hi ?_
  intro p e s m args below meth c hx hb hr hml hlocks hown hB hK hP hA hAd hS
  have hown : s.vm.findClass RX4 = some m.cls := hown
  have hl := lv_entry ([.ref (ad 0)] : List Value) (n := 1) (Nat.le_of_ble_eq_true rfl)
  rw [lg_entry_eq]
  generalize (lg_sl ([.ref (ad 0)] : List Value) ++ List.replicate (1 - (lg_sl ([.ref (ad 0)] : List Value)).length) Slot.unset).toArray = ls at hl ⊢
  have hl : lv_has ls 1 [(0, .ref (ad 0))] := hl
  generalize hQ : MQ below (Qgi D 24 ad (EW ad cI) r σr s.heap.size) _ s 0 0 (AG 24 ad s.heap.size) = Q
  have hQ := hQ.symm
  obtain ⟨R, hR, hRf, hRl⟩ : ∃ R : Room, R = ({ frames := 0, cells := 0, slots := 0, locals := 0 } : Room) ∧ 0 ≤ R.frames ∧ 0 ≤ R.locals := ⟨_, rfl, Nat.le_refl _, Nat.le_refl _⟩
  rw [← hR]
  unfold f_X4_roll at hf
  refine lv_aload_n hx hb dX4_roll_0 rfl (lv_at hl 0 rfl) ?_
  refine lv_sipush (v := 25173) hx hb dX4_roll_1 (by decide) ?_
  refine lv_aload_n hx hb dX4_roll_4 rfl (lv_at hl 0 rfl) ?_
  refine g_get (v := .int (σ 0 4)) hx hb hB hown hK hP 0 (by decide) rfl rfl kU_X4 4 (by decide) kF_X4_36 rfl rfl dX4_roll_5 ?_
  refine lv_imul hx hb dX4_roll_8 ?_
  refine lv_sipush (v := 13849) hx hb dX4_roll_9 (by decide) ?_
  refine lv_iadd hx hb dX4_roll_12 ?_
  refine lv_ldc (v := 65536) hx hb hown (hB _ kC_X4_150) dX4_roll_13 ?_
  refine lv_irem hx hb dX4_roll_15 (by decide) ?_
  obtain ⟨σ1, eσ1, hf⟩ := stp_e hf
  refine g_put (σ1 := σ1) hx hb hB hown hK hP hi hAd hS 0 (by decide) (fun f => [.ref (ad 1), .ref (ad 8), .ref (ad 18), .int (f 3), .int (f 4)]) (fun _ => rfl) rfl kU_X4 tyX4 tyX4_ok nmX4 4 (by decide) kF_X4_36 rfl (fun _ _ => rfl) (fun _ => Nat.le_of_ble_eq_true rfl) dX4_roll_16 eσ1 (fun H locs hP hS => ?_)
  refine lv_aload_n hx hb dX4_roll_19 rfl (lv_at hl 0 rfl) ?_
  refine g_get (v := .int (σ1 0 4)) hx hb hB hown hK hP 0 (by decide) rfl rfl kU_X4 4 (by decide) kF_X4_36 rfl rfl dX4_roll_20 ?_
  refine lv_bipush (v := 6) hx hb dX4_roll_23 (by decide) ?_
  refine lv_irem hx hb dX4_roll_25 (by decide) ?_
  refine lv_iconst (v := 1) hx hb dX4_roll_26 (by decide) ?_
  refine lv_iadd hx hb dX4_roll_27 ?_
  obtain ⟨h1, h2⟩ := rt2 hf
  rw [hQ]
  exact g_iret hx hb hr hlocks hP hS h1 h2 dX4_roll_28
def L_X4_fight_2 : Nat → (Mem → Option (Int32 × Mem)) → Int32 → Int32 → Int32 → Mem → Option (Int32 × Mem)
  | 0, _, _, _, _, _ => none
  | n + 1, k, x1, x2, x3, σ4 =>
    if 3 ≤ x3 then (
    k σ4)
    else (
    bd2 (f_X4_roll σ4) fun v8 σ9 =>
    gd x1 4 <|
    bd2 (f_X4_roll σ9) fun v10 σ11 =>
    gd x2 4 <|
    jn (fun (y12 : Int32) (σ13 : Mem) =>
    gd y12 4 <|
    gd y12 4 <| stp (mu σ13 12 y12.toNatClampNeg ((σ13 12 y12.toNatClampNeg) - (jabs ((v8 + (σ9 11 x1.toNatClampNeg)) - (v10 + (σ11 11 x2.toNatClampNeg)))))) fun σ15 =>
    gd y12 4 <|
    if 0 < (σ15 12 y12.toNatClampNeg) then (
    L_X4_fight_2 n k x1 x2 (x3 + 1) σ15)
    else (
    some (y12, σ15))) fun (J14 : Int32 → Mem → Option (Int32 × Mem)) =>
    if (v10 + (σ11 11 x2.toNatClampNeg)) ≤ (v8 + (σ9 11 x1.toNatClampNeg)) then (
    J14 x2 σ11)
    else (
    J14 x1 σ11))
def f_X4_fight (σ : Mem) (a0 a1 : Int32) : Option (Int32 × Mem) :=
L_X4_fight_2 FU (fun (σ6 : Mem) =>
some ((-1), σ6)) a0 a1 0 σ
set_option maxHeartbeats 4000000 in
set_option maxRecDepth 100000 in
theorem c_X4_fight {l : Launch} {D : va_G} {cI cJ : ClassId} {ad : Nat → Nat} {σ : Mem} {a0 a1 : Int32} {r : Int32} {σr : Mem}  (hi : injG 24 ad) (hf : f_X4_fight σ a0 a1 = some (r, σr)) : MGi l yX4_fight (Cond.code yX4_fight cX4_fight 7 (some .int) :: BIG) 1 21 D cI cJ 24 ad (EW ad cI) [.ref (ad 0), .int a0, .int a1] σ σr r := by
  refine MGi.ofW (cc := cX4_fight) (nL := 7) (ret := (some .int)) (by decide) rfl hi ?_
  intro p e s m args below meth c hx hb hr hml hlocks hown hB hK hP hA hAd hS
  have hown : s.vm.findClass RX4 = some m.cls := hown
  have hl := lv_entry ([.ref (ad 0), .int a0, .int a1] : List Value) (n := 7) (Nat.le_of_ble_eq_true rfl)
  rw [lg_entry_eq]
  generalize (lg_sl ([.ref (ad 0), .int a0, .int a1] : List Value) ++ List.replicate (7 - (lg_sl ([.ref (ad 0), .int a0, .int a1] : List Value)).length) Slot.unset).toArray = ls at hl ⊢
  have hl : lv_has ls 7 [(0, .ref (ad 0)), (1, .int a0), (2, .int a1)] := hl
  generalize hQ : MQ below (Qgi D 24 ad (EW ad cI) r σr s.heap.size) _ s 0 0 (AG 24 ad s.heap.size) = Q
  have hQ := hQ.symm
  obtain ⟨R, hR, hRf, hRl⟩ : ∃ R : Room, R = ({ frames := 1, cells := 0, slots := 0, locals := 21 } : Room) ∧ 1 ≤ R.frames ∧ 21 ≤ R.locals := ⟨_, rfl, Nat.le_refl _, Nat.le_refl _⟩
  rw [← hR]
  unfold f_X4_fight at hf
  refine lv_iconst (v := 0) hx hb dX4_fight_0 (by decide) ?_
  refine lv_istore_n (lv' := [(3, .int 0), (0, .ref (ad 0)), (1, .int a0), (2, .int a1)]) hx hb dX4_fight_1 rfl hl (by decide) rfl (fun ls hl => ?_)
  obtain ⟨K5, eK5, hf⟩ := lp_e1 (b := fun K => L_X4_fight_2 FU K a0 a1 0 σ) hf
  replace hf : L_X4_fight_2 FU K5 a0 a1 0 σ = some (r, σr) := hf
  have hKK5 : ∀ (σ6 : Mem) (H : Heap) (locs : List Loc) (ls : Array Slot), K5 σ6 = some (r, σr) → va_P D vwCl (wsG 24 ad (EW ad cI) σ6) H → va_S (AG 24 ad s.heap.size) s.heap H locs → lv_has ls 7 [] → W p l e R s m args below meth c H locs 0 0 Q (F0 m 96 ls []) := by
    intro σ6 H locs ls hf hP hS hl
    rw [eK5] at hf
    refine lv_iconst (v := (-1)) hx hb dX4_fight_96 (by decide) ?_
    obtain ⟨h1, h2⟩ := rt2 hf
    rw [hQ]
    exact g_iret hx hb hr hlocks hP hS h1 h2 dX4_fight_97
  have hL_X4_fight_2 : ∀ (n : Nat) (x3 : Int32) (σ4 : Mem) (H : Heap) (locs : List Loc) (ls : Array Slot), L_X4_fight_2 n K5 a0 a1 x3 σ4 = some (r, σr) → va_P D vwCl (wsG 24 ad (EW ad cI) σ4) H → va_S (AG 24 ad s.heap.size) s.heap H locs → lv_has ls 7 [(0, .ref (ad 0)), (1, .int a0), (2, .int a1), (3, .int x3)] → W p l e R s m args below meth c H locs 0 0 Q (F0 m 2 ls []) := by
    intro n
    induction n with
    | zero => intro x3 σ4 H locs ls hf; cases hf
    | succ n ih =>
      intro x3 σ4 H locs ls hf hP hS hl
      rw [L_X4_fight_2] at hf
      refine lv_iload_n hx hb dX4_fight_2 rfl (lv_at hl 3 rfl) ?_
      refine lv_iconst (v := 3) hx hb dX4_fight_3 (by decide) ?_
      refine lv_icmp_ge (tgt := 96) hx hb dX4_fight_4 (by decide) (fun q7 => ?_) (fun q7 => ?_)
      · rw [if_pos q7] at hf
        exact hKK5 σ4 _ _ ls hf hP hS (lv_sub hl [] rfl)
      · rw [if_neg q7] at hf
        refine lv_aload_n hx hb dX4_fight_7 rfl (lv_at hl 0 rfl) ?_
        obtain ⟨v8, σ9, hv, hf⟩ := bd2_e hf
        refine g_cViS (k0 := 0) ⟨⟨hx, hb, hml, hown, hB⟩, hK, hi, hA, hAd, hP, hS⟩ (c_X4_roll hi hv) cal_X4_roll kM_X4_151 ⟨Nat.le_trans (Nat.le_of_ble_eq_true rfl) hRf, Nat.le_trans (Nat.le_of_ble_eq_true rfl) hRl⟩ (by decide) rfl rfl rfl hl.1 (Nat.le_of_ble_eq_true rfl) rfl dX4_fight_8 ⟨Nat.zero_le _, Nat.zero_le _⟩ (fun H locs hP hS => ?_)
        refine lv_aload_n hx hb dX4_fight_11 rfl (lv_at hl 0 rfl) ?_
        refine g_get (v := .ref (ad 8)) hx hb hB hown hK hP 0 (by decide) rfl rfl kU_X4 1 (by decide) kF_X4_21 rfl rfl dX4_fight_12 ?_
        refine g_get (v := .ref (ad 11)) hx hb hB hown hK hP 8 (by decide) rfl rfl kU_X1 3 (by decide) kF_X4_154 rfl rfl dX4_fight_15 ?_
        refine lv_iload_n hx hb dX4_fight_18 rfl (lv_at hl 1 rfl) ?_
        obtain ⟨hin, hf⟩ := gd_e hf
        refine g_iald hx hb hK hP 11 4 (by decide) rfl hin dX4_fight_19 ?_
        refine lv_iadd hx hb dX4_fight_20 ?_
        refine lv_istore (lv' := [(4, .int (v8 + (σ9 11 a0.toNatClampNeg))), (0, .ref (ad 0)), (1, .int a0), (2, .int a1), (3, .int x3)]) hx hb dX4_fight_21 hl (by decide) rfl (fun ls hl => ?_)
        refine lv_aload_n hx hb dX4_fight_23 rfl (lv_at hl 1 rfl) ?_
        obtain ⟨v10, σ11, hv, hf⟩ := bd2_e hf
        refine g_cViS (k0 := 0) ⟨⟨hx, hb, hml, hown, hB⟩, hK, hi, hA, hAd, hP, hS⟩ (c_X4_roll hi hv) cal_X4_roll kM_X4_151 ⟨Nat.le_trans (Nat.le_of_ble_eq_true rfl) hRf, Nat.le_trans (Nat.le_of_ble_eq_true rfl) hRl⟩ (by decide) rfl rfl rfl hl.1 (Nat.le_of_ble_eq_true rfl) rfl dX4_fight_24 ⟨Nat.zero_le _, Nat.zero_le _⟩ (fun H locs hP hS => ?_)
        refine lv_aload_n hx hb dX4_fight_27 rfl (lv_at hl 1 rfl) ?_
        refine g_get (v := .ref (ad 8)) hx hb hB hown hK hP 0 (by decide) rfl rfl kU_X4 1 (by decide) kF_X4_21 rfl rfl dX4_fight_28 ?_
        refine g_get (v := .ref (ad 11)) hx hb hB hown hK hP 8 (by decide) rfl rfl kU_X1 3 (by decide) kF_X4_154 rfl rfl dX4_fight_31 ?_
        refine lv_iload_n hx hb dX4_fight_34 rfl (lv_at hl 3 rfl) ?_
        obtain ⟨hin, hf⟩ := gd_e hf
        refine g_iald hx hb hK hP 11 4 (by decide) rfl hin dX4_fight_35 ?_
        refine lv_iadd hx hb dX4_fight_36 ?_
        refine lv_istore (lv' := [(5, .int (v10 + (σ11 11 a1.toNatClampNeg))), (4, .int (v8 + (σ9 11 a0.toNatClampNeg))), (0, .ref (ad 0)), (1, .int a0), (2, .int a1), (3, .int x3)]) hx hb dX4_fight_37 hl (by decide) rfl (fun ls hl => ?_)
        refine lv_iload hx hb dX4_fight_39 (lv_at hl 1 rfl) ?_
        refine lv_iload hx hb dX4_fight_41 (lv_at hl 0 rfl) ?_
        obtain ⟨J14, eJ14, hf⟩ := jn_e2 hf
        have hJ14 : ∀ (y12 : Int32) (σ13 : Mem) (H : Heap) (locs : List Loc) (ls : Array Slot), J14 y12 σ13 = some (r, σr) → va_P D vwCl (wsG 24 ad (EW ad cI) σ13) H → va_S (AG 24 ad s.heap.size) s.heap H locs → lv_has ls 7 [(0, .ref (ad 0)), (1, .int a0), (2, .int a1), (3, .int x3), (4, .int (v8 + (σ9 11 a0.toNatClampNeg))), (5, .int (v10 + (σ11 11 a1.toNatClampNeg)))] → W p l e R s m args below meth c H locs 0 0 Q (F0 m 51 ls [.int y12]) := by
          intro y12 σ13 H locs ls hf hP hS hl
          rw [eJ14] at hf
          refine lv_istore (lv' := [(6, .int y12), (0, .ref (ad 0)), (1, .int a0), (2, .int a1), (3, .int x3), (4, .int (v8 + (σ9 11 a0.toNatClampNeg))), (5, .int (v10 + (σ11 11 a1.toNatClampNeg)))]) hx hb dX4_fight_51 hl (by decide) rfl (fun ls hl => ?_)
          refine lv_aload_n hx hb dX4_fight_53 rfl (lv_at hl 1 rfl) ?_
          refine g_get (v := .ref (ad 8)) hx hb hB hown hK hP 0 (by decide) rfl rfl kU_X4 1 (by decide) kF_X4_21 rfl rfl dX4_fight_54 ?_
          refine g_get (v := .ref (ad 12)) hx hb hB hown hK hP 8 (by decide) rfl rfl kU_X1 4 (by decide) kF_X4_128 rfl rfl dX4_fight_57 ?_
          refine lv_iload hx hb dX4_fight_60 (lv_at hl 0 rfl) ?_
          refine lv_dup2_11 hx hb dX4_fight_62 rfl rfl ?_
          obtain ⟨hin, hf⟩ := gd_e hf
          refine g_iald hx hb hK hP 12 4 (by decide) rfl hin dX4_fight_63 ?_
          refine lv_iload hx hb dX4_fight_64 (lv_at hl 5 rfl) ?_
          refine lv_iload hx hb dX4_fight_66 (lv_at hl 6 rfl) ?_
          refine lv_isub hx hb dX4_fight_68 ?_
          refine va_mabs hx hb (hml.trans hl.1.symm) hown (hB _ kJ_X4_157) (hB _ kJ_abs.1) (hB _ kJ_abs.2.1) (hB _ kJ_abs.2.2) (Nat.le_trans (Nat.le_of_ble_eq_true rfl) hRf) (Nat.le_trans (Nat.le_of_ble_eq_true rfl) hRl) (Nat.zero_le _) (Nat.zero_le _) dX4_fight_69 ?_
          refine lv_isub hx hb dX4_fight_72 ?_
          obtain ⟨hin, hf⟩ := gd_e hf
          obtain ⟨σ15, eσ15, hf⟩ := stp_e hf
          refine g_iast (σ1 := σ15) hx hb hK hP hi hAd hS 12 4 (by decide) (fun _ => rfl) hin dX4_fight_73 eσ15 (fun H locs hP hS => ?_)
          refine lv_aload_n hx hb dX4_fight_74 rfl (lv_at hl 1 rfl) ?_
          refine g_get (v := .ref (ad 8)) hx hb hB hown hK hP 0 (by decide) rfl rfl kU_X4 1 (by decide) kF_X4_21 rfl rfl dX4_fight_75 ?_
          refine g_get (v := .ref (ad 12)) hx hb hB hown hK hP 8 (by decide) rfl rfl kU_X1 4 (by decide) kF_X4_128 rfl rfl dX4_fight_78 ?_
          refine lv_iload hx hb dX4_fight_81 (lv_at hl 0 rfl) ?_
          obtain ⟨hin, hf⟩ := gd_e hf
          refine g_iald hx hb hK hP 12 4 (by decide) rfl hin dX4_fight_83 ?_
          refine lv_if_gt (tgt := 90) hx hb dX4_fight_84 (by decide) (fun q16 => ?_) (fun q16 => ?_)
          · rw [if_pos q16] at hf
            refine lv_iinc (v := (x3 + 1)) (lv' := [(3, .int (x3 + 1)), (6, .int y12), (0, .ref (ad 0)), (1, .int a0), (2, .int a1), (4, .int (v8 + (σ9 11 a0.toNatClampNeg))), (5, .int (v10 + (σ11 11 a1.toNatClampNeg)))]) hx hb dX4_fight_90 hl (k := 4) rfl rfl (by decide) rfl (fun ls hl => ?_)
            refine lv_goto (tgt := 2) hx hb dX4_fight_93 (by decide) ?_
            exact ih (x3 + 1) σ15 _ _ ls hf hP hS (lv_sub hl [2, 3, 4, 0] rfl)
          · rw [if_neg q16] at hf
            refine lv_iload hx hb dX4_fight_87 (lv_at hl 0 rfl) ?_
            obtain ⟨h1, h2⟩ := rt2 hf
            rw [hQ]
            exact g_iret hx hb hr hlocks hP hS h1 h2 dX4_fight_89
        refine lv_icmp_ge (tgt := 50) hx hb dX4_fight_43 (by decide) (fun q17 => ?_) (fun q17 => ?_)
        · rw [if_pos q17] at hf
          refine lv_iload_n hx hb dX4_fight_50 rfl (lv_at hl 4 rfl) ?_
          exact hJ14 a1 σ11 _ _ ls hf hP hS (lv_sub hl [2, 3, 4, 5, 1, 0] rfl)
        · rw [if_neg q17] at hf
          refine lv_iload_n hx hb dX4_fight_46 rfl (lv_at hl 3 rfl) ?_
          refine lv_goto (tgt := 51) hx hb dX4_fight_47 (by decide) ?_
          exact hJ14 a0 σ11 _ _ ls hf hP hS (lv_sub hl [2, 3, 4, 5, 1, 0] rfl)
  exact hL_X4_fight_2 FU 0 σ _ _ ls hf hP hS (lv_sub hl [1, 2, 3, 0] rfl)
def L_X4_defeat_23 : Nat → (Mem → Option (Mem)) → Int32 → Int32 → Int32 → Mem → Option (Mem)
  | 0, _, _, _, _, _ => none
  | n + 1, k, x2, x3, x4, σ5 =>
    if 5 ≤ x4 then (
    k σ5)
    else (
    bd (f_X5_goodsAt x2 x4) fun v12 =>
    gd v12 20 <|
    bd2 (f_X1_addGoods σ5 x2 x4 (-(σ5 14 v12.toNatClampNeg))) fun v13 σ14 =>
    gd x2 4 <|
    bd2 (f_X2_addToFloor σ14 (σ14 9 x2.toNatClampNeg) x4 (σ5 14 v12.toNatClampNeg)) fun v15 σ16 =>
    L_X4_defeat_23 n k x2 x3 (x4 + 1) σ16)
def f_X4_defeat (σ : Mem) (a0 a1 a2 : Int32) : Option (Mem) :=
gd a0 4 <|
bd (f_X1_payOut σ a0 a1 ((σ 10 a0.toNatClampNeg) / 2)) fun σ1 =>
L_X4_defeat_23 FU (fun (σ7 : Mem) =>
gd a0 4 <| stp (mu σ7 9 a0.toNatClampNeg 0) fun σ8 =>
gd a0 4 <| stp (mu σ8 12 a0.toNatClampNeg 10) fun σ9 =>
gd a0 4 <|
gd a0 4 <| stp (mu σ9 13 a0.toNatClampNeg (jmax (σ9 13 a0.toNatClampNeg) (a2 + 10))) fun σ10 =>
some σ10) a0 a2 0 σ1
set_option maxHeartbeats 4000000 in
set_option maxRecDepth 100000 in
theorem c_X4_defeat {l : Launch} {D : va_G} {cI cJ : ClassId} {ad : Nat → Nat} {σ : Mem} {a0 a1 a2 : Int32} {σr : Mem}  (hi : injG 24 ad) (hf : f_X4_defeat σ a0 a1 a2 = some σr) : MGv l yX4_defeat (Cond.code yX4_defeat cX4_defeat 6 none :: BIG) 2 45 D cI cJ 24 ad (EW ad cI) [.ref (ad 0), .int a0, .int a1, .int a2] σ σr := by
  refine MGv.ofW (cc := cX4_defeat) (nL := 6) (ret := none) (by decide) rfl hi ?_
  intro p e s m args below meth c hx hb hr hml hlocks hown hB hK hP hA hAd hS
  have hown : s.vm.findClass RX4 = some m.cls := hown
  have hl := lv_entry ([.ref (ad 0), .int a0, .int a1, .int a2] : List Value) (n := 6) (Nat.le_of_ble_eq_true rfl)
  rw [lg_entry_eq]
  generalize (lg_sl ([.ref (ad 0), .int a0, .int a1, .int a2] : List Value) ++ List.replicate (6 - (lg_sl ([.ref (ad 0), .int a0, .int a1, .int a2] : List Value)).length) Slot.unset).toArray = ls at hl ⊢
  have hl : lv_has ls 6 [(0, .ref (ad 0)), (1, .int a0), (2, .int a1), (3, .int a2)] := hl
  generalize hQ : MQ below (Qgv D 24 ad (EW ad cI) σr s.heap.size) _ s 0 0 (AG 24 ad s.heap.size) = Q
  have hQ := hQ.symm
  obtain ⟨R, hR, hRf, hRl⟩ : ∃ R : Room, R = ({ frames := 2, cells := 0, slots := 0, locals := 45 } : Room) ∧ 2 ≤ R.frames ∧ 45 ≤ R.locals := ⟨_, rfl, Nat.le_refl _, Nat.le_refl _⟩
  rw [← hR]
  unfold f_X4_defeat at hf
  refine lv_aload_n hx hb dX4_defeat_0 rfl (lv_at hl 0 rfl) ?_
  refine g_get (v := .ref (ad 8)) hx hb hB hown hK hP 0 (by decide) rfl rfl kU_X4 1 (by decide) kF_X4_21 rfl rfl dX4_defeat_1 ?_
  refine lv_iload_n hx hb dX4_defeat_4 rfl (lv_at hl 1 rfl) ?_
  refine lv_iload_n hx hb dX4_defeat_5 rfl (lv_at hl 2 rfl) ?_
  refine lv_aload_n hx hb dX4_defeat_6 rfl (lv_at hl 0 rfl) ?_
  refine g_get (v := .ref (ad 8)) hx hb hB hown hK hP 0 (by decide) rfl rfl kU_X4 1 (by decide) kF_X4_21 rfl rfl dX4_defeat_7 ?_
  refine g_get (v := .ref (ad 10)) hx hb hB hown hK hP 8 (by decide) rfl rfl kU_X1 2 (by decide) kF_X4_71 rfl rfl dX4_defeat_10 ?_
  refine lv_iload_n hx hb dX4_defeat_13 rfl (lv_at hl 1 rfl) ?_
  obtain ⟨hin, hf⟩ := gd_e hf
  refine g_iald hx hb hK hP 10 4 (by decide) rfl hin dX4_defeat_14 ?_
  refine lv_iconst (v := 2) hx hb dX4_defeat_15 (by decide) ?_
  refine lv_idiv hx hb dX4_defeat_16 (by decide) ?_
  obtain ⟨σ1, hv, hf⟩ := bd_e hf
  refine g_cVvS (k0 := 8) ⟨⟨hx, hb, hml, hown, hB⟩, hK, hi, hA, hAd, hP, hS⟩ (c_X1_payOut hi hv) cal_X1_payOut kM_X4_109 ⟨Nat.le_trans (Nat.le_of_ble_eq_true rfl) hRf, Nat.le_trans (Nat.le_of_ble_eq_true rfl) hRl⟩ (by decide) rfl rfl rfl hl.1 (Nat.le_of_ble_eq_true rfl) rfl dX4_defeat_17 ⟨Nat.zero_le _, Nat.zero_le _⟩ (fun H locs hP hS => ?_)
  refine lv_iconst (v := 0) hx hb dX4_defeat_20 (by decide) ?_
  refine lv_istore (lv' := [(4, .int 0), (0, .ref (ad 0)), (1, .int a0), (2, .int a1), (3, .int a2)]) hx hb dX4_defeat_21 hl (by decide) rfl (fun ls hl => ?_)
  obtain ⟨K6, eK6, hf⟩ := lp_e1 (b := fun K => L_X4_defeat_23 FU K a0 a2 0 σ1) hf
  replace hf : L_X4_defeat_23 FU K6 a0 a2 0 σ1 = some σr := hf
  have hKK6 : ∀ (σ7 : Mem) (H : Heap) (locs : List Loc) (ls : Array Slot), K6 σ7 = some σr → va_P D vwCl (wsG 24 ad (EW ad cI) σ7) H → va_S (AG 24 ad s.heap.size) s.heap H locs → lv_has ls 6 [(0, .ref (ad 0)), (1, .int a0), (3, .int a2)] → W p l e R s m args below meth c H locs 0 0 Q (F0 m 86 ls []) := by
    intro σ7 H locs ls hf hP hS hl
    rw [eK6] at hf
    refine lv_aload_n hx hb dX4_defeat_86 rfl (lv_at hl 0 rfl) ?_
    refine g_get (v := .ref (ad 8)) hx hb hB hown hK hP 0 (by decide) rfl rfl kU_X4 1 (by decide) kF_X4_21 rfl rfl dX4_defeat_87 ?_
    refine g_get (v := .ref (ad 9)) hx hb hB hown hK hP 8 (by decide) rfl rfl kU_X1 1 (by decide) kF_X4_95 rfl rfl dX4_defeat_90 ?_
    refine lv_iload_n hx hb dX4_defeat_93 rfl (lv_at hl 1 rfl) ?_
    refine lv_iconst (v := 0) hx hb dX4_defeat_94 (by decide) ?_
    obtain ⟨hin, hf⟩ := gd_e hf
    obtain ⟨σ8, eσ8, hf⟩ := stp_e hf
    refine g_iast (σ1 := σ8) hx hb hK hP hi hAd hS 9 4 (by decide) (fun _ => rfl) hin dX4_defeat_95 eσ8 (fun H locs hP hS => ?_)
    refine lv_aload_n hx hb dX4_defeat_96 rfl (lv_at hl 0 rfl) ?_
    refine g_get (v := .ref (ad 8)) hx hb hB hown hK hP 0 (by decide) rfl rfl kU_X4 1 (by decide) kF_X4_21 rfl rfl dX4_defeat_97 ?_
    refine g_get (v := .ref (ad 12)) hx hb hB hown hK hP 8 (by decide) rfl rfl kU_X1 4 (by decide) kF_X4_128 rfl rfl dX4_defeat_100 ?_
    refine lv_iload_n hx hb dX4_defeat_103 rfl (lv_at hl 1 rfl) ?_
    refine lv_bipush (v := 10) hx hb dX4_defeat_104 (by decide) ?_
    obtain ⟨hin, hf⟩ := gd_e hf
    obtain ⟨σ9, eσ9, hf⟩ := stp_e hf
    refine g_iast (σ1 := σ9) hx hb hK hP hi hAd hS 12 4 (by decide) (fun _ => rfl) hin dX4_defeat_106 eσ9 (fun H locs hP hS => ?_)
    refine lv_aload_n hx hb dX4_defeat_107 rfl (lv_at hl 0 rfl) ?_
    refine g_get (v := .ref (ad 8)) hx hb hB hown hK hP 0 (by decide) rfl rfl kU_X4 1 (by decide) kF_X4_21 rfl rfl dX4_defeat_108 ?_
    refine g_get (v := .ref (ad 13)) hx hb hB hown hK hP 8 (by decide) rfl rfl kU_X1 5 (by decide) kF_X4_52 rfl rfl dX4_defeat_111 ?_
    refine lv_iload_n hx hb dX4_defeat_114 rfl (lv_at hl 1 rfl) ?_
    refine lv_aload_n hx hb dX4_defeat_115 rfl (lv_at hl 0 rfl) ?_
    refine g_get (v := .ref (ad 8)) hx hb hB hown hK hP 0 (by decide) rfl rfl kU_X4 1 (by decide) kF_X4_21 rfl rfl dX4_defeat_116 ?_
    refine g_get (v := .ref (ad 13)) hx hb hB hown hK hP 8 (by decide) rfl rfl kU_X1 5 (by decide) kF_X4_52 rfl rfl dX4_defeat_119 ?_
    refine lv_iload_n hx hb dX4_defeat_122 rfl (lv_at hl 1 rfl) ?_
    obtain ⟨hin, hf⟩ := gd_e hf
    refine g_iald hx hb hK hP 13 4 (by decide) rfl hin dX4_defeat_123 ?_
    refine lv_iload_n hx hb dX4_defeat_124 rfl (lv_at hl 2 rfl) ?_
    refine lv_bipush (v := 10) hx hb dX4_defeat_125 (by decide) ?_
    refine lv_iadd hx hb dX4_defeat_127 ?_
    refine va_mmax hx hb (hml.trans hl.1.symm) hown (hB _ kJ_X4_163) (hB _ kJ_max.1) (hB _ kJ_max.2.1) (hB _ kJ_max.2.2) (Nat.le_trans (Nat.le_of_ble_eq_true rfl) hRf) (Nat.le_trans (Nat.le_of_ble_eq_true rfl) hRl) (Nat.zero_le _) (Nat.zero_le _) dX4_defeat_128 ?_
    obtain ⟨hin, hf⟩ := gd_e hf
    obtain ⟨σ10, eσ10, hf⟩ := stp_e hf
    refine g_iast (σ1 := σ10) hx hb hK hP hi hAd hS 13 4 (by decide) (fun _ => rfl) hin dX4_defeat_131 eσ10 (fun H locs hP hS => ?_)
    have h2 := rt1 hf
    rw [hQ]
    exact g_vret hx hb hr hlocks hP hS h2 dX4_defeat_132
  have hL_X4_defeat_23 : ∀ (n : Nat) (x4 : Int32) (σ5 : Mem) (H : Heap) (locs : List Loc) (ls : Array Slot), L_X4_defeat_23 n K6 a0 a2 x4 σ5 = some σr → va_P D vwCl (wsG 24 ad (EW ad cI) σ5) H → va_S (AG 24 ad s.heap.size) s.heap H locs → lv_has ls 6 [(0, .ref (ad 0)), (1, .int a0), (3, .int a2), (4, .int x4)] → W p l e R s m args below meth c H locs 0 0 Q (F0 m 23 ls []) := by
    intro n
    induction n with
    | zero => intro x4 σ5 H locs ls hf; cases hf
    | succ n ih =>
      intro x4 σ5 H locs ls hf hP hS hl
      rw [L_X4_defeat_23] at hf
      refine lv_iload hx hb dX4_defeat_23 (lv_at hl 3 rfl) ?_
      refine lv_iconst (v := 5) hx hb dX4_defeat_25 (by decide) ?_
      refine lv_icmp_ge (tgt := 86) hx hb dX4_defeat_26 (by decide) (fun q11 => ?_) (fun q11 => ?_)
      · rw [if_pos q11] at hf
        exact hKK6 σ5 _ _ ls hf hP hS (lv_sub hl [0, 1, 2] rfl)
      · rw [if_neg q11] at hf
        refine lv_aload_n hx hb dX4_defeat_29 rfl (lv_at hl 0 rfl) ?_
        refine g_get (v := .ref (ad 8)) hx hb hB hown hK hP 0 (by decide) rfl rfl kU_X4 1 (by decide) kF_X4_21 rfl rfl dX4_defeat_30 ?_
        refine g_get (v := .ref (ad 14)) hx hb hB hown hK hP 8 (by decide) rfl rfl kU_X1 6 (by decide) kF_X4_160 rfl rfl dX4_defeat_33 ?_
        refine lv_iload_n hx hb dX4_defeat_36 rfl (lv_at hl 1 rfl) ?_
        refine lv_iload hx hb dX4_defeat_37 (lv_at hl 3 rfl) ?_
        obtain ⟨v12, hv, hf⟩ := bd_e hf
        refine g_cNi0 ⟨⟨hx, hb, hml, hown, hB⟩, hK, hi, hA, hAd, hP, hS⟩ (c_X5_goodsAt hv) cal_X5_goodsAt kN_X4_115 ⟨Nat.le_trans (Nat.le_of_ble_eq_true rfl) hRf, Nat.le_trans (Nat.le_of_ble_eq_true rfl) hRl⟩ rfl hl.1 (Nat.le_of_ble_eq_true rfl) rfl dX4_defeat_39 ⟨Nat.zero_le _, Nat.zero_le _⟩ (fun H locs hP hS => ?_)
        obtain ⟨hin, hf⟩ := gd_e hf
        refine g_iald hx hb hK hP 14 20 (by decide) rfl hin dX4_defeat_42 ?_
        refine lv_istore (lv' := [(5, .int (σ5 14 v12.toNatClampNeg)), (0, .ref (ad 0)), (1, .int a0), (3, .int a2), (4, .int x4)]) hx hb dX4_defeat_43 hl (by decide) rfl (fun ls hl => ?_)
        refine lv_aload_n hx hb dX4_defeat_45 rfl (lv_at hl 1 rfl) ?_
        refine g_get (v := .ref (ad 8)) hx hb hB hown hK hP 0 (by decide) rfl rfl kU_X4 1 (by decide) kF_X4_21 rfl rfl dX4_defeat_46 ?_
        refine lv_iload_n hx hb dX4_defeat_49 rfl (lv_at hl 2 rfl) ?_
        refine lv_iload hx hb dX4_defeat_50 (lv_at hl 4 rfl) ?_
        refine lv_iload hx hb dX4_defeat_52 (lv_at hl 0 rfl) ?_
        refine lv_ineg hx hb dX4_defeat_54 ?_
        obtain ⟨v13, σ14, hv, hf⟩ := bd2_e hf
        refine g_cViS (k0 := 8) ⟨⟨hx, hb, hml, hown, hB⟩, hK, hi, hA, hAd, hP, hS⟩ (c_X1_addGoods hi hv) cal_X1_addGoods kM_X4_106 ⟨Nat.le_trans (Nat.le_of_ble_eq_true rfl) hRf, Nat.le_trans (Nat.le_of_ble_eq_true rfl) hRl⟩ (by decide) rfl rfl rfl hl.1 (Nat.le_of_ble_eq_true rfl) rfl dX4_defeat_55 ⟨Nat.zero_le _, Nat.zero_le _⟩ (fun H locs hP hS => ?_)
        refine lv_pop hx hb dX4_defeat_58 rfl ?_
        refine lv_aload_n hx hb dX4_defeat_59 rfl (lv_at hl 1 rfl) ?_
        refine g_get (v := .ref (ad 1)) hx hb hB hown hK hP 0 (by decide) rfl rfl kU_X4 0 (by decide) kF_X4_12 rfl rfl dX4_defeat_60 ?_
        refine lv_aload_n hx hb dX4_defeat_63 rfl (lv_at hl 1 rfl) ?_
        refine g_get (v := .ref (ad 8)) hx hb hB hown hK hP 0 (by decide) rfl rfl kU_X4 1 (by decide) kF_X4_21 rfl rfl dX4_defeat_64 ?_
        refine g_get (v := .ref (ad 9)) hx hb hB hown hK hP 8 (by decide) rfl rfl kU_X1 1 (by decide) kF_X4_95 rfl rfl dX4_defeat_67 ?_
        refine lv_iload_n hx hb dX4_defeat_70 rfl (lv_at hl 2 rfl) ?_
        obtain ⟨hin, hf⟩ := gd_e hf
        refine g_iald hx hb hK hP 9 4 (by decide) rfl hin dX4_defeat_71 ?_
        refine lv_iload hx hb dX4_defeat_72 (lv_at hl 4 rfl) ?_
        refine lv_iload hx hb dX4_defeat_74 (lv_at hl 0 rfl) ?_
        obtain ⟨v15, σ16, hv, hf⟩ := bd2_e hf
        refine g_cViS (k0 := 1) ⟨⟨hx, hb, hml, hown, hB⟩, hK, hi, hA, hAd, hP, hS⟩ (c_X2_addToFloor hi hv) cal_X2_addToFloor kM_X4_83 ⟨Nat.le_trans (Nat.le_of_ble_eq_true rfl) hRf, Nat.le_trans (Nat.le_of_ble_eq_true rfl) hRl⟩ (by decide) rfl rfl rfl hl.1 (Nat.le_of_ble_eq_true rfl) rfl dX4_defeat_76 ⟨Nat.zero_le _, Nat.zero_le _⟩ (fun H locs hP hS => ?_)
        refine lv_pop hx hb dX4_defeat_79 rfl ?_
        refine lv_iinc (v := (x4 + 1)) (lv' := [(4, .int (x4 + 1)), (5, .int (σ5 14 v12.toNatClampNeg)), (0, .ref (ad 0)), (1, .int a0), (3, .int a2)]) hx hb dX4_defeat_80 hl (k := 4) rfl rfl (by decide) rfl (fun ls hl => ?_)
        refine lv_goto (tgt := 23) hx hb dX4_defeat_83 (by decide) ?_
        exact ih (x4 + 1) σ16 _ _ ls hf hP hS (lv_sub hl [2, 3, 4, 0] rfl)
  exact hL_X4_defeat_23 FU 0 σ1 _ _ ls hf hP hS (lv_sub hl [1, 2, 4, 0] rfl)
def f_X4_isFulfilled (σ : Mem) (a0 a1 a2 a3 : Int32) : Option (Int32) :=
gd a0 12 <|
gd a0 12 <|
gd a0 12 <|
if (σ 21 a0.toNatClampNeg) = 0 then (
gd a1 4 <|
if (σ 9 a1.toNatClampNeg) = (σ 22 a0.toNatClampNeg) then (
some 1)
else (
some 0))
else if (σ 21 a0.toNatClampNeg) = 1 then (
bd (f_X5_goodsAt a1 (σ 22 a0.toNatClampNeg)) fun v4 =>
gd v4 20 <|
if (σ 14 v4.toNatClampNeg) < (σ 23 a0.toNatClampNeg) then (
some 0)
else (
some 1))
else if (σ 21 a0.toNatClampNeg) = 2 then (
if a2 = (σ 23 a0.toNatClampNeg) then (
gd a1 4 <|
if (σ 9 a1.toNatClampNeg) = (σ 22 a0.toNatClampNeg) then (
some 1)
else (
some 0))
else (
some 0))
else (
if a3 = (σ 22 a0.toNatClampNeg) then (
some 1)
else (
some 0))
set_option maxHeartbeats 4000000 in
set_option maxRecDepth 100000 in
theorem c_X4_isFulfilled {l : Launch} {D : va_G} {cI cJ : ClassId} {ad : Nat → Nat} {σ : Mem} {a0 a1 a2 a3 : Int32} {r : Int32}  (hi : injG 24 ad) (hf : f_X4_isFulfilled σ a0 a1 a2 a3 = some r) : MGi l yX4_isFulfilled (Cond.code yX4_isFulfilled cX4_isFulfilled 7 (some .boolean) :: BIG) 1 21 D cI cJ 24 ad (EW ad cI) [.ref (ad 0), .int a0, .int a1, .int a2, .int a3] σ σ r := by
  refine MGi.ofW (cc := cX4_isFulfilled) (nL := 7) (ret := (some .boolean)) (by decide) rfl hi ?_
  intro p e s m args below meth c hx hb hr hml hlocks hown hB hK hP hA hAd hS
  have hown : s.vm.findClass RX4 = some m.cls := hown
  have hl := lv_entry ([.ref (ad 0), .int a0, .int a1, .int a2, .int a3] : List Value) (n := 7) (Nat.le_of_ble_eq_true rfl)
  rw [lg_entry_eq]
  generalize (lg_sl ([.ref (ad 0), .int a0, .int a1, .int a2, .int a3] : List Value) ++ List.replicate (7 - (lg_sl ([.ref (ad 0), .int a0, .int a1, .int a2, .int a3] : List Value)).length) Slot.unset).toArray = ls at hl ⊢
  have hl : lv_has ls 7 [(0, .ref (ad 0)), (1, .int a0), (2, .int a1), (3, .int a2), (4, .int a3)] := hl
  generalize hQ : MQ below (Qgi D 24 ad (EW ad cI) r σ s.heap.size) _ s 0 0 (AG 24 ad s.heap.size) = Q
  have hQ := hQ.symm
  obtain ⟨R, hR, hRf, hRl⟩ : ∃ R : Room, R = ({ frames := 1, cells := 0, slots := 0, locals := 21 } : Room) ∧ 1 ≤ R.frames ∧ 21 ≤ R.locals := ⟨_, rfl, Nat.le_refl _, Nat.le_refl _⟩
  rw [← hR]
  unfold f_X4_isFulfilled at hf
  refine lv_aload_n hx hb dX4_isFulfilled_0 rfl (lv_at hl 0 rfl) ?_
  refine g_get (v := .ref (ad 18)) hx hb hB hown hK hP 0 (by decide) rfl rfl kU_X4 2 (by decide) kF_X4_28 rfl rfl dX4_isFulfilled_1 ?_
  refine g_get (v := .ref (ad 22)) hx hb hB hown hK hP 18 (by decide) rfl rfl kU_X3 4 (by decide) kF_X4_189 rfl rfl dX4_isFulfilled_4 ?_
  refine lv_iload_n hx hb dX4_isFulfilled_7 rfl (lv_at hl 1 rfl) ?_
  obtain ⟨hin, hf⟩ := gd_e hf
  refine g_iald hx hb hK hP 22 12 (by decide) rfl hin dX4_isFulfilled_8 ?_
  refine lv_istore (lv' := [(5, .int (σ 22 a0.toNatClampNeg)), (0, .ref (ad 0)), (1, .int a0), (2, .int a1), (3, .int a2), (4, .int a3)]) hx hb dX4_isFulfilled_9 hl (by decide) rfl (fun ls hl => ?_)
  refine lv_aload_n hx hb dX4_isFulfilled_11 rfl (lv_at hl 1 rfl) ?_
  refine g_get (v := .ref (ad 18)) hx hb hB hown hK hP 0 (by decide) rfl rfl kU_X4 2 (by decide) kF_X4_28 rfl rfl dX4_isFulfilled_12 ?_
  refine g_get (v := .ref (ad 23)) hx hb hB hown hK hP 18 (by decide) rfl rfl kU_X3 5 (by decide) kF_X4_192 rfl rfl dX4_isFulfilled_15 ?_
  refine lv_iload_n hx hb dX4_isFulfilled_18 rfl (lv_at hl 2 rfl) ?_
  obtain ⟨hin, hf⟩ := gd_e hf
  refine g_iald hx hb hK hP 23 12 (by decide) rfl hin dX4_isFulfilled_19 ?_
  refine lv_istore (lv' := [(6, .int (σ 23 a0.toNatClampNeg)), (5, .int (σ 22 a0.toNatClampNeg)), (0, .ref (ad 0)), (1, .int a0), (2, .int a1), (3, .int a2), (4, .int a3)]) hx hb dX4_isFulfilled_20 hl (by decide) rfl (fun ls hl => ?_)
  refine lv_aload_n hx hb dX4_isFulfilled_22 rfl (lv_at hl 2 rfl) ?_
  refine g_get (v := .ref (ad 18)) hx hb hB hown hK hP 0 (by decide) rfl rfl kU_X4 2 (by decide) kF_X4_28 rfl rfl dX4_isFulfilled_23 ?_
  refine g_get (v := .ref (ad 21)) hx hb hB hown hK hP 18 (by decide) rfl rfl kU_X3 3 (by decide) kF_X4_195 rfl rfl dX4_isFulfilled_26 ?_
  refine lv_iload_n hx hb dX4_isFulfilled_29 rfl (lv_at hl 3 rfl) ?_
  obtain ⟨hin, hf⟩ := gd_e hf
  refine g_iald hx hb hK hP 21 12 (by decide) rfl hin dX4_isFulfilled_30 ?_
  by_cases q1 : (σ 21 a0.toNatClampNeg) = 0
  · rw [if_pos q1] at hf
    refine lv_tableIn (off := 25) (tgt := 56) hx hb dX4_isFulfilled_31 (by rw [q1]; decide) (by rw [q1]; decide) (by rw [q1]; rfl) (by decide) ?_
    refine lv_aload_n hx hb dX4_isFulfilled_56 rfl (lv_at hl 2 rfl) ?_
    refine g_get (v := .ref (ad 8)) hx hb hB hown hK hP 0 (by decide) rfl rfl kU_X4 1 (by decide) kF_X4_21 rfl rfl dX4_isFulfilled_57 ?_
    refine g_get (v := .ref (ad 9)) hx hb hB hown hK hP 8 (by decide) rfl rfl kU_X1 1 (by decide) kF_X4_95 rfl rfl dX4_isFulfilled_60 ?_
    refine lv_iload_n hx hb dX4_isFulfilled_63 rfl (lv_at hl 4 rfl) ?_
    obtain ⟨hin, hf⟩ := gd_e hf
    refine g_iald hx hb hK hP 9 4 (by decide) rfl hin dX4_isFulfilled_64 ?_
    refine lv_iload hx hb dX4_isFulfilled_65 (lv_at hl 1 rfl) ?_
    refine lv_icmp_ne (tgt := 74) hx hb dX4_isFulfilled_67 (by decide) (fun q2 => ?_) (fun q2 => ?_)
    · rw [if_neg q2] at hf
      refine lv_iconst (v := 0) hx hb dX4_isFulfilled_74 (by decide) ?_
      have h1 := rt1 hf
      rw [hQ]
      exact g_zret hx hb hr hlocks hP hS (Or.inl rfl) h1 rfl dX4_isFulfilled_75
    · rw [if_pos q2] at hf
      refine lv_iconst (v := 1) hx hb dX4_isFulfilled_70 (by decide) ?_
      refine lv_goto (tgt := 75) hx hb dX4_isFulfilled_71 (by decide) ?_
      have h1 := rt1 hf
      rw [hQ]
      exact g_zret hx hb hr hlocks hP hS (Or.inr rfl) h1 rfl dX4_isFulfilled_75
  · rw [if_neg q1] at hf
    by_cases q3 : (σ 21 a0.toNatClampNeg) = 1
    · rw [if_pos q3] at hf
      refine lv_tableIn (off := 45) (tgt := 76) hx hb dX4_isFulfilled_31 (by rw [q3]; decide) (by rw [q3]; decide) (by rw [q3]; rfl) (by decide) ?_
      refine lv_aload_n hx hb dX4_isFulfilled_76 rfl (lv_at hl 2 rfl) ?_
      refine g_get (v := .ref (ad 8)) hx hb hB hown hK hP 0 (by decide) rfl rfl kU_X4 1 (by decide) kF_X4_21 rfl rfl dX4_isFulfilled_77 ?_
      refine g_get (v := .ref (ad 14)) hx hb hB hown hK hP 8 (by decide) rfl rfl kU_X1 6 (by decide) kF_X4_160 rfl rfl dX4_isFulfilled_80 ?_
      refine lv_iload_n hx hb dX4_isFulfilled_83 rfl (lv_at hl 4 rfl) ?_
      refine lv_iload hx hb dX4_isFulfilled_84 (lv_at hl 1 rfl) ?_
      obtain ⟨v4, hv, hf⟩ := bd_e hf
      refine g_cNi0 ⟨⟨hx, hb, hml, hown, hB⟩, hK, hi, hA, hAd, hP, hS⟩ (c_X5_goodsAt hv) cal_X5_goodsAt kN_X4_115 ⟨Nat.le_trans (Nat.le_of_ble_eq_true rfl) hRf, Nat.le_trans (Nat.le_of_ble_eq_true rfl) hRl⟩ rfl hl.1 (Nat.le_of_ble_eq_true rfl) rfl dX4_isFulfilled_86 ⟨Nat.zero_le _, Nat.zero_le _⟩ (fun H locs hP hS => ?_)
      obtain ⟨hin, hf⟩ := gd_e hf
      refine g_iald hx hb hK hP 14 20 (by decide) rfl hin dX4_isFulfilled_89 ?_
      refine lv_iload hx hb dX4_isFulfilled_90 (lv_at hl 0 rfl) ?_
      refine lv_icmp_lt (tgt := 99) hx hb dX4_isFulfilled_92 (by decide) (fun q5 => ?_) (fun q5 => ?_)
      · rw [if_pos q5] at hf
        refine lv_iconst (v := 0) hx hb dX4_isFulfilled_99 (by decide) ?_
        have h1 := rt1 hf
        rw [hQ]
        exact g_zret hx hb hr hlocks hP hS (Or.inl rfl) h1 rfl dX4_isFulfilled_100
      · rw [if_neg q5] at hf
        refine lv_iconst (v := 1) hx hb dX4_isFulfilled_95 (by decide) ?_
        refine lv_goto (tgt := 100) hx hb dX4_isFulfilled_96 (by decide) ?_
        have h1 := rt1 hf
        rw [hQ]
        exact g_zret hx hb hr hlocks hP hS (Or.inr rfl) h1 rfl dX4_isFulfilled_100
    · rw [if_neg q3] at hf
      by_cases q6 : (σ 21 a0.toNatClampNeg) = 2
      · rw [if_pos q6] at hf
        refine lv_tableIn (off := 70) (tgt := 101) hx hb dX4_isFulfilled_31 (by rw [q6]; decide) (by rw [q6]; decide) (by rw [q6]; rfl) (by decide) ?_
        refine lv_iload_n hx hb dX4_isFulfilled_101 rfl (lv_at hl 5 rfl) ?_
        refine lv_iload hx hb dX4_isFulfilled_102 (lv_at hl 0 rfl) ?_
        refine lv_icmp_ne (tgt := 125) hx hb dX4_isFulfilled_104 (by decide) (fun q7 => ?_) (fun q7 => ?_)
        · rw [if_neg q7] at hf
          refine lv_iconst (v := 0) hx hb dX4_isFulfilled_125 (by decide) ?_
          have h1 := rt1 hf
          rw [hQ]
          exact g_zret hx hb hr hlocks hP hS (Or.inl rfl) h1 rfl dX4_isFulfilled_126
        · rw [if_pos q7] at hf
          refine lv_aload_n hx hb dX4_isFulfilled_107 rfl (lv_at hl 2 rfl) ?_
          refine g_get (v := .ref (ad 8)) hx hb hB hown hK hP 0 (by decide) rfl rfl kU_X4 1 (by decide) kF_X4_21 rfl rfl dX4_isFulfilled_108 ?_
          refine g_get (v := .ref (ad 9)) hx hb hB hown hK hP 8 (by decide) rfl rfl kU_X1 1 (by decide) kF_X4_95 rfl rfl dX4_isFulfilled_111 ?_
          refine lv_iload_n hx hb dX4_isFulfilled_114 rfl (lv_at hl 4 rfl) ?_
          obtain ⟨hin, hf⟩ := gd_e hf
          refine g_iald hx hb hK hP 9 4 (by decide) rfl hin dX4_isFulfilled_115 ?_
          refine lv_iload hx hb dX4_isFulfilled_116 (lv_at hl 1 rfl) ?_
          refine lv_icmp_ne (tgt := 125) hx hb dX4_isFulfilled_118 (by decide) (fun q8 => ?_) (fun q8 => ?_)
          · rw [if_neg q8] at hf
            refine lv_iconst (v := 0) hx hb dX4_isFulfilled_125 (by decide) ?_
            have h1 := rt1 hf
            rw [hQ]
            exact g_zret hx hb hr hlocks hP hS (Or.inl rfl) h1 rfl dX4_isFulfilled_126
          · rw [if_pos q8] at hf
            refine lv_iconst (v := 1) hx hb dX4_isFulfilled_121 (by decide) ?_
            refine lv_goto (tgt := 126) hx hb dX4_isFulfilled_122 (by decide) ?_
            have h1 := rt1 hf
            rw [hQ]
            exact g_zret hx hb hr hlocks hP hS (Or.inr rfl) h1 rfl dX4_isFulfilled_126
      · rw [if_neg q6] at hf
        refine lv_tableOut (tgt := 127) hx hb dX4_isFulfilled_31 (by have tq1 := ne_ti 0 rfl q1; have tq3 := ne_ti 1 rfl q3; have tq6 := ne_ti 2 rfl q6; omega) (by decide) ?_
        refine lv_iload hx hb dX4_isFulfilled_127 (lv_at hl 6 rfl) ?_
        refine lv_iload hx hb dX4_isFulfilled_129 (lv_at hl 1 rfl) ?_
        refine lv_icmp_ne (tgt := 138) hx hb dX4_isFulfilled_131 (by decide) (fun q9 => ?_) (fun q9 => ?_)
        · rw [if_neg q9] at hf
          refine lv_iconst (v := 0) hx hb dX4_isFulfilled_138 (by decide) ?_
          have h1 := rt1 hf
          rw [hQ]
          exact g_zret hx hb hr hlocks hP hS (Or.inl rfl) h1 rfl dX4_isFulfilled_139
        · rw [if_pos q9] at hf
          refine lv_iconst (v := 1) hx hb dX4_isFulfilled_134 (by decide) ?_
          refine lv_goto (tgt := 139) hx hb dX4_isFulfilled_135 (by decide) ?_
          have h1 := rt1 hf
          rw [hQ]
          exact g_zret hx hb hr hlocks hP hS (Or.inr rfl) h1 rfl dX4_isFulfilled_139
def f_X4_reward (σ : Mem) (a0 a1 : Int32) : Option (Mem) :=
stp (mu σ 0 3 ((σ 0 3) - (jmin a1 (σ 0 3)))) fun σ1 =>
gd a0 4 <|
gd a0 4 <| stp (mu σ1 10 a0.toNatClampNeg ((σ1 10 a0.toNatClampNeg) + (jmin a1 (σ 0 3)))) fun σ2 =>
some σ2
set_option maxHeartbeats 4000000 in
set_option maxRecDepth 100000 in
theorem c_X4_reward {l : Launch} {D : va_G} {cI cJ : ClassId} {ad : Nat → Nat} {σ : Mem} {a0 a1 : Int32} {σr : Mem}  (hi : injG 24 ad) (hf : f_X4_reward σ a0 a1 = some σr) : MGv l yX4_reward (Cond.code yX4_reward cX4_reward 4 none :: BIG) 1 21 D cI cJ 24 ad (EW ad cI) [.ref (ad 0), .int a0, .int a1] σ σr := by
  refine MGv.ofW (cc := cX4_reward) (nL := 4) (ret := none) (by decide) rfl hi ?_
  intro p e s m args below meth c hx hb hr hml hlocks hown hB hK hP hA hAd hS
  have hown : s.vm.findClass RX4 = some m.cls := hown
  have hl := lv_entry ([.ref (ad 0), .int a0, .int a1] : List Value) (n := 4) (Nat.le_of_ble_eq_true rfl)
  rw [lg_entry_eq]
  generalize (lg_sl ([.ref (ad 0), .int a0, .int a1] : List Value) ++ List.replicate (4 - (lg_sl ([.ref (ad 0), .int a0, .int a1] : List Value)).length) Slot.unset).toArray = ls at hl ⊢
  have hl : lv_has ls 4 [(0, .ref (ad 0)), (1, .int a0), (2, .int a1)] := hl
  generalize hQ : MQ below (Qgv D 24 ad (EW ad cI) σr s.heap.size) _ s 0 0 (AG 24 ad s.heap.size) = Q
  have hQ := hQ.symm
  obtain ⟨R, hR, hRf, hRl⟩ : ∃ R : Room, R = ({ frames := 1, cells := 0, slots := 0, locals := 21 } : Room) ∧ 1 ≤ R.frames ∧ 21 ≤ R.locals := ⟨_, rfl, Nat.le_refl _, Nat.le_refl _⟩
  rw [← hR]
  unfold f_X4_reward at hf
  refine lv_iload_n hx hb dX4_reward_0 rfl (lv_at hl 2 rfl) ?_
  refine lv_aload_n hx hb dX4_reward_1 rfl (lv_at hl 0 rfl) ?_
  refine g_get (v := .int (σ 0 3)) hx hb hB hown hK hP 0 (by decide) rfl rfl kU_X4 3 (by decide) kF_X4_32 rfl rfl dX4_reward_2 ?_
  refine va_mmin hx hb (hml.trans hl.1.symm) hown (hB _ kJ_X4_131) (hB _ kJ_min.1) (hB _ kJ_min.2.1) (hB _ kJ_min.2.2) (Nat.le_trans (Nat.le_of_ble_eq_true rfl) hRf) (Nat.le_trans (Nat.le_of_ble_eq_true rfl) hRl) (Nat.zero_le _) (Nat.zero_le _) dX4_reward_5 ?_
  refine lv_istore_n (lv' := [(3, .int (jmin a1 (σ 0 3))), (0, .ref (ad 0)), (1, .int a0), (2, .int a1)]) hx hb dX4_reward_8 rfl hl (by decide) rfl (fun ls hl => ?_)
  refine lv_aload_n hx hb dX4_reward_9 rfl (lv_at hl 1 rfl) ?_
  refine lv_dup hx hb dX4_reward_10 rfl ?_
  refine g_get (v := .int (σ 0 3)) hx hb hB hown hK hP 0 (by decide) rfl rfl kU_X4 3 (by decide) kF_X4_32 rfl rfl dX4_reward_11 ?_
  refine lv_iload_n hx hb dX4_reward_14 rfl (lv_at hl 0 rfl) ?_
  refine lv_isub hx hb dX4_reward_15 ?_
  obtain ⟨σ1, eσ1, hf⟩ := stp_e hf
  refine g_put (σ1 := σ1) hx hb hB hown hK hP hi hAd hS 0 (by decide) (fun f => [.ref (ad 1), .ref (ad 8), .ref (ad 18), .int (f 3), .int (f 4)]) (fun _ => rfl) rfl kU_X4 tyX4 tyX4_ok nmX4 3 (by decide) kF_X4_32 rfl (fun _ _ => rfl) (fun _ => Nat.le_of_ble_eq_true rfl) dX4_reward_16 eσ1 (fun H locs hP hS => ?_)
  refine lv_aload_n hx hb dX4_reward_19 rfl (lv_at hl 1 rfl) ?_
  refine g_get (v := .ref (ad 8)) hx hb hB hown hK hP 0 (by decide) rfl rfl kU_X4 1 (by decide) kF_X4_21 rfl rfl dX4_reward_20 ?_
  refine g_get (v := .ref (ad 10)) hx hb hB hown hK hP 8 (by decide) rfl rfl kU_X1 2 (by decide) kF_X4_71 rfl rfl dX4_reward_23 ?_
  refine lv_iload_n hx hb dX4_reward_26 rfl (lv_at hl 2 rfl) ?_
  refine lv_dup2_11 hx hb dX4_reward_27 rfl rfl ?_
  obtain ⟨hin, hf⟩ := gd_e hf
  refine g_iald hx hb hK hP 10 4 (by decide) rfl hin dX4_reward_28 ?_
  refine lv_iload_n hx hb dX4_reward_29 rfl (lv_at hl 0 rfl) ?_
  refine lv_iadd hx hb dX4_reward_30 ?_
  obtain ⟨hin, hf⟩ := gd_e hf
  obtain ⟨σ2, eσ2, hf⟩ := stp_e hf
  refine g_iast (σ1 := σ2) hx hb hK hP hi hAd hS 10 4 (by decide) (fun _ => rfl) hin dX4_reward_31 eσ2 (fun H locs hP hS => ?_)
  have h2 := rt1 hf
  rw [hQ]
  exact g_vret hx hb hr hlocks hP hS h2 dX4_reward_32
def L_X4_pursueQuests_3 : Nat → (Mem → Option (Mem)) → Int32 → Int32 → Int32 → Int32 → Mem → Option (Mem)
  | 0, _, _, _, _, _, _ => none
  | n + 1, k, x1, x2, x3, x4, σ5 =>
    if (σ5 18 0) ≤ x4 then (
    k σ5)
    else (
    bd (f_X5_reachedAt x1 x4) fun v9 =>
    gd v9 12 <|
    gd x4 3 <|
    jn (fun (σ10 : Mem) =>
    L_X4_pursueQuests_3 n k x1 x2 x3 (x4 + 1) σ10) fun (J11 : Mem → Option (Mem)) =>
    if (σ5 20 x4.toNatClampNeg) ≤ (σ5 15 v9.toNatClampNeg) then (
    J11 σ5)
    else (
    bd (f_X5_stageAt x4 (σ5 15 v9.toNatClampNeg)) fun v13 =>
    bd (f_X4_isFulfilled σ5 v13 x1 x2 x3) fun v14 =>
    if v14 = 0 then (
    J11 σ5)
    else (
    gd v9 12 <|
    gd v9 12 <| stp (mu σ5 15 v9.toNatClampNeg ((σ5 15 v9.toNatClampNeg) + 1)) fun σ16 =>
    gd v9 12 <|
    gd x4 3 <|
    if (σ16 15 v9.toNatClampNeg) = (σ16 20 x4.toNatClampNeg) then (
    gd x4 3 <|
    bd (f_X4_reward σ16 x1 (σ16 19 x4.toNatClampNeg)) fun σ18 =>
    L_X4_pursueQuests_3 n k x1 x2 x3 (x4 + 1) σ18)
    else (
    J11 σ16))))
def f_X4_pursueQuests (σ : Mem) (a0 a1 a2 : Int32) : Option (Mem) :=
L_X4_pursueQuests_3 FU (fun (σ7 : Mem) =>
some σ7) a0 a1 a2 0 σ
set_option maxHeartbeats 4000000 in
set_option maxRecDepth 100000 in
theorem c_X4_pursueQuests {l : Launch} {D : va_G} {cI cJ : ClassId} {ad : Nat → Nat} {σ : Mem} {a0 a1 a2 : Int32} {σr : Mem}  (hi : injG 24 ad) (hf : f_X4_pursueQuests σ a0 a1 a2 = some σr) : MGv l yX4_pursueQuests (Cond.code yX4_pursueQuests cX4_pursueQuests 7 none :: BIG) 2 47 D cI cJ 24 ad (EW ad cI) [.ref (ad 0), .int a0, .int a1, .int a2] σ σr := by
  refine MGv.ofW (cc := cX4_pursueQuests) (nL := 7) (ret := none) (by decide) rfl hi ?_
  intro p e s m args below meth c hx hb hr hml hlocks hown hB hK hP hA hAd hS
  have hown : s.vm.findClass RX4 = some m.cls := hown
  have hl := lv_entry ([.ref (ad 0), .int a0, .int a1, .int a2] : List Value) (n := 7) (Nat.le_of_ble_eq_true rfl)
  rw [lg_entry_eq]
  generalize (lg_sl ([.ref (ad 0), .int a0, .int a1, .int a2] : List Value) ++ List.replicate (7 - (lg_sl ([.ref (ad 0), .int a0, .int a1, .int a2] : List Value)).length) Slot.unset).toArray = ls at hl ⊢
  have hl : lv_has ls 7 [(0, .ref (ad 0)), (1, .int a0), (2, .int a1), (3, .int a2)] := hl
  generalize hQ : MQ below (Qgv D 24 ad (EW ad cI) σr s.heap.size) _ s 0 0 (AG 24 ad s.heap.size) = Q
  have hQ := hQ.symm
  obtain ⟨R, hR, hRf, hRl⟩ : ∃ R : Room, R = ({ frames := 2, cells := 0, slots := 0, locals := 47 } : Room) ∧ 2 ≤ R.frames ∧ 47 ≤ R.locals := ⟨_, rfl, Nat.le_refl _, Nat.le_refl _⟩
  rw [← hR]
  unfold f_X4_pursueQuests at hf
  refine lv_iconst (v := 0) hx hb dX4_pursueQuests_0 (by decide) ?_
  refine lv_istore (lv' := [(4, .int 0), (0, .ref (ad 0)), (1, .int a0), (2, .int a1), (3, .int a2)]) hx hb dX4_pursueQuests_1 hl (by decide) rfl (fun ls hl => ?_)
  obtain ⟨K6, eK6, hf⟩ := lp_e1 (b := fun K => L_X4_pursueQuests_3 FU K a0 a1 a2 0 σ) hf
  replace hf : L_X4_pursueQuests_3 FU K6 a0 a1 a2 0 σ = some σr := hf
  have hKK6 : ∀ (σ7 : Mem) (H : Heap) (locs : List Loc) (ls : Array Slot), K6 σ7 = some σr → va_P D vwCl (wsG 24 ad (EW ad cI) σ7) H → va_S (AG 24 ad s.heap.size) s.heap H locs → lv_has ls 7 [] → W p l e R s m args below meth c H locs 0 0 Q (F0 m 125 ls []) := by
    intro σ7 H locs ls hf hP hS hl
    rw [eK6] at hf
    have h2 := rt1 hf
    rw [hQ]
    exact g_vret hx hb hr hlocks hP hS h2 dX4_pursueQuests_125
  have hL_X4_pursueQuests_3 : ∀ (n : Nat) (x4 : Int32) (σ5 : Mem) (H : Heap) (locs : List Loc) (ls : Array Slot), L_X4_pursueQuests_3 n K6 a0 a1 a2 x4 σ5 = some σr → va_P D vwCl (wsG 24 ad (EW ad cI) σ5) H → va_S (AG 24 ad s.heap.size) s.heap H locs → lv_has ls 7 [(0, .ref (ad 0)), (1, .int a0), (2, .int a1), (3, .int a2), (4, .int x4)] → W p l e R s m args below meth c H locs 0 0 Q (F0 m 3 ls []) := by
    intro n
    induction n with
    | zero => intro x4 σ5 H locs ls hf; cases hf
    | succ n ih =>
      intro x4 σ5 H locs ls hf hP hS hl
      rw [L_X4_pursueQuests_3] at hf
      refine lv_iload hx hb dX4_pursueQuests_3 (lv_at hl 4 rfl) ?_
      refine lv_aload_n hx hb dX4_pursueQuests_5 rfl (lv_at hl 0 rfl) ?_
      refine g_get (v := .ref (ad 18)) hx hb hB hown hK hP 0 (by decide) rfl rfl kU_X4 2 (by decide) kF_X4_28 rfl rfl dX4_pursueQuests_6 ?_
      refine g_get (v := .int (σ5 18 0)) hx hb hB hown hK hP 18 (by decide) rfl rfl kU_X3 0 (by decide) kF_X4_166 rfl rfl dX4_pursueQuests_9 ?_
      refine lv_icmp_ge (tgt := 125) hx hb dX4_pursueQuests_12 (by decide) (fun q8 => ?_) (fun q8 => ?_)
      · rw [if_pos q8] at hf
        exact hKK6 σ5 _ _ ls hf hP hS (lv_sub hl [] rfl)
      · rw [if_neg q8] at hf
        refine lv_iload_n hx hb dX4_pursueQuests_15 rfl (lv_at hl 1 rfl) ?_
        refine lv_iload hx hb dX4_pursueQuests_16 (lv_at hl 4 rfl) ?_
        obtain ⟨v9, hv, hf⟩ := bd_e hf
        refine g_cNi0 ⟨⟨hx, hb, hml, hown, hB⟩, hK, hi, hA, hAd, hP, hS⟩ (c_X5_reachedAt hv) cal_X5_reachedAt kN_X4_167 ⟨Nat.le_trans (Nat.le_of_ble_eq_true rfl) hRf, Nat.le_trans (Nat.le_of_ble_eq_true rfl) hRl⟩ rfl hl.1 (Nat.le_of_ble_eq_true rfl) rfl dX4_pursueQuests_18 ⟨Nat.zero_le _, Nat.zero_le _⟩ (fun H locs hP hS => ?_)
        refine lv_istore (lv' := [(5, .int v9), (0, .ref (ad 0)), (1, .int a0), (2, .int a1), (3, .int a2), (4, .int x4)]) hx hb dX4_pursueQuests_21 hl (by decide) rfl (fun ls hl => ?_)
        refine lv_aload_n hx hb dX4_pursueQuests_23 rfl (lv_at hl 1 rfl) ?_
        refine g_get (v := .ref (ad 8)) hx hb hB hown hK hP 0 (by decide) rfl rfl kU_X4 1 (by decide) kF_X4_21 rfl rfl dX4_pursueQuests_24 ?_
        refine g_get (v := .ref (ad 15)) hx hb hB hown hK hP 8 (by decide) rfl rfl kU_X1 7 (by decide) kF_X4_170 rfl rfl dX4_pursueQuests_27 ?_
        refine lv_iload hx hb dX4_pursueQuests_30 (lv_at hl 0 rfl) ?_
        obtain ⟨hin, hf⟩ := gd_e hf
        refine g_iald hx hb hK hP 15 12 (by decide) rfl hin dX4_pursueQuests_32 ?_
        refine lv_istore (lv' := [(6, .int (σ5 15 v9.toNatClampNeg)), (5, .int v9), (0, .ref (ad 0)), (1, .int a0), (2, .int a1), (3, .int a2), (4, .int x4)]) hx hb dX4_pursueQuests_33 hl (by decide) rfl (fun ls hl => ?_)
        refine lv_iload hx hb dX4_pursueQuests_35 (lv_at hl 0 rfl) ?_
        refine lv_aload_n hx hb dX4_pursueQuests_37 rfl (lv_at hl 2 rfl) ?_
        refine g_get (v := .ref (ad 18)) hx hb hB hown hK hP 0 (by decide) rfl rfl kU_X4 2 (by decide) kF_X4_28 rfl rfl dX4_pursueQuests_38 ?_
        refine g_get (v := .ref (ad 20)) hx hb hB hown hK hP 18 (by decide) rfl rfl kU_X3 2 (by decide) kF_X4_173 rfl rfl dX4_pursueQuests_41 ?_
        refine lv_iload hx hb dX4_pursueQuests_44 (lv_at hl 6 rfl) ?_
        obtain ⟨hin, hf⟩ := gd_e hf
        refine g_iald hx hb hK hP 20 3 (by decide) rfl hin dX4_pursueQuests_46 ?_
        obtain ⟨J11, eJ11, hf⟩ := jn_e1 hf
        have hJ11 : ∀ (σ10 : Mem) (H : Heap) (locs : List Loc) (ls : Array Slot), J11 σ10 = some σr → va_P D vwCl (wsG 24 ad (EW ad cI) σ10) H → va_S (AG 24 ad s.heap.size) s.heap H locs → lv_has ls 7 [(0, .ref (ad 0)), (1, .int a0), (2, .int a1), (3, .int a2), (4, .int x4)] → W p l e R s m args below meth c H locs 0 0 Q (F0 m 119 ls []) := by
          intro σ10 H locs ls hf hP hS hl
          rw [eJ11] at hf
          refine lv_iinc (v := (x4 + 1)) (lv' := [(4, .int (x4 + 1)), (0, .ref (ad 0)), (1, .int a0), (2, .int a1), (3, .int a2)]) hx hb dX4_pursueQuests_119 hl (k := 4) rfl rfl (by decide) rfl (fun ls hl => ?_)
          refine lv_goto (tgt := 3) hx hb dX4_pursueQuests_122 (by decide) ?_
          exact ih (x4 + 1) σ10 _ _ ls hf hP hS (lv_sub hl [1, 2, 3, 4, 0] rfl)
        refine lv_icmp_ge (tgt := 119) hx hb dX4_pursueQuests_47 (by decide) (fun q12 => ?_) (fun q12 => ?_)
        · rw [if_pos q12] at hf
          exact hJ11 σ5 _ _ ls hf hP hS (lv_sub hl [2, 3, 4, 5, 6] rfl)
        · rw [if_neg q12] at hf
          refine lv_aload_n hx hb dX4_pursueQuests_50 rfl (lv_at hl 2 rfl) ?_
          refine lv_iload hx hb dX4_pursueQuests_51 (lv_at hl 6 rfl) ?_
          refine lv_iload hx hb dX4_pursueQuests_53 (lv_at hl 0 rfl) ?_
          obtain ⟨v13, hv, hf⟩ := bd_e hf
          refine g_cNi0 ⟨⟨hx, hb, hml, hown, hB⟩, hK, hi, hA, hAd, hP, hS⟩ (c_X5_stageAt hv) cal_X5_stageAt kN_X4_176 ⟨Nat.le_trans (Nat.le_of_ble_eq_true rfl) hRf, Nat.le_trans (Nat.le_of_ble_eq_true rfl) hRl⟩ rfl hl.1 (Nat.le_of_ble_eq_true rfl) rfl dX4_pursueQuests_55 ⟨Nat.zero_le _, Nat.zero_le _⟩ (fun H locs hP hS => ?_)
          refine lv_iload_n hx hb dX4_pursueQuests_58 rfl (lv_at hl 3 rfl) ?_
          refine lv_iload_n hx hb dX4_pursueQuests_59 rfl (lv_at hl 4 rfl) ?_
          refine lv_iload_n hx hb dX4_pursueQuests_60 rfl (lv_at hl 5 rfl) ?_
          obtain ⟨v14, hv, hf⟩ := bd_e hf
          refine g_cViS (k0 := 0) ⟨⟨hx, hb, hml, hown, hB⟩, hK, hi, hA, hAd, hP, hS⟩ (c_X4_isFulfilled hi hv) cal_X4_isFulfilled kM_X4_179 ⟨Nat.le_trans (Nat.le_of_ble_eq_true rfl) hRf, Nat.le_trans (Nat.le_of_ble_eq_true rfl) hRl⟩ (by decide) rfl rfl rfl hl.1 (Nat.le_of_ble_eq_true rfl) rfl dX4_pursueQuests_61 ⟨Nat.zero_le _, Nat.zero_le _⟩ (fun H locs hP hS => ?_)
          refine lv_if_eq (tgt := 119) hx hb dX4_pursueQuests_64 (by decide) (fun q15 => ?_) (fun q15 => ?_)
          · rw [if_pos q15] at hf
            exact hJ11 σ5 _ _ ls hf hP hS (lv_sub hl [2, 3, 4, 5, 6] rfl)
          · rw [if_neg q15] at hf
            refine lv_aload_n hx hb dX4_pursueQuests_67 rfl (lv_at hl 2 rfl) ?_
            refine g_get (v := .ref (ad 8)) hx hb hB hown hK hP 0 (by decide) rfl rfl kU_X4 1 (by decide) kF_X4_21 rfl rfl dX4_pursueQuests_68 ?_
            refine g_get (v := .ref (ad 15)) hx hb hB hown hK hP 8 (by decide) rfl rfl kU_X1 7 (by decide) kF_X4_170 rfl rfl dX4_pursueQuests_71 ?_
            refine lv_iload hx hb dX4_pursueQuests_74 (lv_at hl 1 rfl) ?_
            refine lv_dup2_11 hx hb dX4_pursueQuests_76 rfl rfl ?_
            obtain ⟨hin, hf⟩ := gd_e hf
            refine g_iald hx hb hK hP 15 12 (by decide) rfl hin dX4_pursueQuests_77 ?_
            refine lv_iconst (v := 1) hx hb dX4_pursueQuests_78 (by decide) ?_
            refine lv_iadd hx hb dX4_pursueQuests_79 ?_
            obtain ⟨hin, hf⟩ := gd_e hf
            obtain ⟨σ16, eσ16, hf⟩ := stp_e hf
            refine g_iast (σ1 := σ16) hx hb hK hP hi hAd hS 15 12 (by decide) (fun _ => rfl) hin dX4_pursueQuests_80 eσ16 (fun H locs hP hS => ?_)
            refine lv_aload_n hx hb dX4_pursueQuests_81 rfl (lv_at hl 2 rfl) ?_
            refine g_get (v := .ref (ad 8)) hx hb hB hown hK hP 0 (by decide) rfl rfl kU_X4 1 (by decide) kF_X4_21 rfl rfl dX4_pursueQuests_82 ?_
            refine g_get (v := .ref (ad 15)) hx hb hB hown hK hP 8 (by decide) rfl rfl kU_X1 7 (by decide) kF_X4_170 rfl rfl dX4_pursueQuests_85 ?_
            refine lv_iload hx hb dX4_pursueQuests_88 (lv_at hl 1 rfl) ?_
            obtain ⟨hin, hf⟩ := gd_e hf
            refine g_iald hx hb hK hP 15 12 (by decide) rfl hin dX4_pursueQuests_90 ?_
            refine lv_aload_n hx hb dX4_pursueQuests_91 rfl (lv_at hl 2 rfl) ?_
            refine g_get (v := .ref (ad 18)) hx hb hB hown hK hP 0 (by decide) rfl rfl kU_X4 2 (by decide) kF_X4_28 rfl rfl dX4_pursueQuests_92 ?_
            refine g_get (v := .ref (ad 20)) hx hb hB hown hK hP 18 (by decide) rfl rfl kU_X3 2 (by decide) kF_X4_173 rfl rfl dX4_pursueQuests_95 ?_
            refine lv_iload hx hb dX4_pursueQuests_98 (lv_at hl 6 rfl) ?_
            obtain ⟨hin, hf⟩ := gd_e hf
            refine g_iald hx hb hK hP 20 3 (by decide) rfl hin dX4_pursueQuests_100 ?_
            refine lv_icmp_ne (tgt := 119) hx hb dX4_pursueQuests_101 (by decide) (fun q17 => ?_) (fun q17 => ?_)
            · rw [if_neg q17] at hf
              exact hJ11 σ16 _ _ ls hf hP hS (lv_sub hl [2, 3, 4, 5, 6] rfl)
            · rw [if_pos q17] at hf
              refine lv_aload_n hx hb dX4_pursueQuests_104 rfl (lv_at hl 2 rfl) ?_
              refine lv_iload_n hx hb dX4_pursueQuests_105 rfl (lv_at hl 3 rfl) ?_
              refine lv_aload_n hx hb dX4_pursueQuests_106 rfl (lv_at hl 2 rfl) ?_
              refine g_get (v := .ref (ad 18)) hx hb hB hown hK hP 0 (by decide) rfl rfl kU_X4 2 (by decide) kF_X4_28 rfl rfl dX4_pursueQuests_107 ?_
              refine g_get (v := .ref (ad 19)) hx hb hB hown hK hP 18 (by decide) rfl rfl kU_X3 1 (by decide) kF_X4_183 rfl rfl dX4_pursueQuests_110 ?_
              refine lv_iload hx hb dX4_pursueQuests_113 (lv_at hl 6 rfl) ?_
              obtain ⟨hin, hf⟩ := gd_e hf
              refine g_iald hx hb hK hP 19 3 (by decide) rfl hin dX4_pursueQuests_115 ?_
              obtain ⟨σ18, hv, hf⟩ := bd_e hf
              refine g_cVvS (k0 := 0) ⟨⟨hx, hb, hml, hown, hB⟩, hK, hi, hA, hAd, hP, hS⟩ (c_X4_reward hi hv) cal_X4_reward kM_X4_186 ⟨Nat.le_trans (Nat.le_of_ble_eq_true rfl) hRf, Nat.le_trans (Nat.le_of_ble_eq_true rfl) hRl⟩ (by decide) rfl rfl rfl hl.1 (Nat.le_of_ble_eq_true rfl) rfl dX4_pursueQuests_116 ⟨Nat.zero_le _, Nat.zero_le _⟩ (fun H locs hP hS => ?_)
              refine lv_iinc (v := (x4 + 1)) (lv' := [(4, .int (x4 + 1)), (6, .int (σ5 15 v9.toNatClampNeg)), (5, .int v9), (0, .ref (ad 0)), (1, .int a0), (2, .int a1), (3, .int a2)]) hx hb dX4_pursueQuests_119 hl (k := 6) rfl rfl (by decide) rfl (fun ls hl => ?_)
              refine lv_goto (tgt := 3) hx hb dX4_pursueQuests_122 (by decide) ?_
              exact ih (x4 + 1) σ18 _ _ ls hf hP hS (lv_sub hl [3, 4, 5, 6, 0] rfl)
  exact hL_X4_pursueQuests_3 FU 0 σ _ _ ls hf hP hS (lv_sub hl [1, 2, 3, 4, 0] rfl)
def f_X4_perform (σ : Mem) (a0 a1 a2 a3 : Int32) : Option (Int32 × Mem) :=
gd a1 4 <|
if a0 = 9 then (
bd (f_X2_exitFrom σ (σ 9 a1.toNatClampNeg) a2) fun v2 =>
gd a1 4 <| stp (mu σ 9 a1.toNatClampNeg v2) fun σ3 =>
gd a1 4 <|
some ((σ3 9 a1.toNatClampNeg), σ3))
else if a0 = 10 then (
bd2 (f_X4_tell σ a1 a2 0) fun v5 σ6 =>
some (v5, σ6))
else if a0 = 11 then (
bd2 (f_X4_tell σ a1 a2 1) fun v8 σ9 =>
some (v8, σ9))
else if a0 = 12 then (
bd2 (f_X2_addToFloor σ (σ 9 a1.toNatClampNeg) a2 (-1)) fun v11 σ12 =>
bd2 (f_X1_addGoods σ12 a1 a2 1) fun v13 σ14 =>
some (v13, σ14))
else if a0 = 13 then (
bd2 (f_X2_addToFloor σ (σ 9 a1.toNatClampNeg) a2 1) fun v16 σ17 =>
bd2 (f_X1_addGoods σ17 a1 a2 (-1)) fun v18 σ19 =>
some (v18, σ19))
else if a0 = 14 then (
bd2 (f_X1_addGoods σ a2 a3 1) fun v21 σ22 =>
bd2 (f_X1_addGoods σ22 a1 a3 (-1)) fun v23 σ24 =>
some (v23, σ24))
else if a0 = 15 then (
bd (f_X1_payOut σ a1 a2 a3) fun σ26 =>
some (0, σ26))
else if a0 = 16 then (
bd (f_X5_goodsAt (σ 9 a1.toNatClampNeg) a2) fun v28 =>
gd v28 40 <|
bd (f_X4_trade σ a1 a2 1 (σ 4 v28.toNatClampNeg)) fun σ29 =>
some (0, σ29))
else if a0 = 17 then (
bd (f_X2_halfPrice σ (σ 9 a1.toNatClampNeg) a2) fun v31 =>
bd (f_X4_trade σ a1 a2 (-1) (-v31)) fun σ32 =>
some (0, σ32))
else if a0 = 18 then (
bd2 (f_X4_fight σ a1 a2) fun v34 σ35 =>
some (v34, σ35))
else (
gd a1 4 <|
gd a1 4 <| stp (mu σ 12 a1.toNatClampNeg (jmin ((σ 12 a1.toNatClampNeg) + 1) 20)) fun σ36 =>
gd a1 4 <|
some ((σ36 12 a1.toNatClampNeg), σ36))
set_option maxHeartbeats 4000000 in
set_option maxRecDepth 100000 in
theorem c_X4_perform {l : Launch} {D : va_G} {cI cJ : ClassId} {ad : Nat → Nat} {σ : Mem} {a0 a1 a2 a3 : Int32} {r : Int32} {σr : Mem}  (hi : injG 24 ad) (hf : f_X4_perform σ a0 a1 a2 a3 = some (r, σr)) : MGi l yX4_perform (Cond.code yX4_perform cX4_perform 6 (some .int) :: BIG) 3 73 D cI cJ 24 ad (EW ad cI) [.ref (ad 0), .int a0, .int a1, .int a2, .int a3] σ σr r := by
  refine MGi.ofW (cc := cX4_perform) (nL := 6) (ret := (some .int)) (by decide) rfl hi ?_
  intro p e s m args below meth c hx hb hr hml hlocks hown hB hK hP hA hAd hS
  have hown : s.vm.findClass RX4 = some m.cls := hown
  have hl := lv_entry ([.ref (ad 0), .int a0, .int a1, .int a2, .int a3] : List Value) (n := 6) (Nat.le_of_ble_eq_true rfl)
  rw [lg_entry_eq]
  generalize (lg_sl ([.ref (ad 0), .int a0, .int a1, .int a2, .int a3] : List Value) ++ List.replicate (6 - (lg_sl ([.ref (ad 0), .int a0, .int a1, .int a2, .int a3] : List Value)).length) Slot.unset).toArray = ls at hl ⊢
  have hl : lv_has ls 6 [(0, .ref (ad 0)), (1, .int a0), (2, .int a1), (3, .int a2), (4, .int a3)] := hl
  generalize hQ : MQ below (Qgi D 24 ad (EW ad cI) r σr s.heap.size) _ s 0 0 (AG 24 ad s.heap.size) = Q
  have hQ := hQ.symm
  obtain ⟨R, hR, hRf, hRl⟩ : ∃ R : Room, R = ({ frames := 3, cells := 0, slots := 0, locals := 73 } : Room) ∧ 3 ≤ R.frames ∧ 73 ≤ R.locals := ⟨_, rfl, Nat.le_refl _, Nat.le_refl _⟩
  rw [← hR]
  unfold f_X4_perform at hf
  refine lv_aload_n hx hb dX4_perform_0 rfl (lv_at hl 0 rfl) ?_
  refine g_get (v := .ref (ad 8)) hx hb hB hown hK hP 0 (by decide) rfl rfl kU_X4 1 (by decide) kF_X4_21 rfl rfl dX4_perform_1 ?_
  refine g_get (v := .ref (ad 9)) hx hb hB hown hK hP 8 (by decide) rfl rfl kU_X1 1 (by decide) kF_X4_95 rfl rfl dX4_perform_4 ?_
  refine lv_iload_n hx hb dX4_perform_7 rfl (lv_at hl 2 rfl) ?_
  obtain ⟨hin, hf⟩ := gd_e hf
  refine g_iald hx hb hK hP 9 4 (by decide) rfl hin dX4_perform_8 ?_
  refine lv_istore (lv' := [(5, .int (σ 9 a1.toNatClampNeg)), (0, .ref (ad 0)), (1, .int a0), (2, .int a1), (3, .int a2), (4, .int a3)]) hx hb dX4_perform_9 hl (by decide) rfl (fun ls hl => ?_)
  refine lv_iload_n hx hb dX4_perform_11 rfl (lv_at hl 2 rfl) ?_
  by_cases q1 : a0 = 9
  · rw [if_pos q1] at hf
    refine lv_tableIn (off := 56) (tgt := 68) hx hb dX4_perform_12 (by rw [q1]; decide) (by rw [q1]; decide) (by rw [q1]; rfl) (by decide) ?_
    refine lv_aload_n hx hb dX4_perform_68 rfl (lv_at hl 1 rfl) ?_
    refine g_get (v := .ref (ad 8)) hx hb hB hown hK hP 0 (by decide) rfl rfl kU_X4 1 (by decide) kF_X4_21 rfl rfl dX4_perform_69 ?_
    refine g_get (v := .ref (ad 9)) hx hb hB hown hK hP 8 (by decide) rfl rfl kU_X1 1 (by decide) kF_X4_95 rfl rfl dX4_perform_72 ?_
    refine lv_iload_n hx hb dX4_perform_75 rfl (lv_at hl 3 rfl) ?_
    refine lv_aload_n hx hb dX4_perform_76 rfl (lv_at hl 1 rfl) ?_
    refine g_get (v := .ref (ad 1)) hx hb hB hown hK hP 0 (by decide) rfl rfl kU_X4 0 (by decide) kF_X4_12 rfl rfl dX4_perform_77 ?_
    refine lv_iload hx hb dX4_perform_80 (lv_at hl 0 rfl) ?_
    refine lv_iload_n hx hb dX4_perform_82 rfl (lv_at hl 4 rfl) ?_
    obtain ⟨v2, hv, hf⟩ := bd_e hf
    refine g_cViS (k0 := 1) ⟨⟨hx, hb, hml, hown, hB⟩, hK, hi, hA, hAd, hP, hS⟩ (c_X2_exitFrom hi hv) cal_X2_exitFrom kM_X4_98 ⟨Nat.le_trans (Nat.le_of_ble_eq_true rfl) hRf, Nat.le_trans (Nat.le_of_ble_eq_true rfl) hRl⟩ (by decide) rfl rfl rfl hl.1 (Nat.le_of_ble_eq_true rfl) rfl dX4_perform_83 ⟨Nat.zero_le _, Nat.zero_le _⟩ (fun H locs hP hS => ?_)
    obtain ⟨hin, hf⟩ := gd_e hf
    obtain ⟨σ3, eσ3, hf⟩ := stp_e hf
    refine g_iast (σ1 := σ3) hx hb hK hP hi hAd hS 9 4 (by decide) (fun _ => rfl) hin dX4_perform_86 eσ3 (fun H locs hP hS => ?_)
    refine lv_aload_n hx hb dX4_perform_87 rfl (lv_at hl 1 rfl) ?_
    refine g_get (v := .ref (ad 8)) hx hb hB hown hK hP 0 (by decide) rfl rfl kU_X4 1 (by decide) kF_X4_21 rfl rfl dX4_perform_88 ?_
    refine g_get (v := .ref (ad 9)) hx hb hB hown hK hP 8 (by decide) rfl rfl kU_X1 1 (by decide) kF_X4_95 rfl rfl dX4_perform_91 ?_
    refine lv_iload_n hx hb dX4_perform_94 rfl (lv_at hl 3 rfl) ?_
    obtain ⟨hin, hf⟩ := gd_e hf
    refine g_iald hx hb hK hP 9 4 (by decide) rfl hin dX4_perform_95 ?_
    obtain ⟨h1, h2⟩ := rt2 hf
    rw [hQ]
    exact g_iret hx hb hr hlocks hP hS h1 h2 dX4_perform_96
  · rw [if_neg q1] at hf
    by_cases q4 : a0 = 10
    · rw [if_pos q4] at hf
      refine lv_tableIn (off := 85) (tgt := 97) hx hb dX4_perform_12 (by rw [q4]; decide) (by rw [q4]; decide) (by rw [q4]; rfl) (by decide) ?_
      refine lv_aload_n hx hb dX4_perform_97 rfl (lv_at hl 1 rfl) ?_
      refine lv_iload_n hx hb dX4_perform_98 rfl (lv_at hl 3 rfl) ?_
      refine lv_iload_n hx hb dX4_perform_99 rfl (lv_at hl 4 rfl) ?_
      refine lv_iconst (v := 0) hx hb dX4_perform_100 (by decide) ?_
      obtain ⟨v5, σ6, hv, hf⟩ := bd2_e hf
      refine g_cViS (k0 := 0) ⟨⟨hx, hb, hml, hown, hB⟩, hK, hi, hA, hAd, hP, hS⟩ (c_X4_tell hi hv) cal_X4_tell kM_X4_102 ⟨Nat.le_trans (Nat.le_of_ble_eq_true rfl) hRf, Nat.le_trans (Nat.le_of_ble_eq_true rfl) hRl⟩ (by decide) rfl rfl rfl hl.1 (Nat.le_of_ble_eq_true rfl) rfl dX4_perform_101 ⟨Nat.zero_le _, Nat.zero_le _⟩ (fun H locs hP hS => ?_)
      obtain ⟨h1, h2⟩ := rt2 hf
      rw [hQ]
      exact g_iret hx hb hr hlocks hP hS h1 h2 dX4_perform_104
    · rw [if_neg q4] at hf
      by_cases q7 : a0 = 11
      · rw [if_pos q7] at hf
        refine lv_tableIn (off := 93) (tgt := 105) hx hb dX4_perform_12 (by rw [q7]; decide) (by rw [q7]; decide) (by rw [q7]; rfl) (by decide) ?_
        refine lv_aload_n hx hb dX4_perform_105 rfl (lv_at hl 1 rfl) ?_
        refine lv_iload_n hx hb dX4_perform_106 rfl (lv_at hl 3 rfl) ?_
        refine lv_iload_n hx hb dX4_perform_107 rfl (lv_at hl 4 rfl) ?_
        refine lv_iconst (v := 1) hx hb dX4_perform_108 (by decide) ?_
        obtain ⟨v8, σ9, hv, hf⟩ := bd2_e hf
        refine g_cViS (k0 := 0) ⟨⟨hx, hb, hml, hown, hB⟩, hK, hi, hA, hAd, hP, hS⟩ (c_X4_tell hi hv) cal_X4_tell kM_X4_102 ⟨Nat.le_trans (Nat.le_of_ble_eq_true rfl) hRf, Nat.le_trans (Nat.le_of_ble_eq_true rfl) hRl⟩ (by decide) rfl rfl rfl hl.1 (Nat.le_of_ble_eq_true rfl) rfl dX4_perform_109 ⟨Nat.zero_le _, Nat.zero_le _⟩ (fun H locs hP hS => ?_)
        obtain ⟨h1, h2⟩ := rt2 hf
        rw [hQ]
        exact g_iret hx hb hr hlocks hP hS h1 h2 dX4_perform_112
      · rw [if_neg q7] at hf
        by_cases q10 : a0 = 12
        · rw [if_pos q10] at hf
          refine lv_tableIn (off := 101) (tgt := 113) hx hb dX4_perform_12 (by rw [q10]; decide) (by rw [q10]; decide) (by rw [q10]; rfl) (by decide) ?_
          refine lv_aload_n hx hb dX4_perform_113 rfl (lv_at hl 1 rfl) ?_
          refine g_get (v := .ref (ad 1)) hx hb hB hown hK hP 0 (by decide) rfl rfl kU_X4 0 (by decide) kF_X4_12 rfl rfl dX4_perform_114 ?_
          refine lv_iload hx hb dX4_perform_117 (lv_at hl 0 rfl) ?_
          refine lv_iload_n hx hb dX4_perform_119 rfl (lv_at hl 4 rfl) ?_
          refine lv_iconst (v := (-1)) hx hb dX4_perform_120 (by decide) ?_
          obtain ⟨v11, σ12, hv, hf⟩ := bd2_e hf
          refine g_cViS (k0 := 1) ⟨⟨hx, hb, hml, hown, hB⟩, hK, hi, hA, hAd, hP, hS⟩ (c_X2_addToFloor hi hv) cal_X2_addToFloor kM_X4_83 ⟨Nat.le_trans (Nat.le_of_ble_eq_true rfl) hRf, Nat.le_trans (Nat.le_of_ble_eq_true rfl) hRl⟩ (by decide) rfl rfl rfl hl.1 (Nat.le_of_ble_eq_true rfl) rfl dX4_perform_121 ⟨Nat.zero_le _, Nat.zero_le _⟩ (fun H locs hP hS => ?_)
          refine lv_pop hx hb dX4_perform_124 rfl ?_
          refine lv_aload_n hx hb dX4_perform_125 rfl (lv_at hl 1 rfl) ?_
          refine g_get (v := .ref (ad 8)) hx hb hB hown hK hP 0 (by decide) rfl rfl kU_X4 1 (by decide) kF_X4_21 rfl rfl dX4_perform_126 ?_
          refine lv_iload_n hx hb dX4_perform_129 rfl (lv_at hl 3 rfl) ?_
          refine lv_iload_n hx hb dX4_perform_130 rfl (lv_at hl 4 rfl) ?_
          refine lv_iconst (v := 1) hx hb dX4_perform_131 (by decide) ?_
          obtain ⟨v13, σ14, hv, hf⟩ := bd2_e hf
          refine g_cViS (k0 := 8) ⟨⟨hx, hb, hml, hown, hB⟩, hK, hi, hA, hAd, hP, hS⟩ (c_X1_addGoods hi hv) cal_X1_addGoods kM_X4_106 ⟨Nat.le_trans (Nat.le_of_ble_eq_true rfl) hRf, Nat.le_trans (Nat.le_of_ble_eq_true rfl) hRl⟩ (by decide) rfl rfl rfl hl.1 (Nat.le_of_ble_eq_true rfl) rfl dX4_perform_132 ⟨Nat.zero_le _, Nat.zero_le _⟩ (fun H locs hP hS => ?_)
          obtain ⟨h1, h2⟩ := rt2 hf
          rw [hQ]
          exact g_iret hx hb hr hlocks hP hS h1 h2 dX4_perform_135
        · rw [if_neg q10] at hf
          by_cases q15 : a0 = 13
          · rw [if_pos q15] at hf
            refine lv_tableIn (off := 124) (tgt := 136) hx hb dX4_perform_12 (by rw [q15]; decide) (by rw [q15]; decide) (by rw [q15]; rfl) (by decide) ?_
            refine lv_aload_n hx hb dX4_perform_136 rfl (lv_at hl 1 rfl) ?_
            refine g_get (v := .ref (ad 1)) hx hb hB hown hK hP 0 (by decide) rfl rfl kU_X4 0 (by decide) kF_X4_12 rfl rfl dX4_perform_137 ?_
            refine lv_iload hx hb dX4_perform_140 (lv_at hl 0 rfl) ?_
            refine lv_iload_n hx hb dX4_perform_142 rfl (lv_at hl 4 rfl) ?_
            refine lv_iconst (v := 1) hx hb dX4_perform_143 (by decide) ?_
            obtain ⟨v16, σ17, hv, hf⟩ := bd2_e hf
            refine g_cViS (k0 := 1) ⟨⟨hx, hb, hml, hown, hB⟩, hK, hi, hA, hAd, hP, hS⟩ (c_X2_addToFloor hi hv) cal_X2_addToFloor kM_X4_83 ⟨Nat.le_trans (Nat.le_of_ble_eq_true rfl) hRf, Nat.le_trans (Nat.le_of_ble_eq_true rfl) hRl⟩ (by decide) rfl rfl rfl hl.1 (Nat.le_of_ble_eq_true rfl) rfl dX4_perform_144 ⟨Nat.zero_le _, Nat.zero_le _⟩ (fun H locs hP hS => ?_)
            refine lv_pop hx hb dX4_perform_147 rfl ?_
            refine lv_aload_n hx hb dX4_perform_148 rfl (lv_at hl 1 rfl) ?_
            refine g_get (v := .ref (ad 8)) hx hb hB hown hK hP 0 (by decide) rfl rfl kU_X4 1 (by decide) kF_X4_21 rfl rfl dX4_perform_149 ?_
            refine lv_iload_n hx hb dX4_perform_152 rfl (lv_at hl 3 rfl) ?_
            refine lv_iload_n hx hb dX4_perform_153 rfl (lv_at hl 4 rfl) ?_
            refine lv_iconst (v := (-1)) hx hb dX4_perform_154 (by decide) ?_
            obtain ⟨v18, σ19, hv, hf⟩ := bd2_e hf
            refine g_cViS (k0 := 8) ⟨⟨hx, hb, hml, hown, hB⟩, hK, hi, hA, hAd, hP, hS⟩ (c_X1_addGoods hi hv) cal_X1_addGoods kM_X4_106 ⟨Nat.le_trans (Nat.le_of_ble_eq_true rfl) hRf, Nat.le_trans (Nat.le_of_ble_eq_true rfl) hRl⟩ (by decide) rfl rfl rfl hl.1 (Nat.le_of_ble_eq_true rfl) rfl dX4_perform_155 ⟨Nat.zero_le _, Nat.zero_le _⟩ (fun H locs hP hS => ?_)
            obtain ⟨h1, h2⟩ := rt2 hf
            rw [hQ]
            exact g_iret hx hb hr hlocks hP hS h1 h2 dX4_perform_158
          · rw [if_neg q15] at hf
            by_cases q20 : a0 = 14
            · rw [if_pos q20] at hf
              refine lv_tableIn (off := 147) (tgt := 159) hx hb dX4_perform_12 (by rw [q20]; decide) (by rw [q20]; decide) (by rw [q20]; rfl) (by decide) ?_
              refine lv_aload_n hx hb dX4_perform_159 rfl (lv_at hl 1 rfl) ?_
              refine g_get (v := .ref (ad 8)) hx hb hB hown hK hP 0 (by decide) rfl rfl kU_X4 1 (by decide) kF_X4_21 rfl rfl dX4_perform_160 ?_
              refine lv_iload_n hx hb dX4_perform_163 rfl (lv_at hl 4 rfl) ?_
              refine lv_iload hx hb dX4_perform_164 (lv_at hl 5 rfl) ?_
              refine lv_iconst (v := 1) hx hb dX4_perform_166 (by decide) ?_
              obtain ⟨v21, σ22, hv, hf⟩ := bd2_e hf
              refine g_cViS (k0 := 8) ⟨⟨hx, hb, hml, hown, hB⟩, hK, hi, hA, hAd, hP, hS⟩ (c_X1_addGoods hi hv) cal_X1_addGoods kM_X4_106 ⟨Nat.le_trans (Nat.le_of_ble_eq_true rfl) hRf, Nat.le_trans (Nat.le_of_ble_eq_true rfl) hRl⟩ (by decide) rfl rfl rfl hl.1 (Nat.le_of_ble_eq_true rfl) rfl dX4_perform_167 ⟨Nat.zero_le _, Nat.zero_le _⟩ (fun H locs hP hS => ?_)
              refine lv_pop hx hb dX4_perform_170 rfl ?_
              refine lv_aload_n hx hb dX4_perform_171 rfl (lv_at hl 1 rfl) ?_
              refine g_get (v := .ref (ad 8)) hx hb hB hown hK hP 0 (by decide) rfl rfl kU_X4 1 (by decide) kF_X4_21 rfl rfl dX4_perform_172 ?_
              refine lv_iload_n hx hb dX4_perform_175 rfl (lv_at hl 3 rfl) ?_
              refine lv_iload hx hb dX4_perform_176 (lv_at hl 5 rfl) ?_
              refine lv_iconst (v := (-1)) hx hb dX4_perform_178 (by decide) ?_
              obtain ⟨v23, σ24, hv, hf⟩ := bd2_e hf
              refine g_cViS (k0 := 8) ⟨⟨hx, hb, hml, hown, hB⟩, hK, hi, hA, hAd, hP, hS⟩ (c_X1_addGoods hi hv) cal_X1_addGoods kM_X4_106 ⟨Nat.le_trans (Nat.le_of_ble_eq_true rfl) hRf, Nat.le_trans (Nat.le_of_ble_eq_true rfl) hRl⟩ (by decide) rfl rfl rfl hl.1 (Nat.le_of_ble_eq_true rfl) rfl dX4_perform_179 ⟨Nat.zero_le _, Nat.zero_le _⟩ (fun H locs hP hS => ?_)
              obtain ⟨h1, h2⟩ := rt2 hf
              rw [hQ]
              exact g_iret hx hb hr hlocks hP hS h1 h2 dX4_perform_182
            · rw [if_neg q20] at hf
              by_cases q25 : a0 = 15
              · rw [if_pos q25] at hf
                refine lv_tableIn (off := 171) (tgt := 183) hx hb dX4_perform_12 (by rw [q25]; decide) (by rw [q25]; decide) (by rw [q25]; rfl) (by decide) ?_
                refine lv_aload_n hx hb dX4_perform_183 rfl (lv_at hl 1 rfl) ?_
                refine g_get (v := .ref (ad 8)) hx hb hB hown hK hP 0 (by decide) rfl rfl kU_X4 1 (by decide) kF_X4_21 rfl rfl dX4_perform_184 ?_
                refine lv_iload_n hx hb dX4_perform_187 rfl (lv_at hl 3 rfl) ?_
                refine lv_iload_n hx hb dX4_perform_188 rfl (lv_at hl 4 rfl) ?_
                refine lv_iload hx hb dX4_perform_189 (lv_at hl 5 rfl) ?_
                obtain ⟨σ26, hv, hf⟩ := bd_e hf
                refine g_cVvS (k0 := 8) ⟨⟨hx, hb, hml, hown, hB⟩, hK, hi, hA, hAd, hP, hS⟩ (c_X1_payOut hi hv) cal_X1_payOut kM_X4_109 ⟨Nat.le_trans (Nat.le_of_ble_eq_true rfl) hRf, Nat.le_trans (Nat.le_of_ble_eq_true rfl) hRl⟩ (by decide) rfl rfl rfl hl.1 (Nat.le_of_ble_eq_true rfl) rfl dX4_perform_191 ⟨Nat.zero_le _, Nat.zero_le _⟩ (fun H locs hP hS => ?_)
                refine lv_iconst (v := 0) hx hb dX4_perform_194 (by decide) ?_
                obtain ⟨h1, h2⟩ := rt2 hf
                rw [hQ]
                exact g_iret hx hb hr hlocks hP hS h1 h2 dX4_perform_195
              · rw [if_neg q25] at hf
                by_cases q27 : a0 = 16
                · rw [if_pos q27] at hf
                  refine lv_tableIn (off := 184) (tgt := 196) hx hb dX4_perform_12 (by rw [q27]; decide) (by rw [q27]; decide) (by rw [q27]; rfl) (by decide) ?_
                  refine lv_aload_n hx hb dX4_perform_196 rfl (lv_at hl 1 rfl) ?_
                  refine lv_iload_n hx hb dX4_perform_197 rfl (lv_at hl 3 rfl) ?_
                  refine lv_iload_n hx hb dX4_perform_198 rfl (lv_at hl 4 rfl) ?_
                  refine lv_iconst (v := 1) hx hb dX4_perform_199 (by decide) ?_
                  refine lv_aload_n hx hb dX4_perform_200 rfl (lv_at hl 1 rfl) ?_
                  refine g_get (v := .ref (ad 1)) hx hb hB hown hK hP 0 (by decide) rfl rfl kU_X4 0 (by decide) kF_X4_12 rfl rfl dX4_perform_201 ?_
                  refine g_get (v := .ref (ad 4)) hx hb hB hown hK hP 1 (by decide) rfl rfl kU_X2 2 (by decide) kF_X4_112 rfl rfl dX4_perform_204 ?_
                  refine lv_iload hx hb dX4_perform_207 (lv_at hl 0 rfl) ?_
                  refine lv_iload_n hx hb dX4_perform_209 rfl (lv_at hl 4 rfl) ?_
                  obtain ⟨v28, hv, hf⟩ := bd_e hf
                  refine g_cNi0 ⟨⟨hx, hb, hml, hown, hB⟩, hK, hi, hA, hAd, hP, hS⟩ (c_X5_goodsAt hv) cal_X5_goodsAt kN_X4_115 ⟨Nat.le_trans (Nat.le_of_ble_eq_true rfl) hRf, Nat.le_trans (Nat.le_of_ble_eq_true rfl) hRl⟩ rfl hl.1 (Nat.le_of_ble_eq_true rfl) rfl dX4_perform_210 ⟨Nat.zero_le _, Nat.zero_le _⟩ (fun H locs hP hS => ?_)
                  obtain ⟨hin, hf⟩ := gd_e hf
                  refine g_iald hx hb hK hP 4 40 (by decide) rfl hin dX4_perform_213 ?_
                  obtain ⟨σ29, hv, hf⟩ := bd_e hf
                  refine g_cVvS (k0 := 0) ⟨⟨hx, hb, hml, hown, hB⟩, hK, hi, hA, hAd, hP, hS⟩ (c_X4_trade hi hv) cal_X4_trade kM_X4_118 ⟨Nat.le_trans (Nat.le_of_ble_eq_true rfl) hRf, Nat.le_trans (Nat.le_of_ble_eq_true rfl) hRl⟩ (by decide) rfl rfl rfl hl.1 (Nat.le_of_ble_eq_true rfl) rfl dX4_perform_214 ⟨Nat.zero_le _, Nat.zero_le _⟩ (fun H locs hP hS => ?_)
                  refine lv_iconst (v := 0) hx hb dX4_perform_217 (by decide) ?_
                  obtain ⟨h1, h2⟩ := rt2 hf
                  rw [hQ]
                  exact g_iret hx hb hr hlocks hP hS h1 h2 dX4_perform_218
                · rw [if_neg q27] at hf
                  by_cases q30 : a0 = 17
                  · rw [if_pos q30] at hf
                    refine lv_tableIn (off := 207) (tgt := 219) hx hb dX4_perform_12 (by rw [q30]; decide) (by rw [q30]; decide) (by rw [q30]; rfl) (by decide) ?_
                    refine lv_aload_n hx hb dX4_perform_219 rfl (lv_at hl 1 rfl) ?_
                    refine lv_iload_n hx hb dX4_perform_220 rfl (lv_at hl 3 rfl) ?_
                    refine lv_iload_n hx hb dX4_perform_221 rfl (lv_at hl 4 rfl) ?_
                    refine lv_iconst (v := (-1)) hx hb dX4_perform_222 (by decide) ?_
                    refine lv_aload_n hx hb dX4_perform_223 rfl (lv_at hl 1 rfl) ?_
                    refine g_get (v := .ref (ad 1)) hx hb hB hown hK hP 0 (by decide) rfl rfl kU_X4 0 (by decide) kF_X4_12 rfl rfl dX4_perform_224 ?_
                    refine lv_iload hx hb dX4_perform_227 (lv_at hl 0 rfl) ?_
                    refine lv_iload_n hx hb dX4_perform_229 rfl (lv_at hl 4 rfl) ?_
                    obtain ⟨v31, hv, hf⟩ := bd_e hf
                    refine g_cViS (k0 := 1) ⟨⟨hx, hb, hml, hown, hB⟩, hK, hi, hA, hAd, hP, hS⟩ (c_X2_halfPrice hi hv) cal_X2_halfPrice kM_X4_122 ⟨Nat.le_trans (Nat.le_of_ble_eq_true rfl) hRf, Nat.le_trans (Nat.le_of_ble_eq_true rfl) hRl⟩ (by decide) rfl rfl rfl hl.1 (Nat.le_of_ble_eq_true rfl) rfl dX4_perform_230 ⟨Nat.zero_le _, Nat.zero_le _⟩ (fun H locs hP hS => ?_)
                    refine lv_ineg hx hb dX4_perform_233 ?_
                    obtain ⟨σ32, hv, hf⟩ := bd_e hf
                    refine g_cVvS (k0 := 0) ⟨⟨hx, hb, hml, hown, hB⟩, hK, hi, hA, hAd, hP, hS⟩ (c_X4_trade hi hv) cal_X4_trade kM_X4_118 ⟨Nat.le_trans (Nat.le_of_ble_eq_true rfl) hRf, Nat.le_trans (Nat.le_of_ble_eq_true rfl) hRl⟩ (by decide) rfl rfl rfl hl.1 (Nat.le_of_ble_eq_true rfl) rfl dX4_perform_234 ⟨Nat.zero_le _, Nat.zero_le _⟩ (fun H locs hP hS => ?_)
                    refine lv_iconst (v := 0) hx hb dX4_perform_237 (by decide) ?_
                    obtain ⟨h1, h2⟩ := rt2 hf
                    rw [hQ]
                    exact g_iret hx hb hr hlocks hP hS h1 h2 dX4_perform_238
                  · rw [if_neg q30] at hf
                    by_cases q33 : a0 = 18
                    · rw [if_pos q33] at hf
                      refine lv_tableIn (off := 227) (tgt := 239) hx hb dX4_perform_12 (by rw [q33]; decide) (by rw [q33]; decide) (by rw [q33]; rfl) (by decide) ?_
                      refine lv_aload_n hx hb dX4_perform_239 rfl (lv_at hl 1 rfl) ?_
                      refine lv_iload_n hx hb dX4_perform_240 rfl (lv_at hl 3 rfl) ?_
                      refine lv_iload_n hx hb dX4_perform_241 rfl (lv_at hl 4 rfl) ?_
                      obtain ⟨v34, σ35, hv, hf⟩ := bd2_e hf
                      refine g_cViS (k0 := 0) ⟨⟨hx, hb, hml, hown, hB⟩, hK, hi, hA, hAd, hP, hS⟩ (c_X4_fight hi hv) cal_X4_fight kM_X4_125 ⟨Nat.le_trans (Nat.le_of_ble_eq_true rfl) hRf, Nat.le_trans (Nat.le_of_ble_eq_true rfl) hRl⟩ (by decide) rfl rfl rfl hl.1 (Nat.le_of_ble_eq_true rfl) rfl dX4_perform_242 ⟨Nat.zero_le _, Nat.zero_le _⟩ (fun H locs hP hS => ?_)
                      obtain ⟨h1, h2⟩ := rt2 hf
                      rw [hQ]
                      exact g_iret hx hb hr hlocks hP hS h1 h2 dX4_perform_245
                    · rw [if_neg q33] at hf
                      refine lv_tableOut (tgt := 246) hx hb dX4_perform_12 (by have tq1 := ne_ti 9 rfl q1; have tq4 := ne_ti 10 rfl q4; have tq7 := ne_ti 11 rfl q7; have tq10 := ne_ti 12 rfl q10; have tq15 := ne_ti 13 rfl q15; have tq20 := ne_ti 14 rfl q20; have tq25 := ne_ti 15 rfl q25; have tq27 := ne_ti 16 rfl q27; have tq30 := ne_ti 17 rfl q30; have tq33 := ne_ti 18 rfl q33; omega) (by decide) ?_
                      refine lv_aload_n hx hb dX4_perform_246 rfl (lv_at hl 1 rfl) ?_
                      refine g_get (v := .ref (ad 8)) hx hb hB hown hK hP 0 (by decide) rfl rfl kU_X4 1 (by decide) kF_X4_21 rfl rfl dX4_perform_247 ?_
                      refine g_get (v := .ref (ad 12)) hx hb hB hown hK hP 8 (by decide) rfl rfl kU_X1 4 (by decide) kF_X4_128 rfl rfl dX4_perform_250 ?_
                      refine lv_iload_n hx hb dX4_perform_253 rfl (lv_at hl 3 rfl) ?_
                      refine lv_aload_n hx hb dX4_perform_254 rfl (lv_at hl 1 rfl) ?_
                      refine g_get (v := .ref (ad 8)) hx hb hB hown hK hP 0 (by decide) rfl rfl kU_X4 1 (by decide) kF_X4_21 rfl rfl dX4_perform_255 ?_
                      refine g_get (v := .ref (ad 12)) hx hb hB hown hK hP 8 (by decide) rfl rfl kU_X1 4 (by decide) kF_X4_128 rfl rfl dX4_perform_258 ?_
                      refine lv_iload_n hx hb dX4_perform_261 rfl (lv_at hl 3 rfl) ?_
                      obtain ⟨hin, hf⟩ := gd_e hf
                      refine g_iald hx hb hK hP 12 4 (by decide) rfl hin dX4_perform_262 ?_
                      refine lv_iconst (v := 1) hx hb dX4_perform_263 (by decide) ?_
                      refine lv_iadd hx hb dX4_perform_264 ?_
                      refine lv_bipush (v := 20) hx hb dX4_perform_265 (by decide) ?_
                      refine va_mmin hx hb (hml.trans hl.1.symm) hown (hB _ kJ_X4_131) (hB _ kJ_min.1) (hB _ kJ_min.2.1) (hB _ kJ_min.2.2) (Nat.le_trans (Nat.le_of_ble_eq_true rfl) hRf) (Nat.le_trans (Nat.le_of_ble_eq_true rfl) hRl) (Nat.zero_le _) (Nat.zero_le _) dX4_perform_267 ?_
                      obtain ⟨hin, hf⟩ := gd_e hf
                      obtain ⟨σ36, eσ36, hf⟩ := stp_e hf
                      refine g_iast (σ1 := σ36) hx hb hK hP hi hAd hS 12 4 (by decide) (fun _ => rfl) hin dX4_perform_270 eσ36 (fun H locs hP hS => ?_)
                      refine lv_aload_n hx hb dX4_perform_271 rfl (lv_at hl 1 rfl) ?_
                      refine g_get (v := .ref (ad 8)) hx hb hB hown hK hP 0 (by decide) rfl rfl kU_X4 1 (by decide) kF_X4_21 rfl rfl dX4_perform_272 ?_
                      refine g_get (v := .ref (ad 12)) hx hb hB hown hK hP 8 (by decide) rfl rfl kU_X1 4 (by decide) kF_X4_128 rfl rfl dX4_perform_275 ?_
                      refine lv_iload_n hx hb dX4_perform_278 rfl (lv_at hl 3 rfl) ?_
                      obtain ⟨hin, hf⟩ := gd_e hf
                      refine g_iald hx hb hK hP 12 4 (by decide) rfl hin dX4_perform_279 ?_
                      obtain ⟨h1, h2⟩ := rt2 hf
                      rw [hQ]
                      exact g_iret hx hb hr hlocks hP hS h1 h2 dX4_perform_280
def f_X4_play (σ : Mem) (a0 a1 a2 a3 a4 : Int32) : Option (Int32 × Mem) :=
if 9 ≤ a0 then (
bd (f_X1_next σ) fun v2 =>
if v2 = (-1) then (
some ((-1), σ))
else (
gd v2 4 <|
bd2 (f_X4_perform σ a0 v2 a1 a2) fun v4 σ5 =>
bd (f_X4_costOf a0) fun v6 =>
gd v2 4 <| stp (mu σ5 13 v2.toNatClampNeg ((σ 13 v2.toNatClampNeg) + v6)) fun σ7 =>
jn (fun (y8 : Int32) (σ9 : Mem) =>
jn (fun (σ11 : Mem) =>
jn (fun (y13 : Int32) (σ14 : Mem) =>
jn (fun (y18 : Int32) (y19 : Int32) (y16 : Int32) (σ17 : Mem) =>
bd (f_X4_pursueQuests σ17 y18 y19 y16) fun σ21 =>
jn (fun (y22 : Int32) (σ23 : Mem) =>
if y22 = 0 then (
some (v4, σ23))
else (
gd v2 4 <|
some ((σ23 10 v2.toNatClampNeg), σ23))) fun (J24 : Int32 → Mem → Option (Int32 × Mem)) =>
jn (fun (σ26 : Mem) =>
J24 1 σ26) fun (J27 : Mem → Option (Int32 × Mem)) =>
if a0 = 15 then (
J27 σ21)
else (
if a0 = 16 then (
J27 σ21)
else (
if a0 = 17 then (
J27 σ21)
else (
J24 0 σ21)))) fun (J20 : Int32 → Int32 → Int32 → Mem → Option (Int32 × Mem)) =>
if y8 = v2 then (
J20 v2 y13 (-1) σ14)
else (
J20 v2 y13 y8 σ14)) fun (J15 : Int32 → Mem → Option (Int32 × Mem)) =>
jn (fun (σ32 : Mem) =>
J15 a1 σ32) fun (J33 : Mem → Option (Int32 × Mem)) =>
if a0 = 10 then (
J33 σ11)
else (
if a0 = 11 then (
J33 σ11)
else (
J15 (-1) σ11))) fun (J12 : Mem → Option (Int32 × Mem)) =>
if y8 = (-1) then (
J12 σ9)
else (
jn (fun (y39 : Int32) (y37 : Int32) (σ38 : Mem) =>
bd (f_X4_defeat σ38 y39 y37 (σ 13 v2.toNatClampNeg)) fun σ41 =>
jn (fun (y42 : Int32) (σ43 : Mem) =>
jn (fun (y47 : Int32) (y48 : Int32) (y45 : Int32) (σ46 : Mem) =>
bd (f_X4_pursueQuests σ46 y47 y48 y45) fun σ50 =>
jn (fun (y51 : Int32) (σ52 : Mem) =>
if y51 = 0 then (
some (v4, σ52))
else (
gd v2 4 <|
some ((σ52 10 v2.toNatClampNeg), σ52))) fun (J53 : Int32 → Mem → Option (Int32 × Mem)) =>
jn (fun (σ55 : Mem) =>
J53 1 σ55) fun (J56 : Mem → Option (Int32 × Mem)) =>
if a0 = 15 then (
J56 σ50)
else (
if a0 = 16 then (
J56 σ50)
else (
if a0 = 17 then (
J56 σ50)
else (
J53 0 σ50)))) fun (J49 : Int32 → Int32 → Int32 → Mem → Option (Int32 × Mem)) =>
if y8 = v2 then (
J49 v2 y42 (-1) σ43)
else (
J49 v2 y42 y8 σ43)) fun (J44 : Int32 → Mem → Option (Int32 × Mem)) =>
jn (fun (σ61 : Mem) =>
J44 a1 σ61) fun (J62 : Mem → Option (Int32 × Mem)) =>
if a0 = 10 then (
J62 σ41)
else (
if a0 = 11 then (
J62 σ41)
else (
J44 (-1) σ41))) fun (J40 : Int32 → Int32 → Mem → Option (Int32 × Mem)) =>
if y8 = v2 then (
J40 y8 a1 σ9)
else (
J40 y8 v2 σ9))) fun (J10 : Int32 → Mem → Option (Int32 × Mem)) =>
if a0 = 18 then (
J10 v4 σ7)
else (
J10 (-1) σ7)))
else (
bd2 (f_X4_make σ a0 a1 a2 a3 a4) fun v67 σ68 =>
some (v67, σ68))
set_option maxHeartbeats 4000000 in
set_option maxRecDepth 100000 in
theorem c_X4_play {l : Launch} {D : va_G} {cI cJ : ClassId} {ad : Nat → Nat} {σ : Mem} {a0 a1 a2 a3 a4 : Int32} {r : Int32} {σr : Mem}  (hi : injG 24 ad) (hf : f_X4_play σ a0 a1 a2 a3 a4 = some (r, σr)) : MGi l yX4_play (Cond.code yX4_play cX4_play 12 (some .int) :: BIG) 4 98 D cI cJ 24 ad (EW ad cI) [.ref (ad 0), .int a0, .int a1, .int a2, .int a3, .int a4] σ σr r := by
  refine MGi.ofW (cc := cX4_play) (nL := 12) (ret := (some .int)) (by decide) rfl hi ?_
  intro p e s m args below meth c hx hb hr hml hlocks hown hB hK hP hA hAd hS
  have hown : s.vm.findClass RX4 = some m.cls := hown
  have hl := lv_entry ([.ref (ad 0), .int a0, .int a1, .int a2, .int a3, .int a4] : List Value) (n := 12) (Nat.le_of_ble_eq_true rfl)
  rw [lg_entry_eq]
  generalize (lg_sl ([.ref (ad 0), .int a0, .int a1, .int a2, .int a3, .int a4] : List Value) ++ List.replicate (12 - (lg_sl ([.ref (ad 0), .int a0, .int a1, .int a2, .int a3, .int a4] : List Value)).length) Slot.unset).toArray = ls at hl ⊢
  have hl : lv_has ls 12 [(0, .ref (ad 0)), (1, .int a0), (2, .int a1), (3, .int a2), (4, .int a3), (5, .int a4)] := hl
  generalize hQ : MQ below (Qgi D 24 ad (EW ad cI) r σr s.heap.size) _ s 0 0 (AG 24 ad s.heap.size) = Q
  have hQ := hQ.symm
  obtain ⟨R, hR, hRf, hRl⟩ : ∃ R : Room, R = ({ frames := 4, cells := 0, slots := 0, locals := 98 } : Room) ∧ 4 ≤ R.frames ∧ 98 ≤ R.locals := ⟨_, rfl, Nat.le_refl _, Nat.le_refl _⟩
  rw [← hR]
  unfold f_X4_play at hf
  refine lv_iload_n hx hb dX4_play_0 rfl (lv_at hl 1 rfl) ?_
  refine lv_bipush (v := 9) hx hb dX4_play_1 (by decide) ?_
  refine lv_icmp_ge (tgt := 18) hx hb dX4_play_3 (by decide) (fun q1 => ?_) (fun q1 => ?_)
  · rw [if_pos q1] at hf
    refine lv_aload_n hx hb dX4_play_18 rfl (lv_at hl 0 rfl) ?_
    refine g_get (v := .ref (ad 8)) hx hb hB hown hK hP 0 (by decide) rfl rfl kU_X4 1 (by decide) kF_X4_21 rfl rfl dX4_play_19 ?_
    obtain ⟨v2, hv, hf⟩ := bd_e hf
    refine g_cViS (k0 := 8) ⟨⟨hx, hb, hml, hown, hB⟩, hK, hi, hA, hAd, hP, hS⟩ (c_X1_next hi hv) cal_X1_next kM_X4_48 ⟨Nat.le_trans (Nat.le_of_ble_eq_true rfl) hRf, Nat.le_trans (Nat.le_of_ble_eq_true rfl) hRl⟩ (by decide) rfl rfl rfl hl.1 (Nat.le_of_ble_eq_true rfl) rfl dX4_play_22 ⟨Nat.zero_le _, Nat.zero_le _⟩ (fun H locs hP hS => ?_)
    refine lv_istore (lv' := [(6, .int v2), (0, .ref (ad 0)), (1, .int a0), (2, .int a1), (3, .int a2), (4, .int a3), (5, .int a4)]) hx hb dX4_play_25 hl (by decide) rfl (fun ls hl => ?_)
    refine lv_iload hx hb dX4_play_27 (lv_at hl 0 rfl) ?_
    refine lv_iconst (v := (-1)) hx hb dX4_play_29 (by decide) ?_
    refine lv_icmp_ne (tgt := 35) hx hb dX4_play_30 (by decide) (fun q3 => ?_) (fun q3 => ?_)
    · rw [if_neg q3] at hf
      refine lv_aload_n hx hb dX4_play_35 rfl (lv_at hl 1 rfl) ?_
      refine g_get (v := .ref (ad 8)) hx hb hB hown hK hP 0 (by decide) rfl rfl kU_X4 1 (by decide) kF_X4_21 rfl rfl dX4_play_36 ?_
      refine g_get (v := .ref (ad 13)) hx hb hB hown hK hP 8 (by decide) rfl rfl kU_X1 5 (by decide) kF_X4_52 rfl rfl dX4_play_39 ?_
      refine lv_iload hx hb dX4_play_42 (lv_at hl 0 rfl) ?_
      obtain ⟨hin, hf⟩ := gd_e hf
      refine g_iald hx hb hK hP 13 4 (by decide) rfl hin dX4_play_44 ?_
      refine lv_istore (lv' := [(7, .int (σ 13 v2.toNatClampNeg)), (6, .int v2), (0, .ref (ad 0)), (1, .int a0), (2, .int a1), (3, .int a2), (4, .int a3), (5, .int a4)]) hx hb dX4_play_45 hl (by decide) rfl (fun ls hl => ?_)
      refine lv_aload_n hx hb dX4_play_47 rfl (lv_at hl 2 rfl) ?_
      refine lv_iload_n hx hb dX4_play_48 rfl (lv_at hl 3 rfl) ?_
      refine lv_iload hx hb dX4_play_49 (lv_at hl 1 rfl) ?_
      refine lv_iload_n hx hb dX4_play_51 rfl (lv_at hl 4 rfl) ?_
      refine lv_iload_n hx hb dX4_play_52 rfl (lv_at hl 5 rfl) ?_
      obtain ⟨v4, σ5, hv, hf⟩ := bd2_e hf
      refine g_cViS (k0 := 0) ⟨⟨hx, hb, hml, hown, hB⟩, hK, hi, hA, hAd, hP, hS⟩ (c_X4_perform hi hv) cal_X4_perform kM_X4_56 ⟨Nat.le_trans (Nat.le_of_ble_eq_true rfl) hRf, Nat.le_trans (Nat.le_of_ble_eq_true rfl) hRl⟩ (by decide) rfl rfl rfl hl.1 (Nat.le_of_ble_eq_true rfl) rfl dX4_play_53 ⟨Nat.zero_le _, Nat.zero_le _⟩ (fun H locs hP hS => ?_)
      refine lv_istore (lv' := [(8, .int v4), (7, .int (σ 13 v2.toNatClampNeg)), (6, .int v2), (0, .ref (ad 0)), (1, .int a0), (2, .int a1), (3, .int a2), (4, .int a3), (5, .int a4)]) hx hb dX4_play_56 hl (by decide) rfl (fun ls hl => ?_)
      refine lv_aload_n hx hb dX4_play_58 rfl (lv_at hl 3 rfl) ?_
      refine g_get (v := .ref (ad 8)) hx hb hB hown hK hP 0 (by decide) rfl rfl kU_X4 1 (by decide) kF_X4_21 rfl rfl dX4_play_59 ?_
      refine g_get (v := .ref (ad 13)) hx hb hB hown hK hP 8 (by decide) rfl rfl kU_X1 5 (by decide) kF_X4_52 rfl rfl dX4_play_62 ?_
      refine lv_iload hx hb dX4_play_65 (lv_at hl 2 rfl) ?_
      refine lv_iload hx hb dX4_play_67 (lv_at hl 1 rfl) ?_
      refine lv_iload_n hx hb dX4_play_69 rfl (lv_at hl 4 rfl) ?_
      obtain ⟨v6, hv, hf⟩ := bd_e hf
      refine g_cSi0 ⟨⟨hx, hb, hml, hown, hB⟩, hK, hi, hA, hAd, hP, hS⟩ (c_X4_costOf hv) cal_X4_costOf kM_X4_60 ⟨Nat.le_trans (Nat.le_of_ble_eq_true rfl) hRf, Nat.le_trans (Nat.le_of_ble_eq_true rfl) hRl⟩ rfl hl.1 (Nat.le_of_ble_eq_true rfl) rfl dX4_play_70 ⟨Nat.zero_le _, Nat.zero_le _⟩ (fun H locs hP hS => ?_)
      refine lv_iadd hx hb dX4_play_73 ?_
      obtain ⟨hin, hf⟩ := gd_e hf
      obtain ⟨σ7, eσ7, hf⟩ := stp_e hf
      refine g_iast (σ1 := σ7) hx hb hK hP hi hAd hS 13 4 (by decide) (fun _ => rfl) hin dX4_play_74 eσ7 (fun H locs hP hS => ?_)
      refine lv_iload_n hx hb dX4_play_75 rfl (lv_at hl 4 rfl) ?_
      refine lv_bipush (v := 18) hx hb dX4_play_76 (by decide) ?_
      obtain ⟨J10, eJ10, hf⟩ := jn_e2 hf
      have hJ10 : ∀ (y8 : Int32) (σ9 : Mem) (H : Heap) (locs : List Loc) (ls : Array Slot), J10 y8 σ9 = some (r, σr) → va_P D vwCl (wsG 24 ad (EW ad cI) σ9) H → va_S (AG 24 ad s.heap.size) s.heap H locs → lv_has ls 12 [(0, .ref (ad 0)), (1, .int a0), (2, .int a1), (6, .int v2), (7, .int (σ 13 v2.toNatClampNeg)), (8, .int v4)] → W p l e R s m args below meth c H locs 0 0 Q (F0 m 87 ls [.int y8]) := by
        intro y8 σ9 H locs ls hf hP hS hl
        rw [eJ10] at hf
        refine lv_istore (lv' := [(9, .int y8), (0, .ref (ad 0)), (1, .int a0), (2, .int a1), (6, .int v2), (7, .int (σ 13 v2.toNatClampNeg)), (8, .int v4)]) hx hb dX4_play_87 hl (by decide) rfl (fun ls hl => ?_)
        refine lv_iload hx hb dX4_play_89 (lv_at hl 0 rfl) ?_
        refine lv_iconst (v := (-1)) hx hb dX4_play_91 (by decide) ?_
        obtain ⟨J12, eJ12, hf⟩ := jn_e1 hf
        have hJ12 : ∀ (σ11 : Mem) (H : Heap) (locs : List Loc) (ls : Array Slot), J12 σ11 = some (r, σr) → va_P D vwCl (wsG 24 ad (EW ad cI) σ11) H → va_S (AG 24 ad s.heap.size) s.heap H locs → lv_has ls 12 [(0, .ref (ad 0)), (1, .int a0), (2, .int a1), (6, .int v2), (8, .int v4), (9, .int y8)] → W p l e R s m args below meth c H locs 0 0 Q (F0 m 116 ls []) := by
          intro σ11 H locs ls hf hP hS hl
          rw [eJ12] at hf
          refine lv_iload_n hx hb dX4_play_116 rfl (lv_at hl 1 rfl) ?_
          refine lv_bipush (v := 10) hx hb dX4_play_117 (by decide) ?_
          obtain ⟨J15, eJ15, hf⟩ := jn_e2 hf
          have hJ15 : ∀ (y13 : Int32) (σ14 : Mem) (H : Heap) (locs : List Loc) (ls : Array Slot), J15 y13 σ14 = some (r, σr) → va_P D vwCl (wsG 24 ad (EW ad cI) σ14) H → va_S (AG 24 ad s.heap.size) s.heap H locs → lv_has ls 12 [(0, .ref (ad 0)), (1, .int a0), (6, .int v2), (8, .int v4), (9, .int y8)] → W p l e R s m args below meth c H locs 0 0 Q (F0 m 133 ls [.int y13]) := by
            intro y13 σ14 H locs ls hf hP hS hl
            rw [eJ15] at hf
            refine lv_istore (lv' := [(10, .int y13), (0, .ref (ad 0)), (1, .int a0), (6, .int v2), (8, .int v4), (9, .int y8)]) hx hb dX4_play_133 hl (by decide) rfl (fun ls hl => ?_)
            refine lv_aload_n hx hb dX4_play_135 rfl (lv_at hl 1 rfl) ?_
            refine lv_iload hx hb dX4_play_136 (lv_at hl 3 rfl) ?_
            refine lv_iload hx hb dX4_play_138 (lv_at hl 0 rfl) ?_
            refine lv_iload hx hb dX4_play_140 (lv_at hl 5 rfl) ?_
            refine lv_iload hx hb dX4_play_142 (lv_at hl 3 rfl) ?_
            obtain ⟨J20, eJ20, hf⟩ := jn_e4 hf
            have hJ20 : ∀ (y18 : Int32) (y19 : Int32) (y16 : Int32) (σ17 : Mem) (H : Heap) (locs : List Loc) (ls : Array Slot), J20 y18 y19 y16 σ17 = some (r, σr) → va_P D vwCl (wsG 24 ad (EW ad cI) σ17) H → va_S (AG 24 ad s.heap.size) s.heap H locs → lv_has ls 12 [(0, .ref (ad 0)), (1, .int a0), (6, .int v2), (8, .int v4)] → W p l e R s m args below meth c H locs 0 0 Q (F0 m 153 ls [.int y16, .int y19, .int y18, .ref (ad 0)]) := by
              intro y18 y19 y16 σ17 H locs ls hf hP hS hl
              rw [eJ20] at hf
              obtain ⟨σ21, hv, hf⟩ := bd_e hf
              refine g_cVvS (k0 := 0) ⟨⟨hx, hb, hml, hown, hB⟩, hK, hi, hA, hAd, hP, hS⟩ (c_X4_pursueQuests hi hv) cal_X4_pursueQuests kM_X4_68 ⟨Nat.le_trans (Nat.le_of_ble_eq_true rfl) hRf, Nat.le_trans (Nat.le_of_ble_eq_true rfl) hRl⟩ (by decide) rfl rfl rfl hl.1 (Nat.le_of_ble_eq_true rfl) rfl dX4_play_153 ⟨Nat.zero_le _, Nat.zero_le _⟩ (fun H locs hP hS => ?_)
              refine lv_iload_n hx hb dX4_play_156 rfl (lv_at hl 1 rfl) ?_
              refine lv_bipush (v := 15) hx hb dX4_play_157 (by decide) ?_
              obtain ⟨J24, eJ24, hf⟩ := jn_e2 hf
              have hJ24 : ∀ (y22 : Int32) (σ23 : Mem) (H : Heap) (locs : List Loc) (ls : Array Slot), J24 y22 σ23 = some (r, σr) → va_P D vwCl (wsG 24 ad (EW ad cI) σ23) H → va_S (AG 24 ad s.heap.size) s.heap H locs → lv_has ls 12 [(0, .ref (ad 0)), (6, .int v2), (8, .int v4)] → W p l e R s m args below meth c H locs 0 0 Q (F0 m 179 ls [.int y22]) := by
                intro y22 σ23 H locs ls hf hP hS hl
                rw [eJ24] at hf
                refine lv_istore (lv' := [(11, .int y22), (0, .ref (ad 0)), (6, .int v2), (8, .int v4)]) hx hb dX4_play_179 hl (by decide) rfl (fun ls hl => ?_)
                refine lv_iload hx hb dX4_play_181 (lv_at hl 0 rfl) ?_
                refine lv_if_eq (tgt := 199) hx hb dX4_play_183 (by decide) (fun q25 => ?_) (fun q25 => ?_)
                · rw [if_pos q25] at hf
                  refine lv_iload hx hb dX4_play_199 (lv_at hl 3 rfl) ?_
                  obtain ⟨h1, h2⟩ := rt2 hf
                  rw [hQ]
                  exact g_iret hx hb hr hlocks hP hS h1 h2 dX4_play_201
                · rw [if_neg q25] at hf
                  refine lv_aload_n hx hb dX4_play_186 rfl (lv_at hl 1 rfl) ?_
                  refine g_get (v := .ref (ad 8)) hx hb hB hown hK hP 0 (by decide) rfl rfl kU_X4 1 (by decide) kF_X4_21 rfl rfl dX4_play_187 ?_
                  refine g_get (v := .ref (ad 10)) hx hb hB hown hK hP 8 (by decide) rfl rfl kU_X1 2 (by decide) kF_X4_71 rfl rfl dX4_play_190 ?_
                  refine lv_iload hx hb dX4_play_193 (lv_at hl 2 rfl) ?_
                  obtain ⟨hin, hf⟩ := gd_e hf
                  refine g_iald hx hb hK hP 10 4 (by decide) rfl hin dX4_play_195 ?_
                  refine lv_goto (tgt := 201) hx hb dX4_play_196 (by decide) ?_
                  obtain ⟨h1, h2⟩ := rt2 hf
                  rw [hQ]
                  exact g_iret hx hb hr hlocks hP hS h1 h2 dX4_play_201
              obtain ⟨J27, eJ27, hf⟩ := jn_e1 hf
              have hJ27 : ∀ (σ26 : Mem) (H : Heap) (locs : List Loc) (ls : Array Slot), J27 σ26 = some (r, σr) → va_P D vwCl (wsG 24 ad (EW ad cI) σ26) H → va_S (AG 24 ad s.heap.size) s.heap H locs → lv_has ls 12 [(0, .ref (ad 0)), (6, .int v2), (8, .int v4)] → W p l e R s m args below meth c H locs 0 0 Q (F0 m 174 ls []) := by
                intro σ26 H locs ls hf hP hS hl
                rw [eJ27] at hf
                refine lv_iconst (v := 1) hx hb dX4_play_174 (by decide) ?_
                refine lv_goto (tgt := 179) hx hb dX4_play_175 (by decide) ?_
                exact hJ24 1 σ26 _ _ ls hf hP hS (lv_sub hl [0, 1, 2] rfl)
              refine lv_icmp_eq (tgt := 174) hx hb dX4_play_159 (by decide) (fun q28 => ?_) (fun q28 => ?_)
              · rw [if_pos q28] at hf
                exact hJ27 σ21 _ _ ls hf hP hS (lv_sub hl [0, 2, 3] rfl)
              · rw [if_neg q28] at hf
                refine lv_iload_n hx hb dX4_play_162 rfl (lv_at hl 1 rfl) ?_
                refine lv_bipush (v := 16) hx hb dX4_play_163 (by decide) ?_
                refine lv_icmp_eq (tgt := 174) hx hb dX4_play_165 (by decide) (fun q29 => ?_) (fun q29 => ?_)
                · rw [if_pos q29] at hf
                  exact hJ27 σ21 _ _ ls hf hP hS (lv_sub hl [0, 2, 3] rfl)
                · rw [if_neg q29] at hf
                  refine lv_iload_n hx hb dX4_play_168 rfl (lv_at hl 1 rfl) ?_
                  refine lv_bipush (v := 17) hx hb dX4_play_169 (by decide) ?_
                  refine lv_icmp_ne (tgt := 178) hx hb dX4_play_171 (by decide) (fun q30 => ?_) (fun q30 => ?_)
                  · rw [if_neg q30] at hf
                    refine lv_iconst (v := 0) hx hb dX4_play_178 (by decide) ?_
                    exact hJ24 0 σ21 _ _ ls hf hP hS (lv_sub hl [0, 2, 3] rfl)
                  · rw [if_pos q30] at hf
                    exact hJ27 σ21 _ _ ls hf hP hS (lv_sub hl [0, 2, 3] rfl)
            refine lv_icmp_ne (tgt := 151) hx hb dX4_play_144 (by decide) (fun q31 => ?_) (fun q31 => ?_)
            · rw [if_neg q31] at hf
              refine lv_iload hx hb dX4_play_151 (lv_at hl 5 rfl) ?_
              exact hJ20 v2 y13 y8 σ14 _ _ ls hf hP hS (lv_sub hl [1, 2, 3, 4] rfl)
            · rw [if_pos q31] at hf
              refine lv_iconst (v := (-1)) hx hb dX4_play_147 (by decide) ?_
              refine lv_goto (tgt := 153) hx hb dX4_play_148 (by decide) ?_
              exact hJ20 v2 y13 (-1) σ14 _ _ ls hf hP hS (lv_sub hl [1, 2, 3, 4] rfl)
          obtain ⟨J33, eJ33, hf⟩ := jn_e1 hf
          have hJ33 : ∀ (σ32 : Mem) (H : Heap) (locs : List Loc) (ls : Array Slot), J33 σ32 = some (r, σr) → va_P D vwCl (wsG 24 ad (EW ad cI) σ32) H → va_S (AG 24 ad s.heap.size) s.heap H locs → lv_has ls 12 [(0, .ref (ad 0)), (1, .int a0), (2, .int a1), (6, .int v2), (8, .int v4), (9, .int y8)] → W p l e R s m args below meth c H locs 0 0 Q (F0 m 128 ls []) := by
            intro σ32 H locs ls hf hP hS hl
            rw [eJ33] at hf
            refine lv_iload_n hx hb dX4_play_128 rfl (lv_at hl 2 rfl) ?_
            refine lv_goto (tgt := 133) hx hb dX4_play_129 (by decide) ?_
            exact hJ15 a1 σ32 _ _ ls hf hP hS (lv_sub hl [0, 1, 3, 4, 5] rfl)
          refine lv_icmp_eq (tgt := 128) hx hb dX4_play_119 (by decide) (fun q34 => ?_) (fun q34 => ?_)
          · rw [if_pos q34] at hf
            exact hJ33 σ11 _ _ ls hf hP hS (lv_sub hl [0, 1, 2, 3, 4, 5] rfl)
          · rw [if_neg q34] at hf
            refine lv_iload_n hx hb dX4_play_122 rfl (lv_at hl 1 rfl) ?_
            refine lv_bipush (v := 11) hx hb dX4_play_123 (by decide) ?_
            refine lv_icmp_ne (tgt := 132) hx hb dX4_play_125 (by decide) (fun q35 => ?_) (fun q35 => ?_)
            · rw [if_neg q35] at hf
              refine lv_iconst (v := (-1)) hx hb dX4_play_132 (by decide) ?_
              exact hJ15 (-1) σ11 _ _ ls hf hP hS (lv_sub hl [0, 1, 3, 4, 5] rfl)
            · rw [if_pos q35] at hf
              exact hJ33 σ11 _ _ ls hf hP hS (lv_sub hl [0, 1, 2, 3, 4, 5] rfl)
        refine lv_icmp_eq (tgt := 116) hx hb dX4_play_92 (by decide) (fun q36 => ?_) (fun q36 => ?_)
        · rw [if_pos q36] at hf
          exact hJ12 σ9 _ _ ls hf hP hS (lv_sub hl [1, 2, 3, 4, 6, 0] rfl)
        · rw [if_neg q36] at hf
          refine lv_aload_n hx hb dX4_play_95 rfl (lv_at hl 1 rfl) ?_
          refine lv_iload hx hb dX4_play_96 (lv_at hl 0 rfl) ?_
          refine lv_iload hx hb dX4_play_98 (lv_at hl 0 rfl) ?_
          refine lv_iload hx hb dX4_play_100 (lv_at hl 4 rfl) ?_
          obtain ⟨J40, eJ40, hf⟩ := jn_e3 hf
          have hJ40 : ∀ (y39 : Int32) (y37 : Int32) (σ38 : Mem) (H : Heap) (locs : List Loc) (ls : Array Slot), J40 y39 y37 σ38 = some (r, σr) → va_P D vwCl (wsG 24 ad (EW ad cI) σ38) H → va_S (AG 24 ad s.heap.size) s.heap H locs → lv_has ls 12 [(0, .ref (ad 0)), (1, .int a0), (2, .int a1), (6, .int v2), (7, .int (σ 13 v2.toNatClampNeg)), (8, .int v4), (9, .int y8)] → W p l e R s m args below meth c H locs 0 0 Q (F0 m 111 ls [.int y37, .int y39, .ref (ad 0)]) := by
            intro y39 y37 σ38 H locs ls hf hP hS hl
            rw [eJ40] at hf
            refine lv_iload hx hb dX4_play_111 (lv_at hl 4 rfl) ?_
            obtain ⟨σ41, hv, hf⟩ := bd_e hf
            refine g_cVvS (k0 := 0) ⟨⟨hx, hb, hml, hown, hB⟩, hK, hi, hA, hAd, hP, hS⟩ (c_X4_defeat hi hv) cal_X4_defeat kM_X4_64 ⟨Nat.le_trans (Nat.le_of_ble_eq_true rfl) hRf, Nat.le_trans (Nat.le_of_ble_eq_true rfl) hRl⟩ (by decide) rfl rfl rfl hl.1 (Nat.le_of_ble_eq_true rfl) rfl dX4_play_113 ⟨Nat.zero_le _, Nat.zero_le _⟩ (fun H locs hP hS => ?_)
            refine lv_iload_n hx hb dX4_play_116 rfl (lv_at hl 1 rfl) ?_
            refine lv_bipush (v := 10) hx hb dX4_play_117 (by decide) ?_
            obtain ⟨J44, eJ44, hf⟩ := jn_e2 hf
            have hJ44 : ∀ (y42 : Int32) (σ43 : Mem) (H : Heap) (locs : List Loc) (ls : Array Slot), J44 y42 σ43 = some (r, σr) → va_P D vwCl (wsG 24 ad (EW ad cI) σ43) H → va_S (AG 24 ad s.heap.size) s.heap H locs → lv_has ls 12 [(0, .ref (ad 0)), (1, .int a0), (6, .int v2), (8, .int v4), (9, .int y8)] → W p l e R s m args below meth c H locs 0 0 Q (F0 m 133 ls [.int y42]) := by
              intro y42 σ43 H locs ls hf hP hS hl
              rw [eJ44] at hf
              refine lv_istore (lv' := [(10, .int y42), (0, .ref (ad 0)), (1, .int a0), (6, .int v2), (8, .int v4), (9, .int y8)]) hx hb dX4_play_133 hl (by decide) rfl (fun ls hl => ?_)
              refine lv_aload_n hx hb dX4_play_135 rfl (lv_at hl 1 rfl) ?_
              refine lv_iload hx hb dX4_play_136 (lv_at hl 3 rfl) ?_
              refine lv_iload hx hb dX4_play_138 (lv_at hl 0 rfl) ?_
              refine lv_iload hx hb dX4_play_140 (lv_at hl 5 rfl) ?_
              refine lv_iload hx hb dX4_play_142 (lv_at hl 3 rfl) ?_
              obtain ⟨J49, eJ49, hf⟩ := jn_e4 hf
              have hJ49 : ∀ (y47 : Int32) (y48 : Int32) (y45 : Int32) (σ46 : Mem) (H : Heap) (locs : List Loc) (ls : Array Slot), J49 y47 y48 y45 σ46 = some (r, σr) → va_P D vwCl (wsG 24 ad (EW ad cI) σ46) H → va_S (AG 24 ad s.heap.size) s.heap H locs → lv_has ls 12 [(0, .ref (ad 0)), (1, .int a0), (6, .int v2), (8, .int v4)] → W p l e R s m args below meth c H locs 0 0 Q (F0 m 153 ls [.int y45, .int y48, .int y47, .ref (ad 0)]) := by
                intro y47 y48 y45 σ46 H locs ls hf hP hS hl
                rw [eJ49] at hf
                obtain ⟨σ50, hv, hf⟩ := bd_e hf
                refine g_cVvS (k0 := 0) ⟨⟨hx, hb, hml, hown, hB⟩, hK, hi, hA, hAd, hP, hS⟩ (c_X4_pursueQuests hi hv) cal_X4_pursueQuests kM_X4_68 ⟨Nat.le_trans (Nat.le_of_ble_eq_true rfl) hRf, Nat.le_trans (Nat.le_of_ble_eq_true rfl) hRl⟩ (by decide) rfl rfl rfl hl.1 (Nat.le_of_ble_eq_true rfl) rfl dX4_play_153 ⟨Nat.zero_le _, Nat.zero_le _⟩ (fun H locs hP hS => ?_)
                refine lv_iload_n hx hb dX4_play_156 rfl (lv_at hl 1 rfl) ?_
                refine lv_bipush (v := 15) hx hb dX4_play_157 (by decide) ?_
                obtain ⟨J53, eJ53, hf⟩ := jn_e2 hf
                have hJ53 : ∀ (y51 : Int32) (σ52 : Mem) (H : Heap) (locs : List Loc) (ls : Array Slot), J53 y51 σ52 = some (r, σr) → va_P D vwCl (wsG 24 ad (EW ad cI) σ52) H → va_S (AG 24 ad s.heap.size) s.heap H locs → lv_has ls 12 [(0, .ref (ad 0)), (6, .int v2), (8, .int v4)] → W p l e R s m args below meth c H locs 0 0 Q (F0 m 179 ls [.int y51]) := by
                  intro y51 σ52 H locs ls hf hP hS hl
                  rw [eJ53] at hf
                  refine lv_istore (lv' := [(11, .int y51), (0, .ref (ad 0)), (6, .int v2), (8, .int v4)]) hx hb dX4_play_179 hl (by decide) rfl (fun ls hl => ?_)
                  refine lv_iload hx hb dX4_play_181 (lv_at hl 0 rfl) ?_
                  refine lv_if_eq (tgt := 199) hx hb dX4_play_183 (by decide) (fun q54 => ?_) (fun q54 => ?_)
                  · rw [if_pos q54] at hf
                    refine lv_iload hx hb dX4_play_199 (lv_at hl 3 rfl) ?_
                    obtain ⟨h1, h2⟩ := rt2 hf
                    rw [hQ]
                    exact g_iret hx hb hr hlocks hP hS h1 h2 dX4_play_201
                  · rw [if_neg q54] at hf
                    refine lv_aload_n hx hb dX4_play_186 rfl (lv_at hl 1 rfl) ?_
                    refine g_get (v := .ref (ad 8)) hx hb hB hown hK hP 0 (by decide) rfl rfl kU_X4 1 (by decide) kF_X4_21 rfl rfl dX4_play_187 ?_
                    refine g_get (v := .ref (ad 10)) hx hb hB hown hK hP 8 (by decide) rfl rfl kU_X1 2 (by decide) kF_X4_71 rfl rfl dX4_play_190 ?_
                    refine lv_iload hx hb dX4_play_193 (lv_at hl 2 rfl) ?_
                    obtain ⟨hin, hf⟩ := gd_e hf
                    refine g_iald hx hb hK hP 10 4 (by decide) rfl hin dX4_play_195 ?_
                    refine lv_goto (tgt := 201) hx hb dX4_play_196 (by decide) ?_
                    obtain ⟨h1, h2⟩ := rt2 hf
                    rw [hQ]
                    exact g_iret hx hb hr hlocks hP hS h1 h2 dX4_play_201
                obtain ⟨J56, eJ56, hf⟩ := jn_e1 hf
                have hJ56 : ∀ (σ55 : Mem) (H : Heap) (locs : List Loc) (ls : Array Slot), J56 σ55 = some (r, σr) → va_P D vwCl (wsG 24 ad (EW ad cI) σ55) H → va_S (AG 24 ad s.heap.size) s.heap H locs → lv_has ls 12 [(0, .ref (ad 0)), (6, .int v2), (8, .int v4)] → W p l e R s m args below meth c H locs 0 0 Q (F0 m 174 ls []) := by
                  intro σ55 H locs ls hf hP hS hl
                  rw [eJ56] at hf
                  refine lv_iconst (v := 1) hx hb dX4_play_174 (by decide) ?_
                  refine lv_goto (tgt := 179) hx hb dX4_play_175 (by decide) ?_
                  exact hJ53 1 σ55 _ _ ls hf hP hS (lv_sub hl [0, 1, 2] rfl)
                refine lv_icmp_eq (tgt := 174) hx hb dX4_play_159 (by decide) (fun q57 => ?_) (fun q57 => ?_)
                · rw [if_pos q57] at hf
                  exact hJ56 σ50 _ _ ls hf hP hS (lv_sub hl [0, 2, 3] rfl)
                · rw [if_neg q57] at hf
                  refine lv_iload_n hx hb dX4_play_162 rfl (lv_at hl 1 rfl) ?_
                  refine lv_bipush (v := 16) hx hb dX4_play_163 (by decide) ?_
                  refine lv_icmp_eq (tgt := 174) hx hb dX4_play_165 (by decide) (fun q58 => ?_) (fun q58 => ?_)
                  · rw [if_pos q58] at hf
                    exact hJ56 σ50 _ _ ls hf hP hS (lv_sub hl [0, 2, 3] rfl)
                  · rw [if_neg q58] at hf
                    refine lv_iload_n hx hb dX4_play_168 rfl (lv_at hl 1 rfl) ?_
                    refine lv_bipush (v := 17) hx hb dX4_play_169 (by decide) ?_
                    refine lv_icmp_ne (tgt := 178) hx hb dX4_play_171 (by decide) (fun q59 => ?_) (fun q59 => ?_)
                    · rw [if_neg q59] at hf
                      refine lv_iconst (v := 0) hx hb dX4_play_178 (by decide) ?_
                      exact hJ53 0 σ50 _ _ ls hf hP hS (lv_sub hl [0, 2, 3] rfl)
                    · rw [if_pos q59] at hf
                      exact hJ56 σ50 _ _ ls hf hP hS (lv_sub hl [0, 2, 3] rfl)
              refine lv_icmp_ne (tgt := 151) hx hb dX4_play_144 (by decide) (fun q60 => ?_) (fun q60 => ?_)
              · rw [if_neg q60] at hf
                refine lv_iload hx hb dX4_play_151 (lv_at hl 5 rfl) ?_
                exact hJ49 v2 y42 y8 σ43 _ _ ls hf hP hS (lv_sub hl [1, 2, 3, 4] rfl)
              · rw [if_pos q60] at hf
                refine lv_iconst (v := (-1)) hx hb dX4_play_147 (by decide) ?_
                refine lv_goto (tgt := 153) hx hb dX4_play_148 (by decide) ?_
                exact hJ49 v2 y42 (-1) σ43 _ _ ls hf hP hS (lv_sub hl [1, 2, 3, 4] rfl)
            obtain ⟨J62, eJ62, hf⟩ := jn_e1 hf
            have hJ62 : ∀ (σ61 : Mem) (H : Heap) (locs : List Loc) (ls : Array Slot), J62 σ61 = some (r, σr) → va_P D vwCl (wsG 24 ad (EW ad cI) σ61) H → va_S (AG 24 ad s.heap.size) s.heap H locs → lv_has ls 12 [(0, .ref (ad 0)), (1, .int a0), (2, .int a1), (6, .int v2), (8, .int v4), (9, .int y8)] → W p l e R s m args below meth c H locs 0 0 Q (F0 m 128 ls []) := by
              intro σ61 H locs ls hf hP hS hl
              rw [eJ62] at hf
              refine lv_iload_n hx hb dX4_play_128 rfl (lv_at hl 2 rfl) ?_
              refine lv_goto (tgt := 133) hx hb dX4_play_129 (by decide) ?_
              exact hJ44 a1 σ61 _ _ ls hf hP hS (lv_sub hl [0, 1, 3, 4, 5] rfl)
            refine lv_icmp_eq (tgt := 128) hx hb dX4_play_119 (by decide) (fun q63 => ?_) (fun q63 => ?_)
            · rw [if_pos q63] at hf
              exact hJ62 σ41 _ _ ls hf hP hS (lv_sub hl [0, 1, 2, 3, 5, 6] rfl)
            · rw [if_neg q63] at hf
              refine lv_iload_n hx hb dX4_play_122 rfl (lv_at hl 1 rfl) ?_
              refine lv_bipush (v := 11) hx hb dX4_play_123 (by decide) ?_
              refine lv_icmp_ne (tgt := 132) hx hb dX4_play_125 (by decide) (fun q64 => ?_) (fun q64 => ?_)
              · rw [if_neg q64] at hf
                refine lv_iconst (v := (-1)) hx hb dX4_play_132 (by decide) ?_
                exact hJ44 (-1) σ41 _ _ ls hf hP hS (lv_sub hl [0, 1, 3, 5, 6] rfl)
              · rw [if_pos q64] at hf
                exact hJ62 σ41 _ _ ls hf hP hS (lv_sub hl [0, 1, 2, 3, 5, 6] rfl)
          refine lv_icmp_ne (tgt := 109) hx hb dX4_play_102 (by decide) (fun q65 => ?_) (fun q65 => ?_)
          · rw [if_neg q65] at hf
            refine lv_iload hx hb dX4_play_109 (lv_at hl 4 rfl) ?_
            exact hJ40 y8 v2 σ9 _ _ ls hf hP hS (lv_sub hl [1, 2, 3, 4, 5, 6, 0] rfl)
          · rw [if_pos q65] at hf
            refine lv_iload_n hx hb dX4_play_105 rfl (lv_at hl 3 rfl) ?_
            refine lv_goto (tgt := 111) hx hb dX4_play_106 (by decide) ?_
            exact hJ40 y8 a1 σ9 _ _ ls hf hP hS (lv_sub hl [1, 2, 3, 4, 5, 6, 0] rfl)
      refine lv_icmp_ne (tgt := 86) hx hb dX4_play_78 (by decide) (fun q66 => ?_) (fun q66 => ?_)
      · rw [if_neg q66] at hf
        refine lv_iconst (v := (-1)) hx hb dX4_play_86 (by decide) ?_
        exact hJ10 (-1) σ7 _ _ ls hf hP hS (lv_sub hl [3, 4, 5, 2, 1, 0] rfl)
      · rw [if_pos q66] at hf
        refine lv_iload hx hb dX4_play_81 (lv_at hl 0 rfl) ?_
        refine lv_goto (tgt := 87) hx hb dX4_play_83 (by decide) ?_
        exact hJ10 v4 σ7 _ _ ls hf hP hS (lv_sub hl [3, 4, 5, 2, 1, 0] rfl)
    · rw [if_pos q3] at hf
      refine lv_iconst (v := (-1)) hx hb dX4_play_33 (by decide) ?_
      obtain ⟨h1, h2⟩ := rt2 hf
      rw [hQ]
      exact g_iret hx hb hr hlocks hP hS h1 h2 dX4_play_34
  · rw [if_neg q1] at hf
    refine lv_aload_n hx hb dX4_play_6 rfl (lv_at hl 0 rfl) ?_
    refine lv_iload_n hx hb dX4_play_7 rfl (lv_at hl 1 rfl) ?_
    refine lv_iload_n hx hb dX4_play_8 rfl (lv_at hl 2 rfl) ?_
    refine lv_iload_n hx hb dX4_play_9 rfl (lv_at hl 3 rfl) ?_
    refine lv_iload hx hb dX4_play_10 (lv_at hl 4 rfl) ?_
    refine lv_iload hx hb dX4_play_12 (lv_at hl 5 rfl) ?_
    obtain ⟨v67, σ68, hv, hf⟩ := bd2_e hf
    refine g_cViS (k0 := 0) ⟨⟨hx, hb, hml, hown, hB⟩, hK, hi, hA, hAd, hP, hS⟩ (c_X4_make hi hv) cal_X4_make kM_X4_44 ⟨Nat.le_trans (Nat.le_of_ble_eq_true rfl) hRf, Nat.le_trans (Nat.le_of_ble_eq_true rfl) hRl⟩ (by decide) rfl rfl rfl hl.1 (Nat.le_of_ble_eq_true rfl) rfl dX4_play_14 ⟨Nat.zero_le _, Nat.zero_le _⟩ (fun H locs hP hS => ?_)
    obtain ⟨h1, h2⟩ := rt2 hf
    rw [hQ]
    exact g_iret hx hb hr hlocks hP hS h1 h2 dX4_play_17
