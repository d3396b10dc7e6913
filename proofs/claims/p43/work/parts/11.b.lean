def f_X2_clear (σ : Mem) : Option (Mem) :=
stp (fl σ 2 32 (-1)) fun σ1 =>
stp (fl σ1 3 8 (-1)) fun σ2 =>
stp (fl σ2 4 40 0) fun σ3 =>
stp (fl σ3 5 40 0) fun σ4 =>
stp (fl σ4 6 40 0) fun σ5 =>
some σ5
set_option maxHeartbeats 4000000 in
set_option maxRecDepth 100000 in
theorem c_X2_clear {l : Launch} {D : va_G} {cI cJ : ClassId} {ad : Nat → Nat} {σ : Mem} {σr : Mem}  (hi : injG 24 ad) (hf : f_X2_clear σ = some σr) : MGv l yX2_clear (Cond.code yX2_clear cX2_clear 1 none :: BIG) 1 23 D cI cJ 24 ad (EW ad cI) [.ref (ad 1)] σ σr := by
  refine MGv.ofW (cc := cX2_clear) (nL := 1) (ret := none) (by decide) rfl hi ?_
  intro p e s m args below meth c hx hb hr hml hlocks hown hB hK hP hA hAd hS
  have hown : s.vm.findClass RX2 = some m.cls := hown
  have hl := lv_entry ([.ref (ad 1)] : List Value) (n := 1) (Nat.le_of_ble_eq_true rfl)
  rw [lg_entry_eq]
  generalize (lg_sl ([.ref (ad 1)] : List Value) ++ List.replicate (1 - (lg_sl ([.ref (ad 1)] : List Value)).length) Slot.unset).toArray = ls at hl ⊢
  have hl : lv_has ls 1 [(0, .ref (ad 1))] := hl
  generalize hQ : MQ below (Qgv D 24 ad (EW ad cI) σr s.heap.size) _ s 0 0 (AG 24 ad s.heap.size) = Q
  have hQ := hQ.symm
  obtain ⟨R, hR, hRf, hRl⟩ : ∃ R : Room, R = ({ frames := 1, cells := 0, slots := 0, locals := 23 } : Room) ∧ 1 ≤ R.frames ∧ 23 ≤ R.locals := ⟨_, rfl, Nat.le_refl _, Nat.le_refl _⟩
  rw [← hR]
  unfold f_X2_clear at hf
  refine lv_aload_n hx hb dX2_clear_0 rfl (lv_at hl 0 rfl) ?_
  refine g_get (v := .ref (ad 2)) hx hb hB hown hK hP 1 (by decide) rfl rfl kU_X2 0 (by decide) kF_X2_9 rfl rfl dX2_clear_1 ?_
  refine lv_iconst (v := (-1)) hx hb dX2_clear_4 (by decide) ?_
  obtain ⟨σ1, eσ1, hf⟩ := stp_e hf
  refine g_fill (τ := σ1) ⟨⟨hx, hb, hml, hown, hB⟩, hK, hi, hA, hAd, hP, hS⟩ 2 32 (by decide) (by decide) (fun _ => rfl) kM_X2_33 hRf hRl hl.1 rfl dX2_clear_5 eσ1 (fun H locs hP hS => ?_)
  refine lv_aload_n hx hb dX2_clear_8 rfl (lv_at hl 0 rfl) ?_
  refine g_get (v := .ref (ad 3)) hx hb hB hown hK hP 1 (by decide) rfl rfl kU_X2 1 (by decide) kF_X2_15 rfl rfl dX2_clear_9 ?_
  refine lv_iconst (v := (-1)) hx hb dX2_clear_12 (by decide) ?_
  obtain ⟨σ2, eσ2, hf⟩ := stp_e hf
  refine g_fill (τ := σ2) ⟨⟨hx, hb, hml, hown, hB⟩, hK, hi, hA, hAd, hP, hS⟩ 3 8 (by decide) (by decide) (fun _ => rfl) kM_X2_33 hRf hRl hl.1 rfl dX2_clear_13 eσ2 (fun H locs hP hS => ?_)
  refine lv_aload_n hx hb dX2_clear_16 rfl (lv_at hl 0 rfl) ?_
  refine g_get (v := .ref (ad 4)) hx hb hB hown hK hP 1 (by decide) rfl rfl kU_X2 2 (by decide) kF_X2_18 rfl rfl dX2_clear_17 ?_
  refine lv_iconst (v := 0) hx hb dX2_clear_20 (by decide) ?_
  obtain ⟨σ3, eσ3, hf⟩ := stp_e hf
  refine g_fill (τ := σ3) ⟨⟨hx, hb, hml, hown, hB⟩, hK, hi, hA, hAd, hP, hS⟩ 4 40 (by decide) (by decide) (fun _ => rfl) kM_X2_33 hRf hRl hl.1 rfl dX2_clear_21 eσ3 (fun H locs hP hS => ?_)
  refine lv_aload_n hx hb dX2_clear_24 rfl (lv_at hl 0 rfl) ?_
  refine g_get (v := .ref (ad 5)) hx hb hB hown hK hP 1 (by decide) rfl rfl kU_X2 3 (by decide) kF_X2_21 rfl rfl dX2_clear_25 ?_
  refine lv_iconst (v := 0) hx hb dX2_clear_28 (by decide) ?_
  obtain ⟨σ4, eσ4, hf⟩ := stp_e hf
  refine g_fill (τ := σ4) ⟨⟨hx, hb, hml, hown, hB⟩, hK, hi, hA, hAd, hP, hS⟩ 5 40 (by decide) (by decide) (fun _ => rfl) kM_X2_33 hRf hRl hl.1 rfl dX2_clear_29 eσ4 (fun H locs hP hS => ?_)
  refine lv_aload_n hx hb dX2_clear_32 rfl (lv_at hl 0 rfl) ?_
  refine g_get (v := .ref (ad 6)) hx hb hB hown hK hP 1 (by decide) rfl rfl kU_X2 4 (by decide) kF_X2_24 rfl rfl dX2_clear_33 ?_
  refine lv_iconst (v := 0) hx hb dX2_clear_36 (by decide) ?_
  obtain ⟨σ5, eσ5, hf⟩ := stp_e hf
  refine g_fill (τ := σ5) ⟨⟨hx, hb, hml, hown, hB⟩, hK, hi, hA, hAd, hP, hS⟩ 6 40 (by decide) (by decide) (fun _ => rfl) kM_X2_33 hRf hRl hl.1 rfl dX2_clear_37 eσ5 (fun H locs hP hS => ?_)
  have h2 := rt1 hf
  rw [hQ]
  exact g_vret hx hb hr hlocks hP hS h2 dX2_clear_40
def f_X2_exitFrom (σ : Mem) (a0 a1 : Int32) : Option (Int32) :=
gd ((a0 * 4) + a1) 32 <|
some (σ 2 ((a0 * 4) + a1).toNatClampNeg)
set_option maxHeartbeats 4000000 in
set_option maxRecDepth 100000 in
theorem c_X2_exitFrom {l : Launch} {D : va_G} {cI cJ : ClassId} {ad : Nat → Nat} {σ : Mem} {a0 a1 : Int32} {r : Int32}  (hi : injG 24 ad) (hf : f_X2_exitFrom σ a0 a1 = some r) : MGi l yX2_exitFrom (Cond.code yX2_exitFrom cX2_exitFrom 3 (some .int) :: BIG) 0 0 D cI cJ 24 ad (EW ad cI) [.ref (ad 1), .int a0, .int a1] σ σ r := by
  refine MGi.ofW (cc := cX2_exitFrom) (nL := 3) (ret := (some .int)) (by decide) rfl hi ?_
  intro p e s m args below meth c hx hb hr hml hlocks hown hB hK hP hA hAd hS
  have hown : s.vm.findClass RX2 = some m.cls := hown
  have hl := lv_entry ([.ref (ad 1), .int a0, .int a1] : List Value) (n := 3) (Nat.le_of_ble_eq_true rfl)
  rw [lg_entry_eq]
  generalize (lg_sl ([.ref (ad 1), .int a0, .int a1] : List Value) ++ List.replicate (3 - (lg_sl ([.ref (ad 1), .int a0, .int a1] : List Value)).length) Slot.unset).toArray = ls at hl ⊢
  have hl : lv_has ls 3 [(0, .ref (ad 1)), (1, .int a0), (2, .int a1)] := hl
  generalize hQ : MQ below (Qgi D 24 ad (EW ad cI) r σ s.heap.size) _ s 0 0 (AG 24 ad s.heap.size) = Q
  have hQ := hQ.symm
  obtain ⟨R, hR, hRf, hRl⟩ : ∃ R : Room, R = ({ frames := 0, cells := 0, slots := 0, locals := 0 } : Room) ∧ 0 ≤ R.frames ∧ 0 ≤ R.locals := ⟨_, rfl, Nat.le_refl _, Nat.le_refl _⟩
  rw [← hR]
  unfold f_X2_exitFrom at hf
  refine lv_aload_n hx hb dX2_exitFrom_0 rfl (lv_at hl 0 rfl) ?_
  refine g_get (v := .ref (ad 2)) hx hb hB hown hK hP 1 (by decide) rfl rfl kU_X2 0 (by decide) kF_X2_9 rfl rfl dX2_exitFrom_1 ?_
  refine lv_iload_n hx hb dX2_exitFrom_4 rfl (lv_at hl 1 rfl) ?_
  refine lv_iconst (v := 4) hx hb dX2_exitFrom_5 (by decide) ?_
  refine lv_imul hx hb dX2_exitFrom_6 ?_
  refine lv_iload_n hx hb dX2_exitFrom_7 rfl (lv_at hl 2 rfl) ?_
  refine lv_iadd hx hb dX2_exitFrom_8 ?_
  obtain ⟨hin, hf⟩ := gd_e hf
  refine g_iald hx hb hK hP 2 32 (by decide) rfl hin dX2_exitFrom_9 ?_
  have h1 := rt1 hf
  rw [hQ]
  exact g_iret hx hb hr hlocks hP hS h1 rfl dX2_exitFrom_10
def f_X2_connect (σ : Mem) (a0 a1 a2 : Int32) : Option (Mem) :=
gd ((a0 * 4) + a1) 32 <| stp (mu σ 2 ((a0 * 4) + a1).toNatClampNeg a2) fun σ1 =>
bd (f_X5_opposite a1) fun v2 =>
gd ((a2 * 4) + v2) 32 <| stp (mu σ1 2 ((a2 * 4) + v2).toNatClampNeg a0) fun σ3 =>
some σ3
set_option maxHeartbeats 4000000 in
set_option maxRecDepth 100000 in
theorem c_X2_connect {l : Launch} {D : va_G} {cI cJ : ClassId} {ad : Nat → Nat} {σ : Mem} {a0 a1 a2 : Int32} {σr : Mem}  (hi : injG 24 ad) (hf : f_X2_connect σ a0 a1 a2 = some σr) : MGv l yX2_connect (Cond.code yX2_connect cX2_connect 4 none :: BIG) 1 20 D cI cJ 24 ad (EW ad cI) [.ref (ad 1), .int a0, .int a1, .int a2] σ σr := by
  refine MGv.ofW (cc := cX2_connect) (nL := 4) (ret := none) (by decide) rfl hi ?_
  intro p e s m args below meth c hx hb hr hml hlocks hown hB hK hP hA hAd hS
  have hown : s.vm.findClass RX2 = some m.cls := hown
  have hl := lv_entry ([.ref (ad 1), .int a0, .int a1, .int a2] : List Value) (n := 4) (Nat.le_of_ble_eq_true rfl)
  rw [lg_entry_eq]
  generalize (lg_sl ([.ref (ad 1), .int a0, .int a1, .int a2] : List Value) ++ List.replicate (4 - (lg_sl ([.ref (ad 1), .int a0, .int a1, .int a2] : List Value)).length) Slot.unset).toArray = ls at hl ⊢
  have hl : lv_has ls 4 [(0, .ref (ad 1)), (1, .int a0), (2, .int a1), (3, .int a2)] := hl
  generalize hQ : MQ below (Qgv D 24 ad (EW ad cI) σr s.heap.size) _ s 0 0 (AG 24 ad s.heap.size) = Q
  have hQ := hQ.symm
  obtain ⟨R, hR, hRf, hRl⟩ : ∃ R : Room, R = ({ frames := 1, cells := 0, slots := 0, locals := 20 } : Room) ∧ 1 ≤ R.frames ∧ 20 ≤ R.locals := ⟨_, rfl, Nat.le_refl _, Nat.le_refl _⟩
  rw [← hR]
  unfold f_X2_connect at hf
  refine lv_aload_n hx hb dX2_connect_0 rfl (lv_at hl 0 rfl) ?_
  refine g_get (v := .ref (ad 2)) hx hb hB hown hK hP 1 (by decide) rfl rfl kU_X2 0 (by decide) kF_X2_9 rfl rfl dX2_connect_1 ?_
  refine lv_iload_n hx hb dX2_connect_4 rfl (lv_at hl 1 rfl) ?_
  refine lv_iconst (v := 4) hx hb dX2_connect_5 (by decide) ?_
  refine lv_imul hx hb dX2_connect_6 ?_
  refine lv_iload_n hx hb dX2_connect_7 rfl (lv_at hl 2 rfl) ?_
  refine lv_iadd hx hb dX2_connect_8 ?_
  refine lv_iload_n hx hb dX2_connect_9 rfl (lv_at hl 3 rfl) ?_
  obtain ⟨hin, hf⟩ := gd_e hf
  obtain ⟨σ1, eσ1, hf⟩ := stp_e hf
  refine g_iast (σ1 := σ1) hx hb hK hP hi hAd hS 2 32 (by decide) (fun _ => rfl) hin dX2_connect_10 eσ1 (fun H locs hP hS => ?_)
  refine lv_aload_n hx hb dX2_connect_11 rfl (lv_at hl 0 rfl) ?_
  refine g_get (v := .ref (ad 2)) hx hb hB hown hK hP 1 (by decide) rfl rfl kU_X2 0 (by decide) kF_X2_9 rfl rfl dX2_connect_12 ?_
  refine lv_iload_n hx hb dX2_connect_15 rfl (lv_at hl 3 rfl) ?_
  refine lv_iconst (v := 4) hx hb dX2_connect_16 (by decide) ?_
  refine lv_imul hx hb dX2_connect_17 ?_
  refine lv_iload_n hx hb dX2_connect_18 rfl (lv_at hl 2 rfl) ?_
  obtain ⟨v2, hv, hf⟩ := bd_e hf
  refine g_cNi0 ⟨⟨hx, hb, hml, hown, hB⟩, hK, hi, hA, hAd, hP, hS⟩ (c_X5_opposite hv) cal_X5_opposite kN_X2_39 ⟨Nat.le_trans (Nat.le_of_ble_eq_true rfl) hRf, Nat.le_trans (Nat.le_of_ble_eq_true rfl) hRl⟩ rfl hl.1 (Nat.le_of_ble_eq_true rfl) rfl dX2_connect_19 ⟨Nat.zero_le _, Nat.zero_le _⟩ (fun H locs hP hS => ?_)
  refine lv_iadd hx hb dX2_connect_22 ?_
  refine lv_iload_n hx hb dX2_connect_23 rfl (lv_at hl 1 rfl) ?_
  obtain ⟨hin, hf⟩ := gd_e hf
  obtain ⟨σ3, eσ3, hf⟩ := stp_e hf
  refine g_iast (σ1 := σ3) hx hb hK hP hi hAd hS 2 32 (by decide) (fun _ => rfl) hin dX2_connect_24 eσ3 (fun H locs hP hS => ?_)
  have h2 := rt1 hf
  rw [hQ]
  exact g_vret hx hb hr hlocks hP hS h2 dX2_connect_25
def L_X2_leadsTo_2 : Nat → (Unit → Option (Int32)) → Mem → Int32 → Int32 → Int32 → Option (Int32)
  | 0, _, _, _, _, _ => none
  | n + 1, k, σ4, x1, x2, x3 =>
    if 4 ≤ x3 then (
    k ())
    else (
    gd ((x1 * 4) + x3) 32 <|
    if (σ4 2 ((x1 * 4) + x3).toNatClampNeg) = x2 then (
    some 1)
    else (
    L_X2_leadsTo_2 n k σ4 x1 x2 (x3 + 1)))
def f_X2_leadsTo (σ : Mem) (a0 a1 : Int32) : Option (Int32) :=
L_X2_leadsTo_2 FU (fun (_ : Unit) =>
some 0) σ a0 a1 0
set_option maxHeartbeats 4000000 in
set_option maxRecDepth 100000 in
theorem c_X2_leadsTo {l : Launch} {D : va_G} {cI cJ : ClassId} {ad : Nat → Nat} {σ : Mem} {a0 a1 : Int32} {r : Int32}  (hi : injG 24 ad) (hf : f_X2_leadsTo σ a0 a1 = some r) : MGi l yX2_leadsTo (Cond.code yX2_leadsTo cX2_leadsTo 4 (some .boolean) :: BIG) 0 0 D cI cJ 24 ad (EW ad cI) [.ref (ad 1), .int a0, .int a1] σ σ r := by
  refine MGi.ofW (cc := cX2_leadsTo) (nL := 4) (ret := (some .boolean)) (by decide) rfl hi ?_
  intro p e s m args below meth c hx hb hr hml hlocks hown hB hK hP hA hAd hS
  have hown : s.vm.findClass RX2 = some m.cls := hown
  have hl := lv_entry ([.ref (ad 1), .int a0, .int a1] : List Value) (n := 4) (Nat.le_of_ble_eq_true rfl)
  rw [lg_entry_eq]
  generalize (lg_sl ([.ref (ad 1), .int a0, .int a1] : List Value) ++ List.replicate (4 - (lg_sl ([.ref (ad 1), .int a0, .int a1] : List Value)).length) Slot.unset).toArray = ls at hl ⊢
  have hl : lv_has ls 4 [(0, .ref (ad 1)), (1, .int a0), (2, .int a1)] := hl
  generalize hQ : MQ below (Qgi D 24 ad (EW ad cI) r σ s.heap.size) _ s 0 0 (AG 24 ad s.heap.size) = Q
  have hQ := hQ.symm
  obtain ⟨R, hR, hRf, hRl⟩ : ∃ R : Room, R = ({ frames := 0, cells := 0, slots := 0, locals := 0 } : Room) ∧ 0 ≤ R.frames ∧ 0 ≤ R.locals := ⟨_, rfl, Nat.le_refl _, Nat.le_refl _⟩
  rw [← hR]
  unfold f_X2_leadsTo at hf
  refine lv_iconst (v := 0) hx hb dX2_leadsTo_0 (by decide) ?_
  refine lv_istore_n (lv' := [(3, .int 0), (0, .ref (ad 1)), (1, .int a0), (2, .int a1)]) hx hb dX2_leadsTo_1 rfl hl (by decide) rfl (fun ls hl => ?_)
  obtain ⟨K5, eK5, hf⟩ := lp_e0 (b := fun K => L_X2_leadsTo_2 FU K σ a0 a1 0) hf
  replace hf : L_X2_leadsTo_2 FU K5 σ a0 a1 0 = some r := hf
  have hKK5 : ∀ (_ : Unit) (H : Heap) (locs : List Loc) (ls : Array Slot), K5 () = some r → va_P D vwCl (wsG 24 ad (EW ad cI) σ) H → va_S (AG 24 ad s.heap.size) s.heap H locs → lv_has ls 4 [] → W p l e R s m args below meth c H locs 0 0 Q (F0 m 29 ls []) := by
    intro _ H locs ls hf hP hS hl
    rw [eK5] at hf
    refine lv_iconst (v := 0) hx hb dX2_leadsTo_29 (by decide) ?_
    have h1 := rt1 hf
    rw [hQ]
    exact g_zret hx hb hr hlocks hP hS (Or.inl rfl) h1 rfl dX2_leadsTo_30
  have hL_X2_leadsTo_2 : ∀ (n : Nat) (x3 : Int32) (H : Heap) (locs : List Loc) (ls : Array Slot), L_X2_leadsTo_2 n K5 σ a0 a1 x3 = some r → va_P D vwCl (wsG 24 ad (EW ad cI) σ) H → va_S (AG 24 ad s.heap.size) s.heap H locs → lv_has ls 4 [(0, .ref (ad 1)), (1, .int a0), (2, .int a1), (3, .int x3)] → W p l e R s m args below meth c H locs 0 0 Q (F0 m 2 ls []) := by
    intro n
    induction n with
    | zero => intro x3 H locs ls hf; cases hf
    | succ n ih =>
      intro x3 H locs ls hf hP hS hl
      rw [L_X2_leadsTo_2] at hf
      refine lv_iload_n hx hb dX2_leadsTo_2 rfl (lv_at hl 3 rfl) ?_
      refine lv_iconst (v := 4) hx hb dX2_leadsTo_3 (by decide) ?_
      refine lv_icmp_ge (tgt := 29) hx hb dX2_leadsTo_4 (by decide) (fun q6 => ?_) (fun q6 => ?_)
      · rw [if_pos q6] at hf
        exact hKK5 () _ _ ls hf hP hS (lv_sub hl [] rfl)
      · rw [if_neg q6] at hf
        refine lv_aload_n hx hb dX2_leadsTo_7 rfl (lv_at hl 0 rfl) ?_
        refine g_get (v := .ref (ad 2)) hx hb hB hown hK hP 1 (by decide) rfl rfl kU_X2 0 (by decide) kF_X2_9 rfl rfl dX2_leadsTo_8 ?_
        refine lv_iload_n hx hb dX2_leadsTo_11 rfl (lv_at hl 1 rfl) ?_
        refine lv_iconst (v := 4) hx hb dX2_leadsTo_12 (by decide) ?_
        refine lv_imul hx hb dX2_leadsTo_13 ?_
        refine lv_iload_n hx hb dX2_leadsTo_14 rfl (lv_at hl 3 rfl) ?_
        refine lv_iadd hx hb dX2_leadsTo_15 ?_
        obtain ⟨hin, hf⟩ := gd_e hf
        refine g_iald hx hb hK hP 2 32 (by decide) rfl hin dX2_leadsTo_16 ?_
        refine lv_iload_n hx hb dX2_leadsTo_17 rfl (lv_at hl 2 rfl) ?_
        refine lv_icmp_ne (tgt := 23) hx hb dX2_leadsTo_18 (by decide) (fun q7 => ?_) (fun q7 => ?_)
        · rw [if_neg q7] at hf
          refine lv_iinc (v := (x3 + 1)) (lv' := [(3, .int (x3 + 1)), (0, .ref (ad 1)), (1, .int a0), (2, .int a1)]) hx hb dX2_leadsTo_23 hl (k := 3) rfl rfl (by decide) rfl (fun ls hl => ?_)
          refine lv_goto (tgt := 2) hx hb dX2_leadsTo_26 (by decide) ?_
          exact ih (x3 + 1) _ _ ls hf hP hS (lv_sub hl [1, 2, 3, 0] rfl)
        · rw [if_pos q7] at hf
          refine lv_iconst (v := 1) hx hb dX2_leadsTo_21 (by decide) ?_
          have h1 := rt1 hf
          rw [hQ]
          exact g_zret hx hb hr hlocks hP hS (Or.inr rfl) h1 rfl dX2_leadsTo_22
  exact hL_X2_leadsTo_2 FU 0 _ _ ls hf hP hS (lv_sub hl [1, 2, 3, 0] rfl)
def L_X2_stepOut_2 : Nat → (Mem → Option (Mem)) → Int32 → Int32 → Mem → Option (Mem)
  | 0, _, _, _, _ => none
  | n + 1, k, x1, x2, σ3 =>
    if 4 ≤ x2 then (
    k σ3)
    else (
    bd (f_X2_exitFrom σ3 x1 x2) fun v7 =>
    jn (fun (σ8 : Mem) =>
    L_X2_stepOut_2 n k x1 (x2 + 1) σ8) fun (J9 : Mem → Option (Mem)) =>
    if v7 = (-1) then (
    J9 σ3)
    else (
    gd v7 8 <|
    if (σ3 7 v7.toNatClampNeg) = (-1) then (
    gd x1 8 <|
    gd v7 8 <| stp (mu σ3 7 v7.toNatClampNeg ((σ3 7 x1.toNatClampNeg) + 1)) fun σ12 =>
    L_X2_stepOut_2 n k x1 (x2 + 1) σ12)
    else (
    J9 σ3)))
def f_X2_stepOut (σ : Mem) (a0 : Int32) : Option (Mem) :=
L_X2_stepOut_2 FU (fun (σ5 : Mem) =>
some σ5) a0 0 σ
set_option maxHeartbeats 4000000 in
set_option maxRecDepth 100000 in
theorem c_X2_stepOut {l : Launch} {D : va_G} {cI cJ : ClassId} {ad : Nat → Nat} {σ : Mem} {a0 : Int32} {σr : Mem}  (hi : injG 24 ad) (hf : f_X2_stepOut σ a0 = some σr) : MGv l yX2_stepOut (Cond.code yX2_stepOut cX2_stepOut 4 none :: BIG) 1 22 D cI cJ 24 ad (EW ad cI) [.ref (ad 1), .int a0] σ σr := by
  refine MGv.ofW (cc := cX2_stepOut) (nL := 4) (ret := none) (by decide) rfl hi ?_
  intro p e s m args below meth c hx hb hr hml hlocks hown hB hK hP hA hAd hS
  have hown : s.vm.findClass RX2 = some m.cls := hown
  have hl := lv_entry ([.ref (ad 1), .int a0] : List Value) (n := 4) (Nat.le_of_ble_eq_true rfl)
  rw [lg_entry_eq]
  generalize (lg_sl ([.ref (ad 1), .int a0] : List Value) ++ List.replicate (4 - (lg_sl ([.ref (ad 1), .int a0] : List Value)).length) Slot.unset).toArray = ls at hl ⊢
  have hl : lv_has ls 4 [(0, .ref (ad 1)), (1, .int a0)] := hl
  generalize hQ : MQ below (Qgv D 24 ad (EW ad cI) σr s.heap.size) _ s 0 0 (AG 24 ad s.heap.size) = Q
  have hQ := hQ.symm
  obtain ⟨R, hR, hRf, hRl⟩ : ∃ R : Room, R = ({ frames := 1, cells := 0, slots := 0, locals := 22 } : Room) ∧ 1 ≤ R.frames ∧ 22 ≤ R.locals := ⟨_, rfl, Nat.le_refl _, Nat.le_refl _⟩
  rw [← hR]
  unfold f_X2_stepOut at hf
  refine lv_iconst (v := 0) hx hb dX2_stepOut_0 (by decide) ?_
  refine lv_istore_n (lv' := [(2, .int 0), (0, .ref (ad 1)), (1, .int a0)]) hx hb dX2_stepOut_1 rfl hl (by decide) rfl (fun ls hl => ?_)
  obtain ⟨K4, eK4, hf⟩ := lp_e1 (b := fun K => L_X2_stepOut_2 FU K a0 0 σ) hf
  replace hf : L_X2_stepOut_2 FU K4 a0 0 σ = some σr := hf
  have hKK4 : ∀ (σ5 : Mem) (H : Heap) (locs : List Loc) (ls : Array Slot), K4 σ5 = some σr → va_P D vwCl (wsG 24 ad (EW ad cI) σ5) H → va_S (AG 24 ad s.heap.size) s.heap H locs → lv_has ls 4 [] → W p l e R s m args below meth c H locs 0 0 Q (F0 m 49 ls []) := by
    intro σ5 H locs ls hf hP hS hl
    rw [eK4] at hf
    have h2 := rt1 hf
    rw [hQ]
    exact g_vret hx hb hr hlocks hP hS h2 dX2_stepOut_49
  have hL_X2_stepOut_2 : ∀ (n : Nat) (x2 : Int32) (σ3 : Mem) (H : Heap) (locs : List Loc) (ls : Array Slot), L_X2_stepOut_2 n K4 a0 x2 σ3 = some σr → va_P D vwCl (wsG 24 ad (EW ad cI) σ3) H → va_S (AG 24 ad s.heap.size) s.heap H locs → lv_has ls 4 [(0, .ref (ad 1)), (1, .int a0), (2, .int x2)] → W p l e R s m args below meth c H locs 0 0 Q (F0 m 2 ls []) := by
    intro n
    induction n with
    | zero => intro x2 σ3 H locs ls hf; cases hf
    | succ n ih =>
      intro x2 σ3 H locs ls hf hP hS hl
      rw [L_X2_stepOut_2] at hf
      refine lv_iload_n hx hb dX2_stepOut_2 rfl (lv_at hl 2 rfl) ?_
      refine lv_iconst (v := 4) hx hb dX2_stepOut_3 (by decide) ?_
      refine lv_icmp_ge (tgt := 49) hx hb dX2_stepOut_4 (by decide) (fun q6 => ?_) (fun q6 => ?_)
      · rw [if_pos q6] at hf
        exact hKK4 σ3 _ _ ls hf hP hS (lv_sub hl [] rfl)
      · rw [if_neg q6] at hf
        refine lv_aload_n hx hb dX2_stepOut_7 rfl (lv_at hl 0 rfl) ?_
        refine lv_iload_n hx hb dX2_stepOut_8 rfl (lv_at hl 1 rfl) ?_
        refine lv_iload_n hx hb dX2_stepOut_9 rfl (lv_at hl 2 rfl) ?_
        obtain ⟨v7, hv, hf⟩ := bd_e hf
        refine g_cViS (k0 := 1) ⟨⟨hx, hb, hml, hown, hB⟩, hK, hi, hA, hAd, hP, hS⟩ (c_X2_exitFrom hi hv) cal_X2_exitFrom kM_X2_47 ⟨Nat.le_trans (Nat.le_of_ble_eq_true rfl) hRf, Nat.le_trans (Nat.le_of_ble_eq_true rfl) hRl⟩ (by decide) rfl rfl rfl hl.1 (Nat.le_of_ble_eq_true rfl) rfl dX2_stepOut_10 ⟨Nat.zero_le _, Nat.zero_le _⟩ (fun H locs hP hS => ?_)
        refine lv_istore_n (lv' := [(3, .int v7), (0, .ref (ad 1)), (1, .int a0), (2, .int x2)]) hx hb dX2_stepOut_13 rfl hl (by decide) rfl (fun ls hl => ?_)
        refine lv_iload_n hx hb dX2_stepOut_14 rfl (lv_at hl 0 rfl) ?_
        refine lv_iconst (v := (-1)) hx hb dX2_stepOut_15 (by decide) ?_
        obtain ⟨J9, eJ9, hf⟩ := jn_e1 hf
        have hJ9 : ∀ (σ8 : Mem) (H : Heap) (locs : List Loc) (ls : Array Slot), J9 σ8 = some σr → va_P D vwCl (wsG 24 ad (EW ad cI) σ8) H → va_S (AG 24 ad s.heap.size) s.heap H locs → lv_has ls 4 [(0, .ref (ad 1)), (1, .int a0), (2, .int x2)] → W p l e R s m args below meth c H locs 0 0 Q (F0 m 43 ls []) := by
          intro σ8 H locs ls hf hP hS hl
          rw [eJ9] at hf
          refine lv_iinc (v := (x2 + 1)) (lv' := [(2, .int (x2 + 1)), (0, .ref (ad 1)), (1, .int a0)]) hx hb dX2_stepOut_43 hl (k := 2) rfl rfl (by decide) rfl (fun ls hl => ?_)
          refine lv_goto (tgt := 2) hx hb dX2_stepOut_46 (by decide) ?_
          exact ih (x2 + 1) σ8 _ _ ls hf hP hS (lv_sub hl [1, 2, 0] rfl)
        refine lv_icmp_eq (tgt := 43) hx hb dX2_stepOut_16 (by decide) (fun q10 => ?_) (fun q10 => ?_)
        · rw [if_pos q10] at hf
          exact hJ9 σ3 _ _ ls hf hP hS (lv_sub hl [1, 2, 3] rfl)
        · rw [if_neg q10] at hf
          refine lv_aload_n hx hb dX2_stepOut_19 rfl (lv_at hl 1 rfl) ?_
          refine g_get (v := .ref (ad 7)) hx hb hB hown hK hP 1 (by decide) rfl rfl kU_X2 5 (by decide) kF_X2_27 rfl rfl dX2_stepOut_20 ?_
          refine lv_iload_n hx hb dX2_stepOut_23 rfl (lv_at hl 0 rfl) ?_
          obtain ⟨hin, hf⟩ := gd_e hf
          refine g_iald hx hb hK hP 7 8 (by decide) rfl hin dX2_stepOut_24 ?_
          refine lv_iconst (v := (-1)) hx hb dX2_stepOut_25 (by decide) ?_
          refine lv_icmp_ne (tgt := 43) hx hb dX2_stepOut_26 (by decide) (fun q11 => ?_) (fun q11 => ?_)
          · rw [if_neg q11] at hf
            exact hJ9 σ3 _ _ ls hf hP hS (lv_sub hl [1, 2, 3] rfl)
          · rw [if_pos q11] at hf
            refine lv_aload_n hx hb dX2_stepOut_29 rfl (lv_at hl 1 rfl) ?_
            refine g_get (v := .ref (ad 7)) hx hb hB hown hK hP 1 (by decide) rfl rfl kU_X2 5 (by decide) kF_X2_27 rfl rfl dX2_stepOut_30 ?_
            refine lv_iload_n hx hb dX2_stepOut_33 rfl (lv_at hl 0 rfl) ?_
            refine lv_aload_n hx hb dX2_stepOut_34 rfl (lv_at hl 1 rfl) ?_
            refine g_get (v := .ref (ad 7)) hx hb hB hown hK hP 1 (by decide) rfl rfl kU_X2 5 (by decide) kF_X2_27 rfl rfl dX2_stepOut_35 ?_
            refine lv_iload_n hx hb dX2_stepOut_38 rfl (lv_at hl 2 rfl) ?_
            obtain ⟨hin, hf⟩ := gd_e hf
            refine g_iald hx hb hK hP 7 8 (by decide) rfl hin dX2_stepOut_39 ?_
            refine lv_iconst (v := 1) hx hb dX2_stepOut_40 (by decide) ?_
            refine lv_iadd hx hb dX2_stepOut_41 ?_
            obtain ⟨hin, hf⟩ := gd_e hf
            obtain ⟨σ12, eσ12, hf⟩ := stp_e hf
            refine g_iast (σ1 := σ12) hx hb hK hP hi hAd hS 7 8 (by decide) (fun _ => rfl) hin dX2_stepOut_42 eσ12 (fun H locs hP hS => ?_)
            refine lv_iinc (v := (x2 + 1)) (lv' := [(2, .int (x2 + 1)), (3, .int v7), (0, .ref (ad 1)), (1, .int a0)]) hx hb dX2_stepOut_43 hl (k := 3) rfl rfl (by decide) rfl (fun ls hl => ?_)
            refine lv_goto (tgt := 2) hx hb dX2_stepOut_46 (by decide) ?_
            exact ih (x2 + 1) σ12 _ _ ls hf hP hS (lv_sub hl [2, 3, 0] rfl)
  exact hL_X2_stepOut_2 FU 0 σ _ _ ls hf hP hS (lv_sub hl [1, 2, 0] rfl)
def L_X2_stepsBetween_26 : Nat → (Mem → Option (Int32 × Mem)) → Int32 → Int32 → Int32 → Mem → Option (Int32 × Mem)
  | 0, _, _, _, _, _ => none
  | n + 1, k, x9, x10, x11, σ12 =>
    if 8 ≤ x11 then (
    k σ12)
    else (
    gd x11 8 <|
    jn (fun (σ16 : Mem) =>
    L_X2_stepsBetween_26 n k x9 x10 (x11 + 1) σ16) fun (J17 : Mem → Option (Int32 × Mem)) =>
    if (σ12 7 x11.toNatClampNeg) = x10 then (
    bd (f_X2_stepOut σ12 x11) fun σ19 =>
    L_X2_stepsBetween_26 n k x9 x10 (x11 + 1) σ19)
    else (
    J17 σ12))
def L_X2_stepsBetween_17 : Nat → (Mem → Option (Int32 × Mem)) → Int32 → Int32 → Mem → Option (Int32 × Mem)
  | 0, _, _, _, _ => none
  | n + 1, k, x3, x4, σ5 =>
    if 8 ≤ x4 then (
    k σ5)
    else (
    L_X2_stepsBetween_26 FU (fun (σ14 : Mem) =>
    L_X2_stepsBetween_17 n k x3 (x4 + 1) σ14) x3 x4 0 σ5)
def f_X2_stepsBetween (σ : Mem) (a0 a1 : Int32) : Option (Int32 × Mem) :=
stp (fl σ 7 8 (-1)) fun σ1 =>
gd a0 8 <| stp (mu σ1 7 a0.toNatClampNeg 0) fun σ2 =>
L_X2_stepsBetween_17 FU (fun (σ7 : Mem) =>
gd a1 8 <|
some ((σ7 7 a1.toNatClampNeg), σ7)) a1 0 σ2
set_option maxHeartbeats 4000000 in
set_option maxRecDepth 100000 in
theorem c_X2_stepsBetween {l : Launch} {D : va_G} {cI cJ : ClassId} {ad : Nat → Nat} {σ : Mem} {a0 a1 : Int32} {r : Int32} {σr : Mem}  (hi : injG 24 ad) (hf : f_X2_stepsBetween σ a0 a1 = some (r, σr)) : MGi l yX2_stepsBetween (Cond.code yX2_stepsBetween cX2_stepsBetween 5 (some .int) :: BIG) 2 45 D cI cJ 24 ad (EW ad cI) [.ref (ad 1), .int a0, .int a1] σ σr r := by
  refine MGi.ofW (cc := cX2_stepsBetween) (nL := 5) (ret := (some .int)) (by decide) rfl hi ?_
  intro p e s m args below meth c hx hb hr hml hlocks hown hB hK hP hA hAd hS
  have hown : s.vm.findClass RX2 = some m.cls := hown
  have hl := lv_entry ([.ref (ad 1), .int a0, .int a1] : List Value) (n := 5) (Nat.le_of_ble_eq_true rfl)
  rw [lg_entry_eq]
  generalize (lg_sl ([.ref (ad 1), .int a0, .int a1] : List Value) ++ List.replicate (5 - (lg_sl ([.ref (ad 1), .int a0, .int a1] : List Value)).length) Slot.unset).toArray = ls at hl ⊢
  have hl : lv_has ls 5 [(0, .ref (ad 1)), (1, .int a0), (2, .int a1)] := hl
  generalize hQ : MQ below (Qgi D 24 ad (EW ad cI) r σr s.heap.size) _ s 0 0 (AG 24 ad s.heap.size) = Q
  have hQ := hQ.symm
  obtain ⟨R, hR, hRf, hRl⟩ : ∃ R : Room, R = ({ frames := 2, cells := 0, slots := 0, locals := 45 } : Room) ∧ 2 ≤ R.frames ∧ 45 ≤ R.locals := ⟨_, rfl, Nat.le_refl _, Nat.le_refl _⟩
  rw [← hR]
  unfold f_X2_stepsBetween at hf
  refine lv_aload_n hx hb dX2_stepsBetween_0 rfl (lv_at hl 0 rfl) ?_
  refine g_get (v := .ref (ad 7)) hx hb hB hown hK hP 1 (by decide) rfl rfl kU_X2 5 (by decide) kF_X2_27 rfl rfl dX2_stepsBetween_1 ?_
  refine lv_iconst (v := (-1)) hx hb dX2_stepsBetween_4 (by decide) ?_
  obtain ⟨σ1, eσ1, hf⟩ := stp_e hf
  refine g_fill (τ := σ1) ⟨⟨hx, hb, hml, hown, hB⟩, hK, hi, hA, hAd, hP, hS⟩ 7 8 (by decide) (by decide) (fun _ => rfl) kM_X2_33 hRf hRl hl.1 rfl dX2_stepsBetween_5 eσ1 (fun H locs hP hS => ?_)
  refine lv_aload_n hx hb dX2_stepsBetween_8 rfl (lv_at hl 0 rfl) ?_
  refine g_get (v := .ref (ad 7)) hx hb hB hown hK hP 1 (by decide) rfl rfl kU_X2 5 (by decide) kF_X2_27 rfl rfl dX2_stepsBetween_9 ?_
  refine lv_iload_n hx hb dX2_stepsBetween_12 rfl (lv_at hl 1 rfl) ?_
  refine lv_iconst (v := 0) hx hb dX2_stepsBetween_13 (by decide) ?_
  obtain ⟨hin, hf⟩ := gd_e hf
  obtain ⟨σ2, eσ2, hf⟩ := stp_e hf
  refine g_iast (σ1 := σ2) hx hb hK hP hi hAd hS 7 8 (by decide) (fun _ => rfl) hin dX2_stepsBetween_14 eσ2 (fun H locs hP hS => ?_)
  refine lv_iconst (v := 0) hx hb dX2_stepsBetween_15 (by decide) ?_
  refine lv_istore_n (lv' := [(3, .int 0), (0, .ref (ad 1)), (1, .int a0), (2, .int a1)]) hx hb dX2_stepsBetween_16 rfl hl (by decide) rfl (fun ls hl => ?_)
  obtain ⟨K6, eK6, hf⟩ := lp_e1 (b := fun K => L_X2_stepsBetween_17 FU K a1 0 σ2) hf
  replace hf : L_X2_stepsBetween_17 FU K6 a1 0 σ2 = some (r, σr) := hf
  have hKK6 : ∀ (σ7 : Mem) (H : Heap) (locs : List Loc) (ls : Array Slot), K6 σ7 = some (r, σr) → va_P D vwCl (wsG 24 ad (EW ad cI) σ7) H → va_S (AG 24 ad s.heap.size) s.heap H locs → lv_has ls 5 [(0, .ref (ad 1)), (2, .int a1)] → W p l e R s m args below meth c H locs 0 0 Q (F0 m 62 ls []) := by
    intro σ7 H locs ls hf hP hS hl
    rw [eK6] at hf
    refine lv_aload_n hx hb dX2_stepsBetween_62 rfl (lv_at hl 0 rfl) ?_
    refine g_get (v := .ref (ad 7)) hx hb hB hown hK hP 1 (by decide) rfl rfl kU_X2 5 (by decide) kF_X2_27 rfl rfl dX2_stepsBetween_63 ?_
    refine lv_iload_n hx hb dX2_stepsBetween_66 rfl (lv_at hl 1 rfl) ?_
    obtain ⟨hin, hf⟩ := gd_e hf
    refine g_iald hx hb hK hP 7 8 (by decide) rfl hin dX2_stepsBetween_67 ?_
    obtain ⟨h1, h2⟩ := rt2 hf
    rw [hQ]
    exact g_iret hx hb hr hlocks hP hS h1 h2 dX2_stepsBetween_68
  have hL_X2_stepsBetween_17 : ∀ (n : Nat) (x4 : Int32) (σ5 : Mem) (H : Heap) (locs : List Loc) (ls : Array Slot), L_X2_stepsBetween_17 n K6 a1 x4 σ5 = some (r, σr) → va_P D vwCl (wsG 24 ad (EW ad cI) σ5) H → va_S (AG 24 ad s.heap.size) s.heap H locs → lv_has ls 5 [(0, .ref (ad 1)), (2, .int a1), (3, .int x4)] → W p l e R s m args below meth c H locs 0 0 Q (F0 m 17 ls []) := by
    intro n
    induction n with
    | zero => intro x4 σ5 H locs ls hf; cases hf
    | succ n ih =>
      intro x4 σ5 H locs ls hf hP hS hl
      rw [L_X2_stepsBetween_17] at hf
      refine lv_iload_n hx hb dX2_stepsBetween_17 rfl (lv_at hl 2 rfl) ?_
      refine lv_bipush (v := 8) hx hb dX2_stepsBetween_18 (by decide) ?_
      refine lv_icmp_ge (tgt := 62) hx hb dX2_stepsBetween_20 (by decide) (fun q8 => ?_) (fun q8 => ?_)
      · rw [if_pos q8] at hf
        exact hKK6 σ5 _ _ ls hf hP hS (lv_sub hl [0, 1] rfl)
      · rw [if_neg q8] at hf
        refine lv_iconst (v := 0) hx hb dX2_stepsBetween_23 (by decide) ?_
        refine lv_istore (lv' := [(4, .int 0), (0, .ref (ad 1)), (2, .int a1), (3, .int x4)]) hx hb dX2_stepsBetween_24 hl (by decide) rfl (fun ls hl => ?_)
        obtain ⟨K13, eK13, hf⟩ := lp_e1 (b := fun K => L_X2_stepsBetween_26 FU K a1 x4 0 σ5) hf
        replace hf : L_X2_stepsBetween_26 FU K13 a1 x4 0 σ5 = some (r, σr) := hf
        have hKK13 : ∀ (σ14 : Mem) (H : Heap) (locs : List Loc) (ls : Array Slot), K13 σ14 = some (r, σr) → va_P D vwCl (wsG 24 ad (EW ad cI) σ14) H → va_S (AG 24 ad s.heap.size) s.heap H locs → lv_has ls 5 [(0, .ref (ad 1)), (2, .int a1), (3, .int x4)] → W p l e R s m args below meth c H locs 0 0 Q (F0 m 56 ls []) := by
          intro σ14 H locs ls hf hP hS hl
          rw [eK13] at hf
          refine lv_iinc (v := (x4 + 1)) (lv' := [(3, .int (x4 + 1)), (0, .ref (ad 1)), (2, .int a1)]) hx hb dX2_stepsBetween_56 hl (k := 2) rfl rfl (by decide) rfl (fun ls hl => ?_)
          refine lv_goto (tgt := 17) hx hb dX2_stepsBetween_59 (by decide) ?_
          exact ih (x4 + 1) σ14 _ _ ls hf hP hS (lv_sub hl [1, 2, 0] rfl)
        have hL_X2_stepsBetween_26 : ∀ (n : Nat) (x11 : Int32) (σ12 : Mem) (H : Heap) (locs : List Loc) (ls : Array Slot), L_X2_stepsBetween_26 n K13 a1 x4 x11 σ12 = some (r, σr) → va_P D vwCl (wsG 24 ad (EW ad cI) σ12) H → va_S (AG 24 ad s.heap.size) s.heap H locs → lv_has ls 5 [(0, .ref (ad 1)), (2, .int a1), (3, .int x4), (4, .int x11)] → W p l e R s m args below meth c H locs 0 0 Q (F0 m 26 ls []) := by
          intro n
          induction n with
          | zero => intro x11 σ12 H locs ls hf; cases hf
          | succ n ih =>
            intro x11 σ12 H locs ls hf hP hS hl
            rw [L_X2_stepsBetween_26] at hf
            refine lv_iload hx hb dX2_stepsBetween_26 (lv_at hl 3 rfl) ?_
            refine lv_bipush (v := 8) hx hb dX2_stepsBetween_28 (by decide) ?_
            refine lv_icmp_ge (tgt := 56) hx hb dX2_stepsBetween_30 (by decide) (fun q15 => ?_) (fun q15 => ?_)
            · rw [if_pos q15] at hf
              exact hKK13 σ12 _ _ ls hf hP hS (lv_sub hl [0, 1, 2] rfl)
            · rw [if_neg q15] at hf
              refine lv_aload_n hx hb dX2_stepsBetween_33 rfl (lv_at hl 0 rfl) ?_
              refine g_get (v := .ref (ad 7)) hx hb hB hown hK hP 1 (by decide) rfl rfl kU_X2 5 (by decide) kF_X2_27 rfl rfl dX2_stepsBetween_34 ?_
              refine lv_iload hx hb dX2_stepsBetween_37 (lv_at hl 3 rfl) ?_
              obtain ⟨hin, hf⟩ := gd_e hf
              refine g_iald hx hb hK hP 7 8 (by decide) rfl hin dX2_stepsBetween_39 ?_
              refine lv_iload_n hx hb dX2_stepsBetween_40 rfl (lv_at hl 2 rfl) ?_
              obtain ⟨J17, eJ17, hf⟩ := jn_e1 hf
              have hJ17 : ∀ (σ16 : Mem) (H : Heap) (locs : List Loc) (ls : Array Slot), J17 σ16 = some (r, σr) → va_P D vwCl (wsG 24 ad (EW ad cI) σ16) H → va_S (AG 24 ad s.heap.size) s.heap H locs → lv_has ls 5 [(0, .ref (ad 1)), (2, .int a1), (3, .int x4), (4, .int x11)] → W p l e R s m args below meth c H locs 0 0 Q (F0 m 50 ls []) := by
                intro σ16 H locs ls hf hP hS hl
                rw [eJ17] at hf
                refine lv_iinc (v := (x11 + 1)) (lv' := [(4, .int (x11 + 1)), (0, .ref (ad 1)), (2, .int a1), (3, .int x4)]) hx hb dX2_stepsBetween_50 hl (k := 3) rfl rfl (by decide) rfl (fun ls hl => ?_)
                refine lv_goto (tgt := 26) hx hb dX2_stepsBetween_53 (by decide) ?_
                exact ih (x11 + 1) σ16 _ _ ls hf hP hS (lv_sub hl [1, 2, 3, 0] rfl)
              refine lv_icmp_ne (tgt := 50) hx hb dX2_stepsBetween_41 (by decide) (fun q18 => ?_) (fun q18 => ?_)
              · rw [if_neg q18] at hf
                exact hJ17 σ12 _ _ ls hf hP hS (lv_sub hl [0, 1, 2, 3] rfl)
              · rw [if_pos q18] at hf
                refine lv_aload_n hx hb dX2_stepsBetween_44 rfl (lv_at hl 0 rfl) ?_
                refine lv_iload hx hb dX2_stepsBetween_45 (lv_at hl 3 rfl) ?_
                obtain ⟨σ19, hv, hf⟩ := bd_e hf
                refine g_cVvS (k0 := 1) ⟨⟨hx, hb, hml, hown, hB⟩, hK, hi, hA, hAd, hP, hS⟩ (c_X2_stepOut hi hv) cal_X2_stepOut kM_X2_43 ⟨Nat.le_trans (Nat.le_of_ble_eq_true rfl) hRf, Nat.le_trans (Nat.le_of_ble_eq_true rfl) hRl⟩ (by decide) rfl rfl rfl hl.1 (Nat.le_of_ble_eq_true rfl) rfl dX2_stepsBetween_47 ⟨Nat.zero_le _, Nat.zero_le _⟩ (fun H locs hP hS => ?_)
                refine lv_iinc (v := (x11 + 1)) (lv' := [(4, .int (x11 + 1)), (0, .ref (ad 1)), (2, .int a1), (3, .int x4)]) hx hb dX2_stepsBetween_50 hl (k := 3) rfl rfl (by decide) rfl (fun ls hl => ?_)
                refine lv_goto (tgt := 26) hx hb dX2_stepsBetween_53 (by decide) ?_
                exact ih (x11 + 1) σ19 _ _ ls hf hP hS (lv_sub hl [1, 2, 3, 0] rfl)
        exact hL_X2_stepsBetween_26 FU 0 σ5 _ _ ls hf hP hS (lv_sub hl [1, 2, 3, 0] rfl)
  exact hL_X2_stepsBetween_17 FU 0 σ2 _ _ ls hf hP hS (lv_sub hl [1, 3, 0] rfl)
def f_X2_hasShop (σ : Mem) (a0 : Int32) : Option (Int32) :=
gd a0 8 <|
if (σ 3 a0.toNatClampNeg) = (-1) then (
some 0)
else (
some 1)
set_option maxHeartbeats 4000000 in
set_option maxRecDepth 100000 in
theorem c_X2_hasShop {l : Launch} {D : va_G} {cI cJ : ClassId} {ad : Nat → Nat} {σ : Mem} {a0 : Int32} {r : Int32}  (hi : injG 24 ad) (hf : f_X2_hasShop σ a0 = some r) : MGi l yX2_hasShop (Cond.code yX2_hasShop cX2_hasShop 2 (some .boolean) :: BIG) 0 0 D cI cJ 24 ad (EW ad cI) [.ref (ad 1), .int a0] σ σ r := by
  refine MGi.ofW (cc := cX2_hasShop) (nL := 2) (ret := (some .boolean)) (by decide) rfl hi ?_
  intro p e s m args below meth c hx hb hr hml hlocks hown hB hK hP hA hAd hS
  have hown : s.vm.findClass RX2 = some m.cls := hown
  have hl := lv_entry ([.ref (ad 1), .int a0] : List Value) (n := 2) (Nat.le_of_ble_eq_true rfl)
  rw [lg_entry_eq]
  generalize (lg_sl ([.ref (ad 1), .int a0] : List Value) ++ List.replicate (2 - (lg_sl ([.ref (ad 1), .int a0] : List Value)).length) Slot.unset).toArray = ls at hl ⊢
  have hl : lv_has ls 2 [(0, .ref (ad 1)), (1, .int a0)] := hl
  generalize hQ : MQ below (Qgi D 24 ad (EW ad cI) r σ s.heap.size) _ s 0 0 (AG 24 ad s.heap.size) = Q
  have hQ := hQ.symm
  obtain ⟨R, hR, hRf, hRl⟩ : ∃ R : Room, R = ({ frames := 0, cells := 0, slots := 0, locals := 0 } : Room) ∧ 0 ≤ R.frames ∧ 0 ≤ R.locals := ⟨_, rfl, Nat.le_refl _, Nat.le_refl _⟩
  rw [← hR]
  unfold f_X2_hasShop at hf
  refine lv_aload_n hx hb dX2_hasShop_0 rfl (lv_at hl 0 rfl) ?_
  refine g_get (v := .ref (ad 3)) hx hb hB hown hK hP 1 (by decide) rfl rfl kU_X2 1 (by decide) kF_X2_15 rfl rfl dX2_hasShop_1 ?_
  refine lv_iload_n hx hb dX2_hasShop_4 rfl (lv_at hl 1 rfl) ?_
  obtain ⟨hin, hf⟩ := gd_e hf
  refine g_iald hx hb hK hP 3 8 (by decide) rfl hin dX2_hasShop_5 ?_
  refine lv_iconst (v := (-1)) hx hb dX2_hasShop_6 (by decide) ?_
  refine lv_icmp_eq (tgt := 14) hx hb dX2_hasShop_7 (by decide) (fun q1 => ?_) (fun q1 => ?_)
  · rw [if_pos q1] at hf
    refine lv_iconst (v := 0) hx hb dX2_hasShop_14 (by decide) ?_
    have h1 := rt1 hf
    rw [hQ]
    exact g_zret hx hb hr hlocks hP hS (Or.inl rfl) h1 rfl dX2_hasShop_15
  · rw [if_neg q1] at hf
    refine lv_iconst (v := 1) hx hb dX2_hasShop_10 (by decide) ?_
    refine lv_goto (tgt := 15) hx hb dX2_hasShop_11 (by decide) ?_
    have h1 := rt1 hf
    rw [hQ]
    exact g_zret hx hb hr hlocks hP hS (Or.inr rfl) h1 rfl dX2_hasShop_15
def f_X2_halfPrice (σ : Mem) (a0 a1 : Int32) : Option (Int32) :=
bd (f_X5_goodsAt a0 a1) fun v1 =>
gd v1 40 <|
some ((σ 4 v1.toNatClampNeg) / 2)
set_option maxHeartbeats 4000000 in
set_option maxRecDepth 100000 in
theorem c_X2_halfPrice {l : Launch} {D : va_G} {cI cJ : ClassId} {ad : Nat → Nat} {σ : Mem} {a0 a1 : Int32} {r : Int32}  (hi : injG 24 ad) (hf : f_X2_halfPrice σ a0 a1 = some r) : MGi l yX2_halfPrice (Cond.code yX2_halfPrice cX2_halfPrice 3 (some .int) :: BIG) 1 21 D cI cJ 24 ad (EW ad cI) [.ref (ad 1), .int a0, .int a1] σ σ r := by
  refine MGi.ofW (cc := cX2_halfPrice) (nL := 3) (ret := (some .int)) (by decide) rfl hi ?_
  intro p e s m args below meth c hx hb hr hml hlocks hown hB hK hP hA hAd hS
  have hown : s.vm.findClass RX2 = some m.cls := hown
  have hl := lv_entry ([.ref (ad 1), .int a0, .int a1] : List Value) (n := 3) (Nat.le_of_ble_eq_true rfl)
  rw [lg_entry_eq]
  generalize (lg_sl ([.ref (ad 1), .int a0, .int a1] : List Value) ++ List.replicate (3 - (lg_sl ([.ref (ad 1), .int a0, .int a1] : List Value)).length) Slot.unset).toArray = ls at hl ⊢
  have hl : lv_has ls 3 [(0, .ref (ad 1)), (1, .int a0), (2, .int a1)] := hl
  generalize hQ : MQ below (Qgi D 24 ad (EW ad cI) r σ s.heap.size) _ s 0 0 (AG 24 ad s.heap.size) = Q
  have hQ := hQ.symm
  obtain ⟨R, hR, hRf, hRl⟩ : ∃ R : Room, R = ({ frames := 1, cells := 0, slots := 0, locals := 21 } : Room) ∧ 1 ≤ R.frames ∧ 21 ≤ R.locals := ⟨_, rfl, Nat.le_refl _, Nat.le_refl _⟩
  rw [← hR]
  unfold f_X2_halfPrice at hf
  refine lv_aload_n hx hb dX2_halfPrice_0 rfl (lv_at hl 0 rfl) ?_
  refine g_get (v := .ref (ad 4)) hx hb hB hown hK hP 1 (by decide) rfl rfl kU_X2 2 (by decide) kF_X2_18 rfl rfl dX2_halfPrice_1 ?_
  refine lv_iload_n hx hb dX2_halfPrice_4 rfl (lv_at hl 1 rfl) ?_
  refine lv_iload_n hx hb dX2_halfPrice_5 rfl (lv_at hl 2 rfl) ?_
  obtain ⟨v1, hv, hf⟩ := bd_e hf
  refine g_cNi0 ⟨⟨hx, hb, hml, hown, hB⟩, hK, hi, hA, hAd, hP, hS⟩ (c_X5_goodsAt hv) cal_X5_goodsAt kN_X2_51 ⟨Nat.le_trans (Nat.le_of_ble_eq_true rfl) hRf, Nat.le_trans (Nat.le_of_ble_eq_true rfl) hRl⟩ rfl hl.1 (Nat.le_of_ble_eq_true rfl) rfl dX2_halfPrice_6 ⟨Nat.zero_le _, Nat.zero_le _⟩ (fun H locs hP hS => ?_)
  obtain ⟨hin, hf⟩ := gd_e hf
  refine g_iald hx hb hK hP 4 40 (by decide) rfl hin dX2_halfPrice_9 ?_
  refine lv_iconst (v := 2) hx hb dX2_halfPrice_10 (by decide) ?_
  refine lv_idiv hx hb dX2_halfPrice_11 (by decide) ?_
  have h1 := rt1 hf
  rw [hQ]
  exact g_iret hx hb hr hlocks hP hS h1 rfl dX2_halfPrice_12
def f_X2_addStock (σ : Mem) (a0 a1 a2 a3 : Int32) : Option (Int32 × Mem) :=
bd (f_X5_goodsAt a0 a1) fun v1 =>
gd v1 40 <| stp (mu σ 4 v1.toNatClampNeg a3) fun σ2 =>
gd v1 40 <|
gd v1 40 <| stp (mu σ2 5 v1.toNatClampNeg ((σ2 5 v1.toNatClampNeg) + a2)) fun σ3 =>
gd v1 40 <|
some ((σ3 5 v1.toNatClampNeg), σ3)
set_option maxHeartbeats 4000000 in
set_option maxRecDepth 100000 in
theorem c_X2_addStock {l : Launch} {D : va_G} {cI cJ : ClassId} {ad : Nat → Nat} {σ : Mem} {a0 a1 a2 a3 : Int32} {r : Int32} {σr : Mem}  (hi : injG 24 ad) (hf : f_X2_addStock σ a0 a1 a2 a3 = some (r, σr)) : MGi l yX2_addStock (Cond.code yX2_addStock cX2_addStock 6 (some .int) :: BIG) 1 21 D cI cJ 24 ad (EW ad cI) [.ref (ad 1), .int a0, .int a1, .int a2, .int a3] σ σr r := by
  refine MGi.ofW (cc := cX2_addStock) (nL := 6) (ret := (some .int)) (by decide) rfl hi ?_
  intro p e s m args below meth c hx hb hr hml hlocks hown hB hK hP hA hAd hS
  have hown : s.vm.findClass RX2 = some m.cls := hown
  have hl := lv_entry ([.ref (ad 1), .int a0, .int a1, .int a2, .int a3] : List Value) (n := 6) (Nat.le_of_ble_eq_true rfl)
  rw [lg_entry_eq]
  generalize (lg_sl ([.ref (ad 1), .int a0, .int a1, .int a2, .int a3] : List Value) ++ List.replicate (6 - (lg_sl ([.ref (ad 1), .int a0, .int a1, .int a2, .int a3] : List Value)).length) Slot.unset).toArray = ls at hl ⊢
  have hl : lv_has ls 6 [(0, .ref (ad 1)), (1, .int a0), (2, .int a1), (3, .int a2), (4, .int a3)] := hl
  generalize hQ : MQ below (Qgi D 24 ad (EW ad cI) r σr s.heap.size) _ s 0 0 (AG 24 ad s.heap.size) = Q
  have hQ := hQ.symm
  obtain ⟨R, hR, hRf, hRl⟩ : ∃ R : Room, R = ({ frames := 1, cells := 0, slots := 0, locals := 21 } : Room) ∧ 1 ≤ R.frames ∧ 21 ≤ R.locals := ⟨_, rfl, Nat.le_refl _, Nat.le_refl _⟩
  rw [← hR]
  unfold f_X2_addStock at hf
  refine lv_iload_n hx hb dX2_addStock_0 rfl (lv_at hl 1 rfl) ?_
  refine lv_iload_n hx hb dX2_addStock_1 rfl (lv_at hl 2 rfl) ?_
  obtain ⟨v1, hv, hf⟩ := bd_e hf
  refine g_cNi0 ⟨⟨hx, hb, hml, hown, hB⟩, hK, hi, hA, hAd, hP, hS⟩ (c_X5_goodsAt hv) cal_X5_goodsAt kN_X2_51 ⟨Nat.le_trans (Nat.le_of_ble_eq_true rfl) hRf, Nat.le_trans (Nat.le_of_ble_eq_true rfl) hRl⟩ rfl hl.1 (Nat.le_of_ble_eq_true rfl) rfl dX2_addStock_2 ⟨Nat.zero_le _, Nat.zero_le _⟩ (fun H locs hP hS => ?_)
  refine lv_istore (lv' := [(5, .int v1), (0, .ref (ad 1)), (1, .int a0), (2, .int a1), (3, .int a2), (4, .int a3)]) hx hb dX2_addStock_5 hl (by decide) rfl (fun ls hl => ?_)
  refine lv_aload_n hx hb dX2_addStock_7 rfl (lv_at hl 1 rfl) ?_
  refine g_get (v := .ref (ad 4)) hx hb hB hown hK hP 1 (by decide) rfl rfl kU_X2 2 (by decide) kF_X2_18 rfl rfl dX2_addStock_8 ?_
  refine lv_iload hx hb dX2_addStock_11 (lv_at hl 0 rfl) ?_
  refine lv_iload hx hb dX2_addStock_13 (lv_at hl 5 rfl) ?_
  obtain ⟨hin, hf⟩ := gd_e hf
  obtain ⟨σ2, eσ2, hf⟩ := stp_e hf
  refine g_iast (σ1 := σ2) hx hb hK hP hi hAd hS 4 40 (by decide) (fun _ => rfl) hin dX2_addStock_15 eσ2 (fun H locs hP hS => ?_)
  refine lv_aload_n hx hb dX2_addStock_16 rfl (lv_at hl 1 rfl) ?_
  refine g_get (v := .ref (ad 5)) hx hb hB hown hK hP 1 (by decide) rfl rfl kU_X2 3 (by decide) kF_X2_21 rfl rfl dX2_addStock_17 ?_
  refine lv_iload hx hb dX2_addStock_20 (lv_at hl 0 rfl) ?_
  refine lv_dup2_11 hx hb dX2_addStock_22 rfl rfl ?_
  obtain ⟨hin, hf⟩ := gd_e hf
  refine g_iald hx hb hK hP 5 40 (by decide) rfl hin dX2_addStock_23 ?_
  refine lv_iload_n hx hb dX2_addStock_24 rfl (lv_at hl 4 rfl) ?_
  refine lv_iadd hx hb dX2_addStock_25 ?_
  obtain ⟨hin, hf⟩ := gd_e hf
  obtain ⟨σ3, eσ3, hf⟩ := stp_e hf
  refine g_iast (σ1 := σ3) hx hb hK hP hi hAd hS 5 40 (by decide) (fun _ => rfl) hin dX2_addStock_26 eσ3 (fun H locs hP hS => ?_)
  refine lv_aload_n hx hb dX2_addStock_27 rfl (lv_at hl 1 rfl) ?_
  refine g_get (v := .ref (ad 5)) hx hb hB hown hK hP 1 (by decide) rfl rfl kU_X2 3 (by decide) kF_X2_21 rfl rfl dX2_addStock_28 ?_
  refine lv_iload hx hb dX2_addStock_31 (lv_at hl 0 rfl) ?_
  obtain ⟨hin, hf⟩ := gd_e hf
  refine g_iald hx hb hK hP 5 40 (by decide) rfl hin dX2_addStock_33 ?_
  obtain ⟨h1, h2⟩ := rt2 hf
  rw [hQ]
  exact g_iret hx hb hr hlocks hP hS h1 h2 dX2_addStock_34
def f_X2_addToFloor (σ : Mem) (a0 a1 a2 : Int32) : Option (Int32 × Mem) :=
bd (f_X5_goodsAt a0 a1) fun v1 =>
gd v1 40 <|
gd v1 40 <| stp (mu σ 6 v1.toNatClampNeg ((σ 6 v1.toNatClampNeg) + a2)) fun σ2 =>
gd v1 40 <|
some ((σ2 6 v1.toNatClampNeg), σ2)
set_option maxHeartbeats 4000000 in
set_option maxRecDepth 100000 in
theorem c_X2_addToFloor {l : Launch} {D : va_G} {cI cJ : ClassId} {ad : Nat → Nat} {σ : Mem} {a0 a1 a2 : Int32} {r : Int32} {σr : Mem}  (hi : injG 24 ad) (hf : f_X2_addToFloor σ a0 a1 a2 = some (r, σr)) : MGi l yX2_addToFloor (Cond.code yX2_addToFloor cX2_addToFloor 5 (some .int) :: BIG) 1 21 D cI cJ 24 ad (EW ad cI) [.ref (ad 1), .int a0, .int a1, .int a2] σ σr r := by
  refine MGi.ofW (cc := cX2_addToFloor) (nL := 5) (ret := (some .int)) (by decide) rfl hi ?_
  intro p e s m args below meth c hx hb hr hml hlocks hown hB hK hP hA hAd hS
  have hown : s.vm.findClass RX2 = some m.cls := hown
  have hl := lv_entry ([.ref (ad 1), .int a0, .int a1, .int a2] : List Value) (n := 5) (Nat.le_of_ble_eq_true rfl)
  rw [lg_entry_eq]
  generalize (lg_sl ([.ref (ad 1), .int a0, .int a1, .int a2] : List Value) ++ List.replicate (5 - (lg_sl ([.ref (ad 1), .int a0, .int a1, .int a2] : List Value)).length) Slot.unset).toArray = ls at hl ⊢
  have hl : lv_has ls 5 [(0, .ref (ad 1)), (1, .int a0), (2, .int a1), (3, .int a2)] := hl
  generalize hQ : MQ below (Qgi D 24 ad (EW ad cI) r σr s.heap.size) _ s 0 0 (AG 24 ad s.heap.size) = Q
  have hQ := hQ.symm
  obtain ⟨R, hR, hRf, hRl⟩ : ∃ R : Room, R = ({ frames := 1, cells := 0, slots := 0, locals := 21 } : Room) ∧ 1 ≤ R.frames ∧ 21 ≤ R.locals := ⟨_, rfl, Nat.le_refl _, Nat.le_refl _⟩
  rw [← hR]
  unfold f_X2_addToFloor at hf
  refine lv_iload_n hx hb dX2_addToFloor_0 rfl (lv_at hl 1 rfl) ?_
  refine lv_iload_n hx hb dX2_addToFloor_1 rfl (lv_at hl 2 rfl) ?_
  obtain ⟨v1, hv, hf⟩ := bd_e hf
  refine g_cNi0 ⟨⟨hx, hb, hml, hown, hB⟩, hK, hi, hA, hAd, hP, hS⟩ (c_X5_goodsAt hv) cal_X5_goodsAt kN_X2_51 ⟨Nat.le_trans (Nat.le_of_ble_eq_true rfl) hRf, Nat.le_trans (Nat.le_of_ble_eq_true rfl) hRl⟩ rfl hl.1 (Nat.le_of_ble_eq_true rfl) rfl dX2_addToFloor_2 ⟨Nat.zero_le _, Nat.zero_le _⟩ (fun H locs hP hS => ?_)
  refine lv_istore (lv' := [(4, .int v1), (0, .ref (ad 1)), (1, .int a0), (2, .int a1), (3, .int a2)]) hx hb dX2_addToFloor_5 hl (by decide) rfl (fun ls hl => ?_)
  refine lv_aload_n hx hb dX2_addToFloor_7 rfl (lv_at hl 1 rfl) ?_
  refine g_get (v := .ref (ad 6)) hx hb hB hown hK hP 1 (by decide) rfl rfl kU_X2 4 (by decide) kF_X2_24 rfl rfl dX2_addToFloor_8 ?_
  refine lv_iload hx hb dX2_addToFloor_11 (lv_at hl 0 rfl) ?_
  refine lv_dup2_11 hx hb dX2_addToFloor_13 rfl rfl ?_
  obtain ⟨hin, hf⟩ := gd_e hf
  refine g_iald hx hb hK hP 6 40 (by decide) rfl hin dX2_addToFloor_14 ?_
  refine lv_iload_n hx hb dX2_addToFloor_15 rfl (lv_at hl 4 rfl) ?_
  refine lv_iadd hx hb dX2_addToFloor_16 ?_
  obtain ⟨hin, hf⟩ := gd_e hf
  obtain ⟨σ2, eσ2, hf⟩ := stp_e hf
  refine g_iast (σ1 := σ2) hx hb hK hP hi hAd hS 6 40 (by decide) (fun _ => rfl) hin dX2_addToFloor_17 eσ2 (fun H locs hP hS => ?_)
  refine lv_aload_n hx hb dX2_addToFloor_18 rfl (lv_at hl 1 rfl) ?_
  refine g_get (v := .ref (ad 6)) hx hb hB hown hK hP 1 (by decide) rfl rfl kU_X2 4 (by decide) kF_X2_24 rfl rfl dX2_addToFloor_19 ?_
  refine lv_iload hx hb dX2_addToFloor_22 (lv_at hl 0 rfl) ?_
  obtain ⟨hin, hf⟩ := gd_e hf
  refine g_iald hx hb hK hP 6 40 (by decide) rfl hin dX2_addToFloor_24 ?_
  obtain ⟨h1, h2⟩ := rt2 hf
  rw [hQ]
  exact g_iret hx hb hr hlocks hP hS h1 h2 dX2_addToFloor_25
def L_X2_sumOfTills_4 : Nat → (Int32 → Option (Int32)) → Mem → Int32 → Int32 → Option (Int32)
  | 0, _, _, _, _ => none
  | n + 1, k, σ3, x1, x2 =>
    if 8 ≤ x2 then (
    k x1)
    else (
    bd (f_X2_hasShop σ3 x2) fun v7 =>
    jn (fun (x8 : Int32) =>
    L_X2_sumOfTills_4 n k σ3 x8 (x2 + 1)) fun (J9 : Int32 → Option (Int32)) =>
    if v7 = 0 then (
    J9 x1)
    else (
    gd x2 8 <|
    J9 (x1 + (σ3 3 x2.toNatClampNeg))))
def f_X2_sumOfTills (σ : Mem) : Option (Int32) :=
L_X2_sumOfTills_4 FU (fun (x5 : Int32) =>
some x5) σ 0 0
set_option maxHeartbeats 4000000 in
set_option maxRecDepth 100000 in
theorem c_X2_sumOfTills {l : Launch} {D : va_G} {cI cJ : ClassId} {ad : Nat → Nat} {σ : Mem} {r : Int32}  (hi : injG 24 ad) (hf : f_X2_sumOfTills σ = some r) : MGi l yX2_sumOfTills (Cond.code yX2_sumOfTills cX2_sumOfTills 3 (some .int) :: BIG) 1 21 D cI cJ 24 ad (EW ad cI) [.ref (ad 1)] σ σ r := by
  refine MGi.ofW (cc := cX2_sumOfTills) (nL := 3) (ret := (some .int)) (by decide) rfl hi ?_
  intro p e s m args below meth c hx hb hr hml hlocks hown hB hK hP hA hAd hS
  have hown : s.vm.findClass RX2 = some m.cls := hown
  have hl := lv_entry ([.ref (ad 1)] : List Value) (n := 3) (Nat.le_of_ble_eq_true rfl)
  rw [lg_entry_eq]
  generalize (lg_sl ([.ref (ad 1)] : List Value) ++ List.replicate (3 - (lg_sl ([.ref (ad 1)] : List Value)).length) Slot.unset).toArray = ls at hl ⊢
  have hl : lv_has ls 3 [(0, .ref (ad 1))] := hl
  generalize hQ : MQ below (Qgi D 24 ad (EW ad cI) r σ s.heap.size) _ s 0 0 (AG 24 ad s.heap.size) = Q
  have hQ := hQ.symm
  obtain ⟨R, hR, hRf, hRl⟩ : ∃ R : Room, R = ({ frames := 1, cells := 0, slots := 0, locals := 21 } : Room) ∧ 1 ≤ R.frames ∧ 21 ≤ R.locals := ⟨_, rfl, Nat.le_refl _, Nat.le_refl _⟩
  rw [← hR]
  unfold f_X2_sumOfTills at hf
  refine lv_iconst (v := 0) hx hb dX2_sumOfTills_0 (by decide) ?_
  refine lv_istore_n (lv' := [(1, .int 0), (0, .ref (ad 1))]) hx hb dX2_sumOfTills_1 rfl hl (by decide) rfl (fun ls hl => ?_)
  refine lv_iconst (v := 0) hx hb dX2_sumOfTills_2 (by decide) ?_
  refine lv_istore_n (lv' := [(2, .int 0), (1, .int 0), (0, .ref (ad 1))]) hx hb dX2_sumOfTills_3 rfl hl (by decide) rfl (fun ls hl => ?_)
  obtain ⟨K4, eK4, hf⟩ := lp_e1 (b := fun K => L_X2_sumOfTills_4 FU K σ 0 0) hf
  replace hf : L_X2_sumOfTills_4 FU K4 σ 0 0 = some r := hf
  have hKK4 : ∀ (x5 : Int32) (H : Heap) (locs : List Loc) (ls : Array Slot), K4 x5 = some r → va_P D vwCl (wsG 24 ad (EW ad cI) σ) H → va_S (AG 24 ad s.heap.size) s.heap H locs → lv_has ls 3 [(1, .int x5)] → W p l e R s m args below meth c H locs 0 0 Q (F0 m 33 ls []) := by
    intro x5 H locs ls hf hP hS hl
    rw [eK4] at hf
    refine lv_iload_n hx hb dX2_sumOfTills_33 rfl (lv_at hl 0 rfl) ?_
    have h1 := rt1 hf
    rw [hQ]
    exact g_iret hx hb hr hlocks hP hS h1 rfl dX2_sumOfTills_34
  have hL_X2_sumOfTills_4 : ∀ (n : Nat) (x1 : Int32) (x2 : Int32) (H : Heap) (locs : List Loc) (ls : Array Slot), L_X2_sumOfTills_4 n K4 σ x1 x2 = some r → va_P D vwCl (wsG 24 ad (EW ad cI) σ) H → va_S (AG 24 ad s.heap.size) s.heap H locs → lv_has ls 3 [(0, .ref (ad 1)), (1, .int x1), (2, .int x2)] → W p l e R s m args below meth c H locs 0 0 Q (F0 m 4 ls []) := by
    intro n
    induction n with
    | zero => intro x1 x2 H locs ls hf; cases hf
    | succ n ih =>
      intro x1 x2 H locs ls hf hP hS hl
      rw [L_X2_sumOfTills_4] at hf
      refine lv_iload_n hx hb dX2_sumOfTills_4 rfl (lv_at hl 2 rfl) ?_
      refine lv_bipush (v := 8) hx hb dX2_sumOfTills_5 (by decide) ?_
      refine lv_icmp_ge (tgt := 33) hx hb dX2_sumOfTills_7 (by decide) (fun q6 => ?_) (fun q6 => ?_)
      · rw [if_pos q6] at hf
        exact hKK4 x1 _ _ ls hf hP hS (lv_sub hl [1] rfl)
      · rw [if_neg q6] at hf
        refine lv_aload_n hx hb dX2_sumOfTills_10 rfl (lv_at hl 0 rfl) ?_
        refine lv_iload_n hx hb dX2_sumOfTills_11 rfl (lv_at hl 2 rfl) ?_
        obtain ⟨v7, hv, hf⟩ := bd_e hf
        refine g_cViS (k0 := 1) ⟨⟨hx, hb, hml, hown, hB⟩, hK, hi, hA, hAd, hP, hS⟩ (c_X2_hasShop hi hv) cal_X2_hasShop kM_X2_54 ⟨Nat.le_trans (Nat.le_of_ble_eq_true rfl) hRf, Nat.le_trans (Nat.le_of_ble_eq_true rfl) hRl⟩ (by decide) rfl rfl rfl hl.1 (Nat.le_of_ble_eq_true rfl) rfl dX2_sumOfTills_12 ⟨Nat.zero_le _, Nat.zero_le _⟩ (fun H locs hP hS => ?_)
        obtain ⟨J9, eJ9, hf⟩ := jn_e1 hf
        have hJ9 : ∀ (x8 : Int32) (H : Heap) (locs : List Loc) (ls : Array Slot), J9 x8 = some r → va_P D vwCl (wsG 24 ad (EW ad cI) σ) H → va_S (AG 24 ad s.heap.size) s.heap H locs → lv_has ls 3 [(0, .ref (ad 1)), (1, .int x8), (2, .int x2)] → W p l e R s m args below meth c H locs 0 0 Q (F0 m 27 ls []) := by
          intro x8 H locs ls hf hP hS hl
          rw [eJ9] at hf
          refine lv_iinc (v := (x2 + 1)) (lv' := [(2, .int (x2 + 1)), (0, .ref (ad 1)), (1, .int x8)]) hx hb dX2_sumOfTills_27 hl (k := 2) rfl rfl (by decide) rfl (fun ls hl => ?_)
          refine lv_goto (tgt := 4) hx hb dX2_sumOfTills_30 (by decide) ?_
          exact ih x8 (x2 + 1) _ _ ls hf hP hS (lv_sub hl [1, 2, 0] rfl)
        refine lv_if_eq (tgt := 27) hx hb dX2_sumOfTills_15 (by decide) (fun q10 => ?_) (fun q10 => ?_)
        · rw [if_pos q10] at hf
          exact hJ9 x1 _ _ ls hf hP hS (lv_sub hl [0, 1, 2] rfl)
        · rw [if_neg q10] at hf
          refine lv_iload_n hx hb dX2_sumOfTills_18 rfl (lv_at hl 1 rfl) ?_
          refine lv_aload_n hx hb dX2_sumOfTills_19 rfl (lv_at hl 0 rfl) ?_
          refine g_get (v := .ref (ad 3)) hx hb hB hown hK hP 1 (by decide) rfl rfl kU_X2 1 (by decide) kF_X2_15 rfl rfl dX2_sumOfTills_20 ?_
          refine lv_iload_n hx hb dX2_sumOfTills_23 rfl (lv_at hl 2 rfl) ?_
          obtain ⟨hin, hf⟩ := gd_e hf
          refine g_iald hx hb hK hP 3 8 (by decide) rfl hin dX2_sumOfTills_24 ?_
          refine lv_iadd hx hb dX2_sumOfTills_25 ?_
          refine lv_istore_n (lv' := [(1, .int (x1 + (σ 3 x2.toNatClampNeg))), (0, .ref (ad 1)), (2, .int x2)]) hx hb dX2_sumOfTills_26 rfl hl (by decide) rfl (fun ls hl => ?_)
          exact hJ9 (x1 + (σ 3 x2.toNatClampNeg)) _ _ ls hf hP hS (lv_sub hl [1, 0, 2] rfl)
  exact hL_X2_sumOfTills_4 FU 0 0 _ _ ls hf hP hS (lv_sub hl [2, 1, 0] rfl)
def L_X2_sumOfGoods_4 : Nat → (Int32 → Option (Int32)) → Mem → Int32 → Int32 → Int32 → Option (Int32)
  | 0, _, _, _, _, _ => none
  | n + 1, k, σ4, x1, x2, x3 =>
    if 8 ≤ x3 then (
    k x2)
    else (
    bd (f_X5_goodsAt x3 x1) fun v8 =>
    gd v8 40 <|
    bd (f_X5_goodsAt x3 x1) fun v9 =>
    gd v9 40 <|
    L_X2_sumOfGoods_4 n k σ4 x1 (x2 + ((σ4 6 v8.toNatClampNeg) + (σ4 5 v9.toNatClampNeg))) (x3 + 1))
def f_X2_sumOfGoods (σ : Mem) (a0 : Int32) : Option (Int32) :=
L_X2_sumOfGoods_4 FU (fun (x6 : Int32) =>
some x6) σ a0 0 0
set_option maxHeartbeats 4000000 in
set_option maxRecDepth 100000 in
theorem c_X2_sumOfGoods {l : Launch} {D : va_G} {cI cJ : ClassId} {ad : Nat → Nat} {σ : Mem} {a0 : Int32} {r : Int32}  (hi : injG 24 ad) (hf : f_X2_sumOfGoods σ a0 = some r) : MGi l yX2_sumOfGoods (Cond.code yX2_sumOfGoods cX2_sumOfGoods 4 (some .int) :: BIG) 1 21 D cI cJ 24 ad (EW ad cI) [.ref (ad 1), .int a0] σ σ r := by
  refine MGi.ofW (cc := cX2_sumOfGoods) (nL := 4) (ret := (some .int)) (by decide) rfl hi ?_
  intro p e s m args below meth c hx hb hr hml hlocks hown hB hK hP hA hAd hS
  have hown : s.vm.findClass RX2 = some m.cls := hown
  have hl := lv_entry ([.ref (ad 1), .int a0] : List Value) (n := 4) (Nat.le_of_ble_eq_true rfl)
  rw [lg_entry_eq]
  generalize (lg_sl ([.ref (ad 1), .int a0] : List Value) ++ List.replicate (4 - (lg_sl ([.ref (ad 1), .int a0] : List Value)).length) Slot.unset).toArray = ls at hl ⊢
  have hl : lv_has ls 4 [(0, .ref (ad 1)), (1, .int a0)] := hl
  generalize hQ : MQ below (Qgi D 24 ad (EW ad cI) r σ s.heap.size) _ s 0 0 (AG 24 ad s.heap.size) = Q
  have hQ := hQ.symm
  obtain ⟨R, hR, hRf, hRl⟩ : ∃ R : Room, R = ({ frames := 1, cells := 0, slots := 0, locals := 21 } : Room) ∧ 1 ≤ R.frames ∧ 21 ≤ R.locals := ⟨_, rfl, Nat.le_refl _, Nat.le_refl _⟩
  rw [← hR]
  unfold f_X2_sumOfGoods at hf
  refine lv_iconst (v := 0) hx hb dX2_sumOfGoods_0 (by decide) ?_
  refine lv_istore_n (lv' := [(2, .int 0), (0, .ref (ad 1)), (1, .int a0)]) hx hb dX2_sumOfGoods_1 rfl hl (by decide) rfl (fun ls hl => ?_)
  refine lv_iconst (v := 0) hx hb dX2_sumOfGoods_2 (by decide) ?_
  refine lv_istore_n (lv' := [(3, .int 0), (2, .int 0), (0, .ref (ad 1)), (1, .int a0)]) hx hb dX2_sumOfGoods_3 rfl hl (by decide) rfl (fun ls hl => ?_)
  obtain ⟨K5, eK5, hf⟩ := lp_e1 (b := fun K => L_X2_sumOfGoods_4 FU K σ a0 0 0) hf
  replace hf : L_X2_sumOfGoods_4 FU K5 σ a0 0 0 = some r := hf
  have hKK5 : ∀ (x6 : Int32) (H : Heap) (locs : List Loc) (ls : Array Slot), K5 x6 = some r → va_P D vwCl (wsG 24 ad (EW ad cI) σ) H → va_S (AG 24 ad s.heap.size) s.heap H locs → lv_has ls 4 [(2, .int x6)] → W p l e R s m args below meth c H locs 0 0 Q (F0 m 40 ls []) := by
    intro x6 H locs ls hf hP hS hl
    rw [eK5] at hf
    refine lv_iload_n hx hb dX2_sumOfGoods_40 rfl (lv_at hl 0 rfl) ?_
    have h1 := rt1 hf
    rw [hQ]
    exact g_iret hx hb hr hlocks hP hS h1 rfl dX2_sumOfGoods_41
  have hL_X2_sumOfGoods_4 : ∀ (n : Nat) (x2 : Int32) (x3 : Int32) (H : Heap) (locs : List Loc) (ls : Array Slot), L_X2_sumOfGoods_4 n K5 σ a0 x2 x3 = some r → va_P D vwCl (wsG 24 ad (EW ad cI) σ) H → va_S (AG 24 ad s.heap.size) s.heap H locs → lv_has ls 4 [(0, .ref (ad 1)), (1, .int a0), (2, .int x2), (3, .int x3)] → W p l e R s m args below meth c H locs 0 0 Q (F0 m 4 ls []) := by
    intro n
    induction n with
    | zero => intro x2 x3 H locs ls hf; cases hf
    | succ n ih =>
      intro x2 x3 H locs ls hf hP hS hl
      rw [L_X2_sumOfGoods_4] at hf
      refine lv_iload_n hx hb dX2_sumOfGoods_4 rfl (lv_at hl 3 rfl) ?_
      refine lv_bipush (v := 8) hx hb dX2_sumOfGoods_5 (by decide) ?_
      refine lv_icmp_ge (tgt := 40) hx hb dX2_sumOfGoods_7 (by decide) (fun q7 => ?_) (fun q7 => ?_)
      · rw [if_pos q7] at hf
        exact hKK5 x2 _ _ ls hf hP hS (lv_sub hl [2] rfl)
      · rw [if_neg q7] at hf
        refine lv_iload_n hx hb dX2_sumOfGoods_10 rfl (lv_at hl 2 rfl) ?_
        refine lv_aload_n hx hb dX2_sumOfGoods_11 rfl (lv_at hl 0 rfl) ?_
        refine g_get (v := .ref (ad 6)) hx hb hB hown hK hP 1 (by decide) rfl rfl kU_X2 4 (by decide) kF_X2_24 rfl rfl dX2_sumOfGoods_12 ?_
        refine lv_iload_n hx hb dX2_sumOfGoods_15 rfl (lv_at hl 3 rfl) ?_
        refine lv_iload_n hx hb dX2_sumOfGoods_16 rfl (lv_at hl 1 rfl) ?_
        obtain ⟨v8, hv, hf⟩ := bd_e hf
        refine g_cNi0 ⟨⟨hx, hb, hml, hown, hB⟩, hK, hi, hA, hAd, hP, hS⟩ (c_X5_goodsAt hv) cal_X5_goodsAt kN_X2_51 ⟨Nat.le_trans (Nat.le_of_ble_eq_true rfl) hRf, Nat.le_trans (Nat.le_of_ble_eq_true rfl) hRl⟩ rfl hl.1 (Nat.le_of_ble_eq_true rfl) rfl dX2_sumOfGoods_17 ⟨Nat.zero_le _, Nat.zero_le _⟩ (fun H locs hP hS => ?_)
        obtain ⟨hin, hf⟩ := gd_e hf
        refine g_iald hx hb hK hP 6 40 (by decide) rfl hin dX2_sumOfGoods_20 ?_
        refine lv_aload_n hx hb dX2_sumOfGoods_21 rfl (lv_at hl 0 rfl) ?_
        refine g_get (v := .ref (ad 5)) hx hb hB hown hK hP 1 (by decide) rfl rfl kU_X2 3 (by decide) kF_X2_21 rfl rfl dX2_sumOfGoods_22 ?_
        refine lv_iload_n hx hb dX2_sumOfGoods_25 rfl (lv_at hl 3 rfl) ?_
        refine lv_iload_n hx hb dX2_sumOfGoods_26 rfl (lv_at hl 1 rfl) ?_
        obtain ⟨v9, hv, hf⟩ := bd_e hf
        refine g_cNi0 ⟨⟨hx, hb, hml, hown, hB⟩, hK, hi, hA, hAd, hP, hS⟩ (c_X5_goodsAt hv) cal_X5_goodsAt kN_X2_51 ⟨Nat.le_trans (Nat.le_of_ble_eq_true rfl) hRf, Nat.le_trans (Nat.le_of_ble_eq_true rfl) hRl⟩ rfl hl.1 (Nat.le_of_ble_eq_true rfl) rfl dX2_sumOfGoods_27 ⟨Nat.zero_le _, Nat.zero_le _⟩ (fun H locs hP hS => ?_)
        obtain ⟨hin, hf⟩ := gd_e hf
        refine g_iald hx hb hK hP 5 40 (by decide) rfl hin dX2_sumOfGoods_30 ?_
        refine lv_iadd hx hb dX2_sumOfGoods_31 ?_
        refine lv_iadd hx hb dX2_sumOfGoods_32 ?_
        refine lv_istore_n (lv' := [(2, .int (x2 + ((σ 6 v8.toNatClampNeg) + (σ 5 v9.toNatClampNeg)))), (0, .ref (ad 1)), (1, .int a0), (3, .int x3)]) hx hb dX2_sumOfGoods_33 rfl hl (by decide) rfl (fun ls hl => ?_)
        refine lv_iinc (v := (x3 + 1)) (lv' := [(3, .int (x3 + 1)), (2, .int (x2 + ((σ 6 v8.toNatClampNeg) + (σ 5 v9.toNatClampNeg)))), (0, .ref (ad 1)), (1, .int a0)]) hx hb dX2_sumOfGoods_34 hl (k := 3) rfl rfl (by decide) rfl (fun ls hl => ?_)
        refine lv_goto (tgt := 4) hx hb dX2_sumOfGoods_37 (by decide) ?_
        exact ih (x2 + ((σ 6 v8.toNatClampNeg) + (σ 5 v9.toNatClampNeg))) (x3 + 1) _ _ ls hf hP hS (lv_sub hl [2, 3, 1, 0] rfl)
  exact hL_X2_sumOfGoods_4 FU 0 0 _ _ ls hf hP hS (lv_sub hl [2, 3, 1, 0] rfl)
def f_X3_clear (σ : Mem) : Option (Mem) :=
stp (mu σ 18 0 0) fun σ1 =>
some σ1
set_option maxHeartbeats 4000000 in
set_option maxRecDepth 100000 in
theorem c_X3_clear {l : Launch} {D : va_G} {cI cJ : ClassId} {ad : Nat → Nat} {σ : Mem} {σr : Mem}  (hi : injG 24 ad) (hf : f_X3_clear σ = some σr) : MGv l yX3_clear (Cond.code yX3_clear cX3_clear 1 none :: BIG) 0 0 D cI cJ 24 ad (EW ad cI) [.ref (ad 18)] σ σr := by
  refine MGv.ofW (cc := cX3_clear) (nL := 1) (ret := none) (by decide) rfl hi ?_
  intro p e s m args below meth c hx hb hr hml hlocks hown hB hK hP hA hAd hS
  have hown : s.vm.findClass RX3 = some m.cls := hown
  have hl := lv_entry ([.ref (ad 18)] : List Value) (n := 1) (Nat.le_of_ble_eq_true rfl)
  rw [lg_entry_eq]
  generalize (lg_sl ([.ref (ad 18)] : List Value) ++ List.replicate (1 - (lg_sl ([.ref (ad 18)] : List Value)).length) Slot.unset).toArray = ls at hl ⊢
  have hl : lv_has ls 1 [(0, .ref (ad 18))] := hl
  generalize hQ : MQ below (Qgv D 24 ad (EW ad cI) σr s.heap.size) _ s 0 0 (AG 24 ad s.heap.size) = Q
  have hQ := hQ.symm
  obtain ⟨R, hR, hRf, hRl⟩ : ∃ R : Room, R = ({ frames := 0, cells := 0, slots := 0, locals := 0 } : Room) ∧ 0 ≤ R.frames ∧ 0 ≤ R.locals := ⟨_, rfl, Nat.le_refl _, Nat.le_refl _⟩
  rw [← hR]
  unfold f_X3_clear at hf
  refine lv_aload_n hx hb dX3_clear_0 rfl (lv_at hl 0 rfl) ?_
  refine lv_iconst (v := 0) hx hb dX3_clear_1 (by decide) ?_
  obtain ⟨σ1, eσ1, hf⟩ := stp_e hf
  refine g_put (σ1 := σ1) hx hb hB hown hK hP hi hAd hS 18 (by decide) (fun f => [.int (f 0), .ref (ad 19), .ref (ad 20), .ref (ad 21), .ref (ad 22), .ref (ad 23)]) (fun _ => rfl) rfl kU_X3 tyX3 tyX3_ok nmX3 0 (by decide) kF_X3_9 rfl (fun _ _ => rfl) (fun _ => Nat.le_of_ble_eq_true rfl) dX3_clear_2 eσ1 (fun H locs hP hS => ?_)
  have h2 := rt1 hf
  rw [hQ]
  exact g_vret hx hb hr hlocks hP hS h2 dX3_clear_5
def f_X3_add (σ : Mem) (a0 : Int32) : Option (Int32 × Mem) :=
gd (σ 18 0) 3 <| stp (mu σ 19 (σ 18 0).toNatClampNeg a0) fun σ1 =>
gd (σ 18 0) 3 <| stp (mu σ1 20 (σ 18 0).toNatClampNeg 0) fun σ2 =>
stp (mu σ2 18 0 ((σ2 18 0) + 1)) fun σ3 =>
some ((σ 18 0), σ3)
set_option maxHeartbeats 4000000 in
set_option maxRecDepth 100000 in
theorem c_X3_add {l : Launch} {D : va_G} {cI cJ : ClassId} {ad : Nat → Nat} {σ : Mem} {a0 : Int32} {r : Int32} {σr : Mem}  (hi : injG 24 ad) (hf : f_X3_add σ a0 = some (r, σr)) : MGi l yX3_add (Cond.code yX3_add cX3_add 3 (some .int) :: BIG) 0 0 D cI cJ 24 ad (EW ad cI) [.ref (ad 18), .int a0] σ σr r := by
  refine MGi.ofW (cc := cX3_add) (nL := 3) (ret := (some .int)) (by decide) rfl hi ?_
  intro p e s m args below meth c hx hb hr hml hlocks hown hB hK hP hA hAd hS
  have hown : s.vm.findClass RX3 = some m.cls := hown
  have hl := lv_entry ([.ref (ad 18), .int a0] : List Value) (n := 3) (Nat.le_of_ble_eq_true rfl)
  rw [lg_entry_eq]
  generalize (lg_sl ([.ref (ad 18), .int a0] : List Value) ++ List.replicate (3 - (lg_sl ([.ref (ad 18), .int a0] : List Value)).length) Slot.unset).toArray = ls at hl ⊢
  have hl : lv_has ls 3 [(0, .ref (ad 18)), (1, .int a0)] := hl
  generalize hQ : MQ below (Qgi D 24 ad (EW ad cI) r σr s.heap.size) _ s 0 0 (AG 24 ad s.heap.size) = Q
  have hQ := hQ.symm
  obtain ⟨R, hR, hRf, hRl⟩ : ∃ R : Room, R = ({ frames := 0, cells := 0, slots := 0, locals := 0 } : Room) ∧ 0 ≤ R.frames ∧ 0 ≤ R.locals := ⟨_, rfl, Nat.le_refl _, Nat.le_refl _⟩
  rw [← hR]
  unfold f_X3_add at hf
  refine lv_aload_n hx hb dX3_add_0 rfl (lv_at hl 0 rfl) ?_
  refine g_get (v := .int (σ 18 0)) hx hb hB hown hK hP 18 (by decide) rfl rfl kU_X3 0 (by decide) kF_X3_9 rfl rfl dX3_add_1 ?_
  refine lv_istore_n (lv' := [(2, .int (σ 18 0)), (0, .ref (ad 18)), (1, .int a0)]) hx hb dX3_add_4 rfl hl (by decide) rfl (fun ls hl => ?_)
  refine lv_aload_n hx hb dX3_add_5 rfl (lv_at hl 1 rfl) ?_
  refine g_get (v := .ref (ad 19)) hx hb hB hown hK hP 18 (by decide) rfl rfl kU_X3 1 (by decide) kF_X3_15 rfl rfl dX3_add_6 ?_
  refine lv_iload_n hx hb dX3_add_9 rfl (lv_at hl 0 rfl) ?_
  refine lv_iload_n hx hb dX3_add_10 rfl (lv_at hl 2 rfl) ?_
  obtain ⟨hin, hf⟩ := gd_e hf
  obtain ⟨σ1, eσ1, hf⟩ := stp_e hf
  refine g_iast (σ1 := σ1) hx hb hK hP hi hAd hS 19 3 (by decide) (fun _ => rfl) hin dX3_add_11 eσ1 (fun H locs hP hS => ?_)
  refine lv_aload_n hx hb dX3_add_12 rfl (lv_at hl 1 rfl) ?_
  refine g_get (v := .ref (ad 20)) hx hb hB hown hK hP 18 (by decide) rfl rfl kU_X3 2 (by decide) kF_X3_19 rfl rfl dX3_add_13 ?_
  refine lv_iload_n hx hb dX3_add_16 rfl (lv_at hl 0 rfl) ?_
  refine lv_iconst (v := 0) hx hb dX3_add_17 (by decide) ?_
  obtain ⟨hin, hf⟩ := gd_e hf
  obtain ⟨σ2, eσ2, hf⟩ := stp_e hf
  refine g_iast (σ1 := σ2) hx hb hK hP hi hAd hS 20 3 (by decide) (fun _ => rfl) hin dX3_add_18 eσ2 (fun H locs hP hS => ?_)
  refine lv_aload_n hx hb dX3_add_19 rfl (lv_at hl 1 rfl) ?_
  refine lv_dup hx hb dX3_add_20 rfl ?_
  refine g_get (v := .int (σ2 18 0)) hx hb hB hown hK hP 18 (by decide) rfl rfl kU_X3 0 (by decide) kF_X3_9 rfl rfl dX3_add_21 ?_
  refine lv_iconst (v := 1) hx hb dX3_add_24 (by decide) ?_
  refine lv_iadd hx hb dX3_add_25 ?_
  obtain ⟨σ3, eσ3, hf⟩ := stp_e hf
  refine g_put (σ1 := σ3) hx hb hB hown hK hP hi hAd hS 18 (by decide) (fun f => [.int (f 0), .ref (ad 19), .ref (ad 20), .ref (ad 21), .ref (ad 22), .ref (ad 23)]) (fun _ => rfl) rfl kU_X3 tyX3 tyX3_ok nmX3 0 (by decide) kF_X3_9 rfl (fun _ _ => rfl) (fun _ => Nat.le_of_ble_eq_true rfl) dX3_add_26 eσ3 (fun H locs hP hS => ?_)
  refine lv_iload_n hx hb dX3_add_29 rfl (lv_at hl 0 rfl) ?_
  obtain ⟨h1, h2⟩ := rt2 hf
  rw [hQ]
  exact g_iret hx hb hr hlocks hP hS h1 h2 dX3_add_30
def f_X3_addStage (σ : Mem) (a0 a1 a2 a3 : Int32) : Option (Int32 × Mem) :=
gd a0 3 <|
bd (f_X5_stageAt a0 (σ 20 a0.toNatClampNeg)) fun v1 =>
gd v1 12 <| stp (mu σ 21 v1.toNatClampNeg a1) fun σ2 =>
gd v1 12 <| stp (mu σ2 22 v1.toNatClampNeg a2) fun σ3 =>
gd v1 12 <| stp (mu σ3 23 v1.toNatClampNeg a3) fun σ4 =>
gd a0 3 <|
gd a0 3 <| stp (mu σ4 20 a0.toNatClampNeg ((σ4 20 a0.toNatClampNeg) + 1)) fun σ5 =>
gd a0 3 <|
some ((σ5 20 a0.toNatClampNeg), σ5)
set_option maxHeartbeats 4000000 in
set_option maxRecDepth 100000 in
theorem c_X3_addStage {l : Launch} {D : va_G} {cI cJ : ClassId} {ad : Nat → Nat} {σ : Mem} {a0 a1 a2 a3 : Int32} {r : Int32} {σr : Mem}  (hi : injG 24 ad) (hf : f_X3_addStage σ a0 a1 a2 a3 = some (r, σr)) : MGi l yX3_addStage (Cond.code yX3_addStage cX3_addStage 6 (some .int) :: BIG) 1 21 D cI cJ 24 ad (EW ad cI) [.ref (ad 18), .int a0, .int a1, .int a2, .int a3] σ σr r := by
  refine MGi.ofW (cc := cX3_addStage) (nL := 6) (ret := (some .int)) (by decide) rfl hi ?_
  intro p e s m args below meth c hx hb hr hml hlocks hown hB hK hP hA hAd hS
  have hown : s.vm.findClass RX3 = some m.cls := hown
  have hl := lv_entry ([.ref (ad 18), .int a0, .int a1, .int a2, .int a3] : List Value) (n := 6) (Nat.le_of_ble_eq_true rfl)
  rw [lg_entry_eq]
  generalize (lg_sl ([.ref (ad 18), .int a0, .int a1, .int a2, .int a3] : List Value) ++ List.replicate (6 - (lg_sl ([.ref (ad 18), .int a0, .int a1, .int a2, .int a3] : List Value)).length) Slot.unset).toArray = ls at hl ⊢
  have hl : lv_has ls 6 [(0, .ref (ad 18)), (1, .int a0), (2, .int a1), (3, .int a2), (4, .int a3)] := hl
  generalize hQ : MQ below (Qgi D 24 ad (EW ad cI) r σr s.heap.size) _ s 0 0 (AG 24 ad s.heap.size) = Q
  have hQ := hQ.symm
  obtain ⟨R, hR, hRf, hRl⟩ : ∃ R : Room, R = ({ frames := 1, cells := 0, slots := 0, locals := 21 } : Room) ∧ 1 ≤ R.frames ∧ 21 ≤ R.locals := ⟨_, rfl, Nat.le_refl _, Nat.le_refl _⟩
  rw [← hR]
  unfold f_X3_addStage at hf
  refine lv_iload_n hx hb dX3_addStage_0 rfl (lv_at hl 1 rfl) ?_
  refine lv_aload_n hx hb dX3_addStage_1 rfl (lv_at hl 0 rfl) ?_
  refine g_get (v := .ref (ad 20)) hx hb hB hown hK hP 18 (by decide) rfl rfl kU_X3 2 (by decide) kF_X3_19 rfl rfl dX3_addStage_2 ?_
  refine lv_iload_n hx hb dX3_addStage_5 rfl (lv_at hl 1 rfl) ?_
  obtain ⟨hin, hf⟩ := gd_e hf
  refine g_iald hx hb hK hP 20 3 (by decide) rfl hin dX3_addStage_6 ?_
  obtain ⟨v1, hv, hf⟩ := bd_e hf
  refine g_cNi0 ⟨⟨hx, hb, hml, hown, hB⟩, hK, hi, hA, hAd, hP, hS⟩ (c_X5_stageAt hv) cal_X5_stageAt kN_X3_31 ⟨Nat.le_trans (Nat.le_of_ble_eq_true rfl) hRf, Nat.le_trans (Nat.le_of_ble_eq_true rfl) hRl⟩ rfl hl.1 (Nat.le_of_ble_eq_true rfl) rfl dX3_addStage_7 ⟨Nat.zero_le _, Nat.zero_le _⟩ (fun H locs hP hS => ?_)
  refine lv_istore (lv' := [(5, .int v1), (0, .ref (ad 18)), (1, .int a0), (2, .int a1), (3, .int a2), (4, .int a3)]) hx hb dX3_addStage_10 hl (by decide) rfl (fun ls hl => ?_)
  refine lv_aload_n hx hb dX3_addStage_12 rfl (lv_at hl 1 rfl) ?_
  refine g_get (v := .ref (ad 21)) hx hb hB hown hK hP 18 (by decide) rfl rfl kU_X3 3 (by decide) kF_X3_22 rfl rfl dX3_addStage_13 ?_
  refine lv_iload hx hb dX3_addStage_16 (lv_at hl 0 rfl) ?_
  refine lv_iload_n hx hb dX3_addStage_18 rfl (lv_at hl 3 rfl) ?_
  obtain ⟨hin, hf⟩ := gd_e hf
  obtain ⟨σ2, eσ2, hf⟩ := stp_e hf
  refine g_iast (σ1 := σ2) hx hb hK hP hi hAd hS 21 12 (by decide) (fun _ => rfl) hin dX3_addStage_19 eσ2 (fun H locs hP hS => ?_)
  refine lv_aload_n hx hb dX3_addStage_20 rfl (lv_at hl 1 rfl) ?_
  refine g_get (v := .ref (ad 22)) hx hb hB hown hK hP 18 (by decide) rfl rfl kU_X3 4 (by decide) kF_X3_25 rfl rfl dX3_addStage_21 ?_
  refine lv_iload hx hb dX3_addStage_24 (lv_at hl 0 rfl) ?_
  refine lv_iload_n hx hb dX3_addStage_26 rfl (lv_at hl 4 rfl) ?_
  obtain ⟨hin, hf⟩ := gd_e hf
  obtain ⟨σ3, eσ3, hf⟩ := stp_e hf
  refine g_iast (σ1 := σ3) hx hb hK hP hi hAd hS 22 12 (by decide) (fun _ => rfl) hin dX3_addStage_27 eσ3 (fun H locs hP hS => ?_)
  refine lv_aload_n hx hb dX3_addStage_28 rfl (lv_at hl 1 rfl) ?_
  refine g_get (v := .ref (ad 23)) hx hb hB hown hK hP 18 (by decide) rfl rfl kU_X3 5 (by decide) kF_X3_28 rfl rfl dX3_addStage_29 ?_
  refine lv_iload hx hb dX3_addStage_32 (lv_at hl 0 rfl) ?_
  refine lv_iload hx hb dX3_addStage_34 (lv_at hl 5 rfl) ?_
  obtain ⟨hin, hf⟩ := gd_e hf
  obtain ⟨σ4, eσ4, hf⟩ := stp_e hf
  refine g_iast (σ1 := σ4) hx hb hK hP hi hAd hS 23 12 (by decide) (fun _ => rfl) hin dX3_addStage_36 eσ4 (fun H locs hP hS => ?_)
  refine lv_aload_n hx hb dX3_addStage_37 rfl (lv_at hl 1 rfl) ?_
  refine g_get (v := .ref (ad 20)) hx hb hB hown hK hP 18 (by decide) rfl rfl kU_X3 2 (by decide) kF_X3_19 rfl rfl dX3_addStage_38 ?_
  refine lv_iload_n hx hb dX3_addStage_41 rfl (lv_at hl 2 rfl) ?_
  refine lv_dup2_11 hx hb dX3_addStage_42 rfl rfl ?_
  obtain ⟨hin, hf⟩ := gd_e hf
  refine g_iald hx hb hK hP 20 3 (by decide) rfl hin dX3_addStage_43 ?_
  refine lv_iconst (v := 1) hx hb dX3_addStage_44 (by decide) ?_
  refine lv_iadd hx hb dX3_addStage_45 ?_
  obtain ⟨hin, hf⟩ := gd_e hf
  obtain ⟨σ5, eσ5, hf⟩ := stp_e hf
  refine g_iast (σ1 := σ5) hx hb hK hP hi hAd hS 20 3 (by decide) (fun _ => rfl) hin dX3_addStage_46 eσ5 (fun H locs hP hS => ?_)
  refine lv_aload_n hx hb dX3_addStage_47 rfl (lv_at hl 1 rfl) ?_
  refine g_get (v := .ref (ad 20)) hx hb hB hown hK hP 18 (by decide) rfl rfl kU_X3 2 (by decide) kF_X3_19 rfl rfl dX3_addStage_48 ?_
  refine lv_iload_n hx hb dX3_addStage_51 rfl (lv_at hl 2 rfl) ?_
  obtain ⟨hin, hf⟩ := gd_e hf
  refine g_iald hx hb hK hP 20 3 (by decide) rfl hin dX3_addStage_52 ?_
  obtain ⟨h1, h2⟩ := rt2 hf
  rw [hQ]
  exact g_iret hx hb hr hlocks hP hS h1 h2 dX3_addStage_53
