def f_X0_add (σ : Mem) (a0 a1 a2 a3 a4 : Int32) : Option (Mem) :=
if (σ 49 1) < 512 then (
gd ((σ 49 1) * 5) 2560 <| stp (mu σ 50 ((σ 49 1) * 5).toNatClampNeg a0) fun σ2 =>
gd (((σ 49 1) * 5) + 1) 2560 <| stp (mu σ2 50 (((σ 49 1) * 5) + 1).toNatClampNeg a1) fun σ3 =>
gd (((σ 49 1) * 5) + 2) 2560 <| stp (mu σ3 50 (((σ 49 1) * 5) + 2).toNatClampNeg a2) fun σ4 =>
gd (((σ 49 1) * 5) + 3) 2560 <| stp (mu σ4 50 (((σ 49 1) * 5) + 3).toNatClampNeg a3) fun σ5 =>
gd (((σ 49 1) * 5) + 4) 2560 <| stp (mu σ5 50 (((σ 49 1) * 5) + 4).toNatClampNeg a4) fun σ6 =>
stp (mu σ6 49 1 ((σ6 49 1) + 1)) fun σ7 =>
some σ7)
else (
some σ)
set_option maxHeartbeats 4000000 in
set_option maxRecDepth 100000 in
theorem c_X0_add {l : Launch} {D : va_G} {cI cJ : ClassId} {ad : Nat → Nat} {σ : Mem} {a0 a1 a2 a3 a4 : Int32} {σr : Mem}  (hi : injG 51 ad) (hf : f_X0_add σ a0 a1 a2 a3 a4 = some σr) : MGv l yX0_add (Cond.code yX0_add cX0_add 7 none :: BIG) 0 0 D cI cJ 51 ad (EX ad cI) [.ref (ad 49), .int a0, .int a1, .int a2, .int a3, .int a4] σ σr := by
  refine MGv.ofW (cc := cX0_add) (nL := 7) (ret := none) (by decide) rfl hi ?_
  intro p e s m args below meth c hx hb hr hml hlocks hown hB hK hP hA hAd hS
  have hown : s.vm.findClass RX0 = some m.cls := hown
  have hl := lv_entry ([.ref (ad 49), .int a0, .int a1, .int a2, .int a3, .int a4] : List Value) (n := 7) (Nat.le_of_ble_eq_true rfl)
  rw [lg_entry_eq]
  generalize (lg_sl ([.ref (ad 49), .int a0, .int a1, .int a2, .int a3, .int a4] : List Value) ++ List.replicate (7 - (lg_sl ([.ref (ad 49), .int a0, .int a1, .int a2, .int a3, .int a4] : List Value)).length) Slot.unset).toArray = ls at hl ⊢
  have hl : lv_has ls 7 [(0, .ref (ad 49)), (1, .int a0), (2, .int a1), (3, .int a2), (4, .int a3), (5, .int a4)] := hl
  generalize hQ : MQ below (Qgv D 51 ad (EX ad cI) σr s.heap.size) _ s 0 0 (AG 51 ad s.heap.size) = Q
  have hQ := hQ.symm
  obtain ⟨R, hR, hRf, hRl⟩ : ∃ R : Room, R = ({ frames := 0, cells := 0, slots := 0, locals := 0 } : Room) ∧ 0 ≤ R.frames ∧ 0 ≤ R.locals := ⟨_, rfl, Nat.le_refl _, Nat.le_refl _⟩
  rw [← hR]
  unfold f_X0_add at hf
  refine lv_aload_n hx hb dX0_add_0 rfl (lv_at hl 0 rfl) ?_
  refine g_get (v := .int (σ 49 1)) hx hb hB hown hK hP 49 (by decide) rfl rfl kU_X0 1 (by decide) kF_X0_13 rfl rfl dX0_add_1 ?_
  refine lv_sipush (v := 512) hx hb dX0_add_4 (by decide) ?_
  refine lv_icmp_lt (tgt := 11) hx hb dX0_add_7 (by decide) (fun q1 => ?_) (fun q1 => ?_)
  · rw [if_pos q1] at hf
    refine lv_aload_n hx hb dX0_add_11 rfl (lv_at hl 0 rfl) ?_
    refine g_get (v := .int (σ 49 1)) hx hb hB hown hK hP 49 (by decide) rfl rfl kU_X0 1 (by decide) kF_X0_13 rfl rfl dX0_add_12 ?_
    refine lv_iconst (v := 5) hx hb dX0_add_15 (by decide) ?_
    refine lv_imul hx hb dX0_add_16 ?_
    refine lv_istore (lv' := [(6, .int ((σ 49 1) * 5)), (0, .ref (ad 49)), (1, .int a0), (2, .int a1), (3, .int a2), (4, .int a3), (5, .int a4)]) hx hb dX0_add_17 hl (by decide) rfl (fun ls hl => ?_)
    refine lv_aload_n hx hb dX0_add_19 rfl (lv_at hl 1 rfl) ?_
    refine g_get (v := .ref (ad 50)) hx hb hB hown hK hP 49 (by decide) rfl rfl kU_X0 0 (by decide) kF_X0_9 rfl rfl dX0_add_20 ?_
    refine lv_iload hx hb dX0_add_23 (lv_at hl 0 rfl) ?_
    refine lv_iload_n hx hb dX0_add_25 rfl (lv_at hl 2 rfl) ?_
    obtain ⟨hin, hf⟩ := gd_e hf
    obtain ⟨σ2, eσ2, hf⟩ := stp_e hf
    refine g_iast (σ1 := σ2) hx hb hK hP hi hAd hS 50 2560 (by decide) (fun _ => rfl) hin dX0_add_26 eσ2 (fun H locs hP hS => ?_)
    refine lv_aload_n hx hb dX0_add_27 rfl (lv_at hl 1 rfl) ?_
    refine g_get (v := .ref (ad 50)) hx hb hB hown hK hP 49 (by decide) rfl rfl kU_X0 0 (by decide) kF_X0_9 rfl rfl dX0_add_28 ?_
    refine lv_iload hx hb dX0_add_31 (lv_at hl 0 rfl) ?_
    refine lv_iconst (v := 1) hx hb dX0_add_33 (by decide) ?_
    refine lv_iadd hx hb dX0_add_34 ?_
    refine lv_iload_n hx hb dX0_add_35 rfl (lv_at hl 3 rfl) ?_
    obtain ⟨hin, hf⟩ := gd_e hf
    obtain ⟨σ3, eσ3, hf⟩ := stp_e hf
    refine g_iast (σ1 := σ3) hx hb hK hP hi hAd hS 50 2560 (by decide) (fun _ => rfl) hin dX0_add_36 eσ3 (fun H locs hP hS => ?_)
    refine lv_aload_n hx hb dX0_add_37 rfl (lv_at hl 1 rfl) ?_
    refine g_get (v := .ref (ad 50)) hx hb hB hown hK hP 49 (by decide) rfl rfl kU_X0 0 (by decide) kF_X0_9 rfl rfl dX0_add_38 ?_
    refine lv_iload hx hb dX0_add_41 (lv_at hl 0 rfl) ?_
    refine lv_iconst (v := 2) hx hb dX0_add_43 (by decide) ?_
    refine lv_iadd hx hb dX0_add_44 ?_
    refine lv_iload_n hx hb dX0_add_45 rfl (lv_at hl 4 rfl) ?_
    obtain ⟨hin, hf⟩ := gd_e hf
    obtain ⟨σ4, eσ4, hf⟩ := stp_e hf
    refine g_iast (σ1 := σ4) hx hb hK hP hi hAd hS 50 2560 (by decide) (fun _ => rfl) hin dX0_add_46 eσ4 (fun H locs hP hS => ?_)
    refine lv_aload_n hx hb dX0_add_47 rfl (lv_at hl 1 rfl) ?_
    refine g_get (v := .ref (ad 50)) hx hb hB hown hK hP 49 (by decide) rfl rfl kU_X0 0 (by decide) kF_X0_9 rfl rfl dX0_add_48 ?_
    refine lv_iload hx hb dX0_add_51 (lv_at hl 0 rfl) ?_
    refine lv_iconst (v := 3) hx hb dX0_add_53 (by decide) ?_
    refine lv_iadd hx hb dX0_add_54 ?_
    refine lv_iload hx hb dX0_add_55 (lv_at hl 5 rfl) ?_
    obtain ⟨hin, hf⟩ := gd_e hf
    obtain ⟨σ5, eσ5, hf⟩ := stp_e hf
    refine g_iast (σ1 := σ5) hx hb hK hP hi hAd hS 50 2560 (by decide) (fun _ => rfl) hin dX0_add_57 eσ5 (fun H locs hP hS => ?_)
    refine lv_aload_n hx hb dX0_add_58 rfl (lv_at hl 1 rfl) ?_
    refine g_get (v := .ref (ad 50)) hx hb hB hown hK hP 49 (by decide) rfl rfl kU_X0 0 (by decide) kF_X0_9 rfl rfl dX0_add_59 ?_
    refine lv_iload hx hb dX0_add_62 (lv_at hl 0 rfl) ?_
    refine lv_iconst (v := 4) hx hb dX0_add_64 (by decide) ?_
    refine lv_iadd hx hb dX0_add_65 ?_
    refine lv_iload hx hb dX0_add_66 (lv_at hl 6 rfl) ?_
    obtain ⟨hin, hf⟩ := gd_e hf
    obtain ⟨σ6, eσ6, hf⟩ := stp_e hf
    refine g_iast (σ1 := σ6) hx hb hK hP hi hAd hS 50 2560 (by decide) (fun _ => rfl) hin dX0_add_68 eσ6 (fun H locs hP hS => ?_)
    refine lv_aload_n hx hb dX0_add_69 rfl (lv_at hl 1 rfl) ?_
    refine lv_dup hx hb dX0_add_70 rfl ?_
    refine g_get (v := .int (σ6 49 1)) hx hb hB hown hK hP 49 (by decide) rfl rfl kU_X0 1 (by decide) kF_X0_13 rfl rfl dX0_add_71 ?_
    refine lv_iconst (v := 1) hx hb dX0_add_74 (by decide) ?_
    refine lv_iadd hx hb dX0_add_75 ?_
    obtain ⟨σ7, eσ7, hf⟩ := stp_e hf
    refine g_put (σ1 := σ7) hx hb hB hown hK hP hi hAd hS 49 (by decide) (fun f => [.ref (ad 50), .int (f 1)]) (fun _ => rfl) rfl kU_X0 tyX0 tyX0_ok nmX0 1 (by decide) kF_X0_13 rfl (fun _ _ => rfl) (fun _ => Nat.le_of_ble_eq_true rfl) dX0_add_76 eσ7 (fun H locs hP hS => ?_)
    have h2 := rt1 hf
    rw [hQ]
    exact g_vret hx hb hr hlocks hP hS h2 dX0_add_79
  · rw [if_neg q1] at hf
    have h2 := rt1 hf
    rw [hQ]
    exact g_vret hx hb hr hlocks hP hS h2 dX0_add_10
def f_X5_needRoom (a0 : Int32) : Option (Nat × Int32) :=
jn (fun (_ : Unit) =>
some (1, 0)) fun (J1 : Unit → Option (Nat × Int32)) =>
if a0 < 0 then (
J1 ())
else (
if a0 < 8 then (
some (0, 0))
else (
J1 ()))
set_option maxHeartbeats 4000000 in
set_option maxRecDepth 100000 in
theorem c_X5_needRoom {l : Launch} {D : va_G} {cI cJ : ClassId} {ad : Nat → Nat} {E : Ent} {σ : Mem} {a0 : Int32} {ex : Nat} {r : Int32} (hflag : l.stackTraces = false) (hf : f_X5_needRoom a0 = some (ex, r)) : MGx l yX5_needRoom (Cond.code yX5_needRoom cX5_needRoom 1 none :: BIG) 6 90 D cI cJ 0 ad E [.int a0] σ σ ex (fun sz => Qgv D 0 ad E σ sz) := by
  refine MGx.ofW (cc := cX5_needRoom) (nL := 1) (ret := none) (by decide) rfl (fun i j h => absurd h (Nat.not_lt_zero i)) ?_
  intro p e R s m args below meth c Q hx hb hr hml hlocks hown hB hK hZ hP hA hAd hS hRf hRl hcell hout hQ0 hQ1
  have hown : s.vm.findClass RX5 = some m.cls := hown
  have hi : injG 0 ad := fun i j h => absurd h (Nat.not_lt_zero i)
  have hl := lv_entry ([.int a0] : List Value) (n := 1) (Nat.le_of_ble_eq_true rfl)
  rw [lg_entry_eq]
  generalize (lg_sl ([.int a0] : List Value) ++ List.replicate (1 - (lg_sl ([.int a0] : List Value)).length) Slot.unset).toArray = ls at hl ⊢
  have hl : lv_has ls 1 [(0, .int a0)] := hl
  unfold f_X5_needRoom at hf
  refine lv_iload_n hx hb dX5_needRoom_0 rfl (lv_at hl 0 rfl) ?_
  obtain ⟨J1, eJ1, hf⟩ := jn_e0 hf
  have hJ1 : ∀ (_ : Unit) (H : Heap) (locs : List Loc) (ls : Array Slot), J1 () = some (ex, r) → va_P D vwCl (wsG 0 ad E σ) H → va_S (AG 0 ad s.heap.size) s.heap H locs → lv_has ls 1 [] → W p l e R s m args below meth c H locs 0 0 Q (F0 m 10 ls []) := by
    intro _ H locs ls hf hP hS hl
    rw [eJ1] at hf
    obtain ⟨h0, -⟩ := rt2 hf
    rw [hQ1 (fun q => by rw [q] at h0; cases h0)]
    exact g_throw (text := "there is no such room") (e0 := 1) hx hb hflag hB hown hK hZ hP hS (hl.1.trans hml.symm) hlocks (hout (fun q => by rw [q] at h0; cases h0)) h0 rfl tt_X5_185_189 (by decide +kernel) dX5_needRoom_10 dX5_needRoom_13 dX5_needRoom_14 dX5_needRoom_16 dX5_needRoom_19 hRf hRl (hcell (fun q => by rw [q] at h0; cases h0)) (Nat.le_of_ble_eq_true rfl)
  refine lv_if_lt (tgt := 10) hx hb dX5_needRoom_1 (by decide) (fun q2 => ?_) (fun q2 => ?_)
  · rw [if_pos q2] at hf
    exact hJ1 () _ _ ls hf hP hS (lv_sub hl [] rfl)
  · rw [if_neg q2] at hf
    refine lv_iload_n hx hb dX5_needRoom_4 rfl (lv_at hl 0 rfl) ?_
    refine lv_bipush (v := 8) hx hb dX5_needRoom_5 (by decide) ?_
    refine lv_icmp_lt (tgt := 20) hx hb dX5_needRoom_7 (by decide) (fun q3 => ?_) (fun q3 => ?_)
    · rw [if_pos q3] at hf
      obtain ⟨h0, h1⟩ := rt2 hf
      rw [hQ0 h0.symm]
      exact g_vret hx hb hr hlocks hP hS rfl dX5_needRoom_20
    · rw [if_neg q3] at hf
      exact hJ1 () _ _ ls hf hP hS (lv_sub hl [] rfl)
def f_X5_needDirection (a0 : Int32) : Option (Nat × Int32) :=
jn (fun (_ : Unit) =>
some (1, 0)) fun (J1 : Unit → Option (Nat × Int32)) =>
if a0 < 0 then (
J1 ())
else (
if a0 < 4 then (
some (0, 0))
else (
J1 ()))
set_option maxHeartbeats 4000000 in
set_option maxRecDepth 100000 in
theorem c_X5_needDirection {l : Launch} {D : va_G} {cI cJ : ClassId} {ad : Nat → Nat} {E : Ent} {σ : Mem} {a0 : Int32} {ex : Nat} {r : Int32} (hflag : l.stackTraces = false) (hf : f_X5_needDirection a0 = some (ex, r)) : MGx l yX5_needDirection (Cond.code yX5_needDirection cX5_needDirection 1 none :: BIG) 6 90 D cI cJ 0 ad E [.int a0] σ σ ex (fun sz => Qgv D 0 ad E σ sz) := by
  refine MGx.ofW (cc := cX5_needDirection) (nL := 1) (ret := none) (by decide) rfl (fun i j h => absurd h (Nat.not_lt_zero i)) ?_
  intro p e R s m args below meth c Q hx hb hr hml hlocks hown hB hK hZ hP hA hAd hS hRf hRl hcell hout hQ0 hQ1
  have hown : s.vm.findClass RX5 = some m.cls := hown
  have hi : injG 0 ad := fun i j h => absurd h (Nat.not_lt_zero i)
  have hl := lv_entry ([.int a0] : List Value) (n := 1) (Nat.le_of_ble_eq_true rfl)
  rw [lg_entry_eq]
  generalize (lg_sl ([.int a0] : List Value) ++ List.replicate (1 - (lg_sl ([.int a0] : List Value)).length) Slot.unset).toArray = ls at hl ⊢
  have hl : lv_has ls 1 [(0, .int a0)] := hl
  unfold f_X5_needDirection at hf
  refine lv_iload_n hx hb dX5_needDirection_0 rfl (lv_at hl 0 rfl) ?_
  obtain ⟨J1, eJ1, hf⟩ := jn_e0 hf
  have hJ1 : ∀ (_ : Unit) (H : Heap) (locs : List Loc) (ls : Array Slot), J1 () = some (ex, r) → va_P D vwCl (wsG 0 ad E σ) H → va_S (AG 0 ad s.heap.size) s.heap H locs → lv_has ls 1 [] → W p l e R s m args below meth c H locs 0 0 Q (F0 m 9 ls []) := by
    intro _ H locs ls hf hP hS hl
    rw [eJ1] at hf
    obtain ⟨h0, -⟩ := rt2 hf
    rw [hQ1 (fun q => by rw [q] at h0; cases h0)]
    exact g_throw (text := "there is no such direction") (e0 := 1) hx hb hflag hB hown hK hZ hP hS (hl.1.trans hml.symm) hlocks (hout (fun q => by rw [q] at h0; cases h0)) h0 rfl tt_X5_185_189 (by decide +kernel) dX5_needDirection_9 dX5_needDirection_12 dX5_needDirection_13 dX5_needDirection_15 dX5_needDirection_18 hRf hRl (hcell (fun q => by rw [q] at h0; cases h0)) (Nat.le_of_ble_eq_true rfl)
  refine lv_if_lt (tgt := 9) hx hb dX5_needDirection_1 (by decide) (fun q2 => ?_) (fun q2 => ?_)
  · rw [if_pos q2] at hf
    exact hJ1 () _ _ ls hf hP hS (lv_sub hl [] rfl)
  · rw [if_neg q2] at hf
    refine lv_iload_n hx hb dX5_needDirection_4 rfl (lv_at hl 0 rfl) ?_
    refine lv_iconst (v := 4) hx hb dX5_needDirection_5 (by decide) ?_
    refine lv_icmp_lt (tgt := 19) hx hb dX5_needDirection_6 (by decide) (fun q3 => ?_) (fun q3 => ?_)
    · rw [if_pos q3] at hf
      obtain ⟨h0, h1⟩ := rt2 hf
      rw [hQ0 h0.symm]
      exact g_vret hx hb hr hlocks hP hS rfl dX5_needDirection_19
    · rw [if_neg q3] at hf
      exact hJ1 () _ _ ls hf hP hS (lv_sub hl [] rfl)
def f_X5_needKind (a0 : Int32) : Option (Nat × Int32) :=
jn (fun (_ : Unit) =>
some (1, 0)) fun (J1 : Unit → Option (Nat × Int32)) =>
if a0 < 0 then (
J1 ())
else (
if a0 < 5 then (
some (0, 0))
else (
J1 ()))
set_option maxHeartbeats 4000000 in
set_option maxRecDepth 100000 in
theorem c_X5_needKind {l : Launch} {D : va_G} {cI cJ : ClassId} {ad : Nat → Nat} {E : Ent} {σ : Mem} {a0 : Int32} {ex : Nat} {r : Int32} (hflag : l.stackTraces = false) (hf : f_X5_needKind a0 = some (ex, r)) : MGx l yX5_needKind (Cond.code yX5_needKind cX5_needKind 1 none :: BIG) 6 90 D cI cJ 0 ad E [.int a0] σ σ ex (fun sz => Qgv D 0 ad E σ sz) := by
  refine MGx.ofW (cc := cX5_needKind) (nL := 1) (ret := none) (by decide) rfl (fun i j h => absurd h (Nat.not_lt_zero i)) ?_
  intro p e R s m args below meth c Q hx hb hr hml hlocks hown hB hK hZ hP hA hAd hS hRf hRl hcell hout hQ0 hQ1
  have hown : s.vm.findClass RX5 = some m.cls := hown
  have hi : injG 0 ad := fun i j h => absurd h (Nat.not_lt_zero i)
  have hl := lv_entry ([.int a0] : List Value) (n := 1) (Nat.le_of_ble_eq_true rfl)
  rw [lg_entry_eq]
  generalize (lg_sl ([.int a0] : List Value) ++ List.replicate (1 - (lg_sl ([.int a0] : List Value)).length) Slot.unset).toArray = ls at hl ⊢
  have hl : lv_has ls 1 [(0, .int a0)] := hl
  unfold f_X5_needKind at hf
  refine lv_iload_n hx hb dX5_needKind_0 rfl (lv_at hl 0 rfl) ?_
  obtain ⟨J1, eJ1, hf⟩ := jn_e0 hf
  have hJ1 : ∀ (_ : Unit) (H : Heap) (locs : List Loc) (ls : Array Slot), J1 () = some (ex, r) → va_P D vwCl (wsG 0 ad E σ) H → va_S (AG 0 ad s.heap.size) s.heap H locs → lv_has ls 1 [] → W p l e R s m args below meth c H locs 0 0 Q (F0 m 9 ls []) := by
    intro _ H locs ls hf hP hS hl
    rw [eJ1] at hf
    obtain ⟨h0, -⟩ := rt2 hf
    rw [hQ1 (fun q => by rw [q] at h0; cases h0)]
    exact g_throw (text := "there is no such kind") (e0 := 1) hx hb hflag hB hown hK hZ hP hS (hl.1.trans hml.symm) hlocks (hout (fun q => by rw [q] at h0; cases h0)) h0 rfl tt_X5_185_189 (by decide +kernel) dX5_needKind_9 dX5_needKind_12 dX5_needKind_13 dX5_needKind_15 dX5_needKind_18 hRf hRl (hcell (fun q => by rw [q] at h0; cases h0)) (Nat.le_of_ble_eq_true rfl)
  refine lv_if_lt (tgt := 9) hx hb dX5_needKind_1 (by decide) (fun q2 => ?_) (fun q2 => ?_)
  · rw [if_pos q2] at hf
    exact hJ1 () _ _ ls hf hP hS (lv_sub hl [] rfl)
  · rw [if_neg q2] at hf
    refine lv_iload_n hx hb dX5_needKind_4 rfl (lv_at hl 0 rfl) ?_
    refine lv_iconst (v := 5) hx hb dX5_needKind_5 (by decide) ?_
    refine lv_icmp_lt (tgt := 19) hx hb dX5_needKind_6 (by decide) (fun q3 => ?_) (fun q3 => ?_)
    · rw [if_pos q3] at hf
      obtain ⟨h0, h1⟩ := rt2 hf
      rw [hQ0 h0.symm]
      exact g_vret hx hb hr hlocks hP hS rfl dX5_needKind_19
    · rw [if_neg q3] at hf
      exact hJ1 () _ _ ls hf hP hS (lv_sub hl [] rfl)
def f_X5_needRange (a0 a1 a2 : Int32) : Option (Nat × Int32) :=
jn (fun (_ : Unit) =>
some (2, 0)) fun (J1 : Unit → Option (Nat × Int32)) =>
if a0 < a1 then (
J1 ())
else (
if a0 ≤ a2 then (
some (0, 0))
else (
J1 ()))
set_option maxHeartbeats 4000000 in
set_option maxRecDepth 100000 in
theorem c_X5_needRange {l : Launch} {D : va_G} {cI cJ : ClassId} {ad : Nat → Nat} {E : Ent} {σ : Mem} {a0 a1 a2 : Int32} {ex : Nat} {r : Int32} (hflag : l.stackTraces = false) (hf : f_X5_needRange a0 a1 a2 = some (ex, r)) : MGx l yX5_needRange (Cond.code yX5_needRange cX5_needRange 3 none :: BIG) 6 90 D cI cJ 0 ad E [.int a0, .int a1, .int a2] σ σ ex (fun sz => Qgv D 0 ad E σ sz) := by
  refine MGx.ofW (cc := cX5_needRange) (nL := 3) (ret := none) (by decide) rfl (fun i j h => absurd h (Nat.not_lt_zero i)) ?_
  intro p e R s m args below meth c Q hx hb hr hml hlocks hown hB hK hZ hP hA hAd hS hRf hRl hcell hout hQ0 hQ1
  have hown : s.vm.findClass RX5 = some m.cls := hown
  have hi : injG 0 ad := fun i j h => absurd h (Nat.not_lt_zero i)
  have hl := lv_entry ([.int a0, .int a1, .int a2] : List Value) (n := 3) (Nat.le_of_ble_eq_true rfl)
  rw [lg_entry_eq]
  generalize (lg_sl ([.int a0, .int a1, .int a2] : List Value) ++ List.replicate (3 - (lg_sl ([.int a0, .int a1, .int a2] : List Value)).length) Slot.unset).toArray = ls at hl ⊢
  have hl : lv_has ls 3 [(0, .int a0), (1, .int a1), (2, .int a2)] := hl
  unfold f_X5_needRange at hf
  refine lv_iload_n hx hb dX5_needRange_0 rfl (lv_at hl 0 rfl) ?_
  refine lv_iload_n hx hb dX5_needRange_1 rfl (lv_at hl 1 rfl) ?_
  obtain ⟨J1, eJ1, hf⟩ := jn_e0 hf
  have hJ1 : ∀ (_ : Unit) (H : Heap) (locs : List Loc) (ls : Array Slot), J1 () = some (ex, r) → va_P D vwCl (wsG 0 ad E σ) H → va_S (AG 0 ad s.heap.size) s.heap H locs → lv_has ls 3 [] → W p l e R s m args below meth c H locs 0 0 Q (F0 m 10 ls []) := by
    intro _ H locs ls hf hP hS hl
    rw [eJ1] at hf
    obtain ⟨h0, -⟩ := rt2 hf
    rw [hQ1 (fun q => by rw [q] at h0; cases h0)]
    exact g_throw (text := "an argument is out of its range") (e0 := 2) hx hb hflag hB hown hK hZ hP hS (hl.1.trans hml.symm) hlocks (hout (fun q => by rw [q] at h0; cases h0)) h0 rfl tt_X5_33_37 (by decide +kernel) dX5_needRange_10 dX5_needRange_13 dX5_needRange_14 dX5_needRange_16 dX5_needRange_19 hRf hRl (hcell (fun q => by rw [q] at h0; cases h0)) (Nat.le_of_ble_eq_true rfl)
  refine lv_icmp_lt (tgt := 10) hx hb dX5_needRange_2 (by decide) (fun q2 => ?_) (fun q2 => ?_)
  · rw [if_pos q2] at hf
    exact hJ1 () _ _ ls hf hP hS (lv_sub hl [] rfl)
  · rw [if_neg q2] at hf
    refine lv_iload_n hx hb dX5_needRange_5 rfl (lv_at hl 0 rfl) ?_
    refine lv_iload_n hx hb dX5_needRange_6 rfl (lv_at hl 2 rfl) ?_
    refine lv_icmp_le (tgt := 20) hx hb dX5_needRange_7 (by decide) (fun q3 => ?_) (fun q3 => ?_)
    · rw [if_pos q3] at hf
      obtain ⟨h0, h1⟩ := rt2 hf
      rw [hQ0 h0.symm]
      exact g_vret hx hb hr hlocks hP hS rfl dX5_needRange_20
    · rw [if_neg q3] at hf
      exact hJ1 () _ _ ls hf hP hS (lv_sub hl [] rfl)
def f_X5_needStageTarget (a0 a1 : Int32) : Option (Nat × Int32) :=
jn (fun (_ : Unit) =>
bt (f_X5_needRoom a1) (fun n3 => some (n3, 0)) fun v2 =>
some (0, 0)) fun (J1 : Unit → Option (Nat × Int32)) =>
if a0 = 0 then (
J1 ())
else (
if a0 = 2 then (
J1 ())
else (
if a0 = 1 then (
bt (f_X5_needKind a1) (fun n12 => some (n12, 0)) fun v11 =>
some (0, 0))
else (
if a0 = 3 then (
jn (fun (_ : Unit) =>
some (1, 0)) fun (J8 : Unit → Option (Nat × Int32)) =>
if a1 < 0 then (
J8 ())
else (
if a1 < 4 then (
some (0, 0))
else (
J8 ())))
else (
some (0, 0)))))
set_option maxHeartbeats 4000000 in
set_option maxRecDepth 100000 in
theorem c_X5_needStageTarget {l : Launch} {D : va_G} {cI cJ : ClassId} {ad : Nat → Nat} {E : Ent} {σ : Mem} {a0 a1 : Int32} {ex : Nat} {r : Int32} (hflag : l.stackTraces = false) (hf : f_X5_needStageTarget a0 a1 = some (ex, r)) : MGx l yX5_needStageTarget (Cond.code yX5_needStageTarget cX5_needStageTarget 2 none :: BIG) 7 110 D cI cJ 0 ad E [.int a0, .int a1] σ σ ex (fun sz => Qgv D 0 ad E σ sz) := by
  refine MGx.ofW (cc := cX5_needStageTarget) (nL := 2) (ret := none) (by decide) rfl (fun i j h => absurd h (Nat.not_lt_zero i)) ?_
  intro p e R s m args below meth c Q hx hb hr hml hlocks hown hB hK hZ hP hA hAd hS hRf hRl hcell hout hQ0 hQ1
  have hown : s.vm.findClass RX5 = some m.cls := hown
  have hi : injG 0 ad := fun i j h => absurd h (Nat.not_lt_zero i)
  have hl := lv_entry ([.int a0, .int a1] : List Value) (n := 2) (Nat.le_of_ble_eq_true rfl)
  rw [lg_entry_eq]
  generalize (lg_sl ([.int a0, .int a1] : List Value) ++ List.replicate (2 - (lg_sl ([.int a0, .int a1] : List Value)).length) Slot.unset).toArray = ls at hl ⊢
  have hl : lv_has ls 2 [(0, .int a0), (1, .int a1)] := hl
  unfold f_X5_needStageTarget at hf
  refine lv_iload_n hx hb dX5_needStageTarget_0 rfl (lv_at hl 0 rfl) ?_
  obtain ⟨J1, eJ1, hf⟩ := jn_e0 hf
  have hJ1 : ∀ (_ : Unit) (H : Heap) (locs : List Loc) (ls : Array Slot), J1 () = some (ex, r) → va_P D vwCl (wsG 0 ad E σ) H → va_S (AG 0 ad s.heap.size) s.heap H locs → lv_has ls 2 [(1, .int a1)] → W p l e R s m args below meth c H locs 0 0 Q (F0 m 9 ls []) := by
    intro _ H locs ls hf hP hS hl
    rw [eJ1] at hf
    refine lv_iload_n hx hb dX5_needStageTarget_9 rfl (lv_at hl 0 rfl) ?_
    rcases bt_e hf with ⟨v2, hv, hf⟩ | ⟨n3, v2, hn, hv, hf⟩
    · refine g_xSv0 ⟨⟨hx, hb, hml, hown, hB⟩, hK, hi, hA, hAd, hP, hS⟩ hZ (c_X5_needRoom hflag hv) cal_X5_needRoom kM_X5_26 ⟨Nat.le_trans (Nat.le_of_ble_eq_true rfl) hRf, Nat.le_trans (Nat.le_of_ble_eq_true rfl) hRl⟩ rfl hl.1 (Nat.le_of_ble_eq_true rfl) rfl dX5_needStageTarget_10 (fun H locs hP hS => ?_)
      refine lv_goto (tgt := 52) hx hb dX5_needStageTarget_13 (by decide) ?_
      obtain ⟨h0, h1⟩ := rt2 hf
      rw [hQ0 h0.symm]
      exact g_vret hx hb hr hlocks hP hS rfl dX5_needStageTarget_52
    · obtain ⟨h0, -⟩ := rt2 hf
      have hne : ¬ ex = 0 := fun q => hn (h0.trans q)
      rw [hQ1 hne]
      refine g_xSx0 ⟨⟨hx, hb, hml, hown, hB⟩, hK, hi, hA, hAd, hP, hS⟩ hZ (c_X5_needRoom hflag hv) hn cal_X5_needRoom kM_X5_26 ⟨Nat.le_trans (Nat.le_of_ble_eq_true rfl) hRf, Nat.le_trans (Nat.le_of_ble_eq_true rfl) hRl⟩ rfl hl.1 (Nat.le_of_ble_eq_true rfl) rfl dX5_needStageTarget_10 (hcell hne) (fun q9 ce H locs hP hS hc1 hc2 hc3 => ?_)
      exact g_xout (hout hne) hlocks hc1 hc2 hc3 h0 rfl hP hS
  refine lv_if_eq (tgt := 9) hx hb dX5_needStageTarget_1 (by decide) (fun q4 => ?_) (fun q4 => ?_)
  · rw [if_pos q4] at hf
    exact hJ1 () _ _ ls hf hP hS (lv_sub hl [1] rfl)
  · rw [if_neg q4] at hf
    refine lv_iload_n hx hb dX5_needStageTarget_4 rfl (lv_at hl 0 rfl) ?_
    refine lv_iconst (v := 2) hx hb dX5_needStageTarget_5 (by decide) ?_
    refine lv_icmp_ne (tgt := 16) hx hb dX5_needStageTarget_6 (by decide) (fun q5 => ?_) (fun q5 => ?_)
    · rw [if_neg q5] at hf
      refine lv_iload_n hx hb dX5_needStageTarget_16 rfl (lv_at hl 0 rfl) ?_
      refine lv_iconst (v := 1) hx hb dX5_needStageTarget_17 (by decide) ?_
      refine lv_icmp_ne (tgt := 28) hx hb dX5_needStageTarget_18 (by decide) (fun q6 => ?_) (fun q6 => ?_)
      · rw [if_neg q6] at hf
        refine lv_iload_n hx hb dX5_needStageTarget_28 rfl (lv_at hl 0 rfl) ?_
        refine lv_iconst (v := 3) hx hb dX5_needStageTarget_29 (by decide) ?_
        refine lv_icmp_ne (tgt := 52) hx hb dX5_needStageTarget_30 (by decide) (fun q7 => ?_) (fun q7 => ?_)
        · rw [if_neg q7] at hf
          obtain ⟨h0, h1⟩ := rt2 hf
          rw [hQ0 h0.symm]
          exact g_vret hx hb hr hlocks hP hS rfl dX5_needStageTarget_52
        · rw [if_pos q7] at hf
          refine lv_iload_n hx hb dX5_needStageTarget_33 rfl (lv_at hl 1 rfl) ?_
          obtain ⟨J8, eJ8, hf⟩ := jn_e0 hf
          have hJ8 : ∀ (_ : Unit) (H : Heap) (locs : List Loc) (ls : Array Slot), J8 () = some (ex, r) → va_P D vwCl (wsG 0 ad E σ) H → va_S (AG 0 ad s.heap.size) s.heap H locs → lv_has ls 2 [] → W p l e R s m args below meth c H locs 0 0 Q (F0 m 42 ls []) := by
            intro _ H locs ls hf hP hS hl
            rw [eJ8] at hf
            obtain ⟨h0, -⟩ := rt2 hf
            rw [hQ1 (fun q => by rw [q] at h0; cases h0)]
            exact g_throw (text := "there is no such player") (e0 := 1) hx hb hflag hB hown hK hZ hP hS (hl.1.trans hml.symm) hlocks (hout (fun q => by rw [q] at h0; cases h0)) h0 rfl tt_X5_185_189 (by decide +kernel) dX5_needStageTarget_42 dX5_needStageTarget_45 dX5_needStageTarget_46 dX5_needStageTarget_48 dX5_needStageTarget_51 hRf hRl (hcell (fun q => by rw [q] at h0; cases h0)) (Nat.le_of_ble_eq_true rfl)
          refine lv_if_lt (tgt := 42) hx hb dX5_needStageTarget_34 (by decide) (fun q9 => ?_) (fun q9 => ?_)
          · rw [if_pos q9] at hf
            exact hJ8 () _ _ ls hf hP hS (lv_sub hl [] rfl)
          · rw [if_neg q9] at hf
            refine lv_iload_n hx hb dX5_needStageTarget_37 rfl (lv_at hl 1 rfl) ?_
            refine lv_iconst (v := 4) hx hb dX5_needStageTarget_38 (by decide) ?_
            refine lv_icmp_lt (tgt := 52) hx hb dX5_needStageTarget_39 (by decide) (fun q10 => ?_) (fun q10 => ?_)
            · rw [if_pos q10] at hf
              obtain ⟨h0, h1⟩ := rt2 hf
              rw [hQ0 h0.symm]
              exact g_vret hx hb hr hlocks hP hS rfl dX5_needStageTarget_52
            · rw [if_neg q10] at hf
              exact hJ8 () _ _ ls hf hP hS (lv_sub hl [] rfl)
      · rw [if_pos q6] at hf
        refine lv_iload_n hx hb dX5_needStageTarget_21 rfl (lv_at hl 1 rfl) ?_
        rcases bt_e hf with ⟨v11, hv, hf⟩ | ⟨n12, v11, hn, hv, hf⟩
        · refine g_xSv0 ⟨⟨hx, hb, hml, hown, hB⟩, hK, hi, hA, hAd, hP, hS⟩ hZ (c_X5_needKind hflag hv) cal_X5_needKind kM_X5_73 ⟨Nat.le_trans (Nat.le_of_ble_eq_true rfl) hRf, Nat.le_trans (Nat.le_of_ble_eq_true rfl) hRl⟩ rfl hl.1 (Nat.le_of_ble_eq_true rfl) rfl dX5_needStageTarget_22 (fun H locs hP hS => ?_)
          refine lv_goto (tgt := 52) hx hb dX5_needStageTarget_25 (by decide) ?_
          obtain ⟨h0, h1⟩ := rt2 hf
          rw [hQ0 h0.symm]
          exact g_vret hx hb hr hlocks hP hS rfl dX5_needStageTarget_52
        · obtain ⟨h0, -⟩ := rt2 hf
          have hne : ¬ ex = 0 := fun q => hn (h0.trans q)
          rw [hQ1 hne]
          refine g_xSx0 ⟨⟨hx, hb, hml, hown, hB⟩, hK, hi, hA, hAd, hP, hS⟩ hZ (c_X5_needKind hflag hv) hn cal_X5_needKind kM_X5_73 ⟨Nat.le_trans (Nat.le_of_ble_eq_true rfl) hRf, Nat.le_trans (Nat.le_of_ble_eq_true rfl) hRl⟩ rfl hl.1 (Nat.le_of_ble_eq_true rfl) rfl dX5_needStageTarget_22 (hcell hne) (fun q9 ce H locs hP hS hc1 hc2 hc3 => ?_)
          exact g_xout (hout hne) hlocks hc1 hc2 hc3 h0 rfl hP hS
    · rw [if_pos q5] at hf
      exact hJ1 () _ _ ls hf hP hS (lv_sub hl [1] rfl)
def f_X5_needStageMeasure (a0 a1 : Int32) : Option (Nat × Int32) :=
if a0 = 1 then (
bt (f_X5_needRange a1 1 9) (fun n6 => some (n6, 0)) fun v5 =>
some (0, 0))
else (
if a0 = 2 then (
bt (f_X5_needRange a1 0 99) (fun n4 => some (n4, 0)) fun v3 =>
some (0, 0))
else (
some (0, 0)))
set_option maxHeartbeats 4000000 in
set_option maxRecDepth 100000 in
theorem c_X5_needStageMeasure {l : Launch} {D : va_G} {cI cJ : ClassId} {ad : Nat → Nat} {E : Ent} {σ : Mem} {a0 a1 : Int32} {ex : Nat} {r : Int32} (hflag : l.stackTraces = false) (hf : f_X5_needStageMeasure a0 a1 = some (ex, r)) : MGx l yX5_needStageMeasure (Cond.code yX5_needStageMeasure cX5_needStageMeasure 2 none :: BIG) 7 112 D cI cJ 0 ad E [.int a0, .int a1] σ σ ex (fun sz => Qgv D 0 ad E σ sz) := by
  refine MGx.ofW (cc := cX5_needStageMeasure) (nL := 2) (ret := none) (by decide) rfl (fun i j h => absurd h (Nat.not_lt_zero i)) ?_
  intro p e R s m args below meth c Q hx hb hr hml hlocks hown hB hK hZ hP hA hAd hS hRf hRl hcell hout hQ0 hQ1
  have hown : s.vm.findClass RX5 = some m.cls := hown
  have hi : injG 0 ad := fun i j h => absurd h (Nat.not_lt_zero i)
  have hl := lv_entry ([.int a0, .int a1] : List Value) (n := 2) (Nat.le_of_ble_eq_true rfl)
  rw [lg_entry_eq]
  generalize (lg_sl ([.int a0, .int a1] : List Value) ++ List.replicate (2 - (lg_sl ([.int a0, .int a1] : List Value)).length) Slot.unset).toArray = ls at hl ⊢
  have hl : lv_has ls 2 [(0, .int a0), (1, .int a1)] := hl
  unfold f_X5_needStageMeasure at hf
  refine lv_iload_n hx hb dX5_needStageMeasure_0 rfl (lv_at hl 0 rfl) ?_
  refine lv_iconst (v := 1) hx hb dX5_needStageMeasure_1 (by decide) ?_
  refine lv_icmp_ne (tgt := 15) hx hb dX5_needStageMeasure_2 (by decide) (fun q1 => ?_) (fun q1 => ?_)
  · rw [if_neg q1] at hf
    refine lv_iload_n hx hb dX5_needStageMeasure_15 rfl (lv_at hl 0 rfl) ?_
    refine lv_iconst (v := 2) hx hb dX5_needStageMeasure_16 (by decide) ?_
    refine lv_icmp_ne (tgt := 27) hx hb dX5_needStageMeasure_17 (by decide) (fun q2 => ?_) (fun q2 => ?_)
    · rw [if_neg q2] at hf
      obtain ⟨h0, h1⟩ := rt2 hf
      rw [hQ0 h0.symm]
      exact g_vret hx hb hr hlocks hP hS rfl dX5_needStageMeasure_27
    · rw [if_pos q2] at hf
      refine lv_iload_n hx hb dX5_needStageMeasure_20 rfl (lv_at hl 1 rfl) ?_
      refine lv_iconst (v := 0) hx hb dX5_needStageMeasure_21 (by decide) ?_
      refine lv_bipush (v := 99) hx hb dX5_needStageMeasure_22 (by decide) ?_
      rcases bt_e hf with ⟨v3, hv, hf⟩ | ⟨n4, v3, hn, hv, hf⟩
      · refine g_xSv0 ⟨⟨hx, hb, hml, hown, hB⟩, hK, hi, hA, hAd, hP, hS⟩ hZ (c_X5_needRange hflag hv) cal_X5_needRange kM_X5_63 ⟨Nat.le_trans (Nat.le_of_ble_eq_true rfl) hRf, Nat.le_trans (Nat.le_of_ble_eq_true rfl) hRl⟩ rfl hl.1 (Nat.le_of_ble_eq_true rfl) rfl dX5_needStageMeasure_24 (fun H locs hP hS => ?_)
        obtain ⟨h0, h1⟩ := rt2 hf
        rw [hQ0 h0.symm]
        exact g_vret hx hb hr hlocks hP hS rfl dX5_needStageMeasure_27
      · obtain ⟨h0, -⟩ := rt2 hf
        have hne : ¬ ex = 0 := fun q => hn (h0.trans q)
        rw [hQ1 hne]
        refine g_xSx0 ⟨⟨hx, hb, hml, hown, hB⟩, hK, hi, hA, hAd, hP, hS⟩ hZ (c_X5_needRange hflag hv) hn cal_X5_needRange kM_X5_63 ⟨Nat.le_trans (Nat.le_of_ble_eq_true rfl) hRf, Nat.le_trans (Nat.le_of_ble_eq_true rfl) hRl⟩ rfl hl.1 (Nat.le_of_ble_eq_true rfl) rfl dX5_needStageMeasure_24 (hcell hne) (fun q9 ce H locs hP hS hc1 hc2 hc3 => ?_)
        exact g_xout (hout hne) hlocks hc1 hc2 hc3 h0 rfl hP hS
  · rw [if_pos q1] at hf
    refine lv_iload_n hx hb dX5_needStageMeasure_5 rfl (lv_at hl 1 rfl) ?_
    refine lv_iconst (v := 1) hx hb dX5_needStageMeasure_6 (by decide) ?_
    refine lv_bipush (v := 9) hx hb dX5_needStageMeasure_7 (by decide) ?_
    rcases bt_e hf with ⟨v5, hv, hf⟩ | ⟨n6, v5, hn, hv, hf⟩
    · refine g_xSv0 ⟨⟨hx, hb, hml, hown, hB⟩, hK, hi, hA, hAd, hP, hS⟩ hZ (c_X5_needRange hflag hv) cal_X5_needRange kM_X5_63 ⟨Nat.le_trans (Nat.le_of_ble_eq_true rfl) hRf, Nat.le_trans (Nat.le_of_ble_eq_true rfl) hRl⟩ rfl hl.1 (Nat.le_of_ble_eq_true rfl) rfl dX5_needStageMeasure_9 (fun H locs hP hS => ?_)
      refine lv_goto (tgt := 27) hx hb dX5_needStageMeasure_12 (by decide) ?_
      obtain ⟨h0, h1⟩ := rt2 hf
      rw [hQ0 h0.symm]
      exact g_vret hx hb hr hlocks hP hS rfl dX5_needStageMeasure_27
    · obtain ⟨h0, -⟩ := rt2 hf
      have hne : ¬ ex = 0 := fun q => hn (h0.trans q)
      rw [hQ1 hne]
      refine g_xSx0 ⟨⟨hx, hb, hml, hown, hB⟩, hK, hi, hA, hAd, hP, hS⟩ hZ (c_X5_needRange hflag hv) hn cal_X5_needRange kM_X5_63 ⟨Nat.le_trans (Nat.le_of_ble_eq_true rfl) hRf, Nat.le_trans (Nat.le_of_ble_eq_true rfl) hRl⟩ rfl hl.1 (Nat.le_of_ble_eq_true rfl) rfl dX5_needStageMeasure_9 (hcell hne) (fun q9 ce H locs hP hS hc1 hc2 hc3 => ?_)
      exact g_xout (hout hne) hlocks hc1 hc2 hc3 h0 rfl hP hS
def f_X5_needCoins (a0 a1 : Int32) : Option (Nat × Int32) :=
if a1 ≤ a0 then (
some (0, 0))
else (
some (3, 0))
set_option maxHeartbeats 4000000 in
set_option maxRecDepth 100000 in
theorem c_X5_needCoins {l : Launch} {D : va_G} {cI cJ : ClassId} {ad : Nat → Nat} {E : Ent} {σ : Mem} {a0 a1 : Int32} {ex : Nat} {r : Int32} (hflag : l.stackTraces = false) (hf : f_X5_needCoins a0 a1 = some (ex, r)) : MGx l yX5_needCoins (Cond.code yX5_needCoins cX5_needCoins 2 none :: BIG) 6 90 D cI cJ 0 ad E [.int a0, .int a1] σ σ ex (fun sz => Qgv D 0 ad E σ sz) := by
  refine MGx.ofW (cc := cX5_needCoins) (nL := 2) (ret := none) (by decide) rfl (fun i j h => absurd h (Nat.not_lt_zero i)) ?_
  intro p e R s m args below meth c Q hx hb hr hml hlocks hown hB hK hZ hP hA hAd hS hRf hRl hcell hout hQ0 hQ1
  have hown : s.vm.findClass RX5 = some m.cls := hown
  have hi : injG 0 ad := fun i j h => absurd h (Nat.not_lt_zero i)
  have hl := lv_entry ([.int a0, .int a1] : List Value) (n := 2) (Nat.le_of_ble_eq_true rfl)
  rw [lg_entry_eq]
  generalize (lg_sl ([.int a0, .int a1] : List Value) ++ List.replicate (2 - (lg_sl ([.int a0, .int a1] : List Value)).length) Slot.unset).toArray = ls at hl ⊢
  have hl : lv_has ls 2 [(0, .int a0), (1, .int a1)] := hl
  unfold f_X5_needCoins at hf
  refine lv_iload_n hx hb dX5_needCoins_0 rfl (lv_at hl 0 rfl) ?_
  refine lv_iload_n hx hb dX5_needCoins_1 rfl (lv_at hl 1 rfl) ?_
  refine lv_icmp_ge (tgt := 16) hx hb dX5_needCoins_2 (by decide) (fun q1 => ?_) (fun q1 => ?_)
  · rw [if_pos q1] at hf
    obtain ⟨h0, h1⟩ := rt2 hf
    rw [hQ0 h0.symm]
    exact g_vret hx hb hr hlocks hP hS rfl dX5_needCoins_16
  · rw [if_neg q1] at hf
    obtain ⟨h0, -⟩ := rt2 hf
    rw [hQ1 (fun q => by rw [q] at h0; cases h0)]
    exact g_throwW (text := "there are not so many coins") (e0 := 3) hx hb hflag hB hown hK hZ hP hS (hl.1.trans hml.symm) hlocks (hout (fun q => by rw [q] at h0; cases h0)) h0 rfl tt_X5_54_58 (by decide +kernel) dX5_needCoins_5 dX5_needCoins_8 dX5_needCoins_9 dX5_needCoins_12 dX5_needCoins_15 hRf hRl (hcell (fun q => by rw [q] at h0; cases h0)) (Nat.le_of_ble_eq_true rfl)
def f_X5_needPlayerIn_now (σ : Mem) (a0 : Int32) : Option (Nat × Int32) :=
jn (fun (_ : Unit) =>
some (1, 0)) fun (J1 : Unit → Option (Nat × Int32)) =>
if a0 < 0 then (
J1 ())
else (
if a0 < (σ 8 0) then (
some (0, 0))
else (
J1 ()))
set_option maxHeartbeats 4000000 in
set_option maxRecDepth 100000 in
theorem c_X5_needPlayerIn_now {l : Launch} {D : va_G} {cI cJ : ClassId} {ad : Nat → Nat} {σ : Mem} {a0 : Int32} {ex : Nat} {r : Int32} (hflag : l.stackTraces = false) (hi : injG 51 ad) (hf : f_X5_needPlayerIn_now σ a0 = some (ex, r)) : MGx l yX5_needPlayerIn (Cond.code yX5_needPlayerIn cX5_needPlayerIn 2 none :: BIG) 6 90 D cI cJ 51 ad (EX ad cI) [.ref (ad 0), .int a0] σ σ ex (fun sz => Qgv D 51 ad (EX ad cI) σ sz) := by
  refine MGx.ofW (cc := cX5_needPlayerIn) (nL := 2) (ret := none) (by decide) rfl hi ?_
  intro p e R s m args below meth c Q hx hb hr hml hlocks hown hB hK hZ hP hA hAd hS hRf hRl hcell hout hQ0 hQ1
  have hown : s.vm.findClass RX5 = some m.cls := hown
  have hl := lv_entry ([.ref (ad 0), .int a0] : List Value) (n := 2) (Nat.le_of_ble_eq_true rfl)
  rw [lg_entry_eq]
  generalize (lg_sl ([.ref (ad 0), .int a0] : List Value) ++ List.replicate (2 - (lg_sl ([.ref (ad 0), .int a0] : List Value)).length) Slot.unset).toArray = ls at hl ⊢
  have hl : lv_has ls 2 [(0, .ref (ad 0)), (1, .int a0)] := hl
  unfold f_X5_needPlayerIn_now at hf
  refine lv_iload_n hx hb dX5_needPlayerIn_0 rfl (lv_at hl 1 rfl) ?_
  obtain ⟨J1, eJ1, hf⟩ := jn_e0 hf
  have hJ1 : ∀ (_ : Unit) (H : Heap) (locs : List Loc) (ls : Array Slot), J1 () = some (ex, r) → va_P D vwCl (wsG 51 ad (EX ad cI) σ) H → va_S (AG 51 ad s.heap.size) s.heap H locs → lv_has ls 2 [] → W p l e R s m args below meth c H locs 0 0 Q (F0 m 15 ls []) := by
    intro _ H locs ls hf hP hS hl
    rw [eJ1] at hf
    obtain ⟨h0, -⟩ := rt2 hf
    rw [hQ1 (fun q => by rw [q] at h0; cases h0)]
    exact g_throw (text := "there is no such player") (e0 := 1) hx hb hflag hB hown hK hZ hP hS (hl.1.trans hml.symm) hlocks (hout (fun q => by rw [q] at h0; cases h0)) h0 rfl tt_X5_185_189 (by decide +kernel) dX5_needPlayerIn_15 dX5_needPlayerIn_18 dX5_needPlayerIn_19 dX5_needPlayerIn_21 dX5_needPlayerIn_24 hRf hRl (hcell (fun q => by rw [q] at h0; cases h0)) (Nat.le_of_ble_eq_true rfl)
  refine lv_if_lt (tgt := 15) hx hb dX5_needPlayerIn_1 (by decide) (fun q2 => ?_) (fun q2 => ?_)
  · rw [if_pos q2] at hf
    exact hJ1 () _ _ ls hf hP hS (lv_sub hl [] rfl)
  · rw [if_neg q2] at hf
    refine lv_iload_n hx hb dX5_needPlayerIn_4 rfl (lv_at hl 1 rfl) ?_
    refine lv_aload_n hx hb dX5_needPlayerIn_5 rfl (lv_at hl 0 rfl) ?_
    refine g_get (v := .ref (ad 8)) hx hb hB hown hK hP 0 (by decide) rfl rfl kU_X4 1 (by decide) kF_X5_78 rfl rfl dX5_needPlayerIn_6 ?_
    refine g_get (v := .int (σ 8 0)) hx hb hB hown hK hP 8 (by decide) rfl rfl kU_X1 0 (by decide) kF_X5_82 rfl rfl dX5_needPlayerIn_9 ?_
    refine lv_icmp_lt (tgt := 25) hx hb dX5_needPlayerIn_12 (by decide) (fun q3 => ?_) (fun q3 => ?_)
    · rw [if_pos q3] at hf
      obtain ⟨h0, h1⟩ := rt2 hf
      rw [hQ0 h0.symm]
      exact g_vret hx hb hr hlocks hP hS rfl dX5_needPlayerIn_25
    · rw [if_neg q3] at hf
      exact hJ1 () _ _ ls hf hP hS (lv_sub hl [] rfl)
def f_X5_needPlayerIn_past (σ : Mem) (a0 : Int32) : Option (Nat × Int32) :=
jn (fun (_ : Unit) =>
some (1, 0)) fun (J1 : Unit → Option (Nat × Int32)) =>
if a0 < 0 then (
J1 ())
else (
if a0 < (σ 32 0) then (
some (0, 0))
else (
J1 ()))
set_option maxHeartbeats 4000000 in
set_option maxRecDepth 100000 in
theorem c_X5_needPlayerIn_past {l : Launch} {D : va_G} {cI cJ : ClassId} {ad : Nat → Nat} {σ : Mem} {a0 : Int32} {ex : Nat} {r : Int32} (hflag : l.stackTraces = false) (hi : injG 51 ad) (hf : f_X5_needPlayerIn_past σ a0 = some (ex, r)) : MGx l yX5_needPlayerIn (Cond.code yX5_needPlayerIn cX5_needPlayerIn 2 none :: BIG) 6 90 D cI cJ 51 ad (EX ad cI) [.ref (ad 24), .int a0] σ σ ex (fun sz => Qgv D 51 ad (EX ad cI) σ sz) := by
  refine MGx.ofW (cc := cX5_needPlayerIn) (nL := 2) (ret := none) (by decide) rfl hi ?_
  intro p e R s m args below meth c Q hx hb hr hml hlocks hown hB hK hZ hP hA hAd hS hRf hRl hcell hout hQ0 hQ1
  have hown : s.vm.findClass RX5 = some m.cls := hown
  have hl := lv_entry ([.ref (ad 24), .int a0] : List Value) (n := 2) (Nat.le_of_ble_eq_true rfl)
  rw [lg_entry_eq]
  generalize (lg_sl ([.ref (ad 24), .int a0] : List Value) ++ List.replicate (2 - (lg_sl ([.ref (ad 24), .int a0] : List Value)).length) Slot.unset).toArray = ls at hl ⊢
  have hl : lv_has ls 2 [(0, .ref (ad 24)), (1, .int a0)] := hl
  unfold f_X5_needPlayerIn_past at hf
  refine lv_iload_n hx hb dX5_needPlayerIn_0 rfl (lv_at hl 1 rfl) ?_
  obtain ⟨J1, eJ1, hf⟩ := jn_e0 hf
  have hJ1 : ∀ (_ : Unit) (H : Heap) (locs : List Loc) (ls : Array Slot), J1 () = some (ex, r) → va_P D vwCl (wsG 51 ad (EX ad cI) σ) H → va_S (AG 51 ad s.heap.size) s.heap H locs → lv_has ls 2 [] → W p l e R s m args below meth c H locs 0 0 Q (F0 m 15 ls []) := by
    intro _ H locs ls hf hP hS hl
    rw [eJ1] at hf
    obtain ⟨h0, -⟩ := rt2 hf
    rw [hQ1 (fun q => by rw [q] at h0; cases h0)]
    exact g_throw (text := "there is no such player") (e0 := 1) hx hb hflag hB hown hK hZ hP hS (hl.1.trans hml.symm) hlocks (hout (fun q => by rw [q] at h0; cases h0)) h0 rfl tt_X5_185_189 (by decide +kernel) dX5_needPlayerIn_15 dX5_needPlayerIn_18 dX5_needPlayerIn_19 dX5_needPlayerIn_21 dX5_needPlayerIn_24 hRf hRl (hcell (fun q => by rw [q] at h0; cases h0)) (Nat.le_of_ble_eq_true rfl)
  refine lv_if_lt (tgt := 15) hx hb dX5_needPlayerIn_1 (by decide) (fun q2 => ?_) (fun q2 => ?_)
  · rw [if_pos q2] at hf
    exact hJ1 () _ _ ls hf hP hS (lv_sub hl [] rfl)
  · rw [if_neg q2] at hf
    refine lv_iload_n hx hb dX5_needPlayerIn_4 rfl (lv_at hl 1 rfl) ?_
    refine lv_aload_n hx hb dX5_needPlayerIn_5 rfl (lv_at hl 0 rfl) ?_
    refine g_get (v := .ref (ad 32)) hx hb hB hown hK hP 24 (by decide) rfl rfl kU_X4 1 (by decide) kF_X5_78 rfl rfl dX5_needPlayerIn_6 ?_
    refine g_get (v := .int (σ 32 0)) hx hb hB hown hK hP 32 (by decide) rfl rfl kU_X1 0 (by decide) kF_X5_82 rfl rfl dX5_needPlayerIn_9 ?_
    refine lv_icmp_lt (tgt := 25) hx hb dX5_needPlayerIn_12 (by decide) (fun q3 => ?_) (fun q3 => ?_)
    · rw [if_pos q3] at hf
      obtain ⟨h0, h1⟩ := rt2 hf
      rw [hQ0 h0.symm]
      exact g_vret hx hb hr hlocks hP hS rfl dX5_needPlayerIn_25
    · rw [if_neg q3] at hf
      exact hJ1 () _ _ ls hf hP hS (lv_sub hl [] rfl)
def f_X5_needPlayer (σ : Mem) (a0 : Int32) : Option (Nat × Int32) :=
bt (f_X5_needPlayerIn_now σ a0) (fun n2 => some (n2, 0)) fun v1 =>
some (0, 0)
set_option maxHeartbeats 4000000 in
set_option maxRecDepth 100000 in
theorem c_X5_needPlayer {l : Launch} {D : va_G} {cI cJ : ClassId} {ad : Nat → Nat} {σ : Mem} {a0 : Int32} {ex : Nat} {r : Int32} (hflag : l.stackTraces = false) (hi : injG 51 ad) (hf : f_X5_needPlayer σ a0 = some (ex, r)) : MGx l yX5_needPlayer (Cond.code yX5_needPlayer cX5_needPlayer 2 none :: BIG) 7 111 D cI cJ 51 ad (EX ad cI) [.ref (ad 48), .int a0] σ σ ex (fun sz => Qgv D 51 ad (EX ad cI) σ sz) := by
  refine MGx.ofW (cc := cX5_needPlayer) (nL := 2) (ret := none) (by decide) rfl hi ?_
  intro p e R s m args below meth c Q hx hb hr hml hlocks hown hB hK hZ hP hA hAd hS hRf hRl hcell hout hQ0 hQ1
  have hown : s.vm.findClass RX5 = some m.cls := hown
  have hl := lv_entry ([.ref (ad 48), .int a0] : List Value) (n := 2) (Nat.le_of_ble_eq_true rfl)
  rw [lg_entry_eq]
  generalize (lg_sl ([.ref (ad 48), .int a0] : List Value) ++ List.replicate (2 - (lg_sl ([.ref (ad 48), .int a0] : List Value)).length) Slot.unset).toArray = ls at hl ⊢
  have hl : lv_has ls 2 [(0, .ref (ad 48)), (1, .int a0)] := hl
  unfold f_X5_needPlayer at hf
  refine lv_aload_n hx hb dX5_needPlayer_0 rfl (lv_at hl 0 rfl) ?_
  refine g_get (v := .ref (ad 0)) hx hb hB hown hK hP 48 (by decide) rfl rfl kU_X5 1 (by decide) kF_X5_19 rfl rfl dX5_needPlayer_1 ?_
  refine lv_iload_n hx hb dX5_needPlayer_4 rfl (lv_at hl 1 rfl) ?_
  rcases bt_e hf with ⟨v1, hv, hf⟩ | ⟨n2, v1, hn, hv, hf⟩
  · refine g_xSv ⟨⟨hx, hb, hml, hown, hB⟩, hK, hi, hA, hAd, hP, hS⟩ hZ (c_X5_needPlayerIn_now hflag hi hv) cal_X5_needPlayerIn kM_X5_220 ⟨Nat.le_trans (Nat.le_of_ble_eq_true rfl) hRf, Nat.le_trans (Nat.le_of_ble_eq_true rfl) hRl⟩ rfl hl.1 (Nat.le_of_ble_eq_true rfl) rfl dX5_needPlayer_5 (fun H locs hP hS => ?_)
    obtain ⟨h0, h1⟩ := rt2 hf
    rw [hQ0 h0.symm]
    exact g_vret hx hb hr hlocks hP hS rfl dX5_needPlayer_8
  · obtain ⟨h0, -⟩ := rt2 hf
    have hne : ¬ ex = 0 := fun q => hn (h0.trans q)
    rw [hQ1 hne]
    refine g_xSx ⟨⟨hx, hb, hml, hown, hB⟩, hK, hi, hA, hAd, hP, hS⟩ hZ (c_X5_needPlayerIn_now hflag hi hv) hn cal_X5_needPlayerIn kM_X5_220 ⟨Nat.le_trans (Nat.le_of_ble_eq_true rfl) hRf, Nat.le_trans (Nat.le_of_ble_eq_true rfl) hRl⟩ rfl hl.1 (Nat.le_of_ble_eq_true rfl) rfl dX5_needPlayer_5 (hcell hne) (fun q9 ce H locs hP hS hc1 hc2 hc3 => ?_)
    exact g_xout (hout hne) hlocks hc1 hc2 hc3 h0 rfl hP hS
def f_X5_needQuest (σ : Mem) (a0 : Int32) : Option (Nat × Int32) :=
jn (fun (_ : Unit) =>
some (1, 0)) fun (J1 : Unit → Option (Nat × Int32)) =>
if a0 < 0 then (
J1 ())
else (
if a0 < (σ 18 0) then (
some (0, 0))
else (
J1 ()))
set_option maxHeartbeats 4000000 in
set_option maxRecDepth 100000 in
theorem c_X5_needQuest {l : Launch} {D : va_G} {cI cJ : ClassId} {ad : Nat → Nat} {σ : Mem} {a0 : Int32} {ex : Nat} {r : Int32} (hflag : l.stackTraces = false) (hi : injG 51 ad) (hf : f_X5_needQuest σ a0 = some (ex, r)) : MGx l yX5_needQuest (Cond.code yX5_needQuest cX5_needQuest 2 none :: BIG) 6 90 D cI cJ 51 ad (EX ad cI) [.ref (ad 48), .int a0] σ σ ex (fun sz => Qgv D 51 ad (EX ad cI) σ sz) := by
  refine MGx.ofW (cc := cX5_needQuest) (nL := 2) (ret := none) (by decide) rfl hi ?_
  intro p e R s m args below meth c Q hx hb hr hml hlocks hown hB hK hZ hP hA hAd hS hRf hRl hcell hout hQ0 hQ1
  have hown : s.vm.findClass RX5 = some m.cls := hown
  have hl := lv_entry ([.ref (ad 48), .int a0] : List Value) (n := 2) (Nat.le_of_ble_eq_true rfl)
  rw [lg_entry_eq]
  generalize (lg_sl ([.ref (ad 48), .int a0] : List Value) ++ List.replicate (2 - (lg_sl ([.ref (ad 48), .int a0] : List Value)).length) Slot.unset).toArray = ls at hl ⊢
  have hl : lv_has ls 2 [(0, .ref (ad 48)), (1, .int a0)] := hl
  unfold f_X5_needQuest at hf
  refine lv_iload_n hx hb dX5_needQuest_0 rfl (lv_at hl 1 rfl) ?_
  obtain ⟨J1, eJ1, hf⟩ := jn_e0 hf
  have hJ1 : ∀ (_ : Unit) (H : Heap) (locs : List Loc) (ls : Array Slot), J1 () = some (ex, r) → va_P D vwCl (wsG 51 ad (EX ad cI) σ) H → va_S (AG 51 ad s.heap.size) s.heap H locs → lv_has ls 2 [] → W p l e R s m args below meth c H locs 0 0 Q (F0 m 18 ls []) := by
    intro _ H locs ls hf hP hS hl
    rw [eJ1] at hf
    obtain ⟨h0, -⟩ := rt2 hf
    rw [hQ1 (fun q => by rw [q] at h0; cases h0)]
    exact g_throw (text := "there is no such quest") (e0 := 1) hx hb hflag hB hown hK hZ hP hS (hl.1.trans hml.symm) hlocks (hout (fun q => by rw [q] at h0; cases h0)) h0 rfl tt_X5_185_189 (by decide +kernel) dX5_needQuest_18 dX5_needQuest_21 dX5_needQuest_22 dX5_needQuest_24 dX5_needQuest_27 hRf hRl (hcell (fun q => by rw [q] at h0; cases h0)) (Nat.le_of_ble_eq_true rfl)
  refine lv_if_lt (tgt := 18) hx hb dX5_needQuest_1 (by decide) (fun q2 => ?_) (fun q2 => ?_)
  · rw [if_pos q2] at hf
    exact hJ1 () _ _ ls hf hP hS (lv_sub hl [] rfl)
  · rw [if_neg q2] at hf
    refine lv_iload_n hx hb dX5_needQuest_4 rfl (lv_at hl 1 rfl) ?_
    refine lv_aload_n hx hb dX5_needQuest_5 rfl (lv_at hl 0 rfl) ?_
    refine g_get (v := .ref (ad 0)) hx hb hB hown hK hP 48 (by decide) rfl rfl kU_X5 1 (by decide) kF_X5_19 rfl rfl dX5_needQuest_6 ?_
    refine g_get (v := .ref (ad 18)) hx hb hB hown hK hP 0 (by decide) rfl rfl kU_X4 2 (by decide) kF_X5_90 rfl rfl dX5_needQuest_9 ?_
    refine g_get (v := .int (σ 18 0)) hx hb hB hown hK hP 18 (by decide) rfl rfl kU_X3 0 (by decide) kF_X5_94 rfl rfl dX5_needQuest_12 ?_
    refine lv_icmp_lt (tgt := 28) hx hb dX5_needQuest_15 (by decide) (fun q3 => ?_) (fun q3 => ?_)
    · rw [if_pos q3] at hf
      obtain ⟨h0, h1⟩ := rt2 hf
      rw [hQ0 h0.symm]
      exact g_vret hx hb hr hlocks hP hS rfl dX5_needQuest_28
    · rw [if_neg q3] at hf
      exact hJ1 () _ _ ls hf hP hS (lv_sub hl [] rfl)
def f_X5_needActor (σ : Mem) : Option (Nat × Int32) :=
bd (f_X1_next σ) fun v1 =>
if v1 = (-1) then (
some (3, 0))
else (
some (0, v1))
set_option maxHeartbeats 4000000 in
set_option maxRecDepth 100000 in
theorem c_X5_needActor {l : Launch} {D : va_G} {cI cJ : ClassId} {ad : Nat → Nat} {σ : Mem} {ex : Nat} {r : Int32} (hflag : l.stackTraces = false) (hi : injG 51 ad) (hf : f_X5_needActor σ = some (ex, r)) : MGx l yX5_needActor (Cond.code yX5_needActor cX5_needActor 2 (some .int) :: BIG) 6 90 D cI cJ 51 ad (EX ad cI) [.ref (ad 48)] σ σ ex (fun sz => Qgi D 51 ad (EX ad cI) r σ sz) := by
  refine MGx.ofW (cc := cX5_needActor) (nL := 2) (ret := (some .int)) (by decide) rfl hi ?_
  intro p e R s m args below meth c Q hx hb hr hml hlocks hown hB hK hZ hP hA hAd hS hRf hRl hcell hout hQ0 hQ1
  have hown : s.vm.findClass RX5 = some m.cls := hown
  have hl := lv_entry ([.ref (ad 48)] : List Value) (n := 2) (Nat.le_of_ble_eq_true rfl)
  rw [lg_entry_eq]
  generalize (lg_sl ([.ref (ad 48)] : List Value) ++ List.replicate (2 - (lg_sl ([.ref (ad 48)] : List Value)).length) Slot.unset).toArray = ls at hl ⊢
  have hl : lv_has ls 2 [(0, .ref (ad 48))] := hl
  unfold f_X5_needActor at hf
  refine lv_aload_n hx hb dX5_needActor_0 rfl (lv_at hl 0 rfl) ?_
  refine g_get (v := .ref (ad 0)) hx hb hB hown hK hP 48 (by decide) rfl rfl kU_X5 1 (by decide) kF_X5_19 rfl rfl dX5_needActor_1 ?_
  refine g_get (v := .ref (ad 8)) hx hb hB hown hK hP 0 (by decide) rfl rfl kU_X4 1 (by decide) kF_X5_78 rfl rfl dX5_needActor_4 ?_
  obtain ⟨v1, hv, hf⟩ := bd_e hf
  refine g_cVi (τ := σ) ⟨⟨hx, hb, hml, hown, hB⟩, hK, hi, hA, hAd, hP, hS⟩ sub_now (c_X1_next (hi_now hi) hv) (fun _ _ => rfl) cal_X1_next kM_X5_170 ⟨Nat.le_trans (Nat.le_of_ble_eq_true rfl) hRf, Nat.le_trans (Nat.le_of_ble_eq_true rfl) hRl⟩ 8 (by decide) rfl rfl rfl rfl hl.1 (Nat.le_of_ble_eq_true rfl) rfl dX5_needActor_7 ⟨Nat.zero_le _, Nat.zero_le _⟩ (fun _ _ => rfl) (fun _ _ _ => rfl) (fun H locs hP hS => ?_)
  refine lv_istore_n (lv' := [(1, .int v1), (0, .ref (ad 48))]) hx hb dX5_needActor_10 rfl hl (by decide) rfl (fun ls hl => ?_)
  refine lv_iload_n hx hb dX5_needActor_11 rfl (lv_at hl 0 rfl) ?_
  refine lv_iconst (v := (-1)) hx hb dX5_needActor_12 (by decide) ?_
  refine lv_icmp_ne (tgt := 26) hx hb dX5_needActor_13 (by decide) (fun q2 => ?_) (fun q2 => ?_)
  · rw [if_neg q2] at hf
    refine lv_iload_n hx hb dX5_needActor_26 rfl (lv_at hl 0 rfl) ?_
    obtain ⟨h0, h1⟩ := rt2 hf
    rw [hQ0 h0.symm]
    exact g_iret hx hb hr hlocks hP hS h1 rfl dX5_needActor_27
  · rw [if_pos q2] at hf
    obtain ⟨h0, -⟩ := rt2 hf
    rw [hQ1 (fun q => by rw [q] at h0; cases h0)]
    exact g_throw (text := "there are no players") (e0 := 3) hx hb hflag hB hown hK hZ hP hS (hl.1.trans hml.symm) hlocks (hout (fun q => by rw [q] at h0; cases h0)) h0 rfl tt_X5_54_58 (by decide +kernel) dX5_needActor_16 dX5_needActor_19 dX5_needActor_20 dX5_needActor_22 dX5_needActor_25 hRf hRl (hcell (fun q => by rw [q] at h0; cases h0)) (Nat.le_of_ble_eq_true rfl)
def f_X5_needCompany (σ : Mem) (a0 a1 : Int32) : Option (Nat × Int32) :=
jn (fun (_ : Unit) =>
some (3, 0)) fun (J1 : Unit → Option (Nat × Int32)) =>
if a1 = a0 then (
J1 ())
else (
gd a1 4 <|
gd a0 4 <|
if (σ 9 a1.toNatClampNeg) = (σ 9 a0.toNatClampNeg) then (
some (0, 0))
else (
J1 ()))
set_option maxHeartbeats 4000000 in
set_option maxRecDepth 100000 in
theorem c_X5_needCompany {l : Launch} {D : va_G} {cI cJ : ClassId} {ad : Nat → Nat} {σ : Mem} {a0 a1 : Int32} {ex : Nat} {r : Int32} (hflag : l.stackTraces = false) (hi : injG 51 ad) (hf : f_X5_needCompany σ a0 a1 = some (ex, r)) : MGx l yX5_needCompany (Cond.code yX5_needCompany cX5_needCompany 3 none :: BIG) 6 90 D cI cJ 51 ad (EX ad cI) [.ref (ad 48), .int a0, .int a1] σ σ ex (fun sz => Qgv D 51 ad (EX ad cI) σ sz) := by
  refine MGx.ofW (cc := cX5_needCompany) (nL := 3) (ret := none) (by decide) rfl hi ?_
  intro p e R s m args below meth c Q hx hb hr hml hlocks hown hB hK hZ hP hA hAd hS hRf hRl hcell hout hQ0 hQ1
  have hown : s.vm.findClass RX5 = some m.cls := hown
  have hl := lv_entry ([.ref (ad 48), .int a0, .int a1] : List Value) (n := 3) (Nat.le_of_ble_eq_true rfl)
  rw [lg_entry_eq]
  generalize (lg_sl ([.ref (ad 48), .int a0, .int a1] : List Value) ++ List.replicate (3 - (lg_sl ([.ref (ad 48), .int a0, .int a1] : List Value)).length) Slot.unset).toArray = ls at hl ⊢
  have hl : lv_has ls 3 [(0, .ref (ad 48)), (1, .int a0), (2, .int a1)] := hl
  unfold f_X5_needCompany at hf
  refine lv_iload_n hx hb dX5_needCompany_0 rfl (lv_at hl 2 rfl) ?_
  refine lv_iload_n hx hb dX5_needCompany_1 rfl (lv_at hl 1 rfl) ?_
  obtain ⟨J1, eJ1, hf⟩ := jn_e0 hf
  have hJ1 : ∀ (_ : Unit) (H : Heap) (locs : List Loc) (ls : Array Slot), J1 () = some (ex, r) → va_P D vwCl (wsG 51 ad (EX ad cI) σ) H → va_S (AG 51 ad s.heap.size) s.heap H locs → lv_has ls 3 [] → W p l e R s m args below meth c H locs 0 0 Q (F0 m 32 ls []) := by
    intro _ H locs ls hf hP hS hl
    rw [eJ1] at hf
    obtain ⟨h0, -⟩ := rt2 hf
    rw [hQ1 (fun q => by rw [q] at h0; cases h0)]
    exact g_throw (text := "the player is the actor or in another room") (e0 := 3) hx hb hflag hB hown hK hZ hP hS (hl.1.trans hml.symm) hlocks (hout (fun q => by rw [q] at h0; cases h0)) h0 rfl tt_X5_54_58 (by decide +kernel) dX5_needCompany_32 dX5_needCompany_35 dX5_needCompany_36 dX5_needCompany_38 dX5_needCompany_41 hRf hRl (hcell (fun q => by rw [q] at h0; cases h0)) (Nat.le_of_ble_eq_true rfl)
  refine lv_icmp_eq (tgt := 32) hx hb dX5_needCompany_2 (by decide) (fun q2 => ?_) (fun q2 => ?_)
  · rw [if_pos q2] at hf
    exact hJ1 () _ _ ls hf hP hS (lv_sub hl [] rfl)
  · rw [if_neg q2] at hf
    refine lv_aload_n hx hb dX5_needCompany_5 rfl (lv_at hl 0 rfl) ?_
    refine g_get (v := .ref (ad 0)) hx hb hB hown hK hP 48 (by decide) rfl rfl kU_X5 1 (by decide) kF_X5_19 rfl rfl dX5_needCompany_6 ?_
    refine g_get (v := .ref (ad 8)) hx hb hB hown hK hP 0 (by decide) rfl rfl kU_X4 1 (by decide) kF_X5_78 rfl rfl dX5_needCompany_9 ?_
    refine g_get (v := .ref (ad 9)) hx hb hB hown hK hP 8 (by decide) rfl rfl kU_X1 1 (by decide) kF_X5_121 rfl rfl dX5_needCompany_12 ?_
    refine lv_iload_n hx hb dX5_needCompany_15 rfl (lv_at hl 2 rfl) ?_
    obtain ⟨hin, hf⟩ := gd_e hf
    refine g_iald hx hb hK hP 9 4 (by decide) rfl hin dX5_needCompany_16 ?_
    refine lv_aload_n hx hb dX5_needCompany_17 rfl (lv_at hl 0 rfl) ?_
    refine g_get (v := .ref (ad 0)) hx hb hB hown hK hP 48 (by decide) rfl rfl kU_X5 1 (by decide) kF_X5_19 rfl rfl dX5_needCompany_18 ?_
    refine g_get (v := .ref (ad 8)) hx hb hB hown hK hP 0 (by decide) rfl rfl kU_X4 1 (by decide) kF_X5_78 rfl rfl dX5_needCompany_21 ?_
    refine g_get (v := .ref (ad 9)) hx hb hB hown hK hP 8 (by decide) rfl rfl kU_X1 1 (by decide) kF_X5_121 rfl rfl dX5_needCompany_24 ?_
    refine lv_iload_n hx hb dX5_needCompany_27 rfl (lv_at hl 1 rfl) ?_
    obtain ⟨hin, hf⟩ := gd_e hf
    refine g_iald hx hb hK hP 9 4 (by decide) rfl hin dX5_needCompany_28 ?_
    refine lv_icmp_eq (tgt := 42) hx hb dX5_needCompany_29 (by decide) (fun q3 => ?_) (fun q3 => ?_)
    · rw [if_pos q3] at hf
      obtain ⟨h0, h1⟩ := rt2 hf
      rw [hQ0 h0.symm]
      exact g_vret hx hb hr hlocks hP hS rfl dX5_needCompany_42
    · rw [if_neg q3] at hf
      exact hJ1 () _ _ ls hf hP hS (lv_sub hl [] rfl)
def f_X5_needOwned (σ : Mem) (a0 a1 : Int32) : Option (Nat × Int32) :=
bd (f_X5_goodsAt a0 a1) fun v1 =>
gd v1 20 <|
if 0 < (σ 14 v1.toNatClampNeg) then (
some (0, 0))
else (
some (3, 0))
set_option maxHeartbeats 4000000 in
set_option maxRecDepth 100000 in
theorem c_X5_needOwned {l : Launch} {D : va_G} {cI cJ : ClassId} {ad : Nat → Nat} {σ : Mem} {a0 a1 : Int32} {ex : Nat} {r : Int32} (hflag : l.stackTraces = false) (hi : injG 51 ad) (hf : f_X5_needOwned σ a0 a1 = some (ex, r)) : MGx l yX5_needOwned (Cond.code yX5_needOwned cX5_needOwned 3 none :: BIG) 6 90 D cI cJ 51 ad (EX ad cI) [.ref (ad 48), .int a0, .int a1] σ σ ex (fun sz => Qgv D 51 ad (EX ad cI) σ sz) := by
  refine MGx.ofW (cc := cX5_needOwned) (nL := 3) (ret := none) (by decide) rfl hi ?_
  intro p e R s m args below meth c Q hx hb hr hml hlocks hown hB hK hZ hP hA hAd hS hRf hRl hcell hout hQ0 hQ1
  have hown : s.vm.findClass RX5 = some m.cls := hown
  have hl := lv_entry ([.ref (ad 48), .int a0, .int a1] : List Value) (n := 3) (Nat.le_of_ble_eq_true rfl)
  rw [lg_entry_eq]
  generalize (lg_sl ([.ref (ad 48), .int a0, .int a1] : List Value) ++ List.replicate (3 - (lg_sl ([.ref (ad 48), .int a0, .int a1] : List Value)).length) Slot.unset).toArray = ls at hl ⊢
  have hl : lv_has ls 3 [(0, .ref (ad 48)), (1, .int a0), (2, .int a1)] := hl
  unfold f_X5_needOwned at hf
  refine lv_aload_n hx hb dX5_needOwned_0 rfl (lv_at hl 0 rfl) ?_
  refine g_get (v := .ref (ad 0)) hx hb hB hown hK hP 48 (by decide) rfl rfl kU_X5 1 (by decide) kF_X5_19 rfl rfl dX5_needOwned_1 ?_
  refine g_get (v := .ref (ad 8)) hx hb hB hown hK hP 0 (by decide) rfl rfl kU_X4 1 (by decide) kF_X5_78 rfl rfl dX5_needOwned_4 ?_
  refine g_get (v := .ref (ad 14)) hx hb hB hown hK hP 8 (by decide) rfl rfl kU_X1 6 (by decide) kF_X5_179 rfl rfl dX5_needOwned_7 ?_
  refine lv_iload_n hx hb dX5_needOwned_10 rfl (lv_at hl 1 rfl) ?_
  refine lv_iload_n hx hb dX5_needOwned_11 rfl (lv_at hl 2 rfl) ?_
  obtain ⟨v1, hv, hf⟩ := bd_e hf
  refine g_cSi0 ⟨⟨hx, hb, hml, hown, hB⟩, hK, hi, hA, hAd, hP, hS⟩ (c_X5_goodsAt hv) cal_X5_goodsAt kM_X5_133 ⟨Nat.le_trans (Nat.le_of_ble_eq_true rfl) hRf, Nat.le_trans (Nat.le_of_ble_eq_true rfl) hRl⟩ rfl hl.1 (Nat.le_of_ble_eq_true rfl) rfl dX5_needOwned_12 ⟨Nat.zero_le _, Nat.zero_le _⟩ (fun H locs hP hS => ?_)
  obtain ⟨hin, hf⟩ := gd_e hf
  refine g_iald hx hb hK hP 14 20 (by decide) rfl hin dX5_needOwned_15 ?_
  refine lv_if_gt (tgt := 29) hx hb dX5_needOwned_16 (by decide) (fun q2 => ?_) (fun q2 => ?_)
  · rw [if_pos q2] at hf
    obtain ⟨h0, h1⟩ := rt2 hf
    rw [hQ0 h0.symm]
    exact g_vret hx hb hr hlocks hP hS rfl dX5_needOwned_29
  · rw [if_neg q2] at hf
    obtain ⟨h0, -⟩ := rt2 hf
    rw [hQ1 (fun q => by rw [q] at h0; cases h0)]
    exact g_throw (text := "the actor has none of that kind") (e0 := 3) hx hb hflag hB hown hK hZ hP hS (hl.1.trans hml.symm) hlocks (hout (fun q => by rw [q] at h0; cases h0)) h0 rfl tt_X5_54_58 (by decide +kernel) dX5_needOwned_19 dX5_needOwned_22 dX5_needOwned_23 dX5_needOwned_25 dX5_needOwned_28 hRf hRl (hcell (fun q => by rw [q] at h0; cases h0)) (Nat.le_of_ble_eq_true rfl)
def f_X5_needTrade (σ : Mem) (a0 a1 : Int32) : Option (Nat × Int32) :=
bd (f_X2_hasShop σ a0) fun v1 =>
jn (fun (_ : Unit) =>
some (3, 0)) fun (J2 : Unit → Option (Nat × Int32)) =>
if v1 = 0 then (
J2 ())
else (
bd (f_X5_goodsAt a0 a1) fun v4 =>
gd v4 40 <|
if (σ 4 v4.toNatClampNeg) = 0 then (
J2 ())
else (
some (0, 0)))
set_option maxHeartbeats 4000000 in
set_option maxRecDepth 100000 in
theorem c_X5_needTrade {l : Launch} {D : va_G} {cI cJ : ClassId} {ad : Nat → Nat} {σ : Mem} {a0 a1 : Int32} {ex : Nat} {r : Int32} (hflag : l.stackTraces = false) (hi : injG 51 ad) (hf : f_X5_needTrade σ a0 a1 = some (ex, r)) : MGx l yX5_needTrade (Cond.code yX5_needTrade cX5_needTrade 3 none :: BIG) 6 90 D cI cJ 51 ad (EX ad cI) [.ref (ad 48), .int a0, .int a1] σ σ ex (fun sz => Qgv D 51 ad (EX ad cI) σ sz) := by
  refine MGx.ofW (cc := cX5_needTrade) (nL := 3) (ret := none) (by decide) rfl hi ?_
  intro p e R s m args below meth c Q hx hb hr hml hlocks hown hB hK hZ hP hA hAd hS hRf hRl hcell hout hQ0 hQ1
  have hown : s.vm.findClass RX5 = some m.cls := hown
  have hl := lv_entry ([.ref (ad 48), .int a0, .int a1] : List Value) (n := 3) (Nat.le_of_ble_eq_true rfl)
  rw [lg_entry_eq]
  generalize (lg_sl ([.ref (ad 48), .int a0, .int a1] : List Value) ++ List.replicate (3 - (lg_sl ([.ref (ad 48), .int a0, .int a1] : List Value)).length) Slot.unset).toArray = ls at hl ⊢
  have hl : lv_has ls 3 [(0, .ref (ad 48)), (1, .int a0), (2, .int a1)] := hl
  unfold f_X5_needTrade at hf
  refine lv_aload_n hx hb dX5_needTrade_0 rfl (lv_at hl 0 rfl) ?_
  refine g_get (v := .ref (ad 0)) hx hb hB hown hK hP 48 (by decide) rfl rfl kU_X5 1 (by decide) kF_X5_19 rfl rfl dX5_needTrade_1 ?_
  refine g_get (v := .ref (ad 1)) hx hb hB hown hK hP 0 (by decide) rfl rfl kU_X4 0 (by decide) kF_X5_40 rfl rfl dX5_needTrade_4 ?_
  refine lv_iload_n hx hb dX5_needTrade_7 rfl (lv_at hl 1 rfl) ?_
  obtain ⟨v1, hv, hf⟩ := bd_e hf
  refine g_cVi (τ := σ) ⟨⟨hx, hb, hml, hown, hB⟩, hK, hi, hA, hAd, hP, hS⟩ sub_now (c_X2_hasShop (hi_now hi) hv) (fun _ _ => rfl) cal_X2_hasShop kM_X5_67 ⟨Nat.le_trans (Nat.le_of_ble_eq_true rfl) hRf, Nat.le_trans (Nat.le_of_ble_eq_true rfl) hRl⟩ 1 (by decide) rfl rfl rfl rfl hl.1 (Nat.le_of_ble_eq_true rfl) rfl dX5_needTrade_8 ⟨Nat.zero_le _, Nat.zero_le _⟩ (fun _ _ => rfl) (fun _ _ _ => rfl) (fun H locs hP hS => ?_)
  obtain ⟨J2, eJ2, hf⟩ := jn_e0 hf
  have hJ2 : ∀ (_ : Unit) (H : Heap) (locs : List Loc) (ls : Array Slot), J2 () = some (ex, r) → va_P D vwCl (wsG 51 ad (EX ad cI) σ) H → va_S (AG 51 ad s.heap.size) s.heap H locs → lv_has ls 3 [] → W p l e R s m args below meth c H locs 0 0 Q (F0 m 33 ls []) := by
    intro _ H locs ls hf hP hS hl
    rw [eJ2] at hf
    obtain ⟨h0, -⟩ := rt2 hf
    rw [hQ1 (fun q => by rw [q] at h0; cases h0)]
    exact g_throwW (text := "that kind is not traded here") (e0 := 3) hx hb hflag hB hown hK hZ hP hS (hl.1.trans hml.symm) hlocks (hout (fun q => by rw [q] at h0; cases h0)) h0 rfl tt_X5_54_58 (by decide +kernel) dX5_needTrade_33 dX5_needTrade_36 dX5_needTrade_37 dX5_needTrade_40 dX5_needTrade_43 hRf hRl (hcell (fun q => by rw [q] at h0; cases h0)) (Nat.le_of_ble_eq_true rfl)
  refine lv_if_eq (tgt := 33) hx hb dX5_needTrade_11 (by decide) (fun q3 => ?_) (fun q3 => ?_)
  · rw [if_pos q3] at hf
    exact hJ2 () _ _ ls hf hP hS (lv_sub hl [] rfl)
  · rw [if_neg q3] at hf
    refine lv_aload_n hx hb dX5_needTrade_14 rfl (lv_at hl 0 rfl) ?_
    refine g_get (v := .ref (ad 0)) hx hb hB hown hK hP 48 (by decide) rfl rfl kU_X5 1 (by decide) kF_X5_19 rfl rfl dX5_needTrade_15 ?_
    refine g_get (v := .ref (ad 1)) hx hb hB hown hK hP 0 (by decide) rfl rfl kU_X4 0 (by decide) kF_X5_40 rfl rfl dX5_needTrade_18 ?_
    refine g_get (v := .ref (ad 4)) hx hb hB hown hK hP 1 (by decide) rfl rfl kU_X2 2 (by decide) kF_X5_161 rfl rfl dX5_needTrade_21 ?_
    refine lv_iload_n hx hb dX5_needTrade_24 rfl (lv_at hl 1 rfl) ?_
    refine lv_iload_n hx hb dX5_needTrade_25 rfl (lv_at hl 2 rfl) ?_
    obtain ⟨v4, hv, hf⟩ := bd_e hf
    refine g_cSi0 ⟨⟨hx, hb, hml, hown, hB⟩, hK, hi, hA, hAd, hP, hS⟩ (c_X5_goodsAt hv) cal_X5_goodsAt kM_X5_133 ⟨Nat.le_trans (Nat.le_of_ble_eq_true rfl) hRf, Nat.le_trans (Nat.le_of_ble_eq_true rfl) hRl⟩ rfl hl.1 (Nat.le_of_ble_eq_true rfl) rfl dX5_needTrade_26 ⟨Nat.zero_le _, Nat.zero_le _⟩ (fun H locs hP hS => ?_)
    obtain ⟨hin, hf⟩ := gd_e hf
    refine g_iald hx hb hK hP 4 40 (by decide) rfl hin dX5_needTrade_29 ?_
    refine lv_if_ne (tgt := 44) hx hb dX5_needTrade_30 (by decide) (fun q5 => ?_) (fun q5 => ?_)
    · rw [if_neg q5] at hf
      obtain ⟨h0, h1⟩ := rt2 hf
      rw [hQ0 h0.symm]
      exact g_vret hx hb hr hlocks hP hS rfl dX5_needTrade_44
    · rw [if_pos q5] at hf
      exact hJ2 () _ _ ls hf hP hS (lv_sub hl [] rfl)
def f_X5_keep (σ : Mem) (a0 a1 a2 a3 a4 : Int32) : Option (Int32 × Mem) :=
bd (f_X0_add σ a0 a1 a2 a3 a4) fun σ1 =>
bd2 (f_X4_play σ1 a0 a1 a2 a3 a4) fun v2 σ3 =>
stp (mgN σ3 σ1) fun σ4 =>
some (v2, σ4)
set_option maxHeartbeats 4000000 in
set_option maxRecDepth 100000 in
theorem c_X5_keep {l : Launch} {D : va_G} {cI cJ : ClassId} {ad : Nat → Nat} {σ : Mem} {a0 a1 a2 a3 a4 : Int32} {r : Int32} {σr : Mem}  (hi : injG 51 ad) (hf : f_X5_keep σ a0 a1 a2 a3 a4 = some (r, σr)) : MGi l yX5_keep (Cond.code yX5_keep cX5_keep 6 (some .int) :: BIG) 5 129 D cI cJ 51 ad (EX ad cI) [.ref (ad 48), .int a0, .int a1, .int a2, .int a3, .int a4] σ σr r := by
  refine MGi.ofW (cc := cX5_keep) (nL := 6) (ret := (some .int)) (by decide) rfl hi ?_
  intro p e s m args below meth c hx hb hr hml hlocks hown hB hK hP hA hAd hS
  have hown : s.vm.findClass RX5 = some m.cls := hown
  have hl := lv_entry ([.ref (ad 48), .int a0, .int a1, .int a2, .int a3, .int a4] : List Value) (n := 6) (Nat.le_of_ble_eq_true rfl)
  rw [lg_entry_eq]
  generalize (lg_sl ([.ref (ad 48), .int a0, .int a1, .int a2, .int a3, .int a4] : List Value) ++ List.replicate (6 - (lg_sl ([.ref (ad 48), .int a0, .int a1, .int a2, .int a3, .int a4] : List Value)).length) Slot.unset).toArray = ls at hl ⊢
  have hl : lv_has ls 6 [(0, .ref (ad 48)), (1, .int a0), (2, .int a1), (3, .int a2), (4, .int a3), (5, .int a4)] := hl
  generalize hQ : MQ below (Qgi D 51 ad (EX ad cI) r σr s.heap.size) _ s 0 0 (AG 51 ad s.heap.size) = Q
  have hQ := hQ.symm
  obtain ⟨R, hR, hRf, hRl⟩ : ∃ R : Room, R = ({ frames := 5, cells := 0, slots := 0, locals := 129 } : Room) ∧ 5 ≤ R.frames ∧ 129 ≤ R.locals := ⟨_, rfl, Nat.le_refl _, Nat.le_refl _⟩
  rw [← hR]
  unfold f_X5_keep at hf
  refine lv_aload_n hx hb dX5_keep_0 rfl (lv_at hl 0 rfl) ?_
  refine g_get (v := .ref (ad 49)) hx hb hB hown hK hP 48 (by decide) rfl rfl kU_X5 0 (by decide) kF_X5_10 rfl rfl dX5_keep_1 ?_
  refine lv_iload_n hx hb dX5_keep_4 rfl (lv_at hl 1 rfl) ?_
  refine lv_iload_n hx hb dX5_keep_5 rfl (lv_at hl 2 rfl) ?_
  refine lv_iload_n hx hb dX5_keep_6 rfl (lv_at hl 3 rfl) ?_
  refine lv_iload hx hb dX5_keep_7 (lv_at hl 4 rfl) ?_
  refine lv_iload hx hb dX5_keep_9 (lv_at hl 5 rfl) ?_
  obtain ⟨σ1, hv, hf⟩ := bd_e hf
  refine g_cVvS (k0 := 49) ⟨⟨hx, hb, hml, hown, hB⟩, hK, hi, hA, hAd, hP, hS⟩ (c_X0_add hi hv) cal_X0_add kM_X5_224 ⟨Nat.le_trans (Nat.le_of_ble_eq_true rfl) hRf, Nat.le_trans (Nat.le_of_ble_eq_true rfl) hRl⟩ (by decide) rfl rfl rfl hl.1 (Nat.le_of_ble_eq_true rfl) rfl dX5_keep_11 ⟨Nat.zero_le _, Nat.zero_le _⟩ (fun H locs hP hS => ?_)
  refine lv_aload_n hx hb dX5_keep_14 rfl (lv_at hl 0 rfl) ?_
  refine g_get (v := .ref (ad 0)) hx hb hB hown hK hP 48 (by decide) rfl rfl kU_X5 1 (by decide) kF_X5_19 rfl rfl dX5_keep_15 ?_
  refine lv_iload_n hx hb dX5_keep_18 rfl (lv_at hl 1 rfl) ?_
  refine lv_iload_n hx hb dX5_keep_19 rfl (lv_at hl 2 rfl) ?_
  refine lv_iload_n hx hb dX5_keep_20 rfl (lv_at hl 3 rfl) ?_
  refine lv_iload hx hb dX5_keep_21 (lv_at hl 4 rfl) ?_
  refine lv_iload hx hb dX5_keep_23 (lv_at hl 5 rfl) ?_
  obtain ⟨v2, σ3, hv, hf⟩ := bd2_e hf
  refine g_cVi (τ := (mgN σ3 σ1)) ⟨⟨hx, hb, hml, hown, hB⟩, hK, hi, hA, hAd, hP, hS⟩ sub_now (c_X4_play (hi_now hi) hv) (fun _ _ => rfl) cal_X4_play kM_X5_228 ⟨Nat.le_trans (Nat.le_of_ble_eq_true rfl) hRf, Nat.le_trans (Nat.le_of_ble_eq_true rfl) hRl⟩ 0 (by decide) rfl rfl rfl rfl hl.1 (Nat.le_of_ble_eq_true rfl) rfl dX5_keep_25 ⟨Nat.zero_le _, Nat.zero_le _⟩ (mgN_1 _ _) (mgN_2 _ _) (fun H locs hP hS => ?_)
  obtain ⟨σ4, eσ4, hf⟩ := stp_e hf
  rw [← eσ4] at hP
  obtain ⟨h1, h2⟩ := rt2 hf
  rw [hQ]
  exact g_iret hx hb hr hlocks hP hS h1 h2 dX5_keep_28
def L_X5_worldAfter_34 : Nat → (Mem → Option (Nat × Int32 × Mem)) → Int32 → Int32 → Mem → Option (Nat × Int32 × Mem)
  | 0, _, _, _, _ => none
  | n + 1, k, x7, x8, σ9 =>
    if x7 ≤ x8 then (
    k σ9)
    else (
    gd (x8 * 5) 2560 <|
    gd ((x8 * 5) + 1) 2560 <|
    gd ((x8 * 5) + 2) 2560 <|
    gd ((x8 * 5) + 3) 2560 <|
    gd ((x8 * 5) + 4) 2560 <|
    bd2 (f_X4_play (sh σ9) (σ9 50 (x8 * 5).toNatClampNeg) (σ9 50 ((x8 * 5) + 1).toNatClampNeg) (σ9 50 ((x8 * 5) + 2).toNatClampNeg) (σ9 50 ((x8 * 5) + 3).toNatClampNeg) (σ9 50 ((x8 * 5) + 4).toNatClampNeg)) fun v13 σ14 =>
    stp (mgP σ14 σ9) fun σ15 =>
    L_X5_worldAfter_34 n k x7 (x8 + 1) σ15)
def f_X5_worldAfter (σ : Mem) (a0 : Int32) : Option (Nat × Int32 × Mem) :=
jn (fun (σ1 : Mem) =>
some (1, 0, σ1)) fun (J2 : Mem → Option (Nat × Int32 × Mem)) =>
if a0 < 0 then (
J2 σ)
else (
if a0 ≤ (σ 49 1) then (
bd (f_X4_clear (sh σ)) fun σ5 =>
stp (mgP σ5 σ) fun σ6 =>
L_X5_worldAfter_34 FU (fun (σ11 : Mem) =>
some (0, 0, σ11)) a0 0 σ6)
else (
J2 σ))
set_option maxHeartbeats 4000000 in
set_option maxRecDepth 100000 in
theorem c_X5_worldAfter {l : Launch} {D : va_G} {cI cJ : ClassId} {ad : Nat → Nat} {σ : Mem} {a0 : Int32} {ex : Nat} {r : Int32} {σr : Mem} (hflag : l.stackTraces = false) (hi : injG 51 ad) (hf : f_X5_worldAfter σ a0 = some (ex, r, σr)) : MGx l yX5_worldAfter (Cond.code yX5_worldAfter cX5_worldAfter 4 (some (.object "MudCouncil$World")) :: BIG) 6 129 D cI cJ 51 ad (EX ad cI) [.ref (ad 48), .int a0] σ σr ex (fun sz => Qgr D 51 ad (EX ad cI) (ad 24) σr sz) := by
  refine MGx.ofW (cc := cX5_worldAfter) (nL := 4) (ret := (some (.object "MudCouncil$World"))) (by decide) rfl hi ?_
  intro p e R s m args below meth c Q hx hb hr hml hlocks hown hB hK hZ hP hA hAd hS hRf hRl hcell hout hQ0 hQ1
  have hown : s.vm.findClass RX5 = some m.cls := hown
  have hl := lv_entry ([.ref (ad 48), .int a0] : List Value) (n := 4) (Nat.le_of_ble_eq_true rfl)
  rw [lg_entry_eq]
  generalize (lg_sl ([.ref (ad 48), .int a0] : List Value) ++ List.replicate (4 - (lg_sl ([.ref (ad 48), .int a0] : List Value)).length) Slot.unset).toArray = ls at hl ⊢
  have hl : lv_has ls 4 [(0, .ref (ad 48)), (1, .int a0)] := hl
  unfold f_X5_worldAfter at hf
  refine lv_iload_n hx hb dX5_worldAfter_0 rfl (lv_at hl 1 rfl) ?_
  obtain ⟨J2, eJ2, hf⟩ := jn_e1 hf
  have hJ2 : ∀ (σ1 : Mem) (H : Heap) (locs : List Loc) (ls : Array Slot), J2 σ1 = some (ex, r, σr) → va_P D vwCl (wsG 51 ad (EX ad cI) σ1) H → va_S (AG 51 ad s.heap.size) s.heap H locs → lv_has ls 4 [] → W p l e R s m args below meth c H locs 0 0 Q (F0 m 15 ls []) := by
    intro σ1 H locs ls hf hP hS hl
    rw [eJ2] at hf
    obtain ⟨h0, -, h2⟩ := rt3 hf
    rw [hQ1 (fun q => by rw [q] at h0; cases h0)]
    exact g_throw (text := "there were not so many calls") (e0 := 1) hx hb hflag hB hown hK hZ hP hS (hl.1.trans hml.symm) hlocks (hout (fun q => by rw [q] at h0; cases h0)) h0 h2 tt_X5_185_189 (by decide +kernel) dX5_worldAfter_15 dX5_worldAfter_18 dX5_worldAfter_19 dX5_worldAfter_21 dX5_worldAfter_24 hRf hRl (hcell (fun q => by rw [q] at h0; cases h0)) (Nat.le_of_ble_eq_true rfl)
  refine lv_if_lt (tgt := 15) hx hb dX5_worldAfter_1 (by decide) (fun q3 => ?_) (fun q3 => ?_)
  · rw [if_pos q3] at hf
    exact hJ2 σ _ _ ls hf hP hS (lv_sub hl [] rfl)
  · rw [if_neg q3] at hf
    refine lv_iload_n hx hb dX5_worldAfter_4 rfl (lv_at hl 1 rfl) ?_
    refine lv_aload_n hx hb dX5_worldAfter_5 rfl (lv_at hl 0 rfl) ?_
    refine g_get (v := .ref (ad 49)) hx hb hB hown hK hP 48 (by decide) rfl rfl kU_X5 0 (by decide) kF_X5_10 rfl rfl dX5_worldAfter_6 ?_
    refine g_get (v := .int (σ 49 1)) hx hb hB hown hK hP 49 (by decide) rfl rfl kU_X0 1 (by decide) kF_X5_215 rfl rfl dX5_worldAfter_9 ?_
    refine lv_icmp_le (tgt := 25) hx hb dX5_worldAfter_12 (by decide) (fun q4 => ?_) (fun q4 => ?_)
    · rw [if_pos q4] at hf
      refine lv_aload_n hx hb dX5_worldAfter_25 rfl (lv_at hl 0 rfl) ?_
      refine g_get (v := .ref (ad 24)) hx hb hB hown hK hP 48 (by decide) rfl rfl kU_X5 2 (by decide) kF_X5_23 rfl rfl dX5_worldAfter_26 ?_
      obtain ⟨σ5, hv, hf⟩ := bd_e hf
      refine g_cVv (τ := (mgP σ5 σ)) ⟨⟨hx, hb, hml, hown, hB⟩, hK, hi, hA, hAd, hP, hS⟩ sub_past (c_X4_clear (hi_past hi) hv) (fun _ _ => rfl) cal_X4_clear kM_X5_233 ⟨Nat.le_trans (Nat.le_of_ble_eq_true rfl) hRf, Nat.le_trans (Nat.le_of_ble_eq_true rfl) hRl⟩ 0 (by decide) rfl rfl rfl rfl hl.1 (Nat.le_of_ble_eq_true rfl) rfl dX5_worldAfter_29 ⟨Nat.zero_le _, Nat.zero_le _⟩ (mgP_1 _ _) (mgP_2 _ _) (fun H locs hP hS => ?_)
      obtain ⟨σ6, eσ6, hf⟩ := stp_e hf
      rw [← eσ6] at hP
      refine lv_iconst (v := 0) hx hb dX5_worldAfter_32 (by decide) ?_
      refine lv_istore_n (lv' := [(2, .int 0), (0, .ref (ad 48)), (1, .int a0)]) hx hb dX5_worldAfter_33 rfl hl (by decide) rfl (fun ls hl => ?_)
      obtain ⟨K10, eK10, hf⟩ := lp_e1 (b := fun K => L_X5_worldAfter_34 FU K a0 0 σ6) hf
      replace hf : L_X5_worldAfter_34 FU K10 a0 0 σ6 = some (ex, r, σr) := hf
      have hKK10 : ∀ (σ11 : Mem) (H : Heap) (locs : List Loc) (ls : Array Slot), K10 σ11 = some (ex, r, σr) → va_P D vwCl (wsG 51 ad (EX ad cI) σ11) H → va_S (AG 51 ad s.heap.size) s.heap H locs → lv_has ls 4 [(0, .ref (ad 48))] → W p l e R s m args below meth c H locs 0 0 Q (F0 m 110 ls []) := by
        intro σ11 H locs ls hf hP hS hl
        rw [eK10] at hf
        refine lv_aload_n hx hb dX5_worldAfter_110 rfl (lv_at hl 0 rfl) ?_
        refine g_get (v := .ref (ad 24)) hx hb hB hown hK hP 48 (by decide) rfl rfl kU_X5 2 (by decide) kF_X5_23 rfl rfl dX5_worldAfter_111 ?_
        obtain ⟨h0, h1, h2⟩ := rt3 hf
        rw [hQ0 h0.symm]
        exact g_aret hx hb hr ⟨_, rfl⟩ hlocks hP hS h2 dX5_worldAfter_114
      have hL_X5_worldAfter_34 : ∀ (n : Nat) (x8 : Int32) (σ9 : Mem) (H : Heap) (locs : List Loc) (ls : Array Slot), L_X5_worldAfter_34 n K10 a0 x8 σ9 = some (ex, r, σr) → va_P D vwCl (wsG 51 ad (EX ad cI) σ9) H → va_S (AG 51 ad s.heap.size) s.heap H locs → lv_has ls 4 [(0, .ref (ad 48)), (1, .int a0), (2, .int x8)] → W p l e R s m args below meth c H locs 0 0 Q (F0 m 34 ls []) := by
        intro n
        induction n with
        | zero => intro x8 σ9 H locs ls hf; cases hf
        | succ n ih =>
          intro x8 σ9 H locs ls hf hP hS hl
          rw [L_X5_worldAfter_34] at hf
          refine lv_iload_n hx hb dX5_worldAfter_34 rfl (lv_at hl 2 rfl) ?_
          refine lv_iload_n hx hb dX5_worldAfter_35 rfl (lv_at hl 1 rfl) ?_
          refine lv_icmp_ge (tgt := 110) hx hb dX5_worldAfter_36 (by decide) (fun q12 => ?_) (fun q12 => ?_)
          · rw [if_pos q12] at hf
            exact hKK10 σ9 _ _ ls hf hP hS (lv_sub hl [0] rfl)
          · rw [if_neg q12] at hf
            refine lv_iload_n hx hb dX5_worldAfter_39 rfl (lv_at hl 2 rfl) ?_
            refine lv_iconst (v := 5) hx hb dX5_worldAfter_40 (by decide) ?_
            refine lv_imul hx hb dX5_worldAfter_41 ?_
            refine lv_istore_n (lv' := [(3, .int (x8 * 5)), (0, .ref (ad 48)), (1, .int a0), (2, .int x8)]) hx hb dX5_worldAfter_42 rfl hl (by decide) rfl (fun ls hl => ?_)
            refine lv_aload_n hx hb dX5_worldAfter_43 rfl (lv_at hl 1 rfl) ?_
            refine g_get (v := .ref (ad 24)) hx hb hB hown hK hP 48 (by decide) rfl rfl kU_X5 2 (by decide) kF_X5_23 rfl rfl dX5_worldAfter_44 ?_
            refine lv_aload_n hx hb dX5_worldAfter_47 rfl (lv_at hl 1 rfl) ?_
            refine g_get (v := .ref (ad 49)) hx hb hB hown hK hP 48 (by decide) rfl rfl kU_X5 0 (by decide) kF_X5_10 rfl rfl dX5_worldAfter_48 ?_
            refine g_get (v := .ref (ad 50)) hx hb hB hown hK hP 49 (by decide) rfl rfl kU_X0 0 (by decide) kF_X5_236 rfl rfl dX5_worldAfter_51 ?_
            refine lv_iload_n hx hb dX5_worldAfter_54 rfl (lv_at hl 0 rfl) ?_
            obtain ⟨hin, hf⟩ := gd_e hf
            refine g_iald hx hb hK hP 50 2560 (by decide) rfl hin dX5_worldAfter_55 ?_
            refine lv_aload_n hx hb dX5_worldAfter_56 rfl (lv_at hl 1 rfl) ?_
            refine g_get (v := .ref (ad 49)) hx hb hB hown hK hP 48 (by decide) rfl rfl kU_X5 0 (by decide) kF_X5_10 rfl rfl dX5_worldAfter_57 ?_
            refine g_get (v := .ref (ad 50)) hx hb hB hown hK hP 49 (by decide) rfl rfl kU_X0 0 (by decide) kF_X5_236 rfl rfl dX5_worldAfter_60 ?_
            refine lv_iload_n hx hb dX5_worldAfter_63 rfl (lv_at hl 0 rfl) ?_
            refine lv_iconst (v := 1) hx hb dX5_worldAfter_64 (by decide) ?_
            refine lv_iadd hx hb dX5_worldAfter_65 ?_
            obtain ⟨hin, hf⟩ := gd_e hf
            refine g_iald hx hb hK hP 50 2560 (by decide) rfl hin dX5_worldAfter_66 ?_
            refine lv_aload_n hx hb dX5_worldAfter_67 rfl (lv_at hl 1 rfl) ?_
            refine g_get (v := .ref (ad 49)) hx hb hB hown hK hP 48 (by decide) rfl rfl kU_X5 0 (by decide) kF_X5_10 rfl rfl dX5_worldAfter_68 ?_
            refine g_get (v := .ref (ad 50)) hx hb hB hown hK hP 49 (by decide) rfl rfl kU_X0 0 (by decide) kF_X5_236 rfl rfl dX5_worldAfter_71 ?_
            refine lv_iload_n hx hb dX5_worldAfter_74 rfl (lv_at hl 0 rfl) ?_
            refine lv_iconst (v := 2) hx hb dX5_worldAfter_75 (by decide) ?_
            refine lv_iadd hx hb dX5_worldAfter_76 ?_
            obtain ⟨hin, hf⟩ := gd_e hf
            refine g_iald hx hb hK hP 50 2560 (by decide) rfl hin dX5_worldAfter_77 ?_
            refine lv_aload_n hx hb dX5_worldAfter_78 rfl (lv_at hl 1 rfl) ?_
            refine g_get (v := .ref (ad 49)) hx hb hB hown hK hP 48 (by decide) rfl rfl kU_X5 0 (by decide) kF_X5_10 rfl rfl dX5_worldAfter_79 ?_
            refine g_get (v := .ref (ad 50)) hx hb hB hown hK hP 49 (by decide) rfl rfl kU_X0 0 (by decide) kF_X5_236 rfl rfl dX5_worldAfter_82 ?_
            refine lv_iload_n hx hb dX5_worldAfter_85 rfl (lv_at hl 0 rfl) ?_
            refine lv_iconst (v := 3) hx hb dX5_worldAfter_86 (by decide) ?_
            refine lv_iadd hx hb dX5_worldAfter_87 ?_
            obtain ⟨hin, hf⟩ := gd_e hf
            refine g_iald hx hb hK hP 50 2560 (by decide) rfl hin dX5_worldAfter_88 ?_
            refine lv_aload_n hx hb dX5_worldAfter_89 rfl (lv_at hl 1 rfl) ?_
            refine g_get (v := .ref (ad 49)) hx hb hB hown hK hP 48 (by decide) rfl rfl kU_X5 0 (by decide) kF_X5_10 rfl rfl dX5_worldAfter_90 ?_
            refine g_get (v := .ref (ad 50)) hx hb hB hown hK hP 49 (by decide) rfl rfl kU_X0 0 (by decide) kF_X5_236 rfl rfl dX5_worldAfter_93 ?_
            refine lv_iload_n hx hb dX5_worldAfter_96 rfl (lv_at hl 0 rfl) ?_
            refine lv_iconst (v := 4) hx hb dX5_worldAfter_97 (by decide) ?_
            refine lv_iadd hx hb dX5_worldAfter_98 ?_
            obtain ⟨hin, hf⟩ := gd_e hf
            refine g_iald hx hb hK hP 50 2560 (by decide) rfl hin dX5_worldAfter_99 ?_
            obtain ⟨v13, σ14, hv, hf⟩ := bd2_e hf
            refine g_cVi (τ := (mgP σ14 σ9)) ⟨⟨hx, hb, hml, hown, hB⟩, hK, hi, hA, hAd, hP, hS⟩ sub_past (c_X4_play (hi_past hi) hv) (fun _ _ => rfl) cal_X4_play kM_X5_228 ⟨Nat.le_trans (Nat.le_of_ble_eq_true rfl) hRf, Nat.le_trans (Nat.le_of_ble_eq_true rfl) hRl⟩ 0 (by decide) rfl rfl rfl rfl hl.1 (Nat.le_of_ble_eq_true rfl) rfl dX5_worldAfter_100 ⟨Nat.zero_le _, Nat.zero_le _⟩ (mgP_1 _ _) (mgP_2 _ _) (fun H locs hP hS => ?_)
            obtain ⟨σ15, eσ15, hf⟩ := stp_e hf
            rw [← eσ15] at hP
            refine lv_pop hx hb dX5_worldAfter_103 rfl ?_
            refine lv_iinc (v := (x8 + 1)) (lv' := [(2, .int (x8 + 1)), (3, .int (x8 * 5)), (0, .ref (ad 48)), (1, .int a0)]) hx hb dX5_worldAfter_104 hl (k := 3) rfl rfl (by decide) rfl (fun ls hl => ?_)
            refine lv_goto (tgt := 34) hx hb dX5_worldAfter_107 (by decide) ?_
            exact ih (x8 + 1) σ15 _ _ ls hf hP hS (lv_sub hl [2, 3, 0] rfl)
      exact hL_X5_worldAfter_34 FU 0 σ6 _ _ ls hf hP hS (lv_sub hl [1, 2, 0] rfl)
    · rw [if_neg q4] at hf
      exact hJ2 σ _ _ ls hf hP hS (lv_sub hl [] rfl)
def f_X5_link (σ : Mem) (a0 a1 a2 : Int32) : Option (Nat × Int32 × Mem) :=
bt (f_X5_needRoom a0) (fun n2 => some (n2, 0, σ)) fun v1 =>
bt (f_X5_needDirection a1) (fun n4 => some (n4, 0, σ)) fun v3 =>
bt (f_X5_needRoom a2) (fun n6 => some (n6, 0, σ)) fun v5 =>
if a0 = a2 then (
some (2, 0, σ))
else (
bd (f_X2_exitFrom σ a0 a1) fun v8 =>
jn (fun (σ9 : Mem) =>
some (3, 0, σ9)) fun (J10 : Mem → Option (Nat × Int32 × Mem)) =>
if v8 = (-1) then (
bd (f_X5_opposite a1) fun v12 =>
bd (f_X2_exitFrom σ a2 v12) fun v13 =>
if v13 = (-1) then (
bd2 (f_X5_keep σ 0 a0 a1 a2 0) fun v15 σ16 =>
some (0, 0, σ16))
else (
J10 σ))
else (
J10 σ))
set_option maxHeartbeats 4000000 in
set_option maxRecDepth 100000 in
theorem c_X5_link {l : Launch} {D : va_G} {cI cJ : ClassId} {ad : Nat → Nat} {σ : Mem} {a0 a1 a2 : Int32} {ex : Nat} {r : Int32} {σr : Mem} (hflag : l.stackTraces = false) (hi : injG 51 ad) (hf : f_X5_link σ a0 a1 a2 = some (ex, r, σr)) : MGx l yX5_link (Cond.code yX5_link cX5_link 4 none :: BIG) 7 154 D cI cJ 51 ad (EX ad cI) [.ref (ad 48), .int a0, .int a1, .int a2] σ σr ex (fun sz => Qgv D 51 ad (EX ad cI) σr sz) := by
  refine MGx.ofW (cc := cX5_link) (nL := 4) (ret := none) (by decide) rfl hi ?_
  intro p e R s m args below meth c Q hx hb hr hml hlocks hown hB hK hZ hP hA hAd hS hRf hRl hcell hout hQ0 hQ1
  have hown : s.vm.findClass RX5 = some m.cls := hown
  have hl := lv_entry ([.ref (ad 48), .int a0, .int a1, .int a2] : List Value) (n := 4) (Nat.le_of_ble_eq_true rfl)
  rw [lg_entry_eq]
  generalize (lg_sl ([.ref (ad 48), .int a0, .int a1, .int a2] : List Value) ++ List.replicate (4 - (lg_sl ([.ref (ad 48), .int a0, .int a1, .int a2] : List Value)).length) Slot.unset).toArray = ls at hl ⊢
  have hl : lv_has ls 4 [(0, .ref (ad 48)), (1, .int a0), (2, .int a1), (3, .int a2)] := hl
  unfold f_X5_link at hf
  refine lv_iload_n hx hb dX5_link_0 rfl (lv_at hl 1 rfl) ?_
  rcases bt_e hf with ⟨v1, hv, hf⟩ | ⟨n2, v1, hn, hv, hf⟩
  · refine g_xSv0 ⟨⟨hx, hb, hml, hown, hB⟩, hK, hi, hA, hAd, hP, hS⟩ hZ (c_X5_needRoom hflag hv) cal_X5_needRoom kM_X5_26 ⟨Nat.le_trans (Nat.le_of_ble_eq_true rfl) hRf, Nat.le_trans (Nat.le_of_ble_eq_true rfl) hRl⟩ rfl hl.1 (Nat.le_of_ble_eq_true rfl) rfl dX5_link_1 (fun H locs hP hS => ?_)
    refine lv_iload_n hx hb dX5_link_4 rfl (lv_at hl 2 rfl) ?_
    rcases bt_e hf with ⟨v3, hv, hf⟩ | ⟨n4, v3, hn, hv, hf⟩
    · refine g_xSv0 ⟨⟨hx, hb, hml, hown, hB⟩, hK, hi, hA, hAd, hP, hS⟩ hZ (c_X5_needDirection hflag hv) cal_X5_needDirection kM_X5_30 ⟨Nat.le_trans (Nat.le_of_ble_eq_true rfl) hRf, Nat.le_trans (Nat.le_of_ble_eq_true rfl) hRl⟩ rfl hl.1 (Nat.le_of_ble_eq_true rfl) rfl dX5_link_5 (fun H locs hP hS => ?_)
      refine lv_iload_n hx hb dX5_link_8 rfl (lv_at hl 3 rfl) ?_
      rcases bt_e hf with ⟨v5, hv, hf⟩ | ⟨n6, v5, hn, hv, hf⟩
      · refine g_xSv0 ⟨⟨hx, hb, hml, hown, hB⟩, hK, hi, hA, hAd, hP, hS⟩ hZ (c_X5_needRoom hflag hv) cal_X5_needRoom kM_X5_26 ⟨Nat.le_trans (Nat.le_of_ble_eq_true rfl) hRf, Nat.le_trans (Nat.le_of_ble_eq_true rfl) hRl⟩ rfl hl.1 (Nat.le_of_ble_eq_true rfl) rfl dX5_link_9 (fun H locs hP hS => ?_)
        refine lv_iload_n hx hb dX5_link_12 rfl (lv_at hl 1 rfl) ?_
        refine lv_iload_n hx hb dX5_link_13 rfl (lv_at hl 3 rfl) ?_
        refine lv_icmp_ne (tgt := 27) hx hb dX5_link_14 (by decide) (fun q7 => ?_) (fun q7 => ?_)
        · rw [if_neg q7] at hf
          refine lv_aload_n hx hb dX5_link_27 rfl (lv_at hl 0 rfl) ?_
          refine g_get (v := .ref (ad 0)) hx hb hB hown hK hP 48 (by decide) rfl rfl kU_X5 1 (by decide) kF_X5_19 rfl rfl dX5_link_28 ?_
          refine g_get (v := .ref (ad 1)) hx hb hB hown hK hP 0 (by decide) rfl rfl kU_X4 0 (by decide) kF_X5_40 rfl rfl dX5_link_31 ?_
          refine lv_iload_n hx hb dX5_link_34 rfl (lv_at hl 1 rfl) ?_
          refine lv_iload_n hx hb dX5_link_35 rfl (lv_at hl 2 rfl) ?_
          obtain ⟨v8, hv, hf⟩ := bd_e hf
          refine g_cVi (τ := σ) ⟨⟨hx, hb, hml, hown, hB⟩, hK, hi, hA, hAd, hP, hS⟩ sub_now (c_X2_exitFrom (hi_now hi) hv) (fun _ _ => rfl) cal_X2_exitFrom kM_X5_44 ⟨Nat.le_trans (Nat.le_of_ble_eq_true rfl) hRf, Nat.le_trans (Nat.le_of_ble_eq_true rfl) hRl⟩ 1 (by decide) rfl rfl rfl rfl hl.1 (Nat.le_of_ble_eq_true rfl) rfl dX5_link_36 ⟨Nat.zero_le _, Nat.zero_le _⟩ (fun _ _ => rfl) (fun _ _ _ => rfl) (fun H locs hP hS => ?_)
          refine lv_iconst (v := (-1)) hx hb dX5_link_39 (by decide) ?_
          obtain ⟨J10, eJ10, hf⟩ := jn_e1 hf
          have hJ10 : ∀ (σ9 : Mem) (H : Heap) (locs : List Loc) (ls : Array Slot), J10 σ9 = some (ex, r, σr) → va_P D vwCl (wsG 51 ad (EX ad cI) σ9) H → va_S (AG 51 ad s.heap.size) s.heap H locs → lv_has ls 4 [] → W p l e R s m args below meth c H locs 0 0 Q (F0 m 62 ls []) := by
            intro σ9 H locs ls hf hP hS hl
            rw [eJ10] at hf
            obtain ⟨h0, -, h2⟩ := rt3 hf
            rw [hQ1 (fun q => by rw [q] at h0; cases h0)]
            exact g_throw (text := "one of both exits is there already") (e0 := 3) hx hb hflag hB hown hK hZ hP hS (hl.1.trans hml.symm) hlocks (hout (fun q => by rw [q] at h0; cases h0)) h0 h2 tt_X5_54_58 (by decide +kernel) dX5_link_62 dX5_link_65 dX5_link_66 dX5_link_68 dX5_link_71 hRf hRl (hcell (fun q => by rw [q] at h0; cases h0)) (Nat.le_of_ble_eq_true rfl)
          refine lv_icmp_ne (tgt := 62) hx hb dX5_link_40 (by decide) (fun q11 => ?_) (fun q11 => ?_)
          · rw [if_neg q11] at hf
            exact hJ10 σ _ _ ls hf hP hS (lv_sub hl [] rfl)
          · rw [if_pos q11] at hf
            refine lv_aload_n hx hb dX5_link_43 rfl (lv_at hl 0 rfl) ?_
            refine g_get (v := .ref (ad 0)) hx hb hB hown hK hP 48 (by decide) rfl rfl kU_X5 1 (by decide) kF_X5_19 rfl rfl dX5_link_44 ?_
            refine g_get (v := .ref (ad 1)) hx hb hB hown hK hP 0 (by decide) rfl rfl kU_X4 0 (by decide) kF_X5_40 rfl rfl dX5_link_47 ?_
            refine lv_iload_n hx hb dX5_link_50 rfl (lv_at hl 3 rfl) ?_
            refine lv_iload_n hx hb dX5_link_51 rfl (lv_at hl 2 rfl) ?_
            obtain ⟨v12, hv, hf⟩ := bd_e hf
            refine g_cSi0 ⟨⟨hx, hb, hml, hown, hB⟩, hK, hi, hA, hAd, hP, hS⟩ (c_X5_opposite hv) cal_X5_opposite kM_X5_50 ⟨Nat.le_trans (Nat.le_of_ble_eq_true rfl) hRf, Nat.le_trans (Nat.le_of_ble_eq_true rfl) hRl⟩ rfl hl.1 (Nat.le_of_ble_eq_true rfl) rfl dX5_link_52 ⟨Nat.zero_le _, Nat.zero_le _⟩ (fun H locs hP hS => ?_)
            obtain ⟨v13, hv, hf⟩ := bd_e hf
            refine g_cVi (τ := σ) ⟨⟨hx, hb, hml, hown, hB⟩, hK, hi, hA, hAd, hP, hS⟩ sub_now (c_X2_exitFrom (hi_now hi) hv) (fun _ _ => rfl) cal_X2_exitFrom kM_X5_44 ⟨Nat.le_trans (Nat.le_of_ble_eq_true rfl) hRf, Nat.le_trans (Nat.le_of_ble_eq_true rfl) hRl⟩ 1 (by decide) rfl rfl rfl rfl hl.1 (Nat.le_of_ble_eq_true rfl) rfl dX5_link_55 ⟨Nat.zero_le _, Nat.zero_le _⟩ (fun _ _ => rfl) (fun _ _ _ => rfl) (fun H locs hP hS => ?_)
            refine lv_iconst (v := (-1)) hx hb dX5_link_58 (by decide) ?_
            refine lv_icmp_eq (tgt := 72) hx hb dX5_link_59 (by decide) (fun q14 => ?_) (fun q14 => ?_)
            · rw [if_pos q14] at hf
              refine lv_aload_n hx hb dX5_link_72 rfl (lv_at hl 0 rfl) ?_
              refine lv_iconst (v := 0) hx hb dX5_link_73 (by decide) ?_
              refine lv_iload_n hx hb dX5_link_74 rfl (lv_at hl 1 rfl) ?_
              refine lv_iload_n hx hb dX5_link_75 rfl (lv_at hl 2 rfl) ?_
              refine lv_iload_n hx hb dX5_link_76 rfl (lv_at hl 3 rfl) ?_
              refine lv_iconst (v := 0) hx hb dX5_link_77 (by decide) ?_
              obtain ⟨v15, σ16, hv, hf⟩ := bd2_e hf
              refine g_cViS (k0 := 48) ⟨⟨hx, hb, hml, hown, hB⟩, hK, hi, hA, hAd, hP, hS⟩ (c_X5_keep hi hv) cal_X5_keep kM_X5_59 ⟨Nat.le_trans (Nat.le_of_ble_eq_true rfl) hRf, Nat.le_trans (Nat.le_of_ble_eq_true rfl) hRl⟩ (by decide) rfl rfl rfl hl.1 (Nat.le_of_ble_eq_true rfl) rfl dX5_link_78 ⟨Nat.zero_le _, Nat.zero_le _⟩ (fun H locs hP hS => ?_)
              refine lv_pop hx hb dX5_link_81 rfl ?_
              obtain ⟨h0, h1, h2⟩ := rt3 hf
              rw [hQ0 h0.symm]
              exact g_vret hx hb hr hlocks hP hS h2 dX5_link_82
            · rw [if_neg q14] at hf
              exact hJ10 σ _ _ ls hf hP hS (lv_sub hl [] rfl)
        · rw [if_pos q7] at hf
          obtain ⟨h0, -, h2⟩ := rt3 hf
          rw [hQ1 (fun q => by rw [q] at h0; cases h0)]
          exact g_throw (text := "both rooms are the same") (e0 := 2) hx hb hflag hB hown hK hZ hP hS (hl.1.trans hml.symm) hlocks (hout (fun q => by rw [q] at h0; cases h0)) h0 h2 tt_X5_33_37 (by decide +kernel) dX5_link_17 dX5_link_20 dX5_link_21 dX5_link_23 dX5_link_26 hRf hRl (hcell (fun q => by rw [q] at h0; cases h0)) (Nat.le_of_ble_eq_true rfl)
      · obtain ⟨h0, -, h2⟩ := rt3 hf
        have hne : ¬ ex = 0 := fun q => hn (h0.trans q)
        rw [hQ1 hne]
        refine g_xSx0 ⟨⟨hx, hb, hml, hown, hB⟩, hK, hi, hA, hAd, hP, hS⟩ hZ (c_X5_needRoom hflag hv) hn cal_X5_needRoom kM_X5_26 ⟨Nat.le_trans (Nat.le_of_ble_eq_true rfl) hRf, Nat.le_trans (Nat.le_of_ble_eq_true rfl) hRl⟩ rfl hl.1 (Nat.le_of_ble_eq_true rfl) rfl dX5_link_9 (hcell hne) (fun q9 ce H locs hP hS hc1 hc2 hc3 => ?_)
        exact g_xout (hout hne) hlocks hc1 hc2 hc3 h0 h2 hP hS
    · obtain ⟨h0, -, h2⟩ := rt3 hf
      have hne : ¬ ex = 0 := fun q => hn (h0.trans q)
      rw [hQ1 hne]
      refine g_xSx0 ⟨⟨hx, hb, hml, hown, hB⟩, hK, hi, hA, hAd, hP, hS⟩ hZ (c_X5_needDirection hflag hv) hn cal_X5_needDirection kM_X5_30 ⟨Nat.le_trans (Nat.le_of_ble_eq_true rfl) hRf, Nat.le_trans (Nat.le_of_ble_eq_true rfl) hRl⟩ rfl hl.1 (Nat.le_of_ble_eq_true rfl) rfl dX5_link_5 (hcell hne) (fun q9 ce H locs hP hS hc1 hc2 hc3 => ?_)
      exact g_xout (hout hne) hlocks hc1 hc2 hc3 h0 h2 hP hS
  · obtain ⟨h0, -, h2⟩ := rt3 hf
    have hne : ¬ ex = 0 := fun q => hn (h0.trans q)
    rw [hQ1 hne]
    refine g_xSx0 ⟨⟨hx, hb, hml, hown, hB⟩, hK, hi, hA, hAd, hP, hS⟩ hZ (c_X5_needRoom hflag hv) hn cal_X5_needRoom kM_X5_26 ⟨Nat.le_trans (Nat.le_of_ble_eq_true rfl) hRf, Nat.le_trans (Nat.le_of_ble_eq_true rfl) hRl⟩ rfl hl.1 (Nat.le_of_ble_eq_true rfl) rfl dX5_link_1 (hcell hne) (fun q9 ce H locs hP hS hc1 hc2 hc3 => ?_)
    exact g_xout (hout hne) hlocks hc1 hc2 hc3 h0 h2 hP hS
def f_X5_shop (σ : Mem) (a0 a1 : Int32) : Option (Nat × Int32 × Mem) :=
bt (f_X5_needRoom a0) (fun n2 => some (n2, 0, σ)) fun v1 =>
bt (f_X5_needRange a1 0 1000) (fun n4 => some (n4, 0, σ)) fun v3 =>
bd (f_X2_hasShop σ a0) fun v5 =>
if v5 = 0 then (
bd2 (f_X5_keep σ 1 a0 a1 0 0) fun v7 σ8 =>
some (0, 0, σ8))
else (
some (3, 0, σ))
set_option maxHeartbeats 4000000 in
set_option maxRecDepth 100000 in
theorem c_X5_shop {l : Launch} {D : va_G} {cI cJ : ClassId} {ad : Nat → Nat} {σ : Mem} {a0 a1 : Int32} {ex : Nat} {r : Int32} {σr : Mem} (hflag : l.stackTraces = false) (hi : injG 51 ad) (hf : f_X5_shop σ a0 a1 = some (ex, r, σr)) : MGx l yX5_shop (Cond.code yX5_shop cX5_shop 3 none :: BIG) 7 154 D cI cJ 51 ad (EX ad cI) [.ref (ad 48), .int a0, .int a1] σ σr ex (fun sz => Qgv D 51 ad (EX ad cI) σr sz) := by
  refine MGx.ofW (cc := cX5_shop) (nL := 3) (ret := none) (by decide) rfl hi ?_
  intro p e R s m args below meth c Q hx hb hr hml hlocks hown hB hK hZ hP hA hAd hS hRf hRl hcell hout hQ0 hQ1
  have hown : s.vm.findClass RX5 = some m.cls := hown
  have hl := lv_entry ([.ref (ad 48), .int a0, .int a1] : List Value) (n := 3) (Nat.le_of_ble_eq_true rfl)
  rw [lg_entry_eq]
  generalize (lg_sl ([.ref (ad 48), .int a0, .int a1] : List Value) ++ List.replicate (3 - (lg_sl ([.ref (ad 48), .int a0, .int a1] : List Value)).length) Slot.unset).toArray = ls at hl ⊢
  have hl : lv_has ls 3 [(0, .ref (ad 48)), (1, .int a0), (2, .int a1)] := hl
  unfold f_X5_shop at hf
  refine lv_iload_n hx hb dX5_shop_0 rfl (lv_at hl 1 rfl) ?_
  rcases bt_e hf with ⟨v1, hv, hf⟩ | ⟨n2, v1, hn, hv, hf⟩
  · refine g_xSv0 ⟨⟨hx, hb, hml, hown, hB⟩, hK, hi, hA, hAd, hP, hS⟩ hZ (c_X5_needRoom hflag hv) cal_X5_needRoom kM_X5_26 ⟨Nat.le_trans (Nat.le_of_ble_eq_true rfl) hRf, Nat.le_trans (Nat.le_of_ble_eq_true rfl) hRl⟩ rfl hl.1 (Nat.le_of_ble_eq_true rfl) rfl dX5_shop_1 (fun H locs hP hS => ?_)
    refine lv_iload_n hx hb dX5_shop_4 rfl (lv_at hl 2 rfl) ?_
    refine lv_iconst (v := 0) hx hb dX5_shop_5 (by decide) ?_
    refine lv_sipush (v := 1000) hx hb dX5_shop_6 (by decide) ?_
    rcases bt_e hf with ⟨v3, hv, hf⟩ | ⟨n4, v3, hn, hv, hf⟩
    · refine g_xSv0 ⟨⟨hx, hb, hml, hown, hB⟩, hK, hi, hA, hAd, hP, hS⟩ hZ (c_X5_needRange hflag hv) cal_X5_needRange kM_X5_63 ⟨Nat.le_trans (Nat.le_of_ble_eq_true rfl) hRf, Nat.le_trans (Nat.le_of_ble_eq_true rfl) hRl⟩ rfl hl.1 (Nat.le_of_ble_eq_true rfl) rfl dX5_shop_9 (fun H locs hP hS => ?_)
      refine lv_aload_n hx hb dX5_shop_12 rfl (lv_at hl 0 rfl) ?_
      refine g_get (v := .ref (ad 0)) hx hb hB hown hK hP 48 (by decide) rfl rfl kU_X5 1 (by decide) kF_X5_19 rfl rfl dX5_shop_13 ?_
      refine g_get (v := .ref (ad 1)) hx hb hB hown hK hP 0 (by decide) rfl rfl kU_X4 0 (by decide) kF_X5_40 rfl rfl dX5_shop_16 ?_
      refine lv_iload_n hx hb dX5_shop_19 rfl (lv_at hl 1 rfl) ?_
      obtain ⟨v5, hv, hf⟩ := bd_e hf
      refine g_cVi (τ := σ) ⟨⟨hx, hb, hml, hown, hB⟩, hK, hi, hA, hAd, hP, hS⟩ sub_now (c_X2_hasShop (hi_now hi) hv) (fun _ _ => rfl) cal_X2_hasShop kM_X5_67 ⟨Nat.le_trans (Nat.le_of_ble_eq_true rfl) hRf, Nat.le_trans (Nat.le_of_ble_eq_true rfl) hRl⟩ 1 (by decide) rfl rfl rfl rfl hl.1 (Nat.le_of_ble_eq_true rfl) rfl dX5_shop_20 ⟨Nat.zero_le _, Nat.zero_le _⟩ (fun _ _ => rfl) (fun _ _ _ => rfl) (fun H locs hP hS => ?_)
      refine lv_if_eq (tgt := 36) hx hb dX5_shop_23 (by decide) (fun q6 => ?_) (fun q6 => ?_)
      · rw [if_pos q6] at hf
        refine lv_aload_n hx hb dX5_shop_36 rfl (lv_at hl 0 rfl) ?_
        refine lv_iconst (v := 1) hx hb dX5_shop_37 (by decide) ?_
        refine lv_iload_n hx hb dX5_shop_38 rfl (lv_at hl 1 rfl) ?_
        refine lv_iload_n hx hb dX5_shop_39 rfl (lv_at hl 2 rfl) ?_
        refine lv_iconst (v := 0) hx hb dX5_shop_40 (by decide) ?_
        refine lv_iconst (v := 0) hx hb dX5_shop_41 (by decide) ?_
        obtain ⟨v7, σ8, hv, hf⟩ := bd2_e hf
        refine g_cViS (k0 := 48) ⟨⟨hx, hb, hml, hown, hB⟩, hK, hi, hA, hAd, hP, hS⟩ (c_X5_keep hi hv) cal_X5_keep kM_X5_59 ⟨Nat.le_trans (Nat.le_of_ble_eq_true rfl) hRf, Nat.le_trans (Nat.le_of_ble_eq_true rfl) hRl⟩ (by decide) rfl rfl rfl hl.1 (Nat.le_of_ble_eq_true rfl) rfl dX5_shop_42 ⟨Nat.zero_le _, Nat.zero_le _⟩ (fun H locs hP hS => ?_)
        refine lv_pop hx hb dX5_shop_45 rfl ?_
        obtain ⟨h0, h1, h2⟩ := rt3 hf
        rw [hQ0 h0.symm]
        exact g_vret hx hb hr hlocks hP hS h2 dX5_shop_46
      · rw [if_neg q6] at hf
        obtain ⟨h0, -, h2⟩ := rt3 hf
        rw [hQ1 (fun q => by rw [q] at h0; cases h0)]
        exact g_throw (text := "the room has a shop") (e0 := 3) hx hb hflag hB hown hK hZ hP hS (hl.1.trans hml.symm) hlocks (hout (fun q => by rw [q] at h0; cases h0)) h0 h2 tt_X5_54_58 (by decide +kernel) dX5_shop_26 dX5_shop_29 dX5_shop_30 dX5_shop_32 dX5_shop_35 hRf hRl (hcell (fun q => by rw [q] at h0; cases h0)) (Nat.le_of_ble_eq_true rfl)
    · obtain ⟨h0, -, h2⟩ := rt3 hf
      have hne : ¬ ex = 0 := fun q => hn (h0.trans q)
      rw [hQ1 hne]
      refine g_xSx0 ⟨⟨hx, hb, hml, hown, hB⟩, hK, hi, hA, hAd, hP, hS⟩ hZ (c_X5_needRange hflag hv) hn cal_X5_needRange kM_X5_63 ⟨Nat.le_trans (Nat.le_of_ble_eq_true rfl) hRf, Nat.le_trans (Nat.le_of_ble_eq_true rfl) hRl⟩ rfl hl.1 (Nat.le_of_ble_eq_true rfl) rfl dX5_shop_9 (hcell hne) (fun q9 ce H locs hP hS hc1 hc2 hc3 => ?_)
      exact g_xout (hout hne) hlocks hc1 hc2 hc3 h0 h2 hP hS
  · obtain ⟨h0, -, h2⟩ := rt3 hf
    have hne : ¬ ex = 0 := fun q => hn (h0.trans q)
    rw [hQ1 hne]
    refine g_xSx0 ⟨⟨hx, hb, hml, hown, hB⟩, hK, hi, hA, hAd, hP, hS⟩ hZ (c_X5_needRoom hflag hv) hn cal_X5_needRoom kM_X5_26 ⟨Nat.le_trans (Nat.le_of_ble_eq_true rfl) hRf, Nat.le_trans (Nat.le_of_ble_eq_true rfl) hRl⟩ rfl hl.1 (Nat.le_of_ble_eq_true rfl) rfl dX5_shop_1 (hcell hne) (fun q9 ce H locs hP hS hc1 hc2 hc3 => ?_)
    exact g_xout (hout hne) hlocks hc1 hc2 hc3 h0 h2 hP hS
def f_X5_stock (σ : Mem) (a0 a1 a2 a3 : Int32) : Option (Nat × Int32 × Mem) :=
bt (f_X5_needRoom a0) (fun n2 => some (n2, 0, σ)) fun v1 =>
bt (f_X5_needKind a1) (fun n4 => some (n4, 0, σ)) fun v3 =>
bt (f_X5_needRange a2 0 20) (fun n6 => some (n6, 0, σ)) fun v5 =>
bt (f_X5_needRange a3 0 50) (fun n8 => some (n8, 0, σ)) fun v7 =>
bd (f_X2_hasShop σ a0) fun v9 =>
if v9 = 0 then (
some (3, 0, σ))
else (
bd2 (f_X5_keep σ 2 a0 a1 a2 a3) fun v11 σ12 =>
some (0, v11, σ12))
set_option maxHeartbeats 4000000 in
set_option maxRecDepth 100000 in
theorem c_X5_stock {l : Launch} {D : va_G} {cI cJ : ClassId} {ad : Nat → Nat} {σ : Mem} {a0 a1 a2 a3 : Int32} {ex : Nat} {r : Int32} {σr : Mem} (hflag : l.stackTraces = false) (hi : injG 51 ad) (hf : f_X5_stock σ a0 a1 a2 a3 = some (ex, r, σr)) : MGx l yX5_stock (Cond.code yX5_stock cX5_stock 5 (some .int) :: BIG) 7 154 D cI cJ 51 ad (EX ad cI) [.ref (ad 48), .int a0, .int a1, .int a2, .int a3] σ σr ex (fun sz => Qgi D 51 ad (EX ad cI) r σr sz) := by
  refine MGx.ofW (cc := cX5_stock) (nL := 5) (ret := (some .int)) (by decide) rfl hi ?_
  intro p e R s m args below meth c Q hx hb hr hml hlocks hown hB hK hZ hP hA hAd hS hRf hRl hcell hout hQ0 hQ1
  have hown : s.vm.findClass RX5 = some m.cls := hown
  have hl := lv_entry ([.ref (ad 48), .int a0, .int a1, .int a2, .int a3] : List Value) (n := 5) (Nat.le_of_ble_eq_true rfl)
  rw [lg_entry_eq]
  generalize (lg_sl ([.ref (ad 48), .int a0, .int a1, .int a2, .int a3] : List Value) ++ List.replicate (5 - (lg_sl ([.ref (ad 48), .int a0, .int a1, .int a2, .int a3] : List Value)).length) Slot.unset).toArray = ls at hl ⊢
  have hl : lv_has ls 5 [(0, .ref (ad 48)), (1, .int a0), (2, .int a1), (3, .int a2), (4, .int a3)] := hl
  unfold f_X5_stock at hf
  refine lv_iload_n hx hb dX5_stock_0 rfl (lv_at hl 1 rfl) ?_
  rcases bt_e hf with ⟨v1, hv, hf⟩ | ⟨n2, v1, hn, hv, hf⟩
  · refine g_xSv0 ⟨⟨hx, hb, hml, hown, hB⟩, hK, hi, hA, hAd, hP, hS⟩ hZ (c_X5_needRoom hflag hv) cal_X5_needRoom kM_X5_26 ⟨Nat.le_trans (Nat.le_of_ble_eq_true rfl) hRf, Nat.le_trans (Nat.le_of_ble_eq_true rfl) hRl⟩ rfl hl.1 (Nat.le_of_ble_eq_true rfl) rfl dX5_stock_1 (fun H locs hP hS => ?_)
    refine lv_iload_n hx hb dX5_stock_4 rfl (lv_at hl 2 rfl) ?_
    rcases bt_e hf with ⟨v3, hv, hf⟩ | ⟨n4, v3, hn, hv, hf⟩
    · refine g_xSv0 ⟨⟨hx, hb, hml, hown, hB⟩, hK, hi, hA, hAd, hP, hS⟩ hZ (c_X5_needKind hflag hv) cal_X5_needKind kM_X5_73 ⟨Nat.le_trans (Nat.le_of_ble_eq_true rfl) hRf, Nat.le_trans (Nat.le_of_ble_eq_true rfl) hRl⟩ rfl hl.1 (Nat.le_of_ble_eq_true rfl) rfl dX5_stock_5 (fun H locs hP hS => ?_)
      refine lv_iload_n hx hb dX5_stock_8 rfl (lv_at hl 3 rfl) ?_
      refine lv_iconst (v := 0) hx hb dX5_stock_9 (by decide) ?_
      refine lv_bipush (v := 20) hx hb dX5_stock_10 (by decide) ?_
      rcases bt_e hf with ⟨v5, hv, hf⟩ | ⟨n6, v5, hn, hv, hf⟩
      · refine g_xSv0 ⟨⟨hx, hb, hml, hown, hB⟩, hK, hi, hA, hAd, hP, hS⟩ hZ (c_X5_needRange hflag hv) cal_X5_needRange kM_X5_63 ⟨Nat.le_trans (Nat.le_of_ble_eq_true rfl) hRf, Nat.le_trans (Nat.le_of_ble_eq_true rfl) hRl⟩ rfl hl.1 (Nat.le_of_ble_eq_true rfl) rfl dX5_stock_12 (fun H locs hP hS => ?_)
        refine lv_iload hx hb dX5_stock_15 (lv_at hl 4 rfl) ?_
        refine lv_iconst (v := 0) hx hb dX5_stock_17 (by decide) ?_
        refine lv_bipush (v := 50) hx hb dX5_stock_18 (by decide) ?_
        rcases bt_e hf with ⟨v7, hv, hf⟩ | ⟨n8, v7, hn, hv, hf⟩
        · refine g_xSv0 ⟨⟨hx, hb, hml, hown, hB⟩, hK, hi, hA, hAd, hP, hS⟩ hZ (c_X5_needRange hflag hv) cal_X5_needRange kM_X5_63 ⟨Nat.le_trans (Nat.le_of_ble_eq_true rfl) hRf, Nat.le_trans (Nat.le_of_ble_eq_true rfl) hRl⟩ rfl hl.1 (Nat.le_of_ble_eq_true rfl) rfl dX5_stock_20 (fun H locs hP hS => ?_)
          refine lv_aload_n hx hb dX5_stock_23 rfl (lv_at hl 0 rfl) ?_
          refine g_get (v := .ref (ad 0)) hx hb hB hown hK hP 48 (by decide) rfl rfl kU_X5 1 (by decide) kF_X5_19 rfl rfl dX5_stock_24 ?_
          refine g_get (v := .ref (ad 1)) hx hb hB hown hK hP 0 (by decide) rfl rfl kU_X4 0 (by decide) kF_X5_40 rfl rfl dX5_stock_27 ?_
          refine lv_iload_n hx hb dX5_stock_30 rfl (lv_at hl 1 rfl) ?_
          obtain ⟨v9, hv, hf⟩ := bd_e hf
          refine g_cVi (τ := σ) ⟨⟨hx, hb, hml, hown, hB⟩, hK, hi, hA, hAd, hP, hS⟩ sub_now (c_X2_hasShop (hi_now hi) hv) (fun _ _ => rfl) cal_X2_hasShop kM_X5_67 ⟨Nat.le_trans (Nat.le_of_ble_eq_true rfl) hRf, Nat.le_trans (Nat.le_of_ble_eq_true rfl) hRl⟩ 1 (by decide) rfl rfl rfl rfl hl.1 (Nat.le_of_ble_eq_true rfl) rfl dX5_stock_31 ⟨Nat.zero_le _, Nat.zero_le _⟩ (fun _ _ => rfl) (fun _ _ _ => rfl) (fun H locs hP hS => ?_)
          refine lv_if_ne (tgt := 47) hx hb dX5_stock_34 (by decide) (fun q10 => ?_) (fun q10 => ?_)
          · rw [if_neg q10] at hf
            refine lv_aload_n hx hb dX5_stock_47 rfl (lv_at hl 0 rfl) ?_
            refine lv_iconst (v := 2) hx hb dX5_stock_48 (by decide) ?_
            refine lv_iload_n hx hb dX5_stock_49 rfl (lv_at hl 1 rfl) ?_
            refine lv_iload_n hx hb dX5_stock_50 rfl (lv_at hl 2 rfl) ?_
            refine lv_iload_n hx hb dX5_stock_51 rfl (lv_at hl 3 rfl) ?_
            refine lv_iload hx hb dX5_stock_52 (lv_at hl 4 rfl) ?_
            obtain ⟨v11, σ12, hv, hf⟩ := bd2_e hf
            refine g_cViS (k0 := 48) ⟨⟨hx, hb, hml, hown, hB⟩, hK, hi, hA, hAd, hP, hS⟩ (c_X5_keep hi hv) cal_X5_keep kM_X5_59 ⟨Nat.le_trans (Nat.le_of_ble_eq_true rfl) hRf, Nat.le_trans (Nat.le_of_ble_eq_true rfl) hRl⟩ (by decide) rfl rfl rfl hl.1 (Nat.le_of_ble_eq_true rfl) rfl dX5_stock_54 ⟨Nat.zero_le _, Nat.zero_le _⟩ (fun H locs hP hS => ?_)
            obtain ⟨h0, h1, h2⟩ := rt3 hf
            rw [hQ0 h0.symm]
            exact g_iret hx hb hr hlocks hP hS h1 h2 dX5_stock_57
          · rw [if_pos q10] at hf
            obtain ⟨h0, -, h2⟩ := rt3 hf
            rw [hQ1 (fun q => by rw [q] at h0; cases h0)]
            exact g_throw (text := "the room has no shop") (e0 := 3) hx hb hflag hB hown hK hZ hP hS (hl.1.trans hml.symm) hlocks (hout (fun q => by rw [q] at h0; cases h0)) h0 h2 tt_X5_54_58 (by decide +kernel) dX5_stock_37 dX5_stock_40 dX5_stock_41 dX5_stock_43 dX5_stock_46 hRf hRl (hcell (fun q => by rw [q] at h0; cases h0)) (Nat.le_of_ble_eq_true rfl)
        · obtain ⟨h0, -, h2⟩ := rt3 hf
          have hne : ¬ ex = 0 := fun q => hn (h0.trans q)
          rw [hQ1 hne]
          refine g_xSx0 ⟨⟨hx, hb, hml, hown, hB⟩, hK, hi, hA, hAd, hP, hS⟩ hZ (c_X5_needRange hflag hv) hn cal_X5_needRange kM_X5_63 ⟨Nat.le_trans (Nat.le_of_ble_eq_true rfl) hRf, Nat.le_trans (Nat.le_of_ble_eq_true rfl) hRl⟩ rfl hl.1 (Nat.le_of_ble_eq_true rfl) rfl dX5_stock_20 (hcell hne) (fun q9 ce H locs hP hS hc1 hc2 hc3 => ?_)
          exact g_xout (hout hne) hlocks hc1 hc2 hc3 h0 h2 hP hS
      · obtain ⟨h0, -, h2⟩ := rt3 hf
        have hne : ¬ ex = 0 := fun q => hn (h0.trans q)
        rw [hQ1 hne]
        refine g_xSx0 ⟨⟨hx, hb, hml, hown, hB⟩, hK, hi, hA, hAd, hP, hS⟩ hZ (c_X5_needRange hflag hv) hn cal_X5_needRange kM_X5_63 ⟨Nat.le_trans (Nat.le_of_ble_eq_true rfl) hRf, Nat.le_trans (Nat.le_of_ble_eq_true rfl) hRl⟩ rfl hl.1 (Nat.le_of_ble_eq_true rfl) rfl dX5_stock_12 (hcell hne) (fun q9 ce H locs hP hS hc1 hc2 hc3 => ?_)
        exact g_xout (hout hne) hlocks hc1 hc2 hc3 h0 h2 hP hS
    · obtain ⟨h0, -, h2⟩ := rt3 hf
      have hne : ¬ ex = 0 := fun q => hn (h0.trans q)
      rw [hQ1 hne]
      refine g_xSx0 ⟨⟨hx, hb, hml, hown, hB⟩, hK, hi, hA, hAd, hP, hS⟩ hZ (c_X5_needKind hflag hv) hn cal_X5_needKind kM_X5_73 ⟨Nat.le_trans (Nat.le_of_ble_eq_true rfl) hRf, Nat.le_trans (Nat.le_of_ble_eq_true rfl) hRl⟩ rfl hl.1 (Nat.le_of_ble_eq_true rfl) rfl dX5_stock_5 (hcell hne) (fun q9 ce H locs hP hS hc1 hc2 hc3 => ?_)
      exact g_xout (hout hne) hlocks hc1 hc2 hc3 h0 h2 hP hS
  · obtain ⟨h0, -, h2⟩ := rt3 hf
    have hne : ¬ ex = 0 := fun q => hn (h0.trans q)
    rw [hQ1 hne]
    refine g_xSx0 ⟨⟨hx, hb, hml, hown, hB⟩, hK, hi, hA, hAd, hP, hS⟩ hZ (c_X5_needRoom hflag hv) hn cal_X5_needRoom kM_X5_26 ⟨Nat.le_trans (Nat.le_of_ble_eq_true rfl) hRf, Nat.le_trans (Nat.le_of_ble_eq_true rfl) hRl⟩ rfl hl.1 (Nat.le_of_ble_eq_true rfl) rfl dX5_stock_1 (hcell hne) (fun q9 ce H locs hP hS hc1 hc2 hc3 => ?_)
    exact g_xout (hout hne) hlocks hc1 hc2 hc3 h0 h2 hP hS
def f_X5_scatter (σ : Mem) (a0 a1 a2 : Int32) : Option (Nat × Int32 × Mem) :=
bt (f_X5_needRoom a0) (fun n2 => some (n2, 0, σ)) fun v1 =>
bt (f_X5_needKind a1) (fun n4 => some (n4, 0, σ)) fun v3 =>
bt (f_X5_needRange a2 1 9) (fun n6 => some (n6, 0, σ)) fun v5 =>
bd2 (f_X5_keep σ 3 a0 a1 a2 0) fun v7 σ8 =>
some (0, v7, σ8)
set_option maxHeartbeats 4000000 in
set_option maxRecDepth 100000 in
theorem c_X5_scatter {l : Launch} {D : va_G} {cI cJ : ClassId} {ad : Nat → Nat} {σ : Mem} {a0 a1 a2 : Int32} {ex : Nat} {r : Int32} {σr : Mem} (hflag : l.stackTraces = false) (hi : injG 51 ad) (hf : f_X5_scatter σ a0 a1 a2 = some (ex, r, σr)) : MGx l yX5_scatter (Cond.code yX5_scatter cX5_scatter 4 (some .int) :: BIG) 7 154 D cI cJ 51 ad (EX ad cI) [.ref (ad 48), .int a0, .int a1, .int a2] σ σr ex (fun sz => Qgi D 51 ad (EX ad cI) r σr sz) := by
  refine MGx.ofW (cc := cX5_scatter) (nL := 4) (ret := (some .int)) (by decide) rfl hi ?_
  intro p e R s m args below meth c Q hx hb hr hml hlocks hown hB hK hZ hP hA hAd hS hRf hRl hcell hout hQ0 hQ1
  have hown : s.vm.findClass RX5 = some m.cls := hown
  have hl := lv_entry ([.ref (ad 48), .int a0, .int a1, .int a2] : List Value) (n := 4) (Nat.le_of_ble_eq_true rfl)
  rw [lg_entry_eq]
  generalize (lg_sl ([.ref (ad 48), .int a0, .int a1, .int a2] : List Value) ++ List.replicate (4 - (lg_sl ([.ref (ad 48), .int a0, .int a1, .int a2] : List Value)).length) Slot.unset).toArray = ls at hl ⊢
  have hl : lv_has ls 4 [(0, .ref (ad 48)), (1, .int a0), (2, .int a1), (3, .int a2)] := hl
  unfold f_X5_scatter at hf
  refine lv_iload_n hx hb dX5_scatter_0 rfl (lv_at hl 1 rfl) ?_
  rcases bt_e hf with ⟨v1, hv, hf⟩ | ⟨n2, v1, hn, hv, hf⟩
  · refine g_xSv0 ⟨⟨hx, hb, hml, hown, hB⟩, hK, hi, hA, hAd, hP, hS⟩ hZ (c_X5_needRoom hflag hv) cal_X5_needRoom kM_X5_26 ⟨Nat.le_trans (Nat.le_of_ble_eq_true rfl) hRf, Nat.le_trans (Nat.le_of_ble_eq_true rfl) hRl⟩ rfl hl.1 (Nat.le_of_ble_eq_true rfl) rfl dX5_scatter_1 (fun H locs hP hS => ?_)
    refine lv_iload_n hx hb dX5_scatter_4 rfl (lv_at hl 2 rfl) ?_
    rcases bt_e hf with ⟨v3, hv, hf⟩ | ⟨n4, v3, hn, hv, hf⟩
    · refine g_xSv0 ⟨⟨hx, hb, hml, hown, hB⟩, hK, hi, hA, hAd, hP, hS⟩ hZ (c_X5_needKind hflag hv) cal_X5_needKind kM_X5_73 ⟨Nat.le_trans (Nat.le_of_ble_eq_true rfl) hRf, Nat.le_trans (Nat.le_of_ble_eq_true rfl) hRl⟩ rfl hl.1 (Nat.le_of_ble_eq_true rfl) rfl dX5_scatter_5 (fun H locs hP hS => ?_)
      refine lv_iload_n hx hb dX5_scatter_8 rfl (lv_at hl 3 rfl) ?_
      refine lv_iconst (v := 1) hx hb dX5_scatter_9 (by decide) ?_
      refine lv_bipush (v := 9) hx hb dX5_scatter_10 (by decide) ?_
      rcases bt_e hf with ⟨v5, hv, hf⟩ | ⟨n6, v5, hn, hv, hf⟩
      · refine g_xSv0 ⟨⟨hx, hb, hml, hown, hB⟩, hK, hi, hA, hAd, hP, hS⟩ hZ (c_X5_needRange hflag hv) cal_X5_needRange kM_X5_63 ⟨Nat.le_trans (Nat.le_of_ble_eq_true rfl) hRf, Nat.le_trans (Nat.le_of_ble_eq_true rfl) hRl⟩ rfl hl.1 (Nat.le_of_ble_eq_true rfl) rfl dX5_scatter_12 (fun H locs hP hS => ?_)
        refine lv_aload_n hx hb dX5_scatter_15 rfl (lv_at hl 0 rfl) ?_
        refine lv_iconst (v := 3) hx hb dX5_scatter_16 (by decide) ?_
        refine lv_iload_n hx hb dX5_scatter_17 rfl (lv_at hl 1 rfl) ?_
        refine lv_iload_n hx hb dX5_scatter_18 rfl (lv_at hl 2 rfl) ?_
        refine lv_iload_n hx hb dX5_scatter_19 rfl (lv_at hl 3 rfl) ?_
        refine lv_iconst (v := 0) hx hb dX5_scatter_20 (by decide) ?_
        obtain ⟨v7, σ8, hv, hf⟩ := bd2_e hf
        refine g_cViS (k0 := 48) ⟨⟨hx, hb, hml, hown, hB⟩, hK, hi, hA, hAd, hP, hS⟩ (c_X5_keep hi hv) cal_X5_keep kM_X5_59 ⟨Nat.le_trans (Nat.le_of_ble_eq_true rfl) hRf, Nat.le_trans (Nat.le_of_ble_eq_true rfl) hRl⟩ (by decide) rfl rfl rfl hl.1 (Nat.le_of_ble_eq_true rfl) rfl dX5_scatter_21 ⟨Nat.zero_le _, Nat.zero_le _⟩ (fun H locs hP hS => ?_)
        obtain ⟨h0, h1, h2⟩ := rt3 hf
        rw [hQ0 h0.symm]
        exact g_iret hx hb hr hlocks hP hS h1 h2 dX5_scatter_24
      · obtain ⟨h0, -, h2⟩ := rt3 hf
        have hne : ¬ ex = 0 := fun q => hn (h0.trans q)
        rw [hQ1 hne]
        refine g_xSx0 ⟨⟨hx, hb, hml, hown, hB⟩, hK, hi, hA, hAd, hP, hS⟩ hZ (c_X5_needRange hflag hv) hn cal_X5_needRange kM_X5_63 ⟨Nat.le_trans (Nat.le_of_ble_eq_true rfl) hRf, Nat.le_trans (Nat.le_of_ble_eq_true rfl) hRl⟩ rfl hl.1 (Nat.le_of_ble_eq_true rfl) rfl dX5_scatter_12 (hcell hne) (fun q9 ce H locs hP hS hc1 hc2 hc3 => ?_)
        exact g_xout (hout hne) hlocks hc1 hc2 hc3 h0 h2 hP hS
    · obtain ⟨h0, -, h2⟩ := rt3 hf
      have hne : ¬ ex = 0 := fun q => hn (h0.trans q)
      rw [hQ1 hne]
      refine g_xSx0 ⟨⟨hx, hb, hml, hown, hB⟩, hK, hi, hA, hAd, hP, hS⟩ hZ (c_X5_needKind hflag hv) hn cal_X5_needKind kM_X5_73 ⟨Nat.le_trans (Nat.le_of_ble_eq_true rfl) hRf, Nat.le_trans (Nat.le_of_ble_eq_true rfl) hRl⟩ rfl hl.1 (Nat.le_of_ble_eq_true rfl) rfl dX5_scatter_5 (hcell hne) (fun q9 ce H locs hP hS hc1 hc2 hc3 => ?_)
      exact g_xout (hout hne) hlocks hc1 hc2 hc3 h0 h2 hP hS
  · obtain ⟨h0, -, h2⟩ := rt3 hf
    have hne : ¬ ex = 0 := fun q => hn (h0.trans q)
    rw [hQ1 hne]
    refine g_xSx0 ⟨⟨hx, hb, hml, hown, hB⟩, hK, hi, hA, hAd, hP, hS⟩ hZ (c_X5_needRoom hflag hv) hn cal_X5_needRoom kM_X5_26 ⟨Nat.le_trans (Nat.le_of_ble_eq_true rfl) hRf, Nat.le_trans (Nat.le_of_ble_eq_true rfl) hRl⟩ rfl hl.1 (Nat.le_of_ble_eq_true rfl) rfl dX5_scatter_1 (hcell hne) (fun q9 ce H locs hP hS hc1 hc2 hc3 => ?_)
    exact g_xout (hout hne) hlocks hc1 hc2 hc3 h0 h2 hP hS
def f_X5_join (σ : Mem) (a0 a1 a2 : Int32) : Option (Nat × Int32 × Mem) :=
bt (f_X5_needRoom a0) (fun n2 => some (n2, 0, σ)) fun v1 =>
bt (f_X5_needRange a1 0 200) (fun n4 => some (n4, 0, σ)) fun v3 =>
bt (f_X5_needRange a2 0 6) (fun n6 => some (n6, 0, σ)) fun v5 =>
if (σ 8 0) < 4 then (
bd2 (f_X5_keep σ 4 a0 a1 a2 0) fun v8 σ9 =>
some (0, v8, σ9))
else (
some (3, 0, σ))
set_option maxHeartbeats 4000000 in
set_option maxRecDepth 100000 in
theorem c_X5_join {l : Launch} {D : va_G} {cI cJ : ClassId} {ad : Nat → Nat} {σ : Mem} {a0 a1 a2 : Int32} {ex : Nat} {r : Int32} {σr : Mem} (hflag : l.stackTraces = false) (hi : injG 51 ad) (hf : f_X5_join σ a0 a1 a2 = some (ex, r, σr)) : MGx l yX5_join (Cond.code yX5_join cX5_join 4 (some .int) :: BIG) 7 154 D cI cJ 51 ad (EX ad cI) [.ref (ad 48), .int a0, .int a1, .int a2] σ σr ex (fun sz => Qgi D 51 ad (EX ad cI) r σr sz) := by
  refine MGx.ofW (cc := cX5_join) (nL := 4) (ret := (some .int)) (by decide) rfl hi ?_
  intro p e R s m args below meth c Q hx hb hr hml hlocks hown hB hK hZ hP hA hAd hS hRf hRl hcell hout hQ0 hQ1
  have hown : s.vm.findClass RX5 = some m.cls := hown
  have hl := lv_entry ([.ref (ad 48), .int a0, .int a1, .int a2] : List Value) (n := 4) (Nat.le_of_ble_eq_true rfl)
  rw [lg_entry_eq]
  generalize (lg_sl ([.ref (ad 48), .int a0, .int a1, .int a2] : List Value) ++ List.replicate (4 - (lg_sl ([.ref (ad 48), .int a0, .int a1, .int a2] : List Value)).length) Slot.unset).toArray = ls at hl ⊢
  have hl : lv_has ls 4 [(0, .ref (ad 48)), (1, .int a0), (2, .int a1), (3, .int a2)] := hl
  unfold f_X5_join at hf
  refine lv_iload_n hx hb dX5_join_0 rfl (lv_at hl 1 rfl) ?_
  rcases bt_e hf with ⟨v1, hv, hf⟩ | ⟨n2, v1, hn, hv, hf⟩
  · refine g_xSv0 ⟨⟨hx, hb, hml, hown, hB⟩, hK, hi, hA, hAd, hP, hS⟩ hZ (c_X5_needRoom hflag hv) cal_X5_needRoom kM_X5_26 ⟨Nat.le_trans (Nat.le_of_ble_eq_true rfl) hRf, Nat.le_trans (Nat.le_of_ble_eq_true rfl) hRl⟩ rfl hl.1 (Nat.le_of_ble_eq_true rfl) rfl dX5_join_1 (fun H locs hP hS => ?_)
    refine lv_iload_n hx hb dX5_join_4 rfl (lv_at hl 2 rfl) ?_
    refine lv_iconst (v := 0) hx hb dX5_join_5 (by decide) ?_
    refine lv_sipush (v := 200) hx hb dX5_join_6 (by decide) ?_
    rcases bt_e hf with ⟨v3, hv, hf⟩ | ⟨n4, v3, hn, hv, hf⟩
    · refine g_xSv0 ⟨⟨hx, hb, hml, hown, hB⟩, hK, hi, hA, hAd, hP, hS⟩ hZ (c_X5_needRange hflag hv) cal_X5_needRange kM_X5_63 ⟨Nat.le_trans (Nat.le_of_ble_eq_true rfl) hRf, Nat.le_trans (Nat.le_of_ble_eq_true rfl) hRl⟩ rfl hl.1 (Nat.le_of_ble_eq_true rfl) rfl dX5_join_9 (fun H locs hP hS => ?_)
      refine lv_iload_n hx hb dX5_join_12 rfl (lv_at hl 3 rfl) ?_
      refine lv_iconst (v := 0) hx hb dX5_join_13 (by decide) ?_
      refine lv_bipush (v := 6) hx hb dX5_join_14 (by decide) ?_
      rcases bt_e hf with ⟨v5, hv, hf⟩ | ⟨n6, v5, hn, hv, hf⟩
      · refine g_xSv0 ⟨⟨hx, hb, hml, hown, hB⟩, hK, hi, hA, hAd, hP, hS⟩ hZ (c_X5_needRange hflag hv) cal_X5_needRange kM_X5_63 ⟨Nat.le_trans (Nat.le_of_ble_eq_true rfl) hRf, Nat.le_trans (Nat.le_of_ble_eq_true rfl) hRl⟩ rfl hl.1 (Nat.le_of_ble_eq_true rfl) rfl dX5_join_16 (fun H locs hP hS => ?_)
        refine lv_aload_n hx hb dX5_join_19 rfl (lv_at hl 0 rfl) ?_
        refine g_get (v := .ref (ad 0)) hx hb hB hown hK hP 48 (by decide) rfl rfl kU_X5 1 (by decide) kF_X5_19 rfl rfl dX5_join_20 ?_
        refine g_get (v := .ref (ad 8)) hx hb hB hown hK hP 0 (by decide) rfl rfl kU_X4 1 (by decide) kF_X5_78 rfl rfl dX5_join_23 ?_
        refine g_get (v := .int (σ 8 0)) hx hb hB hown hK hP 8 (by decide) rfl rfl kU_X1 0 (by decide) kF_X5_82 rfl rfl dX5_join_26 ?_
        refine lv_iconst (v := 4) hx hb dX5_join_29 (by decide) ?_
        refine lv_icmp_lt (tgt := 43) hx hb dX5_join_30 (by decide) (fun q7 => ?_) (fun q7 => ?_)
        · rw [if_pos q7] at hf
          refine lv_aload_n hx hb dX5_join_43 rfl (lv_at hl 0 rfl) ?_
          refine lv_iconst (v := 4) hx hb dX5_join_44 (by decide) ?_
          refine lv_iload_n hx hb dX5_join_45 rfl (lv_at hl 1 rfl) ?_
          refine lv_iload_n hx hb dX5_join_46 rfl (lv_at hl 2 rfl) ?_
          refine lv_iload_n hx hb dX5_join_47 rfl (lv_at hl 3 rfl) ?_
          refine lv_iconst (v := 0) hx hb dX5_join_48 (by decide) ?_
          obtain ⟨v8, σ9, hv, hf⟩ := bd2_e hf
          refine g_cViS (k0 := 48) ⟨⟨hx, hb, hml, hown, hB⟩, hK, hi, hA, hAd, hP, hS⟩ (c_X5_keep hi hv) cal_X5_keep kM_X5_59 ⟨Nat.le_trans (Nat.le_of_ble_eq_true rfl) hRf, Nat.le_trans (Nat.le_of_ble_eq_true rfl) hRl⟩ (by decide) rfl rfl rfl hl.1 (Nat.le_of_ble_eq_true rfl) rfl dX5_join_49 ⟨Nat.zero_le _, Nat.zero_le _⟩ (fun H locs hP hS => ?_)
          obtain ⟨h0, h1, h2⟩ := rt3 hf
          rw [hQ0 h0.symm]
          exact g_iret hx hb hr hlocks hP hS h1 h2 dX5_join_52
        · rw [if_neg q7] at hf
          obtain ⟨h0, -, h2⟩ := rt3 hf
          rw [hQ1 (fun q => by rw [q] at h0; cases h0)]
          exact g_throw (text := "all players have joined") (e0 := 3) hx hb hflag hB hown hK hZ hP hS (hl.1.trans hml.symm) hlocks (hout (fun q => by rw [q] at h0; cases h0)) h0 h2 tt_X5_54_58 (by decide +kernel) dX5_join_33 dX5_join_36 dX5_join_37 dX5_join_39 dX5_join_42 hRf hRl (hcell (fun q => by rw [q] at h0; cases h0)) (Nat.le_of_ble_eq_true rfl)
      · obtain ⟨h0, -, h2⟩ := rt3 hf
        have hne : ¬ ex = 0 := fun q => hn (h0.trans q)
        rw [hQ1 hne]
        refine g_xSx0 ⟨⟨hx, hb, hml, hown, hB⟩, hK, hi, hA, hAd, hP, hS⟩ hZ (c_X5_needRange hflag hv) hn cal_X5_needRange kM_X5_63 ⟨Nat.le_trans (Nat.le_of_ble_eq_true rfl) hRf, Nat.le_trans (Nat.le_of_ble_eq_true rfl) hRl⟩ rfl hl.1 (Nat.le_of_ble_eq_true rfl) rfl dX5_join_16 (hcell hne) (fun q9 ce H locs hP hS hc1 hc2 hc3 => ?_)
        exact g_xout (hout hne) hlocks hc1 hc2 hc3 h0 h2 hP hS
    · obtain ⟨h0, -, h2⟩ := rt3 hf
      have hne : ¬ ex = 0 := fun q => hn (h0.trans q)
      rw [hQ1 hne]
      refine g_xSx0 ⟨⟨hx, hb, hml, hown, hB⟩, hK, hi, hA, hAd, hP, hS⟩ hZ (c_X5_needRange hflag hv) hn cal_X5_needRange kM_X5_63 ⟨Nat.le_trans (Nat.le_of_ble_eq_true rfl) hRf, Nat.le_trans (Nat.le_of_ble_eq_true rfl) hRl⟩ rfl hl.1 (Nat.le_of_ble_eq_true rfl) rfl dX5_join_9 (hcell hne) (fun q9 ce H locs hP hS hc1 hc2 hc3 => ?_)
      exact g_xout (hout hne) hlocks hc1 hc2 hc3 h0 h2 hP hS
  · obtain ⟨h0, -, h2⟩ := rt3 hf
    have hne : ¬ ex = 0 := fun q => hn (h0.trans q)
    rw [hQ1 hne]
    refine g_xSx0 ⟨⟨hx, hb, hml, hown, hB⟩, hK, hi, hA, hAd, hP, hS⟩ hZ (c_X5_needRoom hflag hv) hn cal_X5_needRoom kM_X5_26 ⟨Nat.le_trans (Nat.le_of_ble_eq_true rfl) hRf, Nat.le_trans (Nat.le_of_ble_eq_true rfl) hRl⟩ rfl hl.1 (Nat.le_of_ble_eq_true rfl) rfl dX5_join_1 (hcell hne) (fun q9 ce H locs hP hS hc1 hc2 hc3 => ?_)
    exact g_xout (hout hne) hlocks hc1 hc2 hc3 h0 h2 hP hS
def f_X5_quest (σ : Mem) (a0 : Int32) : Option (Nat × Int32 × Mem) :=
bt (f_X5_needRange a0 0 100) (fun n2 => some (n2, 0, σ)) fun v1 =>
if (σ 18 0) < 3 then (
bd2 (f_X5_keep σ 5 a0 0 0 0) fun v4 σ5 =>
some (0, v4, σ5))
else (
some (3, 0, σ))
set_option maxHeartbeats 4000000 in
set_option maxRecDepth 100000 in
theorem c_X5_quest {l : Launch} {D : va_G} {cI cJ : ClassId} {ad : Nat → Nat} {σ : Mem} {a0 : Int32} {ex : Nat} {r : Int32} {σr : Mem} (hflag : l.stackTraces = false) (hi : injG 51 ad) (hf : f_X5_quest σ a0 = some (ex, r, σr)) : MGx l yX5_quest (Cond.code yX5_quest cX5_quest 2 (some .int) :: BIG) 7 154 D cI cJ 51 ad (EX ad cI) [.ref (ad 48), .int a0] σ σr ex (fun sz => Qgi D 51 ad (EX ad cI) r σr sz) := by
  refine MGx.ofW (cc := cX5_quest) (nL := 2) (ret := (some .int)) (by decide) rfl hi ?_
  intro p e R s m args below meth c Q hx hb hr hml hlocks hown hB hK hZ hP hA hAd hS hRf hRl hcell hout hQ0 hQ1
  have hown : s.vm.findClass RX5 = some m.cls := hown
  have hl := lv_entry ([.ref (ad 48), .int a0] : List Value) (n := 2) (Nat.le_of_ble_eq_true rfl)
  rw [lg_entry_eq]
  generalize (lg_sl ([.ref (ad 48), .int a0] : List Value) ++ List.replicate (2 - (lg_sl ([.ref (ad 48), .int a0] : List Value)).length) Slot.unset).toArray = ls at hl ⊢
  have hl : lv_has ls 2 [(0, .ref (ad 48)), (1, .int a0)] := hl
  unfold f_X5_quest at hf
  refine lv_iload_n hx hb dX5_quest_0 rfl (lv_at hl 1 rfl) ?_
  refine lv_iconst (v := 0) hx hb dX5_quest_1 (by decide) ?_
  refine lv_bipush (v := 100) hx hb dX5_quest_2 (by decide) ?_
  rcases bt_e hf with ⟨v1, hv, hf⟩ | ⟨n2, v1, hn, hv, hf⟩
  · refine g_xSv0 ⟨⟨hx, hb, hml, hown, hB⟩, hK, hi, hA, hAd, hP, hS⟩ hZ (c_X5_needRange hflag hv) cal_X5_needRange kM_X5_63 ⟨Nat.le_trans (Nat.le_of_ble_eq_true rfl) hRf, Nat.le_trans (Nat.le_of_ble_eq_true rfl) hRl⟩ rfl hl.1 (Nat.le_of_ble_eq_true rfl) rfl dX5_quest_4 (fun H locs hP hS => ?_)
    refine lv_aload_n hx hb dX5_quest_7 rfl (lv_at hl 0 rfl) ?_
    refine g_get (v := .ref (ad 0)) hx hb hB hown hK hP 48 (by decide) rfl rfl kU_X5 1 (by decide) kF_X5_19 rfl rfl dX5_quest_8 ?_
    refine g_get (v := .ref (ad 18)) hx hb hB hown hK hP 0 (by decide) rfl rfl kU_X4 2 (by decide) kF_X5_90 rfl rfl dX5_quest_11 ?_
    refine g_get (v := .int (σ 18 0)) hx hb hB hown hK hP 18 (by decide) rfl rfl kU_X3 0 (by decide) kF_X5_94 rfl rfl dX5_quest_14 ?_
    refine lv_iconst (v := 3) hx hb dX5_quest_17 (by decide) ?_
    refine lv_icmp_lt (tgt := 31) hx hb dX5_quest_18 (by decide) (fun q3 => ?_) (fun q3 => ?_)
    · rw [if_pos q3] at hf
      refine lv_aload_n hx hb dX5_quest_31 rfl (lv_at hl 0 rfl) ?_
      refine lv_iconst (v := 5) hx hb dX5_quest_32 (by decide) ?_
      refine lv_iload_n hx hb dX5_quest_33 rfl (lv_at hl 1 rfl) ?_
      refine lv_iconst (v := 0) hx hb dX5_quest_34 (by decide) ?_
      refine lv_iconst (v := 0) hx hb dX5_quest_35 (by decide) ?_
      refine lv_iconst (v := 0) hx hb dX5_quest_36 (by decide) ?_
      obtain ⟨v4, σ5, hv, hf⟩ := bd2_e hf
      refine g_cViS (k0 := 48) ⟨⟨hx, hb, hml, hown, hB⟩, hK, hi, hA, hAd, hP, hS⟩ (c_X5_keep hi hv) cal_X5_keep kM_X5_59 ⟨Nat.le_trans (Nat.le_of_ble_eq_true rfl) hRf, Nat.le_trans (Nat.le_of_ble_eq_true rfl) hRl⟩ (by decide) rfl rfl rfl hl.1 (Nat.le_of_ble_eq_true rfl) rfl dX5_quest_37 ⟨Nat.zero_le _, Nat.zero_le _⟩ (fun H locs hP hS => ?_)
      obtain ⟨h0, h1, h2⟩ := rt3 hf
      rw [hQ0 h0.symm]
      exact g_iret hx hb hr hlocks hP hS h1 h2 dX5_quest_40
    · rw [if_neg q3] at hf
      obtain ⟨h0, -, h2⟩ := rt3 hf
      rw [hQ1 (fun q => by rw [q] at h0; cases h0)]
      exact g_throw (text := "there are all quests already") (e0 := 3) hx hb hflag hB hown hK hZ hP hS (hl.1.trans hml.symm) hlocks (hout (fun q => by rw [q] at h0; cases h0)) h0 h2 tt_X5_54_58 (by decide +kernel) dX5_quest_21 dX5_quest_24 dX5_quest_25 dX5_quest_27 dX5_quest_30 hRf hRl (hcell (fun q => by rw [q] at h0; cases h0)) (Nat.le_of_ble_eq_true rfl)
  · obtain ⟨h0, -, h2⟩ := rt3 hf
    have hne : ¬ ex = 0 := fun q => hn (h0.trans q)
    rw [hQ1 hne]
    refine g_xSx0 ⟨⟨hx, hb, hml, hown, hB⟩, hK, hi, hA, hAd, hP, hS⟩ hZ (c_X5_needRange hflag hv) hn cal_X5_needRange kM_X5_63 ⟨Nat.le_trans (Nat.le_of_ble_eq_true rfl) hRf, Nat.le_trans (Nat.le_of_ble_eq_true rfl) hRl⟩ rfl hl.1 (Nat.le_of_ble_eq_true rfl) rfl dX5_quest_4 (hcell hne) (fun q9 ce H locs hP hS hc1 hc2 hc3 => ?_)
    exact g_xout (hout hne) hlocks hc1 hc2 hc3 h0 h2 hP hS
def f_X5_stage (σ : Mem) (a0 a1 a2 a3 : Int32) : Option (Nat × Int32 × Mem) :=
bt (f_X5_needQuest σ a0) (fun n2 => some (n2, 0, σ)) fun v1 =>
bt (f_X5_needStageTarget a1 a2) (fun n4 => some (n4, 0, σ)) fun v3 =>
bt (f_X5_needRange a1 0 3) (fun n6 => some (n6, 0, σ)) fun v5 =>
bt (f_X5_needStageMeasure a1 a3) (fun n8 => some (n8, 0, σ)) fun v7 =>
gd a0 3 <|
if (σ 20 a0.toNatClampNeg) < 4 then (
bd (f_X1_isBegun σ a0) fun v10 =>
if v10 = 0 then (
bd2 (f_X5_keep σ 6 a0 a1 a2 a3) fun v12 σ13 =>
some (0, v12, σ13))
else (
some (3, 0, σ)))
else (
some (3, 0, σ))
set_option maxHeartbeats 4000000 in
set_option maxRecDepth 100000 in
theorem c_X5_stage {l : Launch} {D : va_G} {cI cJ : ClassId} {ad : Nat → Nat} {σ : Mem} {a0 a1 a2 a3 : Int32} {ex : Nat} {r : Int32} {σr : Mem} (hflag : l.stackTraces = false) (hi : injG 51 ad) (hf : f_X5_stage σ a0 a1 a2 a3 = some (ex, r, σr)) : MGx l yX5_stage (Cond.code yX5_stage cX5_stage 5 (some .int) :: BIG) 8 154 D cI cJ 51 ad (EX ad cI) [.ref (ad 48), .int a0, .int a1, .int a2, .int a3] σ σr ex (fun sz => Qgi D 51 ad (EX ad cI) r σr sz) := by
  refine MGx.ofW (cc := cX5_stage) (nL := 5) (ret := (some .int)) (by decide) rfl hi ?_
  intro p e R s m args below meth c Q hx hb hr hml hlocks hown hB hK hZ hP hA hAd hS hRf hRl hcell hout hQ0 hQ1
  have hown : s.vm.findClass RX5 = some m.cls := hown
  have hl := lv_entry ([.ref (ad 48), .int a0, .int a1, .int a2, .int a3] : List Value) (n := 5) (Nat.le_of_ble_eq_true rfl)
  rw [lg_entry_eq]
  generalize (lg_sl ([.ref (ad 48), .int a0, .int a1, .int a2, .int a3] : List Value) ++ List.replicate (5 - (lg_sl ([.ref (ad 48), .int a0, .int a1, .int a2, .int a3] : List Value)).length) Slot.unset).toArray = ls at hl ⊢
  have hl : lv_has ls 5 [(0, .ref (ad 48)), (1, .int a0), (2, .int a1), (3, .int a2), (4, .int a3)] := hl
  unfold f_X5_stage at hf
  refine lv_aload_n hx hb dX5_stage_0 rfl (lv_at hl 0 rfl) ?_
  refine lv_iload_n hx hb dX5_stage_1 rfl (lv_at hl 1 rfl) ?_
  rcases bt_e hf with ⟨v1, hv, hf⟩ | ⟨n2, v1, hn, hv, hf⟩
  · refine g_xVv (k0 := 48) ⟨⟨hx, hb, hml, hown, hB⟩, hK, hi, hA, hAd, hP, hS⟩ hZ (c_X5_needQuest hflag hi hv) cal_X5_needQuest kM_X5_99 ⟨Nat.le_trans (Nat.le_of_ble_eq_true rfl) hRf, Nat.le_trans (Nat.le_of_ble_eq_true rfl) hRl⟩ (by decide) rfl rfl rfl hl.1 (Nat.le_of_ble_eq_true rfl) rfl dX5_stage_2 (fun H locs hP hS => ?_)
    refine lv_iload_n hx hb dX5_stage_5 rfl (lv_at hl 2 rfl) ?_
    refine lv_iload_n hx hb dX5_stage_6 rfl (lv_at hl 3 rfl) ?_
    rcases bt_e hf with ⟨v3, hv, hf⟩ | ⟨n4, v3, hn, hv, hf⟩
    · refine g_xSv0 ⟨⟨hx, hb, hml, hown, hB⟩, hK, hi, hA, hAd, hP, hS⟩ hZ (c_X5_needStageTarget hflag hv) cal_X5_needStageTarget kM_X5_102 ⟨Nat.le_trans (Nat.le_of_ble_eq_true rfl) hRf, Nat.le_trans (Nat.le_of_ble_eq_true rfl) hRl⟩ rfl hl.1 (Nat.le_of_ble_eq_true rfl) rfl dX5_stage_7 (fun H locs hP hS => ?_)
      refine lv_iload_n hx hb dX5_stage_10 rfl (lv_at hl 2 rfl) ?_
      refine lv_iconst (v := 0) hx hb dX5_stage_11 (by decide) ?_
      refine lv_iconst (v := 3) hx hb dX5_stage_12 (by decide) ?_
      rcases bt_e hf with ⟨v5, hv, hf⟩ | ⟨n6, v5, hn, hv, hf⟩
      · refine g_xSv0 ⟨⟨hx, hb, hml, hown, hB⟩, hK, hi, hA, hAd, hP, hS⟩ hZ (c_X5_needRange hflag hv) cal_X5_needRange kM_X5_63 ⟨Nat.le_trans (Nat.le_of_ble_eq_true rfl) hRf, Nat.le_trans (Nat.le_of_ble_eq_true rfl) hRl⟩ rfl hl.1 (Nat.le_of_ble_eq_true rfl) rfl dX5_stage_13 (fun H locs hP hS => ?_)
        refine lv_iload_n hx hb dX5_stage_16 rfl (lv_at hl 2 rfl) ?_
        refine lv_iload hx hb dX5_stage_17 (lv_at hl 4 rfl) ?_
        rcases bt_e hf with ⟨v7, hv, hf⟩ | ⟨n8, v7, hn, hv, hf⟩
        · refine g_xSv0 ⟨⟨hx, hb, hml, hown, hB⟩, hK, hi, hA, hAd, hP, hS⟩ hZ (c_X5_needStageMeasure hflag hv) cal_X5_needStageMeasure kM_X5_106 ⟨Nat.le_trans (Nat.le_of_ble_eq_true rfl) hRf, Nat.le_trans (Nat.le_of_ble_eq_true rfl) hRl⟩ rfl hl.1 (Nat.le_of_ble_eq_true rfl) rfl dX5_stage_19 (fun H locs hP hS => ?_)
          refine lv_aload_n hx hb dX5_stage_22 rfl (lv_at hl 0 rfl) ?_
          refine g_get (v := .ref (ad 0)) hx hb hB hown hK hP 48 (by decide) rfl rfl kU_X5 1 (by decide) kF_X5_19 rfl rfl dX5_stage_23 ?_
          refine g_get (v := .ref (ad 18)) hx hb hB hown hK hP 0 (by decide) rfl rfl kU_X4 2 (by decide) kF_X5_90 rfl rfl dX5_stage_26 ?_
          refine g_get (v := .ref (ad 20)) hx hb hB hown hK hP 18 (by decide) rfl rfl kU_X3 2 (by decide) kF_X5_109 rfl rfl dX5_stage_29 ?_
          refine lv_iload_n hx hb dX5_stage_32 rfl (lv_at hl 1 rfl) ?_
          obtain ⟨hin, hf⟩ := gd_e hf
          refine g_iald hx hb hK hP 20 3 (by decide) rfl hin dX5_stage_33 ?_
          refine lv_iconst (v := 4) hx hb dX5_stage_34 (by decide) ?_
          refine lv_icmp_lt (tgt := 48) hx hb dX5_stage_35 (by decide) (fun q9 => ?_) (fun q9 => ?_)
          · rw [if_pos q9] at hf
            refine lv_aload_n hx hb dX5_stage_48 rfl (lv_at hl 0 rfl) ?_
            refine g_get (v := .ref (ad 0)) hx hb hB hown hK hP 48 (by decide) rfl rfl kU_X5 1 (by decide) kF_X5_19 rfl rfl dX5_stage_49 ?_
            refine g_get (v := .ref (ad 8)) hx hb hB hown hK hP 0 (by decide) rfl rfl kU_X4 1 (by decide) kF_X5_78 rfl rfl dX5_stage_52 ?_
            refine lv_iload_n hx hb dX5_stage_55 rfl (lv_at hl 1 rfl) ?_
            obtain ⟨v10, hv, hf⟩ := bd_e hf
            refine g_cVi (τ := σ) ⟨⟨hx, hb, hml, hown, hB⟩, hK, hi, hA, hAd, hP, hS⟩ sub_now (c_X1_isBegun (hi_now hi) hv) (fun _ _ => rfl) cal_X1_isBegun kM_X5_115 ⟨Nat.le_trans (Nat.le_of_ble_eq_true rfl) hRf, Nat.le_trans (Nat.le_of_ble_eq_true rfl) hRl⟩ 8 (by decide) rfl rfl rfl rfl hl.1 (Nat.le_of_ble_eq_true rfl) rfl dX5_stage_56 ⟨Nat.zero_le _, Nat.zero_le _⟩ (fun _ _ => rfl) (fun _ _ _ => rfl) (fun H locs hP hS => ?_)
            refine lv_if_eq (tgt := 72) hx hb dX5_stage_59 (by decide) (fun q11 => ?_) (fun q11 => ?_)
            · rw [if_pos q11] at hf
              refine lv_aload_n hx hb dX5_stage_72 rfl (lv_at hl 0 rfl) ?_
              refine lv_bipush (v := 6) hx hb dX5_stage_73 (by decide) ?_
              refine lv_iload_n hx hb dX5_stage_75 rfl (lv_at hl 1 rfl) ?_
              refine lv_iload_n hx hb dX5_stage_76 rfl (lv_at hl 2 rfl) ?_
              refine lv_iload_n hx hb dX5_stage_77 rfl (lv_at hl 3 rfl) ?_
              refine lv_iload hx hb dX5_stage_78 (lv_at hl 4 rfl) ?_
              obtain ⟨v12, σ13, hv, hf⟩ := bd2_e hf
              refine g_cViS (k0 := 48) ⟨⟨hx, hb, hml, hown, hB⟩, hK, hi, hA, hAd, hP, hS⟩ (c_X5_keep hi hv) cal_X5_keep kM_X5_59 ⟨Nat.le_trans (Nat.le_of_ble_eq_true rfl) hRf, Nat.le_trans (Nat.le_of_ble_eq_true rfl) hRl⟩ (by decide) rfl rfl rfl hl.1 (Nat.le_of_ble_eq_true rfl) rfl dX5_stage_80 ⟨Nat.zero_le _, Nat.zero_le _⟩ (fun H locs hP hS => ?_)
              obtain ⟨h0, h1, h2⟩ := rt3 hf
              rw [hQ0 h0.symm]
              exact g_iret hx hb hr hlocks hP hS h1 h2 dX5_stage_83
            · rw [if_neg q11] at hf
              obtain ⟨h0, -, h2⟩ := rt3 hf
              rw [hQ1 (fun q => by rw [q] at h0; cases h0)]
              exact g_throw (text := "some player has reached one of its stages") (e0 := 3) hx hb hflag hB hown hK hZ hP hS (hl.1.trans hml.symm) hlocks (hout (fun q => by rw [q] at h0; cases h0)) h0 h2 tt_X5_54_58 (by decide +kernel) dX5_stage_62 dX5_stage_65 dX5_stage_66 dX5_stage_68 dX5_stage_71 hRf hRl (hcell (fun q => by rw [q] at h0; cases h0)) (Nat.le_of_ble_eq_true rfl)
          · rw [if_neg q9] at hf
            obtain ⟨h0, -, h2⟩ := rt3 hf
            rw [hQ1 (fun q => by rw [q] at h0; cases h0)]
            exact g_throw (text := "the quest has all its stages") (e0 := 3) hx hb hflag hB hown hK hZ hP hS (hl.1.trans hml.symm) hlocks (hout (fun q => by rw [q] at h0; cases h0)) h0 h2 tt_X5_54_58 (by decide +kernel) dX5_stage_38 dX5_stage_41 dX5_stage_42 dX5_stage_44 dX5_stage_47 hRf hRl (hcell (fun q => by rw [q] at h0; cases h0)) (Nat.le_of_ble_eq_true rfl)
        · obtain ⟨h0, -, h2⟩ := rt3 hf
          have hne : ¬ ex = 0 := fun q => hn (h0.trans q)
          rw [hQ1 hne]
          refine g_xSx0 ⟨⟨hx, hb, hml, hown, hB⟩, hK, hi, hA, hAd, hP, hS⟩ hZ (c_X5_needStageMeasure hflag hv) hn cal_X5_needStageMeasure kM_X5_106 ⟨Nat.le_trans (Nat.le_of_ble_eq_true rfl) hRf, Nat.le_trans (Nat.le_of_ble_eq_true rfl) hRl⟩ rfl hl.1 (Nat.le_of_ble_eq_true rfl) rfl dX5_stage_19 (hcell hne) (fun q9 ce H locs hP hS hc1 hc2 hc3 => ?_)
          exact g_xout (hout hne) hlocks hc1 hc2 hc3 h0 h2 hP hS
      · obtain ⟨h0, -, h2⟩ := rt3 hf
        have hne : ¬ ex = 0 := fun q => hn (h0.trans q)
        rw [hQ1 hne]
        refine g_xSx0 ⟨⟨hx, hb, hml, hown, hB⟩, hK, hi, hA, hAd, hP, hS⟩ hZ (c_X5_needRange hflag hv) hn cal_X5_needRange kM_X5_63 ⟨Nat.le_trans (Nat.le_of_ble_eq_true rfl) hRf, Nat.le_trans (Nat.le_of_ble_eq_true rfl) hRl⟩ rfl hl.1 (Nat.le_of_ble_eq_true rfl) rfl dX5_stage_13 (hcell hne) (fun q9 ce H locs hP hS hc1 hc2 hc3 => ?_)
        exact g_xout (hout hne) hlocks hc1 hc2 hc3 h0 h2 hP hS
    · obtain ⟨h0, -, h2⟩ := rt3 hf
      have hne : ¬ ex = 0 := fun q => hn (h0.trans q)
      rw [hQ1 hne]
      refine g_xSx0 ⟨⟨hx, hb, hml, hown, hB⟩, hK, hi, hA, hAd, hP, hS⟩ hZ (c_X5_needStageTarget hflag hv) hn cal_X5_needStageTarget kM_X5_102 ⟨Nat.le_trans (Nat.le_of_ble_eq_true rfl) hRf, Nat.le_trans (Nat.le_of_ble_eq_true rfl) hRl⟩ rfl hl.1 (Nat.le_of_ble_eq_true rfl) rfl dX5_stage_7 (hcell hne) (fun q9 ce H locs hP hS hc1 hc2 hc3 => ?_)
      exact g_xout (hout hne) hlocks hc1 hc2 hc3 h0 h2 hP hS
  · obtain ⟨h0, -, h2⟩ := rt3 hf
    have hne : ¬ ex = 0 := fun q => hn (h0.trans q)
    rw [hQ1 hne]
    refine g_xVx (k0 := 48) ⟨⟨hx, hb, hml, hown, hB⟩, hK, hi, hA, hAd, hP, hS⟩ hZ (c_X5_needQuest hflag hi hv) hn cal_X5_needQuest kM_X5_99 ⟨Nat.le_trans (Nat.le_of_ble_eq_true rfl) hRf, Nat.le_trans (Nat.le_of_ble_eq_true rfl) hRl⟩ (by decide) rfl rfl rfl hl.1 (Nat.le_of_ble_eq_true rfl) rfl dX5_stage_2 (hcell hne) (fun q9 ce H locs hP hS hc1 hc2 hc3 => ?_)
    exact g_xout (hout hne) hlocks hc1 hc2 hc3 h0 h2 hP hS
def f_X5_endow (σ : Mem) (a0 : Int32) : Option (Nat × Int32 × Mem) :=
bt (f_X5_needRange a0 1 1000) (fun n2 => some (n2, 0, σ)) fun v1 =>
bd2 (f_X5_keep σ 7 a0 0 0 0) fun v3 σ4 =>
some (0, v3, σ4)
set_option maxHeartbeats 4000000 in
set_option maxRecDepth 100000 in
theorem c_X5_endow {l : Launch} {D : va_G} {cI cJ : ClassId} {ad : Nat → Nat} {σ : Mem} {a0 : Int32} {ex : Nat} {r : Int32} {σr : Mem} (hflag : l.stackTraces = false) (hi : injG 51 ad) (hf : f_X5_endow σ a0 = some (ex, r, σr)) : MGx l yX5_endow (Cond.code yX5_endow cX5_endow 2 (some .int) :: BIG) 7 154 D cI cJ 51 ad (EX ad cI) [.ref (ad 48), .int a0] σ σr ex (fun sz => Qgi D 51 ad (EX ad cI) r σr sz) := by
  refine MGx.ofW (cc := cX5_endow) (nL := 2) (ret := (some .int)) (by decide) rfl hi ?_
  intro p e R s m args below meth c Q hx hb hr hml hlocks hown hB hK hZ hP hA hAd hS hRf hRl hcell hout hQ0 hQ1
  have hown : s.vm.findClass RX5 = some m.cls := hown
  have hl := lv_entry ([.ref (ad 48), .int a0] : List Value) (n := 2) (Nat.le_of_ble_eq_true rfl)
  rw [lg_entry_eq]
  generalize (lg_sl ([.ref (ad 48), .int a0] : List Value) ++ List.replicate (2 - (lg_sl ([.ref (ad 48), .int a0] : List Value)).length) Slot.unset).toArray = ls at hl ⊢
  have hl : lv_has ls 2 [(0, .ref (ad 48)), (1, .int a0)] := hl
  unfold f_X5_endow at hf
  refine lv_iload_n hx hb dX5_endow_0 rfl (lv_at hl 1 rfl) ?_
  refine lv_iconst (v := 1) hx hb dX5_endow_1 (by decide) ?_
  refine lv_sipush (v := 1000) hx hb dX5_endow_2 (by decide) ?_
  rcases bt_e hf with ⟨v1, hv, hf⟩ | ⟨n2, v1, hn, hv, hf⟩
  · refine g_xSv0 ⟨⟨hx, hb, hml, hown, hB⟩, hK, hi, hA, hAd, hP, hS⟩ hZ (c_X5_needRange hflag hv) cal_X5_needRange kM_X5_63 ⟨Nat.le_trans (Nat.le_of_ble_eq_true rfl) hRf, Nat.le_trans (Nat.le_of_ble_eq_true rfl) hRl⟩ rfl hl.1 (Nat.le_of_ble_eq_true rfl) rfl dX5_endow_5 (fun H locs hP hS => ?_)
    refine lv_aload_n hx hb dX5_endow_8 rfl (lv_at hl 0 rfl) ?_
    refine lv_bipush (v := 7) hx hb dX5_endow_9 (by decide) ?_
    refine lv_iload_n hx hb dX5_endow_11 rfl (lv_at hl 1 rfl) ?_
    refine lv_iconst (v := 0) hx hb dX5_endow_12 (by decide) ?_
    refine lv_iconst (v := 0) hx hb dX5_endow_13 (by decide) ?_
    refine lv_iconst (v := 0) hx hb dX5_endow_14 (by decide) ?_
    obtain ⟨v3, σ4, hv, hf⟩ := bd2_e hf
    refine g_cViS (k0 := 48) ⟨⟨hx, hb, hml, hown, hB⟩, hK, hi, hA, hAd, hP, hS⟩ (c_X5_keep hi hv) cal_X5_keep kM_X5_59 ⟨Nat.le_trans (Nat.le_of_ble_eq_true rfl) hRf, Nat.le_trans (Nat.le_of_ble_eq_true rfl) hRl⟩ (by decide) rfl rfl rfl hl.1 (Nat.le_of_ble_eq_true rfl) rfl dX5_endow_15 ⟨Nat.zero_le _, Nat.zero_le _⟩ (fun H locs hP hS => ?_)
    obtain ⟨h0, h1, h2⟩ := rt3 hf
    rw [hQ0 h0.symm]
    exact g_iret hx hb hr hlocks hP hS h1 h2 dX5_endow_18
  · obtain ⟨h0, -, h2⟩ := rt3 hf
    have hne : ¬ ex = 0 := fun q => hn (h0.trans q)
    rw [hQ1 hne]
    refine g_xSx0 ⟨⟨hx, hb, hml, hown, hB⟩, hK, hi, hA, hAd, hP, hS⟩ hZ (c_X5_needRange hflag hv) hn cal_X5_needRange kM_X5_63 ⟨Nat.le_trans (Nat.le_of_ble_eq_true rfl) hRf, Nat.le_trans (Nat.le_of_ble_eq_true rfl) hRl⟩ rfl hl.1 (Nat.le_of_ble_eq_true rfl) rfl dX5_endow_5 (hcell hne) (fun q9 ce H locs hP hS hc1 hc2 hc3 => ?_)
    exact g_xout (hout hne) hlocks hc1 hc2 hc3 h0 h2 hP hS
def f_X5_go (σ : Mem) (a0 : Int32) : Option (Nat × Int32 × Mem) :=
bt (f_X5_needDirection a0) (fun n2 => some (n2, 0, σ)) fun v1 =>
bt (f_X5_needActor σ) (fun n4 => some (n4, 0, σ)) fun v3 =>
gd v3 4 <|
bd (f_X2_exitFrom σ (σ 9 v3.toNatClampNeg) a0) fun v5 =>
if v5 = (-1) then (
some (3, 0, σ))
else (
bd2 (f_X5_keep σ 9 a0 0 0 0) fun v7 σ8 =>
some (0, v7, σ8))
set_option maxHeartbeats 4000000 in
set_option maxRecDepth 100000 in
theorem c_X5_go {l : Launch} {D : va_G} {cI cJ : ClassId} {ad : Nat → Nat} {σ : Mem} {a0 : Int32} {ex : Nat} {r : Int32} {σr : Mem} (hflag : l.stackTraces = false) (hi : injG 51 ad) (hf : f_X5_go σ a0 = some (ex, r, σr)) : MGx l yX5_go (Cond.code yX5_go cX5_go 3 (some .int) :: BIG) 7 154 D cI cJ 51 ad (EX ad cI) [.ref (ad 48), .int a0] σ σr ex (fun sz => Qgi D 51 ad (EX ad cI) r σr sz) := by
  refine MGx.ofW (cc := cX5_go) (nL := 3) (ret := (some .int)) (by decide) rfl hi ?_
  intro p e R s m args below meth c Q hx hb hr hml hlocks hown hB hK hZ hP hA hAd hS hRf hRl hcell hout hQ0 hQ1
  have hown : s.vm.findClass RX5 = some m.cls := hown
  have hl := lv_entry ([.ref (ad 48), .int a0] : List Value) (n := 3) (Nat.le_of_ble_eq_true rfl)
  rw [lg_entry_eq]
  generalize (lg_sl ([.ref (ad 48), .int a0] : List Value) ++ List.replicate (3 - (lg_sl ([.ref (ad 48), .int a0] : List Value)).length) Slot.unset).toArray = ls at hl ⊢
  have hl : lv_has ls 3 [(0, .ref (ad 48)), (1, .int a0)] := hl
  unfold f_X5_go at hf
  refine lv_iload_n hx hb dX5_go_0 rfl (lv_at hl 1 rfl) ?_
  rcases bt_e hf with ⟨v1, hv, hf⟩ | ⟨n2, v1, hn, hv, hf⟩
  · refine g_xSv0 ⟨⟨hx, hb, hml, hown, hB⟩, hK, hi, hA, hAd, hP, hS⟩ hZ (c_X5_needDirection hflag hv) cal_X5_needDirection kM_X5_30 ⟨Nat.le_trans (Nat.le_of_ble_eq_true rfl) hRf, Nat.le_trans (Nat.le_of_ble_eq_true rfl) hRl⟩ rfl hl.1 (Nat.le_of_ble_eq_true rfl) rfl dX5_go_1 (fun H locs hP hS => ?_)
    refine lv_aload_n hx hb dX5_go_4 rfl (lv_at hl 0 rfl) ?_
    refine g_get (v := .ref (ad 0)) hx hb hB hown hK hP 48 (by decide) rfl rfl kU_X5 1 (by decide) kF_X5_19 rfl rfl dX5_go_5 ?_
    refine g_get (v := .ref (ad 8)) hx hb hB hown hK hP 0 (by decide) rfl rfl kU_X4 1 (by decide) kF_X5_78 rfl rfl dX5_go_8 ?_
    refine g_get (v := .ref (ad 9)) hx hb hB hown hK hP 8 (by decide) rfl rfl kU_X1 1 (by decide) kF_X5_121 rfl rfl dX5_go_11 ?_
    refine lv_aload_n hx hb dX5_go_14 rfl (lv_at hl 0 rfl) ?_
    rcases bt_e hf with ⟨v3, hv, hf⟩ | ⟨n4, v3, hn, hv, hf⟩
    · refine g_xVi (k0 := 48) ⟨⟨hx, hb, hml, hown, hB⟩, hK, hi, hA, hAd, hP, hS⟩ hZ (c_X5_needActor hflag hi hv) cal_X5_needActor kM_X5_124 ⟨Nat.le_trans (Nat.le_of_ble_eq_true rfl) hRf, Nat.le_trans (Nat.le_of_ble_eq_true rfl) hRl⟩ (by decide) rfl rfl rfl hl.1 (Nat.le_of_ble_eq_true rfl) rfl dX5_go_15 (fun H locs hP hS => ?_)
      obtain ⟨hin, hf⟩ := gd_e hf
      refine g_iald hx hb hK hP 9 4 (by decide) rfl hin dX5_go_18 ?_
      refine lv_istore_n (lv' := [(2, .int (σ 9 v3.toNatClampNeg)), (0, .ref (ad 48)), (1, .int a0)]) hx hb dX5_go_19 rfl hl (by decide) rfl (fun ls hl => ?_)
      refine lv_aload_n hx hb dX5_go_20 rfl (lv_at hl 1 rfl) ?_
      refine g_get (v := .ref (ad 0)) hx hb hB hown hK hP 48 (by decide) rfl rfl kU_X5 1 (by decide) kF_X5_19 rfl rfl dX5_go_21 ?_
      refine g_get (v := .ref (ad 1)) hx hb hB hown hK hP 0 (by decide) rfl rfl kU_X4 0 (by decide) kF_X5_40 rfl rfl dX5_go_24 ?_
      refine lv_iload_n hx hb dX5_go_27 rfl (lv_at hl 0 rfl) ?_
      refine lv_iload_n hx hb dX5_go_28 rfl (lv_at hl 2 rfl) ?_
      obtain ⟨v5, hv, hf⟩ := bd_e hf
      refine g_cVi (τ := σ) ⟨⟨hx, hb, hml, hown, hB⟩, hK, hi, hA, hAd, hP, hS⟩ sub_now (c_X2_exitFrom (hi_now hi) hv) (fun _ _ => rfl) cal_X2_exitFrom kM_X5_44 ⟨Nat.le_trans (Nat.le_of_ble_eq_true rfl) hRf, Nat.le_trans (Nat.le_of_ble_eq_true rfl) hRl⟩ 1 (by decide) rfl rfl rfl rfl hl.1 (Nat.le_of_ble_eq_true rfl) rfl dX5_go_29 ⟨Nat.zero_le _, Nat.zero_le _⟩ (fun _ _ => rfl) (fun _ _ _ => rfl) (fun H locs hP hS => ?_)
      refine lv_iconst (v := (-1)) hx hb dX5_go_32 (by decide) ?_
      refine lv_icmp_ne (tgt := 46) hx hb dX5_go_33 (by decide) (fun q6 => ?_) (fun q6 => ?_)
      · rw [if_neg q6] at hf
        refine lv_aload_n hx hb dX5_go_46 rfl (lv_at hl 1 rfl) ?_
        refine lv_bipush (v := 9) hx hb dX5_go_47 (by decide) ?_
        refine lv_iload_n hx hb dX5_go_49 rfl (lv_at hl 2 rfl) ?_
        refine lv_iconst (v := 0) hx hb dX5_go_50 (by decide) ?_
        refine lv_iconst (v := 0) hx hb dX5_go_51 (by decide) ?_
        refine lv_iconst (v := 0) hx hb dX5_go_52 (by decide) ?_
        obtain ⟨v7, σ8, hv, hf⟩ := bd2_e hf
        refine g_cViS (k0 := 48) ⟨⟨hx, hb, hml, hown, hB⟩, hK, hi, hA, hAd, hP, hS⟩ (c_X5_keep hi hv) cal_X5_keep kM_X5_59 ⟨Nat.le_trans (Nat.le_of_ble_eq_true rfl) hRf, Nat.le_trans (Nat.le_of_ble_eq_true rfl) hRl⟩ (by decide) rfl rfl rfl hl.1 (Nat.le_of_ble_eq_true rfl) rfl dX5_go_53 ⟨Nat.zero_le _, Nat.zero_le _⟩ (fun H locs hP hS => ?_)
        obtain ⟨h0, h1, h2⟩ := rt3 hf
        rw [hQ0 h0.symm]
        exact g_iret hx hb hr hlocks hP hS h1 h2 dX5_go_56
      · rw [if_pos q6] at hf
        obtain ⟨h0, -, h2⟩ := rt3 hf
        rw [hQ1 (fun q => by rw [q] at h0; cases h0)]
        exact g_throw (text := "there is no exit") (e0 := 3) hx hb hflag hB hown hK hZ hP hS (hl.1.trans hml.symm) hlocks (hout (fun q => by rw [q] at h0; cases h0)) h0 h2 tt_X5_54_58 (by decide +kernel) dX5_go_36 dX5_go_39 dX5_go_40 dX5_go_42 dX5_go_45 hRf hRl (hcell (fun q => by rw [q] at h0; cases h0)) (Nat.le_of_ble_eq_true rfl)
    · obtain ⟨h0, -, h2⟩ := rt3 hf
      have hne : ¬ ex = 0 := fun q => hn (h0.trans q)
      rw [hQ1 hne]
      refine g_xVx (k0 := 48) ⟨⟨hx, hb, hml, hown, hB⟩, hK, hi, hA, hAd, hP, hS⟩ hZ (c_X5_needActor hflag hi hv) hn cal_X5_needActor kM_X5_124 ⟨Nat.le_trans (Nat.le_of_ble_eq_true rfl) hRf, Nat.le_trans (Nat.le_of_ble_eq_true rfl) hRl⟩ (by decide) rfl rfl rfl hl.1 (Nat.le_of_ble_eq_true rfl) rfl dX5_go_15 (hcell hne) (fun q9 ce H locs hP hS hc1 hc2 hc3 => ?_)
      exact g_xout (hout hne) hlocks hc1 hc2 hc3 h0 h2 hP hS
  · obtain ⟨h0, -, h2⟩ := rt3 hf
    have hne : ¬ ex = 0 := fun q => hn (h0.trans q)
    rw [hQ1 hne]
    refine g_xSx0 ⟨⟨hx, hb, hml, hown, hB⟩, hK, hi, hA, hAd, hP, hS⟩ hZ (c_X5_needDirection hflag hv) hn cal_X5_needDirection kM_X5_30 ⟨Nat.le_trans (Nat.le_of_ble_eq_true rfl) hRf, Nat.le_trans (Nat.le_of_ble_eq_true rfl) hRl⟩ rfl hl.1 (Nat.le_of_ble_eq_true rfl) rfl dX5_go_1 (hcell hne) (fun q9 ce H locs hP hS hc1 hc2 hc3 => ?_)
    exact g_xout (hout hne) hlocks hc1 hc2 hc3 h0 h2 hP hS
def f_X5_say (σ : Mem) (a0 : Int32) : Option (Nat × Int32 × Mem) :=
bt (f_X5_needRange a0 0 99) (fun n2 => some (n2, 0, σ)) fun v1 =>
bt (f_X5_needActor σ) (fun n4 => some (n4, 0, σ)) fun v3 =>
bd2 (f_X5_keep σ 10 a0 0 0 0) fun v5 σ6 =>
some (0, v5, σ6)
set_option maxHeartbeats 4000000 in
set_option maxRecDepth 100000 in
theorem c_X5_say {l : Launch} {D : va_G} {cI cJ : ClassId} {ad : Nat → Nat} {σ : Mem} {a0 : Int32} {ex : Nat} {r : Int32} {σr : Mem} (hflag : l.stackTraces = false) (hi : injG 51 ad) (hf : f_X5_say σ a0 = some (ex, r, σr)) : MGx l yX5_say (Cond.code yX5_say cX5_say 2 (some .int) :: BIG) 7 154 D cI cJ 51 ad (EX ad cI) [.ref (ad 48), .int a0] σ σr ex (fun sz => Qgi D 51 ad (EX ad cI) r σr sz) := by
  refine MGx.ofW (cc := cX5_say) (nL := 2) (ret := (some .int)) (by decide) rfl hi ?_
  intro p e R s m args below meth c Q hx hb hr hml hlocks hown hB hK hZ hP hA hAd hS hRf hRl hcell hout hQ0 hQ1
  have hown : s.vm.findClass RX5 = some m.cls := hown
  have hl := lv_entry ([.ref (ad 48), .int a0] : List Value) (n := 2) (Nat.le_of_ble_eq_true rfl)
  rw [lg_entry_eq]
  generalize (lg_sl ([.ref (ad 48), .int a0] : List Value) ++ List.replicate (2 - (lg_sl ([.ref (ad 48), .int a0] : List Value)).length) Slot.unset).toArray = ls at hl ⊢
  have hl : lv_has ls 2 [(0, .ref (ad 48)), (1, .int a0)] := hl
  unfold f_X5_say at hf
  refine lv_iload_n hx hb dX5_say_0 rfl (lv_at hl 1 rfl) ?_
  refine lv_iconst (v := 0) hx hb dX5_say_1 (by decide) ?_
  refine lv_bipush (v := 99) hx hb dX5_say_2 (by decide) ?_
  rcases bt_e hf with ⟨v1, hv, hf⟩ | ⟨n2, v1, hn, hv, hf⟩
  · refine g_xSv0 ⟨⟨hx, hb, hml, hown, hB⟩, hK, hi, hA, hAd, hP, hS⟩ hZ (c_X5_needRange hflag hv) cal_X5_needRange kM_X5_63 ⟨Nat.le_trans (Nat.le_of_ble_eq_true rfl) hRf, Nat.le_trans (Nat.le_of_ble_eq_true rfl) hRl⟩ rfl hl.1 (Nat.le_of_ble_eq_true rfl) rfl dX5_say_4 (fun H locs hP hS => ?_)
    refine lv_aload_n hx hb dX5_say_7 rfl (lv_at hl 0 rfl) ?_
    rcases bt_e hf with ⟨v3, hv, hf⟩ | ⟨n4, v3, hn, hv, hf⟩
    · refine g_xVi (k0 := 48) ⟨⟨hx, hb, hml, hown, hB⟩, hK, hi, hA, hAd, hP, hS⟩ hZ (c_X5_needActor hflag hi hv) cal_X5_needActor kM_X5_124 ⟨Nat.le_trans (Nat.le_of_ble_eq_true rfl) hRf, Nat.le_trans (Nat.le_of_ble_eq_true rfl) hRl⟩ (by decide) rfl rfl rfl hl.1 (Nat.le_of_ble_eq_true rfl) rfl dX5_say_8 (fun H locs hP hS => ?_)
      refine lv_pop hx hb dX5_say_11 rfl ?_
      refine lv_aload_n hx hb dX5_say_12 rfl (lv_at hl 0 rfl) ?_
      refine lv_bipush (v := 10) hx hb dX5_say_13 (by decide) ?_
      refine lv_iload_n hx hb dX5_say_15 rfl (lv_at hl 1 rfl) ?_
      refine lv_iconst (v := 0) hx hb dX5_say_16 (by decide) ?_
      refine lv_iconst (v := 0) hx hb dX5_say_17 (by decide) ?_
      refine lv_iconst (v := 0) hx hb dX5_say_18 (by decide) ?_
      obtain ⟨v5, σ6, hv, hf⟩ := bd2_e hf
      refine g_cViS (k0 := 48) ⟨⟨hx, hb, hml, hown, hB⟩, hK, hi, hA, hAd, hP, hS⟩ (c_X5_keep hi hv) cal_X5_keep kM_X5_59 ⟨Nat.le_trans (Nat.le_of_ble_eq_true rfl) hRf, Nat.le_trans (Nat.le_of_ble_eq_true rfl) hRl⟩ (by decide) rfl rfl rfl hl.1 (Nat.le_of_ble_eq_true rfl) rfl dX5_say_19 ⟨Nat.zero_le _, Nat.zero_le _⟩ (fun H locs hP hS => ?_)
      obtain ⟨h0, h1, h2⟩ := rt3 hf
      rw [hQ0 h0.symm]
      exact g_iret hx hb hr hlocks hP hS h1 h2 dX5_say_22
    · obtain ⟨h0, -, h2⟩ := rt3 hf
      have hne : ¬ ex = 0 := fun q => hn (h0.trans q)
      rw [hQ1 hne]
      refine g_xVx (k0 := 48) ⟨⟨hx, hb, hml, hown, hB⟩, hK, hi, hA, hAd, hP, hS⟩ hZ (c_X5_needActor hflag hi hv) hn cal_X5_needActor kM_X5_124 ⟨Nat.le_trans (Nat.le_of_ble_eq_true rfl) hRf, Nat.le_trans (Nat.le_of_ble_eq_true rfl) hRl⟩ (by decide) rfl rfl rfl hl.1 (Nat.le_of_ble_eq_true rfl) rfl dX5_say_8 (hcell hne) (fun q9 ce H locs hP hS hc1 hc2 hc3 => ?_)
      exact g_xout (hout hne) hlocks hc1 hc2 hc3 h0 h2 hP hS
  · obtain ⟨h0, -, h2⟩ := rt3 hf
    have hne : ¬ ex = 0 := fun q => hn (h0.trans q)
    rw [hQ1 hne]
    refine g_xSx0 ⟨⟨hx, hb, hml, hown, hB⟩, hK, hi, hA, hAd, hP, hS⟩ hZ (c_X5_needRange hflag hv) hn cal_X5_needRange kM_X5_63 ⟨Nat.le_trans (Nat.le_of_ble_eq_true rfl) hRf, Nat.le_trans (Nat.le_of_ble_eq_true rfl) hRl⟩ rfl hl.1 (Nat.le_of_ble_eq_true rfl) rfl dX5_say_4 (hcell hne) (fun q9 ce H locs hP hS hc1 hc2 hc3 => ?_)
    exact g_xout (hout hne) hlocks hc1 hc2 hc3 h0 h2 hP hS
def f_X5_shout (σ : Mem) (a0 : Int32) : Option (Nat × Int32 × Mem) :=
bt (f_X5_needRange a0 0 99) (fun n2 => some (n2, 0, σ)) fun v1 =>
bt (f_X5_needActor σ) (fun n4 => some (n4, 0, σ)) fun v3 =>
bd2 (f_X5_keep σ 11 a0 0 0 0) fun v5 σ6 =>
some (0, v5, σ6)
set_option maxHeartbeats 4000000 in
set_option maxRecDepth 100000 in
theorem c_X5_shout {l : Launch} {D : va_G} {cI cJ : ClassId} {ad : Nat → Nat} {σ : Mem} {a0 : Int32} {ex : Nat} {r : Int32} {σr : Mem} (hflag : l.stackTraces = false) (hi : injG 51 ad) (hf : f_X5_shout σ a0 = some (ex, r, σr)) : MGx l yX5_shout (Cond.code yX5_shout cX5_shout 2 (some .int) :: BIG) 7 154 D cI cJ 51 ad (EX ad cI) [.ref (ad 48), .int a0] σ σr ex (fun sz => Qgi D 51 ad (EX ad cI) r σr sz) := by
  refine MGx.ofW (cc := cX5_shout) (nL := 2) (ret := (some .int)) (by decide) rfl hi ?_
  intro p e R s m args below meth c Q hx hb hr hml hlocks hown hB hK hZ hP hA hAd hS hRf hRl hcell hout hQ0 hQ1
  have hown : s.vm.findClass RX5 = some m.cls := hown
  have hl := lv_entry ([.ref (ad 48), .int a0] : List Value) (n := 2) (Nat.le_of_ble_eq_true rfl)
  rw [lg_entry_eq]
  generalize (lg_sl ([.ref (ad 48), .int a0] : List Value) ++ List.replicate (2 - (lg_sl ([.ref (ad 48), .int a0] : List Value)).length) Slot.unset).toArray = ls at hl ⊢
  have hl : lv_has ls 2 [(0, .ref (ad 48)), (1, .int a0)] := hl
  unfold f_X5_shout at hf
  refine lv_iload_n hx hb dX5_shout_0 rfl (lv_at hl 1 rfl) ?_
  refine lv_iconst (v := 0) hx hb dX5_shout_1 (by decide) ?_
  refine lv_bipush (v := 99) hx hb dX5_shout_2 (by decide) ?_
  rcases bt_e hf with ⟨v1, hv, hf⟩ | ⟨n2, v1, hn, hv, hf⟩
  · refine g_xSv0 ⟨⟨hx, hb, hml, hown, hB⟩, hK, hi, hA, hAd, hP, hS⟩ hZ (c_X5_needRange hflag hv) cal_X5_needRange kM_X5_63 ⟨Nat.le_trans (Nat.le_of_ble_eq_true rfl) hRf, Nat.le_trans (Nat.le_of_ble_eq_true rfl) hRl⟩ rfl hl.1 (Nat.le_of_ble_eq_true rfl) rfl dX5_shout_4 (fun H locs hP hS => ?_)
    refine lv_aload_n hx hb dX5_shout_7 rfl (lv_at hl 0 rfl) ?_
    rcases bt_e hf with ⟨v3, hv, hf⟩ | ⟨n4, v3, hn, hv, hf⟩
    · refine g_xVi (k0 := 48) ⟨⟨hx, hb, hml, hown, hB⟩, hK, hi, hA, hAd, hP, hS⟩ hZ (c_X5_needActor hflag hi hv) cal_X5_needActor kM_X5_124 ⟨Nat.le_trans (Nat.le_of_ble_eq_true rfl) hRf, Nat.le_trans (Nat.le_of_ble_eq_true rfl) hRl⟩ (by decide) rfl rfl rfl hl.1 (Nat.le_of_ble_eq_true rfl) rfl dX5_shout_8 (fun H locs hP hS => ?_)
      refine lv_pop hx hb dX5_shout_11 rfl ?_
      refine lv_aload_n hx hb dX5_shout_12 rfl (lv_at hl 0 rfl) ?_
      refine lv_bipush (v := 11) hx hb dX5_shout_13 (by decide) ?_
      refine lv_iload_n hx hb dX5_shout_15 rfl (lv_at hl 1 rfl) ?_
      refine lv_iconst (v := 0) hx hb dX5_shout_16 (by decide) ?_
      refine lv_iconst (v := 0) hx hb dX5_shout_17 (by decide) ?_
      refine lv_iconst (v := 0) hx hb dX5_shout_18 (by decide) ?_
      obtain ⟨v5, σ6, hv, hf⟩ := bd2_e hf
      refine g_cViS (k0 := 48) ⟨⟨hx, hb, hml, hown, hB⟩, hK, hi, hA, hAd, hP, hS⟩ (c_X5_keep hi hv) cal_X5_keep kM_X5_59 ⟨Nat.le_trans (Nat.le_of_ble_eq_true rfl) hRf, Nat.le_trans (Nat.le_of_ble_eq_true rfl) hRl⟩ (by decide) rfl rfl rfl hl.1 (Nat.le_of_ble_eq_true rfl) rfl dX5_shout_19 ⟨Nat.zero_le _, Nat.zero_le _⟩ (fun H locs hP hS => ?_)
      obtain ⟨h0, h1, h2⟩ := rt3 hf
      rw [hQ0 h0.symm]
      exact g_iret hx hb hr hlocks hP hS h1 h2 dX5_shout_22
    · obtain ⟨h0, -, h2⟩ := rt3 hf
      have hne : ¬ ex = 0 := fun q => hn (h0.trans q)
      rw [hQ1 hne]
      refine g_xVx (k0 := 48) ⟨⟨hx, hb, hml, hown, hB⟩, hK, hi, hA, hAd, hP, hS⟩ hZ (c_X5_needActor hflag hi hv) hn cal_X5_needActor kM_X5_124 ⟨Nat.le_trans (Nat.le_of_ble_eq_true rfl) hRf, Nat.le_trans (Nat.le_of_ble_eq_true rfl) hRl⟩ (by decide) rfl rfl rfl hl.1 (Nat.le_of_ble_eq_true rfl) rfl dX5_shout_8 (hcell hne) (fun q9 ce H locs hP hS hc1 hc2 hc3 => ?_)
      exact g_xout (hout hne) hlocks hc1 hc2 hc3 h0 h2 hP hS
  · obtain ⟨h0, -, h2⟩ := rt3 hf
    have hne : ¬ ex = 0 := fun q => hn (h0.trans q)
    rw [hQ1 hne]
    refine g_xSx0 ⟨⟨hx, hb, hml, hown, hB⟩, hK, hi, hA, hAd, hP, hS⟩ hZ (c_X5_needRange hflag hv) hn cal_X5_needRange kM_X5_63 ⟨Nat.le_trans (Nat.le_of_ble_eq_true rfl) hRf, Nat.le_trans (Nat.le_of_ble_eq_true rfl) hRl⟩ rfl hl.1 (Nat.le_of_ble_eq_true rfl) rfl dX5_shout_4 (hcell hne) (fun q9 ce H locs hP hS hc1 hc2 hc3 => ?_)
    exact g_xout (hout hne) hlocks hc1 hc2 hc3 h0 h2 hP hS
def f_X5_take (σ : Mem) (a0 : Int32) : Option (Nat × Int32 × Mem) :=
bt (f_X5_needKind a0) (fun n2 => some (n2, 0, σ)) fun v1 =>
bt (f_X5_needActor σ) (fun n4 => some (n4, 0, σ)) fun v3 =>
gd v3 4 <|
bd (f_X5_goodsAt (σ 9 v3.toNatClampNeg) a0) fun v5 =>
gd v5 40 <|
if 0 < (σ 6 v5.toNatClampNeg) then (
bd2 (f_X5_keep σ 12 a0 0 0 0) fun v7 σ8 =>
some (0, v7, σ8))
else (
some (3, 0, σ))
set_option maxHeartbeats 4000000 in
set_option maxRecDepth 100000 in
theorem c_X5_take {l : Launch} {D : va_G} {cI cJ : ClassId} {ad : Nat → Nat} {σ : Mem} {a0 : Int32} {ex : Nat} {r : Int32} {σr : Mem} (hflag : l.stackTraces = false) (hi : injG 51 ad) (hf : f_X5_take σ a0 = some (ex, r, σr)) : MGx l yX5_take (Cond.code yX5_take cX5_take 3 (some .int) :: BIG) 7 154 D cI cJ 51 ad (EX ad cI) [.ref (ad 48), .int a0] σ σr ex (fun sz => Qgi D 51 ad (EX ad cI) r σr sz) := by
  refine MGx.ofW (cc := cX5_take) (nL := 3) (ret := (some .int)) (by decide) rfl hi ?_
  intro p e R s m args below meth c Q hx hb hr hml hlocks hown hB hK hZ hP hA hAd hS hRf hRl hcell hout hQ0 hQ1
  have hown : s.vm.findClass RX5 = some m.cls := hown
  have hl := lv_entry ([.ref (ad 48), .int a0] : List Value) (n := 3) (Nat.le_of_ble_eq_true rfl)
  rw [lg_entry_eq]
  generalize (lg_sl ([.ref (ad 48), .int a0] : List Value) ++ List.replicate (3 - (lg_sl ([.ref (ad 48), .int a0] : List Value)).length) Slot.unset).toArray = ls at hl ⊢
  have hl : lv_has ls 3 [(0, .ref (ad 48)), (1, .int a0)] := hl
  unfold f_X5_take at hf
  refine lv_iload_n hx hb dX5_take_0 rfl (lv_at hl 1 rfl) ?_
  rcases bt_e hf with ⟨v1, hv, hf⟩ | ⟨n2, v1, hn, hv, hf⟩
  · refine g_xSv0 ⟨⟨hx, hb, hml, hown, hB⟩, hK, hi, hA, hAd, hP, hS⟩ hZ (c_X5_needKind hflag hv) cal_X5_needKind kM_X5_73 ⟨Nat.le_trans (Nat.le_of_ble_eq_true rfl) hRf, Nat.le_trans (Nat.le_of_ble_eq_true rfl) hRl⟩ rfl hl.1 (Nat.le_of_ble_eq_true rfl) rfl dX5_take_1 (fun H locs hP hS => ?_)
    refine lv_aload_n hx hb dX5_take_4 rfl (lv_at hl 0 rfl) ?_
    refine g_get (v := .ref (ad 0)) hx hb hB hown hK hP 48 (by decide) rfl rfl kU_X5 1 (by decide) kF_X5_19 rfl rfl dX5_take_5 ?_
    refine g_get (v := .ref (ad 8)) hx hb hB hown hK hP 0 (by decide) rfl rfl kU_X4 1 (by decide) kF_X5_78 rfl rfl dX5_take_8 ?_
    refine g_get (v := .ref (ad 9)) hx hb hB hown hK hP 8 (by decide) rfl rfl kU_X1 1 (by decide) kF_X5_121 rfl rfl dX5_take_11 ?_
    refine lv_aload_n hx hb dX5_take_14 rfl (lv_at hl 0 rfl) ?_
    rcases bt_e hf with ⟨v3, hv, hf⟩ | ⟨n4, v3, hn, hv, hf⟩
    · refine g_xVi (k0 := 48) ⟨⟨hx, hb, hml, hown, hB⟩, hK, hi, hA, hAd, hP, hS⟩ hZ (c_X5_needActor hflag hi hv) cal_X5_needActor kM_X5_124 ⟨Nat.le_trans (Nat.le_of_ble_eq_true rfl) hRf, Nat.le_trans (Nat.le_of_ble_eq_true rfl) hRl⟩ (by decide) rfl rfl rfl hl.1 (Nat.le_of_ble_eq_true rfl) rfl dX5_take_15 (fun H locs hP hS => ?_)
      obtain ⟨hin, hf⟩ := gd_e hf
      refine g_iald hx hb hK hP 9 4 (by decide) rfl hin dX5_take_18 ?_
      refine lv_istore_n (lv' := [(2, .int (σ 9 v3.toNatClampNeg)), (0, .ref (ad 48)), (1, .int a0)]) hx hb dX5_take_19 rfl hl (by decide) rfl (fun ls hl => ?_)
      refine lv_aload_n hx hb dX5_take_20 rfl (lv_at hl 1 rfl) ?_
      refine g_get (v := .ref (ad 0)) hx hb hB hown hK hP 48 (by decide) rfl rfl kU_X5 1 (by decide) kF_X5_19 rfl rfl dX5_take_21 ?_
      refine g_get (v := .ref (ad 1)) hx hb hB hown hK hP 0 (by decide) rfl rfl kU_X4 0 (by decide) kF_X5_40 rfl rfl dX5_take_24 ?_
      refine g_get (v := .ref (ad 6)) hx hb hB hown hK hP 1 (by decide) rfl rfl kU_X2 4 (by decide) kF_X5_130 rfl rfl dX5_take_27 ?_
      refine lv_iload_n hx hb dX5_take_30 rfl (lv_at hl 0 rfl) ?_
      refine lv_iload_n hx hb dX5_take_31 rfl (lv_at hl 2 rfl) ?_
      obtain ⟨v5, hv, hf⟩ := bd_e hf
      refine g_cSi0 ⟨⟨hx, hb, hml, hown, hB⟩, hK, hi, hA, hAd, hP, hS⟩ (c_X5_goodsAt hv) cal_X5_goodsAt kM_X5_133 ⟨Nat.le_trans (Nat.le_of_ble_eq_true rfl) hRf, Nat.le_trans (Nat.le_of_ble_eq_true rfl) hRl⟩ rfl hl.1 (Nat.le_of_ble_eq_true rfl) rfl dX5_take_32 ⟨Nat.zero_le _, Nat.zero_le _⟩ (fun H locs hP hS => ?_)
      obtain ⟨hin, hf⟩ := gd_e hf
      refine g_iald hx hb hK hP 6 40 (by decide) rfl hin dX5_take_35 ?_
      refine lv_if_gt (tgt := 49) hx hb dX5_take_36 (by decide) (fun q6 => ?_) (fun q6 => ?_)
      · rw [if_pos q6] at hf
        refine lv_aload_n hx hb dX5_take_49 rfl (lv_at hl 1 rfl) ?_
        refine lv_bipush (v := 12) hx hb dX5_take_50 (by decide) ?_
        refine lv_iload_n hx hb dX5_take_52 rfl (lv_at hl 2 rfl) ?_
        refine lv_iconst (v := 0) hx hb dX5_take_53 (by decide) ?_
        refine lv_iconst (v := 0) hx hb dX5_take_54 (by decide) ?_
        refine lv_iconst (v := 0) hx hb dX5_take_55 (by decide) ?_
        obtain ⟨v7, σ8, hv, hf⟩ := bd2_e hf
        refine g_cViS (k0 := 48) ⟨⟨hx, hb, hml, hown, hB⟩, hK, hi, hA, hAd, hP, hS⟩ (c_X5_keep hi hv) cal_X5_keep kM_X5_59 ⟨Nat.le_trans (Nat.le_of_ble_eq_true rfl) hRf, Nat.le_trans (Nat.le_of_ble_eq_true rfl) hRl⟩ (by decide) rfl rfl rfl hl.1 (Nat.le_of_ble_eq_true rfl) rfl dX5_take_56 ⟨Nat.zero_le _, Nat.zero_le _⟩ (fun H locs hP hS => ?_)
        obtain ⟨h0, h1, h2⟩ := rt3 hf
        rw [hQ0 h0.symm]
        exact g_iret hx hb hr hlocks hP hS h1 h2 dX5_take_59
      · rw [if_neg q6] at hf
        obtain ⟨h0, -, h2⟩ := rt3 hf
        rw [hQ1 (fun q => by rw [q] at h0; cases h0)]
        exact g_throw (text := "none of that kind lies there") (e0 := 3) hx hb hflag hB hown hK hZ hP hS (hl.1.trans hml.symm) hlocks (hout (fun q => by rw [q] at h0; cases h0)) h0 h2 tt_X5_54_58 (by decide +kernel) dX5_take_39 dX5_take_42 dX5_take_43 dX5_take_45 dX5_take_48 hRf hRl (hcell (fun q => by rw [q] at h0; cases h0)) (Nat.le_of_ble_eq_true rfl)
    · obtain ⟨h0, -, h2⟩ := rt3 hf
      have hne : ¬ ex = 0 := fun q => hn (h0.trans q)
      rw [hQ1 hne]
      refine g_xVx (k0 := 48) ⟨⟨hx, hb, hml, hown, hB⟩, hK, hi, hA, hAd, hP, hS⟩ hZ (c_X5_needActor hflag hi hv) hn cal_X5_needActor kM_X5_124 ⟨Nat.le_trans (Nat.le_of_ble_eq_true rfl) hRf, Nat.le_trans (Nat.le_of_ble_eq_true rfl) hRl⟩ (by decide) rfl rfl rfl hl.1 (Nat.le_of_ble_eq_true rfl) rfl dX5_take_15 (hcell hne) (fun q9 ce H locs hP hS hc1 hc2 hc3 => ?_)
      exact g_xout (hout hne) hlocks hc1 hc2 hc3 h0 h2 hP hS
  · obtain ⟨h0, -, h2⟩ := rt3 hf
    have hne : ¬ ex = 0 := fun q => hn (h0.trans q)
    rw [hQ1 hne]
    refine g_xSx0 ⟨⟨hx, hb, hml, hown, hB⟩, hK, hi, hA, hAd, hP, hS⟩ hZ (c_X5_needKind hflag hv) hn cal_X5_needKind kM_X5_73 ⟨Nat.le_trans (Nat.le_of_ble_eq_true rfl) hRf, Nat.le_trans (Nat.le_of_ble_eq_true rfl) hRl⟩ rfl hl.1 (Nat.le_of_ble_eq_true rfl) rfl dX5_take_1 (hcell hne) (fun q9 ce H locs hP hS hc1 hc2 hc3 => ?_)
    exact g_xout (hout hne) hlocks hc1 hc2 hc3 h0 h2 hP hS
def f_X5_drop (σ : Mem) (a0 : Int32) : Option (Nat × Int32 × Mem) :=
bt (f_X5_needKind a0) (fun n2 => some (n2, 0, σ)) fun v1 =>
bt (f_X5_needActor σ) (fun n4 => some (n4, 0, σ)) fun v3 =>
bt (f_X5_needOwned σ v3 a0) (fun n6 => some (n6, 0, σ)) fun v5 =>
bd2 (f_X5_keep σ 13 a0 0 0 0) fun v7 σ8 =>
some (0, v7, σ8)
set_option maxHeartbeats 4000000 in
set_option maxRecDepth 100000 in
theorem c_X5_drop {l : Launch} {D : va_G} {cI cJ : ClassId} {ad : Nat → Nat} {σ : Mem} {a0 : Int32} {ex : Nat} {r : Int32} {σr : Mem} (hflag : l.stackTraces = false) (hi : injG 51 ad) (hf : f_X5_drop σ a0 = some (ex, r, σr)) : MGx l yX5_drop (Cond.code yX5_drop cX5_drop 2 (some .int) :: BIG) 7 154 D cI cJ 51 ad (EX ad cI) [.ref (ad 48), .int a0] σ σr ex (fun sz => Qgi D 51 ad (EX ad cI) r σr sz) := by
  refine MGx.ofW (cc := cX5_drop) (nL := 2) (ret := (some .int)) (by decide) rfl hi ?_
  intro p e R s m args below meth c Q hx hb hr hml hlocks hown hB hK hZ hP hA hAd hS hRf hRl hcell hout hQ0 hQ1
  have hown : s.vm.findClass RX5 = some m.cls := hown
  have hl := lv_entry ([.ref (ad 48), .int a0] : List Value) (n := 2) (Nat.le_of_ble_eq_true rfl)
  rw [lg_entry_eq]
  generalize (lg_sl ([.ref (ad 48), .int a0] : List Value) ++ List.replicate (2 - (lg_sl ([.ref (ad 48), .int a0] : List Value)).length) Slot.unset).toArray = ls at hl ⊢
  have hl : lv_has ls 2 [(0, .ref (ad 48)), (1, .int a0)] := hl
  unfold f_X5_drop at hf
  refine lv_iload_n hx hb dX5_drop_0 rfl (lv_at hl 1 rfl) ?_
  rcases bt_e hf with ⟨v1, hv, hf⟩ | ⟨n2, v1, hn, hv, hf⟩
  · refine g_xSv0 ⟨⟨hx, hb, hml, hown, hB⟩, hK, hi, hA, hAd, hP, hS⟩ hZ (c_X5_needKind hflag hv) cal_X5_needKind kM_X5_73 ⟨Nat.le_trans (Nat.le_of_ble_eq_true rfl) hRf, Nat.le_trans (Nat.le_of_ble_eq_true rfl) hRl⟩ rfl hl.1 (Nat.le_of_ble_eq_true rfl) rfl dX5_drop_1 (fun H locs hP hS => ?_)
    refine lv_aload_n hx hb dX5_drop_4 rfl (lv_at hl 0 rfl) ?_
    refine lv_aload_n hx hb dX5_drop_5 rfl (lv_at hl 0 rfl) ?_
    rcases bt_e hf with ⟨v3, hv, hf⟩ | ⟨n4, v3, hn, hv, hf⟩
    · refine g_xVi (k0 := 48) ⟨⟨hx, hb, hml, hown, hB⟩, hK, hi, hA, hAd, hP, hS⟩ hZ (c_X5_needActor hflag hi hv) cal_X5_needActor kM_X5_124 ⟨Nat.le_trans (Nat.le_of_ble_eq_true rfl) hRf, Nat.le_trans (Nat.le_of_ble_eq_true rfl) hRl⟩ (by decide) rfl rfl rfl hl.1 (Nat.le_of_ble_eq_true rfl) rfl dX5_drop_6 (fun H locs hP hS => ?_)
      refine lv_iload_n hx hb dX5_drop_9 rfl (lv_at hl 1 rfl) ?_
      rcases bt_e hf with ⟨v5, hv, hf⟩ | ⟨n6, v5, hn, hv, hf⟩
      · refine g_xVv (k0 := 48) ⟨⟨hx, hb, hml, hown, hB⟩, hK, hi, hA, hAd, hP, hS⟩ hZ (c_X5_needOwned hflag hi hv) cal_X5_needOwned kM_X5_138 ⟨Nat.le_trans (Nat.le_of_ble_eq_true rfl) hRf, Nat.le_trans (Nat.le_of_ble_eq_true rfl) hRl⟩ (by decide) rfl rfl rfl hl.1 (Nat.le_of_ble_eq_true rfl) rfl dX5_drop_10 (fun H locs hP hS => ?_)
        refine lv_aload_n hx hb dX5_drop_13 rfl (lv_at hl 0 rfl) ?_
        refine lv_bipush (v := 13) hx hb dX5_drop_14 (by decide) ?_
        refine lv_iload_n hx hb dX5_drop_16 rfl (lv_at hl 1 rfl) ?_
        refine lv_iconst (v := 0) hx hb dX5_drop_17 (by decide) ?_
        refine lv_iconst (v := 0) hx hb dX5_drop_18 (by decide) ?_
        refine lv_iconst (v := 0) hx hb dX5_drop_19 (by decide) ?_
        obtain ⟨v7, σ8, hv, hf⟩ := bd2_e hf
        refine g_cViS (k0 := 48) ⟨⟨hx, hb, hml, hown, hB⟩, hK, hi, hA, hAd, hP, hS⟩ (c_X5_keep hi hv) cal_X5_keep kM_X5_59 ⟨Nat.le_trans (Nat.le_of_ble_eq_true rfl) hRf, Nat.le_trans (Nat.le_of_ble_eq_true rfl) hRl⟩ (by decide) rfl rfl rfl hl.1 (Nat.le_of_ble_eq_true rfl) rfl dX5_drop_20 ⟨Nat.zero_le _, Nat.zero_le _⟩ (fun H locs hP hS => ?_)
        obtain ⟨h0, h1, h2⟩ := rt3 hf
        rw [hQ0 h0.symm]
        exact g_iret hx hb hr hlocks hP hS h1 h2 dX5_drop_23
      · obtain ⟨h0, -, h2⟩ := rt3 hf
        have hne : ¬ ex = 0 := fun q => hn (h0.trans q)
        rw [hQ1 hne]
        refine g_xVx (k0 := 48) ⟨⟨hx, hb, hml, hown, hB⟩, hK, hi, hA, hAd, hP, hS⟩ hZ (c_X5_needOwned hflag hi hv) hn cal_X5_needOwned kM_X5_138 ⟨Nat.le_trans (Nat.le_of_ble_eq_true rfl) hRf, Nat.le_trans (Nat.le_of_ble_eq_true rfl) hRl⟩ (by decide) rfl rfl rfl hl.1 (Nat.le_of_ble_eq_true rfl) rfl dX5_drop_10 (hcell hne) (fun q9 ce H locs hP hS hc1 hc2 hc3 => ?_)
        exact g_xout (hout hne) hlocks hc1 hc2 hc3 h0 h2 hP hS
    · obtain ⟨h0, -, h2⟩ := rt3 hf
      have hne : ¬ ex = 0 := fun q => hn (h0.trans q)
      rw [hQ1 hne]
      refine g_xVx (k0 := 48) ⟨⟨hx, hb, hml, hown, hB⟩, hK, hi, hA, hAd, hP, hS⟩ hZ (c_X5_needActor hflag hi hv) hn cal_X5_needActor kM_X5_124 ⟨Nat.le_trans (Nat.le_of_ble_eq_true rfl) hRf, Nat.le_trans (Nat.le_of_ble_eq_true rfl) hRl⟩ (by decide) rfl rfl rfl hl.1 (Nat.le_of_ble_eq_true rfl) rfl dX5_drop_6 (hcell hne) (fun q9 ce H locs hP hS hc1 hc2 hc3 => ?_)
      exact g_xout (hout hne) hlocks hc1 hc2 hc3 h0 h2 hP hS
  · obtain ⟨h0, -, h2⟩ := rt3 hf
    have hne : ¬ ex = 0 := fun q => hn (h0.trans q)
    rw [hQ1 hne]
    refine g_xSx0 ⟨⟨hx, hb, hml, hown, hB⟩, hK, hi, hA, hAd, hP, hS⟩ hZ (c_X5_needKind hflag hv) hn cal_X5_needKind kM_X5_73 ⟨Nat.le_trans (Nat.le_of_ble_eq_true rfl) hRf, Nat.le_trans (Nat.le_of_ble_eq_true rfl) hRl⟩ rfl hl.1 (Nat.le_of_ble_eq_true rfl) rfl dX5_drop_1 (hcell hne) (fun q9 ce H locs hP hS hc1 hc2 hc3 => ?_)
    exact g_xout (hout hne) hlocks hc1 hc2 hc3 h0 h2 hP hS
def f_X5_give (σ : Mem) (a0 a1 : Int32) : Option (Nat × Int32 × Mem) :=
bt (f_X5_needPlayer σ a0) (fun n2 => some (n2, 0, σ)) fun v1 =>
bt (f_X5_needKind a1) (fun n4 => some (n4, 0, σ)) fun v3 =>
bt (f_X5_needActor σ) (fun n6 => some (n6, 0, σ)) fun v5 =>
bt (f_X5_needCompany σ v5 a0) (fun n8 => some (n8, 0, σ)) fun v7 =>
bt (f_X5_needOwned σ v5 a1) (fun n10 => some (n10, 0, σ)) fun v9 =>
bd2 (f_X5_keep σ 14 a0 a1 0 0) fun v11 σ12 =>
some (0, v11, σ12)
set_option maxHeartbeats 4000000 in
set_option maxRecDepth 100000 in
theorem c_X5_give {l : Launch} {D : va_G} {cI cJ : ClassId} {ad : Nat → Nat} {σ : Mem} {a0 a1 : Int32} {ex : Nat} {r : Int32} {σr : Mem} (hflag : l.stackTraces = false) (hi : injG 51 ad) (hf : f_X5_give σ a0 a1 = some (ex, r, σr)) : MGx l yX5_give (Cond.code yX5_give cX5_give 4 (some .int) :: BIG) 8 154 D cI cJ 51 ad (EX ad cI) [.ref (ad 48), .int a0, .int a1] σ σr ex (fun sz => Qgi D 51 ad (EX ad cI) r σr sz) := by
  refine MGx.ofW (cc := cX5_give) (nL := 4) (ret := (some .int)) (by decide) rfl hi ?_
  intro p e R s m args below meth c Q hx hb hr hml hlocks hown hB hK hZ hP hA hAd hS hRf hRl hcell hout hQ0 hQ1
  have hown : s.vm.findClass RX5 = some m.cls := hown
  have hl := lv_entry ([.ref (ad 48), .int a0, .int a1] : List Value) (n := 4) (Nat.le_of_ble_eq_true rfl)
  rw [lg_entry_eq]
  generalize (lg_sl ([.ref (ad 48), .int a0, .int a1] : List Value) ++ List.replicate (4 - (lg_sl ([.ref (ad 48), .int a0, .int a1] : List Value)).length) Slot.unset).toArray = ls at hl ⊢
  have hl : lv_has ls 4 [(0, .ref (ad 48)), (1, .int a0), (2, .int a1)] := hl
  unfold f_X5_give at hf
  refine lv_aload_n hx hb dX5_give_0 rfl (lv_at hl 0 rfl) ?_
  refine lv_iload_n hx hb dX5_give_1 rfl (lv_at hl 1 rfl) ?_
  rcases bt_e hf with ⟨v1, hv, hf⟩ | ⟨n2, v1, hn, hv, hf⟩
  · refine g_xVv (k0 := 48) ⟨⟨hx, hb, hml, hown, hB⟩, hK, hi, hA, hAd, hP, hS⟩ hZ (c_X5_needPlayer hflag hi hv) cal_X5_needPlayer kM_X5_141 ⟨Nat.le_trans (Nat.le_of_ble_eq_true rfl) hRf, Nat.le_trans (Nat.le_of_ble_eq_true rfl) hRl⟩ (by decide) rfl rfl rfl hl.1 (Nat.le_of_ble_eq_true rfl) rfl dX5_give_2 (fun H locs hP hS => ?_)
    refine lv_iload_n hx hb dX5_give_5 rfl (lv_at hl 2 rfl) ?_
    rcases bt_e hf with ⟨v3, hv, hf⟩ | ⟨n4, v3, hn, hv, hf⟩
    · refine g_xSv0 ⟨⟨hx, hb, hml, hown, hB⟩, hK, hi, hA, hAd, hP, hS⟩ hZ (c_X5_needKind hflag hv) cal_X5_needKind kM_X5_73 ⟨Nat.le_trans (Nat.le_of_ble_eq_true rfl) hRf, Nat.le_trans (Nat.le_of_ble_eq_true rfl) hRl⟩ rfl hl.1 (Nat.le_of_ble_eq_true rfl) rfl dX5_give_6 (fun H locs hP hS => ?_)
      refine lv_aload_n hx hb dX5_give_9 rfl (lv_at hl 0 rfl) ?_
      rcases bt_e hf with ⟨v5, hv, hf⟩ | ⟨n6, v5, hn, hv, hf⟩
      · refine g_xVi (k0 := 48) ⟨⟨hx, hb, hml, hown, hB⟩, hK, hi, hA, hAd, hP, hS⟩ hZ (c_X5_needActor hflag hi hv) cal_X5_needActor kM_X5_124 ⟨Nat.le_trans (Nat.le_of_ble_eq_true rfl) hRf, Nat.le_trans (Nat.le_of_ble_eq_true rfl) hRl⟩ (by decide) rfl rfl rfl hl.1 (Nat.le_of_ble_eq_true rfl) rfl dX5_give_10 (fun H locs hP hS => ?_)
        refine lv_istore_n (lv' := [(3, .int v5), (0, .ref (ad 48)), (1, .int a0), (2, .int a1)]) hx hb dX5_give_13 rfl hl (by decide) rfl (fun ls hl => ?_)
        refine lv_aload_n hx hb dX5_give_14 rfl (lv_at hl 1 rfl) ?_
        refine lv_iload_n hx hb dX5_give_15 rfl (lv_at hl 0 rfl) ?_
        refine lv_iload_n hx hb dX5_give_16 rfl (lv_at hl 2 rfl) ?_
        rcases bt_e hf with ⟨v7, hv, hf⟩ | ⟨n8, v7, hn, hv, hf⟩
        · refine g_xVv (k0 := 48) ⟨⟨hx, hb, hml, hown, hB⟩, hK, hi, hA, hAd, hP, hS⟩ hZ (c_X5_needCompany hflag hi hv) cal_X5_needCompany kM_X5_144 ⟨Nat.le_trans (Nat.le_of_ble_eq_true rfl) hRf, Nat.le_trans (Nat.le_of_ble_eq_true rfl) hRl⟩ (by decide) rfl rfl rfl hl.1 (Nat.le_of_ble_eq_true rfl) rfl dX5_give_17 (fun H locs hP hS => ?_)
          refine lv_aload_n hx hb dX5_give_20 rfl (lv_at hl 1 rfl) ?_
          refine lv_iload_n hx hb dX5_give_21 rfl (lv_at hl 0 rfl) ?_
          refine lv_iload_n hx hb dX5_give_22 rfl (lv_at hl 3 rfl) ?_
          rcases bt_e hf with ⟨v9, hv, hf⟩ | ⟨n10, v9, hn, hv, hf⟩
          · refine g_xVv (k0 := 48) ⟨⟨hx, hb, hml, hown, hB⟩, hK, hi, hA, hAd, hP, hS⟩ hZ (c_X5_needOwned hflag hi hv) cal_X5_needOwned kM_X5_138 ⟨Nat.le_trans (Nat.le_of_ble_eq_true rfl) hRf, Nat.le_trans (Nat.le_of_ble_eq_true rfl) hRl⟩ (by decide) rfl rfl rfl hl.1 (Nat.le_of_ble_eq_true rfl) rfl dX5_give_23 (fun H locs hP hS => ?_)
            refine lv_aload_n hx hb dX5_give_26 rfl (lv_at hl 1 rfl) ?_
            refine lv_bipush (v := 14) hx hb dX5_give_27 (by decide) ?_
            refine lv_iload_n hx hb dX5_give_29 rfl (lv_at hl 2 rfl) ?_
            refine lv_iload_n hx hb dX5_give_30 rfl (lv_at hl 3 rfl) ?_
            refine lv_iconst (v := 0) hx hb dX5_give_31 (by decide) ?_
            refine lv_iconst (v := 0) hx hb dX5_give_32 (by decide) ?_
            obtain ⟨v11, σ12, hv, hf⟩ := bd2_e hf
            refine g_cViS (k0 := 48) ⟨⟨hx, hb, hml, hown, hB⟩, hK, hi, hA, hAd, hP, hS⟩ (c_X5_keep hi hv) cal_X5_keep kM_X5_59 ⟨Nat.le_trans (Nat.le_of_ble_eq_true rfl) hRf, Nat.le_trans (Nat.le_of_ble_eq_true rfl) hRl⟩ (by decide) rfl rfl rfl hl.1 (Nat.le_of_ble_eq_true rfl) rfl dX5_give_33 ⟨Nat.zero_le _, Nat.zero_le _⟩ (fun H locs hP hS => ?_)
            obtain ⟨h0, h1, h2⟩ := rt3 hf
            rw [hQ0 h0.symm]
            exact g_iret hx hb hr hlocks hP hS h1 h2 dX5_give_36
          · obtain ⟨h0, -, h2⟩ := rt3 hf
            have hne : ¬ ex = 0 := fun q => hn (h0.trans q)
            rw [hQ1 hne]
            refine g_xVx (k0 := 48) ⟨⟨hx, hb, hml, hown, hB⟩, hK, hi, hA, hAd, hP, hS⟩ hZ (c_X5_needOwned hflag hi hv) hn cal_X5_needOwned kM_X5_138 ⟨Nat.le_trans (Nat.le_of_ble_eq_true rfl) hRf, Nat.le_trans (Nat.le_of_ble_eq_true rfl) hRl⟩ (by decide) rfl rfl rfl hl.1 (Nat.le_of_ble_eq_true rfl) rfl dX5_give_23 (hcell hne) (fun q9 ce H locs hP hS hc1 hc2 hc3 => ?_)
            exact g_xout (hout hne) hlocks hc1 hc2 hc3 h0 h2 hP hS
        · obtain ⟨h0, -, h2⟩ := rt3 hf
          have hne : ¬ ex = 0 := fun q => hn (h0.trans q)
          rw [hQ1 hne]
          refine g_xVx (k0 := 48) ⟨⟨hx, hb, hml, hown, hB⟩, hK, hi, hA, hAd, hP, hS⟩ hZ (c_X5_needCompany hflag hi hv) hn cal_X5_needCompany kM_X5_144 ⟨Nat.le_trans (Nat.le_of_ble_eq_true rfl) hRf, Nat.le_trans (Nat.le_of_ble_eq_true rfl) hRl⟩ (by decide) rfl rfl rfl hl.1 (Nat.le_of_ble_eq_true rfl) rfl dX5_give_17 (hcell hne) (fun q9 ce H locs hP hS hc1 hc2 hc3 => ?_)
          exact g_xout (hout hne) hlocks hc1 hc2 hc3 h0 h2 hP hS
      · obtain ⟨h0, -, h2⟩ := rt3 hf
        have hne : ¬ ex = 0 := fun q => hn (h0.trans q)
        rw [hQ1 hne]
        refine g_xVx (k0 := 48) ⟨⟨hx, hb, hml, hown, hB⟩, hK, hi, hA, hAd, hP, hS⟩ hZ (c_X5_needActor hflag hi hv) hn cal_X5_needActor kM_X5_124 ⟨Nat.le_trans (Nat.le_of_ble_eq_true rfl) hRf, Nat.le_trans (Nat.le_of_ble_eq_true rfl) hRl⟩ (by decide) rfl rfl rfl hl.1 (Nat.le_of_ble_eq_true rfl) rfl dX5_give_10 (hcell hne) (fun q9 ce H locs hP hS hc1 hc2 hc3 => ?_)
        exact g_xout (hout hne) hlocks hc1 hc2 hc3 h0 h2 hP hS
    · obtain ⟨h0, -, h2⟩ := rt3 hf
      have hne : ¬ ex = 0 := fun q => hn (h0.trans q)
      rw [hQ1 hne]
      refine g_xSx0 ⟨⟨hx, hb, hml, hown, hB⟩, hK, hi, hA, hAd, hP, hS⟩ hZ (c_X5_needKind hflag hv) hn cal_X5_needKind kM_X5_73 ⟨Nat.le_trans (Nat.le_of_ble_eq_true rfl) hRf, Nat.le_trans (Nat.le_of_ble_eq_true rfl) hRl⟩ rfl hl.1 (Nat.le_of_ble_eq_true rfl) rfl dX5_give_6 (hcell hne) (fun q9 ce H locs hP hS hc1 hc2 hc3 => ?_)
      exact g_xout (hout hne) hlocks hc1 hc2 hc3 h0 h2 hP hS
  · obtain ⟨h0, -, h2⟩ := rt3 hf
    have hne : ¬ ex = 0 := fun q => hn (h0.trans q)
    rw [hQ1 hne]
    refine g_xVx (k0 := 48) ⟨⟨hx, hb, hml, hown, hB⟩, hK, hi, hA, hAd, hP, hS⟩ hZ (c_X5_needPlayer hflag hi hv) hn cal_X5_needPlayer kM_X5_141 ⟨Nat.le_trans (Nat.le_of_ble_eq_true rfl) hRf, Nat.le_trans (Nat.le_of_ble_eq_true rfl) hRl⟩ (by decide) rfl rfl rfl hl.1 (Nat.le_of_ble_eq_true rfl) rfl dX5_give_2 (hcell hne) (fun q9 ce H locs hP hS hc1 hc2 hc3 => ?_)
    exact g_xout (hout hne) hlocks hc1 hc2 hc3 h0 h2 hP hS
def f_X5_pay (σ : Mem) (a0 a1 : Int32) : Option (Nat × Int32 × Mem) :=
bt (f_X5_needPlayer σ a0) (fun n2 => some (n2, 0, σ)) fun v1 =>
bt (f_X5_needRange a1 1 1000) (fun n4 => some (n4, 0, σ)) fun v3 =>
bt (f_X5_needActor σ) (fun n6 => some (n6, 0, σ)) fun v5 =>
bt (f_X5_needCompany σ v5 a0) (fun n8 => some (n8, 0, σ)) fun v7 =>
gd v5 4 <|
bt (f_X5_needCoins (σ 10 v5.toNatClampNeg) a1) (fun n10 => some (n10, 0, σ)) fun v9 =>
bd2 (f_X5_keep σ 15 a0 a1 0 0) fun v11 σ12 =>
some (0, v11, σ12)
set_option maxHeartbeats 4000000 in
set_option maxRecDepth 100000 in
theorem c_X5_pay {l : Launch} {D : va_G} {cI cJ : ClassId} {ad : Nat → Nat} {σ : Mem} {a0 a1 : Int32} {ex : Nat} {r : Int32} {σr : Mem} (hflag : l.stackTraces = false) (hi : injG 51 ad) (hf : f_X5_pay σ a0 a1 = some (ex, r, σr)) : MGx l yX5_pay (Cond.code yX5_pay cX5_pay 4 (some .int) :: BIG) 8 154 D cI cJ 51 ad (EX ad cI) [.ref (ad 48), .int a0, .int a1] σ σr ex (fun sz => Qgi D 51 ad (EX ad cI) r σr sz) := by
  refine MGx.ofW (cc := cX5_pay) (nL := 4) (ret := (some .int)) (by decide) rfl hi ?_
  intro p e R s m args below meth c Q hx hb hr hml hlocks hown hB hK hZ hP hA hAd hS hRf hRl hcell hout hQ0 hQ1
  have hown : s.vm.findClass RX5 = some m.cls := hown
  have hl := lv_entry ([.ref (ad 48), .int a0, .int a1] : List Value) (n := 4) (Nat.le_of_ble_eq_true rfl)
  rw [lg_entry_eq]
  generalize (lg_sl ([.ref (ad 48), .int a0, .int a1] : List Value) ++ List.replicate (4 - (lg_sl ([.ref (ad 48), .int a0, .int a1] : List Value)).length) Slot.unset).toArray = ls at hl ⊢
  have hl : lv_has ls 4 [(0, .ref (ad 48)), (1, .int a0), (2, .int a1)] := hl
  unfold f_X5_pay at hf
  refine lv_aload_n hx hb dX5_pay_0 rfl (lv_at hl 0 rfl) ?_
  refine lv_iload_n hx hb dX5_pay_1 rfl (lv_at hl 1 rfl) ?_
  rcases bt_e hf with ⟨v1, hv, hf⟩ | ⟨n2, v1, hn, hv, hf⟩
  · refine g_xVv (k0 := 48) ⟨⟨hx, hb, hml, hown, hB⟩, hK, hi, hA, hAd, hP, hS⟩ hZ (c_X5_needPlayer hflag hi hv) cal_X5_needPlayer kM_X5_141 ⟨Nat.le_trans (Nat.le_of_ble_eq_true rfl) hRf, Nat.le_trans (Nat.le_of_ble_eq_true rfl) hRl⟩ (by decide) rfl rfl rfl hl.1 (Nat.le_of_ble_eq_true rfl) rfl dX5_pay_2 (fun H locs hP hS => ?_)
    refine lv_iload_n hx hb dX5_pay_5 rfl (lv_at hl 2 rfl) ?_
    refine lv_iconst (v := 1) hx hb dX5_pay_6 (by decide) ?_
    refine lv_sipush (v := 1000) hx hb dX5_pay_7 (by decide) ?_
    rcases bt_e hf with ⟨v3, hv, hf⟩ | ⟨n4, v3, hn, hv, hf⟩
    · refine g_xSv0 ⟨⟨hx, hb, hml, hown, hB⟩, hK, hi, hA, hAd, hP, hS⟩ hZ (c_X5_needRange hflag hv) cal_X5_needRange kM_X5_63 ⟨Nat.le_trans (Nat.le_of_ble_eq_true rfl) hRf, Nat.le_trans (Nat.le_of_ble_eq_true rfl) hRl⟩ rfl hl.1 (Nat.le_of_ble_eq_true rfl) rfl dX5_pay_10 (fun H locs hP hS => ?_)
      refine lv_aload_n hx hb dX5_pay_13 rfl (lv_at hl 0 rfl) ?_
      rcases bt_e hf with ⟨v5, hv, hf⟩ | ⟨n6, v5, hn, hv, hf⟩
      · refine g_xVi (k0 := 48) ⟨⟨hx, hb, hml, hown, hB⟩, hK, hi, hA, hAd, hP, hS⟩ hZ (c_X5_needActor hflag hi hv) cal_X5_needActor kM_X5_124 ⟨Nat.le_trans (Nat.le_of_ble_eq_true rfl) hRf, Nat.le_trans (Nat.le_of_ble_eq_true rfl) hRl⟩ (by decide) rfl rfl rfl hl.1 (Nat.le_of_ble_eq_true rfl) rfl dX5_pay_14 (fun H locs hP hS => ?_)
        refine lv_istore_n (lv' := [(3, .int v5), (0, .ref (ad 48)), (1, .int a0), (2, .int a1)]) hx hb dX5_pay_17 rfl hl (by decide) rfl (fun ls hl => ?_)
        refine lv_aload_n hx hb dX5_pay_18 rfl (lv_at hl 1 rfl) ?_
        refine lv_iload_n hx hb dX5_pay_19 rfl (lv_at hl 0 rfl) ?_
        refine lv_iload_n hx hb dX5_pay_20 rfl (lv_at hl 2 rfl) ?_
        rcases bt_e hf with ⟨v7, hv, hf⟩ | ⟨n8, v7, hn, hv, hf⟩
        · refine g_xVv (k0 := 48) ⟨⟨hx, hb, hml, hown, hB⟩, hK, hi, hA, hAd, hP, hS⟩ hZ (c_X5_needCompany hflag hi hv) cal_X5_needCompany kM_X5_144 ⟨Nat.le_trans (Nat.le_of_ble_eq_true rfl) hRf, Nat.le_trans (Nat.le_of_ble_eq_true rfl) hRl⟩ (by decide) rfl rfl rfl hl.1 (Nat.le_of_ble_eq_true rfl) rfl dX5_pay_21 (fun H locs hP hS => ?_)
          refine lv_aload_n hx hb dX5_pay_24 rfl (lv_at hl 1 rfl) ?_
          refine g_get (v := .ref (ad 0)) hx hb hB hown hK hP 48 (by decide) rfl rfl kU_X5 1 (by decide) kF_X5_19 rfl rfl dX5_pay_25 ?_
          refine g_get (v := .ref (ad 8)) hx hb hB hown hK hP 0 (by decide) rfl rfl kU_X4 1 (by decide) kF_X5_78 rfl rfl dX5_pay_28 ?_
          refine g_get (v := .ref (ad 10)) hx hb hB hown hK hP 8 (by decide) rfl rfl kU_X1 2 (by decide) kF_X5_147 rfl rfl dX5_pay_31 ?_
          refine lv_iload_n hx hb dX5_pay_34 rfl (lv_at hl 0 rfl) ?_
          obtain ⟨hin, hf⟩ := gd_e hf
          refine g_iald hx hb hK hP 10 4 (by decide) rfl hin dX5_pay_35 ?_
          refine lv_iload_n hx hb dX5_pay_36 rfl (lv_at hl 3 rfl) ?_
          rcases bt_e hf with ⟨v9, hv, hf⟩ | ⟨n10, v9, hn, hv, hf⟩
          · refine g_xSv0 ⟨⟨hx, hb, hml, hown, hB⟩, hK, hi, hA, hAd, hP, hS⟩ hZ (c_X5_needCoins hflag hv) cal_X5_needCoins kM_X5_150 ⟨Nat.le_trans (Nat.le_of_ble_eq_true rfl) hRf, Nat.le_trans (Nat.le_of_ble_eq_true rfl) hRl⟩ rfl hl.1 (Nat.le_of_ble_eq_true rfl) rfl dX5_pay_37 (fun H locs hP hS => ?_)
            refine lv_aload_n hx hb dX5_pay_40 rfl (lv_at hl 1 rfl) ?_
            refine lv_bipush (v := 15) hx hb dX5_pay_41 (by decide) ?_
            refine lv_iload_n hx hb dX5_pay_43 rfl (lv_at hl 2 rfl) ?_
            refine lv_iload_n hx hb dX5_pay_44 rfl (lv_at hl 3 rfl) ?_
            refine lv_iconst (v := 0) hx hb dX5_pay_45 (by decide) ?_
            refine lv_iconst (v := 0) hx hb dX5_pay_46 (by decide) ?_
            obtain ⟨v11, σ12, hv, hf⟩ := bd2_e hf
            refine g_cViS (k0 := 48) ⟨⟨hx, hb, hml, hown, hB⟩, hK, hi, hA, hAd, hP, hS⟩ (c_X5_keep hi hv) cal_X5_keep kM_X5_59 ⟨Nat.le_trans (Nat.le_of_ble_eq_true rfl) hRf, Nat.le_trans (Nat.le_of_ble_eq_true rfl) hRl⟩ (by decide) rfl rfl rfl hl.1 (Nat.le_of_ble_eq_true rfl) rfl dX5_pay_47 ⟨Nat.zero_le _, Nat.zero_le _⟩ (fun H locs hP hS => ?_)
            obtain ⟨h0, h1, h2⟩ := rt3 hf
            rw [hQ0 h0.symm]
            exact g_iret hx hb hr hlocks hP hS h1 h2 dX5_pay_50
          · obtain ⟨h0, -, h2⟩ := rt3 hf
            have hne : ¬ ex = 0 := fun q => hn (h0.trans q)
            rw [hQ1 hne]
            refine g_xSx0 ⟨⟨hx, hb, hml, hown, hB⟩, hK, hi, hA, hAd, hP, hS⟩ hZ (c_X5_needCoins hflag hv) hn cal_X5_needCoins kM_X5_150 ⟨Nat.le_trans (Nat.le_of_ble_eq_true rfl) hRf, Nat.le_trans (Nat.le_of_ble_eq_true rfl) hRl⟩ rfl hl.1 (Nat.le_of_ble_eq_true rfl) rfl dX5_pay_37 (hcell hne) (fun q9 ce H locs hP hS hc1 hc2 hc3 => ?_)
            exact g_xout (hout hne) hlocks hc1 hc2 hc3 h0 h2 hP hS
        · obtain ⟨h0, -, h2⟩ := rt3 hf
          have hne : ¬ ex = 0 := fun q => hn (h0.trans q)
          rw [hQ1 hne]
          refine g_xVx (k0 := 48) ⟨⟨hx, hb, hml, hown, hB⟩, hK, hi, hA, hAd, hP, hS⟩ hZ (c_X5_needCompany hflag hi hv) hn cal_X5_needCompany kM_X5_144 ⟨Nat.le_trans (Nat.le_of_ble_eq_true rfl) hRf, Nat.le_trans (Nat.le_of_ble_eq_true rfl) hRl⟩ (by decide) rfl rfl rfl hl.1 (Nat.le_of_ble_eq_true rfl) rfl dX5_pay_21 (hcell hne) (fun q9 ce H locs hP hS hc1 hc2 hc3 => ?_)
          exact g_xout (hout hne) hlocks hc1 hc2 hc3 h0 h2 hP hS
      · obtain ⟨h0, -, h2⟩ := rt3 hf
        have hne : ¬ ex = 0 := fun q => hn (h0.trans q)
        rw [hQ1 hne]
        refine g_xVx (k0 := 48) ⟨⟨hx, hb, hml, hown, hB⟩, hK, hi, hA, hAd, hP, hS⟩ hZ (c_X5_needActor hflag hi hv) hn cal_X5_needActor kM_X5_124 ⟨Nat.le_trans (Nat.le_of_ble_eq_true rfl) hRf, Nat.le_trans (Nat.le_of_ble_eq_true rfl) hRl⟩ (by decide) rfl rfl rfl hl.1 (Nat.le_of_ble_eq_true rfl) rfl dX5_pay_14 (hcell hne) (fun q9 ce H locs hP hS hc1 hc2 hc3 => ?_)
        exact g_xout (hout hne) hlocks hc1 hc2 hc3 h0 h2 hP hS
    · obtain ⟨h0, -, h2⟩ := rt3 hf
      have hne : ¬ ex = 0 := fun q => hn (h0.trans q)
      rw [hQ1 hne]
      refine g_xSx0 ⟨⟨hx, hb, hml, hown, hB⟩, hK, hi, hA, hAd, hP, hS⟩ hZ (c_X5_needRange hflag hv) hn cal_X5_needRange kM_X5_63 ⟨Nat.le_trans (Nat.le_of_ble_eq_true rfl) hRf, Nat.le_trans (Nat.le_of_ble_eq_true rfl) hRl⟩ rfl hl.1 (Nat.le_of_ble_eq_true rfl) rfl dX5_pay_10 (hcell hne) (fun q9 ce H locs hP hS hc1 hc2 hc3 => ?_)
      exact g_xout (hout hne) hlocks hc1 hc2 hc3 h0 h2 hP hS
  · obtain ⟨h0, -, h2⟩ := rt3 hf
    have hne : ¬ ex = 0 := fun q => hn (h0.trans q)
    rw [hQ1 hne]
    refine g_xVx (k0 := 48) ⟨⟨hx, hb, hml, hown, hB⟩, hK, hi, hA, hAd, hP, hS⟩ hZ (c_X5_needPlayer hflag hi hv) hn cal_X5_needPlayer kM_X5_141 ⟨Nat.le_trans (Nat.le_of_ble_eq_true rfl) hRf, Nat.le_trans (Nat.le_of_ble_eq_true rfl) hRl⟩ (by decide) rfl rfl rfl hl.1 (Nat.le_of_ble_eq_true rfl) rfl dX5_pay_2 (hcell hne) (fun q9 ce H locs hP hS hc1 hc2 hc3 => ?_)
    exact g_xout (hout hne) hlocks hc1 hc2 hc3 h0 h2 hP hS
def f_X5_buy (σ : Mem) (a0 : Int32) : Option (Nat × Int32 × Mem) :=
bt (f_X5_needKind a0) (fun n2 => some (n2, 0, σ)) fun v1 =>
bt (f_X5_needActor σ) (fun n4 => some (n4, 0, σ)) fun v3 =>
gd v3 4 <|
bt (f_X5_needTrade σ (σ 9 v3.toNatClampNeg) a0) (fun n6 => some (n6, 0, σ)) fun v5 =>
bd (f_X5_goodsAt (σ 9 v3.toNatClampNeg) a0) fun v7 =>
gd v7 40 <|
if 0 < (σ 5 v7.toNatClampNeg) then (
gd v3 4 <|
bd (f_X5_goodsAt (σ 9 v3.toNatClampNeg) a0) fun v9 =>
gd v9 40 <|
bt (f_X5_needCoins (σ 10 v3.toNatClampNeg) (σ 4 v9.toNatClampNeg)) (fun n11 => some (n11, 0, σ)) fun v10 =>
bd2 (f_X5_keep σ 16 a0 0 0 0) fun v12 σ13 =>
some (0, v12, σ13))
else (
some (3, 0, σ))
set_option maxHeartbeats 4000000 in
set_option maxRecDepth 100000 in
theorem c_X5_buy {l : Launch} {D : va_G} {cI cJ : ClassId} {ad : Nat → Nat} {σ : Mem} {a0 : Int32} {ex : Nat} {r : Int32} {σr : Mem} (hflag : l.stackTraces = false) (hi : injG 51 ad) (hf : f_X5_buy σ a0 = some (ex, r, σr)) : MGx l yX5_buy (Cond.code yX5_buy cX5_buy 4 (some .int) :: BIG) 7 154 D cI cJ 51 ad (EX ad cI) [.ref (ad 48), .int a0] σ σr ex (fun sz => Qgi D 51 ad (EX ad cI) r σr sz) := by
  refine MGx.ofW (cc := cX5_buy) (nL := 4) (ret := (some .int)) (by decide) rfl hi ?_
  intro p e R s m args below meth c Q hx hb hr hml hlocks hown hB hK hZ hP hA hAd hS hRf hRl hcell hout hQ0 hQ1
  have hown : s.vm.findClass RX5 = some m.cls := hown
  have hl := lv_entry ([.ref (ad 48), .int a0] : List Value) (n := 4) (Nat.le_of_ble_eq_true rfl)
  rw [lg_entry_eq]
  generalize (lg_sl ([.ref (ad 48), .int a0] : List Value) ++ List.replicate (4 - (lg_sl ([.ref (ad 48), .int a0] : List Value)).length) Slot.unset).toArray = ls at hl ⊢
  have hl : lv_has ls 4 [(0, .ref (ad 48)), (1, .int a0)] := hl
  unfold f_X5_buy at hf
  refine lv_iload_n hx hb dX5_buy_0 rfl (lv_at hl 1 rfl) ?_
  rcases bt_e hf with ⟨v1, hv, hf⟩ | ⟨n2, v1, hn, hv, hf⟩
  · refine g_xSv0 ⟨⟨hx, hb, hml, hown, hB⟩, hK, hi, hA, hAd, hP, hS⟩ hZ (c_X5_needKind hflag hv) cal_X5_needKind kM_X5_73 ⟨Nat.le_trans (Nat.le_of_ble_eq_true rfl) hRf, Nat.le_trans (Nat.le_of_ble_eq_true rfl) hRl⟩ rfl hl.1 (Nat.le_of_ble_eq_true rfl) rfl dX5_buy_1 (fun H locs hP hS => ?_)
    refine lv_aload_n hx hb dX5_buy_4 rfl (lv_at hl 0 rfl) ?_
    rcases bt_e hf with ⟨v3, hv, hf⟩ | ⟨n4, v3, hn, hv, hf⟩
    · refine g_xVi (k0 := 48) ⟨⟨hx, hb, hml, hown, hB⟩, hK, hi, hA, hAd, hP, hS⟩ hZ (c_X5_needActor hflag hi hv) cal_X5_needActor kM_X5_124 ⟨Nat.le_trans (Nat.le_of_ble_eq_true rfl) hRf, Nat.le_trans (Nat.le_of_ble_eq_true rfl) hRl⟩ (by decide) rfl rfl rfl hl.1 (Nat.le_of_ble_eq_true rfl) rfl dX5_buy_5 (fun H locs hP hS => ?_)
      refine lv_istore_n (lv' := [(2, .int v3), (0, .ref (ad 48)), (1, .int a0)]) hx hb dX5_buy_8 rfl hl (by decide) rfl (fun ls hl => ?_)
      refine lv_aload_n hx hb dX5_buy_9 rfl (lv_at hl 1 rfl) ?_
      refine g_get (v := .ref (ad 0)) hx hb hB hown hK hP 48 (by decide) rfl rfl kU_X5 1 (by decide) kF_X5_19 rfl rfl dX5_buy_10 ?_
      refine g_get (v := .ref (ad 8)) hx hb hB hown hK hP 0 (by decide) rfl rfl kU_X4 1 (by decide) kF_X5_78 rfl rfl dX5_buy_13 ?_
      refine g_get (v := .ref (ad 9)) hx hb hB hown hK hP 8 (by decide) rfl rfl kU_X1 1 (by decide) kF_X5_121 rfl rfl dX5_buy_16 ?_
      refine lv_iload_n hx hb dX5_buy_19 rfl (lv_at hl 0 rfl) ?_
      obtain ⟨hin, hf⟩ := gd_e hf
      refine g_iald hx hb hK hP 9 4 (by decide) rfl hin dX5_buy_20 ?_
      refine lv_istore_n (lv' := [(3, .int (σ 9 v3.toNatClampNeg)), (2, .int v3), (0, .ref (ad 48)), (1, .int a0)]) hx hb dX5_buy_21 rfl hl (by decide) rfl (fun ls hl => ?_)
      refine lv_aload_n hx hb dX5_buy_22 rfl (lv_at hl 2 rfl) ?_
      refine lv_iload_n hx hb dX5_buy_23 rfl (lv_at hl 0 rfl) ?_
      refine lv_iload_n hx hb dX5_buy_24 rfl (lv_at hl 3 rfl) ?_
      rcases bt_e hf with ⟨v5, hv, hf⟩ | ⟨n6, v5, hn, hv, hf⟩
      · refine g_xVv (k0 := 48) ⟨⟨hx, hb, hml, hown, hB⟩, hK, hi, hA, hAd, hP, hS⟩ hZ (c_X5_needTrade hflag hi hv) cal_X5_needTrade kM_X5_153 ⟨Nat.le_trans (Nat.le_of_ble_eq_true rfl) hRf, Nat.le_trans (Nat.le_of_ble_eq_true rfl) hRl⟩ (by decide) rfl rfl rfl hl.1 (Nat.le_of_ble_eq_true rfl) rfl dX5_buy_25 (fun H locs hP hS => ?_)
        refine lv_aload_n hx hb dX5_buy_28 rfl (lv_at hl 2 rfl) ?_
        refine g_get (v := .ref (ad 0)) hx hb hB hown hK hP 48 (by decide) rfl rfl kU_X5 1 (by decide) kF_X5_19 rfl rfl dX5_buy_29 ?_
        refine g_get (v := .ref (ad 1)) hx hb hB hown hK hP 0 (by decide) rfl rfl kU_X4 0 (by decide) kF_X5_40 rfl rfl dX5_buy_32 ?_
        refine g_get (v := .ref (ad 5)) hx hb hB hown hK hP 1 (by decide) rfl rfl kU_X2 3 (by decide) kF_X5_156 rfl rfl dX5_buy_35 ?_
        refine lv_iload_n hx hb dX5_buy_38 rfl (lv_at hl 0 rfl) ?_
        refine lv_iload_n hx hb dX5_buy_39 rfl (lv_at hl 3 rfl) ?_
        obtain ⟨v7, hv, hf⟩ := bd_e hf
        refine g_cSi0 ⟨⟨hx, hb, hml, hown, hB⟩, hK, hi, hA, hAd, hP, hS⟩ (c_X5_goodsAt hv) cal_X5_goodsAt kM_X5_133 ⟨Nat.le_trans (Nat.le_of_ble_eq_true rfl) hRf, Nat.le_trans (Nat.le_of_ble_eq_true rfl) hRl⟩ rfl hl.1 (Nat.le_of_ble_eq_true rfl) rfl dX5_buy_40 ⟨Nat.zero_le _, Nat.zero_le _⟩ (fun H locs hP hS => ?_)
        obtain ⟨hin, hf⟩ := gd_e hf
        refine g_iald hx hb hK hP 5 40 (by decide) rfl hin dX5_buy_43 ?_
        refine lv_if_gt (tgt := 57) hx hb dX5_buy_44 (by decide) (fun q8 => ?_) (fun q8 => ?_)
        · rw [if_pos q8] at hf
          refine lv_aload_n hx hb dX5_buy_57 rfl (lv_at hl 2 rfl) ?_
          refine g_get (v := .ref (ad 0)) hx hb hB hown hK hP 48 (by decide) rfl rfl kU_X5 1 (by decide) kF_X5_19 rfl rfl dX5_buy_58 ?_
          refine g_get (v := .ref (ad 8)) hx hb hB hown hK hP 0 (by decide) rfl rfl kU_X4 1 (by decide) kF_X5_78 rfl rfl dX5_buy_61 ?_
          refine g_get (v := .ref (ad 10)) hx hb hB hown hK hP 8 (by decide) rfl rfl kU_X1 2 (by decide) kF_X5_147 rfl rfl dX5_buy_64 ?_
          refine lv_iload_n hx hb dX5_buy_67 rfl (lv_at hl 1 rfl) ?_
          obtain ⟨hin, hf⟩ := gd_e hf
          refine g_iald hx hb hK hP 10 4 (by decide) rfl hin dX5_buy_68 ?_
          refine lv_aload_n hx hb dX5_buy_69 rfl (lv_at hl 2 rfl) ?_
          refine g_get (v := .ref (ad 0)) hx hb hB hown hK hP 48 (by decide) rfl rfl kU_X5 1 (by decide) kF_X5_19 rfl rfl dX5_buy_70 ?_
          refine g_get (v := .ref (ad 1)) hx hb hB hown hK hP 0 (by decide) rfl rfl kU_X4 0 (by decide) kF_X5_40 rfl rfl dX5_buy_73 ?_
          refine g_get (v := .ref (ad 4)) hx hb hB hown hK hP 1 (by decide) rfl rfl kU_X2 2 (by decide) kF_X5_161 rfl rfl dX5_buy_76 ?_
          refine lv_iload_n hx hb dX5_buy_79 rfl (lv_at hl 0 rfl) ?_
          refine lv_iload_n hx hb dX5_buy_80 rfl (lv_at hl 3 rfl) ?_
          obtain ⟨v9, hv, hf⟩ := bd_e hf
          refine g_cSi0 ⟨⟨hx, hb, hml, hown, hB⟩, hK, hi, hA, hAd, hP, hS⟩ (c_X5_goodsAt hv) cal_X5_goodsAt kM_X5_133 ⟨Nat.le_trans (Nat.le_of_ble_eq_true rfl) hRf, Nat.le_trans (Nat.le_of_ble_eq_true rfl) hRl⟩ rfl hl.1 (Nat.le_of_ble_eq_true rfl) rfl dX5_buy_81 ⟨Nat.zero_le _, Nat.zero_le _⟩ (fun H locs hP hS => ?_)
          obtain ⟨hin, hf⟩ := gd_e hf
          refine g_iald hx hb hK hP 4 40 (by decide) rfl hin dX5_buy_84 ?_
          rcases bt_e hf with ⟨v10, hv, hf⟩ | ⟨n11, v10, hn, hv, hf⟩
          · refine g_xSv0 ⟨⟨hx, hb, hml, hown, hB⟩, hK, hi, hA, hAd, hP, hS⟩ hZ (c_X5_needCoins hflag hv) cal_X5_needCoins kM_X5_150 ⟨Nat.le_trans (Nat.le_of_ble_eq_true rfl) hRf, Nat.le_trans (Nat.le_of_ble_eq_true rfl) hRl⟩ rfl hl.1 (Nat.le_of_ble_eq_true rfl) rfl dX5_buy_85 (fun H locs hP hS => ?_)
            refine lv_aload_n hx hb dX5_buy_88 rfl (lv_at hl 2 rfl) ?_
            refine lv_bipush (v := 16) hx hb dX5_buy_89 (by decide) ?_
            refine lv_iload_n hx hb dX5_buy_91 rfl (lv_at hl 3 rfl) ?_
            refine lv_iconst (v := 0) hx hb dX5_buy_92 (by decide) ?_
            refine lv_iconst (v := 0) hx hb dX5_buy_93 (by decide) ?_
            refine lv_iconst (v := 0) hx hb dX5_buy_94 (by decide) ?_
            obtain ⟨v12, σ13, hv, hf⟩ := bd2_e hf
            refine g_cViS (k0 := 48) ⟨⟨hx, hb, hml, hown, hB⟩, hK, hi, hA, hAd, hP, hS⟩ (c_X5_keep hi hv) cal_X5_keep kM_X5_59 ⟨Nat.le_trans (Nat.le_of_ble_eq_true rfl) hRf, Nat.le_trans (Nat.le_of_ble_eq_true rfl) hRl⟩ (by decide) rfl rfl rfl hl.1 (Nat.le_of_ble_eq_true rfl) rfl dX5_buy_95 ⟨Nat.zero_le _, Nat.zero_le _⟩ (fun H locs hP hS => ?_)
            obtain ⟨h0, h1, h2⟩ := rt3 hf
            rw [hQ0 h0.symm]
            exact g_iret hx hb hr hlocks hP hS h1 h2 dX5_buy_98
          · obtain ⟨h0, -, h2⟩ := rt3 hf
            have hne : ¬ ex = 0 := fun q => hn (h0.trans q)
            rw [hQ1 hne]
            refine g_xSx0 ⟨⟨hx, hb, hml, hown, hB⟩, hK, hi, hA, hAd, hP, hS⟩ hZ (c_X5_needCoins hflag hv) hn cal_X5_needCoins kM_X5_150 ⟨Nat.le_trans (Nat.le_of_ble_eq_true rfl) hRf, Nat.le_trans (Nat.le_of_ble_eq_true rfl) hRl⟩ rfl hl.1 (Nat.le_of_ble_eq_true rfl) rfl dX5_buy_85 (hcell hne) (fun q9 ce H locs hP hS hc1 hc2 hc3 => ?_)
            exact g_xout (hout hne) hlocks hc1 hc2 hc3 h0 h2 hP hS
        · rw [if_neg q8] at hf
          obtain ⟨h0, -, h2⟩ := rt3 hf
          rw [hQ1 (fun q => by rw [q] at h0; cases h0)]
          exact g_throw (text := "none of that kind is in stock") (e0 := 3) hx hb hflag hB hown hK hZ hP hS (hl.1.trans hml.symm) hlocks (hout (fun q => by rw [q] at h0; cases h0)) h0 h2 tt_X5_54_58 (by decide +kernel) dX5_buy_47 dX5_buy_50 dX5_buy_51 dX5_buy_53 dX5_buy_56 hRf hRl (hcell (fun q => by rw [q] at h0; cases h0)) (Nat.le_of_ble_eq_true rfl)
      · obtain ⟨h0, -, h2⟩ := rt3 hf
        have hne : ¬ ex = 0 := fun q => hn (h0.trans q)
        rw [hQ1 hne]
        refine g_xVx (k0 := 48) ⟨⟨hx, hb, hml, hown, hB⟩, hK, hi, hA, hAd, hP, hS⟩ hZ (c_X5_needTrade hflag hi hv) hn cal_X5_needTrade kM_X5_153 ⟨Nat.le_trans (Nat.le_of_ble_eq_true rfl) hRf, Nat.le_trans (Nat.le_of_ble_eq_true rfl) hRl⟩ (by decide) rfl rfl rfl hl.1 (Nat.le_of_ble_eq_true rfl) rfl dX5_buy_25 (hcell hne) (fun q9 ce H locs hP hS hc1 hc2 hc3 => ?_)
        exact g_xout (hout hne) hlocks hc1 hc2 hc3 h0 h2 hP hS
    · obtain ⟨h0, -, h2⟩ := rt3 hf
      have hne : ¬ ex = 0 := fun q => hn (h0.trans q)
      rw [hQ1 hne]
      refine g_xVx (k0 := 48) ⟨⟨hx, hb, hml, hown, hB⟩, hK, hi, hA, hAd, hP, hS⟩ hZ (c_X5_needActor hflag hi hv) hn cal_X5_needActor kM_X5_124 ⟨Nat.le_trans (Nat.le_of_ble_eq_true rfl) hRf, Nat.le_trans (Nat.le_of_ble_eq_true rfl) hRl⟩ (by decide) rfl rfl rfl hl.1 (Nat.le_of_ble_eq_true rfl) rfl dX5_buy_5 (hcell hne) (fun q9 ce H locs hP hS hc1 hc2 hc3 => ?_)
      exact g_xout (hout hne) hlocks hc1 hc2 hc3 h0 h2 hP hS
  · obtain ⟨h0, -, h2⟩ := rt3 hf
    have hne : ¬ ex = 0 := fun q => hn (h0.trans q)
    rw [hQ1 hne]
    refine g_xSx0 ⟨⟨hx, hb, hml, hown, hB⟩, hK, hi, hA, hAd, hP, hS⟩ hZ (c_X5_needKind hflag hv) hn cal_X5_needKind kM_X5_73 ⟨Nat.le_trans (Nat.le_of_ble_eq_true rfl) hRf, Nat.le_trans (Nat.le_of_ble_eq_true rfl) hRl⟩ rfl hl.1 (Nat.le_of_ble_eq_true rfl) rfl dX5_buy_1 (hcell hne) (fun q9 ce H locs hP hS hc1 hc2 hc3 => ?_)
    exact g_xout (hout hne) hlocks hc1 hc2 hc3 h0 h2 hP hS
def f_X5_sell (σ : Mem) (a0 : Int32) : Option (Nat × Int32 × Mem) :=
bt (f_X5_needKind a0) (fun n2 => some (n2, 0, σ)) fun v1 =>
bt (f_X5_needActor σ) (fun n4 => some (n4, 0, σ)) fun v3 =>
gd v3 4 <|
bt (f_X5_needTrade σ (σ 9 v3.toNatClampNeg) a0) (fun n6 => some (n6, 0, σ)) fun v5 =>
bt (f_X5_needOwned σ v3 a0) (fun n8 => some (n8, 0, σ)) fun v7 =>
gd (σ 9 v3.toNatClampNeg) 8 <|
bd (f_X2_halfPrice σ (σ 9 v3.toNatClampNeg) a0) fun v9 =>
bt (f_X5_needCoins (σ 3 (σ 9 v3.toNatClampNeg).toNatClampNeg) v9) (fun n11 => some (n11, 0, σ)) fun v10 =>
bd2 (f_X5_keep σ 17 a0 0 0 0) fun v12 σ13 =>
some (0, v12, σ13)
set_option maxHeartbeats 4000000 in
set_option maxRecDepth 100000 in
theorem c_X5_sell {l : Launch} {D : va_G} {cI cJ : ClassId} {ad : Nat → Nat} {σ : Mem} {a0 : Int32} {ex : Nat} {r : Int32} {σr : Mem} (hflag : l.stackTraces = false) (hi : injG 51 ad) (hf : f_X5_sell σ a0 = some (ex, r, σr)) : MGx l yX5_sell (Cond.code yX5_sell cX5_sell 4 (some .int) :: BIG) 7 154 D cI cJ 51 ad (EX ad cI) [.ref (ad 48), .int a0] σ σr ex (fun sz => Qgi D 51 ad (EX ad cI) r σr sz) := by
  refine MGx.ofW (cc := cX5_sell) (nL := 4) (ret := (some .int)) (by decide) rfl hi ?_
  intro p e R s m args below meth c Q hx hb hr hml hlocks hown hB hK hZ hP hA hAd hS hRf hRl hcell hout hQ0 hQ1
  have hown : s.vm.findClass RX5 = some m.cls := hown
  have hl := lv_entry ([.ref (ad 48), .int a0] : List Value) (n := 4) (Nat.le_of_ble_eq_true rfl)
  rw [lg_entry_eq]
  generalize (lg_sl ([.ref (ad 48), .int a0] : List Value) ++ List.replicate (4 - (lg_sl ([.ref (ad 48), .int a0] : List Value)).length) Slot.unset).toArray = ls at hl ⊢
  have hl : lv_has ls 4 [(0, .ref (ad 48)), (1, .int a0)] := hl
  unfold f_X5_sell at hf
  refine lv_iload_n hx hb dX5_sell_0 rfl (lv_at hl 1 rfl) ?_
  rcases bt_e hf with ⟨v1, hv, hf⟩ | ⟨n2, v1, hn, hv, hf⟩
  · refine g_xSv0 ⟨⟨hx, hb, hml, hown, hB⟩, hK, hi, hA, hAd, hP, hS⟩ hZ (c_X5_needKind hflag hv) cal_X5_needKind kM_X5_73 ⟨Nat.le_trans (Nat.le_of_ble_eq_true rfl) hRf, Nat.le_trans (Nat.le_of_ble_eq_true rfl) hRl⟩ rfl hl.1 (Nat.le_of_ble_eq_true rfl) rfl dX5_sell_1 (fun H locs hP hS => ?_)
    refine lv_aload_n hx hb dX5_sell_4 rfl (lv_at hl 0 rfl) ?_
    rcases bt_e hf with ⟨v3, hv, hf⟩ | ⟨n4, v3, hn, hv, hf⟩
    · refine g_xVi (k0 := 48) ⟨⟨hx, hb, hml, hown, hB⟩, hK, hi, hA, hAd, hP, hS⟩ hZ (c_X5_needActor hflag hi hv) cal_X5_needActor kM_X5_124 ⟨Nat.le_trans (Nat.le_of_ble_eq_true rfl) hRf, Nat.le_trans (Nat.le_of_ble_eq_true rfl) hRl⟩ (by decide) rfl rfl rfl hl.1 (Nat.le_of_ble_eq_true rfl) rfl dX5_sell_5 (fun H locs hP hS => ?_)
      refine lv_istore_n (lv' := [(2, .int v3), (0, .ref (ad 48)), (1, .int a0)]) hx hb dX5_sell_8 rfl hl (by decide) rfl (fun ls hl => ?_)
      refine lv_aload_n hx hb dX5_sell_9 rfl (lv_at hl 1 rfl) ?_
      refine g_get (v := .ref (ad 0)) hx hb hB hown hK hP 48 (by decide) rfl rfl kU_X5 1 (by decide) kF_X5_19 rfl rfl dX5_sell_10 ?_
      refine g_get (v := .ref (ad 8)) hx hb hB hown hK hP 0 (by decide) rfl rfl kU_X4 1 (by decide) kF_X5_78 rfl rfl dX5_sell_13 ?_
      refine g_get (v := .ref (ad 9)) hx hb hB hown hK hP 8 (by decide) rfl rfl kU_X1 1 (by decide) kF_X5_121 rfl rfl dX5_sell_16 ?_
      refine lv_iload_n hx hb dX5_sell_19 rfl (lv_at hl 0 rfl) ?_
      obtain ⟨hin, hf⟩ := gd_e hf
      refine g_iald hx hb hK hP 9 4 (by decide) rfl hin dX5_sell_20 ?_
      refine lv_istore_n (lv' := [(3, .int (σ 9 v3.toNatClampNeg)), (2, .int v3), (0, .ref (ad 48)), (1, .int a0)]) hx hb dX5_sell_21 rfl hl (by decide) rfl (fun ls hl => ?_)
      refine lv_aload_n hx hb dX5_sell_22 rfl (lv_at hl 2 rfl) ?_
      refine lv_iload_n hx hb dX5_sell_23 rfl (lv_at hl 0 rfl) ?_
      refine lv_iload_n hx hb dX5_sell_24 rfl (lv_at hl 3 rfl) ?_
      rcases bt_e hf with ⟨v5, hv, hf⟩ | ⟨n6, v5, hn, hv, hf⟩
      · refine g_xVv (k0 := 48) ⟨⟨hx, hb, hml, hown, hB⟩, hK, hi, hA, hAd, hP, hS⟩ hZ (c_X5_needTrade hflag hi hv) cal_X5_needTrade kM_X5_153 ⟨Nat.le_trans (Nat.le_of_ble_eq_true rfl) hRf, Nat.le_trans (Nat.le_of_ble_eq_true rfl) hRl⟩ (by decide) rfl rfl rfl hl.1 (Nat.le_of_ble_eq_true rfl) rfl dX5_sell_25 (fun H locs hP hS => ?_)
        refine lv_aload_n hx hb dX5_sell_28 rfl (lv_at hl 2 rfl) ?_
        refine lv_iload_n hx hb dX5_sell_29 rfl (lv_at hl 1 rfl) ?_
        refine lv_iload_n hx hb dX5_sell_30 rfl (lv_at hl 3 rfl) ?_
        rcases bt_e hf with ⟨v7, hv, hf⟩ | ⟨n8, v7, hn, hv, hf⟩
        · refine g_xVv (k0 := 48) ⟨⟨hx, hb, hml, hown, hB⟩, hK, hi, hA, hAd, hP, hS⟩ hZ (c_X5_needOwned hflag hi hv) cal_X5_needOwned kM_X5_138 ⟨Nat.le_trans (Nat.le_of_ble_eq_true rfl) hRf, Nat.le_trans (Nat.le_of_ble_eq_true rfl) hRl⟩ (by decide) rfl rfl rfl hl.1 (Nat.le_of_ble_eq_true rfl) rfl dX5_sell_31 (fun H locs hP hS => ?_)
          refine lv_aload_n hx hb dX5_sell_34 rfl (lv_at hl 2 rfl) ?_
          refine g_get (v := .ref (ad 0)) hx hb hB hown hK hP 48 (by decide) rfl rfl kU_X5 1 (by decide) kF_X5_19 rfl rfl dX5_sell_35 ?_
          refine g_get (v := .ref (ad 1)) hx hb hB hown hK hP 0 (by decide) rfl rfl kU_X4 0 (by decide) kF_X5_40 rfl rfl dX5_sell_38 ?_
          refine g_get (v := .ref (ad 3)) hx hb hB hown hK hP 1 (by decide) rfl rfl kU_X2 1 (by decide) kF_X5_164 rfl rfl dX5_sell_41 ?_
          refine lv_iload_n hx hb dX5_sell_44 rfl (lv_at hl 0 rfl) ?_
          obtain ⟨hin, hf⟩ := gd_e hf
          refine g_iald hx hb hK hP 3 8 (by decide) rfl hin dX5_sell_45 ?_
          refine lv_aload_n hx hb dX5_sell_46 rfl (lv_at hl 2 rfl) ?_
          refine g_get (v := .ref (ad 0)) hx hb hB hown hK hP 48 (by decide) rfl rfl kU_X5 1 (by decide) kF_X5_19 rfl rfl dX5_sell_47 ?_
          refine g_get (v := .ref (ad 1)) hx hb hB hown hK hP 0 (by decide) rfl rfl kU_X4 0 (by decide) kF_X5_40 rfl rfl dX5_sell_50 ?_
          refine lv_iload_n hx hb dX5_sell_53 rfl (lv_at hl 0 rfl) ?_
          refine lv_iload_n hx hb dX5_sell_54 rfl (lv_at hl 3 rfl) ?_
          obtain ⟨v9, hv, hf⟩ := bd_e hf
          refine g_cVi (τ := σ) ⟨⟨hx, hb, hml, hown, hB⟩, hK, hi, hA, hAd, hP, hS⟩ sub_now (c_X2_halfPrice (hi_now hi) hv) (fun _ _ => rfl) cal_X2_halfPrice kM_X5_167 ⟨Nat.le_trans (Nat.le_of_ble_eq_true rfl) hRf, Nat.le_trans (Nat.le_of_ble_eq_true rfl) hRl⟩ 1 (by decide) rfl rfl rfl rfl hl.1 (Nat.le_of_ble_eq_true rfl) rfl dX5_sell_55 ⟨Nat.zero_le _, Nat.zero_le _⟩ (fun _ _ => rfl) (fun _ _ _ => rfl) (fun H locs hP hS => ?_)
          rcases bt_e hf with ⟨v10, hv, hf⟩ | ⟨n11, v10, hn, hv, hf⟩
          · refine g_xSv0 ⟨⟨hx, hb, hml, hown, hB⟩, hK, hi, hA, hAd, hP, hS⟩ hZ (c_X5_needCoins hflag hv) cal_X5_needCoins kM_X5_150 ⟨Nat.le_trans (Nat.le_of_ble_eq_true rfl) hRf, Nat.le_trans (Nat.le_of_ble_eq_true rfl) hRl⟩ rfl hl.1 (Nat.le_of_ble_eq_true rfl) rfl dX5_sell_58 (fun H locs hP hS => ?_)
            refine lv_aload_n hx hb dX5_sell_61 rfl (lv_at hl 2 rfl) ?_
            refine lv_bipush (v := 17) hx hb dX5_sell_62 (by decide) ?_
            refine lv_iload_n hx hb dX5_sell_64 rfl (lv_at hl 3 rfl) ?_
            refine lv_iconst (v := 0) hx hb dX5_sell_65 (by decide) ?_
            refine lv_iconst (v := 0) hx hb dX5_sell_66 (by decide) ?_
            refine lv_iconst (v := 0) hx hb dX5_sell_67 (by decide) ?_
            obtain ⟨v12, σ13, hv, hf⟩ := bd2_e hf
            refine g_cViS (k0 := 48) ⟨⟨hx, hb, hml, hown, hB⟩, hK, hi, hA, hAd, hP, hS⟩ (c_X5_keep hi hv) cal_X5_keep kM_X5_59 ⟨Nat.le_trans (Nat.le_of_ble_eq_true rfl) hRf, Nat.le_trans (Nat.le_of_ble_eq_true rfl) hRl⟩ (by decide) rfl rfl rfl hl.1 (Nat.le_of_ble_eq_true rfl) rfl dX5_sell_68 ⟨Nat.zero_le _, Nat.zero_le _⟩ (fun H locs hP hS => ?_)
            obtain ⟨h0, h1, h2⟩ := rt3 hf
            rw [hQ0 h0.symm]
            exact g_iret hx hb hr hlocks hP hS h1 h2 dX5_sell_71
          · obtain ⟨h0, -, h2⟩ := rt3 hf
            have hne : ¬ ex = 0 := fun q => hn (h0.trans q)
            rw [hQ1 hne]
            refine g_xSx0 ⟨⟨hx, hb, hml, hown, hB⟩, hK, hi, hA, hAd, hP, hS⟩ hZ (c_X5_needCoins hflag hv) hn cal_X5_needCoins kM_X5_150 ⟨Nat.le_trans (Nat.le_of_ble_eq_true rfl) hRf, Nat.le_trans (Nat.le_of_ble_eq_true rfl) hRl⟩ rfl hl.1 (Nat.le_of_ble_eq_true rfl) rfl dX5_sell_58 (hcell hne) (fun q9 ce H locs hP hS hc1 hc2 hc3 => ?_)
            exact g_xout (hout hne) hlocks hc1 hc2 hc3 h0 h2 hP hS
        · obtain ⟨h0, -, h2⟩ := rt3 hf
          have hne : ¬ ex = 0 := fun q => hn (h0.trans q)
          rw [hQ1 hne]
          refine g_xVx (k0 := 48) ⟨⟨hx, hb, hml, hown, hB⟩, hK, hi, hA, hAd, hP, hS⟩ hZ (c_X5_needOwned hflag hi hv) hn cal_X5_needOwned kM_X5_138 ⟨Nat.le_trans (Nat.le_of_ble_eq_true rfl) hRf, Nat.le_trans (Nat.le_of_ble_eq_true rfl) hRl⟩ (by decide) rfl rfl rfl hl.1 (Nat.le_of_ble_eq_true rfl) rfl dX5_sell_31 (hcell hne) (fun q9 ce H locs hP hS hc1 hc2 hc3 => ?_)
          exact g_xout (hout hne) hlocks hc1 hc2 hc3 h0 h2 hP hS
      · obtain ⟨h0, -, h2⟩ := rt3 hf
        have hne : ¬ ex = 0 := fun q => hn (h0.trans q)
        rw [hQ1 hne]
        refine g_xVx (k0 := 48) ⟨⟨hx, hb, hml, hown, hB⟩, hK, hi, hA, hAd, hP, hS⟩ hZ (c_X5_needTrade hflag hi hv) hn cal_X5_needTrade kM_X5_153 ⟨Nat.le_trans (Nat.le_of_ble_eq_true rfl) hRf, Nat.le_trans (Nat.le_of_ble_eq_true rfl) hRl⟩ (by decide) rfl rfl rfl hl.1 (Nat.le_of_ble_eq_true rfl) rfl dX5_sell_25 (hcell hne) (fun q9 ce H locs hP hS hc1 hc2 hc3 => ?_)
        exact g_xout (hout hne) hlocks hc1 hc2 hc3 h0 h2 hP hS
    · obtain ⟨h0, -, h2⟩ := rt3 hf
      have hne : ¬ ex = 0 := fun q => hn (h0.trans q)
      rw [hQ1 hne]
      refine g_xVx (k0 := 48) ⟨⟨hx, hb, hml, hown, hB⟩, hK, hi, hA, hAd, hP, hS⟩ hZ (c_X5_needActor hflag hi hv) hn cal_X5_needActor kM_X5_124 ⟨Nat.le_trans (Nat.le_of_ble_eq_true rfl) hRf, Nat.le_trans (Nat.le_of_ble_eq_true rfl) hRl⟩ (by decide) rfl rfl rfl hl.1 (Nat.le_of_ble_eq_true rfl) rfl dX5_sell_5 (hcell hne) (fun q9 ce H locs hP hS hc1 hc2 hc3 => ?_)
      exact g_xout (hout hne) hlocks hc1 hc2 hc3 h0 h2 hP hS
  · obtain ⟨h0, -, h2⟩ := rt3 hf
    have hne : ¬ ex = 0 := fun q => hn (h0.trans q)
    rw [hQ1 hne]
    refine g_xSx0 ⟨⟨hx, hb, hml, hown, hB⟩, hK, hi, hA, hAd, hP, hS⟩ hZ (c_X5_needKind hflag hv) hn cal_X5_needKind kM_X5_73 ⟨Nat.le_trans (Nat.le_of_ble_eq_true rfl) hRf, Nat.le_trans (Nat.le_of_ble_eq_true rfl) hRl⟩ rfl hl.1 (Nat.le_of_ble_eq_true rfl) rfl dX5_sell_1 (hcell hne) (fun q9 ce H locs hP hS hc1 hc2 hc3 => ?_)
    exact g_xout (hout hne) hlocks hc1 hc2 hc3 h0 h2 hP hS
def f_X5_attack (σ : Mem) (a0 : Int32) : Option (Nat × Int32 × Mem) :=
bt (f_X5_needPlayer σ a0) (fun n2 => some (n2, 0, σ)) fun v1 =>
bt (f_X5_needActor σ) (fun n4 => some (n4, 0, σ)) fun v3 =>
bt (f_X5_needCompany σ v3 a0) (fun n6 => some (n6, 0, σ)) fun v5 =>
bd2 (f_X5_keep σ 18 a0 0 0 0) fun v7 σ8 =>
some (0, v7, σ8)
set_option maxHeartbeats 4000000 in
set_option maxRecDepth 100000 in
theorem c_X5_attack {l : Launch} {D : va_G} {cI cJ : ClassId} {ad : Nat → Nat} {σ : Mem} {a0 : Int32} {ex : Nat} {r : Int32} {σr : Mem} (hflag : l.stackTraces = false) (hi : injG 51 ad) (hf : f_X5_attack σ a0 = some (ex, r, σr)) : MGx l yX5_attack (Cond.code yX5_attack cX5_attack 2 (some .int) :: BIG) 8 154 D cI cJ 51 ad (EX ad cI) [.ref (ad 48), .int a0] σ σr ex (fun sz => Qgi D 51 ad (EX ad cI) r σr sz) := by
  refine MGx.ofW (cc := cX5_attack) (nL := 2) (ret := (some .int)) (by decide) rfl hi ?_
  intro p e R s m args below meth c Q hx hb hr hml hlocks hown hB hK hZ hP hA hAd hS hRf hRl hcell hout hQ0 hQ1
  have hown : s.vm.findClass RX5 = some m.cls := hown
  have hl := lv_entry ([.ref (ad 48), .int a0] : List Value) (n := 2) (Nat.le_of_ble_eq_true rfl)
  rw [lg_entry_eq]
  generalize (lg_sl ([.ref (ad 48), .int a0] : List Value) ++ List.replicate (2 - (lg_sl ([.ref (ad 48), .int a0] : List Value)).length) Slot.unset).toArray = ls at hl ⊢
  have hl : lv_has ls 2 [(0, .ref (ad 48)), (1, .int a0)] := hl
  unfold f_X5_attack at hf
  refine lv_aload_n hx hb dX5_attack_0 rfl (lv_at hl 0 rfl) ?_
  refine lv_iload_n hx hb dX5_attack_1 rfl (lv_at hl 1 rfl) ?_
  rcases bt_e hf with ⟨v1, hv, hf⟩ | ⟨n2, v1, hn, hv, hf⟩
  · refine g_xVv (k0 := 48) ⟨⟨hx, hb, hml, hown, hB⟩, hK, hi, hA, hAd, hP, hS⟩ hZ (c_X5_needPlayer hflag hi hv) cal_X5_needPlayer kM_X5_141 ⟨Nat.le_trans (Nat.le_of_ble_eq_true rfl) hRf, Nat.le_trans (Nat.le_of_ble_eq_true rfl) hRl⟩ (by decide) rfl rfl rfl hl.1 (Nat.le_of_ble_eq_true rfl) rfl dX5_attack_2 (fun H locs hP hS => ?_)
    refine lv_aload_n hx hb dX5_attack_5 rfl (lv_at hl 0 rfl) ?_
    refine lv_aload_n hx hb dX5_attack_6 rfl (lv_at hl 0 rfl) ?_
    rcases bt_e hf with ⟨v3, hv, hf⟩ | ⟨n4, v3, hn, hv, hf⟩
    · refine g_xVi (k0 := 48) ⟨⟨hx, hb, hml, hown, hB⟩, hK, hi, hA, hAd, hP, hS⟩ hZ (c_X5_needActor hflag hi hv) cal_X5_needActor kM_X5_124 ⟨Nat.le_trans (Nat.le_of_ble_eq_true rfl) hRf, Nat.le_trans (Nat.le_of_ble_eq_true rfl) hRl⟩ (by decide) rfl rfl rfl hl.1 (Nat.le_of_ble_eq_true rfl) rfl dX5_attack_7 (fun H locs hP hS => ?_)
      refine lv_iload_n hx hb dX5_attack_10 rfl (lv_at hl 1 rfl) ?_
      rcases bt_e hf with ⟨v5, hv, hf⟩ | ⟨n6, v5, hn, hv, hf⟩
      · refine g_xVv (k0 := 48) ⟨⟨hx, hb, hml, hown, hB⟩, hK, hi, hA, hAd, hP, hS⟩ hZ (c_X5_needCompany hflag hi hv) cal_X5_needCompany kM_X5_144 ⟨Nat.le_trans (Nat.le_of_ble_eq_true rfl) hRf, Nat.le_trans (Nat.le_of_ble_eq_true rfl) hRl⟩ (by decide) rfl rfl rfl hl.1 (Nat.le_of_ble_eq_true rfl) rfl dX5_attack_11 (fun H locs hP hS => ?_)
        refine lv_aload_n hx hb dX5_attack_14 rfl (lv_at hl 0 rfl) ?_
        refine lv_bipush (v := 18) hx hb dX5_attack_15 (by decide) ?_
        refine lv_iload_n hx hb dX5_attack_17 rfl (lv_at hl 1 rfl) ?_
        refine lv_iconst (v := 0) hx hb dX5_attack_18 (by decide) ?_
        refine lv_iconst (v := 0) hx hb dX5_attack_19 (by decide) ?_
        refine lv_iconst (v := 0) hx hb dX5_attack_20 (by decide) ?_
        obtain ⟨v7, σ8, hv, hf⟩ := bd2_e hf
        refine g_cViS (k0 := 48) ⟨⟨hx, hb, hml, hown, hB⟩, hK, hi, hA, hAd, hP, hS⟩ (c_X5_keep hi hv) cal_X5_keep kM_X5_59 ⟨Nat.le_trans (Nat.le_of_ble_eq_true rfl) hRf, Nat.le_trans (Nat.le_of_ble_eq_true rfl) hRl⟩ (by decide) rfl rfl rfl hl.1 (Nat.le_of_ble_eq_true rfl) rfl dX5_attack_21 ⟨Nat.zero_le _, Nat.zero_le _⟩ (fun H locs hP hS => ?_)
        obtain ⟨h0, h1, h2⟩ := rt3 hf
        rw [hQ0 h0.symm]
        exact g_iret hx hb hr hlocks hP hS h1 h2 dX5_attack_24
      · obtain ⟨h0, -, h2⟩ := rt3 hf
        have hne : ¬ ex = 0 := fun q => hn (h0.trans q)
        rw [hQ1 hne]
        refine g_xVx (k0 := 48) ⟨⟨hx, hb, hml, hown, hB⟩, hK, hi, hA, hAd, hP, hS⟩ hZ (c_X5_needCompany hflag hi hv) hn cal_X5_needCompany kM_X5_144 ⟨Nat.le_trans (Nat.le_of_ble_eq_true rfl) hRf, Nat.le_trans (Nat.le_of_ble_eq_true rfl) hRl⟩ (by decide) rfl rfl rfl hl.1 (Nat.le_of_ble_eq_true rfl) rfl dX5_attack_11 (hcell hne) (fun q9 ce H locs hP hS hc1 hc2 hc3 => ?_)
        exact g_xout (hout hne) hlocks hc1 hc2 hc3 h0 h2 hP hS
    · obtain ⟨h0, -, h2⟩ := rt3 hf
      have hne : ¬ ex = 0 := fun q => hn (h0.trans q)
      rw [hQ1 hne]
      refine g_xVx (k0 := 48) ⟨⟨hx, hb, hml, hown, hB⟩, hK, hi, hA, hAd, hP, hS⟩ hZ (c_X5_needActor hflag hi hv) hn cal_X5_needActor kM_X5_124 ⟨Nat.le_trans (Nat.le_of_ble_eq_true rfl) hRf, Nat.le_trans (Nat.le_of_ble_eq_true rfl) hRl⟩ (by decide) rfl rfl rfl hl.1 (Nat.le_of_ble_eq_true rfl) rfl dX5_attack_7 (hcell hne) (fun q9 ce H locs hP hS hc1 hc2 hc3 => ?_)
      exact g_xout (hout hne) hlocks hc1 hc2 hc3 h0 h2 hP hS
  · obtain ⟨h0, -, h2⟩ := rt3 hf
    have hne : ¬ ex = 0 := fun q => hn (h0.trans q)
    rw [hQ1 hne]
    refine g_xVx (k0 := 48) ⟨⟨hx, hb, hml, hown, hB⟩, hK, hi, hA, hAd, hP, hS⟩ hZ (c_X5_needPlayer hflag hi hv) hn cal_X5_needPlayer kM_X5_141 ⟨Nat.le_trans (Nat.le_of_ble_eq_true rfl) hRf, Nat.le_trans (Nat.le_of_ble_eq_true rfl) hRl⟩ (by decide) rfl rfl rfl hl.1 (Nat.le_of_ble_eq_true rfl) rfl dX5_attack_2 (hcell hne) (fun q9 ce H locs hP hS hc1 hc2 hc3 => ?_)
    exact g_xout (hout hne) hlocks hc1 hc2 hc3 h0 h2 hP hS
def f_X5_rest (σ : Mem) : Option (Nat × Int32 × Mem) :=
bt (f_X5_needActor σ) (fun n2 => some (n2, 0, σ)) fun v1 =>
bd2 (f_X5_keep σ 19 0 0 0 0) fun v3 σ4 =>
some (0, v3, σ4)
set_option maxHeartbeats 4000000 in
set_option maxRecDepth 100000 in
theorem c_X5_rest {l : Launch} {D : va_G} {cI cJ : ClassId} {ad : Nat → Nat} {σ : Mem} {ex : Nat} {r : Int32} {σr : Mem} (hflag : l.stackTraces = false) (hi : injG 51 ad) (hf : f_X5_rest σ = some (ex, r, σr)) : MGx l yX5_rest (Cond.code yX5_rest cX5_rest 1 (some .int) :: BIG) 7 154 D cI cJ 51 ad (EX ad cI) [.ref (ad 48)] σ σr ex (fun sz => Qgi D 51 ad (EX ad cI) r σr sz) := by
  refine MGx.ofW (cc := cX5_rest) (nL := 1) (ret := (some .int)) (by decide) rfl hi ?_
  intro p e R s m args below meth c Q hx hb hr hml hlocks hown hB hK hZ hP hA hAd hS hRf hRl hcell hout hQ0 hQ1
  have hown : s.vm.findClass RX5 = some m.cls := hown
  have hl := lv_entry ([.ref (ad 48)] : List Value) (n := 1) (Nat.le_of_ble_eq_true rfl)
  rw [lg_entry_eq]
  generalize (lg_sl ([.ref (ad 48)] : List Value) ++ List.replicate (1 - (lg_sl ([.ref (ad 48)] : List Value)).length) Slot.unset).toArray = ls at hl ⊢
  have hl : lv_has ls 1 [(0, .ref (ad 48))] := hl
  unfold f_X5_rest at hf
  refine lv_aload_n hx hb dX5_rest_0 rfl (lv_at hl 0 rfl) ?_
  rcases bt_e hf with ⟨v1, hv, hf⟩ | ⟨n2, v1, hn, hv, hf⟩
  · refine g_xVi (k0 := 48) ⟨⟨hx, hb, hml, hown, hB⟩, hK, hi, hA, hAd, hP, hS⟩ hZ (c_X5_needActor hflag hi hv) cal_X5_needActor kM_X5_124 ⟨Nat.le_trans (Nat.le_of_ble_eq_true rfl) hRf, Nat.le_trans (Nat.le_of_ble_eq_true rfl) hRl⟩ (by decide) rfl rfl rfl hl.1 (Nat.le_of_ble_eq_true rfl) rfl dX5_rest_1 (fun H locs hP hS => ?_)
    refine lv_pop hx hb dX5_rest_4 rfl ?_
    refine lv_aload_n hx hb dX5_rest_5 rfl (lv_at hl 0 rfl) ?_
    refine lv_bipush (v := 19) hx hb dX5_rest_6 (by decide) ?_
    refine lv_iconst (v := 0) hx hb dX5_rest_8 (by decide) ?_
    refine lv_iconst (v := 0) hx hb dX5_rest_9 (by decide) ?_
    refine lv_iconst (v := 0) hx hb dX5_rest_10 (by decide) ?_
    refine lv_iconst (v := 0) hx hb dX5_rest_11 (by decide) ?_
    obtain ⟨v3, σ4, hv, hf⟩ := bd2_e hf
    refine g_cViS (k0 := 48) ⟨⟨hx, hb, hml, hown, hB⟩, hK, hi, hA, hAd, hP, hS⟩ (c_X5_keep hi hv) cal_X5_keep kM_X5_59 ⟨Nat.le_trans (Nat.le_of_ble_eq_true rfl) hRf, Nat.le_trans (Nat.le_of_ble_eq_true rfl) hRl⟩ (by decide) rfl rfl rfl hl.1 (Nat.le_of_ble_eq_true rfl) rfl dX5_rest_12 ⟨Nat.zero_le _, Nat.zero_le _⟩ (fun H locs hP hS => ?_)
    obtain ⟨h0, h1, h2⟩ := rt3 hf
    rw [hQ0 h0.symm]
    exact g_iret hx hb hr hlocks hP hS h1 h2 dX5_rest_15
  · obtain ⟨h0, -, h2⟩ := rt3 hf
    have hne : ¬ ex = 0 := fun q => hn (h0.trans q)
    rw [hQ1 hne]
    refine g_xVx (k0 := 48) ⟨⟨hx, hb, hml, hown, hB⟩, hK, hi, hA, hAd, hP, hS⟩ hZ (c_X5_needActor hflag hi hv) hn cal_X5_needActor kM_X5_124 ⟨Nat.le_trans (Nat.le_of_ble_eq_true rfl) hRf, Nat.le_trans (Nat.le_of_ble_eq_true rfl) hRl⟩ (by decide) rfl rfl rfl hl.1 (Nat.le_of_ble_eq_true rfl) rfl dX5_rest_1 (hcell hne) (fun q9 ce H locs hP hS hc1 hc2 hc3 => ?_)
    exact g_xout (hout hne) hlocks hc1 hc2 hc3 h0 h2 hP hS
def f_X5_turn (σ : Mem) : Option (Int32) :=
bd (f_X1_next σ) fun v1 =>
some v1
set_option maxHeartbeats 4000000 in
set_option maxRecDepth 100000 in
theorem c_X5_turn {l : Launch} {D : va_G} {cI cJ : ClassId} {ad : Nat → Nat} {σ : Mem} {r : Int32}  (hi : injG 51 ad) (hf : f_X5_turn σ = some r) : MGi l yX5_turn (Cond.code yX5_turn cX5_turn 1 (some .int) :: BIG) 1 22 D cI cJ 51 ad (EX ad cI) [.ref (ad 48)] σ σ r := by
  refine MGi.ofW (cc := cX5_turn) (nL := 1) (ret := (some .int)) (by decide) rfl hi ?_
  intro p e s m args below meth c hx hb hr hml hlocks hown hB hK hP hA hAd hS
  have hown : s.vm.findClass RX5 = some m.cls := hown
  have hl := lv_entry ([.ref (ad 48)] : List Value) (n := 1) (Nat.le_of_ble_eq_true rfl)
  rw [lg_entry_eq]
  generalize (lg_sl ([.ref (ad 48)] : List Value) ++ List.replicate (1 - (lg_sl ([.ref (ad 48)] : List Value)).length) Slot.unset).toArray = ls at hl ⊢
  have hl : lv_has ls 1 [(0, .ref (ad 48))] := hl
  generalize hQ : MQ below (Qgi D 51 ad (EX ad cI) r σ s.heap.size) _ s 0 0 (AG 51 ad s.heap.size) = Q
  have hQ := hQ.symm
  obtain ⟨R, hR, hRf, hRl⟩ : ∃ R : Room, R = ({ frames := 1, cells := 0, slots := 0, locals := 22 } : Room) ∧ 1 ≤ R.frames ∧ 22 ≤ R.locals := ⟨_, rfl, Nat.le_refl _, Nat.le_refl _⟩
  rw [← hR]
  unfold f_X5_turn at hf
  refine lv_aload_n hx hb dX5_turn_0 rfl (lv_at hl 0 rfl) ?_
  refine g_get (v := .ref (ad 0)) hx hb hB hown hK hP 48 (by decide) rfl rfl kU_X5 1 (by decide) kF_X5_19 rfl rfl dX5_turn_1 ?_
  refine g_get (v := .ref (ad 8)) hx hb hB hown hK hP 0 (by decide) rfl rfl kU_X4 1 (by decide) kF_X5_78 rfl rfl dX5_turn_4 ?_
  obtain ⟨v1, hv, hf⟩ := bd_e hf
  refine g_cVi (τ := σ) ⟨⟨hx, hb, hml, hown, hB⟩, hK, hi, hA, hAd, hP, hS⟩ sub_now (c_X1_next (hi_now hi) hv) (fun _ _ => rfl) cal_X1_next kM_X5_170 ⟨Nat.le_trans (Nat.le_of_ble_eq_true rfl) hRf, Nat.le_trans (Nat.le_of_ble_eq_true rfl) hRl⟩ 8 (by decide) rfl rfl rfl rfl hl.1 (Nat.le_of_ble_eq_true rfl) rfl dX5_turn_7 ⟨Nat.zero_le _, Nat.zero_le _⟩ (fun _ _ => rfl) (fun _ _ _ => rfl) (fun H locs hP hS => ?_)
  have h1 := rt1 hf
  rw [hQ]
  exact g_iret hx hb hr hlocks hP hS h1 rfl dX5_turn_10
def f_X5_readyAt (σ : Mem) (a0 : Int32) : Option (Nat × Int32) :=
bt (f_X5_needPlayer σ a0) (fun n2 => some (n2, 0)) fun v1 =>
gd a0 4 <|
some (0, (σ 13 a0.toNatClampNeg))
set_option maxHeartbeats 4000000 in
set_option maxRecDepth 100000 in
theorem c_X5_readyAt {l : Launch} {D : va_G} {cI cJ : ClassId} {ad : Nat → Nat} {σ : Mem} {a0 : Int32} {ex : Nat} {r : Int32} (hflag : l.stackTraces = false) (hi : injG 51 ad) (hf : f_X5_readyAt σ a0 = some (ex, r)) : MGx l yX5_readyAt (Cond.code yX5_readyAt cX5_readyAt 2 (some .int) :: BIG) 8 132 D cI cJ 51 ad (EX ad cI) [.ref (ad 48), .int a0] σ σ ex (fun sz => Qgi D 51 ad (EX ad cI) r σ sz) := by
  refine MGx.ofW (cc := cX5_readyAt) (nL := 2) (ret := (some .int)) (by decide) rfl hi ?_
  intro p e R s m args below meth c Q hx hb hr hml hlocks hown hB hK hZ hP hA hAd hS hRf hRl hcell hout hQ0 hQ1
  have hown : s.vm.findClass RX5 = some m.cls := hown
  have hl := lv_entry ([.ref (ad 48), .int a0] : List Value) (n := 2) (Nat.le_of_ble_eq_true rfl)
  rw [lg_entry_eq]
  generalize (lg_sl ([.ref (ad 48), .int a0] : List Value) ++ List.replicate (2 - (lg_sl ([.ref (ad 48), .int a0] : List Value)).length) Slot.unset).toArray = ls at hl ⊢
  have hl : lv_has ls 2 [(0, .ref (ad 48)), (1, .int a0)] := hl
  unfold f_X5_readyAt at hf
  refine lv_aload_n hx hb dX5_readyAt_0 rfl (lv_at hl 0 rfl) ?_
  refine lv_iload_n hx hb dX5_readyAt_1 rfl (lv_at hl 1 rfl) ?_
  rcases bt_e hf with ⟨v1, hv, hf⟩ | ⟨n2, v1, hn, hv, hf⟩
  · refine g_xVv (k0 := 48) ⟨⟨hx, hb, hml, hown, hB⟩, hK, hi, hA, hAd, hP, hS⟩ hZ (c_X5_needPlayer hflag hi hv) cal_X5_needPlayer kM_X5_141 ⟨Nat.le_trans (Nat.le_of_ble_eq_true rfl) hRf, Nat.le_trans (Nat.le_of_ble_eq_true rfl) hRl⟩ (by decide) rfl rfl rfl hl.1 (Nat.le_of_ble_eq_true rfl) rfl dX5_readyAt_2 (fun H locs hP hS => ?_)
    refine lv_aload_n hx hb dX5_readyAt_5 rfl (lv_at hl 0 rfl) ?_
    refine g_get (v := .ref (ad 0)) hx hb hB hown hK hP 48 (by decide) rfl rfl kU_X5 1 (by decide) kF_X5_19 rfl rfl dX5_readyAt_6 ?_
    refine g_get (v := .ref (ad 8)) hx hb hB hown hK hP 0 (by decide) rfl rfl kU_X4 1 (by decide) kF_X5_78 rfl rfl dX5_readyAt_9 ?_
    refine g_get (v := .ref (ad 13)) hx hb hB hown hK hP 8 (by decide) rfl rfl kU_X1 5 (by decide) kF_X5_173 rfl rfl dX5_readyAt_12 ?_
    refine lv_iload_n hx hb dX5_readyAt_15 rfl (lv_at hl 1 rfl) ?_
    obtain ⟨hin, hf⟩ := gd_e hf
    refine g_iald hx hb hK hP 13 4 (by decide) rfl hin dX5_readyAt_16 ?_
    obtain ⟨h0, h1⟩ := rt2 hf
    rw [hQ0 h0.symm]
    exact g_iret hx hb hr hlocks hP hS h1 rfl dX5_readyAt_17
  · obtain ⟨h0, -⟩ := rt2 hf
    have hne : ¬ ex = 0 := fun q => hn (h0.trans q)
    rw [hQ1 hne]
    refine g_xVx (k0 := 48) ⟨⟨hx, hb, hml, hown, hB⟩, hK, hi, hA, hAd, hP, hS⟩ hZ (c_X5_needPlayer hflag hi hv) hn cal_X5_needPlayer kM_X5_141 ⟨Nat.le_trans (Nat.le_of_ble_eq_true rfl) hRf, Nat.le_trans (Nat.le_of_ble_eq_true rfl) hRl⟩ (by decide) rfl rfl rfl hl.1 (Nat.le_of_ble_eq_true rfl) rfl dX5_readyAt_2 (hcell hne) (fun q9 ce H locs hP hS hc1 hc2 hc3 => ?_)
    exact g_xout (hout hne) hlocks hc1 hc2 hc3 h0 rfl hP hS
def f_X5_roomOf (σ : Mem) (a0 : Int32) : Option (Nat × Int32) :=
bt (f_X5_needPlayer σ a0) (fun n2 => some (n2, 0)) fun v1 =>
gd a0 4 <|
some (0, (σ 9 a0.toNatClampNeg))
set_option maxHeartbeats 4000000 in
set_option maxRecDepth 100000 in
theorem c_X5_roomOf {l : Launch} {D : va_G} {cI cJ : ClassId} {ad : Nat → Nat} {σ : Mem} {a0 : Int32} {ex : Nat} {r : Int32} (hflag : l.stackTraces = false) (hi : injG 51 ad) (hf : f_X5_roomOf σ a0 = some (ex, r)) : MGx l yX5_roomOf (Cond.code yX5_roomOf cX5_roomOf 2 (some .int) :: BIG) 8 132 D cI cJ 51 ad (EX ad cI) [.ref (ad 48), .int a0] σ σ ex (fun sz => Qgi D 51 ad (EX ad cI) r σ sz) := by
  refine MGx.ofW (cc := cX5_roomOf) (nL := 2) (ret := (some .int)) (by decide) rfl hi ?_
  intro p e R s m args below meth c Q hx hb hr hml hlocks hown hB hK hZ hP hA hAd hS hRf hRl hcell hout hQ0 hQ1
  have hown : s.vm.findClass RX5 = some m.cls := hown
  have hl := lv_entry ([.ref (ad 48), .int a0] : List Value) (n := 2) (Nat.le_of_ble_eq_true rfl)
  rw [lg_entry_eq]
  generalize (lg_sl ([.ref (ad 48), .int a0] : List Value) ++ List.replicate (2 - (lg_sl ([.ref (ad 48), .int a0] : List Value)).length) Slot.unset).toArray = ls at hl ⊢
  have hl : lv_has ls 2 [(0, .ref (ad 48)), (1, .int a0)] := hl
  unfold f_X5_roomOf at hf
  refine lv_aload_n hx hb dX5_roomOf_0 rfl (lv_at hl 0 rfl) ?_
  refine lv_iload_n hx hb dX5_roomOf_1 rfl (lv_at hl 1 rfl) ?_
  rcases bt_e hf with ⟨v1, hv, hf⟩ | ⟨n2, v1, hn, hv, hf⟩
  · refine g_xVv (k0 := 48) ⟨⟨hx, hb, hml, hown, hB⟩, hK, hi, hA, hAd, hP, hS⟩ hZ (c_X5_needPlayer hflag hi hv) cal_X5_needPlayer kM_X5_141 ⟨Nat.le_trans (Nat.le_of_ble_eq_true rfl) hRf, Nat.le_trans (Nat.le_of_ble_eq_true rfl) hRl⟩ (by decide) rfl rfl rfl hl.1 (Nat.le_of_ble_eq_true rfl) rfl dX5_roomOf_2 (fun H locs hP hS => ?_)
    refine lv_aload_n hx hb dX5_roomOf_5 rfl (lv_at hl 0 rfl) ?_
    refine g_get (v := .ref (ad 0)) hx hb hB hown hK hP 48 (by decide) rfl rfl kU_X5 1 (by decide) kF_X5_19 rfl rfl dX5_roomOf_6 ?_
    refine g_get (v := .ref (ad 8)) hx hb hB hown hK hP 0 (by decide) rfl rfl kU_X4 1 (by decide) kF_X5_78 rfl rfl dX5_roomOf_9 ?_
    refine g_get (v := .ref (ad 9)) hx hb hB hown hK hP 8 (by decide) rfl rfl kU_X1 1 (by decide) kF_X5_121 rfl rfl dX5_roomOf_12 ?_
    refine lv_iload_n hx hb dX5_roomOf_15 rfl (lv_at hl 1 rfl) ?_
    obtain ⟨hin, hf⟩ := gd_e hf
    refine g_iald hx hb hK hP 9 4 (by decide) rfl hin dX5_roomOf_16 ?_
    obtain ⟨h0, h1⟩ := rt2 hf
    rw [hQ0 h0.symm]
    exact g_iret hx hb hr hlocks hP hS h1 rfl dX5_roomOf_17
  · obtain ⟨h0, -⟩ := rt2 hf
    have hne : ¬ ex = 0 := fun q => hn (h0.trans q)
    rw [hQ1 hne]
    refine g_xVx (k0 := 48) ⟨⟨hx, hb, hml, hown, hB⟩, hK, hi, hA, hAd, hP, hS⟩ hZ (c_X5_needPlayer hflag hi hv) hn cal_X5_needPlayer kM_X5_141 ⟨Nat.le_trans (Nat.le_of_ble_eq_true rfl) hRf, Nat.le_trans (Nat.le_of_ble_eq_true rfl) hRl⟩ (by decide) rfl rfl rfl hl.1 (Nat.le_of_ble_eq_true rfl) rfl dX5_roomOf_2 (hcell hne) (fun q9 ce H locs hP hS hc1 hc2 hc3 => ?_)
    exact g_xout (hout hne) hlocks hc1 hc2 hc3 h0 rfl hP hS
def f_X5_coinsOf (σ : Mem) (a0 : Int32) : Option (Nat × Int32) :=
bt (f_X5_needPlayer σ a0) (fun n2 => some (n2, 0)) fun v1 =>
gd a0 4 <|
some (0, (σ 10 a0.toNatClampNeg))
set_option maxHeartbeats 4000000 in
set_option maxRecDepth 100000 in
theorem c_X5_coinsOf {l : Launch} {D : va_G} {cI cJ : ClassId} {ad : Nat → Nat} {σ : Mem} {a0 : Int32} {ex : Nat} {r : Int32} (hflag : l.stackTraces = false) (hi : injG 51 ad) (hf : f_X5_coinsOf σ a0 = some (ex, r)) : MGx l yX5_coinsOf (Cond.code yX5_coinsOf cX5_coinsOf 2 (some .int) :: BIG) 8 132 D cI cJ 51 ad (EX ad cI) [.ref (ad 48), .int a0] σ σ ex (fun sz => Qgi D 51 ad (EX ad cI) r σ sz) := by
  refine MGx.ofW (cc := cX5_coinsOf) (nL := 2) (ret := (some .int)) (by decide) rfl hi ?_
  intro p e R s m args below meth c Q hx hb hr hml hlocks hown hB hK hZ hP hA hAd hS hRf hRl hcell hout hQ0 hQ1
  have hown : s.vm.findClass RX5 = some m.cls := hown
  have hl := lv_entry ([.ref (ad 48), .int a0] : List Value) (n := 2) (Nat.le_of_ble_eq_true rfl)
  rw [lg_entry_eq]
  generalize (lg_sl ([.ref (ad 48), .int a0] : List Value) ++ List.replicate (2 - (lg_sl ([.ref (ad 48), .int a0] : List Value)).length) Slot.unset).toArray = ls at hl ⊢
  have hl : lv_has ls 2 [(0, .ref (ad 48)), (1, .int a0)] := hl
  unfold f_X5_coinsOf at hf
  refine lv_aload_n hx hb dX5_coinsOf_0 rfl (lv_at hl 0 rfl) ?_
  refine lv_iload_n hx hb dX5_coinsOf_1 rfl (lv_at hl 1 rfl) ?_
  rcases bt_e hf with ⟨v1, hv, hf⟩ | ⟨n2, v1, hn, hv, hf⟩
  · refine g_xVv (k0 := 48) ⟨⟨hx, hb, hml, hown, hB⟩, hK, hi, hA, hAd, hP, hS⟩ hZ (c_X5_needPlayer hflag hi hv) cal_X5_needPlayer kM_X5_141 ⟨Nat.le_trans (Nat.le_of_ble_eq_true rfl) hRf, Nat.le_trans (Nat.le_of_ble_eq_true rfl) hRl⟩ (by decide) rfl rfl rfl hl.1 (Nat.le_of_ble_eq_true rfl) rfl dX5_coinsOf_2 (fun H locs hP hS => ?_)
    refine lv_aload_n hx hb dX5_coinsOf_5 rfl (lv_at hl 0 rfl) ?_
    refine g_get (v := .ref (ad 0)) hx hb hB hown hK hP 48 (by decide) rfl rfl kU_X5 1 (by decide) kF_X5_19 rfl rfl dX5_coinsOf_6 ?_
    refine g_get (v := .ref (ad 8)) hx hb hB hown hK hP 0 (by decide) rfl rfl kU_X4 1 (by decide) kF_X5_78 rfl rfl dX5_coinsOf_9 ?_
    refine g_get (v := .ref (ad 10)) hx hb hB hown hK hP 8 (by decide) rfl rfl kU_X1 2 (by decide) kF_X5_147 rfl rfl dX5_coinsOf_12 ?_
    refine lv_iload_n hx hb dX5_coinsOf_15 rfl (lv_at hl 1 rfl) ?_
    obtain ⟨hin, hf⟩ := gd_e hf
    refine g_iald hx hb hK hP 10 4 (by decide) rfl hin dX5_coinsOf_16 ?_
    obtain ⟨h0, h1⟩ := rt2 hf
    rw [hQ0 h0.symm]
    exact g_iret hx hb hr hlocks hP hS h1 rfl dX5_coinsOf_17
  · obtain ⟨h0, -⟩ := rt2 hf
    have hne : ¬ ex = 0 := fun q => hn (h0.trans q)
    rw [hQ1 hne]
    refine g_xVx (k0 := 48) ⟨⟨hx, hb, hml, hown, hB⟩, hK, hi, hA, hAd, hP, hS⟩ hZ (c_X5_needPlayer hflag hi hv) hn cal_X5_needPlayer kM_X5_141 ⟨Nat.le_trans (Nat.le_of_ble_eq_true rfl) hRf, Nat.le_trans (Nat.le_of_ble_eq_true rfl) hRl⟩ (by decide) rfl rfl rfl hl.1 (Nat.le_of_ble_eq_true rfl) rfl dX5_coinsOf_2 (hcell hne) (fun q9 ce H locs hP hS hc1 hc2 hc3 => ?_)
    exact g_xout (hout hne) hlocks hc1 hc2 hc3 h0 rfl hP hS
def f_X5_healthOf (σ : Mem) (a0 : Int32) : Option (Nat × Int32) :=
bt (f_X5_needPlayer σ a0) (fun n2 => some (n2, 0)) fun v1 =>
gd a0 4 <|
some (0, (σ 12 a0.toNatClampNeg))
set_option maxHeartbeats 4000000 in
set_option maxRecDepth 100000 in
theorem c_X5_healthOf {l : Launch} {D : va_G} {cI cJ : ClassId} {ad : Nat → Nat} {σ : Mem} {a0 : Int32} {ex : Nat} {r : Int32} (hflag : l.stackTraces = false) (hi : injG 51 ad) (hf : f_X5_healthOf σ a0 = some (ex, r)) : MGx l yX5_healthOf (Cond.code yX5_healthOf cX5_healthOf 2 (some .int) :: BIG) 8 132 D cI cJ 51 ad (EX ad cI) [.ref (ad 48), .int a0] σ σ ex (fun sz => Qgi D 51 ad (EX ad cI) r σ sz) := by
  refine MGx.ofW (cc := cX5_healthOf) (nL := 2) (ret := (some .int)) (by decide) rfl hi ?_
  intro p e R s m args below meth c Q hx hb hr hml hlocks hown hB hK hZ hP hA hAd hS hRf hRl hcell hout hQ0 hQ1
  have hown : s.vm.findClass RX5 = some m.cls := hown
  have hl := lv_entry ([.ref (ad 48), .int a0] : List Value) (n := 2) (Nat.le_of_ble_eq_true rfl)
  rw [lg_entry_eq]
  generalize (lg_sl ([.ref (ad 48), .int a0] : List Value) ++ List.replicate (2 - (lg_sl ([.ref (ad 48), .int a0] : List Value)).length) Slot.unset).toArray = ls at hl ⊢
  have hl : lv_has ls 2 [(0, .ref (ad 48)), (1, .int a0)] := hl
  unfold f_X5_healthOf at hf
  refine lv_aload_n hx hb dX5_healthOf_0 rfl (lv_at hl 0 rfl) ?_
  refine lv_iload_n hx hb dX5_healthOf_1 rfl (lv_at hl 1 rfl) ?_
  rcases bt_e hf with ⟨v1, hv, hf⟩ | ⟨n2, v1, hn, hv, hf⟩
  · refine g_xVv (k0 := 48) ⟨⟨hx, hb, hml, hown, hB⟩, hK, hi, hA, hAd, hP, hS⟩ hZ (c_X5_needPlayer hflag hi hv) cal_X5_needPlayer kM_X5_141 ⟨Nat.le_trans (Nat.le_of_ble_eq_true rfl) hRf, Nat.le_trans (Nat.le_of_ble_eq_true rfl) hRl⟩ (by decide) rfl rfl rfl hl.1 (Nat.le_of_ble_eq_true rfl) rfl dX5_healthOf_2 (fun H locs hP hS => ?_)
    refine lv_aload_n hx hb dX5_healthOf_5 rfl (lv_at hl 0 rfl) ?_
    refine g_get (v := .ref (ad 0)) hx hb hB hown hK hP 48 (by decide) rfl rfl kU_X5 1 (by decide) kF_X5_19 rfl rfl dX5_healthOf_6 ?_
    refine g_get (v := .ref (ad 8)) hx hb hB hown hK hP 0 (by decide) rfl rfl kU_X4 1 (by decide) kF_X5_78 rfl rfl dX5_healthOf_9 ?_
    refine g_get (v := .ref (ad 12)) hx hb hB hown hK hP 8 (by decide) rfl rfl kU_X1 4 (by decide) kF_X5_176 rfl rfl dX5_healthOf_12 ?_
    refine lv_iload_n hx hb dX5_healthOf_15 rfl (lv_at hl 1 rfl) ?_
    obtain ⟨hin, hf⟩ := gd_e hf
    refine g_iald hx hb hK hP 12 4 (by decide) rfl hin dX5_healthOf_16 ?_
    obtain ⟨h0, h1⟩ := rt2 hf
    rw [hQ0 h0.symm]
    exact g_iret hx hb hr hlocks hP hS h1 rfl dX5_healthOf_17
  · obtain ⟨h0, -⟩ := rt2 hf
    have hne : ¬ ex = 0 := fun q => hn (h0.trans q)
    rw [hQ1 hne]
    refine g_xVx (k0 := 48) ⟨⟨hx, hb, hml, hown, hB⟩, hK, hi, hA, hAd, hP, hS⟩ hZ (c_X5_needPlayer hflag hi hv) hn cal_X5_needPlayer kM_X5_141 ⟨Nat.le_trans (Nat.le_of_ble_eq_true rfl) hRf, Nat.le_trans (Nat.le_of_ble_eq_true rfl) hRl⟩ (by decide) rfl rfl rfl hl.1 (Nat.le_of_ble_eq_true rfl) rfl dX5_healthOf_2 (hcell hne) (fun q9 ce H locs hP hS hc1 hc2 hc3 => ?_)
    exact g_xout (hout hne) hlocks hc1 hc2 hc3 h0 rfl hP hS
def f_X5_goodsOf (σ : Mem) (a0 a1 : Int32) : Option (Nat × Int32) :=
bt (f_X5_needPlayer σ a0) (fun n2 => some (n2, 0)) fun v1 =>
bt (f_X5_needKind a1) (fun n4 => some (n4, 0)) fun v3 =>
bd (f_X5_goodsAt a0 a1) fun v5 =>
gd v5 20 <|
some (0, (σ 14 v5.toNatClampNeg))
set_option maxHeartbeats 4000000 in
set_option maxRecDepth 100000 in
theorem c_X5_goodsOf {l : Launch} {D : va_G} {cI cJ : ClassId} {ad : Nat → Nat} {σ : Mem} {a0 a1 : Int32} {ex : Nat} {r : Int32} (hflag : l.stackTraces = false) (hi : injG 51 ad) (hf : f_X5_goodsOf σ a0 a1 = some (ex, r)) : MGx l yX5_goodsOf (Cond.code yX5_goodsOf cX5_goodsOf 3 (some .int) :: BIG) 8 132 D cI cJ 51 ad (EX ad cI) [.ref (ad 48), .int a0, .int a1] σ σ ex (fun sz => Qgi D 51 ad (EX ad cI) r σ sz) := by
  refine MGx.ofW (cc := cX5_goodsOf) (nL := 3) (ret := (some .int)) (by decide) rfl hi ?_
  intro p e R s m args below meth c Q hx hb hr hml hlocks hown hB hK hZ hP hA hAd hS hRf hRl hcell hout hQ0 hQ1
  have hown : s.vm.findClass RX5 = some m.cls := hown
  have hl := lv_entry ([.ref (ad 48), .int a0, .int a1] : List Value) (n := 3) (Nat.le_of_ble_eq_true rfl)
  rw [lg_entry_eq]
  generalize (lg_sl ([.ref (ad 48), .int a0, .int a1] : List Value) ++ List.replicate (3 - (lg_sl ([.ref (ad 48), .int a0, .int a1] : List Value)).length) Slot.unset).toArray = ls at hl ⊢
  have hl : lv_has ls 3 [(0, .ref (ad 48)), (1, .int a0), (2, .int a1)] := hl
  unfold f_X5_goodsOf at hf
  refine lv_aload_n hx hb dX5_goodsOf_0 rfl (lv_at hl 0 rfl) ?_
  refine lv_iload_n hx hb dX5_goodsOf_1 rfl (lv_at hl 1 rfl) ?_
  rcases bt_e hf with ⟨v1, hv, hf⟩ | ⟨n2, v1, hn, hv, hf⟩
  · refine g_xVv (k0 := 48) ⟨⟨hx, hb, hml, hown, hB⟩, hK, hi, hA, hAd, hP, hS⟩ hZ (c_X5_needPlayer hflag hi hv) cal_X5_needPlayer kM_X5_141 ⟨Nat.le_trans (Nat.le_of_ble_eq_true rfl) hRf, Nat.le_trans (Nat.le_of_ble_eq_true rfl) hRl⟩ (by decide) rfl rfl rfl hl.1 (Nat.le_of_ble_eq_true rfl) rfl dX5_goodsOf_2 (fun H locs hP hS => ?_)
    refine lv_iload_n hx hb dX5_goodsOf_5 rfl (lv_at hl 2 rfl) ?_
    rcases bt_e hf with ⟨v3, hv, hf⟩ | ⟨n4, v3, hn, hv, hf⟩
    · refine g_xSv0 ⟨⟨hx, hb, hml, hown, hB⟩, hK, hi, hA, hAd, hP, hS⟩ hZ (c_X5_needKind hflag hv) cal_X5_needKind kM_X5_73 ⟨Nat.le_trans (Nat.le_of_ble_eq_true rfl) hRf, Nat.le_trans (Nat.le_of_ble_eq_true rfl) hRl⟩ rfl hl.1 (Nat.le_of_ble_eq_true rfl) rfl dX5_goodsOf_6 (fun H locs hP hS => ?_)
      refine lv_aload_n hx hb dX5_goodsOf_9 rfl (lv_at hl 0 rfl) ?_
      refine g_get (v := .ref (ad 0)) hx hb hB hown hK hP 48 (by decide) rfl rfl kU_X5 1 (by decide) kF_X5_19 rfl rfl dX5_goodsOf_10 ?_
      refine g_get (v := .ref (ad 8)) hx hb hB hown hK hP 0 (by decide) rfl rfl kU_X4 1 (by decide) kF_X5_78 rfl rfl dX5_goodsOf_13 ?_
      refine g_get (v := .ref (ad 14)) hx hb hB hown hK hP 8 (by decide) rfl rfl kU_X1 6 (by decide) kF_X5_179 rfl rfl dX5_goodsOf_16 ?_
      refine lv_iload_n hx hb dX5_goodsOf_19 rfl (lv_at hl 1 rfl) ?_
      refine lv_iload_n hx hb dX5_goodsOf_20 rfl (lv_at hl 2 rfl) ?_
      obtain ⟨v5, hv, hf⟩ := bd_e hf
      refine g_cSi0 ⟨⟨hx, hb, hml, hown, hB⟩, hK, hi, hA, hAd, hP, hS⟩ (c_X5_goodsAt hv) cal_X5_goodsAt kM_X5_133 ⟨Nat.le_trans (Nat.le_of_ble_eq_true rfl) hRf, Nat.le_trans (Nat.le_of_ble_eq_true rfl) hRl⟩ rfl hl.1 (Nat.le_of_ble_eq_true rfl) rfl dX5_goodsOf_21 ⟨Nat.zero_le _, Nat.zero_le _⟩ (fun H locs hP hS => ?_)
      obtain ⟨hin, hf⟩ := gd_e hf
      refine g_iald hx hb hK hP 14 20 (by decide) rfl hin dX5_goodsOf_24 ?_
      obtain ⟨h0, h1⟩ := rt2 hf
      rw [hQ0 h0.symm]
      exact g_iret hx hb hr hlocks hP hS h1 rfl dX5_goodsOf_25
    · obtain ⟨h0, -⟩ := rt2 hf
      have hne : ¬ ex = 0 := fun q => hn (h0.trans q)
      rw [hQ1 hne]
      refine g_xSx0 ⟨⟨hx, hb, hml, hown, hB⟩, hK, hi, hA, hAd, hP, hS⟩ hZ (c_X5_needKind hflag hv) hn cal_X5_needKind kM_X5_73 ⟨Nat.le_trans (Nat.le_of_ble_eq_true rfl) hRf, Nat.le_trans (Nat.le_of_ble_eq_true rfl) hRl⟩ rfl hl.1 (Nat.le_of_ble_eq_true rfl) rfl dX5_goodsOf_6 (hcell hne) (fun q9 ce H locs hP hS hc1 hc2 hc3 => ?_)
      exact g_xout (hout hne) hlocks hc1 hc2 hc3 h0 rfl hP hS
  · obtain ⟨h0, -⟩ := rt2 hf
    have hne : ¬ ex = 0 := fun q => hn (h0.trans q)
    rw [hQ1 hne]
    refine g_xVx (k0 := 48) ⟨⟨hx, hb, hml, hown, hB⟩, hK, hi, hA, hAd, hP, hS⟩ hZ (c_X5_needPlayer hflag hi hv) hn cal_X5_needPlayer kM_X5_141 ⟨Nat.le_trans (Nat.le_of_ble_eq_true rfl) hRf, Nat.le_trans (Nat.le_of_ble_eq_true rfl) hRl⟩ (by decide) rfl rfl rfl hl.1 (Nat.le_of_ble_eq_true rfl) rfl dX5_goodsOf_2 (hcell hne) (fun q9 ce H locs hP hS hc1 hc2 hc3 => ?_)
    exact g_xout (hout hne) hlocks hc1 hc2 hc3 h0 rfl hP hS
def f_X5_heard (σ : Mem) (a0 a1 : Int32) : Option (Nat × Int32) :=
bt (f_X5_needPlayer σ a0) (fun n2 => some (n2, 0)) fun v1 =>
jn (fun (_ : Unit) =>
some (1, 0)) fun (J3 : Unit → Option (Nat × Int32)) =>
if a1 < 0 then (
J3 ())
else (
gd a0 4 <|
if a1 < (σ 17 a0.toNatClampNeg) then (
gd ((a0 * 6) + a1) 24 <|
some (0, (σ 16 ((a0 * 6) + a1).toNatClampNeg)))
else (
J3 ()))
set_option maxHeartbeats 4000000 in
set_option maxRecDepth 100000 in
theorem c_X5_heard {l : Launch} {D : va_G} {cI cJ : ClassId} {ad : Nat → Nat} {σ : Mem} {a0 a1 : Int32} {ex : Nat} {r : Int32} (hflag : l.stackTraces = false) (hi : injG 51 ad) (hf : f_X5_heard σ a0 a1 = some (ex, r)) : MGx l yX5_heard (Cond.code yX5_heard cX5_heard 3 (some .int) :: BIG) 8 132 D cI cJ 51 ad (EX ad cI) [.ref (ad 48), .int a0, .int a1] σ σ ex (fun sz => Qgi D 51 ad (EX ad cI) r σ sz) := by
  refine MGx.ofW (cc := cX5_heard) (nL := 3) (ret := (some .int)) (by decide) rfl hi ?_
  intro p e R s m args below meth c Q hx hb hr hml hlocks hown hB hK hZ hP hA hAd hS hRf hRl hcell hout hQ0 hQ1
  have hown : s.vm.findClass RX5 = some m.cls := hown
  have hl := lv_entry ([.ref (ad 48), .int a0, .int a1] : List Value) (n := 3) (Nat.le_of_ble_eq_true rfl)
  rw [lg_entry_eq]
  generalize (lg_sl ([.ref (ad 48), .int a0, .int a1] : List Value) ++ List.replicate (3 - (lg_sl ([.ref (ad 48), .int a0, .int a1] : List Value)).length) Slot.unset).toArray = ls at hl ⊢
  have hl : lv_has ls 3 [(0, .ref (ad 48)), (1, .int a0), (2, .int a1)] := hl
  unfold f_X5_heard at hf
  refine lv_aload_n hx hb dX5_heard_0 rfl (lv_at hl 0 rfl) ?_
  refine lv_iload_n hx hb dX5_heard_1 rfl (lv_at hl 1 rfl) ?_
  rcases bt_e hf with ⟨v1, hv, hf⟩ | ⟨n2, v1, hn, hv, hf⟩
  · refine g_xVv (k0 := 48) ⟨⟨hx, hb, hml, hown, hB⟩, hK, hi, hA, hAd, hP, hS⟩ hZ (c_X5_needPlayer hflag hi hv) cal_X5_needPlayer kM_X5_141 ⟨Nat.le_trans (Nat.le_of_ble_eq_true rfl) hRf, Nat.le_trans (Nat.le_of_ble_eq_true rfl) hRl⟩ (by decide) rfl rfl rfl hl.1 (Nat.le_of_ble_eq_true rfl) rfl dX5_heard_2 (fun H locs hP hS => ?_)
    refine lv_iload_n hx hb dX5_heard_5 rfl (lv_at hl 2 rfl) ?_
    obtain ⟨J3, eJ3, hf⟩ := jn_e0 hf
    have hJ3 : ∀ (_ : Unit) (H : Heap) (locs : List Loc) (ls : Array Slot), J3 () = some (ex, r) → va_P D vwCl (wsG 51 ad (EX ad cI) σ) H → va_S (AG 51 ad s.heap.size) s.heap H locs → lv_has ls 3 [] → W p l e R s m args below meth c H locs 0 0 Q (F0 m 25 ls []) := by
      intro _ H locs ls hf hP hS hl
      rw [eJ3] at hf
      obtain ⟨h0, -⟩ := rt2 hf
      rw [hQ1 (fun q => by rw [q] at h0; cases h0)]
      exact g_throw (text := "not so many words are kept") (e0 := 1) hx hb hflag hB hown hK hZ hP hS (hl.1.trans hml.symm) hlocks (hout (fun q => by rw [q] at h0; cases h0)) h0 rfl tt_X5_185_189 (by decide +kernel) dX5_heard_25 dX5_heard_28 dX5_heard_29 dX5_heard_31 dX5_heard_34 hRf hRl (hcell (fun q => by rw [q] at h0; cases h0)) (Nat.le_of_ble_eq_true rfl)
    refine lv_if_lt (tgt := 25) hx hb dX5_heard_6 (by decide) (fun q4 => ?_) (fun q4 => ?_)
    · rw [if_pos q4] at hf
      exact hJ3 () _ _ ls hf hP hS (lv_sub hl [] rfl)
    · rw [if_neg q4] at hf
      refine lv_iload_n hx hb dX5_heard_9 rfl (lv_at hl 2 rfl) ?_
      refine lv_aload_n hx hb dX5_heard_10 rfl (lv_at hl 0 rfl) ?_
      refine g_get (v := .ref (ad 0)) hx hb hB hown hK hP 48 (by decide) rfl rfl kU_X5 1 (by decide) kF_X5_19 rfl rfl dX5_heard_11 ?_
      refine g_get (v := .ref (ad 8)) hx hb hB hown hK hP 0 (by decide) rfl rfl kU_X4 1 (by decide) kF_X5_78 rfl rfl dX5_heard_14 ?_
      refine g_get (v := .ref (ad 17)) hx hb hB hown hK hP 8 (by decide) rfl rfl kU_X1 9 (by decide) kF_X5_182 rfl rfl dX5_heard_17 ?_
      refine lv_iload_n hx hb dX5_heard_20 rfl (lv_at hl 1 rfl) ?_
      obtain ⟨hin, hf⟩ := gd_e hf
      refine g_iald hx hb hK hP 17 4 (by decide) rfl hin dX5_heard_21 ?_
      refine lv_icmp_lt (tgt := 35) hx hb dX5_heard_22 (by decide) (fun q5 => ?_) (fun q5 => ?_)
      · rw [if_pos q5] at hf
        refine lv_aload_n hx hb dX5_heard_35 rfl (lv_at hl 0 rfl) ?_
        refine g_get (v := .ref (ad 0)) hx hb hB hown hK hP 48 (by decide) rfl rfl kU_X5 1 (by decide) kF_X5_19 rfl rfl dX5_heard_36 ?_
        refine g_get (v := .ref (ad 8)) hx hb hB hown hK hP 0 (by decide) rfl rfl kU_X4 1 (by decide) kF_X5_78 rfl rfl dX5_heard_39 ?_
        refine g_get (v := .ref (ad 16)) hx hb hB hown hK hP 8 (by decide) rfl rfl kU_X1 8 (by decide) kF_X5_190 rfl rfl dX5_heard_42 ?_
        refine lv_iload_n hx hb dX5_heard_45 rfl (lv_at hl 1 rfl) ?_
        refine lv_bipush (v := 6) hx hb dX5_heard_46 (by decide) ?_
        refine lv_imul hx hb dX5_heard_48 ?_
        refine lv_iload_n hx hb dX5_heard_49 rfl (lv_at hl 2 rfl) ?_
        refine lv_iadd hx hb dX5_heard_50 ?_
        obtain ⟨hin, hf⟩ := gd_e hf
        refine g_iald hx hb hK hP 16 24 (by decide) rfl hin dX5_heard_51 ?_
        obtain ⟨h0, h1⟩ := rt2 hf
        rw [hQ0 h0.symm]
        exact g_iret hx hb hr hlocks hP hS h1 rfl dX5_heard_52
      · rw [if_neg q5] at hf
        exact hJ3 () _ _ ls hf hP hS (lv_sub hl [] rfl)
  · obtain ⟨h0, -⟩ := rt2 hf
    have hne : ¬ ex = 0 := fun q => hn (h0.trans q)
    rw [hQ1 hne]
    refine g_xVx (k0 := 48) ⟨⟨hx, hb, hml, hown, hB⟩, hK, hi, hA, hAd, hP, hS⟩ hZ (c_X5_needPlayer hflag hi hv) hn cal_X5_needPlayer kM_X5_141 ⟨Nat.le_trans (Nat.le_of_ble_eq_true rfl) hRf, Nat.le_trans (Nat.le_of_ble_eq_true rfl) hRl⟩ (by decide) rfl rfl rfl hl.1 (Nat.le_of_ble_eq_true rfl) rfl dX5_heard_2 (hcell hne) (fun q9 ce H locs hP hS hc1 hc2 hc3 => ?_)
    exact g_xout (hout hne) hlocks hc1 hc2 hc3 h0 rfl hP hS
def f_X5_stageOf (σ : Mem) (a0 a1 : Int32) : Option (Nat × Int32) :=
bt (f_X5_needPlayer σ a0) (fun n2 => some (n2, 0)) fun v1 =>
bt (f_X5_needQuest σ a1) (fun n4 => some (n4, 0)) fun v3 =>
bd (f_X5_reachedAt a0 a1) fun v5 =>
gd v5 12 <|
some (0, (σ 15 v5.toNatClampNeg))
set_option maxHeartbeats 4000000 in
set_option maxRecDepth 100000 in
theorem c_X5_stageOf {l : Launch} {D : va_G} {cI cJ : ClassId} {ad : Nat → Nat} {σ : Mem} {a0 a1 : Int32} {ex : Nat} {r : Int32} (hflag : l.stackTraces = false) (hi : injG 51 ad) (hf : f_X5_stageOf σ a0 a1 = some (ex, r)) : MGx l yX5_stageOf (Cond.code yX5_stageOf cX5_stageOf 3 (some .int) :: BIG) 8 132 D cI cJ 51 ad (EX ad cI) [.ref (ad 48), .int a0, .int a1] σ σ ex (fun sz => Qgi D 51 ad (EX ad cI) r σ sz) := by
  refine MGx.ofW (cc := cX5_stageOf) (nL := 3) (ret := (some .int)) (by decide) rfl hi ?_
  intro p e R s m args below meth c Q hx hb hr hml hlocks hown hB hK hZ hP hA hAd hS hRf hRl hcell hout hQ0 hQ1
  have hown : s.vm.findClass RX5 = some m.cls := hown
  have hl := lv_entry ([.ref (ad 48), .int a0, .int a1] : List Value) (n := 3) (Nat.le_of_ble_eq_true rfl)
  rw [lg_entry_eq]
  generalize (lg_sl ([.ref (ad 48), .int a0, .int a1] : List Value) ++ List.replicate (3 - (lg_sl ([.ref (ad 48), .int a0, .int a1] : List Value)).length) Slot.unset).toArray = ls at hl ⊢
  have hl : lv_has ls 3 [(0, .ref (ad 48)), (1, .int a0), (2, .int a1)] := hl
  unfold f_X5_stageOf at hf
  refine lv_aload_n hx hb dX5_stageOf_0 rfl (lv_at hl 0 rfl) ?_
  refine lv_iload_n hx hb dX5_stageOf_1 rfl (lv_at hl 1 rfl) ?_
  rcases bt_e hf with ⟨v1, hv, hf⟩ | ⟨n2, v1, hn, hv, hf⟩
  · refine g_xVv (k0 := 48) ⟨⟨hx, hb, hml, hown, hB⟩, hK, hi, hA, hAd, hP, hS⟩ hZ (c_X5_needPlayer hflag hi hv) cal_X5_needPlayer kM_X5_141 ⟨Nat.le_trans (Nat.le_of_ble_eq_true rfl) hRf, Nat.le_trans (Nat.le_of_ble_eq_true rfl) hRl⟩ (by decide) rfl rfl rfl hl.1 (Nat.le_of_ble_eq_true rfl) rfl dX5_stageOf_2 (fun H locs hP hS => ?_)
    refine lv_aload_n hx hb dX5_stageOf_5 rfl (lv_at hl 0 rfl) ?_
    refine lv_iload_n hx hb dX5_stageOf_6 rfl (lv_at hl 2 rfl) ?_
    rcases bt_e hf with ⟨v3, hv, hf⟩ | ⟨n4, v3, hn, hv, hf⟩
    · refine g_xVv (k0 := 48) ⟨⟨hx, hb, hml, hown, hB⟩, hK, hi, hA, hAd, hP, hS⟩ hZ (c_X5_needQuest hflag hi hv) cal_X5_needQuest kM_X5_99 ⟨Nat.le_trans (Nat.le_of_ble_eq_true rfl) hRf, Nat.le_trans (Nat.le_of_ble_eq_true rfl) hRl⟩ (by decide) rfl rfl rfl hl.1 (Nat.le_of_ble_eq_true rfl) rfl dX5_stageOf_7 (fun H locs hP hS => ?_)
      refine lv_aload_n hx hb dX5_stageOf_10 rfl (lv_at hl 0 rfl) ?_
      refine g_get (v := .ref (ad 0)) hx hb hB hown hK hP 48 (by decide) rfl rfl kU_X5 1 (by decide) kF_X5_19 rfl rfl dX5_stageOf_11 ?_
      refine g_get (v := .ref (ad 8)) hx hb hB hown hK hP 0 (by decide) rfl rfl kU_X4 1 (by decide) kF_X5_78 rfl rfl dX5_stageOf_14 ?_
      refine g_get (v := .ref (ad 15)) hx hb hB hown hK hP 8 (by decide) rfl rfl kU_X1 7 (by decide) kF_X5_193 rfl rfl dX5_stageOf_17 ?_
      refine lv_iload_n hx hb dX5_stageOf_20 rfl (lv_at hl 1 rfl) ?_
      refine lv_iload_n hx hb dX5_stageOf_21 rfl (lv_at hl 2 rfl) ?_
      obtain ⟨v5, hv, hf⟩ := bd_e hf
      refine g_cSi0 ⟨⟨hx, hb, hml, hown, hB⟩, hK, hi, hA, hAd, hP, hS⟩ (c_X5_reachedAt hv) cal_X5_reachedAt kM_X5_196 ⟨Nat.le_trans (Nat.le_of_ble_eq_true rfl) hRf, Nat.le_trans (Nat.le_of_ble_eq_true rfl) hRl⟩ rfl hl.1 (Nat.le_of_ble_eq_true rfl) rfl dX5_stageOf_22 ⟨Nat.zero_le _, Nat.zero_le _⟩ (fun H locs hP hS => ?_)
      obtain ⟨hin, hf⟩ := gd_e hf
      refine g_iald hx hb hK hP 15 12 (by decide) rfl hin dX5_stageOf_25 ?_
      obtain ⟨h0, h1⟩ := rt2 hf
      rw [hQ0 h0.symm]
      exact g_iret hx hb hr hlocks hP hS h1 rfl dX5_stageOf_26
    · obtain ⟨h0, -⟩ := rt2 hf
      have hne : ¬ ex = 0 := fun q => hn (h0.trans q)
      rw [hQ1 hne]
      refine g_xVx (k0 := 48) ⟨⟨hx, hb, hml, hown, hB⟩, hK, hi, hA, hAd, hP, hS⟩ hZ (c_X5_needQuest hflag hi hv) hn cal_X5_needQuest kM_X5_99 ⟨Nat.le_trans (Nat.le_of_ble_eq_true rfl) hRf, Nat.le_trans (Nat.le_of_ble_eq_true rfl) hRl⟩ (by decide) rfl rfl rfl hl.1 (Nat.le_of_ble_eq_true rfl) rfl dX5_stageOf_7 (hcell hne) (fun q9 ce H locs hP hS hc1 hc2 hc3 => ?_)
      exact g_xout (hout hne) hlocks hc1 hc2 hc3 h0 rfl hP hS
  · obtain ⟨h0, -⟩ := rt2 hf
    have hne : ¬ ex = 0 := fun q => hn (h0.trans q)
    rw [hQ1 hne]
    refine g_xVx (k0 := 48) ⟨⟨hx, hb, hml, hown, hB⟩, hK, hi, hA, hAd, hP, hS⟩ hZ (c_X5_needPlayer hflag hi hv) hn cal_X5_needPlayer kM_X5_141 ⟨Nat.le_trans (Nat.le_of_ble_eq_true rfl) hRf, Nat.le_trans (Nat.le_of_ble_eq_true rfl) hRl⟩ (by decide) rfl rfl rfl hl.1 (Nat.le_of_ble_eq_true rfl) rfl dX5_stageOf_2 (hcell hne) (fun q9 ce H locs hP hS hc1 hc2 hc3 => ?_)
    exact g_xout (hout hne) hlocks hc1 hc2 hc3 h0 rfl hP hS
def f_X5_exit (σ : Mem) (a0 a1 : Int32) : Option (Nat × Int32) :=
bt (f_X5_needRoom a0) (fun n2 => some (n2, 0)) fun v1 =>
bt (f_X5_needDirection a1) (fun n4 => some (n4, 0)) fun v3 =>
bd (f_X2_exitFrom σ a0 a1) fun v5 =>
some (0, v5)
set_option maxHeartbeats 4000000 in
set_option maxRecDepth 100000 in
theorem c_X5_exit {l : Launch} {D : va_G} {cI cJ : ClassId} {ad : Nat → Nat} {σ : Mem} {a0 a1 : Int32} {ex : Nat} {r : Int32} (hflag : l.stackTraces = false) (hi : injG 51 ad) (hf : f_X5_exit σ a0 a1 = some (ex, r)) : MGx l yX5_exit (Cond.code yX5_exit cX5_exit 3 (some .int) :: BIG) 7 110 D cI cJ 51 ad (EX ad cI) [.ref (ad 48), .int a0, .int a1] σ σ ex (fun sz => Qgi D 51 ad (EX ad cI) r σ sz) := by
  refine MGx.ofW (cc := cX5_exit) (nL := 3) (ret := (some .int)) (by decide) rfl hi ?_
  intro p e R s m args below meth c Q hx hb hr hml hlocks hown hB hK hZ hP hA hAd hS hRf hRl hcell hout hQ0 hQ1
  have hown : s.vm.findClass RX5 = some m.cls := hown
  have hl := lv_entry ([.ref (ad 48), .int a0, .int a1] : List Value) (n := 3) (Nat.le_of_ble_eq_true rfl)
  rw [lg_entry_eq]
  generalize (lg_sl ([.ref (ad 48), .int a0, .int a1] : List Value) ++ List.replicate (3 - (lg_sl ([.ref (ad 48), .int a0, .int a1] : List Value)).length) Slot.unset).toArray = ls at hl ⊢
  have hl : lv_has ls 3 [(0, .ref (ad 48)), (1, .int a0), (2, .int a1)] := hl
  unfold f_X5_exit at hf
  refine lv_iload_n hx hb dX5_exit_0 rfl (lv_at hl 1 rfl) ?_
  rcases bt_e hf with ⟨v1, hv, hf⟩ | ⟨n2, v1, hn, hv, hf⟩
  · refine g_xSv0 ⟨⟨hx, hb, hml, hown, hB⟩, hK, hi, hA, hAd, hP, hS⟩ hZ (c_X5_needRoom hflag hv) cal_X5_needRoom kM_X5_26 ⟨Nat.le_trans (Nat.le_of_ble_eq_true rfl) hRf, Nat.le_trans (Nat.le_of_ble_eq_true rfl) hRl⟩ rfl hl.1 (Nat.le_of_ble_eq_true rfl) rfl dX5_exit_1 (fun H locs hP hS => ?_)
    refine lv_iload_n hx hb dX5_exit_4 rfl (lv_at hl 2 rfl) ?_
    rcases bt_e hf with ⟨v3, hv, hf⟩ | ⟨n4, v3, hn, hv, hf⟩
    · refine g_xSv0 ⟨⟨hx, hb, hml, hown, hB⟩, hK, hi, hA, hAd, hP, hS⟩ hZ (c_X5_needDirection hflag hv) cal_X5_needDirection kM_X5_30 ⟨Nat.le_trans (Nat.le_of_ble_eq_true rfl) hRf, Nat.le_trans (Nat.le_of_ble_eq_true rfl) hRl⟩ rfl hl.1 (Nat.le_of_ble_eq_true rfl) rfl dX5_exit_5 (fun H locs hP hS => ?_)
      refine lv_aload_n hx hb dX5_exit_8 rfl (lv_at hl 0 rfl) ?_
      refine g_get (v := .ref (ad 0)) hx hb hB hown hK hP 48 (by decide) rfl rfl kU_X5 1 (by decide) kF_X5_19 rfl rfl dX5_exit_9 ?_
      refine g_get (v := .ref (ad 1)) hx hb hB hown hK hP 0 (by decide) rfl rfl kU_X4 0 (by decide) kF_X5_40 rfl rfl dX5_exit_12 ?_
      refine lv_iload_n hx hb dX5_exit_15 rfl (lv_at hl 1 rfl) ?_
      refine lv_iload_n hx hb dX5_exit_16 rfl (lv_at hl 2 rfl) ?_
      obtain ⟨v5, hv, hf⟩ := bd_e hf
      refine g_cVi (τ := σ) ⟨⟨hx, hb, hml, hown, hB⟩, hK, hi, hA, hAd, hP, hS⟩ sub_now (c_X2_exitFrom (hi_now hi) hv) (fun _ _ => rfl) cal_X2_exitFrom kM_X5_44 ⟨Nat.le_trans (Nat.le_of_ble_eq_true rfl) hRf, Nat.le_trans (Nat.le_of_ble_eq_true rfl) hRl⟩ 1 (by decide) rfl rfl rfl rfl hl.1 (Nat.le_of_ble_eq_true rfl) rfl dX5_exit_17 ⟨Nat.zero_le _, Nat.zero_le _⟩ (fun _ _ => rfl) (fun _ _ _ => rfl) (fun H locs hP hS => ?_)
      obtain ⟨h0, h1⟩ := rt2 hf
      rw [hQ0 h0.symm]
      exact g_iret hx hb hr hlocks hP hS h1 rfl dX5_exit_20
    · obtain ⟨h0, -⟩ := rt2 hf
      have hne : ¬ ex = 0 := fun q => hn (h0.trans q)
      rw [hQ1 hne]
      refine g_xSx0 ⟨⟨hx, hb, hml, hown, hB⟩, hK, hi, hA, hAd, hP, hS⟩ hZ (c_X5_needDirection hflag hv) hn cal_X5_needDirection kM_X5_30 ⟨Nat.le_trans (Nat.le_of_ble_eq_true rfl) hRf, Nat.le_trans (Nat.le_of_ble_eq_true rfl) hRl⟩ rfl hl.1 (Nat.le_of_ble_eq_true rfl) rfl dX5_exit_5 (hcell hne) (fun q9 ce H locs hP hS hc1 hc2 hc3 => ?_)
      exact g_xout (hout hne) hlocks hc1 hc2 hc3 h0 rfl hP hS
  · obtain ⟨h0, -⟩ := rt2 hf
    have hne : ¬ ex = 0 := fun q => hn (h0.trans q)
    rw [hQ1 hne]
    refine g_xSx0 ⟨⟨hx, hb, hml, hown, hB⟩, hK, hi, hA, hAd, hP, hS⟩ hZ (c_X5_needRoom hflag hv) hn cal_X5_needRoom kM_X5_26 ⟨Nat.le_trans (Nat.le_of_ble_eq_true rfl) hRf, Nat.le_trans (Nat.le_of_ble_eq_true rfl) hRl⟩ rfl hl.1 (Nat.le_of_ble_eq_true rfl) rfl dX5_exit_1 (hcell hne) (fun q9 ce H locs hP hS hc1 hc2 hc3 => ?_)
    exact g_xout (hout hne) hlocks hc1 hc2 hc3 h0 rfl hP hS
def f_X5_distance (σ : Mem) (a0 a1 : Int32) : Option (Nat × Int32 × Mem) :=
bt (f_X5_needRoom a0) (fun n2 => some (n2, 0, σ)) fun v1 =>
bt (f_X5_needRoom a1) (fun n4 => some (n4, 0, σ)) fun v3 =>
bd2 (f_X2_stepsBetween σ a0 a1) fun v5 σ6 =>
stp (mgN σ6 σ) fun σ7 =>
some (0, v5, σ7)
set_option maxHeartbeats 4000000 in
set_option maxRecDepth 100000 in
theorem c_X5_distance {l : Launch} {D : va_G} {cI cJ : ClassId} {ad : Nat → Nat} {σ : Mem} {a0 a1 : Int32} {ex : Nat} {r : Int32} {σr : Mem} (hflag : l.stackTraces = false) (hi : injG 51 ad) (hf : f_X5_distance σ a0 a1 = some (ex, r, σr)) : MGx l yX5_distance (Cond.code yX5_distance cX5_distance 3 (some .int) :: BIG) 7 110 D cI cJ 51 ad (EX ad cI) [.ref (ad 48), .int a0, .int a1] σ σr ex (fun sz => Qgi D 51 ad (EX ad cI) r σr sz) := by
  refine MGx.ofW (cc := cX5_distance) (nL := 3) (ret := (some .int)) (by decide) rfl hi ?_
  intro p e R s m args below meth c Q hx hb hr hml hlocks hown hB hK hZ hP hA hAd hS hRf hRl hcell hout hQ0 hQ1
  have hown : s.vm.findClass RX5 = some m.cls := hown
  have hl := lv_entry ([.ref (ad 48), .int a0, .int a1] : List Value) (n := 3) (Nat.le_of_ble_eq_true rfl)
  rw [lg_entry_eq]
  generalize (lg_sl ([.ref (ad 48), .int a0, .int a1] : List Value) ++ List.replicate (3 - (lg_sl ([.ref (ad 48), .int a0, .int a1] : List Value)).length) Slot.unset).toArray = ls at hl ⊢
  have hl : lv_has ls 3 [(0, .ref (ad 48)), (1, .int a0), (2, .int a1)] := hl
  unfold f_X5_distance at hf
  refine lv_iload_n hx hb dX5_distance_0 rfl (lv_at hl 1 rfl) ?_
  rcases bt_e hf with ⟨v1, hv, hf⟩ | ⟨n2, v1, hn, hv, hf⟩
  · refine g_xSv0 ⟨⟨hx, hb, hml, hown, hB⟩, hK, hi, hA, hAd, hP, hS⟩ hZ (c_X5_needRoom hflag hv) cal_X5_needRoom kM_X5_26 ⟨Nat.le_trans (Nat.le_of_ble_eq_true rfl) hRf, Nat.le_trans (Nat.le_of_ble_eq_true rfl) hRl⟩ rfl hl.1 (Nat.le_of_ble_eq_true rfl) rfl dX5_distance_1 (fun H locs hP hS => ?_)
    refine lv_iload_n hx hb dX5_distance_4 rfl (lv_at hl 2 rfl) ?_
    rcases bt_e hf with ⟨v3, hv, hf⟩ | ⟨n4, v3, hn, hv, hf⟩
    · refine g_xSv0 ⟨⟨hx, hb, hml, hown, hB⟩, hK, hi, hA, hAd, hP, hS⟩ hZ (c_X5_needRoom hflag hv) cal_X5_needRoom kM_X5_26 ⟨Nat.le_trans (Nat.le_of_ble_eq_true rfl) hRf, Nat.le_trans (Nat.le_of_ble_eq_true rfl) hRl⟩ rfl hl.1 (Nat.le_of_ble_eq_true rfl) rfl dX5_distance_5 (fun H locs hP hS => ?_)
      refine lv_aload_n hx hb dX5_distance_8 rfl (lv_at hl 0 rfl) ?_
      refine g_get (v := .ref (ad 0)) hx hb hB hown hK hP 48 (by decide) rfl rfl kU_X5 1 (by decide) kF_X5_19 rfl rfl dX5_distance_9 ?_
      refine g_get (v := .ref (ad 1)) hx hb hB hown hK hP 0 (by decide) rfl rfl kU_X4 0 (by decide) kF_X5_40 rfl rfl dX5_distance_12 ?_
      refine lv_iload_n hx hb dX5_distance_15 rfl (lv_at hl 1 rfl) ?_
      refine lv_iload_n hx hb dX5_distance_16 rfl (lv_at hl 2 rfl) ?_
      obtain ⟨v5, σ6, hv, hf⟩ := bd2_e hf
      refine g_cVi (τ := (mgN σ6 σ)) ⟨⟨hx, hb, hml, hown, hB⟩, hK, hi, hA, hAd, hP, hS⟩ sub_now (c_X2_stepsBetween (hi_now hi) hv) (fun _ _ => rfl) cal_X2_stepsBetween kM_X5_199 ⟨Nat.le_trans (Nat.le_of_ble_eq_true rfl) hRf, Nat.le_trans (Nat.le_of_ble_eq_true rfl) hRl⟩ 1 (by decide) rfl rfl rfl rfl hl.1 (Nat.le_of_ble_eq_true rfl) rfl dX5_distance_17 ⟨Nat.zero_le _, Nat.zero_le _⟩ (mgN_1 _ _) (mgN_2 _ _) (fun H locs hP hS => ?_)
      obtain ⟨σ7, eσ7, hf⟩ := stp_e hf
      rw [← eσ7] at hP
      obtain ⟨h0, h1, h2⟩ := rt3 hf
      rw [hQ0 h0.symm]
      exact g_iret hx hb hr hlocks hP hS h1 h2 dX5_distance_20
    · obtain ⟨h0, -, h2⟩ := rt3 hf
      have hne : ¬ ex = 0 := fun q => hn (h0.trans q)
      rw [hQ1 hne]
      refine g_xSx0 ⟨⟨hx, hb, hml, hown, hB⟩, hK, hi, hA, hAd, hP, hS⟩ hZ (c_X5_needRoom hflag hv) hn cal_X5_needRoom kM_X5_26 ⟨Nat.le_trans (Nat.le_of_ble_eq_true rfl) hRf, Nat.le_trans (Nat.le_of_ble_eq_true rfl) hRl⟩ rfl hl.1 (Nat.le_of_ble_eq_true rfl) rfl dX5_distance_5 (hcell hne) (fun q9 ce H locs hP hS hc1 hc2 hc3 => ?_)
      exact g_xout (hout hne) hlocks hc1 hc2 hc3 h0 h2 hP hS
  · obtain ⟨h0, -, h2⟩ := rt3 hf
    have hne : ¬ ex = 0 := fun q => hn (h0.trans q)
    rw [hQ1 hne]
    refine g_xSx0 ⟨⟨hx, hb, hml, hown, hB⟩, hK, hi, hA, hAd, hP, hS⟩ hZ (c_X5_needRoom hflag hv) hn cal_X5_needRoom kM_X5_26 ⟨Nat.le_trans (Nat.le_of_ble_eq_true rfl) hRf, Nat.le_trans (Nat.le_of_ble_eq_true rfl) hRl⟩ rfl hl.1 (Nat.le_of_ble_eq_true rfl) rfl dX5_distance_1 (hcell hne) (fun q9 ce H locs hP hS hc1 hc2 hc3 => ?_)
    exact g_xout (hout hne) hlocks hc1 hc2 hc3 h0 h2 hP hS
def f_X5_onFloor (σ : Mem) (a0 a1 : Int32) : Option (Nat × Int32) :=
bt (f_X5_needRoom a0) (fun n2 => some (n2, 0)) fun v1 =>
bt (f_X5_needKind a1) (fun n4 => some (n4, 0)) fun v3 =>
bd (f_X5_goodsAt a0 a1) fun v5 =>
gd v5 40 <|
some (0, (σ 6 v5.toNatClampNeg))
set_option maxHeartbeats 4000000 in
set_option maxRecDepth 100000 in
theorem c_X5_onFloor {l : Launch} {D : va_G} {cI cJ : ClassId} {ad : Nat → Nat} {σ : Mem} {a0 a1 : Int32} {ex : Nat} {r : Int32} (hflag : l.stackTraces = false) (hi : injG 51 ad) (hf : f_X5_onFloor σ a0 a1 = some (ex, r)) : MGx l yX5_onFloor (Cond.code yX5_onFloor cX5_onFloor 3 (some .int) :: BIG) 7 110 D cI cJ 51 ad (EX ad cI) [.ref (ad 48), .int a0, .int a1] σ σ ex (fun sz => Qgi D 51 ad (EX ad cI) r σ sz) := by
  refine MGx.ofW (cc := cX5_onFloor) (nL := 3) (ret := (some .int)) (by decide) rfl hi ?_
  intro p e R s m args below meth c Q hx hb hr hml hlocks hown hB hK hZ hP hA hAd hS hRf hRl hcell hout hQ0 hQ1
  have hown : s.vm.findClass RX5 = some m.cls := hown
  have hl := lv_entry ([.ref (ad 48), .int a0, .int a1] : List Value) (n := 3) (Nat.le_of_ble_eq_true rfl)
  rw [lg_entry_eq]
  generalize (lg_sl ([.ref (ad 48), .int a0, .int a1] : List Value) ++ List.replicate (3 - (lg_sl ([.ref (ad 48), .int a0, .int a1] : List Value)).length) Slot.unset).toArray = ls at hl ⊢
  have hl : lv_has ls 3 [(0, .ref (ad 48)), (1, .int a0), (2, .int a1)] := hl
  unfold f_X5_onFloor at hf
  refine lv_iload_n hx hb dX5_onFloor_0 rfl (lv_at hl 1 rfl) ?_
  rcases bt_e hf with ⟨v1, hv, hf⟩ | ⟨n2, v1, hn, hv, hf⟩
  · refine g_xSv0 ⟨⟨hx, hb, hml, hown, hB⟩, hK, hi, hA, hAd, hP, hS⟩ hZ (c_X5_needRoom hflag hv) cal_X5_needRoom kM_X5_26 ⟨Nat.le_trans (Nat.le_of_ble_eq_true rfl) hRf, Nat.le_trans (Nat.le_of_ble_eq_true rfl) hRl⟩ rfl hl.1 (Nat.le_of_ble_eq_true rfl) rfl dX5_onFloor_1 (fun H locs hP hS => ?_)
    refine lv_iload_n hx hb dX5_onFloor_4 rfl (lv_at hl 2 rfl) ?_
    rcases bt_e hf with ⟨v3, hv, hf⟩ | ⟨n4, v3, hn, hv, hf⟩
    · refine g_xSv0 ⟨⟨hx, hb, hml, hown, hB⟩, hK, hi, hA, hAd, hP, hS⟩ hZ (c_X5_needKind hflag hv) cal_X5_needKind kM_X5_73 ⟨Nat.le_trans (Nat.le_of_ble_eq_true rfl) hRf, Nat.le_trans (Nat.le_of_ble_eq_true rfl) hRl⟩ rfl hl.1 (Nat.le_of_ble_eq_true rfl) rfl dX5_onFloor_5 (fun H locs hP hS => ?_)
      refine lv_aload_n hx hb dX5_onFloor_8 rfl (lv_at hl 0 rfl) ?_
      refine g_get (v := .ref (ad 0)) hx hb hB hown hK hP 48 (by decide) rfl rfl kU_X5 1 (by decide) kF_X5_19 rfl rfl dX5_onFloor_9 ?_
      refine g_get (v := .ref (ad 1)) hx hb hB hown hK hP 0 (by decide) rfl rfl kU_X4 0 (by decide) kF_X5_40 rfl rfl dX5_onFloor_12 ?_
      refine g_get (v := .ref (ad 6)) hx hb hB hown hK hP 1 (by decide) rfl rfl kU_X2 4 (by decide) kF_X5_130 rfl rfl dX5_onFloor_15 ?_
      refine lv_iload_n hx hb dX5_onFloor_18 rfl (lv_at hl 1 rfl) ?_
      refine lv_iload_n hx hb dX5_onFloor_19 rfl (lv_at hl 2 rfl) ?_
      obtain ⟨v5, hv, hf⟩ := bd_e hf
      refine g_cSi0 ⟨⟨hx, hb, hml, hown, hB⟩, hK, hi, hA, hAd, hP, hS⟩ (c_X5_goodsAt hv) cal_X5_goodsAt kM_X5_133 ⟨Nat.le_trans (Nat.le_of_ble_eq_true rfl) hRf, Nat.le_trans (Nat.le_of_ble_eq_true rfl) hRl⟩ rfl hl.1 (Nat.le_of_ble_eq_true rfl) rfl dX5_onFloor_20 ⟨Nat.zero_le _, Nat.zero_le _⟩ (fun H locs hP hS => ?_)
      obtain ⟨hin, hf⟩ := gd_e hf
      refine g_iald hx hb hK hP 6 40 (by decide) rfl hin dX5_onFloor_23 ?_
      obtain ⟨h0, h1⟩ := rt2 hf
      rw [hQ0 h0.symm]
      exact g_iret hx hb hr hlocks hP hS h1 rfl dX5_onFloor_24
    · obtain ⟨h0, -⟩ := rt2 hf
      have hne : ¬ ex = 0 := fun q => hn (h0.trans q)
      rw [hQ1 hne]
      refine g_xSx0 ⟨⟨hx, hb, hml, hown, hB⟩, hK, hi, hA, hAd, hP, hS⟩ hZ (c_X5_needKind hflag hv) hn cal_X5_needKind kM_X5_73 ⟨Nat.le_trans (Nat.le_of_ble_eq_true rfl) hRf, Nat.le_trans (Nat.le_of_ble_eq_true rfl) hRl⟩ rfl hl.1 (Nat.le_of_ble_eq_true rfl) rfl dX5_onFloor_5 (hcell hne) (fun q9 ce H locs hP hS hc1 hc2 hc3 => ?_)
      exact g_xout (hout hne) hlocks hc1 hc2 hc3 h0 rfl hP hS
  · obtain ⟨h0, -⟩ := rt2 hf
    have hne : ¬ ex = 0 := fun q => hn (h0.trans q)
    rw [hQ1 hne]
    refine g_xSx0 ⟨⟨hx, hb, hml, hown, hB⟩, hK, hi, hA, hAd, hP, hS⟩ hZ (c_X5_needRoom hflag hv) hn cal_X5_needRoom kM_X5_26 ⟨Nat.le_trans (Nat.le_of_ble_eq_true rfl) hRf, Nat.le_trans (Nat.le_of_ble_eq_true rfl) hRl⟩ rfl hl.1 (Nat.le_of_ble_eq_true rfl) rfl dX5_onFloor_1 (hcell hne) (fun q9 ce H locs hP hS hc1 hc2 hc3 => ?_)
    exact g_xout (hout hne) hlocks hc1 hc2 hc3 h0 rfl hP hS
def f_X5_stockOf (σ : Mem) (a0 a1 : Int32) : Option (Nat × Int32) :=
bt (f_X5_needRoom a0) (fun n2 => some (n2, 0)) fun v1 =>
bt (f_X5_needKind a1) (fun n4 => some (n4, 0)) fun v3 =>
bd (f_X5_goodsAt a0 a1) fun v5 =>
gd v5 40 <|
some (0, (σ 5 v5.toNatClampNeg))
set_option maxHeartbeats 4000000 in
set_option maxRecDepth 100000 in
theorem c_X5_stockOf {l : Launch} {D : va_G} {cI cJ : ClassId} {ad : Nat → Nat} {σ : Mem} {a0 a1 : Int32} {ex : Nat} {r : Int32} (hflag : l.stackTraces = false) (hi : injG 51 ad) (hf : f_X5_stockOf σ a0 a1 = some (ex, r)) : MGx l yX5_stockOf (Cond.code yX5_stockOf cX5_stockOf 3 (some .int) :: BIG) 7 110 D cI cJ 51 ad (EX ad cI) [.ref (ad 48), .int a0, .int a1] σ σ ex (fun sz => Qgi D 51 ad (EX ad cI) r σ sz) := by
  refine MGx.ofW (cc := cX5_stockOf) (nL := 3) (ret := (some .int)) (by decide) rfl hi ?_
  intro p e R s m args below meth c Q hx hb hr hml hlocks hown hB hK hZ hP hA hAd hS hRf hRl hcell hout hQ0 hQ1
  have hown : s.vm.findClass RX5 = some m.cls := hown
  have hl := lv_entry ([.ref (ad 48), .int a0, .int a1] : List Value) (n := 3) (Nat.le_of_ble_eq_true rfl)
  rw [lg_entry_eq]
  generalize (lg_sl ([.ref (ad 48), .int a0, .int a1] : List Value) ++ List.replicate (3 - (lg_sl ([.ref (ad 48), .int a0, .int a1] : List Value)).length) Slot.unset).toArray = ls at hl ⊢
  have hl : lv_has ls 3 [(0, .ref (ad 48)), (1, .int a0), (2, .int a1)] := hl
  unfold f_X5_stockOf at hf
  refine lv_iload_n hx hb dX5_stockOf_0 rfl (lv_at hl 1 rfl) ?_
  rcases bt_e hf with ⟨v1, hv, hf⟩ | ⟨n2, v1, hn, hv, hf⟩
  · refine g_xSv0 ⟨⟨hx, hb, hml, hown, hB⟩, hK, hi, hA, hAd, hP, hS⟩ hZ (c_X5_needRoom hflag hv) cal_X5_needRoom kM_X5_26 ⟨Nat.le_trans (Nat.le_of_ble_eq_true rfl) hRf, Nat.le_trans (Nat.le_of_ble_eq_true rfl) hRl⟩ rfl hl.1 (Nat.le_of_ble_eq_true rfl) rfl dX5_stockOf_1 (fun H locs hP hS => ?_)
    refine lv_iload_n hx hb dX5_stockOf_4 rfl (lv_at hl 2 rfl) ?_
    rcases bt_e hf with ⟨v3, hv, hf⟩ | ⟨n4, v3, hn, hv, hf⟩
    · refine g_xSv0 ⟨⟨hx, hb, hml, hown, hB⟩, hK, hi, hA, hAd, hP, hS⟩ hZ (c_X5_needKind hflag hv) cal_X5_needKind kM_X5_73 ⟨Nat.le_trans (Nat.le_of_ble_eq_true rfl) hRf, Nat.le_trans (Nat.le_of_ble_eq_true rfl) hRl⟩ rfl hl.1 (Nat.le_of_ble_eq_true rfl) rfl dX5_stockOf_5 (fun H locs hP hS => ?_)
      refine lv_aload_n hx hb dX5_stockOf_8 rfl (lv_at hl 0 rfl) ?_
      refine g_get (v := .ref (ad 0)) hx hb hB hown hK hP 48 (by decide) rfl rfl kU_X5 1 (by decide) kF_X5_19 rfl rfl dX5_stockOf_9 ?_
      refine g_get (v := .ref (ad 1)) hx hb hB hown hK hP 0 (by decide) rfl rfl kU_X4 0 (by decide) kF_X5_40 rfl rfl dX5_stockOf_12 ?_
      refine g_get (v := .ref (ad 5)) hx hb hB hown hK hP 1 (by decide) rfl rfl kU_X2 3 (by decide) kF_X5_156 rfl rfl dX5_stockOf_15 ?_
      refine lv_iload_n hx hb dX5_stockOf_18 rfl (lv_at hl 1 rfl) ?_
      refine lv_iload_n hx hb dX5_stockOf_19 rfl (lv_at hl 2 rfl) ?_
      obtain ⟨v5, hv, hf⟩ := bd_e hf
      refine g_cSi0 ⟨⟨hx, hb, hml, hown, hB⟩, hK, hi, hA, hAd, hP, hS⟩ (c_X5_goodsAt hv) cal_X5_goodsAt kM_X5_133 ⟨Nat.le_trans (Nat.le_of_ble_eq_true rfl) hRf, Nat.le_trans (Nat.le_of_ble_eq_true rfl) hRl⟩ rfl hl.1 (Nat.le_of_ble_eq_true rfl) rfl dX5_stockOf_20 ⟨Nat.zero_le _, Nat.zero_le _⟩ (fun H locs hP hS => ?_)
      obtain ⟨hin, hf⟩ := gd_e hf
      refine g_iald hx hb hK hP 5 40 (by decide) rfl hin dX5_stockOf_23 ?_
      obtain ⟨h0, h1⟩ := rt2 hf
      rw [hQ0 h0.symm]
      exact g_iret hx hb hr hlocks hP hS h1 rfl dX5_stockOf_24
    · obtain ⟨h0, -⟩ := rt2 hf
      have hne : ¬ ex = 0 := fun q => hn (h0.trans q)
      rw [hQ1 hne]
      refine g_xSx0 ⟨⟨hx, hb, hml, hown, hB⟩, hK, hi, hA, hAd, hP, hS⟩ hZ (c_X5_needKind hflag hv) hn cal_X5_needKind kM_X5_73 ⟨Nat.le_trans (Nat.le_of_ble_eq_true rfl) hRf, Nat.le_trans (Nat.le_of_ble_eq_true rfl) hRl⟩ rfl hl.1 (Nat.le_of_ble_eq_true rfl) rfl dX5_stockOf_5 (hcell hne) (fun q9 ce H locs hP hS hc1 hc2 hc3 => ?_)
      exact g_xout (hout hne) hlocks hc1 hc2 hc3 h0 rfl hP hS
  · obtain ⟨h0, -⟩ := rt2 hf
    have hne : ¬ ex = 0 := fun q => hn (h0.trans q)
    rw [hQ1 hne]
    refine g_xSx0 ⟨⟨hx, hb, hml, hown, hB⟩, hK, hi, hA, hAd, hP, hS⟩ hZ (c_X5_needRoom hflag hv) hn cal_X5_needRoom kM_X5_26 ⟨Nat.le_trans (Nat.le_of_ble_eq_true rfl) hRf, Nat.le_trans (Nat.le_of_ble_eq_true rfl) hRl⟩ rfl hl.1 (Nat.le_of_ble_eq_true rfl) rfl dX5_stockOf_1 (hcell hne) (fun q9 ce H locs hP hS hc1 hc2 hc3 => ?_)
    exact g_xout (hout hne) hlocks hc1 hc2 hc3 h0 rfl hP hS
def f_X5_tillOf (σ : Mem) (a0 : Int32) : Option (Nat × Int32) :=
bt (f_X5_needRoom a0) (fun n2 => some (n2, 0)) fun v1 =>
gd a0 8 <|
some (0, (σ 3 a0.toNatClampNeg))
set_option maxHeartbeats 4000000 in
set_option maxRecDepth 100000 in
theorem c_X5_tillOf {l : Launch} {D : va_G} {cI cJ : ClassId} {ad : Nat → Nat} {σ : Mem} {a0 : Int32} {ex : Nat} {r : Int32} (hflag : l.stackTraces = false) (hi : injG 51 ad) (hf : f_X5_tillOf σ a0 = some (ex, r)) : MGx l yX5_tillOf (Cond.code yX5_tillOf cX5_tillOf 2 (some .int) :: BIG) 7 110 D cI cJ 51 ad (EX ad cI) [.ref (ad 48), .int a0] σ σ ex (fun sz => Qgi D 51 ad (EX ad cI) r σ sz) := by
  refine MGx.ofW (cc := cX5_tillOf) (nL := 2) (ret := (some .int)) (by decide) rfl hi ?_
  intro p e R s m args below meth c Q hx hb hr hml hlocks hown hB hK hZ hP hA hAd hS hRf hRl hcell hout hQ0 hQ1
  have hown : s.vm.findClass RX5 = some m.cls := hown
  have hl := lv_entry ([.ref (ad 48), .int a0] : List Value) (n := 2) (Nat.le_of_ble_eq_true rfl)
  rw [lg_entry_eq]
  generalize (lg_sl ([.ref (ad 48), .int a0] : List Value) ++ List.replicate (2 - (lg_sl ([.ref (ad 48), .int a0] : List Value)).length) Slot.unset).toArray = ls at hl ⊢
  have hl : lv_has ls 2 [(0, .ref (ad 48)), (1, .int a0)] := hl
  unfold f_X5_tillOf at hf
  refine lv_iload_n hx hb dX5_tillOf_0 rfl (lv_at hl 1 rfl) ?_
  rcases bt_e hf with ⟨v1, hv, hf⟩ | ⟨n2, v1, hn, hv, hf⟩
  · refine g_xSv0 ⟨⟨hx, hb, hml, hown, hB⟩, hK, hi, hA, hAd, hP, hS⟩ hZ (c_X5_needRoom hflag hv) cal_X5_needRoom kM_X5_26 ⟨Nat.le_trans (Nat.le_of_ble_eq_true rfl) hRf, Nat.le_trans (Nat.le_of_ble_eq_true rfl) hRl⟩ rfl hl.1 (Nat.le_of_ble_eq_true rfl) rfl dX5_tillOf_1 (fun H locs hP hS => ?_)
    refine lv_aload_n hx hb dX5_tillOf_4 rfl (lv_at hl 0 rfl) ?_
    refine g_get (v := .ref (ad 0)) hx hb hB hown hK hP 48 (by decide) rfl rfl kU_X5 1 (by decide) kF_X5_19 rfl rfl dX5_tillOf_5 ?_
    refine g_get (v := .ref (ad 1)) hx hb hB hown hK hP 0 (by decide) rfl rfl kU_X4 0 (by decide) kF_X5_40 rfl rfl dX5_tillOf_8 ?_
    refine g_get (v := .ref (ad 3)) hx hb hB hown hK hP 1 (by decide) rfl rfl kU_X2 1 (by decide) kF_X5_164 rfl rfl dX5_tillOf_11 ?_
    refine lv_iload_n hx hb dX5_tillOf_14 rfl (lv_at hl 1 rfl) ?_
    obtain ⟨hin, hf⟩ := gd_e hf
    refine g_iald hx hb hK hP 3 8 (by decide) rfl hin dX5_tillOf_15 ?_
    obtain ⟨h0, h1⟩ := rt2 hf
    rw [hQ0 h0.symm]
    exact g_iret hx hb hr hlocks hP hS h1 rfl dX5_tillOf_16
  · obtain ⟨h0, -⟩ := rt2 hf
    have hne : ¬ ex = 0 := fun q => hn (h0.trans q)
    rw [hQ1 hne]
    refine g_xSx0 ⟨⟨hx, hb, hml, hown, hB⟩, hK, hi, hA, hAd, hP, hS⟩ hZ (c_X5_needRoom hflag hv) hn cal_X5_needRoom kM_X5_26 ⟨Nat.le_trans (Nat.le_of_ble_eq_true rfl) hRf, Nat.le_trans (Nat.le_of_ble_eq_true rfl) hRl⟩ rfl hl.1 (Nat.le_of_ble_eq_true rfl) rfl dX5_tillOf_1 (hcell hne) (fun q9 ce H locs hP hS hc1 hc2 hc3 => ?_)
    exact g_xout (hout hne) hlocks hc1 hc2 hc3 h0 rfl hP hS
def f_X5_purse (σ : Mem) : Option (Int32) :=
some (σ 0 3)
set_option maxHeartbeats 4000000 in
set_option maxRecDepth 100000 in
theorem c_X5_purse {l : Launch} {D : va_G} {cI cJ : ClassId} {ad : Nat → Nat} {σ : Mem} {r : Int32}  (hi : injG 51 ad) (hf : f_X5_purse σ = some r) : MGi l yX5_purse (Cond.code yX5_purse cX5_purse 1 (some .int) :: BIG) 0 0 D cI cJ 51 ad (EX ad cI) [.ref (ad 48)] σ σ r := by
  refine MGi.ofW (cc := cX5_purse) (nL := 1) (ret := (some .int)) (by decide) rfl hi ?_
  intro p e s m args below meth c hx hb hr hml hlocks hown hB hK hP hA hAd hS
  have hown : s.vm.findClass RX5 = some m.cls := hown
  have hl := lv_entry ([.ref (ad 48)] : List Value) (n := 1) (Nat.le_of_ble_eq_true rfl)
  rw [lg_entry_eq]
  generalize (lg_sl ([.ref (ad 48)] : List Value) ++ List.replicate (1 - (lg_sl ([.ref (ad 48)] : List Value)).length) Slot.unset).toArray = ls at hl ⊢
  have hl : lv_has ls 1 [(0, .ref (ad 48))] := hl
  generalize hQ : MQ below (Qgi D 51 ad (EX ad cI) r σ s.heap.size) _ s 0 0 (AG 51 ad s.heap.size) = Q
  have hQ := hQ.symm
  obtain ⟨R, hR, hRf, hRl⟩ : ∃ R : Room, R = ({ frames := 0, cells := 0, slots := 0, locals := 0 } : Room) ∧ 0 ≤ R.frames ∧ 0 ≤ R.locals := ⟨_, rfl, Nat.le_refl _, Nat.le_refl _⟩
  rw [← hR]
  unfold f_X5_purse at hf
  refine lv_aload_n hx hb dX5_purse_0 rfl (lv_at hl 0 rfl) ?_
  refine g_get (v := .ref (ad 0)) hx hb hB hown hK hP 48 (by decide) rfl rfl kU_X5 1 (by decide) kF_X5_19 rfl rfl dX5_purse_1 ?_
  refine g_get (v := .int (σ 0 3)) hx hb hB hown hK hP 0 (by decide) rfl rfl kU_X4 3 (by decide) kF_X5_202 rfl rfl dX5_purse_4 ?_
  have h1 := rt1 hf
  rw [hQ]
  exact g_iret hx hb hr hlocks hP hS h1 rfl dX5_purse_7
def f_X5_allCoins (σ : Mem) : Option (Int32) :=
bd (f_X1_sumOfCoins σ) fun v1 =>
bd (f_X2_sumOfTills σ) fun v2 =>
some (((σ 0 3) + v1) + v2)
set_option maxHeartbeats 4000000 in
set_option maxRecDepth 100000 in
theorem c_X5_allCoins {l : Launch} {D : va_G} {cI cJ : ClassId} {ad : Nat → Nat} {σ : Mem} {r : Int32}  (hi : injG 51 ad) (hf : f_X5_allCoins σ = some r) : MGi l yX5_allCoins (Cond.code yX5_allCoins cX5_allCoins 1 (some .int) :: BIG) 2 43 D cI cJ 51 ad (EX ad cI) [.ref (ad 48)] σ σ r := by
  refine MGi.ofW (cc := cX5_allCoins) (nL := 1) (ret := (some .int)) (by decide) rfl hi ?_
  intro p e s m args below meth c hx hb hr hml hlocks hown hB hK hP hA hAd hS
  have hown : s.vm.findClass RX5 = some m.cls := hown
  have hl := lv_entry ([.ref (ad 48)] : List Value) (n := 1) (Nat.le_of_ble_eq_true rfl)
  rw [lg_entry_eq]
  generalize (lg_sl ([.ref (ad 48)] : List Value) ++ List.replicate (1 - (lg_sl ([.ref (ad 48)] : List Value)).length) Slot.unset).toArray = ls at hl ⊢
  have hl : lv_has ls 1 [(0, .ref (ad 48))] := hl
  generalize hQ : MQ below (Qgi D 51 ad (EX ad cI) r σ s.heap.size) _ s 0 0 (AG 51 ad s.heap.size) = Q
  have hQ := hQ.symm
  obtain ⟨R, hR, hRf, hRl⟩ : ∃ R : Room, R = ({ frames := 2, cells := 0, slots := 0, locals := 43 } : Room) ∧ 2 ≤ R.frames ∧ 43 ≤ R.locals := ⟨_, rfl, Nat.le_refl _, Nat.le_refl _⟩
  rw [← hR]
  unfold f_X5_allCoins at hf
  refine lv_aload_n hx hb dX5_allCoins_0 rfl (lv_at hl 0 rfl) ?_
  refine g_get (v := .ref (ad 0)) hx hb hB hown hK hP 48 (by decide) rfl rfl kU_X5 1 (by decide) kF_X5_19 rfl rfl dX5_allCoins_1 ?_
  refine g_get (v := .int (σ 0 3)) hx hb hB hown hK hP 0 (by decide) rfl rfl kU_X4 3 (by decide) kF_X5_202 rfl rfl dX5_allCoins_4 ?_
  refine lv_aload_n hx hb dX5_allCoins_7 rfl (lv_at hl 0 rfl) ?_
  refine g_get (v := .ref (ad 0)) hx hb hB hown hK hP 48 (by decide) rfl rfl kU_X5 1 (by decide) kF_X5_19 rfl rfl dX5_allCoins_8 ?_
  refine g_get (v := .ref (ad 8)) hx hb hB hown hK hP 0 (by decide) rfl rfl kU_X4 1 (by decide) kF_X5_78 rfl rfl dX5_allCoins_11 ?_
  obtain ⟨v1, hv, hf⟩ := bd_e hf
  refine g_cVi (τ := σ) ⟨⟨hx, hb, hml, hown, hB⟩, hK, hi, hA, hAd, hP, hS⟩ sub_now (c_X1_sumOfCoins (hi_now hi) hv) (fun _ _ => rfl) cal_X1_sumOfCoins kM_X5_205 ⟨Nat.le_trans (Nat.le_of_ble_eq_true rfl) hRf, Nat.le_trans (Nat.le_of_ble_eq_true rfl) hRl⟩ 8 (by decide) rfl rfl rfl rfl hl.1 (Nat.le_of_ble_eq_true rfl) rfl dX5_allCoins_14 ⟨Nat.zero_le _, Nat.zero_le _⟩ (fun _ _ => rfl) (fun _ _ _ => rfl) (fun H locs hP hS => ?_)
  refine lv_iadd hx hb dX5_allCoins_17 ?_
  refine lv_aload_n hx hb dX5_allCoins_18 rfl (lv_at hl 0 rfl) ?_
  refine g_get (v := .ref (ad 0)) hx hb hB hown hK hP 48 (by decide) rfl rfl kU_X5 1 (by decide) kF_X5_19 rfl rfl dX5_allCoins_19 ?_
  refine g_get (v := .ref (ad 1)) hx hb hB hown hK hP 0 (by decide) rfl rfl kU_X4 0 (by decide) kF_X5_40 rfl rfl dX5_allCoins_22 ?_
  obtain ⟨v2, hv, hf⟩ := bd_e hf
  refine g_cVi (τ := σ) ⟨⟨hx, hb, hml, hown, hB⟩, hK, hi, hA, hAd, hP, hS⟩ sub_now (c_X2_sumOfTills (hi_now hi) hv) (fun _ _ => rfl) cal_X2_sumOfTills kM_X5_208 ⟨Nat.le_trans (Nat.le_of_ble_eq_true rfl) hRf, Nat.le_trans (Nat.le_of_ble_eq_true rfl) hRl⟩ 1 (by decide) rfl rfl rfl rfl hl.1 (Nat.le_of_ble_eq_true rfl) rfl dX5_allCoins_25 ⟨Nat.zero_le _, Nat.zero_le _⟩ (fun _ _ => rfl) (fun _ _ _ => rfl) (fun H locs hP hS => ?_)
  refine lv_iadd hx hb dX5_allCoins_28 ?_
  have h1 := rt1 hf
  rw [hQ]
  exact g_iret hx hb hr hlocks hP hS h1 rfl dX5_allCoins_29
def f_X5_allGoods (σ : Mem) (a0 : Int32) : Option (Nat × Int32) :=
bt (f_X5_needKind a0) (fun n2 => some (n2, 0)) fun v1 =>
bd (f_X1_sumOfGoods σ a0) fun v3 =>
bd (f_X2_sumOfGoods σ a0) fun v4 =>
some (0, (v3 + v4))
set_option maxHeartbeats 4000000 in
set_option maxRecDepth 100000 in
theorem c_X5_allGoods {l : Launch} {D : va_G} {cI cJ : ClassId} {ad : Nat → Nat} {σ : Mem} {a0 : Int32} {ex : Nat} {r : Int32} (hflag : l.stackTraces = false) (hi : injG 51 ad) (hf : f_X5_allGoods σ a0 = some (ex, r)) : MGx l yX5_allGoods (Cond.code yX5_allGoods cX5_allGoods 2 (some .int) :: BIG) 7 110 D cI cJ 51 ad (EX ad cI) [.ref (ad 48), .int a0] σ σ ex (fun sz => Qgi D 51 ad (EX ad cI) r σ sz) := by
  refine MGx.ofW (cc := cX5_allGoods) (nL := 2) (ret := (some .int)) (by decide) rfl hi ?_
  intro p e R s m args below meth c Q hx hb hr hml hlocks hown hB hK hZ hP hA hAd hS hRf hRl hcell hout hQ0 hQ1
  have hown : s.vm.findClass RX5 = some m.cls := hown
  have hl := lv_entry ([.ref (ad 48), .int a0] : List Value) (n := 2) (Nat.le_of_ble_eq_true rfl)
  rw [lg_entry_eq]
  generalize (lg_sl ([.ref (ad 48), .int a0] : List Value) ++ List.replicate (2 - (lg_sl ([.ref (ad 48), .int a0] : List Value)).length) Slot.unset).toArray = ls at hl ⊢
  have hl : lv_has ls 2 [(0, .ref (ad 48)), (1, .int a0)] := hl
  unfold f_X5_allGoods at hf
  refine lv_iload_n hx hb dX5_allGoods_0 rfl (lv_at hl 1 rfl) ?_
  rcases bt_e hf with ⟨v1, hv, hf⟩ | ⟨n2, v1, hn, hv, hf⟩
  · refine g_xSv0 ⟨⟨hx, hb, hml, hown, hB⟩, hK, hi, hA, hAd, hP, hS⟩ hZ (c_X5_needKind hflag hv) cal_X5_needKind kM_X5_73 ⟨Nat.le_trans (Nat.le_of_ble_eq_true rfl) hRf, Nat.le_trans (Nat.le_of_ble_eq_true rfl) hRl⟩ rfl hl.1 (Nat.le_of_ble_eq_true rfl) rfl dX5_allGoods_1 (fun H locs hP hS => ?_)
    refine lv_aload_n hx hb dX5_allGoods_4 rfl (lv_at hl 0 rfl) ?_
    refine g_get (v := .ref (ad 0)) hx hb hB hown hK hP 48 (by decide) rfl rfl kU_X5 1 (by decide) kF_X5_19 rfl rfl dX5_allGoods_5 ?_
    refine g_get (v := .ref (ad 8)) hx hb hB hown hK hP 0 (by decide) rfl rfl kU_X4 1 (by decide) kF_X5_78 rfl rfl dX5_allGoods_8 ?_
    refine lv_iload_n hx hb dX5_allGoods_11 rfl (lv_at hl 1 rfl) ?_
    obtain ⟨v3, hv, hf⟩ := bd_e hf
    refine g_cVi (τ := σ) ⟨⟨hx, hb, hml, hown, hB⟩, hK, hi, hA, hAd, hP, hS⟩ sub_now (c_X1_sumOfGoods (hi_now hi) hv) (fun _ _ => rfl) cal_X1_sumOfGoods kM_X5_211 ⟨Nat.le_trans (Nat.le_of_ble_eq_true rfl) hRf, Nat.le_trans (Nat.le_of_ble_eq_true rfl) hRl⟩ 8 (by decide) rfl rfl rfl rfl hl.1 (Nat.le_of_ble_eq_true rfl) rfl dX5_allGoods_12 ⟨Nat.zero_le _, Nat.zero_le _⟩ (fun _ _ => rfl) (fun _ _ _ => rfl) (fun H locs hP hS => ?_)
    refine lv_aload_n hx hb dX5_allGoods_15 rfl (lv_at hl 0 rfl) ?_
    refine g_get (v := .ref (ad 0)) hx hb hB hown hK hP 48 (by decide) rfl rfl kU_X5 1 (by decide) kF_X5_19 rfl rfl dX5_allGoods_16 ?_
    refine g_get (v := .ref (ad 1)) hx hb hB hown hK hP 0 (by decide) rfl rfl kU_X4 0 (by decide) kF_X5_40 rfl rfl dX5_allGoods_19 ?_
    refine lv_iload_n hx hb dX5_allGoods_22 rfl (lv_at hl 1 rfl) ?_
    obtain ⟨v4, hv, hf⟩ := bd_e hf
    refine g_cVi (τ := σ) ⟨⟨hx, hb, hml, hown, hB⟩, hK, hi, hA, hAd, hP, hS⟩ sub_now (c_X2_sumOfGoods (hi_now hi) hv) (fun _ _ => rfl) cal_X2_sumOfGoods kM_X5_214 ⟨Nat.le_trans (Nat.le_of_ble_eq_true rfl) hRf, Nat.le_trans (Nat.le_of_ble_eq_true rfl) hRl⟩ 1 (by decide) rfl rfl rfl rfl hl.1 (Nat.le_of_ble_eq_true rfl) rfl dX5_allGoods_23 ⟨Nat.zero_le _, Nat.zero_le _⟩ (fun _ _ => rfl) (fun _ _ _ => rfl) (fun H locs hP hS => ?_)
    refine lv_iadd hx hb dX5_allGoods_26 ?_
    obtain ⟨h0, h1⟩ := rt2 hf
    rw [hQ0 h0.symm]
    exact g_iret hx hb hr hlocks hP hS h1 rfl dX5_allGoods_27
  · obtain ⟨h0, -⟩ := rt2 hf
    have hne : ¬ ex = 0 := fun q => hn (h0.trans q)
    rw [hQ1 hne]
    refine g_xSx0 ⟨⟨hx, hb, hml, hown, hB⟩, hK, hi, hA, hAd, hP, hS⟩ hZ (c_X5_needKind hflag hv) hn cal_X5_needKind kM_X5_73 ⟨Nat.le_trans (Nat.le_of_ble_eq_true rfl) hRf, Nat.le_trans (Nat.le_of_ble_eq_true rfl) hRl⟩ rfl hl.1 (Nat.le_of_ble_eq_true rfl) rfl dX5_allGoods_1 (hcell hne) (fun q9 ce H locs hP hS hc1 hc2 hc3 => ?_)
    exact g_xout (hout hne) hlocks hc1 hc2 hc3 h0 rfl hP hS
def f_X5_calls (σ : Mem) : Option (Int32) :=
some (σ 49 1)
set_option maxHeartbeats 4000000 in
set_option maxRecDepth 100000 in
theorem c_X5_calls {l : Launch} {D : va_G} {cI cJ : ClassId} {ad : Nat → Nat} {σ : Mem} {r : Int32}  (hi : injG 51 ad) (hf : f_X5_calls σ = some r) : MGi l yX5_calls (Cond.code yX5_calls cX5_calls 1 (some .int) :: BIG) 0 0 D cI cJ 51 ad (EX ad cI) [.ref (ad 48)] σ σ r := by
  refine MGi.ofW (cc := cX5_calls) (nL := 1) (ret := (some .int)) (by decide) rfl hi ?_
  intro p e s m args below meth c hx hb hr hml hlocks hown hB hK hP hA hAd hS
  have hown : s.vm.findClass RX5 = some m.cls := hown
  have hl := lv_entry ([.ref (ad 48)] : List Value) (n := 1) (Nat.le_of_ble_eq_true rfl)
  rw [lg_entry_eq]
  generalize (lg_sl ([.ref (ad 48)] : List Value) ++ List.replicate (1 - (lg_sl ([.ref (ad 48)] : List Value)).length) Slot.unset).toArray = ls at hl ⊢
  have hl : lv_has ls 1 [(0, .ref (ad 48))] := hl
  generalize hQ : MQ below (Qgi D 51 ad (EX ad cI) r σ s.heap.size) _ s 0 0 (AG 51 ad s.heap.size) = Q
  have hQ := hQ.symm
  obtain ⟨R, hR, hRf, hRl⟩ : ∃ R : Room, R = ({ frames := 0, cells := 0, slots := 0, locals := 0 } : Room) ∧ 0 ≤ R.frames ∧ 0 ≤ R.locals := ⟨_, rfl, Nat.le_refl _, Nat.le_refl _⟩
  rw [← hR]
  unfold f_X5_calls at hf
  refine lv_aload_n hx hb dX5_calls_0 rfl (lv_at hl 0 rfl) ?_
  refine g_get (v := .ref (ad 49)) hx hb hB hown hK hP 48 (by decide) rfl rfl kU_X5 0 (by decide) kF_X5_10 rfl rfl dX5_calls_1 ?_
  refine g_get (v := .int (σ 49 1)) hx hb hB hown hK hP 49 (by decide) rfl rfl kU_X0 1 (by decide) kF_X5_215 rfl rfl dX5_calls_4 ?_
  have h1 := rt1 hf
  rw [hQ]
  exact g_iret hx hb hr hlocks hP hS h1 rfl dX5_calls_7
def f_X5_roomAfter (σ : Mem) (a0 a1 : Int32) : Option (Nat × Int32 × Mem) :=
bt3 (f_X5_worldAfter σ a0) (fun n2 σ3 => some (n2, 0, σ3)) fun v1 σ3 =>
bt (f_X5_needPlayerIn_past σ3 a1) (fun n5 => some (n5, 0, σ3)) fun v4 =>
gd a1 4 <|
some (0, (σ3 33 a1.toNatClampNeg), σ3)
set_option maxHeartbeats 4000000 in
set_option maxRecDepth 100000 in
theorem c_X5_roomAfter {l : Launch} {D : va_G} {cI cJ : ClassId} {ad : Nat → Nat} {σ : Mem} {a0 a1 : Int32} {ex : Nat} {r : Int32} {σr : Mem} (hflag : l.stackTraces = false) (hi : injG 51 ad) (hf : f_X5_roomAfter σ a0 a1 = some (ex, r, σr)) : MGx l yX5_roomAfter (Cond.code yX5_roomAfter cX5_roomAfter 4 (some .int) :: BIG) 7 152 D cI cJ 51 ad (EX ad cI) [.ref (ad 48), .int a0, .int a1] σ σr ex (fun sz => Qgi D 51 ad (EX ad cI) r σr sz) := by
  refine MGx.ofW (cc := cX5_roomAfter) (nL := 4) (ret := (some .int)) (by decide) rfl hi ?_
  intro p e R s m args below meth c Q hx hb hr hml hlocks hown hB hK hZ hP hA hAd hS hRf hRl hcell hout hQ0 hQ1
  have hown : s.vm.findClass RX5 = some m.cls := hown
  have hl := lv_entry ([.ref (ad 48), .int a0, .int a1] : List Value) (n := 4) (Nat.le_of_ble_eq_true rfl)
  rw [lg_entry_eq]
  generalize (lg_sl ([.ref (ad 48), .int a0, .int a1] : List Value) ++ List.replicate (4 - (lg_sl ([.ref (ad 48), .int a0, .int a1] : List Value)).length) Slot.unset).toArray = ls at hl ⊢
  have hl : lv_has ls 4 [(0, .ref (ad 48)), (1, .int a0), (2, .int a1)] := hl
  unfold f_X5_roomAfter at hf
  refine lv_aload_n hx hb dX5_roomAfter_0 rfl (lv_at hl 0 rfl) ?_
  refine lv_iload_n hx hb dX5_roomAfter_1 rfl (lv_at hl 1 rfl) ?_
  rcases bt3_e hf with ⟨v1, σ3, hv, hf⟩ | ⟨n2, σ3, hn, ⟨_, hv⟩, hf⟩
  · refine g_xVr (k0 := 48) ⟨⟨hx, hb, hml, hown, hB⟩, hK, hi, hA, hAd, hP, hS⟩ hZ (c_X5_worldAfter hflag hi hv) cal_X5_worldAfter kM_X5_216 ⟨Nat.le_trans (Nat.le_of_ble_eq_true rfl) hRf, Nat.le_trans (Nat.le_of_ble_eq_true rfl) hRl⟩ (by decide) rfl rfl rfl hl.1 (Nat.le_of_ble_eq_true rfl) rfl dX5_roomAfter_2 (fun H locs hP hS => ?_)
    refine lv_astore_n (lv' := [(3, .ref (ad 24)), (0, .ref (ad 48)), (1, .int a0), (2, .int a1)]) hx hb dX5_roomAfter_5 rfl hl (by decide) rfl (fun ls hl => ?_)
    refine lv_aload_n hx hb dX5_roomAfter_6 rfl (lv_at hl 0 rfl) ?_
    refine lv_iload_n hx hb dX5_roomAfter_7 rfl (lv_at hl 3 rfl) ?_
    rcases bt_e hf with ⟨v4, hv, hf⟩ | ⟨n5, v4, hn, hv, hf⟩
    · refine g_xSv ⟨⟨hx, hb, hml, hown, hB⟩, hK, hi, hA, hAd, hP, hS⟩ hZ (c_X5_needPlayerIn_past hflag hi hv) cal_X5_needPlayerIn kM_X5_220 ⟨Nat.le_trans (Nat.le_of_ble_eq_true rfl) hRf, Nat.le_trans (Nat.le_of_ble_eq_true rfl) hRl⟩ rfl hl.1 (Nat.le_of_ble_eq_true rfl) rfl dX5_roomAfter_8 (fun H locs hP hS => ?_)
      refine lv_aload_n hx hb dX5_roomAfter_11 rfl (lv_at hl 0 rfl) ?_
      refine g_get (v := .ref (ad 32)) hx hb hB hown hK hP 24 (by decide) rfl rfl kU_X4 1 (by decide) kF_X5_78 rfl rfl dX5_roomAfter_12 ?_
      refine g_get (v := .ref (ad 33)) hx hb hB hown hK hP 32 (by decide) rfl rfl kU_X1 1 (by decide) kF_X5_121 rfl rfl dX5_roomAfter_15 ?_
      refine lv_iload_n hx hb dX5_roomAfter_18 rfl (lv_at hl 3 rfl) ?_
      obtain ⟨hin, hf⟩ := gd_e hf
      refine g_iald hx hb hK hP 33 4 (by decide) rfl hin dX5_roomAfter_19 ?_
      obtain ⟨h0, h1, h2⟩ := rt3 hf
      rw [hQ0 h0.symm]
      exact g_iret hx hb hr hlocks hP hS h1 h2 dX5_roomAfter_20
    · obtain ⟨h0, -, h2⟩ := rt3 hf
      have hne : ¬ ex = 0 := fun q => hn (h0.trans q)
      rw [hQ1 hne]
      refine g_xSx ⟨⟨hx, hb, hml, hown, hB⟩, hK, hi, hA, hAd, hP, hS⟩ hZ (c_X5_needPlayerIn_past hflag hi hv) hn cal_X5_needPlayerIn kM_X5_220 ⟨Nat.le_trans (Nat.le_of_ble_eq_true rfl) hRf, Nat.le_trans (Nat.le_of_ble_eq_true rfl) hRl⟩ rfl hl.1 (Nat.le_of_ble_eq_true rfl) rfl dX5_roomAfter_8 (hcell hne) (fun q9 ce H locs hP hS hc1 hc2 hc3 => ?_)
      exact g_xout (hout hne) hlocks hc1 hc2 hc3 h0 h2 hP hS
  · obtain ⟨h0, -, h2⟩ := rt3 hf
    have hne : ¬ ex = 0 := fun q => hn (h0.trans q)
    rw [hQ1 hne]
    refine g_xVx (k0 := 48) ⟨⟨hx, hb, hml, hown, hB⟩, hK, hi, hA, hAd, hP, hS⟩ hZ (c_X5_worldAfter hflag hi hv) hn cal_X5_worldAfter kM_X5_216 ⟨Nat.le_trans (Nat.le_of_ble_eq_true rfl) hRf, Nat.le_trans (Nat.le_of_ble_eq_true rfl) hRl⟩ (by decide) rfl rfl rfl hl.1 (Nat.le_of_ble_eq_true rfl) rfl dX5_roomAfter_2 (hcell hne) (fun q9 ce H locs hP hS hc1 hc2 hc3 => ?_)
    exact g_xout (hout hne) hlocks hc1 hc2 hc3 h0 h2 hP hS
def f_X5_coinsAfter (σ : Mem) (a0 a1 : Int32) : Option (Nat × Int32 × Mem) :=
bt3 (f_X5_worldAfter σ a0) (fun n2 σ3 => some (n2, 0, σ3)) fun v1 σ3 =>
bt (f_X5_needPlayerIn_past σ3 a1) (fun n5 => some (n5, 0, σ3)) fun v4 =>
gd a1 4 <|
some (0, (σ3 34 a1.toNatClampNeg), σ3)
set_option maxHeartbeats 4000000 in
set_option maxRecDepth 100000 in
theorem c_X5_coinsAfter {l : Launch} {D : va_G} {cI cJ : ClassId} {ad : Nat → Nat} {σ : Mem} {a0 a1 : Int32} {ex : Nat} {r : Int32} {σr : Mem} (hflag : l.stackTraces = false) (hi : injG 51 ad) (hf : f_X5_coinsAfter σ a0 a1 = some (ex, r, σr)) : MGx l yX5_coinsAfter (Cond.code yX5_coinsAfter cX5_coinsAfter 4 (some .int) :: BIG) 7 152 D cI cJ 51 ad (EX ad cI) [.ref (ad 48), .int a0, .int a1] σ σr ex (fun sz => Qgi D 51 ad (EX ad cI) r σr sz) := by
  refine MGx.ofW (cc := cX5_coinsAfter) (nL := 4) (ret := (some .int)) (by decide) rfl hi ?_
  intro p e R s m args below meth c Q hx hb hr hml hlocks hown hB hK hZ hP hA hAd hS hRf hRl hcell hout hQ0 hQ1
  have hown : s.vm.findClass RX5 = some m.cls := hown
  have hl := lv_entry ([.ref (ad 48), .int a0, .int a1] : List Value) (n := 4) (Nat.le_of_ble_eq_true rfl)
  rw [lg_entry_eq]
  generalize (lg_sl ([.ref (ad 48), .int a0, .int a1] : List Value) ++ List.replicate (4 - (lg_sl ([.ref (ad 48), .int a0, .int a1] : List Value)).length) Slot.unset).toArray = ls at hl ⊢
  have hl : lv_has ls 4 [(0, .ref (ad 48)), (1, .int a0), (2, .int a1)] := hl
  unfold f_X5_coinsAfter at hf
  refine lv_aload_n hx hb dX5_coinsAfter_0 rfl (lv_at hl 0 rfl) ?_
  refine lv_iload_n hx hb dX5_coinsAfter_1 rfl (lv_at hl 1 rfl) ?_
  rcases bt3_e hf with ⟨v1, σ3, hv, hf⟩ | ⟨n2, σ3, hn, ⟨_, hv⟩, hf⟩
  · refine g_xVr (k0 := 48) ⟨⟨hx, hb, hml, hown, hB⟩, hK, hi, hA, hAd, hP, hS⟩ hZ (c_X5_worldAfter hflag hi hv) cal_X5_worldAfter kM_X5_216 ⟨Nat.le_trans (Nat.le_of_ble_eq_true rfl) hRf, Nat.le_trans (Nat.le_of_ble_eq_true rfl) hRl⟩ (by decide) rfl rfl rfl hl.1 (Nat.le_of_ble_eq_true rfl) rfl dX5_coinsAfter_2 (fun H locs hP hS => ?_)
    refine lv_astore_n (lv' := [(3, .ref (ad 24)), (0, .ref (ad 48)), (1, .int a0), (2, .int a1)]) hx hb dX5_coinsAfter_5 rfl hl (by decide) rfl (fun ls hl => ?_)
    refine lv_aload_n hx hb dX5_coinsAfter_6 rfl (lv_at hl 0 rfl) ?_
    refine lv_iload_n hx hb dX5_coinsAfter_7 rfl (lv_at hl 3 rfl) ?_
    rcases bt_e hf with ⟨v4, hv, hf⟩ | ⟨n5, v4, hn, hv, hf⟩
    · refine g_xSv ⟨⟨hx, hb, hml, hown, hB⟩, hK, hi, hA, hAd, hP, hS⟩ hZ (c_X5_needPlayerIn_past hflag hi hv) cal_X5_needPlayerIn kM_X5_220 ⟨Nat.le_trans (Nat.le_of_ble_eq_true rfl) hRf, Nat.le_trans (Nat.le_of_ble_eq_true rfl) hRl⟩ rfl hl.1 (Nat.le_of_ble_eq_true rfl) rfl dX5_coinsAfter_8 (fun H locs hP hS => ?_)
      refine lv_aload_n hx hb dX5_coinsAfter_11 rfl (lv_at hl 0 rfl) ?_
      refine g_get (v := .ref (ad 32)) hx hb hB hown hK hP 24 (by decide) rfl rfl kU_X4 1 (by decide) kF_X5_78 rfl rfl dX5_coinsAfter_12 ?_
      refine g_get (v := .ref (ad 34)) hx hb hB hown hK hP 32 (by decide) rfl rfl kU_X1 2 (by decide) kF_X5_147 rfl rfl dX5_coinsAfter_15 ?_
      refine lv_iload_n hx hb dX5_coinsAfter_18 rfl (lv_at hl 3 rfl) ?_
      obtain ⟨hin, hf⟩ := gd_e hf
      refine g_iald hx hb hK hP 34 4 (by decide) rfl hin dX5_coinsAfter_19 ?_
      obtain ⟨h0, h1, h2⟩ := rt3 hf
      rw [hQ0 h0.symm]
      exact g_iret hx hb hr hlocks hP hS h1 h2 dX5_coinsAfter_20
    · obtain ⟨h0, -, h2⟩ := rt3 hf
      have hne : ¬ ex = 0 := fun q => hn (h0.trans q)
      rw [hQ1 hne]
      refine g_xSx ⟨⟨hx, hb, hml, hown, hB⟩, hK, hi, hA, hAd, hP, hS⟩ hZ (c_X5_needPlayerIn_past hflag hi hv) hn cal_X5_needPlayerIn kM_X5_220 ⟨Nat.le_trans (Nat.le_of_ble_eq_true rfl) hRf, Nat.le_trans (Nat.le_of_ble_eq_true rfl) hRl⟩ rfl hl.1 (Nat.le_of_ble_eq_true rfl) rfl dX5_coinsAfter_8 (hcell hne) (fun q9 ce H locs hP hS hc1 hc2 hc3 => ?_)
      exact g_xout (hout hne) hlocks hc1 hc2 hc3 h0 h2 hP hS
  · obtain ⟨h0, -, h2⟩ := rt3 hf
    have hne : ¬ ex = 0 := fun q => hn (h0.trans q)
    rw [hQ1 hne]
    refine g_xVx (k0 := 48) ⟨⟨hx, hb, hml, hown, hB⟩, hK, hi, hA, hAd, hP, hS⟩ hZ (c_X5_worldAfter hflag hi hv) hn cal_X5_worldAfter kM_X5_216 ⟨Nat.le_trans (Nat.le_of_ble_eq_true rfl) hRf, Nat.le_trans (Nat.le_of_ble_eq_true rfl) hRl⟩ (by decide) rfl rfl rfl hl.1 (Nat.le_of_ble_eq_true rfl) rfl dX5_coinsAfter_2 (hcell hne) (fun q9 ce H locs hP hS hc1 hc2 hc3 => ?_)
    exact g_xout (hout hne) hlocks hc1 hc2 hc3 h0 h2 hP hS
def f_X5_turnAfter (σ : Mem) (a0 : Int32) : Option (Nat × Int32 × Mem) :=
bt3 (f_X5_worldAfter σ a0) (fun n2 σ3 => some (n2, 0, σ3)) fun v1 σ3 =>
bd (f_X1_next (sh σ3)) fun v4 =>
some (0, v4, σ3)
set_option maxHeartbeats 4000000 in
set_option maxRecDepth 100000 in
theorem c_X5_turnAfter {l : Launch} {D : va_G} {cI cJ : ClassId} {ad : Nat → Nat} {σ : Mem} {a0 : Int32} {ex : Nat} {r : Int32} {σr : Mem} (hflag : l.stackTraces = false) (hi : injG 51 ad) (hf : f_X5_turnAfter σ a0 = some (ex, r, σr)) : MGx l yX5_turnAfter (Cond.code yX5_turnAfter cX5_turnAfter 2 (some .int) :: BIG) 7 152 D cI cJ 51 ad (EX ad cI) [.ref (ad 48), .int a0] σ σr ex (fun sz => Qgi D 51 ad (EX ad cI) r σr sz) := by
  refine MGx.ofW (cc := cX5_turnAfter) (nL := 2) (ret := (some .int)) (by decide) rfl hi ?_
  intro p e R s m args below meth c Q hx hb hr hml hlocks hown hB hK hZ hP hA hAd hS hRf hRl hcell hout hQ0 hQ1
  have hown : s.vm.findClass RX5 = some m.cls := hown
  have hl := lv_entry ([.ref (ad 48), .int a0] : List Value) (n := 2) (Nat.le_of_ble_eq_true rfl)
  rw [lg_entry_eq]
  generalize (lg_sl ([.ref (ad 48), .int a0] : List Value) ++ List.replicate (2 - (lg_sl ([.ref (ad 48), .int a0] : List Value)).length) Slot.unset).toArray = ls at hl ⊢
  have hl : lv_has ls 2 [(0, .ref (ad 48)), (1, .int a0)] := hl
  unfold f_X5_turnAfter at hf
  refine lv_aload_n hx hb dX5_turnAfter_0 rfl (lv_at hl 0 rfl) ?_
  refine lv_iload_n hx hb dX5_turnAfter_1 rfl (lv_at hl 1 rfl) ?_
  rcases bt3_e hf with ⟨v1, σ3, hv, hf⟩ | ⟨n2, σ3, hn, ⟨_, hv⟩, hf⟩
  · refine g_xVr (k0 := 48) ⟨⟨hx, hb, hml, hown, hB⟩, hK, hi, hA, hAd, hP, hS⟩ hZ (c_X5_worldAfter hflag hi hv) cal_X5_worldAfter kM_X5_216 ⟨Nat.le_trans (Nat.le_of_ble_eq_true rfl) hRf, Nat.le_trans (Nat.le_of_ble_eq_true rfl) hRl⟩ (by decide) rfl rfl rfl hl.1 (Nat.le_of_ble_eq_true rfl) rfl dX5_turnAfter_2 (fun H locs hP hS => ?_)
    refine g_get (v := .ref (ad 32)) hx hb hB hown hK hP 24 (by decide) rfl rfl kU_X4 1 (by decide) kF_X5_78 rfl rfl dX5_turnAfter_5 ?_
    obtain ⟨v4, hv, hf⟩ := bd_e hf
    refine g_cVi (τ := σ3) ⟨⟨hx, hb, hml, hown, hB⟩, hK, hi, hA, hAd, hP, hS⟩ sub_past (c_X1_next (hi_past hi) hv) (fun _ _ => rfl) cal_X1_next kM_X5_170 ⟨Nat.le_trans (Nat.le_of_ble_eq_true rfl) hRf, Nat.le_trans (Nat.le_of_ble_eq_true rfl) hRl⟩ 8 (by decide) rfl rfl rfl rfl hl.1 (Nat.le_of_ble_eq_true rfl) rfl dX5_turnAfter_8 ⟨Nat.zero_le _, Nat.zero_le _⟩ (fun _ _ => rfl) (fun _ _ _ => rfl) (fun H locs hP hS => ?_)
    obtain ⟨h0, h1, h2⟩ := rt3 hf
    rw [hQ0 h0.symm]
    exact g_iret hx hb hr hlocks hP hS h1 h2 dX5_turnAfter_11
  · obtain ⟨h0, -, h2⟩ := rt3 hf
    have hne : ¬ ex = 0 := fun q => hn (h0.trans q)
    rw [hQ1 hne]
    refine g_xVx (k0 := 48) ⟨⟨hx, hb, hml, hown, hB⟩, hK, hi, hA, hAd, hP, hS⟩ hZ (c_X5_worldAfter hflag hi hv) hn cal_X5_worldAfter kM_X5_216 ⟨Nat.le_trans (Nat.le_of_ble_eq_true rfl) hRf, Nat.le_trans (Nat.le_of_ble_eq_true rfl) hRl⟩ (by decide) rfl rfl rfl hl.1 (Nat.le_of_ble_eq_true rfl) rfl dX5_turnAfter_2 (hcell hne) (fun q9 ce H locs hP hS hc1 hc2 hc3 => ?_)
    exact g_xout (hout hne) hlocks hc1 hc2 hc3 h0 h2 hP hS
