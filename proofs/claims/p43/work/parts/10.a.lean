def f_X5_opposite (a0 : Int32) : Option (Int32) :=
some (jrem (a0 + 2) 4)
set_option maxHeartbeats 4000000 in
set_option maxRecDepth 100000 in
theorem c_X5_opposite {l : Launch} {D : va_G} {cI cJ : ClassId} {ad : Nat → Nat} {E : Ent} {σ : Mem} {a0 : Int32} {r : Int32}  (hf : f_X5_opposite a0 = some r) : MGi l yX5_opposite (Cond.code yX5_opposite cX5_opposite 1 (some .int) :: BIG) 0 0 D cI cJ 0 ad E [.int a0] σ σ r := by
  refine MGi.ofW (cc := cX5_opposite) (nL := 1) (ret := (some .int)) (by decide) rfl (fun i j h => absurd h (Nat.not_lt_zero i)) ?_
  intro p e s m args below meth c hx hb hr hml hlocks hown hB hK hP hA hAd hS
  have hown : s.vm.findClass RX5 = some m.cls := hown
  have hi : injG 0 ad := fun i j h => absurd h (Nat.not_lt_zero i)
  have hl := lv_entry ([.int a0] : List Value) (n := 1) (Nat.le_of_ble_eq_true rfl)
  rw [lg_entry_eq]
  generalize (lg_sl ([.int a0] : List Value) ++ List.replicate (1 - (lg_sl ([.int a0] : List Value)).length) Slot.unset).toArray = ls at hl ⊢
  have hl : lv_has ls 1 [(0, .int a0)] := hl
  generalize hQ : MQ below (Qgi D 0 ad E r σ s.heap.size) _ s 0 0 (AG 0 ad s.heap.size) = Q
  have hQ := hQ.symm
  obtain ⟨R, hR, hRf, hRl⟩ : ∃ R : Room, R = ({ frames := 0, cells := 0, slots := 0, locals := 0 } : Room) ∧ 0 ≤ R.frames ∧ 0 ≤ R.locals := ⟨_, rfl, Nat.le_refl _, Nat.le_refl _⟩
  rw [← hR]
  unfold f_X5_opposite at hf
  refine lv_iload_n hx hb dX5_opposite_0 rfl (lv_at hl 0 rfl) ?_
  refine lv_iconst (v := 2) hx hb dX5_opposite_1 (by decide) ?_
  refine lv_iadd hx hb dX5_opposite_2 ?_
  refine lv_iconst (v := 4) hx hb dX5_opposite_3 (by decide) ?_
  refine lv_irem hx hb dX5_opposite_4 (by decide) ?_
  have h1 := rt1 hf
  rw [hQ]
  exact g_iret hx hb hr hlocks hP hS h1 rfl dX5_opposite_5
def f_X5_goodsAt (a0 a1 : Int32) : Option (Int32) :=
some ((a0 * 5) + a1)
set_option maxHeartbeats 4000000 in
set_option maxRecDepth 100000 in
theorem c_X5_goodsAt {l : Launch} {D : va_G} {cI cJ : ClassId} {ad : Nat → Nat} {E : Ent} {σ : Mem} {a0 a1 : Int32} {r : Int32}  (hf : f_X5_goodsAt a0 a1 = some r) : MGi l yX5_goodsAt (Cond.code yX5_goodsAt cX5_goodsAt 2 (some .int) :: BIG) 0 0 D cI cJ 0 ad E [.int a0, .int a1] σ σ r := by
  refine MGi.ofW (cc := cX5_goodsAt) (nL := 2) (ret := (some .int)) (by decide) rfl (fun i j h => absurd h (Nat.not_lt_zero i)) ?_
  intro p e s m args below meth c hx hb hr hml hlocks hown hB hK hP hA hAd hS
  have hown : s.vm.findClass RX5 = some m.cls := hown
  have hi : injG 0 ad := fun i j h => absurd h (Nat.not_lt_zero i)
  have hl := lv_entry ([.int a0, .int a1] : List Value) (n := 2) (Nat.le_of_ble_eq_true rfl)
  rw [lg_entry_eq]
  generalize (lg_sl ([.int a0, .int a1] : List Value) ++ List.replicate (2 - (lg_sl ([.int a0, .int a1] : List Value)).length) Slot.unset).toArray = ls at hl ⊢
  have hl : lv_has ls 2 [(0, .int a0), (1, .int a1)] := hl
  generalize hQ : MQ below (Qgi D 0 ad E r σ s.heap.size) _ s 0 0 (AG 0 ad s.heap.size) = Q
  have hQ := hQ.symm
  obtain ⟨R, hR, hRf, hRl⟩ : ∃ R : Room, R = ({ frames := 0, cells := 0, slots := 0, locals := 0 } : Room) ∧ 0 ≤ R.frames ∧ 0 ≤ R.locals := ⟨_, rfl, Nat.le_refl _, Nat.le_refl _⟩
  rw [← hR]
  unfold f_X5_goodsAt at hf
  refine lv_iload_n hx hb dX5_goodsAt_0 rfl (lv_at hl 0 rfl) ?_
  refine lv_iconst (v := 5) hx hb dX5_goodsAt_1 (by decide) ?_
  refine lv_imul hx hb dX5_goodsAt_2 ?_
  refine lv_iload_n hx hb dX5_goodsAt_3 rfl (lv_at hl 1 rfl) ?_
  refine lv_iadd hx hb dX5_goodsAt_4 ?_
  have h1 := rt1 hf
  rw [hQ]
  exact g_iret hx hb hr hlocks hP hS h1 rfl dX5_goodsAt_5
def f_X5_reachedAt (a0 a1 : Int32) : Option (Int32) :=
some ((a0 * 3) + a1)
set_option maxHeartbeats 4000000 in
set_option maxRecDepth 100000 in
theorem c_X5_reachedAt {l : Launch} {D : va_G} {cI cJ : ClassId} {ad : Nat → Nat} {E : Ent} {σ : Mem} {a0 a1 : Int32} {r : Int32}  (hf : f_X5_reachedAt a0 a1 = some r) : MGi l yX5_reachedAt (Cond.code yX5_reachedAt cX5_reachedAt 2 (some .int) :: BIG) 0 0 D cI cJ 0 ad E [.int a0, .int a1] σ σ r := by
  refine MGi.ofW (cc := cX5_reachedAt) (nL := 2) (ret := (some .int)) (by decide) rfl (fun i j h => absurd h (Nat.not_lt_zero i)) ?_
  intro p e s m args below meth c hx hb hr hml hlocks hown hB hK hP hA hAd hS
  have hown : s.vm.findClass RX5 = some m.cls := hown
  have hi : injG 0 ad := fun i j h => absurd h (Nat.not_lt_zero i)
  have hl := lv_entry ([.int a0, .int a1] : List Value) (n := 2) (Nat.le_of_ble_eq_true rfl)
  rw [lg_entry_eq]
  generalize (lg_sl ([.int a0, .int a1] : List Value) ++ List.replicate (2 - (lg_sl ([.int a0, .int a1] : List Value)).length) Slot.unset).toArray = ls at hl ⊢
  have hl : lv_has ls 2 [(0, .int a0), (1, .int a1)] := hl
  generalize hQ : MQ below (Qgi D 0 ad E r σ s.heap.size) _ s 0 0 (AG 0 ad s.heap.size) = Q
  have hQ := hQ.symm
  obtain ⟨R, hR, hRf, hRl⟩ : ∃ R : Room, R = ({ frames := 0, cells := 0, slots := 0, locals := 0 } : Room) ∧ 0 ≤ R.frames ∧ 0 ≤ R.locals := ⟨_, rfl, Nat.le_refl _, Nat.le_refl _⟩
  rw [← hR]
  unfold f_X5_reachedAt at hf
  refine lv_iload_n hx hb dX5_reachedAt_0 rfl (lv_at hl 0 rfl) ?_
  refine lv_iconst (v := 3) hx hb dX5_reachedAt_1 (by decide) ?_
  refine lv_imul hx hb dX5_reachedAt_2 ?_
  refine lv_iload_n hx hb dX5_reachedAt_3 rfl (lv_at hl 1 rfl) ?_
  refine lv_iadd hx hb dX5_reachedAt_4 ?_
  have h1 := rt1 hf
  rw [hQ]
  exact g_iret hx hb hr hlocks hP hS h1 rfl dX5_reachedAt_5
def f_X5_stageAt (a0 a1 : Int32) : Option (Int32) :=
some ((a0 * 4) + a1)
set_option maxHeartbeats 4000000 in
set_option maxRecDepth 100000 in
theorem c_X5_stageAt {l : Launch} {D : va_G} {cI cJ : ClassId} {ad : Nat → Nat} {E : Ent} {σ : Mem} {a0 a1 : Int32} {r : Int32}  (hf : f_X5_stageAt a0 a1 = some r) : MGi l yX5_stageAt (Cond.code yX5_stageAt cX5_stageAt 2 (some .int) :: BIG) 0 0 D cI cJ 0 ad E [.int a0, .int a1] σ σ r := by
  refine MGi.ofW (cc := cX5_stageAt) (nL := 2) (ret := (some .int)) (by decide) rfl (fun i j h => absurd h (Nat.not_lt_zero i)) ?_
  intro p e s m args below meth c hx hb hr hml hlocks hown hB hK hP hA hAd hS
  have hown : s.vm.findClass RX5 = some m.cls := hown
  have hi : injG 0 ad := fun i j h => absurd h (Nat.not_lt_zero i)
  have hl := lv_entry ([.int a0, .int a1] : List Value) (n := 2) (Nat.le_of_ble_eq_true rfl)
  rw [lg_entry_eq]
  generalize (lg_sl ([.int a0, .int a1] : List Value) ++ List.replicate (2 - (lg_sl ([.int a0, .int a1] : List Value)).length) Slot.unset).toArray = ls at hl ⊢
  have hl : lv_has ls 2 [(0, .int a0), (1, .int a1)] := hl
  generalize hQ : MQ below (Qgi D 0 ad E r σ s.heap.size) _ s 0 0 (AG 0 ad s.heap.size) = Q
  have hQ := hQ.symm
  obtain ⟨R, hR, hRf, hRl⟩ : ∃ R : Room, R = ({ frames := 0, cells := 0, slots := 0, locals := 0 } : Room) ∧ 0 ≤ R.frames ∧ 0 ≤ R.locals := ⟨_, rfl, Nat.le_refl _, Nat.le_refl _⟩
  rw [← hR]
  unfold f_X5_stageAt at hf
  refine lv_iload_n hx hb dX5_stageAt_0 rfl (lv_at hl 0 rfl) ?_
  refine lv_iconst (v := 4) hx hb dX5_stageAt_1 (by decide) ?_
  refine lv_imul hx hb dX5_stageAt_2 ?_
  refine lv_iload_n hx hb dX5_stageAt_3 rfl (lv_at hl 1 rfl) ?_
  refine lv_iadd hx hb dX5_stageAt_4 ?_
  have h1 := rt1 hf
  rw [hQ]
  exact g_iret hx hb hr hlocks hP hS h1 rfl dX5_stageAt_5
def f_X1_clear (σ : Mem) : Option (Mem) :=
stp (mu σ 8 0 0) fun σ1 =>
stp (fl σ1 14 20 0) fun σ2 =>
stp (fl σ2 15 12 0) fun σ3 =>
stp (fl σ3 17 4 0) fun σ4 =>
some σ4
set_option maxHeartbeats 4000000 in
set_option maxRecDepth 100000 in
theorem c_X1_clear {l : Launch} {D : va_G} {cI cJ : ClassId} {ad : Nat → Nat} {σ : Mem} {σr : Mem}  (hi : injG 24 ad) (hf : f_X1_clear σ = some σr) : MGv l yX1_clear (Cond.code yX1_clear cX1_clear 1 none :: BIG) 1 23 D cI cJ 24 ad (EW ad cI) [.ref (ad 8)] σ σr := by
  refine MGv.ofW (cc := cX1_clear) (nL := 1) (ret := none) (by decide) rfl hi ?_
  intro p e s m args below meth c hx hb hr hml hlocks hown hB hK hP hA hAd hS
  have hown : s.vm.findClass RX1 = some m.cls := hown
  have hl := lv_entry ([.ref (ad 8)] : List Value) (n := 1) (Nat.le_of_ble_eq_true rfl)
  rw [lg_entry_eq]
  generalize (lg_sl ([.ref (ad 8)] : List Value) ++ List.replicate (1 - (lg_sl ([.ref (ad 8)] : List Value)).length) Slot.unset).toArray = ls at hl ⊢
  have hl : lv_has ls 1 [(0, .ref (ad 8))] := hl
  generalize hQ : MQ below (Qgv D 24 ad (EW ad cI) σr s.heap.size) _ s 0 0 (AG 24 ad s.heap.size) = Q
  have hQ := hQ.symm
  obtain ⟨R, hR, hRf, hRl⟩ : ∃ R : Room, R = ({ frames := 1, cells := 0, slots := 0, locals := 23 } : Room) ∧ 1 ≤ R.frames ∧ 23 ≤ R.locals := ⟨_, rfl, Nat.le_refl _, Nat.le_refl _⟩
  rw [← hR]
  unfold f_X1_clear at hf
  refine lv_aload_n hx hb dX1_clear_0 rfl (lv_at hl 0 rfl) ?_
  refine lv_iconst (v := 0) hx hb dX1_clear_1 (by decide) ?_
  obtain ⟨σ1, eσ1, hf⟩ := stp_e hf
  refine g_put (σ1 := σ1) hx hb hB hown hK hP hi hAd hS 8 (by decide) (fun f => [.int (f 0), .ref (ad 9), .ref (ad 10), .ref (ad 11), .ref (ad 12), .ref (ad 13), .ref (ad 14), .ref (ad 15), .ref (ad 16), .ref (ad 17)]) (fun _ => rfl) rfl kU_X1 tyX1 tyX1_ok nmX1 0 (by decide) kF_X1_9 rfl (fun _ _ => rfl) (fun _ => Nat.le_of_ble_eq_true rfl) dX1_clear_2 eσ1 (fun H locs hP hS => ?_)
  refine lv_aload_n hx hb dX1_clear_5 rfl (lv_at hl 0 rfl) ?_
  refine g_get (v := .ref (ad 14)) hx hb hB hown hK hP 8 (by decide) rfl rfl kU_X1 6 (by decide) kF_X1_31 rfl rfl dX1_clear_6 ?_
  refine lv_iconst (v := 0) hx hb dX1_clear_9 (by decide) ?_
  obtain ⟨σ2, eσ2, hf⟩ := stp_e hf
  refine g_fill (τ := σ2) ⟨⟨hx, hb, hml, hown, hB⟩, hK, hi, hA, hAd, hP, hS⟩ 14 20 (by decide) (by decide) (fun _ => rfl) kM_X1_43 hRf hRl hl.1 rfl dX1_clear_10 eσ2 (fun H locs hP hS => ?_)
  refine lv_aload_n hx hb dX1_clear_13 rfl (lv_at hl 0 rfl) ?_
  refine g_get (v := .ref (ad 15)) hx hb hB hown hK hP 8 (by decide) rfl rfl kU_X1 7 (by decide) kF_X1_34 rfl rfl dX1_clear_14 ?_
  refine lv_iconst (v := 0) hx hb dX1_clear_17 (by decide) ?_
  obtain ⟨σ3, eσ3, hf⟩ := stp_e hf
  refine g_fill (τ := σ3) ⟨⟨hx, hb, hml, hown, hB⟩, hK, hi, hA, hAd, hP, hS⟩ 15 12 (by decide) (by decide) (fun _ => rfl) kM_X1_43 hRf hRl hl.1 rfl dX1_clear_18 eσ3 (fun H locs hP hS => ?_)
  refine lv_aload_n hx hb dX1_clear_21 rfl (lv_at hl 0 rfl) ?_
  refine g_get (v := .ref (ad 17)) hx hb hB hown hK hP 8 (by decide) rfl rfl kU_X1 9 (by decide) kF_X1_40 rfl rfl dX1_clear_22 ?_
  refine lv_iconst (v := 0) hx hb dX1_clear_25 (by decide) ?_
  obtain ⟨σ4, eσ4, hf⟩ := stp_e hf
  refine g_fill (τ := σ4) ⟨⟨hx, hb, hml, hown, hB⟩, hK, hi, hA, hAd, hP, hS⟩ 17 4 (by decide) (by decide) (fun _ => rfl) kM_X1_43 hRf hRl hl.1 rfl dX1_clear_26 eσ4 (fun H locs hP hS => ?_)
  have h2 := rt1 hf
  rw [hQ]
  exact g_vret hx hb hr hlocks hP hS h2 dX1_clear_29
def f_X1_add (σ : Mem) (a0 a1 a2 : Int32) : Option (Int32 × Mem) :=
gd (σ 8 0) 4 <| stp (mu σ 9 (σ 8 0).toNatClampNeg a0) fun σ1 =>
gd (σ 8 0) 4 <| stp (mu σ1 10 (σ 8 0).toNatClampNeg a1) fun σ2 =>
gd (σ 8 0) 4 <| stp (mu σ2 11 (σ 8 0).toNatClampNeg a2) fun σ3 =>
gd (σ 8 0) 4 <| stp (mu σ3 12 (σ 8 0).toNatClampNeg 20) fun σ4 =>
gd (σ 8 0) 4 <| stp (mu σ4 13 (σ 8 0).toNatClampNeg 0) fun σ5 =>
stp (mu σ5 8 0 ((σ5 8 0) + 1)) fun σ6 =>
some ((σ 8 0), σ6)
set_option maxHeartbeats 4000000 in
set_option maxRecDepth 100000 in
theorem c_X1_add {l : Launch} {D : va_G} {cI cJ : ClassId} {ad : Nat → Nat} {σ : Mem} {a0 a1 a2 : Int32} {r : Int32} {σr : Mem}  (hi : injG 24 ad) (hf : f_X1_add σ a0 a1 a2 = some (r, σr)) : MGi l yX1_add (Cond.code yX1_add cX1_add 5 (some .int) :: BIG) 0 0 D cI cJ 24 ad (EW ad cI) [.ref (ad 8), .int a0, .int a1, .int a2] σ σr r := by
  refine MGi.ofW (cc := cX1_add) (nL := 5) (ret := (some .int)) (by decide) rfl hi ?_
  intro p e s m args below meth c hx hb hr hml hlocks hown hB hK hP hA hAd hS
  have hown : s.vm.findClass RX1 = some m.cls := hown
  have hl := lv_entry ([.ref (ad 8), .int a0, .int a1, .int a2] : List Value) (n := 5) (Nat.le_of_ble_eq_true rfl)
  rw [lg_entry_eq]
  generalize (lg_sl ([.ref (ad 8), .int a0, .int a1, .int a2] : List Value) ++ List.replicate (5 - (lg_sl ([.ref (ad 8), .int a0, .int a1, .int a2] : List Value)).length) Slot.unset).toArray = ls at hl ⊢
  have hl : lv_has ls 5 [(0, .ref (ad 8)), (1, .int a0), (2, .int a1), (3, .int a2)] := hl
  generalize hQ : MQ below (Qgi D 24 ad (EW ad cI) r σr s.heap.size) _ s 0 0 (AG 24 ad s.heap.size) = Q
  have hQ := hQ.symm
  obtain ⟨R, hR, hRf, hRl⟩ : ∃ R : Room, R = ({ frames := 0, cells := 0, slots := 0, locals := 0 } : Room) ∧ 0 ≤ R.frames ∧ 0 ≤ R.locals := ⟨_, rfl, Nat.le_refl _, Nat.le_refl _⟩
  rw [← hR]
  unfold f_X1_add at hf
  refine lv_aload_n hx hb dX1_add_0 rfl (lv_at hl 0 rfl) ?_
  refine g_get (v := .int (σ 8 0)) hx hb hB hown hK hP 8 (by decide) rfl rfl kU_X1 0 (by decide) kF_X1_9 rfl rfl dX1_add_1 ?_
  refine lv_istore (lv' := [(4, .int (σ 8 0)), (0, .ref (ad 8)), (1, .int a0), (2, .int a1), (3, .int a2)]) hx hb dX1_add_4 hl (by decide) rfl (fun ls hl => ?_)
  refine lv_aload_n hx hb dX1_add_6 rfl (lv_at hl 1 rfl) ?_
  refine g_get (v := .ref (ad 9)) hx hb hB hown hK hP 8 (by decide) rfl rfl kU_X1 1 (by decide) kF_X1_15 rfl rfl dX1_add_7 ?_
  refine lv_iload hx hb dX1_add_10 (lv_at hl 0 rfl) ?_
  refine lv_iload_n hx hb dX1_add_12 rfl (lv_at hl 2 rfl) ?_
  obtain ⟨hin, hf⟩ := gd_e hf
  obtain ⟨σ1, eσ1, hf⟩ := stp_e hf
  refine g_iast (σ1 := σ1) hx hb hK hP hi hAd hS 9 4 (by decide) (fun _ => rfl) hin dX1_add_13 eσ1 (fun H locs hP hS => ?_)
  refine lv_aload_n hx hb dX1_add_14 rfl (lv_at hl 1 rfl) ?_
  refine g_get (v := .ref (ad 10)) hx hb hB hown hK hP 8 (by decide) rfl rfl kU_X1 2 (by decide) kF_X1_19 rfl rfl dX1_add_15 ?_
  refine lv_iload hx hb dX1_add_18 (lv_at hl 0 rfl) ?_
  refine lv_iload_n hx hb dX1_add_20 rfl (lv_at hl 3 rfl) ?_
  obtain ⟨hin, hf⟩ := gd_e hf
  obtain ⟨σ2, eσ2, hf⟩ := stp_e hf
  refine g_iast (σ1 := σ2) hx hb hK hP hi hAd hS 10 4 (by decide) (fun _ => rfl) hin dX1_add_21 eσ2 (fun H locs hP hS => ?_)
  refine lv_aload_n hx hb dX1_add_22 rfl (lv_at hl 1 rfl) ?_
  refine g_get (v := .ref (ad 11)) hx hb hB hown hK hP 8 (by decide) rfl rfl kU_X1 3 (by decide) kF_X1_22 rfl rfl dX1_add_23 ?_
  refine lv_iload hx hb dX1_add_26 (lv_at hl 0 rfl) ?_
  refine lv_iload_n hx hb dX1_add_28 rfl (lv_at hl 4 rfl) ?_
  obtain ⟨hin, hf⟩ := gd_e hf
  obtain ⟨σ3, eσ3, hf⟩ := stp_e hf
  refine g_iast (σ1 := σ3) hx hb hK hP hi hAd hS 11 4 (by decide) (fun _ => rfl) hin dX1_add_29 eσ3 (fun H locs hP hS => ?_)
  refine lv_aload_n hx hb dX1_add_30 rfl (lv_at hl 1 rfl) ?_
  refine g_get (v := .ref (ad 12)) hx hb hB hown hK hP 8 (by decide) rfl rfl kU_X1 4 (by decide) kF_X1_25 rfl rfl dX1_add_31 ?_
  refine lv_iload hx hb dX1_add_34 (lv_at hl 0 rfl) ?_
  refine lv_bipush (v := 20) hx hb dX1_add_36 (by decide) ?_
  obtain ⟨hin, hf⟩ := gd_e hf
  obtain ⟨σ4, eσ4, hf⟩ := stp_e hf
  refine g_iast (σ1 := σ4) hx hb hK hP hi hAd hS 12 4 (by decide) (fun _ => rfl) hin dX1_add_38 eσ4 (fun H locs hP hS => ?_)
  refine lv_aload_n hx hb dX1_add_39 rfl (lv_at hl 1 rfl) ?_
  refine g_get (v := .ref (ad 13)) hx hb hB hown hK hP 8 (by decide) rfl rfl kU_X1 5 (by decide) kF_X1_28 rfl rfl dX1_add_40 ?_
  refine lv_iload hx hb dX1_add_43 (lv_at hl 0 rfl) ?_
  refine lv_iconst (v := 0) hx hb dX1_add_45 (by decide) ?_
  obtain ⟨hin, hf⟩ := gd_e hf
  obtain ⟨σ5, eσ5, hf⟩ := stp_e hf
  refine g_iast (σ1 := σ5) hx hb hK hP hi hAd hS 13 4 (by decide) (fun _ => rfl) hin dX1_add_46 eσ5 (fun H locs hP hS => ?_)
  refine lv_aload_n hx hb dX1_add_47 rfl (lv_at hl 1 rfl) ?_
  refine lv_dup hx hb dX1_add_48 rfl ?_
  refine g_get (v := .int (σ5 8 0)) hx hb hB hown hK hP 8 (by decide) rfl rfl kU_X1 0 (by decide) kF_X1_9 rfl rfl dX1_add_49 ?_
  refine lv_iconst (v := 1) hx hb dX1_add_52 (by decide) ?_
  refine lv_iadd hx hb dX1_add_53 ?_
  obtain ⟨σ6, eσ6, hf⟩ := stp_e hf
  refine g_put (σ1 := σ6) hx hb hB hown hK hP hi hAd hS 8 (by decide) (fun f => [.int (f 0), .ref (ad 9), .ref (ad 10), .ref (ad 11), .ref (ad 12), .ref (ad 13), .ref (ad 14), .ref (ad 15), .ref (ad 16), .ref (ad 17)]) (fun _ => rfl) rfl kU_X1 tyX1 tyX1_ok nmX1 0 (by decide) kF_X1_9 rfl (fun _ _ => rfl) (fun _ => Nat.le_of_ble_eq_true rfl) dX1_add_54 eσ6 (fun H locs hP hS => ?_)
  refine lv_iload hx hb dX1_add_57 (lv_at hl 0 rfl) ?_
  obtain ⟨h1, h2⟩ := rt2 hf
  rw [hQ]
  exact g_iret hx hb hr hlocks hP hS h1 h2 dX1_add_59
def L_X1_next_4 : Nat → (Int32 → Option (Int32)) → Mem → Int32 → Int32 → Option (Int32)
  | 0, _, _, _, _ => none
  | n + 1, k, σ3, x1, x2 =>
    if (σ3 8 0) ≤ x2 then (
    k x1)
    else (
    jn (fun (x7 : Int32) =>
    L_X1_next_4 n k σ3 x7 (x2 + 1)) fun (J8 : Int32 → Option (Int32)) =>
    jn (fun (_ : Unit) =>
    J8 x2) fun (J9 : Unit → Option (Int32)) =>
    if x1 = (-1) then (
    J9 ())
    else (
    gd x2 4 <|
    gd x1 4 <|
    if (σ3 13 x1.toNatClampNeg) ≤ (σ3 13 x2.toNatClampNeg) then (
    J8 x1)
    else (
    J9 ())))
def f_X1_next (σ : Mem) : Option (Int32) :=
L_X1_next_4 FU (fun (x5 : Int32) =>
some x5) σ (-1) 0
set_option maxHeartbeats 4000000 in
set_option maxRecDepth 100000 in
theorem c_X1_next {l : Launch} {D : va_G} {cI cJ : ClassId} {ad : Nat → Nat} {σ : Mem} {r : Int32}  (hi : injG 24 ad) (hf : f_X1_next σ = some r) : MGi l yX1_next (Cond.code yX1_next cX1_next 3 (some .int) :: BIG) 0 0 D cI cJ 24 ad (EW ad cI) [.ref (ad 8)] σ σ r := by
  refine MGi.ofW (cc := cX1_next) (nL := 3) (ret := (some .int)) (by decide) rfl hi ?_
  intro p e s m args below meth c hx hb hr hml hlocks hown hB hK hP hA hAd hS
  have hown : s.vm.findClass RX1 = some m.cls := hown
  have hl := lv_entry ([.ref (ad 8)] : List Value) (n := 3) (Nat.le_of_ble_eq_true rfl)
  rw [lg_entry_eq]
  generalize (lg_sl ([.ref (ad 8)] : List Value) ++ List.replicate (3 - (lg_sl ([.ref (ad 8)] : List Value)).length) Slot.unset).toArray = ls at hl ⊢
  have hl : lv_has ls 3 [(0, .ref (ad 8))] := hl
  generalize hQ : MQ below (Qgi D 24 ad (EW ad cI) r σ s.heap.size) _ s 0 0 (AG 24 ad s.heap.size) = Q
  have hQ := hQ.symm
  obtain ⟨R, hR, hRf, hRl⟩ : ∃ R : Room, R = ({ frames := 0, cells := 0, slots := 0, locals := 0 } : Room) ∧ 0 ≤ R.frames ∧ 0 ≤ R.locals := ⟨_, rfl, Nat.le_refl _, Nat.le_refl _⟩
  rw [← hR]
  unfold f_X1_next at hf
  refine lv_iconst (v := (-1)) hx hb dX1_next_0 (by decide) ?_
  refine lv_istore_n (lv' := [(1, .int (-1)), (0, .ref (ad 8))]) hx hb dX1_next_1 rfl hl (by decide) rfl (fun ls hl => ?_)
  refine lv_iconst (v := 0) hx hb dX1_next_2 (by decide) ?_
  refine lv_istore_n (lv' := [(2, .int 0), (1, .int (-1)), (0, .ref (ad 8))]) hx hb dX1_next_3 rfl hl (by decide) rfl (fun ls hl => ?_)
  obtain ⟨K4, eK4, hf⟩ := lp_e1 (b := fun K => L_X1_next_4 FU K σ (-1) 0) hf
  replace hf : L_X1_next_4 FU K4 σ (-1) 0 = some r := hf
  have hKK4 : ∀ (x5 : Int32) (H : Heap) (locs : List Loc) (ls : Array Slot), K4 x5 = some r → va_P D vwCl (wsG 24 ad (EW ad cI) σ) H → va_S (AG 24 ad s.heap.size) s.heap H locs → lv_has ls 3 [(1, .int x5)] → W p l e R s m args below meth c H locs 0 0 Q (F0 m 40 ls []) := by
    intro x5 H locs ls hf hP hS hl
    rw [eK4] at hf
    refine lv_iload_n hx hb dX1_next_40 rfl (lv_at hl 0 rfl) ?_
    have h1 := rt1 hf
    rw [hQ]
    exact g_iret hx hb hr hlocks hP hS h1 rfl dX1_next_41
  have hL_X1_next_4 : ∀ (n : Nat) (x1 : Int32) (x2 : Int32) (H : Heap) (locs : List Loc) (ls : Array Slot), L_X1_next_4 n K4 σ x1 x2 = some r → va_P D vwCl (wsG 24 ad (EW ad cI) σ) H → va_S (AG 24 ad s.heap.size) s.heap H locs → lv_has ls 3 [(0, .ref (ad 8)), (1, .int x1), (2, .int x2)] → W p l e R s m args below meth c H locs 0 0 Q (F0 m 4 ls []) := by
    intro n
    induction n with
    | zero => intro x1 x2 H locs ls hf; cases hf
    | succ n ih =>
      intro x1 x2 H locs ls hf hP hS hl
      rw [L_X1_next_4] at hf
      refine lv_iload_n hx hb dX1_next_4 rfl (lv_at hl 2 rfl) ?_
      refine lv_aload_n hx hb dX1_next_5 rfl (lv_at hl 0 rfl) ?_
      refine g_get (v := .int (σ 8 0)) hx hb hB hown hK hP 8 (by decide) rfl rfl kU_X1 0 (by decide) kF_X1_9 rfl rfl dX1_next_6 ?_
      refine lv_icmp_ge (tgt := 40) hx hb dX1_next_9 (by decide) (fun q6 => ?_) (fun q6 => ?_)
      · rw [if_pos q6] at hf
        exact hKK4 x1 _ _ ls hf hP hS (lv_sub hl [1] rfl)
      · rw [if_neg q6] at hf
        refine lv_iload_n hx hb dX1_next_12 rfl (lv_at hl 1 rfl) ?_
        refine lv_iconst (v := (-1)) hx hb dX1_next_13 (by decide) ?_
        obtain ⟨J8, eJ8, hf⟩ := jn_e1 hf
        have hJ8 : ∀ (x7 : Int32) (H : Heap) (locs : List Loc) (ls : Array Slot), J8 x7 = some r → va_P D vwCl (wsG 24 ad (EW ad cI) σ) H → va_S (AG 24 ad s.heap.size) s.heap H locs → lv_has ls 3 [(0, .ref (ad 8)), (1, .int x7), (2, .int x2)] → W p l e R s m args below meth c H locs 0 0 Q (F0 m 34 ls []) := by
          intro x7 H locs ls hf hP hS hl
          rw [eJ8] at hf
          refine lv_iinc (v := (x2 + 1)) (lv' := [(2, .int (x2 + 1)), (0, .ref (ad 8)), (1, .int x7)]) hx hb dX1_next_34 hl (k := 2) rfl rfl (by decide) rfl (fun ls hl => ?_)
          refine lv_goto (tgt := 4) hx hb dX1_next_37 (by decide) ?_
          exact ih x7 (x2 + 1) _ _ ls hf hP hS (lv_sub hl [1, 2, 0] rfl)
        obtain ⟨J9, eJ9, hf⟩ := jn_e0 hf
        have hJ9 : ∀ (_ : Unit) (H : Heap) (locs : List Loc) (ls : Array Slot), J9 () = some r → va_P D vwCl (wsG 24 ad (EW ad cI) σ) H → va_S (AG 24 ad s.heap.size) s.heap H locs → lv_has ls 3 [(0, .ref (ad 8)), (2, .int x2)] → W p l e R s m args below meth c H locs 0 0 Q (F0 m 32 ls []) := by
          intro _ H locs ls hf hP hS hl
          rw [eJ9] at hf
          refine lv_iload_n hx hb dX1_next_32 rfl (lv_at hl 1 rfl) ?_
          refine lv_istore_n (lv' := [(1, .int x2), (0, .ref (ad 8)), (2, .int x2)]) hx hb dX1_next_33 rfl hl (by decide) rfl (fun ls hl => ?_)
          exact hJ8 x2 _ _ ls hf hP hS (lv_sub hl [1, 0, 2] rfl)
        refine lv_icmp_eq (tgt := 32) hx hb dX1_next_14 (by decide) (fun q10 => ?_) (fun q10 => ?_)
        · rw [if_pos q10] at hf
          exact hJ9 () _ _ ls hf hP hS (lv_sub hl [0, 2] rfl)
        · rw [if_neg q10] at hf
          refine lv_aload_n hx hb dX1_next_17 rfl (lv_at hl 0 rfl) ?_
          refine g_get (v := .ref (ad 13)) hx hb hB hown hK hP 8 (by decide) rfl rfl kU_X1 5 (by decide) kF_X1_28 rfl rfl dX1_next_18 ?_
          refine lv_iload_n hx hb dX1_next_21 rfl (lv_at hl 2 rfl) ?_
          obtain ⟨hin, hf⟩ := gd_e hf
          refine g_iald hx hb hK hP 13 4 (by decide) rfl hin dX1_next_22 ?_
          refine lv_aload_n hx hb dX1_next_23 rfl (lv_at hl 0 rfl) ?_
          refine g_get (v := .ref (ad 13)) hx hb hB hown hK hP 8 (by decide) rfl rfl kU_X1 5 (by decide) kF_X1_28 rfl rfl dX1_next_24 ?_
          refine lv_iload_n hx hb dX1_next_27 rfl (lv_at hl 1 rfl) ?_
          obtain ⟨hin, hf⟩ := gd_e hf
          refine g_iald hx hb hK hP 13 4 (by decide) rfl hin dX1_next_28 ?_
          refine lv_icmp_ge (tgt := 34) hx hb dX1_next_29 (by decide) (fun q11 => ?_) (fun q11 => ?_)
          · rw [if_pos q11] at hf
            exact hJ8 x1 _ _ ls hf hP hS (lv_sub hl [0, 1, 2] rfl)
          · rw [if_neg q11] at hf
            exact hJ9 () _ _ ls hf hP hS (lv_sub hl [0, 2] rfl)
  exact hL_X1_next_4 FU (-1) 0 _ _ ls hf hP hS (lv_sub hl [2, 1, 0] rfl)
def f_X1_addGoods (σ : Mem) (a0 a1 a2 : Int32) : Option (Int32 × Mem) :=
bd (f_X5_goodsAt a0 a1) fun v1 =>
gd v1 20 <|
gd v1 20 <| stp (mu σ 14 v1.toNatClampNeg ((σ 14 v1.toNatClampNeg) + a2)) fun σ2 =>
gd v1 20 <|
some ((σ2 14 v1.toNatClampNeg), σ2)
set_option maxHeartbeats 4000000 in
set_option maxRecDepth 100000 in
theorem c_X1_addGoods {l : Launch} {D : va_G} {cI cJ : ClassId} {ad : Nat → Nat} {σ : Mem} {a0 a1 a2 : Int32} {r : Int32} {σr : Mem}  (hi : injG 24 ad) (hf : f_X1_addGoods σ a0 a1 a2 = some (r, σr)) : MGi l yX1_addGoods (Cond.code yX1_addGoods cX1_addGoods 5 (some .int) :: BIG) 1 21 D cI cJ 24 ad (EW ad cI) [.ref (ad 8), .int a0, .int a1, .int a2] σ σr r := by
  refine MGi.ofW (cc := cX1_addGoods) (nL := 5) (ret := (some .int)) (by decide) rfl hi ?_
  intro p e s m args below meth c hx hb hr hml hlocks hown hB hK hP hA hAd hS
  have hown : s.vm.findClass RX1 = some m.cls := hown
  have hl := lv_entry ([.ref (ad 8), .int a0, .int a1, .int a2] : List Value) (n := 5) (Nat.le_of_ble_eq_true rfl)
  rw [lg_entry_eq]
  generalize (lg_sl ([.ref (ad 8), .int a0, .int a1, .int a2] : List Value) ++ List.replicate (5 - (lg_sl ([.ref (ad 8), .int a0, .int a1, .int a2] : List Value)).length) Slot.unset).toArray = ls at hl ⊢
  have hl : lv_has ls 5 [(0, .ref (ad 8)), (1, .int a0), (2, .int a1), (3, .int a2)] := hl
  generalize hQ : MQ below (Qgi D 24 ad (EW ad cI) r σr s.heap.size) _ s 0 0 (AG 24 ad s.heap.size) = Q
  have hQ := hQ.symm
  obtain ⟨R, hR, hRf, hRl⟩ : ∃ R : Room, R = ({ frames := 1, cells := 0, slots := 0, locals := 21 } : Room) ∧ 1 ≤ R.frames ∧ 21 ≤ R.locals := ⟨_, rfl, Nat.le_refl _, Nat.le_refl _⟩
  rw [← hR]
  unfold f_X1_addGoods at hf
  refine lv_iload_n hx hb dX1_addGoods_0 rfl (lv_at hl 1 rfl) ?_
  refine lv_iload_n hx hb dX1_addGoods_1 rfl (lv_at hl 2 rfl) ?_
  obtain ⟨v1, hv, hf⟩ := bd_e hf
  refine g_cNi0 ⟨⟨hx, hb, hml, hown, hB⟩, hK, hi, hA, hAd, hP, hS⟩ (c_X5_goodsAt hv) cal_X5_goodsAt kN_X1_49 ⟨Nat.le_trans (Nat.le_of_ble_eq_true rfl) hRf, Nat.le_trans (Nat.le_of_ble_eq_true rfl) hRl⟩ rfl hl.1 (Nat.le_of_ble_eq_true rfl) rfl dX1_addGoods_2 ⟨Nat.zero_le _, Nat.zero_le _⟩ (fun H locs hP hS => ?_)
  refine lv_istore (lv' := [(4, .int v1), (0, .ref (ad 8)), (1, .int a0), (2, .int a1), (3, .int a2)]) hx hb dX1_addGoods_5 hl (by decide) rfl (fun ls hl => ?_)
  refine lv_aload_n hx hb dX1_addGoods_7 rfl (lv_at hl 1 rfl) ?_
  refine g_get (v := .ref (ad 14)) hx hb hB hown hK hP 8 (by decide) rfl rfl kU_X1 6 (by decide) kF_X1_31 rfl rfl dX1_addGoods_8 ?_
  refine lv_iload hx hb dX1_addGoods_11 (lv_at hl 0 rfl) ?_
  refine lv_dup2_11 hx hb dX1_addGoods_13 rfl rfl ?_
  obtain ⟨hin, hf⟩ := gd_e hf
  refine g_iald hx hb hK hP 14 20 (by decide) rfl hin dX1_addGoods_14 ?_
  refine lv_iload_n hx hb dX1_addGoods_15 rfl (lv_at hl 4 rfl) ?_
  refine lv_iadd hx hb dX1_addGoods_16 ?_
  obtain ⟨hin, hf⟩ := gd_e hf
  obtain ⟨σ2, eσ2, hf⟩ := stp_e hf
  refine g_iast (σ1 := σ2) hx hb hK hP hi hAd hS 14 20 (by decide) (fun _ => rfl) hin dX1_addGoods_17 eσ2 (fun H locs hP hS => ?_)
  refine lv_aload_n hx hb dX1_addGoods_18 rfl (lv_at hl 1 rfl) ?_
  refine g_get (v := .ref (ad 14)) hx hb hB hown hK hP 8 (by decide) rfl rfl kU_X1 6 (by decide) kF_X1_31 rfl rfl dX1_addGoods_19 ?_
  refine lv_iload hx hb dX1_addGoods_22 (lv_at hl 0 rfl) ?_
  obtain ⟨hin, hf⟩ := gd_e hf
  refine g_iald hx hb hK hP 14 20 (by decide) rfl hin dX1_addGoods_24 ?_
  obtain ⟨h1, h2⟩ := rt2 hf
  rw [hQ]
  exact g_iret hx hb hr hlocks hP hS h1 h2 dX1_addGoods_25
def f_X1_payOut (σ : Mem) (a0 a1 a2 : Int32) : Option (Mem) :=
gd a0 4 <|
gd a0 4 <| stp (mu σ 10 a0.toNatClampNeg ((σ 10 a0.toNatClampNeg) - a2)) fun σ1 =>
gd a1 4 <|
gd a1 4 <| stp (mu σ1 10 a1.toNatClampNeg ((σ1 10 a1.toNatClampNeg) + a2)) fun σ2 =>
some σ2
set_option maxHeartbeats 4000000 in
set_option maxRecDepth 100000 in
theorem c_X1_payOut {l : Launch} {D : va_G} {cI cJ : ClassId} {ad : Nat → Nat} {σ : Mem} {a0 a1 a2 : Int32} {σr : Mem}  (hi : injG 24 ad) (hf : f_X1_payOut σ a0 a1 a2 = some σr) : MGv l yX1_payOut (Cond.code yX1_payOut cX1_payOut 4 none :: BIG) 0 0 D cI cJ 24 ad (EW ad cI) [.ref (ad 8), .int a0, .int a1, .int a2] σ σr := by
  refine MGv.ofW (cc := cX1_payOut) (nL := 4) (ret := none) (by decide) rfl hi ?_
  intro p e s m args below meth c hx hb hr hml hlocks hown hB hK hP hA hAd hS
  have hown : s.vm.findClass RX1 = some m.cls := hown
  have hl := lv_entry ([.ref (ad 8), .int a0, .int a1, .int a2] : List Value) (n := 4) (Nat.le_of_ble_eq_true rfl)
  rw [lg_entry_eq]
  generalize (lg_sl ([.ref (ad 8), .int a0, .int a1, .int a2] : List Value) ++ List.replicate (4 - (lg_sl ([.ref (ad 8), .int a0, .int a1, .int a2] : List Value)).length) Slot.unset).toArray = ls at hl ⊢
  have hl : lv_has ls 4 [(0, .ref (ad 8)), (1, .int a0), (2, .int a1), (3, .int a2)] := hl
  generalize hQ : MQ below (Qgv D 24 ad (EW ad cI) σr s.heap.size) _ s 0 0 (AG 24 ad s.heap.size) = Q
  have hQ := hQ.symm
  obtain ⟨R, hR, hRf, hRl⟩ : ∃ R : Room, R = ({ frames := 0, cells := 0, slots := 0, locals := 0 } : Room) ∧ 0 ≤ R.frames ∧ 0 ≤ R.locals := ⟨_, rfl, Nat.le_refl _, Nat.le_refl _⟩
  rw [← hR]
  unfold f_X1_payOut at hf
  refine lv_aload_n hx hb dX1_payOut_0 rfl (lv_at hl 0 rfl) ?_
  refine g_get (v := .ref (ad 10)) hx hb hB hown hK hP 8 (by decide) rfl rfl kU_X1 2 (by decide) kF_X1_19 rfl rfl dX1_payOut_1 ?_
  refine lv_iload_n hx hb dX1_payOut_4 rfl (lv_at hl 1 rfl) ?_
  refine lv_dup2_11 hx hb dX1_payOut_5 rfl rfl ?_
  obtain ⟨hin, hf⟩ := gd_e hf
  refine g_iald hx hb hK hP 10 4 (by decide) rfl hin dX1_payOut_6 ?_
  refine lv_iload_n hx hb dX1_payOut_7 rfl (lv_at hl 3 rfl) ?_
  refine lv_isub hx hb dX1_payOut_8 ?_
  obtain ⟨hin, hf⟩ := gd_e hf
  obtain ⟨σ1, eσ1, hf⟩ := stp_e hf
  refine g_iast (σ1 := σ1) hx hb hK hP hi hAd hS 10 4 (by decide) (fun _ => rfl) hin dX1_payOut_9 eσ1 (fun H locs hP hS => ?_)
  refine lv_aload_n hx hb dX1_payOut_10 rfl (lv_at hl 0 rfl) ?_
  refine g_get (v := .ref (ad 10)) hx hb hB hown hK hP 8 (by decide) rfl rfl kU_X1 2 (by decide) kF_X1_19 rfl rfl dX1_payOut_11 ?_
  refine lv_iload_n hx hb dX1_payOut_14 rfl (lv_at hl 2 rfl) ?_
  refine lv_dup2_11 hx hb dX1_payOut_15 rfl rfl ?_
  obtain ⟨hin, hf⟩ := gd_e hf
  refine g_iald hx hb hK hP 10 4 (by decide) rfl hin dX1_payOut_16 ?_
  refine lv_iload_n hx hb dX1_payOut_17 rfl (lv_at hl 3 rfl) ?_
  refine lv_iadd hx hb dX1_payOut_18 ?_
  obtain ⟨hin, hf⟩ := gd_e hf
  obtain ⟨σ2, eσ2, hf⟩ := stp_e hf
  refine g_iast (σ1 := σ2) hx hb hK hP hi hAd hS 10 4 (by decide) (fun _ => rfl) hin dX1_payOut_19 eσ2 (fun H locs hP hS => ?_)
  have h2 := rt1 hf
  rw [hQ]
  exact g_vret hx hb hr hlocks hP hS h2 dX1_payOut_20
def L_X1_hear_8 : Nat → (Mem → Option (Mem)) → Int32 → Int32 → Int32 → Int32 → Mem → Option (Mem)
  | 0, _, _, _, _, _, _ => none
  | n + 1, k, x1, x2, x3, x4, σ5 =>
    if x4 ≤ 0 then (
    k σ5)
    else (
    gd ((x3 + x4) - 1) 24 <|
    gd (x3 + x4) 24 <| stp (mu σ5 16 (x3 + x4).toNatClampNeg (σ5 16 ((x3 + x4) - 1).toNatClampNeg)) fun σ11 =>
    L_X1_hear_8 n k x1 x2 x3 (x4 + (-1)) σ11)
def f_X1_hear (σ : Mem) (a0 a1 : Int32) : Option (Mem) :=
L_X1_hear_8 FU (fun (σ7 : Mem) =>
gd (a0 * 6) 24 <| stp (mu σ7 16 (a0 * 6).toNatClampNeg a1) fun σ8 =>
gd a0 4 <|
gd a0 4 <| stp (mu σ8 17 a0.toNatClampNeg (jmin ((σ8 17 a0.toNatClampNeg) + 1) 6)) fun σ9 =>
some σ9) a0 a1 (a0 * 6) 5 σ
set_option maxHeartbeats 4000000 in
set_option maxRecDepth 100000 in
theorem c_X1_hear {l : Launch} {D : va_G} {cI cJ : ClassId} {ad : Nat → Nat} {σ : Mem} {a0 a1 : Int32} {σr : Mem}  (hi : injG 24 ad) (hf : f_X1_hear σ a0 a1 = some σr) : MGv l yX1_hear (Cond.code yX1_hear cX1_hear 5 none :: BIG) 1 21 D cI cJ 24 ad (EW ad cI) [.ref (ad 8), .int a0, .int a1] σ σr := by
  refine MGv.ofW (cc := cX1_hear) (nL := 5) (ret := none) (by decide) rfl hi ?_
  intro p e s m args below meth c hx hb hr hml hlocks hown hB hK hP hA hAd hS
  have hown : s.vm.findClass RX1 = some m.cls := hown
  have hl := lv_entry ([.ref (ad 8), .int a0, .int a1] : List Value) (n := 5) (Nat.le_of_ble_eq_true rfl)
  rw [lg_entry_eq]
  generalize (lg_sl ([.ref (ad 8), .int a0, .int a1] : List Value) ++ List.replicate (5 - (lg_sl ([.ref (ad 8), .int a0, .int a1] : List Value)).length) Slot.unset).toArray = ls at hl ⊢
  have hl : lv_has ls 5 [(0, .ref (ad 8)), (1, .int a0), (2, .int a1)] := hl
  generalize hQ : MQ below (Qgv D 24 ad (EW ad cI) σr s.heap.size) _ s 0 0 (AG 24 ad s.heap.size) = Q
  have hQ := hQ.symm
  obtain ⟨R, hR, hRf, hRl⟩ : ∃ R : Room, R = ({ frames := 1, cells := 0, slots := 0, locals := 21 } : Room) ∧ 1 ≤ R.frames ∧ 21 ≤ R.locals := ⟨_, rfl, Nat.le_refl _, Nat.le_refl _⟩
  rw [← hR]
  unfold f_X1_hear at hf
  refine lv_iload_n hx hb dX1_hear_0 rfl (lv_at hl 1 rfl) ?_
  refine lv_bipush (v := 6) hx hb dX1_hear_1 (by decide) ?_
  refine lv_imul hx hb dX1_hear_3 ?_
  refine lv_istore_n (lv' := [(3, .int (a0 * 6)), (0, .ref (ad 8)), (1, .int a0), (2, .int a1)]) hx hb dX1_hear_4 rfl hl (by decide) rfl (fun ls hl => ?_)
  refine lv_iconst (v := 5) hx hb dX1_hear_5 (by decide) ?_
  refine lv_istore (lv' := [(4, .int 5), (3, .int (a0 * 6)), (0, .ref (ad 8)), (1, .int a0), (2, .int a1)]) hx hb dX1_hear_6 hl (by decide) rfl (fun ls hl => ?_)
  obtain ⟨K6, eK6, hf⟩ := lp_e1 (b := fun K => L_X1_hear_8 FU K a0 a1 (a0 * 6) 5 σ) hf
  replace hf : L_X1_hear_8 FU K6 a0 a1 (a0 * 6) 5 σ = some σr := hf
  have hKK6 : ∀ (σ7 : Mem) (H : Heap) (locs : List Loc) (ls : Array Slot), K6 σ7 = some σr → va_P D vwCl (wsG 24 ad (EW ad cI) σ7) H → va_S (AG 24 ad s.heap.size) s.heap H locs → lv_has ls 5 [(0, .ref (ad 8)), (1, .int a0), (2, .int a1), (3, .int (a0 * 6))] → W p l e R s m args below meth c H locs 0 0 Q (F0 m 39 ls []) := by
    intro σ7 H locs ls hf hP hS hl
    rw [eK6] at hf
    refine lv_aload_n hx hb dX1_hear_39 rfl (lv_at hl 0 rfl) ?_
    refine g_get (v := .ref (ad 16)) hx hb hB hown hK hP 8 (by decide) rfl rfl kU_X1 8 (by decide) kF_X1_37 rfl rfl dX1_hear_40 ?_
    refine lv_iload_n hx hb dX1_hear_43 rfl (lv_at hl 3 rfl) ?_
    refine lv_iload_n hx hb dX1_hear_44 rfl (lv_at hl 2 rfl) ?_
    obtain ⟨hin, hf⟩ := gd_e hf
    obtain ⟨σ8, eσ8, hf⟩ := stp_e hf
    refine g_iast (σ1 := σ8) hx hb hK hP hi hAd hS 16 24 (by decide) (fun _ => rfl) hin dX1_hear_45 eσ8 (fun H locs hP hS => ?_)
    refine lv_aload_n hx hb dX1_hear_46 rfl (lv_at hl 0 rfl) ?_
    refine g_get (v := .ref (ad 17)) hx hb hB hown hK hP 8 (by decide) rfl rfl kU_X1 9 (by decide) kF_X1_40 rfl rfl dX1_hear_47 ?_
    refine lv_iload_n hx hb dX1_hear_50 rfl (lv_at hl 1 rfl) ?_
    refine lv_aload_n hx hb dX1_hear_51 rfl (lv_at hl 0 rfl) ?_
    refine g_get (v := .ref (ad 17)) hx hb hB hown hK hP 8 (by decide) rfl rfl kU_X1 9 (by decide) kF_X1_40 rfl rfl dX1_hear_52 ?_
    refine lv_iload_n hx hb dX1_hear_55 rfl (lv_at hl 1 rfl) ?_
    obtain ⟨hin, hf⟩ := gd_e hf
    refine g_iald hx hb hK hP 17 4 (by decide) rfl hin dX1_hear_56 ?_
    refine lv_iconst (v := 1) hx hb dX1_hear_57 (by decide) ?_
    refine lv_iadd hx hb dX1_hear_58 ?_
    refine lv_bipush (v := 6) hx hb dX1_hear_59 (by decide) ?_
    refine va_mmin hx hb (hml.trans hl.1.symm) hown (hB _ kJ_X1_53) (hB _ kJ_min.1) (hB _ kJ_min.2.1) (hB _ kJ_min.2.2) (Nat.le_trans (Nat.le_of_ble_eq_true rfl) hRf) (Nat.le_trans (Nat.le_of_ble_eq_true rfl) hRl) (Nat.zero_le _) (Nat.zero_le _) dX1_hear_61 ?_
    obtain ⟨hin, hf⟩ := gd_e hf
    obtain ⟨σ9, eσ9, hf⟩ := stp_e hf
    refine g_iast (σ1 := σ9) hx hb hK hP hi hAd hS 17 4 (by decide) (fun _ => rfl) hin dX1_hear_64 eσ9 (fun H locs hP hS => ?_)
    have h2 := rt1 hf
    rw [hQ]
    exact g_vret hx hb hr hlocks hP hS h2 dX1_hear_65
  have hL_X1_hear_8 : ∀ (n : Nat) (x4 : Int32) (σ5 : Mem) (H : Heap) (locs : List Loc) (ls : Array Slot), L_X1_hear_8 n K6 a0 a1 (a0 * 6) x4 σ5 = some σr → va_P D vwCl (wsG 24 ad (EW ad cI) σ5) H → va_S (AG 24 ad s.heap.size) s.heap H locs → lv_has ls 5 [(0, .ref (ad 8)), (1, .int a0), (2, .int a1), (3, .int (a0 * 6)), (4, .int x4)] → W p l e R s m args below meth c H locs 0 0 Q (F0 m 8 ls []) := by
    intro n
    induction n with
    | zero => intro x4 σ5 H locs ls hf; cases hf
    | succ n ih =>
      intro x4 σ5 H locs ls hf hP hS hl
      rw [L_X1_hear_8] at hf
      refine lv_iload hx hb dX1_hear_8 (lv_at hl 4 rfl) ?_
      refine lv_if_le (tgt := 39) hx hb dX1_hear_10 (by decide) (fun q10 => ?_) (fun q10 => ?_)
      · rw [if_pos q10] at hf
        exact hKK6 σ5 _ _ ls hf hP hS (lv_sub hl [0, 1, 2, 3] rfl)
      · rw [if_neg q10] at hf
        refine lv_aload_n hx hb dX1_hear_13 rfl (lv_at hl 0 rfl) ?_
        refine g_get (v := .ref (ad 16)) hx hb hB hown hK hP 8 (by decide) rfl rfl kU_X1 8 (by decide) kF_X1_37 rfl rfl dX1_hear_14 ?_
        refine lv_iload_n hx hb dX1_hear_17 rfl (lv_at hl 3 rfl) ?_
        refine lv_iload hx hb dX1_hear_18 (lv_at hl 4 rfl) ?_
        refine lv_iadd hx hb dX1_hear_20 ?_
        refine lv_aload_n hx hb dX1_hear_21 rfl (lv_at hl 0 rfl) ?_
        refine g_get (v := .ref (ad 16)) hx hb hB hown hK hP 8 (by decide) rfl rfl kU_X1 8 (by decide) kF_X1_37 rfl rfl dX1_hear_22 ?_
        refine lv_iload_n hx hb dX1_hear_25 rfl (lv_at hl 3 rfl) ?_
        refine lv_iload hx hb dX1_hear_26 (lv_at hl 4 rfl) ?_
        refine lv_iadd hx hb dX1_hear_28 ?_
        refine lv_iconst (v := 1) hx hb dX1_hear_29 (by decide) ?_
        refine lv_isub hx hb dX1_hear_30 ?_
        obtain ⟨hin, hf⟩ := gd_e hf
        refine g_iald hx hb hK hP 16 24 (by decide) rfl hin dX1_hear_31 ?_
        obtain ⟨hin, hf⟩ := gd_e hf
        obtain ⟨σ11, eσ11, hf⟩ := stp_e hf
        refine g_iast (σ1 := σ11) hx hb hK hP hi hAd hS 16 24 (by decide) (fun _ => rfl) hin dX1_hear_32 eσ11 (fun H locs hP hS => ?_)
        refine lv_iinc (v := (x4 + (-1))) (lv' := [(4, .int (x4 + (-1))), (0, .ref (ad 8)), (1, .int a0), (2, .int a1), (3, .int (a0 * 6))]) hx hb dX1_hear_33 hl (k := 4) rfl rfl (by decide) rfl (fun ls hl => ?_)
        refine lv_goto (tgt := 8) hx hb dX1_hear_36 (by decide) ?_
        exact ih (x4 + (-1)) σ11 _ _ ls hf hP hS (lv_sub hl [1, 2, 3, 4, 0] rfl)
  exact hL_X1_hear_8 FU 5 σ _ _ ls hf hP hS (lv_sub hl [2, 3, 4, 1, 0] rfl)
def L_X1_isBegun_2 : Nat → (Unit → Option (Int32)) → Mem → Int32 → Int32 → Option (Int32)
  | 0, _, _, _, _ => none
  | n + 1, k, σ3, x1, x2 =>
    if (σ3 8 0) ≤ x2 then (
    k ())
    else (
    bd (f_X5_reachedAt x2 x1) fun v6 =>
    gd v6 12 <|
    if (σ3 15 v6.toNatClampNeg) ≤ 0 then (
    L_X1_isBegun_2 n k σ3 x1 (x2 + 1))
    else (
    some 1))
def f_X1_isBegun (σ : Mem) (a0 : Int32) : Option (Int32) :=
L_X1_isBegun_2 FU (fun (_ : Unit) =>
some 0) σ a0 0
set_option maxHeartbeats 4000000 in
set_option maxRecDepth 100000 in
theorem c_X1_isBegun {l : Launch} {D : va_G} {cI cJ : ClassId} {ad : Nat → Nat} {σ : Mem} {a0 : Int32} {r : Int32}  (hi : injG 24 ad) (hf : f_X1_isBegun σ a0 = some r) : MGi l yX1_isBegun (Cond.code yX1_isBegun cX1_isBegun 3 (some .boolean) :: BIG) 1 21 D cI cJ 24 ad (EW ad cI) [.ref (ad 8), .int a0] σ σ r := by
  refine MGi.ofW (cc := cX1_isBegun) (nL := 3) (ret := (some .boolean)) (by decide) rfl hi ?_
  intro p e s m args below meth c hx hb hr hml hlocks hown hB hK hP hA hAd hS
  have hown : s.vm.findClass RX1 = some m.cls := hown
  have hl := lv_entry ([.ref (ad 8), .int a0] : List Value) (n := 3) (Nat.le_of_ble_eq_true rfl)
  rw [lg_entry_eq]
  generalize (lg_sl ([.ref (ad 8), .int a0] : List Value) ++ List.replicate (3 - (lg_sl ([.ref (ad 8), .int a0] : List Value)).length) Slot.unset).toArray = ls at hl ⊢
  have hl : lv_has ls 3 [(0, .ref (ad 8)), (1, .int a0)] := hl
  generalize hQ : MQ below (Qgi D 24 ad (EW ad cI) r σ s.heap.size) _ s 0 0 (AG 24 ad s.heap.size) = Q
  have hQ := hQ.symm
  obtain ⟨R, hR, hRf, hRl⟩ : ∃ R : Room, R = ({ frames := 1, cells := 0, slots := 0, locals := 21 } : Room) ∧ 1 ≤ R.frames ∧ 21 ≤ R.locals := ⟨_, rfl, Nat.le_refl _, Nat.le_refl _⟩
  rw [← hR]
  unfold f_X1_isBegun at hf
  refine lv_iconst (v := 0) hx hb dX1_isBegun_0 (by decide) ?_
  refine lv_istore_n (lv' := [(2, .int 0), (0, .ref (ad 8)), (1, .int a0)]) hx hb dX1_isBegun_1 rfl hl (by decide) rfl (fun ls hl => ?_)
  obtain ⟨K4, eK4, hf⟩ := lp_e0 (b := fun K => L_X1_isBegun_2 FU K σ a0 0) hf
  replace hf : L_X1_isBegun_2 FU K4 σ a0 0 = some r := hf
  have hKK4 : ∀ (_ : Unit) (H : Heap) (locs : List Loc) (ls : Array Slot), K4 () = some r → va_P D vwCl (wsG 24 ad (EW ad cI) σ) H → va_S (AG 24 ad s.heap.size) s.heap H locs → lv_has ls 3 [] → W p l e R s m args below meth c H locs 0 0 Q (F0 m 31 ls []) := by
    intro _ H locs ls hf hP hS hl
    rw [eK4] at hf
    refine lv_iconst (v := 0) hx hb dX1_isBegun_31 (by decide) ?_
    have h1 := rt1 hf
    rw [hQ]
    exact g_zret hx hb hr hlocks hP hS (Or.inl rfl) h1 rfl dX1_isBegun_32
  have hL_X1_isBegun_2 : ∀ (n : Nat) (x2 : Int32) (H : Heap) (locs : List Loc) (ls : Array Slot), L_X1_isBegun_2 n K4 σ a0 x2 = some r → va_P D vwCl (wsG 24 ad (EW ad cI) σ) H → va_S (AG 24 ad s.heap.size) s.heap H locs → lv_has ls 3 [(0, .ref (ad 8)), (1, .int a0), (2, .int x2)] → W p l e R s m args below meth c H locs 0 0 Q (F0 m 2 ls []) := by
    intro n
    induction n with
    | zero => intro x2 H locs ls hf; cases hf
    | succ n ih =>
      intro x2 H locs ls hf hP hS hl
      rw [L_X1_isBegun_2] at hf
      refine lv_iload_n hx hb dX1_isBegun_2 rfl (lv_at hl 2 rfl) ?_
      refine lv_aload_n hx hb dX1_isBegun_3 rfl (lv_at hl 0 rfl) ?_
      refine g_get (v := .int (σ 8 0)) hx hb hB hown hK hP 8 (by decide) rfl rfl kU_X1 0 (by decide) kF_X1_9 rfl rfl dX1_isBegun_4 ?_
      refine lv_icmp_ge (tgt := 31) hx hb dX1_isBegun_7 (by decide) (fun q5 => ?_) (fun q5 => ?_)
      · rw [if_pos q5] at hf
        exact hKK4 () _ _ ls hf hP hS (lv_sub hl [] rfl)
      · rw [if_neg q5] at hf
        refine lv_aload_n hx hb dX1_isBegun_10 rfl (lv_at hl 0 rfl) ?_
        refine g_get (v := .ref (ad 15)) hx hb hB hown hK hP 8 (by decide) rfl rfl kU_X1 7 (by decide) kF_X1_34 rfl rfl dX1_isBegun_11 ?_
        refine lv_iload_n hx hb dX1_isBegun_14 rfl (lv_at hl 2 rfl) ?_
        refine lv_iload_n hx hb dX1_isBegun_15 rfl (lv_at hl 1 rfl) ?_
        obtain ⟨v6, hv, hf⟩ := bd_e hf
        refine g_cNi0 ⟨⟨hx, hb, hml, hown, hB⟩, hK, hi, hA, hAd, hP, hS⟩ (c_X5_reachedAt hv) cal_X5_reachedAt kN_X1_58 ⟨Nat.le_trans (Nat.le_of_ble_eq_true rfl) hRf, Nat.le_trans (Nat.le_of_ble_eq_true rfl) hRl⟩ rfl hl.1 (Nat.le_of_ble_eq_true rfl) rfl dX1_isBegun_16 ⟨Nat.zero_le _, Nat.zero_le _⟩ (fun H locs hP hS => ?_)
        obtain ⟨hin, hf⟩ := gd_e hf
        refine g_iald hx hb hK hP 15 12 (by decide) rfl hin dX1_isBegun_19 ?_
        refine lv_if_le (tgt := 25) hx hb dX1_isBegun_20 (by decide) (fun q7 => ?_) (fun q7 => ?_)
        · rw [if_pos q7] at hf
          refine lv_iinc (v := (x2 + 1)) (lv' := [(2, .int (x2 + 1)), (0, .ref (ad 8)), (1, .int a0)]) hx hb dX1_isBegun_25 hl (k := 2) rfl rfl (by decide) rfl (fun ls hl => ?_)
          refine lv_goto (tgt := 2) hx hb dX1_isBegun_28 (by decide) ?_
          exact ih (x2 + 1) _ _ ls hf hP hS (lv_sub hl [1, 2, 0] rfl)
        · rw [if_neg q7] at hf
          refine lv_iconst (v := 1) hx hb dX1_isBegun_23 (by decide) ?_
          have h1 := rt1 hf
          rw [hQ]
          exact g_zret hx hb hr hlocks hP hS (Or.inr rfl) h1 rfl dX1_isBegun_24
  exact hL_X1_isBegun_2 FU 0 _ _ ls hf hP hS (lv_sub hl [1, 2, 0] rfl)
def L_X1_sumOfCoins_4 : Nat → (Int32 → Option (Int32)) → Mem → Int32 → Int32 → Option (Int32)
  | 0, _, _, _, _ => none
  | n + 1, k, σ3, x1, x2 =>
    if (σ3 8 0) ≤ x2 then (
    k x1)
    else (
    gd x2 4 <|
    L_X1_sumOfCoins_4 n k σ3 (x1 + (σ3 10 x2.toNatClampNeg)) (x2 + 1))
def f_X1_sumOfCoins (σ : Mem) : Option (Int32) :=
L_X1_sumOfCoins_4 FU (fun (x5 : Int32) =>
some x5) σ 0 0
set_option maxHeartbeats 4000000 in
set_option maxRecDepth 100000 in
theorem c_X1_sumOfCoins {l : Launch} {D : va_G} {cI cJ : ClassId} {ad : Nat → Nat} {σ : Mem} {r : Int32}  (hi : injG 24 ad) (hf : f_X1_sumOfCoins σ = some r) : MGi l yX1_sumOfCoins (Cond.code yX1_sumOfCoins cX1_sumOfCoins 3 (some .int) :: BIG) 0 0 D cI cJ 24 ad (EW ad cI) [.ref (ad 8)] σ σ r := by
  refine MGi.ofW (cc := cX1_sumOfCoins) (nL := 3) (ret := (some .int)) (by decide) rfl hi ?_
  intro p e s m args below meth c hx hb hr hml hlocks hown hB hK hP hA hAd hS
  have hown : s.vm.findClass RX1 = some m.cls := hown
  have hl := lv_entry ([.ref (ad 8)] : List Value) (n := 3) (Nat.le_of_ble_eq_true rfl)
  rw [lg_entry_eq]
  generalize (lg_sl ([.ref (ad 8)] : List Value) ++ List.replicate (3 - (lg_sl ([.ref (ad 8)] : List Value)).length) Slot.unset).toArray = ls at hl ⊢
  have hl : lv_has ls 3 [(0, .ref (ad 8))] := hl
  generalize hQ : MQ below (Qgi D 24 ad (EW ad cI) r σ s.heap.size) _ s 0 0 (AG 24 ad s.heap.size) = Q
  have hQ := hQ.symm
  obtain ⟨R, hR, hRf, hRl⟩ : ∃ R : Room, R = ({ frames := 0, cells := 0, slots := 0, locals := 0 } : Room) ∧ 0 ≤ R.frames ∧ 0 ≤ R.locals := ⟨_, rfl, Nat.le_refl _, Nat.le_refl _⟩
  rw [← hR]
  unfold f_X1_sumOfCoins at hf
  refine lv_iconst (v := 0) hx hb dX1_sumOfCoins_0 (by decide) ?_
  refine lv_istore_n (lv' := [(1, .int 0), (0, .ref (ad 8))]) hx hb dX1_sumOfCoins_1 rfl hl (by decide) rfl (fun ls hl => ?_)
  refine lv_iconst (v := 0) hx hb dX1_sumOfCoins_2 (by decide) ?_
  refine lv_istore_n (lv' := [(2, .int 0), (1, .int 0), (0, .ref (ad 8))]) hx hb dX1_sumOfCoins_3 rfl hl (by decide) rfl (fun ls hl => ?_)
  obtain ⟨K4, eK4, hf⟩ := lp_e1 (b := fun K => L_X1_sumOfCoins_4 FU K σ 0 0) hf
  replace hf : L_X1_sumOfCoins_4 FU K4 σ 0 0 = some r := hf
  have hKK4 : ∀ (x5 : Int32) (H : Heap) (locs : List Loc) (ls : Array Slot), K4 x5 = some r → va_P D vwCl (wsG 24 ad (EW ad cI) σ) H → va_S (AG 24 ad s.heap.size) s.heap H locs → lv_has ls 3 [(1, .int x5)] → W p l e R s m args below meth c H locs 0 0 Q (F0 m 27 ls []) := by
    intro x5 H locs ls hf hP hS hl
    rw [eK4] at hf
    refine lv_iload_n hx hb dX1_sumOfCoins_27 rfl (lv_at hl 0 rfl) ?_
    have h1 := rt1 hf
    rw [hQ]
    exact g_iret hx hb hr hlocks hP hS h1 rfl dX1_sumOfCoins_28
  have hL_X1_sumOfCoins_4 : ∀ (n : Nat) (x1 : Int32) (x2 : Int32) (H : Heap) (locs : List Loc) (ls : Array Slot), L_X1_sumOfCoins_4 n K4 σ x1 x2 = some r → va_P D vwCl (wsG 24 ad (EW ad cI) σ) H → va_S (AG 24 ad s.heap.size) s.heap H locs → lv_has ls 3 [(0, .ref (ad 8)), (1, .int x1), (2, .int x2)] → W p l e R s m args below meth c H locs 0 0 Q (F0 m 4 ls []) := by
    intro n
    induction n with
    | zero => intro x1 x2 H locs ls hf; cases hf
    | succ n ih =>
      intro x1 x2 H locs ls hf hP hS hl
      rw [L_X1_sumOfCoins_4] at hf
      refine lv_iload_n hx hb dX1_sumOfCoins_4 rfl (lv_at hl 2 rfl) ?_
      refine lv_aload_n hx hb dX1_sumOfCoins_5 rfl (lv_at hl 0 rfl) ?_
      refine g_get (v := .int (σ 8 0)) hx hb hB hown hK hP 8 (by decide) rfl rfl kU_X1 0 (by decide) kF_X1_9 rfl rfl dX1_sumOfCoins_6 ?_
      refine lv_icmp_ge (tgt := 27) hx hb dX1_sumOfCoins_9 (by decide) (fun q6 => ?_) (fun q6 => ?_)
      · rw [if_pos q6] at hf
        exact hKK4 x1 _ _ ls hf hP hS (lv_sub hl [1] rfl)
      · rw [if_neg q6] at hf
        refine lv_iload_n hx hb dX1_sumOfCoins_12 rfl (lv_at hl 1 rfl) ?_
        refine lv_aload_n hx hb dX1_sumOfCoins_13 rfl (lv_at hl 0 rfl) ?_
        refine g_get (v := .ref (ad 10)) hx hb hB hown hK hP 8 (by decide) rfl rfl kU_X1 2 (by decide) kF_X1_19 rfl rfl dX1_sumOfCoins_14 ?_
        refine lv_iload_n hx hb dX1_sumOfCoins_17 rfl (lv_at hl 2 rfl) ?_
        obtain ⟨hin, hf⟩ := gd_e hf
        refine g_iald hx hb hK hP 10 4 (by decide) rfl hin dX1_sumOfCoins_18 ?_
        refine lv_iadd hx hb dX1_sumOfCoins_19 ?_
        refine lv_istore_n (lv' := [(1, .int (x1 + (σ 10 x2.toNatClampNeg))), (0, .ref (ad 8)), (2, .int x2)]) hx hb dX1_sumOfCoins_20 rfl hl (by decide) rfl (fun ls hl => ?_)
        refine lv_iinc (v := (x2 + 1)) (lv' := [(2, .int (x2 + 1)), (1, .int (x1 + (σ 10 x2.toNatClampNeg))), (0, .ref (ad 8))]) hx hb dX1_sumOfCoins_21 hl (k := 2) rfl rfl (by decide) rfl (fun ls hl => ?_)
        refine lv_goto (tgt := 4) hx hb dX1_sumOfCoins_24 (by decide) ?_
        exact ih (x1 + (σ 10 x2.toNatClampNeg)) (x2 + 1) _ _ ls hf hP hS (lv_sub hl [2, 1, 0] rfl)
  exact hL_X1_sumOfCoins_4 FU 0 0 _ _ ls hf hP hS (lv_sub hl [2, 1, 0] rfl)
def L_X1_sumOfGoods_4 : Nat → (Int32 → Option (Int32)) → Mem → Int32 → Int32 → Int32 → Option (Int32)
  | 0, _, _, _, _, _ => none
  | n + 1, k, σ4, x1, x2, x3 =>
    if (σ4 8 0) ≤ x3 then (
    k x2)
    else (
    bd (f_X5_goodsAt x3 x1) fun v8 =>
    gd v8 20 <|
    L_X1_sumOfGoods_4 n k σ4 x1 (x2 + (σ4 14 v8.toNatClampNeg)) (x3 + 1))
def f_X1_sumOfGoods (σ : Mem) (a0 : Int32) : Option (Int32) :=
L_X1_sumOfGoods_4 FU (fun (x6 : Int32) =>
some x6) σ a0 0 0
set_option maxHeartbeats 4000000 in
set_option maxRecDepth 100000 in
theorem c_X1_sumOfGoods {l : Launch} {D : va_G} {cI cJ : ClassId} {ad : Nat → Nat} {σ : Mem} {a0 : Int32} {r : Int32}  (hi : injG 24 ad) (hf : f_X1_sumOfGoods σ a0 = some r) : MGi l yX1_sumOfGoods (Cond.code yX1_sumOfGoods cX1_sumOfGoods 4 (some .int) :: BIG) 1 21 D cI cJ 24 ad (EW ad cI) [.ref (ad 8), .int a0] σ σ r := by
  refine MGi.ofW (cc := cX1_sumOfGoods) (nL := 4) (ret := (some .int)) (by decide) rfl hi ?_
  intro p e s m args below meth c hx hb hr hml hlocks hown hB hK hP hA hAd hS
  have hown : s.vm.findClass RX1 = some m.cls := hown
  have hl := lv_entry ([.ref (ad 8), .int a0] : List Value) (n := 4) (Nat.le_of_ble_eq_true rfl)
  rw [lg_entry_eq]
  generalize (lg_sl ([.ref (ad 8), .int a0] : List Value) ++ List.replicate (4 - (lg_sl ([.ref (ad 8), .int a0] : List Value)).length) Slot.unset).toArray = ls at hl ⊢
  have hl : lv_has ls 4 [(0, .ref (ad 8)), (1, .int a0)] := hl
  generalize hQ : MQ below (Qgi D 24 ad (EW ad cI) r σ s.heap.size) _ s 0 0 (AG 24 ad s.heap.size) = Q
  have hQ := hQ.symm
  obtain ⟨R, hR, hRf, hRl⟩ : ∃ R : Room, R = ({ frames := 1, cells := 0, slots := 0, locals := 21 } : Room) ∧ 1 ≤ R.frames ∧ 21 ≤ R.locals := ⟨_, rfl, Nat.le_refl _, Nat.le_refl _⟩
  rw [← hR]
  unfold f_X1_sumOfGoods at hf
  refine lv_iconst (v := 0) hx hb dX1_sumOfGoods_0 (by decide) ?_
  refine lv_istore_n (lv' := [(2, .int 0), (0, .ref (ad 8)), (1, .int a0)]) hx hb dX1_sumOfGoods_1 rfl hl (by decide) rfl (fun ls hl => ?_)
  refine lv_iconst (v := 0) hx hb dX1_sumOfGoods_2 (by decide) ?_
  refine lv_istore_n (lv' := [(3, .int 0), (2, .int 0), (0, .ref (ad 8)), (1, .int a0)]) hx hb dX1_sumOfGoods_3 rfl hl (by decide) rfl (fun ls hl => ?_)
  obtain ⟨K5, eK5, hf⟩ := lp_e1 (b := fun K => L_X1_sumOfGoods_4 FU K σ a0 0 0) hf
  replace hf : L_X1_sumOfGoods_4 FU K5 σ a0 0 0 = some r := hf
  have hKK5 : ∀ (x6 : Int32) (H : Heap) (locs : List Loc) (ls : Array Slot), K5 x6 = some r → va_P D vwCl (wsG 24 ad (EW ad cI) σ) H → va_S (AG 24 ad s.heap.size) s.heap H locs → lv_has ls 4 [(2, .int x6)] → W p l e R s m args below meth c H locs 0 0 Q (F0 m 31 ls []) := by
    intro x6 H locs ls hf hP hS hl
    rw [eK5] at hf
    refine lv_iload_n hx hb dX1_sumOfGoods_31 rfl (lv_at hl 0 rfl) ?_
    have h1 := rt1 hf
    rw [hQ]
    exact g_iret hx hb hr hlocks hP hS h1 rfl dX1_sumOfGoods_32
  have hL_X1_sumOfGoods_4 : ∀ (n : Nat) (x2 : Int32) (x3 : Int32) (H : Heap) (locs : List Loc) (ls : Array Slot), L_X1_sumOfGoods_4 n K5 σ a0 x2 x3 = some r → va_P D vwCl (wsG 24 ad (EW ad cI) σ) H → va_S (AG 24 ad s.heap.size) s.heap H locs → lv_has ls 4 [(0, .ref (ad 8)), (1, .int a0), (2, .int x2), (3, .int x3)] → W p l e R s m args below meth c H locs 0 0 Q (F0 m 4 ls []) := by
    intro n
    induction n with
    | zero => intro x2 x3 H locs ls hf; cases hf
    | succ n ih =>
      intro x2 x3 H locs ls hf hP hS hl
      rw [L_X1_sumOfGoods_4] at hf
      refine lv_iload_n hx hb dX1_sumOfGoods_4 rfl (lv_at hl 3 rfl) ?_
      refine lv_aload_n hx hb dX1_sumOfGoods_5 rfl (lv_at hl 0 rfl) ?_
      refine g_get (v := .int (σ 8 0)) hx hb hB hown hK hP 8 (by decide) rfl rfl kU_X1 0 (by decide) kF_X1_9 rfl rfl dX1_sumOfGoods_6 ?_
      refine lv_icmp_ge (tgt := 31) hx hb dX1_sumOfGoods_9 (by decide) (fun q7 => ?_) (fun q7 => ?_)
      · rw [if_pos q7] at hf
        exact hKK5 x2 _ _ ls hf hP hS (lv_sub hl [2] rfl)
      · rw [if_neg q7] at hf
        refine lv_iload_n hx hb dX1_sumOfGoods_12 rfl (lv_at hl 2 rfl) ?_
        refine lv_aload_n hx hb dX1_sumOfGoods_13 rfl (lv_at hl 0 rfl) ?_
        refine g_get (v := .ref (ad 14)) hx hb hB hown hK hP 8 (by decide) rfl rfl kU_X1 6 (by decide) kF_X1_31 rfl rfl dX1_sumOfGoods_14 ?_
        refine lv_iload_n hx hb dX1_sumOfGoods_17 rfl (lv_at hl 3 rfl) ?_
        refine lv_iload_n hx hb dX1_sumOfGoods_18 rfl (lv_at hl 1 rfl) ?_
        obtain ⟨v8, hv, hf⟩ := bd_e hf
        refine g_cNi0 ⟨⟨hx, hb, hml, hown, hB⟩, hK, hi, hA, hAd, hP, hS⟩ (c_X5_goodsAt hv) cal_X5_goodsAt kN_X1_49 ⟨Nat.le_trans (Nat.le_of_ble_eq_true rfl) hRf, Nat.le_trans (Nat.le_of_ble_eq_true rfl) hRl⟩ rfl hl.1 (Nat.le_of_ble_eq_true rfl) rfl dX1_sumOfGoods_19 ⟨Nat.zero_le _, Nat.zero_le _⟩ (fun H locs hP hS => ?_)
        obtain ⟨hin, hf⟩ := gd_e hf
        refine g_iald hx hb hK hP 14 20 (by decide) rfl hin dX1_sumOfGoods_22 ?_
        refine lv_iadd hx hb dX1_sumOfGoods_23 ?_
        refine lv_istore_n (lv' := [(2, .int (x2 + (σ 14 v8.toNatClampNeg))), (0, .ref (ad 8)), (1, .int a0), (3, .int x3)]) hx hb dX1_sumOfGoods_24 rfl hl (by decide) rfl (fun ls hl => ?_)
        refine lv_iinc (v := (x3 + 1)) (lv' := [(3, .int (x3 + 1)), (2, .int (x2 + (σ 14 v8.toNatClampNeg))), (0, .ref (ad 8)), (1, .int a0)]) hx hb dX1_sumOfGoods_25 hl (k := 3) rfl rfl (by decide) rfl (fun ls hl => ?_)
        refine lv_goto (tgt := 4) hx hb dX1_sumOfGoods_28 (by decide) ?_
        exact ih (x2 + (σ 14 v8.toNatClampNeg)) (x3 + 1) _ _ ls hf hP hS (lv_sub hl [2, 3, 1, 0] rfl)
  exact hL_X1_sumOfGoods_4 FU 0 0 _ _ ls hf hP hS (lv_sub hl [2, 3, 1, 0] rfl)
