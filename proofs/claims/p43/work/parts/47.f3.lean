set_option maxHeartbeats 4000000 in
set_option maxRecDepth 100000 in
theorem n_X0 {l : Launch} {D : va_G} {cI cJ : ClassId} : MGn l yX0_init cX0_init 1 1 12 1 2560 D cI cJ 0 [.null, .int 0] 2 0 (fun ad => EL ad cI) z0 := by
  refine MGn.ofW (by decide) ?_
  intro p e s m args below meth c h0 A hx hb hr hml hlocks hin hown hB hK hP hD hS hA
  have hin : meth.name = "<init>" := hin
  have hown : s.vm.findClass RX0 = some m.cls := hown
  have hl := lv_entry ([.ref h0] : List Value) (n := 1) (Nat.le_of_ble_eq_true rfl)
  rw [lg_entry_eq]
  generalize (lg_sl ([.ref h0] : List Value) ++ List.replicate (1 - (lg_sl ([.ref h0] : List Value)).length) Slot.unset).toArray = ls at hl ⊢
  have hl : lv_has ls 1 [(0, .ref h0)] := hl
  refine lv_aload_n hx hb dX0_init_0 rfl (lv_at hl 0 rfl) ?_
  refine n_obj hx hb hB hown k_obX0 hml hl.1 dX0_init_1 (Nat.le_of_ble_eq_true rfl) (Nat.le_of_ble_eq_true rfl) ?_
  refine lv_aload_n hx hb dX0_init_4 rfl (lv_at hl 0 rfl) ?_
  refine lv_sipush (v := 2560) hx hb dX0_init_5 (by decide) ?_
  refine g_arr (idx := 9) (nm := "rows") hx hb hB hown hK kU_X0 tyX0 tyX0_ok nmX0 hP hD hS hA rfl 0 (by decide) kF_X0_9 rfl hin (Nat.le_of_ble_eq_true rfl) 2560 (by decide) (by decide) (by decide) (Nat.le_of_ble_eq_true rfl) (Nat.le_of_ble_eq_true rfl) dX0_init_8 dX0_init_10 (fun q1 H locs hP hD hS => ?_)
  have hP : va_P D vwCl [(h0, .inr (0, [.ref q1, .int 0])), (q1, .inl (cI, 2560, .inl fun _ => 0))] H := hP
  have hD : va_D A [(h0, .inr (0, [.ref q1, .int 0])), (q1, .inl (cI, 2560, .inl fun _ => 0))] := hD
  refine W.widen (k := 1) (n := 2560) (by omega) (by omega) ?_
  refine lv_aload_n hx hb dX0_init_13 rfl (lv_at hl 0 rfl) ?_
  refine lv_iconst (v := 0) hx hb dX0_init_14 (by decide) ?_
  refine va_put (ref := "MudCouncil$Log") (v := .int 0) (ty := .int) hx hb hB kU_X0 tyX0 tyX0_ok nmX0 hown hK.1 hP hD hS 0 rfl (by rfl) 1 (by decide) (hB _ kF_X0_13) (fun _ h9 => h9) rfl (by decide +kernel) rfl rfl (Nat.le_of_ble_eq_true rfl) dX0_init_15 (fun H locs hP hD hS => ?_)
  have hP : va_P D vwCl [(h0, .inr (0, [.ref q1, .int 0])), (q1, .inl (cI, 2560, .inl fun _ => 0))] H := hP
  have hD : va_D A [(h0, .inr (0, [.ref q1, .int 0])), (q1, .inl (cI, 2560, .inl fun _ => 0))] := hD
  obtain ⟨ad, had⟩ : ∃ ad : Nat → Nat, ad = fun k => ([h0, q1] : List Nat).getD k 0 := ⟨_, rfl⟩
  have hPg : va_P D vwCl (wsG 2 ad (EL ad cI) z0) H := by rw [had]; exact hP
  have hDg : va_D A (wsG 2 ad (EL ad cI) z0) := by rw [had]; exact hD
  have h00 : ad 0 = h0 := by rw [had]; rfl
  exact n_ret (E := fun ad => EL ad cI) hx hb hr hlocks ad h00 hPg hDg hS dX0_init_18
set_option maxHeartbeats 4000000 in
set_option maxRecDepth 100000 in
theorem n_X1 {l : Launch} {D : va_G} {cI cJ : ClassId} : MGn l yX1_init cX1_init 1 1 12 9 80 D cI cJ 1 [.int 0, .null, .null, .null, .null, .null, .null, .null, .null, .null] 10 0 (fun ad => EO ad cI) z0 := by
  refine MGn.ofW (by decide) ?_
  intro p e s m args below meth c h0 A hx hb hr hml hlocks hin hown hB hK hP hD hS hA
  have hin : meth.name = "<init>" := hin
  have hown : s.vm.findClass RX1 = some m.cls := hown
  have hl := lv_entry ([.ref h0] : List Value) (n := 1) (Nat.le_of_ble_eq_true rfl)
  rw [lg_entry_eq]
  generalize (lg_sl ([.ref h0] : List Value) ++ List.replicate (1 - (lg_sl ([.ref h0] : List Value)).length) Slot.unset).toArray = ls at hl ⊢
  have hl : lv_has ls 1 [(0, .ref h0)] := hl
  refine lv_aload_n hx hb dX1_init_0 rfl (lv_at hl 0 rfl) ?_
  refine n_obj hx hb hB hown k_obX1 hml hl.1 dX1_init_1 (Nat.le_of_ble_eq_true rfl) (Nat.le_of_ble_eq_true rfl) ?_
  refine lv_aload_n hx hb dX1_init_4 rfl (lv_at hl 0 rfl) ?_
  refine lv_iconst (v := 0) hx hb dX1_init_5 (by decide) ?_
  refine va_put (ref := "MudCouncil$People") (v := .int 0) (ty := .int) hx hb hB kU_X1 tyX1 tyX1_ok nmX1 hown hK.1 hP hD hS 0 rfl (by rfl) 0 (by decide) (hB _ kF_X1_9) (fun _ h9 => h9) rfl (by decide +kernel) rfl rfl (Nat.le_of_ble_eq_true rfl) dX1_init_6 (fun H locs hP hD hS => ?_)
  have hP : va_P D vwCl [(h0, .inr (1, [.int 0, .null, .null, .null, .null, .null, .null, .null, .null, .null]))] H := hP
  have hD : va_D A [(h0, .inr (1, [.int 0, .null, .null, .null, .null, .null, .null, .null, .null, .null]))] := hD
  refine lv_aload_n hx hb dX1_init_9 rfl (lv_at hl 0 rfl) ?_
  refine lv_iconst (v := 4) hx hb dX1_init_10 (by decide) ?_
  refine g_arr (idx := 15) (nm := "rooms") hx hb hB hown hK kU_X1 tyX1 tyX1_ok nmX1 hP hD hS hA rfl 1 (by decide) kF_X1_15 rfl hin (Nat.le_of_ble_eq_true rfl) 4 (by decide) (by decide) (by decide) (Nat.le_of_ble_eq_true rfl) (Nat.le_of_ble_eq_true rfl) dX1_init_11 dX1_init_13 (fun q1 H locs hP hD hS => ?_)
  have hP : va_P D vwCl [(h0, .inr (1, [.int 0, .ref q1, .null, .null, .null, .null, .null, .null, .null, .null])), (q1, .inl (cI, 4, .inl fun _ => 0))] H := hP
  have hD : va_D A [(h0, .inr (1, [.int 0, .ref q1, .null, .null, .null, .null, .null, .null, .null, .null])), (q1, .inl (cI, 4, .inl fun _ => 0))] := hD
  refine W.widen (k := 1) (n := 4) (by omega) (by omega) ?_
  refine lv_aload_n hx hb dX1_init_16 rfl (lv_at hl 0 rfl) ?_
  refine lv_iconst (v := 4) hx hb dX1_init_17 (by decide) ?_
  refine g_arr (idx := 19) (nm := "coins") hx hb hB hown hK kU_X1 tyX1 tyX1_ok nmX1 hP hD hS hA rfl 2 (by decide) kF_X1_19 rfl hin (Nat.le_of_ble_eq_true rfl) 4 (by decide) (by decide) (by decide) (Nat.le_of_ble_eq_true rfl) (Nat.le_of_ble_eq_true rfl) dX1_init_18 dX1_init_20 (fun q2 H locs hP hD hS => ?_)
  have hP : va_P D vwCl [(h0, .inr (1, [.int 0, .ref q1, .ref q2, .null, .null, .null, .null, .null, .null, .null])), (q1, .inl (cI, 4, .inl fun _ => 0)), (q2, .inl (cI, 4, .inl fun _ => 0))] H := hP
  have hD : va_D A [(h0, .inr (1, [.int 0, .ref q1, .ref q2, .null, .null, .null, .null, .null, .null, .null])), (q1, .inl (cI, 4, .inl fun _ => 0)), (q2, .inl (cI, 4, .inl fun _ => 0))] := hD
  refine W.widen (k := 2) (n := 8) (by omega) (by omega) ?_
  refine lv_aload_n hx hb dX1_init_23 rfl (lv_at hl 0 rfl) ?_
  refine lv_iconst (v := 4) hx hb dX1_init_24 (by decide) ?_
  refine g_arr (idx := 22) (nm := "strengths") hx hb hB hown hK kU_X1 tyX1 tyX1_ok nmX1 hP hD hS hA rfl 3 (by decide) kF_X1_22 rfl hin (Nat.le_of_ble_eq_true rfl) 4 (by decide) (by decide) (by decide) (Nat.le_of_ble_eq_true rfl) (Nat.le_of_ble_eq_true rfl) dX1_init_25 dX1_init_27 (fun q3 H locs hP hD hS => ?_)
  have hP : va_P D vwCl [(h0, .inr (1, [.int 0, .ref q1, .ref q2, .ref q3, .null, .null, .null, .null, .null, .null])), (q1, .inl (cI, 4, .inl fun _ => 0)), (q2, .inl (cI, 4, .inl fun _ => 0)), (q3, .inl (cI, 4, .inl fun _ => 0))] H := hP
  have hD : va_D A [(h0, .inr (1, [.int 0, .ref q1, .ref q2, .ref q3, .null, .null, .null, .null, .null, .null])), (q1, .inl (cI, 4, .inl fun _ => 0)), (q2, .inl (cI, 4, .inl fun _ => 0)), (q3, .inl (cI, 4, .inl fun _ => 0))] := hD
  refine W.widen (k := 3) (n := 12) (by omega) (by omega) ?_
  refine lv_aload_n hx hb dX1_init_30 rfl (lv_at hl 0 rfl) ?_
  refine lv_iconst (v := 4) hx hb dX1_init_31 (by decide) ?_
  refine g_arr (idx := 25) (nm := "healths") hx hb hB hown hK kU_X1 tyX1 tyX1_ok nmX1 hP hD hS hA rfl 4 (by decide) kF_X1_25 rfl hin (Nat.le_of_ble_eq_true rfl) 4 (by decide) (by decide) (by decide) (Nat.le_of_ble_eq_true rfl) (Nat.le_of_ble_eq_true rfl) dX1_init_32 dX1_init_34 (fun q4 H locs hP hD hS => ?_)
  have hP : va_P D vwCl [(h0, .inr (1, [.int 0, .ref q1, .ref q2, .ref q3, .ref q4, .null, .null, .null, .null, .null])), (q1, .inl (cI, 4, .inl fun _ => 0)), (q2, .inl (cI, 4, .inl fun _ => 0)), (q3, .inl (cI, 4, .inl fun _ => 0)), (q4, .inl (cI, 4, .inl fun _ => 0))] H := hP
  have hD : va_D A [(h0, .inr (1, [.int 0, .ref q1, .ref q2, .ref q3, .ref q4, .null, .null, .null, .null, .null])), (q1, .inl (cI, 4, .inl fun _ => 0)), (q2, .inl (cI, 4, .inl fun _ => 0)), (q3, .inl (cI, 4, .inl fun _ => 0)), (q4, .inl (cI, 4, .inl fun _ => 0))] := hD
  refine W.widen (k := 4) (n := 16) (by omega) (by omega) ?_
  refine lv_aload_n hx hb dX1_init_37 rfl (lv_at hl 0 rfl) ?_
  refine lv_iconst (v := 4) hx hb dX1_init_38 (by decide) ?_
  refine g_arr (idx := 28) (nm := "readyTimes") hx hb hB hown hK kU_X1 tyX1 tyX1_ok nmX1 hP hD hS hA rfl 5 (by decide) kF_X1_28 rfl hin (Nat.le_of_ble_eq_true rfl) 4 (by decide) (by decide) (by decide) (Nat.le_of_ble_eq_true rfl) (Nat.le_of_ble_eq_true rfl) dX1_init_39 dX1_init_41 (fun q5 H locs hP hD hS => ?_)
  have hP : va_P D vwCl [(h0, .inr (1, [.int 0, .ref q1, .ref q2, .ref q3, .ref q4, .ref q5, .null, .null, .null, .null])), (q1, .inl (cI, 4, .inl fun _ => 0)), (q2, .inl (cI, 4, .inl fun _ => 0)), (q3, .inl (cI, 4, .inl fun _ => 0)), (q4, .inl (cI, 4, .inl fun _ => 0)), (q5, .inl (cI, 4, .inl fun _ => 0))] H := hP
  have hD : va_D A [(h0, .inr (1, [.int 0, .ref q1, .ref q2, .ref q3, .ref q4, .ref q5, .null, .null, .null, .null])), (q1, .inl (cI, 4, .inl fun _ => 0)), (q2, .inl (cI, 4, .inl fun _ => 0)), (q3, .inl (cI, 4, .inl fun _ => 0)), (q4, .inl (cI, 4, .inl fun _ => 0)), (q5, .inl (cI, 4, .inl fun _ => 0))] := hD
  refine W.widen (k := 5) (n := 20) (by omega) (by omega) ?_
  refine lv_aload_n hx hb dX1_init_44 rfl (lv_at hl 0 rfl) ?_
  refine lv_bipush (v := 20) hx hb dX1_init_45 (by decide) ?_
  refine g_arr (idx := 31) (nm := "goods") hx hb hB hown hK kU_X1 tyX1 tyX1_ok nmX1 hP hD hS hA rfl 6 (by decide) kF_X1_31 rfl hin (Nat.le_of_ble_eq_true rfl) 20 (by decide) (by decide) (by decide) (Nat.le_of_ble_eq_true rfl) (Nat.le_of_ble_eq_true rfl) dX1_init_47 dX1_init_49 (fun q6 H locs hP hD hS => ?_)
  have hP : va_P D vwCl [(h0, .inr (1, [.int 0, .ref q1, .ref q2, .ref q3, .ref q4, .ref q5, .ref q6, .null, .null, .null])), (q1, .inl (cI, 4, .inl fun _ => 0)), (q2, .inl (cI, 4, .inl fun _ => 0)), (q3, .inl (cI, 4, .inl fun _ => 0)), (q4, .inl (cI, 4, .inl fun _ => 0)), (q5, .inl (cI, 4, .inl fun _ => 0)), (q6, .inl (cI, 20, .inl fun _ => 0))] H := hP
  have hD : va_D A [(h0, .inr (1, [.int 0, .ref q1, .ref q2, .ref q3, .ref q4, .ref q5, .ref q6, .null, .null, .null])), (q1, .inl (cI, 4, .inl fun _ => 0)), (q2, .inl (cI, 4, .inl fun _ => 0)), (q3, .inl (cI, 4, .inl fun _ => 0)), (q4, .inl (cI, 4, .inl fun _ => 0)), (q5, .inl (cI, 4, .inl fun _ => 0)), (q6, .inl (cI, 20, .inl fun _ => 0))] := hD
  refine W.widen (k := 6) (n := 40) (by omega) (by omega) ?_
  refine lv_aload_n hx hb dX1_init_52 rfl (lv_at hl 0 rfl) ?_
  refine lv_bipush (v := 12) hx hb dX1_init_53 (by decide) ?_
  refine g_arr (idx := 34) (nm := "reached") hx hb hB hown hK kU_X1 tyX1 tyX1_ok nmX1 hP hD hS hA rfl 7 (by decide) kF_X1_34 rfl hin (Nat.le_of_ble_eq_true rfl) 12 (by decide) (by decide) (by decide) (Nat.le_of_ble_eq_true rfl) (Nat.le_of_ble_eq_true rfl) dX1_init_55 dX1_init_57 (fun q7 H locs hP hD hS => ?_)
  have hP : va_P D vwCl [(h0, .inr (1, [.int 0, .ref q1, .ref q2, .ref q3, .ref q4, .ref q5, .ref q6, .ref q7, .null, .null])), (q1, .inl (cI, 4, .inl fun _ => 0)), (q2, .inl (cI, 4, .inl fun _ => 0)), (q3, .inl (cI, 4, .inl fun _ => 0)), (q4, .inl (cI, 4, .inl fun _ => 0)), (q5, .inl (cI, 4, .inl fun _ => 0)), (q6, .inl (cI, 20, .inl fun _ => 0)), (q7, .inl (cI, 12, .inl fun _ => 0))] H := hP
  have hD : va_D A [(h0, .inr (1, [.int 0, .ref q1, .ref q2, .ref q3, .ref q4, .ref q5, .ref q6, .ref q7, .null, .null])), (q1, .inl (cI, 4, .inl fun _ => 0)), (q2, .inl (cI, 4, .inl fun _ => 0)), (q3, .inl (cI, 4, .inl fun _ => 0)), (q4, .inl (cI, 4, .inl fun _ => 0)), (q5, .inl (cI, 4, .inl fun _ => 0)), (q6, .inl (cI, 20, .inl fun _ => 0)), (q7, .inl (cI, 12, .inl fun _ => 0))] := hD
  refine W.widen (k := 7) (n := 52) (by omega) (by omega) ?_
  refine lv_aload_n hx hb dX1_init_60 rfl (lv_at hl 0 rfl) ?_
  refine lv_bipush (v := 24) hx hb dX1_init_61 (by decide) ?_
  refine g_arr (idx := 37) (nm := "words") hx hb hB hown hK kU_X1 tyX1 tyX1_ok nmX1 hP hD hS hA rfl 8 (by decide) kF_X1_37 rfl hin (Nat.le_of_ble_eq_true rfl) 24 (by decide) (by decide) (by decide) (Nat.le_of_ble_eq_true rfl) (Nat.le_of_ble_eq_true rfl) dX1_init_63 dX1_init_65 (fun q8 H locs hP hD hS => ?_)
  have hP : va_P D vwCl [(h0, .inr (1, [.int 0, .ref q1, .ref q2, .ref q3, .ref q4, .ref q5, .ref q6, .ref q7, .ref q8, .null])), (q1, .inl (cI, 4, .inl fun _ => 0)), (q2, .inl (cI, 4, .inl fun _ => 0)), (q3, .inl (cI, 4, .inl fun _ => 0)), (q4, .inl (cI, 4, .inl fun _ => 0)), (q5, .inl (cI, 4, .inl fun _ => 0)), (q6, .inl (cI, 20, .inl fun _ => 0)), (q7, .inl (cI, 12, .inl fun _ => 0)), (q8, .inl (cI, 24, .inl fun _ => 0))] H := hP
  have hD : va_D A [(h0, .inr (1, [.int 0, .ref q1, .ref q2, .ref q3, .ref q4, .ref q5, .ref q6, .ref q7, .ref q8, .null])), (q1, .inl (cI, 4, .inl fun _ => 0)), (q2, .inl (cI, 4, .inl fun _ => 0)), (q3, .inl (cI, 4, .inl fun _ => 0)), (q4, .inl (cI, 4, .inl fun _ => 0)), (q5, .inl (cI, 4, .inl fun _ => 0)), (q6, .inl (cI, 20, .inl fun _ => 0)), (q7, .inl (cI, 12, .inl fun _ => 0)), (q8, .inl (cI, 24, .inl fun _ => 0))] := hD
  refine W.widen (k := 8) (n := 76) (by omega) (by omega) ?_
  refine lv_aload_n hx hb dX1_init_68 rfl (lv_at hl 0 rfl) ?_
  refine lv_iconst (v := 4) hx hb dX1_init_69 (by decide) ?_
  refine g_arr (idx := 40) (nm := "wordCounts") hx hb hB hown hK kU_X1 tyX1 tyX1_ok nmX1 hP hD hS hA rfl 9 (by decide) kF_X1_40 rfl hin (Nat.le_of_ble_eq_true rfl) 4 (by decide) (by decide) (by decide) (Nat.le_of_ble_eq_true rfl) (Nat.le_of_ble_eq_true rfl) dX1_init_70 dX1_init_72 (fun q9 H locs hP hD hS => ?_)
  have hP : va_P D vwCl [(h0, .inr (1, [.int 0, .ref q1, .ref q2, .ref q3, .ref q4, .ref q5, .ref q6, .ref q7, .ref q8, .ref q9])), (q1, .inl (cI, 4, .inl fun _ => 0)), (q2, .inl (cI, 4, .inl fun _ => 0)), (q3, .inl (cI, 4, .inl fun _ => 0)), (q4, .inl (cI, 4, .inl fun _ => 0)), (q5, .inl (cI, 4, .inl fun _ => 0)), (q6, .inl (cI, 20, .inl fun _ => 0)), (q7, .inl (cI, 12, .inl fun _ => 0)), (q8, .inl (cI, 24, .inl fun _ => 0)), (q9, .inl (cI, 4, .inl fun _ => 0))] H := hP
  have hD : va_D A [(h0, .inr (1, [.int 0, .ref q1, .ref q2, .ref q3, .ref q4, .ref q5, .ref q6, .ref q7, .ref q8, .ref q9])), (q1, .inl (cI, 4, .inl fun _ => 0)), (q2, .inl (cI, 4, .inl fun _ => 0)), (q3, .inl (cI, 4, .inl fun _ => 0)), (q4, .inl (cI, 4, .inl fun _ => 0)), (q5, .inl (cI, 4, .inl fun _ => 0)), (q6, .inl (cI, 20, .inl fun _ => 0)), (q7, .inl (cI, 12, .inl fun _ => 0)), (q8, .inl (cI, 24, .inl fun _ => 0)), (q9, .inl (cI, 4, .inl fun _ => 0))] := hD
  refine W.widen (k := 9) (n := 80) (by omega) (by omega) ?_
  obtain ⟨ad, had⟩ : ∃ ad : Nat → Nat, ad = fun k => ([h0, q1, q2, q3, q4, q5, q6, q7, q8, q9] : List Nat).getD k 0 := ⟨_, rfl⟩
  have hPg : va_P D vwCl (wsG 10 ad (EO ad cI) z0) H := by rw [had]; exact hP
  have hDg : va_D A (wsG 10 ad (EO ad cI) z0) := by rw [had]; exact hD
  have h00 : ad 0 = h0 := by rw [had]; rfl
  exact n_ret (E := fun ad => EO ad cI) hx hb hr hlocks ad h00 hPg hDg hS dX1_init_75
set_option maxHeartbeats 4000000 in
set_option maxRecDepth 100000 in
theorem n_X3 {l : Launch} {D : va_G} {cI cJ : ClassId} : MGn l yX3_init cX3_init 1 1 12 5 42 D cI cJ 3 [.int 0, .null, .null, .null, .null, .null] 6 0 (fun ad => EQ ad cI) z0 := by
  refine MGn.ofW (by decide) ?_
  intro p e s m args below meth c h0 A hx hb hr hml hlocks hin hown hB hK hP hD hS hA
  have hin : meth.name = "<init>" := hin
  have hown : s.vm.findClass RX3 = some m.cls := hown
  have hl := lv_entry ([.ref h0] : List Value) (n := 1) (Nat.le_of_ble_eq_true rfl)
  rw [lg_entry_eq]
  generalize (lg_sl ([.ref h0] : List Value) ++ List.replicate (1 - (lg_sl ([.ref h0] : List Value)).length) Slot.unset).toArray = ls at hl ⊢
  have hl : lv_has ls 1 [(0, .ref h0)] := hl
  refine lv_aload_n hx hb dX3_init_0 rfl (lv_at hl 0 rfl) ?_
  refine n_obj hx hb hB hown k_obX3 hml hl.1 dX3_init_1 (Nat.le_of_ble_eq_true rfl) (Nat.le_of_ble_eq_true rfl) ?_
  refine lv_aload_n hx hb dX3_init_4 rfl (lv_at hl 0 rfl) ?_
  refine lv_iconst (v := 0) hx hb dX3_init_5 (by decide) ?_
  refine va_put (ref := "MudCouncil$Quests") (v := .int 0) (ty := .int) hx hb hB kU_X3 tyX3 tyX3_ok nmX3 hown hK.1 hP hD hS 0 rfl (by rfl) 0 (by decide) (hB _ kF_X3_9) (fun _ h9 => h9) rfl (by decide +kernel) rfl rfl (Nat.le_of_ble_eq_true rfl) dX3_init_6 (fun H locs hP hD hS => ?_)
  have hP : va_P D vwCl [(h0, .inr (3, [.int 0, .null, .null, .null, .null, .null]))] H := hP
  have hD : va_D A [(h0, .inr (3, [.int 0, .null, .null, .null, .null, .null]))] := hD
  refine lv_aload_n hx hb dX3_init_9 rfl (lv_at hl 0 rfl) ?_
  refine lv_iconst (v := 3) hx hb dX3_init_10 (by decide) ?_
  refine g_arr (idx := 15) (nm := "rewards") hx hb hB hown hK kU_X3 tyX3 tyX3_ok nmX3 hP hD hS hA rfl 1 (by decide) kF_X3_15 rfl hin (Nat.le_of_ble_eq_true rfl) 3 (by decide) (by decide) (by decide) (Nat.le_of_ble_eq_true rfl) (Nat.le_of_ble_eq_true rfl) dX3_init_11 dX3_init_13 (fun q1 H locs hP hD hS => ?_)
  have hP : va_P D vwCl [(h0, .inr (3, [.int 0, .ref q1, .null, .null, .null, .null])), (q1, .inl (cI, 3, .inl fun _ => 0))] H := hP
  have hD : va_D A [(h0, .inr (3, [.int 0, .ref q1, .null, .null, .null, .null])), (q1, .inl (cI, 3, .inl fun _ => 0))] := hD
  refine W.widen (k := 1) (n := 3) (by omega) (by omega) ?_
  refine lv_aload_n hx hb dX3_init_16 rfl (lv_at hl 0 rfl) ?_
  refine lv_iconst (v := 3) hx hb dX3_init_17 (by decide) ?_
  refine g_arr (idx := 19) (nm := "lengths") hx hb hB hown hK kU_X3 tyX3 tyX3_ok nmX3 hP hD hS hA rfl 2 (by decide) kF_X3_19 rfl hin (Nat.le_of_ble_eq_true rfl) 3 (by decide) (by decide) (by decide) (Nat.le_of_ble_eq_true rfl) (Nat.le_of_ble_eq_true rfl) dX3_init_18 dX3_init_20 (fun q2 H locs hP hD hS => ?_)
  have hP : va_P D vwCl [(h0, .inr (3, [.int 0, .ref q1, .ref q2, .null, .null, .null])), (q1, .inl (cI, 3, .inl fun _ => 0)), (q2, .inl (cI, 3, .inl fun _ => 0))] H := hP
  have hD : va_D A [(h0, .inr (3, [.int 0, .ref q1, .ref q2, .null, .null, .null])), (q1, .inl (cI, 3, .inl fun _ => 0)), (q2, .inl (cI, 3, .inl fun _ => 0))] := hD
  refine W.widen (k := 2) (n := 6) (by omega) (by omega) ?_
  refine lv_aload_n hx hb dX3_init_23 rfl (lv_at hl 0 rfl) ?_
  refine lv_bipush (v := 12) hx hb dX3_init_24 (by decide) ?_
  refine g_arr (idx := 22) (nm := "kinds") hx hb hB hown hK kU_X3 tyX3 tyX3_ok nmX3 hP hD hS hA rfl 3 (by decide) kF_X3_22 rfl hin (Nat.le_of_ble_eq_true rfl) 12 (by decide) (by decide) (by decide) (Nat.le_of_ble_eq_true rfl) (Nat.le_of_ble_eq_true rfl) dX3_init_26 dX3_init_28 (fun q3 H locs hP hD hS => ?_)
  have hP : va_P D vwCl [(h0, .inr (3, [.int 0, .ref q1, .ref q2, .ref q3, .null, .null])), (q1, .inl (cI, 3, .inl fun _ => 0)), (q2, .inl (cI, 3, .inl fun _ => 0)), (q3, .inl (cI, 12, .inl fun _ => 0))] H := hP
  have hD : va_D A [(h0, .inr (3, [.int 0, .ref q1, .ref q2, .ref q3, .null, .null])), (q1, .inl (cI, 3, .inl fun _ => 0)), (q2, .inl (cI, 3, .inl fun _ => 0)), (q3, .inl (cI, 12, .inl fun _ => 0))] := hD
  refine W.widen (k := 3) (n := 18) (by omega) (by omega) ?_
  refine lv_aload_n hx hb dX3_init_31 rfl (lv_at hl 0 rfl) ?_
  refine lv_bipush (v := 12) hx hb dX3_init_32 (by decide) ?_
  refine g_arr (idx := 25) (nm := "firsts") hx hb hB hown hK kU_X3 tyX3 tyX3_ok nmX3 hP hD hS hA rfl 4 (by decide) kF_X3_25 rfl hin (Nat.le_of_ble_eq_true rfl) 12 (by decide) (by decide) (by decide) (Nat.le_of_ble_eq_true rfl) (Nat.le_of_ble_eq_true rfl) dX3_init_34 dX3_init_36 (fun q4 H locs hP hD hS => ?_)
  have hP : va_P D vwCl [(h0, .inr (3, [.int 0, .ref q1, .ref q2, .ref q3, .ref q4, .null])), (q1, .inl (cI, 3, .inl fun _ => 0)), (q2, .inl (cI, 3, .inl fun _ => 0)), (q3, .inl (cI, 12, .inl fun _ => 0)), (q4, .inl (cI, 12, .inl fun _ => 0))] H := hP
  have hD : va_D A [(h0, .inr (3, [.int 0, .ref q1, .ref q2, .ref q3, .ref q4, .null])), (q1, .inl (cI, 3, .inl fun _ => 0)), (q2, .inl (cI, 3, .inl fun _ => 0)), (q3, .inl (cI, 12, .inl fun _ => 0)), (q4, .inl (cI, 12, .inl fun _ => 0))] := hD
  refine W.widen (k := 4) (n := 30) (by omega) (by omega) ?_
  refine lv_aload_n hx hb dX3_init_39 rfl (lv_at hl 0 rfl) ?_
  refine lv_bipush (v := 12) hx hb dX3_init_40 (by decide) ?_
  refine g_arr (idx := 28) (nm := "seconds") hx hb hB hown hK kU_X3 tyX3 tyX3_ok nmX3 hP hD hS hA rfl 5 (by decide) kF_X3_28 rfl hin (Nat.le_of_ble_eq_true rfl) 12 (by decide) (by decide) (by decide) (Nat.le_of_ble_eq_true rfl) (Nat.le_of_ble_eq_true rfl) dX3_init_42 dX3_init_44 (fun q5 H locs hP hD hS => ?_)
  have hP : va_P D vwCl [(h0, .inr (3, [.int 0, .ref q1, .ref q2, .ref q3, .ref q4, .ref q5])), (q1, .inl (cI, 3, .inl fun _ => 0)), (q2, .inl (cI, 3, .inl fun _ => 0)), (q3, .inl (cI, 12, .inl fun _ => 0)), (q4, .inl (cI, 12, .inl fun _ => 0)), (q5, .inl (cI, 12, .inl fun _ => 0))] H := hP
  have hD : va_D A [(h0, .inr (3, [.int 0, .ref q1, .ref q2, .ref q3, .ref q4, .ref q5])), (q1, .inl (cI, 3, .inl fun _ => 0)), (q2, .inl (cI, 3, .inl fun _ => 0)), (q3, .inl (cI, 12, .inl fun _ => 0)), (q4, .inl (cI, 12, .inl fun _ => 0)), (q5, .inl (cI, 12, .inl fun _ => 0))] := hD
  refine W.widen (k := 5) (n := 42) (by omega) (by omega) ?_
  obtain ⟨ad, had⟩ : ∃ ad : Nat → Nat, ad = fun k => ([h0, q1, q2, q3, q4, q5] : List Nat).getD k 0 := ⟨_, rfl⟩
  have hPg : va_P D vwCl (wsG 6 ad (EQ ad cI) z0) H := by rw [had]; exact hP
  have hDg : va_D A (wsG 6 ad (EQ ad cI) z0) := by rw [had]; exact hD
  have h00 : ad 0 = h0 := by rw [had]; rfl
  exact n_ret (E := fun ad => EQ ad cI) hx hb hr hlocks ad h00 hPg hDg hS dX3_init_47
set_option maxHeartbeats 4000000 in
set_option maxRecDepth 100000 in
theorem n_X2 {l : Launch} {D : va_G} {cI cJ : ClassId} : MGn l yX2_init cX2_init 1 2 43 6 168 D cI cJ 2 [.null, .null, .null, .null, .null, .null] 7 0 (fun ad => EP ad cI) zP := by
  refine MGn.ofW (by decide) ?_
  intro p e s m args below meth c h0 A hx hb hr hml hlocks hin hown hB hK hP hD hS hA
  have hin : meth.name = "<init>" := hin
  have hown : s.vm.findClass RX2 = some m.cls := hown
  have hl := lv_entry ([.ref h0] : List Value) (n := 1) (Nat.le_of_ble_eq_true rfl)
  rw [lg_entry_eq]
  generalize (lg_sl ([.ref h0] : List Value) ++ List.replicate (1 - (lg_sl ([.ref h0] : List Value)).length) Slot.unset).toArray = ls at hl ⊢
  have hl : lv_has ls 1 [(0, .ref h0)] := hl
  refine lv_aload_n hx hb dX2_init_0 rfl (lv_at hl 0 rfl) ?_
  refine n_obj hx hb hB hown k_obX2 hml hl.1 dX2_init_1 (Nat.le_of_ble_eq_true rfl) (Nat.le_of_ble_eq_true rfl) ?_
  refine lv_aload_n hx hb dX2_init_4 rfl (lv_at hl 0 rfl) ?_
  refine lv_bipush (v := 32) hx hb dX2_init_5 (by decide) ?_
  refine g_arr (idx := 9) (nm := "exits") hx hb hB hown hK kU_X2 tyX2 tyX2_ok nmX2 hP hD hS hA rfl 0 (by decide) kF_X2_9 rfl hin (Nat.le_of_ble_eq_true rfl) 32 (by decide) (by decide) (by decide) (Nat.le_of_ble_eq_true rfl) (Nat.le_of_ble_eq_true rfl) dX2_init_7 dX2_init_9 (fun q1 H locs hP hD hS => ?_)
  have hP : va_P D vwCl [(h0, .inr (2, [.ref q1, .null, .null, .null, .null, .null])), (q1, .inl (cI, 32, .inl fun _ => 0))] H := hP
  have hD : va_D A [(h0, .inr (2, [.ref q1, .null, .null, .null, .null, .null])), (q1, .inl (cI, 32, .inl fun _ => 0))] := hD
  refine W.widen (k := 1) (n := 32) (by omega) (by omega) ?_
  refine lv_aload_n hx hb dX2_init_12 rfl (lv_at hl 0 rfl) ?_
  refine lv_bipush (v := 8) hx hb dX2_init_13 (by decide) ?_
  refine g_arr (idx := 15) (nm := "tills") hx hb hB hown hK kU_X2 tyX2 tyX2_ok nmX2 hP hD hS hA rfl 1 (by decide) kF_X2_15 rfl hin (Nat.le_of_ble_eq_true rfl) 8 (by decide) (by decide) (by decide) (Nat.le_of_ble_eq_true rfl) (Nat.le_of_ble_eq_true rfl) dX2_init_15 dX2_init_17 (fun q2 H locs hP hD hS => ?_)
  have hP : va_P D vwCl [(h0, .inr (2, [.ref q1, .ref q2, .null, .null, .null, .null])), (q1, .inl (cI, 32, .inl fun _ => 0)), (q2, .inl (cI, 8, .inl fun _ => 0))] H := hP
  have hD : va_D A [(h0, .inr (2, [.ref q1, .ref q2, .null, .null, .null, .null])), (q1, .inl (cI, 32, .inl fun _ => 0)), (q2, .inl (cI, 8, .inl fun _ => 0))] := hD
  refine W.widen (k := 2) (n := 40) (by omega) (by omega) ?_
  refine lv_aload_n hx hb dX2_init_20 rfl (lv_at hl 0 rfl) ?_
  refine lv_bipush (v := 40) hx hb dX2_init_21 (by decide) ?_
  refine g_arr (idx := 18) (nm := "prices") hx hb hB hown hK kU_X2 tyX2 tyX2_ok nmX2 hP hD hS hA rfl 2 (by decide) kF_X2_18 rfl hin (Nat.le_of_ble_eq_true rfl) 40 (by decide) (by decide) (by decide) (Nat.le_of_ble_eq_true rfl) (Nat.le_of_ble_eq_true rfl) dX2_init_23 dX2_init_25 (fun q3 H locs hP hD hS => ?_)
  have hP : va_P D vwCl [(h0, .inr (2, [.ref q1, .ref q2, .ref q3, .null, .null, .null])), (q1, .inl (cI, 32, .inl fun _ => 0)), (q2, .inl (cI, 8, .inl fun _ => 0)), (q3, .inl (cI, 40, .inl fun _ => 0))] H := hP
  have hD : va_D A [(h0, .inr (2, [.ref q1, .ref q2, .ref q3, .null, .null, .null])), (q1, .inl (cI, 32, .inl fun _ => 0)), (q2, .inl (cI, 8, .inl fun _ => 0)), (q3, .inl (cI, 40, .inl fun _ => 0))] := hD
  refine W.widen (k := 3) (n := 80) (by omega) (by omega) ?_
  refine lv_aload_n hx hb dX2_init_28 rfl (lv_at hl 0 rfl) ?_
  refine lv_bipush (v := 40) hx hb dX2_init_29 (by decide) ?_
  refine g_arr (idx := 21) (nm := "stocks") hx hb hB hown hK kU_X2 tyX2 tyX2_ok nmX2 hP hD hS hA rfl 3 (by decide) kF_X2_21 rfl hin (Nat.le_of_ble_eq_true rfl) 40 (by decide) (by decide) (by decide) (Nat.le_of_ble_eq_true rfl) (Nat.le_of_ble_eq_true rfl) dX2_init_31 dX2_init_33 (fun q4 H locs hP hD hS => ?_)
  have hP : va_P D vwCl [(h0, .inr (2, [.ref q1, .ref q2, .ref q3, .ref q4, .null, .null])), (q1, .inl (cI, 32, .inl fun _ => 0)), (q2, .inl (cI, 8, .inl fun _ => 0)), (q3, .inl (cI, 40, .inl fun _ => 0)), (q4, .inl (cI, 40, .inl fun _ => 0))] H := hP
  have hD : va_D A [(h0, .inr (2, [.ref q1, .ref q2, .ref q3, .ref q4, .null, .null])), (q1, .inl (cI, 32, .inl fun _ => 0)), (q2, .inl (cI, 8, .inl fun _ => 0)), (q3, .inl (cI, 40, .inl fun _ => 0)), (q4, .inl (cI, 40, .inl fun _ => 0))] := hD
  refine W.widen (k := 4) (n := 120) (by omega) (by omega) ?_
  refine lv_aload_n hx hb dX2_init_36 rfl (lv_at hl 0 rfl) ?_
  refine lv_bipush (v := 40) hx hb dX2_init_37 (by decide) ?_
  refine g_arr (idx := 24) (nm := "floors") hx hb hB hown hK kU_X2 tyX2 tyX2_ok nmX2 hP hD hS hA rfl 4 (by decide) kF_X2_24 rfl hin (Nat.le_of_ble_eq_true rfl) 40 (by decide) (by decide) (by decide) (Nat.le_of_ble_eq_true rfl) (Nat.le_of_ble_eq_true rfl) dX2_init_39 dX2_init_41 (fun q5 H locs hP hD hS => ?_)
  have hP : va_P D vwCl [(h0, .inr (2, [.ref q1, .ref q2, .ref q3, .ref q4, .ref q5, .null])), (q1, .inl (cI, 32, .inl fun _ => 0)), (q2, .inl (cI, 8, .inl fun _ => 0)), (q3, .inl (cI, 40, .inl fun _ => 0)), (q4, .inl (cI, 40, .inl fun _ => 0)), (q5, .inl (cI, 40, .inl fun _ => 0))] H := hP
  have hD : va_D A [(h0, .inr (2, [.ref q1, .ref q2, .ref q3, .ref q4, .ref q5, .null])), (q1, .inl (cI, 32, .inl fun _ => 0)), (q2, .inl (cI, 8, .inl fun _ => 0)), (q3, .inl (cI, 40, .inl fun _ => 0)), (q4, .inl (cI, 40, .inl fun _ => 0)), (q5, .inl (cI, 40, .inl fun _ => 0))] := hD
  refine W.widen (k := 5) (n := 160) (by omega) (by omega) ?_
  refine lv_aload_n hx hb dX2_init_44 rfl (lv_at hl 0 rfl) ?_
  refine lv_bipush (v := 8) hx hb dX2_init_45 (by decide) ?_
  refine g_arr (idx := 27) (nm := "steps") hx hb hB hown hK kU_X2 tyX2 tyX2_ok nmX2 hP hD hS hA rfl 5 (by decide) kF_X2_27 rfl hin (Nat.le_of_ble_eq_true rfl) 8 (by decide) (by decide) (by decide) (Nat.le_of_ble_eq_true rfl) (Nat.le_of_ble_eq_true rfl) dX2_init_47 dX2_init_49 (fun q6 H locs hP hD hS => ?_)
  have hP : va_P D vwCl [(h0, .inr (2, [.ref q1, .ref q2, .ref q3, .ref q4, .ref q5, .ref q6])), (q1, .inl (cI, 32, .inl fun _ => 0)), (q2, .inl (cI, 8, .inl fun _ => 0)), (q3, .inl (cI, 40, .inl fun _ => 0)), (q4, .inl (cI, 40, .inl fun _ => 0)), (q5, .inl (cI, 40, .inl fun _ => 0)), (q6, .inl (cI, 8, .inl fun _ => 0))] H := hP
  have hD : va_D A [(h0, .inr (2, [.ref q1, .ref q2, .ref q3, .ref q4, .ref q5, .ref q6])), (q1, .inl (cI, 32, .inl fun _ => 0)), (q2, .inl (cI, 8, .inl fun _ => 0)), (q3, .inl (cI, 40, .inl fun _ => 0)), (q4, .inl (cI, 40, .inl fun _ => 0)), (q5, .inl (cI, 40, .inl fun _ => 0)), (q6, .inl (cI, 8, .inl fun _ => 0))] := hD
  refine W.widen (k := 6) (n := 168) (by omega) (by omega) ?_
  obtain ⟨ad, had⟩ : ∃ ad : Nat → Nat, ad = fun k => ([h0, q1, q2, q3, q4, q5, q6] : List Nat).getD k 0 := ⟨_, rfl⟩
  have hPg : va_P D vwCl (wsG 7 ad (EP ad cI) z0) H := by rw [had]; exact hP
  have hDg : va_D A (wsG 7 ad (EP ad cI) z0) := by rw [had]; exact hD
  have h00 : ad 0 = h0 := by rw [had]; rfl
  clear had
  subst h00
  obtain ⟨hi, hAd⟩ := wsG_inj hDg
  refine lv_aload_n hx hb dX2_init_52 rfl (lv_at hl 0 rfl) ?_
  refine g_cVvS (k0 := 0) ⟨⟨hx, hb, hml, hown, hB⟩, hK, hi, hA, hAd, hPg, hS⟩ (c_P2_clear hi (rfl : f_P2_clear z0 = some zP)) cal_X2_clear kM_X2_30 ⟨Nat.le_of_ble_eq_true rfl, Nat.le_of_ble_eq_true rfl⟩ (by decide) rfl rfl rfl hl.1 (Nat.zero_le _) rfl dX2_init_53 ⟨Nat.le_of_ble_eq_true rfl, Nat.le_of_ble_eq_true rfl⟩ (fun H locs hP hS => ?_)
  exact n_ret (E := fun ad => EP ad cI) hx hb hr hlocks ad rfl hP (wsG_D hi hAd) hS dX2_init_56
