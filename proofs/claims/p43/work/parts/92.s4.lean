section CROW
variable {p : Program} {l : Launch} {e : Env} {R : Room} {s : State} {m : MethodId} {args : Array Value} {below : List Frame} {meth : Method} {c : Code} {H : Heap} {locs : List Loc} {cells slots : Nat} {Q : State → Prop}
variable {cc : ByteArray} {pc nL : Nat} {ls : Array Slot} {rest st0 : List Value} {D : va_G} {cI cJ : ClassId} {idx b L : Nat} {xs : Nat → Int32} {a0 r : Int32} {σr : Mem}
theorem g_co (S : CallFix p m c cc nL s args BIG RL) (hK : KK D cI cJ s) (hZ : ZZ (fun q : Nat => s.heap.size ≤ q) s s.heap) (hN : NC s) (hX : va_X b L xs s s.heap) (hbl : b < s.heap.size) (hS : va_S (fun q : Nat => s.heap.size ≤ q) s.heap H locs) (hflag : l.stackTraces = false) (hf : f_L_council xs L a0 = some (r, σr)) (hlk : Cond.methodLink RL idx yL_council ∈ BIG) (hR : 12 + 1 ≤ R.frames ∧ 8 + (11 + 11) + 246 ≤ R.locals) (hsize : ls.size = nL) (hstk : st0 = [.int a0, .ref b] ++ rest) (hW : (rest.map fun v => v.category).sum ≤ 8) (hdg : decode cc pc = .ok (.invokestatic idx, 3)) (hcs : cells + 4000 ≤ R.cells ∧ slots + 6 * 4000 ≤ R.slots)
    (kk : ∀ (H : Heap) (locs : List Loc), va_S (fun q : Nat => s.heap.size ≤ q) s.heap H locs → W p l e R s m args below meth c H locs (cells + 4000) (slots + 6 * 4000) Q (F0 m (pc + 3) ls (.int r :: rest))) : W p l e R s m args below meth c H locs cells slots Q (F0 m pc ls st0) := by
  have hX1 : va_X b L xs s H := hX.kept (hS.2.1 b hbl (Nat.not_le.mpr hbl))
  have hZ1 : ZZ (fun q : Nat => H.size ≤ q) s H := (hZ.kept hS.2.1).narrow fun q h => Nat.le_trans hS.1 h
  refine va_calli (va_runS (As := [.ref b, .int a0]) S (c_L_council (D := D) (cI := cI) (cJ := cJ) (b := b) hflag hf H.size) (va_cwS 2 S.2.2.2.2 (cal_L_council.good hlk) rfl rfl rfl cal_L_council.2.2.2 hR) ⟨blindC, fun U hU hW => ⟨rfl, by rw [hU], KK.warm hW hK, by rw [hU]; exact hZ1.moved hW.alike, NC.moved hW.alike hN, by rw [hU]; exact hX1.moved hW.alike, Nat.lt_of_lt_of_le hbl hS.1⟩⟩ rfl rfl hsize hstk (lv_room hW) hdg hcs) hS (fun q _ h => Nat.le_trans hS.1 h) (fun q h => Nat.le_trans hS.1 h) (fun r' u t H1 locs1 ht hvm hw hB hz1 hk1 hS1 => ?_)
  subst hw
  exact kk H1 locs1 hS1
end CROW
set_option maxHeartbeats 8000000 in
set_option maxRecDepth 100000 in
theorem whole_start {p : Program} {e : Env} {s : State} {m : MethodId} {below : List Frame} {meth : Method} {c : Code} (l : Launch) (hflags : l.flags = flags0) {b L : Nat} {xs : Nat → Int32} (hL : L ≤ 260) (C0 : lw_At p s m meth c b L xs) : W p l e room_1 s m #[Value.ref b] below meth c s.heap [] 0 0 (lw_Z below #[Value.ref b] s) (entryFrame m ([Value.ref b] : List Value).toArray 1) := by
  obtain ⟨hx, hb, hr, hml, hown, hts, hX, hbl, hlocks, hgv⟩ := C0
  have hflag : l.stackTraces = false := by unfold Launch.stackTraces; rw [hflags]; decide +kernel
  have hown : s.vm.findClass RL = some m.cls := hown
  have hB : ∀ w ∈ BIG, w.before #[Value.ref b] s = true := fun w hw => hts w (List.mem_filter.mp hw).1
  obtain ⟨D, cI, cJ, hK, hZ, hN⟩ := start_K hts hgv
  have hS : va_S (fun q : Nat => s.heap.size ≤ q) s.heap s.heap [] := va_S.rf
  have hl := lv_entry ([.ref b]) (n := 1) (Nat.le_of_ble_eq_true rfl)
  rw [lg_entry_eq]
  generalize (lg_sl ([.ref b]) ++ List.replicate (1 - (lg_sl ([.ref b])).length) Slot.unset).toArray = ls at hl ⊢
  have hl : lv_has ls 1 [(0, .ref b)] := hl
  obtain ⟨σ1, h1⟩ := council_true xs L hL 0 (by decide)
  obtain ⟨σ2, h2⟩ := council_true xs L hL 170 (by decide)
  obtain ⟨σ3, h3⟩ := council_true xs L hL 340 (by decide)
  have hRR : 12 + 1 ≤ room_1.frames ∧ 8 + (11 + 11) + 246 ≤ room_1.locals := ⟨Nat.le_of_ble_eq_true rfl, Nat.le_of_ble_eq_true rfl⟩
  refine lv_aload_n hx hb dL_law_0 rfl (lv_at hl 0 rfl) ?_
  refine lv_iconst (v := nI 0) hx hb dL_law_1 (by decide) ?_
  refine g_co ⟨hx, hb, hml, hown, hB⟩ hK hZ hN hX hbl hS hflag h1 kM_L_195 hRR hl.1 rfl (Nat.le_of_ble_eq_true rfl) dL_law_2 ⟨Nat.le_of_ble_eq_true rfl, Nat.le_of_ble_eq_true rfl⟩ (fun H locs hS => ?_)
  refine lv_if_eq (tgt := 32) hx hb dL_law_5 (by decide) (fun q => absurd q (by decide)) (fun _ => ?_)
  refine lv_aload_n hx hb dL_law_8 rfl (lv_at hl 0 rfl) ?_
  refine lv_sipush (v := nI 170) hx hb dL_law_9 (by decide) ?_
  refine g_co ⟨hx, hb, hml, hown, hB⟩ hK hZ hN hX hbl hS hflag h2 kM_L_195 hRR hl.1 rfl (Nat.le_of_ble_eq_true rfl) dL_law_12 ⟨Nat.le_of_ble_eq_true rfl, Nat.le_of_ble_eq_true rfl⟩ (fun H locs hS => ?_)
  refine lv_if_eq (tgt := 32) hx hb dL_law_15 (by decide) (fun q => absurd q (by decide)) (fun _ => ?_)
  refine lv_aload_n hx hb dL_law_18 rfl (lv_at hl 0 rfl) ?_
  refine lv_sipush (v := nI 340) hx hb dL_law_19 (by decide) ?_
  refine g_co ⟨hx, hb, hml, hown, hB⟩ hK hZ hN hX hbl hS hflag h3 kM_L_195 hRR hl.1 rfl (Nat.le_of_ble_eq_true rfl) dL_law_22 ⟨Nat.le_of_ble_eq_true rfl, Nat.le_of_ble_eq_true rfl⟩ (fun H locs hS => ?_)
  refine lv_if_eq (tgt := 32) hx hb dL_law_25 (by decide) (fun q => absurd q (by decide)) (fun _ => ?_)
  refine lv_iconst (v := 1) hx hb dL_law_28 (by decide) ?_
  refine lv_goto (tgt := 33) hx hb dL_law_29 (by decide) ?_
  refine va_forget (fun q hq => hS.2.2 q hq) ?_
  refine W.widen (k := 600104) (n := 7301314) (Nat.le_of_ble_eq_true rfl) (Nat.le_of_ble_eq_true rfl) ?_
  exact lw_ret hx hb hr hlocks dL_law_33
