/-! THE SCRIPT: what is drawn from it -/
def f_draw (xs : Nat → Int32) (L : Nat) (k m : Int32) : Option Int32 :=
  if nI L ≤ k then nz m <| some (jrem ((1012914657 * (k + 53) + 563787717) &&& 2147483647) m)
  else gd k L <| nz m <| some (jrem (xs k.toNatClampNeg &&& 2147483647) m)
def PreD (b L : Nat) (xs : Nat → Int32) (sz : Nat) (U : State) : Prop := U.heap.size = sz ∧ va_X b L xs U U.heap ∧ b < sz
theorem blindD {as : List Value} {b L : Nat} {xs : Nat → Int32} {sz : Nat} : FrameBlind (va_Pc as (PreD b L xs sz)) := fun _ _ _ _ h => ⟨h.1, h.2.1, va_X.moved (Vm.Alike.refl _) h.2.2.1, h.2.2.2⟩
set_option maxHeartbeats 4000000 in
set_option maxRecDepth 100000 in
theorem c_L_draw {l : Launch} {b L : Nat} {xs : Nat → Int32} {k m0 r : Int32} (hf : f_draw xs L k m0 = some r) (sz : Nat) : Met l yL_draw (Cond.code yL_draw cL_draw 4 (some .int) :: BIG) ({ frames := 0, cells := 0, slots := 0, locals := 0 }) (va_Pc [.ref b, .int k, .int m0] (PreD b L xs sz)) (va_Qi (fun r2 (_ : Unit) => r2 = r) (fun _ _ => True) (AG 0 (fun _ => 0) sz)) 0 0 (AG 0 (fun _ => 0) sz) := by
  refine Met.ofW (cc := cL_draw) (maxL := 4) (ret := some .int) (by decide) rfl ?_
  intro p e s m args below meth c s₁ B hml hv
  obtain ⟨rfl, hsz, hX, hbl⟩ := hv
  subst hsz
  have hx := B.exec
  have hb := B.bytes
  have hr := B.returns
  have hB := bigH (atoms_spec (ws := Cond.code yL_draw cL_draw 4 (some .int) :: BIG) B.pre)
  have hown : s.vm.findClass RL = some m.cls := findClass_of_methodNamed B.named
  have hbA : ¬ AG 0 (fun _ => 0) s.heap.size b := fun h => by
    rcases h with ⟨k, h, -⟩ | h
    · exact absurd h (Nat.not_lt_zero k)
    · exact absurd hbl (Nat.not_lt.mpr h)
  have hS : va_S (AG 0 (fun _ => 0) s.heap.size) s.heap s.heap [] := va_S.rf
  have hl := lv_entry ([.ref b, .int k, .int m0] : List Value) (n := 4) (Nat.le_of_ble_eq_true rfl)
  rw [lg_entry_eq]
  generalize (lg_sl ([.ref b, .int k, .int m0] : List Value) ++ List.replicate (4 - (lg_sl ([.ref b, .int k, .int m0] : List Value)).length) Slot.unset).toArray = ls at hl ⊢
  have hl : lv_has ls 4 [(0, .ref b), (1, .int k), (2, .int m0)] := hl
  unfold f_draw at hf
  have fin : ∀ (v : Int32) (ls : Array Slot), (nz m0 <| some (jrem (v &&& 2147483647) m0)) = some r → lv_has ls 4 [(0, .ref b), (1, .int k), (2, .int m0)] → W p l e ({ frames := 0, cells := 0, slots := 0, locals := 0 }) s m #[.ref b, .int k, .int m0] below meth c s.heap [] 0 0 (MQ below (va_Qi (fun r2 (_ : Unit) => r2 = r) (fun _ _ => True) (AG 0 (fun _ => 0) s.heap.size)) #[.ref b, .int k, .int m0] s 0 0 (AG 0 (fun _ => 0) s.heap.size)) (F0 m 22 ls [.int v]) := by
    intro v ls hf hl
    obtain ⟨hnz, hf⟩ := nz_e hf
    refine lv_istore_n (lv' := [(3, .int v), (0, .ref b), (1, .int k), (2, .int m0)]) hx hb dL_draw_22 rfl hl (by decide) rfl (fun ls hl => ?_)
    refine lv_iload_n hx hb dL_draw_23 rfl (lv_at hl 0 rfl) ?_
    refine lv_ldc (v := 2147483647) hx hb hown (hB _ kC_L_9) dL_draw_24 ?_
    refine lv_iand hx hb dL_draw_26 ?_
    refine lv_iload_n hx hb dL_draw_27 rfl (lv_at hl 3 rfl) ?_
    refine lv_iremJ hx hb dL_draw_28 hnz ?_
    have h1 := rt1 hf
    exact W.iret hx hb hr (fun t ht _ => ⟨⟨_, (), rfl, h1, trivial⟩, hS.F ht⟩) hS.2.2 dL_draw_29
  refine lv_iload_n hx hb dL_draw_0 rfl (lv_at hl 1 rfl) ?_
  refine lv_aload_n hx hb dL_draw_1 rfl (lv_at hl 0 rfl) ?_
  refine va_slen hx hb hX hbl hbA hS dL_draw_2 ?_
  refine lv_icmp_ge (tgt := 12) hx hb dL_draw_3 (by decide) (fun q => ?_) (fun q => ?_)
  · have q : nI L ≤ k := q
    rw [if_pos q] at hf
    refine lv_ldc (v := 1012914657) hx hb hown (hB _ kC_L_7) dL_draw_12 ?_
    refine lv_iload_n hx hb dL_draw_14 rfl (lv_at hl 1 rfl) ?_
    refine lv_bipush (v := 53) hx hb dL_draw_15 (by decide) ?_
    refine lv_iadd hx hb dL_draw_17 ?_
    refine lv_imul hx hb dL_draw_18 ?_
    refine lv_ldc (v := 563787717) hx hb hown (hB _ kC_L_8) dL_draw_19 ?_
    refine lv_iadd hx hb dL_draw_21 ?_
    exact fin _ _ hf hl
  · have q : ¬ nI L ≤ k := q
    rw [if_neg q] at hf
    obtain ⟨hin, hf⟩ := gd_e hf
    refine lv_aload_n hx hb dL_draw_6 rfl (lv_at hl 0 rfl) ?_
    refine lv_iload_n hx hb dL_draw_7 rfl (lv_at hl 1 rfl) ?_
    refine va_sld hx hb hX hbl hbA hS hin dL_draw_8 ?_
    refine lv_goto (tgt := 22) hx hb dL_draw_9 (by decide) ?_
    exact fin _ _ hf hl
section DROW
variable {p : Program} {l : Launch} {e : Env} {R : Room} {s : State} {m : MethodId} {args : Array Value} {below : List Frame} {meth : Method} {c : Code} {H : Heap} {locs : List Loc} {cells slots : Nat} {Q : State → Prop}
variable {cc : ByteArray} {pc nL : Nat} {ls : Array Slot} {rest st0 : List Value} {D : va_G} {cI cJ : ClassId} {A : Nat → Prop} {N : Nat} {ad : Nat → Nat} {E : Ent} {σ : Mem} {idx : Nat} {b L : Nat} {xs : Nat → Int32} {k m0 r : Int32}
theorem g_dr (G : Gc p s m args c H locs cc nL RL D cI cJ A N ad E σ) (hX : va_X b L xs s s.heap) (hbl : b < s.heap.size) (hbA : ¬ A b) (hf : f_draw xs L k m0 = some r) (hlk : Cond.methodLink RL idx yL_draw ∈ BIG) (hR : 1 ≤ R.frames ∧ 23 ≤ R.locals) (hsize : ls.size = nL) (hW : (rest.map fun v => v.category).sum ≤ 8) (hstk : st0 = [.int m0, .int k, .ref b] ++ rest) (hdg : decode cc pc = .ok (.invokestatic idx, 3)) (hcs : cells ≤ R.cells ∧ slots ≤ R.slots)
    (kk : ∀ (H : Heap) (locs : List Loc), va_P D vwCl (wsG N ad E σ) H → va_S A s.heap H locs → W p l e R s m args below meth c H locs cells slots Q (F0 m (pc + 3) ls (.int r :: rest))) : W p l e R s m args below meth c H locs cells slots Q (F0 m pc ls st0) := by
  obtain ⟨S, hK, hi, hA, hAd, hP, hS⟩ := G
  have hsub : subG N ad E 0 (fun _ => 0) E (fun k => k) := fun k h => absurd h (Nat.not_lt_zero k)
  have hFc := hsub.free hS hA hAd
  have hX1 : va_X b L xs s H := hX.kept (hS.2.1 b hbl hbA)
  refine va_calli (va_runS (As := [.ref b, .int k, .int m0]) S (c_L_draw hf H.size) (va_cwS 3 S.2.2.2.2 (cal_L_draw.good hlk) rfl rfl rfl cal_L_draw.2.2.2 hR) ⟨blindD, fun U hU hW => ⟨rfl, by rw [hU], by rw [hU]; exact hX1.moved hW.alike, Nat.lt_of_lt_of_le hbl hS.1⟩⟩ rfl rfl hsize hstk (lv_room hW) hdg hcs) hS (fun q _ h => hFc q h) hFc (fun r' u t H1 locs1 ht hvm hw hB hz1 hk1 hS1 => ?_)
  subst hw
  have hP1 : va_P D vwCl (wsG 0 (fun _ => 0) E σ) H1 := fun k q h => by simp [wsG] at h
  exact kk H1 locs1 (hsub.join (τ := σ) hi hP hP1 hk1 (fun k h => absurd h (Nat.not_lt_zero k)) (fun _ _ _ => rfl)) hS1
/-- a world of one's own: its end -/
theorem g_cret (hx : p.tables.exec = Jvm.exec) (hb : c.code = cc) (hr : meth.sig.returnType = some .boolean) (hlocks : meth.locks = false) (hS : va_S (fun q : Nat => s.heap.size ≤ q) s.heap H locs) {K : Nat} {v : Int32} (h0 : v = 0 ∨ v = 1) (h1 : v = r) (hdg : decode cc pc = .ok (.ireturn, 1)) :
    W p l e R s m args below meth c H locs K (6 * K) (MQ below (va_Qi (fun r2 (_ : Unit) => r2 = r) (fun _ _ => True) (fun q : Nat => s.heap.size ≤ q)) args s K (6 * K) (fun q : Nat => s.heap.size ≤ q)) (F0 m pc ls [.int v]) := by
  subst h1
  exact W.zret hx hb hr (by rcases h0 with rfl | rfl <;> rfl) (fun t ht _ => ⟨⟨v, (), rfl, rfl, trivial⟩, hS.F ht⟩) hS.2.2 hdg
end DROW
def adC (ad : Nat → Nat) (q1 q2 q3 : Nat) : Nat → Nat := fun k => if k < 51 then ad k else if k = 51 then q1 else if k = 52 then q2 else q3
def zC : Mem := fun k => if k < 51 then zX k else fun _ => 0
theorem adC_lo {ad : Nat → Nat} {q1 q2 q3 k : Nat} (h : k < 51) : adC ad q1 q2 q3 k = ad k := if_pos h
set_option maxRecDepth 100000 in
theorem EX_adC {ad : Nat → Nat} {q1 q2 q3 : Nat} {cI : ClassId} (k : Nat) (h : k < 51) : EX (adC ad q1 q2 q3) cI k = EX ad cI k := by
  match k, h with
  | 0, _ => rfl
  | 1, _ => rfl
  | 2, _ => rfl
  | 3, _ => rfl
  | 4, _ => rfl
  | 5, _ => rfl
  | 6, _ => rfl
  | 7, _ => rfl
  | 8, _ => rfl
  | 9, _ => rfl
  | 10, _ => rfl
  | 11, _ => rfl
  | 12, _ => rfl
  | 13, _ => rfl
  | 14, _ => rfl
  | 15, _ => rfl
  | 16, _ => rfl
  | 17, _ => rfl
  | 18, _ => rfl
  | 19, _ => rfl
  | 20, _ => rfl
  | 21, _ => rfl
  | 22, _ => rfl
  | 23, _ => rfl
  | 24, _ => rfl
  | 25, _ => rfl
  | 26, _ => rfl
  | 27, _ => rfl
  | 28, _ => rfl
  | 29, _ => rfl
  | 30, _ => rfl
  | 31, _ => rfl
  | 32, _ => rfl
  | 33, _ => rfl
  | 34, _ => rfl
  | 35, _ => rfl
  | 36, _ => rfl
  | 37, _ => rfl
  | 38, _ => rfl
  | 39, _ => rfl
  | 40, _ => rfl
  | 41, _ => rfl
  | 42, _ => rfl
  | 43, _ => rfl
  | 44, _ => rfl
  | 45, _ => rfl
  | 46, _ => rfl
  | 47, _ => rfl
  | 48, _ => rfl
  | 49, _ => rfl
  | 50, _ => rfl
  | n + 51, h => exact absurd h (by omega)
theorem j64_0 : (fun _ : Nat => j64 0 0) = fun _ => (0 : Int64) := by
  funext i; decide
theorem wsC {ad : Nat → Nat} {q1 q2 q3 : Nat} {cI cJ : ClassId} : wsG 54 (adC ad q1 q2 q3) (EY (adC ad q1 q2 q3) cI cJ) zC = wsG 51 ad (EX ad cI) zX ++ [(q1, .inl (cI, 13, .inl fun _ => 0))] ++ [(q2, .inl (cI, 60, .inl fun _ => 0))] ++ [(q3, .inl (cJ, 60, .inr (.inl fun _ => 0)))] := by
  unfold wsG
  rw [show (54 : Nat) = 51 + 1 + 1 + 1 from rfl, List.range_succ, List.range_succ, List.range_succ, List.map_append, List.map_append, List.map_append]
  have h : (List.range 51).map (fun k => (adC ad q1 q2 q3 k, EY (adC ad q1 q2 q3) cI cJ k (zC k))) = (List.range 51).map (fun k => (ad k, EX ad cI k (zX k))) := by
    apply List.map_congr_left
    intro k hk
    have hk := List.mem_range.mp hk
    rw [adC_lo hk, (EY_x hk).trans (EX_adC k hk)]
    show (ad k, EX ad cI k (if k < 51 then zX k else fun _ => 0)) = _
    rw [if_pos hk]
  rw [h, ← j64_0]
  rfl
def PreC (b L : Nat) (xs : Nat → Int32) (D : va_G) (cI cJ : ClassId) (sz : Nat) (U : State) : Prop := U.heap.size = sz ∧ KK D cI cJ U ∧ ZZ (fun q : Nat => sz ≤ q) U U.heap ∧ NC U ∧ va_X b L xs U U.heap ∧ b < sz
theorem blindC {as : List Value} {b L : Nat} {xs : Nat → Int32} {D : va_G} {cI cJ : ClassId} {sz : Nat} : FrameBlind (va_Pc as (PreC b L xs D cI cJ sz)) := fun _ _ _ _ h => ⟨h.1, h.2.1, KK.same rfl h.2.2.1, ZZ.moved (Vm.Alike.refl _) h.2.2.2.1, NC.moved (Vm.Alike.refl _) h.2.2.2.2.1, va_X.moved (Vm.Alike.refl _) h.2.2.2.2.2.1, h.2.2.2.2.2.2⟩
theorem arr_sameJ {cA cJ : ClassId} {U : State} {D : va_G} {cl : List vw_C} {tys : List (ClassId × FieldType)} (h : va_K D cl (tys ++ [(cA, .long)]) U) (hJ : tys[1]? = some (cJ, .long)) : cA = cJ := by
  have h0 : (tys ++ [(cA, FieldType.long)])[tys.length]? = some (cA, .long) := by rw [List.getElem?_append_right (Nat.le_refl _), Nat.sub_self]; rfl
  have h1 := (h.2 tys.length (cA, .long) h0).2
  have hlt : 1 < tys.length := (List.getElem?_eq_some_iff.mp hJ).1
  have h2 := (h.2 1 (cJ, .long) (by rw [List.getElem?_append_left hlt]; exact hJ)).2
  exact Option.some.inj (h1.symm.trans h2)
