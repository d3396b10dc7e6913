theorem arr_sameJ {cA cJ : ClassId} {U : State} {D : va_G} {cl : List vw_C} {cI : ClassId} (h : va_K D cl ([(cI, .int), (cJ, .long)] ++ [(cA, .long)]) U) : cA = cJ := by
  have h1 := (h.2 2 (cA, .long) rfl).2
  have h2 := (h.2 1 (cJ, .long) rfl).2
  exact Option.some.inj (h1.symm.trans h2)
def zL : Mem := fun k => if k < 51 then zX k else if k = 51 then z0 0 else zM (k - 52)
theorem SX_zL : SX 0 zL (sh2 zL) (fun _ => zM) := by
  have e : sh2 zL = zM := by
    funext k
    show (if k + 52 < 51 then zX (k + 52) else if k + 52 = 51 then z0 0 else zM (k + 52 - 52)) = zM k
    rw [if_neg (by omega), if_neg (by omega), Nat.add_sub_cancel]
  rw [e]
  exact SX_zX.same (fun k hk _ => if_pos (by omega)) rfl rfl WSm.rf rfl fun _ _ _ => rfl
theorem gR {A : Nat → Prop} {D : va_G} {cI : ClassId} {ad : Nat → Nat} {E : Ent} {σ : Mem} {H : Heap} {q : Nat} {x : va_E} : (List.range 51).map (fun i => (wsG 51 ad E σ ++ [(q, x)])[i]?) = (wsG 51 ad E σ).map some := by
  apply List.ext_getElem?
  intro k
  rw [List.getElem?_map, List.getElem?_map]
  by_cases h : k < 51
  · rw [List.getElem?_range h, wsG_get h]
    show some ((wsG 51 ad E σ ++ [(q, x)])[k]?) = some (some (ad k, E k (σ k)))
    rw [List.getElem?_append_left (by rw [show (wsG 51 ad E σ).length = 51 by unfold wsG; rw [List.length_map, List.length_range]]; exact h), wsG_get h]
  · rw [List.getElem?_eq_none (by rw [List.length_range]; omega), List.getElem?_eq_none (by rw [show (wsG 51 ad E σ).length = 51 by unfold wsG; rw [List.length_map, List.length_range]]; omega)]
    rfl
theorem gC {ad : Nat → Nat} {E : Ent} {σ : Mem} {q : Nat} {x : va_E} : [51].map (fun i => (wsG 51 ad E σ ++ [(q, x)])[i]?) = [(q, x)].map some := by
  have hl : (wsG 51 ad E σ).length = 51 := by unfold wsG; rw [List.length_map, List.length_range]
  rw [List.map_cons, List.map_nil, List.getElem?_append_right (by rw [hl]; omega), hl]
  rfl
set_option maxHeartbeats 8000000 in
set_option maxRecDepth 100000 in
theorem whole_start {p : Program} {e : Env} {s : State} {m : MethodId} {below : List Frame} {meth : Method} {c : Code} (l : Launch) (hflags : l.flags = flags0) {b L : Nat} {xs : Nat → Int32} (hL : L ≤ 2560) (C0 : lw_At p s m meth c b L xs) : W p l e room_1 s m #[Value.ref b] below meth c s.heap [] 0 0 (lw_Z below #[Value.ref b] s) (entryFrame m ([Value.ref b] : List Value).toArray 7) := by
  obtain ⟨hx, hb, hr, hml, hown, hts, hX, hbl, hlocks, hgv⟩ := C0
  have hflag : l.stackTraces = false := by unfold Launch.stackTraces; rw [hflags]; decide +kernel
  have hown : s.vm.findClass RL = some m.cls := hown
  have hA : ∀ q : Nat, s.heap.size ≤ q → (fun q : Nat => s.heap.size ≤ q) q := fun _ h => h
  have hbA : ¬ (fun q : Nat => s.heap.size ≤ q) b := Nat.not_le.mpr hbl
  have hB : ∀ w ∈ BIG, w.before #[Value.ref b] s = true := fun w hw => hts w (List.mem_filter.mp hw).1
  obtain ⟨D, cI, cJ, hK, hZ, hN⟩ := start_K hts hgv
  have hS : va_S (fun q : Nat => s.heap.size ≤ q) s.heap s.heap [] := va_S.rf
  have hP : va_P D vwCl [] s.heap := fun k q h => by simp at h
  have hD : va_D (fun q : Nat => s.heap.size ≤ q) [] := ⟨fun i j p q h => by simp at h, fun k q h => by simp at h⟩
  have hl := lv_entry ([.ref b]) (n := 7) (Nat.le_of_ble_eq_true rfl)
  rw [lg_entry_eq]
  generalize (lg_sl ([.ref b]) ++ List.replicate (7 - (lg_sl ([.ref b])).length) Slot.unset).toArray = ls at hl ⊢
  have hl : lv_has ls 7 [(0, .ref b)] := hl
  refine va_new (ci := 5) (fs := [.null, .null, .null]) (C := RX5) (T := TX5) (N := 3) hx hb hB kU_X5 tyX5 tyX5_ok hown (hB _ k_clL_8) (hB _ k_inX5) (hB _ kn_X5) hK.1 hP hD hS hA rfl (fun j hj => by rcases (show j = 0 ∨ j = 1 ∨ j = 2 by omega) with rfl | rfl | rfl <;> rfl) (Nat.le_of_ble_eq_true rfl) (Nat.le_of_ble_eq_true rfl) dL_law_0 (fun q1 H hP hD hS => ?_)
  refine W.widen (k := 1) (n := 3) (by omega) (by omega) ?_
  refine lv_dup hx hb dL_law_3 rfl ?_
  refine n_call (ws := []) (N := 51) (ob := 48) (E := fun ad => EX ad cI) (σ := zX) hx hb hml hown hB hK n_X5 hP hD hS hA kc_X5 kn_X5 ki_X5 kM_L_131 rfl (by decide +kernel) 0 [] rfl rfl rfl (by decide) ⟨(Nat.le_of_ble_eq_true rfl), (Nat.le_of_ble_eq_true rfl)⟩ hl.1 (Nat.le_of_ble_eq_true rfl) dL_law_4 ⟨(Nat.le_of_ble_eq_true rfl), (Nat.le_of_ble_eq_true rfl)⟩ (fun a1 H locs ha1 hP hD hS => ?_)
  rw [← ha1]
  refine W.widen (k := 51) (n := 3199) (by omega) (by omega) ?_
  refine lv_astore_n (lv' := [(1, .ref (a1 48)), (0, .ref b)]) hx hb dL_law_7 rfl hl (by decide) rfl (fun ls hl => ?_)
  have hP : va_P D vwCl (wsG 51 a1 (EX a1 cI) zX) H := hP
  have hD : va_D (fun q : Nat => s.heap.size ≤ q) (wsG 51 a1 (EX a1 cI) zX) := hD
  refine va_new (ci := 6) (fs := [.null, .null, .null, .null, .null, .int 0, .null, .null, .null, .null, .null, .null, .null, .null, .int 0, .int 0, .int 0, .null, .null, .null, .null, .null, .null, .int 0, .null, .null, .null, .null, .null, .int 0]) (C := RX6) (T := TX6) (N := 30) hx hb hB kU_X6 tyX6 tyX6_ok hown (hB _ k_clL_132) (hB _ k_inX6) (hB _ kn_X6) hK.1 hP hD hS hA rfl (fun j hj => by rcases (show j = 0 ∨ j = 1 ∨ j = 2 ∨ j = 3 ∨ j = 4 ∨ j = 5 ∨ j = 6 ∨ j = 7 ∨ j = 8 ∨ j = 9 ∨ j = 10 ∨ j = 11 ∨ j = 12 ∨ j = 13 ∨ j = 14 ∨ j = 15 ∨ j = 16 ∨ j = 17 ∨ j = 18 ∨ j = 19 ∨ j = 20 ∨ j = 21 ∨ j = 22 ∨ j = 23 ∨ j = 24 ∨ j = 25 ∨ j = 26 ∨ j = 27 ∨ j = 28 ∨ j = 29 by omega) with rfl | rfl | rfl | rfl | rfl | rfl | rfl | rfl | rfl | rfl | rfl | rfl | rfl | rfl | rfl | rfl | rfl | rfl | rfl | rfl | rfl | rfl | rfl | rfl | rfl | rfl | rfl | rfl | rfl | rfl <;> rfl) (Nat.le_of_ble_eq_true rfl) (Nat.le_of_ble_eq_true rfl) dL_law_8 (fun q2 H hP hD hS => ?_)
  refine W.widen (k := 52) (n := 3229) (by omega) (by omega) ?_
  refine lv_dup hx hb dL_law_11 rfl ?_
  refine n_call (ws := wsG 51 a1 (EX a1 cI) zX) (N := 25) (ob := 0) (E := fun ad => EM ad cI) (σ := zM) hx hb hml hown hB hK n_X6 hP hD hS hA kc_X6 kn_X6 ki_X6 kM_L_134 rfl (by decide +kernel) 51 (List.range 51) gC (gR (A := fun _ => True) (D := D) (cI := cI) (H := H)) (by decide) (by decide) ⟨(Nat.le_of_ble_eq_true rfl), (Nat.le_of_ble_eq_true rfl)⟩ hl.1 (Nat.le_of_ble_eq_true rfl) dL_law_12 ⟨(Nat.le_of_ble_eq_true rfl), (Nat.le_of_ble_eq_true rfl)⟩ (fun a2 H locs ha2 hP hD hS => ?_)
  rw [← ha2]
  refine W.widen (k := 76) (n := 14519) (by omega) (by omega) ?_
  refine lv_astore_n (lv' := [(2, .ref (a2 0)), (1, .ref (a1 48)), (0, .ref b)]) hx hb dL_law_15 rfl hl (by decide) rfl (fun ls hl => ?_)
  refine lv_iconst (v := 1) hx hb dL_law_16 (by decide) ?_
  refine va_newa (atype := .long) (a0 := (1, .inr (.inl fun _ => 0))) hx hb (hB _ k_arJ) rfl hK.1 hP hD hS hA (fun cA => rfl) (by decide) (by decide) (by decide) (Nat.le_of_ble_eq_true rfl) (Nat.le_of_ble_eq_true rfl) dL_law_17 (fun q3 cA H hK1 hP hD hS => ?_)
  have hcA : cA = cJ := arr_sameJ hK1
  subst hcA
  refine W.widen (k := 77) (n := 14520) (by omega) (by omega) ?_
  refine lv_astore_n (lv' := [(3, .ref q3), (2, .ref (a2 0)), (1, .ref (a1 48)), (0, .ref b)]) hx hb dL_law_19 rfl hl (by decide) rfl (fun ls hl => ?_)
  refine lv_iconst (v := 0) hx hb dL_law_20 (by decide) ?_
  refine lv_istore (lv' := [(4, .int 0), (3, .ref q3), (2, .ref (a2 0)), (1, .ref (a1 48)), (0, .ref b)]) hx hb dL_law_21 hl (by decide) rfl (fun ls hl => ?_)
  obtain ⟨ad, had⟩ : ∃ ad : Nat → Nat, ad = fun k => ([a1 0, a1 1, a1 2, a1 3, a1 4, a1 5, a1 6, a1 7, a1 8, a1 9, a1 10, a1 11, a1 12, a1 13, a1 14, a1 15, a1 16, a1 17, a1 18, a1 19, a1 20, a1 21, a1 22, a1 23, a1 24, a1 25, a1 26, a1 27, a1 28, a1 29, a1 30, a1 31, a1 32, a1 33, a1 34, a1 35, a1 36, a1 37, a1 38, a1 39, a1 40, a1 41, a1 42, a1 43, a1 44, a1 45, a1 46, a1 47, a1 48, a1 49, a1 50, q3, a2 0, a2 1, a2 2, a2 3, a2 4, a2 5, a2 6, a2 7, a2 8, a2 9, a2 10, a2 11, a2 12, a2 13, a2 14, a2 15, a2 16, a2 17, a2 18, a2 19, a2 20, a2 21, a2 22, a2 23, a2 24] : List Nat).getD k 0 := ⟨_, rfl⟩
  have hPg : va_P D vwCl (wsG 77 ad (EZ ad cI cA) zL) H := by rw [had]; exact hP.sub [0, 1, 2, 3, 4, 5, 6, 7, 8, 9, 10, 11, 12, 13, 14, 15, 16, 17, 18, 19, 20, 21, 22, 23, 24, 25, 26, 27, 28, 29, 30, 31, 32, 33, 34, 35, 36, 37, 38, 39, 40, 41, 42, 43, 44, 45, 46, 47, 48, 49, 50, 76, 51, 52, 53, 54, 55, 56, 57, 58, 59, 60, 61, 62, 63, 64, 65, 66, 67, 68, 69, 70, 71, 72, 73, 74, 75] rfl
  have hDg : va_D (fun q : Nat => s.heap.size ≤ q) (wsG 77 ad (EZ ad cI cA) zL) := by rw [had]; exact hD.sub [0, 1, 2, 3, 4, 5, 6, 7, 8, 9, 10, 11, 12, 13, 14, 15, 16, 17, 18, 19, 20, 21, 22, 23, 24, 25, 26, 27, 28, 29, 30, 31, 32, 33, 34, 35, 36, 37, 38, 39, 40, 41, 42, 43, 44, 45, 46, 47, 48, 49, 50, 76, 51, 52, 53, 54, 55, 56, 57, 58, 59, 60, 61, 62, 63, 64, 65, 66, 67, 68, 69, 70, 71, 72, 73, 74, 75] (by decide) rfl
  obtain ⟨hi, hAd⟩ := wsG_inj hDg
  have e1 : a1 48 = ad 48 := by rw [had]; rfl
  have e2 : a2 0 = ad 52 := by rw [had]; rfl
  have e3 : q3 = ad 51 := by rw [had]; rfl
  rw [e1, e2, e3] at hl
  exact law_loop hL hb hr hlocks (fun i hiL => ⟨⟨hx, hb, hml, hown, hB⟩, hK, hi, hA, hAd, hZ, hN, hX, hbl, hbA, by omega, hiL, hflag, by decide, by decide⟩) hx hX hbl 513 0 0 zL (fun _ => zM) H _ ls rfl (Nat.le_refl _) (Nat.zero_le _) SX_zL hPg hS (lv_sub hl [0, 4, 3, 2, 1] rfl)
