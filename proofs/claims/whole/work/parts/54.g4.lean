theorem Agr.zero {ok : Nat → Int32 → Prop} {e : Nat} {v t b : Int32} (h : Agr ok e v t b) (h0 : ∀ e t, ok e t → ¬ t = 0) (ht : t = 0) : e = 0 ∧ v = b := by
  rcases h with ⟨h1, -, h3⟩ | h
  · exact ⟨h1, h3⟩
  · exact absurd ht (h0 _ _ h)
theorem ok123_0 : ∀ e t, ok123 e t → ¬ t = 0 := fun e t h => by rcases h with ⟨-, rfl⟩ | ⟨-, rfl⟩ | ⟨-, rfl⟩ <;> decide
theorem ok12_0 : ∀ e t, ((e = 1 ∧ t = 1) ∨ (e = 2 ∧ t = 2)) → ¬ (t : Int32) = 0 := fun (e : Nat) (t : Int32) h => by rcases h with ⟨-, rfl⟩ | ⟨-, rfl⟩ <;> decide
theorem ok13_0 : ∀ e t, ok13 e t → ¬ t = 0 := fun e t h => by rcases h with ⟨-, rfl⟩ | ⟨-, rfl⟩ <;> decide
theorem ok23_0 : ∀ e t, ok23 e t → ¬ t = 0 := fun e t h => by rcases h with ⟨-, rfl⟩ | ⟨-, rfl⟩ <;> decide
theorem ok1_0 : ∀ e t, ok1 e t → ¬ t = 0 := fun e t h => by rcases h with ⟨-, rfl⟩; decide
theorem ok2_0 : ∀ e t, ok2 e t → ¬ t = 0 := fun e t h => by rcases h with ⟨-, rfl⟩; decide
theorem ok3_0 : ∀ e t, ok3 e t → ¬ t = 0 := fun e t h => by rcases h with ⟨-, rfl⟩; decide
theorem Agr.c {ok : Nat → Int32 → Prop} {e : Nat} {v t b : Int32} (h : Agr ok e v t b) : (e = 0 ∧ t = 0) ∨ ok e t := by
  rcases h with ⟨h1, h2, -⟩ | h
  · exact Or.inl ⟨h1, h2⟩
  · exact Or.inr h
theorem QR.law {ok : Nat → Int32 → Prop} {k : Nat} {τ μ : Mem} {M : Nat → Mem} {m : Option (Int32 × Mem)} {x : Option (Nat × Int32)} (hS : SX k τ μ M) (h : QR ok μ m x) : ∃ e v b μ', x = some (e, v) ∧ m = some (b, μ') ∧ SX k τ μ' M ∧ Agr ok e v (μ' 0 29) b := by
  obtain ⟨e, v, b, t, h1, h2, h3⟩ := h
  exact ⟨e, v, b, _, h1, h2, hS.thrown t, by rw [mu_at]; exact h3⟩
theorem law_distance {k : Nat} {τ μ : Mem} {M : Nat → Mem} (hS : SX k τ μ M) (x y : Int32) : LawR ok1 k (f_X6_distance μ x y) (f_X5_distance τ x y) := by
  rcases q_distance hS.1 hS.2.2.1 x y with ⟨e, t, h1, h2, h3⟩ | ⟨v, μ', τ', h2, h3, h4, h5⟩
  · exact ⟨e, 0, τ, 0, _, k, M, h3, h2, by omega, hS.thrown t, Or.inr (by rw [mu_at]; exact h1)⟩
  · refine ⟨0, v, τ', v, μ', k, M, h3, h2, by omega, hS.same (fun k _ q => h5 k q) (h5 49 (by decide)) (h5 50 (by decide)) ⟨fun i _ q => ?_, fun k k1 k2 => ?_⟩ ?_ (fun k k1 k2 => ?_), Or.inl ⟨rfl, ?_, rfl⟩⟩
    · rw [h4 0 (by decide), mu_pl q]
    · rw [h4 k (by omega), mu_n (by omega)]
    · rw [h4 0 (by decide), mu_pl (by decide)]
    · rw [h4 k (by omega), mu_n (by omega)]
    · rw [h4 0 (by decide), mu_at]
theorem out_v {τ' ρ μ' : Mem} {ex : Nat} {v b : Int32} (h : ex = 0 ∧ v = b) : mgM μ' (mgZ (rY τ' ρ ex v) ρ) 51 0 = b := by
  obtain ⟨rfl, rfl⟩ := h
  show (if (0 : Nat) = 0 then upd (ρ 51) 0 v else ρ 51) 0 = v
  rw [if_pos rfl]
  exact if_pos rfl
theorem kn_L : Cond.initialized RL ∈ BIG := mem_BIG 36 (by decide +kernel) (by decide +kernel)
set_option maxHeartbeats 4000000 in
set_option maxRecDepth 100000 in
theorem lc_0 {p : Program} {l : Launch} {e : Env} {R : Room} {s : State} {m : MethodId} {args : Array Value} {below : List Frame} {meth : Method} {c : Code} {H : Heap} {locs : List Loc} {cells slots : Nat} {Q : State → Prop} {ls : Array Slot} {D : va_G} {cI cJ : ClassId} {A : Nat → Prop} {ad : Nat → Nat} {ρ : Mem} {b L i k0 : Nat} {xs : Nat → Int32} {M : Nat → Mem} (C : LC p l R s m args c A b L i xs D cI cJ ad) (hS : SX k0 ρ (sh2 ρ) M) (hk : k0 < 512) (hP : va_P D vwCl (wsG 77 ad (EZ ad cI cJ) ρ) H) (hV : va_S A s.heap H locs) (hl : lv_has ls 7 [(4, .int (nI i)), (0, .ref b), (1, .ref (ad 48)), (2, .ref (ad 52)), (3, .ref (ad 51))]) (hcs : cells + 1 ≤ R.cells ∧ slots + 6 ≤ R.slots) (nxt : Nxt p l e R s m args below meth c A b i k0 D cI cJ ad cells slots Q) : W p l e R s m args below meth c H locs cells slots Q (F0 m 212 ls []) := by
  obtain ⟨⟨hx, hb, hml, hown, hB⟩, hK, hi, hA, hAd, hZ, hN, hX, hbl, hbA, hL, hiL, hflag, hRf, hRl⟩ := C
  obtain ⟨ex, v, τ', μ', k', M', hx1, hm1, hk1, hS1, hag⟩ := OpV.law hS hk (op_link (hS.beg hk) (xs (i + 1)) (xs (i + 2)) (xs (i + 3)))
  refine lv_aload_n hx hb dL_law_212 rfl (lv_at hl 2 rfl) ?_
  refine g_arg hx hb hX hbl hbA hV (lv_at hl 1 rfl) (lv_at hl 0 rfl) 1 (by omega) hL rfl dL_law_213 dL_law_214 dL_law_216 dL_law_217 dL_law_218 ?_
  refine g_arg hx hb hX hbl hbA hV (lv_at hl 1 rfl) (lv_at hl 0 rfl) 2 (by omega) hL rfl dL_law_219 dL_law_220 dL_law_222 dL_law_223 dL_law_224 ?_
  refine g_arg hx hb hX hbl hbA hV (lv_at hl 1 rfl) (lv_at hl 0 rfl) 3 (by omega) hL rfl dL_law_225 dL_law_226 dL_law_228 dL_law_229 dL_law_230 ?_
  refine g_cY (n := 4) (σr := (rV τ' ρ)) (As := [.ref (ad 48), .int (xs (i + 1)), .int (xs (i + 2)), .int (xs (i + 3))]) ⟨⟨hx, hb, hml, hown, hB⟩, hK, hi, hA, hAd, hP, hV⟩ hZ hN (h_link hflag (inj77 hi) hx1 hag.c (rV_1 τ' ρ) (rV_2 τ' ρ)) kw_L_link ks_L_link kn_L kM_L_135 (by decide +kernel) ⟨Nat.le_trans (Nat.le_of_ble_eq_true rfl) hRf, Nat.le_trans (Nat.le_of_ble_eq_true rfl) hRl⟩ rfl hl.1 (Nat.zero_le _) rfl dL_law_231 hcs (fun H locs hP hV => ?_)
  refine lv_istore (lv' := [(5, .int (μ' 0 29)), (4, .int (nI i)), (0, .ref b), (1, .ref (ad 48)), (2, .ref (ad 52)), (3, .ref (ad 51))]) hx hb dL_law_234 hl (by decide) rfl (fun ls hl => ?_)
  refine lv_aload_n hx hb dL_law_236 rfl (lv_at hl 4 rfl) ?_
  refine g_arg hx hb hX hbl hbA hV (lv_at hl 2 rfl) (lv_at hl 1 rfl) 1 (by omega) hL rfl dL_law_237 dL_law_238 dL_law_240 dL_law_241 dL_law_242 ?_
  refine g_arg hx hb hX hbl hbA hV (lv_at hl 2 rfl) (lv_at hl 1 rfl) 2 (by omega) hL rfl dL_law_243 dL_law_244 dL_law_246 dL_law_247 dL_law_248 ?_
  refine g_arg hx hb hX hbl hbA hV (lv_at hl 2 rfl) (lv_at hl 1 rfl) 3 (by omega) hL rfl dL_law_249 dL_law_250 dL_law_252 dL_law_253 dL_law_254 ?_
  refine g_cVv (k0 := 0) (b := ad 52) (τ := (mgM μ' (mgZ (rV τ' ρ) ρ))) (σc := sh2 ρ) (As := [.int (xs (i + 1)), .int (xs (i + 2)), .int (xs (i + 3))]) ⟨⟨hx, hb, hml, hown, hB⟩, hK, hi, hA, hAd, hP, hV⟩ sub_ZM (c_X6_link (inj77M hi) hm1) (fun k _ => (congrFun (sh2_Z (rV τ' ρ) ρ) k).symm) cal_X6_link kM_L_140 ⟨Nat.le_trans (Nat.le_of_ble_eq_true rfl) hRf, Nat.le_trans (Nat.le_of_ble_eq_true rfl) hRl⟩ (by decide) rfl rfl rfl rfl hl.1 (Nat.zero_le _) rfl dL_law_255 hcs (mgM_1 _ _) (mgM_2 _ _) (fun H locs hP hV => ?_)
  refine lv_aload_n hx hb dL_law_258 rfl (lv_at hl 4 rfl) ?_
  refine g_cVi (k0 := 0) (b := ad 52) (τ := (mgM μ' (mgZ (rV τ' ρ) ρ))) (σc := μ') (As := []) ⟨⟨hx, hb, hml, hown, hB⟩, hK, hi, hA, hAd, hP, hV⟩ sub_ZM (c_X6_thrown (σ := μ') (r := μ' 0 29) (inj77M hi) rfl) (fun k hk => (mgM_1 μ' _ k hk).symm) cal_X6_thrown kM_L_141 ⟨Nat.le_trans (Nat.le_of_ble_eq_true rfl) hRf, Nat.le_trans (Nat.le_of_ble_eq_true rfl) hRl⟩ (by decide) rfl rfl rfl rfl hl.1 (Nat.zero_le _) rfl dL_law_259 hcs (mgM_1 _ _) (fun _ _ _ => rfl) (fun H locs hP hV => ?_)
  refine lv_iload hx hb dL_law_262 (lv_at hl 0 rfl) ?_
  refine lv_icmp_eq (tgt := 269) hx hb dL_law_264 (by decide) (fun _ => ?_) (fun q9 => absurd rfl q9)
  refine lv_goto (tgt := 2496) hx hb dL_law_269 (by decide) ?_
  exact nxt _ _ _ _ _ _ hk1 (SX.putY (ρ := ρ) hS1 (rV_1 τ' ρ)) hP hV (lv_sub hl [1, 2, 3, 4, 5] rfl)
set_option maxHeartbeats 4000000 in
set_option maxRecDepth 100000 in
theorem lc_1 {p : Program} {l : Launch} {e : Env} {R : Room} {s : State} {m : MethodId} {args : Array Value} {below : List Frame} {meth : Method} {c : Code} {H : Heap} {locs : List Loc} {cells slots : Nat} {Q : State → Prop} {ls : Array Slot} {D : va_G} {cI cJ : ClassId} {A : Nat → Prop} {ad : Nat → Nat} {ρ : Mem} {b L i k0 : Nat} {xs : Nat → Int32} {M : Nat → Mem} (C : LC p l R s m args c A b L i xs D cI cJ ad) (hS : SX k0 ρ (sh2 ρ) M) (hk : k0 < 512) (hP : va_P D vwCl (wsG 77 ad (EZ ad cI cJ) ρ) H) (hV : va_S A s.heap H locs) (hl : lv_has ls 7 [(4, .int (nI i)), (0, .ref b), (1, .ref (ad 48)), (2, .ref (ad 52)), (3, .ref (ad 51))]) (hcs : cells + 1 ≤ R.cells ∧ slots + 6 ≤ R.slots) (nxt : Nxt p l e R s m args below meth c A b i k0 D cI cJ ad cells slots Q) : W p l e R s m args below meth c H locs cells slots Q (F0 m 272 ls []) := by
  obtain ⟨⟨hx, hb, hml, hown, hB⟩, hK, hi, hA, hAd, hZ, hN, hX, hbl, hbA, hL, hiL, hflag, hRf, hRl⟩ := C
  obtain ⟨ex, v, τ', μ', k', M', hx1, hm1, hk1, hS1, hag⟩ := OpV.law hS hk (op_shop (hS.beg hk) (xs (i + 1)) (xs (i + 2)))
  refine lv_aload_n hx hb dL_law_272 rfl (lv_at hl 2 rfl) ?_
  refine g_arg hx hb hX hbl hbA hV (lv_at hl 1 rfl) (lv_at hl 0 rfl) 1 (by omega) hL rfl dL_law_273 dL_law_274 dL_law_276 dL_law_277 dL_law_278 ?_
  refine g_arg hx hb hX hbl hbA hV (lv_at hl 1 rfl) (lv_at hl 0 rfl) 2 (by omega) hL rfl dL_law_279 dL_law_280 dL_law_282 dL_law_283 dL_law_284 ?_
  refine g_cY (n := 3) (σr := (rV τ' ρ)) (As := [.ref (ad 48), .int (xs (i + 1)), .int (xs (i + 2))]) ⟨⟨hx, hb, hml, hown, hB⟩, hK, hi, hA, hAd, hP, hV⟩ hZ hN (h_shop hflag (inj77 hi) hx1 hag.c (rV_1 τ' ρ) (rV_2 τ' ρ)) kw_L_shop ks_L_shop kn_L kM_L_144 (by decide +kernel) ⟨Nat.le_trans (Nat.le_of_ble_eq_true rfl) hRf, Nat.le_trans (Nat.le_of_ble_eq_true rfl) hRl⟩ rfl hl.1 (Nat.zero_le _) rfl dL_law_285 hcs (fun H locs hP hV => ?_)
  refine lv_istore (lv' := [(5, .int (μ' 0 29)), (4, .int (nI i)), (0, .ref b), (1, .ref (ad 48)), (2, .ref (ad 52)), (3, .ref (ad 51))]) hx hb dL_law_288 hl (by decide) rfl (fun ls hl => ?_)
  refine lv_aload_n hx hb dL_law_290 rfl (lv_at hl 4 rfl) ?_
  refine g_arg hx hb hX hbl hbA hV (lv_at hl 2 rfl) (lv_at hl 1 rfl) 1 (by omega) hL rfl dL_law_291 dL_law_292 dL_law_294 dL_law_295 dL_law_296 ?_
  refine g_arg hx hb hX hbl hbA hV (lv_at hl 2 rfl) (lv_at hl 1 rfl) 2 (by omega) hL rfl dL_law_297 dL_law_298 dL_law_300 dL_law_301 dL_law_302 ?_
  refine g_cVv (k0 := 0) (b := ad 52) (τ := (mgM μ' (mgZ (rV τ' ρ) ρ))) (σc := sh2 ρ) (As := [.int (xs (i + 1)), .int (xs (i + 2))]) ⟨⟨hx, hb, hml, hown, hB⟩, hK, hi, hA, hAd, hP, hV⟩ sub_ZM (c_X6_shop (inj77M hi) hm1) (fun k _ => (congrFun (sh2_Z (rV τ' ρ) ρ) k).symm) cal_X6_shop kM_L_147 ⟨Nat.le_trans (Nat.le_of_ble_eq_true rfl) hRf, Nat.le_trans (Nat.le_of_ble_eq_true rfl) hRl⟩ (by decide) rfl rfl rfl rfl hl.1 (Nat.zero_le _) rfl dL_law_303 hcs (mgM_1 _ _) (mgM_2 _ _) (fun H locs hP hV => ?_)
  refine lv_aload_n hx hb dL_law_306 rfl (lv_at hl 4 rfl) ?_
  refine g_cVi (k0 := 0) (b := ad 52) (τ := (mgM μ' (mgZ (rV τ' ρ) ρ))) (σc := μ') (As := []) ⟨⟨hx, hb, hml, hown, hB⟩, hK, hi, hA, hAd, hP, hV⟩ sub_ZM (c_X6_thrown (σ := μ') (r := μ' 0 29) (inj77M hi) rfl) (fun k hk => (mgM_1 μ' _ k hk).symm) cal_X6_thrown kM_L_141 ⟨Nat.le_trans (Nat.le_of_ble_eq_true rfl) hRf, Nat.le_trans (Nat.le_of_ble_eq_true rfl) hRl⟩ (by decide) rfl rfl rfl rfl hl.1 (Nat.zero_le _) rfl dL_law_307 hcs (mgM_1 _ _) (fun _ _ _ => rfl) (fun H locs hP hV => ?_)
  refine lv_iload hx hb dL_law_310 (lv_at hl 0 rfl) ?_
  refine lv_icmp_eq (tgt := 317) hx hb dL_law_312 (by decide) (fun _ => ?_) (fun q9 => absurd rfl q9)
  refine lv_goto (tgt := 2496) hx hb dL_law_317 (by decide) ?_
  exact nxt _ _ _ _ _ _ hk1 (SX.putY (ρ := ρ) hS1 (rV_1 τ' ρ)) hP hV (lv_sub hl [1, 2, 3, 4, 5] rfl)
set_option maxHeartbeats 4000000 in
set_option maxRecDepth 100000 in
theorem lc_2 {p : Program} {l : Launch} {e : Env} {R : Room} {s : State} {m : MethodId} {args : Array Value} {below : List Frame} {meth : Method} {c : Code} {H : Heap} {locs : List Loc} {cells slots : Nat} {Q : State → Prop} {ls : Array Slot} {D : va_G} {cI cJ : ClassId} {A : Nat → Prop} {ad : Nat → Nat} {ρ : Mem} {b L i k0 : Nat} {xs : Nat → Int32} {M : Nat → Mem} (C : LC p l R s m args c A b L i xs D cI cJ ad) (hS : SX k0 ρ (sh2 ρ) M) (hk : k0 < 512) (hP : va_P D vwCl (wsG 77 ad (EZ ad cI cJ) ρ) H) (hV : va_S A s.heap H locs) (hl : lv_has ls 7 [(4, .int (nI i)), (0, .ref b), (1, .ref (ad 48)), (2, .ref (ad 52)), (3, .ref (ad 51))]) (hcs : cells + 1 ≤ R.cells ∧ slots + 6 ≤ R.slots) (nxt : Nxt p l e R s m args below meth c A b i k0 D cI cJ ad cells slots Q) : W p l e R s m args below meth c H locs cells slots Q (F0 m 320 ls []) := by
  obtain ⟨⟨hx, hb, hml, hown, hB⟩, hK, hi, hA, hAd, hZ, hN, hX, hbl, hbA, hL, hiL, hflag, hRf, hRl⟩ := C
  obtain ⟨ex, v, τ', bb, μ', k', M', hx1, hm1, hk1, hS1, hag⟩ := OpR.law hS hk (op_stock (hS.beg hk) (xs (i + 1)) (xs (i + 2)) (xs (i + 3)) (xs (i + 4)))
  refine lv_aload_n hx hb dL_law_320 rfl (lv_at hl 2 rfl) ?_
  refine g_arg hx hb hX hbl hbA hV (lv_at hl 1 rfl) (lv_at hl 0 rfl) 1 (by omega) hL rfl dL_law_321 dL_law_322 dL_law_324 dL_law_325 dL_law_326 ?_
  refine g_arg hx hb hX hbl hbA hV (lv_at hl 1 rfl) (lv_at hl 0 rfl) 2 (by omega) hL rfl dL_law_327 dL_law_328 dL_law_330 dL_law_331 dL_law_332 ?_
  refine g_arg hx hb hX hbl hbA hV (lv_at hl 1 rfl) (lv_at hl 0 rfl) 3 (by omega) hL rfl dL_law_333 dL_law_334 dL_law_336 dL_law_337 dL_law_338 ?_
  refine g_arg hx hb hX hbl hbA hV (lv_at hl 1 rfl) (lv_at hl 0 rfl) 4 (by omega) hL rfl dL_law_339 dL_law_340 dL_law_342 dL_law_343 dL_law_344 ?_
  refine lv_aload_n hx hb dL_law_345 rfl (lv_at hl 4 rfl) ?_
  refine g_cY (n := 6) (σr := (rY τ' ρ ex v)) (As := [.ref (ad 48), .int (xs (i + 1)), .int (xs (i + 2)), .int (xs (i + 3)), .int (xs (i + 4)), .ref (ad 51)]) ⟨⟨hx, hb, hml, hown, hB⟩, hK, hi, hA, hAd, hP, hV⟩ hZ hN (h_stock hflag (inj77 hi) hx1 hag.c (rY_1 τ' ρ ex v) (rY_2 τ' ρ ex v)) kw_L_stock ks_L_stock kn_L kM_L_148 (by decide +kernel) ⟨Nat.le_trans (Nat.le_of_ble_eq_true rfl) hRf, Nat.le_trans (Nat.le_of_ble_eq_true rfl) hRl⟩ rfl hl.1 (Nat.zero_le _) rfl dL_law_346 hcs (fun H locs hP hV => ?_)
  refine lv_istore (lv' := [(5, .int (μ' 0 29)), (4, .int (nI i)), (0, .ref b), (1, .ref (ad 48)), (2, .ref (ad 52)), (3, .ref (ad 51))]) hx hb dL_law_349 hl (by decide) rfl (fun ls hl => ?_)
  refine lv_aload_n hx hb dL_law_351 rfl (lv_at hl 4 rfl) ?_
  refine g_arg hx hb hX hbl hbA hV (lv_at hl 2 rfl) (lv_at hl 1 rfl) 1 (by omega) hL rfl dL_law_352 dL_law_353 dL_law_355 dL_law_356 dL_law_357 ?_
  refine g_arg hx hb hX hbl hbA hV (lv_at hl 2 rfl) (lv_at hl 1 rfl) 2 (by omega) hL rfl dL_law_358 dL_law_359 dL_law_361 dL_law_362 dL_law_363 ?_
  refine g_arg hx hb hX hbl hbA hV (lv_at hl 2 rfl) (lv_at hl 1 rfl) 3 (by omega) hL rfl dL_law_364 dL_law_365 dL_law_367 dL_law_368 dL_law_369 ?_
  refine g_arg hx hb hX hbl hbA hV (lv_at hl 2 rfl) (lv_at hl 1 rfl) 4 (by omega) hL rfl dL_law_370 dL_law_371 dL_law_373 dL_law_374 dL_law_375 ?_
  refine g_cVi (k0 := 0) (b := ad 52) (τ := (mgM μ' (mgZ (rY τ' ρ ex v) ρ))) (σc := sh2 ρ) (As := [.int (xs (i + 1)), .int (xs (i + 2)), .int (xs (i + 3)), .int (xs (i + 4))]) ⟨⟨hx, hb, hml, hown, hB⟩, hK, hi, hA, hAd, hP, hV⟩ sub_ZM (c_X6_stock (inj77M hi) hm1) (fun k _ => (congrFun (sh2_Z (rY τ' ρ ex v) ρ) k).symm) cal_X6_stock kM_L_151 ⟨Nat.le_trans (Nat.le_of_ble_eq_true rfl) hRf, Nat.le_trans (Nat.le_of_ble_eq_true rfl) hRl⟩ (by decide) rfl rfl rfl rfl hl.1 (Nat.zero_le _) rfl dL_law_376 hcs (mgM_1 _ _) (mgM_2 _ _) (fun H locs hP hV => ?_)
  refine lv_istore (lv' := [(6, .int bb), (5, .int (μ' 0 29)), (4, .int (nI i)), (0, .ref b), (1, .ref (ad 48)), (2, .ref (ad 52)), (3, .ref (ad 51))]) hx hb dL_law_379 hl (by decide) rfl (fun ls hl => ?_)
  refine lv_aload_n hx hb dL_law_381 rfl (lv_at hl 5 rfl) ?_
  refine g_cVi (k0 := 0) (b := ad 52) (τ := (mgM μ' (mgZ (rY τ' ρ ex v) ρ))) (σc := μ') (As := []) ⟨⟨hx, hb, hml, hown, hB⟩, hK, hi, hA, hAd, hP, hV⟩ sub_ZM (c_X6_thrown (σ := μ') (r := μ' 0 29) (inj77M hi) rfl) (fun k hk => (mgM_1 μ' _ k hk).symm) cal_X6_thrown kM_L_141 ⟨Nat.le_trans (Nat.le_of_ble_eq_true rfl) hRf, Nat.le_trans (Nat.le_of_ble_eq_true rfl) hRl⟩ (by decide) rfl rfl rfl rfl hl.1 (Nat.zero_le _) rfl dL_law_382 hcs (mgM_1 _ _) (fun _ _ _ => rfl) (fun H locs hP hV => ?_)
  refine lv_iload hx hb dL_law_385 (lv_at hl 1 rfl) ?_
  refine lv_icmp_eq (tgt := 392) hx hb dL_law_387 (by decide) (fun _ => ?_) (fun q9 => absurd rfl q9)
  refine lv_iload hx hb dL_law_392 (lv_at hl 1 rfl) ?_
  refine lv_if_ne (tgt := 409) hx hb dL_law_394 (by decide) (fun _ => ?_) (fun q9 => ?_)
  · refine lv_goto (tgt := 2496) hx hb dL_law_409 (by decide) ?_
    exact nxt _ _ _ _ _ _ hk1 (SX.putY (ρ := ρ) hS1 (rY_1 τ' ρ ex v)) hP hV (lv_sub hl [2, 3, 4, 5, 6] rfl)
  · have hov := out_v (τ' := τ') (ρ := ρ) (μ' := μ') (hag.zero ok123_0 q9)
    refine lv_aload_n hx hb dL_law_397 rfl (lv_at hl 6 rfl) ?_
    refine lv_iconst (v := 0) hx hb dL_law_398 (by decide) ?_
    refine g_lald hx hb hK hP 51 (by decide) EZ_o dL_law_399 ?_
    rw [hov]
    refine lv_iload hx hb dL_law_400 (lv_at hl 0 rfl) ?_
    refine lv_i2l hx hb dL_law_402 rfl ?_
    refine W.lcmp hx hb dL_law_403 ?_
    refine lv_if_eq (tgt := 409) hx hb dL_law_404 (by decide) (fun _ => ?_) (fun q9 => absurd (lcmp_0 _) q9)
    refine lv_goto (tgt := 2496) hx hb dL_law_409 (by decide) ?_
    exact nxt _ _ _ _ _ _ hk1 (SX.putY (ρ := ρ) hS1 (rY_1 τ' ρ ex v)) hP hV (lv_sub hl [2, 3, 4, 5, 6] rfl)
set_option maxHeartbeats 4000000 in
set_option maxRecDepth 100000 in
theorem lc_3 {p : Program} {l : Launch} {e : Env} {R : Room} {s : State} {m : MethodId} {args : Array Value} {below : List Frame} {meth : Method} {c : Code} {H : Heap} {locs : List Loc} {cells slots : Nat} {Q : State → Prop} {ls : Array Slot} {D : va_G} {cI cJ : ClassId} {A : Nat → Prop} {ad : Nat → Nat} {ρ : Mem} {b L i k0 : Nat} {xs : Nat → Int32} {M : Nat → Mem} (C : LC p l R s m args c A b L i xs D cI cJ ad) (hS : SX k0 ρ (sh2 ρ) M) (hk : k0 < 512) (hP : va_P D vwCl (wsG 77 ad (EZ ad cI cJ) ρ) H) (hV : va_S A s.heap H locs) (hl : lv_has ls 7 [(4, .int (nI i)), (0, .ref b), (1, .ref (ad 48)), (2, .ref (ad 52)), (3, .ref (ad 51))]) (hcs : cells + 1 ≤ R.cells ∧ slots + 6 ≤ R.slots) (nxt : Nxt p l e R s m args below meth c A b i k0 D cI cJ ad cells slots Q) : W p l e R s m args below meth c H locs cells slots Q (F0 m 412 ls []) := by
  obtain ⟨⟨hx, hb, hml, hown, hB⟩, hK, hi, hA, hAd, hZ, hN, hX, hbl, hbA, hL, hiL, hflag, hRf, hRl⟩ := C
  obtain ⟨ex, v, τ', bb, μ', k', M', hx1, hm1, hk1, hS1, hag⟩ := OpR.law hS hk (op_scatter (hS.beg hk) (xs (i + 1)) (xs (i + 2)) (xs (i + 3)))
  refine lv_aload_n hx hb dL_law_412 rfl (lv_at hl 2 rfl) ?_
  refine g_arg hx hb hX hbl hbA hV (lv_at hl 1 rfl) (lv_at hl 0 rfl) 1 (by omega) hL rfl dL_law_413 dL_law_414 dL_law_416 dL_law_417 dL_law_418 ?_
  refine g_arg hx hb hX hbl hbA hV (lv_at hl 1 rfl) (lv_at hl 0 rfl) 2 (by omega) hL rfl dL_law_419 dL_law_420 dL_law_422 dL_law_423 dL_law_424 ?_
  refine g_arg hx hb hX hbl hbA hV (lv_at hl 1 rfl) (lv_at hl 0 rfl) 3 (by omega) hL rfl dL_law_425 dL_law_426 dL_law_428 dL_law_429 dL_law_430 ?_
  refine lv_aload_n hx hb dL_law_431 rfl (lv_at hl 4 rfl) ?_
  refine g_cY (n := 5) (σr := (rY τ' ρ ex v)) (As := [.ref (ad 48), .int (xs (i + 1)), .int (xs (i + 2)), .int (xs (i + 3)), .ref (ad 51)]) ⟨⟨hx, hb, hml, hown, hB⟩, hK, hi, hA, hAd, hP, hV⟩ hZ hN (h_scatter hflag (inj77 hi) hx1 hag.c (rY_1 τ' ρ ex v) (rY_2 τ' ρ ex v)) kw_L_scatter ks_L_scatter kn_L kM_L_152 (by decide +kernel) ⟨Nat.le_trans (Nat.le_of_ble_eq_true rfl) hRf, Nat.le_trans (Nat.le_of_ble_eq_true rfl) hRl⟩ rfl hl.1 (Nat.zero_le _) rfl dL_law_432 hcs (fun H locs hP hV => ?_)
  refine lv_istore (lv' := [(5, .int (μ' 0 29)), (4, .int (nI i)), (0, .ref b), (1, .ref (ad 48)), (2, .ref (ad 52)), (3, .ref (ad 51))]) hx hb dL_law_435 hl (by decide) rfl (fun ls hl => ?_)
  refine lv_aload_n hx hb dL_law_437 rfl (lv_at hl 4 rfl) ?_
  refine g_arg hx hb hX hbl hbA hV (lv_at hl 2 rfl) (lv_at hl 1 rfl) 1 (by omega) hL rfl dL_law_438 dL_law_439 dL_law_441 dL_law_442 dL_law_443 ?_
  refine g_arg hx hb hX hbl hbA hV (lv_at hl 2 rfl) (lv_at hl 1 rfl) 2 (by omega) hL rfl dL_law_444 dL_law_445 dL_law_447 dL_law_448 dL_law_449 ?_
  refine g_arg hx hb hX hbl hbA hV (lv_at hl 2 rfl) (lv_at hl 1 rfl) 3 (by omega) hL rfl dL_law_450 dL_law_451 dL_law_453 dL_law_454 dL_law_455 ?_
  refine g_cVi (k0 := 0) (b := ad 52) (τ := (mgM μ' (mgZ (rY τ' ρ ex v) ρ))) (σc := sh2 ρ) (As := [.int (xs (i + 1)), .int (xs (i + 2)), .int (xs (i + 3))]) ⟨⟨hx, hb, hml, hown, hB⟩, hK, hi, hA, hAd, hP, hV⟩ sub_ZM (c_X6_scatter (inj77M hi) hm1) (fun k _ => (congrFun (sh2_Z (rY τ' ρ ex v) ρ) k).symm) cal_X6_scatter kM_L_155 ⟨Nat.le_trans (Nat.le_of_ble_eq_true rfl) hRf, Nat.le_trans (Nat.le_of_ble_eq_true rfl) hRl⟩ (by decide) rfl rfl rfl rfl hl.1 (Nat.zero_le _) rfl dL_law_456 hcs (mgM_1 _ _) (mgM_2 _ _) (fun H locs hP hV => ?_)
  refine lv_istore (lv' := [(6, .int bb), (5, .int (μ' 0 29)), (4, .int (nI i)), (0, .ref b), (1, .ref (ad 48)), (2, .ref (ad 52)), (3, .ref (ad 51))]) hx hb dL_law_459 hl (by decide) rfl (fun ls hl => ?_)
  refine lv_aload_n hx hb dL_law_461 rfl (lv_at hl 5 rfl) ?_
  refine g_cVi (k0 := 0) (b := ad 52) (τ := (mgM μ' (mgZ (rY τ' ρ ex v) ρ))) (σc := μ') (As := []) ⟨⟨hx, hb, hml, hown, hB⟩, hK, hi, hA, hAd, hP, hV⟩ sub_ZM (c_X6_thrown (σ := μ') (r := μ' 0 29) (inj77M hi) rfl) (fun k hk => (mgM_1 μ' _ k hk).symm) cal_X6_thrown kM_L_141 ⟨Nat.le_trans (Nat.le_of_ble_eq_true rfl) hRf, Nat.le_trans (Nat.le_of_ble_eq_true rfl) hRl⟩ (by decide) rfl rfl rfl rfl hl.1 (Nat.zero_le _) rfl dL_law_462 hcs (mgM_1 _ _) (fun _ _ _ => rfl) (fun H locs hP hV => ?_)
  refine lv_iload hx hb dL_law_465 (lv_at hl 1 rfl) ?_
  refine lv_icmp_eq (tgt := 472) hx hb dL_law_467 (by decide) (fun _ => ?_) (fun q9 => absurd rfl q9)
  refine lv_iload hx hb dL_law_472 (lv_at hl 1 rfl) ?_
  refine lv_if_ne (tgt := 489) hx hb dL_law_474 (by decide) (fun _ => ?_) (fun q9 => ?_)
  · refine lv_goto (tgt := 2496) hx hb dL_law_489 (by decide) ?_
    exact nxt _ _ _ _ _ _ hk1 (SX.putY (ρ := ρ) hS1 (rY_1 τ' ρ ex v)) hP hV (lv_sub hl [2, 3, 4, 5, 6] rfl)
  · have hov := out_v (τ' := τ') (ρ := ρ) (μ' := μ') (hag.zero ok12_0 q9)
    refine lv_aload_n hx hb dL_law_477 rfl (lv_at hl 6 rfl) ?_
    refine lv_iconst (v := 0) hx hb dL_law_478 (by decide) ?_
    refine g_lald hx hb hK hP 51 (by decide) EZ_o dL_law_479 ?_
    rw [hov]
    refine lv_iload hx hb dL_law_480 (lv_at hl 0 rfl) ?_
    refine lv_i2l hx hb dL_law_482 rfl ?_
    refine W.lcmp hx hb dL_law_483 ?_
    refine lv_if_eq (tgt := 489) hx hb dL_law_484 (by decide) (fun _ => ?_) (fun q9 => absurd (lcmp_0 _) q9)
    refine lv_goto (tgt := 2496) hx hb dL_law_489 (by decide) ?_
    exact nxt _ _ _ _ _ _ hk1 (SX.putY (ρ := ρ) hS1 (rY_1 τ' ρ ex v)) hP hV (lv_sub hl [2, 3, 4, 5, 6] rfl)
set_option maxHeartbeats 4000000 in
set_option maxRecDepth 100000 in
theorem lc_4 {p : Program} {l : Launch} {e : Env} {R : Room} {s : State} {m : MethodId} {args : Array Value} {below : List Frame} {meth : Method} {c : Code} {H : Heap} {locs : List Loc} {cells slots : Nat} {Q : State → Prop} {ls : Array Slot} {D : va_G} {cI cJ : ClassId} {A : Nat → Prop} {ad : Nat → Nat} {ρ : Mem} {b L i k0 : Nat} {xs : Nat → Int32} {M : Nat → Mem} (C : LC p l R s m args c A b L i xs D cI cJ ad) (hS : SX k0 ρ (sh2 ρ) M) (hk : k0 < 512) (hP : va_P D vwCl (wsG 77 ad (EZ ad cI cJ) ρ) H) (hV : va_S A s.heap H locs) (hl : lv_has ls 7 [(4, .int (nI i)), (0, .ref b), (1, .ref (ad 48)), (2, .ref (ad 52)), (3, .ref (ad 51))]) (hcs : cells + 1 ≤ R.cells ∧ slots + 6 ≤ R.slots) (nxt : Nxt p l e R s m args below meth c A b i k0 D cI cJ ad cells slots Q) : W p l e R s m args below meth c H locs cells slots Q (F0 m 492 ls []) := by
  obtain ⟨⟨hx, hb, hml, hown, hB⟩, hK, hi, hA, hAd, hZ, hN, hX, hbl, hbA, hL, hiL, hflag, hRf, hRl⟩ := C
  obtain ⟨ex, v, τ', bb, μ', k', M', hx1, hm1, hk1, hS1, hag⟩ := OpR.law hS hk (op_join (hS.beg hk) (xs (i + 1)) (xs (i + 2)) (xs (i + 3)))
  refine lv_aload_n hx hb dL_law_492 rfl (lv_at hl 2 rfl) ?_
  refine g_arg hx hb hX hbl hbA hV (lv_at hl 1 rfl) (lv_at hl 0 rfl) 1 (by omega) hL rfl dL_law_493 dL_law_494 dL_law_496 dL_law_497 dL_law_498 ?_
  refine g_arg hx hb hX hbl hbA hV (lv_at hl 1 rfl) (lv_at hl 0 rfl) 2 (by omega) hL rfl dL_law_499 dL_law_500 dL_law_502 dL_law_503 dL_law_504 ?_
  refine g_arg hx hb hX hbl hbA hV (lv_at hl 1 rfl) (lv_at hl 0 rfl) 3 (by omega) hL rfl dL_law_505 dL_law_506 dL_law_508 dL_law_509 dL_law_510 ?_
  refine lv_aload_n hx hb dL_law_511 rfl (lv_at hl 4 rfl) ?_
  refine g_cY (n := 5) (σr := (rY τ' ρ ex v)) (As := [.ref (ad 48), .int (xs (i + 1)), .int (xs (i + 2)), .int (xs (i + 3)), .ref (ad 51)]) ⟨⟨hx, hb, hml, hown, hB⟩, hK, hi, hA, hAd, hP, hV⟩ hZ hN (h_join hflag (inj77 hi) hx1 hag.c (rY_1 τ' ρ ex v) (rY_2 τ' ρ ex v)) kw_L_join ks_L_join kn_L kM_L_156 (by decide +kernel) ⟨Nat.le_trans (Nat.le_of_ble_eq_true rfl) hRf, Nat.le_trans (Nat.le_of_ble_eq_true rfl) hRl⟩ rfl hl.1 (Nat.zero_le _) rfl dL_law_512 hcs (fun H locs hP hV => ?_)
  refine lv_istore (lv' := [(5, .int (μ' 0 29)), (4, .int (nI i)), (0, .ref b), (1, .ref (ad 48)), (2, .ref (ad 52)), (3, .ref (ad 51))]) hx hb dL_law_515 hl (by decide) rfl (fun ls hl => ?_)
  refine lv_aload_n hx hb dL_law_517 rfl (lv_at hl 4 rfl) ?_
  refine g_arg hx hb hX hbl hbA hV (lv_at hl 2 rfl) (lv_at hl 1 rfl) 1 (by omega) hL rfl dL_law_518 dL_law_519 dL_law_521 dL_law_522 dL_law_523 ?_
  refine g_arg hx hb hX hbl hbA hV (lv_at hl 2 rfl) (lv_at hl 1 rfl) 2 (by omega) hL rfl dL_law_524 dL_law_525 dL_law_527 dL_law_528 dL_law_529 ?_
  refine g_arg hx hb hX hbl hbA hV (lv_at hl 2 rfl) (lv_at hl 1 rfl) 3 (by omega) hL rfl dL_law_530 dL_law_531 dL_law_533 dL_law_534 dL_law_535 ?_
  refine g_cVi (k0 := 0) (b := ad 52) (τ := (mgM μ' (mgZ (rY τ' ρ ex v) ρ))) (σc := sh2 ρ) (As := [.int (xs (i + 1)), .int (xs (i + 2)), .int (xs (i + 3))]) ⟨⟨hx, hb, hml, hown, hB⟩, hK, hi, hA, hAd, hP, hV⟩ sub_ZM (c_X6_join (inj77M hi) hm1) (fun k _ => (congrFun (sh2_Z (rY τ' ρ ex v) ρ) k).symm) cal_X6_join kM_L_158 ⟨Nat.le_trans (Nat.le_of_ble_eq_true rfl) hRf, Nat.le_trans (Nat.le_of_ble_eq_true rfl) hRl⟩ (by decide) rfl rfl rfl rfl hl.1 (Nat.zero_le _) rfl dL_law_536 hcs (mgM_1 _ _) (mgM_2 _ _) (fun H locs hP hV => ?_)
  refine lv_istore (lv' := [(6, .int bb), (5, .int (μ' 0 29)), (4, .int (nI i)), (0, .ref b), (1, .ref (ad 48)), (2, .ref (ad 52)), (3, .ref (ad 51))]) hx hb dL_law_539 hl (by decide) rfl (fun ls hl => ?_)
  refine lv_aload_n hx hb dL_law_541 rfl (lv_at hl 5 rfl) ?_
  refine g_cVi (k0 := 0) (b := ad 52) (τ := (mgM μ' (mgZ (rY τ' ρ ex v) ρ))) (σc := μ') (As := []) ⟨⟨hx, hb, hml, hown, hB⟩, hK, hi, hA, hAd, hP, hV⟩ sub_ZM (c_X6_thrown (σ := μ') (r := μ' 0 29) (inj77M hi) rfl) (fun k hk => (mgM_1 μ' _ k hk).symm) cal_X6_thrown kM_L_141 ⟨Nat.le_trans (Nat.le_of_ble_eq_true rfl) hRf, Nat.le_trans (Nat.le_of_ble_eq_true rfl) hRl⟩ (by decide) rfl rfl rfl rfl hl.1 (Nat.zero_le _) rfl dL_law_542 hcs (mgM_1 _ _) (fun _ _ _ => rfl) (fun H locs hP hV => ?_)
  refine lv_iload hx hb dL_law_545 (lv_at hl 1 rfl) ?_
  refine lv_icmp_eq (tgt := 552) hx hb dL_law_547 (by decide) (fun _ => ?_) (fun q9 => absurd rfl q9)
  refine lv_iload hx hb dL_law_552 (lv_at hl 1 rfl) ?_
  refine lv_if_ne (tgt := 569) hx hb dL_law_554 (by decide) (fun _ => ?_) (fun q9 => ?_)
  · refine lv_goto (tgt := 2496) hx hb dL_law_569 (by decide) ?_
    exact nxt _ _ _ _ _ _ hk1 (SX.putY (ρ := ρ) hS1 (rY_1 τ' ρ ex v)) hP hV (lv_sub hl [2, 3, 4, 5, 6] rfl)
  · have hov := out_v (τ' := τ') (ρ := ρ) (μ' := μ') (hag.zero ok123_0 q9)
    refine lv_aload_n hx hb dL_law_557 rfl (lv_at hl 6 rfl) ?_
    refine lv_iconst (v := 0) hx hb dL_law_558 (by decide) ?_
    refine g_lald hx hb hK hP 51 (by decide) EZ_o dL_law_559 ?_
    rw [hov]
    refine lv_iload hx hb dL_law_560 (lv_at hl 0 rfl) ?_
    refine lv_i2l hx hb dL_law_562 rfl ?_
    refine W.lcmp hx hb dL_law_563 ?_
    refine lv_if_eq (tgt := 569) hx hb dL_law_564 (by decide) (fun _ => ?_) (fun q9 => absurd (lcmp_0 _) q9)
    refine lv_goto (tgt := 2496) hx hb dL_law_569 (by decide) ?_
    exact nxt _ _ _ _ _ _ hk1 (SX.putY (ρ := ρ) hS1 (rY_1 τ' ρ ex v)) hP hV (lv_sub hl [2, 3, 4, 5, 6] rfl)
set_option maxHeartbeats 4000000 in
set_option maxRecDepth 100000 in
theorem lc_5 {p : Program} {l : Launch} {e : Env} {R : Room} {s : State} {m : MethodId} {args : Array Value} {below : List Frame} {meth : Method} {c : Code} {H : Heap} {locs : List Loc} {cells slots : Nat} {Q : State → Prop} {ls : Array Slot} {D : va_G} {cI cJ : ClassId} {A : Nat → Prop} {ad : Nat → Nat} {ρ : Mem} {b L i k0 : Nat} {xs : Nat → Int32} {M : Nat → Mem} (C : LC p l R s m args c A b L i xs D cI cJ ad) (hS : SX k0 ρ (sh2 ρ) M) (hk : k0 < 512) (hP : va_P D vwCl (wsG 77 ad (EZ ad cI cJ) ρ) H) (hV : va_S A s.heap H locs) (hl : lv_has ls 7 [(4, .int (nI i)), (0, .ref b), (1, .ref (ad 48)), (2, .ref (ad 52)), (3, .ref (ad 51))]) (hcs : cells + 1 ≤ R.cells ∧ slots + 6 ≤ R.slots) (nxt : Nxt p l e R s m args below meth c A b i k0 D cI cJ ad cells slots Q) : W p l e R s m args below meth c H locs cells slots Q (F0 m 572 ls []) := by
  obtain ⟨⟨hx, hb, hml, hown, hB⟩, hK, hi, hA, hAd, hZ, hN, hX, hbl, hbA, hL, hiL, hflag, hRf, hRl⟩ := C
  obtain ⟨ex, v, τ', bb, μ', k', M', hx1, hm1, hk1, hS1, hag⟩ := OpR.law hS hk (op_quest (hS.beg hk) (xs (i + 1)))
  refine lv_aload_n hx hb dL_law_572 rfl (lv_at hl 2 rfl) ?_
  refine g_arg hx hb hX hbl hbA hV (lv_at hl 1 rfl) (lv_at hl 0 rfl) 1 (by omega) hL rfl dL_law_573 dL_law_574 dL_law_576 dL_law_577 dL_law_578 ?_
  refine lv_aload_n hx hb dL_law_579 rfl (lv_at hl 4 rfl) ?_
  refine g_cY (n := 3) (σr := (rY τ' ρ ex v)) (As := [.ref (ad 48), .int (xs (i + 1)), .ref (ad 51)]) ⟨⟨hx, hb, hml, hown, hB⟩, hK, hi, hA, hAd, hP, hV⟩ hZ hN (h_quest hflag (inj77 hi) hx1 hag.c (rY_1 τ' ρ ex v) (rY_2 τ' ρ ex v)) kw_L_quest ks_L_quest kn_L kM_L_159 (by decide +kernel) ⟨Nat.le_trans (Nat.le_of_ble_eq_true rfl) hRf, Nat.le_trans (Nat.le_of_ble_eq_true rfl) hRl⟩ rfl hl.1 (Nat.zero_le _) rfl dL_law_580 hcs (fun H locs hP hV => ?_)
  refine lv_istore (lv' := [(5, .int (μ' 0 29)), (4, .int (nI i)), (0, .ref b), (1, .ref (ad 48)), (2, .ref (ad 52)), (3, .ref (ad 51))]) hx hb dL_law_583 hl (by decide) rfl (fun ls hl => ?_)
  refine lv_aload_n hx hb dL_law_585 rfl (lv_at hl 4 rfl) ?_
  refine g_arg hx hb hX hbl hbA hV (lv_at hl 2 rfl) (lv_at hl 1 rfl) 1 (by omega) hL rfl dL_law_586 dL_law_587 dL_law_589 dL_law_590 dL_law_591 ?_
  refine g_cVi (k0 := 0) (b := ad 52) (τ := (mgM μ' (mgZ (rY τ' ρ ex v) ρ))) (σc := sh2 ρ) (As := [.int (xs (i + 1))]) ⟨⟨hx, hb, hml, hown, hB⟩, hK, hi, hA, hAd, hP, hV⟩ sub_ZM (c_X6_quest (inj77M hi) hm1) (fun k _ => (congrFun (sh2_Z (rY τ' ρ ex v) ρ) k).symm) cal_X6_quest kM_L_162 ⟨Nat.le_trans (Nat.le_of_ble_eq_true rfl) hRf, Nat.le_trans (Nat.le_of_ble_eq_true rfl) hRl⟩ (by decide) rfl rfl rfl rfl hl.1 (Nat.zero_le _) rfl dL_law_592 hcs (mgM_1 _ _) (mgM_2 _ _) (fun H locs hP hV => ?_)
  refine lv_istore (lv' := [(6, .int bb), (5, .int (μ' 0 29)), (4, .int (nI i)), (0, .ref b), (1, .ref (ad 48)), (2, .ref (ad 52)), (3, .ref (ad 51))]) hx hb dL_law_595 hl (by decide) rfl (fun ls hl => ?_)
  refine lv_aload_n hx hb dL_law_597 rfl (lv_at hl 5 rfl) ?_
  refine g_cVi (k0 := 0) (b := ad 52) (τ := (mgM μ' (mgZ (rY τ' ρ ex v) ρ))) (σc := μ') (As := []) ⟨⟨hx, hb, hml, hown, hB⟩, hK, hi, hA, hAd, hP, hV⟩ sub_ZM (c_X6_thrown (σ := μ') (r := μ' 0 29) (inj77M hi) rfl) (fun k hk => (mgM_1 μ' _ k hk).symm) cal_X6_thrown kM_L_141 ⟨Nat.le_trans (Nat.le_of_ble_eq_true rfl) hRf, Nat.le_trans (Nat.le_of_ble_eq_true rfl) hRl⟩ (by decide) rfl rfl rfl rfl hl.1 (Nat.zero_le _) rfl dL_law_598 hcs (mgM_1 _ _) (fun _ _ _ => rfl) (fun H locs hP hV => ?_)
  refine lv_iload hx hb dL_law_601 (lv_at hl 1 rfl) ?_
  refine lv_icmp_eq (tgt := 608) hx hb dL_law_603 (by decide) (fun _ => ?_) (fun q9 => absurd rfl q9)
  refine lv_iload hx hb dL_law_608 (lv_at hl 1 rfl) ?_
  refine lv_if_ne (tgt := 625) hx hb dL_law_610 (by decide) (fun _ => ?_) (fun q9 => ?_)
  · refine lv_goto (tgt := 2496) hx hb dL_law_625 (by decide) ?_
    exact nxt _ _ _ _ _ _ hk1 (SX.putY (ρ := ρ) hS1 (rY_1 τ' ρ ex v)) hP hV (lv_sub hl [2, 3, 4, 5, 6] rfl)
  · have hov := out_v (τ' := τ') (ρ := ρ) (μ' := μ') (hag.zero ok23_0 q9)
    refine lv_aload_n hx hb dL_law_613 rfl (lv_at hl 6 rfl) ?_
    refine lv_iconst (v := 0) hx hb dL_law_614 (by decide) ?_
    refine g_lald hx hb hK hP 51 (by decide) EZ_o dL_law_615 ?_
    rw [hov]
    refine lv_iload hx hb dL_law_616 (lv_at hl 0 rfl) ?_
    refine lv_i2l hx hb dL_law_618 rfl ?_
    refine W.lcmp hx hb dL_law_619 ?_
    refine lv_if_eq (tgt := 625) hx hb dL_law_620 (by decide) (fun _ => ?_) (fun q9 => absurd (lcmp_0 _) q9)
    refine lv_goto (tgt := 2496) hx hb dL_law_625 (by decide) ?_
    exact nxt _ _ _ _ _ _ hk1 (SX.putY (ρ := ρ) hS1 (rY_1 τ' ρ ex v)) hP hV (lv_sub hl [2, 3, 4, 5, 6] rfl)
set_option maxHeartbeats 4000000 in
set_option maxRecDepth 100000 in
theorem lc_6 {p : Program} {l : Launch} {e : Env} {R : Room} {s : State} {m : MethodId} {args : Array Value} {below : List Frame} {meth : Method} {c : Code} {H : Heap} {locs : List Loc} {cells slots : Nat} {Q : State → Prop} {ls : Array Slot} {D : va_G} {cI cJ : ClassId} {A : Nat → Prop} {ad : Nat → Nat} {ρ : Mem} {b L i k0 : Nat} {xs : Nat → Int32} {M : Nat → Mem} (C : LC p l R s m args c A b L i xs D cI cJ ad) (hS : SX k0 ρ (sh2 ρ) M) (hk : k0 < 512) (hP : va_P D vwCl (wsG 77 ad (EZ ad cI cJ) ρ) H) (hV : va_S A s.heap H locs) (hl : lv_has ls 7 [(4, .int (nI i)), (0, .ref b), (1, .ref (ad 48)), (2, .ref (ad 52)), (3, .ref (ad 51))]) (hcs : cells + 1 ≤ R.cells ∧ slots + 6 ≤ R.slots) (nxt : Nxt p l e R s m args below meth c A b i k0 D cI cJ ad cells slots Q) : W p l e R s m args below meth c H locs cells slots Q (F0 m 628 ls []) := by
  obtain ⟨⟨hx, hb, hml, hown, hB⟩, hK, hi, hA, hAd, hZ, hN, hX, hbl, hbA, hL, hiL, hflag, hRf, hRl⟩ := C
  obtain ⟨ex, v, τ', bb, μ', k', M', hx1, hm1, hk1, hS1, hag⟩ := OpR.law hS hk (op_stage (hS.beg hk) (xs (i + 1)) (xs (i + 2)) (xs (i + 3)) (xs (i + 4)))
  refine lv_aload_n hx hb dL_law_628 rfl (lv_at hl 2 rfl) ?_
  refine g_arg hx hb hX hbl hbA hV (lv_at hl 1 rfl) (lv_at hl 0 rfl) 1 (by omega) hL rfl dL_law_629 dL_law_630 dL_law_632 dL_law_633 dL_law_634 ?_
  refine g_arg hx hb hX hbl hbA hV (lv_at hl 1 rfl) (lv_at hl 0 rfl) 2 (by omega) hL rfl dL_law_635 dL_law_636 dL_law_638 dL_law_639 dL_law_640 ?_
  refine g_arg hx hb hX hbl hbA hV (lv_at hl 1 rfl) (lv_at hl 0 rfl) 3 (by omega) hL rfl dL_law_641 dL_law_642 dL_law_644 dL_law_645 dL_law_646 ?_
  refine g_arg hx hb hX hbl hbA hV (lv_at hl 1 rfl) (lv_at hl 0 rfl) 4 (by omega) hL rfl dL_law_647 dL_law_648 dL_law_650 dL_law_651 dL_law_652 ?_
  refine lv_aload_n hx hb dL_law_653 rfl (lv_at hl 4 rfl) ?_
  refine g_cY (n := 6) (σr := (rY τ' ρ ex v)) (As := [.ref (ad 48), .int (xs (i + 1)), .int (xs (i + 2)), .int (xs (i + 3)), .int (xs (i + 4)), .ref (ad 51)]) ⟨⟨hx, hb, hml, hown, hB⟩, hK, hi, hA, hAd, hP, hV⟩ hZ hN (h_stage hflag (inj77 hi) hx1 hag.c (rY_1 τ' ρ ex v) (rY_2 τ' ρ ex v)) kw_L_stage ks_L_stage kn_L kM_L_163 (by decide +kernel) ⟨Nat.le_trans (Nat.le_of_ble_eq_true rfl) hRf, Nat.le_trans (Nat.le_of_ble_eq_true rfl) hRl⟩ rfl hl.1 (Nat.zero_le _) rfl dL_law_654 hcs (fun H locs hP hV => ?_)
  refine lv_istore (lv' := [(5, .int (μ' 0 29)), (4, .int (nI i)), (0, .ref b), (1, .ref (ad 48)), (2, .ref (ad 52)), (3, .ref (ad 51))]) hx hb dL_law_657 hl (by decide) rfl (fun ls hl => ?_)
  refine lv_aload_n hx hb dL_law_659 rfl (lv_at hl 4 rfl) ?_
  refine g_arg hx hb hX hbl hbA hV (lv_at hl 2 rfl) (lv_at hl 1 rfl) 1 (by omega) hL rfl dL_law_660 dL_law_661 dL_law_663 dL_law_664 dL_law_665 ?_
  refine g_arg hx hb hX hbl hbA hV (lv_at hl 2 rfl) (lv_at hl 1 rfl) 2 (by omega) hL rfl dL_law_666 dL_law_667 dL_law_669 dL_law_670 dL_law_671 ?_
  refine g_arg hx hb hX hbl hbA hV (lv_at hl 2 rfl) (lv_at hl 1 rfl) 3 (by omega) hL rfl dL_law_672 dL_law_673 dL_law_675 dL_law_676 dL_law_677 ?_
  refine g_arg hx hb hX hbl hbA hV (lv_at hl 2 rfl) (lv_at hl 1 rfl) 4 (by omega) hL rfl dL_law_678 dL_law_679 dL_law_681 dL_law_682 dL_law_683 ?_
  refine g_cVi (k0 := 0) (b := ad 52) (τ := (mgM μ' (mgZ (rY τ' ρ ex v) ρ))) (σc := sh2 ρ) (As := [.int (xs (i + 1)), .int (xs (i + 2)), .int (xs (i + 3)), .int (xs (i + 4))]) ⟨⟨hx, hb, hml, hown, hB⟩, hK, hi, hA, hAd, hP, hV⟩ sub_ZM (c_X6_stage (inj77M hi) hm1) (fun k _ => (congrFun (sh2_Z (rY τ' ρ ex v) ρ) k).symm) cal_X6_stage kM_L_165 ⟨Nat.le_trans (Nat.le_of_ble_eq_true rfl) hRf, Nat.le_trans (Nat.le_of_ble_eq_true rfl) hRl⟩ (by decide) rfl rfl rfl rfl hl.1 (Nat.zero_le _) rfl dL_law_684 hcs (mgM_1 _ _) (mgM_2 _ _) (fun H locs hP hV => ?_)
  refine lv_istore (lv' := [(6, .int bb), (5, .int (μ' 0 29)), (4, .int (nI i)), (0, .ref b), (1, .ref (ad 48)), (2, .ref (ad 52)), (3, .ref (ad 51))]) hx hb dL_law_687 hl (by decide) rfl (fun ls hl => ?_)
  refine lv_aload_n hx hb dL_law_689 rfl (lv_at hl 5 rfl) ?_
  refine g_cVi (k0 := 0) (b := ad 52) (τ := (mgM μ' (mgZ (rY τ' ρ ex v) ρ))) (σc := μ') (As := []) ⟨⟨hx, hb, hml, hown, hB⟩, hK, hi, hA, hAd, hP, hV⟩ sub_ZM (c_X6_thrown (σ := μ') (r := μ' 0 29) (inj77M hi) rfl) (fun k hk => (mgM_1 μ' _ k hk).symm) cal_X6_thrown kM_L_141 ⟨Nat.le_trans (Nat.le_of_ble_eq_true rfl) hRf, Nat.le_trans (Nat.le_of_ble_eq_true rfl) hRl⟩ (by decide) rfl rfl rfl rfl hl.1 (Nat.zero_le _) rfl dL_law_690 hcs (mgM_1 _ _) (fun _ _ _ => rfl) (fun H locs hP hV => ?_)
  refine lv_iload hx hb dL_law_693 (lv_at hl 1 rfl) ?_
  refine lv_icmp_eq (tgt := 700) hx hb dL_law_695 (by decide) (fun _ => ?_) (fun q9 => absurd rfl q9)
  refine lv_iload hx hb dL_law_700 (lv_at hl 1 rfl) ?_
  refine lv_if_ne (tgt := 717) hx hb dL_law_702 (by decide) (fun _ => ?_) (fun q9 => ?_)
  · refine lv_goto (tgt := 2496) hx hb dL_law_717 (by decide) ?_
    exact nxt _ _ _ _ _ _ hk1 (SX.putY (ρ := ρ) hS1 (rY_1 τ' ρ ex v)) hP hV (lv_sub hl [2, 3, 4, 5, 6] rfl)
  · have hov := out_v (τ' := τ') (ρ := ρ) (μ' := μ') (hag.zero ok123_0 q9)
    refine lv_aload_n hx hb dL_law_705 rfl (lv_at hl 6 rfl) ?_
    refine lv_iconst (v := 0) hx hb dL_law_706 (by decide) ?_
    refine g_lald hx hb hK hP 51 (by decide) EZ_o dL_law_707 ?_
    rw [hov]
    refine lv_iload hx hb dL_law_708 (lv_at hl 0 rfl) ?_
    refine lv_i2l hx hb dL_law_710 rfl ?_
    refine W.lcmp hx hb dL_law_711 ?_
    refine lv_if_eq (tgt := 717) hx hb dL_law_712 (by decide) (fun _ => ?_) (fun q9 => absurd (lcmp_0 _) q9)
    refine lv_goto (tgt := 2496) hx hb dL_law_717 (by decide) ?_
    exact nxt _ _ _ _ _ _ hk1 (SX.putY (ρ := ρ) hS1 (rY_1 τ' ρ ex v)) hP hV (lv_sub hl [2, 3, 4, 5, 6] rfl)
set_option maxHeartbeats 4000000 in
set_option maxRecDepth 100000 in
theorem lc_7 {p : Program} {l : Launch} {e : Env} {R : Room} {s : State} {m : MethodId} {args : Array Value} {below : List Frame} {meth : Method} {c : Code} {H : Heap} {locs : List Loc} {cells slots : Nat} {Q : State → Prop} {ls : Array Slot} {D : va_G} {cI cJ : ClassId} {A : Nat → Prop} {ad : Nat → Nat} {ρ : Mem} {b L i k0 : Nat} {xs : Nat → Int32} {M : Nat → Mem} (C : LC p l R s m args c A b L i xs D cI cJ ad) (hS : SX k0 ρ (sh2 ρ) M) (hk : k0 < 512) (hP : va_P D vwCl (wsG 77 ad (EZ ad cI cJ) ρ) H) (hV : va_S A s.heap H locs) (hl : lv_has ls 7 [(4, .int (nI i)), (0, .ref b), (1, .ref (ad 48)), (2, .ref (ad 52)), (3, .ref (ad 51))]) (hcs : cells + 1 ≤ R.cells ∧ slots + 6 ≤ R.slots) (nxt : Nxt p l e R s m args below meth c A b i k0 D cI cJ ad cells slots Q) : W p l e R s m args below meth c H locs cells slots Q (F0 m 720 ls []) := by
  obtain ⟨⟨hx, hb, hml, hown, hB⟩, hK, hi, hA, hAd, hZ, hN, hX, hbl, hbA, hL, hiL, hflag, hRf, hRl⟩ := C
  obtain ⟨ex, v, τ', bb, μ', k', M', hx1, hm1, hk1, hS1, hag⟩ := OpR.law hS hk (op_endow (hS.beg hk) (xs (i + 1)))
  refine lv_aload_n hx hb dL_law_720 rfl (lv_at hl 2 rfl) ?_
  refine g_arg hx hb hX hbl hbA hV (lv_at hl 1 rfl) (lv_at hl 0 rfl) 1 (by omega) hL rfl dL_law_721 dL_law_722 dL_law_724 dL_law_725 dL_law_726 ?_
  refine lv_aload_n hx hb dL_law_727 rfl (lv_at hl 4 rfl) ?_
  refine g_cY (n := 3) (σr := (rY τ' ρ ex v)) (As := [.ref (ad 48), .int (xs (i + 1)), .ref (ad 51)]) ⟨⟨hx, hb, hml, hown, hB⟩, hK, hi, hA, hAd, hP, hV⟩ hZ hN (h_endow hflag (inj77 hi) hx1 hag.c (rY_1 τ' ρ ex v) (rY_2 τ' ρ ex v)) kw_L_endow ks_L_endow kn_L kM_L_166 (by decide +kernel) ⟨Nat.le_trans (Nat.le_of_ble_eq_true rfl) hRf, Nat.le_trans (Nat.le_of_ble_eq_true rfl) hRl⟩ rfl hl.1 (Nat.zero_le _) rfl dL_law_728 hcs (fun H locs hP hV => ?_)
  refine lv_istore (lv' := [(5, .int (μ' 0 29)), (4, .int (nI i)), (0, .ref b), (1, .ref (ad 48)), (2, .ref (ad 52)), (3, .ref (ad 51))]) hx hb dL_law_731 hl (by decide) rfl (fun ls hl => ?_)
  refine lv_aload_n hx hb dL_law_733 rfl (lv_at hl 4 rfl) ?_
  refine g_arg hx hb hX hbl hbA hV (lv_at hl 2 rfl) (lv_at hl 1 rfl) 1 (by omega) hL rfl dL_law_734 dL_law_735 dL_law_737 dL_law_738 dL_law_739 ?_
  refine g_cVi (k0 := 0) (b := ad 52) (τ := (mgM μ' (mgZ (rY τ' ρ ex v) ρ))) (σc := sh2 ρ) (As := [.int (xs (i + 1))]) ⟨⟨hx, hb, hml, hown, hB⟩, hK, hi, hA, hAd, hP, hV⟩ sub_ZM (c_X6_endow (inj77M hi) hm1) (fun k _ => (congrFun (sh2_Z (rY τ' ρ ex v) ρ) k).symm) cal_X6_endow kM_L_168 ⟨Nat.le_trans (Nat.le_of_ble_eq_true rfl) hRf, Nat.le_trans (Nat.le_of_ble_eq_true rfl) hRl⟩ (by decide) rfl rfl rfl rfl hl.1 (Nat.zero_le _) rfl dL_law_740 hcs (mgM_1 _ _) (mgM_2 _ _) (fun H locs hP hV => ?_)
  refine lv_istore (lv' := [(6, .int bb), (5, .int (μ' 0 29)), (4, .int (nI i)), (0, .ref b), (1, .ref (ad 48)), (2, .ref (ad 52)), (3, .ref (ad 51))]) hx hb dL_law_743 hl (by decide) rfl (fun ls hl => ?_)
  refine lv_aload_n hx hb dL_law_745 rfl (lv_at hl 5 rfl) ?_
  refine g_cVi (k0 := 0) (b := ad 52) (τ := (mgM μ' (mgZ (rY τ' ρ ex v) ρ))) (σc := μ') (As := []) ⟨⟨hx, hb, hml, hown, hB⟩, hK, hi, hA, hAd, hP, hV⟩ sub_ZM (c_X6_thrown (σ := μ') (r := μ' 0 29) (inj77M hi) rfl) (fun k hk => (mgM_1 μ' _ k hk).symm) cal_X6_thrown kM_L_141 ⟨Nat.le_trans (Nat.le_of_ble_eq_true rfl) hRf, Nat.le_trans (Nat.le_of_ble_eq_true rfl) hRl⟩ (by decide) rfl rfl rfl rfl hl.1 (Nat.zero_le _) rfl dL_law_746 hcs (mgM_1 _ _) (fun _ _ _ => rfl) (fun H locs hP hV => ?_)
  refine lv_iload hx hb dL_law_749 (lv_at hl 1 rfl) ?_
  refine lv_icmp_eq (tgt := 756) hx hb dL_law_751 (by decide) (fun _ => ?_) (fun q9 => absurd rfl q9)
  refine lv_iload hx hb dL_law_756 (lv_at hl 1 rfl) ?_
  refine lv_if_ne (tgt := 773) hx hb dL_law_758 (by decide) (fun _ => ?_) (fun q9 => ?_)
  · refine lv_goto (tgt := 2496) hx hb dL_law_773 (by decide) ?_
    exact nxt _ _ _ _ _ _ hk1 (SX.putY (ρ := ρ) hS1 (rY_1 τ' ρ ex v)) hP hV (lv_sub hl [2, 3, 4, 5, 6] rfl)
  · have hov := out_v (τ' := τ') (ρ := ρ) (μ' := μ') (hag.zero ok2_0 q9)
    refine lv_aload_n hx hb dL_law_761 rfl (lv_at hl 6 rfl) ?_
    refine lv_iconst (v := 0) hx hb dL_law_762 (by decide) ?_
    refine g_lald hx hb hK hP 51 (by decide) EZ_o dL_law_763 ?_
    rw [hov]
    refine lv_iload hx hb dL_law_764 (lv_at hl 0 rfl) ?_
    refine lv_i2l hx hb dL_law_766 rfl ?_
    refine W.lcmp hx hb dL_law_767 ?_
    refine lv_if_eq (tgt := 773) hx hb dL_law_768 (by decide) (fun _ => ?_) (fun q9 => absurd (lcmp_0 _) q9)
    refine lv_goto (tgt := 2496) hx hb dL_law_773 (by decide) ?_
    exact nxt _ _ _ _ _ _ hk1 (SX.putY (ρ := ρ) hS1 (rY_1 τ' ρ ex v)) hP hV (lv_sub hl [2, 3, 4, 5, 6] rfl)
set_option maxHeartbeats 4000000 in
set_option maxRecDepth 100000 in
theorem lc_8 {p : Program} {l : Launch} {e : Env} {R : Room} {s : State} {m : MethodId} {args : Array Value} {below : List Frame} {meth : Method} {c : Code} {H : Heap} {locs : List Loc} {cells slots : Nat} {Q : State → Prop} {ls : Array Slot} {D : va_G} {cI cJ : ClassId} {A : Nat → Prop} {ad : Nat → Nat} {ρ : Mem} {b L i k0 : Nat} {xs : Nat → Int32} {M : Nat → Mem} (C : LC p l R s m args c A b L i xs D cI cJ ad) (hS : SX k0 ρ (sh2 ρ) M) (hk : k0 < 512) (hP : va_P D vwCl (wsG 77 ad (EZ ad cI cJ) ρ) H) (hV : va_S A s.heap H locs) (hl : lv_has ls 7 [(4, .int (nI i)), (0, .ref b), (1, .ref (ad 48)), (2, .ref (ad 52)), (3, .ref (ad 51))]) (hcs : cells + 1 ≤ R.cells ∧ slots + 6 ≤ R.slots) (nxt : Nxt p l e R s m args below meth c A b i k0 D cI cJ ad cells slots Q) : W p l e R s m args below meth c H locs cells slots Q (F0 m 776 ls []) := by
  obtain ⟨⟨hx, hb, hml, hown, hB⟩, hK, hi, hA, hAd, hZ, hN, hX, hbl, hbA, hL, hiL, hflag, hRf, hRl⟩ := C
  obtain ⟨ex, v, τ', μ', k', M', hx1, hm1, hk1, hS1, hag⟩ := OpV.law hS hk (op_seed (hS.beg hk) (xs (i + 1)))
  refine lv_aload_n hx hb dL_law_776 rfl (lv_at hl 2 rfl) ?_
  refine g_arg hx hb hX hbl hbA hV (lv_at hl 1 rfl) (lv_at hl 0 rfl) 1 (by omega) hL rfl dL_law_777 dL_law_778 dL_law_780 dL_law_781 dL_law_782 ?_
  refine g_cY (n := 2) (σr := (rV τ' ρ)) (As := [.ref (ad 48), .int (xs (i + 1))]) ⟨⟨hx, hb, hml, hown, hB⟩, hK, hi, hA, hAd, hP, hV⟩ hZ hN (h_seed hflag (inj77 hi) hx1 hag.c (rV_1 τ' ρ) (rV_2 τ' ρ)) kw_L_seed ks_L_seed kn_L kM_L_169 (by decide +kernel) ⟨Nat.le_trans (Nat.le_of_ble_eq_true rfl) hRf, Nat.le_trans (Nat.le_of_ble_eq_true rfl) hRl⟩ rfl hl.1 (Nat.zero_le _) rfl dL_law_783 hcs (fun H locs hP hV => ?_)
  refine lv_istore (lv' := [(5, .int (μ' 0 29)), (4, .int (nI i)), (0, .ref b), (1, .ref (ad 48)), (2, .ref (ad 52)), (3, .ref (ad 51))]) hx hb dL_law_786 hl (by decide) rfl (fun ls hl => ?_)
  refine lv_aload_n hx hb dL_law_788 rfl (lv_at hl 4 rfl) ?_
  refine g_arg hx hb hX hbl hbA hV (lv_at hl 2 rfl) (lv_at hl 1 rfl) 1 (by omega) hL rfl dL_law_789 dL_law_790 dL_law_792 dL_law_793 dL_law_794 ?_
  refine g_cVv (k0 := 0) (b := ad 52) (τ := (mgM μ' (mgZ (rV τ' ρ) ρ))) (σc := sh2 ρ) (As := [.int (xs (i + 1))]) ⟨⟨hx, hb, hml, hown, hB⟩, hK, hi, hA, hAd, hP, hV⟩ sub_ZM (c_X6_seed (inj77M hi) hm1) (fun k _ => (congrFun (sh2_Z (rV τ' ρ) ρ) k).symm) cal_X6_seed kM_L_172 ⟨Nat.le_trans (Nat.le_of_ble_eq_true rfl) hRf, Nat.le_trans (Nat.le_of_ble_eq_true rfl) hRl⟩ (by decide) rfl rfl rfl rfl hl.1 (Nat.zero_le _) rfl dL_law_795 hcs (mgM_1 _ _) (mgM_2 _ _) (fun H locs hP hV => ?_)
  refine lv_aload_n hx hb dL_law_798 rfl (lv_at hl 4 rfl) ?_
  refine g_cVi (k0 := 0) (b := ad 52) (τ := (mgM μ' (mgZ (rV τ' ρ) ρ))) (σc := μ') (As := []) ⟨⟨hx, hb, hml, hown, hB⟩, hK, hi, hA, hAd, hP, hV⟩ sub_ZM (c_X6_thrown (σ := μ') (r := μ' 0 29) (inj77M hi) rfl) (fun k hk => (mgM_1 μ' _ k hk).symm) cal_X6_thrown kM_L_141 ⟨Nat.le_trans (Nat.le_of_ble_eq_true rfl) hRf, Nat.le_trans (Nat.le_of_ble_eq_true rfl) hRl⟩ (by decide) rfl rfl rfl rfl hl.1 (Nat.zero_le _) rfl dL_law_799 hcs (mgM_1 _ _) (fun _ _ _ => rfl) (fun H locs hP hV => ?_)
  refine lv_iload hx hb dL_law_802 (lv_at hl 0 rfl) ?_
  refine lv_icmp_eq (tgt := 809) hx hb dL_law_804 (by decide) (fun _ => ?_) (fun q9 => absurd rfl q9)
  refine lv_goto (tgt := 2496) hx hb dL_law_809 (by decide) ?_
  exact nxt _ _ _ _ _ _ hk1 (SX.putY (ρ := ρ) hS1 (rV_1 τ' ρ)) hP hV (lv_sub hl [1, 2, 3, 4, 5] rfl)
set_option maxHeartbeats 4000000 in
set_option maxRecDepth 100000 in
theorem lc_9 {p : Program} {l : Launch} {e : Env} {R : Room} {s : State} {m : MethodId} {args : Array Value} {below : List Frame} {meth : Method} {c : Code} {H : Heap} {locs : List Loc} {cells slots : Nat} {Q : State → Prop} {ls : Array Slot} {D : va_G} {cI cJ : ClassId} {A : Nat → Prop} {ad : Nat → Nat} {ρ : Mem} {b L i k0 : Nat} {xs : Nat → Int32} {M : Nat → Mem} (C : LC p l R s m args c A b L i xs D cI cJ ad) (hS : SX k0 ρ (sh2 ρ) M) (hk : k0 < 512) (hP : va_P D vwCl (wsG 77 ad (EZ ad cI cJ) ρ) H) (hV : va_S A s.heap H locs) (hl : lv_has ls 7 [(4, .int (nI i)), (0, .ref b), (1, .ref (ad 48)), (2, .ref (ad 52)), (3, .ref (ad 51))]) (hcs : cells + 1 ≤ R.cells ∧ slots + 6 ≤ R.slots) (nxt : Nxt p l e R s m args below meth c A b i k0 D cI cJ ad cells slots Q) : W p l e R s m args below meth c H locs cells slots Q (F0 m 812 ls []) := by
  obtain ⟨⟨hx, hb, hml, hown, hB⟩, hK, hi, hA, hAd, hZ, hN, hX, hbl, hbA, hL, hiL, hflag, hRf, hRl⟩ := C
  obtain ⟨ex, v, τ', bb, μ', k', M', hx1, hm1, hk1, hS1, hag⟩ := OpR.law hS hk (op_go (hS.beg hk) (xs (i + 1)))
  refine lv_aload_n hx hb dL_law_812 rfl (lv_at hl 2 rfl) ?_
  refine g_arg hx hb hX hbl hbA hV (lv_at hl 1 rfl) (lv_at hl 0 rfl) 1 (by omega) hL rfl dL_law_813 dL_law_814 dL_law_816 dL_law_817 dL_law_818 ?_
  refine lv_aload_n hx hb dL_law_819 rfl (lv_at hl 4 rfl) ?_
  refine g_cY (n := 3) (σr := (rY τ' ρ ex v)) (As := [.ref (ad 48), .int (xs (i + 1)), .ref (ad 51)]) ⟨⟨hx, hb, hml, hown, hB⟩, hK, hi, hA, hAd, hP, hV⟩ hZ hN (h_go hflag (inj77 hi) hx1 hag.c (rY_1 τ' ρ ex v) (rY_2 τ' ρ ex v)) kw_L_go ks_L_go kn_L kM_L_173 (by decide +kernel) ⟨Nat.le_trans (Nat.le_of_ble_eq_true rfl) hRf, Nat.le_trans (Nat.le_of_ble_eq_true rfl) hRl⟩ rfl hl.1 (Nat.zero_le _) rfl dL_law_820 hcs (fun H locs hP hV => ?_)
  refine lv_istore (lv' := [(5, .int (μ' 0 29)), (4, .int (nI i)), (0, .ref b), (1, .ref (ad 48)), (2, .ref (ad 52)), (3, .ref (ad 51))]) hx hb dL_law_823 hl (by decide) rfl (fun ls hl => ?_)
  refine lv_aload_n hx hb dL_law_825 rfl (lv_at hl 4 rfl) ?_
  refine g_arg hx hb hX hbl hbA hV (lv_at hl 2 rfl) (lv_at hl 1 rfl) 1 (by omega) hL rfl dL_law_826 dL_law_827 dL_law_829 dL_law_830 dL_law_831 ?_
  refine g_cVi (k0 := 0) (b := ad 52) (τ := (mgM μ' (mgZ (rY τ' ρ ex v) ρ))) (σc := sh2 ρ) (As := [.int (xs (i + 1))]) ⟨⟨hx, hb, hml, hown, hB⟩, hK, hi, hA, hAd, hP, hV⟩ sub_ZM (c_X6_go (inj77M hi) hm1) (fun k _ => (congrFun (sh2_Z (rY τ' ρ ex v) ρ) k).symm) cal_X6_go kM_L_175 ⟨Nat.le_trans (Nat.le_of_ble_eq_true rfl) hRf, Nat.le_trans (Nat.le_of_ble_eq_true rfl) hRl⟩ (by decide) rfl rfl rfl rfl hl.1 (Nat.zero_le _) rfl dL_law_832 hcs (mgM_1 _ _) (mgM_2 _ _) (fun H locs hP hV => ?_)
  refine lv_istore (lv' := [(6, .int bb), (5, .int (μ' 0 29)), (4, .int (nI i)), (0, .ref b), (1, .ref (ad 48)), (2, .ref (ad 52)), (3, .ref (ad 51))]) hx hb dL_law_835 hl (by decide) rfl (fun ls hl => ?_)
  refine lv_aload_n hx hb dL_law_837 rfl (lv_at hl 5 rfl) ?_
  refine g_cVi (k0 := 0) (b := ad 52) (τ := (mgM μ' (mgZ (rY τ' ρ ex v) ρ))) (σc := μ') (As := []) ⟨⟨hx, hb, hml, hown, hB⟩, hK, hi, hA, hAd, hP, hV⟩ sub_ZM (c_X6_thrown (σ := μ') (r := μ' 0 29) (inj77M hi) rfl) (fun k hk => (mgM_1 μ' _ k hk).symm) cal_X6_thrown kM_L_141 ⟨Nat.le_trans (Nat.le_of_ble_eq_true rfl) hRf, Nat.le_trans (Nat.le_of_ble_eq_true rfl) hRl⟩ (by decide) rfl rfl rfl rfl hl.1 (Nat.zero_le _) rfl dL_law_838 hcs (mgM_1 _ _) (fun _ _ _ => rfl) (fun H locs hP hV => ?_)
  refine lv_iload hx hb dL_law_841 (lv_at hl 1 rfl) ?_
  refine lv_icmp_eq (tgt := 848) hx hb dL_law_843 (by decide) (fun _ => ?_) (fun q9 => absurd rfl q9)
  refine lv_iload hx hb dL_law_848 (lv_at hl 1 rfl) ?_
  refine lv_if_ne (tgt := 865) hx hb dL_law_850 (by decide) (fun _ => ?_) (fun q9 => ?_)
  · refine lv_goto (tgt := 2496) hx hb dL_law_865 (by decide) ?_
    exact nxt _ _ _ _ _ _ hk1 (SX.putY (ρ := ρ) hS1 (rY_1 τ' ρ ex v)) hP hV (lv_sub hl [2, 3, 4, 5, 6] rfl)
  · have hov := out_v (τ' := τ') (ρ := ρ) (μ' := μ') (hag.zero ok13_0 q9)
    refine lv_aload_n hx hb dL_law_853 rfl (lv_at hl 6 rfl) ?_
    refine lv_iconst (v := 0) hx hb dL_law_854 (by decide) ?_
    refine g_lald hx hb hK hP 51 (by decide) EZ_o dL_law_855 ?_
    rw [hov]
    refine lv_iload hx hb dL_law_856 (lv_at hl 0 rfl) ?_
    refine lv_i2l hx hb dL_law_858 rfl ?_
    refine W.lcmp hx hb dL_law_859 ?_
    refine lv_if_eq (tgt := 865) hx hb dL_law_860 (by decide) (fun _ => ?_) (fun q9 => absurd (lcmp_0 _) q9)
    refine lv_goto (tgt := 2496) hx hb dL_law_865 (by decide) ?_
    exact nxt _ _ _ _ _ _ hk1 (SX.putY (ρ := ρ) hS1 (rY_1 τ' ρ ex v)) hP hV (lv_sub hl [2, 3, 4, 5, 6] rfl)
set_option maxHeartbeats 4000000 in
set_option maxRecDepth 100000 in
theorem lc_10 {p : Program} {l : Launch} {e : Env} {R : Room} {s : State} {m : MethodId} {args : Array Value} {below : List Frame} {meth : Method} {c : Code} {H : Heap} {locs : List Loc} {cells slots : Nat} {Q : State → Prop} {ls : Array Slot} {D : va_G} {cI cJ : ClassId} {A : Nat → Prop} {ad : Nat → Nat} {ρ : Mem} {b L i k0 : Nat} {xs : Nat → Int32} {M : Nat → Mem} (C : LC p l R s m args c A b L i xs D cI cJ ad) (hS : SX k0 ρ (sh2 ρ) M) (hk : k0 < 512) (hP : va_P D vwCl (wsG 77 ad (EZ ad cI cJ) ρ) H) (hV : va_S A s.heap H locs) (hl : lv_has ls 7 [(4, .int (nI i)), (0, .ref b), (1, .ref (ad 48)), (2, .ref (ad 52)), (3, .ref (ad 51))]) (hcs : cells + 1 ≤ R.cells ∧ slots + 6 ≤ R.slots) (nxt : Nxt p l e R s m args below meth c A b i k0 D cI cJ ad cells slots Q) : W p l e R s m args below meth c H locs cells slots Q (F0 m 868 ls []) := by
  obtain ⟨⟨hx, hb, hml, hown, hB⟩, hK, hi, hA, hAd, hZ, hN, hX, hbl, hbA, hL, hiL, hflag, hRf, hRl⟩ := C
  obtain ⟨ex, v, τ', bb, μ', k', M', hx1, hm1, hk1, hS1, hag⟩ := OpR.law hS hk (op_say (hS.beg hk) (xs (i + 1)))
  refine lv_aload_n hx hb dL_law_868 rfl (lv_at hl 2 rfl) ?_
  refine g_arg hx hb hX hbl hbA hV (lv_at hl 1 rfl) (lv_at hl 0 rfl) 1 (by omega) hL rfl dL_law_869 dL_law_870 dL_law_872 dL_law_873 dL_law_874 ?_
  refine lv_aload_n hx hb dL_law_875 rfl (lv_at hl 4 rfl) ?_
  refine g_cY (n := 3) (σr := (rY τ' ρ ex v)) (As := [.ref (ad 48), .int (xs (i + 1)), .ref (ad 51)]) ⟨⟨hx, hb, hml, hown, hB⟩, hK, hi, hA, hAd, hP, hV⟩ hZ hN (h_say hflag (inj77 hi) hx1 hag.c (rY_1 τ' ρ ex v) (rY_2 τ' ρ ex v)) kw_L_say ks_L_say kn_L kM_L_176 (by decide +kernel) ⟨Nat.le_trans (Nat.le_of_ble_eq_true rfl) hRf, Nat.le_trans (Nat.le_of_ble_eq_true rfl) hRl⟩ rfl hl.1 (Nat.zero_le _) rfl dL_law_876 hcs (fun H locs hP hV => ?_)
  refine lv_istore (lv' := [(5, .int (μ' 0 29)), (4, .int (nI i)), (0, .ref b), (1, .ref (ad 48)), (2, .ref (ad 52)), (3, .ref (ad 51))]) hx hb dL_law_879 hl (by decide) rfl (fun ls hl => ?_)
  refine lv_aload_n hx hb dL_law_881 rfl (lv_at hl 4 rfl) ?_
  refine g_arg hx hb hX hbl hbA hV (lv_at hl 2 rfl) (lv_at hl 1 rfl) 1 (by omega) hL rfl dL_law_882 dL_law_883 dL_law_885 dL_law_886 dL_law_887 ?_
  refine g_cVi (k0 := 0) (b := ad 52) (τ := (mgM μ' (mgZ (rY τ' ρ ex v) ρ))) (σc := sh2 ρ) (As := [.int (xs (i + 1))]) ⟨⟨hx, hb, hml, hown, hB⟩, hK, hi, hA, hAd, hP, hV⟩ sub_ZM (c_X6_say (inj77M hi) hm1) (fun k _ => (congrFun (sh2_Z (rY τ' ρ ex v) ρ) k).symm) cal_X6_say kM_L_178 ⟨Nat.le_trans (Nat.le_of_ble_eq_true rfl) hRf, Nat.le_trans (Nat.le_of_ble_eq_true rfl) hRl⟩ (by decide) rfl rfl rfl rfl hl.1 (Nat.zero_le _) rfl dL_law_888 hcs (mgM_1 _ _) (mgM_2 _ _) (fun H locs hP hV => ?_)
  refine lv_istore (lv' := [(6, .int bb), (5, .int (μ' 0 29)), (4, .int (nI i)), (0, .ref b), (1, .ref (ad 48)), (2, .ref (ad 52)), (3, .ref (ad 51))]) hx hb dL_law_891 hl (by decide) rfl (fun ls hl => ?_)
  refine lv_aload_n hx hb dL_law_893 rfl (lv_at hl 5 rfl) ?_
  refine g_cVi (k0 := 0) (b := ad 52) (τ := (mgM μ' (mgZ (rY τ' ρ ex v) ρ))) (σc := μ') (As := []) ⟨⟨hx, hb, hml, hown, hB⟩, hK, hi, hA, hAd, hP, hV⟩ sub_ZM (c_X6_thrown (σ := μ') (r := μ' 0 29) (inj77M hi) rfl) (fun k hk => (mgM_1 μ' _ k hk).symm) cal_X6_thrown kM_L_141 ⟨Nat.le_trans (Nat.le_of_ble_eq_true rfl) hRf, Nat.le_trans (Nat.le_of_ble_eq_true rfl) hRl⟩ (by decide) rfl rfl rfl rfl hl.1 (Nat.zero_le _) rfl dL_law_894 hcs (mgM_1 _ _) (fun _ _ _ => rfl) (fun H locs hP hV => ?_)
  refine lv_iload hx hb dL_law_897 (lv_at hl 1 rfl) ?_
  refine lv_icmp_eq (tgt := 904) hx hb dL_law_899 (by decide) (fun _ => ?_) (fun q9 => absurd rfl q9)
  refine lv_iload hx hb dL_law_904 (lv_at hl 1 rfl) ?_
  refine lv_if_ne (tgt := 921) hx hb dL_law_906 (by decide) (fun _ => ?_) (fun q9 => ?_)
  · refine lv_goto (tgt := 2496) hx hb dL_law_921 (by decide) ?_
    exact nxt _ _ _ _ _ _ hk1 (SX.putY (ρ := ρ) hS1 (rY_1 τ' ρ ex v)) hP hV (lv_sub hl [2, 3, 4, 5, 6] rfl)
  · have hov := out_v (τ' := τ') (ρ := ρ) (μ' := μ') (hag.zero ok23_0 q9)
    refine lv_aload_n hx hb dL_law_909 rfl (lv_at hl 6 rfl) ?_
    refine lv_iconst (v := 0) hx hb dL_law_910 (by decide) ?_
    refine g_lald hx hb hK hP 51 (by decide) EZ_o dL_law_911 ?_
    rw [hov]
    refine lv_iload hx hb dL_law_912 (lv_at hl 0 rfl) ?_
    refine lv_i2l hx hb dL_law_914 rfl ?_
    refine W.lcmp hx hb dL_law_915 ?_
    refine lv_if_eq (tgt := 921) hx hb dL_law_916 (by decide) (fun _ => ?_) (fun q9 => absurd (lcmp_0 _) q9)
    refine lv_goto (tgt := 2496) hx hb dL_law_921 (by decide) ?_
    exact nxt _ _ _ _ _ _ hk1 (SX.putY (ρ := ρ) hS1 (rY_1 τ' ρ ex v)) hP hV (lv_sub hl [2, 3, 4, 5, 6] rfl)
set_option maxHeartbeats 4000000 in
set_option maxRecDepth 100000 in
theorem lc_11 {p : Program} {l : Launch} {e : Env} {R : Room} {s : State} {m : MethodId} {args : Array Value} {below : List Frame} {meth : Method} {c : Code} {H : Heap} {locs : List Loc} {cells slots : Nat} {Q : State → Prop} {ls : Array Slot} {D : va_G} {cI cJ : ClassId} {A : Nat → Prop} {ad : Nat → Nat} {ρ : Mem} {b L i k0 : Nat} {xs : Nat → Int32} {M : Nat → Mem} (C : LC p l R s m args c A b L i xs D cI cJ ad) (hS : SX k0 ρ (sh2 ρ) M) (hk : k0 < 512) (hP : va_P D vwCl (wsG 77 ad (EZ ad cI cJ) ρ) H) (hV : va_S A s.heap H locs) (hl : lv_has ls 7 [(4, .int (nI i)), (0, .ref b), (1, .ref (ad 48)), (2, .ref (ad 52)), (3, .ref (ad 51))]) (hcs : cells + 1 ≤ R.cells ∧ slots + 6 ≤ R.slots) (nxt : Nxt p l e R s m args below meth c A b i k0 D cI cJ ad cells slots Q) : W p l e R s m args below meth c H locs cells slots Q (F0 m 924 ls []) := by
  obtain ⟨⟨hx, hb, hml, hown, hB⟩, hK, hi, hA, hAd, hZ, hN, hX, hbl, hbA, hL, hiL, hflag, hRf, hRl⟩ := C
  obtain ⟨ex, v, τ', bb, μ', k', M', hx1, hm1, hk1, hS1, hag⟩ := OpR.law hS hk (op_shout (hS.beg hk) (xs (i + 1)))
  refine lv_aload_n hx hb dL_law_924 rfl (lv_at hl 2 rfl) ?_
  refine g_arg hx hb hX hbl hbA hV (lv_at hl 1 rfl) (lv_at hl 0 rfl) 1 (by omega) hL rfl dL_law_925 dL_law_926 dL_law_928 dL_law_929 dL_law_930 ?_
  refine lv_aload_n hx hb dL_law_931 rfl (lv_at hl 4 rfl) ?_
  refine g_cY (n := 3) (σr := (rY τ' ρ ex v)) (As := [.ref (ad 48), .int (xs (i + 1)), .ref (ad 51)]) ⟨⟨hx, hb, hml, hown, hB⟩, hK, hi, hA, hAd, hP, hV⟩ hZ hN (h_shout hflag (inj77 hi) hx1 hag.c (rY_1 τ' ρ ex v) (rY_2 τ' ρ ex v)) kw_L_shout ks_L_shout kn_L kM_L_179 (by decide +kernel) ⟨Nat.le_trans (Nat.le_of_ble_eq_true rfl) hRf, Nat.le_trans (Nat.le_of_ble_eq_true rfl) hRl⟩ rfl hl.1 (Nat.zero_le _) rfl dL_law_932 hcs (fun H locs hP hV => ?_)
  refine lv_istore (lv' := [(5, .int (μ' 0 29)), (4, .int (nI i)), (0, .ref b), (1, .ref (ad 48)), (2, .ref (ad 52)), (3, .ref (ad 51))]) hx hb dL_law_935 hl (by decide) rfl (fun ls hl => ?_)
  refine lv_aload_n hx hb dL_law_937 rfl (lv_at hl 4 rfl) ?_
  refine g_arg hx hb hX hbl hbA hV (lv_at hl 2 rfl) (lv_at hl 1 rfl) 1 (by omega) hL rfl dL_law_938 dL_law_939 dL_law_941 dL_law_942 dL_law_943 ?_
  refine g_cVi (k0 := 0) (b := ad 52) (τ := (mgM μ' (mgZ (rY τ' ρ ex v) ρ))) (σc := sh2 ρ) (As := [.int (xs (i + 1))]) ⟨⟨hx, hb, hml, hown, hB⟩, hK, hi, hA, hAd, hP, hV⟩ sub_ZM (c_X6_shout (inj77M hi) hm1) (fun k _ => (congrFun (sh2_Z (rY τ' ρ ex v) ρ) k).symm) cal_X6_shout kM_L_181 ⟨Nat.le_trans (Nat.le_of_ble_eq_true rfl) hRf, Nat.le_trans (Nat.le_of_ble_eq_true rfl) hRl⟩ (by decide) rfl rfl rfl rfl hl.1 (Nat.zero_le _) rfl dL_law_944 hcs (mgM_1 _ _) (mgM_2 _ _) (fun H locs hP hV => ?_)
  refine lv_istore (lv' := [(6, .int bb), (5, .int (μ' 0 29)), (4, .int (nI i)), (0, .ref b), (1, .ref (ad 48)), (2, .ref (ad 52)), (3, .ref (ad 51))]) hx hb dL_law_947 hl (by decide) rfl (fun ls hl => ?_)
  refine lv_aload_n hx hb dL_law_949 rfl (lv_at hl 5 rfl) ?_
  refine g_cVi (k0 := 0) (b := ad 52) (τ := (mgM μ' (mgZ (rY τ' ρ ex v) ρ))) (σc := μ') (As := []) ⟨⟨hx, hb, hml, hown, hB⟩, hK, hi, hA, hAd, hP, hV⟩ sub_ZM (c_X6_thrown (σ := μ') (r := μ' 0 29) (inj77M hi) rfl) (fun k hk => (mgM_1 μ' _ k hk).symm) cal_X6_thrown kM_L_141 ⟨Nat.le_trans (Nat.le_of_ble_eq_true rfl) hRf, Nat.le_trans (Nat.le_of_ble_eq_true rfl) hRl⟩ (by decide) rfl rfl rfl rfl hl.1 (Nat.zero_le _) rfl dL_law_950 hcs (mgM_1 _ _) (fun _ _ _ => rfl) (fun H locs hP hV => ?_)
  refine lv_iload hx hb dL_law_953 (lv_at hl 1 rfl) ?_
  refine lv_icmp_eq (tgt := 960) hx hb dL_law_955 (by decide) (fun _ => ?_) (fun q9 => absurd rfl q9)
  refine lv_iload hx hb dL_law_960 (lv_at hl 1 rfl) ?_
  refine lv_if_ne (tgt := 977) hx hb dL_law_962 (by decide) (fun _ => ?_) (fun q9 => ?_)
  · refine lv_goto (tgt := 2496) hx hb dL_law_977 (by decide) ?_
    exact nxt _ _ _ _ _ _ hk1 (SX.putY (ρ := ρ) hS1 (rY_1 τ' ρ ex v)) hP hV (lv_sub hl [2, 3, 4, 5, 6] rfl)
  · have hov := out_v (τ' := τ') (ρ := ρ) (μ' := μ') (hag.zero ok23_0 q9)
    refine lv_aload_n hx hb dL_law_965 rfl (lv_at hl 6 rfl) ?_
    refine lv_iconst (v := 0) hx hb dL_law_966 (by decide) ?_
    refine g_lald hx hb hK hP 51 (by decide) EZ_o dL_law_967 ?_
    rw [hov]
    refine lv_iload hx hb dL_law_968 (lv_at hl 0 rfl) ?_
    refine lv_i2l hx hb dL_law_970 rfl ?_
    refine W.lcmp hx hb dL_law_971 ?_
    refine lv_if_eq (tgt := 977) hx hb dL_law_972 (by decide) (fun _ => ?_) (fun q9 => absurd (lcmp_0 _) q9)
    refine lv_goto (tgt := 2496) hx hb dL_law_977 (by decide) ?_
    exact nxt _ _ _ _ _ _ hk1 (SX.putY (ρ := ρ) hS1 (rY_1 τ' ρ ex v)) hP hV (lv_sub hl [2, 3, 4, 5, 6] rfl)
set_option maxHeartbeats 4000000 in
set_option maxRecDepth 100000 in
theorem lc_12 {p : Program} {l : Launch} {e : Env} {R : Room} {s : State} {m : MethodId} {args : Array Value} {below : List Frame} {meth : Method} {c : Code} {H : Heap} {locs : List Loc} {cells slots : Nat} {Q : State → Prop} {ls : Array Slot} {D : va_G} {cI cJ : ClassId} {A : Nat → Prop} {ad : Nat → Nat} {ρ : Mem} {b L i k0 : Nat} {xs : Nat → Int32} {M : Nat → Mem} (C : LC p l R s m args c A b L i xs D cI cJ ad) (hS : SX k0 ρ (sh2 ρ) M) (hk : k0 < 512) (hP : va_P D vwCl (wsG 77 ad (EZ ad cI cJ) ρ) H) (hV : va_S A s.heap H locs) (hl : lv_has ls 7 [(4, .int (nI i)), (0, .ref b), (1, .ref (ad 48)), (2, .ref (ad 52)), (3, .ref (ad 51))]) (hcs : cells + 1 ≤ R.cells ∧ slots + 6 ≤ R.slots) (nxt : Nxt p l e R s m args below meth c A b i k0 D cI cJ ad cells slots Q) : W p l e R s m args below meth c H locs cells slots Q (F0 m 980 ls []) := by
  obtain ⟨⟨hx, hb, hml, hown, hB⟩, hK, hi, hA, hAd, hZ, hN, hX, hbl, hbA, hL, hiL, hflag, hRf, hRl⟩ := C
  obtain ⟨ex, v, τ', bb, μ', k', M', hx1, hm1, hk1, hS1, hag⟩ := OpR.law hS hk (op_take (hS.beg hk) (xs (i + 1)))
  refine lv_aload_n hx hb dL_law_980 rfl (lv_at hl 2 rfl) ?_
  refine g_arg hx hb hX hbl hbA hV (lv_at hl 1 rfl) (lv_at hl 0 rfl) 1 (by omega) hL rfl dL_law_981 dL_law_982 dL_law_984 dL_law_985 dL_law_986 ?_
  refine lv_aload_n hx hb dL_law_987 rfl (lv_at hl 4 rfl) ?_
  refine g_cY (n := 3) (σr := (rY τ' ρ ex v)) (As := [.ref (ad 48), .int (xs (i + 1)), .ref (ad 51)]) ⟨⟨hx, hb, hml, hown, hB⟩, hK, hi, hA, hAd, hP, hV⟩ hZ hN (h_take hflag (inj77 hi) hx1 hag.c (rY_1 τ' ρ ex v) (rY_2 τ' ρ ex v)) kw_L_take ks_L_take kn_L kM_L_182 (by decide +kernel) ⟨Nat.le_trans (Nat.le_of_ble_eq_true rfl) hRf, Nat.le_trans (Nat.le_of_ble_eq_true rfl) hRl⟩ rfl hl.1 (Nat.zero_le _) rfl dL_law_988 hcs (fun H locs hP hV => ?_)
  refine lv_istore (lv' := [(5, .int (μ' 0 29)), (4, .int (nI i)), (0, .ref b), (1, .ref (ad 48)), (2, .ref (ad 52)), (3, .ref (ad 51))]) hx hb dL_law_991 hl (by decide) rfl (fun ls hl => ?_)
  refine lv_aload_n hx hb dL_law_993 rfl (lv_at hl 4 rfl) ?_
  refine g_arg hx hb hX hbl hbA hV (lv_at hl 2 rfl) (lv_at hl 1 rfl) 1 (by omega) hL rfl dL_law_994 dL_law_995 dL_law_997 dL_law_998 dL_law_999 ?_
  refine g_cVi (k0 := 0) (b := ad 52) (τ := (mgM μ' (mgZ (rY τ' ρ ex v) ρ))) (σc := sh2 ρ) (As := [.int (xs (i + 1))]) ⟨⟨hx, hb, hml, hown, hB⟩, hK, hi, hA, hAd, hP, hV⟩ sub_ZM (c_X6_take (inj77M hi) hm1) (fun k _ => (congrFun (sh2_Z (rY τ' ρ ex v) ρ) k).symm) cal_X6_take kM_L_184 ⟨Nat.le_trans (Nat.le_of_ble_eq_true rfl) hRf, Nat.le_trans (Nat.le_of_ble_eq_true rfl) hRl⟩ (by decide) rfl rfl rfl rfl hl.1 (Nat.zero_le _) rfl dL_law_1000 hcs (mgM_1 _ _) (mgM_2 _ _) (fun H locs hP hV => ?_)
  refine lv_istore (lv' := [(6, .int bb), (5, .int (μ' 0 29)), (4, .int (nI i)), (0, .ref b), (1, .ref (ad 48)), (2, .ref (ad 52)), (3, .ref (ad 51))]) hx hb dL_law_1003 hl (by decide) rfl (fun ls hl => ?_)
  refine lv_aload_n hx hb dL_law_1005 rfl (lv_at hl 5 rfl) ?_
  refine g_cVi (k0 := 0) (b := ad 52) (τ := (mgM μ' (mgZ (rY τ' ρ ex v) ρ))) (σc := μ') (As := []) ⟨⟨hx, hb, hml, hown, hB⟩, hK, hi, hA, hAd, hP, hV⟩ sub_ZM (c_X6_thrown (σ := μ') (r := μ' 0 29) (inj77M hi) rfl) (fun k hk => (mgM_1 μ' _ k hk).symm) cal_X6_thrown kM_L_141 ⟨Nat.le_trans (Nat.le_of_ble_eq_true rfl) hRf, Nat.le_trans (Nat.le_of_ble_eq_true rfl) hRl⟩ (by decide) rfl rfl rfl rfl hl.1 (Nat.zero_le _) rfl dL_law_1006 hcs (mgM_1 _ _) (fun _ _ _ => rfl) (fun H locs hP hV => ?_)
  refine lv_iload hx hb dL_law_1009 (lv_at hl 1 rfl) ?_
  refine lv_icmp_eq (tgt := 1016) hx hb dL_law_1011 (by decide) (fun _ => ?_) (fun q9 => absurd rfl q9)
  refine lv_iload hx hb dL_law_1016 (lv_at hl 1 rfl) ?_
  refine lv_if_ne (tgt := 1033) hx hb dL_law_1018 (by decide) (fun _ => ?_) (fun q9 => ?_)
  · refine lv_goto (tgt := 2496) hx hb dL_law_1033 (by decide) ?_
    exact nxt _ _ _ _ _ _ hk1 (SX.putY (ρ := ρ) hS1 (rY_1 τ' ρ ex v)) hP hV (lv_sub hl [2, 3, 4, 5, 6] rfl)
  · have hov := out_v (τ' := τ') (ρ := ρ) (μ' := μ') (hag.zero ok13_0 q9)
    refine lv_aload_n hx hb dL_law_1021 rfl (lv_at hl 6 rfl) ?_
    refine lv_iconst (v := 0) hx hb dL_law_1022 (by decide) ?_
    refine g_lald hx hb hK hP 51 (by decide) EZ_o dL_law_1023 ?_
    rw [hov]
    refine lv_iload hx hb dL_law_1024 (lv_at hl 0 rfl) ?_
    refine lv_i2l hx hb dL_law_1026 rfl ?_
    refine W.lcmp hx hb dL_law_1027 ?_
    refine lv_if_eq (tgt := 1033) hx hb dL_law_1028 (by decide) (fun _ => ?_) (fun q9 => absurd (lcmp_0 _) q9)
    refine lv_goto (tgt := 2496) hx hb dL_law_1033 (by decide) ?_
    exact nxt _ _ _ _ _ _ hk1 (SX.putY (ρ := ρ) hS1 (rY_1 τ' ρ ex v)) hP hV (lv_sub hl [2, 3, 4, 5, 6] rfl)
set_option maxHeartbeats 4000000 in
set_option maxRecDepth 100000 in
theorem lc_13 {p : Program} {l : Launch} {e : Env} {R : Room} {s : State} {m : MethodId} {args : Array Value} {below : List Frame} {meth : Method} {c : Code} {H : Heap} {locs : List Loc} {cells slots : Nat} {Q : State → Prop} {ls : Array Slot} {D : va_G} {cI cJ : ClassId} {A : Nat → Prop} {ad : Nat → Nat} {ρ : Mem} {b L i k0 : Nat} {xs : Nat → Int32} {M : Nat → Mem} (C : LC p l R s m args c A b L i xs D cI cJ ad) (hS : SX k0 ρ (sh2 ρ) M) (hk : k0 < 512) (hP : va_P D vwCl (wsG 77 ad (EZ ad cI cJ) ρ) H) (hV : va_S A s.heap H locs) (hl : lv_has ls 7 [(4, .int (nI i)), (0, .ref b), (1, .ref (ad 48)), (2, .ref (ad 52)), (3, .ref (ad 51))]) (hcs : cells + 1 ≤ R.cells ∧ slots + 6 ≤ R.slots) (nxt : Nxt p l e R s m args below meth c A b i k0 D cI cJ ad cells slots Q) : W p l e R s m args below meth c H locs cells slots Q (F0 m 1036 ls []) := by
  obtain ⟨⟨hx, hb, hml, hown, hB⟩, hK, hi, hA, hAd, hZ, hN, hX, hbl, hbA, hL, hiL, hflag, hRf, hRl⟩ := C
  obtain ⟨ex, v, τ', bb, μ', k', M', hx1, hm1, hk1, hS1, hag⟩ := OpR.law hS hk (op_drop (hS.beg hk) (xs (i + 1)))
  refine lv_aload_n hx hb dL_law_1036 rfl (lv_at hl 2 rfl) ?_
  refine g_arg hx hb hX hbl hbA hV (lv_at hl 1 rfl) (lv_at hl 0 rfl) 1 (by omega) hL rfl dL_law_1037 dL_law_1038 dL_law_1040 dL_law_1041 dL_law_1042 ?_
  refine lv_aload_n hx hb dL_law_1043 rfl (lv_at hl 4 rfl) ?_
  refine g_cY (n := 3) (σr := (rY τ' ρ ex v)) (As := [.ref (ad 48), .int (xs (i + 1)), .ref (ad 51)]) ⟨⟨hx, hb, hml, hown, hB⟩, hK, hi, hA, hAd, hP, hV⟩ hZ hN (h_drop hflag (inj77 hi) hx1 hag.c (rY_1 τ' ρ ex v) (rY_2 τ' ρ ex v)) kw_L_drop ks_L_drop kn_L kM_L_185 (by decide +kernel) ⟨Nat.le_trans (Nat.le_of_ble_eq_true rfl) hRf, Nat.le_trans (Nat.le_of_ble_eq_true rfl) hRl⟩ rfl hl.1 (Nat.zero_le _) rfl dL_law_1044 hcs (fun H locs hP hV => ?_)
  refine lv_istore (lv' := [(5, .int (μ' 0 29)), (4, .int (nI i)), (0, .ref b), (1, .ref (ad 48)), (2, .ref (ad 52)), (3, .ref (ad 51))]) hx hb dL_law_1047 hl (by decide) rfl (fun ls hl => ?_)
  refine lv_aload_n hx hb dL_law_1049 rfl (lv_at hl 4 rfl) ?_
  refine g_arg hx hb hX hbl hbA hV (lv_at hl 2 rfl) (lv_at hl 1 rfl) 1 (by omega) hL rfl dL_law_1050 dL_law_1051 dL_law_1053 dL_law_1054 dL_law_1055 ?_
  refine g_cVi (k0 := 0) (b := ad 52) (τ := (mgM μ' (mgZ (rY τ' ρ ex v) ρ))) (σc := sh2 ρ) (As := [.int (xs (i + 1))]) ⟨⟨hx, hb, hml, hown, hB⟩, hK, hi, hA, hAd, hP, hV⟩ sub_ZM (c_X6_drop (inj77M hi) hm1) (fun k _ => (congrFun (sh2_Z (rY τ' ρ ex v) ρ) k).symm) cal_X6_drop kM_L_187 ⟨Nat.le_trans (Nat.le_of_ble_eq_true rfl) hRf, Nat.le_trans (Nat.le_of_ble_eq_true rfl) hRl⟩ (by decide) rfl rfl rfl rfl hl.1 (Nat.zero_le _) rfl dL_law_1056 hcs (mgM_1 _ _) (mgM_2 _ _) (fun H locs hP hV => ?_)
  refine lv_istore (lv' := [(6, .int bb), (5, .int (μ' 0 29)), (4, .int (nI i)), (0, .ref b), (1, .ref (ad 48)), (2, .ref (ad 52)), (3, .ref (ad 51))]) hx hb dL_law_1059 hl (by decide) rfl (fun ls hl => ?_)
  refine lv_aload_n hx hb dL_law_1061 rfl (lv_at hl 5 rfl) ?_
  refine g_cVi (k0 := 0) (b := ad 52) (τ := (mgM μ' (mgZ (rY τ' ρ ex v) ρ))) (σc := μ') (As := []) ⟨⟨hx, hb, hml, hown, hB⟩, hK, hi, hA, hAd, hP, hV⟩ sub_ZM (c_X6_thrown (σ := μ') (r := μ' 0 29) (inj77M hi) rfl) (fun k hk => (mgM_1 μ' _ k hk).symm) cal_X6_thrown kM_L_141 ⟨Nat.le_trans (Nat.le_of_ble_eq_true rfl) hRf, Nat.le_trans (Nat.le_of_ble_eq_true rfl) hRl⟩ (by decide) rfl rfl rfl rfl hl.1 (Nat.zero_le _) rfl dL_law_1062 hcs (mgM_1 _ _) (fun _ _ _ => rfl) (fun H locs hP hV => ?_)
  refine lv_iload hx hb dL_law_1065 (lv_at hl 1 rfl) ?_
  refine lv_icmp_eq (tgt := 1072) hx hb dL_law_1067 (by decide) (fun _ => ?_) (fun q9 => absurd rfl q9)
  refine lv_iload hx hb dL_law_1072 (lv_at hl 1 rfl) ?_
  refine lv_if_ne (tgt := 1089) hx hb dL_law_1074 (by decide) (fun _ => ?_) (fun q9 => ?_)
  · refine lv_goto (tgt := 2496) hx hb dL_law_1089 (by decide) ?_
    exact nxt _ _ _ _ _ _ hk1 (SX.putY (ρ := ρ) hS1 (rY_1 τ' ρ ex v)) hP hV (lv_sub hl [2, 3, 4, 5, 6] rfl)
  · have hov := out_v (τ' := τ') (ρ := ρ) (μ' := μ') (hag.zero ok13_0 q9)
    refine lv_aload_n hx hb dL_law_1077 rfl (lv_at hl 6 rfl) ?_
    refine lv_iconst (v := 0) hx hb dL_law_1078 (by decide) ?_
    refine g_lald hx hb hK hP 51 (by decide) EZ_o dL_law_1079 ?_
    rw [hov]
    refine lv_iload hx hb dL_law_1080 (lv_at hl 0 rfl) ?_
    refine lv_i2l hx hb dL_law_1082 rfl ?_
    refine W.lcmp hx hb dL_law_1083 ?_
    refine lv_if_eq (tgt := 1089) hx hb dL_law_1084 (by decide) (fun _ => ?_) (fun q9 => absurd (lcmp_0 _) q9)
    refine lv_goto (tgt := 2496) hx hb dL_law_1089 (by decide) ?_
    exact nxt _ _ _ _ _ _ hk1 (SX.putY (ρ := ρ) hS1 (rY_1 τ' ρ ex v)) hP hV (lv_sub hl [2, 3, 4, 5, 6] rfl)
set_option maxHeartbeats 4000000 in
set_option maxRecDepth 100000 in
theorem lc_14 {p : Program} {l : Launch} {e : Env} {R : Room} {s : State} {m : MethodId} {args : Array Value} {below : List Frame} {meth : Method} {c : Code} {H : Heap} {locs : List Loc} {cells slots : Nat} {Q : State → Prop} {ls : Array Slot} {D : va_G} {cI cJ : ClassId} {A : Nat → Prop} {ad : Nat → Nat} {ρ : Mem} {b L i k0 : Nat} {xs : Nat → Int32} {M : Nat → Mem} (C : LC p l R s m args c A b L i xs D cI cJ ad) (hS : SX k0 ρ (sh2 ρ) M) (hk : k0 < 512) (hP : va_P D vwCl (wsG 77 ad (EZ ad cI cJ) ρ) H) (hV : va_S A s.heap H locs) (hl : lv_has ls 7 [(4, .int (nI i)), (0, .ref b), (1, .ref (ad 48)), (2, .ref (ad 52)), (3, .ref (ad 51))]) (hcs : cells + 1 ≤ R.cells ∧ slots + 6 ≤ R.slots) (nxt : Nxt p l e R s m args below meth c A b i k0 D cI cJ ad cells slots Q) : W p l e R s m args below meth c H locs cells slots Q (F0 m 1092 ls []) := by
  obtain ⟨⟨hx, hb, hml, hown, hB⟩, hK, hi, hA, hAd, hZ, hN, hX, hbl, hbA, hL, hiL, hflag, hRf, hRl⟩ := C
  obtain ⟨ex, v, τ', bb, μ', k', M', hx1, hm1, hk1, hS1, hag⟩ := OpR.law hS hk (op_give (hS.beg hk) (xs (i + 1)) (xs (i + 2)))
  refine lv_aload_n hx hb dL_law_1092 rfl (lv_at hl 2 rfl) ?_
  refine g_arg hx hb hX hbl hbA hV (lv_at hl 1 rfl) (lv_at hl 0 rfl) 1 (by omega) hL rfl dL_law_1093 dL_law_1094 dL_law_1096 dL_law_1097 dL_law_1098 ?_
  refine g_arg hx hb hX hbl hbA hV (lv_at hl 1 rfl) (lv_at hl 0 rfl) 2 (by omega) hL rfl dL_law_1099 dL_law_1100 dL_law_1102 dL_law_1103 dL_law_1104 ?_
  refine lv_aload_n hx hb dL_law_1105 rfl (lv_at hl 4 rfl) ?_
  refine g_cY (n := 4) (σr := (rY τ' ρ ex v)) (As := [.ref (ad 48), .int (xs (i + 1)), .int (xs (i + 2)), .ref (ad 51)]) ⟨⟨hx, hb, hml, hown, hB⟩, hK, hi, hA, hAd, hP, hV⟩ hZ hN (h_give hflag (inj77 hi) hx1 hag.c (rY_1 τ' ρ ex v) (rY_2 τ' ρ ex v)) kw_L_give ks_L_give kn_L kM_L_188 (by decide +kernel) ⟨Nat.le_trans (Nat.le_of_ble_eq_true rfl) hRf, Nat.le_trans (Nat.le_of_ble_eq_true rfl) hRl⟩ rfl hl.1 (Nat.zero_le _) rfl dL_law_1106 hcs (fun H locs hP hV => ?_)
  refine lv_istore (lv' := [(5, .int (μ' 0 29)), (4, .int (nI i)), (0, .ref b), (1, .ref (ad 48)), (2, .ref (ad 52)), (3, .ref (ad 51))]) hx hb dL_law_1109 hl (by decide) rfl (fun ls hl => ?_)
  refine lv_aload_n hx hb dL_law_1111 rfl (lv_at hl 4 rfl) ?_
  refine g_arg hx hb hX hbl hbA hV (lv_at hl 2 rfl) (lv_at hl 1 rfl) 1 (by omega) hL rfl dL_law_1112 dL_law_1113 dL_law_1115 dL_law_1116 dL_law_1117 ?_
  refine g_arg hx hb hX hbl hbA hV (lv_at hl 2 rfl) (lv_at hl 1 rfl) 2 (by omega) hL rfl dL_law_1118 dL_law_1119 dL_law_1121 dL_law_1122 dL_law_1123 ?_
  refine g_cVi (k0 := 0) (b := ad 52) (τ := (mgM μ' (mgZ (rY τ' ρ ex v) ρ))) (σc := sh2 ρ) (As := [.int (xs (i + 1)), .int (xs (i + 2))]) ⟨⟨hx, hb, hml, hown, hB⟩, hK, hi, hA, hAd, hP, hV⟩ sub_ZM (c_X6_give (inj77M hi) hm1) (fun k _ => (congrFun (sh2_Z (rY τ' ρ ex v) ρ) k).symm) cal_X6_give kM_L_191 ⟨Nat.le_trans (Nat.le_of_ble_eq_true rfl) hRf, Nat.le_trans (Nat.le_of_ble_eq_true rfl) hRl⟩ (by decide) rfl rfl rfl rfl hl.1 (Nat.zero_le _) rfl dL_law_1124 hcs (mgM_1 _ _) (mgM_2 _ _) (fun H locs hP hV => ?_)
  refine lv_istore (lv' := [(6, .int bb), (5, .int (μ' 0 29)), (4, .int (nI i)), (0, .ref b), (1, .ref (ad 48)), (2, .ref (ad 52)), (3, .ref (ad 51))]) hx hb dL_law_1127 hl (by decide) rfl (fun ls hl => ?_)
  refine lv_aload_n hx hb dL_law_1129 rfl (lv_at hl 5 rfl) ?_
  refine g_cVi (k0 := 0) (b := ad 52) (τ := (mgM μ' (mgZ (rY τ' ρ ex v) ρ))) (σc := μ') (As := []) ⟨⟨hx, hb, hml, hown, hB⟩, hK, hi, hA, hAd, hP, hV⟩ sub_ZM (c_X6_thrown (σ := μ') (r := μ' 0 29) (inj77M hi) rfl) (fun k hk => (mgM_1 μ' _ k hk).symm) cal_X6_thrown kM_L_141 ⟨Nat.le_trans (Nat.le_of_ble_eq_true rfl) hRf, Nat.le_trans (Nat.le_of_ble_eq_true rfl) hRl⟩ (by decide) rfl rfl rfl rfl hl.1 (Nat.zero_le _) rfl dL_law_1130 hcs (mgM_1 _ _) (fun _ _ _ => rfl) (fun H locs hP hV => ?_)
  refine lv_iload hx hb dL_law_1133 (lv_at hl 1 rfl) ?_
  refine lv_icmp_eq (tgt := 1140) hx hb dL_law_1135 (by decide) (fun _ => ?_) (fun q9 => absurd rfl q9)
  refine lv_iload hx hb dL_law_1140 (lv_at hl 1 rfl) ?_
  refine lv_if_ne (tgt := 1157) hx hb dL_law_1142 (by decide) (fun _ => ?_) (fun q9 => ?_)
  · refine lv_goto (tgt := 2496) hx hb dL_law_1157 (by decide) ?_
    exact nxt _ _ _ _ _ _ hk1 (SX.putY (ρ := ρ) hS1 (rY_1 τ' ρ ex v)) hP hV (lv_sub hl [2, 3, 4, 5, 6] rfl)
  · have hov := out_v (τ' := τ') (ρ := ρ) (μ' := μ') (hag.zero ok13_0 q9)
    refine lv_aload_n hx hb dL_law_1145 rfl (lv_at hl 6 rfl) ?_
    refine lv_iconst (v := 0) hx hb dL_law_1146 (by decide) ?_
    refine g_lald hx hb hK hP 51 (by decide) EZ_o dL_law_1147 ?_
    rw [hov]
    refine lv_iload hx hb dL_law_1148 (lv_at hl 0 rfl) ?_
    refine lv_i2l hx hb dL_law_1150 rfl ?_
    refine W.lcmp hx hb dL_law_1151 ?_
    refine lv_if_eq (tgt := 1157) hx hb dL_law_1152 (by decide) (fun _ => ?_) (fun q9 => absurd (lcmp_0 _) q9)
    refine lv_goto (tgt := 2496) hx hb dL_law_1157 (by decide) ?_
    exact nxt _ _ _ _ _ _ hk1 (SX.putY (ρ := ρ) hS1 (rY_1 τ' ρ ex v)) hP hV (lv_sub hl [2, 3, 4, 5, 6] rfl)
set_option maxHeartbeats 4000000 in
set_option maxRecDepth 100000 in
theorem lc_15 {p : Program} {l : Launch} {e : Env} {R : Room} {s : State} {m : MethodId} {args : Array Value} {below : List Frame} {meth : Method} {c : Code} {H : Heap} {locs : List Loc} {cells slots : Nat} {Q : State → Prop} {ls : Array Slot} {D : va_G} {cI cJ : ClassId} {A : Nat → Prop} {ad : Nat → Nat} {ρ : Mem} {b L i k0 : Nat} {xs : Nat → Int32} {M : Nat → Mem} (C : LC p l R s m args c A b L i xs D cI cJ ad) (hS : SX k0 ρ (sh2 ρ) M) (hk : k0 < 512) (hP : va_P D vwCl (wsG 77 ad (EZ ad cI cJ) ρ) H) (hV : va_S A s.heap H locs) (hl : lv_has ls 7 [(4, .int (nI i)), (0, .ref b), (1, .ref (ad 48)), (2, .ref (ad 52)), (3, .ref (ad 51))]) (hcs : cells + 1 ≤ R.cells ∧ slots + 6 ≤ R.slots) (nxt : Nxt p l e R s m args below meth c A b i k0 D cI cJ ad cells slots Q) : W p l e R s m args below meth c H locs cells slots Q (F0 m 1160 ls []) := by
  obtain ⟨⟨hx, hb, hml, hown, hB⟩, hK, hi, hA, hAd, hZ, hN, hX, hbl, hbA, hL, hiL, hflag, hRf, hRl⟩ := C
  obtain ⟨ex, v, τ', bb, μ', k', M', hx1, hm1, hk1, hS1, hag⟩ := OpR.law hS hk (op_pay (hS.beg hk) (xs (i + 1)) (xs (i + 2)))
  refine lv_aload_n hx hb dL_law_1160 rfl (lv_at hl 2 rfl) ?_
  refine g_arg hx hb hX hbl hbA hV (lv_at hl 1 rfl) (lv_at hl 0 rfl) 1 (by omega) hL rfl dL_law_1161 dL_law_1162 dL_law_1164 dL_law_1165 dL_law_1166 ?_
  refine g_arg hx hb hX hbl hbA hV (lv_at hl 1 rfl) (lv_at hl 0 rfl) 2 (by omega) hL rfl dL_law_1167 dL_law_1168 dL_law_1170 dL_law_1171 dL_law_1172 ?_
  refine lv_aload_n hx hb dL_law_1173 rfl (lv_at hl 4 rfl) ?_
  refine g_cY (n := 4) (σr := (rY τ' ρ ex v)) (As := [.ref (ad 48), .int (xs (i + 1)), .int (xs (i + 2)), .ref (ad 51)]) ⟨⟨hx, hb, hml, hown, hB⟩, hK, hi, hA, hAd, hP, hV⟩ hZ hN (h_pay hflag (inj77 hi) hx1 hag.c (rY_1 τ' ρ ex v) (rY_2 τ' ρ ex v)) kw_L_pay ks_L_pay kn_L kM_L_192 (by decide +kernel) ⟨Nat.le_trans (Nat.le_of_ble_eq_true rfl) hRf, Nat.le_trans (Nat.le_of_ble_eq_true rfl) hRl⟩ rfl hl.1 (Nat.zero_le _) rfl dL_law_1174 hcs (fun H locs hP hV => ?_)
  refine lv_istore (lv' := [(5, .int (μ' 0 29)), (4, .int (nI i)), (0, .ref b), (1, .ref (ad 48)), (2, .ref (ad 52)), (3, .ref (ad 51))]) hx hb dL_law_1177 hl (by decide) rfl (fun ls hl => ?_)
  refine lv_aload_n hx hb dL_law_1179 rfl (lv_at hl 4 rfl) ?_
  refine g_arg hx hb hX hbl hbA hV (lv_at hl 2 rfl) (lv_at hl 1 rfl) 1 (by omega) hL rfl dL_law_1180 dL_law_1181 dL_law_1183 dL_law_1184 dL_law_1185 ?_
  refine g_arg hx hb hX hbl hbA hV (lv_at hl 2 rfl) (lv_at hl 1 rfl) 2 (by omega) hL rfl dL_law_1186 dL_law_1187 dL_law_1189 dL_law_1190 dL_law_1191 ?_
  refine g_cVi (k0 := 0) (b := ad 52) (τ := (mgM μ' (mgZ (rY τ' ρ ex v) ρ))) (σc := sh2 ρ) (As := [.int (xs (i + 1)), .int (xs (i + 2))]) ⟨⟨hx, hb, hml, hown, hB⟩, hK, hi, hA, hAd, hP, hV⟩ sub_ZM (c_X6_pay (inj77M hi) hm1) (fun k _ => (congrFun (sh2_Z (rY τ' ρ ex v) ρ) k).symm) cal_X6_pay kM_L_194 ⟨Nat.le_trans (Nat.le_of_ble_eq_true rfl) hRf, Nat.le_trans (Nat.le_of_ble_eq_true rfl) hRl⟩ (by decide) rfl rfl rfl rfl hl.1 (Nat.zero_le _) rfl dL_law_1192 hcs (mgM_1 _ _) (mgM_2 _ _) (fun H locs hP hV => ?_)
  refine lv_istore (lv' := [(6, .int bb), (5, .int (μ' 0 29)), (4, .int (nI i)), (0, .ref b), (1, .ref (ad 48)), (2, .ref (ad 52)), (3, .ref (ad 51))]) hx hb dL_law_1195 hl (by decide) rfl (fun ls hl => ?_)
  refine lv_aload_n hx hb dL_law_1197 rfl (lv_at hl 5 rfl) ?_
  refine g_cVi (k0 := 0) (b := ad 52) (τ := (mgM μ' (mgZ (rY τ' ρ ex v) ρ))) (σc := μ') (As := []) ⟨⟨hx, hb, hml, hown, hB⟩, hK, hi, hA, hAd, hP, hV⟩ sub_ZM (c_X6_thrown (σ := μ') (r := μ' 0 29) (inj77M hi) rfl) (fun k hk => (mgM_1 μ' _ k hk).symm) cal_X6_thrown kM_L_141 ⟨Nat.le_trans (Nat.le_of_ble_eq_true rfl) hRf, Nat.le_trans (Nat.le_of_ble_eq_true rfl) hRl⟩ (by decide) rfl rfl rfl rfl hl.1 (Nat.zero_le _) rfl dL_law_1198 hcs (mgM_1 _ _) (fun _ _ _ => rfl) (fun H locs hP hV => ?_)
  refine lv_iload hx hb dL_law_1201 (lv_at hl 1 rfl) ?_
  refine lv_icmp_eq (tgt := 1208) hx hb dL_law_1203 (by decide) (fun _ => ?_) (fun q9 => absurd rfl q9)
  refine lv_iload hx hb dL_law_1208 (lv_at hl 1 rfl) ?_
  refine lv_if_ne (tgt := 1225) hx hb dL_law_1210 (by decide) (fun _ => ?_) (fun q9 => ?_)
  · refine lv_goto (tgt := 2496) hx hb dL_law_1225 (by decide) ?_
    exact nxt _ _ _ _ _ _ hk1 (SX.putY (ρ := ρ) hS1 (rY_1 τ' ρ ex v)) hP hV (lv_sub hl [2, 3, 4, 5, 6] rfl)
  · have hov := out_v (τ' := τ') (ρ := ρ) (μ' := μ') (hag.zero ok123_0 q9)
    refine lv_aload_n hx hb dL_law_1213 rfl (lv_at hl 6 rfl) ?_
    refine lv_iconst (v := 0) hx hb dL_law_1214 (by decide) ?_
    refine g_lald hx hb hK hP 51 (by decide) EZ_o dL_law_1215 ?_
    rw [hov]
    refine lv_iload hx hb dL_law_1216 (lv_at hl 0 rfl) ?_
    refine lv_i2l hx hb dL_law_1218 rfl ?_
    refine W.lcmp hx hb dL_law_1219 ?_
    refine lv_if_eq (tgt := 1225) hx hb dL_law_1220 (by decide) (fun _ => ?_) (fun q9 => absurd (lcmp_0 _) q9)
    refine lv_goto (tgt := 2496) hx hb dL_law_1225 (by decide) ?_
    exact nxt _ _ _ _ _ _ hk1 (SX.putY (ρ := ρ) hS1 (rY_1 τ' ρ ex v)) hP hV (lv_sub hl [2, 3, 4, 5, 6] rfl)
set_option maxHeartbeats 4000000 in
set_option maxRecDepth 100000 in
theorem lc_16 {p : Program} {l : Launch} {e : Env} {R : Room} {s : State} {m : MethodId} {args : Array Value} {below : List Frame} {meth : Method} {c : Code} {H : Heap} {locs : List Loc} {cells slots : Nat} {Q : State → Prop} {ls : Array Slot} {D : va_G} {cI cJ : ClassId} {A : Nat → Prop} {ad : Nat → Nat} {ρ : Mem} {b L i k0 : Nat} {xs : Nat → Int32} {M : Nat → Mem} (C : LC p l R s m args c A b L i xs D cI cJ ad) (hS : SX k0 ρ (sh2 ρ) M) (hk : k0 < 512) (hP : va_P D vwCl (wsG 77 ad (EZ ad cI cJ) ρ) H) (hV : va_S A s.heap H locs) (hl : lv_has ls 7 [(4, .int (nI i)), (0, .ref b), (1, .ref (ad 48)), (2, .ref (ad 52)), (3, .ref (ad 51))]) (hcs : cells + 1 ≤ R.cells ∧ slots + 6 ≤ R.slots) (nxt : Nxt p l e R s m args below meth c A b i k0 D cI cJ ad cells slots Q) : W p l e R s m args below meth c H locs cells slots Q (F0 m 1228 ls []) := by
  obtain ⟨⟨hx, hb, hml, hown, hB⟩, hK, hi, hA, hAd, hZ, hN, hX, hbl, hbA, hL, hiL, hflag, hRf, hRl⟩ := C
  obtain ⟨ex, v, τ', bb, μ', k', M', hx1, hm1, hk1, hS1, hag⟩ := OpR.law hS hk (op_buy (hS.beg hk) (xs (i + 1)))
  refine lv_aload_n hx hb dL_law_1228 rfl (lv_at hl 2 rfl) ?_
  refine g_arg hx hb hX hbl hbA hV (lv_at hl 1 rfl) (lv_at hl 0 rfl) 1 (by omega) hL rfl dL_law_1229 dL_law_1230 dL_law_1232 dL_law_1233 dL_law_1234 ?_
  refine lv_aload_n hx hb dL_law_1235 rfl (lv_at hl 4 rfl) ?_
  refine g_cY (n := 3) (σr := (rY τ' ρ ex v)) (As := [.ref (ad 48), .int (xs (i + 1)), .ref (ad 51)]) ⟨⟨hx, hb, hml, hown, hB⟩, hK, hi, hA, hAd, hP, hV⟩ hZ hN (h_buy hflag (inj77 hi) hx1 hag.c (rY_1 τ' ρ ex v) (rY_2 τ' ρ ex v)) kw_L_buy ks_L_buy kn_L kM_L_195 (by decide +kernel) ⟨Nat.le_trans (Nat.le_of_ble_eq_true rfl) hRf, Nat.le_trans (Nat.le_of_ble_eq_true rfl) hRl⟩ rfl hl.1 (Nat.zero_le _) rfl dL_law_1236 hcs (fun H locs hP hV => ?_)
  refine lv_istore (lv' := [(5, .int (μ' 0 29)), (4, .int (nI i)), (0, .ref b), (1, .ref (ad 48)), (2, .ref (ad 52)), (3, .ref (ad 51))]) hx hb dL_law_1239 hl (by decide) rfl (fun ls hl => ?_)
  refine lv_aload_n hx hb dL_law_1241 rfl (lv_at hl 4 rfl) ?_
  refine g_arg hx hb hX hbl hbA hV (lv_at hl 2 rfl) (lv_at hl 1 rfl) 1 (by omega) hL rfl dL_law_1242 dL_law_1243 dL_law_1245 dL_law_1246 dL_law_1247 ?_
  refine g_cVi (k0 := 0) (b := ad 52) (τ := (mgM μ' (mgZ (rY τ' ρ ex v) ρ))) (σc := sh2 ρ) (As := [.int (xs (i + 1))]) ⟨⟨hx, hb, hml, hown, hB⟩, hK, hi, hA, hAd, hP, hV⟩ sub_ZM (c_X6_buy (inj77M hi) hm1) (fun k _ => (congrFun (sh2_Z (rY τ' ρ ex v) ρ) k).symm) cal_X6_buy kM_L_197 ⟨Nat.le_trans (Nat.le_of_ble_eq_true rfl) hRf, Nat.le_trans (Nat.le_of_ble_eq_true rfl) hRl⟩ (by decide) rfl rfl rfl rfl hl.1 (Nat.zero_le _) rfl dL_law_1248 hcs (mgM_1 _ _) (mgM_2 _ _) (fun H locs hP hV => ?_)
  refine lv_istore (lv' := [(6, .int bb), (5, .int (μ' 0 29)), (4, .int (nI i)), (0, .ref b), (1, .ref (ad 48)), (2, .ref (ad 52)), (3, .ref (ad 51))]) hx hb dL_law_1251 hl (by decide) rfl (fun ls hl => ?_)
  refine lv_aload_n hx hb dL_law_1253 rfl (lv_at hl 5 rfl) ?_
  refine g_cVi (k0 := 0) (b := ad 52) (τ := (mgM μ' (mgZ (rY τ' ρ ex v) ρ))) (σc := μ') (As := []) ⟨⟨hx, hb, hml, hown, hB⟩, hK, hi, hA, hAd, hP, hV⟩ sub_ZM (c_X6_thrown (σ := μ') (r := μ' 0 29) (inj77M hi) rfl) (fun k hk => (mgM_1 μ' _ k hk).symm) cal_X6_thrown kM_L_141 ⟨Nat.le_trans (Nat.le_of_ble_eq_true rfl) hRf, Nat.le_trans (Nat.le_of_ble_eq_true rfl) hRl⟩ (by decide) rfl rfl rfl rfl hl.1 (Nat.zero_le _) rfl dL_law_1254 hcs (mgM_1 _ _) (fun _ _ _ => rfl) (fun H locs hP hV => ?_)
  refine lv_iload hx hb dL_law_1257 (lv_at hl 1 rfl) ?_
  refine lv_icmp_eq (tgt := 1264) hx hb dL_law_1259 (by decide) (fun _ => ?_) (fun q9 => absurd rfl q9)
  refine lv_iload hx hb dL_law_1264 (lv_at hl 1 rfl) ?_
  refine lv_if_ne (tgt := 1281) hx hb dL_law_1266 (by decide) (fun _ => ?_) (fun q9 => ?_)
  · refine lv_goto (tgt := 2496) hx hb dL_law_1281 (by decide) ?_
    exact nxt _ _ _ _ _ _ hk1 (SX.putY (ρ := ρ) hS1 (rY_1 τ' ρ ex v)) hP hV (lv_sub hl [2, 3, 4, 5, 6] rfl)
  · have hov := out_v (τ' := τ') (ρ := ρ) (μ' := μ') (hag.zero ok13_0 q9)
    refine lv_aload_n hx hb dL_law_1269 rfl (lv_at hl 6 rfl) ?_
    refine lv_iconst (v := 0) hx hb dL_law_1270 (by decide) ?_
    refine g_lald hx hb hK hP 51 (by decide) EZ_o dL_law_1271 ?_
    rw [hov]
    refine lv_iload hx hb dL_law_1272 (lv_at hl 0 rfl) ?_
    refine lv_i2l hx hb dL_law_1274 rfl ?_
    refine W.lcmp hx hb dL_law_1275 ?_
    refine lv_if_eq (tgt := 1281) hx hb dL_law_1276 (by decide) (fun _ => ?_) (fun q9 => absurd (lcmp_0 _) q9)
    refine lv_goto (tgt := 2496) hx hb dL_law_1281 (by decide) ?_
    exact nxt _ _ _ _ _ _ hk1 (SX.putY (ρ := ρ) hS1 (rY_1 τ' ρ ex v)) hP hV (lv_sub hl [2, 3, 4, 5, 6] rfl)
set_option maxHeartbeats 4000000 in
set_option maxRecDepth 100000 in
theorem lc_17 {p : Program} {l : Launch} {e : Env} {R : Room} {s : State} {m : MethodId} {args : Array Value} {below : List Frame} {meth : Method} {c : Code} {H : Heap} {locs : List Loc} {cells slots : Nat} {Q : State → Prop} {ls : Array Slot} {D : va_G} {cI cJ : ClassId} {A : Nat → Prop} {ad : Nat → Nat} {ρ : Mem} {b L i k0 : Nat} {xs : Nat → Int32} {M : Nat → Mem} (C : LC p l R s m args c A b L i xs D cI cJ ad) (hS : SX k0 ρ (sh2 ρ) M) (hk : k0 < 512) (hP : va_P D vwCl (wsG 77 ad (EZ ad cI cJ) ρ) H) (hV : va_S A s.heap H locs) (hl : lv_has ls 7 [(4, .int (nI i)), (0, .ref b), (1, .ref (ad 48)), (2, .ref (ad 52)), (3, .ref (ad 51))]) (hcs : cells + 1 ≤ R.cells ∧ slots + 6 ≤ R.slots) (nxt : Nxt p l e R s m args below meth c A b i k0 D cI cJ ad cells slots Q) : W p l e R s m args below meth c H locs cells slots Q (F0 m 1284 ls []) := by
  obtain ⟨⟨hx, hb, hml, hown, hB⟩, hK, hi, hA, hAd, hZ, hN, hX, hbl, hbA, hL, hiL, hflag, hRf, hRl⟩ := C
  obtain ⟨ex, v, τ', bb, μ', k', M', hx1, hm1, hk1, hS1, hag⟩ := OpR.law hS hk (op_sell (hS.beg hk) (xs (i + 1)))
  refine lv_aload_n hx hb dL_law_1284 rfl (lv_at hl 2 rfl) ?_
  refine g_arg hx hb hX hbl hbA hV (lv_at hl 1 rfl) (lv_at hl 0 rfl) 1 (by omega) hL rfl dL_law_1285 dL_law_1286 dL_law_1288 dL_law_1289 dL_law_1290 ?_
  refine lv_aload_n hx hb dL_law_1291 rfl (lv_at hl 4 rfl) ?_
  refine g_cY (n := 3) (σr := (rY τ' ρ ex v)) (As := [.ref (ad 48), .int (xs (i + 1)), .ref (ad 51)]) ⟨⟨hx, hb, hml, hown, hB⟩, hK, hi, hA, hAd, hP, hV⟩ hZ hN (h_sell hflag (inj77 hi) hx1 hag.c (rY_1 τ' ρ ex v) (rY_2 τ' ρ ex v)) kw_L_sell ks_L_sell kn_L kM_L_198 (by decide +kernel) ⟨Nat.le_trans (Nat.le_of_ble_eq_true rfl) hRf, Nat.le_trans (Nat.le_of_ble_eq_true rfl) hRl⟩ rfl hl.1 (Nat.zero_le _) rfl dL_law_1292 hcs (fun H locs hP hV => ?_)
  refine lv_istore (lv' := [(5, .int (μ' 0 29)), (4, .int (nI i)), (0, .ref b), (1, .ref (ad 48)), (2, .ref (ad 52)), (3, .ref (ad 51))]) hx hb dL_law_1295 hl (by decide) rfl (fun ls hl => ?_)
  refine lv_aload_n hx hb dL_law_1297 rfl (lv_at hl 4 rfl) ?_
  refine g_arg hx hb hX hbl hbA hV (lv_at hl 2 rfl) (lv_at hl 1 rfl) 1 (by omega) hL rfl dL_law_1298 dL_law_1299 dL_law_1301 dL_law_1302 dL_law_1303 ?_
  refine g_cVi (k0 := 0) (b := ad 52) (τ := (mgM μ' (mgZ (rY τ' ρ ex v) ρ))) (σc := sh2 ρ) (As := [.int (xs (i + 1))]) ⟨⟨hx, hb, hml, hown, hB⟩, hK, hi, hA, hAd, hP, hV⟩ sub_ZM (c_X6_sell (inj77M hi) hm1) (fun k _ => (congrFun (sh2_Z (rY τ' ρ ex v) ρ) k).symm) cal_X6_sell kM_L_200 ⟨Nat.le_trans (Nat.le_of_ble_eq_true rfl) hRf, Nat.le_trans (Nat.le_of_ble_eq_true rfl) hRl⟩ (by decide) rfl rfl rfl rfl hl.1 (Nat.zero_le _) rfl dL_law_1304 hcs (mgM_1 _ _) (mgM_2 _ _) (fun H locs hP hV => ?_)
  refine lv_istore (lv' := [(6, .int bb), (5, .int (μ' 0 29)), (4, .int (nI i)), (0, .ref b), (1, .ref (ad 48)), (2, .ref (ad 52)), (3, .ref (ad 51))]) hx hb dL_law_1307 hl (by decide) rfl (fun ls hl => ?_)
  refine lv_aload_n hx hb dL_law_1309 rfl (lv_at hl 5 rfl) ?_
  refine g_cVi (k0 := 0) (b := ad 52) (τ := (mgM μ' (mgZ (rY τ' ρ ex v) ρ))) (σc := μ') (As := []) ⟨⟨hx, hb, hml, hown, hB⟩, hK, hi, hA, hAd, hP, hV⟩ sub_ZM (c_X6_thrown (σ := μ') (r := μ' 0 29) (inj77M hi) rfl) (fun k hk => (mgM_1 μ' _ k hk).symm) cal_X6_thrown kM_L_141 ⟨Nat.le_trans (Nat.le_of_ble_eq_true rfl) hRf, Nat.le_trans (Nat.le_of_ble_eq_true rfl) hRl⟩ (by decide) rfl rfl rfl rfl hl.1 (Nat.zero_le _) rfl dL_law_1310 hcs (mgM_1 _ _) (fun _ _ _ => rfl) (fun H locs hP hV => ?_)
  refine lv_iload hx hb dL_law_1313 (lv_at hl 1 rfl) ?_
  refine lv_icmp_eq (tgt := 1320) hx hb dL_law_1315 (by decide) (fun _ => ?_) (fun q9 => absurd rfl q9)
  refine lv_iload hx hb dL_law_1320 (lv_at hl 1 rfl) ?_
  refine lv_if_ne (tgt := 1337) hx hb dL_law_1322 (by decide) (fun _ => ?_) (fun q9 => ?_)
  · refine lv_goto (tgt := 2496) hx hb dL_law_1337 (by decide) ?_
    exact nxt _ _ _ _ _ _ hk1 (SX.putY (ρ := ρ) hS1 (rY_1 τ' ρ ex v)) hP hV (lv_sub hl [2, 3, 4, 5, 6] rfl)
  · have hov := out_v (τ' := τ') (ρ := ρ) (μ' := μ') (hag.zero ok13_0 q9)
    refine lv_aload_n hx hb dL_law_1325 rfl (lv_at hl 6 rfl) ?_
    refine lv_iconst (v := 0) hx hb dL_law_1326 (by decide) ?_
    refine g_lald hx hb hK hP 51 (by decide) EZ_o dL_law_1327 ?_
    rw [hov]
    refine lv_iload hx hb dL_law_1328 (lv_at hl 0 rfl) ?_
    refine lv_i2l hx hb dL_law_1330 rfl ?_
    refine W.lcmp hx hb dL_law_1331 ?_
    refine lv_if_eq (tgt := 1337) hx hb dL_law_1332 (by decide) (fun _ => ?_) (fun q9 => absurd (lcmp_0 _) q9)
    refine lv_goto (tgt := 2496) hx hb dL_law_1337 (by decide) ?_
    exact nxt _ _ _ _ _ _ hk1 (SX.putY (ρ := ρ) hS1 (rY_1 τ' ρ ex v)) hP hV (lv_sub hl [2, 3, 4, 5, 6] rfl)
set_option maxHeartbeats 4000000 in
set_option maxRecDepth 100000 in
theorem lc_18 {p : Program} {l : Launch} {e : Env} {R : Room} {s : State} {m : MethodId} {args : Array Value} {below : List Frame} {meth : Method} {c : Code} {H : Heap} {locs : List Loc} {cells slots : Nat} {Q : State → Prop} {ls : Array Slot} {D : va_G} {cI cJ : ClassId} {A : Nat → Prop} {ad : Nat → Nat} {ρ : Mem} {b L i k0 : Nat} {xs : Nat → Int32} {M : Nat → Mem} (C : LC p l R s m args c A b L i xs D cI cJ ad) (hS : SX k0 ρ (sh2 ρ) M) (hk : k0 < 512) (hP : va_P D vwCl (wsG 77 ad (EZ ad cI cJ) ρ) H) (hV : va_S A s.heap H locs) (hl : lv_has ls 7 [(4, .int (nI i)), (0, .ref b), (1, .ref (ad 48)), (2, .ref (ad 52)), (3, .ref (ad 51))]) (hcs : cells + 1 ≤ R.cells ∧ slots + 6 ≤ R.slots) (nxt : Nxt p l e R s m args below meth c A b i k0 D cI cJ ad cells slots Q) : W p l e R s m args below meth c H locs cells slots Q (F0 m 1340 ls []) := by
  obtain ⟨⟨hx, hb, hml, hown, hB⟩, hK, hi, hA, hAd, hZ, hN, hX, hbl, hbA, hL, hiL, hflag, hRf, hRl⟩ := C
  obtain ⟨ex, v, τ', bb, μ', k', M', hx1, hm1, hk1, hS1, hag⟩ := OpR.law hS hk (op_attack (hS.beg hk) (xs (i + 1)))
  refine lv_aload_n hx hb dL_law_1340 rfl (lv_at hl 2 rfl) ?_
  refine g_arg hx hb hX hbl hbA hV (lv_at hl 1 rfl) (lv_at hl 0 rfl) 1 (by omega) hL rfl dL_law_1341 dL_law_1342 dL_law_1344 dL_law_1345 dL_law_1346 ?_
  refine lv_aload_n hx hb dL_law_1347 rfl (lv_at hl 4 rfl) ?_
  refine g_cY (n := 3) (σr := (rY τ' ρ ex v)) (As := [.ref (ad 48), .int (xs (i + 1)), .ref (ad 51)]) ⟨⟨hx, hb, hml, hown, hB⟩, hK, hi, hA, hAd, hP, hV⟩ hZ hN (h_attack hflag (inj77 hi) hx1 hag.c (rY_1 τ' ρ ex v) (rY_2 τ' ρ ex v)) kw_L_attack ks_L_attack kn_L kM_L_201 (by decide +kernel) ⟨Nat.le_trans (Nat.le_of_ble_eq_true rfl) hRf, Nat.le_trans (Nat.le_of_ble_eq_true rfl) hRl⟩ rfl hl.1 (Nat.zero_le _) rfl dL_law_1348 hcs (fun H locs hP hV => ?_)
  refine lv_istore (lv' := [(5, .int (μ' 0 29)), (4, .int (nI i)), (0, .ref b), (1, .ref (ad 48)), (2, .ref (ad 52)), (3, .ref (ad 51))]) hx hb dL_law_1351 hl (by decide) rfl (fun ls hl => ?_)
  refine lv_aload_n hx hb dL_law_1353 rfl (lv_at hl 4 rfl) ?_
  refine g_arg hx hb hX hbl hbA hV (lv_at hl 2 rfl) (lv_at hl 1 rfl) 1 (by omega) hL rfl dL_law_1354 dL_law_1355 dL_law_1357 dL_law_1358 dL_law_1359 ?_
  refine g_cVi (k0 := 0) (b := ad 52) (τ := (mgM μ' (mgZ (rY τ' ρ ex v) ρ))) (σc := sh2 ρ) (As := [.int (xs (i + 1))]) ⟨⟨hx, hb, hml, hown, hB⟩, hK, hi, hA, hAd, hP, hV⟩ sub_ZM (c_X6_attack (inj77M hi) hm1) (fun k _ => (congrFun (sh2_Z (rY τ' ρ ex v) ρ) k).symm) cal_X6_attack kM_L_203 ⟨Nat.le_trans (Nat.le_of_ble_eq_true rfl) hRf, Nat.le_trans (Nat.le_of_ble_eq_true rfl) hRl⟩ (by decide) rfl rfl rfl rfl hl.1 (Nat.zero_le _) rfl dL_law_1360 hcs (mgM_1 _ _) (mgM_2 _ _) (fun H locs hP hV => ?_)
  refine lv_istore (lv' := [(6, .int bb), (5, .int (μ' 0 29)), (4, .int (nI i)), (0, .ref b), (1, .ref (ad 48)), (2, .ref (ad 52)), (3, .ref (ad 51))]) hx hb dL_law_1363 hl (by decide) rfl (fun ls hl => ?_)
  refine lv_aload_n hx hb dL_law_1365 rfl (lv_at hl 5 rfl) ?_
  refine g_cVi (k0 := 0) (b := ad 52) (τ := (mgM μ' (mgZ (rY τ' ρ ex v) ρ))) (σc := μ') (As := []) ⟨⟨hx, hb, hml, hown, hB⟩, hK, hi, hA, hAd, hP, hV⟩ sub_ZM (c_X6_thrown (σ := μ') (r := μ' 0 29) (inj77M hi) rfl) (fun k hk => (mgM_1 μ' _ k hk).symm) cal_X6_thrown kM_L_141 ⟨Nat.le_trans (Nat.le_of_ble_eq_true rfl) hRf, Nat.le_trans (Nat.le_of_ble_eq_true rfl) hRl⟩ (by decide) rfl rfl rfl rfl hl.1 (Nat.zero_le _) rfl dL_law_1366 hcs (mgM_1 _ _) (fun _ _ _ => rfl) (fun H locs hP hV => ?_)
  refine lv_iload hx hb dL_law_1369 (lv_at hl 1 rfl) ?_
  refine lv_icmp_eq (tgt := 1376) hx hb dL_law_1371 (by decide) (fun _ => ?_) (fun q9 => absurd rfl q9)
  refine lv_iload hx hb dL_law_1376 (lv_at hl 1 rfl) ?_
  refine lv_if_ne (tgt := 1393) hx hb dL_law_1378 (by decide) (fun _ => ?_) (fun q9 => ?_)
  · refine lv_goto (tgt := 2496) hx hb dL_law_1393 (by decide) ?_
    exact nxt _ _ _ _ _ _ hk1 (SX.putY (ρ := ρ) hS1 (rY_1 τ' ρ ex v)) hP hV (lv_sub hl [2, 3, 4, 5, 6] rfl)
  · have hov := out_v (τ' := τ') (ρ := ρ) (μ' := μ') (hag.zero ok13_0 q9)
    refine lv_aload_n hx hb dL_law_1381 rfl (lv_at hl 6 rfl) ?_
    refine lv_iconst (v := 0) hx hb dL_law_1382 (by decide) ?_
    refine g_lald hx hb hK hP 51 (by decide) EZ_o dL_law_1383 ?_
    rw [hov]
    refine lv_iload hx hb dL_law_1384 (lv_at hl 0 rfl) ?_
    refine lv_i2l hx hb dL_law_1386 rfl ?_
    refine W.lcmp hx hb dL_law_1387 ?_
    refine lv_if_eq (tgt := 1393) hx hb dL_law_1388 (by decide) (fun _ => ?_) (fun q9 => absurd (lcmp_0 _) q9)
    refine lv_goto (tgt := 2496) hx hb dL_law_1393 (by decide) ?_
    exact nxt _ _ _ _ _ _ hk1 (SX.putY (ρ := ρ) hS1 (rY_1 τ' ρ ex v)) hP hV (lv_sub hl [2, 3, 4, 5, 6] rfl)
set_option maxHeartbeats 4000000 in
set_option maxRecDepth 100000 in
theorem lc_19 {p : Program} {l : Launch} {e : Env} {R : Room} {s : State} {m : MethodId} {args : Array Value} {below : List Frame} {meth : Method} {c : Code} {H : Heap} {locs : List Loc} {cells slots : Nat} {Q : State → Prop} {ls : Array Slot} {D : va_G} {cI cJ : ClassId} {A : Nat → Prop} {ad : Nat → Nat} {ρ : Mem} {b L i k0 : Nat} {xs : Nat → Int32} {M : Nat → Mem} (C : LC p l R s m args c A b L i xs D cI cJ ad) (hS : SX k0 ρ (sh2 ρ) M) (hk : k0 < 512) (hP : va_P D vwCl (wsG 77 ad (EZ ad cI cJ) ρ) H) (hV : va_S A s.heap H locs) (hl : lv_has ls 7 [(4, .int (nI i)), (0, .ref b), (1, .ref (ad 48)), (2, .ref (ad 52)), (3, .ref (ad 51))]) (hcs : cells + 1 ≤ R.cells ∧ slots + 6 ≤ R.slots) (nxt : Nxt p l e R s m args below meth c A b i k0 D cI cJ ad cells slots Q) : W p l e R s m args below meth c H locs cells slots Q (F0 m 1396 ls []) := by
  obtain ⟨⟨hx, hb, hml, hown, hB⟩, hK, hi, hA, hAd, hZ, hN, hX, hbl, hbA, hL, hiL, hflag, hRf, hRl⟩ := C
  obtain ⟨ex, v, τ', bb, μ', k', M', hx1, hm1, hk1, hS1, hag⟩ := OpR.law hS hk (op_rest (hS.beg hk) )
  refine lv_aload_n hx hb dL_law_1396 rfl (lv_at hl 2 rfl) ?_
  refine lv_aload_n hx hb dL_law_1397 rfl (lv_at hl 4 rfl) ?_
  refine g_cY (n := 2) (σr := (rY τ' ρ ex v)) (As := [.ref (ad 48), .ref (ad 51)]) ⟨⟨hx, hb, hml, hown, hB⟩, hK, hi, hA, hAd, hP, hV⟩ hZ hN (h_rest hflag (inj77 hi) hx1 hag.c (rY_1 τ' ρ ex v) (rY_2 τ' ρ ex v)) kw_L_rest ks_L_rest kn_L kM_L_204 (by decide +kernel) ⟨Nat.le_trans (Nat.le_of_ble_eq_true rfl) hRf, Nat.le_trans (Nat.le_of_ble_eq_true rfl) hRl⟩ rfl hl.1 (Nat.zero_le _) rfl dL_law_1398 hcs (fun H locs hP hV => ?_)
  refine lv_istore (lv' := [(5, .int (μ' 0 29)), (4, .int (nI i)), (0, .ref b), (1, .ref (ad 48)), (2, .ref (ad 52)), (3, .ref (ad 51))]) hx hb dL_law_1401 hl (by decide) rfl (fun ls hl => ?_)
  refine lv_aload_n hx hb dL_law_1403 rfl (lv_at hl 4 rfl) ?_
  refine g_cVi (k0 := 0) (b := ad 52) (τ := (mgM μ' (mgZ (rY τ' ρ ex v) ρ))) (σc := sh2 ρ) (As := []) ⟨⟨hx, hb, hml, hown, hB⟩, hK, hi, hA, hAd, hP, hV⟩ sub_ZM (c_X6_rest (inj77M hi) hm1) (fun k _ => (congrFun (sh2_Z (rY τ' ρ ex v) ρ) k).symm) cal_X6_rest kM_L_207 ⟨Nat.le_trans (Nat.le_of_ble_eq_true rfl) hRf, Nat.le_trans (Nat.le_of_ble_eq_true rfl) hRl⟩ (by decide) rfl rfl rfl rfl hl.1 (Nat.zero_le _) rfl dL_law_1404 hcs (mgM_1 _ _) (mgM_2 _ _) (fun H locs hP hV => ?_)
  refine lv_istore (lv' := [(6, .int bb), (5, .int (μ' 0 29)), (4, .int (nI i)), (0, .ref b), (1, .ref (ad 48)), (2, .ref (ad 52)), (3, .ref (ad 51))]) hx hb dL_law_1407 hl (by decide) rfl (fun ls hl => ?_)
  refine lv_aload_n hx hb dL_law_1409 rfl (lv_at hl 5 rfl) ?_
  refine g_cVi (k0 := 0) (b := ad 52) (τ := (mgM μ' (mgZ (rY τ' ρ ex v) ρ))) (σc := μ') (As := []) ⟨⟨hx, hb, hml, hown, hB⟩, hK, hi, hA, hAd, hP, hV⟩ sub_ZM (c_X6_thrown (σ := μ') (r := μ' 0 29) (inj77M hi) rfl) (fun k hk => (mgM_1 μ' _ k hk).symm) cal_X6_thrown kM_L_141 ⟨Nat.le_trans (Nat.le_of_ble_eq_true rfl) hRf, Nat.le_trans (Nat.le_of_ble_eq_true rfl) hRl⟩ (by decide) rfl rfl rfl rfl hl.1 (Nat.zero_le _) rfl dL_law_1410 hcs (mgM_1 _ _) (fun _ _ _ => rfl) (fun H locs hP hV => ?_)
  refine lv_iload hx hb dL_law_1413 (lv_at hl 1 rfl) ?_
  refine lv_icmp_eq (tgt := 1420) hx hb dL_law_1415 (by decide) (fun _ => ?_) (fun q9 => absurd rfl q9)
  refine lv_iload hx hb dL_law_1420 (lv_at hl 1 rfl) ?_
  refine lv_if_ne (tgt := 1437) hx hb dL_law_1422 (by decide) (fun _ => ?_) (fun q9 => ?_)
  · refine lv_goto (tgt := 2496) hx hb dL_law_1437 (by decide) ?_
    exact nxt _ _ _ _ _ _ hk1 (SX.putY (ρ := ρ) hS1 (rY_1 τ' ρ ex v)) hP hV (lv_sub hl [2, 3, 4, 5, 6] rfl)
  · have hov := out_v (τ' := τ') (ρ := ρ) (μ' := μ') (hag.zero ok3_0 q9)
    refine lv_aload_n hx hb dL_law_1425 rfl (lv_at hl 6 rfl) ?_
    refine lv_iconst (v := 0) hx hb dL_law_1426 (by decide) ?_
    refine g_lald hx hb hK hP 51 (by decide) EZ_o dL_law_1427 ?_
    rw [hov]
    refine lv_iload hx hb dL_law_1428 (lv_at hl 0 rfl) ?_
    refine lv_i2l hx hb dL_law_1430 rfl ?_
    refine W.lcmp hx hb dL_law_1431 ?_
    refine lv_if_eq (tgt := 1437) hx hb dL_law_1432 (by decide) (fun _ => ?_) (fun q9 => absurd (lcmp_0 _) q9)
    refine lv_goto (tgt := 2496) hx hb dL_law_1437 (by decide) ?_
    exact nxt _ _ _ _ _ _ hk1 (SX.putY (ρ := ρ) hS1 (rY_1 τ' ρ ex v)) hP hV (lv_sub hl [2, 3, 4, 5, 6] rfl)
set_option maxHeartbeats 4000000 in
set_option maxRecDepth 100000 in
theorem lc_20 {p : Program} {l : Launch} {e : Env} {R : Room} {s : State} {m : MethodId} {args : Array Value} {below : List Frame} {meth : Method} {c : Code} {H : Heap} {locs : List Loc} {cells slots : Nat} {Q : State → Prop} {ls : Array Slot} {D : va_G} {cI cJ : ClassId} {A : Nat → Prop} {ad : Nat → Nat} {ρ : Mem} {b L i k0 : Nat} {xs : Nat → Int32} {M : Nat → Mem} (C : LC p l R s m args c A b L i xs D cI cJ ad) (hS : SX k0 ρ (sh2 ρ) M) (hk : k0 < 512) (hP : va_P D vwCl (wsG 77 ad (EZ ad cI cJ) ρ) H) (hV : va_S A s.heap H locs) (hl : lv_has ls 7 [(4, .int (nI i)), (0, .ref b), (1, .ref (ad 48)), (2, .ref (ad 52)), (3, .ref (ad 51))]) (hcs : cells + 1 ≤ R.cells ∧ slots + 6 ≤ R.slots) (nxt : Nxt p l e R s m args below meth c A b i k0 D cI cJ ad cells slots Q) : W p l e R s m args below meth c H locs cells slots Q (F0 m 1440 ls []) := by
  obtain ⟨⟨hx, hb, hml, hown, hB⟩, hK, hi, hA, hAd, hZ, hN, hX, hbl, hbA, hL, hiL, hflag, hRf, hRl⟩ := C
  obtain ⟨v, hx1, hm1⟩ := q_turn hS.1 hS.2.2.1
  have hk1 : k0 ≤ k0 + 1 := Nat.le_succ k0
  have hcs0 : cells ≤ R.cells ∧ slots ≤ R.slots := ⟨by omega, by omega⟩
  refine lv_aload_n hx hb dL_law_1440 rfl (lv_at hl 2 rfl) ?_
  refine g_cVi (k0 := 48) (b := ad 48) (τ := ρ) (σc := ρ) (As := []) ⟨⟨hx, hb, hml, hown, hB⟩, hK, hi, hA, hAd, hP, hV⟩ sub_ZX (c_X5_turn (inj51 (inj77 hi)) hx1) (fun _ _ => rfl) cal_X5_turn kM_L_208 ⟨Nat.le_trans (Nat.le_of_ble_eq_true rfl) hRf, Nat.le_trans (Nat.le_of_ble_eq_true rfl) hRl⟩ (by decide) rfl rfl rfl rfl hl.1 (Nat.zero_le _) rfl dL_law_1441 hcs0 (fun _ _ => rfl) (fun _ _ _ => rfl) (fun H locs hP hV => ?_)
  refine lv_aload_n hx hb dL_law_1444 rfl (lv_at hl 3 rfl) ?_
  refine g_cVi (k0 := 0) (b := ad 52) (τ := mgM (mu (sh2 ρ) 0 29 0) ρ) (σc := sh2 ρ) (As := []) ⟨⟨hx, hb, hml, hown, hB⟩, hK, hi, hA, hAd, hP, hV⟩ sub_ZM (c_X6_turn (inj77M hi) hm1) (fun _ _ => rfl) cal_X6_turn kM_L_211 ⟨Nat.le_trans (Nat.le_of_ble_eq_true rfl) hRf, Nat.le_trans (Nat.le_of_ble_eq_true rfl) hRl⟩ (by decide) rfl rfl rfl rfl hl.1 (Nat.le_of_ble_eq_true rfl) rfl dL_law_1445 hcs0 (mgM_1 _ _) (mgM_2 _ _) (fun H locs hP hV => ?_)
  refine lv_icmp_eq (tgt := 2496) hx hb dL_law_1448 (by decide) (fun _ => ?_) (fun q9 => absurd rfl q9)
  refine W.widen (k := cells + 1) (n := slots + 6) (by omega) (by omega) ?_
  exact nxt _ _ _ _ _ _ hk1 (SX.putM (ρ := ρ) (hS.thrown 0)) hP hV (lv_sub hl [0, 1, 2, 3, 4] rfl)
set_option maxHeartbeats 4000000 in
set_option maxRecDepth 100000 in
theorem lc_21 {p : Program} {l : Launch} {e : Env} {R : Room} {s : State} {m : MethodId} {args : Array Value} {below : List Frame} {meth : Method} {c : Code} {H : Heap} {locs : List Loc} {cells slots : Nat} {Q : State → Prop} {ls : Array Slot} {D : va_G} {cI cJ : ClassId} {A : Nat → Prop} {ad : Nat → Nat} {ρ : Mem} {b L i k0 : Nat} {xs : Nat → Int32} {M : Nat → Mem} (C : LC p l R s m args c A b L i xs D cI cJ ad) (hS : SX k0 ρ (sh2 ρ) M) (hk : k0 < 512) (hP : va_P D vwCl (wsG 77 ad (EZ ad cI cJ) ρ) H) (hV : va_S A s.heap H locs) (hl : lv_has ls 7 [(4, .int (nI i)), (0, .ref b), (1, .ref (ad 48)), (2, .ref (ad 52)), (3, .ref (ad 51))]) (hcs : cells + 1 ≤ R.cells ∧ slots + 6 ≤ R.slots) (nxt : Nxt p l e R s m args below meth c A b i k0 D cI cJ ad cells slots Q) : W p l e R s m args below meth c H locs cells slots Q (F0 m 1453 ls []) := by
  obtain ⟨⟨hx, hb, hml, hown, hB⟩, hK, hi, hA, hAd, hZ, hN, hX, hbl, hbA, hL, hiL, hflag, hRf, hRl⟩ := C
  obtain ⟨ex, v, bb, μ', hx1, hm1, hS1, hag⟩ := QR.law hS (q_readyAt hS.1 hS.2.2.1 (xs (i + 1)))
  have hk1 : k0 ≤ k0 + 1 := Nat.le_succ k0
  refine lv_aload_n hx hb dL_law_1453 rfl (lv_at hl 2 rfl) ?_
  refine g_arg hx hb hX hbl hbA hV (lv_at hl 1 rfl) (lv_at hl 0 rfl) 1 (by omega) hL rfl dL_law_1454 dL_law_1455 dL_law_1457 dL_law_1458 dL_law_1459 ?_
  refine lv_aload_n hx hb dL_law_1460 rfl (lv_at hl 4 rfl) ?_
  refine g_cY (n := 3) (σr := (rY ρ ρ ex v)) (As := [.ref (ad 48), .int (xs (i + 1)), .ref (ad 51)]) ⟨⟨hx, hb, hml, hown, hB⟩, hK, hi, hA, hAd, hP, hV⟩ hZ hN (h_readyAt hflag (inj77 hi) hx1 hag.c (rY_1 ρ ρ ex v) (rY_2 ρ ρ ex v)) kw_L_readyAt ks_L_readyAt kn_L kM_L_212 (by decide +kernel) ⟨Nat.le_trans (Nat.le_of_ble_eq_true rfl) hRf, Nat.le_trans (Nat.le_of_ble_eq_true rfl) hRl⟩ rfl hl.1 (Nat.zero_le _) rfl dL_law_1461 hcs (fun H locs hP hV => ?_)
  refine lv_istore (lv' := [(5, .int (μ' 0 29)), (4, .int (nI i)), (0, .ref b), (1, .ref (ad 48)), (2, .ref (ad 52)), (3, .ref (ad 51))]) hx hb dL_law_1464 hl (by decide) rfl (fun ls hl => ?_)
  refine lv_aload_n hx hb dL_law_1466 rfl (lv_at hl 4 rfl) ?_
  refine g_arg hx hb hX hbl hbA hV (lv_at hl 2 rfl) (lv_at hl 1 rfl) 1 (by omega) hL rfl dL_law_1467 dL_law_1468 dL_law_1470 dL_law_1471 dL_law_1472 ?_
  refine g_cVi (k0 := 0) (b := ad 52) (τ := (mgM μ' (mgZ (rY ρ ρ ex v) ρ))) (σc := sh2 ρ) (As := [.int (xs (i + 1))]) ⟨⟨hx, hb, hml, hown, hB⟩, hK, hi, hA, hAd, hP, hV⟩ sub_ZM (c_X6_readyAt (inj77M hi) hm1) (fun k _ => (congrFun (sh2_Z (rY ρ ρ ex v) ρ) k).symm) cal_X6_readyAt kM_L_214 ⟨Nat.le_trans (Nat.le_of_ble_eq_true rfl) hRf, Nat.le_trans (Nat.le_of_ble_eq_true rfl) hRl⟩ (by decide) rfl rfl rfl rfl hl.1 (Nat.zero_le _) rfl dL_law_1473 hcs (mgM_1 _ _) (mgM_2 _ _) (fun H locs hP hV => ?_)
  refine lv_istore (lv' := [(6, .int bb), (5, .int (μ' 0 29)), (4, .int (nI i)), (0, .ref b), (1, .ref (ad 48)), (2, .ref (ad 52)), (3, .ref (ad 51))]) hx hb dL_law_1476 hl (by decide) rfl (fun ls hl => ?_)
  refine lv_aload_n hx hb dL_law_1478 rfl (lv_at hl 5 rfl) ?_
  refine g_cVi (k0 := 0) (b := ad 52) (τ := (mgM μ' (mgZ (rY ρ ρ ex v) ρ))) (σc := μ') (As := []) ⟨⟨hx, hb, hml, hown, hB⟩, hK, hi, hA, hAd, hP, hV⟩ sub_ZM (c_X6_thrown (σ := μ') (r := μ' 0 29) (inj77M hi) rfl) (fun k hk => (mgM_1 μ' _ k hk).symm) cal_X6_thrown kM_L_141 ⟨Nat.le_trans (Nat.le_of_ble_eq_true rfl) hRf, Nat.le_trans (Nat.le_of_ble_eq_true rfl) hRl⟩ (by decide) rfl rfl rfl rfl hl.1 (Nat.zero_le _) rfl dL_law_1479 hcs (mgM_1 _ _) (fun _ _ _ => rfl) (fun H locs hP hV => ?_)
  refine lv_iload hx hb dL_law_1482 (lv_at hl 1 rfl) ?_
  refine lv_icmp_eq (tgt := 1489) hx hb dL_law_1484 (by decide) (fun _ => ?_) (fun q9 => absurd rfl q9)
  refine lv_iload hx hb dL_law_1489 (lv_at hl 1 rfl) ?_
  refine lv_if_ne (tgt := 1506) hx hb dL_law_1491 (by decide) (fun _ => ?_) (fun q9 => ?_)
  · refine lv_goto (tgt := 2496) hx hb dL_law_1506 (by decide) ?_
    exact nxt _ _ _ _ _ _ hk1 (SX.putY (ρ := ρ) hS1 (rY_1 ρ ρ ex v)) hP hV (lv_sub hl [2, 3, 4, 5, 6] rfl)
  · have hov := out_v (τ' := ρ) (ρ := ρ) (μ' := μ') (hag.zero ok1_0 q9)
    refine lv_aload_n hx hb dL_law_1494 rfl (lv_at hl 6 rfl) ?_
    refine lv_iconst (v := 0) hx hb dL_law_1495 (by decide) ?_
    refine g_lald hx hb hK hP 51 (by decide) EZ_o dL_law_1496 ?_
    rw [hov]
    refine lv_iload hx hb dL_law_1497 (lv_at hl 0 rfl) ?_
    refine lv_i2l hx hb dL_law_1499 rfl ?_
    refine W.lcmp hx hb dL_law_1500 ?_
    refine lv_if_eq (tgt := 1506) hx hb dL_law_1501 (by decide) (fun _ => ?_) (fun q9 => absurd (lcmp_0 _) q9)
    refine lv_goto (tgt := 2496) hx hb dL_law_1506 (by decide) ?_
    exact nxt _ _ _ _ _ _ hk1 (SX.putY (ρ := ρ) hS1 (rY_1 ρ ρ ex v)) hP hV (lv_sub hl [2, 3, 4, 5, 6] rfl)
set_option maxHeartbeats 4000000 in
set_option maxRecDepth 100000 in
theorem lc_22 {p : Program} {l : Launch} {e : Env} {R : Room} {s : State} {m : MethodId} {args : Array Value} {below : List Frame} {meth : Method} {c : Code} {H : Heap} {locs : List Loc} {cells slots : Nat} {Q : State → Prop} {ls : Array Slot} {D : va_G} {cI cJ : ClassId} {A : Nat → Prop} {ad : Nat → Nat} {ρ : Mem} {b L i k0 : Nat} {xs : Nat → Int32} {M : Nat → Mem} (C : LC p l R s m args c A b L i xs D cI cJ ad) (hS : SX k0 ρ (sh2 ρ) M) (hk : k0 < 512) (hP : va_P D vwCl (wsG 77 ad (EZ ad cI cJ) ρ) H) (hV : va_S A s.heap H locs) (hl : lv_has ls 7 [(4, .int (nI i)), (0, .ref b), (1, .ref (ad 48)), (2, .ref (ad 52)), (3, .ref (ad 51))]) (hcs : cells + 1 ≤ R.cells ∧ slots + 6 ≤ R.slots) (nxt : Nxt p l e R s m args below meth c A b i k0 D cI cJ ad cells slots Q) : W p l e R s m args below meth c H locs cells slots Q (F0 m 1509 ls []) := by
  obtain ⟨⟨hx, hb, hml, hown, hB⟩, hK, hi, hA, hAd, hZ, hN, hX, hbl, hbA, hL, hiL, hflag, hRf, hRl⟩ := C
  obtain ⟨ex, v, bb, μ', hx1, hm1, hS1, hag⟩ := QR.law hS (q_roomOf hS.1 hS.2.2.1 (xs (i + 1)))
  have hk1 : k0 ≤ k0 + 1 := Nat.le_succ k0
  refine lv_aload_n hx hb dL_law_1509 rfl (lv_at hl 2 rfl) ?_
  refine g_arg hx hb hX hbl hbA hV (lv_at hl 1 rfl) (lv_at hl 0 rfl) 1 (by omega) hL rfl dL_law_1510 dL_law_1511 dL_law_1513 dL_law_1514 dL_law_1515 ?_
  refine lv_aload_n hx hb dL_law_1516 rfl (lv_at hl 4 rfl) ?_
  refine g_cY (n := 3) (σr := (rY ρ ρ ex v)) (As := [.ref (ad 48), .int (xs (i + 1)), .ref (ad 51)]) ⟨⟨hx, hb, hml, hown, hB⟩, hK, hi, hA, hAd, hP, hV⟩ hZ hN (h_roomOf hflag (inj77 hi) hx1 hag.c (rY_1 ρ ρ ex v) (rY_2 ρ ρ ex v)) kw_L_roomOf ks_L_roomOf kn_L kM_L_215 (by decide +kernel) ⟨Nat.le_trans (Nat.le_of_ble_eq_true rfl) hRf, Nat.le_trans (Nat.le_of_ble_eq_true rfl) hRl⟩ rfl hl.1 (Nat.zero_le _) rfl dL_law_1517 hcs (fun H locs hP hV => ?_)
  refine lv_istore (lv' := [(5, .int (μ' 0 29)), (4, .int (nI i)), (0, .ref b), (1, .ref (ad 48)), (2, .ref (ad 52)), (3, .ref (ad 51))]) hx hb dL_law_1520 hl (by decide) rfl (fun ls hl => ?_)
  refine lv_aload_n hx hb dL_law_1522 rfl (lv_at hl 4 rfl) ?_
  refine g_arg hx hb hX hbl hbA hV (lv_at hl 2 rfl) (lv_at hl 1 rfl) 1 (by omega) hL rfl dL_law_1523 dL_law_1524 dL_law_1526 dL_law_1527 dL_law_1528 ?_
  refine g_cVi (k0 := 0) (b := ad 52) (τ := (mgM μ' (mgZ (rY ρ ρ ex v) ρ))) (σc := sh2 ρ) (As := [.int (xs (i + 1))]) ⟨⟨hx, hb, hml, hown, hB⟩, hK, hi, hA, hAd, hP, hV⟩ sub_ZM (c_X6_roomOf (inj77M hi) hm1) (fun k _ => (congrFun (sh2_Z (rY ρ ρ ex v) ρ) k).symm) cal_X6_roomOf kM_L_217 ⟨Nat.le_trans (Nat.le_of_ble_eq_true rfl) hRf, Nat.le_trans (Nat.le_of_ble_eq_true rfl) hRl⟩ (by decide) rfl rfl rfl rfl hl.1 (Nat.zero_le _) rfl dL_law_1529 hcs (mgM_1 _ _) (mgM_2 _ _) (fun H locs hP hV => ?_)
  refine lv_istore (lv' := [(6, .int bb), (5, .int (μ' 0 29)), (4, .int (nI i)), (0, .ref b), (1, .ref (ad 48)), (2, .ref (ad 52)), (3, .ref (ad 51))]) hx hb dL_law_1532 hl (by decide) rfl (fun ls hl => ?_)
  refine lv_aload_n hx hb dL_law_1534 rfl (lv_at hl 5 rfl) ?_
  refine g_cVi (k0 := 0) (b := ad 52) (τ := (mgM μ' (mgZ (rY ρ ρ ex v) ρ))) (σc := μ') (As := []) ⟨⟨hx, hb, hml, hown, hB⟩, hK, hi, hA, hAd, hP, hV⟩ sub_ZM (c_X6_thrown (σ := μ') (r := μ' 0 29) (inj77M hi) rfl) (fun k hk => (mgM_1 μ' _ k hk).symm) cal_X6_thrown kM_L_141 ⟨Nat.le_trans (Nat.le_of_ble_eq_true rfl) hRf, Nat.le_trans (Nat.le_of_ble_eq_true rfl) hRl⟩ (by decide) rfl rfl rfl rfl hl.1 (Nat.zero_le _) rfl dL_law_1535 hcs (mgM_1 _ _) (fun _ _ _ => rfl) (fun H locs hP hV => ?_)
  refine lv_iload hx hb dL_law_1538 (lv_at hl 1 rfl) ?_
  refine lv_icmp_eq (tgt := 1545) hx hb dL_law_1540 (by decide) (fun _ => ?_) (fun q9 => absurd rfl q9)
  refine lv_iload hx hb dL_law_1545 (lv_at hl 1 rfl) ?_
  refine lv_if_ne (tgt := 1562) hx hb dL_law_1547 (by decide) (fun _ => ?_) (fun q9 => ?_)
  · refine lv_goto (tgt := 2496) hx hb dL_law_1562 (by decide) ?_
    exact nxt _ _ _ _ _ _ hk1 (SX.putY (ρ := ρ) hS1 (rY_1 ρ ρ ex v)) hP hV (lv_sub hl [2, 3, 4, 5, 6] rfl)
  · have hov := out_v (τ' := ρ) (ρ := ρ) (μ' := μ') (hag.zero ok1_0 q9)
    refine lv_aload_n hx hb dL_law_1550 rfl (lv_at hl 6 rfl) ?_
    refine lv_iconst (v := 0) hx hb dL_law_1551 (by decide) ?_
    refine g_lald hx hb hK hP 51 (by decide) EZ_o dL_law_1552 ?_
    rw [hov]
    refine lv_iload hx hb dL_law_1553 (lv_at hl 0 rfl) ?_
    refine lv_i2l hx hb dL_law_1555 rfl ?_
    refine W.lcmp hx hb dL_law_1556 ?_
    refine lv_if_eq (tgt := 1562) hx hb dL_law_1557 (by decide) (fun _ => ?_) (fun q9 => absurd (lcmp_0 _) q9)
    refine lv_goto (tgt := 2496) hx hb dL_law_1562 (by decide) ?_
    exact nxt _ _ _ _ _ _ hk1 (SX.putY (ρ := ρ) hS1 (rY_1 ρ ρ ex v)) hP hV (lv_sub hl [2, 3, 4, 5, 6] rfl)
set_option maxHeartbeats 4000000 in
set_option maxRecDepth 100000 in
theorem lc_23 {p : Program} {l : Launch} {e : Env} {R : Room} {s : State} {m : MethodId} {args : Array Value} {below : List Frame} {meth : Method} {c : Code} {H : Heap} {locs : List Loc} {cells slots : Nat} {Q : State → Prop} {ls : Array Slot} {D : va_G} {cI cJ : ClassId} {A : Nat → Prop} {ad : Nat → Nat} {ρ : Mem} {b L i k0 : Nat} {xs : Nat → Int32} {M : Nat → Mem} (C : LC p l R s m args c A b L i xs D cI cJ ad) (hS : SX k0 ρ (sh2 ρ) M) (hk : k0 < 512) (hP : va_P D vwCl (wsG 77 ad (EZ ad cI cJ) ρ) H) (hV : va_S A s.heap H locs) (hl : lv_has ls 7 [(4, .int (nI i)), (0, .ref b), (1, .ref (ad 48)), (2, .ref (ad 52)), (3, .ref (ad 51))]) (hcs : cells + 1 ≤ R.cells ∧ slots + 6 ≤ R.slots) (nxt : Nxt p l e R s m args below meth c A b i k0 D cI cJ ad cells slots Q) : W p l e R s m args below meth c H locs cells slots Q (F0 m 1565 ls []) := by
  obtain ⟨⟨hx, hb, hml, hown, hB⟩, hK, hi, hA, hAd, hZ, hN, hX, hbl, hbA, hL, hiL, hflag, hRf, hRl⟩ := C
  obtain ⟨ex, v, bb, μ', hx1, hm1, hS1, hag⟩ := QR.law hS (q_coinsOf hS.1 hS.2.2.1 (xs (i + 1)))
  have hk1 : k0 ≤ k0 + 1 := Nat.le_succ k0
  refine lv_aload_n hx hb dL_law_1565 rfl (lv_at hl 2 rfl) ?_
  refine g_arg hx hb hX hbl hbA hV (lv_at hl 1 rfl) (lv_at hl 0 rfl) 1 (by omega) hL rfl dL_law_1566 dL_law_1567 dL_law_1569 dL_law_1570 dL_law_1571 ?_
  refine lv_aload_n hx hb dL_law_1572 rfl (lv_at hl 4 rfl) ?_
  refine g_cY (n := 3) (σr := (rY ρ ρ ex v)) (As := [.ref (ad 48), .int (xs (i + 1)), .ref (ad 51)]) ⟨⟨hx, hb, hml, hown, hB⟩, hK, hi, hA, hAd, hP, hV⟩ hZ hN (h_coinsOf hflag (inj77 hi) hx1 hag.c (rY_1 ρ ρ ex v) (rY_2 ρ ρ ex v)) kw_L_coinsOf ks_L_coinsOf kn_L kM_L_218 (by decide +kernel) ⟨Nat.le_trans (Nat.le_of_ble_eq_true rfl) hRf, Nat.le_trans (Nat.le_of_ble_eq_true rfl) hRl⟩ rfl hl.1 (Nat.zero_le _) rfl dL_law_1573 hcs (fun H locs hP hV => ?_)
  refine lv_istore (lv' := [(5, .int (μ' 0 29)), (4, .int (nI i)), (0, .ref b), (1, .ref (ad 48)), (2, .ref (ad 52)), (3, .ref (ad 51))]) hx hb dL_law_1576 hl (by decide) rfl (fun ls hl => ?_)
  refine lv_aload_n hx hb dL_law_1578 rfl (lv_at hl 4 rfl) ?_
  refine g_arg hx hb hX hbl hbA hV (lv_at hl 2 rfl) (lv_at hl 1 rfl) 1 (by omega) hL rfl dL_law_1579 dL_law_1580 dL_law_1582 dL_law_1583 dL_law_1584 ?_
  refine g_cVi (k0 := 0) (b := ad 52) (τ := (mgM μ' (mgZ (rY ρ ρ ex v) ρ))) (σc := sh2 ρ) (As := [.int (xs (i + 1))]) ⟨⟨hx, hb, hml, hown, hB⟩, hK, hi, hA, hAd, hP, hV⟩ sub_ZM (c_X6_coinsOf (inj77M hi) hm1) (fun k _ => (congrFun (sh2_Z (rY ρ ρ ex v) ρ) k).symm) cal_X6_coinsOf kM_L_220 ⟨Nat.le_trans (Nat.le_of_ble_eq_true rfl) hRf, Nat.le_trans (Nat.le_of_ble_eq_true rfl) hRl⟩ (by decide) rfl rfl rfl rfl hl.1 (Nat.zero_le _) rfl dL_law_1585 hcs (mgM_1 _ _) (mgM_2 _ _) (fun H locs hP hV => ?_)
  refine lv_istore (lv' := [(6, .int bb), (5, .int (μ' 0 29)), (4, .int (nI i)), (0, .ref b), (1, .ref (ad 48)), (2, .ref (ad 52)), (3, .ref (ad 51))]) hx hb dL_law_1588 hl (by decide) rfl (fun ls hl => ?_)
  refine lv_aload_n hx hb dL_law_1590 rfl (lv_at hl 5 rfl) ?_
  refine g_cVi (k0 := 0) (b := ad 52) (τ := (mgM μ' (mgZ (rY ρ ρ ex v) ρ))) (σc := μ') (As := []) ⟨⟨hx, hb, hml, hown, hB⟩, hK, hi, hA, hAd, hP, hV⟩ sub_ZM (c_X6_thrown (σ := μ') (r := μ' 0 29) (inj77M hi) rfl) (fun k hk => (mgM_1 μ' _ k hk).symm) cal_X6_thrown kM_L_141 ⟨Nat.le_trans (Nat.le_of_ble_eq_true rfl) hRf, Nat.le_trans (Nat.le_of_ble_eq_true rfl) hRl⟩ (by decide) rfl rfl rfl rfl hl.1 (Nat.zero_le _) rfl dL_law_1591 hcs (mgM_1 _ _) (fun _ _ _ => rfl) (fun H locs hP hV => ?_)
  refine lv_iload hx hb dL_law_1594 (lv_at hl 1 rfl) ?_
  refine lv_icmp_eq (tgt := 1601) hx hb dL_law_1596 (by decide) (fun _ => ?_) (fun q9 => absurd rfl q9)
  refine lv_iload hx hb dL_law_1601 (lv_at hl 1 rfl) ?_
  refine lv_if_ne (tgt := 1618) hx hb dL_law_1603 (by decide) (fun _ => ?_) (fun q9 => ?_)
  · refine lv_goto (tgt := 2496) hx hb dL_law_1618 (by decide) ?_
    exact nxt _ _ _ _ _ _ hk1 (SX.putY (ρ := ρ) hS1 (rY_1 ρ ρ ex v)) hP hV (lv_sub hl [2, 3, 4, 5, 6] rfl)
  · have hov := out_v (τ' := ρ) (ρ := ρ) (μ' := μ') (hag.zero ok1_0 q9)
    refine lv_aload_n hx hb dL_law_1606 rfl (lv_at hl 6 rfl) ?_
    refine lv_iconst (v := 0) hx hb dL_law_1607 (by decide) ?_
    refine g_lald hx hb hK hP 51 (by decide) EZ_o dL_law_1608 ?_
    rw [hov]
    refine lv_iload hx hb dL_law_1609 (lv_at hl 0 rfl) ?_
    refine lv_i2l hx hb dL_law_1611 rfl ?_
    refine W.lcmp hx hb dL_law_1612 ?_
    refine lv_if_eq (tgt := 1618) hx hb dL_law_1613 (by decide) (fun _ => ?_) (fun q9 => absurd (lcmp_0 _) q9)
    refine lv_goto (tgt := 2496) hx hb dL_law_1618 (by decide) ?_
    exact nxt _ _ _ _ _ _ hk1 (SX.putY (ρ := ρ) hS1 (rY_1 ρ ρ ex v)) hP hV (lv_sub hl [2, 3, 4, 5, 6] rfl)
set_option maxHeartbeats 4000000 in
set_option maxRecDepth 100000 in
theorem lc_24 {p : Program} {l : Launch} {e : Env} {R : Room} {s : State} {m : MethodId} {args : Array Value} {below : List Frame} {meth : Method} {c : Code} {H : Heap} {locs : List Loc} {cells slots : Nat} {Q : State → Prop} {ls : Array Slot} {D : va_G} {cI cJ : ClassId} {A : Nat → Prop} {ad : Nat → Nat} {ρ : Mem} {b L i k0 : Nat} {xs : Nat → Int32} {M : Nat → Mem} (C : LC p l R s m args c A b L i xs D cI cJ ad) (hS : SX k0 ρ (sh2 ρ) M) (hk : k0 < 512) (hP : va_P D vwCl (wsG 77 ad (EZ ad cI cJ) ρ) H) (hV : va_S A s.heap H locs) (hl : lv_has ls 7 [(4, .int (nI i)), (0, .ref b), (1, .ref (ad 48)), (2, .ref (ad 52)), (3, .ref (ad 51))]) (hcs : cells + 1 ≤ R.cells ∧ slots + 6 ≤ R.slots) (nxt : Nxt p l e R s m args below meth c A b i k0 D cI cJ ad cells slots Q) : W p l e R s m args below meth c H locs cells slots Q (F0 m 1621 ls []) := by
  obtain ⟨⟨hx, hb, hml, hown, hB⟩, hK, hi, hA, hAd, hZ, hN, hX, hbl, hbA, hL, hiL, hflag, hRf, hRl⟩ := C
  obtain ⟨ex, v, bb, μ', hx1, hm1, hS1, hag⟩ := QR.law hS (q_healthOf hS.1 hS.2.2.1 (xs (i + 1)))
  have hk1 : k0 ≤ k0 + 1 := Nat.le_succ k0
  refine lv_aload_n hx hb dL_law_1621 rfl (lv_at hl 2 rfl) ?_
  refine g_arg hx hb hX hbl hbA hV (lv_at hl 1 rfl) (lv_at hl 0 rfl) 1 (by omega) hL rfl dL_law_1622 dL_law_1623 dL_law_1625 dL_law_1626 dL_law_1627 ?_
  refine lv_aload_n hx hb dL_law_1628 rfl (lv_at hl 4 rfl) ?_
  refine g_cY (n := 3) (σr := (rY ρ ρ ex v)) (As := [.ref (ad 48), .int (xs (i + 1)), .ref (ad 51)]) ⟨⟨hx, hb, hml, hown, hB⟩, hK, hi, hA, hAd, hP, hV⟩ hZ hN (h_healthOf hflag (inj77 hi) hx1 hag.c (rY_1 ρ ρ ex v) (rY_2 ρ ρ ex v)) kw_L_healthOf ks_L_healthOf kn_L kM_L_221 (by decide +kernel) ⟨Nat.le_trans (Nat.le_of_ble_eq_true rfl) hRf, Nat.le_trans (Nat.le_of_ble_eq_true rfl) hRl⟩ rfl hl.1 (Nat.zero_le _) rfl dL_law_1629 hcs (fun H locs hP hV => ?_)
  refine lv_istore (lv' := [(5, .int (μ' 0 29)), (4, .int (nI i)), (0, .ref b), (1, .ref (ad 48)), (2, .ref (ad 52)), (3, .ref (ad 51))]) hx hb dL_law_1632 hl (by decide) rfl (fun ls hl => ?_)
  refine lv_aload_n hx hb dL_law_1634 rfl (lv_at hl 4 rfl) ?_
  refine g_arg hx hb hX hbl hbA hV (lv_at hl 2 rfl) (lv_at hl 1 rfl) 1 (by omega) hL rfl dL_law_1635 dL_law_1636 dL_law_1638 dL_law_1639 dL_law_1640 ?_
  refine g_cVi (k0 := 0) (b := ad 52) (τ := (mgM μ' (mgZ (rY ρ ρ ex v) ρ))) (σc := sh2 ρ) (As := [.int (xs (i + 1))]) ⟨⟨hx, hb, hml, hown, hB⟩, hK, hi, hA, hAd, hP, hV⟩ sub_ZM (c_X6_healthOf (inj77M hi) hm1) (fun k _ => (congrFun (sh2_Z (rY ρ ρ ex v) ρ) k).symm) cal_X6_healthOf kM_L_223 ⟨Nat.le_trans (Nat.le_of_ble_eq_true rfl) hRf, Nat.le_trans (Nat.le_of_ble_eq_true rfl) hRl⟩ (by decide) rfl rfl rfl rfl hl.1 (Nat.zero_le _) rfl dL_law_1641 hcs (mgM_1 _ _) (mgM_2 _ _) (fun H locs hP hV => ?_)
  refine lv_istore (lv' := [(6, .int bb), (5, .int (μ' 0 29)), (4, .int (nI i)), (0, .ref b), (1, .ref (ad 48)), (2, .ref (ad 52)), (3, .ref (ad 51))]) hx hb dL_law_1644 hl (by decide) rfl (fun ls hl => ?_)
  refine lv_aload_n hx hb dL_law_1646 rfl (lv_at hl 5 rfl) ?_
  refine g_cVi (k0 := 0) (b := ad 52) (τ := (mgM μ' (mgZ (rY ρ ρ ex v) ρ))) (σc := μ') (As := []) ⟨⟨hx, hb, hml, hown, hB⟩, hK, hi, hA, hAd, hP, hV⟩ sub_ZM (c_X6_thrown (σ := μ') (r := μ' 0 29) (inj77M hi) rfl) (fun k hk => (mgM_1 μ' _ k hk).symm) cal_X6_thrown kM_L_141 ⟨Nat.le_trans (Nat.le_of_ble_eq_true rfl) hRf, Nat.le_trans (Nat.le_of_ble_eq_true rfl) hRl⟩ (by decide) rfl rfl rfl rfl hl.1 (Nat.zero_le _) rfl dL_law_1647 hcs (mgM_1 _ _) (fun _ _ _ => rfl) (fun H locs hP hV => ?_)
  refine lv_iload hx hb dL_law_1650 (lv_at hl 1 rfl) ?_
  refine lv_icmp_eq (tgt := 1657) hx hb dL_law_1652 (by decide) (fun _ => ?_) (fun q9 => absurd rfl q9)
  refine lv_iload hx hb dL_law_1657 (lv_at hl 1 rfl) ?_
  refine lv_if_ne (tgt := 1674) hx hb dL_law_1659 (by decide) (fun _ => ?_) (fun q9 => ?_)
  · refine lv_goto (tgt := 2496) hx hb dL_law_1674 (by decide) ?_
    exact nxt _ _ _ _ _ _ hk1 (SX.putY (ρ := ρ) hS1 (rY_1 ρ ρ ex v)) hP hV (lv_sub hl [2, 3, 4, 5, 6] rfl)
  · have hov := out_v (τ' := ρ) (ρ := ρ) (μ' := μ') (hag.zero ok1_0 q9)
    refine lv_aload_n hx hb dL_law_1662 rfl (lv_at hl 6 rfl) ?_
    refine lv_iconst (v := 0) hx hb dL_law_1663 (by decide) ?_
    refine g_lald hx hb hK hP 51 (by decide) EZ_o dL_law_1664 ?_
    rw [hov]
    refine lv_iload hx hb dL_law_1665 (lv_at hl 0 rfl) ?_
    refine lv_i2l hx hb dL_law_1667 rfl ?_
    refine W.lcmp hx hb dL_law_1668 ?_
    refine lv_if_eq (tgt := 1674) hx hb dL_law_1669 (by decide) (fun _ => ?_) (fun q9 => absurd (lcmp_0 _) q9)
    refine lv_goto (tgt := 2496) hx hb dL_law_1674 (by decide) ?_
    exact nxt _ _ _ _ _ _ hk1 (SX.putY (ρ := ρ) hS1 (rY_1 ρ ρ ex v)) hP hV (lv_sub hl [2, 3, 4, 5, 6] rfl)
set_option maxHeartbeats 4000000 in
set_option maxRecDepth 100000 in
theorem lc_25 {p : Program} {l : Launch} {e : Env} {R : Room} {s : State} {m : MethodId} {args : Array Value} {below : List Frame} {meth : Method} {c : Code} {H : Heap} {locs : List Loc} {cells slots : Nat} {Q : State → Prop} {ls : Array Slot} {D : va_G} {cI cJ : ClassId} {A : Nat → Prop} {ad : Nat → Nat} {ρ : Mem} {b L i k0 : Nat} {xs : Nat → Int32} {M : Nat → Mem} (C : LC p l R s m args c A b L i xs D cI cJ ad) (hS : SX k0 ρ (sh2 ρ) M) (hk : k0 < 512) (hP : va_P D vwCl (wsG 77 ad (EZ ad cI cJ) ρ) H) (hV : va_S A s.heap H locs) (hl : lv_has ls 7 [(4, .int (nI i)), (0, .ref b), (1, .ref (ad 48)), (2, .ref (ad 52)), (3, .ref (ad 51))]) (hcs : cells + 1 ≤ R.cells ∧ slots + 6 ≤ R.slots) (nxt : Nxt p l e R s m args below meth c A b i k0 D cI cJ ad cells slots Q) : W p l e R s m args below meth c H locs cells slots Q (F0 m 1677 ls []) := by
  obtain ⟨⟨hx, hb, hml, hown, hB⟩, hK, hi, hA, hAd, hZ, hN, hX, hbl, hbA, hL, hiL, hflag, hRf, hRl⟩ := C
  obtain ⟨ex, v, bb, μ', hx1, hm1, hS1, hag⟩ := QR.law hS (q_goodsOf hS.1 hS.2.2.1 (xs (i + 1)) (xs (i + 2)))
  have hk1 : k0 ≤ k0 + 1 := Nat.le_succ k0
  refine lv_aload_n hx hb dL_law_1677 rfl (lv_at hl 2 rfl) ?_
  refine g_arg hx hb hX hbl hbA hV (lv_at hl 1 rfl) (lv_at hl 0 rfl) 1 (by omega) hL rfl dL_law_1678 dL_law_1679 dL_law_1681 dL_law_1682 dL_law_1683 ?_
  refine g_arg hx hb hX hbl hbA hV (lv_at hl 1 rfl) (lv_at hl 0 rfl) 2 (by omega) hL rfl dL_law_1684 dL_law_1685 dL_law_1687 dL_law_1688 dL_law_1689 ?_
  refine lv_aload_n hx hb dL_law_1690 rfl (lv_at hl 4 rfl) ?_
  refine g_cY (n := 4) (σr := (rY ρ ρ ex v)) (As := [.ref (ad 48), .int (xs (i + 1)), .int (xs (i + 2)), .ref (ad 51)]) ⟨⟨hx, hb, hml, hown, hB⟩, hK, hi, hA, hAd, hP, hV⟩ hZ hN (h_goodsOf hflag (inj77 hi) hx1 hag.c (rY_1 ρ ρ ex v) (rY_2 ρ ρ ex v)) kw_L_goodsOf ks_L_goodsOf kn_L kM_L_224 (by decide +kernel) ⟨Nat.le_trans (Nat.le_of_ble_eq_true rfl) hRf, Nat.le_trans (Nat.le_of_ble_eq_true rfl) hRl⟩ rfl hl.1 (Nat.zero_le _) rfl dL_law_1691 hcs (fun H locs hP hV => ?_)
  refine lv_istore (lv' := [(5, .int (μ' 0 29)), (4, .int (nI i)), (0, .ref b), (1, .ref (ad 48)), (2, .ref (ad 52)), (3, .ref (ad 51))]) hx hb dL_law_1694 hl (by decide) rfl (fun ls hl => ?_)
  refine lv_aload_n hx hb dL_law_1696 rfl (lv_at hl 4 rfl) ?_
  refine g_arg hx hb hX hbl hbA hV (lv_at hl 2 rfl) (lv_at hl 1 rfl) 1 (by omega) hL rfl dL_law_1697 dL_law_1698 dL_law_1700 dL_law_1701 dL_law_1702 ?_
  refine g_arg hx hb hX hbl hbA hV (lv_at hl 2 rfl) (lv_at hl 1 rfl) 2 (by omega) hL rfl dL_law_1703 dL_law_1704 dL_law_1706 dL_law_1707 dL_law_1708 ?_
  refine g_cVi (k0 := 0) (b := ad 52) (τ := (mgM μ' (mgZ (rY ρ ρ ex v) ρ))) (σc := sh2 ρ) (As := [.int (xs (i + 1)), .int (xs (i + 2))]) ⟨⟨hx, hb, hml, hown, hB⟩, hK, hi, hA, hAd, hP, hV⟩ sub_ZM (c_X6_goodsOf (inj77M hi) hm1) (fun k _ => (congrFun (sh2_Z (rY ρ ρ ex v) ρ) k).symm) cal_X6_goodsOf kM_L_226 ⟨Nat.le_trans (Nat.le_of_ble_eq_true rfl) hRf, Nat.le_trans (Nat.le_of_ble_eq_true rfl) hRl⟩ (by decide) rfl rfl rfl rfl hl.1 (Nat.zero_le _) rfl dL_law_1709 hcs (mgM_1 _ _) (mgM_2 _ _) (fun H locs hP hV => ?_)
  refine lv_istore (lv' := [(6, .int bb), (5, .int (μ' 0 29)), (4, .int (nI i)), (0, .ref b), (1, .ref (ad 48)), (2, .ref (ad 52)), (3, .ref (ad 51))]) hx hb dL_law_1712 hl (by decide) rfl (fun ls hl => ?_)
  refine lv_aload_n hx hb dL_law_1714 rfl (lv_at hl 5 rfl) ?_
  refine g_cVi (k0 := 0) (b := ad 52) (τ := (mgM μ' (mgZ (rY ρ ρ ex v) ρ))) (σc := μ') (As := []) ⟨⟨hx, hb, hml, hown, hB⟩, hK, hi, hA, hAd, hP, hV⟩ sub_ZM (c_X6_thrown (σ := μ') (r := μ' 0 29) (inj77M hi) rfl) (fun k hk => (mgM_1 μ' _ k hk).symm) cal_X6_thrown kM_L_141 ⟨Nat.le_trans (Nat.le_of_ble_eq_true rfl) hRf, Nat.le_trans (Nat.le_of_ble_eq_true rfl) hRl⟩ (by decide) rfl rfl rfl rfl hl.1 (Nat.zero_le _) rfl dL_law_1715 hcs (mgM_1 _ _) (fun _ _ _ => rfl) (fun H locs hP hV => ?_)
  refine lv_iload hx hb dL_law_1718 (lv_at hl 1 rfl) ?_
  refine lv_icmp_eq (tgt := 1725) hx hb dL_law_1720 (by decide) (fun _ => ?_) (fun q9 => absurd rfl q9)
  refine lv_iload hx hb dL_law_1725 (lv_at hl 1 rfl) ?_
  refine lv_if_ne (tgt := 1742) hx hb dL_law_1727 (by decide) (fun _ => ?_) (fun q9 => ?_)
  · refine lv_goto (tgt := 2496) hx hb dL_law_1742 (by decide) ?_
    exact nxt _ _ _ _ _ _ hk1 (SX.putY (ρ := ρ) hS1 (rY_1 ρ ρ ex v)) hP hV (lv_sub hl [2, 3, 4, 5, 6] rfl)
  · have hov := out_v (τ' := ρ) (ρ := ρ) (μ' := μ') (hag.zero ok1_0 q9)
    refine lv_aload_n hx hb dL_law_1730 rfl (lv_at hl 6 rfl) ?_
    refine lv_iconst (v := 0) hx hb dL_law_1731 (by decide) ?_
    refine g_lald hx hb hK hP 51 (by decide) EZ_o dL_law_1732 ?_
    rw [hov]
    refine lv_iload hx hb dL_law_1733 (lv_at hl 0 rfl) ?_
    refine lv_i2l hx hb dL_law_1735 rfl ?_
    refine W.lcmp hx hb dL_law_1736 ?_
    refine lv_if_eq (tgt := 1742) hx hb dL_law_1737 (by decide) (fun _ => ?_) (fun q9 => absurd (lcmp_0 _) q9)
    refine lv_goto (tgt := 2496) hx hb dL_law_1742 (by decide) ?_
    exact nxt _ _ _ _ _ _ hk1 (SX.putY (ρ := ρ) hS1 (rY_1 ρ ρ ex v)) hP hV (lv_sub hl [2, 3, 4, 5, 6] rfl)
set_option maxHeartbeats 4000000 in
set_option maxRecDepth 100000 in
theorem lc_26 {p : Program} {l : Launch} {e : Env} {R : Room} {s : State} {m : MethodId} {args : Array Value} {below : List Frame} {meth : Method} {c : Code} {H : Heap} {locs : List Loc} {cells slots : Nat} {Q : State → Prop} {ls : Array Slot} {D : va_G} {cI cJ : ClassId} {A : Nat → Prop} {ad : Nat → Nat} {ρ : Mem} {b L i k0 : Nat} {xs : Nat → Int32} {M : Nat → Mem} (C : LC p l R s m args c A b L i xs D cI cJ ad) (hS : SX k0 ρ (sh2 ρ) M) (hk : k0 < 512) (hP : va_P D vwCl (wsG 77 ad (EZ ad cI cJ) ρ) H) (hV : va_S A s.heap H locs) (hl : lv_has ls 7 [(4, .int (nI i)), (0, .ref b), (1, .ref (ad 48)), (2, .ref (ad 52)), (3, .ref (ad 51))]) (hcs : cells + 1 ≤ R.cells ∧ slots + 6 ≤ R.slots) (nxt : Nxt p l e R s m args below meth c A b i k0 D cI cJ ad cells slots Q) : W p l e R s m args below meth c H locs cells slots Q (F0 m 1745 ls []) := by
  obtain ⟨⟨hx, hb, hml, hown, hB⟩, hK, hi, hA, hAd, hZ, hN, hX, hbl, hbA, hL, hiL, hflag, hRf, hRl⟩ := C
  obtain ⟨ex, v, bb, μ', hx1, hm1, hS1, hag⟩ := QR.law hS (q_heard hS.1 hS.2.2.1 (xs (i + 1)) (xs (i + 2)))
  have hk1 : k0 ≤ k0 + 1 := Nat.le_succ k0
  refine lv_aload_n hx hb dL_law_1745 rfl (lv_at hl 2 rfl) ?_
  refine g_arg hx hb hX hbl hbA hV (lv_at hl 1 rfl) (lv_at hl 0 rfl) 1 (by omega) hL rfl dL_law_1746 dL_law_1747 dL_law_1749 dL_law_1750 dL_law_1751 ?_
  refine g_arg hx hb hX hbl hbA hV (lv_at hl 1 rfl) (lv_at hl 0 rfl) 2 (by omega) hL rfl dL_law_1752 dL_law_1753 dL_law_1755 dL_law_1756 dL_law_1757 ?_
  refine lv_aload_n hx hb dL_law_1758 rfl (lv_at hl 4 rfl) ?_
  refine g_cY (n := 4) (σr := (rY ρ ρ ex v)) (As := [.ref (ad 48), .int (xs (i + 1)), .int (xs (i + 2)), .ref (ad 51)]) ⟨⟨hx, hb, hml, hown, hB⟩, hK, hi, hA, hAd, hP, hV⟩ hZ hN (h_heard hflag (inj77 hi) hx1 hag.c (rY_1 ρ ρ ex v) (rY_2 ρ ρ ex v)) kw_L_heard ks_L_heard kn_L kM_L_227 (by decide +kernel) ⟨Nat.le_trans (Nat.le_of_ble_eq_true rfl) hRf, Nat.le_trans (Nat.le_of_ble_eq_true rfl) hRl⟩ rfl hl.1 (Nat.zero_le _) rfl dL_law_1759 hcs (fun H locs hP hV => ?_)
  refine lv_istore (lv' := [(5, .int (μ' 0 29)), (4, .int (nI i)), (0, .ref b), (1, .ref (ad 48)), (2, .ref (ad 52)), (3, .ref (ad 51))]) hx hb dL_law_1762 hl (by decide) rfl (fun ls hl => ?_)
  refine lv_aload_n hx hb dL_law_1764 rfl (lv_at hl 4 rfl) ?_
  refine g_arg hx hb hX hbl hbA hV (lv_at hl 2 rfl) (lv_at hl 1 rfl) 1 (by omega) hL rfl dL_law_1765 dL_law_1766 dL_law_1768 dL_law_1769 dL_law_1770 ?_
  refine g_arg hx hb hX hbl hbA hV (lv_at hl 2 rfl) (lv_at hl 1 rfl) 2 (by omega) hL rfl dL_law_1771 dL_law_1772 dL_law_1774 dL_law_1775 dL_law_1776 ?_
  refine g_cVi (k0 := 0) (b := ad 52) (τ := (mgM μ' (mgZ (rY ρ ρ ex v) ρ))) (σc := sh2 ρ) (As := [.int (xs (i + 1)), .int (xs (i + 2))]) ⟨⟨hx, hb, hml, hown, hB⟩, hK, hi, hA, hAd, hP, hV⟩ sub_ZM (c_X6_heard (inj77M hi) hm1) (fun k _ => (congrFun (sh2_Z (rY ρ ρ ex v) ρ) k).symm) cal_X6_heard kM_L_229 ⟨Nat.le_trans (Nat.le_of_ble_eq_true rfl) hRf, Nat.le_trans (Nat.le_of_ble_eq_true rfl) hRl⟩ (by decide) rfl rfl rfl rfl hl.1 (Nat.zero_le _) rfl dL_law_1777 hcs (mgM_1 _ _) (mgM_2 _ _) (fun H locs hP hV => ?_)
  refine lv_istore (lv' := [(6, .int bb), (5, .int (μ' 0 29)), (4, .int (nI i)), (0, .ref b), (1, .ref (ad 48)), (2, .ref (ad 52)), (3, .ref (ad 51))]) hx hb dL_law_1780 hl (by decide) rfl (fun ls hl => ?_)
  refine lv_aload_n hx hb dL_law_1782 rfl (lv_at hl 5 rfl) ?_
  refine g_cVi (k0 := 0) (b := ad 52) (τ := (mgM μ' (mgZ (rY ρ ρ ex v) ρ))) (σc := μ') (As := []) ⟨⟨hx, hb, hml, hown, hB⟩, hK, hi, hA, hAd, hP, hV⟩ sub_ZM (c_X6_thrown (σ := μ') (r := μ' 0 29) (inj77M hi) rfl) (fun k hk => (mgM_1 μ' _ k hk).symm) cal_X6_thrown kM_L_141 ⟨Nat.le_trans (Nat.le_of_ble_eq_true rfl) hRf, Nat.le_trans (Nat.le_of_ble_eq_true rfl) hRl⟩ (by decide) rfl rfl rfl rfl hl.1 (Nat.zero_le _) rfl dL_law_1783 hcs (mgM_1 _ _) (fun _ _ _ => rfl) (fun H locs hP hV => ?_)
  refine lv_iload hx hb dL_law_1786 (lv_at hl 1 rfl) ?_
  refine lv_icmp_eq (tgt := 1793) hx hb dL_law_1788 (by decide) (fun _ => ?_) (fun q9 => absurd rfl q9)
  refine lv_iload hx hb dL_law_1793 (lv_at hl 1 rfl) ?_
  refine lv_if_ne (tgt := 1810) hx hb dL_law_1795 (by decide) (fun _ => ?_) (fun q9 => ?_)
  · refine lv_goto (tgt := 2496) hx hb dL_law_1810 (by decide) ?_
    exact nxt _ _ _ _ _ _ hk1 (SX.putY (ρ := ρ) hS1 (rY_1 ρ ρ ex v)) hP hV (lv_sub hl [2, 3, 4, 5, 6] rfl)
  · have hov := out_v (τ' := ρ) (ρ := ρ) (μ' := μ') (hag.zero ok1_0 q9)
    refine lv_aload_n hx hb dL_law_1798 rfl (lv_at hl 6 rfl) ?_
    refine lv_iconst (v := 0) hx hb dL_law_1799 (by decide) ?_
    refine g_lald hx hb hK hP 51 (by decide) EZ_o dL_law_1800 ?_
    rw [hov]
    refine lv_iload hx hb dL_law_1801 (lv_at hl 0 rfl) ?_
    refine lv_i2l hx hb dL_law_1803 rfl ?_
    refine W.lcmp hx hb dL_law_1804 ?_
    refine lv_if_eq (tgt := 1810) hx hb dL_law_1805 (by decide) (fun _ => ?_) (fun q9 => absurd (lcmp_0 _) q9)
    refine lv_goto (tgt := 2496) hx hb dL_law_1810 (by decide) ?_
    exact nxt _ _ _ _ _ _ hk1 (SX.putY (ρ := ρ) hS1 (rY_1 ρ ρ ex v)) hP hV (lv_sub hl [2, 3, 4, 5, 6] rfl)
set_option maxHeartbeats 4000000 in
set_option maxRecDepth 100000 in
theorem lc_27 {p : Program} {l : Launch} {e : Env} {R : Room} {s : State} {m : MethodId} {args : Array Value} {below : List Frame} {meth : Method} {c : Code} {H : Heap} {locs : List Loc} {cells slots : Nat} {Q : State → Prop} {ls : Array Slot} {D : va_G} {cI cJ : ClassId} {A : Nat → Prop} {ad : Nat → Nat} {ρ : Mem} {b L i k0 : Nat} {xs : Nat → Int32} {M : Nat → Mem} (C : LC p l R s m args c A b L i xs D cI cJ ad) (hS : SX k0 ρ (sh2 ρ) M) (hk : k0 < 512) (hP : va_P D vwCl (wsG 77 ad (EZ ad cI cJ) ρ) H) (hV : va_S A s.heap H locs) (hl : lv_has ls 7 [(4, .int (nI i)), (0, .ref b), (1, .ref (ad 48)), (2, .ref (ad 52)), (3, .ref (ad 51))]) (hcs : cells + 1 ≤ R.cells ∧ slots + 6 ≤ R.slots) (nxt : Nxt p l e R s m args below meth c A b i k0 D cI cJ ad cells slots Q) : W p l e R s m args below meth c H locs cells slots Q (F0 m 1813 ls []) := by
  obtain ⟨⟨hx, hb, hml, hown, hB⟩, hK, hi, hA, hAd, hZ, hN, hX, hbl, hbA, hL, hiL, hflag, hRf, hRl⟩ := C
  obtain ⟨ex, v, bb, μ', hx1, hm1, hS1, hag⟩ := QR.law hS (q_stageOf hS.1 hS.2.2.1 (xs (i + 1)) (xs (i + 2)))
  have hk1 : k0 ≤ k0 + 1 := Nat.le_succ k0
  refine lv_aload_n hx hb dL_law_1813 rfl (lv_at hl 2 rfl) ?_
  refine g_arg hx hb hX hbl hbA hV (lv_at hl 1 rfl) (lv_at hl 0 rfl) 1 (by omega) hL rfl dL_law_1814 dL_law_1815 dL_law_1817 dL_law_1818 dL_law_1819 ?_
  refine g_arg hx hb hX hbl hbA hV (lv_at hl 1 rfl) (lv_at hl 0 rfl) 2 (by omega) hL rfl dL_law_1820 dL_law_1821 dL_law_1823 dL_law_1824 dL_law_1825 ?_
  refine lv_aload_n hx hb dL_law_1826 rfl (lv_at hl 4 rfl) ?_
  refine g_cY (n := 4) (σr := (rY ρ ρ ex v)) (As := [.ref (ad 48), .int (xs (i + 1)), .int (xs (i + 2)), .ref (ad 51)]) ⟨⟨hx, hb, hml, hown, hB⟩, hK, hi, hA, hAd, hP, hV⟩ hZ hN (h_stageOf hflag (inj77 hi) hx1 hag.c (rY_1 ρ ρ ex v) (rY_2 ρ ρ ex v)) kw_L_stageOf ks_L_stageOf kn_L kM_L_230 (by decide +kernel) ⟨Nat.le_trans (Nat.le_of_ble_eq_true rfl) hRf, Nat.le_trans (Nat.le_of_ble_eq_true rfl) hRl⟩ rfl hl.1 (Nat.zero_le _) rfl dL_law_1827 hcs (fun H locs hP hV => ?_)
  refine lv_istore (lv' := [(5, .int (μ' 0 29)), (4, .int (nI i)), (0, .ref b), (1, .ref (ad 48)), (2, .ref (ad 52)), (3, .ref (ad 51))]) hx hb dL_law_1830 hl (by decide) rfl (fun ls hl => ?_)
  refine lv_aload_n hx hb dL_law_1832 rfl (lv_at hl 4 rfl) ?_
  refine g_arg hx hb hX hbl hbA hV (lv_at hl 2 rfl) (lv_at hl 1 rfl) 1 (by omega) hL rfl dL_law_1833 dL_law_1834 dL_law_1836 dL_law_1837 dL_law_1838 ?_
  refine g_arg hx hb hX hbl hbA hV (lv_at hl 2 rfl) (lv_at hl 1 rfl) 2 (by omega) hL rfl dL_law_1839 dL_law_1840 dL_law_1842 dL_law_1843 dL_law_1844 ?_
  refine g_cVi (k0 := 0) (b := ad 52) (τ := (mgM μ' (mgZ (rY ρ ρ ex v) ρ))) (σc := sh2 ρ) (As := [.int (xs (i + 1)), .int (xs (i + 2))]) ⟨⟨hx, hb, hml, hown, hB⟩, hK, hi, hA, hAd, hP, hV⟩ sub_ZM (c_X6_stageOf (inj77M hi) hm1) (fun k _ => (congrFun (sh2_Z (rY ρ ρ ex v) ρ) k).symm) cal_X6_stageOf kM_L_232 ⟨Nat.le_trans (Nat.le_of_ble_eq_true rfl) hRf, Nat.le_trans (Nat.le_of_ble_eq_true rfl) hRl⟩ (by decide) rfl rfl rfl rfl hl.1 (Nat.zero_le _) rfl dL_law_1845 hcs (mgM_1 _ _) (mgM_2 _ _) (fun H locs hP hV => ?_)
  refine lv_istore (lv' := [(6, .int bb), (5, .int (μ' 0 29)), (4, .int (nI i)), (0, .ref b), (1, .ref (ad 48)), (2, .ref (ad 52)), (3, .ref (ad 51))]) hx hb dL_law_1848 hl (by decide) rfl (fun ls hl => ?_)
  refine lv_aload_n hx hb dL_law_1850 rfl (lv_at hl 5 rfl) ?_
  refine g_cVi (k0 := 0) (b := ad 52) (τ := (mgM μ' (mgZ (rY ρ ρ ex v) ρ))) (σc := μ') (As := []) ⟨⟨hx, hb, hml, hown, hB⟩, hK, hi, hA, hAd, hP, hV⟩ sub_ZM (c_X6_thrown (σ := μ') (r := μ' 0 29) (inj77M hi) rfl) (fun k hk => (mgM_1 μ' _ k hk).symm) cal_X6_thrown kM_L_141 ⟨Nat.le_trans (Nat.le_of_ble_eq_true rfl) hRf, Nat.le_trans (Nat.le_of_ble_eq_true rfl) hRl⟩ (by decide) rfl rfl rfl rfl hl.1 (Nat.zero_le _) rfl dL_law_1851 hcs (mgM_1 _ _) (fun _ _ _ => rfl) (fun H locs hP hV => ?_)
  refine lv_iload hx hb dL_law_1854 (lv_at hl 1 rfl) ?_
  refine lv_icmp_eq (tgt := 1861) hx hb dL_law_1856 (by decide) (fun _ => ?_) (fun q9 => absurd rfl q9)
  refine lv_iload hx hb dL_law_1861 (lv_at hl 1 rfl) ?_
  refine lv_if_ne (tgt := 1878) hx hb dL_law_1863 (by decide) (fun _ => ?_) (fun q9 => ?_)
  · refine lv_goto (tgt := 2496) hx hb dL_law_1878 (by decide) ?_
    exact nxt _ _ _ _ _ _ hk1 (SX.putY (ρ := ρ) hS1 (rY_1 ρ ρ ex v)) hP hV (lv_sub hl [2, 3, 4, 5, 6] rfl)
  · have hov := out_v (τ' := ρ) (ρ := ρ) (μ' := μ') (hag.zero ok1_0 q9)
    refine lv_aload_n hx hb dL_law_1866 rfl (lv_at hl 6 rfl) ?_
    refine lv_iconst (v := 0) hx hb dL_law_1867 (by decide) ?_
    refine g_lald hx hb hK hP 51 (by decide) EZ_o dL_law_1868 ?_
    rw [hov]
    refine lv_iload hx hb dL_law_1869 (lv_at hl 0 rfl) ?_
    refine lv_i2l hx hb dL_law_1871 rfl ?_
    refine W.lcmp hx hb dL_law_1872 ?_
    refine lv_if_eq (tgt := 1878) hx hb dL_law_1873 (by decide) (fun _ => ?_) (fun q9 => absurd (lcmp_0 _) q9)
    refine lv_goto (tgt := 2496) hx hb dL_law_1878 (by decide) ?_
    exact nxt _ _ _ _ _ _ hk1 (SX.putY (ρ := ρ) hS1 (rY_1 ρ ρ ex v)) hP hV (lv_sub hl [2, 3, 4, 5, 6] rfl)
set_option maxHeartbeats 4000000 in
set_option maxRecDepth 100000 in
theorem lc_28 {p : Program} {l : Launch} {e : Env} {R : Room} {s : State} {m : MethodId} {args : Array Value} {below : List Frame} {meth : Method} {c : Code} {H : Heap} {locs : List Loc} {cells slots : Nat} {Q : State → Prop} {ls : Array Slot} {D : va_G} {cI cJ : ClassId} {A : Nat → Prop} {ad : Nat → Nat} {ρ : Mem} {b L i k0 : Nat} {xs : Nat → Int32} {M : Nat → Mem} (C : LC p l R s m args c A b L i xs D cI cJ ad) (hS : SX k0 ρ (sh2 ρ) M) (hk : k0 < 512) (hP : va_P D vwCl (wsG 77 ad (EZ ad cI cJ) ρ) H) (hV : va_S A s.heap H locs) (hl : lv_has ls 7 [(4, .int (nI i)), (0, .ref b), (1, .ref (ad 48)), (2, .ref (ad 52)), (3, .ref (ad 51))]) (hcs : cells + 1 ≤ R.cells ∧ slots + 6 ≤ R.slots) (nxt : Nxt p l e R s m args below meth c A b i k0 D cI cJ ad cells slots Q) : W p l e R s m args below meth c H locs cells slots Q (F0 m 1881 ls []) := by
  obtain ⟨⟨hx, hb, hml, hown, hB⟩, hK, hi, hA, hAd, hZ, hN, hX, hbl, hbA, hL, hiL, hflag, hRf, hRl⟩ := C
  obtain ⟨ex, v, bb, μ', hx1, hm1, hS1, hag⟩ := QR.law hS (q_exit hS.1 hS.2.2.1 (xs (i + 1)) (xs (i + 2)))
  have hk1 : k0 ≤ k0 + 1 := Nat.le_succ k0
  refine lv_aload_n hx hb dL_law_1881 rfl (lv_at hl 2 rfl) ?_
  refine g_arg hx hb hX hbl hbA hV (lv_at hl 1 rfl) (lv_at hl 0 rfl) 1 (by omega) hL rfl dL_law_1882 dL_law_1883 dL_law_1885 dL_law_1886 dL_law_1887 ?_
  refine g_arg hx hb hX hbl hbA hV (lv_at hl 1 rfl) (lv_at hl 0 rfl) 2 (by omega) hL rfl dL_law_1888 dL_law_1889 dL_law_1891 dL_law_1892 dL_law_1893 ?_
  refine lv_aload_n hx hb dL_law_1894 rfl (lv_at hl 4 rfl) ?_
  refine g_cY (n := 4) (σr := (rY ρ ρ ex v)) (As := [.ref (ad 48), .int (xs (i + 1)), .int (xs (i + 2)), .ref (ad 51)]) ⟨⟨hx, hb, hml, hown, hB⟩, hK, hi, hA, hAd, hP, hV⟩ hZ hN (h_exit hflag (inj77 hi) hx1 hag.c (rY_1 ρ ρ ex v) (rY_2 ρ ρ ex v)) kw_L_exit ks_L_exit kn_L kM_L_233 (by decide +kernel) ⟨Nat.le_trans (Nat.le_of_ble_eq_true rfl) hRf, Nat.le_trans (Nat.le_of_ble_eq_true rfl) hRl⟩ rfl hl.1 (Nat.zero_le _) rfl dL_law_1895 hcs (fun H locs hP hV => ?_)
  refine lv_istore (lv' := [(5, .int (μ' 0 29)), (4, .int (nI i)), (0, .ref b), (1, .ref (ad 48)), (2, .ref (ad 52)), (3, .ref (ad 51))]) hx hb dL_law_1898 hl (by decide) rfl (fun ls hl => ?_)
  refine lv_aload_n hx hb dL_law_1900 rfl (lv_at hl 4 rfl) ?_
  refine g_arg hx hb hX hbl hbA hV (lv_at hl 2 rfl) (lv_at hl 1 rfl) 1 (by omega) hL rfl dL_law_1901 dL_law_1902 dL_law_1904 dL_law_1905 dL_law_1906 ?_
  refine g_arg hx hb hX hbl hbA hV (lv_at hl 2 rfl) (lv_at hl 1 rfl) 2 (by omega) hL rfl dL_law_1907 dL_law_1908 dL_law_1910 dL_law_1911 dL_law_1912 ?_
  refine g_cVi (k0 := 0) (b := ad 52) (τ := (mgM μ' (mgZ (rY ρ ρ ex v) ρ))) (σc := sh2 ρ) (As := [.int (xs (i + 1)), .int (xs (i + 2))]) ⟨⟨hx, hb, hml, hown, hB⟩, hK, hi, hA, hAd, hP, hV⟩ sub_ZM (c_X6_exit (inj77M hi) hm1) (fun k _ => (congrFun (sh2_Z (rY ρ ρ ex v) ρ) k).symm) cal_X6_exit kM_L_235 ⟨Nat.le_trans (Nat.le_of_ble_eq_true rfl) hRf, Nat.le_trans (Nat.le_of_ble_eq_true rfl) hRl⟩ (by decide) rfl rfl rfl rfl hl.1 (Nat.zero_le _) rfl dL_law_1913 hcs (mgM_1 _ _) (mgM_2 _ _) (fun H locs hP hV => ?_)
  refine lv_istore (lv' := [(6, .int bb), (5, .int (μ' 0 29)), (4, .int (nI i)), (0, .ref b), (1, .ref (ad 48)), (2, .ref (ad 52)), (3, .ref (ad 51))]) hx hb dL_law_1916 hl (by decide) rfl (fun ls hl => ?_)
  refine lv_aload_n hx hb dL_law_1918 rfl (lv_at hl 5 rfl) ?_
  refine g_cVi (k0 := 0) (b := ad 52) (τ := (mgM μ' (mgZ (rY ρ ρ ex v) ρ))) (σc := μ') (As := []) ⟨⟨hx, hb, hml, hown, hB⟩, hK, hi, hA, hAd, hP, hV⟩ sub_ZM (c_X6_thrown (σ := μ') (r := μ' 0 29) (inj77M hi) rfl) (fun k hk => (mgM_1 μ' _ k hk).symm) cal_X6_thrown kM_L_141 ⟨Nat.le_trans (Nat.le_of_ble_eq_true rfl) hRf, Nat.le_trans (Nat.le_of_ble_eq_true rfl) hRl⟩ (by decide) rfl rfl rfl rfl hl.1 (Nat.zero_le _) rfl dL_law_1919 hcs (mgM_1 _ _) (fun _ _ _ => rfl) (fun H locs hP hV => ?_)
  refine lv_iload hx hb dL_law_1922 (lv_at hl 1 rfl) ?_
  refine lv_icmp_eq (tgt := 1929) hx hb dL_law_1924 (by decide) (fun _ => ?_) (fun q9 => absurd rfl q9)
  refine lv_iload hx hb dL_law_1929 (lv_at hl 1 rfl) ?_
  refine lv_if_ne (tgt := 1946) hx hb dL_law_1931 (by decide) (fun _ => ?_) (fun q9 => ?_)
  · refine lv_goto (tgt := 2496) hx hb dL_law_1946 (by decide) ?_
    exact nxt _ _ _ _ _ _ hk1 (SX.putY (ρ := ρ) hS1 (rY_1 ρ ρ ex v)) hP hV (lv_sub hl [2, 3, 4, 5, 6] rfl)
  · have hov := out_v (τ' := ρ) (ρ := ρ) (μ' := μ') (hag.zero ok1_0 q9)
    refine lv_aload_n hx hb dL_law_1934 rfl (lv_at hl 6 rfl) ?_
    refine lv_iconst (v := 0) hx hb dL_law_1935 (by decide) ?_
    refine g_lald hx hb hK hP 51 (by decide) EZ_o dL_law_1936 ?_
    rw [hov]
    refine lv_iload hx hb dL_law_1937 (lv_at hl 0 rfl) ?_
    refine lv_i2l hx hb dL_law_1939 rfl ?_
    refine W.lcmp hx hb dL_law_1940 ?_
    refine lv_if_eq (tgt := 1946) hx hb dL_law_1941 (by decide) (fun _ => ?_) (fun q9 => absurd (lcmp_0 _) q9)
    refine lv_goto (tgt := 2496) hx hb dL_law_1946 (by decide) ?_
    exact nxt _ _ _ _ _ _ hk1 (SX.putY (ρ := ρ) hS1 (rY_1 ρ ρ ex v)) hP hV (lv_sub hl [2, 3, 4, 5, 6] rfl)
set_option maxHeartbeats 4000000 in
set_option maxRecDepth 100000 in
theorem lc_29 {p : Program} {l : Launch} {e : Env} {R : Room} {s : State} {m : MethodId} {args : Array Value} {below : List Frame} {meth : Method} {c : Code} {H : Heap} {locs : List Loc} {cells slots : Nat} {Q : State → Prop} {ls : Array Slot} {D : va_G} {cI cJ : ClassId} {A : Nat → Prop} {ad : Nat → Nat} {ρ : Mem} {b L i k0 : Nat} {xs : Nat → Int32} {M : Nat → Mem} (C : LC p l R s m args c A b L i xs D cI cJ ad) (hS : SX k0 ρ (sh2 ρ) M) (hk : k0 < 512) (hP : va_P D vwCl (wsG 77 ad (EZ ad cI cJ) ρ) H) (hV : va_S A s.heap H locs) (hl : lv_has ls 7 [(4, .int (nI i)), (0, .ref b), (1, .ref (ad 48)), (2, .ref (ad 52)), (3, .ref (ad 51))]) (hcs : cells + 1 ≤ R.cells ∧ slots + 6 ≤ R.slots) (nxt : Nxt p l e R s m args below meth c A b i k0 D cI cJ ad cells slots Q) : W p l e R s m args below meth c H locs cells slots Q (F0 m 1949 ls []) := by
  obtain ⟨⟨hx, hb, hml, hown, hB⟩, hK, hi, hA, hAd, hZ, hN, hX, hbl, hbA, hL, hiL, hflag, hRf, hRl⟩ := C
  obtain ⟨ex, v, τ', bb, μ', k', M', hx1, hm1, hk1, hS1, hag⟩ := law_distance hS (xs (i + 1)) (xs (i + 2))
  refine lv_aload_n hx hb dL_law_1949 rfl (lv_at hl 2 rfl) ?_
  refine g_arg hx hb hX hbl hbA hV (lv_at hl 1 rfl) (lv_at hl 0 rfl) 1 (by omega) hL rfl dL_law_1950 dL_law_1951 dL_law_1953 dL_law_1954 dL_law_1955 ?_
  refine g_arg hx hb hX hbl hbA hV (lv_at hl 1 rfl) (lv_at hl 0 rfl) 2 (by omega) hL rfl dL_law_1956 dL_law_1957 dL_law_1959 dL_law_1960 dL_law_1961 ?_
  refine lv_aload_n hx hb dL_law_1962 rfl (lv_at hl 4 rfl) ?_
  refine g_cY (n := 4) (σr := (rY τ' ρ ex v)) (As := [.ref (ad 48), .int (xs (i + 1)), .int (xs (i + 2)), .ref (ad 51)]) ⟨⟨hx, hb, hml, hown, hB⟩, hK, hi, hA, hAd, hP, hV⟩ hZ hN (h_distance hflag (inj77 hi) hx1 hag.c (rY_1 τ' ρ ex v) (rY_2 τ' ρ ex v)) kw_L_distance ks_L_distance kn_L kM_L_236 (by decide +kernel) ⟨Nat.le_trans (Nat.le_of_ble_eq_true rfl) hRf, Nat.le_trans (Nat.le_of_ble_eq_true rfl) hRl⟩ rfl hl.1 (Nat.zero_le _) rfl dL_law_1963 hcs (fun H locs hP hV => ?_)
  refine lv_istore (lv' := [(5, .int (μ' 0 29)), (4, .int (nI i)), (0, .ref b), (1, .ref (ad 48)), (2, .ref (ad 52)), (3, .ref (ad 51))]) hx hb dL_law_1966 hl (by decide) rfl (fun ls hl => ?_)
  refine lv_aload_n hx hb dL_law_1968 rfl (lv_at hl 4 rfl) ?_
  refine g_arg hx hb hX hbl hbA hV (lv_at hl 2 rfl) (lv_at hl 1 rfl) 1 (by omega) hL rfl dL_law_1969 dL_law_1970 dL_law_1972 dL_law_1973 dL_law_1974 ?_
  refine g_arg hx hb hX hbl hbA hV (lv_at hl 2 rfl) (lv_at hl 1 rfl) 2 (by omega) hL rfl dL_law_1975 dL_law_1976 dL_law_1978 dL_law_1979 dL_law_1980 ?_
  refine g_cVi (k0 := 0) (b := ad 52) (τ := (mgM μ' (mgZ (rY τ' ρ ex v) ρ))) (σc := sh2 ρ) (As := [.int (xs (i + 1)), .int (xs (i + 2))]) ⟨⟨hx, hb, hml, hown, hB⟩, hK, hi, hA, hAd, hP, hV⟩ sub_ZM (c_X6_distance (inj77M hi) hm1) (fun k _ => (congrFun (sh2_Z (rY τ' ρ ex v) ρ) k).symm) cal_X6_distance kM_L_238 ⟨Nat.le_trans (Nat.le_of_ble_eq_true rfl) hRf, Nat.le_trans (Nat.le_of_ble_eq_true rfl) hRl⟩ (by decide) rfl rfl rfl rfl hl.1 (Nat.zero_le _) rfl dL_law_1981 hcs (mgM_1 _ _) (mgM_2 _ _) (fun H locs hP hV => ?_)
  refine lv_istore (lv' := [(6, .int bb), (5, .int (μ' 0 29)), (4, .int (nI i)), (0, .ref b), (1, .ref (ad 48)), (2, .ref (ad 52)), (3, .ref (ad 51))]) hx hb dL_law_1984 hl (by decide) rfl (fun ls hl => ?_)
  refine lv_aload_n hx hb dL_law_1986 rfl (lv_at hl 5 rfl) ?_
  refine g_cVi (k0 := 0) (b := ad 52) (τ := (mgM μ' (mgZ (rY τ' ρ ex v) ρ))) (σc := μ') (As := []) ⟨⟨hx, hb, hml, hown, hB⟩, hK, hi, hA, hAd, hP, hV⟩ sub_ZM (c_X6_thrown (σ := μ') (r := μ' 0 29) (inj77M hi) rfl) (fun k hk => (mgM_1 μ' _ k hk).symm) cal_X6_thrown kM_L_141 ⟨Nat.le_trans (Nat.le_of_ble_eq_true rfl) hRf, Nat.le_trans (Nat.le_of_ble_eq_true rfl) hRl⟩ (by decide) rfl rfl rfl rfl hl.1 (Nat.zero_le _) rfl dL_law_1987 hcs (mgM_1 _ _) (fun _ _ _ => rfl) (fun H locs hP hV => ?_)
  refine lv_iload hx hb dL_law_1990 (lv_at hl 1 rfl) ?_
  refine lv_icmp_eq (tgt := 1997) hx hb dL_law_1992 (by decide) (fun _ => ?_) (fun q9 => absurd rfl q9)
  refine lv_iload hx hb dL_law_1997 (lv_at hl 1 rfl) ?_
  refine lv_if_ne (tgt := 2014) hx hb dL_law_1999 (by decide) (fun _ => ?_) (fun q9 => ?_)
  · refine lv_goto (tgt := 2496) hx hb dL_law_2014 (by decide) ?_
    exact nxt _ _ _ _ _ _ hk1 (SX.putY (ρ := ρ) hS1 (rY_1 τ' ρ ex v)) hP hV (lv_sub hl [2, 3, 4, 5, 6] rfl)
  · have hov := out_v (τ' := τ') (ρ := ρ) (μ' := μ') (hag.zero ok1_0 q9)
    refine lv_aload_n hx hb dL_law_2002 rfl (lv_at hl 6 rfl) ?_
    refine lv_iconst (v := 0) hx hb dL_law_2003 (by decide) ?_
    refine g_lald hx hb hK hP 51 (by decide) EZ_o dL_law_2004 ?_
    rw [hov]
    refine lv_iload hx hb dL_law_2005 (lv_at hl 0 rfl) ?_
    refine lv_i2l hx hb dL_law_2007 rfl ?_
    refine W.lcmp hx hb dL_law_2008 ?_
    refine lv_if_eq (tgt := 2014) hx hb dL_law_2009 (by decide) (fun _ => ?_) (fun q9 => absurd (lcmp_0 _) q9)
    refine lv_goto (tgt := 2496) hx hb dL_law_2014 (by decide) ?_
    exact nxt _ _ _ _ _ _ hk1 (SX.putY (ρ := ρ) hS1 (rY_1 τ' ρ ex v)) hP hV (lv_sub hl [2, 3, 4, 5, 6] rfl)
set_option maxHeartbeats 4000000 in
set_option maxRecDepth 100000 in
theorem lc_30 {p : Program} {l : Launch} {e : Env} {R : Room} {s : State} {m : MethodId} {args : Array Value} {below : List Frame} {meth : Method} {c : Code} {H : Heap} {locs : List Loc} {cells slots : Nat} {Q : State → Prop} {ls : Array Slot} {D : va_G} {cI cJ : ClassId} {A : Nat → Prop} {ad : Nat → Nat} {ρ : Mem} {b L i k0 : Nat} {xs : Nat → Int32} {M : Nat → Mem} (C : LC p l R s m args c A b L i xs D cI cJ ad) (hS : SX k0 ρ (sh2 ρ) M) (hk : k0 < 512) (hP : va_P D vwCl (wsG 77 ad (EZ ad cI cJ) ρ) H) (hV : va_S A s.heap H locs) (hl : lv_has ls 7 [(4, .int (nI i)), (0, .ref b), (1, .ref (ad 48)), (2, .ref (ad 52)), (3, .ref (ad 51))]) (hcs : cells + 1 ≤ R.cells ∧ slots + 6 ≤ R.slots) (nxt : Nxt p l e R s m args below meth c A b i k0 D cI cJ ad cells slots Q) : W p l e R s m args below meth c H locs cells slots Q (F0 m 2017 ls []) := by
  obtain ⟨⟨hx, hb, hml, hown, hB⟩, hK, hi, hA, hAd, hZ, hN, hX, hbl, hbA, hL, hiL, hflag, hRf, hRl⟩ := C
  obtain ⟨ex, v, bb, μ', hx1, hm1, hS1, hag⟩ := QR.law hS (q_onFloor hS.1 hS.2.2.1 (xs (i + 1)) (xs (i + 2)))
  have hk1 : k0 ≤ k0 + 1 := Nat.le_succ k0
  refine lv_aload_n hx hb dL_law_2017 rfl (lv_at hl 2 rfl) ?_
  refine g_arg hx hb hX hbl hbA hV (lv_at hl 1 rfl) (lv_at hl 0 rfl) 1 (by omega) hL rfl dL_law_2018 dL_law_2019 dL_law_2021 dL_law_2022 dL_law_2023 ?_
  refine g_arg hx hb hX hbl hbA hV (lv_at hl 1 rfl) (lv_at hl 0 rfl) 2 (by omega) hL rfl dL_law_2024 dL_law_2025 dL_law_2027 dL_law_2028 dL_law_2029 ?_
  refine lv_aload_n hx hb dL_law_2030 rfl (lv_at hl 4 rfl) ?_
  refine g_cY (n := 4) (σr := (rY ρ ρ ex v)) (As := [.ref (ad 48), .int (xs (i + 1)), .int (xs (i + 2)), .ref (ad 51)]) ⟨⟨hx, hb, hml, hown, hB⟩, hK, hi, hA, hAd, hP, hV⟩ hZ hN (h_onFloor hflag (inj77 hi) hx1 hag.c (rY_1 ρ ρ ex v) (rY_2 ρ ρ ex v)) kw_L_onFloor ks_L_onFloor kn_L kM_L_239 (by decide +kernel) ⟨Nat.le_trans (Nat.le_of_ble_eq_true rfl) hRf, Nat.le_trans (Nat.le_of_ble_eq_true rfl) hRl⟩ rfl hl.1 (Nat.zero_le _) rfl dL_law_2031 hcs (fun H locs hP hV => ?_)
  refine lv_istore (lv' := [(5, .int (μ' 0 29)), (4, .int (nI i)), (0, .ref b), (1, .ref (ad 48)), (2, .ref (ad 52)), (3, .ref (ad 51))]) hx hb dL_law_2034 hl (by decide) rfl (fun ls hl => ?_)
  refine lv_aload_n hx hb dL_law_2036 rfl (lv_at hl 4 rfl) ?_
  refine g_arg hx hb hX hbl hbA hV (lv_at hl 2 rfl) (lv_at hl 1 rfl) 1 (by omega) hL rfl dL_law_2037 dL_law_2038 dL_law_2040 dL_law_2041 dL_law_2042 ?_
  refine g_arg hx hb hX hbl hbA hV (lv_at hl 2 rfl) (lv_at hl 1 rfl) 2 (by omega) hL rfl dL_law_2043 dL_law_2044 dL_law_2046 dL_law_2047 dL_law_2048 ?_
  refine g_cVi (k0 := 0) (b := ad 52) (τ := (mgM μ' (mgZ (rY ρ ρ ex v) ρ))) (σc := sh2 ρ) (As := [.int (xs (i + 1)), .int (xs (i + 2))]) ⟨⟨hx, hb, hml, hown, hB⟩, hK, hi, hA, hAd, hP, hV⟩ sub_ZM (c_X6_onFloor (inj77M hi) hm1) (fun k _ => (congrFun (sh2_Z (rY ρ ρ ex v) ρ) k).symm) cal_X6_onFloor kM_L_241 ⟨Nat.le_trans (Nat.le_of_ble_eq_true rfl) hRf, Nat.le_trans (Nat.le_of_ble_eq_true rfl) hRl⟩ (by decide) rfl rfl rfl rfl hl.1 (Nat.zero_le _) rfl dL_law_2049 hcs (mgM_1 _ _) (mgM_2 _ _) (fun H locs hP hV => ?_)
  refine lv_istore (lv' := [(6, .int bb), (5, .int (μ' 0 29)), (4, .int (nI i)), (0, .ref b), (1, .ref (ad 48)), (2, .ref (ad 52)), (3, .ref (ad 51))]) hx hb dL_law_2052 hl (by decide) rfl (fun ls hl => ?_)
  refine lv_aload_n hx hb dL_law_2054 rfl (lv_at hl 5 rfl) ?_
  refine g_cVi (k0 := 0) (b := ad 52) (τ := (mgM μ' (mgZ (rY ρ ρ ex v) ρ))) (σc := μ') (As := []) ⟨⟨hx, hb, hml, hown, hB⟩, hK, hi, hA, hAd, hP, hV⟩ sub_ZM (c_X6_thrown (σ := μ') (r := μ' 0 29) (inj77M hi) rfl) (fun k hk => (mgM_1 μ' _ k hk).symm) cal_X6_thrown kM_L_141 ⟨Nat.le_trans (Nat.le_of_ble_eq_true rfl) hRf, Nat.le_trans (Nat.le_of_ble_eq_true rfl) hRl⟩ (by decide) rfl rfl rfl rfl hl.1 (Nat.zero_le _) rfl dL_law_2055 hcs (mgM_1 _ _) (fun _ _ _ => rfl) (fun H locs hP hV => ?_)
  refine lv_iload hx hb dL_law_2058 (lv_at hl 1 rfl) ?_
  refine lv_icmp_eq (tgt := 2065) hx hb dL_law_2060 (by decide) (fun _ => ?_) (fun q9 => absurd rfl q9)
  refine lv_iload hx hb dL_law_2065 (lv_at hl 1 rfl) ?_
  refine lv_if_ne (tgt := 2082) hx hb dL_law_2067 (by decide) (fun _ => ?_) (fun q9 => ?_)
  · refine lv_goto (tgt := 2496) hx hb dL_law_2082 (by decide) ?_
    exact nxt _ _ _ _ _ _ hk1 (SX.putY (ρ := ρ) hS1 (rY_1 ρ ρ ex v)) hP hV (lv_sub hl [2, 3, 4, 5, 6] rfl)
  · have hov := out_v (τ' := ρ) (ρ := ρ) (μ' := μ') (hag.zero ok1_0 q9)
    refine lv_aload_n hx hb dL_law_2070 rfl (lv_at hl 6 rfl) ?_
    refine lv_iconst (v := 0) hx hb dL_law_2071 (by decide) ?_
    refine g_lald hx hb hK hP 51 (by decide) EZ_o dL_law_2072 ?_
    rw [hov]
    refine lv_iload hx hb dL_law_2073 (lv_at hl 0 rfl) ?_
    refine lv_i2l hx hb dL_law_2075 rfl ?_
    refine W.lcmp hx hb dL_law_2076 ?_
    refine lv_if_eq (tgt := 2082) hx hb dL_law_2077 (by decide) (fun _ => ?_) (fun q9 => absurd (lcmp_0 _) q9)
    refine lv_goto (tgt := 2496) hx hb dL_law_2082 (by decide) ?_
    exact nxt _ _ _ _ _ _ hk1 (SX.putY (ρ := ρ) hS1 (rY_1 ρ ρ ex v)) hP hV (lv_sub hl [2, 3, 4, 5, 6] rfl)
set_option maxHeartbeats 4000000 in
set_option maxRecDepth 100000 in
theorem lc_31 {p : Program} {l : Launch} {e : Env} {R : Room} {s : State} {m : MethodId} {args : Array Value} {below : List Frame} {meth : Method} {c : Code} {H : Heap} {locs : List Loc} {cells slots : Nat} {Q : State → Prop} {ls : Array Slot} {D : va_G} {cI cJ : ClassId} {A : Nat → Prop} {ad : Nat → Nat} {ρ : Mem} {b L i k0 : Nat} {xs : Nat → Int32} {M : Nat → Mem} (C : LC p l R s m args c A b L i xs D cI cJ ad) (hS : SX k0 ρ (sh2 ρ) M) (hk : k0 < 512) (hP : va_P D vwCl (wsG 77 ad (EZ ad cI cJ) ρ) H) (hV : va_S A s.heap H locs) (hl : lv_has ls 7 [(4, .int (nI i)), (0, .ref b), (1, .ref (ad 48)), (2, .ref (ad 52)), (3, .ref (ad 51))]) (hcs : cells + 1 ≤ R.cells ∧ slots + 6 ≤ R.slots) (nxt : Nxt p l e R s m args below meth c A b i k0 D cI cJ ad cells slots Q) : W p l e R s m args below meth c H locs cells slots Q (F0 m 2085 ls []) := by
  obtain ⟨⟨hx, hb, hml, hown, hB⟩, hK, hi, hA, hAd, hZ, hN, hX, hbl, hbA, hL, hiL, hflag, hRf, hRl⟩ := C
  obtain ⟨ex, v, bb, μ', hx1, hm1, hS1, hag⟩ := QR.law hS (q_stockOf hS.1 hS.2.2.1 (xs (i + 1)) (xs (i + 2)))
  have hk1 : k0 ≤ k0 + 1 := Nat.le_succ k0
  refine lv_aload_n hx hb dL_law_2085 rfl (lv_at hl 2 rfl) ?_
  refine g_arg hx hb hX hbl hbA hV (lv_at hl 1 rfl) (lv_at hl 0 rfl) 1 (by omega) hL rfl dL_law_2086 dL_law_2087 dL_law_2089 dL_law_2090 dL_law_2091 ?_
  refine g_arg hx hb hX hbl hbA hV (lv_at hl 1 rfl) (lv_at hl 0 rfl) 2 (by omega) hL rfl dL_law_2092 dL_law_2093 dL_law_2095 dL_law_2096 dL_law_2097 ?_
  refine lv_aload_n hx hb dL_law_2098 rfl (lv_at hl 4 rfl) ?_
  refine g_cY (n := 4) (σr := (rY ρ ρ ex v)) (As := [.ref (ad 48), .int (xs (i + 1)), .int (xs (i + 2)), .ref (ad 51)]) ⟨⟨hx, hb, hml, hown, hB⟩, hK, hi, hA, hAd, hP, hV⟩ hZ hN (h_stockOf hflag (inj77 hi) hx1 hag.c (rY_1 ρ ρ ex v) (rY_2 ρ ρ ex v)) kw_L_stockOf ks_L_stockOf kn_L kM_L_242 (by decide +kernel) ⟨Nat.le_trans (Nat.le_of_ble_eq_true rfl) hRf, Nat.le_trans (Nat.le_of_ble_eq_true rfl) hRl⟩ rfl hl.1 (Nat.zero_le _) rfl dL_law_2099 hcs (fun H locs hP hV => ?_)
  refine lv_istore (lv' := [(5, .int (μ' 0 29)), (4, .int (nI i)), (0, .ref b), (1, .ref (ad 48)), (2, .ref (ad 52)), (3, .ref (ad 51))]) hx hb dL_law_2102 hl (by decide) rfl (fun ls hl => ?_)
  refine lv_aload_n hx hb dL_law_2104 rfl (lv_at hl 4 rfl) ?_
  refine g_arg hx hb hX hbl hbA hV (lv_at hl 2 rfl) (lv_at hl 1 rfl) 1 (by omega) hL rfl dL_law_2105 dL_law_2106 dL_law_2108 dL_law_2109 dL_law_2110 ?_
  refine g_arg hx hb hX hbl hbA hV (lv_at hl 2 rfl) (lv_at hl 1 rfl) 2 (by omega) hL rfl dL_law_2111 dL_law_2112 dL_law_2114 dL_law_2115 dL_law_2116 ?_
  refine g_cVi (k0 := 0) (b := ad 52) (τ := (mgM μ' (mgZ (rY ρ ρ ex v) ρ))) (σc := sh2 ρ) (As := [.int (xs (i + 1)), .int (xs (i + 2))]) ⟨⟨hx, hb, hml, hown, hB⟩, hK, hi, hA, hAd, hP, hV⟩ sub_ZM (c_X6_stockOf (inj77M hi) hm1) (fun k _ => (congrFun (sh2_Z (rY ρ ρ ex v) ρ) k).symm) cal_X6_stockOf kM_L_244 ⟨Nat.le_trans (Nat.le_of_ble_eq_true rfl) hRf, Nat.le_trans (Nat.le_of_ble_eq_true rfl) hRl⟩ (by decide) rfl rfl rfl rfl hl.1 (Nat.zero_le _) rfl dL_law_2117 hcs (mgM_1 _ _) (mgM_2 _ _) (fun H locs hP hV => ?_)
  refine lv_istore (lv' := [(6, .int bb), (5, .int (μ' 0 29)), (4, .int (nI i)), (0, .ref b), (1, .ref (ad 48)), (2, .ref (ad 52)), (3, .ref (ad 51))]) hx hb dL_law_2120 hl (by decide) rfl (fun ls hl => ?_)
  refine lv_aload_n hx hb dL_law_2122 rfl (lv_at hl 5 rfl) ?_
  refine g_cVi (k0 := 0) (b := ad 52) (τ := (mgM μ' (mgZ (rY ρ ρ ex v) ρ))) (σc := μ') (As := []) ⟨⟨hx, hb, hml, hown, hB⟩, hK, hi, hA, hAd, hP, hV⟩ sub_ZM (c_X6_thrown (σ := μ') (r := μ' 0 29) (inj77M hi) rfl) (fun k hk => (mgM_1 μ' _ k hk).symm) cal_X6_thrown kM_L_141 ⟨Nat.le_trans (Nat.le_of_ble_eq_true rfl) hRf, Nat.le_trans (Nat.le_of_ble_eq_true rfl) hRl⟩ (by decide) rfl rfl rfl rfl hl.1 (Nat.zero_le _) rfl dL_law_2123 hcs (mgM_1 _ _) (fun _ _ _ => rfl) (fun H locs hP hV => ?_)
  refine lv_iload hx hb dL_law_2126 (lv_at hl 1 rfl) ?_
  refine lv_icmp_eq (tgt := 2133) hx hb dL_law_2128 (by decide) (fun _ => ?_) (fun q9 => absurd rfl q9)
  refine lv_iload hx hb dL_law_2133 (lv_at hl 1 rfl) ?_
  refine lv_if_ne (tgt := 2150) hx hb dL_law_2135 (by decide) (fun _ => ?_) (fun q9 => ?_)
  · refine lv_goto (tgt := 2496) hx hb dL_law_2150 (by decide) ?_
    exact nxt _ _ _ _ _ _ hk1 (SX.putY (ρ := ρ) hS1 (rY_1 ρ ρ ex v)) hP hV (lv_sub hl [2, 3, 4, 5, 6] rfl)
  · have hov := out_v (τ' := ρ) (ρ := ρ) (μ' := μ') (hag.zero ok1_0 q9)
    refine lv_aload_n hx hb dL_law_2138 rfl (lv_at hl 6 rfl) ?_
    refine lv_iconst (v := 0) hx hb dL_law_2139 (by decide) ?_
    refine g_lald hx hb hK hP 51 (by decide) EZ_o dL_law_2140 ?_
    rw [hov]
    refine lv_iload hx hb dL_law_2141 (lv_at hl 0 rfl) ?_
    refine lv_i2l hx hb dL_law_2143 rfl ?_
    refine W.lcmp hx hb dL_law_2144 ?_
    refine lv_if_eq (tgt := 2150) hx hb dL_law_2145 (by decide) (fun _ => ?_) (fun q9 => absurd (lcmp_0 _) q9)
    refine lv_goto (tgt := 2496) hx hb dL_law_2150 (by decide) ?_
    exact nxt _ _ _ _ _ _ hk1 (SX.putY (ρ := ρ) hS1 (rY_1 ρ ρ ex v)) hP hV (lv_sub hl [2, 3, 4, 5, 6] rfl)
set_option maxHeartbeats 4000000 in
set_option maxRecDepth 100000 in
theorem lc_32 {p : Program} {l : Launch} {e : Env} {R : Room} {s : State} {m : MethodId} {args : Array Value} {below : List Frame} {meth : Method} {c : Code} {H : Heap} {locs : List Loc} {cells slots : Nat} {Q : State → Prop} {ls : Array Slot} {D : va_G} {cI cJ : ClassId} {A : Nat → Prop} {ad : Nat → Nat} {ρ : Mem} {b L i k0 : Nat} {xs : Nat → Int32} {M : Nat → Mem} (C : LC p l R s m args c A b L i xs D cI cJ ad) (hS : SX k0 ρ (sh2 ρ) M) (hk : k0 < 512) (hP : va_P D vwCl (wsG 77 ad (EZ ad cI cJ) ρ) H) (hV : va_S A s.heap H locs) (hl : lv_has ls 7 [(4, .int (nI i)), (0, .ref b), (1, .ref (ad 48)), (2, .ref (ad 52)), (3, .ref (ad 51))]) (hcs : cells + 1 ≤ R.cells ∧ slots + 6 ≤ R.slots) (nxt : Nxt p l e R s m args below meth c A b i k0 D cI cJ ad cells slots Q) : W p l e R s m args below meth c H locs cells slots Q (F0 m 2153 ls []) := by
  obtain ⟨⟨hx, hb, hml, hown, hB⟩, hK, hi, hA, hAd, hZ, hN, hX, hbl, hbA, hL, hiL, hflag, hRf, hRl⟩ := C
  obtain ⟨ex, v, bb, μ', hx1, hm1, hS1, hag⟩ := QR.law hS (q_tillOf hS.2.2.1 (xs (i + 1)))
  have hk1 : k0 ≤ k0 + 1 := Nat.le_succ k0
  refine lv_aload_n hx hb dL_law_2153 rfl (lv_at hl 2 rfl) ?_
  refine g_arg hx hb hX hbl hbA hV (lv_at hl 1 rfl) (lv_at hl 0 rfl) 1 (by omega) hL rfl dL_law_2154 dL_law_2155 dL_law_2157 dL_law_2158 dL_law_2159 ?_
  refine lv_aload_n hx hb dL_law_2160 rfl (lv_at hl 4 rfl) ?_
  refine g_cY (n := 3) (σr := (rY ρ ρ ex v)) (As := [.ref (ad 48), .int (xs (i + 1)), .ref (ad 51)]) ⟨⟨hx, hb, hml, hown, hB⟩, hK, hi, hA, hAd, hP, hV⟩ hZ hN (h_tillOf hflag (inj77 hi) hx1 hag.c (rY_1 ρ ρ ex v) (rY_2 ρ ρ ex v)) kw_L_tillOf ks_L_tillOf kn_L kM_L_245 (by decide +kernel) ⟨Nat.le_trans (Nat.le_of_ble_eq_true rfl) hRf, Nat.le_trans (Nat.le_of_ble_eq_true rfl) hRl⟩ rfl hl.1 (Nat.zero_le _) rfl dL_law_2161 hcs (fun H locs hP hV => ?_)
  refine lv_istore (lv' := [(5, .int (μ' 0 29)), (4, .int (nI i)), (0, .ref b), (1, .ref (ad 48)), (2, .ref (ad 52)), (3, .ref (ad 51))]) hx hb dL_law_2164 hl (by decide) rfl (fun ls hl => ?_)
  refine lv_aload_n hx hb dL_law_2166 rfl (lv_at hl 4 rfl) ?_
  refine g_arg hx hb hX hbl hbA hV (lv_at hl 2 rfl) (lv_at hl 1 rfl) 1 (by omega) hL rfl dL_law_2167 dL_law_2168 dL_law_2170 dL_law_2171 dL_law_2172 ?_
  refine g_cVi (k0 := 0) (b := ad 52) (τ := (mgM μ' (mgZ (rY ρ ρ ex v) ρ))) (σc := sh2 ρ) (As := [.int (xs (i + 1))]) ⟨⟨hx, hb, hml, hown, hB⟩, hK, hi, hA, hAd, hP, hV⟩ sub_ZM (c_X6_tillOf (inj77M hi) hm1) (fun k _ => (congrFun (sh2_Z (rY ρ ρ ex v) ρ) k).symm) cal_X6_tillOf kM_L_247 ⟨Nat.le_trans (Nat.le_of_ble_eq_true rfl) hRf, Nat.le_trans (Nat.le_of_ble_eq_true rfl) hRl⟩ (by decide) rfl rfl rfl rfl hl.1 (Nat.zero_le _) rfl dL_law_2173 hcs (mgM_1 _ _) (mgM_2 _ _) (fun H locs hP hV => ?_)
  refine lv_istore (lv' := [(6, .int bb), (5, .int (μ' 0 29)), (4, .int (nI i)), (0, .ref b), (1, .ref (ad 48)), (2, .ref (ad 52)), (3, .ref (ad 51))]) hx hb dL_law_2176 hl (by decide) rfl (fun ls hl => ?_)
  refine lv_aload_n hx hb dL_law_2178 rfl (lv_at hl 5 rfl) ?_
  refine g_cVi (k0 := 0) (b := ad 52) (τ := (mgM μ' (mgZ (rY ρ ρ ex v) ρ))) (σc := μ') (As := []) ⟨⟨hx, hb, hml, hown, hB⟩, hK, hi, hA, hAd, hP, hV⟩ sub_ZM (c_X6_thrown (σ := μ') (r := μ' 0 29) (inj77M hi) rfl) (fun k hk => (mgM_1 μ' _ k hk).symm) cal_X6_thrown kM_L_141 ⟨Nat.le_trans (Nat.le_of_ble_eq_true rfl) hRf, Nat.le_trans (Nat.le_of_ble_eq_true rfl) hRl⟩ (by decide) rfl rfl rfl rfl hl.1 (Nat.zero_le _) rfl dL_law_2179 hcs (mgM_1 _ _) (fun _ _ _ => rfl) (fun H locs hP hV => ?_)
  refine lv_iload hx hb dL_law_2182 (lv_at hl 1 rfl) ?_
  refine lv_icmp_eq (tgt := 2189) hx hb dL_law_2184 (by decide) (fun _ => ?_) (fun q9 => absurd rfl q9)
  refine lv_iload hx hb dL_law_2189 (lv_at hl 1 rfl) ?_
  refine lv_if_ne (tgt := 2206) hx hb dL_law_2191 (by decide) (fun _ => ?_) (fun q9 => ?_)
  · refine lv_goto (tgt := 2496) hx hb dL_law_2206 (by decide) ?_
    exact nxt _ _ _ _ _ _ hk1 (SX.putY (ρ := ρ) hS1 (rY_1 ρ ρ ex v)) hP hV (lv_sub hl [2, 3, 4, 5, 6] rfl)
  · have hov := out_v (τ' := ρ) (ρ := ρ) (μ' := μ') (hag.zero ok1_0 q9)
    refine lv_aload_n hx hb dL_law_2194 rfl (lv_at hl 6 rfl) ?_
    refine lv_iconst (v := 0) hx hb dL_law_2195 (by decide) ?_
    refine g_lald hx hb hK hP 51 (by decide) EZ_o dL_law_2196 ?_
    rw [hov]
    refine lv_iload hx hb dL_law_2197 (lv_at hl 0 rfl) ?_
    refine lv_i2l hx hb dL_law_2199 rfl ?_
    refine W.lcmp hx hb dL_law_2200 ?_
    refine lv_if_eq (tgt := 2206) hx hb dL_law_2201 (by decide) (fun _ => ?_) (fun q9 => absurd (lcmp_0 _) q9)
    refine lv_goto (tgt := 2496) hx hb dL_law_2206 (by decide) ?_
    exact nxt _ _ _ _ _ _ hk1 (SX.putY (ρ := ρ) hS1 (rY_1 ρ ρ ex v)) hP hV (lv_sub hl [2, 3, 4, 5, 6] rfl)
set_option maxHeartbeats 4000000 in
set_option maxRecDepth 100000 in
theorem lc_33 {p : Program} {l : Launch} {e : Env} {R : Room} {s : State} {m : MethodId} {args : Array Value} {below : List Frame} {meth : Method} {c : Code} {H : Heap} {locs : List Loc} {cells slots : Nat} {Q : State → Prop} {ls : Array Slot} {D : va_G} {cI cJ : ClassId} {A : Nat → Prop} {ad : Nat → Nat} {ρ : Mem} {b L i k0 : Nat} {xs : Nat → Int32} {M : Nat → Mem} (C : LC p l R s m args c A b L i xs D cI cJ ad) (hS : SX k0 ρ (sh2 ρ) M) (hk : k0 < 512) (hP : va_P D vwCl (wsG 77 ad (EZ ad cI cJ) ρ) H) (hV : va_S A s.heap H locs) (hl : lv_has ls 7 [(4, .int (nI i)), (0, .ref b), (1, .ref (ad 48)), (2, .ref (ad 52)), (3, .ref (ad 51))]) (hcs : cells + 1 ≤ R.cells ∧ slots + 6 ≤ R.slots) (nxt : Nxt p l e R s m args below meth c A b i k0 D cI cJ ad cells slots Q) : W p l e R s m args below meth c H locs cells slots Q (F0 m 2209 ls []) := by
  obtain ⟨⟨hx, hb, hml, hown, hB⟩, hK, hi, hA, hAd, hZ, hN, hX, hbl, hbA, hL, hiL, hflag, hRf, hRl⟩ := C
  obtain ⟨v, hx1, hm1⟩ := q_purse hS.2.2.1
  have hk1 : k0 ≤ k0 + 1 := Nat.le_succ k0
  have hcs0 : cells ≤ R.cells ∧ slots ≤ R.slots := ⟨by omega, by omega⟩
  refine lv_aload_n hx hb dL_law_2209 rfl (lv_at hl 2 rfl) ?_
  refine g_cVi (k0 := 48) (b := ad 48) (τ := ρ) (σc := ρ) (As := []) ⟨⟨hx, hb, hml, hown, hB⟩, hK, hi, hA, hAd, hP, hV⟩ sub_ZX (c_X5_purse (inj51 (inj77 hi)) hx1) (fun _ _ => rfl) cal_X5_purse kM_L_248 ⟨Nat.le_trans (Nat.le_of_ble_eq_true rfl) hRf, Nat.le_trans (Nat.le_of_ble_eq_true rfl) hRl⟩ (by decide) rfl rfl rfl rfl hl.1 (Nat.zero_le _) rfl dL_law_2210 hcs0 (fun _ _ => rfl) (fun _ _ _ => rfl) (fun H locs hP hV => ?_)
  refine lv_aload_n hx hb dL_law_2213 rfl (lv_at hl 3 rfl) ?_
  refine g_cVi (k0 := 0) (b := ad 52) (τ := mgM (mu (sh2 ρ) 0 29 0) ρ) (σc := sh2 ρ) (As := []) ⟨⟨hx, hb, hml, hown, hB⟩, hK, hi, hA, hAd, hP, hV⟩ sub_ZM (c_X6_purse (inj77M hi) hm1) (fun _ _ => rfl) cal_X6_purse kM_L_251 ⟨Nat.le_trans (Nat.le_of_ble_eq_true rfl) hRf, Nat.le_trans (Nat.le_of_ble_eq_true rfl) hRl⟩ (by decide) rfl rfl rfl rfl hl.1 (Nat.le_of_ble_eq_true rfl) rfl dL_law_2214 hcs0 (mgM_1 _ _) (mgM_2 _ _) (fun H locs hP hV => ?_)
  refine lv_icmp_eq (tgt := 2496) hx hb dL_law_2217 (by decide) (fun _ => ?_) (fun q9 => absurd rfl q9)
  refine W.widen (k := cells + 1) (n := slots + 6) (by omega) (by omega) ?_
  exact nxt _ _ _ _ _ _ hk1 (SX.putM (ρ := ρ) (hS.thrown 0)) hP hV (lv_sub hl [0, 1, 2, 3, 4] rfl)
set_option maxHeartbeats 4000000 in
set_option maxRecDepth 100000 in
theorem lc_34 {p : Program} {l : Launch} {e : Env} {R : Room} {s : State} {m : MethodId} {args : Array Value} {below : List Frame} {meth : Method} {c : Code} {H : Heap} {locs : List Loc} {cells slots : Nat} {Q : State → Prop} {ls : Array Slot} {D : va_G} {cI cJ : ClassId} {A : Nat → Prop} {ad : Nat → Nat} {ρ : Mem} {b L i k0 : Nat} {xs : Nat → Int32} {M : Nat → Mem} (C : LC p l R s m args c A b L i xs D cI cJ ad) (hS : SX k0 ρ (sh2 ρ) M) (hk : k0 < 512) (hP : va_P D vwCl (wsG 77 ad (EZ ad cI cJ) ρ) H) (hV : va_S A s.heap H locs) (hl : lv_has ls 7 [(4, .int (nI i)), (0, .ref b), (1, .ref (ad 48)), (2, .ref (ad 52)), (3, .ref (ad 51))]) (hcs : cells + 1 ≤ R.cells ∧ slots + 6 ≤ R.slots) (nxt : Nxt p l e R s m args below meth c A b i k0 D cI cJ ad cells slots Q) : W p l e R s m args below meth c H locs cells slots Q (F0 m 2222 ls []) := by
  obtain ⟨⟨hx, hb, hml, hown, hB⟩, hK, hi, hA, hAd, hZ, hN, hX, hbl, hbA, hL, hiL, hflag, hRf, hRl⟩ := C
  obtain ⟨v, hx1, hm1⟩ := q_allCoins hS.1 hS.2.2.1
  have hk1 : k0 ≤ k0 + 1 := Nat.le_succ k0
  have hcs0 : cells ≤ R.cells ∧ slots ≤ R.slots := ⟨by omega, by omega⟩
  refine lv_aload_n hx hb dL_law_2222 rfl (lv_at hl 2 rfl) ?_
  refine g_cVi (k0 := 48) (b := ad 48) (τ := ρ) (σc := ρ) (As := []) ⟨⟨hx, hb, hml, hown, hB⟩, hK, hi, hA, hAd, hP, hV⟩ sub_ZX (c_X5_allCoins (inj51 (inj77 hi)) hx1) (fun _ _ => rfl) cal_X5_allCoins kM_L_252 ⟨Nat.le_trans (Nat.le_of_ble_eq_true rfl) hRf, Nat.le_trans (Nat.le_of_ble_eq_true rfl) hRl⟩ (by decide) rfl rfl rfl rfl hl.1 (Nat.zero_le _) rfl dL_law_2223 hcs0 (fun _ _ => rfl) (fun _ _ _ => rfl) (fun H locs hP hV => ?_)
  refine lv_aload_n hx hb dL_law_2226 rfl (lv_at hl 3 rfl) ?_
  refine g_cVi (k0 := 0) (b := ad 52) (τ := mgM (mu (sh2 ρ) 0 29 0) ρ) (σc := sh2 ρ) (As := []) ⟨⟨hx, hb, hml, hown, hB⟩, hK, hi, hA, hAd, hP, hV⟩ sub_ZM (c_X6_allCoins (inj77M hi) hm1) (fun _ _ => rfl) cal_X6_allCoins kM_L_255 ⟨Nat.le_trans (Nat.le_of_ble_eq_true rfl) hRf, Nat.le_trans (Nat.le_of_ble_eq_true rfl) hRl⟩ (by decide) rfl rfl rfl rfl hl.1 (Nat.le_of_ble_eq_true rfl) rfl dL_law_2227 hcs0 (mgM_1 _ _) (mgM_2 _ _) (fun H locs hP hV => ?_)
  refine lv_icmp_eq (tgt := 2496) hx hb dL_law_2230 (by decide) (fun _ => ?_) (fun q9 => absurd rfl q9)
  refine W.widen (k := cells + 1) (n := slots + 6) (by omega) (by omega) ?_
  exact nxt _ _ _ _ _ _ hk1 (SX.putM (ρ := ρ) (hS.thrown 0)) hP hV (lv_sub hl [0, 1, 2, 3, 4] rfl)
set_option maxHeartbeats 4000000 in
set_option maxRecDepth 100000 in
theorem lc_35 {p : Program} {l : Launch} {e : Env} {R : Room} {s : State} {m : MethodId} {args : Array Value} {below : List Frame} {meth : Method} {c : Code} {H : Heap} {locs : List Loc} {cells slots : Nat} {Q : State → Prop} {ls : Array Slot} {D : va_G} {cI cJ : ClassId} {A : Nat → Prop} {ad : Nat → Nat} {ρ : Mem} {b L i k0 : Nat} {xs : Nat → Int32} {M : Nat → Mem} (C : LC p l R s m args c A b L i xs D cI cJ ad) (hS : SX k0 ρ (sh2 ρ) M) (hk : k0 < 512) (hP : va_P D vwCl (wsG 77 ad (EZ ad cI cJ) ρ) H) (hV : va_S A s.heap H locs) (hl : lv_has ls 7 [(4, .int (nI i)), (0, .ref b), (1, .ref (ad 48)), (2, .ref (ad 52)), (3, .ref (ad 51))]) (hcs : cells + 1 ≤ R.cells ∧ slots + 6 ≤ R.slots) (nxt : Nxt p l e R s m args below meth c A b i k0 D cI cJ ad cells slots Q) : W p l e R s m args below meth c H locs cells slots Q (F0 m 2235 ls []) := by
  obtain ⟨⟨hx, hb, hml, hown, hB⟩, hK, hi, hA, hAd, hZ, hN, hX, hbl, hbA, hL, hiL, hflag, hRf, hRl⟩ := C
  obtain ⟨ex, v, bb, μ', hx1, hm1, hS1, hag⟩ := QR.law hS (q_allGoods hS.1 hS.2.2.1 (xs (i + 1)))
  have hk1 : k0 ≤ k0 + 1 := Nat.le_succ k0
  refine lv_aload_n hx hb dL_law_2235 rfl (lv_at hl 2 rfl) ?_
  refine g_arg hx hb hX hbl hbA hV (lv_at hl 1 rfl) (lv_at hl 0 rfl) 1 (by omega) hL rfl dL_law_2236 dL_law_2237 dL_law_2239 dL_law_2240 dL_law_2241 ?_
  refine lv_aload_n hx hb dL_law_2242 rfl (lv_at hl 4 rfl) ?_
  refine g_cY (n := 3) (σr := (rY ρ ρ ex v)) (As := [.ref (ad 48), .int (xs (i + 1)), .ref (ad 51)]) ⟨⟨hx, hb, hml, hown, hB⟩, hK, hi, hA, hAd, hP, hV⟩ hZ hN (h_allGoods hflag (inj77 hi) hx1 hag.c (rY_1 ρ ρ ex v) (rY_2 ρ ρ ex v)) kw_L_allGoods ks_L_allGoods kn_L kM_L_256 (by decide +kernel) ⟨Nat.le_trans (Nat.le_of_ble_eq_true rfl) hRf, Nat.le_trans (Nat.le_of_ble_eq_true rfl) hRl⟩ rfl hl.1 (Nat.zero_le _) rfl dL_law_2243 hcs (fun H locs hP hV => ?_)
  refine lv_istore (lv' := [(5, .int (μ' 0 29)), (4, .int (nI i)), (0, .ref b), (1, .ref (ad 48)), (2, .ref (ad 52)), (3, .ref (ad 51))]) hx hb dL_law_2246 hl (by decide) rfl (fun ls hl => ?_)
  refine lv_aload_n hx hb dL_law_2248 rfl (lv_at hl 4 rfl) ?_
  refine g_arg hx hb hX hbl hbA hV (lv_at hl 2 rfl) (lv_at hl 1 rfl) 1 (by omega) hL rfl dL_law_2249 dL_law_2250 dL_law_2252 dL_law_2253 dL_law_2254 ?_
  refine g_cVi (k0 := 0) (b := ad 52) (τ := (mgM μ' (mgZ (rY ρ ρ ex v) ρ))) (σc := sh2 ρ) (As := [.int (xs (i + 1))]) ⟨⟨hx, hb, hml, hown, hB⟩, hK, hi, hA, hAd, hP, hV⟩ sub_ZM (c_X6_allGoods (inj77M hi) hm1) (fun k _ => (congrFun (sh2_Z (rY ρ ρ ex v) ρ) k).symm) cal_X6_allGoods kM_L_258 ⟨Nat.le_trans (Nat.le_of_ble_eq_true rfl) hRf, Nat.le_trans (Nat.le_of_ble_eq_true rfl) hRl⟩ (by decide) rfl rfl rfl rfl hl.1 (Nat.zero_le _) rfl dL_law_2255 hcs (mgM_1 _ _) (mgM_2 _ _) (fun H locs hP hV => ?_)
  refine lv_istore (lv' := [(6, .int bb), (5, .int (μ' 0 29)), (4, .int (nI i)), (0, .ref b), (1, .ref (ad 48)), (2, .ref (ad 52)), (3, .ref (ad 51))]) hx hb dL_law_2258 hl (by decide) rfl (fun ls hl => ?_)
  refine lv_aload_n hx hb dL_law_2260 rfl (lv_at hl 5 rfl) ?_
  refine g_cVi (k0 := 0) (b := ad 52) (τ := (mgM μ' (mgZ (rY ρ ρ ex v) ρ))) (σc := μ') (As := []) ⟨⟨hx, hb, hml, hown, hB⟩, hK, hi, hA, hAd, hP, hV⟩ sub_ZM (c_X6_thrown (σ := μ') (r := μ' 0 29) (inj77M hi) rfl) (fun k hk => (mgM_1 μ' _ k hk).symm) cal_X6_thrown kM_L_141 ⟨Nat.le_trans (Nat.le_of_ble_eq_true rfl) hRf, Nat.le_trans (Nat.le_of_ble_eq_true rfl) hRl⟩ (by decide) rfl rfl rfl rfl hl.1 (Nat.zero_le _) rfl dL_law_2261 hcs (mgM_1 _ _) (fun _ _ _ => rfl) (fun H locs hP hV => ?_)
  refine lv_iload hx hb dL_law_2264 (lv_at hl 1 rfl) ?_
  refine lv_icmp_eq (tgt := 2271) hx hb dL_law_2266 (by decide) (fun _ => ?_) (fun q9 => absurd rfl q9)
  refine lv_iload hx hb dL_law_2271 (lv_at hl 1 rfl) ?_
  refine lv_if_ne (tgt := 2288) hx hb dL_law_2273 (by decide) (fun _ => ?_) (fun q9 => ?_)
  · refine lv_goto (tgt := 2496) hx hb dL_law_2288 (by decide) ?_
    exact nxt _ _ _ _ _ _ hk1 (SX.putY (ρ := ρ) hS1 (rY_1 ρ ρ ex v)) hP hV (lv_sub hl [2, 3, 4, 5, 6] rfl)
  · have hov := out_v (τ' := ρ) (ρ := ρ) (μ' := μ') (hag.zero ok1_0 q9)
    refine lv_aload_n hx hb dL_law_2276 rfl (lv_at hl 6 rfl) ?_
    refine lv_iconst (v := 0) hx hb dL_law_2277 (by decide) ?_
    refine g_lald hx hb hK hP 51 (by decide) EZ_o dL_law_2278 ?_
    rw [hov]
    refine lv_iload hx hb dL_law_2279 (lv_at hl 0 rfl) ?_
    refine lv_i2l hx hb dL_law_2281 rfl ?_
    refine W.lcmp hx hb dL_law_2282 ?_
    refine lv_if_eq (tgt := 2288) hx hb dL_law_2283 (by decide) (fun _ => ?_) (fun q9 => absurd (lcmp_0 _) q9)
    refine lv_goto (tgt := 2496) hx hb dL_law_2288 (by decide) ?_
    exact nxt _ _ _ _ _ _ hk1 (SX.putY (ρ := ρ) hS1 (rY_1 ρ ρ ex v)) hP hV (lv_sub hl [2, 3, 4, 5, 6] rfl)
set_option maxHeartbeats 4000000 in
set_option maxRecDepth 100000 in
theorem lc_36 {p : Program} {l : Launch} {e : Env} {R : Room} {s : State} {m : MethodId} {args : Array Value} {below : List Frame} {meth : Method} {c : Code} {H : Heap} {locs : List Loc} {cells slots : Nat} {Q : State → Prop} {ls : Array Slot} {D : va_G} {cI cJ : ClassId} {A : Nat → Prop} {ad : Nat → Nat} {ρ : Mem} {b L i k0 : Nat} {xs : Nat → Int32} {M : Nat → Mem} (C : LC p l R s m args c A b L i xs D cI cJ ad) (hS : SX k0 ρ (sh2 ρ) M) (hk : k0 < 512) (hP : va_P D vwCl (wsG 77 ad (EZ ad cI cJ) ρ) H) (hV : va_S A s.heap H locs) (hl : lv_has ls 7 [(4, .int (nI i)), (0, .ref b), (1, .ref (ad 48)), (2, .ref (ad 52)), (3, .ref (ad 51))]) (hcs : cells + 1 ≤ R.cells ∧ slots + 6 ≤ R.slots) (nxt : Nxt p l e R s m args below meth c A b i k0 D cI cJ ad cells slots Q) : W p l e R s m args below meth c H locs cells slots Q (F0 m 2291 ls []) := by
  obtain ⟨⟨hx, hb, hml, hown, hB⟩, hK, hi, hA, hAd, hZ, hN, hX, hbl, hbA, hL, hiL, hflag, hRf, hRl⟩ := C
  obtain ⟨v, hx1, hm1⟩ := q_calls hS
  have hk1 : k0 ≤ k0 + 1 := Nat.le_succ k0
  have hcs0 : cells ≤ R.cells ∧ slots ≤ R.slots := ⟨by omega, by omega⟩
  refine lv_aload_n hx hb dL_law_2291 rfl (lv_at hl 2 rfl) ?_
  refine g_cVi (k0 := 48) (b := ad 48) (τ := ρ) (σc := ρ) (As := []) ⟨⟨hx, hb, hml, hown, hB⟩, hK, hi, hA, hAd, hP, hV⟩ sub_ZX (c_X5_calls (inj51 (inj77 hi)) hx1) (fun _ _ => rfl) cal_X5_calls kM_L_259 ⟨Nat.le_trans (Nat.le_of_ble_eq_true rfl) hRf, Nat.le_trans (Nat.le_of_ble_eq_true rfl) hRl⟩ (by decide) rfl rfl rfl rfl hl.1 (Nat.zero_le _) rfl dL_law_2292 hcs0 (fun _ _ => rfl) (fun _ _ _ => rfl) (fun H locs hP hV => ?_)
  refine lv_aload_n hx hb dL_law_2295 rfl (lv_at hl 3 rfl) ?_
  refine g_cVi (k0 := 0) (b := ad 52) (τ := mgM (mu (sh2 ρ) 0 29 0) ρ) (σc := sh2 ρ) (As := []) ⟨⟨hx, hb, hml, hown, hB⟩, hK, hi, hA, hAd, hP, hV⟩ sub_ZM (c_X6_calls (inj77M hi) hm1) (fun _ _ => rfl) cal_X6_calls kM_L_262 ⟨Nat.le_trans (Nat.le_of_ble_eq_true rfl) hRf, Nat.le_trans (Nat.le_of_ble_eq_true rfl) hRl⟩ (by decide) rfl rfl rfl rfl hl.1 (Nat.le_of_ble_eq_true rfl) rfl dL_law_2296 hcs0 (mgM_1 _ _) (mgM_2 _ _) (fun H locs hP hV => ?_)
  refine lv_icmp_eq (tgt := 2496) hx hb dL_law_2299 (by decide) (fun _ => ?_) (fun q9 => absurd rfl q9)
  refine W.widen (k := cells + 1) (n := slots + 6) (by omega) (by omega) ?_
  exact nxt _ _ _ _ _ _ hk1 (SX.putM (ρ := ρ) (hS.thrown 0)) hP hV (lv_sub hl [0, 1, 2, 3, 4] rfl)
set_option maxHeartbeats 4000000 in
set_option maxRecDepth 100000 in
theorem lc_37 {p : Program} {l : Launch} {e : Env} {R : Room} {s : State} {m : MethodId} {args : Array Value} {below : List Frame} {meth : Method} {c : Code} {H : Heap} {locs : List Loc} {cells slots : Nat} {Q : State → Prop} {ls : Array Slot} {D : va_G} {cI cJ : ClassId} {A : Nat → Prop} {ad : Nat → Nat} {ρ : Mem} {b L i k0 : Nat} {xs : Nat → Int32} {M : Nat → Mem} (C : LC p l R s m args c A b L i xs D cI cJ ad) (hS : SX k0 ρ (sh2 ρ) M) (hk : k0 < 512) (hP : va_P D vwCl (wsG 77 ad (EZ ad cI cJ) ρ) H) (hV : va_S A s.heap H locs) (hl : lv_has ls 7 [(4, .int (nI i)), (0, .ref b), (1, .ref (ad 48)), (2, .ref (ad 52)), (3, .ref (ad 51))]) (hcs : cells + 1 ≤ R.cells ∧ slots + 6 ≤ R.slots) (nxt : Nxt p l e R s m args below meth c A b i k0 D cI cJ ad cells slots Q) : W p l e R s m args below meth c H locs cells slots Q (F0 m 2304 ls []) := by
  obtain ⟨⟨hx, hb, hml, hown, hB⟩, hK, hi, hA, hAd, hZ, hN, hX, hbl, hbA, hL, hiL, hflag, hRf, hRl⟩ := C
  obtain ⟨ex, v, τ', bb, μ', k', M', hx1, hm1, hk1, hS1, hag⟩ := q_roomAfter hS (Nat.le_of_lt hk) (xs (i + 1)) (xs (i + 2))
  refine lv_aload_n hx hb dL_law_2304 rfl (lv_at hl 2 rfl) ?_
  refine g_arg hx hb hX hbl hbA hV (lv_at hl 1 rfl) (lv_at hl 0 rfl) 1 (by omega) hL rfl dL_law_2305 dL_law_2306 dL_law_2308 dL_law_2309 dL_law_2310 ?_
  refine g_arg hx hb hX hbl hbA hV (lv_at hl 1 rfl) (lv_at hl 0 rfl) 2 (by omega) hL rfl dL_law_2311 dL_law_2312 dL_law_2314 dL_law_2315 dL_law_2316 ?_
  refine lv_aload_n hx hb dL_law_2317 rfl (lv_at hl 4 rfl) ?_
  refine g_cY (n := 4) (σr := (rY τ' ρ ex v)) (As := [.ref (ad 48), .int (xs (i + 1)), .int (xs (i + 2)), .ref (ad 51)]) ⟨⟨hx, hb, hml, hown, hB⟩, hK, hi, hA, hAd, hP, hV⟩ hZ hN (h_roomAfter hflag (inj77 hi) hx1 hag.c (rY_1 τ' ρ ex v) (rY_2 τ' ρ ex v)) kw_L_roomAfter ks_L_roomAfter kn_L kM_L_263 (by decide +kernel) ⟨Nat.le_trans (Nat.le_of_ble_eq_true rfl) hRf, Nat.le_trans (Nat.le_of_ble_eq_true rfl) hRl⟩ rfl hl.1 (Nat.zero_le _) rfl dL_law_2318 hcs (fun H locs hP hV => ?_)
  refine lv_istore (lv' := [(5, .int (μ' 0 29)), (4, .int (nI i)), (0, .ref b), (1, .ref (ad 48)), (2, .ref (ad 52)), (3, .ref (ad 51))]) hx hb dL_law_2321 hl (by decide) rfl (fun ls hl => ?_)
  refine lv_aload_n hx hb dL_law_2323 rfl (lv_at hl 4 rfl) ?_
  refine g_arg hx hb hX hbl hbA hV (lv_at hl 2 rfl) (lv_at hl 1 rfl) 1 (by omega) hL rfl dL_law_2324 dL_law_2325 dL_law_2327 dL_law_2328 dL_law_2329 ?_
  refine g_arg hx hb hX hbl hbA hV (lv_at hl 2 rfl) (lv_at hl 1 rfl) 2 (by omega) hL rfl dL_law_2330 dL_law_2331 dL_law_2333 dL_law_2334 dL_law_2335 ?_
  refine g_cVi (k0 := 0) (b := ad 52) (τ := (mgM μ' (mgZ (rY τ' ρ ex v) ρ))) (σc := sh2 ρ) (As := [.int (xs (i + 1)), .int (xs (i + 2))]) ⟨⟨hx, hb, hml, hown, hB⟩, hK, hi, hA, hAd, hP, hV⟩ sub_ZM (c_X6_roomAfter (inj77M hi) hm1) (fun k _ => (congrFun (sh2_Z (rY τ' ρ ex v) ρ) k).symm) cal_X6_roomAfter kM_L_265 ⟨Nat.le_trans (Nat.le_of_ble_eq_true rfl) hRf, Nat.le_trans (Nat.le_of_ble_eq_true rfl) hRl⟩ (by decide) rfl rfl rfl rfl hl.1 (Nat.zero_le _) rfl dL_law_2336 hcs (mgM_1 _ _) (mgM_2 _ _) (fun H locs hP hV => ?_)
  refine lv_istore (lv' := [(6, .int bb), (5, .int (μ' 0 29)), (4, .int (nI i)), (0, .ref b), (1, .ref (ad 48)), (2, .ref (ad 52)), (3, .ref (ad 51))]) hx hb dL_law_2339 hl (by decide) rfl (fun ls hl => ?_)
  refine lv_aload_n hx hb dL_law_2341 rfl (lv_at hl 5 rfl) ?_
  refine g_cVi (k0 := 0) (b := ad 52) (τ := (mgM μ' (mgZ (rY τ' ρ ex v) ρ))) (σc := μ') (As := []) ⟨⟨hx, hb, hml, hown, hB⟩, hK, hi, hA, hAd, hP, hV⟩ sub_ZM (c_X6_thrown (σ := μ') (r := μ' 0 29) (inj77M hi) rfl) (fun k hk => (mgM_1 μ' _ k hk).symm) cal_X6_thrown kM_L_141 ⟨Nat.le_trans (Nat.le_of_ble_eq_true rfl) hRf, Nat.le_trans (Nat.le_of_ble_eq_true rfl) hRl⟩ (by decide) rfl rfl rfl rfl hl.1 (Nat.zero_le _) rfl dL_law_2342 hcs (mgM_1 _ _) (fun _ _ _ => rfl) (fun H locs hP hV => ?_)
  refine lv_iload hx hb dL_law_2345 (lv_at hl 1 rfl) ?_
  refine lv_icmp_eq (tgt := 2352) hx hb dL_law_2347 (by decide) (fun _ => ?_) (fun q9 => absurd rfl q9)
  refine lv_iload hx hb dL_law_2352 (lv_at hl 1 rfl) ?_
  refine lv_if_ne (tgt := 2369) hx hb dL_law_2354 (by decide) (fun _ => ?_) (fun q9 => ?_)
  · refine lv_goto (tgt := 2496) hx hb dL_law_2369 (by decide) ?_
    exact nxt _ _ _ _ _ _ hk1 (SX.putY (ρ := ρ) hS1 (rY_1 τ' ρ ex v)) hP hV (lv_sub hl [2, 3, 4, 5, 6] rfl)
  · have hov := out_v (τ' := τ') (ρ := ρ) (μ' := μ') (hag.zero ok1_0 q9)
    refine lv_aload_n hx hb dL_law_2357 rfl (lv_at hl 6 rfl) ?_
    refine lv_iconst (v := 0) hx hb dL_law_2358 (by decide) ?_
    refine g_lald hx hb hK hP 51 (by decide) EZ_o dL_law_2359 ?_
    rw [hov]
    refine lv_iload hx hb dL_law_2360 (lv_at hl 0 rfl) ?_
    refine lv_i2l hx hb dL_law_2362 rfl ?_
    refine W.lcmp hx hb dL_law_2363 ?_
    refine lv_if_eq (tgt := 2369) hx hb dL_law_2364 (by decide) (fun _ => ?_) (fun q9 => absurd (lcmp_0 _) q9)
    refine lv_goto (tgt := 2496) hx hb dL_law_2369 (by decide) ?_
    exact nxt _ _ _ _ _ _ hk1 (SX.putY (ρ := ρ) hS1 (rY_1 τ' ρ ex v)) hP hV (lv_sub hl [2, 3, 4, 5, 6] rfl)
set_option maxHeartbeats 4000000 in
set_option maxRecDepth 100000 in
theorem lc_38 {p : Program} {l : Launch} {e : Env} {R : Room} {s : State} {m : MethodId} {args : Array Value} {below : List Frame} {meth : Method} {c : Code} {H : Heap} {locs : List Loc} {cells slots : Nat} {Q : State → Prop} {ls : Array Slot} {D : va_G} {cI cJ : ClassId} {A : Nat → Prop} {ad : Nat → Nat} {ρ : Mem} {b L i k0 : Nat} {xs : Nat → Int32} {M : Nat → Mem} (C : LC p l R s m args c A b L i xs D cI cJ ad) (hS : SX k0 ρ (sh2 ρ) M) (hk : k0 < 512) (hP : va_P D vwCl (wsG 77 ad (EZ ad cI cJ) ρ) H) (hV : va_S A s.heap H locs) (hl : lv_has ls 7 [(4, .int (nI i)), (0, .ref b), (1, .ref (ad 48)), (2, .ref (ad 52)), (3, .ref (ad 51))]) (hcs : cells + 1 ≤ R.cells ∧ slots + 6 ≤ R.slots) (nxt : Nxt p l e R s m args below meth c A b i k0 D cI cJ ad cells slots Q) : W p l e R s m args below meth c H locs cells slots Q (F0 m 2372 ls []) := by
  obtain ⟨⟨hx, hb, hml, hown, hB⟩, hK, hi, hA, hAd, hZ, hN, hX, hbl, hbA, hL, hiL, hflag, hRf, hRl⟩ := C
  obtain ⟨ex, v, τ', bb, μ', k', M', hx1, hm1, hk1, hS1, hag⟩ := q_coinsAfter hS (Nat.le_of_lt hk) (xs (i + 1)) (xs (i + 2))
  refine lv_aload_n hx hb dL_law_2372 rfl (lv_at hl 2 rfl) ?_
  refine g_arg hx hb hX hbl hbA hV (lv_at hl 1 rfl) (lv_at hl 0 rfl) 1 (by omega) hL rfl dL_law_2373 dL_law_2374 dL_law_2376 dL_law_2377 dL_law_2378 ?_
  refine g_arg hx hb hX hbl hbA hV (lv_at hl 1 rfl) (lv_at hl 0 rfl) 2 (by omega) hL rfl dL_law_2379 dL_law_2380 dL_law_2382 dL_law_2383 dL_law_2384 ?_
  refine lv_aload_n hx hb dL_law_2385 rfl (lv_at hl 4 rfl) ?_
  refine g_cY (n := 4) (σr := (rY τ' ρ ex v)) (As := [.ref (ad 48), .int (xs (i + 1)), .int (xs (i + 2)), .ref (ad 51)]) ⟨⟨hx, hb, hml, hown, hB⟩, hK, hi, hA, hAd, hP, hV⟩ hZ hN (h_coinsAfter hflag (inj77 hi) hx1 hag.c (rY_1 τ' ρ ex v) (rY_2 τ' ρ ex v)) kw_L_coinsAfter ks_L_coinsAfter kn_L kM_L_266 (by decide +kernel) ⟨Nat.le_trans (Nat.le_of_ble_eq_true rfl) hRf, Nat.le_trans (Nat.le_of_ble_eq_true rfl) hRl⟩ rfl hl.1 (Nat.zero_le _) rfl dL_law_2386 hcs (fun H locs hP hV => ?_)
  refine lv_istore (lv' := [(5, .int (μ' 0 29)), (4, .int (nI i)), (0, .ref b), (1, .ref (ad 48)), (2, .ref (ad 52)), (3, .ref (ad 51))]) hx hb dL_law_2389 hl (by decide) rfl (fun ls hl => ?_)
  refine lv_aload_n hx hb dL_law_2391 rfl (lv_at hl 4 rfl) ?_
  refine g_arg hx hb hX hbl hbA hV (lv_at hl 2 rfl) (lv_at hl 1 rfl) 1 (by omega) hL rfl dL_law_2392 dL_law_2393 dL_law_2395 dL_law_2396 dL_law_2397 ?_
  refine g_arg hx hb hX hbl hbA hV (lv_at hl 2 rfl) (lv_at hl 1 rfl) 2 (by omega) hL rfl dL_law_2398 dL_law_2399 dL_law_2401 dL_law_2402 dL_law_2403 ?_
  refine g_cVi (k0 := 0) (b := ad 52) (τ := (mgM μ' (mgZ (rY τ' ρ ex v) ρ))) (σc := sh2 ρ) (As := [.int (xs (i + 1)), .int (xs (i + 2))]) ⟨⟨hx, hb, hml, hown, hB⟩, hK, hi, hA, hAd, hP, hV⟩ sub_ZM (c_X6_coinsAfter (inj77M hi) hm1) (fun k _ => (congrFun (sh2_Z (rY τ' ρ ex v) ρ) k).symm) cal_X6_coinsAfter kM_L_268 ⟨Nat.le_trans (Nat.le_of_ble_eq_true rfl) hRf, Nat.le_trans (Nat.le_of_ble_eq_true rfl) hRl⟩ (by decide) rfl rfl rfl rfl hl.1 (Nat.zero_le _) rfl dL_law_2404 hcs (mgM_1 _ _) (mgM_2 _ _) (fun H locs hP hV => ?_)
  refine lv_istore (lv' := [(6, .int bb), (5, .int (μ' 0 29)), (4, .int (nI i)), (0, .ref b), (1, .ref (ad 48)), (2, .ref (ad 52)), (3, .ref (ad 51))]) hx hb dL_law_2407 hl (by decide) rfl (fun ls hl => ?_)
  refine lv_aload_n hx hb dL_law_2409 rfl (lv_at hl 5 rfl) ?_
  refine g_cVi (k0 := 0) (b := ad 52) (τ := (mgM μ' (mgZ (rY τ' ρ ex v) ρ))) (σc := μ') (As := []) ⟨⟨hx, hb, hml, hown, hB⟩, hK, hi, hA, hAd, hP, hV⟩ sub_ZM (c_X6_thrown (σ := μ') (r := μ' 0 29) (inj77M hi) rfl) (fun k hk => (mgM_1 μ' _ k hk).symm) cal_X6_thrown kM_L_141 ⟨Nat.le_trans (Nat.le_of_ble_eq_true rfl) hRf, Nat.le_trans (Nat.le_of_ble_eq_true rfl) hRl⟩ (by decide) rfl rfl rfl rfl hl.1 (Nat.zero_le _) rfl dL_law_2410 hcs (mgM_1 _ _) (fun _ _ _ => rfl) (fun H locs hP hV => ?_)
  refine lv_iload hx hb dL_law_2413 (lv_at hl 1 rfl) ?_
  refine lv_icmp_eq (tgt := 2420) hx hb dL_law_2415 (by decide) (fun _ => ?_) (fun q9 => absurd rfl q9)
  refine lv_iload hx hb dL_law_2420 (lv_at hl 1 rfl) ?_
  refine lv_if_ne (tgt := 2437) hx hb dL_law_2422 (by decide) (fun _ => ?_) (fun q9 => ?_)
  · refine lv_goto (tgt := 2496) hx hb dL_law_2437 (by decide) ?_
    exact nxt _ _ _ _ _ _ hk1 (SX.putY (ρ := ρ) hS1 (rY_1 τ' ρ ex v)) hP hV (lv_sub hl [2, 3, 4, 5, 6] rfl)
  · have hov := out_v (τ' := τ') (ρ := ρ) (μ' := μ') (hag.zero ok1_0 q9)
    refine lv_aload_n hx hb dL_law_2425 rfl (lv_at hl 6 rfl) ?_
    refine lv_iconst (v := 0) hx hb dL_law_2426 (by decide) ?_
    refine g_lald hx hb hK hP 51 (by decide) EZ_o dL_law_2427 ?_
    rw [hov]
    refine lv_iload hx hb dL_law_2428 (lv_at hl 0 rfl) ?_
    refine lv_i2l hx hb dL_law_2430 rfl ?_
    refine W.lcmp hx hb dL_law_2431 ?_
    refine lv_if_eq (tgt := 2437) hx hb dL_law_2432 (by decide) (fun _ => ?_) (fun q9 => absurd (lcmp_0 _) q9)
    refine lv_goto (tgt := 2496) hx hb dL_law_2437 (by decide) ?_
    exact nxt _ _ _ _ _ _ hk1 (SX.putY (ρ := ρ) hS1 (rY_1 τ' ρ ex v)) hP hV (lv_sub hl [2, 3, 4, 5, 6] rfl)
set_option maxHeartbeats 4000000 in
set_option maxRecDepth 100000 in
theorem lc_39 {p : Program} {l : Launch} {e : Env} {R : Room} {s : State} {m : MethodId} {args : Array Value} {below : List Frame} {meth : Method} {c : Code} {H : Heap} {locs : List Loc} {cells slots : Nat} {Q : State → Prop} {ls : Array Slot} {D : va_G} {cI cJ : ClassId} {A : Nat → Prop} {ad : Nat → Nat} {ρ : Mem} {b L i k0 : Nat} {xs : Nat → Int32} {M : Nat → Mem} (C : LC p l R s m args c A b L i xs D cI cJ ad) (hS : SX k0 ρ (sh2 ρ) M) (hk : k0 < 512) (hP : va_P D vwCl (wsG 77 ad (EZ ad cI cJ) ρ) H) (hV : va_S A s.heap H locs) (hl : lv_has ls 7 [(4, .int (nI i)), (0, .ref b), (1, .ref (ad 48)), (2, .ref (ad 52)), (3, .ref (ad 51))]) (hcs : cells + 1 ≤ R.cells ∧ slots + 6 ≤ R.slots) (nxt : Nxt p l e R s m args below meth c A b i k0 D cI cJ ad cells slots Q) : W p l e R s m args below meth c H locs cells slots Q (F0 m 2440 ls []) := by
  obtain ⟨⟨hx, hb, hml, hown, hB⟩, hK, hi, hA, hAd, hZ, hN, hX, hbl, hbA, hL, hiL, hflag, hRf, hRl⟩ := C
  obtain ⟨ex, v, τ', bb, μ', k', M', hx1, hm1, hk1, hS1, hag⟩ := q_turnAfter hS (Nat.le_of_lt hk) (xs (i + 1))
  refine lv_aload_n hx hb dL_law_2440 rfl (lv_at hl 2 rfl) ?_
  refine g_arg hx hb hX hbl hbA hV (lv_at hl 1 rfl) (lv_at hl 0 rfl) 1 (by omega) hL rfl dL_law_2441 dL_law_2442 dL_law_2444 dL_law_2445 dL_law_2446 ?_
  refine lv_aload_n hx hb dL_law_2447 rfl (lv_at hl 4 rfl) ?_
  refine g_cY (n := 3) (σr := (rY τ' ρ ex v)) (As := [.ref (ad 48), .int (xs (i + 1)), .ref (ad 51)]) ⟨⟨hx, hb, hml, hown, hB⟩, hK, hi, hA, hAd, hP, hV⟩ hZ hN (h_turnAfter hflag (inj77 hi) hx1 hag.c (rY_1 τ' ρ ex v) (rY_2 τ' ρ ex v)) kw_L_turnAfter ks_L_turnAfter kn_L kM_L_269 (by decide +kernel) ⟨Nat.le_trans (Nat.le_of_ble_eq_true rfl) hRf, Nat.le_trans (Nat.le_of_ble_eq_true rfl) hRl⟩ rfl hl.1 (Nat.zero_le _) rfl dL_law_2448 hcs (fun H locs hP hV => ?_)
  refine lv_istore (lv' := [(5, .int (μ' 0 29)), (4, .int (nI i)), (0, .ref b), (1, .ref (ad 48)), (2, .ref (ad 52)), (3, .ref (ad 51))]) hx hb dL_law_2451 hl (by decide) rfl (fun ls hl => ?_)
  refine lv_aload_n hx hb dL_law_2453 rfl (lv_at hl 4 rfl) ?_
  refine g_arg hx hb hX hbl hbA hV (lv_at hl 2 rfl) (lv_at hl 1 rfl) 1 (by omega) hL rfl dL_law_2454 dL_law_2455 dL_law_2457 dL_law_2458 dL_law_2459 ?_
  refine g_cVi (k0 := 0) (b := ad 52) (τ := (mgM μ' (mgZ (rY τ' ρ ex v) ρ))) (σc := sh2 ρ) (As := [.int (xs (i + 1))]) ⟨⟨hx, hb, hml, hown, hB⟩, hK, hi, hA, hAd, hP, hV⟩ sub_ZM (c_X6_turnAfter (inj77M hi) hm1) (fun k _ => (congrFun (sh2_Z (rY τ' ρ ex v) ρ) k).symm) cal_X6_turnAfter kM_L_271 ⟨Nat.le_trans (Nat.le_of_ble_eq_true rfl) hRf, Nat.le_trans (Nat.le_of_ble_eq_true rfl) hRl⟩ (by decide) rfl rfl rfl rfl hl.1 (Nat.zero_le _) rfl dL_law_2460 hcs (mgM_1 _ _) (mgM_2 _ _) (fun H locs hP hV => ?_)
  refine lv_istore (lv' := [(6, .int bb), (5, .int (μ' 0 29)), (4, .int (nI i)), (0, .ref b), (1, .ref (ad 48)), (2, .ref (ad 52)), (3, .ref (ad 51))]) hx hb dL_law_2463 hl (by decide) rfl (fun ls hl => ?_)
  refine lv_aload_n hx hb dL_law_2465 rfl (lv_at hl 5 rfl) ?_
  refine g_cVi (k0 := 0) (b := ad 52) (τ := (mgM μ' (mgZ (rY τ' ρ ex v) ρ))) (σc := μ') (As := []) ⟨⟨hx, hb, hml, hown, hB⟩, hK, hi, hA, hAd, hP, hV⟩ sub_ZM (c_X6_thrown (σ := μ') (r := μ' 0 29) (inj77M hi) rfl) (fun k hk => (mgM_1 μ' _ k hk).symm) cal_X6_thrown kM_L_141 ⟨Nat.le_trans (Nat.le_of_ble_eq_true rfl) hRf, Nat.le_trans (Nat.le_of_ble_eq_true rfl) hRl⟩ (by decide) rfl rfl rfl rfl hl.1 (Nat.zero_le _) rfl dL_law_2466 hcs (mgM_1 _ _) (fun _ _ _ => rfl) (fun H locs hP hV => ?_)
  refine lv_iload hx hb dL_law_2469 (lv_at hl 1 rfl) ?_
  refine lv_icmp_eq (tgt := 2476) hx hb dL_law_2471 (by decide) (fun _ => ?_) (fun q9 => absurd rfl q9)
  refine lv_iload hx hb dL_law_2476 (lv_at hl 1 rfl) ?_
  refine lv_if_ne (tgt := 2493) hx hb dL_law_2478 (by decide) (fun _ => ?_) (fun q9 => ?_)
  · refine lv_goto (tgt := 2496) hx hb dL_law_2493 (by decide) ?_
    exact nxt _ _ _ _ _ _ hk1 (SX.putY (ρ := ρ) hS1 (rY_1 τ' ρ ex v)) hP hV (lv_sub hl [2, 3, 4, 5, 6] rfl)
  · have hov := out_v (τ' := τ') (ρ := ρ) (μ' := μ') (hag.zero ok1_0 q9)
    refine lv_aload_n hx hb dL_law_2481 rfl (lv_at hl 6 rfl) ?_
    refine lv_iconst (v := 0) hx hb dL_law_2482 (by decide) ?_
    refine g_lald hx hb hK hP 51 (by decide) EZ_o dL_law_2483 ?_
    rw [hov]
    refine lv_iload hx hb dL_law_2484 (lv_at hl 0 rfl) ?_
    refine lv_i2l hx hb dL_law_2486 rfl ?_
    refine W.lcmp hx hb dL_law_2487 ?_
    refine lv_if_eq (tgt := 2493) hx hb dL_law_2488 (by decide) (fun _ => ?_) (fun q9 => absurd (lcmp_0 _) q9)
    refine lv_goto (tgt := 2496) hx hb dL_law_2493 (by decide) ?_
    exact nxt _ _ _ _ _ _ hk1 (SX.putY (ρ := ρ) hS1 (rY_1 τ' ρ ex v)) hP hV (lv_sub hl [2, 3, 4, 5, 6] rfl)
