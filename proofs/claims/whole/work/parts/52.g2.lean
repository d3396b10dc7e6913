theorem inj51 {ad : Nat → Nat} (hi : injG 52 ad) : injG 51 ad := fun i j h1 h2 e => hi i j (by omega) (by omega) e
def tY (τ' σ : Mem) : Mem := fun k => if k < 51 then τ' k else σ k
theorem tY_1 (τ' σ : Mem) : ∀ k : Nat, k < 51 → tY τ' σ k = τ' k := fun k h => if_pos h
theorem tY_2 (τ' σ : Mem) : ∀ j : Nat, j < 52 → (∀ k : Nat, k < 51 → k ≠ j) → tY τ' σ j = σ j := fun j _ h => if_neg fun q => h j q rfl
theorem yk_not {τ' σ σr : Mem} (h1 : ∀ k, k < 51 → σr k = τ' k) (h2 : σr 51 = σ 51) : ∀ k, k < 52 → tY τ' σ k = σr k := fun k hk => by
  unfold tY
  by_cases h : k < 51
  · rw [if_pos h, h1 k h]
  · have : k = 51 := by omega
    subst this
    rw [if_neg h, h2]
theorem yk_out {τ' σ σr : Mem} {v : Int32} (h1 : ∀ k, k < 51 → σr k = τ' k) (h2 : σr 51 = upd (σ 51) 0 v) : ∀ k, k < 52 → mu (tY τ' σ) 51 0 v k = σr k := fun k hk => by
  by_cases h : k < 51
  · rw [mu_n (by omega), tY_1 _ _ k h, h1 k h]
  · have : k = 51 := by omega
    subst this
    rw [mu_s, h2]; rfl
theorem kw_L_link : Cond.codeWith yL_link cL_link 5 (some .int) [(0, 7, 10, 13), (0, 7, 14, 15), (0, 7, 18, 17)] ∈ BIG := mem_BIG 272 (by decide +kernel) (by decide +kernel)
theorem ks_L_link : Cond.static yL_link ∈ BIG := mem_BIG 271 (by decide +kernel) (by decide +kernel)
set_option maxHeartbeats 4000000 in
set_option maxRecDepth 100000 in
theorem h_link {l : Launch} {D : va_G} {cI cJ : ClassId} {ad : Nat → Nat} {σ σr τ' : Mem} {a0 a1 a2 v t : Int32} {ex : Nat} (hflag : l.stackTraces = false) (hi : injG 52 ad) (hf : f_X5_link σ a0 a1 a2 = some (ex, v, τ')) (ht : (ex = 0 ∧ t = 0) ∨ (ex = 1 ∧ t = 1) ∨ (ex = 2 ∧ t = 2) ∨ (ex = 3 ∧ t = 3)) (h1 : ∀ k, k < 51 → σr k = τ' k) (h2 : σr 51 = σ 51) : MGy l yL_link cL_link 5 [(0, 7, 10, 13), (0, 7, 14, 15), (0, 7, 18, 17)] 8 177 D cI cJ ad [.ref (ad 48), .int a0, .int a1, .int a2] σ σr t := by
  refine MGy.ofW (by decide) hi ?_
  intro p e s m args below meth c hx hb hr hml hlocks hT hown hB hK hZ hN hP hA hAd hS
  have hown : s.vm.findClass RL = some m.cls := hown
  have hl := lv_entry ([.ref (ad 48), .int a0, .int a1, .int a2] : List Value) (n := 5) (Nat.le_of_ble_eq_true rfl)
  rw [lg_entry_eq]
  generalize (lg_sl ([.ref (ad 48), .int a0, .int a1, .int a2] : List Value) ++ List.replicate (5 - (lg_sl ([.ref (ad 48), .int a0, .int a1, .int a2] : List Value)).length) Slot.unset).toArray = ls at hl ⊢
  have hl : lv_has ls 5 [(0, .ref (ad 48)), (1, .int a0), (2, .int a1), (3, .int a2)] := hl
  refine lv_aload_n hx hb dL_link_0 rfl (lv_at hl 0 rfl) ?_
  refine lv_iload_n hx hb dL_link_1 rfl (lv_at hl 1 rfl) ?_
  refine lv_iload_n hx hb dL_link_2 rfl (lv_at hl 2 rfl) ?_
  refine lv_iload_n hx hb dL_link_3 rfl (lv_at hl 3 rfl) ?_
  rcases ht with ⟨rfl, rfl⟩ | ⟨rfl, rfl⟩ | ⟨rfl, rfl⟩ | ⟨rfl, rfl⟩
  · refine g_xVvG (k0 := 48) (τ := tY τ' σ) ⟨⟨hx, hb, hml, hown, hB⟩, hK, hi, hA, hAd, hP, hS⟩ hZ sub_Y (c_X5_link hflag (inj51 hi) hf) (fun _ _ => rfl) cal_X5_link kM_L_7 ⟨Nat.le_of_ble_eq_true rfl, Nat.le_of_ble_eq_true rfl⟩ (by decide) rfl rfl rfl rfl hl.1 (Nat.le_of_ble_eq_true rfl) rfl dL_link_4 (tY_1 _ _) (tY_2 _ _) (fun H locs hP hS => ?_)
    refine W.widen (k := 1) (n := 6) (by omega) (by omega) ?_
    refine lv_goto (tgt := 22) hx hb dL_link_7 (by decide) ?_
    refine lv_iconst (v := 0) hx hb dL_link_22 (by decide) ?_
    exact g_iretY hx hb hr hlocks hP hS rfl (yk_not h1 h2) dL_link_23
  · refine g_xVxG (k0 := 48) (τ := tY τ' σ) ⟨⟨hx, hb, hml, hown, hB⟩, hK, hi, hA, hAd, hP, hS⟩ hZ sub_Y (c_X5_link hflag (inj51 hi) hf) (by decide) (fun _ _ => rfl) cal_X5_link kM_L_7 ⟨Nat.le_of_ble_eq_true rfl, Nat.le_of_ble_eq_true rfl⟩ (by decide) rfl rfl rfl rfl hl.1 (Nat.le_of_ble_eq_true rfl) rfl dL_link_4 ⟨Nat.le_of_ble_eq_true rfl, Nat.le_of_ble_eq_true rfl⟩ (tY_1 _ _) (tY_2 _ _) (fun q9 ce H locs hP hS hc1 hc2 hc3 => ?_)
    refine g_catch hown hB hK hN hT (by decide) (by decide) [] 7 10 [(0, 7, 14, 15), (0, 7, 18, 17)] rfl (fun z hz => absurd hz List.not_mem_nil) (by decide) hc1 hc2 hc3 ?_
    refine lv_astore (lv' := [(4, .ref q9), (0, .ref (ad 48)), (1, .int a0), (2, .int a1), (3, .int a2)]) hx hb dL_link_10 hl (by decide) rfl (fun ls hl => ?_)
    refine lv_iconst (v := 1) hx hb dL_link_12 (by decide) ?_
    exact g_iretY hx hb hr hlocks hP hS rfl (yk_not h1 h2) dL_link_13
  · refine g_xVxG (k0 := 48) (τ := tY τ' σ) ⟨⟨hx, hb, hml, hown, hB⟩, hK, hi, hA, hAd, hP, hS⟩ hZ sub_Y (c_X5_link hflag (inj51 hi) hf) (by decide) (fun _ _ => rfl) cal_X5_link kM_L_7 ⟨Nat.le_of_ble_eq_true rfl, Nat.le_of_ble_eq_true rfl⟩ (by decide) rfl rfl rfl rfl hl.1 (Nat.le_of_ble_eq_true rfl) rfl dL_link_4 ⟨Nat.le_of_ble_eq_true rfl, Nat.le_of_ble_eq_true rfl⟩ (tY_1 _ _) (tY_2 _ _) (fun q9 ce H locs hP hS hc1 hc2 hc3 => ?_)
    refine g_catch hown hB hK hN hT (by decide) (by decide) [(0, 7, 10, 13)] 7 14 [(0, 7, 18, 17)] rfl (fun z hz => by simp only [List.mem_cons, List.not_mem_nil, or_false] at hz; rcases hz with rfl <;> first | exact ⟨1, by decide, by decide, by decide, rfl⟩) (by decide) hc1 hc2 hc3 ?_
    refine lv_astore (lv' := [(4, .ref q9), (0, .ref (ad 48)), (1, .int a0), (2, .int a1), (3, .int a2)]) hx hb dL_link_14 hl (by decide) rfl (fun ls hl => ?_)
    refine lv_iconst (v := 2) hx hb dL_link_16 (by decide) ?_
    exact g_iretY hx hb hr hlocks hP hS rfl (yk_not h1 h2) dL_link_17
  · refine g_xVxG (k0 := 48) (τ := tY τ' σ) ⟨⟨hx, hb, hml, hown, hB⟩, hK, hi, hA, hAd, hP, hS⟩ hZ sub_Y (c_X5_link hflag (inj51 hi) hf) (by decide) (fun _ _ => rfl) cal_X5_link kM_L_7 ⟨Nat.le_of_ble_eq_true rfl, Nat.le_of_ble_eq_true rfl⟩ (by decide) rfl rfl rfl rfl hl.1 (Nat.le_of_ble_eq_true rfl) rfl dL_link_4 ⟨Nat.le_of_ble_eq_true rfl, Nat.le_of_ble_eq_true rfl⟩ (tY_1 _ _) (tY_2 _ _) (fun q9 ce H locs hP hS hc1 hc2 hc3 => ?_)
    refine g_catch hown hB hK hN hT (by decide) (by decide) [(0, 7, 10, 13), (0, 7, 14, 15)] 7 18 [] rfl (fun z hz => by simp only [List.mem_cons, List.not_mem_nil, or_false] at hz; rcases hz with rfl | rfl <;> first | exact ⟨1, by decide, by decide, by decide, rfl⟩ | exact ⟨2, by decide, by decide, by decide, rfl⟩) (by decide) hc1 hc2 hc3 ?_
    refine lv_astore (lv' := [(4, .ref q9), (0, .ref (ad 48)), (1, .int a0), (2, .int a1), (3, .int a2)]) hx hb dL_link_18 hl (by decide) rfl (fun ls hl => ?_)
    refine lv_iconst (v := 3) hx hb dL_link_20 (by decide) ?_
    exact g_iretY hx hb hr hlocks hP hS rfl (yk_not h1 h2) dL_link_21
theorem kw_L_shop : Cond.codeWith yL_shop cL_shop 4 (some .int) [(0, 6, 9, 13), (0, 6, 12, 15), (0, 6, 15, 17)] ∈ BIG := mem_BIG 521 (by decide +kernel) (by decide +kernel)
theorem ks_L_shop : Cond.static yL_shop ∈ BIG := mem_BIG 520 (by decide +kernel) (by decide +kernel)
set_option maxHeartbeats 4000000 in
set_option maxRecDepth 100000 in
theorem h_shop {l : Launch} {D : va_G} {cI cJ : ClassId} {ad : Nat → Nat} {σ σr τ' : Mem} {a0 a1 v t : Int32} {ex : Nat} (hflag : l.stackTraces = false) (hi : injG 52 ad) (hf : f_X5_shop σ a0 a1 = some (ex, v, τ')) (ht : (ex = 0 ∧ t = 0) ∨ (ex = 1 ∧ t = 1) ∨ (ex = 2 ∧ t = 2) ∨ (ex = 3 ∧ t = 3)) (h1 : ∀ k, k < 51 → σr k = τ' k) (h2 : σr 51 = σ 51) : MGy l yL_shop cL_shop 4 [(0, 6, 9, 13), (0, 6, 12, 15), (0, 6, 15, 17)] 8 176 D cI cJ ad [.ref (ad 48), .int a0, .int a1] σ σr t := by
  refine MGy.ofW (by decide) hi ?_
  intro p e s m args below meth c hx hb hr hml hlocks hT hown hB hK hZ hN hP hA hAd hS
  have hown : s.vm.findClass RL = some m.cls := hown
  have hl := lv_entry ([.ref (ad 48), .int a0, .int a1] : List Value) (n := 4) (Nat.le_of_ble_eq_true rfl)
  rw [lg_entry_eq]
  generalize (lg_sl ([.ref (ad 48), .int a0, .int a1] : List Value) ++ List.replicate (4 - (lg_sl ([.ref (ad 48), .int a0, .int a1] : List Value)).length) Slot.unset).toArray = ls at hl ⊢
  have hl : lv_has ls 4 [(0, .ref (ad 48)), (1, .int a0), (2, .int a1)] := hl
  refine lv_aload_n hx hb dL_shop_0 rfl (lv_at hl 0 rfl) ?_
  refine lv_iload_n hx hb dL_shop_1 rfl (lv_at hl 1 rfl) ?_
  refine lv_iload_n hx hb dL_shop_2 rfl (lv_at hl 2 rfl) ?_
  rcases ht with ⟨rfl, rfl⟩ | ⟨rfl, rfl⟩ | ⟨rfl, rfl⟩ | ⟨rfl, rfl⟩
  · refine g_xVvG (k0 := 48) (τ := tY τ' σ) ⟨⟨hx, hb, hml, hown, hB⟩, hK, hi, hA, hAd, hP, hS⟩ hZ sub_Y (c_X5_shop hflag (inj51 hi) hf) (fun _ _ => rfl) cal_X5_shop kM_L_19 ⟨Nat.le_of_ble_eq_true rfl, Nat.le_of_ble_eq_true rfl⟩ (by decide) rfl rfl rfl rfl hl.1 (Nat.le_of_ble_eq_true rfl) rfl dL_shop_3 (tY_1 _ _) (tY_2 _ _) (fun H locs hP hS => ?_)
    refine W.widen (k := 1) (n := 6) (by omega) (by omega) ?_
    refine lv_goto (tgt := 18) hx hb dL_shop_6 (by decide) ?_
    refine lv_iconst (v := 0) hx hb dL_shop_18 (by decide) ?_
    exact g_iretY hx hb hr hlocks hP hS rfl (yk_not h1 h2) dL_shop_19
  · refine g_xVxG (k0 := 48) (τ := tY τ' σ) ⟨⟨hx, hb, hml, hown, hB⟩, hK, hi, hA, hAd, hP, hS⟩ hZ sub_Y (c_X5_shop hflag (inj51 hi) hf) (by decide) (fun _ _ => rfl) cal_X5_shop kM_L_19 ⟨Nat.le_of_ble_eq_true rfl, Nat.le_of_ble_eq_true rfl⟩ (by decide) rfl rfl rfl rfl hl.1 (Nat.le_of_ble_eq_true rfl) rfl dL_shop_3 ⟨Nat.le_of_ble_eq_true rfl, Nat.le_of_ble_eq_true rfl⟩ (tY_1 _ _) (tY_2 _ _) (fun q9 ce H locs hP hS hc1 hc2 hc3 => ?_)
    refine g_catch hown hB hK hN hT (by decide) (by decide) [] 6 9 [(0, 6, 12, 15), (0, 6, 15, 17)] rfl (fun z hz => absurd hz List.not_mem_nil) (by decide) hc1 hc2 hc3 ?_
    refine lv_astore_n (lv' := [(3, .ref q9), (0, .ref (ad 48)), (1, .int a0), (2, .int a1)]) hx hb dL_shop_9 rfl hl (by decide) rfl (fun ls hl => ?_)
    refine lv_iconst (v := 1) hx hb dL_shop_10 (by decide) ?_
    exact g_iretY hx hb hr hlocks hP hS rfl (yk_not h1 h2) dL_shop_11
  · refine g_xVxG (k0 := 48) (τ := tY τ' σ) ⟨⟨hx, hb, hml, hown, hB⟩, hK, hi, hA, hAd, hP, hS⟩ hZ sub_Y (c_X5_shop hflag (inj51 hi) hf) (by decide) (fun _ _ => rfl) cal_X5_shop kM_L_19 ⟨Nat.le_of_ble_eq_true rfl, Nat.le_of_ble_eq_true rfl⟩ (by decide) rfl rfl rfl rfl hl.1 (Nat.le_of_ble_eq_true rfl) rfl dL_shop_3 ⟨Nat.le_of_ble_eq_true rfl, Nat.le_of_ble_eq_true rfl⟩ (tY_1 _ _) (tY_2 _ _) (fun q9 ce H locs hP hS hc1 hc2 hc3 => ?_)
    refine g_catch hown hB hK hN hT (by decide) (by decide) [(0, 6, 9, 13)] 6 12 [(0, 6, 15, 17)] rfl (fun z hz => by simp only [List.mem_cons, List.not_mem_nil, or_false] at hz; rcases hz with rfl <;> first | exact ⟨1, by decide, by decide, by decide, rfl⟩) (by decide) hc1 hc2 hc3 ?_
    refine lv_astore_n (lv' := [(3, .ref q9), (0, .ref (ad 48)), (1, .int a0), (2, .int a1)]) hx hb dL_shop_12 rfl hl (by decide) rfl (fun ls hl => ?_)
    refine lv_iconst (v := 2) hx hb dL_shop_13 (by decide) ?_
    exact g_iretY hx hb hr hlocks hP hS rfl (yk_not h1 h2) dL_shop_14
  · refine g_xVxG (k0 := 48) (τ := tY τ' σ) ⟨⟨hx, hb, hml, hown, hB⟩, hK, hi, hA, hAd, hP, hS⟩ hZ sub_Y (c_X5_shop hflag (inj51 hi) hf) (by decide) (fun _ _ => rfl) cal_X5_shop kM_L_19 ⟨Nat.le_of_ble_eq_true rfl, Nat.le_of_ble_eq_true rfl⟩ (by decide) rfl rfl rfl rfl hl.1 (Nat.le_of_ble_eq_true rfl) rfl dL_shop_3 ⟨Nat.le_of_ble_eq_true rfl, Nat.le_of_ble_eq_true rfl⟩ (tY_1 _ _) (tY_2 _ _) (fun q9 ce H locs hP hS hc1 hc2 hc3 => ?_)
    refine g_catch hown hB hK hN hT (by decide) (by decide) [(0, 6, 9, 13), (0, 6, 12, 15)] 6 15 [] rfl (fun z hz => by simp only [List.mem_cons, List.not_mem_nil, or_false] at hz; rcases hz with rfl | rfl <;> first | exact ⟨1, by decide, by decide, by decide, rfl⟩ | exact ⟨2, by decide, by decide, by decide, rfl⟩) (by decide) hc1 hc2 hc3 ?_
    refine lv_astore_n (lv' := [(3, .ref q9), (0, .ref (ad 48)), (1, .int a0), (2, .int a1)]) hx hb dL_shop_15 rfl hl (by decide) rfl (fun ls hl => ?_)
    refine lv_iconst (v := 3) hx hb dL_shop_16 (by decide) ?_
    exact g_iretY hx hb hr hlocks hP hS rfl (yk_not h1 h2) dL_shop_17
theorem kw_L_stock : Cond.codeWith yL_stock cL_stock 7 (some .int) [(0, 14, 17, 13), (0, 14, 21, 15), (0, 14, 25, 17)] ∈ BIG := mem_BIG 534 (by decide +kernel) (by decide +kernel)
theorem ks_L_stock : Cond.static yL_stock ∈ BIG := mem_BIG 533 (by decide +kernel) (by decide +kernel)
set_option maxHeartbeats 4000000 in
set_option maxRecDepth 100000 in
theorem h_stock {l : Launch} {D : va_G} {cI cJ : ClassId} {ad : Nat → Nat} {σ σr τ' : Mem} {a0 a1 a2 a3 v t : Int32} {ex : Nat} (hflag : l.stackTraces = false) (hi : injG 52 ad) (hf : f_X5_stock σ a0 a1 a2 a3 = some (ex, v, τ')) (ht : (ex = 0 ∧ t = 0) ∨ (ex = 1 ∧ t = 1) ∨ (ex = 2 ∧ t = 2) ∨ (ex = 3 ∧ t = 3)) (h1 : ∀ k, k < 51 → σr k = τ' k) (h2 : σr 51 = if ex = 0 then upd (σ 51) 0 v else σ 51) : MGy l yL_stock cL_stock 7 [(0, 14, 17, 13), (0, 14, 21, 15), (0, 14, 25, 17)] 8 178 D cI cJ ad [.ref (ad 48), .int a0, .int a1, .int a2, .int a3, .ref (ad 51)] σ σr t := by
  refine MGy.ofW (by decide) hi ?_
  intro p e s m args below meth c hx hb hr hml hlocks hT hown hB hK hZ hN hP hA hAd hS
  have hown : s.vm.findClass RL = some m.cls := hown
  have hl := lv_entry ([.ref (ad 48), .int a0, .int a1, .int a2, .int a3, .ref (ad 51)] : List Value) (n := 7) (Nat.le_of_ble_eq_true rfl)
  rw [lg_entry_eq]
  generalize (lg_sl ([.ref (ad 48), .int a0, .int a1, .int a2, .int a3, .ref (ad 51)] : List Value) ++ List.replicate (7 - (lg_sl ([.ref (ad 48), .int a0, .int a1, .int a2, .int a3, .ref (ad 51)] : List Value)).length) Slot.unset).toArray = ls at hl ⊢
  have hl : lv_has ls 7 [(0, .ref (ad 48)), (1, .int a0), (2, .int a1), (3, .int a2), (4, .int a3), (5, .ref (ad 51))] := hl
  refine lv_aload hx hb dL_stock_0 (lv_at hl 5 rfl) ?_
  refine lv_iconst (v := 0) hx hb dL_stock_2 (by decide) ?_
  refine lv_aload_n hx hb dL_stock_3 rfl (lv_at hl 0 rfl) ?_
  refine lv_iload_n hx hb dL_stock_4 rfl (lv_at hl 1 rfl) ?_
  refine lv_iload_n hx hb dL_stock_5 rfl (lv_at hl 2 rfl) ?_
  refine lv_iload_n hx hb dL_stock_6 rfl (lv_at hl 3 rfl) ?_
  refine lv_iload hx hb dL_stock_7 (lv_at hl 4 rfl) ?_
  rcases ht with ⟨rfl, rfl⟩ | ⟨rfl, rfl⟩ | ⟨rfl, rfl⟩ | ⟨rfl, rfl⟩
  · refine g_xViG (k0 := 48) (τ := tY τ' σ) ⟨⟨hx, hb, hml, hown, hB⟩, hK, hi, hA, hAd, hP, hS⟩ hZ sub_Y (c_X5_stock hflag (inj51 hi) hf) (fun _ _ => rfl) cal_X5_stock kM_L_23 ⟨Nat.le_of_ble_eq_true rfl, Nat.le_of_ble_eq_true rfl⟩ (by decide) rfl rfl rfl rfl hl.1 (Nat.le_of_ble_eq_true rfl) rfl dL_stock_9 (tY_1 _ _) (tY_2 _ _) (fun H locs hP hS => ?_)
    refine W.widen (k := 1) (n := 6) (by omega) (by omega) ?_
    refine lv_i2l hx hb dL_stock_12 rfl ?_
    refine g_last hx hb hK hP hi hAd hS 51 (by decide) EY_o dL_stock_13 (fun H locs hP hS => ?_)
    refine lv_goto (tgt := 29) hx hb dL_stock_14 (by decide) ?_
    refine lv_iconst (v := 0) hx hb dL_stock_29 (by decide) ?_
    exact g_iretY hx hb hr hlocks hP hS rfl (yk_out h1 h2) dL_stock_30
  · refine g_xVxG (k0 := 48) (τ := tY τ' σ) ⟨⟨hx, hb, hml, hown, hB⟩, hK, hi, hA, hAd, hP, hS⟩ hZ sub_Y (c_X5_stock hflag (inj51 hi) hf) (by decide) (fun _ _ => rfl) cal_X5_stock kM_L_23 ⟨Nat.le_of_ble_eq_true rfl, Nat.le_of_ble_eq_true rfl⟩ (by decide) rfl rfl rfl rfl hl.1 (Nat.le_of_ble_eq_true rfl) rfl dL_stock_9 ⟨Nat.le_of_ble_eq_true rfl, Nat.le_of_ble_eq_true rfl⟩ (tY_1 _ _) (tY_2 _ _) (fun q9 ce H locs hP hS hc1 hc2 hc3 => ?_)
    refine g_catch hown hB hK hN hT (by decide) (by decide) [] 14 17 [(0, 14, 21, 15), (0, 14, 25, 17)] rfl (fun z hz => absurd hz List.not_mem_nil) (by decide) hc1 hc2 hc3 ?_
    refine lv_astore (lv' := [(6, .ref q9), (0, .ref (ad 48)), (1, .int a0), (2, .int a1), (3, .int a2), (4, .int a3), (5, .ref (ad 51))]) hx hb dL_stock_17 hl (by decide) rfl (fun ls hl => ?_)
    refine lv_iconst (v := 1) hx hb dL_stock_19 (by decide) ?_
    exact g_iretY hx hb hr hlocks hP hS rfl (yk_not h1 h2) dL_stock_20
  · refine g_xVxG (k0 := 48) (τ := tY τ' σ) ⟨⟨hx, hb, hml, hown, hB⟩, hK, hi, hA, hAd, hP, hS⟩ hZ sub_Y (c_X5_stock hflag (inj51 hi) hf) (by decide) (fun _ _ => rfl) cal_X5_stock kM_L_23 ⟨Nat.le_of_ble_eq_true rfl, Nat.le_of_ble_eq_true rfl⟩ (by decide) rfl rfl rfl rfl hl.1 (Nat.le_of_ble_eq_true rfl) rfl dL_stock_9 ⟨Nat.le_of_ble_eq_true rfl, Nat.le_of_ble_eq_true rfl⟩ (tY_1 _ _) (tY_2 _ _) (fun q9 ce H locs hP hS hc1 hc2 hc3 => ?_)
    refine g_catch hown hB hK hN hT (by decide) (by decide) [(0, 14, 17, 13)] 14 21 [(0, 14, 25, 17)] rfl (fun z hz => by simp only [List.mem_cons, List.not_mem_nil, or_false] at hz; rcases hz with rfl <;> first | exact ⟨1, by decide, by decide, by decide, rfl⟩) (by decide) hc1 hc2 hc3 ?_
    refine lv_astore (lv' := [(6, .ref q9), (0, .ref (ad 48)), (1, .int a0), (2, .int a1), (3, .int a2), (4, .int a3), (5, .ref (ad 51))]) hx hb dL_stock_21 hl (by decide) rfl (fun ls hl => ?_)
    refine lv_iconst (v := 2) hx hb dL_stock_23 (by decide) ?_
    exact g_iretY hx hb hr hlocks hP hS rfl (yk_not h1 h2) dL_stock_24
  · refine g_xVxG (k0 := 48) (τ := tY τ' σ) ⟨⟨hx, hb, hml, hown, hB⟩, hK, hi, hA, hAd, hP, hS⟩ hZ sub_Y (c_X5_stock hflag (inj51 hi) hf) (by decide) (fun _ _ => rfl) cal_X5_stock kM_L_23 ⟨Nat.le_of_ble_eq_true rfl, Nat.le_of_ble_eq_true rfl⟩ (by decide) rfl rfl rfl rfl hl.1 (Nat.le_of_ble_eq_true rfl) rfl dL_stock_9 ⟨Nat.le_of_ble_eq_true rfl, Nat.le_of_ble_eq_true rfl⟩ (tY_1 _ _) (tY_2 _ _) (fun q9 ce H locs hP hS hc1 hc2 hc3 => ?_)
    refine g_catch hown hB hK hN hT (by decide) (by decide) [(0, 14, 17, 13), (0, 14, 21, 15)] 14 25 [] rfl (fun z hz => by simp only [List.mem_cons, List.not_mem_nil, or_false] at hz; rcases hz with rfl | rfl <;> first | exact ⟨1, by decide, by decide, by decide, rfl⟩ | exact ⟨2, by decide, by decide, by decide, rfl⟩) (by decide) hc1 hc2 hc3 ?_
    refine lv_astore (lv' := [(6, .ref q9), (0, .ref (ad 48)), (1, .int a0), (2, .int a1), (3, .int a2), (4, .int a3), (5, .ref (ad 51))]) hx hb dL_stock_25 hl (by decide) rfl (fun ls hl => ?_)
    refine lv_iconst (v := 3) hx hb dL_stock_27 (by decide) ?_
    exact g_iretY hx hb hr hlocks hP hS rfl (yk_not h1 h2) dL_stock_28
theorem kw_L_scatter : Cond.codeWith yL_scatter cL_scatter 6 (some .int) [(0, 12, 15, 13), (0, 12, 19, 15)] ∈ BIG := mem_BIG 546 (by decide +kernel) (by decide +kernel)
theorem ks_L_scatter : Cond.static yL_scatter ∈ BIG := mem_BIG 545 (by decide +kernel) (by decide +kernel)
set_option maxHeartbeats 4000000 in
set_option maxRecDepth 100000 in
theorem h_scatter {l : Launch} {D : va_G} {cI cJ : ClassId} {ad : Nat → Nat} {σ σr τ' : Mem} {a0 a1 a2 v t : Int32} {ex : Nat} (hflag : l.stackTraces = false) (hi : injG 52 ad) (hf : f_X5_scatter σ a0 a1 a2 = some (ex, v, τ')) (ht : (ex = 0 ∧ t = 0) ∨ (ex = 1 ∧ t = 1) ∨ (ex = 2 ∧ t = 2)) (h1 : ∀ k, k < 51 → σr k = τ' k) (h2 : σr 51 = if ex = 0 then upd (σ 51) 0 v else σ 51) : MGy l yL_scatter cL_scatter 6 [(0, 12, 15, 13), (0, 12, 19, 15)] 8 177 D cI cJ ad [.ref (ad 48), .int a0, .int a1, .int a2, .ref (ad 51)] σ σr t := by
  refine MGy.ofW (by decide) hi ?_
  intro p e s m args below meth c hx hb hr hml hlocks hT hown hB hK hZ hN hP hA hAd hS
  have hown : s.vm.findClass RL = some m.cls := hown
  have hl := lv_entry ([.ref (ad 48), .int a0, .int a1, .int a2, .ref (ad 51)] : List Value) (n := 6) (Nat.le_of_ble_eq_true rfl)
  rw [lg_entry_eq]
  generalize (lg_sl ([.ref (ad 48), .int a0, .int a1, .int a2, .ref (ad 51)] : List Value) ++ List.replicate (6 - (lg_sl ([.ref (ad 48), .int a0, .int a1, .int a2, .ref (ad 51)] : List Value)).length) Slot.unset).toArray = ls at hl ⊢
  have hl : lv_has ls 6 [(0, .ref (ad 48)), (1, .int a0), (2, .int a1), (3, .int a2), (4, .ref (ad 51))] := hl
  refine lv_aload hx hb dL_scatter_0 (lv_at hl 4 rfl) ?_
  refine lv_iconst (v := 0) hx hb dL_scatter_2 (by decide) ?_
  refine lv_aload_n hx hb dL_scatter_3 rfl (lv_at hl 0 rfl) ?_
  refine lv_iload_n hx hb dL_scatter_4 rfl (lv_at hl 1 rfl) ?_
  refine lv_iload_n hx hb dL_scatter_5 rfl (lv_at hl 2 rfl) ?_
  refine lv_iload_n hx hb dL_scatter_6 rfl (lv_at hl 3 rfl) ?_
  rcases ht with ⟨rfl, rfl⟩ | ⟨rfl, rfl⟩ | ⟨rfl, rfl⟩
  · refine g_xViG (k0 := 48) (τ := tY τ' σ) ⟨⟨hx, hb, hml, hown, hB⟩, hK, hi, hA, hAd, hP, hS⟩ hZ sub_Y (c_X5_scatter hflag (inj51 hi) hf) (fun _ _ => rfl) cal_X5_scatter kM_L_27 ⟨Nat.le_of_ble_eq_true rfl, Nat.le_of_ble_eq_true rfl⟩ (by decide) rfl rfl rfl rfl hl.1 (Nat.le_of_ble_eq_true rfl) rfl dL_scatter_7 (tY_1 _ _) (tY_2 _ _) (fun H locs hP hS => ?_)
    refine W.widen (k := 1) (n := 6) (by omega) (by omega) ?_
    refine lv_i2l hx hb dL_scatter_10 rfl ?_
    refine g_last hx hb hK hP hi hAd hS 51 (by decide) EY_o dL_scatter_11 (fun H locs hP hS => ?_)
    refine lv_goto (tgt := 23) hx hb dL_scatter_12 (by decide) ?_
    refine lv_iconst (v := 0) hx hb dL_scatter_23 (by decide) ?_
    exact g_iretY hx hb hr hlocks hP hS rfl (yk_out h1 h2) dL_scatter_24
  · refine g_xVxG (k0 := 48) (τ := tY τ' σ) ⟨⟨hx, hb, hml, hown, hB⟩, hK, hi, hA, hAd, hP, hS⟩ hZ sub_Y (c_X5_scatter hflag (inj51 hi) hf) (by decide) (fun _ _ => rfl) cal_X5_scatter kM_L_27 ⟨Nat.le_of_ble_eq_true rfl, Nat.le_of_ble_eq_true rfl⟩ (by decide) rfl rfl rfl rfl hl.1 (Nat.le_of_ble_eq_true rfl) rfl dL_scatter_7 ⟨Nat.le_of_ble_eq_true rfl, Nat.le_of_ble_eq_true rfl⟩ (tY_1 _ _) (tY_2 _ _) (fun q9 ce H locs hP hS hc1 hc2 hc3 => ?_)
    refine g_catch hown hB hK hN hT (by decide) (by decide) [] 12 15 [(0, 12, 19, 15)] rfl (fun z hz => absurd hz List.not_mem_nil) (by decide) hc1 hc2 hc3 ?_
    refine lv_astore (lv' := [(5, .ref q9), (0, .ref (ad 48)), (1, .int a0), (2, .int a1), (3, .int a2), (4, .ref (ad 51))]) hx hb dL_scatter_15 hl (by decide) rfl (fun ls hl => ?_)
    refine lv_iconst (v := 1) hx hb dL_scatter_17 (by decide) ?_
    exact g_iretY hx hb hr hlocks hP hS rfl (yk_not h1 h2) dL_scatter_18
  · refine g_xVxG (k0 := 48) (τ := tY τ' σ) ⟨⟨hx, hb, hml, hown, hB⟩, hK, hi, hA, hAd, hP, hS⟩ hZ sub_Y (c_X5_scatter hflag (inj51 hi) hf) (by decide) (fun _ _ => rfl) cal_X5_scatter kM_L_27 ⟨Nat.le_of_ble_eq_true rfl, Nat.le_of_ble_eq_true rfl⟩ (by decide) rfl rfl rfl rfl hl.1 (Nat.le_of_ble_eq_true rfl) rfl dL_scatter_7 ⟨Nat.le_of_ble_eq_true rfl, Nat.le_of_ble_eq_true rfl⟩ (tY_1 _ _) (tY_2 _ _) (fun q9 ce H locs hP hS hc1 hc2 hc3 => ?_)
    refine g_catch hown hB hK hN hT (by decide) (by decide) [(0, 12, 15, 13)] 12 19 [] rfl (fun z hz => by simp only [List.mem_cons, List.not_mem_nil, or_false] at hz; rcases hz with rfl <;> first | exact ⟨1, by decide, by decide, by decide, rfl⟩) (by decide) hc1 hc2 hc3 ?_
    refine lv_astore (lv' := [(5, .ref q9), (0, .ref (ad 48)), (1, .int a0), (2, .int a1), (3, .int a2), (4, .ref (ad 51))]) hx hb dL_scatter_19 hl (by decide) rfl (fun ls hl => ?_)
    refine lv_iconst (v := 2) hx hb dL_scatter_21 (by decide) ?_
    exact g_iretY hx hb hr hlocks hP hS rfl (yk_not h1 h2) dL_scatter_22
theorem kw_L_join : Cond.codeWith yL_join cL_join 6 (some .int) [(0, 12, 15, 13), (0, 12, 19, 15), (0, 12, 23, 17)] ∈ BIG := mem_BIG 553 (by decide +kernel) (by decide +kernel)
theorem ks_L_join : Cond.static yL_join ∈ BIG := mem_BIG 552 (by decide +kernel) (by decide +kernel)
set_option maxHeartbeats 4000000 in
set_option maxRecDepth 100000 in
theorem h_join {l : Launch} {D : va_G} {cI cJ : ClassId} {ad : Nat → Nat} {σ σr τ' : Mem} {a0 a1 a2 v t : Int32} {ex : Nat} (hflag : l.stackTraces = false) (hi : injG 52 ad) (hf : f_X5_join σ a0 a1 a2 = some (ex, v, τ')) (ht : (ex = 0 ∧ t = 0) ∨ (ex = 1 ∧ t = 1) ∨ (ex = 2 ∧ t = 2) ∨ (ex = 3 ∧ t = 3)) (h1 : ∀ k, k < 51 → σr k = τ' k) (h2 : σr 51 = if ex = 0 then upd (σ 51) 0 v else σ 51) : MGy l yL_join cL_join 6 [(0, 12, 15, 13), (0, 12, 19, 15), (0, 12, 23, 17)] 8 177 D cI cJ ad [.ref (ad 48), .int a0, .int a1, .int a2, .ref (ad 51)] σ σr t := by
  refine MGy.ofW (by decide) hi ?_
  intro p e s m args below meth c hx hb hr hml hlocks hT hown hB hK hZ hN hP hA hAd hS
  have hown : s.vm.findClass RL = some m.cls := hown
  have hl := lv_entry ([.ref (ad 48), .int a0, .int a1, .int a2, .ref (ad 51)] : List Value) (n := 6) (Nat.le_of_ble_eq_true rfl)
  rw [lg_entry_eq]
  generalize (lg_sl ([.ref (ad 48), .int a0, .int a1, .int a2, .ref (ad 51)] : List Value) ++ List.replicate (6 - (lg_sl ([.ref (ad 48), .int a0, .int a1, .int a2, .ref (ad 51)] : List Value)).length) Slot.unset).toArray = ls at hl ⊢
  have hl : lv_has ls 6 [(0, .ref (ad 48)), (1, .int a0), (2, .int a1), (3, .int a2), (4, .ref (ad 51))] := hl
  refine lv_aload hx hb dL_join_0 (lv_at hl 4 rfl) ?_
  refine lv_iconst (v := 0) hx hb dL_join_2 (by decide) ?_
  refine lv_aload_n hx hb dL_join_3 rfl (lv_at hl 0 rfl) ?_
  refine lv_iload_n hx hb dL_join_4 rfl (lv_at hl 1 rfl) ?_
  refine lv_iload_n hx hb dL_join_5 rfl (lv_at hl 2 rfl) ?_
  refine lv_iload_n hx hb dL_join_6 rfl (lv_at hl 3 rfl) ?_
  rcases ht with ⟨rfl, rfl⟩ | ⟨rfl, rfl⟩ | ⟨rfl, rfl⟩ | ⟨rfl, rfl⟩
  · refine g_xViG (k0 := 48) (τ := tY τ' σ) ⟨⟨hx, hb, hml, hown, hB⟩, hK, hi, hA, hAd, hP, hS⟩ hZ sub_Y (c_X5_join hflag (inj51 hi) hf) (fun _ _ => rfl) cal_X5_join kM_L_31 ⟨Nat.le_of_ble_eq_true rfl, Nat.le_of_ble_eq_true rfl⟩ (by decide) rfl rfl rfl rfl hl.1 (Nat.le_of_ble_eq_true rfl) rfl dL_join_7 (tY_1 _ _) (tY_2 _ _) (fun H locs hP hS => ?_)
    refine W.widen (k := 1) (n := 6) (by omega) (by omega) ?_
    refine lv_i2l hx hb dL_join_10 rfl ?_
    refine g_last hx hb hK hP hi hAd hS 51 (by decide) EY_o dL_join_11 (fun H locs hP hS => ?_)
    refine lv_goto (tgt := 27) hx hb dL_join_12 (by decide) ?_
    refine lv_iconst (v := 0) hx hb dL_join_27 (by decide) ?_
    exact g_iretY hx hb hr hlocks hP hS rfl (yk_out h1 h2) dL_join_28
  · refine g_xVxG (k0 := 48) (τ := tY τ' σ) ⟨⟨hx, hb, hml, hown, hB⟩, hK, hi, hA, hAd, hP, hS⟩ hZ sub_Y (c_X5_join hflag (inj51 hi) hf) (by decide) (fun _ _ => rfl) cal_X5_join kM_L_31 ⟨Nat.le_of_ble_eq_true rfl, Nat.le_of_ble_eq_true rfl⟩ (by decide) rfl rfl rfl rfl hl.1 (Nat.le_of_ble_eq_true rfl) rfl dL_join_7 ⟨Nat.le_of_ble_eq_true rfl, Nat.le_of_ble_eq_true rfl⟩ (tY_1 _ _) (tY_2 _ _) (fun q9 ce H locs hP hS hc1 hc2 hc3 => ?_)
    refine g_catch hown hB hK hN hT (by decide) (by decide) [] 12 15 [(0, 12, 19, 15), (0, 12, 23, 17)] rfl (fun z hz => absurd hz List.not_mem_nil) (by decide) hc1 hc2 hc3 ?_
    refine lv_astore (lv' := [(5, .ref q9), (0, .ref (ad 48)), (1, .int a0), (2, .int a1), (3, .int a2), (4, .ref (ad 51))]) hx hb dL_join_15 hl (by decide) rfl (fun ls hl => ?_)
    refine lv_iconst (v := 1) hx hb dL_join_17 (by decide) ?_
    exact g_iretY hx hb hr hlocks hP hS rfl (yk_not h1 h2) dL_join_18
  · refine g_xVxG (k0 := 48) (τ := tY τ' σ) ⟨⟨hx, hb, hml, hown, hB⟩, hK, hi, hA, hAd, hP, hS⟩ hZ sub_Y (c_X5_join hflag (inj51 hi) hf) (by decide) (fun _ _ => rfl) cal_X5_join kM_L_31 ⟨Nat.le_of_ble_eq_true rfl, Nat.le_of_ble_eq_true rfl⟩ (by decide) rfl rfl rfl rfl hl.1 (Nat.le_of_ble_eq_true rfl) rfl dL_join_7 ⟨Nat.le_of_ble_eq_true rfl, Nat.le_of_ble_eq_true rfl⟩ (tY_1 _ _) (tY_2 _ _) (fun q9 ce H locs hP hS hc1 hc2 hc3 => ?_)
    refine g_catch hown hB hK hN hT (by decide) (by decide) [(0, 12, 15, 13)] 12 19 [(0, 12, 23, 17)] rfl (fun z hz => by simp only [List.mem_cons, List.not_mem_nil, or_false] at hz; rcases hz with rfl <;> first | exact ⟨1, by decide, by decide, by decide, rfl⟩) (by decide) hc1 hc2 hc3 ?_
    refine lv_astore (lv' := [(5, .ref q9), (0, .ref (ad 48)), (1, .int a0), (2, .int a1), (3, .int a2), (4, .ref (ad 51))]) hx hb dL_join_19 hl (by decide) rfl (fun ls hl => ?_)
    refine lv_iconst (v := 2) hx hb dL_join_21 (by decide) ?_
    exact g_iretY hx hb hr hlocks hP hS rfl (yk_not h1 h2) dL_join_22
  · refine g_xVxG (k0 := 48) (τ := tY τ' σ) ⟨⟨hx, hb, hml, hown, hB⟩, hK, hi, hA, hAd, hP, hS⟩ hZ sub_Y (c_X5_join hflag (inj51 hi) hf) (by decide) (fun _ _ => rfl) cal_X5_join kM_L_31 ⟨Nat.le_of_ble_eq_true rfl, Nat.le_of_ble_eq_true rfl⟩ (by decide) rfl rfl rfl rfl hl.1 (Nat.le_of_ble_eq_true rfl) rfl dL_join_7 ⟨Nat.le_of_ble_eq_true rfl, Nat.le_of_ble_eq_true rfl⟩ (tY_1 _ _) (tY_2 _ _) (fun q9 ce H locs hP hS hc1 hc2 hc3 => ?_)
    refine g_catch hown hB hK hN hT (by decide) (by decide) [(0, 12, 15, 13), (0, 12, 19, 15)] 12 23 [] rfl (fun z hz => by simp only [List.mem_cons, List.not_mem_nil, or_false] at hz; rcases hz with rfl | rfl <;> first | exact ⟨1, by decide, by decide, by decide, rfl⟩ | exact ⟨2, by decide, by decide, by decide, rfl⟩) (by decide) hc1 hc2 hc3 ?_
    refine lv_astore (lv' := [(5, .ref q9), (0, .ref (ad 48)), (1, .int a0), (2, .int a1), (3, .int a2), (4, .ref (ad 51))]) hx hb dL_join_23 hl (by decide) rfl (fun ls hl => ?_)
    refine lv_iconst (v := 3) hx hb dL_join_25 (by decide) ?_
    exact g_iretY hx hb hr hlocks hP hS rfl (yk_not h1 h2) dL_join_26
theorem kw_L_quest : Cond.codeWith yL_quest cL_quest 4 (some .int) [(0, 9, 12, 15), (0, 9, 15, 17)] ∈ BIG := mem_BIG 561 (by decide +kernel) (by decide +kernel)
theorem ks_L_quest : Cond.static yL_quest ∈ BIG := mem_BIG 560 (by decide +kernel) (by decide +kernel)
set_option maxHeartbeats 4000000 in
set_option maxRecDepth 100000 in
theorem h_quest {l : Launch} {D : va_G} {cI cJ : ClassId} {ad : Nat → Nat} {σ σr τ' : Mem} {a0 v t : Int32} {ex : Nat} (hflag : l.stackTraces = false) (hi : injG 52 ad) (hf : f_X5_quest σ a0 = some (ex, v, τ')) (ht : (ex = 0 ∧ t = 0) ∨ (ex = 2 ∧ t = 1) ∨ (ex = 3 ∧ t = 2)) (h1 : ∀ k, k < 51 → σr k = τ' k) (h2 : σr 51 = if ex = 0 then upd (σ 51) 0 v else σ 51) : MGy l yL_quest cL_quest 4 [(0, 9, 12, 15), (0, 9, 15, 17)] 8 175 D cI cJ ad [.ref (ad 48), .int a0, .ref (ad 51)] σ σr t := by
  refine MGy.ofW (by decide) hi ?_
  intro p e s m args below meth c hx hb hr hml hlocks hT hown hB hK hZ hN hP hA hAd hS
  have hown : s.vm.findClass RL = some m.cls := hown
  have hl := lv_entry ([.ref (ad 48), .int a0, .ref (ad 51)] : List Value) (n := 4) (Nat.le_of_ble_eq_true rfl)
  rw [lg_entry_eq]
  generalize (lg_sl ([.ref (ad 48), .int a0, .ref (ad 51)] : List Value) ++ List.replicate (4 - (lg_sl ([.ref (ad 48), .int a0, .ref (ad 51)] : List Value)).length) Slot.unset).toArray = ls at hl ⊢
  have hl : lv_has ls 4 [(0, .ref (ad 48)), (1, .int a0), (2, .ref (ad 51))] := hl
  refine lv_aload_n hx hb dL_quest_0 rfl (lv_at hl 2 rfl) ?_
  refine lv_iconst (v := 0) hx hb dL_quest_1 (by decide) ?_
  refine lv_aload_n hx hb dL_quest_2 rfl (lv_at hl 0 rfl) ?_
  refine lv_iload_n hx hb dL_quest_3 rfl (lv_at hl 1 rfl) ?_
  rcases ht with ⟨rfl, rfl⟩ | ⟨rfl, rfl⟩ | ⟨rfl, rfl⟩
  · refine g_xViG (k0 := 48) (τ := tY τ' σ) ⟨⟨hx, hb, hml, hown, hB⟩, hK, hi, hA, hAd, hP, hS⟩ hZ sub_Y (c_X5_quest hflag (inj51 hi) hf) (fun _ _ => rfl) cal_X5_quest kM_L_34 ⟨Nat.le_of_ble_eq_true rfl, Nat.le_of_ble_eq_true rfl⟩ (by decide) rfl rfl rfl rfl hl.1 (Nat.le_of_ble_eq_true rfl) rfl dL_quest_4 (tY_1 _ _) (tY_2 _ _) (fun H locs hP hS => ?_)
    refine W.widen (k := 1) (n := 6) (by omega) (by omega) ?_
    refine lv_i2l hx hb dL_quest_7 rfl ?_
    refine g_last hx hb hK hP hi hAd hS 51 (by decide) EY_o dL_quest_8 (fun H locs hP hS => ?_)
    refine lv_goto (tgt := 18) hx hb dL_quest_9 (by decide) ?_
    refine lv_iconst (v := 0) hx hb dL_quest_18 (by decide) ?_
    exact g_iretY hx hb hr hlocks hP hS rfl (yk_out h1 h2) dL_quest_19
  · refine g_xVxG (k0 := 48) (τ := tY τ' σ) ⟨⟨hx, hb, hml, hown, hB⟩, hK, hi, hA, hAd, hP, hS⟩ hZ sub_Y (c_X5_quest hflag (inj51 hi) hf) (by decide) (fun _ _ => rfl) cal_X5_quest kM_L_34 ⟨Nat.le_of_ble_eq_true rfl, Nat.le_of_ble_eq_true rfl⟩ (by decide) rfl rfl rfl rfl hl.1 (Nat.le_of_ble_eq_true rfl) rfl dL_quest_4 ⟨Nat.le_of_ble_eq_true rfl, Nat.le_of_ble_eq_true rfl⟩ (tY_1 _ _) (tY_2 _ _) (fun q9 ce H locs hP hS hc1 hc2 hc3 => ?_)
    refine g_catch hown hB hK hN hT (by decide) (by decide) [] 9 12 [(0, 9, 15, 17)] rfl (fun z hz => absurd hz List.not_mem_nil) (by decide) hc1 hc2 hc3 ?_
    refine lv_astore_n (lv' := [(3, .ref q9), (0, .ref (ad 48)), (1, .int a0), (2, .ref (ad 51))]) hx hb dL_quest_12 rfl hl (by decide) rfl (fun ls hl => ?_)
    refine lv_iconst (v := 1) hx hb dL_quest_13 (by decide) ?_
    exact g_iretY hx hb hr hlocks hP hS rfl (yk_not h1 h2) dL_quest_14
  · refine g_xVxG (k0 := 48) (τ := tY τ' σ) ⟨⟨hx, hb, hml, hown, hB⟩, hK, hi, hA, hAd, hP, hS⟩ hZ sub_Y (c_X5_quest hflag (inj51 hi) hf) (by decide) (fun _ _ => rfl) cal_X5_quest kM_L_34 ⟨Nat.le_of_ble_eq_true rfl, Nat.le_of_ble_eq_true rfl⟩ (by decide) rfl rfl rfl rfl hl.1 (Nat.le_of_ble_eq_true rfl) rfl dL_quest_4 ⟨Nat.le_of_ble_eq_true rfl, Nat.le_of_ble_eq_true rfl⟩ (tY_1 _ _) (tY_2 _ _) (fun q9 ce H locs hP hS hc1 hc2 hc3 => ?_)
    refine g_catch hown hB hK hN hT (by decide) (by decide) [(0, 9, 12, 15)] 9 15 [] rfl (fun z hz => by simp only [List.mem_cons, List.not_mem_nil, or_false] at hz; rcases hz with rfl <;> first | exact ⟨2, by decide, by decide, by decide, rfl⟩) (by decide) hc1 hc2 hc3 ?_
    refine lv_astore_n (lv' := [(3, .ref q9), (0, .ref (ad 48)), (1, .int a0), (2, .ref (ad 51))]) hx hb dL_quest_15 rfl hl (by decide) rfl (fun ls hl => ?_)
    refine lv_iconst (v := 2) hx hb dL_quest_16 (by decide) ?_
    exact g_iretY hx hb hr hlocks hP hS rfl (yk_not h1 h2) dL_quest_17
theorem kw_L_stage : Cond.codeWith yL_stage cL_stage 7 (some .int) [(0, 14, 17, 13), (0, 14, 21, 15), (0, 14, 25, 17)] ∈ BIG := mem_BIG 569 (by decide +kernel) (by decide +kernel)
theorem ks_L_stage : Cond.static yL_stage ∈ BIG := mem_BIG 568 (by decide +kernel) (by decide +kernel)
set_option maxHeartbeats 4000000 in
set_option maxRecDepth 100000 in
theorem h_stage {l : Launch} {D : va_G} {cI cJ : ClassId} {ad : Nat → Nat} {σ σr τ' : Mem} {a0 a1 a2 a3 v t : Int32} {ex : Nat} (hflag : l.stackTraces = false) (hi : injG 52 ad) (hf : f_X5_stage σ a0 a1 a2 a3 = some (ex, v, τ')) (ht : (ex = 0 ∧ t = 0) ∨ (ex = 1 ∧ t = 1) ∨ (ex = 2 ∧ t = 2) ∨ (ex = 3 ∧ t = 3)) (h1 : ∀ k, k < 51 → σr k = τ' k) (h2 : σr 51 = if ex = 0 then upd (σ 51) 0 v else σ 51) : MGy l yL_stage cL_stage 7 [(0, 14, 17, 13), (0, 14, 21, 15), (0, 14, 25, 17)] 9 178 D cI cJ ad [.ref (ad 48), .int a0, .int a1, .int a2, .int a3, .ref (ad 51)] σ σr t := by
  refine MGy.ofW (by decide) hi ?_
  intro p e s m args below meth c hx hb hr hml hlocks hT hown hB hK hZ hN hP hA hAd hS
  have hown : s.vm.findClass RL = some m.cls := hown
  have hl := lv_entry ([.ref (ad 48), .int a0, .int a1, .int a2, .int a3, .ref (ad 51)] : List Value) (n := 7) (Nat.le_of_ble_eq_true rfl)
  rw [lg_entry_eq]
  generalize (lg_sl ([.ref (ad 48), .int a0, .int a1, .int a2, .int a3, .ref (ad 51)] : List Value) ++ List.replicate (7 - (lg_sl ([.ref (ad 48), .int a0, .int a1, .int a2, .int a3, .ref (ad 51)] : List Value)).length) Slot.unset).toArray = ls at hl ⊢
  have hl : lv_has ls 7 [(0, .ref (ad 48)), (1, .int a0), (2, .int a1), (3, .int a2), (4, .int a3), (5, .ref (ad 51))] := hl
  refine lv_aload hx hb dL_stage_0 (lv_at hl 5 rfl) ?_
  refine lv_iconst (v := 0) hx hb dL_stage_2 (by decide) ?_
  refine lv_aload_n hx hb dL_stage_3 rfl (lv_at hl 0 rfl) ?_
  refine lv_iload_n hx hb dL_stage_4 rfl (lv_at hl 1 rfl) ?_
  refine lv_iload_n hx hb dL_stage_5 rfl (lv_at hl 2 rfl) ?_
  refine lv_iload_n hx hb dL_stage_6 rfl (lv_at hl 3 rfl) ?_
  refine lv_iload hx hb dL_stage_7 (lv_at hl 4 rfl) ?_
  rcases ht with ⟨rfl, rfl⟩ | ⟨rfl, rfl⟩ | ⟨rfl, rfl⟩ | ⟨rfl, rfl⟩
  · refine g_xViG (k0 := 48) (τ := tY τ' σ) ⟨⟨hx, hb, hml, hown, hB⟩, hK, hi, hA, hAd, hP, hS⟩ hZ sub_Y (c_X5_stage hflag (inj51 hi) hf) (fun _ _ => rfl) cal_X5_stage kM_L_38 ⟨Nat.le_of_ble_eq_true rfl, Nat.le_of_ble_eq_true rfl⟩ (by decide) rfl rfl rfl rfl hl.1 (Nat.le_of_ble_eq_true rfl) rfl dL_stage_9 (tY_1 _ _) (tY_2 _ _) (fun H locs hP hS => ?_)
    refine W.widen (k := 1) (n := 6) (by omega) (by omega) ?_
    refine lv_i2l hx hb dL_stage_12 rfl ?_
    refine g_last hx hb hK hP hi hAd hS 51 (by decide) EY_o dL_stage_13 (fun H locs hP hS => ?_)
    refine lv_goto (tgt := 29) hx hb dL_stage_14 (by decide) ?_
    refine lv_iconst (v := 0) hx hb dL_stage_29 (by decide) ?_
    exact g_iretY hx hb hr hlocks hP hS rfl (yk_out h1 h2) dL_stage_30
  · refine g_xVxG (k0 := 48) (τ := tY τ' σ) ⟨⟨hx, hb, hml, hown, hB⟩, hK, hi, hA, hAd, hP, hS⟩ hZ sub_Y (c_X5_stage hflag (inj51 hi) hf) (by decide) (fun _ _ => rfl) cal_X5_stage kM_L_38 ⟨Nat.le_of_ble_eq_true rfl, Nat.le_of_ble_eq_true rfl⟩ (by decide) rfl rfl rfl rfl hl.1 (Nat.le_of_ble_eq_true rfl) rfl dL_stage_9 ⟨Nat.le_of_ble_eq_true rfl, Nat.le_of_ble_eq_true rfl⟩ (tY_1 _ _) (tY_2 _ _) (fun q9 ce H locs hP hS hc1 hc2 hc3 => ?_)
    refine g_catch hown hB hK hN hT (by decide) (by decide) [] 14 17 [(0, 14, 21, 15), (0, 14, 25, 17)] rfl (fun z hz => absurd hz List.not_mem_nil) (by decide) hc1 hc2 hc3 ?_
    refine lv_astore (lv' := [(6, .ref q9), (0, .ref (ad 48)), (1, .int a0), (2, .int a1), (3, .int a2), (4, .int a3), (5, .ref (ad 51))]) hx hb dL_stage_17 hl (by decide) rfl (fun ls hl => ?_)
    refine lv_iconst (v := 1) hx hb dL_stage_19 (by decide) ?_
    exact g_iretY hx hb hr hlocks hP hS rfl (yk_not h1 h2) dL_stage_20
  · refine g_xVxG (k0 := 48) (τ := tY τ' σ) ⟨⟨hx, hb, hml, hown, hB⟩, hK, hi, hA, hAd, hP, hS⟩ hZ sub_Y (c_X5_stage hflag (inj51 hi) hf) (by decide) (fun _ _ => rfl) cal_X5_stage kM_L_38 ⟨Nat.le_of_ble_eq_true rfl, Nat.le_of_ble_eq_true rfl⟩ (by decide) rfl rfl rfl rfl hl.1 (Nat.le_of_ble_eq_true rfl) rfl dL_stage_9 ⟨Nat.le_of_ble_eq_true rfl, Nat.le_of_ble_eq_true rfl⟩ (tY_1 _ _) (tY_2 _ _) (fun q9 ce H locs hP hS hc1 hc2 hc3 => ?_)
    refine g_catch hown hB hK hN hT (by decide) (by decide) [(0, 14, 17, 13)] 14 21 [(0, 14, 25, 17)] rfl (fun z hz => by simp only [List.mem_cons, List.not_mem_nil, or_false] at hz; rcases hz with rfl <;> first | exact ⟨1, by decide, by decide, by decide, rfl⟩) (by decide) hc1 hc2 hc3 ?_
    refine lv_astore (lv' := [(6, .ref q9), (0, .ref (ad 48)), (1, .int a0), (2, .int a1), (3, .int a2), (4, .int a3), (5, .ref (ad 51))]) hx hb dL_stage_21 hl (by decide) rfl (fun ls hl => ?_)
    refine lv_iconst (v := 2) hx hb dL_stage_23 (by decide) ?_
    exact g_iretY hx hb hr hlocks hP hS rfl (yk_not h1 h2) dL_stage_24
  · refine g_xVxG (k0 := 48) (τ := tY τ' σ) ⟨⟨hx, hb, hml, hown, hB⟩, hK, hi, hA, hAd, hP, hS⟩ hZ sub_Y (c_X5_stage hflag (inj51 hi) hf) (by decide) (fun _ _ => rfl) cal_X5_stage kM_L_38 ⟨Nat.le_of_ble_eq_true rfl, Nat.le_of_ble_eq_true rfl⟩ (by decide) rfl rfl rfl rfl hl.1 (Nat.le_of_ble_eq_true rfl) rfl dL_stage_9 ⟨Nat.le_of_ble_eq_true rfl, Nat.le_of_ble_eq_true rfl⟩ (tY_1 _ _) (tY_2 _ _) (fun q9 ce H locs hP hS hc1 hc2 hc3 => ?_)
    refine g_catch hown hB hK hN hT (by decide) (by decide) [(0, 14, 17, 13), (0, 14, 21, 15)] 14 25 [] rfl (fun z hz => by simp only [List.mem_cons, List.not_mem_nil, or_false] at hz; rcases hz with rfl | rfl <;> first | exact ⟨1, by decide, by decide, by decide, rfl⟩ | exact ⟨2, by decide, by decide, by decide, rfl⟩) (by decide) hc1 hc2 hc3 ?_
    refine lv_astore (lv' := [(6, .ref q9), (0, .ref (ad 48)), (1, .int a0), (2, .int a1), (3, .int a2), (4, .int a3), (5, .ref (ad 51))]) hx hb dL_stage_25 hl (by decide) rfl (fun ls hl => ?_)
    refine lv_iconst (v := 3) hx hb dL_stage_27 (by decide) ?_
    exact g_iretY hx hb hr hlocks hP hS rfl (yk_not h1 h2) dL_stage_28
theorem kw_L_endow : Cond.codeWith yL_endow cL_endow 4 (some .int) [(0, 9, 12, 15)] ∈ BIG := mem_BIG 595 (by decide +kernel) (by decide +kernel)
theorem ks_L_endow : Cond.static yL_endow ∈ BIG := mem_BIG 594 (by decide +kernel) (by decide +kernel)
set_option maxHeartbeats 4000000 in
set_option maxRecDepth 100000 in
theorem h_endow {l : Launch} {D : va_G} {cI cJ : ClassId} {ad : Nat → Nat} {σ σr τ' : Mem} {a0 v t : Int32} {ex : Nat} (hflag : l.stackTraces = false) (hi : injG 52 ad) (hf : f_X5_endow σ a0 = some (ex, v, τ')) (ht : (ex = 0 ∧ t = 0) ∨ (ex = 2 ∧ t = 1)) (h1 : ∀ k, k < 51 → σr k = τ' k) (h2 : σr 51 = if ex = 0 then upd (σ 51) 0 v else σ 51) : MGy l yL_endow cL_endow 4 [(0, 9, 12, 15)] 8 175 D cI cJ ad [.ref (ad 48), .int a0, .ref (ad 51)] σ σr t := by
  refine MGy.ofW (by decide) hi ?_
  intro p e s m args below meth c hx hb hr hml hlocks hT hown hB hK hZ hN hP hA hAd hS
  have hown : s.vm.findClass RL = some m.cls := hown
  have hl := lv_entry ([.ref (ad 48), .int a0, .ref (ad 51)] : List Value) (n := 4) (Nat.le_of_ble_eq_true rfl)
  rw [lg_entry_eq]
  generalize (lg_sl ([.ref (ad 48), .int a0, .ref (ad 51)] : List Value) ++ List.replicate (4 - (lg_sl ([.ref (ad 48), .int a0, .ref (ad 51)] : List Value)).length) Slot.unset).toArray = ls at hl ⊢
  have hl : lv_has ls 4 [(0, .ref (ad 48)), (1, .int a0), (2, .ref (ad 51))] := hl
  refine lv_aload_n hx hb dL_endow_0 rfl (lv_at hl 2 rfl) ?_
  refine lv_iconst (v := 0) hx hb dL_endow_1 (by decide) ?_
  refine lv_aload_n hx hb dL_endow_2 rfl (lv_at hl 0 rfl) ?_
  refine lv_iload_n hx hb dL_endow_3 rfl (lv_at hl 1 rfl) ?_
  rcases ht with ⟨rfl, rfl⟩ | ⟨rfl, rfl⟩
  · refine g_xViG (k0 := 48) (τ := tY τ' σ) ⟨⟨hx, hb, hml, hown, hB⟩, hK, hi, hA, hAd, hP, hS⟩ hZ sub_Y (c_X5_endow hflag (inj51 hi) hf) (fun _ _ => rfl) cal_X5_endow kM_L_41 ⟨Nat.le_of_ble_eq_true rfl, Nat.le_of_ble_eq_true rfl⟩ (by decide) rfl rfl rfl rfl hl.1 (Nat.le_of_ble_eq_true rfl) rfl dL_endow_4 (tY_1 _ _) (tY_2 _ _) (fun H locs hP hS => ?_)
    refine W.widen (k := 1) (n := 6) (by omega) (by omega) ?_
    refine lv_i2l hx hb dL_endow_7 rfl ?_
    refine g_last hx hb hK hP hi hAd hS 51 (by decide) EY_o dL_endow_8 (fun H locs hP hS => ?_)
    refine lv_goto (tgt := 15) hx hb dL_endow_9 (by decide) ?_
    refine lv_iconst (v := 0) hx hb dL_endow_15 (by decide) ?_
    exact g_iretY hx hb hr hlocks hP hS rfl (yk_out h1 h2) dL_endow_16
  · refine g_xVxG (k0 := 48) (τ := tY τ' σ) ⟨⟨hx, hb, hml, hown, hB⟩, hK, hi, hA, hAd, hP, hS⟩ hZ sub_Y (c_X5_endow hflag (inj51 hi) hf) (by decide) (fun _ _ => rfl) cal_X5_endow kM_L_41 ⟨Nat.le_of_ble_eq_true rfl, Nat.le_of_ble_eq_true rfl⟩ (by decide) rfl rfl rfl rfl hl.1 (Nat.le_of_ble_eq_true rfl) rfl dL_endow_4 ⟨Nat.le_of_ble_eq_true rfl, Nat.le_of_ble_eq_true rfl⟩ (tY_1 _ _) (tY_2 _ _) (fun q9 ce H locs hP hS hc1 hc2 hc3 => ?_)
    refine g_catch hown hB hK hN hT (by decide) (by decide) [] 9 12 [] rfl (fun z hz => absurd hz List.not_mem_nil) (by decide) hc1 hc2 hc3 ?_
    refine lv_astore_n (lv' := [(3, .ref q9), (0, .ref (ad 48)), (1, .int a0), (2, .ref (ad 51))]) hx hb dL_endow_12 rfl hl (by decide) rfl (fun ls hl => ?_)
    refine lv_iconst (v := 1) hx hb dL_endow_13 (by decide) ?_
    exact g_iretY hx hb hr hlocks hP hS rfl (yk_not h1 h2) dL_endow_14
theorem kw_L_seed : Cond.codeWith yL_seed cL_seed 3 (some .int) [(0, 5, 8, 15)] ∈ BIG := mem_BIG 602 (by decide +kernel) (by decide +kernel)
theorem ks_L_seed : Cond.static yL_seed ∈ BIG := mem_BIG 601 (by decide +kernel) (by decide +kernel)
set_option maxHeartbeats 4000000 in
set_option maxRecDepth 100000 in
theorem h_seed {l : Launch} {D : va_G} {cI cJ : ClassId} {ad : Nat → Nat} {σ σr τ' : Mem} {a0 v t : Int32} {ex : Nat} (hflag : l.stackTraces = false) (hi : injG 52 ad) (hf : f_X5_seed σ a0 = some (ex, v, τ')) (ht : (ex = 0 ∧ t = 0) ∨ (ex = 2 ∧ t = 1)) (h1 : ∀ k, k < 51 → σr k = τ' k) (h2 : σr 51 = σ 51) : MGy l yL_seed cL_seed 3 [(0, 5, 8, 15)] 8 175 D cI cJ ad [.ref (ad 48), .int a0] σ σr t := by
  refine MGy.ofW (by decide) hi ?_
  intro p e s m args below meth c hx hb hr hml hlocks hT hown hB hK hZ hN hP hA hAd hS
  have hown : s.vm.findClass RL = some m.cls := hown
  have hl := lv_entry ([.ref (ad 48), .int a0] : List Value) (n := 3) (Nat.le_of_ble_eq_true rfl)
  rw [lg_entry_eq]
  generalize (lg_sl ([.ref (ad 48), .int a0] : List Value) ++ List.replicate (3 - (lg_sl ([.ref (ad 48), .int a0] : List Value)).length) Slot.unset).toArray = ls at hl ⊢
  have hl : lv_has ls 3 [(0, .ref (ad 48)), (1, .int a0)] := hl
  refine lv_aload_n hx hb dL_seed_0 rfl (lv_at hl 0 rfl) ?_
  refine lv_iload_n hx hb dL_seed_1 rfl (lv_at hl 1 rfl) ?_
  rcases ht with ⟨rfl, rfl⟩ | ⟨rfl, rfl⟩
  · refine g_xVvG (k0 := 48) (τ := tY τ' σ) ⟨⟨hx, hb, hml, hown, hB⟩, hK, hi, hA, hAd, hP, hS⟩ hZ sub_Y (c_X5_seed hflag (inj51 hi) hf) (fun _ _ => rfl) cal_X5_seed kM_L_44 ⟨Nat.le_of_ble_eq_true rfl, Nat.le_of_ble_eq_true rfl⟩ (by decide) rfl rfl rfl rfl hl.1 (Nat.le_of_ble_eq_true rfl) rfl dL_seed_2 (tY_1 _ _) (tY_2 _ _) (fun H locs hP hS => ?_)
    refine W.widen (k := 1) (n := 6) (by omega) (by omega) ?_
    refine lv_goto (tgt := 11) hx hb dL_seed_5 (by decide) ?_
    refine lv_iconst (v := 0) hx hb dL_seed_11 (by decide) ?_
    exact g_iretY hx hb hr hlocks hP hS rfl (yk_not h1 h2) dL_seed_12
  · refine g_xVxG (k0 := 48) (τ := tY τ' σ) ⟨⟨hx, hb, hml, hown, hB⟩, hK, hi, hA, hAd, hP, hS⟩ hZ sub_Y (c_X5_seed hflag (inj51 hi) hf) (by decide) (fun _ _ => rfl) cal_X5_seed kM_L_44 ⟨Nat.le_of_ble_eq_true rfl, Nat.le_of_ble_eq_true rfl⟩ (by decide) rfl rfl rfl rfl hl.1 (Nat.le_of_ble_eq_true rfl) rfl dL_seed_2 ⟨Nat.le_of_ble_eq_true rfl, Nat.le_of_ble_eq_true rfl⟩ (tY_1 _ _) (tY_2 _ _) (fun q9 ce H locs hP hS hc1 hc2 hc3 => ?_)
    refine g_catch hown hB hK hN hT (by decide) (by decide) [] 5 8 [] rfl (fun z hz => absurd hz List.not_mem_nil) (by decide) hc1 hc2 hc3 ?_
    refine lv_astore_n (lv' := [(2, .ref q9), (0, .ref (ad 48)), (1, .int a0)]) hx hb dL_seed_8 rfl hl (by decide) rfl (fun ls hl => ?_)
    refine lv_iconst (v := 1) hx hb dL_seed_9 (by decide) ?_
    exact g_iretY hx hb hr hlocks hP hS rfl (yk_not h1 h2) dL_seed_10
theorem kw_L_go : Cond.codeWith yL_go cL_go 4 (some .int) [(0, 9, 12, 13), (0, 9, 15, 17)] ∈ BIG := mem_BIG 610 (by decide +kernel) (by decide +kernel)
theorem ks_L_go : Cond.static yL_go ∈ BIG := mem_BIG 609 (by decide +kernel) (by decide +kernel)
set_option maxHeartbeats 4000000 in
set_option maxRecDepth 100000 in
theorem h_go {l : Launch} {D : va_G} {cI cJ : ClassId} {ad : Nat → Nat} {σ σr τ' : Mem} {a0 v t : Int32} {ex : Nat} (hflag : l.stackTraces = false) (hi : injG 52 ad) (hf : f_X5_go σ a0 = some (ex, v, τ')) (ht : (ex = 0 ∧ t = 0) ∨ (ex = 1 ∧ t = 1) ∨ (ex = 3 ∧ t = 2)) (h1 : ∀ k, k < 51 → σr k = τ' k) (h2 : σr 51 = if ex = 0 then upd (σ 51) 0 v else σ 51) : MGy l yL_go cL_go 4 [(0, 9, 12, 13), (0, 9, 15, 17)] 8 176 D cI cJ ad [.ref (ad 48), .int a0, .ref (ad 51)] σ σr t := by
  refine MGy.ofW (by decide) hi ?_
  intro p e s m args below meth c hx hb hr hml hlocks hT hown hB hK hZ hN hP hA hAd hS
  have hown : s.vm.findClass RL = some m.cls := hown
  have hl := lv_entry ([.ref (ad 48), .int a0, .ref (ad 51)] : List Value) (n := 4) (Nat.le_of_ble_eq_true rfl)
  rw [lg_entry_eq]
  generalize (lg_sl ([.ref (ad 48), .int a0, .ref (ad 51)] : List Value) ++ List.replicate (4 - (lg_sl ([.ref (ad 48), .int a0, .ref (ad 51)] : List Value)).length) Slot.unset).toArray = ls at hl ⊢
  have hl : lv_has ls 4 [(0, .ref (ad 48)), (1, .int a0), (2, .ref (ad 51))] := hl
  refine lv_aload_n hx hb dL_go_0 rfl (lv_at hl 2 rfl) ?_
  refine lv_iconst (v := 0) hx hb dL_go_1 (by decide) ?_
  refine lv_aload_n hx hb dL_go_2 rfl (lv_at hl 0 rfl) ?_
  refine lv_iload_n hx hb dL_go_3 rfl (lv_at hl 1 rfl) ?_
  rcases ht with ⟨rfl, rfl⟩ | ⟨rfl, rfl⟩ | ⟨rfl, rfl⟩
  · refine g_xViG (k0 := 48) (τ := tY τ' σ) ⟨⟨hx, hb, hml, hown, hB⟩, hK, hi, hA, hAd, hP, hS⟩ hZ sub_Y (c_X5_go hflag (inj51 hi) hf) (fun _ _ => rfl) cal_X5_go kM_L_48 ⟨Nat.le_of_ble_eq_true rfl, Nat.le_of_ble_eq_true rfl⟩ (by decide) rfl rfl rfl rfl hl.1 (Nat.le_of_ble_eq_true rfl) rfl dL_go_4 (tY_1 _ _) (tY_2 _ _) (fun H locs hP hS => ?_)
    refine W.widen (k := 1) (n := 6) (by omega) (by omega) ?_
    refine lv_i2l hx hb dL_go_7 rfl ?_
    refine g_last hx hb hK hP hi hAd hS 51 (by decide) EY_o dL_go_8 (fun H locs hP hS => ?_)
    refine lv_goto (tgt := 18) hx hb dL_go_9 (by decide) ?_
    refine lv_iconst (v := 0) hx hb dL_go_18 (by decide) ?_
    exact g_iretY hx hb hr hlocks hP hS rfl (yk_out h1 h2) dL_go_19
  · refine g_xVxG (k0 := 48) (τ := tY τ' σ) ⟨⟨hx, hb, hml, hown, hB⟩, hK, hi, hA, hAd, hP, hS⟩ hZ sub_Y (c_X5_go hflag (inj51 hi) hf) (by decide) (fun _ _ => rfl) cal_X5_go kM_L_48 ⟨Nat.le_of_ble_eq_true rfl, Nat.le_of_ble_eq_true rfl⟩ (by decide) rfl rfl rfl rfl hl.1 (Nat.le_of_ble_eq_true rfl) rfl dL_go_4 ⟨Nat.le_of_ble_eq_true rfl, Nat.le_of_ble_eq_true rfl⟩ (tY_1 _ _) (tY_2 _ _) (fun q9 ce H locs hP hS hc1 hc2 hc3 => ?_)
    refine g_catch hown hB hK hN hT (by decide) (by decide) [] 9 12 [(0, 9, 15, 17)] rfl (fun z hz => absurd hz List.not_mem_nil) (by decide) hc1 hc2 hc3 ?_
    refine lv_astore_n (lv' := [(3, .ref q9), (0, .ref (ad 48)), (1, .int a0), (2, .ref (ad 51))]) hx hb dL_go_12 rfl hl (by decide) rfl (fun ls hl => ?_)
    refine lv_iconst (v := 1) hx hb dL_go_13 (by decide) ?_
    exact g_iretY hx hb hr hlocks hP hS rfl (yk_not h1 h2) dL_go_14
  · refine g_xVxG (k0 := 48) (τ := tY τ' σ) ⟨⟨hx, hb, hml, hown, hB⟩, hK, hi, hA, hAd, hP, hS⟩ hZ sub_Y (c_X5_go hflag (inj51 hi) hf) (by decide) (fun _ _ => rfl) cal_X5_go kM_L_48 ⟨Nat.le_of_ble_eq_true rfl, Nat.le_of_ble_eq_true rfl⟩ (by decide) rfl rfl rfl rfl hl.1 (Nat.le_of_ble_eq_true rfl) rfl dL_go_4 ⟨Nat.le_of_ble_eq_true rfl, Nat.le_of_ble_eq_true rfl⟩ (tY_1 _ _) (tY_2 _ _) (fun q9 ce H locs hP hS hc1 hc2 hc3 => ?_)
    refine g_catch hown hB hK hN hT (by decide) (by decide) [(0, 9, 12, 13)] 9 15 [] rfl (fun z hz => by simp only [List.mem_cons, List.not_mem_nil, or_false] at hz; rcases hz with rfl <;> first | exact ⟨1, by decide, by decide, by decide, rfl⟩) (by decide) hc1 hc2 hc3 ?_
    refine lv_astore_n (lv' := [(3, .ref q9), (0, .ref (ad 48)), (1, .int a0), (2, .ref (ad 51))]) hx hb dL_go_15 rfl hl (by decide) rfl (fun ls hl => ?_)
    refine lv_iconst (v := 2) hx hb dL_go_16 (by decide) ?_
    exact g_iretY hx hb hr hlocks hP hS rfl (yk_not h1 h2) dL_go_17
theorem kw_L_say : Cond.codeWith yL_say cL_say 4 (some .int) [(0, 9, 12, 15), (0, 9, 15, 17)] ∈ BIG := mem_BIG 623 (by decide +kernel) (by decide +kernel)
theorem ks_L_say : Cond.static yL_say ∈ BIG := mem_BIG 622 (by decide +kernel) (by decide +kernel)
set_option maxHeartbeats 4000000 in
set_option maxRecDepth 100000 in
theorem h_say {l : Launch} {D : va_G} {cI cJ : ClassId} {ad : Nat → Nat} {σ σr τ' : Mem} {a0 v t : Int32} {ex : Nat} (hflag : l.stackTraces = false) (hi : injG 52 ad) (hf : f_X5_say σ a0 = some (ex, v, τ')) (ht : (ex = 0 ∧ t = 0) ∨ (ex = 2 ∧ t = 1) ∨ (ex = 3 ∧ t = 2)) (h1 : ∀ k, k < 51 → σr k = τ' k) (h2 : σr 51 = if ex = 0 then upd (σ 51) 0 v else σ 51) : MGy l yL_say cL_say 4 [(0, 9, 12, 15), (0, 9, 15, 17)] 8 175 D cI cJ ad [.ref (ad 48), .int a0, .ref (ad 51)] σ σr t := by
  refine MGy.ofW (by decide) hi ?_
  intro p e s m args below meth c hx hb hr hml hlocks hT hown hB hK hZ hN hP hA hAd hS
  have hown : s.vm.findClass RL = some m.cls := hown
  have hl := lv_entry ([.ref (ad 48), .int a0, .ref (ad 51)] : List Value) (n := 4) (Nat.le_of_ble_eq_true rfl)
  rw [lg_entry_eq]
  generalize (lg_sl ([.ref (ad 48), .int a0, .ref (ad 51)] : List Value) ++ List.replicate (4 - (lg_sl ([.ref (ad 48), .int a0, .ref (ad 51)] : List Value)).length) Slot.unset).toArray = ls at hl ⊢
  have hl : lv_has ls 4 [(0, .ref (ad 48)), (1, .int a0), (2, .ref (ad 51))] := hl
  refine lv_aload_n hx hb dL_say_0 rfl (lv_at hl 2 rfl) ?_
  refine lv_iconst (v := 0) hx hb dL_say_1 (by decide) ?_
  refine lv_aload_n hx hb dL_say_2 rfl (lv_at hl 0 rfl) ?_
  refine lv_iload_n hx hb dL_say_3 rfl (lv_at hl 1 rfl) ?_
  rcases ht with ⟨rfl, rfl⟩ | ⟨rfl, rfl⟩ | ⟨rfl, rfl⟩
  · refine g_xViG (k0 := 48) (τ := tY τ' σ) ⟨⟨hx, hb, hml, hown, hB⟩, hK, hi, hA, hAd, hP, hS⟩ hZ sub_Y (c_X5_say hflag (inj51 hi) hf) (fun _ _ => rfl) cal_X5_say kM_L_51 ⟨Nat.le_of_ble_eq_true rfl, Nat.le_of_ble_eq_true rfl⟩ (by decide) rfl rfl rfl rfl hl.1 (Nat.le_of_ble_eq_true rfl) rfl dL_say_4 (tY_1 _ _) (tY_2 _ _) (fun H locs hP hS => ?_)
    refine W.widen (k := 1) (n := 6) (by omega) (by omega) ?_
    refine lv_i2l hx hb dL_say_7 rfl ?_
    refine g_last hx hb hK hP hi hAd hS 51 (by decide) EY_o dL_say_8 (fun H locs hP hS => ?_)
    refine lv_goto (tgt := 18) hx hb dL_say_9 (by decide) ?_
    refine lv_iconst (v := 0) hx hb dL_say_18 (by decide) ?_
    exact g_iretY hx hb hr hlocks hP hS rfl (yk_out h1 h2) dL_say_19
  · refine g_xVxG (k0 := 48) (τ := tY τ' σ) ⟨⟨hx, hb, hml, hown, hB⟩, hK, hi, hA, hAd, hP, hS⟩ hZ sub_Y (c_X5_say hflag (inj51 hi) hf) (by decide) (fun _ _ => rfl) cal_X5_say kM_L_51 ⟨Nat.le_of_ble_eq_true rfl, Nat.le_of_ble_eq_true rfl⟩ (by decide) rfl rfl rfl rfl hl.1 (Nat.le_of_ble_eq_true rfl) rfl dL_say_4 ⟨Nat.le_of_ble_eq_true rfl, Nat.le_of_ble_eq_true rfl⟩ (tY_1 _ _) (tY_2 _ _) (fun q9 ce H locs hP hS hc1 hc2 hc3 => ?_)
    refine g_catch hown hB hK hN hT (by decide) (by decide) [] 9 12 [(0, 9, 15, 17)] rfl (fun z hz => absurd hz List.not_mem_nil) (by decide) hc1 hc2 hc3 ?_
    refine lv_astore_n (lv' := [(3, .ref q9), (0, .ref (ad 48)), (1, .int a0), (2, .ref (ad 51))]) hx hb dL_say_12 rfl hl (by decide) rfl (fun ls hl => ?_)
    refine lv_iconst (v := 1) hx hb dL_say_13 (by decide) ?_
    exact g_iretY hx hb hr hlocks hP hS rfl (yk_not h1 h2) dL_say_14
  · refine g_xVxG (k0 := 48) (τ := tY τ' σ) ⟨⟨hx, hb, hml, hown, hB⟩, hK, hi, hA, hAd, hP, hS⟩ hZ sub_Y (c_X5_say hflag (inj51 hi) hf) (by decide) (fun _ _ => rfl) cal_X5_say kM_L_51 ⟨Nat.le_of_ble_eq_true rfl, Nat.le_of_ble_eq_true rfl⟩ (by decide) rfl rfl rfl rfl hl.1 (Nat.le_of_ble_eq_true rfl) rfl dL_say_4 ⟨Nat.le_of_ble_eq_true rfl, Nat.le_of_ble_eq_true rfl⟩ (tY_1 _ _) (tY_2 _ _) (fun q9 ce H locs hP hS hc1 hc2 hc3 => ?_)
    refine g_catch hown hB hK hN hT (by decide) (by decide) [(0, 9, 12, 15)] 9 15 [] rfl (fun z hz => by simp only [List.mem_cons, List.not_mem_nil, or_false] at hz; rcases hz with rfl <;> first | exact ⟨2, by decide, by decide, by decide, rfl⟩) (by decide) hc1 hc2 hc3 ?_
    refine lv_astore_n (lv' := [(3, .ref q9), (0, .ref (ad 48)), (1, .int a0), (2, .ref (ad 51))]) hx hb dL_say_15 rfl hl (by decide) rfl (fun ls hl => ?_)
    refine lv_iconst (v := 2) hx hb dL_say_16 (by decide) ?_
    exact g_iretY hx hb hr hlocks hP hS rfl (yk_not h1 h2) dL_say_17
theorem kw_L_shout : Cond.codeWith yL_shout cL_shout 4 (some .int) [(0, 9, 12, 15), (0, 9, 15, 17)] ∈ BIG := mem_BIG 630 (by decide +kernel) (by decide +kernel)
theorem ks_L_shout : Cond.static yL_shout ∈ BIG := mem_BIG 629 (by decide +kernel) (by decide +kernel)
set_option maxHeartbeats 4000000 in
set_option maxRecDepth 100000 in
theorem h_shout {l : Launch} {D : va_G} {cI cJ : ClassId} {ad : Nat → Nat} {σ σr τ' : Mem} {a0 v t : Int32} {ex : Nat} (hflag : l.stackTraces = false) (hi : injG 52 ad) (hf : f_X5_shout σ a0 = some (ex, v, τ')) (ht : (ex = 0 ∧ t = 0) ∨ (ex = 2 ∧ t = 1) ∨ (ex = 3 ∧ t = 2)) (h1 : ∀ k, k < 51 → σr k = τ' k) (h2 : σr 51 = if ex = 0 then upd (σ 51) 0 v else σ 51) : MGy l yL_shout cL_shout 4 [(0, 9, 12, 15), (0, 9, 15, 17)] 8 175 D cI cJ ad [.ref (ad 48), .int a0, .ref (ad 51)] σ σr t := by
  refine MGy.ofW (by decide) hi ?_
  intro p e s m args below meth c hx hb hr hml hlocks hT hown hB hK hZ hN hP hA hAd hS
  have hown : s.vm.findClass RL = some m.cls := hown
  have hl := lv_entry ([.ref (ad 48), .int a0, .ref (ad 51)] : List Value) (n := 4) (Nat.le_of_ble_eq_true rfl)
  rw [lg_entry_eq]
  generalize (lg_sl ([.ref (ad 48), .int a0, .ref (ad 51)] : List Value) ++ List.replicate (4 - (lg_sl ([.ref (ad 48), .int a0, .ref (ad 51)] : List Value)).length) Slot.unset).toArray = ls at hl ⊢
  have hl : lv_has ls 4 [(0, .ref (ad 48)), (1, .int a0), (2, .ref (ad 51))] := hl
  refine lv_aload_n hx hb dL_shout_0 rfl (lv_at hl 2 rfl) ?_
  refine lv_iconst (v := 0) hx hb dL_shout_1 (by decide) ?_
  refine lv_aload_n hx hb dL_shout_2 rfl (lv_at hl 0 rfl) ?_
  refine lv_iload_n hx hb dL_shout_3 rfl (lv_at hl 1 rfl) ?_
  rcases ht with ⟨rfl, rfl⟩ | ⟨rfl, rfl⟩ | ⟨rfl, rfl⟩
  · refine g_xViG (k0 := 48) (τ := tY τ' σ) ⟨⟨hx, hb, hml, hown, hB⟩, hK, hi, hA, hAd, hP, hS⟩ hZ sub_Y (c_X5_shout hflag (inj51 hi) hf) (fun _ _ => rfl) cal_X5_shout kM_L_54 ⟨Nat.le_of_ble_eq_true rfl, Nat.le_of_ble_eq_true rfl⟩ (by decide) rfl rfl rfl rfl hl.1 (Nat.le_of_ble_eq_true rfl) rfl dL_shout_4 (tY_1 _ _) (tY_2 _ _) (fun H locs hP hS => ?_)
    refine W.widen (k := 1) (n := 6) (by omega) (by omega) ?_
    refine lv_i2l hx hb dL_shout_7 rfl ?_
    refine g_last hx hb hK hP hi hAd hS 51 (by decide) EY_o dL_shout_8 (fun H locs hP hS => ?_)
    refine lv_goto (tgt := 18) hx hb dL_shout_9 (by decide) ?_
    refine lv_iconst (v := 0) hx hb dL_shout_18 (by decide) ?_
    exact g_iretY hx hb hr hlocks hP hS rfl (yk_out h1 h2) dL_shout_19
  · refine g_xVxG (k0 := 48) (τ := tY τ' σ) ⟨⟨hx, hb, hml, hown, hB⟩, hK, hi, hA, hAd, hP, hS⟩ hZ sub_Y (c_X5_shout hflag (inj51 hi) hf) (by decide) (fun _ _ => rfl) cal_X5_shout kM_L_54 ⟨Nat.le_of_ble_eq_true rfl, Nat.le_of_ble_eq_true rfl⟩ (by decide) rfl rfl rfl rfl hl.1 (Nat.le_of_ble_eq_true rfl) rfl dL_shout_4 ⟨Nat.le_of_ble_eq_true rfl, Nat.le_of_ble_eq_true rfl⟩ (tY_1 _ _) (tY_2 _ _) (fun q9 ce H locs hP hS hc1 hc2 hc3 => ?_)
    refine g_catch hown hB hK hN hT (by decide) (by decide) [] 9 12 [(0, 9, 15, 17)] rfl (fun z hz => absurd hz List.not_mem_nil) (by decide) hc1 hc2 hc3 ?_
    refine lv_astore_n (lv' := [(3, .ref q9), (0, .ref (ad 48)), (1, .int a0), (2, .ref (ad 51))]) hx hb dL_shout_12 rfl hl (by decide) rfl (fun ls hl => ?_)
    refine lv_iconst (v := 1) hx hb dL_shout_13 (by decide) ?_
    exact g_iretY hx hb hr hlocks hP hS rfl (yk_not h1 h2) dL_shout_14
  · refine g_xVxG (k0 := 48) (τ := tY τ' σ) ⟨⟨hx, hb, hml, hown, hB⟩, hK, hi, hA, hAd, hP, hS⟩ hZ sub_Y (c_X5_shout hflag (inj51 hi) hf) (by decide) (fun _ _ => rfl) cal_X5_shout kM_L_54 ⟨Nat.le_of_ble_eq_true rfl, Nat.le_of_ble_eq_true rfl⟩ (by decide) rfl rfl rfl rfl hl.1 (Nat.le_of_ble_eq_true rfl) rfl dL_shout_4 ⟨Nat.le_of_ble_eq_true rfl, Nat.le_of_ble_eq_true rfl⟩ (tY_1 _ _) (tY_2 _ _) (fun q9 ce H locs hP hS hc1 hc2 hc3 => ?_)
    refine g_catch hown hB hK hN hT (by decide) (by decide) [(0, 9, 12, 15)] 9 15 [] rfl (fun z hz => by simp only [List.mem_cons, List.not_mem_nil, or_false] at hz; rcases hz with rfl <;> first | exact ⟨2, by decide, by decide, by decide, rfl⟩) (by decide) hc1 hc2 hc3 ?_
    refine lv_astore_n (lv' := [(3, .ref q9), (0, .ref (ad 48)), (1, .int a0), (2, .ref (ad 51))]) hx hb dL_shout_15 rfl hl (by decide) rfl (fun ls hl => ?_)
    refine lv_iconst (v := 2) hx hb dL_shout_16 (by decide) ?_
    exact g_iretY hx hb hr hlocks hP hS rfl (yk_not h1 h2) dL_shout_17
theorem kw_L_take : Cond.codeWith yL_take cL_take 4 (some .int) [(0, 9, 12, 13), (0, 9, 15, 17)] ∈ BIG := mem_BIG 637 (by decide +kernel) (by decide +kernel)
theorem ks_L_take : Cond.static yL_take ∈ BIG := mem_BIG 636 (by decide +kernel) (by decide +kernel)
set_option maxHeartbeats 4000000 in
set_option maxRecDepth 100000 in
theorem h_take {l : Launch} {D : va_G} {cI cJ : ClassId} {ad : Nat → Nat} {σ σr τ' : Mem} {a0 v t : Int32} {ex : Nat} (hflag : l.stackTraces = false) (hi : injG 52 ad) (hf : f_X5_take σ a0 = some (ex, v, τ')) (ht : (ex = 0 ∧ t = 0) ∨ (ex = 1 ∧ t = 1) ∨ (ex = 3 ∧ t = 2)) (h1 : ∀ k, k < 51 → σr k = τ' k) (h2 : σr 51 = if ex = 0 then upd (σ 51) 0 v else σ 51) : MGy l yL_take cL_take 4 [(0, 9, 12, 13), (0, 9, 15, 17)] 8 176 D cI cJ ad [.ref (ad 48), .int a0, .ref (ad 51)] σ σr t := by
  refine MGy.ofW (by decide) hi ?_
  intro p e s m args below meth c hx hb hr hml hlocks hT hown hB hK hZ hN hP hA hAd hS
  have hown : s.vm.findClass RL = some m.cls := hown
  have hl := lv_entry ([.ref (ad 48), .int a0, .ref (ad 51)] : List Value) (n := 4) (Nat.le_of_ble_eq_true rfl)
  rw [lg_entry_eq]
  generalize (lg_sl ([.ref (ad 48), .int a0, .ref (ad 51)] : List Value) ++ List.replicate (4 - (lg_sl ([.ref (ad 48), .int a0, .ref (ad 51)] : List Value)).length) Slot.unset).toArray = ls at hl ⊢
  have hl : lv_has ls 4 [(0, .ref (ad 48)), (1, .int a0), (2, .ref (ad 51))] := hl
  refine lv_aload_n hx hb dL_take_0 rfl (lv_at hl 2 rfl) ?_
  refine lv_iconst (v := 0) hx hb dL_take_1 (by decide) ?_
  refine lv_aload_n hx hb dL_take_2 rfl (lv_at hl 0 rfl) ?_
  refine lv_iload_n hx hb dL_take_3 rfl (lv_at hl 1 rfl) ?_
  rcases ht with ⟨rfl, rfl⟩ | ⟨rfl, rfl⟩ | ⟨rfl, rfl⟩
  · refine g_xViG (k0 := 48) (τ := tY τ' σ) ⟨⟨hx, hb, hml, hown, hB⟩, hK, hi, hA, hAd, hP, hS⟩ hZ sub_Y (c_X5_take hflag (inj51 hi) hf) (fun _ _ => rfl) cal_X5_take kM_L_57 ⟨Nat.le_of_ble_eq_true rfl, Nat.le_of_ble_eq_true rfl⟩ (by decide) rfl rfl rfl rfl hl.1 (Nat.le_of_ble_eq_true rfl) rfl dL_take_4 (tY_1 _ _) (tY_2 _ _) (fun H locs hP hS => ?_)
    refine W.widen (k := 1) (n := 6) (by omega) (by omega) ?_
    refine lv_i2l hx hb dL_take_7 rfl ?_
    refine g_last hx hb hK hP hi hAd hS 51 (by decide) EY_o dL_take_8 (fun H locs hP hS => ?_)
    refine lv_goto (tgt := 18) hx hb dL_take_9 (by decide) ?_
    refine lv_iconst (v := 0) hx hb dL_take_18 (by decide) ?_
    exact g_iretY hx hb hr hlocks hP hS rfl (yk_out h1 h2) dL_take_19
  · refine g_xVxG (k0 := 48) (τ := tY τ' σ) ⟨⟨hx, hb, hml, hown, hB⟩, hK, hi, hA, hAd, hP, hS⟩ hZ sub_Y (c_X5_take hflag (inj51 hi) hf) (by decide) (fun _ _ => rfl) cal_X5_take kM_L_57 ⟨Nat.le_of_ble_eq_true rfl, Nat.le_of_ble_eq_true rfl⟩ (by decide) rfl rfl rfl rfl hl.1 (Nat.le_of_ble_eq_true rfl) rfl dL_take_4 ⟨Nat.le_of_ble_eq_true rfl, Nat.le_of_ble_eq_true rfl⟩ (tY_1 _ _) (tY_2 _ _) (fun q9 ce H locs hP hS hc1 hc2 hc3 => ?_)
    refine g_catch hown hB hK hN hT (by decide) (by decide) [] 9 12 [(0, 9, 15, 17)] rfl (fun z hz => absurd hz List.not_mem_nil) (by decide) hc1 hc2 hc3 ?_
    refine lv_astore_n (lv' := [(3, .ref q9), (0, .ref (ad 48)), (1, .int a0), (2, .ref (ad 51))]) hx hb dL_take_12 rfl hl (by decide) rfl (fun ls hl => ?_)
    refine lv_iconst (v := 1) hx hb dL_take_13 (by decide) ?_
    exact g_iretY hx hb hr hlocks hP hS rfl (yk_not h1 h2) dL_take_14
  · refine g_xVxG (k0 := 48) (τ := tY τ' σ) ⟨⟨hx, hb, hml, hown, hB⟩, hK, hi, hA, hAd, hP, hS⟩ hZ sub_Y (c_X5_take hflag (inj51 hi) hf) (by decide) (fun _ _ => rfl) cal_X5_take kM_L_57 ⟨Nat.le_of_ble_eq_true rfl, Nat.le_of_ble_eq_true rfl⟩ (by decide) rfl rfl rfl rfl hl.1 (Nat.le_of_ble_eq_true rfl) rfl dL_take_4 ⟨Nat.le_of_ble_eq_true rfl, Nat.le_of_ble_eq_true rfl⟩ (tY_1 _ _) (tY_2 _ _) (fun q9 ce H locs hP hS hc1 hc2 hc3 => ?_)
    refine g_catch hown hB hK hN hT (by decide) (by decide) [(0, 9, 12, 13)] 9 15 [] rfl (fun z hz => by simp only [List.mem_cons, List.not_mem_nil, or_false] at hz; rcases hz with rfl <;> first | exact ⟨1, by decide, by decide, by decide, rfl⟩) (by decide) hc1 hc2 hc3 ?_
    refine lv_astore_n (lv' := [(3, .ref q9), (0, .ref (ad 48)), (1, .int a0), (2, .ref (ad 51))]) hx hb dL_take_15 rfl hl (by decide) rfl (fun ls hl => ?_)
    refine lv_iconst (v := 2) hx hb dL_take_16 (by decide) ?_
    exact g_iretY hx hb hr hlocks hP hS rfl (yk_not h1 h2) dL_take_17
theorem kw_L_drop : Cond.codeWith yL_drop cL_drop 4 (some .int) [(0, 9, 12, 13), (0, 9, 15, 17)] ∈ BIG := mem_BIG 646 (by decide +kernel) (by decide +kernel)
theorem ks_L_drop : Cond.static yL_drop ∈ BIG := mem_BIG 645 (by decide +kernel) (by decide +kernel)
set_option maxHeartbeats 4000000 in
set_option maxRecDepth 100000 in
theorem h_drop {l : Launch} {D : va_G} {cI cJ : ClassId} {ad : Nat → Nat} {σ σr τ' : Mem} {a0 v t : Int32} {ex : Nat} (hflag : l.stackTraces = false) (hi : injG 52 ad) (hf : f_X5_drop σ a0 = some (ex, v, τ')) (ht : (ex = 0 ∧ t = 0) ∨ (ex = 1 ∧ t = 1) ∨ (ex = 3 ∧ t = 2)) (h1 : ∀ k, k < 51 → σr k = τ' k) (h2 : σr 51 = if ex = 0 then upd (σ 51) 0 v else σ 51) : MGy l yL_drop cL_drop 4 [(0, 9, 12, 13), (0, 9, 15, 17)] 8 175 D cI cJ ad [.ref (ad 48), .int a0, .ref (ad 51)] σ σr t := by
  refine MGy.ofW (by decide) hi ?_
  intro p e s m args below meth c hx hb hr hml hlocks hT hown hB hK hZ hN hP hA hAd hS
  have hown : s.vm.findClass RL = some m.cls := hown
  have hl := lv_entry ([.ref (ad 48), .int a0, .ref (ad 51)] : List Value) (n := 4) (Nat.le_of_ble_eq_true rfl)
  rw [lg_entry_eq]
  generalize (lg_sl ([.ref (ad 48), .int a0, .ref (ad 51)] : List Value) ++ List.replicate (4 - (lg_sl ([.ref (ad 48), .int a0, .ref (ad 51)] : List Value)).length) Slot.unset).toArray = ls at hl ⊢
  have hl : lv_has ls 4 [(0, .ref (ad 48)), (1, .int a0), (2, .ref (ad 51))] := hl
  refine lv_aload_n hx hb dL_drop_0 rfl (lv_at hl 2 rfl) ?_
  refine lv_iconst (v := 0) hx hb dL_drop_1 (by decide) ?_
  refine lv_aload_n hx hb dL_drop_2 rfl (lv_at hl 0 rfl) ?_
  refine lv_iload_n hx hb dL_drop_3 rfl (lv_at hl 1 rfl) ?_
  rcases ht with ⟨rfl, rfl⟩ | ⟨rfl, rfl⟩ | ⟨rfl, rfl⟩
  · refine g_xViG (k0 := 48) (τ := tY τ' σ) ⟨⟨hx, hb, hml, hown, hB⟩, hK, hi, hA, hAd, hP, hS⟩ hZ sub_Y (c_X5_drop hflag (inj51 hi) hf) (fun _ _ => rfl) cal_X5_drop kM_L_60 ⟨Nat.le_of_ble_eq_true rfl, Nat.le_of_ble_eq_true rfl⟩ (by decide) rfl rfl rfl rfl hl.1 (Nat.le_of_ble_eq_true rfl) rfl dL_drop_4 (tY_1 _ _) (tY_2 _ _) (fun H locs hP hS => ?_)
    refine W.widen (k := 1) (n := 6) (by omega) (by omega) ?_
    refine lv_i2l hx hb dL_drop_7 rfl ?_
    refine g_last hx hb hK hP hi hAd hS 51 (by decide) EY_o dL_drop_8 (fun H locs hP hS => ?_)
    refine lv_goto (tgt := 18) hx hb dL_drop_9 (by decide) ?_
    refine lv_iconst (v := 0) hx hb dL_drop_18 (by decide) ?_
    exact g_iretY hx hb hr hlocks hP hS rfl (yk_out h1 h2) dL_drop_19
  · refine g_xVxG (k0 := 48) (τ := tY τ' σ) ⟨⟨hx, hb, hml, hown, hB⟩, hK, hi, hA, hAd, hP, hS⟩ hZ sub_Y (c_X5_drop hflag (inj51 hi) hf) (by decide) (fun _ _ => rfl) cal_X5_drop kM_L_60 ⟨Nat.le_of_ble_eq_true rfl, Nat.le_of_ble_eq_true rfl⟩ (by decide) rfl rfl rfl rfl hl.1 (Nat.le_of_ble_eq_true rfl) rfl dL_drop_4 ⟨Nat.le_of_ble_eq_true rfl, Nat.le_of_ble_eq_true rfl⟩ (tY_1 _ _) (tY_2 _ _) (fun q9 ce H locs hP hS hc1 hc2 hc3 => ?_)
    refine g_catch hown hB hK hN hT (by decide) (by decide) [] 9 12 [(0, 9, 15, 17)] rfl (fun z hz => absurd hz List.not_mem_nil) (by decide) hc1 hc2 hc3 ?_
    refine lv_astore_n (lv' := [(3, .ref q9), (0, .ref (ad 48)), (1, .int a0), (2, .ref (ad 51))]) hx hb dL_drop_12 rfl hl (by decide) rfl (fun ls hl => ?_)
    refine lv_iconst (v := 1) hx hb dL_drop_13 (by decide) ?_
    exact g_iretY hx hb hr hlocks hP hS rfl (yk_not h1 h2) dL_drop_14
  · refine g_xVxG (k0 := 48) (τ := tY τ' σ) ⟨⟨hx, hb, hml, hown, hB⟩, hK, hi, hA, hAd, hP, hS⟩ hZ sub_Y (c_X5_drop hflag (inj51 hi) hf) (by decide) (fun _ _ => rfl) cal_X5_drop kM_L_60 ⟨Nat.le_of_ble_eq_true rfl, Nat.le_of_ble_eq_true rfl⟩ (by decide) rfl rfl rfl rfl hl.1 (Nat.le_of_ble_eq_true rfl) rfl dL_drop_4 ⟨Nat.le_of_ble_eq_true rfl, Nat.le_of_ble_eq_true rfl⟩ (tY_1 _ _) (tY_2 _ _) (fun q9 ce H locs hP hS hc1 hc2 hc3 => ?_)
    refine g_catch hown hB hK hN hT (by decide) (by decide) [(0, 9, 12, 13)] 9 15 [] rfl (fun z hz => by simp only [List.mem_cons, List.not_mem_nil, or_false] at hz; rcases hz with rfl <;> first | exact ⟨1, by decide, by decide, by decide, rfl⟩) (by decide) hc1 hc2 hc3 ?_
    refine lv_astore_n (lv' := [(3, .ref q9), (0, .ref (ad 48)), (1, .int a0), (2, .ref (ad 51))]) hx hb dL_drop_15 rfl hl (by decide) rfl (fun ls hl => ?_)
    refine lv_iconst (v := 2) hx hb dL_drop_16 (by decide) ?_
    exact g_iretY hx hb hr hlocks hP hS rfl (yk_not h1 h2) dL_drop_17
theorem kw_L_give : Cond.codeWith yL_give cL_give 5 (some .int) [(0, 10, 13, 13), (0, 10, 17, 17)] ∈ BIG := mem_BIG 658 (by decide +kernel) (by decide +kernel)
theorem ks_L_give : Cond.static yL_give ∈ BIG := mem_BIG 657 (by decide +kernel) (by decide +kernel)
set_option maxHeartbeats 4000000 in
set_option maxRecDepth 100000 in
theorem h_give {l : Launch} {D : va_G} {cI cJ : ClassId} {ad : Nat → Nat} {σ σr τ' : Mem} {a0 a1 v t : Int32} {ex : Nat} (hflag : l.stackTraces = false) (hi : injG 52 ad) (hf : f_X5_give σ a0 a1 = some (ex, v, τ')) (ht : (ex = 0 ∧ t = 0) ∨ (ex = 1 ∧ t = 1) ∨ (ex = 3 ∧ t = 2)) (h1 : ∀ k, k < 51 → σr k = τ' k) (h2 : σr 51 = if ex = 0 then upd (σ 51) 0 v else σ 51) : MGy l yL_give cL_give 5 [(0, 10, 13, 13), (0, 10, 17, 17)] 9 177 D cI cJ ad [.ref (ad 48), .int a0, .int a1, .ref (ad 51)] σ σr t := by
  refine MGy.ofW (by decide) hi ?_
  intro p e s m args below meth c hx hb hr hml hlocks hT hown hB hK hZ hN hP hA hAd hS
  have hown : s.vm.findClass RL = some m.cls := hown
  have hl := lv_entry ([.ref (ad 48), .int a0, .int a1, .ref (ad 51)] : List Value) (n := 5) (Nat.le_of_ble_eq_true rfl)
  rw [lg_entry_eq]
  generalize (lg_sl ([.ref (ad 48), .int a0, .int a1, .ref (ad 51)] : List Value) ++ List.replicate (5 - (lg_sl ([.ref (ad 48), .int a0, .int a1, .ref (ad 51)] : List Value)).length) Slot.unset).toArray = ls at hl ⊢
  have hl : lv_has ls 5 [(0, .ref (ad 48)), (1, .int a0), (2, .int a1), (3, .ref (ad 51))] := hl
  refine lv_aload_n hx hb dL_give_0 rfl (lv_at hl 3 rfl) ?_
  refine lv_iconst (v := 0) hx hb dL_give_1 (by decide) ?_
  refine lv_aload_n hx hb dL_give_2 rfl (lv_at hl 0 rfl) ?_
  refine lv_iload_n hx hb dL_give_3 rfl (lv_at hl 1 rfl) ?_
  refine lv_iload_n hx hb dL_give_4 rfl (lv_at hl 2 rfl) ?_
  rcases ht with ⟨rfl, rfl⟩ | ⟨rfl, rfl⟩ | ⟨rfl, rfl⟩
  · refine g_xViG (k0 := 48) (τ := tY τ' σ) ⟨⟨hx, hb, hml, hown, hB⟩, hK, hi, hA, hAd, hP, hS⟩ hZ sub_Y (c_X5_give hflag (inj51 hi) hf) (fun _ _ => rfl) cal_X5_give kM_L_63 ⟨Nat.le_of_ble_eq_true rfl, Nat.le_of_ble_eq_true rfl⟩ (by decide) rfl rfl rfl rfl hl.1 (Nat.le_of_ble_eq_true rfl) rfl dL_give_5 (tY_1 _ _) (tY_2 _ _) (fun H locs hP hS => ?_)
    refine W.widen (k := 1) (n := 6) (by omega) (by omega) ?_
    refine lv_i2l hx hb dL_give_8 rfl ?_
    refine g_last hx hb hK hP hi hAd hS 51 (by decide) EY_o dL_give_9 (fun H locs hP hS => ?_)
    refine lv_goto (tgt := 21) hx hb dL_give_10 (by decide) ?_
    refine lv_iconst (v := 0) hx hb dL_give_21 (by decide) ?_
    exact g_iretY hx hb hr hlocks hP hS rfl (yk_out h1 h2) dL_give_22
  · refine g_xVxG (k0 := 48) (τ := tY τ' σ) ⟨⟨hx, hb, hml, hown, hB⟩, hK, hi, hA, hAd, hP, hS⟩ hZ sub_Y (c_X5_give hflag (inj51 hi) hf) (by decide) (fun _ _ => rfl) cal_X5_give kM_L_63 ⟨Nat.le_of_ble_eq_true rfl, Nat.le_of_ble_eq_true rfl⟩ (by decide) rfl rfl rfl rfl hl.1 (Nat.le_of_ble_eq_true rfl) rfl dL_give_5 ⟨Nat.le_of_ble_eq_true rfl, Nat.le_of_ble_eq_true rfl⟩ (tY_1 _ _) (tY_2 _ _) (fun q9 ce H locs hP hS hc1 hc2 hc3 => ?_)
    refine g_catch hown hB hK hN hT (by decide) (by decide) [] 10 13 [(0, 10, 17, 17)] rfl (fun z hz => absurd hz List.not_mem_nil) (by decide) hc1 hc2 hc3 ?_
    refine lv_astore (lv' := [(4, .ref q9), (0, .ref (ad 48)), (1, .int a0), (2, .int a1), (3, .ref (ad 51))]) hx hb dL_give_13 hl (by decide) rfl (fun ls hl => ?_)
    refine lv_iconst (v := 1) hx hb dL_give_15 (by decide) ?_
    exact g_iretY hx hb hr hlocks hP hS rfl (yk_not h1 h2) dL_give_16
  · refine g_xVxG (k0 := 48) (τ := tY τ' σ) ⟨⟨hx, hb, hml, hown, hB⟩, hK, hi, hA, hAd, hP, hS⟩ hZ sub_Y (c_X5_give hflag (inj51 hi) hf) (by decide) (fun _ _ => rfl) cal_X5_give kM_L_63 ⟨Nat.le_of_ble_eq_true rfl, Nat.le_of_ble_eq_true rfl⟩ (by decide) rfl rfl rfl rfl hl.1 (Nat.le_of_ble_eq_true rfl) rfl dL_give_5 ⟨Nat.le_of_ble_eq_true rfl, Nat.le_of_ble_eq_true rfl⟩ (tY_1 _ _) (tY_2 _ _) (fun q9 ce H locs hP hS hc1 hc2 hc3 => ?_)
    refine g_catch hown hB hK hN hT (by decide) (by decide) [(0, 10, 13, 13)] 10 17 [] rfl (fun z hz => by simp only [List.mem_cons, List.not_mem_nil, or_false] at hz; rcases hz with rfl <;> first | exact ⟨1, by decide, by decide, by decide, rfl⟩) (by decide) hc1 hc2 hc3 ?_
    refine lv_astore (lv' := [(4, .ref q9), (0, .ref (ad 48)), (1, .int a0), (2, .int a1), (3, .ref (ad 51))]) hx hb dL_give_17 hl (by decide) rfl (fun ls hl => ?_)
    refine lv_iconst (v := 2) hx hb dL_give_19 (by decide) ?_
    exact g_iretY hx hb hr hlocks hP hS rfl (yk_not h1 h2) dL_give_20
theorem kw_L_pay : Cond.codeWith yL_pay cL_pay 5 (some .int) [(0, 10, 13, 13), (0, 10, 17, 15), (0, 10, 21, 17)] ∈ BIG := mem_BIG 677 (by decide +kernel) (by decide +kernel)
theorem ks_L_pay : Cond.static yL_pay ∈ BIG := mem_BIG 676 (by decide +kernel) (by decide +kernel)
set_option maxHeartbeats 4000000 in
set_option maxRecDepth 100000 in
theorem h_pay {l : Launch} {D : va_G} {cI cJ : ClassId} {ad : Nat → Nat} {σ σr τ' : Mem} {a0 a1 v t : Int32} {ex : Nat} (hflag : l.stackTraces = false) (hi : injG 52 ad) (hf : f_X5_pay σ a0 a1 = some (ex, v, τ')) (ht : (ex = 0 ∧ t = 0) ∨ (ex = 1 ∧ t = 1) ∨ (ex = 2 ∧ t = 2) ∨ (ex = 3 ∧ t = 3)) (h1 : ∀ k, k < 51 → σr k = τ' k) (h2 : σr 51 = if ex = 0 then upd (σ 51) 0 v else σ 51) : MGy l yL_pay cL_pay 5 [(0, 10, 13, 13), (0, 10, 17, 15), (0, 10, 21, 17)] 9 177 D cI cJ ad [.ref (ad 48), .int a0, .int a1, .ref (ad 51)] σ σr t := by
  refine MGy.ofW (by decide) hi ?_
  intro p e s m args below meth c hx hb hr hml hlocks hT hown hB hK hZ hN hP hA hAd hS
  have hown : s.vm.findClass RL = some m.cls := hown
  have hl := lv_entry ([.ref (ad 48), .int a0, .int a1, .ref (ad 51)] : List Value) (n := 5) (Nat.le_of_ble_eq_true rfl)
  rw [lg_entry_eq]
  generalize (lg_sl ([.ref (ad 48), .int a0, .int a1, .ref (ad 51)] : List Value) ++ List.replicate (5 - (lg_sl ([.ref (ad 48), .int a0, .int a1, .ref (ad 51)] : List Value)).length) Slot.unset).toArray = ls at hl ⊢
  have hl : lv_has ls 5 [(0, .ref (ad 48)), (1, .int a0), (2, .int a1), (3, .ref (ad 51))] := hl
  refine lv_aload_n hx hb dL_pay_0 rfl (lv_at hl 3 rfl) ?_
  refine lv_iconst (v := 0) hx hb dL_pay_1 (by decide) ?_
  refine lv_aload_n hx hb dL_pay_2 rfl (lv_at hl 0 rfl) ?_
  refine lv_iload_n hx hb dL_pay_3 rfl (lv_at hl 1 rfl) ?_
  refine lv_iload_n hx hb dL_pay_4 rfl (lv_at hl 2 rfl) ?_
  rcases ht with ⟨rfl, rfl⟩ | ⟨rfl, rfl⟩ | ⟨rfl, rfl⟩ | ⟨rfl, rfl⟩
  · refine g_xViG (k0 := 48) (τ := tY τ' σ) ⟨⟨hx, hb, hml, hown, hB⟩, hK, hi, hA, hAd, hP, hS⟩ hZ sub_Y (c_X5_pay hflag (inj51 hi) hf) (fun _ _ => rfl) cal_X5_pay kM_L_67 ⟨Nat.le_of_ble_eq_true rfl, Nat.le_of_ble_eq_true rfl⟩ (by decide) rfl rfl rfl rfl hl.1 (Nat.le_of_ble_eq_true rfl) rfl dL_pay_5 (tY_1 _ _) (tY_2 _ _) (fun H locs hP hS => ?_)
    refine W.widen (k := 1) (n := 6) (by omega) (by omega) ?_
    refine lv_i2l hx hb dL_pay_8 rfl ?_
    refine g_last hx hb hK hP hi hAd hS 51 (by decide) EY_o dL_pay_9 (fun H locs hP hS => ?_)
    refine lv_goto (tgt := 25) hx hb dL_pay_10 (by decide) ?_
    refine lv_iconst (v := 0) hx hb dL_pay_25 (by decide) ?_
    exact g_iretY hx hb hr hlocks hP hS rfl (yk_out h1 h2) dL_pay_26
  · refine g_xVxG (k0 := 48) (τ := tY τ' σ) ⟨⟨hx, hb, hml, hown, hB⟩, hK, hi, hA, hAd, hP, hS⟩ hZ sub_Y (c_X5_pay hflag (inj51 hi) hf) (by decide) (fun _ _ => rfl) cal_X5_pay kM_L_67 ⟨Nat.le_of_ble_eq_true rfl, Nat.le_of_ble_eq_true rfl⟩ (by decide) rfl rfl rfl rfl hl.1 (Nat.le_of_ble_eq_true rfl) rfl dL_pay_5 ⟨Nat.le_of_ble_eq_true rfl, Nat.le_of_ble_eq_true rfl⟩ (tY_1 _ _) (tY_2 _ _) (fun q9 ce H locs hP hS hc1 hc2 hc3 => ?_)
    refine g_catch hown hB hK hN hT (by decide) (by decide) [] 10 13 [(0, 10, 17, 15), (0, 10, 21, 17)] rfl (fun z hz => absurd hz List.not_mem_nil) (by decide) hc1 hc2 hc3 ?_
    refine lv_astore (lv' := [(4, .ref q9), (0, .ref (ad 48)), (1, .int a0), (2, .int a1), (3, .ref (ad 51))]) hx hb dL_pay_13 hl (by decide) rfl (fun ls hl => ?_)
    refine lv_iconst (v := 1) hx hb dL_pay_15 (by decide) ?_
    exact g_iretY hx hb hr hlocks hP hS rfl (yk_not h1 h2) dL_pay_16
  · refine g_xVxG (k0 := 48) (τ := tY τ' σ) ⟨⟨hx, hb, hml, hown, hB⟩, hK, hi, hA, hAd, hP, hS⟩ hZ sub_Y (c_X5_pay hflag (inj51 hi) hf) (by decide) (fun _ _ => rfl) cal_X5_pay kM_L_67 ⟨Nat.le_of_ble_eq_true rfl, Nat.le_of_ble_eq_true rfl⟩ (by decide) rfl rfl rfl rfl hl.1 (Nat.le_of_ble_eq_true rfl) rfl dL_pay_5 ⟨Nat.le_of_ble_eq_true rfl, Nat.le_of_ble_eq_true rfl⟩ (tY_1 _ _) (tY_2 _ _) (fun q9 ce H locs hP hS hc1 hc2 hc3 => ?_)
    refine g_catch hown hB hK hN hT (by decide) (by decide) [(0, 10, 13, 13)] 10 17 [(0, 10, 21, 17)] rfl (fun z hz => by simp only [List.mem_cons, List.not_mem_nil, or_false] at hz; rcases hz with rfl <;> first | exact ⟨1, by decide, by decide, by decide, rfl⟩) (by decide) hc1 hc2 hc3 ?_
    refine lv_astore (lv' := [(4, .ref q9), (0, .ref (ad 48)), (1, .int a0), (2, .int a1), (3, .ref (ad 51))]) hx hb dL_pay_17 hl (by decide) rfl (fun ls hl => ?_)
    refine lv_iconst (v := 2) hx hb dL_pay_19 (by decide) ?_
    exact g_iretY hx hb hr hlocks hP hS rfl (yk_not h1 h2) dL_pay_20
  · refine g_xVxG (k0 := 48) (τ := tY τ' σ) ⟨⟨hx, hb, hml, hown, hB⟩, hK, hi, hA, hAd, hP, hS⟩ hZ sub_Y (c_X5_pay hflag (inj51 hi) hf) (by decide) (fun _ _ => rfl) cal_X5_pay kM_L_67 ⟨Nat.le_of_ble_eq_true rfl, Nat.le_of_ble_eq_true rfl⟩ (by decide) rfl rfl rfl rfl hl.1 (Nat.le_of_ble_eq_true rfl) rfl dL_pay_5 ⟨Nat.le_of_ble_eq_true rfl, Nat.le_of_ble_eq_true rfl⟩ (tY_1 _ _) (tY_2 _ _) (fun q9 ce H locs hP hS hc1 hc2 hc3 => ?_)
    refine g_catch hown hB hK hN hT (by decide) (by decide) [(0, 10, 13, 13), (0, 10, 17, 15)] 10 21 [] rfl (fun z hz => by simp only [List.mem_cons, List.not_mem_nil, or_false] at hz; rcases hz with rfl | rfl <;> first | exact ⟨1, by decide, by decide, by decide, rfl⟩ | exact ⟨2, by decide, by decide, by decide, rfl⟩) (by decide) hc1 hc2 hc3 ?_
    refine lv_astore (lv' := [(4, .ref q9), (0, .ref (ad 48)), (1, .int a0), (2, .int a1), (3, .ref (ad 51))]) hx hb dL_pay_21 hl (by decide) rfl (fun ls hl => ?_)
    refine lv_iconst (v := 3) hx hb dL_pay_23 (by decide) ?_
    exact g_iretY hx hb hr hlocks hP hS rfl (yk_not h1 h2) dL_pay_24
theorem kw_L_buy : Cond.codeWith yL_buy cL_buy 4 (some .int) [(0, 9, 12, 13), (0, 9, 15, 17)] ∈ BIG := mem_BIG 688 (by decide +kernel) (by decide +kernel)
theorem ks_L_buy : Cond.static yL_buy ∈ BIG := mem_BIG 687 (by decide +kernel) (by decide +kernel)
set_option maxHeartbeats 4000000 in
set_option maxRecDepth 100000 in
theorem h_buy {l : Launch} {D : va_G} {cI cJ : ClassId} {ad : Nat → Nat} {σ σr τ' : Mem} {a0 v t : Int32} {ex : Nat} (hflag : l.stackTraces = false) (hi : injG 52 ad) (hf : f_X5_buy σ a0 = some (ex, v, τ')) (ht : (ex = 0 ∧ t = 0) ∨ (ex = 1 ∧ t = 1) ∨ (ex = 3 ∧ t = 2)) (h1 : ∀ k, k < 51 → σr k = τ' k) (h2 : σr 51 = if ex = 0 then upd (σ 51) 0 v else σ 51) : MGy l yL_buy cL_buy 4 [(0, 9, 12, 13), (0, 9, 15, 17)] 8 177 D cI cJ ad [.ref (ad 48), .int a0, .ref (ad 51)] σ σr t := by
  refine MGy.ofW (by decide) hi ?_
  intro p e s m args below meth c hx hb hr hml hlocks hT hown hB hK hZ hN hP hA hAd hS
  have hown : s.vm.findClass RL = some m.cls := hown
  have hl := lv_entry ([.ref (ad 48), .int a0, .ref (ad 51)] : List Value) (n := 4) (Nat.le_of_ble_eq_true rfl)
  rw [lg_entry_eq]
  generalize (lg_sl ([.ref (ad 48), .int a0, .ref (ad 51)] : List Value) ++ List.replicate (4 - (lg_sl ([.ref (ad 48), .int a0, .ref (ad 51)] : List Value)).length) Slot.unset).toArray = ls at hl ⊢
  have hl : lv_has ls 4 [(0, .ref (ad 48)), (1, .int a0), (2, .ref (ad 51))] := hl
  refine lv_aload_n hx hb dL_buy_0 rfl (lv_at hl 2 rfl) ?_
  refine lv_iconst (v := 0) hx hb dL_buy_1 (by decide) ?_
  refine lv_aload_n hx hb dL_buy_2 rfl (lv_at hl 0 rfl) ?_
  refine lv_iload_n hx hb dL_buy_3 rfl (lv_at hl 1 rfl) ?_
  rcases ht with ⟨rfl, rfl⟩ | ⟨rfl, rfl⟩ | ⟨rfl, rfl⟩
  · refine g_xViG (k0 := 48) (τ := tY τ' σ) ⟨⟨hx, hb, hml, hown, hB⟩, hK, hi, hA, hAd, hP, hS⟩ hZ sub_Y (c_X5_buy hflag (inj51 hi) hf) (fun _ _ => rfl) cal_X5_buy kM_L_70 ⟨Nat.le_of_ble_eq_true rfl, Nat.le_of_ble_eq_true rfl⟩ (by decide) rfl rfl rfl rfl hl.1 (Nat.le_of_ble_eq_true rfl) rfl dL_buy_4 (tY_1 _ _) (tY_2 _ _) (fun H locs hP hS => ?_)
    refine W.widen (k := 1) (n := 6) (by omega) (by omega) ?_
    refine lv_i2l hx hb dL_buy_7 rfl ?_
    refine g_last hx hb hK hP hi hAd hS 51 (by decide) EY_o dL_buy_8 (fun H locs hP hS => ?_)
    refine lv_goto (tgt := 18) hx hb dL_buy_9 (by decide) ?_
    refine lv_iconst (v := 0) hx hb dL_buy_18 (by decide) ?_
    exact g_iretY hx hb hr hlocks hP hS rfl (yk_out h1 h2) dL_buy_19
  · refine g_xVxG (k0 := 48) (τ := tY τ' σ) ⟨⟨hx, hb, hml, hown, hB⟩, hK, hi, hA, hAd, hP, hS⟩ hZ sub_Y (c_X5_buy hflag (inj51 hi) hf) (by decide) (fun _ _ => rfl) cal_X5_buy kM_L_70 ⟨Nat.le_of_ble_eq_true rfl, Nat.le_of_ble_eq_true rfl⟩ (by decide) rfl rfl rfl rfl hl.1 (Nat.le_of_ble_eq_true rfl) rfl dL_buy_4 ⟨Nat.le_of_ble_eq_true rfl, Nat.le_of_ble_eq_true rfl⟩ (tY_1 _ _) (tY_2 _ _) (fun q9 ce H locs hP hS hc1 hc2 hc3 => ?_)
    refine g_catch hown hB hK hN hT (by decide) (by decide) [] 9 12 [(0, 9, 15, 17)] rfl (fun z hz => absurd hz List.not_mem_nil) (by decide) hc1 hc2 hc3 ?_
    refine lv_astore_n (lv' := [(3, .ref q9), (0, .ref (ad 48)), (1, .int a0), (2, .ref (ad 51))]) hx hb dL_buy_12 rfl hl (by decide) rfl (fun ls hl => ?_)
    refine lv_iconst (v := 1) hx hb dL_buy_13 (by decide) ?_
    exact g_iretY hx hb hr hlocks hP hS rfl (yk_not h1 h2) dL_buy_14
  · refine g_xVxG (k0 := 48) (τ := tY τ' σ) ⟨⟨hx, hb, hml, hown, hB⟩, hK, hi, hA, hAd, hP, hS⟩ hZ sub_Y (c_X5_buy hflag (inj51 hi) hf) (by decide) (fun _ _ => rfl) cal_X5_buy kM_L_70 ⟨Nat.le_of_ble_eq_true rfl, Nat.le_of_ble_eq_true rfl⟩ (by decide) rfl rfl rfl rfl hl.1 (Nat.le_of_ble_eq_true rfl) rfl dL_buy_4 ⟨Nat.le_of_ble_eq_true rfl, Nat.le_of_ble_eq_true rfl⟩ (tY_1 _ _) (tY_2 _ _) (fun q9 ce H locs hP hS hc1 hc2 hc3 => ?_)
    refine g_catch hown hB hK hN hT (by decide) (by decide) [(0, 9, 12, 13)] 9 15 [] rfl (fun z hz => by simp only [List.mem_cons, List.not_mem_nil, or_false] at hz; rcases hz with rfl <;> first | exact ⟨1, by decide, by decide, by decide, rfl⟩) (by decide) hc1 hc2 hc3 ?_
    refine lv_astore_n (lv' := [(3, .ref q9), (0, .ref (ad 48)), (1, .int a0), (2, .ref (ad 51))]) hx hb dL_buy_15 rfl hl (by decide) rfl (fun ls hl => ?_)
    refine lv_iconst (v := 2) hx hb dL_buy_16 (by decide) ?_
    exact g_iretY hx hb hr hlocks hP hS rfl (yk_not h1 h2) dL_buy_17
theorem kw_L_sell : Cond.codeWith yL_sell cL_sell 4 (some .int) [(0, 9, 12, 13), (0, 9, 15, 17)] ∈ BIG := mem_BIG 701 (by decide +kernel) (by decide +kernel)
theorem ks_L_sell : Cond.static yL_sell ∈ BIG := mem_BIG 700 (by decide +kernel) (by decide +kernel)
set_option maxHeartbeats 4000000 in
set_option maxRecDepth 100000 in
theorem h_sell {l : Launch} {D : va_G} {cI cJ : ClassId} {ad : Nat → Nat} {σ σr τ' : Mem} {a0 v t : Int32} {ex : Nat} (hflag : l.stackTraces = false) (hi : injG 52 ad) (hf : f_X5_sell σ a0 = some (ex, v, τ')) (ht : (ex = 0 ∧ t = 0) ∨ (ex = 1 ∧ t = 1) ∨ (ex = 3 ∧ t = 2)) (h1 : ∀ k, k < 51 → σr k = τ' k) (h2 : σr 51 = if ex = 0 then upd (σ 51) 0 v else σ 51) : MGy l yL_sell cL_sell 4 [(0, 9, 12, 13), (0, 9, 15, 17)] 8 177 D cI cJ ad [.ref (ad 48), .int a0, .ref (ad 51)] σ σr t := by
  refine MGy.ofW (by decide) hi ?_
  intro p e s m args below meth c hx hb hr hml hlocks hT hown hB hK hZ hN hP hA hAd hS
  have hown : s.vm.findClass RL = some m.cls := hown
  have hl := lv_entry ([.ref (ad 48), .int a0, .ref (ad 51)] : List Value) (n := 4) (Nat.le_of_ble_eq_true rfl)
  rw [lg_entry_eq]
  generalize (lg_sl ([.ref (ad 48), .int a0, .ref (ad 51)] : List Value) ++ List.replicate (4 - (lg_sl ([.ref (ad 48), .int a0, .ref (ad 51)] : List Value)).length) Slot.unset).toArray = ls at hl ⊢
  have hl : lv_has ls 4 [(0, .ref (ad 48)), (1, .int a0), (2, .ref (ad 51))] := hl
  refine lv_aload_n hx hb dL_sell_0 rfl (lv_at hl 2 rfl) ?_
  refine lv_iconst (v := 0) hx hb dL_sell_1 (by decide) ?_
  refine lv_aload_n hx hb dL_sell_2 rfl (lv_at hl 0 rfl) ?_
  refine lv_iload_n hx hb dL_sell_3 rfl (lv_at hl 1 rfl) ?_
  rcases ht with ⟨rfl, rfl⟩ | ⟨rfl, rfl⟩ | ⟨rfl, rfl⟩
  · refine g_xViG (k0 := 48) (τ := tY τ' σ) ⟨⟨hx, hb, hml, hown, hB⟩, hK, hi, hA, hAd, hP, hS⟩ hZ sub_Y (c_X5_sell hflag (inj51 hi) hf) (fun _ _ => rfl) cal_X5_sell kM_L_73 ⟨Nat.le_of_ble_eq_true rfl, Nat.le_of_ble_eq_true rfl⟩ (by decide) rfl rfl rfl rfl hl.1 (Nat.le_of_ble_eq_true rfl) rfl dL_sell_4 (tY_1 _ _) (tY_2 _ _) (fun H locs hP hS => ?_)
    refine W.widen (k := 1) (n := 6) (by omega) (by omega) ?_
    refine lv_i2l hx hb dL_sell_7 rfl ?_
    refine g_last hx hb hK hP hi hAd hS 51 (by decide) EY_o dL_sell_8 (fun H locs hP hS => ?_)
    refine lv_goto (tgt := 18) hx hb dL_sell_9 (by decide) ?_
    refine lv_iconst (v := 0) hx hb dL_sell_18 (by decide) ?_
    exact g_iretY hx hb hr hlocks hP hS rfl (yk_out h1 h2) dL_sell_19
  · refine g_xVxG (k0 := 48) (τ := tY τ' σ) ⟨⟨hx, hb, hml, hown, hB⟩, hK, hi, hA, hAd, hP, hS⟩ hZ sub_Y (c_X5_sell hflag (inj51 hi) hf) (by decide) (fun _ _ => rfl) cal_X5_sell kM_L_73 ⟨Nat.le_of_ble_eq_true rfl, Nat.le_of_ble_eq_true rfl⟩ (by decide) rfl rfl rfl rfl hl.1 (Nat.le_of_ble_eq_true rfl) rfl dL_sell_4 ⟨Nat.le_of_ble_eq_true rfl, Nat.le_of_ble_eq_true rfl⟩ (tY_1 _ _) (tY_2 _ _) (fun q9 ce H locs hP hS hc1 hc2 hc3 => ?_)
    refine g_catch hown hB hK hN hT (by decide) (by decide) [] 9 12 [(0, 9, 15, 17)] rfl (fun z hz => absurd hz List.not_mem_nil) (by decide) hc1 hc2 hc3 ?_
    refine lv_astore_n (lv' := [(3, .ref q9), (0, .ref (ad 48)), (1, .int a0), (2, .ref (ad 51))]) hx hb dL_sell_12 rfl hl (by decide) rfl (fun ls hl => ?_)
    refine lv_iconst (v := 1) hx hb dL_sell_13 (by decide) ?_
    exact g_iretY hx hb hr hlocks hP hS rfl (yk_not h1 h2) dL_sell_14
  · refine g_xVxG (k0 := 48) (τ := tY τ' σ) ⟨⟨hx, hb, hml, hown, hB⟩, hK, hi, hA, hAd, hP, hS⟩ hZ sub_Y (c_X5_sell hflag (inj51 hi) hf) (by decide) (fun _ _ => rfl) cal_X5_sell kM_L_73 ⟨Nat.le_of_ble_eq_true rfl, Nat.le_of_ble_eq_true rfl⟩ (by decide) rfl rfl rfl rfl hl.1 (Nat.le_of_ble_eq_true rfl) rfl dL_sell_4 ⟨Nat.le_of_ble_eq_true rfl, Nat.le_of_ble_eq_true rfl⟩ (tY_1 _ _) (tY_2 _ _) (fun q9 ce H locs hP hS hc1 hc2 hc3 => ?_)
    refine g_catch hown hB hK hN hT (by decide) (by decide) [(0, 9, 12, 13)] 9 15 [] rfl (fun z hz => by simp only [List.mem_cons, List.not_mem_nil, or_false] at hz; rcases hz with rfl <;> first | exact ⟨1, by decide, by decide, by decide, rfl⟩) (by decide) hc1 hc2 hc3 ?_
    refine lv_astore_n (lv' := [(3, .ref q9), (0, .ref (ad 48)), (1, .int a0), (2, .ref (ad 51))]) hx hb dL_sell_15 rfl hl (by decide) rfl (fun ls hl => ?_)
    refine lv_iconst (v := 2) hx hb dL_sell_16 (by decide) ?_
    exact g_iretY hx hb hr hlocks hP hS rfl (yk_not h1 h2) dL_sell_17
theorem kw_L_attack : Cond.codeWith yL_attack cL_attack 4 (some .int) [(0, 9, 12, 13), (0, 9, 15, 17)] ∈ BIG := mem_BIG 709 (by decide +kernel) (by decide +kernel)
theorem ks_L_attack : Cond.static yL_attack ∈ BIG := mem_BIG 708 (by decide +kernel) (by decide +kernel)
set_option maxHeartbeats 4000000 in
set_option maxRecDepth 100000 in
theorem h_attack {l : Launch} {D : va_G} {cI cJ : ClassId} {ad : Nat → Nat} {σ σr τ' : Mem} {a0 v t : Int32} {ex : Nat} (hflag : l.stackTraces = false) (hi : injG 52 ad) (hf : f_X5_attack σ a0 = some (ex, v, τ')) (ht : (ex = 0 ∧ t = 0) ∨ (ex = 1 ∧ t = 1) ∨ (ex = 3 ∧ t = 2)) (h1 : ∀ k, k < 51 → σr k = τ' k) (h2 : σr 51 = if ex = 0 then upd (σ 51) 0 v else σ 51) : MGy l yL_attack cL_attack 4 [(0, 9, 12, 13), (0, 9, 15, 17)] 9 175 D cI cJ ad [.ref (ad 48), .int a0, .ref (ad 51)] σ σr t := by
  refine MGy.ofW (by decide) hi ?_
  intro p e s m args below meth c hx hb hr hml hlocks hT hown hB hK hZ hN hP hA hAd hS
  have hown : s.vm.findClass RL = some m.cls := hown
  have hl := lv_entry ([.ref (ad 48), .int a0, .ref (ad 51)] : List Value) (n := 4) (Nat.le_of_ble_eq_true rfl)
  rw [lg_entry_eq]
  generalize (lg_sl ([.ref (ad 48), .int a0, .ref (ad 51)] : List Value) ++ List.replicate (4 - (lg_sl ([.ref (ad 48), .int a0, .ref (ad 51)] : List Value)).length) Slot.unset).toArray = ls at hl ⊢
  have hl : lv_has ls 4 [(0, .ref (ad 48)), (1, .int a0), (2, .ref (ad 51))] := hl
  refine lv_aload_n hx hb dL_attack_0 rfl (lv_at hl 2 rfl) ?_
  refine lv_iconst (v := 0) hx hb dL_attack_1 (by decide) ?_
  refine lv_aload_n hx hb dL_attack_2 rfl (lv_at hl 0 rfl) ?_
  refine lv_iload_n hx hb dL_attack_3 rfl (lv_at hl 1 rfl) ?_
  rcases ht with ⟨rfl, rfl⟩ | ⟨rfl, rfl⟩ | ⟨rfl, rfl⟩
  · refine g_xViG (k0 := 48) (τ := tY τ' σ) ⟨⟨hx, hb, hml, hown, hB⟩, hK, hi, hA, hAd, hP, hS⟩ hZ sub_Y (c_X5_attack hflag (inj51 hi) hf) (fun _ _ => rfl) cal_X5_attack kM_L_76 ⟨Nat.le_of_ble_eq_true rfl, Nat.le_of_ble_eq_true rfl⟩ (by decide) rfl rfl rfl rfl hl.1 (Nat.le_of_ble_eq_true rfl) rfl dL_attack_4 (tY_1 _ _) (tY_2 _ _) (fun H locs hP hS => ?_)
    refine W.widen (k := 1) (n := 6) (by omega) (by omega) ?_
    refine lv_i2l hx hb dL_attack_7 rfl ?_
    refine g_last hx hb hK hP hi hAd hS 51 (by decide) EY_o dL_attack_8 (fun H locs hP hS => ?_)
    refine lv_goto (tgt := 18) hx hb dL_attack_9 (by decide) ?_
    refine lv_iconst (v := 0) hx hb dL_attack_18 (by decide) ?_
    exact g_iretY hx hb hr hlocks hP hS rfl (yk_out h1 h2) dL_attack_19
  · refine g_xVxG (k0 := 48) (τ := tY τ' σ) ⟨⟨hx, hb, hml, hown, hB⟩, hK, hi, hA, hAd, hP, hS⟩ hZ sub_Y (c_X5_attack hflag (inj51 hi) hf) (by decide) (fun _ _ => rfl) cal_X5_attack kM_L_76 ⟨Nat.le_of_ble_eq_true rfl, Nat.le_of_ble_eq_true rfl⟩ (by decide) rfl rfl rfl rfl hl.1 (Nat.le_of_ble_eq_true rfl) rfl dL_attack_4 ⟨Nat.le_of_ble_eq_true rfl, Nat.le_of_ble_eq_true rfl⟩ (tY_1 _ _) (tY_2 _ _) (fun q9 ce H locs hP hS hc1 hc2 hc3 => ?_)
    refine g_catch hown hB hK hN hT (by decide) (by decide) [] 9 12 [(0, 9, 15, 17)] rfl (fun z hz => absurd hz List.not_mem_nil) (by decide) hc1 hc2 hc3 ?_
    refine lv_astore_n (lv' := [(3, .ref q9), (0, .ref (ad 48)), (1, .int a0), (2, .ref (ad 51))]) hx hb dL_attack_12 rfl hl (by decide) rfl (fun ls hl => ?_)
    refine lv_iconst (v := 1) hx hb dL_attack_13 (by decide) ?_
    exact g_iretY hx hb hr hlocks hP hS rfl (yk_not h1 h2) dL_attack_14
  · refine g_xVxG (k0 := 48) (τ := tY τ' σ) ⟨⟨hx, hb, hml, hown, hB⟩, hK, hi, hA, hAd, hP, hS⟩ hZ sub_Y (c_X5_attack hflag (inj51 hi) hf) (by decide) (fun _ _ => rfl) cal_X5_attack kM_L_76 ⟨Nat.le_of_ble_eq_true rfl, Nat.le_of_ble_eq_true rfl⟩ (by decide) rfl rfl rfl rfl hl.1 (Nat.le_of_ble_eq_true rfl) rfl dL_attack_4 ⟨Nat.le_of_ble_eq_true rfl, Nat.le_of_ble_eq_true rfl⟩ (tY_1 _ _) (tY_2 _ _) (fun q9 ce H locs hP hS hc1 hc2 hc3 => ?_)
    refine g_catch hown hB hK hN hT (by decide) (by decide) [(0, 9, 12, 13)] 9 15 [] rfl (fun z hz => by simp only [List.mem_cons, List.not_mem_nil, or_false] at hz; rcases hz with rfl <;> first | exact ⟨1, by decide, by decide, by decide, rfl⟩) (by decide) hc1 hc2 hc3 ?_
    refine lv_astore_n (lv' := [(3, .ref q9), (0, .ref (ad 48)), (1, .int a0), (2, .ref (ad 51))]) hx hb dL_attack_15 rfl hl (by decide) rfl (fun ls hl => ?_)
    refine lv_iconst (v := 2) hx hb dL_attack_16 (by decide) ?_
    exact g_iretY hx hb hr hlocks hP hS rfl (yk_not h1 h2) dL_attack_17
theorem kw_L_rest : Cond.codeWith yL_rest cL_rest 3 (some .int) [(0, 8, 11, 17)] ∈ BIG := mem_BIG 716 (by decide +kernel) (by decide +kernel)
theorem ks_L_rest : Cond.static yL_rest ∈ BIG := mem_BIG 715 (by decide +kernel) (by decide +kernel)
set_option maxHeartbeats 4000000 in
set_option maxRecDepth 100000 in
theorem h_rest {l : Launch} {D : va_G} {cI cJ : ClassId} {ad : Nat → Nat} {σ σr τ' : Mem} { v t : Int32} {ex : Nat} (hflag : l.stackTraces = false) (hi : injG 52 ad) (hf : f_X5_rest σ = some (ex, v, τ')) (ht : (ex = 0 ∧ t = 0) ∨ (ex = 3 ∧ t = 1)) (h1 : ∀ k, k < 51 → σr k = τ' k) (h2 : σr 51 = if ex = 0 then upd (σ 51) 0 v else σ 51) : MGy l yL_rest cL_rest 3 [(0, 8, 11, 17)] 8 174 D cI cJ ad [.ref (ad 48), .ref (ad 51)] σ σr t := by
  refine MGy.ofW (by decide) hi ?_
  intro p e s m args below meth c hx hb hr hml hlocks hT hown hB hK hZ hN hP hA hAd hS
  have hown : s.vm.findClass RL = some m.cls := hown
  have hl := lv_entry ([.ref (ad 48), .ref (ad 51)] : List Value) (n := 3) (Nat.le_of_ble_eq_true rfl)
  rw [lg_entry_eq]
  generalize (lg_sl ([.ref (ad 48), .ref (ad 51)] : List Value) ++ List.replicate (3 - (lg_sl ([.ref (ad 48), .ref (ad 51)] : List Value)).length) Slot.unset).toArray = ls at hl ⊢
  have hl : lv_has ls 3 [(0, .ref (ad 48)), (1, .ref (ad 51))] := hl
  refine lv_aload_n hx hb dL_rest_0 rfl (lv_at hl 1 rfl) ?_
  refine lv_iconst (v := 0) hx hb dL_rest_1 (by decide) ?_
  refine lv_aload_n hx hb dL_rest_2 rfl (lv_at hl 0 rfl) ?_
  rcases ht with ⟨rfl, rfl⟩ | ⟨rfl, rfl⟩
  · refine g_xViG (k0 := 48) (τ := tY τ' σ) ⟨⟨hx, hb, hml, hown, hB⟩, hK, hi, hA, hAd, hP, hS⟩ hZ sub_Y (c_X5_rest hflag (inj51 hi) hf) (fun _ _ => rfl) cal_X5_rest kM_L_79 ⟨Nat.le_of_ble_eq_true rfl, Nat.le_of_ble_eq_true rfl⟩ (by decide) rfl rfl rfl rfl hl.1 (Nat.le_of_ble_eq_true rfl) rfl dL_rest_3 (tY_1 _ _) (tY_2 _ _) (fun H locs hP hS => ?_)
    refine W.widen (k := 1) (n := 6) (by omega) (by omega) ?_
    refine lv_i2l hx hb dL_rest_6 rfl ?_
    refine g_last hx hb hK hP hi hAd hS 51 (by decide) EY_o dL_rest_7 (fun H locs hP hS => ?_)
    refine lv_goto (tgt := 14) hx hb dL_rest_8 (by decide) ?_
    refine lv_iconst (v := 0) hx hb dL_rest_14 (by decide) ?_
    exact g_iretY hx hb hr hlocks hP hS rfl (yk_out h1 h2) dL_rest_15
  · refine g_xVxG (k0 := 48) (τ := tY τ' σ) ⟨⟨hx, hb, hml, hown, hB⟩, hK, hi, hA, hAd, hP, hS⟩ hZ sub_Y (c_X5_rest hflag (inj51 hi) hf) (by decide) (fun _ _ => rfl) cal_X5_rest kM_L_79 ⟨Nat.le_of_ble_eq_true rfl, Nat.le_of_ble_eq_true rfl⟩ (by decide) rfl rfl rfl rfl hl.1 (Nat.le_of_ble_eq_true rfl) rfl dL_rest_3 ⟨Nat.le_of_ble_eq_true rfl, Nat.le_of_ble_eq_true rfl⟩ (tY_1 _ _) (tY_2 _ _) (fun q9 ce H locs hP hS hc1 hc2 hc3 => ?_)
    refine g_catch hown hB hK hN hT (by decide) (by decide) [] 8 11 [] rfl (fun z hz => absurd hz List.not_mem_nil) (by decide) hc1 hc2 hc3 ?_
    refine lv_astore_n (lv' := [(2, .ref q9), (0, .ref (ad 48)), (1, .ref (ad 51))]) hx hb dL_rest_11 rfl hl (by decide) rfl (fun ls hl => ?_)
    refine lv_iconst (v := 1) hx hb dL_rest_12 (by decide) ?_
    exact g_iretY hx hb hr hlocks hP hS rfl (yk_not h1 h2) dL_rest_13
theorem kw_L_readyAt : Cond.codeWith yL_readyAt cL_readyAt 4 (some .int) [(0, 9, 12, 13)] ∈ BIG := mem_BIG 723 (by decide +kernel) (by decide +kernel)
theorem ks_L_readyAt : Cond.static yL_readyAt ∈ BIG := mem_BIG 722 (by decide +kernel) (by decide +kernel)
set_option maxHeartbeats 4000000 in
set_option maxRecDepth 100000 in
theorem h_readyAt {l : Launch} {D : va_G} {cI cJ : ClassId} {ad : Nat → Nat} {σ σr : Mem} {a0 v t : Int32} {ex : Nat} (hflag : l.stackTraces = false) (hi : injG 52 ad) (hf : f_X5_readyAt σ a0 = some (ex, v)) (ht : (ex = 0 ∧ t = 0) ∨ (ex = 1 ∧ t = 1)) (h1 : ∀ k, k < 51 → σr k = σ k) (h2 : σr 51 = if ex = 0 then upd (σ 51) 0 v else σ 51) : MGy l yL_readyAt cL_readyAt 4 [(0, 9, 12, 13)] 9 153 D cI cJ ad [.ref (ad 48), .int a0, .ref (ad 51)] σ σr t := by
  refine MGy.ofW (by decide) hi ?_
  intro p e s m args below meth c hx hb hr hml hlocks hT hown hB hK hZ hN hP hA hAd hS
  have hown : s.vm.findClass RL = some m.cls := hown
  have hl := lv_entry ([.ref (ad 48), .int a0, .ref (ad 51)] : List Value) (n := 4) (Nat.le_of_ble_eq_true rfl)
  rw [lg_entry_eq]
  generalize (lg_sl ([.ref (ad 48), .int a0, .ref (ad 51)] : List Value) ++ List.replicate (4 - (lg_sl ([.ref (ad 48), .int a0, .ref (ad 51)] : List Value)).length) Slot.unset).toArray = ls at hl ⊢
  have hl : lv_has ls 4 [(0, .ref (ad 48)), (1, .int a0), (2, .ref (ad 51))] := hl
  refine lv_aload_n hx hb dL_readyAt_0 rfl (lv_at hl 2 rfl) ?_
  refine lv_iconst (v := 0) hx hb dL_readyAt_1 (by decide) ?_
  refine lv_aload_n hx hb dL_readyAt_2 rfl (lv_at hl 0 rfl) ?_
  refine lv_iload_n hx hb dL_readyAt_3 rfl (lv_at hl 1 rfl) ?_
  rcases ht with ⟨rfl, rfl⟩ | ⟨rfl, rfl⟩
  · refine g_xViG (k0 := 48) (τ := tY σ σ) ⟨⟨hx, hb, hml, hown, hB⟩, hK, hi, hA, hAd, hP, hS⟩ hZ sub_Y (c_X5_readyAt hflag (inj51 hi) hf) (fun _ _ => rfl) cal_X5_readyAt kM_L_83 ⟨Nat.le_of_ble_eq_true rfl, Nat.le_of_ble_eq_true rfl⟩ (by decide) rfl rfl rfl rfl hl.1 (Nat.le_of_ble_eq_true rfl) rfl dL_readyAt_4 (tY_1 _ _) (tY_2 _ _) (fun H locs hP hS => ?_)
    refine W.widen (k := 1) (n := 6) (by omega) (by omega) ?_
    refine lv_i2l hx hb dL_readyAt_7 rfl ?_
    refine g_last hx hb hK hP hi hAd hS 51 (by decide) EY_o dL_readyAt_8 (fun H locs hP hS => ?_)
    refine lv_goto (tgt := 15) hx hb dL_readyAt_9 (by decide) ?_
    refine lv_iconst (v := 0) hx hb dL_readyAt_15 (by decide) ?_
    exact g_iretY hx hb hr hlocks hP hS rfl (yk_out h1 h2) dL_readyAt_16
  · refine g_xVxG (k0 := 48) (τ := tY σ σ) ⟨⟨hx, hb, hml, hown, hB⟩, hK, hi, hA, hAd, hP, hS⟩ hZ sub_Y (c_X5_readyAt hflag (inj51 hi) hf) (by decide) (fun _ _ => rfl) cal_X5_readyAt kM_L_83 ⟨Nat.le_of_ble_eq_true rfl, Nat.le_of_ble_eq_true rfl⟩ (by decide) rfl rfl rfl rfl hl.1 (Nat.le_of_ble_eq_true rfl) rfl dL_readyAt_4 ⟨Nat.le_of_ble_eq_true rfl, Nat.le_of_ble_eq_true rfl⟩ (tY_1 _ _) (tY_2 _ _) (fun q9 ce H locs hP hS hc1 hc2 hc3 => ?_)
    refine g_catch hown hB hK hN hT (by decide) (by decide) [] 9 12 [] rfl (fun z hz => absurd hz List.not_mem_nil) (by decide) hc1 hc2 hc3 ?_
    refine lv_astore_n (lv' := [(3, .ref q9), (0, .ref (ad 48)), (1, .int a0), (2, .ref (ad 51))]) hx hb dL_readyAt_12 rfl hl (by decide) rfl (fun ls hl => ?_)
    refine lv_iconst (v := 1) hx hb dL_readyAt_13 (by decide) ?_
    exact g_iretY hx hb hr hlocks hP hS rfl (yk_not h1 h2) dL_readyAt_14
theorem kw_L_roomOf : Cond.codeWith yL_roomOf cL_roomOf 4 (some .int) [(0, 9, 12, 13)] ∈ BIG := mem_BIG 730 (by decide +kernel) (by decide +kernel)
theorem ks_L_roomOf : Cond.static yL_roomOf ∈ BIG := mem_BIG 729 (by decide +kernel) (by decide +kernel)
set_option maxHeartbeats 4000000 in
set_option maxRecDepth 100000 in
theorem h_roomOf {l : Launch} {D : va_G} {cI cJ : ClassId} {ad : Nat → Nat} {σ σr : Mem} {a0 v t : Int32} {ex : Nat} (hflag : l.stackTraces = false) (hi : injG 52 ad) (hf : f_X5_roomOf σ a0 = some (ex, v)) (ht : (ex = 0 ∧ t = 0) ∨ (ex = 1 ∧ t = 1)) (h1 : ∀ k, k < 51 → σr k = σ k) (h2 : σr 51 = if ex = 0 then upd (σ 51) 0 v else σ 51) : MGy l yL_roomOf cL_roomOf 4 [(0, 9, 12, 13)] 9 153 D cI cJ ad [.ref (ad 48), .int a0, .ref (ad 51)] σ σr t := by
  refine MGy.ofW (by decide) hi ?_
  intro p e s m args below meth c hx hb hr hml hlocks hT hown hB hK hZ hN hP hA hAd hS
  have hown : s.vm.findClass RL = some m.cls := hown
  have hl := lv_entry ([.ref (ad 48), .int a0, .ref (ad 51)] : List Value) (n := 4) (Nat.le_of_ble_eq_true rfl)
  rw [lg_entry_eq]
  generalize (lg_sl ([.ref (ad 48), .int a0, .ref (ad 51)] : List Value) ++ List.replicate (4 - (lg_sl ([.ref (ad 48), .int a0, .ref (ad 51)] : List Value)).length) Slot.unset).toArray = ls at hl ⊢
  have hl : lv_has ls 4 [(0, .ref (ad 48)), (1, .int a0), (2, .ref (ad 51))] := hl
  refine lv_aload_n hx hb dL_roomOf_0 rfl (lv_at hl 2 rfl) ?_
  refine lv_iconst (v := 0) hx hb dL_roomOf_1 (by decide) ?_
  refine lv_aload_n hx hb dL_roomOf_2 rfl (lv_at hl 0 rfl) ?_
  refine lv_iload_n hx hb dL_roomOf_3 rfl (lv_at hl 1 rfl) ?_
  rcases ht with ⟨rfl, rfl⟩ | ⟨rfl, rfl⟩
  · refine g_xViG (k0 := 48) (τ := tY σ σ) ⟨⟨hx, hb, hml, hown, hB⟩, hK, hi, hA, hAd, hP, hS⟩ hZ sub_Y (c_X5_roomOf hflag (inj51 hi) hf) (fun _ _ => rfl) cal_X5_roomOf kM_L_86 ⟨Nat.le_of_ble_eq_true rfl, Nat.le_of_ble_eq_true rfl⟩ (by decide) rfl rfl rfl rfl hl.1 (Nat.le_of_ble_eq_true rfl) rfl dL_roomOf_4 (tY_1 _ _) (tY_2 _ _) (fun H locs hP hS => ?_)
    refine W.widen (k := 1) (n := 6) (by omega) (by omega) ?_
    refine lv_i2l hx hb dL_roomOf_7 rfl ?_
    refine g_last hx hb hK hP hi hAd hS 51 (by decide) EY_o dL_roomOf_8 (fun H locs hP hS => ?_)
    refine lv_goto (tgt := 15) hx hb dL_roomOf_9 (by decide) ?_
    refine lv_iconst (v := 0) hx hb dL_roomOf_15 (by decide) ?_
    exact g_iretY hx hb hr hlocks hP hS rfl (yk_out h1 h2) dL_roomOf_16
  · refine g_xVxG (k0 := 48) (τ := tY σ σ) ⟨⟨hx, hb, hml, hown, hB⟩, hK, hi, hA, hAd, hP, hS⟩ hZ sub_Y (c_X5_roomOf hflag (inj51 hi) hf) (by decide) (fun _ _ => rfl) cal_X5_roomOf kM_L_86 ⟨Nat.le_of_ble_eq_true rfl, Nat.le_of_ble_eq_true rfl⟩ (by decide) rfl rfl rfl rfl hl.1 (Nat.le_of_ble_eq_true rfl) rfl dL_roomOf_4 ⟨Nat.le_of_ble_eq_true rfl, Nat.le_of_ble_eq_true rfl⟩ (tY_1 _ _) (tY_2 _ _) (fun q9 ce H locs hP hS hc1 hc2 hc3 => ?_)
    refine g_catch hown hB hK hN hT (by decide) (by decide) [] 9 12 [] rfl (fun z hz => absurd hz List.not_mem_nil) (by decide) hc1 hc2 hc3 ?_
    refine lv_astore_n (lv' := [(3, .ref q9), (0, .ref (ad 48)), (1, .int a0), (2, .ref (ad 51))]) hx hb dL_roomOf_12 rfl hl (by decide) rfl (fun ls hl => ?_)
    refine lv_iconst (v := 1) hx hb dL_roomOf_13 (by decide) ?_
    exact g_iretY hx hb hr hlocks hP hS rfl (yk_not h1 h2) dL_roomOf_14
theorem kw_L_coinsOf : Cond.codeWith yL_coinsOf cL_coinsOf 4 (some .int) [(0, 9, 12, 13)] ∈ BIG := mem_BIG 737 (by decide +kernel) (by decide +kernel)
theorem ks_L_coinsOf : Cond.static yL_coinsOf ∈ BIG := mem_BIG 736 (by decide +kernel) (by decide +kernel)
set_option maxHeartbeats 4000000 in
set_option maxRecDepth 100000 in
theorem h_coinsOf {l : Launch} {D : va_G} {cI cJ : ClassId} {ad : Nat → Nat} {σ σr : Mem} {a0 v t : Int32} {ex : Nat} (hflag : l.stackTraces = false) (hi : injG 52 ad) (hf : f_X5_coinsOf σ a0 = some (ex, v)) (ht : (ex = 0 ∧ t = 0) ∨ (ex = 1 ∧ t = 1)) (h1 : ∀ k, k < 51 → σr k = σ k) (h2 : σr 51 = if ex = 0 then upd (σ 51) 0 v else σ 51) : MGy l yL_coinsOf cL_coinsOf 4 [(0, 9, 12, 13)] 9 153 D cI cJ ad [.ref (ad 48), .int a0, .ref (ad 51)] σ σr t := by
  refine MGy.ofW (by decide) hi ?_
  intro p e s m args below meth c hx hb hr hml hlocks hT hown hB hK hZ hN hP hA hAd hS
  have hown : s.vm.findClass RL = some m.cls := hown
  have hl := lv_entry ([.ref (ad 48), .int a0, .ref (ad 51)] : List Value) (n := 4) (Nat.le_of_ble_eq_true rfl)
  rw [lg_entry_eq]
  generalize (lg_sl ([.ref (ad 48), .int a0, .ref (ad 51)] : List Value) ++ List.replicate (4 - (lg_sl ([.ref (ad 48), .int a0, .ref (ad 51)] : List Value)).length) Slot.unset).toArray = ls at hl ⊢
  have hl : lv_has ls 4 [(0, .ref (ad 48)), (1, .int a0), (2, .ref (ad 51))] := hl
  refine lv_aload_n hx hb dL_coinsOf_0 rfl (lv_at hl 2 rfl) ?_
  refine lv_iconst (v := 0) hx hb dL_coinsOf_1 (by decide) ?_
  refine lv_aload_n hx hb dL_coinsOf_2 rfl (lv_at hl 0 rfl) ?_
  refine lv_iload_n hx hb dL_coinsOf_3 rfl (lv_at hl 1 rfl) ?_
  rcases ht with ⟨rfl, rfl⟩ | ⟨rfl, rfl⟩
  · refine g_xViG (k0 := 48) (τ := tY σ σ) ⟨⟨hx, hb, hml, hown, hB⟩, hK, hi, hA, hAd, hP, hS⟩ hZ sub_Y (c_X5_coinsOf hflag (inj51 hi) hf) (fun _ _ => rfl) cal_X5_coinsOf kM_L_89 ⟨Nat.le_of_ble_eq_true rfl, Nat.le_of_ble_eq_true rfl⟩ (by decide) rfl rfl rfl rfl hl.1 (Nat.le_of_ble_eq_true rfl) rfl dL_coinsOf_4 (tY_1 _ _) (tY_2 _ _) (fun H locs hP hS => ?_)
    refine W.widen (k := 1) (n := 6) (by omega) (by omega) ?_
    refine lv_i2l hx hb dL_coinsOf_7 rfl ?_
    refine g_last hx hb hK hP hi hAd hS 51 (by decide) EY_o dL_coinsOf_8 (fun H locs hP hS => ?_)
    refine lv_goto (tgt := 15) hx hb dL_coinsOf_9 (by decide) ?_
    refine lv_iconst (v := 0) hx hb dL_coinsOf_15 (by decide) ?_
    exact g_iretY hx hb hr hlocks hP hS rfl (yk_out h1 h2) dL_coinsOf_16
  · refine g_xVxG (k0 := 48) (τ := tY σ σ) ⟨⟨hx, hb, hml, hown, hB⟩, hK, hi, hA, hAd, hP, hS⟩ hZ sub_Y (c_X5_coinsOf hflag (inj51 hi) hf) (by decide) (fun _ _ => rfl) cal_X5_coinsOf kM_L_89 ⟨Nat.le_of_ble_eq_true rfl, Nat.le_of_ble_eq_true rfl⟩ (by decide) rfl rfl rfl rfl hl.1 (Nat.le_of_ble_eq_true rfl) rfl dL_coinsOf_4 ⟨Nat.le_of_ble_eq_true rfl, Nat.le_of_ble_eq_true rfl⟩ (tY_1 _ _) (tY_2 _ _) (fun q9 ce H locs hP hS hc1 hc2 hc3 => ?_)
    refine g_catch hown hB hK hN hT (by decide) (by decide) [] 9 12 [] rfl (fun z hz => absurd hz List.not_mem_nil) (by decide) hc1 hc2 hc3 ?_
    refine lv_astore_n (lv' := [(3, .ref q9), (0, .ref (ad 48)), (1, .int a0), (2, .ref (ad 51))]) hx hb dL_coinsOf_12 rfl hl (by decide) rfl (fun ls hl => ?_)
    refine lv_iconst (v := 1) hx hb dL_coinsOf_13 (by decide) ?_
    exact g_iretY hx hb hr hlocks hP hS rfl (yk_not h1 h2) dL_coinsOf_14
theorem kw_L_healthOf : Cond.codeWith yL_healthOf cL_healthOf 4 (some .int) [(0, 9, 12, 13)] ∈ BIG := mem_BIG 744 (by decide +kernel) (by decide +kernel)
theorem ks_L_healthOf : Cond.static yL_healthOf ∈ BIG := mem_BIG 743 (by decide +kernel) (by decide +kernel)
set_option maxHeartbeats 4000000 in
set_option maxRecDepth 100000 in
theorem h_healthOf {l : Launch} {D : va_G} {cI cJ : ClassId} {ad : Nat → Nat} {σ σr : Mem} {a0 v t : Int32} {ex : Nat} (hflag : l.stackTraces = false) (hi : injG 52 ad) (hf : f_X5_healthOf σ a0 = some (ex, v)) (ht : (ex = 0 ∧ t = 0) ∨ (ex = 1 ∧ t = 1)) (h1 : ∀ k, k < 51 → σr k = σ k) (h2 : σr 51 = if ex = 0 then upd (σ 51) 0 v else σ 51) : MGy l yL_healthOf cL_healthOf 4 [(0, 9, 12, 13)] 9 153 D cI cJ ad [.ref (ad 48), .int a0, .ref (ad 51)] σ σr t := by
  refine MGy.ofW (by decide) hi ?_
  intro p e s m args below meth c hx hb hr hml hlocks hT hown hB hK hZ hN hP hA hAd hS
  have hown : s.vm.findClass RL = some m.cls := hown
  have hl := lv_entry ([.ref (ad 48), .int a0, .ref (ad 51)] : List Value) (n := 4) (Nat.le_of_ble_eq_true rfl)
  rw [lg_entry_eq]
  generalize (lg_sl ([.ref (ad 48), .int a0, .ref (ad 51)] : List Value) ++ List.replicate (4 - (lg_sl ([.ref (ad 48), .int a0, .ref (ad 51)] : List Value)).length) Slot.unset).toArray = ls at hl ⊢
  have hl : lv_has ls 4 [(0, .ref (ad 48)), (1, .int a0), (2, .ref (ad 51))] := hl
  refine lv_aload_n hx hb dL_healthOf_0 rfl (lv_at hl 2 rfl) ?_
  refine lv_iconst (v := 0) hx hb dL_healthOf_1 (by decide) ?_
  refine lv_aload_n hx hb dL_healthOf_2 rfl (lv_at hl 0 rfl) ?_
  refine lv_iload_n hx hb dL_healthOf_3 rfl (lv_at hl 1 rfl) ?_
  rcases ht with ⟨rfl, rfl⟩ | ⟨rfl, rfl⟩
  · refine g_xViG (k0 := 48) (τ := tY σ σ) ⟨⟨hx, hb, hml, hown, hB⟩, hK, hi, hA, hAd, hP, hS⟩ hZ sub_Y (c_X5_healthOf hflag (inj51 hi) hf) (fun _ _ => rfl) cal_X5_healthOf kM_L_92 ⟨Nat.le_of_ble_eq_true rfl, Nat.le_of_ble_eq_true rfl⟩ (by decide) rfl rfl rfl rfl hl.1 (Nat.le_of_ble_eq_true rfl) rfl dL_healthOf_4 (tY_1 _ _) (tY_2 _ _) (fun H locs hP hS => ?_)
    refine W.widen (k := 1) (n := 6) (by omega) (by omega) ?_
    refine lv_i2l hx hb dL_healthOf_7 rfl ?_
    refine g_last hx hb hK hP hi hAd hS 51 (by decide) EY_o dL_healthOf_8 (fun H locs hP hS => ?_)
    refine lv_goto (tgt := 15) hx hb dL_healthOf_9 (by decide) ?_
    refine lv_iconst (v := 0) hx hb dL_healthOf_15 (by decide) ?_
    exact g_iretY hx hb hr hlocks hP hS rfl (yk_out h1 h2) dL_healthOf_16
  · refine g_xVxG (k0 := 48) (τ := tY σ σ) ⟨⟨hx, hb, hml, hown, hB⟩, hK, hi, hA, hAd, hP, hS⟩ hZ sub_Y (c_X5_healthOf hflag (inj51 hi) hf) (by decide) (fun _ _ => rfl) cal_X5_healthOf kM_L_92 ⟨Nat.le_of_ble_eq_true rfl, Nat.le_of_ble_eq_true rfl⟩ (by decide) rfl rfl rfl rfl hl.1 (Nat.le_of_ble_eq_true rfl) rfl dL_healthOf_4 ⟨Nat.le_of_ble_eq_true rfl, Nat.le_of_ble_eq_true rfl⟩ (tY_1 _ _) (tY_2 _ _) (fun q9 ce H locs hP hS hc1 hc2 hc3 => ?_)
    refine g_catch hown hB hK hN hT (by decide) (by decide) [] 9 12 [] rfl (fun z hz => absurd hz List.not_mem_nil) (by decide) hc1 hc2 hc3 ?_
    refine lv_astore_n (lv' := [(3, .ref q9), (0, .ref (ad 48)), (1, .int a0), (2, .ref (ad 51))]) hx hb dL_healthOf_12 rfl hl (by decide) rfl (fun ls hl => ?_)
    refine lv_iconst (v := 1) hx hb dL_healthOf_13 (by decide) ?_
    exact g_iretY hx hb hr hlocks hP hS rfl (yk_not h1 h2) dL_healthOf_14
theorem kw_L_goodsOf : Cond.codeWith yL_goodsOf cL_goodsOf 5 (some .int) [(0, 10, 13, 13)] ∈ BIG := mem_BIG 751 (by decide +kernel) (by decide +kernel)
theorem ks_L_goodsOf : Cond.static yL_goodsOf ∈ BIG := mem_BIG 750 (by decide +kernel) (by decide +kernel)
set_option maxHeartbeats 4000000 in
set_option maxRecDepth 100000 in
theorem h_goodsOf {l : Launch} {D : va_G} {cI cJ : ClassId} {ad : Nat → Nat} {σ σr : Mem} {a0 a1 v t : Int32} {ex : Nat} (hflag : l.stackTraces = false) (hi : injG 52 ad) (hf : f_X5_goodsOf σ a0 a1 = some (ex, v)) (ht : (ex = 0 ∧ t = 0) ∨ (ex = 1 ∧ t = 1)) (h1 : ∀ k, k < 51 → σr k = σ k) (h2 : σr 51 = if ex = 0 then upd (σ 51) 0 v else σ 51) : MGy l yL_goodsOf cL_goodsOf 5 [(0, 10, 13, 13)] 9 154 D cI cJ ad [.ref (ad 48), .int a0, .int a1, .ref (ad 51)] σ σr t := by
  refine MGy.ofW (by decide) hi ?_
  intro p e s m args below meth c hx hb hr hml hlocks hT hown hB hK hZ hN hP hA hAd hS
  have hown : s.vm.findClass RL = some m.cls := hown
  have hl := lv_entry ([.ref (ad 48), .int a0, .int a1, .ref (ad 51)] : List Value) (n := 5) (Nat.le_of_ble_eq_true rfl)
  rw [lg_entry_eq]
  generalize (lg_sl ([.ref (ad 48), .int a0, .int a1, .ref (ad 51)] : List Value) ++ List.replicate (5 - (lg_sl ([.ref (ad 48), .int a0, .int a1, .ref (ad 51)] : List Value)).length) Slot.unset).toArray = ls at hl ⊢
  have hl : lv_has ls 5 [(0, .ref (ad 48)), (1, .int a0), (2, .int a1), (3, .ref (ad 51))] := hl
  refine lv_aload_n hx hb dL_goodsOf_0 rfl (lv_at hl 3 rfl) ?_
  refine lv_iconst (v := 0) hx hb dL_goodsOf_1 (by decide) ?_
  refine lv_aload_n hx hb dL_goodsOf_2 rfl (lv_at hl 0 rfl) ?_
  refine lv_iload_n hx hb dL_goodsOf_3 rfl (lv_at hl 1 rfl) ?_
  refine lv_iload_n hx hb dL_goodsOf_4 rfl (lv_at hl 2 rfl) ?_
  rcases ht with ⟨rfl, rfl⟩ | ⟨rfl, rfl⟩
  · refine g_xViG (k0 := 48) (τ := tY σ σ) ⟨⟨hx, hb, hml, hown, hB⟩, hK, hi, hA, hAd, hP, hS⟩ hZ sub_Y (c_X5_goodsOf hflag (inj51 hi) hf) (fun _ _ => rfl) cal_X5_goodsOf kM_L_95 ⟨Nat.le_of_ble_eq_true rfl, Nat.le_of_ble_eq_true rfl⟩ (by decide) rfl rfl rfl rfl hl.1 (Nat.le_of_ble_eq_true rfl) rfl dL_goodsOf_5 (tY_1 _ _) (tY_2 _ _) (fun H locs hP hS => ?_)
    refine W.widen (k := 1) (n := 6) (by omega) (by omega) ?_
    refine lv_i2l hx hb dL_goodsOf_8 rfl ?_
    refine g_last hx hb hK hP hi hAd hS 51 (by decide) EY_o dL_goodsOf_9 (fun H locs hP hS => ?_)
    refine lv_goto (tgt := 17) hx hb dL_goodsOf_10 (by decide) ?_
    refine lv_iconst (v := 0) hx hb dL_goodsOf_17 (by decide) ?_
    exact g_iretY hx hb hr hlocks hP hS rfl (yk_out h1 h2) dL_goodsOf_18
  · refine g_xVxG (k0 := 48) (τ := tY σ σ) ⟨⟨hx, hb, hml, hown, hB⟩, hK, hi, hA, hAd, hP, hS⟩ hZ sub_Y (c_X5_goodsOf hflag (inj51 hi) hf) (by decide) (fun _ _ => rfl) cal_X5_goodsOf kM_L_95 ⟨Nat.le_of_ble_eq_true rfl, Nat.le_of_ble_eq_true rfl⟩ (by decide) rfl rfl rfl rfl hl.1 (Nat.le_of_ble_eq_true rfl) rfl dL_goodsOf_5 ⟨Nat.le_of_ble_eq_true rfl, Nat.le_of_ble_eq_true rfl⟩ (tY_1 _ _) (tY_2 _ _) (fun q9 ce H locs hP hS hc1 hc2 hc3 => ?_)
    refine g_catch hown hB hK hN hT (by decide) (by decide) [] 10 13 [] rfl (fun z hz => absurd hz List.not_mem_nil) (by decide) hc1 hc2 hc3 ?_
    refine lv_astore (lv' := [(4, .ref q9), (0, .ref (ad 48)), (1, .int a0), (2, .int a1), (3, .ref (ad 51))]) hx hb dL_goodsOf_13 hl (by decide) rfl (fun ls hl => ?_)
    refine lv_iconst (v := 1) hx hb dL_goodsOf_15 (by decide) ?_
    exact g_iretY hx hb hr hlocks hP hS rfl (yk_not h1 h2) dL_goodsOf_16
theorem kw_L_heard : Cond.codeWith yL_heard cL_heard 5 (some .int) [(0, 10, 13, 13)] ∈ BIG := mem_BIG 758 (by decide +kernel) (by decide +kernel)
theorem ks_L_heard : Cond.static yL_heard ∈ BIG := mem_BIG 757 (by decide +kernel) (by decide +kernel)
set_option maxHeartbeats 4000000 in
set_option maxRecDepth 100000 in
theorem h_heard {l : Launch} {D : va_G} {cI cJ : ClassId} {ad : Nat → Nat} {σ σr : Mem} {a0 a1 v t : Int32} {ex : Nat} (hflag : l.stackTraces = false) (hi : injG 52 ad) (hf : f_X5_heard σ a0 a1 = some (ex, v)) (ht : (ex = 0 ∧ t = 0) ∨ (ex = 1 ∧ t = 1)) (h1 : ∀ k, k < 51 → σr k = σ k) (h2 : σr 51 = if ex = 0 then upd (σ 51) 0 v else σ 51) : MGy l yL_heard cL_heard 5 [(0, 10, 13, 13)] 9 154 D cI cJ ad [.ref (ad 48), .int a0, .int a1, .ref (ad 51)] σ σr t := by
  refine MGy.ofW (by decide) hi ?_
  intro p e s m args below meth c hx hb hr hml hlocks hT hown hB hK hZ hN hP hA hAd hS
  have hown : s.vm.findClass RL = some m.cls := hown
  have hl := lv_entry ([.ref (ad 48), .int a0, .int a1, .ref (ad 51)] : List Value) (n := 5) (Nat.le_of_ble_eq_true rfl)
  rw [lg_entry_eq]
  generalize (lg_sl ([.ref (ad 48), .int a0, .int a1, .ref (ad 51)] : List Value) ++ List.replicate (5 - (lg_sl ([.ref (ad 48), .int a0, .int a1, .ref (ad 51)] : List Value)).length) Slot.unset).toArray = ls at hl ⊢
  have hl : lv_has ls 5 [(0, .ref (ad 48)), (1, .int a0), (2, .int a1), (3, .ref (ad 51))] := hl
  refine lv_aload_n hx hb dL_heard_0 rfl (lv_at hl 3 rfl) ?_
  refine lv_iconst (v := 0) hx hb dL_heard_1 (by decide) ?_
  refine lv_aload_n hx hb dL_heard_2 rfl (lv_at hl 0 rfl) ?_
  refine lv_iload_n hx hb dL_heard_3 rfl (lv_at hl 1 rfl) ?_
  refine lv_iload_n hx hb dL_heard_4 rfl (lv_at hl 2 rfl) ?_
  rcases ht with ⟨rfl, rfl⟩ | ⟨rfl, rfl⟩
  · refine g_xViG (k0 := 48) (τ := tY σ σ) ⟨⟨hx, hb, hml, hown, hB⟩, hK, hi, hA, hAd, hP, hS⟩ hZ sub_Y (c_X5_heard hflag (inj51 hi) hf) (fun _ _ => rfl) cal_X5_heard kM_L_98 ⟨Nat.le_of_ble_eq_true rfl, Nat.le_of_ble_eq_true rfl⟩ (by decide) rfl rfl rfl rfl hl.1 (Nat.le_of_ble_eq_true rfl) rfl dL_heard_5 (tY_1 _ _) (tY_2 _ _) (fun H locs hP hS => ?_)
    refine W.widen (k := 1) (n := 6) (by omega) (by omega) ?_
    refine lv_i2l hx hb dL_heard_8 rfl ?_
    refine g_last hx hb hK hP hi hAd hS 51 (by decide) EY_o dL_heard_9 (fun H locs hP hS => ?_)
    refine lv_goto (tgt := 17) hx hb dL_heard_10 (by decide) ?_
    refine lv_iconst (v := 0) hx hb dL_heard_17 (by decide) ?_
    exact g_iretY hx hb hr hlocks hP hS rfl (yk_out h1 h2) dL_heard_18
  · refine g_xVxG (k0 := 48) (τ := tY σ σ) ⟨⟨hx, hb, hml, hown, hB⟩, hK, hi, hA, hAd, hP, hS⟩ hZ sub_Y (c_X5_heard hflag (inj51 hi) hf) (by decide) (fun _ _ => rfl) cal_X5_heard kM_L_98 ⟨Nat.le_of_ble_eq_true rfl, Nat.le_of_ble_eq_true rfl⟩ (by decide) rfl rfl rfl rfl hl.1 (Nat.le_of_ble_eq_true rfl) rfl dL_heard_5 ⟨Nat.le_of_ble_eq_true rfl, Nat.le_of_ble_eq_true rfl⟩ (tY_1 _ _) (tY_2 _ _) (fun q9 ce H locs hP hS hc1 hc2 hc3 => ?_)
    refine g_catch hown hB hK hN hT (by decide) (by decide) [] 10 13 [] rfl (fun z hz => absurd hz List.not_mem_nil) (by decide) hc1 hc2 hc3 ?_
    refine lv_astore (lv' := [(4, .ref q9), (0, .ref (ad 48)), (1, .int a0), (2, .int a1), (3, .ref (ad 51))]) hx hb dL_heard_13 hl (by decide) rfl (fun ls hl => ?_)
    refine lv_iconst (v := 1) hx hb dL_heard_15 (by decide) ?_
    exact g_iretY hx hb hr hlocks hP hS rfl (yk_not h1 h2) dL_heard_16
theorem kw_L_stageOf : Cond.codeWith yL_stageOf cL_stageOf 5 (some .int) [(0, 10, 13, 13)] ∈ BIG := mem_BIG 766 (by decide +kernel) (by decide +kernel)
theorem ks_L_stageOf : Cond.static yL_stageOf ∈ BIG := mem_BIG 765 (by decide +kernel) (by decide +kernel)
set_option maxHeartbeats 4000000 in
set_option maxRecDepth 100000 in
theorem h_stageOf {l : Launch} {D : va_G} {cI cJ : ClassId} {ad : Nat → Nat} {σ σr : Mem} {a0 a1 v t : Int32} {ex : Nat} (hflag : l.stackTraces = false) (hi : injG 52 ad) (hf : f_X5_stageOf σ a0 a1 = some (ex, v)) (ht : (ex = 0 ∧ t = 0) ∨ (ex = 1 ∧ t = 1)) (h1 : ∀ k, k < 51 → σr k = σ k) (h2 : σr 51 = if ex = 0 then upd (σ 51) 0 v else σ 51) : MGy l yL_stageOf cL_stageOf 5 [(0, 10, 13, 13)] 9 154 D cI cJ ad [.ref (ad 48), .int a0, .int a1, .ref (ad 51)] σ σr t := by
  refine MGy.ofW (by decide) hi ?_
  intro p e s m args below meth c hx hb hr hml hlocks hT hown hB hK hZ hN hP hA hAd hS
  have hown : s.vm.findClass RL = some m.cls := hown
  have hl := lv_entry ([.ref (ad 48), .int a0, .int a1, .ref (ad 51)] : List Value) (n := 5) (Nat.le_of_ble_eq_true rfl)
  rw [lg_entry_eq]
  generalize (lg_sl ([.ref (ad 48), .int a0, .int a1, .ref (ad 51)] : List Value) ++ List.replicate (5 - (lg_sl ([.ref (ad 48), .int a0, .int a1, .ref (ad 51)] : List Value)).length) Slot.unset).toArray = ls at hl ⊢
  have hl : lv_has ls 5 [(0, .ref (ad 48)), (1, .int a0), (2, .int a1), (3, .ref (ad 51))] := hl
  refine lv_aload_n hx hb dL_stageOf_0 rfl (lv_at hl 3 rfl) ?_
  refine lv_iconst (v := 0) hx hb dL_stageOf_1 (by decide) ?_
  refine lv_aload_n hx hb dL_stageOf_2 rfl (lv_at hl 0 rfl) ?_
  refine lv_iload_n hx hb dL_stageOf_3 rfl (lv_at hl 1 rfl) ?_
  refine lv_iload_n hx hb dL_stageOf_4 rfl (lv_at hl 2 rfl) ?_
  rcases ht with ⟨rfl, rfl⟩ | ⟨rfl, rfl⟩
  · refine g_xViG (k0 := 48) (τ := tY σ σ) ⟨⟨hx, hb, hml, hown, hB⟩, hK, hi, hA, hAd, hP, hS⟩ hZ sub_Y (c_X5_stageOf hflag (inj51 hi) hf) (fun _ _ => rfl) cal_X5_stageOf kM_L_101 ⟨Nat.le_of_ble_eq_true rfl, Nat.le_of_ble_eq_true rfl⟩ (by decide) rfl rfl rfl rfl hl.1 (Nat.le_of_ble_eq_true rfl) rfl dL_stageOf_5 (tY_1 _ _) (tY_2 _ _) (fun H locs hP hS => ?_)
    refine W.widen (k := 1) (n := 6) (by omega) (by omega) ?_
    refine lv_i2l hx hb dL_stageOf_8 rfl ?_
    refine g_last hx hb hK hP hi hAd hS 51 (by decide) EY_o dL_stageOf_9 (fun H locs hP hS => ?_)
    refine lv_goto (tgt := 17) hx hb dL_stageOf_10 (by decide) ?_
    refine lv_iconst (v := 0) hx hb dL_stageOf_17 (by decide) ?_
    exact g_iretY hx hb hr hlocks hP hS rfl (yk_out h1 h2) dL_stageOf_18
  · refine g_xVxG (k0 := 48) (τ := tY σ σ) ⟨⟨hx, hb, hml, hown, hB⟩, hK, hi, hA, hAd, hP, hS⟩ hZ sub_Y (c_X5_stageOf hflag (inj51 hi) hf) (by decide) (fun _ _ => rfl) cal_X5_stageOf kM_L_101 ⟨Nat.le_of_ble_eq_true rfl, Nat.le_of_ble_eq_true rfl⟩ (by decide) rfl rfl rfl rfl hl.1 (Nat.le_of_ble_eq_true rfl) rfl dL_stageOf_5 ⟨Nat.le_of_ble_eq_true rfl, Nat.le_of_ble_eq_true rfl⟩ (tY_1 _ _) (tY_2 _ _) (fun q9 ce H locs hP hS hc1 hc2 hc3 => ?_)
    refine g_catch hown hB hK hN hT (by decide) (by decide) [] 10 13 [] rfl (fun z hz => absurd hz List.not_mem_nil) (by decide) hc1 hc2 hc3 ?_
    refine lv_astore (lv' := [(4, .ref q9), (0, .ref (ad 48)), (1, .int a0), (2, .int a1), (3, .ref (ad 51))]) hx hb dL_stageOf_13 hl (by decide) rfl (fun ls hl => ?_)
    refine lv_iconst (v := 1) hx hb dL_stageOf_15 (by decide) ?_
    exact g_iretY hx hb hr hlocks hP hS rfl (yk_not h1 h2) dL_stageOf_16
theorem kw_L_exit : Cond.codeWith yL_exit cL_exit 5 (some .int) [(0, 10, 13, 13)] ∈ BIG := mem_BIG 774 (by decide +kernel) (by decide +kernel)
theorem ks_L_exit : Cond.static yL_exit ∈ BIG := mem_BIG 773 (by decide +kernel) (by decide +kernel)
set_option maxHeartbeats 4000000 in
set_option maxRecDepth 100000 in
theorem h_exit {l : Launch} {D : va_G} {cI cJ : ClassId} {ad : Nat → Nat} {σ σr : Mem} {a0 a1 v t : Int32} {ex : Nat} (hflag : l.stackTraces = false) (hi : injG 52 ad) (hf : f_X5_exit σ a0 a1 = some (ex, v)) (ht : (ex = 0 ∧ t = 0) ∨ (ex = 1 ∧ t = 1)) (h1 : ∀ k, k < 51 → σr k = σ k) (h2 : σr 51 = if ex = 0 then upd (σ 51) 0 v else σ 51) : MGy l yL_exit cL_exit 5 [(0, 10, 13, 13)] 8 132 D cI cJ ad [.ref (ad 48), .int a0, .int a1, .ref (ad 51)] σ σr t := by
  refine MGy.ofW (by decide) hi ?_
  intro p e s m args below meth c hx hb hr hml hlocks hT hown hB hK hZ hN hP hA hAd hS
  have hown : s.vm.findClass RL = some m.cls := hown
  have hl := lv_entry ([.ref (ad 48), .int a0, .int a1, .ref (ad 51)] : List Value) (n := 5) (Nat.le_of_ble_eq_true rfl)
  rw [lg_entry_eq]
  generalize (lg_sl ([.ref (ad 48), .int a0, .int a1, .ref (ad 51)] : List Value) ++ List.replicate (5 - (lg_sl ([.ref (ad 48), .int a0, .int a1, .ref (ad 51)] : List Value)).length) Slot.unset).toArray = ls at hl ⊢
  have hl : lv_has ls 5 [(0, .ref (ad 48)), (1, .int a0), (2, .int a1), (3, .ref (ad 51))] := hl
  refine lv_aload_n hx hb dL_exit_0 rfl (lv_at hl 3 rfl) ?_
  refine lv_iconst (v := 0) hx hb dL_exit_1 (by decide) ?_
  refine lv_aload_n hx hb dL_exit_2 rfl (lv_at hl 0 rfl) ?_
  refine lv_iload_n hx hb dL_exit_3 rfl (lv_at hl 1 rfl) ?_
  refine lv_iload_n hx hb dL_exit_4 rfl (lv_at hl 2 rfl) ?_
  rcases ht with ⟨rfl, rfl⟩ | ⟨rfl, rfl⟩
  · refine g_xViG (k0 := 48) (τ := tY σ σ) ⟨⟨hx, hb, hml, hown, hB⟩, hK, hi, hA, hAd, hP, hS⟩ hZ sub_Y (c_X5_exit hflag (inj51 hi) hf) (fun _ _ => rfl) cal_X5_exit kM_L_104 ⟨Nat.le_of_ble_eq_true rfl, Nat.le_of_ble_eq_true rfl⟩ (by decide) rfl rfl rfl rfl hl.1 (Nat.le_of_ble_eq_true rfl) rfl dL_exit_5 (tY_1 _ _) (tY_2 _ _) (fun H locs hP hS => ?_)
    refine W.widen (k := 1) (n := 6) (by omega) (by omega) ?_
    refine lv_i2l hx hb dL_exit_8 rfl ?_
    refine g_last hx hb hK hP hi hAd hS 51 (by decide) EY_o dL_exit_9 (fun H locs hP hS => ?_)
    refine lv_goto (tgt := 17) hx hb dL_exit_10 (by decide) ?_
    refine lv_iconst (v := 0) hx hb dL_exit_17 (by decide) ?_
    exact g_iretY hx hb hr hlocks hP hS rfl (yk_out h1 h2) dL_exit_18
  · refine g_xVxG (k0 := 48) (τ := tY σ σ) ⟨⟨hx, hb, hml, hown, hB⟩, hK, hi, hA, hAd, hP, hS⟩ hZ sub_Y (c_X5_exit hflag (inj51 hi) hf) (by decide) (fun _ _ => rfl) cal_X5_exit kM_L_104 ⟨Nat.le_of_ble_eq_true rfl, Nat.le_of_ble_eq_true rfl⟩ (by decide) rfl rfl rfl rfl hl.1 (Nat.le_of_ble_eq_true rfl) rfl dL_exit_5 ⟨Nat.le_of_ble_eq_true rfl, Nat.le_of_ble_eq_true rfl⟩ (tY_1 _ _) (tY_2 _ _) (fun q9 ce H locs hP hS hc1 hc2 hc3 => ?_)
    refine g_catch hown hB hK hN hT (by decide) (by decide) [] 10 13 [] rfl (fun z hz => absurd hz List.not_mem_nil) (by decide) hc1 hc2 hc3 ?_
    refine lv_astore (lv' := [(4, .ref q9), (0, .ref (ad 48)), (1, .int a0), (2, .int a1), (3, .ref (ad 51))]) hx hb dL_exit_13 hl (by decide) rfl (fun ls hl => ?_)
    refine lv_iconst (v := 1) hx hb dL_exit_15 (by decide) ?_
    exact g_iretY hx hb hr hlocks hP hS rfl (yk_not h1 h2) dL_exit_16
theorem kw_L_distance : Cond.codeWith yL_distance cL_distance 5 (some .int) [(0, 10, 13, 13)] ∈ BIG := mem_BIG 781 (by decide +kernel) (by decide +kernel)
theorem ks_L_distance : Cond.static yL_distance ∈ BIG := mem_BIG 780 (by decide +kernel) (by decide +kernel)
set_option maxHeartbeats 4000000 in
set_option maxRecDepth 100000 in
theorem h_distance {l : Launch} {D : va_G} {cI cJ : ClassId} {ad : Nat → Nat} {σ σr τ' : Mem} {a0 a1 v t : Int32} {ex : Nat} (hflag : l.stackTraces = false) (hi : injG 52 ad) (hf : f_X5_distance σ a0 a1 = some (ex, v, τ')) (ht : (ex = 0 ∧ t = 0) ∨ (ex = 1 ∧ t = 1)) (h1 : ∀ k, k < 51 → σr k = τ' k) (h2 : σr 51 = if ex = 0 then upd (σ 51) 0 v else σ 51) : MGy l yL_distance cL_distance 5 [(0, 10, 13, 13)] 8 132 D cI cJ ad [.ref (ad 48), .int a0, .int a1, .ref (ad 51)] σ σr t := by
  refine MGy.ofW (by decide) hi ?_
  intro p e s m args below meth c hx hb hr hml hlocks hT hown hB hK hZ hN hP hA hAd hS
  have hown : s.vm.findClass RL = some m.cls := hown
  have hl := lv_entry ([.ref (ad 48), .int a0, .int a1, .ref (ad 51)] : List Value) (n := 5) (Nat.le_of_ble_eq_true rfl)
  rw [lg_entry_eq]
  generalize (lg_sl ([.ref (ad 48), .int a0, .int a1, .ref (ad 51)] : List Value) ++ List.replicate (5 - (lg_sl ([.ref (ad 48), .int a0, .int a1, .ref (ad 51)] : List Value)).length) Slot.unset).toArray = ls at hl ⊢
  have hl : lv_has ls 5 [(0, .ref (ad 48)), (1, .int a0), (2, .int a1), (3, .ref (ad 51))] := hl
  refine lv_aload_n hx hb dL_distance_0 rfl (lv_at hl 3 rfl) ?_
  refine lv_iconst (v := 0) hx hb dL_distance_1 (by decide) ?_
  refine lv_aload_n hx hb dL_distance_2 rfl (lv_at hl 0 rfl) ?_
  refine lv_iload_n hx hb dL_distance_3 rfl (lv_at hl 1 rfl) ?_
  refine lv_iload_n hx hb dL_distance_4 rfl (lv_at hl 2 rfl) ?_
  rcases ht with ⟨rfl, rfl⟩ | ⟨rfl, rfl⟩
  · refine g_xViG (k0 := 48) (τ := tY τ' σ) ⟨⟨hx, hb, hml, hown, hB⟩, hK, hi, hA, hAd, hP, hS⟩ hZ sub_Y (c_X5_distance hflag (inj51 hi) hf) (fun _ _ => rfl) cal_X5_distance kM_L_107 ⟨Nat.le_of_ble_eq_true rfl, Nat.le_of_ble_eq_true rfl⟩ (by decide) rfl rfl rfl rfl hl.1 (Nat.le_of_ble_eq_true rfl) rfl dL_distance_5 (tY_1 _ _) (tY_2 _ _) (fun H locs hP hS => ?_)
    refine W.widen (k := 1) (n := 6) (by omega) (by omega) ?_
    refine lv_i2l hx hb dL_distance_8 rfl ?_
    refine g_last hx hb hK hP hi hAd hS 51 (by decide) EY_o dL_distance_9 (fun H locs hP hS => ?_)
    refine lv_goto (tgt := 17) hx hb dL_distance_10 (by decide) ?_
    refine lv_iconst (v := 0) hx hb dL_distance_17 (by decide) ?_
    exact g_iretY hx hb hr hlocks hP hS rfl (yk_out h1 h2) dL_distance_18
  · refine g_xVxG (k0 := 48) (τ := tY τ' σ) ⟨⟨hx, hb, hml, hown, hB⟩, hK, hi, hA, hAd, hP, hS⟩ hZ sub_Y (c_X5_distance hflag (inj51 hi) hf) (by decide) (fun _ _ => rfl) cal_X5_distance kM_L_107 ⟨Nat.le_of_ble_eq_true rfl, Nat.le_of_ble_eq_true rfl⟩ (by decide) rfl rfl rfl rfl hl.1 (Nat.le_of_ble_eq_true rfl) rfl dL_distance_5 ⟨Nat.le_of_ble_eq_true rfl, Nat.le_of_ble_eq_true rfl⟩ (tY_1 _ _) (tY_2 _ _) (fun q9 ce H locs hP hS hc1 hc2 hc3 => ?_)
    refine g_catch hown hB hK hN hT (by decide) (by decide) [] 10 13 [] rfl (fun z hz => absurd hz List.not_mem_nil) (by decide) hc1 hc2 hc3 ?_
    refine lv_astore (lv' := [(4, .ref q9), (0, .ref (ad 48)), (1, .int a0), (2, .int a1), (3, .ref (ad 51))]) hx hb dL_distance_13 hl (by decide) rfl (fun ls hl => ?_)
    refine lv_iconst (v := 1) hx hb dL_distance_15 (by decide) ?_
    exact g_iretY hx hb hr hlocks hP hS rfl (yk_not h1 h2) dL_distance_16
theorem kw_L_onFloor : Cond.codeWith yL_onFloor cL_onFloor 5 (some .int) [(0, 10, 13, 13)] ∈ BIG := mem_BIG 797 (by decide +kernel) (by decide +kernel)
theorem ks_L_onFloor : Cond.static yL_onFloor ∈ BIG := mem_BIG 796 (by decide +kernel) (by decide +kernel)
set_option maxHeartbeats 4000000 in
set_option maxRecDepth 100000 in
theorem h_onFloor {l : Launch} {D : va_G} {cI cJ : ClassId} {ad : Nat → Nat} {σ σr : Mem} {a0 a1 v t : Int32} {ex : Nat} (hflag : l.stackTraces = false) (hi : injG 52 ad) (hf : f_X5_onFloor σ a0 a1 = some (ex, v)) (ht : (ex = 0 ∧ t = 0) ∨ (ex = 1 ∧ t = 1)) (h1 : ∀ k, k < 51 → σr k = σ k) (h2 : σr 51 = if ex = 0 then upd (σ 51) 0 v else σ 51) : MGy l yL_onFloor cL_onFloor 5 [(0, 10, 13, 13)] 8 132 D cI cJ ad [.ref (ad 48), .int a0, .int a1, .ref (ad 51)] σ σr t := by
  refine MGy.ofW (by decide) hi ?_
  intro p e s m args below meth c hx hb hr hml hlocks hT hown hB hK hZ hN hP hA hAd hS
  have hown : s.vm.findClass RL = some m.cls := hown
  have hl := lv_entry ([.ref (ad 48), .int a0, .int a1, .ref (ad 51)] : List Value) (n := 5) (Nat.le_of_ble_eq_true rfl)
  rw [lg_entry_eq]
  generalize (lg_sl ([.ref (ad 48), .int a0, .int a1, .ref (ad 51)] : List Value) ++ List.replicate (5 - (lg_sl ([.ref (ad 48), .int a0, .int a1, .ref (ad 51)] : List Value)).length) Slot.unset).toArray = ls at hl ⊢
  have hl : lv_has ls 5 [(0, .ref (ad 48)), (1, .int a0), (2, .int a1), (3, .ref (ad 51))] := hl
  refine lv_aload_n hx hb dL_onFloor_0 rfl (lv_at hl 3 rfl) ?_
  refine lv_iconst (v := 0) hx hb dL_onFloor_1 (by decide) ?_
  refine lv_aload_n hx hb dL_onFloor_2 rfl (lv_at hl 0 rfl) ?_
  refine lv_iload_n hx hb dL_onFloor_3 rfl (lv_at hl 1 rfl) ?_
  refine lv_iload_n hx hb dL_onFloor_4 rfl (lv_at hl 2 rfl) ?_
  rcases ht with ⟨rfl, rfl⟩ | ⟨rfl, rfl⟩
  · refine g_xViG (k0 := 48) (τ := tY σ σ) ⟨⟨hx, hb, hml, hown, hB⟩, hK, hi, hA, hAd, hP, hS⟩ hZ sub_Y (c_X5_onFloor hflag (inj51 hi) hf) (fun _ _ => rfl) cal_X5_onFloor kM_L_110 ⟨Nat.le_of_ble_eq_true rfl, Nat.le_of_ble_eq_true rfl⟩ (by decide) rfl rfl rfl rfl hl.1 (Nat.le_of_ble_eq_true rfl) rfl dL_onFloor_5 (tY_1 _ _) (tY_2 _ _) (fun H locs hP hS => ?_)
    refine W.widen (k := 1) (n := 6) (by omega) (by omega) ?_
    refine lv_i2l hx hb dL_onFloor_8 rfl ?_
    refine g_last hx hb hK hP hi hAd hS 51 (by decide) EY_o dL_onFloor_9 (fun H locs hP hS => ?_)
    refine lv_goto (tgt := 17) hx hb dL_onFloor_10 (by decide) ?_
    refine lv_iconst (v := 0) hx hb dL_onFloor_17 (by decide) ?_
    exact g_iretY hx hb hr hlocks hP hS rfl (yk_out h1 h2) dL_onFloor_18
  · refine g_xVxG (k0 := 48) (τ := tY σ σ) ⟨⟨hx, hb, hml, hown, hB⟩, hK, hi, hA, hAd, hP, hS⟩ hZ sub_Y (c_X5_onFloor hflag (inj51 hi) hf) (by decide) (fun _ _ => rfl) cal_X5_onFloor kM_L_110 ⟨Nat.le_of_ble_eq_true rfl, Nat.le_of_ble_eq_true rfl⟩ (by decide) rfl rfl rfl rfl hl.1 (Nat.le_of_ble_eq_true rfl) rfl dL_onFloor_5 ⟨Nat.le_of_ble_eq_true rfl, Nat.le_of_ble_eq_true rfl⟩ (tY_1 _ _) (tY_2 _ _) (fun q9 ce H locs hP hS hc1 hc2 hc3 => ?_)
    refine g_catch hown hB hK hN hT (by decide) (by decide) [] 10 13 [] rfl (fun z hz => absurd hz List.not_mem_nil) (by decide) hc1 hc2 hc3 ?_
    refine lv_astore (lv' := [(4, .ref q9), (0, .ref (ad 48)), (1, .int a0), (2, .int a1), (3, .ref (ad 51))]) hx hb dL_onFloor_13 hl (by decide) rfl (fun ls hl => ?_)
    refine lv_iconst (v := 1) hx hb dL_onFloor_15 (by decide) ?_
    exact g_iretY hx hb hr hlocks hP hS rfl (yk_not h1 h2) dL_onFloor_16
theorem kw_L_stockOf : Cond.codeWith yL_stockOf cL_stockOf 5 (some .int) [(0, 10, 13, 13)] ∈ BIG := mem_BIG 804 (by decide +kernel) (by decide +kernel)
theorem ks_L_stockOf : Cond.static yL_stockOf ∈ BIG := mem_BIG 803 (by decide +kernel) (by decide +kernel)
set_option maxHeartbeats 4000000 in
set_option maxRecDepth 100000 in
theorem h_stockOf {l : Launch} {D : va_G} {cI cJ : ClassId} {ad : Nat → Nat} {σ σr : Mem} {a0 a1 v t : Int32} {ex : Nat} (hflag : l.stackTraces = false) (hi : injG 52 ad) (hf : f_X5_stockOf σ a0 a1 = some (ex, v)) (ht : (ex = 0 ∧ t = 0) ∨ (ex = 1 ∧ t = 1)) (h1 : ∀ k, k < 51 → σr k = σ k) (h2 : σr 51 = if ex = 0 then upd (σ 51) 0 v else σ 51) : MGy l yL_stockOf cL_stockOf 5 [(0, 10, 13, 13)] 8 132 D cI cJ ad [.ref (ad 48), .int a0, .int a1, .ref (ad 51)] σ σr t := by
  refine MGy.ofW (by decide) hi ?_
  intro p e s m args below meth c hx hb hr hml hlocks hT hown hB hK hZ hN hP hA hAd hS
  have hown : s.vm.findClass RL = some m.cls := hown
  have hl := lv_entry ([.ref (ad 48), .int a0, .int a1, .ref (ad 51)] : List Value) (n := 5) (Nat.le_of_ble_eq_true rfl)
  rw [lg_entry_eq]
  generalize (lg_sl ([.ref (ad 48), .int a0, .int a1, .ref (ad 51)] : List Value) ++ List.replicate (5 - (lg_sl ([.ref (ad 48), .int a0, .int a1, .ref (ad 51)] : List Value)).length) Slot.unset).toArray = ls at hl ⊢
  have hl : lv_has ls 5 [(0, .ref (ad 48)), (1, .int a0), (2, .int a1), (3, .ref (ad 51))] := hl
  refine lv_aload_n hx hb dL_stockOf_0 rfl (lv_at hl 3 rfl) ?_
  refine lv_iconst (v := 0) hx hb dL_stockOf_1 (by decide) ?_
  refine lv_aload_n hx hb dL_stockOf_2 rfl (lv_at hl 0 rfl) ?_
  refine lv_iload_n hx hb dL_stockOf_3 rfl (lv_at hl 1 rfl) ?_
  refine lv_iload_n hx hb dL_stockOf_4 rfl (lv_at hl 2 rfl) ?_
  rcases ht with ⟨rfl, rfl⟩ | ⟨rfl, rfl⟩
  · refine g_xViG (k0 := 48) (τ := tY σ σ) ⟨⟨hx, hb, hml, hown, hB⟩, hK, hi, hA, hAd, hP, hS⟩ hZ sub_Y (c_X5_stockOf hflag (inj51 hi) hf) (fun _ _ => rfl) cal_X5_stockOf kM_L_113 ⟨Nat.le_of_ble_eq_true rfl, Nat.le_of_ble_eq_true rfl⟩ (by decide) rfl rfl rfl rfl hl.1 (Nat.le_of_ble_eq_true rfl) rfl dL_stockOf_5 (tY_1 _ _) (tY_2 _ _) (fun H locs hP hS => ?_)
    refine W.widen (k := 1) (n := 6) (by omega) (by omega) ?_
    refine lv_i2l hx hb dL_stockOf_8 rfl ?_
    refine g_last hx hb hK hP hi hAd hS 51 (by decide) EY_o dL_stockOf_9 (fun H locs hP hS => ?_)
    refine lv_goto (tgt := 17) hx hb dL_stockOf_10 (by decide) ?_
    refine lv_iconst (v := 0) hx hb dL_stockOf_17 (by decide) ?_
    exact g_iretY hx hb hr hlocks hP hS rfl (yk_out h1 h2) dL_stockOf_18
  · refine g_xVxG (k0 := 48) (τ := tY σ σ) ⟨⟨hx, hb, hml, hown, hB⟩, hK, hi, hA, hAd, hP, hS⟩ hZ sub_Y (c_X5_stockOf hflag (inj51 hi) hf) (by decide) (fun _ _ => rfl) cal_X5_stockOf kM_L_113 ⟨Nat.le_of_ble_eq_true rfl, Nat.le_of_ble_eq_true rfl⟩ (by decide) rfl rfl rfl rfl hl.1 (Nat.le_of_ble_eq_true rfl) rfl dL_stockOf_5 ⟨Nat.le_of_ble_eq_true rfl, Nat.le_of_ble_eq_true rfl⟩ (tY_1 _ _) (tY_2 _ _) (fun q9 ce H locs hP hS hc1 hc2 hc3 => ?_)
    refine g_catch hown hB hK hN hT (by decide) (by decide) [] 10 13 [] rfl (fun z hz => absurd hz List.not_mem_nil) (by decide) hc1 hc2 hc3 ?_
    refine lv_astore (lv' := [(4, .ref q9), (0, .ref (ad 48)), (1, .int a0), (2, .int a1), (3, .ref (ad 51))]) hx hb dL_stockOf_13 hl (by decide) rfl (fun ls hl => ?_)
    refine lv_iconst (v := 1) hx hb dL_stockOf_15 (by decide) ?_
    exact g_iretY hx hb hr hlocks hP hS rfl (yk_not h1 h2) dL_stockOf_16
theorem kw_L_tillOf : Cond.codeWith yL_tillOf cL_tillOf 4 (some .int) [(0, 9, 12, 13)] ∈ BIG := mem_BIG 811 (by decide +kernel) (by decide +kernel)
theorem ks_L_tillOf : Cond.static yL_tillOf ∈ BIG := mem_BIG 810 (by decide +kernel) (by decide +kernel)
set_option maxHeartbeats 4000000 in
set_option maxRecDepth 100000 in
theorem h_tillOf {l : Launch} {D : va_G} {cI cJ : ClassId} {ad : Nat → Nat} {σ σr : Mem} {a0 v t : Int32} {ex : Nat} (hflag : l.stackTraces = false) (hi : injG 52 ad) (hf : f_X5_tillOf σ a0 = some (ex, v)) (ht : (ex = 0 ∧ t = 0) ∨ (ex = 1 ∧ t = 1)) (h1 : ∀ k, k < 51 → σr k = σ k) (h2 : σr 51 = if ex = 0 then upd (σ 51) 0 v else σ 51) : MGy l yL_tillOf cL_tillOf 4 [(0, 9, 12, 13)] 8 131 D cI cJ ad [.ref (ad 48), .int a0, .ref (ad 51)] σ σr t := by
  refine MGy.ofW (by decide) hi ?_
  intro p e s m args below meth c hx hb hr hml hlocks hT hown hB hK hZ hN hP hA hAd hS
  have hown : s.vm.findClass RL = some m.cls := hown
  have hl := lv_entry ([.ref (ad 48), .int a0, .ref (ad 51)] : List Value) (n := 4) (Nat.le_of_ble_eq_true rfl)
  rw [lg_entry_eq]
  generalize (lg_sl ([.ref (ad 48), .int a0, .ref (ad 51)] : List Value) ++ List.replicate (4 - (lg_sl ([.ref (ad 48), .int a0, .ref (ad 51)] : List Value)).length) Slot.unset).toArray = ls at hl ⊢
  have hl : lv_has ls 4 [(0, .ref (ad 48)), (1, .int a0), (2, .ref (ad 51))] := hl
  refine lv_aload_n hx hb dL_tillOf_0 rfl (lv_at hl 2 rfl) ?_
  refine lv_iconst (v := 0) hx hb dL_tillOf_1 (by decide) ?_
  refine lv_aload_n hx hb dL_tillOf_2 rfl (lv_at hl 0 rfl) ?_
  refine lv_iload_n hx hb dL_tillOf_3 rfl (lv_at hl 1 rfl) ?_
  rcases ht with ⟨rfl, rfl⟩ | ⟨rfl, rfl⟩
  · refine g_xViG (k0 := 48) (τ := tY σ σ) ⟨⟨hx, hb, hml, hown, hB⟩, hK, hi, hA, hAd, hP, hS⟩ hZ sub_Y (c_X5_tillOf hflag (inj51 hi) hf) (fun _ _ => rfl) cal_X5_tillOf kM_L_116 ⟨Nat.le_of_ble_eq_true rfl, Nat.le_of_ble_eq_true rfl⟩ (by decide) rfl rfl rfl rfl hl.1 (Nat.le_of_ble_eq_true rfl) rfl dL_tillOf_4 (tY_1 _ _) (tY_2 _ _) (fun H locs hP hS => ?_)
    refine W.widen (k := 1) (n := 6) (by omega) (by omega) ?_
    refine lv_i2l hx hb dL_tillOf_7 rfl ?_
    refine g_last hx hb hK hP hi hAd hS 51 (by decide) EY_o dL_tillOf_8 (fun H locs hP hS => ?_)
    refine lv_goto (tgt := 15) hx hb dL_tillOf_9 (by decide) ?_
    refine lv_iconst (v := 0) hx hb dL_tillOf_15 (by decide) ?_
    exact g_iretY hx hb hr hlocks hP hS rfl (yk_out h1 h2) dL_tillOf_16
  · refine g_xVxG (k0 := 48) (τ := tY σ σ) ⟨⟨hx, hb, hml, hown, hB⟩, hK, hi, hA, hAd, hP, hS⟩ hZ sub_Y (c_X5_tillOf hflag (inj51 hi) hf) (by decide) (fun _ _ => rfl) cal_X5_tillOf kM_L_116 ⟨Nat.le_of_ble_eq_true rfl, Nat.le_of_ble_eq_true rfl⟩ (by decide) rfl rfl rfl rfl hl.1 (Nat.le_of_ble_eq_true rfl) rfl dL_tillOf_4 ⟨Nat.le_of_ble_eq_true rfl, Nat.le_of_ble_eq_true rfl⟩ (tY_1 _ _) (tY_2 _ _) (fun q9 ce H locs hP hS hc1 hc2 hc3 => ?_)
    refine g_catch hown hB hK hN hT (by decide) (by decide) [] 9 12 [] rfl (fun z hz => absurd hz List.not_mem_nil) (by decide) hc1 hc2 hc3 ?_
    refine lv_astore_n (lv' := [(3, .ref q9), (0, .ref (ad 48)), (1, .int a0), (2, .ref (ad 51))]) hx hb dL_tillOf_12 rfl hl (by decide) rfl (fun ls hl => ?_)
    refine lv_iconst (v := 1) hx hb dL_tillOf_13 (by decide) ?_
    exact g_iretY hx hb hr hlocks hP hS rfl (yk_not h1 h2) dL_tillOf_14
theorem kw_L_allGoods : Cond.codeWith yL_allGoods cL_allGoods 4 (some .int) [(0, 9, 12, 13)] ∈ BIG := mem_BIG 818 (by decide +kernel) (by decide +kernel)
theorem ks_L_allGoods : Cond.static yL_allGoods ∈ BIG := mem_BIG 817 (by decide +kernel) (by decide +kernel)
set_option maxHeartbeats 4000000 in
set_option maxRecDepth 100000 in
theorem h_allGoods {l : Launch} {D : va_G} {cI cJ : ClassId} {ad : Nat → Nat} {σ σr : Mem} {a0 v t : Int32} {ex : Nat} (hflag : l.stackTraces = false) (hi : injG 52 ad) (hf : f_X5_allGoods σ a0 = some (ex, v)) (ht : (ex = 0 ∧ t = 0) ∨ (ex = 1 ∧ t = 1)) (h1 : ∀ k, k < 51 → σr k = σ k) (h2 : σr 51 = if ex = 0 then upd (σ 51) 0 v else σ 51) : MGy l yL_allGoods cL_allGoods 4 [(0, 9, 12, 13)] 8 131 D cI cJ ad [.ref (ad 48), .int a0, .ref (ad 51)] σ σr t := by
  refine MGy.ofW (by decide) hi ?_
  intro p e s m args below meth c hx hb hr hml hlocks hT hown hB hK hZ hN hP hA hAd hS
  have hown : s.vm.findClass RL = some m.cls := hown
  have hl := lv_entry ([.ref (ad 48), .int a0, .ref (ad 51)] : List Value) (n := 4) (Nat.le_of_ble_eq_true rfl)
  rw [lg_entry_eq]
  generalize (lg_sl ([.ref (ad 48), .int a0, .ref (ad 51)] : List Value) ++ List.replicate (4 - (lg_sl ([.ref (ad 48), .int a0, .ref (ad 51)] : List Value)).length) Slot.unset).toArray = ls at hl ⊢
  have hl : lv_has ls 4 [(0, .ref (ad 48)), (1, .int a0), (2, .ref (ad 51))] := hl
  refine lv_aload_n hx hb dL_allGoods_0 rfl (lv_at hl 2 rfl) ?_
  refine lv_iconst (v := 0) hx hb dL_allGoods_1 (by decide) ?_
  refine lv_aload_n hx hb dL_allGoods_2 rfl (lv_at hl 0 rfl) ?_
  refine lv_iload_n hx hb dL_allGoods_3 rfl (lv_at hl 1 rfl) ?_
  rcases ht with ⟨rfl, rfl⟩ | ⟨rfl, rfl⟩
  · refine g_xViG (k0 := 48) (τ := tY σ σ) ⟨⟨hx, hb, hml, hown, hB⟩, hK, hi, hA, hAd, hP, hS⟩ hZ sub_Y (c_X5_allGoods hflag (inj51 hi) hf) (fun _ _ => rfl) cal_X5_allGoods kM_L_119 ⟨Nat.le_of_ble_eq_true rfl, Nat.le_of_ble_eq_true rfl⟩ (by decide) rfl rfl rfl rfl hl.1 (Nat.le_of_ble_eq_true rfl) rfl dL_allGoods_4 (tY_1 _ _) (tY_2 _ _) (fun H locs hP hS => ?_)
    refine W.widen (k := 1) (n := 6) (by omega) (by omega) ?_
    refine lv_i2l hx hb dL_allGoods_7 rfl ?_
    refine g_last hx hb hK hP hi hAd hS 51 (by decide) EY_o dL_allGoods_8 (fun H locs hP hS => ?_)
    refine lv_goto (tgt := 15) hx hb dL_allGoods_9 (by decide) ?_
    refine lv_iconst (v := 0) hx hb dL_allGoods_15 (by decide) ?_
    exact g_iretY hx hb hr hlocks hP hS rfl (yk_out h1 h2) dL_allGoods_16
  · refine g_xVxG (k0 := 48) (τ := tY σ σ) ⟨⟨hx, hb, hml, hown, hB⟩, hK, hi, hA, hAd, hP, hS⟩ hZ sub_Y (c_X5_allGoods hflag (inj51 hi) hf) (by decide) (fun _ _ => rfl) cal_X5_allGoods kM_L_119 ⟨Nat.le_of_ble_eq_true rfl, Nat.le_of_ble_eq_true rfl⟩ (by decide) rfl rfl rfl rfl hl.1 (Nat.le_of_ble_eq_true rfl) rfl dL_allGoods_4 ⟨Nat.le_of_ble_eq_true rfl, Nat.le_of_ble_eq_true rfl⟩ (tY_1 _ _) (tY_2 _ _) (fun q9 ce H locs hP hS hc1 hc2 hc3 => ?_)
    refine g_catch hown hB hK hN hT (by decide) (by decide) [] 9 12 [] rfl (fun z hz => absurd hz List.not_mem_nil) (by decide) hc1 hc2 hc3 ?_
    refine lv_astore_n (lv' := [(3, .ref q9), (0, .ref (ad 48)), (1, .int a0), (2, .ref (ad 51))]) hx hb dL_allGoods_12 rfl hl (by decide) rfl (fun ls hl => ?_)
    refine lv_iconst (v := 1) hx hb dL_allGoods_13 (by decide) ?_
    exact g_iretY hx hb hr hlocks hP hS rfl (yk_not h1 h2) dL_allGoods_14
theorem kw_L_roomAfter : Cond.codeWith yL_roomAfter cL_roomAfter 5 (some .int) [(0, 10, 13, 13)] ∈ BIG := mem_BIG 833 (by decide +kernel) (by decide +kernel)
theorem ks_L_roomAfter : Cond.static yL_roomAfter ∈ BIG := mem_BIG 832 (by decide +kernel) (by decide +kernel)
set_option maxHeartbeats 4000000 in
set_option maxRecDepth 100000 in
theorem h_roomAfter {l : Launch} {D : va_G} {cI cJ : ClassId} {ad : Nat → Nat} {σ σr τ' : Mem} {a0 a1 v t : Int32} {ex : Nat} (hflag : l.stackTraces = false) (hi : injG 52 ad) (hf : f_X5_roomAfter σ a0 a1 = some (ex, v, τ')) (ht : (ex = 0 ∧ t = 0) ∨ (ex = 1 ∧ t = 1)) (h1 : ∀ k, k < 51 → σr k = τ' k) (h2 : σr 51 = if ex = 0 then upd (σ 51) 0 v else σ 51) : MGy l yL_roomAfter cL_roomAfter 5 [(0, 10, 13, 13)] 8 175 D cI cJ ad [.ref (ad 48), .int a0, .int a1, .ref (ad 51)] σ σr t := by
  refine MGy.ofW (by decide) hi ?_
  intro p e s m args below meth c hx hb hr hml hlocks hT hown hB hK hZ hN hP hA hAd hS
  have hown : s.vm.findClass RL = some m.cls := hown
  have hl := lv_entry ([.ref (ad 48), .int a0, .int a1, .ref (ad 51)] : List Value) (n := 5) (Nat.le_of_ble_eq_true rfl)
  rw [lg_entry_eq]
  generalize (lg_sl ([.ref (ad 48), .int a0, .int a1, .ref (ad 51)] : List Value) ++ List.replicate (5 - (lg_sl ([.ref (ad 48), .int a0, .int a1, .ref (ad 51)] : List Value)).length) Slot.unset).toArray = ls at hl ⊢
  have hl : lv_has ls 5 [(0, .ref (ad 48)), (1, .int a0), (2, .int a1), (3, .ref (ad 51))] := hl
  refine lv_aload_n hx hb dL_roomAfter_0 rfl (lv_at hl 3 rfl) ?_
  refine lv_iconst (v := 0) hx hb dL_roomAfter_1 (by decide) ?_
  refine lv_aload_n hx hb dL_roomAfter_2 rfl (lv_at hl 0 rfl) ?_
  refine lv_iload_n hx hb dL_roomAfter_3 rfl (lv_at hl 1 rfl) ?_
  refine lv_iload_n hx hb dL_roomAfter_4 rfl (lv_at hl 2 rfl) ?_
  rcases ht with ⟨rfl, rfl⟩ | ⟨rfl, rfl⟩
  · refine g_xViG (k0 := 48) (τ := tY τ' σ) ⟨⟨hx, hb, hml, hown, hB⟩, hK, hi, hA, hAd, hP, hS⟩ hZ sub_Y (c_X5_roomAfter hflag (inj51 hi) hf) (fun _ _ => rfl) cal_X5_roomAfter kM_L_122 ⟨Nat.le_of_ble_eq_true rfl, Nat.le_of_ble_eq_true rfl⟩ (by decide) rfl rfl rfl rfl hl.1 (Nat.le_of_ble_eq_true rfl) rfl dL_roomAfter_5 (tY_1 _ _) (tY_2 _ _) (fun H locs hP hS => ?_)
    refine W.widen (k := 1) (n := 6) (by omega) (by omega) ?_
    refine lv_i2l hx hb dL_roomAfter_8 rfl ?_
    refine g_last hx hb hK hP hi hAd hS 51 (by decide) EY_o dL_roomAfter_9 (fun H locs hP hS => ?_)
    refine lv_goto (tgt := 17) hx hb dL_roomAfter_10 (by decide) ?_
    refine lv_iconst (v := 0) hx hb dL_roomAfter_17 (by decide) ?_
    exact g_iretY hx hb hr hlocks hP hS rfl (yk_out h1 h2) dL_roomAfter_18
  · refine g_xVxG (k0 := 48) (τ := tY τ' σ) ⟨⟨hx, hb, hml, hown, hB⟩, hK, hi, hA, hAd, hP, hS⟩ hZ sub_Y (c_X5_roomAfter hflag (inj51 hi) hf) (by decide) (fun _ _ => rfl) cal_X5_roomAfter kM_L_122 ⟨Nat.le_of_ble_eq_true rfl, Nat.le_of_ble_eq_true rfl⟩ (by decide) rfl rfl rfl rfl hl.1 (Nat.le_of_ble_eq_true rfl) rfl dL_roomAfter_5 ⟨Nat.le_of_ble_eq_true rfl, Nat.le_of_ble_eq_true rfl⟩ (tY_1 _ _) (tY_2 _ _) (fun q9 ce H locs hP hS hc1 hc2 hc3 => ?_)
    refine g_catch hown hB hK hN hT (by decide) (by decide) [] 10 13 [] rfl (fun z hz => absurd hz List.not_mem_nil) (by decide) hc1 hc2 hc3 ?_
    refine lv_astore (lv' := [(4, .ref q9), (0, .ref (ad 48)), (1, .int a0), (2, .int a1), (3, .ref (ad 51))]) hx hb dL_roomAfter_13 hl (by decide) rfl (fun ls hl => ?_)
    refine lv_iconst (v := 1) hx hb dL_roomAfter_15 (by decide) ?_
    exact g_iretY hx hb hr hlocks hP hS rfl (yk_not h1 h2) dL_roomAfter_16
theorem kw_L_coinsAfter : Cond.codeWith yL_coinsAfter cL_coinsAfter 5 (some .int) [(0, 10, 13, 13)] ∈ BIG := mem_BIG 859 (by decide +kernel) (by decide +kernel)
theorem ks_L_coinsAfter : Cond.static yL_coinsAfter ∈ BIG := mem_BIG 858 (by decide +kernel) (by decide +kernel)
set_option maxHeartbeats 4000000 in
set_option maxRecDepth 100000 in
theorem h_coinsAfter {l : Launch} {D : va_G} {cI cJ : ClassId} {ad : Nat → Nat} {σ σr τ' : Mem} {a0 a1 v t : Int32} {ex : Nat} (hflag : l.stackTraces = false) (hi : injG 52 ad) (hf : f_X5_coinsAfter σ a0 a1 = some (ex, v, τ')) (ht : (ex = 0 ∧ t = 0) ∨ (ex = 1 ∧ t = 1)) (h1 : ∀ k, k < 51 → σr k = τ' k) (h2 : σr 51 = if ex = 0 then upd (σ 51) 0 v else σ 51) : MGy l yL_coinsAfter cL_coinsAfter 5 [(0, 10, 13, 13)] 8 175 D cI cJ ad [.ref (ad 48), .int a0, .int a1, .ref (ad 51)] σ σr t := by
  refine MGy.ofW (by decide) hi ?_
  intro p e s m args below meth c hx hb hr hml hlocks hT hown hB hK hZ hN hP hA hAd hS
  have hown : s.vm.findClass RL = some m.cls := hown
  have hl := lv_entry ([.ref (ad 48), .int a0, .int a1, .ref (ad 51)] : List Value) (n := 5) (Nat.le_of_ble_eq_true rfl)
  rw [lg_entry_eq]
  generalize (lg_sl ([.ref (ad 48), .int a0, .int a1, .ref (ad 51)] : List Value) ++ List.replicate (5 - (lg_sl ([.ref (ad 48), .int a0, .int a1, .ref (ad 51)] : List Value)).length) Slot.unset).toArray = ls at hl ⊢
  have hl : lv_has ls 5 [(0, .ref (ad 48)), (1, .int a0), (2, .int a1), (3, .ref (ad 51))] := hl
  refine lv_aload_n hx hb dL_coinsAfter_0 rfl (lv_at hl 3 rfl) ?_
  refine lv_iconst (v := 0) hx hb dL_coinsAfter_1 (by decide) ?_
  refine lv_aload_n hx hb dL_coinsAfter_2 rfl (lv_at hl 0 rfl) ?_
  refine lv_iload_n hx hb dL_coinsAfter_3 rfl (lv_at hl 1 rfl) ?_
  refine lv_iload_n hx hb dL_coinsAfter_4 rfl (lv_at hl 2 rfl) ?_
  rcases ht with ⟨rfl, rfl⟩ | ⟨rfl, rfl⟩
  · refine g_xViG (k0 := 48) (τ := tY τ' σ) ⟨⟨hx, hb, hml, hown, hB⟩, hK, hi, hA, hAd, hP, hS⟩ hZ sub_Y (c_X5_coinsAfter hflag (inj51 hi) hf) (fun _ _ => rfl) cal_X5_coinsAfter kM_L_125 ⟨Nat.le_of_ble_eq_true rfl, Nat.le_of_ble_eq_true rfl⟩ (by decide) rfl rfl rfl rfl hl.1 (Nat.le_of_ble_eq_true rfl) rfl dL_coinsAfter_5 (tY_1 _ _) (tY_2 _ _) (fun H locs hP hS => ?_)
    refine W.widen (k := 1) (n := 6) (by omega) (by omega) ?_
    refine lv_i2l hx hb dL_coinsAfter_8 rfl ?_
    refine g_last hx hb hK hP hi hAd hS 51 (by decide) EY_o dL_coinsAfter_9 (fun H locs hP hS => ?_)
    refine lv_goto (tgt := 17) hx hb dL_coinsAfter_10 (by decide) ?_
    refine lv_iconst (v := 0) hx hb dL_coinsAfter_17 (by decide) ?_
    exact g_iretY hx hb hr hlocks hP hS rfl (yk_out h1 h2) dL_coinsAfter_18
  · refine g_xVxG (k0 := 48) (τ := tY τ' σ) ⟨⟨hx, hb, hml, hown, hB⟩, hK, hi, hA, hAd, hP, hS⟩ hZ sub_Y (c_X5_coinsAfter hflag (inj51 hi) hf) (by decide) (fun _ _ => rfl) cal_X5_coinsAfter kM_L_125 ⟨Nat.le_of_ble_eq_true rfl, Nat.le_of_ble_eq_true rfl⟩ (by decide) rfl rfl rfl rfl hl.1 (Nat.le_of_ble_eq_true rfl) rfl dL_coinsAfter_5 ⟨Nat.le_of_ble_eq_true rfl, Nat.le_of_ble_eq_true rfl⟩ (tY_1 _ _) (tY_2 _ _) (fun q9 ce H locs hP hS hc1 hc2 hc3 => ?_)
    refine g_catch hown hB hK hN hT (by decide) (by decide) [] 10 13 [] rfl (fun z hz => absurd hz List.not_mem_nil) (by decide) hc1 hc2 hc3 ?_
    refine lv_astore (lv' := [(4, .ref q9), (0, .ref (ad 48)), (1, .int a0), (2, .int a1), (3, .ref (ad 51))]) hx hb dL_coinsAfter_13 hl (by decide) rfl (fun ls hl => ?_)
    refine lv_iconst (v := 1) hx hb dL_coinsAfter_15 (by decide) ?_
    exact g_iretY hx hb hr hlocks hP hS rfl (yk_not h1 h2) dL_coinsAfter_16
theorem kw_L_turnAfter : Cond.codeWith yL_turnAfter cL_turnAfter 4 (some .int) [(0, 9, 12, 13)] ∈ BIG := mem_BIG 866 (by decide +kernel) (by decide +kernel)
theorem ks_L_turnAfter : Cond.static yL_turnAfter ∈ BIG := mem_BIG 865 (by decide +kernel) (by decide +kernel)
set_option maxHeartbeats 4000000 in
set_option maxRecDepth 100000 in
theorem h_turnAfter {l : Launch} {D : va_G} {cI cJ : ClassId} {ad : Nat → Nat} {σ σr τ' : Mem} {a0 v t : Int32} {ex : Nat} (hflag : l.stackTraces = false) (hi : injG 52 ad) (hf : f_X5_turnAfter σ a0 = some (ex, v, τ')) (ht : (ex = 0 ∧ t = 0) ∨ (ex = 1 ∧ t = 1)) (h1 : ∀ k, k < 51 → σr k = τ' k) (h2 : σr 51 = if ex = 0 then upd (σ 51) 0 v else σ 51) : MGy l yL_turnAfter cL_turnAfter 4 [(0, 9, 12, 13)] 8 173 D cI cJ ad [.ref (ad 48), .int a0, .ref (ad 51)] σ σr t := by
  refine MGy.ofW (by decide) hi ?_
  intro p e s m args below meth c hx hb hr hml hlocks hT hown hB hK hZ hN hP hA hAd hS
  have hown : s.vm.findClass RL = some m.cls := hown
  have hl := lv_entry ([.ref (ad 48), .int a0, .ref (ad 51)] : List Value) (n := 4) (Nat.le_of_ble_eq_true rfl)
  rw [lg_entry_eq]
  generalize (lg_sl ([.ref (ad 48), .int a0, .ref (ad 51)] : List Value) ++ List.replicate (4 - (lg_sl ([.ref (ad 48), .int a0, .ref (ad 51)] : List Value)).length) Slot.unset).toArray = ls at hl ⊢
  have hl : lv_has ls 4 [(0, .ref (ad 48)), (1, .int a0), (2, .ref (ad 51))] := hl
  refine lv_aload_n hx hb dL_turnAfter_0 rfl (lv_at hl 2 rfl) ?_
  refine lv_iconst (v := 0) hx hb dL_turnAfter_1 (by decide) ?_
  refine lv_aload_n hx hb dL_turnAfter_2 rfl (lv_at hl 0 rfl) ?_
  refine lv_iload_n hx hb dL_turnAfter_3 rfl (lv_at hl 1 rfl) ?_
  rcases ht with ⟨rfl, rfl⟩ | ⟨rfl, rfl⟩
  · refine g_xViG (k0 := 48) (τ := tY τ' σ) ⟨⟨hx, hb, hml, hown, hB⟩, hK, hi, hA, hAd, hP, hS⟩ hZ sub_Y (c_X5_turnAfter hflag (inj51 hi) hf) (fun _ _ => rfl) cal_X5_turnAfter kM_L_128 ⟨Nat.le_of_ble_eq_true rfl, Nat.le_of_ble_eq_true rfl⟩ (by decide) rfl rfl rfl rfl hl.1 (Nat.le_of_ble_eq_true rfl) rfl dL_turnAfter_4 (tY_1 _ _) (tY_2 _ _) (fun H locs hP hS => ?_)
    refine W.widen (k := 1) (n := 6) (by omega) (by omega) ?_
    refine lv_i2l hx hb dL_turnAfter_7 rfl ?_
    refine g_last hx hb hK hP hi hAd hS 51 (by decide) EY_o dL_turnAfter_8 (fun H locs hP hS => ?_)
    refine lv_goto (tgt := 15) hx hb dL_turnAfter_9 (by decide) ?_
    refine lv_iconst (v := 0) hx hb dL_turnAfter_15 (by decide) ?_
    exact g_iretY hx hb hr hlocks hP hS rfl (yk_out h1 h2) dL_turnAfter_16
  · refine g_xVxG (k0 := 48) (τ := tY τ' σ) ⟨⟨hx, hb, hml, hown, hB⟩, hK, hi, hA, hAd, hP, hS⟩ hZ sub_Y (c_X5_turnAfter hflag (inj51 hi) hf) (by decide) (fun _ _ => rfl) cal_X5_turnAfter kM_L_128 ⟨Nat.le_of_ble_eq_true rfl, Nat.le_of_ble_eq_true rfl⟩ (by decide) rfl rfl rfl rfl hl.1 (Nat.le_of_ble_eq_true rfl) rfl dL_turnAfter_4 ⟨Nat.le_of_ble_eq_true rfl, Nat.le_of_ble_eq_true rfl⟩ (tY_1 _ _) (tY_2 _ _) (fun q9 ce H locs hP hS hc1 hc2 hc3 => ?_)
    refine g_catch hown hB hK hN hT (by decide) (by decide) [] 9 12 [] rfl (fun z hz => absurd hz List.not_mem_nil) (by decide) hc1 hc2 hc3 ?_
    refine lv_astore_n (lv' := [(3, .ref q9), (0, .ref (ad 48)), (1, .int a0), (2, .ref (ad 51))]) hx hb dL_turnAfter_12 rfl hl (by decide) rfl (fun ls hl => ?_)
    refine lv_iconst (v := 1) hx hb dL_turnAfter_13 (by decide) ?_
    exact g_iretY hx hb hr hlocks hP hS rfl (yk_not h1 h2) dL_turnAfter_14
