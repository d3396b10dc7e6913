def L_L_isWorld_307 : Nat → (Int32 → Mem → Option (Int32 × Mem)) → Int32 → Int32 → Int32 → Int32 → Int32 → Int32 → Mem → Option (Int32 × Mem)
  | 0, _, _, _, _, _, _, _, _ => none
  | n + 1, k, x40, x41, x42, x43, x44, x45, σ46 =>
    if 8 ≤ x45 then (
    k x44 σ46)
    else (
    bt (f_X5_onFloor σ46 x45 x43) (fun _ => none) fun v61 =>
    bt (f_X5_stockOf σ46 x45 x43) (fun _ => none) fun v63 =>
    gd 7 13 <|
    jn (fun (y66 : Int32) (y67 : Int32) (y68 : Int32) (σ65 : Mem) =>
    L_L_isWorld_307 n k x40 x41 x42 x43 (y66 + (y67 + y68)) (x45 + 1) σ65) fun (J69 : Int32 → Int32 → Int32 → Mem → Option (Int32 × Mem)) =>
    if (σ46 51 (7 : Int32).toNatClampNeg) ≤ x45 then (
    J69 x44 (v61 + v63) 0 σ46)
    else (
    bt (f_X5_goodsOf σ46 x45 x43) (fun _ => none) fun v71 =>
    J69 x44 (v61 + v63) v71 σ46))
def L_L_isWorld_295 : Nat → (Int32 → Mem → Option (Int32 × Mem)) → Int32 → Int32 → Int32 → Int32 → Mem → Option (Int32 × Mem)
  | 0, _, _, _, _, _, _ => none
  | n + 1, k, x25, x26, x27, x28, σ29 =>
    if 5 ≤ x28 then (
    k x27 σ29)
    else (
    L_L_isWorld_307 FU (fun (x48 : Int32) (σ49 : Mem) =>
    jn (fun (y51 : Int32) (σ50 : Mem) =>
    L_L_isWorld_295 n k x25 x26 y51 (x28 + 1) σ50) fun (J52 : Int32 → Mem → Option (Int32 × Mem)) =>
    jn (fun (σ53 : Mem) =>
    J52 0 σ53) fun (J54 : Mem → Option (Int32 × Mem)) =>
    if x27 = 0 then (
    J54 σ49)
    else (
    bt (f_X5_allGoods σ49 x28) (fun _ => none) fun v56 =>
    if v56 = x48 then (
    gd (1 + x28) 13 <|
    if x48 = (σ49 51 (1 + x28).toNatClampNeg) then (
    J52 1 σ49)
    else (
    J54 σ49))
    else (
    J54 σ49))) x25 x26 x27 x28 0 0 σ29)
def L_L_isWorld_208 : Nat → (Int32 → Int32 → Mem → Option (Int32 × Mem)) → Int32 → Int32 → Int32 → Int32 → Mem → Option (Int32 × Mem)
  | 0, _, _, _, _, _, _ => none
  | n + 1, k, x17, x16, x18, x19, σ20 =>
    if 8 ≤ x19 then (
    k x16 x18 σ20)
    else (
    bt (f_X5_tillOf σ20 x19) (fun _ => none) fun v74 =>
    jn (fun (y77 : Int32) (σ76 : Mem) =>
    jn (fun (y80 : Int32) (y81 : Int32) (σ79 : Mem) =>
    L_L_isWorld_208 n k x17 (y80 + y81) y77 (x19 + 1) σ79) fun (J82 : Int32 → Int32 → Mem → Option (Int32 × Mem)) =>
    if 0 ≤ v74 then (
    J82 x16 v74 σ76)
    else (
    J82 x16 0 σ76)) fun (J78 : Int32 → Mem → Option (Int32 × Mem)) =>
    jn (fun (σ84 : Mem) =>
    J78 0 σ84) fun (J85 : Mem → Option (Int32 × Mem)) =>
    if x18 = 0 then (
    J85 σ20)
    else (
    if v74 < (-1) then (
    J85 σ20)
    else (
    jn (fun (y89 : Int32) (σ88 : Mem) =>
    gd 12 13 <|
    jn (fun (y92 : Int32) (y93 : Int32) (σ91 : Mem) =>
    if y92 = y93 then (
    J78 1 σ91)
    else (
    J85 σ91)) fun (J94 : Int32 → Int32 → Mem → Option (Int32 × Mem)) =>
    if (((σ88 51 (12 : Int32).toNatClampNeg) >>> (x19 &&& 31)) &&& 1) = 0 then (
    J94 y89 1 σ88)
    else (
    J94 y89 0 σ88)) fun (J90 : Int32 → Mem → Option (Int32 × Mem)) =>
    if v74 = (-1) then (
    J90 1 σ20)
    else (
    J90 0 σ20))))
def L_L_isWorld_143 : Nat → (Int32 → Mem → Option (Int32 × Mem)) → Int32 → Int32 → Int32 → Int32 → Int32 → Mem → Option (Int32 × Mem)
  | 0, _, _, _, _, _, _, _ => none
  | n + 1, k, x107, x108, x110, x109, x111, σ112 =>
    gd 8 13 <|
    if (σ112 51 (8 : Int32).toNatClampNeg) ≤ x111 then (
    k x109 σ112)
    else (
    jn (fun (y118 : Int32) (σ117 : Mem) =>
    L_L_isWorld_143 n k x107 x108 x110 y118 (x111 + 1) σ117) fun (J119 : Int32 → Mem → Option (Int32 × Mem)) =>
    jn (fun (σ120 : Mem) =>
    J119 0 σ120) fun (J121 : Mem → Option (Int32 × Mem)) =>
    if x109 = 0 then (
    J121 σ112)
    else (
    bt (f_X5_stageOf σ112 x110 x111) (fun _ => none) fun v123 =>
    if v123 < 0 then (
    J121 σ112)
    else (
    bt (f_X5_stageOf σ112 x110 x111) (fun _ => none) fun v126 =>
    gd (9 + x111) 13 <|
    if (σ112 51 (9 + x111).toNatClampNeg) < v126 then (
    J121 σ112)
    else (
    J119 1 σ112))))
def L_L_isWorld_35 : Nat → (Int32 → Int32 → Int32 → Mem → Option (Int32 × Mem)) → Int32 → Int32 → Int32 → Int32 → Mem → Option (Int32 × Mem)
  | 0, _, _, _, _, _, _ => none
  | n + 1, k, x6, x7, x8, x9, σ10 =>
    gd 7 13 <|
    if (σ10 51 (7 : Int32).toNatClampNeg) ≤ x9 then (
    k x6 x7 x8 σ10)
    else (
    bt (f_X5_coinsOf σ10 x9) (fun _ => none) fun v99 =>
    jn (fun (y102 : Int32) (σ101 : Mem) =>
    jn (fun (y105 : Int32) (σ104 : Mem) =>
    L_L_isWorld_143 FU (fun (x114 : Int32) (σ115 : Mem) =>
    L_L_isWorld_35 n k (x6 + v99) y102 x114 (x9 + 1) σ115) (x6 + v99) y102 x9 y105 0 σ104) fun (J106 : Int32 → Mem → Option (Int32 × Mem)) =>
    jn (fun (σ129 : Mem) =>
    J106 0 σ129) fun (J130 : Mem → Option (Int32 × Mem)) =>
    if x8 = 0 then (
    J130 σ101)
    else (
    bt (f_X5_coinsOf σ101 x9) (fun _ => none) fun v132 =>
    if v132 < 0 then (
    J130 σ101)
    else (
    bt (f_X5_healthOf σ101 x9) (fun _ => none) fun v135 =>
    if v135 < 1 then (
    J130 σ101)
    else (
    bt (f_X5_healthOf σ101 x9) (fun _ => none) fun v138 =>
    if 20 < v138 then (
    J130 σ101)
    else (
    bt (f_X5_roomOf σ101 x9) (fun _ => none) fun v141 =>
    if v141 < 0 then (
    J130 σ101)
    else (
    bt (f_X5_roomOf σ101 x9) (fun _ => none) fun v144 =>
    if 7 < v144 then (
    J130 σ101)
    else (
    J106 1 σ101))))))) fun (J103 : Int32 → Mem → Option (Int32 × Mem)) =>
    jn (fun (σ147 : Mem) =>
    J103 x9 σ147) fun (J148 : Mem → Option (Int32 × Mem)) =>
    if x7 < 0 then (
    J148 σ10)
    else (
    bt (f_X5_readyAt σ10 x9) (fun _ => none) fun v150 =>
    bt (f_X5_readyAt σ10 x7) (fun _ => none) fun v152 =>
    if v152 ≤ v150 then (
    J103 x7 σ10)
    else (
    J148 σ10)))
def f_L_isWorld (σ : Mem) : Option (Int32 × Mem) :=
bd (f_X5_purse σ) fun v1 =>
bd (f_X5_purse σ) fun v2 =>
jn (fun (y4 : Int32) (σ3 : Mem) =>
L_L_isWorld_35 FU (fun (x12 : Int32) (x13 : Int32) (x14 : Int32) (σ15 : Mem) =>
L_L_isWorld_208 FU (fun (x22 : Int32) (x23 : Int32) (σ24 : Mem) =>
L_L_isWorld_295 FU (fun (x31 : Int32) (σ32 : Mem) =>
if x31 = 0 then (
some (0, σ32))
else (
bd (f_X5_turn σ32) fun v34 =>
if v34 = x13 then (
gd 0 13 <|
if x22 = (σ32 51 (0 : Int32).toNatClampNeg) then (
bd (f_X5_allCoins σ32) fun v37 =>
if v37 = x22 then (
some (1, σ32))
else (
some (0, σ32)))
else (
some (0, σ32)))
else (
some (0, σ32)))) x22 x13 x23 0 σ24) x13 x12 x14 0 σ15) v1 (-1) y4 0 σ3) fun (J5 : Int32 → Mem → Option (Int32 × Mem)) =>
jn (fun (σ155 : Mem) =>
J5 0 σ155) fun (J156 : Mem → Option (Int32 × Mem)) =>
if v2 < 0 then (
J156 σ)
else (
bd (f_X5_calls σ) fun v158 =>
gd 6 13 <|
if v158 = (σ 51 (6 : Int32).toNatClampNeg) then (
J5 1 σ)
else (
J156 σ))
set_option maxHeartbeats 16000000 in
set_option maxRecDepth 100000 in
theorem c_L_isWorld {l : Launch} {D : va_G} {cI cJ : ClassId} {ad : Nat → Nat} {σ σr : Mem} {r : Int32} (hflag : l.stackTraces = false) (hi : injG 54 ad) (hf : f_L_isWorld σ = some (r, σr)) : MGY l yL_isWorld (Cond.code yL_isWorld cL_isWorld 8 (some .boolean)) 9 154 0 D cI cJ 54 ad (EY ad cI cJ) [.ref (ad 48), .ref (ad 51)] σ (fun sz => Qgi D 54 ad (EY ad cI cJ) r σr sz) := by
  refine MGY.ofW (by decide) ?_
  intro p e s m args below meth c hx hb hr hml hlocks hown hB hK hZ hN hP hA hAd hS
  have hown : s.vm.findClass RL = some m.cls := hown
  have hl := lv_entry ([.ref (ad 48), .ref (ad 51)] : List Value) (n := 8) (Nat.le_of_ble_eq_true rfl)
  rw [lg_entry_eq]
  generalize (lg_sl ([.ref (ad 48), .ref (ad 51)] : List Value) ++ List.replicate (8 - (lg_sl ([.ref (ad 48), .ref (ad 51)] : List Value)).length) Slot.unset).toArray = ls at hl ⊢
  have hl : lv_has ls 8 [(0, .ref (ad 48)), (1, .ref (ad 51))] := hl
  generalize hQ : MQ below (Qgi D 54 ad (EY ad cI cJ) r σr s.heap.size) _ s 0 (6 * 0) (AG 54 ad s.heap.size) = Q
  have hQ := hQ.symm
  obtain ⟨R, hR, hRf, hRl, hRc, hRs⟩ : ∃ R : Room, R = ({ frames := 9, cells := 0, slots := 6 * 0, locals := 154 } : Room) ∧ 9 ≤ R.frames ∧ 154 ≤ R.locals ∧ 0 ≤ R.cells ∧ 6 * 0 ≤ R.slots := ⟨_, rfl, Nat.le_refl _, Nat.le_refl _, Nat.le_refl _, Nat.le_refl _⟩
  rw [← hR]
  unfold f_L_isWorld at hf
  refine lv_aload_n hx hb dL_isWorld_0 rfl (lv_at hl 0 rfl) ?_
  obtain ⟨v1, hv, hf⟩ := bd_e hf
  refine g_cVi (τ := σ) ⟨⟨hx, hb, hml, hown, hB⟩, hK, hi, hA, hAd, hP, hS⟩ sub_YX (c_X5_purse (injS (by decide) hi) hv) (fun _ _ => rfl) cal_X5_purse kM_L_63 ⟨Nat.le_trans (Nat.le_of_ble_eq_true rfl) hRf, Nat.le_trans (Nat.le_of_ble_eq_true rfl) hRl⟩ 48 (by decide) rfl rfl rfl rfl hl.1 (Nat.le_of_ble_eq_true rfl) rfl dL_isWorld_1 ⟨by omega, by omega⟩ (fun _ _ => rfl) (fun _ _ _ => rfl) (fun H locs hP hS => ?_)
  refine lv_istore_n (lv' := [(2, .int v1), (0, .ref (ad 48)), (1, .ref (ad 51))]) hx hb dL_isWorld_4 rfl hl (by decide) rfl (fun ls hl => ?_)
  refine lv_iconst (v := (-1)) hx hb dL_isWorld_5 (by decide) ?_
  refine lv_istore_n (lv' := [(3, .int (-1)), (2, .int v1), (0, .ref (ad 48)), (1, .ref (ad 51))]) hx hb dL_isWorld_6 rfl hl (by decide) rfl (fun ls hl => ?_)
  refine lv_aload_n hx hb dL_isWorld_7 rfl (lv_at hl 2 rfl) ?_
  obtain ⟨v2, hv, hf⟩ := bd_e hf
  refine g_cVi (τ := σ) ⟨⟨hx, hb, hml, hown, hB⟩, hK, hi, hA, hAd, hP, hS⟩ sub_YX (c_X5_purse (injS (by decide) hi) hv) (fun _ _ => rfl) cal_X5_purse kM_L_63 ⟨Nat.le_trans (Nat.le_of_ble_eq_true rfl) hRf, Nat.le_trans (Nat.le_of_ble_eq_true rfl) hRl⟩ 48 (by decide) rfl rfl rfl rfl hl.1 (Nat.le_of_ble_eq_true rfl) rfl dL_isWorld_8 ⟨by omega, by omega⟩ (fun _ _ => rfl) (fun _ _ _ => rfl) (fun H locs hP hS => ?_)
  obtain ⟨J5, eJ5, hf⟩ := jn_e2 hf
  have hJ5 : ∀ (y4 : Int32) (σ3 : Mem) (H : Heap) (locs : List Loc) (ls : Array Slot), J5 y4 σ3 = some (r, σr) → va_P D vwCl (wsG 54 ad (EY ad cI cJ) σ3) H → va_S (AG 54 ad s.heap.size) s.heap H locs → lv_has ls 8 [(0, .ref (ad 48)), (1, .ref (ad 51)), (2, .int v1), (3, .int (-1))] → W p l e R s m args below meth c H locs 0 0 Q (F0 m 30 ls [.int y4]) := by
    intro y4 σ3 H locs ls hf hP hS hl
    rw [eJ5] at hf
    refine lv_istore (lv' := [(4, .int y4), (0, .ref (ad 48)), (1, .ref (ad 51)), (2, .int v1), (3, .int (-1))]) hx hb dL_isWorld_30 hl (by decide) rfl (fun ls hl => ?_)
    refine lv_iconst (v := 0) hx hb dL_isWorld_32 (by decide) ?_
    refine lv_istore (lv' := [(5, .int 0), (4, .int y4), (0, .ref (ad 48)), (1, .ref (ad 51)), (2, .int v1), (3, .int (-1))]) hx hb dL_isWorld_33 hl (by decide) rfl (fun ls hl => ?_)
    obtain ⟨K11, eK11, hf⟩ := lp_e4 (b := fun K => L_L_isWorld_35 FU K v1 (-1) y4 0 σ3) hf
    replace hf : L_L_isWorld_35 FU K11 v1 (-1) y4 0 σ3 = some (r, σr) := hf
    have hKK11 : ∀ (x12 : Int32) (x13 : Int32) (x14 : Int32) (σ15 : Mem) (H : Heap) (locs : List Loc) (ls : Array Slot), K11 x12 x13 x14 σ15 = some (r, σr) → va_P D vwCl (wsG 54 ad (EY ad cI cJ) σ15) H → va_S (AG 54 ad s.heap.size) s.heap H locs → lv_has ls 8 [(0, .ref (ad 48)), (1, .ref (ad 51)), (2, .int x12), (3, .int x13), (4, .int x14)] → W p l e R s m args below meth c H locs 0 0 Q (F0 m 205 ls []) := by
      intro x12 x13 x14 σ15 H locs ls hf hP hS hl
      rw [eK11] at hf
      refine lv_iconst (v := 0) hx hb dL_isWorld_205 (by decide) ?_
      refine lv_istore (lv' := [(5, .int 0), (0, .ref (ad 48)), (1, .ref (ad 51)), (2, .int x12), (3, .int x13), (4, .int x14)]) hx hb dL_isWorld_206 hl (by decide) rfl (fun ls hl => ?_)
      obtain ⟨K21, eK21, hf⟩ := lp_e3 (b := fun K => L_L_isWorld_208 FU K x13 x12 x14 0 σ15) hf
      replace hf : L_L_isWorld_208 FU K21 x13 x12 x14 0 σ15 = some (r, σr) := hf
      have hKK21 : ∀ (x22 : Int32) (x23 : Int32) (σ24 : Mem) (H : Heap) (locs : List Loc) (ls : Array Slot), K21 x22 x23 σ24 = some (r, σr) → va_P D vwCl (wsG 54 ad (EY ad cI cJ) σ24) H → va_S (AG 54 ad s.heap.size) s.heap H locs → lv_has ls 8 [(0, .ref (ad 48)), (1, .ref (ad 51)), (2, .int x22), (3, .int x13), (4, .int x23)] → W p l e R s m args below meth c H locs 0 0 Q (F0 m 292 ls []) := by
        intro x22 x23 σ24 H locs ls hf hP hS hl
        rw [eK21] at hf
        refine lv_iconst (v := 0) hx hb dL_isWorld_292 (by decide) ?_
        refine lv_istore (lv' := [(5, .int 0), (0, .ref (ad 48)), (1, .ref (ad 51)), (2, .int x22), (3, .int x13), (4, .int x23)]) hx hb dL_isWorld_293 hl (by decide) rfl (fun ls hl => ?_)
        obtain ⟨K30, eK30, hf⟩ := lp_e2 (b := fun K => L_L_isWorld_295 FU K x22 x13 x23 0 σ24) hf
        replace hf : L_L_isWorld_295 FU K30 x22 x13 x23 0 σ24 = some (r, σr) := hf
        have hKK30 : ∀ (x31 : Int32) (σ32 : Mem) (H : Heap) (locs : List Loc) (ls : Array Slot), K30 x31 σ32 = some (r, σr) → va_P D vwCl (wsG 54 ad (EY ad cI cJ) σ32) H → va_S (AG 54 ad s.heap.size) s.heap H locs → lv_has ls 8 [(0, .ref (ad 48)), (1, .ref (ad 51)), (2, .int x22), (3, .int x13), (4, .int x31)] → W p l e R s m args below meth c H locs 0 0 Q (F0 m 404 ls []) := by
          intro x31 σ32 H locs ls hf hP hS hl
          rw [eK30] at hf
          refine lv_iload hx hb dL_isWorld_404 (lv_at hl 4 rfl) ?_
          refine lv_if_eq (tgt := 436) hx hb dL_isWorld_406 (by decide) (fun q33 => ?_) (fun q33 => ?_)
          · rw [if_pos q33] at hf
            refine lv_iconst (v := 0) hx hb dL_isWorld_436 (by decide) ?_
            obtain ⟨h1, h2⟩ := rt2 hf
            refine W.widen (k := 0) (n := 6 * 0) (by omega) (by omega) ?_
            rw [hQ]
            exact g_yzret hx hb hr hlocks hP hS (Or.inl rfl) h1 h2 dL_isWorld_437
          · rw [if_neg q33] at hf
            refine lv_aload_n hx hb dL_isWorld_409 rfl (lv_at hl 0 rfl) ?_
            obtain ⟨v34, hv, hf⟩ := bd_e hf
            refine g_cVi (τ := σ32) ⟨⟨hx, hb, hml, hown, hB⟩, hK, hi, hA, hAd, hP, hS⟩ sub_YX (c_X5_turn (injS (by decide) hi) hv) (fun _ _ => rfl) cal_X5_turn kM_L_99 ⟨Nat.le_trans (Nat.le_of_ble_eq_true rfl) hRf, Nat.le_trans (Nat.le_of_ble_eq_true rfl) hRl⟩ 48 (by decide) rfl rfl rfl rfl hl.1 (Nat.le_of_ble_eq_true rfl) rfl dL_isWorld_410 ⟨by omega, by omega⟩ (fun _ _ => rfl) (fun _ _ _ => rfl) (fun H locs hP hS => ?_)
            refine lv_iload_n hx hb dL_isWorld_413 rfl (lv_at hl 3 rfl) ?_
            refine lv_icmp_ne (tgt := 436) hx hb dL_isWorld_414 (by decide) (fun q35 => ?_) (fun q35 => ?_)
            · rw [if_neg q35] at hf
              refine lv_iconst (v := 0) hx hb dL_isWorld_436 (by decide) ?_
              obtain ⟨h1, h2⟩ := rt2 hf
              refine W.widen (k := 0) (n := 6 * 0) (by omega) (by omega) ?_
              rw [hQ]
              exact g_yzret hx hb hr hlocks hP hS (Or.inl rfl) h1 h2 dL_isWorld_437
            · rw [if_pos q35] at hf
              refine lv_iload_n hx hb dL_isWorld_417 rfl (lv_at hl 2 rfl) ?_
              refine lv_aload_n hx hb dL_isWorld_418 rfl (lv_at hl 1 rfl) ?_
              refine lv_iconst (v := 0) hx hb dL_isWorld_419 (by decide) ?_
              obtain ⟨hin, hf⟩ := gd_e hf
              refine g_iald hx hb hK hP 51 13 (by decide) (EY_51 _) hin dL_isWorld_420 ?_
              refine lv_icmp_ne (tgt := 436) hx hb dL_isWorld_421 (by decide) (fun q36 => ?_) (fun q36 => ?_)
              · rw [if_neg q36] at hf
                refine lv_iconst (v := 0) hx hb dL_isWorld_436 (by decide) ?_
                obtain ⟨h1, h2⟩ := rt2 hf
                refine W.widen (k := 0) (n := 6 * 0) (by omega) (by omega) ?_
                rw [hQ]
                exact g_yzret hx hb hr hlocks hP hS (Or.inl rfl) h1 h2 dL_isWorld_437
              · rw [if_pos q36] at hf
                refine lv_aload_n hx hb dL_isWorld_424 rfl (lv_at hl 0 rfl) ?_
                obtain ⟨v37, hv, hf⟩ := bd_e hf
                refine g_cVi (τ := σ32) ⟨⟨hx, hb, hml, hown, hB⟩, hK, hi, hA, hAd, hP, hS⟩ sub_YX (c_X5_allCoins (injS (by decide) hi) hv) (fun _ _ => rfl) cal_X5_allCoins kM_L_102 ⟨Nat.le_trans (Nat.le_of_ble_eq_true rfl) hRf, Nat.le_trans (Nat.le_of_ble_eq_true rfl) hRl⟩ 48 (by decide) rfl rfl rfl rfl hl.1 (Nat.le_of_ble_eq_true rfl) rfl dL_isWorld_425 ⟨by omega, by omega⟩ (fun _ _ => rfl) (fun _ _ _ => rfl) (fun H locs hP hS => ?_)
                refine lv_iload_n hx hb dL_isWorld_428 rfl (lv_at hl 2 rfl) ?_
                refine lv_icmp_ne (tgt := 436) hx hb dL_isWorld_429 (by decide) (fun q38 => ?_) (fun q38 => ?_)
                · rw [if_neg q38] at hf
                  refine lv_iconst (v := 0) hx hb dL_isWorld_436 (by decide) ?_
                  obtain ⟨h1, h2⟩ := rt2 hf
                  refine W.widen (k := 0) (n := 6 * 0) (by omega) (by omega) ?_
                  rw [hQ]
                  exact g_yzret hx hb hr hlocks hP hS (Or.inl rfl) h1 h2 dL_isWorld_437
                · rw [if_pos q38] at hf
                  refine lv_iconst (v := 1) hx hb dL_isWorld_432 (by decide) ?_
                  refine lv_goto (tgt := 437) hx hb dL_isWorld_433 (by decide) ?_
                  obtain ⟨h1, h2⟩ := rt2 hf
                  refine W.widen (k := 0) (n := 6 * 0) (by omega) (by omega) ?_
                  rw [hQ]
                  exact g_yzret hx hb hr hlocks hP hS (Or.inr rfl) h1 h2 dL_isWorld_437
        have hL_L_isWorld_295 : ∀ (n : Nat) (x27 : Int32) (x28 : Int32) (σ29 : Mem) (H : Heap) (locs : List Loc) (ls : Array Slot), L_L_isWorld_295 n K30 x22 x13 x27 x28 σ29 = some (r, σr) → va_P D vwCl (wsG 54 ad (EY ad cI cJ) σ29) H → va_S (AG 54 ad s.heap.size) s.heap H locs → lv_has ls 8 [(0, .ref (ad 48)), (1, .ref (ad 51)), (2, .int x22), (3, .int x13), (4, .int x27), (5, .int x28)] → W p l e R s m args below meth c H locs 0 0 Q (F0 m 295 ls []) := by
          intro n
          induction n with
          | zero => intro x27 x28 σ29 H locs ls hf; cases hf
          | succ n ih =>
            intro x27 x28 σ29 H locs ls hf hP hS hl
            rw [L_L_isWorld_295] at hf
            refine lv_iload hx hb dL_isWorld_295 (lv_at hl 5 rfl) ?_
            refine lv_iconst (v := 5) hx hb dL_isWorld_297 (by decide) ?_
            refine lv_icmp_ge (tgt := 404) hx hb dL_isWorld_298 (by decide) (fun q39 => ?_) (fun q39 => ?_)
            · rw [if_pos q39] at hf
              exact hKK30 x27 σ29 _ _ ls hf hP hS (lv_sub hl [0, 1, 2, 3, 4] rfl)
            · rw [if_neg q39] at hf
              refine lv_iconst (v := 0) hx hb dL_isWorld_301 (by decide) ?_
              refine lv_istore (lv' := [(6, .int 0), (0, .ref (ad 48)), (1, .ref (ad 51)), (2, .int x22), (3, .int x13), (4, .int x27), (5, .int x28)]) hx hb dL_isWorld_302 hl (by decide) rfl (fun ls hl => ?_)
              refine lv_iconst (v := 0) hx hb dL_isWorld_304 (by decide) ?_
              refine lv_istore (lv' := [(7, .int 0), (6, .int 0), (0, .ref (ad 48)), (1, .ref (ad 51)), (2, .int x22), (3, .int x13), (4, .int x27), (5, .int x28)]) hx hb dL_isWorld_305 hl (by decide) rfl (fun ls hl => ?_)
              obtain ⟨K47, eK47, hf⟩ := lp_e2 (b := fun K => L_L_isWorld_307 FU K x22 x13 x27 x28 0 0 σ29) hf
              replace hf : L_L_isWorld_307 FU K47 x22 x13 x27 x28 0 0 σ29 = some (r, σr) := hf
              have hKK47 : ∀ (x48 : Int32) (σ49 : Mem) (H : Heap) (locs : List Loc) (ls : Array Slot), K47 x48 σ49 = some (r, σr) → va_P D vwCl (wsG 54 ad (EY ad cI cJ) σ49) H → va_S (AG 54 ad s.heap.size) s.heap H locs → lv_has ls 8 [(0, .ref (ad 48)), (1, .ref (ad 51)), (2, .int x22), (3, .int x13), (4, .int x27), (5, .int x28), (6, .int x48)] → W p l e R s m args below meth c H locs 0 0 Q (F0 m 364 ls []) := by
                intro x48 σ49 H locs ls hf hP hS hl
                rw [eK47] at hf
                refine lv_iload hx hb dL_isWorld_364 (lv_at hl 4 rfl) ?_
                obtain ⟨J52, eJ52, hf⟩ := jn_e2 hf
                have hJ52 : ∀ (y51 : Int32) (σ50 : Mem) (H : Heap) (locs : List Loc) (ls : Array Slot), J52 y51 σ50 = some (r, σr) → va_P D vwCl (wsG 54 ad (EY ad cI cJ) σ50) H → va_S (AG 54 ad s.heap.size) s.heap H locs → lv_has ls 8 [(0, .ref (ad 48)), (1, .ref (ad 51)), (2, .int x22), (3, .int x13), (5, .int x28)] → W p l e R s m args below meth c H locs 0 0 Q (F0 m 396 ls [.int y51]) := by
                  intro y51 σ50 H locs ls hf hP hS hl
                  rw [eJ52] at hf
                  refine lv_istore (lv' := [(4, .int y51), (0, .ref (ad 48)), (1, .ref (ad 51)), (2, .int x22), (3, .int x13), (5, .int x28)]) hx hb dL_isWorld_396 hl (by decide) rfl (fun ls hl => ?_)
                  refine lv_iinc (v := (x28 + 1)) (lv' := [(5, .int (x28 + 1)), (4, .int y51), (0, .ref (ad 48)), (1, .ref (ad 51)), (2, .int x22), (3, .int x13)]) hx hb dL_isWorld_398 hl (k := 5) rfl rfl (by decide) rfl (fun ls hl => ?_)
                  refine lv_goto (tgt := 295) hx hb dL_isWorld_401 (by decide) ?_
                  exact ih y51 (x28 + 1) σ50 _ _ ls hf hP hS (lv_sub hl [2, 3, 4, 5, 1, 0] rfl)
                obtain ⟨J54, eJ54, hf⟩ := jn_e1 hf
                have hJ54 : ∀ (σ53 : Mem) (H : Heap) (locs : List Loc) (ls : Array Slot), J54 σ53 = some (r, σr) → va_P D vwCl (wsG 54 ad (EY ad cI cJ) σ53) H → va_S (AG 54 ad s.heap.size) s.heap H locs → lv_has ls 8 [(0, .ref (ad 48)), (1, .ref (ad 51)), (2, .int x22), (3, .int x13), (5, .int x28)] → W p l e R s m args below meth c H locs 0 0 Q (F0 m 395 ls []) := by
                  intro σ53 H locs ls hf hP hS hl
                  rw [eJ54] at hf
                  refine lv_iconst (v := 0) hx hb dL_isWorld_395 (by decide) ?_
                  exact hJ52 0 σ53 _ _ ls hf hP hS (lv_sub hl [0, 1, 2, 3, 4] rfl)
                refine lv_if_eq (tgt := 395) hx hb dL_isWorld_366 (by decide) (fun q55 => ?_) (fun q55 => ?_)
                · rw [if_pos q55] at hf
                  exact hJ54 σ49 _ _ ls hf hP hS (lv_sub hl [0, 1, 2, 3, 5] rfl)
                · rw [if_neg q55] at hf
                  refine lv_aload_n hx hb dL_isWorld_369 rfl (lv_at hl 0 rfl) ?_
                  refine lv_iload hx hb dL_isWorld_370 (lv_at hl 5 rfl) ?_
                  rcases bt_e hf with ⟨v56, hv, hf⟩ | ⟨n57, v56, hn, hv, hf⟩
                  · refine g_yVi (τ := σ49) ⟨⟨hx, hb, hml, hown, hB⟩, hK, hi, hA, hAd, hP, hS⟩ hZ sub_YX (c_X5_allGoods hflag (injS (by decide) hi) hv) (fun _ _ => rfl) cal_X5_allGoods kM_L_96 ⟨Nat.le_trans (Nat.le_of_ble_eq_true rfl) hRf, Nat.le_trans (Nat.le_of_ble_eq_true rfl) hRl⟩ 48 (by decide) rfl rfl rfl rfl hl.1 (Nat.le_of_ble_eq_true rfl) rfl dL_isWorld_372 ⟨by omega, by omega⟩ (fun _ _ => rfl) (fun _ _ _ => rfl) (fun H locs hP hS => ?_)
                    refine lv_iload hx hb dL_isWorld_375 (lv_at hl 6 rfl) ?_
                    refine lv_icmp_ne (tgt := 395) hx hb dL_isWorld_377 (by decide) (fun q58 => ?_) (fun q58 => ?_)
                    · rw [if_neg q58] at hf
                      exact hJ54 σ49 _ _ ls hf hP hS (lv_sub hl [0, 1, 2, 3, 5] rfl)
                    · rw [if_pos q58] at hf
                      refine lv_iload hx hb dL_isWorld_380 (lv_at hl 6 rfl) ?_
                      refine lv_aload_n hx hb dL_isWorld_382 rfl (lv_at hl 1 rfl) ?_
                      refine lv_iconst (v := 1) hx hb dL_isWorld_383 (by decide) ?_
                      refine lv_iload hx hb dL_isWorld_384 (lv_at hl 5 rfl) ?_
                      refine lv_iadd hx hb dL_isWorld_386 ?_
                      obtain ⟨hin, hf⟩ := gd_e hf
                      refine g_iald hx hb hK hP 51 13 (by decide) (EY_51 _) hin dL_isWorld_387 ?_
                      refine lv_icmp_ne (tgt := 395) hx hb dL_isWorld_388 (by decide) (fun q59 => ?_) (fun q59 => ?_)
                      · rw [if_neg q59] at hf
                        exact hJ54 σ49 _ _ ls hf hP hS (lv_sub hl [0, 1, 2, 3, 5] rfl)
                      · rw [if_pos q59] at hf
                        refine lv_iconst (v := 1) hx hb dL_isWorld_391 (by decide) ?_
                        refine lv_goto (tgt := 396) hx hb dL_isWorld_392 (by decide) ?_
                        exact hJ52 1 σ49 _ _ ls hf hP hS (lv_sub hl [0, 1, 2, 3, 5] rfl)
                  · cases hf
              have hL_L_isWorld_307 : ∀ (n : Nat) (x44 : Int32) (x45 : Int32) (σ46 : Mem) (H : Heap) (locs : List Loc) (ls : Array Slot), L_L_isWorld_307 n K47 x22 x13 x27 x28 x44 x45 σ46 = some (r, σr) → va_P D vwCl (wsG 54 ad (EY ad cI cJ) σ46) H → va_S (AG 54 ad s.heap.size) s.heap H locs → lv_has ls 8 [(0, .ref (ad 48)), (1, .ref (ad 51)), (2, .int x22), (3, .int x13), (4, .int x27), (5, .int x28), (6, .int x44), (7, .int x45)] → W p l e R s m args below meth c H locs 0 0 Q (F0 m 307 ls []) := by
                intro n
                induction n with
                | zero => intro x44 x45 σ46 H locs ls hf; cases hf
                | succ n ih =>
                  intro x44 x45 σ46 H locs ls hf hP hS hl
                  rw [L_L_isWorld_307] at hf
                  refine lv_iload hx hb dL_isWorld_307 (lv_at hl 7 rfl) ?_
                  refine lv_bipush (v := 8) hx hb dL_isWorld_309 (by decide) ?_
                  refine lv_icmp_ge (tgt := 364) hx hb dL_isWorld_311 (by decide) (fun q60 => ?_) (fun q60 => ?_)
                  · rw [if_pos q60] at hf
                    exact hKK47 x44 σ46 _ _ ls hf hP hS (lv_sub hl [0, 1, 2, 3, 4, 5, 6] rfl)
                  · rw [if_neg q60] at hf
                    refine lv_iload hx hb dL_isWorld_314 (lv_at hl 6 rfl) ?_
                    refine lv_aload_n hx hb dL_isWorld_316 rfl (lv_at hl 0 rfl) ?_
                    refine lv_iload hx hb dL_isWorld_317 (lv_at hl 7 rfl) ?_
                    refine lv_iload hx hb dL_isWorld_319 (lv_at hl 5 rfl) ?_
                    rcases bt_e hf with ⟨v61, hv, hf⟩ | ⟨n62, v61, hn, hv, hf⟩
                    · refine g_yVi (τ := σ46) ⟨⟨hx, hb, hml, hown, hB⟩, hK, hi, hA, hAd, hP, hS⟩ hZ sub_YX (c_X5_onFloor hflag (injS (by decide) hi) hv) (fun _ _ => rfl) cal_X5_onFloor kM_L_87 ⟨Nat.le_trans (Nat.le_of_ble_eq_true rfl) hRf, Nat.le_trans (Nat.le_of_ble_eq_true rfl) hRl⟩ 48 (by decide) rfl rfl rfl rfl hl.1 (Nat.le_of_ble_eq_true rfl) rfl dL_isWorld_321 ⟨by omega, by omega⟩ (fun _ _ => rfl) (fun _ _ _ => rfl) (fun H locs hP hS => ?_)
                      refine lv_aload_n hx hb dL_isWorld_324 rfl (lv_at hl 0 rfl) ?_
                      refine lv_iload hx hb dL_isWorld_325 (lv_at hl 7 rfl) ?_
                      refine lv_iload hx hb dL_isWorld_327 (lv_at hl 5 rfl) ?_
                      rcases bt_e hf with ⟨v63, hv, hf⟩ | ⟨n64, v63, hn, hv, hf⟩
                      · refine g_yVi (τ := σ46) ⟨⟨hx, hb, hml, hown, hB⟩, hK, hi, hA, hAd, hP, hS⟩ hZ sub_YX (c_X5_stockOf hflag (injS (by decide) hi) hv) (fun _ _ => rfl) cal_X5_stockOf kM_L_90 ⟨Nat.le_trans (Nat.le_of_ble_eq_true rfl) hRf, Nat.le_trans (Nat.le_of_ble_eq_true rfl) hRl⟩ 48 (by decide) rfl rfl rfl rfl hl.1 (Nat.le_of_ble_eq_true rfl) rfl dL_isWorld_329 ⟨by omega, by omega⟩ (fun _ _ => rfl) (fun _ _ _ => rfl) (fun H locs hP hS => ?_)
                        refine lv_iadd hx hb dL_isWorld_332 ?_
                        refine lv_iload hx hb dL_isWorld_333 (lv_at hl 7 rfl) ?_
                        refine lv_aload_n hx hb dL_isWorld_335 rfl (lv_at hl 1 rfl) ?_
                        refine lv_bipush (v := 7) hx hb dL_isWorld_336 (by decide) ?_
                        obtain ⟨hin, hf⟩ := gd_e hf
                        refine g_iald hx hb hK hP 51 13 (by decide) (EY_51 _) hin dL_isWorld_338 ?_
                        obtain ⟨J69, eJ69, hf⟩ := jn_e4 hf
                        have hJ69 : ∀ (y66 : Int32) (y67 : Int32) (y68 : Int32) (σ65 : Mem) (H : Heap) (locs : List Loc) (ls : Array Slot), J69 y66 y67 y68 σ65 = some (r, σr) → va_P D vwCl (wsG 54 ad (EY ad cI cJ) σ65) H → va_S (AG 54 ad s.heap.size) s.heap H locs → lv_has ls 8 [(0, .ref (ad 48)), (1, .ref (ad 51)), (2, .int x22), (3, .int x13), (4, .int x27), (5, .int x28), (7, .int x45)] → W p l e R s m args below meth c H locs 0 0 Q (F0 m 354 ls [.int y68, .int y67, .int y66]) := by
                          intro y66 y67 y68 σ65 H locs ls hf hP hS hl
                          rw [eJ69] at hf
                          refine lv_iadd hx hb dL_isWorld_354 ?_
                          refine lv_iadd hx hb dL_isWorld_355 ?_
                          refine lv_istore (lv' := [(6, .int (y66 + (y67 + y68))), (0, .ref (ad 48)), (1, .ref (ad 51)), (2, .int x22), (3, .int x13), (4, .int x27), (5, .int x28), (7, .int x45)]) hx hb dL_isWorld_356 hl (by decide) rfl (fun ls hl => ?_)
                          refine lv_iinc (v := (x45 + 1)) (lv' := [(7, .int (x45 + 1)), (6, .int (y66 + (y67 + y68))), (0, .ref (ad 48)), (1, .ref (ad 51)), (2, .int x22), (3, .int x13), (4, .int x27), (5, .int x28)]) hx hb dL_isWorld_358 hl (k := 7) rfl rfl (by decide) rfl (fun ls hl => ?_)
                          refine lv_goto (tgt := 307) hx hb dL_isWorld_361 (by decide) ?_
                          exact ih (y66 + (y67 + y68)) (x45 + 1) σ65 _ _ ls hf hP hS (lv_sub hl [2, 3, 4, 5, 6, 7, 1, 0] rfl)
                        refine lv_icmp_ge (tgt := 353) hx hb dL_isWorld_339 (by decide) (fun q70 => ?_) (fun q70 => ?_)
                        · rw [if_pos q70] at hf
                          refine lv_iconst (v := 0) hx hb dL_isWorld_353 (by decide) ?_
                          exact hJ69 x44 (v61 + v63) 0 σ46 _ _ ls hf hP hS (lv_sub hl [0, 1, 2, 3, 4, 5, 7] rfl)
                        · rw [if_neg q70] at hf
                          refine lv_aload_n hx hb dL_isWorld_342 rfl (lv_at hl 0 rfl) ?_
                          refine lv_iload hx hb dL_isWorld_343 (lv_at hl 7 rfl) ?_
                          refine lv_iload hx hb dL_isWorld_345 (lv_at hl 5 rfl) ?_
                          rcases bt_e hf with ⟨v71, hv, hf⟩ | ⟨n72, v71, hn, hv, hf⟩
                          · refine g_yVi (τ := σ46) ⟨⟨hx, hb, hml, hown, hB⟩, hK, hi, hA, hAd, hP, hS⟩ hZ sub_YX (c_X5_goodsOf hflag (injS (by decide) hi) hv) (fun _ _ => rfl) cal_X5_goodsOf kM_L_93 ⟨Nat.le_trans (Nat.le_of_ble_eq_true rfl) hRf, Nat.le_trans (Nat.le_of_ble_eq_true rfl) hRl⟩ 48 (by decide) rfl rfl rfl rfl hl.1 (Nat.le_of_ble_eq_true rfl) rfl dL_isWorld_347 ⟨by omega, by omega⟩ (fun _ _ => rfl) (fun _ _ _ => rfl) (fun H locs hP hS => ?_)
                            refine lv_goto (tgt := 354) hx hb dL_isWorld_350 (by decide) ?_
                            exact hJ69 x44 (v61 + v63) v71 σ46 _ _ ls hf hP hS (lv_sub hl [0, 1, 2, 3, 4, 5, 7] rfl)
                          · cases hf
                      · cases hf
                    · cases hf
              exact hL_L_isWorld_307 FU 0 0 σ29 _ _ ls hf hP hS (lv_sub hl [2, 3, 4, 5, 6, 7, 1, 0] rfl)
        exact hL_L_isWorld_295 FU x23 0 σ24 _ _ ls hf hP hS (lv_sub hl [1, 2, 3, 4, 5, 0] rfl)
      have hL_L_isWorld_208 : ∀ (n : Nat) (x16 : Int32) (x18 : Int32) (x19 : Int32) (σ20 : Mem) (H : Heap) (locs : List Loc) (ls : Array Slot), L_L_isWorld_208 n K21 x13 x16 x18 x19 σ20 = some (r, σr) → va_P D vwCl (wsG 54 ad (EY ad cI cJ) σ20) H → va_S (AG 54 ad s.heap.size) s.heap H locs → lv_has ls 8 [(0, .ref (ad 48)), (1, .ref (ad 51)), (2, .int x16), (3, .int x13), (4, .int x18), (5, .int x19)] → W p l e R s m args below meth c H locs 0 0 Q (F0 m 208 ls []) := by
        intro n
        induction n with
        | zero => intro x16 x18 x19 σ20 H locs ls hf; cases hf
        | succ n ih =>
          intro x16 x18 x19 σ20 H locs ls hf hP hS hl
          rw [L_L_isWorld_208] at hf
          refine lv_iload hx hb dL_isWorld_208 (lv_at hl 5 rfl) ?_
          refine lv_bipush (v := 8) hx hb dL_isWorld_210 (by decide) ?_
          refine lv_icmp_ge (tgt := 292) hx hb dL_isWorld_212 (by decide) (fun q73 => ?_) (fun q73 => ?_)
          · rw [if_pos q73] at hf
            exact hKK21 x16 x18 σ20 _ _ ls hf hP hS (lv_sub hl [0, 1, 2, 3, 4] rfl)
          · rw [if_neg q73] at hf
            refine lv_aload_n hx hb dL_isWorld_215 rfl (lv_at hl 0 rfl) ?_
            refine lv_iload hx hb dL_isWorld_216 (lv_at hl 5 rfl) ?_
            rcases bt_e hf with ⟨v74, hv, hf⟩ | ⟨n75, v74, hn, hv, hf⟩
            · refine g_yVi (τ := σ20) ⟨⟨hx, hb, hml, hown, hB⟩, hK, hi, hA, hAd, hP, hS⟩ hZ sub_YX (c_X5_tillOf hflag (injS (by decide) hi) hv) (fun _ _ => rfl) cal_X5_tillOf kM_L_84 ⟨Nat.le_trans (Nat.le_of_ble_eq_true rfl) hRf, Nat.le_trans (Nat.le_of_ble_eq_true rfl) hRl⟩ 48 (by decide) rfl rfl rfl rfl hl.1 (Nat.le_of_ble_eq_true rfl) rfl dL_isWorld_218 ⟨by omega, by omega⟩ (fun _ _ => rfl) (fun _ _ _ => rfl) (fun H locs hP hS => ?_)
              refine lv_istore (lv' := [(6, .int v74), (0, .ref (ad 48)), (1, .ref (ad 51)), (2, .int x16), (3, .int x13), (4, .int x18), (5, .int x19)]) hx hb dL_isWorld_221 hl (by decide) rfl (fun ls hl => ?_)
              refine lv_iload hx hb dL_isWorld_223 (lv_at hl 5 rfl) ?_
              obtain ⟨J78, eJ78, hf⟩ := jn_e2 hf
              have hJ78 : ∀ (y77 : Int32) (σ76 : Mem) (H : Heap) (locs : List Loc) (ls : Array Slot), J78 y77 σ76 = some (r, σr) → va_P D vwCl (wsG 54 ad (EY ad cI cJ) σ76) H → va_S (AG 54 ad s.heap.size) s.heap H locs → lv_has ls 8 [(0, .ref (ad 48)), (1, .ref (ad 51)), (2, .int x16), (3, .int x13), (5, .int x19), (6, .int v74)] → W p l e R s m args below meth c H locs 0 0 Q (F0 m 270 ls [.int y77]) := by
                intro y77 σ76 H locs ls hf hP hS hl
                rw [eJ78] at hf
                refine lv_istore (lv' := [(4, .int y77), (0, .ref (ad 48)), (1, .ref (ad 51)), (2, .int x16), (3, .int x13), (5, .int x19), (6, .int v74)]) hx hb dL_isWorld_270 hl (by decide) rfl (fun ls hl => ?_)
                refine lv_iload_n hx hb dL_isWorld_272 rfl (lv_at hl 3 rfl) ?_
                refine lv_iload hx hb dL_isWorld_273 (lv_at hl 6 rfl) ?_
                obtain ⟨J82, eJ82, hf⟩ := jn_e3 hf
                have hJ82 : ∀ (y80 : Int32) (y81 : Int32) (σ79 : Mem) (H : Heap) (locs : List Loc) (ls : Array Slot), J82 y80 y81 σ79 = some (r, σr) → va_P D vwCl (wsG 54 ad (EY ad cI cJ) σ79) H → va_S (AG 54 ad s.heap.size) s.heap H locs → lv_has ls 8 [(0, .ref (ad 48)), (1, .ref (ad 51)), (3, .int x13), (4, .int y77), (5, .int x19)] → W p l e R s m args below meth c H locs 0 0 Q (F0 m 284 ls [.int y81, .int y80]) := by
                  intro y80 y81 σ79 H locs ls hf hP hS hl
                  rw [eJ82] at hf
                  refine lv_iadd hx hb dL_isWorld_284 ?_
                  refine lv_istore_n (lv' := [(2, .int (y80 + y81)), (0, .ref (ad 48)), (1, .ref (ad 51)), (3, .int x13), (4, .int y77), (5, .int x19)]) hx hb dL_isWorld_285 rfl hl (by decide) rfl (fun ls hl => ?_)
                  refine lv_iinc (v := (x19 + 1)) (lv' := [(5, .int (x19 + 1)), (2, .int (y80 + y81)), (0, .ref (ad 48)), (1, .ref (ad 51)), (3, .int x13), (4, .int y77)]) hx hb dL_isWorld_286 hl (k := 5) rfl rfl (by decide) rfl (fun ls hl => ?_)
                  refine lv_goto (tgt := 208) hx hb dL_isWorld_289 (by decide) ?_
                  exact ih (y80 + y81) y77 (x19 + 1) σ79 _ _ ls hf hP hS (lv_sub hl [2, 3, 1, 4, 5, 0] rfl)
                refine lv_if_ge (tgt := 282) hx hb dL_isWorld_275 (by decide) (fun q83 => ?_) (fun q83 => ?_)
                · rw [if_pos q83] at hf
                  refine lv_iload hx hb dL_isWorld_282 (lv_at hl 6 rfl) ?_
                  exact hJ82 x16 v74 σ76 _ _ ls hf hP hS (lv_sub hl [1, 2, 4, 0, 5] rfl)
                · rw [if_neg q83] at hf
                  refine lv_iconst (v := 0) hx hb dL_isWorld_278 (by decide) ?_
                  refine lv_goto (tgt := 284) hx hb dL_isWorld_279 (by decide) ?_
                  exact hJ82 x16 0 σ76 _ _ ls hf hP hS (lv_sub hl [1, 2, 4, 0, 5] rfl)
              obtain ⟨J85, eJ85, hf⟩ := jn_e1 hf
              have hJ85 : ∀ (σ84 : Mem) (H : Heap) (locs : List Loc) (ls : Array Slot), J85 σ84 = some (r, σr) → va_P D vwCl (wsG 54 ad (EY ad cI cJ) σ84) H → va_S (AG 54 ad s.heap.size) s.heap H locs → lv_has ls 8 [(0, .ref (ad 48)), (1, .ref (ad 51)), (2, .int x16), (3, .int x13), (5, .int x19), (6, .int v74)] → W p l e R s m args below meth c H locs 0 0 Q (F0 m 269 ls []) := by
                intro σ84 H locs ls hf hP hS hl
                rw [eJ85] at hf
                refine lv_iconst (v := 0) hx hb dL_isWorld_269 (by decide) ?_
                exact hJ78 0 σ84 _ _ ls hf hP hS (lv_sub hl [0, 1, 2, 3, 4, 5] rfl)
              refine lv_if_eq (tgt := 269) hx hb dL_isWorld_225 (by decide) (fun q86 => ?_) (fun q86 => ?_)
              · rw [if_pos q86] at hf
                exact hJ85 σ20 _ _ ls hf hP hS (lv_sub hl [1, 2, 3, 4, 6, 0] rfl)
              · rw [if_neg q86] at hf
                refine lv_iload hx hb dL_isWorld_228 (lv_at hl 0 rfl) ?_
                refine lv_iconst (v := (-1)) hx hb dL_isWorld_230 (by decide) ?_
                refine lv_icmp_lt (tgt := 269) hx hb dL_isWorld_231 (by decide) (fun q87 => ?_) (fun q87 => ?_)
                · rw [if_pos q87] at hf
                  exact hJ85 σ20 _ _ ls hf hP hS (lv_sub hl [1, 2, 3, 4, 6, 0] rfl)
                · rw [if_neg q87] at hf
                  refine lv_iload hx hb dL_isWorld_234 (lv_at hl 0 rfl) ?_
                  refine lv_iconst (v := (-1)) hx hb dL_isWorld_236 (by decide) ?_
                  obtain ⟨J90, eJ90, hf⟩ := jn_e2 hf
                  have hJ90 : ∀ (y89 : Int32) (σ88 : Mem) (H : Heap) (locs : List Loc) (ls : Array Slot), J90 y89 σ88 = some (r, σr) → va_P D vwCl (wsG 54 ad (EY ad cI cJ) σ88) H → va_S (AG 54 ad s.heap.size) s.heap H locs → lv_has ls 8 [(0, .ref (ad 48)), (1, .ref (ad 51)), (2, .int x16), (3, .int x13), (5, .int x19), (6, .int v74)] → W p l e R s m args below meth c H locs 0 0 Q (F0 m 245 ls [.int y89]) := by
                    intro y89 σ88 H locs ls hf hP hS hl
                    rw [eJ90] at hf
                    refine lv_aload_n hx hb dL_isWorld_245 rfl (lv_at hl 1 rfl) ?_
                    refine lv_bipush (v := 12) hx hb dL_isWorld_246 (by decide) ?_
                    obtain ⟨hin, hf⟩ := gd_e hf
                    refine g_iald hx hb hK hP 51 13 (by decide) (EY_51 _) hin dL_isWorld_248 ?_
                    refine lv_iload hx hb dL_isWorld_249 (lv_at hl 4 rfl) ?_
                    refine lv_ishr hx hb dL_isWorld_251 ?_
                    refine lv_iconst (v := 1) hx hb dL_isWorld_252 (by decide) ?_
                    refine lv_iand hx hb dL_isWorld_253 ?_
                    obtain ⟨J94, eJ94, hf⟩ := jn_e3 hf
                    have hJ94 : ∀ (y92 : Int32) (y93 : Int32) (σ91 : Mem) (H : Heap) (locs : List Loc) (ls : Array Slot), J94 y92 y93 σ91 = some (r, σr) → va_P D vwCl (wsG 54 ad (EY ad cI cJ) σ91) H → va_S (AG 54 ad s.heap.size) s.heap H locs → lv_has ls 8 [(0, .ref (ad 48)), (1, .ref (ad 51)), (2, .int x16), (3, .int x13), (5, .int x19), (6, .int v74)] → W p l e R s m args below meth c H locs 0 0 Q (F0 m 262 ls [.int y93, .int y92]) := by
                      intro y92 y93 σ91 H locs ls hf hP hS hl
                      rw [eJ94] at hf
                      refine lv_icmp_ne (tgt := 269) hx hb dL_isWorld_262 (by decide) (fun q95 => ?_) (fun q95 => ?_)
                      · rw [if_neg q95] at hf
                        exact hJ85 σ91 _ _ ls hf hP hS (lv_sub hl [0, 1, 2, 3, 4, 5] rfl)
                      · rw [if_pos q95] at hf
                        refine lv_iconst (v := 1) hx hb dL_isWorld_265 (by decide) ?_
                        refine lv_goto (tgt := 270) hx hb dL_isWorld_266 (by decide) ?_
                        exact hJ78 1 σ91 _ _ ls hf hP hS (lv_sub hl [0, 1, 2, 3, 4, 5] rfl)
                    refine lv_if_ne (tgt := 261) hx hb dL_isWorld_254 (by decide) (fun q96 => ?_) (fun q96 => ?_)
                    · rw [if_neg q96] at hf
                      refine lv_iconst (v := 0) hx hb dL_isWorld_261 (by decide) ?_
                      exact hJ94 y89 0 σ88 _ _ ls hf hP hS (lv_sub hl [0, 1, 2, 3, 4, 5] rfl)
                    · rw [if_pos q96] at hf
                      refine lv_iconst (v := 1) hx hb dL_isWorld_257 (by decide) ?_
                      refine lv_goto (tgt := 262) hx hb dL_isWorld_258 (by decide) ?_
                      exact hJ94 y89 1 σ88 _ _ ls hf hP hS (lv_sub hl [0, 1, 2, 3, 4, 5] rfl)
                  refine lv_icmp_ne (tgt := 244) hx hb dL_isWorld_237 (by decide) (fun q97 => ?_) (fun q97 => ?_)
                  · rw [if_neg q97] at hf
                    refine lv_iconst (v := 0) hx hb dL_isWorld_244 (by decide) ?_
                    exact hJ90 0 σ20 _ _ ls hf hP hS (lv_sub hl [1, 2, 3, 4, 6, 0] rfl)
                  · rw [if_pos q97] at hf
                    refine lv_iconst (v := 1) hx hb dL_isWorld_240 (by decide) ?_
                    refine lv_goto (tgt := 245) hx hb dL_isWorld_241 (by decide) ?_
                    exact hJ90 1 σ20 _ _ ls hf hP hS (lv_sub hl [1, 2, 3, 4, 6, 0] rfl)
            · cases hf
      exact hL_L_isWorld_208 FU x12 x14 0 σ15 _ _ ls hf hP hS (lv_sub hl [1, 2, 3, 4, 5, 0] rfl)
    have hL_L_isWorld_35 : ∀ (n : Nat) (x6 : Int32) (x7 : Int32) (x8 : Int32) (x9 : Int32) (σ10 : Mem) (H : Heap) (locs : List Loc) (ls : Array Slot), L_L_isWorld_35 n K11 x6 x7 x8 x9 σ10 = some (r, σr) → va_P D vwCl (wsG 54 ad (EY ad cI cJ) σ10) H → va_S (AG 54 ad s.heap.size) s.heap H locs → lv_has ls 8 [(0, .ref (ad 48)), (1, .ref (ad 51)), (2, .int x6), (3, .int x7), (4, .int x8), (5, .int x9)] → W p l e R s m args below meth c H locs 0 0 Q (F0 m 35 ls []) := by
      intro n
      induction n with
      | zero => intro x6 x7 x8 x9 σ10 H locs ls hf; cases hf
      | succ n ih =>
        intro x6 x7 x8 x9 σ10 H locs ls hf hP hS hl
        rw [L_L_isWorld_35] at hf
        refine lv_iload hx hb dL_isWorld_35 (lv_at hl 5 rfl) ?_
        refine lv_aload_n hx hb dL_isWorld_37 rfl (lv_at hl 1 rfl) ?_
        refine lv_bipush (v := 7) hx hb dL_isWorld_38 (by decide) ?_
        obtain ⟨hin, hf⟩ := gd_e hf
        refine g_iald hx hb hK hP 51 13 (by decide) (EY_51 _) hin dL_isWorld_40 ?_
        refine lv_icmp_ge (tgt := 205) hx hb dL_isWorld_41 (by decide) (fun q98 => ?_) (fun q98 => ?_)
        · rw [if_pos q98] at hf
          exact hKK11 x6 x7 x8 σ10 _ _ ls hf hP hS (lv_sub hl [0, 1, 2, 3, 4] rfl)
        · rw [if_neg q98] at hf
          refine lv_iload_n hx hb dL_isWorld_44 rfl (lv_at hl 2 rfl) ?_
          refine lv_aload_n hx hb dL_isWorld_45 rfl (lv_at hl 0 rfl) ?_
          refine lv_iload hx hb dL_isWorld_46 (lv_at hl 5 rfl) ?_
          rcases bt_e hf with ⟨v99, hv, hf⟩ | ⟨n100, v99, hn, hv, hf⟩
          · refine g_yVi (τ := σ10) ⟨⟨hx, hb, hml, hown, hB⟩, hK, hi, hA, hAd, hP, hS⟩ hZ sub_YX (c_X5_coinsOf hflag (injS (by decide) hi) hv) (fun _ _ => rfl) cal_X5_coinsOf kM_L_69 ⟨Nat.le_trans (Nat.le_of_ble_eq_true rfl) hRf, Nat.le_trans (Nat.le_of_ble_eq_true rfl) hRl⟩ 48 (by decide) rfl rfl rfl rfl hl.1 (Nat.le_of_ble_eq_true rfl) rfl dL_isWorld_48 ⟨by omega, by omega⟩ (fun _ _ => rfl) (fun _ _ _ => rfl) (fun H locs hP hS => ?_)
            refine lv_iadd hx hb dL_isWorld_51 ?_
            refine lv_istore_n (lv' := [(2, .int (x6 + v99)), (0, .ref (ad 48)), (1, .ref (ad 51)), (3, .int x7), (4, .int x8), (5, .int x9)]) hx hb dL_isWorld_52 rfl hl (by decide) rfl (fun ls hl => ?_)
            refine lv_iload_n hx hb dL_isWorld_53 rfl (lv_at hl 3 rfl) ?_
            obtain ⟨J103, eJ103, hf⟩ := jn_e2 hf
            have hJ103 : ∀ (y102 : Int32) (σ101 : Mem) (H : Heap) (locs : List Loc) (ls : Array Slot), J103 y102 σ101 = some (r, σr) → va_P D vwCl (wsG 54 ad (EY ad cI cJ) σ101) H → va_S (AG 54 ad s.heap.size) s.heap H locs → lv_has ls 8 [(0, .ref (ad 48)), (1, .ref (ad 51)), (2, .int (x6 + v99)), (4, .int x8), (5, .int x9)] → W p l e R s m args below meth c H locs 0 0 Q (F0 m 77 ls [.int y102]) := by
              intro y102 σ101 H locs ls hf hP hS hl
              rw [eJ103] at hf
              refine lv_istore_n (lv' := [(3, .int y102), (0, .ref (ad 48)), (1, .ref (ad 51)), (2, .int (x6 + v99)), (4, .int x8), (5, .int x9)]) hx hb dL_isWorld_77 rfl hl (by decide) rfl (fun ls hl => ?_)
              refine lv_iload hx hb dL_isWorld_78 (lv_at hl 4 rfl) ?_
              obtain ⟨J106, eJ106, hf⟩ := jn_e2 hf
              have hJ106 : ∀ (y105 : Int32) (σ104 : Mem) (H : Heap) (locs : List Loc) (ls : Array Slot), J106 y105 σ104 = some (r, σr) → va_P D vwCl (wsG 54 ad (EY ad cI cJ) σ104) H → va_S (AG 54 ad s.heap.size) s.heap H locs → lv_has ls 8 [(0, .ref (ad 48)), (1, .ref (ad 51)), (2, .int (x6 + v99)), (3, .int y102), (5, .int x9)] → W p l e R s m args below meth c H locs 0 0 Q (F0 m 138 ls [.int y105]) := by
                intro y105 σ104 H locs ls hf hP hS hl
                rw [eJ106] at hf
                refine lv_istore (lv' := [(4, .int y105), (0, .ref (ad 48)), (1, .ref (ad 51)), (2, .int (x6 + v99)), (3, .int y102), (5, .int x9)]) hx hb dL_isWorld_138 hl (by decide) rfl (fun ls hl => ?_)
                refine lv_iconst (v := 0) hx hb dL_isWorld_140 (by decide) ?_
                refine lv_istore (lv' := [(6, .int 0), (4, .int y105), (0, .ref (ad 48)), (1, .ref (ad 51)), (2, .int (x6 + v99)), (3, .int y102), (5, .int x9)]) hx hb dL_isWorld_141 hl (by decide) rfl (fun ls hl => ?_)
                obtain ⟨K113, eK113, hf⟩ := lp_e2 (b := fun K => L_L_isWorld_143 FU K (x6 + v99) y102 x9 y105 0 σ104) hf
                replace hf : L_L_isWorld_143 FU K113 (x6 + v99) y102 x9 y105 0 σ104 = some (r, σr) := hf
                have hKK113 : ∀ (x114 : Int32) (σ115 : Mem) (H : Heap) (locs : List Loc) (ls : Array Slot), K113 x114 σ115 = some (r, σr) → va_P D vwCl (wsG 54 ad (EY ad cI cJ) σ115) H → va_S (AG 54 ad s.heap.size) s.heap H locs → lv_has ls 8 [(0, .ref (ad 48)), (1, .ref (ad 51)), (2, .int (x6 + v99)), (3, .int y102), (4, .int x114), (5, .int x9)] → W p l e R s m args below meth c H locs 0 0 Q (F0 m 199 ls []) := by
                  intro x114 σ115 H locs ls hf hP hS hl
                  rw [eK113] at hf
                  refine lv_iinc (v := (x9 + 1)) (lv' := [(5, .int (x9 + 1)), (0, .ref (ad 48)), (1, .ref (ad 51)), (2, .int (x6 + v99)), (3, .int y102), (4, .int x114)]) hx hb dL_isWorld_199 hl (k := 5) rfl rfl (by decide) rfl (fun ls hl => ?_)
                  refine lv_goto (tgt := 35) hx hb dL_isWorld_202 (by decide) ?_
                  exact ih (x6 + v99) y102 x114 (x9 + 1) σ115 _ _ ls hf hP hS (lv_sub hl [1, 2, 3, 4, 5, 0] rfl)
                have hL_L_isWorld_143 : ∀ (n : Nat) (x109 : Int32) (x111 : Int32) (σ112 : Mem) (H : Heap) (locs : List Loc) (ls : Array Slot), L_L_isWorld_143 n K113 (x6 + v99) y102 x9 x109 x111 σ112 = some (r, σr) → va_P D vwCl (wsG 54 ad (EY ad cI cJ) σ112) H → va_S (AG 54 ad s.heap.size) s.heap H locs → lv_has ls 8 [(0, .ref (ad 48)), (1, .ref (ad 51)), (2, .int (x6 + v99)), (3, .int y102), (4, .int x109), (5, .int x9), (6, .int x111)] → W p l e R s m args below meth c H locs 0 0 Q (F0 m 143 ls []) := by
                  intro n
                  induction n with
                  | zero => intro x109 x111 σ112 H locs ls hf; cases hf
                  | succ n ih =>
                    intro x109 x111 σ112 H locs ls hf hP hS hl
                    rw [L_L_isWorld_143] at hf
                    refine lv_iload hx hb dL_isWorld_143 (lv_at hl 6 rfl) ?_
                    refine lv_aload_n hx hb dL_isWorld_145 rfl (lv_at hl 1 rfl) ?_
                    refine lv_bipush (v := 8) hx hb dL_isWorld_146 (by decide) ?_
                    obtain ⟨hin, hf⟩ := gd_e hf
                    refine g_iald hx hb hK hP 51 13 (by decide) (EY_51 _) hin dL_isWorld_148 ?_
                    refine lv_icmp_ge (tgt := 199) hx hb dL_isWorld_149 (by decide) (fun q116 => ?_) (fun q116 => ?_)
                    · rw [if_pos q116] at hf
                      exact hKK113 x109 σ112 _ _ ls hf hP hS (lv_sub hl [0, 1, 2, 3, 4, 5] rfl)
                    · rw [if_neg q116] at hf
                      refine lv_iload hx hb dL_isWorld_152 (lv_at hl 4 rfl) ?_
                      obtain ⟨J119, eJ119, hf⟩ := jn_e2 hf
                      have hJ119 : ∀ (y118 : Int32) (σ117 : Mem) (H : Heap) (locs : List Loc) (ls : Array Slot), J119 y118 σ117 = some (r, σr) → va_P D vwCl (wsG 54 ad (EY ad cI cJ) σ117) H → va_S (AG 54 ad s.heap.size) s.heap H locs → lv_has ls 8 [(0, .ref (ad 48)), (1, .ref (ad 51)), (2, .int (x6 + v99)), (3, .int y102), (5, .int x9), (6, .int x111)] → W p l e R s m args below meth c H locs 0 0 Q (F0 m 191 ls [.int y118]) := by
                        intro y118 σ117 H locs ls hf hP hS hl
                        rw [eJ119] at hf
                        refine lv_istore (lv' := [(4, .int y118), (0, .ref (ad 48)), (1, .ref (ad 51)), (2, .int (x6 + v99)), (3, .int y102), (5, .int x9), (6, .int x111)]) hx hb dL_isWorld_191 hl (by decide) rfl (fun ls hl => ?_)
                        refine lv_iinc (v := (x111 + 1)) (lv' := [(6, .int (x111 + 1)), (4, .int y118), (0, .ref (ad 48)), (1, .ref (ad 51)), (2, .int (x6 + v99)), (3, .int y102), (5, .int x9)]) hx hb dL_isWorld_193 hl (k := 6) rfl rfl (by decide) rfl (fun ls hl => ?_)
                        refine lv_goto (tgt := 143) hx hb dL_isWorld_196 (by decide) ?_
                        exact ih y118 (x111 + 1) σ117 _ _ ls hf hP hS (lv_sub hl [2, 3, 4, 5, 1, 6, 0] rfl)
                      obtain ⟨J121, eJ121, hf⟩ := jn_e1 hf
                      have hJ121 : ∀ (σ120 : Mem) (H : Heap) (locs : List Loc) (ls : Array Slot), J121 σ120 = some (r, σr) → va_P D vwCl (wsG 54 ad (EY ad cI cJ) σ120) H → va_S (AG 54 ad s.heap.size) s.heap H locs → lv_has ls 8 [(0, .ref (ad 48)), (1, .ref (ad 51)), (2, .int (x6 + v99)), (3, .int y102), (5, .int x9), (6, .int x111)] → W p l e R s m args below meth c H locs 0 0 Q (F0 m 190 ls []) := by
                        intro σ120 H locs ls hf hP hS hl
                        rw [eJ121] at hf
                        refine lv_iconst (v := 0) hx hb dL_isWorld_190 (by decide) ?_
                        exact hJ119 0 σ120 _ _ ls hf hP hS (lv_sub hl [0, 1, 2, 3, 4, 5] rfl)
                      refine lv_if_eq (tgt := 190) hx hb dL_isWorld_154 (by decide) (fun q122 => ?_) (fun q122 => ?_)
                      · rw [if_pos q122] at hf
                        exact hJ121 σ112 _ _ ls hf hP hS (lv_sub hl [0, 1, 2, 3, 5, 6] rfl)
                      · rw [if_neg q122] at hf
                        refine lv_aload_n hx hb dL_isWorld_157 rfl (lv_at hl 0 rfl) ?_
                        refine lv_iload hx hb dL_isWorld_158 (lv_at hl 5 rfl) ?_
                        refine lv_iload hx hb dL_isWorld_160 (lv_at hl 6 rfl) ?_
                        rcases bt_e hf with ⟨v123, hv, hf⟩ | ⟨n124, v123, hn, hv, hf⟩
                        · refine g_yVi (τ := σ112) ⟨⟨hx, hb, hml, hown, hB⟩, hK, hi, hA, hAd, hP, hS⟩ hZ sub_YX (c_X5_stageOf hflag (injS (by decide) hi) hv) (fun _ _ => rfl) cal_X5_stageOf kM_L_81 ⟨Nat.le_trans (Nat.le_of_ble_eq_true rfl) hRf, Nat.le_trans (Nat.le_of_ble_eq_true rfl) hRl⟩ 48 (by decide) rfl rfl rfl rfl hl.1 (Nat.le_of_ble_eq_true rfl) rfl dL_isWorld_162 ⟨by omega, by omega⟩ (fun _ _ => rfl) (fun _ _ _ => rfl) (fun H locs hP hS => ?_)
                          refine lv_if_lt (tgt := 190) hx hb dL_isWorld_165 (by decide) (fun q125 => ?_) (fun q125 => ?_)
                          · rw [if_pos q125] at hf
                            exact hJ121 σ112 _ _ ls hf hP hS (lv_sub hl [0, 1, 2, 3, 5, 6] rfl)
                          · rw [if_neg q125] at hf
                            refine lv_aload_n hx hb dL_isWorld_168 rfl (lv_at hl 0 rfl) ?_
                            refine lv_iload hx hb dL_isWorld_169 (lv_at hl 5 rfl) ?_
                            refine lv_iload hx hb dL_isWorld_171 (lv_at hl 6 rfl) ?_
                            rcases bt_e hf with ⟨v126, hv, hf⟩ | ⟨n127, v126, hn, hv, hf⟩
                            · refine g_yVi (τ := σ112) ⟨⟨hx, hb, hml, hown, hB⟩, hK, hi, hA, hAd, hP, hS⟩ hZ sub_YX (c_X5_stageOf hflag (injS (by decide) hi) hv) (fun _ _ => rfl) cal_X5_stageOf kM_L_81 ⟨Nat.le_trans (Nat.le_of_ble_eq_true rfl) hRf, Nat.le_trans (Nat.le_of_ble_eq_true rfl) hRl⟩ 48 (by decide) rfl rfl rfl rfl hl.1 (Nat.le_of_ble_eq_true rfl) rfl dL_isWorld_173 ⟨by omega, by omega⟩ (fun _ _ => rfl) (fun _ _ _ => rfl) (fun H locs hP hS => ?_)
                              refine lv_aload_n hx hb dL_isWorld_176 rfl (lv_at hl 1 rfl) ?_
                              refine lv_bipush (v := 9) hx hb dL_isWorld_177 (by decide) ?_
                              refine lv_iload hx hb dL_isWorld_179 (lv_at hl 6 rfl) ?_
                              refine lv_iadd hx hb dL_isWorld_181 ?_
                              obtain ⟨hin, hf⟩ := gd_e hf
                              refine g_iald hx hb hK hP 51 13 (by decide) (EY_51 _) hin dL_isWorld_182 ?_
                              refine lv_icmp_gt (tgt := 190) hx hb dL_isWorld_183 (by decide) (fun q128 => ?_) (fun q128 => ?_)
                              · rw [if_pos q128] at hf
                                exact hJ121 σ112 _ _ ls hf hP hS (lv_sub hl [0, 1, 2, 3, 5, 6] rfl)
                              · rw [if_neg q128] at hf
                                refine lv_iconst (v := 1) hx hb dL_isWorld_186 (by decide) ?_
                                refine lv_goto (tgt := 191) hx hb dL_isWorld_187 (by decide) ?_
                                exact hJ119 1 σ112 _ _ ls hf hP hS (lv_sub hl [0, 1, 2, 3, 5, 6] rfl)
                            · cases hf
                        · cases hf
                exact hL_L_isWorld_143 FU y105 0 σ104 _ _ ls hf hP hS (lv_sub hl [2, 3, 4, 5, 1, 6, 0] rfl)
              obtain ⟨J130, eJ130, hf⟩ := jn_e1 hf
              have hJ130 : ∀ (σ129 : Mem) (H : Heap) (locs : List Loc) (ls : Array Slot), J130 σ129 = some (r, σr) → va_P D vwCl (wsG 54 ad (EY ad cI cJ) σ129) H → va_S (AG 54 ad s.heap.size) s.heap H locs → lv_has ls 8 [(0, .ref (ad 48)), (1, .ref (ad 51)), (2, .int (x6 + v99)), (3, .int y102), (5, .int x9)] → W p l e R s m args below meth c H locs 0 0 Q (F0 m 137 ls []) := by
                intro σ129 H locs ls hf hP hS hl
                rw [eJ130] at hf
                refine lv_iconst (v := 0) hx hb dL_isWorld_137 (by decide) ?_
                exact hJ106 0 σ129 _ _ ls hf hP hS (lv_sub hl [0, 1, 2, 3, 4] rfl)
              refine lv_if_eq (tgt := 137) hx hb dL_isWorld_80 (by decide) (fun q131 => ?_) (fun q131 => ?_)
              · rw [if_pos q131] at hf
                exact hJ130 σ101 _ _ ls hf hP hS (lv_sub hl [1, 2, 3, 0, 5] rfl)
              · rw [if_neg q131] at hf
                refine lv_aload_n hx hb dL_isWorld_83 rfl (lv_at hl 1 rfl) ?_
                refine lv_iload hx hb dL_isWorld_84 (lv_at hl 5 rfl) ?_
                rcases bt_e hf with ⟨v132, hv, hf⟩ | ⟨n133, v132, hn, hv, hf⟩
                · refine g_yVi (τ := σ101) ⟨⟨hx, hb, hml, hown, hB⟩, hK, hi, hA, hAd, hP, hS⟩ hZ sub_YX (c_X5_coinsOf hflag (injS (by decide) hi) hv) (fun _ _ => rfl) cal_X5_coinsOf kM_L_69 ⟨Nat.le_trans (Nat.le_of_ble_eq_true rfl) hRf, Nat.le_trans (Nat.le_of_ble_eq_true rfl) hRl⟩ 48 (by decide) rfl rfl rfl rfl hl.1 (Nat.le_of_ble_eq_true rfl) rfl dL_isWorld_86 ⟨by omega, by omega⟩ (fun _ _ => rfl) (fun _ _ _ => rfl) (fun H locs hP hS => ?_)
                  refine lv_if_lt (tgt := 137) hx hb dL_isWorld_89 (by decide) (fun q134 => ?_) (fun q134 => ?_)
                  · rw [if_pos q134] at hf
                    exact hJ130 σ101 _ _ ls hf hP hS (lv_sub hl [1, 2, 3, 0, 5] rfl)
                  · rw [if_neg q134] at hf
                    refine lv_aload_n hx hb dL_isWorld_92 rfl (lv_at hl 1 rfl) ?_
                    refine lv_iload hx hb dL_isWorld_93 (lv_at hl 5 rfl) ?_
                    rcases bt_e hf with ⟨v135, hv, hf⟩ | ⟨n136, v135, hn, hv, hf⟩
                    · refine g_yVi (τ := σ101) ⟨⟨hx, hb, hml, hown, hB⟩, hK, hi, hA, hAd, hP, hS⟩ hZ sub_YX (c_X5_healthOf hflag (injS (by decide) hi) hv) (fun _ _ => rfl) cal_X5_healthOf kM_L_75 ⟨Nat.le_trans (Nat.le_of_ble_eq_true rfl) hRf, Nat.le_trans (Nat.le_of_ble_eq_true rfl) hRl⟩ 48 (by decide) rfl rfl rfl rfl hl.1 (Nat.le_of_ble_eq_true rfl) rfl dL_isWorld_95 ⟨by omega, by omega⟩ (fun _ _ => rfl) (fun _ _ _ => rfl) (fun H locs hP hS => ?_)
                      refine lv_iconst (v := 1) hx hb dL_isWorld_98 (by decide) ?_
                      refine lv_icmp_lt (tgt := 137) hx hb dL_isWorld_99 (by decide) (fun q137 => ?_) (fun q137 => ?_)
                      · rw [if_pos q137] at hf
                        exact hJ130 σ101 _ _ ls hf hP hS (lv_sub hl [1, 2, 3, 0, 5] rfl)
                      · rw [if_neg q137] at hf
                        refine lv_aload_n hx hb dL_isWorld_102 rfl (lv_at hl 1 rfl) ?_
                        refine lv_iload hx hb dL_isWorld_103 (lv_at hl 5 rfl) ?_
                        rcases bt_e hf with ⟨v138, hv, hf⟩ | ⟨n139, v138, hn, hv, hf⟩
                        · refine g_yVi (τ := σ101) ⟨⟨hx, hb, hml, hown, hB⟩, hK, hi, hA, hAd, hP, hS⟩ hZ sub_YX (c_X5_healthOf hflag (injS (by decide) hi) hv) (fun _ _ => rfl) cal_X5_healthOf kM_L_75 ⟨Nat.le_trans (Nat.le_of_ble_eq_true rfl) hRf, Nat.le_trans (Nat.le_of_ble_eq_true rfl) hRl⟩ 48 (by decide) rfl rfl rfl rfl hl.1 (Nat.le_of_ble_eq_true rfl) rfl dL_isWorld_105 ⟨by omega, by omega⟩ (fun _ _ => rfl) (fun _ _ _ => rfl) (fun H locs hP hS => ?_)
                          refine lv_bipush (v := 20) hx hb dL_isWorld_108 (by decide) ?_
                          refine lv_icmp_gt (tgt := 137) hx hb dL_isWorld_110 (by decide) (fun q140 => ?_) (fun q140 => ?_)
                          · rw [if_pos q140] at hf
                            exact hJ130 σ101 _ _ ls hf hP hS (lv_sub hl [1, 2, 3, 0, 5] rfl)
                          · rw [if_neg q140] at hf
                            refine lv_aload_n hx hb dL_isWorld_113 rfl (lv_at hl 1 rfl) ?_
                            refine lv_iload hx hb dL_isWorld_114 (lv_at hl 5 rfl) ?_
                            rcases bt_e hf with ⟨v141, hv, hf⟩ | ⟨n142, v141, hn, hv, hf⟩
                            · refine g_yVi (τ := σ101) ⟨⟨hx, hb, hml, hown, hB⟩, hK, hi, hA, hAd, hP, hS⟩ hZ sub_YX (c_X5_roomOf hflag (injS (by decide) hi) hv) (fun _ _ => rfl) cal_X5_roomOf kM_L_78 ⟨Nat.le_trans (Nat.le_of_ble_eq_true rfl) hRf, Nat.le_trans (Nat.le_of_ble_eq_true rfl) hRl⟩ 48 (by decide) rfl rfl rfl rfl hl.1 (Nat.le_of_ble_eq_true rfl) rfl dL_isWorld_116 ⟨by omega, by omega⟩ (fun _ _ => rfl) (fun _ _ _ => rfl) (fun H locs hP hS => ?_)
                              refine lv_if_lt (tgt := 137) hx hb dL_isWorld_119 (by decide) (fun q143 => ?_) (fun q143 => ?_)
                              · rw [if_pos q143] at hf
                                exact hJ130 σ101 _ _ ls hf hP hS (lv_sub hl [1, 2, 3, 0, 5] rfl)
                              · rw [if_neg q143] at hf
                                refine lv_aload_n hx hb dL_isWorld_122 rfl (lv_at hl 1 rfl) ?_
                                refine lv_iload hx hb dL_isWorld_123 (lv_at hl 5 rfl) ?_
                                rcases bt_e hf with ⟨v144, hv, hf⟩ | ⟨n145, v144, hn, hv, hf⟩
                                · refine g_yVi (τ := σ101) ⟨⟨hx, hb, hml, hown, hB⟩, hK, hi, hA, hAd, hP, hS⟩ hZ sub_YX (c_X5_roomOf hflag (injS (by decide) hi) hv) (fun _ _ => rfl) cal_X5_roomOf kM_L_78 ⟨Nat.le_trans (Nat.le_of_ble_eq_true rfl) hRf, Nat.le_trans (Nat.le_of_ble_eq_true rfl) hRl⟩ 48 (by decide) rfl rfl rfl rfl hl.1 (Nat.le_of_ble_eq_true rfl) rfl dL_isWorld_125 ⟨by omega, by omega⟩ (fun _ _ => rfl) (fun _ _ _ => rfl) (fun H locs hP hS => ?_)
                                  refine lv_bipush (v := 7) hx hb dL_isWorld_128 (by decide) ?_
                                  refine lv_icmp_gt (tgt := 137) hx hb dL_isWorld_130 (by decide) (fun q146 => ?_) (fun q146 => ?_)
                                  · rw [if_pos q146] at hf
                                    exact hJ130 σ101 _ _ ls hf hP hS (lv_sub hl [1, 2, 3, 0, 5] rfl)
                                  · rw [if_neg q146] at hf
                                    refine lv_iconst (v := 1) hx hb dL_isWorld_133 (by decide) ?_
                                    refine lv_goto (tgt := 138) hx hb dL_isWorld_134 (by decide) ?_
                                    exact hJ106 1 σ101 _ _ ls hf hP hS (lv_sub hl [1, 2, 3, 0, 5] rfl)
                                · cases hf
                            · cases hf
                        · cases hf
                    · cases hf
                · cases hf
            obtain ⟨J148, eJ148, hf⟩ := jn_e1 hf
            have hJ148 : ∀ (σ147 : Mem) (H : Heap) (locs : List Loc) (ls : Array Slot), J148 σ147 = some (r, σr) → va_P D vwCl (wsG 54 ad (EY ad cI cJ) σ147) H → va_S (AG 54 ad s.heap.size) s.heap H locs → lv_has ls 8 [(0, .ref (ad 48)), (1, .ref (ad 51)), (2, .int (x6 + v99)), (4, .int x8), (5, .int x9)] → W p l e R s m args below meth c H locs 0 0 Q (F0 m 71 ls []) := by
              intro σ147 H locs ls hf hP hS hl
              rw [eJ148] at hf
              refine lv_iload hx hb dL_isWorld_71 (lv_at hl 4 rfl) ?_
              refine lv_goto (tgt := 77) hx hb dL_isWorld_73 (by decide) ?_
              exact hJ103 x9 σ147 _ _ ls hf hP hS (lv_sub hl [0, 1, 2, 3, 4] rfl)
            refine lv_if_lt (tgt := 71) hx hb dL_isWorld_54 (by decide) (fun q149 => ?_) (fun q149 => ?_)
            · rw [if_pos q149] at hf
              exact hJ148 σ10 _ _ ls hf hP hS (lv_sub hl [1, 2, 0, 4, 5] rfl)
            · rw [if_neg q149] at hf
              refine lv_aload_n hx hb dL_isWorld_57 rfl (lv_at hl 1 rfl) ?_
              refine lv_iload hx hb dL_isWorld_58 (lv_at hl 5 rfl) ?_
              rcases bt_e hf with ⟨v150, hv, hf⟩ | ⟨n151, v150, hn, hv, hf⟩
              · refine g_yVi (τ := σ10) ⟨⟨hx, hb, hml, hown, hB⟩, hK, hi, hA, hAd, hP, hS⟩ hZ sub_YX (c_X5_readyAt hflag (injS (by decide) hi) hv) (fun _ _ => rfl) cal_X5_readyAt kM_L_72 ⟨Nat.le_trans (Nat.le_of_ble_eq_true rfl) hRf, Nat.le_trans (Nat.le_of_ble_eq_true rfl) hRl⟩ 48 (by decide) rfl rfl rfl rfl hl.1 (Nat.le_of_ble_eq_true rfl) rfl dL_isWorld_60 ⟨by omega, by omega⟩ (fun _ _ => rfl) (fun _ _ _ => rfl) (fun H locs hP hS => ?_)
                refine lv_aload_n hx hb dL_isWorld_63 rfl (lv_at hl 1 rfl) ?_
                refine lv_iload_n hx hb dL_isWorld_64 rfl (lv_at hl 3 rfl) ?_
                rcases bt_e hf with ⟨v152, hv, hf⟩ | ⟨n153, v152, hn, hv, hf⟩
                · refine g_yVi (τ := σ10) ⟨⟨hx, hb, hml, hown, hB⟩, hK, hi, hA, hAd, hP, hS⟩ hZ sub_YX (c_X5_readyAt hflag (injS (by decide) hi) hv) (fun _ _ => rfl) cal_X5_readyAt kM_L_72 ⟨Nat.le_trans (Nat.le_of_ble_eq_true rfl) hRf, Nat.le_trans (Nat.le_of_ble_eq_true rfl) hRl⟩ 48 (by decide) rfl rfl rfl rfl hl.1 (Nat.le_of_ble_eq_true rfl) rfl dL_isWorld_65 ⟨by omega, by omega⟩ (fun _ _ => rfl) (fun _ _ _ => rfl) (fun H locs hP hS => ?_)
                  refine lv_icmp_ge (tgt := 76) hx hb dL_isWorld_68 (by decide) (fun q154 => ?_) (fun q154 => ?_)
                  · rw [if_pos q154] at hf
                    refine lv_iload_n hx hb dL_isWorld_76 rfl (lv_at hl 3 rfl) ?_
                    exact hJ103 x7 σ10 _ _ ls hf hP hS (lv_sub hl [1, 2, 0, 4, 5] rfl)
                  · rw [if_neg q154] at hf
                    exact hJ148 σ10 _ _ ls hf hP hS (lv_sub hl [1, 2, 0, 4, 5] rfl)
                · cases hf
              · cases hf
          · cases hf
    exact hL_L_isWorld_35 FU v1 (-1) y4 0 σ3 _ _ ls hf hP hS (lv_sub hl [2, 3, 4, 5, 1, 0] rfl)
  obtain ⟨J156, eJ156, hf⟩ := jn_e1 hf
  have hJ156 : ∀ (σ155 : Mem) (H : Heap) (locs : List Loc) (ls : Array Slot), J156 σ155 = some (r, σr) → va_P D vwCl (wsG 54 ad (EY ad cI cJ) σ155) H → va_S (AG 54 ad s.heap.size) s.heap H locs → lv_has ls 8 [(0, .ref (ad 48)), (1, .ref (ad 51)), (2, .int v1), (3, .int (-1))] → W p l e R s m args below meth c H locs 0 0 Q (F0 m 29 ls []) := by
    intro σ155 H locs ls hf hP hS hl
    rw [eJ156] at hf
    refine lv_iconst (v := 0) hx hb dL_isWorld_29 (by decide) ?_
    exact hJ5 0 σ155 _ _ ls hf hP hS (lv_sub hl [0, 1, 2, 3] rfl)
  refine lv_if_lt (tgt := 29) hx hb dL_isWorld_11 (by decide) (fun q157 => ?_) (fun q157 => ?_)
  · rw [if_pos q157] at hf
    exact hJ156 σ _ _ ls hf hP hS (lv_sub hl [2, 3, 1, 0] rfl)
  · rw [if_neg q157] at hf
    refine lv_aload_n hx hb dL_isWorld_14 rfl (lv_at hl 2 rfl) ?_
    obtain ⟨v158, hv, hf⟩ := bd_e hf
    refine g_cVi (τ := σ) ⟨⟨hx, hb, hml, hown, hB⟩, hK, hi, hA, hAd, hP, hS⟩ sub_YX (c_X5_calls (injS (by decide) hi) hv) (fun _ _ => rfl) cal_X5_calls kM_L_66 ⟨Nat.le_trans (Nat.le_of_ble_eq_true rfl) hRf, Nat.le_trans (Nat.le_of_ble_eq_true rfl) hRl⟩ 48 (by decide) rfl rfl rfl rfl hl.1 (Nat.le_of_ble_eq_true rfl) rfl dL_isWorld_15 ⟨by omega, by omega⟩ (fun _ _ => rfl) (fun _ _ _ => rfl) (fun H locs hP hS => ?_)
    refine lv_aload_n hx hb dL_isWorld_18 rfl (lv_at hl 3 rfl) ?_
    refine lv_bipush (v := 6) hx hb dL_isWorld_19 (by decide) ?_
    obtain ⟨hin, hf⟩ := gd_e hf
    refine g_iald hx hb hK hP 51 13 (by decide) (EY_51 _) hin dL_isWorld_21 ?_
    refine lv_icmp_ne (tgt := 29) hx hb dL_isWorld_22 (by decide) (fun q159 => ?_) (fun q159 => ?_)
    · rw [if_neg q159] at hf
      exact hJ156 σ _ _ ls hf hP hS (lv_sub hl [2, 3, 1, 0] rfl)
    · rw [if_pos q159] at hf
      refine lv_iconst (v := 1) hx hb dL_isWorld_25 (by decide) ?_
      refine lv_goto (tgt := 30) hx hb dL_isWorld_26 (by decide) ?_
      exact hJ5 1 σ _ _ ls hf hP hS (lv_sub hl [2, 3, 1, 0] rfl)
def L_L_areRooms_85 : Nat → (Int32 → Int32 → Mem → Option (Int32 × Mem)) → Int32 → Int32 → Int32 → Int32 → Int32 → Int32 → Mem → Option (Int32 × Mem)
  | 0, _, _, _, _, _, _, _, _ => none
  | n + 1, k, x31, x33, x34, x32, x35, x36, σ37 =>
    if 4 ≤ x36 then (
    k x32 x35 σ37)
    else (
    if x32 = 0 then (
    k x32 x35 σ37)
    else (
    bt (f_X5_exit σ37 x33 x36) (fun _ => none) fun v51 =>
    jn (fun (y54 : Int32) (σ53 : Mem) =>
    jn (fun (y57 : Int32) (σ56 : Mem) =>
    jn (fun (y60 : Int32) (σ59 : Mem) =>
    L_L_areRooms_85 n k x31 x33 x34 y57 y60 (x36 + 1) σ59) fun (J61 : Int32 → Mem → Option (Int32 × Mem)) =>
    jn (fun (σ62 : Mem) =>
    J61 1 σ62) fun (J63 : Mem → Option (Int32 × Mem)) =>
    if x35 = 0 then (
    jn (fun (σ65 : Mem) =>
    J61 0 σ65) fun (J66 : Mem → Option (Int32 × Mem)) =>
    if v51 < 0 then (
    J66 σ56)
    else (
    if y54 = (x34 - 1) then (
    J63 σ56)
    else (
    J66 σ56)))
    else (
    J63 σ56)) fun (J58 : Int32 → Mem → Option (Int32 × Mem)) =>
    jn (fun (σ69 : Mem) =>
    J58 1 σ69) fun (J70 : Mem → Option (Int32 × Mem)) =>
    if v51 < 0 then (
    J70 σ53)
    else (
    jn (fun (σ72 : Mem) =>
    J58 0 σ72) fun (J73 : Mem → Option (Int32 × Mem)) =>
    if v51 = x33 then (
    J73 σ53)
    else (
    bt (f_X5_exit σ53 v51 (jrem (x36 + 2) 4)) (fun _ => none) fun v75 =>
    if v75 = x33 then (
    if 0 ≤ x34 then (
    if y54 < (x34 - 1) then (
    J73 σ53)
    else (
    if (x34 + 1) < y54 then (
    J73 σ53)
    else (
    J70 σ53)))
    else (
    if 0 ≤ y54 then (
    J73 σ53)
    else (
    J70 σ53)))
    else (
    J73 σ53)))) fun (J55 : Int32 → Mem → Option (Int32 × Mem)) =>
    if 0 ≤ v51 then (
    bt3 (f_X5_distance σ37 x31 v51) (fun _ _ => none) fun v83 σ84 =>
    stp (mgY σ84 σ37) fun σ86 =>
    jn (fun (y88 : Int32) (σ87 : Mem) =>
    jn (fun (y91 : Int32) (σ90 : Mem) =>
    L_L_areRooms_85 n k x31 x33 x34 y88 y91 (x36 + 1) σ90) fun (J92 : Int32 → Mem → Option (Int32 × Mem)) =>
    jn (fun (σ93 : Mem) =>
    J92 1 σ93) fun (J94 : Mem → Option (Int32 × Mem)) =>
    if x35 = 0 then (
    jn (fun (σ96 : Mem) =>
    J92 0 σ96) fun (J97 : Mem → Option (Int32 × Mem)) =>
    if v51 < 0 then (
    J97 σ87)
    else (
    if v83 = (x34 - 1) then (
    J94 σ87)
    else (
    J97 σ87)))
    else (
    J94 σ87)) fun (J89 : Int32 → Mem → Option (Int32 × Mem)) =>
    jn (fun (σ100 : Mem) =>
    J89 1 σ100) fun (J101 : Mem → Option (Int32 × Mem)) =>
    if v51 < 0 then (
    J101 σ86)
    else (
    jn (fun (σ103 : Mem) =>
    J89 0 σ103) fun (J104 : Mem → Option (Int32 × Mem)) =>
    if v51 = x33 then (
    J104 σ86)
    else (
    bt (f_X5_exit σ86 v51 (jrem (x36 + 2) 4)) (fun _ => none) fun v106 =>
    if v106 = x33 then (
    if 0 ≤ x34 then (
    if v83 < (x34 - 1) then (
    J104 σ86)
    else (
    if (x34 + 1) < v83 then (
    J104 σ86)
    else (
    J101 σ86)))
    else (
    if 0 ≤ v83 then (
    J104 σ86)
    else (
    J101 σ86)))
    else (
    J104 σ86))))
    else (
    J55 (-1) σ37)))
def L_L_areRooms_17 : Nat → (Int32 → Mem → Option (Int32 × Mem)) → Int32 → Int32 → Int32 → Mem → Option (Int32 × Mem)
  | 0, _, _, _, _, _ => none
  | n + 1, k, x8, x9, x10, σ11 =>
    if 8 ≤ x10 then (
    k x9 σ11)
    else (
    if x9 = 0 then (
    k x9 σ11)
    else (
    bt3 (f_X5_distance σ11 x8 x10) (fun _ _ => none) fun v17 σ18 =>
    stp (mgY σ18 σ11) fun σ20 =>
    jn (fun (y22 : Int32) (σ21 : Mem) =>
    bt3 (f_X5_distance σ21 x10 x8) (fun _ _ => none) fun v24 σ25 =>
    stp (mgY σ25 σ21) fun σ27 =>
    jn (fun (y29 : Int32) (σ28 : Mem) =>
    L_L_areRooms_85 FU (fun (x39 : Int32) (x40 : Int32) (σ41 : Mem) =>
    jn (fun (y43 : Int32) (σ42 : Mem) =>
    L_L_areRooms_17 n k x8 y43 (x10 + 1) σ42) fun (J44 : Int32 → Mem → Option (Int32 × Mem)) =>
    jn (fun (σ45 : Mem) =>
    J44 0 σ45) fun (J46 : Mem → Option (Int32 × Mem)) =>
    if x39 = 0 then (
    J46 σ41)
    else (
    if x40 = 0 then (
    J46 σ41)
    else (
    J44 1 σ41))) x8 x10 v17 y29 y22 0 σ28) fun (J30 : Int32 → Mem → Option (Int32 × Mem)) =>
    jn (fun (σ113 : Mem) =>
    J30 0 σ113) fun (J114 : Mem → Option (Int32 × Mem)) =>
    if v17 = v24 then (
    if v17 < (-1) then (
    J114 σ27)
    else (
    if 7 < v17 then (
    J114 σ27)
    else (
    J30 1 σ27)))
    else (
    J114 σ27)) fun (J23 : Int32 → Mem → Option (Int32 × Mem)) =>
    jn (fun (σ118 : Mem) =>
    J23 1 σ118) fun (J119 : Mem → Option (Int32 × Mem)) =>
    if x10 = x8 then (
    J119 σ20)
    else (
    if 0 ≤ v17 then (
    J23 0 σ20)
    else (
    J119 σ20))))
def f_L_areRooms (σ : Mem) (a0 : Int32) : Option (Int32 × Mem) :=
bt3 (f_X5_distance σ a0 a0) (fun _ _ => none) fun v1 σ2 =>
stp (mgY σ2 σ) fun σ4 =>
jn (fun (y6 : Int32) (σ5 : Mem) =>
L_L_areRooms_17 FU (fun (x13 : Int32) (σ14 : Mem) =>
gz x13 <| some (x13, σ14)) a0 y6 0 σ5) fun (J7 : Int32 → Mem → Option (Int32 × Mem)) =>
if v1 = 0 then (
J7 1 σ4)
else (
J7 0 σ4)
set_option maxHeartbeats 16000000 in
set_option maxRecDepth 100000 in
theorem c_L_areRooms {l : Launch} {D : va_G} {cI cJ : ClassId} {ad : Nat → Nat} {σ σr : Mem} {a0 : Int32} {r : Int32} (hflag : l.stackTraces = false) (hi : injG 54 ad) (hf : f_L_areRooms σ a0 = some (r, σr)) : MGY l yL_areRooms (Cond.code yL_areRooms cL_areRooms 9 (some .boolean)) 8 132 0 D cI cJ 54 ad (EY ad cI cJ) [.ref (ad 48), .int a0] σ (fun sz => Qgi D 54 ad (EY ad cI cJ) r σr sz) := by
  refine MGY.ofW (by decide) ?_
  intro p e s m args below meth c hx hb hr hml hlocks hown hB hK hZ hN hP hA hAd hS
  have hown : s.vm.findClass RL = some m.cls := hown
  have hl := lv_entry ([.ref (ad 48), .int a0] : List Value) (n := 9) (Nat.le_of_ble_eq_true rfl)
  rw [lg_entry_eq]
  generalize (lg_sl ([.ref (ad 48), .int a0] : List Value) ++ List.replicate (9 - (lg_sl ([.ref (ad 48), .int a0] : List Value)).length) Slot.unset).toArray = ls at hl ⊢
  have hl : lv_has ls 9 [(0, .ref (ad 48)), (1, .int a0)] := hl
  generalize hQ : MQ below (Qgi D 54 ad (EY ad cI cJ) r σr s.heap.size) _ s 0 (6 * 0) (AG 54 ad s.heap.size) = Q
  have hQ := hQ.symm
  obtain ⟨R, hR, hRf, hRl, hRc, hRs⟩ : ∃ R : Room, R = ({ frames := 8, cells := 0, slots := 6 * 0, locals := 132 } : Room) ∧ 8 ≤ R.frames ∧ 132 ≤ R.locals ∧ 0 ≤ R.cells ∧ 6 * 0 ≤ R.slots := ⟨_, rfl, Nat.le_refl _, Nat.le_refl _, Nat.le_refl _, Nat.le_refl _⟩
  rw [← hR]
  unfold f_L_areRooms at hf
  refine lv_aload_n hx hb dL_areRooms_0 rfl (lv_at hl 0 rfl) ?_
  refine lv_iload_n hx hb dL_areRooms_1 rfl (lv_at hl 1 rfl) ?_
  refine lv_iload_n hx hb dL_areRooms_2 rfl (lv_at hl 1 rfl) ?_
  rcases bt3_e hf with ⟨v1, σ2, hv, hf⟩ | ⟨n3, σ2, hn, ⟨_, hv⟩, hf⟩
  · refine g_yVi (τ := (mgY σ2 σ)) ⟨⟨hx, hb, hml, hown, hB⟩, hK, hi, hA, hAd, hP, hS⟩ hZ sub_YX (c_X5_distance hflag (injS (by decide) hi) hv) (fun _ _ => rfl) cal_X5_distance kM_L_105 ⟨Nat.le_trans (Nat.le_of_ble_eq_true rfl) hRf, Nat.le_trans (Nat.le_of_ble_eq_true rfl) hRl⟩ 48 (by decide) rfl rfl rfl rfl hl.1 (Nat.le_of_ble_eq_true rfl) rfl dL_areRooms_3 ⟨by omega, by omega⟩ (mgY_1 _ _) (mgY_2 54 _ _) (fun H locs hP hS => ?_)
    obtain ⟨σ4, eσ4, hf⟩ := stp_e hf
    rw [← eσ4] at hP
    obtain ⟨J7, eJ7, hf⟩ := jn_e2 hf
    have hJ7 : ∀ (y6 : Int32) (σ5 : Mem) (H : Heap) (locs : List Loc) (ls : Array Slot), J7 y6 σ5 = some (r, σr) → va_P D vwCl (wsG 54 ad (EY ad cI cJ) σ5) H → va_S (AG 54 ad s.heap.size) s.heap H locs → lv_has ls 9 [(0, .ref (ad 48)), (1, .int a0)] → W p l e R s m args below meth c H locs 0 0 Q (F0 m 14 ls [.int y6]) := by
      intro y6 σ5 H locs ls hf hP hS hl
      rw [eJ7] at hf
      refine lv_istore_n (lv' := [(2, .int y6), (0, .ref (ad 48)), (1, .int a0)]) hx hb dL_areRooms_14 rfl hl (by decide) rfl (fun ls hl => ?_)
      refine lv_iconst (v := 0) hx hb dL_areRooms_15 (by decide) ?_
      refine lv_istore_n (lv' := [(3, .int 0), (2, .int y6), (0, .ref (ad 48)), (1, .int a0)]) hx hb dL_areRooms_16 rfl hl (by decide) rfl (fun ls hl => ?_)
      obtain ⟨K12, eK12, hf⟩ := lp_e2 (b := fun K => L_L_areRooms_17 FU K a0 y6 0 σ5) hf
      replace hf : L_L_areRooms_17 FU K12 a0 y6 0 σ5 = some (r, σr) := hf
      have hKK12 : ∀ (x13 : Int32) (σ14 : Mem) (H : Heap) (locs : List Loc) (ls : Array Slot), K12 x13 σ14 = some (r, σr) → va_P D vwCl (wsG 54 ad (EY ad cI cJ) σ14) H → va_S (AG 54 ad s.heap.size) s.heap H locs → lv_has ls 9 [(2, .int x13)] → W p l e R s m args below meth c H locs 0 0 Q (F0 m 239 ls []) := by
        intro x13 σ14 H locs ls hf hP hS hl
        rw [eK12] at hf
        refine lv_iload_n hx hb dL_areRooms_239 rfl (lv_at hl 0 rfl) ?_
        obtain ⟨hz, hf⟩ := gz_e hf
        obtain ⟨h1, h2⟩ := rt2 hf
        refine W.widen (k := 0) (n := 6 * 0) (by omega) (by omega) ?_
        rw [hQ]
        exact g_yzret hx hb hr hlocks hP hS hz h1 h2 dL_areRooms_240
      have hL_L_areRooms_17 : ∀ (n : Nat) (x9 : Int32) (x10 : Int32) (σ11 : Mem) (H : Heap) (locs : List Loc) (ls : Array Slot), L_L_areRooms_17 n K12 a0 x9 x10 σ11 = some (r, σr) → va_P D vwCl (wsG 54 ad (EY ad cI cJ) σ11) H → va_S (AG 54 ad s.heap.size) s.heap H locs → lv_has ls 9 [(0, .ref (ad 48)), (1, .int a0), (2, .int x9), (3, .int x10)] → W p l e R s m args below meth c H locs 0 0 Q (F0 m 17 ls []) := by
        intro n
        induction n with
        | zero => intro x9 x10 σ11 H locs ls hf; cases hf
        | succ n ih =>
          intro x9 x10 σ11 H locs ls hf hP hS hl
          rw [L_L_areRooms_17] at hf
          refine lv_iload_n hx hb dL_areRooms_17 rfl (lv_at hl 3 rfl) ?_
          refine lv_bipush (v := 8) hx hb dL_areRooms_18 (by decide) ?_
          refine lv_icmp_ge (tgt := 239) hx hb dL_areRooms_20 (by decide) (fun q15 => ?_) (fun q15 => ?_)
          · rw [if_pos q15] at hf
            exact hKK12 x9 σ11 _ _ ls hf hP hS (lv_sub hl [2] rfl)
          · rw [if_neg q15] at hf
            refine lv_iload_n hx hb dL_areRooms_23 rfl (lv_at hl 2 rfl) ?_
            refine lv_if_eq (tgt := 239) hx hb dL_areRooms_24 (by decide) (fun q16 => ?_) (fun q16 => ?_)
            · rw [if_pos q16] at hf
              exact hKK12 x9 σ11 _ _ ls hf hP hS (lv_sub hl [2] rfl)
            · rw [if_neg q16] at hf
              refine lv_aload_n hx hb dL_areRooms_27 rfl (lv_at hl 0 rfl) ?_
              refine lv_iload_n hx hb dL_areRooms_28 rfl (lv_at hl 1 rfl) ?_
              refine lv_iload_n hx hb dL_areRooms_29 rfl (lv_at hl 3 rfl) ?_
              rcases bt3_e hf with ⟨v17, σ18, hv, hf⟩ | ⟨n19, σ18, hn, ⟨_, hv⟩, hf⟩
              · refine g_yVi (τ := (mgY σ18 σ11)) ⟨⟨hx, hb, hml, hown, hB⟩, hK, hi, hA, hAd, hP, hS⟩ hZ sub_YX (c_X5_distance hflag (injS (by decide) hi) hv) (fun _ _ => rfl) cal_X5_distance kM_L_105 ⟨Nat.le_trans (Nat.le_of_ble_eq_true rfl) hRf, Nat.le_trans (Nat.le_of_ble_eq_true rfl) hRl⟩ 48 (by decide) rfl rfl rfl rfl hl.1 (Nat.le_of_ble_eq_true rfl) rfl dL_areRooms_30 ⟨by omega, by omega⟩ (mgY_1 _ _) (mgY_2 54 _ _) (fun H locs hP hS => ?_)
                obtain ⟨σ20, eσ20, hf⟩ := stp_e hf
                rw [← eσ20] at hP
                refine lv_istore (lv' := [(4, .int v17), (0, .ref (ad 48)), (1, .int a0), (2, .int x9), (3, .int x10)]) hx hb dL_areRooms_33 hl (by decide) rfl (fun ls hl => ?_)
                refine lv_iload_n hx hb dL_areRooms_35 rfl (lv_at hl 4 rfl) ?_
                refine lv_iload_n hx hb dL_areRooms_36 rfl (lv_at hl 2 rfl) ?_
                obtain ⟨J23, eJ23, hf⟩ := jn_e2 hf
                have hJ23 : ∀ (y22 : Int32) (σ21 : Mem) (H : Heap) (locs : List Loc) (ls : Array Slot), J23 y22 σ21 = some (r, σr) → va_P D vwCl (wsG 54 ad (EY ad cI cJ) σ21) H → va_S (AG 54 ad s.heap.size) s.heap H locs → lv_has ls 9 [(0, .ref (ad 48)), (1, .int a0), (3, .int x10), (4, .int v17)] → W p l e R s m args below meth c H locs 0 0 Q (F0 m 50 ls [.int y22]) := by
                  intro y22 σ21 H locs ls hf hP hS hl
                  rw [eJ23] at hf
                  refine lv_istore (lv' := [(5, .int y22), (0, .ref (ad 48)), (1, .int a0), (3, .int x10), (4, .int v17)]) hx hb dL_areRooms_50 hl (by decide) rfl (fun ls hl => ?_)
                  refine lv_iload hx hb dL_areRooms_52 (lv_at hl 4 rfl) ?_
                  refine lv_aload_n hx hb dL_areRooms_54 rfl (lv_at hl 1 rfl) ?_
                  refine lv_iload_n hx hb dL_areRooms_55 rfl (lv_at hl 3 rfl) ?_
                  refine lv_iload_n hx hb dL_areRooms_56 rfl (lv_at hl 2 rfl) ?_
                  rcases bt3_e hf with ⟨v24, σ25, hv, hf⟩ | ⟨n26, σ25, hn, ⟨_, hv⟩, hf⟩
                  · refine g_yVi (τ := (mgY σ25 σ21)) ⟨⟨hx, hb, hml, hown, hB⟩, hK, hi, hA, hAd, hP, hS⟩ hZ sub_YX (c_X5_distance hflag (injS (by decide) hi) hv) (fun _ _ => rfl) cal_X5_distance kM_L_105 ⟨Nat.le_trans (Nat.le_of_ble_eq_true rfl) hRf, Nat.le_trans (Nat.le_of_ble_eq_true rfl) hRl⟩ 48 (by decide) rfl rfl rfl rfl hl.1 (Nat.le_of_ble_eq_true rfl) rfl dL_areRooms_57 ⟨by omega, by omega⟩ (mgY_1 _ _) (mgY_2 54 _ _) (fun H locs hP hS => ?_)
                    obtain ⟨σ27, eσ27, hf⟩ := stp_e hf
                    rw [← eσ27] at hP
                    obtain ⟨J30, eJ30, hf⟩ := jn_e2 hf
                    have hJ30 : ∀ (y29 : Int32) (σ28 : Mem) (H : Heap) (locs : List Loc) (ls : Array Slot), J30 y29 σ28 = some (r, σr) → va_P D vwCl (wsG 54 ad (EY ad cI cJ) σ28) H → va_S (AG 54 ad s.heap.size) s.heap H locs → lv_has ls 9 [(0, .ref (ad 48)), (1, .int a0), (3, .int x10), (4, .int v17), (5, .int y22)] → W p l e R s m args below meth c H locs 0 0 Q (F0 m 81 ls [.int y29]) := by
                      intro y29 σ28 H locs ls hf hP hS hl
                      rw [eJ30] at hf
                      refine lv_istore_n (lv' := [(2, .int y29), (0, .ref (ad 48)), (1, .int a0), (3, .int x10), (4, .int v17), (5, .int y22)]) hx hb dL_areRooms_81 rfl hl (by decide) rfl (fun ls hl => ?_)
                      refine lv_iconst (v := 0) hx hb dL_areRooms_82 (by decide) ?_
                      refine lv_istore (lv' := [(6, .int 0), (2, .int y29), (0, .ref (ad 48)), (1, .int a0), (3, .int x10), (4, .int v17), (5, .int y22)]) hx hb dL_areRooms_83 hl (by decide) rfl (fun ls hl => ?_)
                      obtain ⟨K38, eK38, hf⟩ := lp_e3 (b := fun K => L_L_areRooms_85 FU K a0 x10 v17 y29 y22 0 σ28) hf
                      replace hf : L_L_areRooms_85 FU K38 a0 x10 v17 y29 y22 0 σ28 = some (r, σr) := hf
                      have hKK38 : ∀ (x39 : Int32) (x40 : Int32) (σ41 : Mem) (H : Heap) (locs : List Loc) (ls : Array Slot), K38 x39 x40 σ41 = some (r, σr) → va_P D vwCl (wsG 54 ad (EY ad cI cJ) σ41) H → va_S (AG 54 ad s.heap.size) s.heap H locs → lv_has ls 9 [(0, .ref (ad 48)), (1, .int a0), (2, .int x39), (3, .int x10), (5, .int x40)] → W p l e R s m args below meth c H locs 0 0 Q (F0 m 218 ls []) := by
                        intro x39 x40 σ41 H locs ls hf hP hS hl
                        rw [eK38] at hf
                        refine lv_iload_n hx hb dL_areRooms_218 rfl (lv_at hl 2 rfl) ?_
                        obtain ⟨J44, eJ44, hf⟩ := jn_e2 hf
                        have hJ44 : ∀ (y43 : Int32) (σ42 : Mem) (H : Heap) (locs : List Loc) (ls : Array Slot), J44 y43 σ42 = some (r, σr) → va_P D vwCl (wsG 54 ad (EY ad cI cJ) σ42) H → va_S (AG 54 ad s.heap.size) s.heap H locs → lv_has ls 9 [(0, .ref (ad 48)), (1, .int a0), (3, .int x10)] → W p l e R s m args below meth c H locs 0 0 Q (F0 m 232 ls [.int y43]) := by
                          intro y43 σ42 H locs ls hf hP hS hl
                          rw [eJ44] at hf
                          refine lv_istore_n (lv' := [(2, .int y43), (0, .ref (ad 48)), (1, .int a0), (3, .int x10)]) hx hb dL_areRooms_232 rfl hl (by decide) rfl (fun ls hl => ?_)
                          refine lv_iinc (v := (x10 + 1)) (lv' := [(3, .int (x10 + 1)), (2, .int y43), (0, .ref (ad 48)), (1, .int a0)]) hx hb dL_areRooms_233 hl (k := 3) rfl rfl (by decide) rfl (fun ls hl => ?_)
                          refine lv_goto (tgt := 17) hx hb dL_areRooms_236 (by decide) ?_
                          exact ih y43 (x10 + 1) σ42 _ _ ls hf hP hS (lv_sub hl [2, 3, 1, 0] rfl)
                        obtain ⟨J46, eJ46, hf⟩ := jn_e1 hf
                        have hJ46 : ∀ (σ45 : Mem) (H : Heap) (locs : List Loc) (ls : Array Slot), J46 σ45 = some (r, σr) → va_P D vwCl (wsG 54 ad (EY ad cI cJ) σ45) H → va_S (AG 54 ad s.heap.size) s.heap H locs → lv_has ls 9 [(0, .ref (ad 48)), (1, .int a0), (3, .int x10)] → W p l e R s m args below meth c H locs 0 0 Q (F0 m 231 ls []) := by
                          intro σ45 H locs ls hf hP hS hl
                          rw [eJ46] at hf
                          refine lv_iconst (v := 0) hx hb dL_areRooms_231 (by decide) ?_
                          exact hJ44 0 σ45 _ _ ls hf hP hS (lv_sub hl [0, 1, 2] rfl)
                        refine lv_if_eq (tgt := 231) hx hb dL_areRooms_219 (by decide) (fun q47 => ?_) (fun q47 => ?_)
                        · rw [if_pos q47] at hf
                          exact hJ46 σ41 _ _ ls hf hP hS (lv_sub hl [0, 1, 3] rfl)
                        · rw [if_neg q47] at hf
                          refine lv_iload hx hb dL_areRooms_222 (lv_at hl 4 rfl) ?_
                          refine lv_if_eq (tgt := 231) hx hb dL_areRooms_224 (by decide) (fun q48 => ?_) (fun q48 => ?_)
                          · rw [if_pos q48] at hf
                            exact hJ46 σ41 _ _ ls hf hP hS (lv_sub hl [0, 1, 3] rfl)
                          · rw [if_neg q48] at hf
                            refine lv_iconst (v := 1) hx hb dL_areRooms_227 (by decide) ?_
                            refine lv_goto (tgt := 232) hx hb dL_areRooms_228 (by decide) ?_
                            exact hJ44 1 σ41 _ _ ls hf hP hS (lv_sub hl [0, 1, 3] rfl)
                      have hL_L_areRooms_85 : ∀ (n : Nat) (x32 : Int32) (x35 : Int32) (x36 : Int32) (σ37 : Mem) (H : Heap) (locs : List Loc) (ls : Array Slot), L_L_areRooms_85 n K38 a0 x10 v17 x32 x35 x36 σ37 = some (r, σr) → va_P D vwCl (wsG 54 ad (EY ad cI cJ) σ37) H → va_S (AG 54 ad s.heap.size) s.heap H locs → lv_has ls 9 [(0, .ref (ad 48)), (1, .int a0), (2, .int x32), (3, .int x10), (4, .int v17), (5, .int x35), (6, .int x36)] → W p l e R s m args below meth c H locs 0 0 Q (F0 m 85 ls []) := by
                        intro n
                        induction n with
                        | zero => intro x32 x35 x36 σ37 H locs ls hf; cases hf
                        | succ n ih =>
                          intro x32 x35 x36 σ37 H locs ls hf hP hS hl
                          rw [L_L_areRooms_85] at hf
                          refine lv_iload hx hb dL_areRooms_85 (lv_at hl 6 rfl) ?_
                          refine lv_iconst (v := 4) hx hb dL_areRooms_87 (by decide) ?_
                          refine lv_icmp_ge (tgt := 218) hx hb dL_areRooms_88 (by decide) (fun q49 => ?_) (fun q49 => ?_)
                          · rw [if_pos q49] at hf
                            exact hKK38 x32 x35 σ37 _ _ ls hf hP hS (lv_sub hl [0, 1, 2, 3, 5] rfl)
                          · rw [if_neg q49] at hf
                            refine lv_iload_n hx hb dL_areRooms_91 rfl (lv_at hl 2 rfl) ?_
                            refine lv_if_eq (tgt := 218) hx hb dL_areRooms_92 (by decide) (fun q50 => ?_) (fun q50 => ?_)
                            · rw [if_pos q50] at hf
                              exact hKK38 x32 x35 σ37 _ _ ls hf hP hS (lv_sub hl [0, 1, 2, 3, 5] rfl)
                            · rw [if_neg q50] at hf
                              refine lv_aload_n hx hb dL_areRooms_95 rfl (lv_at hl 0 rfl) ?_
                              refine lv_iload_n hx hb dL_areRooms_96 rfl (lv_at hl 3 rfl) ?_
                              refine lv_iload hx hb dL_areRooms_97 (lv_at hl 6 rfl) ?_
                              rcases bt_e hf with ⟨v51, hv, hf⟩ | ⟨n52, v51, hn, hv, hf⟩
                              · refine g_yVi (τ := σ37) ⟨⟨hx, hb, hml, hown, hB⟩, hK, hi, hA, hAd, hP, hS⟩ hZ sub_YX (c_X5_exit hflag (injS (by decide) hi) hv) (fun _ _ => rfl) cal_X5_exit kM_L_108 ⟨Nat.le_trans (Nat.le_of_ble_eq_true rfl) hRf, Nat.le_trans (Nat.le_of_ble_eq_true rfl) hRl⟩ 48 (by decide) rfl rfl rfl rfl hl.1 (Nat.le_of_ble_eq_true rfl) rfl dL_areRooms_99 ⟨by omega, by omega⟩ (fun _ _ => rfl) (fun _ _ _ => rfl) (fun H locs hP hS => ?_)
                                refine lv_istore (lv' := [(7, .int v51), (0, .ref (ad 48)), (1, .int a0), (2, .int x32), (3, .int x10), (4, .int v17), (5, .int x35), (6, .int x36)]) hx hb dL_areRooms_102 hl (by decide) rfl (fun ls hl => ?_)
                                refine lv_iload hx hb dL_areRooms_104 (lv_at hl 0 rfl) ?_
                                obtain ⟨J55, eJ55, hf⟩ := jn_e2 hf
                                have hJ55 : ∀ (y54 : Int32) (σ53 : Mem) (H : Heap) (locs : List Loc) (ls : Array Slot), J55 y54 σ53 = some (r, σr) → va_P D vwCl (wsG 54 ad (EY ad cI cJ) σ53) H → va_S (AG 54 ad s.heap.size) s.heap H locs → lv_has ls 9 [(0, .ref (ad 48)), (1, .int a0), (3, .int x10), (4, .int v17), (5, .int x35), (6, .int x36), (7, .int v51)] → W p l e R s m args below meth c H locs 0 0 Q (F0 m 120 ls [.int y54]) := by
                                  intro y54 σ53 H locs ls hf hP hS hl
                                  rw [eJ55] at hf
                                  refine lv_istore (lv' := [(8, .int y54), (0, .ref (ad 48)), (1, .int a0), (3, .int x10), (4, .int v17), (5, .int x35), (6, .int x36), (7, .int v51)]) hx hb dL_areRooms_120 hl (by decide) rfl (fun ls hl => ?_)
                                  refine lv_iload hx hb dL_areRooms_122 (lv_at hl 7 rfl) ?_
                                  obtain ⟨J58, eJ58, hf⟩ := jn_e2 hf
                                  have hJ58 : ∀ (y57 : Int32) (σ56 : Mem) (H : Heap) (locs : List Loc) (ls : Array Slot), J58 y57 σ56 = some (r, σr) → va_P D vwCl (wsG 54 ad (EY ad cI cJ) σ56) H → va_S (AG 54 ad s.heap.size) s.heap H locs → lv_has ls 9 [(0, .ref (ad 48)), (1, .int a0), (3, .int x10), (4, .int v17), (5, .int x35), (6, .int x36), (7, .int v51), (8, .int y54)] → W p l e R s m args below meth c H locs 0 0 Q (F0 m 185 ls [.int y57]) := by
                                    intro y57 σ56 H locs ls hf hP hS hl
                                    rw [eJ58] at hf
                                    refine lv_istore_n (lv' := [(2, .int y57), (0, .ref (ad 48)), (1, .int a0), (3, .int x10), (4, .int v17), (5, .int x35), (6, .int x36), (7, .int v51), (8, .int y54)]) hx hb dL_areRooms_185 rfl hl (by decide) rfl (fun ls hl => ?_)
                                    refine lv_iload hx hb dL_areRooms_186 (lv_at hl 5 rfl) ?_
                                    obtain ⟨J61, eJ61, hf⟩ := jn_e2 hf
                                    have hJ61 : ∀ (y60 : Int32) (σ59 : Mem) (H : Heap) (locs : List Loc) (ls : Array Slot), J61 y60 σ59 = some (r, σr) → va_P D vwCl (wsG 54 ad (EY ad cI cJ) σ59) H → va_S (AG 54 ad s.heap.size) s.heap H locs → lv_has ls 9 [(0, .ref (ad 48)), (1, .int a0), (2, .int y57), (3, .int x10), (4, .int v17), (6, .int x36)] → W p l e R s m args below meth c H locs 0 0 Q (F0 m 210 ls [.int y60]) := by
                                      intro y60 σ59 H locs ls hf hP hS hl
                                      rw [eJ61] at hf
                                      refine lv_istore (lv' := [(5, .int y60), (0, .ref (ad 48)), (1, .int a0), (2, .int y57), (3, .int x10), (4, .int v17), (6, .int x36)]) hx hb dL_areRooms_210 hl (by decide) rfl (fun ls hl => ?_)
                                      refine lv_iinc (v := (x36 + 1)) (lv' := [(6, .int (x36 + 1)), (5, .int y60), (0, .ref (ad 48)), (1, .int a0), (2, .int y57), (3, .int x10), (4, .int v17)]) hx hb dL_areRooms_212 hl (k := 6) rfl rfl (by decide) rfl (fun ls hl => ?_)
                                      refine lv_goto (tgt := 85) hx hb dL_areRooms_215 (by decide) ?_
                                      exact ih y57 y60 (x36 + 1) σ59 _ _ ls hf hP hS (lv_sub hl [2, 3, 4, 5, 6, 1, 0] rfl)
                                    obtain ⟨J63, eJ63, hf⟩ := jn_e1 hf
                                    have hJ63 : ∀ (σ62 : Mem) (H : Heap) (locs : List Loc) (ls : Array Slot), J63 σ62 = some (r, σr) → va_P D vwCl (wsG 54 ad (EY ad cI cJ) σ62) H → va_S (AG 54 ad s.heap.size) s.heap H locs → lv_has ls 9 [(0, .ref (ad 48)), (1, .int a0), (2, .int y57), (3, .int x10), (4, .int v17), (6, .int x36)] → W p l e R s m args below meth c H locs 0 0 Q (F0 m 205 ls []) := by
                                      intro σ62 H locs ls hf hP hS hl
                                      rw [eJ63] at hf
                                      refine lv_iconst (v := 1) hx hb dL_areRooms_205 (by decide) ?_
                                      refine lv_goto (tgt := 210) hx hb dL_areRooms_206 (by decide) ?_
                                      exact hJ61 1 σ62 _ _ ls hf hP hS (lv_sub hl [0, 1, 2, 3, 4, 5] rfl)
                                    refine lv_if_ne (tgt := 205) hx hb dL_areRooms_188 (by decide) (fun q64 => ?_) (fun q64 => ?_)
                                    · rw [if_neg q64] at hf
                                      exact hJ63 σ56 _ _ ls hf hP hS (lv_sub hl [1, 2, 0, 3, 4, 6] rfl)
                                    · rw [if_pos q64] at hf
                                      refine lv_iload hx hb dL_areRooms_191 (lv_at hl 7 rfl) ?_
                                      obtain ⟨J66, eJ66, hf⟩ := jn_e1 hf
                                      have hJ66 : ∀ (σ65 : Mem) (H : Heap) (locs : List Loc) (ls : Array Slot), J66 σ65 = some (r, σr) → va_P D vwCl (wsG 54 ad (EY ad cI cJ) σ65) H → va_S (AG 54 ad s.heap.size) s.heap H locs → lv_has ls 9 [(0, .ref (ad 48)), (1, .int a0), (2, .int y57), (3, .int x10), (4, .int v17), (6, .int x36)] → W p l e R s m args below meth c H locs 0 0 Q (F0 m 209 ls []) := by
                                        intro σ65 H locs ls hf hP hS hl
                                        rw [eJ66] at hf
                                        refine lv_iconst (v := 0) hx hb dL_areRooms_209 (by decide) ?_
                                        exact hJ61 0 σ65 _ _ ls hf hP hS (lv_sub hl [0, 1, 2, 3, 4, 5] rfl)
                                      refine lv_if_lt (tgt := 209) hx hb dL_areRooms_193 (by decide) (fun q67 => ?_) (fun q67 => ?_)
                                      · rw [if_pos q67] at hf
                                        exact hJ66 σ56 _ _ ls hf hP hS (lv_sub hl [1, 2, 0, 3, 4, 6] rfl)
                                      · rw [if_neg q67] at hf
                                        refine lv_iload hx hb dL_areRooms_196 (lv_at hl 8 rfl) ?_
                                        refine lv_iload hx hb dL_areRooms_198 (lv_at hl 4 rfl) ?_
                                        refine lv_iconst (v := 1) hx hb dL_areRooms_200 (by decide) ?_
                                        refine lv_isub hx hb dL_areRooms_201 ?_
                                        refine lv_icmp_ne (tgt := 209) hx hb dL_areRooms_202 (by decide) (fun q68 => ?_) (fun q68 => ?_)
                                        · rw [if_neg q68] at hf
                                          exact hJ66 σ56 _ _ ls hf hP hS (lv_sub hl [1, 2, 0, 3, 4, 6] rfl)
                                        · rw [if_pos q68] at hf
                                          exact hJ63 σ56 _ _ ls hf hP hS (lv_sub hl [1, 2, 0, 3, 4, 6] rfl)
                                  obtain ⟨J70, eJ70, hf⟩ := jn_e1 hf
                                  have hJ70 : ∀ (σ69 : Mem) (H : Heap) (locs : List Loc) (ls : Array Slot), J70 σ69 = some (r, σr) → va_P D vwCl (wsG 54 ad (EY ad cI cJ) σ69) H → va_S (AG 54 ad s.heap.size) s.heap H locs → lv_has ls 9 [(0, .ref (ad 48)), (1, .int a0), (3, .int x10), (4, .int v17), (5, .int x35), (6, .int x36), (7, .int v51), (8, .int y54)] → W p l e R s m args below meth c H locs 0 0 Q (F0 m 180 ls []) := by
                                    intro σ69 H locs ls hf hP hS hl
                                    rw [eJ70] at hf
                                    refine lv_iconst (v := 1) hx hb dL_areRooms_180 (by decide) ?_
                                    refine lv_goto (tgt := 185) hx hb dL_areRooms_181 (by decide) ?_
                                    exact hJ58 1 σ69 _ _ ls hf hP hS (lv_sub hl [0, 1, 2, 3, 4, 5, 6, 7] rfl)
                                  refine lv_if_lt (tgt := 180) hx hb dL_areRooms_124 (by decide) (fun q71 => ?_) (fun q71 => ?_)
                                  · rw [if_pos q71] at hf
                                    exact hJ70 σ53 _ _ ls hf hP hS (lv_sub hl [1, 2, 3, 4, 5, 6, 7, 0] rfl)
                                  · rw [if_neg q71] at hf
                                    refine lv_iload hx hb dL_areRooms_127 (lv_at hl 7 rfl) ?_
                                    refine lv_iload_n hx hb dL_areRooms_129 rfl (lv_at hl 3 rfl) ?_
                                    obtain ⟨J73, eJ73, hf⟩ := jn_e1 hf
                                    have hJ73 : ∀ (σ72 : Mem) (H : Heap) (locs : List Loc) (ls : Array Slot), J73 σ72 = some (r, σr) → va_P D vwCl (wsG 54 ad (EY ad cI cJ) σ72) H → va_S (AG 54 ad s.heap.size) s.heap H locs → lv_has ls 9 [(0, .ref (ad 48)), (1, .int a0), (3, .int x10), (4, .int v17), (5, .int x35), (6, .int x36), (7, .int v51), (8, .int y54)] → W p l e R s m args below meth c H locs 0 0 Q (F0 m 184 ls []) := by
                                      intro σ72 H locs ls hf hP hS hl
                                      rw [eJ73] at hf
                                      refine lv_iconst (v := 0) hx hb dL_areRooms_184 (by decide) ?_
                                      exact hJ58 0 σ72 _ _ ls hf hP hS (lv_sub hl [0, 1, 2, 3, 4, 5, 6, 7] rfl)
                                    refine lv_icmp_eq (tgt := 184) hx hb dL_areRooms_130 (by decide) (fun q74 => ?_) (fun q74 => ?_)
                                    · rw [if_pos q74] at hf
                                      exact hJ73 σ53 _ _ ls hf hP hS (lv_sub hl [1, 2, 3, 4, 5, 6, 7, 0] rfl)
                                    · rw [if_neg q74] at hf
                                      refine lv_aload_n hx hb dL_areRooms_133 rfl (lv_at hl 1 rfl) ?_
                                      refine lv_iload hx hb dL_areRooms_134 (lv_at hl 7 rfl) ?_
                                      refine lv_iload hx hb dL_areRooms_136 (lv_at hl 6 rfl) ?_
                                      refine lv_iconst (v := 2) hx hb dL_areRooms_138 (by decide) ?_
                                      refine lv_iadd hx hb dL_areRooms_139 ?_
                                      refine lv_iconst (v := 4) hx hb dL_areRooms_140 (by decide) ?_
                                      refine lv_iremJ hx hb dL_areRooms_141 (by decide) ?_
                                      rcases bt_e hf with ⟨v75, hv, hf⟩ | ⟨n76, v75, hn, hv, hf⟩
                                      · refine g_yVi (τ := σ53) ⟨⟨hx, hb, hml, hown, hB⟩, hK, hi, hA, hAd, hP, hS⟩ hZ sub_YX (c_X5_exit hflag (injS (by decide) hi) hv) (fun _ _ => rfl) cal_X5_exit kM_L_108 ⟨Nat.le_trans (Nat.le_of_ble_eq_true rfl) hRf, Nat.le_trans (Nat.le_of_ble_eq_true rfl) hRl⟩ 48 (by decide) rfl rfl rfl rfl hl.1 (Nat.le_of_ble_eq_true rfl) rfl dL_areRooms_142 ⟨by omega, by omega⟩ (fun _ _ => rfl) (fun _ _ _ => rfl) (fun H locs hP hS => ?_)
                                        refine lv_iload_n hx hb dL_areRooms_145 rfl (lv_at hl 3 rfl) ?_
                                        refine lv_icmp_ne (tgt := 184) hx hb dL_areRooms_146 (by decide) (fun q77 => ?_) (fun q77 => ?_)
                                        · rw [if_neg q77] at hf
                                          exact hJ73 σ53 _ _ ls hf hP hS (lv_sub hl [1, 2, 3, 4, 5, 6, 7, 0] rfl)
                                        · rw [if_pos q77] at hf
                                          refine lv_iload hx hb dL_areRooms_149 (lv_at hl 4 rfl) ?_
                                          refine lv_if_ge (tgt := 162) hx hb dL_areRooms_151 (by decide) (fun q78 => ?_) (fun q78 => ?_)
                                          · rw [if_pos q78] at hf
                                            refine lv_iload hx hb dL_areRooms_162 (lv_at hl 0 rfl) ?_
                                            refine lv_iload hx hb dL_areRooms_164 (lv_at hl 4 rfl) ?_
                                            refine lv_iconst (v := 1) hx hb dL_areRooms_166 (by decide) ?_
                                            refine lv_isub hx hb dL_areRooms_167 ?_
                                            refine lv_icmp_lt (tgt := 184) hx hb dL_areRooms_168 (by decide) (fun q79 => ?_) (fun q79 => ?_)
                                            · rw [if_pos q79] at hf
                                              exact hJ73 σ53 _ _ ls hf hP hS (lv_sub hl [1, 2, 3, 4, 5, 6, 7, 0] rfl)
                                            · rw [if_neg q79] at hf
                                              refine lv_iload hx hb dL_areRooms_171 (lv_at hl 0 rfl) ?_
                                              refine lv_iload hx hb dL_areRooms_173 (lv_at hl 4 rfl) ?_
                                              refine lv_iconst (v := 1) hx hb dL_areRooms_175 (by decide) ?_
                                              refine lv_iadd hx hb dL_areRooms_176 ?_
                                              refine lv_icmp_gt (tgt := 184) hx hb dL_areRooms_177 (by decide) (fun q80 => ?_) (fun q80 => ?_)
                                              · rw [if_pos q80] at hf
                                                exact hJ73 σ53 _ _ ls hf hP hS (lv_sub hl [1, 2, 3, 4, 5, 6, 7, 0] rfl)
                                              · rw [if_neg q80] at hf
                                                exact hJ70 σ53 _ _ ls hf hP hS (lv_sub hl [1, 2, 3, 4, 5, 6, 7, 0] rfl)
                                          · rw [if_neg q78] at hf
                                            refine lv_iload hx hb dL_areRooms_154 (lv_at hl 0 rfl) ?_
                                            refine lv_if_ge (tgt := 184) hx hb dL_areRooms_156 (by decide) (fun q81 => ?_) (fun q81 => ?_)
                                            · rw [if_pos q81] at hf
                                              exact hJ73 σ53 _ _ ls hf hP hS (lv_sub hl [1, 2, 3, 4, 5, 6, 7, 0] rfl)
                                            · rw [if_neg q81] at hf
                                              refine lv_goto (tgt := 180) hx hb dL_areRooms_159 (by decide) ?_
                                              exact hJ70 σ53 _ _ ls hf hP hS (lv_sub hl [1, 2, 3, 4, 5, 6, 7, 0] rfl)
                                      · cases hf
                                refine lv_if_ge (tgt := 113) hx hb dL_areRooms_106 (by decide) (fun q82 => ?_) (fun q82 => ?_)
                                · rw [if_pos q82] at hf
                                  refine lv_aload_n hx hb dL_areRooms_113 rfl (lv_at hl 1 rfl) ?_
                                  refine lv_iload_n hx hb dL_areRooms_114 rfl (lv_at hl 2 rfl) ?_
                                  refine lv_iload hx hb dL_areRooms_115 (lv_at hl 0 rfl) ?_
                                  rcases bt3_e hf with ⟨v83, σ84, hv, hf⟩ | ⟨n85, σ84, hn, ⟨_, hv⟩, hf⟩
                                  · refine g_yVi (τ := (mgY σ84 σ37)) ⟨⟨hx, hb, hml, hown, hB⟩, hK, hi, hA, hAd, hP, hS⟩ hZ sub_YX (c_X5_distance hflag (injS (by decide) hi) hv) (fun _ _ => rfl) cal_X5_distance kM_L_105 ⟨Nat.le_trans (Nat.le_of_ble_eq_true rfl) hRf, Nat.le_trans (Nat.le_of_ble_eq_true rfl) hRl⟩ 48 (by decide) rfl rfl rfl rfl hl.1 (Nat.le_of_ble_eq_true rfl) rfl dL_areRooms_117 ⟨by omega, by omega⟩ (mgY_1 _ _) (mgY_2 54 _ _) (fun H locs hP hS => ?_)
                                    obtain ⟨σ86, eσ86, hf⟩ := stp_e hf
                                    rw [← eσ86] at hP
                                    refine lv_istore (lv' := [(8, .int v83), (7, .int v51), (0, .ref (ad 48)), (1, .int a0), (2, .int x32), (3, .int x10), (4, .int v17), (5, .int x35), (6, .int x36)]) hx hb dL_areRooms_120 hl (by decide) rfl (fun ls hl => ?_)
                                    refine lv_iload hx hb dL_areRooms_122 (lv_at hl 1 rfl) ?_
                                    obtain ⟨J89, eJ89, hf⟩ := jn_e2 hf
                                    have hJ89 : ∀ (y88 : Int32) (σ87 : Mem) (H : Heap) (locs : List Loc) (ls : Array Slot), J89 y88 σ87 = some (r, σr) → va_P D vwCl (wsG 54 ad (EY ad cI cJ) σ87) H → va_S (AG 54 ad s.heap.size) s.heap H locs → lv_has ls 9 [(0, .ref (ad 48)), (1, .int a0), (3, .int x10), (4, .int v17), (5, .int x35), (6, .int x36), (7, .int v51), (8, .int v83)] → W p l e R s m args below meth c H locs 0 0 Q (F0 m 185 ls [.int y88]) := by
                                      intro y88 σ87 H locs ls hf hP hS hl
                                      rw [eJ89] at hf
                                      refine lv_istore_n (lv' := [(2, .int y88), (0, .ref (ad 48)), (1, .int a0), (3, .int x10), (4, .int v17), (5, .int x35), (6, .int x36), (7, .int v51), (8, .int v83)]) hx hb dL_areRooms_185 rfl hl (by decide) rfl (fun ls hl => ?_)
                                      refine lv_iload hx hb dL_areRooms_186 (lv_at hl 5 rfl) ?_
                                      obtain ⟨J92, eJ92, hf⟩ := jn_e2 hf
                                      have hJ92 : ∀ (y91 : Int32) (σ90 : Mem) (H : Heap) (locs : List Loc) (ls : Array Slot), J92 y91 σ90 = some (r, σr) → va_P D vwCl (wsG 54 ad (EY ad cI cJ) σ90) H → va_S (AG 54 ad s.heap.size) s.heap H locs → lv_has ls 9 [(0, .ref (ad 48)), (1, .int a0), (2, .int y88), (3, .int x10), (4, .int v17), (6, .int x36)] → W p l e R s m args below meth c H locs 0 0 Q (F0 m 210 ls [.int y91]) := by
                                        intro y91 σ90 H locs ls hf hP hS hl
                                        rw [eJ92] at hf
                                        refine lv_istore (lv' := [(5, .int y91), (0, .ref (ad 48)), (1, .int a0), (2, .int y88), (3, .int x10), (4, .int v17), (6, .int x36)]) hx hb dL_areRooms_210 hl (by decide) rfl (fun ls hl => ?_)
                                        refine lv_iinc (v := (x36 + 1)) (lv' := [(6, .int (x36 + 1)), (5, .int y91), (0, .ref (ad 48)), (1, .int a0), (2, .int y88), (3, .int x10), (4, .int v17)]) hx hb dL_areRooms_212 hl (k := 6) rfl rfl (by decide) rfl (fun ls hl => ?_)
                                        refine lv_goto (tgt := 85) hx hb dL_areRooms_215 (by decide) ?_
                                        exact ih y88 y91 (x36 + 1) σ90 _ _ ls hf hP hS (lv_sub hl [2, 3, 4, 5, 6, 1, 0] rfl)
                                      obtain ⟨J94, eJ94, hf⟩ := jn_e1 hf
                                      have hJ94 : ∀ (σ93 : Mem) (H : Heap) (locs : List Loc) (ls : Array Slot), J94 σ93 = some (r, σr) → va_P D vwCl (wsG 54 ad (EY ad cI cJ) σ93) H → va_S (AG 54 ad s.heap.size) s.heap H locs → lv_has ls 9 [(0, .ref (ad 48)), (1, .int a0), (2, .int y88), (3, .int x10), (4, .int v17), (6, .int x36)] → W p l e R s m args below meth c H locs 0 0 Q (F0 m 205 ls []) := by
                                        intro σ93 H locs ls hf hP hS hl
                                        rw [eJ94] at hf
                                        refine lv_iconst (v := 1) hx hb dL_areRooms_205 (by decide) ?_
                                        refine lv_goto (tgt := 210) hx hb dL_areRooms_206 (by decide) ?_
                                        exact hJ92 1 σ93 _ _ ls hf hP hS (lv_sub hl [0, 1, 2, 3, 4, 5] rfl)
                                      refine lv_if_ne (tgt := 205) hx hb dL_areRooms_188 (by decide) (fun q95 => ?_) (fun q95 => ?_)
                                      · rw [if_neg q95] at hf
                                        exact hJ94 σ87 _ _ ls hf hP hS (lv_sub hl [1, 2, 0, 3, 4, 6] rfl)
                                      · rw [if_pos q95] at hf
                                        refine lv_iload hx hb dL_areRooms_191 (lv_at hl 7 rfl) ?_
                                        obtain ⟨J97, eJ97, hf⟩ := jn_e1 hf
                                        have hJ97 : ∀ (σ96 : Mem) (H : Heap) (locs : List Loc) (ls : Array Slot), J97 σ96 = some (r, σr) → va_P D vwCl (wsG 54 ad (EY ad cI cJ) σ96) H → va_S (AG 54 ad s.heap.size) s.heap H locs → lv_has ls 9 [(0, .ref (ad 48)), (1, .int a0), (2, .int y88), (3, .int x10), (4, .int v17), (6, .int x36)] → W p l e R s m args below meth c H locs 0 0 Q (F0 m 209 ls []) := by
                                          intro σ96 H locs ls hf hP hS hl
                                          rw [eJ97] at hf
                                          refine lv_iconst (v := 0) hx hb dL_areRooms_209 (by decide) ?_
                                          exact hJ92 0 σ96 _ _ ls hf hP hS (lv_sub hl [0, 1, 2, 3, 4, 5] rfl)
                                        refine lv_if_lt (tgt := 209) hx hb dL_areRooms_193 (by decide) (fun q98 => ?_) (fun q98 => ?_)
                                        · rw [if_pos q98] at hf
                                          exact hJ97 σ87 _ _ ls hf hP hS (lv_sub hl [1, 2, 0, 3, 4, 6] rfl)
                                        · rw [if_neg q98] at hf
                                          refine lv_iload hx hb dL_areRooms_196 (lv_at hl 8 rfl) ?_
                                          refine lv_iload hx hb dL_areRooms_198 (lv_at hl 4 rfl) ?_
                                          refine lv_iconst (v := 1) hx hb dL_areRooms_200 (by decide) ?_
                                          refine lv_isub hx hb dL_areRooms_201 ?_
                                          refine lv_icmp_ne (tgt := 209) hx hb dL_areRooms_202 (by decide) (fun q99 => ?_) (fun q99 => ?_)
                                          · rw [if_neg q99] at hf
                                            exact hJ97 σ87 _ _ ls hf hP hS (lv_sub hl [1, 2, 0, 3, 4, 6] rfl)
                                          · rw [if_pos q99] at hf
                                            exact hJ94 σ87 _ _ ls hf hP hS (lv_sub hl [1, 2, 0, 3, 4, 6] rfl)
                                    obtain ⟨J101, eJ101, hf⟩ := jn_e1 hf
                                    have hJ101 : ∀ (σ100 : Mem) (H : Heap) (locs : List Loc) (ls : Array Slot), J101 σ100 = some (r, σr) → va_P D vwCl (wsG 54 ad (EY ad cI cJ) σ100) H → va_S (AG 54 ad s.heap.size) s.heap H locs → lv_has ls 9 [(0, .ref (ad 48)), (1, .int a0), (3, .int x10), (4, .int v17), (5, .int x35), (6, .int x36), (7, .int v51), (8, .int v83)] → W p l e R s m args below meth c H locs 0 0 Q (F0 m 180 ls []) := by
                                      intro σ100 H locs ls hf hP hS hl
                                      rw [eJ101] at hf
                                      refine lv_iconst (v := 1) hx hb dL_areRooms_180 (by decide) ?_
                                      refine lv_goto (tgt := 185) hx hb dL_areRooms_181 (by decide) ?_
                                      exact hJ89 1 σ100 _ _ ls hf hP hS (lv_sub hl [0, 1, 2, 3, 4, 5, 6, 7] rfl)
                                    refine lv_if_lt (tgt := 180) hx hb dL_areRooms_124 (by decide) (fun q102 => ?_) (fun q102 => ?_)
                                    · rw [if_pos q102] at hf
                                      exact hJ101 σ86 _ _ ls hf hP hS (lv_sub hl [2, 3, 5, 6, 7, 8, 1, 0] rfl)
                                    · rw [if_neg q102] at hf
                                      refine lv_iload hx hb dL_areRooms_127 (lv_at hl 1 rfl) ?_
                                      refine lv_iload_n hx hb dL_areRooms_129 rfl (lv_at hl 5 rfl) ?_
                                      obtain ⟨J104, eJ104, hf⟩ := jn_e1 hf
                                      have hJ104 : ∀ (σ103 : Mem) (H : Heap) (locs : List Loc) (ls : Array Slot), J104 σ103 = some (r, σr) → va_P D vwCl (wsG 54 ad (EY ad cI cJ) σ103) H → va_S (AG 54 ad s.heap.size) s.heap H locs → lv_has ls 9 [(0, .ref (ad 48)), (1, .int a0), (3, .int x10), (4, .int v17), (5, .int x35), (6, .int x36), (7, .int v51), (8, .int v83)] → W p l e R s m args below meth c H locs 0 0 Q (F0 m 184 ls []) := by
                                        intro σ103 H locs ls hf hP hS hl
                                        rw [eJ104] at hf
                                        refine lv_iconst (v := 0) hx hb dL_areRooms_184 (by decide) ?_
                                        exact hJ89 0 σ103 _ _ ls hf hP hS (lv_sub hl [0, 1, 2, 3, 4, 5, 6, 7] rfl)
                                      refine lv_icmp_eq (tgt := 184) hx hb dL_areRooms_130 (by decide) (fun q105 => ?_) (fun q105 => ?_)
                                      · rw [if_pos q105] at hf
                                        exact hJ104 σ86 _ _ ls hf hP hS (lv_sub hl [2, 3, 5, 6, 7, 8, 1, 0] rfl)
                                      · rw [if_neg q105] at hf
                                        refine lv_aload_n hx hb dL_areRooms_133 rfl (lv_at hl 2 rfl) ?_
                                        refine lv_iload hx hb dL_areRooms_134 (lv_at hl 1 rfl) ?_
                                        refine lv_iload hx hb dL_areRooms_136 (lv_at hl 8 rfl) ?_
                                        refine lv_iconst (v := 2) hx hb dL_areRooms_138 (by decide) ?_
                                        refine lv_iadd hx hb dL_areRooms_139 ?_
                                        refine lv_iconst (v := 4) hx hb dL_areRooms_140 (by decide) ?_
                                        refine lv_iremJ hx hb dL_areRooms_141 (by decide) ?_
                                        rcases bt_e hf with ⟨v106, hv, hf⟩ | ⟨n107, v106, hn, hv, hf⟩
                                        · refine g_yVi (τ := σ86) ⟨⟨hx, hb, hml, hown, hB⟩, hK, hi, hA, hAd, hP, hS⟩ hZ sub_YX (c_X5_exit hflag (injS (by decide) hi) hv) (fun _ _ => rfl) cal_X5_exit kM_L_108 ⟨Nat.le_trans (Nat.le_of_ble_eq_true rfl) hRf, Nat.le_trans (Nat.le_of_ble_eq_true rfl) hRl⟩ 48 (by decide) rfl rfl rfl rfl hl.1 (Nat.le_of_ble_eq_true rfl) rfl dL_areRooms_142 ⟨by omega, by omega⟩ (fun _ _ => rfl) (fun _ _ _ => rfl) (fun H locs hP hS => ?_)
                                          refine lv_iload_n hx hb dL_areRooms_145 rfl (lv_at hl 5 rfl) ?_
                                          refine lv_icmp_ne (tgt := 184) hx hb dL_areRooms_146 (by decide) (fun q108 => ?_) (fun q108 => ?_)
                                          · rw [if_neg q108] at hf
                                            exact hJ104 σ86 _ _ ls hf hP hS (lv_sub hl [2, 3, 5, 6, 7, 8, 1, 0] rfl)
                                          · rw [if_pos q108] at hf
                                            refine lv_iload hx hb dL_areRooms_149 (lv_at hl 6 rfl) ?_
                                            refine lv_if_ge (tgt := 162) hx hb dL_areRooms_151 (by decide) (fun q109 => ?_) (fun q109 => ?_)
                                            · rw [if_pos q109] at hf
                                              refine lv_iload hx hb dL_areRooms_162 (lv_at hl 0 rfl) ?_
                                              refine lv_iload hx hb dL_areRooms_164 (lv_at hl 6 rfl) ?_
                                              refine lv_iconst (v := 1) hx hb dL_areRooms_166 (by decide) ?_
                                              refine lv_isub hx hb dL_areRooms_167 ?_
                                              refine lv_icmp_lt (tgt := 184) hx hb dL_areRooms_168 (by decide) (fun q110 => ?_) (fun q110 => ?_)
                                              · rw [if_pos q110] at hf
                                                exact hJ104 σ86 _ _ ls hf hP hS (lv_sub hl [2, 3, 5, 6, 7, 8, 1, 0] rfl)
                                              · rw [if_neg q110] at hf
                                                refine lv_iload hx hb dL_areRooms_171 (lv_at hl 0 rfl) ?_
                                                refine lv_iload hx hb dL_areRooms_173 (lv_at hl 6 rfl) ?_
                                                refine lv_iconst (v := 1) hx hb dL_areRooms_175 (by decide) ?_
                                                refine lv_iadd hx hb dL_areRooms_176 ?_
                                                refine lv_icmp_gt (tgt := 184) hx hb dL_areRooms_177 (by decide) (fun q111 => ?_) (fun q111 => ?_)
                                                · rw [if_pos q111] at hf
                                                  exact hJ104 σ86 _ _ ls hf hP hS (lv_sub hl [2, 3, 5, 6, 7, 8, 1, 0] rfl)
                                                · rw [if_neg q111] at hf
                                                  exact hJ101 σ86 _ _ ls hf hP hS (lv_sub hl [2, 3, 5, 6, 7, 8, 1, 0] rfl)
                                            · rw [if_neg q109] at hf
                                              refine lv_iload hx hb dL_areRooms_154 (lv_at hl 0 rfl) ?_
                                              refine lv_if_ge (tgt := 184) hx hb dL_areRooms_156 (by decide) (fun q112 => ?_) (fun q112 => ?_)
                                              · rw [if_pos q112] at hf
                                                exact hJ104 σ86 _ _ ls hf hP hS (lv_sub hl [2, 3, 5, 6, 7, 8, 1, 0] rfl)
                                              · rw [if_neg q112] at hf
                                                refine lv_goto (tgt := 180) hx hb dL_areRooms_159 (by decide) ?_
                                                exact hJ101 σ86 _ _ ls hf hP hS (lv_sub hl [2, 3, 5, 6, 7, 8, 1, 0] rfl)
                                        · cases hf
                                  · cases hf
                                · rw [if_neg q82] at hf
                                  refine lv_iconst (v := (-1)) hx hb dL_areRooms_109 (by decide) ?_
                                  refine lv_goto (tgt := 120) hx hb dL_areRooms_110 (by decide) ?_
                                  exact hJ55 (-1) σ37 _ _ ls hf hP hS (lv_sub hl [1, 2, 4, 5, 6, 7, 0] rfl)
                              · cases hf
                      exact hL_L_areRooms_85 FU y29 y22 0 σ28 _ _ ls hf hP hS (lv_sub hl [2, 3, 1, 4, 5, 6, 0] rfl)
                    obtain ⟨J114, eJ114, hf⟩ := jn_e1 hf
                    have hJ114 : ∀ (σ113 : Mem) (H : Heap) (locs : List Loc) (ls : Array Slot), J114 σ113 = some (r, σr) → va_P D vwCl (wsG 54 ad (EY ad cI cJ) σ113) H → va_S (AG 54 ad s.heap.size) s.heap H locs → lv_has ls 9 [(0, .ref (ad 48)), (1, .int a0), (3, .int x10), (4, .int v17), (5, .int y22)] → W p l e R s m args below meth c H locs 0 0 Q (F0 m 80 ls []) := by
                      intro σ113 H locs ls hf hP hS hl
                      rw [eJ114] at hf
                      refine lv_iconst (v := 0) hx hb dL_areRooms_80 (by decide) ?_
                      exact hJ30 0 σ113 _ _ ls hf hP hS (lv_sub hl [0, 1, 2, 3, 4] rfl)
                    refine lv_icmp_ne (tgt := 80) hx hb dL_areRooms_60 (by decide) (fun q115 => ?_) (fun q115 => ?_)
                    · rw [if_neg q115] at hf
                      exact hJ114 σ27 _ _ ls hf hP hS (lv_sub hl [1, 2, 3, 4, 0] rfl)
                    · rw [if_pos q115] at hf
                      refine lv_iload hx hb dL_areRooms_63 (lv_at hl 4 rfl) ?_
                      refine lv_iconst (v := (-1)) hx hb dL_areRooms_65 (by decide) ?_
                      refine lv_icmp_lt (tgt := 80) hx hb dL_areRooms_66 (by decide) (fun q116 => ?_) (fun q116 => ?_)
                      · rw [if_pos q116] at hf
                        exact hJ114 σ27 _ _ ls hf hP hS (lv_sub hl [1, 2, 3, 4, 0] rfl)
                      · rw [if_neg q116] at hf
                        refine lv_iload hx hb dL_areRooms_69 (lv_at hl 4 rfl) ?_
                        refine lv_bipush (v := 7) hx hb dL_areRooms_71 (by decide) ?_
                        refine lv_icmp_gt (tgt := 80) hx hb dL_areRooms_73 (by decide) (fun q117 => ?_) (fun q117 => ?_)
                        · rw [if_pos q117] at hf
                          exact hJ114 σ27 _ _ ls hf hP hS (lv_sub hl [1, 2, 3, 4, 0] rfl)
                        · rw [if_neg q117] at hf
                          refine lv_iconst (v := 1) hx hb dL_areRooms_76 (by decide) ?_
                          refine lv_goto (tgt := 81) hx hb dL_areRooms_77 (by decide) ?_
                          exact hJ30 1 σ27 _ _ ls hf hP hS (lv_sub hl [1, 2, 3, 4, 0] rfl)
                  · cases hf
                obtain ⟨J119, eJ119, hf⟩ := jn_e1 hf
                have hJ119 : ∀ (σ118 : Mem) (H : Heap) (locs : List Loc) (ls : Array Slot), J119 σ118 = some (r, σr) → va_P D vwCl (wsG 54 ad (EY ad cI cJ) σ118) H → va_S (AG 54 ad s.heap.size) s.heap H locs → lv_has ls 9 [(0, .ref (ad 48)), (1, .int a0), (3, .int x10), (4, .int v17)] → W p l e R s m args below meth c H locs 0 0 Q (F0 m 45 ls []) := by
                  intro σ118 H locs ls hf hP hS hl
                  rw [eJ119] at hf
                  refine lv_iconst (v := 1) hx hb dL_areRooms_45 (by decide) ?_
                  refine lv_goto (tgt := 50) hx hb dL_areRooms_46 (by decide) ?_
                  exact hJ23 1 σ118 _ _ ls hf hP hS (lv_sub hl [0, 1, 2, 3] rfl)
                refine lv_icmp_eq (tgt := 45) hx hb dL_areRooms_37 (by decide) (fun q120 => ?_) (fun q120 => ?_)
                · rw [if_pos q120] at hf
                  exact hJ119 σ20 _ _ ls hf hP hS (lv_sub hl [1, 2, 4, 0] rfl)
                · rw [if_neg q120] at hf
                  refine lv_iload hx hb dL_areRooms_40 (lv_at hl 0 rfl) ?_
                  refine lv_if_ge (tgt := 49) hx hb dL_areRooms_42 (by decide) (fun q121 => ?_) (fun q121 => ?_)
                  · rw [if_pos q121] at hf
                    refine lv_iconst (v := 0) hx hb dL_areRooms_49 (by decide) ?_
                    exact hJ23 0 σ20 _ _ ls hf hP hS (lv_sub hl [1, 2, 4, 0] rfl)
                  · rw [if_neg q121] at hf
                    exact hJ119 σ20 _ _ ls hf hP hS (lv_sub hl [1, 2, 4, 0] rfl)
              · cases hf
      exact hL_L_areRooms_17 FU y6 0 σ5 _ _ ls hf hP hS (lv_sub hl [2, 3, 1, 0] rfl)
    refine lv_if_ne (tgt := 13) hx hb dL_areRooms_6 (by decide) (fun q122 => ?_) (fun q122 => ?_)
    · rw [if_neg q122] at hf
      refine lv_iconst (v := 0) hx hb dL_areRooms_13 (by decide) ?_
      exact hJ7 0 σ4 _ _ ls hf hP hS (lv_sub hl [0, 1] rfl)
    · rw [if_pos q122] at hf
      refine lv_iconst (v := 1) hx hb dL_areRooms_9 (by decide) ?_
      refine lv_goto (tgt := 14) hx hb dL_areRooms_10 (by decide) ?_
      exact hJ7 1 σ4 _ _ ls hf hP hS (lv_sub hl [0, 1] rfl)
  · cases hf
