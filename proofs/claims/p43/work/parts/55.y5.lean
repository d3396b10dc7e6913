/-! three arrays more: ready (54), stage (55), rooms (56) -/
def adZ (ad : Nat → Nat) (q1 q2 q3 : Nat) : Nat → Nat := fun k => if k < 54 then ad k else if k = 54 then q1 else if k = 55 then q2 else q3
def sZ (σ : Mem) : Mem := fun k => if k < 54 then σ k else fun _ => 0
theorem adZ_lo {ad : Nat → Nat} {q1 q2 q3 k : Nat} (h : k < 54) : adZ ad q1 q2 q3 k = ad k := if_pos h
set_option maxRecDepth 100000 in
theorem EX_adZ {ad : Nat → Nat} {q1 q2 q3 : Nat} {cI : ClassId} (k : Nat) (h : k < 51) : EX (adZ ad q1 q2 q3) cI k = EX ad cI k := by
  match k, h with
  | 0, _ => rfl
  | 1, _ => rfl
  | 2, _ => rfl
  | 3, _ => rfl
  | 4, _ => rfl
  | 5, _ => rfl
  | 6, _ => rfl
  | 7, _ => rfl
  | 8, _ => rfl
  | 9, _ => rfl
  | 10, _ => rfl
  | 11, _ => rfl
  | 12, _ => rfl
  | 13, _ => rfl
  | 14, _ => rfl
  | 15, _ => rfl
  | 16, _ => rfl
  | 17, _ => rfl
  | 18, _ => rfl
  | 19, _ => rfl
  | 20, _ => rfl
  | 21, _ => rfl
  | 22, _ => rfl
  | 23, _ => rfl
  | 24, _ => rfl
  | 25, _ => rfl
  | 26, _ => rfl
  | 27, _ => rfl
  | 28, _ => rfl
  | 29, _ => rfl
  | 30, _ => rfl
  | 31, _ => rfl
  | 32, _ => rfl
  | 33, _ => rfl
  | 34, _ => rfl
  | 35, _ => rfl
  | 36, _ => rfl
  | 37, _ => rfl
  | 38, _ => rfl
  | 39, _ => rfl
  | 40, _ => rfl
  | 41, _ => rfl
  | 42, _ => rfl
  | 43, _ => rfl
  | 44, _ => rfl
  | 45, _ => rfl
  | 46, _ => rfl
  | 47, _ => rfl
  | 48, _ => rfl
  | 49, _ => rfl
  | 50, _ => rfl
  | n + 51, h => exact absurd h (by omega)
theorem EY_adZ {ad : Nat → Nat} {q1 q2 q3 : Nat} {cI cJ : ClassId} (k : Nat) (h : k < 54) : EY (adZ ad q1 q2 q3) cI cJ k = EY ad cI cJ k := by
  funext f
  unfold EY
  by_cases q : k < 51
  · rw [if_pos q, if_pos q, EX_adZ k q]
  · rw [if_neg q, if_neg q]
theorem sub_Z0 {ad : Nat → Nat} {q1 q2 q3 : Nat} {cI cJ : ClassId} : subG 57 (adZ ad q1 q2 q3) (EZ (adZ ad q1 q2 q3) cI cJ) 54 ad (EY ad cI cJ) (fun k => k) := fun k h => ⟨by (try dsimp only); omega, (adZ_lo h).symm, ((EZ_y h).trans (EY_adZ k h)).symm⟩
theorem wsZ {ad : Nat → Nat} {q1 q2 q3 : Nat} {cI cJ : ClassId} {σ : Mem} : wsG 57 (adZ ad q1 q2 q3) (EZ (adZ ad q1 q2 q3) cI cJ) (sZ σ) = wsG 54 ad (EY ad cI cJ) σ ++ [(q1, .inl (cI, 4, .inl fun _ => 0))] ++ [(q2, .inl (cI, 12, .inl fun _ => 0))] ++ [(q3, .inl (cI, 4, .inl fun _ => 0))] := by
  unfold wsG
  rw [show (57 : Nat) = 54 + 1 + 1 + 1 from rfl, List.range_succ, List.range_succ, List.range_succ, List.map_append, List.map_append, List.map_append]
  have h : (List.range 54).map (fun k => (adZ ad q1 q2 q3 k, EZ (adZ ad q1 q2 q3) cI cJ k (sZ σ k))) = (List.range 54).map (fun k => (ad k, EY ad cI cJ k (σ k))) := by
    apply List.map_congr_left
    intro k hk
    have hk := List.mem_range.mp hk
    rw [adZ_lo hk, (EZ_y hk).trans (EY_adZ k hk)]
    show (ad k, EY ad cI cJ k (if k < 54 then σ k else fun _ => 0)) = _
    rw [if_pos hk]
  rw [h]
  rfl
def L_L_does_437 : Nat → (Int32 → Mem → Option (Int32 × Mem)) → Int32 → Int32 → Int32 → Int32 → Int32 → Int32 → Int32 → Int32 → Int32 → Int32 → Mem → Option (Int32 × Mem)
  | 0, _, _, _, _, _, _, _, _, _, _, _, _ => none
  | n + 1, k, x203, x204, x205, x206, x207, x208, x209, x211, x210, x212, σ213 =>
    gd 8 13 <|
    if (σ213 51 (8 : Int32).toNatClampNeg) ≤ x212 then (
    k x210 σ213)
    else (
    if x210 = 0 then (
    k x210 σ213)
    else (
    bt (f_X5_stageOf σ213 x211 x212) (fun _ => none) fun v219 =>
    gd ((3 * x211) + x212) 12 <|
    jn (fun (y222 : Int32) (σ221 : Mem) =>
    L_L_does_437 n k x203 x204 x205 x206 x207 x208 x209 x211 y222 (x212 + 1) σ221) fun (J223 : Int32 → Mem → Option (Int32 × Mem)) =>
    jn (fun (σ224 : Mem) =>
    J223 1 σ224) fun (J225 : Mem → Option (Int32 × Mem)) =>
    if (v219 - (σ213 55 ((3 * x211) + x212).toNatClampNeg)) = 0 then (
    J225 σ213)
    else (
    jn (fun (σ227 : Mem) =>
    J223 0 σ227) fun (J228 : Mem → Option (Int32 × Mem)) =>
    if (v219 - (σ213 55 ((3 * x211) + x212).toNatClampNeg)) = 1 then (
    if x208 = 0 then (
    J228 σ213)
    else (
    if x211 = x205 then (
    J225 σ213)
    else (
    J228 σ213)))
    else (
    J228 σ213))))
def L_L_does_252 : Nat → (Int32 → Mem → Option (Int32 × Mem)) → Int32 → Int32 → Int32 → Int32 → Int32 → Int32 → Int32 → Int32 → Int32 → Mem → Option (Int32 × Mem)
  | 0, _, _, _, _, _, _, _, _, _, _, _ => none
  | n + 1, k, x134, x135, x136, x137, x138, x139, x140, x141, x142, σ143 =>
    gd 7 13 <|
    if (σ143 51 (7 : Int32).toNatClampNeg) ≤ x142 then (
    k x141 σ143)
    else (
    if x141 = 0 then (
    k x141 σ143)
    else (
    gd x142 4 <|
    jn (fun (y188 : Int32) (y189 : Int32) (σ187 : Mem) =>
    jn (fun (y192 : Int32) (σ191 : Mem) =>
    gd x136 4 <|
    bt (f_X5_readyAt σ191 x142) (fun _ => none) fun v194 =>
    jn (fun (y197 : Int32) (y198 : Int32) (σ196 : Mem) =>
    jn (fun (y201 : Int32) (σ200 : Mem) =>
    L_L_does_437 FU (fun (x215 : Int32) (σ216 : Mem) =>
    L_L_does_252 n k x134 x135 x136 x137 x138 x139 x140 x215 (x142 + 1) σ216) x134 x135 x136 x137 x138 x139 x140 x142 y201 0 σ200) fun (J202 : Int32 → Mem → Option (Int32 × Mem)) =>
    jn (fun (σ232 : Mem) =>
    J202 0 σ232) fun (J233 : Mem → Option (Int32 × Mem)) =>
    if y197 = y198 then (
    bt (f_X5_roomOf σ196 x142) (fun _ => none) fun v235 =>
    jn (fun (y238 : Int32) (y239 : Int32) (σ237 : Mem) =>
    if y238 = y239 then (
    jn (fun (σ242 : Mem) =>
    J202 1 σ242) fun (J243 : Mem → Option (Int32 × Mem)) =>
    if y192 = 0 then (
    J243 σ237)
    else (
    bt (f_X5_healthOf σ237 x142) (fun _ => none) fun v245 =>
    if v245 = 10 then (
    J243 σ237)
    else (
    J233 σ237)))
    else (
    J233 σ237)) fun (J240 : Int32 → Int32 → Mem → Option (Int32 × Mem)) =>
    if y192 = 0 then (
    jn (fun (y250 : Int32) (σ249 : Mem) =>
    gd x142 4 <|
    if y250 = (σ249 56 x142.toNatClampNeg) then (
    jn (fun (σ253 : Mem) =>
    J202 1 σ253) fun (J254 : Mem → Option (Int32 × Mem)) =>
    if y192 = 0 then (
    J254 σ249)
    else (
    bt (f_X5_healthOf σ249 x142) (fun _ => none) fun v256 =>
    if v256 = 10 then (
    J254 σ249)
    else (
    J233 σ249)))
    else (
    J233 σ249)) fun (J251 : Int32 → Mem → Option (Int32 × Mem)) =>
    if x139 = 0 then (
    J251 v235 σ196)
    else (
    if x134 = 0 then (
    if x142 = x136 then (
    J240 v235 x138 σ196)
    else (
    J251 v235 σ196))
    else (
    J251 v235 σ196)))
    else (
    J240 v235 0 σ196))
    else (
    J233 σ196)) fun (J199 : Int32 → Int32 → Mem → Option (Int32 × Mem)) =>
    if y192 = 0 then (
    J199 v194 (y188 + y189) σ191)
    else (
    gd x142 4 <|
    if (σ191 54 x142.toNatClampNeg) ≤ ((σ191 54 x136.toNatClampNeg) + 10) then (
    J199 v194 ((σ191 54 x136.toNatClampNeg) + 10) σ191)
    else (
    gd x142 4 <|
    J199 v194 (σ191 54 x142.toNatClampNeg) σ191))) fun (J193 : Int32 → Mem → Option (Int32 × Mem)) =>
    jn (fun (σ264 : Mem) =>
    J193 0 σ264) fun (J265 : Mem → Option (Int32 × Mem)) =>
    if x139 = 0 then (
    J265 σ187)
    else (
    if x134 = 9 then (
    if x138 = x142 then (
    J193 1 σ187)
    else (
    J265 σ187))
    else (
    J265 σ187))) fun (J190 : Int32 → Int32 → Mem → Option (Int32 × Mem)) =>
    jn (fun (y270 : Int32) (σ269 : Mem) =>
    J190 y270 0 σ269) fun (J271 : Int32 → Mem → Option (Int32 × Mem)) =>
    if x139 = 0 then (
    J271 (σ143 54 x142.toNatClampNeg) σ143)
    else (
    if x142 = x136 then (
    J190 (σ143 54 x142.toNatClampNeg) x140 σ143)
    else (
    J271 (σ143 54 x142.toNatClampNeg) σ143))))
def L_L_does_60 : Nat → (Mem → Option (Int32 × Mem)) → Int32 → Int32 → Int32 → Int32 → Int32 → Int32 → Mem → Option (Int32 × Mem)
  | 0, _, _, _, _, _, _, _, _ => none
  | n + 1, k, x301, x302, x303, x304, x305, x306, σ307 =>
    gd 8 13 <|
    if (σ307 51 (8 : Int32).toNatClampNeg) ≤ x306 then (
    k σ307)
    else (
    bt (f_X5_stageOf σ307 x305 x306) (fun _ => none) fun v311 =>
    gd ((3 * x305) + x306) 12 <| stp (mu σ307 55 ((3 * x305) + x306).toNatClampNeg v311) fun σ313 =>
    L_L_does_60 n k x301 x302 x303 x304 x305 (x306 + 1) σ313)
def L_L_does_25 : Nat → (Mem → Option (Int32 × Mem)) → Int32 → Int32 → Int32 → Int32 → Int32 → Mem → Option (Int32 × Mem)
  | 0, _, _, _, _, _, _, _ => none
  | n + 1, k, x101, x102, x103, x104, x105, σ106 =>
    gd 7 13 <|
    if (σ106 51 (7 : Int32).toNatClampNeg) ≤ x105 then (
    k σ106)
    else (
    bt (f_X5_readyAt σ106 x105) (fun _ => none) fun v295 =>
    gd x105 4 <| stp (mu σ106 54 x105.toNatClampNeg v295) fun σ297 =>
    bt (f_X5_roomOf σ297 x105) (fun _ => none) fun v298 =>
    gd x105 4 <| stp (mu σ297 56 x105.toNatClampNeg v298) fun σ300 =>
    L_L_does_60 FU (fun (σ309 : Mem) =>
    L_L_does_25 n k x101 x102 x103 x104 (x105 + 1) σ309) x101 x102 x103 x104 x105 0 σ300)
def f_L_does (σ : Mem) (a0 a1 a2 : Int32) : Option (Int32 × Mem) :=
bd (f_X5_turn σ) fun v0 =>
stp (sZ σ) fun σ1 =>
L_L_does_25 FU (fun (σ108 : Mem) =>
jn (fun (y110 : Int32) (σ109 : Mem) =>
jn (fun (y113 : Int32) (y114 : Int32) (σ112 : Mem) =>
bd2 (f_L_acts σ112 y113 y114 y110) fun v116 σ117 =>
stp (mgZ σ117 σ112) fun σ118 =>
jn (fun (y120 : Int32) (σ119 : Mem) =>
gd 6 13 <|
jn (fun (y123 : Int32) (y124 : Int32) (y125 : Int32) (σ122 : Mem) =>
gd y123 13 <| stp (mu σ122 51 y123.toNatClampNeg (y124 + y125)) fun σ127 =>
jn (fun (y129 : Int32) (σ128 : Mem) =>
jn (fun (y132 : Int32) (σ131 : Mem) =>
L_L_does_252 FU (fun (x145 : Int32) (σ146 : Mem) =>
if y120 = 0 then (
gz x145 <| some (x145, σ146))
else (
if x145 = 0 then (
gz x145 <| some (x145, σ146))
else (
jn (fun (σ149 : Mem) =>
jn (fun (y152 : Int32) (y153 : Int32) (y154 : Int32) (y155 : Int32) (σ151 : Mem) =>
bd2 (f_L_areHearers σ151 y152 y153 y154 y155) fun v157 σ158 =>
stp (mgZ σ158 σ151) fun σ159 =>
gz v157 <| some (v157, σ159)) fun (J156 : Int32 → Int32 → Int32 → Int32 → Mem → Option (Int32 × Mem)) =>
if a0 = 2 then (
J156 v0 y110 v116 1 σ149)
else (
J156 v0 y110 v116 0 σ149)) fun (J150 : Mem → Option (Int32 × Mem)) =>
if a0 = 1 then (
J150 σ146)
else (
if a0 = 2 then (
J150 σ146)
else (
jn (fun (σ163 : Mem) =>
bt (f_X5_goodsOf σ163 v0 (jrem a1 5)) (fun _ => none) fun v165 =>
if v165 = v116 then (
some (1, σ163))
else (
some (0, σ163))) fun (J164 : Mem → Option (Int32 × Mem)) =>
if a0 = 3 then (
J164 σ146)
else (
if a0 = 4 then (
J164 σ146)
else (
if a0 = 5 then (
J164 σ146)
else (
if a0 = 0 then (
bt (f_X5_roomOf σ146 v0) (fun _ => none) fun v182 =>
if v182 = v116 then (
some (1, σ146))
else (
some (0, σ146)))
else (
if a0 = 10 then (
bt (f_X5_healthOf σ146 v0) (fun _ => none) fun v179 =>
if v179 = v116 then (
some (1, σ146))
else (
some (0, σ146)))
else (
jn (fun (σ173 : Mem) =>
some (1, σ173)) fun (J174 : Mem → Option (Int32 × Mem)) =>
if 8 < a0 then (
J174 σ146)
else (
bt (f_X5_coinsOf σ146 v0) (fun _ => none) fun v176 =>
if v176 = v116 then (
J174 σ146)
else (
some (0, σ146))))))))))))) a0 a1 v0 y110 v116 y120 y129 y132 0 σ131) fun (J133 : Int32 → Mem → Option (Int32 × Mem)) =>
jn (fun (σ274 : Mem) =>
J133 1 σ274) fun (J275 : Mem → Option (Int32 × Mem)) =>
if y120 = 0 then (
bd (f_X5_calls σ128) fun v277 =>
gd 6 13 <|
if v277 = (σ128 51 (6 : Int32).toNatClampNeg) then (
J275 σ128)
else (
J133 0 σ128))
else (
J275 σ128)) fun (J130 : Int32 → Mem → Option (Int32 × Mem)) =>
jn (fun (σ279 : Mem) =>
J130 2 σ279) fun (J280 : Mem → Option (Int32 × Mem)) =>
if a0 = 0 then (
J280 σ127)
else (
if a0 = 10 then (
J280 σ127)
else (
if a0 = 9 then (
J130 3 σ127)
else (
J130 1 σ127)))) fun (J126 : Int32 → Int32 → Int32 → Mem → Option (Int32 × Mem)) =>
if y120 = 0 then (
J126 6 (σ119 51 (6 : Int32).toNatClampNeg) 0 σ119)
else (
J126 6 (σ119 51 (6 : Int32).toNatClampNeg) 1 σ119)) fun (J121 : Int32 → Mem → Option (Int32 × Mem)) =>
if v116 ≤ (-7) then (
J121 0 σ118)
else (
J121 1 σ118)) fun (J115 : Int32 → Int32 → Mem → Option (Int32 × Mem)) =>
jn (fun (y287 : Int32) (σ286 : Mem) =>
J115 y287 (jrem a1 4) σ286) fun (J288 : Int32 → Mem → Option (Int32 × Mem)) =>
if a0 = 0 then (
J288 a0 σ109)
else (
if a0 = 6 then (
J288 a0 σ109)
else (
if a0 = 9 then (
J288 a0 σ109)
else (
J115 a0 (jrem a1 5) σ109)))) fun (J111 : Int32 → Mem → Option (Int32 × Mem)) =>
if a0 = 6 then (
J111 (1 + (jrem a2 40)) σ108)
else (
if a0 = 5 then (
J111 (jrem a2 4) σ108)
else (
J111 (jrem a2 30) σ108))) a0 a1 a2 v0 0 σ1
set_option maxHeartbeats 16000000 in
set_option maxRecDepth 100000 in
theorem c_L_does {l : Launch} {D : va_G} {cI cJ : ClassId} {adz : Nat → Nat} {σ σr : Mem} {a0 a1 a2 r : Int32} (hflag : l.stackTraces = false) (hi : injG 54 adz) (hf : f_L_does σ a0 a1 a2 = some (r, σr)) : MGY l yL_does (Cond.code yL_does cL_does 20 (some .boolean)) 11 207 16 D cI cJ 54 adz (EY adz cI cJ) [.ref (adz 48), .int a0, .int a1, .int a2, .ref (adz 51)] σ (fun sz => Qgi D 54 adz (EY adz cI cJ) r σr sz) := by
  refine MGY.ofW (by decide) ?_
  intro p e s m args below meth c hx hb hr hml hlocks hown hB hK hZ hN hP hA hAd hS
  have hown : s.vm.findClass RL = some m.cls := hown
  have hl := lv_entry ([.ref (adz 48), .int a0, .int a1, .int a2, .ref (adz 51)] : List Value) (n := 20) (Nat.le_of_ble_eq_true rfl)
  rw [lg_entry_eq]
  generalize (lg_sl ([.ref (adz 48), .int a0, .int a1, .int a2, .ref (adz 51)] : List Value) ++ List.replicate (20 - (lg_sl ([.ref (adz 48), .int a0, .int a1, .int a2, .ref (adz 51)] : List Value)).length) Slot.unset).toArray = ls at hl ⊢
  have hl : lv_has ls 20 [(0, .ref (adz 48)), (1, .int a0), (2, .int a1), (3, .int a2), (4, .ref (adz 51))] := hl
  generalize hQ : MQ below (Qgi D 54 adz (EY adz cI cJ) r σr s.heap.size) _ s 16 (6 * 16) (AG 54 adz s.heap.size) = Q
  have hQ := hQ.symm
  obtain ⟨R, hR, hRf, hRl, hRc, hRs⟩ : ∃ R : Room, R = ({ frames := 11, cells := 16, slots := 6 * 16, locals := 207 } : Room) ∧ 11 ≤ R.frames ∧ 207 ≤ R.locals ∧ 16 ≤ R.cells ∧ 6 * 16 ≤ R.slots := ⟨_, rfl, Nat.le_refl _, Nat.le_refl _, Nat.le_refl _, Nat.le_refl _⟩
  rw [← hR]
  unfold f_L_does at hf
  obtain ⟨v0, hv, hf⟩ := bd_e hf
  obtain ⟨σ1, eσ1, hf⟩ := stp_e hf
  refine lv_aload_n hx hb dL_does_0 rfl (lv_at hl 0 rfl) ?_
  refine g_cVi (τ := σ) ⟨⟨hx, hb, hml, hown, hB⟩, hK, hi, hA, hAd, hP, hS⟩ sub_YX (c_X5_turn (injS (by decide) hi) hv) (fun _ _ => rfl) cal_X5_turn kM_L_99 ⟨Nat.le_trans (Nat.le_of_ble_eq_true rfl) hRf, Nat.le_trans (Nat.le_of_ble_eq_true rfl) hRl⟩ 48 (by decide) rfl rfl rfl rfl hl.1 (Nat.le_of_ble_eq_true rfl) rfl dL_does_1 ⟨by omega, by omega⟩ (fun _ _ => rfl) (fun _ _ _ => rfl) (fun H locs hP hS => ?_)
  refine lv_istore (lv' := [(5, .int v0), (0, .ref (adz 48)), (1, .int a0), (2, .int a1), (3, .int a2), (4, .ref (adz 51))]) hx hb dL_does_4 hl (by decide) rfl (fun ls hl => ?_)
  have hD := wsG_D (E := EY adz cI cJ) (σ := σ) hi hAd
  refine lv_iconst (v := 4) hx hb dL_does_6 (by decide) ?_
  refine va_newa (atype := .int) (a0 := (4, .inl fun _ => 0)) hx hb (hB _ k_arr) rfl hK.1 hP hD hS hA (fun cA => rfl) (by decide) (by decide) (by decide) (by omega) (by show _ + 4 ≤ _; omega) dL_does_7 (fun q1 cA H hK1 hP hD hS => ?_)
  rw [arr_same hK1 rfl] at hP hD
  clear hK1
  refine W.widen (k := 1) (n := 4) (by omega) (by omega) ?_
  refine lv_astore (lv' := [(6, .ref q1), (5, .int v0), (0, .ref (adz 48)), (1, .int a0), (2, .int a1), (3, .int a2), (4, .ref (adz 51))]) hx hb dL_does_9 hl (by decide) rfl (fun ls hl => ?_)
  refine lv_bipush (v := 12) hx hb dL_does_11 (by decide) ?_
  refine va_newa (atype := .int) (a0 := (12, .inl fun _ => 0)) hx hb (hB _ k_arr) rfl hK.1 hP hD hS hA (fun cA => rfl) (by decide) (by decide) (by decide) (by omega) (by show _ + 12 ≤ _; omega) dL_does_13 (fun q2 cA H hK1 hP hD hS => ?_)
  rw [arr_same hK1 rfl] at hP hD
  clear hK1
  refine W.widen (k := 2) (n := 16) (by omega) (by omega) ?_
  refine lv_astore (lv' := [(7, .ref q2), (6, .ref q1), (5, .int v0), (0, .ref (adz 48)), (1, .int a0), (2, .int a1), (3, .int a2), (4, .ref (adz 51))]) hx hb dL_does_15 hl (by decide) rfl (fun ls hl => ?_)
  refine lv_iconst (v := 4) hx hb dL_does_17 (by decide) ?_
  refine va_newa (atype := .int) (a0 := (4, .inl fun _ => 0)) hx hb (hB _ k_arr) rfl hK.1 hP hD hS hA (fun cA => rfl) (by decide) (by decide) (by decide) (by omega) (by show _ + 4 ≤ _; omega) dL_does_18 (fun q3 cA H hK1 hP hD hS => ?_)
  rw [arr_same hK1 rfl] at hP hD
  clear hK1
  refine W.widen (k := 3) (n := 20) (by omega) (by omega) ?_
  refine lv_astore (lv' := [(8, .ref q3), (7, .ref q2), (6, .ref q1), (5, .int v0), (0, .ref (adz 48)), (1, .int a0), (2, .int a1), (3, .int a2), (4, .ref (adz 51))]) hx hb dL_does_20 hl (by decide) rfl (fun ls hl => ?_)
  rw [← wsZ, ← eσ1] at hP hD
  obtain ⟨hi, hAd⟩ := wsG_inj hD
  obtain ⟨ad, had⟩ : ∃ ad : Nat → Nat, ad = adZ adz q1 q2 q3 := ⟨_, rfl⟩
  have hZsub : subG 57 ad (EZ ad cI cJ) 54 adz (EY adz cI cJ) (fun k => k) := by rw [had]; exact sub_Z0
  rw [← had] at hP hi hAd
  have hl : lv_has ls 20 [(8, .ref (ad 56)), (7, .ref (ad 55)), (6, .ref (ad 54)), (5, .int v0), (0, .ref (ad 48)), (1, .int a0), (2, .int a1), (3, .int a2), (4, .ref (ad 51))] := by rw [had]; exact hl
  clear hD
  refine lv_iconst (v := 0) hx hb dL_does_22 (by decide) ?_
  refine lv_istore (lv' := [(9, .int 0), (8, .ref (ad 56)), (7, .ref (ad 55)), (6, .ref (ad 54)), (5, .int v0), (0, .ref (ad 48)), (1, .int a0), (2, .int a1), (3, .int a2), (4, .ref (ad 51))]) hx hb dL_does_23 hl (by decide) rfl (fun ls hl => ?_)
  obtain ⟨K107, eK107, hf⟩ := lp_e1 (b := fun K => L_L_does_25 FU K a0 a1 a2 v0 0 σ1) hf
  replace hf : L_L_does_25 FU K107 a0 a1 a2 v0 0 σ1 = some (r, σr) := hf
  have hKK107 : ∀ (σ108 : Mem) (H : Heap) (locs : List Loc) (ls : Array Slot), K107 σ108 = some (r, σr) → va_P D vwCl (wsG 57 ad (EZ ad cI cJ) σ108) H → va_S (AG 54 adz s.heap.size) s.heap H locs → lv_has ls 20 [(0, .ref (ad 48)), (1, .int a0), (2, .int a1), (3, .int a2), (4, .ref (ad 51)), (5, .int v0), (6, .ref (ad 54)), (7, .ref (ad 55)), (8, .ref (ad 56))] → W p l e R s m args below meth c H locs 3 20 Q (F0 m 100 ls []) := by
    intro σ108 H locs ls hf hP hS hl
    rw [eK107] at hf
    refine lv_iload_n hx hb dL_does_100 rfl (lv_at hl 1 rfl) ?_
    refine lv_bipush (v := 6) hx hb dL_does_101 (by decide) ?_
    obtain ⟨J111, eJ111, hf⟩ := jn_e2 hf
    have hJ111 : ∀ (y110 : Int32) (σ109 : Mem) (H : Heap) (locs : List Loc) (ls : Array Slot), J111 y110 σ109 = some (r, σr) → va_P D vwCl (wsG 57 ad (EZ ad cI cJ) σ109) H → va_S (AG 54 adz s.heap.size) s.heap H locs → lv_has ls 20 [(0, .ref (ad 48)), (1, .int a0), (2, .int a1), (4, .ref (ad 51)), (5, .int v0), (6, .ref (ad 54)), (7, .ref (ad 55)), (8, .ref (ad 56))] → W p l e R s m args below meth c H locs 3 20 Q (F0 m 130 ls [.int y110]) := by
      intro y110 σ109 H locs ls hf hP hS hl
      rw [eJ111] at hf
      refine lv_istore (lv' := [(9, .int y110), (0, .ref (ad 48)), (1, .int a0), (2, .int a1), (4, .ref (ad 51)), (5, .int v0), (6, .ref (ad 54)), (7, .ref (ad 55)), (8, .ref (ad 56))]) hx hb dL_does_130 hl (by decide) rfl (fun ls hl => ?_)
      refine lv_aload_n hx hb dL_does_132 rfl (lv_at hl 1 rfl) ?_
      refine lv_iload_n hx hb dL_does_133 rfl (lv_at hl 2 rfl) ?_
      refine lv_iload_n hx hb dL_does_134 rfl (lv_at hl 2 rfl) ?_
      obtain ⟨J115, eJ115, hf⟩ := jn_e3 hf
      have hJ115 : ∀ (y113 : Int32) (y114 : Int32) (σ112 : Mem) (H : Heap) (locs : List Loc) (ls : Array Slot), J115 y113 y114 σ112 = some (r, σr) → va_P D vwCl (wsG 57 ad (EZ ad cI cJ) σ112) H → va_S (AG 54 adz s.heap.size) s.heap H locs → lv_has ls 20 [(0, .ref (ad 48)), (1, .int a0), (2, .int a1), (4, .ref (ad 51)), (5, .int v0), (6, .ref (ad 54)), (7, .ref (ad 55)), (8, .ref (ad 56)), (9, .int y110)] → W p l e R s m args below meth c H locs 3 20 Q (F0 m 159 ls [.int y114, .int y113, .ref (ad 48)]) := by
        intro y113 y114 σ112 H locs ls hf hP hS hl
        rw [eJ115] at hf
        refine lv_iload hx hb dL_does_159 (lv_at hl 8 rfl) ?_
        obtain ⟨v116, σ117, hv, hf⟩ := bd2_e hf
        refine g_ti (τ := (mgZ σ117 σ112)) ⟨⟨hx, hb, hml, hown, hB⟩, hK, hi, hA, hAd, hP, hS⟩ hZ hN sub_ZY (c_L_acts hflag (injS (by decide) hi) hv) (fun _ _ => rfl) cal_L_acts kM_L_156 ⟨Nat.le_trans (Nat.le_of_ble_eq_true rfl) hRf, Nat.le_trans (Nat.le_of_ble_eq_true rfl) hRl⟩ rfl hl.1 (Nat.le_of_ble_eq_true rfl) rfl dL_does_161 ⟨by omega, by omega⟩ (mgZ_1 _ _) (mgZ_2 57 _ _) (fun H locs hP hS => ?_)
        obtain ⟨σ118, eσ118, hf⟩ := stp_e hf
        rw [← eσ118] at hP
        refine lv_istore (lv' := [(10, .int v116), (0, .ref (ad 48)), (1, .int a0), (2, .int a1), (4, .ref (ad 51)), (5, .int v0), (6, .ref (ad 54)), (7, .ref (ad 55)), (8, .ref (ad 56)), (9, .int y110)]) hx hb dL_does_164 hl (by decide) rfl (fun ls hl => ?_)
        refine lv_iload hx hb dL_does_166 (lv_at hl 0 rfl) ?_
        refine lv_bipush (v := (-7)) hx hb dL_does_168 (by decide) ?_
        obtain ⟨J121, eJ121, hf⟩ := jn_e2 hf
        have hJ121 : ∀ (y120 : Int32) (σ119 : Mem) (H : Heap) (locs : List Loc) (ls : Array Slot), J121 y120 σ119 = some (r, σr) → va_P D vwCl (wsG 57 ad (EZ ad cI cJ) σ119) H → va_S (AG 54 adz s.heap.size) s.heap H locs → lv_has ls 20 [(0, .ref (ad 48)), (1, .int a0), (2, .int a1), (4, .ref (ad 51)), (5, .int v0), (6, .ref (ad 54)), (7, .ref (ad 55)), (8, .ref (ad 56)), (9, .int y110), (10, .int v116)] → W p l e R s m args below meth c H locs (3 + 1) (20 + 6 * 1) Q (F0 m 178 ls [.int y120]) := by
          intro y120 σ119 H locs ls hf hP hS hl
          rw [eJ121] at hf
          refine lv_istore (lv' := [(11, .int y120), (0, .ref (ad 48)), (1, .int a0), (2, .int a1), (4, .ref (ad 51)), (5, .int v0), (6, .ref (ad 54)), (7, .ref (ad 55)), (8, .ref (ad 56)), (9, .int y110), (10, .int v116)]) hx hb dL_does_178 hl (by decide) rfl (fun ls hl => ?_)
          refine lv_aload hx hb dL_does_180 (lv_at hl 4 rfl) ?_
          refine lv_bipush (v := 6) hx hb dL_does_182 (by decide) ?_
          refine lv_dup2_11 hx hb dL_does_184 rfl rfl ?_
          obtain ⟨hin, hf⟩ := gd_e hf
          refine g_iald hx hb hK hP 51 13 (by decide) (EZ_51 _) hin dL_does_185 ?_
          refine lv_iload hx hb dL_does_186 (lv_at hl 0 rfl) ?_
          obtain ⟨J126, eJ126, hf⟩ := jn_e4 hf
          have hJ126 : ∀ (y123 : Int32) (y124 : Int32) (y125 : Int32) (σ122 : Mem) (H : Heap) (locs : List Loc) (ls : Array Slot), J126 y123 y124 y125 σ122 = some (r, σr) → va_P D vwCl (wsG 57 ad (EZ ad cI cJ) σ122) H → va_S (AG 54 adz s.heap.size) s.heap H locs → lv_has ls 20 [(0, .ref (ad 48)), (1, .int a0), (2, .int a1), (4, .ref (ad 51)), (5, .int v0), (6, .ref (ad 54)), (7, .ref (ad 55)), (8, .ref (ad 56)), (9, .int y110), (10, .int v116), (11, .int y120)] → W p l e R s m args below meth c H locs (3 + 1) (20 + 6 * 1) Q (F0 m 196 ls [.int y125, .int y124, .int y123, .ref (ad 51)]) := by
            intro y123 y124 y125 σ122 H locs ls hf hP hS hl
            rw [eJ126] at hf
            refine lv_iadd hx hb dL_does_196 ?_
            obtain ⟨hin, hf⟩ := gd_e hf
            obtain ⟨σ127, eσ127, hf⟩ := stp_e hf
            refine g_iast (σ1 := σ127) hx hb hK hP hi hAd hS 51 13 (by decide) EZ_51 hin dL_does_197 eσ127 (fun H locs hP hS => ?_)
            refine lv_iload_n hx hb dL_does_198 rfl (lv_at hl 1 rfl) ?_
            obtain ⟨J130, eJ130, hf⟩ := jn_e2 hf
            have hJ130 : ∀ (y129 : Int32) (σ128 : Mem) (H : Heap) (locs : List Loc) (ls : Array Slot), J130 y129 σ128 = some (r, σr) → va_P D vwCl (wsG 57 ad (EZ ad cI cJ) σ128) H → va_S (AG 54 adz s.heap.size) s.heap H locs → lv_has ls 20 [(0, .ref (ad 48)), (1, .int a0), (2, .int a1), (4, .ref (ad 51)), (5, .int v0), (6, .ref (ad 54)), (7, .ref (ad 55)), (8, .ref (ad 56)), (9, .int y110), (10, .int v116), (11, .int y120)] → W p l e R s m args below meth c H locs (3 + 1) (20 + 6 * 1) Q (F0 m 223 ls [.int y129]) := by
              intro y129 σ128 H locs ls hf hP hS hl
              rw [eJ130] at hf
              refine lv_istore (lv' := [(12, .int y129), (0, .ref (ad 48)), (1, .int a0), (2, .int a1), (4, .ref (ad 51)), (5, .int v0), (6, .ref (ad 54)), (7, .ref (ad 55)), (8, .ref (ad 56)), (9, .int y110), (10, .int v116), (11, .int y120)]) hx hb dL_does_223 hl (by decide) rfl (fun ls hl => ?_)
              refine lv_iload hx hb dL_does_225 (lv_at hl 11 rfl) ?_
              obtain ⟨J133, eJ133, hf⟩ := jn_e2 hf
              have hJ133 : ∀ (y132 : Int32) (σ131 : Mem) (H : Heap) (locs : List Loc) (ls : Array Slot), J133 y132 σ131 = some (r, σr) → va_P D vwCl (wsG 57 ad (EZ ad cI cJ) σ131) H → va_S (AG 54 adz s.heap.size) s.heap H locs → lv_has ls 20 [(0, .ref (ad 48)), (1, .int a0), (2, .int a1), (4, .ref (ad 51)), (5, .int v0), (6, .ref (ad 54)), (7, .ref (ad 55)), (8, .ref (ad 56)), (9, .int y110), (10, .int v116), (11, .int y120), (12, .int y129)] → W p l e R s m args below meth c H locs (3 + 1) (20 + 6 * 1) Q (F0 m 247 ls [.int y132]) := by
                intro y132 σ131 H locs ls hf hP hS hl
                rw [eJ133] at hf
                refine lv_istore (lv' := [(13, .int y132), (0, .ref (ad 48)), (1, .int a0), (2, .int a1), (4, .ref (ad 51)), (5, .int v0), (6, .ref (ad 54)), (7, .ref (ad 55)), (8, .ref (ad 56)), (9, .int y110), (10, .int v116), (11, .int y120), (12, .int y129)]) hx hb dL_does_247 hl (by decide) rfl (fun ls hl => ?_)
                refine lv_iconst (v := 0) hx hb dL_does_249 (by decide) ?_
                refine lv_istore (lv' := [(14, .int 0), (13, .int y132), (0, .ref (ad 48)), (1, .int a0), (2, .int a1), (4, .ref (ad 51)), (5, .int v0), (6, .ref (ad 54)), (7, .ref (ad 55)), (8, .ref (ad 56)), (9, .int y110), (10, .int v116), (11, .int y120), (12, .int y129)]) hx hb dL_does_250 hl (by decide) rfl (fun ls hl => ?_)
                obtain ⟨K144, eK144, hf⟩ := lp_e2 (b := fun K => L_L_does_252 FU K a0 a1 v0 y110 v116 y120 y129 y132 0 σ131) hf
                replace hf : L_L_does_252 FU K144 a0 a1 v0 y110 v116 y120 y129 y132 0 σ131 = some (r, σr) := hf
                have hKK144 : ∀ (x145 : Int32) (σ146 : Mem) (H : Heap) (locs : List Loc) (ls : Array Slot), K144 x145 σ146 = some (r, σr) → va_P D vwCl (wsG 57 ad (EZ ad cI cJ) σ146) H → va_S (AG 54 adz s.heap.size) s.heap H locs → lv_has ls 20 [(0, .ref (ad 48)), (1, .int a0), (2, .int a1), (4, .ref (ad 51)), (5, .int v0), (9, .int y110), (10, .int v116), (11, .int y120), (13, .int x145)] → W p l e R s m args below meth c H locs (3 + 1) (20 + 6 * 1) Q (F0 m 515 ls []) := by
                  intro x145 σ146 H locs ls hf hP hS hl
                  rw [eK144] at hf
                  refine lv_iload hx hb dL_does_515 (lv_at hl 7 rfl) ?_
                  refine lv_if_eq (tgt := 525) hx hb dL_does_517 (by decide) (fun q147 => ?_) (fun q147 => ?_)
                  · rw [if_pos q147] at hf
                    refine lv_iload hx hb dL_does_525 (lv_at hl 8 rfl) ?_
                    obtain ⟨hz, hf⟩ := gz_e hf
                    obtain ⟨h1, h2⟩ := rt2 hf
                    refine W.widen (k := 16) (n := 6 * 16) (by omega) (by omega) ?_
                    rw [hQ]
                    exact g_zzret hx hb hr hlocks hZsub hP hS hz h1 (fun k _ => congrFun h2 k) dL_does_527
                  · rw [if_neg q147] at hf
                    refine lv_iload hx hb dL_does_520 (lv_at hl 8 rfl) ?_
                    refine lv_if_ne (tgt := 528) hx hb dL_does_522 (by decide) (fun q148 => ?_) (fun q148 => ?_)
                    · rw [if_neg q148] at hf
                      refine lv_iload_n hx hb dL_does_528 rfl (lv_at hl 1 rfl) ?_
                      refine lv_iconst (v := 1) hx hb dL_does_529 (by decide) ?_
                      obtain ⟨J150, eJ150, hf⟩ := jn_e1 hf
                      have hJ150 : ∀ (σ149 : Mem) (H : Heap) (locs : List Loc) (ls : Array Slot), J150 σ149 = some (r, σr) → va_P D vwCl (wsG 57 ad (EZ ad cI cJ) σ149) H → va_S (AG 54 adz s.heap.size) s.heap H locs → lv_has ls 20 [(0, .ref (ad 48)), (1, .int a0), (4, .ref (ad 51)), (5, .int v0), (9, .int y110), (10, .int v116)] → W p l e R s m args below meth c H locs (3 + 1) (20 + 6 * 1) Q (F0 m 538 ls []) := by
                        intro σ149 H locs ls hf hP hS hl
                        rw [eJ150] at hf
                        refine lv_aload_n hx hb dL_does_538 rfl (lv_at hl 0 rfl) ?_
                        refine lv_aload hx hb dL_does_539 (lv_at hl 2 rfl) ?_
                        refine lv_iload hx hb dL_does_541 (lv_at hl 3 rfl) ?_
                        refine lv_iload hx hb dL_does_543 (lv_at hl 4 rfl) ?_
                        refine lv_iload hx hb dL_does_545 (lv_at hl 5 rfl) ?_
                        refine lv_iload_n hx hb dL_does_547 rfl (lv_at hl 1 rfl) ?_
                        refine lv_iconst (v := 2) hx hb dL_does_548 (by decide) ?_
                        obtain ⟨J156, eJ156, hf⟩ := jn_e5 hf
                        have hJ156 : ∀ (y152 : Int32) (y153 : Int32) (y154 : Int32) (y155 : Int32) (σ151 : Mem) (H : Heap) (locs : List Loc) (ls : Array Slot), J156 y152 y153 y154 y155 σ151 = some (r, σr) → va_P D vwCl (wsG 57 ad (EZ ad cI cJ) σ151) H → va_S (AG 54 adz s.heap.size) s.heap H locs → lv_has ls 20 [] → W p l e R s m args below meth c H locs (3 + 1) (20 + 6 * 1) Q (F0 m 557 ls [.int y155, .int y154, .int y153, .int y152, .ref (ad 51), .ref (ad 48)]) := by
                          intro y152 y153 y154 y155 σ151 H locs ls hf hP hS hl
                          rw [eJ156] at hf
                          obtain ⟨v157, σ158, hv, hf⟩ := bd2_e hf
                          refine g_yi (τ := (mgZ σ158 σ151)) ⟨⟨hx, hb, hml, hown, hB⟩, hK, hi, hA, hAd, hP, hS⟩ hZ hN sub_ZY (c_L_areHearers hflag (injS (by decide) hi) hv) (fun _ _ => rfl) cal_L_areHearers kM_L_159 ⟨Nat.le_trans (Nat.le_of_ble_eq_true rfl) hRf, Nat.le_trans (Nat.le_of_ble_eq_true rfl) hRl⟩ rfl hl.1 (Nat.le_of_ble_eq_true rfl) rfl dL_does_557 ⟨by omega, by omega⟩ (mgZ_1 _ _) (mgZ_2 57 _ _) (fun H locs hP hS => ?_)
                          obtain ⟨σ159, eσ159, hf⟩ := stp_e hf
                          rw [← eσ159] at hP
                          refine lv_goto (tgt := 670) hx hb dL_does_560 (by decide) ?_
                          obtain ⟨hz, hf⟩ := gz_e hf
                          obtain ⟨h1, h2⟩ := rt2 hf
                          refine W.widen (k := 16) (n := 6 * 16) (by omega) (by omega) ?_
                          rw [hQ]
                          exact g_zzret hx hb hr hlocks hZsub hP hS hz h1 (fun k _ => congrFun h2 k) dL_does_670
                        refine lv_icmp_ne (tgt := 556) hx hb dL_does_549 (by decide) (fun q160 => ?_) (fun q160 => ?_)
                        · rw [if_neg q160] at hf
                          refine lv_iconst (v := 0) hx hb dL_does_556 (by decide) ?_
                          exact hJ156 v0 y110 v116 0 σ149 _ _ ls hf hP hS (lv_sub hl [] rfl)
                        · rw [if_pos q160] at hf
                          refine lv_iconst (v := 1) hx hb dL_does_552 (by decide) ?_
                          refine lv_goto (tgt := 557) hx hb dL_does_553 (by decide) ?_
                          exact hJ156 v0 y110 v116 1 σ149 _ _ ls hf hP hS (lv_sub hl [] rfl)
                      refine lv_icmp_eq (tgt := 538) hx hb dL_does_530 (by decide) (fun q161 => ?_) (fun q161 => ?_)
                      · rw [if_pos q161] at hf
                        exact hJ150 σ146 _ _ ls hf hP hS (lv_sub hl [0, 1, 3, 4, 5, 6] rfl)
                      · rw [if_neg q161] at hf
                        refine lv_iload_n hx hb dL_does_533 rfl (lv_at hl 1 rfl) ?_
                        refine lv_iconst (v := 2) hx hb dL_does_534 (by decide) ?_
                        refine lv_icmp_ne (tgt := 563) hx hb dL_does_535 (by decide) (fun q162 => ?_) (fun q162 => ?_)
                        · rw [if_neg q162] at hf
                          refine lv_iload_n hx hb dL_does_563 rfl (lv_at hl 1 rfl) ?_
                          refine lv_iconst (v := 3) hx hb dL_does_564 (by decide) ?_
                          obtain ⟨J164, eJ164, hf⟩ := jn_e1 hf
                          have hJ164 : ∀ (σ163 : Mem) (H : Heap) (locs : List Loc) (ls : Array Slot), J164 σ163 = some (r, σr) → va_P D vwCl (wsG 57 ad (EZ ad cI cJ) σ163) H → va_S (AG 54 adz s.heap.size) s.heap H locs → lv_has ls 20 [(0, .ref (ad 48)), (2, .int a1), (5, .int v0), (10, .int v116)] → W p l e R s m args below meth c H locs (3 + 1) (20 + 6 * 1) Q (F0 m 578 ls []) := by
                            intro σ163 H locs ls hf hP hS hl
                            rw [eJ164] at hf
                            refine lv_aload_n hx hb dL_does_578 rfl (lv_at hl 0 rfl) ?_
                            refine lv_iload hx hb dL_does_579 (lv_at hl 2 rfl) ?_
                            refine lv_iload_n hx hb dL_does_581 rfl (lv_at hl 1 rfl) ?_
                            refine lv_iconst (v := 5) hx hb dL_does_582 (by decide) ?_
                            refine lv_iremJ hx hb dL_does_583 (by decide) ?_
                            rcases bt_e hf with ⟨v165, hv, hf⟩ | ⟨n166, v165, hn, hv, hf⟩
                            · refine g_yVi (τ := σ163) ⟨⟨hx, hb, hml, hown, hB⟩, hK, hi, hA, hAd, hP, hS⟩ hZ sub_ZX (c_X5_goodsOf hflag (injS (by decide) hi) hv) (fun _ _ => rfl) cal_X5_goodsOf kM_L_93 ⟨Nat.le_trans (Nat.le_of_ble_eq_true rfl) hRf, Nat.le_trans (Nat.le_of_ble_eq_true rfl) hRl⟩ 48 (by decide) rfl rfl rfl rfl hl.1 (Nat.le_of_ble_eq_true rfl) rfl dL_does_584 ⟨by omega, by omega⟩ (fun _ _ => rfl) (fun _ _ _ => rfl) (fun H locs hP hS => ?_)
                              refine lv_iload hx hb dL_does_587 (lv_at hl 3 rfl) ?_
                              refine lv_icmp_ne (tgt := 596) hx hb dL_does_589 (by decide) (fun q167 => ?_) (fun q167 => ?_)
                              · rw [if_neg q167] at hf
                                refine lv_iconst (v := 0) hx hb dL_does_596 (by decide) ?_
                                refine lv_goto (tgt := 670) hx hb dL_does_597 (by decide) ?_
                                obtain ⟨h1, h2⟩ := rt2 hf
                                refine W.widen (k := 16) (n := 6 * 16) (by omega) (by omega) ?_
                                rw [hQ]
                                exact g_zzret hx hb hr hlocks hZsub hP hS (Or.inl rfl) h1 (fun k _ => congrFun h2 k) dL_does_670
                              · rw [if_pos q167] at hf
                                refine lv_iconst (v := 1) hx hb dL_does_592 (by decide) ?_
                                refine lv_goto (tgt := 670) hx hb dL_does_593 (by decide) ?_
                                obtain ⟨h1, h2⟩ := rt2 hf
                                refine W.widen (k := 16) (n := 6 * 16) (by omega) (by omega) ?_
                                rw [hQ]
                                exact g_zzret hx hb hr hlocks hZsub hP hS (Or.inr rfl) h1 (fun k _ => congrFun h2 k) dL_does_670
                            · cases hf
                          refine lv_icmp_eq (tgt := 578) hx hb dL_does_565 (by decide) (fun q168 => ?_) (fun q168 => ?_)
                          · rw [if_pos q168] at hf
                            exact hJ164 σ146 _ _ ls hf hP hS (lv_sub hl [0, 2, 4, 6] rfl)
                          · rw [if_neg q168] at hf
                            refine lv_iload_n hx hb dL_does_568 rfl (lv_at hl 1 rfl) ?_
                            refine lv_iconst (v := 4) hx hb dL_does_569 (by decide) ?_
                            refine lv_icmp_eq (tgt := 578) hx hb dL_does_570 (by decide) (fun q169 => ?_) (fun q169 => ?_)
                            · rw [if_pos q169] at hf
                              exact hJ164 σ146 _ _ ls hf hP hS (lv_sub hl [0, 2, 4, 6] rfl)
                            · rw [if_neg q169] at hf
                              refine lv_iload_n hx hb dL_does_573 rfl (lv_at hl 1 rfl) ?_
                              refine lv_iconst (v := 5) hx hb dL_does_574 (by decide) ?_
                              refine lv_icmp_ne (tgt := 600) hx hb dL_does_575 (by decide) (fun q170 => ?_) (fun q170 => ?_)
                              · rw [if_neg q170] at hf
                                refine lv_iload_n hx hb dL_does_600 rfl (lv_at hl 1 rfl) ?_
                                refine lv_if_ne (tgt := 623) hx hb dL_does_601 (by decide) (fun q171 => ?_) (fun q171 => ?_)
                                · rw [if_neg q171] at hf
                                  refine lv_iload_n hx hb dL_does_623 rfl (lv_at hl 1 rfl) ?_
                                  refine lv_bipush (v := 10) hx hb dL_does_624 (by decide) ?_
                                  refine lv_icmp_ne (tgt := 648) hx hb dL_does_626 (by decide) (fun q172 => ?_) (fun q172 => ?_)
                                  · rw [if_neg q172] at hf
                                    refine lv_iload_n hx hb dL_does_648 rfl (lv_at hl 1 rfl) ?_
                                    refine lv_bipush (v := 8) hx hb dL_does_649 (by decide) ?_
                                    obtain ⟨J174, eJ174, hf⟩ := jn_e1 hf
                                    have hJ174 : ∀ (σ173 : Mem) (H : Heap) (locs : List Loc) (ls : Array Slot), J174 σ173 = some (r, σr) → va_P D vwCl (wsG 57 ad (EZ ad cI cJ) σ173) H → va_S (AG 54 adz s.heap.size) s.heap H locs → lv_has ls 20 [] → W p l e R s m args below meth c H locs (3 + 1) (20 + 6 * 1) Q (F0 m 665 ls []) := by
                                      intro σ173 H locs ls hf hP hS hl
                                      rw [eJ174] at hf
                                      refine lv_iconst (v := 1) hx hb dL_does_665 (by decide) ?_
                                      refine lv_goto (tgt := 670) hx hb dL_does_666 (by decide) ?_
                                      obtain ⟨h1, h2⟩ := rt2 hf
                                      refine W.widen (k := 16) (n := 6 * 16) (by omega) (by omega) ?_
                                      rw [hQ]
                                      exact g_zzret hx hb hr hlocks hZsub hP hS (Or.inr rfl) h1 (fun k _ => congrFun h2 k) dL_does_670
                                    refine lv_icmp_gt (tgt := 665) hx hb dL_does_651 (by decide) (fun q175 => ?_) (fun q175 => ?_)
                                    · rw [if_pos q175] at hf
                                      exact hJ174 σ146 _ _ ls hf hP hS (lv_sub hl [] rfl)
                                    · rw [if_neg q175] at hf
                                      refine lv_aload_n hx hb dL_does_654 rfl (lv_at hl 0 rfl) ?_
                                      refine lv_iload hx hb dL_does_655 (lv_at hl 4 rfl) ?_
                                      rcases bt_e hf with ⟨v176, hv, hf⟩ | ⟨n177, v176, hn, hv, hf⟩
                                      · refine g_yVi (τ := σ146) ⟨⟨hx, hb, hml, hown, hB⟩, hK, hi, hA, hAd, hP, hS⟩ hZ sub_ZX (c_X5_coinsOf hflag (injS (by decide) hi) hv) (fun _ _ => rfl) cal_X5_coinsOf kM_L_69 ⟨Nat.le_trans (Nat.le_of_ble_eq_true rfl) hRf, Nat.le_trans (Nat.le_of_ble_eq_true rfl) hRl⟩ 48 (by decide) rfl rfl rfl rfl hl.1 (Nat.le_of_ble_eq_true rfl) rfl dL_does_657 ⟨by omega, by omega⟩ (fun _ _ => rfl) (fun _ _ _ => rfl) (fun H locs hP hS => ?_)
                                        refine lv_iload hx hb dL_does_660 (lv_at hl 6 rfl) ?_
                                        refine lv_icmp_ne (tgt := 669) hx hb dL_does_662 (by decide) (fun q178 => ?_) (fun q178 => ?_)
                                        · rw [if_neg q178] at hf
                                          refine lv_iconst (v := 0) hx hb dL_does_669 (by decide) ?_
                                          obtain ⟨h1, h2⟩ := rt2 hf
                                          refine W.widen (k := 16) (n := 6 * 16) (by omega) (by omega) ?_
                                          rw [hQ]
                                          exact g_zzret hx hb hr hlocks hZsub hP hS (Or.inl rfl) h1 (fun k _ => congrFun h2 k) dL_does_670
                                        · rw [if_pos q178] at hf
                                          exact hJ174 σ146 _ _ ls hf hP hS (lv_sub hl [] rfl)
                                      · cases hf
                                  · rw [if_pos q172] at hf
                                    refine lv_aload_n hx hb dL_does_629 rfl (lv_at hl 0 rfl) ?_
                                    refine lv_iload hx hb dL_does_630 (lv_at hl 4 rfl) ?_
                                    rcases bt_e hf with ⟨v179, hv, hf⟩ | ⟨n180, v179, hn, hv, hf⟩
                                    · refine g_yVi (τ := σ146) ⟨⟨hx, hb, hml, hown, hB⟩, hK, hi, hA, hAd, hP, hS⟩ hZ sub_ZX (c_X5_healthOf hflag (injS (by decide) hi) hv) (fun _ _ => rfl) cal_X5_healthOf kM_L_75 ⟨Nat.le_trans (Nat.le_of_ble_eq_true rfl) hRf, Nat.le_trans (Nat.le_of_ble_eq_true rfl) hRl⟩ 48 (by decide) rfl rfl rfl rfl hl.1 (Nat.le_of_ble_eq_true rfl) rfl dL_does_632 ⟨by omega, by omega⟩ (fun _ _ => rfl) (fun _ _ _ => rfl) (fun H locs hP hS => ?_)
                                      refine lv_iload hx hb dL_does_635 (lv_at hl 6 rfl) ?_
                                      refine lv_icmp_ne (tgt := 644) hx hb dL_does_637 (by decide) (fun q181 => ?_) (fun q181 => ?_)
                                      · rw [if_neg q181] at hf
                                        refine lv_iconst (v := 0) hx hb dL_does_644 (by decide) ?_
                                        refine lv_goto (tgt := 670) hx hb dL_does_645 (by decide) ?_
                                        obtain ⟨h1, h2⟩ := rt2 hf
                                        refine W.widen (k := 16) (n := 6 * 16) (by omega) (by omega) ?_
                                        rw [hQ]
                                        exact g_zzret hx hb hr hlocks hZsub hP hS (Or.inl rfl) h1 (fun k _ => congrFun h2 k) dL_does_670
                                      · rw [if_pos q181] at hf
                                        refine lv_iconst (v := 1) hx hb dL_does_640 (by decide) ?_
                                        refine lv_goto (tgt := 670) hx hb dL_does_641 (by decide) ?_
                                        obtain ⟨h1, h2⟩ := rt2 hf
                                        refine W.widen (k := 16) (n := 6 * 16) (by omega) (by omega) ?_
                                        rw [hQ]
                                        exact g_zzret hx hb hr hlocks hZsub hP hS (Or.inr rfl) h1 (fun k _ => congrFun h2 k) dL_does_670
                                    · cases hf
                                · rw [if_pos q171] at hf
                                  refine lv_aload_n hx hb dL_does_604 rfl (lv_at hl 0 rfl) ?_
                                  refine lv_iload hx hb dL_does_605 (lv_at hl 4 rfl) ?_
                                  rcases bt_e hf with ⟨v182, hv, hf⟩ | ⟨n183, v182, hn, hv, hf⟩
                                  · refine g_yVi (τ := σ146) ⟨⟨hx, hb, hml, hown, hB⟩, hK, hi, hA, hAd, hP, hS⟩ hZ sub_ZX (c_X5_roomOf hflag (injS (by decide) hi) hv) (fun _ _ => rfl) cal_X5_roomOf kM_L_78 ⟨Nat.le_trans (Nat.le_of_ble_eq_true rfl) hRf, Nat.le_trans (Nat.le_of_ble_eq_true rfl) hRl⟩ 48 (by decide) rfl rfl rfl rfl hl.1 (Nat.le_of_ble_eq_true rfl) rfl dL_does_607 ⟨by omega, by omega⟩ (fun _ _ => rfl) (fun _ _ _ => rfl) (fun H locs hP hS => ?_)
                                    refine lv_iload hx hb dL_does_610 (lv_at hl 6 rfl) ?_
                                    refine lv_icmp_ne (tgt := 619) hx hb dL_does_612 (by decide) (fun q184 => ?_) (fun q184 => ?_)
                                    · rw [if_neg q184] at hf
                                      refine lv_iconst (v := 0) hx hb dL_does_619 (by decide) ?_
                                      refine lv_goto (tgt := 670) hx hb dL_does_620 (by decide) ?_
                                      obtain ⟨h1, h2⟩ := rt2 hf
                                      refine W.widen (k := 16) (n := 6 * 16) (by omega) (by omega) ?_
                                      rw [hQ]
                                      exact g_zzret hx hb hr hlocks hZsub hP hS (Or.inl rfl) h1 (fun k _ => congrFun h2 k) dL_does_670
                                    · rw [if_pos q184] at hf
                                      refine lv_iconst (v := 1) hx hb dL_does_615 (by decide) ?_
                                      refine lv_goto (tgt := 670) hx hb dL_does_616 (by decide) ?_
                                      obtain ⟨h1, h2⟩ := rt2 hf
                                      refine W.widen (k := 16) (n := 6 * 16) (by omega) (by omega) ?_
                                      rw [hQ]
                                      exact g_zzret hx hb hr hlocks hZsub hP hS (Or.inr rfl) h1 (fun k _ => congrFun h2 k) dL_does_670
                                  · cases hf
                              · rw [if_pos q170] at hf
                                exact hJ164 σ146 _ _ ls hf hP hS (lv_sub hl [0, 2, 4, 6] rfl)
                        · rw [if_pos q162] at hf
                          exact hJ150 σ146 _ _ ls hf hP hS (lv_sub hl [0, 1, 3, 4, 5, 6] rfl)
                    · rw [if_pos q148] at hf
                      refine lv_iload hx hb dL_does_525 (lv_at hl 8 rfl) ?_
                      obtain ⟨hz, hf⟩ := gz_e hf
                      obtain ⟨h1, h2⟩ := rt2 hf
                      refine W.widen (k := 16) (n := 6 * 16) (by omega) (by omega) ?_
                      rw [hQ]
                      exact g_zzret hx hb hr hlocks hZsub hP hS hz h1 (fun k _ => congrFun h2 k) dL_does_527
                have hL_L_does_252 : ∀ (n : Nat) (x141 : Int32) (x142 : Int32) (σ143 : Mem) (H : Heap) (locs : List Loc) (ls : Array Slot), L_L_does_252 n K144 a0 a1 v0 y110 v116 y120 y129 x141 x142 σ143 = some (r, σr) → va_P D vwCl (wsG 57 ad (EZ ad cI cJ) σ143) H → va_S (AG 54 adz s.heap.size) s.heap H locs → lv_has ls 20 [(0, .ref (ad 48)), (1, .int a0), (2, .int a1), (4, .ref (ad 51)), (5, .int v0), (6, .ref (ad 54)), (7, .ref (ad 55)), (8, .ref (ad 56)), (9, .int y110), (10, .int v116), (11, .int y120), (12, .int y129), (13, .int x141), (14, .int x142)] → W p l e R s m args below meth c H locs (3 + 1) (20 + 6 * 1) Q (F0 m 252 ls []) := by
                  intro n
                  induction n with
                  | zero => intro x141 x142 σ143 H locs ls hf; cases hf
                  | succ n ih =>
                    intro x141 x142 σ143 H locs ls hf hP hS hl
                    rw [L_L_does_252] at hf
                    refine lv_iload hx hb dL_does_252 (lv_at hl 13 rfl) ?_
                    refine lv_aload hx hb dL_does_254 (lv_at hl 3 rfl) ?_
                    refine lv_bipush (v := 7) hx hb dL_does_256 (by decide) ?_
                    obtain ⟨hin, hf⟩ := gd_e hf
                    refine g_iald hx hb hK hP 51 13 (by decide) (EZ_51 _) hin dL_does_258 ?_
                    refine lv_icmp_ge (tgt := 515) hx hb dL_does_259 (by decide) (fun q185 => ?_) (fun q185 => ?_)
                    · rw [if_pos q185] at hf
                      exact hKK144 x141 σ143 _ _ ls hf hP hS (lv_sub hl [0, 1, 2, 3, 4, 8, 9, 10, 12] rfl)
                    · rw [if_neg q185] at hf
                      refine lv_iload hx hb dL_does_262 (lv_at hl 12 rfl) ?_
                      refine lv_if_eq (tgt := 515) hx hb dL_does_264 (by decide) (fun q186 => ?_) (fun q186 => ?_)
                      · rw [if_pos q186] at hf
                        exact hKK144 x141 σ143 _ _ ls hf hP hS (lv_sub hl [0, 1, 2, 3, 4, 8, 9, 10, 12] rfl)
                      · rw [if_neg q186] at hf
                        refine lv_aload hx hb dL_does_267 (lv_at hl 5 rfl) ?_
                        refine lv_iload hx hb dL_does_269 (lv_at hl 13 rfl) ?_
                        obtain ⟨hin, hf⟩ := gd_e hf
                        refine g_iald hx hb hK hP 54 4 (by decide) (EZ_54 _) hin dL_does_271 ?_
                        refine lv_iload hx hb dL_does_272 (lv_at hl 10 rfl) ?_
                        obtain ⟨J190, eJ190, hf⟩ := jn_e3 hf
                        have hJ190 : ∀ (y188 : Int32) (y189 : Int32) (σ187 : Mem) (H : Heap) (locs : List Loc) (ls : Array Slot), J190 y188 y189 σ187 = some (r, σr) → va_P D vwCl (wsG 57 ad (EZ ad cI cJ) σ187) H → va_S (AG 54 adz s.heap.size) s.heap H locs → lv_has ls 20 [(0, .ref (ad 48)), (1, .int a0), (2, .int a1), (4, .ref (ad 51)), (5, .int v0), (6, .ref (ad 54)), (7, .ref (ad 55)), (8, .ref (ad 56)), (9, .int y110), (10, .int v116), (11, .int y120), (12, .int y129), (14, .int x142)] → W p l e R s m args below meth c H locs (3 + 1) (20 + 6 * 1) Q (F0 m 290 ls [.int y189, .int y188]) := by
                          intro y188 y189 σ187 H locs ls hf hP hS hl
                          rw [eJ190] at hf
                          refine lv_iadd hx hb dL_does_290 ?_
                          refine lv_istore (lv' := [(15, .int (y188 + y189)), (0, .ref (ad 48)), (1, .int a0), (2, .int a1), (4, .ref (ad 51)), (5, .int v0), (6, .ref (ad 54)), (7, .ref (ad 55)), (8, .ref (ad 56)), (9, .int y110), (10, .int v116), (11, .int y120), (12, .int y129), (14, .int x142)]) hx hb dL_does_291 hl (by decide) rfl (fun ls hl => ?_)
                          refine lv_iload hx hb dL_does_293 (lv_at hl 11 rfl) ?_
                          obtain ⟨J193, eJ193, hf⟩ := jn_e2 hf
                          have hJ193 : ∀ (y192 : Int32) (σ191 : Mem) (H : Heap) (locs : List Loc) (ls : Array Slot), J193 y192 σ191 = some (r, σr) → va_P D vwCl (wsG 57 ad (EZ ad cI cJ) σ191) H → va_S (AG 54 adz s.heap.size) s.heap H locs → lv_has ls 20 [(0, .ref (ad 48)), (1, .int a0), (2, .int a1), (4, .ref (ad 51)), (5, .int v0), (6, .ref (ad 54)), (7, .ref (ad 55)), (8, .ref (ad 56)), (9, .int y110), (10, .int v116), (11, .int y120), (12, .int y129), (14, .int x142), (15, .int (y188 + y189))] → W p l e R s m args below meth c H locs (3 + 1) (20 + 6 * 1) Q (F0 m 316 ls [.int y192]) := by
                            intro y192 σ191 H locs ls hf hP hS hl
                            rw [eJ193] at hf
                            refine lv_istore (lv' := [(16, .int y192), (0, .ref (ad 48)), (1, .int a0), (2, .int a1), (4, .ref (ad 51)), (5, .int v0), (6, .ref (ad 54)), (7, .ref (ad 55)), (8, .ref (ad 56)), (9, .int y110), (10, .int v116), (11, .int y120), (12, .int y129), (14, .int x142), (15, .int (y188 + y189))]) hx hb dL_does_316 hl (by decide) rfl (fun ls hl => ?_)
                            refine lv_aload hx hb dL_does_318 (lv_at hl 6 rfl) ?_
                            refine lv_iload hx hb dL_does_320 (lv_at hl 5 rfl) ?_
                            obtain ⟨hin, hf⟩ := gd_e hf
                            refine g_iald hx hb hK hP 54 4 (by decide) (EZ_54 _) hin dL_does_322 ?_
                            refine lv_bipush (v := 10) hx hb dL_does_323 (by decide) ?_
                            refine lv_iadd hx hb dL_does_325 ?_
                            refine lv_istore (lv' := [(17, .int ((σ191 54 v0.toNatClampNeg) + 10)), (16, .int y192), (0, .ref (ad 48)), (1, .int a0), (2, .int a1), (4, .ref (ad 51)), (5, .int v0), (6, .ref (ad 54)), (7, .ref (ad 55)), (8, .ref (ad 56)), (9, .int y110), (10, .int v116), (11, .int y120), (12, .int y129), (14, .int x142), (15, .int (y188 + y189))]) hx hb dL_does_326 hl (by decide) rfl (fun ls hl => ?_)
                            refine lv_aload_n hx hb dL_does_328 rfl (lv_at hl 2 rfl) ?_
                            refine lv_iload hx hb dL_does_329 (lv_at hl 14 rfl) ?_
                            rcases bt_e hf with ⟨v194, hv, hf⟩ | ⟨n195, v194, hn, hv, hf⟩
                            · refine g_yVi (τ := σ191) ⟨⟨hx, hb, hml, hown, hB⟩, hK, hi, hA, hAd, hP, hS⟩ hZ sub_ZX (c_X5_readyAt hflag (injS (by decide) hi) hv) (fun _ _ => rfl) cal_X5_readyAt kM_L_72 ⟨Nat.le_trans (Nat.le_of_ble_eq_true rfl) hRf, Nat.le_trans (Nat.le_of_ble_eq_true rfl) hRl⟩ 48 (by decide) rfl rfl rfl rfl hl.1 (Nat.le_of_ble_eq_true rfl) rfl dL_does_331 ⟨by omega, by omega⟩ (fun _ _ => rfl) (fun _ _ _ => rfl) (fun H locs hP hS => ?_)
                              refine lv_iload hx hb dL_does_334 (lv_at hl 1 rfl) ?_
                              obtain ⟨J199, eJ199, hf⟩ := jn_e3 hf
                              have hJ199 : ∀ (y197 : Int32) (y198 : Int32) (σ196 : Mem) (H : Heap) (locs : List Loc) (ls : Array Slot), J199 y197 y198 σ196 = some (r, σr) → va_P D vwCl (wsG 57 ad (EZ ad cI cJ) σ196) H → va_S (AG 54 adz s.heap.size) s.heap H locs → lv_has ls 20 [(0, .ref (ad 48)), (1, .int a0), (2, .int a1), (4, .ref (ad 51)), (5, .int v0), (6, .ref (ad 54)), (7, .ref (ad 55)), (8, .ref (ad 56)), (9, .int y110), (10, .int v116), (11, .int y120), (12, .int y129), (14, .int x142), (16, .int y192)] → W p l e R s m args below meth c H locs (3 + 1) (20 + 6 * 1) Q (F0 m 364 ls [.int y198, .int y197]) := by
                                intro y197 y198 σ196 H locs ls hf hP hS hl
                                rw [eJ199] at hf
                                obtain ⟨J202, eJ202, hf⟩ := jn_e2 hf
                                have hJ202 : ∀ (y201 : Int32) (σ200 : Mem) (H : Heap) (locs : List Loc) (ls : Array Slot), J202 y201 σ200 = some (r, σr) → va_P D vwCl (wsG 57 ad (EZ ad cI cJ) σ200) H → va_S (AG 54 adz s.heap.size) s.heap H locs → lv_has ls 20 [(0, .ref (ad 48)), (1, .int a0), (2, .int a1), (4, .ref (ad 51)), (5, .int v0), (6, .ref (ad 54)), (7, .ref (ad 55)), (8, .ref (ad 56)), (9, .int y110), (10, .int v116), (11, .int y120), (12, .int y129), (14, .int x142)] → W p l e R s m args below meth c H locs (3 + 1) (20 + 6 * 1) Q (F0 m 432 ls [.int y201]) := by
                                  intro y201 σ200 H locs ls hf hP hS hl
                                  rw [eJ202] at hf
                                  refine lv_istore (lv' := [(13, .int y201), (0, .ref (ad 48)), (1, .int a0), (2, .int a1), (4, .ref (ad 51)), (5, .int v0), (6, .ref (ad 54)), (7, .ref (ad 55)), (8, .ref (ad 56)), (9, .int y110), (10, .int v116), (11, .int y120), (12, .int y129), (14, .int x142)]) hx hb dL_does_432 hl (by decide) rfl (fun ls hl => ?_)
                                  refine lv_iconst (v := 0) hx hb dL_does_434 (by decide) ?_
                                  refine lv_istore (lv' := [(18, .int 0), (13, .int y201), (0, .ref (ad 48)), (1, .int a0), (2, .int a1), (4, .ref (ad 51)), (5, .int v0), (6, .ref (ad 54)), (7, .ref (ad 55)), (8, .ref (ad 56)), (9, .int y110), (10, .int v116), (11, .int y120), (12, .int y129), (14, .int x142)]) hx hb dL_does_435 hl (by decide) rfl (fun ls hl => ?_)
                                  obtain ⟨K214, eK214, hf⟩ := lp_e2 (b := fun K => L_L_does_437 FU K a0 a1 v0 y110 v116 y120 y129 x142 y201 0 σ200) hf
                                  replace hf : L_L_does_437 FU K214 a0 a1 v0 y110 v116 y120 y129 x142 y201 0 σ200 = some (r, σr) := hf
                                  have hKK214 : ∀ (x215 : Int32) (σ216 : Mem) (H : Heap) (locs : List Loc) (ls : Array Slot), K214 x215 σ216 = some (r, σr) → va_P D vwCl (wsG 57 ad (EZ ad cI cJ) σ216) H → va_S (AG 54 adz s.heap.size) s.heap H locs → lv_has ls 20 [(0, .ref (ad 48)), (1, .int a0), (2, .int a1), (4, .ref (ad 51)), (5, .int v0), (6, .ref (ad 54)), (7, .ref (ad 55)), (8, .ref (ad 56)), (9, .int y110), (10, .int v116), (11, .int y120), (12, .int y129), (13, .int x215), (14, .int x142)] → W p l e R s m args below meth c H locs (3 + 1) (20 + 6 * 1) Q (F0 m 509 ls []) := by
                                    intro x215 σ216 H locs ls hf hP hS hl
                                    rw [eK214] at hf
                                    refine lv_iinc (v := (x142 + 1)) (lv' := [(14, .int (x142 + 1)), (0, .ref (ad 48)), (1, .int a0), (2, .int a1), (4, .ref (ad 51)), (5, .int v0), (6, .ref (ad 54)), (7, .ref (ad 55)), (8, .ref (ad 56)), (9, .int y110), (10, .int v116), (11, .int y120), (12, .int y129), (13, .int x215)]) hx hb dL_does_509 hl (k := 13) rfl rfl (by decide) rfl (fun ls hl => ?_)
                                    refine lv_goto (tgt := 252) hx hb dL_does_512 (by decide) ?_
                                    exact ih x215 (x142 + 1) σ216 _ _ ls hf hP hS (lv_sub hl [1, 2, 3, 4, 5, 6, 7, 8, 9, 10, 11, 12, 13, 0] rfl)
                                  have hL_L_does_437 : ∀ (n : Nat) (x210 : Int32) (x212 : Int32) (σ213 : Mem) (H : Heap) (locs : List Loc) (ls : Array Slot), L_L_does_437 n K214 a0 a1 v0 y110 v116 y120 y129 x142 x210 x212 σ213 = some (r, σr) → va_P D vwCl (wsG 57 ad (EZ ad cI cJ) σ213) H → va_S (AG 54 adz s.heap.size) s.heap H locs → lv_has ls 20 [(0, .ref (ad 48)), (1, .int a0), (2, .int a1), (4, .ref (ad 51)), (5, .int v0), (6, .ref (ad 54)), (7, .ref (ad 55)), (8, .ref (ad 56)), (9, .int y110), (10, .int v116), (11, .int y120), (12, .int y129), (13, .int x210), (14, .int x142), (18, .int x212)] → W p l e R s m args below meth c H locs (3 + 1) (20 + 6 * 1) Q (F0 m 437 ls []) := by
                                    intro n
                                    induction n with
                                    | zero => intro x210 x212 σ213 H locs ls hf; cases hf
                                    | succ n ih =>
                                      intro x210 x212 σ213 H locs ls hf hP hS hl
                                      rw [L_L_does_437] at hf
                                      refine lv_iload hx hb dL_does_437 (lv_at hl 14 rfl) ?_
                                      refine lv_aload hx hb dL_does_439 (lv_at hl 3 rfl) ?_
                                      refine lv_bipush (v := 8) hx hb dL_does_441 (by decide) ?_
                                      obtain ⟨hin, hf⟩ := gd_e hf
                                      refine g_iald hx hb hK hP 51 13 (by decide) (EZ_51 _) hin dL_does_443 ?_
                                      refine lv_icmp_ge (tgt := 509) hx hb dL_does_444 (by decide) (fun q217 => ?_) (fun q217 => ?_)
                                      · rw [if_pos q217] at hf
                                        exact hKK214 x210 σ213 _ _ ls hf hP hS (lv_sub hl [0, 1, 2, 3, 4, 5, 6, 7, 8, 9, 10, 11, 12, 13] rfl)
                                      · rw [if_neg q217] at hf
                                        refine lv_iload hx hb dL_does_447 (lv_at hl 12 rfl) ?_
                                        refine lv_if_eq (tgt := 509) hx hb dL_does_449 (by decide) (fun q218 => ?_) (fun q218 => ?_)
                                        · rw [if_pos q218] at hf
                                          exact hKK214 x210 σ213 _ _ ls hf hP hS (lv_sub hl [0, 1, 2, 3, 4, 5, 6, 7, 8, 9, 10, 11, 12, 13] rfl)
                                        · rw [if_neg q218] at hf
                                          refine lv_aload_n hx hb dL_does_452 rfl (lv_at hl 0 rfl) ?_
                                          refine lv_iload hx hb dL_does_453 (lv_at hl 13 rfl) ?_
                                          refine lv_iload hx hb dL_does_455 (lv_at hl 14 rfl) ?_
                                          rcases bt_e hf with ⟨v219, hv, hf⟩ | ⟨n220, v219, hn, hv, hf⟩
                                          · refine g_yVi (τ := σ213) ⟨⟨hx, hb, hml, hown, hB⟩, hK, hi, hA, hAd, hP, hS⟩ hZ sub_ZX (c_X5_stageOf hflag (injS (by decide) hi) hv) (fun _ _ => rfl) cal_X5_stageOf kM_L_81 ⟨Nat.le_trans (Nat.le_of_ble_eq_true rfl) hRf, Nat.le_trans (Nat.le_of_ble_eq_true rfl) hRl⟩ 48 (by decide) rfl rfl rfl rfl hl.1 (Nat.le_of_ble_eq_true rfl) rfl dL_does_457 ⟨by omega, by omega⟩ (fun _ _ => rfl) (fun _ _ _ => rfl) (fun H locs hP hS => ?_)
                                            refine lv_aload hx hb dL_does_460 (lv_at hl 6 rfl) ?_
                                            refine lv_iconst (v := 3) hx hb dL_does_462 (by decide) ?_
                                            refine lv_iload hx hb dL_does_463 (lv_at hl 13 rfl) ?_
                                            refine lv_imul hx hb dL_does_465 ?_
                                            refine lv_iload hx hb dL_does_466 (lv_at hl 14 rfl) ?_
                                            refine lv_iadd hx hb dL_does_468 ?_
                                            obtain ⟨hin, hf⟩ := gd_e hf
                                            refine g_iald hx hb hK hP 55 12 (by decide) (EZ_55 _) hin dL_does_469 ?_
                                            refine lv_isub hx hb dL_does_470 ?_
                                            refine lv_istore (lv' := [(19, .int (v219 - (σ213 55 ((3 * x142) + x212).toNatClampNeg))), (0, .ref (ad 48)), (1, .int a0), (2, .int a1), (4, .ref (ad 51)), (5, .int v0), (6, .ref (ad 54)), (7, .ref (ad 55)), (8, .ref (ad 56)), (9, .int y110), (10, .int v116), (11, .int y120), (12, .int y129), (13, .int x210), (14, .int x142), (18, .int x212)]) hx hb dL_does_471 hl (by decide) rfl (fun ls hl => ?_)
                                            refine lv_iload hx hb dL_does_473 (lv_at hl 0 rfl) ?_
                                            obtain ⟨J223, eJ223, hf⟩ := jn_e2 hf
                                            have hJ223 : ∀ (y222 : Int32) (σ221 : Mem) (H : Heap) (locs : List Loc) (ls : Array Slot), J223 y222 σ221 = some (r, σr) → va_P D vwCl (wsG 57 ad (EZ ad cI cJ) σ221) H → va_S (AG 54 adz s.heap.size) s.heap H locs → lv_has ls 20 [(0, .ref (ad 48)), (1, .int a0), (2, .int a1), (4, .ref (ad 51)), (5, .int v0), (6, .ref (ad 54)), (7, .ref (ad 55)), (8, .ref (ad 56)), (9, .int y110), (10, .int v116), (11, .int y120), (12, .int y129), (14, .int x142), (18, .int x212)] → W p l e R s m args below meth c H locs (3 + 1) (20 + 6 * 1) Q (F0 m 501 ls [.int y222]) := by
                                              intro y222 σ221 H locs ls hf hP hS hl
                                              rw [eJ223] at hf
                                              refine lv_istore (lv' := [(13, .int y222), (0, .ref (ad 48)), (1, .int a0), (2, .int a1), (4, .ref (ad 51)), (5, .int v0), (6, .ref (ad 54)), (7, .ref (ad 55)), (8, .ref (ad 56)), (9, .int y110), (10, .int v116), (11, .int y120), (12, .int y129), (14, .int x142), (18, .int x212)]) hx hb dL_does_501 hl (by decide) rfl (fun ls hl => ?_)
                                              refine lv_iinc (v := (x212 + 1)) (lv' := [(18, .int (x212 + 1)), (13, .int y222), (0, .ref (ad 48)), (1, .int a0), (2, .int a1), (4, .ref (ad 51)), (5, .int v0), (6, .ref (ad 54)), (7, .ref (ad 55)), (8, .ref (ad 56)), (9, .int y110), (10, .int v116), (11, .int y120), (12, .int y129), (14, .int x142)]) hx hb dL_does_503 hl (k := 14) rfl rfl (by decide) rfl (fun ls hl => ?_)
                                              refine lv_goto (tgt := 437) hx hb dL_does_506 (by decide) ?_
                                              exact ih y222 (x212 + 1) σ221 _ _ ls hf hP hS (lv_sub hl [2, 3, 4, 5, 6, 7, 8, 9, 10, 11, 12, 13, 1, 14, 0] rfl)
                                            obtain ⟨J225, eJ225, hf⟩ := jn_e1 hf
                                            have hJ225 : ∀ (σ224 : Mem) (H : Heap) (locs : List Loc) (ls : Array Slot), J225 σ224 = some (r, σr) → va_P D vwCl (wsG 57 ad (EZ ad cI cJ) σ224) H → va_S (AG 54 adz s.heap.size) s.heap H locs → lv_has ls 20 [(0, .ref (ad 48)), (1, .int a0), (2, .int a1), (4, .ref (ad 51)), (5, .int v0), (6, .ref (ad 54)), (7, .ref (ad 55)), (8, .ref (ad 56)), (9, .int y110), (10, .int v116), (11, .int y120), (12, .int y129), (14, .int x142), (18, .int x212)] → W p l e R s m args below meth c H locs (3 + 1) (20 + 6 * 1) Q (F0 m 496 ls []) := by
                                              intro σ224 H locs ls hf hP hS hl
                                              rw [eJ225] at hf
                                              refine lv_iconst (v := 1) hx hb dL_does_496 (by decide) ?_
                                              refine lv_goto (tgt := 501) hx hb dL_does_497 (by decide) ?_
                                              exact hJ223 1 σ224 _ _ ls hf hP hS (lv_sub hl [0, 1, 2, 3, 4, 5, 6, 7, 8, 9, 10, 11, 12, 13] rfl)
                                            refine lv_if_eq (tgt := 496) hx hb dL_does_475 (by decide) (fun q226 => ?_) (fun q226 => ?_)
                                            · rw [if_pos q226] at hf
                                              exact hJ225 σ213 _ _ ls hf hP hS (lv_sub hl [1, 2, 3, 4, 5, 6, 7, 8, 9, 10, 11, 12, 14, 15] rfl)
                                            · rw [if_neg q226] at hf
                                              refine lv_iload hx hb dL_does_478 (lv_at hl 0 rfl) ?_
                                              refine lv_iconst (v := 1) hx hb dL_does_480 (by decide) ?_
                                              obtain ⟨J228, eJ228, hf⟩ := jn_e1 hf
                                              have hJ228 : ∀ (σ227 : Mem) (H : Heap) (locs : List Loc) (ls : Array Slot), J228 σ227 = some (r, σr) → va_P D vwCl (wsG 57 ad (EZ ad cI cJ) σ227) H → va_S (AG 54 adz s.heap.size) s.heap H locs → lv_has ls 20 [(0, .ref (ad 48)), (1, .int a0), (2, .int a1), (4, .ref (ad 51)), (5, .int v0), (6, .ref (ad 54)), (7, .ref (ad 55)), (8, .ref (ad 56)), (9, .int y110), (10, .int v116), (11, .int y120), (12, .int y129), (14, .int x142), (18, .int x212)] → W p l e R s m args below meth c H locs (3 + 1) (20 + 6 * 1) Q (F0 m 500 ls []) := by
                                                intro σ227 H locs ls hf hP hS hl
                                                rw [eJ228] at hf
                                                refine lv_iconst (v := 0) hx hb dL_does_500 (by decide) ?_
                                                exact hJ223 0 σ227 _ _ ls hf hP hS (lv_sub hl [0, 1, 2, 3, 4, 5, 6, 7, 8, 9, 10, 11, 12, 13] rfl)
                                              refine lv_icmp_ne (tgt := 500) hx hb dL_does_481 (by decide) (fun q229 => ?_) (fun q229 => ?_)
                                              · rw [if_neg q229] at hf
                                                exact hJ228 σ213 _ _ ls hf hP hS (lv_sub hl [1, 2, 3, 4, 5, 6, 7, 8, 9, 10, 11, 12, 14, 15] rfl)
                                              · rw [if_pos q229] at hf
                                                refine lv_iload hx hb dL_does_484 (lv_at hl 11 rfl) ?_
                                                refine lv_if_eq (tgt := 500) hx hb dL_does_486 (by decide) (fun q230 => ?_) (fun q230 => ?_)
                                                · rw [if_pos q230] at hf
                                                  exact hJ228 σ213 _ _ ls hf hP hS (lv_sub hl [1, 2, 3, 4, 5, 6, 7, 8, 9, 10, 11, 12, 14, 15] rfl)
                                                · rw [if_neg q230] at hf
                                                  refine lv_iload hx hb dL_does_489 (lv_at hl 14 rfl) ?_
                                                  refine lv_iload hx hb dL_does_491 (lv_at hl 5 rfl) ?_
                                                  refine lv_icmp_ne (tgt := 500) hx hb dL_does_493 (by decide) (fun q231 => ?_) (fun q231 => ?_)
                                                  · rw [if_neg q231] at hf
                                                    exact hJ228 σ213 _ _ ls hf hP hS (lv_sub hl [1, 2, 3, 4, 5, 6, 7, 8, 9, 10, 11, 12, 14, 15] rfl)
                                                  · rw [if_pos q231] at hf
                                                    exact hJ225 σ213 _ _ ls hf hP hS (lv_sub hl [1, 2, 3, 4, 5, 6, 7, 8, 9, 10, 11, 12, 14, 15] rfl)
                                          · cases hf
                                  exact hL_L_does_437 FU y201 0 σ200 _ _ ls hf hP hS (lv_sub hl [2, 3, 4, 5, 6, 7, 8, 9, 10, 11, 12, 13, 1, 14, 0] rfl)
                                obtain ⟨J233, eJ233, hf⟩ := jn_e1 hf
                                have hJ233 : ∀ (σ232 : Mem) (H : Heap) (locs : List Loc) (ls : Array Slot), J233 σ232 = some (r, σr) → va_P D vwCl (wsG 57 ad (EZ ad cI cJ) σ232) H → va_S (AG 54 adz s.heap.size) s.heap H locs → lv_has ls 20 [(0, .ref (ad 48)), (1, .int a0), (2, .int a1), (4, .ref (ad 51)), (5, .int v0), (6, .ref (ad 54)), (7, .ref (ad 55)), (8, .ref (ad 56)), (9, .int y110), (10, .int v116), (11, .int y120), (12, .int y129), (14, .int x142)] → W p l e R s m args below meth c H locs (3 + 1) (20 + 6 * 1) Q (F0 m 431 ls []) := by
                                  intro σ232 H locs ls hf hP hS hl
                                  rw [eJ233] at hf
                                  refine lv_iconst (v := 0) hx hb dL_does_431 (by decide) ?_
                                  exact hJ202 0 σ232 _ _ ls hf hP hS (lv_sub hl [0, 1, 2, 3, 4, 5, 6, 7, 8, 9, 10, 11, 12] rfl)
                                refine lv_icmp_ne (tgt := 431) hx hb dL_does_364 (by decide) (fun q234 => ?_) (fun q234 => ?_)
                                · rw [if_neg q234] at hf
                                  exact hJ233 σ196 _ _ ls hf hP hS (lv_sub hl [0, 1, 2, 3, 4, 5, 6, 7, 8, 9, 10, 11, 12] rfl)
                                · rw [if_pos q234] at hf
                                  refine lv_aload_n hx hb dL_does_367 rfl (lv_at hl 0 rfl) ?_
                                  refine lv_iload hx hb dL_does_368 (lv_at hl 12 rfl) ?_
                                  rcases bt_e hf with ⟨v235, hv, hf⟩ | ⟨n236, v235, hn, hv, hf⟩
                                  · refine g_yVi (τ := σ196) ⟨⟨hx, hb, hml, hown, hB⟩, hK, hi, hA, hAd, hP, hS⟩ hZ sub_ZX (c_X5_roomOf hflag (injS (by decide) hi) hv) (fun _ _ => rfl) cal_X5_roomOf kM_L_78 ⟨Nat.le_trans (Nat.le_of_ble_eq_true rfl) hRf, Nat.le_trans (Nat.le_of_ble_eq_true rfl) hRl⟩ 48 (by decide) rfl rfl rfl rfl hl.1 (Nat.le_of_ble_eq_true rfl) rfl dL_does_370 ⟨by omega, by omega⟩ (fun _ _ => rfl) (fun _ _ _ => rfl) (fun H locs hP hS => ?_)
                                    refine lv_iload hx hb dL_does_373 (lv_at hl 13 rfl) ?_
                                    obtain ⟨J240, eJ240, hf⟩ := jn_e3 hf
                                    have hJ240 : ∀ (y238 : Int32) (y239 : Int32) (σ237 : Mem) (H : Heap) (locs : List Loc) (ls : Array Slot), J240 y238 y239 σ237 = some (r, σr) → va_P D vwCl (wsG 57 ad (EZ ad cI cJ) σ237) H → va_S (AG 54 adz s.heap.size) s.heap H locs → lv_has ls 20 [(0, .ref (ad 48)), (1, .int a0), (2, .int a1), (4, .ref (ad 51)), (5, .int v0), (6, .ref (ad 54)), (7, .ref (ad 55)), (8, .ref (ad 56)), (9, .int y110), (10, .int v116), (11, .int y120), (12, .int y129), (14, .int x142), (16, .int y192)] → W p l e R s m args below meth c H locs (3 + 1) (20 + 6 * 1) Q (F0 m 408 ls [.int y239, .int y238]) := by
                                      intro y238 y239 σ237 H locs ls hf hP hS hl
                                      rw [eJ240] at hf
                                      refine lv_icmp_ne (tgt := 431) hx hb dL_does_408 (by decide) (fun q241 => ?_) (fun q241 => ?_)
                                      · rw [if_neg q241] at hf
                                        exact hJ233 σ237 _ _ ls hf hP hS (lv_sub hl [0, 1, 2, 3, 4, 5, 6, 7, 8, 9, 10, 11, 12] rfl)
                                      · rw [if_pos q241] at hf
                                        refine lv_iload hx hb dL_does_411 (lv_at hl 13 rfl) ?_
                                        obtain ⟨J243, eJ243, hf⟩ := jn_e1 hf
                                        have hJ243 : ∀ (σ242 : Mem) (H : Heap) (locs : List Loc) (ls : Array Slot), J243 σ242 = some (r, σr) → va_P D vwCl (wsG 57 ad (EZ ad cI cJ) σ242) H → va_S (AG 54 adz s.heap.size) s.heap H locs → lv_has ls 20 [(0, .ref (ad 48)), (1, .int a0), (2, .int a1), (4, .ref (ad 51)), (5, .int v0), (6, .ref (ad 54)), (7, .ref (ad 55)), (8, .ref (ad 56)), (9, .int y110), (10, .int v116), (11, .int y120), (12, .int y129), (14, .int x142)] → W p l e R s m args below meth c H locs (3 + 1) (20 + 6 * 1) Q (F0 m 427 ls []) := by
                                          intro σ242 H locs ls hf hP hS hl
                                          rw [eJ243] at hf
                                          refine lv_iconst (v := 1) hx hb dL_does_427 (by decide) ?_
                                          refine lv_goto (tgt := 432) hx hb dL_does_428 (by decide) ?_
                                          exact hJ202 1 σ242 _ _ ls hf hP hS (lv_sub hl [0, 1, 2, 3, 4, 5, 6, 7, 8, 9, 10, 11, 12] rfl)
                                        refine lv_if_eq (tgt := 427) hx hb dL_does_413 (by decide) (fun q244 => ?_) (fun q244 => ?_)
                                        · rw [if_pos q244] at hf
                                          exact hJ243 σ237 _ _ ls hf hP hS (lv_sub hl [0, 1, 2, 3, 4, 5, 6, 7, 8, 9, 10, 11, 12] rfl)
                                        · rw [if_neg q244] at hf
                                          refine lv_aload_n hx hb dL_does_416 rfl (lv_at hl 0 rfl) ?_
                                          refine lv_iload hx hb dL_does_417 (lv_at hl 12 rfl) ?_
                                          rcases bt_e hf with ⟨v245, hv, hf⟩ | ⟨n246, v245, hn, hv, hf⟩
                                          · refine g_yVi (τ := σ237) ⟨⟨hx, hb, hml, hown, hB⟩, hK, hi, hA, hAd, hP, hS⟩ hZ sub_ZX (c_X5_healthOf hflag (injS (by decide) hi) hv) (fun _ _ => rfl) cal_X5_healthOf kM_L_75 ⟨Nat.le_trans (Nat.le_of_ble_eq_true rfl) hRf, Nat.le_trans (Nat.le_of_ble_eq_true rfl) hRl⟩ 48 (by decide) rfl rfl rfl rfl hl.1 (Nat.le_of_ble_eq_true rfl) rfl dL_does_419 ⟨by omega, by omega⟩ (fun _ _ => rfl) (fun _ _ _ => rfl) (fun H locs hP hS => ?_)
                                            refine lv_bipush (v := 10) hx hb dL_does_422 (by decide) ?_
                                            refine lv_icmp_ne (tgt := 431) hx hb dL_does_424 (by decide) (fun q247 => ?_) (fun q247 => ?_)
                                            · rw [if_neg q247] at hf
                                              exact hJ233 σ237 _ _ ls hf hP hS (lv_sub hl [0, 1, 2, 3, 4, 5, 6, 7, 8, 9, 10, 11, 12] rfl)
                                            · rw [if_pos q247] at hf
                                              exact hJ243 σ237 _ _ ls hf hP hS (lv_sub hl [0, 1, 2, 3, 4, 5, 6, 7, 8, 9, 10, 11, 12] rfl)
                                          · cases hf
                                    refine lv_if_eq (tgt := 382) hx hb dL_does_375 (by decide) (fun q248 => ?_) (fun q248 => ?_)
                                    · rw [if_pos q248] at hf
                                      refine lv_iload hx hb dL_does_382 (lv_at hl 10 rfl) ?_
                                      obtain ⟨J251, eJ251, hf⟩ := jn_e2 hf
                                      have hJ251 : ∀ (y250 : Int32) (σ249 : Mem) (H : Heap) (locs : List Loc) (ls : Array Slot), J251 y250 σ249 = some (r, σr) → va_P D vwCl (wsG 57 ad (EZ ad cI cJ) σ249) H → va_S (AG 54 adz s.heap.size) s.heap H locs → lv_has ls 20 [(0, .ref (ad 48)), (1, .int a0), (2, .int a1), (4, .ref (ad 51)), (5, .int v0), (6, .ref (ad 54)), (7, .ref (ad 55)), (8, .ref (ad 56)), (9, .int y110), (10, .int v116), (11, .int y120), (12, .int y129), (14, .int x142), (16, .int y192)] → W p l e R s m args below meth c H locs (3 + 1) (20 + 6 * 1) Q (F0 m 403 ls [.int y250]) := by
                                        intro y250 σ249 H locs ls hf hP hS hl
                                        rw [eJ251] at hf
                                        refine lv_aload hx hb dL_does_403 (lv_at hl 7 rfl) ?_
                                        refine lv_iload hx hb dL_does_405 (lv_at hl 12 rfl) ?_
                                        obtain ⟨hin, hf⟩ := gd_e hf
                                        refine g_iald hx hb hK hP 56 4 (by decide) (EZ_56 _) hin dL_does_407 ?_
                                        refine lv_icmp_ne (tgt := 431) hx hb dL_does_408 (by decide) (fun q252 => ?_) (fun q252 => ?_)
                                        · rw [if_neg q252] at hf
                                          exact hJ233 σ249 _ _ ls hf hP hS (lv_sub hl [0, 1, 2, 3, 4, 5, 6, 7, 8, 9, 10, 11, 12] rfl)
                                        · rw [if_pos q252] at hf
                                          refine lv_iload hx hb dL_does_411 (lv_at hl 13 rfl) ?_
                                          obtain ⟨J254, eJ254, hf⟩ := jn_e1 hf
                                          have hJ254 : ∀ (σ253 : Mem) (H : Heap) (locs : List Loc) (ls : Array Slot), J254 σ253 = some (r, σr) → va_P D vwCl (wsG 57 ad (EZ ad cI cJ) σ253) H → va_S (AG 54 adz s.heap.size) s.heap H locs → lv_has ls 20 [(0, .ref (ad 48)), (1, .int a0), (2, .int a1), (4, .ref (ad 51)), (5, .int v0), (6, .ref (ad 54)), (7, .ref (ad 55)), (8, .ref (ad 56)), (9, .int y110), (10, .int v116), (11, .int y120), (12, .int y129), (14, .int x142)] → W p l e R s m args below meth c H locs (3 + 1) (20 + 6 * 1) Q (F0 m 427 ls []) := by
                                            intro σ253 H locs ls hf hP hS hl
                                            rw [eJ254] at hf
                                            refine lv_iconst (v := 1) hx hb dL_does_427 (by decide) ?_
                                            refine lv_goto (tgt := 432) hx hb dL_does_428 (by decide) ?_
                                            exact hJ202 1 σ253 _ _ ls hf hP hS (lv_sub hl [0, 1, 2, 3, 4, 5, 6, 7, 8, 9, 10, 11, 12] rfl)
                                          refine lv_if_eq (tgt := 427) hx hb dL_does_413 (by decide) (fun q255 => ?_) (fun q255 => ?_)
                                          · rw [if_pos q255] at hf
                                            exact hJ254 σ249 _ _ ls hf hP hS (lv_sub hl [0, 1, 2, 3, 4, 5, 6, 7, 8, 9, 10, 11, 12] rfl)
                                          · rw [if_neg q255] at hf
                                            refine lv_aload_n hx hb dL_does_416 rfl (lv_at hl 0 rfl) ?_
                                            refine lv_iload hx hb dL_does_417 (lv_at hl 12 rfl) ?_
                                            rcases bt_e hf with ⟨v256, hv, hf⟩ | ⟨n257, v256, hn, hv, hf⟩
                                            · refine g_yVi (τ := σ249) ⟨⟨hx, hb, hml, hown, hB⟩, hK, hi, hA, hAd, hP, hS⟩ hZ sub_ZX (c_X5_healthOf hflag (injS (by decide) hi) hv) (fun _ _ => rfl) cal_X5_healthOf kM_L_75 ⟨Nat.le_trans (Nat.le_of_ble_eq_true rfl) hRf, Nat.le_trans (Nat.le_of_ble_eq_true rfl) hRl⟩ 48 (by decide) rfl rfl rfl rfl hl.1 (Nat.le_of_ble_eq_true rfl) rfl dL_does_419 ⟨by omega, by omega⟩ (fun _ _ => rfl) (fun _ _ _ => rfl) (fun H locs hP hS => ?_)
                                              refine lv_bipush (v := 10) hx hb dL_does_422 (by decide) ?_
                                              refine lv_icmp_ne (tgt := 431) hx hb dL_does_424 (by decide) (fun q258 => ?_) (fun q258 => ?_)
                                              · rw [if_neg q258] at hf
                                                exact hJ233 σ249 _ _ ls hf hP hS (lv_sub hl [0, 1, 2, 3, 4, 5, 6, 7, 8, 9, 10, 11, 12] rfl)
                                              · rw [if_pos q258] at hf
                                                exact hJ254 σ249 _ _ ls hf hP hS (lv_sub hl [0, 1, 2, 3, 4, 5, 6, 7, 8, 9, 10, 11, 12] rfl)
                                            · cases hf
                                      refine lv_if_eq (tgt := 403) hx hb dL_does_384 (by decide) (fun q259 => ?_) (fun q259 => ?_)
                                      · rw [if_pos q259] at hf
                                        exact hJ251 v235 σ196 _ _ ls hf hP hS (lv_sub hl [0, 1, 2, 3, 4, 5, 6, 7, 8, 9, 10, 11, 12, 13] rfl)
                                      · rw [if_neg q259] at hf
                                        refine lv_iload_n hx hb dL_does_387 rfl (lv_at hl 1 rfl) ?_
                                        refine lv_if_ne (tgt := 403) hx hb dL_does_388 (by decide) (fun q260 => ?_) (fun q260 => ?_)
                                        · rw [if_neg q260] at hf
                                          exact hJ251 v235 σ196 _ _ ls hf hP hS (lv_sub hl [0, 1, 2, 3, 4, 5, 6, 7, 8, 9, 10, 11, 12, 13] rfl)
                                        · rw [if_pos q260] at hf
                                          refine lv_iload hx hb dL_does_391 (lv_at hl 12 rfl) ?_
                                          refine lv_iload hx hb dL_does_393 (lv_at hl 4 rfl) ?_
                                          refine lv_icmp_ne (tgt := 403) hx hb dL_does_395 (by decide) (fun q261 => ?_) (fun q261 => ?_)
                                          · rw [if_neg q261] at hf
                                            exact hJ251 v235 σ196 _ _ ls hf hP hS (lv_sub hl [0, 1, 2, 3, 4, 5, 6, 7, 8, 9, 10, 11, 12, 13] rfl)
                                          · rw [if_pos q261] at hf
                                            refine lv_iload hx hb dL_does_398 (lv_at hl 9 rfl) ?_
                                            refine lv_goto (tgt := 408) hx hb dL_does_400 (by decide) ?_
                                            exact hJ240 v235 v116 σ196 _ _ ls hf hP hS (lv_sub hl [0, 1, 2, 3, 4, 5, 6, 7, 8, 9, 10, 11, 12, 13] rfl)
                                    · rw [if_neg q248] at hf
                                      refine lv_iconst (v := 0) hx hb dL_does_378 (by decide) ?_
                                      refine lv_goto (tgt := 408) hx hb dL_does_379 (by decide) ?_
                                      exact hJ240 v235 0 σ196 _ _ ls hf hP hS (lv_sub hl [0, 1, 2, 3, 4, 5, 6, 7, 8, 9, 10, 11, 12, 13] rfl)
                                  · cases hf
                              refine lv_if_eq (tgt := 362) hx hb dL_does_336 (by decide) (fun q262 => ?_) (fun q262 => ?_)
                              · rw [if_pos q262] at hf
                                refine lv_iload hx hb dL_does_362 (lv_at hl 15 rfl) ?_
                                exact hJ199 v194 (y188 + y189) σ191 _ _ ls hf hP hS (lv_sub hl [2, 3, 4, 5, 6, 7, 8, 9, 10, 11, 12, 13, 14, 1] rfl)
                              · rw [if_neg q262] at hf
                                refine lv_aload hx hb dL_does_339 (lv_at hl 7 rfl) ?_
                                refine lv_iload hx hb dL_does_341 (lv_at hl 14 rfl) ?_
                                obtain ⟨hin, hf⟩ := gd_e hf
                                refine g_iald hx hb hK hP 54 4 (by decide) (EZ_54 _) hin dL_does_343 ?_
                                refine lv_iload hx hb dL_does_344 (lv_at hl 0 rfl) ?_
                                refine lv_icmp_le (tgt := 357) hx hb dL_does_346 (by decide) (fun q263 => ?_) (fun q263 => ?_)
                                · rw [if_pos q263] at hf
                                  refine lv_iload hx hb dL_does_357 (lv_at hl 0 rfl) ?_
                                  refine lv_goto (tgt := 364) hx hb dL_does_359 (by decide) ?_
                                  exact hJ199 v194 ((σ191 54 v0.toNatClampNeg) + 10) σ191 _ _ ls hf hP hS (lv_sub hl [2, 3, 4, 5, 6, 7, 8, 9, 10, 11, 12, 13, 14, 1] rfl)
                                · rw [if_neg q263] at hf
                                  refine lv_aload hx hb dL_does_349 (lv_at hl 7 rfl) ?_
                                  refine lv_iload hx hb dL_does_351 (lv_at hl 14 rfl) ?_
                                  obtain ⟨hin, hf⟩ := gd_e hf
                                  refine g_iald hx hb hK hP 54 4 (by decide) (EZ_54 _) hin dL_does_353 ?_
                                  refine lv_goto (tgt := 364) hx hb dL_does_354 (by decide) ?_
                                  exact hJ199 v194 (σ191 54 x142.toNatClampNeg) σ191 _ _ ls hf hP hS (lv_sub hl [2, 3, 4, 5, 6, 7, 8, 9, 10, 11, 12, 13, 14, 1] rfl)
                            · cases hf
                          obtain ⟨J265, eJ265, hf⟩ := jn_e1 hf
                          have hJ265 : ∀ (σ264 : Mem) (H : Heap) (locs : List Loc) (ls : Array Slot), J265 σ264 = some (r, σr) → va_P D vwCl (wsG 57 ad (EZ ad cI cJ) σ264) H → va_S (AG 54 adz s.heap.size) s.heap H locs → lv_has ls 20 [(0, .ref (ad 48)), (1, .int a0), (2, .int a1), (4, .ref (ad 51)), (5, .int v0), (6, .ref (ad 54)), (7, .ref (ad 55)), (8, .ref (ad 56)), (9, .int y110), (10, .int v116), (11, .int y120), (12, .int y129), (14, .int x142), (15, .int (y188 + y189))] → W p l e R s m args below meth c H locs (3 + 1) (20 + 6 * 1) Q (F0 m 315 ls []) := by
                            intro σ264 H locs ls hf hP hS hl
                            rw [eJ265] at hf
                            refine lv_iconst (v := 0) hx hb dL_does_315 (by decide) ?_
                            exact hJ193 0 σ264 _ _ ls hf hP hS (lv_sub hl [0, 1, 2, 3, 4, 5, 6, 7, 8, 9, 10, 11, 12, 13] rfl)
                          refine lv_if_eq (tgt := 315) hx hb dL_does_295 (by decide) (fun q266 => ?_) (fun q266 => ?_)
                          · rw [if_pos q266] at hf
                            exact hJ265 σ187 _ _ ls hf hP hS (lv_sub hl [1, 2, 3, 4, 5, 6, 7, 8, 9, 10, 11, 12, 13, 0] rfl)
                          · rw [if_neg q266] at hf
                            refine lv_iload_n hx hb dL_does_298 rfl (lv_at hl 2 rfl) ?_
                            refine lv_bipush (v := 9) hx hb dL_does_299 (by decide) ?_
                            refine lv_icmp_ne (tgt := 315) hx hb dL_does_301 (by decide) (fun q267 => ?_) (fun q267 => ?_)
                            · rw [if_neg q267] at hf
                              exact hJ265 σ187 _ _ ls hf hP hS (lv_sub hl [1, 2, 3, 4, 5, 6, 7, 8, 9, 10, 11, 12, 13, 0] rfl)
                            · rw [if_pos q267] at hf
                              refine lv_iload hx hb dL_does_304 (lv_at hl 10 rfl) ?_
                              refine lv_iload hx hb dL_does_306 (lv_at hl 13 rfl) ?_
                              refine lv_icmp_ne (tgt := 315) hx hb dL_does_308 (by decide) (fun q268 => ?_) (fun q268 => ?_)
                              · rw [if_neg q268] at hf
                                exact hJ265 σ187 _ _ ls hf hP hS (lv_sub hl [1, 2, 3, 4, 5, 6, 7, 8, 9, 10, 11, 12, 13, 0] rfl)
                              · rw [if_pos q268] at hf
                                refine lv_iconst (v := 1) hx hb dL_does_311 (by decide) ?_
                                refine lv_goto (tgt := 316) hx hb dL_does_312 (by decide) ?_
                                exact hJ193 1 σ187 _ _ ls hf hP hS (lv_sub hl [1, 2, 3, 4, 5, 6, 7, 8, 9, 10, 11, 12, 13, 0] rfl)
                        obtain ⟨J271, eJ271, hf⟩ := jn_e2 hf
                        have hJ271 : ∀ (y270 : Int32) (σ269 : Mem) (H : Heap) (locs : List Loc) (ls : Array Slot), J271 y270 σ269 = some (r, σr) → va_P D vwCl (wsG 57 ad (EZ ad cI cJ) σ269) H → va_S (AG 54 adz s.heap.size) s.heap H locs → lv_has ls 20 [(0, .ref (ad 48)), (1, .int a0), (2, .int a1), (4, .ref (ad 51)), (5, .int v0), (6, .ref (ad 54)), (7, .ref (ad 55)), (8, .ref (ad 56)), (9, .int y110), (10, .int v116), (11, .int y120), (12, .int y129), (14, .int x142)] → W p l e R s m args below meth c H locs (3 + 1) (20 + 6 * 1) Q (F0 m 289 ls [.int y270]) := by
                          intro y270 σ269 H locs ls hf hP hS hl
                          rw [eJ271] at hf
                          refine lv_iconst (v := 0) hx hb dL_does_289 (by decide) ?_
                          exact hJ190 y270 0 σ269 _ _ ls hf hP hS (lv_sub hl [0, 1, 2, 3, 4, 5, 6, 7, 8, 9, 10, 11, 12] rfl)
                        refine lv_if_eq (tgt := 289) hx hb dL_does_274 (by decide) (fun q272 => ?_) (fun q272 => ?_)
                        · rw [if_pos q272] at hf
                          exact hJ271 (σ143 54 x142.toNatClampNeg) σ143 _ _ ls hf hP hS (lv_sub hl [0, 1, 2, 3, 4, 5, 6, 7, 8, 9, 10, 11, 13] rfl)
                        · rw [if_neg q272] at hf
                          refine lv_iload hx hb dL_does_277 (lv_at hl 13 rfl) ?_
                          refine lv_iload hx hb dL_does_279 (lv_at hl 4 rfl) ?_
                          refine lv_icmp_ne (tgt := 289) hx hb dL_does_281 (by decide) (fun q273 => ?_) (fun q273 => ?_)
                          · rw [if_neg q273] at hf
                            exact hJ271 (σ143 54 x142.toNatClampNeg) σ143 _ _ ls hf hP hS (lv_sub hl [0, 1, 2, 3, 4, 5, 6, 7, 8, 9, 10, 11, 13] rfl)
                          · rw [if_pos q273] at hf
                            refine lv_iload hx hb dL_does_284 (lv_at hl 11 rfl) ?_
                            refine lv_goto (tgt := 290) hx hb dL_does_286 (by decide) ?_
                            exact hJ190 (σ143 54 x142.toNatClampNeg) y129 σ143 _ _ ls hf hP hS (lv_sub hl [0, 1, 2, 3, 4, 5, 6, 7, 8, 9, 10, 11, 13] rfl)
                exact hL_L_does_252 FU y132 0 σ131 _ _ ls hf hP hS (lv_sub hl [2, 3, 4, 5, 6, 7, 8, 9, 10, 11, 12, 13, 1, 0] rfl)
              obtain ⟨J275, eJ275, hf⟩ := jn_e1 hf
              have hJ275 : ∀ (σ274 : Mem) (H : Heap) (locs : List Loc) (ls : Array Slot), J275 σ274 = some (r, σr) → va_P D vwCl (wsG 57 ad (EZ ad cI cJ) σ274) H → va_S (AG 54 adz s.heap.size) s.heap H locs → lv_has ls 20 [(0, .ref (ad 48)), (1, .int a0), (2, .int a1), (4, .ref (ad 51)), (5, .int v0), (6, .ref (ad 54)), (7, .ref (ad 55)), (8, .ref (ad 56)), (9, .int y110), (10, .int v116), (11, .int y120), (12, .int y129)] → W p l e R s m args below meth c H locs (3 + 1) (20 + 6 * 1) Q (F0 m 242 ls []) := by
                intro σ274 H locs ls hf hP hS hl
                rw [eJ275] at hf
                refine lv_iconst (v := 1) hx hb dL_does_242 (by decide) ?_
                refine lv_goto (tgt := 247) hx hb dL_does_243 (by decide) ?_
                exact hJ133 1 σ274 _ _ ls hf hP hS (lv_sub hl [0, 1, 2, 3, 4, 5, 6, 7, 8, 9, 10, 11] rfl)
              refine lv_if_ne (tgt := 242) hx hb dL_does_227 (by decide) (fun q276 => ?_) (fun q276 => ?_)
              · rw [if_neg q276] at hf
                exact hJ275 σ128 _ _ ls hf hP hS (lv_sub hl [1, 2, 3, 4, 5, 6, 7, 8, 9, 10, 11, 0] rfl)
              · rw [if_pos q276] at hf
                refine lv_aload_n hx hb dL_does_230 rfl (lv_at hl 1 rfl) ?_
                obtain ⟨v277, hv, hf⟩ := bd_e hf
                refine g_cVi (τ := σ128) ⟨⟨hx, hb, hml, hown, hB⟩, hK, hi, hA, hAd, hP, hS⟩ sub_ZX (c_X5_calls (injS (by decide) hi) hv) (fun _ _ => rfl) cal_X5_calls kM_L_66 ⟨Nat.le_trans (Nat.le_of_ble_eq_true rfl) hRf, Nat.le_trans (Nat.le_of_ble_eq_true rfl) hRl⟩ 48 (by decide) rfl rfl rfl rfl hl.1 (Nat.le_of_ble_eq_true rfl) rfl dL_does_231 ⟨by omega, by omega⟩ (fun _ _ => rfl) (fun _ _ _ => rfl) (fun H locs hP hS => ?_)
                refine lv_aload hx hb dL_does_234 (lv_at hl 4 rfl) ?_
                refine lv_bipush (v := 6) hx hb dL_does_236 (by decide) ?_
                obtain ⟨hin, hf⟩ := gd_e hf
                refine g_iald hx hb hK hP 51 13 (by decide) (EZ_51 _) hin dL_does_238 ?_
                refine lv_icmp_ne (tgt := 246) hx hb dL_does_239 (by decide) (fun q278 => ?_) (fun q278 => ?_)
                · rw [if_neg q278] at hf
                  refine lv_iconst (v := 0) hx hb dL_does_246 (by decide) ?_
                  exact hJ133 0 σ128 _ _ ls hf hP hS (lv_sub hl [1, 2, 3, 4, 5, 6, 7, 8, 9, 10, 11, 0] rfl)
                · rw [if_pos q278] at hf
                  exact hJ275 σ128 _ _ ls hf hP hS (lv_sub hl [1, 2, 3, 4, 5, 6, 7, 8, 9, 10, 11, 0] rfl)
            obtain ⟨J280, eJ280, hf⟩ := jn_e1 hf
            have hJ280 : ∀ (σ279 : Mem) (H : Heap) (locs : List Loc) (ls : Array Slot), J280 σ279 = some (r, σr) → va_P D vwCl (wsG 57 ad (EZ ad cI cJ) σ279) H → va_S (AG 54 adz s.heap.size) s.heap H locs → lv_has ls 20 [(0, .ref (ad 48)), (1, .int a0), (2, .int a1), (4, .ref (ad 51)), (5, .int v0), (6, .ref (ad 54)), (7, .ref (ad 55)), (8, .ref (ad 56)), (9, .int y110), (10, .int v116), (11, .int y120)] → W p l e R s m args below meth c H locs (3 + 1) (20 + 6 * 1) Q (F0 m 208 ls []) := by
              intro σ279 H locs ls hf hP hS hl
              rw [eJ280] at hf
              refine lv_iconst (v := 2) hx hb dL_does_208 (by decide) ?_
              refine lv_goto (tgt := 223) hx hb dL_does_209 (by decide) ?_
              exact hJ130 2 σ279 _ _ ls hf hP hS (lv_sub hl [0, 1, 2, 3, 4, 5, 6, 7, 8, 9, 10] rfl)
            refine lv_if_eq (tgt := 208) hx hb dL_does_199 (by decide) (fun q281 => ?_) (fun q281 => ?_)
            · rw [if_pos q281] at hf
              exact hJ280 σ127 _ _ ls hf hP hS (lv_sub hl [0, 1, 2, 3, 4, 5, 6, 7, 8, 9, 10] rfl)
            · rw [if_neg q281] at hf
              refine lv_iload_n hx hb dL_does_202 rfl (lv_at hl 1 rfl) ?_
              refine lv_bipush (v := 10) hx hb dL_does_203 (by decide) ?_
              refine lv_icmp_ne (tgt := 212) hx hb dL_does_205 (by decide) (fun q282 => ?_) (fun q282 => ?_)
              · rw [if_neg q282] at hf
                refine lv_iload_n hx hb dL_does_212 rfl (lv_at hl 1 rfl) ?_
                refine lv_bipush (v := 9) hx hb dL_does_213 (by decide) ?_
                refine lv_icmp_ne (tgt := 222) hx hb dL_does_215 (by decide) (fun q283 => ?_) (fun q283 => ?_)
                · rw [if_neg q283] at hf
                  refine lv_iconst (v := 1) hx hb dL_does_222 (by decide) ?_
                  exact hJ130 1 σ127 _ _ ls hf hP hS (lv_sub hl [0, 1, 2, 3, 4, 5, 6, 7, 8, 9, 10] rfl)
                · rw [if_pos q283] at hf
                  refine lv_iconst (v := 3) hx hb dL_does_218 (by decide) ?_
                  refine lv_goto (tgt := 223) hx hb dL_does_219 (by decide) ?_
                  exact hJ130 3 σ127 _ _ ls hf hP hS (lv_sub hl [0, 1, 2, 3, 4, 5, 6, 7, 8, 9, 10] rfl)
              · rw [if_pos q282] at hf
                exact hJ280 σ127 _ _ ls hf hP hS (lv_sub hl [0, 1, 2, 3, 4, 5, 6, 7, 8, 9, 10] rfl)
          refine lv_if_eq (tgt := 195) hx hb dL_does_188 (by decide) (fun q284 => ?_) (fun q284 => ?_)
          · rw [if_pos q284] at hf
            refine lv_iconst (v := 0) hx hb dL_does_195 (by decide) ?_
            exact hJ126 6 (σ119 51 (6 : Int32).toNatClampNeg) 0 σ119 _ _ ls hf hP hS (lv_sub hl [1, 2, 3, 4, 5, 6, 7, 8, 9, 10, 0] rfl)
          · rw [if_neg q284] at hf
            refine lv_iconst (v := 1) hx hb dL_does_191 (by decide) ?_
            refine lv_goto (tgt := 196) hx hb dL_does_192 (by decide) ?_
            exact hJ126 6 (σ119 51 (6 : Int32).toNatClampNeg) 1 σ119 _ _ ls hf hP hS (lv_sub hl [1, 2, 3, 4, 5, 6, 7, 8, 9, 10, 0] rfl)
        refine lv_icmp_le (tgt := 177) hx hb dL_does_170 (by decide) (fun q285 => ?_) (fun q285 => ?_)
        · rw [if_pos q285] at hf
          refine lv_iconst (v := 0) hx hb dL_does_177 (by decide) ?_
          exact hJ121 0 σ118 _ _ ls hf hP hS (lv_sub hl [1, 2, 3, 4, 5, 6, 7, 8, 9, 0] rfl)
        · rw [if_neg q285] at hf
          refine lv_iconst (v := 1) hx hb dL_does_173 (by decide) ?_
          refine lv_goto (tgt := 178) hx hb dL_does_174 (by decide) ?_
          exact hJ121 1 σ118 _ _ ls hf hP hS (lv_sub hl [1, 2, 3, 4, 5, 6, 7, 8, 9, 0] rfl)
      obtain ⟨J288, eJ288, hf⟩ := jn_e2 hf
      have hJ288 : ∀ (y287 : Int32) (σ286 : Mem) (H : Heap) (locs : List Loc) (ls : Array Slot), J288 y287 σ286 = some (r, σr) → va_P D vwCl (wsG 57 ad (EZ ad cI cJ) σ286) H → va_S (AG 54 adz s.heap.size) s.heap H locs → lv_has ls 20 [(0, .ref (ad 48)), (1, .int a0), (2, .int a1), (4, .ref (ad 51)), (5, .int v0), (6, .ref (ad 54)), (7, .ref (ad 55)), (8, .ref (ad 56)), (9, .int y110)] → W p l e R s m args below meth c H locs 3 20 Q (F0 m 150 ls [.int y287, .ref (ad 48)]) := by
        intro y287 σ286 H locs ls hf hP hS hl
        rw [eJ288] at hf
        refine lv_iload_n hx hb dL_does_150 rfl (lv_at hl 2 rfl) ?_
        refine lv_iconst (v := 4) hx hb dL_does_151 (by decide) ?_
        refine lv_iremJ hx hb dL_does_152 (by decide) ?_
        refine lv_goto (tgt := 159) hx hb dL_does_153 (by decide) ?_
        exact hJ115 y287 (jrem a1 4) σ286 _ _ ls hf hP hS (lv_sub hl [0, 1, 2, 3, 4, 5, 6, 7, 8] rfl)
      refine lv_if_eq (tgt := 150) hx hb dL_does_135 (by decide) (fun q289 => ?_) (fun q289 => ?_)
      · rw [if_pos q289] at hf
        exact hJ288 a0 σ109 _ _ ls hf hP hS (lv_sub hl [1, 2, 3, 4, 5, 6, 7, 8, 0] rfl)
      · rw [if_neg q289] at hf
        refine lv_iload_n hx hb dL_does_138 rfl (lv_at hl 2 rfl) ?_
        refine lv_bipush (v := 6) hx hb dL_does_139 (by decide) ?_
        refine lv_icmp_eq (tgt := 150) hx hb dL_does_141 (by decide) (fun q290 => ?_) (fun q290 => ?_)
        · rw [if_pos q290] at hf
          exact hJ288 a0 σ109 _ _ ls hf hP hS (lv_sub hl [1, 2, 3, 4, 5, 6, 7, 8, 0] rfl)
        · rw [if_neg q290] at hf
          refine lv_iload_n hx hb dL_does_144 rfl (lv_at hl 2 rfl) ?_
          refine lv_bipush (v := 9) hx hb dL_does_145 (by decide) ?_
          refine lv_icmp_ne (tgt := 156) hx hb dL_does_147 (by decide) (fun q291 => ?_) (fun q291 => ?_)
          · rw [if_neg q291] at hf
            refine lv_iload_n hx hb dL_does_156 rfl (lv_at hl 3 rfl) ?_
            refine lv_iconst (v := 5) hx hb dL_does_157 (by decide) ?_
            refine lv_iremJ hx hb dL_does_158 (by decide) ?_
            exact hJ115 a0 (jrem a1 5) σ109 _ _ ls hf hP hS (lv_sub hl [1, 2, 3, 4, 5, 6, 7, 8, 0] rfl)
          · rw [if_pos q291] at hf
            exact hJ288 a0 σ109 _ _ ls hf hP hS (lv_sub hl [1, 2, 3, 4, 5, 6, 7, 8, 0] rfl)
    refine lv_icmp_ne (tgt := 115) hx hb dL_does_103 (by decide) (fun q292 => ?_) (fun q292 => ?_)
    · rw [if_neg q292] at hf
      refine lv_iload_n hx hb dL_does_115 rfl (lv_at hl 1 rfl) ?_
      refine lv_iconst (v := 5) hx hb dL_does_116 (by decide) ?_
      refine lv_icmp_ne (tgt := 126) hx hb dL_does_117 (by decide) (fun q293 => ?_) (fun q293 => ?_)
      · rw [if_neg q293] at hf
        refine lv_iload_n hx hb dL_does_126 rfl (lv_at hl 3 rfl) ?_
        refine lv_bipush (v := 30) hx hb dL_does_127 (by decide) ?_
        refine lv_iremJ hx hb dL_does_129 (by decide) ?_
        exact hJ111 (jrem a2 30) σ108 _ _ ls hf hP hS (lv_sub hl [0, 1, 2, 4, 5, 6, 7, 8] rfl)
      · rw [if_pos q293] at hf
        refine lv_iload_n hx hb dL_does_120 rfl (lv_at hl 3 rfl) ?_
        refine lv_iconst (v := 4) hx hb dL_does_121 (by decide) ?_
        refine lv_iremJ hx hb dL_does_122 (by decide) ?_
        refine lv_goto (tgt := 130) hx hb dL_does_123 (by decide) ?_
        exact hJ111 (jrem a2 4) σ108 _ _ ls hf hP hS (lv_sub hl [0, 1, 2, 4, 5, 6, 7, 8] rfl)
    · rw [if_pos q292] at hf
      refine lv_iconst (v := 1) hx hb dL_does_106 (by decide) ?_
      refine lv_iload_n hx hb dL_does_107 rfl (lv_at hl 3 rfl) ?_
      refine lv_bipush (v := 40) hx hb dL_does_108 (by decide) ?_
      refine lv_iremJ hx hb dL_does_110 (by decide) ?_
      refine lv_iadd hx hb dL_does_111 ?_
      refine lv_goto (tgt := 130) hx hb dL_does_112 (by decide) ?_
      exact hJ111 (1 + (jrem a2 40)) σ108 _ _ ls hf hP hS (lv_sub hl [0, 1, 2, 4, 5, 6, 7, 8] rfl)
  have hL_L_does_25 : ∀ (n : Nat) (x105 : Int32) (σ106 : Mem) (H : Heap) (locs : List Loc) (ls : Array Slot), L_L_does_25 n K107 a0 a1 a2 v0 x105 σ106 = some (r, σr) → va_P D vwCl (wsG 57 ad (EZ ad cI cJ) σ106) H → va_S (AG 54 adz s.heap.size) s.heap H locs → lv_has ls 20 [(0, .ref (ad 48)), (1, .int a0), (2, .int a1), (3, .int a2), (4, .ref (ad 51)), (5, .int v0), (6, .ref (ad 54)), (7, .ref (ad 55)), (8, .ref (ad 56)), (9, .int x105)] → W p l e R s m args below meth c H locs 3 20 Q (F0 m 25 ls []) := by
    intro n
    induction n with
    | zero => intro x105 σ106 H locs ls hf; cases hf
    | succ n ih =>
      intro x105 σ106 H locs ls hf hP hS hl
      rw [L_L_does_25] at hf
      refine lv_iload hx hb dL_does_25 (lv_at hl 9 rfl) ?_
      refine lv_aload hx hb dL_does_27 (lv_at hl 4 rfl) ?_
      refine lv_bipush (v := 7) hx hb dL_does_29 (by decide) ?_
      obtain ⟨hin, hf⟩ := gd_e hf
      refine g_iald hx hb hK hP 51 13 (by decide) (EZ_51 _) hin dL_does_31 ?_
      refine lv_icmp_ge (tgt := 100) hx hb dL_does_32 (by decide) (fun q294 => ?_) (fun q294 => ?_)
      · rw [if_pos q294] at hf
        exact hKK107 σ106 _ _ ls hf hP hS (lv_sub hl [0, 1, 2, 3, 4, 5, 6, 7, 8] rfl)
      · rw [if_neg q294] at hf
        refine lv_aload hx hb dL_does_35 (lv_at hl 6 rfl) ?_
        refine lv_iload hx hb dL_does_37 (lv_at hl 9 rfl) ?_
        refine lv_aload_n hx hb dL_does_39 rfl (lv_at hl 0 rfl) ?_
        refine lv_iload hx hb dL_does_40 (lv_at hl 9 rfl) ?_
        rcases bt_e hf with ⟨v295, hv, hf⟩ | ⟨n296, v295, hn, hv, hf⟩
        · refine g_yVi (τ := σ106) ⟨⟨hx, hb, hml, hown, hB⟩, hK, hi, hA, hAd, hP, hS⟩ hZ sub_ZX (c_X5_readyAt hflag (injS (by decide) hi) hv) (fun _ _ => rfl) cal_X5_readyAt kM_L_72 ⟨Nat.le_trans (Nat.le_of_ble_eq_true rfl) hRf, Nat.le_trans (Nat.le_of_ble_eq_true rfl) hRl⟩ 48 (by decide) rfl rfl rfl rfl hl.1 (Nat.le_of_ble_eq_true rfl) rfl dL_does_42 ⟨by omega, by omega⟩ (fun _ _ => rfl) (fun _ _ _ => rfl) (fun H locs hP hS => ?_)
          obtain ⟨hin, hf⟩ := gd_e hf
          obtain ⟨σ297, eσ297, hf⟩ := stp_e hf
          refine g_iast (σ1 := σ297) hx hb hK hP hi hAd hS 54 4 (by decide) EZ_54 hin dL_does_45 eσ297 (fun H locs hP hS => ?_)
          refine lv_aload hx hb dL_does_46 (lv_at hl 8 rfl) ?_
          refine lv_iload hx hb dL_does_48 (lv_at hl 9 rfl) ?_
          refine lv_aload_n hx hb dL_does_50 rfl (lv_at hl 0 rfl) ?_
          refine lv_iload hx hb dL_does_51 (lv_at hl 9 rfl) ?_
          rcases bt_e hf with ⟨v298, hv, hf⟩ | ⟨n299, v298, hn, hv, hf⟩
          · refine g_yVi (τ := σ297) ⟨⟨hx, hb, hml, hown, hB⟩, hK, hi, hA, hAd, hP, hS⟩ hZ sub_ZX (c_X5_roomOf hflag (injS (by decide) hi) hv) (fun _ _ => rfl) cal_X5_roomOf kM_L_78 ⟨Nat.le_trans (Nat.le_of_ble_eq_true rfl) hRf, Nat.le_trans (Nat.le_of_ble_eq_true rfl) hRl⟩ 48 (by decide) rfl rfl rfl rfl hl.1 (Nat.le_of_ble_eq_true rfl) rfl dL_does_53 ⟨by omega, by omega⟩ (fun _ _ => rfl) (fun _ _ _ => rfl) (fun H locs hP hS => ?_)
            obtain ⟨hin, hf⟩ := gd_e hf
            obtain ⟨σ300, eσ300, hf⟩ := stp_e hf
            refine g_iast (σ1 := σ300) hx hb hK hP hi hAd hS 56 4 (by decide) EZ_56 hin dL_does_56 eσ300 (fun H locs hP hS => ?_)
            refine lv_iconst (v := 0) hx hb dL_does_57 (by decide) ?_
            refine lv_istore (lv' := [(10, .int 0), (0, .ref (ad 48)), (1, .int a0), (2, .int a1), (3, .int a2), (4, .ref (ad 51)), (5, .int v0), (6, .ref (ad 54)), (7, .ref (ad 55)), (8, .ref (ad 56)), (9, .int x105)]) hx hb dL_does_58 hl (by decide) rfl (fun ls hl => ?_)
            obtain ⟨K308, eK308, hf⟩ := lp_e1 (b := fun K => L_L_does_60 FU K a0 a1 a2 v0 x105 0 σ300) hf
            replace hf : L_L_does_60 FU K308 a0 a1 a2 v0 x105 0 σ300 = some (r, σr) := hf
            have hKK308 : ∀ (σ309 : Mem) (H : Heap) (locs : List Loc) (ls : Array Slot), K308 σ309 = some (r, σr) → va_P D vwCl (wsG 57 ad (EZ ad cI cJ) σ309) H → va_S (AG 54 adz s.heap.size) s.heap H locs → lv_has ls 20 [(0, .ref (ad 48)), (1, .int a0), (2, .int a1), (3, .int a2), (4, .ref (ad 51)), (5, .int v0), (6, .ref (ad 54)), (7, .ref (ad 55)), (8, .ref (ad 56)), (9, .int x105)] → W p l e R s m args below meth c H locs 3 20 Q (F0 m 94 ls []) := by
              intro σ309 H locs ls hf hP hS hl
              rw [eK308] at hf
              refine lv_iinc (v := (x105 + 1)) (lv' := [(9, .int (x105 + 1)), (0, .ref (ad 48)), (1, .int a0), (2, .int a1), (3, .int a2), (4, .ref (ad 51)), (5, .int v0), (6, .ref (ad 54)), (7, .ref (ad 55)), (8, .ref (ad 56))]) hx hb dL_does_94 hl (k := 9) rfl rfl (by decide) rfl (fun ls hl => ?_)
              refine lv_goto (tgt := 25) hx hb dL_does_97 (by decide) ?_
              exact ih (x105 + 1) σ309 _ _ ls hf hP hS (lv_sub hl [1, 2, 3, 4, 5, 6, 7, 8, 9, 0] rfl)
            have hL_L_does_60 : ∀ (n : Nat) (x306 : Int32) (σ307 : Mem) (H : Heap) (locs : List Loc) (ls : Array Slot), L_L_does_60 n K308 a0 a1 a2 v0 x105 x306 σ307 = some (r, σr) → va_P D vwCl (wsG 57 ad (EZ ad cI cJ) σ307) H → va_S (AG 54 adz s.heap.size) s.heap H locs → lv_has ls 20 [(0, .ref (ad 48)), (1, .int a0), (2, .int a1), (3, .int a2), (4, .ref (ad 51)), (5, .int v0), (6, .ref (ad 54)), (7, .ref (ad 55)), (8, .ref (ad 56)), (9, .int x105), (10, .int x306)] → W p l e R s m args below meth c H locs 3 20 Q (F0 m 60 ls []) := by
              intro n
              induction n with
              | zero => intro x306 σ307 H locs ls hf; cases hf
              | succ n ih =>
                intro x306 σ307 H locs ls hf hP hS hl
                rw [L_L_does_60] at hf
                refine lv_iload hx hb dL_does_60 (lv_at hl 10 rfl) ?_
                refine lv_aload hx hb dL_does_62 (lv_at hl 4 rfl) ?_
                refine lv_bipush (v := 8) hx hb dL_does_64 (by decide) ?_
                obtain ⟨hin, hf⟩ := gd_e hf
                refine g_iald hx hb hK hP 51 13 (by decide) (EZ_51 _) hin dL_does_66 ?_
                refine lv_icmp_ge (tgt := 94) hx hb dL_does_67 (by decide) (fun q310 => ?_) (fun q310 => ?_)
                · rw [if_pos q310] at hf
                  exact hKK308 σ307 _ _ ls hf hP hS (lv_sub hl [0, 1, 2, 3, 4, 5, 6, 7, 8, 9] rfl)
                · rw [if_neg q310] at hf
                  refine lv_aload hx hb dL_does_70 (lv_at hl 7 rfl) ?_
                  refine lv_iconst (v := 3) hx hb dL_does_72 (by decide) ?_
                  refine lv_iload hx hb dL_does_73 (lv_at hl 9 rfl) ?_
                  refine lv_imul hx hb dL_does_75 ?_
                  refine lv_iload hx hb dL_does_76 (lv_at hl 10 rfl) ?_
                  refine lv_iadd hx hb dL_does_78 ?_
                  refine lv_aload_n hx hb dL_does_79 rfl (lv_at hl 0 rfl) ?_
                  refine lv_iload hx hb dL_does_80 (lv_at hl 9 rfl) ?_
                  refine lv_iload hx hb dL_does_82 (lv_at hl 10 rfl) ?_
                  rcases bt_e hf with ⟨v311, hv, hf⟩ | ⟨n312, v311, hn, hv, hf⟩
                  · refine g_yVi (τ := σ307) ⟨⟨hx, hb, hml, hown, hB⟩, hK, hi, hA, hAd, hP, hS⟩ hZ sub_ZX (c_X5_stageOf hflag (injS (by decide) hi) hv) (fun _ _ => rfl) cal_X5_stageOf kM_L_81 ⟨Nat.le_trans (Nat.le_of_ble_eq_true rfl) hRf, Nat.le_trans (Nat.le_of_ble_eq_true rfl) hRl⟩ 48 (by decide) rfl rfl rfl rfl hl.1 (Nat.le_of_ble_eq_true rfl) rfl dL_does_84 ⟨by omega, by omega⟩ (fun _ _ => rfl) (fun _ _ _ => rfl) (fun H locs hP hS => ?_)
                    obtain ⟨hin, hf⟩ := gd_e hf
                    obtain ⟨σ313, eσ313, hf⟩ := stp_e hf
                    refine g_iast (σ1 := σ313) hx hb hK hP hi hAd hS 55 12 (by decide) EZ_55 hin dL_does_87 eσ313 (fun H locs hP hS => ?_)
                    refine lv_iinc (v := (x306 + 1)) (lv' := [(10, .int (x306 + 1)), (0, .ref (ad 48)), (1, .int a0), (2, .int a1), (3, .int a2), (4, .ref (ad 51)), (5, .int v0), (6, .ref (ad 54)), (7, .ref (ad 55)), (8, .ref (ad 56)), (9, .int x105)]) hx hb dL_does_88 hl (k := 10) rfl rfl (by decide) rfl (fun ls hl => ?_)
                    refine lv_goto (tgt := 60) hx hb dL_does_91 (by decide) ?_
                    exact ih (x306 + 1) σ313 _ _ ls hf hP hS (lv_sub hl [1, 2, 3, 4, 5, 6, 7, 8, 9, 10, 0] rfl)
                  · cases hf
            exact hL_L_does_60 FU 0 σ300 _ _ ls hf hP hS (lv_sub hl [1, 2, 3, 4, 5, 6, 7, 8, 9, 10, 0] rfl)
          · cases hf
        · cases hf
  exact hL_L_does_25 FU 0 σ1 _ _ ls hf hP hS (lv_sub hl [5, 6, 7, 8, 9, 4, 3, 2, 1, 0] rfl)
