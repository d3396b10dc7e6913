/-! THE PLACES ALONE -/
def EP (ad : Nat → Nat) (cI : ClassId) : Ent := fun k f => match k with
  | 0 => .inr (2, [.ref (ad 1), .ref (ad 2), .ref (ad 3), .ref (ad 4), .ref (ad 5), .ref (ad 6)])
  | 1 => .inl (cI, 32, .inl f)
  | 2 => .inl (cI, 8, .inl f)
  | 3 => .inl (cI, 40, .inl f)
  | 4 => .inl (cI, 40, .inl f)
  | 5 => .inl (cI, 40, .inl f)
  | _ => .inl (cI, 8, .inl f)
def EO (ad : Nat → Nat) (cI : ClassId) : Ent := fun k f => match k with
  | 0 => .inr (1, [.int (f 0), .ref (ad 1), .ref (ad 2), .ref (ad 3), .ref (ad 4), .ref (ad 5), .ref (ad 6), .ref (ad 7), .ref (ad 8), .ref (ad 9)])
  | 1 => .inl (cI, 4, .inl f)
  | 2 => .inl (cI, 4, .inl f)
  | 3 => .inl (cI, 4, .inl f)
  | 4 => .inl (cI, 4, .inl f)
  | 5 => .inl (cI, 4, .inl f)
  | 6 => .inl (cI, 20, .inl f)
  | 7 => .inl (cI, 12, .inl f)
  | 8 => .inl (cI, 24, .inl f)
  | _ => .inl (cI, 4, .inl f)
def EQ (ad : Nat → Nat) (cI : ClassId) : Ent := fun k f => match k with
  | 0 => .inr (3, [.int (f 0), .ref (ad 1), .ref (ad 2), .ref (ad 3), .ref (ad 4), .ref (ad 5)])
  | 1 => .inl (cI, 3, .inl f)
  | 2 => .inl (cI, 3, .inl f)
  | 3 => .inl (cI, 12, .inl f)
  | 4 => .inl (cI, 12, .inl f)
  | _ => .inl (cI, 12, .inl f)
def EL (ad : Nat → Nat) (cI : ClassId) : Ent := fun k f => match k with
  | 0 => .inr (0, [.ref (ad 1), .int (f 1)])
  | _ => .inl (cI, 2560, .inl f)
def f_P2_clear (σ : Mem) : Option (Mem) :=
stp (fl σ 1 32 (-1)) fun σ1 =>
stp (fl σ1 2 8 (-1)) fun σ2 =>
stp (fl σ2 3 40 0) fun σ3 =>
stp (fl σ3 4 40 0) fun σ4 =>
stp (fl σ4 5 40 0) fun σ5 =>
some σ5
set_option maxHeartbeats 4000000 in
set_option maxRecDepth 100000 in
theorem c_P2_clear {l : Launch} {D : va_G} {cI cJ : ClassId} {ad : Nat → Nat} {σ : Mem} {σr : Mem}  (hi : injG 7 ad) (hf : f_P2_clear σ = some σr) : MGv l yX2_clear (Cond.code yX2_clear cX2_clear 1 none :: BIG) 1 23 D cI cJ 7 ad (EP ad cI) [.ref (ad 0)] σ σr := by
  refine MGv.ofW (cc := cX2_clear) (nL := 1) (ret := none) (by decide) rfl hi ?_
  intro p e s m args below meth c hx hb hr hml hlocks hown hB hK hP hA hAd hS
  have hown : s.vm.findClass RX2 = some m.cls := hown
  have hl := lv_entry ([.ref (ad 0)] : List Value) (n := 1) (Nat.le_of_ble_eq_true rfl)
  rw [lg_entry_eq]
  generalize (lg_sl ([.ref (ad 0)] : List Value) ++ List.replicate (1 - (lg_sl ([.ref (ad 0)] : List Value)).length) Slot.unset).toArray = ls at hl ⊢
  have hl : lv_has ls 1 [(0, .ref (ad 0))] := hl
  generalize hQ : MQ below (Qgv D 7 ad (EP ad cI) σr s.heap.size) _ s 0 0 (AG 7 ad s.heap.size) = Q
  have hQ := hQ.symm
  obtain ⟨R, hR, hRf, hRl⟩ : ∃ R : Room, R = ({ frames := 1, cells := 0, slots := 0, locals := 23 } : Room) ∧ 1 ≤ R.frames ∧ 23 ≤ R.locals := ⟨_, rfl, Nat.le_refl _, Nat.le_refl _⟩
  rw [← hR]
  unfold f_P2_clear at hf
  refine lv_aload_n hx hb dX2_clear_0 rfl (lv_at hl 0 rfl) ?_
  refine g_get (v := .ref (ad 1)) hx hb hB hown hK hP 0 (by decide) rfl rfl kU_X2 0 (by decide) kF_X2_9 rfl rfl dX2_clear_1 ?_
  refine lv_iconst (v := (-1)) hx hb dX2_clear_4 (by decide) ?_
  obtain ⟨σ1, eσ1, hf⟩ := stp_e hf
  refine g_fill (τ := σ1) ⟨⟨hx, hb, hml, hown, hB⟩, hK, hi, hA, hAd, hP, hS⟩ 1 32 (by decide) (by decide) (fun _ => rfl) kM_X2_33 hRf hRl hl.1 rfl dX2_clear_5 eσ1 (fun H locs hP hS => ?_)
  refine lv_aload_n hx hb dX2_clear_8 rfl (lv_at hl 0 rfl) ?_
  refine g_get (v := .ref (ad 2)) hx hb hB hown hK hP 0 (by decide) rfl rfl kU_X2 1 (by decide) kF_X2_15 rfl rfl dX2_clear_9 ?_
  refine lv_iconst (v := (-1)) hx hb dX2_clear_12 (by decide) ?_
  obtain ⟨σ2, eσ2, hf⟩ := stp_e hf
  refine g_fill (τ := σ2) ⟨⟨hx, hb, hml, hown, hB⟩, hK, hi, hA, hAd, hP, hS⟩ 2 8 (by decide) (by decide) (fun _ => rfl) kM_X2_33 hRf hRl hl.1 rfl dX2_clear_13 eσ2 (fun H locs hP hS => ?_)
  refine lv_aload_n hx hb dX2_clear_16 rfl (lv_at hl 0 rfl) ?_
  refine g_get (v := .ref (ad 3)) hx hb hB hown hK hP 0 (by decide) rfl rfl kU_X2 2 (by decide) kF_X2_18 rfl rfl dX2_clear_17 ?_
  refine lv_iconst (v := 0) hx hb dX2_clear_20 (by decide) ?_
  obtain ⟨σ3, eσ3, hf⟩ := stp_e hf
  refine g_fill (τ := σ3) ⟨⟨hx, hb, hml, hown, hB⟩, hK, hi, hA, hAd, hP, hS⟩ 3 40 (by decide) (by decide) (fun _ => rfl) kM_X2_33 hRf hRl hl.1 rfl dX2_clear_21 eσ3 (fun H locs hP hS => ?_)
  refine lv_aload_n hx hb dX2_clear_24 rfl (lv_at hl 0 rfl) ?_
  refine g_get (v := .ref (ad 4)) hx hb hB hown hK hP 0 (by decide) rfl rfl kU_X2 3 (by decide) kF_X2_21 rfl rfl dX2_clear_25 ?_
  refine lv_iconst (v := 0) hx hb dX2_clear_28 (by decide) ?_
  obtain ⟨σ4, eσ4, hf⟩ := stp_e hf
  refine g_fill (τ := σ4) ⟨⟨hx, hb, hml, hown, hB⟩, hK, hi, hA, hAd, hP, hS⟩ 4 40 (by decide) (by decide) (fun _ => rfl) kM_X2_33 hRf hRl hl.1 rfl dX2_clear_29 eσ4 (fun H locs hP hS => ?_)
  refine lv_aload_n hx hb dX2_clear_32 rfl (lv_at hl 0 rfl) ?_
  refine g_get (v := .ref (ad 5)) hx hb hB hown hK hP 0 (by decide) rfl rfl kU_X2 4 (by decide) kF_X2_24 rfl rfl dX2_clear_33 ?_
  refine lv_iconst (v := 0) hx hb dX2_clear_36 (by decide) ?_
  obtain ⟨σ5, eσ5, hf⟩ := stp_e hf
  refine g_fill (τ := σ5) ⟨⟨hx, hb, hml, hown, hB⟩, hK, hi, hA, hAd, hP, hS⟩ 5 40 (by decide) (by decide) (fun _ => rfl) kM_X2_33 hRf hRl hl.1 rfl dX2_clear_37 eσ5 (fun H locs hP hS => ?_)
  have h2 := rt1 hf
  rw [hQ]
  exact g_vret hx hb hr hlocks hP hS h2 dX2_clear_40
def z0 : Mem := fun _ _ => 0
def zP : Mem := fl (fl (fl (fl (fl z0 1 32 (-1)) 2 8 (-1)) 3 40 0) 4 40 0) 5 40 0
theorem kc_X0 : Cond.code yX0_init cX0_init 1 none ∈ BIG := mem_BIG 50 (by decide +kernel) (by decide +kernel)
theorem ki_X0 : Cond.instanceMethod yX0_init ∈ BIG := mem_BIG 49 (by decide +kernel) (by decide +kernel)
theorem kn_X0 : Cond.initialized yX0_init.cls ∈ BIG := mem_BIG 22 (by decide +kernel) (by decide +kernel)
theorem kc_X1 : Cond.code yX1_init cX1_init 1 none ∈ BIG := mem_BIG 111 (by decide +kernel) (by decide +kernel)
theorem ki_X1 : Cond.instanceMethod yX1_init ∈ BIG := mem_BIG 110 (by decide +kernel) (by decide +kernel)
theorem kn_X1 : Cond.initialized yX1_init.cls ∈ BIG := mem_BIG 26 (by decide +kernel) (by decide +kernel)
theorem kc_X2 : Cond.code yX2_init cX2_init 1 none ∈ BIG := mem_BIG 72 (by decide +kernel) (by decide +kernel)
theorem ki_X2 : Cond.instanceMethod yX2_init ∈ BIG := mem_BIG 71 (by decide +kernel) (by decide +kernel)
theorem kn_X2 : Cond.initialized yX2_init.cls ∈ BIG := mem_BIG 24 (by decide +kernel) (by decide +kernel)
theorem kc_X3 : Cond.code yX3_init cX3_init 1 none ∈ BIG := mem_BIG 165 (by decide +kernel) (by decide +kernel)
theorem ki_X3 : Cond.instanceMethod yX3_init ∈ BIG := mem_BIG 164 (by decide +kernel) (by decide +kernel)
theorem kn_X3 : Cond.initialized yX3_init.cls ∈ BIG := mem_BIG 27 (by decide +kernel) (by decide +kernel)
theorem kc_X4 : Cond.code yX4_init cX4_init 1 none ∈ BIG := mem_BIG 66 (by decide +kernel) (by decide +kernel)
theorem ki_X4 : Cond.instanceMethod yX4_init ∈ BIG := mem_BIG 65 (by decide +kernel) (by decide +kernel)
theorem kn_X4 : Cond.initialized yX4_init.cls ∈ BIG := mem_BIG 23 (by decide +kernel) (by decide +kernel)
theorem kc_X5 : Cond.code yX5_init cX5_init 1 none ∈ BIG := mem_BIG 42 (by decide +kernel) (by decide +kernel)
theorem ki_X5 : Cond.instanceMethod yX5_init ∈ BIG := mem_BIG 41 (by decide +kernel) (by decide +kernel)
theorem kn_X5 : Cond.initialized yX5_init.cls ∈ BIG := mem_BIG 21 (by decide +kernel) (by decide +kernel)
