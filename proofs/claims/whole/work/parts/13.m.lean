def f_X6_thrown (σ : Mem) : Option (Int32) :=
some (σ 0 29)
set_option maxHeartbeats 4000000 in
set_option maxRecDepth 100000 in
theorem c_X6_thrown {l : Launch} {D : va_G} {cI cJ : ClassId} {ad : Nat → Nat} {σ : Mem} {r : Int32}  (hi : injG 25 ad) (hf : f_X6_thrown σ = some r) : MGi l yX6_thrown (Cond.code yX6_thrown cX6_thrown 1 (some .int) :: BIG) 0 0 D cI cJ 25 ad (EM ad cI) [.ref (ad 0)] σ σ r := by
  refine MGi.ofW (cc := cX6_thrown) (nL := 1) (ret := (some .int)) (by decide) rfl hi ?_
  intro p e s m args below meth c hx hb hr hml hlocks hown hB hK hP hA hAd hS
  have hown : s.vm.findClass RX6 = some m.cls := hown
  have hl := lv_entry ([.ref (ad 0)] : List Value) (n := 1) (Nat.le_of_ble_eq_true rfl)
  rw [lg_entry_eq]
  generalize (lg_sl ([.ref (ad 0)] : List Value) ++ List.replicate (1 - (lg_sl ([.ref (ad 0)] : List Value)).length) Slot.unset).toArray = ls at hl ⊢
  have hl : lv_has ls 1 [(0, .ref (ad 0))] := hl
  generalize hQ : MQ below (Qgi D 25 ad (EM ad cI) r σ s.heap.size) _ s 0 0 (AG 25 ad s.heap.size) = Q
  have hQ := hQ.symm
  obtain ⟨R, hR, hRf, hRl⟩ : ∃ R : Room, R = ({ frames := 0, cells := 0, slots := 0, locals := 0 } : Room) ∧ 0 ≤ R.frames ∧ 0 ≤ R.locals := ⟨_, rfl, Nat.le_refl _, Nat.le_refl _⟩
  rw [← hR]
  unfold f_X6_thrown at hf
  refine lv_aload_n hx hb dX6_thrown_0 rfl (lv_at hl 0 rfl) ?_
  refine g_get (v := .int (σ 0 29)) hx hb hB hown hK hP 0 (by decide) rfl rfl kU_X6 29 (by decide) kF_X6_86 rfl rfl dX6_thrown_1 ?_
  have h1 := rt1 hf
  rw [hQ]
  exact g_iret hx hb hr hlocks hP hS h1 rfl dX6_thrown_4
def f_X6_can (σ : Mem) (a0 : Int32) : Option (Int32 × Mem) :=
stp (mu σ 0 29 a0) fun σ1 =>
if a0 = 0 then (
some (1, σ1))
else (
some (0, σ1))
set_option maxHeartbeats 4000000 in
set_option maxRecDepth 100000 in
theorem c_X6_can {l : Launch} {D : va_G} {cI cJ : ClassId} {ad : Nat → Nat} {σ : Mem} {a0 : Int32} {r : Int32} {σr : Mem}  (hi : injG 25 ad) (hf : f_X6_can σ a0 = some (r, σr)) : MGi l yX6_can (Cond.code yX6_can cX6_can 2 (some .boolean) :: BIG) 0 0 D cI cJ 25 ad (EM ad cI) [.ref (ad 0), .int a0] σ σr r := by
  refine MGi.ofW (cc := cX6_can) (nL := 2) (ret := (some .boolean)) (by decide) rfl hi ?_
  intro p e s m args below meth c hx hb hr hml hlocks hown hB hK hP hA hAd hS
  have hown : s.vm.findClass RX6 = some m.cls := hown
  have hl := lv_entry ([.ref (ad 0), .int a0] : List Value) (n := 2) (Nat.le_of_ble_eq_true rfl)
  rw [lg_entry_eq]
  generalize (lg_sl ([.ref (ad 0), .int a0] : List Value) ++ List.replicate (2 - (lg_sl ([.ref (ad 0), .int a0] : List Value)).length) Slot.unset).toArray = ls at hl ⊢
  have hl : lv_has ls 2 [(0, .ref (ad 0)), (1, .int a0)] := hl
  generalize hQ : MQ below (Qgi D 25 ad (EM ad cI) r σr s.heap.size) _ s 0 0 (AG 25 ad s.heap.size) = Q
  have hQ := hQ.symm
  obtain ⟨R, hR, hRf, hRl⟩ : ∃ R : Room, R = ({ frames := 0, cells := 0, slots := 0, locals := 0 } : Room) ∧ 0 ≤ R.frames ∧ 0 ≤ R.locals := ⟨_, rfl, Nat.le_refl _, Nat.le_refl _⟩
  rw [← hR]
  unfold f_X6_can at hf
  refine lv_aload_n hx hb dX6_can_0 rfl (lv_at hl 0 rfl) ?_
  refine lv_iload_n hx hb dX6_can_1 rfl (lv_at hl 1 rfl) ?_
  obtain ⟨σ1, eσ1, hf⟩ := stp_e hf
  refine g_put (σ1 := σ1) hx hb hB hown hK hP hi hAd hS 0 (by decide) (fun f => [.ref (ad 1), .ref (ad 2), .ref (ad 3), .ref (ad 4), .ref (ad 5), .int (f 5), .ref (ad 6), .ref (ad 7), .ref (ad 8), .ref (ad 9), .ref (ad 10), .ref (ad 11), .ref (ad 12), .ref (ad 13), .int (f 14), .int (f 15), .int (f 16), .ref (ad 14), .ref (ad 15), .ref (ad 16), .ref (ad 17), .ref (ad 18), .ref (ad 19), .int (f 23), .ref (ad 20), .ref (ad 21), .ref (ad 22), .ref (ad 23), .ref (ad 24), .int (f 29)]) (fun _ => rfl) rfl kU_X6 tyX6 tyX6_ok nmX6 29 (by decide) kF_X6_86 rfl (fun _ _ => rfl) (fun _ => Nat.le_of_ble_eq_true rfl) dX6_can_2 eσ1 (fun H locs hP hS => ?_)
  refine lv_iload_n hx hb dX6_can_5 rfl (lv_at hl 1 rfl) ?_
  refine lv_if_ne (tgt := 13) hx hb dX6_can_6 (by decide) (fun q2 => ?_) (fun q2 => ?_)
  · rw [if_neg q2] at hf
    refine lv_iconst (v := 0) hx hb dX6_can_13 (by decide) ?_
    obtain ⟨h1, h2⟩ := rt2 hf
    rw [hQ]
    exact g_zret hx hb hr hlocks hP hS (Or.inl rfl) h1 h2 dX6_can_14
  · rw [if_pos q2] at hf
    refine lv_iconst (v := 1) hx hb dX6_can_9 (by decide) ?_
    refine lv_goto (tgt := 14) hx hb dX6_can_10 (by decide) ?_
    obtain ⟨h1, h2⟩ := rt2 hf
    rw [hQ]
    exact g_zret hx hb hr hlocks hP hS (Or.inr rfl) h1 h2 dX6_can_14
def f_X6_isIn (a0 a1 a2 : Int32) : Option (Int32) :=
if a0 < a1 then (
some 0)
else (
if a2 < a0 then (
some 0)
else (
some 1))
set_option maxHeartbeats 4000000 in
set_option maxRecDepth 100000 in
theorem c_X6_isIn {l : Launch} {D : va_G} {cI cJ : ClassId} {ad : Nat → Nat} {E : Ent} {σ : Mem} {a0 a1 a2 : Int32} {r : Int32}  (hf : f_X6_isIn a0 a1 a2 = some r) : MGi l yX6_isIn (Cond.code yX6_isIn cX6_isIn 3 (some .boolean) :: BIG) 0 0 D cI cJ 0 ad E [.int a0, .int a1, .int a2] σ σ r := by
  refine MGi.ofW (cc := cX6_isIn) (nL := 3) (ret := (some .boolean)) (by decide) rfl (fun i j h => absurd h (Nat.not_lt_zero i)) ?_
  intro p e s m args below meth c hx hb hr hml hlocks hown hB hK hP hA hAd hS
  have hown : s.vm.findClass RX6 = some m.cls := hown
  have hi : injG 0 ad := fun i j h => absurd h (Nat.not_lt_zero i)
  have hl := lv_entry ([.int a0, .int a1, .int a2] : List Value) (n := 3) (Nat.le_of_ble_eq_true rfl)
  rw [lg_entry_eq]
  generalize (lg_sl ([.int a0, .int a1, .int a2] : List Value) ++ List.replicate (3 - (lg_sl ([.int a0, .int a1, .int a2] : List Value)).length) Slot.unset).toArray = ls at hl ⊢
  have hl : lv_has ls 3 [(0, .int a0), (1, .int a1), (2, .int a2)] := hl
  generalize hQ : MQ below (Qgi D 0 ad E r σ s.heap.size) _ s 0 0 (AG 0 ad s.heap.size) = Q
  have hQ := hQ.symm
  obtain ⟨R, hR, hRf, hRl⟩ : ∃ R : Room, R = ({ frames := 0, cells := 0, slots := 0, locals := 0 } : Room) ∧ 0 ≤ R.frames ∧ 0 ≤ R.locals := ⟨_, rfl, Nat.le_refl _, Nat.le_refl _⟩
  rw [← hR]
  unfold f_X6_isIn at hf
  refine lv_iload_n hx hb dX6_isIn_0 rfl (lv_at hl 0 rfl) ?_
  refine lv_iload_n hx hb dX6_isIn_1 rfl (lv_at hl 1 rfl) ?_
  refine lv_icmp_lt (tgt := 14) hx hb dX6_isIn_2 (by decide) (fun q1 => ?_) (fun q1 => ?_)
  · rw [if_pos q1] at hf
    refine lv_iconst (v := 0) hx hb dX6_isIn_14 (by decide) ?_
    have h1 := rt1 hf
    rw [hQ]
    exact g_zret hx hb hr hlocks hP hS (Or.inl rfl) h1 rfl dX6_isIn_15
  · rw [if_neg q1] at hf
    refine lv_iload_n hx hb dX6_isIn_5 rfl (lv_at hl 0 rfl) ?_
    refine lv_iload_n hx hb dX6_isIn_6 rfl (lv_at hl 2 rfl) ?_
    refine lv_icmp_gt (tgt := 14) hx hb dX6_isIn_7 (by decide) (fun q2 => ?_) (fun q2 => ?_)
    · rw [if_pos q2] at hf
      refine lv_iconst (v := 0) hx hb dX6_isIn_14 (by decide) ?_
      have h1 := rt1 hf
      rw [hQ]
      exact g_zret hx hb hr hlocks hP hS (Or.inl rfl) h1 rfl dX6_isIn_15
    · rw [if_neg q2] at hf
      refine lv_iconst (v := 1) hx hb dX6_isIn_10 (by decide) ?_
      refine lv_goto (tgt := 15) hx hb dX6_isIn_11 (by decide) ?_
      have h1 := rt1 hf
      rw [hQ]
      exact g_zret hx hb hr hlocks hP hS (Or.inr rfl) h1 rfl dX6_isIn_15
def f_X6_isRoom (a0 : Int32) : Option (Int32) :=
bd (f_X6_isIn a0 0 7) fun v1 =>
gz v1 <| some v1
set_option maxHeartbeats 4000000 in
set_option maxRecDepth 100000 in
theorem c_X6_isRoom {l : Launch} {D : va_G} {cI cJ : ClassId} {ad : Nat → Nat} {E : Ent} {σ : Mem} {a0 : Int32} {r : Int32}  (hf : f_X6_isRoom a0 = some r) : MGi l yX6_isRoom (Cond.code yX6_isRoom cX6_isRoom 1 (some .boolean) :: BIG) 1 22 D cI cJ 0 ad E [.int a0] σ σ r := by
  refine MGi.ofW (cc := cX6_isRoom) (nL := 1) (ret := (some .boolean)) (by decide) rfl (fun i j h => absurd h (Nat.not_lt_zero i)) ?_
  intro p e s m args below meth c hx hb hr hml hlocks hown hB hK hP hA hAd hS
  have hown : s.vm.findClass RX6 = some m.cls := hown
  have hi : injG 0 ad := fun i j h => absurd h (Nat.not_lt_zero i)
  have hl := lv_entry ([.int a0] : List Value) (n := 1) (Nat.le_of_ble_eq_true rfl)
  rw [lg_entry_eq]
  generalize (lg_sl ([.int a0] : List Value) ++ List.replicate (1 - (lg_sl ([.int a0] : List Value)).length) Slot.unset).toArray = ls at hl ⊢
  have hl : lv_has ls 1 [(0, .int a0)] := hl
  generalize hQ : MQ below (Qgi D 0 ad E r σ s.heap.size) _ s 0 0 (AG 0 ad s.heap.size) = Q
  have hQ := hQ.symm
  obtain ⟨R, hR, hRf, hRl⟩ : ∃ R : Room, R = ({ frames := 1, cells := 0, slots := 0, locals := 22 } : Room) ∧ 1 ≤ R.frames ∧ 22 ≤ R.locals := ⟨_, rfl, Nat.le_refl _, Nat.le_refl _⟩
  rw [← hR]
  unfold f_X6_isRoom at hf
  refine lv_iload_n hx hb dX6_isRoom_0 rfl (lv_at hl 0 rfl) ?_
  refine lv_iconst (v := 0) hx hb dX6_isRoom_1 (by decide) ?_
  refine lv_bipush (v := 7) hx hb dX6_isRoom_2 (by decide) ?_
  obtain ⟨v1, hv, hf⟩ := bd_e hf
  refine g_cSi0 ⟨⟨hx, hb, hml, hown, hB⟩, hK, hi, hA, hAd, hP, hS⟩ (c_X6_isIn hv) cal_X6_isIn kM_X6_89 ⟨Nat.le_trans (Nat.le_of_ble_eq_true rfl) hRf, Nat.le_trans (Nat.le_of_ble_eq_true rfl) hRl⟩ rfl hl.1 (Nat.le_of_ble_eq_true rfl) rfl dX6_isRoom_4 ⟨Nat.zero_le _, Nat.zero_le _⟩ (fun H locs hP hS => ?_)
  obtain ⟨hz, hf⟩ := gz_e hf
  have h1 := rt1 hf
  rw [hQ]
  exact g_zret hx hb hr hlocks hP hS hz h1 rfl dX6_isRoom_7
def f_X6_isKind (a0 : Int32) : Option (Int32) :=
bd (f_X6_isIn a0 0 4) fun v1 =>
gz v1 <| some v1
set_option maxHeartbeats 4000000 in
set_option maxRecDepth 100000 in
theorem c_X6_isKind {l : Launch} {D : va_G} {cI cJ : ClassId} {ad : Nat → Nat} {E : Ent} {σ : Mem} {a0 : Int32} {r : Int32}  (hf : f_X6_isKind a0 = some r) : MGi l yX6_isKind (Cond.code yX6_isKind cX6_isKind 1 (some .boolean) :: BIG) 1 22 D cI cJ 0 ad E [.int a0] σ σ r := by
  refine MGi.ofW (cc := cX6_isKind) (nL := 1) (ret := (some .boolean)) (by decide) rfl (fun i j h => absurd h (Nat.not_lt_zero i)) ?_
  intro p e s m args below meth c hx hb hr hml hlocks hown hB hK hP hA hAd hS
  have hown : s.vm.findClass RX6 = some m.cls := hown
  have hi : injG 0 ad := fun i j h => absurd h (Nat.not_lt_zero i)
  have hl := lv_entry ([.int a0] : List Value) (n := 1) (Nat.le_of_ble_eq_true rfl)
  rw [lg_entry_eq]
  generalize (lg_sl ([.int a0] : List Value) ++ List.replicate (1 - (lg_sl ([.int a0] : List Value)).length) Slot.unset).toArray = ls at hl ⊢
  have hl : lv_has ls 1 [(0, .int a0)] := hl
  generalize hQ : MQ below (Qgi D 0 ad E r σ s.heap.size) _ s 0 0 (AG 0 ad s.heap.size) = Q
  have hQ := hQ.symm
  obtain ⟨R, hR, hRf, hRl⟩ : ∃ R : Room, R = ({ frames := 1, cells := 0, slots := 0, locals := 22 } : Room) ∧ 1 ≤ R.frames ∧ 22 ≤ R.locals := ⟨_, rfl, Nat.le_refl _, Nat.le_refl _⟩
  rw [← hR]
  unfold f_X6_isKind at hf
  refine lv_iload_n hx hb dX6_isKind_0 rfl (lv_at hl 0 rfl) ?_
  refine lv_iconst (v := 0) hx hb dX6_isKind_1 (by decide) ?_
  refine lv_iconst (v := 4) hx hb dX6_isKind_2 (by decide) ?_
  obtain ⟨v1, hv, hf⟩ := bd_e hf
  refine g_cSi0 ⟨⟨hx, hb, hml, hown, hB⟩, hK, hi, hA, hAd, hP, hS⟩ (c_X6_isIn hv) cal_X6_isIn kM_X6_89 ⟨Nat.le_trans (Nat.le_of_ble_eq_true rfl) hRf, Nat.le_trans (Nat.le_of_ble_eq_true rfl) hRl⟩ rfl hl.1 (Nat.le_of_ble_eq_true rfl) rfl dX6_isKind_3 ⟨Nat.zero_le _, Nat.zero_le _⟩ (fun H locs hP hS => ?_)
  obtain ⟨hz, hf⟩ := gz_e hf
  have h1 := rt1 hf
  rw [hQ]
  exact g_zret hx hb hr hlocks hP hS hz h1 rfl dX6_isKind_6
def f_X6_isPlayer (σ : Mem) (a0 : Int32) : Option (Int32) :=
bd (f_X6_isIn a0 0 ((σ 0 5) - 1)) fun v1 =>
gz v1 <| some v1
set_option maxHeartbeats 4000000 in
set_option maxRecDepth 100000 in
theorem c_X6_isPlayer {l : Launch} {D : va_G} {cI cJ : ClassId} {ad : Nat → Nat} {σ : Mem} {a0 : Int32} {r : Int32}  (hi : injG 25 ad) (hf : f_X6_isPlayer σ a0 = some r) : MGi l yX6_isPlayer (Cond.code yX6_isPlayer cX6_isPlayer 2 (some .boolean) :: BIG) 1 22 D cI cJ 25 ad (EM ad cI) [.ref (ad 0), .int a0] σ σ r := by
  refine MGi.ofW (cc := cX6_isPlayer) (nL := 2) (ret := (some .boolean)) (by decide) rfl hi ?_
  intro p e s m args below meth c hx hb hr hml hlocks hown hB hK hP hA hAd hS
  have hown : s.vm.findClass RX6 = some m.cls := hown
  have hl := lv_entry ([.ref (ad 0), .int a0] : List Value) (n := 2) (Nat.le_of_ble_eq_true rfl)
  rw [lg_entry_eq]
  generalize (lg_sl ([.ref (ad 0), .int a0] : List Value) ++ List.replicate (2 - (lg_sl ([.ref (ad 0), .int a0] : List Value)).length) Slot.unset).toArray = ls at hl ⊢
  have hl : lv_has ls 2 [(0, .ref (ad 0)), (1, .int a0)] := hl
  generalize hQ : MQ below (Qgi D 25 ad (EM ad cI) r σ s.heap.size) _ s 0 0 (AG 25 ad s.heap.size) = Q
  have hQ := hQ.symm
  obtain ⟨R, hR, hRf, hRl⟩ : ∃ R : Room, R = ({ frames := 1, cells := 0, slots := 0, locals := 22 } : Room) ∧ 1 ≤ R.frames ∧ 22 ≤ R.locals := ⟨_, rfl, Nat.le_refl _, Nat.le_refl _⟩
  rw [← hR]
  unfold f_X6_isPlayer at hf
  refine lv_iload_n hx hb dX6_isPlayer_0 rfl (lv_at hl 1 rfl) ?_
  refine lv_iconst (v := 0) hx hb dX6_isPlayer_1 (by decide) ?_
  refine lv_aload_n hx hb dX6_isPlayer_2 rfl (lv_at hl 0 rfl) ?_
  refine g_get (v := .int (σ 0 5)) hx hb hB hown hK hP 0 (by decide) rfl rfl kU_X6 5 (by decide) kF_X6_93 rfl rfl dX6_isPlayer_3 ?_
  refine lv_iconst (v := 1) hx hb dX6_isPlayer_6 (by decide) ?_
  refine lv_isub hx hb dX6_isPlayer_7 ?_
  obtain ⟨v1, hv, hf⟩ := bd_e hf
  refine g_cSi0 ⟨⟨hx, hb, hml, hown, hB⟩, hK, hi, hA, hAd, hP, hS⟩ (c_X6_isIn hv) cal_X6_isIn kM_X6_89 ⟨Nat.le_trans (Nat.le_of_ble_eq_true rfl) hRf, Nat.le_trans (Nat.le_of_ble_eq_true rfl) hRl⟩ rfl hl.1 (Nat.le_of_ble_eq_true rfl) rfl dX6_isPlayer_8 ⟨Nat.zero_le _, Nat.zero_le _⟩ (fun H locs hP hS => ?_)
  obtain ⟨hz, hf⟩ := gz_e hf
  have h1 := rt1 hf
  rw [hQ]
  exact g_zret hx hb hr hlocks hP hS hz h1 rfl dX6_isPlayer_11
def f_X6_isQuest (σ : Mem) (a0 : Int32) : Option (Int32) :=
bd (f_X6_isIn a0 0 ((σ 0 16) - 1)) fun v1 =>
gz v1 <| some v1
set_option maxHeartbeats 4000000 in
set_option maxRecDepth 100000 in
theorem c_X6_isQuest {l : Launch} {D : va_G} {cI cJ : ClassId} {ad : Nat → Nat} {σ : Mem} {a0 : Int32} {r : Int32}  (hi : injG 25 ad) (hf : f_X6_isQuest σ a0 = some r) : MGi l yX6_isQuest (Cond.code yX6_isQuest cX6_isQuest 2 (some .boolean) :: BIG) 1 22 D cI cJ 25 ad (EM ad cI) [.ref (ad 0), .int a0] σ σ r := by
  refine MGi.ofW (cc := cX6_isQuest) (nL := 2) (ret := (some .boolean)) (by decide) rfl hi ?_
  intro p e s m args below meth c hx hb hr hml hlocks hown hB hK hP hA hAd hS
  have hown : s.vm.findClass RX6 = some m.cls := hown
  have hl := lv_entry ([.ref (ad 0), .int a0] : List Value) (n := 2) (Nat.le_of_ble_eq_true rfl)
  rw [lg_entry_eq]
  generalize (lg_sl ([.ref (ad 0), .int a0] : List Value) ++ List.replicate (2 - (lg_sl ([.ref (ad 0), .int a0] : List Value)).length) Slot.unset).toArray = ls at hl ⊢
  have hl : lv_has ls 2 [(0, .ref (ad 0)), (1, .int a0)] := hl
  generalize hQ : MQ below (Qgi D 25 ad (EM ad cI) r σ s.heap.size) _ s 0 0 (AG 25 ad s.heap.size) = Q
  have hQ := hQ.symm
  obtain ⟨R, hR, hRf, hRl⟩ : ∃ R : Room, R = ({ frames := 1, cells := 0, slots := 0, locals := 22 } : Room) ∧ 1 ≤ R.frames ∧ 22 ≤ R.locals := ⟨_, rfl, Nat.le_refl _, Nat.le_refl _⟩
  rw [← hR]
  unfold f_X6_isQuest at hf
  refine lv_iload_n hx hb dX6_isQuest_0 rfl (lv_at hl 1 rfl) ?_
  refine lv_iconst (v := 0) hx hb dX6_isQuest_1 (by decide) ?_
  refine lv_aload_n hx hb dX6_isQuest_2 rfl (lv_at hl 0 rfl) ?_
  refine g_get (v := .int (σ 0 16)) hx hb hB hown hK hP 0 (by decide) rfl rfl kU_X6 16 (by decide) kF_X6_96 rfl rfl dX6_isQuest_3 ?_
  refine lv_iconst (v := 1) hx hb dX6_isQuest_6 (by decide) ?_
  refine lv_isub hx hb dX6_isQuest_7 ?_
  obtain ⟨v1, hv, hf⟩ := bd_e hf
  refine g_cSi0 ⟨⟨hx, hb, hml, hown, hB⟩, hK, hi, hA, hAd, hP, hS⟩ (c_X6_isIn hv) cal_X6_isIn kM_X6_89 ⟨Nat.le_trans (Nat.le_of_ble_eq_true rfl) hRf, Nat.le_trans (Nat.le_of_ble_eq_true rfl) hRl⟩ rfl hl.1 (Nat.le_of_ble_eq_true rfl) rfl dX6_isQuest_8 ⟨Nat.zero_le _, Nat.zero_le _⟩ (fun H locs hP hS => ?_)
  obtain ⟨hz, hf⟩ := gz_e hf
  have h1 := rt1 hf
  rw [hQ]
  exact g_zret hx hb hr hlocks hP hS hz h1 rfl dX6_isQuest_11
def L_X6_actor_9 : Nat → (Int32 → Option (Int32)) → Mem → Int32 → Int32 → Option (Int32)
  | 0, _, _, _, _ => none
  | n + 1, k, σ3, x1, x2 =>
    if x2 < 0 then (
    k x1)
    else (
    jn (fun (y7 : Int32) =>
    L_X6_actor_9 n k σ3 y7 (x2 + (-1))) fun (J8 : Int32 → Option (Int32)) =>
    jn (fun (_ : Unit) =>
    J8 x2) fun (J9 : Unit → Option (Int32)) =>
    if x1 = (-1) then (
    J9 ())
    else (
    gd x2 4 <|
    gd x1 4 <|
    if (σ3 10 x1.toNatClampNeg) < (σ3 10 x2.toNatClampNeg) then (
    J8 x1)
    else (
    J9 ())))
def f_X6_actor (σ : Mem) : Option (Int32) :=
L_X6_actor_9 FU (fun (x5 : Int32) =>
some x5) σ (-1) ((σ 0 5) - 1)
set_option maxHeartbeats 4000000 in
set_option maxRecDepth 100000 in
theorem c_X6_actor {l : Launch} {D : va_G} {cI cJ : ClassId} {ad : Nat → Nat} {σ : Mem} {r : Int32}  (hi : injG 25 ad) (hf : f_X6_actor σ = some r) : MGi l yX6_actor (Cond.code yX6_actor cX6_actor 3 (some .int) :: BIG) 0 0 D cI cJ 25 ad (EM ad cI) [.ref (ad 0)] σ σ r := by
  refine MGi.ofW (cc := cX6_actor) (nL := 3) (ret := (some .int)) (by decide) rfl hi ?_
  intro p e s m args below meth c hx hb hr hml hlocks hown hB hK hP hA hAd hS
  have hown : s.vm.findClass RX6 = some m.cls := hown
  have hl := lv_entry ([.ref (ad 0)] : List Value) (n := 3) (Nat.le_of_ble_eq_true rfl)
  rw [lg_entry_eq]
  generalize (lg_sl ([.ref (ad 0)] : List Value) ++ List.replicate (3 - (lg_sl ([.ref (ad 0)] : List Value)).length) Slot.unset).toArray = ls at hl ⊢
  have hl : lv_has ls 3 [(0, .ref (ad 0))] := hl
  generalize hQ : MQ below (Qgi D 25 ad (EM ad cI) r σ s.heap.size) _ s 0 0 (AG 25 ad s.heap.size) = Q
  have hQ := hQ.symm
  obtain ⟨R, hR, hRf, hRl⟩ : ∃ R : Room, R = ({ frames := 0, cells := 0, slots := 0, locals := 0 } : Room) ∧ 0 ≤ R.frames ∧ 0 ≤ R.locals := ⟨_, rfl, Nat.le_refl _, Nat.le_refl _⟩
  rw [← hR]
  unfold f_X6_actor at hf
  refine lv_iconst (v := (-1)) hx hb dX6_actor_0 (by decide) ?_
  refine lv_istore_n (lv' := [(1, .int (-1)), (0, .ref (ad 0))]) hx hb dX6_actor_1 rfl hl (by decide) rfl (fun ls hl => ?_)
  refine lv_aload_n hx hb dX6_actor_2 rfl (lv_at hl 1 rfl) ?_
  refine g_get (v := .int (σ 0 5)) hx hb hB hown hK hP 0 (by decide) rfl rfl kU_X6 5 (by decide) kF_X6_93 rfl rfl dX6_actor_3 ?_
  refine lv_iconst (v := 1) hx hb dX6_actor_6 (by decide) ?_
  refine lv_isub hx hb dX6_actor_7 ?_
  refine lv_istore_n (lv' := [(2, .int ((σ 0 5) - 1)), (1, .int (-1)), (0, .ref (ad 0))]) hx hb dX6_actor_8 rfl hl (by decide) rfl (fun ls hl => ?_)
  obtain ⟨K4, eK4, hf⟩ := lp_e1 (b := fun K => L_X6_actor_9 FU K σ (-1) ((σ 0 5) - 1)) hf
  replace hf : L_X6_actor_9 FU K4 σ (-1) ((σ 0 5) - 1) = some r := hf
  have hKK4 : ∀ (x5 : Int32) (H : Heap) (locs : List Loc) (ls : Array Slot), K4 x5 = some r → va_P D vwCl (wsG 25 ad (EM ad cI) σ) H → va_S (AG 25 ad s.heap.size) s.heap H locs → lv_has ls 3 [(1, .int x5)] → W p l e R s m args below meth c H locs 0 0 Q (F0 m 45 ls []) := by
    intro x5 H locs ls hf hP hS hl
    rw [eK4] at hf
    refine lv_iload_n hx hb dX6_actor_45 rfl (lv_at hl 0 rfl) ?_
    have h1 := rt1 hf
    rw [hQ]
    exact g_iret hx hb hr hlocks hP hS h1 rfl dX6_actor_46
  have hL_X6_actor_9 : ∀ (n : Nat) (x1 : Int32) (x2 : Int32) (H : Heap) (locs : List Loc) (ls : Array Slot), L_X6_actor_9 n K4 σ x1 x2 = some r → va_P D vwCl (wsG 25 ad (EM ad cI) σ) H → va_S (AG 25 ad s.heap.size) s.heap H locs → lv_has ls 3 [(0, .ref (ad 0)), (1, .int x1), (2, .int x2)] → W p l e R s m args below meth c H locs 0 0 Q (F0 m 9 ls []) := by
    intro n
    induction n with
    | zero => intro x1 x2 H locs ls hf; cases hf
    | succ n ih =>
      intro x1 x2 H locs ls hf hP hS hl
      rw [L_X6_actor_9] at hf
      refine lv_iload_n hx hb dX6_actor_9 rfl (lv_at hl 2 rfl) ?_
      refine lv_if_lt (tgt := 45) hx hb dX6_actor_10 (by decide) (fun q6 => ?_) (fun q6 => ?_)
      · rw [if_pos q6] at hf
        exact hKK4 x1 _ _ ls hf hP hS (lv_sub hl [1] rfl)
      · rw [if_neg q6] at hf
        refine lv_iload_n hx hb dX6_actor_13 rfl (lv_at hl 1 rfl) ?_
        refine lv_iconst (v := (-1)) hx hb dX6_actor_14 (by decide) ?_
        obtain ⟨J8, eJ8, hf⟩ := jn_e1 hf
        have hJ8 : ∀ (y7 : Int32) (H : Heap) (locs : List Loc) (ls : Array Slot), J8 y7 = some r → va_P D vwCl (wsG 25 ad (EM ad cI) σ) H → va_S (AG 25 ad s.heap.size) s.heap H locs → lv_has ls 3 [(0, .ref (ad 0)), (2, .int x2)] → W p l e R s m args below meth c H locs 0 0 Q (F0 m 38 ls [.int y7]) := by
          intro y7 H locs ls hf hP hS hl
          rw [eJ8] at hf
          refine lv_istore_n (lv' := [(1, .int y7), (0, .ref (ad 0)), (2, .int x2)]) hx hb dX6_actor_38 rfl hl (by decide) rfl (fun ls hl => ?_)
          refine lv_iinc (v := (x2 + (-1))) (lv' := [(2, .int (x2 + (-1))), (1, .int y7), (0, .ref (ad 0))]) hx hb dX6_actor_39 hl (k := 2) rfl rfl (by decide) rfl (fun ls hl => ?_)
          refine lv_goto (tgt := 9) hx hb dX6_actor_42 (by decide) ?_
          exact ih y7 (x2 + (-1)) _ _ ls hf hP hS (lv_sub hl [2, 1, 0] rfl)
        obtain ⟨J9, eJ9, hf⟩ := jn_e0 hf
        have hJ9 : ∀ (_ : Unit) (H : Heap) (locs : List Loc) (ls : Array Slot), J9 () = some r → va_P D vwCl (wsG 25 ad (EM ad cI) σ) H → va_S (AG 25 ad s.heap.size) s.heap H locs → lv_has ls 3 [(0, .ref (ad 0)), (2, .int x2)] → W p l e R s m args below meth c H locs 0 0 Q (F0 m 33 ls []) := by
          intro _ H locs ls hf hP hS hl
          rw [eJ9] at hf
          refine lv_iload_n hx hb dX6_actor_33 rfl (lv_at hl 1 rfl) ?_
          refine lv_goto (tgt := 38) hx hb dX6_actor_34 (by decide) ?_
          exact hJ8 x2 _ _ ls hf hP hS (lv_sub hl [0, 1] rfl)
        refine lv_icmp_eq (tgt := 33) hx hb dX6_actor_15 (by decide) (fun q10 => ?_) (fun q10 => ?_)
        · rw [if_pos q10] at hf
          exact hJ9 () _ _ ls hf hP hS (lv_sub hl [0, 2] rfl)
        · rw [if_neg q10] at hf
          refine lv_aload_n hx hb dX6_actor_18 rfl (lv_at hl 0 rfl) ?_
          refine g_get (v := .ref (ad 10)) hx hb hB hown hK hP 0 (by decide) rfl rfl kU_X6 10 (by decide) kF_X6_37 rfl rfl dX6_actor_19 ?_
          refine lv_iload_n hx hb dX6_actor_22 rfl (lv_at hl 2 rfl) ?_
          obtain ⟨hin, hf⟩ := gd_e hf
          refine g_iald hx hb hK hP 10 4 (by decide) rfl hin dX6_actor_23 ?_
          refine lv_aload_n hx hb dX6_actor_24 rfl (lv_at hl 0 rfl) ?_
          refine g_get (v := .ref (ad 10)) hx hb hB hown hK hP 0 (by decide) rfl rfl kU_X6 10 (by decide) kF_X6_37 rfl rfl dX6_actor_25 ?_
          refine lv_iload_n hx hb dX6_actor_28 rfl (lv_at hl 1 rfl) ?_
          obtain ⟨hin, hf⟩ := gd_e hf
          refine g_iald hx hb hK hP 10 4 (by decide) rfl hin dX6_actor_29 ?_
          refine lv_icmp_gt (tgt := 37) hx hb dX6_actor_30 (by decide) (fun q11 => ?_) (fun q11 => ?_)
          · rw [if_pos q11] at hf
            refine lv_iload_n hx hb dX6_actor_37 rfl (lv_at hl 1 rfl) ?_
            exact hJ8 x1 _ _ ls hf hP hS (lv_sub hl [0, 2] rfl)
          · rw [if_neg q11] at hf
            exact hJ9 () _ _ ls hf hP hS (lv_sub hl [0, 2] rfl)
  exact hL_X6_actor_9 FU (-1) ((σ 0 5) - 1) _ _ ls hf hP hS (lv_sub hl [2, 1, 0] rfl)
def L_X6_keep_38 : Nat → (Mem → Option (Mem)) → Int32 → Mem → Option (Mem)
  | 0, _, _, _ => none
  | n + 1, k, x5, σ6 =>
    if (σ6 0 5) ≤ x5 then (
    k σ6)
    else (
    gd x5 4 <|
    gd ((4 * (σ6 0 23)) + x5) 4400 <| stp (mu σ6 22 ((4 * (σ6 0 23)) + x5).toNatClampNeg (σ6 6 x5.toNatClampNeg)) fun σ10 =>
    gd x5 4 <|
    gd ((4 * (σ10 0 23)) + x5) 4400 <| stp (mu σ10 23 ((4 * (σ10 0 23)) + x5).toNatClampNeg (σ10 7 x5.toNatClampNeg)) fun σ11 =>
    L_X6_keep_38 n k (x5 + 1) σ11)
def f_X6_keep (σ : Mem) : Option (Mem) :=
stp (mu σ 0 23 ((σ 0 23) + 1)) fun σ1 =>
gd (σ1 0 23) 1100 <| stp (mu σ1 20 (σ1 0 23).toNatClampNeg (σ1 0 5)) fun σ2 =>
bd (f_X6_actor σ2) fun v3 =>
gd (σ2 0 23) 1100 <| stp (mu σ2 21 (σ2 0 23).toNatClampNeg v3) fun σ4 =>
L_X6_keep_38 FU (fun (σ8 : Mem) =>
some σ8) 0 σ4
set_option maxHeartbeats 4000000 in
set_option maxRecDepth 100000 in
theorem c_X6_keep {l : Launch} {D : va_G} {cI cJ : ClassId} {ad : Nat → Nat} {σ : Mem} {σr : Mem}  (hi : injG 25 ad) (hf : f_X6_keep σ = some σr) : MGv l yX6_keep (Cond.code yX6_keep cX6_keep 2 none :: BIG) 1 22 D cI cJ 25 ad (EM ad cI) [.ref (ad 0)] σ σr := by
  refine MGv.ofW (cc := cX6_keep) (nL := 2) (ret := none) (by decide) rfl hi ?_
  intro p e s m args below meth c hx hb hr hml hlocks hown hB hK hP hA hAd hS
  have hown : s.vm.findClass RX6 = some m.cls := hown
  have hl := lv_entry ([.ref (ad 0)] : List Value) (n := 2) (Nat.le_of_ble_eq_true rfl)
  rw [lg_entry_eq]
  generalize (lg_sl ([.ref (ad 0)] : List Value) ++ List.replicate (2 - (lg_sl ([.ref (ad 0)] : List Value)).length) Slot.unset).toArray = ls at hl ⊢
  have hl : lv_has ls 2 [(0, .ref (ad 0))] := hl
  generalize hQ : MQ below (Qgv D 25 ad (EM ad cI) σr s.heap.size) _ s 0 0 (AG 25 ad s.heap.size) = Q
  have hQ := hQ.symm
  obtain ⟨R, hR, hRf, hRl⟩ : ∃ R : Room, R = ({ frames := 1, cells := 0, slots := 0, locals := 22 } : Room) ∧ 1 ≤ R.frames ∧ 22 ≤ R.locals := ⟨_, rfl, Nat.le_refl _, Nat.le_refl _⟩
  rw [← hR]
  unfold f_X6_keep at hf
  refine lv_aload_n hx hb dX6_keep_0 rfl (lv_at hl 0 rfl) ?_
  refine lv_dup hx hb dX6_keep_1 rfl ?_
  refine g_get (v := .int (σ 0 23)) hx hb hB hown hK hP 0 (by decide) rfl rfl kU_X6 23 (by decide) kF_X6_99 rfl rfl dX6_keep_2 ?_
  refine lv_iconst (v := 1) hx hb dX6_keep_5 (by decide) ?_
  refine lv_iadd hx hb dX6_keep_6 ?_
  obtain ⟨σ1, eσ1, hf⟩ := stp_e hf
  refine g_put (σ1 := σ1) hx hb hB hown hK hP hi hAd hS 0 (by decide) (fun f => [.ref (ad 1), .ref (ad 2), .ref (ad 3), .ref (ad 4), .ref (ad 5), .int (f 5), .ref (ad 6), .ref (ad 7), .ref (ad 8), .ref (ad 9), .ref (ad 10), .ref (ad 11), .ref (ad 12), .ref (ad 13), .int (f 14), .int (f 15), .int (f 16), .ref (ad 14), .ref (ad 15), .ref (ad 16), .ref (ad 17), .ref (ad 18), .ref (ad 19), .int (f 23), .ref (ad 20), .ref (ad 21), .ref (ad 22), .ref (ad 23), .ref (ad 24), .int (f 29)]) (fun _ => rfl) rfl kU_X6 tyX6 tyX6_ok nmX6 23 (by decide) kF_X6_99 rfl (fun _ _ => rfl) (fun _ => Nat.le_of_ble_eq_true rfl) dX6_keep_7 eσ1 (fun H locs hP hS => ?_)
  refine lv_aload_n hx hb dX6_keep_10 rfl (lv_at hl 0 rfl) ?_
  refine g_get (v := .ref (ad 20)) hx hb hB hown hK hP 0 (by decide) rfl rfl kU_X6 24 (by decide) kF_X6_67 rfl rfl dX6_keep_11 ?_
  refine lv_aload_n hx hb dX6_keep_14 rfl (lv_at hl 0 rfl) ?_
  refine g_get (v := .int (σ1 0 23)) hx hb hB hown hK hP 0 (by decide) rfl rfl kU_X6 23 (by decide) kF_X6_99 rfl rfl dX6_keep_15 ?_
  refine lv_aload_n hx hb dX6_keep_18 rfl (lv_at hl 0 rfl) ?_
  refine g_get (v := .int (σ1 0 5)) hx hb hB hown hK hP 0 (by decide) rfl rfl kU_X6 5 (by decide) kF_X6_93 rfl rfl dX6_keep_19 ?_
  obtain ⟨hin, hf⟩ := gd_e hf
  obtain ⟨σ2, eσ2, hf⟩ := stp_e hf
  refine g_iast (σ1 := σ2) hx hb hK hP hi hAd hS 20 1100 (by decide) (fun _ => rfl) hin dX6_keep_22 eσ2 (fun H locs hP hS => ?_)
  refine lv_aload_n hx hb dX6_keep_23 rfl (lv_at hl 0 rfl) ?_
  refine g_get (v := .ref (ad 21)) hx hb hB hown hK hP 0 (by decide) rfl rfl kU_X6 25 (by decide) kF_X6_70 rfl rfl dX6_keep_24 ?_
  refine lv_aload_n hx hb dX6_keep_27 rfl (lv_at hl 0 rfl) ?_
  refine g_get (v := .int (σ2 0 23)) hx hb hB hown hK hP 0 (by decide) rfl rfl kU_X6 23 (by decide) kF_X6_99 rfl rfl dX6_keep_28 ?_
  refine lv_aload_n hx hb dX6_keep_31 rfl (lv_at hl 0 rfl) ?_
  obtain ⟨v3, hv, hf⟩ := bd_e hf
  refine g_cViS (k0 := 0) ⟨⟨hx, hb, hml, hown, hB⟩, hK, hi, hA, hAd, hP, hS⟩ (c_X6_actor hi hv) cal_X6_actor kM_X6_102 ⟨Nat.le_trans (Nat.le_of_ble_eq_true rfl) hRf, Nat.le_trans (Nat.le_of_ble_eq_true rfl) hRl⟩ (by decide) rfl rfl rfl hl.1 (Nat.le_of_ble_eq_true rfl) rfl dX6_keep_32 ⟨Nat.zero_le _, Nat.zero_le _⟩ (fun H locs hP hS => ?_)
  obtain ⟨hin, hf⟩ := gd_e hf
  obtain ⟨σ4, eσ4, hf⟩ := stp_e hf
  refine g_iast (σ1 := σ4) hx hb hK hP hi hAd hS 21 1100 (by decide) (fun _ => rfl) hin dX6_keep_35 eσ4 (fun H locs hP hS => ?_)
  refine lv_iconst (v := 0) hx hb dX6_keep_36 (by decide) ?_
  refine lv_istore_n (lv' := [(1, .int 0), (0, .ref (ad 0))]) hx hb dX6_keep_37 rfl hl (by decide) rfl (fun ls hl => ?_)
  obtain ⟨K7, eK7, hf⟩ := lp_e1 (b := fun K => L_X6_keep_38 FU K 0 σ4) hf
  replace hf : L_X6_keep_38 FU K7 0 σ4 = some σr := hf
  have hKK7 : ∀ (σ8 : Mem) (H : Heap) (locs : List Loc) (ls : Array Slot), K7 σ8 = some σr → va_P D vwCl (wsG 25 ad (EM ad cI) σ8) H → va_S (AG 25 ad s.heap.size) s.heap H locs → lv_has ls 2 [] → W p l e R s m args below meth c H locs 0 0 Q (F0 m 90 ls []) := by
    intro σ8 H locs ls hf hP hS hl
    rw [eK7] at hf
    have h2 := rt1 hf
    rw [hQ]
    exact g_vret hx hb hr hlocks hP hS h2 dX6_keep_90
  have hL_X6_keep_38 : ∀ (n : Nat) (x5 : Int32) (σ6 : Mem) (H : Heap) (locs : List Loc) (ls : Array Slot), L_X6_keep_38 n K7 x5 σ6 = some σr → va_P D vwCl (wsG 25 ad (EM ad cI) σ6) H → va_S (AG 25 ad s.heap.size) s.heap H locs → lv_has ls 2 [(0, .ref (ad 0)), (1, .int x5)] → W p l e R s m args below meth c H locs 0 0 Q (F0 m 38 ls []) := by
    intro n
    induction n with
    | zero => intro x5 σ6 H locs ls hf; cases hf
    | succ n ih =>
      intro x5 σ6 H locs ls hf hP hS hl
      rw [L_X6_keep_38] at hf
      refine lv_iload_n hx hb dX6_keep_38 rfl (lv_at hl 1 rfl) ?_
      refine lv_aload_n hx hb dX6_keep_39 rfl (lv_at hl 0 rfl) ?_
      refine g_get (v := .int (σ6 0 5)) hx hb hB hown hK hP 0 (by decide) rfl rfl kU_X6 5 (by decide) kF_X6_93 rfl rfl dX6_keep_40 ?_
      refine lv_icmp_ge (tgt := 90) hx hb dX6_keep_43 (by decide) (fun q9 => ?_) (fun q9 => ?_)
      · rw [if_pos q9] at hf
        exact hKK7 σ6 _ _ ls hf hP hS (lv_sub hl [] rfl)
      · rw [if_neg q9] at hf
        refine lv_aload_n hx hb dX6_keep_46 rfl (lv_at hl 0 rfl) ?_
        refine g_get (v := .ref (ad 22)) hx hb hB hown hK hP 0 (by decide) rfl rfl kU_X6 26 (by decide) kF_X6_73 rfl rfl dX6_keep_47 ?_
        refine lv_iconst (v := 4) hx hb dX6_keep_50 (by decide) ?_
        refine lv_aload_n hx hb dX6_keep_51 rfl (lv_at hl 0 rfl) ?_
        refine g_get (v := .int (σ6 0 23)) hx hb hB hown hK hP 0 (by decide) rfl rfl kU_X6 23 (by decide) kF_X6_99 rfl rfl dX6_keep_52 ?_
        refine lv_imul hx hb dX6_keep_55 ?_
        refine lv_iload_n hx hb dX6_keep_56 rfl (lv_at hl 1 rfl) ?_
        refine lv_iadd hx hb dX6_keep_57 ?_
        refine lv_aload_n hx hb dX6_keep_58 rfl (lv_at hl 0 rfl) ?_
        refine g_get (v := .ref (ad 6)) hx hb hB hown hK hP 0 (by decide) rfl rfl kU_X6 6 (by decide) kF_X6_25 rfl rfl dX6_keep_59 ?_
        refine lv_iload_n hx hb dX6_keep_62 rfl (lv_at hl 1 rfl) ?_
        obtain ⟨hin, hf⟩ := gd_e hf
        refine g_iald hx hb hK hP 6 4 (by decide) rfl hin dX6_keep_63 ?_
        obtain ⟨hin, hf⟩ := gd_e hf
        obtain ⟨σ10, eσ10, hf⟩ := stp_e hf
        refine g_iast (σ1 := σ10) hx hb hK hP hi hAd hS 22 4400 (by decide) (fun _ => rfl) hin dX6_keep_64 eσ10 (fun H locs hP hS => ?_)
        refine lv_aload_n hx hb dX6_keep_65 rfl (lv_at hl 0 rfl) ?_
        refine g_get (v := .ref (ad 23)) hx hb hB hown hK hP 0 (by decide) rfl rfl kU_X6 27 (by decide) kF_X6_76 rfl rfl dX6_keep_66 ?_
        refine lv_iconst (v := 4) hx hb dX6_keep_69 (by decide) ?_
        refine lv_aload_n hx hb dX6_keep_70 rfl (lv_at hl 0 rfl) ?_
        refine g_get (v := .int (σ10 0 23)) hx hb hB hown hK hP 0 (by decide) rfl rfl kU_X6 23 (by decide) kF_X6_99 rfl rfl dX6_keep_71 ?_
        refine lv_imul hx hb dX6_keep_74 ?_
        refine lv_iload_n hx hb dX6_keep_75 rfl (lv_at hl 1 rfl) ?_
        refine lv_iadd hx hb dX6_keep_76 ?_
        refine lv_aload_n hx hb dX6_keep_77 rfl (lv_at hl 0 rfl) ?_
        refine g_get (v := .ref (ad 7)) hx hb hB hown hK hP 0 (by decide) rfl rfl kU_X6 7 (by decide) kF_X6_28 rfl rfl dX6_keep_78 ?_
        refine lv_iload_n hx hb dX6_keep_81 rfl (lv_at hl 1 rfl) ?_
        obtain ⟨hin, hf⟩ := gd_e hf
        refine g_iald hx hb hK hP 7 4 (by decide) rfl hin dX6_keep_82 ?_
        obtain ⟨hin, hf⟩ := gd_e hf
        obtain ⟨σ11, eσ11, hf⟩ := stp_e hf
        refine g_iast (σ1 := σ11) hx hb hK hP hi hAd hS 23 4400 (by decide) (fun _ => rfl) hin dX6_keep_83 eσ11 (fun H locs hP hS => ?_)
        refine lv_iinc (v := (x5 + 1)) (lv' := [(1, .int (x5 + 1)), (0, .ref (ad 0))]) hx hb dX6_keep_84 hl (k := 1) rfl rfl (by decide) rfl (fun ls hl => ?_)
        refine lv_goto (tgt := 38) hx hb dX6_keep_87 (by decide) ?_
        exact ih (x5 + 1) σ11 _ _ ls hf hP hS (lv_sub hl [1, 0] rfl)
  exact hL_X6_keep_38 FU 0 σ4 _ _ ls hf hP hS (lv_sub hl [1, 0] rfl)
def f_X6_link (σ : Mem) (a0 a1 a2 : Int32) : Option (Mem) :=
bd (f_X6_isRoom a0) fun v1 =>
jn (fun (y2 : Int32) (σ3 : Mem) =>
jn (fun (y5 : Int32) (σ6 : Mem) =>
bd2 (f_X6_can σ6 y5) fun v8 σ9 =>
if v8 = 0 then (
some σ9)
else (
gd ((4 * a0) + a1) 32 <| stp (mu σ9 1 ((4 * a0) + a1).toNatClampNeg a2) fun σ11 =>
gd ((4 * a2) + (jrem (a1 + 2) 4)) 32 <| stp (mu σ11 1 ((4 * a2) + (jrem (a1 + 2) 4)).toNatClampNeg a0) fun σ12 =>
bd (f_X6_keep σ12) fun σ13 =>
some σ13)) fun (J7 : Int32 → Mem → Option (Mem)) =>
if y2 = 0 then (
J7 1 σ3)
else (
if a0 = a2 then (
J7 2 σ3)
else (
gd ((4 * a0) + a1) 32 <|
jn (fun (σ16 : Mem) =>
J7 3 σ16) fun (J17 : Mem → Option (Mem)) =>
if (σ3 1 ((4 * a0) + a1).toNatClampNeg) = (-1) then (
gd ((4 * a2) + (jrem (a1 + 2) 4)) 32 <|
if (σ3 1 ((4 * a2) + (jrem (a1 + 2) 4)).toNatClampNeg) = (-1) then (
J7 0 σ3)
else (
J17 σ3))
else (
J17 σ3)))) fun (J4 : Int32 → Mem → Option (Mem)) =>
jn (fun (σ20 : Mem) =>
J4 0 σ20) fun (J21 : Mem → Option (Mem)) =>
if v1 = 0 then (
J21 σ)
else (
bd (f_X6_isRoom a2) fun v23 =>
if v23 = 0 then (
J21 σ)
else (
bd (f_X6_isIn a1 0 3) fun v25 =>
if v25 = 0 then (
J21 σ)
else (
J4 1 σ)))
set_option maxHeartbeats 4000000 in
set_option maxRecDepth 100000 in
theorem c_X6_link {l : Launch} {D : va_G} {cI cJ : ClassId} {ad : Nat → Nat} {σ : Mem} {a0 a1 a2 : Int32} {σr : Mem}  (hi : injG 25 ad) (hf : f_X6_link σ a0 a1 a2 = some σr) : MGv l yX6_link (Cond.code yX6_link cX6_link 6 none :: BIG) 2 43 D cI cJ 25 ad (EM ad cI) [.ref (ad 0), .int a0, .int a1, .int a2] σ σr := by
  refine MGv.ofW (cc := cX6_link) (nL := 6) (ret := none) (by decide) rfl hi ?_
  intro p e s m args below meth c hx hb hr hml hlocks hown hB hK hP hA hAd hS
  have hown : s.vm.findClass RX6 = some m.cls := hown
  have hl := lv_entry ([.ref (ad 0), .int a0, .int a1, .int a2] : List Value) (n := 6) (Nat.le_of_ble_eq_true rfl)
  rw [lg_entry_eq]
  generalize (lg_sl ([.ref (ad 0), .int a0, .int a1, .int a2] : List Value) ++ List.replicate (6 - (lg_sl ([.ref (ad 0), .int a0, .int a1, .int a2] : List Value)).length) Slot.unset).toArray = ls at hl ⊢
  have hl : lv_has ls 6 [(0, .ref (ad 0)), (1, .int a0), (2, .int a1), (3, .int a2)] := hl
  generalize hQ : MQ below (Qgv D 25 ad (EM ad cI) σr s.heap.size) _ s 0 0 (AG 25 ad s.heap.size) = Q
  have hQ := hQ.symm
  obtain ⟨R, hR, hRf, hRl⟩ : ∃ R : Room, R = ({ frames := 2, cells := 0, slots := 0, locals := 43 } : Room) ∧ 2 ≤ R.frames ∧ 43 ≤ R.locals := ⟨_, rfl, Nat.le_refl _, Nat.le_refl _⟩
  rw [← hR]
  unfold f_X6_link at hf
  refine lv_iload_n hx hb dX6_link_0 rfl (lv_at hl 1 rfl) ?_
  obtain ⟨v1, hv, hf⟩ := bd_e hf
  refine g_cSi0 ⟨⟨hx, hb, hml, hown, hB⟩, hK, hi, hA, hAd, hP, hS⟩ (c_X6_isRoom hv) cal_X6_isRoom kM_X6_106 ⟨Nat.le_trans (Nat.le_of_ble_eq_true rfl) hRf, Nat.le_trans (Nat.le_of_ble_eq_true rfl) hRl⟩ rfl hl.1 (Nat.le_of_ble_eq_true rfl) rfl dX6_link_1 ⟨Nat.zero_le _, Nat.zero_le _⟩ (fun H locs hP hS => ?_)
  obtain ⟨J4, eJ4, hf⟩ := jn_e2 hf
  have hJ4 : ∀ (y2 : Int32) (σ3 : Mem) (H : Heap) (locs : List Loc) (ls : Array Slot), J4 y2 σ3 = some σr → va_P D vwCl (wsG 25 ad (EM ad cI) σ3) H → va_S (AG 25 ad s.heap.size) s.heap H locs → lv_has ls 6 [(0, .ref (ad 0)), (1, .int a0), (2, .int a1), (3, .int a2)] → W p l e R s m args below meth c H locs 0 0 Q (F0 m 28 ls [.int y2]) := by
    intro y2 σ3 H locs ls hf hP hS hl
    rw [eJ4] at hf
    refine lv_istore (lv' := [(4, .int y2), (0, .ref (ad 0)), (1, .int a0), (2, .int a1), (3, .int a2)]) hx hb dX6_link_28 hl (by decide) rfl (fun ls hl => ?_)
    refine lv_iload_n hx hb dX6_link_30 rfl (lv_at hl 3 rfl) ?_
    refine lv_iconst (v := 2) hx hb dX6_link_31 (by decide) ?_
    refine lv_iadd hx hb dX6_link_32 ?_
    refine lv_iconst (v := 4) hx hb dX6_link_33 (by decide) ?_
    refine lv_irem hx hb dX6_link_34 (by decide) ?_
    refine lv_istore (lv' := [(5, .int (jrem (a1 + 2) 4)), (4, .int y2), (0, .ref (ad 0)), (1, .int a0), (2, .int a1), (3, .int a2)]) hx hb dX6_link_35 hl (by decide) rfl (fun ls hl => ?_)
    refine lv_aload_n hx hb dX6_link_37 rfl (lv_at hl 2 rfl) ?_
    refine lv_iload hx hb dX6_link_38 (lv_at hl 1 rfl) ?_
    obtain ⟨J7, eJ7, hf⟩ := jn_e2 hf
    have hJ7 : ∀ (y5 : Int32) (σ6 : Mem) (H : Heap) (locs : List Loc) (ls : Array Slot), J7 y5 σ6 = some σr → va_P D vwCl (wsG 25 ad (EM ad cI) σ6) H → va_S (AG 25 ad s.heap.size) s.heap H locs → lv_has ls 6 [(0, .ref (ad 0)), (1, .int a0), (2, .int a1), (3, .int a2), (5, .int (jrem (a1 + 2) 4))] → W p l e R s m args below meth c H locs 0 0 Q (F0 m 90 ls [.int y5, .ref (ad 0)]) := by
      intro y5 σ6 H locs ls hf hP hS hl
      rw [eJ7] at hf
      obtain ⟨v8, σ9, hv, hf⟩ := bd2_e hf
      refine g_cViS (k0 := 0) ⟨⟨hx, hb, hml, hown, hB⟩, hK, hi, hA, hAd, hP, hS⟩ (c_X6_can hi hv) cal_X6_can kM_X6_110 ⟨Nat.le_trans (Nat.le_of_ble_eq_true rfl) hRf, Nat.le_trans (Nat.le_of_ble_eq_true rfl) hRl⟩ (by decide) rfl rfl rfl hl.1 (Nat.le_of_ble_eq_true rfl) rfl dX6_link_90 ⟨Nat.zero_le _, Nat.zero_le _⟩ (fun H locs hP hS => ?_)
      refine lv_if_eq (tgt := 123) hx hb dX6_link_93 (by decide) (fun q10 => ?_) (fun q10 => ?_)
      · rw [if_pos q10] at hf
        have h2 := rt1 hf
        rw [hQ]
        exact g_vret hx hb hr hlocks hP hS h2 dX6_link_123
      · rw [if_neg q10] at hf
        refine lv_aload_n hx hb dX6_link_96 rfl (lv_at hl 0 rfl) ?_
        refine g_get (v := .ref (ad 1)) hx hb hB hown hK hP 0 (by decide) rfl rfl kU_X6 0 (by decide) kF_X6_7 rfl rfl dX6_link_97 ?_
        refine lv_iconst (v := 4) hx hb dX6_link_100 (by decide) ?_
        refine lv_iload_n hx hb dX6_link_101 rfl (lv_at hl 1 rfl) ?_
        refine lv_imul hx hb dX6_link_102 ?_
        refine lv_iload_n hx hb dX6_link_103 rfl (lv_at hl 2 rfl) ?_
        refine lv_iadd hx hb dX6_link_104 ?_
        refine lv_iload_n hx hb dX6_link_105 rfl (lv_at hl 3 rfl) ?_
        obtain ⟨hin, hf⟩ := gd_e hf
        obtain ⟨σ11, eσ11, hf⟩ := stp_e hf
        refine g_iast (σ1 := σ11) hx hb hK hP hi hAd hS 1 32 (by decide) (fun _ => rfl) hin dX6_link_106 eσ11 (fun H locs hP hS => ?_)
        refine lv_aload_n hx hb dX6_link_107 rfl (lv_at hl 0 rfl) ?_
        refine g_get (v := .ref (ad 1)) hx hb hB hown hK hP 0 (by decide) rfl rfl kU_X6 0 (by decide) kF_X6_7 rfl rfl dX6_link_108 ?_
        refine lv_iconst (v := 4) hx hb dX6_link_111 (by decide) ?_
        refine lv_iload_n hx hb dX6_link_112 rfl (lv_at hl 3 rfl) ?_
        refine lv_imul hx hb dX6_link_113 ?_
        refine lv_iload hx hb dX6_link_114 (lv_at hl 4 rfl) ?_
        refine lv_iadd hx hb dX6_link_116 ?_
        refine lv_iload_n hx hb dX6_link_117 rfl (lv_at hl 1 rfl) ?_
        obtain ⟨hin, hf⟩ := gd_e hf
        obtain ⟨σ12, eσ12, hf⟩ := stp_e hf
        refine g_iast (σ1 := σ12) hx hb hK hP hi hAd hS 1 32 (by decide) (fun _ => rfl) hin dX6_link_118 eσ12 (fun H locs hP hS => ?_)
        refine lv_aload_n hx hb dX6_link_119 rfl (lv_at hl 0 rfl) ?_
        obtain ⟨σ13, hv, hf⟩ := bd_e hf
        refine g_cVvS (k0 := 0) ⟨⟨hx, hb, hml, hown, hB⟩, hK, hi, hA, hAd, hP, hS⟩ (c_X6_keep hi hv) cal_X6_keep kM_X6_113 ⟨Nat.le_trans (Nat.le_of_ble_eq_true rfl) hRf, Nat.le_trans (Nat.le_of_ble_eq_true rfl) hRl⟩ (by decide) rfl rfl rfl hl.1 (Nat.le_of_ble_eq_true rfl) rfl dX6_link_120 ⟨Nat.zero_le _, Nat.zero_le _⟩ (fun H locs hP hS => ?_)
        have h2 := rt1 hf
        rw [hQ]
        exact g_vret hx hb hr hlocks hP hS h2 dX6_link_123
    refine lv_if_ne (tgt := 47) hx hb dX6_link_40 (by decide) (fun q14 => ?_) (fun q14 => ?_)
    · rw [if_neg q14] at hf
      refine lv_iload_n hx hb dX6_link_47 rfl (lv_at hl 3 rfl) ?_
      refine lv_iload_n hx hb dX6_link_48 rfl (lv_at hl 5 rfl) ?_
      refine lv_icmp_ne (tgt := 56) hx hb dX6_link_49 (by decide) (fun q15 => ?_) (fun q15 => ?_)
      · rw [if_neg q15] at hf
        refine lv_aload_n hx hb dX6_link_56 rfl (lv_at hl 2 rfl) ?_
        refine g_get (v := .ref (ad 1)) hx hb hB hown hK hP 0 (by decide) rfl rfl kU_X6 0 (by decide) kF_X6_7 rfl rfl dX6_link_57 ?_
        refine lv_iconst (v := 4) hx hb dX6_link_60 (by decide) ?_
        refine lv_iload_n hx hb dX6_link_61 rfl (lv_at hl 3 rfl) ?_
        refine lv_imul hx hb dX6_link_62 ?_
        refine lv_iload_n hx hb dX6_link_63 rfl (lv_at hl 4 rfl) ?_
        refine lv_iadd hx hb dX6_link_64 ?_
        obtain ⟨hin, hf⟩ := gd_e hf
        refine g_iald hx hb hK hP 1 32 (by decide) rfl hin dX6_link_65 ?_
        refine lv_iconst (v := (-1)) hx hb dX6_link_66 (by decide) ?_
        obtain ⟨J17, eJ17, hf⟩ := jn_e1 hf
        have hJ17 : ∀ (σ16 : Mem) (H : Heap) (locs : List Loc) (ls : Array Slot), J17 σ16 = some σr → va_P D vwCl (wsG 25 ad (EM ad cI) σ16) H → va_S (AG 25 ad s.heap.size) s.heap H locs → lv_has ls 6 [(0, .ref (ad 0)), (1, .int a0), (2, .int a1), (3, .int a2), (5, .int (jrem (a1 + 2) 4))] → W p l e R s m args below meth c H locs 0 0 Q (F0 m 85 ls [.ref (ad 0)]) := by
          intro σ16 H locs ls hf hP hS hl
          rw [eJ17] at hf
          refine lv_iconst (v := 3) hx hb dX6_link_85 (by decide) ?_
          refine lv_goto (tgt := 90) hx hb dX6_link_86 (by decide) ?_
          exact hJ7 3 σ16 _ _ ls hf hP hS (lv_sub hl [0, 1, 2, 3, 4] rfl)
        refine lv_icmp_ne (tgt := 85) hx hb dX6_link_67 (by decide) (fun q18 => ?_) (fun q18 => ?_)
        · rw [if_neg q18] at hf
          exact hJ17 σ3 _ _ ls hf hP hS (lv_sub hl [2, 3, 4, 5, 0] rfl)
        · rw [if_pos q18] at hf
          refine lv_aload_n hx hb dX6_link_70 rfl (lv_at hl 2 rfl) ?_
          refine g_get (v := .ref (ad 1)) hx hb hB hown hK hP 0 (by decide) rfl rfl kU_X6 0 (by decide) kF_X6_7 rfl rfl dX6_link_71 ?_
          refine lv_iconst (v := 4) hx hb dX6_link_74 (by decide) ?_
          refine lv_iload_n hx hb dX6_link_75 rfl (lv_at hl 5 rfl) ?_
          refine lv_imul hx hb dX6_link_76 ?_
          refine lv_iload hx hb dX6_link_77 (lv_at hl 0 rfl) ?_
          refine lv_iadd hx hb dX6_link_79 ?_
          obtain ⟨hin, hf⟩ := gd_e hf
          refine g_iald hx hb hK hP 1 32 (by decide) rfl hin dX6_link_80 ?_
          refine lv_iconst (v := (-1)) hx hb dX6_link_81 (by decide) ?_
          refine lv_icmp_eq (tgt := 89) hx hb dX6_link_82 (by decide) (fun q19 => ?_) (fun q19 => ?_)
          · rw [if_pos q19] at hf
            refine lv_iconst (v := 0) hx hb dX6_link_89 (by decide) ?_
            exact hJ7 0 σ3 _ _ ls hf hP hS (lv_sub hl [2, 3, 4, 5, 0] rfl)
          · rw [if_neg q19] at hf
            exact hJ17 σ3 _ _ ls hf hP hS (lv_sub hl [2, 3, 4, 5, 0] rfl)
      · rw [if_pos q15] at hf
        refine lv_iconst (v := 2) hx hb dX6_link_52 (by decide) ?_
        refine lv_goto (tgt := 90) hx hb dX6_link_53 (by decide) ?_
        exact hJ7 2 σ3 _ _ ls hf hP hS (lv_sub hl [2, 3, 4, 5, 0] rfl)
    · rw [if_pos q14] at hf
      refine lv_iconst (v := 1) hx hb dX6_link_43 (by decide) ?_
      refine lv_goto (tgt := 90) hx hb dX6_link_44 (by decide) ?_
      exact hJ7 1 σ3 _ _ ls hf hP hS (lv_sub hl [2, 3, 4, 5, 0] rfl)
  obtain ⟨J21, eJ21, hf⟩ := jn_e1 hf
  have hJ21 : ∀ (σ20 : Mem) (H : Heap) (locs : List Loc) (ls : Array Slot), J21 σ20 = some σr → va_P D vwCl (wsG 25 ad (EM ad cI) σ20) H → va_S (AG 25 ad s.heap.size) s.heap H locs → lv_has ls 6 [(0, .ref (ad 0)), (1, .int a0), (2, .int a1), (3, .int a2)] → W p l e R s m args below meth c H locs 0 0 Q (F0 m 27 ls []) := by
    intro σ20 H locs ls hf hP hS hl
    rw [eJ21] at hf
    refine lv_iconst (v := 0) hx hb dX6_link_27 (by decide) ?_
    exact hJ4 0 σ20 _ _ ls hf hP hS (lv_sub hl [0, 1, 2, 3] rfl)
  refine lv_if_eq (tgt := 27) hx hb dX6_link_4 (by decide) (fun q22 => ?_) (fun q22 => ?_)
  · rw [if_pos q22] at hf
    exact hJ21 σ _ _ ls hf hP hS (lv_sub hl [0, 1, 2, 3] rfl)
  · rw [if_neg q22] at hf
    refine lv_iload_n hx hb dX6_link_7 rfl (lv_at hl 3 rfl) ?_
    obtain ⟨v23, hv, hf⟩ := bd_e hf
    refine g_cSi0 ⟨⟨hx, hb, hml, hown, hB⟩, hK, hi, hA, hAd, hP, hS⟩ (c_X6_isRoom hv) cal_X6_isRoom kM_X6_106 ⟨Nat.le_trans (Nat.le_of_ble_eq_true rfl) hRf, Nat.le_trans (Nat.le_of_ble_eq_true rfl) hRl⟩ rfl hl.1 (Nat.le_of_ble_eq_true rfl) rfl dX6_link_8 ⟨Nat.zero_le _, Nat.zero_le _⟩ (fun H locs hP hS => ?_)
    refine lv_if_eq (tgt := 27) hx hb dX6_link_11 (by decide) (fun q24 => ?_) (fun q24 => ?_)
    · rw [if_pos q24] at hf
      exact hJ21 σ _ _ ls hf hP hS (lv_sub hl [0, 1, 2, 3] rfl)
    · rw [if_neg q24] at hf
      refine lv_iload_n hx hb dX6_link_14 rfl (lv_at hl 2 rfl) ?_
      refine lv_iconst (v := 0) hx hb dX6_link_15 (by decide) ?_
      refine lv_iconst (v := 3) hx hb dX6_link_16 (by decide) ?_
      obtain ⟨v25, hv, hf⟩ := bd_e hf
      refine g_cSi0 ⟨⟨hx, hb, hml, hown, hB⟩, hK, hi, hA, hAd, hP, hS⟩ (c_X6_isIn hv) cal_X6_isIn kM_X6_89 ⟨Nat.le_trans (Nat.le_of_ble_eq_true rfl) hRf, Nat.le_trans (Nat.le_of_ble_eq_true rfl) hRl⟩ rfl hl.1 (Nat.le_of_ble_eq_true rfl) rfl dX6_link_17 ⟨Nat.zero_le _, Nat.zero_le _⟩ (fun H locs hP hS => ?_)
      refine lv_if_eq (tgt := 27) hx hb dX6_link_20 (by decide) (fun q26 => ?_) (fun q26 => ?_)
      · rw [if_pos q26] at hf
        exact hJ21 σ _ _ ls hf hP hS (lv_sub hl [0, 1, 2, 3] rfl)
      · rw [if_neg q26] at hf
        refine lv_iconst (v := 1) hx hb dX6_link_23 (by decide) ?_
        refine lv_goto (tgt := 28) hx hb dX6_link_24 (by decide) ?_
        exact hJ4 1 σ _ _ ls hf hP hS (lv_sub hl [0, 1, 2, 3] rfl)
def f_X6_shop (σ : Mem) (a0 a1 : Int32) : Option (Mem) :=
bd (f_X6_isRoom a0) fun v1 =>
jn (fun (y2 : Int32) (σ3 : Mem) =>
bd2 (f_X6_can σ3 y2) fun v5 σ6 =>
if v5 = 0 then (
some σ6)
else (
gd a0 8 <| stp (mu σ6 3 a0.toNatClampNeg a1) fun σ8 =>
bd (f_X6_keep σ8) fun σ9 =>
some σ9)) fun (J4 : Int32 → Mem → Option (Mem)) =>
if v1 = 0 then (
J4 1 σ)
else (
bd (f_X6_isIn a1 0 1000) fun v11 =>
if v11 = 0 then (
J4 2 σ)
else (
gd a0 8 <|
if (σ 3 a0.toNatClampNeg) = (-1) then (
J4 0 σ)
else (
J4 3 σ)))
set_option maxHeartbeats 4000000 in
set_option maxRecDepth 100000 in
theorem c_X6_shop {l : Launch} {D : va_G} {cI cJ : ClassId} {ad : Nat → Nat} {σ : Mem} {a0 a1 : Int32} {σr : Mem}  (hi : injG 25 ad) (hf : f_X6_shop σ a0 a1 = some σr) : MGv l yX6_shop (Cond.code yX6_shop cX6_shop 3 none :: BIG) 2 43 D cI cJ 25 ad (EM ad cI) [.ref (ad 0), .int a0, .int a1] σ σr := by
  refine MGv.ofW (cc := cX6_shop) (nL := 3) (ret := none) (by decide) rfl hi ?_
  intro p e s m args below meth c hx hb hr hml hlocks hown hB hK hP hA hAd hS
  have hown : s.vm.findClass RX6 = some m.cls := hown
  have hl := lv_entry ([.ref (ad 0), .int a0, .int a1] : List Value) (n := 3) (Nat.le_of_ble_eq_true rfl)
  rw [lg_entry_eq]
  generalize (lg_sl ([.ref (ad 0), .int a0, .int a1] : List Value) ++ List.replicate (3 - (lg_sl ([.ref (ad 0), .int a0, .int a1] : List Value)).length) Slot.unset).toArray = ls at hl ⊢
  have hl : lv_has ls 3 [(0, .ref (ad 0)), (1, .int a0), (2, .int a1)] := hl
  generalize hQ : MQ below (Qgv D 25 ad (EM ad cI) σr s.heap.size) _ s 0 0 (AG 25 ad s.heap.size) = Q
  have hQ := hQ.symm
  obtain ⟨R, hR, hRf, hRl⟩ : ∃ R : Room, R = ({ frames := 2, cells := 0, slots := 0, locals := 43 } : Room) ∧ 2 ≤ R.frames ∧ 43 ≤ R.locals := ⟨_, rfl, Nat.le_refl _, Nat.le_refl _⟩
  rw [← hR]
  unfold f_X6_shop at hf
  refine lv_aload_n hx hb dX6_shop_0 rfl (lv_at hl 0 rfl) ?_
  refine lv_iload_n hx hb dX6_shop_1 rfl (lv_at hl 1 rfl) ?_
  obtain ⟨v1, hv, hf⟩ := bd_e hf
  refine g_cSi0 ⟨⟨hx, hb, hml, hown, hB⟩, hK, hi, hA, hAd, hP, hS⟩ (c_X6_isRoom hv) cal_X6_isRoom kM_X6_106 ⟨Nat.le_trans (Nat.le_of_ble_eq_true rfl) hRf, Nat.le_trans (Nat.le_of_ble_eq_true rfl) hRl⟩ rfl hl.1 (Nat.le_of_ble_eq_true rfl) rfl dX6_shop_2 ⟨Nat.zero_le _, Nat.zero_le _⟩ (fun H locs hP hS => ?_)
  obtain ⟨J4, eJ4, hf⟩ := jn_e2 hf
  have hJ4 : ∀ (y2 : Int32) (σ3 : Mem) (H : Heap) (locs : List Loc) (ls : Array Slot), J4 y2 σ3 = some σr → va_P D vwCl (wsG 25 ad (EM ad cI) σ3) H → va_S (AG 25 ad s.heap.size) s.heap H locs → lv_has ls 3 [(0, .ref (ad 0)), (1, .int a0), (2, .int a1)] → W p l e R s m args below meth c H locs 0 0 Q (F0 m 42 ls [.int y2, .ref (ad 0)]) := by
    intro y2 σ3 H locs ls hf hP hS hl
    rw [eJ4] at hf
    obtain ⟨v5, σ6, hv, hf⟩ := bd2_e hf
    refine g_cViS (k0 := 0) ⟨⟨hx, hb, hml, hown, hB⟩, hK, hi, hA, hAd, hP, hS⟩ (c_X6_can hi hv) cal_X6_can kM_X6_110 ⟨Nat.le_trans (Nat.le_of_ble_eq_true rfl) hRf, Nat.le_trans (Nat.le_of_ble_eq_true rfl) hRl⟩ (by decide) rfl rfl rfl hl.1 (Nat.le_of_ble_eq_true rfl) rfl dX6_shop_42 ⟨Nat.zero_le _, Nat.zero_le _⟩ (fun H locs hP hS => ?_)
    refine lv_if_eq (tgt := 59) hx hb dX6_shop_45 (by decide) (fun q7 => ?_) (fun q7 => ?_)
    · rw [if_pos q7] at hf
      have h2 := rt1 hf
      rw [hQ]
      exact g_vret hx hb hr hlocks hP hS h2 dX6_shop_59
    · rw [if_neg q7] at hf
      refine lv_aload_n hx hb dX6_shop_48 rfl (lv_at hl 0 rfl) ?_
      refine g_get (v := .ref (ad 3)) hx hb hB hown hK hP 0 (by decide) rfl rfl kU_X6 2 (by decide) kF_X6_16 rfl rfl dX6_shop_49 ?_
      refine lv_iload_n hx hb dX6_shop_52 rfl (lv_at hl 1 rfl) ?_
      refine lv_iload_n hx hb dX6_shop_53 rfl (lv_at hl 2 rfl) ?_
      obtain ⟨hin, hf⟩ := gd_e hf
      obtain ⟨σ8, eσ8, hf⟩ := stp_e hf
      refine g_iast (σ1 := σ8) hx hb hK hP hi hAd hS 3 8 (by decide) (fun _ => rfl) hin dX6_shop_54 eσ8 (fun H locs hP hS => ?_)
      refine lv_aload_n hx hb dX6_shop_55 rfl (lv_at hl 0 rfl) ?_
      obtain ⟨σ9, hv, hf⟩ := bd_e hf
      refine g_cVvS (k0 := 0) ⟨⟨hx, hb, hml, hown, hB⟩, hK, hi, hA, hAd, hP, hS⟩ (c_X6_keep hi hv) cal_X6_keep kM_X6_113 ⟨Nat.le_trans (Nat.le_of_ble_eq_true rfl) hRf, Nat.le_trans (Nat.le_of_ble_eq_true rfl) hRl⟩ (by decide) rfl rfl rfl hl.1 (Nat.le_of_ble_eq_true rfl) rfl dX6_shop_56 ⟨Nat.zero_le _, Nat.zero_le _⟩ (fun H locs hP hS => ?_)
      have h2 := rt1 hf
      rw [hQ]
      exact g_vret hx hb hr hlocks hP hS h2 dX6_shop_59
  refine lv_if_ne (tgt := 12) hx hb dX6_shop_5 (by decide) (fun q10 => ?_) (fun q10 => ?_)
  · rw [if_neg q10] at hf
    refine lv_iload_n hx hb dX6_shop_12 rfl (lv_at hl 2 rfl) ?_
    refine lv_iconst (v := 0) hx hb dX6_shop_13 (by decide) ?_
    refine lv_sipush (v := 1000) hx hb dX6_shop_14 (by decide) ?_
    obtain ⟨v11, hv, hf⟩ := bd_e hf
    refine g_cSi0 ⟨⟨hx, hb, hml, hown, hB⟩, hK, hi, hA, hAd, hP, hS⟩ (c_X6_isIn hv) cal_X6_isIn kM_X6_89 ⟨Nat.le_trans (Nat.le_of_ble_eq_true rfl) hRf, Nat.le_trans (Nat.le_of_ble_eq_true rfl) hRl⟩ rfl hl.1 (Nat.le_of_ble_eq_true rfl) rfl dX6_shop_17 ⟨Nat.zero_le _, Nat.zero_le _⟩ (fun H locs hP hS => ?_)
    refine lv_if_ne (tgt := 27) hx hb dX6_shop_20 (by decide) (fun q12 => ?_) (fun q12 => ?_)
    · rw [if_neg q12] at hf
      refine lv_aload_n hx hb dX6_shop_27 rfl (lv_at hl 0 rfl) ?_
      refine g_get (v := .ref (ad 3)) hx hb hB hown hK hP 0 (by decide) rfl rfl kU_X6 2 (by decide) kF_X6_16 rfl rfl dX6_shop_28 ?_
      refine lv_iload_n hx hb dX6_shop_31 rfl (lv_at hl 1 rfl) ?_
      obtain ⟨hin, hf⟩ := gd_e hf
      refine g_iald hx hb hK hP 3 8 (by decide) rfl hin dX6_shop_32 ?_
      refine lv_iconst (v := (-1)) hx hb dX6_shop_33 (by decide) ?_
      refine lv_icmp_eq (tgt := 41) hx hb dX6_shop_34 (by decide) (fun q13 => ?_) (fun q13 => ?_)
      · rw [if_pos q13] at hf
        refine lv_iconst (v := 0) hx hb dX6_shop_41 (by decide) ?_
        exact hJ4 0 σ _ _ ls hf hP hS (lv_sub hl [0, 1, 2] rfl)
      · rw [if_neg q13] at hf
        refine lv_iconst (v := 3) hx hb dX6_shop_37 (by decide) ?_
        refine lv_goto (tgt := 42) hx hb dX6_shop_38 (by decide) ?_
        exact hJ4 3 σ _ _ ls hf hP hS (lv_sub hl [0, 1, 2] rfl)
    · rw [if_pos q12] at hf
      refine lv_iconst (v := 2) hx hb dX6_shop_23 (by decide) ?_
      refine lv_goto (tgt := 42) hx hb dX6_shop_24 (by decide) ?_
      exact hJ4 2 σ _ _ ls hf hP hS (lv_sub hl [0, 1, 2] rfl)
  · rw [if_pos q10] at hf
    refine lv_iconst (v := 1) hx hb dX6_shop_8 (by decide) ?_
    refine lv_goto (tgt := 42) hx hb dX6_shop_9 (by decide) ?_
    exact hJ4 1 σ _ _ ls hf hP hS (lv_sub hl [0, 1, 2] rfl)
def f_X6_stock (σ : Mem) (a0 a1 a2 a3 : Int32) : Option (Int32 × Mem) :=
bd (f_X6_isRoom a0) fun v1 =>
jn (fun (y2 : Int32) (σ3 : Mem) =>
bd2 (f_X6_can σ3 y2) fun v5 σ6 =>
if v5 = 0 then (
some (0, σ6))
else (
gd ((5 * a0) + a1) 40 <|
gd ((5 * a0) + a1) 40 <| stp (mu σ6 5 ((5 * a0) + a1).toNatClampNeg ((σ6 5 ((5 * a0) + a1).toNatClampNeg) + a2)) fun σ8 =>
gd ((5 * a0) + a1) 40 <| stp (mu σ8 4 ((5 * a0) + a1).toNatClampNeg a3) fun σ9 =>
bd (f_X6_keep σ9) fun σ10 =>
gd ((5 * a0) + a1) 40 <|
some ((σ10 5 ((5 * a0) + a1).toNatClampNeg), σ10))) fun (J4 : Int32 → Mem → Option (Int32 × Mem)) =>
jn (fun (σ11 : Mem) =>
J4 1 σ11) fun (J12 : Mem → Option (Int32 × Mem)) =>
if v1 = 0 then (
J12 σ)
else (
bd (f_X6_isKind a1) fun v14 =>
if v14 = 0 then (
J12 σ)
else (
bd (f_X6_isIn a2 0 20) fun v16 =>
jn (fun (σ17 : Mem) =>
J4 2 σ17) fun (J18 : Mem → Option (Int32 × Mem)) =>
if v16 = 0 then (
J18 σ)
else (
bd (f_X6_isIn a3 0 50) fun v20 =>
if v20 = 0 then (
J18 σ)
else (
gd a0 8 <|
if (σ 3 a0.toNatClampNeg) = (-1) then (
J4 3 σ)
else (
J4 0 σ)))))
set_option maxHeartbeats 4000000 in
set_option maxRecDepth 100000 in
theorem c_X6_stock {l : Launch} {D : va_G} {cI cJ : ClassId} {ad : Nat → Nat} {σ : Mem} {a0 a1 a2 a3 : Int32} {r : Int32} {σr : Mem}  (hi : injG 25 ad) (hf : f_X6_stock σ a0 a1 a2 a3 = some (r, σr)) : MGi l yX6_stock (Cond.code yX6_stock cX6_stock 5 (some .int) :: BIG) 2 43 D cI cJ 25 ad (EM ad cI) [.ref (ad 0), .int a0, .int a1, .int a2, .int a3] σ σr r := by
  refine MGi.ofW (cc := cX6_stock) (nL := 5) (ret := (some .int)) (by decide) rfl hi ?_
  intro p e s m args below meth c hx hb hr hml hlocks hown hB hK hP hA hAd hS
  have hown : s.vm.findClass RX6 = some m.cls := hown
  have hl := lv_entry ([.ref (ad 0), .int a0, .int a1, .int a2, .int a3] : List Value) (n := 5) (Nat.le_of_ble_eq_true rfl)
  rw [lg_entry_eq]
  generalize (lg_sl ([.ref (ad 0), .int a0, .int a1, .int a2, .int a3] : List Value) ++ List.replicate (5 - (lg_sl ([.ref (ad 0), .int a0, .int a1, .int a2, .int a3] : List Value)).length) Slot.unset).toArray = ls at hl ⊢
  have hl : lv_has ls 5 [(0, .ref (ad 0)), (1, .int a0), (2, .int a1), (3, .int a2), (4, .int a3)] := hl
  generalize hQ : MQ below (Qgi D 25 ad (EM ad cI) r σr s.heap.size) _ s 0 0 (AG 25 ad s.heap.size) = Q
  have hQ := hQ.symm
  obtain ⟨R, hR, hRf, hRl⟩ : ∃ R : Room, R = ({ frames := 2, cells := 0, slots := 0, locals := 43 } : Room) ∧ 2 ≤ R.frames ∧ 43 ≤ R.locals := ⟨_, rfl, Nat.le_refl _, Nat.le_refl _⟩
  rw [← hR]
  unfold f_X6_stock at hf
  refine lv_aload_n hx hb dX6_stock_0 rfl (lv_at hl 0 rfl) ?_
  refine lv_iload_n hx hb dX6_stock_1 rfl (lv_at hl 1 rfl) ?_
  obtain ⟨v1, hv, hf⟩ := bd_e hf
  refine g_cSi0 ⟨⟨hx, hb, hml, hown, hB⟩, hK, hi, hA, hAd, hP, hS⟩ (c_X6_isRoom hv) cal_X6_isRoom kM_X6_106 ⟨Nat.le_trans (Nat.le_of_ble_eq_true rfl) hRf, Nat.le_trans (Nat.le_of_ble_eq_true rfl) hRl⟩ rfl hl.1 (Nat.le_of_ble_eq_true rfl) rfl dX6_stock_2 ⟨Nat.zero_le _, Nat.zero_le _⟩ (fun H locs hP hS => ?_)
  obtain ⟨J4, eJ4, hf⟩ := jn_e2 hf
  have hJ4 : ∀ (y2 : Int32) (σ3 : Mem) (H : Heap) (locs : List Loc) (ls : Array Slot), J4 y2 σ3 = some (r, σr) → va_P D vwCl (wsG 25 ad (EM ad cI) σ3) H → va_S (AG 25 ad s.heap.size) s.heap H locs → lv_has ls 5 [(0, .ref (ad 0)), (1, .int a0), (2, .int a1), (3, .int a2), (4, .int a3)] → W p l e R s m args below meth c H locs 0 0 Q (F0 m 59 ls [.int y2, .ref (ad 0)]) := by
    intro y2 σ3 H locs ls hf hP hS hl
    rw [eJ4] at hf
    obtain ⟨v5, σ6, hv, hf⟩ := bd2_e hf
    refine g_cViS (k0 := 0) ⟨⟨hx, hb, hml, hown, hB⟩, hK, hi, hA, hAd, hP, hS⟩ (c_X6_can hi hv) cal_X6_can kM_X6_110 ⟨Nat.le_trans (Nat.le_of_ble_eq_true rfl) hRf, Nat.le_trans (Nat.le_of_ble_eq_true rfl) hRl⟩ (by decide) rfl rfl rfl hl.1 (Nat.le_of_ble_eq_true rfl) rfl dX6_stock_59 ⟨Nat.zero_le _, Nat.zero_le _⟩ (fun H locs hP hS => ?_)
    refine lv_if_ne (tgt := 67) hx hb dX6_stock_62 (by decide) (fun q7 => ?_) (fun q7 => ?_)
    · rw [if_neg q7] at hf
      refine lv_aload_n hx hb dX6_stock_67 rfl (lv_at hl 0 rfl) ?_
      refine g_get (v := .ref (ad 5)) hx hb hB hown hK hP 0 (by decide) rfl rfl kU_X6 4 (by decide) kF_X6_22 rfl rfl dX6_stock_68 ?_
      refine lv_iconst (v := 5) hx hb dX6_stock_71 (by decide) ?_
      refine lv_iload_n hx hb dX6_stock_72 rfl (lv_at hl 1 rfl) ?_
      refine lv_imul hx hb dX6_stock_73 ?_
      refine lv_iload_n hx hb dX6_stock_74 rfl (lv_at hl 2 rfl) ?_
      refine lv_iadd hx hb dX6_stock_75 ?_
      refine lv_dup2_11 hx hb dX6_stock_76 rfl rfl ?_
      obtain ⟨hin, hf⟩ := gd_e hf
      refine g_iald hx hb hK hP 5 40 (by decide) rfl hin dX6_stock_77 ?_
      refine lv_iload_n hx hb dX6_stock_78 rfl (lv_at hl 3 rfl) ?_
      refine lv_iadd hx hb dX6_stock_79 ?_
      obtain ⟨hin, hf⟩ := gd_e hf
      obtain ⟨σ8, eσ8, hf⟩ := stp_e hf
      refine g_iast (σ1 := σ8) hx hb hK hP hi hAd hS 5 40 (by decide) (fun _ => rfl) hin dX6_stock_80 eσ8 (fun H locs hP hS => ?_)
      refine lv_aload_n hx hb dX6_stock_81 rfl (lv_at hl 0 rfl) ?_
      refine g_get (v := .ref (ad 4)) hx hb hB hown hK hP 0 (by decide) rfl rfl kU_X6 3 (by decide) kF_X6_19 rfl rfl dX6_stock_82 ?_
      refine lv_iconst (v := 5) hx hb dX6_stock_85 (by decide) ?_
      refine lv_iload_n hx hb dX6_stock_86 rfl (lv_at hl 1 rfl) ?_
      refine lv_imul hx hb dX6_stock_87 ?_
      refine lv_iload_n hx hb dX6_stock_88 rfl (lv_at hl 2 rfl) ?_
      refine lv_iadd hx hb dX6_stock_89 ?_
      refine lv_iload hx hb dX6_stock_90 (lv_at hl 4 rfl) ?_
      obtain ⟨hin, hf⟩ := gd_e hf
      obtain ⟨σ9, eσ9, hf⟩ := stp_e hf
      refine g_iast (σ1 := σ9) hx hb hK hP hi hAd hS 4 40 (by decide) (fun _ => rfl) hin dX6_stock_92 eσ9 (fun H locs hP hS => ?_)
      refine lv_aload_n hx hb dX6_stock_93 rfl (lv_at hl 0 rfl) ?_
      obtain ⟨σ10, hv, hf⟩ := bd_e hf
      refine g_cVvS (k0 := 0) ⟨⟨hx, hb, hml, hown, hB⟩, hK, hi, hA, hAd, hP, hS⟩ (c_X6_keep hi hv) cal_X6_keep kM_X6_113 ⟨Nat.le_trans (Nat.le_of_ble_eq_true rfl) hRf, Nat.le_trans (Nat.le_of_ble_eq_true rfl) hRl⟩ (by decide) rfl rfl rfl hl.1 (Nat.le_of_ble_eq_true rfl) rfl dX6_stock_94 ⟨Nat.zero_le _, Nat.zero_le _⟩ (fun H locs hP hS => ?_)
      refine lv_aload_n hx hb dX6_stock_97 rfl (lv_at hl 0 rfl) ?_
      refine g_get (v := .ref (ad 5)) hx hb hB hown hK hP 0 (by decide) rfl rfl kU_X6 4 (by decide) kF_X6_22 rfl rfl dX6_stock_98 ?_
      refine lv_iconst (v := 5) hx hb dX6_stock_101 (by decide) ?_
      refine lv_iload_n hx hb dX6_stock_102 rfl (lv_at hl 1 rfl) ?_
      refine lv_imul hx hb dX6_stock_103 ?_
      refine lv_iload_n hx hb dX6_stock_104 rfl (lv_at hl 2 rfl) ?_
      refine lv_iadd hx hb dX6_stock_105 ?_
      obtain ⟨hin, hf⟩ := gd_e hf
      refine g_iald hx hb hK hP 5 40 (by decide) rfl hin dX6_stock_106 ?_
      obtain ⟨h1, h2⟩ := rt2 hf
      rw [hQ]
      exact g_iret hx hb hr hlocks hP hS h1 h2 dX6_stock_107
    · rw [if_pos q7] at hf
      refine lv_iconst (v := 0) hx hb dX6_stock_65 (by decide) ?_
      obtain ⟨h1, h2⟩ := rt2 hf
      rw [hQ]
      exact g_iret hx hb hr hlocks hP hS h1 h2 dX6_stock_66
  obtain ⟨J12, eJ12, hf⟩ := jn_e1 hf
  have hJ12 : ∀ (σ11 : Mem) (H : Heap) (locs : List Loc) (ls : Array Slot), J12 σ11 = some (r, σr) → va_P D vwCl (wsG 25 ad (EM ad cI) σ11) H → va_S (AG 25 ad s.heap.size) s.heap H locs → lv_has ls 5 [(0, .ref (ad 0)), (1, .int a0), (2, .int a1), (3, .int a2), (4, .int a3)] → W p l e R s m args below meth c H locs 0 0 Q (F0 m 15 ls [.ref (ad 0)]) := by
    intro σ11 H locs ls hf hP hS hl
    rw [eJ12] at hf
    refine lv_iconst (v := 1) hx hb dX6_stock_15 (by decide) ?_
    refine lv_goto (tgt := 59) hx hb dX6_stock_16 (by decide) ?_
    exact hJ4 1 σ11 _ _ ls hf hP hS (lv_sub hl [0, 1, 2, 3, 4] rfl)
  refine lv_if_eq (tgt := 15) hx hb dX6_stock_5 (by decide) (fun q13 => ?_) (fun q13 => ?_)
  · rw [if_pos q13] at hf
    exact hJ12 σ _ _ ls hf hP hS (lv_sub hl [0, 1, 2, 3, 4] rfl)
  · rw [if_neg q13] at hf
    refine lv_iload_n hx hb dX6_stock_8 rfl (lv_at hl 2 rfl) ?_
    obtain ⟨v14, hv, hf⟩ := bd_e hf
    refine g_cSi0 ⟨⟨hx, hb, hml, hown, hB⟩, hK, hi, hA, hAd, hP, hS⟩ (c_X6_isKind hv) cal_X6_isKind kM_X6_116 ⟨Nat.le_trans (Nat.le_of_ble_eq_true rfl) hRf, Nat.le_trans (Nat.le_of_ble_eq_true rfl) hRl⟩ rfl hl.1 (Nat.le_of_ble_eq_true rfl) rfl dX6_stock_9 ⟨Nat.zero_le _, Nat.zero_le _⟩ (fun H locs hP hS => ?_)
    refine lv_if_ne (tgt := 19) hx hb dX6_stock_12 (by decide) (fun q15 => ?_) (fun q15 => ?_)
    · rw [if_neg q15] at hf
      refine lv_iload_n hx hb dX6_stock_19 rfl (lv_at hl 3 rfl) ?_
      refine lv_iconst (v := 0) hx hb dX6_stock_20 (by decide) ?_
      refine lv_bipush (v := 20) hx hb dX6_stock_21 (by decide) ?_
      obtain ⟨v16, hv, hf⟩ := bd_e hf
      refine g_cSi0 ⟨⟨hx, hb, hml, hown, hB⟩, hK, hi, hA, hAd, hP, hS⟩ (c_X6_isIn hv) cal_X6_isIn kM_X6_89 ⟨Nat.le_trans (Nat.le_of_ble_eq_true rfl) hRf, Nat.le_trans (Nat.le_of_ble_eq_true rfl) hRl⟩ rfl hl.1 (Nat.le_of_ble_eq_true rfl) rfl dX6_stock_23 ⟨Nat.zero_le _, Nat.zero_le _⟩ (fun H locs hP hS => ?_)
      obtain ⟨J18, eJ18, hf⟩ := jn_e1 hf
      have hJ18 : ∀ (σ17 : Mem) (H : Heap) (locs : List Loc) (ls : Array Slot), J18 σ17 = some (r, σr) → va_P D vwCl (wsG 25 ad (EM ad cI) σ17) H → va_S (AG 25 ad s.heap.size) s.heap H locs → lv_has ls 5 [(0, .ref (ad 0)), (1, .int a0), (2, .int a1), (3, .int a2), (4, .int a3)] → W p l e R s m args below meth c H locs 0 0 Q (F0 m 40 ls [.ref (ad 0)]) := by
        intro σ17 H locs ls hf hP hS hl
        rw [eJ18] at hf
        refine lv_iconst (v := 2) hx hb dX6_stock_40 (by decide) ?_
        refine lv_goto (tgt := 59) hx hb dX6_stock_41 (by decide) ?_
        exact hJ4 2 σ17 _ _ ls hf hP hS (lv_sub hl [0, 1, 2, 3, 4] rfl)
      refine lv_if_eq (tgt := 40) hx hb dX6_stock_26 (by decide) (fun q19 => ?_) (fun q19 => ?_)
      · rw [if_pos q19] at hf
        exact hJ18 σ _ _ ls hf hP hS (lv_sub hl [0, 1, 2, 3, 4] rfl)
      · rw [if_neg q19] at hf
        refine lv_iload hx hb dX6_stock_29 (lv_at hl 4 rfl) ?_
        refine lv_iconst (v := 0) hx hb dX6_stock_31 (by decide) ?_
        refine lv_bipush (v := 50) hx hb dX6_stock_32 (by decide) ?_
        obtain ⟨v20, hv, hf⟩ := bd_e hf
        refine g_cSi0 ⟨⟨hx, hb, hml, hown, hB⟩, hK, hi, hA, hAd, hP, hS⟩ (c_X6_isIn hv) cal_X6_isIn kM_X6_89 ⟨Nat.le_trans (Nat.le_of_ble_eq_true rfl) hRf, Nat.le_trans (Nat.le_of_ble_eq_true rfl) hRl⟩ rfl hl.1 (Nat.le_of_ble_eq_true rfl) rfl dX6_stock_34 ⟨Nat.zero_le _, Nat.zero_le _⟩ (fun H locs hP hS => ?_)
        refine lv_if_ne (tgt := 44) hx hb dX6_stock_37 (by decide) (fun q21 => ?_) (fun q21 => ?_)
        · rw [if_neg q21] at hf
          refine lv_aload_n hx hb dX6_stock_44 rfl (lv_at hl 0 rfl) ?_
          refine g_get (v := .ref (ad 3)) hx hb hB hown hK hP 0 (by decide) rfl rfl kU_X6 2 (by decide) kF_X6_16 rfl rfl dX6_stock_45 ?_
          refine lv_iload_n hx hb dX6_stock_48 rfl (lv_at hl 1 rfl) ?_
          obtain ⟨hin, hf⟩ := gd_e hf
          refine g_iald hx hb hK hP 3 8 (by decide) rfl hin dX6_stock_49 ?_
          refine lv_iconst (v := (-1)) hx hb dX6_stock_50 (by decide) ?_
          refine lv_icmp_ne (tgt := 58) hx hb dX6_stock_51 (by decide) (fun q22 => ?_) (fun q22 => ?_)
          · rw [if_neg q22] at hf
            refine lv_iconst (v := 0) hx hb dX6_stock_58 (by decide) ?_
            exact hJ4 0 σ _ _ ls hf hP hS (lv_sub hl [0, 1, 2, 3, 4] rfl)
          · rw [if_pos q22] at hf
            refine lv_iconst (v := 3) hx hb dX6_stock_54 (by decide) ?_
            refine lv_goto (tgt := 59) hx hb dX6_stock_55 (by decide) ?_
            exact hJ4 3 σ _ _ ls hf hP hS (lv_sub hl [0, 1, 2, 3, 4] rfl)
        · rw [if_pos q21] at hf
          exact hJ18 σ _ _ ls hf hP hS (lv_sub hl [0, 1, 2, 3, 4] rfl)
    · rw [if_pos q15] at hf
      exact hJ12 σ _ _ ls hf hP hS (lv_sub hl [0, 1, 2, 3, 4] rfl)
def f_X6_scatter (σ : Mem) (a0 a1 a2 : Int32) : Option (Int32 × Mem) :=
bd (f_X6_isRoom a0) fun v1 =>
jn (fun (y2 : Int32) (σ3 : Mem) =>
bd2 (f_X6_can σ3 y2) fun v5 σ6 =>
if v5 = 0 then (
some (0, σ6))
else (
gd ((5 * a0) + a1) 40 <|
gd ((5 * a0) + a1) 40 <| stp (mu σ6 2 ((5 * a0) + a1).toNatClampNeg ((σ6 2 ((5 * a0) + a1).toNatClampNeg) + a2)) fun σ8 =>
bd (f_X6_keep σ8) fun σ9 =>
gd ((5 * a0) + a1) 40 <|
some ((σ9 2 ((5 * a0) + a1).toNatClampNeg), σ9))) fun (J4 : Int32 → Mem → Option (Int32 × Mem)) =>
jn (fun (σ10 : Mem) =>
J4 1 σ10) fun (J11 : Mem → Option (Int32 × Mem)) =>
if v1 = 0 then (
J11 σ)
else (
bd (f_X6_isKind a1) fun v13 =>
if v13 = 0 then (
J11 σ)
else (
bd (f_X6_isIn a2 1 9) fun v15 =>
if v15 = 0 then (
J4 2 σ)
else (
J4 0 σ)))
set_option maxHeartbeats 4000000 in
set_option maxRecDepth 100000 in
theorem c_X6_scatter {l : Launch} {D : va_G} {cI cJ : ClassId} {ad : Nat → Nat} {σ : Mem} {a0 a1 a2 : Int32} {r : Int32} {σr : Mem}  (hi : injG 25 ad) (hf : f_X6_scatter σ a0 a1 a2 = some (r, σr)) : MGi l yX6_scatter (Cond.code yX6_scatter cX6_scatter 4 (some .int) :: BIG) 2 43 D cI cJ 25 ad (EM ad cI) [.ref (ad 0), .int a0, .int a1, .int a2] σ σr r := by
  refine MGi.ofW (cc := cX6_scatter) (nL := 4) (ret := (some .int)) (by decide) rfl hi ?_
  intro p e s m args below meth c hx hb hr hml hlocks hown hB hK hP hA hAd hS
  have hown : s.vm.findClass RX6 = some m.cls := hown
  have hl := lv_entry ([.ref (ad 0), .int a0, .int a1, .int a2] : List Value) (n := 4) (Nat.le_of_ble_eq_true rfl)
  rw [lg_entry_eq]
  generalize (lg_sl ([.ref (ad 0), .int a0, .int a1, .int a2] : List Value) ++ List.replicate (4 - (lg_sl ([.ref (ad 0), .int a0, .int a1, .int a2] : List Value)).length) Slot.unset).toArray = ls at hl ⊢
  have hl : lv_has ls 4 [(0, .ref (ad 0)), (1, .int a0), (2, .int a1), (3, .int a2)] := hl
  generalize hQ : MQ below (Qgi D 25 ad (EM ad cI) r σr s.heap.size) _ s 0 0 (AG 25 ad s.heap.size) = Q
  have hQ := hQ.symm
  obtain ⟨R, hR, hRf, hRl⟩ : ∃ R : Room, R = ({ frames := 2, cells := 0, slots := 0, locals := 43 } : Room) ∧ 2 ≤ R.frames ∧ 43 ≤ R.locals := ⟨_, rfl, Nat.le_refl _, Nat.le_refl _⟩
  rw [← hR]
  unfold f_X6_scatter at hf
  refine lv_aload_n hx hb dX6_scatter_0 rfl (lv_at hl 0 rfl) ?_
  refine lv_iload_n hx hb dX6_scatter_1 rfl (lv_at hl 1 rfl) ?_
  obtain ⟨v1, hv, hf⟩ := bd_e hf
  refine g_cSi0 ⟨⟨hx, hb, hml, hown, hB⟩, hK, hi, hA, hAd, hP, hS⟩ (c_X6_isRoom hv) cal_X6_isRoom kM_X6_106 ⟨Nat.le_trans (Nat.le_of_ble_eq_true rfl) hRf, Nat.le_trans (Nat.le_of_ble_eq_true rfl) hRl⟩ rfl hl.1 (Nat.le_of_ble_eq_true rfl) rfl dX6_scatter_2 ⟨Nat.zero_le _, Nat.zero_le _⟩ (fun H locs hP hS => ?_)
  obtain ⟨J4, eJ4, hf⟩ := jn_e2 hf
  have hJ4 : ∀ (y2 : Int32) (σ3 : Mem) (H : Heap) (locs : List Loc) (ls : Array Slot), J4 y2 σ3 = some (r, σr) → va_P D vwCl (wsG 25 ad (EM ad cI) σ3) H → va_S (AG 25 ad s.heap.size) s.heap H locs → lv_has ls 4 [(0, .ref (ad 0)), (1, .int a0), (2, .int a1), (3, .int a2)] → W p l e R s m args below meth c H locs 0 0 Q (F0 m 34 ls [.int y2, .ref (ad 0)]) := by
    intro y2 σ3 H locs ls hf hP hS hl
    rw [eJ4] at hf
    obtain ⟨v5, σ6, hv, hf⟩ := bd2_e hf
    refine g_cViS (k0 := 0) ⟨⟨hx, hb, hml, hown, hB⟩, hK, hi, hA, hAd, hP, hS⟩ (c_X6_can hi hv) cal_X6_can kM_X6_110 ⟨Nat.le_trans (Nat.le_of_ble_eq_true rfl) hRf, Nat.le_trans (Nat.le_of_ble_eq_true rfl) hRl⟩ (by decide) rfl rfl rfl hl.1 (Nat.le_of_ble_eq_true rfl) rfl dX6_scatter_34 ⟨Nat.zero_le _, Nat.zero_le _⟩ (fun H locs hP hS => ?_)
    refine lv_if_ne (tgt := 42) hx hb dX6_scatter_37 (by decide) (fun q7 => ?_) (fun q7 => ?_)
    · rw [if_neg q7] at hf
      refine lv_aload_n hx hb dX6_scatter_42 rfl (lv_at hl 0 rfl) ?_
      refine g_get (v := .ref (ad 2)) hx hb hB hown hK hP 0 (by decide) rfl rfl kU_X6 1 (by decide) kF_X6_13 rfl rfl dX6_scatter_43 ?_
      refine lv_iconst (v := 5) hx hb dX6_scatter_46 (by decide) ?_
      refine lv_iload_n hx hb dX6_scatter_47 rfl (lv_at hl 1 rfl) ?_
      refine lv_imul hx hb dX6_scatter_48 ?_
      refine lv_iload_n hx hb dX6_scatter_49 rfl (lv_at hl 2 rfl) ?_
      refine lv_iadd hx hb dX6_scatter_50 ?_
      refine lv_dup2_11 hx hb dX6_scatter_51 rfl rfl ?_
      obtain ⟨hin, hf⟩ := gd_e hf
      refine g_iald hx hb hK hP 2 40 (by decide) rfl hin dX6_scatter_52 ?_
      refine lv_iload_n hx hb dX6_scatter_53 rfl (lv_at hl 3 rfl) ?_
      refine lv_iadd hx hb dX6_scatter_54 ?_
      obtain ⟨hin, hf⟩ := gd_e hf
      obtain ⟨σ8, eσ8, hf⟩ := stp_e hf
      refine g_iast (σ1 := σ8) hx hb hK hP hi hAd hS 2 40 (by decide) (fun _ => rfl) hin dX6_scatter_55 eσ8 (fun H locs hP hS => ?_)
      refine lv_aload_n hx hb dX6_scatter_56 rfl (lv_at hl 0 rfl) ?_
      obtain ⟨σ9, hv, hf⟩ := bd_e hf
      refine g_cVvS (k0 := 0) ⟨⟨hx, hb, hml, hown, hB⟩, hK, hi, hA, hAd, hP, hS⟩ (c_X6_keep hi hv) cal_X6_keep kM_X6_113 ⟨Nat.le_trans (Nat.le_of_ble_eq_true rfl) hRf, Nat.le_trans (Nat.le_of_ble_eq_true rfl) hRl⟩ (by decide) rfl rfl rfl hl.1 (Nat.le_of_ble_eq_true rfl) rfl dX6_scatter_57 ⟨Nat.zero_le _, Nat.zero_le _⟩ (fun H locs hP hS => ?_)
      refine lv_aload_n hx hb dX6_scatter_60 rfl (lv_at hl 0 rfl) ?_
      refine g_get (v := .ref (ad 2)) hx hb hB hown hK hP 0 (by decide) rfl rfl kU_X6 1 (by decide) kF_X6_13 rfl rfl dX6_scatter_61 ?_
      refine lv_iconst (v := 5) hx hb dX6_scatter_64 (by decide) ?_
      refine lv_iload_n hx hb dX6_scatter_65 rfl (lv_at hl 1 rfl) ?_
      refine lv_imul hx hb dX6_scatter_66 ?_
      refine lv_iload_n hx hb dX6_scatter_67 rfl (lv_at hl 2 rfl) ?_
      refine lv_iadd hx hb dX6_scatter_68 ?_
      obtain ⟨hin, hf⟩ := gd_e hf
      refine g_iald hx hb hK hP 2 40 (by decide) rfl hin dX6_scatter_69 ?_
      obtain ⟨h1, h2⟩ := rt2 hf
      rw [hQ]
      exact g_iret hx hb hr hlocks hP hS h1 h2 dX6_scatter_70
    · rw [if_pos q7] at hf
      refine lv_iconst (v := 0) hx hb dX6_scatter_40 (by decide) ?_
      obtain ⟨h1, h2⟩ := rt2 hf
      rw [hQ]
      exact g_iret hx hb hr hlocks hP hS h1 h2 dX6_scatter_41
  obtain ⟨J11, eJ11, hf⟩ := jn_e1 hf
  have hJ11 : ∀ (σ10 : Mem) (H : Heap) (locs : List Loc) (ls : Array Slot), J11 σ10 = some (r, σr) → va_P D vwCl (wsG 25 ad (EM ad cI) σ10) H → va_S (AG 25 ad s.heap.size) s.heap H locs → lv_has ls 4 [(0, .ref (ad 0)), (1, .int a0), (2, .int a1), (3, .int a2)] → W p l e R s m args below meth c H locs 0 0 Q (F0 m 15 ls [.ref (ad 0)]) := by
    intro σ10 H locs ls hf hP hS hl
    rw [eJ11] at hf
    refine lv_iconst (v := 1) hx hb dX6_scatter_15 (by decide) ?_
    refine lv_goto (tgt := 34) hx hb dX6_scatter_16 (by decide) ?_
    exact hJ4 1 σ10 _ _ ls hf hP hS (lv_sub hl [0, 1, 2, 3] rfl)
  refine lv_if_eq (tgt := 15) hx hb dX6_scatter_5 (by decide) (fun q12 => ?_) (fun q12 => ?_)
  · rw [if_pos q12] at hf
    exact hJ11 σ _ _ ls hf hP hS (lv_sub hl [0, 1, 2, 3] rfl)
  · rw [if_neg q12] at hf
    refine lv_iload_n hx hb dX6_scatter_8 rfl (lv_at hl 2 rfl) ?_
    obtain ⟨v13, hv, hf⟩ := bd_e hf
    refine g_cSi0 ⟨⟨hx, hb, hml, hown, hB⟩, hK, hi, hA, hAd, hP, hS⟩ (c_X6_isKind hv) cal_X6_isKind kM_X6_116 ⟨Nat.le_trans (Nat.le_of_ble_eq_true rfl) hRf, Nat.le_trans (Nat.le_of_ble_eq_true rfl) hRl⟩ rfl hl.1 (Nat.le_of_ble_eq_true rfl) rfl dX6_scatter_9 ⟨Nat.zero_le _, Nat.zero_le _⟩ (fun H locs hP hS => ?_)
    refine lv_if_ne (tgt := 19) hx hb dX6_scatter_12 (by decide) (fun q14 => ?_) (fun q14 => ?_)
    · rw [if_neg q14] at hf
      refine lv_iload_n hx hb dX6_scatter_19 rfl (lv_at hl 3 rfl) ?_
      refine lv_iconst (v := 1) hx hb dX6_scatter_20 (by decide) ?_
      refine lv_bipush (v := 9) hx hb dX6_scatter_21 (by decide) ?_
      obtain ⟨v15, hv, hf⟩ := bd_e hf
      refine g_cSi0 ⟨⟨hx, hb, hml, hown, hB⟩, hK, hi, hA, hAd, hP, hS⟩ (c_X6_isIn hv) cal_X6_isIn kM_X6_89 ⟨Nat.le_trans (Nat.le_of_ble_eq_true rfl) hRf, Nat.le_trans (Nat.le_of_ble_eq_true rfl) hRl⟩ rfl hl.1 (Nat.le_of_ble_eq_true rfl) rfl dX6_scatter_23 ⟨Nat.zero_le _, Nat.zero_le _⟩ (fun H locs hP hS => ?_)
      refine lv_if_eq (tgt := 33) hx hb dX6_scatter_26 (by decide) (fun q16 => ?_) (fun q16 => ?_)
      · rw [if_pos q16] at hf
        refine lv_iconst (v := 2) hx hb dX6_scatter_33 (by decide) ?_
        exact hJ4 2 σ _ _ ls hf hP hS (lv_sub hl [0, 1, 2, 3] rfl)
      · rw [if_neg q16] at hf
        refine lv_iconst (v := 0) hx hb dX6_scatter_29 (by decide) ?_
        refine lv_goto (tgt := 34) hx hb dX6_scatter_30 (by decide) ?_
        exact hJ4 0 σ _ _ ls hf hP hS (lv_sub hl [0, 1, 2, 3] rfl)
    · rw [if_pos q14] at hf
      exact hJ11 σ _ _ ls hf hP hS (lv_sub hl [0, 1, 2, 3] rfl)
def f_X6_join (σ : Mem) (a0 a1 a2 : Int32) : Option (Int32 × Mem) :=
bd (f_X6_isRoom a0) fun v1 =>
jn (fun (y2 : Int32) (σ3 : Mem) =>
bd2 (f_X6_can σ3 y2) fun v5 σ6 =>
if v5 = 0 then (
some (0, σ6))
else (
gd (σ6 0 5) 4 <| stp (mu σ6 6 (σ6 0 5).toNatClampNeg a0) fun σ8 =>
gd (σ8 0 5) 4 <| stp (mu σ8 7 (σ8 0 5).toNatClampNeg a1) fun σ9 =>
gd (σ9 0 5) 4 <| stp (mu σ9 8 (σ9 0 5).toNatClampNeg a2) fun σ10 =>
gd (σ10 0 5) 4 <| stp (mu σ10 9 (σ10 0 5).toNatClampNeg 20) fun σ11 =>
stp (mu σ11 0 5 ((σ11 0 5) + 1)) fun σ12 =>
bd (f_X6_keep σ12) fun σ13 =>
some (((σ13 0 5) - 1), σ13))) fun (J4 : Int32 → Mem → Option (Int32 × Mem)) =>
if v1 = 0 then (
J4 1 σ)
else (
bd (f_X6_isIn a1 0 200) fun v15 =>
jn (fun (σ16 : Mem) =>
J4 2 σ16) fun (J17 : Mem → Option (Int32 × Mem)) =>
if v15 = 0 then (
J17 σ)
else (
bd (f_X6_isIn a2 0 6) fun v19 =>
if v19 = 0 then (
J17 σ)
else (
if (σ 0 5) = 4 then (
J4 3 σ)
else (
J4 0 σ))))
set_option maxHeartbeats 4000000 in
set_option maxRecDepth 100000 in
theorem c_X6_join {l : Launch} {D : va_G} {cI cJ : ClassId} {ad : Nat → Nat} {σ : Mem} {a0 a1 a2 : Int32} {r : Int32} {σr : Mem}  (hi : injG 25 ad) (hf : f_X6_join σ a0 a1 a2 = some (r, σr)) : MGi l yX6_join (Cond.code yX6_join cX6_join 4 (some .int) :: BIG) 2 43 D cI cJ 25 ad (EM ad cI) [.ref (ad 0), .int a0, .int a1, .int a2] σ σr r := by
  refine MGi.ofW (cc := cX6_join) (nL := 4) (ret := (some .int)) (by decide) rfl hi ?_
  intro p e s m args below meth c hx hb hr hml hlocks hown hB hK hP hA hAd hS
  have hown : s.vm.findClass RX6 = some m.cls := hown
  have hl := lv_entry ([.ref (ad 0), .int a0, .int a1, .int a2] : List Value) (n := 4) (Nat.le_of_ble_eq_true rfl)
  rw [lg_entry_eq]
  generalize (lg_sl ([.ref (ad 0), .int a0, .int a1, .int a2] : List Value) ++ List.replicate (4 - (lg_sl ([.ref (ad 0), .int a0, .int a1, .int a2] : List Value)).length) Slot.unset).toArray = ls at hl ⊢
  have hl : lv_has ls 4 [(0, .ref (ad 0)), (1, .int a0), (2, .int a1), (3, .int a2)] := hl
  generalize hQ : MQ below (Qgi D 25 ad (EM ad cI) r σr s.heap.size) _ s 0 0 (AG 25 ad s.heap.size) = Q
  have hQ := hQ.symm
  obtain ⟨R, hR, hRf, hRl⟩ : ∃ R : Room, R = ({ frames := 2, cells := 0, slots := 0, locals := 43 } : Room) ∧ 2 ≤ R.frames ∧ 43 ≤ R.locals := ⟨_, rfl, Nat.le_refl _, Nat.le_refl _⟩
  rw [← hR]
  unfold f_X6_join at hf
  refine lv_aload_n hx hb dX6_join_0 rfl (lv_at hl 0 rfl) ?_
  refine lv_iload_n hx hb dX6_join_1 rfl (lv_at hl 1 rfl) ?_
  obtain ⟨v1, hv, hf⟩ := bd_e hf
  refine g_cSi0 ⟨⟨hx, hb, hml, hown, hB⟩, hK, hi, hA, hAd, hP, hS⟩ (c_X6_isRoom hv) cal_X6_isRoom kM_X6_106 ⟨Nat.le_trans (Nat.le_of_ble_eq_true rfl) hRf, Nat.le_trans (Nat.le_of_ble_eq_true rfl) hRl⟩ rfl hl.1 (Nat.le_of_ble_eq_true rfl) rfl dX6_join_2 ⟨Nat.zero_le _, Nat.zero_le _⟩ (fun H locs hP hS => ?_)
  obtain ⟨J4, eJ4, hf⟩ := jn_e2 hf
  have hJ4 : ∀ (y2 : Int32) (σ3 : Mem) (H : Heap) (locs : List Loc) (ls : Array Slot), J4 y2 σ3 = some (r, σr) → va_P D vwCl (wsG 25 ad (EM ad cI) σ3) H → va_S (AG 25 ad s.heap.size) s.heap H locs → lv_has ls 4 [(0, .ref (ad 0)), (1, .int a0), (2, .int a1), (3, .int a2)] → W p l e R s m args below meth c H locs 0 0 Q (F0 m 50 ls [.int y2, .ref (ad 0)]) := by
    intro y2 σ3 H locs ls hf hP hS hl
    rw [eJ4] at hf
    obtain ⟨v5, σ6, hv, hf⟩ := bd2_e hf
    refine g_cViS (k0 := 0) ⟨⟨hx, hb, hml, hown, hB⟩, hK, hi, hA, hAd, hP, hS⟩ (c_X6_can hi hv) cal_X6_can kM_X6_110 ⟨Nat.le_trans (Nat.le_of_ble_eq_true rfl) hRf, Nat.le_trans (Nat.le_of_ble_eq_true rfl) hRl⟩ (by decide) rfl rfl rfl hl.1 (Nat.le_of_ble_eq_true rfl) rfl dX6_join_50 ⟨Nat.zero_le _, Nat.zero_le _⟩ (fun H locs hP hS => ?_)
    refine lv_if_ne (tgt := 58) hx hb dX6_join_53 (by decide) (fun q7 => ?_) (fun q7 => ?_)
    · rw [if_neg q7] at hf
      refine lv_aload_n hx hb dX6_join_58 rfl (lv_at hl 0 rfl) ?_
      refine g_get (v := .ref (ad 6)) hx hb hB hown hK hP 0 (by decide) rfl rfl kU_X6 6 (by decide) kF_X6_25 rfl rfl dX6_join_59 ?_
      refine lv_aload_n hx hb dX6_join_62 rfl (lv_at hl 0 rfl) ?_
      refine g_get (v := .int (σ6 0 5)) hx hb hB hown hK hP 0 (by decide) rfl rfl kU_X6 5 (by decide) kF_X6_93 rfl rfl dX6_join_63 ?_
      refine lv_iload_n hx hb dX6_join_66 rfl (lv_at hl 1 rfl) ?_
      obtain ⟨hin, hf⟩ := gd_e hf
      obtain ⟨σ8, eσ8, hf⟩ := stp_e hf
      refine g_iast (σ1 := σ8) hx hb hK hP hi hAd hS 6 4 (by decide) (fun _ => rfl) hin dX6_join_67 eσ8 (fun H locs hP hS => ?_)
      refine lv_aload_n hx hb dX6_join_68 rfl (lv_at hl 0 rfl) ?_
      refine g_get (v := .ref (ad 7)) hx hb hB hown hK hP 0 (by decide) rfl rfl kU_X6 7 (by decide) kF_X6_28 rfl rfl dX6_join_69 ?_
      refine lv_aload_n hx hb dX6_join_72 rfl (lv_at hl 0 rfl) ?_
      refine g_get (v := .int (σ8 0 5)) hx hb hB hown hK hP 0 (by decide) rfl rfl kU_X6 5 (by decide) kF_X6_93 rfl rfl dX6_join_73 ?_
      refine lv_iload_n hx hb dX6_join_76 rfl (lv_at hl 2 rfl) ?_
      obtain ⟨hin, hf⟩ := gd_e hf
      obtain ⟨σ9, eσ9, hf⟩ := stp_e hf
      refine g_iast (σ1 := σ9) hx hb hK hP hi hAd hS 7 4 (by decide) (fun _ => rfl) hin dX6_join_77 eσ9 (fun H locs hP hS => ?_)
      refine lv_aload_n hx hb dX6_join_78 rfl (lv_at hl 0 rfl) ?_
      refine g_get (v := .ref (ad 8)) hx hb hB hown hK hP 0 (by decide) rfl rfl kU_X6 8 (by decide) kF_X6_31 rfl rfl dX6_join_79 ?_
      refine lv_aload_n hx hb dX6_join_82 rfl (lv_at hl 0 rfl) ?_
      refine g_get (v := .int (σ9 0 5)) hx hb hB hown hK hP 0 (by decide) rfl rfl kU_X6 5 (by decide) kF_X6_93 rfl rfl dX6_join_83 ?_
      refine lv_iload_n hx hb dX6_join_86 rfl (lv_at hl 3 rfl) ?_
      obtain ⟨hin, hf⟩ := gd_e hf
      obtain ⟨σ10, eσ10, hf⟩ := stp_e hf
      refine g_iast (σ1 := σ10) hx hb hK hP hi hAd hS 8 4 (by decide) (fun _ => rfl) hin dX6_join_87 eσ10 (fun H locs hP hS => ?_)
      refine lv_aload_n hx hb dX6_join_88 rfl (lv_at hl 0 rfl) ?_
      refine g_get (v := .ref (ad 9)) hx hb hB hown hK hP 0 (by decide) rfl rfl kU_X6 9 (by decide) kF_X6_34 rfl rfl dX6_join_89 ?_
      refine lv_aload_n hx hb dX6_join_92 rfl (lv_at hl 0 rfl) ?_
      refine g_get (v := .int (σ10 0 5)) hx hb hB hown hK hP 0 (by decide) rfl rfl kU_X6 5 (by decide) kF_X6_93 rfl rfl dX6_join_93 ?_
      refine lv_bipush (v := 20) hx hb dX6_join_96 (by decide) ?_
      obtain ⟨hin, hf⟩ := gd_e hf
      obtain ⟨σ11, eσ11, hf⟩ := stp_e hf
      refine g_iast (σ1 := σ11) hx hb hK hP hi hAd hS 9 4 (by decide) (fun _ => rfl) hin dX6_join_98 eσ11 (fun H locs hP hS => ?_)
      refine lv_aload_n hx hb dX6_join_99 rfl (lv_at hl 0 rfl) ?_
      refine lv_dup hx hb dX6_join_100 rfl ?_
      refine g_get (v := .int (σ11 0 5)) hx hb hB hown hK hP 0 (by decide) rfl rfl kU_X6 5 (by decide) kF_X6_93 rfl rfl dX6_join_101 ?_
      refine lv_iconst (v := 1) hx hb dX6_join_104 (by decide) ?_
      refine lv_iadd hx hb dX6_join_105 ?_
      obtain ⟨σ12, eσ12, hf⟩ := stp_e hf
      refine g_put (σ1 := σ12) hx hb hB hown hK hP hi hAd hS 0 (by decide) (fun f => [.ref (ad 1), .ref (ad 2), .ref (ad 3), .ref (ad 4), .ref (ad 5), .int (f 5), .ref (ad 6), .ref (ad 7), .ref (ad 8), .ref (ad 9), .ref (ad 10), .ref (ad 11), .ref (ad 12), .ref (ad 13), .int (f 14), .int (f 15), .int (f 16), .ref (ad 14), .ref (ad 15), .ref (ad 16), .ref (ad 17), .ref (ad 18), .ref (ad 19), .int (f 23), .ref (ad 20), .ref (ad 21), .ref (ad 22), .ref (ad 23), .ref (ad 24), .int (f 29)]) (fun _ => rfl) rfl kU_X6 tyX6 tyX6_ok nmX6 5 (by decide) kF_X6_93 rfl (fun _ _ => rfl) (fun _ => Nat.le_of_ble_eq_true rfl) dX6_join_106 eσ12 (fun H locs hP hS => ?_)
      refine lv_aload_n hx hb dX6_join_109 rfl (lv_at hl 0 rfl) ?_
      obtain ⟨σ13, hv, hf⟩ := bd_e hf
      refine g_cVvS (k0 := 0) ⟨⟨hx, hb, hml, hown, hB⟩, hK, hi, hA, hAd, hP, hS⟩ (c_X6_keep hi hv) cal_X6_keep kM_X6_113 ⟨Nat.le_trans (Nat.le_of_ble_eq_true rfl) hRf, Nat.le_trans (Nat.le_of_ble_eq_true rfl) hRl⟩ (by decide) rfl rfl rfl hl.1 (Nat.le_of_ble_eq_true rfl) rfl dX6_join_110 ⟨Nat.zero_le _, Nat.zero_le _⟩ (fun H locs hP hS => ?_)
      refine lv_aload_n hx hb dX6_join_113 rfl (lv_at hl 0 rfl) ?_
      refine g_get (v := .int (σ13 0 5)) hx hb hB hown hK hP 0 (by decide) rfl rfl kU_X6 5 (by decide) kF_X6_93 rfl rfl dX6_join_114 ?_
      refine lv_iconst (v := 1) hx hb dX6_join_117 (by decide) ?_
      refine lv_isub hx hb dX6_join_118 ?_
      obtain ⟨h1, h2⟩ := rt2 hf
      rw [hQ]
      exact g_iret hx hb hr hlocks hP hS h1 h2 dX6_join_119
    · rw [if_pos q7] at hf
      refine lv_iconst (v := 0) hx hb dX6_join_56 (by decide) ?_
      obtain ⟨h1, h2⟩ := rt2 hf
      rw [hQ]
      exact g_iret hx hb hr hlocks hP hS h1 h2 dX6_join_57
  refine lv_if_ne (tgt := 12) hx hb dX6_join_5 (by decide) (fun q14 => ?_) (fun q14 => ?_)
  · rw [if_neg q14] at hf
    refine lv_iload_n hx hb dX6_join_12 rfl (lv_at hl 2 rfl) ?_
    refine lv_iconst (v := 0) hx hb dX6_join_13 (by decide) ?_
    refine lv_sipush (v := 200) hx hb dX6_join_14 (by decide) ?_
    obtain ⟨v15, hv, hf⟩ := bd_e hf
    refine g_cSi0 ⟨⟨hx, hb, hml, hown, hB⟩, hK, hi, hA, hAd, hP, hS⟩ (c_X6_isIn hv) cal_X6_isIn kM_X6_89 ⟨Nat.le_trans (Nat.le_of_ble_eq_true rfl) hRf, Nat.le_trans (Nat.le_of_ble_eq_true rfl) hRl⟩ rfl hl.1 (Nat.le_of_ble_eq_true rfl) rfl dX6_join_17 ⟨Nat.zero_le _, Nat.zero_le _⟩ (fun H locs hP hS => ?_)
    obtain ⟨J17, eJ17, hf⟩ := jn_e1 hf
    have hJ17 : ∀ (σ16 : Mem) (H : Heap) (locs : List Loc) (ls : Array Slot), J17 σ16 = some (r, σr) → va_P D vwCl (wsG 25 ad (EM ad cI) σ16) H → va_S (AG 25 ad s.heap.size) s.heap H locs → lv_has ls 4 [(0, .ref (ad 0)), (1, .int a0), (2, .int a1), (3, .int a2)] → W p l e R s m args below meth c H locs 0 0 Q (F0 m 33 ls [.ref (ad 0)]) := by
      intro σ16 H locs ls hf hP hS hl
      rw [eJ17] at hf
      refine lv_iconst (v := 2) hx hb dX6_join_33 (by decide) ?_
      refine lv_goto (tgt := 50) hx hb dX6_join_34 (by decide) ?_
      exact hJ4 2 σ16 _ _ ls hf hP hS (lv_sub hl [0, 1, 2, 3] rfl)
    refine lv_if_eq (tgt := 33) hx hb dX6_join_20 (by decide) (fun q18 => ?_) (fun q18 => ?_)
    · rw [if_pos q18] at hf
      exact hJ17 σ _ _ ls hf hP hS (lv_sub hl [0, 1, 2, 3] rfl)
    · rw [if_neg q18] at hf
      refine lv_iload_n hx hb dX6_join_23 rfl (lv_at hl 3 rfl) ?_
      refine lv_iconst (v := 0) hx hb dX6_join_24 (by decide) ?_
      refine lv_bipush (v := 6) hx hb dX6_join_25 (by decide) ?_
      obtain ⟨v19, hv, hf⟩ := bd_e hf
      refine g_cSi0 ⟨⟨hx, hb, hml, hown, hB⟩, hK, hi, hA, hAd, hP, hS⟩ (c_X6_isIn hv) cal_X6_isIn kM_X6_89 ⟨Nat.le_trans (Nat.le_of_ble_eq_true rfl) hRf, Nat.le_trans (Nat.le_of_ble_eq_true rfl) hRl⟩ rfl hl.1 (Nat.le_of_ble_eq_true rfl) rfl dX6_join_27 ⟨Nat.zero_le _, Nat.zero_le _⟩ (fun H locs hP hS => ?_)
      refine lv_if_ne (tgt := 37) hx hb dX6_join_30 (by decide) (fun q20 => ?_) (fun q20 => ?_)
      · rw [if_neg q20] at hf
        refine lv_aload_n hx hb dX6_join_37 rfl (lv_at hl 0 rfl) ?_
        refine g_get (v := .int (σ 0 5)) hx hb hB hown hK hP 0 (by decide) rfl rfl kU_X6 5 (by decide) kF_X6_93 rfl rfl dX6_join_38 ?_
        refine lv_iconst (v := 4) hx hb dX6_join_41 (by decide) ?_
        refine lv_icmp_ne (tgt := 49) hx hb dX6_join_42 (by decide) (fun q21 => ?_) (fun q21 => ?_)
        · rw [if_neg q21] at hf
          refine lv_iconst (v := 0) hx hb dX6_join_49 (by decide) ?_
          exact hJ4 0 σ _ _ ls hf hP hS (lv_sub hl [0, 1, 2, 3] rfl)
        · rw [if_pos q21] at hf
          refine lv_iconst (v := 3) hx hb dX6_join_45 (by decide) ?_
          refine lv_goto (tgt := 50) hx hb dX6_join_46 (by decide) ?_
          exact hJ4 3 σ _ _ ls hf hP hS (lv_sub hl [0, 1, 2, 3] rfl)
      · rw [if_pos q20] at hf
        exact hJ17 σ _ _ ls hf hP hS (lv_sub hl [0, 1, 2, 3] rfl)
  · rw [if_pos q14] at hf
    refine lv_iconst (v := 1) hx hb dX6_join_8 (by decide) ?_
    refine lv_goto (tgt := 50) hx hb dX6_join_9 (by decide) ?_
    exact hJ4 1 σ _ _ ls hf hP hS (lv_sub hl [0, 1, 2, 3] rfl)
def f_X6_quest (σ : Mem) (a0 : Int32) : Option (Int32 × Mem) :=
bd (f_X6_isIn a0 0 100) fun v1 =>
jn (fun (y2 : Int32) (σ3 : Mem) =>
bd2 (f_X6_can σ3 y2) fun v5 σ6 =>
if v5 = 0 then (
some (0, σ6))
else (
gd (σ6 0 16) 3 <| stp (mu σ6 14 (σ6 0 16).toNatClampNeg a0) fun σ8 =>
stp (mu σ8 0 16 ((σ8 0 16) + 1)) fun σ9 =>
bd (f_X6_keep σ9) fun σ10 =>
some (((σ10 0 16) - 1), σ10))) fun (J4 : Int32 → Mem → Option (Int32 × Mem)) =>
if v1 = 0 then (
J4 1 σ)
else (
if (σ 0 16) = 3 then (
J4 2 σ)
else (
J4 0 σ))
set_option maxHeartbeats 4000000 in
set_option maxRecDepth 100000 in
theorem c_X6_quest {l : Launch} {D : va_G} {cI cJ : ClassId} {ad : Nat → Nat} {σ : Mem} {a0 : Int32} {r : Int32} {σr : Mem}  (hi : injG 25 ad) (hf : f_X6_quest σ a0 = some (r, σr)) : MGi l yX6_quest (Cond.code yX6_quest cX6_quest 2 (some .int) :: BIG) 2 43 D cI cJ 25 ad (EM ad cI) [.ref (ad 0), .int a0] σ σr r := by
  refine MGi.ofW (cc := cX6_quest) (nL := 2) (ret := (some .int)) (by decide) rfl hi ?_
  intro p e s m args below meth c hx hb hr hml hlocks hown hB hK hP hA hAd hS
  have hown : s.vm.findClass RX6 = some m.cls := hown
  have hl := lv_entry ([.ref (ad 0), .int a0] : List Value) (n := 2) (Nat.le_of_ble_eq_true rfl)
  rw [lg_entry_eq]
  generalize (lg_sl ([.ref (ad 0), .int a0] : List Value) ++ List.replicate (2 - (lg_sl ([.ref (ad 0), .int a0] : List Value)).length) Slot.unset).toArray = ls at hl ⊢
  have hl : lv_has ls 2 [(0, .ref (ad 0)), (1, .int a0)] := hl
  generalize hQ : MQ below (Qgi D 25 ad (EM ad cI) r σr s.heap.size) _ s 0 0 (AG 25 ad s.heap.size) = Q
  have hQ := hQ.symm
  obtain ⟨R, hR, hRf, hRl⟩ : ∃ R : Room, R = ({ frames := 2, cells := 0, slots := 0, locals := 43 } : Room) ∧ 2 ≤ R.frames ∧ 43 ≤ R.locals := ⟨_, rfl, Nat.le_refl _, Nat.le_refl _⟩
  rw [← hR]
  unfold f_X6_quest at hf
  refine lv_aload_n hx hb dX6_quest_0 rfl (lv_at hl 0 rfl) ?_
  refine lv_iload_n hx hb dX6_quest_1 rfl (lv_at hl 1 rfl) ?_
  refine lv_iconst (v := 0) hx hb dX6_quest_2 (by decide) ?_
  refine lv_bipush (v := 100) hx hb dX6_quest_3 (by decide) ?_
  obtain ⟨v1, hv, hf⟩ := bd_e hf
  refine g_cSi0 ⟨⟨hx, hb, hml, hown, hB⟩, hK, hi, hA, hAd, hP, hS⟩ (c_X6_isIn hv) cal_X6_isIn kM_X6_89 ⟨Nat.le_trans (Nat.le_of_ble_eq_true rfl) hRf, Nat.le_trans (Nat.le_of_ble_eq_true rfl) hRl⟩ rfl hl.1 (Nat.le_of_ble_eq_true rfl) rfl dX6_quest_5 ⟨Nat.zero_le _, Nat.zero_le _⟩ (fun H locs hP hS => ?_)
  obtain ⟨J4, eJ4, hf⟩ := jn_e2 hf
  have hJ4 : ∀ (y2 : Int32) (σ3 : Mem) (H : Heap) (locs : List Loc) (ls : Array Slot), J4 y2 σ3 = some (r, σr) → va_P D vwCl (wsG 25 ad (EM ad cI) σ3) H → va_S (AG 25 ad s.heap.size) s.heap H locs → lv_has ls 2 [(0, .ref (ad 0)), (1, .int a0)] → W p l e R s m args below meth c H locs 0 0 Q (F0 m 28 ls [.int y2, .ref (ad 0)]) := by
    intro y2 σ3 H locs ls hf hP hS hl
    rw [eJ4] at hf
    obtain ⟨v5, σ6, hv, hf⟩ := bd2_e hf
    refine g_cViS (k0 := 0) ⟨⟨hx, hb, hml, hown, hB⟩, hK, hi, hA, hAd, hP, hS⟩ (c_X6_can hi hv) cal_X6_can kM_X6_110 ⟨Nat.le_trans (Nat.le_of_ble_eq_true rfl) hRf, Nat.le_trans (Nat.le_of_ble_eq_true rfl) hRl⟩ (by decide) rfl rfl rfl hl.1 (Nat.le_of_ble_eq_true rfl) rfl dX6_quest_28 ⟨Nat.zero_le _, Nat.zero_le _⟩ (fun H locs hP hS => ?_)
    refine lv_if_ne (tgt := 36) hx hb dX6_quest_31 (by decide) (fun q7 => ?_) (fun q7 => ?_)
    · rw [if_neg q7] at hf
      refine lv_aload_n hx hb dX6_quest_36 rfl (lv_at hl 0 rfl) ?_
      refine g_get (v := .ref (ad 14)) hx hb hB hown hK hP 0 (by decide) rfl rfl kU_X6 17 (by decide) kF_X6_49 rfl rfl dX6_quest_37 ?_
      refine lv_aload_n hx hb dX6_quest_40 rfl (lv_at hl 0 rfl) ?_
      refine g_get (v := .int (σ6 0 16)) hx hb hB hown hK hP 0 (by decide) rfl rfl kU_X6 16 (by decide) kF_X6_96 rfl rfl dX6_quest_41 ?_
      refine lv_iload_n hx hb dX6_quest_44 rfl (lv_at hl 1 rfl) ?_
      obtain ⟨hin, hf⟩ := gd_e hf
      obtain ⟨σ8, eσ8, hf⟩ := stp_e hf
      refine g_iast (σ1 := σ8) hx hb hK hP hi hAd hS 14 3 (by decide) (fun _ => rfl) hin dX6_quest_45 eσ8 (fun H locs hP hS => ?_)
      refine lv_aload_n hx hb dX6_quest_46 rfl (lv_at hl 0 rfl) ?_
      refine lv_dup hx hb dX6_quest_47 rfl ?_
      refine g_get (v := .int (σ8 0 16)) hx hb hB hown hK hP 0 (by decide) rfl rfl kU_X6 16 (by decide) kF_X6_96 rfl rfl dX6_quest_48 ?_
      refine lv_iconst (v := 1) hx hb dX6_quest_51 (by decide) ?_
      refine lv_iadd hx hb dX6_quest_52 ?_
      obtain ⟨σ9, eσ9, hf⟩ := stp_e hf
      refine g_put (σ1 := σ9) hx hb hB hown hK hP hi hAd hS 0 (by decide) (fun f => [.ref (ad 1), .ref (ad 2), .ref (ad 3), .ref (ad 4), .ref (ad 5), .int (f 5), .ref (ad 6), .ref (ad 7), .ref (ad 8), .ref (ad 9), .ref (ad 10), .ref (ad 11), .ref (ad 12), .ref (ad 13), .int (f 14), .int (f 15), .int (f 16), .ref (ad 14), .ref (ad 15), .ref (ad 16), .ref (ad 17), .ref (ad 18), .ref (ad 19), .int (f 23), .ref (ad 20), .ref (ad 21), .ref (ad 22), .ref (ad 23), .ref (ad 24), .int (f 29)]) (fun _ => rfl) rfl kU_X6 tyX6 tyX6_ok nmX6 16 (by decide) kF_X6_96 rfl (fun _ _ => rfl) (fun _ => Nat.le_of_ble_eq_true rfl) dX6_quest_53 eσ9 (fun H locs hP hS => ?_)
      refine lv_aload_n hx hb dX6_quest_56 rfl (lv_at hl 0 rfl) ?_
      obtain ⟨σ10, hv, hf⟩ := bd_e hf
      refine g_cVvS (k0 := 0) ⟨⟨hx, hb, hml, hown, hB⟩, hK, hi, hA, hAd, hP, hS⟩ (c_X6_keep hi hv) cal_X6_keep kM_X6_113 ⟨Nat.le_trans (Nat.le_of_ble_eq_true rfl) hRf, Nat.le_trans (Nat.le_of_ble_eq_true rfl) hRl⟩ (by decide) rfl rfl rfl hl.1 (Nat.le_of_ble_eq_true rfl) rfl dX6_quest_57 ⟨Nat.zero_le _, Nat.zero_le _⟩ (fun H locs hP hS => ?_)
      refine lv_aload_n hx hb dX6_quest_60 rfl (lv_at hl 0 rfl) ?_
      refine g_get (v := .int (σ10 0 16)) hx hb hB hown hK hP 0 (by decide) rfl rfl kU_X6 16 (by decide) kF_X6_96 rfl rfl dX6_quest_61 ?_
      refine lv_iconst (v := 1) hx hb dX6_quest_64 (by decide) ?_
      refine lv_isub hx hb dX6_quest_65 ?_
      obtain ⟨h1, h2⟩ := rt2 hf
      rw [hQ]
      exact g_iret hx hb hr hlocks hP hS h1 h2 dX6_quest_66
    · rw [if_pos q7] at hf
      refine lv_iconst (v := 0) hx hb dX6_quest_34 (by decide) ?_
      obtain ⟨h1, h2⟩ := rt2 hf
      rw [hQ]
      exact g_iret hx hb hr hlocks hP hS h1 h2 dX6_quest_35
  refine lv_if_ne (tgt := 15) hx hb dX6_quest_8 (by decide) (fun q11 => ?_) (fun q11 => ?_)
  · rw [if_neg q11] at hf
    refine lv_aload_n hx hb dX6_quest_15 rfl (lv_at hl 0 rfl) ?_
    refine g_get (v := .int (σ 0 16)) hx hb hB hown hK hP 0 (by decide) rfl rfl kU_X6 16 (by decide) kF_X6_96 rfl rfl dX6_quest_16 ?_
    refine lv_iconst (v := 3) hx hb dX6_quest_19 (by decide) ?_
    refine lv_icmp_ne (tgt := 27) hx hb dX6_quest_20 (by decide) (fun q12 => ?_) (fun q12 => ?_)
    · rw [if_neg q12] at hf
      refine lv_iconst (v := 0) hx hb dX6_quest_27 (by decide) ?_
      exact hJ4 0 σ _ _ ls hf hP hS (lv_sub hl [0, 1] rfl)
    · rw [if_pos q12] at hf
      refine lv_iconst (v := 2) hx hb dX6_quest_23 (by decide) ?_
      refine lv_goto (tgt := 28) hx hb dX6_quest_24 (by decide) ?_
      exact hJ4 2 σ _ _ ls hf hP hS (lv_sub hl [0, 1] rfl)
  · rw [if_pos q11] at hf
    refine lv_iconst (v := 1) hx hb dX6_quest_11 (by decide) ?_
    refine lv_goto (tgt := 28) hx hb dX6_quest_12 (by decide) ?_
    exact hJ4 1 σ _ _ ls hf hP hS (lv_sub hl [0, 1] rfl)
def L_X6_stage_103 : Nat → (Int32 → Mem → Option (Int32 × Mem)) → Int32 → Int32 → Int32 → Int32 → Int32 → Int32 → Int32 → Int32 → Mem → Option (Int32 × Mem)
  | 0, _, _, _, _, _, _, _, _, _, _ => none
  | n + 1, k, x7, x8, x9, x10, x11, x12, x13, x14, σ15 =>
    if (σ15 0 5) ≤ x14 then (
    k x13 σ15)
    else (
    bd (f_X6_isQuest σ15 x7) fun v41 =>
    if v41 = 0 then (
    k x13 σ15)
    else (
    jn (fun (y43 : Int32) (σ44 : Mem) =>
    L_X6_stage_103 n k x7 x8 x9 x10 x11 x12 y43 (x14 + 1) σ44) fun (J45 : Int32 → Mem → Option (Int32 × Mem)) =>
    jn (fun (σ46 : Mem) =>
    J45 1 σ46) fun (J47 : Mem → Option (Int32 × Mem)) =>
    if x13 = 0 then (
    gd ((3 * x14) + x7) 12 <|
    if (σ15 19 ((3 * x14) + x7).toNatClampNeg) ≤ 0 then (
    J45 0 σ15)
    else (
    J47 σ15))
    else (
    J47 σ15)))
def f_X6_stage (σ : Mem) (a0 a1 a2 a3 : Int32) : Option (Int32 × Mem) :=
jn (fun (y1 : Int32) (σ2 : Mem) =>
jn (fun (y4 : Int32) (σ5 : Mem) =>
L_X6_stage_103 FU (fun (x17 : Int32) (σ18 : Mem) =>
bd (f_X6_isQuest σ18 a0) fun v19 =>
jn (fun (y20 : Int32) (σ21 : Mem) =>
bd2 (f_X6_can σ21 y20) fun v23 σ24 =>
if v23 = 0 then (
some (0, σ24))
else (
gd a0 3 <|
gd ((4 * a0) + (σ24 15 a0.toNatClampNeg)) 12 <| stp (mu σ24 16 ((4 * a0) + (σ24 15 a0.toNatClampNeg)).toNatClampNeg a1) fun σ26 =>
gd ((4 * a0) + (σ24 15 a0.toNatClampNeg)) 12 <| stp (mu σ26 17 ((4 * a0) + (σ24 15 a0.toNatClampNeg)).toNatClampNeg a2) fun σ27 =>
gd ((4 * a0) + (σ24 15 a0.toNatClampNeg)) 12 <| stp (mu σ27 18 ((4 * a0) + (σ24 15 a0.toNatClampNeg)).toNatClampNeg a3) fun σ28 =>
gd a0 3 <|
gd a0 3 <| stp (mu σ28 15 a0.toNatClampNeg ((σ28 15 a0.toNatClampNeg) + 1)) fun σ29 =>
bd (f_X6_keep σ29) fun σ30 =>
gd a0 3 <|
some ((σ30 15 a0.toNatClampNeg), σ30))) fun (J22 : Int32 → Mem → Option (Int32 × Mem)) =>
jn (fun (σ31 : Mem) =>
J22 1 σ31) fun (J32 : Mem → Option (Int32 × Mem)) =>
if v19 = 0 then (
J32 σ18)
else (
if y1 = 0 then (
J32 σ18)
else (
if y4 = 0 then (
J22 2 σ18)
else (
gd a0 3 <|
jn (fun (σ36 : Mem) =>
J22 3 σ36) fun (J37 : Mem → Option (Int32 × Mem)) =>
if (σ18 15 a0.toNatClampNeg) = 4 then (
J37 σ18)
else (
if x17 = 0 then (
J22 0 σ18)
else (
J37 σ18)))))) a0 a1 a2 a3 y1 y4 0 0 σ5) fun (J6 : Int32 → Mem → Option (Int32 × Mem)) =>
if a1 = 1 then (
bd (f_X6_isIn a3 1 9) fun v57 =>
J6 v57 σ2)
else (
if a1 = 2 then (
bd (f_X6_isIn a3 0 99) fun v56 =>
J6 v56 σ2)
else (
jn (fun (σ52 : Mem) =>
J6 1 σ52) fun (J53 : Mem → Option (Int32 × Mem)) =>
if a1 = 0 then (
J53 σ2)
else (
if a1 = 3 then (
J53 σ2)
else (
J6 0 σ2))))) fun (J3 : Int32 → Mem → Option (Int32 × Mem)) =>
if a1 = 1 then (
bd (f_X6_isKind a2) fun v69 =>
J3 v69 σ)
else (
if a1 = 3 then (
bd (f_X6_isIn a2 0 3) fun v68 =>
J3 v68 σ)
else (
jn (fun (σ60 : Mem) =>
J3 1 σ60) fun (J61 : Mem → Option (Int32 × Mem)) =>
jn (fun (σ62 : Mem) =>
bd (f_X6_isRoom a2) fun v64 =>
if v64 = 0 then (
J3 0 σ62)
else (
J61 σ62)) fun (J63 : Mem → Option (Int32 × Mem)) =>
if a1 = 0 then (
J63 σ)
else (
if a1 = 2 then (
J63 σ)
else (
J61 σ))))
set_option maxHeartbeats 4000000 in
set_option maxRecDepth 100000 in
theorem c_X6_stage {l : Launch} {D : va_G} {cI cJ : ClassId} {ad : Nat → Nat} {σ : Mem} {a0 a1 a2 a3 : Int32} {r : Int32} {σr : Mem}  (hi : injG 25 ad) (hf : f_X6_stage σ a0 a1 a2 a3 = some (r, σr)) : MGi l yX6_stage (Cond.code yX6_stage cX6_stage 9 (some .int) :: BIG) 2 43 D cI cJ 25 ad (EM ad cI) [.ref (ad 0), .int a0, .int a1, .int a2, .int a3] σ σr r := by
  refine MGi.ofW (cc := cX6_stage) (nL := 9) (ret := (some .int)) (by decide) rfl hi ?_
  intro p e s m args below meth c hx hb hr hml hlocks hown hB hK hP hA hAd hS
  have hown : s.vm.findClass RX6 = some m.cls := hown
  have hl := lv_entry ([.ref (ad 0), .int a0, .int a1, .int a2, .int a3] : List Value) (n := 9) (Nat.le_of_ble_eq_true rfl)
  rw [lg_entry_eq]
  generalize (lg_sl ([.ref (ad 0), .int a0, .int a1, .int a2, .int a3] : List Value) ++ List.replicate (9 - (lg_sl ([.ref (ad 0), .int a0, .int a1, .int a2, .int a3] : List Value)).length) Slot.unset).toArray = ls at hl ⊢
  have hl : lv_has ls 9 [(0, .ref (ad 0)), (1, .int a0), (2, .int a1), (3, .int a2), (4, .int a3)] := hl
  generalize hQ : MQ below (Qgi D 25 ad (EM ad cI) r σr s.heap.size) _ s 0 0 (AG 25 ad s.heap.size) = Q
  have hQ := hQ.symm
  obtain ⟨R, hR, hRf, hRl⟩ : ∃ R : Room, R = ({ frames := 2, cells := 0, slots := 0, locals := 43 } : Room) ∧ 2 ≤ R.frames ∧ 43 ≤ R.locals := ⟨_, rfl, Nat.le_refl _, Nat.le_refl _⟩
  rw [← hR]
  unfold f_X6_stage at hf
  refine lv_iload_n hx hb dX6_stage_0 rfl (lv_at hl 2 rfl) ?_
  refine lv_iconst (v := 1) hx hb dX6_stage_1 (by decide) ?_
  obtain ⟨J3, eJ3, hf⟩ := jn_e2 hf
  have hJ3 : ∀ (y1 : Int32) (σ2 : Mem) (H : Heap) (locs : List Loc) (ls : Array Slot), J3 y1 σ2 = some (r, σr) → va_P D vwCl (wsG 25 ad (EM ad cI) σ2) H → va_S (AG 25 ad s.heap.size) s.heap H locs → lv_has ls 9 [(0, .ref (ad 0)), (1, .int a0), (2, .int a1), (3, .int a2), (4, .int a3)] → W p l e R s m args below meth c H locs 0 0 Q (F0 m 47 ls [.int y1]) := by
    intro y1 σ2 H locs ls hf hP hS hl
    rw [eJ3] at hf
    refine lv_istore (lv' := [(5, .int y1), (0, .ref (ad 0)), (1, .int a0), (2, .int a1), (3, .int a2), (4, .int a3)]) hx hb dX6_stage_47 hl (by decide) rfl (fun ls hl => ?_)
    refine lv_iload_n hx hb dX6_stage_49 rfl (lv_at hl 3 rfl) ?_
    refine lv_iconst (v := 1) hx hb dX6_stage_50 (by decide) ?_
    obtain ⟨J6, eJ6, hf⟩ := jn_e2 hf
    have hJ6 : ∀ (y4 : Int32) (σ5 : Mem) (H : Heap) (locs : List Loc) (ls : Array Slot), J6 y4 σ5 = some (r, σr) → va_P D vwCl (wsG 25 ad (EM ad cI) σ5) H → va_S (AG 25 ad s.heap.size) s.heap H locs → lv_has ls 9 [(0, .ref (ad 0)), (1, .int a0), (2, .int a1), (3, .int a2), (4, .int a3), (5, .int y1)] → W p l e R s m args below meth c H locs 0 0 Q (F0 m 95 ls [.int y4]) := by
      intro y4 σ5 H locs ls hf hP hS hl
      rw [eJ6] at hf
      refine lv_istore (lv' := [(6, .int y4), (0, .ref (ad 0)), (1, .int a0), (2, .int a1), (3, .int a2), (4, .int a3), (5, .int y1)]) hx hb dX6_stage_95 hl (by decide) rfl (fun ls hl => ?_)
      refine lv_iconst (v := 0) hx hb dX6_stage_97 (by decide) ?_
      refine lv_istore (lv' := [(7, .int 0), (6, .int y4), (0, .ref (ad 0)), (1, .int a0), (2, .int a1), (3, .int a2), (4, .int a3), (5, .int y1)]) hx hb dX6_stage_98 hl (by decide) rfl (fun ls hl => ?_)
      refine lv_iconst (v := 0) hx hb dX6_stage_100 (by decide) ?_
      refine lv_istore (lv' := [(8, .int 0), (7, .int 0), (6, .int y4), (0, .ref (ad 0)), (1, .int a0), (2, .int a1), (3, .int a2), (4, .int a3), (5, .int y1)]) hx hb dX6_stage_101 hl (by decide) rfl (fun ls hl => ?_)
      obtain ⟨K16, eK16, hf⟩ := lp_e2 (b := fun K => L_X6_stage_103 FU K a0 a1 a2 a3 y1 y4 0 0 σ5) hf
      replace hf : L_X6_stage_103 FU K16 a0 a1 a2 a3 y1 y4 0 0 σ5 = some (r, σr) := hf
      have hKK16 : ∀ (x17 : Int32) (σ18 : Mem) (H : Heap) (locs : List Loc) (ls : Array Slot), K16 x17 σ18 = some (r, σr) → va_P D vwCl (wsG 25 ad (EM ad cI) σ18) H → va_S (AG 25 ad s.heap.size) s.heap H locs → lv_has ls 9 [(0, .ref (ad 0)), (1, .int a0), (2, .int a1), (3, .int a2), (4, .int a3), (5, .int y1), (6, .int y4), (7, .int x17)] → W p l e R s m args below meth c H locs 0 0 Q (F0 m 152 ls []) := by
        intro x17 σ18 H locs ls hf hP hS hl
        rw [eK16] at hf
        refine lv_aload_n hx hb dX6_stage_152 rfl (lv_at hl 0 rfl) ?_
        refine lv_aload_n hx hb dX6_stage_153 rfl (lv_at hl 0 rfl) ?_
        refine lv_iload_n hx hb dX6_stage_154 rfl (lv_at hl 1 rfl) ?_
        obtain ⟨v19, hv, hf⟩ := bd_e hf
        refine g_cViS (k0 := 0) ⟨⟨hx, hb, hml, hown, hB⟩, hK, hi, hA, hAd, hP, hS⟩ (c_X6_isQuest hi hv) cal_X6_isQuest kM_X6_119 ⟨Nat.le_trans (Nat.le_of_ble_eq_true rfl) hRf, Nat.le_trans (Nat.le_of_ble_eq_true rfl) hRl⟩ (by decide) rfl rfl rfl hl.1 (Nat.le_of_ble_eq_true rfl) rfl dX6_stage_155 ⟨Nat.zero_le _, Nat.zero_le _⟩ (fun H locs hP hS => ?_)
        obtain ⟨J22, eJ22, hf⟩ := jn_e2 hf
        have hJ22 : ∀ (y20 : Int32) (σ21 : Mem) (H : Heap) (locs : List Loc) (ls : Array Slot), J22 y20 σ21 = some (r, σr) → va_P D vwCl (wsG 25 ad (EM ad cI) σ21) H → va_S (AG 25 ad s.heap.size) s.heap H locs → lv_has ls 9 [(0, .ref (ad 0)), (1, .int a0), (2, .int a1), (3, .int a2), (4, .int a3)] → W p l e R s m args below meth c H locs 0 0 Q (F0 m 199 ls [.int y20, .ref (ad 0)]) := by
          intro y20 σ21 H locs ls hf hP hS hl
          rw [eJ22] at hf
          obtain ⟨v23, σ24, hv, hf⟩ := bd2_e hf
          refine g_cViS (k0 := 0) ⟨⟨hx, hb, hml, hown, hB⟩, hK, hi, hA, hAd, hP, hS⟩ (c_X6_can hi hv) cal_X6_can kM_X6_110 ⟨Nat.le_trans (Nat.le_of_ble_eq_true rfl) hRf, Nat.le_trans (Nat.le_of_ble_eq_true rfl) hRl⟩ (by decide) rfl rfl rfl hl.1 (Nat.le_of_ble_eq_true rfl) rfl dX6_stage_199 ⟨Nat.zero_le _, Nat.zero_le _⟩ (fun H locs hP hS => ?_)
          refine lv_if_ne (tgt := 207) hx hb dX6_stage_202 (by decide) (fun q25 => ?_) (fun q25 => ?_)
          · rw [if_neg q25] at hf
            refine lv_iconst (v := 4) hx hb dX6_stage_207 (by decide) ?_
            refine lv_iload_n hx hb dX6_stage_208 rfl (lv_at hl 1 rfl) ?_
            refine lv_imul hx hb dX6_stage_209 ?_
            refine lv_aload_n hx hb dX6_stage_210 rfl (lv_at hl 0 rfl) ?_
            refine g_get (v := .ref (ad 15)) hx hb hB hown hK hP 0 (by decide) rfl rfl kU_X6 18 (by decide) kF_X6_52 rfl rfl dX6_stage_211 ?_
            refine lv_iload_n hx hb dX6_stage_214 rfl (lv_at hl 1 rfl) ?_
            obtain ⟨hin, hf⟩ := gd_e hf
            refine g_iald hx hb hK hP 15 3 (by decide) rfl hin dX6_stage_215 ?_
            refine lv_iadd hx hb dX6_stage_216 ?_
            refine lv_istore (lv' := [(8, .int ((4 * a0) + (σ24 15 a0.toNatClampNeg))), (0, .ref (ad 0)), (1, .int a0), (2, .int a1), (3, .int a2), (4, .int a3)]) hx hb dX6_stage_217 hl (by decide) rfl (fun ls hl => ?_)
            refine lv_aload_n hx hb dX6_stage_219 rfl (lv_at hl 1 rfl) ?_
            refine g_get (v := .ref (ad 16)) hx hb hB hown hK hP 0 (by decide) rfl rfl kU_X6 19 (by decide) kF_X6_55 rfl rfl dX6_stage_220 ?_
            refine lv_iload hx hb dX6_stage_223 (lv_at hl 0 rfl) ?_
            refine lv_iload_n hx hb dX6_stage_225 rfl (lv_at hl 3 rfl) ?_
            obtain ⟨hin, hf⟩ := gd_e hf
            obtain ⟨σ26, eσ26, hf⟩ := stp_e hf
            refine g_iast (σ1 := σ26) hx hb hK hP hi hAd hS 16 12 (by decide) (fun _ => rfl) hin dX6_stage_226 eσ26 (fun H locs hP hS => ?_)
            refine lv_aload_n hx hb dX6_stage_227 rfl (lv_at hl 1 rfl) ?_
            refine g_get (v := .ref (ad 17)) hx hb hB hown hK hP 0 (by decide) rfl rfl kU_X6 20 (by decide) kF_X6_58 rfl rfl dX6_stage_228 ?_
            refine lv_iload hx hb dX6_stage_231 (lv_at hl 0 rfl) ?_
            refine lv_iload_n hx hb dX6_stage_233 rfl (lv_at hl 4 rfl) ?_
            obtain ⟨hin, hf⟩ := gd_e hf
            obtain ⟨σ27, eσ27, hf⟩ := stp_e hf
            refine g_iast (σ1 := σ27) hx hb hK hP hi hAd hS 17 12 (by decide) (fun _ => rfl) hin dX6_stage_234 eσ27 (fun H locs hP hS => ?_)
            refine lv_aload_n hx hb dX6_stage_235 rfl (lv_at hl 1 rfl) ?_
            refine g_get (v := .ref (ad 18)) hx hb hB hown hK hP 0 (by decide) rfl rfl kU_X6 21 (by decide) kF_X6_61 rfl rfl dX6_stage_236 ?_
            refine lv_iload hx hb dX6_stage_239 (lv_at hl 0 rfl) ?_
            refine lv_iload hx hb dX6_stage_241 (lv_at hl 5 rfl) ?_
            obtain ⟨hin, hf⟩ := gd_e hf
            obtain ⟨σ28, eσ28, hf⟩ := stp_e hf
            refine g_iast (σ1 := σ28) hx hb hK hP hi hAd hS 18 12 (by decide) (fun _ => rfl) hin dX6_stage_243 eσ28 (fun H locs hP hS => ?_)
            refine lv_aload_n hx hb dX6_stage_244 rfl (lv_at hl 1 rfl) ?_
            refine g_get (v := .ref (ad 15)) hx hb hB hown hK hP 0 (by decide) rfl rfl kU_X6 18 (by decide) kF_X6_52 rfl rfl dX6_stage_245 ?_
            refine lv_iload_n hx hb dX6_stage_248 rfl (lv_at hl 2 rfl) ?_
            refine lv_dup2_11 hx hb dX6_stage_249 rfl rfl ?_
            obtain ⟨hin, hf⟩ := gd_e hf
            refine g_iald hx hb hK hP 15 3 (by decide) rfl hin dX6_stage_250 ?_
            refine lv_iconst (v := 1) hx hb dX6_stage_251 (by decide) ?_
            refine lv_iadd hx hb dX6_stage_252 ?_
            obtain ⟨hin, hf⟩ := gd_e hf
            obtain ⟨σ29, eσ29, hf⟩ := stp_e hf
            refine g_iast (σ1 := σ29) hx hb hK hP hi hAd hS 15 3 (by decide) (fun _ => rfl) hin dX6_stage_253 eσ29 (fun H locs hP hS => ?_)
            refine lv_aload_n hx hb dX6_stage_254 rfl (lv_at hl 1 rfl) ?_
            obtain ⟨σ30, hv, hf⟩ := bd_e hf
            refine g_cVvS (k0 := 0) ⟨⟨hx, hb, hml, hown, hB⟩, hK, hi, hA, hAd, hP, hS⟩ (c_X6_keep hi hv) cal_X6_keep kM_X6_113 ⟨Nat.le_trans (Nat.le_of_ble_eq_true rfl) hRf, Nat.le_trans (Nat.le_of_ble_eq_true rfl) hRl⟩ (by decide) rfl rfl rfl hl.1 (Nat.le_of_ble_eq_true rfl) rfl dX6_stage_255 ⟨Nat.zero_le _, Nat.zero_le _⟩ (fun H locs hP hS => ?_)
            refine lv_aload_n hx hb dX6_stage_258 rfl (lv_at hl 1 rfl) ?_
            refine g_get (v := .ref (ad 15)) hx hb hB hown hK hP 0 (by decide) rfl rfl kU_X6 18 (by decide) kF_X6_52 rfl rfl dX6_stage_259 ?_
            refine lv_iload_n hx hb dX6_stage_262 rfl (lv_at hl 2 rfl) ?_
            obtain ⟨hin, hf⟩ := gd_e hf
            refine g_iald hx hb hK hP 15 3 (by decide) rfl hin dX6_stage_263 ?_
            obtain ⟨h1, h2⟩ := rt2 hf
            rw [hQ]
            exact g_iret hx hb hr hlocks hP hS h1 h2 dX6_stage_264
          · rw [if_pos q25] at hf
            refine lv_iconst (v := 0) hx hb dX6_stage_205 (by decide) ?_
            obtain ⟨h1, h2⟩ := rt2 hf
            rw [hQ]
            exact g_iret hx hb hr hlocks hP hS h1 h2 dX6_stage_206
        obtain ⟨J32, eJ32, hf⟩ := jn_e1 hf
        have hJ32 : ∀ (σ31 : Mem) (H : Heap) (locs : List Loc) (ls : Array Slot), J32 σ31 = some (r, σr) → va_P D vwCl (wsG 25 ad (EM ad cI) σ31) H → va_S (AG 25 ad s.heap.size) s.heap H locs → lv_has ls 9 [(0, .ref (ad 0)), (1, .int a0), (2, .int a1), (3, .int a2), (4, .int a3)] → W p l e R s m args below meth c H locs 0 0 Q (F0 m 166 ls [.ref (ad 0)]) := by
          intro σ31 H locs ls hf hP hS hl
          rw [eJ32] at hf
          refine lv_iconst (v := 1) hx hb dX6_stage_166 (by decide) ?_
          refine lv_goto (tgt := 199) hx hb dX6_stage_167 (by decide) ?_
          exact hJ22 1 σ31 _ _ ls hf hP hS (lv_sub hl [0, 1, 2, 3, 4] rfl)
        refine lv_if_eq (tgt := 166) hx hb dX6_stage_158 (by decide) (fun q33 => ?_) (fun q33 => ?_)
        · rw [if_pos q33] at hf
          exact hJ32 σ18 _ _ ls hf hP hS (lv_sub hl [0, 1, 2, 3, 4] rfl)
        · rw [if_neg q33] at hf
          refine lv_iload hx hb dX6_stage_161 (lv_at hl 5 rfl) ?_
          refine lv_if_ne (tgt := 170) hx hb dX6_stage_163 (by decide) (fun q34 => ?_) (fun q34 => ?_)
          · rw [if_neg q34] at hf
            refine lv_iload hx hb dX6_stage_170 (lv_at hl 6 rfl) ?_
            refine lv_if_ne (tgt := 179) hx hb dX6_stage_172 (by decide) (fun q35 => ?_) (fun q35 => ?_)
            · rw [if_neg q35] at hf
              refine lv_aload_n hx hb dX6_stage_179 rfl (lv_at hl 0 rfl) ?_
              refine g_get (v := .ref (ad 15)) hx hb hB hown hK hP 0 (by decide) rfl rfl kU_X6 18 (by decide) kF_X6_52 rfl rfl dX6_stage_180 ?_
              refine lv_iload_n hx hb dX6_stage_183 rfl (lv_at hl 1 rfl) ?_
              obtain ⟨hin, hf⟩ := gd_e hf
              refine g_iald hx hb hK hP 15 3 (by decide) rfl hin dX6_stage_184 ?_
              refine lv_iconst (v := 4) hx hb dX6_stage_185 (by decide) ?_
              obtain ⟨J37, eJ37, hf⟩ := jn_e1 hf
              have hJ37 : ∀ (σ36 : Mem) (H : Heap) (locs : List Loc) (ls : Array Slot), J37 σ36 = some (r, σr) → va_P D vwCl (wsG 25 ad (EM ad cI) σ36) H → va_S (AG 25 ad s.heap.size) s.heap H locs → lv_has ls 9 [(0, .ref (ad 0)), (1, .int a0), (2, .int a1), (3, .int a2), (4, .int a3)] → W p l e R s m args below meth c H locs 0 0 Q (F0 m 194 ls [.ref (ad 0)]) := by
                intro σ36 H locs ls hf hP hS hl
                rw [eJ37] at hf
                refine lv_iconst (v := 3) hx hb dX6_stage_194 (by decide) ?_
                refine lv_goto (tgt := 199) hx hb dX6_stage_195 (by decide) ?_
                exact hJ22 3 σ36 _ _ ls hf hP hS (lv_sub hl [0, 1, 2, 3, 4] rfl)
              refine lv_icmp_eq (tgt := 194) hx hb dX6_stage_186 (by decide) (fun q38 => ?_) (fun q38 => ?_)
              · rw [if_pos q38] at hf
                exact hJ37 σ18 _ _ ls hf hP hS (lv_sub hl [0, 1, 2, 3, 4] rfl)
              · rw [if_neg q38] at hf
                refine lv_iload hx hb dX6_stage_189 (lv_at hl 7 rfl) ?_
                refine lv_if_eq (tgt := 198) hx hb dX6_stage_191 (by decide) (fun q39 => ?_) (fun q39 => ?_)
                · rw [if_pos q39] at hf
                  refine lv_iconst (v := 0) hx hb dX6_stage_198 (by decide) ?_
                  exact hJ22 0 σ18 _ _ ls hf hP hS (lv_sub hl [0, 1, 2, 3, 4] rfl)
                · rw [if_neg q39] at hf
                  exact hJ37 σ18 _ _ ls hf hP hS (lv_sub hl [0, 1, 2, 3, 4] rfl)
            · rw [if_pos q35] at hf
              refine lv_iconst (v := 2) hx hb dX6_stage_175 (by decide) ?_
              refine lv_goto (tgt := 199) hx hb dX6_stage_176 (by decide) ?_
              exact hJ22 2 σ18 _ _ ls hf hP hS (lv_sub hl [0, 1, 2, 3, 4] rfl)
          · rw [if_pos q34] at hf
            exact hJ32 σ18 _ _ ls hf hP hS (lv_sub hl [0, 1, 2, 3, 4] rfl)
      have hL_X6_stage_103 : ∀ (n : Nat) (x13 : Int32) (x14 : Int32) (σ15 : Mem) (H : Heap) (locs : List Loc) (ls : Array Slot), L_X6_stage_103 n K16 a0 a1 a2 a3 y1 y4 x13 x14 σ15 = some (r, σr) → va_P D vwCl (wsG 25 ad (EM ad cI) σ15) H → va_S (AG 25 ad s.heap.size) s.heap H locs → lv_has ls 9 [(0, .ref (ad 0)), (1, .int a0), (2, .int a1), (3, .int a2), (4, .int a3), (5, .int y1), (6, .int y4), (7, .int x13), (8, .int x14)] → W p l e R s m args below meth c H locs 0 0 Q (F0 m 103 ls []) := by
        intro n
        induction n with
        | zero => intro x13 x14 σ15 H locs ls hf; cases hf
        | succ n ih =>
          intro x13 x14 σ15 H locs ls hf hP hS hl
          rw [L_X6_stage_103] at hf
          refine lv_iload hx hb dX6_stage_103 (lv_at hl 8 rfl) ?_
          refine lv_aload_n hx hb dX6_stage_105 rfl (lv_at hl 0 rfl) ?_
          refine g_get (v := .int (σ15 0 5)) hx hb hB hown hK hP 0 (by decide) rfl rfl kU_X6 5 (by decide) kF_X6_93 rfl rfl dX6_stage_106 ?_
          refine lv_icmp_ge (tgt := 152) hx hb dX6_stage_109 (by decide) (fun q40 => ?_) (fun q40 => ?_)
          · rw [if_pos q40] at hf
            exact hKK16 x13 σ15 _ _ ls hf hP hS (lv_sub hl [0, 1, 2, 3, 4, 5, 6, 7] rfl)
          · rw [if_neg q40] at hf
            refine lv_aload_n hx hb dX6_stage_112 rfl (lv_at hl 0 rfl) ?_
            refine lv_iload_n hx hb dX6_stage_113 rfl (lv_at hl 1 rfl) ?_
            obtain ⟨v41, hv, hf⟩ := bd_e hf
            refine g_cViS (k0 := 0) ⟨⟨hx, hb, hml, hown, hB⟩, hK, hi, hA, hAd, hP, hS⟩ (c_X6_isQuest hi hv) cal_X6_isQuest kM_X6_119 ⟨Nat.le_trans (Nat.le_of_ble_eq_true rfl) hRf, Nat.le_trans (Nat.le_of_ble_eq_true rfl) hRl⟩ (by decide) rfl rfl rfl hl.1 (Nat.le_of_ble_eq_true rfl) rfl dX6_stage_114 ⟨Nat.zero_le _, Nat.zero_le _⟩ (fun H locs hP hS => ?_)
            refine lv_if_eq (tgt := 152) hx hb dX6_stage_117 (by decide) (fun q42 => ?_) (fun q42 => ?_)
            · rw [if_pos q42] at hf
              exact hKK16 x13 σ15 _ _ ls hf hP hS (lv_sub hl [0, 1, 2, 3, 4, 5, 6, 7] rfl)
            · rw [if_neg q42] at hf
              refine lv_iload hx hb dX6_stage_120 (lv_at hl 7 rfl) ?_
              obtain ⟨J45, eJ45, hf⟩ := jn_e2 hf
              have hJ45 : ∀ (y43 : Int32) (σ44 : Mem) (H : Heap) (locs : List Loc) (ls : Array Slot), J45 y43 σ44 = some (r, σr) → va_P D vwCl (wsG 25 ad (EM ad cI) σ44) H → va_S (AG 25 ad s.heap.size) s.heap H locs → lv_has ls 9 [(0, .ref (ad 0)), (1, .int a0), (2, .int a1), (3, .int a2), (4, .int a3), (5, .int y1), (6, .int y4), (8, .int x14)] → W p l e R s m args below meth c H locs 0 0 Q (F0 m 144 ls [.int y43]) := by
                intro y43 σ44 H locs ls hf hP hS hl
                rw [eJ45] at hf
                refine lv_istore (lv' := [(7, .int y43), (0, .ref (ad 0)), (1, .int a0), (2, .int a1), (3, .int a2), (4, .int a3), (5, .int y1), (6, .int y4), (8, .int x14)]) hx hb dX6_stage_144 hl (by decide) rfl (fun ls hl => ?_)
                refine lv_iinc (v := (x14 + 1)) (lv' := [(8, .int (x14 + 1)), (7, .int y43), (0, .ref (ad 0)), (1, .int a0), (2, .int a1), (3, .int a2), (4, .int a3), (5, .int y1), (6, .int y4)]) hx hb dX6_stage_146 hl (k := 8) rfl rfl (by decide) rfl (fun ls hl => ?_)
                refine lv_goto (tgt := 103) hx hb dX6_stage_149 (by decide) ?_
                exact ih y43 (x14 + 1) σ44 _ _ ls hf hP hS (lv_sub hl [2, 3, 4, 5, 6, 7, 8, 1, 0] rfl)
              obtain ⟨J47, eJ47, hf⟩ := jn_e1 hf
              have hJ47 : ∀ (σ46 : Mem) (H : Heap) (locs : List Loc) (ls : Array Slot), J47 σ46 = some (r, σr) → va_P D vwCl (wsG 25 ad (EM ad cI) σ46) H → va_S (AG 25 ad s.heap.size) s.heap H locs → lv_has ls 9 [(0, .ref (ad 0)), (1, .int a0), (2, .int a1), (3, .int a2), (4, .int a3), (5, .int y1), (6, .int y4), (8, .int x14)] → W p l e R s m args below meth c H locs 0 0 Q (F0 m 139 ls []) := by
                intro σ46 H locs ls hf hP hS hl
                rw [eJ47] at hf
                refine lv_iconst (v := 1) hx hb dX6_stage_139 (by decide) ?_
                refine lv_goto (tgt := 144) hx hb dX6_stage_140 (by decide) ?_
                exact hJ45 1 σ46 _ _ ls hf hP hS (lv_sub hl [0, 1, 2, 3, 4, 5, 6, 7] rfl)
              refine lv_if_ne (tgt := 139) hx hb dX6_stage_122 (by decide) (fun q48 => ?_) (fun q48 => ?_)
              · rw [if_neg q48] at hf
                exact hJ47 σ15 _ _ ls hf hP hS (lv_sub hl [0, 1, 2, 3, 4, 5, 6, 8] rfl)
              · rw [if_pos q48] at hf
                refine lv_aload_n hx hb dX6_stage_125 rfl (lv_at hl 0 rfl) ?_
                refine g_get (v := .ref (ad 19)) hx hb hB hown hK hP 0 (by decide) rfl rfl kU_X6 22 (by decide) kF_X6_64 rfl rfl dX6_stage_126 ?_
                refine lv_iconst (v := 3) hx hb dX6_stage_129 (by decide) ?_
                refine lv_iload hx hb dX6_stage_130 (lv_at hl 8 rfl) ?_
                refine lv_imul hx hb dX6_stage_132 ?_
                refine lv_iload_n hx hb dX6_stage_133 rfl (lv_at hl 1 rfl) ?_
                refine lv_iadd hx hb dX6_stage_134 ?_
                obtain ⟨hin, hf⟩ := gd_e hf
                refine g_iald hx hb hK hP 19 12 (by decide) rfl hin dX6_stage_135 ?_
                refine lv_if_le (tgt := 143) hx hb dX6_stage_136 (by decide) (fun q49 => ?_) (fun q49 => ?_)
                · rw [if_pos q49] at hf
                  refine lv_iconst (v := 0) hx hb dX6_stage_143 (by decide) ?_
                  exact hJ45 0 σ15 _ _ ls hf hP hS (lv_sub hl [0, 1, 2, 3, 4, 5, 6, 8] rfl)
                · rw [if_neg q49] at hf
                  exact hJ47 σ15 _ _ ls hf hP hS (lv_sub hl [0, 1, 2, 3, 4, 5, 6, 8] rfl)
      exact hL_X6_stage_103 FU 0 0 σ5 _ _ ls hf hP hS (lv_sub hl [3, 4, 5, 6, 7, 8, 2, 1, 0] rfl)
    refine lv_icmp_ne (tgt := 65) hx hb dX6_stage_51 (by decide) (fun q50 => ?_) (fun q50 => ?_)
    · rw [if_neg q50] at hf
      refine lv_iload_n hx hb dX6_stage_65 rfl (lv_at hl 3 rfl) ?_
      refine lv_iconst (v := 2) hx hb dX6_stage_66 (by decide) ?_
      refine lv_icmp_ne (tgt := 81) hx hb dX6_stage_67 (by decide) (fun q51 => ?_) (fun q51 => ?_)
      · rw [if_neg q51] at hf
        refine lv_iload_n hx hb dX6_stage_81 rfl (lv_at hl 3 rfl) ?_
        obtain ⟨J53, eJ53, hf⟩ := jn_e1 hf
        have hJ53 : ∀ (σ52 : Mem) (H : Heap) (locs : List Loc) (ls : Array Slot), J53 σ52 = some (r, σr) → va_P D vwCl (wsG 25 ad (EM ad cI) σ52) H → va_S (AG 25 ad s.heap.size) s.heap H locs → lv_has ls 9 [(0, .ref (ad 0)), (1, .int a0), (2, .int a1), (3, .int a2), (4, .int a3), (5, .int y1)] → W p l e R s m args below meth c H locs 0 0 Q (F0 m 90 ls []) := by
          intro σ52 H locs ls hf hP hS hl
          rw [eJ53] at hf
          refine lv_iconst (v := 1) hx hb dX6_stage_90 (by decide) ?_
          refine lv_goto (tgt := 95) hx hb dX6_stage_91 (by decide) ?_
          exact hJ6 1 σ52 _ _ ls hf hP hS (lv_sub hl [0, 1, 2, 3, 4, 5] rfl)
        refine lv_if_eq (tgt := 90) hx hb dX6_stage_82 (by decide) (fun q54 => ?_) (fun q54 => ?_)
        · rw [if_pos q54] at hf
          exact hJ53 σ2 _ _ ls hf hP hS (lv_sub hl [1, 2, 3, 4, 5, 0] rfl)
        · rw [if_neg q54] at hf
          refine lv_iload_n hx hb dX6_stage_85 rfl (lv_at hl 3 rfl) ?_
          refine lv_iconst (v := 3) hx hb dX6_stage_86 (by decide) ?_
          refine lv_icmp_ne (tgt := 94) hx hb dX6_stage_87 (by decide) (fun q55 => ?_) (fun q55 => ?_)
          · rw [if_neg q55] at hf
            refine lv_iconst (v := 0) hx hb dX6_stage_94 (by decide) ?_
            exact hJ6 0 σ2 _ _ ls hf hP hS (lv_sub hl [1, 2, 3, 4, 5, 0] rfl)
          · rw [if_pos q55] at hf
            exact hJ53 σ2 _ _ ls hf hP hS (lv_sub hl [1, 2, 3, 4, 5, 0] rfl)
      · rw [if_pos q51] at hf
        refine lv_iload hx hb dX6_stage_70 (lv_at hl 5 rfl) ?_
        refine lv_iconst (v := 0) hx hb dX6_stage_72 (by decide) ?_
        refine lv_bipush (v := 99) hx hb dX6_stage_73 (by decide) ?_
        obtain ⟨v56, hv, hf⟩ := bd_e hf
        refine g_cSi0 ⟨⟨hx, hb, hml, hown, hB⟩, hK, hi, hA, hAd, hP, hS⟩ (c_X6_isIn hv) cal_X6_isIn kM_X6_89 ⟨Nat.le_trans (Nat.le_of_ble_eq_true rfl) hRf, Nat.le_trans (Nat.le_of_ble_eq_true rfl) hRl⟩ rfl hl.1 (Nat.le_of_ble_eq_true rfl) rfl dX6_stage_75 ⟨Nat.zero_le _, Nat.zero_le _⟩ (fun H locs hP hS => ?_)
        refine lv_goto (tgt := 95) hx hb dX6_stage_78 (by decide) ?_
        exact hJ6 v56 σ2 _ _ ls hf hP hS (lv_sub hl [1, 2, 3, 4, 5, 0] rfl)
    · rw [if_pos q50] at hf
      refine lv_iload hx hb dX6_stage_54 (lv_at hl 5 rfl) ?_
      refine lv_iconst (v := 1) hx hb dX6_stage_56 (by decide) ?_
      refine lv_bipush (v := 9) hx hb dX6_stage_57 (by decide) ?_
      obtain ⟨v57, hv, hf⟩ := bd_e hf
      refine g_cSi0 ⟨⟨hx, hb, hml, hown, hB⟩, hK, hi, hA, hAd, hP, hS⟩ (c_X6_isIn hv) cal_X6_isIn kM_X6_89 ⟨Nat.le_trans (Nat.le_of_ble_eq_true rfl) hRf, Nat.le_trans (Nat.le_of_ble_eq_true rfl) hRl⟩ rfl hl.1 (Nat.le_of_ble_eq_true rfl) rfl dX6_stage_59 ⟨Nat.zero_le _, Nat.zero_le _⟩ (fun H locs hP hS => ?_)
      refine lv_goto (tgt := 95) hx hb dX6_stage_62 (by decide) ?_
      exact hJ6 v57 σ2 _ _ ls hf hP hS (lv_sub hl [1, 2, 3, 4, 5, 0] rfl)
  refine lv_icmp_ne (tgt := 12) hx hb dX6_stage_2 (by decide) (fun q58 => ?_) (fun q58 => ?_)
  · rw [if_neg q58] at hf
    refine lv_iload_n hx hb dX6_stage_12 rfl (lv_at hl 2 rfl) ?_
    refine lv_iconst (v := 3) hx hb dX6_stage_13 (by decide) ?_
    refine lv_icmp_ne (tgt := 26) hx hb dX6_stage_14 (by decide) (fun q59 => ?_) (fun q59 => ?_)
    · rw [if_neg q59] at hf
      refine lv_iload_n hx hb dX6_stage_26 rfl (lv_at hl 2 rfl) ?_
      obtain ⟨J61, eJ61, hf⟩ := jn_e1 hf
      have hJ61 : ∀ (σ60 : Mem) (H : Heap) (locs : List Loc) (ls : Array Slot), J61 σ60 = some (r, σr) → va_P D vwCl (wsG 25 ad (EM ad cI) σ60) H → va_S (AG 25 ad s.heap.size) s.heap H locs → lv_has ls 9 [(0, .ref (ad 0)), (1, .int a0), (2, .int a1), (3, .int a2), (4, .int a3)] → W p l e R s m args below meth c H locs 0 0 Q (F0 m 42 ls []) := by
        intro σ60 H locs ls hf hP hS hl
        rw [eJ61] at hf
        refine lv_iconst (v := 1) hx hb dX6_stage_42 (by decide) ?_
        refine lv_goto (tgt := 47) hx hb dX6_stage_43 (by decide) ?_
        exact hJ3 1 σ60 _ _ ls hf hP hS (lv_sub hl [0, 1, 2, 3, 4] rfl)
      obtain ⟨J63, eJ63, hf⟩ := jn_e1 hf
      have hJ63 : ∀ (σ62 : Mem) (H : Heap) (locs : List Loc) (ls : Array Slot), J63 σ62 = some (r, σr) → va_P D vwCl (wsG 25 ad (EM ad cI) σ62) H → va_S (AG 25 ad s.heap.size) s.heap H locs → lv_has ls 9 [(0, .ref (ad 0)), (1, .int a0), (2, .int a1), (3, .int a2), (4, .int a3)] → W p l e R s m args below meth c H locs 0 0 Q (F0 m 35 ls []) := by
        intro σ62 H locs ls hf hP hS hl
        rw [eJ63] at hf
        refine lv_iload_n hx hb dX6_stage_35 rfl (lv_at hl 3 rfl) ?_
        obtain ⟨v64, hv, hf⟩ := bd_e hf
        refine g_cSi0 ⟨⟨hx, hb, hml, hown, hB⟩, hK, hi, hA, hAd, hP, hS⟩ (c_X6_isRoom hv) cal_X6_isRoom kM_X6_106 ⟨Nat.le_trans (Nat.le_of_ble_eq_true rfl) hRf, Nat.le_trans (Nat.le_of_ble_eq_true rfl) hRl⟩ rfl hl.1 (Nat.le_of_ble_eq_true rfl) rfl dX6_stage_36 ⟨Nat.zero_le _, Nat.zero_le _⟩ (fun H locs hP hS => ?_)
        refine lv_if_eq (tgt := 46) hx hb dX6_stage_39 (by decide) (fun q65 => ?_) (fun q65 => ?_)
        · rw [if_pos q65] at hf
          refine lv_iconst (v := 0) hx hb dX6_stage_46 (by decide) ?_
          exact hJ3 0 σ62 _ _ ls hf hP hS (lv_sub hl [0, 1, 2, 3, 4] rfl)
        · rw [if_neg q65] at hf
          exact hJ61 σ62 _ _ ls hf hP hS (lv_sub hl [0, 1, 2, 3, 4] rfl)
      refine lv_if_eq (tgt := 35) hx hb dX6_stage_27 (by decide) (fun q66 => ?_) (fun q66 => ?_)
      · rw [if_pos q66] at hf
        exact hJ63 σ _ _ ls hf hP hS (lv_sub hl [0, 1, 2, 3, 4] rfl)
      · rw [if_neg q66] at hf
        refine lv_iload_n hx hb dX6_stage_30 rfl (lv_at hl 2 rfl) ?_
        refine lv_iconst (v := 2) hx hb dX6_stage_31 (by decide) ?_
        refine lv_icmp_ne (tgt := 42) hx hb dX6_stage_32 (by decide) (fun q67 => ?_) (fun q67 => ?_)
        · rw [if_neg q67] at hf
          exact hJ61 σ _ _ ls hf hP hS (lv_sub hl [0, 1, 2, 3, 4] rfl)
        · rw [if_pos q67] at hf
          exact hJ63 σ _ _ ls hf hP hS (lv_sub hl [0, 1, 2, 3, 4] rfl)
    · rw [if_pos q59] at hf
      refine lv_iload_n hx hb dX6_stage_17 rfl (lv_at hl 3 rfl) ?_
      refine lv_iconst (v := 0) hx hb dX6_stage_18 (by decide) ?_
      refine lv_iconst (v := 3) hx hb dX6_stage_19 (by decide) ?_
      obtain ⟨v68, hv, hf⟩ := bd_e hf
      refine g_cSi0 ⟨⟨hx, hb, hml, hown, hB⟩, hK, hi, hA, hAd, hP, hS⟩ (c_X6_isIn hv) cal_X6_isIn kM_X6_89 ⟨Nat.le_trans (Nat.le_of_ble_eq_true rfl) hRf, Nat.le_trans (Nat.le_of_ble_eq_true rfl) hRl⟩ rfl hl.1 (Nat.le_of_ble_eq_true rfl) rfl dX6_stage_20 ⟨Nat.zero_le _, Nat.zero_le _⟩ (fun H locs hP hS => ?_)
      refine lv_goto (tgt := 47) hx hb dX6_stage_23 (by decide) ?_
      exact hJ3 v68 σ _ _ ls hf hP hS (lv_sub hl [0, 1, 2, 3, 4] rfl)
  · rw [if_pos q58] at hf
    refine lv_iload_n hx hb dX6_stage_5 rfl (lv_at hl 3 rfl) ?_
    obtain ⟨v69, hv, hf⟩ := bd_e hf
    refine g_cSi0 ⟨⟨hx, hb, hml, hown, hB⟩, hK, hi, hA, hAd, hP, hS⟩ (c_X6_isKind hv) cal_X6_isKind kM_X6_116 ⟨Nat.le_trans (Nat.le_of_ble_eq_true rfl) hRf, Nat.le_trans (Nat.le_of_ble_eq_true rfl) hRl⟩ rfl hl.1 (Nat.le_of_ble_eq_true rfl) rfl dX6_stage_6 ⟨Nat.zero_le _, Nat.zero_le _⟩ (fun H locs hP hS => ?_)
    refine lv_goto (tgt := 47) hx hb dX6_stage_9 (by decide) ?_
    exact hJ3 v69 σ _ _ ls hf hP hS (lv_sub hl [0, 1, 2, 3, 4] rfl)
def f_X6_endow (σ : Mem) (a0 : Int32) : Option (Int32 × Mem) :=
bd (f_X6_isIn a0 1 1000) fun v1 =>
jn (fun (y2 : Int32) (σ3 : Mem) =>
bd2 (f_X6_can σ3 y2) fun v5 σ6 =>
if v5 = 0 then (
some (0, σ6))
else (
stp (mu σ6 0 14 ((σ6 0 14) + a0)) fun σ8 =>
bd (f_X6_keep σ8) fun σ9 =>
some ((σ9 0 14), σ9))) fun (J4 : Int32 → Mem → Option (Int32 × Mem)) =>
if v1 = 0 then (
J4 1 σ)
else (
J4 0 σ)
set_option maxHeartbeats 4000000 in
set_option maxRecDepth 100000 in
theorem c_X6_endow {l : Launch} {D : va_G} {cI cJ : ClassId} {ad : Nat → Nat} {σ : Mem} {a0 : Int32} {r : Int32} {σr : Mem}  (hi : injG 25 ad) (hf : f_X6_endow σ a0 = some (r, σr)) : MGi l yX6_endow (Cond.code yX6_endow cX6_endow 2 (some .int) :: BIG) 2 43 D cI cJ 25 ad (EM ad cI) [.ref (ad 0), .int a0] σ σr r := by
  refine MGi.ofW (cc := cX6_endow) (nL := 2) (ret := (some .int)) (by decide) rfl hi ?_
  intro p e s m args below meth c hx hb hr hml hlocks hown hB hK hP hA hAd hS
  have hown : s.vm.findClass RX6 = some m.cls := hown
  have hl := lv_entry ([.ref (ad 0), .int a0] : List Value) (n := 2) (Nat.le_of_ble_eq_true rfl)
  rw [lg_entry_eq]
  generalize (lg_sl ([.ref (ad 0), .int a0] : List Value) ++ List.replicate (2 - (lg_sl ([.ref (ad 0), .int a0] : List Value)).length) Slot.unset).toArray = ls at hl ⊢
  have hl : lv_has ls 2 [(0, .ref (ad 0)), (1, .int a0)] := hl
  generalize hQ : MQ below (Qgi D 25 ad (EM ad cI) r σr s.heap.size) _ s 0 0 (AG 25 ad s.heap.size) = Q
  have hQ := hQ.symm
  obtain ⟨R, hR, hRf, hRl⟩ : ∃ R : Room, R = ({ frames := 2, cells := 0, slots := 0, locals := 43 } : Room) ∧ 2 ≤ R.frames ∧ 43 ≤ R.locals := ⟨_, rfl, Nat.le_refl _, Nat.le_refl _⟩
  rw [← hR]
  unfold f_X6_endow at hf
  refine lv_aload_n hx hb dX6_endow_0 rfl (lv_at hl 0 rfl) ?_
  refine lv_iload_n hx hb dX6_endow_1 rfl (lv_at hl 1 rfl) ?_
  refine lv_iconst (v := 1) hx hb dX6_endow_2 (by decide) ?_
  refine lv_sipush (v := 1000) hx hb dX6_endow_3 (by decide) ?_
  obtain ⟨v1, hv, hf⟩ := bd_e hf
  refine g_cSi0 ⟨⟨hx, hb, hml, hown, hB⟩, hK, hi, hA, hAd, hP, hS⟩ (c_X6_isIn hv) cal_X6_isIn kM_X6_89 ⟨Nat.le_trans (Nat.le_of_ble_eq_true rfl) hRf, Nat.le_trans (Nat.le_of_ble_eq_true rfl) hRl⟩ rfl hl.1 (Nat.le_of_ble_eq_true rfl) rfl dX6_endow_6 ⟨Nat.zero_le _, Nat.zero_le _⟩ (fun H locs hP hS => ?_)
  obtain ⟨J4, eJ4, hf⟩ := jn_e2 hf
  have hJ4 : ∀ (y2 : Int32) (σ3 : Mem) (H : Heap) (locs : List Loc) (ls : Array Slot), J4 y2 σ3 = some (r, σr) → va_P D vwCl (wsG 25 ad (EM ad cI) σ3) H → va_S (AG 25 ad s.heap.size) s.heap H locs → lv_has ls 2 [(0, .ref (ad 0)), (1, .int a0)] → W p l e R s m args below meth c H locs 0 0 Q (F0 m 17 ls [.int y2, .ref (ad 0)]) := by
    intro y2 σ3 H locs ls hf hP hS hl
    rw [eJ4] at hf
    obtain ⟨v5, σ6, hv, hf⟩ := bd2_e hf
    refine g_cViS (k0 := 0) ⟨⟨hx, hb, hml, hown, hB⟩, hK, hi, hA, hAd, hP, hS⟩ (c_X6_can hi hv) cal_X6_can kM_X6_110 ⟨Nat.le_trans (Nat.le_of_ble_eq_true rfl) hRf, Nat.le_trans (Nat.le_of_ble_eq_true rfl) hRl⟩ (by decide) rfl rfl rfl hl.1 (Nat.le_of_ble_eq_true rfl) rfl dX6_endow_17 ⟨Nat.zero_le _, Nat.zero_le _⟩ (fun H locs hP hS => ?_)
    refine lv_if_ne (tgt := 25) hx hb dX6_endow_20 (by decide) (fun q7 => ?_) (fun q7 => ?_)
    · rw [if_neg q7] at hf
      refine lv_aload_n hx hb dX6_endow_25 rfl (lv_at hl 0 rfl) ?_
      refine lv_dup hx hb dX6_endow_26 rfl ?_
      refine g_get (v := .int (σ6 0 14)) hx hb hB hown hK hP 0 (by decide) rfl rfl kU_X6 14 (by decide) kF_X6_122 rfl rfl dX6_endow_27 ?_
      refine lv_iload_n hx hb dX6_endow_30 rfl (lv_at hl 1 rfl) ?_
      refine lv_iadd hx hb dX6_endow_31 ?_
      obtain ⟨σ8, eσ8, hf⟩ := stp_e hf
      refine g_put (σ1 := σ8) hx hb hB hown hK hP hi hAd hS 0 (by decide) (fun f => [.ref (ad 1), .ref (ad 2), .ref (ad 3), .ref (ad 4), .ref (ad 5), .int (f 5), .ref (ad 6), .ref (ad 7), .ref (ad 8), .ref (ad 9), .ref (ad 10), .ref (ad 11), .ref (ad 12), .ref (ad 13), .int (f 14), .int (f 15), .int (f 16), .ref (ad 14), .ref (ad 15), .ref (ad 16), .ref (ad 17), .ref (ad 18), .ref (ad 19), .int (f 23), .ref (ad 20), .ref (ad 21), .ref (ad 22), .ref (ad 23), .ref (ad 24), .int (f 29)]) (fun _ => rfl) rfl kU_X6 tyX6 tyX6_ok nmX6 14 (by decide) kF_X6_122 rfl (fun _ _ => rfl) (fun _ => Nat.le_of_ble_eq_true rfl) dX6_endow_32 eσ8 (fun H locs hP hS => ?_)
      refine lv_aload_n hx hb dX6_endow_35 rfl (lv_at hl 0 rfl) ?_
      obtain ⟨σ9, hv, hf⟩ := bd_e hf
      refine g_cVvS (k0 := 0) ⟨⟨hx, hb, hml, hown, hB⟩, hK, hi, hA, hAd, hP, hS⟩ (c_X6_keep hi hv) cal_X6_keep kM_X6_113 ⟨Nat.le_trans (Nat.le_of_ble_eq_true rfl) hRf, Nat.le_trans (Nat.le_of_ble_eq_true rfl) hRl⟩ (by decide) rfl rfl rfl hl.1 (Nat.le_of_ble_eq_true rfl) rfl dX6_endow_36 ⟨Nat.zero_le _, Nat.zero_le _⟩ (fun H locs hP hS => ?_)
      refine lv_aload_n hx hb dX6_endow_39 rfl (lv_at hl 0 rfl) ?_
      refine g_get (v := .int (σ9 0 14)) hx hb hB hown hK hP 0 (by decide) rfl rfl kU_X6 14 (by decide) kF_X6_122 rfl rfl dX6_endow_40 ?_
      obtain ⟨h1, h2⟩ := rt2 hf
      rw [hQ]
      exact g_iret hx hb hr hlocks hP hS h1 h2 dX6_endow_43
    · rw [if_pos q7] at hf
      refine lv_iconst (v := 0) hx hb dX6_endow_23 (by decide) ?_
      obtain ⟨h1, h2⟩ := rt2 hf
      rw [hQ]
      exact g_iret hx hb hr hlocks hP hS h1 h2 dX6_endow_24
  refine lv_if_eq (tgt := 16) hx hb dX6_endow_9 (by decide) (fun q10 => ?_) (fun q10 => ?_)
  · rw [if_pos q10] at hf
    refine lv_iconst (v := 1) hx hb dX6_endow_16 (by decide) ?_
    exact hJ4 1 σ _ _ ls hf hP hS (lv_sub hl [0, 1] rfl)
  · rw [if_neg q10] at hf
    refine lv_iconst (v := 0) hx hb dX6_endow_12 (by decide) ?_
    refine lv_goto (tgt := 17) hx hb dX6_endow_13 (by decide) ?_
    exact hJ4 0 σ _ _ ls hf hP hS (lv_sub hl [0, 1] rfl)
def f_X6_seed (σ : Mem) (a0 : Int32) : Option (Mem) :=
bd (f_X6_isIn a0 0 65535) fun v1 =>
jn (fun (y2 : Int32) (σ3 : Mem) =>
bd2 (f_X6_can σ3 y2) fun v5 σ6 =>
if v5 = 0 then (
some σ6)
else (
stp (mu σ6 0 15 a0) fun σ8 =>
bd (f_X6_keep σ8) fun σ9 =>
some σ9)) fun (J4 : Int32 → Mem → Option (Mem)) =>
if v1 = 0 then (
J4 1 σ)
else (
J4 0 σ)
set_option maxHeartbeats 4000000 in
set_option maxRecDepth 100000 in
theorem c_X6_seed {l : Launch} {D : va_G} {cI cJ : ClassId} {ad : Nat → Nat} {σ : Mem} {a0 : Int32} {σr : Mem}  (hi : injG 25 ad) (hf : f_X6_seed σ a0 = some σr) : MGv l yX6_seed (Cond.code yX6_seed cX6_seed 2 none :: BIG) 2 43 D cI cJ 25 ad (EM ad cI) [.ref (ad 0), .int a0] σ σr := by
  refine MGv.ofW (cc := cX6_seed) (nL := 2) (ret := none) (by decide) rfl hi ?_
  intro p e s m args below meth c hx hb hr hml hlocks hown hB hK hP hA hAd hS
  have hown : s.vm.findClass RX6 = some m.cls := hown
  have hl := lv_entry ([.ref (ad 0), .int a0] : List Value) (n := 2) (Nat.le_of_ble_eq_true rfl)
  rw [lg_entry_eq]
  generalize (lg_sl ([.ref (ad 0), .int a0] : List Value) ++ List.replicate (2 - (lg_sl ([.ref (ad 0), .int a0] : List Value)).length) Slot.unset).toArray = ls at hl ⊢
  have hl : lv_has ls 2 [(0, .ref (ad 0)), (1, .int a0)] := hl
  generalize hQ : MQ below (Qgv D 25 ad (EM ad cI) σr s.heap.size) _ s 0 0 (AG 25 ad s.heap.size) = Q
  have hQ := hQ.symm
  obtain ⟨R, hR, hRf, hRl⟩ : ∃ R : Room, R = ({ frames := 2, cells := 0, slots := 0, locals := 43 } : Room) ∧ 2 ≤ R.frames ∧ 43 ≤ R.locals := ⟨_, rfl, Nat.le_refl _, Nat.le_refl _⟩
  rw [← hR]
  unfold f_X6_seed at hf
  refine lv_aload_n hx hb dX6_seed_0 rfl (lv_at hl 0 rfl) ?_
  refine lv_iload_n hx hb dX6_seed_1 rfl (lv_at hl 1 rfl) ?_
  refine lv_iconst (v := 0) hx hb dX6_seed_2 (by decide) ?_
  refine lv_ldc (v := 65535) hx hb hown (hB _ kC_X6_125) dX6_seed_3 ?_
  obtain ⟨v1, hv, hf⟩ := bd_e hf
  refine g_cSi0 ⟨⟨hx, hb, hml, hown, hB⟩, hK, hi, hA, hAd, hP, hS⟩ (c_X6_isIn hv) cal_X6_isIn kM_X6_89 ⟨Nat.le_trans (Nat.le_of_ble_eq_true rfl) hRf, Nat.le_trans (Nat.le_of_ble_eq_true rfl) hRl⟩ rfl hl.1 (Nat.le_of_ble_eq_true rfl) rfl dX6_seed_5 ⟨Nat.zero_le _, Nat.zero_le _⟩ (fun H locs hP hS => ?_)
  obtain ⟨J4, eJ4, hf⟩ := jn_e2 hf
  have hJ4 : ∀ (y2 : Int32) (σ3 : Mem) (H : Heap) (locs : List Loc) (ls : Array Slot), J4 y2 σ3 = some σr → va_P D vwCl (wsG 25 ad (EM ad cI) σ3) H → va_S (AG 25 ad s.heap.size) s.heap H locs → lv_has ls 2 [(0, .ref (ad 0)), (1, .int a0)] → W p l e R s m args below meth c H locs 0 0 Q (F0 m 16 ls [.int y2, .ref (ad 0)]) := by
    intro y2 σ3 H locs ls hf hP hS hl
    rw [eJ4] at hf
    obtain ⟨v5, σ6, hv, hf⟩ := bd2_e hf
    refine g_cViS (k0 := 0) ⟨⟨hx, hb, hml, hown, hB⟩, hK, hi, hA, hAd, hP, hS⟩ (c_X6_can hi hv) cal_X6_can kM_X6_110 ⟨Nat.le_trans (Nat.le_of_ble_eq_true rfl) hRf, Nat.le_trans (Nat.le_of_ble_eq_true rfl) hRl⟩ (by decide) rfl rfl rfl hl.1 (Nat.le_of_ble_eq_true rfl) rfl dX6_seed_16 ⟨Nat.zero_le _, Nat.zero_le _⟩ (fun H locs hP hS => ?_)
    refine lv_if_eq (tgt := 31) hx hb dX6_seed_19 (by decide) (fun q7 => ?_) (fun q7 => ?_)
    · rw [if_pos q7] at hf
      have h2 := rt1 hf
      rw [hQ]
      exact g_vret hx hb hr hlocks hP hS h2 dX6_seed_31
    · rw [if_neg q7] at hf
      refine lv_aload_n hx hb dX6_seed_22 rfl (lv_at hl 0 rfl) ?_
      refine lv_iload_n hx hb dX6_seed_23 rfl (lv_at hl 1 rfl) ?_
      obtain ⟨σ8, eσ8, hf⟩ := stp_e hf
      refine g_put (σ1 := σ8) hx hb hB hown hK hP hi hAd hS 0 (by decide) (fun f => [.ref (ad 1), .ref (ad 2), .ref (ad 3), .ref (ad 4), .ref (ad 5), .int (f 5), .ref (ad 6), .ref (ad 7), .ref (ad 8), .ref (ad 9), .ref (ad 10), .ref (ad 11), .ref (ad 12), .ref (ad 13), .int (f 14), .int (f 15), .int (f 16), .ref (ad 14), .ref (ad 15), .ref (ad 16), .ref (ad 17), .ref (ad 18), .ref (ad 19), .int (f 23), .ref (ad 20), .ref (ad 21), .ref (ad 22), .ref (ad 23), .ref (ad 24), .int (f 29)]) (fun _ => rfl) rfl kU_X6 tyX6 tyX6_ok nmX6 15 (by decide) kF_X6_82 rfl (fun _ _ => rfl) (fun _ => Nat.le_of_ble_eq_true rfl) dX6_seed_24 eσ8 (fun H locs hP hS => ?_)
      refine lv_aload_n hx hb dX6_seed_27 rfl (lv_at hl 0 rfl) ?_
      obtain ⟨σ9, hv, hf⟩ := bd_e hf
      refine g_cVvS (k0 := 0) ⟨⟨hx, hb, hml, hown, hB⟩, hK, hi, hA, hAd, hP, hS⟩ (c_X6_keep hi hv) cal_X6_keep kM_X6_113 ⟨Nat.le_trans (Nat.le_of_ble_eq_true rfl) hRf, Nat.le_trans (Nat.le_of_ble_eq_true rfl) hRl⟩ (by decide) rfl rfl rfl hl.1 (Nat.le_of_ble_eq_true rfl) rfl dX6_seed_28 ⟨Nat.zero_le _, Nat.zero_le _⟩ (fun H locs hP hS => ?_)
      have h2 := rt1 hf
      rw [hQ]
      exact g_vret hx hb hr hlocks hP hS h2 dX6_seed_31
  refine lv_if_eq (tgt := 15) hx hb dX6_seed_8 (by decide) (fun q10 => ?_) (fun q10 => ?_)
  · rw [if_pos q10] at hf
    refine lv_iconst (v := 1) hx hb dX6_seed_15 (by decide) ?_
    exact hJ4 1 σ _ _ ls hf hP hS (lv_sub hl [0, 1] rfl)
  · rw [if_neg q10] at hf
    refine lv_iconst (v := 0) hx hb dX6_seed_11 (by decide) ?_
    refine lv_goto (tgt := 16) hx hb dX6_seed_12 (by decide) ?_
    exact hJ4 0 σ _ _ ls hf hP hS (lv_sub hl [0, 1] rfl)
def f_X6_isFulfilled (σ : Mem) (a0 a1 a2 a3 : Int32) : Option (Int32) :=
gd a0 12 <|
gd a0 12 <|
if (σ 16 a0.toNatClampNeg) = 1 then (
gd ((5 * a1) + (σ 17 a0.toNatClampNeg)) 20 <|
gd a0 12 <|
if (σ 11 ((5 * a1) + (σ 17 a0.toNatClampNeg)).toNatClampNeg) < (σ 18 a0.toNatClampNeg) then (
some 0)
else (
some 1))
else (
gd a0 12 <|
if (σ 16 a0.toNatClampNeg) = 3 then (
if a3 = (σ 17 a0.toNatClampNeg) then (
some 1)
else (
some 0))
else (
gd a1 4 <|
if (σ 6 a1.toNatClampNeg) = (σ 17 a0.toNatClampNeg) then (
gd a0 12 <|
jn (fun (_ : Unit) =>
some 1) fun (J4 : Unit → Option (Int32)) =>
if (σ 16 a0.toNatClampNeg) = 0 then (
J4 ())
else (
gd a0 12 <|
if a2 = (σ 18 a0.toNatClampNeg) then (
J4 ())
else (
some 0)))
else (
some 0)))
set_option maxHeartbeats 4000000 in
set_option maxRecDepth 100000 in
theorem c_X6_isFulfilled {l : Launch} {D : va_G} {cI cJ : ClassId} {ad : Nat → Nat} {σ : Mem} {a0 a1 a2 a3 : Int32} {r : Int32}  (hi : injG 25 ad) (hf : f_X6_isFulfilled σ a0 a1 a2 a3 = some r) : MGi l yX6_isFulfilled (Cond.code yX6_isFulfilled cX6_isFulfilled 6 (some .boolean) :: BIG) 0 0 D cI cJ 25 ad (EM ad cI) [.ref (ad 0), .int a0, .int a1, .int a2, .int a3] σ σ r := by
  refine MGi.ofW (cc := cX6_isFulfilled) (nL := 6) (ret := (some .boolean)) (by decide) rfl hi ?_
  intro p e s m args below meth c hx hb hr hml hlocks hown hB hK hP hA hAd hS
  have hown : s.vm.findClass RX6 = some m.cls := hown
  have hl := lv_entry ([.ref (ad 0), .int a0, .int a1, .int a2, .int a3] : List Value) (n := 6) (Nat.le_of_ble_eq_true rfl)
  rw [lg_entry_eq]
  generalize (lg_sl ([.ref (ad 0), .int a0, .int a1, .int a2, .int a3] : List Value) ++ List.replicate (6 - (lg_sl ([.ref (ad 0), .int a0, .int a1, .int a2, .int a3] : List Value)).length) Slot.unset).toArray = ls at hl ⊢
  have hl : lv_has ls 6 [(0, .ref (ad 0)), (1, .int a0), (2, .int a1), (3, .int a2), (4, .int a3)] := hl
  generalize hQ : MQ below (Qgi D 25 ad (EM ad cI) r σ s.heap.size) _ s 0 0 (AG 25 ad s.heap.size) = Q
  have hQ := hQ.symm
  obtain ⟨R, hR, hRf, hRl⟩ : ∃ R : Room, R = ({ frames := 0, cells := 0, slots := 0, locals := 0 } : Room) ∧ 0 ≤ R.frames ∧ 0 ≤ R.locals := ⟨_, rfl, Nat.le_refl _, Nat.le_refl _⟩
  rw [← hR]
  unfold f_X6_isFulfilled at hf
  refine lv_aload_n hx hb dX6_isFulfilled_0 rfl (lv_at hl 0 rfl) ?_
  refine g_get (v := .ref (ad 17)) hx hb hB hown hK hP 0 (by decide) rfl rfl kU_X6 20 (by decide) kF_X6_58 rfl rfl dX6_isFulfilled_1 ?_
  refine lv_iload_n hx hb dX6_isFulfilled_4 rfl (lv_at hl 1 rfl) ?_
  obtain ⟨hin, hf⟩ := gd_e hf
  refine g_iald hx hb hK hP 17 12 (by decide) rfl hin dX6_isFulfilled_5 ?_
  refine lv_istore (lv' := [(5, .int (σ 17 a0.toNatClampNeg)), (0, .ref (ad 0)), (1, .int a0), (2, .int a1), (3, .int a2), (4, .int a3)]) hx hb dX6_isFulfilled_6 hl (by decide) rfl (fun ls hl => ?_)
  refine lv_aload_n hx hb dX6_isFulfilled_8 rfl (lv_at hl 1 rfl) ?_
  refine g_get (v := .ref (ad 16)) hx hb hB hown hK hP 0 (by decide) rfl rfl kU_X6 19 (by decide) kF_X6_55 rfl rfl dX6_isFulfilled_9 ?_
  refine lv_iload_n hx hb dX6_isFulfilled_12 rfl (lv_at hl 2 rfl) ?_
  obtain ⟨hin, hf⟩ := gd_e hf
  refine g_iald hx hb hK hP 16 12 (by decide) rfl hin dX6_isFulfilled_13 ?_
  refine lv_iconst (v := 1) hx hb dX6_isFulfilled_14 (by decide) ?_
  refine lv_icmp_ne (tgt := 44) hx hb dX6_isFulfilled_15 (by decide) (fun q1 => ?_) (fun q1 => ?_)
  · rw [if_neg q1] at hf
    refine lv_aload_n hx hb dX6_isFulfilled_44 rfl (lv_at hl 1 rfl) ?_
    refine g_get (v := .ref (ad 16)) hx hb hB hown hK hP 0 (by decide) rfl rfl kU_X6 19 (by decide) kF_X6_55 rfl rfl dX6_isFulfilled_45 ?_
    refine lv_iload_n hx hb dX6_isFulfilled_48 rfl (lv_at hl 2 rfl) ?_
    obtain ⟨hin, hf⟩ := gd_e hf
    refine g_iald hx hb hK hP 16 12 (by decide) rfl hin dX6_isFulfilled_49 ?_
    refine lv_iconst (v := 3) hx hb dX6_isFulfilled_50 (by decide) ?_
    refine lv_icmp_ne (tgt := 67) hx hb dX6_isFulfilled_51 (by decide) (fun q2 => ?_) (fun q2 => ?_)
    · rw [if_neg q2] at hf
      refine lv_aload_n hx hb dX6_isFulfilled_67 rfl (lv_at hl 1 rfl) ?_
      refine g_get (v := .ref (ad 6)) hx hb hB hown hK hP 0 (by decide) rfl rfl kU_X6 6 (by decide) kF_X6_25 rfl rfl dX6_isFulfilled_68 ?_
      refine lv_iload_n hx hb dX6_isFulfilled_71 rfl (lv_at hl 3 rfl) ?_
      obtain ⟨hin, hf⟩ := gd_e hf
      refine g_iald hx hb hK hP 6 4 (by decide) rfl hin dX6_isFulfilled_72 ?_
      refine lv_iload hx hb dX6_isFulfilled_73 (lv_at hl 0 rfl) ?_
      refine lv_icmp_ne (tgt := 101) hx hb dX6_isFulfilled_75 (by decide) (fun q3 => ?_) (fun q3 => ?_)
      · rw [if_neg q3] at hf
        refine lv_iconst (v := 0) hx hb dX6_isFulfilled_101 (by decide) ?_
        have h1 := rt1 hf
        rw [hQ]
        exact g_zret hx hb hr hlocks hP hS (Or.inl rfl) h1 rfl dX6_isFulfilled_102
      · rw [if_pos q3] at hf
        refine lv_aload_n hx hb dX6_isFulfilled_78 rfl (lv_at hl 1 rfl) ?_
        refine g_get (v := .ref (ad 16)) hx hb hB hown hK hP 0 (by decide) rfl rfl kU_X6 19 (by decide) kF_X6_55 rfl rfl dX6_isFulfilled_79 ?_
        refine lv_iload_n hx hb dX6_isFulfilled_82 rfl (lv_at hl 2 rfl) ?_
        obtain ⟨hin, hf⟩ := gd_e hf
        refine g_iald hx hb hK hP 16 12 (by decide) rfl hin dX6_isFulfilled_83 ?_
        obtain ⟨J4, eJ4, hf⟩ := jn_e0 hf
        have hJ4 : ∀ (_ : Unit) (H : Heap) (locs : List Loc) (ls : Array Slot), J4 () = some r → va_P D vwCl (wsG 25 ad (EM ad cI) σ) H → va_S (AG 25 ad s.heap.size) s.heap H locs → lv_has ls 6 [] → W p l e R s m args below meth c H locs 0 0 Q (F0 m 97 ls []) := by
          intro _ H locs ls hf hP hS hl
          rw [eJ4] at hf
          refine lv_iconst (v := 1) hx hb dX6_isFulfilled_97 (by decide) ?_
          refine lv_goto (tgt := 102) hx hb dX6_isFulfilled_98 (by decide) ?_
          have h1 := rt1 hf
          rw [hQ]
          exact g_zret hx hb hr hlocks hP hS (Or.inr rfl) h1 rfl dX6_isFulfilled_102
        refine lv_if_eq (tgt := 97) hx hb dX6_isFulfilled_84 (by decide) (fun q5 => ?_) (fun q5 => ?_)
        · rw [if_pos q5] at hf
          exact hJ4 () _ _ ls hf hP hS (lv_sub hl [] rfl)
        · rw [if_neg q5] at hf
          refine lv_iload_n hx hb dX6_isFulfilled_87 rfl (lv_at hl 4 rfl) ?_
          refine lv_aload_n hx hb dX6_isFulfilled_88 rfl (lv_at hl 1 rfl) ?_
          refine g_get (v := .ref (ad 18)) hx hb hB hown hK hP 0 (by decide) rfl rfl kU_X6 21 (by decide) kF_X6_61 rfl rfl dX6_isFulfilled_89 ?_
          refine lv_iload_n hx hb dX6_isFulfilled_92 rfl (lv_at hl 2 rfl) ?_
          obtain ⟨hin, hf⟩ := gd_e hf
          refine g_iald hx hb hK hP 18 12 (by decide) rfl hin dX6_isFulfilled_93 ?_
          refine lv_icmp_ne (tgt := 101) hx hb dX6_isFulfilled_94 (by decide) (fun q6 => ?_) (fun q6 => ?_)
          · rw [if_neg q6] at hf
            refine lv_iconst (v := 0) hx hb dX6_isFulfilled_101 (by decide) ?_
            have h1 := rt1 hf
            rw [hQ]
            exact g_zret hx hb hr hlocks hP hS (Or.inl rfl) h1 rfl dX6_isFulfilled_102
          · rw [if_pos q6] at hf
            exact hJ4 () _ _ ls hf hP hS (lv_sub hl [] rfl)
    · rw [if_pos q2] at hf
      refine lv_iload hx hb dX6_isFulfilled_54 (lv_at hl 5 rfl) ?_
      refine lv_iload hx hb dX6_isFulfilled_56 (lv_at hl 0 rfl) ?_
      refine lv_icmp_ne (tgt := 65) hx hb dX6_isFulfilled_58 (by decide) (fun q7 => ?_) (fun q7 => ?_)
      · rw [if_neg q7] at hf
        refine lv_iconst (v := 0) hx hb dX6_isFulfilled_65 (by decide) ?_
        have h1 := rt1 hf
        rw [hQ]
        exact g_zret hx hb hr hlocks hP hS (Or.inl rfl) h1 rfl dX6_isFulfilled_66
      · rw [if_pos q7] at hf
        refine lv_iconst (v := 1) hx hb dX6_isFulfilled_61 (by decide) ?_
        refine lv_goto (tgt := 66) hx hb dX6_isFulfilled_62 (by decide) ?_
        have h1 := rt1 hf
        rw [hQ]
        exact g_zret hx hb hr hlocks hP hS (Or.inr rfl) h1 rfl dX6_isFulfilled_66
  · rw [if_pos q1] at hf
    refine lv_aload_n hx hb dX6_isFulfilled_18 rfl (lv_at hl 1 rfl) ?_
    refine g_get (v := .ref (ad 11)) hx hb hB hown hK hP 0 (by decide) rfl rfl kU_X6 11 (by decide) kF_X6_40 rfl rfl dX6_isFulfilled_19 ?_
    refine lv_iconst (v := 5) hx hb dX6_isFulfilled_22 (by decide) ?_
    refine lv_iload_n hx hb dX6_isFulfilled_23 rfl (lv_at hl 3 rfl) ?_
    refine lv_imul hx hb dX6_isFulfilled_24 ?_
    refine lv_iload hx hb dX6_isFulfilled_25 (lv_at hl 0 rfl) ?_
    refine lv_iadd hx hb dX6_isFulfilled_27 ?_
    obtain ⟨hin, hf⟩ := gd_e hf
    refine g_iald hx hb hK hP 11 20 (by decide) rfl hin dX6_isFulfilled_28 ?_
    refine lv_aload_n hx hb dX6_isFulfilled_29 rfl (lv_at hl 1 rfl) ?_
    refine g_get (v := .ref (ad 18)) hx hb hB hown hK hP 0 (by decide) rfl rfl kU_X6 21 (by decide) kF_X6_61 rfl rfl dX6_isFulfilled_30 ?_
    refine lv_iload_n hx hb dX6_isFulfilled_33 rfl (lv_at hl 2 rfl) ?_
    obtain ⟨hin, hf⟩ := gd_e hf
    refine g_iald hx hb hK hP 18 12 (by decide) rfl hin dX6_isFulfilled_34 ?_
    refine lv_icmp_lt (tgt := 42) hx hb dX6_isFulfilled_35 (by decide) (fun q8 => ?_) (fun q8 => ?_)
    · rw [if_pos q8] at hf
      refine lv_iconst (v := 0) hx hb dX6_isFulfilled_42 (by decide) ?_
      have h1 := rt1 hf
      rw [hQ]
      exact g_zret hx hb hr hlocks hP hS (Or.inl rfl) h1 rfl dX6_isFulfilled_43
    · rw [if_neg q8] at hf
      refine lv_iconst (v := 1) hx hb dX6_isFulfilled_38 (by decide) ?_
      refine lv_goto (tgt := 43) hx hb dX6_isFulfilled_39 (by decide) ?_
      have h1 := rt1 hf
      rw [hQ]
      exact g_zret hx hb hr hlocks hP hS (Or.inr rfl) h1 rfl dX6_isFulfilled_43
def L_X6_ends_13 : Nat → (Mem → Option (Mem)) → Int32 → Int32 → Int32 → Int32 → Mem → Option (Mem)
  | 0, _, _, _, _, _, _ => none
  | n + 1, k, x2, x3, x4, x5, σ6 =>
    if (σ6 0 16) ≤ x5 then (
    k σ6)
    else (
    gd ((3 * x2) + x5) 12 <|
    gd x5 3 <|
    jn (fun (σ11 : Mem) =>
    L_X6_ends_13 n k x2 x3 x4 (x5 + 1) σ11) fun (J12 : Mem → Option (Mem)) =>
    if (σ6 15 x5.toNatClampNeg) ≤ (σ6 19 ((3 * x2) + x5).toNatClampNeg) then (
    J12 σ6)
    else (
    gd ((3 * x2) + x5) 12 <|
    bd (f_X6_isFulfilled σ6 ((4 * x5) + (σ6 19 ((3 * x2) + x5).toNatClampNeg)) x2 x3 x4) fun v14 =>
    if v14 = 0 then (
    J12 σ6)
    else (
    gd ((3 * x2) + x5) 12 <|
    gd ((3 * x2) + x5) 12 <| stp (mu σ6 19 ((3 * x2) + x5).toNatClampNeg ((σ6 19 ((3 * x2) + x5).toNatClampNeg) + 1)) fun σ16 =>
    gd ((3 * x2) + x5) 12 <|
    gd x5 3 <|
    jn (fun (y17 : Int32) (σ18 : Mem) =>
    gd x2 4 <|
    gd x2 4 <| stp (mu σ18 7 x2.toNatClampNeg ((σ18 7 x2.toNatClampNeg) + y17)) fun σ20 =>
    stp (mu σ20 0 14 ((σ20 0 14) - y17)) fun σ21 =>
    L_X6_ends_13 n k x2 x3 x4 (x5 + 1) σ21) fun (J19 : Int32 → Mem → Option (Mem)) =>
    if (σ16 15 x5.toNatClampNeg) ≤ (σ16 19 ((3 * x2) + x5).toNatClampNeg) then (
    gd x5 3 <|
    if (σ16 0 14) ≤ (σ16 14 x5.toNatClampNeg) then (
    J19 (σ16 0 14) σ16)
    else (
    gd x5 3 <|
    J19 (σ16 14 x5.toNatClampNeg) σ16))
    else (
    J19 0 σ16))))
def f_X6_ends (σ : Mem) (a0 a1 a2 a3 : Int32) : Option (Mem) :=
gd a0 4 <|
gd a0 4 <| stp (mu σ 10 a0.toNatClampNeg ((σ 10 a0.toNatClampNeg) + a1)) fun σ1 =>
L_X6_ends_13 FU (fun (σ8 : Mem) =>
bd (f_X6_keep σ8) fun σ9 =>
some σ9) a0 a2 a3 0 σ1
set_option maxHeartbeats 4000000 in
set_option maxRecDepth 100000 in
theorem c_X6_ends {l : Launch} {D : va_G} {cI cJ : ClassId} {ad : Nat → Nat} {σ : Mem} {a0 a1 a2 a3 : Int32} {σr : Mem}  (hi : injG 25 ad) (hf : f_X6_ends σ a0 a1 a2 a3 = some σr) : MGv l yX6_ends (Cond.code yX6_ends cX6_ends 8 none :: BIG) 2 43 D cI cJ 25 ad (EM ad cI) [.ref (ad 0), .int a0, .int a1, .int a2, .int a3] σ σr := by
  refine MGv.ofW (cc := cX6_ends) (nL := 8) (ret := none) (by decide) rfl hi ?_
  intro p e s m args below meth c hx hb hr hml hlocks hown hB hK hP hA hAd hS
  have hown : s.vm.findClass RX6 = some m.cls := hown
  have hl := lv_entry ([.ref (ad 0), .int a0, .int a1, .int a2, .int a3] : List Value) (n := 8) (Nat.le_of_ble_eq_true rfl)
  rw [lg_entry_eq]
  generalize (lg_sl ([.ref (ad 0), .int a0, .int a1, .int a2, .int a3] : List Value) ++ List.replicate (8 - (lg_sl ([.ref (ad 0), .int a0, .int a1, .int a2, .int a3] : List Value)).length) Slot.unset).toArray = ls at hl ⊢
  have hl : lv_has ls 8 [(0, .ref (ad 0)), (1, .int a0), (2, .int a1), (3, .int a2), (4, .int a3)] := hl
  generalize hQ : MQ below (Qgv D 25 ad (EM ad cI) σr s.heap.size) _ s 0 0 (AG 25 ad s.heap.size) = Q
  have hQ := hQ.symm
  obtain ⟨R, hR, hRf, hRl⟩ : ∃ R : Room, R = ({ frames := 2, cells := 0, slots := 0, locals := 43 } : Room) ∧ 2 ≤ R.frames ∧ 43 ≤ R.locals := ⟨_, rfl, Nat.le_refl _, Nat.le_refl _⟩
  rw [← hR]
  unfold f_X6_ends at hf
  refine lv_aload_n hx hb dX6_ends_0 rfl (lv_at hl 0 rfl) ?_
  refine g_get (v := .ref (ad 10)) hx hb hB hown hK hP 0 (by decide) rfl rfl kU_X6 10 (by decide) kF_X6_37 rfl rfl dX6_ends_1 ?_
  refine lv_iload_n hx hb dX6_ends_4 rfl (lv_at hl 1 rfl) ?_
  refine lv_dup2_11 hx hb dX6_ends_5 rfl rfl ?_
  obtain ⟨hin, hf⟩ := gd_e hf
  refine g_iald hx hb hK hP 10 4 (by decide) rfl hin dX6_ends_6 ?_
  refine lv_iload_n hx hb dX6_ends_7 rfl (lv_at hl 2 rfl) ?_
  refine lv_iadd hx hb dX6_ends_8 ?_
  obtain ⟨hin, hf⟩ := gd_e hf
  obtain ⟨σ1, eσ1, hf⟩ := stp_e hf
  refine g_iast (σ1 := σ1) hx hb hK hP hi hAd hS 10 4 (by decide) (fun _ => rfl) hin dX6_ends_9 eσ1 (fun H locs hP hS => ?_)
  refine lv_iconst (v := 0) hx hb dX6_ends_10 (by decide) ?_
  refine lv_istore (lv' := [(5, .int 0), (0, .ref (ad 0)), (1, .int a0), (2, .int a1), (3, .int a2), (4, .int a3)]) hx hb dX6_ends_11 hl (by decide) rfl (fun ls hl => ?_)
  obtain ⟨K7, eK7, hf⟩ := lp_e1 (b := fun K => L_X6_ends_13 FU K a0 a2 a3 0 σ1) hf
  replace hf : L_X6_ends_13 FU K7 a0 a2 a3 0 σ1 = some σr := hf
  have hKK7 : ∀ (σ8 : Mem) (H : Heap) (locs : List Loc) (ls : Array Slot), K7 σ8 = some σr → va_P D vwCl (wsG 25 ad (EM ad cI) σ8) H → va_S (AG 25 ad s.heap.size) s.heap H locs → lv_has ls 8 [(0, .ref (ad 0))] → W p l e R s m args below meth c H locs 0 0 Q (F0 m 160 ls []) := by
    intro σ8 H locs ls hf hP hS hl
    rw [eK7] at hf
    refine lv_aload_n hx hb dX6_ends_160 rfl (lv_at hl 0 rfl) ?_
    obtain ⟨σ9, hv, hf⟩ := bd_e hf
    refine g_cVvS (k0 := 0) ⟨⟨hx, hb, hml, hown, hB⟩, hK, hi, hA, hAd, hP, hS⟩ (c_X6_keep hi hv) cal_X6_keep kM_X6_113 ⟨Nat.le_trans (Nat.le_of_ble_eq_true rfl) hRf, Nat.le_trans (Nat.le_of_ble_eq_true rfl) hRl⟩ (by decide) rfl rfl rfl hl.1 (Nat.le_of_ble_eq_true rfl) rfl dX6_ends_161 ⟨Nat.zero_le _, Nat.zero_le _⟩ (fun H locs hP hS => ?_)
    have h2 := rt1 hf
    rw [hQ]
    exact g_vret hx hb hr hlocks hP hS h2 dX6_ends_164
  have hL_X6_ends_13 : ∀ (n : Nat) (x5 : Int32) (σ6 : Mem) (H : Heap) (locs : List Loc) (ls : Array Slot), L_X6_ends_13 n K7 a0 a2 a3 x5 σ6 = some σr → va_P D vwCl (wsG 25 ad (EM ad cI) σ6) H → va_S (AG 25 ad s.heap.size) s.heap H locs → lv_has ls 8 [(0, .ref (ad 0)), (1, .int a0), (3, .int a2), (4, .int a3), (5, .int x5)] → W p l e R s m args below meth c H locs 0 0 Q (F0 m 13 ls []) := by
    intro n
    induction n with
    | zero => intro x5 σ6 H locs ls hf; cases hf
    | succ n ih =>
      intro x5 σ6 H locs ls hf hP hS hl
      rw [L_X6_ends_13] at hf
      refine lv_iload hx hb dX6_ends_13 (lv_at hl 4 rfl) ?_
      refine lv_aload_n hx hb dX6_ends_15 rfl (lv_at hl 0 rfl) ?_
      refine g_get (v := .int (σ6 0 16)) hx hb hB hown hK hP 0 (by decide) rfl rfl kU_X6 16 (by decide) kF_X6_96 rfl rfl dX6_ends_16 ?_
      refine lv_icmp_ge (tgt := 160) hx hb dX6_ends_19 (by decide) (fun q10 => ?_) (fun q10 => ?_)
      · rw [if_pos q10] at hf
        exact hKK7 σ6 _ _ ls hf hP hS (lv_sub hl [0] rfl)
      · rw [if_neg q10] at hf
        refine lv_iconst (v := 3) hx hb dX6_ends_22 (by decide) ?_
        refine lv_iload_n hx hb dX6_ends_23 rfl (lv_at hl 1 rfl) ?_
        refine lv_imul hx hb dX6_ends_24 ?_
        refine lv_iload hx hb dX6_ends_25 (lv_at hl 4 rfl) ?_
        refine lv_iadd hx hb dX6_ends_27 ?_
        refine lv_istore (lv' := [(6, .int ((3 * a0) + x5)), (0, .ref (ad 0)), (1, .int a0), (3, .int a2), (4, .int a3), (5, .int x5)]) hx hb dX6_ends_28 hl (by decide) rfl (fun ls hl => ?_)
        refine lv_aload_n hx hb dX6_ends_30 rfl (lv_at hl 1 rfl) ?_
        refine g_get (v := .ref (ad 19)) hx hb hB hown hK hP 0 (by decide) rfl rfl kU_X6 22 (by decide) kF_X6_64 rfl rfl dX6_ends_31 ?_
        refine lv_iload hx hb dX6_ends_34 (lv_at hl 0 rfl) ?_
        obtain ⟨hin, hf⟩ := gd_e hf
        refine g_iald hx hb hK hP 19 12 (by decide) rfl hin dX6_ends_36 ?_
        refine lv_aload_n hx hb dX6_ends_37 rfl (lv_at hl 1 rfl) ?_
        refine g_get (v := .ref (ad 15)) hx hb hB hown hK hP 0 (by decide) rfl rfl kU_X6 18 (by decide) kF_X6_52 rfl rfl dX6_ends_38 ?_
        refine lv_iload hx hb dX6_ends_41 (lv_at hl 5 rfl) ?_
        obtain ⟨hin, hf⟩ := gd_e hf
        refine g_iald hx hb hK hP 15 3 (by decide) rfl hin dX6_ends_43 ?_
        obtain ⟨J12, eJ12, hf⟩ := jn_e1 hf
        have hJ12 : ∀ (σ11 : Mem) (H : Heap) (locs : List Loc) (ls : Array Slot), J12 σ11 = some σr → va_P D vwCl (wsG 25 ad (EM ad cI) σ11) H → va_S (AG 25 ad s.heap.size) s.heap H locs → lv_has ls 8 [(0, .ref (ad 0)), (1, .int a0), (3, .int a2), (4, .int a3), (5, .int x5)] → W p l e R s m args below meth c H locs 0 0 Q (F0 m 154 ls []) := by
          intro σ11 H locs ls hf hP hS hl
          rw [eJ12] at hf
          refine lv_iinc (v := (x5 + 1)) (lv' := [(5, .int (x5 + 1)), (0, .ref (ad 0)), (1, .int a0), (3, .int a2), (4, .int a3)]) hx hb dX6_ends_154 hl (k := 4) rfl rfl (by decide) rfl (fun ls hl => ?_)
          refine lv_goto (tgt := 13) hx hb dX6_ends_157 (by decide) ?_
          exact ih (x5 + 1) σ11 _ _ ls hf hP hS (lv_sub hl [1, 2, 3, 4, 0] rfl)
        refine lv_icmp_ge (tgt := 154) hx hb dX6_ends_44 (by decide) (fun q13 => ?_) (fun q13 => ?_)
        · rw [if_pos q13] at hf
          exact hJ12 σ6 _ _ ls hf hP hS (lv_sub hl [1, 2, 3, 4, 5] rfl)
        · rw [if_neg q13] at hf
          refine lv_aload_n hx hb dX6_ends_47 rfl (lv_at hl 1 rfl) ?_
          refine lv_iconst (v := 4) hx hb dX6_ends_48 (by decide) ?_
          refine lv_iload hx hb dX6_ends_49 (lv_at hl 5 rfl) ?_
          refine lv_imul hx hb dX6_ends_51 ?_
          refine lv_aload_n hx hb dX6_ends_52 rfl (lv_at hl 1 rfl) ?_
          refine g_get (v := .ref (ad 19)) hx hb hB hown hK hP 0 (by decide) rfl rfl kU_X6 22 (by decide) kF_X6_64 rfl rfl dX6_ends_53 ?_
          refine lv_iload hx hb dX6_ends_56 (lv_at hl 0 rfl) ?_
          obtain ⟨hin, hf⟩ := gd_e hf
          refine g_iald hx hb hK hP 19 12 (by decide) rfl hin dX6_ends_58 ?_
          refine lv_iadd hx hb dX6_ends_59 ?_
          refine lv_iload_n hx hb dX6_ends_60 rfl (lv_at hl 2 rfl) ?_
          refine lv_iload_n hx hb dX6_ends_61 rfl (lv_at hl 3 rfl) ?_
          refine lv_iload hx hb dX6_ends_62 (lv_at hl 4 rfl) ?_
          obtain ⟨v14, hv, hf⟩ := bd_e hf
          refine g_cViS (k0 := 0) ⟨⟨hx, hb, hml, hown, hB⟩, hK, hi, hA, hAd, hP, hS⟩ (c_X6_isFulfilled hi hv) cal_X6_isFulfilled kM_X6_126 ⟨Nat.le_trans (Nat.le_of_ble_eq_true rfl) hRf, Nat.le_trans (Nat.le_of_ble_eq_true rfl) hRl⟩ (by decide) rfl rfl rfl hl.1 (Nat.le_of_ble_eq_true rfl) rfl dX6_ends_64 ⟨Nat.zero_le _, Nat.zero_le _⟩ (fun H locs hP hS => ?_)
          refine lv_if_eq (tgt := 154) hx hb dX6_ends_67 (by decide) (fun q15 => ?_) (fun q15 => ?_)
          · rw [if_pos q15] at hf
            exact hJ12 σ6 _ _ ls hf hP hS (lv_sub hl [1, 2, 3, 4, 5] rfl)
          · rw [if_neg q15] at hf
            refine lv_aload_n hx hb dX6_ends_70 rfl (lv_at hl 1 rfl) ?_
            refine g_get (v := .ref (ad 19)) hx hb hB hown hK hP 0 (by decide) rfl rfl kU_X6 22 (by decide) kF_X6_64 rfl rfl dX6_ends_71 ?_
            refine lv_iload hx hb dX6_ends_74 (lv_at hl 0 rfl) ?_
            refine lv_dup2_11 hx hb dX6_ends_76 rfl rfl ?_
            obtain ⟨hin, hf⟩ := gd_e hf
            refine g_iald hx hb hK hP 19 12 (by decide) rfl hin dX6_ends_77 ?_
            refine lv_iconst (v := 1) hx hb dX6_ends_78 (by decide) ?_
            refine lv_iadd hx hb dX6_ends_79 ?_
            obtain ⟨hin, hf⟩ := gd_e hf
            obtain ⟨σ16, eσ16, hf⟩ := stp_e hf
            refine g_iast (σ1 := σ16) hx hb hK hP hi hAd hS 19 12 (by decide) (fun _ => rfl) hin dX6_ends_80 eσ16 (fun H locs hP hS => ?_)
            refine lv_aload_n hx hb dX6_ends_81 rfl (lv_at hl 1 rfl) ?_
            refine g_get (v := .ref (ad 19)) hx hb hB hown hK hP 0 (by decide) rfl rfl kU_X6 22 (by decide) kF_X6_64 rfl rfl dX6_ends_82 ?_
            refine lv_iload hx hb dX6_ends_85 (lv_at hl 0 rfl) ?_
            obtain ⟨hin, hf⟩ := gd_e hf
            refine g_iald hx hb hK hP 19 12 (by decide) rfl hin dX6_ends_87 ?_
            refine lv_aload_n hx hb dX6_ends_88 rfl (lv_at hl 1 rfl) ?_
            refine g_get (v := .ref (ad 15)) hx hb hB hown hK hP 0 (by decide) rfl rfl kU_X6 18 (by decide) kF_X6_52 rfl rfl dX6_ends_89 ?_
            refine lv_iload hx hb dX6_ends_92 (lv_at hl 5 rfl) ?_
            obtain ⟨hin, hf⟩ := gd_e hf
            refine g_iald hx hb hK hP 15 3 (by decide) rfl hin dX6_ends_94 ?_
            obtain ⟨J19, eJ19, hf⟩ := jn_e2 hf
            have hJ19 : ∀ (y17 : Int32) (σ18 : Mem) (H : Heap) (locs : List Loc) (ls : Array Slot), J19 y17 σ18 = some σr → va_P D vwCl (wsG 25 ad (EM ad cI) σ18) H → va_S (AG 25 ad s.heap.size) s.heap H locs → lv_has ls 8 [(0, .ref (ad 0)), (1, .int a0), (3, .int a2), (4, .int a3), (5, .int x5)] → W p l e R s m args below meth c H locs 0 0 Q (F0 m 130 ls [.int y17]) := by
              intro y17 σ18 H locs ls hf hP hS hl
              rw [eJ19] at hf
              refine lv_istore (lv' := [(7, .int y17), (0, .ref (ad 0)), (1, .int a0), (3, .int a2), (4, .int a3), (5, .int x5)]) hx hb dX6_ends_130 hl (by decide) rfl (fun ls hl => ?_)
              refine lv_aload_n hx hb dX6_ends_132 rfl (lv_at hl 1 rfl) ?_
              refine g_get (v := .ref (ad 7)) hx hb hB hown hK hP 0 (by decide) rfl rfl kU_X6 7 (by decide) kF_X6_28 rfl rfl dX6_ends_133 ?_
              refine lv_iload_n hx hb dX6_ends_136 rfl (lv_at hl 2 rfl) ?_
              refine lv_dup2_11 hx hb dX6_ends_137 rfl rfl ?_
              obtain ⟨hin, hf⟩ := gd_e hf
              refine g_iald hx hb hK hP 7 4 (by decide) rfl hin dX6_ends_138 ?_
              refine lv_iload hx hb dX6_ends_139 (lv_at hl 0 rfl) ?_
              refine lv_iadd hx hb dX6_ends_141 ?_
              obtain ⟨hin, hf⟩ := gd_e hf
              obtain ⟨σ20, eσ20, hf⟩ := stp_e hf
              refine g_iast (σ1 := σ20) hx hb hK hP hi hAd hS 7 4 (by decide) (fun _ => rfl) hin dX6_ends_142 eσ20 (fun H locs hP hS => ?_)
              refine lv_aload_n hx hb dX6_ends_143 rfl (lv_at hl 1 rfl) ?_
              refine lv_dup hx hb dX6_ends_144 rfl ?_
              refine g_get (v := .int (σ20 0 14)) hx hb hB hown hK hP 0 (by decide) rfl rfl kU_X6 14 (by decide) kF_X6_122 rfl rfl dX6_ends_145 ?_
              refine lv_iload hx hb dX6_ends_148 (lv_at hl 0 rfl) ?_
              refine lv_isub hx hb dX6_ends_150 ?_
              obtain ⟨σ21, eσ21, hf⟩ := stp_e hf
              refine g_put (σ1 := σ21) hx hb hB hown hK hP hi hAd hS 0 (by decide) (fun f => [.ref (ad 1), .ref (ad 2), .ref (ad 3), .ref (ad 4), .ref (ad 5), .int (f 5), .ref (ad 6), .ref (ad 7), .ref (ad 8), .ref (ad 9), .ref (ad 10), .ref (ad 11), .ref (ad 12), .ref (ad 13), .int (f 14), .int (f 15), .int (f 16), .ref (ad 14), .ref (ad 15), .ref (ad 16), .ref (ad 17), .ref (ad 18), .ref (ad 19), .int (f 23), .ref (ad 20), .ref (ad 21), .ref (ad 22), .ref (ad 23), .ref (ad 24), .int (f 29)]) (fun _ => rfl) rfl kU_X6 tyX6 tyX6_ok nmX6 14 (by decide) kF_X6_122 rfl (fun _ _ => rfl) (fun _ => Nat.le_of_ble_eq_true rfl) dX6_ends_151 eσ21 (fun H locs hP hS => ?_)
              refine lv_iinc (v := (x5 + 1)) (lv' := [(5, .int (x5 + 1)), (7, .int y17), (0, .ref (ad 0)), (1, .int a0), (3, .int a2), (4, .int a3)]) hx hb dX6_ends_154 hl (k := 5) rfl rfl (by decide) rfl (fun ls hl => ?_)
              refine lv_goto (tgt := 13) hx hb dX6_ends_157 (by decide) ?_
              exact ih (x5 + 1) σ21 _ _ ls hf hP hS (lv_sub hl [2, 3, 4, 5, 0] rfl)
            refine lv_icmp_ge (tgt := 102) hx hb dX6_ends_95 (by decide) (fun q22 => ?_) (fun q22 => ?_)
            · rw [if_pos q22] at hf
              refine lv_aload_n hx hb dX6_ends_102 rfl (lv_at hl 1 rfl) ?_
              refine g_get (v := .ref (ad 14)) hx hb hB hown hK hP 0 (by decide) rfl rfl kU_X6 17 (by decide) kF_X6_49 rfl rfl dX6_ends_103 ?_
              refine lv_iload hx hb dX6_ends_106 (lv_at hl 5 rfl) ?_
              obtain ⟨hin, hf⟩ := gd_e hf
              refine g_iald hx hb hK hP 14 3 (by decide) rfl hin dX6_ends_108 ?_
              refine lv_aload_n hx hb dX6_ends_109 rfl (lv_at hl 1 rfl) ?_
              refine g_get (v := .int (σ16 0 14)) hx hb hB hown hK hP 0 (by decide) rfl rfl kU_X6 14 (by decide) kF_X6_122 rfl rfl dX6_ends_110 ?_
              refine lv_icmp_ge (tgt := 126) hx hb dX6_ends_113 (by decide) (fun q23 => ?_) (fun q23 => ?_)
              · rw [if_pos q23] at hf
                refine lv_aload_n hx hb dX6_ends_126 rfl (lv_at hl 1 rfl) ?_
                refine g_get (v := .int (σ16 0 14)) hx hb hB hown hK hP 0 (by decide) rfl rfl kU_X6 14 (by decide) kF_X6_122 rfl rfl dX6_ends_127 ?_
                exact hJ19 (σ16 0 14) σ16 _ _ ls hf hP hS (lv_sub hl [1, 2, 3, 4, 5] rfl)
              · rw [if_neg q23] at hf
                refine lv_aload_n hx hb dX6_ends_116 rfl (lv_at hl 1 rfl) ?_
                refine g_get (v := .ref (ad 14)) hx hb hB hown hK hP 0 (by decide) rfl rfl kU_X6 17 (by decide) kF_X6_49 rfl rfl dX6_ends_117 ?_
                refine lv_iload hx hb dX6_ends_120 (lv_at hl 5 rfl) ?_
                obtain ⟨hin, hf⟩ := gd_e hf
                refine g_iald hx hb hK hP 14 3 (by decide) rfl hin dX6_ends_122 ?_
                refine lv_goto (tgt := 130) hx hb dX6_ends_123 (by decide) ?_
                exact hJ19 (σ16 14 x5.toNatClampNeg) σ16 _ _ ls hf hP hS (lv_sub hl [1, 2, 3, 4, 5] rfl)
            · rw [if_neg q22] at hf
              refine lv_iconst (v := 0) hx hb dX6_ends_98 (by decide) ?_
              refine lv_goto (tgt := 130) hx hb dX6_ends_99 (by decide) ?_
              exact hJ19 0 σ16 _ _ ls hf hP hS (lv_sub hl [1, 2, 3, 4, 5] rfl)
  exact hL_X6_ends_13 FU 0 σ1 _ _ ls hf hP hS (lv_sub hl [1, 2, 4, 5, 0] rfl)
def f_X6_go (σ : Mem) (a0 : Int32) : Option (Int32 × Mem) :=
bd (f_X6_actor σ) fun v1 =>
bd (f_X6_isIn a0 0 3) fun v2 =>
jn (fun (y3 : Int32) (σ4 : Mem) =>
bd2 (f_X6_can σ4 y3) fun v6 σ7 =>
if v6 = 0 then (
some (0, σ7))
else (
gd v1 4 <|
gd ((4 * (σ7 6 v1.toNatClampNeg)) + a0) 32 <|
gd v1 4 <| stp (mu σ7 6 v1.toNatClampNeg (σ7 1 ((4 * (σ7 6 v1.toNatClampNeg)) + a0).toNatClampNeg)) fun σ9 =>
bd (f_X6_ends σ9 v1 2 (-1) (-1)) fun σ10 =>
gd v1 4 <|
some ((σ10 6 v1.toNatClampNeg), σ10))) fun (J5 : Int32 → Mem → Option (Int32 × Mem)) =>
if v2 = 0 then (
J5 1 σ)
else (
jn (fun (σ12 : Mem) =>
J5 2 σ12) fun (J13 : Mem → Option (Int32 × Mem)) =>
if v1 = (-1) then (
J13 σ)
else (
gd v1 4 <|
gd ((4 * (σ 6 v1.toNatClampNeg)) + a0) 32 <|
if (σ 1 ((4 * (σ 6 v1.toNatClampNeg)) + a0).toNatClampNeg) = (-1) then (
J13 σ)
else (
J5 0 σ)))
set_option maxHeartbeats 4000000 in
set_option maxRecDepth 100000 in
theorem c_X6_go {l : Launch} {D : va_G} {cI cJ : ClassId} {ad : Nat → Nat} {σ : Mem} {a0 : Int32} {r : Int32} {σr : Mem}  (hi : injG 25 ad) (hf : f_X6_go σ a0 = some (r, σr)) : MGi l yX6_go (Cond.code yX6_go cX6_go 3 (some .int) :: BIG) 3 70 D cI cJ 25 ad (EM ad cI) [.ref (ad 0), .int a0] σ σr r := by
  refine MGi.ofW (cc := cX6_go) (nL := 3) (ret := (some .int)) (by decide) rfl hi ?_
  intro p e s m args below meth c hx hb hr hml hlocks hown hB hK hP hA hAd hS
  have hown : s.vm.findClass RX6 = some m.cls := hown
  have hl := lv_entry ([.ref (ad 0), .int a0] : List Value) (n := 3) (Nat.le_of_ble_eq_true rfl)
  rw [lg_entry_eq]
  generalize (lg_sl ([.ref (ad 0), .int a0] : List Value) ++ List.replicate (3 - (lg_sl ([.ref (ad 0), .int a0] : List Value)).length) Slot.unset).toArray = ls at hl ⊢
  have hl : lv_has ls 3 [(0, .ref (ad 0)), (1, .int a0)] := hl
  generalize hQ : MQ below (Qgi D 25 ad (EM ad cI) r σr s.heap.size) _ s 0 0 (AG 25 ad s.heap.size) = Q
  have hQ := hQ.symm
  obtain ⟨R, hR, hRf, hRl⟩ : ∃ R : Room, R = ({ frames := 3, cells := 0, slots := 0, locals := 70 } : Room) ∧ 3 ≤ R.frames ∧ 70 ≤ R.locals := ⟨_, rfl, Nat.le_refl _, Nat.le_refl _⟩
  rw [← hR]
  unfold f_X6_go at hf
  refine lv_aload_n hx hb dX6_go_0 rfl (lv_at hl 0 rfl) ?_
  obtain ⟨v1, hv, hf⟩ := bd_e hf
  refine g_cViS (k0 := 0) ⟨⟨hx, hb, hml, hown, hB⟩, hK, hi, hA, hAd, hP, hS⟩ (c_X6_actor hi hv) cal_X6_actor kM_X6_102 ⟨Nat.le_trans (Nat.le_of_ble_eq_true rfl) hRf, Nat.le_trans (Nat.le_of_ble_eq_true rfl) hRl⟩ (by decide) rfl rfl rfl hl.1 (Nat.le_of_ble_eq_true rfl) rfl dX6_go_1 ⟨Nat.zero_le _, Nat.zero_le _⟩ (fun H locs hP hS => ?_)
  refine lv_istore_n (lv' := [(2, .int v1), (0, .ref (ad 0)), (1, .int a0)]) hx hb dX6_go_4 rfl hl (by decide) rfl (fun ls hl => ?_)
  refine lv_aload_n hx hb dX6_go_5 rfl (lv_at hl 1 rfl) ?_
  refine lv_iload_n hx hb dX6_go_6 rfl (lv_at hl 2 rfl) ?_
  refine lv_iconst (v := 0) hx hb dX6_go_7 (by decide) ?_
  refine lv_iconst (v := 3) hx hb dX6_go_8 (by decide) ?_
  obtain ⟨v2, hv, hf⟩ := bd_e hf
  refine g_cSi0 ⟨⟨hx, hb, hml, hown, hB⟩, hK, hi, hA, hAd, hP, hS⟩ (c_X6_isIn hv) cal_X6_isIn kM_X6_89 ⟨Nat.le_trans (Nat.le_of_ble_eq_true rfl) hRf, Nat.le_trans (Nat.le_of_ble_eq_true rfl) hRl⟩ rfl hl.1 (Nat.le_of_ble_eq_true rfl) rfl dX6_go_9 ⟨Nat.zero_le _, Nat.zero_le _⟩ (fun H locs hP hS => ?_)
  obtain ⟨J5, eJ5, hf⟩ := jn_e2 hf
  have hJ5 : ∀ (y3 : Int32) (σ4 : Mem) (H : Heap) (locs : List Loc) (ls : Array Slot), J5 y3 σ4 = some (r, σr) → va_P D vwCl (wsG 25 ad (EM ad cI) σ4) H → va_S (AG 25 ad s.heap.size) s.heap H locs → lv_has ls 3 [(0, .ref (ad 0)), (1, .int a0), (2, .int v1)] → W p l e R s m args below meth c H locs 0 0 Q (F0 m 48 ls [.int y3, .ref (ad 0)]) := by
    intro y3 σ4 H locs ls hf hP hS hl
    rw [eJ5] at hf
    obtain ⟨v6, σ7, hv, hf⟩ := bd2_e hf
    refine g_cViS (k0 := 0) ⟨⟨hx, hb, hml, hown, hB⟩, hK, hi, hA, hAd, hP, hS⟩ (c_X6_can hi hv) cal_X6_can kM_X6_110 ⟨Nat.le_trans (Nat.le_of_ble_eq_true rfl) hRf, Nat.le_trans (Nat.le_of_ble_eq_true rfl) hRl⟩ (by decide) rfl rfl rfl hl.1 (Nat.le_of_ble_eq_true rfl) rfl dX6_go_48 ⟨Nat.zero_le _, Nat.zero_le _⟩ (fun H locs hP hS => ?_)
    refine lv_if_ne (tgt := 56) hx hb dX6_go_51 (by decide) (fun q8 => ?_) (fun q8 => ?_)
    · rw [if_neg q8] at hf
      refine lv_aload_n hx hb dX6_go_56 rfl (lv_at hl 0 rfl) ?_
      refine g_get (v := .ref (ad 6)) hx hb hB hown hK hP 0 (by decide) rfl rfl kU_X6 6 (by decide) kF_X6_25 rfl rfl dX6_go_57 ?_
      refine lv_iload_n hx hb dX6_go_60 rfl (lv_at hl 2 rfl) ?_
      refine lv_aload_n hx hb dX6_go_61 rfl (lv_at hl 0 rfl) ?_
      refine g_get (v := .ref (ad 1)) hx hb hB hown hK hP 0 (by decide) rfl rfl kU_X6 0 (by decide) kF_X6_7 rfl rfl dX6_go_62 ?_
      refine lv_iconst (v := 4) hx hb dX6_go_65 (by decide) ?_
      refine lv_aload_n hx hb dX6_go_66 rfl (lv_at hl 0 rfl) ?_
      refine g_get (v := .ref (ad 6)) hx hb hB hown hK hP 0 (by decide) rfl rfl kU_X6 6 (by decide) kF_X6_25 rfl rfl dX6_go_67 ?_
      refine lv_iload_n hx hb dX6_go_70 rfl (lv_at hl 2 rfl) ?_
      obtain ⟨hin, hf⟩ := gd_e hf
      refine g_iald hx hb hK hP 6 4 (by decide) rfl hin dX6_go_71 ?_
      refine lv_imul hx hb dX6_go_72 ?_
      refine lv_iload_n hx hb dX6_go_73 rfl (lv_at hl 1 rfl) ?_
      refine lv_iadd hx hb dX6_go_74 ?_
      obtain ⟨hin, hf⟩ := gd_e hf
      refine g_iald hx hb hK hP 1 32 (by decide) rfl hin dX6_go_75 ?_
      obtain ⟨hin, hf⟩ := gd_e hf
      obtain ⟨σ9, eσ9, hf⟩ := stp_e hf
      refine g_iast (σ1 := σ9) hx hb hK hP hi hAd hS 6 4 (by decide) (fun _ => rfl) hin dX6_go_76 eσ9 (fun H locs hP hS => ?_)
      refine lv_aload_n hx hb dX6_go_77 rfl (lv_at hl 0 rfl) ?_
      refine lv_iload_n hx hb dX6_go_78 rfl (lv_at hl 2 rfl) ?_
      refine lv_iconst (v := 2) hx hb dX6_go_79 (by decide) ?_
      refine lv_iconst (v := (-1)) hx hb dX6_go_80 (by decide) ?_
      refine lv_iconst (v := (-1)) hx hb dX6_go_81 (by decide) ?_
      obtain ⟨σ10, hv, hf⟩ := bd_e hf
      refine g_cVvS (k0 := 0) ⟨⟨hx, hb, hml, hown, hB⟩, hK, hi, hA, hAd, hP, hS⟩ (c_X6_ends hi hv) cal_X6_ends kM_X6_130 ⟨Nat.le_trans (Nat.le_of_ble_eq_true rfl) hRf, Nat.le_trans (Nat.le_of_ble_eq_true rfl) hRl⟩ (by decide) rfl rfl rfl hl.1 (Nat.le_of_ble_eq_true rfl) rfl dX6_go_82 ⟨Nat.zero_le _, Nat.zero_le _⟩ (fun H locs hP hS => ?_)
      refine lv_aload_n hx hb dX6_go_85 rfl (lv_at hl 0 rfl) ?_
      refine g_get (v := .ref (ad 6)) hx hb hB hown hK hP 0 (by decide) rfl rfl kU_X6 6 (by decide) kF_X6_25 rfl rfl dX6_go_86 ?_
      refine lv_iload_n hx hb dX6_go_89 rfl (lv_at hl 2 rfl) ?_
      obtain ⟨hin, hf⟩ := gd_e hf
      refine g_iald hx hb hK hP 6 4 (by decide) rfl hin dX6_go_90 ?_
      obtain ⟨h1, h2⟩ := rt2 hf
      rw [hQ]
      exact g_iret hx hb hr hlocks hP hS h1 h2 dX6_go_91
    · rw [if_pos q8] at hf
      refine lv_iconst (v := 0) hx hb dX6_go_54 (by decide) ?_
      obtain ⟨h1, h2⟩ := rt2 hf
      rw [hQ]
      exact g_iret hx hb hr hlocks hP hS h1 h2 dX6_go_55
  refine lv_if_ne (tgt := 19) hx hb dX6_go_12 (by decide) (fun q11 => ?_) (fun q11 => ?_)
  · rw [if_neg q11] at hf
    refine lv_iload_n hx hb dX6_go_19 rfl (lv_at hl 0 rfl) ?_
    refine lv_iconst (v := (-1)) hx hb dX6_go_20 (by decide) ?_
    obtain ⟨J13, eJ13, hf⟩ := jn_e1 hf
    have hJ13 : ∀ (σ12 : Mem) (H : Heap) (locs : List Loc) (ls : Array Slot), J13 σ12 = some (r, σr) → va_P D vwCl (wsG 25 ad (EM ad cI) σ12) H → va_S (AG 25 ad s.heap.size) s.heap H locs → lv_has ls 3 [(0, .ref (ad 0)), (1, .int a0), (2, .int v1)] → W p l e R s m args below meth c H locs 0 0 Q (F0 m 43 ls [.ref (ad 0)]) := by
      intro σ12 H locs ls hf hP hS hl
      rw [eJ13] at hf
      refine lv_iconst (v := 2) hx hb dX6_go_43 (by decide) ?_
      refine lv_goto (tgt := 48) hx hb dX6_go_44 (by decide) ?_
      exact hJ5 2 σ12 _ _ ls hf hP hS (lv_sub hl [0, 1, 2] rfl)
    refine lv_icmp_eq (tgt := 43) hx hb dX6_go_21 (by decide) (fun q14 => ?_) (fun q14 => ?_)
    · rw [if_pos q14] at hf
      exact hJ13 σ _ _ ls hf hP hS (lv_sub hl [1, 2, 0] rfl)
    · rw [if_neg q14] at hf
      refine lv_aload_n hx hb dX6_go_24 rfl (lv_at hl 1 rfl) ?_
      refine g_get (v := .ref (ad 1)) hx hb hB hown hK hP 0 (by decide) rfl rfl kU_X6 0 (by decide) kF_X6_7 rfl rfl dX6_go_25 ?_
      refine lv_iconst (v := 4) hx hb dX6_go_28 (by decide) ?_
      refine lv_aload_n hx hb dX6_go_29 rfl (lv_at hl 1 rfl) ?_
      refine g_get (v := .ref (ad 6)) hx hb hB hown hK hP 0 (by decide) rfl rfl kU_X6 6 (by decide) kF_X6_25 rfl rfl dX6_go_30 ?_
      refine lv_iload_n hx hb dX6_go_33 rfl (lv_at hl 0 rfl) ?_
      obtain ⟨hin, hf⟩ := gd_e hf
      refine g_iald hx hb hK hP 6 4 (by decide) rfl hin dX6_go_34 ?_
      refine lv_imul hx hb dX6_go_35 ?_
      refine lv_iload_n hx hb dX6_go_36 rfl (lv_at hl 2 rfl) ?_
      refine lv_iadd hx hb dX6_go_37 ?_
      obtain ⟨hin, hf⟩ := gd_e hf
      refine g_iald hx hb hK hP 1 32 (by decide) rfl hin dX6_go_38 ?_
      refine lv_iconst (v := (-1)) hx hb dX6_go_39 (by decide) ?_
      refine lv_icmp_ne (tgt := 47) hx hb dX6_go_40 (by decide) (fun q15 => ?_) (fun q15 => ?_)
      · rw [if_neg q15] at hf
        refine lv_iconst (v := 0) hx hb dX6_go_47 (by decide) ?_
        exact hJ5 0 σ _ _ ls hf hP hS (lv_sub hl [1, 2, 0] rfl)
      · rw [if_pos q15] at hf
        exact hJ13 σ _ _ ls hf hP hS (lv_sub hl [1, 2, 0] rfl)
  · rw [if_pos q11] at hf
    refine lv_iconst (v := 1) hx hb dX6_go_15 (by decide) ?_
    refine lv_goto (tgt := 48) hx hb dX6_go_16 (by decide) ?_
    exact hJ5 1 σ _ _ ls hf hP hS (lv_sub hl [1, 2, 0] rfl)
def L_X6_hears_3 : Nat → (Mem → Option (Mem)) → Int32 → Int32 → Int32 → Int32 → Mem → Option (Mem)
  | 0, _, _, _, _, _, _ => none
  | n + 1, k, x1, x2, x3, x4, σ5 =>
    if x4 ≤ 0 then (
    k σ5)
    else (
    gd (((6 * x1) + x4) - 1) 24 <|
    gd ((6 * x1) + x4) 24 <| stp (mu σ5 13 ((6 * x1) + x4).toNatClampNeg (σ5 13 (((6 * x1) + x4) - 1).toNatClampNeg)) fun σ17 =>
    L_X6_hears_3 n k x1 x2 x3 (x4 + (-1)) σ17)
def f_X6_hears (σ : Mem) (a0 a1 a2 : Int32) : Option (Mem) :=
L_X6_hears_3 FU (fun (σ7 : Mem) =>
gd (6 * a0) 24 <| stp (mu σ7 13 (6 * a0).toNatClampNeg ((100 * a1) + a2)) fun σ8 =>
gd a0 4 <|
gd a0 4 <|
jn (fun (y11 : Int32) (y12 : Int32) (y9 : Int32) (σ10 : Mem) =>
gd y11 4 <| stp (mu σ10 12 y11.toNatClampNeg (y12 + y9)) fun σ14 =>
some σ14) fun (J13 : Int32 → Int32 → Int32 → Mem → Option (Mem)) =>
if 6 ≤ (σ8 12 a0.toNatClampNeg) then (
J13 a0 (σ8 12 a0.toNatClampNeg) 0 σ8)
else (
J13 a0 (σ8 12 a0.toNatClampNeg) 1 σ8)) a0 a1 a2 5 σ
set_option maxHeartbeats 4000000 in
set_option maxRecDepth 100000 in
theorem c_X6_hears {l : Launch} {D : va_G} {cI cJ : ClassId} {ad : Nat → Nat} {σ : Mem} {a0 a1 a2 : Int32} {σr : Mem}  (hi : injG 25 ad) (hf : f_X6_hears σ a0 a1 a2 = some σr) : MGv l yX6_hears (Cond.code yX6_hears cX6_hears 5 none :: BIG) 0 0 D cI cJ 25 ad (EM ad cI) [.ref (ad 0), .int a0, .int a1, .int a2] σ σr := by
  refine MGv.ofW (cc := cX6_hears) (nL := 5) (ret := none) (by decide) rfl hi ?_
  intro p e s m args below meth c hx hb hr hml hlocks hown hB hK hP hA hAd hS
  have hown : s.vm.findClass RX6 = some m.cls := hown
  have hl := lv_entry ([.ref (ad 0), .int a0, .int a1, .int a2] : List Value) (n := 5) (Nat.le_of_ble_eq_true rfl)
  rw [lg_entry_eq]
  generalize (lg_sl ([.ref (ad 0), .int a0, .int a1, .int a2] : List Value) ++ List.replicate (5 - (lg_sl ([.ref (ad 0), .int a0, .int a1, .int a2] : List Value)).length) Slot.unset).toArray = ls at hl ⊢
  have hl : lv_has ls 5 [(0, .ref (ad 0)), (1, .int a0), (2, .int a1), (3, .int a2)] := hl
  generalize hQ : MQ below (Qgv D 25 ad (EM ad cI) σr s.heap.size) _ s 0 0 (AG 25 ad s.heap.size) = Q
  have hQ := hQ.symm
  obtain ⟨R, hR, hRf, hRl⟩ : ∃ R : Room, R = ({ frames := 0, cells := 0, slots := 0, locals := 0 } : Room) ∧ 0 ≤ R.frames ∧ 0 ≤ R.locals := ⟨_, rfl, Nat.le_refl _, Nat.le_refl _⟩
  rw [← hR]
  unfold f_X6_hears at hf
  refine lv_iconst (v := 5) hx hb dX6_hears_0 (by decide) ?_
  refine lv_istore (lv' := [(4, .int 5), (0, .ref (ad 0)), (1, .int a0), (2, .int a1), (3, .int a2)]) hx hb dX6_hears_1 hl (by decide) rfl (fun ls hl => ?_)
  obtain ⟨K6, eK6, hf⟩ := lp_e1 (b := fun K => L_X6_hears_3 FU K a0 a1 a2 5 σ) hf
  replace hf : L_X6_hears_3 FU K6 a0 a1 a2 5 σ = some σr := hf
  have hKK6 : ∀ (σ7 : Mem) (H : Heap) (locs : List Loc) (ls : Array Slot), K6 σ7 = some σr → va_P D vwCl (wsG 25 ad (EM ad cI) σ7) H → va_S (AG 25 ad s.heap.size) s.heap H locs → lv_has ls 5 [(0, .ref (ad 0)), (1, .int a0), (2, .int a1), (3, .int a2)] → W p l e R s m args below meth c H locs 0 0 Q (F0 m 40 ls []) := by
    intro σ7 H locs ls hf hP hS hl
    rw [eK6] at hf
    refine lv_aload_n hx hb dX6_hears_40 rfl (lv_at hl 0 rfl) ?_
    refine g_get (v := .ref (ad 13)) hx hb hB hown hK hP 0 (by decide) rfl rfl kU_X6 13 (by decide) kF_X6_46 rfl rfl dX6_hears_41 ?_
    refine lv_bipush (v := 6) hx hb dX6_hears_44 (by decide) ?_
    refine lv_iload_n hx hb dX6_hears_46 rfl (lv_at hl 1 rfl) ?_
    refine lv_imul hx hb dX6_hears_47 ?_
    refine lv_bipush (v := 100) hx hb dX6_hears_48 (by decide) ?_
    refine lv_iload_n hx hb dX6_hears_50 rfl (lv_at hl 2 rfl) ?_
    refine lv_imul hx hb dX6_hears_51 ?_
    refine lv_iload_n hx hb dX6_hears_52 rfl (lv_at hl 3 rfl) ?_
    refine lv_iadd hx hb dX6_hears_53 ?_
    obtain ⟨hin, hf⟩ := gd_e hf
    obtain ⟨σ8, eσ8, hf⟩ := stp_e hf
    refine g_iast (σ1 := σ8) hx hb hK hP hi hAd hS 13 24 (by decide) (fun _ => rfl) hin dX6_hears_54 eσ8 (fun H locs hP hS => ?_)
    refine lv_aload_n hx hb dX6_hears_55 rfl (lv_at hl 0 rfl) ?_
    refine g_get (v := .ref (ad 12)) hx hb hB hown hK hP 0 (by decide) rfl rfl kU_X6 12 (by decide) kF_X6_43 rfl rfl dX6_hears_56 ?_
    refine lv_iload_n hx hb dX6_hears_59 rfl (lv_at hl 1 rfl) ?_
    refine lv_dup2_11 hx hb dX6_hears_60 rfl rfl ?_
    obtain ⟨hin, hf⟩ := gd_e hf
    refine g_iald hx hb hK hP 12 4 (by decide) rfl hin dX6_hears_61 ?_
    refine lv_aload_n hx hb dX6_hears_62 rfl (lv_at hl 0 rfl) ?_
    refine g_get (v := .ref (ad 12)) hx hb hB hown hK hP 0 (by decide) rfl rfl kU_X6 12 (by decide) kF_X6_43 rfl rfl dX6_hears_63 ?_
    refine lv_iload_n hx hb dX6_hears_66 rfl (lv_at hl 1 rfl) ?_
    obtain ⟨hin, hf⟩ := gd_e hf
    refine g_iald hx hb hK hP 12 4 (by decide) rfl hin dX6_hears_67 ?_
    refine lv_bipush (v := 6) hx hb dX6_hears_68 (by decide) ?_
    obtain ⟨J13, eJ13, hf⟩ := jn_e4 hf
    have hJ13 : ∀ (y11 : Int32) (y12 : Int32) (y9 : Int32) (σ10 : Mem) (H : Heap) (locs : List Loc) (ls : Array Slot), J13 y11 y12 y9 σ10 = some σr → va_P D vwCl (wsG 25 ad (EM ad cI) σ10) H → va_S (AG 25 ad s.heap.size) s.heap H locs → lv_has ls 5 [] → W p l e R s m args below meth c H locs 0 0 Q (F0 m 78 ls [.int y9, .int y12, .int y11, .ref (ad 12)]) := by
      intro y11 y12 y9 σ10 H locs ls hf hP hS hl
      rw [eJ13] at hf
      refine lv_iadd hx hb dX6_hears_78 ?_
      obtain ⟨hin, hf⟩ := gd_e hf
      obtain ⟨σ14, eσ14, hf⟩ := stp_e hf
      refine g_iast (σ1 := σ14) hx hb hK hP hi hAd hS 12 4 (by decide) (fun _ => rfl) hin dX6_hears_79 eσ14 (fun H locs hP hS => ?_)
      have h2 := rt1 hf
      rw [hQ]
      exact g_vret hx hb hr hlocks hP hS h2 dX6_hears_80
    refine lv_icmp_ge (tgt := 77) hx hb dX6_hears_70 (by decide) (fun q15 => ?_) (fun q15 => ?_)
    · rw [if_pos q15] at hf
      refine lv_iconst (v := 0) hx hb dX6_hears_77 (by decide) ?_
      exact hJ13 a0 (σ8 12 a0.toNatClampNeg) 0 σ8 _ _ ls hf hP hS (lv_sub hl [] rfl)
    · rw [if_neg q15] at hf
      refine lv_iconst (v := 1) hx hb dX6_hears_73 (by decide) ?_
      refine lv_goto (tgt := 78) hx hb dX6_hears_74 (by decide) ?_
      exact hJ13 a0 (σ8 12 a0.toNatClampNeg) 1 σ8 _ _ ls hf hP hS (lv_sub hl [] rfl)
  have hL_X6_hears_3 : ∀ (n : Nat) (x4 : Int32) (σ5 : Mem) (H : Heap) (locs : List Loc) (ls : Array Slot), L_X6_hears_3 n K6 a0 a1 a2 x4 σ5 = some σr → va_P D vwCl (wsG 25 ad (EM ad cI) σ5) H → va_S (AG 25 ad s.heap.size) s.heap H locs → lv_has ls 5 [(0, .ref (ad 0)), (1, .int a0), (2, .int a1), (3, .int a2), (4, .int x4)] → W p l e R s m args below meth c H locs 0 0 Q (F0 m 3 ls []) := by
    intro n
    induction n with
    | zero => intro x4 σ5 H locs ls hf; cases hf
    | succ n ih =>
      intro x4 σ5 H locs ls hf hP hS hl
      rw [L_X6_hears_3] at hf
      refine lv_iload hx hb dX6_hears_3 (lv_at hl 4 rfl) ?_
      refine lv_if_le (tgt := 40) hx hb dX6_hears_5 (by decide) (fun q16 => ?_) (fun q16 => ?_)
      · rw [if_pos q16] at hf
        exact hKK6 σ5 _ _ ls hf hP hS (lv_sub hl [0, 1, 2, 3] rfl)
      · rw [if_neg q16] at hf
        refine lv_aload_n hx hb dX6_hears_8 rfl (lv_at hl 0 rfl) ?_
        refine g_get (v := .ref (ad 13)) hx hb hB hown hK hP 0 (by decide) rfl rfl kU_X6 13 (by decide) kF_X6_46 rfl rfl dX6_hears_9 ?_
        refine lv_bipush (v := 6) hx hb dX6_hears_12 (by decide) ?_
        refine lv_iload_n hx hb dX6_hears_14 rfl (lv_at hl 1 rfl) ?_
        refine lv_imul hx hb dX6_hears_15 ?_
        refine lv_iload hx hb dX6_hears_16 (lv_at hl 4 rfl) ?_
        refine lv_iadd hx hb dX6_hears_18 ?_
        refine lv_aload_n hx hb dX6_hears_19 rfl (lv_at hl 0 rfl) ?_
        refine g_get (v := .ref (ad 13)) hx hb hB hown hK hP 0 (by decide) rfl rfl kU_X6 13 (by decide) kF_X6_46 rfl rfl dX6_hears_20 ?_
        refine lv_bipush (v := 6) hx hb dX6_hears_23 (by decide) ?_
        refine lv_iload_n hx hb dX6_hears_25 rfl (lv_at hl 1 rfl) ?_
        refine lv_imul hx hb dX6_hears_26 ?_
        refine lv_iload hx hb dX6_hears_27 (lv_at hl 4 rfl) ?_
        refine lv_iadd hx hb dX6_hears_29 ?_
        refine lv_iconst (v := 1) hx hb dX6_hears_30 (by decide) ?_
        refine lv_isub hx hb dX6_hears_31 ?_
        obtain ⟨hin, hf⟩ := gd_e hf
        refine g_iald hx hb hK hP 13 24 (by decide) rfl hin dX6_hears_32 ?_
        obtain ⟨hin, hf⟩ := gd_e hf
        obtain ⟨σ17, eσ17, hf⟩ := stp_e hf
        refine g_iast (σ1 := σ17) hx hb hK hP hi hAd hS 13 24 (by decide) (fun _ => rfl) hin dX6_hears_33 eσ17 (fun H locs hP hS => ?_)
        refine lv_iinc (v := (x4 + (-1))) (lv' := [(4, .int (x4 + (-1))), (0, .ref (ad 0)), (1, .int a0), (2, .int a1), (3, .int a2)]) hx hb dX6_hears_34 hl (k := 4) rfl rfl (by decide) rfl (fun ls hl => ?_)
        refine lv_goto (tgt := 3) hx hb dX6_hears_37 (by decide) ?_
        exact ih (x4 + (-1)) σ17 _ _ ls hf hP hS (lv_sub hl [1, 2, 3, 4, 0] rfl)
  exact hL_X6_hears_3 FU 5 σ _ _ ls hf hP hS (lv_sub hl [1, 2, 3, 4, 0] rfl)
def f_X6_isNextTo (σ : Mem) (a0 a1 : Int32) : Option (Int32) :=
gd (4 * a0) 32 <|
jn (fun (_ : Unit) =>
some 1) fun (J1 : Unit → Option (Int32)) =>
if (σ 1 (4 * a0).toNatClampNeg) = a1 then (
J1 ())
else (
gd ((4 * a0) + 1) 32 <|
if (σ 1 ((4 * a0) + 1).toNatClampNeg) = a1 then (
J1 ())
else (
gd ((4 * a0) + 2) 32 <|
if (σ 1 ((4 * a0) + 2).toNatClampNeg) = a1 then (
J1 ())
else (
gd ((4 * a0) + 3) 32 <|
if (σ 1 ((4 * a0) + 3).toNatClampNeg) = a1 then (
J1 ())
else (
some 0))))
set_option maxHeartbeats 4000000 in
set_option maxRecDepth 100000 in
theorem c_X6_isNextTo {l : Launch} {D : va_G} {cI cJ : ClassId} {ad : Nat → Nat} {σ : Mem} {a0 a1 : Int32} {r : Int32}  (hi : injG 25 ad) (hf : f_X6_isNextTo σ a0 a1 = some r) : MGi l yX6_isNextTo (Cond.code yX6_isNextTo cX6_isNextTo 3 (some .boolean) :: BIG) 0 0 D cI cJ 25 ad (EM ad cI) [.ref (ad 0), .int a0, .int a1] σ σ r := by
  refine MGi.ofW (cc := cX6_isNextTo) (nL := 3) (ret := (some .boolean)) (by decide) rfl hi ?_
  intro p e s m args below meth c hx hb hr hml hlocks hown hB hK hP hA hAd hS
  have hown : s.vm.findClass RX6 = some m.cls := hown
  have hl := lv_entry ([.ref (ad 0), .int a0, .int a1] : List Value) (n := 3) (Nat.le_of_ble_eq_true rfl)
  rw [lg_entry_eq]
  generalize (lg_sl ([.ref (ad 0), .int a0, .int a1] : List Value) ++ List.replicate (3 - (lg_sl ([.ref (ad 0), .int a0, .int a1] : List Value)).length) Slot.unset).toArray = ls at hl ⊢
  have hl : lv_has ls 3 [(0, .ref (ad 0)), (1, .int a0), (2, .int a1)] := hl
  generalize hQ : MQ below (Qgi D 25 ad (EM ad cI) r σ s.heap.size) _ s 0 0 (AG 25 ad s.heap.size) = Q
  have hQ := hQ.symm
  obtain ⟨R, hR, hRf, hRl⟩ : ∃ R : Room, R = ({ frames := 0, cells := 0, slots := 0, locals := 0 } : Room) ∧ 0 ≤ R.frames ∧ 0 ≤ R.locals := ⟨_, rfl, Nat.le_refl _, Nat.le_refl _⟩
  rw [← hR]
  unfold f_X6_isNextTo at hf
  refine lv_aload_n hx hb dX6_isNextTo_0 rfl (lv_at hl 0 rfl) ?_
  refine g_get (v := .ref (ad 1)) hx hb hB hown hK hP 0 (by decide) rfl rfl kU_X6 0 (by decide) kF_X6_7 rfl rfl dX6_isNextTo_1 ?_
  refine lv_iconst (v := 4) hx hb dX6_isNextTo_4 (by decide) ?_
  refine lv_iload_n hx hb dX6_isNextTo_5 rfl (lv_at hl 1 rfl) ?_
  refine lv_imul hx hb dX6_isNextTo_6 ?_
  obtain ⟨hin, hf⟩ := gd_e hf
  refine g_iald hx hb hK hP 1 32 (by decide) rfl hin dX6_isNextTo_7 ?_
  refine lv_iload_n hx hb dX6_isNextTo_8 rfl (lv_at hl 2 rfl) ?_
  obtain ⟨J1, eJ1, hf⟩ := jn_e0 hf
  have hJ1 : ∀ (_ : Unit) (H : Heap) (locs : List Loc) (ls : Array Slot), J1 () = some r → va_P D vwCl (wsG 25 ad (EM ad cI) σ) H → va_S (AG 25 ad s.heap.size) s.heap H locs → lv_has ls 3 [] → W p l e R s m args below meth c H locs 0 0 Q (F0 m 54 ls []) := by
    intro _ H locs ls hf hP hS hl
    rw [eJ1] at hf
    refine lv_iconst (v := 1) hx hb dX6_isNextTo_54 (by decide) ?_
    refine lv_goto (tgt := 59) hx hb dX6_isNextTo_55 (by decide) ?_
    have h1 := rt1 hf
    rw [hQ]
    exact g_zret hx hb hr hlocks hP hS (Or.inr rfl) h1 rfl dX6_isNextTo_59
  refine lv_icmp_eq (tgt := 54) hx hb dX6_isNextTo_9 (by decide) (fun q2 => ?_) (fun q2 => ?_)
  · rw [if_pos q2] at hf
    exact hJ1 () _ _ ls hf hP hS (lv_sub hl [] rfl)
  · rw [if_neg q2] at hf
    refine lv_aload_n hx hb dX6_isNextTo_12 rfl (lv_at hl 0 rfl) ?_
    refine g_get (v := .ref (ad 1)) hx hb hB hown hK hP 0 (by decide) rfl rfl kU_X6 0 (by decide) kF_X6_7 rfl rfl dX6_isNextTo_13 ?_
    refine lv_iconst (v := 4) hx hb dX6_isNextTo_16 (by decide) ?_
    refine lv_iload_n hx hb dX6_isNextTo_17 rfl (lv_at hl 1 rfl) ?_
    refine lv_imul hx hb dX6_isNextTo_18 ?_
    refine lv_iconst (v := 1) hx hb dX6_isNextTo_19 (by decide) ?_
    refine lv_iadd hx hb dX6_isNextTo_20 ?_
    obtain ⟨hin, hf⟩ := gd_e hf
    refine g_iald hx hb hK hP 1 32 (by decide) rfl hin dX6_isNextTo_21 ?_
    refine lv_iload_n hx hb dX6_isNextTo_22 rfl (lv_at hl 2 rfl) ?_
    refine lv_icmp_eq (tgt := 54) hx hb dX6_isNextTo_23 (by decide) (fun q3 => ?_) (fun q3 => ?_)
    · rw [if_pos q3] at hf
      exact hJ1 () _ _ ls hf hP hS (lv_sub hl [] rfl)
    · rw [if_neg q3] at hf
      refine lv_aload_n hx hb dX6_isNextTo_26 rfl (lv_at hl 0 rfl) ?_
      refine g_get (v := .ref (ad 1)) hx hb hB hown hK hP 0 (by decide) rfl rfl kU_X6 0 (by decide) kF_X6_7 rfl rfl dX6_isNextTo_27 ?_
      refine lv_iconst (v := 4) hx hb dX6_isNextTo_30 (by decide) ?_
      refine lv_iload_n hx hb dX6_isNextTo_31 rfl (lv_at hl 1 rfl) ?_
      refine lv_imul hx hb dX6_isNextTo_32 ?_
      refine lv_iconst (v := 2) hx hb dX6_isNextTo_33 (by decide) ?_
      refine lv_iadd hx hb dX6_isNextTo_34 ?_
      obtain ⟨hin, hf⟩ := gd_e hf
      refine g_iald hx hb hK hP 1 32 (by decide) rfl hin dX6_isNextTo_35 ?_
      refine lv_iload_n hx hb dX6_isNextTo_36 rfl (lv_at hl 2 rfl) ?_
      refine lv_icmp_eq (tgt := 54) hx hb dX6_isNextTo_37 (by decide) (fun q4 => ?_) (fun q4 => ?_)
      · rw [if_pos q4] at hf
        exact hJ1 () _ _ ls hf hP hS (lv_sub hl [] rfl)
      · rw [if_neg q4] at hf
        refine lv_aload_n hx hb dX6_isNextTo_40 rfl (lv_at hl 0 rfl) ?_
        refine g_get (v := .ref (ad 1)) hx hb hB hown hK hP 0 (by decide) rfl rfl kU_X6 0 (by decide) kF_X6_7 rfl rfl dX6_isNextTo_41 ?_
        refine lv_iconst (v := 4) hx hb dX6_isNextTo_44 (by decide) ?_
        refine lv_iload_n hx hb dX6_isNextTo_45 rfl (lv_at hl 1 rfl) ?_
        refine lv_imul hx hb dX6_isNextTo_46 ?_
        refine lv_iconst (v := 3) hx hb dX6_isNextTo_47 (by decide) ?_
        refine lv_iadd hx hb dX6_isNextTo_48 ?_
        obtain ⟨hin, hf⟩ := gd_e hf
        refine g_iald hx hb hK hP 1 32 (by decide) rfl hin dX6_isNextTo_49 ?_
        refine lv_iload_n hx hb dX6_isNextTo_50 rfl (lv_at hl 2 rfl) ?_
        refine lv_icmp_ne (tgt := 58) hx hb dX6_isNextTo_51 (by decide) (fun q5 => ?_) (fun q5 => ?_)
        · rw [if_neg q5] at hf
          refine lv_iconst (v := 0) hx hb dX6_isNextTo_58 (by decide) ?_
          have h1 := rt1 hf
          rw [hQ]
          exact g_zret hx hb hr hlocks hP hS (Or.inl rfl) h1 rfl dX6_isNextTo_59
        · rw [if_pos q5] at hf
          exact hJ1 () _ _ ls hf hP hS (lv_sub hl [] rfl)
def L_X6_speaks_44 : Nat → (Int32 → Mem → Option (Int32 × Mem)) → Int32 → Int32 → Int32 → Int32 → Int32 → Mem → Option (Int32 × Mem)
  | 0, _, _, _, _, _, _, _ => none
  | n + 1, k, x9, x10, x11, x12, x13, σ14 =>
    if (σ14 0 5) ≤ x13 then (
    k x12 σ14)
    else (
    jn (fun (x20 : Int32) (σ21 : Mem) =>
    L_X6_speaks_44 n k x9 x10 x11 x20 (x13 + 1) σ21) fun (J22 : Int32 → Mem → Option (Int32 × Mem)) =>
    if x13 = x11 then (
    J22 x12 σ14)
    else (
    gd x13 4 <|
    gd x11 4 <|
    jn (fun (σ24 : Mem) =>
    bd (f_X6_hears σ24 x13 x11 x9) fun σ26 =>
    J22 (x12 + 1) σ26) fun (J25 : Mem → Option (Int32 × Mem)) =>
    if (σ14 6 x13.toNatClampNeg) = (σ14 6 x11.toNatClampNeg) then (
    J25 σ14)
    else (
    if x10 = 0 then (
    J22 x12 σ14)
    else (
    gd x11 4 <|
    gd x13 4 <|
    bd (f_X6_isNextTo σ14 (σ14 6 x11.toNatClampNeg) (σ14 6 x13.toNatClampNeg)) fun v29 =>
    if v29 = 0 then (
    J22 x12 σ14)
    else (
    J25 σ14)))))
def f_X6_speaks (σ : Mem) (a0 a1 : Int32) : Option (Int32 × Mem) :=
bd (f_X6_actor σ) fun v1 =>
bd (f_X6_isIn a0 0 99) fun v2 =>
jn (fun (y3 : Int32) (σ4 : Mem) =>
bd2 (f_X6_can σ4 y3) fun v6 σ7 =>
if v6 = 0 then (
some (0, σ7))
else (
L_X6_speaks_44 FU (fun (x16 : Int32) (σ17 : Mem) =>
bd (f_X6_ends σ17 v1 1 a0 (-1)) fun σ18 =>
some (x16, σ18)) a0 a1 v1 0 0 σ7)) fun (J5 : Int32 → Mem → Option (Int32 × Mem)) =>
if v2 = 0 then (
J5 1 σ)
else (
if v1 = (-1) then (
J5 2 σ)
else (
J5 0 σ))
set_option maxHeartbeats 4000000 in
set_option maxRecDepth 100000 in
theorem c_X6_speaks {l : Launch} {D : va_G} {cI cJ : ClassId} {ad : Nat → Nat} {σ : Mem} {a0 a1 : Int32} {r : Int32} {σr : Mem}  (hi : injG 25 ad) (hf : f_X6_speaks σ a0 a1 = some (r, σr)) : MGi l yX6_speaks (Cond.code yX6_speaks cX6_speaks 6 (some .int) :: BIG) 3 70 D cI cJ 25 ad (EM ad cI) [.ref (ad 0), .int a0, .int a1] σ σr r := by
  refine MGi.ofW (cc := cX6_speaks) (nL := 6) (ret := (some .int)) (by decide) rfl hi ?_
  intro p e s m args below meth c hx hb hr hml hlocks hown hB hK hP hA hAd hS
  have hown : s.vm.findClass RX6 = some m.cls := hown
  have hl := lv_entry ([.ref (ad 0), .int a0, .int a1] : List Value) (n := 6) (Nat.le_of_ble_eq_true rfl)
  rw [lg_entry_eq]
  generalize (lg_sl ([.ref (ad 0), .int a0, .int a1] : List Value) ++ List.replicate (6 - (lg_sl ([.ref (ad 0), .int a0, .int a1] : List Value)).length) Slot.unset).toArray = ls at hl ⊢
  have hl : lv_has ls 6 [(0, .ref (ad 0)), (1, .int a0), (2, .int a1)] := hl
  generalize hQ : MQ below (Qgi D 25 ad (EM ad cI) r σr s.heap.size) _ s 0 0 (AG 25 ad s.heap.size) = Q
  have hQ := hQ.symm
  obtain ⟨R, hR, hRf, hRl⟩ : ∃ R : Room, R = ({ frames := 3, cells := 0, slots := 0, locals := 70 } : Room) ∧ 3 ≤ R.frames ∧ 70 ≤ R.locals := ⟨_, rfl, Nat.le_refl _, Nat.le_refl _⟩
  rw [← hR]
  unfold f_X6_speaks at hf
  refine lv_aload_n hx hb dX6_speaks_0 rfl (lv_at hl 0 rfl) ?_
  obtain ⟨v1, hv, hf⟩ := bd_e hf
  refine g_cViS (k0 := 0) ⟨⟨hx, hb, hml, hown, hB⟩, hK, hi, hA, hAd, hP, hS⟩ (c_X6_actor hi hv) cal_X6_actor kM_X6_102 ⟨Nat.le_trans (Nat.le_of_ble_eq_true rfl) hRf, Nat.le_trans (Nat.le_of_ble_eq_true rfl) hRl⟩ (by decide) rfl rfl rfl hl.1 (Nat.le_of_ble_eq_true rfl) rfl dX6_speaks_1 ⟨Nat.zero_le _, Nat.zero_le _⟩ (fun H locs hP hS => ?_)
  refine lv_istore_n (lv' := [(3, .int v1), (0, .ref (ad 0)), (1, .int a0), (2, .int a1)]) hx hb dX6_speaks_4 rfl hl (by decide) rfl (fun ls hl => ?_)
  refine lv_aload_n hx hb dX6_speaks_5 rfl (lv_at hl 1 rfl) ?_
  refine lv_iload_n hx hb dX6_speaks_6 rfl (lv_at hl 2 rfl) ?_
  refine lv_iconst (v := 0) hx hb dX6_speaks_7 (by decide) ?_
  refine lv_bipush (v := 99) hx hb dX6_speaks_8 (by decide) ?_
  obtain ⟨v2, hv, hf⟩ := bd_e hf
  refine g_cSi0 ⟨⟨hx, hb, hml, hown, hB⟩, hK, hi, hA, hAd, hP, hS⟩ (c_X6_isIn hv) cal_X6_isIn kM_X6_89 ⟨Nat.le_trans (Nat.le_of_ble_eq_true rfl) hRf, Nat.le_trans (Nat.le_of_ble_eq_true rfl) hRl⟩ rfl hl.1 (Nat.le_of_ble_eq_true rfl) rfl dX6_speaks_10 ⟨Nat.zero_le _, Nat.zero_le _⟩ (fun H locs hP hS => ?_)
  obtain ⟨J5, eJ5, hf⟩ := jn_e2 hf
  have hJ5 : ∀ (y3 : Int32) (σ4 : Mem) (H : Heap) (locs : List Loc) (ls : Array Slot), J5 y3 σ4 = some (r, σr) → va_P D vwCl (wsG 25 ad (EM ad cI) σ4) H → va_S (AG 25 ad s.heap.size) s.heap H locs → lv_has ls 6 [(0, .ref (ad 0)), (1, .int a0), (2, .int a1), (3, .int v1)] → W p l e R s m args below meth c H locs 0 0 Q (F0 m 30 ls [.int y3, .ref (ad 0)]) := by
    intro y3 σ4 H locs ls hf hP hS hl
    rw [eJ5] at hf
    obtain ⟨v6, σ7, hv, hf⟩ := bd2_e hf
    refine g_cViS (k0 := 0) ⟨⟨hx, hb, hml, hown, hB⟩, hK, hi, hA, hAd, hP, hS⟩ (c_X6_can hi hv) cal_X6_can kM_X6_110 ⟨Nat.le_trans (Nat.le_of_ble_eq_true rfl) hRf, Nat.le_trans (Nat.le_of_ble_eq_true rfl) hRl⟩ (by decide) rfl rfl rfl hl.1 (Nat.le_of_ble_eq_true rfl) rfl dX6_speaks_30 ⟨Nat.zero_le _, Nat.zero_le _⟩ (fun H locs hP hS => ?_)
    refine lv_if_ne (tgt := 38) hx hb dX6_speaks_33 (by decide) (fun q8 => ?_) (fun q8 => ?_)
    · rw [if_neg q8] at hf
      refine lv_iconst (v := 0) hx hb dX6_speaks_38 (by decide) ?_
      refine lv_istore (lv' := [(4, .int 0), (0, .ref (ad 0)), (1, .int a0), (2, .int a1), (3, .int v1)]) hx hb dX6_speaks_39 hl (by decide) rfl (fun ls hl => ?_)
      refine lv_iconst (v := 0) hx hb dX6_speaks_41 (by decide) ?_
      refine lv_istore (lv' := [(5, .int 0), (4, .int 0), (0, .ref (ad 0)), (1, .int a0), (2, .int a1), (3, .int v1)]) hx hb dX6_speaks_42 hl (by decide) rfl (fun ls hl => ?_)
      obtain ⟨K15, eK15, hf⟩ := lp_e2 (b := fun K => L_X6_speaks_44 FU K a0 a1 v1 0 0 σ7) hf
      replace hf : L_X6_speaks_44 FU K15 a0 a1 v1 0 0 σ7 = some (r, σr) := hf
      have hKK15 : ∀ (x16 : Int32) (σ17 : Mem) (H : Heap) (locs : List Loc) (ls : Array Slot), K15 x16 σ17 = some (r, σr) → va_P D vwCl (wsG 25 ad (EM ad cI) σ17) H → va_S (AG 25 ad s.heap.size) s.heap H locs → lv_has ls 6 [(0, .ref (ad 0)), (1, .int a0), (3, .int v1), (4, .int x16)] → W p l e R s m args below meth c H locs 0 0 Q (F0 m 116 ls []) := by
        intro x16 σ17 H locs ls hf hP hS hl
        rw [eK15] at hf
        refine lv_aload_n hx hb dX6_speaks_116 rfl (lv_at hl 0 rfl) ?_
        refine lv_iload_n hx hb dX6_speaks_117 rfl (lv_at hl 2 rfl) ?_
        refine lv_iconst (v := 1) hx hb dX6_speaks_118 (by decide) ?_
        refine lv_iload_n hx hb dX6_speaks_119 rfl (lv_at hl 1 rfl) ?_
        refine lv_iconst (v := (-1)) hx hb dX6_speaks_120 (by decide) ?_
        obtain ⟨σ18, hv, hf⟩ := bd_e hf
        refine g_cVvS (k0 := 0) ⟨⟨hx, hb, hml, hown, hB⟩, hK, hi, hA, hAd, hP, hS⟩ (c_X6_ends hi hv) cal_X6_ends kM_X6_130 ⟨Nat.le_trans (Nat.le_of_ble_eq_true rfl) hRf, Nat.le_trans (Nat.le_of_ble_eq_true rfl) hRl⟩ (by decide) rfl rfl rfl hl.1 (Nat.le_of_ble_eq_true rfl) rfl dX6_speaks_121 ⟨Nat.zero_le _, Nat.zero_le _⟩ (fun H locs hP hS => ?_)
        refine lv_iload hx hb dX6_speaks_124 (lv_at hl 3 rfl) ?_
        obtain ⟨h1, h2⟩ := rt2 hf
        rw [hQ]
        exact g_iret hx hb hr hlocks hP hS h1 h2 dX6_speaks_126
      have hL_X6_speaks_44 : ∀ (n : Nat) (x12 : Int32) (x13 : Int32) (σ14 : Mem) (H : Heap) (locs : List Loc) (ls : Array Slot), L_X6_speaks_44 n K15 a0 a1 v1 x12 x13 σ14 = some (r, σr) → va_P D vwCl (wsG 25 ad (EM ad cI) σ14) H → va_S (AG 25 ad s.heap.size) s.heap H locs → lv_has ls 6 [(0, .ref (ad 0)), (1, .int a0), (2, .int a1), (3, .int v1), (4, .int x12), (5, .int x13)] → W p l e R s m args below meth c H locs 0 0 Q (F0 m 44 ls []) := by
        intro n
        induction n with
        | zero => intro x12 x13 σ14 H locs ls hf; cases hf
        | succ n ih =>
          intro x12 x13 σ14 H locs ls hf hP hS hl
          rw [L_X6_speaks_44] at hf
          refine lv_iload hx hb dX6_speaks_44 (lv_at hl 5 rfl) ?_
          refine lv_aload_n hx hb dX6_speaks_46 rfl (lv_at hl 0 rfl) ?_
          refine g_get (v := .int (σ14 0 5)) hx hb hB hown hK hP 0 (by decide) rfl rfl kU_X6 5 (by decide) kF_X6_93 rfl rfl dX6_speaks_47 ?_
          refine lv_icmp_ge (tgt := 116) hx hb dX6_speaks_50 (by decide) (fun q19 => ?_) (fun q19 => ?_)
          · rw [if_pos q19] at hf
            exact hKK15 x12 σ14 _ _ ls hf hP hS (lv_sub hl [0, 1, 3, 4] rfl)
          · rw [if_neg q19] at hf
            refine lv_iload hx hb dX6_speaks_53 (lv_at hl 5 rfl) ?_
            refine lv_iload_n hx hb dX6_speaks_55 rfl (lv_at hl 3 rfl) ?_
            obtain ⟨J22, eJ22, hf⟩ := jn_e2 hf
            have hJ22 : ∀ (x20 : Int32) (σ21 : Mem) (H : Heap) (locs : List Loc) (ls : Array Slot), J22 x20 σ21 = some (r, σr) → va_P D vwCl (wsG 25 ad (EM ad cI) σ21) H → va_S (AG 25 ad s.heap.size) s.heap H locs → lv_has ls 6 [(0, .ref (ad 0)), (1, .int a0), (2, .int a1), (3, .int v1), (4, .int x20), (5, .int x13)] → W p l e R s m args below meth c H locs 0 0 Q (F0 m 110 ls []) := by
              intro x20 σ21 H locs ls hf hP hS hl
              rw [eJ22] at hf
              refine lv_iinc (v := (x13 + 1)) (lv' := [(5, .int (x13 + 1)), (0, .ref (ad 0)), (1, .int a0), (2, .int a1), (3, .int v1), (4, .int x20)]) hx hb dX6_speaks_110 hl (k := 5) rfl rfl (by decide) rfl (fun ls hl => ?_)
              refine lv_goto (tgt := 44) hx hb dX6_speaks_113 (by decide) ?_
              exact ih x20 (x13 + 1) σ21 _ _ ls hf hP hS (lv_sub hl [1, 2, 3, 4, 5, 0] rfl)
            refine lv_icmp_eq (tgt := 110) hx hb dX6_speaks_56 (by decide) (fun q23 => ?_) (fun q23 => ?_)
            · rw [if_pos q23] at hf
              exact hJ22 x12 σ14 _ _ ls hf hP hS (lv_sub hl [0, 1, 2, 3, 4, 5] rfl)
            · rw [if_neg q23] at hf
              refine lv_aload_n hx hb dX6_speaks_59 rfl (lv_at hl 0 rfl) ?_
              refine g_get (v := .ref (ad 6)) hx hb hB hown hK hP 0 (by decide) rfl rfl kU_X6 6 (by decide) kF_X6_25 rfl rfl dX6_speaks_60 ?_
              refine lv_iload hx hb dX6_speaks_63 (lv_at hl 5 rfl) ?_
              obtain ⟨hin, hf⟩ := gd_e hf
              refine g_iald hx hb hK hP 6 4 (by decide) rfl hin dX6_speaks_65 ?_
              refine lv_aload_n hx hb dX6_speaks_66 rfl (lv_at hl 0 rfl) ?_
              refine g_get (v := .ref (ad 6)) hx hb hB hown hK hP 0 (by decide) rfl rfl kU_X6 6 (by decide) kF_X6_25 rfl rfl dX6_speaks_67 ?_
              refine lv_iload_n hx hb dX6_speaks_70 rfl (lv_at hl 3 rfl) ?_
              obtain ⟨hin, hf⟩ := gd_e hf
              refine g_iald hx hb hK hP 6 4 (by decide) rfl hin dX6_speaks_71 ?_
              obtain ⟨J25, eJ25, hf⟩ := jn_e1 hf
              have hJ25 : ∀ (σ24 : Mem) (H : Heap) (locs : List Loc) (ls : Array Slot), J25 σ24 = some (r, σr) → va_P D vwCl (wsG 25 ad (EM ad cI) σ24) H → va_S (AG 25 ad s.heap.size) s.heap H locs → lv_has ls 6 [(0, .ref (ad 0)), (1, .int a0), (2, .int a1), (3, .int v1), (4, .int x12), (5, .int x13)] → W p l e R s m args below meth c H locs 0 0 Q (F0 m 99 ls []) := by
                intro σ24 H locs ls hf hP hS hl
                rw [eJ25] at hf
                refine lv_aload_n hx hb dX6_speaks_99 rfl (lv_at hl 0 rfl) ?_
                refine lv_iload hx hb dX6_speaks_100 (lv_at hl 5 rfl) ?_
                refine lv_iload_n hx hb dX6_speaks_102 rfl (lv_at hl 3 rfl) ?_
                refine lv_iload_n hx hb dX6_speaks_103 rfl (lv_at hl 1 rfl) ?_
                obtain ⟨σ26, hv, hf⟩ := bd_e hf
                refine g_cVvS (k0 := 0) ⟨⟨hx, hb, hml, hown, hB⟩, hK, hi, hA, hAd, hP, hS⟩ (c_X6_hears hi hv) cal_X6_hears kM_X6_138 ⟨Nat.le_trans (Nat.le_of_ble_eq_true rfl) hRf, Nat.le_trans (Nat.le_of_ble_eq_true rfl) hRl⟩ (by decide) rfl rfl rfl hl.1 (Nat.le_of_ble_eq_true rfl) rfl dX6_speaks_104 ⟨Nat.zero_le _, Nat.zero_le _⟩ (fun H locs hP hS => ?_)
                refine lv_iinc (v := (x12 + 1)) (lv' := [(4, .int (x12 + 1)), (0, .ref (ad 0)), (1, .int a0), (2, .int a1), (3, .int v1), (5, .int x13)]) hx hb dX6_speaks_107 hl (k := 4) rfl rfl (by decide) rfl (fun ls hl => ?_)
                exact hJ22 (x12 + 1) σ26 _ _ ls hf hP hS (lv_sub hl [1, 2, 3, 4, 0, 5] rfl)
              refine lv_icmp_eq (tgt := 99) hx hb dX6_speaks_72 (by decide) (fun q27 => ?_) (fun q27 => ?_)
              · rw [if_pos q27] at hf
                exact hJ25 σ14 _ _ ls hf hP hS (lv_sub hl [0, 1, 2, 3, 4, 5] rfl)
              · rw [if_neg q27] at hf
                refine lv_iload_n hx hb dX6_speaks_75 rfl (lv_at hl 2 rfl) ?_
                refine lv_if_eq (tgt := 110) hx hb dX6_speaks_76 (by decide) (fun q28 => ?_) (fun q28 => ?_)
                · rw [if_pos q28] at hf
                  exact hJ22 x12 σ14 _ _ ls hf hP hS (lv_sub hl [0, 1, 2, 3, 4, 5] rfl)
                · rw [if_neg q28] at hf
                  refine lv_aload_n hx hb dX6_speaks_79 rfl (lv_at hl 0 rfl) ?_
                  refine lv_aload_n hx hb dX6_speaks_80 rfl (lv_at hl 0 rfl) ?_
                  refine g_get (v := .ref (ad 6)) hx hb hB hown hK hP 0 (by decide) rfl rfl kU_X6 6 (by decide) kF_X6_25 rfl rfl dX6_speaks_81 ?_
                  refine lv_iload_n hx hb dX6_speaks_84 rfl (lv_at hl 3 rfl) ?_
                  obtain ⟨hin, hf⟩ := gd_e hf
                  refine g_iald hx hb hK hP 6 4 (by decide) rfl hin dX6_speaks_85 ?_
                  refine lv_aload_n hx hb dX6_speaks_86 rfl (lv_at hl 0 rfl) ?_
                  refine g_get (v := .ref (ad 6)) hx hb hB hown hK hP 0 (by decide) rfl rfl kU_X6 6 (by decide) kF_X6_25 rfl rfl dX6_speaks_87 ?_
                  refine lv_iload hx hb dX6_speaks_90 (lv_at hl 5 rfl) ?_
                  obtain ⟨hin, hf⟩ := gd_e hf
                  refine g_iald hx hb hK hP 6 4 (by decide) rfl hin dX6_speaks_92 ?_
                  obtain ⟨v29, hv, hf⟩ := bd_e hf
                  refine g_cViS (k0 := 0) ⟨⟨hx, hb, hml, hown, hB⟩, hK, hi, hA, hAd, hP, hS⟩ (c_X6_isNextTo hi hv) cal_X6_isNextTo kM_X6_134 ⟨Nat.le_trans (Nat.le_of_ble_eq_true rfl) hRf, Nat.le_trans (Nat.le_of_ble_eq_true rfl) hRl⟩ (by decide) rfl rfl rfl hl.1 (Nat.le_of_ble_eq_true rfl) rfl dX6_speaks_93 ⟨Nat.zero_le _, Nat.zero_le _⟩ (fun H locs hP hS => ?_)
                  refine lv_if_eq (tgt := 110) hx hb dX6_speaks_96 (by decide) (fun q30 => ?_) (fun q30 => ?_)
                  · rw [if_pos q30] at hf
                    exact hJ22 x12 σ14 _ _ ls hf hP hS (lv_sub hl [0, 1, 2, 3, 4, 5] rfl)
                  · rw [if_neg q30] at hf
                    exact hJ25 σ14 _ _ ls hf hP hS (lv_sub hl [0, 1, 2, 3, 4, 5] rfl)
      exact hL_X6_speaks_44 FU 0 0 σ7 _ _ ls hf hP hS (lv_sub hl [2, 3, 4, 5, 1, 0] rfl)
    · rw [if_pos q8] at hf
      refine lv_iconst (v := 0) hx hb dX6_speaks_36 (by decide) ?_
      obtain ⟨h1, h2⟩ := rt2 hf
      rw [hQ]
      exact g_iret hx hb hr hlocks hP hS h1 h2 dX6_speaks_37
  refine lv_if_ne (tgt := 20) hx hb dX6_speaks_13 (by decide) (fun q31 => ?_) (fun q31 => ?_)
  · rw [if_neg q31] at hf
    refine lv_iload_n hx hb dX6_speaks_20 rfl (lv_at hl 0 rfl) ?_
    refine lv_iconst (v := (-1)) hx hb dX6_speaks_21 (by decide) ?_
    refine lv_icmp_ne (tgt := 29) hx hb dX6_speaks_22 (by decide) (fun q32 => ?_) (fun q32 => ?_)
    · rw [if_neg q32] at hf
      refine lv_iconst (v := 0) hx hb dX6_speaks_29 (by decide) ?_
      exact hJ5 0 σ _ _ ls hf hP hS (lv_sub hl [1, 2, 3, 0] rfl)
    · rw [if_pos q32] at hf
      refine lv_iconst (v := 2) hx hb dX6_speaks_25 (by decide) ?_
      refine lv_goto (tgt := 30) hx hb dX6_speaks_26 (by decide) ?_
      exact hJ5 2 σ _ _ ls hf hP hS (lv_sub hl [1, 2, 3, 0] rfl)
  · rw [if_pos q31] at hf
    refine lv_iconst (v := 1) hx hb dX6_speaks_16 (by decide) ?_
    refine lv_goto (tgt := 30) hx hb dX6_speaks_17 (by decide) ?_
    exact hJ5 1 σ _ _ ls hf hP hS (lv_sub hl [1, 2, 3, 0] rfl)
def f_X6_say (σ : Mem) (a0 : Int32) : Option (Int32 × Mem) :=
bd2 (f_X6_speaks σ a0 0) fun v1 σ2 =>
some (v1, σ2)
set_option maxHeartbeats 4000000 in
set_option maxRecDepth 100000 in
theorem c_X6_say {l : Launch} {D : va_G} {cI cJ : ClassId} {ad : Nat → Nat} {σ : Mem} {a0 : Int32} {r : Int32} {σr : Mem}  (hi : injG 25 ad) (hf : f_X6_say σ a0 = some (r, σr)) : MGi l yX6_say (Cond.code yX6_say cX6_say 2 (some .int) :: BIG) 4 95 D cI cJ 25 ad (EM ad cI) [.ref (ad 0), .int a0] σ σr r := by
  refine MGi.ofW (cc := cX6_say) (nL := 2) (ret := (some .int)) (by decide) rfl hi ?_
  intro p e s m args below meth c hx hb hr hml hlocks hown hB hK hP hA hAd hS
  have hown : s.vm.findClass RX6 = some m.cls := hown
  have hl := lv_entry ([.ref (ad 0), .int a0] : List Value) (n := 2) (Nat.le_of_ble_eq_true rfl)
  rw [lg_entry_eq]
  generalize (lg_sl ([.ref (ad 0), .int a0] : List Value) ++ List.replicate (2 - (lg_sl ([.ref (ad 0), .int a0] : List Value)).length) Slot.unset).toArray = ls at hl ⊢
  have hl : lv_has ls 2 [(0, .ref (ad 0)), (1, .int a0)] := hl
  generalize hQ : MQ below (Qgi D 25 ad (EM ad cI) r σr s.heap.size) _ s 0 0 (AG 25 ad s.heap.size) = Q
  have hQ := hQ.symm
  obtain ⟨R, hR, hRf, hRl⟩ : ∃ R : Room, R = ({ frames := 4, cells := 0, slots := 0, locals := 95 } : Room) ∧ 4 ≤ R.frames ∧ 95 ≤ R.locals := ⟨_, rfl, Nat.le_refl _, Nat.le_refl _⟩
  rw [← hR]
  unfold f_X6_say at hf
  refine lv_aload_n hx hb dX6_say_0 rfl (lv_at hl 0 rfl) ?_
  refine lv_iload_n hx hb dX6_say_1 rfl (lv_at hl 1 rfl) ?_
  refine lv_iconst (v := 0) hx hb dX6_say_2 (by decide) ?_
  obtain ⟨v1, σ2, hv, hf⟩ := bd2_e hf
  refine g_cViS (k0 := 0) ⟨⟨hx, hb, hml, hown, hB⟩, hK, hi, hA, hAd, hP, hS⟩ (c_X6_speaks hi hv) cal_X6_speaks kM_X6_142 ⟨Nat.le_trans (Nat.le_of_ble_eq_true rfl) hRf, Nat.le_trans (Nat.le_of_ble_eq_true rfl) hRl⟩ (by decide) rfl rfl rfl hl.1 (Nat.le_of_ble_eq_true rfl) rfl dX6_say_3 ⟨Nat.zero_le _, Nat.zero_le _⟩ (fun H locs hP hS => ?_)
  obtain ⟨h1, h2⟩ := rt2 hf
  rw [hQ]
  exact g_iret hx hb hr hlocks hP hS h1 h2 dX6_say_6
def f_X6_shout (σ : Mem) (a0 : Int32) : Option (Int32 × Mem) :=
bd2 (f_X6_speaks σ a0 1) fun v1 σ2 =>
some (v1, σ2)
set_option maxHeartbeats 4000000 in
set_option maxRecDepth 100000 in
theorem c_X6_shout {l : Launch} {D : va_G} {cI cJ : ClassId} {ad : Nat → Nat} {σ : Mem} {a0 : Int32} {r : Int32} {σr : Mem}  (hi : injG 25 ad) (hf : f_X6_shout σ a0 = some (r, σr)) : MGi l yX6_shout (Cond.code yX6_shout cX6_shout 2 (some .int) :: BIG) 4 95 D cI cJ 25 ad (EM ad cI) [.ref (ad 0), .int a0] σ σr r := by
  refine MGi.ofW (cc := cX6_shout) (nL := 2) (ret := (some .int)) (by decide) rfl hi ?_
  intro p e s m args below meth c hx hb hr hml hlocks hown hB hK hP hA hAd hS
  have hown : s.vm.findClass RX6 = some m.cls := hown
  have hl := lv_entry ([.ref (ad 0), .int a0] : List Value) (n := 2) (Nat.le_of_ble_eq_true rfl)
  rw [lg_entry_eq]
  generalize (lg_sl ([.ref (ad 0), .int a0] : List Value) ++ List.replicate (2 - (lg_sl ([.ref (ad 0), .int a0] : List Value)).length) Slot.unset).toArray = ls at hl ⊢
  have hl : lv_has ls 2 [(0, .ref (ad 0)), (1, .int a0)] := hl
  generalize hQ : MQ below (Qgi D 25 ad (EM ad cI) r σr s.heap.size) _ s 0 0 (AG 25 ad s.heap.size) = Q
  have hQ := hQ.symm
  obtain ⟨R, hR, hRf, hRl⟩ : ∃ R : Room, R = ({ frames := 4, cells := 0, slots := 0, locals := 95 } : Room) ∧ 4 ≤ R.frames ∧ 95 ≤ R.locals := ⟨_, rfl, Nat.le_refl _, Nat.le_refl _⟩
  rw [← hR]
  unfold f_X6_shout at hf
  refine lv_aload_n hx hb dX6_shout_0 rfl (lv_at hl 0 rfl) ?_
  refine lv_iload_n hx hb dX6_shout_1 rfl (lv_at hl 1 rfl) ?_
  refine lv_iconst (v := 1) hx hb dX6_shout_2 (by decide) ?_
  obtain ⟨v1, σ2, hv, hf⟩ := bd2_e hf
  refine g_cViS (k0 := 0) ⟨⟨hx, hb, hml, hown, hB⟩, hK, hi, hA, hAd, hP, hS⟩ (c_X6_speaks hi hv) cal_X6_speaks kM_X6_142 ⟨Nat.le_trans (Nat.le_of_ble_eq_true rfl) hRf, Nat.le_trans (Nat.le_of_ble_eq_true rfl) hRl⟩ (by decide) rfl rfl rfl hl.1 (Nat.le_of_ble_eq_true rfl) rfl dX6_shout_3 ⟨Nat.zero_le _, Nat.zero_le _⟩ (fun H locs hP hS => ?_)
  obtain ⟨h1, h2⟩ := rt2 hf
  rw [hQ]
  exact g_iret hx hb hr hlocks hP hS h1 h2 dX6_shout_6
def f_X6_take (σ : Mem) (a0 : Int32) : Option (Int32 × Mem) :=
bd (f_X6_actor σ) fun v1 =>
bd (f_X6_isKind a0) fun v2 =>
jn (fun (y3 : Int32) (σ4 : Mem) =>
bd2 (f_X6_can σ4 y3) fun v6 σ7 =>
if v6 = 0 then (
some (0, σ7))
else (
gd v1 4 <|
gd ((5 * (σ7 6 v1.toNatClampNeg)) + a0) 40 <|
gd ((5 * (σ7 6 v1.toNatClampNeg)) + a0) 40 <| stp (mu σ7 2 ((5 * (σ7 6 v1.toNatClampNeg)) + a0).toNatClampNeg ((σ7 2 ((5 * (σ7 6 v1.toNatClampNeg)) + a0).toNatClampNeg) - 1)) fun σ9 =>
gd ((5 * v1) + a0) 20 <|
gd ((5 * v1) + a0) 20 <| stp (mu σ9 11 ((5 * v1) + a0).toNatClampNeg ((σ9 11 ((5 * v1) + a0).toNatClampNeg) + 1)) fun σ10 =>
bd (f_X6_ends σ10 v1 1 (-1) (-1)) fun σ11 =>
gd ((5 * v1) + a0) 20 <|
some ((σ11 11 ((5 * v1) + a0).toNatClampNeg), σ11))) fun (J5 : Int32 → Mem → Option (Int32 × Mem)) =>
if v2 = 0 then (
J5 1 σ)
else (
jn (fun (σ13 : Mem) =>
J5 2 σ13) fun (J14 : Mem → Option (Int32 × Mem)) =>
if v1 = (-1) then (
J14 σ)
else (
gd v1 4 <|
gd ((5 * (σ 6 v1.toNatClampNeg)) + a0) 40 <|
if (σ 2 ((5 * (σ 6 v1.toNatClampNeg)) + a0).toNatClampNeg) = 0 then (
J14 σ)
else (
J5 0 σ)))
set_option maxHeartbeats 4000000 in
set_option maxRecDepth 100000 in
theorem c_X6_take {l : Launch} {D : va_G} {cI cJ : ClassId} {ad : Nat → Nat} {σ : Mem} {a0 : Int32} {r : Int32} {σr : Mem}  (hi : injG 25 ad) (hf : f_X6_take σ a0 = some (r, σr)) : MGi l yX6_take (Cond.code yX6_take cX6_take 3 (some .int) :: BIG) 3 70 D cI cJ 25 ad (EM ad cI) [.ref (ad 0), .int a0] σ σr r := by
  refine MGi.ofW (cc := cX6_take) (nL := 3) (ret := (some .int)) (by decide) rfl hi ?_
  intro p e s m args below meth c hx hb hr hml hlocks hown hB hK hP hA hAd hS
  have hown : s.vm.findClass RX6 = some m.cls := hown
  have hl := lv_entry ([.ref (ad 0), .int a0] : List Value) (n := 3) (Nat.le_of_ble_eq_true rfl)
  rw [lg_entry_eq]
  generalize (lg_sl ([.ref (ad 0), .int a0] : List Value) ++ List.replicate (3 - (lg_sl ([.ref (ad 0), .int a0] : List Value)).length) Slot.unset).toArray = ls at hl ⊢
  have hl : lv_has ls 3 [(0, .ref (ad 0)), (1, .int a0)] := hl
  generalize hQ : MQ below (Qgi D 25 ad (EM ad cI) r σr s.heap.size) _ s 0 0 (AG 25 ad s.heap.size) = Q
  have hQ := hQ.symm
  obtain ⟨R, hR, hRf, hRl⟩ : ∃ R : Room, R = ({ frames := 3, cells := 0, slots := 0, locals := 70 } : Room) ∧ 3 ≤ R.frames ∧ 70 ≤ R.locals := ⟨_, rfl, Nat.le_refl _, Nat.le_refl _⟩
  rw [← hR]
  unfold f_X6_take at hf
  refine lv_aload_n hx hb dX6_take_0 rfl (lv_at hl 0 rfl) ?_
  obtain ⟨v1, hv, hf⟩ := bd_e hf
  refine g_cViS (k0 := 0) ⟨⟨hx, hb, hml, hown, hB⟩, hK, hi, hA, hAd, hP, hS⟩ (c_X6_actor hi hv) cal_X6_actor kM_X6_102 ⟨Nat.le_trans (Nat.le_of_ble_eq_true rfl) hRf, Nat.le_trans (Nat.le_of_ble_eq_true rfl) hRl⟩ (by decide) rfl rfl rfl hl.1 (Nat.le_of_ble_eq_true rfl) rfl dX6_take_1 ⟨Nat.zero_le _, Nat.zero_le _⟩ (fun H locs hP hS => ?_)
  refine lv_istore_n (lv' := [(2, .int v1), (0, .ref (ad 0)), (1, .int a0)]) hx hb dX6_take_4 rfl hl (by decide) rfl (fun ls hl => ?_)
  refine lv_aload_n hx hb dX6_take_5 rfl (lv_at hl 1 rfl) ?_
  refine lv_iload_n hx hb dX6_take_6 rfl (lv_at hl 2 rfl) ?_
  obtain ⟨v2, hv, hf⟩ := bd_e hf
  refine g_cSi0 ⟨⟨hx, hb, hml, hown, hB⟩, hK, hi, hA, hAd, hP, hS⟩ (c_X6_isKind hv) cal_X6_isKind kM_X6_116 ⟨Nat.le_trans (Nat.le_of_ble_eq_true rfl) hRf, Nat.le_trans (Nat.le_of_ble_eq_true rfl) hRl⟩ rfl hl.1 (Nat.le_of_ble_eq_true rfl) rfl dX6_take_7 ⟨Nat.zero_le _, Nat.zero_le _⟩ (fun H locs hP hS => ?_)
  obtain ⟨J5, eJ5, hf⟩ := jn_e2 hf
  have hJ5 : ∀ (y3 : Int32) (σ4 : Mem) (H : Heap) (locs : List Loc) (ls : Array Slot), J5 y3 σ4 = some (r, σr) → va_P D vwCl (wsG 25 ad (EM ad cI) σ4) H → va_S (AG 25 ad s.heap.size) s.heap H locs → lv_has ls 3 [(0, .ref (ad 0)), (1, .int a0), (2, .int v1)] → W p l e R s m args below meth c H locs 0 0 Q (F0 m 45 ls [.int y3, .ref (ad 0)]) := by
    intro y3 σ4 H locs ls hf hP hS hl
    rw [eJ5] at hf
    obtain ⟨v6, σ7, hv, hf⟩ := bd2_e hf
    refine g_cViS (k0 := 0) ⟨⟨hx, hb, hml, hown, hB⟩, hK, hi, hA, hAd, hP, hS⟩ (c_X6_can hi hv) cal_X6_can kM_X6_110 ⟨Nat.le_trans (Nat.le_of_ble_eq_true rfl) hRf, Nat.le_trans (Nat.le_of_ble_eq_true rfl) hRl⟩ (by decide) rfl rfl rfl hl.1 (Nat.le_of_ble_eq_true rfl) rfl dX6_take_45 ⟨Nat.zero_le _, Nat.zero_le _⟩ (fun H locs hP hS => ?_)
    refine lv_if_ne (tgt := 53) hx hb dX6_take_48 (by decide) (fun q8 => ?_) (fun q8 => ?_)
    · rw [if_neg q8] at hf
      refine lv_aload_n hx hb dX6_take_53 rfl (lv_at hl 0 rfl) ?_
      refine g_get (v := .ref (ad 2)) hx hb hB hown hK hP 0 (by decide) rfl rfl kU_X6 1 (by decide) kF_X6_13 rfl rfl dX6_take_54 ?_
      refine lv_iconst (v := 5) hx hb dX6_take_57 (by decide) ?_
      refine lv_aload_n hx hb dX6_take_58 rfl (lv_at hl 0 rfl) ?_
      refine g_get (v := .ref (ad 6)) hx hb hB hown hK hP 0 (by decide) rfl rfl kU_X6 6 (by decide) kF_X6_25 rfl rfl dX6_take_59 ?_
      refine lv_iload_n hx hb dX6_take_62 rfl (lv_at hl 2 rfl) ?_
      obtain ⟨hin, hf⟩ := gd_e hf
      refine g_iald hx hb hK hP 6 4 (by decide) rfl hin dX6_take_63 ?_
      refine lv_imul hx hb dX6_take_64 ?_
      refine lv_iload_n hx hb dX6_take_65 rfl (lv_at hl 1 rfl) ?_
      refine lv_iadd hx hb dX6_take_66 ?_
      refine lv_dup2_11 hx hb dX6_take_67 rfl rfl ?_
      obtain ⟨hin, hf⟩ := gd_e hf
      refine g_iald hx hb hK hP 2 40 (by decide) rfl hin dX6_take_68 ?_
      refine lv_iconst (v := 1) hx hb dX6_take_69 (by decide) ?_
      refine lv_isub hx hb dX6_take_70 ?_
      obtain ⟨hin, hf⟩ := gd_e hf
      obtain ⟨σ9, eσ9, hf⟩ := stp_e hf
      refine g_iast (σ1 := σ9) hx hb hK hP hi hAd hS 2 40 (by decide) (fun _ => rfl) hin dX6_take_71 eσ9 (fun H locs hP hS => ?_)
      refine lv_aload_n hx hb dX6_take_72 rfl (lv_at hl 0 rfl) ?_
      refine g_get (v := .ref (ad 11)) hx hb hB hown hK hP 0 (by decide) rfl rfl kU_X6 11 (by decide) kF_X6_40 rfl rfl dX6_take_73 ?_
      refine lv_iconst (v := 5) hx hb dX6_take_76 (by decide) ?_
      refine lv_iload_n hx hb dX6_take_77 rfl (lv_at hl 2 rfl) ?_
      refine lv_imul hx hb dX6_take_78 ?_
      refine lv_iload_n hx hb dX6_take_79 rfl (lv_at hl 1 rfl) ?_
      refine lv_iadd hx hb dX6_take_80 ?_
      refine lv_dup2_11 hx hb dX6_take_81 rfl rfl ?_
      obtain ⟨hin, hf⟩ := gd_e hf
      refine g_iald hx hb hK hP 11 20 (by decide) rfl hin dX6_take_82 ?_
      refine lv_iconst (v := 1) hx hb dX6_take_83 (by decide) ?_
      refine lv_iadd hx hb dX6_take_84 ?_
      obtain ⟨hin, hf⟩ := gd_e hf
      obtain ⟨σ10, eσ10, hf⟩ := stp_e hf
      refine g_iast (σ1 := σ10) hx hb hK hP hi hAd hS 11 20 (by decide) (fun _ => rfl) hin dX6_take_85 eσ10 (fun H locs hP hS => ?_)
      refine lv_aload_n hx hb dX6_take_86 rfl (lv_at hl 0 rfl) ?_
      refine lv_iload_n hx hb dX6_take_87 rfl (lv_at hl 2 rfl) ?_
      refine lv_iconst (v := 1) hx hb dX6_take_88 (by decide) ?_
      refine lv_iconst (v := (-1)) hx hb dX6_take_89 (by decide) ?_
      refine lv_iconst (v := (-1)) hx hb dX6_take_90 (by decide) ?_
      obtain ⟨σ11, hv, hf⟩ := bd_e hf
      refine g_cVvS (k0 := 0) ⟨⟨hx, hb, hml, hown, hB⟩, hK, hi, hA, hAd, hP, hS⟩ (c_X6_ends hi hv) cal_X6_ends kM_X6_130 ⟨Nat.le_trans (Nat.le_of_ble_eq_true rfl) hRf, Nat.le_trans (Nat.le_of_ble_eq_true rfl) hRl⟩ (by decide) rfl rfl rfl hl.1 (Nat.le_of_ble_eq_true rfl) rfl dX6_take_91 ⟨Nat.zero_le _, Nat.zero_le _⟩ (fun H locs hP hS => ?_)
      refine lv_aload_n hx hb dX6_take_94 rfl (lv_at hl 0 rfl) ?_
      refine g_get (v := .ref (ad 11)) hx hb hB hown hK hP 0 (by decide) rfl rfl kU_X6 11 (by decide) kF_X6_40 rfl rfl dX6_take_95 ?_
      refine lv_iconst (v := 5) hx hb dX6_take_98 (by decide) ?_
      refine lv_iload_n hx hb dX6_take_99 rfl (lv_at hl 2 rfl) ?_
      refine lv_imul hx hb dX6_take_100 ?_
      refine lv_iload_n hx hb dX6_take_101 rfl (lv_at hl 1 rfl) ?_
      refine lv_iadd hx hb dX6_take_102 ?_
      obtain ⟨hin, hf⟩ := gd_e hf
      refine g_iald hx hb hK hP 11 20 (by decide) rfl hin dX6_take_103 ?_
      obtain ⟨h1, h2⟩ := rt2 hf
      rw [hQ]
      exact g_iret hx hb hr hlocks hP hS h1 h2 dX6_take_104
    · rw [if_pos q8] at hf
      refine lv_iconst (v := 0) hx hb dX6_take_51 (by decide) ?_
      obtain ⟨h1, h2⟩ := rt2 hf
      rw [hQ]
      exact g_iret hx hb hr hlocks hP hS h1 h2 dX6_take_52
  refine lv_if_ne (tgt := 17) hx hb dX6_take_10 (by decide) (fun q12 => ?_) (fun q12 => ?_)
  · rw [if_neg q12] at hf
    refine lv_iload_n hx hb dX6_take_17 rfl (lv_at hl 0 rfl) ?_
    refine lv_iconst (v := (-1)) hx hb dX6_take_18 (by decide) ?_
    obtain ⟨J14, eJ14, hf⟩ := jn_e1 hf
    have hJ14 : ∀ (σ13 : Mem) (H : Heap) (locs : List Loc) (ls : Array Slot), J14 σ13 = some (r, σr) → va_P D vwCl (wsG 25 ad (EM ad cI) σ13) H → va_S (AG 25 ad s.heap.size) s.heap H locs → lv_has ls 3 [(0, .ref (ad 0)), (1, .int a0), (2, .int v1)] → W p l e R s m args below meth c H locs 0 0 Q (F0 m 40 ls [.ref (ad 0)]) := by
      intro σ13 H locs ls hf hP hS hl
      rw [eJ14] at hf
      refine lv_iconst (v := 2) hx hb dX6_take_40 (by decide) ?_
      refine lv_goto (tgt := 45) hx hb dX6_take_41 (by decide) ?_
      exact hJ5 2 σ13 _ _ ls hf hP hS (lv_sub hl [0, 1, 2] rfl)
    refine lv_icmp_eq (tgt := 40) hx hb dX6_take_19 (by decide) (fun q15 => ?_) (fun q15 => ?_)
    · rw [if_pos q15] at hf
      exact hJ14 σ _ _ ls hf hP hS (lv_sub hl [1, 2, 0] rfl)
    · rw [if_neg q15] at hf
      refine lv_aload_n hx hb dX6_take_22 rfl (lv_at hl 1 rfl) ?_
      refine g_get (v := .ref (ad 2)) hx hb hB hown hK hP 0 (by decide) rfl rfl kU_X6 1 (by decide) kF_X6_13 rfl rfl dX6_take_23 ?_
      refine lv_iconst (v := 5) hx hb dX6_take_26 (by decide) ?_
      refine lv_aload_n hx hb dX6_take_27 rfl (lv_at hl 1 rfl) ?_
      refine g_get (v := .ref (ad 6)) hx hb hB hown hK hP 0 (by decide) rfl rfl kU_X6 6 (by decide) kF_X6_25 rfl rfl dX6_take_28 ?_
      refine lv_iload_n hx hb dX6_take_31 rfl (lv_at hl 0 rfl) ?_
      obtain ⟨hin, hf⟩ := gd_e hf
      refine g_iald hx hb hK hP 6 4 (by decide) rfl hin dX6_take_32 ?_
      refine lv_imul hx hb dX6_take_33 ?_
      refine lv_iload_n hx hb dX6_take_34 rfl (lv_at hl 2 rfl) ?_
      refine lv_iadd hx hb dX6_take_35 ?_
      obtain ⟨hin, hf⟩ := gd_e hf
      refine g_iald hx hb hK hP 2 40 (by decide) rfl hin dX6_take_36 ?_
      refine lv_if_ne (tgt := 44) hx hb dX6_take_37 (by decide) (fun q16 => ?_) (fun q16 => ?_)
      · rw [if_neg q16] at hf
        refine lv_iconst (v := 0) hx hb dX6_take_44 (by decide) ?_
        exact hJ5 0 σ _ _ ls hf hP hS (lv_sub hl [1, 2, 0] rfl)
      · rw [if_pos q16] at hf
        exact hJ14 σ _ _ ls hf hP hS (lv_sub hl [1, 2, 0] rfl)
  · rw [if_pos q12] at hf
    refine lv_iconst (v := 1) hx hb dX6_take_13 (by decide) ?_
    refine lv_goto (tgt := 45) hx hb dX6_take_14 (by decide) ?_
    exact hJ5 1 σ _ _ ls hf hP hS (lv_sub hl [1, 2, 0] rfl)
def f_X6_drop (σ : Mem) (a0 : Int32) : Option (Int32 × Mem) :=
bd (f_X6_actor σ) fun v1 =>
bd (f_X6_isKind a0) fun v2 =>
jn (fun (y3 : Int32) (σ4 : Mem) =>
bd2 (f_X6_can σ4 y3) fun v6 σ7 =>
if v6 = 0 then (
some (0, σ7))
else (
gd ((5 * v1) + a0) 20 <|
gd ((5 * v1) + a0) 20 <| stp (mu σ7 11 ((5 * v1) + a0).toNatClampNeg ((σ7 11 ((5 * v1) + a0).toNatClampNeg) - 1)) fun σ9 =>
gd v1 4 <|
gd ((5 * (σ9 6 v1.toNatClampNeg)) + a0) 40 <|
gd ((5 * (σ9 6 v1.toNatClampNeg)) + a0) 40 <| stp (mu σ9 2 ((5 * (σ9 6 v1.toNatClampNeg)) + a0).toNatClampNeg ((σ9 2 ((5 * (σ9 6 v1.toNatClampNeg)) + a0).toNatClampNeg) + 1)) fun σ10 =>
bd (f_X6_ends σ10 v1 1 (-1) (-1)) fun σ11 =>
gd ((5 * v1) + a0) 20 <|
some ((σ11 11 ((5 * v1) + a0).toNatClampNeg), σ11))) fun (J5 : Int32 → Mem → Option (Int32 × Mem)) =>
if v2 = 0 then (
J5 1 σ)
else (
jn (fun (σ13 : Mem) =>
J5 2 σ13) fun (J14 : Mem → Option (Int32 × Mem)) =>
if v1 = (-1) then (
J14 σ)
else (
gd ((5 * v1) + a0) 20 <|
if (σ 11 ((5 * v1) + a0).toNatClampNeg) = 0 then (
J14 σ)
else (
J5 0 σ)))
set_option maxHeartbeats 4000000 in
set_option maxRecDepth 100000 in
theorem c_X6_drop {l : Launch} {D : va_G} {cI cJ : ClassId} {ad : Nat → Nat} {σ : Mem} {a0 : Int32} {r : Int32} {σr : Mem}  (hi : injG 25 ad) (hf : f_X6_drop σ a0 = some (r, σr)) : MGi l yX6_drop (Cond.code yX6_drop cX6_drop 3 (some .int) :: BIG) 3 70 D cI cJ 25 ad (EM ad cI) [.ref (ad 0), .int a0] σ σr r := by
  refine MGi.ofW (cc := cX6_drop) (nL := 3) (ret := (some .int)) (by decide) rfl hi ?_
  intro p e s m args below meth c hx hb hr hml hlocks hown hB hK hP hA hAd hS
  have hown : s.vm.findClass RX6 = some m.cls := hown
  have hl := lv_entry ([.ref (ad 0), .int a0] : List Value) (n := 3) (Nat.le_of_ble_eq_true rfl)
  rw [lg_entry_eq]
  generalize (lg_sl ([.ref (ad 0), .int a0] : List Value) ++ List.replicate (3 - (lg_sl ([.ref (ad 0), .int a0] : List Value)).length) Slot.unset).toArray = ls at hl ⊢
  have hl : lv_has ls 3 [(0, .ref (ad 0)), (1, .int a0)] := hl
  generalize hQ : MQ below (Qgi D 25 ad (EM ad cI) r σr s.heap.size) _ s 0 0 (AG 25 ad s.heap.size) = Q
  have hQ := hQ.symm
  obtain ⟨R, hR, hRf, hRl⟩ : ∃ R : Room, R = ({ frames := 3, cells := 0, slots := 0, locals := 70 } : Room) ∧ 3 ≤ R.frames ∧ 70 ≤ R.locals := ⟨_, rfl, Nat.le_refl _, Nat.le_refl _⟩
  rw [← hR]
  unfold f_X6_drop at hf
  refine lv_aload_n hx hb dX6_drop_0 rfl (lv_at hl 0 rfl) ?_
  obtain ⟨v1, hv, hf⟩ := bd_e hf
  refine g_cViS (k0 := 0) ⟨⟨hx, hb, hml, hown, hB⟩, hK, hi, hA, hAd, hP, hS⟩ (c_X6_actor hi hv) cal_X6_actor kM_X6_102 ⟨Nat.le_trans (Nat.le_of_ble_eq_true rfl) hRf, Nat.le_trans (Nat.le_of_ble_eq_true rfl) hRl⟩ (by decide) rfl rfl rfl hl.1 (Nat.le_of_ble_eq_true rfl) rfl dX6_drop_1 ⟨Nat.zero_le _, Nat.zero_le _⟩ (fun H locs hP hS => ?_)
  refine lv_istore_n (lv' := [(2, .int v1), (0, .ref (ad 0)), (1, .int a0)]) hx hb dX6_drop_4 rfl hl (by decide) rfl (fun ls hl => ?_)
  refine lv_aload_n hx hb dX6_drop_5 rfl (lv_at hl 1 rfl) ?_
  refine lv_iload_n hx hb dX6_drop_6 rfl (lv_at hl 2 rfl) ?_
  obtain ⟨v2, hv, hf⟩ := bd_e hf
  refine g_cSi0 ⟨⟨hx, hb, hml, hown, hB⟩, hK, hi, hA, hAd, hP, hS⟩ (c_X6_isKind hv) cal_X6_isKind kM_X6_116 ⟨Nat.le_trans (Nat.le_of_ble_eq_true rfl) hRf, Nat.le_trans (Nat.le_of_ble_eq_true rfl) hRl⟩ rfl hl.1 (Nat.le_of_ble_eq_true rfl) rfl dX6_drop_7 ⟨Nat.zero_le _, Nat.zero_le _⟩ (fun H locs hP hS => ?_)
  obtain ⟨J5, eJ5, hf⟩ := jn_e2 hf
  have hJ5 : ∀ (y3 : Int32) (σ4 : Mem) (H : Heap) (locs : List Loc) (ls : Array Slot), J5 y3 σ4 = some (r, σr) → va_P D vwCl (wsG 25 ad (EM ad cI) σ4) H → va_S (AG 25 ad s.heap.size) s.heap H locs → lv_has ls 3 [(0, .ref (ad 0)), (1, .int a0), (2, .int v1)] → W p l e R s m args below meth c H locs 0 0 Q (F0 m 40 ls [.int y3, .ref (ad 0)]) := by
    intro y3 σ4 H locs ls hf hP hS hl
    rw [eJ5] at hf
    obtain ⟨v6, σ7, hv, hf⟩ := bd2_e hf
    refine g_cViS (k0 := 0) ⟨⟨hx, hb, hml, hown, hB⟩, hK, hi, hA, hAd, hP, hS⟩ (c_X6_can hi hv) cal_X6_can kM_X6_110 ⟨Nat.le_trans (Nat.le_of_ble_eq_true rfl) hRf, Nat.le_trans (Nat.le_of_ble_eq_true rfl) hRl⟩ (by decide) rfl rfl rfl hl.1 (Nat.le_of_ble_eq_true rfl) rfl dX6_drop_40 ⟨Nat.zero_le _, Nat.zero_le _⟩ (fun H locs hP hS => ?_)
    refine lv_if_ne (tgt := 48) hx hb dX6_drop_43 (by decide) (fun q8 => ?_) (fun q8 => ?_)
    · rw [if_neg q8] at hf
      refine lv_aload_n hx hb dX6_drop_48 rfl (lv_at hl 0 rfl) ?_
      refine g_get (v := .ref (ad 11)) hx hb hB hown hK hP 0 (by decide) rfl rfl kU_X6 11 (by decide) kF_X6_40 rfl rfl dX6_drop_49 ?_
      refine lv_iconst (v := 5) hx hb dX6_drop_52 (by decide) ?_
      refine lv_iload_n hx hb dX6_drop_53 rfl (lv_at hl 2 rfl) ?_
      refine lv_imul hx hb dX6_drop_54 ?_
      refine lv_iload_n hx hb dX6_drop_55 rfl (lv_at hl 1 rfl) ?_
      refine lv_iadd hx hb dX6_drop_56 ?_
      refine lv_dup2_11 hx hb dX6_drop_57 rfl rfl ?_
      obtain ⟨hin, hf⟩ := gd_e hf
      refine g_iald hx hb hK hP 11 20 (by decide) rfl hin dX6_drop_58 ?_
      refine lv_iconst (v := 1) hx hb dX6_drop_59 (by decide) ?_
      refine lv_isub hx hb dX6_drop_60 ?_
      obtain ⟨hin, hf⟩ := gd_e hf
      obtain ⟨σ9, eσ9, hf⟩ := stp_e hf
      refine g_iast (σ1 := σ9) hx hb hK hP hi hAd hS 11 20 (by decide) (fun _ => rfl) hin dX6_drop_61 eσ9 (fun H locs hP hS => ?_)
      refine lv_aload_n hx hb dX6_drop_62 rfl (lv_at hl 0 rfl) ?_
      refine g_get (v := .ref (ad 2)) hx hb hB hown hK hP 0 (by decide) rfl rfl kU_X6 1 (by decide) kF_X6_13 rfl rfl dX6_drop_63 ?_
      refine lv_iconst (v := 5) hx hb dX6_drop_66 (by decide) ?_
      refine lv_aload_n hx hb dX6_drop_67 rfl (lv_at hl 0 rfl) ?_
      refine g_get (v := .ref (ad 6)) hx hb hB hown hK hP 0 (by decide) rfl rfl kU_X6 6 (by decide) kF_X6_25 rfl rfl dX6_drop_68 ?_
      refine lv_iload_n hx hb dX6_drop_71 rfl (lv_at hl 2 rfl) ?_
      obtain ⟨hin, hf⟩ := gd_e hf
      refine g_iald hx hb hK hP 6 4 (by decide) rfl hin dX6_drop_72 ?_
      refine lv_imul hx hb dX6_drop_73 ?_
      refine lv_iload_n hx hb dX6_drop_74 rfl (lv_at hl 1 rfl) ?_
      refine lv_iadd hx hb dX6_drop_75 ?_
      refine lv_dup2_11 hx hb dX6_drop_76 rfl rfl ?_
      obtain ⟨hin, hf⟩ := gd_e hf
      refine g_iald hx hb hK hP 2 40 (by decide) rfl hin dX6_drop_77 ?_
      refine lv_iconst (v := 1) hx hb dX6_drop_78 (by decide) ?_
      refine lv_iadd hx hb dX6_drop_79 ?_
      obtain ⟨hin, hf⟩ := gd_e hf
      obtain ⟨σ10, eσ10, hf⟩ := stp_e hf
      refine g_iast (σ1 := σ10) hx hb hK hP hi hAd hS 2 40 (by decide) (fun _ => rfl) hin dX6_drop_80 eσ10 (fun H locs hP hS => ?_)
      refine lv_aload_n hx hb dX6_drop_81 rfl (lv_at hl 0 rfl) ?_
      refine lv_iload_n hx hb dX6_drop_82 rfl (lv_at hl 2 rfl) ?_
      refine lv_iconst (v := 1) hx hb dX6_drop_83 (by decide) ?_
      refine lv_iconst (v := (-1)) hx hb dX6_drop_84 (by decide) ?_
      refine lv_iconst (v := (-1)) hx hb dX6_drop_85 (by decide) ?_
      obtain ⟨σ11, hv, hf⟩ := bd_e hf
      refine g_cVvS (k0 := 0) ⟨⟨hx, hb, hml, hown, hB⟩, hK, hi, hA, hAd, hP, hS⟩ (c_X6_ends hi hv) cal_X6_ends kM_X6_130 ⟨Nat.le_trans (Nat.le_of_ble_eq_true rfl) hRf, Nat.le_trans (Nat.le_of_ble_eq_true rfl) hRl⟩ (by decide) rfl rfl rfl hl.1 (Nat.le_of_ble_eq_true rfl) rfl dX6_drop_86 ⟨Nat.zero_le _, Nat.zero_le _⟩ (fun H locs hP hS => ?_)
      refine lv_aload_n hx hb dX6_drop_89 rfl (lv_at hl 0 rfl) ?_
      refine g_get (v := .ref (ad 11)) hx hb hB hown hK hP 0 (by decide) rfl rfl kU_X6 11 (by decide) kF_X6_40 rfl rfl dX6_drop_90 ?_
      refine lv_iconst (v := 5) hx hb dX6_drop_93 (by decide) ?_
      refine lv_iload_n hx hb dX6_drop_94 rfl (lv_at hl 2 rfl) ?_
      refine lv_imul hx hb dX6_drop_95 ?_
      refine lv_iload_n hx hb dX6_drop_96 rfl (lv_at hl 1 rfl) ?_
      refine lv_iadd hx hb dX6_drop_97 ?_
      obtain ⟨hin, hf⟩ := gd_e hf
      refine g_iald hx hb hK hP 11 20 (by decide) rfl hin dX6_drop_98 ?_
      obtain ⟨h1, h2⟩ := rt2 hf
      rw [hQ]
      exact g_iret hx hb hr hlocks hP hS h1 h2 dX6_drop_99
    · rw [if_pos q8] at hf
      refine lv_iconst (v := 0) hx hb dX6_drop_46 (by decide) ?_
      obtain ⟨h1, h2⟩ := rt2 hf
      rw [hQ]
      exact g_iret hx hb hr hlocks hP hS h1 h2 dX6_drop_47
  refine lv_if_ne (tgt := 17) hx hb dX6_drop_10 (by decide) (fun q12 => ?_) (fun q12 => ?_)
  · rw [if_neg q12] at hf
    refine lv_iload_n hx hb dX6_drop_17 rfl (lv_at hl 0 rfl) ?_
    refine lv_iconst (v := (-1)) hx hb dX6_drop_18 (by decide) ?_
    obtain ⟨J14, eJ14, hf⟩ := jn_e1 hf
    have hJ14 : ∀ (σ13 : Mem) (H : Heap) (locs : List Loc) (ls : Array Slot), J14 σ13 = some (r, σr) → va_P D vwCl (wsG 25 ad (EM ad cI) σ13) H → va_S (AG 25 ad s.heap.size) s.heap H locs → lv_has ls 3 [(0, .ref (ad 0)), (1, .int a0), (2, .int v1)] → W p l e R s m args below meth c H locs 0 0 Q (F0 m 35 ls [.ref (ad 0)]) := by
      intro σ13 H locs ls hf hP hS hl
      rw [eJ14] at hf
      refine lv_iconst (v := 2) hx hb dX6_drop_35 (by decide) ?_
      refine lv_goto (tgt := 40) hx hb dX6_drop_36 (by decide) ?_
      exact hJ5 2 σ13 _ _ ls hf hP hS (lv_sub hl [0, 1, 2] rfl)
    refine lv_icmp_eq (tgt := 35) hx hb dX6_drop_19 (by decide) (fun q15 => ?_) (fun q15 => ?_)
    · rw [if_pos q15] at hf
      exact hJ14 σ _ _ ls hf hP hS (lv_sub hl [1, 2, 0] rfl)
    · rw [if_neg q15] at hf
      refine lv_aload_n hx hb dX6_drop_22 rfl (lv_at hl 1 rfl) ?_
      refine g_get (v := .ref (ad 11)) hx hb hB hown hK hP 0 (by decide) rfl rfl kU_X6 11 (by decide) kF_X6_40 rfl rfl dX6_drop_23 ?_
      refine lv_iconst (v := 5) hx hb dX6_drop_26 (by decide) ?_
      refine lv_iload_n hx hb dX6_drop_27 rfl (lv_at hl 0 rfl) ?_
      refine lv_imul hx hb dX6_drop_28 ?_
      refine lv_iload_n hx hb dX6_drop_29 rfl (lv_at hl 2 rfl) ?_
      refine lv_iadd hx hb dX6_drop_30 ?_
      obtain ⟨hin, hf⟩ := gd_e hf
      refine g_iald hx hb hK hP 11 20 (by decide) rfl hin dX6_drop_31 ?_
      refine lv_if_ne (tgt := 39) hx hb dX6_drop_32 (by decide) (fun q16 => ?_) (fun q16 => ?_)
      · rw [if_neg q16] at hf
        refine lv_iconst (v := 0) hx hb dX6_drop_39 (by decide) ?_
        exact hJ5 0 σ _ _ ls hf hP hS (lv_sub hl [1, 2, 0] rfl)
      · rw [if_pos q16] at hf
        exact hJ14 σ _ _ ls hf hP hS (lv_sub hl [1, 2, 0] rfl)
  · rw [if_pos q12] at hf
    refine lv_iconst (v := 1) hx hb dX6_drop_13 (by decide) ?_
    refine lv_goto (tgt := 40) hx hb dX6_drop_14 (by decide) ?_
    exact hJ5 1 σ _ _ ls hf hP hS (lv_sub hl [1, 2, 0] rfl)
def f_X6_isAway (σ : Mem) (a0 a1 : Int32) : Option (Int32) :=
jn (fun (_ : Unit) =>
some 1) fun (J1 : Unit → Option (Int32)) =>
if a0 = (-1) then (
J1 ())
else (
if a1 = a0 then (
J1 ())
else (
gd a1 4 <|
gd a0 4 <|
if (σ 6 a1.toNatClampNeg) = (σ 6 a0.toNatClampNeg) then (
some 0)
else (
J1 ())))
set_option maxHeartbeats 4000000 in
set_option maxRecDepth 100000 in
theorem c_X6_isAway {l : Launch} {D : va_G} {cI cJ : ClassId} {ad : Nat → Nat} {σ : Mem} {a0 a1 : Int32} {r : Int32}  (hi : injG 25 ad) (hf : f_X6_isAway σ a0 a1 = some r) : MGi l yX6_isAway (Cond.code yX6_isAway cX6_isAway 3 (some .boolean) :: BIG) 0 0 D cI cJ 25 ad (EM ad cI) [.ref (ad 0), .int a0, .int a1] σ σ r := by
  refine MGi.ofW (cc := cX6_isAway) (nL := 3) (ret := (some .boolean)) (by decide) rfl hi ?_
  intro p e s m args below meth c hx hb hr hml hlocks hown hB hK hP hA hAd hS
  have hown : s.vm.findClass RX6 = some m.cls := hown
  have hl := lv_entry ([.ref (ad 0), .int a0, .int a1] : List Value) (n := 3) (Nat.le_of_ble_eq_true rfl)
  rw [lg_entry_eq]
  generalize (lg_sl ([.ref (ad 0), .int a0, .int a1] : List Value) ++ List.replicate (3 - (lg_sl ([.ref (ad 0), .int a0, .int a1] : List Value)).length) Slot.unset).toArray = ls at hl ⊢
  have hl : lv_has ls 3 [(0, .ref (ad 0)), (1, .int a0), (2, .int a1)] := hl
  generalize hQ : MQ below (Qgi D 25 ad (EM ad cI) r σ s.heap.size) _ s 0 0 (AG 25 ad s.heap.size) = Q
  have hQ := hQ.symm
  obtain ⟨R, hR, hRf, hRl⟩ : ∃ R : Room, R = ({ frames := 0, cells := 0, slots := 0, locals := 0 } : Room) ∧ 0 ≤ R.frames ∧ 0 ≤ R.locals := ⟨_, rfl, Nat.le_refl _, Nat.le_refl _⟩
  rw [← hR]
  unfold f_X6_isAway at hf
  refine lv_iload_n hx hb dX6_isAway_0 rfl (lv_at hl 1 rfl) ?_
  refine lv_iconst (v := (-1)) hx hb dX6_isAway_1 (by decide) ?_
  obtain ⟨J1, eJ1, hf⟩ := jn_e0 hf
  have hJ1 : ∀ (_ : Unit) (H : Heap) (locs : List Loc) (ls : Array Slot), J1 () = some r → va_P D vwCl (wsG 25 ad (EM ad cI) σ) H → va_S (AG 25 ad s.heap.size) s.heap H locs → lv_has ls 3 [] → W p l e R s m args below meth c H locs 0 0 Q (F0 m 25 ls []) := by
    intro _ H locs ls hf hP hS hl
    rw [eJ1] at hf
    refine lv_iconst (v := 1) hx hb dX6_isAway_25 (by decide) ?_
    refine lv_goto (tgt := 30) hx hb dX6_isAway_26 (by decide) ?_
    have h1 := rt1 hf
    rw [hQ]
    exact g_zret hx hb hr hlocks hP hS (Or.inr rfl) h1 rfl dX6_isAway_30
  refine lv_icmp_eq (tgt := 25) hx hb dX6_isAway_2 (by decide) (fun q2 => ?_) (fun q2 => ?_)
  · rw [if_pos q2] at hf
    exact hJ1 () _ _ ls hf hP hS (lv_sub hl [] rfl)
  · rw [if_neg q2] at hf
    refine lv_iload_n hx hb dX6_isAway_5 rfl (lv_at hl 2 rfl) ?_
    refine lv_iload_n hx hb dX6_isAway_6 rfl (lv_at hl 1 rfl) ?_
    refine lv_icmp_eq (tgt := 25) hx hb dX6_isAway_7 (by decide) (fun q3 => ?_) (fun q3 => ?_)
    · rw [if_pos q3] at hf
      exact hJ1 () _ _ ls hf hP hS (lv_sub hl [] rfl)
    · rw [if_neg q3] at hf
      refine lv_aload_n hx hb dX6_isAway_10 rfl (lv_at hl 0 rfl) ?_
      refine g_get (v := .ref (ad 6)) hx hb hB hown hK hP 0 (by decide) rfl rfl kU_X6 6 (by decide) kF_X6_25 rfl rfl dX6_isAway_11 ?_
      refine lv_iload_n hx hb dX6_isAway_14 rfl (lv_at hl 2 rfl) ?_
      obtain ⟨hin, hf⟩ := gd_e hf
      refine g_iald hx hb hK hP 6 4 (by decide) rfl hin dX6_isAway_15 ?_
      refine lv_aload_n hx hb dX6_isAway_16 rfl (lv_at hl 0 rfl) ?_
      refine g_get (v := .ref (ad 6)) hx hb hB hown hK hP 0 (by decide) rfl rfl kU_X6 6 (by decide) kF_X6_25 rfl rfl dX6_isAway_17 ?_
      refine lv_iload_n hx hb dX6_isAway_20 rfl (lv_at hl 1 rfl) ?_
      obtain ⟨hin, hf⟩ := gd_e hf
      refine g_iald hx hb hK hP 6 4 (by decide) rfl hin dX6_isAway_21 ?_
      refine lv_icmp_eq (tgt := 29) hx hb dX6_isAway_22 (by decide) (fun q4 => ?_) (fun q4 => ?_)
      · rw [if_pos q4] at hf
        refine lv_iconst (v := 0) hx hb dX6_isAway_29 (by decide) ?_
        have h1 := rt1 hf
        rw [hQ]
        exact g_zret hx hb hr hlocks hP hS (Or.inl rfl) h1 rfl dX6_isAway_30
      · rw [if_neg q4] at hf
        exact hJ1 () _ _ ls hf hP hS (lv_sub hl [] rfl)
def f_X6_give (σ : Mem) (a0 a1 : Int32) : Option (Int32 × Mem) :=
bd (f_X6_actor σ) fun v1 =>
bd (f_X6_isPlayer σ a0) fun v2 =>
jn (fun (y3 : Int32) (σ4 : Mem) =>
bd2 (f_X6_can σ4 y3) fun v6 σ7 =>
if v6 = 0 then (
some (0, σ7))
else (
gd ((5 * v1) + a1) 20 <|
gd ((5 * v1) + a1) 20 <| stp (mu σ7 11 ((5 * v1) + a1).toNatClampNeg ((σ7 11 ((5 * v1) + a1).toNatClampNeg) - 1)) fun σ9 =>
gd ((5 * a0) + a1) 20 <|
gd ((5 * a0) + a1) 20 <| stp (mu σ9 11 ((5 * a0) + a1).toNatClampNeg ((σ9 11 ((5 * a0) + a1).toNatClampNeg) + 1)) fun σ10 =>
bd (f_X6_ends σ10 v1 1 (-1) (-1)) fun σ11 =>
gd ((5 * v1) + a1) 20 <|
some ((σ11 11 ((5 * v1) + a1).toNatClampNeg), σ11))) fun (J5 : Int32 → Mem → Option (Int32 × Mem)) =>
jn (fun (σ12 : Mem) =>
J5 1 σ12) fun (J13 : Mem → Option (Int32 × Mem)) =>
if v2 = 0 then (
J13 σ)
else (
bd (f_X6_isKind a1) fun v15 =>
if v15 = 0 then (
J13 σ)
else (
bd (f_X6_isAway σ v1 a0) fun v17 =>
jn (fun (σ18 : Mem) =>
J5 2 σ18) fun (J19 : Mem → Option (Int32 × Mem)) =>
if v17 = 0 then (
gd ((5 * v1) + a1) 20 <|
if (σ 11 ((5 * v1) + a1).toNatClampNeg) = 0 then (
J19 σ)
else (
J5 0 σ))
else (
J19 σ)))
set_option maxHeartbeats 4000000 in
set_option maxRecDepth 100000 in
theorem c_X6_give {l : Launch} {D : va_G} {cI cJ : ClassId} {ad : Nat → Nat} {σ : Mem} {a0 a1 : Int32} {r : Int32} {σr : Mem}  (hi : injG 25 ad) (hf : f_X6_give σ a0 a1 = some (r, σr)) : MGi l yX6_give (Cond.code yX6_give cX6_give 4 (some .int) :: BIG) 3 70 D cI cJ 25 ad (EM ad cI) [.ref (ad 0), .int a0, .int a1] σ σr r := by
  refine MGi.ofW (cc := cX6_give) (nL := 4) (ret := (some .int)) (by decide) rfl hi ?_
  intro p e s m args below meth c hx hb hr hml hlocks hown hB hK hP hA hAd hS
  have hown : s.vm.findClass RX6 = some m.cls := hown
  have hl := lv_entry ([.ref (ad 0), .int a0, .int a1] : List Value) (n := 4) (Nat.le_of_ble_eq_true rfl)
  rw [lg_entry_eq]
  generalize (lg_sl ([.ref (ad 0), .int a0, .int a1] : List Value) ++ List.replicate (4 - (lg_sl ([.ref (ad 0), .int a0, .int a1] : List Value)).length) Slot.unset).toArray = ls at hl ⊢
  have hl : lv_has ls 4 [(0, .ref (ad 0)), (1, .int a0), (2, .int a1)] := hl
  generalize hQ : MQ below (Qgi D 25 ad (EM ad cI) r σr s.heap.size) _ s 0 0 (AG 25 ad s.heap.size) = Q
  have hQ := hQ.symm
  obtain ⟨R, hR, hRf, hRl⟩ : ∃ R : Room, R = ({ frames := 3, cells := 0, slots := 0, locals := 70 } : Room) ∧ 3 ≤ R.frames ∧ 70 ≤ R.locals := ⟨_, rfl, Nat.le_refl _, Nat.le_refl _⟩
  rw [← hR]
  unfold f_X6_give at hf
  refine lv_aload_n hx hb dX6_give_0 rfl (lv_at hl 0 rfl) ?_
  obtain ⟨v1, hv, hf⟩ := bd_e hf
  refine g_cViS (k0 := 0) ⟨⟨hx, hb, hml, hown, hB⟩, hK, hi, hA, hAd, hP, hS⟩ (c_X6_actor hi hv) cal_X6_actor kM_X6_102 ⟨Nat.le_trans (Nat.le_of_ble_eq_true rfl) hRf, Nat.le_trans (Nat.le_of_ble_eq_true rfl) hRl⟩ (by decide) rfl rfl rfl hl.1 (Nat.le_of_ble_eq_true rfl) rfl dX6_give_1 ⟨Nat.zero_le _, Nat.zero_le _⟩ (fun H locs hP hS => ?_)
  refine lv_istore_n (lv' := [(3, .int v1), (0, .ref (ad 0)), (1, .int a0), (2, .int a1)]) hx hb dX6_give_4 rfl hl (by decide) rfl (fun ls hl => ?_)
  refine lv_aload_n hx hb dX6_give_5 rfl (lv_at hl 1 rfl) ?_
  refine lv_aload_n hx hb dX6_give_6 rfl (lv_at hl 1 rfl) ?_
  refine lv_iload_n hx hb dX6_give_7 rfl (lv_at hl 2 rfl) ?_
  obtain ⟨v2, hv, hf⟩ := bd_e hf
  refine g_cViS (k0 := 0) ⟨⟨hx, hb, hml, hown, hB⟩, hK, hi, hA, hAd, hP, hS⟩ (c_X6_isPlayer hi hv) cal_X6_isPlayer kM_X6_146 ⟨Nat.le_trans (Nat.le_of_ble_eq_true rfl) hRf, Nat.le_trans (Nat.le_of_ble_eq_true rfl) hRl⟩ (by decide) rfl rfl rfl hl.1 (Nat.le_of_ble_eq_true rfl) rfl dX6_give_8 ⟨Nat.zero_le _, Nat.zero_le _⟩ (fun H locs hP hS => ?_)
  obtain ⟨J5, eJ5, hf⟩ := jn_e2 hf
  have hJ5 : ∀ (y3 : Int32) (σ4 : Mem) (H : Heap) (locs : List Loc) (ls : Array Slot), J5 y3 σ4 = some (r, σr) → va_P D vwCl (wsG 25 ad (EM ad cI) σ4) H → va_S (AG 25 ad s.heap.size) s.heap H locs → lv_has ls 4 [(0, .ref (ad 0)), (1, .int a0), (2, .int a1), (3, .int v1)] → W p l e R s m args below meth c H locs 0 0 Q (F0 m 52 ls [.int y3, .ref (ad 0)]) := by
    intro y3 σ4 H locs ls hf hP hS hl
    rw [eJ5] at hf
    obtain ⟨v6, σ7, hv, hf⟩ := bd2_e hf
    refine g_cViS (k0 := 0) ⟨⟨hx, hb, hml, hown, hB⟩, hK, hi, hA, hAd, hP, hS⟩ (c_X6_can hi hv) cal_X6_can kM_X6_110 ⟨Nat.le_trans (Nat.le_of_ble_eq_true rfl) hRf, Nat.le_trans (Nat.le_of_ble_eq_true rfl) hRl⟩ (by decide) rfl rfl rfl hl.1 (Nat.le_of_ble_eq_true rfl) rfl dX6_give_52 ⟨Nat.zero_le _, Nat.zero_le _⟩ (fun H locs hP hS => ?_)
    refine lv_if_ne (tgt := 60) hx hb dX6_give_55 (by decide) (fun q8 => ?_) (fun q8 => ?_)
    · rw [if_neg q8] at hf
      refine lv_aload_n hx hb dX6_give_60 rfl (lv_at hl 0 rfl) ?_
      refine g_get (v := .ref (ad 11)) hx hb hB hown hK hP 0 (by decide) rfl rfl kU_X6 11 (by decide) kF_X6_40 rfl rfl dX6_give_61 ?_
      refine lv_iconst (v := 5) hx hb dX6_give_64 (by decide) ?_
      refine lv_iload_n hx hb dX6_give_65 rfl (lv_at hl 3 rfl) ?_
      refine lv_imul hx hb dX6_give_66 ?_
      refine lv_iload_n hx hb dX6_give_67 rfl (lv_at hl 2 rfl) ?_
      refine lv_iadd hx hb dX6_give_68 ?_
      refine lv_dup2_11 hx hb dX6_give_69 rfl rfl ?_
      obtain ⟨hin, hf⟩ := gd_e hf
      refine g_iald hx hb hK hP 11 20 (by decide) rfl hin dX6_give_70 ?_
      refine lv_iconst (v := 1) hx hb dX6_give_71 (by decide) ?_
      refine lv_isub hx hb dX6_give_72 ?_
      obtain ⟨hin, hf⟩ := gd_e hf
      obtain ⟨σ9, eσ9, hf⟩ := stp_e hf
      refine g_iast (σ1 := σ9) hx hb hK hP hi hAd hS 11 20 (by decide) (fun _ => rfl) hin dX6_give_73 eσ9 (fun H locs hP hS => ?_)
      refine lv_aload_n hx hb dX6_give_74 rfl (lv_at hl 0 rfl) ?_
      refine g_get (v := .ref (ad 11)) hx hb hB hown hK hP 0 (by decide) rfl rfl kU_X6 11 (by decide) kF_X6_40 rfl rfl dX6_give_75 ?_
      refine lv_iconst (v := 5) hx hb dX6_give_78 (by decide) ?_
      refine lv_iload_n hx hb dX6_give_79 rfl (lv_at hl 1 rfl) ?_
      refine lv_imul hx hb dX6_give_80 ?_
      refine lv_iload_n hx hb dX6_give_81 rfl (lv_at hl 2 rfl) ?_
      refine lv_iadd hx hb dX6_give_82 ?_
      refine lv_dup2_11 hx hb dX6_give_83 rfl rfl ?_
      obtain ⟨hin, hf⟩ := gd_e hf
      refine g_iald hx hb hK hP 11 20 (by decide) rfl hin dX6_give_84 ?_
      refine lv_iconst (v := 1) hx hb dX6_give_85 (by decide) ?_
      refine lv_iadd hx hb dX6_give_86 ?_
      obtain ⟨hin, hf⟩ := gd_e hf
      obtain ⟨σ10, eσ10, hf⟩ := stp_e hf
      refine g_iast (σ1 := σ10) hx hb hK hP hi hAd hS 11 20 (by decide) (fun _ => rfl) hin dX6_give_87 eσ10 (fun H locs hP hS => ?_)
      refine lv_aload_n hx hb dX6_give_88 rfl (lv_at hl 0 rfl) ?_
      refine lv_iload_n hx hb dX6_give_89 rfl (lv_at hl 3 rfl) ?_
      refine lv_iconst (v := 1) hx hb dX6_give_90 (by decide) ?_
      refine lv_iconst (v := (-1)) hx hb dX6_give_91 (by decide) ?_
      refine lv_iconst (v := (-1)) hx hb dX6_give_92 (by decide) ?_
      obtain ⟨σ11, hv, hf⟩ := bd_e hf
      refine g_cVvS (k0 := 0) ⟨⟨hx, hb, hml, hown, hB⟩, hK, hi, hA, hAd, hP, hS⟩ (c_X6_ends hi hv) cal_X6_ends kM_X6_130 ⟨Nat.le_trans (Nat.le_of_ble_eq_true rfl) hRf, Nat.le_trans (Nat.le_of_ble_eq_true rfl) hRl⟩ (by decide) rfl rfl rfl hl.1 (Nat.le_of_ble_eq_true rfl) rfl dX6_give_93 ⟨Nat.zero_le _, Nat.zero_le _⟩ (fun H locs hP hS => ?_)
      refine lv_aload_n hx hb dX6_give_96 rfl (lv_at hl 0 rfl) ?_
      refine g_get (v := .ref (ad 11)) hx hb hB hown hK hP 0 (by decide) rfl rfl kU_X6 11 (by decide) kF_X6_40 rfl rfl dX6_give_97 ?_
      refine lv_iconst (v := 5) hx hb dX6_give_100 (by decide) ?_
      refine lv_iload_n hx hb dX6_give_101 rfl (lv_at hl 3 rfl) ?_
      refine lv_imul hx hb dX6_give_102 ?_
      refine lv_iload_n hx hb dX6_give_103 rfl (lv_at hl 2 rfl) ?_
      refine lv_iadd hx hb dX6_give_104 ?_
      obtain ⟨hin, hf⟩ := gd_e hf
      refine g_iald hx hb hK hP 11 20 (by decide) rfl hin dX6_give_105 ?_
      obtain ⟨h1, h2⟩ := rt2 hf
      rw [hQ]
      exact g_iret hx hb hr hlocks hP hS h1 h2 dX6_give_106
    · rw [if_pos q8] at hf
      refine lv_iconst (v := 0) hx hb dX6_give_58 (by decide) ?_
      obtain ⟨h1, h2⟩ := rt2 hf
      rw [hQ]
      exact g_iret hx hb hr hlocks hP hS h1 h2 dX6_give_59
  obtain ⟨J13, eJ13, hf⟩ := jn_e1 hf
  have hJ13 : ∀ (σ12 : Mem) (H : Heap) (locs : List Loc) (ls : Array Slot), J13 σ12 = some (r, σr) → va_P D vwCl (wsG 25 ad (EM ad cI) σ12) H → va_S (AG 25 ad s.heap.size) s.heap H locs → lv_has ls 4 [(0, .ref (ad 0)), (1, .int a0), (2, .int a1), (3, .int v1)] → W p l e R s m args below meth c H locs 0 0 Q (F0 m 21 ls [.ref (ad 0)]) := by
    intro σ12 H locs ls hf hP hS hl
    rw [eJ13] at hf
    refine lv_iconst (v := 1) hx hb dX6_give_21 (by decide) ?_
    refine lv_goto (tgt := 52) hx hb dX6_give_22 (by decide) ?_
    exact hJ5 1 σ12 _ _ ls hf hP hS (lv_sub hl [0, 1, 2, 3] rfl)
  refine lv_if_eq (tgt := 21) hx hb dX6_give_11 (by decide) (fun q14 => ?_) (fun q14 => ?_)
  · rw [if_pos q14] at hf
    exact hJ13 σ _ _ ls hf hP hS (lv_sub hl [1, 2, 3, 0] rfl)
  · rw [if_neg q14] at hf
    refine lv_iload_n hx hb dX6_give_14 rfl (lv_at hl 3 rfl) ?_
    obtain ⟨v15, hv, hf⟩ := bd_e hf
    refine g_cSi0 ⟨⟨hx, hb, hml, hown, hB⟩, hK, hi, hA, hAd, hP, hS⟩ (c_X6_isKind hv) cal_X6_isKind kM_X6_116 ⟨Nat.le_trans (Nat.le_of_ble_eq_true rfl) hRf, Nat.le_trans (Nat.le_of_ble_eq_true rfl) hRl⟩ rfl hl.1 (Nat.le_of_ble_eq_true rfl) rfl dX6_give_15 ⟨Nat.zero_le _, Nat.zero_le _⟩ (fun H locs hP hS => ?_)
    refine lv_if_ne (tgt := 25) hx hb dX6_give_18 (by decide) (fun q16 => ?_) (fun q16 => ?_)
    · rw [if_neg q16] at hf
      refine lv_aload_n hx hb dX6_give_25 rfl (lv_at hl 1 rfl) ?_
      refine lv_iload_n hx hb dX6_give_26 rfl (lv_at hl 0 rfl) ?_
      refine lv_iload_n hx hb dX6_give_27 rfl (lv_at hl 2 rfl) ?_
      obtain ⟨v17, hv, hf⟩ := bd_e hf
      refine g_cViS (k0 := 0) ⟨⟨hx, hb, hml, hown, hB⟩, hK, hi, hA, hAd, hP, hS⟩ (c_X6_isAway hi hv) cal_X6_isAway kM_X6_149 ⟨Nat.le_trans (Nat.le_of_ble_eq_true rfl) hRf, Nat.le_trans (Nat.le_of_ble_eq_true rfl) hRl⟩ (by decide) rfl rfl rfl hl.1 (Nat.le_of_ble_eq_true rfl) rfl dX6_give_28 ⟨Nat.zero_le _, Nat.zero_le _⟩ (fun H locs hP hS => ?_)
      obtain ⟨J19, eJ19, hf⟩ := jn_e1 hf
      have hJ19 : ∀ (σ18 : Mem) (H : Heap) (locs : List Loc) (ls : Array Slot), J19 σ18 = some (r, σr) → va_P D vwCl (wsG 25 ad (EM ad cI) σ18) H → va_S (AG 25 ad s.heap.size) s.heap H locs → lv_has ls 4 [(0, .ref (ad 0)), (1, .int a0), (2, .int a1), (3, .int v1)] → W p l e R s m args below meth c H locs 0 0 Q (F0 m 47 ls [.ref (ad 0)]) := by
        intro σ18 H locs ls hf hP hS hl
        rw [eJ19] at hf
        refine lv_iconst (v := 2) hx hb dX6_give_47 (by decide) ?_
        refine lv_goto (tgt := 52) hx hb dX6_give_48 (by decide) ?_
        exact hJ5 2 σ18 _ _ ls hf hP hS (lv_sub hl [0, 1, 2, 3] rfl)
      refine lv_if_ne (tgt := 47) hx hb dX6_give_31 (by decide) (fun q20 => ?_) (fun q20 => ?_)
      · rw [if_neg q20] at hf
        exact hJ19 σ _ _ ls hf hP hS (lv_sub hl [1, 2, 3, 0] rfl)
      · rw [if_pos q20] at hf
        refine lv_aload_n hx hb dX6_give_34 rfl (lv_at hl 1 rfl) ?_
        refine g_get (v := .ref (ad 11)) hx hb hB hown hK hP 0 (by decide) rfl rfl kU_X6 11 (by decide) kF_X6_40 rfl rfl dX6_give_35 ?_
        refine lv_iconst (v := 5) hx hb dX6_give_38 (by decide) ?_
        refine lv_iload_n hx hb dX6_give_39 rfl (lv_at hl 0 rfl) ?_
        refine lv_imul hx hb dX6_give_40 ?_
        refine lv_iload_n hx hb dX6_give_41 rfl (lv_at hl 3 rfl) ?_
        refine lv_iadd hx hb dX6_give_42 ?_
        obtain ⟨hin, hf⟩ := gd_e hf
        refine g_iald hx hb hK hP 11 20 (by decide) rfl hin dX6_give_43 ?_
        refine lv_if_ne (tgt := 51) hx hb dX6_give_44 (by decide) (fun q21 => ?_) (fun q21 => ?_)
        · rw [if_neg q21] at hf
          refine lv_iconst (v := 0) hx hb dX6_give_51 (by decide) ?_
          exact hJ5 0 σ _ _ ls hf hP hS (lv_sub hl [1, 2, 3, 0] rfl)
        · rw [if_pos q21] at hf
          exact hJ19 σ _ _ ls hf hP hS (lv_sub hl [1, 2, 3, 0] rfl)
    · rw [if_pos q16] at hf
      exact hJ13 σ _ _ ls hf hP hS (lv_sub hl [1, 2, 3, 0] rfl)
def f_X6_pay (σ : Mem) (a0 a1 : Int32) : Option (Int32 × Mem) :=
bd (f_X6_actor σ) fun v1 =>
bd (f_X6_isPlayer σ a0) fun v2 =>
jn (fun (y3 : Int32) (σ4 : Mem) =>
bd2 (f_X6_can σ4 y3) fun v6 σ7 =>
if v6 = 0 then (
some (0, σ7))
else (
gd v1 4 <|
gd v1 4 <| stp (mu σ7 7 v1.toNatClampNeg ((σ7 7 v1.toNatClampNeg) - a1)) fun σ9 =>
gd a0 4 <|
gd a0 4 <| stp (mu σ9 7 a0.toNatClampNeg ((σ9 7 a0.toNatClampNeg) + a1)) fun σ10 =>
bd (f_X6_ends σ10 v1 1 (-1) (-1)) fun σ11 =>
gd v1 4 <|
some ((σ11 7 v1.toNatClampNeg), σ11))) fun (J5 : Int32 → Mem → Option (Int32 × Mem)) =>
if v2 = 0 then (
J5 1 σ)
else (
bd (f_X6_isIn a1 1 1000) fun v13 =>
if v13 = 0 then (
J5 2 σ)
else (
bd (f_X6_isAway σ v1 a0) fun v15 =>
jn (fun (σ16 : Mem) =>
J5 3 σ16) fun (J17 : Mem → Option (Int32 × Mem)) =>
if v15 = 0 then (
gd v1 4 <|
if a1 ≤ (σ 7 v1.toNatClampNeg) then (
J5 0 σ)
else (
J17 σ))
else (
J17 σ)))
set_option maxHeartbeats 4000000 in
set_option maxRecDepth 100000 in
theorem c_X6_pay {l : Launch} {D : va_G} {cI cJ : ClassId} {ad : Nat → Nat} {σ : Mem} {a0 a1 : Int32} {r : Int32} {σr : Mem}  (hi : injG 25 ad) (hf : f_X6_pay σ a0 a1 = some (r, σr)) : MGi l yX6_pay (Cond.code yX6_pay cX6_pay 4 (some .int) :: BIG) 3 70 D cI cJ 25 ad (EM ad cI) [.ref (ad 0), .int a0, .int a1] σ σr r := by
  refine MGi.ofW (cc := cX6_pay) (nL := 4) (ret := (some .int)) (by decide) rfl hi ?_
  intro p e s m args below meth c hx hb hr hml hlocks hown hB hK hP hA hAd hS
  have hown : s.vm.findClass RX6 = some m.cls := hown
  have hl := lv_entry ([.ref (ad 0), .int a0, .int a1] : List Value) (n := 4) (Nat.le_of_ble_eq_true rfl)
  rw [lg_entry_eq]
  generalize (lg_sl ([.ref (ad 0), .int a0, .int a1] : List Value) ++ List.replicate (4 - (lg_sl ([.ref (ad 0), .int a0, .int a1] : List Value)).length) Slot.unset).toArray = ls at hl ⊢
  have hl : lv_has ls 4 [(0, .ref (ad 0)), (1, .int a0), (2, .int a1)] := hl
  generalize hQ : MQ below (Qgi D 25 ad (EM ad cI) r σr s.heap.size) _ s 0 0 (AG 25 ad s.heap.size) = Q
  have hQ := hQ.symm
  obtain ⟨R, hR, hRf, hRl⟩ : ∃ R : Room, R = ({ frames := 3, cells := 0, slots := 0, locals := 70 } : Room) ∧ 3 ≤ R.frames ∧ 70 ≤ R.locals := ⟨_, rfl, Nat.le_refl _, Nat.le_refl _⟩
  rw [← hR]
  unfold f_X6_pay at hf
  refine lv_aload_n hx hb dX6_pay_0 rfl (lv_at hl 0 rfl) ?_
  obtain ⟨v1, hv, hf⟩ := bd_e hf
  refine g_cViS (k0 := 0) ⟨⟨hx, hb, hml, hown, hB⟩, hK, hi, hA, hAd, hP, hS⟩ (c_X6_actor hi hv) cal_X6_actor kM_X6_102 ⟨Nat.le_trans (Nat.le_of_ble_eq_true rfl) hRf, Nat.le_trans (Nat.le_of_ble_eq_true rfl) hRl⟩ (by decide) rfl rfl rfl hl.1 (Nat.le_of_ble_eq_true rfl) rfl dX6_pay_1 ⟨Nat.zero_le _, Nat.zero_le _⟩ (fun H locs hP hS => ?_)
  refine lv_istore_n (lv' := [(3, .int v1), (0, .ref (ad 0)), (1, .int a0), (2, .int a1)]) hx hb dX6_pay_4 rfl hl (by decide) rfl (fun ls hl => ?_)
  refine lv_aload_n hx hb dX6_pay_5 rfl (lv_at hl 1 rfl) ?_
  refine lv_aload_n hx hb dX6_pay_6 rfl (lv_at hl 1 rfl) ?_
  refine lv_iload_n hx hb dX6_pay_7 rfl (lv_at hl 2 rfl) ?_
  obtain ⟨v2, hv, hf⟩ := bd_e hf
  refine g_cViS (k0 := 0) ⟨⟨hx, hb, hml, hown, hB⟩, hK, hi, hA, hAd, hP, hS⟩ (c_X6_isPlayer hi hv) cal_X6_isPlayer kM_X6_146 ⟨Nat.le_trans (Nat.le_of_ble_eq_true rfl) hRf, Nat.le_trans (Nat.le_of_ble_eq_true rfl) hRl⟩ (by decide) rfl rfl rfl hl.1 (Nat.le_of_ble_eq_true rfl) rfl dX6_pay_8 ⟨Nat.zero_le _, Nat.zero_le _⟩ (fun H locs hP hS => ?_)
  obtain ⟨J5, eJ5, hf⟩ := jn_e2 hf
  have hJ5 : ∀ (y3 : Int32) (σ4 : Mem) (H : Heap) (locs : List Loc) (ls : Array Slot), J5 y3 σ4 = some (r, σr) → va_P D vwCl (wsG 25 ad (EM ad cI) σ4) H → va_S (AG 25 ad s.heap.size) s.heap H locs → lv_has ls 4 [(0, .ref (ad 0)), (1, .int a0), (2, .int a1), (3, .int v1)] → W p l e R s m args below meth c H locs 0 0 Q (F0 m 57 ls [.int y3, .ref (ad 0)]) := by
    intro y3 σ4 H locs ls hf hP hS hl
    rw [eJ5] at hf
    obtain ⟨v6, σ7, hv, hf⟩ := bd2_e hf
    refine g_cViS (k0 := 0) ⟨⟨hx, hb, hml, hown, hB⟩, hK, hi, hA, hAd, hP, hS⟩ (c_X6_can hi hv) cal_X6_can kM_X6_110 ⟨Nat.le_trans (Nat.le_of_ble_eq_true rfl) hRf, Nat.le_trans (Nat.le_of_ble_eq_true rfl) hRl⟩ (by decide) rfl rfl rfl hl.1 (Nat.le_of_ble_eq_true rfl) rfl dX6_pay_57 ⟨Nat.zero_le _, Nat.zero_le _⟩ (fun H locs hP hS => ?_)
    refine lv_if_ne (tgt := 65) hx hb dX6_pay_60 (by decide) (fun q8 => ?_) (fun q8 => ?_)
    · rw [if_neg q8] at hf
      refine lv_aload_n hx hb dX6_pay_65 rfl (lv_at hl 0 rfl) ?_
      refine g_get (v := .ref (ad 7)) hx hb hB hown hK hP 0 (by decide) rfl rfl kU_X6 7 (by decide) kF_X6_28 rfl rfl dX6_pay_66 ?_
      refine lv_iload_n hx hb dX6_pay_69 rfl (lv_at hl 3 rfl) ?_
      refine lv_dup2_11 hx hb dX6_pay_70 rfl rfl ?_
      obtain ⟨hin, hf⟩ := gd_e hf
      refine g_iald hx hb hK hP 7 4 (by decide) rfl hin dX6_pay_71 ?_
      refine lv_iload_n hx hb dX6_pay_72 rfl (lv_at hl 2 rfl) ?_
      refine lv_isub hx hb dX6_pay_73 ?_
      obtain ⟨hin, hf⟩ := gd_e hf
      obtain ⟨σ9, eσ9, hf⟩ := stp_e hf
      refine g_iast (σ1 := σ9) hx hb hK hP hi hAd hS 7 4 (by decide) (fun _ => rfl) hin dX6_pay_74 eσ9 (fun H locs hP hS => ?_)
      refine lv_aload_n hx hb dX6_pay_75 rfl (lv_at hl 0 rfl) ?_
      refine g_get (v := .ref (ad 7)) hx hb hB hown hK hP 0 (by decide) rfl rfl kU_X6 7 (by decide) kF_X6_28 rfl rfl dX6_pay_76 ?_
      refine lv_iload_n hx hb dX6_pay_79 rfl (lv_at hl 1 rfl) ?_
      refine lv_dup2_11 hx hb dX6_pay_80 rfl rfl ?_
      obtain ⟨hin, hf⟩ := gd_e hf
      refine g_iald hx hb hK hP 7 4 (by decide) rfl hin dX6_pay_81 ?_
      refine lv_iload_n hx hb dX6_pay_82 rfl (lv_at hl 2 rfl) ?_
      refine lv_iadd hx hb dX6_pay_83 ?_
      obtain ⟨hin, hf⟩ := gd_e hf
      obtain ⟨σ10, eσ10, hf⟩ := stp_e hf
      refine g_iast (σ1 := σ10) hx hb hK hP hi hAd hS 7 4 (by decide) (fun _ => rfl) hin dX6_pay_84 eσ10 (fun H locs hP hS => ?_)
      refine lv_aload_n hx hb dX6_pay_85 rfl (lv_at hl 0 rfl) ?_
      refine lv_iload_n hx hb dX6_pay_86 rfl (lv_at hl 3 rfl) ?_
      refine lv_iconst (v := 1) hx hb dX6_pay_87 (by decide) ?_
      refine lv_iconst (v := (-1)) hx hb dX6_pay_88 (by decide) ?_
      refine lv_iconst (v := (-1)) hx hb dX6_pay_89 (by decide) ?_
      obtain ⟨σ11, hv, hf⟩ := bd_e hf
      refine g_cVvS (k0 := 0) ⟨⟨hx, hb, hml, hown, hB⟩, hK, hi, hA, hAd, hP, hS⟩ (c_X6_ends hi hv) cal_X6_ends kM_X6_130 ⟨Nat.le_trans (Nat.le_of_ble_eq_true rfl) hRf, Nat.le_trans (Nat.le_of_ble_eq_true rfl) hRl⟩ (by decide) rfl rfl rfl hl.1 (Nat.le_of_ble_eq_true rfl) rfl dX6_pay_90 ⟨Nat.zero_le _, Nat.zero_le _⟩ (fun H locs hP hS => ?_)
      refine lv_aload_n hx hb dX6_pay_93 rfl (lv_at hl 0 rfl) ?_
      refine g_get (v := .ref (ad 7)) hx hb hB hown hK hP 0 (by decide) rfl rfl kU_X6 7 (by decide) kF_X6_28 rfl rfl dX6_pay_94 ?_
      refine lv_iload_n hx hb dX6_pay_97 rfl (lv_at hl 3 rfl) ?_
      obtain ⟨hin, hf⟩ := gd_e hf
      refine g_iald hx hb hK hP 7 4 (by decide) rfl hin dX6_pay_98 ?_
      obtain ⟨h1, h2⟩ := rt2 hf
      rw [hQ]
      exact g_iret hx hb hr hlocks hP hS h1 h2 dX6_pay_99
    · rw [if_pos q8] at hf
      refine lv_iconst (v := 0) hx hb dX6_pay_63 (by decide) ?_
      obtain ⟨h1, h2⟩ := rt2 hf
      rw [hQ]
      exact g_iret hx hb hr hlocks hP hS h1 h2 dX6_pay_64
  refine lv_if_ne (tgt := 18) hx hb dX6_pay_11 (by decide) (fun q12 => ?_) (fun q12 => ?_)
  · rw [if_neg q12] at hf
    refine lv_iload_n hx hb dX6_pay_18 rfl (lv_at hl 3 rfl) ?_
    refine lv_iconst (v := 1) hx hb dX6_pay_19 (by decide) ?_
    refine lv_sipush (v := 1000) hx hb dX6_pay_20 (by decide) ?_
    obtain ⟨v13, hv, hf⟩ := bd_e hf
    refine g_cSi0 ⟨⟨hx, hb, hml, hown, hB⟩, hK, hi, hA, hAd, hP, hS⟩ (c_X6_isIn hv) cal_X6_isIn kM_X6_89 ⟨Nat.le_trans (Nat.le_of_ble_eq_true rfl) hRf, Nat.le_trans (Nat.le_of_ble_eq_true rfl) hRl⟩ rfl hl.1 (Nat.le_of_ble_eq_true rfl) rfl dX6_pay_23 ⟨Nat.zero_le _, Nat.zero_le _⟩ (fun H locs hP hS => ?_)
    refine lv_if_ne (tgt := 33) hx hb dX6_pay_26 (by decide) (fun q14 => ?_) (fun q14 => ?_)
    · rw [if_neg q14] at hf
      refine lv_aload_n hx hb dX6_pay_33 rfl (lv_at hl 1 rfl) ?_
      refine lv_iload_n hx hb dX6_pay_34 rfl (lv_at hl 0 rfl) ?_
      refine lv_iload_n hx hb dX6_pay_35 rfl (lv_at hl 2 rfl) ?_
      obtain ⟨v15, hv, hf⟩ := bd_e hf
      refine g_cViS (k0 := 0) ⟨⟨hx, hb, hml, hown, hB⟩, hK, hi, hA, hAd, hP, hS⟩ (c_X6_isAway hi hv) cal_X6_isAway kM_X6_149 ⟨Nat.le_trans (Nat.le_of_ble_eq_true rfl) hRf, Nat.le_trans (Nat.le_of_ble_eq_true rfl) hRl⟩ (by decide) rfl rfl rfl hl.1 (Nat.le_of_ble_eq_true rfl) rfl dX6_pay_36 ⟨Nat.zero_le _, Nat.zero_le _⟩ (fun H locs hP hS => ?_)
      obtain ⟨J17, eJ17, hf⟩ := jn_e1 hf
      have hJ17 : ∀ (σ16 : Mem) (H : Heap) (locs : List Loc) (ls : Array Slot), J17 σ16 = some (r, σr) → va_P D vwCl (wsG 25 ad (EM ad cI) σ16) H → va_S (AG 25 ad s.heap.size) s.heap H locs → lv_has ls 4 [(0, .ref (ad 0)), (1, .int a0), (2, .int a1), (3, .int v1)] → W p l e R s m args below meth c H locs 0 0 Q (F0 m 52 ls [.ref (ad 0)]) := by
        intro σ16 H locs ls hf hP hS hl
        rw [eJ17] at hf
        refine lv_iconst (v := 3) hx hb dX6_pay_52 (by decide) ?_
        refine lv_goto (tgt := 57) hx hb dX6_pay_53 (by decide) ?_
        exact hJ5 3 σ16 _ _ ls hf hP hS (lv_sub hl [0, 1, 2, 3] rfl)
      refine lv_if_ne (tgt := 52) hx hb dX6_pay_39 (by decide) (fun q18 => ?_) (fun q18 => ?_)
      · rw [if_neg q18] at hf
        exact hJ17 σ _ _ ls hf hP hS (lv_sub hl [1, 2, 3, 0] rfl)
      · rw [if_pos q18] at hf
        refine lv_aload_n hx hb dX6_pay_42 rfl (lv_at hl 1 rfl) ?_
        refine g_get (v := .ref (ad 7)) hx hb hB hown hK hP 0 (by decide) rfl rfl kU_X6 7 (by decide) kF_X6_28 rfl rfl dX6_pay_43 ?_
        refine lv_iload_n hx hb dX6_pay_46 rfl (lv_at hl 0 rfl) ?_
        obtain ⟨hin, hf⟩ := gd_e hf
        refine g_iald hx hb hK hP 7 4 (by decide) rfl hin dX6_pay_47 ?_
        refine lv_iload_n hx hb dX6_pay_48 rfl (lv_at hl 3 rfl) ?_
        refine lv_icmp_ge (tgt := 56) hx hb dX6_pay_49 (by decide) (fun q19 => ?_) (fun q19 => ?_)
        · rw [if_pos q19] at hf
          refine lv_iconst (v := 0) hx hb dX6_pay_56 (by decide) ?_
          exact hJ5 0 σ _ _ ls hf hP hS (lv_sub hl [1, 2, 3, 0] rfl)
        · rw [if_neg q19] at hf
          exact hJ17 σ _ _ ls hf hP hS (lv_sub hl [1, 2, 3, 0] rfl)
    · rw [if_pos q14] at hf
      refine lv_iconst (v := 2) hx hb dX6_pay_29 (by decide) ?_
      refine lv_goto (tgt := 57) hx hb dX6_pay_30 (by decide) ?_
      exact hJ5 2 σ _ _ ls hf hP hS (lv_sub hl [1, 2, 3, 0] rfl)
  · rw [if_pos q12] at hf
    refine lv_iconst (v := 1) hx hb dX6_pay_14 (by decide) ?_
    refine lv_goto (tgt := 57) hx hb dX6_pay_15 (by decide) ?_
    exact hJ5 1 σ _ _ ls hf hP hS (lv_sub hl [1, 2, 3, 0] rfl)
def f_X6_traded (σ : Mem) (a0 a1 : Int32) : Option (Int32) :=
jn (fun (y1 : Int32) =>
jn (fun (_ : Unit) =>
some (-1)) fun (J3 : Unit → Option (Int32)) =>
if y1 = (-1) then (
J3 ())
else (
gd y1 40 <|
if (σ 4 y1.toNatClampNeg) = 0 then (
J3 ())
else (
some y1))) fun (J2 : Int32 → Option (Int32)) =>
jn (fun (_ : Unit) =>
J2 (-1)) fun (J6 : Unit → Option (Int32)) =>
if a0 = (-1) then (
J6 ())
else (
gd a0 4 <|
gd (σ 6 a0.toNatClampNeg) 8 <|
if (σ 3 (σ 6 a0.toNatClampNeg).toNatClampNeg) = (-1) then (
J6 ())
else (
gd a0 4 <|
J2 ((5 * (σ 6 a0.toNatClampNeg)) + a1)))
set_option maxHeartbeats 4000000 in
set_option maxRecDepth 100000 in
theorem c_X6_traded {l : Launch} {D : va_G} {cI cJ : ClassId} {ad : Nat → Nat} {σ : Mem} {a0 a1 : Int32} {r : Int32}  (hi : injG 25 ad) (hf : f_X6_traded σ a0 a1 = some r) : MGi l yX6_traded (Cond.code yX6_traded cX6_traded 4 (some .int) :: BIG) 0 0 D cI cJ 25 ad (EM ad cI) [.ref (ad 0), .int a0, .int a1] σ σ r := by
  refine MGi.ofW (cc := cX6_traded) (nL := 4) (ret := (some .int)) (by decide) rfl hi ?_
  intro p e s m args below meth c hx hb hr hml hlocks hown hB hK hP hA hAd hS
  have hown : s.vm.findClass RX6 = some m.cls := hown
  have hl := lv_entry ([.ref (ad 0), .int a0, .int a1] : List Value) (n := 4) (Nat.le_of_ble_eq_true rfl)
  rw [lg_entry_eq]
  generalize (lg_sl ([.ref (ad 0), .int a0, .int a1] : List Value) ++ List.replicate (4 - (lg_sl ([.ref (ad 0), .int a0, .int a1] : List Value)).length) Slot.unset).toArray = ls at hl ⊢
  have hl : lv_has ls 4 [(0, .ref (ad 0)), (1, .int a0), (2, .int a1)] := hl
  generalize hQ : MQ below (Qgi D 25 ad (EM ad cI) r σ s.heap.size) _ s 0 0 (AG 25 ad s.heap.size) = Q
  have hQ := hQ.symm
  obtain ⟨R, hR, hRf, hRl⟩ : ∃ R : Room, R = ({ frames := 0, cells := 0, slots := 0, locals := 0 } : Room) ∧ 0 ≤ R.frames ∧ 0 ≤ R.locals := ⟨_, rfl, Nat.le_refl _, Nat.le_refl _⟩
  rw [← hR]
  unfold f_X6_traded at hf
  refine lv_iload_n hx hb dX6_traded_0 rfl (lv_at hl 1 rfl) ?_
  refine lv_iconst (v := (-1)) hx hb dX6_traded_1 (by decide) ?_
  obtain ⟨J2, eJ2, hf⟩ := jn_e1 hf
  have hJ2 : ∀ (y1 : Int32) (H : Heap) (locs : List Loc) (ls : Array Slot), J2 y1 = some r → va_P D vwCl (wsG 25 ad (EM ad cI) σ) H → va_S (AG 25 ad s.heap.size) s.heap H locs → lv_has ls 4 [(0, .ref (ad 0))] → W p l e R s m args below meth c H locs 0 0 Q (F0 m 34 ls [.int y1]) := by
    intro y1 H locs ls hf hP hS hl
    rw [eJ2] at hf
    refine lv_istore_n (lv' := [(3, .int y1), (0, .ref (ad 0))]) hx hb dX6_traded_34 rfl hl (by decide) rfl (fun ls hl => ?_)
    refine lv_iload_n hx hb dX6_traded_35 rfl (lv_at hl 0 rfl) ?_
    refine lv_iconst (v := (-1)) hx hb dX6_traded_36 (by decide) ?_
    obtain ⟨J3, eJ3, hf⟩ := jn_e0 hf
    have hJ3 : ∀ (_ : Unit) (H : Heap) (locs : List Loc) (ls : Array Slot), J3 () = some r → va_P D vwCl (wsG 25 ad (EM ad cI) σ) H → va_S (AG 25 ad s.heap.size) s.heap H locs → lv_has ls 4 [] → W p l e R s m args below meth c H locs 0 0 Q (F0 m 49 ls []) := by
      intro _ H locs ls hf hP hS hl
      rw [eJ3] at hf
      refine lv_iconst (v := (-1)) hx hb dX6_traded_49 (by decide) ?_
      refine lv_goto (tgt := 54) hx hb dX6_traded_50 (by decide) ?_
      have h1 := rt1 hf
      rw [hQ]
      exact g_iret hx hb hr hlocks hP hS h1 rfl dX6_traded_54
    refine lv_icmp_eq (tgt := 49) hx hb dX6_traded_37 (by decide) (fun q4 => ?_) (fun q4 => ?_)
    · rw [if_pos q4] at hf
      exact hJ3 () _ _ ls hf hP hS (lv_sub hl [] rfl)
    · rw [if_neg q4] at hf
      refine lv_aload_n hx hb dX6_traded_40 rfl (lv_at hl 1 rfl) ?_
      refine g_get (v := .ref (ad 4)) hx hb hB hown hK hP 0 (by decide) rfl rfl kU_X6 3 (by decide) kF_X6_19 rfl rfl dX6_traded_41 ?_
      refine lv_iload_n hx hb dX6_traded_44 rfl (lv_at hl 0 rfl) ?_
      obtain ⟨hin, hf⟩ := gd_e hf
      refine g_iald hx hb hK hP 4 40 (by decide) rfl hin dX6_traded_45 ?_
      refine lv_if_ne (tgt := 53) hx hb dX6_traded_46 (by decide) (fun q5 => ?_) (fun q5 => ?_)
      · rw [if_neg q5] at hf
        refine lv_iload_n hx hb dX6_traded_53 rfl (lv_at hl 0 rfl) ?_
        have h1 := rt1 hf
        rw [hQ]
        exact g_iret hx hb hr hlocks hP hS h1 rfl dX6_traded_54
      · rw [if_pos q5] at hf
        exact hJ3 () _ _ ls hf hP hS (lv_sub hl [] rfl)
  obtain ⟨J6, eJ6, hf⟩ := jn_e0 hf
  have hJ6 : ∀ (_ : Unit) (H : Heap) (locs : List Loc) (ls : Array Slot), J6 () = some r → va_P D vwCl (wsG 25 ad (EM ad cI) σ) H → va_S (AG 25 ad s.heap.size) s.heap H locs → lv_has ls 4 [(0, .ref (ad 0))] → W p l e R s m args below meth c H locs 0 0 Q (F0 m 20 ls []) := by
    intro _ H locs ls hf hP hS hl
    rw [eJ6] at hf
    refine lv_iconst (v := (-1)) hx hb dX6_traded_20 (by decide) ?_
    refine lv_goto (tgt := 34) hx hb dX6_traded_21 (by decide) ?_
    exact hJ2 (-1) _ _ ls hf hP hS (lv_sub hl [0] rfl)
  refine lv_icmp_eq (tgt := 20) hx hb dX6_traded_2 (by decide) (fun q7 => ?_) (fun q7 => ?_)
  · rw [if_pos q7] at hf
    exact hJ6 () _ _ ls hf hP hS (lv_sub hl [0] rfl)
  · rw [if_neg q7] at hf
    refine lv_aload_n hx hb dX6_traded_5 rfl (lv_at hl 0 rfl) ?_
    refine g_get (v := .ref (ad 3)) hx hb hB hown hK hP 0 (by decide) rfl rfl kU_X6 2 (by decide) kF_X6_16 rfl rfl dX6_traded_6 ?_
    refine lv_aload_n hx hb dX6_traded_9 rfl (lv_at hl 0 rfl) ?_
    refine g_get (v := .ref (ad 6)) hx hb hB hown hK hP 0 (by decide) rfl rfl kU_X6 6 (by decide) kF_X6_25 rfl rfl dX6_traded_10 ?_
    refine lv_iload_n hx hb dX6_traded_13 rfl (lv_at hl 1 rfl) ?_
    obtain ⟨hin, hf⟩ := gd_e hf
    refine g_iald hx hb hK hP 6 4 (by decide) rfl hin dX6_traded_14 ?_
    obtain ⟨hin, hf⟩ := gd_e hf
    refine g_iald hx hb hK hP 3 8 (by decide) rfl hin dX6_traded_15 ?_
    refine lv_iconst (v := (-1)) hx hb dX6_traded_16 (by decide) ?_
    refine lv_icmp_ne (tgt := 24) hx hb dX6_traded_17 (by decide) (fun q8 => ?_) (fun q8 => ?_)
    · rw [if_neg q8] at hf
      refine lv_iconst (v := 5) hx hb dX6_traded_24 (by decide) ?_
      refine lv_aload_n hx hb dX6_traded_25 rfl (lv_at hl 0 rfl) ?_
      refine g_get (v := .ref (ad 6)) hx hb hB hown hK hP 0 (by decide) rfl rfl kU_X6 6 (by decide) kF_X6_25 rfl rfl dX6_traded_26 ?_
      refine lv_iload_n hx hb dX6_traded_29 rfl (lv_at hl 1 rfl) ?_
      obtain ⟨hin, hf⟩ := gd_e hf
      refine g_iald hx hb hK hP 6 4 (by decide) rfl hin dX6_traded_30 ?_
      refine lv_imul hx hb dX6_traded_31 ?_
      refine lv_iload_n hx hb dX6_traded_32 rfl (lv_at hl 2 rfl) ?_
      refine lv_iadd hx hb dX6_traded_33 ?_
      exact hJ2 ((5 * (σ 6 a0.toNatClampNeg)) + a1) _ _ ls hf hP hS (lv_sub hl [0] rfl)
    · rw [if_pos q8] at hf
      exact hJ6 () _ _ ls hf hP hS (lv_sub hl [0] rfl)
def f_X6_buy (σ : Mem) (a0 : Int32) : Option (Int32 × Mem) :=
bd (f_X6_actor σ) fun v1 =>
bd (f_X6_isKind a0) fun v2 =>
jn (fun (y3 : Int32) (σ4 : Mem) =>
bd (f_X6_isKind a0) fun v6 =>
jn (fun (y7 : Int32) (σ8 : Mem) =>
bd2 (f_X6_can σ8 y7) fun v10 σ11 =>
if v10 = 0 then (
some (0, σ11))
else (
gd y3 40 <|
gd y3 40 <| stp (mu σ11 5 y3.toNatClampNeg ((σ11 5 y3.toNatClampNeg) - 1)) fun σ13 =>
gd ((5 * v1) + a0) 20 <|
gd ((5 * v1) + a0) 20 <| stp (mu σ13 11 ((5 * v1) + a0).toNatClampNeg ((σ13 11 ((5 * v1) + a0).toNatClampNeg) + 1)) fun σ14 =>
gd v1 4 <|
gd y3 40 <|
gd v1 4 <| stp (mu σ14 7 v1.toNatClampNeg ((σ14 7 v1.toNatClampNeg) - (σ14 4 y3.toNatClampNeg))) fun σ15 =>
gd v1 4 <|
gd (σ15 6 v1.toNatClampNeg) 8 <|
gd y3 40 <|
gd (σ15 6 v1.toNatClampNeg) 8 <| stp (mu σ15 3 (σ15 6 v1.toNatClampNeg).toNatClampNeg ((σ15 3 (σ15 6 v1.toNatClampNeg).toNatClampNeg) + (σ15 4 y3.toNatClampNeg))) fun σ16 =>
bd (f_X6_ends σ16 v1 1 (-1) (-1)) fun σ17 =>
gd v1 4 <|
some ((σ17 7 v1.toNatClampNeg), σ17))) fun (J9 : Int32 → Mem → Option (Int32 × Mem)) =>
if v6 = 0 then (
J9 1 σ4)
else (
jn (fun (σ19 : Mem) =>
J9 2 σ19) fun (J20 : Mem → Option (Int32 × Mem)) =>
if y3 = (-1) then (
J20 σ4)
else (
gd y3 40 <|
if (σ4 5 y3.toNatClampNeg) = 0 then (
J20 σ4)
else (
gd v1 4 <|
gd y3 40 <|
if (σ4 4 y3.toNatClampNeg) ≤ (σ4 7 v1.toNatClampNeg) then (
J9 0 σ4)
else (
J20 σ4))))) fun (J5 : Int32 → Mem → Option (Int32 × Mem)) =>
if v2 = 0 then (
J5 (-1) σ)
else (
bd (f_X6_traded σ v1 a0) fun v25 =>
J5 v25 σ)
set_option maxHeartbeats 4000000 in
set_option maxRecDepth 100000 in
theorem c_X6_buy {l : Launch} {D : va_G} {cI cJ : ClassId} {ad : Nat → Nat} {σ : Mem} {a0 : Int32} {r : Int32} {σr : Mem}  (hi : injG 25 ad) (hf : f_X6_buy σ a0 = some (r, σr)) : MGi l yX6_buy (Cond.code yX6_buy cX6_buy 4 (some .int) :: BIG) 3 70 D cI cJ 25 ad (EM ad cI) [.ref (ad 0), .int a0] σ σr r := by
  refine MGi.ofW (cc := cX6_buy) (nL := 4) (ret := (some .int)) (by decide) rfl hi ?_
  intro p e s m args below meth c hx hb hr hml hlocks hown hB hK hP hA hAd hS
  have hown : s.vm.findClass RX6 = some m.cls := hown
  have hl := lv_entry ([.ref (ad 0), .int a0] : List Value) (n := 4) (Nat.le_of_ble_eq_true rfl)
  rw [lg_entry_eq]
  generalize (lg_sl ([.ref (ad 0), .int a0] : List Value) ++ List.replicate (4 - (lg_sl ([.ref (ad 0), .int a0] : List Value)).length) Slot.unset).toArray = ls at hl ⊢
  have hl : lv_has ls 4 [(0, .ref (ad 0)), (1, .int a0)] := hl
  generalize hQ : MQ below (Qgi D 25 ad (EM ad cI) r σr s.heap.size) _ s 0 0 (AG 25 ad s.heap.size) = Q
  have hQ := hQ.symm
  obtain ⟨R, hR, hRf, hRl⟩ : ∃ R : Room, R = ({ frames := 3, cells := 0, slots := 0, locals := 70 } : Room) ∧ 3 ≤ R.frames ∧ 70 ≤ R.locals := ⟨_, rfl, Nat.le_refl _, Nat.le_refl _⟩
  rw [← hR]
  unfold f_X6_buy at hf
  refine lv_aload_n hx hb dX6_buy_0 rfl (lv_at hl 0 rfl) ?_
  obtain ⟨v1, hv, hf⟩ := bd_e hf
  refine g_cViS (k0 := 0) ⟨⟨hx, hb, hml, hown, hB⟩, hK, hi, hA, hAd, hP, hS⟩ (c_X6_actor hi hv) cal_X6_actor kM_X6_102 ⟨Nat.le_trans (Nat.le_of_ble_eq_true rfl) hRf, Nat.le_trans (Nat.le_of_ble_eq_true rfl) hRl⟩ (by decide) rfl rfl rfl hl.1 (Nat.le_of_ble_eq_true rfl) rfl dX6_buy_1 ⟨Nat.zero_le _, Nat.zero_le _⟩ (fun H locs hP hS => ?_)
  refine lv_istore_n (lv' := [(2, .int v1), (0, .ref (ad 0)), (1, .int a0)]) hx hb dX6_buy_4 rfl hl (by decide) rfl (fun ls hl => ?_)
  refine lv_iload_n hx hb dX6_buy_5 rfl (lv_at hl 2 rfl) ?_
  obtain ⟨v2, hv, hf⟩ := bd_e hf
  refine g_cSi0 ⟨⟨hx, hb, hml, hown, hB⟩, hK, hi, hA, hAd, hP, hS⟩ (c_X6_isKind hv) cal_X6_isKind kM_X6_116 ⟨Nat.le_trans (Nat.le_of_ble_eq_true rfl) hRf, Nat.le_trans (Nat.le_of_ble_eq_true rfl) hRl⟩ rfl hl.1 (Nat.le_of_ble_eq_true rfl) rfl dX6_buy_6 ⟨Nat.zero_le _, Nat.zero_le _⟩ (fun H locs hP hS => ?_)
  obtain ⟨J5, eJ5, hf⟩ := jn_e2 hf
  have hJ5 : ∀ (y3 : Int32) (σ4 : Mem) (H : Heap) (locs : List Loc) (ls : Array Slot), J5 y3 σ4 = some (r, σr) → va_P D vwCl (wsG 25 ad (EM ad cI) σ4) H → va_S (AG 25 ad s.heap.size) s.heap H locs → lv_has ls 4 [(0, .ref (ad 0)), (1, .int a0), (2, .int v1)] → W p l e R s m args below meth c H locs 0 0 Q (F0 m 22 ls [.int y3]) := by
    intro y3 σ4 H locs ls hf hP hS hl
    rw [eJ5] at hf
    refine lv_istore_n (lv' := [(3, .int y3), (0, .ref (ad 0)), (1, .int a0), (2, .int v1)]) hx hb dX6_buy_22 rfl hl (by decide) rfl (fun ls hl => ?_)
    refine lv_aload_n hx hb dX6_buy_23 rfl (lv_at hl 1 rfl) ?_
    refine lv_iload_n hx hb dX6_buy_24 rfl (lv_at hl 2 rfl) ?_
    obtain ⟨v6, hv, hf⟩ := bd_e hf
    refine g_cSi0 ⟨⟨hx, hb, hml, hown, hB⟩, hK, hi, hA, hAd, hP, hS⟩ (c_X6_isKind hv) cal_X6_isKind kM_X6_116 ⟨Nat.le_trans (Nat.le_of_ble_eq_true rfl) hRf, Nat.le_trans (Nat.le_of_ble_eq_true rfl) hRl⟩ rfl hl.1 (Nat.le_of_ble_eq_true rfl) rfl dX6_buy_25 ⟨Nat.zero_le _, Nat.zero_le _⟩ (fun H locs hP hS => ?_)
    obtain ⟨J9, eJ9, hf⟩ := jn_e2 hf
    have hJ9 : ∀ (y7 : Int32) (σ8 : Mem) (H : Heap) (locs : List Loc) (ls : Array Slot), J9 y7 σ8 = some (r, σr) → va_P D vwCl (wsG 25 ad (EM ad cI) σ8) H → va_S (AG 25 ad s.heap.size) s.heap H locs → lv_has ls 4 [(0, .ref (ad 0)), (1, .int a0), (2, .int v1), (3, .int y3)] → W p l e R s m args below meth c H locs 0 0 Q (F0 m 69 ls [.int y7, .ref (ad 0)]) := by
      intro y7 σ8 H locs ls hf hP hS hl
      rw [eJ9] at hf
      obtain ⟨v10, σ11, hv, hf⟩ := bd2_e hf
      refine g_cViS (k0 := 0) ⟨⟨hx, hb, hml, hown, hB⟩, hK, hi, hA, hAd, hP, hS⟩ (c_X6_can hi hv) cal_X6_can kM_X6_110 ⟨Nat.le_trans (Nat.le_of_ble_eq_true rfl) hRf, Nat.le_trans (Nat.le_of_ble_eq_true rfl) hRl⟩ (by decide) rfl rfl rfl hl.1 (Nat.le_of_ble_eq_true rfl) rfl dX6_buy_69 ⟨Nat.zero_le _, Nat.zero_le _⟩ (fun H locs hP hS => ?_)
      refine lv_if_ne (tgt := 77) hx hb dX6_buy_72 (by decide) (fun q12 => ?_) (fun q12 => ?_)
      · rw [if_neg q12] at hf
        refine lv_aload_n hx hb dX6_buy_77 rfl (lv_at hl 0 rfl) ?_
        refine g_get (v := .ref (ad 5)) hx hb hB hown hK hP 0 (by decide) rfl rfl kU_X6 4 (by decide) kF_X6_22 rfl rfl dX6_buy_78 ?_
        refine lv_iload_n hx hb dX6_buy_81 rfl (lv_at hl 3 rfl) ?_
        refine lv_dup2_11 hx hb dX6_buy_82 rfl rfl ?_
        obtain ⟨hin, hf⟩ := gd_e hf
        refine g_iald hx hb hK hP 5 40 (by decide) rfl hin dX6_buy_83 ?_
        refine lv_iconst (v := 1) hx hb dX6_buy_84 (by decide) ?_
        refine lv_isub hx hb dX6_buy_85 ?_
        obtain ⟨hin, hf⟩ := gd_e hf
        obtain ⟨σ13, eσ13, hf⟩ := stp_e hf
        refine g_iast (σ1 := σ13) hx hb hK hP hi hAd hS 5 40 (by decide) (fun _ => rfl) hin dX6_buy_86 eσ13 (fun H locs hP hS => ?_)
        refine lv_aload_n hx hb dX6_buy_87 rfl (lv_at hl 0 rfl) ?_
        refine g_get (v := .ref (ad 11)) hx hb hB hown hK hP 0 (by decide) rfl rfl kU_X6 11 (by decide) kF_X6_40 rfl rfl dX6_buy_88 ?_
        refine lv_iconst (v := 5) hx hb dX6_buy_91 (by decide) ?_
        refine lv_iload_n hx hb dX6_buy_92 rfl (lv_at hl 2 rfl) ?_
        refine lv_imul hx hb dX6_buy_93 ?_
        refine lv_iload_n hx hb dX6_buy_94 rfl (lv_at hl 1 rfl) ?_
        refine lv_iadd hx hb dX6_buy_95 ?_
        refine lv_dup2_11 hx hb dX6_buy_96 rfl rfl ?_
        obtain ⟨hin, hf⟩ := gd_e hf
        refine g_iald hx hb hK hP 11 20 (by decide) rfl hin dX6_buy_97 ?_
        refine lv_iconst (v := 1) hx hb dX6_buy_98 (by decide) ?_
        refine lv_iadd hx hb dX6_buy_99 ?_
        obtain ⟨hin, hf⟩ := gd_e hf
        obtain ⟨σ14, eσ14, hf⟩ := stp_e hf
        refine g_iast (σ1 := σ14) hx hb hK hP hi hAd hS 11 20 (by decide) (fun _ => rfl) hin dX6_buy_100 eσ14 (fun H locs hP hS => ?_)
        refine lv_aload_n hx hb dX6_buy_101 rfl (lv_at hl 0 rfl) ?_
        refine g_get (v := .ref (ad 7)) hx hb hB hown hK hP 0 (by decide) rfl rfl kU_X6 7 (by decide) kF_X6_28 rfl rfl dX6_buy_102 ?_
        refine lv_iload_n hx hb dX6_buy_105 rfl (lv_at hl 2 rfl) ?_
        refine lv_dup2_11 hx hb dX6_buy_106 rfl rfl ?_
        obtain ⟨hin, hf⟩ := gd_e hf
        refine g_iald hx hb hK hP 7 4 (by decide) rfl hin dX6_buy_107 ?_
        refine lv_aload_n hx hb dX6_buy_108 rfl (lv_at hl 0 rfl) ?_
        refine g_get (v := .ref (ad 4)) hx hb hB hown hK hP 0 (by decide) rfl rfl kU_X6 3 (by decide) kF_X6_19 rfl rfl dX6_buy_109 ?_
        refine lv_iload_n hx hb dX6_buy_112 rfl (lv_at hl 3 rfl) ?_
        obtain ⟨hin, hf⟩ := gd_e hf
        refine g_iald hx hb hK hP 4 40 (by decide) rfl hin dX6_buy_113 ?_
        refine lv_isub hx hb dX6_buy_114 ?_
        obtain ⟨hin, hf⟩ := gd_e hf
        obtain ⟨σ15, eσ15, hf⟩ := stp_e hf
        refine g_iast (σ1 := σ15) hx hb hK hP hi hAd hS 7 4 (by decide) (fun _ => rfl) hin dX6_buy_115 eσ15 (fun H locs hP hS => ?_)
        refine lv_aload_n hx hb dX6_buy_116 rfl (lv_at hl 0 rfl) ?_
        refine g_get (v := .ref (ad 3)) hx hb hB hown hK hP 0 (by decide) rfl rfl kU_X6 2 (by decide) kF_X6_16 rfl rfl dX6_buy_117 ?_
        refine lv_aload_n hx hb dX6_buy_120 rfl (lv_at hl 0 rfl) ?_
        refine g_get (v := .ref (ad 6)) hx hb hB hown hK hP 0 (by decide) rfl rfl kU_X6 6 (by decide) kF_X6_25 rfl rfl dX6_buy_121 ?_
        refine lv_iload_n hx hb dX6_buy_124 rfl (lv_at hl 2 rfl) ?_
        obtain ⟨hin, hf⟩ := gd_e hf
        refine g_iald hx hb hK hP 6 4 (by decide) rfl hin dX6_buy_125 ?_
        refine lv_dup2_11 hx hb dX6_buy_126 rfl rfl ?_
        obtain ⟨hin, hf⟩ := gd_e hf
        refine g_iald hx hb hK hP 3 8 (by decide) rfl hin dX6_buy_127 ?_
        refine lv_aload_n hx hb dX6_buy_128 rfl (lv_at hl 0 rfl) ?_
        refine g_get (v := .ref (ad 4)) hx hb hB hown hK hP 0 (by decide) rfl rfl kU_X6 3 (by decide) kF_X6_19 rfl rfl dX6_buy_129 ?_
        refine lv_iload_n hx hb dX6_buy_132 rfl (lv_at hl 3 rfl) ?_
        obtain ⟨hin, hf⟩ := gd_e hf
        refine g_iald hx hb hK hP 4 40 (by decide) rfl hin dX6_buy_133 ?_
        refine lv_iadd hx hb dX6_buy_134 ?_
        obtain ⟨hin, hf⟩ := gd_e hf
        obtain ⟨σ16, eσ16, hf⟩ := stp_e hf
        refine g_iast (σ1 := σ16) hx hb hK hP hi hAd hS 3 8 (by decide) (fun _ => rfl) hin dX6_buy_135 eσ16 (fun H locs hP hS => ?_)
        refine lv_aload_n hx hb dX6_buy_136 rfl (lv_at hl 0 rfl) ?_
        refine lv_iload_n hx hb dX6_buy_137 rfl (lv_at hl 2 rfl) ?_
        refine lv_iconst (v := 1) hx hb dX6_buy_138 (by decide) ?_
        refine lv_iconst (v := (-1)) hx hb dX6_buy_139 (by decide) ?_
        refine lv_iconst (v := (-1)) hx hb dX6_buy_140 (by decide) ?_
        obtain ⟨σ17, hv, hf⟩ := bd_e hf
        refine g_cVvS (k0 := 0) ⟨⟨hx, hb, hml, hown, hB⟩, hK, hi, hA, hAd, hP, hS⟩ (c_X6_ends hi hv) cal_X6_ends kM_X6_130 ⟨Nat.le_trans (Nat.le_of_ble_eq_true rfl) hRf, Nat.le_trans (Nat.le_of_ble_eq_true rfl) hRl⟩ (by decide) rfl rfl rfl hl.1 (Nat.le_of_ble_eq_true rfl) rfl dX6_buy_141 ⟨Nat.zero_le _, Nat.zero_le _⟩ (fun H locs hP hS => ?_)
        refine lv_aload_n hx hb dX6_buy_144 rfl (lv_at hl 0 rfl) ?_
        refine g_get (v := .ref (ad 7)) hx hb hB hown hK hP 0 (by decide) rfl rfl kU_X6 7 (by decide) kF_X6_28 rfl rfl dX6_buy_145 ?_
        refine lv_iload_n hx hb dX6_buy_148 rfl (lv_at hl 2 rfl) ?_
        obtain ⟨hin, hf⟩ := gd_e hf
        refine g_iald hx hb hK hP 7 4 (by decide) rfl hin dX6_buy_149 ?_
        obtain ⟨h1, h2⟩ := rt2 hf
        rw [hQ]
        exact g_iret hx hb hr hlocks hP hS h1 h2 dX6_buy_150
      · rw [if_pos q12] at hf
        refine lv_iconst (v := 0) hx hb dX6_buy_75 (by decide) ?_
        obtain ⟨h1, h2⟩ := rt2 hf
        rw [hQ]
        exact g_iret hx hb hr hlocks hP hS h1 h2 dX6_buy_76
    refine lv_if_ne (tgt := 35) hx hb dX6_buy_28 (by decide) (fun q18 => ?_) (fun q18 => ?_)
    · rw [if_neg q18] at hf
      refine lv_iload_n hx hb dX6_buy_35 rfl (lv_at hl 0 rfl) ?_
      refine lv_iconst (v := (-1)) hx hb dX6_buy_36 (by decide) ?_
      obtain ⟨J20, eJ20, hf⟩ := jn_e1 hf
      have hJ20 : ∀ (σ19 : Mem) (H : Heap) (locs : List Loc) (ls : Array Slot), J20 σ19 = some (r, σr) → va_P D vwCl (wsG 25 ad (EM ad cI) σ19) H → va_S (AG 25 ad s.heap.size) s.heap H locs → lv_has ls 4 [(0, .ref (ad 0)), (1, .int a0), (2, .int v1), (3, .int y3)] → W p l e R s m args below meth c H locs 0 0 Q (F0 m 64 ls [.ref (ad 0)]) := by
        intro σ19 H locs ls hf hP hS hl
        rw [eJ20] at hf
        refine lv_iconst (v := 2) hx hb dX6_buy_64 (by decide) ?_
        refine lv_goto (tgt := 69) hx hb dX6_buy_65 (by decide) ?_
        exact hJ9 2 σ19 _ _ ls hf hP hS (lv_sub hl [0, 1, 2, 3] rfl)
      refine lv_icmp_eq (tgt := 64) hx hb dX6_buy_37 (by decide) (fun q21 => ?_) (fun q21 => ?_)
      · rw [if_pos q21] at hf
        exact hJ20 σ4 _ _ ls hf hP hS (lv_sub hl [1, 2, 3, 0] rfl)
      · rw [if_neg q21] at hf
        refine lv_aload_n hx hb dX6_buy_40 rfl (lv_at hl 1 rfl) ?_
        refine g_get (v := .ref (ad 5)) hx hb hB hown hK hP 0 (by decide) rfl rfl kU_X6 4 (by decide) kF_X6_22 rfl rfl dX6_buy_41 ?_
        refine lv_iload_n hx hb dX6_buy_44 rfl (lv_at hl 0 rfl) ?_
        obtain ⟨hin, hf⟩ := gd_e hf
        refine g_iald hx hb hK hP 5 40 (by decide) rfl hin dX6_buy_45 ?_
        refine lv_if_eq (tgt := 64) hx hb dX6_buy_46 (by decide) (fun q22 => ?_) (fun q22 => ?_)
        · rw [if_pos q22] at hf
          exact hJ20 σ4 _ _ ls hf hP hS (lv_sub hl [1, 2, 3, 0] rfl)
        · rw [if_neg q22] at hf
          refine lv_aload_n hx hb dX6_buy_49 rfl (lv_at hl 1 rfl) ?_
          refine g_get (v := .ref (ad 7)) hx hb hB hown hK hP 0 (by decide) rfl rfl kU_X6 7 (by decide) kF_X6_28 rfl rfl dX6_buy_50 ?_
          refine lv_iload_n hx hb dX6_buy_53 rfl (lv_at hl 3 rfl) ?_
          obtain ⟨hin, hf⟩ := gd_e hf
          refine g_iald hx hb hK hP 7 4 (by decide) rfl hin dX6_buy_54 ?_
          refine lv_aload_n hx hb dX6_buy_55 rfl (lv_at hl 1 rfl) ?_
          refine g_get (v := .ref (ad 4)) hx hb hB hown hK hP 0 (by decide) rfl rfl kU_X6 3 (by decide) kF_X6_19 rfl rfl dX6_buy_56 ?_
          refine lv_iload_n hx hb dX6_buy_59 rfl (lv_at hl 0 rfl) ?_
          obtain ⟨hin, hf⟩ := gd_e hf
          refine g_iald hx hb hK hP 4 40 (by decide) rfl hin dX6_buy_60 ?_
          refine lv_icmp_ge (tgt := 68) hx hb dX6_buy_61 (by decide) (fun q23 => ?_) (fun q23 => ?_)
          · rw [if_pos q23] at hf
            refine lv_iconst (v := 0) hx hb dX6_buy_68 (by decide) ?_
            exact hJ9 0 σ4 _ _ ls hf hP hS (lv_sub hl [1, 2, 3, 0] rfl)
          · rw [if_neg q23] at hf
            exact hJ20 σ4 _ _ ls hf hP hS (lv_sub hl [1, 2, 3, 0] rfl)
    · rw [if_pos q18] at hf
      refine lv_iconst (v := 1) hx hb dX6_buy_31 (by decide) ?_
      refine lv_goto (tgt := 69) hx hb dX6_buy_32 (by decide) ?_
      exact hJ9 1 σ4 _ _ ls hf hP hS (lv_sub hl [1, 2, 3, 0] rfl)
  refine lv_if_eq (tgt := 21) hx hb dX6_buy_9 (by decide) (fun q24 => ?_) (fun q24 => ?_)
  · rw [if_pos q24] at hf
    refine lv_iconst (v := (-1)) hx hb dX6_buy_21 (by decide) ?_
    exact hJ5 (-1) σ _ _ ls hf hP hS (lv_sub hl [1, 2, 0] rfl)
  · rw [if_neg q24] at hf
    refine lv_aload_n hx hb dX6_buy_12 rfl (lv_at hl 1 rfl) ?_
    refine lv_iload_n hx hb dX6_buy_13 rfl (lv_at hl 0 rfl) ?_
    refine lv_iload_n hx hb dX6_buy_14 rfl (lv_at hl 2 rfl) ?_
    obtain ⟨v25, hv, hf⟩ := bd_e hf
    refine g_cViS (k0 := 0) ⟨⟨hx, hb, hml, hown, hB⟩, hK, hi, hA, hAd, hP, hS⟩ (c_X6_traded hi hv) cal_X6_traded kM_X6_152 ⟨Nat.le_trans (Nat.le_of_ble_eq_true rfl) hRf, Nat.le_trans (Nat.le_of_ble_eq_true rfl) hRl⟩ (by decide) rfl rfl rfl hl.1 (Nat.le_of_ble_eq_true rfl) rfl dX6_buy_15 ⟨Nat.zero_le _, Nat.zero_le _⟩ (fun H locs hP hS => ?_)
    refine lv_goto (tgt := 22) hx hb dX6_buy_18 (by decide) ?_
    exact hJ5 v25 σ _ _ ls hf hP hS (lv_sub hl [1, 2, 0] rfl)
def f_X6_sell (σ : Mem) (a0 : Int32) : Option (Int32 × Mem) :=
bd (f_X6_actor σ) fun v1 =>
bd (f_X6_isKind a0) fun v2 =>
jn (fun (y3 : Int32) (σ4 : Mem) =>
bd (f_X6_isKind a0) fun v6 =>
jn (fun (y7 : Int32) (σ8 : Mem) =>
bd2 (f_X6_can σ8 y7) fun v10 σ11 =>
if v10 = 0 then (
some (0, σ11))
else (
gd y3 40 <|
gd y3 40 <| stp (mu σ11 5 y3.toNatClampNeg ((σ11 5 y3.toNatClampNeg) + 1)) fun σ13 =>
gd ((5 * v1) + a0) 20 <|
gd ((5 * v1) + a0) 20 <| stp (mu σ13 11 ((5 * v1) + a0).toNatClampNeg ((σ13 11 ((5 * v1) + a0).toNatClampNeg) - 1)) fun σ14 =>
gd v1 4 <|
gd y3 40 <|
gd v1 4 <| stp (mu σ14 7 v1.toNatClampNeg ((σ14 7 v1.toNatClampNeg) + ((σ14 4 y3.toNatClampNeg) / 2))) fun σ15 =>
gd v1 4 <|
gd (σ15 6 v1.toNatClampNeg) 8 <|
gd y3 40 <|
gd (σ15 6 v1.toNatClampNeg) 8 <| stp (mu σ15 3 (σ15 6 v1.toNatClampNeg).toNatClampNeg ((σ15 3 (σ15 6 v1.toNatClampNeg).toNatClampNeg) - ((σ15 4 y3.toNatClampNeg) / 2))) fun σ16 =>
bd (f_X6_ends σ16 v1 1 (-1) (-1)) fun σ17 =>
gd v1 4 <|
some ((σ17 7 v1.toNatClampNeg), σ17))) fun (J9 : Int32 → Mem → Option (Int32 × Mem)) =>
if v6 = 0 then (
J9 1 σ4)
else (
jn (fun (σ19 : Mem) =>
J9 2 σ19) fun (J20 : Mem → Option (Int32 × Mem)) =>
if y3 = (-1) then (
J20 σ4)
else (
gd ((5 * v1) + a0) 20 <|
if (σ4 11 ((5 * v1) + a0).toNatClampNeg) = 0 then (
J20 σ4)
else (
gd v1 4 <|
gd (σ4 6 v1.toNatClampNeg) 8 <|
gd y3 40 <|
if ((σ4 4 y3.toNatClampNeg) / 2) ≤ (σ4 3 (σ4 6 v1.toNatClampNeg).toNatClampNeg) then (
J9 0 σ4)
else (
J20 σ4))))) fun (J5 : Int32 → Mem → Option (Int32 × Mem)) =>
if v2 = 0 then (
J5 (-1) σ)
else (
bd (f_X6_traded σ v1 a0) fun v25 =>
J5 v25 σ)
set_option maxHeartbeats 4000000 in
set_option maxRecDepth 100000 in
theorem c_X6_sell {l : Launch} {D : va_G} {cI cJ : ClassId} {ad : Nat → Nat} {σ : Mem} {a0 : Int32} {r : Int32} {σr : Mem}  (hi : injG 25 ad) (hf : f_X6_sell σ a0 = some (r, σr)) : MGi l yX6_sell (Cond.code yX6_sell cX6_sell 4 (some .int) :: BIG) 3 70 D cI cJ 25 ad (EM ad cI) [.ref (ad 0), .int a0] σ σr r := by
  refine MGi.ofW (cc := cX6_sell) (nL := 4) (ret := (some .int)) (by decide) rfl hi ?_
  intro p e s m args below meth c hx hb hr hml hlocks hown hB hK hP hA hAd hS
  have hown : s.vm.findClass RX6 = some m.cls := hown
  have hl := lv_entry ([.ref (ad 0), .int a0] : List Value) (n := 4) (Nat.le_of_ble_eq_true rfl)
  rw [lg_entry_eq]
  generalize (lg_sl ([.ref (ad 0), .int a0] : List Value) ++ List.replicate (4 - (lg_sl ([.ref (ad 0), .int a0] : List Value)).length) Slot.unset).toArray = ls at hl ⊢
  have hl : lv_has ls 4 [(0, .ref (ad 0)), (1, .int a0)] := hl
  generalize hQ : MQ below (Qgi D 25 ad (EM ad cI) r σr s.heap.size) _ s 0 0 (AG 25 ad s.heap.size) = Q
  have hQ := hQ.symm
  obtain ⟨R, hR, hRf, hRl⟩ : ∃ R : Room, R = ({ frames := 3, cells := 0, slots := 0, locals := 70 } : Room) ∧ 3 ≤ R.frames ∧ 70 ≤ R.locals := ⟨_, rfl, Nat.le_refl _, Nat.le_refl _⟩
  rw [← hR]
  unfold f_X6_sell at hf
  refine lv_aload_n hx hb dX6_sell_0 rfl (lv_at hl 0 rfl) ?_
  obtain ⟨v1, hv, hf⟩ := bd_e hf
  refine g_cViS (k0 := 0) ⟨⟨hx, hb, hml, hown, hB⟩, hK, hi, hA, hAd, hP, hS⟩ (c_X6_actor hi hv) cal_X6_actor kM_X6_102 ⟨Nat.le_trans (Nat.le_of_ble_eq_true rfl) hRf, Nat.le_trans (Nat.le_of_ble_eq_true rfl) hRl⟩ (by decide) rfl rfl rfl hl.1 (Nat.le_of_ble_eq_true rfl) rfl dX6_sell_1 ⟨Nat.zero_le _, Nat.zero_le _⟩ (fun H locs hP hS => ?_)
  refine lv_istore_n (lv' := [(2, .int v1), (0, .ref (ad 0)), (1, .int a0)]) hx hb dX6_sell_4 rfl hl (by decide) rfl (fun ls hl => ?_)
  refine lv_iload_n hx hb dX6_sell_5 rfl (lv_at hl 2 rfl) ?_
  obtain ⟨v2, hv, hf⟩ := bd_e hf
  refine g_cSi0 ⟨⟨hx, hb, hml, hown, hB⟩, hK, hi, hA, hAd, hP, hS⟩ (c_X6_isKind hv) cal_X6_isKind kM_X6_116 ⟨Nat.le_trans (Nat.le_of_ble_eq_true rfl) hRf, Nat.le_trans (Nat.le_of_ble_eq_true rfl) hRl⟩ rfl hl.1 (Nat.le_of_ble_eq_true rfl) rfl dX6_sell_6 ⟨Nat.zero_le _, Nat.zero_le _⟩ (fun H locs hP hS => ?_)
  obtain ⟨J5, eJ5, hf⟩ := jn_e2 hf
  have hJ5 : ∀ (y3 : Int32) (σ4 : Mem) (H : Heap) (locs : List Loc) (ls : Array Slot), J5 y3 σ4 = some (r, σr) → va_P D vwCl (wsG 25 ad (EM ad cI) σ4) H → va_S (AG 25 ad s.heap.size) s.heap H locs → lv_has ls 4 [(0, .ref (ad 0)), (1, .int a0), (2, .int v1)] → W p l e R s m args below meth c H locs 0 0 Q (F0 m 22 ls [.int y3]) := by
    intro y3 σ4 H locs ls hf hP hS hl
    rw [eJ5] at hf
    refine lv_istore_n (lv' := [(3, .int y3), (0, .ref (ad 0)), (1, .int a0), (2, .int v1)]) hx hb dX6_sell_22 rfl hl (by decide) rfl (fun ls hl => ?_)
    refine lv_aload_n hx hb dX6_sell_23 rfl (lv_at hl 1 rfl) ?_
    refine lv_iload_n hx hb dX6_sell_24 rfl (lv_at hl 2 rfl) ?_
    obtain ⟨v6, hv, hf⟩ := bd_e hf
    refine g_cSi0 ⟨⟨hx, hb, hml, hown, hB⟩, hK, hi, hA, hAd, hP, hS⟩ (c_X6_isKind hv) cal_X6_isKind kM_X6_116 ⟨Nat.le_trans (Nat.le_of_ble_eq_true rfl) hRf, Nat.le_trans (Nat.le_of_ble_eq_true rfl) hRl⟩ rfl hl.1 (Nat.le_of_ble_eq_true rfl) rfl dX6_sell_25 ⟨Nat.zero_le _, Nat.zero_le _⟩ (fun H locs hP hS => ?_)
    obtain ⟨J9, eJ9, hf⟩ := jn_e2 hf
    have hJ9 : ∀ (y7 : Int32) (σ8 : Mem) (H : Heap) (locs : List Loc) (ls : Array Slot), J9 y7 σ8 = some (r, σr) → va_P D vwCl (wsG 25 ad (EM ad cI) σ8) H → va_S (AG 25 ad s.heap.size) s.heap H locs → lv_has ls 4 [(0, .ref (ad 0)), (1, .int a0), (2, .int v1), (3, .int y3)] → W p l e R s m args below meth c H locs 0 0 Q (F0 m 80 ls [.int y7, .ref (ad 0)]) := by
      intro y7 σ8 H locs ls hf hP hS hl
      rw [eJ9] at hf
      obtain ⟨v10, σ11, hv, hf⟩ := bd2_e hf
      refine g_cViS (k0 := 0) ⟨⟨hx, hb, hml, hown, hB⟩, hK, hi, hA, hAd, hP, hS⟩ (c_X6_can hi hv) cal_X6_can kM_X6_110 ⟨Nat.le_trans (Nat.le_of_ble_eq_true rfl) hRf, Nat.le_trans (Nat.le_of_ble_eq_true rfl) hRl⟩ (by decide) rfl rfl rfl hl.1 (Nat.le_of_ble_eq_true rfl) rfl dX6_sell_80 ⟨Nat.zero_le _, Nat.zero_le _⟩ (fun H locs hP hS => ?_)
      refine lv_if_ne (tgt := 88) hx hb dX6_sell_83 (by decide) (fun q12 => ?_) (fun q12 => ?_)
      · rw [if_neg q12] at hf
        refine lv_aload_n hx hb dX6_sell_88 rfl (lv_at hl 0 rfl) ?_
        refine g_get (v := .ref (ad 5)) hx hb hB hown hK hP 0 (by decide) rfl rfl kU_X6 4 (by decide) kF_X6_22 rfl rfl dX6_sell_89 ?_
        refine lv_iload_n hx hb dX6_sell_92 rfl (lv_at hl 3 rfl) ?_
        refine lv_dup2_11 hx hb dX6_sell_93 rfl rfl ?_
        obtain ⟨hin, hf⟩ := gd_e hf
        refine g_iald hx hb hK hP 5 40 (by decide) rfl hin dX6_sell_94 ?_
        refine lv_iconst (v := 1) hx hb dX6_sell_95 (by decide) ?_
        refine lv_iadd hx hb dX6_sell_96 ?_
        obtain ⟨hin, hf⟩ := gd_e hf
        obtain ⟨σ13, eσ13, hf⟩ := stp_e hf
        refine g_iast (σ1 := σ13) hx hb hK hP hi hAd hS 5 40 (by decide) (fun _ => rfl) hin dX6_sell_97 eσ13 (fun H locs hP hS => ?_)
        refine lv_aload_n hx hb dX6_sell_98 rfl (lv_at hl 0 rfl) ?_
        refine g_get (v := .ref (ad 11)) hx hb hB hown hK hP 0 (by decide) rfl rfl kU_X6 11 (by decide) kF_X6_40 rfl rfl dX6_sell_99 ?_
        refine lv_iconst (v := 5) hx hb dX6_sell_102 (by decide) ?_
        refine lv_iload_n hx hb dX6_sell_103 rfl (lv_at hl 2 rfl) ?_
        refine lv_imul hx hb dX6_sell_104 ?_
        refine lv_iload_n hx hb dX6_sell_105 rfl (lv_at hl 1 rfl) ?_
        refine lv_iadd hx hb dX6_sell_106 ?_
        refine lv_dup2_11 hx hb dX6_sell_107 rfl rfl ?_
        obtain ⟨hin, hf⟩ := gd_e hf
        refine g_iald hx hb hK hP 11 20 (by decide) rfl hin dX6_sell_108 ?_
        refine lv_iconst (v := 1) hx hb dX6_sell_109 (by decide) ?_
        refine lv_isub hx hb dX6_sell_110 ?_
        obtain ⟨hin, hf⟩ := gd_e hf
        obtain ⟨σ14, eσ14, hf⟩ := stp_e hf
        refine g_iast (σ1 := σ14) hx hb hK hP hi hAd hS 11 20 (by decide) (fun _ => rfl) hin dX6_sell_111 eσ14 (fun H locs hP hS => ?_)
        refine lv_aload_n hx hb dX6_sell_112 rfl (lv_at hl 0 rfl) ?_
        refine g_get (v := .ref (ad 7)) hx hb hB hown hK hP 0 (by decide) rfl rfl kU_X6 7 (by decide) kF_X6_28 rfl rfl dX6_sell_113 ?_
        refine lv_iload_n hx hb dX6_sell_116 rfl (lv_at hl 2 rfl) ?_
        refine lv_dup2_11 hx hb dX6_sell_117 rfl rfl ?_
        obtain ⟨hin, hf⟩ := gd_e hf
        refine g_iald hx hb hK hP 7 4 (by decide) rfl hin dX6_sell_118 ?_
        refine lv_aload_n hx hb dX6_sell_119 rfl (lv_at hl 0 rfl) ?_
        refine g_get (v := .ref (ad 4)) hx hb hB hown hK hP 0 (by decide) rfl rfl kU_X6 3 (by decide) kF_X6_19 rfl rfl dX6_sell_120 ?_
        refine lv_iload_n hx hb dX6_sell_123 rfl (lv_at hl 3 rfl) ?_
        obtain ⟨hin, hf⟩ := gd_e hf
        refine g_iald hx hb hK hP 4 40 (by decide) rfl hin dX6_sell_124 ?_
        refine lv_iconst (v := 2) hx hb dX6_sell_125 (by decide) ?_
        refine lv_idiv hx hb dX6_sell_126 (by decide) ?_
        refine lv_iadd hx hb dX6_sell_127 ?_
        obtain ⟨hin, hf⟩ := gd_e hf
        obtain ⟨σ15, eσ15, hf⟩ := stp_e hf
        refine g_iast (σ1 := σ15) hx hb hK hP hi hAd hS 7 4 (by decide) (fun _ => rfl) hin dX6_sell_128 eσ15 (fun H locs hP hS => ?_)
        refine lv_aload_n hx hb dX6_sell_129 rfl (lv_at hl 0 rfl) ?_
        refine g_get (v := .ref (ad 3)) hx hb hB hown hK hP 0 (by decide) rfl rfl kU_X6 2 (by decide) kF_X6_16 rfl rfl dX6_sell_130 ?_
        refine lv_aload_n hx hb dX6_sell_133 rfl (lv_at hl 0 rfl) ?_
        refine g_get (v := .ref (ad 6)) hx hb hB hown hK hP 0 (by decide) rfl rfl kU_X6 6 (by decide) kF_X6_25 rfl rfl dX6_sell_134 ?_
        refine lv_iload_n hx hb dX6_sell_137 rfl (lv_at hl 2 rfl) ?_
        obtain ⟨hin, hf⟩ := gd_e hf
        refine g_iald hx hb hK hP 6 4 (by decide) rfl hin dX6_sell_138 ?_
        refine lv_dup2_11 hx hb dX6_sell_139 rfl rfl ?_
        obtain ⟨hin, hf⟩ := gd_e hf
        refine g_iald hx hb hK hP 3 8 (by decide) rfl hin dX6_sell_140 ?_
        refine lv_aload_n hx hb dX6_sell_141 rfl (lv_at hl 0 rfl) ?_
        refine g_get (v := .ref (ad 4)) hx hb hB hown hK hP 0 (by decide) rfl rfl kU_X6 3 (by decide) kF_X6_19 rfl rfl dX6_sell_142 ?_
        refine lv_iload_n hx hb dX6_sell_145 rfl (lv_at hl 3 rfl) ?_
        obtain ⟨hin, hf⟩ := gd_e hf
        refine g_iald hx hb hK hP 4 40 (by decide) rfl hin dX6_sell_146 ?_
        refine lv_iconst (v := 2) hx hb dX6_sell_147 (by decide) ?_
        refine lv_idiv hx hb dX6_sell_148 (by decide) ?_
        refine lv_isub hx hb dX6_sell_149 ?_
        obtain ⟨hin, hf⟩ := gd_e hf
        obtain ⟨σ16, eσ16, hf⟩ := stp_e hf
        refine g_iast (σ1 := σ16) hx hb hK hP hi hAd hS 3 8 (by decide) (fun _ => rfl) hin dX6_sell_150 eσ16 (fun H locs hP hS => ?_)
        refine lv_aload_n hx hb dX6_sell_151 rfl (lv_at hl 0 rfl) ?_
        refine lv_iload_n hx hb dX6_sell_152 rfl (lv_at hl 2 rfl) ?_
        refine lv_iconst (v := 1) hx hb dX6_sell_153 (by decide) ?_
        refine lv_iconst (v := (-1)) hx hb dX6_sell_154 (by decide) ?_
        refine lv_iconst (v := (-1)) hx hb dX6_sell_155 (by decide) ?_
        obtain ⟨σ17, hv, hf⟩ := bd_e hf
        refine g_cVvS (k0 := 0) ⟨⟨hx, hb, hml, hown, hB⟩, hK, hi, hA, hAd, hP, hS⟩ (c_X6_ends hi hv) cal_X6_ends kM_X6_130 ⟨Nat.le_trans (Nat.le_of_ble_eq_true rfl) hRf, Nat.le_trans (Nat.le_of_ble_eq_true rfl) hRl⟩ (by decide) rfl rfl rfl hl.1 (Nat.le_of_ble_eq_true rfl) rfl dX6_sell_156 ⟨Nat.zero_le _, Nat.zero_le _⟩ (fun H locs hP hS => ?_)
        refine lv_aload_n hx hb dX6_sell_159 rfl (lv_at hl 0 rfl) ?_
        refine g_get (v := .ref (ad 7)) hx hb hB hown hK hP 0 (by decide) rfl rfl kU_X6 7 (by decide) kF_X6_28 rfl rfl dX6_sell_160 ?_
        refine lv_iload_n hx hb dX6_sell_163 rfl (lv_at hl 2 rfl) ?_
        obtain ⟨hin, hf⟩ := gd_e hf
        refine g_iald hx hb hK hP 7 4 (by decide) rfl hin dX6_sell_164 ?_
        obtain ⟨h1, h2⟩ := rt2 hf
        rw [hQ]
        exact g_iret hx hb hr hlocks hP hS h1 h2 dX6_sell_165
      · rw [if_pos q12] at hf
        refine lv_iconst (v := 0) hx hb dX6_sell_86 (by decide) ?_
        obtain ⟨h1, h2⟩ := rt2 hf
        rw [hQ]
        exact g_iret hx hb hr hlocks hP hS h1 h2 dX6_sell_87
    refine lv_if_ne (tgt := 35) hx hb dX6_sell_28 (by decide) (fun q18 => ?_) (fun q18 => ?_)
    · rw [if_neg q18] at hf
      refine lv_iload_n hx hb dX6_sell_35 rfl (lv_at hl 0 rfl) ?_
      refine lv_iconst (v := (-1)) hx hb dX6_sell_36 (by decide) ?_
      obtain ⟨J20, eJ20, hf⟩ := jn_e1 hf
      have hJ20 : ∀ (σ19 : Mem) (H : Heap) (locs : List Loc) (ls : Array Slot), J20 σ19 = some (r, σr) → va_P D vwCl (wsG 25 ad (EM ad cI) σ19) H → va_S (AG 25 ad s.heap.size) s.heap H locs → lv_has ls 4 [(0, .ref (ad 0)), (1, .int a0), (2, .int v1), (3, .int y3)] → W p l e R s m args below meth c H locs 0 0 Q (F0 m 75 ls [.ref (ad 0)]) := by
        intro σ19 H locs ls hf hP hS hl
        rw [eJ20] at hf
        refine lv_iconst (v := 2) hx hb dX6_sell_75 (by decide) ?_
        refine lv_goto (tgt := 80) hx hb dX6_sell_76 (by decide) ?_
        exact hJ9 2 σ19 _ _ ls hf hP hS (lv_sub hl [0, 1, 2, 3] rfl)
      refine lv_icmp_eq (tgt := 75) hx hb dX6_sell_37 (by decide) (fun q21 => ?_) (fun q21 => ?_)
      · rw [if_pos q21] at hf
        exact hJ20 σ4 _ _ ls hf hP hS (lv_sub hl [1, 2, 3, 0] rfl)
      · rw [if_neg q21] at hf
        refine lv_aload_n hx hb dX6_sell_40 rfl (lv_at hl 1 rfl) ?_
        refine g_get (v := .ref (ad 11)) hx hb hB hown hK hP 0 (by decide) rfl rfl kU_X6 11 (by decide) kF_X6_40 rfl rfl dX6_sell_41 ?_
        refine lv_iconst (v := 5) hx hb dX6_sell_44 (by decide) ?_
        refine lv_iload_n hx hb dX6_sell_45 rfl (lv_at hl 3 rfl) ?_
        refine lv_imul hx hb dX6_sell_46 ?_
        refine lv_iload_n hx hb dX6_sell_47 rfl (lv_at hl 2 rfl) ?_
        refine lv_iadd hx hb dX6_sell_48 ?_
        obtain ⟨hin, hf⟩ := gd_e hf
        refine g_iald hx hb hK hP 11 20 (by decide) rfl hin dX6_sell_49 ?_
        refine lv_if_eq (tgt := 75) hx hb dX6_sell_50 (by decide) (fun q22 => ?_) (fun q22 => ?_)
        · rw [if_pos q22] at hf
          exact hJ20 σ4 _ _ ls hf hP hS (lv_sub hl [1, 2, 3, 0] rfl)
        · rw [if_neg q22] at hf
          refine lv_aload_n hx hb dX6_sell_53 rfl (lv_at hl 1 rfl) ?_
          refine g_get (v := .ref (ad 3)) hx hb hB hown hK hP 0 (by decide) rfl rfl kU_X6 2 (by decide) kF_X6_16 rfl rfl dX6_sell_54 ?_
          refine lv_aload_n hx hb dX6_sell_57 rfl (lv_at hl 1 rfl) ?_
          refine g_get (v := .ref (ad 6)) hx hb hB hown hK hP 0 (by decide) rfl rfl kU_X6 6 (by decide) kF_X6_25 rfl rfl dX6_sell_58 ?_
          refine lv_iload_n hx hb dX6_sell_61 rfl (lv_at hl 3 rfl) ?_
          obtain ⟨hin, hf⟩ := gd_e hf
          refine g_iald hx hb hK hP 6 4 (by decide) rfl hin dX6_sell_62 ?_
          obtain ⟨hin, hf⟩ := gd_e hf
          refine g_iald hx hb hK hP 3 8 (by decide) rfl hin dX6_sell_63 ?_
          refine lv_aload_n hx hb dX6_sell_64 rfl (lv_at hl 1 rfl) ?_
          refine g_get (v := .ref (ad 4)) hx hb hB hown hK hP 0 (by decide) rfl rfl kU_X6 3 (by decide) kF_X6_19 rfl rfl dX6_sell_65 ?_
          refine lv_iload_n hx hb dX6_sell_68 rfl (lv_at hl 0 rfl) ?_
          obtain ⟨hin, hf⟩ := gd_e hf
          refine g_iald hx hb hK hP 4 40 (by decide) rfl hin dX6_sell_69 ?_
          refine lv_iconst (v := 2) hx hb dX6_sell_70 (by decide) ?_
          refine lv_idiv hx hb dX6_sell_71 (by decide) ?_
          refine lv_icmp_ge (tgt := 79) hx hb dX6_sell_72 (by decide) (fun q23 => ?_) (fun q23 => ?_)
          · rw [if_pos q23] at hf
            refine lv_iconst (v := 0) hx hb dX6_sell_79 (by decide) ?_
            exact hJ9 0 σ4 _ _ ls hf hP hS (lv_sub hl [1, 2, 3, 0] rfl)
          · rw [if_neg q23] at hf
            exact hJ20 σ4 _ _ ls hf hP hS (lv_sub hl [1, 2, 3, 0] rfl)
    · rw [if_pos q18] at hf
      refine lv_iconst (v := 1) hx hb dX6_sell_31 (by decide) ?_
      refine lv_goto (tgt := 80) hx hb dX6_sell_32 (by decide) ?_
      exact hJ9 1 σ4 _ _ ls hf hP hS (lv_sub hl [1, 2, 3, 0] rfl)
  refine lv_if_eq (tgt := 21) hx hb dX6_sell_9 (by decide) (fun q24 => ?_) (fun q24 => ?_)
  · rw [if_pos q24] at hf
    refine lv_iconst (v := (-1)) hx hb dX6_sell_21 (by decide) ?_
    exact hJ5 (-1) σ _ _ ls hf hP hS (lv_sub hl [1, 2, 0] rfl)
  · rw [if_neg q24] at hf
    refine lv_aload_n hx hb dX6_sell_12 rfl (lv_at hl 1 rfl) ?_
    refine lv_iload_n hx hb dX6_sell_13 rfl (lv_at hl 0 rfl) ?_
    refine lv_iload_n hx hb dX6_sell_14 rfl (lv_at hl 2 rfl) ?_
    obtain ⟨v25, hv, hf⟩ := bd_e hf
    refine g_cViS (k0 := 0) ⟨⟨hx, hb, hml, hown, hB⟩, hK, hi, hA, hAd, hP, hS⟩ (c_X6_traded hi hv) cal_X6_traded kM_X6_152 ⟨Nat.le_trans (Nat.le_of_ble_eq_true rfl) hRf, Nat.le_trans (Nat.le_of_ble_eq_true rfl) hRl⟩ (by decide) rfl rfl rfl hl.1 (Nat.le_of_ble_eq_true rfl) rfl dX6_sell_15 ⟨Nat.zero_le _, Nat.zero_le _⟩ (fun H locs hP hS => ?_)
    refine lv_goto (tgt := 22) hx hb dX6_sell_18 (by decide) ?_
    exact hJ5 v25 σ _ _ ls hf hP hS (lv_sub hl [1, 2, 0] rfl)
def f_X6_rolls (σ : Mem) (a0 : Int32) : Option (Int32 × Mem) :=
stp (mu σ 0 15 (jrem ((25173 * (σ 0 15)) + 13849) 65536)) fun σ1 =>
gd a0 4 <|
some (((1 + (jrem (σ1 0 15) 6)) + (σ1 8 a0.toNatClampNeg)), σ1)
set_option maxHeartbeats 4000000 in
set_option maxRecDepth 100000 in
theorem c_X6_rolls {l : Launch} {D : va_G} {cI cJ : ClassId} {ad : Nat → Nat} {σ : Mem} {a0 : Int32} {r : Int32} {σr : Mem}  (hi : injG 25 ad) (hf : f_X6_rolls σ a0 = some (r, σr)) : MGi l yX6_rolls (Cond.code yX6_rolls cX6_rolls 2 (some .int) :: BIG) 0 0 D cI cJ 25 ad (EM ad cI) [.ref (ad 0), .int a0] σ σr r := by
  refine MGi.ofW (cc := cX6_rolls) (nL := 2) (ret := (some .int)) (by decide) rfl hi ?_
  intro p e s m args below meth c hx hb hr hml hlocks hown hB hK hP hA hAd hS
  have hown : s.vm.findClass RX6 = some m.cls := hown
  have hl := lv_entry ([.ref (ad 0), .int a0] : List Value) (n := 2) (Nat.le_of_ble_eq_true rfl)
  rw [lg_entry_eq]
  generalize (lg_sl ([.ref (ad 0), .int a0] : List Value) ++ List.replicate (2 - (lg_sl ([.ref (ad 0), .int a0] : List Value)).length) Slot.unset).toArray = ls at hl ⊢
  have hl : lv_has ls 2 [(0, .ref (ad 0)), (1, .int a0)] := hl
  generalize hQ : MQ below (Qgi D 25 ad (EM ad cI) r σr s.heap.size) _ s 0 0 (AG 25 ad s.heap.size) = Q
  have hQ := hQ.symm
  obtain ⟨R, hR, hRf, hRl⟩ : ∃ R : Room, R = ({ frames := 0, cells := 0, slots := 0, locals := 0 } : Room) ∧ 0 ≤ R.frames ∧ 0 ≤ R.locals := ⟨_, rfl, Nat.le_refl _, Nat.le_refl _⟩
  rw [← hR]
  unfold f_X6_rolls at hf
  refine lv_aload_n hx hb dX6_rolls_0 rfl (lv_at hl 0 rfl) ?_
  refine lv_sipush (v := 25173) hx hb dX6_rolls_1 (by decide) ?_
  refine lv_aload_n hx hb dX6_rolls_4 rfl (lv_at hl 0 rfl) ?_
  refine g_get (v := .int (σ 0 15)) hx hb hB hown hK hP 0 (by decide) rfl rfl kU_X6 15 (by decide) kF_X6_82 rfl rfl dX6_rolls_5 ?_
  refine lv_imul hx hb dX6_rolls_8 ?_
  refine lv_sipush (v := 13849) hx hb dX6_rolls_9 (by decide) ?_
  refine lv_iadd hx hb dX6_rolls_12 ?_
  refine lv_ldc (v := 65536) hx hb hown (hB _ kC_X6_156) dX6_rolls_13 ?_
  refine lv_irem hx hb dX6_rolls_15 (by decide) ?_
  obtain ⟨σ1, eσ1, hf⟩ := stp_e hf
  refine g_put (σ1 := σ1) hx hb hB hown hK hP hi hAd hS 0 (by decide) (fun f => [.ref (ad 1), .ref (ad 2), .ref (ad 3), .ref (ad 4), .ref (ad 5), .int (f 5), .ref (ad 6), .ref (ad 7), .ref (ad 8), .ref (ad 9), .ref (ad 10), .ref (ad 11), .ref (ad 12), .ref (ad 13), .int (f 14), .int (f 15), .int (f 16), .ref (ad 14), .ref (ad 15), .ref (ad 16), .ref (ad 17), .ref (ad 18), .ref (ad 19), .int (f 23), .ref (ad 20), .ref (ad 21), .ref (ad 22), .ref (ad 23), .ref (ad 24), .int (f 29)]) (fun _ => rfl) rfl kU_X6 tyX6 tyX6_ok nmX6 15 (by decide) kF_X6_82 rfl (fun _ _ => rfl) (fun _ => Nat.le_of_ble_eq_true rfl) dX6_rolls_16 eσ1 (fun H locs hP hS => ?_)
  refine lv_iconst (v := 1) hx hb dX6_rolls_19 (by decide) ?_
  refine lv_aload_n hx hb dX6_rolls_20 rfl (lv_at hl 0 rfl) ?_
  refine g_get (v := .int (σ1 0 15)) hx hb hB hown hK hP 0 (by decide) rfl rfl kU_X6 15 (by decide) kF_X6_82 rfl rfl dX6_rolls_21 ?_
  refine lv_bipush (v := 6) hx hb dX6_rolls_24 (by decide) ?_
  refine lv_irem hx hb dX6_rolls_26 (by decide) ?_
  refine lv_iadd hx hb dX6_rolls_27 ?_
  refine lv_aload_n hx hb dX6_rolls_28 rfl (lv_at hl 0 rfl) ?_
  refine g_get (v := .ref (ad 8)) hx hb hB hown hK hP 0 (by decide) rfl rfl kU_X6 8 (by decide) kF_X6_31 rfl rfl dX6_rolls_29 ?_
  refine lv_iload_n hx hb dX6_rolls_32 rfl (lv_at hl 1 rfl) ?_
  obtain ⟨hin, hf⟩ := gd_e hf
  refine g_iald hx hb hK hP 8 4 (by decide) rfl hin dX6_rolls_33 ?_
  refine lv_iadd hx hb dX6_rolls_34 ?_
  obtain ⟨h1, h2⟩ := rt2 hf
  rw [hQ]
  exact g_iret hx hb hr hlocks hP hS h1 h2 dX6_rolls_35
def L_X6_isBeaten_35 : Nat → (Mem → Option (Mem)) → Int32 → Int32 → Int32 → Mem → Option (Mem)
  | 0, _, _, _, _, _ => none
  | n + 1, k, x3, x4, x5, σ6 =>
    if 5 ≤ x5 then (
    k σ6)
    else (
    gd x3 4 <|
    gd ((5 * (σ6 6 x3.toNatClampNeg)) + x5) 40 <|
    gd ((5 * x3) + x5) 20 <|
    gd ((5 * (σ6 6 x3.toNatClampNeg)) + x5) 40 <| stp (mu σ6 2 ((5 * (σ6 6 x3.toNatClampNeg)) + x5).toNatClampNeg ((σ6 2 ((5 * (σ6 6 x3.toNatClampNeg)) + x5).toNatClampNeg) + (σ6 11 ((5 * x3) + x5).toNatClampNeg))) fun σ18 =>
    gd ((5 * x3) + x5) 20 <| stp (mu σ18 11 ((5 * x3) + x5).toNatClampNeg 0) fun σ19 =>
    L_X6_isBeaten_35 n k x3 x4 (x5 + 1) σ19)
def f_X6_isBeaten (σ : Mem) (a0 a1 a2 : Int32) : Option (Mem) :=
gd a0 4 <|
gd a0 4 <|
gd a0 4 <| stp (mu σ 7 a0.toNatClampNeg ((σ 7 a0.toNatClampNeg) - ((σ 7 a0.toNatClampNeg) / 2))) fun σ1 =>
gd a1 4 <|
gd a1 4 <| stp (mu σ1 7 a1.toNatClampNeg ((σ1 7 a1.toNatClampNeg) + ((σ 7 a0.toNatClampNeg) / 2))) fun σ2 =>
L_X6_isBeaten_35 FU (fun (σ8 : Mem) =>
gd a0 4 <| stp (mu σ8 6 a0.toNatClampNeg 0) fun σ9 =>
gd a0 4 <| stp (mu σ9 9 a0.toNatClampNeg 10) fun σ10 =>
gd a0 4 <|
jn (fun (y13 : Int32) (y11 : Int32) (σ12 : Mem) =>
gd y13 4 <| stp (mu σ12 10 y13.toNatClampNeg y11) fun σ15 =>
some σ15) fun (J14 : Int32 → Int32 → Mem → Option (Mem)) =>
if (σ10 10 a0.toNatClampNeg) ≤ (a2 + 10) then (
J14 a0 (a2 + 10) σ10)
else (
gd a0 4 <|
J14 a0 (σ10 10 a0.toNatClampNeg) σ10)) a0 a2 0 σ2
set_option maxHeartbeats 4000000 in
set_option maxRecDepth 100000 in
theorem c_X6_isBeaten {l : Launch} {D : va_G} {cI cJ : ClassId} {ad : Nat → Nat} {σ : Mem} {a0 a1 a2 : Int32} {σr : Mem}  (hi : injG 25 ad) (hf : f_X6_isBeaten σ a0 a1 a2 = some σr) : MGv l yX6_isBeaten (Cond.code yX6_isBeaten cX6_isBeaten 6 none :: BIG) 0 0 D cI cJ 25 ad (EM ad cI) [.ref (ad 0), .int a0, .int a1, .int a2] σ σr := by
  refine MGv.ofW (cc := cX6_isBeaten) (nL := 6) (ret := none) (by decide) rfl hi ?_
  intro p e s m args below meth c hx hb hr hml hlocks hown hB hK hP hA hAd hS
  have hown : s.vm.findClass RX6 = some m.cls := hown
  have hl := lv_entry ([.ref (ad 0), .int a0, .int a1, .int a2] : List Value) (n := 6) (Nat.le_of_ble_eq_true rfl)
  rw [lg_entry_eq]
  generalize (lg_sl ([.ref (ad 0), .int a0, .int a1, .int a2] : List Value) ++ List.replicate (6 - (lg_sl ([.ref (ad 0), .int a0, .int a1, .int a2] : List Value)).length) Slot.unset).toArray = ls at hl ⊢
  have hl : lv_has ls 6 [(0, .ref (ad 0)), (1, .int a0), (2, .int a1), (3, .int a2)] := hl
  generalize hQ : MQ below (Qgv D 25 ad (EM ad cI) σr s.heap.size) _ s 0 0 (AG 25 ad s.heap.size) = Q
  have hQ := hQ.symm
  obtain ⟨R, hR, hRf, hRl⟩ : ∃ R : Room, R = ({ frames := 0, cells := 0, slots := 0, locals := 0 } : Room) ∧ 0 ≤ R.frames ∧ 0 ≤ R.locals := ⟨_, rfl, Nat.le_refl _, Nat.le_refl _⟩
  rw [← hR]
  unfold f_X6_isBeaten at hf
  refine lv_aload_n hx hb dX6_isBeaten_0 rfl (lv_at hl 0 rfl) ?_
  refine g_get (v := .ref (ad 7)) hx hb hB hown hK hP 0 (by decide) rfl rfl kU_X6 7 (by decide) kF_X6_28 rfl rfl dX6_isBeaten_1 ?_
  refine lv_iload_n hx hb dX6_isBeaten_4 rfl (lv_at hl 1 rfl) ?_
  obtain ⟨hin, hf⟩ := gd_e hf
  refine g_iald hx hb hK hP 7 4 (by decide) rfl hin dX6_isBeaten_5 ?_
  refine lv_iconst (v := 2) hx hb dX6_isBeaten_6 (by decide) ?_
  refine lv_idiv hx hb dX6_isBeaten_7 (by decide) ?_
  refine lv_istore (lv' := [(4, .int ((σ 7 a0.toNatClampNeg) / 2)), (0, .ref (ad 0)), (1, .int a0), (2, .int a1), (3, .int a2)]) hx hb dX6_isBeaten_8 hl (by decide) rfl (fun ls hl => ?_)
  refine lv_aload_n hx hb dX6_isBeaten_10 rfl (lv_at hl 1 rfl) ?_
  refine g_get (v := .ref (ad 7)) hx hb hB hown hK hP 0 (by decide) rfl rfl kU_X6 7 (by decide) kF_X6_28 rfl rfl dX6_isBeaten_11 ?_
  refine lv_iload_n hx hb dX6_isBeaten_14 rfl (lv_at hl 2 rfl) ?_
  refine lv_dup2_11 hx hb dX6_isBeaten_15 rfl rfl ?_
  obtain ⟨hin, hf⟩ := gd_e hf
  refine g_iald hx hb hK hP 7 4 (by decide) rfl hin dX6_isBeaten_16 ?_
  refine lv_iload hx hb dX6_isBeaten_17 (lv_at hl 0 rfl) ?_
  refine lv_isub hx hb dX6_isBeaten_19 ?_
  obtain ⟨hin, hf⟩ := gd_e hf
  obtain ⟨σ1, eσ1, hf⟩ := stp_e hf
  refine g_iast (σ1 := σ1) hx hb hK hP hi hAd hS 7 4 (by decide) (fun _ => rfl) hin dX6_isBeaten_20 eσ1 (fun H locs hP hS => ?_)
  refine lv_aload_n hx hb dX6_isBeaten_21 rfl (lv_at hl 1 rfl) ?_
  refine g_get (v := .ref (ad 7)) hx hb hB hown hK hP 0 (by decide) rfl rfl kU_X6 7 (by decide) kF_X6_28 rfl rfl dX6_isBeaten_22 ?_
  refine lv_iload_n hx hb dX6_isBeaten_25 rfl (lv_at hl 3 rfl) ?_
  refine lv_dup2_11 hx hb dX6_isBeaten_26 rfl rfl ?_
  obtain ⟨hin, hf⟩ := gd_e hf
  refine g_iald hx hb hK hP 7 4 (by decide) rfl hin dX6_isBeaten_27 ?_
  refine lv_iload hx hb dX6_isBeaten_28 (lv_at hl 0 rfl) ?_
  refine lv_iadd hx hb dX6_isBeaten_30 ?_
  obtain ⟨hin, hf⟩ := gd_e hf
  obtain ⟨σ2, eσ2, hf⟩ := stp_e hf
  refine g_iast (σ1 := σ2) hx hb hK hP hi hAd hS 7 4 (by decide) (fun _ => rfl) hin dX6_isBeaten_31 eσ2 (fun H locs hP hS => ?_)
  refine lv_iconst (v := 0) hx hb dX6_isBeaten_32 (by decide) ?_
  refine lv_istore (lv' := [(5, .int 0), (4, .int ((σ 7 a0.toNatClampNeg) / 2)), (0, .ref (ad 0)), (1, .int a0), (2, .int a1), (3, .int a2)]) hx hb dX6_isBeaten_33 hl (by decide) rfl (fun ls hl => ?_)
  obtain ⟨K7, eK7, hf⟩ := lp_e1 (b := fun K => L_X6_isBeaten_35 FU K a0 a2 0 σ2) hf
  replace hf : L_X6_isBeaten_35 FU K7 a0 a2 0 σ2 = some σr := hf
  have hKK7 : ∀ (σ8 : Mem) (H : Heap) (locs : List Loc) (ls : Array Slot), K7 σ8 = some σr → va_P D vwCl (wsG 25 ad (EM ad cI) σ8) H → va_S (AG 25 ad s.heap.size) s.heap H locs → lv_has ls 6 [(0, .ref (ad 0)), (1, .int a0), (3, .int a2)] → W p l e R s m args below meth c H locs 0 0 Q (F0 m 89 ls []) := by
    intro σ8 H locs ls hf hP hS hl
    rw [eK7] at hf
    refine lv_aload_n hx hb dX6_isBeaten_89 rfl (lv_at hl 0 rfl) ?_
    refine g_get (v := .ref (ad 6)) hx hb hB hown hK hP 0 (by decide) rfl rfl kU_X6 6 (by decide) kF_X6_25 rfl rfl dX6_isBeaten_90 ?_
    refine lv_iload_n hx hb dX6_isBeaten_93 rfl (lv_at hl 1 rfl) ?_
    refine lv_iconst (v := 0) hx hb dX6_isBeaten_94 (by decide) ?_
    obtain ⟨hin, hf⟩ := gd_e hf
    obtain ⟨σ9, eσ9, hf⟩ := stp_e hf
    refine g_iast (σ1 := σ9) hx hb hK hP hi hAd hS 6 4 (by decide) (fun _ => rfl) hin dX6_isBeaten_95 eσ9 (fun H locs hP hS => ?_)
    refine lv_aload_n hx hb dX6_isBeaten_96 rfl (lv_at hl 0 rfl) ?_
    refine g_get (v := .ref (ad 9)) hx hb hB hown hK hP 0 (by decide) rfl rfl kU_X6 9 (by decide) kF_X6_34 rfl rfl dX6_isBeaten_97 ?_
    refine lv_iload_n hx hb dX6_isBeaten_100 rfl (lv_at hl 1 rfl) ?_
    refine lv_bipush (v := 10) hx hb dX6_isBeaten_101 (by decide) ?_
    obtain ⟨hin, hf⟩ := gd_e hf
    obtain ⟨σ10, eσ10, hf⟩ := stp_e hf
    refine g_iast (σ1 := σ10) hx hb hK hP hi hAd hS 9 4 (by decide) (fun _ => rfl) hin dX6_isBeaten_103 eσ10 (fun H locs hP hS => ?_)
    refine lv_aload_n hx hb dX6_isBeaten_104 rfl (lv_at hl 0 rfl) ?_
    refine g_get (v := .ref (ad 10)) hx hb hB hown hK hP 0 (by decide) rfl rfl kU_X6 10 (by decide) kF_X6_37 rfl rfl dX6_isBeaten_105 ?_
    refine lv_iload_n hx hb dX6_isBeaten_108 rfl (lv_at hl 1 rfl) ?_
    refine lv_aload_n hx hb dX6_isBeaten_109 rfl (lv_at hl 0 rfl) ?_
    refine g_get (v := .ref (ad 10)) hx hb hB hown hK hP 0 (by decide) rfl rfl kU_X6 10 (by decide) kF_X6_37 rfl rfl dX6_isBeaten_110 ?_
    refine lv_iload_n hx hb dX6_isBeaten_113 rfl (lv_at hl 1 rfl) ?_
    obtain ⟨hin, hf⟩ := gd_e hf
    refine g_iald hx hb hK hP 10 4 (by decide) rfl hin dX6_isBeaten_114 ?_
    refine lv_iload_n hx hb dX6_isBeaten_115 rfl (lv_at hl 2 rfl) ?_
    refine lv_bipush (v := 10) hx hb dX6_isBeaten_116 (by decide) ?_
    refine lv_iadd hx hb dX6_isBeaten_118 ?_
    obtain ⟨J14, eJ14, hf⟩ := jn_e3 hf
    have hJ14 : ∀ (y13 : Int32) (y11 : Int32) (σ12 : Mem) (H : Heap) (locs : List Loc) (ls : Array Slot), J14 y13 y11 σ12 = some σr → va_P D vwCl (wsG 25 ad (EM ad cI) σ12) H → va_S (AG 25 ad s.heap.size) s.heap H locs → lv_has ls 6 [] → W p l e R s m args below meth c H locs 0 0 Q (F0 m 135 ls [.int y11, .int y13, .ref (ad 10)]) := by
      intro y13 y11 σ12 H locs ls hf hP hS hl
      rw [eJ14] at hf
      obtain ⟨hin, hf⟩ := gd_e hf
      obtain ⟨σ15, eσ15, hf⟩ := stp_e hf
      refine g_iast (σ1 := σ15) hx hb hK hP hi hAd hS 10 4 (by decide) (fun _ => rfl) hin dX6_isBeaten_135 eσ15 (fun H locs hP hS => ?_)
      have h2 := rt1 hf
      rw [hQ]
      exact g_vret hx hb hr hlocks hP hS h2 dX6_isBeaten_136
    refine lv_icmp_le (tgt := 131) hx hb dX6_isBeaten_119 (by decide) (fun q16 => ?_) (fun q16 => ?_)
    · rw [if_pos q16] at hf
      refine lv_iload_n hx hb dX6_isBeaten_131 rfl (lv_at hl 2 rfl) ?_
      refine lv_bipush (v := 10) hx hb dX6_isBeaten_132 (by decide) ?_
      refine lv_iadd hx hb dX6_isBeaten_134 ?_
      exact hJ14 a0 (a2 + 10) σ10 _ _ ls hf hP hS (lv_sub hl [] rfl)
    · rw [if_neg q16] at hf
      refine lv_aload_n hx hb dX6_isBeaten_122 rfl (lv_at hl 0 rfl) ?_
      refine g_get (v := .ref (ad 10)) hx hb hB hown hK hP 0 (by decide) rfl rfl kU_X6 10 (by decide) kF_X6_37 rfl rfl dX6_isBeaten_123 ?_
      refine lv_iload_n hx hb dX6_isBeaten_126 rfl (lv_at hl 1 rfl) ?_
      obtain ⟨hin, hf⟩ := gd_e hf
      refine g_iald hx hb hK hP 10 4 (by decide) rfl hin dX6_isBeaten_127 ?_
      refine lv_goto (tgt := 135) hx hb dX6_isBeaten_128 (by decide) ?_
      exact hJ14 a0 (σ10 10 a0.toNatClampNeg) σ10 _ _ ls hf hP hS (lv_sub hl [] rfl)
  have hL_X6_isBeaten_35 : ∀ (n : Nat) (x5 : Int32) (σ6 : Mem) (H : Heap) (locs : List Loc) (ls : Array Slot), L_X6_isBeaten_35 n K7 a0 a2 x5 σ6 = some σr → va_P D vwCl (wsG 25 ad (EM ad cI) σ6) H → va_S (AG 25 ad s.heap.size) s.heap H locs → lv_has ls 6 [(0, .ref (ad 0)), (1, .int a0), (3, .int a2), (5, .int x5)] → W p l e R s m args below meth c H locs 0 0 Q (F0 m 35 ls []) := by
    intro n
    induction n with
    | zero => intro x5 σ6 H locs ls hf; cases hf
    | succ n ih =>
      intro x5 σ6 H locs ls hf hP hS hl
      rw [L_X6_isBeaten_35] at hf
      refine lv_iload hx hb dX6_isBeaten_35 (lv_at hl 3 rfl) ?_
      refine lv_iconst (v := 5) hx hb dX6_isBeaten_37 (by decide) ?_
      refine lv_icmp_ge (tgt := 89) hx hb dX6_isBeaten_38 (by decide) (fun q17 => ?_) (fun q17 => ?_)
      · rw [if_pos q17] at hf
        exact hKK7 σ6 _ _ ls hf hP hS (lv_sub hl [0, 1, 2] rfl)
      · rw [if_neg q17] at hf
        refine lv_aload_n hx hb dX6_isBeaten_41 rfl (lv_at hl 0 rfl) ?_
        refine g_get (v := .ref (ad 2)) hx hb hB hown hK hP 0 (by decide) rfl rfl kU_X6 1 (by decide) kF_X6_13 rfl rfl dX6_isBeaten_42 ?_
        refine lv_iconst (v := 5) hx hb dX6_isBeaten_45 (by decide) ?_
        refine lv_aload_n hx hb dX6_isBeaten_46 rfl (lv_at hl 0 rfl) ?_
        refine g_get (v := .ref (ad 6)) hx hb hB hown hK hP 0 (by decide) rfl rfl kU_X6 6 (by decide) kF_X6_25 rfl rfl dX6_isBeaten_47 ?_
        refine lv_iload_n hx hb dX6_isBeaten_50 rfl (lv_at hl 1 rfl) ?_
        obtain ⟨hin, hf⟩ := gd_e hf
        refine g_iald hx hb hK hP 6 4 (by decide) rfl hin dX6_isBeaten_51 ?_
        refine lv_imul hx hb dX6_isBeaten_52 ?_
        refine lv_iload hx hb dX6_isBeaten_53 (lv_at hl 3 rfl) ?_
        refine lv_iadd hx hb dX6_isBeaten_55 ?_
        refine lv_dup2_11 hx hb dX6_isBeaten_56 rfl rfl ?_
        obtain ⟨hin, hf⟩ := gd_e hf
        refine g_iald hx hb hK hP 2 40 (by decide) rfl hin dX6_isBeaten_57 ?_
        refine lv_aload_n hx hb dX6_isBeaten_58 rfl (lv_at hl 0 rfl) ?_
        refine g_get (v := .ref (ad 11)) hx hb hB hown hK hP 0 (by decide) rfl rfl kU_X6 11 (by decide) kF_X6_40 rfl rfl dX6_isBeaten_59 ?_
        refine lv_iconst (v := 5) hx hb dX6_isBeaten_62 (by decide) ?_
        refine lv_iload_n hx hb dX6_isBeaten_63 rfl (lv_at hl 1 rfl) ?_
        refine lv_imul hx hb dX6_isBeaten_64 ?_
        refine lv_iload hx hb dX6_isBeaten_65 (lv_at hl 3 rfl) ?_
        refine lv_iadd hx hb dX6_isBeaten_67 ?_
        obtain ⟨hin, hf⟩ := gd_e hf
        refine g_iald hx hb hK hP 11 20 (by decide) rfl hin dX6_isBeaten_68 ?_
        refine lv_iadd hx hb dX6_isBeaten_69 ?_
        obtain ⟨hin, hf⟩ := gd_e hf
        obtain ⟨σ18, eσ18, hf⟩ := stp_e hf
        refine g_iast (σ1 := σ18) hx hb hK hP hi hAd hS 2 40 (by decide) (fun _ => rfl) hin dX6_isBeaten_70 eσ18 (fun H locs hP hS => ?_)
        refine lv_aload_n hx hb dX6_isBeaten_71 rfl (lv_at hl 0 rfl) ?_
        refine g_get (v := .ref (ad 11)) hx hb hB hown hK hP 0 (by decide) rfl rfl kU_X6 11 (by decide) kF_X6_40 rfl rfl dX6_isBeaten_72 ?_
        refine lv_iconst (v := 5) hx hb dX6_isBeaten_75 (by decide) ?_
        refine lv_iload_n hx hb dX6_isBeaten_76 rfl (lv_at hl 1 rfl) ?_
        refine lv_imul hx hb dX6_isBeaten_77 ?_
        refine lv_iload hx hb dX6_isBeaten_78 (lv_at hl 3 rfl) ?_
        refine lv_iadd hx hb dX6_isBeaten_80 ?_
        refine lv_iconst (v := 0) hx hb dX6_isBeaten_81 (by decide) ?_
        obtain ⟨hin, hf⟩ := gd_e hf
        obtain ⟨σ19, eσ19, hf⟩ := stp_e hf
        refine g_iast (σ1 := σ19) hx hb hK hP hi hAd hS 11 20 (by decide) (fun _ => rfl) hin dX6_isBeaten_82 eσ19 (fun H locs hP hS => ?_)
        refine lv_iinc (v := (x5 + 1)) (lv' := [(5, .int (x5 + 1)), (0, .ref (ad 0)), (1, .int a0), (3, .int a2)]) hx hb dX6_isBeaten_83 hl (k := 3) rfl rfl (by decide) rfl (fun ls hl => ?_)
        refine lv_goto (tgt := 35) hx hb dX6_isBeaten_86 (by decide) ?_
        exact ih (x5 + 1) σ19 _ _ ls hf hP hS (lv_sub hl [1, 2, 3, 0] rfl)
  exact hL_X6_isBeaten_35 FU 0 σ2 _ _ ls hf hP hS (lv_sub hl [2, 3, 5, 0] rfl)
def L_X6_attack_45 : Nat → (Int32 → Mem → Option (Int32 × Mem)) → Int32 → Int32 → Int32 → Int32 → Mem → Option (Int32 × Mem)
  | 0, _, _, _, _, _, _ => none
  | n + 1, k, x9, x10, x11, x12, σ13 =>
    if 3 ≤ x12 then (
    k x11 σ13)
    else (
    if x11 = (-1) then (
    bd2 (f_X6_rolls σ13 x10) fun v54 σ55 =>
    bd2 (f_X6_rolls σ55 x9) fun v56 σ57 =>
    gd x9 4 <|
    jn (fun (y60 : Int32) (y61 : Int32) (y58 : Int32) (σ59 : Mem) =>
    gd y60 4 <| stp (mu σ59 9 y60.toNatClampNeg (y61 - y58)) fun σ63 =>
    gd x10 4 <|
    jn (fun (y66 : Int32) (y67 : Int32) (y64 : Int32) (σ65 : Mem) =>
    gd y66 4 <| stp (mu σ65 9 y66.toNatClampNeg (y67 + y64)) fun σ69 =>
    gd x9 4 <|
    jn (fun (y70 : Int32) (σ71 : Mem) =>
    L_X6_attack_45 n k x9 x10 y70 (x12 + 1) σ71) fun (J72 : Int32 → Mem → Option (Int32 × Mem)) =>
    if 0 < (σ69 9 x9.toNatClampNeg) then (
    gd x10 4 <|
    if 0 < (σ69 9 x10.toNatClampNeg) then (
    J72 (-1) σ69)
    else (
    J72 x10 σ69))
    else (
    J72 x9 σ69)) fun (J68 : Int32 → Int32 → Int32 → Mem → Option (Int32 × Mem)) =>
    if 0 ≤ (v54 - v56) then (
    J68 x10 (σ63 9 x10.toNatClampNeg) 0 σ63)
    else (
    J68 x10 (σ63 9 x10.toNatClampNeg) (v54 - v56) σ63)) fun (J62 : Int32 → Int32 → Int32 → Mem → Option (Int32 × Mem)) =>
    if (v54 - v56) ≤ 0 then (
    J62 x9 (σ57 9 x9.toNatClampNeg) 0 σ57)
    else (
    J62 x9 (σ57 9 x9.toNatClampNeg) (v54 - v56) σ57))
    else (
    k x11 σ13))
def f_X6_attack (σ : Mem) (a0 : Int32) : Option (Int32 × Mem) :=
bd (f_X6_actor σ) fun v1 =>
bd (f_X6_isPlayer σ a0) fun v2 =>
jn (fun (y3 : Int32) (σ4 : Mem) =>
bd2 (f_X6_can σ4 y3) fun v6 σ7 =>
if v6 = 0 then (
some (0, σ7))
else (
L_X6_attack_45 FU (fun (x15 : Int32) (σ16 : Mem) =>
jn (fun (σ17 : Mem) =>
jn (fun (y21 : Int32) (y19 : Int32) (σ20 : Mem) =>
jn (fun (y25 : Int32) (y26 : Int32) (y27 : Int32) (y23 : Int32) (σ24 : Mem) =>
bd (f_X6_ends σ24 y25 y26 y27 y23) fun σ29 =>
some (x15, σ29)) fun (J28 : Int32 → Int32 → Int32 → Int32 → Mem → Option (Int32 × Mem)) =>
if x15 = a0 then (
J28 y21 y19 (-1) a0 σ20)
else (
J28 y21 y19 (-1) (-1) σ20)) fun (J22 : Int32 → Int32 → Mem → Option (Int32 × Mem)) =>
if x15 = v1 then (
J22 v1 0 σ17)
else (
J22 v1 3 σ17)) fun (J18 : Mem → Option (Int32 × Mem)) =>
if x15 = (-1) then (
J18 σ16)
else (
jn (fun (y35 : Int32) (y33 : Int32) (σ34 : Mem) =>
gd v1 4 <|
bd (f_X6_isBeaten σ34 y35 y33 (σ34 10 v1.toNatClampNeg)) fun σ37 =>
jn (fun (y40 : Int32) (y38 : Int32) (σ39 : Mem) =>
jn (fun (y44 : Int32) (y45 : Int32) (y46 : Int32) (y42 : Int32) (σ43 : Mem) =>
bd (f_X6_ends σ43 y44 y45 y46 y42) fun σ48 =>
some (x15, σ48)) fun (J47 : Int32 → Int32 → Int32 → Int32 → Mem → Option (Int32 × Mem)) =>
if x15 = a0 then (
J47 y40 y38 (-1) a0 σ39)
else (
J47 y40 y38 (-1) (-1) σ39)) fun (J41 : Int32 → Int32 → Mem → Option (Int32 × Mem)) =>
if x15 = v1 then (
J41 v1 0 σ37)
else (
J41 v1 3 σ37)) fun (J36 : Int32 → Int32 → Mem → Option (Int32 × Mem)) =>
if x15 = a0 then (
J36 x15 v1 σ16)
else (
J36 x15 a0 σ16))) a0 v1 (-1) 0 σ7)) fun (J5 : Int32 → Mem → Option (Int32 × Mem)) =>
if v2 = 0 then (
J5 1 σ)
else (
bd (f_X6_isAway σ v1 a0) fun v78 =>
if v78 = 0 then (
J5 0 σ)
else (
J5 2 σ))
set_option maxHeartbeats 4000000 in
set_option maxRecDepth 100000 in
theorem c_X6_attack {l : Launch} {D : va_G} {cI cJ : ClassId} {ad : Nat → Nat} {σ : Mem} {a0 : Int32} {r : Int32} {σr : Mem}  (hi : injG 25 ad) (hf : f_X6_attack σ a0 = some (r, σr)) : MGi l yX6_attack (Cond.code yX6_attack cX6_attack 6 (some .int) :: BIG) 3 70 D cI cJ 25 ad (EM ad cI) [.ref (ad 0), .int a0] σ σr r := by
  refine MGi.ofW (cc := cX6_attack) (nL := 6) (ret := (some .int)) (by decide) rfl hi ?_
  intro p e s m args below meth c hx hb hr hml hlocks hown hB hK hP hA hAd hS
  have hown : s.vm.findClass RX6 = some m.cls := hown
  have hl := lv_entry ([.ref (ad 0), .int a0] : List Value) (n := 6) (Nat.le_of_ble_eq_true rfl)
  rw [lg_entry_eq]
  generalize (lg_sl ([.ref (ad 0), .int a0] : List Value) ++ List.replicate (6 - (lg_sl ([.ref (ad 0), .int a0] : List Value)).length) Slot.unset).toArray = ls at hl ⊢
  have hl : lv_has ls 6 [(0, .ref (ad 0)), (1, .int a0)] := hl
  generalize hQ : MQ below (Qgi D 25 ad (EM ad cI) r σr s.heap.size) _ s 0 0 (AG 25 ad s.heap.size) = Q
  have hQ := hQ.symm
  obtain ⟨R, hR, hRf, hRl⟩ : ∃ R : Room, R = ({ frames := 3, cells := 0, slots := 0, locals := 70 } : Room) ∧ 3 ≤ R.frames ∧ 70 ≤ R.locals := ⟨_, rfl, Nat.le_refl _, Nat.le_refl _⟩
  rw [← hR]
  unfold f_X6_attack at hf
  refine lv_aload_n hx hb dX6_attack_0 rfl (lv_at hl 0 rfl) ?_
  obtain ⟨v1, hv, hf⟩ := bd_e hf
  refine g_cViS (k0 := 0) ⟨⟨hx, hb, hml, hown, hB⟩, hK, hi, hA, hAd, hP, hS⟩ (c_X6_actor hi hv) cal_X6_actor kM_X6_102 ⟨Nat.le_trans (Nat.le_of_ble_eq_true rfl) hRf, Nat.le_trans (Nat.le_of_ble_eq_true rfl) hRl⟩ (by decide) rfl rfl rfl hl.1 (Nat.le_of_ble_eq_true rfl) rfl dX6_attack_1 ⟨Nat.zero_le _, Nat.zero_le _⟩ (fun H locs hP hS => ?_)
  refine lv_istore_n (lv' := [(2, .int v1), (0, .ref (ad 0)), (1, .int a0)]) hx hb dX6_attack_4 rfl hl (by decide) rfl (fun ls hl => ?_)
  refine lv_aload_n hx hb dX6_attack_5 rfl (lv_at hl 1 rfl) ?_
  refine lv_aload_n hx hb dX6_attack_6 rfl (lv_at hl 1 rfl) ?_
  refine lv_iload_n hx hb dX6_attack_7 rfl (lv_at hl 2 rfl) ?_
  obtain ⟨v2, hv, hf⟩ := bd_e hf
  refine g_cViS (k0 := 0) ⟨⟨hx, hb, hml, hown, hB⟩, hK, hi, hA, hAd, hP, hS⟩ (c_X6_isPlayer hi hv) cal_X6_isPlayer kM_X6_146 ⟨Nat.le_trans (Nat.le_of_ble_eq_true rfl) hRf, Nat.le_trans (Nat.le_of_ble_eq_true rfl) hRl⟩ (by decide) rfl rfl rfl hl.1 (Nat.le_of_ble_eq_true rfl) rfl dX6_attack_8 ⟨Nat.zero_le _, Nat.zero_le _⟩ (fun H locs hP hS => ?_)
  obtain ⟨J5, eJ5, hf⟩ := jn_e2 hf
  have hJ5 : ∀ (y3 : Int32) (σ4 : Mem) (H : Heap) (locs : List Loc) (ls : Array Slot), J5 y3 σ4 = some (r, σr) → va_P D vwCl (wsG 25 ad (EM ad cI) σ4) H → va_S (AG 25 ad s.heap.size) s.heap H locs → lv_has ls 6 [(0, .ref (ad 0)), (1, .int a0), (2, .int v1)] → W p l e R s m args below meth c H locs 0 0 Q (F0 m 32 ls [.int y3, .ref (ad 0)]) := by
    intro y3 σ4 H locs ls hf hP hS hl
    rw [eJ5] at hf
    obtain ⟨v6, σ7, hv, hf⟩ := bd2_e hf
    refine g_cViS (k0 := 0) ⟨⟨hx, hb, hml, hown, hB⟩, hK, hi, hA, hAd, hP, hS⟩ (c_X6_can hi hv) cal_X6_can kM_X6_110 ⟨Nat.le_trans (Nat.le_of_ble_eq_true rfl) hRf, Nat.le_trans (Nat.le_of_ble_eq_true rfl) hRl⟩ (by decide) rfl rfl rfl hl.1 (Nat.le_of_ble_eq_true rfl) rfl dX6_attack_32 ⟨Nat.zero_le _, Nat.zero_le _⟩ (fun H locs hP hS => ?_)
    refine lv_if_ne (tgt := 40) hx hb dX6_attack_35 (by decide) (fun q8 => ?_) (fun q8 => ?_)
    · rw [if_neg q8] at hf
      refine lv_iconst (v := (-1)) hx hb dX6_attack_40 (by decide) ?_
      refine lv_istore_n (lv' := [(3, .int (-1)), (0, .ref (ad 0)), (1, .int a0), (2, .int v1)]) hx hb dX6_attack_41 rfl hl (by decide) rfl (fun ls hl => ?_)
      refine lv_iconst (v := 0) hx hb dX6_attack_42 (by decide) ?_
      refine lv_istore (lv' := [(4, .int 0), (3, .int (-1)), (0, .ref (ad 0)), (1, .int a0), (2, .int v1)]) hx hb dX6_attack_43 hl (by decide) rfl (fun ls hl => ?_)
      obtain ⟨K14, eK14, hf⟩ := lp_e2 (b := fun K => L_X6_attack_45 FU K a0 v1 (-1) 0 σ7) hf
      replace hf : L_X6_attack_45 FU K14 a0 v1 (-1) 0 σ7 = some (r, σr) := hf
      have hKK14 : ∀ (x15 : Int32) (σ16 : Mem) (H : Heap) (locs : List Loc) (ls : Array Slot), K14 x15 σ16 = some (r, σr) → va_P D vwCl (wsG 25 ad (EM ad cI) σ16) H → va_S (AG 25 ad s.heap.size) s.heap H locs → lv_has ls 6 [(0, .ref (ad 0)), (1, .int a0), (2, .int v1), (3, .int x15)] → W p l e R s m args below meth c H locs 0 0 Q (F0 m 147 ls []) := by
        intro x15 σ16 H locs ls hf hP hS hl
        rw [eK14] at hf
        refine lv_iload_n hx hb dX6_attack_147 rfl (lv_at hl 3 rfl) ?_
        refine lv_iconst (v := (-1)) hx hb dX6_attack_148 (by decide) ?_
        obtain ⟨J18, eJ18, hf⟩ := jn_e1 hf
        have hJ18 : ∀ (σ17 : Mem) (H : Heap) (locs : List Loc) (ls : Array Slot), J18 σ17 = some (r, σr) → va_P D vwCl (wsG 25 ad (EM ad cI) σ17) H → va_S (AG 25 ad s.heap.size) s.heap H locs → lv_has ls 6 [(0, .ref (ad 0)), (1, .int a0), (2, .int v1), (3, .int x15)] → W p l e R s m args below meth c H locs 0 0 Q (F0 m 173 ls []) := by
          intro σ17 H locs ls hf hP hS hl
          rw [eJ18] at hf
          refine lv_aload_n hx hb dX6_attack_173 rfl (lv_at hl 0 rfl) ?_
          refine lv_iload_n hx hb dX6_attack_174 rfl (lv_at hl 2 rfl) ?_
          refine lv_iload_n hx hb dX6_attack_175 rfl (lv_at hl 3 rfl) ?_
          refine lv_iload_n hx hb dX6_attack_176 rfl (lv_at hl 2 rfl) ?_
          obtain ⟨J22, eJ22, hf⟩ := jn_e3 hf
          have hJ22 : ∀ (y21 : Int32) (y19 : Int32) (σ20 : Mem) (H : Heap) (locs : List Loc) (ls : Array Slot), J22 y21 y19 σ20 = some (r, σr) → va_P D vwCl (wsG 25 ad (EM ad cI) σ20) H → va_S (AG 25 ad s.heap.size) s.heap H locs → lv_has ls 6 [(1, .int a0), (3, .int x15)] → W p l e R s m args below meth c H locs 0 0 Q (F0 m 185 ls [.int y19, .int y21, .ref (ad 0)]) := by
            intro y21 y19 σ20 H locs ls hf hP hS hl
            rw [eJ22] at hf
            refine lv_iconst (v := (-1)) hx hb dX6_attack_185 (by decide) ?_
            refine lv_iload_n hx hb dX6_attack_186 rfl (lv_at hl 1 rfl) ?_
            refine lv_iload_n hx hb dX6_attack_187 rfl (lv_at hl 0 rfl) ?_
            obtain ⟨J28, eJ28, hf⟩ := jn_e5 hf
            have hJ28 : ∀ (y25 : Int32) (y26 : Int32) (y27 : Int32) (y23 : Int32) (σ24 : Mem) (H : Heap) (locs : List Loc) (ls : Array Slot), J28 y25 y26 y27 y23 σ24 = some (r, σr) → va_P D vwCl (wsG 25 ad (EM ad cI) σ24) H → va_S (AG 25 ad s.heap.size) s.heap H locs → lv_has ls 6 [(3, .int x15)] → W p l e R s m args below meth c H locs 0 0 Q (F0 m 196 ls [.int y23, .int y27, .int y26, .int y25, .ref (ad 0)]) := by
              intro y25 y26 y27 y23 σ24 H locs ls hf hP hS hl
              rw [eJ28] at hf
              obtain ⟨σ29, hv, hf⟩ := bd_e hf
              refine g_cVvS (k0 := 0) ⟨⟨hx, hb, hml, hown, hB⟩, hK, hi, hA, hAd, hP, hS⟩ (c_X6_ends hi hv) cal_X6_ends kM_X6_130 ⟨Nat.le_trans (Nat.le_of_ble_eq_true rfl) hRf, Nat.le_trans (Nat.le_of_ble_eq_true rfl) hRl⟩ (by decide) rfl rfl rfl hl.1 (Nat.le_of_ble_eq_true rfl) rfl dX6_attack_196 ⟨Nat.zero_le _, Nat.zero_le _⟩ (fun H locs hP hS => ?_)
              refine lv_iload_n hx hb dX6_attack_199 rfl (lv_at hl 0 rfl) ?_
              obtain ⟨h1, h2⟩ := rt2 hf
              rw [hQ]
              exact g_iret hx hb hr hlocks hP hS h1 h2 dX6_attack_200
            refine lv_icmp_ne (tgt := 195) hx hb dX6_attack_188 (by decide) (fun q30 => ?_) (fun q30 => ?_)
            · rw [if_neg q30] at hf
              refine lv_iconst (v := (-1)) hx hb dX6_attack_195 (by decide) ?_
              exact hJ28 y21 y19 (-1) (-1) σ20 _ _ ls hf hP hS (lv_sub hl [1] rfl)
            · rw [if_pos q30] at hf
              refine lv_iload_n hx hb dX6_attack_191 rfl (lv_at hl 0 rfl) ?_
              refine lv_goto (tgt := 196) hx hb dX6_attack_192 (by decide) ?_
              exact hJ28 y21 y19 (-1) a0 σ20 _ _ ls hf hP hS (lv_sub hl [1] rfl)
          refine lv_icmp_ne (tgt := 184) hx hb dX6_attack_177 (by decide) (fun q31 => ?_) (fun q31 => ?_)
          · rw [if_neg q31] at hf
            refine lv_iconst (v := 3) hx hb dX6_attack_184 (by decide) ?_
            exact hJ22 v1 3 σ17 _ _ ls hf hP hS (lv_sub hl [1, 3] rfl)
          · rw [if_pos q31] at hf
            refine lv_iconst (v := 0) hx hb dX6_attack_180 (by decide) ?_
            refine lv_goto (tgt := 185) hx hb dX6_attack_181 (by decide) ?_
            exact hJ22 v1 0 σ17 _ _ ls hf hP hS (lv_sub hl [1, 3] rfl)
        refine lv_icmp_eq (tgt := 173) hx hb dX6_attack_149 (by decide) (fun q32 => ?_) (fun q32 => ?_)
        · rw [if_pos q32] at hf
          exact hJ18 σ16 _ _ ls hf hP hS (lv_sub hl [0, 1, 2, 3] rfl)
        · rw [if_neg q32] at hf
          refine lv_aload_n hx hb dX6_attack_152 rfl (lv_at hl 0 rfl) ?_
          refine lv_iload_n hx hb dX6_attack_153 rfl (lv_at hl 3 rfl) ?_
          refine lv_iload_n hx hb dX6_attack_154 rfl (lv_at hl 3 rfl) ?_
          refine lv_iload_n hx hb dX6_attack_155 rfl (lv_at hl 1 rfl) ?_
          obtain ⟨J36, eJ36, hf⟩ := jn_e3 hf
          have hJ36 : ∀ (y35 : Int32) (y33 : Int32) (σ34 : Mem) (H : Heap) (locs : List Loc) (ls : Array Slot), J36 y35 y33 σ34 = some (r, σr) → va_P D vwCl (wsG 25 ad (EM ad cI) σ34) H → va_S (AG 25 ad s.heap.size) s.heap H locs → lv_has ls 6 [(0, .ref (ad 0)), (1, .int a0), (2, .int v1), (3, .int x15)] → W p l e R s m args below meth c H locs 0 0 Q (F0 m 164 ls [.int y33, .int y35, .ref (ad 0)]) := by
            intro y35 y33 σ34 H locs ls hf hP hS hl
            rw [eJ36] at hf
            refine lv_aload_n hx hb dX6_attack_164 rfl (lv_at hl 0 rfl) ?_
            refine g_get (v := .ref (ad 10)) hx hb hB hown hK hP 0 (by decide) rfl rfl kU_X6 10 (by decide) kF_X6_37 rfl rfl dX6_attack_165 ?_
            refine lv_iload_n hx hb dX6_attack_168 rfl (lv_at hl 2 rfl) ?_
            obtain ⟨hin, hf⟩ := gd_e hf
            refine g_iald hx hb hK hP 10 4 (by decide) rfl hin dX6_attack_169 ?_
            obtain ⟨σ37, hv, hf⟩ := bd_e hf
            refine g_cVvS (k0 := 0) ⟨⟨hx, hb, hml, hown, hB⟩, hK, hi, hA, hAd, hP, hS⟩ (c_X6_isBeaten hi hv) cal_X6_isBeaten kM_X6_161 ⟨Nat.le_trans (Nat.le_of_ble_eq_true rfl) hRf, Nat.le_trans (Nat.le_of_ble_eq_true rfl) hRl⟩ (by decide) rfl rfl rfl hl.1 (Nat.le_of_ble_eq_true rfl) rfl dX6_attack_170 ⟨Nat.zero_le _, Nat.zero_le _⟩ (fun H locs hP hS => ?_)
            refine lv_aload_n hx hb dX6_attack_173 rfl (lv_at hl 0 rfl) ?_
            refine lv_iload_n hx hb dX6_attack_174 rfl (lv_at hl 2 rfl) ?_
            refine lv_iload_n hx hb dX6_attack_175 rfl (lv_at hl 3 rfl) ?_
            refine lv_iload_n hx hb dX6_attack_176 rfl (lv_at hl 2 rfl) ?_
            obtain ⟨J41, eJ41, hf⟩ := jn_e3 hf
            have hJ41 : ∀ (y40 : Int32) (y38 : Int32) (σ39 : Mem) (H : Heap) (locs : List Loc) (ls : Array Slot), J41 y40 y38 σ39 = some (r, σr) → va_P D vwCl (wsG 25 ad (EM ad cI) σ39) H → va_S (AG 25 ad s.heap.size) s.heap H locs → lv_has ls 6 [(1, .int a0), (3, .int x15)] → W p l e R s m args below meth c H locs 0 0 Q (F0 m 185 ls [.int y38, .int y40, .ref (ad 0)]) := by
              intro y40 y38 σ39 H locs ls hf hP hS hl
              rw [eJ41] at hf
              refine lv_iconst (v := (-1)) hx hb dX6_attack_185 (by decide) ?_
              refine lv_iload_n hx hb dX6_attack_186 rfl (lv_at hl 1 rfl) ?_
              refine lv_iload_n hx hb dX6_attack_187 rfl (lv_at hl 0 rfl) ?_
              obtain ⟨J47, eJ47, hf⟩ := jn_e5 hf
              have hJ47 : ∀ (y44 : Int32) (y45 : Int32) (y46 : Int32) (y42 : Int32) (σ43 : Mem) (H : Heap) (locs : List Loc) (ls : Array Slot), J47 y44 y45 y46 y42 σ43 = some (r, σr) → va_P D vwCl (wsG 25 ad (EM ad cI) σ43) H → va_S (AG 25 ad s.heap.size) s.heap H locs → lv_has ls 6 [(3, .int x15)] → W p l e R s m args below meth c H locs 0 0 Q (F0 m 196 ls [.int y42, .int y46, .int y45, .int y44, .ref (ad 0)]) := by
                intro y44 y45 y46 y42 σ43 H locs ls hf hP hS hl
                rw [eJ47] at hf
                obtain ⟨σ48, hv, hf⟩ := bd_e hf
                refine g_cVvS (k0 := 0) ⟨⟨hx, hb, hml, hown, hB⟩, hK, hi, hA, hAd, hP, hS⟩ (c_X6_ends hi hv) cal_X6_ends kM_X6_130 ⟨Nat.le_trans (Nat.le_of_ble_eq_true rfl) hRf, Nat.le_trans (Nat.le_of_ble_eq_true rfl) hRl⟩ (by decide) rfl rfl rfl hl.1 (Nat.le_of_ble_eq_true rfl) rfl dX6_attack_196 ⟨Nat.zero_le _, Nat.zero_le _⟩ (fun H locs hP hS => ?_)
                refine lv_iload_n hx hb dX6_attack_199 rfl (lv_at hl 0 rfl) ?_
                obtain ⟨h1, h2⟩ := rt2 hf
                rw [hQ]
                exact g_iret hx hb hr hlocks hP hS h1 h2 dX6_attack_200
              refine lv_icmp_ne (tgt := 195) hx hb dX6_attack_188 (by decide) (fun q49 => ?_) (fun q49 => ?_)
              · rw [if_neg q49] at hf
                refine lv_iconst (v := (-1)) hx hb dX6_attack_195 (by decide) ?_
                exact hJ47 y40 y38 (-1) (-1) σ39 _ _ ls hf hP hS (lv_sub hl [1] rfl)
              · rw [if_pos q49] at hf
                refine lv_iload_n hx hb dX6_attack_191 rfl (lv_at hl 0 rfl) ?_
                refine lv_goto (tgt := 196) hx hb dX6_attack_192 (by decide) ?_
                exact hJ47 y40 y38 (-1) a0 σ39 _ _ ls hf hP hS (lv_sub hl [1] rfl)
            refine lv_icmp_ne (tgt := 184) hx hb dX6_attack_177 (by decide) (fun q50 => ?_) (fun q50 => ?_)
            · rw [if_neg q50] at hf
              refine lv_iconst (v := 3) hx hb dX6_attack_184 (by decide) ?_
              exact hJ41 v1 3 σ37 _ _ ls hf hP hS (lv_sub hl [1, 3] rfl)
            · rw [if_pos q50] at hf
              refine lv_iconst (v := 0) hx hb dX6_attack_180 (by decide) ?_
              refine lv_goto (tgt := 185) hx hb dX6_attack_181 (by decide) ?_
              exact hJ41 v1 0 σ37 _ _ ls hf hP hS (lv_sub hl [1, 3] rfl)
          refine lv_icmp_ne (tgt := 163) hx hb dX6_attack_156 (by decide) (fun q51 => ?_) (fun q51 => ?_)
          · rw [if_neg q51] at hf
            refine lv_iload_n hx hb dX6_attack_163 rfl (lv_at hl 1 rfl) ?_
            exact hJ36 x15 a0 σ16 _ _ ls hf hP hS (lv_sub hl [0, 1, 2, 3] rfl)
          · rw [if_pos q51] at hf
            refine lv_iload_n hx hb dX6_attack_159 rfl (lv_at hl 2 rfl) ?_
            refine lv_goto (tgt := 164) hx hb dX6_attack_160 (by decide) ?_
            exact hJ36 x15 v1 σ16 _ _ ls hf hP hS (lv_sub hl [0, 1, 2, 3] rfl)
      have hL_X6_attack_45 : ∀ (n : Nat) (x11 : Int32) (x12 : Int32) (σ13 : Mem) (H : Heap) (locs : List Loc) (ls : Array Slot), L_X6_attack_45 n K14 a0 v1 x11 x12 σ13 = some (r, σr) → va_P D vwCl (wsG 25 ad (EM ad cI) σ13) H → va_S (AG 25 ad s.heap.size) s.heap H locs → lv_has ls 6 [(0, .ref (ad 0)), (1, .int a0), (2, .int v1), (3, .int x11), (4, .int x12)] → W p l e R s m args below meth c H locs 0 0 Q (F0 m 45 ls []) := by
        intro n
        induction n with
        | zero => intro x11 x12 σ13 H locs ls hf; cases hf
        | succ n ih =>
          intro x11 x12 σ13 H locs ls hf hP hS hl
          rw [L_X6_attack_45] at hf
          refine lv_iload hx hb dX6_attack_45 (lv_at hl 4 rfl) ?_
          refine lv_iconst (v := 3) hx hb dX6_attack_47 (by decide) ?_
          refine lv_icmp_ge (tgt := 147) hx hb dX6_attack_48 (by decide) (fun q52 => ?_) (fun q52 => ?_)
          · rw [if_pos q52] at hf
            exact hKK14 x11 σ13 _ _ ls hf hP hS (lv_sub hl [0, 1, 2, 3] rfl)
          · rw [if_neg q52] at hf
            refine lv_iload_n hx hb dX6_attack_51 rfl (lv_at hl 3 rfl) ?_
            refine lv_iconst (v := (-1)) hx hb dX6_attack_52 (by decide) ?_
            refine lv_icmp_ne (tgt := 147) hx hb dX6_attack_53 (by decide) (fun q53 => ?_) (fun q53 => ?_)
            · rw [if_neg q53] at hf
              exact hKK14 x11 σ13 _ _ ls hf hP hS (lv_sub hl [0, 1, 2, 3] rfl)
            · rw [if_pos q53] at hf
              refine lv_aload_n hx hb dX6_attack_56 rfl (lv_at hl 0 rfl) ?_
              refine lv_iload_n hx hb dX6_attack_57 rfl (lv_at hl 2 rfl) ?_
              obtain ⟨v54, σ55, hv, hf⟩ := bd2_e hf
              refine g_cViS (k0 := 0) ⟨⟨hx, hb, hml, hown, hB⟩, hK, hi, hA, hAd, hP, hS⟩ (c_X6_rolls hi hv) cal_X6_rolls kM_X6_157 ⟨Nat.le_trans (Nat.le_of_ble_eq_true rfl) hRf, Nat.le_trans (Nat.le_of_ble_eq_true rfl) hRl⟩ (by decide) rfl rfl rfl hl.1 (Nat.le_of_ble_eq_true rfl) rfl dX6_attack_58 ⟨Nat.zero_le _, Nat.zero_le _⟩ (fun H locs hP hS => ?_)
              refine lv_istore (lv' := [(5, .int v54), (0, .ref (ad 0)), (1, .int a0), (2, .int v1), (3, .int x11), (4, .int x12)]) hx hb dX6_attack_61 hl (by decide) rfl (fun ls hl => ?_)
              refine lv_iload hx hb dX6_attack_63 (lv_at hl 0 rfl) ?_
              refine lv_aload_n hx hb dX6_attack_65 rfl (lv_at hl 1 rfl) ?_
              refine lv_iload_n hx hb dX6_attack_66 rfl (lv_at hl 2 rfl) ?_
              obtain ⟨v56, σ57, hv, hf⟩ := bd2_e hf
              refine g_cViS (k0 := 0) ⟨⟨hx, hb, hml, hown, hB⟩, hK, hi, hA, hAd, hP, hS⟩ (c_X6_rolls hi hv) cal_X6_rolls kM_X6_157 ⟨Nat.le_trans (Nat.le_of_ble_eq_true rfl) hRf, Nat.le_trans (Nat.le_of_ble_eq_true rfl) hRl⟩ (by decide) rfl rfl rfl hl.1 (Nat.le_of_ble_eq_true rfl) rfl dX6_attack_67 ⟨Nat.zero_le _, Nat.zero_le _⟩ (fun H locs hP hS => ?_)
              refine lv_isub hx hb dX6_attack_70 ?_
              refine lv_istore (lv' := [(5, .int (v54 - v56)), (0, .ref (ad 0)), (1, .int a0), (2, .int v1), (3, .int x11), (4, .int x12)]) hx hb dX6_attack_71 hl (by decide) rfl (fun ls hl => ?_)
              refine lv_aload_n hx hb dX6_attack_73 rfl (lv_at hl 1 rfl) ?_
              refine g_get (v := .ref (ad 9)) hx hb hB hown hK hP 0 (by decide) rfl rfl kU_X6 9 (by decide) kF_X6_34 rfl rfl dX6_attack_74 ?_
              refine lv_iload_n hx hb dX6_attack_77 rfl (lv_at hl 2 rfl) ?_
              refine lv_dup2_11 hx hb dX6_attack_78 rfl rfl ?_
              obtain ⟨hin, hf⟩ := gd_e hf
              refine g_iald hx hb hK hP 9 4 (by decide) rfl hin dX6_attack_79 ?_
              refine lv_iload hx hb dX6_attack_80 (lv_at hl 0 rfl) ?_
              obtain ⟨J62, eJ62, hf⟩ := jn_e4 hf
              have hJ62 : ∀ (y60 : Int32) (y61 : Int32) (y58 : Int32) (σ59 : Mem) (H : Heap) (locs : List Loc) (ls : Array Slot), J62 y60 y61 y58 σ59 = some (r, σr) → va_P D vwCl (wsG 25 ad (EM ad cI) σ59) H → va_S (AG 25 ad s.heap.size) s.heap H locs → lv_has ls 6 [(0, .ref (ad 0)), (1, .int a0), (2, .int v1), (4, .int x12), (5, .int (v54 - v56))] → W p l e R s m args below meth c H locs 0 0 Q (F0 m 91 ls [.int y58, .int y61, .int y60, .ref (ad 9)]) := by
                intro y60 y61 y58 σ59 H locs ls hf hP hS hl
                rw [eJ62] at hf
                refine lv_isub hx hb dX6_attack_91 ?_
                obtain ⟨hin, hf⟩ := gd_e hf
                obtain ⟨σ63, eσ63, hf⟩ := stp_e hf
                refine g_iast (σ1 := σ63) hx hb hK hP hi hAd hS 9 4 (by decide) (fun _ => rfl) hin dX6_attack_92 eσ63 (fun H locs hP hS => ?_)
                refine lv_aload_n hx hb dX6_attack_93 rfl (lv_at hl 0 rfl) ?_
                refine g_get (v := .ref (ad 9)) hx hb hB hown hK hP 0 (by decide) rfl rfl kU_X6 9 (by decide) kF_X6_34 rfl rfl dX6_attack_94 ?_
                refine lv_iload_n hx hb dX6_attack_97 rfl (lv_at hl 2 rfl) ?_
                refine lv_dup2_11 hx hb dX6_attack_98 rfl rfl ?_
                obtain ⟨hin, hf⟩ := gd_e hf
                refine g_iald hx hb hK hP 9 4 (by decide) rfl hin dX6_attack_99 ?_
                refine lv_iload hx hb dX6_attack_100 (lv_at hl 4 rfl) ?_
                obtain ⟨J68, eJ68, hf⟩ := jn_e4 hf
                have hJ68 : ∀ (y66 : Int32) (y67 : Int32) (y64 : Int32) (σ65 : Mem) (H : Heap) (locs : List Loc) (ls : Array Slot), J68 y66 y67 y64 σ65 = some (r, σr) → va_P D vwCl (wsG 25 ad (EM ad cI) σ65) H → va_S (AG 25 ad s.heap.size) s.heap H locs → lv_has ls 6 [(0, .ref (ad 0)), (1, .int a0), (2, .int v1), (4, .int x12)] → W p l e R s m args below meth c H locs 0 0 Q (F0 m 111 ls [.int y64, .int y67, .int y66, .ref (ad 9)]) := by
                  intro y66 y67 y64 σ65 H locs ls hf hP hS hl
                  rw [eJ68] at hf
                  refine lv_iadd hx hb dX6_attack_111 ?_
                  obtain ⟨hin, hf⟩ := gd_e hf
                  obtain ⟨σ69, eσ69, hf⟩ := stp_e hf
                  refine g_iast (σ1 := σ69) hx hb hK hP hi hAd hS 9 4 (by decide) (fun _ => rfl) hin dX6_attack_112 eσ69 (fun H locs hP hS => ?_)
                  refine lv_aload_n hx hb dX6_attack_113 rfl (lv_at hl 0 rfl) ?_
                  refine g_get (v := .ref (ad 9)) hx hb hB hown hK hP 0 (by decide) rfl rfl kU_X6 9 (by decide) kF_X6_34 rfl rfl dX6_attack_114 ?_
                  refine lv_iload_n hx hb dX6_attack_117 rfl (lv_at hl 1 rfl) ?_
                  obtain ⟨hin, hf⟩ := gd_e hf
                  refine g_iald hx hb hK hP 9 4 (by decide) rfl hin dX6_attack_118 ?_
                  obtain ⟨J72, eJ72, hf⟩ := jn_e2 hf
                  have hJ72 : ∀ (y70 : Int32) (σ71 : Mem) (H : Heap) (locs : List Loc) (ls : Array Slot), J72 y70 σ71 = some (r, σr) → va_P D vwCl (wsG 25 ad (EM ad cI) σ71) H → va_S (AG 25 ad s.heap.size) s.heap H locs → lv_has ls 6 [(0, .ref (ad 0)), (1, .int a0), (2, .int v1), (4, .int x12)] → W p l e R s m args below meth c H locs 0 0 Q (F0 m 140 ls [.int y70]) := by
                    intro y70 σ71 H locs ls hf hP hS hl
                    rw [eJ72] at hf
                    refine lv_istore_n (lv' := [(3, .int y70), (0, .ref (ad 0)), (1, .int a0), (2, .int v1), (4, .int x12)]) hx hb dX6_attack_140 rfl hl (by decide) rfl (fun ls hl => ?_)
                    refine lv_iinc (v := (x12 + 1)) (lv' := [(4, .int (x12 + 1)), (3, .int y70), (0, .ref (ad 0)), (1, .int a0), (2, .int v1)]) hx hb dX6_attack_141 hl (k := 4) rfl rfl (by decide) rfl (fun ls hl => ?_)
                    refine lv_goto (tgt := 45) hx hb dX6_attack_144 (by decide) ?_
                    exact ih y70 (x12 + 1) σ71 _ _ ls hf hP hS (lv_sub hl [2, 3, 4, 1, 0] rfl)
                  refine lv_if_gt (tgt := 126) hx hb dX6_attack_119 (by decide) (fun q73 => ?_) (fun q73 => ?_)
                  · rw [if_pos q73] at hf
                    refine lv_aload_n hx hb dX6_attack_126 rfl (lv_at hl 0 rfl) ?_
                    refine g_get (v := .ref (ad 9)) hx hb hB hown hK hP 0 (by decide) rfl rfl kU_X6 9 (by decide) kF_X6_34 rfl rfl dX6_attack_127 ?_
                    refine lv_iload_n hx hb dX6_attack_130 rfl (lv_at hl 2 rfl) ?_
                    obtain ⟨hin, hf⟩ := gd_e hf
                    refine g_iald hx hb hK hP 9 4 (by decide) rfl hin dX6_attack_131 ?_
                    refine lv_if_gt (tgt := 139) hx hb dX6_attack_132 (by decide) (fun q74 => ?_) (fun q74 => ?_)
                    · rw [if_pos q74] at hf
                      refine lv_iconst (v := (-1)) hx hb dX6_attack_139 (by decide) ?_
                      exact hJ72 (-1) σ69 _ _ ls hf hP hS (lv_sub hl [0, 1, 2, 3] rfl)
                    · rw [if_neg q74] at hf
                      refine lv_iload_n hx hb dX6_attack_135 rfl (lv_at hl 2 rfl) ?_
                      refine lv_goto (tgt := 140) hx hb dX6_attack_136 (by decide) ?_
                      exact hJ72 v1 σ69 _ _ ls hf hP hS (lv_sub hl [0, 1, 2, 3] rfl)
                  · rw [if_neg q73] at hf
                    refine lv_iload_n hx hb dX6_attack_122 rfl (lv_at hl 1 rfl) ?_
                    refine lv_goto (tgt := 140) hx hb dX6_attack_123 (by decide) ?_
                    exact hJ72 a0 σ69 _ _ ls hf hP hS (lv_sub hl [0, 1, 2, 3] rfl)
                refine lv_if_ge (tgt := 110) hx hb dX6_attack_102 (by decide) (fun q75 => ?_) (fun q75 => ?_)
                · rw [if_pos q75] at hf
                  refine lv_iconst (v := 0) hx hb dX6_attack_110 (by decide) ?_
                  exact hJ68 v1 (σ63 9 v1.toNatClampNeg) 0 σ63 _ _ ls hf hP hS (lv_sub hl [0, 1, 2, 3] rfl)
                · rw [if_neg q75] at hf
                  refine lv_iload hx hb dX6_attack_105 (lv_at hl 4 rfl) ?_
                  refine lv_goto (tgt := 111) hx hb dX6_attack_107 (by decide) ?_
                  exact hJ68 v1 (σ63 9 v1.toNatClampNeg) (v54 - v56) σ63 _ _ ls hf hP hS (lv_sub hl [0, 1, 2, 3] rfl)
              refine lv_if_le (tgt := 90) hx hb dX6_attack_82 (by decide) (fun q76 => ?_) (fun q76 => ?_)
              · rw [if_pos q76] at hf
                refine lv_iconst (v := 0) hx hb dX6_attack_90 (by decide) ?_
                exact hJ62 a0 (σ57 9 a0.toNatClampNeg) 0 σ57 _ _ ls hf hP hS (lv_sub hl [1, 2, 3, 5, 0] rfl)
              · rw [if_neg q76] at hf
                refine lv_iload hx hb dX6_attack_85 (lv_at hl 0 rfl) ?_
                refine lv_goto (tgt := 91) hx hb dX6_attack_87 (by decide) ?_
                exact hJ62 a0 (σ57 9 a0.toNatClampNeg) (v54 - v56) σ57 _ _ ls hf hP hS (lv_sub hl [1, 2, 3, 5, 0] rfl)
      exact hL_X6_attack_45 FU (-1) 0 σ7 _ _ ls hf hP hS (lv_sub hl [2, 3, 4, 1, 0] rfl)
    · rw [if_pos q8] at hf
      refine lv_iconst (v := 0) hx hb dX6_attack_38 (by decide) ?_
      obtain ⟨h1, h2⟩ := rt2 hf
      rw [hQ]
      exact g_iret hx hb hr hlocks hP hS h1 h2 dX6_attack_39
  refine lv_if_ne (tgt := 18) hx hb dX6_attack_11 (by decide) (fun q77 => ?_) (fun q77 => ?_)
  · rw [if_neg q77] at hf
    refine lv_aload_n hx hb dX6_attack_18 rfl (lv_at hl 1 rfl) ?_
    refine lv_iload_n hx hb dX6_attack_19 rfl (lv_at hl 0 rfl) ?_
    refine lv_iload_n hx hb dX6_attack_20 rfl (lv_at hl 2 rfl) ?_
    obtain ⟨v78, hv, hf⟩ := bd_e hf
    refine g_cViS (k0 := 0) ⟨⟨hx, hb, hml, hown, hB⟩, hK, hi, hA, hAd, hP, hS⟩ (c_X6_isAway hi hv) cal_X6_isAway kM_X6_149 ⟨Nat.le_trans (Nat.le_of_ble_eq_true rfl) hRf, Nat.le_trans (Nat.le_of_ble_eq_true rfl) hRl⟩ (by decide) rfl rfl rfl hl.1 (Nat.le_of_ble_eq_true rfl) rfl dX6_attack_21 ⟨Nat.zero_le _, Nat.zero_le _⟩ (fun H locs hP hS => ?_)
    refine lv_if_eq (tgt := 31) hx hb dX6_attack_24 (by decide) (fun q79 => ?_) (fun q79 => ?_)
    · rw [if_pos q79] at hf
      refine lv_iconst (v := 0) hx hb dX6_attack_31 (by decide) ?_
      exact hJ5 0 σ _ _ ls hf hP hS (lv_sub hl [1, 2, 0] rfl)
    · rw [if_neg q79] at hf
      refine lv_iconst (v := 2) hx hb dX6_attack_27 (by decide) ?_
      refine lv_goto (tgt := 32) hx hb dX6_attack_28 (by decide) ?_
      exact hJ5 2 σ _ _ ls hf hP hS (lv_sub hl [1, 2, 0] rfl)
  · rw [if_pos q77] at hf
    refine lv_iconst (v := 1) hx hb dX6_attack_14 (by decide) ?_
    refine lv_goto (tgt := 32) hx hb dX6_attack_15 (by decide) ?_
    exact hJ5 1 σ _ _ ls hf hP hS (lv_sub hl [1, 2, 0] rfl)
def f_X6_rest (σ : Mem) : Option (Int32 × Mem) :=
bd (f_X6_actor σ) fun v1 =>
jn (fun (y2 : Int32) (σ3 : Mem) =>
bd2 (f_X6_can σ3 y2) fun v5 σ6 =>
if v5 = 0 then (
some (0, σ6))
else (
gd v1 4 <|
gd v1 4 <|
jn (fun (y10 : Int32) (y11 : Int32) (y8 : Int32) (σ9 : Mem) =>
gd y10 4 <| stp (mu σ9 9 y10.toNatClampNeg (y11 + y8)) fun σ13 =>
bd (f_X6_ends σ13 v1 2 (-1) (-1)) fun σ14 =>
gd v1 4 <|
some ((σ14 9 v1.toNatClampNeg), σ14)) fun (J12 : Int32 → Int32 → Int32 → Mem → Option (Int32 × Mem)) =>
if 20 ≤ (σ6 9 v1.toNatClampNeg) then (
J12 v1 (σ6 9 v1.toNatClampNeg) 0 σ6)
else (
J12 v1 (σ6 9 v1.toNatClampNeg) 1 σ6))) fun (J4 : Int32 → Mem → Option (Int32 × Mem)) =>
if v1 = (-1) then (
J4 1 σ)
else (
J4 0 σ)
set_option maxHeartbeats 4000000 in
set_option maxRecDepth 100000 in
theorem c_X6_rest {l : Launch} {D : va_G} {cI cJ : ClassId} {ad : Nat → Nat} {σ : Mem} {r : Int32} {σr : Mem}  (hi : injG 25 ad) (hf : f_X6_rest σ = some (r, σr)) : MGi l yX6_rest (Cond.code yX6_rest cX6_rest 2 (some .int) :: BIG) 3 70 D cI cJ 25 ad (EM ad cI) [.ref (ad 0)] σ σr r := by
  refine MGi.ofW (cc := cX6_rest) (nL := 2) (ret := (some .int)) (by decide) rfl hi ?_
  intro p e s m args below meth c hx hb hr hml hlocks hown hB hK hP hA hAd hS
  have hown : s.vm.findClass RX6 = some m.cls := hown
  have hl := lv_entry ([.ref (ad 0)] : List Value) (n := 2) (Nat.le_of_ble_eq_true rfl)
  rw [lg_entry_eq]
  generalize (lg_sl ([.ref (ad 0)] : List Value) ++ List.replicate (2 - (lg_sl ([.ref (ad 0)] : List Value)).length) Slot.unset).toArray = ls at hl ⊢
  have hl : lv_has ls 2 [(0, .ref (ad 0))] := hl
  generalize hQ : MQ below (Qgi D 25 ad (EM ad cI) r σr s.heap.size) _ s 0 0 (AG 25 ad s.heap.size) = Q
  have hQ := hQ.symm
  obtain ⟨R, hR, hRf, hRl⟩ : ∃ R : Room, R = ({ frames := 3, cells := 0, slots := 0, locals := 70 } : Room) ∧ 3 ≤ R.frames ∧ 70 ≤ R.locals := ⟨_, rfl, Nat.le_refl _, Nat.le_refl _⟩
  rw [← hR]
  unfold f_X6_rest at hf
  refine lv_aload_n hx hb dX6_rest_0 rfl (lv_at hl 0 rfl) ?_
  obtain ⟨v1, hv, hf⟩ := bd_e hf
  refine g_cViS (k0 := 0) ⟨⟨hx, hb, hml, hown, hB⟩, hK, hi, hA, hAd, hP, hS⟩ (c_X6_actor hi hv) cal_X6_actor kM_X6_102 ⟨Nat.le_trans (Nat.le_of_ble_eq_true rfl) hRf, Nat.le_trans (Nat.le_of_ble_eq_true rfl) hRl⟩ (by decide) rfl rfl rfl hl.1 (Nat.le_of_ble_eq_true rfl) rfl dX6_rest_1 ⟨Nat.zero_le _, Nat.zero_le _⟩ (fun H locs hP hS => ?_)
  refine lv_istore_n (lv' := [(1, .int v1), (0, .ref (ad 0))]) hx hb dX6_rest_4 rfl hl (by decide) rfl (fun ls hl => ?_)
  refine lv_aload_n hx hb dX6_rest_5 rfl (lv_at hl 1 rfl) ?_
  refine lv_iload_n hx hb dX6_rest_6 rfl (lv_at hl 0 rfl) ?_
  refine lv_iconst (v := (-1)) hx hb dX6_rest_7 (by decide) ?_
  obtain ⟨J4, eJ4, hf⟩ := jn_e2 hf
  have hJ4 : ∀ (y2 : Int32) (σ3 : Mem) (H : Heap) (locs : List Loc) (ls : Array Slot), J4 y2 σ3 = some (r, σr) → va_P D vwCl (wsG 25 ad (EM ad cI) σ3) H → va_S (AG 25 ad s.heap.size) s.heap H locs → lv_has ls 2 [(0, .ref (ad 0)), (1, .int v1)] → W p l e R s m args below meth c H locs 0 0 Q (F0 m 16 ls [.int y2, .ref (ad 0)]) := by
    intro y2 σ3 H locs ls hf hP hS hl
    rw [eJ4] at hf
    obtain ⟨v5, σ6, hv, hf⟩ := bd2_e hf
    refine g_cViS (k0 := 0) ⟨⟨hx, hb, hml, hown, hB⟩, hK, hi, hA, hAd, hP, hS⟩ (c_X6_can hi hv) cal_X6_can kM_X6_110 ⟨Nat.le_trans (Nat.le_of_ble_eq_true rfl) hRf, Nat.le_trans (Nat.le_of_ble_eq_true rfl) hRl⟩ (by decide) rfl rfl rfl hl.1 (Nat.le_of_ble_eq_true rfl) rfl dX6_rest_16 ⟨Nat.zero_le _, Nat.zero_le _⟩ (fun H locs hP hS => ?_)
    refine lv_if_ne (tgt := 24) hx hb dX6_rest_19 (by decide) (fun q7 => ?_) (fun q7 => ?_)
    · rw [if_neg q7] at hf
      refine lv_aload_n hx hb dX6_rest_24 rfl (lv_at hl 0 rfl) ?_
      refine g_get (v := .ref (ad 9)) hx hb hB hown hK hP 0 (by decide) rfl rfl kU_X6 9 (by decide) kF_X6_34 rfl rfl dX6_rest_25 ?_
      refine lv_iload_n hx hb dX6_rest_28 rfl (lv_at hl 1 rfl) ?_
      refine lv_dup2_11 hx hb dX6_rest_29 rfl rfl ?_
      obtain ⟨hin, hf⟩ := gd_e hf
      refine g_iald hx hb hK hP 9 4 (by decide) rfl hin dX6_rest_30 ?_
      refine lv_aload_n hx hb dX6_rest_31 rfl (lv_at hl 0 rfl) ?_
      refine g_get (v := .ref (ad 9)) hx hb hB hown hK hP 0 (by decide) rfl rfl kU_X6 9 (by decide) kF_X6_34 rfl rfl dX6_rest_32 ?_
      refine lv_iload_n hx hb dX6_rest_35 rfl (lv_at hl 1 rfl) ?_
      obtain ⟨hin, hf⟩ := gd_e hf
      refine g_iald hx hb hK hP 9 4 (by decide) rfl hin dX6_rest_36 ?_
      refine lv_bipush (v := 20) hx hb dX6_rest_37 (by decide) ?_
      obtain ⟨J12, eJ12, hf⟩ := jn_e4 hf
      have hJ12 : ∀ (y10 : Int32) (y11 : Int32) (y8 : Int32) (σ9 : Mem) (H : Heap) (locs : List Loc) (ls : Array Slot), J12 y10 y11 y8 σ9 = some (r, σr) → va_P D vwCl (wsG 25 ad (EM ad cI) σ9) H → va_S (AG 25 ad s.heap.size) s.heap H locs → lv_has ls 2 [(0, .ref (ad 0)), (1, .int v1)] → W p l e R s m args below meth c H locs 0 0 Q (F0 m 47 ls [.int y8, .int y11, .int y10, .ref (ad 9)]) := by
        intro y10 y11 y8 σ9 H locs ls hf hP hS hl
        rw [eJ12] at hf
        refine lv_iadd hx hb dX6_rest_47 ?_
        obtain ⟨hin, hf⟩ := gd_e hf
        obtain ⟨σ13, eσ13, hf⟩ := stp_e hf
        refine g_iast (σ1 := σ13) hx hb hK hP hi hAd hS 9 4 (by decide) (fun _ => rfl) hin dX6_rest_48 eσ13 (fun H locs hP hS => ?_)
        refine lv_aload_n hx hb dX6_rest_49 rfl (lv_at hl 0 rfl) ?_
        refine lv_iload_n hx hb dX6_rest_50 rfl (lv_at hl 1 rfl) ?_
        refine lv_iconst (v := 2) hx hb dX6_rest_51 (by decide) ?_
        refine lv_iconst (v := (-1)) hx hb dX6_rest_52 (by decide) ?_
        refine lv_iconst (v := (-1)) hx hb dX6_rest_53 (by decide) ?_
        obtain ⟨σ14, hv, hf⟩ := bd_e hf
        refine g_cVvS (k0 := 0) ⟨⟨hx, hb, hml, hown, hB⟩, hK, hi, hA, hAd, hP, hS⟩ (c_X6_ends hi hv) cal_X6_ends kM_X6_130 ⟨Nat.le_trans (Nat.le_of_ble_eq_true rfl) hRf, Nat.le_trans (Nat.le_of_ble_eq_true rfl) hRl⟩ (by decide) rfl rfl rfl hl.1 (Nat.le_of_ble_eq_true rfl) rfl dX6_rest_54 ⟨Nat.zero_le _, Nat.zero_le _⟩ (fun H locs hP hS => ?_)
        refine lv_aload_n hx hb dX6_rest_57 rfl (lv_at hl 0 rfl) ?_
        refine g_get (v := .ref (ad 9)) hx hb hB hown hK hP 0 (by decide) rfl rfl kU_X6 9 (by decide) kF_X6_34 rfl rfl dX6_rest_58 ?_
        refine lv_iload_n hx hb dX6_rest_61 rfl (lv_at hl 1 rfl) ?_
        obtain ⟨hin, hf⟩ := gd_e hf
        refine g_iald hx hb hK hP 9 4 (by decide) rfl hin dX6_rest_62 ?_
        obtain ⟨h1, h2⟩ := rt2 hf
        rw [hQ]
        exact g_iret hx hb hr hlocks hP hS h1 h2 dX6_rest_63
      refine lv_icmp_ge (tgt := 46) hx hb dX6_rest_39 (by decide) (fun q15 => ?_) (fun q15 => ?_)
      · rw [if_pos q15] at hf
        refine lv_iconst (v := 0) hx hb dX6_rest_46 (by decide) ?_
        exact hJ12 v1 (σ6 9 v1.toNatClampNeg) 0 σ6 _ _ ls hf hP hS (lv_sub hl [0, 1] rfl)
      · rw [if_neg q15] at hf
        refine lv_iconst (v := 1) hx hb dX6_rest_42 (by decide) ?_
        refine lv_goto (tgt := 47) hx hb dX6_rest_43 (by decide) ?_
        exact hJ12 v1 (σ6 9 v1.toNatClampNeg) 1 σ6 _ _ ls hf hP hS (lv_sub hl [0, 1] rfl)
    · rw [if_pos q7] at hf
      refine lv_iconst (v := 0) hx hb dX6_rest_22 (by decide) ?_
      obtain ⟨h1, h2⟩ := rt2 hf
      rw [hQ]
      exact g_iret hx hb hr hlocks hP hS h1 h2 dX6_rest_23
  refine lv_icmp_ne (tgt := 15) hx hb dX6_rest_8 (by decide) (fun q16 => ?_) (fun q16 => ?_)
  · rw [if_neg q16] at hf
    refine lv_iconst (v := 0) hx hb dX6_rest_15 (by decide) ?_
    exact hJ4 0 σ _ _ ls hf hP hS (lv_sub hl [1, 0] rfl)
  · rw [if_pos q16] at hf
    refine lv_iconst (v := 1) hx hb dX6_rest_11 (by decide) ?_
    refine lv_goto (tgt := 16) hx hb dX6_rest_12 (by decide) ?_
    exact hJ4 1 σ _ _ ls hf hP hS (lv_sub hl [1, 0] rfl)
def f_X6_turn (σ : Mem) : Option (Int32 × Mem) :=
stp (mu σ 0 29 0) fun σ1 =>
bd (f_X6_actor σ1) fun v2 =>
some (v2, σ1)
set_option maxHeartbeats 4000000 in
set_option maxRecDepth 100000 in
theorem c_X6_turn {l : Launch} {D : va_G} {cI cJ : ClassId} {ad : Nat → Nat} {σ : Mem} {r : Int32} {σr : Mem}  (hi : injG 25 ad) (hf : f_X6_turn σ = some (r, σr)) : MGi l yX6_turn (Cond.code yX6_turn cX6_turn 1 (some .int) :: BIG) 1 22 D cI cJ 25 ad (EM ad cI) [.ref (ad 0)] σ σr r := by
  refine MGi.ofW (cc := cX6_turn) (nL := 1) (ret := (some .int)) (by decide) rfl hi ?_
  intro p e s m args below meth c hx hb hr hml hlocks hown hB hK hP hA hAd hS
  have hown : s.vm.findClass RX6 = some m.cls := hown
  have hl := lv_entry ([.ref (ad 0)] : List Value) (n := 1) (Nat.le_of_ble_eq_true rfl)
  rw [lg_entry_eq]
  generalize (lg_sl ([.ref (ad 0)] : List Value) ++ List.replicate (1 - (lg_sl ([.ref (ad 0)] : List Value)).length) Slot.unset).toArray = ls at hl ⊢
  have hl : lv_has ls 1 [(0, .ref (ad 0))] := hl
  generalize hQ : MQ below (Qgi D 25 ad (EM ad cI) r σr s.heap.size) _ s 0 0 (AG 25 ad s.heap.size) = Q
  have hQ := hQ.symm
  obtain ⟨R, hR, hRf, hRl⟩ : ∃ R : Room, R = ({ frames := 1, cells := 0, slots := 0, locals := 22 } : Room) ∧ 1 ≤ R.frames ∧ 22 ≤ R.locals := ⟨_, rfl, Nat.le_refl _, Nat.le_refl _⟩
  rw [← hR]
  unfold f_X6_turn at hf
  refine lv_aload_n hx hb dX6_turn_0 rfl (lv_at hl 0 rfl) ?_
  refine lv_iconst (v := 0) hx hb dX6_turn_1 (by decide) ?_
  obtain ⟨σ1, eσ1, hf⟩ := stp_e hf
  refine g_put (σ1 := σ1) hx hb hB hown hK hP hi hAd hS 0 (by decide) (fun f => [.ref (ad 1), .ref (ad 2), .ref (ad 3), .ref (ad 4), .ref (ad 5), .int (f 5), .ref (ad 6), .ref (ad 7), .ref (ad 8), .ref (ad 9), .ref (ad 10), .ref (ad 11), .ref (ad 12), .ref (ad 13), .int (f 14), .int (f 15), .int (f 16), .ref (ad 14), .ref (ad 15), .ref (ad 16), .ref (ad 17), .ref (ad 18), .ref (ad 19), .int (f 23), .ref (ad 20), .ref (ad 21), .ref (ad 22), .ref (ad 23), .ref (ad 24), .int (f 29)]) (fun _ => rfl) rfl kU_X6 tyX6 tyX6_ok nmX6 29 (by decide) kF_X6_86 rfl (fun _ _ => rfl) (fun _ => Nat.le_of_ble_eq_true rfl) dX6_turn_2 eσ1 (fun H locs hP hS => ?_)
  refine lv_aload_n hx hb dX6_turn_5 rfl (lv_at hl 0 rfl) ?_
  obtain ⟨v2, hv, hf⟩ := bd_e hf
  refine g_cViS (k0 := 0) ⟨⟨hx, hb, hml, hown, hB⟩, hK, hi, hA, hAd, hP, hS⟩ (c_X6_actor hi hv) cal_X6_actor kM_X6_102 ⟨Nat.le_trans (Nat.le_of_ble_eq_true rfl) hRf, Nat.le_trans (Nat.le_of_ble_eq_true rfl) hRl⟩ (by decide) rfl rfl rfl hl.1 (Nat.le_of_ble_eq_true rfl) rfl dX6_turn_6 ⟨Nat.zero_le _, Nat.zero_le _⟩ (fun H locs hP hS => ?_)
  obtain ⟨h1, h2⟩ := rt2 hf
  rw [hQ]
  exact g_iret hx hb hr hlocks hP hS h1 h2 dX6_turn_9
def f_X6_isAsked (σ : Mem) (a0 : Int32) : Option (Int32 × Mem) :=
bd (f_X6_isPlayer σ a0) fun v1 =>
jn (fun (y2 : Int32) (σ3 : Mem) =>
bd2 (f_X6_can σ3 y2) fun v5 σ6 =>
gz v5 <| some (v5, σ6)) fun (J4 : Int32 → Mem → Option (Int32 × Mem)) =>
if v1 = 0 then (
J4 1 σ)
else (
J4 0 σ)
set_option maxHeartbeats 4000000 in
set_option maxRecDepth 100000 in
theorem c_X6_isAsked {l : Launch} {D : va_G} {cI cJ : ClassId} {ad : Nat → Nat} {σ : Mem} {a0 : Int32} {r : Int32} {σr : Mem}  (hi : injG 25 ad) (hf : f_X6_isAsked σ a0 = some (r, σr)) : MGi l yX6_isAsked (Cond.code yX6_isAsked cX6_isAsked 2 (some .boolean) :: BIG) 2 43 D cI cJ 25 ad (EM ad cI) [.ref (ad 0), .int a0] σ σr r := by
  refine MGi.ofW (cc := cX6_isAsked) (nL := 2) (ret := (some .boolean)) (by decide) rfl hi ?_
  intro p e s m args below meth c hx hb hr hml hlocks hown hB hK hP hA hAd hS
  have hown : s.vm.findClass RX6 = some m.cls := hown
  have hl := lv_entry ([.ref (ad 0), .int a0] : List Value) (n := 2) (Nat.le_of_ble_eq_true rfl)
  rw [lg_entry_eq]
  generalize (lg_sl ([.ref (ad 0), .int a0] : List Value) ++ List.replicate (2 - (lg_sl ([.ref (ad 0), .int a0] : List Value)).length) Slot.unset).toArray = ls at hl ⊢
  have hl : lv_has ls 2 [(0, .ref (ad 0)), (1, .int a0)] := hl
  generalize hQ : MQ below (Qgi D 25 ad (EM ad cI) r σr s.heap.size) _ s 0 0 (AG 25 ad s.heap.size) = Q
  have hQ := hQ.symm
  obtain ⟨R, hR, hRf, hRl⟩ : ∃ R : Room, R = ({ frames := 2, cells := 0, slots := 0, locals := 43 } : Room) ∧ 2 ≤ R.frames ∧ 43 ≤ R.locals := ⟨_, rfl, Nat.le_refl _, Nat.le_refl _⟩
  rw [← hR]
  unfold f_X6_isAsked at hf
  refine lv_aload_n hx hb dX6_isAsked_0 rfl (lv_at hl 0 rfl) ?_
  refine lv_aload_n hx hb dX6_isAsked_1 rfl (lv_at hl 0 rfl) ?_
  refine lv_iload_n hx hb dX6_isAsked_2 rfl (lv_at hl 1 rfl) ?_
  obtain ⟨v1, hv, hf⟩ := bd_e hf
  refine g_cViS (k0 := 0) ⟨⟨hx, hb, hml, hown, hB⟩, hK, hi, hA, hAd, hP, hS⟩ (c_X6_isPlayer hi hv) cal_X6_isPlayer kM_X6_146 ⟨Nat.le_trans (Nat.le_of_ble_eq_true rfl) hRf, Nat.le_trans (Nat.le_of_ble_eq_true rfl) hRl⟩ (by decide) rfl rfl rfl hl.1 (Nat.le_of_ble_eq_true rfl) rfl dX6_isAsked_3 ⟨Nat.zero_le _, Nat.zero_le _⟩ (fun H locs hP hS => ?_)
  obtain ⟨J4, eJ4, hf⟩ := jn_e2 hf
  have hJ4 : ∀ (y2 : Int32) (σ3 : Mem) (H : Heap) (locs : List Loc) (ls : Array Slot), J4 y2 σ3 = some (r, σr) → va_P D vwCl (wsG 25 ad (EM ad cI) σ3) H → va_S (AG 25 ad s.heap.size) s.heap H locs → lv_has ls 2 [] → W p l e R s m args below meth c H locs 0 0 Q (F0 m 14 ls [.int y2, .ref (ad 0)]) := by
    intro y2 σ3 H locs ls hf hP hS hl
    rw [eJ4] at hf
    obtain ⟨v5, σ6, hv, hf⟩ := bd2_e hf
    refine g_cViS (k0 := 0) ⟨⟨hx, hb, hml, hown, hB⟩, hK, hi, hA, hAd, hP, hS⟩ (c_X6_can hi hv) cal_X6_can kM_X6_110 ⟨Nat.le_trans (Nat.le_of_ble_eq_true rfl) hRf, Nat.le_trans (Nat.le_of_ble_eq_true rfl) hRl⟩ (by decide) rfl rfl rfl hl.1 (Nat.le_of_ble_eq_true rfl) rfl dX6_isAsked_14 ⟨Nat.zero_le _, Nat.zero_le _⟩ (fun H locs hP hS => ?_)
    obtain ⟨hz, hf⟩ := gz_e hf
    obtain ⟨h1, h2⟩ := rt2 hf
    rw [hQ]
    exact g_zret hx hb hr hlocks hP hS hz h1 h2 dX6_isAsked_17
  refine lv_if_eq (tgt := 13) hx hb dX6_isAsked_6 (by decide) (fun q7 => ?_) (fun q7 => ?_)
  · rw [if_pos q7] at hf
    refine lv_iconst (v := 1) hx hb dX6_isAsked_13 (by decide) ?_
    exact hJ4 1 σ _ _ ls hf hP hS (lv_sub hl [] rfl)
  · rw [if_neg q7] at hf
    refine lv_iconst (v := 0) hx hb dX6_isAsked_9 (by decide) ?_
    refine lv_goto (tgt := 14) hx hb dX6_isAsked_10 (by decide) ?_
    exact hJ4 0 σ _ _ ls hf hP hS (lv_sub hl [] rfl)
def f_X6_readyAt (σ : Mem) (a0 : Int32) : Option (Int32 × Mem) :=
bd2 (f_X6_isAsked σ a0) fun v1 σ2 =>
if v1 = 0 then (
some (0, σ2))
else (
gd a0 4 <|
some ((σ2 10 a0.toNatClampNeg), σ2))
set_option maxHeartbeats 4000000 in
set_option maxRecDepth 100000 in
theorem c_X6_readyAt {l : Launch} {D : va_G} {cI cJ : ClassId} {ad : Nat → Nat} {σ : Mem} {a0 : Int32} {r : Int32} {σr : Mem}  (hi : injG 25 ad) (hf : f_X6_readyAt σ a0 = some (r, σr)) : MGi l yX6_readyAt (Cond.code yX6_readyAt cX6_readyAt 2 (some .int) :: BIG) 3 64 D cI cJ 25 ad (EM ad cI) [.ref (ad 0), .int a0] σ σr r := by
  refine MGi.ofW (cc := cX6_readyAt) (nL := 2) (ret := (some .int)) (by decide) rfl hi ?_
  intro p e s m args below meth c hx hb hr hml hlocks hown hB hK hP hA hAd hS
  have hown : s.vm.findClass RX6 = some m.cls := hown
  have hl := lv_entry ([.ref (ad 0), .int a0] : List Value) (n := 2) (Nat.le_of_ble_eq_true rfl)
  rw [lg_entry_eq]
  generalize (lg_sl ([.ref (ad 0), .int a0] : List Value) ++ List.replicate (2 - (lg_sl ([.ref (ad 0), .int a0] : List Value)).length) Slot.unset).toArray = ls at hl ⊢
  have hl : lv_has ls 2 [(0, .ref (ad 0)), (1, .int a0)] := hl
  generalize hQ : MQ below (Qgi D 25 ad (EM ad cI) r σr s.heap.size) _ s 0 0 (AG 25 ad s.heap.size) = Q
  have hQ := hQ.symm
  obtain ⟨R, hR, hRf, hRl⟩ : ∃ R : Room, R = ({ frames := 3, cells := 0, slots := 0, locals := 64 } : Room) ∧ 3 ≤ R.frames ∧ 64 ≤ R.locals := ⟨_, rfl, Nat.le_refl _, Nat.le_refl _⟩
  rw [← hR]
  unfold f_X6_readyAt at hf
  refine lv_aload_n hx hb dX6_readyAt_0 rfl (lv_at hl 0 rfl) ?_
  refine lv_iload_n hx hb dX6_readyAt_1 rfl (lv_at hl 1 rfl) ?_
  obtain ⟨v1, σ2, hv, hf⟩ := bd2_e hf
  refine g_cViS (k0 := 0) ⟨⟨hx, hb, hml, hown, hB⟩, hK, hi, hA, hAd, hP, hS⟩ (c_X6_isAsked hi hv) cal_X6_isAsked kM_X6_164 ⟨Nat.le_trans (Nat.le_of_ble_eq_true rfl) hRf, Nat.le_trans (Nat.le_of_ble_eq_true rfl) hRl⟩ (by decide) rfl rfl rfl hl.1 (Nat.le_of_ble_eq_true rfl) rfl dX6_readyAt_2 ⟨Nat.zero_le _, Nat.zero_le _⟩ (fun H locs hP hS => ?_)
  refine lv_if_eq (tgt := 17) hx hb dX6_readyAt_5 (by decide) (fun q3 => ?_) (fun q3 => ?_)
  · rw [if_pos q3] at hf
    refine lv_iconst (v := 0) hx hb dX6_readyAt_17 (by decide) ?_
    obtain ⟨h1, h2⟩ := rt2 hf
    rw [hQ]
    exact g_iret hx hb hr hlocks hP hS h1 h2 dX6_readyAt_18
  · rw [if_neg q3] at hf
    refine lv_aload_n hx hb dX6_readyAt_8 rfl (lv_at hl 0 rfl) ?_
    refine g_get (v := .ref (ad 10)) hx hb hB hown hK hP 0 (by decide) rfl rfl kU_X6 10 (by decide) kF_X6_37 rfl rfl dX6_readyAt_9 ?_
    refine lv_iload_n hx hb dX6_readyAt_12 rfl (lv_at hl 1 rfl) ?_
    obtain ⟨hin, hf⟩ := gd_e hf
    refine g_iald hx hb hK hP 10 4 (by decide) rfl hin dX6_readyAt_13 ?_
    refine lv_goto (tgt := 18) hx hb dX6_readyAt_14 (by decide) ?_
    obtain ⟨h1, h2⟩ := rt2 hf
    rw [hQ]
    exact g_iret hx hb hr hlocks hP hS h1 h2 dX6_readyAt_18
def f_X6_roomOf (σ : Mem) (a0 : Int32) : Option (Int32 × Mem) :=
bd2 (f_X6_isAsked σ a0) fun v1 σ2 =>
if v1 = 0 then (
some (0, σ2))
else (
gd a0 4 <|
some ((σ2 6 a0.toNatClampNeg), σ2))
set_option maxHeartbeats 4000000 in
set_option maxRecDepth 100000 in
theorem c_X6_roomOf {l : Launch} {D : va_G} {cI cJ : ClassId} {ad : Nat → Nat} {σ : Mem} {a0 : Int32} {r : Int32} {σr : Mem}  (hi : injG 25 ad) (hf : f_X6_roomOf σ a0 = some (r, σr)) : MGi l yX6_roomOf (Cond.code yX6_roomOf cX6_roomOf 2 (some .int) :: BIG) 3 64 D cI cJ 25 ad (EM ad cI) [.ref (ad 0), .int a0] σ σr r := by
  refine MGi.ofW (cc := cX6_roomOf) (nL := 2) (ret := (some .int)) (by decide) rfl hi ?_
  intro p e s m args below meth c hx hb hr hml hlocks hown hB hK hP hA hAd hS
  have hown : s.vm.findClass RX6 = some m.cls := hown
  have hl := lv_entry ([.ref (ad 0), .int a0] : List Value) (n := 2) (Nat.le_of_ble_eq_true rfl)
  rw [lg_entry_eq]
  generalize (lg_sl ([.ref (ad 0), .int a0] : List Value) ++ List.replicate (2 - (lg_sl ([.ref (ad 0), .int a0] : List Value)).length) Slot.unset).toArray = ls at hl ⊢
  have hl : lv_has ls 2 [(0, .ref (ad 0)), (1, .int a0)] := hl
  generalize hQ : MQ below (Qgi D 25 ad (EM ad cI) r σr s.heap.size) _ s 0 0 (AG 25 ad s.heap.size) = Q
  have hQ := hQ.symm
  obtain ⟨R, hR, hRf, hRl⟩ : ∃ R : Room, R = ({ frames := 3, cells := 0, slots := 0, locals := 64 } : Room) ∧ 3 ≤ R.frames ∧ 64 ≤ R.locals := ⟨_, rfl, Nat.le_refl _, Nat.le_refl _⟩
  rw [← hR]
  unfold f_X6_roomOf at hf
  refine lv_aload_n hx hb dX6_roomOf_0 rfl (lv_at hl 0 rfl) ?_
  refine lv_iload_n hx hb dX6_roomOf_1 rfl (lv_at hl 1 rfl) ?_
  obtain ⟨v1, σ2, hv, hf⟩ := bd2_e hf
  refine g_cViS (k0 := 0) ⟨⟨hx, hb, hml, hown, hB⟩, hK, hi, hA, hAd, hP, hS⟩ (c_X6_isAsked hi hv) cal_X6_isAsked kM_X6_164 ⟨Nat.le_trans (Nat.le_of_ble_eq_true rfl) hRf, Nat.le_trans (Nat.le_of_ble_eq_true rfl) hRl⟩ (by decide) rfl rfl rfl hl.1 (Nat.le_of_ble_eq_true rfl) rfl dX6_roomOf_2 ⟨Nat.zero_le _, Nat.zero_le _⟩ (fun H locs hP hS => ?_)
  refine lv_if_eq (tgt := 17) hx hb dX6_roomOf_5 (by decide) (fun q3 => ?_) (fun q3 => ?_)
  · rw [if_pos q3] at hf
    refine lv_iconst (v := 0) hx hb dX6_roomOf_17 (by decide) ?_
    obtain ⟨h1, h2⟩ := rt2 hf
    rw [hQ]
    exact g_iret hx hb hr hlocks hP hS h1 h2 dX6_roomOf_18
  · rw [if_neg q3] at hf
    refine lv_aload_n hx hb dX6_roomOf_8 rfl (lv_at hl 0 rfl) ?_
    refine g_get (v := .ref (ad 6)) hx hb hB hown hK hP 0 (by decide) rfl rfl kU_X6 6 (by decide) kF_X6_25 rfl rfl dX6_roomOf_9 ?_
    refine lv_iload_n hx hb dX6_roomOf_12 rfl (lv_at hl 1 rfl) ?_
    obtain ⟨hin, hf⟩ := gd_e hf
    refine g_iald hx hb hK hP 6 4 (by decide) rfl hin dX6_roomOf_13 ?_
    refine lv_goto (tgt := 18) hx hb dX6_roomOf_14 (by decide) ?_
    obtain ⟨h1, h2⟩ := rt2 hf
    rw [hQ]
    exact g_iret hx hb hr hlocks hP hS h1 h2 dX6_roomOf_18
def f_X6_coinsOf (σ : Mem) (a0 : Int32) : Option (Int32 × Mem) :=
bd2 (f_X6_isAsked σ a0) fun v1 σ2 =>
if v1 = 0 then (
some (0, σ2))
else (
gd a0 4 <|
some ((σ2 7 a0.toNatClampNeg), σ2))
set_option maxHeartbeats 4000000 in
set_option maxRecDepth 100000 in
theorem c_X6_coinsOf {l : Launch} {D : va_G} {cI cJ : ClassId} {ad : Nat → Nat} {σ : Mem} {a0 : Int32} {r : Int32} {σr : Mem}  (hi : injG 25 ad) (hf : f_X6_coinsOf σ a0 = some (r, σr)) : MGi l yX6_coinsOf (Cond.code yX6_coinsOf cX6_coinsOf 2 (some .int) :: BIG) 3 64 D cI cJ 25 ad (EM ad cI) [.ref (ad 0), .int a0] σ σr r := by
  refine MGi.ofW (cc := cX6_coinsOf) (nL := 2) (ret := (some .int)) (by decide) rfl hi ?_
  intro p e s m args below meth c hx hb hr hml hlocks hown hB hK hP hA hAd hS
  have hown : s.vm.findClass RX6 = some m.cls := hown
  have hl := lv_entry ([.ref (ad 0), .int a0] : List Value) (n := 2) (Nat.le_of_ble_eq_true rfl)
  rw [lg_entry_eq]
  generalize (lg_sl ([.ref (ad 0), .int a0] : List Value) ++ List.replicate (2 - (lg_sl ([.ref (ad 0), .int a0] : List Value)).length) Slot.unset).toArray = ls at hl ⊢
  have hl : lv_has ls 2 [(0, .ref (ad 0)), (1, .int a0)] := hl
  generalize hQ : MQ below (Qgi D 25 ad (EM ad cI) r σr s.heap.size) _ s 0 0 (AG 25 ad s.heap.size) = Q
  have hQ := hQ.symm
  obtain ⟨R, hR, hRf, hRl⟩ : ∃ R : Room, R = ({ frames := 3, cells := 0, slots := 0, locals := 64 } : Room) ∧ 3 ≤ R.frames ∧ 64 ≤ R.locals := ⟨_, rfl, Nat.le_refl _, Nat.le_refl _⟩
  rw [← hR]
  unfold f_X6_coinsOf at hf
  refine lv_aload_n hx hb dX6_coinsOf_0 rfl (lv_at hl 0 rfl) ?_
  refine lv_iload_n hx hb dX6_coinsOf_1 rfl (lv_at hl 1 rfl) ?_
  obtain ⟨v1, σ2, hv, hf⟩ := bd2_e hf
  refine g_cViS (k0 := 0) ⟨⟨hx, hb, hml, hown, hB⟩, hK, hi, hA, hAd, hP, hS⟩ (c_X6_isAsked hi hv) cal_X6_isAsked kM_X6_164 ⟨Nat.le_trans (Nat.le_of_ble_eq_true rfl) hRf, Nat.le_trans (Nat.le_of_ble_eq_true rfl) hRl⟩ (by decide) rfl rfl rfl hl.1 (Nat.le_of_ble_eq_true rfl) rfl dX6_coinsOf_2 ⟨Nat.zero_le _, Nat.zero_le _⟩ (fun H locs hP hS => ?_)
  refine lv_if_eq (tgt := 17) hx hb dX6_coinsOf_5 (by decide) (fun q3 => ?_) (fun q3 => ?_)
  · rw [if_pos q3] at hf
    refine lv_iconst (v := 0) hx hb dX6_coinsOf_17 (by decide) ?_
    obtain ⟨h1, h2⟩ := rt2 hf
    rw [hQ]
    exact g_iret hx hb hr hlocks hP hS h1 h2 dX6_coinsOf_18
  · rw [if_neg q3] at hf
    refine lv_aload_n hx hb dX6_coinsOf_8 rfl (lv_at hl 0 rfl) ?_
    refine g_get (v := .ref (ad 7)) hx hb hB hown hK hP 0 (by decide) rfl rfl kU_X6 7 (by decide) kF_X6_28 rfl rfl dX6_coinsOf_9 ?_
    refine lv_iload_n hx hb dX6_coinsOf_12 rfl (lv_at hl 1 rfl) ?_
    obtain ⟨hin, hf⟩ := gd_e hf
    refine g_iald hx hb hK hP 7 4 (by decide) rfl hin dX6_coinsOf_13 ?_
    refine lv_goto (tgt := 18) hx hb dX6_coinsOf_14 (by decide) ?_
    obtain ⟨h1, h2⟩ := rt2 hf
    rw [hQ]
    exact g_iret hx hb hr hlocks hP hS h1 h2 dX6_coinsOf_18
def f_X6_healthOf (σ : Mem) (a0 : Int32) : Option (Int32 × Mem) :=
bd2 (f_X6_isAsked σ a0) fun v1 σ2 =>
if v1 = 0 then (
some (0, σ2))
else (
gd a0 4 <|
some ((σ2 9 a0.toNatClampNeg), σ2))
set_option maxHeartbeats 4000000 in
set_option maxRecDepth 100000 in
theorem c_X6_healthOf {l : Launch} {D : va_G} {cI cJ : ClassId} {ad : Nat → Nat} {σ : Mem} {a0 : Int32} {r : Int32} {σr : Mem}  (hi : injG 25 ad) (hf : f_X6_healthOf σ a0 = some (r, σr)) : MGi l yX6_healthOf (Cond.code yX6_healthOf cX6_healthOf 2 (some .int) :: BIG) 3 64 D cI cJ 25 ad (EM ad cI) [.ref (ad 0), .int a0] σ σr r := by
  refine MGi.ofW (cc := cX6_healthOf) (nL := 2) (ret := (some .int)) (by decide) rfl hi ?_
  intro p e s m args below meth c hx hb hr hml hlocks hown hB hK hP hA hAd hS
  have hown : s.vm.findClass RX6 = some m.cls := hown
  have hl := lv_entry ([.ref (ad 0), .int a0] : List Value) (n := 2) (Nat.le_of_ble_eq_true rfl)
  rw [lg_entry_eq]
  generalize (lg_sl ([.ref (ad 0), .int a0] : List Value) ++ List.replicate (2 - (lg_sl ([.ref (ad 0), .int a0] : List Value)).length) Slot.unset).toArray = ls at hl ⊢
  have hl : lv_has ls 2 [(0, .ref (ad 0)), (1, .int a0)] := hl
  generalize hQ : MQ below (Qgi D 25 ad (EM ad cI) r σr s.heap.size) _ s 0 0 (AG 25 ad s.heap.size) = Q
  have hQ := hQ.symm
  obtain ⟨R, hR, hRf, hRl⟩ : ∃ R : Room, R = ({ frames := 3, cells := 0, slots := 0, locals := 64 } : Room) ∧ 3 ≤ R.frames ∧ 64 ≤ R.locals := ⟨_, rfl, Nat.le_refl _, Nat.le_refl _⟩
  rw [← hR]
  unfold f_X6_healthOf at hf
  refine lv_aload_n hx hb dX6_healthOf_0 rfl (lv_at hl 0 rfl) ?_
  refine lv_iload_n hx hb dX6_healthOf_1 rfl (lv_at hl 1 rfl) ?_
  obtain ⟨v1, σ2, hv, hf⟩ := bd2_e hf
  refine g_cViS (k0 := 0) ⟨⟨hx, hb, hml, hown, hB⟩, hK, hi, hA, hAd, hP, hS⟩ (c_X6_isAsked hi hv) cal_X6_isAsked kM_X6_164 ⟨Nat.le_trans (Nat.le_of_ble_eq_true rfl) hRf, Nat.le_trans (Nat.le_of_ble_eq_true rfl) hRl⟩ (by decide) rfl rfl rfl hl.1 (Nat.le_of_ble_eq_true rfl) rfl dX6_healthOf_2 ⟨Nat.zero_le _, Nat.zero_le _⟩ (fun H locs hP hS => ?_)
  refine lv_if_eq (tgt := 17) hx hb dX6_healthOf_5 (by decide) (fun q3 => ?_) (fun q3 => ?_)
  · rw [if_pos q3] at hf
    refine lv_iconst (v := 0) hx hb dX6_healthOf_17 (by decide) ?_
    obtain ⟨h1, h2⟩ := rt2 hf
    rw [hQ]
    exact g_iret hx hb hr hlocks hP hS h1 h2 dX6_healthOf_18
  · rw [if_neg q3] at hf
    refine lv_aload_n hx hb dX6_healthOf_8 rfl (lv_at hl 0 rfl) ?_
    refine g_get (v := .ref (ad 9)) hx hb hB hown hK hP 0 (by decide) rfl rfl kU_X6 9 (by decide) kF_X6_34 rfl rfl dX6_healthOf_9 ?_
    refine lv_iload_n hx hb dX6_healthOf_12 rfl (lv_at hl 1 rfl) ?_
    obtain ⟨hin, hf⟩ := gd_e hf
    refine g_iald hx hb hK hP 9 4 (by decide) rfl hin dX6_healthOf_13 ?_
    refine lv_goto (tgt := 18) hx hb dX6_healthOf_14 (by decide) ?_
    obtain ⟨h1, h2⟩ := rt2 hf
    rw [hQ]
    exact g_iret hx hb hr hlocks hP hS h1 h2 dX6_healthOf_18
def f_X6_goodsOf (σ : Mem) (a0 a1 : Int32) : Option (Int32 × Mem) :=
bd (f_X6_isPlayer σ a0) fun v1 =>
jn (fun (y2 : Int32) (σ3 : Mem) =>
bd2 (f_X6_can σ3 y2) fun v5 σ6 =>
if v5 = 0 then (
some (0, σ6))
else (
gd ((5 * a0) + a1) 20 <|
some ((σ6 11 ((5 * a0) + a1).toNatClampNeg), σ6))) fun (J4 : Int32 → Mem → Option (Int32 × Mem)) =>
jn (fun (σ8 : Mem) =>
J4 1 σ8) fun (J9 : Mem → Option (Int32 × Mem)) =>
if v1 = 0 then (
J9 σ)
else (
bd (f_X6_isKind a1) fun v11 =>
if v11 = 0 then (
J9 σ)
else (
J4 0 σ))
set_option maxHeartbeats 4000000 in
set_option maxRecDepth 100000 in
theorem c_X6_goodsOf {l : Launch} {D : va_G} {cI cJ : ClassId} {ad : Nat → Nat} {σ : Mem} {a0 a1 : Int32} {r : Int32} {σr : Mem}  (hi : injG 25 ad) (hf : f_X6_goodsOf σ a0 a1 = some (r, σr)) : MGi l yX6_goodsOf (Cond.code yX6_goodsOf cX6_goodsOf 3 (some .int) :: BIG) 2 43 D cI cJ 25 ad (EM ad cI) [.ref (ad 0), .int a0, .int a1] σ σr r := by
  refine MGi.ofW (cc := cX6_goodsOf) (nL := 3) (ret := (some .int)) (by decide) rfl hi ?_
  intro p e s m args below meth c hx hb hr hml hlocks hown hB hK hP hA hAd hS
  have hown : s.vm.findClass RX6 = some m.cls := hown
  have hl := lv_entry ([.ref (ad 0), .int a0, .int a1] : List Value) (n := 3) (Nat.le_of_ble_eq_true rfl)
  rw [lg_entry_eq]
  generalize (lg_sl ([.ref (ad 0), .int a0, .int a1] : List Value) ++ List.replicate (3 - (lg_sl ([.ref (ad 0), .int a0, .int a1] : List Value)).length) Slot.unset).toArray = ls at hl ⊢
  have hl : lv_has ls 3 [(0, .ref (ad 0)), (1, .int a0), (2, .int a1)] := hl
  generalize hQ : MQ below (Qgi D 25 ad (EM ad cI) r σr s.heap.size) _ s 0 0 (AG 25 ad s.heap.size) = Q
  have hQ := hQ.symm
  obtain ⟨R, hR, hRf, hRl⟩ : ∃ R : Room, R = ({ frames := 2, cells := 0, slots := 0, locals := 43 } : Room) ∧ 2 ≤ R.frames ∧ 43 ≤ R.locals := ⟨_, rfl, Nat.le_refl _, Nat.le_refl _⟩
  rw [← hR]
  unfold f_X6_goodsOf at hf
  refine lv_aload_n hx hb dX6_goodsOf_0 rfl (lv_at hl 0 rfl) ?_
  refine lv_aload_n hx hb dX6_goodsOf_1 rfl (lv_at hl 0 rfl) ?_
  refine lv_iload_n hx hb dX6_goodsOf_2 rfl (lv_at hl 1 rfl) ?_
  obtain ⟨v1, hv, hf⟩ := bd_e hf
  refine g_cViS (k0 := 0) ⟨⟨hx, hb, hml, hown, hB⟩, hK, hi, hA, hAd, hP, hS⟩ (c_X6_isPlayer hi hv) cal_X6_isPlayer kM_X6_146 ⟨Nat.le_trans (Nat.le_of_ble_eq_true rfl) hRf, Nat.le_trans (Nat.le_of_ble_eq_true rfl) hRl⟩ (by decide) rfl rfl rfl hl.1 (Nat.le_of_ble_eq_true rfl) rfl dX6_goodsOf_3 ⟨Nat.zero_le _, Nat.zero_le _⟩ (fun H locs hP hS => ?_)
  obtain ⟨J4, eJ4, hf⟩ := jn_e2 hf
  have hJ4 : ∀ (y2 : Int32) (σ3 : Mem) (H : Heap) (locs : List Loc) (ls : Array Slot), J4 y2 σ3 = some (r, σr) → va_P D vwCl (wsG 25 ad (EM ad cI) σ3) H → va_S (AG 25 ad s.heap.size) s.heap H locs → lv_has ls 3 [(0, .ref (ad 0)), (1, .int a0), (2, .int a1)] → W p l e R s m args below meth c H locs 0 0 Q (F0 m 21 ls [.int y2, .ref (ad 0)]) := by
    intro y2 σ3 H locs ls hf hP hS hl
    rw [eJ4] at hf
    obtain ⟨v5, σ6, hv, hf⟩ := bd2_e hf
    refine g_cViS (k0 := 0) ⟨⟨hx, hb, hml, hown, hB⟩, hK, hi, hA, hAd, hP, hS⟩ (c_X6_can hi hv) cal_X6_can kM_X6_110 ⟨Nat.le_trans (Nat.le_of_ble_eq_true rfl) hRf, Nat.le_trans (Nat.le_of_ble_eq_true rfl) hRl⟩ (by decide) rfl rfl rfl hl.1 (Nat.le_of_ble_eq_true rfl) rfl dX6_goodsOf_21 ⟨Nat.zero_le _, Nat.zero_le _⟩ (fun H locs hP hS => ?_)
    refine lv_if_eq (tgt := 40) hx hb dX6_goodsOf_24 (by decide) (fun q7 => ?_) (fun q7 => ?_)
    · rw [if_pos q7] at hf
      refine lv_iconst (v := 0) hx hb dX6_goodsOf_40 (by decide) ?_
      obtain ⟨h1, h2⟩ := rt2 hf
      rw [hQ]
      exact g_iret hx hb hr hlocks hP hS h1 h2 dX6_goodsOf_41
    · rw [if_neg q7] at hf
      refine lv_aload_n hx hb dX6_goodsOf_27 rfl (lv_at hl 0 rfl) ?_
      refine g_get (v := .ref (ad 11)) hx hb hB hown hK hP 0 (by decide) rfl rfl kU_X6 11 (by decide) kF_X6_40 rfl rfl dX6_goodsOf_28 ?_
      refine lv_iconst (v := 5) hx hb dX6_goodsOf_31 (by decide) ?_
      refine lv_iload_n hx hb dX6_goodsOf_32 rfl (lv_at hl 1 rfl) ?_
      refine lv_imul hx hb dX6_goodsOf_33 ?_
      refine lv_iload_n hx hb dX6_goodsOf_34 rfl (lv_at hl 2 rfl) ?_
      refine lv_iadd hx hb dX6_goodsOf_35 ?_
      obtain ⟨hin, hf⟩ := gd_e hf
      refine g_iald hx hb hK hP 11 20 (by decide) rfl hin dX6_goodsOf_36 ?_
      refine lv_goto (tgt := 41) hx hb dX6_goodsOf_37 (by decide) ?_
      obtain ⟨h1, h2⟩ := rt2 hf
      rw [hQ]
      exact g_iret hx hb hr hlocks hP hS h1 h2 dX6_goodsOf_41
  obtain ⟨J9, eJ9, hf⟩ := jn_e1 hf
  have hJ9 : ∀ (σ8 : Mem) (H : Heap) (locs : List Loc) (ls : Array Slot), J9 σ8 = some (r, σr) → va_P D vwCl (wsG 25 ad (EM ad cI) σ8) H → va_S (AG 25 ad s.heap.size) s.heap H locs → lv_has ls 3 [(0, .ref (ad 0)), (1, .int a0), (2, .int a1)] → W p l e R s m args below meth c H locs 0 0 Q (F0 m 20 ls [.ref (ad 0)]) := by
    intro σ8 H locs ls hf hP hS hl
    rw [eJ9] at hf
    refine lv_iconst (v := 1) hx hb dX6_goodsOf_20 (by decide) ?_
    exact hJ4 1 σ8 _ _ ls hf hP hS (lv_sub hl [0, 1, 2] rfl)
  refine lv_if_eq (tgt := 20) hx hb dX6_goodsOf_6 (by decide) (fun q10 => ?_) (fun q10 => ?_)
  · rw [if_pos q10] at hf
    exact hJ9 σ _ _ ls hf hP hS (lv_sub hl [0, 1, 2] rfl)
  · rw [if_neg q10] at hf
    refine lv_iload_n hx hb dX6_goodsOf_9 rfl (lv_at hl 2 rfl) ?_
    obtain ⟨v11, hv, hf⟩ := bd_e hf
    refine g_cSi0 ⟨⟨hx, hb, hml, hown, hB⟩, hK, hi, hA, hAd, hP, hS⟩ (c_X6_isKind hv) cal_X6_isKind kM_X6_116 ⟨Nat.le_trans (Nat.le_of_ble_eq_true rfl) hRf, Nat.le_trans (Nat.le_of_ble_eq_true rfl) hRl⟩ rfl hl.1 (Nat.le_of_ble_eq_true rfl) rfl dX6_goodsOf_10 ⟨Nat.zero_le _, Nat.zero_le _⟩ (fun H locs hP hS => ?_)
    refine lv_if_eq (tgt := 20) hx hb dX6_goodsOf_13 (by decide) (fun q12 => ?_) (fun q12 => ?_)
    · rw [if_pos q12] at hf
      exact hJ9 σ _ _ ls hf hP hS (lv_sub hl [0, 1, 2] rfl)
    · rw [if_neg q12] at hf
      refine lv_iconst (v := 0) hx hb dX6_goodsOf_16 (by decide) ?_
      refine lv_goto (tgt := 21) hx hb dX6_goodsOf_17 (by decide) ?_
      exact hJ4 0 σ _ _ ls hf hP hS (lv_sub hl [0, 1, 2] rfl)
def f_X6_heard (σ : Mem) (a0 a1 : Int32) : Option (Int32 × Mem) :=
bd (f_X6_isPlayer σ a0) fun v1 =>
jn (fun (y2 : Int32) (σ3 : Mem) =>
bd2 (f_X6_can σ3 y2) fun v5 σ6 =>
if v5 = 0 then (
some (0, σ6))
else (
gd ((6 * a0) + a1) 24 <|
some ((σ6 13 ((6 * a0) + a1).toNatClampNeg), σ6))) fun (J4 : Int32 → Mem → Option (Int32 × Mem)) =>
jn (fun (σ8 : Mem) =>
J4 1 σ8) fun (J9 : Mem → Option (Int32 × Mem)) =>
if v1 = 0 then (
J9 σ)
else (
gd a0 4 <|
bd (f_X6_isIn a1 0 ((σ 12 a0.toNatClampNeg) - 1)) fun v11 =>
if v11 = 0 then (
J9 σ)
else (
J4 0 σ))
set_option maxHeartbeats 4000000 in
set_option maxRecDepth 100000 in
theorem c_X6_heard {l : Launch} {D : va_G} {cI cJ : ClassId} {ad : Nat → Nat} {σ : Mem} {a0 a1 : Int32} {r : Int32} {σr : Mem}  (hi : injG 25 ad) (hf : f_X6_heard σ a0 a1 = some (r, σr)) : MGi l yX6_heard (Cond.code yX6_heard cX6_heard 3 (some .int) :: BIG) 2 43 D cI cJ 25 ad (EM ad cI) [.ref (ad 0), .int a0, .int a1] σ σr r := by
  refine MGi.ofW (cc := cX6_heard) (nL := 3) (ret := (some .int)) (by decide) rfl hi ?_
  intro p e s m args below meth c hx hb hr hml hlocks hown hB hK hP hA hAd hS
  have hown : s.vm.findClass RX6 = some m.cls := hown
  have hl := lv_entry ([.ref (ad 0), .int a0, .int a1] : List Value) (n := 3) (Nat.le_of_ble_eq_true rfl)
  rw [lg_entry_eq]
  generalize (lg_sl ([.ref (ad 0), .int a0, .int a1] : List Value) ++ List.replicate (3 - (lg_sl ([.ref (ad 0), .int a0, .int a1] : List Value)).length) Slot.unset).toArray = ls at hl ⊢
  have hl : lv_has ls 3 [(0, .ref (ad 0)), (1, .int a0), (2, .int a1)] := hl
  generalize hQ : MQ below (Qgi D 25 ad (EM ad cI) r σr s.heap.size) _ s 0 0 (AG 25 ad s.heap.size) = Q
  have hQ := hQ.symm
  obtain ⟨R, hR, hRf, hRl⟩ : ∃ R : Room, R = ({ frames := 2, cells := 0, slots := 0, locals := 43 } : Room) ∧ 2 ≤ R.frames ∧ 43 ≤ R.locals := ⟨_, rfl, Nat.le_refl _, Nat.le_refl _⟩
  rw [← hR]
  unfold f_X6_heard at hf
  refine lv_aload_n hx hb dX6_heard_0 rfl (lv_at hl 0 rfl) ?_
  refine lv_aload_n hx hb dX6_heard_1 rfl (lv_at hl 0 rfl) ?_
  refine lv_iload_n hx hb dX6_heard_2 rfl (lv_at hl 1 rfl) ?_
  obtain ⟨v1, hv, hf⟩ := bd_e hf
  refine g_cViS (k0 := 0) ⟨⟨hx, hb, hml, hown, hB⟩, hK, hi, hA, hAd, hP, hS⟩ (c_X6_isPlayer hi hv) cal_X6_isPlayer kM_X6_146 ⟨Nat.le_trans (Nat.le_of_ble_eq_true rfl) hRf, Nat.le_trans (Nat.le_of_ble_eq_true rfl) hRl⟩ (by decide) rfl rfl rfl hl.1 (Nat.le_of_ble_eq_true rfl) rfl dX6_heard_3 ⟨Nat.zero_le _, Nat.zero_le _⟩ (fun H locs hP hS => ?_)
  obtain ⟨J4, eJ4, hf⟩ := jn_e2 hf
  have hJ4 : ∀ (y2 : Int32) (σ3 : Mem) (H : Heap) (locs : List Loc) (ls : Array Slot), J4 y2 σ3 = some (r, σr) → va_P D vwCl (wsG 25 ad (EM ad cI) σ3) H → va_S (AG 25 ad s.heap.size) s.heap H locs → lv_has ls 3 [(0, .ref (ad 0)), (1, .int a0), (2, .int a1)] → W p l e R s m args below meth c H locs 0 0 Q (F0 m 30 ls [.int y2, .ref (ad 0)]) := by
    intro y2 σ3 H locs ls hf hP hS hl
    rw [eJ4] at hf
    obtain ⟨v5, σ6, hv, hf⟩ := bd2_e hf
    refine g_cViS (k0 := 0) ⟨⟨hx, hb, hml, hown, hB⟩, hK, hi, hA, hAd, hP, hS⟩ (c_X6_can hi hv) cal_X6_can kM_X6_110 ⟨Nat.le_trans (Nat.le_of_ble_eq_true rfl) hRf, Nat.le_trans (Nat.le_of_ble_eq_true rfl) hRl⟩ (by decide) rfl rfl rfl hl.1 (Nat.le_of_ble_eq_true rfl) rfl dX6_heard_30 ⟨Nat.zero_le _, Nat.zero_le _⟩ (fun H locs hP hS => ?_)
    refine lv_if_eq (tgt := 50) hx hb dX6_heard_33 (by decide) (fun q7 => ?_) (fun q7 => ?_)
    · rw [if_pos q7] at hf
      refine lv_iconst (v := 0) hx hb dX6_heard_50 (by decide) ?_
      obtain ⟨h1, h2⟩ := rt2 hf
      rw [hQ]
      exact g_iret hx hb hr hlocks hP hS h1 h2 dX6_heard_51
    · rw [if_neg q7] at hf
      refine lv_aload_n hx hb dX6_heard_36 rfl (lv_at hl 0 rfl) ?_
      refine g_get (v := .ref (ad 13)) hx hb hB hown hK hP 0 (by decide) rfl rfl kU_X6 13 (by decide) kF_X6_46 rfl rfl dX6_heard_37 ?_
      refine lv_bipush (v := 6) hx hb dX6_heard_40 (by decide) ?_
      refine lv_iload_n hx hb dX6_heard_42 rfl (lv_at hl 1 rfl) ?_
      refine lv_imul hx hb dX6_heard_43 ?_
      refine lv_iload_n hx hb dX6_heard_44 rfl (lv_at hl 2 rfl) ?_
      refine lv_iadd hx hb dX6_heard_45 ?_
      obtain ⟨hin, hf⟩ := gd_e hf
      refine g_iald hx hb hK hP 13 24 (by decide) rfl hin dX6_heard_46 ?_
      refine lv_goto (tgt := 51) hx hb dX6_heard_47 (by decide) ?_
      obtain ⟨h1, h2⟩ := rt2 hf
      rw [hQ]
      exact g_iret hx hb hr hlocks hP hS h1 h2 dX6_heard_51
  obtain ⟨J9, eJ9, hf⟩ := jn_e1 hf
  have hJ9 : ∀ (σ8 : Mem) (H : Heap) (locs : List Loc) (ls : Array Slot), J9 σ8 = some (r, σr) → va_P D vwCl (wsG 25 ad (EM ad cI) σ8) H → va_S (AG 25 ad s.heap.size) s.heap H locs → lv_has ls 3 [(0, .ref (ad 0)), (1, .int a0), (2, .int a1)] → W p l e R s m args below meth c H locs 0 0 Q (F0 m 29 ls [.ref (ad 0)]) := by
    intro σ8 H locs ls hf hP hS hl
    rw [eJ9] at hf
    refine lv_iconst (v := 1) hx hb dX6_heard_29 (by decide) ?_
    exact hJ4 1 σ8 _ _ ls hf hP hS (lv_sub hl [0, 1, 2] rfl)
  refine lv_if_eq (tgt := 29) hx hb dX6_heard_6 (by decide) (fun q10 => ?_) (fun q10 => ?_)
  · rw [if_pos q10] at hf
    exact hJ9 σ _ _ ls hf hP hS (lv_sub hl [0, 1, 2] rfl)
  · rw [if_neg q10] at hf
    refine lv_iload_n hx hb dX6_heard_9 rfl (lv_at hl 2 rfl) ?_
    refine lv_iconst (v := 0) hx hb dX6_heard_10 (by decide) ?_
    refine lv_aload_n hx hb dX6_heard_11 rfl (lv_at hl 0 rfl) ?_
    refine g_get (v := .ref (ad 12)) hx hb hB hown hK hP 0 (by decide) rfl rfl kU_X6 12 (by decide) kF_X6_43 rfl rfl dX6_heard_12 ?_
    refine lv_iload_n hx hb dX6_heard_15 rfl (lv_at hl 1 rfl) ?_
    obtain ⟨hin, hf⟩ := gd_e hf
    refine g_iald hx hb hK hP 12 4 (by decide) rfl hin dX6_heard_16 ?_
    refine lv_iconst (v := 1) hx hb dX6_heard_17 (by decide) ?_
    refine lv_isub hx hb dX6_heard_18 ?_
    obtain ⟨v11, hv, hf⟩ := bd_e hf
    refine g_cSi0 ⟨⟨hx, hb, hml, hown, hB⟩, hK, hi, hA, hAd, hP, hS⟩ (c_X6_isIn hv) cal_X6_isIn kM_X6_89 ⟨Nat.le_trans (Nat.le_of_ble_eq_true rfl) hRf, Nat.le_trans (Nat.le_of_ble_eq_true rfl) hRl⟩ rfl hl.1 (Nat.le_of_ble_eq_true rfl) rfl dX6_heard_19 ⟨Nat.zero_le _, Nat.zero_le _⟩ (fun H locs hP hS => ?_)
    refine lv_if_eq (tgt := 29) hx hb dX6_heard_22 (by decide) (fun q12 => ?_) (fun q12 => ?_)
    · rw [if_pos q12] at hf
      exact hJ9 σ _ _ ls hf hP hS (lv_sub hl [0, 1, 2] rfl)
    · rw [if_neg q12] at hf
      refine lv_iconst (v := 0) hx hb dX6_heard_25 (by decide) ?_
      refine lv_goto (tgt := 30) hx hb dX6_heard_26 (by decide) ?_
      exact hJ4 0 σ _ _ ls hf hP hS (lv_sub hl [0, 1, 2] rfl)
def f_X6_stageOf (σ : Mem) (a0 a1 : Int32) : Option (Int32 × Mem) :=
bd (f_X6_isPlayer σ a0) fun v1 =>
jn (fun (y2 : Int32) (σ3 : Mem) =>
bd2 (f_X6_can σ3 y2) fun v5 σ6 =>
if v5 = 0 then (
some (0, σ6))
else (
gd ((3 * a0) + a1) 12 <|
some ((σ6 19 ((3 * a0) + a1).toNatClampNeg), σ6))) fun (J4 : Int32 → Mem → Option (Int32 × Mem)) =>
jn (fun (σ8 : Mem) =>
J4 1 σ8) fun (J9 : Mem → Option (Int32 × Mem)) =>
if v1 = 0 then (
J9 σ)
else (
bd (f_X6_isQuest σ a1) fun v11 =>
if v11 = 0 then (
J9 σ)
else (
J4 0 σ))
set_option maxHeartbeats 4000000 in
set_option maxRecDepth 100000 in
theorem c_X6_stageOf {l : Launch} {D : va_G} {cI cJ : ClassId} {ad : Nat → Nat} {σ : Mem} {a0 a1 : Int32} {r : Int32} {σr : Mem}  (hi : injG 25 ad) (hf : f_X6_stageOf σ a0 a1 = some (r, σr)) : MGi l yX6_stageOf (Cond.code yX6_stageOf cX6_stageOf 3 (some .int) :: BIG) 2 43 D cI cJ 25 ad (EM ad cI) [.ref (ad 0), .int a0, .int a1] σ σr r := by
  refine MGi.ofW (cc := cX6_stageOf) (nL := 3) (ret := (some .int)) (by decide) rfl hi ?_
  intro p e s m args below meth c hx hb hr hml hlocks hown hB hK hP hA hAd hS
  have hown : s.vm.findClass RX6 = some m.cls := hown
  have hl := lv_entry ([.ref (ad 0), .int a0, .int a1] : List Value) (n := 3) (Nat.le_of_ble_eq_true rfl)
  rw [lg_entry_eq]
  generalize (lg_sl ([.ref (ad 0), .int a0, .int a1] : List Value) ++ List.replicate (3 - (lg_sl ([.ref (ad 0), .int a0, .int a1] : List Value)).length) Slot.unset).toArray = ls at hl ⊢
  have hl : lv_has ls 3 [(0, .ref (ad 0)), (1, .int a0), (2, .int a1)] := hl
  generalize hQ : MQ below (Qgi D 25 ad (EM ad cI) r σr s.heap.size) _ s 0 0 (AG 25 ad s.heap.size) = Q
  have hQ := hQ.symm
  obtain ⟨R, hR, hRf, hRl⟩ : ∃ R : Room, R = ({ frames := 2, cells := 0, slots := 0, locals := 43 } : Room) ∧ 2 ≤ R.frames ∧ 43 ≤ R.locals := ⟨_, rfl, Nat.le_refl _, Nat.le_refl _⟩
  rw [← hR]
  unfold f_X6_stageOf at hf
  refine lv_aload_n hx hb dX6_stageOf_0 rfl (lv_at hl 0 rfl) ?_
  refine lv_aload_n hx hb dX6_stageOf_1 rfl (lv_at hl 0 rfl) ?_
  refine lv_iload_n hx hb dX6_stageOf_2 rfl (lv_at hl 1 rfl) ?_
  obtain ⟨v1, hv, hf⟩ := bd_e hf
  refine g_cViS (k0 := 0) ⟨⟨hx, hb, hml, hown, hB⟩, hK, hi, hA, hAd, hP, hS⟩ (c_X6_isPlayer hi hv) cal_X6_isPlayer kM_X6_146 ⟨Nat.le_trans (Nat.le_of_ble_eq_true rfl) hRf, Nat.le_trans (Nat.le_of_ble_eq_true rfl) hRl⟩ (by decide) rfl rfl rfl hl.1 (Nat.le_of_ble_eq_true rfl) rfl dX6_stageOf_3 ⟨Nat.zero_le _, Nat.zero_le _⟩ (fun H locs hP hS => ?_)
  obtain ⟨J4, eJ4, hf⟩ := jn_e2 hf
  have hJ4 : ∀ (y2 : Int32) (σ3 : Mem) (H : Heap) (locs : List Loc) (ls : Array Slot), J4 y2 σ3 = some (r, σr) → va_P D vwCl (wsG 25 ad (EM ad cI) σ3) H → va_S (AG 25 ad s.heap.size) s.heap H locs → lv_has ls 3 [(0, .ref (ad 0)), (1, .int a0), (2, .int a1)] → W p l e R s m args below meth c H locs 0 0 Q (F0 m 22 ls [.int y2, .ref (ad 0)]) := by
    intro y2 σ3 H locs ls hf hP hS hl
    rw [eJ4] at hf
    obtain ⟨v5, σ6, hv, hf⟩ := bd2_e hf
    refine g_cViS (k0 := 0) ⟨⟨hx, hb, hml, hown, hB⟩, hK, hi, hA, hAd, hP, hS⟩ (c_X6_can hi hv) cal_X6_can kM_X6_110 ⟨Nat.le_trans (Nat.le_of_ble_eq_true rfl) hRf, Nat.le_trans (Nat.le_of_ble_eq_true rfl) hRl⟩ (by decide) rfl rfl rfl hl.1 (Nat.le_of_ble_eq_true rfl) rfl dX6_stageOf_22 ⟨Nat.zero_le _, Nat.zero_le _⟩ (fun H locs hP hS => ?_)
    refine lv_if_eq (tgt := 41) hx hb dX6_stageOf_25 (by decide) (fun q7 => ?_) (fun q7 => ?_)
    · rw [if_pos q7] at hf
      refine lv_iconst (v := 0) hx hb dX6_stageOf_41 (by decide) ?_
      obtain ⟨h1, h2⟩ := rt2 hf
      rw [hQ]
      exact g_iret hx hb hr hlocks hP hS h1 h2 dX6_stageOf_42
    · rw [if_neg q7] at hf
      refine lv_aload_n hx hb dX6_stageOf_28 rfl (lv_at hl 0 rfl) ?_
      refine g_get (v := .ref (ad 19)) hx hb hB hown hK hP 0 (by decide) rfl rfl kU_X6 22 (by decide) kF_X6_64 rfl rfl dX6_stageOf_29 ?_
      refine lv_iconst (v := 3) hx hb dX6_stageOf_32 (by decide) ?_
      refine lv_iload_n hx hb dX6_stageOf_33 rfl (lv_at hl 1 rfl) ?_
      refine lv_imul hx hb dX6_stageOf_34 ?_
      refine lv_iload_n hx hb dX6_stageOf_35 rfl (lv_at hl 2 rfl) ?_
      refine lv_iadd hx hb dX6_stageOf_36 ?_
      obtain ⟨hin, hf⟩ := gd_e hf
      refine g_iald hx hb hK hP 19 12 (by decide) rfl hin dX6_stageOf_37 ?_
      refine lv_goto (tgt := 42) hx hb dX6_stageOf_38 (by decide) ?_
      obtain ⟨h1, h2⟩ := rt2 hf
      rw [hQ]
      exact g_iret hx hb hr hlocks hP hS h1 h2 dX6_stageOf_42
  obtain ⟨J9, eJ9, hf⟩ := jn_e1 hf
  have hJ9 : ∀ (σ8 : Mem) (H : Heap) (locs : List Loc) (ls : Array Slot), J9 σ8 = some (r, σr) → va_P D vwCl (wsG 25 ad (EM ad cI) σ8) H → va_S (AG 25 ad s.heap.size) s.heap H locs → lv_has ls 3 [(0, .ref (ad 0)), (1, .int a0), (2, .int a1)] → W p l e R s m args below meth c H locs 0 0 Q (F0 m 21 ls [.ref (ad 0)]) := by
    intro σ8 H locs ls hf hP hS hl
    rw [eJ9] at hf
    refine lv_iconst (v := 1) hx hb dX6_stageOf_21 (by decide) ?_
    exact hJ4 1 σ8 _ _ ls hf hP hS (lv_sub hl [0, 1, 2] rfl)
  refine lv_if_eq (tgt := 21) hx hb dX6_stageOf_6 (by decide) (fun q10 => ?_) (fun q10 => ?_)
  · rw [if_pos q10] at hf
    exact hJ9 σ _ _ ls hf hP hS (lv_sub hl [0, 1, 2] rfl)
  · rw [if_neg q10] at hf
    refine lv_aload_n hx hb dX6_stageOf_9 rfl (lv_at hl 0 rfl) ?_
    refine lv_iload_n hx hb dX6_stageOf_10 rfl (lv_at hl 2 rfl) ?_
    obtain ⟨v11, hv, hf⟩ := bd_e hf
    refine g_cViS (k0 := 0) ⟨⟨hx, hb, hml, hown, hB⟩, hK, hi, hA, hAd, hP, hS⟩ (c_X6_isQuest hi hv) cal_X6_isQuest kM_X6_119 ⟨Nat.le_trans (Nat.le_of_ble_eq_true rfl) hRf, Nat.le_trans (Nat.le_of_ble_eq_true rfl) hRl⟩ (by decide) rfl rfl rfl hl.1 (Nat.le_of_ble_eq_true rfl) rfl dX6_stageOf_11 ⟨Nat.zero_le _, Nat.zero_le _⟩ (fun H locs hP hS => ?_)
    refine lv_if_eq (tgt := 21) hx hb dX6_stageOf_14 (by decide) (fun q12 => ?_) (fun q12 => ?_)
    · rw [if_pos q12] at hf
      exact hJ9 σ _ _ ls hf hP hS (lv_sub hl [0, 1, 2] rfl)
    · rw [if_neg q12] at hf
      refine lv_iconst (v := 0) hx hb dX6_stageOf_17 (by decide) ?_
      refine lv_goto (tgt := 22) hx hb dX6_stageOf_18 (by decide) ?_
      exact hJ4 0 σ _ _ ls hf hP hS (lv_sub hl [0, 1, 2] rfl)
def f_X6_exit (σ : Mem) (a0 a1 : Int32) : Option (Int32 × Mem) :=
bd (f_X6_isRoom a0) fun v1 =>
jn (fun (y2 : Int32) (σ3 : Mem) =>
bd2 (f_X6_can σ3 y2) fun v5 σ6 =>
if v5 = 0 then (
some (0, σ6))
else (
gd ((4 * a0) + a1) 32 <|
some ((σ6 1 ((4 * a0) + a1).toNatClampNeg), σ6))) fun (J4 : Int32 → Mem → Option (Int32 × Mem)) =>
jn (fun (σ8 : Mem) =>
J4 1 σ8) fun (J9 : Mem → Option (Int32 × Mem)) =>
if v1 = 0 then (
J9 σ)
else (
bd (f_X6_isIn a1 0 3) fun v11 =>
if v11 = 0 then (
J9 σ)
else (
J4 0 σ))
set_option maxHeartbeats 4000000 in
set_option maxRecDepth 100000 in
theorem c_X6_exit {l : Launch} {D : va_G} {cI cJ : ClassId} {ad : Nat → Nat} {σ : Mem} {a0 a1 : Int32} {r : Int32} {σr : Mem}  (hi : injG 25 ad) (hf : f_X6_exit σ a0 a1 = some (r, σr)) : MGi l yX6_exit (Cond.code yX6_exit cX6_exit 3 (some .int) :: BIG) 2 42 D cI cJ 25 ad (EM ad cI) [.ref (ad 0), .int a0, .int a1] σ σr r := by
  refine MGi.ofW (cc := cX6_exit) (nL := 3) (ret := (some .int)) (by decide) rfl hi ?_
  intro p e s m args below meth c hx hb hr hml hlocks hown hB hK hP hA hAd hS
  have hown : s.vm.findClass RX6 = some m.cls := hown
  have hl := lv_entry ([.ref (ad 0), .int a0, .int a1] : List Value) (n := 3) (Nat.le_of_ble_eq_true rfl)
  rw [lg_entry_eq]
  generalize (lg_sl ([.ref (ad 0), .int a0, .int a1] : List Value) ++ List.replicate (3 - (lg_sl ([.ref (ad 0), .int a0, .int a1] : List Value)).length) Slot.unset).toArray = ls at hl ⊢
  have hl : lv_has ls 3 [(0, .ref (ad 0)), (1, .int a0), (2, .int a1)] := hl
  generalize hQ : MQ below (Qgi D 25 ad (EM ad cI) r σr s.heap.size) _ s 0 0 (AG 25 ad s.heap.size) = Q
  have hQ := hQ.symm
  obtain ⟨R, hR, hRf, hRl⟩ : ∃ R : Room, R = ({ frames := 2, cells := 0, slots := 0, locals := 42 } : Room) ∧ 2 ≤ R.frames ∧ 42 ≤ R.locals := ⟨_, rfl, Nat.le_refl _, Nat.le_refl _⟩
  rw [← hR]
  unfold f_X6_exit at hf
  refine lv_aload_n hx hb dX6_exit_0 rfl (lv_at hl 0 rfl) ?_
  refine lv_iload_n hx hb dX6_exit_1 rfl (lv_at hl 1 rfl) ?_
  obtain ⟨v1, hv, hf⟩ := bd_e hf
  refine g_cSi0 ⟨⟨hx, hb, hml, hown, hB⟩, hK, hi, hA, hAd, hP, hS⟩ (c_X6_isRoom hv) cal_X6_isRoom kM_X6_106 ⟨Nat.le_trans (Nat.le_of_ble_eq_true rfl) hRf, Nat.le_trans (Nat.le_of_ble_eq_true rfl) hRl⟩ rfl hl.1 (Nat.le_of_ble_eq_true rfl) rfl dX6_exit_2 ⟨Nat.zero_le _, Nat.zero_le _⟩ (fun H locs hP hS => ?_)
  obtain ⟨J4, eJ4, hf⟩ := jn_e2 hf
  have hJ4 : ∀ (y2 : Int32) (σ3 : Mem) (H : Heap) (locs : List Loc) (ls : Array Slot), J4 y2 σ3 = some (r, σr) → va_P D vwCl (wsG 25 ad (EM ad cI) σ3) H → va_S (AG 25 ad s.heap.size) s.heap H locs → lv_has ls 3 [(0, .ref (ad 0)), (1, .int a0), (2, .int a1)] → W p l e R s m args below meth c H locs 0 0 Q (F0 m 22 ls [.int y2, .ref (ad 0)]) := by
    intro y2 σ3 H locs ls hf hP hS hl
    rw [eJ4] at hf
    obtain ⟨v5, σ6, hv, hf⟩ := bd2_e hf
    refine g_cViS (k0 := 0) ⟨⟨hx, hb, hml, hown, hB⟩, hK, hi, hA, hAd, hP, hS⟩ (c_X6_can hi hv) cal_X6_can kM_X6_110 ⟨Nat.le_trans (Nat.le_of_ble_eq_true rfl) hRf, Nat.le_trans (Nat.le_of_ble_eq_true rfl) hRl⟩ (by decide) rfl rfl rfl hl.1 (Nat.le_of_ble_eq_true rfl) rfl dX6_exit_22 ⟨Nat.zero_le _, Nat.zero_le _⟩ (fun H locs hP hS => ?_)
    refine lv_if_eq (tgt := 41) hx hb dX6_exit_25 (by decide) (fun q7 => ?_) (fun q7 => ?_)
    · rw [if_pos q7] at hf
      refine lv_iconst (v := 0) hx hb dX6_exit_41 (by decide) ?_
      obtain ⟨h1, h2⟩ := rt2 hf
      rw [hQ]
      exact g_iret hx hb hr hlocks hP hS h1 h2 dX6_exit_42
    · rw [if_neg q7] at hf
      refine lv_aload_n hx hb dX6_exit_28 rfl (lv_at hl 0 rfl) ?_
      refine g_get (v := .ref (ad 1)) hx hb hB hown hK hP 0 (by decide) rfl rfl kU_X6 0 (by decide) kF_X6_7 rfl rfl dX6_exit_29 ?_
      refine lv_iconst (v := 4) hx hb dX6_exit_32 (by decide) ?_
      refine lv_iload_n hx hb dX6_exit_33 rfl (lv_at hl 1 rfl) ?_
      refine lv_imul hx hb dX6_exit_34 ?_
      refine lv_iload_n hx hb dX6_exit_35 rfl (lv_at hl 2 rfl) ?_
      refine lv_iadd hx hb dX6_exit_36 ?_
      obtain ⟨hin, hf⟩ := gd_e hf
      refine g_iald hx hb hK hP 1 32 (by decide) rfl hin dX6_exit_37 ?_
      refine lv_goto (tgt := 42) hx hb dX6_exit_38 (by decide) ?_
      obtain ⟨h1, h2⟩ := rt2 hf
      rw [hQ]
      exact g_iret hx hb hr hlocks hP hS h1 h2 dX6_exit_42
  obtain ⟨J9, eJ9, hf⟩ := jn_e1 hf
  have hJ9 : ∀ (σ8 : Mem) (H : Heap) (locs : List Loc) (ls : Array Slot), J9 σ8 = some (r, σr) → va_P D vwCl (wsG 25 ad (EM ad cI) σ8) H → va_S (AG 25 ad s.heap.size) s.heap H locs → lv_has ls 3 [(0, .ref (ad 0)), (1, .int a0), (2, .int a1)] → W p l e R s m args below meth c H locs 0 0 Q (F0 m 21 ls [.ref (ad 0)]) := by
    intro σ8 H locs ls hf hP hS hl
    rw [eJ9] at hf
    refine lv_iconst (v := 1) hx hb dX6_exit_21 (by decide) ?_
    exact hJ4 1 σ8 _ _ ls hf hP hS (lv_sub hl [0, 1, 2] rfl)
  refine lv_if_eq (tgt := 21) hx hb dX6_exit_5 (by decide) (fun q10 => ?_) (fun q10 => ?_)
  · rw [if_pos q10] at hf
    exact hJ9 σ _ _ ls hf hP hS (lv_sub hl [0, 1, 2] rfl)
  · rw [if_neg q10] at hf
    refine lv_iload_n hx hb dX6_exit_8 rfl (lv_at hl 2 rfl) ?_
    refine lv_iconst (v := 0) hx hb dX6_exit_9 (by decide) ?_
    refine lv_iconst (v := 3) hx hb dX6_exit_10 (by decide) ?_
    obtain ⟨v11, hv, hf⟩ := bd_e hf
    refine g_cSi0 ⟨⟨hx, hb, hml, hown, hB⟩, hK, hi, hA, hAd, hP, hS⟩ (c_X6_isIn hv) cal_X6_isIn kM_X6_89 ⟨Nat.le_trans (Nat.le_of_ble_eq_true rfl) hRf, Nat.le_trans (Nat.le_of_ble_eq_true rfl) hRl⟩ rfl hl.1 (Nat.le_of_ble_eq_true rfl) rfl dX6_exit_11 ⟨Nat.zero_le _, Nat.zero_le _⟩ (fun H locs hP hS => ?_)
    refine lv_if_eq (tgt := 21) hx hb dX6_exit_14 (by decide) (fun q12 => ?_) (fun q12 => ?_)
    · rw [if_pos q12] at hf
      exact hJ9 σ _ _ ls hf hP hS (lv_sub hl [0, 1, 2] rfl)
    · rw [if_neg q12] at hf
      refine lv_iconst (v := 0) hx hb dX6_exit_17 (by decide) ?_
      refine lv_goto (tgt := 22) hx hb dX6_exit_18 (by decide) ?_
      exact hJ4 0 σ _ _ ls hf hP hS (lv_sub hl [0, 1, 2] rfl)
def L_X6_distance_69 : Nat → (Mem → Option (Int32 × Mem)) → Int32 → Int32 → Int32 → Mem → Option (Int32 × Mem)
  | 0, _, _, _, _, _ => none
  | n + 1, k, x20, x21, x22, σ23 =>
    if 32 ≤ x22 then (
    k σ23)
    else (
    gd x22 32 <|
    jn (fun (σ27 : Mem) =>
    L_X6_distance_69 n k x20 x21 (x22 + 1) σ27) fun (J28 : Mem → Option (Int32 × Mem)) =>
    if (σ23 1 x22.toNatClampNeg) = (-1) then (
    J28 σ23)
    else (
    gd (x22 / 4) 8 <|
    if (σ23 24 (x22 / 4).toNatClampNeg) = x21 then (
    gd x22 32 <|
    gd (σ23 1 x22.toNatClampNeg) 8 <|
    if (σ23 24 (σ23 1 x22.toNatClampNeg).toNatClampNeg) = (-1) then (
    gd x22 32 <|
    gd (σ23 1 x22.toNatClampNeg) 8 <| stp (mu σ23 24 (σ23 1 x22.toNatClampNeg).toNatClampNeg (x21 + 1)) fun σ32 =>
    L_X6_distance_69 n k x20 x21 (x22 + 1) σ32)
    else (
    J28 σ23))
    else (
    J28 σ23)))
def L_X6_distance_60 : Nat → (Mem → Option (Int32 × Mem)) → Int32 → Int32 → Mem → Option (Int32 × Mem)
  | 0, _, _, _, _ => none
  | n + 1, k, x14, x15, σ16 =>
    if 8 ≤ x15 then (
    k σ16)
    else (
    L_X6_distance_69 FU (fun (σ25 : Mem) =>
    L_X6_distance_60 n k x14 (x15 + 1) σ25) x14 x15 0 σ16)
def L_X6_distance_30 : Nat → (Mem → Option (Int32 × Mem)) → Int32 → Int32 → Int32 → Mem → Option (Int32 × Mem)
  | 0, _, _, _, _, _ => none
  | n + 1, k, x8, x9, x10, σ11 =>
    if 8 ≤ x10 then (
    k σ11)
    else (
    jn (fun (y36 : Int32) (y34 : Int32) (σ35 : Mem) =>
    gd y36 8 <| stp (mu σ35 24 y36.toNatClampNeg y34) fun σ38 =>
    L_X6_distance_30 n k x8 x9 (x10 + 1) σ38) fun (J37 : Int32 → Int32 → Mem → Option (Int32 × Mem)) =>
    if x10 = x8 then (
    J37 x10 0 σ11)
    else (
    J37 x10 (-1) σ11))
def f_X6_distance (σ : Mem) (a0 a1 : Int32) : Option (Int32 × Mem) :=
bd (f_X6_isRoom a0) fun v1 =>
jn (fun (y2 : Int32) (σ3 : Mem) =>
bd2 (f_X6_can σ3 y2) fun v5 σ6 =>
if v5 = 0 then (
some (0, σ6))
else (
L_X6_distance_30 FU (fun (σ13 : Mem) =>
L_X6_distance_60 FU (fun (σ18 : Mem) =>
gd a1 8 <|
some ((σ18 24 a1.toNatClampNeg), σ18)) a1 0 σ13) a0 a1 0 σ6)) fun (J4 : Int32 → Mem → Option (Int32 × Mem)) =>
jn (fun (σ40 : Mem) =>
J4 1 σ40) fun (J41 : Mem → Option (Int32 × Mem)) =>
if v1 = 0 then (
J41 σ)
else (
bd (f_X6_isRoom a1) fun v43 =>
if v43 = 0 then (
J41 σ)
else (
J4 0 σ))
set_option maxHeartbeats 4000000 in
set_option maxRecDepth 100000 in
theorem c_X6_distance {l : Launch} {D : va_G} {cI cJ : ClassId} {ad : Nat → Nat} {σ : Mem} {a0 a1 : Int32} {r : Int32} {σr : Mem}  (hi : injG 25 ad) (hf : f_X6_distance σ a0 a1 = some (r, σr)) : MGi l yX6_distance (Cond.code yX6_distance cX6_distance 5 (some .int) :: BIG) 2 42 D cI cJ 25 ad (EM ad cI) [.ref (ad 0), .int a0, .int a1] σ σr r := by
  refine MGi.ofW (cc := cX6_distance) (nL := 5) (ret := (some .int)) (by decide) rfl hi ?_
  intro p e s m args below meth c hx hb hr hml hlocks hown hB hK hP hA hAd hS
  have hown : s.vm.findClass RX6 = some m.cls := hown
  have hl := lv_entry ([.ref (ad 0), .int a0, .int a1] : List Value) (n := 5) (Nat.le_of_ble_eq_true rfl)
  rw [lg_entry_eq]
  generalize (lg_sl ([.ref (ad 0), .int a0, .int a1] : List Value) ++ List.replicate (5 - (lg_sl ([.ref (ad 0), .int a0, .int a1] : List Value)).length) Slot.unset).toArray = ls at hl ⊢
  have hl : lv_has ls 5 [(0, .ref (ad 0)), (1, .int a0), (2, .int a1)] := hl
  generalize hQ : MQ below (Qgi D 25 ad (EM ad cI) r σr s.heap.size) _ s 0 0 (AG 25 ad s.heap.size) = Q
  have hQ := hQ.symm
  obtain ⟨R, hR, hRf, hRl⟩ : ∃ R : Room, R = ({ frames := 2, cells := 0, slots := 0, locals := 42 } : Room) ∧ 2 ≤ R.frames ∧ 42 ≤ R.locals := ⟨_, rfl, Nat.le_refl _, Nat.le_refl _⟩
  rw [← hR]
  unfold f_X6_distance at hf
  refine lv_aload_n hx hb dX6_distance_0 rfl (lv_at hl 0 rfl) ?_
  refine lv_iload_n hx hb dX6_distance_1 rfl (lv_at hl 1 rfl) ?_
  obtain ⟨v1, hv, hf⟩ := bd_e hf
  refine g_cSi0 ⟨⟨hx, hb, hml, hown, hB⟩, hK, hi, hA, hAd, hP, hS⟩ (c_X6_isRoom hv) cal_X6_isRoom kM_X6_106 ⟨Nat.le_trans (Nat.le_of_ble_eq_true rfl) hRf, Nat.le_trans (Nat.le_of_ble_eq_true rfl) hRl⟩ rfl hl.1 (Nat.le_of_ble_eq_true rfl) rfl dX6_distance_2 ⟨Nat.zero_le _, Nat.zero_le _⟩ (fun H locs hP hS => ?_)
  obtain ⟨J4, eJ4, hf⟩ := jn_e2 hf
  have hJ4 : ∀ (y2 : Int32) (σ3 : Mem) (H : Heap) (locs : List Loc) (ls : Array Slot), J4 y2 σ3 = some (r, σr) → va_P D vwCl (wsG 25 ad (EM ad cI) σ3) H → va_S (AG 25 ad s.heap.size) s.heap H locs → lv_has ls 5 [(0, .ref (ad 0)), (1, .int a0), (2, .int a1)] → W p l e R s m args below meth c H locs 0 0 Q (F0 m 20 ls [.int y2, .ref (ad 0)]) := by
    intro y2 σ3 H locs ls hf hP hS hl
    rw [eJ4] at hf
    obtain ⟨v5, σ6, hv, hf⟩ := bd2_e hf
    refine g_cViS (k0 := 0) ⟨⟨hx, hb, hml, hown, hB⟩, hK, hi, hA, hAd, hP, hS⟩ (c_X6_can hi hv) cal_X6_can kM_X6_110 ⟨Nat.le_trans (Nat.le_of_ble_eq_true rfl) hRf, Nat.le_trans (Nat.le_of_ble_eq_true rfl) hRl⟩ (by decide) rfl rfl rfl hl.1 (Nat.le_of_ble_eq_true rfl) rfl dX6_distance_20 ⟨Nat.zero_le _, Nat.zero_le _⟩ (fun H locs hP hS => ?_)
    refine lv_if_ne (tgt := 28) hx hb dX6_distance_23 (by decide) (fun q7 => ?_) (fun q7 => ?_)
    · rw [if_neg q7] at hf
      refine lv_iconst (v := 0) hx hb dX6_distance_28 (by decide) ?_
      refine lv_istore_n (lv' := [(3, .int 0), (0, .ref (ad 0)), (1, .int a0), (2, .int a1)]) hx hb dX6_distance_29 rfl hl (by decide) rfl (fun ls hl => ?_)
      obtain ⟨K12, eK12, hf⟩ := lp_e1 (b := fun K => L_X6_distance_30 FU K a0 a1 0 σ6) hf
      replace hf : L_X6_distance_30 FU K12 a0 a1 0 σ6 = some (r, σr) := hf
      have hKK12 : ∀ (σ13 : Mem) (H : Heap) (locs : List Loc) (ls : Array Slot), K12 σ13 = some (r, σr) → va_P D vwCl (wsG 25 ad (EM ad cI) σ13) H → va_S (AG 25 ad s.heap.size) s.heap H locs → lv_has ls 5 [(0, .ref (ad 0)), (2, .int a1)] → W p l e R s m args below meth c H locs 0 0 Q (F0 m 58 ls []) := by
        intro σ13 H locs ls hf hP hS hl
        rw [eK12] at hf
        refine lv_iconst (v := 0) hx hb dX6_distance_58 (by decide) ?_
        refine lv_istore_n (lv' := [(3, .int 0), (0, .ref (ad 0)), (2, .int a1)]) hx hb dX6_distance_59 rfl hl (by decide) rfl (fun ls hl => ?_)
        obtain ⟨K17, eK17, hf⟩ := lp_e1 (b := fun K => L_X6_distance_60 FU K a1 0 σ13) hf
        replace hf : L_X6_distance_60 FU K17 a1 0 σ13 = some (r, σr) := hf
        have hKK17 : ∀ (σ18 : Mem) (H : Heap) (locs : List Loc) (ls : Array Slot), K17 σ18 = some (r, σr) → va_P D vwCl (wsG 25 ad (EM ad cI) σ18) H → va_S (AG 25 ad s.heap.size) s.heap H locs → lv_has ls 5 [(0, .ref (ad 0)), (2, .int a1)] → W p l e R s m args below meth c H locs 0 0 Q (F0 m 143 ls []) := by
          intro σ18 H locs ls hf hP hS hl
          rw [eK17] at hf
          refine lv_aload_n hx hb dX6_distance_143 rfl (lv_at hl 0 rfl) ?_
          refine g_get (v := .ref (ad 24)) hx hb hB hown hK hP 0 (by decide) rfl rfl kU_X6 28 (by decide) kF_X6_79 rfl rfl dX6_distance_144 ?_
          refine lv_iload_n hx hb dX6_distance_147 rfl (lv_at hl 1 rfl) ?_
          obtain ⟨hin, hf⟩ := gd_e hf
          refine g_iald hx hb hK hP 24 8 (by decide) rfl hin dX6_distance_148 ?_
          obtain ⟨h1, h2⟩ := rt2 hf
          rw [hQ]
          exact g_iret hx hb hr hlocks hP hS h1 h2 dX6_distance_149
        have hL_X6_distance_60 : ∀ (n : Nat) (x15 : Int32) (σ16 : Mem) (H : Heap) (locs : List Loc) (ls : Array Slot), L_X6_distance_60 n K17 a1 x15 σ16 = some (r, σr) → va_P D vwCl (wsG 25 ad (EM ad cI) σ16) H → va_S (AG 25 ad s.heap.size) s.heap H locs → lv_has ls 5 [(0, .ref (ad 0)), (2, .int a1), (3, .int x15)] → W p l e R s m args below meth c H locs 0 0 Q (F0 m 60 ls []) := by
          intro n
          induction n with
          | zero => intro x15 σ16 H locs ls hf; cases hf
          | succ n ih =>
            intro x15 σ16 H locs ls hf hP hS hl
            rw [L_X6_distance_60] at hf
            refine lv_iload_n hx hb dX6_distance_60 rfl (lv_at hl 2 rfl) ?_
            refine lv_bipush (v := 8) hx hb dX6_distance_61 (by decide) ?_
            refine lv_icmp_ge (tgt := 143) hx hb dX6_distance_63 (by decide) (fun q19 => ?_) (fun q19 => ?_)
            · rw [if_pos q19] at hf
              exact hKK17 σ16 _ _ ls hf hP hS (lv_sub hl [0, 1] rfl)
            · rw [if_neg q19] at hf
              refine lv_iconst (v := 0) hx hb dX6_distance_66 (by decide) ?_
              refine lv_istore (lv' := [(4, .int 0), (0, .ref (ad 0)), (2, .int a1), (3, .int x15)]) hx hb dX6_distance_67 hl (by decide) rfl (fun ls hl => ?_)
              obtain ⟨K24, eK24, hf⟩ := lp_e1 (b := fun K => L_X6_distance_69 FU K a1 x15 0 σ16) hf
              replace hf : L_X6_distance_69 FU K24 a1 x15 0 σ16 = some (r, σr) := hf
              have hKK24 : ∀ (σ25 : Mem) (H : Heap) (locs : List Loc) (ls : Array Slot), K24 σ25 = some (r, σr) → va_P D vwCl (wsG 25 ad (EM ad cI) σ25) H → va_S (AG 25 ad s.heap.size) s.heap H locs → lv_has ls 5 [(0, .ref (ad 0)), (2, .int a1), (3, .int x15)] → W p l e R s m args below meth c H locs 0 0 Q (F0 m 137 ls []) := by
                intro σ25 H locs ls hf hP hS hl
                rw [eK24] at hf
                refine lv_iinc (v := (x15 + 1)) (lv' := [(3, .int (x15 + 1)), (0, .ref (ad 0)), (2, .int a1)]) hx hb dX6_distance_137 hl (k := 2) rfl rfl (by decide) rfl (fun ls hl => ?_)
                refine lv_goto (tgt := 60) hx hb dX6_distance_140 (by decide) ?_
                exact ih (x15 + 1) σ25 _ _ ls hf hP hS (lv_sub hl [1, 2, 0] rfl)
              have hL_X6_distance_69 : ∀ (n : Nat) (x22 : Int32) (σ23 : Mem) (H : Heap) (locs : List Loc) (ls : Array Slot), L_X6_distance_69 n K24 a1 x15 x22 σ23 = some (r, σr) → va_P D vwCl (wsG 25 ad (EM ad cI) σ23) H → va_S (AG 25 ad s.heap.size) s.heap H locs → lv_has ls 5 [(0, .ref (ad 0)), (2, .int a1), (3, .int x15), (4, .int x22)] → W p l e R s m args below meth c H locs 0 0 Q (F0 m 69 ls []) := by
                intro n
                induction n with
                | zero => intro x22 σ23 H locs ls hf; cases hf
                | succ n ih =>
                  intro x22 σ23 H locs ls hf hP hS hl
                  rw [L_X6_distance_69] at hf
                  refine lv_iload hx hb dX6_distance_69 (lv_at hl 3 rfl) ?_
                  refine lv_bipush (v := 32) hx hb dX6_distance_71 (by decide) ?_
                  refine lv_icmp_ge (tgt := 137) hx hb dX6_distance_73 (by decide) (fun q26 => ?_) (fun q26 => ?_)
                  · rw [if_pos q26] at hf
                    exact hKK24 σ23 _ _ ls hf hP hS (lv_sub hl [0, 1, 2] rfl)
                  · rw [if_neg q26] at hf
                    refine lv_aload_n hx hb dX6_distance_76 rfl (lv_at hl 0 rfl) ?_
                    refine g_get (v := .ref (ad 1)) hx hb hB hown hK hP 0 (by decide) rfl rfl kU_X6 0 (by decide) kF_X6_7 rfl rfl dX6_distance_77 ?_
                    refine lv_iload hx hb dX6_distance_80 (lv_at hl 3 rfl) ?_
                    obtain ⟨hin, hf⟩ := gd_e hf
                    refine g_iald hx hb hK hP 1 32 (by decide) rfl hin dX6_distance_82 ?_
                    refine lv_iconst (v := (-1)) hx hb dX6_distance_83 (by decide) ?_
                    obtain ⟨J28, eJ28, hf⟩ := jn_e1 hf
                    have hJ28 : ∀ (σ27 : Mem) (H : Heap) (locs : List Loc) (ls : Array Slot), J28 σ27 = some (r, σr) → va_P D vwCl (wsG 25 ad (EM ad cI) σ27) H → va_S (AG 25 ad s.heap.size) s.heap H locs → lv_has ls 5 [(0, .ref (ad 0)), (2, .int a1), (3, .int x15), (4, .int x22)] → W p l e R s m args below meth c H locs 0 0 Q (F0 m 131 ls []) := by
                      intro σ27 H locs ls hf hP hS hl
                      rw [eJ28] at hf
                      refine lv_iinc (v := (x22 + 1)) (lv' := [(4, .int (x22 + 1)), (0, .ref (ad 0)), (2, .int a1), (3, .int x15)]) hx hb dX6_distance_131 hl (k := 3) rfl rfl (by decide) rfl (fun ls hl => ?_)
                      refine lv_goto (tgt := 69) hx hb dX6_distance_134 (by decide) ?_
                      exact ih (x22 + 1) σ27 _ _ ls hf hP hS (lv_sub hl [1, 2, 3, 0] rfl)
                    refine lv_icmp_eq (tgt := 131) hx hb dX6_distance_84 (by decide) (fun q29 => ?_) (fun q29 => ?_)
                    · rw [if_pos q29] at hf
                      exact hJ28 σ23 _ _ ls hf hP hS (lv_sub hl [0, 1, 2, 3] rfl)
                    · rw [if_neg q29] at hf
                      refine lv_aload_n hx hb dX6_distance_87 rfl (lv_at hl 0 rfl) ?_
                      refine g_get (v := .ref (ad 24)) hx hb hB hown hK hP 0 (by decide) rfl rfl kU_X6 28 (by decide) kF_X6_79 rfl rfl dX6_distance_88 ?_
                      refine lv_iload hx hb dX6_distance_91 (lv_at hl 3 rfl) ?_
                      refine lv_iconst (v := 4) hx hb dX6_distance_93 (by decide) ?_
                      refine lv_idiv hx hb dX6_distance_94 (by decide) ?_
                      obtain ⟨hin, hf⟩ := gd_e hf
                      refine g_iald hx hb hK hP 24 8 (by decide) rfl hin dX6_distance_95 ?_
                      refine lv_iload_n hx hb dX6_distance_96 rfl (lv_at hl 2 rfl) ?_
                      refine lv_icmp_ne (tgt := 131) hx hb dX6_distance_97 (by decide) (fun q30 => ?_) (fun q30 => ?_)
                      · rw [if_neg q30] at hf
                        exact hJ28 σ23 _ _ ls hf hP hS (lv_sub hl [0, 1, 2, 3] rfl)
                      · rw [if_pos q30] at hf
                        refine lv_aload_n hx hb dX6_distance_100 rfl (lv_at hl 0 rfl) ?_
                        refine g_get (v := .ref (ad 24)) hx hb hB hown hK hP 0 (by decide) rfl rfl kU_X6 28 (by decide) kF_X6_79 rfl rfl dX6_distance_101 ?_
                        refine lv_aload_n hx hb dX6_distance_104 rfl (lv_at hl 0 rfl) ?_
                        refine g_get (v := .ref (ad 1)) hx hb hB hown hK hP 0 (by decide) rfl rfl kU_X6 0 (by decide) kF_X6_7 rfl rfl dX6_distance_105 ?_
                        refine lv_iload hx hb dX6_distance_108 (lv_at hl 3 rfl) ?_
                        obtain ⟨hin, hf⟩ := gd_e hf
                        refine g_iald hx hb hK hP 1 32 (by decide) rfl hin dX6_distance_110 ?_
                        obtain ⟨hin, hf⟩ := gd_e hf
                        refine g_iald hx hb hK hP 24 8 (by decide) rfl hin dX6_distance_111 ?_
                        refine lv_iconst (v := (-1)) hx hb dX6_distance_112 (by decide) ?_
                        refine lv_icmp_ne (tgt := 131) hx hb dX6_distance_113 (by decide) (fun q31 => ?_) (fun q31 => ?_)
                        · rw [if_neg q31] at hf
                          exact hJ28 σ23 _ _ ls hf hP hS (lv_sub hl [0, 1, 2, 3] rfl)
                        · rw [if_pos q31] at hf
                          refine lv_aload_n hx hb dX6_distance_116 rfl (lv_at hl 0 rfl) ?_
                          refine g_get (v := .ref (ad 24)) hx hb hB hown hK hP 0 (by decide) rfl rfl kU_X6 28 (by decide) kF_X6_79 rfl rfl dX6_distance_117 ?_
                          refine lv_aload_n hx hb dX6_distance_120 rfl (lv_at hl 0 rfl) ?_
                          refine g_get (v := .ref (ad 1)) hx hb hB hown hK hP 0 (by decide) rfl rfl kU_X6 0 (by decide) kF_X6_7 rfl rfl dX6_distance_121 ?_
                          refine lv_iload hx hb dX6_distance_124 (lv_at hl 3 rfl) ?_
                          obtain ⟨hin, hf⟩ := gd_e hf
                          refine g_iald hx hb hK hP 1 32 (by decide) rfl hin dX6_distance_126 ?_
                          refine lv_iload_n hx hb dX6_distance_127 rfl (lv_at hl 2 rfl) ?_
                          refine lv_iconst (v := 1) hx hb dX6_distance_128 (by decide) ?_
                          refine lv_iadd hx hb dX6_distance_129 ?_
                          obtain ⟨hin, hf⟩ := gd_e hf
                          obtain ⟨σ32, eσ32, hf⟩ := stp_e hf
                          refine g_iast (σ1 := σ32) hx hb hK hP hi hAd hS 24 8 (by decide) (fun _ => rfl) hin dX6_distance_130 eσ32 (fun H locs hP hS => ?_)
                          refine lv_iinc (v := (x22 + 1)) (lv' := [(4, .int (x22 + 1)), (0, .ref (ad 0)), (2, .int a1), (3, .int x15)]) hx hb dX6_distance_131 hl (k := 3) rfl rfl (by decide) rfl (fun ls hl => ?_)
                          refine lv_goto (tgt := 69) hx hb dX6_distance_134 (by decide) ?_
                          exact ih (x22 + 1) σ32 _ _ ls hf hP hS (lv_sub hl [1, 2, 3, 0] rfl)
              exact hL_X6_distance_69 FU 0 σ16 _ _ ls hf hP hS (lv_sub hl [1, 2, 3, 0] rfl)
        exact hL_X6_distance_60 FU 0 σ13 _ _ ls hf hP hS (lv_sub hl [1, 2, 0] rfl)
      have hL_X6_distance_30 : ∀ (n : Nat) (x10 : Int32) (σ11 : Mem) (H : Heap) (locs : List Loc) (ls : Array Slot), L_X6_distance_30 n K12 a0 a1 x10 σ11 = some (r, σr) → va_P D vwCl (wsG 25 ad (EM ad cI) σ11) H → va_S (AG 25 ad s.heap.size) s.heap H locs → lv_has ls 5 [(0, .ref (ad 0)), (1, .int a0), (2, .int a1), (3, .int x10)] → W p l e R s m args below meth c H locs 0 0 Q (F0 m 30 ls []) := by
        intro n
        induction n with
        | zero => intro x10 σ11 H locs ls hf; cases hf
        | succ n ih =>
          intro x10 σ11 H locs ls hf hP hS hl
          rw [L_X6_distance_30] at hf
          refine lv_iload_n hx hb dX6_distance_30 rfl (lv_at hl 3 rfl) ?_
          refine lv_bipush (v := 8) hx hb dX6_distance_31 (by decide) ?_
          refine lv_icmp_ge (tgt := 58) hx hb dX6_distance_33 (by decide) (fun q33 => ?_) (fun q33 => ?_)
          · rw [if_pos q33] at hf
            exact hKK12 σ11 _ _ ls hf hP hS (lv_sub hl [0, 2] rfl)
          · rw [if_neg q33] at hf
            refine lv_aload_n hx hb dX6_distance_36 rfl (lv_at hl 0 rfl) ?_
            refine g_get (v := .ref (ad 24)) hx hb hB hown hK hP 0 (by decide) rfl rfl kU_X6 28 (by decide) kF_X6_79 rfl rfl dX6_distance_37 ?_
            refine lv_iload_n hx hb dX6_distance_40 rfl (lv_at hl 3 rfl) ?_
            refine lv_iload_n hx hb dX6_distance_41 rfl (lv_at hl 3 rfl) ?_
            refine lv_iload_n hx hb dX6_distance_42 rfl (lv_at hl 1 rfl) ?_
            obtain ⟨J37, eJ37, hf⟩ := jn_e3 hf
            have hJ37 : ∀ (y36 : Int32) (y34 : Int32) (σ35 : Mem) (H : Heap) (locs : List Loc) (ls : Array Slot), J37 y36 y34 σ35 = some (r, σr) → va_P D vwCl (wsG 25 ad (EM ad cI) σ35) H → va_S (AG 25 ad s.heap.size) s.heap H locs → lv_has ls 5 [(0, .ref (ad 0)), (1, .int a0), (2, .int a1), (3, .int x10)] → W p l e R s m args below meth c H locs 0 0 Q (F0 m 51 ls [.int y34, .int y36, .ref (ad 24)]) := by
              intro y36 y34 σ35 H locs ls hf hP hS hl
              rw [eJ37] at hf
              obtain ⟨hin, hf⟩ := gd_e hf
              obtain ⟨σ38, eσ38, hf⟩ := stp_e hf
              refine g_iast (σ1 := σ38) hx hb hK hP hi hAd hS 24 8 (by decide) (fun _ => rfl) hin dX6_distance_51 eσ38 (fun H locs hP hS => ?_)
              refine lv_iinc (v := (x10 + 1)) (lv' := [(3, .int (x10 + 1)), (0, .ref (ad 0)), (1, .int a0), (2, .int a1)]) hx hb dX6_distance_52 hl (k := 3) rfl rfl (by decide) rfl (fun ls hl => ?_)
              refine lv_goto (tgt := 30) hx hb dX6_distance_55 (by decide) ?_
              exact ih (x10 + 1) σ38 _ _ ls hf hP hS (lv_sub hl [1, 2, 3, 0] rfl)
            refine lv_icmp_ne (tgt := 50) hx hb dX6_distance_43 (by decide) (fun q39 => ?_) (fun q39 => ?_)
            · rw [if_neg q39] at hf
              refine lv_iconst (v := (-1)) hx hb dX6_distance_50 (by decide) ?_
              exact hJ37 x10 (-1) σ11 _ _ ls hf hP hS (lv_sub hl [0, 1, 2, 3] rfl)
            · rw [if_pos q39] at hf
              refine lv_iconst (v := 0) hx hb dX6_distance_46 (by decide) ?_
              refine lv_goto (tgt := 51) hx hb dX6_distance_47 (by decide) ?_
              exact hJ37 x10 0 σ11 _ _ ls hf hP hS (lv_sub hl [0, 1, 2, 3] rfl)
      exact hL_X6_distance_30 FU 0 σ6 _ _ ls hf hP hS (lv_sub hl [1, 2, 3, 0] rfl)
    · rw [if_pos q7] at hf
      refine lv_iconst (v := 0) hx hb dX6_distance_26 (by decide) ?_
      obtain ⟨h1, h2⟩ := rt2 hf
      rw [hQ]
      exact g_iret hx hb hr hlocks hP hS h1 h2 dX6_distance_27
  obtain ⟨J41, eJ41, hf⟩ := jn_e1 hf
  have hJ41 : ∀ (σ40 : Mem) (H : Heap) (locs : List Loc) (ls : Array Slot), J41 σ40 = some (r, σr) → va_P D vwCl (wsG 25 ad (EM ad cI) σ40) H → va_S (AG 25 ad s.heap.size) s.heap H locs → lv_has ls 5 [(0, .ref (ad 0)), (1, .int a0), (2, .int a1)] → W p l e R s m args below meth c H locs 0 0 Q (F0 m 19 ls [.ref (ad 0)]) := by
    intro σ40 H locs ls hf hP hS hl
    rw [eJ41] at hf
    refine lv_iconst (v := 1) hx hb dX6_distance_19 (by decide) ?_
    exact hJ4 1 σ40 _ _ ls hf hP hS (lv_sub hl [0, 1, 2] rfl)
  refine lv_if_eq (tgt := 19) hx hb dX6_distance_5 (by decide) (fun q42 => ?_) (fun q42 => ?_)
  · rw [if_pos q42] at hf
    exact hJ41 σ _ _ ls hf hP hS (lv_sub hl [0, 1, 2] rfl)
  · rw [if_neg q42] at hf
    refine lv_iload_n hx hb dX6_distance_8 rfl (lv_at hl 2 rfl) ?_
    obtain ⟨v43, hv, hf⟩ := bd_e hf
    refine g_cSi0 ⟨⟨hx, hb, hml, hown, hB⟩, hK, hi, hA, hAd, hP, hS⟩ (c_X6_isRoom hv) cal_X6_isRoom kM_X6_106 ⟨Nat.le_trans (Nat.le_of_ble_eq_true rfl) hRf, Nat.le_trans (Nat.le_of_ble_eq_true rfl) hRl⟩ rfl hl.1 (Nat.le_of_ble_eq_true rfl) rfl dX6_distance_9 ⟨Nat.zero_le _, Nat.zero_le _⟩ (fun H locs hP hS => ?_)
    refine lv_if_eq (tgt := 19) hx hb dX6_distance_12 (by decide) (fun q44 => ?_) (fun q44 => ?_)
    · rw [if_pos q44] at hf
      exact hJ41 σ _ _ ls hf hP hS (lv_sub hl [0, 1, 2] rfl)
    · rw [if_neg q44] at hf
      refine lv_iconst (v := 0) hx hb dX6_distance_15 (by decide) ?_
      refine lv_goto (tgt := 20) hx hb dX6_distance_16 (by decide) ?_
      exact hJ4 0 σ _ _ ls hf hP hS (lv_sub hl [0, 1, 2] rfl)
def f_X6_onFloor (σ : Mem) (a0 a1 : Int32) : Option (Int32 × Mem) :=
bd (f_X6_isRoom a0) fun v1 =>
jn (fun (y2 : Int32) (σ3 : Mem) =>
bd2 (f_X6_can σ3 y2) fun v5 σ6 =>
if v5 = 0 then (
some (0, σ6))
else (
gd ((5 * a0) + a1) 40 <|
some ((σ6 2 ((5 * a0) + a1).toNatClampNeg), σ6))) fun (J4 : Int32 → Mem → Option (Int32 × Mem)) =>
jn (fun (σ8 : Mem) =>
J4 1 σ8) fun (J9 : Mem → Option (Int32 × Mem)) =>
if v1 = 0 then (
J9 σ)
else (
bd (f_X6_isKind a1) fun v11 =>
if v11 = 0 then (
J9 σ)
else (
J4 0 σ))
set_option maxHeartbeats 4000000 in
set_option maxRecDepth 100000 in
theorem c_X6_onFloor {l : Launch} {D : va_G} {cI cJ : ClassId} {ad : Nat → Nat} {σ : Mem} {a0 a1 : Int32} {r : Int32} {σr : Mem}  (hi : injG 25 ad) (hf : f_X6_onFloor σ a0 a1 = some (r, σr)) : MGi l yX6_onFloor (Cond.code yX6_onFloor cX6_onFloor 3 (some .int) :: BIG) 2 42 D cI cJ 25 ad (EM ad cI) [.ref (ad 0), .int a0, .int a1] σ σr r := by
  refine MGi.ofW (cc := cX6_onFloor) (nL := 3) (ret := (some .int)) (by decide) rfl hi ?_
  intro p e s m args below meth c hx hb hr hml hlocks hown hB hK hP hA hAd hS
  have hown : s.vm.findClass RX6 = some m.cls := hown
  have hl := lv_entry ([.ref (ad 0), .int a0, .int a1] : List Value) (n := 3) (Nat.le_of_ble_eq_true rfl)
  rw [lg_entry_eq]
  generalize (lg_sl ([.ref (ad 0), .int a0, .int a1] : List Value) ++ List.replicate (3 - (lg_sl ([.ref (ad 0), .int a0, .int a1] : List Value)).length) Slot.unset).toArray = ls at hl ⊢
  have hl : lv_has ls 3 [(0, .ref (ad 0)), (1, .int a0), (2, .int a1)] := hl
  generalize hQ : MQ below (Qgi D 25 ad (EM ad cI) r σr s.heap.size) _ s 0 0 (AG 25 ad s.heap.size) = Q
  have hQ := hQ.symm
  obtain ⟨R, hR, hRf, hRl⟩ : ∃ R : Room, R = ({ frames := 2, cells := 0, slots := 0, locals := 42 } : Room) ∧ 2 ≤ R.frames ∧ 42 ≤ R.locals := ⟨_, rfl, Nat.le_refl _, Nat.le_refl _⟩
  rw [← hR]
  unfold f_X6_onFloor at hf
  refine lv_aload_n hx hb dX6_onFloor_0 rfl (lv_at hl 0 rfl) ?_
  refine lv_iload_n hx hb dX6_onFloor_1 rfl (lv_at hl 1 rfl) ?_
  obtain ⟨v1, hv, hf⟩ := bd_e hf
  refine g_cSi0 ⟨⟨hx, hb, hml, hown, hB⟩, hK, hi, hA, hAd, hP, hS⟩ (c_X6_isRoom hv) cal_X6_isRoom kM_X6_106 ⟨Nat.le_trans (Nat.le_of_ble_eq_true rfl) hRf, Nat.le_trans (Nat.le_of_ble_eq_true rfl) hRl⟩ rfl hl.1 (Nat.le_of_ble_eq_true rfl) rfl dX6_onFloor_2 ⟨Nat.zero_le _, Nat.zero_le _⟩ (fun H locs hP hS => ?_)
  obtain ⟨J4, eJ4, hf⟩ := jn_e2 hf
  have hJ4 : ∀ (y2 : Int32) (σ3 : Mem) (H : Heap) (locs : List Loc) (ls : Array Slot), J4 y2 σ3 = some (r, σr) → va_P D vwCl (wsG 25 ad (EM ad cI) σ3) H → va_S (AG 25 ad s.heap.size) s.heap H locs → lv_has ls 3 [(0, .ref (ad 0)), (1, .int a0), (2, .int a1)] → W p l e R s m args below meth c H locs 0 0 Q (F0 m 20 ls [.int y2, .ref (ad 0)]) := by
    intro y2 σ3 H locs ls hf hP hS hl
    rw [eJ4] at hf
    obtain ⟨v5, σ6, hv, hf⟩ := bd2_e hf
    refine g_cViS (k0 := 0) ⟨⟨hx, hb, hml, hown, hB⟩, hK, hi, hA, hAd, hP, hS⟩ (c_X6_can hi hv) cal_X6_can kM_X6_110 ⟨Nat.le_trans (Nat.le_of_ble_eq_true rfl) hRf, Nat.le_trans (Nat.le_of_ble_eq_true rfl) hRl⟩ (by decide) rfl rfl rfl hl.1 (Nat.le_of_ble_eq_true rfl) rfl dX6_onFloor_20 ⟨Nat.zero_le _, Nat.zero_le _⟩ (fun H locs hP hS => ?_)
    refine lv_if_eq (tgt := 39) hx hb dX6_onFloor_23 (by decide) (fun q7 => ?_) (fun q7 => ?_)
    · rw [if_pos q7] at hf
      refine lv_iconst (v := 0) hx hb dX6_onFloor_39 (by decide) ?_
      obtain ⟨h1, h2⟩ := rt2 hf
      rw [hQ]
      exact g_iret hx hb hr hlocks hP hS h1 h2 dX6_onFloor_40
    · rw [if_neg q7] at hf
      refine lv_aload_n hx hb dX6_onFloor_26 rfl (lv_at hl 0 rfl) ?_
      refine g_get (v := .ref (ad 2)) hx hb hB hown hK hP 0 (by decide) rfl rfl kU_X6 1 (by decide) kF_X6_13 rfl rfl dX6_onFloor_27 ?_
      refine lv_iconst (v := 5) hx hb dX6_onFloor_30 (by decide) ?_
      refine lv_iload_n hx hb dX6_onFloor_31 rfl (lv_at hl 1 rfl) ?_
      refine lv_imul hx hb dX6_onFloor_32 ?_
      refine lv_iload_n hx hb dX6_onFloor_33 rfl (lv_at hl 2 rfl) ?_
      refine lv_iadd hx hb dX6_onFloor_34 ?_
      obtain ⟨hin, hf⟩ := gd_e hf
      refine g_iald hx hb hK hP 2 40 (by decide) rfl hin dX6_onFloor_35 ?_
      refine lv_goto (tgt := 40) hx hb dX6_onFloor_36 (by decide) ?_
      obtain ⟨h1, h2⟩ := rt2 hf
      rw [hQ]
      exact g_iret hx hb hr hlocks hP hS h1 h2 dX6_onFloor_40
  obtain ⟨J9, eJ9, hf⟩ := jn_e1 hf
  have hJ9 : ∀ (σ8 : Mem) (H : Heap) (locs : List Loc) (ls : Array Slot), J9 σ8 = some (r, σr) → va_P D vwCl (wsG 25 ad (EM ad cI) σ8) H → va_S (AG 25 ad s.heap.size) s.heap H locs → lv_has ls 3 [(0, .ref (ad 0)), (1, .int a0), (2, .int a1)] → W p l e R s m args below meth c H locs 0 0 Q (F0 m 19 ls [.ref (ad 0)]) := by
    intro σ8 H locs ls hf hP hS hl
    rw [eJ9] at hf
    refine lv_iconst (v := 1) hx hb dX6_onFloor_19 (by decide) ?_
    exact hJ4 1 σ8 _ _ ls hf hP hS (lv_sub hl [0, 1, 2] rfl)
  refine lv_if_eq (tgt := 19) hx hb dX6_onFloor_5 (by decide) (fun q10 => ?_) (fun q10 => ?_)
  · rw [if_pos q10] at hf
    exact hJ9 σ _ _ ls hf hP hS (lv_sub hl [0, 1, 2] rfl)
  · rw [if_neg q10] at hf
    refine lv_iload_n hx hb dX6_onFloor_8 rfl (lv_at hl 2 rfl) ?_
    obtain ⟨v11, hv, hf⟩ := bd_e hf
    refine g_cSi0 ⟨⟨hx, hb, hml, hown, hB⟩, hK, hi, hA, hAd, hP, hS⟩ (c_X6_isKind hv) cal_X6_isKind kM_X6_116 ⟨Nat.le_trans (Nat.le_of_ble_eq_true rfl) hRf, Nat.le_trans (Nat.le_of_ble_eq_true rfl) hRl⟩ rfl hl.1 (Nat.le_of_ble_eq_true rfl) rfl dX6_onFloor_9 ⟨Nat.zero_le _, Nat.zero_le _⟩ (fun H locs hP hS => ?_)
    refine lv_if_eq (tgt := 19) hx hb dX6_onFloor_12 (by decide) (fun q12 => ?_) (fun q12 => ?_)
    · rw [if_pos q12] at hf
      exact hJ9 σ _ _ ls hf hP hS (lv_sub hl [0, 1, 2] rfl)
    · rw [if_neg q12] at hf
      refine lv_iconst (v := 0) hx hb dX6_onFloor_15 (by decide) ?_
      refine lv_goto (tgt := 20) hx hb dX6_onFloor_16 (by decide) ?_
      exact hJ4 0 σ _ _ ls hf hP hS (lv_sub hl [0, 1, 2] rfl)
def f_X6_stockOf (σ : Mem) (a0 a1 : Int32) : Option (Int32 × Mem) :=
bd (f_X6_isRoom a0) fun v1 =>
jn (fun (y2 : Int32) (σ3 : Mem) =>
bd2 (f_X6_can σ3 y2) fun v5 σ6 =>
if v5 = 0 then (
some (0, σ6))
else (
gd ((5 * a0) + a1) 40 <|
some ((σ6 5 ((5 * a0) + a1).toNatClampNeg), σ6))) fun (J4 : Int32 → Mem → Option (Int32 × Mem)) =>
jn (fun (σ8 : Mem) =>
J4 1 σ8) fun (J9 : Mem → Option (Int32 × Mem)) =>
if v1 = 0 then (
J9 σ)
else (
bd (f_X6_isKind a1) fun v11 =>
if v11 = 0 then (
J9 σ)
else (
J4 0 σ))
set_option maxHeartbeats 4000000 in
set_option maxRecDepth 100000 in
theorem c_X6_stockOf {l : Launch} {D : va_G} {cI cJ : ClassId} {ad : Nat → Nat} {σ : Mem} {a0 a1 : Int32} {r : Int32} {σr : Mem}  (hi : injG 25 ad) (hf : f_X6_stockOf σ a0 a1 = some (r, σr)) : MGi l yX6_stockOf (Cond.code yX6_stockOf cX6_stockOf 3 (some .int) :: BIG) 2 42 D cI cJ 25 ad (EM ad cI) [.ref (ad 0), .int a0, .int a1] σ σr r := by
  refine MGi.ofW (cc := cX6_stockOf) (nL := 3) (ret := (some .int)) (by decide) rfl hi ?_
  intro p e s m args below meth c hx hb hr hml hlocks hown hB hK hP hA hAd hS
  have hown : s.vm.findClass RX6 = some m.cls := hown
  have hl := lv_entry ([.ref (ad 0), .int a0, .int a1] : List Value) (n := 3) (Nat.le_of_ble_eq_true rfl)
  rw [lg_entry_eq]
  generalize (lg_sl ([.ref (ad 0), .int a0, .int a1] : List Value) ++ List.replicate (3 - (lg_sl ([.ref (ad 0), .int a0, .int a1] : List Value)).length) Slot.unset).toArray = ls at hl ⊢
  have hl : lv_has ls 3 [(0, .ref (ad 0)), (1, .int a0), (2, .int a1)] := hl
  generalize hQ : MQ below (Qgi D 25 ad (EM ad cI) r σr s.heap.size) _ s 0 0 (AG 25 ad s.heap.size) = Q
  have hQ := hQ.symm
  obtain ⟨R, hR, hRf, hRl⟩ : ∃ R : Room, R = ({ frames := 2, cells := 0, slots := 0, locals := 42 } : Room) ∧ 2 ≤ R.frames ∧ 42 ≤ R.locals := ⟨_, rfl, Nat.le_refl _, Nat.le_refl _⟩
  rw [← hR]
  unfold f_X6_stockOf at hf
  refine lv_aload_n hx hb dX6_stockOf_0 rfl (lv_at hl 0 rfl) ?_
  refine lv_iload_n hx hb dX6_stockOf_1 rfl (lv_at hl 1 rfl) ?_
  obtain ⟨v1, hv, hf⟩ := bd_e hf
  refine g_cSi0 ⟨⟨hx, hb, hml, hown, hB⟩, hK, hi, hA, hAd, hP, hS⟩ (c_X6_isRoom hv) cal_X6_isRoom kM_X6_106 ⟨Nat.le_trans (Nat.le_of_ble_eq_true rfl) hRf, Nat.le_trans (Nat.le_of_ble_eq_true rfl) hRl⟩ rfl hl.1 (Nat.le_of_ble_eq_true rfl) rfl dX6_stockOf_2 ⟨Nat.zero_le _, Nat.zero_le _⟩ (fun H locs hP hS => ?_)
  obtain ⟨J4, eJ4, hf⟩ := jn_e2 hf
  have hJ4 : ∀ (y2 : Int32) (σ3 : Mem) (H : Heap) (locs : List Loc) (ls : Array Slot), J4 y2 σ3 = some (r, σr) → va_P D vwCl (wsG 25 ad (EM ad cI) σ3) H → va_S (AG 25 ad s.heap.size) s.heap H locs → lv_has ls 3 [(0, .ref (ad 0)), (1, .int a0), (2, .int a1)] → W p l e R s m args below meth c H locs 0 0 Q (F0 m 20 ls [.int y2, .ref (ad 0)]) := by
    intro y2 σ3 H locs ls hf hP hS hl
    rw [eJ4] at hf
    obtain ⟨v5, σ6, hv, hf⟩ := bd2_e hf
    refine g_cViS (k0 := 0) ⟨⟨hx, hb, hml, hown, hB⟩, hK, hi, hA, hAd, hP, hS⟩ (c_X6_can hi hv) cal_X6_can kM_X6_110 ⟨Nat.le_trans (Nat.le_of_ble_eq_true rfl) hRf, Nat.le_trans (Nat.le_of_ble_eq_true rfl) hRl⟩ (by decide) rfl rfl rfl hl.1 (Nat.le_of_ble_eq_true rfl) rfl dX6_stockOf_20 ⟨Nat.zero_le _, Nat.zero_le _⟩ (fun H locs hP hS => ?_)
    refine lv_if_eq (tgt := 39) hx hb dX6_stockOf_23 (by decide) (fun q7 => ?_) (fun q7 => ?_)
    · rw [if_pos q7] at hf
      refine lv_iconst (v := 0) hx hb dX6_stockOf_39 (by decide) ?_
      obtain ⟨h1, h2⟩ := rt2 hf
      rw [hQ]
      exact g_iret hx hb hr hlocks hP hS h1 h2 dX6_stockOf_40
    · rw [if_neg q7] at hf
      refine lv_aload_n hx hb dX6_stockOf_26 rfl (lv_at hl 0 rfl) ?_
      refine g_get (v := .ref (ad 5)) hx hb hB hown hK hP 0 (by decide) rfl rfl kU_X6 4 (by decide) kF_X6_22 rfl rfl dX6_stockOf_27 ?_
      refine lv_iconst (v := 5) hx hb dX6_stockOf_30 (by decide) ?_
      refine lv_iload_n hx hb dX6_stockOf_31 rfl (lv_at hl 1 rfl) ?_
      refine lv_imul hx hb dX6_stockOf_32 ?_
      refine lv_iload_n hx hb dX6_stockOf_33 rfl (lv_at hl 2 rfl) ?_
      refine lv_iadd hx hb dX6_stockOf_34 ?_
      obtain ⟨hin, hf⟩ := gd_e hf
      refine g_iald hx hb hK hP 5 40 (by decide) rfl hin dX6_stockOf_35 ?_
      refine lv_goto (tgt := 40) hx hb dX6_stockOf_36 (by decide) ?_
      obtain ⟨h1, h2⟩ := rt2 hf
      rw [hQ]
      exact g_iret hx hb hr hlocks hP hS h1 h2 dX6_stockOf_40
  obtain ⟨J9, eJ9, hf⟩ := jn_e1 hf
  have hJ9 : ∀ (σ8 : Mem) (H : Heap) (locs : List Loc) (ls : Array Slot), J9 σ8 = some (r, σr) → va_P D vwCl (wsG 25 ad (EM ad cI) σ8) H → va_S (AG 25 ad s.heap.size) s.heap H locs → lv_has ls 3 [(0, .ref (ad 0)), (1, .int a0), (2, .int a1)] → W p l e R s m args below meth c H locs 0 0 Q (F0 m 19 ls [.ref (ad 0)]) := by
    intro σ8 H locs ls hf hP hS hl
    rw [eJ9] at hf
    refine lv_iconst (v := 1) hx hb dX6_stockOf_19 (by decide) ?_
    exact hJ4 1 σ8 _ _ ls hf hP hS (lv_sub hl [0, 1, 2] rfl)
  refine lv_if_eq (tgt := 19) hx hb dX6_stockOf_5 (by decide) (fun q10 => ?_) (fun q10 => ?_)
  · rw [if_pos q10] at hf
    exact hJ9 σ _ _ ls hf hP hS (lv_sub hl [0, 1, 2] rfl)
  · rw [if_neg q10] at hf
    refine lv_iload_n hx hb dX6_stockOf_8 rfl (lv_at hl 2 rfl) ?_
    obtain ⟨v11, hv, hf⟩ := bd_e hf
    refine g_cSi0 ⟨⟨hx, hb, hml, hown, hB⟩, hK, hi, hA, hAd, hP, hS⟩ (c_X6_isKind hv) cal_X6_isKind kM_X6_116 ⟨Nat.le_trans (Nat.le_of_ble_eq_true rfl) hRf, Nat.le_trans (Nat.le_of_ble_eq_true rfl) hRl⟩ rfl hl.1 (Nat.le_of_ble_eq_true rfl) rfl dX6_stockOf_9 ⟨Nat.zero_le _, Nat.zero_le _⟩ (fun H locs hP hS => ?_)
    refine lv_if_eq (tgt := 19) hx hb dX6_stockOf_12 (by decide) (fun q12 => ?_) (fun q12 => ?_)
    · rw [if_pos q12] at hf
      exact hJ9 σ _ _ ls hf hP hS (lv_sub hl [0, 1, 2] rfl)
    · rw [if_neg q12] at hf
      refine lv_iconst (v := 0) hx hb dX6_stockOf_15 (by decide) ?_
      refine lv_goto (tgt := 20) hx hb dX6_stockOf_16 (by decide) ?_
      exact hJ4 0 σ _ _ ls hf hP hS (lv_sub hl [0, 1, 2] rfl)
def f_X6_tillOf (σ : Mem) (a0 : Int32) : Option (Int32 × Mem) :=
bd (f_X6_isRoom a0) fun v1 =>
jn (fun (y2 : Int32) (σ3 : Mem) =>
bd2 (f_X6_can σ3 y2) fun v5 σ6 =>
if v5 = 0 then (
some (0, σ6))
else (
gd a0 8 <|
some ((σ6 3 a0.toNatClampNeg), σ6))) fun (J4 : Int32 → Mem → Option (Int32 × Mem)) =>
if v1 = 0 then (
J4 1 σ)
else (
J4 0 σ)
set_option maxHeartbeats 4000000 in
set_option maxRecDepth 100000 in
theorem c_X6_tillOf {l : Launch} {D : va_G} {cI cJ : ClassId} {ad : Nat → Nat} {σ : Mem} {a0 : Int32} {r : Int32} {σr : Mem}  (hi : injG 25 ad) (hf : f_X6_tillOf σ a0 = some (r, σr)) : MGi l yX6_tillOf (Cond.code yX6_tillOf cX6_tillOf 2 (some .int) :: BIG) 2 42 D cI cJ 25 ad (EM ad cI) [.ref (ad 0), .int a0] σ σr r := by
  refine MGi.ofW (cc := cX6_tillOf) (nL := 2) (ret := (some .int)) (by decide) rfl hi ?_
  intro p e s m args below meth c hx hb hr hml hlocks hown hB hK hP hA hAd hS
  have hown : s.vm.findClass RX6 = some m.cls := hown
  have hl := lv_entry ([.ref (ad 0), .int a0] : List Value) (n := 2) (Nat.le_of_ble_eq_true rfl)
  rw [lg_entry_eq]
  generalize (lg_sl ([.ref (ad 0), .int a0] : List Value) ++ List.replicate (2 - (lg_sl ([.ref (ad 0), .int a0] : List Value)).length) Slot.unset).toArray = ls at hl ⊢
  have hl : lv_has ls 2 [(0, .ref (ad 0)), (1, .int a0)] := hl
  generalize hQ : MQ below (Qgi D 25 ad (EM ad cI) r σr s.heap.size) _ s 0 0 (AG 25 ad s.heap.size) = Q
  have hQ := hQ.symm
  obtain ⟨R, hR, hRf, hRl⟩ : ∃ R : Room, R = ({ frames := 2, cells := 0, slots := 0, locals := 42 } : Room) ∧ 2 ≤ R.frames ∧ 42 ≤ R.locals := ⟨_, rfl, Nat.le_refl _, Nat.le_refl _⟩
  rw [← hR]
  unfold f_X6_tillOf at hf
  refine lv_aload_n hx hb dX6_tillOf_0 rfl (lv_at hl 0 rfl) ?_
  refine lv_iload_n hx hb dX6_tillOf_1 rfl (lv_at hl 1 rfl) ?_
  obtain ⟨v1, hv, hf⟩ := bd_e hf
  refine g_cSi0 ⟨⟨hx, hb, hml, hown, hB⟩, hK, hi, hA, hAd, hP, hS⟩ (c_X6_isRoom hv) cal_X6_isRoom kM_X6_106 ⟨Nat.le_trans (Nat.le_of_ble_eq_true rfl) hRf, Nat.le_trans (Nat.le_of_ble_eq_true rfl) hRl⟩ rfl hl.1 (Nat.le_of_ble_eq_true rfl) rfl dX6_tillOf_2 ⟨Nat.zero_le _, Nat.zero_le _⟩ (fun H locs hP hS => ?_)
  obtain ⟨J4, eJ4, hf⟩ := jn_e2 hf
  have hJ4 : ∀ (y2 : Int32) (σ3 : Mem) (H : Heap) (locs : List Loc) (ls : Array Slot), J4 y2 σ3 = some (r, σr) → va_P D vwCl (wsG 25 ad (EM ad cI) σ3) H → va_S (AG 25 ad s.heap.size) s.heap H locs → lv_has ls 2 [(0, .ref (ad 0)), (1, .int a0)] → W p l e R s m args below meth c H locs 0 0 Q (F0 m 13 ls [.int y2, .ref (ad 0)]) := by
    intro y2 σ3 H locs ls hf hP hS hl
    rw [eJ4] at hf
    obtain ⟨v5, σ6, hv, hf⟩ := bd2_e hf
    refine g_cViS (k0 := 0) ⟨⟨hx, hb, hml, hown, hB⟩, hK, hi, hA, hAd, hP, hS⟩ (c_X6_can hi hv) cal_X6_can kM_X6_110 ⟨Nat.le_trans (Nat.le_of_ble_eq_true rfl) hRf, Nat.le_trans (Nat.le_of_ble_eq_true rfl) hRl⟩ (by decide) rfl rfl rfl hl.1 (Nat.le_of_ble_eq_true rfl) rfl dX6_tillOf_13 ⟨Nat.zero_le _, Nat.zero_le _⟩ (fun H locs hP hS => ?_)
    refine lv_if_eq (tgt := 28) hx hb dX6_tillOf_16 (by decide) (fun q7 => ?_) (fun q7 => ?_)
    · rw [if_pos q7] at hf
      refine lv_iconst (v := 0) hx hb dX6_tillOf_28 (by decide) ?_
      obtain ⟨h1, h2⟩ := rt2 hf
      rw [hQ]
      exact g_iret hx hb hr hlocks hP hS h1 h2 dX6_tillOf_29
    · rw [if_neg q7] at hf
      refine lv_aload_n hx hb dX6_tillOf_19 rfl (lv_at hl 0 rfl) ?_
      refine g_get (v := .ref (ad 3)) hx hb hB hown hK hP 0 (by decide) rfl rfl kU_X6 2 (by decide) kF_X6_16 rfl rfl dX6_tillOf_20 ?_
      refine lv_iload_n hx hb dX6_tillOf_23 rfl (lv_at hl 1 rfl) ?_
      obtain ⟨hin, hf⟩ := gd_e hf
      refine g_iald hx hb hK hP 3 8 (by decide) rfl hin dX6_tillOf_24 ?_
      refine lv_goto (tgt := 29) hx hb dX6_tillOf_25 (by decide) ?_
      obtain ⟨h1, h2⟩ := rt2 hf
      rw [hQ]
      exact g_iret hx hb hr hlocks hP hS h1 h2 dX6_tillOf_29
  refine lv_if_eq (tgt := 12) hx hb dX6_tillOf_5 (by decide) (fun q8 => ?_) (fun q8 => ?_)
  · rw [if_pos q8] at hf
    refine lv_iconst (v := 1) hx hb dX6_tillOf_12 (by decide) ?_
    exact hJ4 1 σ _ _ ls hf hP hS (lv_sub hl [0, 1] rfl)
  · rw [if_neg q8] at hf
    refine lv_iconst (v := 0) hx hb dX6_tillOf_8 (by decide) ?_
    refine lv_goto (tgt := 13) hx hb dX6_tillOf_9 (by decide) ?_
    exact hJ4 0 σ _ _ ls hf hP hS (lv_sub hl [0, 1] rfl)
def f_X6_purse (σ : Mem) : Option (Int32 × Mem) :=
stp (mu σ 0 29 0) fun σ1 =>
some ((σ1 0 14), σ1)
set_option maxHeartbeats 4000000 in
set_option maxRecDepth 100000 in
theorem c_X6_purse {l : Launch} {D : va_G} {cI cJ : ClassId} {ad : Nat → Nat} {σ : Mem} {r : Int32} {σr : Mem}  (hi : injG 25 ad) (hf : f_X6_purse σ = some (r, σr)) : MGi l yX6_purse (Cond.code yX6_purse cX6_purse 1 (some .int) :: BIG) 0 0 D cI cJ 25 ad (EM ad cI) [.ref (ad 0)] σ σr r := by
  refine MGi.ofW (cc := cX6_purse) (nL := 1) (ret := (some .int)) (by decide) rfl hi ?_
  intro p e s m args below meth c hx hb hr hml hlocks hown hB hK hP hA hAd hS
  have hown : s.vm.findClass RX6 = some m.cls := hown
  have hl := lv_entry ([.ref (ad 0)] : List Value) (n := 1) (Nat.le_of_ble_eq_true rfl)
  rw [lg_entry_eq]
  generalize (lg_sl ([.ref (ad 0)] : List Value) ++ List.replicate (1 - (lg_sl ([.ref (ad 0)] : List Value)).length) Slot.unset).toArray = ls at hl ⊢
  have hl : lv_has ls 1 [(0, .ref (ad 0))] := hl
  generalize hQ : MQ below (Qgi D 25 ad (EM ad cI) r σr s.heap.size) _ s 0 0 (AG 25 ad s.heap.size) = Q
  have hQ := hQ.symm
  obtain ⟨R, hR, hRf, hRl⟩ : ∃ R : Room, R = ({ frames := 0, cells := 0, slots := 0, locals := 0 } : Room) ∧ 0 ≤ R.frames ∧ 0 ≤ R.locals := ⟨_, rfl, Nat.le_refl _, Nat.le_refl _⟩
  rw [← hR]
  unfold f_X6_purse at hf
  refine lv_aload_n hx hb dX6_purse_0 rfl (lv_at hl 0 rfl) ?_
  refine lv_iconst (v := 0) hx hb dX6_purse_1 (by decide) ?_
  obtain ⟨σ1, eσ1, hf⟩ := stp_e hf
  refine g_put (σ1 := σ1) hx hb hB hown hK hP hi hAd hS 0 (by decide) (fun f => [.ref (ad 1), .ref (ad 2), .ref (ad 3), .ref (ad 4), .ref (ad 5), .int (f 5), .ref (ad 6), .ref (ad 7), .ref (ad 8), .ref (ad 9), .ref (ad 10), .ref (ad 11), .ref (ad 12), .ref (ad 13), .int (f 14), .int (f 15), .int (f 16), .ref (ad 14), .ref (ad 15), .ref (ad 16), .ref (ad 17), .ref (ad 18), .ref (ad 19), .int (f 23), .ref (ad 20), .ref (ad 21), .ref (ad 22), .ref (ad 23), .ref (ad 24), .int (f 29)]) (fun _ => rfl) rfl kU_X6 tyX6 tyX6_ok nmX6 29 (by decide) kF_X6_86 rfl (fun _ _ => rfl) (fun _ => Nat.le_of_ble_eq_true rfl) dX6_purse_2 eσ1 (fun H locs hP hS => ?_)
  refine lv_aload_n hx hb dX6_purse_5 rfl (lv_at hl 0 rfl) ?_
  refine g_get (v := .int (σ1 0 14)) hx hb hB hown hK hP 0 (by decide) rfl rfl kU_X6 14 (by decide) kF_X6_122 rfl rfl dX6_purse_6 ?_
  obtain ⟨h1, h2⟩ := rt2 hf
  rw [hQ]
  exact g_iret hx hb hr hlocks hP hS h1 h2 dX6_purse_9
def L_X6_allCoins_37 : Nat → (Int32 → Mem → Option (Int32 × Mem)) → Int32 → Int32 → Mem → Option (Int32 × Mem)
  | 0, _, _, _, _ => none
  | n + 1, k, x8, x9, σ10 =>
    if 8 ≤ x9 then (
    k x8 σ10)
    else (
    gd x9 8 <|
    jn (fun (y17 : Int32) (y15 : Int32) (σ16 : Mem) =>
    L_X6_allCoins_37 n k (y17 + y15) (x9 + 1) σ16) fun (J18 : Int32 → Int32 → Mem → Option (Int32 × Mem)) =>
    if (σ10 3 x9.toNatClampNeg) = (-1) then (
    J18 x8 0 σ10)
    else (
    gd x9 8 <|
    L_X6_allCoins_37 n k (x8 + (σ10 3 x9.toNatClampNeg)) (x9 + 1) σ10))
def L_X6_allCoins_12 : Nat → (Int32 → Mem → Option (Int32 × Mem)) → Int32 → Int32 → Mem → Option (Int32 × Mem)
  | 0, _, _, _, _ => none
  | n + 1, k, x2, x3, σ4 =>
    if (σ4 0 5) ≤ x3 then (
    k x2 σ4)
    else (
    gd x3 4 <|
    L_X6_allCoins_12 n k (x2 + (σ4 7 x3.toNatClampNeg)) (x3 + 1) σ4)
def f_X6_allCoins (σ : Mem) : Option (Int32 × Mem) :=
stp (mu σ 0 29 0) fun σ1 =>
L_X6_allCoins_12 FU (fun (x6 : Int32) (σ7 : Mem) =>
L_X6_allCoins_37 FU (fun (x12 : Int32) (σ13 : Mem) =>
some (x12, σ13)) x6 0 σ7) (σ1 0 14) 0 σ1
set_option maxHeartbeats 4000000 in
set_option maxRecDepth 100000 in
theorem c_X6_allCoins {l : Launch} {D : va_G} {cI cJ : ClassId} {ad : Nat → Nat} {σ : Mem} {r : Int32} {σr : Mem}  (hi : injG 25 ad) (hf : f_X6_allCoins σ = some (r, σr)) : MGi l yX6_allCoins (Cond.code yX6_allCoins cX6_allCoins 3 (some .int) :: BIG) 0 0 D cI cJ 25 ad (EM ad cI) [.ref (ad 0)] σ σr r := by
  refine MGi.ofW (cc := cX6_allCoins) (nL := 3) (ret := (some .int)) (by decide) rfl hi ?_
  intro p e s m args below meth c hx hb hr hml hlocks hown hB hK hP hA hAd hS
  have hown : s.vm.findClass RX6 = some m.cls := hown
  have hl := lv_entry ([.ref (ad 0)] : List Value) (n := 3) (Nat.le_of_ble_eq_true rfl)
  rw [lg_entry_eq]
  generalize (lg_sl ([.ref (ad 0)] : List Value) ++ List.replicate (3 - (lg_sl ([.ref (ad 0)] : List Value)).length) Slot.unset).toArray = ls at hl ⊢
  have hl : lv_has ls 3 [(0, .ref (ad 0))] := hl
  generalize hQ : MQ below (Qgi D 25 ad (EM ad cI) r σr s.heap.size) _ s 0 0 (AG 25 ad s.heap.size) = Q
  have hQ := hQ.symm
  obtain ⟨R, hR, hRf, hRl⟩ : ∃ R : Room, R = ({ frames := 0, cells := 0, slots := 0, locals := 0 } : Room) ∧ 0 ≤ R.frames ∧ 0 ≤ R.locals := ⟨_, rfl, Nat.le_refl _, Nat.le_refl _⟩
  rw [← hR]
  unfold f_X6_allCoins at hf
  refine lv_aload_n hx hb dX6_allCoins_0 rfl (lv_at hl 0 rfl) ?_
  refine lv_iconst (v := 0) hx hb dX6_allCoins_1 (by decide) ?_
  obtain ⟨σ1, eσ1, hf⟩ := stp_e hf
  refine g_put (σ1 := σ1) hx hb hB hown hK hP hi hAd hS 0 (by decide) (fun f => [.ref (ad 1), .ref (ad 2), .ref (ad 3), .ref (ad 4), .ref (ad 5), .int (f 5), .ref (ad 6), .ref (ad 7), .ref (ad 8), .ref (ad 9), .ref (ad 10), .ref (ad 11), .ref (ad 12), .ref (ad 13), .int (f 14), .int (f 15), .int (f 16), .ref (ad 14), .ref (ad 15), .ref (ad 16), .ref (ad 17), .ref (ad 18), .ref (ad 19), .int (f 23), .ref (ad 20), .ref (ad 21), .ref (ad 22), .ref (ad 23), .ref (ad 24), .int (f 29)]) (fun _ => rfl) rfl kU_X6 tyX6 tyX6_ok nmX6 29 (by decide) kF_X6_86 rfl (fun _ _ => rfl) (fun _ => Nat.le_of_ble_eq_true rfl) dX6_allCoins_2 eσ1 (fun H locs hP hS => ?_)
  refine lv_aload_n hx hb dX6_allCoins_5 rfl (lv_at hl 0 rfl) ?_
  refine g_get (v := .int (σ1 0 14)) hx hb hB hown hK hP 0 (by decide) rfl rfl kU_X6 14 (by decide) kF_X6_122 rfl rfl dX6_allCoins_6 ?_
  refine lv_istore_n (lv' := [(1, .int (σ1 0 14)), (0, .ref (ad 0))]) hx hb dX6_allCoins_9 rfl hl (by decide) rfl (fun ls hl => ?_)
  refine lv_iconst (v := 0) hx hb dX6_allCoins_10 (by decide) ?_
  refine lv_istore_n (lv' := [(2, .int 0), (1, .int (σ1 0 14)), (0, .ref (ad 0))]) hx hb dX6_allCoins_11 rfl hl (by decide) rfl (fun ls hl => ?_)
  obtain ⟨K5, eK5, hf⟩ := lp_e2 (b := fun K => L_X6_allCoins_12 FU K (σ1 0 14) 0 σ1) hf
  replace hf : L_X6_allCoins_12 FU K5 (σ1 0 14) 0 σ1 = some (r, σr) := hf
  have hKK5 : ∀ (x6 : Int32) (σ7 : Mem) (H : Heap) (locs : List Loc) (ls : Array Slot), K5 x6 σ7 = some (r, σr) → va_P D vwCl (wsG 25 ad (EM ad cI) σ7) H → va_S (AG 25 ad s.heap.size) s.heap H locs → lv_has ls 3 [(0, .ref (ad 0)), (1, .int x6)] → W p l e R s m args below meth c H locs 0 0 Q (F0 m 35 ls []) := by
    intro x6 σ7 H locs ls hf hP hS hl
    rw [eK5] at hf
    refine lv_iconst (v := 0) hx hb dX6_allCoins_35 (by decide) ?_
    refine lv_istore_n (lv' := [(2, .int 0), (0, .ref (ad 0)), (1, .int x6)]) hx hb dX6_allCoins_36 rfl hl (by decide) rfl (fun ls hl => ?_)
    obtain ⟨K11, eK11, hf⟩ := lp_e2 (b := fun K => L_X6_allCoins_37 FU K x6 0 σ7) hf
    replace hf : L_X6_allCoins_37 FU K11 x6 0 σ7 = some (r, σr) := hf
    have hKK11 : ∀ (x12 : Int32) (σ13 : Mem) (H : Heap) (locs : List Loc) (ls : Array Slot), K11 x12 σ13 = some (r, σr) → va_P D vwCl (wsG 25 ad (EM ad cI) σ13) H → va_S (AG 25 ad s.heap.size) s.heap H locs → lv_has ls 3 [(1, .int x12)] → W p l e R s m args below meth c H locs 0 0 Q (F0 m 72 ls []) := by
      intro x12 σ13 H locs ls hf hP hS hl
      rw [eK11] at hf
      refine lv_iload_n hx hb dX6_allCoins_72 rfl (lv_at hl 0 rfl) ?_
      obtain ⟨h1, h2⟩ := rt2 hf
      rw [hQ]
      exact g_iret hx hb hr hlocks hP hS h1 h2 dX6_allCoins_73
    have hL_X6_allCoins_37 : ∀ (n : Nat) (x8 : Int32) (x9 : Int32) (σ10 : Mem) (H : Heap) (locs : List Loc) (ls : Array Slot), L_X6_allCoins_37 n K11 x8 x9 σ10 = some (r, σr) → va_P D vwCl (wsG 25 ad (EM ad cI) σ10) H → va_S (AG 25 ad s.heap.size) s.heap H locs → lv_has ls 3 [(0, .ref (ad 0)), (1, .int x8), (2, .int x9)] → W p l e R s m args below meth c H locs 0 0 Q (F0 m 37 ls []) := by
      intro n
      induction n with
      | zero => intro x8 x9 σ10 H locs ls hf; cases hf
      | succ n ih =>
        intro x8 x9 σ10 H locs ls hf hP hS hl
        rw [L_X6_allCoins_37] at hf
        refine lv_iload_n hx hb dX6_allCoins_37 rfl (lv_at hl 2 rfl) ?_
        refine lv_bipush (v := 8) hx hb dX6_allCoins_38 (by decide) ?_
        refine lv_icmp_ge (tgt := 72) hx hb dX6_allCoins_40 (by decide) (fun q14 => ?_) (fun q14 => ?_)
        · rw [if_pos q14] at hf
          exact hKK11 x8 σ10 _ _ ls hf hP hS (lv_sub hl [1] rfl)
        · rw [if_neg q14] at hf
          refine lv_iload_n hx hb dX6_allCoins_43 rfl (lv_at hl 1 rfl) ?_
          refine lv_aload_n hx hb dX6_allCoins_44 rfl (lv_at hl 0 rfl) ?_
          refine g_get (v := .ref (ad 3)) hx hb hB hown hK hP 0 (by decide) rfl rfl kU_X6 2 (by decide) kF_X6_16 rfl rfl dX6_allCoins_45 ?_
          refine lv_iload_n hx hb dX6_allCoins_48 rfl (lv_at hl 2 rfl) ?_
          obtain ⟨hin, hf⟩ := gd_e hf
          refine g_iald hx hb hK hP 3 8 (by decide) rfl hin dX6_allCoins_49 ?_
          refine lv_iconst (v := (-1)) hx hb dX6_allCoins_50 (by decide) ?_
          obtain ⟨J18, eJ18, hf⟩ := jn_e3 hf
          have hJ18 : ∀ (y17 : Int32) (y15 : Int32) (σ16 : Mem) (H : Heap) (locs : List Loc) (ls : Array Slot), J18 y17 y15 σ16 = some (r, σr) → va_P D vwCl (wsG 25 ad (EM ad cI) σ16) H → va_S (AG 25 ad s.heap.size) s.heap H locs → lv_has ls 3 [(0, .ref (ad 0)), (2, .int x9)] → W p l e R s m args below meth c H locs 0 0 Q (F0 m 64 ls [.int y15, .int y17]) := by
            intro y17 y15 σ16 H locs ls hf hP hS hl
            rw [eJ18] at hf
            refine lv_iadd hx hb dX6_allCoins_64 ?_
            refine lv_istore_n (lv' := [(1, .int (y17 + y15)), (0, .ref (ad 0)), (2, .int x9)]) hx hb dX6_allCoins_65 rfl hl (by decide) rfl (fun ls hl => ?_)
            refine lv_iinc (v := (x9 + 1)) (lv' := [(2, .int (x9 + 1)), (1, .int (y17 + y15)), (0, .ref (ad 0))]) hx hb dX6_allCoins_66 hl (k := 2) rfl rfl (by decide) rfl (fun ls hl => ?_)
            refine lv_goto (tgt := 37) hx hb dX6_allCoins_69 (by decide) ?_
            exact ih (y17 + y15) (x9 + 1) σ16 _ _ ls hf hP hS (lv_sub hl [2, 1, 0] rfl)
          refine lv_icmp_ne (tgt := 58) hx hb dX6_allCoins_51 (by decide) (fun q19 => ?_) (fun q19 => ?_)
          · rw [if_neg q19] at hf
            refine lv_aload_n hx hb dX6_allCoins_58 rfl (lv_at hl 0 rfl) ?_
            refine g_get (v := .ref (ad 3)) hx hb hB hown hK hP 0 (by decide) rfl rfl kU_X6 2 (by decide) kF_X6_16 rfl rfl dX6_allCoins_59 ?_
            refine lv_iload_n hx hb dX6_allCoins_62 rfl (lv_at hl 2 rfl) ?_
            obtain ⟨hin, hf⟩ := gd_e hf
            refine g_iald hx hb hK hP 3 8 (by decide) rfl hin dX6_allCoins_63 ?_
            refine lv_iadd hx hb dX6_allCoins_64 ?_
            refine lv_istore_n (lv' := [(1, .int (x8 + (σ10 3 x9.toNatClampNeg))), (0, .ref (ad 0)), (2, .int x9)]) hx hb dX6_allCoins_65 rfl hl (by decide) rfl (fun ls hl => ?_)
            refine lv_iinc (v := (x9 + 1)) (lv' := [(2, .int (x9 + 1)), (1, .int (x8 + (σ10 3 x9.toNatClampNeg))), (0, .ref (ad 0))]) hx hb dX6_allCoins_66 hl (k := 2) rfl rfl (by decide) rfl (fun ls hl => ?_)
            refine lv_goto (tgt := 37) hx hb dX6_allCoins_69 (by decide) ?_
            exact ih (x8 + (σ10 3 x9.toNatClampNeg)) (x9 + 1) σ10 _ _ ls hf hP hS (lv_sub hl [2, 1, 0] rfl)
          · rw [if_pos q19] at hf
            refine lv_iconst (v := 0) hx hb dX6_allCoins_54 (by decide) ?_
            refine lv_goto (tgt := 64) hx hb dX6_allCoins_55 (by decide) ?_
            exact hJ18 x8 0 σ10 _ _ ls hf hP hS (lv_sub hl [0, 2] rfl)
    exact hL_X6_allCoins_37 FU x6 0 σ7 _ _ ls hf hP hS (lv_sub hl [1, 2, 0] rfl)
  have hL_X6_allCoins_12 : ∀ (n : Nat) (x2 : Int32) (x3 : Int32) (σ4 : Mem) (H : Heap) (locs : List Loc) (ls : Array Slot), L_X6_allCoins_12 n K5 x2 x3 σ4 = some (r, σr) → va_P D vwCl (wsG 25 ad (EM ad cI) σ4) H → va_S (AG 25 ad s.heap.size) s.heap H locs → lv_has ls 3 [(0, .ref (ad 0)), (1, .int x2), (2, .int x3)] → W p l e R s m args below meth c H locs 0 0 Q (F0 m 12 ls []) := by
    intro n
    induction n with
    | zero => intro x2 x3 σ4 H locs ls hf; cases hf
    | succ n ih =>
      intro x2 x3 σ4 H locs ls hf hP hS hl
      rw [L_X6_allCoins_12] at hf
      refine lv_iload_n hx hb dX6_allCoins_12 rfl (lv_at hl 2 rfl) ?_
      refine lv_aload_n hx hb dX6_allCoins_13 rfl (lv_at hl 0 rfl) ?_
      refine g_get (v := .int (σ4 0 5)) hx hb hB hown hK hP 0 (by decide) rfl rfl kU_X6 5 (by decide) kF_X6_93 rfl rfl dX6_allCoins_14 ?_
      refine lv_icmp_ge (tgt := 35) hx hb dX6_allCoins_17 (by decide) (fun q20 => ?_) (fun q20 => ?_)
      · rw [if_pos q20] at hf
        exact hKK5 x2 σ4 _ _ ls hf hP hS (lv_sub hl [0, 1] rfl)
      · rw [if_neg q20] at hf
        refine lv_iload_n hx hb dX6_allCoins_20 rfl (lv_at hl 1 rfl) ?_
        refine lv_aload_n hx hb dX6_allCoins_21 rfl (lv_at hl 0 rfl) ?_
        refine g_get (v := .ref (ad 7)) hx hb hB hown hK hP 0 (by decide) rfl rfl kU_X6 7 (by decide) kF_X6_28 rfl rfl dX6_allCoins_22 ?_
        refine lv_iload_n hx hb dX6_allCoins_25 rfl (lv_at hl 2 rfl) ?_
        obtain ⟨hin, hf⟩ := gd_e hf
        refine g_iald hx hb hK hP 7 4 (by decide) rfl hin dX6_allCoins_26 ?_
        refine lv_iadd hx hb dX6_allCoins_27 ?_
        refine lv_istore_n (lv' := [(1, .int (x2 + (σ4 7 x3.toNatClampNeg))), (0, .ref (ad 0)), (2, .int x3)]) hx hb dX6_allCoins_28 rfl hl (by decide) rfl (fun ls hl => ?_)
        refine lv_iinc (v := (x3 + 1)) (lv' := [(2, .int (x3 + 1)), (1, .int (x2 + (σ4 7 x3.toNatClampNeg))), (0, .ref (ad 0))]) hx hb dX6_allCoins_29 hl (k := 2) rfl rfl (by decide) rfl (fun ls hl => ?_)
        refine lv_goto (tgt := 12) hx hb dX6_allCoins_32 (by decide) ?_
        exact ih (x2 + (σ4 7 x3.toNatClampNeg)) (x3 + 1) σ4 _ _ ls hf hP hS (lv_sub hl [2, 1, 0] rfl)
  exact hL_X6_allCoins_12 FU (σ1 0 14) 0 σ1 _ _ ls hf hP hS (lv_sub hl [2, 1, 0] rfl)
def L_X6_allGoods_54 : Nat → (Int32 → Mem → Option (Int32 × Mem)) → Int32 → Int32 → Int32 → Mem → Option (Int32 × Mem)
  | 0, _, _, _, _, _ => none
  | n + 1, k, x15, x16, x17, σ18 =>
    if 8 ≤ x17 then (
    k x16 σ18)
    else (
    gd ((5 * x17) + x15) 40 <|
    gd ((5 * x17) + x15) 40 <|
    L_X6_allGoods_54 n k x15 (x16 + ((σ18 2 ((5 * x17) + x15).toNatClampNeg) + (σ18 5 ((5 * x17) + x15).toNatClampNeg))) (x17 + 1) σ18)
def L_X6_allGoods_25 : Nat → (Int32 → Mem → Option (Int32 × Mem)) → Int32 → Int32 → Int32 → Mem → Option (Int32 × Mem)
  | 0, _, _, _, _, _ => none
  | n + 1, k, x8, x9, x10, σ11 =>
    if (σ11 0 5) ≤ x10 then (
    k x9 σ11)
    else (
    gd ((5 * x10) + x8) 20 <|
    L_X6_allGoods_25 n k x8 (x9 + (σ11 11 ((5 * x10) + x8).toNatClampNeg)) (x10 + 1) σ11)
def f_X6_allGoods (σ : Mem) (a0 : Int32) : Option (Int32 × Mem) :=
bd (f_X6_isKind a0) fun v1 =>
jn (fun (y2 : Int32) (σ3 : Mem) =>
bd2 (f_X6_can σ3 y2) fun v5 σ6 =>
if v5 = 0 then (
some (0, σ6))
else (
L_X6_allGoods_25 FU (fun (x13 : Int32) (σ14 : Mem) =>
L_X6_allGoods_54 FU (fun (x20 : Int32) (σ21 : Mem) =>
some (x20, σ21)) a0 x13 0 σ14) a0 0 0 σ6)) fun (J4 : Int32 → Mem → Option (Int32 × Mem)) =>
if v1 = 0 then (
J4 1 σ)
else (
J4 0 σ)
set_option maxHeartbeats 4000000 in
set_option maxRecDepth 100000 in
theorem c_X6_allGoods {l : Launch} {D : va_G} {cI cJ : ClassId} {ad : Nat → Nat} {σ : Mem} {a0 : Int32} {r : Int32} {σr : Mem}  (hi : injG 25 ad) (hf : f_X6_allGoods σ a0 = some (r, σr)) : MGi l yX6_allGoods (Cond.code yX6_allGoods cX6_allGoods 4 (some .int) :: BIG) 2 42 D cI cJ 25 ad (EM ad cI) [.ref (ad 0), .int a0] σ σr r := by
  refine MGi.ofW (cc := cX6_allGoods) (nL := 4) (ret := (some .int)) (by decide) rfl hi ?_
  intro p e s m args below meth c hx hb hr hml hlocks hown hB hK hP hA hAd hS
  have hown : s.vm.findClass RX6 = some m.cls := hown
  have hl := lv_entry ([.ref (ad 0), .int a0] : List Value) (n := 4) (Nat.le_of_ble_eq_true rfl)
  rw [lg_entry_eq]
  generalize (lg_sl ([.ref (ad 0), .int a0] : List Value) ++ List.replicate (4 - (lg_sl ([.ref (ad 0), .int a0] : List Value)).length) Slot.unset).toArray = ls at hl ⊢
  have hl : lv_has ls 4 [(0, .ref (ad 0)), (1, .int a0)] := hl
  generalize hQ : MQ below (Qgi D 25 ad (EM ad cI) r σr s.heap.size) _ s 0 0 (AG 25 ad s.heap.size) = Q
  have hQ := hQ.symm
  obtain ⟨R, hR, hRf, hRl⟩ : ∃ R : Room, R = ({ frames := 2, cells := 0, slots := 0, locals := 42 } : Room) ∧ 2 ≤ R.frames ∧ 42 ≤ R.locals := ⟨_, rfl, Nat.le_refl _, Nat.le_refl _⟩
  rw [← hR]
  unfold f_X6_allGoods at hf
  refine lv_aload_n hx hb dX6_allGoods_0 rfl (lv_at hl 0 rfl) ?_
  refine lv_iload_n hx hb dX6_allGoods_1 rfl (lv_at hl 1 rfl) ?_
  obtain ⟨v1, hv, hf⟩ := bd_e hf
  refine g_cSi0 ⟨⟨hx, hb, hml, hown, hB⟩, hK, hi, hA, hAd, hP, hS⟩ (c_X6_isKind hv) cal_X6_isKind kM_X6_116 ⟨Nat.le_trans (Nat.le_of_ble_eq_true rfl) hRf, Nat.le_trans (Nat.le_of_ble_eq_true rfl) hRl⟩ rfl hl.1 (Nat.le_of_ble_eq_true rfl) rfl dX6_allGoods_2 ⟨Nat.zero_le _, Nat.zero_le _⟩ (fun H locs hP hS => ?_)
  obtain ⟨J4, eJ4, hf⟩ := jn_e2 hf
  have hJ4 : ∀ (y2 : Int32) (σ3 : Mem) (H : Heap) (locs : List Loc) (ls : Array Slot), J4 y2 σ3 = some (r, σr) → va_P D vwCl (wsG 25 ad (EM ad cI) σ3) H → va_S (AG 25 ad s.heap.size) s.heap H locs → lv_has ls 4 [(0, .ref (ad 0)), (1, .int a0)] → W p l e R s m args below meth c H locs 0 0 Q (F0 m 13 ls [.int y2, .ref (ad 0)]) := by
    intro y2 σ3 H locs ls hf hP hS hl
    rw [eJ4] at hf
    obtain ⟨v5, σ6, hv, hf⟩ := bd2_e hf
    refine g_cViS (k0 := 0) ⟨⟨hx, hb, hml, hown, hB⟩, hK, hi, hA, hAd, hP, hS⟩ (c_X6_can hi hv) cal_X6_can kM_X6_110 ⟨Nat.le_trans (Nat.le_of_ble_eq_true rfl) hRf, Nat.le_trans (Nat.le_of_ble_eq_true rfl) hRl⟩ (by decide) rfl rfl rfl hl.1 (Nat.le_of_ble_eq_true rfl) rfl dX6_allGoods_13 ⟨Nat.zero_le _, Nat.zero_le _⟩ (fun H locs hP hS => ?_)
    refine lv_if_ne (tgt := 21) hx hb dX6_allGoods_16 (by decide) (fun q7 => ?_) (fun q7 => ?_)
    · rw [if_neg q7] at hf
      refine lv_iconst (v := 0) hx hb dX6_allGoods_21 (by decide) ?_
      refine lv_istore_n (lv' := [(2, .int 0), (0, .ref (ad 0)), (1, .int a0)]) hx hb dX6_allGoods_22 rfl hl (by decide) rfl (fun ls hl => ?_)
      refine lv_iconst (v := 0) hx hb dX6_allGoods_23 (by decide) ?_
      refine lv_istore_n (lv' := [(3, .int 0), (2, .int 0), (0, .ref (ad 0)), (1, .int a0)]) hx hb dX6_allGoods_24 rfl hl (by decide) rfl (fun ls hl => ?_)
      obtain ⟨K12, eK12, hf⟩ := lp_e2 (b := fun K => L_X6_allGoods_25 FU K a0 0 0 σ6) hf
      replace hf : L_X6_allGoods_25 FU K12 a0 0 0 σ6 = some (r, σr) := hf
      have hKK12 : ∀ (x13 : Int32) (σ14 : Mem) (H : Heap) (locs : List Loc) (ls : Array Slot), K12 x13 σ14 = some (r, σr) → va_P D vwCl (wsG 25 ad (EM ad cI) σ14) H → va_S (AG 25 ad s.heap.size) s.heap H locs → lv_has ls 4 [(0, .ref (ad 0)), (1, .int a0), (2, .int x13)] → W p l e R s m args below meth c H locs 0 0 Q (F0 m 52 ls []) := by
        intro x13 σ14 H locs ls hf hP hS hl
        rw [eK12] at hf
        refine lv_iconst (v := 0) hx hb dX6_allGoods_52 (by decide) ?_
        refine lv_istore_n (lv' := [(3, .int 0), (0, .ref (ad 0)), (1, .int a0), (2, .int x13)]) hx hb dX6_allGoods_53 rfl hl (by decide) rfl (fun ls hl => ?_)
        obtain ⟨K19, eK19, hf⟩ := lp_e2 (b := fun K => L_X6_allGoods_54 FU K a0 x13 0 σ14) hf
        replace hf : L_X6_allGoods_54 FU K19 a0 x13 0 σ14 = some (r, σr) := hf
        have hKK19 : ∀ (x20 : Int32) (σ21 : Mem) (H : Heap) (locs : List Loc) (ls : Array Slot), K19 x20 σ21 = some (r, σr) → va_P D vwCl (wsG 25 ad (EM ad cI) σ21) H → va_S (AG 25 ad s.heap.size) s.heap H locs → lv_has ls 4 [(2, .int x20)] → W p l e R s m args below meth c H locs 0 0 Q (F0 m 90 ls []) := by
          intro x20 σ21 H locs ls hf hP hS hl
          rw [eK19] at hf
          refine lv_iload_n hx hb dX6_allGoods_90 rfl (lv_at hl 0 rfl) ?_
          obtain ⟨h1, h2⟩ := rt2 hf
          rw [hQ]
          exact g_iret hx hb hr hlocks hP hS h1 h2 dX6_allGoods_91
        have hL_X6_allGoods_54 : ∀ (n : Nat) (x16 : Int32) (x17 : Int32) (σ18 : Mem) (H : Heap) (locs : List Loc) (ls : Array Slot), L_X6_allGoods_54 n K19 a0 x16 x17 σ18 = some (r, σr) → va_P D vwCl (wsG 25 ad (EM ad cI) σ18) H → va_S (AG 25 ad s.heap.size) s.heap H locs → lv_has ls 4 [(0, .ref (ad 0)), (1, .int a0), (2, .int x16), (3, .int x17)] → W p l e R s m args below meth c H locs 0 0 Q (F0 m 54 ls []) := by
          intro n
          induction n with
          | zero => intro x16 x17 σ18 H locs ls hf; cases hf
          | succ n ih =>
            intro x16 x17 σ18 H locs ls hf hP hS hl
            rw [L_X6_allGoods_54] at hf
            refine lv_iload_n hx hb dX6_allGoods_54 rfl (lv_at hl 3 rfl) ?_
            refine lv_bipush (v := 8) hx hb dX6_allGoods_55 (by decide) ?_
            refine lv_icmp_ge (tgt := 90) hx hb dX6_allGoods_57 (by decide) (fun q22 => ?_) (fun q22 => ?_)
            · rw [if_pos q22] at hf
              exact hKK19 x16 σ18 _ _ ls hf hP hS (lv_sub hl [2] rfl)
            · rw [if_neg q22] at hf
              refine lv_iload_n hx hb dX6_allGoods_60 rfl (lv_at hl 2 rfl) ?_
              refine lv_aload_n hx hb dX6_allGoods_61 rfl (lv_at hl 0 rfl) ?_
              refine g_get (v := .ref (ad 2)) hx hb hB hown hK hP 0 (by decide) rfl rfl kU_X6 1 (by decide) kF_X6_13 rfl rfl dX6_allGoods_62 ?_
              refine lv_iconst (v := 5) hx hb dX6_allGoods_65 (by decide) ?_
              refine lv_iload_n hx hb dX6_allGoods_66 rfl (lv_at hl 3 rfl) ?_
              refine lv_imul hx hb dX6_allGoods_67 ?_
              refine lv_iload_n hx hb dX6_allGoods_68 rfl (lv_at hl 1 rfl) ?_
              refine lv_iadd hx hb dX6_allGoods_69 ?_
              obtain ⟨hin, hf⟩ := gd_e hf
              refine g_iald hx hb hK hP 2 40 (by decide) rfl hin dX6_allGoods_70 ?_
              refine lv_aload_n hx hb dX6_allGoods_71 rfl (lv_at hl 0 rfl) ?_
              refine g_get (v := .ref (ad 5)) hx hb hB hown hK hP 0 (by decide) rfl rfl kU_X6 4 (by decide) kF_X6_22 rfl rfl dX6_allGoods_72 ?_
              refine lv_iconst (v := 5) hx hb dX6_allGoods_75 (by decide) ?_
              refine lv_iload_n hx hb dX6_allGoods_76 rfl (lv_at hl 3 rfl) ?_
              refine lv_imul hx hb dX6_allGoods_77 ?_
              refine lv_iload_n hx hb dX6_allGoods_78 rfl (lv_at hl 1 rfl) ?_
              refine lv_iadd hx hb dX6_allGoods_79 ?_
              obtain ⟨hin, hf⟩ := gd_e hf
              refine g_iald hx hb hK hP 5 40 (by decide) rfl hin dX6_allGoods_80 ?_
              refine lv_iadd hx hb dX6_allGoods_81 ?_
              refine lv_iadd hx hb dX6_allGoods_82 ?_
              refine lv_istore_n (lv' := [(2, .int (x16 + ((σ18 2 ((5 * x17) + a0).toNatClampNeg) + (σ18 5 ((5 * x17) + a0).toNatClampNeg)))), (0, .ref (ad 0)), (1, .int a0), (3, .int x17)]) hx hb dX6_allGoods_83 rfl hl (by decide) rfl (fun ls hl => ?_)
              refine lv_iinc (v := (x17 + 1)) (lv' := [(3, .int (x17 + 1)), (2, .int (x16 + ((σ18 2 ((5 * x17) + a0).toNatClampNeg) + (σ18 5 ((5 * x17) + a0).toNatClampNeg)))), (0, .ref (ad 0)), (1, .int a0)]) hx hb dX6_allGoods_84 hl (k := 3) rfl rfl (by decide) rfl (fun ls hl => ?_)
              refine lv_goto (tgt := 54) hx hb dX6_allGoods_87 (by decide) ?_
              exact ih (x16 + ((σ18 2 ((5 * x17) + a0).toNatClampNeg) + (σ18 5 ((5 * x17) + a0).toNatClampNeg))) (x17 + 1) σ18 _ _ ls hf hP hS (lv_sub hl [2, 3, 1, 0] rfl)
        exact hL_X6_allGoods_54 FU x13 0 σ14 _ _ ls hf hP hS (lv_sub hl [1, 2, 3, 0] rfl)
      have hL_X6_allGoods_25 : ∀ (n : Nat) (x9 : Int32) (x10 : Int32) (σ11 : Mem) (H : Heap) (locs : List Loc) (ls : Array Slot), L_X6_allGoods_25 n K12 a0 x9 x10 σ11 = some (r, σr) → va_P D vwCl (wsG 25 ad (EM ad cI) σ11) H → va_S (AG 25 ad s.heap.size) s.heap H locs → lv_has ls 4 [(0, .ref (ad 0)), (1, .int a0), (2, .int x9), (3, .int x10)] → W p l e R s m args below meth c H locs 0 0 Q (F0 m 25 ls []) := by
        intro n
        induction n with
        | zero => intro x9 x10 σ11 H locs ls hf; cases hf
        | succ n ih =>
          intro x9 x10 σ11 H locs ls hf hP hS hl
          rw [L_X6_allGoods_25] at hf
          refine lv_iload_n hx hb dX6_allGoods_25 rfl (lv_at hl 3 rfl) ?_
          refine lv_aload_n hx hb dX6_allGoods_26 rfl (lv_at hl 0 rfl) ?_
          refine g_get (v := .int (σ11 0 5)) hx hb hB hown hK hP 0 (by decide) rfl rfl kU_X6 5 (by decide) kF_X6_93 rfl rfl dX6_allGoods_27 ?_
          refine lv_icmp_ge (tgt := 52) hx hb dX6_allGoods_30 (by decide) (fun q23 => ?_) (fun q23 => ?_)
          · rw [if_pos q23] at hf
            exact hKK12 x9 σ11 _ _ ls hf hP hS (lv_sub hl [0, 1, 2] rfl)
          · rw [if_neg q23] at hf
            refine lv_iload_n hx hb dX6_allGoods_33 rfl (lv_at hl 2 rfl) ?_
            refine lv_aload_n hx hb dX6_allGoods_34 rfl (lv_at hl 0 rfl) ?_
            refine g_get (v := .ref (ad 11)) hx hb hB hown hK hP 0 (by decide) rfl rfl kU_X6 11 (by decide) kF_X6_40 rfl rfl dX6_allGoods_35 ?_
            refine lv_iconst (v := 5) hx hb dX6_allGoods_38 (by decide) ?_
            refine lv_iload_n hx hb dX6_allGoods_39 rfl (lv_at hl 3 rfl) ?_
            refine lv_imul hx hb dX6_allGoods_40 ?_
            refine lv_iload_n hx hb dX6_allGoods_41 rfl (lv_at hl 1 rfl) ?_
            refine lv_iadd hx hb dX6_allGoods_42 ?_
            obtain ⟨hin, hf⟩ := gd_e hf
            refine g_iald hx hb hK hP 11 20 (by decide) rfl hin dX6_allGoods_43 ?_
            refine lv_iadd hx hb dX6_allGoods_44 ?_
            refine lv_istore_n (lv' := [(2, .int (x9 + (σ11 11 ((5 * x10) + a0).toNatClampNeg))), (0, .ref (ad 0)), (1, .int a0), (3, .int x10)]) hx hb dX6_allGoods_45 rfl hl (by decide) rfl (fun ls hl => ?_)
            refine lv_iinc (v := (x10 + 1)) (lv' := [(3, .int (x10 + 1)), (2, .int (x9 + (σ11 11 ((5 * x10) + a0).toNatClampNeg))), (0, .ref (ad 0)), (1, .int a0)]) hx hb dX6_allGoods_46 hl (k := 3) rfl rfl (by decide) rfl (fun ls hl => ?_)
            refine lv_goto (tgt := 25) hx hb dX6_allGoods_49 (by decide) ?_
            exact ih (x9 + (σ11 11 ((5 * x10) + a0).toNatClampNeg)) (x10 + 1) σ11 _ _ ls hf hP hS (lv_sub hl [2, 3, 1, 0] rfl)
      exact hL_X6_allGoods_25 FU 0 0 σ6 _ _ ls hf hP hS (lv_sub hl [2, 3, 1, 0] rfl)
    · rw [if_pos q7] at hf
      refine lv_iconst (v := 0) hx hb dX6_allGoods_19 (by decide) ?_
      obtain ⟨h1, h2⟩ := rt2 hf
      rw [hQ]
      exact g_iret hx hb hr hlocks hP hS h1 h2 dX6_allGoods_20
  refine lv_if_eq (tgt := 12) hx hb dX6_allGoods_5 (by decide) (fun q24 => ?_) (fun q24 => ?_)
  · rw [if_pos q24] at hf
    refine lv_iconst (v := 1) hx hb dX6_allGoods_12 (by decide) ?_
    exact hJ4 1 σ _ _ ls hf hP hS (lv_sub hl [0, 1] rfl)
  · rw [if_neg q24] at hf
    refine lv_iconst (v := 0) hx hb dX6_allGoods_8 (by decide) ?_
    refine lv_goto (tgt := 13) hx hb dX6_allGoods_9 (by decide) ?_
    exact hJ4 0 σ _ _ ls hf hP hS (lv_sub hl [0, 1] rfl)
def f_X6_calls (σ : Mem) : Option (Int32 × Mem) :=
stp (mu σ 0 29 0) fun σ1 =>
some ((σ1 0 23), σ1)
set_option maxHeartbeats 4000000 in
set_option maxRecDepth 100000 in
theorem c_X6_calls {l : Launch} {D : va_G} {cI cJ : ClassId} {ad : Nat → Nat} {σ : Mem} {r : Int32} {σr : Mem}  (hi : injG 25 ad) (hf : f_X6_calls σ = some (r, σr)) : MGi l yX6_calls (Cond.code yX6_calls cX6_calls 1 (some .int) :: BIG) 0 0 D cI cJ 25 ad (EM ad cI) [.ref (ad 0)] σ σr r := by
  refine MGi.ofW (cc := cX6_calls) (nL := 1) (ret := (some .int)) (by decide) rfl hi ?_
  intro p e s m args below meth c hx hb hr hml hlocks hown hB hK hP hA hAd hS
  have hown : s.vm.findClass RX6 = some m.cls := hown
  have hl := lv_entry ([.ref (ad 0)] : List Value) (n := 1) (Nat.le_of_ble_eq_true rfl)
  rw [lg_entry_eq]
  generalize (lg_sl ([.ref (ad 0)] : List Value) ++ List.replicate (1 - (lg_sl ([.ref (ad 0)] : List Value)).length) Slot.unset).toArray = ls at hl ⊢
  have hl : lv_has ls 1 [(0, .ref (ad 0))] := hl
  generalize hQ : MQ below (Qgi D 25 ad (EM ad cI) r σr s.heap.size) _ s 0 0 (AG 25 ad s.heap.size) = Q
  have hQ := hQ.symm
  obtain ⟨R, hR, hRf, hRl⟩ : ∃ R : Room, R = ({ frames := 0, cells := 0, slots := 0, locals := 0 } : Room) ∧ 0 ≤ R.frames ∧ 0 ≤ R.locals := ⟨_, rfl, Nat.le_refl _, Nat.le_refl _⟩
  rw [← hR]
  unfold f_X6_calls at hf
  refine lv_aload_n hx hb dX6_calls_0 rfl (lv_at hl 0 rfl) ?_
  refine lv_iconst (v := 0) hx hb dX6_calls_1 (by decide) ?_
  obtain ⟨σ1, eσ1, hf⟩ := stp_e hf
  refine g_put (σ1 := σ1) hx hb hB hown hK hP hi hAd hS 0 (by decide) (fun f => [.ref (ad 1), .ref (ad 2), .ref (ad 3), .ref (ad 4), .ref (ad 5), .int (f 5), .ref (ad 6), .ref (ad 7), .ref (ad 8), .ref (ad 9), .ref (ad 10), .ref (ad 11), .ref (ad 12), .ref (ad 13), .int (f 14), .int (f 15), .int (f 16), .ref (ad 14), .ref (ad 15), .ref (ad 16), .ref (ad 17), .ref (ad 18), .ref (ad 19), .int (f 23), .ref (ad 20), .ref (ad 21), .ref (ad 22), .ref (ad 23), .ref (ad 24), .int (f 29)]) (fun _ => rfl) rfl kU_X6 tyX6 tyX6_ok nmX6 29 (by decide) kF_X6_86 rfl (fun _ _ => rfl) (fun _ => Nat.le_of_ble_eq_true rfl) dX6_calls_2 eσ1 (fun H locs hP hS => ?_)
  refine lv_aload_n hx hb dX6_calls_5 rfl (lv_at hl 0 rfl) ?_
  refine g_get (v := .int (σ1 0 23)) hx hb hB hown hK hP 0 (by decide) rfl rfl kU_X6 23 (by decide) kF_X6_99 rfl rfl dX6_calls_6 ?_
  obtain ⟨h1, h2⟩ := rt2 hf
  rw [hQ]
  exact g_iret hx hb hr hlocks hP hS h1 h2 dX6_calls_9
def f_X6_wasThere (σ : Mem) (a0 a1 : Int32) : Option (Int32 × Mem) :=
bd (f_X6_isIn a0 0 (σ 0 23)) fun v1 =>
jn (fun (y2 : Int32) (σ3 : Mem) =>
bd2 (f_X6_can σ3 y2) fun v5 σ6 =>
gz v5 <| some (v5, σ6)) fun (J4 : Int32 → Mem → Option (Int32 × Mem)) =>
jn (fun (σ7 : Mem) =>
J4 1 σ7) fun (J8 : Mem → Option (Int32 × Mem)) =>
if v1 = 0 then (
J8 σ)
else (
gd a0 1100 <|
bd (f_X6_isIn a1 0 ((σ 20 a0.toNatClampNeg) - 1)) fun v10 =>
if v10 = 0 then (
J8 σ)
else (
J4 0 σ))
set_option maxHeartbeats 4000000 in
set_option maxRecDepth 100000 in
theorem c_X6_wasThere {l : Launch} {D : va_G} {cI cJ : ClassId} {ad : Nat → Nat} {σ : Mem} {a0 a1 : Int32} {r : Int32} {σr : Mem}  (hi : injG 25 ad) (hf : f_X6_wasThere σ a0 a1 = some (r, σr)) : MGi l yX6_wasThere (Cond.code yX6_wasThere cX6_wasThere 3 (some .boolean) :: BIG) 1 22 D cI cJ 25 ad (EM ad cI) [.ref (ad 0), .int a0, .int a1] σ σr r := by
  refine MGi.ofW (cc := cX6_wasThere) (nL := 3) (ret := (some .boolean)) (by decide) rfl hi ?_
  intro p e s m args below meth c hx hb hr hml hlocks hown hB hK hP hA hAd hS
  have hown : s.vm.findClass RX6 = some m.cls := hown
  have hl := lv_entry ([.ref (ad 0), .int a0, .int a1] : List Value) (n := 3) (Nat.le_of_ble_eq_true rfl)
  rw [lg_entry_eq]
  generalize (lg_sl ([.ref (ad 0), .int a0, .int a1] : List Value) ++ List.replicate (3 - (lg_sl ([.ref (ad 0), .int a0, .int a1] : List Value)).length) Slot.unset).toArray = ls at hl ⊢
  have hl : lv_has ls 3 [(0, .ref (ad 0)), (1, .int a0), (2, .int a1)] := hl
  generalize hQ : MQ below (Qgi D 25 ad (EM ad cI) r σr s.heap.size) _ s 0 0 (AG 25 ad s.heap.size) = Q
  have hQ := hQ.symm
  obtain ⟨R, hR, hRf, hRl⟩ : ∃ R : Room, R = ({ frames := 1, cells := 0, slots := 0, locals := 22 } : Room) ∧ 1 ≤ R.frames ∧ 22 ≤ R.locals := ⟨_, rfl, Nat.le_refl _, Nat.le_refl _⟩
  rw [← hR]
  unfold f_X6_wasThere at hf
  refine lv_aload_n hx hb dX6_wasThere_0 rfl (lv_at hl 0 rfl) ?_
  refine lv_iload_n hx hb dX6_wasThere_1 rfl (lv_at hl 1 rfl) ?_
  refine lv_iconst (v := 0) hx hb dX6_wasThere_2 (by decide) ?_
  refine lv_aload_n hx hb dX6_wasThere_3 rfl (lv_at hl 0 rfl) ?_
  refine g_get (v := .int (σ 0 23)) hx hb hB hown hK hP 0 (by decide) rfl rfl kU_X6 23 (by decide) kF_X6_99 rfl rfl dX6_wasThere_4 ?_
  obtain ⟨v1, hv, hf⟩ := bd_e hf
  refine g_cSi0 ⟨⟨hx, hb, hml, hown, hB⟩, hK, hi, hA, hAd, hP, hS⟩ (c_X6_isIn hv) cal_X6_isIn kM_X6_89 ⟨Nat.le_trans (Nat.le_of_ble_eq_true rfl) hRf, Nat.le_trans (Nat.le_of_ble_eq_true rfl) hRl⟩ rfl hl.1 (Nat.le_of_ble_eq_true rfl) rfl dX6_wasThere_7 ⟨Nat.zero_le _, Nat.zero_le _⟩ (fun H locs hP hS => ?_)
  obtain ⟨J4, eJ4, hf⟩ := jn_e2 hf
  have hJ4 : ∀ (y2 : Int32) (σ3 : Mem) (H : Heap) (locs : List Loc) (ls : Array Slot), J4 y2 σ3 = some (r, σr) → va_P D vwCl (wsG 25 ad (EM ad cI) σ3) H → va_S (AG 25 ad s.heap.size) s.heap H locs → lv_has ls 3 [] → W p l e R s m args below meth c H locs 0 0 Q (F0 m 34 ls [.int y2, .ref (ad 0)]) := by
    intro y2 σ3 H locs ls hf hP hS hl
    rw [eJ4] at hf
    obtain ⟨v5, σ6, hv, hf⟩ := bd2_e hf
    refine g_cViS (k0 := 0) ⟨⟨hx, hb, hml, hown, hB⟩, hK, hi, hA, hAd, hP, hS⟩ (c_X6_can hi hv) cal_X6_can kM_X6_110 ⟨Nat.le_trans (Nat.le_of_ble_eq_true rfl) hRf, Nat.le_trans (Nat.le_of_ble_eq_true rfl) hRl⟩ (by decide) rfl rfl rfl hl.1 (Nat.le_of_ble_eq_true rfl) rfl dX6_wasThere_34 ⟨Nat.zero_le _, Nat.zero_le _⟩ (fun H locs hP hS => ?_)
    obtain ⟨hz, hf⟩ := gz_e hf
    obtain ⟨h1, h2⟩ := rt2 hf
    rw [hQ]
    exact g_zret hx hb hr hlocks hP hS hz h1 h2 dX6_wasThere_37
  obtain ⟨J8, eJ8, hf⟩ := jn_e1 hf
  have hJ8 : ∀ (σ7 : Mem) (H : Heap) (locs : List Loc) (ls : Array Slot), J8 σ7 = some (r, σr) → va_P D vwCl (wsG 25 ad (EM ad cI) σ7) H → va_S (AG 25 ad s.heap.size) s.heap H locs → lv_has ls 3 [] → W p l e R s m args below meth c H locs 0 0 Q (F0 m 33 ls [.ref (ad 0)]) := by
    intro σ7 H locs ls hf hP hS hl
    rw [eJ8] at hf
    refine lv_iconst (v := 1) hx hb dX6_wasThere_33 (by decide) ?_
    exact hJ4 1 σ7 _ _ ls hf hP hS (lv_sub hl [] rfl)
  refine lv_if_eq (tgt := 33) hx hb dX6_wasThere_10 (by decide) (fun q9 => ?_) (fun q9 => ?_)
  · rw [if_pos q9] at hf
    exact hJ8 σ _ _ ls hf hP hS (lv_sub hl [] rfl)
  · rw [if_neg q9] at hf
    refine lv_iload_n hx hb dX6_wasThere_13 rfl (lv_at hl 2 rfl) ?_
    refine lv_iconst (v := 0) hx hb dX6_wasThere_14 (by decide) ?_
    refine lv_aload_n hx hb dX6_wasThere_15 rfl (lv_at hl 0 rfl) ?_
    refine g_get (v := .ref (ad 20)) hx hb hB hown hK hP 0 (by decide) rfl rfl kU_X6 24 (by decide) kF_X6_67 rfl rfl dX6_wasThere_16 ?_
    refine lv_iload_n hx hb dX6_wasThere_19 rfl (lv_at hl 1 rfl) ?_
    obtain ⟨hin, hf⟩ := gd_e hf
    refine g_iald hx hb hK hP 20 1100 (by decide) rfl hin dX6_wasThere_20 ?_
    refine lv_iconst (v := 1) hx hb dX6_wasThere_21 (by decide) ?_
    refine lv_isub hx hb dX6_wasThere_22 ?_
    obtain ⟨v10, hv, hf⟩ := bd_e hf
    refine g_cSi0 ⟨⟨hx, hb, hml, hown, hB⟩, hK, hi, hA, hAd, hP, hS⟩ (c_X6_isIn hv) cal_X6_isIn kM_X6_89 ⟨Nat.le_trans (Nat.le_of_ble_eq_true rfl) hRf, Nat.le_trans (Nat.le_of_ble_eq_true rfl) hRl⟩ rfl hl.1 (Nat.le_of_ble_eq_true rfl) rfl dX6_wasThere_23 ⟨Nat.zero_le _, Nat.zero_le _⟩ (fun H locs hP hS => ?_)
    refine lv_if_eq (tgt := 33) hx hb dX6_wasThere_26 (by decide) (fun q11 => ?_) (fun q11 => ?_)
    · rw [if_pos q11] at hf
      exact hJ8 σ _ _ ls hf hP hS (lv_sub hl [] rfl)
    · rw [if_neg q11] at hf
      refine lv_iconst (v := 0) hx hb dX6_wasThere_29 (by decide) ?_
      refine lv_goto (tgt := 34) hx hb dX6_wasThere_30 (by decide) ?_
      exact hJ4 0 σ _ _ ls hf hP hS (lv_sub hl [] rfl)
def f_X6_roomAfter (σ : Mem) (a0 a1 : Int32) : Option (Int32 × Mem) :=
bd2 (f_X6_wasThere σ a0 a1) fun v1 σ2 =>
if v1 = 0 then (
some (0, σ2))
else (
gd ((4 * a0) + a1) 4400 <|
some ((σ2 22 ((4 * a0) + a1).toNatClampNeg), σ2))
set_option maxHeartbeats 4000000 in
set_option maxRecDepth 100000 in
theorem c_X6_roomAfter {l : Launch} {D : va_G} {cI cJ : ClassId} {ad : Nat → Nat} {σ : Mem} {a0 a1 : Int32} {r : Int32} {σr : Mem}  (hi : injG 25 ad) (hf : f_X6_roomAfter σ a0 a1 = some (r, σr)) : MGi l yX6_roomAfter (Cond.code yX6_roomAfter cX6_roomAfter 3 (some .int) :: BIG) 2 44 D cI cJ 25 ad (EM ad cI) [.ref (ad 0), .int a0, .int a1] σ σr r := by
  refine MGi.ofW (cc := cX6_roomAfter) (nL := 3) (ret := (some .int)) (by decide) rfl hi ?_
  intro p e s m args below meth c hx hb hr hml hlocks hown hB hK hP hA hAd hS
  have hown : s.vm.findClass RX6 = some m.cls := hown
  have hl := lv_entry ([.ref (ad 0), .int a0, .int a1] : List Value) (n := 3) (Nat.le_of_ble_eq_true rfl)
  rw [lg_entry_eq]
  generalize (lg_sl ([.ref (ad 0), .int a0, .int a1] : List Value) ++ List.replicate (3 - (lg_sl ([.ref (ad 0), .int a0, .int a1] : List Value)).length) Slot.unset).toArray = ls at hl ⊢
  have hl : lv_has ls 3 [(0, .ref (ad 0)), (1, .int a0), (2, .int a1)] := hl
  generalize hQ : MQ below (Qgi D 25 ad (EM ad cI) r σr s.heap.size) _ s 0 0 (AG 25 ad s.heap.size) = Q
  have hQ := hQ.symm
  obtain ⟨R, hR, hRf, hRl⟩ : ∃ R : Room, R = ({ frames := 2, cells := 0, slots := 0, locals := 44 } : Room) ∧ 2 ≤ R.frames ∧ 44 ≤ R.locals := ⟨_, rfl, Nat.le_refl _, Nat.le_refl _⟩
  rw [← hR]
  unfold f_X6_roomAfter at hf
  refine lv_aload_n hx hb dX6_roomAfter_0 rfl (lv_at hl 0 rfl) ?_
  refine lv_iload_n hx hb dX6_roomAfter_1 rfl (lv_at hl 1 rfl) ?_
  refine lv_iload_n hx hb dX6_roomAfter_2 rfl (lv_at hl 2 rfl) ?_
  obtain ⟨v1, σ2, hv, hf⟩ := bd2_e hf
  refine g_cViS (k0 := 0) ⟨⟨hx, hb, hml, hown, hB⟩, hK, hi, hA, hAd, hP, hS⟩ (c_X6_wasThere hi hv) cal_X6_wasThere kM_X6_167 ⟨Nat.le_trans (Nat.le_of_ble_eq_true rfl) hRf, Nat.le_trans (Nat.le_of_ble_eq_true rfl) hRl⟩ (by decide) rfl rfl rfl hl.1 (Nat.le_of_ble_eq_true rfl) rfl dX6_roomAfter_3 ⟨Nat.zero_le _, Nat.zero_le _⟩ (fun H locs hP hS => ?_)
  refine lv_if_eq (tgt := 22) hx hb dX6_roomAfter_6 (by decide) (fun q3 => ?_) (fun q3 => ?_)
  · rw [if_pos q3] at hf
    refine lv_iconst (v := 0) hx hb dX6_roomAfter_22 (by decide) ?_
    obtain ⟨h1, h2⟩ := rt2 hf
    rw [hQ]
    exact g_iret hx hb hr hlocks hP hS h1 h2 dX6_roomAfter_23
  · rw [if_neg q3] at hf
    refine lv_aload_n hx hb dX6_roomAfter_9 rfl (lv_at hl 0 rfl) ?_
    refine g_get (v := .ref (ad 22)) hx hb hB hown hK hP 0 (by decide) rfl rfl kU_X6 26 (by decide) kF_X6_73 rfl rfl dX6_roomAfter_10 ?_
    refine lv_iconst (v := 4) hx hb dX6_roomAfter_13 (by decide) ?_
    refine lv_iload_n hx hb dX6_roomAfter_14 rfl (lv_at hl 1 rfl) ?_
    refine lv_imul hx hb dX6_roomAfter_15 ?_
    refine lv_iload_n hx hb dX6_roomAfter_16 rfl (lv_at hl 2 rfl) ?_
    refine lv_iadd hx hb dX6_roomAfter_17 ?_
    obtain ⟨hin, hf⟩ := gd_e hf
    refine g_iald hx hb hK hP 22 4400 (by decide) rfl hin dX6_roomAfter_18 ?_
    refine lv_goto (tgt := 23) hx hb dX6_roomAfter_19 (by decide) ?_
    obtain ⟨h1, h2⟩ := rt2 hf
    rw [hQ]
    exact g_iret hx hb hr hlocks hP hS h1 h2 dX6_roomAfter_23
def f_X6_coinsAfter (σ : Mem) (a0 a1 : Int32) : Option (Int32 × Mem) :=
bd2 (f_X6_wasThere σ a0 a1) fun v1 σ2 =>
if v1 = 0 then (
some (0, σ2))
else (
gd ((4 * a0) + a1) 4400 <|
some ((σ2 23 ((4 * a0) + a1).toNatClampNeg), σ2))
set_option maxHeartbeats 4000000 in
set_option maxRecDepth 100000 in
theorem c_X6_coinsAfter {l : Launch} {D : va_G} {cI cJ : ClassId} {ad : Nat → Nat} {σ : Mem} {a0 a1 : Int32} {r : Int32} {σr : Mem}  (hi : injG 25 ad) (hf : f_X6_coinsAfter σ a0 a1 = some (r, σr)) : MGi l yX6_coinsAfter (Cond.code yX6_coinsAfter cX6_coinsAfter 3 (some .int) :: BIG) 2 44 D cI cJ 25 ad (EM ad cI) [.ref (ad 0), .int a0, .int a1] σ σr r := by
  refine MGi.ofW (cc := cX6_coinsAfter) (nL := 3) (ret := (some .int)) (by decide) rfl hi ?_
  intro p e s m args below meth c hx hb hr hml hlocks hown hB hK hP hA hAd hS
  have hown : s.vm.findClass RX6 = some m.cls := hown
  have hl := lv_entry ([.ref (ad 0), .int a0, .int a1] : List Value) (n := 3) (Nat.le_of_ble_eq_true rfl)
  rw [lg_entry_eq]
  generalize (lg_sl ([.ref (ad 0), .int a0, .int a1] : List Value) ++ List.replicate (3 - (lg_sl ([.ref (ad 0), .int a0, .int a1] : List Value)).length) Slot.unset).toArray = ls at hl ⊢
  have hl : lv_has ls 3 [(0, .ref (ad 0)), (1, .int a0), (2, .int a1)] := hl
  generalize hQ : MQ below (Qgi D 25 ad (EM ad cI) r σr s.heap.size) _ s 0 0 (AG 25 ad s.heap.size) = Q
  have hQ := hQ.symm
  obtain ⟨R, hR, hRf, hRl⟩ : ∃ R : Room, R = ({ frames := 2, cells := 0, slots := 0, locals := 44 } : Room) ∧ 2 ≤ R.frames ∧ 44 ≤ R.locals := ⟨_, rfl, Nat.le_refl _, Nat.le_refl _⟩
  rw [← hR]
  unfold f_X6_coinsAfter at hf
  refine lv_aload_n hx hb dX6_coinsAfter_0 rfl (lv_at hl 0 rfl) ?_
  refine lv_iload_n hx hb dX6_coinsAfter_1 rfl (lv_at hl 1 rfl) ?_
  refine lv_iload_n hx hb dX6_coinsAfter_2 rfl (lv_at hl 2 rfl) ?_
  obtain ⟨v1, σ2, hv, hf⟩ := bd2_e hf
  refine g_cViS (k0 := 0) ⟨⟨hx, hb, hml, hown, hB⟩, hK, hi, hA, hAd, hP, hS⟩ (c_X6_wasThere hi hv) cal_X6_wasThere kM_X6_167 ⟨Nat.le_trans (Nat.le_of_ble_eq_true rfl) hRf, Nat.le_trans (Nat.le_of_ble_eq_true rfl) hRl⟩ (by decide) rfl rfl rfl hl.1 (Nat.le_of_ble_eq_true rfl) rfl dX6_coinsAfter_3 ⟨Nat.zero_le _, Nat.zero_le _⟩ (fun H locs hP hS => ?_)
  refine lv_if_eq (tgt := 22) hx hb dX6_coinsAfter_6 (by decide) (fun q3 => ?_) (fun q3 => ?_)
  · rw [if_pos q3] at hf
    refine lv_iconst (v := 0) hx hb dX6_coinsAfter_22 (by decide) ?_
    obtain ⟨h1, h2⟩ := rt2 hf
    rw [hQ]
    exact g_iret hx hb hr hlocks hP hS h1 h2 dX6_coinsAfter_23
  · rw [if_neg q3] at hf
    refine lv_aload_n hx hb dX6_coinsAfter_9 rfl (lv_at hl 0 rfl) ?_
    refine g_get (v := .ref (ad 23)) hx hb hB hown hK hP 0 (by decide) rfl rfl kU_X6 27 (by decide) kF_X6_76 rfl rfl dX6_coinsAfter_10 ?_
    refine lv_iconst (v := 4) hx hb dX6_coinsAfter_13 (by decide) ?_
    refine lv_iload_n hx hb dX6_coinsAfter_14 rfl (lv_at hl 1 rfl) ?_
    refine lv_imul hx hb dX6_coinsAfter_15 ?_
    refine lv_iload_n hx hb dX6_coinsAfter_16 rfl (lv_at hl 2 rfl) ?_
    refine lv_iadd hx hb dX6_coinsAfter_17 ?_
    obtain ⟨hin, hf⟩ := gd_e hf
    refine g_iald hx hb hK hP 23 4400 (by decide) rfl hin dX6_coinsAfter_18 ?_
    refine lv_goto (tgt := 23) hx hb dX6_coinsAfter_19 (by decide) ?_
    obtain ⟨h1, h2⟩ := rt2 hf
    rw [hQ]
    exact g_iret hx hb hr hlocks hP hS h1 h2 dX6_coinsAfter_23
def f_X6_turnAfter (σ : Mem) (a0 : Int32) : Option (Int32 × Mem) :=
bd (f_X6_isIn a0 0 (σ 0 23)) fun v1 =>
jn (fun (y2 : Int32) (σ3 : Mem) =>
bd2 (f_X6_can σ3 y2) fun v5 σ6 =>
if v5 = 0 then (
some (0, σ6))
else (
gd a0 1100 <|
some ((σ6 21 a0.toNatClampNeg), σ6))) fun (J4 : Int32 → Mem → Option (Int32 × Mem)) =>
if v1 = 0 then (
J4 1 σ)
else (
J4 0 σ)
set_option maxHeartbeats 4000000 in
set_option maxRecDepth 100000 in
theorem c_X6_turnAfter {l : Launch} {D : va_G} {cI cJ : ClassId} {ad : Nat → Nat} {σ : Mem} {a0 : Int32} {r : Int32} {σr : Mem}  (hi : injG 25 ad) (hf : f_X6_turnAfter σ a0 = some (r, σr)) : MGi l yX6_turnAfter (Cond.code yX6_turnAfter cX6_turnAfter 2 (some .int) :: BIG) 1 22 D cI cJ 25 ad (EM ad cI) [.ref (ad 0), .int a0] σ σr r := by
  refine MGi.ofW (cc := cX6_turnAfter) (nL := 2) (ret := (some .int)) (by decide) rfl hi ?_
  intro p e s m args below meth c hx hb hr hml hlocks hown hB hK hP hA hAd hS
  have hown : s.vm.findClass RX6 = some m.cls := hown
  have hl := lv_entry ([.ref (ad 0), .int a0] : List Value) (n := 2) (Nat.le_of_ble_eq_true rfl)
  rw [lg_entry_eq]
  generalize (lg_sl ([.ref (ad 0), .int a0] : List Value) ++ List.replicate (2 - (lg_sl ([.ref (ad 0), .int a0] : List Value)).length) Slot.unset).toArray = ls at hl ⊢
  have hl : lv_has ls 2 [(0, .ref (ad 0)), (1, .int a0)] := hl
  generalize hQ : MQ below (Qgi D 25 ad (EM ad cI) r σr s.heap.size) _ s 0 0 (AG 25 ad s.heap.size) = Q
  have hQ := hQ.symm
  obtain ⟨R, hR, hRf, hRl⟩ : ∃ R : Room, R = ({ frames := 1, cells := 0, slots := 0, locals := 22 } : Room) ∧ 1 ≤ R.frames ∧ 22 ≤ R.locals := ⟨_, rfl, Nat.le_refl _, Nat.le_refl _⟩
  rw [← hR]
  unfold f_X6_turnAfter at hf
  refine lv_aload_n hx hb dX6_turnAfter_0 rfl (lv_at hl 0 rfl) ?_
  refine lv_iload_n hx hb dX6_turnAfter_1 rfl (lv_at hl 1 rfl) ?_
  refine lv_iconst (v := 0) hx hb dX6_turnAfter_2 (by decide) ?_
  refine lv_aload_n hx hb dX6_turnAfter_3 rfl (lv_at hl 0 rfl) ?_
  refine g_get (v := .int (σ 0 23)) hx hb hB hown hK hP 0 (by decide) rfl rfl kU_X6 23 (by decide) kF_X6_99 rfl rfl dX6_turnAfter_4 ?_
  obtain ⟨v1, hv, hf⟩ := bd_e hf
  refine g_cSi0 ⟨⟨hx, hb, hml, hown, hB⟩, hK, hi, hA, hAd, hP, hS⟩ (c_X6_isIn hv) cal_X6_isIn kM_X6_89 ⟨Nat.le_trans (Nat.le_of_ble_eq_true rfl) hRf, Nat.le_trans (Nat.le_of_ble_eq_true rfl) hRl⟩ rfl hl.1 (Nat.le_of_ble_eq_true rfl) rfl dX6_turnAfter_7 ⟨Nat.zero_le _, Nat.zero_le _⟩ (fun H locs hP hS => ?_)
  obtain ⟨J4, eJ4, hf⟩ := jn_e2 hf
  have hJ4 : ∀ (y2 : Int32) (σ3 : Mem) (H : Heap) (locs : List Loc) (ls : Array Slot), J4 y2 σ3 = some (r, σr) → va_P D vwCl (wsG 25 ad (EM ad cI) σ3) H → va_S (AG 25 ad s.heap.size) s.heap H locs → lv_has ls 2 [(0, .ref (ad 0)), (1, .int a0)] → W p l e R s m args below meth c H locs 0 0 Q (F0 m 18 ls [.int y2, .ref (ad 0)]) := by
    intro y2 σ3 H locs ls hf hP hS hl
    rw [eJ4] at hf
    obtain ⟨v5, σ6, hv, hf⟩ := bd2_e hf
    refine g_cViS (k0 := 0) ⟨⟨hx, hb, hml, hown, hB⟩, hK, hi, hA, hAd, hP, hS⟩ (c_X6_can hi hv) cal_X6_can kM_X6_110 ⟨Nat.le_trans (Nat.le_of_ble_eq_true rfl) hRf, Nat.le_trans (Nat.le_of_ble_eq_true rfl) hRl⟩ (by decide) rfl rfl rfl hl.1 (Nat.le_of_ble_eq_true rfl) rfl dX6_turnAfter_18 ⟨Nat.zero_le _, Nat.zero_le _⟩ (fun H locs hP hS => ?_)
    refine lv_if_eq (tgt := 33) hx hb dX6_turnAfter_21 (by decide) (fun q7 => ?_) (fun q7 => ?_)
    · rw [if_pos q7] at hf
      refine lv_iconst (v := 0) hx hb dX6_turnAfter_33 (by decide) ?_
      obtain ⟨h1, h2⟩ := rt2 hf
      rw [hQ]
      exact g_iret hx hb hr hlocks hP hS h1 h2 dX6_turnAfter_34
    · rw [if_neg q7] at hf
      refine lv_aload_n hx hb dX6_turnAfter_24 rfl (lv_at hl 0 rfl) ?_
      refine g_get (v := .ref (ad 21)) hx hb hB hown hK hP 0 (by decide) rfl rfl kU_X6 25 (by decide) kF_X6_70 rfl rfl dX6_turnAfter_25 ?_
      refine lv_iload_n hx hb dX6_turnAfter_28 rfl (lv_at hl 1 rfl) ?_
      obtain ⟨hin, hf⟩ := gd_e hf
      refine g_iald hx hb hK hP 21 1100 (by decide) rfl hin dX6_turnAfter_29 ?_
      refine lv_goto (tgt := 34) hx hb dX6_turnAfter_30 (by decide) ?_
      obtain ⟨h1, h2⟩ := rt2 hf
      rw [hQ]
      exact g_iret hx hb hr hlocks hP hS h1 h2 dX6_turnAfter_34
  refine lv_if_eq (tgt := 17) hx hb dX6_turnAfter_10 (by decide) (fun q8 => ?_) (fun q8 => ?_)
  · rw [if_pos q8] at hf
    refine lv_iconst (v := 1) hx hb dX6_turnAfter_17 (by decide) ?_
    exact hJ4 1 σ _ _ ls hf hP hS (lv_sub hl [0, 1] rfl)
  · rw [if_neg q8] at hf
    refine lv_iconst (v := 0) hx hb dX6_turnAfter_13 (by decide) ?_
    refine lv_goto (tgt := 18) hx hb dX6_turnAfter_14 (by decide) ?_
    exact hJ4 0 σ _ _ ls hf hP hS (lv_sub hl [0, 1] rfl)
