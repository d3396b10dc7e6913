def nz {α : Type} (v : Int32) (a : Option α) : Option α := if v = 0 then none else a
theorem nz_e {α : Type} {v : Int32} {a : Option α} {r : α} (h : nz v a = some r) : ¬ v = 0 ∧ a = some r := by
  unfold nz at h
  by_cases q : v = 0
  · rw [if_pos q] at h; cases h
  · rw [if_neg q] at h; exact ⟨q, h⟩
theorem kC2_L_126 : Cond.constantLong RL 126 65535 ∈ BIG := by decide +kernel
theorem lv_iremJ {p : Program} {l : Launch} {e : Env} {R : Room} {s : State} {m : MethodId} {args : Array Value} {below : List Frame} {meth : Method} {c : Code} {H : Heap} {locs : List Loc} {cells slots : Nat} {Q : State → Prop} {cc : ByteArray} {pc : Nat} {ls : Array Slot} {rest : List Value} (hexec : p.tables.exec = Jvm.exec) (hb : c.code = cc) {x y : Int32} (hdg : decode cc pc = .ok (.irem, 1)) (hne : ¬ y = 0)
    (k : W p l e R s m args below meth c H locs cells slots Q (F0 m (pc + 1) ls (.int (jrem x y) :: rest))) : W p l e R s m args below meth c H locs cells slots Q (F0 m pc ls (.int y :: .int x :: rest)) := lv_irem hexec hb hdg hne k
def f_L_acts (σ : Mem) (a0 a1 a2 : Int32) : Option (Int32 × Mem) :=
if a0 = 0 then (
bt3 (f_X5_go σ a1) (fun n93 σ92 => if n93 = 1 then (
stp (mgY σ92 σ) fun σ96 =>
some ((-7), σ96))
else if n93 = 3 then (
stp (mgY σ92 σ) fun σ98 =>
some ((-8), σ98))
else none) fun v91 σ92 =>
stp (mgY σ92 σ) fun σ94 =>
some (v91, σ94))
else (
if a0 = 1 then (
bt3 (f_X5_say σ a2) (fun n85 σ84 => if n85 = 1 then (
stp (mgY σ84 σ) fun σ88 =>
some ((-7), σ88))
else if n85 = 3 then (
stp (mgY σ84 σ) fun σ90 =>
some ((-8), σ90))
else none) fun v83 σ84 =>
stp (mgY σ84 σ) fun σ86 =>
some (v83, σ86))
else (
if a0 = 2 then (
bt3 (f_X5_shout σ a2) (fun n77 σ76 => if n77 = 1 then (
stp (mgY σ76 σ) fun σ80 =>
some ((-7), σ80))
else if n77 = 3 then (
stp (mgY σ76 σ) fun σ82 =>
some ((-8), σ82))
else none) fun v75 σ76 =>
stp (mgY σ76 σ) fun σ78 =>
some (v75, σ78))
else (
if a0 = 3 then (
bt3 (f_X5_take σ a1) (fun n69 σ68 => if n69 = 1 then (
stp (mgY σ68 σ) fun σ72 =>
some ((-7), σ72))
else if n69 = 3 then (
stp (mgY σ68 σ) fun σ74 =>
some ((-8), σ74))
else none) fun v67 σ68 =>
stp (mgY σ68 σ) fun σ70 =>
some (v67, σ70))
else (
if a0 = 4 then (
bt3 (f_X5_drop σ a1) (fun n61 σ60 => if n61 = 1 then (
stp (mgY σ60 σ) fun σ64 =>
some ((-7), σ64))
else if n61 = 3 then (
stp (mgY σ60 σ) fun σ66 =>
some ((-8), σ66))
else none) fun v59 σ60 =>
stp (mgY σ60 σ) fun σ62 =>
some (v59, σ62))
else (
if a0 = 5 then (
bt3 (f_X5_give σ a2 a1) (fun n53 σ52 => if n53 = 1 then (
stp (mgY σ52 σ) fun σ56 =>
some ((-7), σ56))
else if n53 = 3 then (
stp (mgY σ52 σ) fun σ58 =>
some ((-8), σ58))
else none) fun v51 σ52 =>
stp (mgY σ52 σ) fun σ54 =>
some (v51, σ54))
else (
if a0 = 6 then (
bt3 (f_X5_pay σ a1 a2) (fun n45 σ44 => if n45 = 1 then (
stp (mgY σ44 σ) fun σ48 =>
some ((-7), σ48))
else if n45 = 3 then (
stp (mgY σ44 σ) fun σ50 =>
some ((-8), σ50))
else none) fun v43 σ44 =>
stp (mgY σ44 σ) fun σ46 =>
some (v43, σ46))
else (
if a0 = 7 then (
bt3 (f_X5_buy σ a1) (fun n37 σ36 => if n37 = 1 then (
stp (mgY σ36 σ) fun σ40 =>
some ((-7), σ40))
else if n37 = 3 then (
stp (mgY σ36 σ) fun σ42 =>
some ((-8), σ42))
else none) fun v35 σ36 =>
stp (mgY σ36 σ) fun σ38 =>
some (v35, σ38))
else (
if a0 = 8 then (
bt3 (f_X5_sell σ a1) (fun n29 σ28 => if n29 = 1 then (
stp (mgY σ28 σ) fun σ32 =>
some ((-7), σ32))
else if n29 = 3 then (
stp (mgY σ28 σ) fun σ34 =>
some ((-8), σ34))
else none) fun v27 σ28 =>
stp (mgY σ28 σ) fun σ30 =>
some (v27, σ30))
else (
if a0 = 9 then (
bt3 (f_X5_attack σ a1) (fun n21 σ20 => if n21 = 1 then (
stp (mgY σ20 σ) fun σ24 =>
some ((-7), σ24))
else if n21 = 3 then (
stp (mgY σ20 σ) fun σ26 =>
some ((-8), σ26))
else none) fun v19 σ20 =>
stp (mgY σ20 σ) fun σ22 =>
some (v19, σ22))
else (
bt3 (f_X5_rest σ) (fun n13 σ12 => if n13 = 1 then (
stp (mgY σ12 σ) fun σ16 =>
some ((-7), σ16))
else if n13 = 3 then (
stp (mgY σ12 σ) fun σ18 =>
some ((-8), σ18))
else none) fun v11 σ12 =>
stp (mgY σ12 σ) fun σ14 =>
some (v11, σ14)))))))))))
set_option maxHeartbeats 16000000 in
set_option maxRecDepth 100000 in
theorem c_L_acts {l : Launch} {D : va_G} {cI cJ : ClassId} {ad : Nat → Nat} {σ σr : Mem} {a0 a1 a2 : Int32} {r : Int32} (hflag : l.stackTraces = false) (hi : injG 54 ad) (hf : f_L_acts σ a0 a1 a2 = some (r, σr)) : MGY l yL_acts (Cond.codeWith yL_acts cL_acts 5 (some .int) [(0, 139, 140, 48), (0, 139, 145, 50)]) 9 177 1 D cI cJ 54 ad (EY ad cI cJ) [.ref (ad 48), .int a0, .int a1, .int a2] σ (fun sz => Qgi D 54 ad (EY ad cI cJ) r σr sz) := by
  refine MGY.ofWT (by decide) ?_
  intro p e s m args below meth c hx hb hr hml hlocks hT hown hB hK hZ hN hP hA hAd hS
  have hown : s.vm.findClass RL = some m.cls := hown
  have hl := lv_entry ([.ref (ad 48), .int a0, .int a1, .int a2] : List Value) (n := 5) (Nat.le_of_ble_eq_true rfl)
  rw [lg_entry_eq]
  generalize (lg_sl ([.ref (ad 48), .int a0, .int a1, .int a2] : List Value) ++ List.replicate (5 - (lg_sl ([.ref (ad 48), .int a0, .int a1, .int a2] : List Value)).length) Slot.unset).toArray = ls at hl ⊢
  have hl : lv_has ls 5 [(0, .ref (ad 48)), (1, .int a0), (2, .int a1), (3, .int a2)] := hl
  generalize hQ : MQ below (Qgi D 54 ad (EY ad cI cJ) r σr s.heap.size) _ s 1 (6 * 1) (AG 54 ad s.heap.size) = Q
  have hQ := hQ.symm
  obtain ⟨R, hR, hRf, hRl, hRc, hRs⟩ : ∃ R : Room, R = ({ frames := 9, cells := 1, slots := 6 * 1, locals := 177 } : Room) ∧ 9 ≤ R.frames ∧ 177 ≤ R.locals ∧ 1 ≤ R.cells ∧ 6 * 1 ≤ R.slots := ⟨_, rfl, Nat.le_refl _, Nat.le_refl _, Nat.le_refl _, Nat.le_refl _⟩
  rw [← hR]
  unfold f_L_acts at hf
  refine lv_iload_n hx hb dL_acts_0 rfl (lv_at hl 1 rfl) ?_
  refine lv_if_ne (tgt := 12) hx hb dL_acts_1 (by decide) (fun q1 => ?_) (fun q1 => ?_)
  · rw [if_neg q1] at hf
    refine lv_iload_n hx hb dL_acts_12 rfl (lv_at hl 1 rfl) ?_
    refine lv_iconst (v := 1) hx hb dL_acts_13 (by decide) ?_
    refine lv_icmp_ne (tgt := 25) hx hb dL_acts_14 (by decide) (fun q2 => ?_) (fun q2 => ?_)
    · rw [if_neg q2] at hf
      refine lv_iload_n hx hb dL_acts_25 rfl (lv_at hl 1 rfl) ?_
      refine lv_iconst (v := 2) hx hb dL_acts_26 (by decide) ?_
      refine lv_icmp_ne (tgt := 38) hx hb dL_acts_27 (by decide) (fun q3 => ?_) (fun q3 => ?_)
      · rw [if_neg q3] at hf
        refine lv_iload_n hx hb dL_acts_38 rfl (lv_at hl 1 rfl) ?_
        refine lv_iconst (v := 3) hx hb dL_acts_39 (by decide) ?_
        refine lv_icmp_ne (tgt := 51) hx hb dL_acts_40 (by decide) (fun q4 => ?_) (fun q4 => ?_)
        · rw [if_neg q4] at hf
          refine lv_iload_n hx hb dL_acts_51 rfl (lv_at hl 1 rfl) ?_
          refine lv_iconst (v := 4) hx hb dL_acts_52 (by decide) ?_
          refine lv_icmp_ne (tgt := 64) hx hb dL_acts_53 (by decide) (fun q5 => ?_) (fun q5 => ?_)
          · rw [if_neg q5] at hf
            refine lv_iload_n hx hb dL_acts_64 rfl (lv_at hl 1 rfl) ?_
            refine lv_iconst (v := 5) hx hb dL_acts_65 (by decide) ?_
            refine lv_icmp_ne (tgt := 78) hx hb dL_acts_66 (by decide) (fun q6 => ?_) (fun q6 => ?_)
            · rw [if_neg q6] at hf
              refine lv_iload_n hx hb dL_acts_78 rfl (lv_at hl 1 rfl) ?_
              refine lv_bipush (v := 6) hx hb dL_acts_79 (by decide) ?_
              refine lv_icmp_ne (tgt := 93) hx hb dL_acts_81 (by decide) (fun q7 => ?_) (fun q7 => ?_)
              · rw [if_neg q7] at hf
                refine lv_iload_n hx hb dL_acts_93 rfl (lv_at hl 1 rfl) ?_
                refine lv_bipush (v := 7) hx hb dL_acts_94 (by decide) ?_
                refine lv_icmp_ne (tgt := 107) hx hb dL_acts_96 (by decide) (fun q8 => ?_) (fun q8 => ?_)
                · rw [if_neg q8] at hf
                  refine lv_iload_n hx hb dL_acts_107 rfl (lv_at hl 1 rfl) ?_
                  refine lv_bipush (v := 8) hx hb dL_acts_108 (by decide) ?_
                  refine lv_icmp_ne (tgt := 121) hx hb dL_acts_110 (by decide) (fun q9 => ?_) (fun q9 => ?_)
                  · rw [if_neg q9] at hf
                    refine lv_iload_n hx hb dL_acts_121 rfl (lv_at hl 1 rfl) ?_
                    refine lv_bipush (v := 9) hx hb dL_acts_122 (by decide) ?_
                    refine lv_icmp_ne (tgt := 135) hx hb dL_acts_124 (by decide) (fun q10 => ?_) (fun q10 => ?_)
                    · rw [if_neg q10] at hf
                      refine lv_aload_n hx hb dL_acts_135 rfl (lv_at hl 0 rfl) ?_
                      rcases bt3_e hf with ⟨v11, σ12, hv, hf⟩ | ⟨n13, σ12, hn, ⟨_, hv⟩, hf⟩
                      · refine g_yVi (τ := (mgY σ12 σ)) ⟨⟨hx, hb, hml, hown, hB⟩, hK, hi, hA, hAd, hP, hS⟩ hZ sub_YX (c_X5_rest hflag (injS (by decide) hi) hv) (fun _ _ => rfl) cal_X5_rest kM_L_44 ⟨Nat.le_trans (Nat.le_of_ble_eq_true rfl) hRf, Nat.le_trans (Nat.le_of_ble_eq_true rfl) hRl⟩ 48 (by decide) rfl rfl rfl rfl hl.1 (Nat.le_of_ble_eq_true rfl) rfl dL_acts_136 ⟨by omega, by omega⟩ (mgY_1 _ _) (mgY_2 54 _ _) (fun H locs hP hS => ?_)
                        obtain ⟨σ14, eσ14, hf⟩ := stp_e hf
                        rw [← eσ14] at hP
                        obtain ⟨h1, h2⟩ := rt2 hf
                        refine W.widen (k := 1) (n := 6 * 1) (by omega) (by omega) ?_
                        rw [hQ]
                        exact g_yret hx hb hr hlocks hP hS h1 h2 dL_acts_139
                      · by_cases q15 : n13 = 1
                        · rw [if_pos q15] at hf
                          subst q15
                          obtain ⟨σ16, eσ16, hf⟩ := stp_e hf
                          refine g_yVx (τ := (mgY σ12 σ)) ⟨⟨hx, hb, hml, hown, hB⟩, hK, hi, hA, hAd, hP, hS⟩ hZ sub_YX (c_X5_rest hflag (injS (by decide) hi) hv) hn (fun _ _ => rfl) cal_X5_rest kM_L_44 ⟨Nat.le_trans (Nat.le_of_ble_eq_true rfl) hRf, Nat.le_trans (Nat.le_of_ble_eq_true rfl) hRl⟩ 48 (by decide) rfl rfl rfl rfl hl.1 (Nat.le_of_ble_eq_true rfl) rfl dL_acts_136 ⟨by omega, by omega⟩ (mgY_1 _ _) (mgY_2 54 _ _) (fun q9 ce9 H locs hP hS hc1 hc2 hc3 => ?_)
                          rw [← eσ16] at hP
                          refine g_yc1 (Or.inl ⟨rfl, rfl⟩) hown hB hK hT (by decide) hc1 hc2 hc3 ?_
                          refine lv_astore (lv' := [(4, .ref q9), (0, .ref (ad 48)), (1, .int a0), (2, .int a1), (3, .int a2)]) hx hb dL_acts_140 hl (by decide) rfl (fun ls hl => ?_)
                          refine lv_bipush (v := (-7)) hx hb dL_acts_142 (by decide) ?_
                          obtain ⟨h1, h2⟩ := rt2 hf
                          refine W.widen (k := 1) (n := 6 * 1) (by omega) (by omega) ?_
                          rw [hQ]
                          exact g_yret hx hb hr hlocks hP hS h1 h2 dL_acts_144
                        · rw [if_neg q15] at hf
                          by_cases q17 : n13 = 3
                          · rw [if_pos q17] at hf
                            subst q17
                            obtain ⟨σ18, eσ18, hf⟩ := stp_e hf
                            refine g_yVx (τ := (mgY σ12 σ)) ⟨⟨hx, hb, hml, hown, hB⟩, hK, hi, hA, hAd, hP, hS⟩ hZ sub_YX (c_X5_rest hflag (injS (by decide) hi) hv) hn (fun _ _ => rfl) cal_X5_rest kM_L_44 ⟨Nat.le_trans (Nat.le_of_ble_eq_true rfl) hRf, Nat.le_trans (Nat.le_of_ble_eq_true rfl) hRl⟩ 48 (by decide) rfl rfl rfl rfl hl.1 (Nat.le_of_ble_eq_true rfl) rfl dL_acts_136 ⟨by omega, by omega⟩ (mgY_1 _ _) (mgY_2 54 _ _) (fun q9 ce9 H locs hP hS hc1 hc2 hc3 => ?_)
                            rw [← eσ18] at hP
                            refine g_yc2 hown hB hK hN hT (by decide) hc1 hc2 hc3 ?_
                            refine lv_astore (lv' := [(4, .ref q9), (0, .ref (ad 48)), (1, .int a0), (2, .int a1), (3, .int a2)]) hx hb dL_acts_145 hl (by decide) rfl (fun ls hl => ?_)
                            refine lv_bipush (v := (-8)) hx hb dL_acts_147 (by decide) ?_
                            obtain ⟨h1, h2⟩ := rt2 hf
                            refine W.widen (k := 1) (n := 6 * 1) (by omega) (by omega) ?_
                            rw [hQ]
                            exact g_yret hx hb hr hlocks hP hS h1 h2 dL_acts_149
                          · rw [if_neg q17] at hf
                            cases hf
                    · rw [if_pos q10] at hf
                      refine lv_aload_n hx hb dL_acts_127 rfl (lv_at hl 0 rfl) ?_
                      refine lv_iload_n hx hb dL_acts_128 rfl (lv_at hl 2 rfl) ?_
                      rcases bt3_e hf with ⟨v19, σ20, hv, hf⟩ | ⟨n21, σ20, hn, ⟨_, hv⟩, hf⟩
                      · refine g_yVi (τ := (mgY σ20 σ)) ⟨⟨hx, hb, hml, hown, hB⟩, hK, hi, hA, hAd, hP, hS⟩ hZ sub_YX (c_X5_attack hflag (injS (by decide) hi) hv) (fun _ _ => rfl) cal_X5_attack kM_L_41 ⟨Nat.le_trans (Nat.le_of_ble_eq_true rfl) hRf, Nat.le_trans (Nat.le_of_ble_eq_true rfl) hRl⟩ 48 (by decide) rfl rfl rfl rfl hl.1 (Nat.le_of_ble_eq_true rfl) rfl dL_acts_129 ⟨by omega, by omega⟩ (mgY_1 _ _) (mgY_2 54 _ _) (fun H locs hP hS => ?_)
                        obtain ⟨σ22, eσ22, hf⟩ := stp_e hf
                        rw [← eσ22] at hP
                        refine lv_goto (tgt := 139) hx hb dL_acts_132 (by decide) ?_
                        obtain ⟨h1, h2⟩ := rt2 hf
                        refine W.widen (k := 1) (n := 6 * 1) (by omega) (by omega) ?_
                        rw [hQ]
                        exact g_yret hx hb hr hlocks hP hS h1 h2 dL_acts_139
                      · by_cases q23 : n21 = 1
                        · rw [if_pos q23] at hf
                          subst q23
                          obtain ⟨σ24, eσ24, hf⟩ := stp_e hf
                          refine g_yVx (τ := (mgY σ20 σ)) ⟨⟨hx, hb, hml, hown, hB⟩, hK, hi, hA, hAd, hP, hS⟩ hZ sub_YX (c_X5_attack hflag (injS (by decide) hi) hv) hn (fun _ _ => rfl) cal_X5_attack kM_L_41 ⟨Nat.le_trans (Nat.le_of_ble_eq_true rfl) hRf, Nat.le_trans (Nat.le_of_ble_eq_true rfl) hRl⟩ 48 (by decide) rfl rfl rfl rfl hl.1 (Nat.le_of_ble_eq_true rfl) rfl dL_acts_129 ⟨by omega, by omega⟩ (mgY_1 _ _) (mgY_2 54 _ _) (fun q9 ce9 H locs hP hS hc1 hc2 hc3 => ?_)
                          rw [← eσ24] at hP
                          refine g_yc1 (Or.inl ⟨rfl, rfl⟩) hown hB hK hT (by decide) hc1 hc2 hc3 ?_
                          refine lv_astore (lv' := [(4, .ref q9), (0, .ref (ad 48)), (1, .int a0), (2, .int a1), (3, .int a2)]) hx hb dL_acts_140 hl (by decide) rfl (fun ls hl => ?_)
                          refine lv_bipush (v := (-7)) hx hb dL_acts_142 (by decide) ?_
                          obtain ⟨h1, h2⟩ := rt2 hf
                          refine W.widen (k := 1) (n := 6 * 1) (by omega) (by omega) ?_
                          rw [hQ]
                          exact g_yret hx hb hr hlocks hP hS h1 h2 dL_acts_144
                        · rw [if_neg q23] at hf
                          by_cases q25 : n21 = 3
                          · rw [if_pos q25] at hf
                            subst q25
                            obtain ⟨σ26, eσ26, hf⟩ := stp_e hf
                            refine g_yVx (τ := (mgY σ20 σ)) ⟨⟨hx, hb, hml, hown, hB⟩, hK, hi, hA, hAd, hP, hS⟩ hZ sub_YX (c_X5_attack hflag (injS (by decide) hi) hv) hn (fun _ _ => rfl) cal_X5_attack kM_L_41 ⟨Nat.le_trans (Nat.le_of_ble_eq_true rfl) hRf, Nat.le_trans (Nat.le_of_ble_eq_true rfl) hRl⟩ 48 (by decide) rfl rfl rfl rfl hl.1 (Nat.le_of_ble_eq_true rfl) rfl dL_acts_129 ⟨by omega, by omega⟩ (mgY_1 _ _) (mgY_2 54 _ _) (fun q9 ce9 H locs hP hS hc1 hc2 hc3 => ?_)
                            rw [← eσ26] at hP
                            refine g_yc2 hown hB hK hN hT (by decide) hc1 hc2 hc3 ?_
                            refine lv_astore (lv' := [(4, .ref q9), (0, .ref (ad 48)), (1, .int a0), (2, .int a1), (3, .int a2)]) hx hb dL_acts_145 hl (by decide) rfl (fun ls hl => ?_)
                            refine lv_bipush (v := (-8)) hx hb dL_acts_147 (by decide) ?_
                            obtain ⟨h1, h2⟩ := rt2 hf
                            refine W.widen (k := 1) (n := 6 * 1) (by omega) (by omega) ?_
                            rw [hQ]
                            exact g_yret hx hb hr hlocks hP hS h1 h2 dL_acts_149
                          · rw [if_neg q25] at hf
                            cases hf
                  · rw [if_pos q9] at hf
                    refine lv_aload_n hx hb dL_acts_113 rfl (lv_at hl 0 rfl) ?_
                    refine lv_iload_n hx hb dL_acts_114 rfl (lv_at hl 2 rfl) ?_
                    rcases bt3_e hf with ⟨v27, σ28, hv, hf⟩ | ⟨n29, σ28, hn, ⟨_, hv⟩, hf⟩
                    · refine g_yVi (τ := (mgY σ28 σ)) ⟨⟨hx, hb, hml, hown, hB⟩, hK, hi, hA, hAd, hP, hS⟩ hZ sub_YX (c_X5_sell hflag (injS (by decide) hi) hv) (fun _ _ => rfl) cal_X5_sell kM_L_38 ⟨Nat.le_trans (Nat.le_of_ble_eq_true rfl) hRf, Nat.le_trans (Nat.le_of_ble_eq_true rfl) hRl⟩ 48 (by decide) rfl rfl rfl rfl hl.1 (Nat.le_of_ble_eq_true rfl) rfl dL_acts_115 ⟨by omega, by omega⟩ (mgY_1 _ _) (mgY_2 54 _ _) (fun H locs hP hS => ?_)
                      obtain ⟨σ30, eσ30, hf⟩ := stp_e hf
                      rw [← eσ30] at hP
                      refine lv_goto (tgt := 139) hx hb dL_acts_118 (by decide) ?_
                      obtain ⟨h1, h2⟩ := rt2 hf
                      refine W.widen (k := 1) (n := 6 * 1) (by omega) (by omega) ?_
                      rw [hQ]
                      exact g_yret hx hb hr hlocks hP hS h1 h2 dL_acts_139
                    · by_cases q31 : n29 = 1
                      · rw [if_pos q31] at hf
                        subst q31
                        obtain ⟨σ32, eσ32, hf⟩ := stp_e hf
                        refine g_yVx (τ := (mgY σ28 σ)) ⟨⟨hx, hb, hml, hown, hB⟩, hK, hi, hA, hAd, hP, hS⟩ hZ sub_YX (c_X5_sell hflag (injS (by decide) hi) hv) hn (fun _ _ => rfl) cal_X5_sell kM_L_38 ⟨Nat.le_trans (Nat.le_of_ble_eq_true rfl) hRf, Nat.le_trans (Nat.le_of_ble_eq_true rfl) hRl⟩ 48 (by decide) rfl rfl rfl rfl hl.1 (Nat.le_of_ble_eq_true rfl) rfl dL_acts_115 ⟨by omega, by omega⟩ (mgY_1 _ _) (mgY_2 54 _ _) (fun q9 ce9 H locs hP hS hc1 hc2 hc3 => ?_)
                        rw [← eσ32] at hP
                        refine g_yc1 (Or.inl ⟨rfl, rfl⟩) hown hB hK hT (by decide) hc1 hc2 hc3 ?_
                        refine lv_astore (lv' := [(4, .ref q9), (0, .ref (ad 48)), (1, .int a0), (2, .int a1), (3, .int a2)]) hx hb dL_acts_140 hl (by decide) rfl (fun ls hl => ?_)
                        refine lv_bipush (v := (-7)) hx hb dL_acts_142 (by decide) ?_
                        obtain ⟨h1, h2⟩ := rt2 hf
                        refine W.widen (k := 1) (n := 6 * 1) (by omega) (by omega) ?_
                        rw [hQ]
                        exact g_yret hx hb hr hlocks hP hS h1 h2 dL_acts_144
                      · rw [if_neg q31] at hf
                        by_cases q33 : n29 = 3
                        · rw [if_pos q33] at hf
                          subst q33
                          obtain ⟨σ34, eσ34, hf⟩ := stp_e hf
                          refine g_yVx (τ := (mgY σ28 σ)) ⟨⟨hx, hb, hml, hown, hB⟩, hK, hi, hA, hAd, hP, hS⟩ hZ sub_YX (c_X5_sell hflag (injS (by decide) hi) hv) hn (fun _ _ => rfl) cal_X5_sell kM_L_38 ⟨Nat.le_trans (Nat.le_of_ble_eq_true rfl) hRf, Nat.le_trans (Nat.le_of_ble_eq_true rfl) hRl⟩ 48 (by decide) rfl rfl rfl rfl hl.1 (Nat.le_of_ble_eq_true rfl) rfl dL_acts_115 ⟨by omega, by omega⟩ (mgY_1 _ _) (mgY_2 54 _ _) (fun q9 ce9 H locs hP hS hc1 hc2 hc3 => ?_)
                          rw [← eσ34] at hP
                          refine g_yc2 hown hB hK hN hT (by decide) hc1 hc2 hc3 ?_
                          refine lv_astore (lv' := [(4, .ref q9), (0, .ref (ad 48)), (1, .int a0), (2, .int a1), (3, .int a2)]) hx hb dL_acts_145 hl (by decide) rfl (fun ls hl => ?_)
                          refine lv_bipush (v := (-8)) hx hb dL_acts_147 (by decide) ?_
                          obtain ⟨h1, h2⟩ := rt2 hf
                          refine W.widen (k := 1) (n := 6 * 1) (by omega) (by omega) ?_
                          rw [hQ]
                          exact g_yret hx hb hr hlocks hP hS h1 h2 dL_acts_149
                        · rw [if_neg q33] at hf
                          cases hf
                · rw [if_pos q8] at hf
                  refine lv_aload_n hx hb dL_acts_99 rfl (lv_at hl 0 rfl) ?_
                  refine lv_iload_n hx hb dL_acts_100 rfl (lv_at hl 2 rfl) ?_
                  rcases bt3_e hf with ⟨v35, σ36, hv, hf⟩ | ⟨n37, σ36, hn, ⟨_, hv⟩, hf⟩
                  · refine g_yVi (τ := (mgY σ36 σ)) ⟨⟨hx, hb, hml, hown, hB⟩, hK, hi, hA, hAd, hP, hS⟩ hZ sub_YX (c_X5_buy hflag (injS (by decide) hi) hv) (fun _ _ => rfl) cal_X5_buy kM_L_35 ⟨Nat.le_trans (Nat.le_of_ble_eq_true rfl) hRf, Nat.le_trans (Nat.le_of_ble_eq_true rfl) hRl⟩ 48 (by decide) rfl rfl rfl rfl hl.1 (Nat.le_of_ble_eq_true rfl) rfl dL_acts_101 ⟨by omega, by omega⟩ (mgY_1 _ _) (mgY_2 54 _ _) (fun H locs hP hS => ?_)
                    obtain ⟨σ38, eσ38, hf⟩ := stp_e hf
                    rw [← eσ38] at hP
                    refine lv_goto (tgt := 139) hx hb dL_acts_104 (by decide) ?_
                    obtain ⟨h1, h2⟩ := rt2 hf
                    refine W.widen (k := 1) (n := 6 * 1) (by omega) (by omega) ?_
                    rw [hQ]
                    exact g_yret hx hb hr hlocks hP hS h1 h2 dL_acts_139
                  · by_cases q39 : n37 = 1
                    · rw [if_pos q39] at hf
                      subst q39
                      obtain ⟨σ40, eσ40, hf⟩ := stp_e hf
                      refine g_yVx (τ := (mgY σ36 σ)) ⟨⟨hx, hb, hml, hown, hB⟩, hK, hi, hA, hAd, hP, hS⟩ hZ sub_YX (c_X5_buy hflag (injS (by decide) hi) hv) hn (fun _ _ => rfl) cal_X5_buy kM_L_35 ⟨Nat.le_trans (Nat.le_of_ble_eq_true rfl) hRf, Nat.le_trans (Nat.le_of_ble_eq_true rfl) hRl⟩ 48 (by decide) rfl rfl rfl rfl hl.1 (Nat.le_of_ble_eq_true rfl) rfl dL_acts_101 ⟨by omega, by omega⟩ (mgY_1 _ _) (mgY_2 54 _ _) (fun q9 ce9 H locs hP hS hc1 hc2 hc3 => ?_)
                      rw [← eσ40] at hP
                      refine g_yc1 (Or.inl ⟨rfl, rfl⟩) hown hB hK hT (by decide) hc1 hc2 hc3 ?_
                      refine lv_astore (lv' := [(4, .ref q9), (0, .ref (ad 48)), (1, .int a0), (2, .int a1), (3, .int a2)]) hx hb dL_acts_140 hl (by decide) rfl (fun ls hl => ?_)
                      refine lv_bipush (v := (-7)) hx hb dL_acts_142 (by decide) ?_
                      obtain ⟨h1, h2⟩ := rt2 hf
                      refine W.widen (k := 1) (n := 6 * 1) (by omega) (by omega) ?_
                      rw [hQ]
                      exact g_yret hx hb hr hlocks hP hS h1 h2 dL_acts_144
                    · rw [if_neg q39] at hf
                      by_cases q41 : n37 = 3
                      · rw [if_pos q41] at hf
                        subst q41
                        obtain ⟨σ42, eσ42, hf⟩ := stp_e hf
                        refine g_yVx (τ := (mgY σ36 σ)) ⟨⟨hx, hb, hml, hown, hB⟩, hK, hi, hA, hAd, hP, hS⟩ hZ sub_YX (c_X5_buy hflag (injS (by decide) hi) hv) hn (fun _ _ => rfl) cal_X5_buy kM_L_35 ⟨Nat.le_trans (Nat.le_of_ble_eq_true rfl) hRf, Nat.le_trans (Nat.le_of_ble_eq_true rfl) hRl⟩ 48 (by decide) rfl rfl rfl rfl hl.1 (Nat.le_of_ble_eq_true rfl) rfl dL_acts_101 ⟨by omega, by omega⟩ (mgY_1 _ _) (mgY_2 54 _ _) (fun q9 ce9 H locs hP hS hc1 hc2 hc3 => ?_)
                        rw [← eσ42] at hP
                        refine g_yc2 hown hB hK hN hT (by decide) hc1 hc2 hc3 ?_
                        refine lv_astore (lv' := [(4, .ref q9), (0, .ref (ad 48)), (1, .int a0), (2, .int a1), (3, .int a2)]) hx hb dL_acts_145 hl (by decide) rfl (fun ls hl => ?_)
                        refine lv_bipush (v := (-8)) hx hb dL_acts_147 (by decide) ?_
                        obtain ⟨h1, h2⟩ := rt2 hf
                        refine W.widen (k := 1) (n := 6 * 1) (by omega) (by omega) ?_
                        rw [hQ]
                        exact g_yret hx hb hr hlocks hP hS h1 h2 dL_acts_149
                      · rw [if_neg q41] at hf
                        cases hf
              · rw [if_pos q7] at hf
                refine lv_aload_n hx hb dL_acts_84 rfl (lv_at hl 0 rfl) ?_
                refine lv_iload_n hx hb dL_acts_85 rfl (lv_at hl 2 rfl) ?_
                refine lv_iload_n hx hb dL_acts_86 rfl (lv_at hl 3 rfl) ?_
                rcases bt3_e hf with ⟨v43, σ44, hv, hf⟩ | ⟨n45, σ44, hn, ⟨_, hv⟩, hf⟩
                · refine g_yVi (τ := (mgY σ44 σ)) ⟨⟨hx, hb, hml, hown, hB⟩, hK, hi, hA, hAd, hP, hS⟩ hZ sub_YX (c_X5_pay hflag (injS (by decide) hi) hv) (fun _ _ => rfl) cal_X5_pay kM_L_32 ⟨Nat.le_trans (Nat.le_of_ble_eq_true rfl) hRf, Nat.le_trans (Nat.le_of_ble_eq_true rfl) hRl⟩ 48 (by decide) rfl rfl rfl rfl hl.1 (Nat.le_of_ble_eq_true rfl) rfl dL_acts_87 ⟨by omega, by omega⟩ (mgY_1 _ _) (mgY_2 54 _ _) (fun H locs hP hS => ?_)
                  obtain ⟨σ46, eσ46, hf⟩ := stp_e hf
                  rw [← eσ46] at hP
                  refine lv_goto (tgt := 139) hx hb dL_acts_90 (by decide) ?_
                  obtain ⟨h1, h2⟩ := rt2 hf
                  refine W.widen (k := 1) (n := 6 * 1) (by omega) (by omega) ?_
                  rw [hQ]
                  exact g_yret hx hb hr hlocks hP hS h1 h2 dL_acts_139
                · by_cases q47 : n45 = 1
                  · rw [if_pos q47] at hf
                    subst q47
                    obtain ⟨σ48, eσ48, hf⟩ := stp_e hf
                    refine g_yVx (τ := (mgY σ44 σ)) ⟨⟨hx, hb, hml, hown, hB⟩, hK, hi, hA, hAd, hP, hS⟩ hZ sub_YX (c_X5_pay hflag (injS (by decide) hi) hv) hn (fun _ _ => rfl) cal_X5_pay kM_L_32 ⟨Nat.le_trans (Nat.le_of_ble_eq_true rfl) hRf, Nat.le_trans (Nat.le_of_ble_eq_true rfl) hRl⟩ 48 (by decide) rfl rfl rfl rfl hl.1 (Nat.le_of_ble_eq_true rfl) rfl dL_acts_87 ⟨by omega, by omega⟩ (mgY_1 _ _) (mgY_2 54 _ _) (fun q9 ce9 H locs hP hS hc1 hc2 hc3 => ?_)
                    rw [← eσ48] at hP
                    refine g_yc1 (Or.inl ⟨rfl, rfl⟩) hown hB hK hT (by decide) hc1 hc2 hc3 ?_
                    refine lv_astore (lv' := [(4, .ref q9), (0, .ref (ad 48)), (1, .int a0), (2, .int a1), (3, .int a2)]) hx hb dL_acts_140 hl (by decide) rfl (fun ls hl => ?_)
                    refine lv_bipush (v := (-7)) hx hb dL_acts_142 (by decide) ?_
                    obtain ⟨h1, h2⟩ := rt2 hf
                    refine W.widen (k := 1) (n := 6 * 1) (by omega) (by omega) ?_
                    rw [hQ]
                    exact g_yret hx hb hr hlocks hP hS h1 h2 dL_acts_144
                  · rw [if_neg q47] at hf
                    by_cases q49 : n45 = 3
                    · rw [if_pos q49] at hf
                      subst q49
                      obtain ⟨σ50, eσ50, hf⟩ := stp_e hf
                      refine g_yVx (τ := (mgY σ44 σ)) ⟨⟨hx, hb, hml, hown, hB⟩, hK, hi, hA, hAd, hP, hS⟩ hZ sub_YX (c_X5_pay hflag (injS (by decide) hi) hv) hn (fun _ _ => rfl) cal_X5_pay kM_L_32 ⟨Nat.le_trans (Nat.le_of_ble_eq_true rfl) hRf, Nat.le_trans (Nat.le_of_ble_eq_true rfl) hRl⟩ 48 (by decide) rfl rfl rfl rfl hl.1 (Nat.le_of_ble_eq_true rfl) rfl dL_acts_87 ⟨by omega, by omega⟩ (mgY_1 _ _) (mgY_2 54 _ _) (fun q9 ce9 H locs hP hS hc1 hc2 hc3 => ?_)
                      rw [← eσ50] at hP
                      refine g_yc2 hown hB hK hN hT (by decide) hc1 hc2 hc3 ?_
                      refine lv_astore (lv' := [(4, .ref q9), (0, .ref (ad 48)), (1, .int a0), (2, .int a1), (3, .int a2)]) hx hb dL_acts_145 hl (by decide) rfl (fun ls hl => ?_)
                      refine lv_bipush (v := (-8)) hx hb dL_acts_147 (by decide) ?_
                      obtain ⟨h1, h2⟩ := rt2 hf
                      refine W.widen (k := 1) (n := 6 * 1) (by omega) (by omega) ?_
                      rw [hQ]
                      exact g_yret hx hb hr hlocks hP hS h1 h2 dL_acts_149
                    · rw [if_neg q49] at hf
                      cases hf
            · rw [if_pos q6] at hf
              refine lv_aload_n hx hb dL_acts_69 rfl (lv_at hl 0 rfl) ?_
              refine lv_iload_n hx hb dL_acts_70 rfl (lv_at hl 3 rfl) ?_
              refine lv_iload_n hx hb dL_acts_71 rfl (lv_at hl 2 rfl) ?_
              rcases bt3_e hf with ⟨v51, σ52, hv, hf⟩ | ⟨n53, σ52, hn, ⟨_, hv⟩, hf⟩
              · refine g_yVi (τ := (mgY σ52 σ)) ⟨⟨hx, hb, hml, hown, hB⟩, hK, hi, hA, hAd, hP, hS⟩ hZ sub_YX (c_X5_give hflag (injS (by decide) hi) hv) (fun _ _ => rfl) cal_X5_give kM_L_28 ⟨Nat.le_trans (Nat.le_of_ble_eq_true rfl) hRf, Nat.le_trans (Nat.le_of_ble_eq_true rfl) hRl⟩ 48 (by decide) rfl rfl rfl rfl hl.1 (Nat.le_of_ble_eq_true rfl) rfl dL_acts_72 ⟨by omega, by omega⟩ (mgY_1 _ _) (mgY_2 54 _ _) (fun H locs hP hS => ?_)
                obtain ⟨σ54, eσ54, hf⟩ := stp_e hf
                rw [← eσ54] at hP
                refine lv_goto (tgt := 139) hx hb dL_acts_75 (by decide) ?_
                obtain ⟨h1, h2⟩ := rt2 hf
                refine W.widen (k := 1) (n := 6 * 1) (by omega) (by omega) ?_
                rw [hQ]
                exact g_yret hx hb hr hlocks hP hS h1 h2 dL_acts_139
              · by_cases q55 : n53 = 1
                · rw [if_pos q55] at hf
                  subst q55
                  obtain ⟨σ56, eσ56, hf⟩ := stp_e hf
                  refine g_yVx (τ := (mgY σ52 σ)) ⟨⟨hx, hb, hml, hown, hB⟩, hK, hi, hA, hAd, hP, hS⟩ hZ sub_YX (c_X5_give hflag (injS (by decide) hi) hv) hn (fun _ _ => rfl) cal_X5_give kM_L_28 ⟨Nat.le_trans (Nat.le_of_ble_eq_true rfl) hRf, Nat.le_trans (Nat.le_of_ble_eq_true rfl) hRl⟩ 48 (by decide) rfl rfl rfl rfl hl.1 (Nat.le_of_ble_eq_true rfl) rfl dL_acts_72 ⟨by omega, by omega⟩ (mgY_1 _ _) (mgY_2 54 _ _) (fun q9 ce9 H locs hP hS hc1 hc2 hc3 => ?_)
                  rw [← eσ56] at hP
                  refine g_yc1 (Or.inl ⟨rfl, rfl⟩) hown hB hK hT (by decide) hc1 hc2 hc3 ?_
                  refine lv_astore (lv' := [(4, .ref q9), (0, .ref (ad 48)), (1, .int a0), (2, .int a1), (3, .int a2)]) hx hb dL_acts_140 hl (by decide) rfl (fun ls hl => ?_)
                  refine lv_bipush (v := (-7)) hx hb dL_acts_142 (by decide) ?_
                  obtain ⟨h1, h2⟩ := rt2 hf
                  refine W.widen (k := 1) (n := 6 * 1) (by omega) (by omega) ?_
                  rw [hQ]
                  exact g_yret hx hb hr hlocks hP hS h1 h2 dL_acts_144
                · rw [if_neg q55] at hf
                  by_cases q57 : n53 = 3
                  · rw [if_pos q57] at hf
                    subst q57
                    obtain ⟨σ58, eσ58, hf⟩ := stp_e hf
                    refine g_yVx (τ := (mgY σ52 σ)) ⟨⟨hx, hb, hml, hown, hB⟩, hK, hi, hA, hAd, hP, hS⟩ hZ sub_YX (c_X5_give hflag (injS (by decide) hi) hv) hn (fun _ _ => rfl) cal_X5_give kM_L_28 ⟨Nat.le_trans (Nat.le_of_ble_eq_true rfl) hRf, Nat.le_trans (Nat.le_of_ble_eq_true rfl) hRl⟩ 48 (by decide) rfl rfl rfl rfl hl.1 (Nat.le_of_ble_eq_true rfl) rfl dL_acts_72 ⟨by omega, by omega⟩ (mgY_1 _ _) (mgY_2 54 _ _) (fun q9 ce9 H locs hP hS hc1 hc2 hc3 => ?_)
                    rw [← eσ58] at hP
                    refine g_yc2 hown hB hK hN hT (by decide) hc1 hc2 hc3 ?_
                    refine lv_astore (lv' := [(4, .ref q9), (0, .ref (ad 48)), (1, .int a0), (2, .int a1), (3, .int a2)]) hx hb dL_acts_145 hl (by decide) rfl (fun ls hl => ?_)
                    refine lv_bipush (v := (-8)) hx hb dL_acts_147 (by decide) ?_
                    obtain ⟨h1, h2⟩ := rt2 hf
                    refine W.widen (k := 1) (n := 6 * 1) (by omega) (by omega) ?_
                    rw [hQ]
                    exact g_yret hx hb hr hlocks hP hS h1 h2 dL_acts_149
                  · rw [if_neg q57] at hf
                    cases hf
          · rw [if_pos q5] at hf
            refine lv_aload_n hx hb dL_acts_56 rfl (lv_at hl 0 rfl) ?_
            refine lv_iload_n hx hb dL_acts_57 rfl (lv_at hl 2 rfl) ?_
            rcases bt3_e hf with ⟨v59, σ60, hv, hf⟩ | ⟨n61, σ60, hn, ⟨_, hv⟩, hf⟩
            · refine g_yVi (τ := (mgY σ60 σ)) ⟨⟨hx, hb, hml, hown, hB⟩, hK, hi, hA, hAd, hP, hS⟩ hZ sub_YX (c_X5_drop hflag (injS (by decide) hi) hv) (fun _ _ => rfl) cal_X5_drop kM_L_25 ⟨Nat.le_trans (Nat.le_of_ble_eq_true rfl) hRf, Nat.le_trans (Nat.le_of_ble_eq_true rfl) hRl⟩ 48 (by decide) rfl rfl rfl rfl hl.1 (Nat.le_of_ble_eq_true rfl) rfl dL_acts_58 ⟨by omega, by omega⟩ (mgY_1 _ _) (mgY_2 54 _ _) (fun H locs hP hS => ?_)
              obtain ⟨σ62, eσ62, hf⟩ := stp_e hf
              rw [← eσ62] at hP
              refine lv_goto (tgt := 139) hx hb dL_acts_61 (by decide) ?_
              obtain ⟨h1, h2⟩ := rt2 hf
              refine W.widen (k := 1) (n := 6 * 1) (by omega) (by omega) ?_
              rw [hQ]
              exact g_yret hx hb hr hlocks hP hS h1 h2 dL_acts_139
            · by_cases q63 : n61 = 1
              · rw [if_pos q63] at hf
                subst q63
                obtain ⟨σ64, eσ64, hf⟩ := stp_e hf
                refine g_yVx (τ := (mgY σ60 σ)) ⟨⟨hx, hb, hml, hown, hB⟩, hK, hi, hA, hAd, hP, hS⟩ hZ sub_YX (c_X5_drop hflag (injS (by decide) hi) hv) hn (fun _ _ => rfl) cal_X5_drop kM_L_25 ⟨Nat.le_trans (Nat.le_of_ble_eq_true rfl) hRf, Nat.le_trans (Nat.le_of_ble_eq_true rfl) hRl⟩ 48 (by decide) rfl rfl rfl rfl hl.1 (Nat.le_of_ble_eq_true rfl) rfl dL_acts_58 ⟨by omega, by omega⟩ (mgY_1 _ _) (mgY_2 54 _ _) (fun q9 ce9 H locs hP hS hc1 hc2 hc3 => ?_)
                rw [← eσ64] at hP
                refine g_yc1 (Or.inl ⟨rfl, rfl⟩) hown hB hK hT (by decide) hc1 hc2 hc3 ?_
                refine lv_astore (lv' := [(4, .ref q9), (0, .ref (ad 48)), (1, .int a0), (2, .int a1), (3, .int a2)]) hx hb dL_acts_140 hl (by decide) rfl (fun ls hl => ?_)
                refine lv_bipush (v := (-7)) hx hb dL_acts_142 (by decide) ?_
                obtain ⟨h1, h2⟩ := rt2 hf
                refine W.widen (k := 1) (n := 6 * 1) (by omega) (by omega) ?_
                rw [hQ]
                exact g_yret hx hb hr hlocks hP hS h1 h2 dL_acts_144
              · rw [if_neg q63] at hf
                by_cases q65 : n61 = 3
                · rw [if_pos q65] at hf
                  subst q65
                  obtain ⟨σ66, eσ66, hf⟩ := stp_e hf
                  refine g_yVx (τ := (mgY σ60 σ)) ⟨⟨hx, hb, hml, hown, hB⟩, hK, hi, hA, hAd, hP, hS⟩ hZ sub_YX (c_X5_drop hflag (injS (by decide) hi) hv) hn (fun _ _ => rfl) cal_X5_drop kM_L_25 ⟨Nat.le_trans (Nat.le_of_ble_eq_true rfl) hRf, Nat.le_trans (Nat.le_of_ble_eq_true rfl) hRl⟩ 48 (by decide) rfl rfl rfl rfl hl.1 (Nat.le_of_ble_eq_true rfl) rfl dL_acts_58 ⟨by omega, by omega⟩ (mgY_1 _ _) (mgY_2 54 _ _) (fun q9 ce9 H locs hP hS hc1 hc2 hc3 => ?_)
                  rw [← eσ66] at hP
                  refine g_yc2 hown hB hK hN hT (by decide) hc1 hc2 hc3 ?_
                  refine lv_astore (lv' := [(4, .ref q9), (0, .ref (ad 48)), (1, .int a0), (2, .int a1), (3, .int a2)]) hx hb dL_acts_145 hl (by decide) rfl (fun ls hl => ?_)
                  refine lv_bipush (v := (-8)) hx hb dL_acts_147 (by decide) ?_
                  obtain ⟨h1, h2⟩ := rt2 hf
                  refine W.widen (k := 1) (n := 6 * 1) (by omega) (by omega) ?_
                  rw [hQ]
                  exact g_yret hx hb hr hlocks hP hS h1 h2 dL_acts_149
                · rw [if_neg q65] at hf
                  cases hf
        · rw [if_pos q4] at hf
          refine lv_aload_n hx hb dL_acts_43 rfl (lv_at hl 0 rfl) ?_
          refine lv_iload_n hx hb dL_acts_44 rfl (lv_at hl 2 rfl) ?_
          rcases bt3_e hf with ⟨v67, σ68, hv, hf⟩ | ⟨n69, σ68, hn, ⟨_, hv⟩, hf⟩
          · refine g_yVi (τ := (mgY σ68 σ)) ⟨⟨hx, hb, hml, hown, hB⟩, hK, hi, hA, hAd, hP, hS⟩ hZ sub_YX (c_X5_take hflag (injS (by decide) hi) hv) (fun _ _ => rfl) cal_X5_take kM_L_22 ⟨Nat.le_trans (Nat.le_of_ble_eq_true rfl) hRf, Nat.le_trans (Nat.le_of_ble_eq_true rfl) hRl⟩ 48 (by decide) rfl rfl rfl rfl hl.1 (Nat.le_of_ble_eq_true rfl) rfl dL_acts_45 ⟨by omega, by omega⟩ (mgY_1 _ _) (mgY_2 54 _ _) (fun H locs hP hS => ?_)
            obtain ⟨σ70, eσ70, hf⟩ := stp_e hf
            rw [← eσ70] at hP
            refine lv_goto (tgt := 139) hx hb dL_acts_48 (by decide) ?_
            obtain ⟨h1, h2⟩ := rt2 hf
            refine W.widen (k := 1) (n := 6 * 1) (by omega) (by omega) ?_
            rw [hQ]
            exact g_yret hx hb hr hlocks hP hS h1 h2 dL_acts_139
          · by_cases q71 : n69 = 1
            · rw [if_pos q71] at hf
              subst q71
              obtain ⟨σ72, eσ72, hf⟩ := stp_e hf
              refine g_yVx (τ := (mgY σ68 σ)) ⟨⟨hx, hb, hml, hown, hB⟩, hK, hi, hA, hAd, hP, hS⟩ hZ sub_YX (c_X5_take hflag (injS (by decide) hi) hv) hn (fun _ _ => rfl) cal_X5_take kM_L_22 ⟨Nat.le_trans (Nat.le_of_ble_eq_true rfl) hRf, Nat.le_trans (Nat.le_of_ble_eq_true rfl) hRl⟩ 48 (by decide) rfl rfl rfl rfl hl.1 (Nat.le_of_ble_eq_true rfl) rfl dL_acts_45 ⟨by omega, by omega⟩ (mgY_1 _ _) (mgY_2 54 _ _) (fun q9 ce9 H locs hP hS hc1 hc2 hc3 => ?_)
              rw [← eσ72] at hP
              refine g_yc1 (Or.inl ⟨rfl, rfl⟩) hown hB hK hT (by decide) hc1 hc2 hc3 ?_
              refine lv_astore (lv' := [(4, .ref q9), (0, .ref (ad 48)), (1, .int a0), (2, .int a1), (3, .int a2)]) hx hb dL_acts_140 hl (by decide) rfl (fun ls hl => ?_)
              refine lv_bipush (v := (-7)) hx hb dL_acts_142 (by decide) ?_
              obtain ⟨h1, h2⟩ := rt2 hf
              refine W.widen (k := 1) (n := 6 * 1) (by omega) (by omega) ?_
              rw [hQ]
              exact g_yret hx hb hr hlocks hP hS h1 h2 dL_acts_144
            · rw [if_neg q71] at hf
              by_cases q73 : n69 = 3
              · rw [if_pos q73] at hf
                subst q73
                obtain ⟨σ74, eσ74, hf⟩ := stp_e hf
                refine g_yVx (τ := (mgY σ68 σ)) ⟨⟨hx, hb, hml, hown, hB⟩, hK, hi, hA, hAd, hP, hS⟩ hZ sub_YX (c_X5_take hflag (injS (by decide) hi) hv) hn (fun _ _ => rfl) cal_X5_take kM_L_22 ⟨Nat.le_trans (Nat.le_of_ble_eq_true rfl) hRf, Nat.le_trans (Nat.le_of_ble_eq_true rfl) hRl⟩ 48 (by decide) rfl rfl rfl rfl hl.1 (Nat.le_of_ble_eq_true rfl) rfl dL_acts_45 ⟨by omega, by omega⟩ (mgY_1 _ _) (mgY_2 54 _ _) (fun q9 ce9 H locs hP hS hc1 hc2 hc3 => ?_)
                rw [← eσ74] at hP
                refine g_yc2 hown hB hK hN hT (by decide) hc1 hc2 hc3 ?_
                refine lv_astore (lv' := [(4, .ref q9), (0, .ref (ad 48)), (1, .int a0), (2, .int a1), (3, .int a2)]) hx hb dL_acts_145 hl (by decide) rfl (fun ls hl => ?_)
                refine lv_bipush (v := (-8)) hx hb dL_acts_147 (by decide) ?_
                obtain ⟨h1, h2⟩ := rt2 hf
                refine W.widen (k := 1) (n := 6 * 1) (by omega) (by omega) ?_
                rw [hQ]
                exact g_yret hx hb hr hlocks hP hS h1 h2 dL_acts_149
              · rw [if_neg q73] at hf
                cases hf
      · rw [if_pos q3] at hf
        refine lv_aload_n hx hb dL_acts_30 rfl (lv_at hl 0 rfl) ?_
        refine lv_iload_n hx hb dL_acts_31 rfl (lv_at hl 3 rfl) ?_
        rcases bt3_e hf with ⟨v75, σ76, hv, hf⟩ | ⟨n77, σ76, hn, ⟨_, hv⟩, hf⟩
        · refine g_yVi (τ := (mgY σ76 σ)) ⟨⟨hx, hb, hml, hown, hB⟩, hK, hi, hA, hAd, hP, hS⟩ hZ sub_YX (c_X5_shout hflag (injS (by decide) hi) hv) (fun _ _ => rfl) cal_X5_shout kM_L_19 ⟨Nat.le_trans (Nat.le_of_ble_eq_true rfl) hRf, Nat.le_trans (Nat.le_of_ble_eq_true rfl) hRl⟩ 48 (by decide) rfl rfl rfl rfl hl.1 (Nat.le_of_ble_eq_true rfl) rfl dL_acts_32 ⟨by omega, by omega⟩ (mgY_1 _ _) (mgY_2 54 _ _) (fun H locs hP hS => ?_)
          obtain ⟨σ78, eσ78, hf⟩ := stp_e hf
          rw [← eσ78] at hP
          refine lv_goto (tgt := 139) hx hb dL_acts_35 (by decide) ?_
          obtain ⟨h1, h2⟩ := rt2 hf
          refine W.widen (k := 1) (n := 6 * 1) (by omega) (by omega) ?_
          rw [hQ]
          exact g_yret hx hb hr hlocks hP hS h1 h2 dL_acts_139
        · by_cases q79 : n77 = 1
          · rw [if_pos q79] at hf
            subst q79
            obtain ⟨σ80, eσ80, hf⟩ := stp_e hf
            refine g_yVx (τ := (mgY σ76 σ)) ⟨⟨hx, hb, hml, hown, hB⟩, hK, hi, hA, hAd, hP, hS⟩ hZ sub_YX (c_X5_shout hflag (injS (by decide) hi) hv) hn (fun _ _ => rfl) cal_X5_shout kM_L_19 ⟨Nat.le_trans (Nat.le_of_ble_eq_true rfl) hRf, Nat.le_trans (Nat.le_of_ble_eq_true rfl) hRl⟩ 48 (by decide) rfl rfl rfl rfl hl.1 (Nat.le_of_ble_eq_true rfl) rfl dL_acts_32 ⟨by omega, by omega⟩ (mgY_1 _ _) (mgY_2 54 _ _) (fun q9 ce9 H locs hP hS hc1 hc2 hc3 => ?_)
            rw [← eσ80] at hP
            refine g_yc1 (Or.inl ⟨rfl, rfl⟩) hown hB hK hT (by decide) hc1 hc2 hc3 ?_
            refine lv_astore (lv' := [(4, .ref q9), (0, .ref (ad 48)), (1, .int a0), (2, .int a1), (3, .int a2)]) hx hb dL_acts_140 hl (by decide) rfl (fun ls hl => ?_)
            refine lv_bipush (v := (-7)) hx hb dL_acts_142 (by decide) ?_
            obtain ⟨h1, h2⟩ := rt2 hf
            refine W.widen (k := 1) (n := 6 * 1) (by omega) (by omega) ?_
            rw [hQ]
            exact g_yret hx hb hr hlocks hP hS h1 h2 dL_acts_144
          · rw [if_neg q79] at hf
            by_cases q81 : n77 = 3
            · rw [if_pos q81] at hf
              subst q81
              obtain ⟨σ82, eσ82, hf⟩ := stp_e hf
              refine g_yVx (τ := (mgY σ76 σ)) ⟨⟨hx, hb, hml, hown, hB⟩, hK, hi, hA, hAd, hP, hS⟩ hZ sub_YX (c_X5_shout hflag (injS (by decide) hi) hv) hn (fun _ _ => rfl) cal_X5_shout kM_L_19 ⟨Nat.le_trans (Nat.le_of_ble_eq_true rfl) hRf, Nat.le_trans (Nat.le_of_ble_eq_true rfl) hRl⟩ 48 (by decide) rfl rfl rfl rfl hl.1 (Nat.le_of_ble_eq_true rfl) rfl dL_acts_32 ⟨by omega, by omega⟩ (mgY_1 _ _) (mgY_2 54 _ _) (fun q9 ce9 H locs hP hS hc1 hc2 hc3 => ?_)
              rw [← eσ82] at hP
              refine g_yc2 hown hB hK hN hT (by decide) hc1 hc2 hc3 ?_
              refine lv_astore (lv' := [(4, .ref q9), (0, .ref (ad 48)), (1, .int a0), (2, .int a1), (3, .int a2)]) hx hb dL_acts_145 hl (by decide) rfl (fun ls hl => ?_)
              refine lv_bipush (v := (-8)) hx hb dL_acts_147 (by decide) ?_
              obtain ⟨h1, h2⟩ := rt2 hf
              refine W.widen (k := 1) (n := 6 * 1) (by omega) (by omega) ?_
              rw [hQ]
              exact g_yret hx hb hr hlocks hP hS h1 h2 dL_acts_149
            · rw [if_neg q81] at hf
              cases hf
    · rw [if_pos q2] at hf
      refine lv_aload_n hx hb dL_acts_17 rfl (lv_at hl 0 rfl) ?_
      refine lv_iload_n hx hb dL_acts_18 rfl (lv_at hl 3 rfl) ?_
      rcases bt3_e hf with ⟨v83, σ84, hv, hf⟩ | ⟨n85, σ84, hn, ⟨_, hv⟩, hf⟩
      · refine g_yVi (τ := (mgY σ84 σ)) ⟨⟨hx, hb, hml, hown, hB⟩, hK, hi, hA, hAd, hP, hS⟩ hZ sub_YX (c_X5_say hflag (injS (by decide) hi) hv) (fun _ _ => rfl) cal_X5_say kM_L_16 ⟨Nat.le_trans (Nat.le_of_ble_eq_true rfl) hRf, Nat.le_trans (Nat.le_of_ble_eq_true rfl) hRl⟩ 48 (by decide) rfl rfl rfl rfl hl.1 (Nat.le_of_ble_eq_true rfl) rfl dL_acts_19 ⟨by omega, by omega⟩ (mgY_1 _ _) (mgY_2 54 _ _) (fun H locs hP hS => ?_)
        obtain ⟨σ86, eσ86, hf⟩ := stp_e hf
        rw [← eσ86] at hP
        refine lv_goto (tgt := 139) hx hb dL_acts_22 (by decide) ?_
        obtain ⟨h1, h2⟩ := rt2 hf
        refine W.widen (k := 1) (n := 6 * 1) (by omega) (by omega) ?_
        rw [hQ]
        exact g_yret hx hb hr hlocks hP hS h1 h2 dL_acts_139
      · by_cases q87 : n85 = 1
        · rw [if_pos q87] at hf
          subst q87
          obtain ⟨σ88, eσ88, hf⟩ := stp_e hf
          refine g_yVx (τ := (mgY σ84 σ)) ⟨⟨hx, hb, hml, hown, hB⟩, hK, hi, hA, hAd, hP, hS⟩ hZ sub_YX (c_X5_say hflag (injS (by decide) hi) hv) hn (fun _ _ => rfl) cal_X5_say kM_L_16 ⟨Nat.le_trans (Nat.le_of_ble_eq_true rfl) hRf, Nat.le_trans (Nat.le_of_ble_eq_true rfl) hRl⟩ 48 (by decide) rfl rfl rfl rfl hl.1 (Nat.le_of_ble_eq_true rfl) rfl dL_acts_19 ⟨by omega, by omega⟩ (mgY_1 _ _) (mgY_2 54 _ _) (fun q9 ce9 H locs hP hS hc1 hc2 hc3 => ?_)
          rw [← eσ88] at hP
          refine g_yc1 (Or.inl ⟨rfl, rfl⟩) hown hB hK hT (by decide) hc1 hc2 hc3 ?_
          refine lv_astore (lv' := [(4, .ref q9), (0, .ref (ad 48)), (1, .int a0), (2, .int a1), (3, .int a2)]) hx hb dL_acts_140 hl (by decide) rfl (fun ls hl => ?_)
          refine lv_bipush (v := (-7)) hx hb dL_acts_142 (by decide) ?_
          obtain ⟨h1, h2⟩ := rt2 hf
          refine W.widen (k := 1) (n := 6 * 1) (by omega) (by omega) ?_
          rw [hQ]
          exact g_yret hx hb hr hlocks hP hS h1 h2 dL_acts_144
        · rw [if_neg q87] at hf
          by_cases q89 : n85 = 3
          · rw [if_pos q89] at hf
            subst q89
            obtain ⟨σ90, eσ90, hf⟩ := stp_e hf
            refine g_yVx (τ := (mgY σ84 σ)) ⟨⟨hx, hb, hml, hown, hB⟩, hK, hi, hA, hAd, hP, hS⟩ hZ sub_YX (c_X5_say hflag (injS (by decide) hi) hv) hn (fun _ _ => rfl) cal_X5_say kM_L_16 ⟨Nat.le_trans (Nat.le_of_ble_eq_true rfl) hRf, Nat.le_trans (Nat.le_of_ble_eq_true rfl) hRl⟩ 48 (by decide) rfl rfl rfl rfl hl.1 (Nat.le_of_ble_eq_true rfl) rfl dL_acts_19 ⟨by omega, by omega⟩ (mgY_1 _ _) (mgY_2 54 _ _) (fun q9 ce9 H locs hP hS hc1 hc2 hc3 => ?_)
            rw [← eσ90] at hP
            refine g_yc2 hown hB hK hN hT (by decide) hc1 hc2 hc3 ?_
            refine lv_astore (lv' := [(4, .ref q9), (0, .ref (ad 48)), (1, .int a0), (2, .int a1), (3, .int a2)]) hx hb dL_acts_145 hl (by decide) rfl (fun ls hl => ?_)
            refine lv_bipush (v := (-8)) hx hb dL_acts_147 (by decide) ?_
            obtain ⟨h1, h2⟩ := rt2 hf
            refine W.widen (k := 1) (n := 6 * 1) (by omega) (by omega) ?_
            rw [hQ]
            exact g_yret hx hb hr hlocks hP hS h1 h2 dL_acts_149
          · rw [if_neg q89] at hf
            cases hf
  · rw [if_pos q1] at hf
    refine lv_aload_n hx hb dL_acts_4 rfl (lv_at hl 0 rfl) ?_
    refine lv_iload_n hx hb dL_acts_5 rfl (lv_at hl 2 rfl) ?_
    rcases bt3_e hf with ⟨v91, σ92, hv, hf⟩ | ⟨n93, σ92, hn, ⟨_, hv⟩, hf⟩
    · refine g_yVi (τ := (mgY σ92 σ)) ⟨⟨hx, hb, hml, hown, hB⟩, hK, hi, hA, hAd, hP, hS⟩ hZ sub_YX (c_X5_go hflag (injS (by decide) hi) hv) (fun _ _ => rfl) cal_X5_go kM_L_10 ⟨Nat.le_trans (Nat.le_of_ble_eq_true rfl) hRf, Nat.le_trans (Nat.le_of_ble_eq_true rfl) hRl⟩ 48 (by decide) rfl rfl rfl rfl hl.1 (Nat.le_of_ble_eq_true rfl) rfl dL_acts_6 ⟨by omega, by omega⟩ (mgY_1 _ _) (mgY_2 54 _ _) (fun H locs hP hS => ?_)
      obtain ⟨σ94, eσ94, hf⟩ := stp_e hf
      rw [← eσ94] at hP
      refine lv_goto (tgt := 139) hx hb dL_acts_9 (by decide) ?_
      obtain ⟨h1, h2⟩ := rt2 hf
      refine W.widen (k := 1) (n := 6 * 1) (by omega) (by omega) ?_
      rw [hQ]
      exact g_yret hx hb hr hlocks hP hS h1 h2 dL_acts_139
    · by_cases q95 : n93 = 1
      · rw [if_pos q95] at hf
        subst q95
        obtain ⟨σ96, eσ96, hf⟩ := stp_e hf
        refine g_yVx (τ := (mgY σ92 σ)) ⟨⟨hx, hb, hml, hown, hB⟩, hK, hi, hA, hAd, hP, hS⟩ hZ sub_YX (c_X5_go hflag (injS (by decide) hi) hv) hn (fun _ _ => rfl) cal_X5_go kM_L_10 ⟨Nat.le_trans (Nat.le_of_ble_eq_true rfl) hRf, Nat.le_trans (Nat.le_of_ble_eq_true rfl) hRl⟩ 48 (by decide) rfl rfl rfl rfl hl.1 (Nat.le_of_ble_eq_true rfl) rfl dL_acts_6 ⟨by omega, by omega⟩ (mgY_1 _ _) (mgY_2 54 _ _) (fun q9 ce9 H locs hP hS hc1 hc2 hc3 => ?_)
        rw [← eσ96] at hP
        refine g_yc1 (Or.inl ⟨rfl, rfl⟩) hown hB hK hT (by decide) hc1 hc2 hc3 ?_
        refine lv_astore (lv' := [(4, .ref q9), (0, .ref (ad 48)), (1, .int a0), (2, .int a1), (3, .int a2)]) hx hb dL_acts_140 hl (by decide) rfl (fun ls hl => ?_)
        refine lv_bipush (v := (-7)) hx hb dL_acts_142 (by decide) ?_
        obtain ⟨h1, h2⟩ := rt2 hf
        refine W.widen (k := 1) (n := 6 * 1) (by omega) (by omega) ?_
        rw [hQ]
        exact g_yret hx hb hr hlocks hP hS h1 h2 dL_acts_144
      · rw [if_neg q95] at hf
        by_cases q97 : n93 = 3
        · rw [if_pos q97] at hf
          subst q97
          obtain ⟨σ98, eσ98, hf⟩ := stp_e hf
          refine g_yVx (τ := (mgY σ92 σ)) ⟨⟨hx, hb, hml, hown, hB⟩, hK, hi, hA, hAd, hP, hS⟩ hZ sub_YX (c_X5_go hflag (injS (by decide) hi) hv) hn (fun _ _ => rfl) cal_X5_go kM_L_10 ⟨Nat.le_trans (Nat.le_of_ble_eq_true rfl) hRf, Nat.le_trans (Nat.le_of_ble_eq_true rfl) hRl⟩ 48 (by decide) rfl rfl rfl rfl hl.1 (Nat.le_of_ble_eq_true rfl) rfl dL_acts_6 ⟨by omega, by omega⟩ (mgY_1 _ _) (mgY_2 54 _ _) (fun q9 ce9 H locs hP hS hc1 hc2 hc3 => ?_)
          rw [← eσ98] at hP
          refine g_yc2 hown hB hK hN hT (by decide) hc1 hc2 hc3 ?_
          refine lv_astore (lv' := [(4, .ref q9), (0, .ref (ad 48)), (1, .int a0), (2, .int a1), (3, .int a2)]) hx hb dL_acts_145 hl (by decide) rfl (fun ls hl => ?_)
          refine lv_bipush (v := (-8)) hx hb dL_acts_147 (by decide) ?_
          obtain ⟨h1, h2⟩ := rt2 hf
          refine W.widen (k := 1) (n := 6 * 1) (by omega) (by omega) ?_
          rw [hQ]
          exact g_yret hx hb hr hlocks hP hS h1 h2 dL_acts_149
        · rw [if_neg q97] at hf
          cases hf
def f_L_heard (σ : Mem) (a0 a1 : Int32) : Option (Int32 × Mem) :=
bt (f_X5_heard σ a0 a1) (fun n2 => if n2 = 1 then (
some ((-7), σ))
else none) fun v1 =>
some (v1, σ)
set_option maxHeartbeats 16000000 in
set_option maxRecDepth 100000 in
theorem c_L_heard {l : Launch} {D : va_G} {cI cJ : ClassId} {ad : Nat → Nat} {σ σr : Mem} {a0 a1 : Int32} {r : Int32} (hflag : l.stackTraces = false) (hi : injG 54 ad) (hf : f_L_heard σ a0 a1 = some (r, σr)) : MGY l yL_heard (Cond.codeWith yL_heard cL_heard 4 (some .int) [(0, 6, 7, 48)]) 9 154 1 D cI cJ 54 ad (EY ad cI cJ) [.ref (ad 48), .int a0, .int a1] σ (fun sz => Qgi D 54 ad (EY ad cI cJ) r σr sz) := by
  refine MGY.ofWT (by decide) ?_
  intro p e s m args below meth c hx hb hr hml hlocks hT hown hB hK hZ hN hP hA hAd hS
  have hown : s.vm.findClass RL = some m.cls := hown
  have hl := lv_entry ([.ref (ad 48), .int a0, .int a1] : List Value) (n := 4) (Nat.le_of_ble_eq_true rfl)
  rw [lg_entry_eq]
  generalize (lg_sl ([.ref (ad 48), .int a0, .int a1] : List Value) ++ List.replicate (4 - (lg_sl ([.ref (ad 48), .int a0, .int a1] : List Value)).length) Slot.unset).toArray = ls at hl ⊢
  have hl : lv_has ls 4 [(0, .ref (ad 48)), (1, .int a0), (2, .int a1)] := hl
  generalize hQ : MQ below (Qgi D 54 ad (EY ad cI cJ) r σr s.heap.size) _ s 1 (6 * 1) (AG 54 ad s.heap.size) = Q
  have hQ := hQ.symm
  obtain ⟨R, hR, hRf, hRl, hRc, hRs⟩ : ∃ R : Room, R = ({ frames := 9, cells := 1, slots := 6 * 1, locals := 154 } : Room) ∧ 9 ≤ R.frames ∧ 154 ≤ R.locals ∧ 1 ≤ R.cells ∧ 6 * 1 ≤ R.slots := ⟨_, rfl, Nat.le_refl _, Nat.le_refl _, Nat.le_refl _, Nat.le_refl _⟩
  rw [← hR]
  unfold f_L_heard at hf
  refine lv_aload_n hx hb dL_heard_0 rfl (lv_at hl 0 rfl) ?_
  refine lv_iload_n hx hb dL_heard_1 rfl (lv_at hl 1 rfl) ?_
  refine lv_iload_n hx hb dL_heard_2 rfl (lv_at hl 2 rfl) ?_
  rcases bt_e hf with ⟨v1, hv, hf⟩ | ⟨n2, v1, hn, hv, hf⟩
  · refine g_yVi (τ := σ) ⟨⟨hx, hb, hml, hown, hB⟩, hK, hi, hA, hAd, hP, hS⟩ hZ sub_YX (c_X5_heard hflag (injS (by decide) hi) hv) (fun _ _ => rfl) cal_X5_heard kM_L_52 ⟨Nat.le_trans (Nat.le_of_ble_eq_true rfl) hRf, Nat.le_trans (Nat.le_of_ble_eq_true rfl) hRl⟩ 48 (by decide) rfl rfl rfl rfl hl.1 (Nat.le_of_ble_eq_true rfl) rfl dL_heard_3 ⟨by omega, by omega⟩ (fun _ _ => rfl) (fun _ _ _ => rfl) (fun H locs hP hS => ?_)
    obtain ⟨h1, h2⟩ := rt2 hf
    refine W.widen (k := 1) (n := 6 * 1) (by omega) (by omega) ?_
    rw [hQ]
    exact g_yret hx hb hr hlocks hP hS h1 h2 dL_heard_6
  · by_cases q3 : n2 = 1
    · rw [if_pos q3] at hf
      subst q3
      refine g_yVx (τ := σ) ⟨⟨hx, hb, hml, hown, hB⟩, hK, hi, hA, hAd, hP, hS⟩ hZ sub_YX (c_X5_heard hflag (injS (by decide) hi) hv) hn (fun _ _ => rfl) cal_X5_heard kM_L_52 ⟨Nat.le_trans (Nat.le_of_ble_eq_true rfl) hRf, Nat.le_trans (Nat.le_of_ble_eq_true rfl) hRl⟩ 48 (by decide) rfl rfl rfl rfl hl.1 (Nat.le_of_ble_eq_true rfl) rfl dL_heard_3 ⟨by omega, by omega⟩ (fun _ _ => rfl) (fun _ _ _ => rfl) (fun q9 ce9 H locs hP hS hc1 hc2 hc3 => ?_)
      refine g_yc1 (Or.inl ⟨rfl, rfl⟩) hown hB hK hT (by decide) hc1 hc2 hc3 ?_
      refine lv_astore_n (lv' := [(3, .ref q9), (0, .ref (ad 48)), (1, .int a0), (2, .int a1)]) hx hb dL_heard_7 rfl hl (by decide) rfl (fun ls hl => ?_)
      refine lv_bipush (v := (-7)) hx hb dL_heard_8 (by decide) ?_
      obtain ⟨h1, h2⟩ := rt2 hf
      refine W.widen (k := 1) (n := 6 * 1) (by omega) (by omega) ?_
      rw [hQ]
      exact g_yret hx hb hr hlocks hP hS h1 h2 dL_heard_10
    · rw [if_neg q3] at hf
      cases hf
def f_L_links (σ : Mem) (a0 a1 a2 : Int32) : Option (Int32 × Mem) :=
bt3 (f_X5_link σ a0 a1 a2) (fun n3 σ2 => if n3 = 3 then (
stp (mgY σ2 σ) fun σ6 =>
some (0, σ6))
else none) fun v1 σ2 =>
stp (mgY σ2 σ) fun σ4 =>
some (1, σ4)
set_option maxHeartbeats 16000000 in
set_option maxRecDepth 100000 in
theorem c_L_links {l : Launch} {D : va_G} {cI cJ : ClassId} {ad : Nat → Nat} {σ σr : Mem} {a0 a1 a2 : Int32} {r : Int32} (hflag : l.stackTraces = false) (hi : injG 54 ad) (hf : f_L_links σ a0 a1 a2 = some (r, σr)) : MGY l yL_links (Cond.codeWith yL_links cL_links 5 (some .boolean) [(0, 8, 9, 50)]) 8 177 1 D cI cJ 54 ad (EY ad cI cJ) [.ref (ad 48), .int a0, .int a1, .int a2] σ (fun sz => Qgi D 54 ad (EY ad cI cJ) r σr sz) := by
  refine MGY.ofWT (by decide) ?_
  intro p e s m args below meth c hx hb hr hml hlocks hT hown hB hK hZ hN hP hA hAd hS
  have hown : s.vm.findClass RL = some m.cls := hown
  have hl := lv_entry ([.ref (ad 48), .int a0, .int a1, .int a2] : List Value) (n := 5) (Nat.le_of_ble_eq_true rfl)
  rw [lg_entry_eq]
  generalize (lg_sl ([.ref (ad 48), .int a0, .int a1, .int a2] : List Value) ++ List.replicate (5 - (lg_sl ([.ref (ad 48), .int a0, .int a1, .int a2] : List Value)).length) Slot.unset).toArray = ls at hl ⊢
  have hl : lv_has ls 5 [(0, .ref (ad 48)), (1, .int a0), (2, .int a1), (3, .int a2)] := hl
  generalize hQ : MQ below (Qgi D 54 ad (EY ad cI cJ) r σr s.heap.size) _ s 1 (6 * 1) (AG 54 ad s.heap.size) = Q
  have hQ := hQ.symm
  obtain ⟨R, hR, hRf, hRl, hRc, hRs⟩ : ∃ R : Room, R = ({ frames := 8, cells := 1, slots := 6 * 1, locals := 177 } : Room) ∧ 8 ≤ R.frames ∧ 177 ≤ R.locals ∧ 1 ≤ R.cells ∧ 6 * 1 ≤ R.slots := ⟨_, rfl, Nat.le_refl _, Nat.le_refl _, Nat.le_refl _, Nat.le_refl _⟩
  rw [← hR]
  unfold f_L_links at hf
  refine lv_aload_n hx hb dL_links_0 rfl (lv_at hl 0 rfl) ?_
  refine lv_iload_n hx hb dL_links_1 rfl (lv_at hl 1 rfl) ?_
  refine lv_iload_n hx hb dL_links_2 rfl (lv_at hl 2 rfl) ?_
  refine lv_iload_n hx hb dL_links_3 rfl (lv_at hl 3 rfl) ?_
  rcases bt3_e hf with ⟨v1, σ2, hv, hf⟩ | ⟨n3, σ2, hn, ⟨_, hv⟩, hf⟩
  · refine g_yVv (τ := (mgY σ2 σ)) ⟨⟨hx, hb, hml, hown, hB⟩, hK, hi, hA, hAd, hP, hS⟩ hZ sub_YX (c_X5_link hflag (injS (by decide) hi) hv) (fun _ _ => rfl) cal_X5_link kM_L_55 ⟨Nat.le_trans (Nat.le_of_ble_eq_true rfl) hRf, Nat.le_trans (Nat.le_of_ble_eq_true rfl) hRl⟩ 48 (by decide) rfl rfl rfl rfl hl.1 (Nat.le_of_ble_eq_true rfl) rfl dL_links_4 ⟨by omega, by omega⟩ (mgY_1 _ _) (mgY_2 54 _ _) (fun H locs hP hS => ?_)
    obtain ⟨σ4, eσ4, hf⟩ := stp_e hf
    rw [← eσ4] at hP
    refine lv_iconst (v := 1) hx hb dL_links_7 (by decide) ?_
    obtain ⟨h1, h2⟩ := rt2 hf
    refine W.widen (k := 1) (n := 6 * 1) (by omega) (by omega) ?_
    rw [hQ]
    exact g_yzret hx hb hr hlocks hP hS (Or.inr rfl) h1 h2 dL_links_8
  · by_cases q5 : n3 = 3
    · rw [if_pos q5] at hf
      subst q5
      obtain ⟨σ6, eσ6, hf⟩ := stp_e hf
      refine g_yVx (τ := (mgY σ2 σ)) ⟨⟨hx, hb, hml, hown, hB⟩, hK, hi, hA, hAd, hP, hS⟩ hZ sub_YX (c_X5_link hflag (injS (by decide) hi) hv) hn (fun _ _ => rfl) cal_X5_link kM_L_55 ⟨Nat.le_trans (Nat.le_of_ble_eq_true rfl) hRf, Nat.le_trans (Nat.le_of_ble_eq_true rfl) hRl⟩ 48 (by decide) rfl rfl rfl rfl hl.1 (Nat.le_of_ble_eq_true rfl) rfl dL_links_4 ⟨by omega, by omega⟩ (mgY_1 _ _) (mgY_2 54 _ _) (fun q9 ce9 H locs hP hS hc1 hc2 hc3 => ?_)
      rw [← eσ6] at hP
      refine g_yc1 (Or.inr ⟨rfl, rfl⟩) hown hB hK hT (by decide) hc1 hc2 hc3 ?_
      refine lv_astore (lv' := [(4, .ref q9), (0, .ref (ad 48)), (1, .int a0), (2, .int a1), (3, .int a2)]) hx hb dL_links_9 hl (by decide) rfl (fun ls hl => ?_)
      refine lv_iconst (v := 0) hx hb dL_links_11 (by decide) ?_
      obtain ⟨h1, h2⟩ := rt2 hf
      refine W.widen (k := 1) (n := 6 * 1) (by omega) (by omega) ?_
      rw [hQ]
      exact g_yzret hx hb hr hlocks hP hS (Or.inl rfl) h1 h2 dL_links_12
    · rw [if_neg q5] at hf
      cases hf
def f_L_stages (σ : Mem) (a0 a1 a2 a3 : Int32) : Option (Int32 × Mem) :=
bt3 (f_X5_stage σ a0 a1 a2 a3) (fun n3 σ2 => if n3 = 3 then (
stp (mgY σ2 σ) fun σ6 =>
some ((-8), σ6))
else none) fun v1 σ2 =>
stp (mgY σ2 σ) fun σ4 =>
some (v1, σ4)
set_option maxHeartbeats 16000000 in
set_option maxRecDepth 100000 in
theorem c_L_stages {l : Launch} {D : va_G} {cI cJ : ClassId} {ad : Nat → Nat} {σ σr : Mem} {a0 a1 a2 a3 : Int32} {r : Int32} (hflag : l.stackTraces = false) (hi : injG 54 ad) (hf : f_L_stages σ a0 a1 a2 a3 = some (r, σr)) : MGY l yL_stages (Cond.codeWith yL_stages cL_stages 6 (some .int) [(0, 9, 10, 50)]) 9 178 1 D cI cJ 54 ad (EY ad cI cJ) [.ref (ad 48), .int a0, .int a1, .int a2, .int a3] σ (fun sz => Qgi D 54 ad (EY ad cI cJ) r σr sz) := by
  refine MGY.ofWT (by decide) ?_
  intro p e s m args below meth c hx hb hr hml hlocks hT hown hB hK hZ hN hP hA hAd hS
  have hown : s.vm.findClass RL = some m.cls := hown
  have hl := lv_entry ([.ref (ad 48), .int a0, .int a1, .int a2, .int a3] : List Value) (n := 6) (Nat.le_of_ble_eq_true rfl)
  rw [lg_entry_eq]
  generalize (lg_sl ([.ref (ad 48), .int a0, .int a1, .int a2, .int a3] : List Value) ++ List.replicate (6 - (lg_sl ([.ref (ad 48), .int a0, .int a1, .int a2, .int a3] : List Value)).length) Slot.unset).toArray = ls at hl ⊢
  have hl : lv_has ls 6 [(0, .ref (ad 48)), (1, .int a0), (2, .int a1), (3, .int a2), (4, .int a3)] := hl
  generalize hQ : MQ below (Qgi D 54 ad (EY ad cI cJ) r σr s.heap.size) _ s 1 (6 * 1) (AG 54 ad s.heap.size) = Q
  have hQ := hQ.symm
  obtain ⟨R, hR, hRf, hRl, hRc, hRs⟩ : ∃ R : Room, R = ({ frames := 9, cells := 1, slots := 6 * 1, locals := 178 } : Room) ∧ 9 ≤ R.frames ∧ 178 ≤ R.locals ∧ 1 ≤ R.cells ∧ 6 * 1 ≤ R.slots := ⟨_, rfl, Nat.le_refl _, Nat.le_refl _, Nat.le_refl _, Nat.le_refl _⟩
  rw [← hR]
  unfold f_L_stages at hf
  refine lv_aload_n hx hb dL_stages_0 rfl (lv_at hl 0 rfl) ?_
  refine lv_iload_n hx hb dL_stages_1 rfl (lv_at hl 1 rfl) ?_
  refine lv_iload_n hx hb dL_stages_2 rfl (lv_at hl 2 rfl) ?_
  refine lv_iload_n hx hb dL_stages_3 rfl (lv_at hl 3 rfl) ?_
  refine lv_iload hx hb dL_stages_4 (lv_at hl 4 rfl) ?_
  rcases bt3_e hf with ⟨v1, σ2, hv, hf⟩ | ⟨n3, σ2, hn, ⟨_, hv⟩, hf⟩
  · refine g_yVi (τ := (mgY σ2 σ)) ⟨⟨hx, hb, hml, hown, hB⟩, hK, hi, hA, hAd, hP, hS⟩ hZ sub_YX (c_X5_stage hflag (injS (by decide) hi) hv) (fun _ _ => rfl) cal_X5_stage kM_L_59 ⟨Nat.le_trans (Nat.le_of_ble_eq_true rfl) hRf, Nat.le_trans (Nat.le_of_ble_eq_true rfl) hRl⟩ 48 (by decide) rfl rfl rfl rfl hl.1 (Nat.le_of_ble_eq_true rfl) rfl dL_stages_6 ⟨by omega, by omega⟩ (mgY_1 _ _) (mgY_2 54 _ _) (fun H locs hP hS => ?_)
    obtain ⟨σ4, eσ4, hf⟩ := stp_e hf
    rw [← eσ4] at hP
    obtain ⟨h1, h2⟩ := rt2 hf
    refine W.widen (k := 1) (n := 6 * 1) (by omega) (by omega) ?_
    rw [hQ]
    exact g_yret hx hb hr hlocks hP hS h1 h2 dL_stages_9
  · by_cases q5 : n3 = 3
    · rw [if_pos q5] at hf
      subst q5
      obtain ⟨σ6, eσ6, hf⟩ := stp_e hf
      refine g_yVx (τ := (mgY σ2 σ)) ⟨⟨hx, hb, hml, hown, hB⟩, hK, hi, hA, hAd, hP, hS⟩ hZ sub_YX (c_X5_stage hflag (injS (by decide) hi) hv) hn (fun _ _ => rfl) cal_X5_stage kM_L_59 ⟨Nat.le_trans (Nat.le_of_ble_eq_true rfl) hRf, Nat.le_trans (Nat.le_of_ble_eq_true rfl) hRl⟩ 48 (by decide) rfl rfl rfl rfl hl.1 (Nat.le_of_ble_eq_true rfl) rfl dL_stages_6 ⟨by omega, by omega⟩ (mgY_1 _ _) (mgY_2 54 _ _) (fun q9 ce9 H locs hP hS hc1 hc2 hc3 => ?_)
      rw [← eσ6] at hP
      refine g_yc1 (Or.inr ⟨rfl, rfl⟩) hown hB hK hT (by decide) hc1 hc2 hc3 ?_
      refine lv_astore (lv' := [(5, .ref q9), (0, .ref (ad 48)), (1, .int a0), (2, .int a1), (3, .int a2), (4, .int a3)]) hx hb dL_stages_10 hl (by decide) rfl (fun ls hl => ?_)
      refine lv_bipush (v := (-8)) hx hb dL_stages_12 (by decide) ?_
      obtain ⟨h1, h2⟩ := rt2 hf
      refine W.widen (k := 1) (n := 6 * 1) (by omega) (by omega) ?_
      rw [hQ]
      exact g_yret hx hb hr hlocks hP hS h1 h2 dL_stages_14
    · rw [if_neg q5] at hf
      cases hf
def f_L_after (σ : Mem) (a0 a1 a2 : Int32) : Option (Int32 × Mem) :=
if a0 = 0 then (
bt3 (f_X5_roomAfter σ a1 a2) (fun n17 σ16 => if n17 = 1 then (
stp (mgY σ16 σ) fun σ20 =>
some ((-7), σ20))
else none) fun v15 σ16 =>
stp (mgY σ16 σ) fun σ18 =>
some (v15, σ18))
else (
if a0 = 1 then (
bt3 (f_X5_coinsAfter σ a1 a2) (fun n11 σ10 => if n11 = 1 then (
stp (mgY σ10 σ) fun σ14 =>
some ((-7), σ14))
else none) fun v9 σ10 =>
stp (mgY σ10 σ) fun σ12 =>
some (v9, σ12))
else (
bt3 (f_X5_turnAfter σ a1) (fun n5 σ4 => if n5 = 1 then (
stp (mgY σ4 σ) fun σ8 =>
some ((-7), σ8))
else none) fun v3 σ4 =>
stp (mgY σ4 σ) fun σ6 =>
some (v3, σ6)))
set_option maxHeartbeats 16000000 in
set_option maxRecDepth 100000 in
theorem c_L_after {l : Launch} {D : va_G} {cI cJ : ClassId} {ad : Nat → Nat} {σ σr : Mem} {a0 a1 a2 : Int32} {r : Int32} (hflag : l.stackTraces = false) (hi : injG 54 ad) (hf : f_L_after σ a0 a1 a2 = some (r, σr)) : MGY l yL_after (Cond.codeWith yL_after cL_after 5 (some .int) [(0, 32, 33, 48)]) 8 175 1 D cI cJ 54 ad (EY ad cI cJ) [.ref (ad 48), .int a0, .int a1, .int a2] σ (fun sz => Qgi D 54 ad (EY ad cI cJ) r σr sz) := by
  refine MGY.ofWT (by decide) ?_
  intro p e s m args below meth c hx hb hr hml hlocks hT hown hB hK hZ hN hP hA hAd hS
  have hown : s.vm.findClass RL = some m.cls := hown
  have hl := lv_entry ([.ref (ad 48), .int a0, .int a1, .int a2] : List Value) (n := 5) (Nat.le_of_ble_eq_true rfl)
  rw [lg_entry_eq]
  generalize (lg_sl ([.ref (ad 48), .int a0, .int a1, .int a2] : List Value) ++ List.replicate (5 - (lg_sl ([.ref (ad 48), .int a0, .int a1, .int a2] : List Value)).length) Slot.unset).toArray = ls at hl ⊢
  have hl : lv_has ls 5 [(0, .ref (ad 48)), (1, .int a0), (2, .int a1), (3, .int a2)] := hl
  generalize hQ : MQ below (Qgi D 54 ad (EY ad cI cJ) r σr s.heap.size) _ s 1 (6 * 1) (AG 54 ad s.heap.size) = Q
  have hQ := hQ.symm
  obtain ⟨R, hR, hRf, hRl, hRc, hRs⟩ : ∃ R : Room, R = ({ frames := 8, cells := 1, slots := 6 * 1, locals := 175 } : Room) ∧ 8 ≤ R.frames ∧ 175 ≤ R.locals ∧ 1 ≤ R.cells ∧ 6 * 1 ≤ R.slots := ⟨_, rfl, Nat.le_refl _, Nat.le_refl _, Nat.le_refl _, Nat.le_refl _⟩
  rw [← hR]
  unfold f_L_after at hf
  refine lv_iload_n hx hb dL_after_0 rfl (lv_at hl 1 rfl) ?_
  refine lv_if_ne (tgt := 13) hx hb dL_after_1 (by decide) (fun q1 => ?_) (fun q1 => ?_)
  · rw [if_neg q1] at hf
    refine lv_iload_n hx hb dL_after_13 rfl (lv_at hl 1 rfl) ?_
    refine lv_iconst (v := 1) hx hb dL_after_14 (by decide) ?_
    refine lv_icmp_ne (tgt := 27) hx hb dL_after_15 (by decide) (fun q2 => ?_) (fun q2 => ?_)
    · rw [if_neg q2] at hf
      refine lv_aload_n hx hb dL_after_27 rfl (lv_at hl 0 rfl) ?_
      refine lv_iload_n hx hb dL_after_28 rfl (lv_at hl 2 rfl) ?_
      rcases bt3_e hf with ⟨v3, σ4, hv, hf⟩ | ⟨n5, σ4, hn, ⟨_, hv⟩, hf⟩
      · refine g_yVi (τ := (mgY σ4 σ)) ⟨⟨hx, hb, hml, hown, hB⟩, hK, hi, hA, hAd, hP, hS⟩ hZ sub_YX (c_X5_turnAfter hflag (injS (by decide) hi) hv) (fun _ _ => rfl) cal_X5_turnAfter kM_L_117 ⟨Nat.le_trans (Nat.le_of_ble_eq_true rfl) hRf, Nat.le_trans (Nat.le_of_ble_eq_true rfl) hRl⟩ 48 (by decide) rfl rfl rfl rfl hl.1 (Nat.le_of_ble_eq_true rfl) rfl dL_after_29 ⟨by omega, by omega⟩ (mgY_1 _ _) (mgY_2 54 _ _) (fun H locs hP hS => ?_)
        obtain ⟨σ6, eσ6, hf⟩ := stp_e hf
        rw [← eσ6] at hP
        obtain ⟨h1, h2⟩ := rt2 hf
        refine W.widen (k := 1) (n := 6 * 1) (by omega) (by omega) ?_
        rw [hQ]
        exact g_yret hx hb hr hlocks hP hS h1 h2 dL_after_32
      · by_cases q7 : n5 = 1
        · rw [if_pos q7] at hf
          subst q7
          obtain ⟨σ8, eσ8, hf⟩ := stp_e hf
          refine g_yVx (τ := (mgY σ4 σ)) ⟨⟨hx, hb, hml, hown, hB⟩, hK, hi, hA, hAd, hP, hS⟩ hZ sub_YX (c_X5_turnAfter hflag (injS (by decide) hi) hv) hn (fun _ _ => rfl) cal_X5_turnAfter kM_L_117 ⟨Nat.le_trans (Nat.le_of_ble_eq_true rfl) hRf, Nat.le_trans (Nat.le_of_ble_eq_true rfl) hRl⟩ 48 (by decide) rfl rfl rfl rfl hl.1 (Nat.le_of_ble_eq_true rfl) rfl dL_after_29 ⟨by omega, by omega⟩ (mgY_1 _ _) (mgY_2 54 _ _) (fun q9 ce9 H locs hP hS hc1 hc2 hc3 => ?_)
          rw [← eσ8] at hP
          refine g_yc1 (Or.inl ⟨rfl, rfl⟩) hown hB hK hT (by decide) hc1 hc2 hc3 ?_
          refine lv_astore (lv' := [(4, .ref q9), (0, .ref (ad 48)), (1, .int a0), (2, .int a1), (3, .int a2)]) hx hb dL_after_33 hl (by decide) rfl (fun ls hl => ?_)
          refine lv_bipush (v := (-7)) hx hb dL_after_35 (by decide) ?_
          obtain ⟨h1, h2⟩ := rt2 hf
          refine W.widen (k := 1) (n := 6 * 1) (by omega) (by omega) ?_
          rw [hQ]
          exact g_yret hx hb hr hlocks hP hS h1 h2 dL_after_37
        · rw [if_neg q7] at hf
          cases hf
    · rw [if_pos q2] at hf
      refine lv_aload_n hx hb dL_after_18 rfl (lv_at hl 0 rfl) ?_
      refine lv_iload_n hx hb dL_after_19 rfl (lv_at hl 2 rfl) ?_
      refine lv_iload_n hx hb dL_after_20 rfl (lv_at hl 3 rfl) ?_
      rcases bt3_e hf with ⟨v9, σ10, hv, hf⟩ | ⟨n11, σ10, hn, ⟨_, hv⟩, hf⟩
      · refine g_yVi (τ := (mgY σ10 σ)) ⟨⟨hx, hb, hml, hown, hB⟩, hK, hi, hA, hAd, hP, hS⟩ hZ sub_YX (c_X5_coinsAfter hflag (injS (by decide) hi) hv) (fun _ _ => rfl) cal_X5_coinsAfter kM_L_114 ⟨Nat.le_trans (Nat.le_of_ble_eq_true rfl) hRf, Nat.le_trans (Nat.le_of_ble_eq_true rfl) hRl⟩ 48 (by decide) rfl rfl rfl rfl hl.1 (Nat.le_of_ble_eq_true rfl) rfl dL_after_21 ⟨by omega, by omega⟩ (mgY_1 _ _) (mgY_2 54 _ _) (fun H locs hP hS => ?_)
        obtain ⟨σ12, eσ12, hf⟩ := stp_e hf
        rw [← eσ12] at hP
        refine lv_goto (tgt := 32) hx hb dL_after_24 (by decide) ?_
        obtain ⟨h1, h2⟩ := rt2 hf
        refine W.widen (k := 1) (n := 6 * 1) (by omega) (by omega) ?_
        rw [hQ]
        exact g_yret hx hb hr hlocks hP hS h1 h2 dL_after_32
      · by_cases q13 : n11 = 1
        · rw [if_pos q13] at hf
          subst q13
          obtain ⟨σ14, eσ14, hf⟩ := stp_e hf
          refine g_yVx (τ := (mgY σ10 σ)) ⟨⟨hx, hb, hml, hown, hB⟩, hK, hi, hA, hAd, hP, hS⟩ hZ sub_YX (c_X5_coinsAfter hflag (injS (by decide) hi) hv) hn (fun _ _ => rfl) cal_X5_coinsAfter kM_L_114 ⟨Nat.le_trans (Nat.le_of_ble_eq_true rfl) hRf, Nat.le_trans (Nat.le_of_ble_eq_true rfl) hRl⟩ 48 (by decide) rfl rfl rfl rfl hl.1 (Nat.le_of_ble_eq_true rfl) rfl dL_after_21 ⟨by omega, by omega⟩ (mgY_1 _ _) (mgY_2 54 _ _) (fun q9 ce9 H locs hP hS hc1 hc2 hc3 => ?_)
          rw [← eσ14] at hP
          refine g_yc1 (Or.inl ⟨rfl, rfl⟩) hown hB hK hT (by decide) hc1 hc2 hc3 ?_
          refine lv_astore (lv' := [(4, .ref q9), (0, .ref (ad 48)), (1, .int a0), (2, .int a1), (3, .int a2)]) hx hb dL_after_33 hl (by decide) rfl (fun ls hl => ?_)
          refine lv_bipush (v := (-7)) hx hb dL_after_35 (by decide) ?_
          obtain ⟨h1, h2⟩ := rt2 hf
          refine W.widen (k := 1) (n := 6 * 1) (by omega) (by omega) ?_
          rw [hQ]
          exact g_yret hx hb hr hlocks hP hS h1 h2 dL_after_37
        · rw [if_neg q13] at hf
          cases hf
  · rw [if_pos q1] at hf
    refine lv_aload_n hx hb dL_after_4 rfl (lv_at hl 0 rfl) ?_
    refine lv_iload_n hx hb dL_after_5 rfl (lv_at hl 2 rfl) ?_
    refine lv_iload_n hx hb dL_after_6 rfl (lv_at hl 3 rfl) ?_
    rcases bt3_e hf with ⟨v15, σ16, hv, hf⟩ | ⟨n17, σ16, hn, ⟨_, hv⟩, hf⟩
    · refine g_yVi (τ := (mgY σ16 σ)) ⟨⟨hx, hb, hml, hown, hB⟩, hK, hi, hA, hAd, hP, hS⟩ hZ sub_YX (c_X5_roomAfter hflag (injS (by decide) hi) hv) (fun _ _ => rfl) cal_X5_roomAfter kM_L_111 ⟨Nat.le_trans (Nat.le_of_ble_eq_true rfl) hRf, Nat.le_trans (Nat.le_of_ble_eq_true rfl) hRl⟩ 48 (by decide) rfl rfl rfl rfl hl.1 (Nat.le_of_ble_eq_true rfl) rfl dL_after_7 ⟨by omega, by omega⟩ (mgY_1 _ _) (mgY_2 54 _ _) (fun H locs hP hS => ?_)
      obtain ⟨σ18, eσ18, hf⟩ := stp_e hf
      rw [← eσ18] at hP
      refine lv_goto (tgt := 32) hx hb dL_after_10 (by decide) ?_
      obtain ⟨h1, h2⟩ := rt2 hf
      refine W.widen (k := 1) (n := 6 * 1) (by omega) (by omega) ?_
      rw [hQ]
      exact g_yret hx hb hr hlocks hP hS h1 h2 dL_after_32
    · by_cases q19 : n17 = 1
      · rw [if_pos q19] at hf
        subst q19
        obtain ⟨σ20, eσ20, hf⟩ := stp_e hf
        refine g_yVx (τ := (mgY σ16 σ)) ⟨⟨hx, hb, hml, hown, hB⟩, hK, hi, hA, hAd, hP, hS⟩ hZ sub_YX (c_X5_roomAfter hflag (injS (by decide) hi) hv) hn (fun _ _ => rfl) cal_X5_roomAfter kM_L_111 ⟨Nat.le_trans (Nat.le_of_ble_eq_true rfl) hRf, Nat.le_trans (Nat.le_of_ble_eq_true rfl) hRl⟩ 48 (by decide) rfl rfl rfl rfl hl.1 (Nat.le_of_ble_eq_true rfl) rfl dL_after_7 ⟨by omega, by omega⟩ (mgY_1 _ _) (mgY_2 54 _ _) (fun q9 ce9 H locs hP hS hc1 hc2 hc3 => ?_)
        rw [← eσ20] at hP
        refine g_yc1 (Or.inl ⟨rfl, rfl⟩) hown hB hK hT (by decide) hc1 hc2 hc3 ?_
        refine lv_astore (lv' := [(4, .ref q9), (0, .ref (ad 48)), (1, .int a0), (2, .int a1), (3, .int a2)]) hx hb dL_after_33 hl (by decide) rfl (fun ls hl => ?_)
        refine lv_bipush (v := (-7)) hx hb dL_after_35 (by decide) ?_
        obtain ⟨h1, h2⟩ := rt2 hf
        refine W.widen (k := 1) (n := 6 * 1) (by omega) (by omega) ?_
        rw [hQ]
        exact g_yret hx hb hr hlocks hP hS h1 h2 dL_after_37
      · rw [if_neg q19] at hf
        cases hf
