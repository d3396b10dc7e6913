set_option maxHeartbeats 4000000 in
set_option maxRecDepth 100000 in
theorem law_loop {p : Program} {l : Launch} {e : Env} {s : State} {m : MethodId} {below : List Frame} {meth : Method} {c : Code} {b L : Nat} {xs : Nat → Int32} {D : va_G} {cI cJ : ClassId} {ad : Nat → Nat} (hL : L ≤ 2560) (hb : c.code = code) (hr : meth.sig.returnType = ret) (hlocks : meth.locks = false)
    (C : ∀ i, i + 5 ≤ L → LC p l room_1 s m #[Value.ref b] c (fun q => s.heap.size ≤ q) b L i xs D cI cJ ad) (hx : p.tables.exec = Jvm.exec) (hX : va_X b L xs s s.heap) (hbl : b < s.heap.size) :
    ∀ (n j k : Nat) (ρ : Mem) (M : Nat → Mem) (H : Heap) (locs : List Loc) (ls : Array Slot), n + j = 513 → k ≤ j → 5 * j ≤ L → SX k ρ (sh2 ρ) M → va_P D vwCl (wsG 77 ad (EZ ad cI cJ) ρ) H → va_S (fun q => s.heap.size ≤ q) s.heap H locs → lv_has ls 7 [(4, .int (nI (5 * j))), (0, .ref b), (1, .ref (ad 48)), (2, .ref (ad 52)), (3, .ref (ad 51))] → W p l e room_1 s m #[Value.ref b] below meth c H locs (77 + j) (14520 + 6 * j) (lw_Z below #[Value.ref b] s) (F0 m 23 ls []) := by
  have hbA : ¬ (fun q : Nat => s.heap.size ≤ q) b := Nat.not_le.mpr hbl
  intro n
  induction n with
  | zero => intro j k ρ M H locs ls h1 h2 h3; omega
  | succ n ih =>
    intro j k ρ M H locs ls hnj hkj hjL hSX hP hV hl
    refine lv_iload hx hb dL_law_23 (lv_at hl 0 rfl) ?_
    refine lv_aload_n hx hb dL_law_25 rfl (lv_at hl 1 rfl) ?_
    refine va_slen hx hb hX hbl hbA hV dL_law_26 ?_
    refine lv_iconst (v := 5) hx hb dL_law_27 (by decide) ?_
    refine lv_isub hx hb dL_law_28 ?_
    refine lv_icmp_gt (tgt := 2502) hx hb dL_law_29 (by decide) (fun _ => ?_) (fun hgt => ?_)
    · refine lv_iconst (v := 1) hx hb dL_law_2502 (by decide) ?_
      refine va_forget (fun q hq => hV.2.2 q hq) ?_
      refine W.widen (k := 1126) (n := 22862) (by omega) (by omega) ?_
      exact lw_ret hx hb hr hlocks dL_law_2503
    · have hiL : 5 * j + 5 ≤ L := by
        by_cases h : L < 5
        · exfalso
          apply hgt
          have h0 : ∀ L, L < 5 → Int32.ofNat L - 5 < 0 := by decide
          exact Int32.lt_of_lt_of_le (h0 L h) (nI_pos' (show 5 * j < 2 ^ 31 by omega))
        · have e5 : Int32.ofNat L - 5 = nI (L - 5) := pk_sub (a := L) (b := 5) (by omega)
          rw [e5] at hgt
          have := Nat.le_of_not_lt fun q => hgt (nI_lt q (show 5 * j < 2 ^ 31 by omega))
          omega
      refine lv_aload_n hx hb dL_law_32 rfl (lv_at hl 1 rfl) ?_
      refine lv_iload hx hb dL_law_33 (lv_at hl 0 rfl) ?_
      refine va_sld hx hb hX hbl hbA hV (vp_in_nI (show 5 * j < L by omega) (by omega)) dL_law_35 ?_
      refine lv_bipush (v := 63) hx hb dL_law_36 (by decide) ?_
      refine lv_iand hx hb dL_law_38 ?_
      have nxt : Nxt p l e room_1 s m #[Value.ref b] below meth c (fun q => s.heap.size ≤ q) b (5 * j) k D cI cJ ad (77 + j) (14520 + 6 * j) (lw_Z below #[Value.ref b] s) := by
        intro ρ' k' M' H locs ls hk' hSX' hP hV hl
        refine lv_iinc (v := nI (5 * (j + 1))) (lv' := [(4, .int (nI (5 * (j + 1)))), (0, .ref b), (1, .ref (ad 48)), (2, .ref (ad 52)), (3, .ref (ad 51))]) hx hb dL_law_2496 hl (k := 0) rfl (nI_add (5 * j) 5) (by decide) rfl (fun ls hl => ?_)
        refine lv_goto (tgt := 23) hx hb dL_law_2499 (by decide) ?_
        refine W.widen (k := 77 + (j + 1)) (n := 14520 + 6 * (j + 1)) (by omega) (by omega) ?_
        exact ih (j + 1) k' ρ' M' H locs ls (by omega) (by omega) (by omega) hSX' hP hV hl
      have hcs : 77 + j + 1 ≤ room_1.cells ∧ 14520 + 6 * j + 6 ≤ room_1.slots := ⟨by show 77 + j + 1 ≤ 1126; omega, by show 14520 + 6 * j + 6 ≤ 22862; omega⟩
      have hC := C (5 * j) hiL
      generalize (xs (nI (5 * j)).toNatClampNeg &&& 63) = x
      by_cases hout : x.toInt < 0 ∨ 39 < x.toInt
      · refine lv_tableOut (tgt := 2496) hx hb dL_law_39 hout (by decide) ?_
        refine W.widen (k := 77 + j + 1) (n := 14520 + 6 * j + 6) (by omega) (by omega) ?_
        exact nxt ρ k M H locs ls (Nat.le_succ k) hSX hP hV hl
      · obtain ⟨n0, n1, rfl⟩ : ∃ n0 : Nat, n0 < 40 ∧ x = nI n0 := by
          have h0 : ¬ x < 0 := fun q => hout (Or.inl (Int32.lt_iff_toInt_lt.mp q))
          obtain ⟨n0, q1, rfl⟩ := nI_of h0
          refine ⟨n0, ?_, rfl⟩
          rw [nI_toInt q1] at hout
          omega
        clear hout
        rcases (show n0 = 0 ∨ n0 = 1 ∨ n0 = 2 ∨ n0 = 3 ∨ n0 = 4 ∨ n0 = 5 ∨ n0 = 6 ∨ n0 = 7 ∨ n0 = 8 ∨ n0 = 9 ∨ n0 = 10 ∨ n0 = 11 ∨ n0 = 12 ∨ n0 = 13 ∨ n0 = 14 ∨ n0 = 15 ∨ n0 = 16 ∨ n0 = 17 ∨ n0 = 18 ∨ n0 = 19 ∨ n0 = 20 ∨ n0 = 21 ∨ n0 = 22 ∨ n0 = 23 ∨ n0 = 24 ∨ n0 = 25 ∨ n0 = 26 ∨ n0 = 27 ∨ n0 = 28 ∨ n0 = 29 ∨ n0 = 30 ∨ n0 = 31 ∨ n0 = 32 ∨ n0 = 33 ∨ n0 = 34 ∨ n0 = 35 ∨ n0 = 36 ∨ n0 = 37 ∨ n0 = 38 ∨ n0 = 39 by omega) with rfl | rfl | rfl | rfl | rfl | rfl | rfl | rfl | rfl | rfl | rfl | rfl | rfl | rfl | rfl | rfl | rfl | rfl | rfl | rfl | rfl | rfl | rfl | rfl | rfl | rfl | rfl | rfl | rfl | rfl | rfl | rfl | rfl | rfl | rfl | rfl | rfl | rfl | rfl | rfl
        · exact lv_tableIn (tgt := 212) hx hb dL_law_39 (by decide) (by decide) (off := 173) (by decide) (by decide) (lc_0 hC hSX (by omega) hP hV hl hcs nxt)
        · exact lv_tableIn (tgt := 272) hx hb dL_law_39 (by decide) (by decide) (off := 233) (by decide) (by decide) (lc_1 hC hSX (by omega) hP hV hl hcs nxt)
        · exact lv_tableIn (tgt := 320) hx hb dL_law_39 (by decide) (by decide) (off := 281) (by decide) (by decide) (lc_2 hC hSX (by omega) hP hV hl hcs nxt)
        · exact lv_tableIn (tgt := 412) hx hb dL_law_39 (by decide) (by decide) (off := 373) (by decide) (by decide) (lc_3 hC hSX (by omega) hP hV hl hcs nxt)
        · exact lv_tableIn (tgt := 492) hx hb dL_law_39 (by decide) (by decide) (off := 453) (by decide) (by decide) (lc_4 hC hSX (by omega) hP hV hl hcs nxt)
        · exact lv_tableIn (tgt := 572) hx hb dL_law_39 (by decide) (by decide) (off := 533) (by decide) (by decide) (lc_5 hC hSX (by omega) hP hV hl hcs nxt)
        · exact lv_tableIn (tgt := 628) hx hb dL_law_39 (by decide) (by decide) (off := 589) (by decide) (by decide) (lc_6 hC hSX (by omega) hP hV hl hcs nxt)
        · exact lv_tableIn (tgt := 720) hx hb dL_law_39 (by decide) (by decide) (off := 681) (by decide) (by decide) (lc_7 hC hSX (by omega) hP hV hl hcs nxt)
        · exact lv_tableIn (tgt := 776) hx hb dL_law_39 (by decide) (by decide) (off := 737) (by decide) (by decide) (lc_8 hC hSX (by omega) hP hV hl hcs nxt)
        · exact lv_tableIn (tgt := 812) hx hb dL_law_39 (by decide) (by decide) (off := 773) (by decide) (by decide) (lc_9 hC hSX (by omega) hP hV hl hcs nxt)
        · exact lv_tableIn (tgt := 868) hx hb dL_law_39 (by decide) (by decide) (off := 829) (by decide) (by decide) (lc_10 hC hSX (by omega) hP hV hl hcs nxt)
        · exact lv_tableIn (tgt := 924) hx hb dL_law_39 (by decide) (by decide) (off := 885) (by decide) (by decide) (lc_11 hC hSX (by omega) hP hV hl hcs nxt)
        · exact lv_tableIn (tgt := 980) hx hb dL_law_39 (by decide) (by decide) (off := 941) (by decide) (by decide) (lc_12 hC hSX (by omega) hP hV hl hcs nxt)
        · exact lv_tableIn (tgt := 1036) hx hb dL_law_39 (by decide) (by decide) (off := 997) (by decide) (by decide) (lc_13 hC hSX (by omega) hP hV hl hcs nxt)
        · exact lv_tableIn (tgt := 1092) hx hb dL_law_39 (by decide) (by decide) (off := 1053) (by decide) (by decide) (lc_14 hC hSX (by omega) hP hV hl hcs nxt)
        · exact lv_tableIn (tgt := 1160) hx hb dL_law_39 (by decide) (by decide) (off := 1121) (by decide) (by decide) (lc_15 hC hSX (by omega) hP hV hl hcs nxt)
        · exact lv_tableIn (tgt := 1228) hx hb dL_law_39 (by decide) (by decide) (off := 1189) (by decide) (by decide) (lc_16 hC hSX (by omega) hP hV hl hcs nxt)
        · exact lv_tableIn (tgt := 1284) hx hb dL_law_39 (by decide) (by decide) (off := 1245) (by decide) (by decide) (lc_17 hC hSX (by omega) hP hV hl hcs nxt)
        · exact lv_tableIn (tgt := 1340) hx hb dL_law_39 (by decide) (by decide) (off := 1301) (by decide) (by decide) (lc_18 hC hSX (by omega) hP hV hl hcs nxt)
        · exact lv_tableIn (tgt := 1396) hx hb dL_law_39 (by decide) (by decide) (off := 1357) (by decide) (by decide) (lc_19 hC hSX (by omega) hP hV hl hcs nxt)
        · exact lv_tableIn (tgt := 1440) hx hb dL_law_39 (by decide) (by decide) (off := 1401) (by decide) (by decide) (lc_20 hC hSX (by omega) hP hV hl hcs nxt)
        · exact lv_tableIn (tgt := 1453) hx hb dL_law_39 (by decide) (by decide) (off := 1414) (by decide) (by decide) (lc_21 hC hSX (by omega) hP hV hl hcs nxt)
        · exact lv_tableIn (tgt := 1509) hx hb dL_law_39 (by decide) (by decide) (off := 1470) (by decide) (by decide) (lc_22 hC hSX (by omega) hP hV hl hcs nxt)
        · exact lv_tableIn (tgt := 1565) hx hb dL_law_39 (by decide) (by decide) (off := 1526) (by decide) (by decide) (lc_23 hC hSX (by omega) hP hV hl hcs nxt)
        · exact lv_tableIn (tgt := 1621) hx hb dL_law_39 (by decide) (by decide) (off := 1582) (by decide) (by decide) (lc_24 hC hSX (by omega) hP hV hl hcs nxt)
        · exact lv_tableIn (tgt := 1677) hx hb dL_law_39 (by decide) (by decide) (off := 1638) (by decide) (by decide) (lc_25 hC hSX (by omega) hP hV hl hcs nxt)
        · exact lv_tableIn (tgt := 1745) hx hb dL_law_39 (by decide) (by decide) (off := 1706) (by decide) (by decide) (lc_26 hC hSX (by omega) hP hV hl hcs nxt)
        · exact lv_tableIn (tgt := 1813) hx hb dL_law_39 (by decide) (by decide) (off := 1774) (by decide) (by decide) (lc_27 hC hSX (by omega) hP hV hl hcs nxt)
        · exact lv_tableIn (tgt := 1881) hx hb dL_law_39 (by decide) (by decide) (off := 1842) (by decide) (by decide) (lc_28 hC hSX (by omega) hP hV hl hcs nxt)
        · exact lv_tableIn (tgt := 1949) hx hb dL_law_39 (by decide) (by decide) (off := 1910) (by decide) (by decide) (lc_29 hC hSX (by omega) hP hV hl hcs nxt)
        · exact lv_tableIn (tgt := 2017) hx hb dL_law_39 (by decide) (by decide) (off := 1978) (by decide) (by decide) (lc_30 hC hSX (by omega) hP hV hl hcs nxt)
        · exact lv_tableIn (tgt := 2085) hx hb dL_law_39 (by decide) (by decide) (off := 2046) (by decide) (by decide) (lc_31 hC hSX (by omega) hP hV hl hcs nxt)
        · exact lv_tableIn (tgt := 2153) hx hb dL_law_39 (by decide) (by decide) (off := 2114) (by decide) (by decide) (lc_32 hC hSX (by omega) hP hV hl hcs nxt)
        · exact lv_tableIn (tgt := 2209) hx hb dL_law_39 (by decide) (by decide) (off := 2170) (by decide) (by decide) (lc_33 hC hSX (by omega) hP hV hl hcs nxt)
        · exact lv_tableIn (tgt := 2222) hx hb dL_law_39 (by decide) (by decide) (off := 2183) (by decide) (by decide) (lc_34 hC hSX (by omega) hP hV hl hcs nxt)
        · exact lv_tableIn (tgt := 2235) hx hb dL_law_39 (by decide) (by decide) (off := 2196) (by decide) (by decide) (lc_35 hC hSX (by omega) hP hV hl hcs nxt)
        · exact lv_tableIn (tgt := 2291) hx hb dL_law_39 (by decide) (by decide) (off := 2252) (by decide) (by decide) (lc_36 hC hSX (by omega) hP hV hl hcs nxt)
        · exact lv_tableIn (tgt := 2304) hx hb dL_law_39 (by decide) (by decide) (off := 2265) (by decide) (by decide) (lc_37 hC hSX (by omega) hP hV hl hcs nxt)
        · exact lv_tableIn (tgt := 2372) hx hb dL_law_39 (by decide) (by decide) (off := 2333) (by decide) (by decide) (lc_38 hC hSX (by omega) hP hV hl hcs nxt)
        · exact lv_tableIn (tgt := 2440) hx hb dL_law_39 (by decide) (by decide) (off := 2401) (by decide) (by decide) (lc_39 hC hSX (by omega) hP hV hl hcs nxt)
