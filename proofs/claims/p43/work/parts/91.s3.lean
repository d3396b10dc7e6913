theorem m_NWL : ∀ q ∈ NWL, Cond.methodLinkNest q.1 q.2.1 q.2.2.1 q.2.2.2 ∈ lw_tbl := by decide +kernel
theorem m_STL : ∀ q ∈ STL, Cond.stringRef q.1 q.2.1 q.2.2 ∈ lw_tbl ∧ q.1 = RX5 := by decide +kernel
theorem m_CAL : ∀ q ∈ CAL, Cond.castable q.1 q.2 ∈ lw_tbl := by decide +kernel
theorem m_DCL : ∀ x ∈ DCL, Cond.declares x ∈ lw_tbl := by decide +kernel
theorem m_L1 : Cond.laysStatic "java/lang/Throwable" "UNASSIGNED_STACK" "[Ljava/lang/StackTraceElement;" ∈ lw_tbl := by decide +kernel
theorem m_L2 : Cond.laysStatic "java/lang/Throwable" "SUPPRESSED_SENTINEL" "Ljava/util/List;" ∈ lw_tbl := by decide +kernel
theorem m_L3 : Cond.initialized "java/lang/Throwable" ∈ lw_tbl := by decide +kernel
theorem arr_of {ty : FieldType} {args : Array Value} {s : State} (h : (Cond.arrayClass ty).before args s = true) (hty : ∀ C, ty ≠ .object C) : ∃ cA : ClassId, ArrOfT s cA ty ∧ va_RA s cA ty := by
  obtain ⟨cA, kA, comp, h1, h2, h3⟩ := Cond.arrayClass_spec h
  refine ⟨cA, fun n z => ⟨fun k h => (by cases h), kA, h2, comp, h3⟩, ?_⟩
  cases ty <;> first | exact h1 | exact absurd rfl (hty _)
set_option maxHeartbeats 4000000 in
set_option maxRecDepth 100000 in
theorem start_K {s : State} {b : Nat} (hts : ∀ w ∈ lw_tbl, w.before #[Value.ref b] s = true) (hgv : (Jvm.Cond.and given_1 narrow_1).before #[Value.ref b] s = true) : ∃ (D : va_G) (cI cJ : ClassId), KK D cI cJ s ∧ ZZ (fun q => s.heap.size ≤ q) s s.heap ∧ NC s := by
  have hB : ∀ w ∈ BIG, w.before #[Value.ref b] s = true := fun w hw => hts w (List.mem_filter.mp hw).1
  have hs := flat_of_before _ hgv
  obtain ⟨c0, i0, hK0⟩ := u_known (C := RX0) (T := TX0) (N := 2) (n := 2) hB kU_X0 (hB _ k_inX0)
  obtain ⟨c1, i1, hK1⟩ := u_known (C := RX1) (T := TX1) (N := 10) (n := 10) hB kU_X1 (hB _ k_inX1)
  obtain ⟨c2, i2, hK2⟩ := u_known (C := RX2) (T := TX2) (N := 6) (n := 6) hB kU_X2 (hB _ k_inX2)
  obtain ⟨c3, i3, hK3⟩ := u_known (C := RX3) (T := TX3) (N := 6) (n := 6) hB kU_X3 (hB _ k_inX3)
  obtain ⟨c4, i4, hK4⟩ := u_known (C := RX4) (T := TX4) (N := 5) (n := 5) hB kU_X4 (hB _ k_inX4)
  obtain ⟨c5, i5, hK5⟩ := u_known (C := RX5) (T := TX5) (N := 3) (n := 3) hB kU_X5 (hB _ k_inX5)
  obtain ⟨dC, dI, hKc⟩ : ∃ (dC : Nat → ClassId) (dI : Nat → Nat → Nat), ∀ (k : Nat) (q : vw_C), vwCl[k]? = some q → u_Kn s q.1 q.2.1 q.2.2 (dC k) (dI k) := by
    refine ⟨fun k => match k with | 0 => c0 | 1 => c1 | 2 => c2 | 3 => c3 | 4 => c4 | _ => c5, fun k => match k with | 0 => i0 | 1 => i1 | 2 => i2 | 3 => i3 | 4 => i4 | _ => i5, ?_⟩
    intro k q hq
    match k, hq with
    | 0, hq => cases hq; exact hK0
    | 1, hq => cases hq; exact hK1
    | 2, hq => cases hq; exact hK2
    | 3, hq => cases hq; exact hK3
    | 4, hq => cases hq; exact hK4
    | 5, hq => cases hq; exact hK5
    | k + 6, hq => simp [vwCl] at hq
  obtain ⟨cI, hI1, hI2⟩ := arr_of (hB _ k_arr) (fun C h => by cases h)
  obtain ⟨cJ, hJ1, hJ2⟩ := arr_of (hB _ k_arJ) (fun C h => by cases h)
  have hf5 : s.vm.findClass RX5 = some c5 := hK5.2.1
  refine ⟨(dC, dI), cI, cJ, ⟨⟨hKc, fun k q hq => ?_⟩, fun q hq => va_Nw.of rfl (hts _ (m_NWL q hq)), fun q hq => ?_, fun q hq => va_Nw.of rfl (hts _ (m_CAL q hq)), fun x hx => va_Nw.of rfl (hts _ (m_DCL x hx))⟩, ⟨?_, ?_⟩, ?_⟩
  · match k, hq with
    | 0, hq => cases hq; exact ⟨hI1, hI2⟩
    | 1, hq => cases hq; exact ⟨hJ1, hJ2⟩
    | k + 2, hq => simp at hq
  · obtain ⟨hm, hr⟩ := m_STL q hq
    have hw := hts _ hm
    obtain ⟨k, cf, i, a, -, -, -, -, -, hev⟩ := Cond.stringRef_spec (cur := c5) (by rw [hr]; exact hf5) hw
    exact ⟨a, vk_R.of hw hev⟩
  · exact vx_Zqof (hts _ m_L1) (hts _ m_L3) (hs _ (by decide +kernel)) (fun a ha q => absurd q (Nat.not_le.mpr ha))
  · exact vx_Zqof (hts _ m_L2) (hts _ m_L3) (hs _ (by decide +kernel)) (fun a ha q => absurd q (Nat.not_le.mpr ha))
  · exact ⟨va_Nc.of (hs _ (by decide +kernel)), va_Nc.of (hs _ (by decide +kernel))⟩
