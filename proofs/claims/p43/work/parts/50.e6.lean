/-! THE BEGINNING -/
theorem pc_zM : pcN zM = 0 := rfl
theorem qc_zM : qcN zM = 0 := rfl
theorem IW_zM : IW 0 0 zM := by
  refine ⟨⟨0, by omega, rfl, fun i hi => by omega, fun i _ _ => rfl⟩, ⟨0, by omega, rfl, fun i _ _ => rfl⟩, fun i hi => ⟨0, by omega, rfl, fun t ht => by omega⟩, ⟨1, by omega, rfl⟩, fun i hi => Or.inl (if_pos hi), fun i _ => ⟨0, by omega, rfl⟩, fun i _ => ⟨0, by omega, rfl⟩, fun i _ => ⟨0, by omega, rfl⟩, fun i _ => ⟨0, by omega, rfl⟩, fun i _ => ⟨0, by omega, rfl⟩, fun i _ => ⟨0, by omega, rfl⟩⟩
theorem RW_zX : RW zX zM := by
  unfold RW
  rw [pc_zM, qc_zM]
  refine ⟨⟨fun i _ => rfl, fun i _ => rfl, fun i hi => ?_, fun i hi => ?_, fun i hi => ?_⟩, ⟨rfl, fun i hi => by omega⟩, ⟨fun i _ => rfl, fun i _ => rfl, fun i _ => rfl, fun i a _ ha => absurd ha (Nat.not_lt_zero a)⟩, ⟨rfl, rfl⟩, ⟨rfl, fun i hi => by omega⟩⟩
  · show (if i < 40 then (0 : Int32) else 0) = 0; split <;> rfl
  · show (if i < 40 then (0 : Int32) else 0) = 0; split <;> rfl
  · show (if i < 40 then (0 : Int32) else 0) = 0; split <;> rfl
theorem clear_zM (σ : Mem) : ∃ σ', f_X4_clear σ = some σ' ∧ RW σ' zM := by
  refine ⟨_, rfl, ?_⟩
  unfold RW
  rw [pc_zM, qc_zM]
  refine ⟨⟨fun i hi => ?_, fun i hi => ?_, fun i hi => ?_, fun i hi => ?_, fun i hi => ?_⟩, ⟨rfl, fun i hi => by omega⟩, ⟨fun i hi => ?_, fun i hi => ?_, fun i hi => ?_, fun i a _ ha => absurd ha (Nat.not_lt_zero a)⟩, ⟨rfl, rfl⟩, ⟨rfl, fun i hi => by omega⟩⟩
  · exact (if_pos hi).trans (if_pos hi).symm
  · exact (if_pos hi).trans (if_pos hi).symm
  · exact if_pos hi
  · exact if_pos hi
  · exact if_pos hi
  · exact if_pos hi
  · exact if_pos hi
  · exact if_pos hi
theorem SX_zX : SX 0 zX zM (fun _ => zM) := by
  refine ⟨IW_zM, rfl, RW_zX, rfl, WSm.rf, fun i hi => ?_, fun i hi => by omega, clear_zM⟩
  have : i = 0 := by omega
  subst this
  exact ⟨⟨rfl, Or.inl ⟨rfl, rfl⟩, fun p hp => absurd hp (Nat.not_lt_zero p)⟩, 0, by omega, rfl⟩
