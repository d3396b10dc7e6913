/-! WHO HEARD -/
section HEAR
variable {c : Nat} {ρ μ : Mem} {M : Nat → Mem}
theorem h9 (hE : EI (μ 1)) {a rm w : Nat} (ha : a < pcN μ) (h6 : μ 6 a = nI rm) (rm1 : rm < 8) (h7 : ρ 51 7 = nI (pcN μ)) {hb : Nat → Nat} {lo : Int32} (hlo : lo = 0 ∨ lo = 1) (hh : ∀ j, j < pcN μ → Hd μ μ a rm lo (nI w) hb j) (k : Int32 → Int32 → Mem → Option (Int32 × Mem)) (x3 : Int32) : ∀ (m n i cnt : Nat) (σ : Mem), i + m = pcN μ → m + 1 ≤ n → SX c σ μ M → K51 ρ σ →
    ∃ σ', L_L_areHearers_9 n k (nI a) (nI w) x3 lo (nI cnt) 1 (nI i) σ = k (nI (cnt + sr hb i m)) 1 σ' ∧ SX c σ' μ M ∧ K51 ρ σ' := by
  intro m
  induction m with
  | zero =>
    intro n i cnt σ h1 h2 S hK
    obtain ⟨n, rfl⟩ : ∃ n', n = n' + 1 := ⟨n - 1, by omega⟩
    have hnp := S.iw.np.1
    exact ⟨σ, by rw [L_L_areHearers_9, gl7, tc7, hK 51 (by decide), h7, if_pos (nI_le (by omega) (by omega))]; rfl, S, hK⟩
  | succ m ih =>
    intro n i cnt σ h1 h2 S hK
    obtain ⟨n, rfl⟩ : ∃ n', n = n' + 1 := ⟨n - 1, by omega⟩
    have hnp := S.iw.np.1
    have hi : i < pcN μ := by omega
    obtain ⟨⟨ri, ri1, ri2⟩, -⟩ := S.iw.pl hi
    obtain ⟨v, τ', d1, d2, d3⟩ := q_dist S rm1 ri1
    obtain ⟨σ1, hσ1⟩ : ∃ σ1, σ1 = mgY τ' σ := ⟨_, rfl⟩
    rw [← hσ1] at d3
    have S1 : SX c σ1 μ M := d3.SX S
    have hK1 : K51 ρ σ1 := fun k hk => (d3 k (by omega)).trans (hK k hk)
    obtain ⟨σ', g1, g2, g3⟩ := ih n (i + 1) (cnt + hb i) σ1 (by omega) (by omega) S1 hK1
    refine ⟨σ', ?_, g2, g3⟩
    have hd0 : v = 0 ↔ ri = rm := by
      constructor
      · intro q; rw [q] at d2; exact D_zero ri1 d2
      · intro q; rw [q] at d2; exact D_self d2
    have hd1 := D_one rm1 ri1 hE d2
    have e6 : f_L_heard σ1 (nI i) 6 = some (-7, σ1) := by
      unfold f_L_heard
      rw [p_heard6 S1 hi, bt_e1, if_pos rfl]
    have hsr : cnt + hb i + sr hb (i + 1) m = cnt + sr hb i (m + 1) := by
      show _ = cnt + (hb i + sr hb (i + 1) m)
      omega
    rw [hsr] at g1
    rw [L_L_areHearers_9, gl7, tc7, hK 51 (by decide), h7, if_neg (nI_ge (by omega) (by omega))]
    rw [p_room S ha, bt_0, p_room S hi, bt_0, h6, ri2, d1, bt3_0, stp_s, ← hσ1]
    simp only [jn_s, if_neg e10]
    rcases hh i hi with ⟨z1, z2, z3, q, z4, z5, z6⟩ | ⟨z1, z2⟩
    · rw [z1] at g1
      have hia : ¬ nI i = nI a := fun q => z2.1 (nI_inj (by omega) (by omega) q)
      rw [if_neg hia]
      have hin : (if v = 0 then True else (if lo = 0 then False else if v = 1 then True else False)) := by
        by_cases q0 : v = 0
        · rw [if_pos q0]; trivial
        · rw [if_neg q0]
          rcases z2.2 with z | ⟨zl, j, j2, j3⟩
          · exact absurd (hd0.mpr (nI_inj (by omega) (by omega) (ri2.symm.trans z))) q0
          · rw [zl, if_neg (by decide), if_pos (hd1.mpr ⟨j, j2, by rw [j3, ri2]⟩)]; trivial
      have eh : f_L_heard σ1 (nI i) 0 = some (100 * nI a + nI w, σ1) := by
        unfold f_L_heard
        rw [p_heard0 S1 hi z4 z5 z6, bt_0, z3]
      simp only [eh, bd2_s, e6, if_true, nI_1]
      by_cases q0 : v = 0
      · rw [if_pos q0]; exact g1
      · rw [if_neg q0] at hin ⊢
        by_cases q1 : lo = 0
        · rw [if_pos q1] at hin; exact hin.elim
        · rw [if_neg q1] at hin ⊢
          by_cases q2 : v = 1
          · rw [if_pos q2]; exact g1
          · rw [if_neg q2] at hin; exact hin.elim
    · rw [z1, Nat.add_zero] at g1
      have sk : L_L_areHearers_9 n k (nI a) (nI w) x3 lo (nI cnt + 0) 1 (nI i + 1) σ1 = k (nI (cnt + sr hb i (m + 1))) 1 σ' := by rw [Int32.add_zero, nI_1]; exact g1
      simp only [if_true, e6, bd2_s]
      by_cases hia : nI i = nI a
      · rw [if_pos hia]; exact sk
      · rw [if_neg hia]
        have hia' : i ≠ a := fun z => hia (by rw [z])
        have q0 : ¬ v = 0 := fun q => z2 ⟨hia', Or.inl (by rw [ri2, hd0.mp q])⟩
        rw [if_neg q0]
        by_cases q1 : lo = 0
        · rw [if_pos q1]; exact sk
        · rw [if_neg q1]
          have q2 : ¬ v = 1 := fun q => by
            obtain ⟨r, r1, r2⟩ := hd1.mp q
            exact z2 ⟨hia', Or.inr ⟨hlo.resolve_left q1, r, r1, r2.trans ri2.symm⟩⟩
          rw [if_neg q2]; exact sk
theorem areHearers_ok (S : SX c ρ μ M) (hE : EI (μ 1)) {a rm w : Nat} (ha : a < pcN μ) (h6 : μ 6 a = nI rm) (rm1 : rm < 8) (h7 : ρ 51 7 = nI (pcN μ)) {hb : Nat → Nat} {lo : Int32} (hlo : lo = 0 ∨ lo = 1) (hh : ∀ j, j < pcN μ → Hd μ μ a rm lo (nI w) hb j) : ∃ ρ', f_L_areHearers ρ (nI a) (nI w) (nI (sr hb 0 (pcN μ))) lo = some (1, ρ') ∧ SX c ρ' μ M ∧ K51 ρ ρ' := by
  have hnp := S.iw.np.1
  obtain ⟨σ', g1, g2, g3⟩ := h9 (M := M) hE ha h6 rm1 h7 hlo hh (fun (x14 : Int32) (x15 : Int32) (σ16 : Mem) => if x15 = 0 then (some (0, σ16)) else (if x14 = nI (sr hb 0 (pcN μ)) then (some (1, σ16)) else (some (0, σ16)))) (nI (sr hb 0 (pcN μ))) (pcN μ) 5 0 0 ρ (by omega) (by omega) S K51.rf
  refine ⟨σ', ?_, g2, g3⟩
  unfold f_L_areHearers
  rw [show nI 0 = (0 : Int32) from rfl, if_neg e10, Nat.zero_add, if_pos rfl] at g1
  exact g1
end HEAR
