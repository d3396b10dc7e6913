/-! WHAT WAS: numbers packed in bits -/
theorem lg_tI32 {a : Nat} (h : a < 2 ^ 31) : (lN a).toInt32 = nI a := by
  apply Int32.toBitVec_inj.mp
  show (BitVec.ofNat 64 a).signExtend 32 = BitVec.ofNat 32 a
  apply BitVec.eq_of_toNat_eq
  rw [BitVec.signExtend_eq_setWidth_of_le _ (by decide), BitVec.toNat_setWidth, BitVec.toNat_ofNat, BitVec.toNat_ofNat, Nat.mod_mod_of_dvd _ (by decide)]
theorem lg_tI64 {a : Nat} (h : a < 2 ^ 31) : (nI a).toInt64 = lN a := by
  apply Int64.toInt_inj.mp
  rw [Int32.toInt_toInt64, nI_toInt h, pk_lT (by omega)]
theorem or32 {a b p k : Nat} (hp : 2 ^ k = p) (ha : a < p) (h : b * p + a < 2 ^ 32) : nI (b * p) ||| nI a = nI (b * p + a) := by
  subst hp
  have h1 : b * 2 ^ k ||| a = b * 2 ^ k + a := by rw [← Nat.shiftLeft_eq, Nat.shiftLeft_add_eq_or_of_lt ha]
  apply Int32.toBitVec_inj.mp
  apply BitVec.eq_of_toNat_eq
  rw [Int32.toBitVec_or, BitVec.toNat_or, pk_tn (by omega), pk_tn (by omega), pk_tn h, h1]
theorem or32m {a b c p q k w : Nat} (hp : 2 ^ k = p) (hq : 2 ^ w = q) (ha : a < p) (hc : c < q) (h : b * (p * q) + (c * p + a) < 2 ^ 32) : nI (b * (p * q) + a) ||| nI (c * p) = nI (b * (p * q) + (c * p + a)) := by
  subst hp; subst hq
  have h0 : c * 2 ^ k + a < 2 ^ k * 2 ^ w := by
    have : (c + 1) * 2 ^ k ≤ 2 ^ w * 2 ^ k := Nat.mul_le_mul_right _ hc
    rw [Nat.add_mul, Nat.mul_comm (2 ^ w)] at this
    omega
  have e1 : b * (2 ^ k * 2 ^ w) + a = b * (2 ^ k * 2 ^ w) ||| a := by
    rw [← Nat.pow_add, ← Nat.shiftLeft_eq, Nat.shiftLeft_add_eq_or_of_lt (by rw [Nat.pow_add]; omega)]
  have e2 : c * 2 ^ k + a = c * 2 ^ k ||| a := by rw [← Nat.shiftLeft_eq, Nat.shiftLeft_add_eq_or_of_lt ha]
  have e3 : b * (2 ^ k * 2 ^ w) + (c * 2 ^ k + a) = b * (2 ^ k * 2 ^ w) ||| (c * 2 ^ k + a) := by
    rw [← Nat.pow_add, ← Nat.shiftLeft_eq, Nat.shiftLeft_add_eq_or_of_lt (by rw [Nat.pow_add]; exact h0)]
  apply Int32.toBitVec_inj.mp
  apply BitVec.eq_of_toNat_eq
  rw [Int32.toBitVec_or, BitVec.toNat_or, pk_tn (by omega), pk_tn (by omega), pk_tn h, e1, e3, e2, Nat.or_assoc, Nat.or_comm a]
theorem l_tb (n : Nat) : (lN n).toBitVec = BitVec.ofNat 64 n := rfl
theorem l_c : ∀ k, k < 64 → ((nI k).toInt64 &&& 63) = lN k := by decide +kernel
theorem l_sm : ∀ k, k < 64 → (BitVec.ofNat 64 k).smod 64 = BitVec.ofNat 64 k := by decide +kernel
theorem l_shl (n : Nat) {k : Nat} (hk : k < 64) : lN n <<< ((nI k).toInt64 &&& 63) = lN (n * 2 ^ k) := by
  rw [l_c k hk]
  apply Int64.toBitVec_inj.mp
  rw [Int64.toBitVec_shiftLeft, l_tb, l_tb, l_tb, l_sm k hk]
  apply BitVec.eq_of_toNat_eq
  rw [BitVec.shiftLeft_eq', BitVec.toNat_shiftLeft, BitVec.toNat_ofNat, BitVec.toNat_ofNat, BitVec.toNat_ofNat, Nat.mod_eq_of_lt (show k < 2 ^ 64 by omega), Nat.shiftLeft_eq, Nat.mul_mod, Nat.mod_mod, ← Nat.mul_mod]
theorem l_tn {n : Nat} (h : n < 2 ^ 64) : (lN n).toBitVec.toNat = n := by rw [l_tb, BitVec.toNat_ofNat, Nat.mod_eq_of_lt h]
theorem l_or {k p a b : Nat} (hp : 2 ^ k = p) (ha : a < p) (h : a + b * p < 2 ^ 64) : lN a ||| lN (b * p) = lN (a + b * p) := by
  subst hp
  have h1 : b * 2 ^ k ||| a = b * 2 ^ k + a := by rw [← Nat.shiftLeft_eq, Nat.shiftLeft_add_eq_or_of_lt ha]
  apply Int64.toBitVec_inj.mp
  apply BitVec.eq_of_toNat_eq
  rw [Int64.toBitVec_or, BitVec.toNat_or, l_tn (by omega), l_tn (by omega), l_tn h, Nat.or_comm, h1, Nat.add_comm]
theorem l_shr {a k : Nat} (hk : k < 64) (h : a < 2 ^ 63) : lN a >>> ((nI k).toInt64 &&& 63) = lN (a / 2 ^ k) := by
  rw [l_c k hk]
  have hd : a / 2 ^ k ≤ a := Nat.div_le_self _ _
  apply Int64.toInt_inj.mp
  have e : (lN a >>> lN k).toInt = (lN a).toInt >>> k := by
    have hD : ((lN k).toBitVec.smod 64).toNat = k := by rw [l_tb, l_sm k hk, BitVec.toNat_ofNat, Nat.mod_eq_of_lt (by omega)]
    conv => rhs; rw [← hD]
    exact BitVec.toInt_sshiftRight ..
  rw [e, Int.shiftRight_eq_div_pow, pk_lT h, pk_lT (by omega)]
  rfl
theorem l_and {a : Nat} (h : a < 2 ^ 63) : lN a &&& 65535 = lN (a % 65536) := by
  apply Int64.toBitVec_inj.mp
  apply BitVec.eq_of_toNat_eq
  rw [Int64.toBitVec_and, BitVec.toNat_and, l_tn (by omega), l_tn (by omega)]
  exact Nat.and_two_pow_sub_one_eq_mod a 16
/-- rooms: three bits each below the twelfth; coins: sixteen each -/
theorem enc3 {H R rm k : Nat} (hk : k < 4) (hR : R < 2 ^ (3 * k)) (hrm : rm < 8) (hH : H < 64) : nI (H * 4096 + R) ||| (nI rm <<< ((3 * nI k) &&& 31)) = nI (H * 4096 + (R + rm * 2 ^ (3 * k))) := by
  rcases (show k = 0 ∨ k = 1 ∨ k = 2 ∨ k = 3 by omega) with rfl | rfl | rfl | rfl <;> simp only [Nat.reduceMul, Nat.reducePow] at hR ⊢
  · rw [pk_shlN _ 0 (by decide) (by omega), show H * 4096 = (H * 512) * (1 * 8) by omega, or32m (k := 0) (w := 3) rfl rfl hR hrm (by omega), Nat.add_comm R]
  · rw [pk_shlN _ 3 (by decide) (by omega), show H * 4096 = (H * 64) * (8 * 8) by omega, or32m (k := 3) (w := 3) rfl rfl hR hrm (by omega), Nat.add_comm R]
  · rw [pk_shlN _ 6 (by decide) (by omega), show H * 4096 = (H * 8) * (64 * 8) by omega, or32m (k := 6) (w := 3) rfl rfl hR hrm (by omega), Nat.add_comm R]
  · rw [pk_shlN _ 9 (by decide) (by omega), show H * 4096 = H * (512 * 8) by omega, or32m (k := 9) (w := 3) rfl rfl hR hrm (by omega), Nat.add_comm R]
theorem add3 {R rm k : Nat} (hk : k < 4) (hR : R < 2 ^ (3 * k)) (hrm : rm < 8) : R + rm * 2 ^ (3 * k) < 2 ^ (3 * (k + 1)) ∧ (R + rm * 2 ^ (3 * k)) / 2 ^ (3 * k) % 8 = rm ∧ ∀ p, p < k → (R + rm * 2 ^ (3 * k)) / 2 ^ (3 * p) % 8 = R / 2 ^ (3 * p) % 8 := by
  rcases (show k = 0 ∨ k = 1 ∨ k = 2 ∨ k = 3 by omega) with rfl | rfl | rfl | rfl <;> simp only [Nat.reduceMul, Nat.reducePow, Nat.reduceAdd] at hR ⊢
  · exact ⟨by omega, by omega, fun p hp => by omega⟩
  · refine ⟨by omega, by omega, fun p hp => ?_⟩
    rcases (show p = 0 by omega) with rfl
    simp only [Nat.reduceMul, Nat.reducePow]; omega
  · refine ⟨by omega, by omega, fun p hp => ?_⟩
    rcases (show p = 0 ∨ p = 1 by omega) with rfl | rfl <;> simp only [Nat.reduceMul, Nat.reducePow] <;> omega
  · refine ⟨by omega, by omega, fun p hp => ?_⟩
    rcases (show p = 0 ∨ p = 1 ∨ p = 2 by omega) with rfl | rfl | rfl <;> simp only [Nat.reduceMul, Nat.reducePow] <;> omega
theorem enc16 {f cn k : Nat} (hk : k < 4) (hf : f < 2 ^ (16 * k)) (hc : cn < 32768) : lN f ||| ((nI cn).toInt64 <<< ((16 * nI k).toInt64 &&& 63)) = lN (f + cn * 2 ^ (16 * k)) := by
  rw [show (16 : Int32) = nI 16 from rfl, pk_mul, lg_tI64 (by omega), l_shl _ (by omega)]
  rcases (show k = 0 ∨ k = 1 ∨ k = 2 ∨ k = 3 by omega) with rfl | rfl | rfl | rfl <;> simp only [Nat.reduceMul, Nat.reducePow] at hf ⊢
  · rw [l_or (k := 0) rfl hf (by omega)]
  · rw [l_or (k := 16) rfl hf (by omega)]
  · rw [l_or (k := 32) rfl hf (by omega)]
  · rw [l_or (k := 48) rfl hf (by omega)]
theorem add16 {f cn k : Nat} (hk : k < 4) (hf : f < 2 ^ (16 * k)) (hc : cn < 32768) : f + cn * 2 ^ (16 * k) < 2 ^ (16 * (k + 1)) ∧ f + cn * 2 ^ (16 * k) < 2 ^ 63 ∧ (f + cn * 2 ^ (16 * k)) / 2 ^ (16 * k) % 65536 = cn ∧ ∀ p, p < k → (f + cn * 2 ^ (16 * k)) / 2 ^ (16 * p) % 65536 = f / 2 ^ (16 * p) % 65536 := by
  rcases (show k = 0 ∨ k = 1 ∨ k = 2 ∨ k = 3 by omega) with rfl | rfl | rfl | rfl <;> simp only [Nat.reduceMul, Nat.reducePow, Nat.reduceAdd] at hf ⊢
  · exact ⟨by omega, by omega, by omega, fun p hp => by omega⟩
  · refine ⟨by omega, by omega, by omega, fun p hp => ?_⟩
    rcases (show p = 0 by omega) with rfl
    simp only [Nat.reduceMul, Nat.reducePow]; omega
  · refine ⟨by omega, by omega, by omega, fun p hp => ?_⟩
    rcases (show p = 0 ∨ p = 1 by omega) with rfl | rfl <;> simp only [Nat.reduceMul, Nat.reducePow] <;> omega
  · refine ⟨by omega, by omega, by omega, fun p hp => ?_⟩
    rcases (show p = 0 ∨ p = 1 ∨ p = 2 by omega) with rfl | rfl | rfl <;> simp only [Nat.reduceMul, Nat.reducePow] <;> omega
theorem dec3 {e k : Nat} (hk : k < 4) (he : e < 2 ^ 31) : (nI e >>> ((3 * nI k) &&& 31)) &&& 7 = nI (e / 2 ^ (3 * k) % 8) := by
  have hs : ∀ k, k < 4 → (((3 * nI k) &&& 31).toBitVec.smod 32).toNat = 3 * k := by decide
  rw [pk_shrN he _ (3 * k) (hs k hk), pk_andN (k := 3) (Nat.lt_of_le_of_lt (Nat.div_le_self e _) (by omega)) (by decide)]
theorem dec12 {e : Nat} (he : e < 2 ^ 31) : (nI e >>> (12 &&& 31)) &&& 7 = nI (e / 4096 % 8) := by
  rw [pk_shrN he _ 12 (by decide), pk_andN (k := 3) (Nat.lt_of_le_of_lt (Nat.div_le_self e _) (by omega)) (by decide)]
theorem dec15 {e : Nat} (he : e < 2 ^ 31) : nI e >>> (15 &&& 31) = nI (e / 32768) := pk_shrN he _ 15 (by decide)
theorem dec16 {f k : Nat} (hk : k < 4) (hf : f < 2 ^ 63) : ((lN f >>> ((16 * nI k).toInt64 &&& 63)) &&& 65535).toInt32 = nI (f / 2 ^ (16 * k) % 65536) := by
  rw [show (16 : Int32) = nI 16 from rfl, pk_mul, l_shr (by omega) hf, l_and (Nat.lt_of_le_of_lt (Nat.div_le_self f _) hf), lg_tI32 (by omega)]
