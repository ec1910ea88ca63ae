/-! NUMBERS in one normal form: an Int32 that is a Nat below 2^31 is nI of it -/
theorem nt_lt {a b : Nat} (ha : a < 2 ^ 31) (hb : b < 2 ^ 31) : nI a < nI b ↔ a < b := by
  rw [fa_lt, nI_toInt ha, nI_toInt hb]; omega
theorem nt_le {a b : Nat} (ha : a < 2 ^ 31) (hb : b < 2 ^ 31) : nI a ≤ nI b ↔ a ≤ b := by
  rw [fa_le, nI_toInt ha, nI_toInt hb]; omega
theorem nt_eq {a b : Nat} (ha : a < 2 ^ 31) (hb : b < 2 ^ 31) : nI a = nI b ↔ a = b := by
  rw [fa_eq, nI_toInt ha, nI_toInt hb]; omega
theorem nt_0 {a : Nat} (ha : a < 2 ^ 31) : nI a = 0 ↔ a = 0 := by
  rw [← nI_0, nt_eq ha (by decide)]
theorem nt_1 {a : Nat} (ha : a < 2 ^ 31) : nI a = 1 ↔ a = 1 := nt_eq (b := 1) ha (by decide)
theorem nt_neg {a : Nat} (ha : a < 2 ^ 31) : ¬ nI a < 0 := nI_pos ha
theorem nt_add (a b : Nat) : nI a + nI b = nI (a + b) := (Int32.ofNat_add a b).symm
theorem nt_mul (a b : Nat) : nI a * nI b = nI (a * b) := (Int32.ofNat_mul a b).symm
theorem nt_sub {a b : Nat} (h : b ≤ a) (ha : a < 2 ^ 31) : nI a - nI b = nI (a - b) := by
  have e : nI a = nI (a - b) + nI b := by rw [nt_add, Nat.sub_add_cancel h]
  rw [e, Int32.add_sub_cancel]
theorem nt_in {a N : Nat} (ha : a < 2 ^ 31) : vp_in (nI a) N ↔ a < N := by
  unfold vp_in
  rw [nI_clamp ha]
  have := nI_pos ha
  constructor
  · intro h
    exact Nat.lt_of_not_le fun h2 => h (Or.inr h2)
  · rintro h (h2 | h2)
    · exact this h2
    · omega
theorem nt_xor (a b : Nat) : nI a ^^^ nI b = nI (a ^^^ b) := fb_xorI a b
theorem nt_and (a b : Nat) : nI a &&& nI b = nI (a &&& b) := fa_and a b
theorem nt_or (a b : Nat) : nI a ||| nI b = nI (a ||| b) := fa_or a b
theorem nt_of {x : Int32} (h : ¬ x < 0) : ∃ a : Nat, a < 2 ^ 31 ∧ x = nI a := by
  have h1 : 0 ≤ x.toInt := by
    have := fa_of_nlt h
    rw [fa_le] at this
    exact this
  have h2 := (fb_rng x).2
  refine ⟨x.toInt.toNat, by omega, ?_⟩
  rw [fa_eq, nI_toInt (by omega)]
  omega
theorem nt_sh5 {k : Nat} (hk : k < 32) : nI k &&& 31 = nI k := by
  rw [show (31 : Int32) = nI 31 from rfl, nt_and]
  congr 1
  have := Nat.and_two_pow_sub_one_eq_mod k 5
  simp only [show (2 : Nat) ^ 5 - 1 = 31 from rfl] at this
  rw [this]
  omega
theorem nt_shl {k : Nat} (a : Nat) (hk : k < 32) : nI a <<< nI k = nI (a * 2 ^ k) := by
  apply Int32.toBitVec_inj.1
  rw [Int32.toBitVec_shiftLeft]
  apply BitVec.eq_of_toNat_eq
  have e : ((nI k).toBitVec.smod 32).toNat = k := by
    have : ∀ j : Fin 32, ((nI j.val).toBitVec.smod 32).toNat = j.val := by decide +kernel
    exact this ⟨k, hk⟩
  show ((nI a).toBitVec <<< ((nI k).toBitVec.smod 32)).toNat = _
  rw [BitVec.shiftLeft_eq', BitVec.toNat_shiftLeft, e, Nat.shiftLeft_eq]
  show (BitVec.ofNat 32 a).toNat * 2 ^ k % 2 ^ 32 = (BitVec.ofNat 32 (a * 2 ^ k)).toNat
  rw [BitVec.toNat_ofNat, BitVec.toNat_ofNat, Nat.mod_mul_mod]
theorem nt_shr {a k : Nat} (ha : a < 2 ^ 31) (hk : k < 32) : nI a >>> nI k = nI (a / 2 ^ k) := by
  apply Int32.toBitVec_inj.1
  rw [Int32.toBitVec_shiftRight]
  apply BitVec.eq_of_toNat_eq
  have e : ((nI k).toBitVec.smod 32).toNat = k := by
    have : ∀ j : Fin 32, ((nI j.val).toBitVec.smod 32).toNat = j.val := by decide +kernel
    exact this ⟨k, hk⟩
  have hm : (nI a).toBitVec.msb = false := by
    rw [BitVec.msb_eq_false_iff_two_mul_lt]
    show 2 * (BitVec.ofNat 32 a).toNat < 2 ^ 32
    rw [BitVec.toNat_ofNat]
    omega
  rw [BitVec.sshiftRight_eq', e, BitVec.sshiftRight_eq_of_msb_false hm, BitVec.toNat_ushiftRight, Nat.shiftRight_eq_div_pow]
  show (BitVec.ofNat 32 a).toNat / 2 ^ k = (BitVec.ofNat 32 (a / 2 ^ k)).toNat
  rw [BitVec.toNat_ofNat, BitVec.toNat_ofNat, Nat.mod_eq_of_lt (by omega), Nat.mod_eq_of_lt]
  exact Nat.lt_of_le_of_lt (Nat.div_le_self _ _) (by omega)
theorem nt_bit {a k : Nat} (ha : a < 2 ^ 31) (hk : k < 31) : ((nI a >>> (nI k &&& 31)) &&& 1 = 1) ↔ a.testBit k = true := by
  rw [nt_sh5 (by omega), nt_shr ha (by omega), show (1 : Int32) = nI 1 from rfl, nt_and, Nat.and_one_is_mod, nt_eq (by omega) (by decide), Nat.testBit_eq_decide_div_mod_eq]
  simp
theorem nt_one {k : Nat} (hk : k < 31) : (1 : Int32) <<< (nI k &&& 31) = nI (2 ^ k) := by
  rw [nt_sh5 (by omega), show (1 : Int32) = nI 1 from rfl, nt_shl 1 (by omega), Nat.one_mul]
theorem nt_lit (n : Nat) : (no_index (OfNat.ofNat n) : Int32) = nI n := rfl
theorem nt_and0 {a b : Nat} (ha : a < 2 ^ 31) : nI a &&& nI b = 0 ↔ a &&& b = 0 := by
  rw [nt_and, nt_0 (Nat.lt_of_le_of_lt Nat.and_le_left ha)]
theorem nt_and0' {a b : Nat} (hb : b < 2 ^ 31) : nI a &&& nI b = 0 ↔ a &&& b = 0 := by
  rw [nt_and, nt_0 (Nat.lt_of_le_of_lt Nat.and_le_right hb)]
