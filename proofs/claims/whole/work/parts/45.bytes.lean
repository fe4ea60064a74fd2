/-! ===== lN n to 2^64: shifts, and, or, masks, one bit ===== -/
theorem wb_tb (n : Nat) : (lN n).toBitVec = BitVec.ofNat 64 n := rfl
theorem wb_inj {a b : Int64} (h : a.toBitVec = b.toBitVec) : a = b := Int64.toBitVec_inj.mp h
theorem wb_tn {n : Nat} (h : n < 2 ^ 64) : (lN n).toBitVec.toNat = n := by rw [wb_tb, BitVec.toNat_ofNat, Nat.mod_eq_of_lt h]
theorem wb_of (x : Int64) : ∃ n, n < 2 ^ 64 ∧ x = lN n := ⟨x.toBitVec.toNat, x.toBitVec.isLt, wb_inj (by rw [wb_tb]; simp)⟩
theorem wb_of32 (x : Int32) : ∃ n, n < 2 ^ 32 ∧ x = nI n := ⟨x.toBitVec.toNat, x.toBitVec.isLt, Int32.toBitVec_inj.mp (by show _ = BitVec.ofNat 32 _; simp)⟩
theorem wb_c : ∀ k, k < 64 → ((nI k).toInt64 &&& 63) = lN k := by decide +kernel
theorem wb_cu : ∀ k, k < 64 → ((nI k).toInt64.toUInt64 &&& Int64.toUInt64 63) = UInt64.ofNat k := by decide +kernel
theorem wb_sm : ∀ k, k < 64 → (BitVec.ofNat 64 k).smod 64 = BitVec.ofNat 64 k := by decide +kernel
theorem wb_pw {a b : Nat} (h : a ≤ b) : 2 ^ b = 2 ^ a * 2 ^ (b - a) := by rw [← Nat.pow_add]; congr 1; omega
theorem wb_lt2 {a b : Nat} (h : a < b) : 2 ^ a < 2 ^ b := Nat.pow_lt_pow_right (by decide) h
theorem wb_mod (n : Nat) : lN n = lN (n % 2 ^ 64) := wb_inj (by rw [wb_tb, wb_tb]; apply BitVec.eq_of_toNat_eq; rw [BitVec.toNat_ofNat, BitVec.toNat_ofNat, Nat.mod_mod])
theorem wb_shr {n k : Nat} (hn : n < 2 ^ 64) (hk : k < 64) : ((lN n).toUInt64 >>> ((nI k).toInt64.toUInt64 &&& Int64.toUInt64 63)).toInt64 = lN (n / 2 ^ k) := by
  rw [wb_cu k hk]
  apply wb_inj
  apply BitVec.eq_of_toNat_eq
  show ((lN n).toUInt64 >>> UInt64.ofNat k).toNat = (BitVec.ofNat 64 _).toNat
  have h1 : (UInt64.ofNat k).toNat = k := by
    show (BitVec.ofNat 64 k).toNat = k
    rw [BitVec.toNat_ofNat, Nat.mod_eq_of_lt (by omega)]
  have h2 : (lN n).toUInt64.toNat = n := wb_tn hn
  rw [UInt64.toNat_shiftRight, h1, h2, Nat.mod_eq_of_lt hk, Nat.shiftRight_eq_div_pow, BitVec.toNat_ofNat, Nat.mod_eq_of_lt (Nat.lt_of_le_of_lt (Nat.div_le_self _ _) hn)]
theorem wb_shl (n : Nat) {k : Nat} (hk : k < 64) : lN n <<< ((nI k).toInt64 &&& 63) = lN (n * 2 ^ k) := by
  rw [wb_c k hk]
  apply wb_inj
  rw [Int64.toBitVec_shiftLeft, wb_tb, wb_tb, wb_tb, wb_sm k hk]
  apply BitVec.eq_of_toNat_eq
  rw [BitVec.shiftLeft_eq', BitVec.toNat_shiftLeft, BitVec.toNat_ofNat, BitVec.toNat_ofNat, BitVec.toNat_ofNat, Nat.mod_eq_of_lt (show k < 2 ^ 64 by omega), Nat.shiftLeft_eq, Nat.mul_mod, Nat.mod_mod, ← Nat.mul_mod]
theorem wb_and {a b : Nat} (ha : a < 2 ^ 64) (hb : b < 2 ^ 64) : lN a &&& lN b = lN (a &&& b) := by
  apply wb_inj
  rw [Int64.toBitVec_and, wb_tb, wb_tb, wb_tb]
  apply BitVec.eq_of_toNat_eq
  rw [BitVec.toNat_and, BitVec.toNat_ofNat, BitVec.toNat_ofNat, BitVec.toNat_ofNat, Nat.mod_eq_of_lt ha, Nat.mod_eq_of_lt hb, Nat.mod_eq_of_lt (Nat.and_lt_two_pow _ hb)]
theorem wb_or {a b : Nat} (ha : a < 2 ^ 64) (hb : b < 2 ^ 64) : lN a ||| lN b = lN (a ||| b) := by
  apply wb_inj
  rw [Int64.toBitVec_or, wb_tb, wb_tb, wb_tb]
  apply BitVec.eq_of_toNat_eq
  rw [BitVec.toNat_or, BitVec.toNat_ofNat, BitVec.toNat_ofNat, BitVec.toNat_ofNat, Nat.mod_eq_of_lt ha, Nat.mod_eq_of_lt hb, Nat.mod_eq_of_lt (Nat.or_lt_two_pow ha hb)]
theorem wb_mask {n k : Nat} (hn : n < 2 ^ 64) (hk : k < 64) : lN n &&& lN (2 ^ k - 1) = lN (n % 2 ^ k) := by
  rw [wb_and hn (by have := wb_lt2 hk; omega), Nat.and_two_pow_sub_one_eq_mod]
/-! the bytes of a long, as both sides tell them -/
def cb (n k : Nat) : Nat := n / 2 ^ (8 * k) % 256
theorem cb_lt (n k : Nat) : cb n k < 256 := Nat.mod_lt _ (by decide)
theorem m8 (k : Nat) : (8 : Int32) * nI k = nI (8 * k) := pk_mul 8 k
theorem byteC {n k : Nat} (hn : n < 2 ^ 64) (hk : k < 8) : ((((lN n).toUInt64 >>> (((8 : Int32) * nI k).toInt64.toUInt64 &&& Int64.toUInt64 63)).toInt64) &&& (255 : Int64)).toInt32 = nI (cb n k) := by
  rw [m8, wb_shr hn (by omega), show (255 : Int64) = lN (2 ^ 8 - 1) from by decide, wb_mask (Nat.lt_of_le_of_lt (Nat.div_le_self _ _) hn) (by decide), lN_i]
  rfl
theorem sshr_bits (n m : Nat) (hm : m ≤ 56) : ((BitVec.ofNat 64 n).sshiftRight m) &&& (255#64) = BitVec.ofNat 64 (n / 2 ^ m % 256) := by
  apply BitVec.eq_of_getLsbD_eq
  intro i hi
  have h255 : (255#64).getLsbD i = decide (i < 8) := by
    have : ∀ i, i < 64 → (255#64).getLsbD i = decide (i < 8) := by decide +kernel
    exact this i hi
  rw [BitVec.getLsbD_and, h255, BitVec.getLsbD_sshiftRight]
  simp only [BitVec.getLsbD_ofNat]
  rw [show (256 : Nat) = 2 ^ 8 from rfl, Nat.testBit_mod_two_pow, Nat.testBit_div_two_pow]
  by_cases h8 : i < 8
  · have h1 : m + i < 64 := by omega
    simp [h8, hi, h1, BitVec.getLsbD_ofNat, Nat.not_le.mpr hi, Nat.add_comm]
  · simp [h8]
theorem sshr_lN {n m : Nat} (hm : m ≤ 56) : (lN n >>> ((nI m).toInt64 &&& 63)) &&& (255 : Int64) = lN (n / 2 ^ m % 256) := by
  rw [wb_c m (by omega)]
  apply wb_inj
  rw [Int64.toBitVec_and, Int64.toBitVec_shiftRight, wb_tb, wb_tb, wb_tb, wb_sm m (by omega)]
  have e : (BitVec.ofNat 64 m).toNat = m := by rw [BitVec.toNat_ofNat, Nat.mod_eq_of_lt (by omega)]
  show (BitVec.sshiftRight (BitVec.ofNat 64 n) (BitVec.ofNat 64 m).toNat) &&& _ = _
  rw [e]
  exact sshr_bits n m hm
theorem byteM {n k : Nat} (hk : k < 8) : ((lN n >>> (((8 : Int32) * nI k).toInt64 &&& 63)) &&& (255 : Int64)).toInt32 = nI (cb n k) := by
  rw [m8, sshr_lN (by omega), lN_i]
  rfl
theorem b8 : ∀ c, c < 128 → (Int8.ofNat c).toInt32 = nI c := by decide +kernel
theorem byteM2 {n k : Nat} (hk : k < 8) (hc : cb n k < 128) : vp_nar .byte (((lN n >>> (((8 : Int32) * nI k).toInt64 &&& 63)).toInt32).toInt8.toInt32) = nI (cb n k) := by
  rw [pk_vb]
  have h := byteM (n := n) hk
  generalize (lN n >>> (((8 : Int32) * nI k).toInt64 &&& 63)) = y at h ⊢
  have h2 : y.toInt32.toInt8 = Int8.ofNat (cb n k) := by
    have h3 : (y &&& (255 : Int64)).toInt32.toInt8 = (nI (cb n k)).toInt8 := by rw [h]
    have h4 : ∀ c, c < 256 → (nI c).toInt8 = Int8.ofNat c := by decide +kernel
    rw [h4 _ (cb_lt n k)] at h3
    rw [← h3]
    apply Int8.toBitVec_inj.mp
    show BitVec.signExtend 8 (BitVec.signExtend 32 y.toBitVec) = BitVec.signExtend 8 (BitVec.signExtend 32 (y.toBitVec &&& 255#64))
    apply BitVec.eq_of_getLsbD_eq
    intro i hi
    have h255 : (255#64).getLsbD i = true := by
      have : ∀ i, i < 8 → (255#64).getLsbD i = true := by decide +kernel
      exact this i hi
    simp [BitVec.getLsbD_signExtend, hi, h255, show i < 32 by omega, show i < 64 by omega]
    intro _
    have h9 : ∀ i, (h : i < 8) → (255#8)[i] = true := by decide +kernel
    exact h9 i hi
  rw [h2]
  exact b8 _ hc
