/-! ===== bytes of a long ===== -/
theorem and255 (z : Int) : q_and z 255 = z % 256 := by
  unfold q_and
  rw [← Int32.toInt_toBitVec, Int32.toBitVec_and, Int32.toBitVec_ofInt, Int32.toBitVec_ofInt, BitVec.toInt_eq_toNat_bmod, BitVec.toNat_and, BitVec.toNat_ofInt, BitVec.toNat_ofInt]
  rw [show ((255 : Int) % (2 ^ 32 : Nat)).toNat = 2 ^ 8 - 1 by decide, Nat.and_two_pow_sub_one_eq_mod, Int.bmod]
  simp only [Nat.reducePow]
  omega
theorem land255 (z : Int) : q_land z 255 = z % 256 := by
  unfold q_land
  rw [← Int64.toInt_toBitVec, Int64.toBitVec_and, Int64.toBitVec_ofInt, Int64.toBitVec_ofInt, BitVec.toInt_eq_toNat_bmod, BitVec.toNat_and, BitVec.toNat_ofInt, BitVec.toNat_ofInt]
  rw [show ((255 : Int) % (2 ^ 64 : Nat)).toNat = 2 ^ 8 - 1 by decide, Nat.and_two_pow_sub_one_eq_mod, Int.bmod]
  simp only [Nat.reducePow]
  omega
theorem lshr_t {x : Int} {s : Nat} (y : Int) (hs : s < 64) (he : ((Int32.ofInt y).toInt64 &&& 63).toBitVec.smod 64 = BitVec.ofNat 64 s) : q_lshr x y = (Int64.ofInt x).toInt / (2 ^ s : Nat) := by
  unfold q_lshr
  rw [← Int64.toInt_toBitVec, Int64.toBitVec_shiftRight, he]
  show ((Int64.ofInt x).toBitVec.sshiftRight (BitVec.ofNat 64 s).toNat).toInt = _
  rw [BitVec.toInt_sshiftRight, BitVec.toNat_ofNat, Nat.mod_eq_of_lt (by omega), Int64.toInt_toBitVec, Int.shiftRight_eq_div_pow]
theorem lushr_t {x : Int} {s : Nat} (y : Int) (hs : s < 64) (he : ((Int32.ofInt y).toInt64.toUInt64 &&& Int64.toUInt64 63).toNat % 64 = s) : q_lushr x y = ((((Int64.ofInt x).toBitVec.toNat / 2 ^ s : Nat)) : Int).bmod (2 ^ 64) := by
  unfold q_lushr
  rw [← Int64.toInt_toBitVec, BitVec.toInt_eq_toNat_bmod]
  congr 2
  show ((Int64.ofInt x).toUInt64 >>> ((Int32.ofInt y).toInt64.toUInt64 &&& Int64.toUInt64 63)).toNat = _
  rw [UInt64.toNat_shiftRight, he, Nat.shiftRight_eq_div_pow]
  rfl
theorem by_core (x : Int) (s : Nat) (hs : s = 0 ∨ s = 8 ∨ s = 16 ∨ s = 24 ∨ s = 32 ∨ s = 40 ∨ s = 48 ∨ s = 56) : ((((Int64.ofInt x).toBitVec.toNat / 2 ^ s : Nat)) : Int).bmod (2 ^ 64) % 256 = ((Int64.ofInt x).toInt / (2 ^ s : Nat)) % 256 := by
  have e1 : (Int64.ofInt x).toInt = (((Int64.ofInt x).toBitVec.toNat : Nat) : Int).bmod (2 ^ 64) := by
    rw [← Int64.toInt_toBitVec, BitVec.toInt_eq_toNat_bmod]
  have hl := (Int64.ofInt x).toBitVec.isLt
  rw [e1]
  generalize (Int64.ofInt x).toBitVec.toNat = a at *
  unfold Int.bmod
  rcases hs with h | h | h | h | h | h | h | h <;> subst h <;> simp only [Nat.reducePow] at * <;> omega
theorem byte_eq (x : Int) (j : Nat) (hj : j < 8) : q_land (q_lshr x (8 * (j : Int))) 255 = q_and (q_lushr x (8 * (j : Int))) 255 := by
  rw [and255, land255]
  have h8 : j = 0 ∨ j = 1 ∨ j = 2 ∨ j = 3 ∨ j = 4 ∨ j = 5 ∨ j = 6 ∨ j = 7 := by omega
  rcases h8 with h | h | h | h | h | h | h | h <;> subst h
  · rw [lshr_t (s := 0) _ (by omega) (by decide), lushr_t (s := 0) _ (by omega) (by decide)]
    exact (by_core x 0 (by omega)).symm
  · rw [lshr_t (s := 8) _ (by omega) (by decide), lushr_t (s := 8) _ (by omega) (by decide)]
    exact (by_core x 8 (by omega)).symm
  · rw [lshr_t (s := 16) _ (by omega) (by decide), lushr_t (s := 16) _ (by omega) (by decide)]
    exact (by_core x 16 (by omega)).symm
  · rw [lshr_t (s := 24) _ (by omega) (by decide), lushr_t (s := 24) _ (by omega) (by decide)]
    exact (by_core x 24 (by omega)).symm
  · rw [lshr_t (s := 32) _ (by omega) (by decide), lushr_t (s := 32) _ (by omega) (by decide)]
    exact (by_core x 32 (by omega)).symm
  · rw [lshr_t (s := 40) _ (by omega) (by decide), lushr_t (s := 40) _ (by omega) (by decide)]
    exact (by_core x 40 (by omega)).symm
  · rw [lshr_t (s := 48) _ (by omega) (by decide), lushr_t (s := 48) _ (by omega) (by decide)]
    exact (by_core x 48 (by omega)).symm
  · rw [lshr_t (s := 56) _ (by omega) (by decide), lushr_t (s := 56) _ (by omega) (by decide)]
    exact (by_core x 56 (by omega)).symm
def byt (x : Int) (j : Nat) : Int := q_and (q_lushr x (8 * (j : Int))) 255
theorem byt_b (x : Int) (j : Nat) : 0 ≤ byt x j ∧ byt x j ≤ 255 := by
  unfold byt
  rw [and255]
  omega
