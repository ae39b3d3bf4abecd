/-! ===== raising: the class by bits, the reference by the remainder ===== -/
def up (x a : Int) : Int := x + (-x) % a
theorem pw64_cases {a : Int} (h : pw64 a) : a = 1 ∨ a = 2 ∨ a = 4 ∨ a = 8 ∨ a = 16 ∨ a = 32 ∨ a = 64 := h
theorem up_b {x a : Int} (h : pw64 a) : x ≤ up x a ∧ up x a ≤ x + 63 := by
  unfold up
  rcases h with h | h | h | h | h | h | h <;> subst h <;> omega
theorem bv_low (x : BitVec 32) (k : Nat) (hk : k < 32) : (x &&& (BitVec.allOnes 32 <<< k)).toNat = x.toNat / 2 ^ k * 2 ^ k := by
  rw [← BitVec.shiftLeft_ushiftRight]
  rw [BitVec.toNat_shiftLeft, BitVec.toNat_ushiftRight, Nat.shiftRight_eq_div_pow, Nat.shiftLeft_eq]
  have h1 : x.toNat / 2 ^ k * 2 ^ k ≤ x.toNat := Nat.div_mul_le_self _ _
  have h2 := x.isLt
  exact Nat.mod_eq_of_lt (by omega)
theorem bv_fin (z : Int) (hz : -2147483648 ≤ z ∧ z ≤ 2147483647) (k : Nat) (hk : k < 7) (m : BitVec 32) (hm : m = BitVec.allOnes 32 <<< k) : (BitVec.ofInt 32 z &&& m).toInt = z - z % (2 ^ k : Nat) := by
  rw [BitVec.toInt_eq_toNat_bmod, hm, bv_low _ _ (by omega), BitVec.toNat_ofInt, Int.bmod]
  have h8 : k = 0 ∨ k = 1 ∨ k = 2 ∨ k = 3 ∨ k = 4 ∨ k = 5 ∨ k = 6 := by omega
  rcases h8 with h | h | h | h | h | h | h <;> subst h <;> simp only [Nat.reducePow] <;> omega
theorem q_and_low {z a : Int} (hz : -2147483648 ≤ z ∧ z ≤ 2147483647) (ha : pw64 a) : q_and z (-a) = z - z % a := by
  unfold q_and
  rw [← Int32.toInt_toBitVec, Int32.toBitVec_and, Int32.toBitVec_ofInt, Int32.toBitVec_ofInt]
  rcases ha with h | h | h | h | h | h | h <;> subst h
  · exact bv_fin z hz 0 (by omega) _ (by decide)
  · exact bv_fin z hz 1 (by omega) _ (by decide)
  · exact bv_fin z hz 2 (by omega) _ (by decide)
  · exact bv_fin z hz 3 (by omega) _ (by decide)
  · exact bv_fin z hz 4 (by omega) _ (by decide)
  · exact bv_fin z hz 5 (by omega) _ (by decide)
  · exact bv_fin z hz 6 (by omega) _ (by decide)
theorem c_raise {f g : q_F} {x a : Int} (hx : -2000000 ≤ x ∧ x ≤ 2000000) (ha : pw64 a) : p_Desk_raise x a f g = some (up x a, f, g) := by
  unfold p_Desk_raise
  have hb := ha
  rw [q_and_low (by rcases hb with h | h | h | h | h | h | h <;> omega) ha]
  congr 2
  unfold up
  rcases ha with h | h | h | h | h | h | h <;> subst h <;> omega
theorem td (x a : Int) : x.tdiv a = if 0 ≤ x then x / a else -((-x) / a) := by
  by_cases h : 0 ≤ x
  · rw [if_pos h, Int.tdiv_eq_ediv_of_nonneg h]
  · rw [if_neg h, ← Int.tdiv_eq_ediv_of_nonneg (by omega), Int.neg_tdiv, Int.neg_neg]
theorem tm (x a : Int) : x.tmod a = x - a * x.tdiv a := Int.tmod_def x a
theorem q_lrem_t {x a : Int} (hx : -2000000 ≤ x ∧ x ≤ 2000000) (ha : pw64 a) : q_lrem x a = x.tmod a := by
  unfold q_lrem
  have hA : 1 ≤ a ∧ a ≤ 64 := by rcases ha with h | h | h | h | h | h | h <;> omega
  have e1 : (Int64.ofInt x).toInt = x := Int64.toInt_ofInt_of_le (by omega) (by omega)
  have e2 : (Int64.ofInt a).toInt = a := Int64.toInt_ofInt_of_le (by omega) (by omega)
  have q1 : -2000000 ≤ x.tdiv a ∧ x.tdiv a ≤ 2000000 := by
    rw [td]
    rcases ha with h | h | h | h | h | h | h <;> subst h <;> split <;> omega
  have hb : ∀ y : Int, -1000000000000 ≤ y ∧ y ≤ 1000000000000 → y.bmod (2 ^ 64) = y := fun y hy => Int.bmod_eq_of_le (by omega) (by omega)
  have q2 : -200000000 ≤ x.tdiv a * a ∧ x.tdiv a * a ≤ 200000000 := by
    rcases ha with h | h | h | h | h | h | h <;> subst h <;> omega
  rw [Int64.toInt_sub, Int64.toInt_mul, Int64.toInt_div, e1, e2, hb (x.tdiv a) (by omega), hb (x.tdiv a * a) (by omega), hb _ (by omega), tm, Int.mul_comm]
theorem q_lcmp0 {z : Int} (hz : -2000000 ≤ z ∧ z ≤ 2000000) : q_lcmp z 0 = if 0 < z then 1 else if z = 0 then 0 else -1 := by
  unfold q_lcmp lg_cmp
  have e1 : (Int64.ofInt z).toInt = z := Int64.toInt_ofInt_of_le (by omega) (by omega)
  have e2 : (Int64.ofInt 0).toInt = 0 := by decide
  by_cases h1 : 0 < z
  · rw [if_pos h1, if_pos (show Int64.ofInt z > Int64.ofInt 0 from Int64.lt_iff_toInt_lt.mpr (by rw [e1, e2]; exact h1))]
    decide
  · rw [if_neg h1, if_neg (fun q => h1 (by have := Int64.lt_iff_toInt_lt.mp q; rw [e1, e2] at this; exact this))]
    by_cases h2 : z = 0
    · rw [if_pos h2, if_pos (by rw [h2])]
      decide
    · rw [if_neg h2, if_neg (fun q => h2 (by have := congrArg Int64.toInt q; rw [e1, e2] at this; exact this))]
      decide
theorem q_lcmpc {z c : Int} (hz : -4000000 ≤ z ∧ z ≤ 4000000) (hc : -4000000 ≤ c ∧ c ≤ 4000000) : q_lcmp z c = if c < z then 1 else if z = c then 0 else -1 := by
  unfold q_lcmp lg_cmp
  have e1 : (Int64.ofInt z).toInt = z := Int64.toInt_ofInt_of_le (by omega) (by omega)
  have e2 : (Int64.ofInt c).toInt = c := Int64.toInt_ofInt_of_le (by omega) (by omega)
  by_cases h1 : c < z
  · rw [if_pos h1, if_pos (show Int64.ofInt z > Int64.ofInt c from Int64.lt_iff_toInt_lt.mpr (by rw [e1, e2]; exact h1))]
    decide
  · rw [if_neg h1, if_neg (fun q => h1 (by have := Int64.lt_iff_toInt_lt.mp q; rw [e1, e2] at this; exact this))]
    by_cases h2 : z = c
    · rw [if_pos h2, if_pos (by rw [h2])]
      decide
    · rw [if_neg h2, if_neg (fun q => h2 (by have := congrArg Int64.toInt q; rw [e1, e2] at this; exact this))]
      decide
/-- the reference's raise is total -/
theorem m_raiseT {f g : q_F} {x a : Int} (ha : pw64 a) : ∃ y, p_Mod_raised x a f g = some (y, f, g) := by
  unfold p_Mod_raised p_Mod_raised_33
  rw [if_pos (by rcases ha with h | h | h | h | h | h | h <;> subst h <;> decide)]
  simp only [q_let]
  split
  · exact ⟨_, rfl⟩
  · split
    · exact ⟨_, rfl⟩
    · exact ⟨_, rfl⟩
theorem m_raise {f g : q_F} {x a : Int} (hx : -2000000 ≤ x ∧ x ≤ 2000000) (ha : pw64 a) : p_Mod_raised x a f g = some (up x a, f, g) := by
  unfold p_Mod_raised p_Mod_raised_33
  have hA : 1 ≤ a ∧ a ≤ 64 := by rcases ha with h | h | h | h | h | h | h <;> omega
  have t0 : x.tmod a = x - a * (if 0 ≤ x then x / a else -((-x) / a)) := by rw [tm, td]
  have t1 : -64 ≤ x.tmod a ∧ x.tmod a ≤ 64 := by rw [t0]; rcases ha with h | h | h | h | h | h | h <;> subst h <;> split <;> omega
  rw [if_pos (by rcases ha with h | h | h | h | h | h | h <;> subst h <;> decide), q_swn (show -2147483648 ≤ a ∧ a ≤ 2147483647 by omega), q_lrem_t hx ha]
  simp only [q_let]
  have e : q_lcmp (x.tmod a) 0 = if 0 < x.tmod a then 1 else if x.tmod a = 0 then 0 else -1 := q_lcmp0 (by omega)
  unfold up
  by_cases h1 : 0 < x.tmod a
  · rw [e, if_pos h1, if_neg (by decide), if_pos (by decide)]
    congr 2
    rcases ha with h | h | h | h | h | h | h <;> subst h <;> split at t0 <;> omega
  · by_cases h2 : x.tmod a = 0
    · rw [e, if_neg h1, if_pos h2, if_pos (by decide)]
      congr 2
      rcases ha with h | h | h | h | h | h | h <;> subst h <;> split at t0 <;> omega
    · rw [e, if_neg h1, if_neg h2, if_neg (by decide), if_neg (by decide)]
      congr 2
      rcases ha with h | h | h | h | h | h | h <;> subst h <;> split at t0 <;> omega
