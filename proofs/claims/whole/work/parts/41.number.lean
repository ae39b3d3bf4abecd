/-! ===== numbers, alignments, rows ===== -/
def dgt (tx : Nat → Int) (n : Int) : Nat → Int → Int → Int × Int
  | 0, i, v => (v, i)
  | k + 1, i, v => if 48 ≤ chr tx n i ∧ chr tx n i ≤ 57 then dgt tx n k (i + 1) (v * 10 + chr tx n i - 48) else (v, i)
theorem dgt_r {tx : Nat → Int} {n : Int} (h : tOK tx n) : ∀ (k : Nat) (i v : Int), 0 ≤ i → i ≤ n → 0 ≤ v → i ≤ (dgt tx n k i v).2 ∧ (dgt tx n k i v).2 ≤ i + k ∧ (dgt tx n k i v).2 ≤ n ∧ 0 ≤ (dgt tx n k i v).1 ∧ (dgt tx n k i v).1 + 1 ≤ (v + 1) * 10 ^ k := by
  intro k
  induction k with
  | zero =>
    intro i v h1 h2 h3
    simp only [dgt]
    omega
  | succ k ih =>
    intro i v h1 h2 h3
    simp only [dgt]
    have hb := chr_b h h1
    by_cases hd : 48 ≤ chr tx n i ∧ chr tx n i ≤ 57
    · rw [if_pos hd]
      obtain ⟨q1, q2, q3, q4, q5⟩ := ih (i + 1) (v * 10 + chr tx n i - 48) (by omega) (by omega) (by omega)
      refine ⟨by omega, by omega, q3, q4, Int.le_trans q5 ?_⟩
      rw [Int.pow_succ, Int.mul_comm (10 ^ k) 10, ← Int.mul_assoc]
      exact Int.mul_le_mul_of_nonneg_right (by omega) (Int.pow_nonneg (by omega))
    · rw [if_neg hd]
      refine ⟨by omega, by omega, h2, h3, ?_⟩
      have h4 : (1 : Int) ≤ 10 ^ (k + 1) := Int.pow_pos (n := 10) (m := k + 1) (by omega)
      have h5 := Int.mul_le_mul_of_nonneg_left h4 (show (0 : Int) ≤ v + 1 by omega)
      omega
def cNum (f : q_F) (r : Int × Int) : q_F := ma_up (ma_up f 54 3 r.1) 54 2 r.2
theorem cNum_id (f : q_F) : cNum f (f 54 3, f 54 2) = f := by
  unfold cNum
  rw [ma_up_id (rfl : f 54 3 = f 54 3), ma_up_id (rfl : f 54 2 = f 54 2)]
theorem cNum_cNum (f : q_F) (r r2 : Int × Int) : cNum (cNum f r) r2 = cNum f r2 := by
  funext a k
  simp only [cNum, ma_up]
  by_cases h1 : a = 54
  · by_cases h2 : k = 2
    · simp [h1, h2]
    · by_cases h3 : k = 3 <;> simp [h1, h2, h3]
  · simp [h1]
theorem c_num7 {g : q_F} : ∀ (k : Nat) (f : q_F) (fuel : Nat) (v1 : Int), cOK f → k < fuel → v1 + k = 4 → 0 ≤ v1 → p_Reader_readNumber_7 fuel v1 f g = some (if 0 < v1 + ((dgt (f 2) (f 1 1) k (f 54 2) (f 54 3)).2 - f 54 2) then 1 else 0, cNum f (dgt (f 2) (f 1 1) k (f 54 2) (f 54 3)), g) := by
  intro k
  induction k with
  | zero =>
    intro f fuel v1 h hf hv h0
    obtain ⟨n, rfl⟩ : ∃ n, fuel = n + 1 := ⟨fuel - 1, by omega⟩
    rw [p_Reader_readNumber_7]
    unfold p_Reader_readNumber_65 p_Reader_readNumber_74
    rw [q_swn (by omega), q_swn (by omega), if_pos (by omega), if_neg (by omega), if_pos (by decide)]
    have e0 : dgt (f 2) (f 1 1) 0 (f 54 2) (f 54 3) = (f 54 3, f 54 2) := rfl
    rw [e0, cNum_id]
    dsimp only
    rw [if_pos (by omega)]
  | succ k ih =>
    intro f fuel v1 h hf hv h0
    obtain ⟨n, rfl⟩ : ∃ n, fuel = n + 1 := ⟨fuel - 1, by omega⟩
    have hb := cch_b h
    rw [p_Reader_readNumber_7]
    unfold p_Reader_readNumber_65 p_Reader_readNumber_74
    rw [q_swn (show -2147483648 ≤ (4 : Int) ∧ (4 : Int) ≤ 2147483647 by omega), q_swn (show -2147483648 ≤ v1 ∧ v1 ≤ 2147483647 by omega), if_neg (by omega)]
    simp only [c_here h, Option.bind_some]
    rw [q_swn (show -2147483648 ≤ cch f ∧ cch f ≤ 2147483647 by omega), q_swn (show -2147483648 ≤ (48 : Int) ∧ (48 : Int) ≤ 2147483647 by omega), q_swn (show -2147483648 ≤ (57 : Int) ∧ (57 : Int) ≤ 2147483647 by omega)]
    have e0 : dgt (f 2) (f 1 1) (k + 1) (f 54 2) (f 54 3) = if 48 ≤ cch f ∧ cch f ≤ 57 then dgt (f 2) (f 1 1) k (f 54 2 + 1) (f 54 3 * 10 + cch f - 48) else (f 54 3, f 54 2) := rfl
    by_cases h1 : cch f < 48
    · rw [if_pos h1, e0.trans (if_neg (show ¬ (48 ≤ cch f ∧ cch f ≤ 57) by omega)), cNum_id]
      dsimp only
      by_cases h2 : v1 ≤ 0
      · rw [if_pos h2, if_pos (by decide), if_neg (by omega)]
      · rw [if_neg h2, if_pos (by decide), if_pos (by omega)]
    · rw [if_neg h1]
      by_cases h2 : 57 < cch f
      · rw [if_pos h2, e0.trans (if_neg (show ¬ (48 ≤ cch f ∧ cch f ≤ 57) by omega)), cNum_id]
        dsimp only
        by_cases h3 : v1 ≤ 0
        · rw [if_pos h3, if_pos (by decide), if_neg (by omega)]
        · rw [if_neg h3, if_pos (by decide), if_pos (by omega)]
      · rw [if_neg h2, e0.trans (if_pos (show 48 ≤ cch f ∧ cch f ≤ 57 by omega))]
        simp only [q_let]
        have ef : ma_up (ma_up f 54 3 (f 54 3 * 10 + cch f - 48)) 54 2 (ma_up f 54 3 (f 54 3 * 10 + cch f - 48) 54 2 + 1) = cNum f (f 54 3 * 10 + cch f - 48, f 54 2 + 1) := by
          simp [cNum, ma_up]
        rw [ef]
        have hk : cOK (cNum f (f 54 3 * 10 + cch f - 48, f 54 2 + 1)) := by
          obtain ⟨h5, h6, h7⟩ := h
          refine ⟨h5, ?_, ?_⟩ <;> simp [cNum, ma_up] <;> omega
        rw [ih _ n (v1 + 1) hk (by omega) (by omega) (by omega), cNum_cNum]
        have e1 : cNum f (f 54 3 * 10 + cch f - 48, f 54 2 + 1) 54 2 = f 54 2 + 1 := by simp [cNum, ma_up]
        have e2 : cNum f (f 54 3 * 10 + cch f - 48, f 54 2 + 1) 54 3 = f 54 3 * 10 + cch f - 48 := by simp [cNum, ma_up]
        have e3 : cNum f (f 54 3 * 10 + cch f - 48, f 54 2 + 1) 2 = f 2 := by simp [cNum, ma_up_ne]
        have e4 : cNum f (f 54 3 * 10 + cch f - 48, f 54 2 + 1) 1 = f 1 := by simp [cNum, ma_up_ne]
        rw [e1, e2, e3, e4]
        have e5 : v1 + 1 + ((dgt (f 2) (f 1 1) k (f 54 2 + 1) (f 54 3 * 10 + cch f - 48)).2 - (f 54 2 + 1)) = v1 + ((dgt (f 2) (f 1 1) k (f 54 2 + 1) (f 54 3 * 10 + cch f - 48)).2 - f 54 2) := by omega
        rw [e5]
def cdg (f : q_F) : Int × Int := dgt (f 2) (f 1 1) 4 (f 54 2) 0
theorem cdg_r {f : q_F} (h : cOK f) : f 54 2 ≤ (cdg f).2 ∧ (cdg f).2 ≤ f 1 1 ∧ 0 ≤ (cdg f).1 ∧ (cdg f).1 ≤ 9999 := by
  obtain ⟨h1, h2, h3, h4, h5⟩ := dgt_r h.1 4 (f 54 2) 0 h.2.1 h.2.2 (by omega)
  unfold cdg
  omega
theorem c_num {f g : q_F} (h : cOK f) : p_Reader_readNumber f g = some (if f 54 2 < (cdg f).2 then 1 else 0, cNum f (cdg f), g) := by
  unfold p_Reader_readNumber
  simp only [q_let]
  have hk : cOK (ma_up f 54 3 0) := by
    obtain ⟨h5, h6, h7⟩ := h
    refine ⟨h5, ?_, ?_⟩ <;> simp [ma_up] <;> omega
  rw [c_num7 4 (ma_up f 54 3 0) 1000 0 hk (by omega) (by omega) (by omega)]
  have e1 : ma_up f 54 3 0 54 2 = f 54 2 := by simp [ma_up]
  have e2 : ma_up f 54 3 0 54 3 = 0 := by simp [ma_up]
  have e3 : ma_up f 54 3 0 2 = f 2 := ma_up_ne (by decide)
  have e4 : ma_up f 54 3 0 1 = f 1 := ma_up_ne (by decide)
  rw [e1, e2, e3, e4]
  have e5 : cNum (ma_up f 54 3 0) (dgt (f 2) (f 1 1) 4 (f 54 2) 0) = cNum f (cdg f) := by
    funext a k
    simp only [cNum, cdg, ma_up]
    by_cases h1 : a = 54
    · by_cases h2 : k = 2
      · simp [h1, h2]
      · by_cases h3 : k = 3 <;> simp [h1, h2, h3]
    · simp [h1]
  rw [e5]
  have e6 : (0 < (0 : Int) + ((dgt (f 2) (f 1 1) 4 (f 54 2) 0).2 - f 54 2)) ↔ f 54 2 < (cdg f).2 := by
    unfold cdg
    omega
  by_cases h7 : f 54 2 < (cdg f).2
  · rw [if_pos h7, if_pos (e6.mpr h7)]
  · rw [if_neg h7, if_neg (fun q => h7 (e6.mp q))]
/-! the reference's number -/
def mSet (f : q_F) (i : Int) : q_F := ma_up f 60 8 i
def mdg (f : q_F) : Int × Int := dgt (f 66) (f 60 6) 4 (f 60 8) 0
theorem mdg_r {f : q_F} (h : mOK f) : f 60 8 ≤ (mdg f).2 ∧ (mdg f).2 ≤ f 60 6 ∧ 0 ≤ (mdg f).1 ∧ (mdg f).1 ≤ 9999 := by
  obtain ⟨h1, h2, h3, h4, h5⟩ := dgt_r h.1 4 (f 60 8) 0 h.2.1 h.2.2 (by omega)
  unfold mdg
  omega
theorem mSet_id (f : q_F) : mSet f (f 60 8) = f := ma_up_id rfl
theorem mSet_mSet (f : q_F) (i j : Int) : mSet (mSet f i) j = mSet f j := by
  funext a k
  simp only [mSet, ma_up]
  by_cases h1 : a = 60
  · by_cases h2 : k = 8 <;> simp [h1, h2]
  · simp [h1]
theorem m_num4 {g : q_F} : ∀ (k : Nat) (f : q_F) (fuel : Nat) (v1 v2 : Int), mOK f → f 60 9 = 0 → k < fuel → v2 + k = 4 → 0 ≤ v2 → p_Mod_number_4 fuel v1 v2 f g = some ((dgt (f 66) (f 60 6) k (f 60 8) v1).1, if 0 < v2 + ((dgt (f 66) (f 60 6) k (f 60 8) v1).2 - f 60 8) then mSet f (dgt (f 66) (f 60 6) k (f 60 8) v1).2 else mWr (mSet f (dgt (f 66) (f 60 6) k (f 60 8) v1).2), g) := by
  intro k
  induction k with
  | zero =>
    intro f fuel v1 v2 h hw hf hv h0
    obtain ⟨n, rfl⟩ : ∃ n, fuel = n + 1 := ⟨fuel - 1, by omega⟩
    rw [p_Mod_number_4]
    unfold p_Mod_number_59 p_Mod_number_71 p_Mod_number_76
    have e0 : dgt (f 66) (f 60 6) 0 (f 60 8) v1 = (v1, f 60 8) := rfl
    rw [e0]
    dsimp only
    rw [hw, q_sw0, if_pos rfl, q_swn (by omega), q_swn (by omega), if_pos (by omega), if_pos rfl, if_neg (by omega), if_pos (by decide), if_pos (by omega), mSet_id]
    simp only [q_let]
    rw [ma_up_id hw]
  | succ k ih =>
    intro f fuel v1 v2 h hw hf hv h0
    obtain ⟨n, rfl⟩ : ∃ n, fuel = n + 1 := ⟨fuel - 1, by omega⟩
    have hb := mch_b h
    rw [p_Mod_number_4]
    unfold p_Mod_number_59 p_Mod_number_71 p_Mod_number_76
    rw [q_swn (show -2147483648 ≤ (4 : Int) ∧ (4 : Int) ≤ 2147483647 by omega), q_swn (show -2147483648 ≤ v2 ∧ v2 ≤ 2147483647 by omega), hw, q_sw0, if_pos rfl, if_neg (show ¬ (4 : Int) ≤ v2 by omega), m_see h, Option.bind_some]
    dsimp only
    rw [m_within (by omega) (by omega) (by omega), Option.bind_some]
    dsimp only
    rw [m_see h, Option.bind_some]
    dsimp only
    have e0 : dgt (f 66) (f 60 6) (k + 1) (f 60 8) v1 = if 48 ≤ mch f ∧ mch f ≤ 57 then dgt (f 66) (f 60 6) k (f 60 8 + 1) (v1 * 10 + mch f - 48) else (v1, f 60 8) := rfl
    by_cases h1 : 48 ≤ mch f ∧ mch f ≤ 57
    · rw [if_pos h1, q_sw1, if_neg (by decide), e0.trans (if_pos h1)]
      simp only [q_let]
      have hk : mOK (mSet f (f 60 8 + 1)) := by
        obtain ⟨h5, h6, h7⟩ := h
        refine ⟨h5, ?_, ?_⟩ <;> simp [mSet, ma_up] <;> omega
      have e1 : mSet f (f 60 8 + 1) 60 8 = f 60 8 + 1 := by simp [mSet, ma_up]
      have e2 : mSet f (f 60 8 + 1) 60 6 = f 60 6 := by simp [mSet, ma_up]
      have e3 : mSet f (f 60 8 + 1) 66 = f 66 := ma_up_ne (by decide)
      have e4 : mSet f (f 60 8 + 1) 60 9 = 0 := by simp [mSet, ma_up, hw]
      show p_Mod_number_4 n (10 * v1 + mch f - 48) (v2 + 1) (mSet f (f 60 8 + 1)) g = _
      rw [ih (mSet f (f 60 8 + 1)) n _ (v2 + 1) hk e4 (by omega) (by omega) (by omega), e1, e2, e3, mSet_mSet, Int.mul_comm 10 v1]
      have e5 : v2 + 1 + ((dgt (f 66) (f 60 6) k (f 60 8 + 1) (v1 * 10 + mch f - 48)).2 - (f 60 8 + 1)) = v2 + ((dgt (f 66) (f 60 6) k (f 60 8 + 1) (v1 * 10 + mch f - 48)).2 - f 60 8) := by omega
      rw [e5]
    · rw [if_neg h1, q_sw0, if_pos rfl, e0.trans (if_neg h1), if_pos (show q_sw (f 60 9) = 0 by rw [hw]; exact q_sw0)]
      dsimp only
      rw [mSet_id]
      by_cases h2 : v2 = 0
      · rw [if_pos h2, if_pos (by decide), if_neg (by omega)]
        rfl
      · rw [if_neg h2, if_pos (by decide), if_pos (by omega)]
        simp only [q_let]
        rw [ma_up_id hw]
theorem m_num {f g : q_F} (h : mOK f) (hw : f 60 9 = 0) : p_Mod_number f g = some ((mdg f).1, if f 60 8 < (mdg f).2 then mSet f (mdg f).2 else mWr (mSet f (mdg f).2), g) := by
  unfold p_Mod_number
  rw [m_num4 4 f 1000 0 0 h hw (by omega) (by omega) (by omega)]
  have e6 : (0 < (0 : Int) + ((dgt (f 66) (f 60 6) 4 (f 60 8) 0).2 - f 60 8)) ↔ f 60 8 < (mdg f).2 := by
    unfold mdg
    omega
  by_cases h7 : f 60 8 < (mdg f).2
  · rw [if_pos h7, if_pos (e6.mpr h7)]
    rfl
  · rw [if_neg h7, if_neg (fun q => h7 (e6.mp q))]
    rfl
theorem m_numW {f g : q_F} (hw : f 60 9 = 1) : p_Mod_number f g = some (0, f, g) := by
  unfold p_Mod_number
  rw [p_Mod_number_4]
  unfold p_Mod_number_59 p_Mod_number_71 p_Mod_number_76
  rw [hw, q_sw1, if_neg (by decide), if_neg (by decide), if_pos (by decide)]
  simp only [q_let]
  rw [ma_up_id hw]
