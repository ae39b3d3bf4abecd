/-! ===== alignments, rows of steps and items ===== -/
abbrev pw64 (v : Int) : Prop := v = 1 ∨ v = 2 ∨ v = 4 ∨ v = 8 ∨ v = 16 ∨ v = 32 ∨ v = 64
abbrev pw16 (v : Int) : Prop := v = 1 ∨ v = 2 ∨ v = 4 ∨ v = 8 ∨ v = 16
theorem al_key64 : ∀ j : Nat, j < 65 → 1 ≤ j → (q_sw (q_and (j : Int) ((j : Int) - 1)) = 0 ↔ pw64 (j : Int)) := by decide +kernel
theorem al_key16 : ∀ j : Nat, j < 17 → 1 ≤ j → (q_sw (q_and (j : Int) ((j : Int) - 1)) = 0 ↔ pw16 (j : Int)) := by decide +kernel
theorem c_isAl64 {f g : q_F} {v : Int} (hv : -2147483648 ≤ v ∧ v ≤ 2147483647) : p_Desk_isAlignment v 64 f g = some (if pw64 v then 1 else 0, f, g) := by
  unfold p_Desk_isAlignment p_Desk_isAlignment_22 p_Desk_isAlignment_23
  rw [q_swn hv, q_sw1, q_swn (show -2147483648 ≤ (64 : Int) ∧ (64 : Int) ≤ 2147483647 by omega)]
  by_cases h1 : v < 1
  · rw [if_pos h1, if_pos (by decide), if_neg (show ¬ pw64 v by unfold pw64; omega)]
  · rw [if_neg h1]
    by_cases h2 : 64 < v
    · rw [if_pos h2, if_pos (by decide), if_neg (show ¬ pw64 v by unfold pw64; omega)]
    · rw [if_neg h2]
      have h3 := al_key64 v.toNat (by omega) (by omega)
      have h4 : (v.toNat : Int) = v := Int.toNat_of_nonneg (by omega)
      rw [h4] at h3
      by_cases h5 : pw64 v
      · rw [if_pos (h3.mpr h5), if_pos (by decide), if_pos h5]
      · rw [if_neg (fun q => h5 (h3.mp q)), if_pos (by decide), if_neg h5]
theorem c_isAl16 {f g : q_F} {v : Int} (hv : -2147483648 ≤ v ∧ v ≤ 2147483647) : p_Desk_isAlignment v 16 f g = some (if pw16 v then 1 else 0, f, g) := by
  unfold p_Desk_isAlignment p_Desk_isAlignment_22 p_Desk_isAlignment_23
  rw [q_swn hv, q_sw1, q_swn (show -2147483648 ≤ (16 : Int) ∧ (16 : Int) ≤ 2147483647 by omega)]
  by_cases h1 : v < 1
  · rw [if_pos h1, if_pos (by decide), if_neg (show ¬ pw16 v by unfold pw16; omega)]
  · rw [if_neg h1]
    by_cases h2 : 16 < v
    · rw [if_pos h2, if_pos (by decide), if_neg (show ¬ pw16 v by unfold pw16; omega)]
    · rw [if_neg h2]
      have h3 := al_key16 v.toNat (by omega) (by omega)
      have h4 : (v.toNat : Int) = v := Int.toNat_of_nonneg (by omega)
      rw [h4] at h3
      by_cases h5 : pw16 v
      · rw [if_pos (h3.mpr h5), if_pos (by decide), if_pos h5]
      · rw [if_neg (fun q => h5 (h3.mp q)), if_pos (by decide), if_neg h5]
theorem m_pow_step {f g : q_F} {n : Nat} {v m s p : Int} (hv : -2147483648 ≤ v ∧ v ≤ 2147483647) (hm : 0 ≤ m ∧ m ≤ 1000) (hs : s = 0 ∨ s = 1) (hp : 0 < p ∧ p ≤ m) : p_Mod_power_4 (n + 1) v m s p f g = p_Mod_power_4 n v m (if s = 1 ∨ p = v then 1 else 0) (2 * p) f g := by
  rw [p_Mod_power_4]
  unfold p_Mod_power_18 p_Mod_power_23
  rw [q_swn (show -2147483648 ≤ m ∧ m ≤ 2147483647 by omega), q_swn (show -2147483648 ≤ p ∧ p ≤ 2147483647 by omega), if_neg (by omega), q_swn (show -2147483648 ≤ s ∧ s ≤ 2147483647 by omega), q_swn hv]
  by_cases h1 : s = 0
  · rw [if_pos h1]
    by_cases h2 : p = v
    · rw [if_pos h2, if_pos (Or.inr h2)]
      rfl
    · rw [if_neg h2, if_neg (by omega)]
      rfl
  · rw [if_neg h1, if_pos (by omega)]
    rfl
theorem m_pow_end {f g : q_F} {n : Nat} {v m s p : Int} (hm : 0 ≤ m ∧ m ≤ 1000) (hs : s = 0 ∨ s = 1) (hp : m < p ∧ p ≤ 4000) : p_Mod_power_4 (n + 1) v m s p f g = some (s, f, g) := by
  rw [p_Mod_power_4]
  rw [q_swn (show -2147483648 ≤ m ∧ m ≤ 2147483647 by omega), q_swn (show -2147483648 ≤ p ∧ p ≤ 2147483647 by omega), if_pos (by omega), if_pos hs]
theorem m_ite01 {c : Prop} [Decidable c] : (if c then (1 : Int) else 0) = 0 ∨ (if c then (1 : Int) else 0) = 1 := by
  by_cases h : c
  · rw [if_pos h]; exact Or.inr rfl
  · rw [if_neg h]; exact Or.inl rfl
theorem m_power64 {f g : q_F} {v : Int} (hv : -2147483648 ≤ v ∧ v ≤ 2147483647) : p_Mod_power v 64 f g = some (if pw64 v then 1 else 0, f, g) := by
  unfold p_Mod_power
  rw [m_pow_step hv (by omega) (Or.inl rfl) (by omega), m_pow_step hv (by omega) m_ite01 (by omega), m_pow_step hv (by omega) m_ite01 (by omega), m_pow_step hv (by omega) m_ite01 (by omega), m_pow_step hv (by omega) m_ite01 (by omega), m_pow_step hv (by omega) m_ite01 (by omega), m_pow_step hv (by omega) m_ite01 (by omega), m_pow_end (by omega) m_ite01 (by omega)]
  congr 2
  by_cases h : pw64 v
  · rw [if_pos h]
    rcases h with h | h | h | h | h | h | h <;> subst h <;> decide
  · rw [if_neg h]
    unfold pw64 at h
    have a1 : ¬ (1 : Int) = v := by omega
    have a2 : ¬ 2 * (1 : Int) = v := by omega
    have a3 : ¬ 2 * (2 * (1 : Int)) = v := by omega
    have a4 : ¬ 2 * (2 * (2 * (1 : Int))) = v := by omega
    have a5 : ¬ 2 * (2 * (2 * (2 * (1 : Int)))) = v := by omega
    have a6 : ¬ 2 * (2 * (2 * (2 * (2 * (1 : Int))))) = v := by omega
    have a7 : ¬ 2 * (2 * (2 * (2 * (2 * (2 * (1 : Int)))))) = v := by omega
    simp only [a1, a2, a3, a4, a5, a6, a7, or_false]
    decide
theorem m_power16 {f g : q_F} {v : Int} (hv : -2147483648 ≤ v ∧ v ≤ 2147483647) : p_Mod_power v 16 f g = some (if pw16 v then 1 else 0, f, g) := by
  unfold p_Mod_power
  rw [m_pow_step hv (by omega) (Or.inl rfl) (by omega), m_pow_step hv (by omega) m_ite01 (by omega), m_pow_step hv (by omega) m_ite01 (by omega), m_pow_step hv (by omega) m_ite01 (by omega), m_pow_step hv (by omega) m_ite01 (by omega), m_pow_end (by omega) m_ite01 (by omega)]
  congr 2
  by_cases h : pw16 v
  · rw [if_pos h]
    rcases h with h | h | h | h | h <;> subst h <;> decide
  · rw [if_neg h]
    unfold pw16 at h
    have a1 : ¬ (1 : Int) = v := by omega
    have a2 : ¬ 2 * (1 : Int) = v := by omega
    have a3 : ¬ 2 * (2 * (1 : Int)) = v := by omega
    have a4 : ¬ 2 * (2 * (2 * (1 : Int))) = v := by omega
    have a5 : ¬ 2 * (2 * (2 * (2 * (1 : Int)))) = v := by omega
    simp only [a1, a2, a3, a4, a5, or_false]
    decide
theorem m_alW {f g : q_F} (hw : f 60 9 = 1) : p_Mod_alignment f g = some (0, f, g) := by
  unfold p_Mod_alignment p_Mod_alignment_22 p_Mod_alignment_27
  rw [m_numW hw, Option.bind_some]
  dsimp only
  rw [if_neg (show ¬ q_sw (f 60 9) = 0 by rw [hw]; decide), if_pos (by decide)]
  simp only [q_let]
  rw [ma_up_id hw]
theorem m_al {f g : q_F} (h : mOK f) (hw : f 60 9 = 0) : p_Mod_alignment f g = some ((mdg f).1, if f 60 8 < (mdg f).2 ∧ pw64 (mdg f).1 then mSet f (mdg f).2 else mWr (mSet f (mdg f).2), g) := by
  have hr := mdg_r h
  unfold p_Mod_alignment p_Mod_alignment_22 p_Mod_alignment_27
  rw [m_num h hw, Option.bind_some]
  dsimp only
  by_cases h1 : f 60 8 < (mdg f).2
  · rw [if_pos h1]
    have e1 : mSet f (mdg f).2 60 9 = 0 := by simp [mSet, ma_up, hw]
    rw [if_pos (show q_sw (mSet f (mdg f).2 60 9) = 0 by rw [e1]; exact q_sw0), m_power64 (by omega), Option.bind_some]
    dsimp only
    by_cases h2 : pw64 (mdg f).1
    · rw [if_neg (show ¬ q_sw (if pw64 (mdg f).1 then 1 else 0) = 0 by rw [if_pos h2]; decide), if_pos (by decide), if_pos (show f 60 8 < (mdg f).2 ∧ pw64 (mdg f).1 from ⟨h1, h2⟩)]
      simp only [q_let]
      rw [ma_up_id e1]
    · rw [if_pos (show q_sw (if pw64 (mdg f).1 then 1 else 0) = 0 by rw [if_neg h2]; decide), if_pos (by decide), if_neg (show ¬ (f 60 8 < (mdg f).2 ∧ pw64 (mdg f).1) from fun q => h2 q.2)]
      rfl
  · rw [if_neg h1, if_neg (show ¬ (f 60 8 < (mdg f).2 ∧ pw64 (mdg f).1) from fun q => h1 q.1)]
    have e1 : mWr (mSet f (mdg f).2) 60 9 = 1 := by simp [mWr, ma_up]
    rw [if_neg (show ¬ q_sw (mWr (mSet f (mdg f).2) 60 9) = 0 by rw [e1]; decide), if_pos (by decide)]
    simp only [q_let]
    rw [ma_up_id e1]
/-! rows -/
def cStep (f : q_F) (k v : Int) : q_F := ma_up (ma_up (ma_up f 12 (f 11 2).toNat k) 13 (f 11 2).toNat v) 11 2 (f 11 2 + 1)
def cItem (f : q_F) (k v : Int) : q_F := ma_up (ma_up (ma_up f 9 (f 8 2).toNat k) 10 (f 8 2).toNat v) 8 2 (f 8 2 + 1)
def mStep (f : q_F) (k v : Int) : q_F := ma_up (ma_up (ma_up f 70 (f 60 14).toNat k) 71 (f 60 14).toNat v) 60 14 (f 60 14 + 1)
def mItem (f : q_F) (v : Int) : q_F := ma_up (ma_up f 89 (f 60 37).toNat v) 60 37 (f 60 37 + 1)
theorem c_add11 {f g : q_F} {k v : Int} (h : 0 ≤ f 11 2 ∧ f 11 2 < 160) : p_Rows_add_11 k v f g = some (cStep f k v, g) := by
  unfold p_Rows_add_11 p_Rows_add_11_40
  rw [q_swn (show -2147483648 ≤ (160 : Int) ∧ (160 : Int) ≤ 2147483647 by omega), q_swn (by omega), if_neg (by omega), if_pos h]
  simp only [q_let]
  have e1 : ma_up f 12 (f 11 2).toNat k 11 = f 11 := ma_up_ne (by decide)
  have e2 : ∀ z : Int, ma_up (ma_up f 12 (f 11 2).toNat k) 13 (f 11 2).toNat z 11 = f 11 := fun z => (ma_up_ne (by decide)).trans e1
  rw [if_pos (show 0 ≤ ma_up f 12 (f 11 2).toNat k 11 2 ∧ ma_up f 12 (f 11 2).toNat k 11 2 < 160 by rw [e1]; exact h), e1, e2]
  rfl
theorem c_add8 {f g : q_F} {k v : Int} (h : 0 ≤ f 8 2 ∧ f 8 2 < 160) : p_Rows_add_8 k v f g = some (cItem f k v, g) := by
  unfold p_Rows_add_8 p_Rows_add_8_40
  rw [q_swn (show -2147483648 ≤ (160 : Int) ∧ (160 : Int) ≤ 2147483647 by omega), q_swn (by omega), if_neg (by omega), if_pos h]
  simp only [q_let]
  have e1 : ma_up f 9 (f 8 2).toNat k 8 = f 8 := ma_up_ne (by decide)
  have e2 : ∀ z : Int, ma_up (ma_up f 9 (f 8 2).toNat k) 10 (f 8 2).toNat z 8 = f 8 := fun z => (ma_up_ne (by decide)).trans e1
  rw [if_pos (show 0 ≤ ma_up f 9 (f 8 2).toNat k 8 2 ∧ ma_up f 9 (f 8 2).toNat k 8 2 < 160 by rw [e1]; exact h), e1, e2]
  rfl
theorem m_emitW {f g : q_F} {k v : Int} (hw : f 60 9 = 1) : p_Mod_emit k v f g = some (f, g) := by
  unfold p_Mod_emit
  rw [if_neg (show ¬ q_sw (f 60 9) = 0 by rw [hw]; decide)]
theorem m_emit {f g : q_F} {k v : Int} (hw : f 60 9 = 0) (h : 0 ≤ f 60 14 ∧ f 60 14 < 160) : p_Mod_emit k v f g = some (mStep f k v, g) := by
  unfold p_Mod_emit
  rw [if_pos (show q_sw (f 60 9) = 0 by rw [hw]; exact q_sw0), if_pos h]
  simp only [q_let]
  have e1 : ma_up f 70 (f 60 14).toNat k 60 = f 60 := ma_up_ne (by decide)
  have e2 : ∀ z : Int, ma_up (ma_up f 70 (f 60 14).toNat k) 71 (f 60 14).toNat z 60 = f 60 := fun z => (ma_up_ne (by decide)).trans e1
  rw [if_pos (show 0 ≤ ma_up f 70 (f 60 14).toNat k 60 14 ∧ ma_up f 70 (f 60 14).toNat k 60 14 < 160 by rw [e1]; exact h), e1, e2]
  rfl
theorem m_itemW {f g : q_F} {v : Int} (hw : f 60 9 = 1) : p_Mod_addItem v f g = some (f, g) := by
  unfold p_Mod_addItem
  rw [if_neg (show ¬ q_sw (f 60 9) = 0 by rw [hw]; decide)]
theorem m_item {f g : q_F} {v : Int} (hw : f 60 9 = 0) (h : 0 ≤ f 60 37 ∧ f 60 37 < 160) : p_Mod_addItem v f g = some (mItem f v, g) := by
  unfold p_Mod_addItem
  rw [if_pos (show q_sw (f 60 9) = 0 by rw [hw]; exact q_sw0), if_pos h]
  simp only [q_let]
  have e1 : ma_up f 89 (f 60 37).toNat v 60 = f 60 := ma_up_ne (by decide)
  rw [e1]
  rfl
