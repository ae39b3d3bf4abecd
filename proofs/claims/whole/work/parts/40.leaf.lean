/-! ===== reading: characters, what each side sees and takes ===== -/
theorem q_swn {z : Int} (h : -2147483648 ≤ z ∧ z ≤ 2147483647) : q_sw z = z := q_sw_id h
theorem q_sw0 : q_sw 0 = 0 := by decide
theorem q_sw1 : q_sw 1 = 1 := by decide
theorem ma_up_id {f : q_F} {a k : Nat} {v : Int} (h : f a k = v) : ma_up f a k v = f := by
  funext b j
  unfold ma_up
  split
  · rename_i e
    split
    · rename_i e2
      rw [e, e2, h]
    · rfl
  · rfl
def tOK (tx : Nat → Int) (n : Int) : Prop := 0 ≤ n ∧ n ≤ 160 ∧ ∀ j : Nat, (j : Int) < n → 33 ≤ tx j ∧ tx j ≤ 126
def chr (tx : Nat → Int) (n i : Int) : Int := if i < n then tx i.toNat else 0
theorem chr_b {tx : Nat → Int} {n i : Int} (h : tOK tx n) (hi : 0 ≤ i) : (chr tx n i = 0 ∧ n ≤ i) ∨ (33 ≤ chr tx n i ∧ chr tx n i ≤ 126 ∧ i < n) := by
  unfold chr
  by_cases hl : i < n
  · rw [if_pos hl]
    have h1 := h.2.2 i.toNat (by omega)
    exact Or.inr ⟨h1.1, h1.2, hl⟩
  · rw [if_neg hl]
    exact Or.inl ⟨rfl, by omega⟩
def cOK (f : q_F) : Prop := tOK (f 2) (f 1 1) ∧ 0 ≤ f 54 2 ∧ f 54 2 ≤ f 1 1
def cch (f : q_F) : Int := chr (f 2) (f 1 1) (f 54 2)
def cAdv (f : q_F) : q_F := ma_up f 54 2 (f 54 2 + 1)
theorem cch_b {f : q_F} (h : cOK f) : (cch f = 0 ∧ f 54 2 = f 1 1) ∨ (33 ≤ cch f ∧ cch f ≤ 126 ∧ f 54 2 < f 1 1) := by
  have h1 := chr_b h.1 h.2.1
  have h2 := h.2.2
  unfold cch
  omega
theorem cAdv_OK {f : q_F} (h : cOK f) (hc : cch f ≠ 0) : cOK (cAdv f) := by
  have h1 := cch_b h
  obtain ⟨h2, h3, h4⟩ := h
  refine ⟨h2, ?_, ?_⟩ <;> simp only [cAdv, ma_up] <;> simp <;> omega
section CR
variable {f g : q_F}
theorem c_here (h : cOK f) : p_Reader_here f g = some (cch f, f, g) := by
  obtain ⟨⟨h1, h2, h3⟩, h4, h5⟩ := h
  unfold p_Reader_here p_Reader_here_30 cch chr
  rw [q_swn (by omega), q_swn (by omega)]
  by_cases hlt : f 54 2 < f 1 1
  · rw [if_neg (by omega), if_pos (by omega), if_pos hlt]
  · rw [if_pos (by omega), if_neg hlt]
theorem c_skip1 (h : cOK f) {c : Int} (hc : 0 ≤ c ∧ c ≤ 1000) (he : cch f = c) : p_Reader_skip c f g = some (1, cAdv f, g) := by
  have h1 := cch_b h
  unfold p_Reader_skip
  rw [c_here h, Option.bind_some, he, if_pos rfl]
  rfl
theorem c_skip0 (h : cOK f) {c : Int} (hc : 0 ≤ c ∧ c ≤ 1000) (he : cch f ≠ c) : p_Reader_skip c f g = some (0, f, g) := by
  have h1 := cch_b h
  unfold p_Reader_skip
  rw [c_here h, Option.bind_some]
  dsimp only
  rw [q_swn (by omega), q_swn (by omega), if_neg he]
theorem c_letter1 (h : cOK f) {a n : Int} (ha : 0 ≤ a ∧ a ≤ 1000) (hn : 0 ≤ n ∧ n ≤ 1000) (h1 : a ≤ cch f) (h2 : cch f < a + n) : p_Reader_letter a n f g = some (cch f - a, f, g) := by
  have h3 := cch_b h
  unfold p_Reader_letter p_Reader_letter_21
  rw [c_here h, Option.bind_some]
  simp only [q_let]
  rw [q_swn (by omega), q_swn (by omega), if_neg (by omega), if_neg (by omega)]
theorem c_letter0 (h : cOK f) {a n : Int} (ha : 0 ≤ a ∧ a ≤ 1000) (hn : 0 ≤ n ∧ n ≤ 1000) (h1 : ¬ (a ≤ cch f ∧ cch f < a + n)) : p_Reader_letter a n f g = some (-1, f, g) := by
  have h3 := cch_b h
  unfold p_Reader_letter p_Reader_letter_20 p_Reader_letter_21
  rw [c_here h, Option.bind_some]
  simp only [q_let]
  rw [q_swn (by omega), q_swn (by omega)]
  by_cases h4 : cch f - a < 0
  · rw [if_pos h4]
  · rw [if_neg h4, if_pos (by omega)]
end CR
/-! the reference -/
def mOK (f : q_F) : Prop := tOK (f 66) (f 60 6) ∧ 0 ≤ f 60 8 ∧ f 60 8 ≤ f 60 6
def mch (f : q_F) : Int := chr (f 66) (f 60 6) (f 60 8)
def mAdv (f : q_F) : q_F := ma_up f 60 8 (f 60 8 + 1)
def mWr (f : q_F) : q_F := ma_up f 60 9 1
theorem mch_b {f : q_F} (h : mOK f) : (mch f = 0 ∧ f 60 8 = f 60 6) ∨ (33 ≤ mch f ∧ mch f ≤ 126 ∧ f 60 8 < f 60 6) := by
  have h1 := chr_b h.1 h.2.1
  have h2 := h.2.2
  unfold mch
  omega
theorem mAdv_OK {f : q_F} (h : mOK f) (hc : mch f ≠ 0) : mOK (mAdv f) := by
  have h1 := mch_b h
  obtain ⟨h2, h3, h4⟩ := h
  refine ⟨h2, ?_, ?_⟩ <;> simp only [mAdv, ma_up] <;> simp <;> omega
theorem mWr_OK {f : q_F} (h : mOK f) : mOK (mWr f) := by
  obtain ⟨h2, h3, h4⟩ := h
  refine ⟨h2, ?_, ?_⟩ <;> simp only [mWr, ma_up] <;> simp <;> omega
theorem mWr_id {f : q_F} (hw : f 60 9 = 1) : mWr f = f := ma_up_id hw
section MR
variable {f g : q_F}
theorem m_within {v a b : Int} (hv : -2147483648 ≤ v ∧ v ≤ 2147483647) (ha : -2147483648 ≤ a ∧ a ≤ 2147483647) (hb : -2147483648 ≤ b ∧ b ≤ 2147483647) : p_Mod_within v a b f g = some (if a ≤ v ∧ v ≤ b then 1 else 0, f, g) := by
  unfold p_Mod_within p_Mod_within_14 p_Mod_within_15
  rw [q_swn hv, q_swn ha, q_swn hb]
  by_cases h1 : v < a
  · rw [if_pos h1, if_pos (by decide), if_neg (by omega)]
  · rw [if_neg h1]
    by_cases h2 : b < v
    · rw [if_pos h2, if_pos (by decide), if_neg (by omega)]
    · rw [if_neg h2, if_pos (by decide), if_pos (by omega)]
theorem m_see (h : mOK f) : p_Mod_see f g = some (mch f, f, g) := by
  obtain ⟨⟨h1, h2, h3⟩, h4, h5⟩ := h
  unfold p_Mod_see p_Mod_see_24 mch chr
  rw [q_swn (by omega), q_swn (by omega)]
  by_cases hlt : f 60 8 < f 60 6
  · rw [if_neg (by omega), if_pos (by omega), if_pos hlt]
  · rw [if_pos (by omega), if_neg hlt]
theorem m_takesW {c : Int} (hw : f 60 9 = 1) : p_Mod_takes c f g = some (0, f, g) := by
  unfold p_Mod_takes p_Mod_takes_15
  rw [hw, q_sw1, if_neg (by decide)]
theorem m_takes1 (h : mOK f) (hw : f 60 9 = 0) {c : Int} (hc : 0 ≤ c ∧ c ≤ 1000) (he : mch f = c) : p_Mod_takes c f g = some (1, mAdv f, g) := by
  unfold p_Mod_takes
  rw [hw, q_sw0, if_pos rfl, m_see h, Option.bind_some, he, if_pos rfl]
  rfl
theorem m_takes0 (h : mOK f) (hw : f 60 9 = 0) {c : Int} (hc : 0 ≤ c ∧ c ≤ 1000) (he : mch f ≠ c) : p_Mod_takes c f g = some (0, f, g) := by
  have h1 := mch_b h
  unfold p_Mod_takes p_Mod_takes_15
  rw [hw, q_sw0, if_pos rfl, m_see h, Option.bind_some]
  dsimp only
  rw [q_swn (by omega), q_swn (by omega), if_neg he]
theorem m_takeW {c : Int} (hw : f 60 9 = 1) : p_Mod_take c f g = some (f, g) := by
  unfold p_Mod_take p_Mod_take_13
  rw [m_takesW hw, Option.bind_some]
  simp only [q_let]
  rw [q_sw0, if_pos rfl, ma_up_id hw]
theorem m_take1 (h : mOK f) (hw : f 60 9 = 0) {c : Int} (hc : 0 ≤ c ∧ c ≤ 1000) (he : mch f = c) : p_Mod_take c f g = some (mAdv f, g) := by
  unfold p_Mod_take p_Mod_take_13
  rw [m_takes1 h hw hc he, Option.bind_some]
  simp only [q_let]
  rw [q_sw1, if_neg (by decide)]
theorem m_take0 (h : mOK f) (hw : f 60 9 = 0) {c : Int} (hc : 0 ≤ c ∧ c ≤ 1000) (he : mch f ≠ c) : p_Mod_take c f g = some (mWr f, g) := by
  unfold p_Mod_take p_Mod_take_13
  rw [m_takes0 h hw hc he, Option.bind_some]
  simp only [q_let]
  rw [q_sw0, if_pos rfl]
  rfl
theorem m_letterW (h : mOK f) (hw : f 60 9 = 1) {a n : Int} : p_Mod_letter a n f g = some (0, f, g) := by
  unfold p_Mod_letter p_Mod_letter_26 p_Mod_letter_31
  rw [m_see h, Option.bind_some]
  simp only [q_let]
  rw [hw, q_sw1, if_neg (by decide), if_pos (by decide), ma_up_id hw, hw, q_sw1, if_neg (by decide)]
theorem m_letter1 (h : mOK f) (hw : f 60 9 = 0) {a n : Int} (ha : 0 ≤ a ∧ a ≤ 1000) (hn : 0 ≤ n ∧ n ≤ 1000) (h1 : a ≤ mch f) (h2 : mch f < a + n) : p_Mod_letter a n f g = some (mch f - a, mAdv f, g) := by
  have h3 := mch_b h
  unfold p_Mod_letter p_Mod_letter_26 p_Mod_letter_31
  rw [m_see h, Option.bind_some]
  simp only [q_let]
  rw [hw, q_sw0, if_pos rfl, m_within (by omega) (by omega) (by omega), Option.bind_some, if_pos (show 0 ≤ mch f - a ∧ mch f - a ≤ n - 1 by omega)]
  dsimp only
  rw [q_sw1, if_neg (by decide), if_pos (by decide), ma_up_id hw, hw, q_sw0, if_pos rfl]
  rfl
theorem m_letter0 (h : mOK f) (hw : f 60 9 = 0) {a n : Int} (ha : 0 ≤ a ∧ a ≤ 1000) (hn : 0 ≤ n ∧ n ≤ 1000) (h1 : ¬ (a ≤ mch f ∧ mch f < a + n)) : p_Mod_letter a n f g = some (0, mWr f, g) := by
  have h3 := mch_b h
  unfold p_Mod_letter p_Mod_letter_26 p_Mod_letter_31
  rw [m_see h, Option.bind_some]
  simp only [q_let]
  rw [hw, q_sw0, if_pos rfl, m_within (by omega) (by omega) (by omega), Option.bind_some, if_neg (show ¬ (0 ≤ mch f - a ∧ mch f - a ≤ n - 1) by omega)]
  dsimp only
  rw [q_sw0, if_pos rfl, if_pos (by decide)]
  have h9 : ma_up f 60 9 1 60 9 = 1 := by simp [ma_up]
  rw [h9, q_sw1, if_neg (by decide)]
  rfl
theorem m_freshW {v : Int} (hw : f 60 9 = 1) : p_Mod_fresh v f g = some (f, g) := by
  unfold p_Mod_fresh p_Mod_fresh_11
  rw [hw, q_sw1, if_neg (by decide)]
theorem m_fresh1 (hw : f 60 9 = 0) : p_Mod_fresh 1 f g = some (f, g) := by
  unfold p_Mod_fresh p_Mod_fresh_11
  rw [hw, q_sw0, if_pos rfl, q_sw1, if_neg (by decide)]
theorem m_fresh0 (hw : f 60 9 = 0) : p_Mod_fresh 0 f g = some (mWr (ma_up f 60 8 (f 60 8 - 1)), g) := by
  unfold p_Mod_fresh p_Mod_fresh_11
  rw [hw, q_sw0, if_pos rfl, if_pos rfl]
  rfl
end MR
