/-! ===== the reference's road through an expression, piece by piece ===== -/
abbrev mA (a : Nat) : Int → Int → q_F → q_F → Option (q_F × q_F) := p_Mod_expression_22 a
abbrev MB (a b : Nat) (d c : Int) (f g : q_F) : Option (q_F × q_F) := p_Mod_expression_31 (mA a) b d c f g
abbrev mC (a c : Nat) : Int → Int → q_F → q_F → Option (q_F × q_F) := p_Mod_expression_120 (mA a) c
abbrev MC (a c : Nat) (d : Int) (f g : q_F) : Option (q_F × q_F) := mC a c d 1 f g
section ME
variable {f g : q_F} {a b c : Nat}
theorem w0 (hw : f 60 9 = 0) : q_sw (f 60 9) = 0 := by rw [hw]; exact q_sw0
theorem w1 (hw : f 60 9 = 1) : ¬ q_sw (f 60 9) = 0 := by rw [hw]; decide
theorem mA_end {d : Int} : mA (a + 1) d 0 f g = some (f, g) := by
  show p_Mod_expression_22 (a + 1) d 0 f g = _
  rw [p_Mod_expression_22, q_sw0, if_pos rfl]
theorem mA_on {d : Int} (h : mOK f) : mA (a + 1) d 1 f g = MB a 1000 d (mch f) f g := by
  show p_Mod_expression_22 (a + 1) d 1 f g = _
  rw [p_Mod_expression_22, if_neg (show ¬ q_sw 1 = 0 by decide), m_see h, Option.bind_some]
theorem MC_w {d : Int} (hw : f 60 9 = 1) : MC (a + 1) (c + 1) d f g = some (f, g) := by
  show p_Mod_expression_120 (mA (a + 1)) (c + 1) d 1 f g = _
  rw [p_Mod_expression_120, if_neg (show ¬ q_sw 1 = 0 by decide), if_neg (w1 hw)]
  unfold p_Mod_expression_281 p_Mod_expression_301 p_Mod_expression_302
  rw [if_neg (w1 hw)]
  exact mA_end
theorem MB_w {d k : Int} (hw : f 60 9 = 1) : MB (a + 1) (b + 1) d k f g = some (f, g) := by
  show p_Mod_expression_31 (mA (a + 1)) (b + 1) d k f g = _
  rw [p_Mod_expression_31, if_neg (w1 hw)]
  unfold p_Mod_expression_106 p_Mod_expression_117
  rw [if_neg (w1 hw)]
  exact MC_w hw
theorem MB_simple {d k : Int} (hw : f 60 9 = 0) (hk : 0 ≤ k ∧ k ≤ 1000) (h1 : k ≠ 40) (h2 : k ≠ 91) : MB a (b + 1) d k f g = (p_Mod_simple f g).bind fun x => MC a 1000 d x.1 x.2 := by
  show p_Mod_expression_31 (mA a) (b + 1) d k f g = _
  rw [p_Mod_expression_31, if_pos (w0 hw), q_swn (by omega), q_swn (show -2147483648 ≤ (40 : Int) ∧ (40 : Int) ≤ 2147483647 by omega), q_swn (show -2147483648 ≤ (91 : Int) ∧ (91 : Int) ≤ 2147483647 by omega), if_neg h1, if_neg h2]
  unfold p_Mod_expression_106 p_Mod_expression_117
  rw [if_pos (w0 hw)]
def mOpen (f : q_F) (d : Nat) (k : Int) : q_F := ma_up (mAdv (ma_up f 74 d k)) 73 (d + 1) 0
theorem MB_50 {d k : Int} (hw : f 60 9 = 0) (hk : k = 40 ∨ k = 91) : MB a (b + 1) d k f g = p_Mod_expression_50 (mA a) (p_Mod_expression_31 (mA a) b) d k f g := by
  show p_Mod_expression_31 (mA a) (b + 1) d k f g = _
  rw [p_Mod_expression_31, if_pos (w0 hw), q_swn (by omega), q_swn (show -2147483648 ≤ (40 : Int) ∧ (40 : Int) ≤ 2147483647 by omega), q_swn (show -2147483648 ≤ (91 : Int) ∧ (91 : Int) ≤ 2147483647 by omega)]
  by_cases h1 : k = 40
  · rw [if_pos h1]
  · rw [if_neg h1, if_pos (by omega)]
theorem MB_open {d : Nat} {k : Int} (hw : f 60 9 = 0) (hk : k = 40 ∨ k = 91) (hd : d < 5) (ho : mOK (mOpen f d k)) : MB a (b + 1) d k f g = MB a b ((d + 1 : Nat) : Int) (mch (mOpen f d k)) (mOpen f d k) g := by
  rw [MB_50 hw hk]
  unfold p_Mod_expression_50 p_Mod_expression_61 p_Mod_expression_98
  rw [q_swn (by omega), q_swn (show -2147483648 ≤ (5 : Int) ∧ (5 : Int) ≤ 2147483647 by omega), if_neg (by omega), if_pos (by decide)]
  simp only [q_let]
  rw [ma_up_id hw, if_pos (w0 hw), if_pos (by omega), if_pos (by omega)]
  have e1 : ((d : Int)).toNat = d := by omega
  have e2 : ((d : Int) + 1).toNat = d + 1 := by omega
  rw [e1, e2]
  show (p_Mod_see (mOpen f d k) g).bind _ = _
  rw [m_see ho, Option.bind_some]
  rfl
theorem MB_deep {k : Int} (h : mOK f) (hw : f 60 9 = 0) (hk : k = 40 ∨ k = 91) : MB (a + 1) (b + 2) 5 k f g = some (mWr f, g) := by
  rw [MB_50 hw hk]
  unfold p_Mod_expression_50 p_Mod_expression_61 p_Mod_expression_98
  rw [if_pos rfl, if_pos (by decide)]
  simp only [q_let]
  have e1 : ma_up f 60 9 1 60 9 = 1 := by simp [ma_up]
  rw [if_neg (w1 e1), m_see (show mOK (ma_up f 60 9 1) from mWr_OK h), Option.bind_some]
  exact MB_w e1
theorem MC_go {d : Nat} (hw : f 60 9 = 0) (hd : d < 6) (hp : f 73 d = 0) : MC a (c + 1) d f g = p_Mod_expression_152 (mA a) (mC a c) d f g := by
  show p_Mod_expression_120 (mA a) (c + 1) d 1 f g = _
  have e1 : ((d : Int)).toNat = d := by omega
  rw [p_Mod_expression_120, if_neg (show ¬ q_sw 1 = 0 by decide), if_pos (w0 hw), if_pos (by omega), e1, hp, q_sw0, if_pos (Int.le_refl 0)]
theorem MC_emit {d : Nat} {s : Int} (hw : f 60 9 = 0) (hd : d < 6) (hp : f 73 d = s) (hs : s = 5 ∨ s = 6) (hm : 0 ≤ f 60 14 ∧ f 60 14 < 160) : MC a (c + 1) d f g = p_Mod_expression_152 (mA a) (mC a c) d (mStep f s 0) g := by
  show p_Mod_expression_120 (mA a) (c + 1) d 1 f g = _
  have e1 : ((d : Int)).toNat = d := by omega
  rw [p_Mod_expression_120, if_neg (show ¬ q_sw 1 = 0 by decide), if_pos (w0 hw), if_pos (by omega), e1, hp, q_swn (by omega), if_neg (by omega), if_pos (by omega), m_emit hw hm, Option.bind_some]
def mSign (f : q_F) (d : Nat) (s : Int) : q_F := ma_up (mAdv f) 73 d s
theorem m185_on {d : Nat} {s : Int} {F : q_F} (hF : F = ma_up f 73 d s) (hw : F 60 9 = 0) (hd : d < 6) (hs : s = 5 ∨ s = 6) (ho : mOK F) : p_Mod_expression_185 (mA (a + 1)) (mC (a + 1) (c + 1)) d s d f g = MB a 1000 d (mch F) F g := by
  have e1 : ((d : Int)).toNat = d := by omega
  have e2 : F 73 d = s := by rw [hF]; simp [ma_up]
  unfold p_Mod_expression_185 p_Mod_expression_203 p_Mod_expression_204
  rw [if_pos (by omega), e1, ← hF]
  simp only [q_let]
  rw [if_pos (by omega), e2, if_neg (show ¬ q_sw s = 0 by rw [q_swn (by omega)]; omega), if_pos q_sw0]
  show p_Mod_expression_120 (mA (a + 1)) (c + 1) d 0 F g = _
  rw [p_Mod_expression_120, if_pos q_sw0]
  unfold p_Mod_expression_281 p_Mod_expression_302
  rw [if_pos (w0 hw), if_pos (by omega), e1, e2, if_neg (show ¬ q_sw s ≤ 0 by rw [q_swn (by omega)]; omega)]
  exact mA_on ho
theorem m152_plus {d : Nat} (h : mOK f) (hw : f 60 9 = 0) (hd : d < 6) (hc : mch f = 43) (ho : mOK (mSign f d 5)) : p_Mod_expression_152 (mA (a + 1)) (mC (a + 1) (c + 1)) d f g = MB a 1000 d (mch (mSign f d 5)) (mSign f d 5) g := by
  unfold p_Mod_expression_152
  rw [m_takes1 h hw (by omega) hc, Option.bind_some]
  dsimp only
  rw [if_neg (show ¬ q_sw 1 = 0 by decide)]
  have e1 : mSign f d 5 60 9 = 0 := by simp [mSign, mAdv, ma_up, hw]
  exact m185_on rfl e1 hd (Or.inl rfl) ho
theorem m152_minus {d : Nat} (h : mOK f) (hw : f 60 9 = 0) (hd : d < 6) (hc : mch f = 45) (ho : mOK (mSign f d 6)) : p_Mod_expression_152 (mA (a + 1)) (mC (a + 1) (c + 1)) d f g = MB a 1000 d (mch (mSign f d 6)) (mSign f d 6) g := by
  unfold p_Mod_expression_152
  rw [m_takes0 h hw (by omega) (show mch f ≠ 43 by omega), Option.bind_some]
  dsimp only
  rw [if_pos q_sw0, m_takes1 h hw (by omega) hc, Option.bind_some]
  dsimp only
  rw [if_neg (show ¬ q_sw 1 = 0 by decide)]
  have e1 : mSign f d 6 60 9 = 0 := by simp [mSign, mAdv, ma_up, hw]
  exact m185_on rfl e1 hd (Or.inr rfl) ho
theorem m152_no {d : Int} {c1 c2 : Int → Int → q_F → q_F → Option (q_F × q_F)} (h : mOK f) (hw : f 60 9 = 0) (h1 : mch f ≠ 43) (h2 : mch f ≠ 45) : p_Mod_expression_152 c1 c2 d f g = p_Mod_expression_185 c1 c2 d 0 d f g := by
  unfold p_Mod_expression_152
  rw [m_takes0 h hw (by omega) h1, Option.bind_some]
  dsimp only
  rw [if_pos q_sw0, m_takes0 h hw (by omega) h2, Option.bind_some]
  dsimp only
  rw [if_pos q_sw0]
theorem m185_end (hw : f 60 9 = 0) : p_Mod_expression_185 (mA (a + 1)) (mC (a + 1) (c + 1)) 0 0 0 f g = some (ma_up f 73 0 0, g) := by
  have e2 : ma_up f 73 0 0 73 0 = 0 := by simp [ma_up]
  have e3 : ma_up f 73 0 0 60 9 = 0 := by simp [ma_up, hw]
  unfold p_Mod_expression_185 p_Mod_expression_203 p_Mod_expression_204
  rw [if_pos (by decide)]
  simp only [q_let]
  rw [if_pos (by decide)]
  show (if q_sw (ma_up f 73 0 0 73 0) = 0 then _ else _) = _
  rw [e2, if_pos q_sw0, if_pos (by decide), if_pos q_sw0]
  show p_Mod_expression_120 (mA (a + 1)) (c + 1) 0 0 (ma_up f 73 0 0) g = _
  rw [p_Mod_expression_120, if_pos q_sw0]
  unfold p_Mod_expression_281 p_Mod_expression_301 p_Mod_expression_302
  rw [if_pos (w0 e3), if_pos (by decide)]
  show (if q_sw (ma_up f 73 0 0 73 0) ≤ 0 then _ else _) = _
  rw [e2, if_pos (by decide)]
  exact mA_end
/-- after an expression in a bracket: what closes it -/
theorem m185_close {d : Nat} {F : q_F} (hF : F = ma_up f 73 (d + 1) 0) (hd : d < 5) : p_Mod_expression_185 (mA a) (mC a c) ((d + 1 : Nat) : Int) 0 ((d + 1 : Nat) : Int) f g = p_Mod_expression_204 (mA a) (mC a c) ((d + 1 : Nat) : Int) 1 F g := by
  have e1 : (((d + 1 : Nat) : Int)).toNat = d + 1 := by omega
  have e2 : F 73 (d + 1) = 0 := by rw [hF]; simp [ma_up]
  unfold p_Mod_expression_185
  rw [if_pos (by omega), e1, ← hF]
  simp only [q_let]
  rw [if_pos (by omega), e2, if_pos q_sw0, q_swn (by omega), if_neg (by omega)]
theorem m204_round {d : Nat} {F : q_F} (hd : d < 5) (hb : F 74 d = 40) : p_Mod_expression_204 (mA a) (mC a c) ((d + 1 : Nat) : Int) 1 F g = (p_Mod_take 41 F g).bind fun x => MC a c d x.1 x.2 := by
  have e2 : ((d + 1 : Nat) : Int) + (-1) = (d : Int) := by omega
  have e1 : ((d : Int)).toNat = d := by omega
  unfold p_Mod_expression_204 p_Mod_expression_256 p_Mod_expression_275
  rw [if_neg (show ¬ q_sw 1 = 0 by decide)]
  simp only [q_let]
  rw [e2, if_pos (by omega), e1, hb, if_neg (show ¬ q_sw 40 = q_sw 91 by decide), if_pos (by omega), if_pos rfl]
theorem m204_square {d : Nat} {F : q_F} (hd : d < 5) (hb : F 74 d = 91) : p_Mod_expression_204 (mA a) (mC a c) ((d + 1 : Nat) : Int) 1 F g = (p_Mod_take 44 F g).bind fun x5 => if q_sw (x5.1 60 9) = 0 then (p_Mod_alignment x5.1 x5.2).bind fun x8 => p_Mod_expression_246 (mA a) (mC a c) d 1 x8.1 x8.2.1 x8.2.2 else p_Mod_expression_246 (mA a) (mC a c) d 1 0 x5.1 x5.2 := by
  have e2 : ((d + 1 : Nat) : Int) + (-1) = (d : Int) := by omega
  have e1 : ((d : Int)).toNat = d := by omega
  unfold p_Mod_expression_204
  rw [if_neg (show ¬ q_sw 1 = 0 by decide)]
  simp only [q_let]
  rw [e2, if_pos (by omega), e1, hb, if_pos rfl]
theorem m246_square {d : Nat} {v : Int} {F : q_F} (hd : d < 5) (hb : ∀ x, p_Mod_emit 7 v F g = some x → x.1 74 d = 91) : p_Mod_expression_246 (mA a) (mC a c) d 1 v F g = (p_Mod_emit 7 v F g).bind fun x1 => (p_Mod_take 93 x1.1 x1.2).bind fun x => MC a c d x.1 x.2 := by
  have e1 : ((d : Int)).toNat = d := by omega
  unfold p_Mod_expression_246 p_Mod_expression_256 p_Mod_expression_275
  cases hx : p_Mod_emit 7 v F g with
  | none => rfl
  | some x =>
    rw [Option.bind_some, Option.bind_some, if_pos (by omega), e1, hb x hx, if_neg (show ¬ q_sw 91 = q_sw 40 by decide)]
end ME
