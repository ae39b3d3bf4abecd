/-! ===== the term with a bracket; the whole expression ===== -/
theorem c_br {fc g : q_F} {e d : Nat} (h : cOK fc) (hk : cch fc = 40 ∨ cch fc = 91) (hd : d < 5) : p_Reader_term (e + 1) d fc g = ((p_Reader_readExpression (p_Reader_term e) ((d + 1 : Nat) : Int) (cAdv fc) g).bind fun x2 => if q_sw x2.1 = 0 then some (0, x2.2.1, x2.2.2) else CloseC x2.2.1 x2.2.2 (if cch fc = 91 then 1 else 0)).bind fun x12 => if q_sw x12.1 = 0 then some (0, x12.2.1, x12.2.2) else some (1, x12.2.1, x12.2.2) := by
  have hb := cch_b h
  have hbr : p_Reader_readBracket (p_Reader_readExpression (p_Reader_term e)) ((d : Int) + 1) fc g = ((p_Reader_readExpression (p_Reader_term e) ((d + 1 : Nat) : Int) (cAdv fc) g).bind fun x2 => if q_sw x2.1 = 0 then some (0, x2.2.1, x2.2.2) else CloseC x2.2.1 x2.2.2 (if cch fc = 91 then 1 else 0)) := by
    unfold p_Reader_readBracket
    rw [c_here h, Option.bind_some]
    dsimp only
    rw [show ((d : Int) + 1) = ((d + 1 : Nat) : Int) by omega]
    by_cases h9 : cch fc = 91
    · rw [if_pos (show q_sw (cch fc) = q_sw 91 by rw [h9]), if_pos h9]
      rfl
    · rw [if_neg (show ¬ q_sw (cch fc) = q_sw 91 by rw [q_swn (by omega), q_swn (by omega)]; exact h9), if_neg h9]
      rfl
  show p_Reader_readTerm (p_Reader_readBracket (p_Reader_readExpression (p_Reader_term e))) d fc g = _
  unfold p_Reader_readTerm p_Reader_readTerm_129 p_Reader_readTerm_130
  rw [c_letter0 h (by omega) (by omega) (by omega), Option.bind_some]
  dsimp only
  rw [if_pos (show q_sw (-1) < 0 by decide), c_here h, Option.bind_some]
  dsimp only
  rw [q_swn (show -2147483648 ≤ cch fc ∧ cch fc ≤ 2147483647 by omega), if_neg (show ¬ cch fc = 35 by omega)]
  have h5 : ¬ q_sw 5 ≤ q_sw (d : Int) := by
    rw [q_swn (by omega), q_swn (by omega)]
    omega
  rw [hbr]
  have hfin : ∀ x12 : Int × q_F × q_F, (if q_sw x12.1 = 0 then (if (0 : Int) = 0 ∨ (0 : Int) = 1 then some ((0 : Int), x12.2.1, x12.2.2) else none) else (if (1 : Int) = 0 ∨ (1 : Int) = 1 then some ((1 : Int), x12.2.1, x12.2.2) else none)) = if q_sw x12.1 = 0 then some (0, x12.2.1, x12.2.2) else some (1, x12.2.1, x12.2.2) := by
    intro x12
    rw [if_pos (show (0 : Int) = 0 ∨ (0 : Int) = 1 by decide), if_pos (show (1 : Int) = 0 ∨ (1 : Int) = 1 by decide)]
  rcases hk with c | c
  · rw [if_pos c, if_neg h5]
    exact congrArg _ (funext hfin)
  · rw [if_neg (show ¬ cch fc = 40 by omega), if_neg (show ¬ cch fc = 47 by omega), if_pos c, if_neg h5]
    exact congrArg _ (funext hfin)
theorem PT_succ {e d : Nat} (hd : d < 5) (hX : PX e (d + 1)) : PT (e + 1) d := by
  intro fc fm g h
  have hb := cch_b h.c
  by_cases hk : cch fc = 40 ∨ cch fc = 91
  · obtain ⟨r1, y1⟩ := XR.brk (d := d) (s := cch fc) h
    obtain ⟨r2, x2, y2⟩ := r1.adv (d + 1) d (by omega)
    obtain ⟨r3, y3⟩ := XR.pend (d := d + 1) (s := 0) r2
    have r3 : XR (cAdv fc) (mOpen fm d (cch fc)) := r3
    have y3 : XM (d + 1) d (mAdv (ma_up fm 74 d (cch fc))) (mOpen fm d (cch fc)) := y3.less (Nat.le_refl _) (by omega)
    have hp : mOpen fm d (cch fc) 73 (d + 1) = 0 := by simp [mOpen, ma_up]
    have hbr : mOpen fm d (cch fc) 74 d = cch fc := by simp [mOpen, mAdv, ma_up]
    obtain ⟨b1, fd1, fn1, t1, t2, t3, t4, t5, t6⟩ := hX (cAdv fc) (mOpen fm d (cch fc)) g r3 hp
    have hopen : ∀ y, GoodT (d + 1) (mOpen fm d (cch fc)) g y → GoodT d fm g y := by
      intro y hy a b ha hb2
      obtain ⟨b2, rfl⟩ : ∃ b2, b = b2 + 1 := ⟨b - 1, by omega⟩
      rw [h.ch, MB_open h.w hk hd r3.m]
      refine hy a b2 ?_ (by omega)
      rw [r3.left]
      rw [h.left] at ha
      have e1 : cAdv fc 1 1 = fc 1 1 := rfl
      have e2 : cAdv fc 54 2 = fc 54 2 + 1 := by simp [cAdv, ma_up]
      omega
    have yy : XM (d + 1) d fm (mOpen fm d (cch fc)) := (y1 (d + 1)).tr (y2.tr y3)
    have t3w : XM (d + 1) d (mOpen fm d (cch fc)) fn1 := t3.less (Nat.le_refl _) (by omega)
    have hcl : p_Reader_term (e + 1) d fc g = _ := c_br (e := e) (g := g) h.c hk hd
    rw [t1, Option.bind_some] at hcl
    dsimp only at hcl
    rcases t4 with ⟨rfl, r4, w4⟩ | ⟨rfl, w4, a4⟩
    · rw [if_neg (show ¬ q_sw 1 = 0 by decide)] at hcl
      have hbn : fn1 74 d = cch fc := by rw [t3.2.2.2 d (by omega)]; exact hbr
      obtain ⟨b2, fd2, fn2, u1, u2, u3, u4, u5, u6⟩ := t_close (g := g) hd r4 hk hbn
      rw [u1, Option.bind_some] at hcl
      dsimp only at hcl
      have hxx := x2.tr t2 (Int.le_refl _)
      have hb01 : p_Reader_term (e + 1) d fc g = some (b2, fd2, g) := by
        rw [hcl]
        rcases u4 with ⟨rfl, -⟩ | ⟨rfl, -⟩
        · rw [if_neg (show ¬ q_sw 1 = 0 by decide)]
        · rw [if_pos q_sw0]
      refine ⟨b2, fd2, fn2, hb01, hxx.tr u2 (by omega), yy.tr (t3w.tr u3), ?_, fun hb1 y hy => hopen y (t5 rfl y (u5 hb1 y hy)), fun hb0 => hopen _ (t5 rfl _ (u6 hb0))⟩
      rcases u4 with ⟨c1, c2, c3⟩ | c
      · refine Or.inl ⟨c1, c2, fun hh h1 => ?_⟩
        exact WF.app h.m0 hxx.2.2.2.1 u2.2.2.2.1 (WF.ext h.m0 hxx.2.2.2.1 (fun j hj => (u2.2.1 j hj).1) (w4 hh h1)) (c3 (hh + 1) (by omega))
      · exact Or.inr c
    · rw [if_pos q_sw0, Option.bind_some] at hcl
      dsimp only at hcl
      rw [if_pos q_sw0] at hcl
      exact ⟨0, fd1, fn1, hcl, (x2.tr t2 (Int.le_refl _)).up (by omega), yy.tr t3w, Or.inr ⟨rfl, w4, a4⟩, fun q => absurd q (by decide), fun q => hopen _ (t6 q)⟩
  · exact PT_simple (by omega) _ h (fun q => hk (Or.inl q)) (fun q => hk (Or.inr q))
theorem PT_all : ∀ e d : Nat, e + d = 5 → PT e d := by
  intro e
  induction e with
  | zero =>
    intro d hd
    obtain rfl : d = 5 := by omega
    exact PT_zero
  | succ e ih =>
    intro d hd
    exact PT_succ (by omega) (PX_of (by omega) (ih (d + 1) (by omega)))
/-- both read an expression -/
theorem expr_pair {fc fm g : q_F} (h : XR fc fm) : ∃ b fd fn, p_Reader_expr 0 fc g = some (b, fd, g) ∧ p_Mod_expression fm g = some (fn, g) ∧ XC 0 fc fd ∧ XM 0 0 fm fn ∧ ((b = 1 ∧ XR fd fn ∧ WF (fd 12) (fc 11 2) (fd 11 2) 0 1) ∨ (b = 0 ∧ fn 60 9 = 1 ∧ fd 54 2 = fn 60 8)) := by
  obtain ⟨r0, y0⟩ := XR.pend (d := 0) (s := 0) h
  have hp : ma_up fm 73 0 0 73 0 = 0 := by simp [ma_up]
  obtain ⟨b, fd, fn, t1, t2, t3, t4, t5, t6⟩ := PX_of (by omega) (PT_all 5 0 rfl) fc (ma_up fm 73 0 0) g r0 hp
  have hleft := r0.left
  have hpl := h.2.1.2.1
  have hn := h.c.1.2.1
  have hmod : ∀ y, GoodT 0 (ma_up fm 73 0 0) g y → p_Mod_expression fm g = some y := by
    intro y hy
    unfold p_Mod_expression p_Mod_expression_21
    simp only [q_let]
    rw [show Int.toNat 0 = 0 from rfl, if_pos (w0 r0.w)]
    show mA (999 + 1) 0 1 (ma_up fm 73 0 0) g = some y
    rw [mA_on r0.m]
    exact hy 999 1000 (by omega) (by omega)
  rcases t4 with ⟨rfl, r4, w4⟩ | ⟨rfl, w4, a4⟩
  · obtain ⟨r5, y5⟩ := XR.pend (d := 0) (s := 0) r4
    refine ⟨1, fd, ma_up fn 73 0 0, t1, hmod _ (t5 rfl _ (fun a c ha hc => ?_)), t2, y0.tr (t3.tr y5), Or.inl ⟨rfl, r5, w4 0 (by omega)⟩⟩
    have h9 := r4.left
    have h10 := r4.2.1.2.2.1
    obtain ⟨a1, rfl⟩ : ∃ a1, a = a1 + 1 := ⟨a - 1, by omega⟩
    obtain ⟨c1, rfl⟩ : ∃ c1, c = c1 + 1 := ⟨c - 1, by omega⟩
    exact m185_end r4.w
  · exact ⟨0, fd, fn, t1, hmod _ (t6 rfl), t2, y0.tr t3, Or.inr ⟨rfl, w4, a4⟩⟩
theorem m_exprW {f g : q_F} (hw : f 60 9 = 1) : p_Mod_expression f g = some (ma_up f 73 0 0, g) := by
  unfold p_Mod_expression p_Mod_expression_21
  simp only [q_let]
  have e : ma_up f 73 (Int.toNat 0) 0 60 9 = 1 := by simp [ma_up, hw]
  rw [if_neg (w1 e)]
  exact mA_end (a := 999)
