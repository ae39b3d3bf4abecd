/-! ===== expressions: class by recursion, reference by stacks ===== -/
def GoodT (d : Nat) (f g : q_F) (y : q_F × q_F) : Prop := ∀ a b : Nat, f 60 6 - f 60 8 < a → 6 < b + d → MB a b d (mch f) f g = some y
def GoodC (d : Nat) (f g : q_F) (y : q_F × q_F) : Prop := ∀ a c : Nat, f 60 6 - f 60 8 < a → d + 1 < c → MC a c d f g = some y
def Good2 (d : Nat) (f g : q_F) (y : q_F × q_F) : Prop := ∀ a c : Nat, f 60 6 - f 60 8 < a → d + 1 ≤ c → p_Mod_expression_152 (mA a) (mC a c) d f g = some y
def GoodE (d : Nat) (f g : q_F) (y : q_F × q_F) : Prop := ∀ a c : Nat, f 60 6 - f 60 8 < a → d + 1 ≤ c → p_Mod_expression_185 (mA a) (mC a c) d 0 d f g = some y
def PT (e d : Nat) : Prop := ∀ fc fm g : q_F, XR fc fm → ∃ b fd fn, p_Reader_term e d fc g = some (b, fd, g) ∧ XC 0 fc fd ∧ XM (d + 1) d fm fn ∧ TOut fc fd fm fn b ∧ (b = 1 → ∀ y, GoodC d fn g y → GoodT d fm g y) ∧ (b = 0 → GoodT d fm g (fn, g))
def PX (e d : Nat) : Prop := ∀ fc fm g : q_F, XR fc fm → fm 73 d = 0 → ∃ b fd fn, p_Reader_readExpression (p_Reader_term e) d fc g = some (b, fd, g) ∧ XC 0 fc fd ∧ XM d d fm fn ∧ TOut fc fd fm fn b ∧ (b = 1 → ∀ y, GoodE d fn g y → GoodT d fm g y) ∧ (b = 0 → GoodT d fm g (fn, g))
theorem XR.pend {fc fm : q_F} {d : Nat} {s : Int} (h : XR fc fm) : XR fc (ma_up fm 73 d s) ∧ XM d d fm (ma_up fm 73 d s) := by
  have e : ∀ a, a ≠ 73 → ma_up fm 73 d s a = fm a := fun a ha => ma_up_ne ha
  obtain ⟨a1, ⟨a2, a3, a4, a5⟩, a6, a7⟩ := h
  refine ⟨⟨?_, ⟨?_, a3, a4, ?_⟩, ?_, a7⟩, ⟨fun a _ _ _ c _ => e a c, fun k _ _ _ => by rw [e 60 (by decide)], fun j hj => ?_, fun j _ => by rw [e 74 (by decide)]⟩⟩
  · rw [e 66 (by decide), e 60 (by decide)]
    exact a1
  · rw [e 60 (by decide)]
    exact a2
  · rw [e 60 (by decide)]
    exact a5
  · rw [e 60 (by decide), e 70 (by decide), e 71 (by decide)]
    exact a6
  · show ma_up fm 73 d s 73 j = fm 73 j
    rw [ma_up_at (by omega)]
theorem XR.brk {fc fm : q_F} {d : Nat} {s : Int} (h : XR fc fm) : XR fc (ma_up fm 74 d s) ∧ ∀ p, XM p d fm (ma_up fm 74 d s) := by
  have e : ∀ a, a ≠ 74 → ma_up fm 74 d s a = fm a := fun a ha => ma_up_ne ha
  obtain ⟨a1, ⟨a2, a3, a4, a5⟩, a6, a7⟩ := h
  refine ⟨⟨?_, ⟨?_, a3, a4, ?_⟩, ?_, a7⟩, fun p => ⟨fun a _ _ _ _ c => e a c, fun k _ _ _ => by rw [e 60 (by decide)], fun j _ => by rw [e 73 (by decide)], fun j hj => ?_⟩⟩
  · rw [e 66 (by decide), e 60 (by decide)]
    exact a1
  · rw [e 60 (by decide)]
    exact a2
  · rw [e 60 (by decide)]
    exact a5
  · rw [e 60 (by decide), e 70 (by decide), e 71 (by decide)]
    exact a6
  · show ma_up fm 74 d s 74 j = fm 74 j
    rw [ma_up_at (by omega)]
theorem XR.left {fc fm : q_F} (h : XR fc fm) : fm 60 6 - fm 60 8 = fc 1 1 - fc 54 2 := by
  rw [h.1.2.1, h.2.1.1]
theorem PX_loop {e d : Nat} (hd : d ≤ 5) (hT : PT e d) : ∀ (k : Nat) (fc fm g : q_F) (fuel : Nat) (v2 : Int), XR fc fm → fc 1 1 - fc 54 2 ≤ k → k < fuel → 0 ≤ v2 → v2 ≤ fc 54 2 →
    ∃ b fd fn, p_Reader_readExpression_12 (p_Reader_term e) fuel d v2 fc g = some (b, fd, g) ∧ XC 0 fc fd ∧ XM d d fm fn ∧ ((b = 1 ∧ XR fd fn ∧ ∀ h, 1 ≤ h → WF (fd 12) (fc 11 2) (fd 11 2) h h) ∨ (b = 0 ∧ fn 60 9 = 1 ∧ fd 54 2 = fn 60 8)) ∧ (b = 1 → ∀ y, GoodE d fn g y → Good2 d fm g y) ∧ (b = 0 → Good2 d fm g (fn, g)) := by
  intro k
  induction k with
  | zero =>
    intro fc fm g fuel v2 h hk hf hv hv2
    obtain ⟨n, rfl⟩ : ∃ n, fuel = n + 1 := ⟨fuel - 1, by omega⟩
    have hb := cch_b h.c
    have hc0 : cch fc = 0 := by omega
    have hl := h.c.1.2.1
    have h160 := h.2.1.2.2.1
    refine ⟨1, fc, fm, ?_, XC.rf fc, XM.rf d d fm, Or.inl ⟨rfl, h, fun _ _ => WF.nil⟩, fun _ y hy a c ha hc => ?_, fun q => absurd q (by decide)⟩
    · rw [p_Reader_readExpression_12]
      unfold p_Reader_readExpression_91
      by_cases h16 : (160 : Int) ≤ v2
      · rw [if_pos (show q_sw 160 ≤ q_sw v2 by rw [q_swn (by omega), q_swn (by omega)]; exact h16)]
      · rw [if_neg (show ¬ q_sw 160 ≤ q_sw v2 by rw [q_swn (by omega), q_swn (by omega)]; exact h16), c_here h.c, Option.bind_some]
        dsimp only
        rw [hc0, if_neg (by decide), c_here h.c, Option.bind_some]
        dsimp only
        rw [hc0, if_neg (by decide)]
    · rw [m152_no h.m h.w (by rw [h.ch]; omega) (by rw [h.ch]; omega)]
      exact hy a c ha hc
  | succ k ih =>
    intro fc fm g fuel v2 h hk hf hv hv2
    obtain ⟨n, rfl⟩ : ∃ n, fuel = n + 1 := ⟨fuel - 1, by omega⟩
    have hb := cch_b h.c
    have hl := h.c.1.2.1
    have h160 := h.2.1.2.2.1
    by_cases hs : cch fc = 43 ∨ cch fc = 45
    · -- a sign, and a term behind it
      obtain ⟨s, hs5, hsc, hsg⟩ : ∃ s : Int, (s = 5 ∨ s = 6) ∧ (s = 5 ↔ cch fc = 43) ∧ ((s = 5 ∧ cch fc = 43) ∨ (s = 6 ∧ cch fc = 45)) := by
        rcases hs with c | c
        · exact ⟨5, Or.inl rfl, ⟨fun _ => c, fun _ => rfl⟩, Or.inl ⟨rfl, c⟩⟩
        · exact ⟨6, Or.inr rfl, ⟨fun q => absurd q (by decide), fun q => absurd (q.symm.trans c) (by decide)⟩, Or.inr ⟨rfl, c⟩⟩
      obtain ⟨r1, x1, y1⟩ := h.adv d d (by omega)
      obtain ⟨r2, y2⟩ := XR.pend (d := d) (s := s) r1
      have hcls : p_Reader_readExpression_12 (p_Reader_term e) (n + 1) d v2 fc g = p_Reader_readExpression_52 (p_Reader_term e) (p_Reader_readExpression_12 (p_Reader_term e) n) d v2 s fc g := by
        rw [p_Reader_readExpression_12, if_neg (show ¬ q_sw 160 ≤ q_sw v2 by rw [q_swn (by omega), q_swn (by omega)]; omega), c_here h.c, Option.bind_some]
        dsimp only
        rw [q_swn (show -2147483648 ≤ cch fc ∧ cch fc ≤ 2147483647 by omega), q_swn (show -2147483648 ≤ (43 : Int) ∧ (43 : Int) ≤ 2147483647 by omega), q_swn (show -2147483648 ≤ (45 : Int) ∧ (45 : Int) ≤ 2147483647 by omega)]
        unfold p_Reader_readExpression_37
        rcases hsg with ⟨c1, c2⟩ | ⟨c1, c2⟩
        · rw [if_pos c2, c_here h.c, Option.bind_some]
          dsimp only
          rw [if_pos (show q_sw (cch fc) = q_sw 43 by rw [c2]), c1]
        · rw [if_neg (show ¬ cch fc = 43 by omega), c_here h.c, Option.bind_some]
          dsimp only
          rw [q_swn (show -2147483648 ≤ cch fc ∧ cch fc ≤ 2147483647 by omega), if_pos c2, c_here h.c, Option.bind_some]
          dsimp only
          rw [if_neg (show ¬ q_sw (cch fc) = q_sw 43 by rw [c2]; decide), c1]
      have hmod : ∀ a c : Nat, fm 60 6 - fm 60 8 < a → d + 1 ≤ c → ∃ a1, a = a1 + 1 ∧ mSign fm d s 60 6 - mSign fm d s 60 8 < a1 ∧ p_Mod_expression_152 (mA a) (mC a c) d fm g = MB a1 1000 d (mch (mSign fm d s)) (mSign fm d s) g := by
        intro a c ha hc
        have hleft := h.left
        obtain ⟨a1, rfl⟩ : ∃ a1, a = a1 + 1 := ⟨a - 1, by omega⟩
        obtain ⟨c1, rfl⟩ : ∃ c1, c = c1 + 1 := ⟨c - 1, by omega⟩
        have e6 : mSign fm d s 60 6 = fm 60 6 := by simp [mSign, mAdv, ma_up]
        have e8 : mSign fm d s 60 8 = fm 60 8 + 1 := by simp [mSign, mAdv, ma_up]
        refine ⟨a1, rfl, by rw [e6, e8]; omega, ?_⟩
        rcases hsg with ⟨q1, q2⟩ | ⟨q1, q2⟩
        · rw [q1] at r2 ⊢
          exact m152_plus h.m h.w (by omega) (by rw [h.ch]; exact q2) r2.m
        · rw [q1] at r2 ⊢
          exact m152_minus h.m h.w (by omega) (by rw [h.ch]; exact q2) r2.m
      obtain ⟨b1, fd1, fn1, t1, t2, t3, t4, t5, t6⟩ := hT (cAdv fc) (mSign fm d s) g r2
      rw [hcls]
      unfold p_Reader_readExpression_52
      simp only [q_let]
      rw [show ma_up fc 54 2 (fc 54 2 + 1) = cAdv fc from rfl, t1, Option.bind_some]
      dsimp only
      rcases t4 with ⟨rfl, r3, w3⟩ | ⟨rfl, w3, a3⟩
      · have hx := x1.tr t2 (Int.le_refl _)
        have hm : fd1 11 2 < fd1 54 2 := by
          have := hx.2.2.2.2
          have := h.2.2.2
          omega
        have hn3 : fd1 1 1 ≤ 160 := r3.c.1.2.1
        have hn4 := r3.2.1.2.2.1
        have e1 : fd1 1 = fc 1 := (hx.1 1 (by decide) (by decide) (by decide) (by decide))
        obtain ⟨r4, x4, y4⟩ := r3.step (k := s) (v := 0) (V := 0) (d + 1) d (Or.inr (Or.inr (Or.inr (Or.inl hs5)))) hm
        rw [if_neg (show ¬ q_sw 1 = 0 by decide), c_add11 ⟨r3.m0, by omega⟩, Option.bind_some]
        have e54 : cStep fd1 s 0 54 2 = fd1 54 2 := by simp [cStep, ma_up]
        have e11 : cStep fd1 s 0 1 1 = fd1 1 1 := by simp [cStep, ma_up]
        have hadv : cAdv fc 54 2 = fc 54 2 + 1 := by simp [cAdv, ma_up]
        have hpl := t2.2.2.1
        obtain ⟨b2, fd2, fn2, u1, u2, u3, u4, u5, u6⟩ := ih (cStep fd1 s 0) (mStep fn1 s 0) g n (v2 + 1) r4 (by rw [e54, e11, e1]; omega) (by omega) (by omega) (by rw [e54]; omega)
        have hxx := hx.tr x4 (Int.le_refl _)
        refine ⟨b2, fd2, fn2, u1, hxx.tr u2 (by omega), ((y1.tr y2).tr (t3.less (by omega) (Nat.le_refl d))).tr ((y4.less (by omega) (Nat.le_refl d)).tr u3), ?_, fun hb1 y hy => ?_, fun hb0 => ?_⟩
        · rcases u4 with ⟨c1, c2, c3⟩ | c
          · refine Or.inl ⟨c1, c2, fun hh h1 => ?_⟩
            have hm0 : 0 ≤ fc 11 2 := h.m0
            have q1 : fc 11 2 ≤ fd1 11 2 := hx.2.2.2.1
            have q2 := u2.2.2.2.1
            rw [cStep_m] at q2
            have wA : WF (fd2 12) (fc 11 2) (fd1 11 2) hh (hh + 1) := by
              refine WF.ext hm0 q1 (fun j hj => ?_) (w3 hh (by omega))
              rw [(u2.2.1 j (by rw [cStep_m]; omega)).1]
              exact (x4.2.1 j hj).1
            have wB : WF (fd2 12) (fd1 11 2) (fd1 11 2 + 1) (hh + 1) (hh + 1 - 1) := by
              refine WF.bin (by omega) ?_ (by omega)
              rw [(u2.2.1 (fd1 11 2).toNat (by rw [cStep_m]; omega)).1, cStep_k]
              exact hs5
            have wC := c3 hh h1
            rw [cStep_m] at wC
            have wAB := WF.app hm0 q1 (by omega) wA wB
            rw [show hh + 1 - 1 = hh by omega] at wAB
            exact WF.app hm0 (by omega) (by omega) wAB wC
          · exact Or.inr c
        · intro a c ha hc
          obtain ⟨a1, rfl, ha1, e9⟩ := hmod a c ha hc
          rw [e9]
          refine t5 rfl y (fun a2 c2 ha2 hc2 => ?_) a1 1000 ha1 (by omega)
          obtain ⟨c3, rfl⟩ : ∃ c3, c2 = c3 + 1 := ⟨c2 - 1, by omega⟩
          have hp : fn1 73 d = s := by
            rw [t3.2.2.1 d (by omega)]
            simp [mSign, ma_up]
          rw [MC_emit r3.w (by omega) hp hs5 ⟨by rw [← r3.mm]; exact r3.m0, by rw [← r3.mm]; omega⟩]
          refine u5 hb1 y hy a2 c3 ?_ (by omega)
          have e6 : mStep fn1 s 0 60 6 = fn1 60 6 := by simp [mStep, ma_up]
          have e8 : mStep fn1 s 0 60 8 = fn1 60 8 := by simp [mStep, ma_up]
          rw [e6, e8]
          exact ha2
        · intro a c ha hc
          obtain ⟨a1, rfl, ha1, e9⟩ := hmod a c ha hc
          rw [e9]
          refine t5 rfl _ (fun a2 c2 ha2 hc2 => ?_) a1 1000 ha1 (by omega)
          obtain ⟨c3, rfl⟩ : ∃ c3, c2 = c3 + 1 := ⟨c2 - 1, by omega⟩
          have hp : fn1 73 d = s := by
            rw [t3.2.2.1 d (by omega)]
            simp [mSign, ma_up]
          rw [MC_emit r3.w (by omega) hp hs5 ⟨by rw [← r3.mm]; exact r3.m0, by rw [← r3.mm]; omega⟩]
          refine u6 hb0 a2 c3 ?_ (by omega)
          have e6 : mStep fn1 s 0 60 6 = fn1 60 6 := by simp [mStep, ma_up]
          have e8 : mStep fn1 s 0 60 8 = fn1 60 8 := by simp [mStep, ma_up]
          rw [e6, e8]
          exact ha2
      · rw [if_pos q_sw0]
        refine ⟨0, fd1, fn1, rfl, (x1.tr t2 (Int.le_refl _)).up (by omega), (y1.tr y2).tr (t3.less (by omega) (Nat.le_refl d)), Or.inr ⟨rfl, w3, a3⟩, fun q => absurd q (by decide), fun _ a c ha hc => ?_⟩
        obtain ⟨a1, rfl, ha1, e9⟩ := hmod a c ha hc
        rw [e9]
        exact t6 rfl a1 1000 ha1 (by omega)
    · -- no sign
      refine ⟨1, fc, fm, ?_, XC.rf fc, XM.rf d d fm, Or.inl ⟨rfl, h, fun _ _ => WF.nil⟩, fun _ y hy a c ha hc => ?_, fun q => absurd q (by decide)⟩
      · rw [p_Reader_readExpression_12]
        unfold p_Reader_readExpression_91
        by_cases h16 : (160 : Int) ≤ v2
        · rw [if_pos (show q_sw 160 ≤ q_sw v2 by rw [q_swn (by omega), q_swn (by omega)]; exact h16)]
        · rw [if_neg (show ¬ q_sw 160 ≤ q_sw v2 by rw [q_swn (by omega), q_swn (by omega)]; exact h16), c_here h.c, Option.bind_some]
          dsimp only
          rw [if_neg (show ¬ q_sw (cch fc) = q_sw 43 by rw [q_swn (by omega), q_swn (by omega)]; omega), c_here h.c, Option.bind_some]
          dsimp only
          rw [if_neg (show ¬ q_sw (cch fc) = q_sw 45 by rw [q_swn (by omega), q_swn (by omega)]; omega)]
      · rw [m152_no h.m h.w (by rw [h.ch]; omega) (by rw [h.ch]; omega)]
        exact hy a c ha hc
