/-! ===== brackets; expressions of any depth ===== -/
theorem XC.n {s : Int} {fc fd : q_F} (h : XC s fc fd) : fd 1 = fc 1 := h.1 1 (by decide) (by decide) (by decide) (by decide)
theorem PX_of {e d : Nat} (hd : d ≤ 5) (hT : PT e d) : PX e d := by
  intro fc fm g h hp
  obtain ⟨b1, fd1, fn1, t1, t2, t3, t4, t5, t6⟩ := hT fc fm g h
  unfold p_Reader_readExpression
  rw [t1, Option.bind_some]
  dsimp only
  rcases t4 with ⟨rfl, r3, w3⟩ | ⟨rfl, w3, a3⟩
  · rw [if_neg (show ¬ q_sw 1 = 0 by decide)]
    have hn3 : fd1 1 1 ≤ 160 := r3.c.1.2.1
    have hn4 := r3.2.1.2.1
    obtain ⟨b2, fd2, fn2, u1, u2, u3, u4, u5, u6⟩ := PX_loop hd hT (fd1 1 1 - fd1 54 2).toNat fd1 fn1 g 1000 0 r3 (by omega) (by omega) (by omega) hn4
    have hp1 : fn1 73 d = 0 := by rw [t3.2.2.1 d (by omega)]; exact hp
    have key : ∀ y, Good2 d fn1 g y → GoodT d fm g y := by
      intro y hy
      refine t5 rfl y (fun a c ha hc => ?_)
      obtain ⟨c1, rfl⟩ : ∃ c1, c = c1 + 1 := ⟨c - 1, by omega⟩
      rw [MC_go r3.w (by omega) hp1]
      exact hy a c1 ha (by omega)
    refine ⟨b2, fd2, fn2, u1, t2.tr u2 (by omega), (t3.less (by omega) (Nat.le_refl d)).tr u3, ?_, fun hb y hy => key y (u5 hb y hy), fun hb => key _ (u6 hb)⟩
    rcases u4 with ⟨c1, c2, c3⟩ | c
    · refine Or.inl ⟨c1, c2, fun hh h1 => ?_⟩
      refine WF.app h.m0 t2.2.2.2.1 u2.2.2.2.1 (WF.ext h.m0 t2.2.2.2.1 (fun j hj => (u2.2.1 j hj).1) (w3 hh h1)) (c3 (hh + 1) (by omega))
    · exact Or.inr c
  · rw [if_pos q_sw0]
    exact ⟨0, fd1, fn1, rfl, t2, t3.less (by omega) (Nat.le_refl d), Or.inr ⟨rfl, w3, a3⟩, fun q => absurd q (by decide), t6⟩
/-- a term without a bracket, the reference seen from the head of its loop -/
theorem PT_simple {d : Nat} (hd : d ≤ 5) (kk : Int → q_F → q_F → Option (Int × q_F × q_F)) {fc fm g : q_F} (h : XR fc fm) (hn1 : cch fc ≠ 40) (hn2 : cch fc ≠ 91) : ∃ b fd fn, p_Reader_readTerm kk d fc g = some (b, fd, g) ∧ XC 0 fc fd ∧ XM (d + 1) d fm fn ∧ TOut fc fd fm fn b ∧ (b = 1 → ∀ y, GoodC d fn g y → GoodT d fm g y) ∧ (b = 0 → GoodT d fm g (fn, g)) := by
  obtain ⟨b, fd, fn, e1, e2, e3, e4, e5⟩ := t_simple (g := g) (p := d + 1) (q := d) h kk d hn1 hn2
  have hb := cch_b h.c
  have hpl := e3.2.2.1
  refine ⟨b, fd, fn, e1, e3, e4, e5, fun hb1 y hy a b1 ha hb2 => ?_, fun hb0 a b1 ha hb2 => ?_⟩
  · obtain ⟨b2, rfl⟩ : ∃ b2, b1 = b2 + 1 := ⟨b1 - 1, by omega⟩
    rw [MB_simple h.w (by rw [h.ch]; omega) (by rw [h.ch]; exact hn1) (by rw [h.ch]; exact hn2), e2, Option.bind_some]
    rcases e5 with ⟨-, r, -⟩ | ⟨q, -⟩
    · refine hy a 1000 ?_ (by omega)
      rw [r.left, e3.n]
      rw [h.left] at ha
      omega
    · omega
  · obtain ⟨b2, rfl⟩ : ∃ b2, b1 = b2 + 1 := ⟨b1 - 1, by omega⟩
    rw [MB_simple h.w (by rw [h.ch]; omega) (by rw [h.ch]; exact hn1) (by rw [h.ch]; exact hn2), e2, Option.bind_some]
    rw [h.left] at ha
    obtain ⟨a1, rfl⟩ : ∃ a1, a = a1 + 1 := ⟨a - 1, by omega⟩
    rcases e5 with ⟨q, -⟩ | ⟨-, w, -⟩
    · omega
    · exact MC_w w
theorem PT_zero : PT 0 5 := by
  intro fc fm g h
  show ∃ b fd fn, p_Reader_readTerm (fun _ _ _ => none) (5 : Nat) fc g = some (b, fd, g) ∧ _
  have hb := cch_b h.c
  by_cases hk : cch fc = 40 ∨ cch fc = 91
  · obtain ⟨y2, w2, a2⟩ := XR.wr (p := 6) (q := 5) h
    refine ⟨0, fc, mWr fm, ?_, XC.rf fc, y2, Or.inr ⟨rfl, w2, a2⟩, fun q => absurd q (by decide), fun _ a b ha hb => ?_⟩
    · unfold p_Reader_readTerm p_Reader_readTerm_129 p_Reader_readTerm_130
      rw [c_letter0 h.c (by omega) (by omega) (by omega), Option.bind_some]
      dsimp only
      rw [if_pos (show q_sw (-1) < 0 by decide), c_here h.c, Option.bind_some]
      dsimp only
      rw [q_swn (show -2147483648 ≤ cch fc ∧ cch fc ≤ 2147483647 by omega), if_neg (show ¬ cch fc = 35 by omega)]
      have h5 : q_sw 5 ≤ q_sw ((5 : Nat) : Int) := by decide
      rcases hk with c | c
      · rw [if_pos c, if_pos h5, if_pos (by decide)]
      · rw [if_neg (show ¬ cch fc = 40 by omega), if_neg (show ¬ cch fc = 47 by omega), if_pos c, if_pos h5, if_pos (by decide)]
    · rw [h.left] at ha
      have := h.2.1.2.2.1
      obtain ⟨a1, rfl⟩ : ∃ a1, a = a1 + 1 := ⟨a - 1, by omega⟩
      obtain ⟨b1, rfl⟩ : ∃ b1, b = b1 + 2 := ⟨b - 2, by omega⟩
      exact MB_deep h.m h.w (by rw [h.ch]; exact hk)
  · exact PT_simple (Nat.le_refl 5) _ h (fun q => hk (Or.inl q)) (fun q => hk (Or.inr q))
theorem MC_w' {f g : q_F} {a c d : Nat} (hw : f 60 9 = 1) (ha : 0 < a) (hc : 0 < c) : MC a c d f g = some (f, g) := by
  obtain ⟨a1, rfl⟩ : ∃ a1, a = a1 + 1 := ⟨a - 1, by omega⟩
  obtain ⟨c1, rfl⟩ : ∃ c1, c = c1 + 1 := ⟨c - 1, by omega⟩
  exact MC_w hw
/-- what stands behind an expression in brackets -/
def CloseC (fc : q_F) (g : q_F) (s0 : Int) : Option (Int × q_F × q_F) :=
  if q_sw s0 = 0 then
    (p_Reader_skip (41) fc g).bind fun x20 =>
    if x20.1 = 0 ∨ x20.1 = 1 then
      some (x20.1, x20.2.1, x20.2.2)
    else none
  else
    (p_Reader_skip (44) fc g).bind fun x6 =>
    if q_sw x6.1 = 0 then
      some (0, x6.2.1, x6.2.2)
    else
      (p_Reader_readNumber  x6.2.1 x6.2.2).bind fun x9 =>
      if q_sw x9.1 = 0 then
        some (0, x9.2.1, x9.2.2)
      else
        (p_Desk_isAlignment (x9.2.1 54 3) (64) x9.2.1 x9.2.2).bind fun x12 =>
        if q_sw x12.1 = 0 then
          some (0, x12.2.1, x12.2.2)
        else
          (p_Rows_add_11 (7) (x12.2.1 54 3) x12.2.1 x12.2.2).bind fun x15 =>
          (p_Reader_skip (93) x15.1 x15.2).bind fun x17 =>
          if x17.1 = 0 ∨ x17.1 = 1 then
            some (x17.1, x17.2.1, x17.2.2)
          else none
theorem t_close {fc fm g : q_F} {d : Nat} (hd : d < 5) (h : XR fc fm) {k : Int} (hk : k = 40 ∨ k = 91) (hb : fm 74 d = k) :
    ∃ b fd fn, CloseC fc g (if k = 91 then 1 else 0) = some (b, fd, g) ∧ XC 0 fc fd ∧ XM (d + 1) d fm fn ∧ ((b = 1 ∧ XR fd fn ∧ ∀ h, 1 ≤ h → WF (fd 12) (fc 11 2) (fd 11 2) h h) ∨ (b = 0 ∧ fn 60 9 = 1 ∧ fd 54 2 = fn 60 8)) ∧ (b = 1 → ∀ y, GoodC d fn g y → GoodE (d + 1) fm g y) ∧ (b = 0 → GoodE (d + 1) fm g (fn, g)) := by
  obtain ⟨F, hF⟩ : ∃ F, F = ma_up fm 73 (d + 1) 0 := ⟨_, rfl⟩
  obtain ⟨r0, y0⟩ := XR.pend (d := d + 1) (s := 0) h
  rw [← hF] at r0 y0
  have y0 : XM (d + 1) d fm F := y0.less (Nat.le_refl _) (by omega)
  have hbF : F 74 d = k := by rw [hF, show ma_up fm 73 (d + 1) 0 74 = fm 74 from ma_up_ne (by decide)]; exact hb
  have hleft : fm 60 6 - fm 60 8 = F 60 6 - F 60 8 := by rw [h.left, r0.left]
  have hn160 : fc 1 1 ≤ 160 := h.c.1.2.1
  have hpn := h.2.1.2.2.1
  have hE : ∀ {a c : Nat}, p_Mod_expression_185 (mA a) (mC a c) ((d + 1 : Nat) : Int) 0 ((d + 1 : Nat) : Int) fm g = p_Mod_expression_204 (mA a) (mC a c) ((d + 1 : Nat) : Int) 1 F g := fun {a c} => m185_close hF hd
  unfold CloseC
  rcases hk with rfl | rfl
  · -- round
    rw [if_pos (show q_sw (if (40 : Int) = 91 then 1 else 0) = 0 by decide)]
    by_cases hc : cch fc = 41
    · obtain ⟨r1, x1, y1⟩ := r0.adv (d + 1) d (by omega)
      refine ⟨1, cAdv fc, mAdv F, ?_, x1.up (by omega), y0.tr y1, Or.inl ⟨rfl, r1, fun _ _ => WF.nil⟩, fun _ y hy a c ha hc2 => ?_, fun q => absurd q (by decide)⟩
      · rw [c_skip1 h.c (by omega) hc, Option.bind_some]
        dsimp only
        rw [if_pos (by decide)]
      · rw [hE, m204_round hd hbF, m_take1 r0.m r0.w (by omega) (by rw [r0.ch]; exact hc), Option.bind_some]
        refine hy a c ?_ (by omega)
        rw [r1.left]
        rw [h.left] at ha
        have e1 : cAdv fc 1 1 = fc 1 1 := rfl
        have e2 : cAdv fc 54 2 = fc 54 2 + 1 := by simp [cAdv, ma_up]
        omega
    · obtain ⟨y2, w2, a2⟩ := XR.wr (p := d + 1) (q := d) r0
      refine ⟨0, fc, mWr F, ?_, XC.rf fc, y0.tr y2, Or.inr ⟨rfl, w2, a2⟩, fun q => absurd q (by decide), fun _ a c ha hc2 => ?_⟩
      · rw [c_skip0 h.c (by omega) hc, Option.bind_some]
        dsimp only
        rw [if_pos (by decide)]
      · rw [hE, m204_round hd hbF, m_take0 r0.m r0.w (by omega) (by rw [r0.ch]; exact hc), Option.bind_some]
        rw [h.left] at ha
        exact MC_w' w2 (by omega) (by omega)
  · -- square
    rw [if_neg (show ¬ q_sw (if (91 : Int) = 91 then 1 else 0) = 0 by decide)]
    by_cases hc : cch fc = 44
    · obtain ⟨r1, x1, y1⟩ := r0.adv (d + 1) d (by omega)
      have hr := cdg_r r1.c
      have hb1 : mAdv F 74 d = 91 := by rw [show mAdv F 74 = F 74 from ma_up_ne (by decide)]; exact hbF
      rw [c_skip1 h.c (by omega) hc, Option.bind_some]
      dsimp only
      rw [if_neg (show ¬ q_sw 1 = 0 by decide), c_num r1.c, Option.bind_some]
      dsimp only
      have e3 : cNum (cAdv fc) (cdg (cAdv fc)) 54 3 = (cdg (cAdv fc)).1 := by simp [cNum, ma_up]
      have e9 : cNum (cAdv fc) (cdg (cAdv fc)) 54 2 = (cdg (cAdv fc)).2 := by simp [cNum, ma_up]
      have hmod : ∀ {a c : Nat}, p_Mod_expression_185 (mA a) (mC a c) ((d + 1 : Nat) : Int) 0 ((d + 1 : Nat) : Int) fm g = p_Mod_expression_246 (mA a) (mC a c) d 1 (mdg (mAdv F)).1 (if mAdv F 60 8 < (mdg (mAdv F)).2 ∧ pw64 (mdg (mAdv F)).1 then mSet (mAdv F) (mdg (mAdv F)).2 else mWr (mSet (mAdv F) (mdg (mAdv F)).2)) g := by
        intro a c
        rw [hE, m204_square hd hbF, m_take1 r0.m r0.w (by omega) (by rw [r0.ch]; exact hc), Option.bind_some]
        dsimp only
        rw [if_pos (w0 r1.w), m_al r1.m r1.w, Option.bind_some]
      by_cases hgood : cAdv fc 54 2 < (cdg (cAdv fc)).2 ∧ pw64 (cdg (cAdv fc)).1
      · obtain ⟨r2, x2, y2⟩ := r1.num (d + 1) d hgood.1
        have hxx := x1.tr x2 (Int.le_refl _)
        have hm : cNum (cAdv fc) (cdg (cAdv fc)) 11 2 < cNum (cAdv fc) (cdg (cAdv fc)) 54 2 := by
          have := hxx.2.2.2.2
          have := h.2.2.2
          omega
        have hn1 := r2.2.1.2.2.1
        have hn2 : cNum (cAdv fc) (cdg (cAdv fc)) 1 1 ≤ 160 := r2.c.1.2.1
        obtain ⟨r3, x3, y3⟩ := r2.step (k := 7) (v := (cdg (cAdv fc)).1) (V := (mdg (mAdv F)).1) (d + 1) d (Or.inr (Or.inr (Or.inr (Or.inr ⟨rfl, by rw [r1.dg], hgood.2⟩)))) hm
        have hcond : mAdv F 60 8 < (mdg (mAdv F)).2 ∧ pw64 (mdg (mAdv F)).1 := by
          rw [r1.dg, ← r1.2.1.1]
          exact hgood
        have hemit : p_Mod_emit 7 (mdg (mAdv F)).1 (mSet (mAdv F) (mdg (mAdv F)).2) g = some (mStep (mSet (mAdv F) (mdg (mAdv F)).2) 7 (mdg (mAdv F)).1, g) := m_emit r2.w ⟨by rw [← r2.mm]; exact r2.m0, by rw [← r2.mm]; omega⟩
        have hbS : mStep (mSet (mAdv F) (mdg (mAdv F)).2) 7 (mdg (mAdv F)).1 74 d = 91 := by
          rw [(y2.tr y3).1 |> fun _ => show mStep (mSet (mAdv F) (mdg (mAdv F)).2) 7 (mdg (mAdv F)).1 74 = mAdv F 74 from by unfold mStep mSet; rw [ma_up_ne (by decide), ma_up_ne (by decide), ma_up_ne (by decide), ma_up_ne (by decide)]]
          exact hb1
        rw [if_pos hgood.1, if_neg (show ¬ q_sw 1 = 0 by decide), e3, c_isAl64 (by omega), Option.bind_some]
        dsimp only
        rw [if_neg (show ¬ q_sw (if pw64 (cdg (cAdv fc)).1 then 1 else 0) = 0 by rw [if_pos hgood.2]; decide), e3, c_add11 ⟨r2.m0, by omega⟩, Option.bind_some]
        dsimp only
        have hwf : ∀ (hh : Int) (fd : q_F), fd 12 = cStep (cNum (cAdv fc) (cdg (cAdv fc))) 7 (cdg (cAdv fc)).1 12 → fd 11 = cStep (cNum (cAdv fc) (cdg (cAdv fc))) 7 (cdg (cAdv fc)).1 11 → 1 ≤ hh → WF (fd 12) (fc 11 2) (fd 11 2) hh hh := by
          intro hh fd q1 q2 h1
          have q3 : cNum (cAdv fc) (cdg (cAdv fc)) 11 2 = fc 11 2 := rfl
          rw [q1, q2, cStep_m, q3]
          refine WF.rai h.m0 ?_ h1
          rw [← q3, cStep_k]
        have hmod2 : ∀ {a c : Nat}, p_Mod_expression_185 (mA a) (mC a c) ((d + 1 : Nat) : Int) 0 ((d + 1 : Nat) : Int) fm g = (p_Mod_take 93 (mStep (mSet (mAdv F) (mdg (mAdv F)).2) 7 (mdg (mAdv F)).1) g).bind fun x => MC a c d x.1 x.2 := by
          intro a c
          rw [hmod, if_pos hcond, m246_square hd (fun x hx => by rw [hemit] at hx; cases Option.some.inj hx; exact hbS), hemit, Option.bind_some]
        by_cases hc3 : cch (cStep (cNum (cAdv fc) (cdg (cAdv fc))) 7 (cdg (cAdv fc)).1) = 93
        · obtain ⟨r4, x4, y4⟩ := r3.adv (d + 1) d (by omega)
          refine ⟨1, _, _, ?_, (hxx.tr x3 (Int.le_refl _)).tr x4 (by omega), y0.tr (y1.tr (y2.tr (y3.tr y4))), Or.inl ⟨rfl, r4, fun hh h1 => hwf hh _ rfl rfl h1⟩, fun _ y hy a c ha hc2 => ?_, fun q => absurd q (by decide)⟩
          · rw [c_skip1 r3.c (by omega) hc3, Option.bind_some]
            dsimp only
            rw [if_pos (by decide)]
          · rw [hmod2, m_take1 r3.m r3.w (by omega) (by rw [r3.ch]; exact hc3), Option.bind_some]
            refine hy a c ?_ (by omega)
            rw [r4.left]
            rw [h.left] at ha
            have q1 := ((hxx.tr x3 (Int.le_refl _)).tr x4 (Int.le_refl _)).n
            have q2 := ((hxx.tr x3 (Int.le_refl _)).tr x4 (Int.le_refl _)).2.2.1
            rw [q1]
            omega
        · obtain ⟨y5, w5, a5⟩ := XR.wr (p := d + 1) (q := d) r3
          refine ⟨0, _, _, ?_, (hxx.tr x3 (Int.le_refl _)).up (by omega), y0.tr (y1.tr (y2.tr (y3.tr y5))), Or.inr ⟨rfl, w5, a5⟩, fun q => absurd q (by decide), fun _ a c ha hc2 => ?_⟩
          · rw [c_skip0 r3.c (by omega) hc3, Option.bind_some]
            dsimp only
            rw [if_pos (by decide)]
          · rw [hmod2, m_take0 r3.m r3.w (by omega) (by rw [r3.ch]; exact hc3), Option.bind_some]
            rw [h.left] at ha
            exact MC_w' w5 (by omega) (by omega)
      · -- no alignment
        have hcond : ¬ (mAdv F 60 8 < (mdg (mAdv F)).2 ∧ pw64 (mdg (mAdv F)).1) := by
          rw [r1.dg, ← r1.2.1.1]
          exact hgood
        have h1 := XR.move (fd := cNum (cAdv fc) (cdg (cAdv fc))) (i := (cdg (cAdv fc)).2) (d + 1) d r1 (fun a ha => by unfold cNum; rw [ma_up_ne ha, ma_up_ne ha]) e9 (by omega) (by omega)
        rw [show mSet (mAdv F) (cdg (cAdv fc)).2 = mSet (mAdv F) (mdg (mAdv F)).2 by rw [r1.dg]] at h1
        obtain ⟨y5, w5, a5⟩ := XR.wr (p := d + 1) (q := d) h1.1
        have hx : XC 0 fc (cNum (cAdv fc) (cdg (cAdv fc))) := x1.tr h1.2.1 (by omega)
        refine ⟨0, cNum (cAdv fc) (cdg (cAdv fc)), mWr (mSet (mAdv F) (mdg (mAdv F)).2), ?_, hx, y0.tr (y1.tr (h1.2.2.tr y5)), Or.inr ⟨rfl, w5, a5⟩, fun q => absurd q (by decide), fun _ a c ha hc2 => ?_⟩
        · by_cases hp : cAdv fc 54 2 < (cdg (cAdv fc)).2
          · have hnp : ¬ pw64 (cdg (cAdv fc)).1 := fun q => hgood ⟨hp, q⟩
            rw [if_pos hp, if_neg (show ¬ q_sw 1 = 0 by decide), e3, c_isAl64 (by omega), Option.bind_some]
            dsimp only
            rw [if_pos (show q_sw (if pw64 (cdg (cAdv fc)).1 then 1 else 0) = 0 by rw [if_neg hnp]; exact q_sw0)]
          · rw [if_neg hp, if_pos q_sw0]
        · rw [hmod, if_neg hcond, m246_square hd (fun x hx => by rw [m_emitW w5] at hx; cases Option.some.inj hx; show mWr (mSet (mAdv F) (mdg (mAdv F)).2) 74 d = 91; rw [show mWr (mSet (mAdv F) (mdg (mAdv F)).2) 74 = mAdv F 74 from by unfold mWr mSet; rw [ma_up_ne (by decide), ma_up_ne (by decide)]]; exact hb1), m_emitW w5, Option.bind_some]
          dsimp only
          rw [m_takeW w5, Option.bind_some]
          rw [h.left] at ha
          exact MC_w' w5 (by omega) (by omega)
    · obtain ⟨y2, w2, a2⟩ := XR.wr (p := d + 1) (q := d) r0
      refine ⟨0, fc, mWr F, ?_, XC.rf fc, y0.tr y2, Or.inr ⟨rfl, w2, a2⟩, fun q => absurd q (by decide), fun _ a c ha hc2 => ?_⟩
      · rw [c_skip0 h.c (by omega) hc, Option.bind_some]
        dsimp only
        rw [if_pos q_sw0]
      · rw [hE, m204_square hd hbF, m_take0 r0.m r0.w (by omega) (by rw [r0.ch]; exact hc), Option.bind_some]
        dsimp only
        rw [if_neg (w1 w2), m246_square hd (fun x hx => by rw [m_emitW w2] at hx; cases Option.some.inj hx; show mWr F 74 d = 91; rw [show mWr F 74 = F 74 from ma_up_ne (by decide)]; exact hbF), m_emitW w2, Option.bind_some]
        dsimp only
        rw [m_takeW w2, Option.bind_some]
        rw [h.left] at ha
        exact MC_w' w2 (by omega) (by omega)
