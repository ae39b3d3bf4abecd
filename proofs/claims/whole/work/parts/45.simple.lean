/-! ===== rows of steps as postfix; a term without brackets ===== -/
def wfs (K : Nat → Int) : Nat → Nat → Int → Int → Prop
  | 0, _, h, h' => h = h'
  | n + 1, a, h, h' => (K a ≤ 4 ∧ wfs K n (a + 1) (h + 1) h') ∨ ((K a = 5 ∨ K a = 6) ∧ 2 ≤ h ∧ wfs K n (a + 1) (h - 1) h') ∨ (K a = 7 ∧ 1 ≤ h ∧ wfs K n (a + 1) h h')
theorem wfs_app {K : Nat → Int} {n2 : Nat} {h2 : Int} : ∀ (n a : Nat) (h h1 : Int), wfs K n a h h1 → wfs K n2 (a + n) h1 h2 → wfs K (n + n2) a h h2 := by
  intro n
  induction n with
  | zero =>
    intro a h h1 q1 q2
    have q1 : h = h1 := q1
    subst q1
    rw [Nat.zero_add]
    exact q2
  | succ n ih =>
    intro a h h1 q1 q2
    rw [show n + 1 + n2 = (n + n2) + 1 by omega]
    rw [show a + (n + 1) = a + 1 + n by omega] at q2
    rcases q1 with ⟨c1, c2⟩ | ⟨c1, c2, c3⟩ | ⟨c1, c2, c3⟩
    · exact Or.inl ⟨c1, ih _ _ _ c2 q2⟩
    · exact Or.inr (Or.inl ⟨c1, c2, ih _ _ _ c3 q2⟩)
    · exact Or.inr (Or.inr ⟨c1, c2, ih _ _ _ c3 q2⟩)
theorem wfs_ext {K K2 : Nat → Int} : ∀ (n a : Nat) (h h1 : Int), (∀ j, a ≤ j → j < a + n → K2 j = K j) → wfs K n a h h1 → wfs K2 n a h h1 := by
  intro n
  induction n with
  | zero => intro a h h1 _ q; exact q
  | succ n ih =>
    intro a h h1 he q
    have e0 := he a (Nat.le_refl a) (by omega)
    have e1 : ∀ j, a + 1 ≤ j → j < a + 1 + n → K2 j = K j := fun j c1 c2 => he j (by omega) (by omega)
    rcases q with ⟨c1, c2⟩ | ⟨c1, c2, c3⟩ | ⟨c1, c2, c3⟩
    · exact Or.inl ⟨by rw [e0]; exact c1, ih _ _ _ e1 c2⟩
    · exact Or.inr (Or.inl ⟨by rw [e0]; exact c1, c2, ih _ _ _ e1 c3⟩)
    · exact Or.inr (Or.inr ⟨by rw [e0]; exact c1, c2, ih _ _ _ e1 c3⟩)
def WF (K : Nat → Int) (m m2 h h2 : Int) : Prop := wfs K (m2 - m).toNat m.toNat h h2
theorem WF.app {K : Nat → Int} {m m1 m2 h h1 h2 : Int} (hm : 0 ≤ m) (h01 : m ≤ m1) (h12 : m1 ≤ m2) (q1 : WF K m m1 h h1) (q2 : WF K m1 m2 h1 h2) : WF K m m2 h h2 := by
  unfold WF at *
  rw [show (m2 - m).toNat = (m1 - m).toNat + (m2 - m1).toNat by omega]
  refine wfs_app _ _ _ _ q1 ?_
  rw [show m.toNat + (m1 - m).toNat = m1.toNat by omega]
  exact q2
theorem WF.ext {K K2 : Nat → Int} {m m1 h h1 : Int} (hm : 0 ≤ m) (h01 : m ≤ m1) (he : ∀ j : Nat, (j : Int) < m1 → K2 j = K j) (q : WF K m m1 h h1) : WF K2 m m1 h h1 :=
  wfs_ext _ _ _ _ (fun j c1 c2 => he j (by omega)) q
theorem WF.nil {K : Nat → Int} {m h : Int} : WF K m m h h := by
  unfold WF
  rw [Int.sub_self]
  exact rfl
theorem WF.push {K : Nat → Int} {m h : Int} (hm : 0 ≤ m) (hk : K m.toNat ≤ 4) : WF K m (m + 1) h (h + 1) := by
  unfold WF
  rw [show (m + 1 - m).toNat = 1 by omega]
  exact Or.inl ⟨hk, rfl⟩
theorem WF.bin {K : Nat → Int} {m h : Int} (hm : 0 ≤ m) (hk : K m.toNat = 5 ∨ K m.toNat = 6) (hh : 2 ≤ h) : WF K m (m + 1) h (h - 1) := by
  unfold WF
  rw [show (m + 1 - m).toNat = 1 by omega]
  exact Or.inr (Or.inl ⟨hk, hh, rfl⟩)
theorem WF.rai {K : Nat → Int} {m h : Int} (hm : 0 ≤ m) (hk : K m.toNat = 7) (hh : 1 ≤ h) : WF K m (m + 1) h h := by
  unfold WF
  rw [show (m + 1 - m).toNat = 1 by omega]
  exact Or.inr (Or.inr ⟨hk, hh, rfl⟩)
theorem cStep_k {f : q_F} {k v : Int} : cStep f k v 12 (f 11 2).toNat = k := by simp [cStep, ma_up]
theorem cStep_m {f : q_F} {k v : Int} : cStep f k v 11 2 = f 11 2 + 1 := by simp [cStep, ma_up]
theorem dgt_pos {tx : Nat → Int} {n i v : Int} {k : Nat} (h : tOK tx n) (hi : 0 ≤ i) (hv : 0 ≤ v) (hd : 48 ≤ chr tx n i ∧ chr tx n i ≤ 57) : i < (dgt tx n (k + 1) i v).2 := by
  have hb := chr_b h hi
  simp only [dgt]
  rw [if_pos hd]
  have := (dgt_r h k (i + 1) (v * 10 + chr tx n i - 48) (by omega) (by omega) (by omega)).1
  omega
theorem dgt_no {tx : Nat → Int} {n i v : Int} {k : Nat} (hd : ¬ (48 ≤ chr tx n i ∧ chr tx n i ≤ 57)) : dgt tx n (k + 1) i v = (v, i) := by
  simp only [dgt]
  rw [if_neg hd]
/-- what a term gives, on both sides -/
def TOut (fc fd fm fn : q_F) (b : Int) : Prop := (b = 1 ∧ XR fd fn ∧ ∀ h, 0 ≤ h → WF (fd 12) (fc 11 2) (fd 11 2) h (h + 1)) ∨ (b = 0 ∧ fn 60 9 = 1 ∧ fd 54 2 = fn 60 8)
section SI
variable {fc fm g : q_F} {p q : Nat}
theorem XR.wr (h : XR fc fm) : XM p q fm (mWr fm) ∧ mWr fm 60 9 = 1 ∧ fc 54 2 = mWr fm 60 8 := by
  refine ⟨⟨fun a c1 _ _ _ _ => ma_up_ne c1, fun k _ c2 _ => by simp [mWr, ma_up, c2], fun j _ => ?_, fun j _ => ?_⟩, by simp [mWr, ma_up], ?_⟩
  · rw [show mWr fm 73 = fm 73 from ma_up_ne (by decide)]
  · rw [show mWr fm 74 = fm 74 from ma_up_ne (by decide)]
  · rw [h.2.1.1]
    simp [mWr, ma_up]
theorem XR.m0 (h : XR fc fm) : 0 ≤ fc 11 2 := h.2.2.1.2.1
theorem XR.mm (h : XR fc fm) : fc 11 2 = fm 60 14 := h.2.2.1.1
/-- an item of one row, made of a letter -/
theorem t_of (h : XR fc fm) {s : Int} (hs : s = 2 ∨ s = 3 ∨ s = 4) (hc : cch fc ≠ 0) : ∃ b fd fn, p_Reader_readOfSection s fc g = some (b, fd, g) ∧ p_Mod_simple_66 s (mAdv fm) g = some (fn, g) ∧ XC 0 fc fd ∧ XM p q fm fn ∧ TOut fc fd fm fn b := by
  obtain ⟨r1, x1, y1⟩ := h.adv p q hc
  have h0 := h.2.2.2
  have n1 : (cAdv fc) 1 1 ≤ 160 := r1.c.1.2.1
  unfold p_Reader_readOfSection p_Mod_simple_66 p_Mod_simple_96
  simp only [q_let]
  rw [if_neg (show ¬ q_sw s = q_sw 1 by rw [q_swn (by omega), q_sw1]; omega)]
  rw [show ma_up fc 54 2 (fc 54 2 + 1) = cAdv fc from rfl]
  by_cases hl : 65 ≤ cch (cAdv fc) ∧ cch (cAdv fc) < 65 + 8
  · rw [c_letter1 r1.c (by omega) (by omega) hl.1 hl.2, m_letter1 r1.m r1.w (by omega) (by omega) (by rw [r1.ch]; exact hl.1) (by rw [r1.ch]; exact hl.2), r1.ch, Option.bind_some, Option.bind_some]
    obtain ⟨r2, x2, y2⟩ := r1.adv p q (by omega)
    have hm : cAdv (cAdv fc) 11 2 < cAdv (cAdv fc) 54 2 := by
      have := (x1.tr x2 (Int.le_refl _)).2.2.2.2
      omega
    have hn := r2.2.1.2.2.1
    have hn2 : cAdv (cAdv fc) 1 1 ≤ 160 := r2.c.1.2.1
    obtain ⟨r3, x3, y3⟩ := r2.step (k := s) (v := cch (cAdv fc) - 65) (V := cch (cAdv fc) - 65) p q (Or.inr (Or.inr (Or.inl ⟨hs, rfl, by omega, by omega⟩))) hm
    dsimp only
    rw [if_pos (show 0 ≤ q_sw (cch (cAdv fc) - 65) by rw [q_swn (by omega)]; omega)]
    rw [show ma_up (cAdv fc) 54 2 (cAdv fc 54 2 + 1) = cAdv (cAdv fc) from rfl, c_add11 ⟨r2.m0, by omega⟩, m_emit r2.w ⟨by rw [← r2.mm]; exact r2.m0, by rw [← r2.mm]; omega⟩]
    refine ⟨1, _, _, rfl, rfl, (x1.tr x2 (Int.le_refl _)).tr x3 (by omega), (y1.tr y2).tr y3, Or.inl ⟨rfl, r3, fun hh _ => ?_⟩⟩
    have e1 : cAdv (cAdv fc) 11 2 = fc 11 2 := rfl
    dsimp only
    rw [cStep_m, e1]
    refine WF.push h.m0 ?_
    rw [← e1, cStep_k]
    omega
  · rw [c_letter0 r1.c (by omega) (by omega) hl, m_letter0 r1.m r1.w (by omega) (by omega) (by rw [r1.ch]; exact hl), Option.bind_some, Option.bind_some]
    obtain ⟨y2, w2, a2⟩ := XR.wr (p := p) (q := q) r1
    dsimp only
    rw [if_neg (show ¬ 0 ≤ q_sw (-1) by decide), m_emitW w2]
    exact ⟨0, _, _, rfl, rfl, x1.up (by omega), y1.tr y2, Or.inr ⟨rfl, w2, a2⟩⟩
/-- a term that begins with no bracket -/
theorem t_simple (h : XR fc fm) (kk : Int → q_F → q_F → Option (Int × q_F × q_F)) (d : Int) (hn1 : cch fc ≠ 40) (hn2 : cch fc ≠ 91) : ∃ b fd fn, p_Reader_readTerm kk d fc g = some (b, fd, g) ∧ p_Mod_simple fm g = some (fn, g) ∧ XC 0 fc fd ∧ XM p q fm fn ∧ TOut fc fd fm fn b := by
  have hb := cch_b h.c
  have h0 := h.2.2.2
  unfold p_Reader_readTerm p_Mod_simple
  rw [m_see h.m, h.ch, Option.bind_some]
  dsimp only
  rw [m_within (by omega) (by omega) (by omega), Option.bind_some]
  dsimp only
  by_cases hi : 105 ≤ cch fc ∧ cch fc < 105 + 18
  · -- a symbol
    rw [c_letter1 h.c (by omega) (by omega) hi.1 hi.2, Option.bind_some]
    dsimp only
    rw [if_neg (show ¬ q_sw (cch fc - 105) < 0 by rw [q_swn (by omega)]; omega), if_pos (show q_sw (if 48 ≤ cch fc ∧ cch fc ≤ 57 then 1 else 0) = 0 by rw [if_neg (by omega)]; exact q_sw0)]
    rw [m_takes0 h.m h.w (by omega) (by rw [h.ch]; omega), Option.bind_some]
    dsimp only
    rw [if_pos q_sw0, m_takes0 h.m h.w (by omega) (by rw [h.ch]; omega), Option.bind_some]
    dsimp only
    rw [if_pos q_sw0, m_takes0 h.m h.w (by omega) (by rw [h.ch]; omega), Option.bind_some]
    dsimp only
    rw [if_pos q_sw0]
    unfold p_Mod_simple_66 p_Mod_simple_96
    rw [if_pos rfl, m_letter1 h.m h.w (by omega) (by omega) (by rw [h.ch]; exact hi.1) (by rw [h.ch]; exact hi.2), h.ch, Option.bind_some]
    obtain ⟨r1, x1, y1⟩ := h.adv p q (by omega)
    have hm : cAdv fc 11 2 < cAdv fc 54 2 := by
      have := x1.2.2.2.2
      omega
    have hn := r1.2.1.2.2.1
    have hn3 : cAdv fc 1 1 ≤ 160 := r1.c.1.2.1
    obtain ⟨r3, x3, y3⟩ := r1.step (k := 1) (v := cch fc - 105) (V := 8 + (cch fc - 105)) p q (Or.inr (Or.inl ⟨rfl, by omega, by omega, by omega⟩)) hm
    simp only [q_let]
    rw [show ma_up fc 54 2 (fc 54 2 + 1) = cAdv fc from rfl, c_add11 ⟨r1.m0, by omega⟩, m_emit r1.w ⟨by rw [← r1.mm]; exact r1.m0, by rw [← r1.mm]; omega⟩]
    refine ⟨1, _, _, rfl, rfl, x1.tr x3 (by omega), y1.tr y3, Or.inl ⟨rfl, r3, fun hh _ => ?_⟩⟩
    have e1 : cAdv fc 11 2 = fc 11 2 := rfl
    dsimp only
    rw [cStep_m, e1]
    refine WF.push h.m0 ?_
    rw [← e1, cStep_k]
    omega
  · rw [c_letter0 h.c (by omega) (by omega) hi, Option.bind_some]
    dsimp only
    rw [if_pos (show q_sw (-1) < 0 by decide), c_here h.c, Option.bind_some]
    dsimp only
    rw [q_swn (show -2147483648 ≤ cch fc ∧ cch fc ≤ 2147483647 by omega)]
    by_cases hd : 48 ≤ cch fc ∧ cch fc ≤ 57
    · -- a number
      have hpos : fc 54 2 < (cdg fc).2 := dgt_pos h.c.1 h.c.2.1 (by omega) hd
      have hr := cdg_r h.c
      rw [if_neg (show ¬ cch fc = 35 by omega), if_neg (show ¬ cch fc = 40 by omega), if_neg (show ¬ cch fc = 47 by omega), if_neg (show ¬ cch fc = 91 by omega), if_neg (show ¬ cch fc = 124 by omega), if_neg (show ¬ q_sw (if 48 ≤ cch fc ∧ cch fc ≤ 57 then 1 else 0) = 0 by rw [if_pos hd]; decide)]
      rw [c_num h.c, m_num h.m h.w, if_pos hpos, if_pos (show fm 60 8 < (mdg fm).2 by rw [h.dg, ← h.2.1.1]; exact hpos), Option.bind_some, Option.bind_some]
      dsimp only
      obtain ⟨r1, x1, y1⟩ := h.num p q hpos
      have hm : cNum fc (cdg fc) 11 2 < cNum fc (cdg fc) 54 2 := by
        have := x1.2.2.2.2
        omega
      have hn := r1.2.1.2.2.1
      have hn3 : cNum fc (cdg fc) 1 1 ≤ 160 := r1.c.1.2.1
      have e3 : cNum fc (cdg fc) 54 3 = (cdg fc).1 := by simp [cNum, ma_up]
      obtain ⟨r3, x3, y3⟩ := r1.step (k := 0) (v := (cdg fc).1) (V := (mdg fm).1) p q (Or.inl ⟨rfl, by rw [h.dg], by omega, by omega⟩) hm
      rw [if_neg (show ¬ q_sw 1 = 0 by decide), e3, c_add11 ⟨r1.m0, by omega⟩, m_emit r1.w ⟨by rw [← r1.mm]; exact r1.m0, by rw [← r1.mm]; omega⟩]
      refine ⟨1, _, _, rfl, rfl, x1.tr x3 (by omega), y1.tr y3, Or.inl ⟨rfl, r3, fun hh _ => ?_⟩⟩
      have e1 : cNum fc (cdg fc) 11 2 = fc 11 2 := rfl
      dsimp only
      rw [cStep_m, e1]
      refine WF.push h.m0 ?_
      rw [← e1, cStep_k]
      omega
    · rw [if_pos (show q_sw (if 48 ≤ cch fc ∧ cch fc ≤ 57 then 1 else 0) = 0 by rw [if_neg hd]; exact q_sw0)]
      by_cases h35 : cch fc = 35
      · rw [if_pos h35, m_takes0 h.m h.w (by omega) (by rw [h.ch]; omega), Option.bind_some]
        dsimp only
        rw [if_pos q_sw0, m_takes0 h.m h.w (by omega) (by rw [h.ch]; omega), Option.bind_some]
        dsimp only
        rw [if_pos q_sw0, m_takes1 h.m h.w (by omega) (by rw [h.ch]; exact h35), Option.bind_some]
        dsimp only
        rw [if_neg (show ¬ q_sw 1 = 0 by decide)]
        obtain ⟨b, fd, fn, e1, e2, e3, e4, e5⟩ := t_of (g := g) (p := p) (q := q) h (s := 4) (by omega) (by omega)
        rw [e1, e2, Option.bind_some]
        refine ⟨b, fd, fn, ?_, rfl, e3, e4, e5⟩
        dsimp only
        rw [if_pos (by rcases e5 with c | c <;> omega)]
      · rw [if_neg h35, if_neg (show ¬ cch fc = 40 from hn1)]
        by_cases h47 : cch fc = 47
        · rw [if_pos h47, m_takes1 h.m h.w (by omega) (by rw [h.ch]; exact h47), Option.bind_some]
          dsimp only
          rw [if_neg (show ¬ q_sw 1 = 0 by decide)]
          obtain ⟨b, fd, fn, e1, e2, e3, e4, e5⟩ := t_of (g := g) (p := p) (q := q) h (s := 2) (by omega) (by omega)
          rw [e1, e2, Option.bind_some]
          refine ⟨b, fd, fn, ?_, rfl, e3, e4, e5⟩
          dsimp only
          rw [if_pos (by rcases e5 with c | c <;> omega)]
        · rw [if_neg h47, if_neg (show ¬ cch fc = 91 from hn2), m_takes0 h.m h.w (by omega) (by rw [h.ch]; exact h47), Option.bind_some]
          dsimp only
          rw [if_pos q_sw0]
          by_cases h124 : cch fc = 124
          · rw [if_pos h124, m_takes1 h.m h.w (by omega) (by rw [h.ch]; exact h124), Option.bind_some]
            dsimp only
            rw [if_neg (show ¬ q_sw 1 = 0 by decide)]
            obtain ⟨b, fd, fn, e1, e2, e3, e4, e5⟩ := t_of (g := g) (p := p) (q := q) h (s := 3) (by omega) (by omega)
            rw [e1, e2, Option.bind_some]
            refine ⟨b, fd, fn, ?_, rfl, e3, e4, e5⟩
            dsimp only
            rw [if_pos (by rcases e5 with c | c <;> omega)]
          · -- nothing
            have hno : cdg fc = (0, fc 54 2) := dgt_no hd
            rw [if_neg h124, m_takes0 h.m h.w (by omega) (by rw [h.ch]; exact h124), Option.bind_some]
            dsimp only
            rw [if_pos q_sw0, m_takes0 h.m h.w (by omega) (by rw [h.ch]; exact h35), Option.bind_some]
            dsimp only
            rw [if_pos q_sw0]
            unfold p_Mod_simple_66 p_Mod_simple_96
            rw [if_pos rfl, m_letter0 h.m h.w (by omega) (by omega) (by rw [h.ch]; exact hi), Option.bind_some]
            obtain ⟨y2, w2, a2⟩ := XR.wr (p := p) (q := q) h
            dsimp only
            rw [m_emitW w2, c_num h.c, if_neg (show ¬ fc 54 2 < (cdg fc).2 by rw [hno]; exact Int.lt_irrefl _), Option.bind_some, Option.bind_some]
            dsimp only
            rw [if_pos q_sw0]
            have h1 := XR.move (fd := cNum fc (cdg fc)) (i := fc 54 2) p q h (fun a ha => by unfold cNum; rw [ma_up_ne ha, ma_up_ne ha]) (by rw [hno]; simp [cNum, ma_up]) (by omega) (by omega)
            refine ⟨0, _, _, rfl, rfl, h1.2.1.up (by omega), y2, Or.inr ⟨rfl, w2, ?_⟩⟩
            rw [← a2, hno]
            simp [cNum, ma_up]
end SI
