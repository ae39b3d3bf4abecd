/-! ===== readItem of both ===== -/
theorem sw0 {z : Int} (h : z = 0) : q_sw z = 0 := by rw [h]; exact q_sw0
theorem sw1 {z : Int} (h : z = 1) : ¬ q_sw z = 0 := by rw [h]; decide
section IT
variable {fc fm g : q_F} {x y : Nat}
theorem RR.xr (h : RR x y fc fm) : XR fc fm := h.1
theorem XR.fail (h : XR fc fm) : Fail fc (mWr fm) := by
  obtain ⟨-, w2, w3⟩ := XR.wr (p := 0) (q := 0) h
  exact ⟨w2, w3, mWr_OK h.m⟩
theorem XR.back (h : XR fc fm) (hc : cch fc ≠ 0) : Fail fc (mWr (ma_up (mAdv fm) 60 8 (mAdv fm 60 8 - 1))) := by
  have e : ma_up (mAdv fm) 60 8 (mAdv fm 60 8 - 1) = fm := by
    funext a k
    simp only [mAdv, ma_up]
    by_cases h1 : a = 60
    · by_cases h2 : k = 8
      · simp [h1, h2]
      · simp [h1, h2]
    · simp [h1]
  rw [e]
  exact h.fail
theorem RR.adv (h : RR x y fc fm) (hc : cch fc ≠ 0) : RR x y (cAdv fc) (mAdv fm) ∧ KC fc (cAdv fc) ∧ KM fm (mAdv fm) ∧ cAdv fc 54 2 = fc 54 2 + 1 := by
  obtain ⟨a1, a2, a3⟩ := h.1.adv 0 0 hc
  exact ⟨h.x a1 a2 a3, (KC.rf fc).up (by omega), a3.k, by simp [cAdv, ma_up]⟩
theorem KM.wr (f : q_F) : KM f (mWr f) := (KM.rf f).up (by omega)
theorem mAdv_w {f : q_F} (hw : f 60 9 = 0) : mAdv f 60 9 = 0 := by simp [mAdv, ma_up, hw]
theorem mWr_w {f : q_F} : mWr f 60 9 = 1 := by simp [mWr, ma_up]
/-- reference: a section's symbol, told -/
theorem m_tellW {v : Int} (h : mOK fm) (hw : fm 60 9 = 1) : p_Mod_tell v fm g = some (0, fm, g) := by
  have hW : ∀ s z, p_Mod_tell_27 v z s fm g = some (0, fm, g) := fun s z => by
    unfold p_Mod_tell_27
    rw [m_freshW hw, Option.bind_some, if_neg (show ¬ q_sw (fm 60 9) = 0 by rw [hw]; decide)]
  unfold p_Mod_tell
  rw [m_letterW h hw, Option.bind_some]
  simp only [q_let]
  rw [if_pos (by decide), hW, hW, ite_self]
theorem m_tell0 {v : Int} (h : mOK fm) (hw : fm 60 9 = 0) (h1 : ¬ (105 ≤ mch fm ∧ mch fm < 105 + 18)) : p_Mod_tell v fm g = some (0, mWr fm, g) := by
  have hW : ∀ s z, p_Mod_tell_27 v z s (mWr fm) g = some (0, mWr fm, g) := fun s z => by
    unfold p_Mod_tell_27
    rw [m_freshW mWr_w, Option.bind_some, if_neg (show ¬ q_sw (mWr fm 60 9) = 0 by rw [mWr_w]; decide)]
  unfold p_Mod_tell
  rw [m_letter0 h hw (by omega) (by omega) h1, Option.bind_some]
  simp only [q_let]
  rw [if_pos (by decide), hW, hW, ite_self]
theorem m_tell1 {v : Int} {k : Nat} (h : mOK fm) (hw : fm 60 9 = 0) (h1 : mch fm = 105 + k) (h2 : k < 18) (ht : fm 90 (k + 8) = 1) : p_Mod_tell v fm g = some (0, mWr (ma_up (mAdv fm) 60 8 (mAdv fm 60 8 - 1)), g) := by
  unfold p_Mod_tell
  have e : (8 + (mch fm - 105)).toNat = k + 8 := by omega
  have e2 : mAdv fm 90 = fm 90 := ma_up_ne (by decide)
  rw [m_letter1 h hw (by omega) (by omega) (by omega) (by omega), Option.bind_some]
  simp only [q_let]
  rw [if_pos (by omega), if_neg (show ¬ q_sw (mAdv fm 90 (8 + (mch fm - 105)).toNat) = 0 by rw [e, e2, ht]; decide)]
  unfold p_Mod_tell_27
  rw [m_fresh0 (mAdv_w hw), Option.bind_some, if_neg (show ¬ q_sw (mWr _ 60 9) = 0 by rw [mWr_w]; decide)]
theorem m_tell {v : Int} {k : Nat} (h : mOK fm) (hw : fm 60 9 = 0) (h1 : mch fm = 105 + k) (h2 : k < 18) (ht : fm 90 (k + 8) = 0) : p_Mod_tell v fm g = some ((k : Int) + 8, ma_up (ma_up (mAdv fm) 90 (k + 8) 1) 92 (k + 8) v, g) := by
  unfold p_Mod_tell
  have e : (8 + (mch fm - 105)).toNat = k + 8 := by omega
  have e2 : mAdv fm 90 = fm 90 := ma_up_ne (by decide)
  have e3 : 8 + (mch fm - 105) = (k : Int) + 8 := by omega
  rw [m_letter1 h hw (by omega) (by omega) (by omega) (by omega), Option.bind_some]
  simp only [q_let]
  rw [if_pos (by omega), if_pos (show q_sw (mAdv fm 90 (8 + (mch fm - 105)).toNat) = 0 by rw [e, e2, ht]; decide), e3]
  unfold p_Mod_tell_27
  rw [m_fresh1 (mAdv_w hw), Option.bind_some, if_pos (show q_sw (mAdv fm 60 9) = 0 by rw [mAdv_w hw]; exact q_sw0)]
  simp only [q_let]
  rw [if_pos (by omega), if_pos (by omega), q_nz1, show ((k : Int) + 8).toNat = k + 8 by omega]
theorem cItem_8 {f : q_F} {k v : Int} : cItem f k v 8 2 = f 8 2 + 1 := by simp [cItem, ma_up]
theorem item_pair (h : RR x 18 fc fm) (hx : x < 8) : ∃ b fd fn, p_Reader_readItem fc g = some (b, fd, g) ∧ p_Mod_readItem x fm g = some (fn, g) ∧ KC fc fd ∧ KM fm fn ∧ ((b = 1 ∧ RR x 18 fd fn ∧ fc 54 2 < fd 54 2 ∧ fc 8 2 ≤ fd 8 2) ∨ (b = 0 ∧ Fail fd fn)) := by
  have hc := h.1.c
  have hm := h.1.m
  have hw := h.1.w
  have hch := h.1.ch
  have hb := cch_b hc
  have hn := hc.1.2.1
  have hq := h.2.2.2.1.2.2.1
  have hq0 := h.2.2.2.1.2.1
  have hqq := h.2.2.2.1.1
  unfold p_Reader_readItem p_Mod_readItem p_Mod_readItem_88 p_Reader_readItem_151 p_Reader_readItem_84 p_Reader_readItem_28
  by_cases h37 : cch fc = 37
  · -- a raise
    obtain ⟨r1, k1, j1, e1⟩ := h.adv (by omega)
    rw [c_skip1 hc (by omega) h37, Option.bind_some, m_takes1 hm hw (by omega) (by omega), Option.bind_some]
    dsimp only
    rw [q_sw1, if_neg (by decide), if_neg (by decide), c_num r1.1.c, Option.bind_some, m_al r1.1.m r1.1.w, Option.bind_some]
    have hd := r1.1.dg
    have hr := cdg_r r1.1.c
    have hpl := r1.1.2.1.1
    have l54 : cNum (cAdv fc) (cdg (cAdv fc)) 54 2 = (cdg (cAdv fc)).2 := by simp [cNum, ma_up]
    have l8 : mSet (mAdv fm) (mdg (mAdv fm)).2 60 8 = (mdg (mAdv fm)).2 := by simp [mSet, ma_up]
    have kn : KC fc (cNum (cAdv fc) (cdg (cAdv fc))) := (k1.up (by omega)).up (by omega)
    have jn : KM fm (mSet (mAdv fm) (mdg (mAdv fm)).2) := j1.up (by omega)
    have hmx := r1.1.m
    have okS : mOK (mSet (mAdv fm) (mdg (mAdv fm)).2) := by
      have hmd := mdg_r hmx
      obtain ⟨q1, q2, q3⟩ := hmx
      refine ⟨?_, ?_, ?_⟩
      · rw [show mSet (mAdv fm) (mdg (mAdv fm)).2 66 = mAdv fm 66 from ma_up_ne (by decide), show mSet (mAdv fm) (mdg (mAdv fm)).2 60 6 = mAdv fm 60 6 from ma_up_ne2 (by decide)]
        exact q1
      · rw [l8]
        omega
      · rw [l8, show mSet (mAdv fm) (mdg (mAdv fm)).2 60 6 = mAdv fm 60 6 from ma_up_ne2 (by decide)]
        omega
    have fl : Fail (cNum (cAdv fc) (cdg (cAdv fc))) (mWr (mSet (mAdv fm) (mdg (mAdv fm)).2)) := by
      refine ⟨mWr_w, ?_, mWr_OK okS⟩
      rw [l54, show mWr (mSet (mAdv fm) (mdg (mAdv fm)).2) 60 8 = mSet (mAdv fm) (mdg (mAdv fm)).2 60 8 from ma_up_ne2 (by decide), l8, hd]
    dsimp only
    by_cases hg : cAdv fc 54 2 < (cdg (cAdv fc)).2
    · rw [if_pos hg, q_sw1, if_neg (by decide)]
      obtain ⟨n1, n2, n3⟩ := r1.1.num 0 0 hg
      have en : cNum (cAdv fc) (cdg (cAdv fc)) 54 3 = (cdg (cAdv fc)).1 := by simp [cNum, ma_up]
      rw [en, c_isAl64 (by omega), Option.bind_some]
      dsimp only
      by_cases hp : pw64 (cdg (cAdv fc)).1
      · rw [if_pos hp, q_sw1, if_neg (by decide)]
        have r2 := r1.x n1 n2 n3
        have q8 : cNum (cAdv fc) (cdg (cAdv fc)) 8 = fc 8 := by simp [cNum, cAdv, ma_up_ne]
        have q37 : mSet (mAdv fm) (mdg (mAdv fm)).2 60 37 = fm 60 37 := by simp [mSet, mAdv, ma_up]
        rw [c_add8 (by rw [q8]; omega), Option.bind_some, if_pos ⟨by rw [hd, ← hpl]; exact hg, by rw [hd]; exact hp⟩, m_item (by rw [n1.w]) (by rw [q37]; omega), Option.bind_some, en, hd]
        rw [hd] at r2 jn
        refine ⟨_, _, _, rfl, rfl, (kn.up (by omega)).up (by omega) |>.up (by omega), (jn.up (by omega)).up (by omega), Or.inl ⟨rfl, ?_, ?_, ?_⟩⟩
        · exact r2.item (Or.inr (Or.inl ⟨rfl, rfl, hp⟩)) (by rw [q8, l54]; omega) (fun e => absurd rfl e) (fun e => absurd e (by decide)) (fun e => absurd e (by decide))
        · try dsimp only
          rw [cItem_r (by decide) (by decide) (by decide), l54]
          omega
        · try dsimp only
          rw [cItem_8, q8]
          omega
      · rw [if_neg hp, q_sw0, if_pos rfl, if_neg (fun q => hp (by have := q.2; rw [hd] at this; exact this)), m_itemW mWr_w, Option.bind_some]
        exact ⟨_, _, _, rfl, rfl, kn, jn.up (by omega), Or.inr ⟨rfl, fl⟩⟩
    · rw [if_neg hg, q_sw0, if_pos rfl, if_neg (fun q => hg (by have := q.1; rw [hd, ← hpl] at this; exact this)), m_itemW mWr_w, Option.bind_some]
      exact ⟨_, _, _, rfl, rfl, kn, jn.up (by omega), Or.inr ⟨rfl, fl⟩⟩
  · rw [c_skip0 hc (by omega) h37, Option.bind_some, m_takes0 hm hw (by omega) (by omega), Option.bind_some]
    dsimp only
    rw [q_sw0, if_pos rfl, if_pos rfl]
    by_cases h36 : cch fc = 36
    · -- a symbol
      obtain ⟨r1, k1, j1, e1⟩ := h.adv (by omega)
      have hch1 := r1.1.ch
      have hb1 := cch_b r1.1.c
      rw [c_skip1 hc (by omega) h36, Option.bind_some, m_takes1 hm hw (by omega) (by omega), Option.bind_some]
      dsimp only
      rw [q_sw1, if_neg (by decide), if_neg (by decide)]
      by_cases hl : 105 ≤ cch (cAdv fc) ∧ cch (cAdv fc) < 105 + 18
      · obtain ⟨k, hk⟩ : ∃ k : Nat, cch (cAdv fc) = 105 + k := ⟨(cch (cAdv fc) - 105).toNat, by omega⟩
        rw [c_letter1 r1.1.c (by omega) (by omega) hl.1 hl.2, Option.bind_some]
        dsimp only
        have ek : cch (cAdv fc) - 105 = k := by omega
        obtain ⟨s1, s2, s3, s4, s5⟩ := r1.2.2.2.2.2.2 k (by omega)
        rw [ek, q_swn (by omega), if_neg (by omega), if_pos (by omega), Int.toNat_natCast]
        rcases s2 with s2 | s2
        · rw [if_pos (sw0 s2)]
          simp only [q_let]
          obtain ⟨r2, k2, j2, e2⟩ := r1.adv (by omega)
          have r3 := r2.tells (v := k) (by omega) hx (by rw [show cAdv (cAdv fc) (36 + k) = cAdv fc (36 + k) from ma_up_ne (by omega)]; exact s2)
          rw [if_pos (by omega)]
          have q8 : ma_up (cAdv (cAdv fc)) (36 + k) 0 1 8 = fc 8 := by rw [ma_up_ne (by omega)]; simp [cAdv, ma_up_ne]
          have q37 : ma_up (ma_up (mAdv (mAdv fm)) 90 (k + 8) 1) 92 (k + 8) (x : Int) 60 37 = fm 60 37 := by simp [mAdv, ma_up]
          have q9 : ma_up (ma_up (mAdv (mAdv fm)) 90 (k + 8) 1) 92 (k + 8) (x : Int) 60 9 = 0 := r3.1.w
          rw [show ma_up (cAdv fc) 54 2 (cAdv fc 54 2 + 1) = cAdv (cAdv fc) from rfl, c_add8 (by rw [q8]; omega), Option.bind_some, m_tell (k := k) r1.1.m r1.1.w (by omega) (by omega) (by omega), Option.bind_some]
          dsimp only
          rw [m_item q9 (by rw [q37]; omega), Option.bind_some]
          refine ⟨_, _, _, rfl, rfl, (((k1.tr k2).up (by omega)).up (by omega) |>.up (by omega)).up (by omega), ((((j1.tr j2).up (by omega)).up (by omega)).up (by omega)).up (by omega), Or.inl ⟨rfl, ?_, ?_, ?_⟩⟩
          · refine r3.item (Or.inr (Or.inr ⟨rfl, rfl, by omega, by omega⟩)) ?_ (fun _ j hj e1 e2 => ?_) (fun e => absurd e (by decide)) (fun _ => ?_)
            · rw [q8, show ma_up (cAdv (cAdv fc)) (36 + k) 0 1 54 = cAdv (cAdv fc) 54 from ma_up_ne (by omega), e2]
              omega
            · have f9 : ma_up (cAdv (cAdv fc)) (36 + k) 0 1 9 = cAdv fc 9 := by rw [ma_up_ne (by omega)]; simp [cAdv, ma_up_ne]
              have f10 : ma_up (cAdv (cAdv fc)) (36 + k) 0 1 10 = cAdv fc 10 := by rw [ma_up_ne (by omega)]; simp [cAdv, ma_up_ne]
              have f8 : cAdv fc 8 = fc 8 := by simp [cAdv, ma_up_ne]
              rw [q8] at hj
              rw [f9] at e1
              rw [f10] at e2
              have q := (r1.2.2.2.1.2.2.2.1 j (by rw [f8]; exact hj)).2.2 e1
              rw [e2, Int.toNat_natCast] at q
              omega
            · rw [Int.toNat_natCast]
              refine ⟨by simp [ma_up], ?_⟩
              rw [ma_up_at (by decide), show cAdv (cAdv fc) (36 + k) = cAdv fc (36 + k) from ma_up_ne (by omega)]
              exact s4 s2
          · try dsimp only
            rw [cItem_r (by decide) (by decide) (by decide), show ma_up (cAdv (cAdv fc)) (36 + k) 0 1 54 = cAdv (cAdv fc) 54 from ma_up_ne (by omega), e2]
            omega
          · try dsimp only
            rw [cItem_8, q8]
            omega
        · rw [if_neg (sw1 s2), m_tell1 (k := k) r1.1.m r1.1.w (by omega) (by omega) (by omega), Option.bind_some]
          dsimp only
          rw [m_itemW mWr_w, Option.bind_some]
          exact ⟨_, _, _, rfl, rfl, k1, (((j1.up (by omega)).up (by omega)).up (by omega)), Or.inr ⟨rfl, r1.1.back (by omega)⟩⟩
      · rw [c_letter0 r1.1.c (by omega) (by omega) hl, Option.bind_some, m_tell0 r1.1.m r1.1.w (by rw [hch1]; exact hl), Option.bind_some]
        dsimp only
        rw [m_itemW mWr_w, Option.bind_some, if_pos (by decide)]
        exact ⟨_, _, _, rfl, rfl, k1, j1.up (by omega), Or.inr ⟨rfl, r1.1.fail⟩⟩
    · -- an input
      rw [c_skip0 hc (by omega) h36, Option.bind_some, m_takes0 hm hw (by omega) (by omega), Option.bind_some]
      dsimp only
      rw [q_sw0, if_pos rfl, if_pos rfl]
      unfold p_Mod_readItem_66 p_Mod_readItem_83 p_Mod_readItem_88
      by_cases hl : 97 ≤ cch fc ∧ cch fc < 97 + 8
      · obtain ⟨k, hk⟩ : ∃ k : Nat, cch fc = 97 + k := ⟨(cch fc - 97).toNat, by omega⟩
        have hmk : mch fm - 97 = k := by omega
        rw [c_letter1 hc (by omega) (by omega) hl.1 hl.2, Option.bind_some, m_letter1 hm hw (by omega) (by omega) (by omega) (by omega), Option.bind_some]
        dsimp only
        obtain ⟨r1, k1, j1, e1⟩ := h.adv (by omega)
        have ek : cch fc - 97 = k := by omega
        obtain ⟨s1, s2, s3, s4⟩ := h.2.2.1 k (by omega)
        have f65 : mAdv fm 65 = fm 65 := ma_up_ne (by decide)
        rw [hmk, ek, q_swn (by omega), if_neg (by omega), if_pos (by omega), Int.toNat_natCast, if_pos (show 0 ≤ (k : Int) ∧ (k : Int) < 8 by omega)]
        rcases s2 with s2 | s2
        · rw [if_pos (sw0 (s1.trans s2)), if_pos (show q_sw (mAdv fm 65 k) = 0 by rw [f65]; exact sw0 s2)]
          simp only [q_let]
          have r3 := r1.use (k := k) (by omega)
          rw [if_pos (show 0 ≤ (k : Int) ∧ (k : Int) < 8 by omega), m_fresh1 (mAdv_w hw), Option.bind_some, if_pos (show q_sw (mAdv fm 60 9) = 0 by rw [mAdv_w hw]; exact q_sw0), if_pos (show 0 ≤ (k : Int) ∧ (k : Int) < 8 by omega), q_nz1]
          have q8 : ma_up (cAdv fc) (16 + k) 3 1 8 = fc 8 := by rw [ma_up_ne (by omega)]; simp [cAdv, ma_up_ne]
          have q37 : ma_up (mAdv fm) 65 k 1 60 37 = fm 60 37 := by simp [mAdv, ma_up]
          rw [show ma_up fc 54 2 (fc 54 2 + 1) = cAdv fc from rfl, c_add8 (by rw [q8]; omega), Option.bind_some, m_item r3.1.w (by rw [q37]; omega), Option.bind_some]
          refine ⟨_, _, _, rfl, rfl, ((k1.up (by omega)).up (by omega) |>.up (by omega)).up (by omega), ((j1.up (by omega)).up (by omega)).up (by omega), Or.inl ⟨rfl, ?_, ?_, ?_⟩⟩
          · refine r3.item (Or.inl ⟨rfl, rfl, by omega, by omega⟩) ?_ (fun _ j hj e1 e2 => ?_) (fun _ => ?_) (fun e => absurd e (by decide))
            · rw [q8, show ma_up (cAdv fc) (16 + k) 3 1 54 = cAdv fc 54 from ma_up_ne (by omega), e1]
              omega
            · have f9 : ma_up (cAdv fc) (16 + k) 3 1 9 = fc 9 := by rw [ma_up_ne (by omega)]; simp [cAdv, ma_up_ne]
              have f10 : ma_up (cAdv fc) (16 + k) 3 1 10 = fc 10 := by rw [ma_up_ne (by omega)]; simp [cAdv, ma_up_ne]
              rw [q8] at hj
              rw [f9] at e1
              rw [f10] at e2
              have q := (h.2.2.2.1.2.2.2.1 j hj).2.1 e1
              rw [e2, Int.toNat_natCast] at q
              omega
            · rw [Int.toNat_natCast]
              simp [ma_up]
          · try dsimp only
            rw [cItem_r (by decide) (by decide) (by decide), show ma_up (cAdv fc) (16 + k) 3 1 54 = cAdv fc 54 from ma_up_ne (by omega), e1]
            omega
          · try dsimp only
            rw [cItem_8, q8]
            omega
        · rw [if_neg (sw1 (s1.trans s2)), if_neg (show ¬ q_sw (mAdv fm 65 k) = 0 by rw [f65]; exact sw1 s2), m_fresh0 (mAdv_w hw), Option.bind_some]
          dsimp only
          rw [if_neg (show ¬ q_sw (mWr _ 60 9) = 0 by rw [mWr_w]; decide), m_itemW mWr_w, Option.bind_some]
          exact ⟨_, _, _, rfl, rfl, KC.rf _, (((j1.up (by omega)).up (by omega))), Or.inr ⟨rfl, h.1.back (by omega)⟩⟩
      · rw [c_letter0 hc (by omega) (by omega) hl, Option.bind_some, m_letter0 hm hw (by omega) (by omega) (by rw [hch]; exact hl), Option.bind_some]
        dsimp only
        rw [if_pos (by decide), if_pos (by decide)]
        have hW : ∀ s v, (p_Mod_fresh s (mWr fm) g).bind (fun x1 => if q_sw (x1.1 60 9) = 0 then if 0 ≤ (0 : Int) ∧ (0 : Int) < 8 then q_let (ma_up x1.1 65 (Int.toNat 0) (q_nz 1)) fun f5 => (p_Mod_addItem v f5 x1.2).bind fun x1 => some (x1.1, x1.2) else none else (p_Mod_addItem v x1.1 x1.2).bind fun x1 => some (x1.1, x1.2)) = some (mWr fm, g) := fun s v => by
          rw [m_freshW mWr_w, Option.bind_some, if_neg (show ¬ q_sw (mWr fm 60 9) = 0 by rw [mWr_w]; decide), m_itemW mWr_w, Option.bind_some]
        rw [hW, hW, ite_self]
        exact ⟨_, _, _, rfl, rfl, KC.rf _, KM.wr _, Or.inr ⟨rfl, h.1.fail⟩⟩
end IT
