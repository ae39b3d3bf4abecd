/-! ===== where a section runs and lies ===== -/
section HO
variable {fc fm f g : q_F} {x : Nat}
theorem m_regionW {v : Int} (h : mOK f) (hw : f 60 9 = 1) : p_Mod_region v f g = some (0, f, g) := by
  have hW : ∀ s, p_Mod_region_28 0 s f g = some (0, f, g) := fun s => by
    unfold p_Mod_region_28
    rw [m_freshW hw, Option.bind_some]
  unfold p_Mod_region p_Mod_region_27
  rw [m_letterW h hw, Option.bind_some]
  dsimp only
  rw [if_pos (by decide), hW, hW, ite_self, ite_self]
theorem m_region0 {v : Int} (h : mOK f) (hw : f 60 9 = 0) (h1 : ¬ (65 ≤ mch f ∧ mch f < 65 + 4)) : p_Mod_region v f g = some (0, mWr f, g) := by
  have hW : ∀ s, p_Mod_region_28 0 s (mWr f) g = some (0, mWr f, g) := fun s => by
    unfold p_Mod_region_28
    rw [m_freshW mWr_w, Option.bind_some]
  unfold p_Mod_region p_Mod_region_27
  rw [m_letter0 h hw (by omega) (by omega) h1, Option.bind_some]
  dsimp only
  rw [if_pos (by decide), hW, hW, ite_self, ite_self]
theorem m_regionB {v : Int} {k : Nat} (h : mOK f) (hw : f 60 9 = 0) (h1 : mch f = 65 + k) (h2 : k < 4) (hv : -1 ≤ v ∧ v < 4) (ht : f 67 k = 0 ∨ (f 67 k = 1 ∧ v = k)) : p_Mod_region v f g = some ((k : Int), mWr (ma_up (mAdv f) 60 8 (mAdv f 60 8 - 1)), g) := by
  have hW : p_Mod_region_28 k 0 (mAdv f) g = some ((k : Int), mWr (ma_up (mAdv f) 60 8 (mAdv f 60 8 - 1)), g) := by
    unfold p_Mod_region_28
    rw [m_fresh0 (mAdv_w hw), Option.bind_some]
  have e : mch f - 65 = k := by omega
  have e2 : mAdv f 67 = f 67 := ma_up_ne (by decide)
  unfold p_Mod_region p_Mod_region_27
  rw [m_letter1 h hw (by omega) (by omega) (by omega) (by omega), Option.bind_some]
  dsimp only
  rw [e, if_pos (by omega), Int.toNat_natCast]
  rcases ht with ht | ht
  · rw [if_pos (show q_sw (mAdv f 67 k) = 0 by rw [e2]; exact sw0 ht), hW]
  · rw [if_neg (show ¬ q_sw (mAdv f 67 k) = 0 by rw [e2]; exact sw1 ht.1), if_pos (by rw [ht.2]), hW]
theorem m_region1 {v : Int} {k : Nat} (h : mOK f) (hw : f 60 9 = 0) (h1 : mch f = 65 + k) (h2 : k < 4) (hv : -1 ≤ v ∧ v < 4) (ht : f 67 k = 1) (hk : v ≠ k) : p_Mod_region v f g = some ((k : Int), mAdv f, g) := by
  have e : mch f - 65 = k := by omega
  have e2 : mAdv f 67 = f 67 := ma_up_ne (by decide)
  unfold p_Mod_region p_Mod_region_28
  rw [m_letter1 h hw (by omega) (by omega) (by omega) (by omega), Option.bind_some]
  dsimp only
  rw [e, if_pos (by omega), Int.toNat_natCast, if_neg (show ¬ q_sw (mAdv f 67 k) = 0 by rw [e2]; exact sw1 ht), q_swn (by omega), q_swn (by omega), if_neg (by omega), m_fresh1 (mAdv_w hw), Option.bind_some]
theorem m_207W {s : Int} (hx : x < 8) (hw : f 60 9 = 1) : ∃ fn, p_Mod_readSection_207 x s x f g = some (fn, g) ∧ WM f fn := by
  have hN : ∀ s0 f', p_Mod_readSection_236 s0 x f' g = some (ma_up f' 83 x (q_nz s0), g) := fun s0 f' => by
    unfold p_Mod_readSection_236
    rw [if_pos (by omega), Int.toNat_natCast]
    rfl
  have w1 : WM f (ma_up f 82 x s) := (WM.rf f).up (by omega)
  unfold p_Mod_readSection_207 p_Mod_readSection_231
  rw [if_pos (by omega)]
  simp only [q_let]
  rw [if_pos (by omega), Int.toNat_natCast, hN, m_takesW (by rw [w1.2.2]; exact hw), Option.bind_some, if_pos (sw0 rfl)]
  dsimp only
  rw [hN, ite_self]
  exact ⟨_, rfl, w1.up (by omega)⟩
/-- the rest of the reference's road from the homes on, under wrong = 1 -/
theorem m_145W (hx : x < 8) (ho : mOK f) (hw : f 60 9 = 1) : ∃ fn, p_Mod_readSection_145 x f g = some (fn, g) ∧ WM f fn := by
  have w1 : ∀ v, WM f (ma_up f 85 x v) := fun v => (WM.rf f).up (by omega)
  have w2 : ∀ v w, WM f (ma_up (ma_up f 85 x v) 81 x w) := fun v w => (w1 v).up (by omega)
  unfold p_Mod_readSection_145
  rw [if_pos (by omega), if_pos (by omega)]
  simp only [q_let]
  rw [Int.toNat_natCast, m_takeW (by rw [(w1 _).2.2]; exact hw), Option.bind_some, m_regionW ((w1 _).ok ho) (by rw [(w1 _).2.2]; exact hw), Option.bind_some, if_pos (by omega), m_takesW (by rw [(w2 _ _).2.2]; exact hw), Option.bind_some, if_pos (sw0 rfl)]
  obtain ⟨fn, e1, e2⟩ := m_207W (f := ma_up (ma_up f 85 x (f 60 37 - f 84 x)) 81 x 0) (g := g) (s := -1) hx (by rw [(w2 _ _).2.2]; exact hw)
  exact ⟨fn, e1, (w2 _ _).tr e2⟩
/-- what is known of the section being read behind its items -/
def SI (x : Nat) (fc fm : q_F) : Prop := fc (28 + x) 0 = 1 ∧ seAd fc fm x ∧ seIt fc fm x ∧ ∀ k : Nat, k < 8 → k ≠ x → fc (28 + k) 0 = 1 → fc (28 + k) 5 ≤ fc (28 + x) 4 ∨ fc (28 + x) 5 ≤ fc (28 + k) 4
theorem SI.ext {fd fn : q_F} (hx : x < 8) (h : SI x fc fm) (c : ∀ a j, 28 ≤ a → a < 36 → j ≤ 5 → fd a j = fc a j) (c8 : fd 8 = fc 8) (c11 : fd 11 = fc 11) (c12 : fd 12 = fc 12) (m79 : fn 79 = fm 79) (m80 : fn 80 = fm 80) (m84 : fn 84 = fm 84) (m85 : fn 85 = fm 85) : SI x fd fn := by
  obtain ⟨h1, h2, h3, h4⟩ := h
  refine ⟨?_, ?_, ?_, fun k hk kx ht => ?_⟩
  · rw [c _ _ (by omega) (by omega) (by omega)]
    exact h1
  · unfold seAd exok at *
    rw [c _ 1 (by omega) (by omega) (by omega), c _ 2 (by omega) (by omega) (by omega), c _ 3 (by omega) (by omega) (by omega), c11, c12, m79, m80]
    exact h2
  · unfold seIt at *
    rw [c _ 4 (by omega) (by omega) (by omega), c _ 5 (by omega) (by omega) (by omega), c8, m84, m85]
    exact h3
  · rw [c _ 0 (by omega) (by omega) (by omega)] at ht
    rw [c _ 4 (by omega) (by omega) (by omega), c _ 5 (by omega) (by omega) (by omega), c _ 4 (by omega) (by omega) (by omega), c _ 5 (by omega) (by omega) (by omega)]
    exact h4 k hk kx ht
theorem SI.adv (hx : x < 8) (h : SI x fc fm) : SI x (cAdv fc) (mAdv fm) := h.ext hx (fun a j _ _ _ => by rw [show cAdv fc a = fc a from ma_up_ne (by omega)]) (ma_up_ne (by omega)) (ma_up_ne (by omega)) (ma_up_ne (by omega)) (ma_up_ne (by omega)) (ma_up_ne (by omega)) (ma_up_ne (by omega)) (ma_up_ne (by omega))
theorem SI.sc {j : Nat} {v : Int} (hx : x < 8) (h : SI x fc fm) (hj : 6 ≤ j) : SI x (ma_up fc (28 + x) j v) fm := h.ext hx (fun a i _ _ _ => ma_up_ne2 (by omega)) (ma_up_ne (by omega)) (ma_up_ne (by omega)) (ma_up_ne (by omega)) rfl rfl rfl rfl
theorem SI.sm {a : Nat} {v : Int} (hx : x < 8) (h : SI x fc fm) (ha : 81 ≤ a ∧ a ≤ 83) : SI x fc (ma_up fm a x v) := h.ext hx (fun a i _ _ _ => rfl) rfl rfl rfl (ma_up_ne (by omega)) (ma_up_ne (by omega)) (ma_up_ne (by omega)) (ma_up_ne (by omega))
theorem m_236 {s0 : Int} (hx : x < 8) : p_Mod_readSection_236 s0 x f g = some (ma_up f 83 x (q_nz s0), g) := by
  unfold p_Mod_readSection_236
  rw [if_pos (by omega), Int.toNat_natCast]
  rfl
theorem m_207a {r : Nat} (hx : x < 8) (hr : r < 4) : p_Mod_readSection_207 x r x f g = some (ma_up (ma_up f 82 x r) 83 x 1, g) := by
  unfold p_Mod_readSection_207 p_Mod_readSection_231
  rw [if_pos (by omega)]
  simp only [q_let]
  rw [if_pos (by omega), Int.toNat_natCast, if_pos (show 0 ≤ q_sw (ma_up f 82 x (r : Int) 82 x) by rw [ma_up_self, q_swn (by omega)]; omega), m_236 hx, q_nz1]
theorem m_207b (hx : x < 8) (ho : mOK f) (hw : f 60 9 = 0) (hc : mch f = 33) : p_Mod_readSection_207 x (-1) x f g = some (ma_up (mAdv (ma_up f 82 x (-1))) 83 x 0, g) := by
  have w1 : WM f (ma_up f 82 x (-1)) := (WM.rf f).up (by omega)
  have e : mch (ma_up f 82 x (-1)) = mch f := by
    unfold mch
    rw [ma_up_ne (by omega), ma_up_ne (by omega)]
  unfold p_Mod_readSection_207
  rw [if_pos (by omega)]
  simp only [q_let]
  rw [if_pos (by omega), Int.toNat_natCast, if_neg (show ¬ 0 ≤ q_sw (ma_up f 82 x (-1) 82 x) by rw [ma_up_self]; decide), m_takes1 (w1.ok ho) (by rw [w1.2.2]; exact hw) (by omega) (e.trans hc), Option.bind_some, if_neg (sw1 rfl)]
  dsimp only
  rw [m_236 hx, q_nz0]
theorem m_207c (hx : x < 8) (ho : mOK f) (hw : f 60 9 = 0) (hc : mch f ≠ 33) : p_Mod_readSection_207 x (-1) x f g = some (ma_up (ma_up f 82 x (-1)) 83 x 1, g) := by
  have w1 : WM f (ma_up f 82 x (-1)) := (WM.rf f).up (by omega)
  have e : mch (ma_up f 82 x (-1)) = mch f := by
    unfold mch
    rw [ma_up_ne (by omega), ma_up_ne (by omega)]
  unfold p_Mod_readSection_207 p_Mod_readSection_231
  rw [if_pos (by omega)]
  simp only [q_let]
  rw [if_pos (by omega), Int.toNat_natCast, if_neg (show ¬ 0 ≤ q_sw (ma_up f 82 x (-1) 82 x) by rw [ma_up_self]; decide), m_takes0 (w1.ok ho) (by rw [w1.2.2]; exact hw) (by omega) (by rw [e]; exact hc), Option.bind_some, if_pos (sw0 rfl)]
  dsimp only
  rw [m_236 hx, q_nz1]
theorem cch_sc {x j : Nat} {v : Int} (hx : x < 8) : cch (ma_up f (28 + x) j v) = cch f := by
  unfold cch
  rw [ma_up_ne (by omega), ma_up_ne (by omega), ma_up_ne (by omega)]
theorem mch_sm {a x : Nat} {v : Int} (h1 : a ≠ 60) (h2 : a ≠ 66) : mch (ma_up f a x v) = mch f := by
  unfold mch
  rw [ma_up_ne (by omega), ma_up_ne (by omega)]
/-- class: from the sign '>' on -/
def cTail (x : Nat) (f g : q_F) : Option (Int × q_F × q_F) :=
  (p_Reader_skip (62) f g).bind fun x10 =>
          if q_sw x10.1 = 0 then
            p_Reader_readSection_157    x10.2.1 x10.2.2
          else
            (p_Reader_readHomes (28 + x) x10.2.1 x10.2.2).bind fun x13 =>
            if q_sw x13.1 = 0 then
              p_Reader_readSection_157    x13.2.1 x13.2.2
            else
              p_Reader_readSection_158   (1) x13.2.1 x13.2.2
theorem PC.sc {fd : q_F} {a j : Nat} {v : Int} (h : PC fc fd) (ha : 24 ≤ a ∧ a < 59) : PC fc (ma_up fd a j v) := h.up (by omega)
theorem c_tail0 (h : cOK f) (h1 : cch f ≠ 62) : cTail x f g = some (0, f, g) := by
  unfold cTail p_Reader_readSection_157 p_Reader_readSection_158
  rw [c_skip0 h (by omega) h1, Option.bind_some, if_pos (sw0 rfl), if_pos (Or.inl rfl)]
theorem c_tail1 {b : Int} {fd : q_F} (h : cOK f) (h1 : cch f = 62) (hb : b = 0 ∨ b = 1) (hr : p_Reader_readHomes (28 + x) (cAdv f) g = some (b, fd, g)) : cTail x f g = some (b, fd, g) := by
  unfold cTail p_Reader_readSection_157 p_Reader_readSection_158
  rw [c_skip1 h (by omega) h1, Option.bind_some, if_neg (sw1 rfl)]
  dsimp only
  rw [hr, Option.bind_some]
  rcases hb with rfl | rfl
  · rw [if_pos (sw0 rfl), if_pos (Or.inl rfl)]
  · rw [if_neg (sw1 rfl), if_pos (Or.inr rfl)]
theorem c_homes0 (h : cOK f) (hx : x < 8) (hl : ¬ (65 ≤ cch f ∧ cch f < 65 + 4)) : p_Reader_readHomes (28 + x) f g = some (0, f, g) := by
  unfold p_Reader_readHomes p_Reader_readHomes_27
  rw [if_pos (by omega), c_letter0 h (by omega) (by omega) hl, Option.bind_some, if_pos (show q_sw (-1) < 0 by decide)]
section CH
variable {k k2 : Nat}
theorem c_homesB (h : cOK f) (hx : x < 8) (hk : cch f = 65 + k) (h4 : k < 4) (ht : f (24 + k) 0 = 0) : p_Reader_readHomes (28 + x) f g = some (0, f, g) := by
  have ek : cch f - 65 = k := by omega
  unfold p_Reader_readHomes p_Reader_readHomes_27
  rw [if_pos (by omega), c_letter1 h (by omega) (by omega) (by omega) (by omega), Option.bind_some]
  dsimp only
  rw [ek, q_swn (show -2147483648 ≤ (k : Int) ∧ (k : Int) ≤ 2147483647 by omega), if_neg (show ¬ (k : Int) < 0 by omega), if_pos (show 0 ≤ (k : Int) ∧ (k : Int) < 4 by omega), Int.toNat_natCast, if_pos (sw0 ht)]
theorem c_homesC (h : cOK f) (hx : x < 8) (hk : cch f = 65 + k) (h4 : k < 4) (ht : f (24 + k) 0 = 1) : p_Reader_readHomes (28 + x) f g =
          ((p_Reader_skip (33) (ma_up (cAdv f) (28 + x) 6 k) g).bind fun x8 =>
          if q_sw x8.1 = 0 then
            (p_Reader_skip (94) x8.2.1 x8.2.2).bind fun x11 =>
            if q_sw x11.1 = 0 then
              p_Reader_readHomes_119    x11.2.1 x11.2.2
            else
              (p_Reader_letter (65) (4) x11.2.1 x11.2.2).bind fun x14 =>
              if q_sw x14.1 < 0 then
                p_Reader_readHomes_102    x14.2.1 x14.2.2
              else
                if q_sw x14.1 = q_sw k then
                  p_Reader_readHomes_102    x14.2.1 x14.2.2
                else
                  if 0 ≤ x14.1 ∧ x14.1 < 4 then
                    if q_sw (x14.2.1 (24 + Int.toNat x14.1) 0) = 0 then
                      p_Reader_readHomes_102    x14.2.1 x14.2.2
                    else
                      q_let (ma_up x14.2.1 54 2 ((x14.2.1 54 2) + 1)) fun f20 =>
                      q_let (ma_up f20 (28 + x) 8 x14.1) fun f21 =>
                      p_Reader_readHomes_119    f21 x14.2.2
                  else none
          else
            q_let (ma_up x8.2.1 (28 + x) 7 0) fun f22 =>
            p_Reader_readHomes_119    f22 x8.2.2) := by
  have ek : cch f - 65 = k := by omega
  rw [p_Reader_readHomes]
  rw [if_pos (by omega), c_letter1 h (by omega) (by omega) (by omega) (by omega), Option.bind_some]
  dsimp only
  rw [ek, q_swn (show -2147483648 ≤ (k : Int) ∧ (k : Int) ≤ 2147483647 by omega), if_neg (show ¬ (k : Int) < 0 by omega), if_pos (show 0 ≤ (k : Int) ∧ (k : Int) < 4 by omega), Int.toNat_natCast, if_neg (sw1 ht)]
  rfl
end CH
def mHome2 (x : Nat) (f g : q_F) : Option (q_F × q_F) := (p_Mod_takes (94) f g).bind fun x10 =>
        if q_sw x10.1 = 0 then
          p_Mod_readSection_207   (x) (-1) (x) x10.2.1 x10.2.2
        else
          if 0 ≤ (x : Int) ∧ (x : Int) < 8 then
            (p_Mod_region (x10.2.1 81 x) x10.2.1 x10.2.2).bind fun x14 =>
            p_Mod_readSection_207   (x) (x14.1) (x) x14.2.1 x14.2.2
          else none
def mHome (x : Nat) (f g : q_F) : Option (q_F × q_F) := (p_Mod_region (-1) f g).bind fun x6 => mHome2 x (ma_up x6.2.1 81 x x6.1) x6.2.2
theorem m_145 (hx : x < 8) : p_Mod_readSection_145 x f g = (p_Mod_take 62 (ma_up f 85 x (f 60 37 - f 84 x)) g).bind fun x4 => mHome x x4.1 x4.2 := by
  unfold p_Mod_readSection_145 mHome mHome2
  rw [if_pos (by omega), if_pos (by omega), Int.toNat_natCast]
  have e : ∀ x6 : Int × q_F × q_F, (if 0 ≤ (x : Int) ∧ (x : Int) < 8 then
        q_let (ma_up x6.2.1 81 x x6.1) fun f9 =>
        (p_Mod_takes (94) f9 x6.2.2).bind fun x10 =>
        if q_sw x10.1 = 0 then
          p_Mod_readSection_207   (x) (-1) (x) x10.2.1 x10.2.2
        else
          if 0 ≤ (x : Int) ∧ (x : Int) < 8 then
            (p_Mod_region (x10.2.1 81 x) x10.2.1 x10.2.2).bind fun x14 =>
            p_Mod_readSection_207   (x) (x14.1) (x) x14.2.1 x14.2.2
          else none
      else none) = (p_Mod_takes 94 (ma_up x6.2.1 81 x x6.1) x6.2.2).bind fun x10 =>
        if q_sw x10.1 = 0 then
          p_Mod_readSection_207   (x) (-1) (x) x10.2.1 x10.2.2
        else
          if 0 ≤ (x : Int) ∧ (x : Int) < 8 then
            (p_Mod_region (x10.2.1 81 x) x10.2.1 x10.2.2).bind fun x14 =>
            p_Mod_readSection_207   (x) (x14.1) (x) x14.2.1 x14.2.2
          else none := fun x6 => by
    rw [if_pos (by omega)]
    rfl
  simp only [e]
  rfl
theorem m_home2W (hx : x < 8) (hw : f 60 9 = 1) : ∃ fn, mHome2 x f g = some (fn, g) ∧ WM f fn := by
  unfold mHome2
  rw [m_takesW hw, Option.bind_some, if_pos (sw0 rfl)]
  exact m_207W hx hw
theorem m_homeW (hx : x < 8) (ho : mOK f) (hw : f 60 9 = 1) : ∃ fn, mHome x f g = some (fn, g) ∧ WM f fn := by
  have w1 : WM f (ma_up f 81 x 0) := (WM.rf f).up (by omega)
  unfold mHome
  rw [m_regionW ho hw, Option.bind_some]
  obtain ⟨fn, e1, e2⟩ := m_home2W (f := ma_up f 81 x 0) (g := g) hx (by rw [w1.2.2]; exact hw)
  exact ⟨fn, e1, w1.tr e2⟩
theorem KC.sc {fd : q_F} {j : Nat} {v : Int} (h : PC fc fd) (hx : x < 8) : PC fc (ma_up fd (28 + x) j v) := h.up (by omega)
theorem PM.sm {fn : q_F} {a : Nat} {v : Int} (h : PM fm fn) (ha : 79 ≤ a ∧ a ≤ 85) : PM fm (ma_up fn a x v) := h.up (by omega)
theorem homes_pair (hx : x < 8) (h : RR x 18 fc (ma_up fm 85 x (fm 60 37 - fm 84 x))) (hs : SI x fc (ma_up fm 85 x (fm 60 37 - fm 84 x))) (h7 : fc (28 + x) 7 = 1) (h8 : fc (28 + x) 8 = -1) : ∃ b fd fn, cTail x fc g = some (b, fd, g) ∧ p_Mod_readSection_145 x fm g = some (fn, g) ∧ PC fc fd ∧ PM fm fn ∧ ((b = 1 ∧ RR 8 18 fd fn ∧ fc 54 2 ≤ fd 54 2) ∨ (b = 0 ∧ Fail fd fn)) := by
  rw [m_145 hx]
  have pm0 : PM fm (ma_up fm 85 x (fm 60 37 - fm 84 x)) := (PM.rf fm).up (by omega)
  generalize ma_up fm 85 x (fm 60 37 - fm 84 x) = m1 at h hs pm0
  have hc := h.1.c
  have hb := cch_b hc
  have hch := h.1.ch
  have hw := h.1.w
  by_cases h62 : cch fc = 62
  · obtain ⟨r1, k1, j1, e1⟩ := h.adv (by omega)
    have s1 := hs.adv hx
    have hb1 := cch_b r1.1.c
    have hch1 := r1.1.ch
    have pc1 : PC fc (cAdv fc) := k1.p
    have pm1 : PM fm (mAdv m1) := pm0.tr j1.p
    rw [m_take1 h.1.m hw (by omega) (by omega), Option.bind_some]
    dsimp only
    have t7 : cAdv fc (28 + x) = fc (28 + x) := ma_up_ne (by omega)
    rw [← t7] at h7 h8
    have fin : ∀ b fd fn, (b = 0 ∨ b = 1) → p_Reader_readHomes (28 + x) (cAdv fc) g = some (b, fd, g) → mHome x (mAdv m1) g = some (fn, g) → PC fc fd ∧ PM fm fn ∧ ((b = 1 ∧ RR 8 18 fd fn ∧ fc 54 2 ≤ fd 54 2) ∨ (b = 0 ∧ Fail fd fn)) → ∃ b fd fn, cTail x fc g = some (b, fd, g) ∧ mHome x (mAdv m1) g = some (fn, g) ∧ PC fc fd ∧ PM fm fn ∧ ((b = 1 ∧ RR 8 18 fd fn ∧ fc 54 2 ≤ fd 54 2) ∨ (b = 0 ∧ Fail fd fn)) := fun b fd fn q1 q2 q3 q4 => ⟨b, fd, fn, c_tail1 hc h62 q1 q2, q3, q4⟩
    have le1 : fc 54 2 ≤ cAdv fc 54 2 := by omega
    generalize cAdv fc = c1 at *
    generalize mAdv m1 = m2 at *
    by_cases hl : 65 ≤ cch c1 ∧ cch c1 < 65 + 4
    · obtain ⟨k, hk⟩ : ∃ k : Nat, cch c1 = 65 + k := ⟨(cch c1 - 65).toNat, by omega⟩
      rcases r1.2.1 k (by omega) with ⟨g1, g2⟩ | ⟨g1, g2, g3⟩
      · -- region not told
        have fl := r1.1.back (by omega)
        have eM : mHome x m2 g = mHome2 x (ma_up (mWr (ma_up (mAdv m2) 60 8 (mAdv m2 60 8 - 1))) 81 x k) g := by
          unfold mHome
          rw [m_regionB (k := k) r1.1.m r1.1.w (by omega) (by omega) (by omega) (Or.inl g2), Option.bind_some]
        have pm2 : PM fm (mWr (ma_up (mAdv m2) 60 8 (mAdv m2 60 8 - 1))) := ((pm1.up (by omega)).up (by omega)).up (by omega)
        generalize mWr (ma_up (mAdv m2) 60 8 (mAdv m2 60 8 - 1)) = mz at fl eM pm2
        have w1 : WM mz (ma_up mz 81 x k) := (WM.rf mz).up (by omega)
        obtain ⟨fn, a1, a2⟩ := m_home2W (f := ma_up mz 81 x k) (g := g) hx (by rw [w1.2.2]; exact fl.1)
        exact fin 0 c1 fn (Or.inl rfl) (c_homesB r1.1.c hx hk (by omega) g1) (eM.trans a1) ⟨pc1, pm2.tr (w1.tr a2).1, Or.inr ⟨rfl, (w1.tr a2).fail fl⟩⟩
      · -- told
        obtain ⟨r2, k2, j2, e2⟩ := r1.adv (by omega)
        have s2 := s1.adv hx
        have u7 : cAdv c1 (28 + x) = c1 (28 + x) := ma_up_ne (by omega)
        have u24 : cAdv c1 (24 + k) = c1 (24 + k) := ma_up_ne (by omega)
        have r3 := (r2.sc (j := 6) (v := k) hx s2.1 (by omega)).sm (a := 81) (v := k) (by omega)
        have s3 := (s2.sc (j := 6) (v := k) hx (by omega)).sm (a := 81) (v := k) hx (by omega)
        have pc3 : PC fc (ma_up (cAdv c1) (28 + x) 6 k) := (pc1.tr k2.p).up (by omega)
        have pm3 : PM fm (ma_up (mAdv m2) 81 x k) := (pm1.tr j2.p).up (by omega)
        have eC := c_homesC (g := g) r1.1.c hx hk (by omega) g1
        have eM : mHome x m2 g = mHome2 x (ma_up (mAdv m2) 81 x k) g := by
          unfold mHome
          rw [m_region1 (k := k) r1.1.m r1.1.w (by omega) (by omega) (by omega) g2 (by omega), Option.bind_some]
        have v6 : ma_up (cAdv c1) (28 + x) 6 (k : Int) (28 + x) 6 = k := ma_up_self
        have v7 : ma_up (cAdv c1) (28 + x) 6 (k : Int) (28 + x) 7 = 1 := by rw [ma_up_at (by omega), u7]; exact h7
        have v8 : ma_up (cAdv c1) (28 + x) 6 (k : Int) (28 + x) 8 = -1 := by rw [ma_up_at (by omega), u7]; exact h8
        have v24 : ma_up (cAdv c1) (28 + x) 6 (k : Int) (24 + k) 0 = 1 := by rw [ma_up_ne (by omega), u24]; exact g1
        have w81 : ma_up (mAdv m2) 81 x (k : Int) 81 x = k := ma_up_self
        have le3 : fc 54 2 ≤ ma_up (cAdv c1) (28 + x) 6 (k : Int) 54 2 := by rw [ma_up_ne (by omega)]; omega
        generalize ma_up (cAdv c1) (28 + x) 6 (k : Int) = c3 at *
        generalize ma_up (mAdv m2) 81 x (k : Int) = m3 at *
        have hb3 := cch_b r3.1.c
        have hch3 := r3.1.ch
        unfold mHome2 at eM
        by_cases h33 : cch c3 = 33
        · rw [c_skip1 r3.1.c (by omega) h33, Option.bind_some, if_neg (sw1 rfl)] at eC
          rw [m_takes0 r3.1.m r3.1.w (by omega) (by omega), Option.bind_some, if_pos (sw0 rfl)] at eM
          dsimp only at eM
          rw [m_207b hx r3.1.m r3.1.w (by omega)] at eM
          have r4 := r3.sm (a := 82) (v := -1) (by omega)
          have s4 := s3.sm (a := 82) (v := -1) hx (by omega)
          obtain ⟨r5, k5, j5, e5⟩ := r4.adv (by omega)
          have s5 := s4.adv hx
          have r6 := (r5.sc (j := 7) (v := 0) hx s5.1 (by omega)).sm (a := 83) (v := 0) (by omega)
          have s6 := (s5.sc (j := 7) (v := 0) hx (by omega)).sm (a := 83) (v := 0) hx (by omega)
          refine fin 1 _ _ (Or.inr rfl) eC eM ⟨(pc3.tr k5.p).up (by omega), ((pm3.up (by omega)).tr j5.p).up (by omega), Or.inl ⟨rfl, r6.close hx s6.2.1 s6.2.2.1 ?_ s6.2.2.2, ?_⟩⟩
          · refine ⟨?_, ?_, ?_, ?_, ?_, ?_⟩
            · rw [ma_up_at (by omega), show cAdv c3 (28 + x) = c3 (28 + x) from ma_up_ne (by omega), v6, ma_up_ne (by omega)]
              rw [show mAdv (ma_up m3 82 x (-1)) 81 = ma_up m3 82 x (-1) 81 from ma_up_ne (by omega), ma_up_ne (by omega), w81]
            · unfold rtold
              rw [ma_up_at (by omega), show cAdv c3 (28 + x) = c3 (28 + x) from ma_up_ne (by omega), v6, Int.toNat_natCast, ma_up_ne (by omega), show cAdv c3 (24 + k) = c3 (24 + k) from ma_up_ne (by omega), v24]
              omega
            · rw [ma_up_at (by omega), show cAdv c3 (28 + x) = c3 (28 + x) from ma_up_ne (by omega), v8, ma_up_ne (by omega)]
              rw [show mAdv (ma_up m3 82 x (-1)) 82 = ma_up m3 82 x (-1) 82 from ma_up_ne (by omega), ma_up_self]
            · left
              rw [ma_up_at (by omega), show cAdv c3 (28 + x) = c3 (28 + x) from ma_up_ne (by omega), v8]
            · rw [ma_up_self, ma_up_self]
            · left
              rw [ma_up_self]
          · show fc 54 2 ≤ ma_up (cAdv c3) (28 + x) 7 0 54 2
            rw [ma_up_ne (by omega)]
            omega
        · by_cases h94 : cch c3 = 94
          · obtain ⟨r4, k4, j4, e4⟩ := r3.adv (by omega)
            have s4 := s3.adv hx
            rw [c_skip0 r3.1.c (by omega) h33, Option.bind_some, if_pos (sw0 rfl)] at eC
            dsimp only at eC
            rw [c_skip1 r3.1.c (by omega) h94, Option.bind_some, if_neg (sw1 rfl)] at eC
            rw [m_takes1 r3.1.m r3.1.w (by omega) (by omega), Option.bind_some, if_neg (sw1 rfl), if_pos (show 0 ≤ (x : Int) ∧ (x : Int) < 8 by omega)] at eM
            dsimp only at eC eM
            have y6 : cAdv c3 (28 + x) 6 = k := by rw [show cAdv c3 (28 + x) = c3 (28 + x) from ma_up_ne (by omega), v6]
            have y7 : cAdv c3 (28 + x) 7 = 1 := by rw [show cAdv c3 (28 + x) = c3 (28 + x) from ma_up_ne (by omega), v7]
            have y24 : cAdv c3 (24 + k) 0 = 1 := by rw [show cAdv c3 (24 + k) = c3 (24 + k) from ma_up_ne (by omega), v24]
            have z81 : mAdv m3 81 x = k := by rw [show mAdv m3 81 = m3 81 from ma_up_ne (by omega), w81]
            rw [z81] at eM
            have pc4 : PC fc (cAdv c3) := pc3.tr k4.p
            have pm4 : PM fm (mAdv m3) := pm3.tr j4.p
            have le4 : fc 54 2 ≤ cAdv c3 54 2 := by omega
            generalize cAdv c3 = c4 at *
            generalize mAdv m3 = m4 at *
            have hb4 := cch_b r4.1.c
            have hch4 := r4.1.ch
            by_cases hl4 : 65 ≤ cch c4 ∧ cch c4 < 65 + 4
            · obtain ⟨l, hl5⟩ : ∃ l : Nat, cch c4 = 65 + l := ⟨(cch c4 - 65).toNat, by omega⟩
              have el : cch c4 - 65 = l := by omega
              rw [c_letter1 r4.1.c (by omega) (by omega) hl4.1 hl4.2, Option.bind_some] at eC
              dsimp only at eC
              rw [el, q_swn (show -2147483648 ≤ (l : Int) ∧ (l : Int) ≤ 2147483647 by omega), if_neg (show ¬ (l : Int) < 0 by omega), q_swn (show -2147483648 ≤ (k : Int) ∧ (k : Int) ≤ 2147483647 by omega)] at eC
              have bad : (m4 67 l = 0 ∨ (m4 67 l = 1 ∧ (k : Int) = l)) → p_Reader_readHomes (28 + x) c1 g = some (0, c4, g) → ∃ b fd fn, cTail x fc g = some (b, fd, g) ∧ mHome x m2 g = some (fn, g) ∧ PC fc fd ∧ PM fm fn ∧ ((b = 1 ∧ RR 8 18 fd fn ∧ fc 54 2 ≤ fd 54 2) ∨ (b = 0 ∧ Fail fd fn)) := by
                intro hbad eC2
                have fl := r4.1.back (by omega)
                rw [m_regionB (k := l) r4.1.m r4.1.w (by omega) (by omega) (by omega) hbad, Option.bind_some] at eM
                have pm5 : PM fm (mWr (ma_up (mAdv m4) 60 8 (mAdv m4 60 8 - 1))) := ((pm4.up (by omega)).up (by omega)).up (by omega)
                dsimp only at eM
                generalize mWr (ma_up (mAdv m4) 60 8 (mAdv m4 60 8 - 1)) = mz at fl eM pm5
                obtain ⟨fn, a1, a2⟩ := m_207W (f := mz) (g := g) (s := l) hx fl.1
                exact fin 0 c4 fn (Or.inl rfl) eC2 (eM.trans a1) ⟨pc4, pm5.tr a2.1, Or.inr ⟨rfl, a2.fail fl⟩⟩
              by_cases hkl : l = k
              · rw [if_pos (show (l : Int) = k by omega)] at eC
                refine bad (Or.inr ⟨?_, by omega⟩) eC
                rcases r4.2.1 l (by omega) with ⟨q1, q2⟩ | ⟨q1, q2, q3⟩
                · rw [hkl] at q1
                  omega
                · exact q2
              · rw [if_neg (show ¬ (l : Int) = k by omega), if_pos (show 0 ≤ (l : Int) ∧ (l : Int) < 4 by omega), Int.toNat_natCast] at eC
                rcases r4.2.1 l (by omega) with ⟨q1, q2⟩ | ⟨q1, q2, q3⟩
                · rw [if_pos (sw0 q1)] at eC
                  exact bad (Or.inl q2) eC
                · rw [if_neg (sw1 q1)] at eC
                  obtain ⟨r5, k5, j5, e5⟩ := r4.adv (by omega)
                  have s5 := s4.adv hx
                  rw [m_region1 (k := l) r4.1.m r4.1.w (by omega) (by omega) (by omega) q2 (by omega), Option.bind_some] at eM
                  dsimp only at eM
                  rw [m_207a hx (by omega)] at eM
                  have r6 := ((r5.sc (j := 8) (v := l) hx s5.1 (by omega)).sm (a := 82) (v := l) (by omega)).sm (a := 83) (v := 1) (by omega)
                  have s6 := ((s5.sc (j := 8) (v := l) hx (by omega)).sm (a := 82) (v := l) hx (by omega)).sm (a := 83) (v := 1) hx (by omega)
                  refine fin 1 _ _ (Or.inr rfl) eC eM ⟨(pc4.tr k5.p).up (by omega), ((pm4.tr j5.p).up (by omega)).up (by omega), Or.inl ⟨rfl, r6.close hx s6.2.1 s6.2.2.1 ?_ s6.2.2.2, ?_⟩⟩
                  · have a6 : cAdv c4 (28 + x) = c4 (28 + x) := ma_up_ne (by omega)
                    have a24 : ∀ r : Nat, r < 4 → cAdv c4 (24 + r) = c4 (24 + r) := fun r hr => ma_up_ne (by omega)
                    refine ⟨?_, ?_, ?_, ?_, ?_, ?_⟩
                    · rw [ma_up_at (by omega), a6, y6, ma_up_ne (by omega), ma_up_ne (by omega), show mAdv m4 81 = m4 81 from ma_up_ne (by omega), z81]
                    · unfold rtold
                      rw [ma_up_at (by omega), a6, y6, Int.toNat_natCast, ma_up_ne (by omega), a24 k (by omega), y24]
                      omega
                    · rw [ma_up_self, ma_up_ne (by omega), ma_up_self]
                    · right
                      unfold rtold
                      rw [ma_up_self, ma_up_at (by omega), ma_up_at (by omega), a6, y6, y7, Int.toNat_natCast, ma_up_ne (by omega), a24 l (by omega), q1]
                      omega
                    · rw [ma_up_at (by omega), a6, y7, ma_up_self]
                    · right
                      rw [ma_up_at (by omega), a6, y7]
                  · show fc 54 2 ≤ ma_up (cAdv c4) (28 + x) 8 (l : Int) 54 2
                    rw [ma_up_ne (by omega)]
                    omega
            · rw [c_letter0 r4.1.c (by omega) (by omega) hl4, Option.bind_some, if_pos (show q_sw (-1) < 0 by decide)] at eC
              rw [m_region0 r4.1.m r4.1.w (by omega), Option.bind_some] at eM
              dsimp only at eM
              have fl := r4.1.fail
              obtain ⟨fn, a1, a2⟩ := m_207W (f := mWr m4) (g := g) (s := 0) hx mWr_w
              exact fin 0 c4 fn (Or.inl rfl) eC (eM.trans a1) ⟨pc4, (pm4.up (by omega)).tr a2.1, Or.inr ⟨rfl, a2.fail fl⟩⟩
          · rw [c_skip0 r3.1.c (by omega) h33, Option.bind_some, if_pos (sw0 rfl)] at eC
            dsimp only at eC
            rw [c_skip0 r3.1.c (by omega) h94, Option.bind_some, if_pos (sw0 rfl)] at eC
            rw [m_takes0 r3.1.m r3.1.w (by omega) (by omega), Option.bind_some, if_pos (sw0 rfl)] at eM
            dsimp only at eM
            rw [m_207c hx r3.1.m r3.1.w (by omega)] at eM
            have r6 := (r3.sm (a := 82) (v := -1) (by omega)).sm (a := 83) (v := 1) (by omega)
            have s6 := (s3.sm (a := 82) (v := -1) hx (by omega)).sm (a := 83) (v := 1) hx (by omega)
            refine fin 1 _ _ (Or.inr rfl) eC eM ⟨pc3, (pm3.up (by omega)).up (by omega), Or.inl ⟨rfl, r6.close hx s6.2.1 s6.2.2.1 ?_ s6.2.2.2, le3⟩⟩
            refine ⟨?_, ?_, ?_, ?_, ?_, ?_⟩
            · rw [v6, ma_up_ne (by omega), ma_up_ne (by omega), w81]
            · unfold rtold
              rw [v6, Int.toNat_natCast, v24]
              omega
            · rw [v8, ma_up_ne (by omega), ma_up_self]
            · left
              exact v8
            · rw [v7, ma_up_self]
            · right
              exact v7
    · have fl := r1.1.fail
      have eM : mHome x m2 g = mHome2 x (ma_up (mWr m2) 81 x 0) g := by
        unfold mHome
        rw [m_region0 r1.1.m r1.1.w (by omega), Option.bind_some]
      have w1 : WM (mWr m2) (ma_up (mWr m2) 81 x 0) := (WM.rf _).up (by omega)
      obtain ⟨fn, a1, a2⟩ := m_home2W (f := ma_up (mWr m2) 81 x 0) (g := g) hx (by rw [w1.2.2]; exact mWr_w)
      exact fin 0 c1 fn (Or.inl rfl) (c_homes0 r1.1.c hx hl) (eM.trans a1) ⟨pc1, (pm1.up (by omega)).tr (w1.tr a2).1, Or.inr ⟨rfl, (w1.tr a2).fail fl⟩⟩
  · rw [m_take0 h.1.m hw (by omega) (by omega), Option.bind_some]
    obtain ⟨fn, a1, a2⟩ := m_homeW (f := mWr m1) (g := g) hx (mWr_OK h.1.m) mWr_w
    exact ⟨0, fc, fn, c_tail0 hc h62, a1, PC.rf _, (pm0.up (by omega)).tr a2.1, Or.inr ⟨rfl, a2.fail h.1.fail⟩⟩
end HO
