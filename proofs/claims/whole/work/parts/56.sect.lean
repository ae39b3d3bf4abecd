/-! ===== a section of both ===== -/
section SP
variable {fc fm f g : q_F} {x : Nat}
theorem m_121W {n : Nat} (hw : f 60 9 = 1) : p_Mod_readSection_121 (n + 1) x f g = p_Mod_readSection_145 x f g := by
  rw [p_Mod_readSection_121, if_neg (sw1 hw)]
theorem m_95W (hx : x < 8) (ho : mOK f) (hw : f 60 9 = 1) : ∃ fn, p_Mod_readSection_95 x f g = some (fn, g) ∧ WM f fn := by
  have w1 : WM f (ma_up f 80 x (f 60 14)) := (WM.rf f).up (by omega)
  unfold p_Mod_readSection_95
  rw [if_pos (by omega)]
  simp only [q_let]
  rw [Int.toNat_natCast, m_takeW (by rw [w1.2.2]; exact hw), Option.bind_some, if_pos (by omega)]
  have w2 : WM f (ma_up (ma_up f 80 x (f 60 14)) 84 x (ma_up f 80 x (f 60 14) 60 37)) := w1.up (by omega)
  obtain ⟨fn, e1, e2⟩ := m_145W (g := g) hx (w2.ok ho) (by rw [w2.2.2]; exact hw)
  exact ⟨fn, by rw [← e1]; exact m_121W (by rw [w2.2.2]; exact hw), w2.tr e2⟩
theorem c_tellS {k : Nat} (hk : k < 8) (h : 0 ≤ f 3 7 ∧ f 3 7 < 8) : p_Plan_tellSection k f g = some (cTell f k, g) := by
  unfold p_Plan_tellSection p_Plan_tellSection_39
  rw [q_swn (show -2147483648 ≤ (8 : Int) ∧ (8 : Int) ≤ 2147483647 by omega), q_swn (by omega), if_neg (by omega), if_pos (by omega)]
  simp only [q_let]
  have e : ma_up f (28 + (k : Int).toNat) 0 1 3 = f 3 := ma_up_ne (by omega)
  rw [if_pos (show 0 ≤ ma_up f (28 + (k : Int).toNat) 0 1 3 7 ∧ ma_up f (28 + (k : Int).toNat) 0 1 3 7 < 8 by rw [e]; exact h)]
  have e2 : ∀ z, ma_up (ma_up f (28 + (k : Int).toNat) 0 1) 14 z k 3 = f 3 := fun z => (ma_up_ne (by omega)).trans e
  rw [e, e2, Int.toNat_natCast]
  rfl
theorem body_pair (hx : x < 8) (h : RR x 18 fc (ma_up fm 80 x (fm 60 14))) (ht : fc (28 + x) 0 = 1) (ha : seAd fc (ma_up fm 80 x (fm 60 14)) x) (h7 : fc (28 + x) 7 = 1) (h8 : fc (28 + x) 8 = -1) (hp : 0 < fc 54 2) : ∃ b fd fn, p_Reader_readSection_110 (28 + x) fc g = some (b, fd, g) ∧ p_Mod_readSection_95 x fm g = some (fn, g) ∧ PC fc fd ∧ PM fm fn ∧ ((b = 1 ∧ RR 8 18 fd fn ∧ fc 54 2 ≤ fd 54 2) ∨ (b = 0 ∧ Fail fd fn)) := by
  unfold p_Reader_readSection_110 p_Reader_readSection_157 p_Mod_readSection_95
  rw [if_pos (by omega), if_pos (show 0 ≤ (x : Int) ∧ (x : Int) < 8 by omega)]
  simp only [q_let]
  rw [Int.toNat_natCast]
  have pm0 : PM fm (ma_up fm 80 x (fm 60 14)) := (PM.rf fm).up (by omega)
  generalize ma_up fm 80 x (fm 60 14) = m1 at h ha pm0
  have hc := h.1.c
  have hb := cch_b hc
  have hn := hc.1.2.1
  have hch := h.1.ch
  have hw := h.1.w
  have e158 : ∀ (a b : q_F), p_Reader_readSection_158 0 a b = some (0, a, b) := fun a b => by
    unfold p_Reader_readSection_158
    exact if_pos (Or.inl rfl)
  by_cases h123 : cch fc = 123
  · obtain ⟨r1, k1, j1, e1⟩ := h.adv (by omega)
    rw [c_skip1 hc (by omega) h123, Option.bind_some, if_neg (sw1 rfl), m_take1 h.1.m hw (by omega) (by omega), Option.bind_some, if_pos (show 0 ≤ (x : Int) ∧ (x : Int) < 8 by omega)]
    dsimp only
    have t1 : cAdv fc (28 + x) = fc (28 + x) := ma_up_ne (by omega)
    have ht1 : cAdv fc (28 + x) 0 = 1 := by rw [t1]; exact ht
    have r2 := (r1.sc (j := 4) (v := cAdv fc 8 2) hx ht1 (by omega)).sm (a := 84) (v := mAdv m1 60 37) (by omega)
    have eI : p_Reader_readItems (28 + x) (cAdv fc) g = p_Reader_readItems_16 1000 (28 + x) 0 (ma_up (cAdv fc) (28 + x) 4 (cAdv fc 8 2)) g := by
      unfold p_Reader_readItems
      rw [if_pos (by omega)]
      rfl
    rw [eI]
    have pc2 : PC fc (ma_up (cAdv fc) (28 + x) 4 (cAdv fc 8 2)) := k1.p.up (by omega)
    have pm2 : PM fm (ma_up (mAdv m1) 84 x (mAdv m1 60 37)) := (pm0.tr j1.p).up (by omega)
    have q8 : cAdv fc 8 = fc 8 := ma_up_ne (by omega)
    have q37 : mAdv m1 60 37 = m1 60 37 := ma_up_ne2 (by omega)
    have qi := h.2.2.2.1
    have a1 : ma_up (cAdv fc) (28 + x) 4 (cAdv fc 8 2) (28 + x) 4 = fc 8 2 := by rw [ma_up_self, q8]
    have a2 : ma_up (mAdv m1) 84 x (mAdv m1 60 37) 84 x = fc 8 2 := by rw [ma_up_self, q37, qi.1]
    have a3 : ∀ j, j ≠ 4 → ma_up (cAdv fc) (28 + x) 4 (cAdv fc 8 2) (28 + x) j = fc (28 + x) j := fun j hj => by rw [ma_up_at hj, t1]
    have a4 : ∀ a, a ≠ 28 + x → a ≠ 54 → ma_up (cAdv fc) (28 + x) 4 (cAdv fc 8 2) a = fc a := fun a h1 h2 => (ma_up_ne h1).trans (ma_up_ne h2)
    have a5 : ∀ a, a ≠ 60 → a ≠ 84 → ma_up (mAdv m1) 84 x (mAdv m1 60 37) a = m1 a := fun a h1 h2 => (ma_up_ne h2).trans (ma_up_ne h1)
    have a6 : ma_up (cAdv fc) (28 + x) 4 (cAdv fc 8 2) 54 2 = fc 54 2 + 1 := by rw [ma_up_ne (by omega)]; exact e1
    generalize ma_up (cAdv fc) (28 + x) 4 (cAdv fc 8 2) = c2 at *
    generalize ma_up (mAdv m1) 84 x (mAdv m1 60 37) = m2 at *
    have n2 := r2.1.c.1.2.1
    have p2 := r2.1.c.2.1
    rcases items_loop (g := g) hx 500 1000 1000 0 c2 m2 r2 (by omega) (by omega) (by omega) (by omega) (by omega) with ⟨fe, fp, b1, b2, b3, b4, b5, b6, b7, b8⟩ | ⟨fd, fn, b1, b2, b3, b4, b5⟩
    · rw [b7, b8, Option.bind_some, if_neg (sw1 rfl)]
      dsimp only
      have d1 : fe (28 + x) 0 = 1 := by rw [b1 _ _ (by omega), a3 _ (by omega)]; exact ht
      have r3 := b3.sc (j := 5) (v := fe 8 2) hx d1 (by omega)
      have c3 : cch (ma_up fe (28 + x) 5 (fe 8 2)) = 125 := by rw [cch_sc hx]; exact b4
      obtain ⟨r4, k4, j4, e4⟩ := r3.adv (by omega)
      have r5 := r4.sm (a := 85) (v := mAdv fp 60 37 - mAdv fp 84 x) (by omega)
      rw [c_skip1 r3.1.c (by omega) c3, Option.bind_some, if_neg (sw1 rfl)]
      dsimp only
      have g1 : ∀ j, j ≠ 5 → cAdv (ma_up fe (28 + x) 5 (fe 8 2)) (28 + x) j = c2 (28 + x) j := fun j hj => by
        rw [show cAdv (ma_up fe (28 + x) 5 (fe 8 2)) (28 + x) = ma_up fe (28 + x) 5 (fe 8 2) (28 + x) from ma_up_ne (by omega), ma_up_at hj, b1 _ _ (by omega)]
      have g5 : cAdv (ma_up fe (28 + x) 5 (fe 8 2)) (28 + x) 5 = fe 8 2 := by
        rw [show cAdv (ma_up fe (28 + x) 5 (fe 8 2)) (28 + x) = ma_up fe (28 + x) 5 (fe 8 2) (28 + x) from ma_up_ne (by omega), ma_up_self]
      have g2 : ∀ a, a ≠ 54 → a ≠ 28 + x → cAdv (ma_up fe (28 + x) 5 (fe 8 2)) a = fe a := fun a h1 h2 => (ma_up_ne h1).trans (ma_up_ne h2)
      have m79 : ∀ a, (79 ≤ a ∧ a ≤ 84) → ma_up (mAdv fp) 85 x (mAdv fp 60 37 - mAdv fp 84 x) a x = m2 a x := fun a h1 => by
        rw [ma_up_ne (by omega), show mAdv fp a = fp a from ma_up_ne (by omega), b2 _ _ (by omega)]
      have m85 : ma_up (mAdv fp) 85 x (mAdv fp 60 37 - mAdv fp 84 x) 85 x = fp 60 37 - m2 84 x := by
        rw [ma_up_self, show mAdv fp 84 = fp 84 from ma_up_ne (by omega), b2 84 x (by omega), show mAdv fp 60 37 = fp 60 37 from ma_up_ne2 (by omega)]
      have i3 := b3.2.2.2.1
      have s5 : SI x (cAdv (ma_up fe (28 + x) 5 (fe 8 2))) (ma_up (mAdv fp) 85 x (mAdv fp 60 37 - mAdv fp 84 x)) := by
        refine ⟨?_, ?_, ?_, fun k hk kx hkt => ?_⟩
        · rw [g1 0 (by omega), a3 0 (by omega)]
          exact ht
        · unfold seAd exok at *
          rw [g1 1 (by omega), g1 2 (by omega), g1 3 (by omega), a3 1 (by omega), a3 2 (by omega), a3 3 (by omega), m79 79 (by omega), m79 80 (by omega), a5 79 (by omega) (by omega), a5 80 (by omega) (by omega), g2 11 (by omega) (by omega), g2 12 (by omega) (by omega)]
          have e11 : fe 11 = fc 11 := by
            funext j
            rw [b1 11 j (by omega), a4 11 (by omega) (by omega)]
          have e12 : fe 12 = fc 12 := by
            funext j
            rw [b1 12 j (by omega), a4 12 (by omega) (by omega)]
          rw [e11, e12]
          exact ha
        · unfold seIt
          rw [g1 4 (by omega), g5, m79 84 (by omega), m85, a1, a2, g2 8 (by omega) (by omega)]
          have q0 := qi.2.1
          have q1 : c2 8 = fc 8 := a4 8 (by omega) (by omega)
          rw [q1] at b6
          exact ⟨rfl, by rw [i3.1]; omega, q0, b6, Int.le_refl _⟩
        · left
          rw [g1 4 (by omega), a1]
          have hk1 : ∀ j, cAdv (ma_up fe (28 + x) 5 (fe 8 2)) (28 + k) j = fc (28 + k) j := fun j => by
            rw [g2 (28 + k) (by omega) (by omega), b1 _ _ (by omega), a4 (28 + k) (by omega) (by omega)]
          rw [hk1] at hkt ⊢
          exact (h.2.2.2.2.2.1.1 k hk kx hkt).2.1.2.2.2.2
      obtain ⟨b, fd, fn, u1, u2, u3, u4, u5⟩ := homes_pair (g := g) hx r5 s5 (by rw [g1 7 (by omega), a3 7 (by omega)]; exact h7) (by rw [g1 8 (by omega), a3 8 (by omega)]; exact h8)
      refine ⟨b, fd, fn, u1, u2, ?_, ?_, ?_⟩
      · exact ((pc2.tr (b1.p.up (by omega))).tr k4.p).tr u3
      · exact (pm2.tr (b2.p.tr j4.p)).tr u4
      · rcases u5 with ⟨v1, v2, v3⟩ | v1
        · refine Or.inl ⟨v1, v2, ?_⟩
          rw [show ma_up fe (28 + x) 5 (fe 8 2) 54 = fe 54 from ma_up_ne (by omega)] at e4
          omega
        · exact Or.inr v1
    · obtain ⟨fo, w1, w2⟩ := m_145W (g := g) hx b3.2.2 b3.1
      rw [b4, b5, Option.bind_some, if_pos (sw0 rfl), e158]
      exact ⟨0, fd, fo, rfl, w1, pc2.tr b1.p, pm2.tr (b2.p.tr w2.1), Or.inr ⟨rfl, w2.fail b3⟩⟩
  · rw [c_skip0 hc (by omega) h123, Option.bind_some, if_pos (sw0 rfl), e158, m_take0 h.1.m hw (by omega) (by omega), Option.bind_some, if_pos (show 0 ≤ (x : Int) ∧ (x : Int) < 8 by omega)]
    dsimp only
    have w1 : WM (mWr m1) (ma_up (mWr m1) 84 x (mWr m1 60 37)) := (WM.rf _).up (by omega)
    rw [m_121W (by rw [w1.2.2]; exact mWr_w)]
    obtain ⟨fo, w2, w3⟩ := m_145W (g := g) hx (w1.ok (mWr_OK h.1.m)) (by rw [w1.2.2]; exact mWr_w)
    exact ⟨0, fc, fo, rfl, w2, PC.rf _, (pm0.up (by omega)).tr (w1.tr w3).1, Or.inr ⟨rfl, (w1.tr w3).fail h.1.fail⟩⟩
end SP
