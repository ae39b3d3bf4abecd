/-! ===== sections, regions, symbols of both ===== -/
theorem WF.lt {K : Nat → Int} {m m2 : Int} (h : WF K m m2 0 1) : m < m2 := by
  by_cases hq : m < m2
  · exact hq
  · unfold WF at h
    rw [show (m2 - m).toNat = 0 by omega] at h
    exact absurd h (by simp [wfs])
section ST
variable {fc fm f g : q_F} {x : Nat}
theorem m_24W {k : Nat} {s : Int} (hw : f 60 9 = 1) : p_Mod_readSection_24 k s f g = some (f, g) := by
  unfold p_Mod_readSection_24
  rw [m_freshW hw, Option.bind_some, if_neg (sw1 hw)]
theorem m_24 {k : Nat} (hk : k < 8) (hw : f 60 9 = 0) (h22 : 0 ≤ f 60 22 ∧ f 60 22 < 8) : p_Mod_readSection_24 k 1 f g = ((p_Mod_takes (64) (ma_up (mTell f k) 79 k (mTell f k 60 14)) g).bind fun x13 => if q_sw x13.1 = 0 then p_Mod_readSection_95 k x13.2.1 x13.2.2 else (p_Mod_expression x13.2.1 x13.2.2).bind fun x16 => p_Mod_readSection_95 k x16.1 x16.2) := by
  unfold p_Mod_readSection_24
  have e1 : ma_up f 76 k 1 60 = f 60 := ma_up_ne (by omega)
  have e2 : ma_up (ma_up f 76 k 1) 78 k (f 60 22) 60 = f 60 := (ma_up_ne (by omega)).trans e1
  have e3 : ma_up (ma_up (ma_up f 76 k 1) 78 k (f 60 22)) 75 (f 60 22).toNat k 60 = f 60 := (ma_up_ne (by omega)).trans e2
  rw [m_fresh1 hw, Option.bind_some, if_pos (sw0 hw), if_pos (by omega)]
  simp only [q_let]
  rw [if_pos (by omega), Int.toNat_natCast, q_nz1, e1, e2, if_pos h22, e3, if_pos (by omega)]
  rfl
theorem section_pair (h : RR 8 18 fc fm) : ∃ b fd fn, p_Reader_readSection fc g = some (b, fd, g) ∧ p_Mod_readSection fm g = some (fn, g) ∧ PC fc fd ∧ PM fm fn ∧ ((b = 1 ∧ RR 8 18 fd fn ∧ fc 54 2 ≤ fd 54 2) ∨ (b = 0 ∧ Fail fd fn)) := by
  have hc := h.1.c
  have hb := cch_b hc
  have hn := hc.1.2.1
  have hch := h.1.ch
  have hw := h.1.w
  have hp0 := hc.2.1
  unfold p_Reader_readSection p_Reader_readSection_28 p_Mod_readSection
  by_cases hl : 65 ≤ cch fc ∧ cch fc < 65 + 8
  · obtain ⟨k, hk⟩ : ∃ k : Nat, cch fc = 65 + k := ⟨(cch fc - 65).toNat, by omega⟩
    have ek : cch fc - 65 = k := by omega
    have em : mch fm - 65 = k := by omega
    obtain ⟨t1, t2, t3, t4, t5⟩ := h.2.2.2.2.1.2.2.1 k (by omega)
    obtain ⟨r1, k1, j1, e1⟩ := h.adv (by omega)
    have q76 : mAdv fm 76 = fm 76 := ma_up_ne (by omega)
    have q28 : cAdv fc (28 + k) = fc (28 + k) := ma_up_ne (by omega)
    rw [c_letter1 hc (by omega) (by omega) hl.1 hl.2, Option.bind_some, m_letter1 h.1.m hw (by omega) (by omega) (by omega) (by omega), Option.bind_some]
    dsimp only
    rw [ek, em, q_swn (show -2147483648 ≤ (k : Int) ∧ (k : Int) ≤ 2147483647 by omega), if_neg (show ¬ (k : Int) < 0 by omega), if_pos (show 0 ≤ (k : Int) ∧ (k : Int) < 8 by omega), if_pos (show 0 ≤ (k : Int) ∧ (k : Int) < 8 by omega), Int.toNat_natCast]
    rcases t2 with t2 | t2
    · rw [if_pos (sw0 t2), if_pos (show q_sw (mAdv fm 76 k) = 0 by rw [q76]; exact sw0 (t1 ▸ t2))]
      have room := r1.2.2.2.2.1.room (k := k) (by omega) (by rw [q28]; exact t2)
      have c22 := r1.2.2.2.2.1.1
      rw [m_24 (k := k) (by omega) r1.1.w (by rw [← c22]; exact room)]
      simp only [q_let]
      rw [show ma_up fc 54 2 (fc 54 2 + 1) = cAdv fc from rfl, c_tellS (k := k) (by omega) room, Option.bind_some, if_pos (show 0 ≤ (k : Int) ∧ (k : Int) < 8 by omega)]
      dsimp only
      have r2 := (r1.tell (k := k) (by omega) (by rw [q28]; exact t2)).sm (a := 79) (v := mTell (mAdv fm) k 60 14) (by omega)
      have g28 : ∀ j, j ≠ 0 → cTell (cAdv fc) k (28 + k) j = fc (28 + k) j := fun j hj => by
        unfold cTell
        rw [ma_up_ne (by omega), ma_up_ne (by omega), ma_up_at hj, q28]
      have g0 : cTell (cAdv fc) k (28 + k) 0 = 1 := by
        unfold cTell
        rw [ma_up_ne (by omega), ma_up_ne (by omega), ma_up_self]
      have g54 : cTell (cAdv fc) k 54 2 = fc 54 2 + 1 := by
        unfold cTell
        rw [ma_up_ne (by omega), ma_up_ne (by omega), ma_up_ne (by omega), e1]
      have g79 : ma_up (mTell (mAdv fm) k) 79 k (mTell (mAdv fm) k 60 14) 79 k = ma_up (mTell (mAdv fm) k) 79 k (mTell (mAdv fm) k 60 14) 60 14 := by
        rw [ma_up_self, ma_up_ne (by omega)]
      have pc2 : PC fc (cTell (cAdv fc) k) := ((k1.p.up (by omega)).up (by omega)).up (by omega)
      have pm2 : PM fm (ma_up (mTell (mAdv fm) k) 79 k (mTell (mAdv fm) k 60 14)) := ((((j1.p.up (by omega)).up (by omega)).up (by omega)).up (by omega)).up (by omega)
      have f1 := (t5 t2).1
      have f7 := (t5 t2).2.1
      have f8 := (t5 t2).2.2
      rw [← g28 1 (by omega)] at f1
      rw [← g28 7 (by omega)] at f7
      rw [← g28 8 (by omega)] at f8
      generalize cTell (cAdv fc) k = c2 at *
      generalize ma_up (mTell (mAdv fm) k) 79 k (mTell (mAdv fm) k 60 14) = m2 at *
      have hb2 := cch_b r2.1.c
      have hch2 := r2.1.ch
      by_cases h64 : cch c2 = 64
      · obtain ⟨r3, k3, j3, e3⟩ := r2.adv (by omega)
        rw [c_skip1 r2.1.c (by omega) h64, Option.bind_some, if_neg (sw1 rfl), m_takes1 r2.1.m r2.1.w (by omega) (by omega), Option.bind_some, if_neg (sw1 rfl)]
        dsimp only
        have q3 : cAdv c2 (28 + k) = c2 (28 + k) := ma_up_ne (by omega)
        have r4 := r3.sc (j := 1) (v := 1) (by omega) (by rw [q3]; exact g0) (by omega)
        have r5 := r4.sc (j := 2) (v := ma_up (cAdv c2) (28 + k) 1 1 11 2) (by omega) (by rw [ma_up_at (by omega), q3]; exact g0) (by omega)
        have pc5 : PC fc (ma_up (ma_up (cAdv c2) (28 + k) 1 1) (28 + k) 2 (ma_up (cAdv c2) (28 + k) 1 1 11 2)) := ((pc2.tr k3.p).up (by omega)).up (by omega)
        have pm5 : PM fm (mAdv m2) := pm2.tr j3.p
        have g5 : ∀ j, j ≠ 1 → j ≠ 2 → ma_up (ma_up (cAdv c2) (28 + k) 1 1) (28 + k) 2 (ma_up (cAdv c2) (28 + k) 1 1 11 2) (28 + k) j = c2 (28 + k) j := fun j h1 h2 => by rw [ma_up_at h2, ma_up_at h1, q3]
        have g51 : ma_up (ma_up (cAdv c2) (28 + k) 1 1) (28 + k) 2 (ma_up (cAdv c2) (28 + k) 1 1 11 2) (28 + k) 1 = 1 := by rw [ma_up_at (by omega), ma_up_self]
        have g52 : ma_up (ma_up (cAdv c2) (28 + k) 1 1) (28 + k) 2 (ma_up (cAdv c2) (28 + k) 1 1 11 2) (28 + k) 2 = ma_up (ma_up (cAdv c2) (28 + k) 1 1) (28 + k) 2 (ma_up (cAdv c2) (28 + k) 1 1 11 2) 11 2 := by rw [ma_up_self, ma_up_ne (by omega), ma_up_ne (by omega), ma_up_ne (by omega)]
        have g554 : ma_up (ma_up (cAdv c2) (28 + k) 1 1) (28 + k) 2 (ma_up (cAdv c2) (28 + k) 1 1 11 2) 54 2 = fc 54 2 + 2 := by rw [ma_up_ne (by omega), ma_up_ne (by omega), e3, g54]; omega
        have g579 : mAdv m2 79 k = mAdv m2 60 14 := by rw [show mAdv m2 79 = m2 79 from ma_up_ne (by omega), show mAdv m2 60 14 = m2 60 14 from ma_up_ne2 (by omega)]; exact g79
        generalize ma_up (ma_up (cAdv c2) (28 + k) 1 1) (28 + k) 2 (ma_up (cAdv c2) (28 + k) 1 1 11 2) = c5 at *
        generalize mAdv m2 = m5 at *
        obtain ⟨b, c6, m6, u1, u2, u3, u4, u5⟩ := expr_pair (g := g) r5.1
        rw [u1, u2, Option.bind_some, Option.bind_some]
        dsimp only
        have pc6 : PC fc c6 := pc5.tr u3.p
        have pm6 : PM fm m6 := pm5.tr u4.k.p
        have row : c6 (28 + k) = c5 (28 + k) := u3.1 _ (by omega) (by omega) (by omega) (by omega)
        have l5 := u3.2.2.1
        have nn := u3.n
        rcases u5 with ⟨rfl, v1, v2⟩ | ⟨rfl, v1, v2⟩
        · rw [if_neg (sw1 rfl)]
          have r6 := r5.x v1 u3 u4
          have r7 := (r6.sc (j := 3) (v := c6 11 2) (by omega) (by rw [row, g5 0 (by omega) (by omega)]; exact g0) (by omega)).sm (a := 80) (v := m6 60 14) (by omega)
          have m0 := r5.1.m0
          have q12 : ma_up c6 (28 + k) 3 (c6 11 2) 12 = c6 12 := ma_up_ne (by omega)
          have q11 : ma_up c6 (28 + k) 3 (c6 11 2) 11 = c6 11 := ma_up_ne (by omega)
          obtain ⟨b, fd, fn, w1, w2, w3, w4, w5⟩ := body_pair (g := g) (x := k) (by omega) r7 (by rw [ma_up_at (by omega), row, g5 0 (by omega) (by omega)]; exact g0) (Or.inr ⟨by rw [ma_up_at (by omega), row]; exact g51, by
              unfold exok
              rw [ma_up_at (by omega), ma_up_self, row, g52, q12, q11, ma_up_ne (by omega), ma_up_self, u4.1 79 (by omega) (by omega) (by omega) (by omega) (by omega), g579, r5.1.mm, v1.mm]
              refine ⟨rfl, rfl, by rw [← r5.1.mm]; exact m0, ?_, Int.le_refl _, ?_⟩
              · rw [← r5.1.mm, ← v1.mm]
                exact v2.lt
              · rw [← r5.1.mm, ← v1.mm]
                exact v2⟩) (by rw [ma_up_at (by omega), row, g5 7 (by omega) (by omega)]; exact f7) (by rw [ma_up_at (by omega), row, g5 8 (by omega) (by omega)]; exact f8) (by rw [ma_up_ne (by omega)]; omega)
          refine ⟨b, fd, fn, w1, w2, (pc6.up (by omega)).tr w3, pm6.tr w4, ?_⟩
          rcases w5 with ⟨z1, z2, z3⟩ | z1
          · rw [ma_up_ne (by omega)] at z3
            exact Or.inl ⟨z1, z2, by omega⟩
          · exact Or.inr z1
        · rw [if_pos (sw0 rfl)]
          have fl : Fail c6 m6 := by
            refine ⟨v1, v2, ?_⟩
            have q := r5.1.m
            have q6 := u4.2.1 6 (by omega) (by omega) (by omega)
            have qt : m6 66 = m5 66 := u4.1 66 (by omega) (by omega) (by omega) (by omega) (by omega)
            have qq := u3.2.2.2.2.2 r5.1.c.2.2
            have qn := r5.1.1.2.1
            have qp := r5.1.2.1.2.1
            unfold mOK
            rw [q6, qt]
            exact ⟨q.1, by omega, by omega⟩
          obtain ⟨fn, w1, w2⟩ := m_95W (g := g) (x := k) (by omega) fl.2.2 fl.1
          exact ⟨0, c6, fn, rfl, w1, pc6, pm6.tr w2.1, Or.inr ⟨rfl, w2.fail fl⟩⟩
      · rw [c_skip0 r2.1.c (by omega) h64, Option.bind_some, if_pos (sw0 rfl), m_takes0 r2.1.m r2.1.w (by omega) (by omega), Option.bind_some, if_pos (sw0 rfl)]
        dsimp only
        have r7 := r2.sm (a := 80) (v := m2 60 14) (by omega)
        obtain ⟨b, fd, fn, w1, w2, w3, w4, w5⟩ := body_pair (g := g) (x := k) (by omega) r7 g0 (Or.inl ⟨f1, by rw [ma_up_ne (by omega), ma_up_self]; exact g79⟩) f7 f8 (by omega)
        refine ⟨b, fd, fn, w1, w2, pc2.tr w3, pm2.tr w4, ?_⟩
        rcases w5 with ⟨z1, z2, z3⟩ | z1
        · exact Or.inl ⟨z1, z2, by omega⟩
        · exact Or.inr z1
    · rw [if_neg (sw1 t2), if_neg (show ¬ q_sw (mAdv fm 76 k) = 0 by rw [q76]; exact sw1 (t1 ▸ t2))]
      unfold p_Mod_readSection_24
      rw [m_fresh0 (mAdv_w hw), Option.bind_some, if_neg (sw1 mWr_w)]
      exact ⟨0, fc, _, rfl, rfl, PC.rf _, ((j1.p.up (by omega)).up (by omega)), Or.inr ⟨rfl, h.1.back (by omega)⟩⟩
  · rw [c_letter0 hc (by omega) (by omega) hl, Option.bind_some, if_pos (show q_sw (-1) < 0 by decide), m_letter0 h.1.m hw (by omega) (by omega) (by omega), Option.bind_some]
    dsimp only
    have e : ∀ s, p_Mod_readSection_24 0 s (mWr fm) g = some (mWr fm, g) := fun s => m_24W (k := 0) mWr_w
    rw [if_pos (show 0 ≤ (0 : Int) ∧ (0 : Int) < 8 by omega), e, e, ite_self]
    exact ⟨0, fc, _, rfl, rfl, PC.rf _, (PM.rf fm).up (by omega), Or.inr ⟨rfl, h.1.fail⟩⟩
end ST
