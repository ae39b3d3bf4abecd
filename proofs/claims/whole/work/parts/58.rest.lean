/-! ===== regions and symbols of both ===== -/
section RS
variable {fc fm f g : q_F} {x : Nat}
theorem XR.mrow {a k : Nat} {v : Int} (h : XR fc fm) (ha : a ≠ 60 ∧ a ≠ 66 ∧ a ≠ 70 ∧ a ≠ 71) : XR fc (ma_up fm a k v) :=
  h.rows rfl rfl rfl rfl rfl rfl (ma_up_ne (by omega)) (ma_up_ne (by omega)) (ma_up_ne (by omega)) (by rw [ma_up_ne (by omega)]) (by rw [ma_up_ne (by omega)]) (by rw [ma_up_ne (by omega)]) (by rw [ma_up_ne (by omega)])
theorem XR.crow {a k : Nat} {v : Int} (h : XR fc fm) (ha : a ≠ 1 ∧ a ≠ 2 ∧ a ≠ 11 ∧ a ≠ 12 ∧ a ≠ 13 ∧ a ≠ 54) : XR (ma_up fc a k v) fm :=
  h.rows (ma_up_ne (by omega)) (ma_up_ne (by omega)) (ma_up_ne (by omega)) (ma_up_ne (by omega)) (ma_up_ne (by omega)) (ma_up_ne (by omega)) rfl rfl rfl rfl rfl rfl rfl
theorem m_r127 {s : Int} (hs : s = 0 ∨ s = 1) : p_Mod_readRegion_127 s f g = some (ma_up f 60 9 s, g) := by
  unfold p_Mod_readRegion_127
  rw [if_pos hs]
  rfl
theorem m_r94W {k : Nat} {s : Int} (hk : k < 4) (hw : f 60 9 = 1) : ∃ fn, p_Mod_readRegion_94 k s k f g = some (fn, g) ∧ WM f fn := by
  have w1 : WM f (ma_up f 69 k s) := (WM.rf f).up (by omega)
  unfold p_Mod_readRegion_94 p_Mod_readRegion_122
  rw [if_pos (by omega)]
  simp only [q_let]
  rw [Int.toNat_natCast, if_neg (sw1 (by rw [w1.2.2]; exact hw)), m_r127 (Or.inr rfl), ma_up_id (by rw [w1.2.2]; exact hw)]
  exact ⟨_, rfl, w1⟩
theorem m_r67W {k : Nat} {s : Int} (hk : k < 4) (hw : f 60 9 = 1) : ∃ fn, p_Mod_readRegion_67 k s k f g = some (fn, g) ∧ WM f fn := by
  have w1 : WM f (ma_up f 68 k s) := (WM.rf f).up (by omega)
  unfold p_Mod_readRegion_67
  rw [if_pos (by omega)]
  simp only [q_let]
  rw [Int.toNat_natCast, m_takeW (by rw [w1.2.2]; exact hw), Option.bind_some, if_neg (sw1 (w1.2.2.trans hw))]
  dsimp only
  obtain ⟨fn, e1, e2⟩ := m_r94W (f := ma_up f 68 k s) (g := g) (s := 0) hk (by rw [w1.2.2]; exact hw)
  exact ⟨fn, e1, w1.tr e2⟩
theorem m_r23W {k : Nat} {s : Int} (hw : f 60 9 = 1) : p_Mod_readRegion_23 k s f g = some (f, g) := by
  unfold p_Mod_readRegion_23
  rw [m_freshW hw, Option.bind_some, if_neg (sw1 hw)]
theorem mSet_OK {i : Int} (h : mOK f) (h1 : 0 ≤ i) (h2 : i ≤ f 60 6) : mOK (mSet f i) := by
  unfold mOK
  rw [show mSet f i 66 = f 66 from ma_up_ne (by decide), show mSet f i 60 6 = f 60 6 from ma_up_ne2 (by decide), show mSet f i 60 8 = i by simp [mSet, ma_up]]
  exact ⟨h.1, h1, h2⟩
theorem XR.nofail (h : XR fc fm) : Fail (cNum fc (cdg fc)) (mWr (mSet fm (mdg fm).2)) := by
  have hr := mdg_r h.m
  have hm := h.m
  refine ⟨mWr_w, ?_, mWr_OK (mSet_OK h.m (by have := h.m.2.1; omega) hr.2.1)⟩
  rw [show mWr (mSet fm (mdg fm).2) 60 8 = mSet fm (mdg fm).2 60 8 from ma_up_ne2 (by decide), show mSet fm (mdg fm).2 60 8 = (mdg fm).2 by simp [mSet, ma_up], show cNum fc (cdg fc) 54 2 = (cdg fc).2 by simp [cNum, ma_up], h.dg]
/-- a region: the class writes it at its end, the reference on the way -/
theorem RR.region {fd fn : q_F} {k : Nat} (h : RR 8 18 fc fm) (hk : k < 4) (hx : XR fd fn) (h54 : fc 54 2 ≤ fd 54 2) (rc : ∀ a, a ≠ 24 + k → a ≠ 54 → fd a = fc a) (rm : ∀ a, a ≠ 60 → a ≠ 67 → a ≠ 68 → a ≠ 69 → fn a = fm a) (r60 : ∀ j, j ≠ 8 → j ≠ 9 → fn 60 j = fm 60 j) (ro : ∀ r, r ≠ k → fn 67 r = fm 67 r ∧ fn 68 r = fm 68 r ∧ fn 69 r = fm 69 r) (rk : fd (24 + k) 0 = 1 ∧ fn 67 k = 1 ∧ fd (24 + k) 1 = fn 68 k ∧ fd (24 + k) 2 = fn 69 k ∧ 0 ≤ fd (24 + k) 1 ∧ 0 ≤ fd (24 + k) 2 ∧ fd (24 + k) 1 + fd (24 + k) 2 ≤ 512) : RR 8 18 fd fn := by
  obtain ⟨r1, r2, r3, r4, r5, r6, r7⟩ := h
  refine ⟨hx, fun r hr => ?_, ?_, ?_, ?_, ?_, ?_⟩
  · by_cases hq : r = k
    · subst hq
      exact Or.inr rk
    · rw [rc (24 + r) (by omega) (by omega), (ro r hq).1, (ro r hq).2.1, (ro r hq).2.2]
      exact r2 r hr
  · exact r3.ext (fun a _ _ => rc a (by omega) (by omega)) (fun a _ _ => rm a (by omega) (by omega) (by omega) (by omega))
  · exact r4.ext (by rw [rc 8 (by omega) (by omega)]) (rc 9 (by omega) (by omega)) (rc 10 (by omega) (by omega)) h54 (r60 _ (by omega) (by omega)) (rm 89 (by omega) (by omega) (by omega) (by omega)) (fun a _ _ c => by rw [rc a (by omega) (by omega)]; exact c) (fun a _ _ c d => by rw [rc a (by omega) (by omega)]; exact ⟨c, d⟩)
  · exact r5.ext (by rw [rc 3 (by omega) (by omega)]) (rc 14 (by omega) (by omega)) (fun a _ _ => by rw [rc a (by omega) (by omega)]; exact ⟨rfl, rfl, rfl, rfl, fun _ => rfl⟩) (r60 _ (by omega) (by omega)) (fun a _ _ => rm a (by omega) (by omega) (by omega) (by omega))
  · refine r6.ext (fun j _ _ => rc _ (by omega) (by omega)) (fun j _ _ => by rw [rm 79 (by omega) (by omega) (by omega) (by omega), rm 80 (by omega) (by omega) (by omega) (by omega), rm 81 (by omega) (by omega) (by omega) (by omega), rm 82 (by omega) (by omega) (by omega) (by omega), rm 83 (by omega) (by omega) (by omega) (by omega), rm 84 (by omega) (by omega) (by omega) (by omega), rm 85 (by omega) (by omega) (by omega) (by omega)]; exact ⟨rfl, rfl, rfl, rfl, rfl, rfl, rfl⟩) (by rw [rc 8 (by omega) (by omega)]; exact Int.le_refl _) (by rw [rc 11 (by omega) (by omega)]; exact Int.le_refl _) (fun j _ => by rw [rc 12 (by omega) (by omega)]) (fun a c1 c2 c => ?_)
    by_cases hq : a = 24 + k
    · rw [hq]
      exact rk.1
    · rw [rc a hq (by omega)]
      exact c
  · exact r7.full (fun v _ => rc _ (by omega) (by omega)) (fun v _ => by rw [rm 92 (by omega) (by omega) (by omega) (by omega), rm 93 (by omega) (by omega) (by omega) (by omega), rm 94 (by omega) (by omega) (by omega) (by omega)]; exact ⟨rfl, rfl, rfl⟩) (rm 90 (by omega) (by omega) (by omega) (by omega)) (rm 91 (by omega) (by omega) (by omega) (by omega)) (by rw [rc 11 (by omega) (by omega)]; exact Int.le_refl _) (fun j _ => by rw [rc 12 (by omega) (by omega)])
theorem region_pair (h : RR 8 18 fc fm) : ∃ b fd fn, p_Reader_readRegion fc g = some (b, fd, g) ∧ p_Mod_readRegion fm g = some (fn, g) ∧ PC fc fd ∧ PM fm fn ∧ ((b = 1 ∧ RR 8 18 fd fn ∧ fc 54 2 ≤ fd 54 2) ∨ (b = 0 ∧ Fail fd fn)) := by
  have hc := h.1.c
  have hb := cch_b hc
  have hch := h.1.ch
  have hw := h.1.w
  unfold p_Reader_readRegion p_Reader_readRegion_27 p_Reader_readRegion_55 p_Reader_readRegion_90 p_Mod_readRegion
  by_cases hl : 65 ≤ cch fc ∧ cch fc < 65 + 4
  · obtain ⟨k, hk⟩ : ∃ k : Nat, cch fc = 65 + k := ⟨(cch fc - 65).toNat, by omega⟩
    have ek : cch fc - 65 = k := by omega
    have em : mch fm - 65 = k := by omega
    obtain ⟨r1, k1, j1, e1⟩ := h.adv (by omega)
    have q67 : mAdv fm 67 = fm 67 := ma_up_ne (by omega)
    rw [c_letter1 hc (by omega) (by omega) hl.1 hl.2, Option.bind_some, m_letter1 h.1.m hw (by omega) (by omega) (by omega) (by omega), Option.bind_some]
    dsimp only
    rw [ek, em, q_swn (show -2147483648 ≤ (k : Int) ∧ (k : Int) ≤ 2147483647 by omega), if_neg (show ¬ (k : Int) < 0 by omega), if_pos (show 0 ≤ (k : Int) ∧ (k : Int) < 4 by omega), if_pos (show 0 ≤ (k : Int) ∧ (k : Int) < 4 by omega), Int.toNat_natCast]
    rcases h.2.1 k (by omega) with ⟨t1, t2⟩ | ⟨t1, t2, t3⟩
    · rw [if_pos (sw0 t1), if_pos (show q_sw (mAdv fm 67 k) = 0 by rw [q67]; exact sw0 t2)]
      have e23 : p_Mod_readRegion_23 k 1 (mAdv fm) g = (p_Mod_take (61) (ma_up (mAdv fm) 67 k 1) g).bind fun x6 =>
          if q_sw (x6.1 60 9) = 0 then
            (p_Mod_number  x6.1 x6.2).bind fun x9 =>
            p_Mod_readRegion_67   k (x9.1) k x9.2.1 x9.2.2
          else
            p_Mod_readRegion_67   k (0) k x6.1 x6.2 := by
        unfold p_Mod_readRegion_23
        rw [m_fresh1 (mAdv_w hw), Option.bind_some, if_pos (sw0 (mAdv_w hw)), if_pos (by omega), Int.toNat_natCast, q_nz1]
        rfl
      rw [e23]
      simp only [q_let]
      rw [show ma_up fc 54 2 (fc 54 2 + 1) = cAdv fc from rfl]
      have x1 : XR (cAdv fc) (ma_up (mAdv fm) 67 k 1) := r1.1.mrow (by omega)
      have pc1 : PC fc (cAdv fc) := k1.p
      have pm1 : PM fm (ma_up (mAdv fm) 67 k 1) := j1.p.up (by omega)
      have rc1 : ∀ a, a ≠ 54 → cAdv fc a = fc a := fun a ha => ma_up_ne ha
      have rm1 : ∀ a, a ≠ 60 → a ≠ 67 → ma_up (mAdv fm) 67 k 1 a = fm a := fun a h1 h2 => (ma_up_ne h2).trans (ma_up_ne h1)
      have r601 : ∀ j, j ≠ 8 → ma_up (mAdv fm) 67 k 1 60 j = fm 60 j := fun j h1 => by rw [ma_up_ne (by omega)]; exact ma_up_ne2 (by omega)
      have r671 : ma_up (mAdv fm) 67 k 1 67 k = 1 ∧ ∀ r, r ≠ k → ma_up (mAdv fm) 67 k 1 67 r = fm 67 r := ⟨ma_up_self, fun r hr => by rw [ma_up_at hr, q67]⟩
      have le1 : fc 54 2 ≤ cAdv fc 54 2 := by omega
      generalize cAdv fc = c1 at *
      generalize ma_up (mAdv fm) 67 k 1 = m1 at *
      by_cases h61 : cch c1 = 61
      · obtain ⟨x2, xc2, xm2⟩ := x1.adv 0 0 (by omega)
        have pc2 : PC fc (cAdv c1) := pc1.tr xc2.p
        have pm2 : PM fm (mAdv m1) := pm1.tr xm2.k.p
        rw [c_skip1 x1.c (by omega) h61, Option.bind_some, if_neg (sw1 rfl), m_take1 x1.m x1.w (by omega) (by rw [x1.ch]; exact h61), Option.bind_some, if_pos (sw0 x2.w)]
        dsimp only
        rw [c_num x2.c, Option.bind_some, m_num x2.m x2.w, Option.bind_some]
        have hd := x2.dg
        have hr := cdg_r x2.c
        have hpl := x2.2.1.1
        by_cases hg : cAdv c1 54 2 < (cdg (cAdv c1)).2
        · obtain ⟨x3, xc3, xm3⟩ := x2.num 0 0 hg
          rw [if_pos hg, if_neg (sw1 rfl), if_pos (show mAdv m1 60 8 < (mdg (mAdv m1)).2 by rw [hd, ← hpl]; exact hg)]
          dsimp only
          have pc3 : PC fc (cNum (cAdv c1) (cdg (cAdv c1))) := pc2.tr xc3.p
          have pm3 : PM fm (mSet (mAdv m1) (mdg (mAdv m1)).2) := pm2.tr xm3.k.p
          have n3 : cNum (cAdv c1) (cdg (cAdv c1)) 54 3 = (cdg (cAdv c1)).1 := by simp [cNum, ma_up]
          have rc3 : ∀ a, a ≠ 54 → cNum (cAdv c1) (cdg (cAdv c1)) a = fc a := fun a ha => by
            unfold cNum cAdv
            rw [ma_up_ne ha, ma_up_ne ha, ma_up_ne ha, rc1 a ha]
          have rm3 : ∀ a, a ≠ 60 → mSet (mAdv m1) (mdg (mAdv m1)).2 a = m1 a := fun a ha => by
            unfold mSet mAdv
            rw [ma_up_ne ha, ma_up_ne ha]
          have r603 : ∀ j, j ≠ 8 → mSet (mAdv m1) (mdg (mAdv m1)).2 60 j = m1 60 j := fun j hj => by
            unfold mSet mAdv
            rw [ma_up_ne2 (by omega), ma_up_ne2 (by omega)]
          have le3 : fc 54 2 ≤ cNum (cAdv c1) (cdg (cAdv c1)) 54 2 := by
            have := xc3.2.2.1
            have := xc2.2.2.1
            omega
          rw [hd, ← n3]
          rw [hd] at x3 pm3 rm3 r603
          have hv : 0 ≤ cNum (cAdv c1) (cdg (cAdv c1)) 54 3 ∧ cNum (cAdv c1) (cdg (cAdv c1)) 54 3 ≤ 9999 := by rw [n3]; exact hr.2.2
          clear n3
          generalize cNum (cAdv c1) (cdg (cAdv c1)) = c3 at *
          generalize mSet (mAdv m1) (cdg (cAdv c1)).2 = m3 at *
          have e67 : p_Mod_readRegion_67 k (c3 54 3) k m3 g = (p_Mod_take (44) (ma_up m3 68 k (c3 54 3)) g).bind fun x3 =>
              if q_sw (x3.1 60 9) = 0 then
                (p_Mod_number  x3.1 x3.2).bind fun x6 =>
                p_Mod_readRegion_94   k (x6.1) k x6.2.1 x6.2.2
              else
                p_Mod_readRegion_94   k (0) k x3.1 x3.2 := by
            unfold p_Mod_readRegion_67
            rw [if_pos (by omega), Int.toNat_natCast]
            rfl
          rw [e67]
          have x4 : XR c3 (ma_up m3 68 k (c3 54 3)) := x3.mrow (by omega)
          have pm4 : PM fm (ma_up m3 68 k (c3 54 3)) := pm3.up (by omega)
          have rm4 : ∀ a, a ≠ 60 → a ≠ 68 → ma_up m3 68 k (c3 54 3) a = m1 a := fun a h1 h2 => (ma_up_ne h2).trans (rm3 a h1)
          have r604 : ∀ j, j ≠ 8 → ma_up m3 68 k (c3 54 3) 60 j = m1 60 j := fun j hj => by rw [ma_up_ne (by omega)]; exact r603 j hj
          have r684 : ma_up m3 68 k (c3 54 3) 68 k = c3 54 3 ∧ ∀ r, r ≠ k → ma_up m3 68 k (c3 54 3) 68 r = fm 68 r := ⟨ma_up_self, fun r hr => by rw [ma_up_at hr, rm3 68 (by omega), rm1 68 (by omega) (by omega)]⟩
          generalize ma_up m3 68 k (c3 54 3) = m4 at *
          by_cases h44 : cch c3 = 44
          · obtain ⟨x5, xc5, xm5⟩ := x4.adv 0 0 (by omega)
            have pc5 : PC fc (cAdv c3) := pc3.tr xc5.p
            have pm5 : PM fm (mAdv m4) := pm4.tr xm5.k.p
            rw [c_skip1 x4.c (by omega) h44, Option.bind_some, if_neg (sw1 rfl), m_take1 x4.m x4.w (by omega) (by rw [x4.ch]; exact h44), Option.bind_some, if_pos (sw0 x5.w)]
            dsimp only
            rw [c_num x5.c, Option.bind_some, m_num x5.m x5.w, Option.bind_some]
            have hd5 := x5.dg
            have hr5 := cdg_r x5.c
            have hpl5 := x5.2.1.1
            by_cases hg5 : cAdv c3 54 2 < (cdg (cAdv c3)).2
            · obtain ⟨x6, xc6, xm6⟩ := x5.num 0 0 hg5
              rw [if_pos hg5, if_neg (sw1 rfl), if_pos (show mAdv m4 60 8 < (mdg (mAdv m4)).2 by rw [hd5, ← hpl5]; exact hg5)]
              dsimp only
              have pc6 : PC fc (cNum (cAdv c3) (cdg (cAdv c3))) := pc5.tr xc6.p
              have pm6 : PM fm (mSet (mAdv m4) (mdg (mAdv m4)).2) := pm5.tr xm6.k.p
              have n6 : cNum (cAdv c3) (cdg (cAdv c3)) 54 3 = (cdg (cAdv c3)).1 := by simp [cNum, ma_up]
              have rc6 : ∀ a, a ≠ 54 → cNum (cAdv c3) (cdg (cAdv c3)) a = fc a := fun a ha => by
                unfold cNum cAdv
                rw [ma_up_ne ha, ma_up_ne ha, ma_up_ne ha, rc3 a ha]
              have rm6 : ∀ a, a ≠ 60 → mSet (mAdv m4) (mdg (mAdv m4)).2 a = m4 a := fun a ha => by
                unfold mSet mAdv
                rw [ma_up_ne ha, ma_up_ne ha]
              have r606 : ∀ j, j ≠ 8 → mSet (mAdv m4) (mdg (mAdv m4)).2 60 j = m4 60 j := fun j hj => by
                unfold mSet mAdv
                rw [ma_up_ne2 (by omega), ma_up_ne2 (by omega)]
              have le6 : fc 54 2 ≤ cNum (cAdv c3) (cdg (cAdv c3)) 54 2 := by
                have := xc6.2.2.1
                have := xc5.2.2.1
                omega
              rw [hd5, ← n6]
              rw [hd5] at x6 pm6 rm6 r606
              have hv6 : 0 ≤ cNum (cAdv c3) (cdg (cAdv c3)) 54 3 ∧ cNum (cAdv c3) (cdg (cAdv c3)) 54 3 ≤ 9999 := by rw [n6]; exact hr5.2.2
              clear n6
              generalize cNum (cAdv c3) (cdg (cAdv c3)) = c6 at *
              generalize mSet (mAdv m4) (cdg (cAdv c3)).2 = m6 at *
              have x7 : XR c6 (ma_up m6 69 k (c6 54 3)) := x6.mrow (by omega)
              have pm7 : PM fm (ma_up m6 69 k (c6 54 3)) := pm6.up (by omega)
              have q68 : ma_up m6 69 k (c6 54 3) 68 k = c3 54 3 := by rw [ma_up_ne (by omega), rm6 68 (by omega), r684.1]
              have q69 : ma_up m6 69 k (c6 54 3) 69 k = c6 54 3 := ma_up_self
              have e94 : p_Mod_readRegion_94 k (c6 54 3) k m6 g = if c3 54 3 + c6 54 3 ≤ 512 then some (ma_up m6 69 k (c6 54 3), g) else some (mWr (ma_up m6 69 k (c6 54 3)), g) := by
                unfold p_Mod_readRegion_94 p_Mod_readRegion_122
                rw [if_pos (by omega)]
                simp only [q_let]
                rw [Int.toNat_natCast, if_pos (sw0 x7.w), if_pos (by omega), if_pos (by omega), q68, q69, q_swn (by omega), q_swn (by omega), m_r127 (Or.inl rfl), m_r127 (Or.inr rfl), ma_up_id x7.w]
                rfl
              rw [e94]
              have hsw : q_sw (c3 54 3 + c6 54 3) ≤ q_sw 512 ↔ c3 54 3 + c6 54 3 ≤ 512 := by
                rw [q_swn (show -2147483648 ≤ c3 54 3 + c6 54 3 ∧ c3 54 3 + c6 54 3 ≤ 2147483647 by omega), q_swn (show -2147483648 ≤ (512 : Int) ∧ (512 : Int) ≤ 2147483647 by omega)]
              by_cases hs : c3 54 3 + c6 54 3 ≤ 512
              · rw [if_pos (hsw.mpr hs), if_pos hs, if_pos (show 0 ≤ (k : Int) ∧ (k : Int) < 4 by omega)]
                have z54 : ma_up (ma_up c6 (24 + k) 0 1) (24 + k) 1 (c3 54 3) 54 3 = c6 54 3 := by rw [ma_up_ne (by omega), ma_up_ne (by omega)]
                rw [z54]
                refine ⟨1, _, _, rfl, rfl, ((pc6.up (by omega)).up (by omega)).up (by omega), pm7, Or.inl ⟨rfl, ?_, ?_⟩⟩
                · refine h.region (k := k) (by omega) (((x7.crow (by omega)).crow (by omega)).crow (by omega)) ?_ (fun a h1 h2 => ?_) (fun a h1 h2 h3 h4 => ?_) (fun j h1 h2 => ?_) (fun r hr => ⟨?_, ?_, ?_⟩) ⟨?_, ?_, ?_, ?_, ?_, ?_, ?_⟩
                  · rw [ma_up_ne (by omega), ma_up_ne (by omega), ma_up_ne (by omega)]
                    exact le6
                  · rw [ma_up_ne h1, ma_up_ne h1, ma_up_ne h1]
                    exact rc6 a h2
                  · rw [ma_up_ne h4, rm6 a h1, rm4 a h1 h3, rm1 a h1 h2]
                  · rw [ma_up_ne (by omega), r606 j h1, r604 j h1, r601 j h1]
                  · rw [ma_up_ne (by omega), rm6 67 (by omega), rm4 67 (by omega) (by omega), r671.2 r hr]
                  · rw [ma_up_ne (by omega), rm6 68 (by omega), r684.2 r hr]
                  · rw [ma_up_at hr, rm6 69 (by omega), rm4 69 (by omega) (by omega), rm1 69 (by omega) (by omega)]
                  · rw [ma_up_at (by omega), ma_up_at (by omega), ma_up_self]
                  · rw [ma_up_ne (by omega), rm6 67 (by omega), rm4 67 (by omega) (by omega), r671.1]
                  · rw [ma_up_at (by omega), ma_up_self, q68]
                  · rw [ma_up_self, q69]
                  · rw [ma_up_at (by omega), ma_up_self]
                    omega
                  · rw [ma_up_self]
                    omega
                  · rw [ma_up_at (by omega), ma_up_self, ma_up_self]
                    exact hs
                · rw [ma_up_ne (by omega), ma_up_ne (by omega), ma_up_ne (by omega)]
                  exact le6
              · rw [if_neg (fun q => hs (hsw.mp q)), if_neg hs]
                exact ⟨0, c6, _, rfl, rfl, pc6, pm7.up (by omega), Or.inr ⟨rfl, x7.fail⟩⟩
            · rw [if_neg hg5, if_pos (sw0 rfl), if_neg (show ¬ mAdv m4 60 8 < (mdg (mAdv m4)).2 by rw [hd5, ← hpl5]; exact hg5)]
              dsimp only
              have fl := x5.nofail
              have pm6 : PM fm (mWr (mSet (mAdv m4) (mdg (mAdv m4)).2)) := (pm5.up (by omega)).up (by omega)
              obtain ⟨fn, a1, a2⟩ := m_r94W (f := mWr (mSet (mAdv m4) (mdg (mAdv m4)).2)) (g := g) (s := (mdg (mAdv m4)).1) (k := k) (by omega) mWr_w
              exact ⟨0, _, fn, rfl, a1, (pc5.up (by omega)).up (by omega), pm6.tr a2.1, Or.inr ⟨rfl, a2.fail fl⟩⟩
          · rw [c_skip0 x4.c (by omega) h44, Option.bind_some, if_pos (sw0 rfl), m_take0 x4.m x4.w (by omega) (by rw [x4.ch]; exact h44), Option.bind_some, if_neg (sw1 mWr_w)]
            dsimp only
            obtain ⟨fn, a1, a2⟩ := m_r94W (f := mWr m4) (g := g) (s := 0) (k := k) (by omega) mWr_w
            exact ⟨0, _, fn, rfl, a1, pc3, (pm4.up (by omega)).tr a2.1, Or.inr ⟨rfl, a2.fail x4.fail⟩⟩
        · rw [if_neg hg, if_pos (sw0 rfl), if_neg (show ¬ mAdv m1 60 8 < (mdg (mAdv m1)).2 by rw [hd, ← hpl]; exact hg)]
          dsimp only
          have fl := x2.nofail
          have pm6 : PM fm (mWr (mSet (mAdv m1) (mdg (mAdv m1)).2)) := (pm2.up (by omega)).up (by omega)
          obtain ⟨fn, a1, a2⟩ := m_r67W (f := mWr (mSet (mAdv m1) (mdg (mAdv m1)).2)) (g := g) (s := (mdg (mAdv m1)).1) (k := k) (by omega) mWr_w
          exact ⟨0, _, fn, rfl, a1, (pc2.up (by omega)).up (by omega), pm6.tr a2.1, Or.inr ⟨rfl, a2.fail fl⟩⟩
      · rw [c_skip0 x1.c (by omega) h61, Option.bind_some, if_pos (sw0 rfl), m_take0 x1.m x1.w (by omega) (by rw [x1.ch]; exact h61), Option.bind_some, if_neg (sw1 mWr_w)]
        dsimp only
        obtain ⟨fn, a1, a2⟩ := m_r67W (f := mWr m1) (g := g) (s := 0) (k := k) (by omega) mWr_w
        exact ⟨0, _, fn, rfl, a1, pc1, (pm1.up (by omega)).tr a2.1, Or.inr ⟨rfl, a2.fail x1.fail⟩⟩
    · rw [if_neg (sw1 t1), if_neg (show ¬ q_sw (mAdv fm 67 k) = 0 by rw [q67]; exact sw1 t2)]
      unfold p_Mod_readRegion_23
      rw [m_fresh0 (mAdv_w hw), Option.bind_some, if_neg (sw1 mWr_w)]
      exact ⟨0, fc, _, rfl, rfl, PC.rf _, ((j1.p.up (by omega)).up (by omega)), Or.inr ⟨rfl, h.1.back (by omega)⟩⟩
  · rw [c_letter0 hc (by omega) (by omega) hl, Option.bind_some, if_pos (show q_sw (-1) < 0 by decide), m_letter0 h.1.m hw (by omega) (by omega) (by omega), Option.bind_some]
    dsimp only
    have e : ∀ s, p_Mod_readRegion_23 0 s (mWr fm) g = some (mWr fm, g) := fun s => m_r23W (k := 0) mWr_w
    rw [if_pos (show 0 ≤ (0 : Int) ∧ (0 : Int) < 4 by omega), e, e, ite_self]
    exact ⟨0, fc, _, rfl, rfl, PC.rf _, (PM.rf fm).up (by omega), Or.inr ⟨rfl, h.1.fail⟩⟩
end RS
