/-! ===== symbols, statements, the whole script ===== -/
section RD
variable {fc fm f g : q_F}
theorem m_s92W (hw : f 60 9 = 1) : p_Mod_statement_92 f g = some (f, g) := by
  unfold p_Mod_statement_92
  rw [m_takeW hw, Option.bind_some]
theorem m_s82W {k : Nat} (hk : k < 26) (hw : f 60 9 = 1) : ∃ fn, p_Mod_statement_82 k f g = some (fn, g) ∧ WM f fn := by
  have w1 : WM f (ma_up f 94 k (f 60 14)) := (WM.rf f).up (by omega)
  unfold p_Mod_statement_82
  rw [if_pos (by omega)]
  simp only [q_let]
  rw [Int.toNat_natCast, m_s92W (w1.2.2.trans hw)]
  exact ⟨_, rfl, w1⟩
theorem m_s54W {k : Nat} (hk : k < 26) (hw : f 60 9 = 1) : ∃ fn, p_Mod_statement_54 k f g = some (fn, g) ∧ WM f fn := by
  have w1 : WM f (ma_up f 93 k (f 60 14)) := (WM.rf f).up (by omega)
  unfold p_Mod_statement_54
  rw [m_takeW hw, Option.bind_some, if_pos (by omega)]
  simp only [q_let]
  rw [Int.toNat_natCast, if_neg (sw1 (w1.2.2.trans hw))]
  obtain ⟨fn, e1, e2⟩ := m_s82W (f := ma_up f 93 k (f 60 14)) (g := g) hk (w1.2.2.trans hw)
  exact ⟨fn, e1, w1.tr e2⟩
/-- a symbol of its own statement is told -/
theorem RR.tellY {v : Nat} {w z : Int} (hv : v < 18) (h : RR 8 18 fc fm) (h0 : fc (36 + v) 0 = 0) : RR 8 v (ma_up (ma_up (ma_up fc (36 + v) 0 1) (36 + v) 1 1) (36 + v) 2 w) (ma_up (ma_up fm 90 (v + 8) 1) 92 (v + 8) z) := by
  obtain ⟨r1, r2, r3, r4, r5, r6, r7⟩ := h
  have rc : ∀ a, a ≠ 36 + v → ma_up (ma_up (ma_up fc (36 + v) 0 1) (36 + v) 1 1) (36 + v) 2 w a = fc a := fun a ha => ((ma_up_ne ha).trans (ma_up_ne ha)).trans (ma_up_ne ha)
  have rm : ∀ a, a ≠ 90 → a ≠ 92 → ma_up (ma_up fm 90 (v + 8) 1) 92 (v + 8) z a = fm a := fun a ha hb => (ma_up_ne hb).trans (ma_up_ne ha)
  have e0 : ma_up (ma_up (ma_up fc (36 + v) 0 1) (36 + v) 1 1) (36 + v) 2 w (36 + v) 0 = 1 := by rw [ma_up_at (by omega), ma_up_at (by omega), ma_up_self]
  have e4 : ma_up (ma_up (ma_up fc (36 + v) 0 1) (36 + v) 1 1) (36 + v) 2 w (36 + v) 4 = fc (36 + v) 4 := by rw [ma_up_at (by omega), ma_up_at (by omega), ma_up_at (by omega)]
  refine ⟨?_, ?_, ?_, ?_, ?_, ?_, ?_⟩
  · exact r1.rows (rc 1 (by omega)) (rc 2 (by omega)) (rc 11 (by omega)) (rc 12 (by omega)) (rc 13 (by omega)) (rc 54 (by omega)) (rm 66 (by omega) (by omega)) (rm 70 (by omega) (by omega)) (rm 71 (by omega) (by omega)) (by rw [rm 60 (by omega) (by omega)]) (by rw [rm 60 (by omega) (by omega)]) (by rw [rm 60 (by omega) (by omega)]) (by rw [rm 60 (by omega) (by omega)])
  · exact r2.ext (fun a _ _ => rc a (by omega)) (fun a _ _ => rm a (by omega) (by omega))
  · exact r3.ext (fun a _ _ => rc a (by omega)) (fun a _ _ => rm a (by omega) (by omega))
  · refine r4.ext (by rw [rc 8 (by omega)]) (rc 9 (by omega)) (rc 10 (by omega)) (by rw [rc 54 (by omega)]; exact Int.le_refl _) (by rw [rm 60 (by omega) (by omega)]) (rm 89 (by omega) (by omega)) (fun a c1 c2 c3 => ?_) (fun a c1 c2 c3 c4 => ?_)
    · rw [rc a (by omega)]
      exact c3
    · by_cases hq : a = 36 + v
      · subst hq
        omega
      · rw [rc a hq]
        exact ⟨c3, c4⟩
  · exact r5.ext (by rw [rc 3 (by omega)]) (rc 14 (by omega)) (fun a c1 c2 => by rw [rc a (by omega)]; exact ⟨rfl, rfl, rfl, rfl, fun _ => rfl⟩) (by rw [rm 60 (by omega) (by omega)]) (fun a _ _ => rm a (by omega) (by omega))
  · exact r6.ext (fun j hj _ => rc _ (by omega)) (fun j _ _ => by rw [rm 79 (by omega) (by omega), rm 80 (by omega) (by omega), rm 81 (by omega) (by omega), rm 82 (by omega) (by omega), rm 83 (by omega) (by omega), rm 84 (by omega) (by omega), rm 85 (by omega) (by omega)]; exact ⟨rfl, rfl, rfl, rfl, rfl, rfl, rfl⟩) (by rw [rc 8 (by omega)]; exact Int.le_refl _) (by rw [rc 11 (by omega)]; exact Int.le_refl _) (fun j _ => by rw [rc 12 (by omega)]) (fun a c1 c2 c3 => by rw [rc a (by omega)]; exact c3)
  · intro u hu
    obtain ⟨q1, q2, q3, q4, q5⟩ := r7 u hu
    have e90 : ∀ j, ma_up (ma_up fm 90 (v + 8) 1) 92 (v + 8) z 90 j = if j = v + 8 then 1 else fm 90 j := fun j => by simp [ma_up]
    have e92 : ∀ j, ma_up (ma_up fm 90 (v + 8) 1) 92 (v + 8) z 92 j = if j = v + 8 then z else fm 92 j := fun j => by simp [ma_up]
    rw [e90, rm 91 (by omega) (by omega)]
    by_cases hq : u = v
    · subst hq
      rw [e0, e4, if_pos rfl]
      exact ⟨rfl, Or.inr rfl, q3, fun e => absurd e (by decide), fun n => absurd rfl n⟩
    · rw [rc (36 + u) (by omega), if_neg (by omega)]
      refine ⟨q1, q2, q3, q4, fun n t => ?_⟩
      have q6 := q5 (by omega) t
      unfold symok at *
      rw [rc (36 + u) (by omega), e92, if_neg (by omega), rm 93 (by omega) (by omega), rm 94 (by omega) (by omega)]
      refine q6.imp id (fun q => ⟨q.1, q.2.1, q.2.2.ext ?_ ?_⟩)
      · rw [rc 11 (by omega)]
        exact Int.le_refl _
      · intro j _
        rw [rc 12 (by omega)]
theorem RR.cy {v j : Nat} {w : Int} (h : RR 8 v fc fm) (hv : v < 18) (ht : fc (36 + v) 0 = 1) (h1 : fc (36 + v) 1 = 1) (hj : j = 2 ∨ j = 3) : RR 8 v (ma_up fc (36 + v) j w) fm := by
  obtain ⟨r1, r2, r3, r4, r5, r6, r7⟩ := h
  have rc : ∀ a, a ≠ 36 + v → ma_up fc (36 + v) j w a = fc a := fun a ha => ma_up_ne ha
  refine ⟨r1.crow (by omega), r2.ext (fun a _ _ => rc a (by omega)) (fun a _ _ => rfl), r3.ext (fun a _ _ => rc a (by omega)) (fun a _ _ => rfl), ?_, ?_, ?_, ?_⟩
  · refine r4.ext (by rw [rc 8 (by omega)]) (rc 9 (by omega)) (rc 10 (by omega)) (by rw [rc 54 (by omega)]; exact Int.le_refl _) rfl rfl (fun a c1 c2 c3 => ?_) (fun a c1 c2 c3 c4 => ?_)
    · rw [rc a (by omega)]
      exact c3
    · rw [ma_up_ne2 (by omega), ma_up_ne2 (by omega)]
      exact ⟨c3, c4⟩
  · exact r5.ext (by rw [rc 3 (by omega)]) (rc 14 (by omega)) (fun a c1 c2 => by rw [rc a (by omega)]; exact ⟨rfl, rfl, rfl, rfl, fun _ => rfl⟩) rfl (fun a _ _ => rfl)
  · exact r6.ext (fun k hk _ => rc _ (by omega)) (fun k _ _ => ⟨rfl, rfl, rfl, rfl, rfl, rfl, rfl⟩) (by rw [rc 8 (by omega)]; exact Int.le_refl _) (by rw [rc 11 (by omega)]; exact Int.le_refl _) (fun i _ => by rw [rc 12 (by omega)]) (fun a c1 c2 c3 => by rw [rc a (by omega)]; exact c3)
  · exact r7.ext (fun u hu hn => rc _ (by omega)) (fun u _ _ => ⟨rfl, rfl, rfl⟩) rfl rfl (ma_up_at (by omega)) (ma_up_at (by omega)) (fun e => by omega) (by rw [rc 11 (by omega)]; exact Int.le_refl _) (fun i _ => by rw [rc 12 (by omega)])
theorem RR.my {v a : Nat} {w : Int} (h : RR 8 v fc fm) (hv : v < 18) (ha : a = 93 ∨ a = 94) : RR 8 v fc (ma_up fm a (v + 8) w) := by
  obtain ⟨r1, r2, r3, r4, r5, r6, r7⟩ := h
  have rm : ∀ b, b ≠ a → ma_up fm a (v + 8) w b = fm b := fun b hb => ma_up_ne hb
  have rk : ∀ b k, k ≠ v + 8 → ma_up fm a (v + 8) w b k = fm b k := fun b k hk => ma_up_ne2 (fun q => hk q.2)
  refine ⟨r1.mrow (by omega), r2.ext (fun a _ _ => rfl) (fun a _ _ => rm a (by omega)), r3.ext (fun a _ _ => rfl) (fun a _ _ => rm a (by omega)), ?_, ?_, ?_, ?_⟩
  · exact r4.ext rfl rfl rfl (Int.le_refl _) (by rw [rm 60 (by omega)]) (rm 89 (by omega)) (fun a _ _ c => c) (fun a _ _ c d => ⟨c, d⟩)
  · exact r5.ext rfl rfl (fun a c1 c2 => ⟨rfl, rfl, rfl, rfl, fun _ => rfl⟩) (by rw [rm 60 (by omega)]) (fun b _ _ => rm b (by omega))
  · exact r6.ext (fun k hk _ => rfl) (fun k _ _ => by rw [rm 79 (by omega), rm 80 (by omega), rm 81 (by omega), rm 82 (by omega), rm 83 (by omega), rm 84 (by omega), rm 85 (by omega)]; exact ⟨rfl, rfl, rfl, rfl, rfl, rfl, rfl⟩) (Int.le_refl _) (Int.le_refl _) (fun i _ => rfl) (fun a c1 c2 c3 => c3)
  · exact r7.ext (fun u hu hn => rfl) (fun u _ hn => ⟨rk _ _ (by omega), rk _ _ (by omega), rk _ _ (by omega)⟩) (rm 90 (by omega)) (rm 91 (by omega)) rfl rfl (fun e => rfl) (Int.le_refl _) (fun i _ => rfl)
theorem RR.closeY {v : Nat} (h : RR 8 v fc fm) (hs : symok fc fm v) : RR 8 18 fc fm := by
  obtain ⟨r1, r2, r3, r4, r5, r6, r7⟩ := h
  refine ⟨r1, r2, r3, r4, r5, r6, fun u hu => ?_⟩
  obtain ⟨q1, q2, q3, q4, q5⟩ := r7 u hu
  refine ⟨q1, q2, q3, q4, fun _ t => ?_⟩
  by_cases hq : u = v
  · subst hq
    exact hs
  · exact q5 hq t
/-- a symbol: class readSymbol, reference from tell on; in the end the reference wants its ';' -/
theorem symbol_pair (h : RR 8 18 fc fm) : ∃ b fd, p_Reader_readSymbol fc g = some (b, fd, g) ∧ PC fc fd ∧ (
    (b = 1 ∧ fc 54 2 ≤ fd 54 2 ∧ ∃ fn, RR 8 18 fd fn ∧ PM fm fn ∧ ((p_Mod_tell (-1) fm g).bind fun x10 => p_Mod_statement_54 x10.1 x10.2.1 x10.2.2) = p_Mod_statement_92 fn g) ∨
    (b = 0 ∧ ∃ fn, Fail fd fn ∧ PM fm fn ∧ ((p_Mod_tell (-1) fm g).bind fun x10 => p_Mod_statement_54 x10.1 x10.2.1 x10.2.2) = some (fn, g))) := by
  have hc := h.1.c
  have hb := cch_b hc
  have hch := h.1.ch
  have hw := h.1.w
  unfold p_Reader_readSymbol p_Reader_readSymbol_28 p_Reader_readSymbol_91
  by_cases hl : 105 ≤ cch fc ∧ cch fc < 105 + 18
  · obtain ⟨k, hk⟩ : ∃ k : Nat, cch fc = 105 + k := ⟨(cch fc - 105).toNat, by omega⟩
    have ek : cch fc - 105 = k := by omega
    obtain ⟨t1, t2, t3, t4, t5⟩ := h.2.2.2.2.2.2 k (by omega)
    obtain ⟨r1, k1, j1, e1⟩ := h.adv (by omega)
    rw [c_letter1 hc (by omega) (by omega) hl.1 hl.2, Option.bind_some]
    dsimp only
    rw [ek, q_swn (show -2147483648 ≤ (k : Int) ∧ (k : Int) ≤ 2147483647 by omega), if_neg (show ¬ (k : Int) < 0 by omega), if_pos (show 0 ≤ (k : Int) ∧ (k : Int) < 18 by omega), Int.toNat_natCast]
    rcases t2 with t2 | t2
    · rw [if_pos (sw0 t2), m_tell (k := k) h.1.m hw (by omega) (by omega) (t1 ▸ t2), Option.bind_some]
      simp only [q_let]
      rw [if_pos (show 0 ≤ (k : Int) ∧ (k : Int) < 18 by omega), show ma_up fc 54 2 (fc 54 2 + 1) = cAdv fc from rfl]
      have q36 : cAdv fc (36 + k) = fc (36 + k) := ma_up_ne (by omega)
      have r2 := r1.tellY (v := k) (w := ma_up (ma_up (cAdv fc) (36 + k) 0 1) (36 + k) 1 1 11 2) (z := -1) (by omega) (by rw [q36]; exact t2)
      have pc2 : PC fc (ma_up (ma_up (ma_up (cAdv fc) (36 + k) 0 1) (36 + k) 1 1) (36 + k) 2 (ma_up (ma_up (cAdv fc) (36 + k) 0 1) (36 + k) 1 1 11 2)) := ((k1.p.up (by omega)).up (by omega)).up (by omega)
      have pm2 : PM fm (ma_up (ma_up (mAdv fm) 90 (k + 8) 1) 92 (k + 8) (-1)) := (j1.p.up (by omega)).up (by omega)
      have s0 : ma_up (ma_up (ma_up (cAdv fc) (36 + k) 0 1) (36 + k) 1 1) (36 + k) 2 (ma_up (ma_up (cAdv fc) (36 + k) 0 1) (36 + k) 1 1 11 2) (36 + k) 0 = 1 := by rw [ma_up_at (by omega), ma_up_at (by omega), ma_up_self]
      have s1 : ma_up (ma_up (ma_up (cAdv fc) (36 + k) 0 1) (36 + k) 1 1) (36 + k) 2 (ma_up (ma_up (cAdv fc) (36 + k) 0 1) (36 + k) 1 1 11 2) (36 + k) 1 = 1 := by rw [ma_up_at (by omega), ma_up_self]
      have s2 : ma_up (ma_up (ma_up (cAdv fc) (36 + k) 0 1) (36 + k) 1 1) (36 + k) 2 (ma_up (ma_up (cAdv fc) (36 + k) 0 1) (36 + k) 1 1 11 2) (36 + k) 2 = ma_up (ma_up (ma_up (cAdv fc) (36 + k) 0 1) (36 + k) 1 1) (36 + k) 2 (ma_up (ma_up (cAdv fc) (36 + k) 0 1) (36 + k) 1 1 11 2) 11 2 := by rw [ma_up_self, ma_up_ne (by omega)]; rw [ma_up_ne (by omega), ma_up_ne (by omega)]; rw [ma_up_ne (by omega), ma_up_ne (by omega)]
      have s54 : ma_up (ma_up (ma_up (cAdv fc) (36 + k) 0 1) (36 + k) 1 1) (36 + k) 2 (ma_up (ma_up (cAdv fc) (36 + k) 0 1) (36 + k) 1 1 11 2) 54 2 = fc 54 2 + 1 := by rw [ma_up_ne (by omega), ma_up_ne (by omega), ma_up_ne (by omega)]; exact e1
      have s92 : ma_up (ma_up (mAdv fm) 90 (k + 8) 1) 92 (k + 8) (-1) 92 (k + 8) = -1 := ma_up_self
      generalize ma_up (ma_up (ma_up (cAdv fc) (36 + k) 0 1) (36 + k) 1 1) (36 + k) 2 (ma_up (ma_up (cAdv fc) (36 + k) 0 1) (36 + k) 1 1 11 2) = c2 at *
      generalize ma_up (ma_up (mAdv fm) 90 (k + 8) 1) 92 (k + 8) (-1) = m2 at *
      have hb2 := cch_b r2.1.c
      have hch2 := r2.1.ch
      have kk : ((k : Int) + 8) = ((k + 8 : Nat) : Int) := by omega
      unfold p_Mod_statement_54
      by_cases h61 : cch c2 = 61
      · obtain ⟨r3, k3, j3, e3⟩ := r2.adv (by omega)
        rw [c_skip1 r2.1.c (by omega) h61, Option.bind_some, if_neg (sw1 rfl), m_take1 r2.1.m r2.1.w (by omega) (by omega), Option.bind_some]
        dsimp only
        rw [if_pos (show 0 ≤ (k : Int) + 8 ∧ (k : Int) + 8 < 26 by omega), show ((k : Int) + 8).toNat = k + 8 by omega]
        simp only [q_let]
        have r4 := r3.my (a := 93) (w := mAdv m2 60 14) (by omega) (by omega)
        have pm4 : PM fm (ma_up (mAdv m2) 93 (k + 8) (mAdv m2 60 14)) := (pm2.tr j3.p).up (by omega)
        have u0 : ∀ j, cAdv c2 (36 + k) j = c2 (36 + k) j := fun j => by rw [show cAdv c2 (36 + k) = c2 (36 + k) from ma_up_ne (by omega)]
        have u93 : ma_up (mAdv m2) 93 (k + 8) (mAdv m2 60 14) 93 (k + 8) = ma_up (mAdv m2) 93 (k + 8) (mAdv m2 60 14) 60 14 := by rw [ma_up_self, ma_up_ne (by omega)]
        have u92 : ma_up (mAdv m2) 93 (k + 8) (mAdv m2 60 14) 92 (k + 8) = -1 := by rw [ma_up_ne (by omega), show mAdv m2 92 = m2 92 from ma_up_ne (by omega)]; exact s92
        have u2 : cAdv c2 (36 + k) 2 = cAdv c2 11 2 := by rw [u0, s2, show cAdv c2 11 = c2 11 from ma_up_ne (by omega)]
        have pc4 : PC fc (cAdv c2) := pc2.tr k3.p
        rw [if_pos (sw0 r4.1.w)]
        generalize ma_up (mAdv m2) 93 (k + 8) (mAdv m2 60 14) = m4 at *
        obtain ⟨b, c6, m6, v1, v2, v3, v4, v5⟩ := expr_pair (g := g) r4.1
        rw [v1, v2, Option.bind_some, Option.bind_some]
        dsimp only
        have pc6 : PC fc c6 := pc4.tr v3.p
        have pm6 : PM fm m6 := pm4.tr v4.k.p
        have row : c6 (36 + k) = cAdv c2 (36 + k) := v3.1 _ (by omega) (by omega) (by omega) (by omega)
        have l3 := v3.2.2.1
        rcases v5 with ⟨rfl, w1, w2⟩ | ⟨rfl, w1, w2⟩
        · rw [if_neg (sw1 rfl)]
          have r6 := r4.x w1 v3 v4
          have r7 := (r6.cy (j := 3) (w := c6 11 2) (by omega) (by rw [row, u0]; exact s0) (by rw [row, u0]; exact s1) (by omega)).my (a := 94) (w := m6 60 14) (by omega) (by omega)
          refine ⟨1, _, rfl, pc6.up (by omega), Or.inl ⟨rfl, ?_, ma_up m6 94 (k + 8) (m6 60 14), r7.closeY ?_, pm6.up (by omega), ?_⟩⟩
          · rw [ma_up_ne (by omega)]
            omega
          · right
            have a1 : ∀ a, a ≠ 94 → ma_up m6 94 (k + 8) (m6 60 14) a = m6 a := fun a ha => ma_up_ne ha
            unfold exok
            rw [ma_up_at (by omega), ma_up_at (by omega), ma_up_self, ma_up_self, a1 92 (by omega), a1 93 (by omega), show ma_up c6 (36 + k) 3 (c6 11 2) 11 = c6 11 from ma_up_ne (by omega), show ma_up c6 (36 + k) 3 (c6 11 2) 12 = c6 12 from ma_up_ne (by omega), row, v4.1 92 (by omega) (by omega) (by omega) (by omega) (by omega), v4.1 93 (by omega) (by omega) (by omega) (by omega) (by omega), u93, u92, u2]
            refine ⟨by rw [u0]; exact s1, rfl, r4.1.mm.symm, w1.mm.symm, r4.1.m0, w2.lt, Int.le_refl _, w2⟩
          · unfold p_Mod_statement_82
            rw [if_pos (by omega), show ((k : Int) + 8).toNat = k + 8 by omega]
            rfl
        · rw [if_pos (sw0 rfl)]
          have fl : Fail c6 m6 := by
            refine ⟨w1, w2, ?_⟩
            have q := r4.1.m
            have q6 := v4.2.1 6 (by omega) (by omega) (by omega)
            have qt : m6 66 = m4 66 := v4.1 66 (by omega) (by omega) (by omega) (by omega) (by omega)
            have qq := v3.2.2.2.2.2 r4.1.c.2.2
            have qn := r4.1.1.2.1
            have qp := r4.1.2.1.2.1
            unfold mOK
            rw [q6, qt]
            exact ⟨q.1, by omega, by omega⟩
          rw [kk]
          obtain ⟨fn, a1, a2⟩ := m_s82W (g := g) (k := k + 8) (by omega) fl.1
          exact ⟨0, c6, rfl, pc6, Or.inr ⟨rfl, fn, a2.fail fl, pm6.tr a2.1, a1⟩⟩
      · rw [c_skip0 r2.1.c (by omega) h61, Option.bind_some, if_pos (sw0 rfl), m_take0 r2.1.m r2.1.w (by omega) (by omega), Option.bind_some]
        dsimp only
        rw [if_pos (show 0 ≤ (k : Int) + 8 ∧ (k : Int) + 8 < 26 by omega), show ((k : Int) + 8).toNat = k + 8 by omega]
        simp only [q_let]
        have w1 : WM (mWr m2) (ma_up (mWr m2) 93 (k + 8) (mWr m2 60 14)) := (WM.rf _).up (by omega)
        rw [if_neg (sw1 (w1.2.2.trans mWr_w)), kk]
        obtain ⟨fn, a1, a2⟩ := m_s82W (g := g) (k := k + 8) (by omega) (w1.2.2.trans mWr_w)
        exact ⟨0, c2, rfl, pc2, Or.inr ⟨rfl, fn, (w1.tr a2).fail r2.1.fail, (pm2.up (by omega)).tr (w1.tr a2).1, a1⟩⟩
    · rw [if_neg (sw1 t2), m_tell1 (k := k) h.1.m hw (by omega) (by omega) (t1 ▸ t2), Option.bind_some]
      dsimp only
      obtain ⟨fn, a1, a2⟩ := m_s54W (f := mWr (ma_up (mAdv fm) 60 8 (mAdv fm 60 8 - 1))) (g := g) (k := 0) (by omega) mWr_w
      exact ⟨0, fc, rfl, PC.rf _, Or.inr ⟨rfl, fn, a2.fail (h.1.back (by omega)), ((j1.p.up (by omega)).up (by omega)).tr a2.1, a1⟩⟩
  · rw [c_letter0 hc (by omega) (by omega) hl, Option.bind_some, if_pos (show q_sw (-1) < 0 by decide), m_tell0 h.1.m hw (by omega), Option.bind_some]
    dsimp only
    obtain ⟨fn, a1, a2⟩ := m_s54W (f := mWr fm) (g := g) (k := 0) (by omega) mWr_w
    exact ⟨0, fc, rfl, PC.rf _, Or.inr ⟨rfl, fn, a2.fail h.1.fail, ((PM.rf fm).up (by omega)).tr a2.1, a1⟩⟩
/-- one statement -/
theorem stat_pair {c14 : Int → q_F → q_F → Option (Int × q_F × q_F)} {v1 : Int} (h : RR 8 18 fc fm) : ∃ fd fn, PC fc fd ∧ PM fm fn ∧ p_Mod_statement fm g = some (fn, g) ∧ (
    (RR 8 18 fd fn ∧ fc 54 2 < fd 54 2 ∧ ((p_Reader_skip (77) fc g).bind fun x3 =>
        if q_sw x3.1 = 0 then
          (p_Reader_skip (83) x3.2.1 x3.2.2).bind fun x6 =>
          if q_sw x6.1 = 0 then
            (p_Reader_skip (89) x6.2.1 x6.2.2).bind fun x9 =>
            if q_sw x9.1 = 0 then
              p_Reader_readScript_85  c14 (v1) (0) x9.2.1 x9.2.2
            else
              (p_Reader_readSymbol  x9.2.1 x9.2.2).bind fun x12 =>
              p_Reader_readScript_85  c14 (v1) (x12.1) x12.2.1 x12.2.2
          else
            (p_Reader_readSection  x6.2.1 x6.2.2).bind fun x14 =>
            p_Reader_readScript_85  c14 (v1) (x14.1) x14.2.1 x14.2.2
        else
          (p_Reader_readRegion  x3.2.1 x3.2.2).bind fun x16 =>
          p_Reader_readScript_85  c14 (v1) (x16.1) x16.2.1 x16.2.2) = c14 (v1 + 1) fd g) ∨
    (Fail fd fn ∧ ((p_Reader_skip (77) fc g).bind fun x3 =>
        if q_sw x3.1 = 0 then
          (p_Reader_skip (83) x3.2.1 x3.2.2).bind fun x6 =>
          if q_sw x6.1 = 0 then
            (p_Reader_skip (89) x6.2.1 x6.2.2).bind fun x9 =>
            if q_sw x9.1 = 0 then
              p_Reader_readScript_85  c14 (v1) (0) x9.2.1 x9.2.2
            else
              (p_Reader_readSymbol  x9.2.1 x9.2.2).bind fun x12 =>
              p_Reader_readScript_85  c14 (v1) (x12.1) x12.2.1 x12.2.2
          else
            (p_Reader_readSection  x6.2.1 x6.2.2).bind fun x14 =>
            p_Reader_readScript_85  c14 (v1) (x14.1) x14.2.1 x14.2.2
        else
          (p_Reader_readRegion  x3.2.1 x3.2.2).bind fun x16 =>
          p_Reader_readScript_85  c14 (v1) (x16.1) x16.2.1 x16.2.2) = some (fd 54 2, fd, g))) := by
  have hc := h.1.c
  have hb := cch_b hc
  have hch := h.1.ch
  have hw := h.1.w
  -- behind a statement: its ';'
  have semi : ∀ (fe fp : q_F), RR 8 18 fe fp → PC fc fe → PM fm fp → fc 54 2 < fe 54 2 → ∃ fd fn, PC fc fd ∧ PM fm fn ∧ p_Mod_statement_92 fp g = some (fn, g) ∧ ((RR 8 18 fd fn ∧ fc 54 2 < fd 54 2 ∧ p_Reader_readScript_85 c14 v1 1 fe g = c14 (v1 + 1) fd g) ∨ (Fail fd fn ∧ p_Reader_readScript_85 c14 v1 1 fe g = some (fd 54 2, fd, g))) := by
    intro fe fp r pc pm lt
    have hbe := cch_b r.1.c
    unfold p_Mod_statement_92 p_Reader_readScript_85 p_Reader_readScript_98
    rw [if_neg (sw1 rfl)]
    by_cases h59 : cch fe = 59
    · obtain ⟨r1, k1, j1, e1⟩ := r.adv (by omega)
      rw [c_skip1 r.1.c (by omega) h59, Option.bind_some, if_neg (sw1 rfl), m_take1 r.1.m r.1.w (by omega) (by rw [r.1.ch]; exact h59), Option.bind_some]
      exact ⟨cAdv fe, mAdv fp, pc.tr k1.p, pm.tr j1.p, rfl, Or.inl ⟨r1, by omega, rfl⟩⟩
    · rw [c_skip0 r.1.c (by omega) h59, Option.bind_some, if_pos (sw0 rfl), m_take0 r.1.m r.1.w (by omega) (by rw [r.1.ch]; exact h59), Option.bind_some]
      exact ⟨fe, mWr fp, pc, pm.up (by omega), rfl, Or.inr ⟨r.1.fail, rfl⟩⟩
  have none85 : ∀ (fe : q_F), p_Reader_readScript_85 c14 v1 0 fe g = some (fe 54 2, fe, g) := fun fe => by
    unfold p_Reader_readScript_85 p_Reader_readScript_98
    rw [if_pos (sw0 rfl)]
  unfold p_Mod_statement
  by_cases h77 : cch fc = 77
  · obtain ⟨r1, k1, j1, e1⟩ := h.adv (by omega)
    rw [c_skip1 hc (by omega) h77, Option.bind_some, if_neg (sw1 rfl), m_takes1 h.1.m hw (by omega) (by omega), Option.bind_some, if_neg (sw1 rfl)]
    dsimp only
    obtain ⟨b, fd, fn, u1, u2, u3, u4, u5⟩ := region_pair (g := g) r1
    rw [u1, u2, Option.bind_some, Option.bind_some]
    dsimp only
    rcases u5 with ⟨rfl, v1, v2⟩ | ⟨rfl, v1⟩
    · exact semi fd fn v1 (k1.p.tr u3) (j1.p.tr u4) (by omega)
    · rw [none85, m_s92W v1.1]
      exact ⟨fd, fn, k1.p.tr u3, j1.p.tr u4, rfl, Or.inr ⟨v1, rfl⟩⟩
  · rw [c_skip0 hc (by omega) h77, Option.bind_some, if_pos (sw0 rfl), m_takes0 h.1.m hw (by omega) (by omega), Option.bind_some, if_pos (sw0 rfl)]
    dsimp only
    by_cases h83 : cch fc = 83
    · obtain ⟨r1, k1, j1, e1⟩ := h.adv (by omega)
      rw [c_skip1 hc (by omega) h83, Option.bind_some, if_neg (sw1 rfl), m_takes1 h.1.m hw (by omega) (by omega), Option.bind_some, if_neg (sw1 rfl)]
      dsimp only
      obtain ⟨b, fd, fn, u1, u2, u3, u4, u5⟩ := section_pair (g := g) r1
      rw [u1, u2, Option.bind_some, Option.bind_some]
      dsimp only
      rcases u5 with ⟨rfl, v1, v2⟩ | ⟨rfl, v1⟩
      · exact semi fd fn v1 (k1.p.tr u3) (j1.p.tr u4) (by omega)
      · rw [none85, m_s92W v1.1]
        exact ⟨fd, fn, k1.p.tr u3, j1.p.tr u4, rfl, Or.inr ⟨v1, rfl⟩⟩
    · rw [c_skip0 hc (by omega) h83, Option.bind_some, if_pos (sw0 rfl), m_takes0 h.1.m hw (by omega) (by omega), Option.bind_some, if_pos (sw0 rfl)]
      dsimp only
      by_cases h89 : cch fc = 89
      · obtain ⟨r1, k1, j1, e1⟩ := h.adv (by omega)
        rw [c_skip1 hc (by omega) h89, Option.bind_some, if_neg (sw1 rfl), m_take1 h.1.m hw (by omega) (by omega), Option.bind_some, if_pos (sw0 r1.1.w)]
        dsimp only
        obtain ⟨b, fd, u1, u3, u5⟩ := symbol_pair (g := g) r1
        rw [u1, Option.bind_some]
        dsimp only
        rcases u5 with ⟨rfl, v2, fn, v1, v3, v4⟩ | ⟨rfl, fn, v1, v3, v4⟩
        · rw [v4]
          exact semi fd fn v1 (k1.p.tr u3) (j1.p.tr v3) (by omega)
        · rw [none85, v4]
          exact ⟨fd, fn, k1.p.tr u3, j1.p.tr v3, rfl, Or.inr ⟨v1, rfl⟩⟩
      · rw [c_skip0 hc (by omega) h89, Option.bind_some, if_pos (sw0 rfl), m_take0 h.1.m hw (by omega) (by omega), Option.bind_some, if_neg (sw1 mWr_w), none85]
        dsimp only
        obtain ⟨fn, a1, a2⟩ := m_s54W (f := mWr fm) (g := g) (k := 0) (by omega) mWr_w
        exact ⟨fc, fn, PC.rf _, ((PM.rf fm).up (by omega)).tr a2.1, a1, Or.inr ⟨a2.fail h.1.fail, rfl⟩⟩
end RD
