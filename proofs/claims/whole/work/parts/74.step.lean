/-! ===== one section, one symbol: the step of both ===== -/
section SX
variable {c0 m0 fc fd fm fn g g' : q_F} {k : Nat}
theorem evx_cases (f : q_F) (a b : Int) : (∃ s, evx f a b = some (some s)) ∨ evx f a b = none ∨ evx f a b = some none := by
  cases h : evx f a b with
  | none => exact Or.inr (Or.inl rfl)
  | some o =>
    cases o with
    | none => exact Or.inr (Or.inr rfl)
    | some s => exact Or.inl ⟨s, rfl⟩
theorem crd_grow {a b : Int} (hD : DD fc fm) (hg : grow fc fd) (hk : ksok a b) (h1 : 1 ≤ a) (h4 : a ≤ 4) (hn : crd fc a b ≠ NY) : crd fd a b = crd fc a b := by
  unfold ksok at hk
  unfold crd at *
  by_cases e1 : a = 1
  · rw [if_pos e1] at hn ⊢
    rw [if_pos e1]
    exact hg.2.2 b.toNat (by omega) hn
  · rw [if_neg e1] at hn ⊢
    rw [if_neg e1]
    have hb : b.toNat < 8 := by omega
    have kn10 : fc (28 + b.toNat) 9 ≠ NY ∨ fc (28 + b.toNat) 10 ≠ NY ∨ fc (28 + b.toNat) 11 ≠ NY → fc (28 + b.toNat) 10 ≠ NY := by
      intro q
      rcases hD.1 b.toNat hb with p | p
      · exact absurd q (by simp [p.1, p.2.1, p.2.2.1])
      · unfold NY
        omega
    by_cases e2 : a = 2
    · rw [if_pos e2] at hn ⊢
      rw [if_pos e2]
      exact (hg.2.1 b.toNat hb (kn10 (Or.inl hn))).1
    · rw [if_neg e2] at hn ⊢
      rw [if_neg e2]
      by_cases e3 : a = 3
      · rw [if_pos e3] at hn ⊢
        rw [if_pos e3]
        exact (hg.2.1 b.toNat hb (kn10 (Or.inr (Or.inr hn)))).2.2
      · rw [if_neg e3] at hn ⊢
        rw [if_neg e3]
        exact (hg.2.1 b.toNat hb hn).2.1
theorem evx_grow {a b : Int} (hS : sStp fc fm) (hD : DD fc fm) (hg : grow fc fd) (h0 : 0 ≤ a) (hab : a ≤ b) (hb : b ≤ fc 11 2) (h : evx fc a b = some none) : evx fd a b = some none := by
  have r12 : fd 12 = fc 12 := hg.1.row (fun k => by unfold dynC; omega)
  have r13 : fd 13 = fc 13 := hg.1.row (fun k => by unfold dynC; omega)
  unfold evx at *
  rw [r12, r13]
  refine evl_mono _ _ _ (fun j c1 c2 c3 c4 z hz => ?_) h
  have hks := (hS.2 j (by omega)).2.ks
  unfold cval at *
  by_cases hN : crd fc (fc 12 j) (fc 13 j) = NY
  · rw [if_pos hN] at hz
    cases hz
  · rw [if_neg hN] at hz
    have h1 : 1 ≤ fc 12 j := by
      have := hks
      unfold ksok at this
      omega
    rw [crd_grow hD hg hks h1 c4 hN, if_neg hN]
    exact hz
theorem stuck_grow (hS : SS fc fm) (hD : DD fc fm) (hg : grow fc fd) (hs : ∀ l : Nat, l < 8 → fc (28 + l) 0 = 1 → fc (28 + l) 10 = NY → fc (28 + l) 1 = 1 → evx fc (fc (28 + l) 2) (fc (28 + l) 3) = some none → fd (28 + l) 10 = NY) (hy : ∀ v : Nat, v < 18 → fc (36 + v) 4 = NY → fc (36 + v) 1 = 1 → evx fc (fc (36 + v) 2) (fc (36 + v) 3) = some none → fd (36 + v) 4 = NY) (h : stuck fc) : stuck fd := by
  rcases h with ⟨l, h1, h2, h3, h4, h5⟩ | ⟨v, h1, h2, h3, h4, h5⟩
  · have st : ∀ c, c ≤ 8 → fd (28 + l) c = fc (28 + l) c := fun c hc => hg.1 _ _ (by unfold dynC; omega)
    refine Or.inl ⟨l, h1, by rw [st 0 (by omega)]; exact h2, hs l h1 h2 h3 h4 h5, by rw [st 1 (by omega)]; exact h4, ?_⟩
    rw [st 2 (by omega), st 3 (by omega)]
    obtain ⟨sa, -⟩ := hS.2.2.2.2.1.1 l h1 h2
    rcases sa with q | q
    · omega
    · obtain ⟨x1, x2, x3, x4, x5, x6⟩ := q.2
      exact evx_grow hS.2.1 hD hg x3 (by omega) x5 h5
  · have st : ∀ c, c ≤ 3 → fd (36 + v) c = fc (36 + v) c := fun c hc => hg.1 _ _ (by unfold dynC; omega)
    refine Or.inr ⟨v, h1, by rw [st 0 (by omega)]; exact h2, hy v h1 h3 h4 h5, by rw [st 1 (by omega)]; exact h4, ?_⟩
    rw [st 2 (by omega), st 3 (by omega)]
    rcases (hS.2.2.2.2.2.1 v h1).2.2.2 h2 with q | q
    · omega
    · obtain ⟨x1, x2, x3, x4, x5, x6⟩ := q.2.2
      exact evx_grow hS.2.1 hD hg x3 (by omega) x5 h5
/-- the begin of a section: of both -/
theorem begin_pair {A : Int} {i : Nat} (hX : CTX c0 m0) (hD : DY c0 m0 fc fm) (hk : k < 8) (ht : fc (28 + k) 0 = 1) (hi : fm 78 k = i) (hA : pw64 A) (hAc : p_Reckoner_greatestAlignment (28 + k) fc g = some (A, fc, g)) (hAm : p_Mod_alignOf k fm g' = some (A, fm, g')) :
    ∃ z f1 y n1 gn, p_Reckoner_beginOf (28 + k) i fc g = some (z, f1, g) ∧ same fc f1 ∧ p_Mod_putSection k fm g' = p_Mod_putSection_60 k A y n1 gn ∧ MR fm n1 ∧ (∀ c, c ≠ 72 → gn c = g' c) ∧ (n1 60 20 = 0 ∨ n1 60 20 = 1) ∧ ((z = y ∧ ab z (UB fc + 17063) ∧ n1 60 20 = 1 ∧ n1 60 21 = 0 ∧ (fc (28 + k) 1 = 1 → evx fc (fc (28 + k) 2) (fc (28 + k) 3) ≠ some none)) ∨ (z = NY ∧ n1 60 20 = 0 ∧ n1 60 21 = 0) ∨ (z = NY ∧ n1 60 21 = 1 ∧ fc (28 + k) 1 = 1 ∧ evx fc (fc (28 + k) 2) (fc (28 + k) 3) = some none)) := by
  have hS := hX.ss hD.1 hD.2.1
  have ik : 0 ≤ (k : Int) ∧ (k : Int) < 8 := by omega
  obtain ⟨sa, si, h6, h6t, -⟩ := hS.2.2.2.2.1.1 k hk ht
  obtain ⟨o1, o2⟩ := hS.2.2.2.1.2.2.2.1 k hk
  have hic : (i : Int) < fc 3 7 := by have := (o2.2 ht).2.1; omega
  have hU := UB_b fc
  unfold p_Reckoner_beginOf p_Mod_putSection
  rw [if_pos (show 28 ≤ 28 + k ∧ 28 + k < 36 by omega), hAm, Option.bind_some]
  dsimp only
  rw [if_pos ik, if_pos ik, if_pos ik, if_pos ik, Int.toNat_natCast, if_pos ik, if_pos ik]
  rcases sa with ⟨s1, s2⟩ | ⟨s1, s2⟩
  · obtain ⟨z, y, n1, e1, e2, e3, e4, e5⟩ := raised_pair (g := g) (g' := g') hS hD.2.2.2 hk hA hAc h6t hic
    rw [if_pos (sw0 s1), if_pos (show q_sw (fm 80 k) ≤ q_sw (fm 79 k) by rw [s2]; exact Int.le_refl _), e1, Option.bind_some, ← h6, hi]
    refine ⟨z, fc, y, n1, g', rfl, same.rf _, ?_, e3, fun _ _ => rfl, ?_, ?_⟩
    · obtain ⟨x8, hx8, hx9⟩ := Option.bind_eq_some_iff.mp e2
      rw [hx8, Option.bind_some, hx9, Option.bind_some]
    · rcases e5 with q | q
      · exact Or.inr q.2.2
      · exact Or.inl q.2
    · rcases e5 with q | q
      · exact Or.inl ⟨q.1, q.2.1, q.2.2, by rw [e4]; exact hD.2.2.1, fun e => by omega⟩
      · exact Or.inr (Or.inl ⟨q.1, q.2, by rw [e4]; exact hD.2.2.1⟩)
  · obtain ⟨⟨f1, a1, a2⟩, a3, a4, y, n1, gn, a5, a6, a7, a8, a9, a10, a11⟩ := ex_pair (g := g) (g' := g') hS.2.1 hD.2.2.2 hD.2.2.1 s2
    have hlt : ¬ q_sw (fm 80 k) ≤ q_sw (fm 79 k) := by
      obtain ⟨x1, x2, x3, x4, x5, x6⟩ := s2
      have := hS.2.1.1
      rw [x1, x2, q_swn (by omega), q_swn (by omega)]
      omega
    rw [if_neg (sw1 s1), if_neg hlt, a1, Option.bind_some, a5, Option.bind_some]
    refine ⟨_, f1, y, n1, gn, rfl, a2, rfl, a6, a8, a7, ?_⟩
    rcases evx_cases fc (fc (28 + k) 2) (fc (28 + k) 3) with ⟨s, hs⟩ | hs | hs
    · obtain ⟨q1, q2, q3⟩ := a9 s hs
      refine Or.inl ⟨q1.symm, ?_, q2, q3, fun _ => by rw [hs]; simp⟩
      have := a3 s hs
      unfold ab at *
      omega
    · rw [hs]
      exact Or.inr (Or.inl ⟨rfl, (a10 hs).1, (a10 hs).2⟩)
    · rw [hs]
      exact Or.inr (Or.inr ⟨rfl, a11 hs, s1, rfl⟩)
theorem sec_step {i : Nat} (hX : CTX c0 m0) (hD : DY c0 m0 fc fm) (hi : (i : Int) < fc 3 7) (hki : fc 14 i = (k : Nat)) (hu : fc (28 + k) 10 = NY) : ∃ b fd fn gn, p_Reckoner_reckonSection i fc g = some (b, fd, g) ∧ p_Mod_putSection k fm g' = some (fn, gn) ∧ (∀ c, c ≠ 72 → gn c = g' c) ∧ ((b = 0 ∧ same fc fd ∧ (DY c0 m0 fd fn ∨ (UU m0 fn ∧ stuck fc))) ∨ (b = 1 ∧ DY c0 m0 fd fn ∧ grow fc fd ∧ nks fc + 1 ≤ nks fd ∧ (stuck fc → stuck fd))) := by
  have hS := hX.ss hD.1 hD.2.1
  have o8 := hS.2.2.2.1.2.2.1
  obtain ⟨o1, o2, o3, o4, o5⟩ := hS.2.2.2.1.2.2.2.2 i hi
  rw [hki, Int.toNat_natCast] at o4 o5
  have hk : k < 8 := by omega
  have ik : 0 ≤ (k : Int) ∧ (k : Int) < 8 := by omega
  have hU := UB_b fc
  obtain ⟨sa, si, h6, h6t, h8, h8t, h7, h7t⟩ := hS.2.2.2.2.1.1 k hk o4
  obtain ⟨A, hA, hAc, hAm⟩ := al_pair (g := g) (g' := g') hk si (hS.it hk o4)
  obtain ⟨z, f1, y, n1, gn, e1, e2, e3, e4, e5, e6, e7⟩ := begin_pair (g := g) (g' := g') hX hD hk o4 o5 hA hAc hAm
  have r28 : ∀ c, f1 (28 + k) c = fc (28 + k) c := fun c => by rw [e2 (28 + k) (by omega) (by omega)]
  have start : p_Reckoner_reckonSection i fc g = ((p_Reckoner_loadedAtOf (28 + k) i z f1 g).bind fun x9 =>
      if q_sw z = q_sw (-1000000000) then
        p_Reckoner_reckonSection_47    x9.2.1 x9.2.2
      else
        if q_sw x9.1 = q_sw (-1000000000) then
          p_Reckoner_reckonSection_47    x9.2.1 x9.2.2
        else
          q_let (ma_up x9.2.1 (28 + k) 9 z) fun f13 =>
          q_let (ma_up f13 (28 + k) 11 x9.1) fun f14 =>
          (p_Reckoner_putItems (28 + k) f14 x9.2.2).bind fun x15 =>
          q_let (ma_up x15.2.1 (28 + k) 10 (x15.1 - z)) fun f17 =>
          some (1, f17, x15.2.2)) := by
    unfold p_Reckoner_reckonSection p_Section_isKnown p_Section_isKnown_14
    rw [c_sectionAt (by omega) (by omega), Option.bind_some]
    dsimp only
    rw [hki, Int.toNat_natCast, if_pos (show 28 ≤ 28 + k ∧ 28 + k < 36 by omega), if_pos (show 28 ≤ 28 + k ∧ 28 + k < 36 by omega), if_pos (show q_sw (fc (28 + k) 10) = q_sw (-1000000000) by rw [hu]; rfl), if_pos (Or.inl rfl), Option.bind_some, if_pos (sw0 rfl)]
    dsimp only
    rw [e1, Option.bind_some]
  have hD1 : DY c0 m0 f1 fm := e2.dy hD
  have hS1 := hX.ss hD1.1 hD1.2.1
  have hUB : UB f1 = UB fc := by
    unfold UB nks
    rw [csum_eq 8 (fun i hi => by rw [e2 (28 + i) (by omega) (by omega)])]
  have hAc1 : p_Reckoner_greatestAlignment (28 + k) f1 g = some (A, f1, g) := by
    obtain ⟨-, si1, -⟩ := hS1.2.2.2.2.1.1 k hk (by rw [r28]; exact o4)
    obtain ⟨A1, -, q2, q3⟩ := al_pair (g := g) (g' := g') hk si1 (hS1.it hk (by rw [r28]; exact o4))
    rw [hAm] at q3
    cases q3
    exact q2
  -- where the class finds nothing
  have nothing : ∀ (w : Int) (f2 : q_F), p_Reckoner_loadedAtOf (28 + k) i z f1 g = some (w, f2, g) → (z = NY ∨ w = NY) → p_Reckoner_reckonSection i fc g = some (0, f2, g) := by
    intro w f2 q1 q2
    rw [start, q1, Option.bind_some]
    unfold p_Reckoner_reckonSection_47
    rcases q2 with q2 | q2
    · rw [if_pos (show q_sw z = q_sw (-1000000000) by rw [q2]; rfl)]
    · rw [if_pos (show q_sw w = q_sw (-1000000000) by rw [q2]; rfl), ite_self]
  have m60 : p_Mod_putSection_60 k A y n1 gn = if q_sw (n1 60 20) = 0 then some (n1, gn) else if 0 ≤ q_sw (n1 82 k) then ((p_Mod_placeOf (n1 82 k) (n1 78 k) n1 gn).bind fun x6 => (p_Mod_raised (x6.1) A x6.2.1 x6.2.2).bind fun x8 => p_Mod_putSection_117 k y x8.1 x8.2.1 x8.2.2) else if q_sw (n1 83 k) = 0 then p_Mod_putSection_117 k y (-1) n1 gn else p_Mod_putSection_117 k y y n1 gn := by
    unfold p_Mod_putSection_60
    rw [if_pos ik, if_pos ik, if_pos ik, if_pos ik, Int.toNat_natCast]
  have n82 : n1 82 k = fc (28 + k) 8 := by rw [e4.1 82 (by omega)]; exact h8.symm
  have n83 : n1 83 k = fc (28 + k) 7 := by rw [e4.1 83 (by omega)]; exact h7.symm
  have n78 : n1 78 k = i := by rw [e4.1 78 (by omega)]; exact o5
  -- the class's load place, where there is no other home
  have hload : fc (28 + k) 8 = -1 → p_Reckoner_loadedAtOf (28 + k) i z f1 g = some (if fc (28 + k) 7 = 0 then -1 else z, f1, g) := by
    intro q8
    unfold p_Reckoner_loadedAtOf p_Reckoner_loadedAtOf_31
    rw [if_pos (by omega), r28, r28, q8, if_pos rfl]
    rcases h7t with q | q
    · rw [if_pos (sw0 q), if_pos q]
    · rw [if_neg (sw1 q), if_neg (by omega)]
  -- the class's load place, where there is one
  have hhome : fc (28 + k) 8 ≠ -1 → ∀ (n2 : q_F) (gm : q_F), MR fm n2 → n2 60 21 = 0 → ∃ w y2 n3, p_Reckoner_loadedAtOf (28 + k) i z f1 g = some (w, f1, g) ∧ ((p_Mod_placeOf (fc (28 + k) 8) i n2 gm).bind fun x8 => p_Mod_raised x8.1 A x8.2.1 x8.2.2) = some (y2, n3, gm) ∧ MR n2 n3 ∧ n3 60 21 = 0 ∧ ((w = y2 ∧ ab w (UB fc + 17063) ∧ n3 60 20 = 1) ∨ (w = NY ∧ n3 60 20 = 0)) := by
    intro q8 n2 gm mr hu21
    obtain ⟨t1, t2, t3⟩ := h8t.resolve_left q8
    have hD2 : DY c0 m0 f1 n2 := mr.dy hD1 hu21
    have hS2 := hX.ss hD2.1 hD2.2.1
    obtain ⟨w, y2, n3, u1, u2, u3, u4, u5⟩ := raised_pair (g := g) (g' := gm) (r := fc (28 + k) 8) (i := i) hS2 hD2.2.2.2 hk hA hAc1 (by
      unfold rtold at *
      rw [e2 (24 + _) (by omega) (by omega)]
      exact t1) (by rw [e2 3 (by omega) (by omega)]; exact hi)
    rw [hUB] at u5
    refine ⟨w, y2, n3, ?_, u2, u3, by rw [u4]; exact hu21, u5⟩
    unfold p_Reckoner_loadedAtOf p_Reckoner_loadedAtOf_31
    have b8 : 0 ≤ fc (28 + k) 8 ∧ fc (28 + k) 8 < 4 := ⟨t1.1, t1.2.1⟩
    rw [if_pos (by omega), r28, r28, if_neg (sw1 t3), if_neg (show ¬ q_sw (fc (28 + k) 8) = q_sw (-1) by rw [q_swn (by omega), q_swn (by omega)]; omega), u1, Option.bind_some]
  have loadsome : ∃ w, p_Reckoner_loadedAtOf (28 + k) i z f1 g = some (w, f1, g) := by
    by_cases q8 : fc (28 + k) 8 = -1
    · exact ⟨_, hload q8⟩
    · obtain ⟨w, y2, n3, u1, -⟩ := hhome q8 fm g' (MR.rf fm) hD.2.2.1
      exact ⟨w, u1⟩
  rcases e7 with ⟨a1, a2, a3, a4, a5⟩ | ⟨a1, a2, a3⟩ | ⟨a1, a2, a3, a4⟩
  · -- the begin is known
    subst a1
    have hzN : z ≠ NY := by
      unfold ab at a2
      unfold NY
      omega
    have hz : ¬ q_sw z = q_sw (-1000000000) := by
      unfold ab at a2
      rw [NY_sw, q_swn (by omega)]
      exact hzN
    -- both put it
    have put : ∀ (w : Int) (n2 gm : q_F), p_Reckoner_loadedAtOf (28 + k) i z f1 g = some (w, f1, g) → ab w (UB fc + 17063) → MR fm n2 → n2 60 21 = 0 → n2 60 20 = 1 → (∀ c, c ≠ 72 → gm c = g' c) → p_Mod_putSection k fm g' = p_Mod_putSection_117 k z w n2 gm → (fc (28 + k) 8 = -1 → fc (28 + k) 7 = 1 → w = z) → ∃ b fd fn gn, p_Reckoner_reckonSection i fc g = some (b, fd, g) ∧ p_Mod_putSection k fm g' = some (fn, gn) ∧ (∀ c, c ≠ 72 → gn c = g' c) ∧ ((b = 0 ∧ same fc fd ∧ (DY c0 m0 fd fn ∨ (UU m0 fn ∧ stuck fc))) ∨ (b = 1 ∧ DY c0 m0 fd fn ∧ grow fc fd ∧ nks fc + 1 ≤ nks fd ∧ (stuck fc → stuck fd))) := by
      intro w n2 gm q1 q2 q3 q4 q5 q6 q7 q9
      have hw : ¬ q_sw w = q_sw (-1000000000) := by
        unfold ab at q2
        rw [NY_sw, q_swn (by omega)]
        omega
      obtain ⟨p', f2, fn, u1, u2, u3, u4, u5, u6, u7⟩ := put_step (g := g) (g' := gm) hX (q3.dy hD1 q4) hk (by rw [r28]; exact o4) (by rw [r28]; exact hu) q5 (by rw [hUB]; exact a2) (by rw [hUB]; exact q2) (by rw [r28, r28]; exact q9)
      refine ⟨1, _, fn, gm, ?_, q7.trans u2, q6, Or.inr ⟨rfl, u3, e2.grow.tr u4, ?_, fun hst => ?_⟩⟩
      · rw [start, q1, Option.bind_some, if_neg hz, if_neg hw]
        dsimp only [q_let]
        rw [u1, Option.bind_some]
      · have : nks f1 = nks fc := by
          unfold nks
          rw [csum_eq 8 (fun i hi => by rw [e2 (28 + i) (by omega) (by omega)])]
        omega
      · refine stuck_grow hS hD.2.2.2 (e2.grow.tr u4) (fun l hl hlt hln h1 hev => ?_) (fun v hv hn h1 _ => ?_) hst
        · have hlk : l ≠ k := fun q => by
            subst q
            exact a5 h1 hev
          rw [u6 l hl hlk, e2 (28 + l) (by omega) (by omega)]
          exact hln
        · have q := u7 v hv (by rw [e2 (36 + v) (by omega) (by omega)]; exact h1)
          rw [q, e2 (36 + v) (by omega) (by omega)]
          exact hn
    by_cases q8 : fc (28 + k) 8 = -1
    · have ld := hload q8
      have hneg : ¬ 0 ≤ q_sw (n1 82 k) := by rw [n82, q8]; decide
      rw [if_neg (sw1 a3), if_neg hneg] at m60
      rcases h7t with q | q
      · rw [if_pos q] at ld
        rw [if_pos (sw0 (n83.trans q))] at m60
        exact put (-1) n1 gn ld (by unfold ab; omega) e4 a4 a3 e5 (e3.trans m60) (fun _ e => by omega)
      · rw [if_neg (by omega)] at ld
        rw [if_neg (sw1 (n83.trans q))] at m60
        exact put z n1 gn ld a2 e4 a4 a3 e5 (e3.trans m60) (fun _ _ => rfl)
    · obtain ⟨w, y2, n3, u1, u2, u3, u4, u5⟩ := hhome q8 n1 gn e4 a4
      have hpos : 0 ≤ q_sw (n1 82 k) := by
        obtain ⟨t1, t2, t3⟩ := h8t.resolve_left q8
        have := t1.1
        have := t1.2.1
        rw [n82, q_swn (by omega)]
        exact t1.1
      obtain ⟨x8, hx8, hx9⟩ := Option.bind_eq_some_iff.mp u2
      rw [if_neg (sw1 a3), if_pos hpos, n82, n78, hx8, Option.bind_some, hx9, Option.bind_some] at m60
      rcases u5 with v | v
      · rw [← v.1] at m60
        exact put w n3 gn u1 v.2.1 (e4.tr u3) u4 v.2.2 e5 (e3.trans m60) (fun e _ => absurd e q8)
      · refine ⟨0, f1, n3, gn, nothing w f1 u1 (Or.inr v.1), ?_, e5, Or.inl ⟨rfl, e2, Or.inl ((e4.tr u3).dy hD1 u4)⟩⟩
        rw [e3, m60]
        unfold p_Mod_putSection_117
        rw [if_pos (sw0 v.2)]
  · -- something unknown
    obtain ⟨w, hw⟩ := loadsome
    rw [if_pos (sw0 a2)] at m60
    exact ⟨0, f1, n1, gn, nothing w f1 hw (Or.inl a1), e3.trans m60, e5, Or.inl ⟨rfl, e2, Or.inl (e4.dy hD1 a3)⟩⟩
  · -- unsound
    obtain ⟨w, hw⟩ := loadsome
    have ht0 : c0 (28 + k) 0 = 1 := by rw [← hD.1 (28 + k) 0 (by unfold dynC; omega)]; exact o4
    obtain ⟨fn, d1, d2, d3, d4, d5⟩ := m_60T (g' := gn) (A := A) (v := y) hX (hD.2.1.tr e4.s) hk ht0 (e4.F hD.2.2.2.F) hA e6
    exact ⟨0, f1, fn, gn, nothing w f1 hw (Or.inl a1), e3.trans d1, e5, Or.inl ⟨rfl, e2, Or.inr ⟨⟨(hD.2.1.tr e4.s).tr d2, by rw [d3]; exact a2, d4, d5⟩, Or.inl ⟨k, hk, o4, hu, a3, a4⟩⟩⟩⟩
end SX
