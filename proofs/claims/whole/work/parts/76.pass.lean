/-! ===== passes over sections and symbols ===== -/
section PA
variable {c0 m0 fc fd fm fn g g' : q_F} {k : Nat}
def PH (c0 m0 fc fm : q_F) : Prop := DY c0 m0 fc fm ∨ (UU m0 fm ∧ (∃ fx, DY c0 m0 fc fx) ∧ stuck fc)
theorem PH.same (hX : CTX c0 m0) (h : PH c0 m0 fc fm) (hs : same fc fd) : PH c0 m0 fd fm := by
  rcases h with h | ⟨h1, ⟨fx, h2⟩, h3⟩
  · exact Or.inl (same.dy h hs)
  · exact Or.inr ⟨h1, ⟨fx, same.dy h2 hs⟩, same.stuck (hX.ss h2.1 h2.2.1) h2.2.2.2 hs h3⟩
theorem PH.mir (h : PH c0 m0 fc fm) : ∃ fx, DY c0 m0 fc fx := by
  rcases h with h | ⟨-, h, -⟩
  · exact ⟨fm, h⟩
  · exact h
theorem PH.sm (h : PH c0 m0 fc fm) : SM m0 fm := by
  rcases h with h | ⟨h, -⟩
  · exact h.2.1
  · exact h.1
theorem PH.sc (h : PH c0 m0 fc fm) : SC c0 fc := by
  obtain ⟨fx, hx⟩ := h.mir
  exact hx.1
theorem PH.F (h : PH c0 m0 fc fm) : mF fm := by
  rcases h with h | ⟨h, -⟩
  · exact h.2.2.2.F
  · exact h.2.2.1
theorem c_known {i : Nat} (hi : i < 8) (hki : fc 14 i = (k : Nat)) (hk : k < 8) (hn : fc (28 + k) 10 ≠ NY) (hb : bnd (fc (28 + k) 10)) : p_Reckoner_reckonSection i fc g = some (0, fc, g) := by
  unfold p_Reckoner_reckonSection p_Section_isKnown p_Section_isKnown_14
  unfold bnd at hb
  rw [c_sectionAt hi (by omega), Option.bind_some]
  dsimp only
  rw [hki, Int.toNat_natCast, if_pos (show 28 ≤ 28 + k ∧ 28 + k < 36 by omega), if_pos (show 28 ≤ 28 + k ∧ 28 + k < 36 by omega), if_neg (show ¬ q_sw (fc (28 + k) 10) = q_sw (-1000000000) by rw [NY_sw, q_swn (by omega)]; exact hn), if_pos (Or.inr rfl), Option.bind_some, if_neg (sw1 rfl)]
theorem m_sec15 {c7 : Int → q_F → q_F → Option (Int × q_F × q_F)} {n : Nat} {v1 : Int} {i : Nat} (hi : (i : Int) < fm 60 22) (hi8 : fm 60 22 ≤ 8) (hki : fm 75 i = (k : Nat)) (hk : k < 8) (hF : fm 77 k = 0 ∨ fm 77 k = 1) : p_Mod_reckonAll_15 c7 (n + 1) v1 i fm g' = if fm 77 k = 0 then ((p_Mod_putSection k fm g').bind fun x6 => p_Mod_reckonAll_15 c7 n v1 (i + 1 : Nat) x6.1 x6.2) else p_Mod_reckonAll_15 c7 n v1 (i + 1 : Nat) fm g' := by
  have e : ((i : Nat) : Int) + 1 = ((i + 1 : Nat) : Int) := by omega
  rw [p_Mod_reckonAll_15, if_neg (show ¬ q_sw (fm 60 22) ≤ q_sw (i : Int) by rw [q_swn (by omega), q_swn (by omega)]; omega), if_pos (show 0 ≤ (i : Int) ∧ (i : Int) < 8 by omega), Int.toNat_natCast, hki, if_pos (show 0 ≤ (k : Int) ∧ (k : Int) < 8 by omega), Int.toNat_natCast]
  unfold p_Mod_reckonAll_47
  dsimp only [q_let]
  rw [e]
  rcases hF with q | q
  · rw [if_pos (sw0 q), if_pos q, if_pos (show 0 ≤ (i : Int) ∧ (i : Int) < 8 by omega)]
  · rw [if_neg (sw1 q), if_neg (by omega)]
theorem PH_sec {i : Nat} (hX : CTX c0 m0) (h : PH c0 m0 fc fm) (hi : (i : Int) < fc 3 7) : ∃ b fd fn gn, p_Reckoner_reckonSection i fc g = some (b, fd, g) ∧ (∀ c7 n v1, p_Mod_reckonAll_15 c7 (n + 1) v1 i fm g' = p_Mod_reckonAll_15 c7 n v1 (i + 1 : Nat) fn gn) ∧ (∀ c, c ≠ 72 → gn c = g' c) ∧ PH c0 m0 fd fn ∧ ((b = 0 ∧ same fc fd) ∨ (b = 1 ∧ grow fc fd ∧ nks fc + 1 ≤ nks fd)) := by
  have hS := hX.ss h.sc h.sm
  have o8 := hS.2.2.2.1.2.2.1
  have oe := hS.2.2.2.1.1
  obtain ⟨o1, o2, o3, o4, o5⟩ := hS.2.2.2.1.2.2.2.2 i hi
  obtain ⟨k, hk⟩ : ∃ k : Nat, fc 14 i = k := ⟨(fc 14 i).toNat, by omega⟩
  have hkm : fm 75 i = k := by rw [← o1]; exact hk
  rw [hk, Int.toNat_natCast] at o4
  have hk8 : k < 8 := by omega
  have eM := fun c7 n v1 => m_sec15 (c7 := c7) (n := n) (v1 := v1) (g' := g') (i := i) (by rw [← oe]; exact hi) (by rw [← oe]; exact o8) hkm hk8 (h.F.1 k hk8)
  rcases h with h | ⟨hU, ⟨fx, hx⟩, hst⟩
  · by_cases hn : fc (28 + k) 10 = NY
    · obtain ⟨b, fd, fn, gn, e1, e2, e3, e4⟩ := sec_step (g := g) (g' := g') hX h hi hk hn
      have h77 : fm 77 k = 0 := by
        rcases h.2.2.2.1 k hk8 with q | q
        · exact q.2.2.2
        · rw [hn] at q
          unfold NY at q
          omega
      refine ⟨b, fd, fn, gn, e1, fun c7 n v1 => ?_, e3, ?_, ?_⟩
      · rw [eM, if_pos h77, e2, Option.bind_some]
      · rcases e4 with ⟨-, q2, q3⟩ | ⟨-, q2, -⟩
        · rcases q3 with q3 | q3
          · exact Or.inl q3
          · exact Or.inr ⟨q3.1, ⟨fm, same.dy h q2⟩, same.stuck hS h.2.2.2 q2 q3.2⟩
        · exact Or.inl q2
      · rcases e4 with q | q
        · exact Or.inl ⟨q.1, q.2.1⟩
        · exact Or.inr ⟨q.1, q.2.2.1, q.2.2.2.1⟩
    · have hb := (h.2.2.2.B.2 k hk8).2.1.resolve_left hn
      have h77 : fm 77 k = 1 := by
        rcases h.2.2.2.1 k hk8 with q | q
        · exact absurd q.2.1 hn
        · exact q.1
      exact ⟨0, fc, fm, g', c_known (by omega) hk hk8 hn hb, fun c7 n v1 => by rw [eM, if_neg (by omega)], fun _ _ => rfl, Or.inl h, Or.inl ⟨rfl, same.rf _⟩⟩
  · have hSx := hX.ss hx.1 hx.2.1
    have ht0 : c0 (28 + k) 0 = 1 := by rw [← hx.1 (28 + k) 0 (by unfold dynC; omega)]; exact o4
    have ref : ∃ fn gn, (∀ c7 n v1, p_Mod_reckonAll_15 c7 (n + 1) v1 i fm g' = p_Mod_reckonAll_15 c7 n v1 (i + 1 : Nat) fn gn) ∧ (∀ c, c ≠ 72 → gn c = g' c) ∧ UU m0 fn := by
      rcases hU.2.2.1.1 k hk8 with q | q
      · obtain ⟨fn, gn, u1, u2, u3⟩ := m_putT (g' := g') hX hk8 ht0 hU
        exact ⟨fn, gn, fun c7 n v1 => by rw [eM, if_pos q, u1, Option.bind_some], u3, u2⟩
      · exact ⟨fm, g', fun c7 n v1 => by rw [eM, if_neg (by omega)], fun _ _ => rfl, hU⟩
    obtain ⟨fn, gn, r1, r2, r3⟩ := ref
    by_cases hn : fc (28 + k) 10 = NY
    · obtain ⟨b, fd, fn2, gn2, e1, e2, e3, e4⟩ := sec_step (g := g) (g' := g') hX hx hi hk hn
      refine ⟨b, fd, fn, gn, e1, r1, r2, Or.inr ⟨r3, ?_, ?_⟩, ?_⟩
      · rcases e4 with ⟨-, q2, -⟩ | ⟨-, q2, -⟩
        · exact ⟨fx, same.dy hx q2⟩
        · exact ⟨fn2, q2⟩
      · rcases e4 with ⟨-, q2, -⟩ | ⟨-, -, -, -, q5⟩
        · exact same.stuck hSx hx.2.2.2 q2 hst
        · exact q5 hst
      · rcases e4 with q | q
        · exact Or.inl ⟨q.1, q.2.1⟩
        · exact Or.inr ⟨q.1, q.2.2.1, q.2.2.2.1⟩
    · have hb := (hx.2.2.2.B.2 k hk8).2.1.resolve_left hn
      exact ⟨0, fc, fn, gn, c_known (by omega) hk hk8 hn hb, r1, r2, Or.inr ⟨r3, ⟨fx, hx⟩, hst⟩, Or.inl ⟨rfl, same.rf _⟩⟩
theorem m_symT {v : Nat} (hX : CTX c0 m0) (hU : UU m0 fm) (hv : v < 18) : ∃ fn gn, (∀ c7 n v1, p_Mod_reckonAll_56 c7 (n + 1) v1 (v + 8 : Nat) fm g' = p_Mod_reckonAll_56 c7 n v1 (v + 9 : Nat) fn gn) ∧ (∀ c, c ≠ 72 → gn c = g' c) ∧ UU m0 fn := by
  obtain ⟨hm, h21, hF, h20⟩ := id hU
  have hS := hX.ss (SC.rf c0) hm
  obtain ⟨s1, s2, s3, s4⟩ := hS.2.2.2.2.2.1 v hv
  have f01 := hF.2 (v + 8) (by omega) (by omega)
  rcases s2 with t | t
  · exact ⟨fm, g', fun c7 n v1 => m_sym_skip hv (Or.inl (by rw [← s1]; exact t)), fun _ _ => rfl, hU⟩
  · have t' := t
    rw [s1] at t'
    rcases f01 with p | p
    · rcases s4 t with q | q
      · exact ⟨fm, g', fun c7 n v1 => m_sym_skip hv (Or.inr (Or.inr ⟨t', p, q.2⟩)), fun _ _ => rfl, hU⟩
      · obtain ⟨q1, q2, q3⟩ := q
        obtain ⟨x1, x2, x3, x4, x5, x6⟩ := q3
        have h160 := hS.2.1.1
        have r70 : ∀ j : Nat, (j : Int) < fm 94 (v + 8) → fm 70 j = c0 12 j := fun j hj => (hS.2.1.2 j (by omega)).1
        have mr := MR.u20 fm 1
        have wf2 : wfs (fm 70) (fm 94 (v + 8) - fm 93 (v + 8)).toNat (fm 93 (v + 8)).toNat 0 1 := WF.ext (K := c0 12) (by omega) (by omega) r70 (by rw [x1, x2]; exact x6)
        obtain ⟨w, f1, gn, e1, e2, e3, e4, e5, e6⟩ := m_total (fm 94 (v + 8) - fm 93 (v + 8)).toNat (fm 93 (v + 8)).toNat 0 (ma_up fm 60 20 1) g' 1000 (by omega) (fun j c1 c2 => by
            rw [mr.1 70 (by omega), mr.1 71 (by omega), r70 j (by omega)]
            exact ⟨_, (hS.2.1.2 j (by omega)).2⟩) (by rw [mr.1 70 (by omega)]; exact wf2) (by omega) (by omega) (Or.inr ma_up_self) (by rw [ma_up_at (by omega)]; exact Or.inr h21) (mr.F hF)
        have eR : p_Mod_reckon (fm 93 (v + 8)) (fm 94 (v + 8)) fm g' = some (w, f1, gn) := by
          unfold p_Mod_reckon
          rw [← e1]
          dsimp only [q_let]
          congr 1 <;> omega
        have mr1 := mr.tr e2
        have hF1 := mr1.F hF
        have u21 : f1 60 21 = 1 := e3 (by rw [ma_up_at (by omega)]; exact h21)
        refine ⟨_, gn, fun c7 n v1 => m_sym_go hv t' p q2 eR e4, e6, ?_⟩
        rcases e4 with z | z
        · rw [if_pos z]
          refine ⟨(hm.tr mr1.s).up (by unfold dynM; omega), by rw [ma_up_ne (by omega)]; exact u21, ⟨fun l hl => by rw [ma_up_ne (by omega)]; exact hF1.1 l hl, fun u h8 hu => ?_⟩, by rw [ma_up_ne (by omega)]; exact Or.inl z⟩
          by_cases e : u = v + 8
          · subst e
            rw [ma_up_self]
            exact Or.inl rfl
          · rw [ma_up_at e]
            exact hF1.2 u h8 hu
        · rw [if_neg (by omega)]
          refine ⟨((hm.tr mr1.s).up (by unfold dynM; omega)).up (by unfold dynM; omega), by rw [ma_up_ne (by omega), ma_up_ne (by omega)]; exact u21, ⟨fun l hl => by rw [ma_up_ne (by omega), ma_up_ne (by omega)]; exact hF1.1 l hl, fun u h8 hu => ?_⟩, by rw [ma_up_ne (by omega), ma_up_ne (by omega)]; exact Or.inr z⟩
          by_cases e : u = v + 8
          · subst e
            rw [ma_up_self]
            exact Or.inr rfl
          · rw [ma_up_at e, ma_up_ne (by omega)]
            exact hF1.2 u h8 hu
    · exact ⟨fm, g', fun c7 n v1 => m_sym_skip hv (Or.inr (Or.inl ⟨t', p⟩)), fun _ _ => rfl, hU⟩
theorem PH_sym {v : Nat} (hX : CTX c0 m0) (h : PH c0 m0 fc fm) (hv : v < 18) : ∃ b fd fn gn, p_Reckoner_reckonSymbol (36 + v) fc g = some (b, fd, g) ∧ (∀ c7 n v1, p_Mod_reckonAll_56 c7 (n + 1) v1 (v + 8 : Nat) fm g' = p_Mod_reckonAll_56 c7 n v1 (v + 9 : Nat) fn gn) ∧ (∀ c, c ≠ 72 → gn c = g' c) ∧ PH c0 m0 fd fn ∧ ((b = 0 ∧ same fc fd) ∨ (b = 1 ∧ grow fc fd ∧ nky fc + 1 ≤ nky fd)) := by
  rcases h with h | ⟨hU, ⟨fx, hx⟩, hst⟩
  · obtain ⟨b, fd, fn, gn, e1, e2, e3, e4⟩ := sym_step (g := g) (g' := g') hX h hv
    refine ⟨b, fd, fn, gn, e1, e2, e3, ?_, ?_⟩
    · rcases e4 with ⟨-, q2, q3⟩ | ⟨-, q2, -⟩
      · rcases q3 with q3 | q3
        · exact Or.inl q3
        · exact Or.inr ⟨q3.1, ⟨fm, same.dy h q2⟩, same.stuck (hX.ss h.1 h.2.1) h.2.2.2 q2 q3.2⟩
      · exact Or.inl q2
    · rcases e4 with q | q
      · exact Or.inl ⟨q.1, q.2.1⟩
      · exact Or.inr ⟨q.1, q.2.2.1, q.2.2.2.1⟩
  · obtain ⟨fn, gn, r1, r2, r3⟩ := m_symT (g' := g') hX hU hv
    obtain ⟨b, fd, fn2, gn2, e1, e2, e3, e4⟩ := sym_step (g := g) (g' := g') hX hx hv
    refine ⟨b, fd, fn, gn, e1, r1, r2, Or.inr ⟨r3, ?_, ?_⟩, ?_⟩
    · rcases e4 with ⟨-, q2, -⟩ | ⟨-, q2, -⟩
      · exact ⟨fx, same.dy hx q2⟩
      · exact ⟨fn2, q2⟩
    · rcases e4 with ⟨-, q2, -⟩ | ⟨-, -, -, -, q5⟩
      · exact same.stuck (hX.ss hx.1 hx.2.1) hx.2.2.2 q2 hst
      · exact q5 hst
    · rcases e4 with q | q
      · exact Or.inl ⟨q.1, q.2.1⟩
      · exact Or.inr ⟨q.1, q.2.2.1, q.2.2.2.1⟩
def cnt (f : q_F) : Int := nks f + nky f
theorem same.ct (h : same fc fd) : cnt fd = cnt fc := by
  unfold cnt nks nky
  rw [csum_eq 8 (fun i hi => by rw [h (28 + i) (by omega) (by omega)]), csum_eq 18 (fun i hi => by rw [h (36 + i) (by omega) (by omega)])]
/-- how far a stretch of a pass came -/
def prog (pr pr' : Int) (fc fd : q_F) : Prop := (pr' = pr ∧ same fc fd) ∨ (pr' = 1 ∧ grow fc fd ∧ cnt fc + 1 ≤ cnt fd)
theorem prog.tr {p1 p2 p3 : Int} {f1 f2 f3 : q_F} (h1 : prog p1 p2 f1 f2) (h2 : prog p2 p3 f2 f3) : prog p1 p3 f1 f3 := by
  rcases h1 with ⟨a1, a2⟩ | ⟨a1, a2, a3⟩
  · rcases h2 with ⟨b1, b2⟩ | ⟨b1, b2, b3⟩
    · exact Or.inl ⟨b1.trans a1, a2.tr b2⟩
    · exact Or.inr ⟨b1, a2.grow.tr b2, by rw [← a2.ct]; exact b3⟩
  · rcases h2 with ⟨b1, b2⟩ | ⟨b1, b2, b3⟩
    · exact Or.inr ⟨b1.trans a1, a2.tr b2.grow, by rw [b2.ct]; exact a3⟩
    · exact Or.inr ⟨b1, a2.tr b2, by omega⟩
theorem secs_loop (hX : CTX c0 m0) : ∀ (m i n1 : Nat) (pr : Int) (fc fm g' : q_F), PH c0 m0 fc fm → (i : Int) + m = fc 3 7 → m < n1 → (pr = 0 ∨ pr = 1) → ∃ pr' fd fn gn, (∀ (c4 : Int → Int → q_F → q_F → Option (Int × q_F × q_F)) (v2 : Int), p_Reckoner_reckonAll_18 c4 n1 pr v2 i fc g = p_Reckoner_reckonAll_55 c4 1000 pr' v2 0 fd g) ∧ (∀ c7 n2 v1, m < n2 → p_Mod_reckonAll_15 c7 n2 v1 i fm g' = p_Mod_reckonAll_56 c7 1000 v1 8 fn gn) ∧ (∀ c, c ≠ 72 → gn c = g' c) ∧ PH c0 m0 fd fn ∧ (pr' = 0 ∨ pr' = 1) ∧ prog pr pr' fc fd := by
  intro m
  induction m with
  | zero =>
    intro i n1 pr fc fm g' h hi h1 hp
    obtain ⟨n1, rfl⟩ : ∃ k, n1 = k + 1 := ⟨n1 - 1, by omega⟩
    have hS := hX.ss h.sc h.sm
    have o8 := hS.2.2.2.1.2.2.1
    have oe := hS.2.2.2.1.1
    refine ⟨pr, fc, fm, g', fun c4 v2 => ?_, fun c7 n2 v1 h2 => ?_, fun _ _ => rfl, h, hp, Or.inl ⟨rfl, same.rf _⟩⟩
    · rw [p_Reckoner_reckonAll_18, if_pos (show q_sw (fc 3 7) ≤ q_sw (i : Int) by rw [q_swn (by omega), q_swn (by omega)]; omega)]
    · obtain ⟨n2, rfl⟩ : ∃ k, n2 = k + 1 := ⟨n2 - 1, by omega⟩
      rw [p_Mod_reckonAll_15, if_pos (show q_sw (fm 60 22) ≤ q_sw (i : Int) by rw [← oe, q_swn (by omega), q_swn (by omega)]; omega)]
  | succ m ih =>
    intro i n1 pr fc fm g' h hi h1 hp
    obtain ⟨n1, rfl⟩ : ∃ k, n1 = k + 1 := ⟨n1 - 1, by omega⟩
    have hS := hX.ss h.sc h.sm
    have o8 := hS.2.2.2.1.2.2.1
    obtain ⟨b, f1, n1', gn, e1, e2, e3, e4, e5⟩ := PH_sec (g := g) (g' := g') (i := i) hX h (by omega)
    have eC : ∃ pr1, (pr1 = 0 ∨ pr1 = 1) ∧ prog pr pr1 fc f1 ∧ ∀ (c4 : Int → Int → q_F → q_F → Option (Int × q_F × q_F)) (v2 : Int), p_Reckoner_reckonAll_18 c4 (n1 + 1) pr v2 i fc g = p_Reckoner_reckonAll_18 c4 n1 pr1 v2 (i + 1 : Nat) f1 g := by
      have base : ∀ (c4 : Int → Int → q_F → q_F → Option (Int × q_F × q_F)) (v2 : Int), p_Reckoner_reckonAll_18 c4 (n1 + 1) pr v2 i fc g = if q_sw b = 0 then (if q_sw pr = 0 then p_Reckoner_reckonAll_18 c4 n1 0 v2 (i + 1 : Nat) f1 g else p_Reckoner_reckonAll_18 c4 n1 1 v2 (i + 1 : Nat) f1 g) else p_Reckoner_reckonAll_18 c4 n1 1 v2 (i + 1 : Nat) f1 g := fun c4 v2 => by
        rw [p_Reckoner_reckonAll_18, if_neg (show ¬ q_sw (fc 3 7) ≤ q_sw (i : Int) by rw [q_swn (by omega), q_swn (by omega)]; omega), e1, Option.bind_some]
        unfold p_Reckoner_reckonAll_46 p_Reckoner_reckonAll_41 p_Reckoner_reckonAll_46
        dsimp only [q_let]
        rw [show ((i : Nat) : Int) + 1 = ((i + 1 : Nat) : Int) by omega]
      rcases e5 with ⟨q1, q2⟩ | ⟨q1, q2, q3⟩
      · rcases hp with hp | hp
        · exact ⟨0, Or.inl rfl, Or.inl ⟨hp.symm, q2⟩, fun c4 v2 => by rw [base, if_pos (sw0 q1), if_pos (sw0 hp)]⟩
        · exact ⟨1, Or.inr rfl, Or.inl ⟨hp.symm, q2⟩, fun c4 v2 => by rw [base, if_pos (sw0 q1), if_neg (sw1 hp)]⟩
      · refine ⟨1, Or.inr rfl, Or.inr ⟨rfl, q2, ?_⟩, fun c4 v2 => by rw [base, if_neg (sw1 q1)]⟩
        have := q2.nky
        unfold cnt
        omega
    obtain ⟨pr1, p1, p2, p3⟩ := eC
    have hc3 : f1 3 7 = fc 3 7 := by rw [e4.sc 3 7 (by unfold dynC; omega), h.sc 3 7 (by unfold dynC; omega)]
    obtain ⟨pr', fd, fn, gn2, d1, d2, d3, d4, d5, d6⟩ := ih (i + 1) n1 pr1 f1 n1' gn e4 (by rw [hc3]; omega) (by omega) p1
    refine ⟨pr', fd, fn, gn2, fun c4 v2 => (p3 c4 v2).trans (d1 c4 v2), fun c7 n2 v1 h2 => ?_, fun c hc => (d3 c hc).trans (e3 c hc), d4, d5, p2.tr d6⟩
    obtain ⟨n2, rfl⟩ : ∃ k, n2 = k + 1 := ⟨n2 - 1, by omega⟩
    rw [e2]
    exact d2 c7 n2 v1 (by omega)
theorem syms_loop (hX : CTX c0 m0) : ∀ (m v n1 : Nat) (pr : Int) (fc fm g' : q_F), PH c0 m0 fc fm → v + m = 18 → m < n1 → (pr = 0 ∨ pr = 1) → ∃ pr' fd fn gn, (∀ (c4 : Int → Int → q_F → q_F → Option (Int × q_F × q_F)) (v2 : Int), p_Reckoner_reckonAll_55 c4 n1 pr v2 v fc g = c4 pr' (v2 + 1) fd g) ∧ (∀ c7 n2 v1, m < n2 → p_Mod_reckonAll_56 c7 n2 v1 (v + 8 : Nat) fm g' = c7 (v1 + 1) fn gn) ∧ (∀ c, c ≠ 72 → gn c = g' c) ∧ PH c0 m0 fd fn ∧ (pr' = 0 ∨ pr' = 1) ∧ prog pr pr' fc fd := by
  intro m
  induction m with
  | zero =>
    intro v n1 pr fc fm g' h hi h1 hp
    obtain ⟨n1, rfl⟩ : ∃ k, n1 = k + 1 := ⟨n1 - 1, by omega⟩
    refine ⟨pr, fc, fm, g', fun c4 v2 => ?_, fun c7 n2 v1 h2 => ?_, fun _ _ => rfl, h, hp, Or.inl ⟨rfl, same.rf _⟩⟩
    · rw [p_Reckoner_reckonAll_55, if_pos (show q_sw 18 ≤ q_sw (v : Int) by rw [q_swn (by omega), q_swn (by omega)]; omega)]
      rfl
    · obtain ⟨n2, rfl⟩ : ∃ k, n2 = k + 1 := ⟨n2 - 1, by omega⟩
      rw [p_Mod_reckonAll_56, if_pos (show q_sw 26 ≤ q_sw ((v + 8 : Nat) : Int) by rw [q_swn (by omega), q_swn (by omega)]; omega)]
      rfl
  | succ m ih =>
    intro v n1 pr fc fm g' h hi h1 hp
    obtain ⟨n1, rfl⟩ : ∃ k, n1 = k + 1 := ⟨n1 - 1, by omega⟩
    obtain ⟨b, f1, n1', gn, e1, e2, e3, e4, e5⟩ := PH_sym (g := g) (g' := g') (v := v) hX h (by omega)
    have eC : ∃ pr1, (pr1 = 0 ∨ pr1 = 1) ∧ prog pr pr1 fc f1 ∧ ∀ (c4 : Int → Int → q_F → q_F → Option (Int × q_F × q_F)) (v2 : Int), p_Reckoner_reckonAll_55 c4 (n1 + 1) pr v2 v fc g = p_Reckoner_reckonAll_55 c4 n1 pr1 v2 (v + 1 : Nat) f1 g := by
      have base : ∀ (c4 : Int → Int → q_F → q_F → Option (Int × q_F × q_F)) (v2 : Int), p_Reckoner_reckonAll_55 c4 (n1 + 1) pr v2 v fc g = if q_sw b = 0 then (if q_sw pr = 0 then p_Reckoner_reckonAll_55 c4 n1 0 v2 (v + 1 : Nat) f1 g else p_Reckoner_reckonAll_55 c4 n1 1 v2 (v + 1 : Nat) f1 g) else p_Reckoner_reckonAll_55 c4 n1 1 v2 (v + 1 : Nat) f1 g := fun c4 v2 => by
        rw [p_Reckoner_reckonAll_55, if_neg (show ¬ q_sw 18 ≤ q_sw (v : Int) by rw [q_swn (by omega), q_swn (by omega)]; omega), if_pos (show 0 ≤ (v : Int) ∧ (v : Int) < 18 by omega), Int.toNat_natCast, e1, Option.bind_some]
        unfold p_Reckoner_reckonAll_86 p_Reckoner_reckonAll_81 p_Reckoner_reckonAll_86
        dsimp only [q_let]
        rw [show ((v : Nat) : Int) + 1 = ((v + 1 : Nat) : Int) by omega]
      rcases e5 with ⟨q1, q2⟩ | ⟨q1, q2, q3⟩
      · rcases hp with hp | hp
        · exact ⟨0, Or.inl rfl, Or.inl ⟨hp.symm, q2⟩, fun c4 v2 => by rw [base, if_pos (sw0 q1), if_pos (sw0 hp)]⟩
        · exact ⟨1, Or.inr rfl, Or.inl ⟨hp.symm, q2⟩, fun c4 v2 => by rw [base, if_pos (sw0 q1), if_neg (sw1 hp)]⟩
      · refine ⟨1, Or.inr rfl, Or.inr ⟨rfl, q2, ?_⟩, fun c4 v2 => by rw [base, if_neg (sw1 q1)]⟩
        have := q2.nks
        unfold cnt
        omega
    obtain ⟨pr1, p1, p2, p3⟩ := eC
    obtain ⟨pr', fd, fn, gn2, d1, d2, d3, d4, d5, d6⟩ := ih (v + 1) n1 pr1 f1 n1' gn e4 (by omega) (by omega) p1
    refine ⟨pr', fd, fn, gn2, fun c4 v2 => (p3 c4 v2).trans (d1 c4 v2), fun c7 n2 v1 h2 => ?_, fun c hc => (d3 c hc).trans (e3 c hc), d4, d5, p2.tr d6⟩
    obtain ⟨n2, rfl⟩ : ∃ k, n2 = k + 1 := ⟨n2 - 1, by omega⟩
    rw [e2]
    have := d2 c7 n2 v1 (by omega)
    rw [show v + 1 + 8 = v + 9 by omega] at this
    exact this
/-- a whole pass -/
theorem pass_pair (hX : CTX c0 m0) (h : PH c0 m0 fc fm) : ∃ pr fd fn gn, (∀ (c4 : Int → Int → q_F → q_F → Option (Int × q_F × q_F)) (v2 : Int), p_Reckoner_reckonAll_18 c4 1000 0 v2 0 fc g = c4 pr (v2 + 1) fd g) ∧ (∀ c7 v1, p_Mod_reckonAll_15 c7 1000 v1 0 fm g' = c7 (v1 + 1) fn gn) ∧ (∀ c, c ≠ 72 → gn c = g' c) ∧ PH c0 m0 fd fn ∧ prog 0 pr fc fd := by
  have hS := hX.ss h.sc h.sm
  have o8 := hS.2.2.2.1.2.2.1
  have o0 := hS.2.2.2.1.2.1
  obtain ⟨pr1, f1, n1, g1, a1, a2, a3, a4, a5, a6⟩ := secs_loop (g := g) hX (fc 3 7).toNat 0 1000 0 fc fm g' h (by omega) (by omega) (Or.inl rfl)
  obtain ⟨pr2, f2, n2, g2, b1, b2, b3, b4, b5, b6⟩ := syms_loop (g := g) hX 18 0 1000 pr1 f1 n1 g1 a4 (by omega) (by omega) a5
  exact ⟨pr2, f2, n2, g2, fun c4 v2 => (a1 c4 v2).trans (b1 c4 v2), fun c7 v1 => (a2 c7 1000 v1 (by omega)).trans (b2 c7 1000 v1 (by omega)), fun c hc => (b3 c hc).trans (a3 c hc), b4, a6.tr b6⟩
end PA
