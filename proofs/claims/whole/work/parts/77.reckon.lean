/-! ===== all passes; is all known? ===== -/
section RK
variable {c0 m0 fc fd fm fn g g' : q_F} {k : Nat}
/-- the class's pass finds nothing new -/
def quiet (g fc : q_F) : Prop := ∃ fd, ∀ (c4 : Int → Int → q_F → q_F → Option (Int × q_F × q_F)) (v2 : Int), p_Reckoner_reckonAll_18 c4 1000 0 v2 0 fc g = c4 0 (v2 + 1) fd g
theorem quiet_pass (hX : CTX c0 m0) (hq : quiet g fc) (h : PH c0 m0 fc fm) : ∃ fn gn, (∀ c7 v1, p_Mod_reckonAll_15 c7 1000 v1 0 fm g' = c7 (v1 + 1) fn gn) ∧ (∀ c, c ≠ 72 → gn c = g' c) ∧ PH c0 m0 fc fn := by
  obtain ⟨fd, hfd⟩ := hq
  obtain ⟨pr, f1, fn, gn, e1, e2, e3, e4, e5⟩ := pass_pair (g := g) (g' := g') hX h
  have e1 := e1 (fun a _ f g => some (a, f, g)) 0
  rw [hfd] at e1
  have epr : pr = 0 := by
    have := congrArg (fun o => (o.getD (0, fc, g)).1) e1
    simp only [Option.getD_some] at this
    exact this.symm
  refine ⟨fn, gn, e2, e3, ?_⟩
  rcases e5 with q | q
  · exact e4.same hX q.2.sy
  · rw [epr] at q
    exact absurd q.1 (by decide)
theorem tail_loop (hX : CTX c0 m0) (hq : quiet g fc) : ∀ (m p n : Nat) (fm g' : q_F), PH c0 m0 fc fm → p + m = 28 → m < n → ∃ fn gn, p_Mod_reckonAll_7 n p fm g' = (if q_sw (fn 60 21) = 0 then p_Mod_reckonAll_155 1 fn gn else p_Mod_reckonAll_155 0 fn gn) ∧ (∀ c, c ≠ 72 → gn c = g' c) ∧ PH c0 m0 fc fn := by
  intro m
  induction m with
  | zero =>
    intro p n fm g' h hp hn
    obtain ⟨n, rfl⟩ : ∃ k, n = k + 1 := ⟨n - 1, by omega⟩
    refine ⟨fm, g', ?_, fun _ _ => rfl, h⟩
    rw [p_Mod_reckonAll_7, if_pos (show q_sw 28 ≤ q_sw (p : Int) by rw [q_swn (by omega), q_swn (by omega)]; omega)]
  | succ m ih =>
    intro p n fm g' h hp hn
    obtain ⟨n, rfl⟩ : ∃ k, n = k + 1 := ⟨n - 1, by omega⟩
    obtain ⟨f1, g1, e1, e2, e3⟩ := quiet_pass (g' := g') hX hq h
    obtain ⟨fn, gn, d1, d2, d3⟩ := ih (p + 1) n f1 g1 e3 (by omega) (by omega)
    refine ⟨fn, gn, ?_, fun c hc => (d2 c hc).trans (e2 c hc), d3⟩
    rw [p_Mod_reckonAll_7, if_neg (show ¬ q_sw 28 ≤ q_sw (p : Int) by rw [q_swn (by omega), q_swn (by omega)]; omega), e1, ← d1, show ((p : Nat) : Int) + 1 = ((p + 1 : Nat) : Int) by omega]
theorem main_loop (hX : CTX c0 m0) : ∀ (m p n1 n2 : Nat) (fc fm g' : q_F), PH c0 m0 fc fm → p + m = 26 → (p : Int) ≤ cnt fc → m < n1 → m + 2 < n2 → ∃ fd fn gn, p_Reckoner_reckonAll_4 (n1 + 1) 1 p fc g = p_Reckoner_reckonAll_99 fd g ∧ p_Mod_reckonAll_7 n2 p fm g' = (if q_sw (fn 60 21) = 0 then p_Mod_reckonAll_155 1 fn gn else p_Mod_reckonAll_155 0 fn gn) ∧ (∀ c, c ≠ 72 → gn c = g' c) ∧ PH c0 m0 fd fn := by
  intro m
  induction m with
  | zero =>
    intro p n1 n2 fc fm g' h hp hc h1 h2
    have hq : quiet g fc := by
      obtain ⟨pr, f1, fn, gn, e1, e2, e3, e4, e5⟩ := pass_pair (g := g) (g' := g') hX h
      have b1 := nks_b f1
      have b2 := nky_b f1
      rcases e5 with q | q
      · refine ⟨f1, fun c4 v2 => ?_⟩
        rw [e1 c4 v2, q.1]
      · unfold cnt at *
        omega
    obtain ⟨fn, gn, d1, d2, d3⟩ := tail_loop hX hq 2 p n2 fm g' h (by omega) (by omega)
    refine ⟨fc, fn, gn, ?_, d1, d2, d3⟩
    rw [p_Reckoner_reckonAll_4, if_neg (sw1 rfl), if_pos (show q_sw 26 ≤ q_sw (p : Int) by rw [q_swn (by omega), q_swn (by omega)]; omega)]
  | succ m ih =>
    intro p n1 n2 fc fm g' h hp hc h1 h2
    obtain ⟨n1, rfl⟩ : ∃ k, n1 = k + 1 := ⟨n1 - 1, by omega⟩
    obtain ⟨n2, rfl⟩ : ∃ k, n2 = k + 1 := ⟨n2 - 1, by omega⟩
    obtain ⟨pr, f1, n1', g1, e1, e2, e3, e4, e5⟩ := pass_pair (g := g) (g' := g') hX h
    have eC : p_Reckoner_reckonAll_4 (n1 + 1 + 1) 1 p fc g = p_Reckoner_reckonAll_4 (n1 + 1) pr (p + 1 : Nat) f1 g := by
      rw [p_Reckoner_reckonAll_4, if_neg (sw1 rfl), if_neg (show ¬ q_sw 26 ≤ q_sw (p : Int) by rw [q_swn (by omega), q_swn (by omega)]; omega), e1, show ((p : Nat) : Int) + 1 = ((p + 1 : Nat) : Int) by omega]
    have eM : p_Mod_reckonAll_7 (n2 + 1) p fm g' = p_Mod_reckonAll_7 n2 (p + 1 : Nat) n1' g1 := by
      rw [p_Mod_reckonAll_7, if_neg (show ¬ q_sw 28 ≤ q_sw (p : Int) by rw [q_swn (by omega), q_swn (by omega)]; omega), e2, show ((p : Nat) : Int) + 1 = ((p + 1 : Nat) : Int) by omega]
    rcases e5 with ⟨q1, q2⟩ | ⟨q1, q2, q3⟩
    · have hq : quiet g fc := ⟨f1, fun c4 v2 => by rw [e1 c4 v2, q1]⟩
      obtain ⟨fn, gn, d1, d2, d3⟩ := tail_loop hX hq (m + 2) (p + 1) n2 n1' g1 (e4.same hX q2.sy) (by omega) (by omega)
      refine ⟨f1, fn, gn, ?_, eM.trans d1, fun c hc => (d2 c hc).trans (e3 c hc), d3.same hX q2⟩
      rw [eC, q1, p_Reckoner_reckonAll_4, if_pos (sw0 rfl)]
    · obtain ⟨fd, fn, gn, d1, d2, d3, d4⟩ := ih (p + 1) n1 n2 f1 n1' g1 e4 (by omega) (by omega) (by omega) (by omega)
      refine ⟨fd, fn, gn, ?_, eM.trans d2, fun c hc => (d3 c hc).trans (e3 c hc), d4⟩
      rw [eC, q1]
      exact d1
def AK (fc : q_F) : Prop := (∀ i : Nat, (i : Int) < fc 3 7 → fc (28 + (fc 14 i).toNat) 10 ≠ NY) ∧ ∀ v : Nat, v < 18 → fc (36 + v) 0 = 1 → fc (36 + v) 4 ≠ NY
/-- the class: is all known? -/
theorem c_all37 (hB : cB fc) (hT : ∀ v : Nat, v < 18 → fc (36 + v) 0 = 0 ∨ fc (36 + v) 0 = 1) : ∀ (m v n : Nat), v + m = 18 → m < n → ∃ b, p_Reckoner_allKnown_37 n v fc g = some (b, fc, g) ∧ ((b = 1 ∧ ∀ w : Nat, v ≤ w → w < 18 → fc (36 + w) 0 = 1 → fc (36 + w) 4 ≠ NY) ∨ (b = 0 ∧ ∃ w : Nat, w < 18 ∧ fc (36 + w) 0 = 1 ∧ fc (36 + w) 4 = NY)) := by
  intro m
  induction m with
  | zero =>
    intro v n hv hn
    obtain ⟨n, rfl⟩ : ∃ k, n = k + 1 := ⟨n - 1, by omega⟩
    refine ⟨1, ?_, Or.inl ⟨rfl, fun w c1 c2 => by omega⟩⟩
    rw [p_Reckoner_allKnown_37, if_pos (show q_sw 18 ≤ q_sw (v : Int) by rw [q_swn (by omega), q_swn (by omega)]; omega)]
  | succ m ih =>
    intro v n hv hn
    obtain ⟨n, rfl⟩ : ∃ k, n = k + 1 := ⟨n - 1, by omega⟩
    have iv : 0 ≤ (v : Int) ∧ (v : Int) < 18 := by omega
    obtain ⟨b, e1, e2⟩ := ih (v + 1) n (by omega) (by omega)
    rw [show ((v + 1 : Nat) : Int) = (v : Int) + 1 by omega] at e1
    have e77 : p_Reckoner_allKnown_77 (p_Reckoner_allKnown_37 n) v fc g = some (b, fc, g) := e1
    rw [p_Reckoner_allKnown_37, if_neg (show ¬ q_sw 18 ≤ q_sw (v : Int) by rw [q_swn (by omega), q_swn (by omega)]; omega), if_pos iv, Int.toNat_natCast, e77]
    rcases hT v (by omega) with t | t
    · rw [if_pos (sw0 t)]
      refine ⟨b, rfl, e2.imp (fun q => ⟨q.1, fun w c1 c2 c3 => ?_⟩) id⟩
      by_cases e : w = v
      · subst e
        omega
      · exact q.2 w (by omega) c2 c3
    · rw [if_neg (sw1 t), if_pos iv]
      by_cases hN : fc (36 + v) 4 = NY
      · rw [if_pos (show q_sw (fc (36 + v) 4) = q_sw (-1000000000) by rw [hN]; rfl)]
        exact ⟨0, rfl, Or.inr ⟨rfl, v, by omega, t, hN⟩⟩
      · have hb := (hB.1 v (by omega)).resolve_left hN
        rw [if_neg (show ¬ q_sw (fc (36 + v) 4) = q_sw (-1000000000) by unfold bnd at hb; rw [NY_sw, q_swn (by omega)]; exact hN)]
        refine ⟨b, rfl, e2.imp (fun q => ⟨q.1, fun w c1 c2 c3 => ?_⟩) id⟩
        by_cases e : w = v
        · subst e
          exact hN
        · exact q.2 w (by omega) c2 c3
theorem c_all2 (hS : SS fc fm) (hB : cB fc) : ∀ (m i n : Nat), (i : Int) + m = fc 3 7 → m < n → ∃ b, p_Reckoner_allKnown_2 n i fc g = some (b, fc, g) ∧ ((b = 1 ∧ (∀ j : Nat, i ≤ j → (j : Int) < fc 3 7 → fc (28 + (fc 14 j).toNat) 10 ≠ NY) ∧ ∀ w : Nat, w < 18 → fc (36 + w) 0 = 1 → fc (36 + w) 4 ≠ NY) ∨ (b = 0 ∧ ¬ AK fc)) := by
  intro m
  have o8 := hS.2.2.2.1.2.2.1
  induction m with
  | zero =>
    intro i n hi hn
    obtain ⟨n, rfl⟩ : ∃ k, n = k + 1 := ⟨n - 1, by omega⟩
    obtain ⟨b, e1, e2⟩ := c_all37 (g := g) hB (fun v hv => (hS.2.2.2.2.2.1 v hv).2.1) 18 0 1000 (by omega) (by omega)
    refine ⟨b, ?_, ?_⟩
    · rw [p_Reckoner_allKnown_2, if_pos (show q_sw (fc 3 7) ≤ q_sw (i : Int) by rw [q_swn (by omega), q_swn (by omega)]; omega)]
      exact e1
    · rcases e2 with q | ⟨q1, w, q2, q3, q4⟩
      · exact Or.inl ⟨q.1, fun j c1 c2 => by omega, fun w c1 => q.2 w (by omega) c1⟩
      · exact Or.inr ⟨q1, fun a => a.2 w q2 q3 q4⟩
  | succ m ih =>
    intro i n hi hn
    obtain ⟨n, rfl⟩ : ∃ k, n = k + 1 := ⟨n - 1, by omega⟩
    obtain ⟨o1, o2, o3, o4, o5⟩ := hS.2.2.2.1.2.2.2.2 i (by omega)
    obtain ⟨k, hk⟩ : ∃ k : Nat, fc 14 i = k := ⟨(fc 14 i).toNat, by omega⟩
    rw [p_Reckoner_allKnown_2, if_neg (show ¬ q_sw (fc 3 7) ≤ q_sw (i : Int) by rw [q_swn (by omega), q_swn (by omega)]; omega), c_sectionAt (by omega) ⟨o2, o3⟩, Option.bind_some]
    dsimp only
    unfold p_Section_isKnown p_Section_isKnown_14
    rw [hk, Int.toNat_natCast, if_pos (show 28 ≤ 28 + k ∧ 28 + k < 36 by omega), if_pos (show 28 ≤ 28 + k ∧ 28 + k < 36 by omega)]
    by_cases hN : fc (28 + k) 10 = NY
    · rw [if_pos (show q_sw (fc (28 + k) 10) = q_sw (-1000000000) by rw [hN]; rfl), if_pos (Or.inl rfl), Option.bind_some, if_pos (sw0 rfl)]
      refine ⟨0, rfl, Or.inr ⟨rfl, fun a => ?_⟩⟩
      have := a.1 i (by omega)
      rw [hk, Int.toNat_natCast] at this
      exact this hN
    · have hb := (hB.2 k (by omega)).2.1.resolve_left hN
      rw [if_neg (show ¬ q_sw (fc (28 + k) 10) = q_sw (-1000000000) by unfold bnd at hb; rw [NY_sw, q_swn (by omega)]; exact hN), if_pos (Or.inr rfl), Option.bind_some, if_neg (sw1 rfl)]
      dsimp only [q_let]
      obtain ⟨b, e1, e2⟩ := ih (i + 1) n (by omega) (by omega)
      rw [show ((i : Nat) : Int) + 1 = ((i + 1 : Nat) : Int) by omega]
      refine ⟨b, e1, e2.imp (fun q => ⟨q.1, fun j c1 c2 => ?_, q.2.2⟩) id⟩
      by_cases e : j = i
      · subst e
        rw [hk, Int.toNat_natCast]
        exact hN
      · exact q.2.1 j (by omega) c2
theorem c_all (hS : SS fc fm) (hB : cB fc) : ∃ b, p_Reckoner_reckonAll_99 fc g = some (b, fc, g) ∧ ((b = 1 ∧ AK fc) ∨ (b = 0 ∧ ¬ AK fc)) := by
  have o8 := hS.2.2.2.1.2.2.1
  have o0 := hS.2.2.2.1.2.1
  obtain ⟨b, e1, e2⟩ := c_all2 (g := g) hS hB (fc 3 7).toNat 0 1000 (by omega) (by omega)
  refine ⟨b, ?_, ?_⟩
  · unfold p_Reckoner_reckonAll_99 p_Reckoner_allKnown
    have e1' : p_Reckoner_allKnown_2 1000 0 fc g = some (b, fc, g) := e1
    rw [e1', Option.bind_some]
    dsimp only
    rw [if_pos (by rcases e2 with q | q <;> omega)]
  · rcases e2 with q | q
    · exact Or.inl ⟨q.1, fun i hi => q.2.1 i (by omega) hi, q.2.2⟩
    · exact Or.inr q
/-- the reference: is all done? -/
def MK (fm : q_F) : Prop := (∀ i : Nat, (i : Int) < fm 60 22 → fm 77 (fm 75 i).toNat = 1) ∧ ∀ v : Nat, v < 18 → fm 90 (v + 8) = 1 → fm 91 (v + 8) = 1
theorem m_all199 (hF : mF fm) (hT : ∀ v : Nat, v < 18 → fm 90 (v + 8) = 0 ∨ fm 90 (v + 8) = 1) : ∀ (m v n : Nat) (a : Int), v + m = 18 → m < n → (a = 0 ∨ a = 1) → ∃ b, p_Mod_reckonAll_199 n a (v + 8 : Nat) fm g' = some (b, fm, g') ∧ ((b = 1 ∧ a = 1 ∧ ∀ w : Nat, v ≤ w → w < 18 → fm 90 (w + 8) = 1 → fm 91 (w + 8) = 1) ∨ (b = 0 ∧ (a = 0 ∨ ∃ w : Nat, w < 18 ∧ fm 90 (w + 8) = 1 ∧ fm 91 (w + 8) = 0))) := by
  intro m
  induction m with
  | zero =>
    intro v n a hv hn ha
    obtain ⟨n, rfl⟩ : ∃ k, n = k + 1 := ⟨n - 1, by omega⟩
    refine ⟨a, ?_, ?_⟩
    · rw [p_Mod_reckonAll_199, if_pos (show q_sw 26 ≤ q_sw ((v + 8 : Nat) : Int) by rw [q_swn (by omega), q_swn (by omega)]; omega), if_pos ha]
    · rcases ha with ha | ha
      · exact Or.inr ⟨ha, Or.inl ha⟩
      · exact Or.inl ⟨ha, ha, fun w c1 c2 => by omega⟩
  | succ m ih =>
    intro v n a hv hn ha
    obtain ⟨n, rfl⟩ : ∃ k, n = k + 1 := ⟨n - 1, by omega⟩
    have iv : 0 ≤ ((v + 8 : Nat) : Int) ∧ ((v + 8 : Nat) : Int) < 26 := by omega
    have e232 : ∀ s, p_Mod_reckonAll_232 (p_Mod_reckonAll_199 n) (v + 8 : Nat) s fm g' = p_Mod_reckonAll_199 n s (v + 1 + 8 : Nat) fm g' := fun s => by
      unfold p_Mod_reckonAll_232
      dsimp only [q_let]
      rw [show ((v + 8 : Nat) : Int) + 1 = ((v + 1 + 8 : Nat) : Int) by omega]
    rw [p_Mod_reckonAll_199, if_neg (show ¬ q_sw 26 ≤ q_sw ((v + 8 : Nat) : Int) by rw [q_swn (by omega), q_swn (by omega)]; omega)]
    unfold p_Mod_reckonAll_231 p_Mod_reckonAll_227
    rw [e232, e232, if_pos iv, if_pos iv, Int.toNat_natCast]
    obtain ⟨b0, z1, z2⟩ := ih (v + 1) n 0 (by omega) (by omega) (Or.inl rfl)
    obtain ⟨b1, o1, o2⟩ := ih (v + 1) n 1 (by omega) (by omega) (Or.inr rfl)
    rw [z1, o1]
    rcases ha with ha | ha
    · rw [if_pos (sw0 ha)]
      refine ⟨b0, rfl, ?_⟩
      rcases z2 with q | q
      · exact absurd q.2.1 (by decide)
      · exact Or.inr ⟨q.1, Or.inl ha⟩
    · rw [if_neg (sw1 ha)]
      have one : (fm 90 (v + 8) = 1 → fm 91 (v + 8) = 1) → ((b1 = 1 ∧ a = 1 ∧ ∀ w : Nat, v ≤ w → w < 18 → fm 90 (w + 8) = 1 → fm 91 (w + 8) = 1) ∨ (b1 = 0 ∧ (a = 0 ∨ ∃ w : Nat, w < 18 ∧ fm 90 (w + 8) = 1 ∧ fm 91 (w + 8) = 0))) := by
        intro hv1
        rcases o2 with q | q
        · refine Or.inl ⟨q.1, ha, fun w c1 c2 c3 => ?_⟩
          by_cases e : w = v
          · subst e
            exact hv1 c3
          · exact q.2.2 w (by omega) c2 c3
        · refine Or.inr ⟨q.1, ?_⟩
          rcases q.2 with q2 | q2
          · exact absurd q2 (by decide)
          · exact Or.inr q2
      rcases hT v (by omega) with t | t
      · rw [if_pos (sw0 t)]
        exact ⟨b1, rfl, one (fun e => by omega)⟩
      · rw [if_neg (sw1 t)]
        rcases hF.2 (v + 8) (by omega) (by omega) with p | p
        · rw [if_pos (sw0 p)]
          refine ⟨b0, rfl, ?_⟩
          rcases z2 with q | q
          · exact absurd q.2.1 (by decide)
          · exact Or.inr ⟨q.1, Or.inr ⟨v, by omega, t, p⟩⟩
        · rw [if_neg (sw1 p)]
          exact ⟨b1, rfl, one (fun _ => p)⟩
theorem m_all158 (hO : sOrd fc fm) (hF : mF fm) (hT : ∀ v : Nat, v < 18 → fm 90 (v + 8) = 0 ∨ fm 90 (v + 8) = 1) : ∀ (m i n : Nat) (a : Int), (i : Int) + m = fm 60 22 → m < n → (a = 0 ∨ a = 1) → ∃ b, p_Mod_reckonAll_158 n a i fm g' = some (b, fm, g') ∧ ((b = 1 ∧ a = 1 ∧ (∀ j : Nat, i ≤ j → (j : Int) < fm 60 22 → fm 77 (fm 75 j).toNat = 1) ∧ ∀ w : Nat, w < 18 → fm 90 (w + 8) = 1 → fm 91 (w + 8) = 1) ∨ (b = 0 ∧ (a = 0 ∨ ¬ MK fm))) := by
  intro m
  have o8 := hO.2.2.1
  have oe := hO.1
  induction m with
  | zero =>
    intro i n a hi hn ha
    obtain ⟨n, rfl⟩ : ∃ k, n = k + 1 := ⟨n - 1, by omega⟩
    obtain ⟨b, e1, e2⟩ := m_all199 (g' := g') hF hT 18 0 1000 a (by omega) (by omega) ha
    refine ⟨b, ?_, ?_⟩
    · rw [p_Mod_reckonAll_158, if_pos (show q_sw (fm 60 22) ≤ q_sw (i : Int) by rw [q_swn (by omega), q_swn (by omega)]; omega)]
      exact e1
    · rcases e2 with q | q
      · exact Or.inl ⟨q.1, q.2.1, fun j c1 c2 => by omega, fun w c1 => q.2.2 w (by omega) c1⟩
      · refine Or.inr ⟨q.1, q.2.imp id (fun ⟨w, c1, c2, c3⟩ mk => ?_)⟩
        have := mk.2 w c1 c2
        omega
  | succ m ih =>
    intro i n a hi hn ha
    obtain ⟨n, rfl⟩ : ∃ k, n = k + 1 := ⟨n - 1, by omega⟩
    obtain ⟨p1, p2, p3, p4, p5⟩ := hO.2.2.2.2 i (by omega)
    obtain ⟨k, hk⟩ : ∃ k : Nat, fm 75 i = k := ⟨(fm 75 i).toNat, by omega⟩
    have ii : 0 ≤ (i : Int) ∧ (i : Int) < 8 := by omega
    have e189 : ∀ s, p_Mod_reckonAll_189 (p_Mod_reckonAll_158 n) i s fm g' = p_Mod_reckonAll_158 n s (i + 1 : Nat) fm g' := fun s => by
      unfold p_Mod_reckonAll_189
      dsimp only [q_let]
      rw [show ((i : Nat) : Int) + 1 = ((i + 1 : Nat) : Int) by omega]
    rw [p_Mod_reckonAll_158, if_neg (show ¬ q_sw (fm 60 22) ≤ q_sw (i : Int) by rw [q_swn (by omega), q_swn (by omega)]; omega)]
    unfold p_Mod_reckonAll_188
    rw [e189, e189, if_pos ii, Int.toNat_natCast, hk, if_pos (show 0 ≤ (k : Int) ∧ (k : Int) < 8 by omega), Int.toNat_natCast]
    obtain ⟨b0, z1, z2⟩ := ih (i + 1) n 0 (by omega) (by omega) (Or.inl rfl)
    obtain ⟨b1, o1, o2⟩ := ih (i + 1) n 1 (by omega) (by omega) (Or.inr rfl)
    rw [z1, o1]
    rcases ha with ha | ha
    · rw [if_pos (sw0 ha)]
      refine ⟨b0, rfl, ?_⟩
      rcases z2 with q | q
      · exact absurd q.2.1 (by decide)
      · exact Or.inr ⟨q.1, Or.inl ha⟩
    · rw [if_neg (sw1 ha)]
      rcases hF.1 k (by omega) with p | p
      · rw [if_pos (sw0 p)]
        refine ⟨b0, rfl, ?_⟩
        rcases z2 with q | q
        · exact absurd q.2.1 (by decide)
        · refine Or.inr ⟨q.1, Or.inr (fun mk => ?_)⟩
          have := mk.1 i (by omega)
          rw [hk, Int.toNat_natCast] at this
          omega
      · rw [if_neg (sw1 p)]
        refine ⟨b1, rfl, ?_⟩
        rcases o2 with q | q
        · refine Or.inl ⟨q.1, ha, fun j c1 c2 => ?_, q.2.2.2⟩
          by_cases e : j = i
          · subst e
            rw [hk, Int.toNat_natCast]
            exact p
          · exact q.2.2.1 j (by omega) c2
        · refine Or.inr ⟨q.1, ?_⟩
          rcases q.2 with q2 | q2
          · exact absurd q2 (by decide)
          · exact Or.inr q2
theorem m_all {a : Int} (hO : sOrd fc fm) (hF : mF fm) (hT : ∀ v : Nat, v < 18 → fm 90 (v + 8) = 0 ∨ fm 90 (v + 8) = 1) (ha : a = 0 ∨ a = 1) : ∃ b, p_Mod_reckonAll_155 a fm g' = some (b, fm, g') ∧ ((b = 1 ∧ a = 1 ∧ MK fm) ∨ (b = 0 ∧ (a = 0 ∨ ¬ MK fm))) := by
  have o8 := hO.2.2.1
  have o0 := hO.2.1
  have oe := hO.1
  obtain ⟨b, e1, e2⟩ := m_all158 (g' := g') hO hF hT (fm 60 22).toNat 0 1000 a (by omega) (by omega) ha
  refine ⟨b, e1, ?_⟩
  rcases e2 with q | q
  · exact Or.inl ⟨q.1, q.2.1, fun i hi => q.2.2.1 i (by omega) hi, q.2.2.2⟩
  · exact Or.inr q
/-- both reckon alike -/
theorem reck_pair (hX : CTX c0 m0) : ∃ b fd fn gn, p_Reckoner_reckonAll c0 g = some (b, fd, g) ∧ p_Mod_reckonAll m0 g' = some (b, fn, gn) ∧ (∀ c, c ≠ 72 → gn c = g' c) ∧ SC c0 fd ∧ SM m0 fn ∧ ((b = 1 ∧ DY c0 m0 fd fn ∧ AK fd) ∨ b = 0) := by
  have hR := hX.1
  have d0 : DY c0 m0 c0 (ma_up m0 60 21 0) := by
    obtain ⟨r1, r2, r3, r4, r5, r6, r7⟩ := hR
    have u : ∀ a, a ≠ 60 → ma_up m0 60 21 0 a = m0 a := fun a ha => ma_up_ne ha
    refine ⟨SC.rf _, (SM.rf _).up (by unfold dynM; omega), ma_up_self, fun k hk => ?_, fun v hv => ?_, fun k hk => ?_, fun k hk ht => ?_⟩
    · obtain ⟨-, -, q, -⟩ := r5.2.2.1 k hk
      exact Or.inl ⟨q.1, q.2.1, q.2.2.1, by rw [u 77 (by omega)]; exact q.2.2.2⟩
    · obtain ⟨-, -, q, -⟩ := r7 v hv
      exact Or.inl ⟨q.1, by rw [u 91 (by omega)]; exact q.2⟩
    · obtain ⟨q1, q2, q3, q4⟩ := r3 k hk
      unfold dIn
      rw [u 64 (by omega), q3, q4]
      refine ⟨rfl, ?_⟩
      unfold ab
      omega
    · obtain ⟨-, -, q, -⟩ := r5.2.2.1 k hk
      refine ⟨fun _ j _ _ _ c4 => ?_, fun hn => absurd q.2.1 hn, fun hn => absurd q.2.1 hn⟩
      exact (r7 _ c4).2.2.1.1
  obtain ⟨fd, fn, gn, e1, e2, e3, e4⟩ := main_loop (g := g) hX 26 0 999 1000 c0 (ma_up m0 60 21 0) g' (Or.inl d0) (by omega) (by
    have := nks_b c0
    have := nky_b c0
    unfold cnt
    omega) (by omega) (by omega)
  have hS := hX.ss e4.sc e4.sm
  obtain ⟨fx, hx⟩ := e4.mir
  obtain ⟨b, a1, a2⟩ := c_all (g := g) (hX.ss hx.1 hx.2.1) hx.2.2.2.B
  have hT : ∀ v : Nat, v < 18 → fn 90 (v + 8) = 0 ∨ fn 90 (v + 8) = 1 := fun v hv => by
    have := hS.2.2.2.2.2.1 v hv
    rw [← this.1]
    exact this.2.1
  have eC : p_Reckoner_reckonAll c0 g = some (b, fd, g) := by
    unfold p_Reckoner_reckonAll
    exact e1.trans a1
  have eM : p_Mod_reckonAll m0 g' = (if q_sw (fn 60 21) = 0 then p_Mod_reckonAll_155 1 fn gn else p_Mod_reckonAll_155 0 fn gn) := by
    unfold p_Mod_reckonAll
    exact e2
  rcases e4 with h | ⟨hU, -, hst⟩
  · obtain ⟨b2, m1, m2⟩ := m_all (g' := gn) (a := 1) hS.2.2.2.1 h.2.2.2.F hT (Or.inr rfl)
    rw [if_pos (sw0 h.2.2.1), m1] at eM
    -- known to the class, done to the reference
    have iff : AK fd ↔ MK fn := by
      have o8 := hS.2.2.2.1.2.2.1
      constructor
      · intro ak
        refine ⟨fun i hi => ?_, fun v hv ht => ?_⟩
        · rw [← hS.2.2.2.1.1] at hi
          obtain ⟨p1, p2, p3, p4, p5⟩ := hS.2.2.2.1.2.2.2.2 i hi
          rw [← p1]
          rcases h.2.2.2.1 (fd 14 i).toNat (by omega) with q | q
          · exact absurd q.2.1 (ak.1 i hi)
          · exact q.1
        · rcases h.2.2.2.2.1 v hv with q | q
          · exact absurd q.1 (ak.2 v hv (by rw [(hS.2.2.2.2.2.1 v hv).1]; exact ht))
          · exact q.1
      · intro mk
        refine ⟨fun i hi => ?_, fun v hv ht => ?_⟩
        · obtain ⟨p1, p2, p3, p4, p5⟩ := hS.2.2.2.1.2.2.2.2 i hi
          have q := mk.1 i (by rw [← hS.2.2.2.1.1]; exact hi)
          rw [← p1] at q
          rcases h.2.2.2.1 (fd 14 i).toNat (by omega) with z | z
          · omega
          · unfold NY
            omega
        · have q := mk.2 v hv (by rw [← (hS.2.2.2.2.2.1 v hv).1]; exact ht)
          rcases h.2.2.2.2.1 v hv with z | z
          · omega
          · exact bnd_ny (ab_bnd z.2.2)
    rcases a2 with ⟨a2, ak⟩ | ⟨a2, ak⟩
    · have : b2 = 1 := by
        rcases m2 with q | q
        · exact q.1
        · rcases q.2 with z | z
          · exact absurd z (by decide)
          · exact absurd (iff.mp ak) z
      rw [this, ← a2] at eM
      exact ⟨b, fd, fn, gn, eC, eM, e3, h.1, h.2.1, Or.inl ⟨a2, h, ak⟩⟩
    · have : b2 = 0 := by
        rcases m2 with q | q
        · exact absurd (iff.mpr q.2.2) ak
        · exact q.1
      rw [this, ← a2] at eM
      exact ⟨b, fd, fn, gn, eC, eM, e3, h.1, h.2.1, Or.inr a2⟩
  · obtain ⟨b2, m1, m2⟩ := m_all (g' := gn) (a := 0) hS.2.2.2.1 hU.2.2.1 hT (Or.inl rfl)
    rw [if_neg (sw1 hU.2.1), m1] at eM
    have nak : ¬ AK fd := by
      intro ak
      have hSx := hX.ss hx.1 hx.2.1
      rcases hst with ⟨k, k1, k2, k3, k4, k5⟩ | ⟨v, k1, k2, k3, k4, k5⟩
      · obtain ⟨o1, o2, o3⟩ := hSx.2.2.2.1.2.2.2.1 k k1
        have q := o3 k2
        have := ak.1 (fx 78 k).toNat (by omega)
        rw [q.2.2, Int.toNat_natCast] at this
        exact this k3
      · exact ak.2 v k1 k2 k3
    have hb : b = 0 := by
      rcases a2 with q | q
      · exact absurd q.2 nak
      · exact q.1
    have hb2 : b2 = 0 := by
      rcases m2 with q | q
      · exact absurd q.2.1 (by decide)
      · exact q.1
    rw [hb2, ← hb] at eM
    exact ⟨b, fd, fn, gn, eC, eM, e3, hx.1, hU.1, Or.inr hb⟩
end RK
