/-! ===== one turn of the law ===== -/
section TU
variable {f g : q_F}
theorem law_turn {L : Nat} {xs : Nat → Int32} {n : Nat} {v4 : Int} (hL : L ≤ 2560) (h0 : 0 ≤ v4) (h5 : v4 + 5 ≤ L) (h : II f) : ∃ f2 g2, p_Law_law_23 L xs (n + 1) v4 f g = p_Law_law_23 L xs n (v4 + 5) f2 g2 ∧ II f2 := by
  rw [p_Law_law_23, if_neg (show ¬ q_sw ((L : Int) - 5) < q_sw v4 by rw [q_swn (by omega), q_swn (by omega)]; omega), if_pos (show 0 ≤ v4 ∧ v4 < (L : Int) by omega)]
  have j1 : 0 ≤ v4 + 1 ∧ v4 + 1 < (L : Int) := by omega
  have j2 : 0 ≤ v4 + 2 ∧ v4 + 2 < (L : Int) := by omega
  have j3 : 0 ≤ v4 + 3 ∧ v4 + 3 < (L : Int) := by omega
  have j4 : 0 ≤ v4 + 4 ∧ v4 + 4 < (L : Int) := by omega
  have t1 := toI (xs (Int.toNat (v4 + 1)))
  have t2 := toI (xs (Int.toNat (v4 + 2)))
  have t3 := toI (xs (Int.toNat (v4 + 3)))
  have t4 := toI (xs (Int.toNat (v4 + 4)))
  have e709 : ∀ f' g', p_Law_law_709 L xs (p_Law_law_23 L xs n) v4 f' g' = p_Law_law_23 L xs n (v4 + 5) f' g' := fun _ _ => rfl
  generalize q_sw (q_and (Int32.toInt (xs (Int.toNat v4))) 15) = op
  generalize Int32.toInt (xs (Int.toNat (v4 + 1))) = a1 at *
  generalize Int32.toInt (xs (Int.toNat (v4 + 2))) = a2 at *
  generalize Int32.toInt (xs (Int.toNat (v4 + 3))) = a3 at *
  generalize Int32.toInt (xs (Int.toNat (v4 + 4))) = a4 at *
  by_cases c0 : op = 0
  · rw [if_pos c0, if_pos j1, if_pos j2, if_pos j3, if_pos j4]
    obtain ⟨c, f1, f2, e1, e2, e3, e4, e5⟩ := call_input (f := f) (g := g) h t1 t2 t3 t4
    rw [e1, Option.bind_some, if_pos j1, if_pos j2, if_pos j3, if_pos j4]
    dsimp only
    rw [e3, Option.bind_some]
    unfold p_Mod_thrown
    rw [Option.bind_some, if_pos (show q_sw (f2 60 0) = q_sw c by rw [e4])]
    exact ⟨f2, g, rfl, e5⟩
  rw [if_neg c0]
  by_cases c1 : op = 1
  · rw [if_pos c1, if_pos j1, if_pos j2, if_pos j3]
    obtain ⟨c, f1, g1, e1, e2, e3⟩ := call_type (f := f) (g := g) (x := q_lor (q_lshl (q_sw a1) 32) (q_land (q_sw a2) 4294967295)) h t3
    rw [e1, Option.bind_some, if_pos j1, if_pos j2, if_pos j3]
    dsimp only
    obtain ⟨f2, u1, u2⟩ := askV (K := p_Law_law_273 L xs (p_Law_law_23 L xs n) v4) (E := fun x y => some (0, y.2.1, y.2.2)) e2 e3
    exact ⟨f2, g1, u2, u1⟩
  rw [if_neg c1]
  by_cases c2 : op = 2
  · rw [if_pos c2]
    obtain ⟨f1, f2, e1, e2, e3⟩ := call_clear (f := f) (g := g) h
    rw [e1, Option.bind_some]
    dsimp only
    rw [e2, Option.bind_some]
    exact ⟨f2, g, rfl, e3⟩
  rw [if_neg c2]
  by_cases c3 : op = 3
  · rw [if_pos c3]
    obtain ⟨b, f1, f2, g2, e1, e2, e3⟩ := call_lay (f := f) (g := g) h
    rw [e1, Option.bind_some]
    dsimp only
    rw [e2, Option.bind_some, if_pos rfl]
    exact ⟨f2, g2, rfl, e3⟩
  rw [if_neg c3]
  by_cases c4 : op = 4
  · rw [if_pos c4]
    obtain ⟨x, f2, e1, e2, e3⟩ := call_bad (f := f) (g := g) h
    rw [e1, Option.bind_some]
    dsimp only
    rw [e2, Option.bind_some, if_pos rfl]
    exact ⟨f2, g, rfl, e3⟩
  rw [if_neg c4]
  by_cases c5 : op = 5
  · rw [if_pos c5, if_pos j1, if_pos j2]
    obtain ⟨c, g1, e1, e2, e3⟩ := call_section (f := f) (g := g) h t1 t2
    rw [e1, Option.bind_some, if_pos j1, if_pos j2]
    dsimp only
    obtain ⟨f2, u1, u2⟩ := askV (K := p_Law_law_378 L xs (p_Law_law_23 L xs n) v4) (E := fun x y => some (0, y.2.1, y.2.2)) e2 e3
    exact ⟨f2, g1, u2, u1⟩
  rw [if_neg c5]
  by_cases c6 : op = 6
  · rw [if_pos c6, if_pos j1]
    obtain ⟨c, g1, e1, e2, e3⟩ := call_put (f := f) (g := g) h t1
    rw [e1, Option.bind_some, if_pos j1]
    dsimp only
    obtain ⟨f2, u1, u2⟩ := askV (K := p_Law_law_434 L xs (p_Law_law_23 L xs n) v4) (E := fun x y => some (0, y.2.1, y.2.2)) e2 e3
    exact ⟨f2, g1, u2, u1⟩
  rw [if_neg c6]
  by_cases c7 : op = 7
  · rw [if_pos c7, if_pos j1]
    obtain ⟨c, g1, e1, e2, e3⟩ := call_symbol (f := f) (g := g) h t1
    rw [e1, Option.bind_some, if_pos j1]
    dsimp only
    obtain ⟨f2, u1, u2⟩ := askV (K := p_Law_law_490 L xs (p_Law_law_23 L xs n) v4) (E := fun x y => some (0, y.2.1, y.2.2)) e2 e3
    exact ⟨f2, g1, u2, u1⟩
  rw [if_neg c7]
  by_cases c8 : op = 8
  · rw [if_pos c8]
    obtain ⟨c, g1, e1, e2, e3⟩ := call_copies (f := f) (g := g) h
    rw [e1, Option.bind_some]
    dsimp only
    obtain ⟨f2, u1, u2⟩ := askV (K := p_Law_law_534 L xs (p_Law_law_23 L xs n) v4) (E := fun x y => some (0, y.2.1, y.2.2)) e2 e3
    exact ⟨f2, g1, u2, u1⟩
  rw [if_neg c8]
  by_cases c9 : op = 9
  · rw [if_pos c9, if_pos j1, if_pos j2]
    obtain ⟨c, g1, e1, e2, e3⟩ := call_copy (f := f) (g := g) h t1 t2
    rw [e1, Option.bind_some, if_pos j1, if_pos j2]
    dsimp only
    obtain ⟨f2, u1, u2⟩ := askV (K := p_Law_law_602 L xs (p_Law_law_23 L xs n) v4) (E := fun x y => some (0, y.2.1, y.2.2)) e2 e3
    exact ⟨f2, g1, u2, u1⟩
  rw [if_neg c9]
  by_cases c10 : op = 10
  · rw [if_pos c10]
    obtain ⟨c, f1, f2, e1, e2, e3, e4, e5⟩ := call_load (f := f) (g := g) h
    rw [e1, Option.bind_some]
    dsimp only
    rw [e3, Option.bind_some]
    unfold p_Mod_thrown
    rw [Option.bind_some, if_pos (show q_sw (f2 60 0) = q_sw c by rw [e4])]
    exact ⟨f2, g, rfl, e5⟩
  rw [if_neg c10]
  by_cases c11 : op = 11
  · rw [if_pos c11]
    obtain ⟨c, f1, f2, e1, e2, e3, e4, e5⟩ := call_start (f := f) (g := g) h
    rw [e1, Option.bind_some]
    dsimp only
    rw [e3, Option.bind_some]
    unfold p_Mod_thrown
    rw [Option.bind_some, if_pos (show q_sw (f2 60 0) = q_sw c by rw [e4])]
    exact ⟨f2, g, rfl, e5⟩
  rw [if_neg c11]
  by_cases c12 : op = 12
  · rw [if_pos c12, if_pos j1]
    obtain ⟨c, g1, e1, e2, e3⟩ := call_memory (f := f) (g := g) h t1
    rw [e1, Option.bind_some, if_pos j1]
    dsimp only
    obtain ⟨f2, u1, u2⟩ := askV (K := p_Law_law_706 L xs (p_Law_law_23 L xs n) v4) (E := fun x y => some (0, y.2.1, y.2.2)) e2 e3
    exact ⟨f2, g1, u2, u1⟩
  rw [if_neg c12]
  exact ⟨f, g, rfl, h⟩
theorem law_all {L : Nat} {xs : Nat → Int32} (hL : L ≤ 2560) : ∀ (m n : Nat) (v4 : Int) (f g : q_F), m < n → 0 ≤ v4 → (L : Int) - 4 ≤ v4 + 5 * m → v4 ≤ 3000 → II f → ∃ f2 g2 : q_F, p_Law_law_23 L xs n v4 f g = some (1, f2, g2) := by
  intro m
  induction m with
  | zero =>
    intro n v4 f g hn h0 h1 h2 h
    obtain ⟨n, rfl⟩ : ∃ k, n = k + 1 := ⟨n - 1, by omega⟩
    refine ⟨f, g, ?_⟩
    rw [p_Law_law_23, if_pos (show q_sw ((L : Int) - 5) < q_sw v4 by rw [q_swn (by omega), q_swn (by omega)]; omega)]
  | succ m ih =>
    intro n v4 f g hn h0 h1 h2 h
    obtain ⟨n, rfl⟩ : ∃ k, n = k + 1 := ⟨n - 1, by omega⟩
    by_cases c : v4 + 5 ≤ L
    · obtain ⟨f2, g2, e1, e2⟩ := law_turn (xs := xs) (n := n) (g := g) hL h0 c h
      rw [e1]
      exact ih n (v4 + 5) f2 g2 (by omega) (by omega) (by omega) (by omega) e2
    · refine ⟨f, g, ?_⟩
      rw [p_Law_law_23, if_pos (show q_sw ((L : Int) - 5) < q_sw v4 by rw [q_swn (by omega), q_swn (by omega)]; omega)]
end TU
