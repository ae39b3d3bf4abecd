/-! ===== between two calls; the simple calls ===== -/
def II (f : q_F) : Prop := gText (f 2) (f 1 1) (f 66) (f 60 6) ∧ gIn f f ∧ (f 0 6 = f 60 45 ∧ (f 0 6 = 0 ∨ f 0 6 = 1)) ∧ (f 0 7 = f 60 10 ∧ -1 ≤ f 0 7 ∧ f 0 7 ≤ 160) ∧ (∀ j : Nat, j < 512 → f 59 j = f 96 j ∧ 0 ≤ f 59 j ∧ f 59 j ≤ 255) ∧ (f 0 6 = 1 → LD f f)
def isI (z : Int) : Prop := -2147483648 ≤ z ∧ z ≤ 2147483647
section CA
variable {f f2 g : q_F}
theorem CPs.ext (h : CPs f) (h3 : f2 3 = f 3) (h15 : f2 15 = f 15) (h14 : f2 14 = f 14) (h28 : ∀ k, k < 8 → f2 (28 + k) = f (28 + k)) (ho : ∀ i : Nat, (i : Int) < f 3 7 → ord f i < 8) (h0 : 0 ≤ f 3 7) : CPs f2 := by
  unfold CPs at *
  have er : rl f2 (f 3 7).toNat 0 = rl f (f 3 7).toNat 0 := rl_ext h14 h28 ho _ _ (by omega)
  rw [h3, h15, er]
  exact h
theorem LD.o (h : LD f f) (i : Nat) (hi : (i : Int) < f 3 7) : ord f i < 8 := by
  obtain ⟨k, k1, k2, -⟩ := h.2.1 i hi
  unfold ord
  omega
/-- rows of the layout carry over -/
theorem LD.ext (h : LD f f) (hc : ∀ a, a < 60 → a ≠ 59 → a ≠ 0 → f2 a = f a) (hm : ∀ a, 61 ≤ a → a ≠ 96 → f2 a = f a) (h22 : f2 60 22 = f 60 22) : LD f2 f2 := by
  have ho := h.o
  obtain ⟨⟨a1, a2, a3⟩, b, c, d, e, cp⟩ := h
  refine ⟨⟨?_, ?_, ?_⟩, fun i hi => ?_, fun k hk => ?_, fun v hv => ?_, fun k hk => ?_, cp.ext (hc 3 (by omega) (by omega) (by omega)) (hc 15 (by omega) (by omega) (by omega)) (hc 14 (by omega) (by omega) (by omega)) (fun k hk => hc _ (by omega) (by omega) (by omega)) ho a2⟩
  · rw [hc 3 (by omega) (by omega) (by omega), h22]
    exact a1
  · rw [hc 3 (by omega) (by omega) (by omega)]
    exact a2
  · rw [hc 3 (by omega) (by omega) (by omega)]
    exact a3
  · rw [hc 3 (by omega) (by omega) (by omega)] at hi
    obtain ⟨k, k1, k2, k3, k4⟩ := b i hi
    exact ⟨k, k1, by rw [hc 14 (by omega) (by omega) (by omega)]; exact k2, by rw [hm 75 (by omega) (by omega)]; exact k3, by rw [hc (28 + k) (by omega) (by omega) (by omega)]; exact k4⟩
  · obtain ⟨c1, c2, c3⟩ := c k hk
    rw [hc (28 + k) (by omega) (by omega) (by omega), hm 76 (by omega) (by omega)]
    refine ⟨c1, c2, fun t => ?_⟩
    obtain ⟨s1, s2, s3, s4, s5⟩ := c3 t
    unfold secL
    rw [hc (28 + k) (by omega) (by omega) (by omega), hm 86 (by omega) (by omega), hm 87 (by omega) (by omega), hm 88 (by omega) (by omega), hm 83 (by omega) (by omega), hm 84 (by omega) (by omega), hm 85 (by omega) (by omega), hm 89 (by omega) (by omega), hc 9 (by omega) (by omega) (by omega), hc 10 (by omega) (by omega) (by omega)]
    refine ⟨s1, s2, s3, s4, fun j j1 j2 => ?_⟩
    obtain ⟨q1, q2⟩ := s5 j j1 j2
    refine ⟨q1, fun e0 => ?_⟩
    have q3 := q1
    unfold itemok at q3
    rw [hc (16 + (f 10 j).toNat) (by omega) (by omega) (by omega)]
    exact q2 e0
  · rw [hc (36 + v) (by omega) (by omega) (by omega), hm 90 (by omega) (by omega), hm 95 (by omega) (by omega)]
    exact d v hv
  · rw [hc (16 + k) (by omega) (by omega) (by omega), hm 64 (by omega) (by omega)]
    exact e k hk
/-- a call that changes nothing but the reference's thrown -/
theorem II.thr {c : Int} (h : II f) : II (ma_up f 60 0 c) := by
  obtain ⟨h1, h2, h3, h4, h5, h6⟩ := h
  have r : ∀ a, a ≠ 60 → ma_up f 60 0 c a = f a := fun a ha => ma_up_ne ha
  have r60 : ∀ k, k ≠ 0 → ma_up f 60 0 c 60 k = f 60 k := fun k hk => ma_up_at hk
  refine ⟨?_, fun k hk => ?_, ?_, ?_, fun j hj => ?_, fun e => ?_⟩
  · rw [r 2 (by omega), r 1 (by omega), r 66 (by omega), r60 6 (by omega)]
    exact h1
  · rw [r (16 + k) (by omega), r 61 (by omega), r 62 (by omega), r 63 (by omega)]
    exact h2 k hk
  · rw [r 0 (by omega), r60 45 (by omega)]
    exact h3
  · rw [r 0 (by omega), r60 10 (by omega)]
    exact h4
  · rw [r 59 (by omega), r 96 (by omega)]
    exact h5 j hj
  · rw [r 0 (by omega)] at e
    exact (h6 e).ext (fun a _ _ _ => r a (by omega)) (fun a _ _ => r a (by omega)) (r60 22 (by omega))
theorem q_lcmp_self (x : Int) : q_sw (q_lcmp x x) = 0 := by
  unfold q_lcmp lg_cmp
  rw [if_neg (fun q => Int64.lt_irrefl q), if_pos rfl]
  decide
/-- the outcome of a call that answers a number: code c, the answers alike, the state good -/
def OutV (c : Int) (f1 g1 : q_F) (M : Option (Int × q_F × q_F)) : Prop := ∃ r f2, M = some (r, f2, g1) ∧ f2 60 0 = c ∧ II f2 ∧ (c = 0 → g1 97 0 = q_sw r)
theorem need1 (h : f 0 6 = 1) : p_Desk_needLayout f g = some (f, g) := by
  unfold p_Desk_needLayout
  rw [if_neg (sw1 h)]
theorem need0 (h : f 0 6 = 0) : p_Desk_needLayout f g = none ∧ x_Desk_needLayout f g = some (1, f, g) := by
  unfold p_Desk_needLayout x_Desk_needLayout
  rw [if_pos (sw0 h), if_pos (sw0 h)]
  exact ⟨rfl, rfl⟩
theorem three1 {v : Int} (hv : 0 ≤ v ∧ v ≤ 2) : p_Desk_needOneOfThree v f g = some (f, g) := by
  unfold p_Desk_needOneOfThree
  rw [q_swn (by omega), q_swn (by omega), if_neg (by omega), if_pos (by omega)]
theorem three0 {v : Int} (hi : isI v) (hv : ¬ (0 ≤ v ∧ v ≤ 2)) : p_Desk_needOneOfThree v f g = none ∧ x_Desk_needOneOfThree v f g = some (0, f, g) := by
  unfold isI at hi
  unfold p_Desk_needOneOfThree p_Desk_needOneOfThree_9 x_Desk_needOneOfThree x_Desk_needOneOfThree_9
  rw [q_swn (by omega), q_swn (by omega)]
  by_cases c : v < 0
  · rw [if_pos c, if_pos c]
    exact ⟨rfl, rfl⟩
  · rw [if_neg c, if_neg c, if_neg (by omega), if_neg (by omega)]
    exact ⟨rfl, rfl⟩
theorem q_or_s {α β : Type} {x : α} {k : α → Option β} {e : Option β} : q_or (some x) k e = k x := rfl
theorem q_or_n {α β : Type} {k : α → Option β} {e : Option β} : q_or (none : Option α) k e = e := rfl
theorem m_thr {c : Int} (h : II f) : (ma_up f 60 0 c) 60 0 = c ∧ II (ma_up f 60 0 c) := ⟨ma_up_self, h.thr⟩
theorem II_g97 (g : q_F) (x : Int) : ma_up g 97 0 (q_sw x) 97 0 = q_sw x := ma_up_self
/-- section -/
theorem call_section {v1 v2 : Int} (h : II f) (i1 : isI v1) (i2 : isI v2) : ∃ c g1, p_Law_section v1 v2 f g = some (c, f, g1) ∧ (0 ≤ c ∧ c ≤ 3) ∧ OutV c f g1 (p_Mod_section v1 v2 f g1) := by
  have i1' := i1
  have i2' := i2
  unfold isI at i1' i2'
  obtain ⟨-, -, ⟨l1, l2⟩, -, -, l6⟩ := id h
  have mw2 : ∀ g1, p_Mod_within v2 0 2 f g1 = some (if 0 ≤ v2 ∧ v2 ≤ 2 then 1 else 0, f, g1) := fun g1 => m_within i2' (by omega) (by omega)
  have mw1 : ∀ g1, p_Mod_within v1 0 7 f g1 = some (if 0 ≤ v1 ∧ v1 ≤ 7 then 1 else 0, f, g1) := fun g1 => m_within i1' (by omega) (by omega)
  have m49 : ∀ (c : Int) (g1 : q_F), 1 ≤ c → c ≤ 3 → p_Mod_section_49 v1 v2 c f g1 = some (0, ma_up f 60 0 c, g1) := fun c g1 c1 c2 => by
    unfold p_Mod_section_49
    dsimp only [q_let]
    rw [if_neg (show ¬ q_sw (ma_up f 60 0 c 60 0) ≤ 0 by rw [ma_up_self, q_swn (by omega)]; omega)]
  have thrown : ∀ (c : Int), 1 ≤ c → c ≤ 3 → p_Law_section v1 v2 f g = some (c, f, g) → p_Mod_section v1 v2 f g = p_Mod_section_49 v1 v2 c f g → ∃ c g1, p_Law_section v1 v2 f g = some (c, f, g1) ∧ (0 ≤ c ∧ c ≤ 3) ∧ OutV c f g1 (p_Mod_section v1 v2 f g1) := by
    intro c c1 c2 e1 e2
    exact ⟨c, g, e1, by omega, 0, _, by rw [e2, m49 c g c1 c2], ma_up_self, h.thr, fun e => by omega⟩
  by_cases hv2 : 0 ≤ v2 ∧ v2 ≤ 2
  · rcases l2 with l2 | l2
    · obtain ⟨n1, n2⟩ := need0 (g := g) l2
      refine thrown 2 (by omega) (by omega) ?_ ?_
      · have pD : p_Desk_section v1 v2 f g = none := by
          unfold p_Desk_section
          rw [three1 hv2, Option.bind_some, n1]
          rfl
        have xD : x_Desk_section v1 v2 f g = some (1, f, g) := by
          unfold x_Desk_section
          rw [three1 hv2, q_or_s, n1, q_or_n, n2]
        unfold p_Law_section
        rw [pD, q_or_n, xD]
        rfl
      · unfold p_Mod_section
        rw [mw2, Option.bind_some, if_pos hv2, if_neg (sw1 rfl), if_pos (sw0 (l1.symm.trans l2))]
    · have hL := l6 l2
      have n1 := need1 (g := g) l2
      have m0 : p_Mod_section v1 v2 f = fun g1 => (p_Mod_within v1 0 7 f g1).bind fun x5 => if q_sw x5.1 = 0 then p_Mod_section_44 v1 v2 x5.2.1 x5.2.2 else if 0 ≤ v1 ∧ v1 < 8 then if q_sw (x5.2.1 76 (Int.toNat v1)) = 0 then p_Mod_section_44 v1 v2 x5.2.1 x5.2.2 else p_Mod_section_49 v1 v2 0 x5.2.1 x5.2.2 else none := by
        funext g1
        unfold p_Mod_section
        rw [mw2, Option.bind_some, if_pos hv2, if_neg (sw1 rfl), if_neg (sw1 (l1.symm.trans l2))]
      by_cases hv1 : 0 ≤ v1 ∧ v1 < 8
      · obtain ⟨k, rfl⟩ : ∃ k : Nat, v1 = k := ⟨v1.toNat, by omega⟩
        obtain ⟨t1, t2, t3⟩ := hL.2.2.1 k (by omega)
        have c0 : ¬ q_sw (k : Int) < 0 := by rw [q_swn (by omega)]; omega
        have c8 : ¬ q_sw 8 ≤ q_sw (k : Int) := by rw [q_swn (by omega), q_swn (by omega)]; omega
        rcases t2 with t2 | t2
        · refine thrown 3 (by omega) (by omega) ?_ ?_
          · have pD : p_Desk_section k v2 f g = none := by
              unfold p_Desk_section p_Desk_section_33
              rw [three1 hv2, Option.bind_some, n1, Option.bind_some, if_neg c0, if_neg c8, if_pos hv1, Int.toNat_natCast, if_pos (sw0 t2)]
            have xD : x_Desk_section k v2 f g = some (2, f, g) := by
              unfold x_Desk_section x_Desk_section_33
              rw [three1 hv2, q_or_s, n1, q_or_s, if_neg c0, if_neg c8, if_pos hv1, Int.toNat_natCast, if_pos (sw0 t2)]
            unfold p_Law_section
            rw [pD, q_or_n, xD]
            rfl
          · rw [m0]
            dsimp only
            rw [mw1, Option.bind_some, if_pos (show 0 ≤ (k : Int) ∧ (k : Int) ≤ 7 by omega), if_neg (sw1 rfl), if_pos hv1, Int.toNat_natCast, if_pos (sw0 (t1.symm.trans t2))]
            rfl
        · obtain ⟨⟨s9, s10, s11, -⟩, b9, ⟨-, b11⟩, -⟩ := t3 t2
          unfold bnd at b11
          -- the field asked for
          have val : ∃ x, p_Desk_section k v2 f g = some (x, f, g) ∧ ∀ g1, p_Mod_section k v2 f g1 = some (x, ma_up f 60 0 0, g1) := by
            have u : ∀ a, a ≠ 60 → ma_up f 60 0 0 a = f a := fun a ha => ma_up_ne ha
            have em : ∀ g1, p_Mod_section k v2 f g1 = p_Mod_section_49 k v2 0 f g1 := fun g1 => by
              rw [m0]
              dsimp only
              rw [mw1, Option.bind_some, if_pos (show 0 ≤ (k : Int) ∧ (k : Int) ≤ 7 by omega), if_neg (sw1 rfl), if_pos hv1, Int.toNat_natCast, if_neg (sw1 (t1.symm.trans t2))]
            have es : p_Desk_section k v2 f g = if q_sw v2 = 0 then some (f (28 + k) 9, f, g) else if q_sw v2 = q_sw 1 then some (f (28 + k) 10, f, g) else some (f (28 + k) 11, f, g) := by
              unfold p_Desk_section p_Desk_section_76
              rw [three1 hv2, Option.bind_some, n1, Option.bind_some, if_neg c0, if_neg c8, if_pos hv1, Int.toNat_natCast, if_neg (sw1 t2), if_pos hv1]
            have e49 : ∀ g1, p_Mod_section_49 k v2 0 f g1 = if q_sw v2 = 0 then some (f 86 k, ma_up f 60 0 0, g1) else if q_sw v2 = q_sw 1 then some (f 87 k, ma_up f 60 0 0, g1) else some (f 88 k, ma_up f 60 0 0, g1) := fun g1 => by
              unfold p_Mod_section_49 p_Mod_section_94
              dsimp only [q_let]
              rw [if_pos (show q_sw (ma_up f 60 0 0 60 0) ≤ 0 by rw [ma_up_self]; decide), if_pos hv1, if_pos hv1, if_pos hv1, Int.toNat_natCast, u 86 (by omega), u 87 (by omega), u 88 (by omega)]
            by_cases e0 : q_sw v2 = 0
            · exact ⟨f (28 + k) 9, by rw [es, if_pos e0], fun g1 => by rw [em, e49, if_pos e0, s9]⟩
            · by_cases e1 : q_sw v2 = q_sw 1
              · exact ⟨f (28 + k) 10, by rw [es, if_neg e0, if_pos e1], fun g1 => by rw [em, e49, if_neg e0, if_pos e1, s10]⟩
              · exact ⟨f (28 + k) 11, by rw [es, if_neg e0, if_neg e1], fun g1 => by rw [em, e49, if_neg e0, if_neg e1, s11]⟩
          obtain ⟨x, x1, x2⟩ := val
          refine ⟨0, ma_up g 97 0 (q_sw x), ?_, by omega, x, _, x2 _, ma_up_self, h.thr, fun _ => ma_up_self⟩
          unfold p_Law_section
          rw [x1, q_or_s]
          rfl
      · refine thrown 3 (by omega) (by omega) ?_ ?_
        · have cc : q_sw v1 < 0 ∨ (¬ q_sw v1 < 0 ∧ q_sw 8 ≤ q_sw v1) := by
            rw [q_swn i1', q_swn (show -2147483648 ≤ (8 : Int) ∧ (8 : Int) ≤ 2147483647 by omega)]
            omega
          have pD : p_Desk_section v1 v2 f g = none := by
            unfold p_Desk_section p_Desk_section_33
            rw [three1 hv2, Option.bind_some, n1, Option.bind_some]
            rcases cc with c | c
            · rw [if_pos c]
            · rw [if_neg c.1, if_pos c.2]
          have xD : x_Desk_section v1 v2 f g = some (2, f, g) := by
            unfold x_Desk_section x_Desk_section_33
            rw [three1 hv2, q_or_s, n1, q_or_s]
            rcases cc with c | c
            · rw [if_pos c]
            · rw [if_neg c.1, if_pos c.2]
          unfold p_Law_section
          rw [pD, q_or_n, xD]
          rfl
        · rw [m0]
          dsimp only
          rw [mw1, Option.bind_some, if_neg (show ¬ (0 ≤ v1 ∧ v1 ≤ 7) by omega), if_pos (sw0 rfl)]
          rfl
  · obtain ⟨n1, n2⟩ := three0 (f := f) (g := g) i2 hv2
    refine thrown 1 (by omega) (by omega) ?_ ?_
    · have pD : p_Desk_section v1 v2 f g = none := by
        unfold p_Desk_section
        rw [n1]
        rfl
      have xD : x_Desk_section v1 v2 f g = some (0, f, g) := by
        unfold x_Desk_section
        rw [n1, q_or_n, n2]
      unfold p_Law_section
      rw [pD, q_or_n, xD]
      rfl
    · unfold p_Mod_section
      rw [mw2, Option.bind_some, if_neg hv2, if_pos (sw0 rfl)]
end CA
