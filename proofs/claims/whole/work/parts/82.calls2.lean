/-! ===== put, symbol, memory, bad, clear, input ===== -/
section CB
variable {f f2 g : q_F}
theorem call_put {v1 : Int} (h : II f) (i1 : isI v1) : ∃ c g1, p_Law_put v1 f g = some (c, f, g1) ∧ (0 ≤ c ∧ c ≤ 3) ∧ OutV c f g1 (p_Mod_put v1 f g1) := by
  have i1' := i1
  unfold isI at i1'
  obtain ⟨-, -, ⟨l1, l2⟩, -, -, l6⟩ := id h
  have mw1 : ∀ g1, p_Mod_within v1 0 7 f g1 = some (if 0 ≤ v1 ∧ v1 ≤ 7 then 1 else 0, f, g1) := fun g1 => m_within i1' (by omega) (by omega)
  have m27 : ∀ (c : Int) (g1 : q_F), 1 ≤ c → c ≤ 3 → p_Mod_put_27 v1 c f g1 = some (0, ma_up f 60 0 c, g1) := fun c g1 c1 c2 => by
    unfold p_Mod_put_27 p_Mod_put_47
    dsimp only [q_let]
    rw [if_neg (show ¬ q_sw (ma_up f 60 0 c 60 0) ≤ 0 by rw [ma_up_self, q_swn (by omega)]; omega)]
  have s0 : q_sw v1 < 0 ↔ v1 < 0 := by rw [q_swn i1']
  have s8 : q_sw v1 < q_sw 8 ↔ v1 < 8 := by rw [q_swn i1', q_swn (show -2147483648 ≤ (8 : Int) ∧ (8 : Int) ≤ 2147483647 by omega)]
  by_cases hv : 0 ≤ v1 ∧ v1 < 8
  · have hn0 : ¬ q_sw v1 < 0 := fun q => by have := s0.mp q; omega
    have h8 : q_sw v1 < q_sw 8 := s8.mpr hv.2
    rcases l2 with l2 | l2
    · obtain ⟨n1, n2⟩ := need0 (g := g) l2
      refine ⟨2, g, ?_, by omega, 0, _, ?_, ma_up_self, h.thr, fun e => absurd e (by decide)⟩
      · have pD : p_Desk_put v1 f g = none := by
          unfold p_Desk_put
          rw [if_neg hn0, if_pos h8, n1]
          rfl
        have xD : x_Desk_put v1 f g = some (1, f, g) := by
          unfold x_Desk_put
          rw [if_neg hn0, if_pos h8, n1, q_or_n, n2]
        unfold p_Law_put
        rw [pD, q_or_n, xD]
        rfl
      · unfold p_Mod_put
        rw [mw1, Option.bind_some, if_pos (show 0 ≤ v1 ∧ v1 ≤ 7 by omega), if_neg (sw1 rfl), if_pos (sw0 (l1.symm.trans l2))]
        exact m27 2 g (by omega) (by omega)
    · obtain ⟨k, rfl⟩ : ∃ k : Nat, v1 = k := ⟨v1.toNat, by omega⟩
      obtain ⟨t1, t2⟩ := (l6 l2).2.2.2.2.1 k (by omega)
      refine ⟨0, ma_up g 97 0 (q_sw (f (16 + k) 4)), ?_, by omega, f (16 + k) 4, ma_up f 60 0 0, ?_, ma_up_self, h.thr, fun _ => ma_up_self⟩
      · have pD : p_Desk_put k f g = some (f (16 + k) 4, f, g) := by
          unfold p_Desk_put
          rw [if_neg hn0, if_pos h8, need1 l2, Option.bind_some, if_pos hv, Int.toNat_natCast]
        unfold p_Law_put
        rw [pD, q_or_s]
        rfl
      · unfold p_Mod_put p_Mod_put_27 p_Mod_put_47
        rw [mw1, Option.bind_some, if_pos (show 0 ≤ (k : Int) ∧ (k : Int) ≤ 7 by omega), if_neg (sw1 rfl), if_neg (sw1 (l1.symm.trans l2))]
        dsimp only [q_let]
        rw [if_pos (show q_sw (ma_up f 60 0 0 60 0) ≤ 0 by rw [ma_up_self]; decide), if_pos hv, Int.toNat_natCast, ma_up_ne (by omega), t1]
  · refine ⟨1, g, ?_, by omega, 0, _, ?_, ma_up_self, h.thr, fun e => absurd e (by decide)⟩
    · have cc : q_sw v1 < 0 ∨ (¬ q_sw v1 < 0 ∧ ¬ q_sw v1 < q_sw 8) := by rw [s0, s8]; omega
      have pD : p_Desk_put v1 f g = none := by
        unfold p_Desk_put p_Desk_put_10
        rcases cc with c | c
        · rw [if_pos c]
        · rw [if_neg c.1, if_neg c.2]
      have xD : x_Desk_put v1 f g = some (0, f, g) := by
        unfold x_Desk_put x_Desk_put_10
        rcases cc with c | c
        · rw [if_pos c]
        · rw [if_neg c.1, if_neg c.2]
      unfold p_Law_put
      rw [pD, q_or_n, xD]
      rfl
    · unfold p_Mod_put
      rw [mw1, Option.bind_some, if_neg (show ¬ (0 ≤ v1 ∧ v1 ≤ 7) by omega), if_pos (sw0 rfl)]
      exact m27 1 g (by omega) (by omega)
theorem call_symbol {v1 : Int} (h : II f) (i1 : isI v1) : ∃ c g1, p_Law_symbol v1 f g = some (c, f, g1) ∧ (0 ≤ c ∧ c ≤ 3) ∧ OutV c f g1 (p_Mod_symbol v1 f g1) := by
  have i1' := i1
  unfold isI at i1'
  obtain ⟨-, -, ⟨l1, l2⟩, -, -, l6⟩ := id h
  have mw1 : ∀ g1, p_Mod_within v1 8 25 f g1 = some (if 8 ≤ v1 ∧ v1 ≤ 25 then 1 else 0, f, g1) := fun g1 => m_within i1' (by omega) (by omega)
  have m41 : ∀ (c : Int) (g1 : q_F), 1 ≤ c → c ≤ 3 → p_Mod_symbol_41 v1 c f g1 = some (0, ma_up f 60 0 c, g1) := fun c g1 c1 c2 => by
    unfold p_Mod_symbol_41 p_Mod_symbol_61
    dsimp only [q_let]
    rw [if_neg (show ¬ q_sw (ma_up f 60 0 c 60 0) ≤ 0 by rw [ma_up_self, q_swn (by omega)]; omega)]
  have s0 : q_sw v1 < q_sw 8 ↔ v1 < 8 := by rw [q_swn i1', q_swn (show -2147483648 ≤ (8 : Int) ∧ (8 : Int) ≤ 2147483647 by omega)]
  have s8 : 8 ≤ v1 → (q_sw (v1 - 8) < q_sw 18 ↔ v1 < 26) := fun q => by
    rw [q_swn (show -2147483648 ≤ v1 - 8 ∧ v1 - 8 ≤ 2147483647 by omega), q_swn (show -2147483648 ≤ (18 : Int) ∧ (18 : Int) ≤ 2147483647 by omega)]
    omega
  by_cases hv : 8 ≤ v1 ∧ v1 < 26
  · have hn0 : ¬ q_sw v1 < q_sw 8 := fun q => by have := s0.mp q; omega
    have h8 : q_sw (v1 - 8) < q_sw 18 := (s8 hv.1).mpr hv.2
    rcases l2 with l2 | l2
    · obtain ⟨n1, n2⟩ := need0 (g := g) l2
      refine ⟨2, g, ?_, by omega, 0, _, ?_, ma_up_self, h.thr, fun e => absurd e (by decide)⟩
      · have pD : p_Desk_symbol v1 f g = none := by
          unfold p_Desk_symbol
          dsimp only [q_let]
          rw [if_neg hn0, if_pos h8, n1]
          rfl
        have xD : x_Desk_symbol v1 f g = some (1, f, g) := by
          unfold x_Desk_symbol
          dsimp only [q_let]
          rw [if_neg hn0, if_pos h8, n1, q_or_n, n2]
        unfold p_Law_symbol
        rw [pD, q_or_n, xD]
        rfl
      · unfold p_Mod_symbol
        rw [mw1, Option.bind_some, if_pos (show 8 ≤ v1 ∧ v1 ≤ 25 by omega), if_neg (sw1 rfl), if_pos (sw0 (l1.symm.trans l2))]
        exact m41 2 g (by omega) (by omega)
    · obtain ⟨k, hk⟩ : ∃ k : Nat, v1 = (k + 8 : Nat) := ⟨(v1 - 8).toNat, by omega⟩
      obtain ⟨t1, t2, t3⟩ := (l6 l2).2.2.2.1 k (by omega)
      have e8 : (v1 - 8).toNat = k := by omega
      have e9 : v1.toNat = k + 8 := by omega
      have j18 : 0 ≤ v1 - 8 ∧ v1 - 8 < 18 := by omega
      have n1 := need1 (g := g) l2
      rcases t2 with t2 | t2
      · refine ⟨3, g, ?_, by omega, 0, _, ?_, ma_up_self, h.thr, fun e => absurd e (by decide)⟩
        · have pD : p_Desk_symbol v1 f g = none := by
            unfold p_Desk_symbol
            dsimp only [q_let]
            rw [if_neg hn0, if_pos h8, n1, Option.bind_some, if_pos j18, e8, if_pos (sw0 t2)]
          have xD : x_Desk_symbol v1 f g = some (2, f, g) := by
            unfold x_Desk_symbol
            dsimp only [q_let]
            rw [if_neg hn0, if_pos h8, n1, q_or_s, if_pos j18, e8, if_pos (sw0 t2)]
          unfold p_Law_symbol
          rw [pD, q_or_n, xD]
          rfl
        · unfold p_Mod_symbol
          rw [mw1, Option.bind_some, if_pos (show 8 ≤ v1 ∧ v1 ≤ 25 by omega), if_neg (sw1 rfl), if_neg (sw1 (l1.symm.trans l2)), if_pos (show 0 ≤ v1 ∧ v1 < 26 by omega), e9, if_pos (sw0 (t1.symm.trans t2))]
          exact m41 3 g (by omega) (by omega)
      · obtain ⟨t4, t5⟩ := t3 t2
        refine ⟨0, ma_up g 97 0 (q_sw (f (36 + k) 4)), ?_, by omega, f (36 + k) 4, ma_up f 60 0 0, ?_, ma_up_self, h.thr, fun _ => ma_up_self⟩
        · have pD : p_Desk_symbol v1 f g = some (f (36 + k) 4, f, g) := by
            unfold p_Desk_symbol
            dsimp only [q_let]
            rw [if_neg hn0, if_pos h8, n1, Option.bind_some, if_pos j18, e8, if_neg (sw1 t2), if_pos j18]
          unfold p_Law_symbol
          rw [pD, q_or_s]
          rfl
        · unfold p_Mod_symbol p_Mod_symbol_41 p_Mod_symbol_61
          rw [mw1, Option.bind_some, if_pos (show 8 ≤ v1 ∧ v1 ≤ 25 by omega), if_neg (sw1 rfl), if_neg (sw1 (l1.symm.trans l2)), if_pos (show 0 ≤ v1 ∧ v1 < 26 by omega), e9, if_neg (sw1 (t1.symm.trans t2))]
          dsimp only [q_let]
          rw [if_pos (show q_sw (ma_up f 60 0 0 60 0) ≤ 0 by rw [ma_up_self]; decide), if_pos (show 0 ≤ v1 ∧ v1 < 26 by omega), ma_up_ne (by omega), t4]
  · refine ⟨1, g, ?_, by omega, 0, _, ?_, ma_up_self, h.thr, fun e => absurd e (by decide)⟩
    · have cc : q_sw v1 < q_sw 8 ∨ (¬ q_sw v1 < q_sw 8 ∧ ¬ q_sw (v1 - 8) < q_sw 18) := by
        by_cases c : v1 < 8
        · exact Or.inl (s0.mpr c)
        · refine Or.inr ⟨fun q => c (s0.mp q), fun q => ?_⟩
          have := (s8 (by omega)).mp q
          omega
      have pD : p_Desk_symbol v1 f g = none := by
        unfold p_Desk_symbol p_Desk_symbol_17
        dsimp only [q_let]
        rcases cc with c | c
        · rw [if_pos c]
        · rw [if_neg c.1, if_neg c.2]
      have xD : x_Desk_symbol v1 f g = some (0, f, g) := by
        unfold x_Desk_symbol x_Desk_symbol_17
        dsimp only [q_let]
        rcases cc with c | c
        · rw [if_pos c]
        · rw [if_neg c.1, if_neg c.2]
      unfold p_Law_symbol
      rw [pD, q_or_n, xD]
      rfl
    · unfold p_Mod_symbol
      rw [mw1, Option.bind_some, if_neg (show ¬ (8 ≤ v1 ∧ v1 ≤ 25) by omega), if_pos (sw0 rfl)]
      exact m41 1 g (by omega) (by omega)
theorem call_memory {v1 : Int} (h : II f) (i1 : isI v1) : ∃ c g1, p_Law_memory v1 f g = some (c, f, g1) ∧ (0 ≤ c ∧ c ≤ 3) ∧ OutV c f g1 (p_Mod_memory v1 f g1) := by
  have i1' := i1
  unfold isI at i1'
  obtain ⟨-, -, -, -, l5, -⟩ := id h
  have mw1 : ∀ f1 g1, p_Mod_within v1 0 511 f1 g1 = some (if 0 ≤ v1 ∧ v1 ≤ 511 then 1 else 0, f1, g1) := fun f1 g1 => m_within i1' (by omega) (by omega)
  have s0 : q_sw v1 < 0 ↔ v1 < 0 := by rw [q_swn i1']
  have s8 : q_sw v1 < q_sw 512 ↔ v1 < 512 := by rw [q_swn i1', q_swn (show -2147483648 ≤ (512 : Int) ∧ (512 : Int) ≤ 2147483647 by omega)]
  have s9 : q_sw 512 ≤ q_sw v1 ↔ 512 ≤ v1 := by rw [q_swn i1', q_swn (show -2147483648 ≤ (512 : Int) ∧ (512 : Int) ≤ 2147483647 by omega)]
  by_cases hv : 0 ≤ v1 ∧ v1 < 512
  · have hn0 : ¬ q_sw v1 < 0 := fun q => by have := s0.mp q; omega
    obtain ⟨k, rfl⟩ : ∃ k : Nat, v1 = k := ⟨v1.toNat, by omega⟩
    refine ⟨0, ma_up g 97 0 (q_sw (f 59 k)), ?_, by omega, f 59 k, ma_up f 60 0 0, ?_, ma_up_self, h.thr, fun _ => ma_up_self⟩
    · have pD : p_Desk_memory k f g = some (f 59 k, f, g) := by
        unfold p_Desk_memory p_Memory_fetch p_Memory_fetch_21
        rw [if_neg hn0, if_pos (s8.mpr hv.2), if_neg hn0, if_neg (fun q => by have := s9.mp q; omega), if_pos hv, Int.toNat_natCast, Option.bind_some]
      unfold p_Law_memory
      rw [pD, q_or_s]
      rfl
    · unfold p_Mod_memory p_Mod_memory_30
      dsimp only [q_let]
      rw [mw1, Option.bind_some, if_pos (show 0 ≤ (k : Int) ∧ (k : Int) ≤ 511 by omega), if_neg (sw1 rfl), if_pos hv, Int.toNat_natCast]
      dsimp only
      rw [ma_up_ne (by omega), (l5 k (by omega)).1]
  · refine ⟨1, g, ?_, by omega, 0, ma_up (ma_up f 60 0 0) 60 0 1, ?_, ma_up_self, h.thr.thr, fun e => absurd e (by decide)⟩
    · have cc : q_sw v1 < 0 ∨ (¬ q_sw v1 < 0 ∧ ¬ q_sw v1 < q_sw 512) := by rw [s0, s8]; omega
      have pD : p_Desk_memory v1 f g = none := by
        unfold p_Desk_memory p_Desk_memory_11
        rcases cc with c | c
        · rw [if_pos c]
        · rw [if_neg c.1, if_neg c.2]
      have xD : x_Desk_memory v1 f g = some (3, f, g) := by
        unfold x_Desk_memory x_Desk_memory_11
        rcases cc with c | c
        · rw [if_pos c]
        · rw [if_neg c.1, if_neg c.2]
      unfold p_Law_memory
      rw [pD, q_or_n, xD]
      rfl
    · unfold p_Mod_memory p_Mod_memory_30 p_Mod_fail
      dsimp only [q_let]
      rw [mw1, Option.bind_some, if_neg (show ¬ (0 ≤ v1 ∧ v1 ≤ 511) by omega), if_pos (sw0 rfl), Option.bind_some]
theorem call_bad (h : II f) : ∃ x f2, p_Desk_bad f g = some (x, f, g) ∧ p_Mod_bad f g = some (x, f2, g) ∧ II f2 := by
  refine ⟨f 0 7, ma_up f 60 0 0, rfl, ?_, h.thr⟩
  unfold p_Mod_bad
  dsimp only [q_let]
  rw [ma_up_at (by omega), h.2.2.2.1.1]
/-- a state without a layout -/
theorem II.mk0 (h1 : gText (f2 2) (f2 1 1) (f2 66) (f2 60 6)) (h2 : gIn f2 f2) (h3 : f2 0 6 = 0) (h4 : f2 60 45 = 0) (h5 : f2 0 7 = f2 60 10 ∧ -1 ≤ f2 0 7 ∧ f2 0 7 ≤ 160) (h6 : ∀ j : Nat, j < 512 → f2 59 j = f2 96 j ∧ 0 ≤ f2 59 j ∧ f2 59 j ≤ 255) : II f2 := ⟨h1, h2, ⟨by rw [h3, h4], Or.inl h3⟩, h5, h6, fun e => by omega⟩
theorem call_clear (h : II f) : ∃ f1 f2, p_Desk_clear f g = some (f1, g) ∧ p_Mod_clear f1 g = some (f2, g) ∧ II f2 := by
  obtain ⟨l1, l2, l3, l4, l5, -⟩ := h
  refine ⟨_, _, rfl, rfl, II.mk0 ?_ (fun k hk => ?_) ?_ ?_ ?_ (fun j hj => ?_)⟩
  · refine ⟨⟨?_, ?_, fun j hj => ?_⟩, ?_, fun j hj => ?_⟩
    · simp [ma_up]
    · simp [ma_up]
    · simp [ma_up] at hj
      omega
    · simp [ma_up]
    · simp [ma_up] at hj
      omega
  · have e : ∀ a, a ≠ 0 → a ≠ 1 → a ≠ 60 → ma_up (ma_up (ma_up (ma_up (ma_up f 1 1 0) 0 6 0) 60 0 0) 60 6 0) 60 45 0 a = f a := fun a c1 c2 c3 => by rw [ma_up_ne c3, ma_up_ne c3, ma_up_ne c3, ma_up_ne c1, ma_up_ne c2]
    rw [e (16 + k) (by omega) (by omega) (by omega), e 61 (by omega) (by omega) (by omega), e 62 (by omega) (by omega) (by omega), e 63 (by omega) (by omega) (by omega)]
    exact l2 k hk
  · simp [ma_up]
  · simp [ma_up]
  · have e1 : ma_up (ma_up (ma_up (ma_up (ma_up f 1 1 0) 0 6 0) 60 0 0) 60 6 0) 60 45 0 0 7 = f 0 7 := by simp [ma_up]
    have e2 : ma_up (ma_up (ma_up (ma_up (ma_up f 1 1 0) 0 6 0) 60 0 0) 60 6 0) 60 45 0 60 10 = f 60 10 := by simp [ma_up]
    rw [e1, e2]
    exact l4
  · have e : ∀ a, a ≠ 0 → a ≠ 1 → a ≠ 60 → ma_up (ma_up (ma_up (ma_up (ma_up f 1 1 0) 0 6 0) 60 0 0) 60 6 0) 60 45 0 a = f a := fun a c1 c2 c3 => by rw [ma_up_ne c3, ma_up_ne c3, ma_up_ne c3, ma_up_ne c1, ma_up_ne c2]
    rw [e 59 (by omega) (by omega) (by omega), e 96 (by omega) (by omega) (by omega)]
    exact l5 j hj
theorem call_input {v1 v2 v3 v4 : Int} (h : II f) (i1 : isI v1) (i2 : isI v2) (i3 : isI v3) (i4 : isI v4) : ∃ c f1 f2, p_Law_input v1 v2 v3 v4 f g = some (c, f1, g) ∧ (0 ≤ c ∧ c ≤ 3) ∧ p_Mod_input v1 v2 v3 v4 f1 g = some (f2, g) ∧ f2 60 0 = c ∧ II f2 := by
  have i1' := i1
  have i2' := i2
  have i3' := i3
  have i4' := i4
  unfold isI at i1' i2' i3' i4'
  have sn : ∀ z : Int, 0 ≤ z ∧ z ≤ 1000 → q_sw z = z := fun z hz => q_swn (by omega)
  by_cases hv : (0 ≤ v1 ∧ v1 < 8) ∧ (0 ≤ v2 ∧ v2 ≤ 40) ∧ pw16 v3 ∧ 0 ≤ v4 ∧ v4 ≤ 255
  · obtain ⟨a1, a2, a3, a4⟩ := hv
    obtain ⟨k, rfl⟩ : ∃ k : Nat, v1 = k := ⟨v1.toNat, by omega⟩
    obtain ⟨l1, l2, l3, l4, l5, -⟩ := h
    have pD : p_Desk_input k v2 v3 v4 f g = some (ma_up (ma_up (ma_up (ma_up f (16 + k) 0 v2) (16 + k) 1 v3) (16 + k) 2 v4) 0 6 0, g) := by
      unfold p_Desk_input
      rw [q_swn i1', q_swn i2', q_swn i4', sn 8 (by omega), sn 40 (by omega), sn 255 (by omega), if_neg (by omega), if_neg (by omega), if_neg (by omega), if_pos (by omega), c_isAl16 i3', if_pos a3, Option.bind_some, if_neg (sw1 rfl), if_neg (by omega), if_pos (by omega), if_pos a1, Int.toNat_natCast]
      rfl
    have eL : p_Law_input k v2 v3 v4 f g = some (0, ma_up (ma_up (ma_up (ma_up f (16 + k) 0 v2) (16 + k) 1 v3) (16 + k) 2 v4) 0 6 0, g) := by
      unfold p_Law_input
      rw [pD, q_or_s]
    have c16 : ∀ a, a ≠ 0 → a ≠ 16 + k → ma_up (ma_up (ma_up (ma_up f (16 + k) 0 v2) (16 + k) 1 v3) (16 + k) 2 v4) 0 6 0 a = f a := fun a c1 c2 => by rw [ma_up_ne c1, ma_up_ne c2, ma_up_ne c2, ma_up_ne c2]
    have ck : ∀ c, ma_up (ma_up (ma_up (ma_up f (16 + k) 0 v2) (16 + k) 1 v3) (16 + k) 2 v4) 0 6 0 (16 + k) c = if c = 2 then v4 else if c = 1 then v3 else if c = 0 then v2 else f (16 + k) c := fun c => by
      rw [ma_up_ne (by omega)]
      simp [ma_up]
    have c06 : ma_up (ma_up (ma_up (ma_up f (16 + k) 0 v2) (16 + k) 1 v3) (16 + k) 2 v4) 0 6 0 0 6 = 0 := ma_up_self
    have c07 : ma_up (ma_up (ma_up (ma_up f (16 + k) 0 v2) (16 + k) 1 v3) (16 + k) 2 v4) 0 6 0 0 7 = f 0 7 := by rw [ma_up_at (by omega), ma_up_ne (by omega), ma_up_ne (by omega), ma_up_ne (by omega)]
    generalize ma_up (ma_up (ma_up (ma_up f (16 + k) 0 v2) (16 + k) 1 v3) (16 + k) 2 v4) 0 6 0 = f1 at *
    have eM : p_Mod_input k v2 v3 v4 f1 g = some (ma_up (ma_up (ma_up (ma_up (ma_up f1 60 0 0) 61 k v2) 62 k v3) 63 k v4) 60 45 0, g) := by
      unfold p_Mod_input p_Mod_input_47
      rw [m_within i1' (by omega) (by omega), if_pos (show 0 ≤ (k : Int) ∧ (k : Int) ≤ 7 by omega), Option.bind_some, if_neg (sw1 rfl), m_within i2' (by omega) (by omega), if_pos a2, Option.bind_some, if_neg (sw1 rfl), m_power16 i3', if_pos a3, Option.bind_some, if_neg (sw1 rfl), m_within i4' (by omega) (by omega), if_pos a4, Option.bind_some, if_neg (sw1 rfl)]
      dsimp only [q_let]
      rw [if_pos (show q_sw (ma_up f1 60 0 0 60 0) ≤ 0 by rw [ma_up_self]; decide), if_pos a1, if_pos a1, if_pos a1, Int.toNat_natCast]
    have m1 : ∀ a, a ≠ 60 → a ≠ 61 → a ≠ 62 → a ≠ 63 → ma_up (ma_up (ma_up (ma_up (ma_up f1 60 0 0) 61 k v2) 62 k v3) 63 k v4) 60 45 0 a = f1 a := fun a c1 c2 c3 c4 => by rw [ma_up_ne c1, ma_up_ne c4, ma_up_ne c3, ma_up_ne c2, ma_up_ne c1]
    have m60 : ∀ c, c ≠ 0 → c ≠ 45 → ma_up (ma_up (ma_up (ma_up (ma_up f1 60 0 0) 61 k v2) 62 k v3) 63 k v4) 60 45 0 60 c = f1 60 c := fun c c1 c2 => by rw [ma_up_at c2, ma_up_ne (by omega), ma_up_ne (by omega), ma_up_ne (by omega), ma_up_at c1]
    refine ⟨0, f1, _, eL, by omega, eM, by simp [ma_up], II.mk0 ?_ (fun l hl => ?_) ?_ ma_up_self ?_ (fun j hj => ?_)⟩
    · rw [m1 2 (by omega) (by omega) (by omega) (by omega), m1 1 (by omega) (by omega) (by omega) (by omega), m1 66 (by omega) (by omega) (by omega) (by omega), m60 6 (by omega) (by omega), c16 2 (by omega) (by omega), c16 1 (by omega) (by omega), c16 66 (by omega) (by omega), c16 60 (by omega) (by omega)]
      exact l1
    · rw [m1 (16 + l) (by omega) (by omega) (by omega) (by omega)]
      by_cases e : l = k
      · subst e
        rw [ck, ck, ck]
        refine ⟨?_, ?_, ?_, ?_, ?_, ?_⟩
        · simp [ma_up]
        · simp
          omega
        · simp [ma_up]
        · simp
          exact a3
        · simp [ma_up]
        · simp
          omega
      · have q61 : ma_up (ma_up (ma_up (ma_up (ma_up f1 60 0 0) 61 k v2) 62 k v3) 63 k v4) 60 45 0 61 l = f1 61 l := by simp [ma_up, e]
        have q62 : ma_up (ma_up (ma_up (ma_up (ma_up f1 60 0 0) 61 k v2) 62 k v3) 63 k v4) 60 45 0 62 l = f1 62 l := by simp [ma_up, e]
        have q63 : ma_up (ma_up (ma_up (ma_up (ma_up f1 60 0 0) 61 k v2) 62 k v3) 63 k v4) 60 45 0 63 l = f1 63 l := by simp [ma_up, e]
        rw [q61, q62, q63, c16 (16 + l) (by omega) (by omega), c16 61 (by omega) (by omega), c16 62 (by omega) (by omega), c16 63 (by omega) (by omega)]
        exact l2 l hl
    · rw [m1 0 (by omega) (by omega) (by omega) (by omega)]
      exact c06
    · rw [m1 0 (by omega) (by omega) (by omega) (by omega), m60 10 (by omega) (by omega), c07, c16 60 (by omega) (by omega)]
      exact l4
    · rw [m1 59 (by omega) (by omega) (by omega) (by omega), m1 96 (by omega) (by omega) (by omega) (by omega), c16 59 (by omega) (by omega), c16 96 (by omega) (by omega)]
      exact l5 j hj
  · refine ⟨1, f, ma_up f 60 0 1, ?_, by omega, ?_, ma_up_self, h.thr⟩
    · have both : p_Desk_input v1 v2 v3 v4 f g = none ∧ x_Desk_input v1 v2 v3 v4 f g = some (0, f, g) := by
        unfold p_Desk_input x_Desk_input p_Desk_input_20 p_Desk_input_50 x_Desk_input_20 x_Desk_input_50
        rw [q_swn i1', q_swn i2', q_swn i4', sn 8 (by omega), sn 40 (by omega), sn 255 (by omega), c_isAl16 i3', Option.bind_some, Option.bind_some]
        by_cases b1 : v1 < 0
        · rw [if_pos b1, if_pos b1]
          exact ⟨rfl, rfl⟩
        · rw [if_neg b1, if_neg b1]
          by_cases b2 : 8 ≤ v1
          · rw [if_pos b2, if_pos b2]
            exact ⟨rfl, rfl⟩
          · rw [if_neg b2, if_neg b2]
            by_cases b3 : v2 < 0
            · rw [if_pos b3, if_pos b3]
              exact ⟨rfl, rfl⟩
            · rw [if_neg b3, if_neg b3]
              by_cases b4 : v2 ≤ 40
              · rw [if_pos b4, if_pos b4]
                by_cases b5 : pw16 v3
                · rw [if_pos b5, if_neg (sw1 rfl), if_neg (sw1 rfl)]
                  by_cases b6 : v4 < 0
                  · rw [if_pos b6, if_pos b6]
                    exact ⟨rfl, rfl⟩
                  · rw [if_neg b6, if_neg b6]
                    by_cases b7 : v4 ≤ 255
                    · exact absurd ⟨⟨by omega, by omega⟩, ⟨by omega, b4⟩, b5, by omega, b7⟩ hv
                    · rw [if_neg b7, if_neg b7]
                      exact ⟨rfl, rfl⟩
                · rw [if_neg b5, if_pos (sw0 rfl), if_pos (sw0 rfl)]
                  exact ⟨rfl, rfl⟩
              · rw [if_neg b4, if_neg b4]
                exact ⟨rfl, rfl⟩
      unfold p_Law_input
      rw [both.1, q_or_n, both.2]
      rfl
    · have m46 : p_Mod_input_46 v1 v2 v3 v4 f g = some (ma_up f 60 0 1, g) := by
        unfold p_Mod_input_46 p_Mod_input_47
        dsimp only [q_let]
        rw [if_neg (show ¬ q_sw (ma_up f 60 0 1 60 0) ≤ 0 by rw [ma_up_self]; decide)]
      unfold p_Mod_input
      rw [m_within i1' (by omega) (by omega), Option.bind_some]
      by_cases b1 : 0 ≤ v1 ∧ v1 ≤ 7
      · rw [if_pos b1, if_neg (sw1 rfl)]
        dsimp only
        rw [m_within i2' (by omega) (by omega), Option.bind_some]
        by_cases b2 : 0 ≤ v2 ∧ v2 ≤ 40
        · rw [if_pos b2, if_neg (sw1 rfl)]
          dsimp only
          rw [m_power16 i3', Option.bind_some]
          by_cases b3 : pw16 v3
          · rw [if_pos b3, if_neg (sw1 rfl)]
            dsimp only
            rw [m_within i4' (by omega) (by omega), Option.bind_some, if_neg (show ¬ (0 ≤ v4 ∧ v4 ≤ 255) from fun q => hv ⟨⟨b1.1, by omega⟩, b2, b3, q⟩), if_pos (sw0 rfl)]
            exact m46
          · rw [if_neg b3, if_pos (sw0 rfl)]
            exact m46
        · rw [if_neg b2, if_pos (sw0 rfl)]
          exact m46
      · rw [if_neg b1, if_pos (sw0 rfl)]
        exact m46
end CB
