/-! ===== copies, copy ===== -/
section CC
variable {f f2 g g' : q_F} {k : Nat}
theorem m_cop (hk : k < 8) (s : secL f f k) {f1 : q_F} (hr : ∀ a, 61 ≤ a → f1 a = f a) : p_Mod_copied k f1 g' = some (if cop f k then 1 else 0, f1, g') := by
  obtain ⟨⟨s9, s10, s11, s7, t7⟩, t9, ⟨-, t11⟩, -⟩ := s
  unfold bnd at t11
  have ik : 0 ≤ (k : Int) ∧ (k : Int) < 8 := by omega
  unfold p_Mod_copied p_Mod_copied_37 p_Mod_copied_38
  rw [if_pos ik, if_pos ik, if_pos ik, if_pos ik, Int.toNat_natCast, if_pos (Or.inl rfl), if_pos (Or.inr rfl), hr 83 (by omega), hr 86 (by omega), hr 87 (by omega), hr 88 (by omega)]
  rcases t7 with t7 | t7
  · rw [if_pos (sw0 (s7.symm.trans t7)), if_neg (by unfold cop; omega)]
  · rw [if_neg (sw1 (s7.symm.trans t7))]
    by_cases c1 : f (28 + k) 10 ≤ 0
    · rw [if_pos (show q_sw (f 87 k) ≤ 0 by rw [← s10, q_swn (by omega)]; exact c1), if_neg (by unfold cop; omega)]
    · rw [if_neg (show ¬ q_sw (f 87 k) ≤ 0 by rw [← s10, q_swn (by omega)]; exact c1)]
      by_cases c2 : f (28 + k) 11 = f (28 + k) 9
      · rw [if_pos (show q_sw (f 88 k) = q_sw (f 86 k) by rw [← s11, ← s9, c2]), if_neg (by unfold cop; omega)]
      · rw [if_neg (show ¬ q_sw (f 88 k) = q_sw (f 86 k) by rw [← s11, ← s9, q_swn (by omega), q_swn (by omega)]; exact c2), if_pos (by unfold cop; omega)]
theorem LD.at {i : Nat} (h : LD f f) (hi : (i : Int) < f 3 7) : ord f i < 8 ∧ f 14 i = (ord f i : Nat) ∧ f 75 i = (ord f i : Nat) ∧ f (28 + ord f i) 0 = 1 ∧ secL f f (ord f i) := by
  obtain ⟨k, k1, k2, k3, k4⟩ := h.2.1 i hi
  have e : ord f i = k := by unfold ord; omega
  rw [e]
  exact ⟨k1, k2, k3, k4, (h.2.2.1 k k1).2.2 k4⟩
theorem copies_loop (h : LD f f) (hl : f 60 45 = 1) {f1 : q_F} (hr : ∀ a, 61 ≤ a → f1 a = f a) (h22 : f1 60 22 = f 60 22) (h45 : f1 60 45 = f 60 45) : ∀ (m i n : Nat) (a : Int), (i : Int) + m = f 3 7 → m < n → p_Mod_copies_20 n a i f1 g' = some (a + ((rl f m i).length : Nat), f1, g') := by
  intro m
  have o8 := h.1.2.2
  have oe := h.1.1
  induction m with
  | zero =>
    intro i n a hi hn
    obtain ⟨n, rfl⟩ : ∃ k, n = k + 1 := ⟨n - 1, by omega⟩
    rw [p_Mod_copies_20, if_pos (show q_sw (f1 60 22) ≤ q_sw (i : Int) by rw [h22, ← oe, q_swn (by omega), q_swn (by omega)]; omega)]
    simp [p_Mod_copies_62, rl]
  | succ m ih =>
    intro i n a hi hn
    obtain ⟨n, rfl⟩ : ∃ k, n = k + 1 := ⟨n - 1, by omega⟩
    obtain ⟨k1, k2, k3, k4, k5⟩ := h.at (i := i) (by omega)
    rw [p_Mod_copies_20, if_neg (show ¬ q_sw (f1 60 22) ≤ q_sw (i : Int) by rw [h22, ← oe, q_swn (by omega), q_swn (by omega)]; omega), if_neg (sw1 (h45.trans hl)), if_pos (show 0 ≤ (i : Int) ∧ (i : Int) < 8 by omega), Int.toNat_natCast, hr 75 (by omega), k3, m_cop k1 k5 hr, Option.bind_some]
    unfold p_Mod_copies_55
    dsimp only [q_let]
    rw [show ((i : Nat) : Int) + 1 = ((i + 1 : Nat) : Int) by omega]
    simp only [rl]
    by_cases c : cop f (ord f i)
    · rw [if_pos c, if_neg (sw1 rfl), if_pos c, ih (i + 1) n (a + 1) (by omega) (by omega)]
      simp only [List.length_cons]
      congr 2
      omega
    · rw [if_neg c, if_pos (sw0 rfl), if_neg c, ih (i + 1) n a (by omega) (by omega)]
theorem call_copies (h : II f) : ∃ c g1, p_Law_copies f g = some (c, f, g1) ∧ (0 ≤ c ∧ c ≤ 3) ∧ OutV c f g1 (p_Mod_copies f g1) := by
  obtain ⟨-, -, ⟨l1, l2⟩, -, -, l6⟩ := id h
  have u : ∀ c a, 61 ≤ a → ma_up f 60 0 c a = f a := fun c a ha => ma_up_ne (by omega)
  rcases l2 with l2 | l2
  · obtain ⟨n1, n2⟩ := need0 (g := g) l2
    refine ⟨1, g, ?_, by omega, 0, ma_up f 60 0 1, ?_, ma_up_self, h.thr, fun e => absurd e (by decide)⟩
    · have pD : p_Desk_copies f g = none := by
        unfold p_Desk_copies
        rw [n1]
        rfl
      have xD : x_Desk_copies f g = some (1, f, g) := by
        unfold x_Desk_copies
        rw [n1, q_or_n, n2]
      unfold p_Law_copies
      rw [pD, q_or_n, xD]
      rfl
    · unfold p_Mod_copies p_Mod_copies_13
      rw [if_pos (sw0 (l1.symm.trans l2))]
      dsimp only [q_let]
      rw [p_Mod_copies_20]
      unfold p_Mod_copies_62
      rw [if_pos (sw0 (show ma_up f 60 0 1 60 45 = 0 by rw [ma_up_at (by omega), ← l1]; exact l2)), ite_self]
  · have hL := l6 l2
    have hp := hL.2.2.2.2.2
    have l45 : f 60 45 = 1 := l1.symm.trans l2
    refine ⟨0, ma_up g 97 0 (q_sw (f 3 9)), ?_, by omega, f 3 9, ma_up f 60 0 0, ?_, ma_up_self, h.thr, fun _ => ma_up_self⟩
    · have pD : p_Desk_copies f g = some (f 3 9, f, g) := by
        unfold p_Desk_copies
        rw [need1 l2, Option.bind_some]
      unfold p_Law_copies
      rw [pD, q_or_s]
      rfl
    · have o8 := hL.1.2.2
      have o0 := hL.1.2.1
      unfold p_Mod_copies p_Mod_copies_13
      rw [if_neg (sw1 l45)]
      dsimp only [q_let]
      have := copies_loop (g' := ma_up g 97 0 (q_sw (f 3 9))) hL l45 (f1 := ma_up f 60 0 0) (u 0) (ma_up_at (by omega)) (ma_up_at (by omega)) (f 3 7).toNat 0 1000 0 (by omega) (by omega)
      rw [hp.1]
      rw [hp.1] at this
      rw [Int.zero_add] at this
      exact this
theorem sw_neg {z : Int} (hz : -2147483700 ≤ z ∧ z ≤ -1) : ¬ q_sw z = 0 := by
  unfold q_sw
  rw [Int32.toInt_ofInt, Int.bmod]
  have e : (Int32.size : Int) = 4294967296 := rfl
  rw [e]
  omega
theorem copyAt_loop (h : LD f f) {f1 : q_F} (hr : ∀ a, 61 ≤ a → f1 a = f a) (h22 : f1 60 22 = f 60 22) : ∀ (m i n : Nat) (v : Int), (i : Int) + m = f 3 7 → m < n → -2147483660 + m ≤ v → v ≤ 2147483647 → p_Mod_copyAt_4 n v i f1 g' = some (if 0 ≤ v then ((rl f m i)[v.toNat]?.elim (-1) (fun k => (k : Int))) else -1, f1, g') := by
  intro m
  have o8 := h.1.2.2
  have oe := h.1.1
  induction m with
  | zero =>
    intro i n v hi hn h1 h2
    obtain ⟨n, rfl⟩ : ∃ k, n = k + 1 := ⟨n - 1, by omega⟩
    rw [p_Mod_copyAt_4, if_pos (show q_sw (f1 60 22) ≤ q_sw (i : Int) by rw [h22, ← oe, q_swn (by omega), q_swn (by omega)]; omega)]
    simp [rl]
  | succ m ih =>
    intro i n v hi hn h1 h2
    obtain ⟨n, rfl⟩ : ∃ k, n = k + 1 := ⟨n - 1, by omega⟩
    obtain ⟨k1, k2, k3, k4, k5⟩ := h.at (i := i) (by omega)
    rw [p_Mod_copyAt_4, if_neg (show ¬ q_sw (f1 60 22) ≤ q_sw (i : Int) by rw [h22, ← oe, q_swn (by omega), q_swn (by omega)]; omega), if_pos (show 0 ≤ (i : Int) ∧ (i : Int) < 8 by omega), Int.toNat_natCast, hr 75 (by omega), k3, m_cop k1 k5 hr, Option.bind_some]
    unfold p_Mod_copyAt_39
    dsimp only [q_let]
    rw [show ((i : Nat) : Int) + 1 = ((i + 1 : Nat) : Int) by omega, if_pos (show 0 ≤ (i : Int) ∧ (i : Int) < 8 by omega)]
    simp only [rl]
    by_cases c : cop f (ord f i)
    · rw [if_pos c, if_neg (sw1 rfl), if_pos c]
      by_cases hv : v = 0
      · rw [if_pos (sw0 hv), hv, if_pos (by omega), hr 75 (by omega), k3]
        rfl
      · have hnz : ¬ q_sw v = 0 := by
          by_cases hneg : v < 0
          · exact sw_neg (by omega)
          · rw [q_swn (by omega)]
            exact hv
        rw [if_neg hnz, show v + (-1) = v - 1 by omega, ih (i + 1) n (v - 1) (by omega) (by omega) (by omega) (by omega)]
        by_cases hp : 0 ≤ v
        · rw [if_pos hp, if_pos (by omega), show v.toNat = (v - 1).toNat + 1 by omega, List.getElem?_cons_succ]
        · rw [if_neg hp, if_neg (by omega)]
    · rw [if_neg c, if_pos (sw0 rfl), if_neg c, ih (i + 1) n v (by omega) (by omega) (by omega) h2]
theorem call_copy {v1 v2 : Int} (h : II f) (i1 : isI v1) (i2 : isI v2) : ∃ c g1, p_Law_copy v1 v2 f g = some (c, f, g1) ∧ (0 ≤ c ∧ c ≤ 3) ∧ OutV c f g1 (p_Mod_copy v1 v2 f g1) := by
  have i1' := i1
  have i2' := i2
  unfold isI at i1' i2'
  obtain ⟨-, -, ⟨l1, l2⟩, -, -, l6⟩ := id h
  have u : ∀ c a, 61 ≤ a → ma_up f 60 0 c a = f a := fun c a ha => ma_up_ne (by omega)
  have mw2 : ∀ g1, p_Mod_within v2 0 2 f g1 = some (if 0 ≤ v2 ∧ v2 ≤ 2 then 1 else 0, f, g1) := fun g1 => m_within i2' (by omega) (by omega)
  have m26 : ∀ (c : Int) (g1 : q_F), 1 ≤ c → c ≤ 3 → p_Mod_copy_26 v1 v2 c f g1 = some (0, ma_up f 60 0 c, g1) := fun c g1 c1 c2 => by
    unfold p_Mod_copy_26
    dsimp only [q_let]
    rw [if_neg (show ¬ q_sw (ma_up f 60 0 c 60 0) ≤ 0 by rw [ma_up_self, q_swn (by omega)]; omega)]
  by_cases hv2 : 0 ≤ v2 ∧ v2 ≤ 2
  · rcases l2 with l2 | l2
    · obtain ⟨n1, n2⟩ := need0 (g := g) l2
      refine ⟨2, g, ?_, by omega, 0, _, ?_, ma_up_self, h.thr, fun e => absurd e (by decide)⟩
      · have pD : p_Desk_copy v1 v2 f g = none := by
          unfold p_Desk_copy
          rw [three1 hv2, Option.bind_some, n1]
          rfl
        have xD : x_Desk_copy v1 v2 f g = some (1, f, g) := by
          unfold x_Desk_copy
          rw [three1 hv2, q_or_s, n1, q_or_n, n2]
        unfold p_Law_copy
        rw [pD, q_or_n, xD]
        rfl
      · unfold p_Mod_copy
        rw [mw2, Option.bind_some, if_pos hv2, if_neg (sw1 rfl), if_pos (sw0 (l1.symm.trans l2))]
        exact m26 2 g (by omega) (by omega)
    · have hL := l6 l2
      have n1 := need1 (g := g) l2
      have o8 := hL.1.2.2
      have o0 := hL.1.2.1
      obtain ⟨p1, p2⟩ := hL.2.2.2.2.2
      have hlen := rl_len (fc := f) (f 3 7).toNat 0
      have s0 : q_sw v1 < 0 ↔ v1 < 0 := by rw [q_swn i1']
      have s9 : q_sw v1 < q_sw (f 3 9) ↔ v1 < f 3 9 := by rw [q_swn i1', q_swn (by omega)]
      have eM : ∀ g1, p_Mod_copy v1 v2 f g1 = (p_Mod_copyAt v1 (ma_up f 60 0 0) g1).bind fun x3 =>
          if 0 ≤ q_sw x3.1 then
            if q_sw v2 = 0 then
              if 0 ≤ x3.1 ∧ x3.1 < 8 then
                p_Mod_copy_87   (x3.2.1 88 (Int.toNat x3.1)) x3.2.1 x3.2.2
              else none
            else
              if q_sw v2 = q_sw 1 then
                if 0 ≤ x3.1 ∧ x3.1 < 8 then
                  p_Mod_copy_87   (x3.2.1 86 (Int.toNat x3.1)) x3.2.1 x3.2.2
                else none
              else
                if 0 ≤ x3.1 ∧ x3.1 < 8 then
                  p_Mod_copy_87   (x3.2.1 87 (Int.toNat x3.1)) x3.2.1 x3.2.2
                else none
          else
            (p_Mod_fail (3) x3.2.1 x3.2.2).bind fun x11 =>
            some (x11.1, x11.2.1, x11.2.2) := fun g1 => by
        unfold p_Mod_copy p_Mod_copy_26
        rw [mw2, Option.bind_some, if_pos hv2, if_neg (sw1 rfl), if_neg (sw1 (l1.symm.trans l2))]
        dsimp only [q_let]
        rw [if_pos (show q_sw (ma_up f 60 0 0 60 0) ≤ 0 by rw [ma_up_self]; decide)]
      have eA : ∀ g1, p_Mod_copyAt v1 (ma_up f 60 0 0) g1 = some (if 0 ≤ v1 then ((rl f (f 3 7).toNat 0)[v1.toNat]?.elim (-1) (fun k => (k : Int))) else -1, ma_up f 60 0 0, g1) := fun g1 => by
        unfold p_Mod_copyAt
        exact copyAt_loop (g' := g1) hL (u 0) (ma_up_at (by omega)) (f 3 7).toNat 0 1000 v1 (by omega) (by omega) (by omega) (by omega)
      by_cases hin : 0 ≤ v1 ∧ v1 < f 3 9
      · obtain ⟨t, rfl⟩ : ∃ t : Nat, v1 = t := ⟨v1.toNat, by omega⟩
        have hlt : t < (rl f (f 3 7).toNat 0).length := by omega
        obtain ⟨k, hk⟩ : ∃ k, (rl f (f 3 7).toNat 0)[t]? = some k := ⟨_, List.getElem?_eq_getElem hlt⟩
        obtain ⟨j, j1, j2, j3, j4⟩ := rl_mem _ _ _ (List.mem_of_getElem? hk)
        obtain ⟨k1, k2, k3, k4, k5⟩ := hL.at (i := j) (by omega)
        rw [← j3] at k1 k5
        have h15 := p2 t k hk
        obtain ⟨⟨s9', s10', s11', -⟩, -⟩ := k5
        have eA' : ∀ g1, p_Mod_copyAt t (ma_up f 60 0 0) g1 = some ((k : Int), ma_up f 60 0 0, g1) := fun g1 => by
          rw [eA, if_pos (by omega), Int.toNat_natCast, hk]
          rfl
        have ik : 0 ≤ (k : Int) ∧ (k : Int) < 8 := by omega
        have eD : p_Desk_copy t v2 f g = if q_sw v2 = 0 then some (f (28 + k) 11, f, g) else if q_sw v2 = q_sw 1 then some (f (28 + k) 9, f, g) else some (f (28 + k) 10, f, g) := by
          have eP : p_Plan_copiedAt t f g = some (28 + k, f, g) := by
            unfold p_Plan_copiedAt
            rw [if_pos (show 0 ≤ (t : Int) ∧ (t : Int) < 8 by omega), Int.toNat_natCast, h15, if_pos ik, Int.toNat_natCast]
          unfold p_Desk_copy p_Desk_copy_65
          rw [three1 hv2, Option.bind_some, n1, Option.bind_some, if_neg (fun q => by have := s0.mp q; omega), if_pos (s9.mpr hin.2)]
          dsimp only
          rw [eP, Option.bind_some, if_pos (show 28 ≤ 28 + k ∧ 28 + k < 36 by omega)]
        have eM' : ∀ g1, p_Mod_copy t v2 f g1 = if q_sw v2 = 0 then some (f 88 k, ma_up f 60 0 0, g1) else if q_sw v2 = q_sw 1 then some (f 86 k, ma_up f 60 0 0, g1) else some (f 87 k, ma_up f 60 0 0, g1) := fun g1 => by
          rw [eM, eA', Option.bind_some]
          unfold p_Mod_copy_87
          dsimp only
          rw [if_pos (show 0 ≤ q_sw (k : Int) by rw [q_swn (by omega)]; omega), if_pos ik, if_pos ik, if_pos ik, Int.toNat_natCast, u 0 88 (by omega), u 0 86 (by omega), u 0 87 (by omega)]
        have val : ∃ x, p_Desk_copy t v2 f g = some (x, f, g) ∧ ∀ g1, p_Mod_copy t v2 f g1 = some (x, ma_up f 60 0 0, g1) := by
          by_cases e0 : q_sw v2 = 0
          · exact ⟨f (28 + k) 11, by rw [eD, if_pos e0], fun g1 => by rw [eM', if_pos e0, s11']⟩
          · by_cases e1 : q_sw v2 = q_sw 1
            · exact ⟨f (28 + k) 9, by rw [eD, if_neg e0, if_pos e1], fun g1 => by rw [eM', if_neg e0, if_pos e1, s9']⟩
            · exact ⟨f (28 + k) 10, by rw [eD, if_neg e0, if_neg e1], fun g1 => by rw [eM', if_neg e0, if_neg e1, s10']⟩
        obtain ⟨x, x1, x2⟩ := val
        refine ⟨0, ma_up g 97 0 (q_sw x), ?_, by omega, x, _, x2 _, ma_up_self, h.thr, fun _ => ma_up_self⟩
        unfold p_Law_copy
        rw [x1, q_or_s]
        rfl
      · refine ⟨3, g, ?_, by omega, 0, ma_up (ma_up f 60 0 0) 60 0 3, ?_, ma_up_self, h.thr.thr, fun e => absurd e (by decide)⟩
        · have cc : q_sw v1 < 0 ∨ (¬ q_sw v1 < 0 ∧ ¬ q_sw v1 < q_sw (f 3 9)) := by rw [s0, s9]; omega
          have pD : p_Desk_copy v1 v2 f g = none := by
            unfold p_Desk_copy p_Desk_copy_23
            rw [three1 hv2, Option.bind_some, n1, Option.bind_some]
            rcases cc with c | c
            · rw [if_pos c]
            · rw [if_neg c.1, if_neg c.2]
          have xD : x_Desk_copy v1 v2 f g = some (2, f, g) := by
            unfold x_Desk_copy x_Desk_copy_23
            rw [three1 hv2, q_or_s, n1, q_or_s]
            rcases cc with c | c
            · rw [if_pos c]
            · rw [if_neg c.1, if_neg c.2]
          unfold p_Law_copy
          rw [pD, q_or_n, xD]
          rfl
        · have eA' : p_Mod_copyAt v1 (ma_up f 60 0 0) g = some (-1, ma_up f 60 0 0, g) := by
            rw [eA]
            by_cases c : 0 ≤ v1
            · rw [if_pos c, List.getElem?_eq_none (by omega)]
              rfl
            · rw [if_neg c]
          rw [eM, eA', Option.bind_some, if_neg (show ¬ 0 ≤ q_sw (-1) by decide)]
          rfl
  · obtain ⟨n1, n2⟩ := three0 (f := f) (g := g) i2 hv2
    refine ⟨1, g, ?_, by omega, 0, _, ?_, ma_up_self, h.thr, fun e => absurd e (by decide)⟩
    · have pD : p_Desk_copy v1 v2 f g = none := by
        unfold p_Desk_copy
        rw [n1]
        rfl
      have xD : x_Desk_copy v1 v2 f g = some (0, f, g) := by
        unfold x_Desk_copy
        rw [n1, q_or_n, n2]
      unfold p_Law_copy
      rw [pD, q_or_n, xD]
      rfl
    · unfold p_Mod_copy
      rw [mw2, Option.bind_some, if_neg hv2, if_pos (sw0 rfl)]
      exact m26 1 g (by omega) (by omega)
end CC
