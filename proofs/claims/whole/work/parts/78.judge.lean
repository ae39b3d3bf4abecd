/-! ===== the judge: regions, overlaps ===== -/
section JU
variable {fc fm g g' : q_F} {k l : Nat}
def rj (fc fm : q_F) (r : Int) : Prop := 0 ≤ r ∧ r < 4 ∧ fc (24 + r.toNat) 1 = fm 68 r.toNat ∧ fc (24 + r.toNat) 2 = fm 69 r.toNat ∧ 0 ≤ fc (24 + r.toNat) 1 ∧ 0 ≤ fc (24 + r.toNat) 2 ∧ fc (24 + r.toNat) 1 + fc (24 + r.toNat) 2 ≤ 512
def secJ (fc fm : q_F) (k : Nat) : Prop := (fc (28 + k) 9 = fm 86 k ∧ bnd (fc (28 + k) 9)) ∧ (fc (28 + k) 10 = fm 87 k ∧ 0 ≤ fc (28 + k) 10 ∧ fc (28 + k) 10 ≤ 17000) ∧ (fc (28 + k) 11 = fm 88 k ∧ bnd (fc (28 + k) 11)) ∧ (fc (28 + k) 7 = fm 83 k ∧ (fc (28 + k) 7 = 0 ∨ fc (28 + k) 7 = 1)) ∧ (fc (28 + k) 6 = fm 81 k ∧ rj fc fm (fc (28 + k) 6)) ∧ (fc (28 + k) 8 = fm 82 k ∧ (fc (28 + k) 8 = -1 ∨ rj fc fm (fc (28 + k) 8)))
def JJ (fc fm : q_F) : Prop := fc 3 7 = fm 60 22 ∧ 0 ≤ fc 3 7 ∧ fc 3 7 ≤ 8 ∧ ∀ i : Nat, (i : Int) < fc 3 7 → ∃ k : Nat, k < 8 ∧ fc 14 i = k ∧ fm 75 i = k ∧ secJ fc fm k
def ord (f : q_F) (i : Nat) : Nat := (f 14 i).toNat
theorem JJ.at {i : Nat} (h : JJ fc fm) (hi : (i : Int) < fc 3 7) : ord fc i < 8 ∧ fc 14 i = (ord fc i : Nat) ∧ fm 75 i = (ord fc i : Nat) ∧ secJ fc fm (ord fc i) := by
  obtain ⟨k, h1, h2, h3, h4⟩ := h.2.2.2 i hi
  have e : ord fc i = k := by unfold ord; omega
  rw [e]
  exact ⟨h1, h2, h3, h4⟩
abbrev inR (f : q_F) (r x n : Int) : Prop := f (24 + r.toNat) 1 ≤ x ∧ x + n ≤ f (24 + r.toNat) 1 + f (24 + r.toNat) 2
theorem c_holds {r x n : Int} (hr : rj fc fm r) (hx : bnd x) (hn : 0 ≤ n ∧ n ≤ 17000) : p_Region_holds (24 + r.toNat) x n fc g = some (if inR fc r x n then 1 else 0, fc, g) := by
  obtain ⟨h1, h2, h3, h4, h5, h6, h7⟩ := hr
  unfold bnd at hx
  unfold p_Region_holds p_Region_holds_27 p_Region_holds_28
  rw [if_pos (by omega), q_swn (show -2147483648 ≤ x ∧ x ≤ 2147483647 by omega), q_swn (by omega), q_swn (by omega), q_swn (by omega)]
  by_cases a : x < fc (24 + r.toNat) 1
  · rw [if_pos a, if_pos (Or.inl rfl), if_neg (by unfold inR; omega)]
  · rw [if_neg a]
    by_cases b : fc (24 + r.toNat) 1 + fc (24 + r.toNat) 2 < x + n
    · rw [if_pos b, if_pos (Or.inl rfl), if_neg (by unfold inR; omega)]
    · rw [if_neg b, if_pos (Or.inr rfl), if_pos (by unfold inR; omega)]
theorem m_inR {r x n : Int} (hr : rj fc fm r) (hx : bnd x) (hn : 0 ≤ n ∧ n ≤ 17000) : p_Mod_inRegion r x n fm g' = some (if inR fc r x n then 1 else 0, fm, g') := by
  obtain ⟨h1, h2, h3, h4, h5, h6, h7⟩ := hr
  unfold bnd at hx
  unfold p_Mod_inRegion p_Mod_inRegion_33 p_Mod_inRegion_34
  have hr4 : 0 ≤ r ∧ r < 4 := ⟨h1, h2⟩
  rw [if_pos hr4, if_pos hr4, if_pos hr4, ← h3, ← h4, q_swn (show -2147483648 ≤ x ∧ x ≤ 2147483647 by omega), q_swn (by omega), q_swn (by omega), q_swn (by omega)]
  by_cases a : x < fc (24 + r.toNat) 1
  · rw [if_pos a, if_pos (Or.inl rfl), if_neg (by unfold inR; omega)]
  · rw [if_neg a]
    by_cases b : fc (24 + r.toNat) 1 + fc (24 + r.toNat) 2 < x + n
    · rw [if_pos b, if_pos (Or.inl rfl), if_neg (by unfold inR; omega)]
    · rw [if_neg b, if_pos (Or.inr rfl), if_pos (by unfold inR; omega)]
def okS (f : q_F) (k : Nat) : Prop := inR f (f (28 + k) 6) (f (28 + k) 9) (f (28 + k) 10) ∧ (f (28 + k) 8 = -1 ∨ inR f (f (28 + k) 8) (f (28 + k) 11) (f (28 + k) 10))
theorem fits0 (h : JJ fc fm) : ∀ (m i n : Nat), (i : Int) + m = fc 3 7 → m < n → p_Mod_fits_4 n 0 i fm g' = some (0, fm, g') := by
  intro m
  have o8 := h.2.2.1
  have oe := h.1
  induction m with
  | zero =>
    intro i n hi hn
    obtain ⟨n, rfl⟩ : ∃ k, n = k + 1 := ⟨n - 1, by omega⟩
    rw [p_Mod_fits_4, if_pos (show q_sw (fm 60 22) ≤ q_sw (i : Int) by rw [← oe, q_swn (by omega), q_swn (by omega)]; omega), if_pos (Or.inl rfl)]
  | succ m ih =>
    intro i n hi hn
    obtain ⟨n, rfl⟩ : ∃ k, n = k + 1 := ⟨n - 1, by omega⟩
    rw [p_Mod_fits_4, if_neg (show ¬ q_sw (fm 60 22) ≤ q_sw (i : Int) by rw [← oe, q_swn (by omega), q_swn (by omega)]; omega), if_pos (by omega)]
    dsimp only [q_let]
    rw [if_pos (sw0 rfl)]
    unfold p_Mod_fits_86 p_Mod_fits_87
    dsimp only [q_let]
    rw [show ((i : Nat) : Int) + 1 = ((i + 1 : Nat) : Int) by omega]
    exact ih (i + 1) n (by omega) (by omega)
theorem fits_loop (h : JJ fc fm) : ∀ (m i n1 n2 : Nat), (i : Int) + m = fc 3 7 → m < n1 → m < n2 → ∃ b, p_Judge_overflows_2 n1 i fc g = some (b, fc, g) ∧ p_Mod_fits_4 n2 1 i fm g' = some (1 - b, fm, g') ∧ ((b = 0 ∧ ∀ j : Nat, i ≤ j → (j : Int) < fc 3 7 → okS fc (ord fc j)) ∨ b = 1) := by
  intro m
  have o8 := h.2.2.1
  have oe := h.1
  induction m with
  | zero =>
    intro i n1 n2 hi h1 h2
    obtain ⟨n1, rfl⟩ : ∃ k, n1 = k + 1 := ⟨n1 - 1, by omega⟩
    obtain ⟨n2, rfl⟩ : ∃ k, n2 = k + 1 := ⟨n2 - 1, by omega⟩
    refine ⟨0, ?_, ?_, Or.inl ⟨rfl, fun j c1 c2 => by omega⟩⟩
    · rw [p_Judge_overflows_2, if_pos (show q_sw (fc 3 7) ≤ q_sw (i : Int) by rw [q_swn (by omega), q_swn (by omega)]; omega)]
    · rw [p_Mod_fits_4, if_pos (show q_sw (fm 60 22) ≤ q_sw (i : Int) by rw [← oe, q_swn (by omega), q_swn (by omega)]; omega), if_pos (Or.inr rfl)]
      rfl
  | succ m ih =>
    intro i n1 n2 hi h1 h2
    obtain ⟨n1, rfl⟩ : ∃ k, n1 = k + 1 := ⟨n1 - 1, by omega⟩
    obtain ⟨n2, rfl⟩ : ∃ k, n2 = k + 1 := ⟨n2 - 1, by omega⟩
    obtain ⟨k1, k2, k3, ⟨s9, t9⟩, ⟨s10, t10⟩, ⟨s11, t11⟩, s7, ⟨s6, t6⟩, ⟨s8, t8⟩⟩ := h.at (i := i) (by omega)
    generalize ho : ord fc i = k at *
    have ik : 0 ≤ (k : Int) ∧ (k : Int) < 8 := by omega
    have g6 : 0 ≤ fc (28 + k) 6 ∧ fc (28 + k) 6 < 4 := ⟨t6.1, t6.2.1⟩
    obtain ⟨b, e1, e2, e3⟩ := ih (i + 1) n1 n2 (by omega) (by omega) (by omega)
    have e86 : p_Judge_overflows_86 (p_Judge_overflows_2 n1) i fc g = some (b, fc, g) := by
      unfold p_Judge_overflows_86
      dsimp only [q_let]
      rw [show ((i : Nat) : Int) + 1 = ((i + 1 : Nat) : Int) by omega]
      exact e1
    have f82 : p_Mod_fits_82 (p_Mod_fits_4 n2) i fm g' = some (1 - b, fm, g') := by
      unfold p_Mod_fits_82 p_Mod_fits_87
      dsimp only [q_let]
      rw [show ((i : Nat) : Int) + 1 = ((i + 1 : Nat) : Int) by omega]
      exact e2
    have f86 : p_Mod_fits_86 (p_Mod_fits_4 n2) i fm g' = some (0, fm, g') := by
      unfold p_Mod_fits_86 p_Mod_fits_87
      dsimp only [q_let]
      rw [show ((i : Nat) : Int) + 1 = ((i + 1 : Nat) : Int) by omega]
      exact fits0 h m (i + 1) n2 (by omega) (by omega)
    have more : okS fc k → ((b = 0 ∧ ∀ j : Nat, i ≤ j → (j : Int) < fc 3 7 → okS fc (ord fc j)) ∨ b = 1) := fun hk => e3.imp (fun q => ⟨q.1, fun j c1 c2 => by
      by_cases e : j = i
      · rw [e, ho]
        exact hk
      · exact q.2 j (by omega) c2⟩) id
    rw [p_Judge_overflows_2, if_neg (show ¬ q_sw (fc 3 7) ≤ q_sw (i : Int) by rw [q_swn (by omega), q_swn (by omega)]; omega), c_sectionAt (by omega) (by omega), Option.bind_some]
    rw [p_Mod_fits_4, if_neg (show ¬ q_sw (fm 60 22) ≤ q_sw (i : Int) by rw [← oe, q_swn (by omega), q_swn (by omega)]; omega), if_pos (show 0 ≤ (i : Int) ∧ (i : Int) < 8 by omega)]
    dsimp only [q_let]
    rw [Int.toNat_natCast i, k3, k2, Int.toNat_natCast k, if_neg (sw1 rfl), if_pos (show 28 ≤ 28 + k ∧ 28 + k < 36 by omega), if_pos g6, c_holds t6 t9 t10, Option.bind_some, if_pos ik, if_pos ik, if_pos ik, ← s6, ← s9, ← s10, m_inR t6 t9 t10, Option.bind_some, if_pos ik]
    by_cases q6 : inR fc (fc (28 + k) 6) (fc (28 + k) 9) (fc (28 + k) 10)
    · rw [if_pos q6, if_neg (sw1 rfl), if_neg (sw1 rfl)]
      dsimp only
      rw [f82, e86]
      rcases t8 with t8 | t8
      · rw [if_pos (show q_sw (fc (28 + k) 8) = q_sw (-1) by rw [t8]), if_pos (show q_sw (fm 82 k) < 0 by rw [← s8, t8]; decide)]
        exact ⟨b, rfl, rfl, more ⟨q6, Or.inl t8⟩⟩
      · have g8 : 0 ≤ fc (28 + k) 8 ∧ fc (28 + k) 8 < 4 := ⟨t8.1, t8.2.1⟩
        rw [if_neg (show ¬ q_sw (fc (28 + k) 8) = q_sw (-1) by rw [q_swn (by omega), q_swn (by omega)]; omega), if_pos g8, c_holds t8 t11 t10, Option.bind_some, if_neg (show ¬ q_sw (fm 82 k) < 0 by rw [← s8, q_swn (by omega)]; omega), if_pos ik, if_pos ik, if_pos ik, ← s8, ← s11, ← s10, m_inR t8 t11 t10, Option.bind_some]
        by_cases q8 : inR fc (fc (28 + k) 8) (fc (28 + k) 11) (fc (28 + k) 10)
        · rw [if_pos q8, if_neg (sw1 rfl), if_neg (sw1 rfl)]
          dsimp only
          rw [f82, e86]
          exact ⟨b, rfl, rfl, more ⟨q6, Or.inr q8⟩⟩
        · rw [if_neg q8, if_pos (sw0 rfl), if_pos (sw0 rfl)]
          dsimp only
          rw [f86]
          exact ⟨1, rfl, rfl, Or.inr rfl⟩
    · rw [if_neg q6, if_pos (sw0 rfl), if_pos (sw0 rfl)]
      dsimp only
      rw [f86]
      exact ⟨1, rfl, rfl, Or.inr rfl⟩
theorem fits_pair (h : JJ fc fm) : ∃ b, p_Judge_overflows fc g = some (b, fc, g) ∧ p_Mod_fits fm g' = some (1 - b, fm, g') ∧ ((b = 0 ∧ ∀ j : Nat, (j : Int) < fc 3 7 → okS fc (ord fc j)) ∨ b = 1) := by
  have o8 := h.2.2.1
  have o0 := h.2.1
  obtain ⟨b, e1, e2, e3⟩ := fits_loop (g := g) (g' := g') h (fc 3 7).toNat 0 1000 1000 (by omega) (by omega) (by omega)
  exact ⟨b, e1, e2, e3.imp (fun q => ⟨q.1, fun j hj => q.2 j (by omega) hj⟩) id⟩
abbrev mtt (a n b m : Int) : Prop := 0 < n ∧ 0 < m ∧ a < b + m ∧ b < a + n
theorem mtt_sy {a n b m : Int} : mtt a n b m ↔ mtt b m a n := by
  unfold mtt
  omega
theorem c_meet {f : q_F} {a n b m : Int} (ha : bnd a) (hb : bnd b) (hn : 0 ≤ n ∧ n ≤ 17000) (hm : 0 ≤ m ∧ m ≤ 17000) : p_Judge_meet a n b m f g = some (if mtt a n b m then 1 else 0, f, g) := by
  unfold bnd at ha hb
  unfold p_Judge_meet p_Judge_meet_26 p_Judge_meet_27
  rw [q_swn (by omega), q_swn (by omega), q_swn (by omega), q_swn (by omega), q_swn (by omega), q_swn (by omega), if_pos (Or.inl rfl), if_pos (Or.inr rfl)]
  by_cases c1 : n ≤ 0
  · rw [if_pos c1, if_neg (by unfold mtt; omega)]
  · rw [if_neg c1]
    by_cases c2 : m ≤ 0
    · rw [if_pos c2, if_neg (by unfold mtt; omega)]
    · rw [if_neg c2]
      by_cases c3 : b + m ≤ a
      · rw [if_pos c3, if_neg (by unfold mtt; omega)]
      · rw [if_neg c3]
        by_cases c4 : a + n ≤ b
        · rw [if_pos c4, if_neg (by unfold mtt; omega)]
        · rw [if_neg c4, if_pos (by unfold mtt; omega)]
theorem m_meet {f : q_F} {a n b m : Int} (ha : bnd a) (hb : bnd b) (hn : 0 ≤ n ∧ n ≤ 17000) (hm : 0 ≤ m ∧ m ≤ 17000) : p_Mod_meet a n b m f g = some (if mtt a n b m then 1 else 0, f, g) := c_meet ha hb hn hm
abbrev ov (f : q_F) (k l : Nat) : Prop := mtt (f (28 + k) 9) (f (28 + k) 10) (f (28 + l) 9) (f (28 + l) 10) ∨ (f (28 + k) 7 = 1 ∧ f (28 + l) 7 = 1 ∧ mtt (f (28 + k) 11) (f (28 + k) 10) (f (28 + l) 11) (f (28 + l) 10))
theorem ov_sy {f : q_F} : ov f k l ↔ ov f l k := by
  unfold ov mtt
  omega
theorem c_overlap (hk : k < 8) (hl : l < 8) (sk : secJ fc fm k) (sl : secJ fc fm l) : p_Judge_overlap (28 + k) (28 + l) fc g = some (if ov fc k l then 1 else 0, fc, g) := by
  obtain ⟨⟨-, a9⟩, ⟨-, a10⟩, ⟨-, a11⟩, ⟨-, a7⟩, -⟩ := sk
  obtain ⟨⟨-, b9⟩, ⟨-, b10⟩, ⟨-, b11⟩, ⟨-, b7⟩, -⟩ := sl
  unfold p_Judge_overlap p_Judge_overlap_64 p_Judge_overlap_65
  rw [if_pos (by omega), if_pos (by omega), c_meet a9 b9 a10 b10, Option.bind_some]
  by_cases c1 : mtt (fc (28 + k) 9) (fc (28 + k) 10) (fc (28 + l) 9) (fc (28 + l) 10)
  · rw [if_pos c1, if_neg (sw1 rfl), if_pos (show ov fc k l from Or.inl c1)]
  · rw [if_neg c1, if_pos (sw0 rfl)]
    dsimp only
    rcases a7 with a7 | a7
    · rw [if_pos (sw0 a7), if_pos (Or.inl rfl), if_neg (by unfold ov; omega)]
    · rw [if_neg (sw1 a7)]
      rcases b7 with b7 | b7
      · rw [if_pos (sw0 b7), if_pos (Or.inl rfl), if_neg (by unfold ov; omega)]
      · rw [if_neg (sw1 b7), c_meet a11 b11 a10 b10, Option.bind_some]
        by_cases c2 : mtt (fc (28 + k) 11) (fc (28 + k) 10) (fc (28 + l) 11) (fc (28 + l) 10)
        · rw [if_pos c2, if_neg (sw1 rfl), if_pos (Or.inr rfl), if_pos (show ov fc k l from Or.inr ⟨a7, b7, c2⟩)]
        · rw [if_neg c2, if_pos (sw0 rfl), if_pos (Or.inl rfl), if_neg (show ¬ ov fc k l from fun q => q.elim c1 (fun z => c2 z.2.2))]
theorem over_in {c2 : Int → q_F → q_F → Option (Int × q_F × q_F)} {i : Nat} (h : JJ fc fm) (hi : (i : Int) < fc 3 7) : ∀ (m j n : Nat), (j : Int) + m = fc 3 7 → m < n → (p_Judge_overlaps_17 c2 n i j fc g = some (1, fc, g) ∧ ∃ j2 : Nat, j ≤ j2 ∧ (j2 : Int) < fc 3 7 ∧ ov fc (ord fc i) (ord fc j2)) ∨ (p_Judge_overlaps_17 c2 n i j fc g = c2 ((i : Int) + 1) fc g ∧ ∀ j2 : Nat, j ≤ j2 → (j2 : Int) < fc 3 7 → ¬ ov fc (ord fc i) (ord fc j2)) := by
  intro m
  have o8 := h.2.2.1
  obtain ⟨k1, k2, k3, k4⟩ := h.at hi
  induction m with
  | zero =>
    intro j n hj hn
    obtain ⟨n, rfl⟩ : ∃ k, n = k + 1 := ⟨n - 1, by omega⟩
    refine Or.inr ⟨?_, fun j2 c1 c2 => by omega⟩
    rw [p_Judge_overlaps_17, if_pos (show q_sw (fc 3 7) ≤ q_sw (j : Int) by rw [q_swn (by omega), q_swn (by omega)]; omega)]
    rfl
  | succ m ih =>
    intro j n hj hn
    obtain ⟨n, rfl⟩ : ∃ k, n = k + 1 := ⟨n - 1, by omega⟩
    obtain ⟨l1, l2, l3, l4⟩ := h.at (i := j) (by omega)
    have base : p_Judge_overlaps_17 c2 (n + 1) i j fc g = if ov fc (ord fc i) (ord fc j) then some (1, fc, g) else p_Judge_overlaps_17 c2 n i (j + 1 : Nat) fc g := by
      rw [p_Judge_overlaps_17, if_neg (show ¬ q_sw (fc 3 7) ≤ q_sw (j : Int) by rw [q_swn (by omega), q_swn (by omega)]; omega), c_sectionAt (by omega) (by omega), Option.bind_some]
      dsimp only
      rw [if_pos (by unfold ord at k1; omega), c_sectionAt (by omega) (by omega), Option.bind_some]
      dsimp only
      rw [if_pos (by unfold ord at l1; omega)]
      rw [show (fc 14 i).toNat = ord fc i from rfl, show (fc 14 j).toNat = ord fc j from rfl, c_overlap k1 l1 k4 l4, Option.bind_some]
      dsimp only [q_let]
      rw [show ((j : Nat) : Int) + 1 = ((j + 1 : Nat) : Int) by omega]
      by_cases hv : ov fc (ord fc i) (ord fc j)
      · rw [if_pos hv, if_neg (sw1 rfl), if_pos hv]
      · rw [if_neg hv, if_pos (sw0 rfl), if_neg hv]
    rw [base]
    by_cases hv : ov fc (ord fc i) (ord fc j)
    · rw [if_pos hv]
      exact Or.inl ⟨rfl, j, Nat.le_refl _, by omega, hv⟩
    · rw [if_neg hv]
      rcases ih (j + 1) n (by omega) (by omega) with ⟨q1, j2, q2, q3⟩ | ⟨q1, q2⟩
      · exact Or.inl ⟨q1, j2, by omega, q3⟩
      · refine Or.inr ⟨q1, fun j2 c1 c2 => ?_⟩
        by_cases e : j2 = j
        · subst e
          exact hv
        · exact q2 j2 (by omega) c2
theorem over_out (h : JJ fc fm) : ∀ (m i n : Nat), (i : Int) + m = fc 3 7 → m < n → ∃ b, p_Judge_overlaps_2 n i fc g = some (b, fc, g) ∧ ((b = 1 ∧ ∃ i2 j2 : Nat, i2 < j2 ∧ (j2 : Int) < fc 3 7 ∧ ov fc (ord fc i2) (ord fc j2)) ∨ (b = 0 ∧ ∀ i2 j2 : Nat, i ≤ i2 → i2 < j2 → (j2 : Int) < fc 3 7 → ¬ ov fc (ord fc i2) (ord fc j2))) := by
  intro m
  have o8 := h.2.2.1
  induction m with
  | zero =>
    intro i n hi hn
    obtain ⟨n, rfl⟩ : ∃ k, n = k + 1 := ⟨n - 1, by omega⟩
    refine ⟨0, ?_, Or.inr ⟨rfl, fun i2 j2 c1 c2 c3 => by omega⟩⟩
    rw [p_Judge_overlaps_2, if_pos (show q_sw (fc 3 7) ≤ q_sw (i : Int) by rw [q_swn (by omega), q_swn (by omega)]; omega)]
  | succ m ih =>
    intro i n hi hn
    obtain ⟨n, rfl⟩ : ∃ k, n = k + 1 := ⟨n - 1, by omega⟩
    have base : p_Judge_overlaps_2 (n + 1) i fc g = p_Judge_overlaps_17 (p_Judge_overlaps_2 n) 1000 i (i + 1 : Nat) fc g := by
      rw [p_Judge_overlaps_2, if_neg (show ¬ q_sw (fc 3 7) ≤ q_sw (i : Int) by rw [q_swn (by omega), q_swn (by omega)]; omega)]
      dsimp only [q_let]
      rw [show ((i : Nat) : Int) + 1 = ((i + 1 : Nat) : Int) by omega]
    rw [base]
    rcases over_in (g := g) (c2 := p_Judge_overlaps_2 n) (i := i) h (by omega) m (i + 1) 1000 (by omega) (by omega) with ⟨q1, j2, q2, q3, q4⟩ | ⟨q1, q2⟩
    · exact ⟨1, q1, Or.inl ⟨rfl, i, j2, by omega, q3, q4⟩⟩
    · obtain ⟨b, e1, e2⟩ := ih (i + 1) n (by omega) (by omega)
      rw [q1, show ((i : Nat) : Int) + 1 = ((i + 1 : Nat) : Int) by omega]
      refine ⟨b, e1, e2.imp id (fun q => ⟨q.1, fun i2 j2 c1 c2 c3 => ?_⟩)⟩
      by_cases e : i2 = i
      · subst e
        exact q2 j2 (by omega) c3
      · exact q.2 i2 j2 (by omega) c2 c3
/-- the reference: inner loop over the sections before -/
theorem apart_in {c4 : Int → Int → q_F → q_F → Option (Int × q_F × q_F)} {i : Nat} (h : JJ fc fm) (hi : (i : Int) < fc 3 7) : ∀ (m j n : Nat) (a : Int), j + m = i → m < n → (a = 0 ∨ a = 1) → ∃ b, p_Mod_apart_14 c4 n a i j fm g' = c4 b ((i : Int) + 1) fm g' ∧ ((b = 1 ∧ a = 1 ∧ ∀ j2 : Nat, j ≤ j2 → j2 < i → ¬ ov fc (ord fc j2) (ord fc i)) ∨ (b = 0 ∧ (a = 0 ∨ ∃ j2 : Nat, j2 < i ∧ ov fc (ord fc j2) (ord fc i)))) := by
  intro m
  have o8 := h.2.2.1
  obtain ⟨k1, k2, k3, k4⟩ := h.at hi
  induction m with
  | zero =>
    intro j n a hj hn ha
    obtain ⟨n, rfl⟩ : ∃ k, n = k + 1 := ⟨n - 1, by omega⟩
    refine ⟨a, ?_, ?_⟩
    · rw [p_Mod_apart_14, if_pos (show q_sw (i : Int) ≤ q_sw (j : Int) by rw [q_swn (by omega), q_swn (by omega)]; omega)]
      rfl
    · rcases ha with ha | ha
      · exact Or.inr ⟨ha, Or.inl ha⟩
      · exact Or.inl ⟨ha, ha, fun j2 c1 c2 => by omega⟩
  | succ m ih =>
    intro j n a hj hn ha
    obtain ⟨n, rfl⟩ : ∃ k, n = k + 1 := ⟨n - 1, by omega⟩
    obtain ⟨l1, l2, l3, l4⟩ := h.at (i := j) (by omega)
    obtain ⟨⟨p9, a9⟩, ⟨p10, a10⟩, ⟨p11, a11⟩, ⟨p7, a7⟩, -⟩ := k4
    obtain ⟨⟨r9, b9⟩, ⟨r10, b10⟩, ⟨r11, b11⟩, ⟨r7, b7⟩, -⟩ := l4
    have ik : 0 ≤ ((ord fc i : Nat) : Int) ∧ ((ord fc i : Nat) : Int) < 8 := by omega
    have il : 0 ≤ ((ord fc j : Nat) : Int) ∧ ((ord fc j : Nat) : Int) < 8 := by omega
    have e132 : ∀ s, p_Mod_apart_132 c4 (p_Mod_apart_14 c4 n) i j s fm g' = p_Mod_apart_14 c4 n s i (j + 1 : Nat) fm g' := fun s => by
      unfold p_Mod_apart_132
      dsimp only [q_let]
      rw [show ((j : Nat) : Int) + 1 = ((j + 1 : Nat) : Int) by omega]
    have base : p_Mod_apart_14 c4 (n + 1) a i j fm g' = if a = 0 ∨ ov fc (ord fc j) (ord fc i) then p_Mod_apart_14 c4 n 0 i (j + 1 : Nat) fm g' else p_Mod_apart_14 c4 n 1 i (j + 1 : Nat) fm g' := by
      rw [p_Mod_apart_14, if_neg (show ¬ q_sw (i : Int) ≤ q_sw (j : Int) by rw [q_swn (by omega), q_swn (by omega)]; omega), if_pos (show 0 ≤ (i : Int) ∧ (i : Int) < 8 by omega)]
      unfold p_Mod_apart_131 p_Mod_apart_127
      dsimp only [q_let]
      rw [if_pos (show 0 ≤ (j : Int) ∧ (j : Int) < 8 by omega), Int.toNat_natCast i, Int.toNat_natCast j, k3, l3, Int.toNat_natCast, Int.toNat_natCast]
      rcases ha with ha | ha
      · rw [if_pos (sw0 ha), if_pos (Or.inl ha), e132]
      · rw [if_neg (sw1 ha), if_pos ik, if_pos ik, if_pos il, if_pos il, ← p9, ← p10, ← r9, ← r10, m_meet a9 b9 a10 b10, Option.bind_some]
        by_cases c1 : mtt (fc (28 + ord fc i) 9) (fc (28 + ord fc i) 10) (fc (28 + ord fc j) 9) (fc (28 + ord fc j) 10)
        · rw [if_pos c1, if_neg (sw1 rfl), if_pos (Or.inr (Or.inl (mtt_sy.mp c1)))]
          exact e132 0
        · rw [if_neg c1, if_pos (sw0 rfl), if_pos ik]
          dsimp only
          have nov : ¬ (fc (28 + ord fc i) 7 = 1 ∧ fc (28 + ord fc j) 7 = 1 ∧ mtt (fc (28 + ord fc i) 11) (fc (28 + ord fc i) 10) (fc (28 + ord fc j) 11) (fc (28 + ord fc j) 10)) → ¬ (a = 0 ∨ ov fc (ord fc j) (ord fc i)) := fun hn q => by
            rcases q with q | q
            · omega
            · rcases q with q | q
              · exact c1 (mtt_sy.mp q)
              · exact hn ⟨q.2.1, q.1, mtt_sy.mp q.2.2⟩
          rcases a7 with a7 | a7
          · rw [if_pos (sw0 (p7.symm.trans a7)), e132, if_neg (nov (fun q => by omega))]
          · rw [if_neg (sw1 (p7.symm.trans a7)), if_pos il]
            rcases b7 with b7 | b7
            · rw [if_pos (sw0 (r7.symm.trans b7)), e132, if_neg (nov (fun q => by omega))]
            · rw [if_neg (sw1 (r7.symm.trans b7)), if_pos ik, if_pos ik, if_pos il, if_pos il, ← p11, ← p10, ← r11, ← r10, m_meet a11 b11 a10 b10, Option.bind_some]
              by_cases c2 : mtt (fc (28 + ord fc i) 11) (fc (28 + ord fc i) 10) (fc (28 + ord fc j) 11) (fc (28 + ord fc j) 10)
              · rw [if_pos c2, if_neg (sw1 rfl), if_pos (Or.inr (Or.inr ⟨b7, a7, mtt_sy.mp c2⟩))]
                exact e132 0
              · rw [if_neg c2, if_pos (sw0 rfl), if_neg (nov (fun q => c2 q.2.2))]
                exact e132 1
    rw [base]
    by_cases hv : a = 0 ∨ ov fc (ord fc j) (ord fc i)
    · rw [if_pos hv]
      obtain ⟨b, e1, e2⟩ := ih (j + 1) n 0 (by omega) (by omega) (Or.inl rfl)
      refine ⟨b, e1, ?_⟩
      rcases e2 with q | q
      · exact absurd q.2.1 (by decide)
      · exact Or.inr ⟨q.1, hv.imp id (fun z => ⟨j, by omega, z⟩)⟩
    · rw [if_neg hv]
      obtain ⟨b, e1, e2⟩ := ih (j + 1) n 1 (by omega) (by omega) (Or.inr rfl)
      have ha1 : a = 1 := ha.resolve_left (fun q => hv (Or.inl q))
      refine ⟨b, e1, ?_⟩
      rcases e2 with q | q
      · refine Or.inl ⟨q.1, ha1, fun j2 c1 c2 => ?_⟩
        by_cases e : j2 = j
        · subst e
          exact fun z => hv (Or.inr z)
        · exact q.2.2 j2 (by omega) c2
      · refine Or.inr ⟨q.1, ?_⟩
        rcases q.2 with z | z
        · exact absurd z (by decide)
        · exact Or.inr z
theorem apart_out (h : JJ fc fm) : ∀ (m i n : Nat) (a : Int), (i : Int) + m = fc 3 7 → m < n → (a = 0 ∨ a = 1) → ∃ b, p_Mod_apart_4 n a i fm g' = some (b, fm, g') ∧ ((b = 1 ∧ a = 1 ∧ ∀ i2 j2 : Nat, i ≤ j2 → i2 < j2 → (j2 : Int) < fc 3 7 → ¬ ov fc (ord fc i2) (ord fc j2)) ∨ (b = 0 ∧ (a = 0 ∨ ∃ i2 j2 : Nat, i2 < j2 ∧ (j2 : Int) < fc 3 7 ∧ ov fc (ord fc i2) (ord fc j2)))) := by
  intro m
  have o8 := h.2.2.1
  have oe := h.1
  induction m with
  | zero =>
    intro i n a hi hn ha
    obtain ⟨n, rfl⟩ : ∃ k, n = k + 1 := ⟨n - 1, by omega⟩
    refine ⟨a, ?_, ?_⟩
    · rw [p_Mod_apart_4, if_pos (show q_sw (fm 60 22) ≤ q_sw (i : Int) by rw [← oe, q_swn (by omega), q_swn (by omega)]; omega), if_pos ha]
    · rcases ha with ha | ha
      · exact Or.inr ⟨ha, Or.inl ha⟩
      · exact Or.inl ⟨ha, ha, fun i2 j2 c1 c2 c3 => by omega⟩
  | succ m ih =>
    intro i n a hi hn ha
    obtain ⟨n, rfl⟩ : ∃ k, n = k + 1 := ⟨n - 1, by omega⟩
    rw [p_Mod_apart_4, if_neg (show ¬ q_sw (fm 60 22) ≤ q_sw (i : Int) by rw [← oe, q_swn (by omega), q_swn (by omega)]; omega)]
    obtain ⟨b1, q1, q2⟩ := apart_in (g' := g') (c4 := p_Mod_apart_4 n) (i := i) h (by omega) i 0 1000 a (by omega) (by omega) ha
    have hb1 : b1 = 0 ∨ b1 = 1 := by rcases q2 with q | q <;> omega
    obtain ⟨b, e1, e2⟩ := ih (i + 1) n b1 (by omega) (by omega) hb1
    have q1' : p_Mod_apart_14 (p_Mod_apart_4 n) 1000 a i 0 fm g' = p_Mod_apart_4 n b1 ((i : Int) + 1) fm g' := q1
    rw [q1', show ((i : Nat) : Int) + 1 = ((i + 1 : Nat) : Int) by omega]
    refine ⟨b, e1, ?_⟩
    rcases e2 with z | z
    · rcases q2 with q | q
      · refine Or.inl ⟨z.1, q.2.1, fun i2 j2 c1 c2 c3 => ?_⟩
        by_cases e : j2 = i
        · subst e
          exact q.2.2 i2 (by omega) c2
        · exact z.2.2 i2 j2 (by omega) c2 c3
      · omega
    · refine Or.inr ⟨z.1, ?_⟩
      rcases z.2 with y | y
      · rcases q2 with q | q
        · omega
        · rcases q.2 with x | ⟨j2, x1, x2⟩
          · exact Or.inl x
          · exact Or.inr ⟨j2, i, x1, by omega, x2⟩
      · exact Or.inr y
theorem over_pair (h : JJ fc fm) : ∃ b, p_Judge_overlaps fc g = some (b, fc, g) ∧ p_Mod_apart fm g' = some (1 - b, fm, g') ∧ (b = 0 ∨ b = 1) := by
  have o8 := h.2.2.1
  have o0 := h.2.1
  obtain ⟨b, e1, e2⟩ := over_out (g := g) h (fc 3 7).toNat 0 1000 (by omega) (by omega)
  obtain ⟨d, u1, u2⟩ := apart_out (g' := g') h (fc 3 7).toNat 0 1000 1 (by omega) (by omega) (Or.inr rfl)
  have : d = 1 - b := by
    rcases e2 with ⟨q1, i2, j2, q2, q3, q4⟩ | ⟨q1, q2⟩
    · rcases u2 with z | z
      · exact absurd q4 (z.2.2 i2 j2 (by omega) q2 q3)
      · omega
    · rcases u2 with z | z
      · omega
      · rcases z.2 with y | ⟨i2, j2, y1, y2, y3⟩
        · exact absurd y (by decide)
        · exact absurd y3 (q2 i2 j2 (by omega) y1 y2)
  refine ⟨b, e1, ?_, by rcases e2 with q | q <;> omega⟩
  rw [← this]
  exact u1
end JU
