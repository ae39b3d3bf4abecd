/-! ===== places and alignments of both ===== -/
section PL
variable {fc fm g : q_F}
theorem c_sectionAt {i : Nat} (hi : i < 8) (h : 0 ≤ fc 14 i ∧ fc 14 i < 8) : p_Plan_sectionAt i fc g = some (28 + (fc 14 i).toNat, fc, g) := by
  unfold p_Plan_sectionAt
  rw [if_pos (by omega), Int.toNat_natCast, if_pos h]
theorem place_loop {r : Int} {g' : q_F} (hO : sOrd fc fm) (hS : sSec fc fm) (hR : sReg fc fm) (hD : DD fc fm) (hr : rtold fc r) : ∀ (m n1 n2 : Nat), (m : Int) ≤ fc 3 7 → m < n1 → m < n2 → fm 60 20 = 1 → ∃ z y fn, p_Reckoner_placeOf_4 n1 r ((m : Int) - 1) fc g = some (z, fc, g) ∧ p_Mod_placeOf_9 n2 r ((m : Int) - 1) fm g' = some (y, fn, g') ∧ (fn = fm ∨ ∃ c, fn = ma_up fm 60 20 c) ∧ ((z = y ∧ ab z (UB fc + 17000) ∧ fn 60 20 = 1) ∨ (z = NY ∧ fn 60 20 = 0)) := by
  intro m
  have hU := UB_b fc
  induction m with
  | zero =>
    intro n1 n2 hm h1 h2 kn
    obtain ⟨n1, rfl⟩ : ∃ k, n1 = k + 1 := ⟨n1 - 1, by omega⟩
    obtain ⟨n2, rfl⟩ : ∃ k, n2 = k + 1 := ⟨n2 - 1, by omega⟩
    obtain ⟨q1, q2, q3, q4, q5⟩ := hR r.toNat (by have := hr.2.1; have := hr.1; omega) hr.2.2
    refine ⟨fc (24 + r.toNat) 1, fm 68 r.toNat, fm, ?_, ?_, Or.inl rfl, Or.inl ⟨q1, ?_, kn⟩⟩
    · rw [p_Reckoner_placeOf_4, if_pos (by decide), if_pos ⟨hr.1, hr.2.1⟩]
    · rw [p_Mod_placeOf_9, if_pos (by decide), if_pos ⟨hr.1, hr.2.1⟩, q_swn (by omega)]
    · unfold ab
      omega
  | succ m ih =>
    intro n1 n2 hm h1 h2 kn
    obtain ⟨n1, rfl⟩ : ∃ k, n1 = k + 1 := ⟨n1 - 1, by omega⟩
    obtain ⟨n2, rfl⟩ : ∃ k, n2 = k + 1 := ⟨n2 - 1, by omega⟩
    have o8 := hO.2.2.1
    obtain ⟨o1, o2, o3, o4, o5⟩ := hO.2.2.2.2 m (by omega)
    obtain ⟨k, hk⟩ : ∃ k : Nat, fc 14 m = k := ⟨(fc 14 m).toNat, by omega⟩
    have hkm : fm 75 m = k := by rw [← o1]; exact hk
    rw [hk, Int.toNat_natCast] at o4
    obtain ⟨s1, s2, s3⟩ := hS.1 k (by omega) o4
    obtain ⟨h6, h6t, h8, h8t, -⟩ := s3
    have em : ((m + 1 : Nat) : Int) - 1 = (m : Nat) := by omega
    have b6 := h6t.1
    have b6' := h6t.2.1
    have r0 := hr.1
    have r4 := hr.2.1
    have b8 : -1 ≤ fc (28 + k) 8 ∧ fc (28 + k) 8 < 4 := by
      rcases h8t with q | q
      · omega
      · have := q.1.1
        have := q.1.2.1
        omega
    rw [em, p_Reckoner_placeOf_4, if_neg (show ¬ q_sw (m : Int) < 0 by rw [q_swn (by omega)]; omega), c_sectionAt (by omega) (by omega), Option.bind_some]
    rw [p_Mod_placeOf_9, if_neg (show ¬ q_sw (m : Int) < 0 by rw [q_swn (by omega)]; omega), if_pos (show 0 ≤ (m : Int) ∧ (m : Int) < 8 by omega)]
    dsimp only [q_let]
    rw [Int.toNat_natCast, hkm, hk, Int.toNat_natCast, if_pos (show 28 ≤ 28 + k ∧ 28 + k < 36 by omega), if_pos (show 0 ≤ (k : Int) ∧ (k : Int) < 8 by omega)]
    have found : (fc (28 + k) 6 = r ∨ fc (28 + k) 8 = r) → ∃ z y fn, p_Reckoner_placeOf_36 r (28 + k) fc g = some (z, fc, g) ∧ p_Mod_placeOf_43 r k fm g' = some (y, fn, g') ∧ (fn = fm ∨ ∃ c, fn = ma_up fm 60 20 c) ∧ ((z = y ∧ ab z (UB fc + 17000) ∧ fn 60 20 = 1) ∨ (z = NY ∧ fn 60 20 = 0)) := by
      intro hf
      have hd := hD.1 k (by omega)
      have f01 : fm 77 k = 0 ∨ fm 77 k = 1 := hD.F.1 k (by omega)
      unfold p_Reckoner_placeOf_36 p_Reckoner_placeOf_58 p_Reckoner_placeOf_81 p_Section_isKnown p_Section_isKnown_14 p_Mod_placeOf_43 p_Mod_placeOf_82
      rw [if_pos (show 28 ≤ 28 + k ∧ 28 + k < 36 by omega), if_pos (show 0 ≤ (k : Int) ∧ (k : Int) < 8 by omega), Int.toNat_natCast, if_pos f01]
      dsimp only [q_let]
      have u : ∀ a, a ≠ 60 → ma_up fm 60 20 (fm 77 k) a = fm a := fun a ha => ma_up_ne ha
      rw [u 81 (by omega), u 86 (by omega), u 87 (by omega), u 88 (by omega), if_pos (show 0 ≤ (k : Int) ∧ (k : Int) < 8 by omega), if_pos (show 0 ≤ (k : Int) ∧ (k : Int) < 8 by omega), if_pos (show 0 ≤ (k : Int) ∧ (k : Int) < 8 by omega), if_pos (show 0 ≤ (k : Int) ∧ (k : Int) < 8 by omega), if_pos (show 0 ≤ (k : Int) ∧ (k : Int) < 8 by omega), ← h6, q_swn (show -2147483648 ≤ fc (28 + k) 6 ∧ fc (28 + k) 6 ≤ 2147483647 by omega), q_swn (show -2147483648 ≤ r ∧ r ≤ 2147483647 by omega), if_pos (show 28 ≤ 28 + k ∧ 28 + k < 36 by omega), if_pos (show 28 ≤ 28 + k ∧ 28 + k < 36 by omega)]
      rcases hd with q | q
      · rw [if_pos (show q_sw (fc (28 + k) 10) = q_sw (-1000000000) by rw [q.2.1]; rfl), if_pos (Or.inl rfl), Option.bind_some, if_pos (sw0 rfl), if_pos (show 28 ≤ 28 + k ∧ 28 + k < 36 by omega), Option.bind_some, if_pos (sw0 rfl)]
        dsimp only
        by_cases e6 : fc (28 + k) 6 = r
        · rw [if_pos e6, if_pos e6]
          exact ⟨_, _, _, rfl, rfl, Or.inr ⟨_, rfl⟩, Or.inr ⟨rfl, by rw [ma_up_self]; exact q.2.2.2⟩⟩
        · rw [if_neg e6, if_neg e6]
          exact ⟨_, _, _, rfl, rfl, Or.inr ⟨_, rfl⟩, Or.inr ⟨rfl, by rw [ma_up_self]; exact q.2.2.2⟩⟩
      · obtain ⟨t1, t2, t3, t4, t5, t6, t7, t8⟩ := q
        unfold ab at t5 t6
        rw [if_neg (show ¬ q_sw (fc (28 + k) 10) = q_sw (-1000000000) by rw [NY_sw, q_swn (by omega)]; omega), if_pos (Or.inr rfl), Option.bind_some, if_neg (sw1 rfl), if_pos (show 28 ≤ 28 + k ∧ 28 + k < 36 by omega), Option.bind_some, if_neg (sw1 rfl)]
        dsimp only
        rw [← t2, ← t3, ← t4]
        by_cases e6 : fc (28 + k) 6 = r
        · rw [if_pos e6, if_pos e6, q_swn (by omega)]
          exact ⟨_, _, _, rfl, rfl, Or.inr ⟨_, rfl⟩, Or.inl ⟨rfl, by unfold ab; omega, by rw [ma_up_self]; exact t1⟩⟩
        · rw [if_neg e6, if_neg e6, q_swn (by omega)]
          exact ⟨_, _, _, rfl, rfl, Or.inr ⟨_, rfl⟩, Or.inl ⟨rfl, by unfold ab; omega, by rw [ma_up_self]; exact t1⟩⟩
    rw [← h6, ← h8, q_swn (show -2147483648 ≤ fc (28 + k) 6 ∧ fc (28 + k) 6 ≤ 2147483647 by omega), q_swn (show -2147483648 ≤ fc (28 + k) 8 ∧ fc (28 + k) 8 ≤ 2147483647 by omega), q_swn (show -2147483648 ≤ r ∧ r ≤ 2147483647 by omega)]
    by_cases e6 : fc (28 + k) 6 = r
    · rw [if_pos e6, if_pos e6]
      exact found (Or.inl e6)
    · rw [if_neg e6, if_neg e6, if_pos (show 0 ≤ (k : Int) ∧ (k : Int) < 8 by omega)]
      by_cases e8 : fc (28 + k) 8 = r
      · rw [if_pos e8, if_pos e8]
        exact found (Or.inr e8)
      · rw [if_neg e8, if_neg e8]
        exact ih n1 n2 (by omega) (by omega) (by omega) kn
theorem place_pair {r : Int} {i : Nat} {g' : q_F} (hO : sOrd fc fm) (hS : sSec fc fm) (hR : sReg fc fm) (hD : DD fc fm) (hr : rtold fc r) (hi : (i : Int) < fc 3 7) : ∃ z y fn, p_Reckoner_placeOf r i fc g = some (z, fc, g) ∧ p_Mod_placeOf r i fm g' = some (y, fn, g') ∧ MR fm fn ∧ fn 60 21 = fm 60 21 ∧ ((z = y ∧ ab z (UB fc + 17000) ∧ fn 60 20 = 1) ∨ (z = NY ∧ fn 60 20 = 0)) := by
  have mr := MR.u20 fm 1
  have u : ∀ a, a ≠ 60 → ma_up fm 60 20 1 a = fm a := fun a ha => ma_up_ne ha
  have o8 := hO.2.2.1
  obtain ⟨z, y, fn, e1, e2, e3, e4⟩ := place_loop (g := g) (g' := g') (fm := ma_up fm 60 20 1) (by
      unfold sOrd at *
      rw [u 76 (by omega), u 78 (by omega), u 75 (by omega), mr.2 22 (by omega) (by omega)]
      exact hO) (by
      unfold sSec seAd seIt seHo at *
      rw [u 79 (by omega), u 80 (by omega), u 81 (by omega), u 82 (by omega), u 83 (by omega), u 84 (by omega), u 85 (by omega)]
      exact hS) (by
      unfold sReg at *
      rw [u 68 (by omega), u 69 (by omega)]
      exact hR) (by
      unfold DD dSec dSym dIn at *
      rw [u 77 (by omega), u 86 (by omega), u 87 (by omega), u 88 (by omega), u 91 (by omega), u 95 (by omega), u 64 (by omega)]
      exact hD) hr i 1000 1000 (by omega) (by omega) (by omega) ma_up_self
  refine ⟨z, y, fn, e1, e2, ?_, ?_, e4⟩
  · rcases e3 with rfl | ⟨c, rfl⟩
    · exact mr
    · exact mr.tr (MR.u20 _ _)
  · rcases e3 with rfl | ⟨c, rfl⟩
    · rw [ma_up_at (by omega)]
    · rw [ma_up_at (by omega), ma_up_at (by omega)]
/-- the reference's place is total -/
theorem place_total {r : Int} {g' : q_F} (hO : sOrd fc fm) (hF : mF fm) (hr : 0 ≤ r ∧ r < 4) : ∀ (m n2 : Nat), (m : Int) ≤ fc 3 7 → m < n2 → (fm 60 20 = 0 ∨ fm 60 20 = 1) → ∃ y fn, p_Mod_placeOf_9 n2 r ((m : Int) - 1) fm g' = some (y, fn, g') ∧ (fn = fm ∨ ∃ c, fn = ma_up fm 60 20 c) ∧ (fn 60 20 = 0 ∨ fn 60 20 = 1) := by
  intro m
  induction m with
  | zero =>
    intro n2 hm h2 k01
    obtain ⟨n2, rfl⟩ : ∃ k, n2 = k + 1 := ⟨n2 - 1, by omega⟩
    refine ⟨q_sw (fm 68 r.toNat), fm, ?_, Or.inl rfl, k01⟩
    rw [p_Mod_placeOf_9, if_pos (by decide), if_pos hr]
  | succ m ih =>
    intro n2 hm h2 k01
    obtain ⟨n2, rfl⟩ : ∃ k, n2 = k + 1 := ⟨n2 - 1, by omega⟩
    have o8 := hO.2.2.1
    obtain ⟨o1, o2, o3, o4, o5⟩ := hO.2.2.2.2 m (by omega)
    obtain ⟨k, hk⟩ : ∃ k : Nat, fc 14 m = k := ⟨(fc 14 m).toNat, by omega⟩
    have hkm : fm 75 m = k := by rw [← o1]; exact hk
    have em : ((m + 1 : Nat) : Int) - 1 = (m : Nat) := by omega
    have i8 : 0 ≤ (k : Int) ∧ (k : Int) < 8 := by omega
    rw [em, p_Mod_placeOf_9, if_neg (show ¬ q_sw (m : Int) < 0 by rw [q_swn (by omega)]; omega), if_pos (show 0 ≤ (m : Int) ∧ (m : Int) < 8 by omega)]
    dsimp only [q_let]
    rw [Int.toNat_natCast, hkm, Int.toNat_natCast, if_pos i8, if_pos i8]
    have found : ∃ y fn, p_Mod_placeOf_43 r k fm g' = some (y, fn, g') ∧ (fn = fm ∨ ∃ c, fn = ma_up fm 60 20 c) ∧ (fn 60 20 = 0 ∨ fn 60 20 = 1) := by
      have f01 : fm 77 k = 0 ∨ fm 77 k = 1 := hF.1 k (by omega)
      unfold p_Mod_placeOf_43 p_Mod_placeOf_82
      rw [if_pos i8, Int.toNat_natCast, if_pos f01]
      dsimp only [q_let]
      rw [if_pos i8, if_pos i8, if_pos i8, if_pos i8]
      split
      · exact ⟨_, _, rfl, Or.inr ⟨_, rfl⟩, by rw [ma_up_self]; exact f01⟩
      · exact ⟨_, _, rfl, Or.inr ⟨_, rfl⟩, by rw [ma_up_self]; exact f01⟩
    split
    · exact found
    · split
      · exact found
      · exact ih n2 (by omega) (by omega) k01
theorem place_T {r : Int} {i : Nat} {g' : q_F} (hO : sOrd fc fm) (hF : mF fm) (hr : 0 ≤ r ∧ r < 4) (hi : (i : Int) < fc 3 7) : ∃ y fn, p_Mod_placeOf r i fm g' = some (y, fn, g') ∧ MR fm fn ∧ fn 60 21 = fm 60 21 ∧ (fn 60 20 = 0 ∨ fn 60 20 = 1) := by
  have mr := MR.u20 fm 1
  have u : ∀ a, a ≠ 60 → ma_up fm 60 20 1 a = fm a := fun a ha => ma_up_ne ha
  have o8 := hO.2.2.1
  obtain ⟨y, fn, e2, e3, e4⟩ := place_total (g' := g') (fm := ma_up fm 60 20 1) (by
      unfold sOrd at *
      rw [u 76 (by omega), u 78 (by omega), u 75 (by omega), mr.2 22 (by omega) (by omega)]
      exact hO) (mr.F hF) hr i 1000 (by omega) (by omega) (Or.inr ma_up_self)
  refine ⟨y, fn, e2, ?_, ?_, e4⟩
  · rcases e3 with rfl | ⟨c, rfl⟩
    · exact mr
    · exact mr.tr (MR.u20 _ _)
  · rcases e3 with rfl | ⟨c, rfl⟩
    · rw [ma_up_at (by omega)]
    · rw [ma_up_at (by omega), ma_up_at (by omega)]
end PL
