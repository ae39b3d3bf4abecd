/-! ===== alignments; the items put one by one ===== -/
section PI
variable {g g' : q_F} {k : Nat}
/-- the items from j to hi can be read by both -/
def itF (fc fm : q_F) (lo hi : Int) : Prop := 0 ≤ lo ∧ hi ≤ 160 ∧ (∀ j : Nat, lo ≤ j → (j : Int) < hi → itemok (fc 9 j) (fc 10 j) (fm 89 j)) ∧ gIn fc fm
theorem al_loop {fc fm : q_F} {lo hi : Int} (hk : k < 8) (hi5 : fc (28 + k) 5 = hi) (h84 : fm 84 k + fm 85 k = hi) (hF : itF fc fm lo hi) : ∀ (m : Nat) (n1 n2 : Nat) (j : Nat) (v : Int), (j : Int) + m = hi → lo ≤ j → m < n1 → m < n2 → pw64 v → ∃ A, pw64 A ∧ p_Reckoner_greatestAlignment_7 n1 (28 + k) v j fc g = some (A, fc, g) ∧ p_Mod_alignOf_9 n2 k v j fm g' = some (A, fm, g') := by
  intro m
  obtain ⟨f0, f1, f2, f3⟩ := hF
  have ik : 0 ≤ (k : Int) ∧ (k : Int) < 8 := by omega
  have ic : 28 ≤ 28 + k ∧ 28 + k < 36 := by omega
  induction m with
  | zero =>
    intro n1 n2 j v hj hl h1 h2 hv
    obtain ⟨n1, rfl⟩ : ∃ k, n1 = k + 1 := ⟨n1 - 1, by omega⟩
    obtain ⟨n2, rfl⟩ : ∃ k, n2 = k + 1 := ⟨n2 - 1, by omega⟩
    refine ⟨v, hv, ?_, ?_⟩
    · rw [p_Reckoner_greatestAlignment_7, if_pos ic, if_pos (show q_sw (fc (28 + k) 5) ≤ q_sw (j : Int) by rw [hi5, q_swn (by omega), q_swn (by omega)]; omega)]
    · rw [p_Mod_alignOf_9, if_pos ik, if_pos ik, Int.toNat_natCast, if_pos (show q_sw (fm 84 k + fm 85 k) ≤ q_sw (j : Int) by rw [h84, q_swn (by omega), q_swn (by omega)]; omega)]
  | succ m ih =>
    intro n1 n2 j v hj hl h1 h2 hv
    obtain ⟨n1, rfl⟩ : ∃ k, n1 = k + 1 := ⟨n1 - 1, by omega⟩
    obtain ⟨n2, rfl⟩ : ∃ k, n2 = k + 1 := ⟨n2 - 1, by omega⟩
    have ij : 0 ≤ (j : Int) ∧ (j : Int) < 160 := by omega
    have hit := f2 j hl (by omega)
    have hv1 : 1 ≤ v ∧ v ≤ 64 := by rcases hv with h | h | h | h | h | h | h <;> omega
    rw [p_Reckoner_greatestAlignment_7, if_pos ic, if_neg (show ¬ q_sw (fc (28 + k) 5) ≤ q_sw (j : Int) by rw [hi5, q_swn (by omega), q_swn (by omega)]; omega), if_pos ij]
    rw [p_Mod_alignOf_9, if_pos ik, if_pos ik, Int.toNat_natCast k, if_neg (show ¬ q_sw (fm 84 k + fm 85 k) ≤ q_sw (j : Int) by rw [h84, q_swn (by omega), q_swn (by omega)]; omega), if_pos ij, if_pos ij, if_pos ij]
    dsimp only [q_let]
    rw [Int.toNat_natCast j, if_pos ij, if_pos ij]
    unfold p_Reckoner_greatestAlignment_88 p_Mod_alignOf_71 p_Mod_alignOf_85
    rw [if_pos ic, if_pos ic, if_pos ic]
    dsimp only [q_let]
    have mx : ∀ x, pw64 x → pw64 (q_max v x) ∧ q_max v x = if v < x then x else v := fun x hx => by
      have hx1 : 1 ≤ x ∧ x ≤ 64 := by rcases hx with h | h | h | h | h | h | h <;> omega
      have e : q_max v x = if v < x then x else v := by
        unfold q_max
        rw [q_swn (by omega), q_swn (by omega)]
      refine ⟨?_, e⟩
      rw [e]
      split
      · exact hx
      · exact hv
    have ste : ∀ x : Int, pw64 x → (if q_sw x ≤ q_sw v then p_Mod_alignOf_9 n2 k v (j + 1) fm g' else p_Mod_alignOf_9 n2 k x (j + 1) fm g') = p_Mod_alignOf_9 n2 k (q_max v x) (j + 1) fm g' := fun x hx => by
      have hx1 : 1 ≤ x ∧ x ≤ 64 := by rcases hx with h | h | h | h | h | h | h <;> omega
      rw [(mx x hx).2, q_swn (show -2147483648 ≤ x ∧ x ≤ 2147483647 by omega), q_swn (show -2147483648 ≤ v ∧ v ≤ 2147483647 by omega)]
      by_cases hlt : v < x
      · rw [if_neg (by omega), if_pos hlt]
      · rw [if_pos (by omega), if_neg hlt]
    have go : ∀ x, pw64 x → ∃ A, pw64 A ∧ p_Reckoner_greatestAlignment_7 n1 (28 + k) x ((j : Int) + 1) fc g = some (A, fc, g) ∧ p_Mod_alignOf_9 n2 k x ((j : Int) + 1) fm g' = some (A, fm, g') := fun x hx => by
      have := ih n1 n2 (j + 1) x (by omega) (by omega) (by omega) (by omega) hx
      rw [show ((j + 1 : Nat) : Int) = (j : Int) + 1 by omega] at this
      exact this
    rcases hit with ⟨q1, q2, q3, q4⟩ | ⟨q1, q2, q3⟩ | ⟨q1, q2, q3, q4⟩
    · obtain ⟨p1, p2, p3, p4, p5⟩ := f3 (fc 10 j).toNat (by omega)
      have h64 := pw16_64 p4
      rw [if_pos (sw0 q1), if_pos (show 0 ≤ fc 10 j ∧ fc 10 j < 8 by omega), if_pos (show 0 ≤ q_sw (fm 89 j) by rw [q_swn (by omega)]; omega), if_neg (show ¬ q_sw 8 ≤ q_sw (fm 89 j) by rw [q_swn (by omega), q_swn (by omega)]; omega), if_pos (show 0 ≤ fm 89 j ∧ fm 89 j < 8 by omega), q2, ← p3, ste _ h64]
      exact go _ (mx _ h64).1
    · have q3' : 1 ≤ fc 10 j ∧ fc 10 j ≤ 64 := by rcases q3 with h | h | h | h | h | h | h <;> omega
      rw [if_neg (show ¬ q_sw (fc 9 j) = 0 by rw [q1]; decide), if_pos (show q_sw (fc 9 j) = q_sw 1 by rw [q1]), if_neg (show ¬ 0 ≤ q_sw (fm 89 j) by rw [q_swn (by omega)]; omega), q2, Int.neg_neg, ste _ q3, if_pos ij]
      exact go _ (mx _ q3).1
    · rw [if_neg (show ¬ q_sw (fc 9 j) = 0 by rw [q1]; decide), if_neg (show ¬ q_sw (fc 9 j) = q_sw 1 by rw [q1]; decide), if_pos (show 0 ≤ q_sw (fm 89 j) by rw [q_swn (by omega)]; omega), if_pos (show q_sw 8 ≤ q_sw (fm 89 j) by rw [q_swn (by omega), q_swn (by omega)]; omega), if_pos (show q_sw 1 ≤ q_sw v by rw [q_swn (by omega), q_swn (by omega)]; omega)]
      exact go v hv
theorem al_pair {fc fm : q_F} (hk : k < 8) (hI : seIt fc fm k) (hF : itF fc fm (fc (28 + k) 4) (fc (28 + k) 5)) : ∃ A, pw64 A ∧ p_Reckoner_greatestAlignment (28 + k) fc g = some (A, fc, g) ∧ p_Mod_alignOf k fm g' = some (A, fm, g') := by
  obtain ⟨i1, i2, i3, i4, i5⟩ := hI
  have h160 := hF.2.1
  obtain ⟨j, hj⟩ : ∃ j : Nat, fc (28 + k) 4 = j := ⟨(fc (28 + k) 4).toNat, by omega⟩
  obtain ⟨A, a1, a2, a3⟩ := al_loop (g := g) (g' := g') hk rfl i2.symm hF (fc (28 + k) 5 - j).toNat 1000 1000 j 1 (by omega) (by omega) (by omega) (by omega) (Or.inl rfl)
  refine ⟨A, a1, ?_, ?_⟩
  · unfold p_Reckoner_greatestAlignment
    rw [if_pos (by omega), hj]
    exact a2
  · unfold p_Mod_alignOf
    rw [if_pos (by omega), Int.toNat_natCast, ← i1, hj]
    exact a3
def symB (fc fm : q_F) (B : Int) (v : Nat) : Prop := (fc (36 + v) 4 = NY ∧ fm 91 (v + 8) = 0) ∨ (fm 91 (v + 8) = 1 ∧ fc (36 + v) 4 = fm 95 (v + 8) ∧ ab (fc (36 + v) 4) B)
/-- cells that putting items may change -/
def puC (fc : q_F) (lo hi : Int) (a c : Nat) : Prop := ∃ i : Nat, lo ≤ i ∧ (i : Int) < hi ∧ c = 4 ∧ ((fc 9 i = 0 ∧ a = 16 + (fc 10 i).toNat) ∨ (fc 9 i = 2 ∧ a = 36 + (fc 10 i).toNat))
theorem put_loop {hi : Int} {B : Int} (hk : k < 8) (hB : B ≤ 900000) : ∀ (m : Nat) (n1 n2 : Nat) (j : Nat) (p : Int) (fc fm : q_F), fc (28 + k) 5 = hi → fm 84 k + fm 85 k = hi → itF fc fm j hi → (∀ a b : Nat, j ≤ a → a < b → (b : Int) < hi → fc 9 a = fc 9 b → fc 10 a = fc 10 b → fc 9 a = 1) → (j : Int) + m = hi → m < n1 → m < n2 → (∀ v : Nat, v < 18 → symB fc fm B v) → (∀ v : Nat, v < 8 → dIn fc fm v) → -B ≤ p → p + 103 * m ≤ B →
    ∃ p' fd fn, p_Reckoner_putItems_10 n1 (28 + k) p j fc g = some (p', fd, g) ∧ p_Mod_putSection_152 n2 k p j fm g' = some (ma_up (ma_up fn 87 k (p' - fn 86 k)) 77 k 1, g') ∧ p ≤ p' ∧ p' ≤ p + 103 * m ∧ (∀ a c, ¬ puC fc j hi a c → fd a c = fc a c) ∧ (∀ a, a ≠ 64 → a ≠ 91 → a ≠ 95 → fn a = fm a) ∧ (∀ v : Nat, v < 18 → symB fd fn B v) ∧ (∀ v : Nat, v < 8 → dIn fd fn v) ∧ (∀ i : Nat, j ≤ i → (i : Int) < hi → fc 9 i = 0 → p ≤ fd (16 + (fc 10 i).toNat) 4 ∧ fd (16 + (fc 10 i).toNat) 4 + fc (16 + (fc 10 i).toNat) 0 ≤ p') := by
  intro m
  have ik : 0 ≤ (k : Int) ∧ (k : Int) < 8 := by omega
  have ic : 28 ≤ 28 + k ∧ 28 + k < 36 := by omega
  induction m with
  | zero =>
    intro n1 n2 j p fc fm h5 h84 hF hU hj h1 h2 hs hd hp1 hp2
    obtain ⟨n1, rfl⟩ : ∃ k, n1 = k + 1 := ⟨n1 - 1, by omega⟩
    obtain ⟨n2, rfl⟩ : ∃ k, n2 = k + 1 := ⟨n2 - 1, by omega⟩
    have b1 := hF.2.1
    refine ⟨p, fc, fm, ?_, ?_, Int.le_refl _, by omega, fun _ _ _ => rfl, fun _ _ _ _ => rfl, hs, hd, fun i c1 c2 => by omega⟩
    · rw [p_Reckoner_putItems_10, if_pos ic, if_pos (show q_sw (fc (28 + k) 5) ≤ q_sw (j : Int) by rw [h5, q_swn (by omega), q_swn (by omega)]; omega)]
    · rw [p_Mod_putSection_152, if_pos ik, if_pos ik, Int.toNat_natCast, if_pos (show q_sw (fm 84 k + fm 85 k) ≤ q_sw (j : Int) by rw [h84, q_swn (by omega), q_swn (by omega)]; omega), if_pos ik, if_pos ik]
      dsimp only [q_let]
      rw [if_pos ik, q_nz1]
  | succ m ih =>
    intro n1 n2 j p fc fm h5 h84 hF hU hj h1 h2 hs hd hp1 hp2
    obtain ⟨n1, rfl⟩ : ∃ k, n1 = k + 1 := ⟨n1 - 1, by omega⟩
    obtain ⟨n2, rfl⟩ : ∃ k, n2 = k + 1 := ⟨n2 - 1, by omega⟩
    obtain ⟨f0, f1, f2, f3⟩ := hF
    have ij : 0 ≤ (j : Int) ∧ (j : Int) < 160 := by omega
    have hit := f2 j (by omega) (by omega)
    -- one item done, the rest by induction
    have go : ∀ (p1 : Int) (fc1 fm1 : q_F), p ≤ p1 → p1 ≤ p + 103 → (∀ a c, ¬ puC fc j ((j : Int) + 1) a c → fc1 a c = fc a c) → (∀ a, a ≠ 64 → a ≠ 91 → a ≠ 95 → fm1 a = fm a) → (∀ v : Nat, v < 18 → symB fc1 fm1 B v) → (∀ v : Nat, v < 8 → dIn fc1 fm1 v) → (fc 9 j = 0 → p ≤ fc1 (16 + (fc 10 j).toNat) 4 ∧ fc1 (16 + (fc 10 j).toNat) 4 + fc (16 + (fc 10 j).toNat) 0 ≤ p1) → p_Reckoner_putItems_10 (n1 + 1) (28 + k) p j fc g = p_Reckoner_putItems_10 n1 (28 + k) p1 ((j : Int) + 1) fc1 g → p_Mod_putSection_152 (n2 + 1) k p j fm g' = p_Mod_putSection_152 n2 k p1 ((j : Int) + 1) fm1 g' →
      ∃ p' fd fn, p_Reckoner_putItems_10 (n1 + 1) (28 + k) p j fc g = some (p', fd, g) ∧ p_Mod_putSection_152 (n2 + 1) k p j fm g' = some (ma_up (ma_up fn 87 k (p' - fn 86 k)) 77 k 1, g') ∧ p ≤ p' ∧ p' ≤ p + 103 * (m + 1 : Nat) ∧ (∀ a c, ¬ puC fc j hi a c → fd a c = fc a c) ∧ (∀ a, a ≠ 64 → a ≠ 91 → a ≠ 95 → fn a = fm a) ∧ (∀ v : Nat, v < 18 → symB fd fn B v) ∧ (∀ v : Nat, v < 8 → dIn fd fn v) ∧ (∀ i : Nat, j ≤ i → (i : Int) < hi → fc 9 i = 0 → p ≤ fd (16 + (fc 10 i).toNat) 4 ∧ fd (16 + (fc 10 i).toNat) 4 + fc (16 + (fc 10 i).toNat) 0 ≤ p') := by
      intro p1 fc1 fm1 a1 a2 a3 a4 a5 a6 a7 a8 a9
      have st : ∀ a c, (a < 16 ∨ (24 ≤ a ∧ a < 36) ∨ c ≠ 4) → fc1 a c = fc a c := fun a c hac => a3 a c (fun ⟨i, q1, q2, q3, q4⟩ => by
        have ei : i = j := by omega
        subst ei
        unfold itemok at hit
        rcases q4 with q4 | q4 <;> omega)
      have r9 : fc1 9 = fc 9 := funext fun c => st 9 c (by omega)
      have r10 : fc1 10 = fc 10 := funext fun c => st 10 c (by omega)
      obtain ⟨p', fd, fn, d1, d2, d3, d4, d5, d6, d7, d8, d9⟩ := ih n1 n2 (j + 1) p1 fc1 fm1 (by rw [st _ _ (by omega)]; exact h5) (by rw [a4 84 (by omega) (by omega) (by omega), a4 85 (by omega) (by omega) (by omega)]; exact h84) ⟨by omega, f1, fun i c1 c2 => by
          rw [r9, r10, a4 89 (by omega) (by omega) (by omega)]
          exact f2 i (by omega) c2, fun v hv => by
          rw [st _ 0 (by omega), st _ 1 (by omega), st _ 2 (by omega), a4 61 (by omega) (by omega) (by omega), a4 62 (by omega) (by omega) (by omega), a4 63 (by omega) (by omega) (by omega)]
          exact f3 v hv⟩ (fun a b c1 c2 c3 => by
          rw [r9, r10]
          exact hU a b (by omega) c2 c3) (by omega) (by omega) (by omega) a5 a6 (by omega) (by omega)
      rw [show ((j + 1 : Nat) : Int) = (j : Int) + 1 by omega] at d1 d2
      refine ⟨p', fd, fn, a8.trans d1, a9.trans d2, by omega, by omega, fun a c hn => ?_, fun a c1 c2 c3 => (d6 a c1 c2 c3).trans (a4 a c1 c2 c3), d7, d8, fun i c1 c2 c3 => ?_⟩
      · rw [d5 a c (fun ⟨i, q1, q2, q3, q4⟩ => hn ⟨i, by omega, q2, q3, by rw [r9, r10] at q4; exact q4⟩), a3 a c (fun ⟨i, q1, q2, q3, q4⟩ => hn ⟨i, q1, by omega, q3, q4⟩)]
      · by_cases ei : i = j
        · subst ei
          have q := a7 c3
          have hsame : fd (16 + (fc 10 i).toNat) 4 = fc1 (16 + (fc 10 i).toNat) 4 := by
            refine d5 _ _ (fun ⟨i2, q1, q2, q3, q4⟩ => ?_)
            rw [r9, r10] at q4
            have it2 := f2 i2 (by omega) q2
            unfold itemok at hit it2
            rcases q4 with q4 | q4
            · have := hU i i2 (by omega) (by omega) q2 (by omega) (by omega)
              omega
            · omega
          rw [hsame]
          omega
        · have q := d9 i (by omega) c2 (by rw [r9]; exact c3)
          rw [r10, st _ 0 (by omega)] at q
          omega
    rcases hit with ⟨q1, q2, q3, q4⟩ | ⟨q1, q2, q3⟩ | ⟨q1, q2, q3, q4⟩
    · -- an input
      obtain ⟨w, hw⟩ : ∃ w : Nat, fc 10 j = w := ⟨(fc 10 j).toNat, by omega⟩
      have hI : fm 89 j = w := by omega
      obtain ⟨p1, p2, p3, p4, p5⟩ := f3 w (by omega)
      have h64 := pw16_64 p4
      have hub : p ≤ up p (fc (16 + w) 1) ∧ up p (fc (16 + w) 1) ≤ p + 63 := up_b h64
      have e16 : ma_up fc (16 + w) 4 (up p (fc (16 + w) 1)) (16 + w) 4 = up p (fc (16 + w) 1) := ma_up_self
      have e0 : ma_up fc (16 + w) 4 (up p (fc (16 + w) 1)) (16 + w) 0 = fc (16 + w) 0 := ma_up_at (by omega)
      refine go (up p (fc (16 + w) 1) + fc (16 + w) 0) (ma_up fc (16 + w) 4 (up p (fc (16 + w) 1))) (ma_up fm 64 w (up p (fc (16 + w) 1))) (by omega) (by omega) (fun a c hn => ma_up_ne2 (fun q => hn ⟨j, by omega, by omega, q.2, Or.inl ⟨q1, by rw [hw, Int.toNat_natCast]; exact q.1⟩⟩)) (fun a c1 _ _ => ma_up_ne c1) (fun v hv => ?_) (fun v hv => ?_) (fun _ => ?_) ?_ ?_
      · unfold symB
        rw [ma_up_ne (by omega), ma_up_ne (by omega), ma_up_ne (by omega)]
        exact hs v hv
      · unfold dIn
        by_cases e : v = w
        · subst e
          rw [ma_up_self, ma_up_self]
          refine ⟨rfl, ?_⟩
          unfold ab
          omega
        · rw [ma_up_ne (by omega), ma_up_at (by omega)]
          exact hd v hv
      · rw [hw, Int.toNat_natCast, e16]
        omega
      · rw [p_Reckoner_putItems_10, if_pos ic, if_neg (show ¬ q_sw (fc (28 + k) 5) ≤ q_sw (j : Int) by rw [h5, q_swn (by omega), q_swn (by omega)]; omega), if_pos ij]
        dsimp only [q_let]
        unfold p_Reckoner_putItems_128
        rw [Int.toNat_natCast, if_pos ij, if_pos (sw0 q1), hw, if_pos (show 0 ≤ (w : Int) ∧ (w : Int) < 8 by omega), Int.toNat_natCast, c_raise (by omega) h64, Option.bind_some, if_pos ic]
        dsimp only
        rw [e16, e0]
        rfl
      · rw [p_Mod_putSection_152, if_pos ik, if_pos ik, Int.toNat_natCast, if_neg (show ¬ q_sw (fm 84 k + fm 85 k) ≤ q_sw (j : Int) by rw [h84, q_swn (by omega), q_swn (by omega)]; omega), if_pos ij]
        dsimp only [q_let]
        unfold p_Mod_putSection_254
        rw [Int.toNat_natCast, hI, if_pos (show 0 ≤ q_sw (w : Int) by rw [q_swn (by omega)]; omega), if_neg (show ¬ q_sw 8 ≤ q_sw (w : Int) by rw [q_swn (by omega), q_swn (by omega)]; omega), if_pos (show 0 ≤ (w : Int) ∧ (w : Int) < 8 by omega), Int.toNat_natCast, ← p3, m_raise (by omega) h64, Option.bind_some, if_pos (show 0 ≤ (w : Int) ∧ (w : Int) < 8 by omega), if_pos (show 0 ≤ (w : Int) ∧ (w : Int) < 8 by omega)]
        dsimp only [q_let]
        rw [show ma_up fm 64 w (up p (fc (16 + w) 1)) 61 w = fc (16 + w) 0 by rw [ma_up_ne (by omega)]; exact p1.symm, q_swn (show -2147483648 ≤ fc (16 + w) 0 ∧ fc (16 + w) 0 ≤ 2147483647 by omega)]
    · -- a raise
      have hub : p ≤ up p (fc 10 j) ∧ up p (fc 10 j) ≤ p + 63 := up_b q3
      have q3' : 1 ≤ fc 10 j ∧ fc 10 j ≤ 64 := by rcases q3 with h | h | h | h | h | h | h <;> omega
      refine go (up p (fc 10 j)) fc fm (by omega) (by omega) (fun _ _ _ => rfl) (fun _ _ _ _ => rfl) hs hd (fun e => by omega) ?_ ?_
      · rw [p_Reckoner_putItems_10, if_pos ic, if_neg (show ¬ q_sw (fc (28 + k) 5) ≤ q_sw (j : Int) by rw [h5, q_swn (by omega), q_swn (by omega)]; omega), if_pos ij]
        dsimp only [q_let]
        unfold p_Reckoner_putItems_128
        rw [Int.toNat_natCast, if_pos ij, if_neg (show ¬ q_sw (fc 9 j) = 0 by rw [q1]; decide), if_pos ij, if_pos (show q_sw (fc 9 j) = q_sw 1 by rw [q1]), c_raise (by omega) q3, Option.bind_some, if_pos ic]
        rfl
      · rw [p_Mod_putSection_152, if_pos ik, if_pos ik, Int.toNat_natCast, if_neg (show ¬ q_sw (fm 84 k + fm 85 k) ≤ q_sw (j : Int) by rw [h84, q_swn (by omega), q_swn (by omega)]; omega), if_pos ij]
        dsimp only [q_let]
        unfold p_Mod_putSection_254
        rw [Int.toNat_natCast, q2, if_neg (show ¬ 0 ≤ q_sw (-fc 10 j) by rw [q_swn (by omega)]; omega), Int.neg_neg, m_raise (by omega) q3, Option.bind_some]
        rfl
    · -- a symbol
      obtain ⟨w, hw⟩ : ∃ w : Nat, fc 10 j = w := ⟨(fc 10 j).toNat, by omega⟩
      have hI : fm 89 j = (w + 8 : Nat) := by omega
      refine go p (ma_up fc (36 + w) 4 p) (ma_up (ma_up fm 95 (w + 8) p) 91 (w + 8) 1) (by omega) (by omega) (fun a c hn => ma_up_ne2 (fun q => hn ⟨j, by omega, by omega, q.2, Or.inr ⟨q1, by rw [hw, Int.toNat_natCast]; exact q.1⟩⟩)) (fun a _ c2 c3 => (ma_up_ne c2).trans (ma_up_ne c3)) (fun v hv => ?_) (fun v hv => ?_) (fun e => by omega) ?_ ?_
      · unfold symB
        by_cases e : v = w
        · subst e
          refine Or.inr ⟨ma_up_self, ?_, ?_⟩
          · rw [ma_up_self, ma_up_ne (by omega), ma_up_self]
          · rw [ma_up_self]
            unfold ab
            omega
        · rw [ma_up_ne (by omega), ma_up_at (by omega), show ma_up fm 95 (w + 8) p 91 = fm 91 from ma_up_ne (by omega), show ma_up (ma_up fm 95 (w + 8) p) 91 (w + 8) 1 95 (v + 8) = fm 95 (v + 8) by rw [ma_up_ne (by omega), ma_up_at (by omega)]]
          exact hs v hv
      · unfold dIn
        rw [ma_up_ne (by omega), ma_up_ne (by omega), ma_up_ne (by omega)]
        exact hd v hv
      · rw [p_Reckoner_putItems_10, if_pos ic, if_neg (show ¬ q_sw (fc (28 + k) 5) ≤ q_sw (j : Int) by rw [h5, q_swn (by omega), q_swn (by omega)]; omega), if_pos ij]
        dsimp only [q_let]
        unfold p_Reckoner_putItems_128
        rw [Int.toNat_natCast, if_pos ij, if_neg (show ¬ q_sw (fc 9 j) = 0 by rw [q1]; decide), if_pos ij, if_neg (show ¬ q_sw (fc 9 j) = q_sw 1 by rw [q1]; decide), hw, if_pos (show 0 ≤ (w : Int) ∧ (w : Int) < 18 by omega), Int.toNat_natCast, if_pos ic]
        rfl
      · rw [p_Mod_putSection_152, if_pos ik, if_pos ik, Int.toNat_natCast, if_neg (show ¬ q_sw (fm 84 k + fm 85 k) ≤ q_sw (j : Int) by rw [h84, q_swn (by omega), q_swn (by omega)]; omega), if_pos ij]
        dsimp only [q_let]
        unfold p_Mod_putSection_254
        rw [Int.toNat_natCast, hI, if_pos (show 0 ≤ q_sw ((w + 8 : Nat) : Int) by rw [q_swn (by omega)]; omega), if_pos (show q_sw 8 ≤ q_sw ((w + 8 : Nat) : Int) by rw [q_swn (by omega), q_swn (by omega)]; omega), if_pos (show 0 ≤ ((w + 8 : Nat) : Int) ∧ ((w + 8 : Nat) : Int) < 26 by omega), if_pos (show 0 ≤ ((w + 8 : Nat) : Int) ∧ ((w + 8 : Nat) : Int) < 26 by omega), Int.toNat_natCast, q_nz1]
        rfl
end PI
