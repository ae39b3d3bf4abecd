/-! ===== load: every byte of a section ===== -/
section ME
variable {g : q_F} {k : Nat}
theorem c_store {f : q_F} {a : Nat} {v : Int} (ha : a < 512) : p_Memory_store a v f g = some (ma_up f 59 a v, g) := by
  unfold p_Memory_store p_Memory_store_18
  rw [if_neg (show ¬ q_sw (a : Int) < 0 by rw [q_swn (by omega)]; omega), if_neg (show ¬ q_sw 512 ≤ q_sw (a : Int) by rw [q_swn (by omega), q_swn (by omega)]; omega), if_pos (by omega), Int.toNat_natCast]
  rfl
theorem c_fill {a N : Nat} {v : Int} (h : a + N ≤ 512) : ∀ (m t n : Nat) (f : q_F), t + m = N → m < n → ∃ fd, p_Memory_fill_3 n a N v t f g = some (fd, g) ∧ (∀ b, b ≠ 59 → fd b = f b) ∧ ∀ j : Nat, fd 59 j = if a + t ≤ j ∧ j < a + N then v else f 59 j := by
  intro m
  induction m with
  | zero =>
    intro t n f ht hn
    obtain ⟨n, rfl⟩ : ∃ k, n = k + 1 := ⟨n - 1, by omega⟩
    refine ⟨f, ?_, fun _ _ => rfl, fun j => by rw [if_neg (by omega)]⟩
    rw [p_Memory_fill_3, if_pos (show q_sw (N : Int) ≤ q_sw (t : Int) by rw [q_swn (by omega), q_swn (by omega)]; omega)]
  | succ m ih =>
    intro t n f ht hn
    obtain ⟨n, rfl⟩ : ∃ k, n = k + 1 := ⟨n - 1, by omega⟩
    obtain ⟨fd, d1, d2, d3⟩ := ih (t + 1) n (ma_up f 59 (a + t) v) (by omega) (by omega)
    refine ⟨fd, ?_, fun b hb => by rw [d2 b hb, ma_up_ne hb], fun j => ?_⟩
    · rw [p_Memory_fill_3, if_neg (show ¬ q_sw (N : Int) ≤ q_sw (t : Int) by rw [q_swn (by omega), q_swn (by omega)]; omega), show (a : Int) + (t : Int) = ((a + t : Nat) : Int) by omega, c_store (by omega), Option.bind_some]
      dsimp only [q_let]
      rw [show ((t : Nat) : Int) + 1 = ((t + 1 : Nat) : Int) by omega]
      exact d1
    · rw [d3 j]
      by_cases e : j = a + t
      · subst e
        rw [if_neg (by omega), ma_up_self, if_pos (by omega)]
      · rw [ma_up_at e]
        by_cases c : a + (t + 1) ≤ j ∧ j < a + N
        · rw [if_pos c, if_pos (by omega)]
        · rw [if_neg c, if_neg (by omega)]
theorem c_fillA {f : q_F} {a N : Nat} {v : Int} (h : a + N ≤ 512) : ∃ fd, p_Memory_fill a N v f g = some (fd, g) ∧ (∀ b, b ≠ 59 → fd b = f b) ∧ ∀ j : Nat, fd 59 j = if a ≤ j ∧ j < a + N then v else f 59 j := by
  obtain ⟨fd, d1, d2, d3⟩ := c_fill (g := g) (v := v) h N 0 1000 f (by omega) (by omega)
  exact ⟨fd, d1, d2, fun j => by rw [d3 j, Nat.add_zero]⟩
theorem c_bring {a w N : Nat} {s : Int} (hw : w < 8) (h : a + N ≤ 512) (hN : N ≤ 40) (hs : 0 ≤ s ∧ s ≤ 255) : ∀ (m t n : Nat) (f : q_F), t + m = N → m < n → f (16 + w) 0 = (N : Nat) → f (16 + w) 2 = s → ∃ fd, p_Memory_bring_2 n (16 + w) a t f g = some (fd, g) ∧ (∀ b, b ≠ 59 → fd b = f b) ∧ ∀ j : Nat, fd 59 j = if a + t ≤ j ∧ j < a + N then (s + ((j : Int) - a)) % 256 else f 59 j := by
  intro m
  induction m with
  | zero =>
    intro t n f ht hn h0 h2
    obtain ⟨n, rfl⟩ : ∃ k, n = k + 1 := ⟨n - 1, by omega⟩
    refine ⟨f, ?_, fun _ _ => rfl, fun j => by rw [if_neg (by omega)]⟩
    rw [p_Memory_bring_2, if_pos (by omega), if_pos (show q_sw (f (16 + w) 0) ≤ q_sw (t : Int) by rw [h0, q_swn (by omega), q_swn (by omega)]; omega)]
  | succ m ih =>
    intro t n f ht hn h0 h2
    obtain ⟨n, rfl⟩ : ∃ k, n = k + 1 := ⟨n - 1, by omega⟩
    obtain ⟨fd, d1, d2, d3⟩ := ih (t + 1) n (ma_up f 59 (a + t) ((s + t) % 256)) (by omega) (by omega) (by rw [ma_up_ne (by omega)]; exact h0) (by rw [ma_up_ne (by omega)]; exact h2)
    refine ⟨fd, ?_, fun b hb => by rw [d2 b hb, ma_up_ne hb], fun j => ?_⟩
    · rw [p_Memory_bring_2, if_pos (by omega), if_neg (show ¬ q_sw (f (16 + w) 0) ≤ q_sw (t : Int) by rw [h0, q_swn (by omega), q_swn (by omega)]; omega), show (a : Int) + (t : Int) = ((a + t : Nat) : Int) by omega, c_store (by omega), Option.bind_some, h2, and255]
      dsimp only [q_let]
      rw [show ((t : Nat) : Int) + 1 = ((t + 1 : Nat) : Int) by omega]
      exact d1
    · rw [d3 j]
      by_cases e : j = a + t
      · subst e
        rw [if_neg (by omega), ma_up_self, if_pos (by omega), show s + (((a + t : Nat) : Int) - a) = s + t by omega]
      · rw [ma_up_at e]
        by_cases c : a + (t + 1) ≤ j ∧ j < a + N
        · rw [if_pos c, if_pos (by omega)]
        · rw [if_neg c, if_neg (by omega)]
/-- the byte at address a of a section: the last of its inputs that covers it -/
def bv (f : q_F) (a : Int) : Nat → Nat → Int → Int
  | 0, _, acc => acc
  | m + 1, j, acc => bv f a m (j + 1) (if f 9 j = 0 ∧ f (16 + (f 10 j).toNat) 4 ≤ a ∧ a < f (16 + (f 10 j).toNat) 4 + f (16 + (f 10 j).toNat) 0 then (f (16 + (f 10 j).toNat) 2 + (a - f (16 + (f 10 j).toNat) 4)) % 256 else acc)
theorem bv_b {f : q_F} {a : Int} : ∀ (m j : Nat) (acc : Int), (0 ≤ acc ∧ acc ≤ 255) → 0 ≤ bv f a m j acc ∧ bv f a m j acc ≤ 255 := by
  intro m
  induction m with
  | zero => intro j acc h; exact h
  | succ m ih =>
    intro j acc h
    simp only [bv]
    refine ih _ _ ?_
    split
    · omega
    · exact h
/-- the class brings the inputs of a section -/
theorem c_items {f0 : q_F} (hk : k < 8) (hI : gIn f0 f0) (hL : secL f0 f0 k) (h7 : f0 (28 + k) 7 = 1) : ∀ (m j n : Nat) (f : q_F), (j : Int) + m = f0 (28 + k) 5 → f0 (28 + k) 4 ≤ j → m < n → (∀ b, b ≠ 59 → f b = f0 b) → ∃ fd, p_Desk_bringIn_21 n (28 + k) j f g = some (fd, g) ∧ (∀ b, b ≠ 59 → fd b = f0 b) ∧ ∀ i : Nat, fd 59 i = if f0 (28 + k) 11 ≤ i ∧ (i : Int) < f0 (28 + k) 11 + f0 (28 + k) 10 then bv f0 ((i : Int) - f0 (28 + k) 11 + f0 (28 + k) 9) m j (f 59 i) else f 59 i := by
  intro m
  obtain ⟨⟨s9, s10, s11, s7, t7⟩, ⟨z1, z2, z3⟩, ⟨z4, z5⟩, ⟨i1, i2, i3, i4, i5⟩, it⟩ := hL
  have z6 := z4 h7
  induction m with
  | zero =>
    intro j n f hj h4 hn hr
    obtain ⟨n, rfl⟩ : ∃ k, n = k + 1 := ⟨n - 1, by omega⟩
    refine ⟨f, ?_, hr, fun i => by simp [bv]⟩
    rw [p_Desk_bringIn_21, if_pos (by omega), if_pos (show q_sw (f (28 + k) 5) ≤ q_sw (j : Int) by rw [hr (28 + k) (by omega), q_swn (by omega), q_swn (by omega)]; omega)]
  | succ m ih =>
    intro j n f hj h4 hn hr
    obtain ⟨n, rfl⟩ : ∃ k, n = k + 1 := ⟨n - 1, by omega⟩
    have ij : 0 ≤ (j : Int) ∧ (j : Int) < 160 := by omega
    obtain ⟨q1, q2⟩ := it j h4 (by omega)
    unfold itemok at q1
    have base : p_Desk_bringIn_21 (n + 1) (28 + k) j f g = if f0 9 j = 0 then ((p_Memory_bring (16 + (f0 10 j).toNat) (f0 (28 + k) 11 + f0 (16 + (f0 10 j).toNat) 4 - f0 (28 + k) 9) f g).bind fun x6 => p_Desk_bringIn_21 n (28 + k) (j + 1 : Nat) x6.1 x6.2) else p_Desk_bringIn_21 n (28 + k) (j + 1 : Nat) f g := by
      have e87 : ∀ f' g', p_Desk_bringIn_87 (p_Desk_bringIn_21 n) (28 + k) j f' g' = p_Desk_bringIn_21 n (28 + k) (j + 1 : Nat) f' g' := fun f' g' => by
        unfold p_Desk_bringIn_87
        rw [if_pos (by omega)]
        dsimp only [q_let]
        rw [show ((j : Nat) : Int) + 1 = ((j + 1 : Nat) : Int) by omega]
      rw [p_Desk_bringIn_21, if_pos (by omega), if_neg (show ¬ q_sw (f (28 + k) 5) ≤ q_sw (j : Int) by rw [hr (28 + k) (by omega), q_swn (by omega), q_swn (by omega)]; omega), if_pos ij, if_pos ij, Int.toNat_natCast, hr 9 (by omega), hr 10 (by omega), hr (28 + k) (by omega)]
      simp only [e87]
      by_cases c : f0 9 j = 0
      · rw [if_pos (sw0 c), if_pos (show 0 ≤ f0 10 j ∧ f0 10 j < 8 by omega), if_pos c, hr (16 + _) (by omega)]
      · rw [if_neg (show ¬ q_sw (f0 9 j) = 0 by rw [q_swn (by omega)]; exact c), if_neg c]
    rw [base]
    by_cases c : f0 9 j = 0
    · rw [if_pos c]
      have q3 := q2 c
      obtain ⟨w, hw⟩ : ∃ w : Nat, f0 10 j = w := ⟨(f0 10 j).toNat, by omega⟩
      rw [hw, Int.toNat_natCast] at q3 ⊢
      obtain ⟨-, g0, -, -, -, g2⟩ := hI w (by omega)
      obtain ⟨N, hN⟩ : ∃ N : Nat, f0 (16 + w) 0 = N := ⟨(f0 (16 + w) 0).toNat, by omega⟩
      obtain ⟨A, hA⟩ : ∃ A : Nat, f0 (28 + k) 11 + f0 (16 + w) 4 - f0 (28 + k) 9 = A := ⟨(f0 (28 + k) 11 + f0 (16 + w) 4 - f0 (28 + k) 9).toNat, by omega⟩
      obtain ⟨f1, d1, d2, d3⟩ := c_bring (g := g) (a := A) (w := w) (N := N) (s := f0 (16 + w) 2) (by omega) (by omega) (by omega) g2 N 0 1000 f (by omega) (by omega) (by rw [hr (16 + w) (by omega)]; exact hN) (by rw [hr (16 + w) (by omega)])
      obtain ⟨fd, e1, e2, e3⟩ := ih (j + 1) n f1 (by omega) (by omega) (by omega) (fun b hb => (d2 b hb).trans (hr b hb))
      have eB : p_Memory_bring (16 + w) (A : Int) f g = some (f1, g) := by
        unfold p_Memory_bring
        rw [if_pos (by omega)]
        exact d1
      refine ⟨fd, ?_, e2, fun i => ?_⟩
      · rw [hA, eB, Option.bind_some]
        exact e1
      · rw [e3 i]
        simp only [bv]
        rw [hw, Int.toNat_natCast, d3 i]
        by_cases cc : f0 (28 + k) 11 ≤ i ∧ (i : Int) < f0 (28 + k) 11 + f0 (28 + k) 10
        · rw [if_pos cc, if_pos cc]
          congr 1
          by_cases c2 : A + 0 ≤ i ∧ i < A + N
          · rw [if_pos c2, if_pos ⟨c, by omega, by omega⟩]
            congr 1
            omega
          · rw [if_neg c2, if_neg (fun q => c2 (by omega))]
        · rw [if_neg cc, if_neg cc, if_neg (by omega)]
    · rw [if_neg c]
      obtain ⟨fd, e1, e2, e3⟩ := ih (j + 1) n f (by omega) (by omega) (by omega) hr
      refine ⟨fd, e1, e2, fun i => ?_⟩
      rw [e3 i]
      simp only [bv]
      rw [if_neg (show ¬ (f0 9 j = 0 ∧ f0 (16 + (f0 10 j).toNat) 4 ≤ (i : Int) - f0 (28 + k) 11 + f0 (28 + k) 9 ∧ (i : Int) - f0 (28 + k) 11 + f0 (28 + k) 9 < f0 (16 + (f0 10 j).toNat) 4 + f0 (16 + (f0 10 j).toNat) 0) from fun q => c q.1)]
/-- what a section's place in memory holds when it is loaded -/
def secB (f0 : q_F) (k : Nat) (M : Nat → Int) (i : Nat) : Int := if f0 (28 + k) 11 ≤ i ∧ (i : Int) < f0 (28 + k) 11 + f0 (28 + k) 10 then bv f0 ((i : Int) - f0 (28 + k) 11 + f0 (28 + k) 9) (f0 (28 + k) 5 - f0 (28 + k) 4).toNat (f0 (28 + k) 4).toNat 0 else M i
theorem c_bringIn {f0 f : q_F} (hk : k < 8) (hI : gIn f0 f0) (hL : secL f0 f0 k) (h7 : f0 (28 + k) 7 = 1) (hr : ∀ b, b ≠ 59 → f b = f0 b) : ∃ fd, p_Desk_bringIn (28 + k) f g = some (fd, g) ∧ (∀ b, b ≠ 59 → fd b = f0 b) ∧ ∀ i : Nat, fd 59 i = secB f0 k (f 59) i := by
  have hL' := hL
  obtain ⟨⟨s9, s10, s11, s7, t7⟩, ⟨z1, z2, z3⟩, ⟨z4, z5⟩, ⟨i1, i2, i3, i4, i5⟩, it⟩ := hL'
  have z6 := z4 h7
  obtain ⟨A, hA⟩ : ∃ A : Nat, f0 (28 + k) 11 = A := ⟨(f0 (28 + k) 11).toNat, by omega⟩
  obtain ⟨N, hN⟩ : ∃ N : Nat, f0 (28 + k) 10 = N := ⟨(f0 (28 + k) 10).toNat, by omega⟩
  obtain ⟨J, hJ⟩ : ∃ J : Nat, f0 (28 + k) 4 = J := ⟨(f0 (28 + k) 4).toNat, by omega⟩
  obtain ⟨f1, d1, d2, d3⟩ := c_fillA (g := g) (f := f) (a := A) (N := N) (v := 0) (by omega)
  obtain ⟨fd, e1, e2, e3⟩ := c_items (g := g) hk hI hL h7 (f0 (28 + k) 5 - f0 (28 + k) 4).toNat J 1000 f1 (by omega) (by omega) (by omega) (fun b hb => (d2 b hb).trans (hr b hb))
  refine ⟨fd, ?_, e2, fun i => ?_⟩
  · unfold p_Desk_bringIn
    rw [if_pos (by omega), hr (28 + k) (by omega), hA, hN, d1, Option.bind_some]
    dsimp only [q_let]
    rw [d2 (28 + k) (by omega), hr (28 + k) (by omega), hJ]
    exact e1
  · rw [e3 i, d3 i]
    unfold secB
    rw [hJ, Int.toNat_natCast]
    by_cases c : f0 (28 + k) 11 ≤ i ∧ (i : Int) < f0 (28 + k) 11 + f0 (28 + k) 10
    · rw [if_pos c, if_pos c, if_pos (show A ≤ i ∧ i < A + N by omega)]
    · rw [if_neg c, if_neg c, if_neg (show ¬ (A ≤ i ∧ i < A + N) by omega)]
theorem irem256 {x : Int} (hx : 0 ≤ x ∧ x ≤ 1000000) : q_irem x 256 = x % 256 := by
  unfold q_irem
  have e1 : (Int32.ofInt x).toInt = x := Int32.toInt_ofInt_of_le (by omega) (by omega)
  have e2 : (Int32.ofInt 256).toInt = 256 := by decide
  have hb : ∀ y : Int, -2000000 ≤ y ∧ y ≤ 2000000 → y.bmod (2 ^ 32) = y := fun y hy => Int.bmod_eq_of_le (by omega) (by omega)
  have q : x.tdiv 256 = x / 256 := Int.tdiv_eq_ediv_of_nonneg hx.1
  rw [Int32.toInt_sub, Int32.toInt_mul, Int32.toInt_div, e1, e2, q, hb (x / 256) (by omega), hb (x / 256 * 256) (by omega), hb _ (by omega)]
  omega
/-- the reference's byte -/
theorem m_byte {f0 : q_F} {a : Int} (hk : k < 8) (hI : gIn f0 f0) (hL : secL f0 f0 k) (hp : ∀ w : Nat, w < 8 → f0 (16 + w) 4 = f0 64 w ∧ bnd (f0 (16 + w) 4)) (ha : 0 ≤ a ∧ a ≤ 1000) : ∀ (m j n : Nat) (acc : Int) (f : q_F), (j : Int) + m = f0 (28 + k) 5 → f0 (28 + k) 4 ≤ j → m < n → (∀ b, b ≠ 96 → 61 ≤ b → f b = f0 b) → p_Mod_byteOf_10 n k a acc j f g = some (bv f0 a m j acc, f, g) := by
  intro m
  obtain ⟨⟨s9, s10, s11, s7, t7⟩, ⟨z1, z2, z3⟩, ⟨z4, z5⟩, ⟨i1, i2, i3, i4, i5⟩, it⟩ := hL
  have ik : 0 ≤ (k : Int) ∧ (k : Int) < 8 := by omega
  induction m with
  | zero =>
    intro j n acc f hj h4 hn hr
    obtain ⟨n, rfl⟩ : ∃ k, n = k + 1 := ⟨n - 1, by omega⟩
    rw [p_Mod_byteOf_10, if_pos ik, if_pos ik, Int.toNat_natCast, if_pos (show q_sw (f 84 k + f 85 k) ≤ q_sw (j : Int) by rw [hr 84 (by omega) (by omega), hr 85 (by omega) (by omega), ← i2, q_swn (by omega), q_swn (by omega)]; omega)]
    rfl
  | succ m ih =>
    intro j n acc f hj h4 hn hr
    obtain ⟨n, rfl⟩ : ∃ k, n = k + 1 := ⟨n - 1, by omega⟩
    have ij : 0 ≤ (j : Int) ∧ (j : Int) < 160 := by omega
    obtain ⟨q1, q2⟩ := it j h4 (by omega)
    unfold itemok at q1
    have hz : isI (f0 89 j) := by
      unfold isI
      rcases q1 with q | q | q
      · omega
      · obtain ⟨-, q3, q4⟩ := q
        rcases q4 with e | e | e | e | e | e | e <;> omega
      · omega
    unfold isI at hz
    have e100 : ∀ s, p_Mod_byteOf_100 (p_Mod_byteOf_10 n) k a s j f g = some (bv f0 a m (j + 1) s, f, g) := fun s => by
      unfold p_Mod_byteOf_100
      dsimp only [q_let]
      rw [show ((j : Nat) : Int) + 1 = ((j + 1 : Nat) : Int) by omega]
      exact ih (j + 1) n s f (by omega) (by omega) (by omega) hr
    rw [p_Mod_byteOf_10, if_pos ik, if_pos ik, Int.toNat_natCast, if_neg (show ¬ q_sw (f 84 k + f 85 k) ≤ q_sw (j : Int) by rw [hr 84 (by omega) (by omega), hr 85 (by omega) (by omega), ← i2, q_swn (by omega), q_swn (by omega)]; omega), if_pos ij]
    dsimp only [q_let]
    rw [Int.toNat_natCast, hr 89 (by omega) (by omega), m_within hz (by omega) (by omega), Option.bind_some]
    simp only [bv]
    by_cases c : f0 9 j = 0
    · obtain ⟨w, hw⟩ : ∃ w : Nat, f0 10 j = w := ⟨(f0 10 j).toNat, by omega⟩
      have hI89 : f0 89 j = w := by omega
      obtain ⟨g1, g0, -, -, g3, g2⟩ := hI w (by omega)
      obtain ⟨p1, p2⟩ := hp w (by omega)
      unfold bnd at p2
      have iw : 0 ≤ (w : Int) ∧ (w : Int) < 8 := by omega
      rw [hI89, if_pos (show 0 ≤ (w : Int) ∧ (w : Int) ≤ 7 by omega), if_neg (sw1 rfl), if_pos iw, if_pos iw, if_pos iw, if_pos iw, if_pos iw]
      rw [Int.toNat_natCast, hr 64 (by omega) (by omega), hr 61 (by omega) (by omega), hr 63 (by omega) (by omega), hw, Int.toNat_natCast, ← p1, ← g1, ← g3, e100]
      by_cases c1 : a < f0 (16 + w) 4
      · rw [if_pos (show q_sw a < q_sw (f0 (16 + w) 4) by rw [q_swn (by omega), q_swn (by omega)]; exact c1), if_neg (fun q => by omega)]
      · rw [if_neg (show ¬ q_sw a < q_sw (f0 (16 + w) 4) by rw [q_swn (by omega), q_swn (by omega)]; exact c1)]
        by_cases c2 : f0 (16 + w) 4 + f0 (16 + w) 0 ≤ a
        · rw [if_pos (show q_sw (f0 (16 + w) 4 + f0 (16 + w) 0) ≤ q_sw a by rw [q_swn (by omega), q_swn (by omega)]; exact c2), if_neg (fun q => by omega)]
        · rw [if_neg (show ¬ q_sw (f0 (16 + w) 4 + f0 (16 + w) 0) ≤ q_sw a by rw [q_swn (by omega), q_swn (by omega)]; exact c2), if_pos ⟨c, by omega, by omega⟩, irem256 (by omega), e100, show f0 (16 + w) 2 + a - f0 (16 + w) 4 = f0 (16 + w) 2 + (a - f0 (16 + w) 4) by omega]
    · have hout : ¬ (0 ≤ f0 89 j ∧ f0 89 j ≤ 7) := by
        rcases q1 with q | q | q
        · omega
        · obtain ⟨-, q3, q4⟩ := q
          rcases q4 with e | e | e | e | e | e | e <;> omega
        · omega
      rw [if_neg hout, if_pos (sw0 rfl), if_neg (fun q => c q.1)]
      exact e100 acc
theorem m_sect {c50 : Int → q_F → q_F → Option (q_F × q_F)} {f0 : q_F} {i : Nat} (hk : k < 8) (hI : gIn f0 f0) (hL : secL f0 f0 k) (h7 : f0 (28 + k) 7 = 1) (hp : ∀ w : Nat, w < 8 → f0 (16 + w) 4 = f0 64 w ∧ bnd (f0 (16 + w) 4)) {N A : Nat} (hN : f0 (28 + k) 10 = N) (hA : f0 (28 + k) 11 = A) : ∀ (m t n : Nat) (f : q_F), t + m = N → m < n → (∀ b, b ≠ 96 → 61 ≤ b → f b = f0 b) → ∃ fd, p_Mod_load_67 c50 n i k t f g = c50 ((i : Int) + 1) fd g ∧ (∀ b, b ≠ 96 → fd b = f b) ∧ ∀ j : Nat, fd 96 j = if A + t ≤ j ∧ j < A + N then bv f0 ((j : Int) - A + f0 (28 + k) 9) (f0 (28 + k) 5 - f0 (28 + k) 4).toNat (f0 (28 + k) 4).toNat 0 else f 96 j := by
  intro m
  have hL' := hL
  obtain ⟨⟨s9, s10, s11, s7, t7⟩, ⟨z1, z2, z3⟩, ⟨z4, z5⟩, ⟨i1, i2, i3, i4, i5⟩, it⟩ := hL'
  have z6 := z4 h7
  have ik : 0 ≤ (k : Int) ∧ (k : Int) < 8 := by omega
  induction m with
  | zero =>
    intro t n f ht hn hr
    obtain ⟨n, rfl⟩ : ∃ k, n = k + 1 := ⟨n - 1, by omega⟩
    refine ⟨f, ?_, fun _ _ => rfl, fun j => by rw [if_neg (by omega)]⟩
    rw [p_Mod_load_67, if_pos ik, Int.toNat_natCast, if_pos (show q_sw (f 87 k) ≤ q_sw (t : Int) by rw [hr 87 (by omega) (by omega), ← s10, q_swn (by omega), q_swn (by omega)]; omega)]
    rfl
  | succ m ih =>
    intro t n f ht hn hr
    obtain ⟨n, rfl⟩ : ∃ k, n = k + 1 := ⟨n - 1, by omega⟩
    have eB : p_Mod_byteOf k (f0 (28 + k) 9 + (t : Int)) f g = some (bv f0 (f0 (28 + k) 9 + (t : Int)) (f0 (28 + k) 5 - f0 (28 + k) 4).toNat (f0 (28 + k) 4).toNat 0, f, g) := by
      unfold p_Mod_byteOf
      rw [if_pos ik, Int.toNat_natCast, hr 84 (by omega) (by omega), ← i1]
      dsimp only [q_let]
      obtain ⟨J, hJ⟩ : ∃ J : Nat, f0 (28 + k) 4 = J := ⟨(f0 (28 + k) 4).toNat, by omega⟩
      have := m_byte (g := g) (a := f0 (28 + k) 9 + (t : Int)) hk hI hL hp (by omega) (f0 (28 + k) 5 - f0 (28 + k) 4).toNat J 1000 0 f (by omega) (by omega) (by omega) hr
      rw [hJ, Int.toNat_natCast]
      rw [hJ] at this
      exact this
    obtain ⟨fd, d1, d2, d3⟩ := ih (t + 1) n (ma_up f 96 (A + t) (bv f0 (f0 (28 + k) 9 + (t : Int)) (f0 (28 + k) 5 - f0 (28 + k) 4).toNat (f0 (28 + k) 4).toNat 0)) (by omega) (by omega) (fun b hb hb2 => by rw [ma_up_ne hb]; exact hr b hb hb2)
    refine ⟨fd, ?_, fun b hb => by rw [d2 b hb, ma_up_ne hb], fun j => ?_⟩
    · rw [p_Mod_load_67, if_pos ik, Int.toNat_natCast, if_neg (show ¬ q_sw (f 87 k) ≤ q_sw (t : Int) by rw [hr 87 (by omega) (by omega), ← s10, q_swn (by omega), q_swn (by omega)]; omega), if_pos ik, hr 83 (by omega) (by omega), if_neg (sw1 (s7.symm.trans h7)), if_pos ik, if_pos ik, hr 86 (by omega) (by omega), hr 88 (by omega) (by omega), ← s9, ← s11, hA, eB, Option.bind_some, if_pos (show 0 ≤ (A : Int) + (t : Int) ∧ (A : Int) + (t : Int) < 512 by omega), show ((A : Int) + (t : Int)).toNat = A + t by omega]
      dsimp only [q_let]
      rw [show ((t : Nat) : Int) + 1 = ((t + 1 : Nat) : Int) by omega]
      exact d1
    · rw [d3 j]
      by_cases e : j = A + t
      · subst e
        rw [if_neg (by omega), ma_up_self, if_pos (by omega), show ((A + t : Nat) : Int) - A + f0 (28 + k) 9 = f0 (28 + k) 9 + (t : Int) by omega]
      · rw [ma_up_at e]
        by_cases c : A + (t + 1) ≤ j ∧ j < A + N
        · rw [if_pos c, if_pos (by omega)]
        · rw [if_neg c, if_neg (by omega)]
end ME
