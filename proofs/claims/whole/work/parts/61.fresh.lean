/-! ===== everything is forgotten before a script is read ===== -/
section FO
variable {g : q_F}
theorem fo_in : ∀ (m : Nat) (i n : Nat) (f : q_F), i + m = 8 → m < n → ∃ f', p_Plan_forget_2 n i f g = p_Plan_forget_25 1000 0 f' g ∧ (∀ a k, (a < 16 + i ∨ 24 ≤ a ∨ k ≤ 2) → f' a k = f a k) ∧ ∀ k, i ≤ k → k < 8 → f' (16 + k) 3 = 0 ∧ f' (16 + k) 4 = -1 := by
  intro m
  induction m with
  | zero =>
    intro i n f hi hn
    obtain ⟨n, rfl⟩ : ∃ k, n = k + 1 := ⟨n - 1, by omega⟩
    refine ⟨f, ?_, fun _ _ _ => rfl, fun k h1 h2 => by omega⟩
    rw [p_Plan_forget_2, q_swn (by omega), q_swn (by omega), if_pos (by omega)]
  | succ m ih =>
    intro i n f hi hn
    obtain ⟨n, rfl⟩ : ∃ k, n = k + 1 := ⟨n - 1, by omega⟩
    obtain ⟨f', e1, e2, e3⟩ := ih (i + 1) n (ma_up (ma_up f (16 + i) 3 0) (16 + i) 4 (-1)) (by omega) (by omega)
    refine ⟨f', ?_, fun a k h => ?_, fun k h1 h2 => ?_⟩
    · rw [p_Plan_forget_2, q_swn (by omega), q_swn (by omega), if_neg (by omega), if_pos (by omega), Int.toNat_natCast]
      unfold p_Input_forget
      rw [if_pos (by omega)]
      exact e1
    · rw [e2 a k (by omega), ma_up_ne2 (by omega), ma_up_ne2 (by omega)]
    · by_cases hq : k = i
      · subst hq
        rw [e2 _ _ (by omega), e2 _ _ (by omega), ma_up_self, ma_up_at (by omega), ma_up_self]
        exact ⟨rfl, rfl⟩
      · exact e3 k (by omega) h2
theorem fo_re : ∀ (m : Nat) (i n : Nat) (f : q_F), i + m = 4 → m < n → ∃ f', p_Plan_forget_25 n i f g = p_Plan_forget_48 1000 0 f' g ∧ (∀ a k, (a < 24 + i ∨ 28 ≤ a ∨ k ≠ 0) → f' a k = f a k) ∧ ∀ k, i ≤ k → k < 4 → f' (24 + k) 0 = 0 := by
  intro m
  induction m with
  | zero =>
    intro i n f hi hn
    obtain ⟨n, rfl⟩ : ∃ k, n = k + 1 := ⟨n - 1, by omega⟩
    refine ⟨f, ?_, fun _ _ _ => rfl, fun k h1 h2 => by omega⟩
    rw [p_Plan_forget_25, q_swn (by omega), q_swn (by omega), if_pos (by omega)]
  | succ m ih =>
    intro i n f hi hn
    obtain ⟨n, rfl⟩ : ∃ k, n = k + 1 := ⟨n - 1, by omega⟩
    obtain ⟨f', e1, e2, e3⟩ := ih (i + 1) n (ma_up f (24 + i) 0 0) (by omega) (by omega)
    refine ⟨f', ?_, fun a k h => ?_, fun k h1 h2 => ?_⟩
    · rw [p_Plan_forget_25, q_swn (by omega), q_swn (by omega), if_neg (by omega), if_pos (by omega), Int.toNat_natCast]
      exact e1
    · rw [e2 a k (by omega), ma_up_ne2 (by omega)]
    · by_cases hq : k = i
      · subst hq
        rw [e2 _ _ (by omega), ma_up_self]
      · exact e3 k (by omega) h2
def sFor (f : q_F) (a : Nat) : q_F := ma_up (ma_up (ma_up (ma_up (ma_up (ma_up (ma_up (ma_up f a 0 0) a 1 0) a 6 (-1)) a 7 1) a 8 (-1)) a 9 (-1000000000)) a 10 (-1000000000)) a 11 (-1000000000)
theorem fo_se : ∀ (m : Nat) (i n : Nat) (f : q_F), i + m = 8 → m < n → ∃ f', p_Plan_forget_48 n i f g = p_Plan_forget_71 1000 0 f' g ∧ (∀ a, (a < 28 + i ∨ 36 ≤ a) → f' a = f a) ∧ ∀ k, i ≤ k → k < 8 → f' (28 + k) 0 = 0 ∧ f' (28 + k) 1 = 0 ∧ f' (28 + k) 7 = 1 ∧ f' (28 + k) 8 = -1 ∧ f' (28 + k) 9 = NY ∧ f' (28 + k) 10 = NY ∧ f' (28 + k) 11 = NY := by
  intro m
  induction m with
  | zero =>
    intro i n f hi hn
    obtain ⟨n, rfl⟩ : ∃ k, n = k + 1 := ⟨n - 1, by omega⟩
    refine ⟨f, ?_, fun _ _ => rfl, fun k h1 h2 => by omega⟩
    rw [p_Plan_forget_48, q_swn (by omega), q_swn (by omega), if_pos (by omega)]
  | succ m ih =>
    intro i n f hi hn
    obtain ⟨n, rfl⟩ : ∃ k, n = k + 1 := ⟨n - 1, by omega⟩
    obtain ⟨f', e1, e2, e3⟩ := ih (i + 1) n (sFor f (28 + i)) (by omega) (by omega)
    refine ⟨f', ?_, fun a h => ?_, fun k h1 h2 => ?_⟩
    · rw [p_Plan_forget_48, q_swn (by omega), q_swn (by omega), if_neg (by omega), if_pos (by omega), Int.toNat_natCast]
      unfold p_Section_forget
      rw [if_pos (by omega)]
      exact e1
    · rw [e2 a (by omega)]
      unfold sFor
      rw [ma_up_ne (by omega), ma_up_ne (by omega), ma_up_ne (by omega), ma_up_ne (by omega), ma_up_ne (by omega), ma_up_ne (by omega), ma_up_ne (by omega), ma_up_ne (by omega)]
    · by_cases hq : k = i
      · subst hq
        rw [e2 _ (by omega)]
        simp [sFor, ma_up, NY]
      · exact e3 k (by omega) h2
def yFor (f : q_F) (a : Nat) : q_F := ma_up (ma_up (ma_up f a 0 0) a 1 0) a 4 (-1000000000)
theorem fo_sy : ∀ (m : Nat) (i n : Nat) (f : q_F), i + m = 18 → m < n → ∃ f', p_Plan_forget_71 n i f g = some (ma_up (ma_up (ma_up (ma_up f' 8 2 0) 11 2 0) 3 7 0) 3 9 0, g) ∧ (∀ a, (a < 36 + i ∨ 54 ≤ a) → f' a = f a) ∧ ∀ k, i ≤ k → k < 18 → f' (36 + k) 0 = 0 ∧ f' (36 + k) 1 = 0 ∧ f' (36 + k) 4 = NY := by
  intro m
  induction m with
  | zero =>
    intro i n f hi hn
    obtain ⟨n, rfl⟩ : ∃ k, n = k + 1 := ⟨n - 1, by omega⟩
    refine ⟨f, ?_, fun _ _ => rfl, fun k h1 h2 => by omega⟩
    rw [p_Plan_forget_71, q_swn (by omega), q_swn (by omega), if_pos (by omega)]
    rfl
  | succ m ih =>
    intro i n f hi hn
    obtain ⟨n, rfl⟩ : ∃ k, n = k + 1 := ⟨n - 1, by omega⟩
    obtain ⟨f', e1, e2, e3⟩ := ih (i + 1) n (yFor f (36 + i)) (by omega) (by omega)
    refine ⟨f', ?_, fun a h => ?_, fun k h1 h2 => ?_⟩
    · rw [p_Plan_forget_71, q_swn (by omega), q_swn (by omega), if_neg (by omega), if_pos (by omega), Int.toNat_natCast]
      unfold p_Symbol_forget
      rw [if_pos (by omega)]
      exact e1
    · rw [e2 a (by omega)]
      unfold yFor
      rw [ma_up_ne (by omega), ma_up_ne (by omega), ma_up_ne (by omega)]
    · by_cases hq : k = i
      · subst hq
        rw [e2 _ (by omega)]
        simp [yFor, ma_up, NY]
      · exact e3 k (by omega) h2
theorem c_forget (f : q_F) : ∃ f', p_Plan_forget f g = some (f', g) ∧ PC f f' ∧ (∀ k, k < 8 → f' (16 + k) 3 = 0 ∧ f' (16 + k) 4 = -1) ∧ (∀ k, k < 4 → f' (24 + k) 0 = 0) ∧ (∀ k, k < 8 → f' (28 + k) 0 = 0 ∧ f' (28 + k) 1 = 0 ∧ f' (28 + k) 7 = 1 ∧ f' (28 + k) 8 = -1 ∧ f' (28 + k) 9 = NY ∧ f' (28 + k) 10 = NY ∧ f' (28 + k) 11 = NY) ∧ (∀ k, k < 18 → f' (36 + k) 0 = 0 ∧ f' (36 + k) 1 = 0 ∧ f' (36 + k) 4 = NY) ∧ f' 8 2 = 0 ∧ f' 11 2 = 0 ∧ f' 3 7 = 0 ∧ f' 3 9 = 0 := by
  obtain ⟨f1, a1, a2, a3⟩ := fo_in (g := g) 8 0 1000 f (by omega) (by omega)
  obtain ⟨f2, b1, b2, b3⟩ := fo_re (g := g) 4 0 1000 f1 (by omega) (by omega)
  obtain ⟨f3, c1, c2, c3⟩ := fo_se (g := g) 8 0 1000 f2 (by omega) (by omega)
  obtain ⟨f4, d1, d2, d3⟩ := fo_sy (g := g) 18 0 1000 f3 (by omega) (by omega)
  have up : ∀ a k, a ≠ 8 → a ≠ 11 → a ≠ 3 → ma_up (ma_up (ma_up (ma_up f4 8 2 0) 11 2 0) 3 7 0) 3 9 0 a k = f4 a k := fun a k h1 h2 h3 => by rw [ma_up_ne h3, ma_up_ne h3, ma_up_ne h2, ma_up_ne h1]
  refine ⟨_, (a1.trans (b1.trans (c1.trans d1))), fun a k h => ?_, fun k hk => ?_, fun k hk => ?_, fun k hk => ?_, fun k hk => ?_, ?_, ?_, ?_, ?_⟩
  · rw [up a k (by omega) (by omega) (by omega), d2 a (by omega), c2 a (by omega), b2 a k (by omega), a2 a k (by omega)]
  · rw [up _ _ (by omega) (by omega) (by omega), up _ _ (by omega) (by omega) (by omega), d2 _ (by omega), c2 _ (by omega), b2 _ _ (by omega), b2 _ _ (by omega)]
    exact a3 k (by omega) hk
  · rw [up _ _ (by omega) (by omega) (by omega), d2 _ (by omega), c2 _ (by omega)]
    exact b3 k (by omega) hk
  · have e : ma_up (ma_up (ma_up (ma_up f4 8 2 0) 11 2 0) 3 7 0) 3 9 0 (28 + k) = f4 (28 + k) := by
      funext j
      exact up _ _ (by omega) (by omega) (by omega)
    rw [e, d2 _ (by omega)]
    exact c3 k (by omega) hk
  · have e : ma_up (ma_up (ma_up (ma_up f4 8 2 0) 11 2 0) 3 7 0) 3 9 0 (36 + k) = f4 (36 + k) := by
      funext j
      exact up _ _ (by omega) (by omega) (by omega)
    rw [e]
    exact d3 k (by omega) hk
  · simp [ma_up]
  · simp [ma_up]
  · simp [ma_up]
  · simp [ma_up]
theorem mo_re : ∀ (m : Nat) (i n : Nat) (f : q_F), i + m = 4 → m < n → ∃ f', p_Mod_read_2 n i f g = p_Mod_read_22 1000 0 f' g ∧ (∀ a, a ≠ 67 → f' a = f a) ∧ (∀ k, k < i → f' 67 k = f 67 k) ∧ ∀ k, i ≤ k → k < 4 → f' 67 k = 0 := by
  intro m
  induction m with
  | zero =>
    intro i n f hi hn
    obtain ⟨n, rfl⟩ : ∃ k, n = k + 1 := ⟨n - 1, by omega⟩
    refine ⟨f, ?_, fun _ _ => rfl, fun _ _ => rfl, fun k h1 h2 => by omega⟩
    rw [p_Mod_read_2, q_swn (by omega), q_swn (by omega), if_pos (by omega)]
  | succ m ih =>
    intro i n f hi hn
    obtain ⟨n, rfl⟩ : ∃ k, n = k + 1 := ⟨n - 1, by omega⟩
    obtain ⟨f', e1, e2, e3, e4⟩ := ih (i + 1) n (ma_up f 67 i 0) (by omega) (by omega)
    refine ⟨f', ?_, fun a h => ?_, fun k h => ?_, fun k h1 h2 => ?_⟩
    · rw [p_Mod_read_2, q_swn (by omega), q_swn (by omega), if_neg (by omega), if_pos (by omega), Int.toNat_natCast, q_nz0]
      exact e1
    · rw [e2 a h, ma_up_ne h]
    · rw [e3 k (by omega), ma_up_at (by omega)]
    · by_cases hq : k = i
      · subst hq
        rw [e3 _ (by omega), ma_up_self]
      · exact e4 k (by omega) h2
def nFor (f : q_F) (i : Nat) : q_F := ma_up (ma_up (ma_up (ma_up f 76 i 0) 77 i 0) 65 i 0) 64 i (-1)
theorem mo_se : ∀ (m : Nat) (i n : Nat) (f : q_F), i + m = 8 → m < n → ∃ f', p_Mod_read_22 n i f g = p_Mod_read_64 1000 0 f' g ∧ (∀ a, a ≠ 76 → a ≠ 77 → a ≠ 65 → a ≠ 64 → f' a = f a) ∧ (∀ a k, k < i → f' a k = f a k) ∧ ∀ k, i ≤ k → k < 8 → f' 76 k = 0 ∧ f' 77 k = 0 ∧ f' 65 k = 0 ∧ f' 64 k = -1 := by
  intro m
  induction m with
  | zero =>
    intro i n f hi hn
    obtain ⟨n, rfl⟩ : ∃ k, n = k + 1 := ⟨n - 1, by omega⟩
    refine ⟨f, ?_, fun _ _ _ _ _ => rfl, fun _ _ _ => rfl, fun k h1 h2 => by omega⟩
    rw [p_Mod_read_22, q_swn (by omega), q_swn (by omega), if_pos (by omega)]
  | succ m ih =>
    intro i n f hi hn
    obtain ⟨n, rfl⟩ : ∃ k, n = k + 1 := ⟨n - 1, by omega⟩
    obtain ⟨f', e1, e2, e3, e4⟩ := ih (i + 1) n (nFor f i) (by omega) (by omega)
    refine ⟨f', ?_, fun a h1 h2 h3 h4 => ?_, fun a k h => ?_, fun k h1 h2 => ?_⟩
    · rw [p_Mod_read_22, q_swn (by omega), q_swn (by omega), if_neg (by omega), if_pos (by omega), Int.toNat_natCast, q_nz0]
      simp only [q_let]
      rw [if_pos (by omega), if_pos (by omega), if_pos (by omega)]
      exact e1
    · rw [e2 a h1 h2 h3 h4]
      unfold nFor
      rw [ma_up_ne h4, ma_up_ne h3, ma_up_ne h2, ma_up_ne h1]
    · rw [e3 a k (by omega)]
      unfold nFor
      rw [ma_up_ne2 (by omega), ma_up_ne2 (by omega), ma_up_ne2 (by omega), ma_up_ne2 (by omega)]
    · by_cases hq : k = i
      · subst hq
        rw [e3 _ _ (by omega), e3 _ _ (by omega), e3 _ _ (by omega), e3 _ _ (by omega)]
        simp [nFor, ma_up]
      · exact e4 k (by omega) h2
def mZero (f : q_F) : q_F := ma_up (ma_up (ma_up (ma_up (ma_up f 60 22 0) 60 14 0) 60 37 0) 60 8 0) 60 9 0
theorem mo_sy : ∀ (m : Nat) (i n : Nat) (f : q_F), i + m = 26 → m < n → ∃ f', p_Mod_read_64 n i f g = p_Mod_read_115 1000 (mZero f') g ∧ (∀ a, a ≠ 90 → a ≠ 91 → f' a = f a) ∧ (∀ a k, k < i → f' a k = f a k) ∧ ∀ k, i ≤ k → k < 26 → f' 90 k = 0 ∧ f' 91 k = 0 := by
  intro m
  induction m with
  | zero =>
    intro i n f hi hn
    obtain ⟨n, rfl⟩ : ∃ k, n = k + 1 := ⟨n - 1, by omega⟩
    refine ⟨f, ?_, fun _ _ _ => rfl, fun _ _ _ => rfl, fun k h1 h2 => by omega⟩
    rw [p_Mod_read_64, q_swn (by omega), q_swn (by omega), if_pos (by omega)]
    rfl
  | succ m ih =>
    intro i n f hi hn
    obtain ⟨n, rfl⟩ : ∃ k, n = k + 1 := ⟨n - 1, by omega⟩
    obtain ⟨f', e1, e2, e3, e4⟩ := ih (i + 1) n (ma_up (ma_up f 90 i 0) 91 i 0) (by omega) (by omega)
    refine ⟨f', ?_, fun a h1 h2 => ?_, fun a k h => ?_, fun k h1 h2 => ?_⟩
    · rw [p_Mod_read_64, q_swn (by omega), q_swn (by omega), if_neg (by omega), if_pos (by omega), Int.toNat_natCast, q_nz0]
      simp only [q_let]
      rw [if_pos (by omega)]
      exact e1
    · rw [e2 a h1 h2, ma_up_ne h2, ma_up_ne h1]
    · rw [e3 a k (by omega), ma_up_ne2 (by omega), ma_up_ne2 (by omega)]
    · by_cases hq : k = i
      · subst hq
        rw [e3 _ _ (by omega), e3 _ _ (by omega)]
        simp [ma_up]
      · exact e4 k (by omega) h2
theorem m_forget (f : q_F) : ∃ f', p_Mod_read f g = p_Mod_read_115 1000 f' g ∧ PM f f' ∧ (∀ k, k < 4 → f' 67 k = 0) ∧ (∀ k, k < 8 → f' 76 k = 0 ∧ f' 77 k = 0 ∧ f' 65 k = 0 ∧ f' 64 k = -1) ∧ (∀ k, k < 26 → f' 90 k = 0 ∧ f' 91 k = 0) ∧ f' 60 22 = 0 ∧ f' 60 14 = 0 ∧ f' 60 37 = 0 ∧ f' 60 8 = 0 ∧ f' 60 9 = 0 := by
  obtain ⟨f1, a1, a2, -, a3⟩ := mo_re (g := g) 4 0 1000 f (by omega) (by omega)
  obtain ⟨f2, b1, b2, -, b3⟩ := mo_se (g := g) 8 0 1000 f1 (by omega) (by omega)
  obtain ⟨f3, c1, c2, -, c3⟩ := mo_sy (g := g) 26 0 1000 f2 (by omega) (by omega)
  have up : ∀ a, a ≠ 60 → mZero f3 a = f3 a := fun a h => by unfold mZero; rw [ma_up_ne h, ma_up_ne h, ma_up_ne h, ma_up_ne h, ma_up_ne h]
  refine ⟨mZero f3, (a1.trans (b1.trans c1)), fun a k h => ?_, fun k hk => ?_, fun k hk => ?_, fun k hk => ?_, ?_, ?_, ?_, ?_, ?_⟩
  · by_cases h60 : a = 60
    · subst h60
      have e : mZero f3 60 k = f3 60 k := by
        unfold mZero
        rw [ma_up_at (by omega), ma_up_at (by omega), ma_up_at (by omega), ma_up_at (by omega), ma_up_at (by omega)]
      rw [e, c2 60 (by omega) (by omega), b2 60 (by omega) (by omega) (by omega) (by omega), a2 60 (by omega)]
    · rw [up a h60, c2 a (by omega) (by omega), b2 a (by omega) (by omega) (by omega) (by omega), a2 a (by omega)]
  · rw [up 67 (by omega), c2 67 (by omega) (by omega), b2 67 (by omega) (by omega) (by omega) (by omega)]
    exact a3 k (by omega) hk
  · rw [up 76 (by omega), up 77 (by omega), up 65 (by omega), up 64 (by omega), c2 76 (by omega) (by omega), c2 77 (by omega) (by omega), c2 65 (by omega) (by omega), c2 64 (by omega) (by omega)]
    exact b3 k (by omega) hk
  · rw [up 90 (by omega), up 91 (by omega)]
    exact c3 k (by omega) hk
  · simp [mZero, ma_up]
  · simp [mZero, ma_up]
  · simp [mZero, ma_up]
  · simp [mZero, ma_up]
  · simp [mZero, ma_up]
/-- the script is read alike -/
theorem read_pair {fc fm : q_F} (ht : gText (fc 2) (fc 1 1) (fm 66) (fm 60 6)) : ∃ b fd fn, p_Reader_readScript fc g = some (b, fd, g) ∧ p_Mod_read fm g = some (fn, g) ∧ PC fc fd ∧ PM fm fn ∧ fn 60 10 = b ∧ ((b = -1 ∧ fn 60 9 = 0 ∧ RR 8 18 fd fn) ∨ (0 ≤ b ∧ b ≤ 160 ∧ fn 60 9 = 1)) := by
  obtain ⟨c1, a1, a2, a3, a4, a5, a6, a7, a8, a9, a10⟩ := c_forget (g := g) fc
  obtain ⟨m1, b1, b2, b3, b4, b5, b6, b7, b8, b9, b10⟩ := m_forget (g := g) fm
  have e1 : ∀ a, a ≠ 54 → ma_up c1 54 2 0 a = c1 a := fun a h => ma_up_ne h
  have p1 : PC fc (ma_up c1 54 2 0) := a2.up (by omega)
  have e54 : ma_up c1 54 2 0 54 2 = 0 := ma_up_self
  have h0 : RR 8 18 (ma_up c1 54 2 0) m1 := by
    have tx : gText (ma_up c1 54 2 0 2) (ma_up c1 54 2 0 1 1) (m1 66) (m1 60 6) := by
      rw [show ma_up c1 54 2 0 2 = fc 2 from funext fun k => p1 2 k (by omega), p1 1 1 (by omega), b2.text, b2 60 6 (by omega)]
      exact ht
    refine ⟨⟨tx, ⟨?_, ?_, ?_, b10⟩, ⟨?_, ?_, fun j hj => ?_⟩, ?_⟩, fun r hr => Or.inl ⟨?_, b3 r hr⟩, fun k hk => ?_, ⟨?_, ?_, ?_, fun j hj => ?_, fun i j _ hj => ?_⟩, ⟨?_, ?_, fun k hk => ?_, fun i hi => ?_⟩, ⟨fun k hk _ ht => ?_, fun k l hk hl _ _ _ t1 t2 => ?_⟩, fun v hv => ?_⟩
    · rw [e54, b9]
    · rw [e54]
      omega
    · rw [e54]
      exact tx.1.1
    · rw [e1 11 (by omega), a8, b7]
    · rw [e1 11 (by omega), a8]
      omega
    · rw [e1 11 (by omega), a8] at hj
      omega
    · rw [e1 11 (by omega), a8, e54]
      omega
    · rw [e1 _ (by omega)]
      exact a4 r hr
    · rw [e1 _ (by omega), (a3 k hk).1, (a3 k hk).2, (b4 k hk).2.2.1, (b4 k hk).2.2.2]
      exact ⟨rfl, Or.inl rfl, rfl, rfl⟩
    · rw [e1 8 (by omega), a7, b8]
    · rw [e1 8 (by omega), a7]
      omega
    · rw [e1 8 (by omega), a7, e54]
      omega
    · rw [e1 8 (by omega), a7] at hj
      omega
    · rw [e1 8 (by omega), a7] at hj
      omega
    · rw [e1 3 (by omega), a9, b6]
    · rw [e1 3 (by omega), a9, e1 28 (by omega), e1 29 (by omega), e1 30 (by omega), e1 31 (by omega), e1 32 (by omega), e1 33 (by omega), e1 34 (by omega), e1 35 (by omega), (a5 0 (by omega)).1, (a5 1 (by omega)).1, (a5 2 (by omega)).1, (a5 3 (by omega)).1, (a5 4 (by omega)).1, (a5 5 (by omega)).1, (a5 6 (by omega)).1, (a5 7 (by omega)).1]
      rfl
    · obtain ⟨s0, s1, s7, s8, s9, s10, s11⟩ := a5 k hk
      rw [e1 (28 + k) (by omega), s0, (b4 k hk).1, s1, s7, s8, s9, s10, s11, (b4 k hk).2.1]
      exact ⟨rfl, Or.inl rfl, ⟨rfl, rfl, rfl, rfl⟩, fun e => absurd e (by decide), fun _ => ⟨rfl, rfl, rfl⟩⟩
    · rw [e1 3 (by omega), a9] at hi
      omega
    · rw [e1 _ (by omega), (a5 k hk).1] at ht
      omega
    · rw [e1 _ (by omega), (a5 k hk).1] at t1
      omega
    · obtain ⟨s0, s1, s4⟩ := a6 v hv
      rw [e1 _ (by omega), s0, s1, s4, (b5 (v + 8) (by omega)).1, (b5 (v + 8) (by omega)).2]
      exact ⟨rfl, Or.inl rfl, ⟨rfl, rfl⟩, fun _ => rfl, fun _ e => absurd e (by decide)⟩
  have n1 := h0.1.c.1.2.1
  obtain ⟨b, fd, fn, u1, u2, u3, u4, u5⟩ := script_loop (g := g) 500 1000 1000 0 _ _ h0 (by omega) (by omega) (by omega) (by omega) (by omega)
  refine ⟨b, fd, fn, ?_, b1.trans u2, p1.tr u3, b2.tr u4, u5⟩
  unfold p_Reader_readScript
  rw [a1, Option.bind_some]
  exact u1
end FO
