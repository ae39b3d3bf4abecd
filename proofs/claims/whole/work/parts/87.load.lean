/-! ===== load and start of both ===== -/
section LS
variable {f0 g g' : q_F} {k : Nat}
def MEQ (fc fm : q_F) : Prop := ∀ j : Nat, j < 512 → fc 59 j = fm 96 j ∧ 0 ≤ fc 59 j ∧ fc 59 j ≤ 255
/-- class and reference over one layout -/
def CR0 (f0 fc : q_F) : Prop := ∀ b, b ≠ 59 → fc b = f0 b
def MR0 (f0 fm : q_F) : Prop := (∀ b, b ≠ 96 → 61 ≤ b → fm b = f0 b) ∧ ∀ c, c ≠ 0 → fm 60 c = f0 60 c
theorem load_loop (hI : gIn f0 f0) (h : LD f0 f0) : ∀ (m i n1 n2 : Nat) (fc fm : q_F), (i : Int) + m = f0 3 7 → m < n1 → m < n2 → CR0 f0 fc → MR0 f0 fm → MEQ fc fm → ∃ fd fn, p_Desk_load_20 n1 i fc g = some (fd, g) ∧ p_Mod_load_50 n2 i fm g' = some (fn, g') ∧ CR0 f0 fd ∧ MR0 f0 fn ∧ (∀ b, b ≠ 96 → fn b = fm b) ∧ MEQ fd fn := by
  intro m
  have o8 := h.1.2.2
  have oe := h.1.1
  induction m with
  | zero =>
    intro i n1 n2 fc fm hi h1 h2 hc hm hq
    obtain ⟨n1, rfl⟩ : ∃ k, n1 = k + 1 := ⟨n1 - 1, by omega⟩
    obtain ⟨n2, rfl⟩ : ∃ k, n2 = k + 1 := ⟨n2 - 1, by omega⟩
    refine ⟨fc, fm, ?_, ?_, hc, hm, fun _ _ => rfl, hq⟩
    · rw [p_Desk_load_20, if_pos (show q_sw (fc 3 7) ≤ q_sw (i : Int) by rw [hc 3 (by omega), q_swn (by omega), q_swn (by omega)]; omega)]
    · rw [p_Mod_load_50, if_pos (show q_sw (fm 60 22) ≤ q_sw (i : Int) by rw [hm.2 22 (by omega), ← oe, q_swn (by omega), q_swn (by omega)]; omega)]
  | succ m ih =>
    intro i n1 n2 fc fm hi h1 h2 hc hm hq
    obtain ⟨n1, rfl⟩ : ∃ k, n1 = k + 1 := ⟨n1 - 1, by omega⟩
    obtain ⟨n2, rfl⟩ : ∃ k, n2 = k + 1 := ⟨n2 - 1, by omega⟩
    obtain ⟨k1, k2, k3, k4, k5⟩ := h.at (i := i) (by omega)
    generalize ho : ord f0 i = k at *
    have ik : 0 ≤ (k : Int) ∧ (k : Int) < 8 := by omega
    have c14 : fc 14 i = (k : Nat) := by rw [hc 14 (by omega)]; exact k2
    have m75 : fm 75 i = (k : Nat) := by rw [hm.1 75 (by omega) (by omega)]; exact k3
    have e52 : ∀ f', p_Desk_load_52 (p_Desk_load_20 n1) i f' g = p_Desk_load_20 n1 (i + 1 : Nat) f' g := fun f' => by
      unfold p_Desk_load_52
      dsimp only [q_let]
      rw [show ((i : Nat) : Int) + 1 = ((i + 1 : Nat) : Int) by omega]
    have baseC : p_Desk_load_20 (n1 + 1) i fc g = if f0 (28 + k) 7 = 0 then p_Desk_load_20 n1 (i + 1 : Nat) fc g else ((p_Desk_bringIn (28 + k) fc g).bind fun x6 => p_Desk_load_52 (p_Desk_load_20 n1) i x6.1 x6.2) := by
      rw [p_Desk_load_20, if_neg (show ¬ q_sw (fc 3 7) ≤ q_sw (i : Int) by rw [hc 3 (by omega), q_swn (by omega), q_swn (by omega)]; omega), c_sectionAt (by omega) (by omega), Option.bind_some]
      dsimp only
      rw [c14, Int.toNat_natCast, if_pos (show 28 ≤ 28 + k ∧ 28 + k < 36 by omega), e52]
      have c7 : fc (28 + k) 7 = f0 (28 + k) 7 := by rw [hc (28 + k) (by omega)]
      rcases k5.1.2.2.2.2 with q | q
      · rw [if_pos (sw0 (c7.trans q)), if_pos q]
      · rw [if_neg (sw1 (c7.trans q)), if_neg (by omega)]
    have baseM : p_Mod_load_50 (n2 + 1) i fm g' = p_Mod_load_67 (p_Mod_load_50 n2) 1000 i k 0 fm g' := by
      rw [p_Mod_load_50, if_neg (show ¬ q_sw (fm 60 22) ≤ q_sw (i : Int) by rw [hm.2 22 (by omega), ← oe, q_swn (by omega), q_swn (by omega)]; omega), if_pos (show 0 ≤ (i : Int) ∧ (i : Int) < 8 by omega)]
      dsimp only [q_let]
      rw [Int.toNat_natCast, m75]
    rw [baseC, baseM]
    obtain ⟨s9, s10, s11, s7, t7⟩ := k5.1
    rcases t7 with q | q
    · rw [if_pos q]
      have skip : p_Mod_load_67 (p_Mod_load_50 n2) 1000 i k 0 fm g' = p_Mod_load_50 n2 (i + 1 : Nat) fm g' := by
        rw [p_Mod_load_67, if_pos ik, if_pos ik, Int.toNat_natCast, hm.1 83 (by omega) (by omega), if_pos (sw0 (s7.symm.trans q)), ite_self]
        unfold p_Mod_load_118
        dsimp only [q_let]
        rw [show ((i : Nat) : Int) + 1 = ((i + 1 : Nat) : Int) by omega]
      rw [skip]
      exact ih (i + 1) n1 n2 fc fm (by omega) (by omega) (by omega) hc hm hq
    · rw [if_neg (by omega)]
      have hz := k5.2.2.1.1 q
      have hz2 := k5.2.1
      obtain ⟨N, hN⟩ : ∃ N : Nat, f0 (28 + k) 10 = N := ⟨(f0 (28 + k) 10).toNat, by omega⟩
      obtain ⟨A, hA⟩ : ∃ A : Nat, f0 (28 + k) 11 = A := ⟨(f0 (28 + k) 11).toNat, by omega⟩
      obtain ⟨f1, a1, a2, a3⟩ := c_bringIn (g := g) k1 hI k5 q hc
      obtain ⟨n1', b1, b2, b3⟩ := m_sect (g := g') (c50 := p_Mod_load_50 n2) (i := i) k1 hI k5 q h.2.2.2.2.1 hN hA N 0 1000 fm (by omega) (by omega) hm.1
      have hm' : MR0 f0 n1' := ⟨fun b hb hb2 => by rw [b2 b hb]; exact hm.1 b hb hb2, fun c hc => by rw [b2 60 (by omega)]; exact hm.2 c hc⟩
      have hq' : MEQ f1 n1' := fun j hj => by
        obtain ⟨w1, w2, w3⟩ := hq j hj
        rw [a3 j, b3 j]
        unfold secB
        rw [hA, hN]
        by_cases c : (A : Int) ≤ j ∧ (j : Int) < A + N
        · rw [if_pos c, if_pos (by omega)]
          exact ⟨rfl, bv_b _ _ _ (by omega)⟩
        · rw [if_neg c, if_neg (by omega)]
          exact ⟨w1, w2, w3⟩
      obtain ⟨fd, fn, d1, d2, d3, d4, d5, d6⟩ := ih (i + 1) n1 n2 f1 n1' (by omega) (by omega) (by omega) (fun b hb => a2 b hb) hm' hq'
      refine ⟨fd, fn, ?_, ?_, d3, d4, fun b hb => (d5 b hb).trans (b2 b hb), d6⟩
      · rw [a1, Option.bind_some, e52]
        exact d1
      · have b1' : p_Mod_load_67 (p_Mod_load_50 n2) 1000 i k 0 fm g' = p_Mod_load_50 n2 ((i : Int) + 1) n1' g' := b1
        rw [b1', show ((i : Nat) : Int) + 1 = ((i + 1 : Nat) : Int) by omega]
        exact d2
theorem m_fill : ∀ (m t n : Nat) (f : q_F), t + m = 512 → m < n → ∃ fd, p_Mod_load_26 n t f g = p_Mod_load_50 1000 0 fd g ∧ (∀ b, b ≠ 96 → fd b = f b) ∧ ∀ j : Nat, fd 96 j = if t ≤ j ∧ j < 512 then 170 else f 96 j := by
  intro m
  induction m with
  | zero =>
    intro t n f ht hn
    obtain ⟨n, rfl⟩ : ∃ k, n = k + 1 := ⟨n - 1, by omega⟩
    refine ⟨f, ?_, fun _ _ => rfl, fun j => by rw [if_neg (by omega)]⟩
    rw [p_Mod_load_26, if_pos (show q_sw 512 ≤ q_sw (t : Int) by rw [q_swn (by omega), q_swn (by omega)]; omega)]
  | succ m ih =>
    intro t n f ht hn
    obtain ⟨n, rfl⟩ : ∃ k, n = k + 1 := ⟨n - 1, by omega⟩
    obtain ⟨fd, d1, d2, d3⟩ := ih (t + 1) n (ma_up f 96 t 170) (by omega) (by omega)
    refine ⟨fd, ?_, fun b hb => by rw [d2 b hb, ma_up_ne hb], fun j => ?_⟩
    · rw [p_Mod_load_26, if_neg (show ¬ q_sw 512 ≤ q_sw (t : Int) by rw [q_swn (by omega), q_swn (by omega)]; omega), if_pos (by omega), Int.toNat_natCast]
      dsimp only [q_let]
      rw [show ((t : Nat) : Int) + 1 = ((t + 1 : Nat) : Int) by omega]
      exact d1
    · rw [d3 j]
      by_cases e : j = t
      · subst e
        rw [if_neg (by omega), ma_up_self, if_pos (by omega)]
      · rw [ma_up_at e]
        by_cases c : t + 1 ≤ j ∧ j < 512
        · rw [if_pos c, if_pos (by omega)]
        · rw [if_neg c, if_neg (by omega)]
/-- a state that differs in memory and in the reference's thrown alone -/
theorem II.mem {f f2 : q_F} {c : Int} (h : II f) (hr : ∀ a, a ≠ 59 → a ≠ 96 → a ≠ 60 → f2 a = f a) (h60 : ∀ k, k ≠ 0 → f2 60 k = f 60 k) (hq : MEQ f2 f2) : II f2 := by
  obtain ⟨h1, h2, h3, h4, h5, h6⟩ := h
  refine ⟨?_, fun k hk => ?_, ?_, ?_, hq, fun e => ?_⟩
  · rw [hr 2 (by omega) (by omega) (by omega), hr 1 (by omega) (by omega) (by omega), hr 66 (by omega) (by omega) (by omega), h60 6 (by omega)]
    exact h1
  · rw [hr (16 + k) (by omega) (by omega) (by omega), hr 61 (by omega) (by omega) (by omega), hr 62 (by omega) (by omega) (by omega), hr 63 (by omega) (by omega) (by omega)]
    exact h2 k hk
  · rw [hr 0 (by omega) (by omega) (by omega), h60 45 (by omega)]
    exact h3
  · rw [hr 0 (by omega) (by omega) (by omega), h60 10 (by omega)]
    exact h4
  · rw [hr 0 (by omega) (by omega) (by omega)] at e
    exact (h6 e).ext (fun a _ h59 _ => hr a h59 (by omega) (by omega)) (fun a _ h96 => hr a (by omega) h96 (by omega)) (h60 22 (by omega))
theorem m_load13 {f g : q_F} {s : Int} : p_Mod_load_13 s f g = if q_sw (ma_up f 60 0 s 60 0) ≤ 0 then p_Mod_load_26 1000 0 (ma_up f 60 0 s) g else some (ma_up f 60 0 s, g) := by
  unfold p_Mod_load_13
  generalize p_Mod_load_26 1000 = F
  rfl
theorem m_load1 {f g : q_F} (h : f 60 45 = 1) : p_Mod_load f g = p_Mod_load_26 1000 0 (ma_up f 60 0 0) g := by
  unfold p_Mod_load
  rw [if_neg (sw1 h), m_load13]
  generalize p_Mod_load_26 1000 = F
  rw [if_pos (show q_sw (ma_up f 60 0 0 60 0) ≤ 0 by rw [ma_up_self]; decide)]
theorem m_load0 {f g : q_F} (h : f 60 45 = 0) : p_Mod_load f g = some (ma_up f 60 0 1, g) := by
  unfold p_Mod_load
  rw [if_pos (sw0 h), m_load13]
  generalize p_Mod_load_26 1000 = F
  rw [if_neg (show ¬ q_sw (ma_up f 60 0 1 60 0) ≤ 0 by rw [ma_up_self]; decide)]
theorem call_load {f : q_F} (h : II f) : ∃ c f1 f2, p_Law_load f g = some (c, f1, g) ∧ (0 ≤ c ∧ c ≤ 3) ∧ p_Mod_load f1 g = some (f2, g) ∧ f2 60 0 = c ∧ II f2 := by
  obtain ⟨-, l2', ⟨l1, l2⟩, -, l5, l6⟩ := id h
  rcases l2 with l2 | l2
  · obtain ⟨n1, n2⟩ := need0 (g := g) l2
    refine ⟨1, f, ma_up f 60 0 1, ?_, by omega, ?_, ma_up_self, h.thr⟩
    · have pD : p_Desk_load f g = none := by
        unfold p_Desk_load
        rw [n1]
        rfl
      have xD : x_Desk_load f g = some (1, f, g) := by
        unfold x_Desk_load
        rw [n1, q_or_n, n2]
      unfold p_Law_load
      rw [pD, q_or_n, xD]
      rfl
    · exact m_load0 (l1.symm.trans l2)
  · have hL := l6 l2
    have o8 := hL.1.2.2
    have o0 := hL.1.2.1
    obtain ⟨f1, a1, a2, a3⟩ := c_fillA (g := g) (f := f) (a := 0) (N := 512) (v := 170) (by omega)
    rw [show ((0 : Nat) : Int) = 0 from rfl, show ((512 : Nat) : Int) = 512 from rfl] at a1
    -- the class's run, beside any reference's store
    have cls : ∀ fm, MR0 f fm → MEQ f1 fm → ∃ fd fn, p_Desk_load_20 1000 0 f1 g = some (fd, g) ∧ p_Mod_load_50 1000 0 fm g = some (fn, g) ∧ CR0 f fd ∧ MR0 f fn ∧ (∀ b, b ≠ 96 → fn b = fm b) ∧ MEQ fd fn := fun fm hm hq => load_loop (g := g) (g' := g) l2' hL (f 3 7).toNat 0 1000 1000 f1 fm (by omega) (by omega) (by omega) a2 hm hq
    obtain ⟨fm0, b1, b2, b3⟩ := m_fill (g := g) 512 0 1000 f (by omega) (by omega)
    obtain ⟨fd, -, d1, -, d3, -, -, -⟩ := cls fm0 ⟨fun b hb _ => b2 b hb, fun c _ => by rw [b2 60 (by omega)]⟩ (fun j hj => by
      rw [a3 j, b3 j, if_pos (by omega), if_pos (by omega)]
      omega)
    -- the reference, from where the class stopped
    obtain ⟨fm1, e1, e2, e3⟩ := m_fill (g := g) 512 0 1000 (ma_up fd 60 0 0) (by omega) (by omega)
    rw [show ((0 : Nat) : Int) = 0 from rfl] at e1
    have hm1 : MR0 f fm1 := ⟨fun b hb hb2 => by rw [e2 b hb, ma_up_ne (by omega)]; exact d3 b (by omega), fun c hc => by rw [e2 60 (by omega), ma_up_at hc, d3 60 (by omega)]⟩
    obtain ⟨fd', fn, u1, u2, u3, u4, u5, u6⟩ := cls fm1 hm1 (fun j hj => by
      rw [a3 j, e3 j, if_pos (by omega), if_pos (by omega)]
      omega)
    rw [d1] at u1
    cases u1
    have pD : p_Desk_load f g = some (fd, g) := by
      unfold p_Desk_load
      rw [need1 l2, Option.bind_some]
      dsimp only
      rw [a1, Option.bind_some]
      exact d1
    have r : ∀ b, b ≠ 96 → b ≠ 60 → fn b = fd b := fun b hb hb2 => by rw [u5 b hb, e2 b hb, ma_up_ne hb2]
    refine ⟨0, fd, fn, ?_, by omega, ?_, ?_, ?_⟩
    · unfold p_Law_load
      rw [pD, q_or_s]
    · rw [m_load1 (show fd 60 45 = 1 by rw [d3 60 (by omega), ← l1]; exact l2)]
      exact e1.trans u2
    · rw [u5 60 (by omega), e2 60 (by omega), ma_up_self]
    · refine II.mem (c := 0) h (fun a c1 c2 c3 => by rw [r a c2 c3]; exact d3 a c1) (fun c hc => ?_) (fun j hj => ?_)
      · rw [u5 60 (by omega), e2 60 (by omega), ma_up_at hc, d3 60 (by omega)]
      · have := u6 j hj
        rw [r 59 (by omega) (by omega)]
        exact this
/-- one copy of both -/
theorem move_loop {c26 : Int → q_F → q_F → Option (q_F × q_F)} {i : Nat} (hk : k < 8) (hL : secL f0 f0 k) (hc : cop f0 k) {N S D : Nat} (hN : f0 (28 + k) 10 = N) (hS : f0 (28 + k) 11 = S) (hD : f0 (28 + k) 9 = D) : ∀ (m t n1 n2 : Nat) (fc fm : q_F), t + m = N → m < n1 → m < n2 → MR0 f0 fm → MEQ fc fm → ∃ fd fn, p_Memory_move_3 n1 S D N t fc g = some (fd, g) ∧ p_Mod_start_43 c26 n2 i k t fm g' = c26 ((i : Int) + 1) fn g' ∧ (∀ b, b ≠ 59 → fd b = fc b) ∧ (∀ b, b ≠ 96 → fn b = fm b) ∧ MEQ fd fn := by
  intro m
  have hL' := hL
  obtain ⟨⟨s9, s10, s11, s7, t7⟩, ⟨z1, z2, z3⟩, ⟨z4, z5⟩, -, -⟩ := hL'
  have z6 := z4 hc.1
  have ik : 0 ≤ (k : Int) ∧ (k : Int) < 8 := by omega
  induction m with
  | zero =>
    intro t n1 n2 fc fm ht h1 h2 hm hq
    obtain ⟨n1, rfl⟩ : ∃ k, n1 = k + 1 := ⟨n1 - 1, by omega⟩
    obtain ⟨n2, rfl⟩ : ∃ k, n2 = k + 1 := ⟨n2 - 1, by omega⟩
    refine ⟨fc, fm, ?_, ?_, fun _ _ => rfl, fun _ _ => rfl, hq⟩
    · rw [p_Memory_move_3, if_pos (show q_sw (N : Int) ≤ q_sw (t : Int) by rw [q_swn (by omega), q_swn (by omega)]; omega)]
    · rw [p_Mod_start_43, if_pos ik, Int.toNat_natCast, if_pos (show q_sw (fm 87 k) ≤ q_sw (t : Int) by rw [hm.1 87 (by omega) (by omega), ← s10, q_swn (by omega), q_swn (by omega)]; omega)]
      rfl
  | succ m ih =>
    intro t n1 n2 fc fm ht h1 h2 hm hq
    obtain ⟨n1, rfl⟩ : ∃ k, n1 = k + 1 := ⟨n1 - 1, by omega⟩
    obtain ⟨n2, rfl⟩ : ∃ k, n2 = k + 1 := ⟨n2 - 1, by omega⟩
    obtain ⟨v1, v2, v3⟩ := hq (S + t) (by omega)
    have eF : p_Memory_fetch ((S + t : Nat) : Int) fc g = some (fc 59 (S + t), fc, g) := by
      unfold p_Memory_fetch p_Memory_fetch_21
      rw [if_neg (show ¬ q_sw ((S + t : Nat) : Int) < 0 by rw [q_swn (by omega)]; omega), if_neg (show ¬ q_sw 512 ≤ q_sw ((S + t : Nat) : Int) by rw [q_swn (by omega), q_swn (by omega)]; omega), if_pos (by omega), Int.toNat_natCast]
    have eK : p_Mod_copied k fm g' = some (1, fm, g') := by
      have hs := hL
      unfold p_Mod_copied p_Mod_copied_38
      unfold bnd at z5
      rw [if_pos ik, if_pos ik, if_pos ik, if_pos ik, Int.toNat_natCast, hm.1 83 (by omega) (by omega), hm.1 86 (by omega) (by omega), hm.1 87 (by omega) (by omega), hm.1 88 (by omega) (by omega), if_neg (sw1 (s7.symm.trans hc.1)), if_neg (show ¬ q_sw (f0 87 k) ≤ 0 by rw [← s10, q_swn (by omega)]; have := hc.2.1; omega), if_neg (show ¬ q_sw (f0 88 k) = q_sw (f0 86 k) by rw [← s11, ← s9, q_swn (by omega), q_swn (by omega)]; exact hc.2.2), if_pos (Or.inr rfl)]
    have hm2 : MR0 f0 (ma_up fm 96 (D + t) (fm 96 (S + t))) := ⟨fun b hb hb2 => by rw [ma_up_ne hb]; exact hm.1 b hb hb2, fun c hc => by rw [ma_up_ne (by omega)]; exact hm.2 c hc⟩
    have hq2 : MEQ (ma_up fc 59 (D + t) (fc 59 (S + t))) (ma_up fm 96 (D + t) (fm 96 (S + t))) := fun j hj => by
      by_cases e : j = D + t
      · subst e
        rw [ma_up_self, ma_up_self]
        exact ⟨v1, v2, v3⟩
      · rw [ma_up_at e, ma_up_at e]
        exact hq j hj
    obtain ⟨fd, fn, d1, d2, d3, d4, d5⟩ := ih (t + 1) n1 n2 _ _ (by omega) (by omega) (by omega) hm2 hq2
    refine ⟨fd, fn, ?_, ?_, fun b hb => by rw [d3 b hb, ma_up_ne hb], fun b hb => by rw [d4 b hb, ma_up_ne hb], d5⟩
    · rw [p_Memory_move_3, if_neg (show ¬ q_sw (N : Int) ≤ q_sw (t : Int) by rw [q_swn (by omega), q_swn (by omega)]; omega), show (S : Int) + (t : Int) = ((S + t : Nat) : Int) by omega, eF, Option.bind_some]
      dsimp only
      rw [show (D : Int) + (t : Int) = ((D + t : Nat) : Int) by omega, c_store (by omega), Option.bind_some]
      dsimp only [q_let]
      rw [show ((t : Nat) : Int) + 1 = ((t + 1 : Nat) : Int) by omega]
      exact d1
    · rw [p_Mod_start_43, if_pos ik, Int.toNat_natCast, if_neg (show ¬ q_sw (fm 87 k) ≤ q_sw (t : Int) by rw [hm.1 87 (by omega) (by omega), ← s10, q_swn (by omega), q_swn (by omega)]; omega), eK, Option.bind_some, if_neg (sw1 rfl), if_pos ik, if_pos ik]
      dsimp only
      have m88 : fm 88 k = (S : Nat) := by rw [hm.1 88 (by omega) (by omega), ← s11]; exact hS
      have m86 : fm 86 k = (D : Nat) := by rw [hm.1 86 (by omega) (by omega), ← s9]; exact hD
      rw [if_pos (show 0 ≤ fm 88 k + (t : Int) ∧ fm 88 k + (t : Int) < 512 by rw [m88]; omega), if_pos (show 0 ≤ fm 86 k + (t : Int) ∧ fm 86 k + (t : Int) < 512 by rw [m86]; omega), m88, m86, show ((S : Int) + (t : Int)).toNat = S + t by omega, show ((D : Int) + (t : Int)).toNat = D + t by omega]
      dsimp only [q_let]
      rw [show ((t : Nat) : Int) + 1 = ((t + 1 : Nat) : Int) by omega]
      exact d2
theorem start_loop (h : LD f0 f0) : ∀ (m i s n1 n2 : Nat) (fc fm : q_F), (i : Int) + m = f0 3 7 → (rl f0 (f0 3 7).toNat 0).drop s = rl f0 m i → s ≤ (rl f0 (f0 3 7).toNat 0).length → m < n1 → m < n2 → CR0 f0 fc → MR0 f0 fm → MEQ fc fm → ∃ fd fn, p_Desk_start_6 n1 s fc g = p_Desk_start_53 1000 0 fd g ∧ p_Mod_start_26 n2 i fm g' = p_Mod_start_101 1000 0 fn g' ∧ CR0 f0 fd ∧ MR0 f0 fn ∧ (∀ b, b ≠ 96 → fn b = fm b) ∧ MEQ fd fn := by
  intro m
  have o8 := h.1.2.2
  have oe := h.1.1
  obtain ⟨p9, p15⟩ := h.2.2.2.2.2
  have hlen := rl_len (fc := f0) (f0 3 7).toNat 0
  induction m with
  | zero =>
    intro i s n1 n2 fc fm hi hd hs h1 h2 hc hm hq
    obtain ⟨n1, rfl⟩ : ∃ k, n1 = k + 1 := ⟨n1 - 1, by omega⟩
    obtain ⟨n2, rfl⟩ : ∃ k, n2 = k + 1 := ⟨n2 - 1, by omega⟩
    have hl : (rl f0 (f0 3 7).toNat 0).length ≤ s := by
      have := congrArg List.length hd
      simp [rl] at this
      omega
    refine ⟨fc, fm, ?_, ?_, hc, hm, fun _ _ => rfl, hq⟩
    · rw [p_Desk_start_6, if_pos (show q_sw (fc 3 9) ≤ q_sw (s : Int) by rw [hc 3 (by omega), p9, q_swn (by omega), q_swn (by omega)]; omega)]
    · rw [p_Mod_start_26, if_pos (show q_sw (fm 60 22) ≤ q_sw (i : Int) by rw [hm.2 22 (by omega), ← oe, q_swn (by omega), q_swn (by omega)]; omega)]
  | succ m ih =>
    intro i s n1 n2 fc fm hi hd hs h1 h2 hc hm hq
    obtain ⟨n1, rfl⟩ : ∃ k, n1 = k + 1 := ⟨n1 - 1, by omega⟩
    obtain ⟨n2, rfl⟩ : ∃ k, n2 = k + 1 := ⟨n2 - 1, by omega⟩
    obtain ⟨k1, k2, k3, k4, k5⟩ := h.at (i := i) (by omega)
    have ik : 0 ≤ ((ord f0 i : Nat) : Int) ∧ ((ord f0 i : Nat) : Int) < 8 := by omega
    have m75 : fm 75 i = (ord f0 i : Nat) := by rw [hm.1 75 (by omega) (by omega)]; exact k3
    have baseM : p_Mod_start_26 (n2 + 1) i fm g' = p_Mod_start_43 (p_Mod_start_26 n2) 1000 i (ord f0 i : Nat) 0 fm g' := by
      rw [p_Mod_start_26, if_neg (show ¬ q_sw (fm 60 22) ≤ q_sw (i : Int) by rw [hm.2 22 (by omega), ← oe, q_swn (by omega), q_swn (by omega)]; omega), if_pos (show 0 ≤ (i : Int) ∧ (i : Int) < 8 by omega)]
      dsimp only [q_let]
      rw [Int.toNat_natCast, m75]
    simp only [rl] at hd
    by_cases c : cop f0 (ord f0 i)
    · rw [if_pos c] at hd
      have hlt : s < (rl f0 (f0 3 7).toNat 0).length := by
        have := congrArg List.length hd
        simp at this
        omega
      have hget : (rl f0 (f0 3 7).toNat 0)[s]? = some (ord f0 i) := by
        have := congrArg (fun l => l[0]?) hd
        simpa using this
      have hd2 : (rl f0 (f0 3 7).toNat 0).drop (s + 1) = rl f0 m (i + 1) := by
        have := congrArg List.tail hd
        simpa using this
      have h15 := p15 s _ hget
      have z6 := k5.2.2.1.1 c.1
      have z3 := k5.2.1
      obtain ⟨N, hN⟩ : ∃ N : Nat, f0 (28 + ord f0 i) 10 = N := ⟨(f0 (28 + ord f0 i) 10).toNat, by omega⟩
      obtain ⟨S, hS⟩ : ∃ S : Nat, f0 (28 + ord f0 i) 11 = S := ⟨(f0 (28 + ord f0 i) 11).toNat, by omega⟩
      obtain ⟨D, hD⟩ : ∃ D : Nat, f0 (28 + ord f0 i) 9 = D := ⟨(f0 (28 + ord f0 i) 9).toNat, by omega⟩
      obtain ⟨f1, n1', a1, a2, a3, a4, a5⟩ := move_loop (g := g) (g' := g') (c26 := p_Mod_start_26 n2) (i := i) k1 k5 c hN hS hD N 0 1000 1000 fc fm (by omega) (by omega) (by omega) hm hq
      obtain ⟨fd, fn, d1, d2, d3, d4, d5, d6⟩ := ih (i + 1) (s + 1) n1 n2 f1 n1' (by omega) hd2 (by omega) (by omega) (by omega) (fun b hb => (a3 b hb).trans (hc b hb)) ⟨fun b hb hb2 => by rw [a4 b hb]; exact hm.1 b hb hb2, fun e he => by rw [a4 60 (by omega)]; exact hm.2 e he⟩ a5
      refine ⟨fd, fn, ?_, ?_, d3, d4, fun b hb => (d5 b hb).trans (a4 b hb), d6⟩
      · rw [p_Desk_start_6, if_neg (show ¬ q_sw (fc 3 9) ≤ q_sw (s : Int) by rw [hc 3 (by omega), p9, q_swn (by omega), q_swn (by omega)]; omega)]
        have eP : p_Plan_copiedAt s fc g = some (28 + ord f0 i, fc, g) := by
          unfold p_Plan_copiedAt
          rw [if_pos (show 0 ≤ (s : Int) ∧ (s : Int) < 8 by omega), Int.toNat_natCast, hc 15 (by omega), h15, if_pos ik, Int.toNat_natCast]
        have eV : p_Memory_move (S : Int) (D : Int) (N : Int) fc g = some (f1, g) := a1
        rw [eP, Option.bind_some, if_pos (show 28 ≤ 28 + ord f0 i ∧ 28 + ord f0 i < 36 by omega)]
        dsimp only
        rw [hc (28 + ord f0 i) (by omega), hS, hD, hN, eV, Option.bind_some]
        dsimp only [q_let]
        rw [show ((s : Nat) : Int) + 1 = ((s + 1 : Nat) : Int) by omega]
        exact d1
      · have a2' : p_Mod_start_43 (p_Mod_start_26 n2) 1000 i (ord f0 i : Nat) 0 fm g' = p_Mod_start_26 n2 ((i : Int) + 1) n1' g' := a2
        rw [baseM, a2', show ((i : Nat) : Int) + 1 = ((i + 1 : Nat) : Int) by omega]
        exact d2
    · rw [if_neg c] at hd
      have skip : p_Mod_start_43 (p_Mod_start_26 n2) 1000 i (ord f0 i : Nat) 0 fm g' = p_Mod_start_26 n2 (i + 1 : Nat) fm g' := by
        have eK : p_Mod_copied (ord f0 i : Nat) fm g' = some (0, fm, g') := by
          obtain ⟨⟨s9, s10, s11, s7, t7⟩, t9, ⟨-, t11⟩, -⟩ := k5
          unfold bnd at t11
          unfold p_Mod_copied p_Mod_copied_37 p_Mod_copied_38
          rw [if_pos ik, if_pos ik, if_pos ik, if_pos ik, Int.toNat_natCast, if_pos (Or.inl rfl), hm.1 83 (by omega) (by omega), hm.1 86 (by omega) (by omega), hm.1 87 (by omega) (by omega), hm.1 88 (by omega) (by omega)]
          rcases t7 with t7 | t7
          · rw [if_pos (sw0 (s7.symm.trans t7))]
          · rw [if_neg (sw1 (s7.symm.trans t7))]
            by_cases c1 : f0 (28 + ord f0 i) 10 ≤ 0
            · rw [if_pos (show q_sw (f0 87 (ord f0 i)) ≤ 0 by rw [← s10, q_swn (by omega)]; exact c1)]
            · rw [if_neg (show ¬ q_sw (f0 87 (ord f0 i)) ≤ 0 by rw [← s10, q_swn (by omega)]; exact c1)]
              have c2 : f0 (28 + ord f0 i) 11 = f0 (28 + ord f0 i) 9 := by
                by_cases e : f0 (28 + ord f0 i) 11 = f0 (28 + ord f0 i) 9
                · exact e
                · exact absurd (show cop f0 (ord f0 i) from ⟨t7, by omega, e⟩) c
              rw [if_pos (show q_sw (f0 88 (ord f0 i)) = q_sw (f0 86 (ord f0 i)) by rw [← s11, ← s9, c2])]
        rw [p_Mod_start_43, if_pos ik, eK, Option.bind_some, if_pos (sw0 rfl), ite_self]
        unfold p_Mod_start_93
        dsimp only [q_let]
        rw [show ((i : Nat) : Int) + 1 = ((i + 1 : Nat) : Int) by omega]
      obtain ⟨fd, fn, d1, d2, d3, d4, d5, d6⟩ := ih (i + 1) s (n1 + 1) n2 fc fm (by omega) hd hs (by omega) (by omega) hc hm hq
      exact ⟨fd, fn, d1, by rw [baseM, skip]; exact d2, d3, d4, d5, d6⟩
/-- sections that nobody loads are set to 0 -/
theorem zero_sect {c101 : Int → q_F → q_F → Option (q_F × q_F)} {i : Nat} (hk : k < 8) (hL : secL f0 f0 k) (h7 : f0 (28 + k) 7 = 0) {N D : Nat} (hN : f0 (28 + k) 10 = N) (hD : f0 (28 + k) 9 = D) : ∀ (m t n : Nat) (f : q_F), t + m = N → m < n → MR0 f0 f → ∃ fd, p_Mod_start_118 c101 n i k t f g = c101 ((i : Int) + 1) fd g ∧ (∀ b, b ≠ 96 → fd b = f b) ∧ ∀ j : Nat, fd 96 j = if D + t ≤ j ∧ j < D + N then 0 else f 96 j := by
  intro m
  obtain ⟨⟨s9, s10, s11, s7, t7⟩, ⟨z1, z2, z3⟩, -⟩ := hL
  have ik : 0 ≤ (k : Int) ∧ (k : Int) < 8 := by omega
  induction m with
  | zero =>
    intro t n f ht hn hm
    obtain ⟨n, rfl⟩ : ∃ k, n = k + 1 := ⟨n - 1, by omega⟩
    refine ⟨f, ?_, fun _ _ => rfl, fun j => by rw [if_neg (by omega)]⟩
    rw [p_Mod_start_118, if_pos ik, Int.toNat_natCast, if_pos (show q_sw (f 87 k) ≤ q_sw (t : Int) by rw [hm.1 87 (by omega) (by omega), ← s10, q_swn (by omega), q_swn (by omega)]; omega)]
    rfl
  | succ m ih =>
    intro t n f ht hn hm
    obtain ⟨n, rfl⟩ : ∃ k, n = k + 1 := ⟨n - 1, by omega⟩
    obtain ⟨fd, d1, d2, d3⟩ := ih (t + 1) n (ma_up f 96 (D + t) 0) (by omega) (by omega) ⟨fun b hb hb2 => by rw [ma_up_ne hb]; exact hm.1 b hb hb2, fun c hc => by rw [ma_up_ne (by omega)]; exact hm.2 c hc⟩
    refine ⟨fd, ?_, fun b hb => by rw [d2 b hb, ma_up_ne hb], fun j => ?_⟩
    · rw [p_Mod_start_118, if_pos ik, Int.toNat_natCast, if_neg (show ¬ q_sw (f 87 k) ≤ q_sw (t : Int) by rw [hm.1 87 (by omega) (by omega), ← s10, q_swn (by omega), q_swn (by omega)]; omega), if_pos ik, hm.1 83 (by omega) (by omega), if_pos (sw0 (s7.symm.trans h7)), if_pos ik, hm.1 86 (by omega) (by omega), ← s9, hD, if_pos (show 0 ≤ (D : Int) + (t : Int) ∧ (D : Int) + (t : Int) < 512 by omega), show ((D : Int) + (t : Int)).toNat = D + t by omega]
      dsimp only [q_let]
      rw [show ((t : Nat) : Int) + 1 = ((t + 1 : Nat) : Int) by omega]
      exact d1
    · rw [d3 j]
      by_cases e : j = D + t
      · subst e
        rw [if_neg (by omega), ma_up_self, if_pos (by omega)]
      · rw [ma_up_at e]
        by_cases c : D + (t + 1) ≤ j ∧ j < D + N
        · rw [if_pos c, if_pos (by omega)]
        · rw [if_neg c, if_neg (by omega)]
theorem zero_loop (h : LD f0 f0) : ∀ (m i n1 n2 : Nat) (fc fm : q_F), (i : Int) + m = f0 3 7 → m < n1 → m < n2 → CR0 f0 fc → MR0 f0 fm → MEQ fc fm → ∃ fd fn, p_Desk_start_53 n1 i fc g = some (fd, g) ∧ p_Mod_start_101 n2 i fm g' = some (fn, g') ∧ CR0 f0 fd ∧ MR0 f0 fn ∧ (∀ b, b ≠ 96 → fn b = fm b) ∧ MEQ fd fn := by
  intro m
  have o8 := h.1.2.2
  have oe := h.1.1
  induction m with
  | zero =>
    intro i n1 n2 fc fm hi h1 h2 hc hm hq
    obtain ⟨n1, rfl⟩ : ∃ k, n1 = k + 1 := ⟨n1 - 1, by omega⟩
    obtain ⟨n2, rfl⟩ : ∃ k, n2 = k + 1 := ⟨n2 - 1, by omega⟩
    refine ⟨fc, fm, ?_, ?_, hc, hm, fun _ _ => rfl, hq⟩
    · rw [p_Desk_start_53, if_pos (show q_sw (fc 3 7) ≤ q_sw (i : Int) by rw [hc 3 (by omega), q_swn (by omega), q_swn (by omega)]; omega)]
    · rw [p_Mod_start_101, if_pos (show q_sw (fm 60 22) ≤ q_sw (i : Int) by rw [hm.2 22 (by omega), ← oe, q_swn (by omega), q_swn (by omega)]; omega)]
  | succ m ih =>
    intro i n1 n2 fc fm hi h1 h2 hc hm hq
    obtain ⟨n1, rfl⟩ : ∃ k, n1 = k + 1 := ⟨n1 - 1, by omega⟩
    obtain ⟨n2, rfl⟩ : ∃ k, n2 = k + 1 := ⟨n2 - 1, by omega⟩
    obtain ⟨k1, k2, k3, k4, k5⟩ := h.at (i := i) (by omega)
    generalize ho : ord f0 i = k at *
    have ik : 0 ≤ (k : Int) ∧ (k : Int) < 8 := by omega
    have c14 : fc 14 i = (k : Nat) := by rw [hc 14 (by omega)]; exact k2
    have m75 : fm 75 i = (k : Nat) := by rw [hm.1 75 (by omega) (by omega)]; exact k3
    have e96 : ∀ f', p_Desk_start_96 (p_Desk_start_53 n1) i f' g = p_Desk_start_53 n1 (i + 1 : Nat) f' g := fun f' => by
      unfold p_Desk_start_96
      dsimp only [q_let]
      rw [show ((i : Nat) : Int) + 1 = ((i + 1 : Nat) : Int) by omega]
    have baseC : p_Desk_start_53 (n1 + 1) i fc g = if f0 (28 + k) 7 = 0 then ((p_Memory_fill (f0 (28 + k) 9) (f0 (28 + k) 10) 0 fc g).bind fun x6 => p_Desk_start_96 (p_Desk_start_53 n1) i x6.1 x6.2) else p_Desk_start_53 n1 (i + 1 : Nat) fc g := by
      rw [p_Desk_start_53, if_neg (show ¬ q_sw (fc 3 7) ≤ q_sw (i : Int) by rw [hc 3 (by omega), q_swn (by omega), q_swn (by omega)]; omega), c_sectionAt (by omega) (by omega), Option.bind_some]
      dsimp only
      rw [c14, Int.toNat_natCast, if_pos (show 28 ≤ 28 + k ∧ 28 + k < 36 by omega), e96]
      have c7 : fc (28 + k) 7 = f0 (28 + k) 7 := by rw [hc (28 + k) (by omega)]
      rcases k5.1.2.2.2.2 with q | q
      · rw [if_pos (sw0 (c7.trans q)), if_pos q, hc (28 + k) (by omega)]
      · rw [if_neg (sw1 (c7.trans q)), if_neg (by omega)]
    have baseM : p_Mod_start_101 (n2 + 1) i fm g' = p_Mod_start_118 (p_Mod_start_101 n2) 1000 i k 0 fm g' := by
      rw [p_Mod_start_101, if_neg (show ¬ q_sw (fm 60 22) ≤ q_sw (i : Int) by rw [hm.2 22 (by omega), ← oe, q_swn (by omega), q_swn (by omega)]; omega), if_pos (show 0 ≤ (i : Int) ∧ (i : Int) < 8 by omega)]
      dsimp only [q_let]
      rw [Int.toNat_natCast, m75]
    rw [baseC, baseM]
    obtain ⟨s9, s10, s11, s7, t7⟩ := k5.1
    rcases t7 with q | q
    · rw [if_pos q]
      have hz2 := k5.2.1
      obtain ⟨N, hN⟩ : ∃ N : Nat, f0 (28 + k) 10 = N := ⟨(f0 (28 + k) 10).toNat, by omega⟩
      obtain ⟨D, hD⟩ : ∃ D : Nat, f0 (28 + k) 9 = D := ⟨(f0 (28 + k) 9).toNat, by omega⟩
      obtain ⟨f1, a1, a2, a3⟩ := c_fillA (g := g) (f := fc) (a := D) (N := N) (v := 0) (by omega)
      obtain ⟨n1', b1, b2, b3⟩ := zero_sect (g := g') (c101 := p_Mod_start_101 n2) (i := i) k1 k5 q hN hD N 0 1000 fm (by omega) (by omega) hm
      have hq' : MEQ f1 n1' := fun j hj => by
        obtain ⟨w1, w2, w3⟩ := hq j hj
        rw [a3 j, b3 j]
        by_cases c : D ≤ j ∧ j < D + N
        · rw [if_pos c, if_pos (by omega)]
          omega
        · rw [if_neg c, if_neg (by omega)]
          exact ⟨w1, w2, w3⟩
      obtain ⟨fd, fn, d1, d2, d3, d4, d5, d6⟩ := ih (i + 1) n1 n2 f1 n1' (by omega) (by omega) (by omega) (fun b hb => (a2 b hb).trans (hc b hb)) ⟨fun b hb hb2 => by rw [b2 b hb]; exact hm.1 b hb hb2, fun c hc => by rw [b2 60 (by omega)]; exact hm.2 c hc⟩ hq'
      refine ⟨fd, fn, ?_, ?_, d3, d4, fun b hb => (d5 b hb).trans (b2 b hb), d6⟩
      · rw [hD, hN, a1, Option.bind_some, e96]
        exact d1
      · have b1' : p_Mod_start_118 (p_Mod_start_101 n2) 1000 i k 0 fm g' = p_Mod_start_101 n2 ((i : Int) + 1) n1' g' := b1
        rw [b1', show ((i : Nat) : Int) + 1 = ((i + 1 : Nat) : Int) by omega]
        exact d2
    · rw [if_neg (by omega)]
      have skip : p_Mod_start_118 (p_Mod_start_101 n2) 1000 i k 0 fm g' = p_Mod_start_101 n2 (i + 1 : Nat) fm g' := by
        rw [p_Mod_start_118, if_pos ik, if_pos ik, Int.toNat_natCast, hm.1 83 (by omega) (by omega), if_neg (sw1 (s7.symm.trans q)), ite_self]
        unfold p_Mod_start_157
        dsimp only [q_let]
        rw [show ((i : Nat) : Int) + 1 = ((i + 1 : Nat) : Int) by omega]
      rw [skip]
      exact ih (i + 1) n1 n2 fc fm (by omega) (by omega) (by omega) hc hm hq
theorem start_both {f : q_F} (h : LD f f) {fm : q_F} (hm : MR0 f fm) (hq : MEQ f fm) : ∃ fd fn, p_Desk_start_6 1000 0 f g = some (fd, g) ∧ p_Mod_start_26 1000 0 fm g = some (fn, g) ∧ CR0 f fd ∧ MR0 f fn ∧ (∀ b, b ≠ 96 → fn b = fm b) ∧ MEQ fd fn := by
  have o8 := h.1.2.2
  have o0 := h.1.2.1
  obtain ⟨f1, n1, a1, a2, a3, a4, a5, a6⟩ := start_loop (g := g) (g' := g) h (f 3 7).toNat 0 0 1000 1000 f fm (by omega) (by rw [List.drop_zero]) (by omega) (by omega) (by omega) (fun _ _ => rfl) hm hq
  obtain ⟨fd, fn, b1, b2, b3, b4, b5, b6⟩ := zero_loop (g := g) (g' := g) h (f 3 7).toNat 0 1000 1000 f1 n1 (by omega) (by omega) (by omega) a3 a4 a6
  exact ⟨fd, fn, a1.trans b1, a2.trans b2, b3, b4, fun b hb => (b5 b hb).trans (a5 b hb), b6⟩
theorem call_start {f : q_F} (h : II f) : ∃ c f1 f2, p_Law_start f g = some (c, f1, g) ∧ (0 ≤ c ∧ c ≤ 3) ∧ p_Mod_start f1 g = some (f2, g) ∧ f2 60 0 = c ∧ II f2 := by
  obtain ⟨-, l2', ⟨l1, l2⟩, -, l5, l6⟩ := id h
  rcases l2 with l2 | l2
  · obtain ⟨n1, n2⟩ := need0 (g := g) l2
    refine ⟨1, f, ma_up f 60 0 1, ?_, by omega, ?_, ma_up_self, h.thr⟩
    · have pD : p_Desk_start f g = none := by
        unfold p_Desk_start
        rw [n1]
        rfl
      have xD : x_Desk_start f g = some (1, f, g) := by
        unfold x_Desk_start
        rw [n1, q_or_n, n2]
      unfold p_Law_start
      rw [pD, q_or_n, xD]
      rfl
    · unfold p_Mod_start p_Mod_start_13
      rw [if_pos (sw0 (l1.symm.trans l2))]
      dsimp only [q_let]
      rw [if_neg (show ¬ q_sw (ma_up f 60 0 1 60 0) ≤ 0 by rw [ma_up_self]; decide)]
  · have hL := l6 l2
    obtain ⟨fd, -, d1, -, d3, -, -, -⟩ := start_both (g := g) hL (fm := f) ⟨fun _ _ _ => rfl, fun _ _ => rfl⟩ l5
    have hm1 : MR0 f (ma_up fd 60 0 0) := ⟨fun b hb hb2 => by rw [ma_up_ne (by omega)]; exact d3 b (by omega), fun c hc => by rw [ma_up_at hc, d3 60 (by omega)]⟩
    obtain ⟨fd', fn, u1, u2, u3, u4, u5, u6⟩ := start_both (g := g) hL hm1 (fun j hj => by
      rw [ma_up_ne (by omega), d3 96 (by omega)]
      exact l5 j hj)
    rw [d1] at u1
    cases u1
    have pD : p_Desk_start f g = some (fd, g) := by
      unfold p_Desk_start
      rw [need1 l2, Option.bind_some]
      exact d1
    have r : ∀ b, b ≠ 96 → b ≠ 60 → fn b = fd b := fun b hb hb2 => by rw [u5 b hb, ma_up_ne hb2]
    refine ⟨0, fd, fn, ?_, by omega, ?_, ?_, ?_⟩
    · unfold p_Law_start
      rw [pD, q_or_s]
    · unfold p_Mod_start p_Mod_start_13
      rw [if_neg (sw1 (show fd 60 45 = 1 by rw [d3 60 (by omega), ← l1]; exact l2))]
      dsimp only [q_let]
      rw [if_pos (show q_sw (ma_up fd 60 0 0 60 0) ≤ 0 by rw [ma_up_self]; decide)]
      exact u2
    · rw [u5 60 (by omega), ma_up_self]
    · refine II.mem (c := 0) h (fun a c1 c2 c3 => by rw [r a c2 c3]; exact d3 a c1) (fun c hc => ?_) (fun j hj => ?_)
      · rw [u5 60 (by omega), ma_up_at hc, d3 60 (by omega)]
      · have := u6 j hj
        rw [r 59 (by omega) (by omega)]
        exact this
end LS
