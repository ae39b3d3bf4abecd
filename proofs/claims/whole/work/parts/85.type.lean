/-! ===== type ===== -/
section TY
variable {f g : q_F}
theorem nc_key : ∀ j : Nat, j < 256 → q_nc (q_i2c (j : Int)) = (j : Int) := by decide +kernel
theorem nc_b {z : Int} (hz : 0 ≤ z ∧ z ≤ 255) : q_nc (q_i2c z) = z := by
  obtain ⟨j, rfl⟩ : ∃ j : Nat, z = j := ⟨z.toNat, by omega⟩
  exact nc_key j (by omega)
theorem c_allT {x : Int} {N : Nat} (hN : N ≤ 8) : ∀ (m j n : Nat), j + m = N → m < n → ∃ b, p_Desk_allCanBeTyped_2 n x N j f g = some (b, f, g) ∧ ((b = 1 ∧ ∀ i, j ≤ i → i < N → 33 ≤ byt x i ∧ byt x i ≤ 126) ∨ (b = 0 ∧ ∃ i, i < N ∧ ¬ (33 ≤ byt x i ∧ byt x i ≤ 126))) := by
  intro m
  induction m with
  | zero =>
    intro j n hj hn
    obtain ⟨n, rfl⟩ : ∃ k, n = k + 1 := ⟨n - 1, by omega⟩
    refine ⟨1, ?_, Or.inl ⟨rfl, fun i c1 c2 => by omega⟩⟩
    rw [p_Desk_allCanBeTyped_2, if_pos (show q_sw (N : Int) ≤ q_sw (j : Int) by rw [q_swn (by omega), q_swn (by omega)]; omega)]
  | succ m ih =>
    intro j n hj hn
    obtain ⟨n, rfl⟩ : ∃ k, n = k + 1 := ⟨n - 1, by omega⟩
    have hb := byt_b x j
    rw [p_Desk_allCanBeTyped_2, if_neg (show ¬ q_sw (N : Int) ≤ q_sw (j : Int) by rw [q_swn (by omega), q_swn (by omega)]; omega)]
    unfold p_Desk_byteOf p_Desk_allCanBeTyped_28
    rw [Option.bind_some, show q_and (q_lushr x (8 * (j : Int))) 255 = byt x j from rfl]
    dsimp only [q_let]
    rw [q_swn (show -2147483648 ≤ byt x j ∧ byt x j ≤ 2147483647 by omega), q_swn (show -2147483648 ≤ (33 : Int) ∧ (33 : Int) ≤ 2147483647 by omega), q_swn (show -2147483648 ≤ (126 : Int) ∧ (126 : Int) ≤ 2147483647 by omega), show ((j : Nat) : Int) + 1 = ((j + 1 : Nat) : Int) by omega]
    by_cases c1 : byt x j < 33
    · rw [if_pos c1]
      exact ⟨0, rfl, Or.inr ⟨rfl, j, by omega, by omega⟩⟩
    · rw [if_neg c1]
      by_cases c2 : byt x j ≤ 126
      · rw [if_pos c2]
        obtain ⟨b, e1, e2⟩ := ih (j + 1) n (by omega) (by omega)
        refine ⟨b, e1, e2.imp (fun q => ⟨q.1, fun i d1 d2 => ?_⟩) id⟩
        by_cases e : i = j
        · subst e
          omega
        · exact q.2 i (by omega) d2
      · rw [if_neg c2]
        exact ⟨0, rfl, Or.inr ⟨rfl, j, by omega, by omega⟩⟩
theorem m_allT {x : Int} {N : Nat} (hN : N ≤ 8) : ∀ (m j n : Nat), j + m = N → m < n → ∃ b, p_Mod_type_12 n x N 1 j f g = p_Mod_type_50 x N b f g ∧ ((b = 1 ∧ ∀ i, j ≤ i → i < N → 33 ≤ byt x i ∧ byt x i ≤ 126) ∨ (b = 0 ∧ ∃ i, i < N ∧ ¬ (33 ≤ byt x i ∧ byt x i ≤ 126))) := by
  intro m
  induction m with
  | zero =>
    intro j n hj hn
    obtain ⟨n, rfl⟩ : ∃ k, n = k + 1 := ⟨n - 1, by omega⟩
    refine ⟨1, ?_, Or.inl ⟨rfl, fun i c1 c2 => by omega⟩⟩
    rw [p_Mod_type_12, if_pos (show q_sw (N : Int) ≤ q_sw (j : Int) by rw [q_swn (by omega), q_swn (by omega)]; omega)]
  | succ m ih =>
    intro j n hj hn
    obtain ⟨n, rfl⟩ : ∃ k, n = k + 1 := ⟨n - 1, by omega⟩
    have hb := byt_b x j
    rw [p_Mod_type_12, if_neg (show ¬ q_sw (N : Int) ≤ q_sw (j : Int) by rw [q_swn (by omega), q_swn (by omega)]; omega), if_neg (sw1 rfl), byte_eq x j (by omega), show q_and (q_lushr x (8 * (j : Int))) 255 = byt x j from rfl, m_within (by omega) (by omega) (by omega), Option.bind_some]
    dsimp only [q_let]
    rw [show ((j : Nat) : Int) + 1 = ((j + 1 : Nat) : Int) by omega]
    by_cases c : 33 ≤ byt x j ∧ byt x j ≤ 126
    · rw [if_pos c]
      obtain ⟨b, e1, e2⟩ := ih (j + 1) n (by omega) (by omega)
      refine ⟨b, e1, e2.imp (fun q => ⟨q.1, fun i d1 d2 => ?_⟩) id⟩
      by_cases e : i = j
      · subst e
        exact c
      · exact q.2 i (by omega) d2
    · rw [if_neg c]
      obtain ⟨n, rfl⟩ : ∃ k, n = k + 1 := ⟨n - 1, by omega⟩
      refine ⟨0, ?_, Or.inr ⟨rfl, j, by omega, c⟩⟩
      rw [p_Mod_type_12, if_pos (sw0 rfl), ite_self]
theorem c_type55 {x : Int} : ∀ (m n : Nat) (f : q_F) (len : Nat), f 1 1 = (len : Nat) → len + m ≤ 160 → m ≤ 8 → m < n → ∃ fd, p_Desk_type_55 n x ((m : Int) - 1) f g = some (((len + m : Nat) : Int), fd, g) ∧ (∀ a, a ≠ 0 → a ≠ 1 → a ≠ 2 → fd a = f a) ∧ fd 0 6 = 0 ∧ (∀ c, c ≠ 6 → fd 0 c = f 0 c) ∧ fd 1 1 = ((len + m : Nat) : Int) ∧ (∀ i, i < len → fd 2 i = f 2 i) ∧ (∀ t, t < m → fd 2 (len + t) = byt x (m - 1 - t)) := by
  intro m
  induction m with
  | zero =>
    intro n f len h1 h2 h3 h4
    obtain ⟨n, rfl⟩ : ∃ k, n = k + 1 := ⟨n - 1, by omega⟩
    refine ⟨ma_up f 0 6 0, ?_, fun a c1 _ _ => ma_up_ne c1, ma_up_self, fun c hc => ma_up_at hc, by rw [ma_up_ne (by omega)]; exact h1, fun i _ => by rw [ma_up_ne (by omega)], fun t ht => by omega⟩
    rw [p_Desk_type_55, if_pos (by decide)]
    dsimp only [q_let]
    rw [ma_up_ne (by omega), h1]
    rfl
  | succ m ih =>
    intro n f len h1 h2 h3 h4
    obtain ⟨n, rfl⟩ : ∃ k, n = k + 1 := ⟨n - 1, by omega⟩
    have hb := byt_b x m
    have em : ((m + 1 : Nat) : Int) - 1 = (m : Nat) := by omega
    have eA : p_Script_append (byt x m) f g = some (ma_up (ma_up f 2 len (byt x m)) 1 1 ((len + 1 : Nat) : Int), g) := by
      unfold p_Script_append p_Script_append_31
      rw [if_neg (show ¬ q_sw 160 ≤ q_sw (f 1 1) by rw [h1, q_swn (by omega), q_swn (by omega)]; omega), if_pos (show 0 ≤ f 1 1 ∧ f 1 1 < 160 by omega)]
      dsimp only [q_let]
      rw [nc_b hb, h1, Int.toNat_natCast, ma_up_ne (by omega), h1]
      rfl
    obtain ⟨fd, d1, d2, d3, d4, d5, d6, d7⟩ := ih n (ma_up (ma_up f 2 len (byt x m)) 1 1 ((len + 1 : Nat) : Int)) (len + 1) ma_up_self (by omega) (by omega) (by omega)
    refine ⟨fd, ?_, fun a c1 c2 c3 => ?_, d3, fun c hc => ?_, ?_, fun i hi => ?_, fun t ht => ?_⟩
    · rw [em, p_Desk_type_55, if_neg (show ¬ q_sw (m : Int) < 0 by rw [q_swn (by omega)]; omega)]
      unfold p_Desk_byteOf
      rw [Option.bind_some]
      dsimp only
      rw [show q_and (q_lushr x (8 * (m : Int))) 255 = byt x m from rfl, eA, Option.bind_some]
      dsimp only [q_let]
      rw [show (m : Int) + (-1) = (m : Int) - 1 by omega, d1, show len + 1 + m = len + (m + 1) by omega]
    · rw [d2 a c1 c2 c3, ma_up_ne c2, ma_up_ne c3]
    · rw [d4 c hc, ma_up_ne (by omega), ma_up_ne (by omega)]
    · rw [d5, show len + 1 + m = len + (m + 1) by omega]
    · rw [d6 i (by omega), ma_up_ne (by omega), ma_up_at (by omega)]
    · by_cases e : t = 0
      · subst e
        rw [d6 (len + 0) (by omega), ma_up_ne (by omega), Nat.add_zero, ma_up_self]
        congr 1
      · have := d7 (t - 1) (by omega)
        rw [show len + 1 + (t - 1) = len + t by omega] at this
        rw [this]
        congr 1
        omega
theorem m_type94 {x : Int} : ∀ (m n : Nat) (f : q_F) (len : Nat), f 60 6 = (len : Nat) → len + m ≤ 160 → m ≤ 8 → m < n → ∃ fd, p_Mod_type_94 n x ((m : Int) - 1) f g = some (((len + m : Nat) : Int), fd, g) ∧ (∀ a, a ≠ 60 → a ≠ 66 → fd a = f a) ∧ fd 60 45 = 0 ∧ (∀ c, c ≠ 6 → c ≠ 45 → fd 60 c = f 60 c) ∧ fd 60 6 = ((len + m : Nat) : Int) ∧ (∀ i, i < len → fd 66 i = f 66 i) ∧ (∀ t, t < m → fd 66 (len + t) = byt x (m - 1 - t)) := by
  intro m
  induction m with
  | zero =>
    intro n f len h1 h2 h3 h4
    obtain ⟨n, rfl⟩ : ∃ k, n = k + 1 := ⟨n - 1, by omega⟩
    refine ⟨ma_up f 60 45 0, ?_, fun a c1 _ => ma_up_ne c1, ma_up_self, fun c _ hc => ma_up_at hc, by rw [ma_up_at (by omega)]; exact h1, fun i _ => by rw [ma_up_ne (by omega)], fun t ht => by omega⟩
    rw [p_Mod_type_94, if_pos (by decide)]
    dsimp only [q_let]
    rw [ma_up_at (by omega), h1]
    rfl
  | succ m ih =>
    intro n f len h1 h2 h3 h4
    obtain ⟨n, rfl⟩ : ∃ k, n = k + 1 := ⟨n - 1, by omega⟩
    have em : ((m + 1 : Nat) : Int) - 1 = (m : Nat) := by omega
    obtain ⟨fd, d1, d2, d3, d4, d5, d6, d7⟩ := ih n (ma_up (ma_up f 66 len (byt x m)) 60 6 ((len + 1 : Nat) : Int)) (len + 1) ma_up_self (by omega) (by omega) (by omega)
    refine ⟨fd, ?_, fun a c1 c2 => ?_, d3, fun c hc hc2 => ?_, ?_, fun i hi => ?_, fun t ht => ?_⟩
    · rw [em, p_Mod_type_94, if_neg (show ¬ q_sw (m : Int) < 0 by rw [q_swn (by omega)]; omega), if_pos (show 0 ≤ f 60 6 ∧ f 60 6 < 160 by omega), byte_eq x m (by omega)]
      dsimp only [q_let]
      rw [show q_and (q_lushr x (8 * (m : Int))) 255 = byt x m from rfl, h1, Int.toNat_natCast, show ma_up f 66 len (byt x m) 60 6 = (len : Nat) by rw [ma_up_ne (by omega)]; exact h1, show (m : Int) + (-1) = (m : Int) - 1 by omega, show ((len : Nat) : Int) + 1 = ((len + 1 : Nat) : Int) by omega, d1, show len + 1 + m = len + (m + 1) by omega]
    · rw [d2 a c1 c2, ma_up_ne c1, ma_up_ne c2]
    · rw [d4 c hc hc2, ma_up_at hc, ma_up_ne (by omega)]
    · rw [d5, show len + 1 + m = len + (m + 1) by omega]
    · rw [d6 i (by omega), ma_up_ne (by omega), ma_up_at (by omega)]
    · by_cases e : t = 0
      · subst e
        rw [d6 (len + 0) (by omega), ma_up_ne (by omega), Nat.add_zero, ma_up_self]
        congr 1
      · have := d7 (t - 1) (by omega)
        rw [show len + 1 + (t - 1) = len + t by omega] at this
        rw [this]
        congr 1
        omega
theorem call_type {x v3 : Int} (h : II f) (i3 : isI v3) : ∃ c f1 g1, p_Law_type x v3 f g = some (c, f1, g1) ∧ (0 ≤ c ∧ c ≤ 3) ∧ OutV c f1 g1 (p_Mod_type x v3 f1 g1) := by
  have i3' := i3
  unfold isI at i3'
  have sn : ∀ z : Int, 0 ≤ z ∧ z ≤ 1000 → q_sw z = z := fun z hz => q_swn (by omega)
  have mw : ∀ f1 g1, p_Mod_within v3 1 8 f1 g1 = some (if 1 ≤ v3 ∧ v3 ≤ 8 then 1 else 0, f1, g1) := fun f1 g1 => m_within i3' (by omega) (by omega)
  have m77 : ∀ (c : Int) (g1 : q_F), 1 ≤ c → c ≤ 3 → p_Mod_type_77 x v3 c f g1 = some (0, ma_up f 60 0 c, g1) := fun c g1 c1 c2 => by
    unfold p_Mod_type_77
    dsimp only [q_let]
    rw [if_neg (show ¬ q_sw (ma_up f 60 0 c 60 0) ≤ 0 by rw [ma_up_self, q_swn (by omega)]; omega)]
  obtain ⟨l1, l2, l3, l4, l5, -⟩ := id h
  obtain ⟨⟨t1, t2, t3⟩, t4, t5⟩ := l1
  by_cases hv : 1 ≤ v3 ∧ v3 ≤ 8
  · obtain ⟨N, rfl⟩ : ∃ N : Nat, v3 = N := ⟨v3.toNat, by omega⟩
    have hn1 : ¬ q_sw (N : Int) < q_sw 1 := by rw [q_swn i3', sn 1 (by omega)]; omega
    have hn8 : ¬ q_sw 8 < q_sw (N : Int) := by rw [q_swn i3', sn 8 (by omega)]; omega
    obtain ⟨b, a1, a2⟩ := c_allT (f := f) (g := g) (x := x) (N := N) (by omega) N 0 1000 (by omega) (by omega)
    have a1' : p_Desk_allCanBeTyped x N f g = some (b, f, g) := a1
    have mtop : ∀ f1 g1, p_Mod_type x N f1 g1 = p_Mod_type_12 1000 x N 1 0 f1 g1 := fun f1 g1 => by
      unfold p_Mod_type
      rw [mw, Option.bind_some, if_pos hv]
    rcases a2 with ⟨a2, a3⟩ | ⟨a2, a3⟩
    · obtain ⟨len, hlen⟩ : ∃ len : Nat, f 1 1 = len := ⟨(f 1 1).toNat, by omega⟩
      have hsum : q_sw (f 1 1 + (N : Int)) ≤ q_sw 160 ↔ len + N ≤ 160 := by rw [hlen, q_swn (by omega), sn 160 (by omega)]; omega
      by_cases hs : len + N ≤ 160
      · -- typed
        obtain ⟨fd, d1, d2, d3, d4, d5, d6, d7⟩ := c_type55 (g := g) (x := x) N 1000 f len hlen hs (by omega) (by omega)
        have pD : p_Desk_type x N f g = some (((len + N : Nat) : Int), fd, g) := by
          unfold p_Desk_type
          rw [if_neg hn1, if_neg hn8, a1', Option.bind_some, if_neg (sw1 a2), if_pos (hsum.mpr hs)]
          exact d1
        have eL : p_Law_type x N f g = some (0, fd, ma_up g 97 0 (q_sw ((len + N : Nat) : Int))) := by
          unfold p_Law_type
          rw [pD, q_or_s]
          rfl
        have h6 : fd 60 6 = (len : Nat) := by rw [d2 60 (by omega) (by omega) (by omega), ← t4]; exact hlen
        obtain ⟨b2, m1, m2⟩ := m_allT (f := fd) (g := ma_up g 97 0 (q_sw ((len + N : Nat) : Int))) (x := x) (N := N) (by omega) N 0 1000 (by omega) (by omega)
        have hb2 : b2 = 1 := by
          rcases m2 with q | ⟨-, i, q1, q2⟩
          · exact q.1
          · exact absurd (a3 i (by omega) q1) q2
        obtain ⟨fn, e1, e2, e3, e4, e5, e6, e7⟩ := m_type94 (g := ma_up g 97 0 (q_sw ((len + N : Nat) : Int))) (x := x) N 1000 (ma_up fd 60 0 0) len (by rw [ma_up_at (by omega)]; exact h6) hs (by omega) (by omega)
        have eM : p_Mod_type x N fd (ma_up g 97 0 (q_sw ((len + N : Nat) : Int))) = some (((len + N : Nat) : Int), fn, ma_up g 97 0 (q_sw ((len + N : Nat) : Int))) := by
          rw [mtop]
          have m1' : p_Mod_type_12 1000 x N 1 0 fd (ma_up g 97 0 (q_sw ((len + N : Nat) : Int))) = p_Mod_type_50 x N b2 fd (ma_up g 97 0 (q_sw ((len + N : Nat) : Int))) := m1
          rw [m1']
          unfold p_Mod_type_50 p_Mod_type_77
          rw [if_neg (sw1 hb2), if_pos (show q_sw (fd 60 6 + (N : Int)) ≤ q_sw 160 by rw [h6, q_swn (by omega), sn 160 (by omega)]; omega)]
          dsimp only [q_let]
          rw [if_pos (show q_sw (ma_up fd 60 0 0 60 0) ≤ 0 by rw [ma_up_self]; decide)]
          exact e1
        have r60 : ∀ a, a ≠ 60 → a ≠ 66 → fn a = fd a := fun a c1 c2 => by rw [e2 a c1 c2, ma_up_ne c1]
        refine ⟨0, fd, _, eL, by omega, ((len + N : Nat) : Int), fn, eM, ?_, II.mk0 ?_ (fun k hk => ?_) ?_ e3 ?_ (fun j hj => ?_), fun _ => ma_up_self⟩
        · rw [e4 0 (by omega) (by omega), ma_up_self]
        · rw [r60 2 (by omega) (by omega), r60 1 (by omega) (by omega), d5, e5]
          have old : ∀ j : Nat, j < len → fd 2 j = f 2 j ∧ fn 66 j = f 66 j := fun j hj => ⟨d6 j hj, by rw [e6 j hj, ma_up_ne (by omega), d2 66 (by omega) (by omega) (by omega)]⟩
          have new : ∀ j : Nat, len ≤ j → j < len + N → fd 2 j = byt x (N - 1 - (j - len)) ∧ fn 66 j = byt x (N - 1 - (j - len)) := fun j c1 c2 => by
            have q1 := d7 (j - len) (by omega)
            have q2 := e7 (j - len) (by omega)
            rw [show len + (j - len) = j by omega] at q1 q2
            exact ⟨q1, q2⟩
          refine ⟨⟨by omega, by omega, fun j hj => ?_⟩, rfl, fun j hj => ?_⟩
          · by_cases c : j < len
            · rw [(old j c).1]
              exact t3 j (by omega)
            · rw [(new j (by omega) (by omega)).1]
              exact a3 _ (by omega) (by omega)
          · by_cases c : j < len
            · rw [(old j c).1, (old j c).2]
              exact t5 j (by omega)
            · rw [(new j (by omega) (by omega)).1, (new j (by omega) (by omega)).2]
        · rw [r60 (16 + k) (by omega) (by omega), r60 61 (by omega) (by omega), r60 62 (by omega) (by omega), r60 63 (by omega) (by omega), d2 (16 + k) (by omega) (by omega) (by omega), d2 61 (by omega) (by omega) (by omega), d2 62 (by omega) (by omega) (by omega), d2 63 (by omega) (by omega) (by omega)]
          exact l2 k hk
        · rw [r60 0 (by omega) (by omega)]
          exact d3
        · rw [r60 0 (by omega) (by omega), d4 7 (by omega), e4 10 (by omega) (by omega), ma_up_at (by omega), d2 60 (by omega) (by omega) (by omega)]
          exact l4
        · rw [r60 59 (by omega) (by omega), r60 96 (by omega) (by omega), d2 59 (by omega) (by omega) (by omega), d2 96 (by omega) (by omega) (by omega)]
          exact l5 j hj
      · -- too long
        have hn : ¬ q_sw (f 1 1 + (N : Int)) ≤ q_sw 160 := fun q => hs (hsum.mp q)
        have pD : p_Desk_type x N f g = none := by
          unfold p_Desk_type
          rw [if_neg hn1, if_neg hn8, a1', Option.bind_some, if_neg (sw1 a2), if_neg hn]
        have xD : x_Desk_type x N f g = some (1, f, g) := by
          unfold x_Desk_type
          rw [if_neg hn1, if_neg hn8, a1', Option.bind_some, if_neg (sw1 a2), if_neg hn]
        obtain ⟨b2, m1, m2⟩ := m_allT (f := f) (g := g) (x := x) (N := N) (by omega) N 0 1000 (by omega) (by omega)
        have hb2 : b2 = 1 := by
          rcases m2 with q | ⟨-, i, q1, q2⟩
          · exact q.1
          · exact absurd (a3 i (by omega) q1) q2
        refine ⟨2, f, g, ?_, by omega, 0, _, ?_, ma_up_self, h.thr, fun e => absurd e (by decide)⟩
        · unfold p_Law_type
          rw [pD, q_or_n, xD]
          rfl
        · rw [mtop]
          have m1' : p_Mod_type_12 1000 x N 1 0 f g = p_Mod_type_50 x N b2 f g := m1
          rw [m1']
          unfold p_Mod_type_50
          rw [if_neg (sw1 hb2), if_neg (show ¬ q_sw (f 60 6 + (N : Int)) ≤ q_sw 160 by rw [← t4]; exact hn)]
          exact m77 2 g (by omega) (by omega)
    · -- a character that can't be typed
      have pD : p_Desk_type x N f g = none := by
        unfold p_Desk_type p_Desk_type_19
        rw [if_neg hn1, if_neg hn8, a1', Option.bind_some, if_pos (sw0 a2)]
      have xD : x_Desk_type x N f g = some (0, f, g) := by
        unfold x_Desk_type x_Desk_type_19
        rw [if_neg hn1, if_neg hn8, a1', Option.bind_some, if_pos (sw0 a2)]
      obtain ⟨b2, m1, m2⟩ := m_allT (f := f) (g := g) (x := x) (N := N) (by omega) N 0 1000 (by omega) (by omega)
      have hb2 : b2 = 0 := by
        rcases m2 with q | q
        · obtain ⟨i, z1, z2⟩ := a3
          exact absurd (q.2 i (by omega) z1) z2
        · exact q.1
      refine ⟨1, f, g, ?_, by omega, 0, _, ?_, ma_up_self, h.thr, fun e => absurd e (by decide)⟩
      · unfold p_Law_type
        rw [pD, q_or_n, xD]
        rfl
      · rw [mtop]
        have m1' : p_Mod_type_12 1000 x N 1 0 f g = p_Mod_type_50 x N b2 f g := m1
        rw [m1']
        unfold p_Mod_type_50
        rw [if_pos (sw0 hb2)]
        exact m77 1 g (by omega) (by omega)
  · have cc : q_sw v3 < q_sw 1 ∨ (¬ q_sw v3 < q_sw 1 ∧ q_sw 8 < q_sw v3) := by
      rw [q_swn i3', sn 1 (by omega), sn 8 (by omega)]
      omega
    have pD : p_Desk_type x v3 f g = none := by
      unfold p_Desk_type p_Desk_type_19
      rcases cc with c | c
      · rw [if_pos c]
      · rw [if_neg c.1, if_pos c.2]
    have xD : x_Desk_type x v3 f g = some (0, f, g) := by
      unfold x_Desk_type x_Desk_type_19
      rcases cc with c | c
      · rw [if_pos c]
      · rw [if_neg c.1, if_pos c.2]
    refine ⟨1, f, g, ?_, by omega, 0, _, ?_, ma_up_self, h.thr, fun e => absurd e (by decide)⟩
    · unfold p_Law_type
      rw [pD, q_or_n, xD]
      rfl
    · unfold p_Mod_type
      rw [mw, Option.bind_some, if_neg hv]
      rw [p_Mod_type_12]
      unfold p_Mod_type_50
      rw [if_pos (sw0 rfl), if_pos (sw0 rfl), ite_self]
      exact m77 1 g (by omega) (by omega)
end TY
