/-! ===== lay as a call; one turn of the law; the beginning ===== -/
section ST8
variable {f g : q_F}
theorem LD.join {fc fm f2 : q_F} (h : LD fc fm) (hc : ∀ a, a < 60 → f2 a = fc a) (hm : ∀ a, 60 ≤ a → f2 a = fm a) : LD f2 f2 := by
  obtain ⟨⟨a1, a2, a3⟩, b, c, d, e, cp⟩ := h
  refine ⟨⟨?_, ?_, ?_⟩, fun i hi => ?_, fun k hk => ?_, fun v hv => ?_, fun k hk => ?_, cp.ext (hc 3 (by omega)) (hc 15 (by omega)) (hc 14 (by omega)) (fun k hk => hc _ (by omega)) (fun i hi => ?_) a2⟩
  · rw [hc 3 (by omega), hm 60 (by omega)]
    exact a1
  · rw [hc 3 (by omega)]
    exact a2
  · rw [hc 3 (by omega)]
    exact a3
  · rw [hc 3 (by omega)] at hi
    obtain ⟨k, k1, k2, k3, k4⟩ := b i hi
    exact ⟨k, k1, by rw [hc 14 (by omega)]; exact k2, by rw [hm 75 (by omega)]; exact k3, by rw [hc (28 + k) (by omega)]; exact k4⟩
  · obtain ⟨c1, c2, c3⟩ := c k hk
    rw [hc (28 + k) (by omega), hm 76 (by omega)]
    refine ⟨c1, c2, fun t => ?_⟩
    obtain ⟨s1, s2, s3, s4, s5⟩ := c3 t
    unfold secL
    rw [hc (28 + k) (by omega), hm 86 (by omega), hm 87 (by omega), hm 88 (by omega), hm 83 (by omega), hm 84 (by omega), hm 85 (by omega), hm 89 (by omega), hc 9 (by omega), hc 10 (by omega)]
    refine ⟨s1, s2, s3, s4, fun j j1 j2 => ?_⟩
    obtain ⟨q1, q2⟩ := s5 j j1 j2
    refine ⟨q1, fun e0 => ?_⟩
    have q3 := q1
    unfold itemok at q3
    rw [hc (16 + (fc 10 j).toNat) (by omega)]
    exact q2 e0
  · rw [hc (36 + v) (by omega), hm 90 (by omega), hm 95 (by omega)]
    exact d v hv
  · rw [hc (16 + k) (by omega), hm 64 (by omega)]
    exact e k hk
  · obtain ⟨k, k1, k2, -⟩ := b i hi
    unfold ord
    omega
theorem call_lay (h : II f) : ∃ b f1 f2 g2, p_Desk_lay f g = some (b, f1, g) ∧ p_Mod_lay f1 g = some (b, f2, g2) ∧ II f2 := by
  obtain ⟨h1, h2, -, -, h5, -⟩ := id h
  obtain ⟨b, f1, fn0, gn0, a1, -, -, a4, -⟩ := lay_pair (g := g) (fc := f) (fm := f) h1 h2
  have r : ∀ a, 60 ≤ a → f1 a = f a := fun a ha => funext fun k => a4 a k (by omega)
  obtain ⟨b', f1', fn, gn, b1, b2, b3, b4, b5, b6, b7, b8, b9⟩ := lay_pair (g := g) (fc := f) (fm := f1) (by rw [r 66 (by omega), r 60 (by omega)]; exact h1) (fun k hk => by
    rw [r 61 (by omega), r 62 (by omega), r 63 (by omega)]
    exact h2 k hk)
  rw [a1] at b1
  cases b1
  have lo : ∀ a, a < 60 → fn a = f1 a := fun a ha => funext fun k => b5 a k (by omega)
  have up1 : ∀ a, ((61 ≤ a ∧ a ≤ 63) ∨ a = 66 ∨ 96 ≤ a) → fn a = f a := fun a ha => by
    rw [← r a (by omega)]
    exact funext fun k => b5 a k (by omega)
  have cl : ∀ a, (a = 1 ∨ a = 2 ∨ a = 59) → fn a = f a := fun a ha => by
    rw [lo a (by omega)]
    exact funext fun k => a4 a k (by omega)
  refine ⟨b, f1, fn, gn, a1, b2, ?_, fun k hk => ?_, ⟨?_, ?_⟩, ⟨?_, ?_⟩, fun j hj => ?_, fun e => ?_⟩
  · rw [cl 2 (by omega), cl 1 (by omega), up1 66 (by omega), b5 60 6 (by omega), r 60 (by omega)]
    exact h1
  · rw [lo (16 + k) (by omega), a4 (16 + k) 0 (by omega), a4 (16 + k) 1 (by omega), a4 (16 + k) 2 (by omega), up1 61 (by omega), up1 62 (by omega), up1 63 (by omega)]
    exact h2 k hk
  · rw [lo 0 (by omega)]
    rcases b9 with q | q
    · rw [q.2.1, q.2.2.1]
    · rw [q.2.1, q.2.2]
  · rw [lo 0 (by omega)]
    rcases b9 with q | q
    · exact Or.inr q.2.1
    · exact Or.inl q.2.1
  · rw [lo 0 (by omega)]
    exact b6
  · rw [lo 0 (by omega)]
    exact b7
  · rw [cl 59 (by omega), up1 96 (by omega)]
    exact h5 j hj
  · rw [lo 0 (by omega)] at e
    rcases b9 with q | q
    · exact q.2.2.2.join lo (fun a _ => rfl)
    · omega
theorem toI (x : Int32) : isI (Int32.toInt x) := by
  have h1 := Int32.le_toInt x
  have h2 := Int32.toInt_lt x
  unfold isI
  omega
/-- a call that answers a number, as the law asks -/
theorem askV {c : Int} {f1 g1 : q_F} {M : Option (Int × q_F × q_F)} {K : q_F → q_F → Option (Int × q_F × q_F)} {E : Int × q_F × q_F → Int × q_F × q_F → Option (Int × q_F × q_F)} (hc : 0 ≤ c ∧ c ≤ 3) (h : OutV c f1 g1 M) : ∃ f2, II f2 ∧ (M.bind fun x59 => (p_Mod_thrown x59.2.1 x59.2.2).bind fun x61 => if q_sw x61.1 = q_sw c then (if q_sw c = 0 then (if q_sw (q_lcmp (x61.2.2 97 (Int.toNat 0)) (q_sw x59.1)) = 0 then K x61.2.1 x61.2.2 else E x59 x61) else K x61.2.1 x61.2.2) else E x59 x61) = K f2 g1 := by
  obtain ⟨r, f2, e1, e2, e3, e4⟩ := h
  refine ⟨f2, e3, ?_⟩
  rw [e1, Option.bind_some]
  unfold p_Mod_thrown
  rw [Option.bind_some, if_pos (show q_sw (f2 60 0) = q_sw c by rw [e2])]
  dsimp only
  by_cases c0 : c = 0
  · rw [if_pos (sw0 c0), if_pos (show q_sw (q_lcmp (g1 97 (Int.toNat 0)) (q_sw r)) = 0 by rw [show g1 97 (Int.toNat 0) = q_sw r from e4 c0]; exact q_lcmp_self _)]
  · rw [if_neg (show ¬ q_sw c = 0 by rw [q_swn (by omega)]; exact c0)]
theorem cz_few : cz_fE 1 1 = 0 ∧ cz_fE 60 6 = 0 ∧ cz_fE 0 6 = 0 ∧ cz_fE 60 45 = 0 ∧ cz_fE 0 7 = cz_fE 60 10 ∧ -1 ≤ cz_fE 0 7 ∧ cz_fE 0 7 ≤ 160 := by decide +kernel
theorem cz_inp : ∀ k : Nat, k < 8 → cz_fE (16 + k) 0 = cz_fE 61 k ∧ (0 ≤ cz_fE (16 + k) 0 ∧ cz_fE (16 + k) 0 ≤ 40) ∧ cz_fE (16 + k) 1 = cz_fE 62 k ∧ cz_fE (16 + k) 1 = 1 ∧ cz_fE (16 + k) 2 = cz_fE 63 k ∧ 0 ≤ cz_fE (16 + k) 2 ∧ cz_fE (16 + k) 2 ≤ 255 := by decide +kernel
theorem cz_mem : ∀ j : Nat, j < 512 → cz_fE 59 j = cz_fE 96 j ∧ 0 ≤ cz_fE 59 j ∧ cz_fE 59 j ≤ 255 := by decide +kernel
theorem II_start : II cz_fE := by
  obtain ⟨e11, e606, e06, e45, e07, e07b, e07c⟩ := cz_few
  refine ⟨⟨⟨by rw [e11]; omega, by rw [e11]; omega, fun j hj => by rw [e11] at hj; omega⟩, by rw [e11, e606], fun j hj => by rw [e11] at hj; omega⟩, fun k hk => ?_, ⟨by rw [e06, e45], Or.inl e06⟩, ⟨e07, e07b, e07c⟩, cz_mem, fun e => by rw [e06] at e; omega⟩
  obtain ⟨q1, q2, q3, q4, q5, q6⟩ := cz_inp k hk
  exact ⟨q1, q2, q3, Or.inl q4, q5, q6⟩
end ST8
