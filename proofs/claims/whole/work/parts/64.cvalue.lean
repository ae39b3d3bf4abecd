/-! ===== the class reckons an expression ===== -/
section CV
variable {g : q_F}
theorem cB_rows {f f1 : q_F} (h : cB f) (r : ∀ a, a ≠ 55 → a ≠ 56 → f1 a = f a) : cB f1 := by
  refine ⟨fun v hv => ?_, fun k hk => ?_⟩
  · rw [r (36 + v) (by omega) (by omega)]
    exact h.1 v hv
  · rw [r (28 + k) (by omega) (by omega)]
    exact h.2 k hk
theorem cval_rows {f f1 : q_F} {k v : Int} (hv : 0 ≤ v ∧ v < 18) (hk : k = 1 ∨ v < 8) (r : ∀ a, a ≠ 55 → a ≠ 56 → f1 a = f a) : cval f1 k v = cval f k v := by
  unfold cval crd
  rw [r (36 + v.toNat) (by omega) (by omega)]
  by_cases e : k = 1
  · rw [if_pos e, if_pos e]
  · rw [if_neg e, if_neg e, r (28 + v.toNat) (by omega) (by omega)]
/-- ev1 looks at w only where the step can be made -/
theorem ev1_ext {w w2 : Int → Int → Option Int} {k v : Int} {st : List Int} (hk : ksok k v) (h : 1 ≤ k → k ≤ 4 → w2 k v = w k v) : ev1 w2 k v st = ev1 w k v st := by
  unfold ev1
  by_cases e0 : k = 0
  · rw [if_pos e0, if_pos e0]
  · rw [if_neg e0, if_neg e0]
    by_cases e4 : k ≤ 4
    · rw [if_pos e4, if_pos e4, h (by unfold ksok at hk; omega) e4]
    · rw [if_neg e4, if_neg e4]
theorem c_loop {K V : Nat → Int} : ∀ (n : Nat) (a : Nat) (st : List Int) (f : q_F) (fuel : Nat) (w : Int → Int → Option Int), n < fuel → f 12 = K → f 13 = V → (∀ j, a ≤ j → j < a + n → ksok (K j) (V j)) → wfs K n a (st.length : Nat) 1 → st.length + n ≤ 160 → a + n ≤ 160 → f 55 2 = (st.length : Nat) → stk (f 56) st → bnds st → cB f → (∀ k v, ksok k v → 1 ≤ k → k ≤ 4 → w k v = cval f k v) →
    ∃ fd, p_Reckoner_valueOf_7 fuel ((a + n : Nat) : Int) (a : Nat) f g = some (xcode (evl w K V n a st), fd, g) ∧ (∀ b, b ≠ 55 → b ≠ 56 → fd b = f b) ∧ (xcode (evl w K V n a st) = NY ∨ bnd (xcode (evl w K V n a st))) ∧ (∀ s, evl w K V n a st = some (some s) → xcode (evl w K V n a st) ≠ NY) := by
  intro n
  induction n with
  | zero =>
    intro a st f fuel w hfu h12 h13 hks hwf hr ha hh hs hb hB hw
    obtain ⟨fuel, rfl⟩ : ∃ k, fuel = k + 1 := ⟨fuel - 1, by omega⟩
    have h1 : (st.length : Int) = 1 := hwf
    cases st with
    | nil => simp at h1
    | cons x r =>
      have hx := hb x (List.mem_cons_self)
      refine ⟨ma_up f 55 2 (r.length : Nat), ?_, fun b h1 _ => ?_, Or.inr hx, fun s _ => ?_⟩
      · rw [p_Reckoner_valueOf_7, if_pos (show q_sw ((a + 0 : Nat) : Int) ≤ q_sw (a : Int) from Int.le_refl _), c_pop hh (by omega) hs, Option.bind_some]
        rfl
      · exact ma_up_ne h1
      · show x ≠ NY
        unfold bnd at hx
        unfold NY
        omega
  | succ n ih =>
    intro a st f fuel w hfu h12 h13 hks hwf hr ha hh hs hb hB hw
    obtain ⟨fuel, rfl⟩ : ∃ k, fuel = k + 1 := ⟨fuel - 1, by omega⟩
    have hk := hks a (Nat.le_refl _) (by omega)
    have hwe : ev1 w (K a) (V a) st = ev1 (cval f) (K a) (V a) st := ev1_ext hk (fun c1 c2 => hw _ _ hk c1 c2)
    have h2 : K a = 5 ∨ K a = 6 → 2 ≤ st.length := fun q => by
      rcases hwf with p | p | p <;> omega
    have h1 : K a = 7 → 1 ≤ st.length := fun q => by
      rcases hwf with p | p | p <;> omega
    obtain ⟨z, f1, e1, e2, e3⟩ := c_step (g := g) hk hh (by omega) hs hb hB rfl h2 h1
    rw [← hwe] at e3
    rw [p_Reckoner_valueOf_7, q_swn (show -2147483648 ≤ ((a + (n + 1) : Nat) : Int) ∧ ((a + (n + 1) : Nat) : Int) ≤ 2147483647 by omega), q_swn (show -2147483648 ≤ (a : Int) ∧ (a : Int) ≤ 2147483647 by omega), if_neg (by omega), if_pos (by omega), if_pos (by omega), Int.toNat_natCast, h12, h13, e1, Option.bind_some]
    dsimp only
    unfold p_Reckoner_valueOf_59
    rcases e3 with ⟨r, q1, q2, q3, q4, q5, q6, q7, q8, q9, q10⟩ | ⟨q1, q2⟩
    · have e56 : f1 56 = f 56 := e2 56 (by omega)
      have ez : q_sw z = z := q_swn (by unfold bnd at q3; omega)
      rw [if_neg (show ¬ q_sw z = q_sw (-1000000000) by rw [ez, NY_sw]; exact q2), if_pos (show q_sw (f1 55 2) < q_sw 160 by rw [q4, q_swn (by omega), q_swn (by omega)]; omega), if_pos (show 0 ≤ f1 55 2 ∧ f1 55 2 < 160 by rw [q4]; omega)]
      simp only [q_let]
      have e55 : ma_up f1 56 (f1 55 2).toNat z 55 2 = (r.length : Nat) := by rw [ma_up_ne (by omega)]; exact q4
      rw [e55]
      have l2 : ((z :: r).length : Nat) = r.length + 1 := rfl
      have hst : stk (ma_up (ma_up f1 56 (f1 55 2).toNat z) 55 2 ((r.length : Nat) + 1 : Int) 56) (z :: r) := by
        have e : ma_up (ma_up f1 56 (f1 55 2).toNat z) 55 2 ((r.length : Nat) + 1 : Int) 56 = fun i => if i = r.length then z else f 56 i := by
          funext i
          rw [ma_up_ne (by omega), q4, Int.toNat_natCast]
          simp [ma_up, e56]
        rw [e]
        exact ⟨by simp, stk_up r (Nat.le_refl _) q6⟩
      have hwf2 : wfs K n (a + 1) ((z :: r).length : Nat) 1 := by
        rcases hwf with p | p | p
        · have := q8 p.1
          rw [l2, this]
          exact p.2
        · have := q9 p.1
          rw [l2, show ((r.length + 1 : Nat) : Int) = (st.length : Int) - 1 by omega]
          exact p.2.2
        · have := q10 p.1
          rw [l2, show ((r.length + 1 : Nat) : Int) = (st.length : Int) by omega]
          exact p.2.2
      have rows : ∀ b, b ≠ 55 → b ≠ 56 → ma_up (ma_up f1 56 (f1 55 2).toNat z) 55 2 ((r.length : Nat) + 1 : Int) b = f b := fun b c1 c2 => by rw [ma_up_ne c1, ma_up_ne c2, e2 b c1]
      obtain ⟨fd, d1, d2, d3, d4⟩ := ih (a + 1) (z :: r) _ fuel w (by omega) ((rows 12 (by omega) (by omega)).trans h12) ((rows 13 (by omega) (by omega)).trans h13) (fun j c1 c2 => hks j (by omega) (by omega)) hwf2 (by simp only [List.length_cons]; omega) (by omega) (by rw [ma_up_self, l2]; omega) hst (fun y hy => by
          rcases List.mem_cons.mp hy with p | p
          · rw [p]
            exact q3
          · exact q7 y p) (cB_rows hB rows) (fun k v hkv c1 c2 => by
          rw [hw k v hkv c1 c2]
          unfold ksok at hkv
          exact (cval_rows (by omega) (by omega) rows).symm)
      have ee : evl w K V (n + 1) a st = evl w K V n (a + 1) (z :: r) := by
        rw [evl, q1]
      rw [ee]
      refine ⟨fd, ?_, fun b c1 c2 => (d2 b c1 c2).trans (rows b c1 c2), d3, d4⟩
      rw [← d1]
      congr 1 <;> omega
    · rw [q1, if_pos (show q_sw NY = q_sw (-1000000000) from rfl)]
      rcases q2 with q2 | q2
      · have ee : evl w K V (n + 1) a st = none := by rw [evl, q2]
        rw [ee]
        exact ⟨f1, rfl, fun b c1 _ => e2 b c1, Or.inl rfl, fun s hs => by cases hs⟩
      · have ee : evl w K V (n + 1) a st = some none := by rw [evl, q2]
        rw [ee]
        exact ⟨f1, rfl, fun b c1 _ => e2 b c1, Or.inl rfl, fun s hs => by cases hs⟩
/-- an expression's value in a store -/
def evx (f : q_F) (a b : Int) : Option (Option (List Int)) := evl (cval f) (f 12) (f 13) (b - a).toNat a.toNat []
theorem c_value {f : q_F} {a b : Int} (h0 : 0 ≤ a) (h1 : a < b) (h2 : b ≤ 160) (hks : ∀ j : Nat, (j : Int) < b → ksok (f 12 j) (f 13 j)) (hwf : WF (f 12) a b 0 1) (hB : cB f) : ∃ fd, p_Reckoner_valueOf a b f g = some (xcode (evx f a b), fd, g) ∧ (∀ c, c ≠ 55 → c ≠ 56 → fd c = f c) ∧ (xcode (evx f a b) = NY ∨ bnd (xcode (evx f a b))) ∧ (∀ s, evx f a b = some (some s) → xcode (evx f a b) ≠ NY) := by
  have rows : ∀ c, c ≠ 55 → c ≠ 56 → ma_up f 55 2 0 c = f c := fun c c1 _ => ma_up_ne c1
  obtain ⟨fd, d1, d2, d3, d4⟩ := c_loop (g := g) (b - a).toNat a.toNat [] (ma_up f 55 2 0) 1000 (cval f) (by omega) (rows 12 (by omega) (by omega)) (rows 13 (by omega) (by omega)) (fun j c1 c2 => hks j (by omega)) hwf (by simp only [List.length_nil]; omega) (by omega) (by rw [ma_up_self]; rfl) trivial (fun x hx => by cases hx) (cB_rows hB rows) (fun k v hkv c1 c2 => by
    unfold ksok at hkv
    exact (cval_rows (by omega) (by omega) rows).symm)
  refine ⟨fd, ?_, fun c c1 c2 => (d2 c c1 c2).trans (rows c c1 c2), d3, d4⟩
  unfold p_Reckoner_valueOf evx
  rw [← d1]
  simp only [q_let]
  congr 1 <;> omega
end CV
