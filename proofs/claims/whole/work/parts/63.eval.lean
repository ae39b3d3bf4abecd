/-! ===== an expression's value: none (something unknown), some none (unsound), some (some stack) ===== -/
def ev1 (w : Int → Int → Option Int) (k v : Int) (st : List Int) : Option (Option (List Int)) :=
  if k = 0 then some (some (v :: st))
  else if k ≤ 4 then (match w k v with
    | some z => some (some (z :: st))
    | none => none)
  else if k = 7 then (match st with
    | x :: r => if 0 ≤ x ∧ up x v ≤ 100000 then some (some (up x v :: r)) else some none
    | [] => some none)
  else (match st with
    | y :: x :: r => if -100000 ≤ (if k = 5 then x + y else x - y) ∧ (if k = 5 then x + y else x - y) ≤ 100000 then some (some ((if k = 5 then x + y else x - y) :: r)) else some none
    | _ => some none)
def evl (w : Int → Int → Option Int) (K V : Nat → Int) : Nat → Nat → List Int → Option (Option (List Int))
  | 0, _, st => some (some st)
  | n + 1, a, st => match ev1 w (K a) (V a) st with
    | some (some st') => evl w K V n (a + 1) st'
    | some none => some none
    | none => none
def xcode : Option (Option (List Int)) → Int
  | some (some (x :: _)) => x
  | _ => NY
def stk (F : Nat → Int) : List Int → Prop
  | [] => True
  | x :: r => F r.length = x ∧ stk F r
def bnd (z : Int) : Prop := -1000000 ≤ z ∧ z ≤ 1000000
def bnds (st : List Int) : Prop := ∀ x ∈ st, bnd x
theorem stk_up {F : Nat → Int} {j : Nat} {v : Int} : ∀ (st : List Int), st.length ≤ j → stk F st → stk (fun i => if i = j then v else F i) st
  | [], _, _ => trivial
  | x :: r, h, hs => by
    simp only [List.length_cons] at h
    refine ⟨?_, stk_up r (by omega) hs.2⟩
    show (if r.length = j then v else F r.length) = x
    rw [if_neg (by omega)]
    exact hs.1
def crd (f : q_F) (k v : Int) : Int := if k = 1 then f (36 + v.toNat) 4 else if k = 2 then f (28 + v.toNat) 9 else if k = 3 then f (28 + v.toNat) 11 else f (28 + v.toNat) 10
def cval (f : q_F) (k v : Int) : Option Int := if crd f k v = NY then none else some (crd f k v)
/-- a step that can be made -/
def ksok (k v : Int) : Prop := (k = 0 ∧ 0 ≤ v ∧ v ≤ 9999) ∨ (k = 1 ∧ 0 ≤ v ∧ v < 18) ∨ ((k = 2 ∨ k = 3 ∨ k = 4) ∧ 0 ≤ v ∧ v < 8) ∨ (k = 5 ∨ k = 6) ∨ (k = 7 ∧ pw64 v)
theorem stepok.ks {k v V : Int} (h : stepok k v V) : ksok k v := by
  unfold stepok at h
  unfold ksok
  rcases h with h | h | h | h | h
  · exact Or.inl ⟨h.1, h.2.2⟩
  · exact Or.inr (Or.inl ⟨h.1, h.2.2⟩)
  · exact Or.inr (Or.inr (Or.inl ⟨h.1, h.2.2⟩))
  · exact Or.inr (Or.inr (Or.inr (Or.inl h)))
  · exact Or.inr (Or.inr (Or.inr (Or.inr ⟨h.1, h.2.2⟩)))
/-- all that is known is small -/
def cB (f : q_F) : Prop := (∀ v : Nat, v < 18 → f (36 + v) 4 = NY ∨ bnd (f (36 + v) 4)) ∧ ∀ k : Nat, k < 8 → (f (28 + k) 9 = NY ∨ bnd (f (28 + k) 9)) ∧ (f (28 + k) 10 = NY ∨ bnd (f (28 + k) 10)) ∧ (f (28 + k) 11 = NY ∨ bnd (f (28 + k) 11))
theorem crd_b {f : q_F} {k v : Int} (h : cB f) (hk : ksok k v) (h1 : 1 ≤ k ∧ k ≤ 4) : crd f k v = NY ∨ bnd (crd f k v) := by
  unfold ksok at hk
  unfold crd
  by_cases e1 : k = 1
  · rw [if_pos e1]
    exact h.1 v.toNat (by omega)
  · rw [if_neg e1]
    by_cases e2 : k = 2
    · rw [if_pos e2]
      exact (h.2 v.toNat (by omega)).1
    · rw [if_neg e2]
      by_cases e3 : k = 3
      · rw [if_pos e3]
        exact (h.2 v.toNat (by omega)).2.2
      · rw [if_neg e3]
        exact (h.2 v.toNat (by omega)).2.1
theorem NY_sw : q_sw (-1000000000) = -1000000000 := q_swn (by omega)
section CE
variable {f g : q_F}
theorem c_pop {x : Int} {r : List Int} (hh : f 55 2 = ((x :: r).length : Nat)) (hl : (x :: r).length ≤ 160) (hs : stk (f 56) (x :: r)) : p_Reckoner_pop f g = some (x, ma_up f 55 2 (r.length : Nat), g) := by
  simp only [List.length_cons] at hh hl
  unfold p_Reckoner_pop
  have e : f 55 2 - 1 = (r.length : Nat) := by omega
  rw [if_neg (show ¬ q_sw (f 55 2) = 0 by rw [q_swn (by omega)]; omega)]
  simp only [q_let]
  rw [e, if_pos (show 0 ≤ ma_up f 55 2 (r.length : Nat) 55 2 ∧ ma_up f 55 2 (r.length : Nat) 55 2 < 160 by rw [ma_up_self]; omega), ma_up_self, Int.toNat_natCast, ma_up_ne (by omega), hs.1]
theorem c_allowed {z : Int} (hz : -4000000 ≤ z ∧ z ≤ 4000000) : p_Reckoner_allowed z f g = some (if -100000 ≤ z ∧ z ≤ 100000 then z else -1000000000, f, g) := by
  unfold p_Reckoner_allowed p_Reckoner_allowed_16 p_Reckoner_allowed_18
  rw [q_swn (show -2147483648 ≤ z ∧ z ≤ 2147483647 by omega), q_swn (show -2147483648 ≤ (-100000 : Int) ∧ (-100000 : Int) ≤ 2147483647 by omega), q_swn (show -2147483648 ≤ (100000 : Int) ∧ (100000 : Int) ≤ 2147483647 by omega)]
  by_cases h1 : z < -100000
  · rw [if_pos h1, if_neg (by omega)]
  · rw [if_neg h1]
    by_cases h2 : 100000 < z
    · rw [if_pos h2, if_neg (by omega)]
    · rw [if_neg h2, if_pos (by omega)]
/-- one step of the class -/
theorem c_step {w : Int → Int → Option Int} {k v : Int} {st : List Int} (hk : ksok k v) (hh : f 55 2 = (st.length : Nat)) (hl : st.length ≤ 160) (hs : stk (f 56) st) (hb : bnds st) (hB : cB f) (hw : w = cval f) (h2 : k = 5 ∨ k = 6 → 2 ≤ st.length) (h1 : k = 7 → 1 ≤ st.length) :
    ∃ z f1, p_Reckoner_valueOfStep k v f g = some (z, f1, g) ∧ (∀ a, a ≠ 55 → f1 a = f a) ∧ (
      (∃ r, ev1 w k v st = some (some (z :: r)) ∧ z ≠ NY ∧ bnd z ∧ f1 55 2 = (r.length : Nat) ∧ r.length ≤ st.length ∧ stk (f 56) r ∧ bnds r ∧ (k ≤ 4 → r.length = st.length) ∧ (k = 5 ∨ k = 6 → r.length + 2 = st.length) ∧ (k = 7 → r.length + 1 = st.length)) ∨
      (z = NY ∧ (ev1 w k v st = none ∨ ev1 w k v st = some none))) := by
  have rd : ∀ c : Int, (1 ≤ k ∧ k ≤ 4) → crd f k v = c → (∃ r, ev1 w k v st = some (some (c :: r)) ∧ c ≠ NY ∧ bnd c ∧ f 55 2 = (r.length : Nat) ∧ r.length ≤ st.length ∧ stk (f 56) r ∧ bnds r ∧ (k ≤ 4 → r.length = st.length) ∧ (k = 5 ∨ k = 6 → r.length + 2 = st.length) ∧ (k = 7 → r.length + 1 = st.length)) ∨ (c = NY ∧ (ev1 w k v st = none ∨ ev1 w k v st = some none)) := by
    intro c hk4 hc
    by_cases hN : c = NY
    · refine Or.inr ⟨hN, Or.inl ?_⟩
      unfold ev1
      rw [if_neg (by omega), if_pos hk4.2, hw]
      unfold cval
      rw [if_pos (hc.trans hN)]
    · refine Or.inl ⟨st, ?_, hN, ?_, hh, Nat.le_refl _, hs, hb, fun _ => rfl, fun q => by omega, fun q => by omega⟩
      · unfold ev1
        rw [if_neg (by omega), if_pos hk4.2, hw]
        unfold cval
        rw [if_neg (fun q => hN (hc.symm.trans q)), hc]
      · have := crd_b hB hk hk4
        rw [hc] at this
        exact this.resolve_left hN
  unfold p_Reckoner_valueOfStep
  have hk' := hk
  unfold ksok at hk'
  by_cases e0 : k = 0
  · subst e0
    rw [if_pos (sw0 rfl)]
    refine ⟨v, f, rfl, fun _ _ => rfl, Or.inl ⟨st, by unfold ev1; rw [if_pos rfl], ?_, ?_, hh, Nat.le_refl _, hs, hb, fun _ => rfl, fun q => by omega, fun q => by omega⟩⟩
    · unfold NY
      omega
    · unfold bnd
      omega
  · rw [q_swn (show -2147483648 ≤ k ∧ k ≤ 2147483647 by omega), if_neg e0]
    by_cases e1 : k = 1
    · rw [if_pos e1, if_pos (by omega)]
      refine ⟨_, f, rfl, fun _ _ => rfl, rd _ (by omega) ?_⟩
      unfold crd
      rw [if_pos e1]
    · rw [if_neg e1]
      by_cases e2 : k = 2
      · rw [if_pos e2, if_pos (by omega)]
        refine ⟨_, f, rfl, fun _ _ => rfl, rd _ (by omega) ?_⟩
        unfold crd
        rw [if_neg e1, if_pos e2]
      · rw [if_neg e2]
        by_cases e3 : k = 3
        · rw [if_pos e3, if_pos (by omega)]
          refine ⟨_, f, rfl, fun _ _ => rfl, rd _ (by omega) ?_⟩
          unfold crd
          rw [if_neg e1, if_neg e2, if_pos e3]
        · rw [if_neg e3]
          by_cases e4 : k = 4
          · rw [if_pos e4, if_pos (by omega)]
            refine ⟨_, f, rfl, fun _ _ => rfl, rd _ (by omega) ?_⟩
            unfold crd
            rw [if_neg e1, if_neg e2, if_neg e3]
          · rw [if_neg e4]
            by_cases e7 : k = 7
            · rw [if_neg (by omega), if_neg (by omega), if_pos e7]
              have hp : pw64 v := by rcases hk' with q | q | q | q | q <;> first | omega | exact q.2
              have l1 := h1 e7
              cases st with
              | nil => simp at l1
              | cons x r =>
                unfold p_Reckoner_raisedTop p_Reckoner_raisedTop_22
                have hx := hb x (List.mem_cons_self)
                unfold bnd at hx
                have hu := up_b (x := x) hp
                rw [c_pop hh hl hs, Option.bind_some]
                dsimp only
                rw [q_swn (show -2147483648 ≤ x ∧ x ≤ 2147483647 by omega)]
                by_cases hx0 : 0 ≤ x
                · rw [if_pos hx0, c_raise (by omega) hp, Option.bind_some]
                  dsimp only
                  rw [c_allowed (by omega), Option.bind_some, Option.bind_some]
                  refine ⟨_, _, rfl, fun a ha => ma_up_ne ha, ?_⟩
                  by_cases hr : up x v ≤ 100000
                  · rw [if_pos (by omega)]
                    refine Or.inl ⟨r, ?_, ?_, ?_, (show ma_up f 55 2 (r.length : Nat) 55 2 = _ from ma_up_self), by simp, hs.2, fun y hy => hb y (List.mem_cons_of_mem _ hy), fun q => by omega, fun q => by omega, fun _ => by simp⟩
                    · unfold ev1
                      rw [if_neg e0, if_neg (by omega), if_pos e7]
                      exact if_pos ⟨hx0, hr⟩
                    · unfold NY
                      omega
                    · unfold bnd
                      omega
                  · rw [if_neg (by omega)]
                    refine Or.inr ⟨rfl, Or.inr ?_⟩
                    unfold ev1
                    rw [if_neg e0, if_neg (by omega), if_pos e7]
                    exact if_neg (fun q => hr q.2)
                · rw [if_neg hx0, Option.bind_some]
                  refine ⟨_, _, rfl, fun a ha => ma_up_ne ha, Or.inr ⟨rfl, Or.inr ?_⟩⟩
                  unfold ev1
                  rw [if_neg e0, if_neg (by omega), if_pos e7]
                  exact if_neg (fun q => hx0 q.1)
            · have e56 : k = 5 ∨ k = 6 := by omega
              have l2 := h2 e56
              cases st with
              | nil => simp at l2
              | cons y r1 =>
                cases r1 with
                | nil => simp at l2
                | cons x r =>
                  have hy := hb y (List.mem_cons_self)
                  have hx := hb x (List.mem_cons_of_mem _ (List.mem_cons_self))
                  unfold bnd at hx hy
                  have q1 := c_pop (g := g) hh hl hs
                  have q2 : p_Reckoner_pop (ma_up f 55 2 ((x :: r).length : Nat)) g = some (x, ma_up (ma_up f 55 2 ((x :: r).length : Nat)) 55 2 (r.length : Nat), g) := c_pop ma_up_self (by simp only [List.length_cons] at hl ⊢; omega) (by rw [ma_up_ne (by omega)]; exact hs.2)
                  have jt : ∀ s : Int, (s = 1 ∨ s = -1) → ((p_Reckoner_joinedTop s f g).bind fun x11 => some (x11.1, x11.2.1, x11.2.2)) = some (if -100000 ≤ x + s * y ∧ x + s * y ≤ 100000 then x + s * y else -1000000000, ma_up (ma_up f 55 2 ((x :: r).length : Nat)) 55 2 (r.length : Nat), g) := by
                    intro s hs1
                    unfold p_Reckoner_joinedTop
                    rw [q1, Option.bind_some]
                    dsimp only
                    rw [q2, Option.bind_some]
                    dsimp only
                    rw [c_allowed (by rcases hs1 with q | q <;> subst q <;> omega), Option.bind_some, Option.bind_some]
                  have fin : ∀ z, z = (if k = 5 then x + y else x - y) → ∃ z1 f1, some ((if -100000 ≤ z ∧ z ≤ 100000 then z else -1000000000 : Int), ma_up (ma_up f 55 2 ((x :: r).length : Nat)) 55 2 (r.length : Nat), g) = some (z1, f1, g) ∧ (∀ a, a ≠ 55 → f1 a = f a) ∧ (
      (∃ r1, ev1 w k v (y :: x :: r) = some (some (z1 :: r1)) ∧ z1 ≠ NY ∧ bnd z1 ∧ f1 55 2 = (r1.length : Nat) ∧ r1.length ≤ (y :: x :: r).length ∧ stk (f 56) r1 ∧ bnds r1 ∧ (k ≤ 4 → r1.length = (y :: x :: r).length) ∧ (k = 5 ∨ k = 6 → r1.length + 2 = (y :: x :: r).length) ∧ (k = 7 → r1.length + 1 = (y :: x :: r).length)) ∨
      (z1 = NY ∧ (ev1 w k v (y :: x :: r) = none ∨ ev1 w k v (y :: x :: r) = some none))) := by
                    intro z hz
                    refine ⟨_, _, rfl, fun a ha => by rw [ma_up_ne ha, ma_up_ne ha], ?_⟩
                    by_cases hr : -100000 ≤ z ∧ z ≤ 100000
                    · rw [if_pos hr]
                      refine Or.inl ⟨r, ?_, ?_, ?_, ma_up_self, by simp; omega, hs.2.2, fun u hu => hb u (List.mem_cons_of_mem _ (List.mem_cons_of_mem _ hu)), fun q => by omega, fun _ => by simp, fun q => by omega⟩
                      · unfold ev1
                        rw [if_neg e0, if_neg (by omega), if_neg e7]
                        dsimp only
                        rw [← hz, if_pos hr]
                      · unfold NY
                        omega
                      · unfold bnd
                        omega
                    · rw [if_neg hr]
                      refine Or.inr ⟨rfl, Or.inr ?_⟩
                      unfold ev1
                      rw [if_neg e0, if_neg (by omega), if_neg e7]
                      dsimp only
                      rw [← hz, if_neg hr]
                  by_cases e5 : k = 5
                  · rw [if_pos e5, jt 1 (Or.inl rfl)]
                    exact fin _ (by rw [if_pos e5]; omega)
                  · rw [if_neg e5, if_pos (by omega), jt (-1) (Or.inr rfl)]
                    exact fin _ (by rw [if_neg e5]; omega)
end CE
