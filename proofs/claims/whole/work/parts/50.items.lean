/-! ===== an item ===== -/
theorem cItem_r {f : q_F} {k v : Int} {a : Nat} (h8 : a ≠ 8) (h9 : a ≠ 9) (h10 : a ≠ 10) : cItem f k v a = f a := by
  unfold cItem
  rw [ma_up_ne h8, ma_up_ne h10, ma_up_ne h9]
theorem mItem_r {f : q_F} {v : Int} {a : Nat} (h60 : a ≠ 60) (h89 : a ≠ 89) : mItem f v a = f a := by
  unfold mItem
  rw [ma_up_ne h60, ma_up_ne h89]
theorem mItem_60 {f : q_F} {v : Int} {k : Nat} (h : k ≠ 37) : mItem f v 60 k = f 60 k := by
  unfold mItem
  rw [ma_up_ne2 (by omega), ma_up_ne (by decide)]
theorem XR.rows {fc fd fm fn : q_F} (h : XR fc fm) (c1 : fd 1 = fc 1) (c2 : fd 2 = fc 2) (c11 : fd 11 = fc 11) (c12 : fd 12 = fc 12) (c13 : fd 13 = fc 13) (c54 : fd 54 = fc 54) (m66 : fn 66 = fm 66) (m70 : fn 70 = fm 70) (m71 : fn 71 = fm 71) (m6 : fn 60 6 = fm 60 6) (m8 : fn 60 8 = fm 60 8) (m9 : fn 60 9 = fm 60 9) (m14 : fn 60 14 = fm 60 14) : XR fd fn := by
  unfold XR at *
  rw [c1, c2, c11, c12, c13, c54, m66, m70, m71, m6, m8, m9, m14]
  exact h
theorem RR.item {x y : Nat} {k v I : Int} {fc fm : q_F} (h : RR x y fc fm) (hi : itemok k v I) (hr : fc 8 2 < fc 54 2) (hu : k ≠ 1 → ∀ j : Nat, (j : Int) < fc 8 2 → fc 9 j = k → fc 10 j ≠ v) (h0 : k = 0 → fc (16 + v.toNat) 3 = 1) (h2 : k = 2 → fc (36 + v.toNat) 0 = 1 ∧ fc (36 + v.toNat) 1 = 0) : RR x y (cItem fc k v) (mItem fm I) := by
  obtain ⟨r1, r2, r3, ⟨i1, i2, i3, i4, i5⟩, r5, r6, r7⟩ := h
  have rc : ∀ a, a ≠ 8 → a ≠ 9 → a ≠ 10 → cItem fc k v a = fc a := fun a c1 c2 c3 => cItem_r c1 c2 c3
  have rm : ∀ a, a ≠ 60 → a ≠ 89 → mItem fm I a = fm a := fun a c1 c2 => mItem_r c1 c2
  have e8 : cItem fc k v 8 2 = fc 8 2 + 1 := by simp [cItem, ma_up]
  have e9 : ∀ j, cItem fc k v 9 j = if j = (fc 8 2).toNat then k else fc 9 j := fun j => by simp [cItem, ma_up]
  have e10 : ∀ j, cItem fc k v 10 j = if j = (fc 8 2).toNat then v else fc 10 j := fun j => by simp [cItem, ma_up]
  have e89 : ∀ j, mItem fm I 89 j = if j = (fc 8 2).toNat then I else fm 89 j := fun j => by rw [i1]; simp [mItem, ma_up]
  refine ⟨?_, fun r hr => ?_, fun k hk => ?_, ⟨?_, ?_, ?_, fun j hj => ?_, fun i j hij hj q1 q2 => ?_⟩, ⟨?_, ?_, fun k hk => ?_, fun i hi => ?_⟩, ⟨fun k hk kx ht => ?_, fun k l hk hl n1 n2 n3 t1 t2 => ?_⟩, fun v hv => ?_⟩
  · exact r1.rows (rc 1 (by omega) (by omega) (by omega)) (rc 2 (by omega) (by omega) (by omega)) (rc 11 (by omega) (by omega) (by omega)) (rc 12 (by omega) (by omega) (by omega)) (rc 13 (by omega) (by omega) (by omega)) (rc 54 (by omega) (by omega) (by omega)) (rm 66 (by omega) (by omega)) (rm 70 (by omega) (by omega)) (rm 71 (by omega) (by omega)) (mItem_60 (by omega)) (mItem_60 (by omega)) (mItem_60 (by omega)) (mItem_60 (by omega))
  · rw [rc (24 + r) (by omega) (by omega) (by omega), rm 67 (by omega) (by omega), rm 68 (by omega) (by omega), rm 69 (by omega) (by omega)]
    exact r2 r hr
  · rw [rc (16 + k) (by omega) (by omega) (by omega), rm 65 (by omega) (by omega), rm 64 (by omega) (by omega)]
    exact r3 k hk
  · rw [e8, i1]
    simp [mItem, ma_up]
  · rw [e8]
    omega
  · rw [e8, rc 54 (by omega) (by omega) (by omega)]
    omega
  · rw [e8] at hj
    rw [e9, e10, e89]
    by_cases hq : j = (fc 8 2).toNat
    · rw [if_pos hq, if_pos hq, if_pos hq]
      refine ⟨hi, fun e => ?_, fun e => ?_⟩
      · rw [rc _ (by omega) (by omega) (by omega)]
        exact h0 e
      · rw [rc _ (by omega) (by omega) (by omega)]
        exact h2 e
    · rw [if_neg hq, if_neg hq, if_neg hq, rc (16 + _) (by omega) (by omega) (by omega), rc (36 + _) (by omega) (by omega) (by omega)]
      exact i4 j (by omega)
  · rw [e8] at hj
    rw [e9, e9] at q1
    rw [e10, e10] at q2
    rw [e9]
    rw [if_neg (show ¬ i = (fc 8 2).toNat by omega)] at q1 q2 ⊢
    by_cases hq : j = (fc 8 2).toNat
    · rw [if_pos hq] at q1 q2
      by_cases hk : k = 1
      · rw [q1, hk]
      · exact absurd q2 (hu hk i (by omega) q1)
    · rw [if_neg hq] at q1 q2
      exact i5 i j hij (by omega) q1 q2
  · rw [rc 3 (by omega) (by omega) (by omega), mItem_60 (by omega)]
    exact r5.1
  · rw [rc 3 (by omega) (by omega) (by omega), rc 28 (by omega) (by omega) (by omega), rc 29 (by omega) (by omega) (by omega), rc 30 (by omega) (by omega) (by omega), rc 31 (by omega) (by omega) (by omega), rc 32 (by omega) (by omega) (by omega), rc 33 (by omega) (by omega) (by omega), rc 34 (by omega) (by omega) (by omega), rc 35 (by omega) (by omega) (by omega)]
    exact r5.2.1
  · rw [rc 3 (by omega) (by omega) (by omega), rc 14 (by omega) (by omega) (by omega), rc (28 + k) (by omega) (by omega) (by omega), rm 76 (by omega) (by omega), rm 77 (by omega) (by omega), rm 78 (by omega) (by omega)]
    exact r5.2.2.1 k hk
  · rw [rc 3 (by omega) (by omega) (by omega)] at hi
    have q := r5.2.2.2 i hi
    rw [rc 14 (by omega) (by omega) (by omega), rm 75 (by omega) (by omega), rm 78 (by omega) (by omega), rc (28 + (fc 14 i).toNat) (by omega) (by omega) (by omega)]
    exact q
  · rw [rc (28 + k) (by omega) (by omega) (by omega)] at ht
    obtain ⟨q1, q2, q3⟩ := r6.1 k hk kx ht
    refine ⟨?_, ?_, ?_⟩
    · unfold seAd at *
      rw [rc (28 + k) (by omega) (by omega) (by omega), rm 79 (by omega) (by omega), rm 80 (by omega) (by omega)]
      refine q1.imp id (fun q => ⟨q.1, q.2.ext ?_ ?_⟩)
      · rw [rc 11 (by omega) (by omega) (by omega)]
        exact Int.le_refl _
      · intro j _
        rw [rc 12 (by omega) (by omega) (by omega)]
    · unfold seIt at *
      rw [rc (28 + k) (by omega) (by omega) (by omega), rm 84 (by omega) (by omega), rm 85 (by omega) (by omega), e8]
      exact ⟨q2.1, q2.2.1, q2.2.2.1, q2.2.2.2.1, by omega⟩
    · unfold seHo rtold at *
      rw [rc (28 + k) (by omega) (by omega) (by omega), rm 81 (by omega) (by omega), rm 82 (by omega) (by omega), rm 83 (by omega) (by omega), rc (24 + (fc (28 + k) 6).toNat) (by omega) (by omega) (by omega), rc (24 + (fc (28 + k) 8).toNat) (by omega) (by omega) (by omega)]
      exact q3
  · rw [rc (28 + k) (by omega) (by omega) (by omega)] at t1 ⊢
    rw [rc (28 + l) (by omega) (by omega) (by omega)] at t2 ⊢
    exact r6.2 k l hk hl n1 n2 n3 t1 t2
  · obtain ⟨q1, q2, q3, q4, q5⟩ := r7 v hv
    rw [rc (36 + v) (by omega) (by omega) (by omega), rm 90 (by omega) (by omega), rm 91 (by omega) (by omega)]
    refine ⟨q1, q2, q3, q4, fun n t => ?_⟩
    have q6 := q5 n t
    unfold symok at *
    rw [rc (36 + v) (by omega) (by omega) (by omega), rm 92 (by omega) (by omega), rm 93 (by omega) (by omega), rm 94 (by omega) (by omega)]
    refine q6.imp id (fun q => ⟨q.1, q.2.1, q.2.2.ext ?_ ?_⟩)
    · rw [rc 11 (by omega) (by omega) (by omega)]
      exact Int.le_refl _
    · intro j _
      rw [rc 12 (by omega) (by omega) (by omega)]
