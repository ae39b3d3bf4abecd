/-! ===== parts of the relation carry over ===== -/
section EXT
variable {fc fd fm fn : q_F} {x y : Nat}
theorem gReg.ext (h : gReg fc fm) (c : ∀ a, 24 ≤ a → a < 28 → fd a = fc a) (m : ∀ a, 67 ≤ a → a ≤ 69 → fn a = fm a) : gReg fd fn := fun r hr => by
  rw [c (24 + r) (by omega) (by omega), m 67 (by omega) (by omega), m 68 (by omega) (by omega), m 69 (by omega) (by omega)]
  exact h r hr
theorem gUse.ext (h : gUse fc fm) (c : ∀ a, 16 ≤ a → a < 24 → fd a = fc a) (m : ∀ a, 64 ≤ a → a ≤ 65 → fn a = fm a) : gUse fd fn := fun k hk => by
  rw [c (16 + k) (by omega) (by omega), m 64 (by omega) (by omega), m 65 (by omega) (by omega)]
  exact h k hk
theorem gItm.ext (h : gItm fc fm) (c8 : fd 8 2 = fc 8 2) (c9 : fd 9 = fc 9) (c10 : fd 10 = fc 10) (c54 : fc 54 2 ≤ fd 54 2) (m37 : fn 60 37 = fm 60 37) (m89 : fn 89 = fm 89) (c16 : ∀ a, 16 ≤ a → a < 24 → fc a 3 = 1 → fd a 3 = 1) (c36 : ∀ a, 36 ≤ a → a < 54 → fc a 0 = 1 → fc a 1 = 0 → fd a 0 = 1 ∧ fd a 1 = 0) : gItm fd fn := by
  obtain ⟨i1, i2, i3, i4, i5⟩ := h
  unfold gItm
  rw [c8, c9, c10, m37, m89]
  refine ⟨i1, i2, by omega, fun j hj => ?_, i5⟩
  obtain ⟨q1, q2, q3⟩ := i4 j hj
  have q4 := q1
  unfold itemok at q4
  exact ⟨q1, fun e => c16 _ (by omega) (by omega) (q2 e), fun e => c36 _ (by omega) (by omega) (q3 e).1 (q3 e).2⟩
theorem gTol.ext (h : gTol fc fm) (c3 : fd 3 7 = fc 3 7) (c14 : fd 14 = fc 14) (c : ∀ a, 28 ≤ a → a < 36 → fd a 0 = fc a 0 ∧ fd a 9 = fc a 9 ∧ fd a 10 = fc a 10 ∧ fd a 11 = fc a 11 ∧ (fc a 0 = 0 → fd a = fc a)) (m22 : fn 60 22 = fm 60 22) (m : ∀ a, 75 ≤ a → a ≤ 78 → fn a = fm a) : gTol fd fn := by
  obtain ⟨t1, t2, t3, t4⟩ := h
  refine ⟨?_, ?_, fun k hk => ?_, fun i hi => ?_⟩
  · rw [c3, m22]
    exact t1
  · rw [c3, (c 28 (by omega) (by omega)).1, (c 29 (by omega) (by omega)).1, (c 30 (by omega) (by omega)).1, (c 31 (by omega) (by omega)).1, (c 32 (by omega) (by omega)).1, (c 33 (by omega) (by omega)).1, (c 34 (by omega) (by omega)).1, (c 35 (by omega) (by omega)).1]
    exact t2
  · obtain ⟨q1, q2, q3, q4, q5⟩ := c (28 + k) (by omega) (by omega)
    obtain ⟨p1, p2, p3, p4, p5⟩ := t3 k hk
    rw [q1, q2, q3, q4, c3, c14, m 76 (by omega) (by omega), m 77 (by omega) (by omega), m 78 (by omega) (by omega)]
    refine ⟨p1, p2, p3, p4, fun e => ?_⟩
    rw [q5 e]
    exact p5 e
  · rw [c3] at hi
    have q := t4 i hi
    rw [c14, m 75 (by omega) (by omega), m 78 (by omega) (by omega), (c (28 + (fc 14 i).toNat) (by omega) (by omega)).1]
    exact q
theorem gSec.ext (h : gSec x fc fm) (c : ∀ k, k < 8 → k ≠ x → fd (28 + k) = fc (28 + k)) (m : ∀ k, k < 8 → k ≠ x → fn 79 k = fm 79 k ∧ fn 80 k = fm 80 k ∧ fn 81 k = fm 81 k ∧ fn 82 k = fm 82 k ∧ fn 83 k = fm 83 k ∧ fn 84 k = fm 84 k ∧ fn 85 k = fm 85 k) (c8 : fc 8 2 ≤ fd 8 2) (c11 : fc 11 2 ≤ fd 11 2) (c12 : ∀ j : Nat, (j : Int) < fc 11 2 → fd 12 j = fc 12 j) (cr : ∀ a, 24 ≤ a → a < 28 → fc a 0 = 1 → fd a 0 = 1) : gSec x fd fn := by
  obtain ⟨h1, h2⟩ := h
  refine ⟨fun k hk kx ht => ?_, fun k l hk hl n1 n2 n3 t1 t2 => ?_⟩
  · obtain ⟨m1, m2, m3, m4, m5, m6, m7⟩ := m k hk kx
    rw [c k hk kx] at ht
    obtain ⟨q1, q2, q3⟩ := h1 k hk kx ht
    refine ⟨?_, ?_, ?_⟩
    · unfold seAd at *
      rw [c k hk kx, m1, m2]
      exact q1.imp id (fun q => ⟨q.1, q.2.ext c11 c12⟩)
    · unfold seIt at *
      rw [c k hk kx, m6, m7]
      exact ⟨q2.1, q2.2.1, q2.2.2.1, q2.2.2.2.1, by omega⟩
    · unfold seHo rtold at *
      obtain ⟨q4, q5, q6, q7, q8⟩ := q3
      rw [c k hk kx, m3, m4, m5]
      refine ⟨q4, ⟨q5.1, q5.2.1, cr _ (by omega) (by omega) q5.2.2⟩, q6, ?_, q8⟩
      rcases q7 with q7 | q7
      · exact Or.inl q7
      · exact Or.inr ⟨⟨q7.1.1, q7.1.2.1, cr _ (by omega) (by omega) q7.1.2.2⟩, q7.2⟩
  · rw [c k hk n2] at t1 ⊢
    rw [c l hl n3] at t2 ⊢
    exact h2 k l hk hl n1 n2 n3 t1 t2
theorem gSym.ext (h : gSym y fc fm) (c : ∀ v, v < 18 → v ≠ y → fd (36 + v) = fc (36 + v)) (m : ∀ v, v < 18 → v ≠ y → fn 92 (v + 8) = fm 92 (v + 8) ∧ fn 93 (v + 8) = fm 93 (v + 8) ∧ fn 94 (v + 8) = fm 94 (v + 8)) (m90 : fn 90 = fm 90) (m91 : fn 91 = fm 91) (c0 : fd (36 + y) 0 = fc (36 + y) 0) (c4 : fd (36 + y) 4 = fc (36 + y) 4) (c1 : fc (36 + y) 0 = 0 → fd (36 + y) 1 = fc (36 + y) 1) (c11 : fc 11 2 ≤ fd 11 2) (c12 : ∀ j : Nat, (j : Int) < fc 11 2 → fd 12 j = fc 12 j) : gSym y fd fn := fun v hv => by
  obtain ⟨q1, q2, q3, q4, q5⟩ := h v hv
  rw [m90, m91]
  by_cases hy : v = y
  · subst hy
    rw [c0, c4]
    exact ⟨q1, q2, q3, fun e => (c1 e).trans (q4 e), fun n => absurd rfl n⟩
  · rw [c v hv hy]
    refine ⟨q1, q2, q3, q4, fun n t => ?_⟩
    have q6 := q5 n t
    obtain ⟨m1, m2, m3⟩ := m v hv hy
    unfold symok at *
    rw [c v hv hy, m1, m2, m3]
    exact q6.imp id (fun q => ⟨q.1, q.2.1, q.2.2.ext c11 c12⟩)
theorem gSym.full (h : gSym 18 fc fm) (c : ∀ v, v < 18 → fd (36 + v) = fc (36 + v)) (m : ∀ v, v < 18 → fn 92 (v + 8) = fm 92 (v + 8) ∧ fn 93 (v + 8) = fm 93 (v + 8) ∧ fn 94 (v + 8) = fm 94 (v + 8)) (m90 : fn 90 = fm 90) (m91 : fn 91 = fm 91) (c11 : fc 11 2 ≤ fd 11 2) (c12 : ∀ j : Nat, (j : Int) < fc 11 2 → fd 12 j = fc 12 j) : gSym 18 fd fn := fun v hv => by
  obtain ⟨q1, q2, q3, q4, q5⟩ := h v hv
  rw [m90, m91, c v hv]
  refine ⟨q1, q2, q3, q4, fun n t => ?_⟩
  have q6 := q5 n t
  obtain ⟨m1, m2, m3⟩ := m v hv
  unfold symok at *
  rw [c v hv, m1, m2, m3]
  exact q6.imp id (fun q => ⟨q.1, q.2.1, q.2.2.ext c11 c12⟩)
/-- an input is taken -/
theorem RR.use {k : Nat} (hk : k < 8) (h : RR x y fc fm) : RR x y (ma_up fc (16 + k) 3 1) (ma_up fm 65 k 1) := by
  obtain ⟨r1, r2, r3, r4, r5, r6, r7⟩ := h
  have rc : ∀ a, a ≠ 16 + k → ma_up fc (16 + k) 3 1 a = fc a := fun a ha => ma_up_ne ha
  have rm : ∀ a, a ≠ 65 → ma_up fm 65 k 1 a = fm a := fun a ha => ma_up_ne ha
  refine ⟨?_, ?_, ?_, ?_, ?_, ?_, ?_⟩
  · exact r1.rows (rc 1 (by omega)) (rc 2 (by omega)) (rc 11 (by omega)) (rc 12 (by omega)) (rc 13 (by omega)) (rc 54 (by omega)) (rm 66 (by omega)) (rm 70 (by omega)) (rm 71 (by omega)) (by rw [rm 60 (by omega)]) (by rw [rm 60 (by omega)]) (by rw [rm 60 (by omega)]) (by rw [rm 60 (by omega)])
  · exact r2.ext (fun a _ _ => rc a (by omega)) (fun a _ _ => rm a (by omega))
  · intro j hj
    obtain ⟨q1, q2, q3, q4⟩ := r3 j hj
    rw [rm 64 (by omega)]
    by_cases hq : j = k
    · subst hq
      simp [ma_up, q3, q4]
    · rw [rc (16 + j) (by omega)]
      have e : ma_up fm 65 k 1 65 j = fm 65 j := ma_up_at hq
      rw [e]
      exact ⟨q1, q2, q3, q4⟩
  · refine r4.ext (by rw [rc 8 (by omega)]) (rc 9 (by omega)) (rc 10 (by omega)) (by rw [rc 54 (by omega)]; exact Int.le_refl _) (by rw [rm 60 (by omega)]) (rm 89 (by omega)) (fun a c1 c2 c3 => ?_) (fun a c1 c2 c3 c4 => ?_)
    · by_cases hq : a = 16 + k
      · subst hq
        simp [ma_up]
      · rw [rc a hq]
        exact c3
    · rw [rc a (by omega)]
      exact ⟨c3, c4⟩
  · exact r5.ext (by rw [rc 3 (by omega)]) (rc 14 (by omega)) (fun a c1 c2 => by rw [rc a (by omega)]; exact ⟨rfl, rfl, rfl, rfl, fun _ => rfl⟩) (by rw [rm 60 (by omega)]) (fun a _ _ => rm a (by omega))
  · exact r6.ext (fun j hj _ => rc _ (by omega)) (fun j _ _ => by rw [rm 79 (by omega), rm 80 (by omega), rm 81 (by omega), rm 82 (by omega), rm 83 (by omega), rm 84 (by omega), rm 85 (by omega)]; exact ⟨rfl, rfl, rfl, rfl, rfl, rfl, rfl⟩) (by rw [rc 8 (by omega)]; exact Int.le_refl _) (by rw [rc 11 (by omega)]; exact Int.le_refl _) (fun j _ => by rw [rc 12 (by omega)]) (fun a c1 c2 c3 => by rw [rc a (by omega)]; exact c3)
  · exact r7.ext (fun v hv _ => rc _ (by omega)) (fun v _ _ => by rw [rm 92 (by omega), rm 93 (by omega), rm 94 (by omega)]; exact ⟨rfl, rfl, rfl⟩) (rm 90 (by omega)) (rm 91 (by omega)) (by rw [rc _ (by omega)]) (by rw [rc _ (by omega)]) (fun _ => by rw [rc _ (by omega)]) (by rw [rc 11 (by omega)]; exact Int.le_refl _) (fun j _ => by rw [rc 12 (by omega)])
/-- a symbol of a section is told -/
theorem RR.tells {v : Nat} (hv : v < 18) (hx : x < 8) (h : RR x 18 fc fm) (h0 : fc (36 + v) 0 = 0) : RR x 18 (ma_up fc (36 + v) 0 1) (ma_up (ma_up fm 90 (v + 8) 1) 92 (v + 8) x) := by
  obtain ⟨r1, r2, r3, r4, r5, r6, r7⟩ := h
  have rc : ∀ a, a ≠ 36 + v → ma_up fc (36 + v) 0 1 a = fc a := fun a ha => ma_up_ne ha
  have rm : ∀ a, a ≠ 90 → a ≠ 92 → ma_up (ma_up fm 90 (v + 8) 1) 92 (v + 8) x a = fm a := fun a ha hb => (ma_up_ne hb).trans (ma_up_ne ha)
  refine ⟨?_, ?_, ?_, ?_, ?_, ?_, ?_⟩
  · exact r1.rows (rc 1 (by omega)) (rc 2 (by omega)) (rc 11 (by omega)) (rc 12 (by omega)) (rc 13 (by omega)) (rc 54 (by omega)) (rm 66 (by omega) (by omega)) (rm 70 (by omega) (by omega)) (rm 71 (by omega) (by omega)) (by rw [rm 60 (by omega) (by omega)]) (by rw [rm 60 (by omega) (by omega)]) (by rw [rm 60 (by omega) (by omega)]) (by rw [rm 60 (by omega) (by omega)])
  · exact r2.ext (fun a _ _ => rc a (by omega)) (fun a _ _ => rm a (by omega) (by omega))
  · exact r3.ext (fun a _ _ => rc a (by omega)) (fun a _ _ => rm a (by omega) (by omega))
  · refine r4.ext (by rw [rc 8 (by omega)]) (rc 9 (by omega)) (rc 10 (by omega)) (by rw [rc 54 (by omega)]; exact Int.le_refl _) (by rw [rm 60 (by omega) (by omega)]) (rm 89 (by omega) (by omega)) (fun a c1 c2 c3 => ?_) (fun a c1 c2 c3 c4 => ?_)
    · rw [rc a (by omega)]
      exact c3
    · by_cases hq : a = 36 + v
      · subst hq
        omega
      · rw [rc a hq]
        exact ⟨c3, c4⟩
  · exact r5.ext (by rw [rc 3 (by omega)]) (rc 14 (by omega)) (fun a c1 c2 => by rw [rc a (by omega)]; exact ⟨rfl, rfl, rfl, rfl, fun _ => rfl⟩) (by rw [rm 60 (by omega) (by omega)]) (fun a _ _ => rm a (by omega) (by omega))
  · exact r6.ext (fun j hj _ => rc _ (by omega)) (fun j _ _ => by rw [rm 79 (by omega) (by omega), rm 80 (by omega) (by omega), rm 81 (by omega) (by omega), rm 82 (by omega) (by omega), rm 83 (by omega) (by omega), rm 84 (by omega) (by omega), rm 85 (by omega) (by omega)]; exact ⟨rfl, rfl, rfl, rfl, rfl, rfl, rfl⟩) (by rw [rc 8 (by omega)]; exact Int.le_refl _) (by rw [rc 11 (by omega)]; exact Int.le_refl _) (fun j _ => by rw [rc 12 (by omega)]) (fun a c1 c2 c3 => by rw [rc a (by omega)]; exact c3)
  · intro w hw
    obtain ⟨q1, q2, q3, q4, q5⟩ := r7 w hw
    have e90 : ∀ j, ma_up (ma_up fm 90 (v + 8) 1) 92 (v + 8) x 90 j = if j = v + 8 then 1 else fm 90 j := fun j => by simp [ma_up]
    have e92 : ∀ j, ma_up (ma_up fm 90 (v + 8) 1) 92 (v + 8) x 92 j = if j = v + 8 then (x : Int) else fm 92 j := fun j => by simp [ma_up]
    rw [e90, rm 91 (by omega) (by omega)]
    by_cases hq : w = v
    · subst hq
      have e0 : ma_up fc (36 + w) 0 1 (36 + w) 0 = 1 := by simp [ma_up]
      have e1 : ma_up fc (36 + w) 0 1 (36 + w) 1 = fc (36 + w) 1 := by simp [ma_up]
      have e4 : ma_up fc (36 + w) 0 1 (36 + w) 4 = fc (36 + w) 4 := by simp [ma_up]
      rw [e0, e1, e4, if_pos rfl]
      refine ⟨rfl, Or.inr rfl, q3, fun e => absurd e (by decide), fun _ _ => Or.inl ?_⟩
      rw [e1, e92, if_pos rfl]
      exact ⟨q4 h0, by omega, by omega⟩
    · rw [rc (36 + w) (by omega), if_neg (by omega)]
      refine ⟨q1, q2, q3, q4, fun n t => ?_⟩
      have q6 := q5 n t
      unfold symok at *
      rw [rc (36 + w) (by omega), e92, if_neg (by omega), rm 93 (by omega) (by omega), rm 94 (by omega) (by omega)]
      refine q6.imp id (fun q => ⟨q.1, q.2.1, q.2.2.ext ?_ ?_⟩)
      · rw [rc 11 (by omega)]
        exact Int.le_refl _
      · intro j _
        rw [rc 12 (by omega)]
end EXT
