/-! ===== a section's rows ===== -/
def WM (fm fn : q_F) : Prop := PM fm fn ∧ fn 60 8 = fm 60 8 ∧ fn 60 9 = fm 60 9
theorem WM.rf (f : q_F) : WM f f := ⟨PM.rf f, rfl, rfl⟩
theorem WM.tr {f1 f2 f3 : q_F} (h1 : WM f1 f2) (h2 : WM f2 f3) : WM f1 f3 := ⟨h1.1.tr h2.1, h2.2.1.trans h1.2.1, h2.2.2.trans h1.2.2⟩
theorem WM.up {f1 f2 : q_F} {a k : Nat} {v : Int} (h : WM f1 f2) (ok : ¬ (a < 61 ∨ (61 ≤ a ∧ a ≤ 63) ∨ a = 66 ∨ 96 ≤ a)) : WM f1 (ma_up f2 a k v) := ⟨h.1.up (by omega), by rw [ma_up_ne (by omega)]; exact h.2.1, by rw [ma_up_ne (by omega)]; exact h.2.2⟩
theorem PM.text {fm fn : q_F} (h : PM fm fn) : fn 66 = fm 66 := by
  funext k
  exact h 66 k (by omega)
theorem WM.ok {fm fn : q_F} (h : WM fm fn) (ho : mOK fm) : mOK fn := by
  unfold mOK at *
  rw [h.1.text, h.2.1, h.1 60 6 (by omega)]
  exact ho
theorem WM.fail {fd fm fn : q_F} (h : WM fm fn) (hf : Fail fd fm) : Fail fd fn := ⟨by rw [h.2.2]; exact hf.1, by rw [h.2.1]; exact hf.2.1, h.ok hf.2.2⟩
section SE
variable {fc fm g : q_F} {x y : Nat}
theorem RR.sc {j : Nat} {v : Int} (h : RR x 18 fc fm) (hx : x < 8) (ht : fc (28 + x) 0 = 1) (hj : 1 ≤ j ∧ j ≤ 8) : RR x 18 (ma_up fc (28 + x) j v) fm := by
  obtain ⟨r1, r2, r3, r4, r5, r6, r7⟩ := h
  have rc : ∀ a, a ≠ 28 + x → ma_up fc (28 + x) j v a = fc a := fun a ha => ma_up_ne ha
  refine ⟨?_, ?_, ?_, ?_, ?_, ?_, ?_⟩
  · exact r1.rows (rc 1 (by omega)) (rc 2 (by omega)) (rc 11 (by omega)) (rc 12 (by omega)) (rc 13 (by omega)) (rc 54 (by omega)) rfl rfl rfl rfl rfl rfl rfl
  · exact r2.ext (fun a _ _ => rc a (by omega)) (fun a _ _ => rfl)
  · exact r3.ext (fun a _ _ => rc a (by omega)) (fun a _ _ => rfl)
  · exact r4.ext (by rw [rc 8 (by omega)]) (rc 9 (by omega)) (rc 10 (by omega)) (by rw [rc 54 (by omega)]; exact Int.le_refl _) rfl rfl (fun a _ _ c => by rw [rc a (by omega)]; exact c) (fun a _ _ c d => by rw [rc a (by omega)]; exact ⟨c, d⟩)
  · refine r5.ext (by rw [rc 3 (by omega)]) (rc 14 (by omega)) (fun a c1 c2 => ?_) rfl (fun a _ _ => rfl)
    by_cases hq : a = 28 + x
    · subst hq
      exact ⟨ma_up_at (by omega), ma_up_at (by omega), ma_up_at (by omega), ma_up_at (by omega), fun e => by omega⟩
    · rw [rc a hq]
      exact ⟨rfl, rfl, rfl, rfl, fun _ => rfl⟩
  · exact r6.ext (fun k _ hk => rc _ (by omega)) (fun k _ _ => ⟨rfl, rfl, rfl, rfl, rfl, rfl, rfl⟩) (by rw [rc 8 (by omega)]; exact Int.le_refl _) (by rw [rc 11 (by omega)]; exact Int.le_refl _) (fun j _ => by rw [rc 12 (by omega)]) (fun a _ _ c => by rw [rc a (by omega)]; exact c)
  · exact r7.full (fun v _ => rc _ (by omega)) (fun v _ => ⟨rfl, rfl, rfl⟩) rfl rfl (by rw [rc 11 (by omega)]; exact Int.le_refl _) (fun j _ => by rw [rc 12 (by omega)])
theorem RR.sm {a : Nat} {v : Int} (h : RR x 18 fc fm) (ha : 79 ≤ a ∧ a ≤ 85) : RR x 18 fc (ma_up fm a x v) := by
  obtain ⟨r1, r2, r3, r4, r5, r6, r7⟩ := h
  have rm : ∀ b, b ≠ a → ma_up fm a x v b = fm b := fun b hb => ma_up_ne hb
  have rk : ∀ b k, k ≠ x → ma_up fm a x v b k = fm b k := fun b k hk => ma_up_ne2 (fun q => hk q.2)
  refine ⟨?_, ?_, ?_, ?_, ?_, ?_, ?_⟩
  · exact r1.rows rfl rfl rfl rfl rfl rfl (rm 66 (by omega)) (rm 70 (by omega)) (rm 71 (by omega)) (by rw [rm 60 (by omega)]) (by rw [rm 60 (by omega)]) (by rw [rm 60 (by omega)]) (by rw [rm 60 (by omega)])
  · exact r2.ext (fun a _ _ => rfl) (fun a _ _ => rm a (by omega))
  · exact r3.ext (fun a _ _ => rfl) (fun a _ _ => rm a (by omega))
  · exact r4.ext rfl rfl rfl (Int.le_refl _) (by rw [rm 60 (by omega)]) (rm 89 (by omega)) (fun a _ _ c => c) (fun a _ _ c d => ⟨c, d⟩)
  · exact r5.ext rfl rfl (fun a _ _ => ⟨rfl, rfl, rfl, rfl, fun _ => rfl⟩) (by rw [rm 60 (by omega)]) (fun b _ _ => rm b (by omega))
  · exact r6.ext (fun k _ _ => rfl) (fun k _ hk => ⟨rk _ _ hk, rk _ _ hk, rk _ _ hk, rk _ _ hk, rk _ _ hk, rk _ _ hk, rk _ _ hk⟩) (Int.le_refl _) (Int.le_refl _) (fun j _ => rfl) (fun a _ _ c => c)
  · exact r7.full (fun v _ => rfl) (fun v _ => by rw [rm 92 (by omega), rm 93 (by omega), rm 94 (by omega)]; exact ⟨rfl, rfl, rfl⟩) (rm 90 (by omega)) (rm 91 (by omega)) (Int.le_refl _) (fun j _ => rfl)
theorem RR.close (h : RR x 18 fc fm) (hx : x < 8) (h1 : seAd fc fm x) (h2 : seIt fc fm x) (h3 : seHo fc fm x) (h4 : ∀ k : Nat, k < 8 → k ≠ x → fc (28 + k) 0 = 1 → fc (28 + k) 5 ≤ fc (28 + x) 4 ∨ fc (28 + x) 5 ≤ fc (28 + k) 4) : RR 8 18 fc fm := by
  obtain ⟨r1, r2, r3, r4, r5, r6, r7⟩ := h
  refine ⟨r1, r2, r3, r4, r5, ⟨fun k hk _ ht => ?_, fun k l hk hl n1 _ _ t1 t2 => ?_⟩, r7⟩
  · by_cases hq : k = x
    · subst hq
      exact ⟨h1, h2, h3⟩
    · exact r6.1 k hk hq ht
  · by_cases hq : k = x
    · subst hq
      have := h4 l hl (by omega) t2
      omega
    · by_cases hq2 : l = x
      · subst hq2
        exact h4 k hk hq t1
      · exact r6.2 k l hk hl n1 hq hq2 t1 t2
def cTell (f : q_F) (k : Nat) : q_F := ma_up (ma_up (ma_up f (28 + k) 0 1) 14 (f 3 7).toNat k) 3 7 (f 3 7 + 1)
def mTell (f : q_F) (k : Nat) : q_F := ma_up (ma_up (ma_up (ma_up f 76 k 1) 78 k (f 60 22)) 75 (f 60 22).toNat k) 60 22 (f 60 22 + 1)
theorem gTol.room (h : gTol fc fm) {k : Nat} (hk : k < 8) (h0 : fc (28 + k) 0 = 0) : 0 ≤ fc 3 7 ∧ fc 3 7 < 8 := by
  obtain ⟨-, t2, t3, -⟩ := h
  have q0 := (t3 0 (by omega)).2.1
  have q1 := (t3 1 (by omega)).2.1
  have q2 := (t3 2 (by omega)).2.1
  have q3 := (t3 3 (by omega)).2.1
  have q4 := (t3 4 (by omega)).2.1
  have q5 := (t3 5 (by omega)).2.1
  have q6 := (t3 6 (by omega)).2.1
  have q7 := (t3 7 (by omega)).2.1
  have hk8 : k = 0 ∨ k = 1 ∨ k = 2 ∨ k = 3 ∨ k = 4 ∨ k = 5 ∨ k = 6 ∨ k = 7 := by omega
  rcases hk8 with e | e | e | e | e | e | e | e <;> subst e <;> simp only [Nat.add_zero, Nat.reduceAdd] at * <;> omega
theorem RR.tell {k : Nat} (h : RR 8 18 fc fm) (hk : k < 8) (h0 : fc (28 + k) 0 = 0) : RR k 18 (cTell fc k) (mTell fm k) := by
  obtain ⟨r1, r2, r3, r4, r5, r6, r7⟩ := h
  obtain ⟨b1, b2⟩ := r5.room hk h0
  obtain ⟨t1, t2, t3, t4⟩ := r5
  have rc : ∀ a, a ≠ 28 + k → a ≠ 14 → a ≠ 3 → cTell fc k a = fc a := fun a c1 c2 c3 => by unfold cTell; rw [ma_up_ne c3, ma_up_ne c2, ma_up_ne c1]
  have rm : ∀ a, a ≠ 60 → a ≠ 75 → a ≠ 76 → a ≠ 78 → mTell fm k a = fm a := fun a c1 c2 c3 c4 => by unfold mTell; rw [ma_up_ne c1, ma_up_ne c2, ma_up_ne c4, ma_up_ne c3]
  have r60 : ∀ j, j ≠ 22 → mTell fm k 60 j = fm 60 j := fun j hj => by unfold mTell; rw [ma_up_ne2 (by omega), ma_up_ne (by omega), ma_up_ne (by omega), ma_up_ne (by omega)]
  have rk : ∀ a j, 28 ≤ a → a < 36 → ¬ (a = 28 + k ∧ j = 0) → cTell fc k a j = fc a j := fun a j c1 c2 c3 => by unfold cTell; rw [ma_up_ne (by omega), ma_up_ne (by omega), ma_up_ne2 c3]
  have e3 : cTell fc k 3 7 = fc 3 7 + 1 := by simp [cTell, ma_up]
  have e22 : mTell fm k 60 22 = fm 60 22 + 1 := by simp [mTell, ma_up]
  have e0 : cTell fc k (28 + k) 0 = 1 := by unfold cTell; rw [ma_up_ne (by omega), ma_up_ne (by omega)]; simp [ma_up]
  have e14 : ∀ j, cTell fc k 14 j = if j = (fc 3 7).toNat then (k : Int) else fc 14 j := fun j => by
    have q : ¬ 14 = 28 + k := by omega
    unfold cTell
    rw [ma_up_ne (by omega)]
    simp [ma_up, q]
  have e75 : ∀ j, mTell fm k 75 j = if j = (fc 3 7).toNat then (k : Int) else fm 75 j := fun j => by rw [t1]; simp [mTell, ma_up]
  have e76 : ∀ j, mTell fm k 76 j = if j = k then 1 else fm 76 j := fun j => by simp [mTell, ma_up]
  have e78 : ∀ j, mTell fm k 78 j = if j = k then fc 3 7 else fm 78 j := fun j => by rw [t1]; simp [mTell, ma_up]
  refine ⟨?_, ?_, ?_, ?_, ⟨?_, ?_, fun j hj => ?_, fun i hi => ?_⟩, ?_, ?_⟩
  · exact r1.rows (rc 1 (by omega) (by omega) (by omega)) (rc 2 (by omega) (by omega) (by omega)) (rc 11 (by omega) (by omega) (by omega)) (rc 12 (by omega) (by omega) (by omega)) (rc 13 (by omega) (by omega) (by omega)) (rc 54 (by omega) (by omega) (by omega)) (rm 66 (by omega) (by omega) (by omega) (by omega)) (rm 70 (by omega) (by omega) (by omega) (by omega)) (rm 71 (by omega) (by omega) (by omega) (by omega)) (r60 _ (by omega)) (r60 _ (by omega)) (r60 _ (by omega)) (r60 _ (by omega))
  · exact r2.ext (fun a _ _ => rc a (by omega) (by omega) (by omega)) (fun a _ _ => rm a (by omega) (by omega) (by omega) (by omega))
  · exact r3.ext (fun a _ _ => rc a (by omega) (by omega) (by omega)) (fun a _ _ => rm a (by omega) (by omega) (by omega) (by omega))
  · exact r4.ext (by rw [rc 8 (by omega) (by omega) (by omega)]) (rc 9 (by omega) (by omega) (by omega)) (rc 10 (by omega) (by omega) (by omega)) (by rw [rc 54 (by omega) (by omega) (by omega)]; exact Int.le_refl _) (r60 _ (by omega)) (rm 89 (by omega) (by omega) (by omega) (by omega)) (fun a _ _ c => by rw [rc a (by omega) (by omega) (by omega)]; exact c) (fun a _ _ c d => by rw [rc a (by omega) (by omega) (by omega)]; exact ⟨c, d⟩)
  · rw [e3, e22, t1]
  · have ea : ∀ a, 28 ≤ a → a < 36 → cTell fc k a 0 = if a = 28 + k then 1 else fc a 0 := fun a c1 c2 => by
      by_cases hq : a = 28 + k
      · rw [if_pos hq, hq, e0]
      · rw [if_neg hq, rk a 0 c1 c2 (by omega)]
    rw [e3, ea 28 (by omega) (by omega), ea 29 (by omega) (by omega), ea 30 (by omega) (by omega), ea 31 (by omega) (by omega), ea 32 (by omega) (by omega), ea 33 (by omega) (by omega), ea 34 (by omega) (by omega), ea 35 (by omega) (by omega), t2]
    have hk8 : k = 0 ∨ k = 1 ∨ k = 2 ∨ k = 3 ∨ k = 4 ∨ k = 5 ∨ k = 6 ∨ k = 7 := by omega
    rcases hk8 with e | e | e | e | e | e | e | e <;> subst e <;> simp at h0 ⊢ <;> omega
  · obtain ⟨p1, p2, p3, p4, p5⟩ := t3 j hj
    rw [e76, e78, rm 77 (by omega) (by omega) (by omega) (by omega), rk (28 + j) 9 (by omega) (by omega) (by omega), rk (28 + j) 10 (by omega) (by omega) (by omega), rk (28 + j) 11 (by omega) (by omega) (by omega), e3]
    by_cases hq : j = k
    · subst hq
      rw [e0, if_pos rfl, if_pos rfl, e14, if_pos rfl]
      exact ⟨rfl, Or.inr rfl, p3, fun _ => ⟨b1, by omega, rfl⟩, fun e => absurd e (by decide)⟩
    · rw [if_neg hq, if_neg hq, rk (28 + j) 0 (by omega) (by omega) (by omega), rk (28 + j) 1 (by omega) (by omega) (by omega), rk (28 + j) 7 (by omega) (by omega) (by omega), rk (28 + j) 8 (by omega) (by omega) (by omega)]
      refine ⟨p1, p2, p3, fun e => ?_, p5⟩
      obtain ⟨u1, u2, u3⟩ := p4 e
      rw [e14, if_neg (by omega)]
      exact ⟨u1, by omega, u3⟩
  · rw [e3] at hi
    rw [e14, e75]
    by_cases hq : i = (fc 3 7).toNat
    · rw [if_pos hq, if_pos hq, Int.toNat_natCast, e0, e78, if_pos rfl]
      exact ⟨rfl, by omega, by omega, rfl, by omega⟩
    · rw [if_neg hq, if_neg hq]
      obtain ⟨u1, u2, u3, u4, u5⟩ := t4 i (by omega)
      have hne : (fc 14 i).toNat ≠ k := fun q => by rw [q] at u4; omega
      rw [rk (28 + (fc 14 i).toNat) 0 (by omega) (by omega) (by omega), e78, if_neg hne]
      exact ⟨u1, u2, u3, u4, u5⟩
  · have r6' : gSec k fc fm := ⟨fun l hl _ ht => r6.1 l hl (by omega) ht, fun l l2 c1 c2 c3 _ _ c6 c7 => r6.2 l l2 c1 c2 c3 (by omega) (by omega) c6 c7⟩
    exact r6'.ext (fun l hl hn => rc _ (by omega) (by omega) (by omega)) (fun l _ _ => by rw [rm 79 (by omega) (by omega) (by omega) (by omega), rm 80 (by omega) (by omega) (by omega) (by omega), rm 81 (by omega) (by omega) (by omega) (by omega), rm 82 (by omega) (by omega) (by omega) (by omega), rm 83 (by omega) (by omega) (by omega) (by omega), rm 84 (by omega) (by omega) (by omega) (by omega), rm 85 (by omega) (by omega) (by omega) (by omega)]; exact ⟨rfl, rfl, rfl, rfl, rfl, rfl, rfl⟩) (by rw [rc 8 (by omega) (by omega) (by omega)]; exact Int.le_refl _) (by rw [rc 11 (by omega) (by omega) (by omega)]; exact Int.le_refl _) (fun j _ => by rw [rc 12 (by omega) (by omega) (by omega)]) (fun a _ _ c => by rw [rc a (by omega) (by omega) (by omega)]; exact c)
  · exact r7.full (fun v _ => rc _ (by omega) (by omega) (by omega)) (fun v _ => by rw [rm 92 (by omega) (by omega) (by omega) (by omega), rm 93 (by omega) (by omega) (by omega) (by omega), rm 94 (by omega) (by omega) (by omega) (by omega)]; exact ⟨rfl, rfl, rfl⟩) (rm 90 (by omega) (by omega) (by omega) (by omega)) (rm 91 (by omega) (by omega) (by omega) (by omega)) (by rw [rc 11 (by omega) (by omega) (by omega)]; exact Int.le_refl _) (fun j _ => by rw [rc 12 (by omega) (by omega) (by omega)])
end SE
