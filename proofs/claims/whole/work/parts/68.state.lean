/-! ===== what stands fast while reckoning, and what moves ===== -/
def dynC (a k : Nat) : Prop := (16 ≤ a ∧ a < 24 ∧ k = 4) ∨ (28 ≤ a ∧ a < 36 ∧ 9 ≤ k) ∨ (36 ≤ a ∧ a < 54 ∧ k = 4) ∨ a = 55 ∨ a = 56
def dynM (a k : Nat) : Prop := (a = 60 ∧ (k = 20 ∨ k = 21)) ∨ a = 64 ∨ a = 77 ∨ (86 ≤ a ∧ a ≤ 88) ∨ a = 91 ∨ a = 95
def SC (fc fd : q_F) : Prop := ∀ a k, ¬ dynC a k → fd a k = fc a k
def SM (fm fn : q_F) : Prop := ∀ a k, ¬ dynM a k → fn a k = fm a k
theorem SC.rf (f : q_F) : SC f f := fun _ _ _ => rfl
theorem SM.rf (f : q_F) : SM f f := fun _ _ _ => rfl
theorem SC.tr {f1 f2 f3 : q_F} (h1 : SC f1 f2) (h2 : SC f2 f3) : SC f1 f3 := fun a k c => (h2 a k c).trans (h1 a k c)
theorem SM.tr {f1 f2 f3 : q_F} (h1 : SM f1 f2) (h2 : SM f2 f3) : SM f1 f3 := fun a k c => (h2 a k c).trans (h1 a k c)
theorem SC.up {f1 f2 : q_F} {a k : Nat} {v : Int} (h : SC f1 f2) (ok : dynC a k) : SC f1 (ma_up f2 a k v) := fun b j c => by
  rw [ma_up_ne2 (fun q => c (by rw [q.1, q.2]; exact ok))]
  exact h b j c
theorem SM.up {f1 f2 : q_F} {a k : Nat} {v : Int} (h : SM f1 f2) (ok : dynM a k) : SM f1 (ma_up f2 a k v) := fun b j c => by
  rw [ma_up_ne2 (fun q => c (by rw [q.1, q.2]; exact ok))]
  exact h b j c
theorem SC.row {f1 f2 : q_F} (h : SC f1 f2) {a : Nat} (ok : ∀ k, ¬ dynC a k) : f2 a = f1 a := funext fun k => h a k (ok k)
theorem SM.row {f1 f2 : q_F} (h : SM f1 f2) {a : Nat} (ok : ∀ k, ¬ dynM a k) : f2 a = f1 a := funext fun k => h a k (ok k)
theorem MR.s {f fn : q_F} (h : MR f fn) : SM f fn := fun a k c => by
  unfold dynM at c
  by_cases h60 : a = 60
  · subst h60
    exact h.2 k (by omega) (by omega)
  · rw [h.1 a h60]
theorem SC.st {f fd : q_F} (h : ∀ a, a ≠ 55 → a ≠ 56 → fd a = f a) : SC f fd := fun a k c => by
  unfold dynC at c
  rw [h a (by omega) (by omega)]
theorem SC.p {f1 f2 : q_F} (h : SC f1 f2) : PC f1 f2 := fun a k c => h a k (by unfold dynC; omega)
theorem SM.p {f1 f2 : q_F} (h : SM f1 f2) : PM f1 f2 := fun a k c => h a k (by unfold dynM; omega)
/-- inputs of both -/
def gIn (fc fm : q_F) : Prop := ∀ k : Nat, k < 8 → fc (16 + k) 0 = fm 61 k ∧ (0 ≤ fc (16 + k) 0 ∧ fc (16 + k) 0 ≤ 40) ∧ fc (16 + k) 1 = fm 62 k ∧ pw16 (fc (16 + k) 1) ∧ fc (16 + k) 2 = fm 63 k ∧ 0 ≤ fc (16 + k) 2 ∧ fc (16 + k) 2 ≤ 255
theorem pw16_64 {a : Int} (h : pw16 a) : pw64 a := by
  unfold pw16 at h
  unfold pw64
  omega
def sReg (fc fm : q_F) : Prop := ∀ r : Nat, r < 4 → fc (24 + r) 0 = 1 → fc (24 + r) 1 = fm 68 r ∧ fc (24 + r) 2 = fm 69 r ∧ 0 ≤ fc (24 + r) 1 ∧ 0 ≤ fc (24 + r) 2 ∧ fc (24 + r) 1 + fc (24 + r) 2 ≤ 512
def sStp (fc fm : q_F) : Prop := fc 11 2 ≤ 160 ∧ ∀ j : Nat, (j : Int) < fc 11 2 → fm 70 j = fc 12 j ∧ stepok (fc 12 j) (fc 13 j) (fm 71 j)
def sItm (fc fm : q_F) : Prop := fc 8 2 ≤ 160 ∧ (∀ j : Nat, (j : Int) < fc 8 2 → itemok (fc 9 j) (fc 10 j) (fm 89 j) ∧ (fc 9 j = 2 → fc (36 + (fc 10 j).toNat) 0 = 1 ∧ fc (36 + (fc 10 j).toNat) 1 = 0)) ∧ ∀ i j : Nat, i < j → (j : Int) < fc 8 2 → fc 9 i = fc 9 j → fc 10 i = fc 10 j → fc 9 i = 1
def sOrd (fc fm : q_F) : Prop := fc 3 7 = fm 60 22 ∧ 0 ≤ fc 3 7 ∧ fc 3 7 ≤ 8 ∧ (∀ k : Nat, k < 8 → fc (28 + k) 0 = fm 76 k ∧ (fc (28 + k) 0 = 0 ∨ fc (28 + k) 0 = 1) ∧ (fc (28 + k) 0 = 1 → 0 ≤ fm 78 k ∧ fm 78 k < fc 3 7 ∧ fc 14 (fm 78 k).toNat = k)) ∧ ∀ i : Nat, (i : Int) < fc 3 7 → fc 14 i = fm 75 i ∧ 0 ≤ fc 14 i ∧ fc 14 i < 8 ∧ fc (28 + (fc 14 i).toNat) 0 = 1 ∧ fm 78 (fc 14 i).toNat = i
def sSec (fc fm : q_F) : Prop := (∀ k : Nat, k < 8 → fc (28 + k) 0 = 1 → seAd fc fm k ∧ seIt fc fm k ∧ seHo fc fm k) ∧ ∀ k l : Nat, k < 8 → l < 8 → k ≠ l → fc (28 + k) 0 = 1 → fc (28 + l) 0 = 1 → fc (28 + k) 5 ≤ fc (28 + l) 4 ∨ fc (28 + l) 5 ≤ fc (28 + k) 4
def sSym (fc fm : q_F) : Prop := ∀ v : Nat, v < 18 → fc (36 + v) 0 = fm 90 (v + 8) ∧ (fc (36 + v) 0 = 0 ∨ fc (36 + v) 0 = 1) ∧ (fc (36 + v) 0 = 0 → fc (36 + v) 1 = 0) ∧ (fc (36 + v) 0 = 1 → symok fc fm v)
def SS (fc fm : q_F) : Prop := sReg fc fm ∧ sStp fc fm ∧ sItm fc fm ∧ sOrd fc fm ∧ sSec fc fm ∧ sSym fc fm ∧ gIn fc fm
theorem SS_of {c0 m0 fc fm : q_F} (h : RR 8 18 c0 m0) (hi : gIn c0 m0) (hc : SC c0 fc) (hm : SM m0 fm) : SS fc fm := by
  have hn : c0 54 2 ≤ 160 := by
    have := h.1.c.2.2
    have := h.1.c.1.2.1
    omega
  have l11 := h.1.2.2.2
  obtain ⟨r1, r2, r3, ⟨i1, i2, i3, i4, i5⟩, r5, r6, r7⟩ := h
  have room : 0 ≤ c0 3 7 ∧ c0 3 7 ≤ 8 := by
    obtain ⟨-, t2, t3, -⟩ := r5
    have q0 := (t3 0 (by omega)).2.1
    have q1 := (t3 1 (by omega)).2.1
    have q2 := (t3 2 (by omega)).2.1
    have q3 := (t3 3 (by omega)).2.1
    have q4 := (t3 4 (by omega)).2.1
    have q5 := (t3 5 (by omega)).2.1
    have q6 := (t3 6 (by omega)).2.1
    have q7 := (t3 7 (by omega)).2.1
    simp only [Nat.add_zero, Nat.reduceAdd] at *
    omega
  have C : ∀ a k, ¬ dynC a k → fc a k = c0 a k := hc
  have M : ∀ a k, ¬ dynM a k → fm a k = m0 a k := hm
  have Cr : ∀ a, a < 16 ∨ (24 ≤ a ∧ a < 28) → fc a = c0 a := fun a ha => hc.row (fun k => by unfold dynC; omega)
  have Mr : ∀ a, (61 ≤ a ∧ a ≤ 63) ∨ (65 ≤ a ∧ a ≤ 76) ∨ (78 ≤ a ∧ a ≤ 85) ∨ (89 ≤ a ∧ a ≤ 90) ∨ (92 ≤ a ∧ a ≤ 94) → fm a = m0 a := fun a ha => hm.row (fun k => by unfold dynM; omega)
  have C28 : ∀ k j, k < 8 → j ≤ 8 → fc (28 + k) j = c0 (28 + k) j := fun k j h1 h2 => hc _ _ (by unfold dynC; omega)
  have C36 : ∀ v j, v < 18 → j ≤ 3 → fc (36 + v) j = c0 (36 + v) j := fun k j h1 h2 => hc _ _ (by unfold dynC; omega)
  have C16 : ∀ v j, v < 8 → j ≤ 3 → fc (16 + v) j = c0 (16 + v) j := fun k j h1 h2 => hc _ _ (by unfold dynC; omega)
  have M60 : ∀ k, k ≠ 20 → k ≠ 21 → fm 60 k = m0 60 k := fun k h1 h2 => hm _ _ (by unfold dynM; omega)
  refine ⟨fun r hr ht => ?_, ⟨?_, fun j hj => ?_⟩, ⟨?_, fun j hj => ?_, fun i j hij hj => ?_⟩, ⟨?_, ?_, ?_, fun k hk => ?_, fun i hi => ?_⟩, ⟨fun k hk ht => ?_, fun k l hk hl n t1 t2 => ?_⟩, fun v hv => ?_, fun k hk => ?_⟩
  · rw [Cr _ (by omega)] at ht ⊢
    rw [Mr 68 (by omega), Mr 69 (by omega)]
    rcases r2 r hr with q | q
    · omega
    · exact q.2.2
  · rw [Cr 11 (by omega)]
    omega
  · rw [Cr 11 (by omega)] at hj
    rw [Cr 12 (by omega), Cr 13 (by omega), Mr 70 (by omega), Mr 71 (by omega)]
    exact r1.2.2.1.2.2 j hj
  · rw [Cr 8 (by omega)]
    omega
  · rw [Cr 8 (by omega)] at hj
    rw [Cr 9 (by omega), Cr 10 (by omega), Mr 89 (by omega)]
    obtain ⟨q1, q2, q3⟩ := i4 j hj
    refine ⟨q1, fun e => ?_⟩
    have q4 := q1
    unfold itemok at q4
    rw [C36 _ 0 (by omega) (by omega), C36 _ 1 (by omega) (by omega)]
    exact q3 e
  · rw [Cr 8 (by omega)] at hj
    rw [Cr 9 (by omega), Cr 10 (by omega)]
    exact i5 i j hij hj
  · rw [Cr 3 (by omega), M60 22 (by omega) (by omega)]
    exact r5.1
  · rw [Cr 3 (by omega)]
    exact room.1
  · rw [Cr 3 (by omega)]
    exact room.2
  · rw [Cr 3 (by omega), Cr 14 (by omega), C28 k 0 hk (by omega), Mr 76 (by omega), Mr 78 (by omega)]
    obtain ⟨q1, q2, q3, q4, q5⟩ := r5.2.2.1 k hk
    exact ⟨q1, q2, q4⟩
  · rw [Cr 3 (by omega)] at hi
    have q := r5.2.2.2 i hi
    rw [Cr 14 (by omega), Mr 75 (by omega), Mr 78 (by omega), C28 _ 0 (by omega) (by omega)]
    exact q
  · rw [C28 k 0 hk (by omega)] at ht
    obtain ⟨q1, q2, q3⟩ := r6.1 k hk (by omega) ht
    refine ⟨?_, ?_, ?_⟩
    · unfold seAd exok at *
      rw [C28 k 1 hk (by omega), C28 k 2 hk (by omega), C28 k 3 hk (by omega), Cr 11 (by omega), Cr 12 (by omega), Mr 79 (by omega), Mr 80 (by omega)]
      exact q1
    · unfold seIt at *
      rw [C28 k 4 hk (by omega), C28 k 5 hk (by omega), Cr 8 (by omega), Mr 84 (by omega), Mr 85 (by omega)]
      exact q2
    · unfold seHo rtold at *
      rw [C28 k 6 hk (by omega), C28 k 7 hk (by omega), C28 k 8 hk (by omega), Mr 81 (by omega), Mr 82 (by omega), Mr 83 (by omega)]
      obtain ⟨p1, p2, p3, p4, p5⟩ := q3
      refine ⟨p1, ?_, p3, ?_, p5⟩
      · rw [Cr (24 + _) (by omega)]
        exact p2
      · rcases p4 with p4 | p4
        · exact Or.inl p4
        · rw [Cr (24 + (c0 (28 + k) 8).toNat) (by omega)]
          exact Or.inr p4
  · rw [C28 k 0 hk (by omega)] at t1
    rw [C28 l 0 hl (by omega)] at t2
    rw [C28 k 4 hk (by omega), C28 k 5 hk (by omega), C28 l 4 hl (by omega), C28 l 5 hl (by omega)]
    exact r6.2 k l hk hl n (by omega) (by omega) t1 t2
  · obtain ⟨q1, q2, q3, q4, q5⟩ := r7 v hv
    rw [C36 v 0 hv (by omega), C36 v 1 hv (by omega), Mr 90 (by omega)]
    refine ⟨q1, q2, q4, fun t => ?_⟩
    have q6 := q5 (by omega) t
    unfold symok exok at *
    rw [C36 v 1 hv (by omega), C36 v 2 hv (by omega), C36 v 3 hv (by omega), Cr 11 (by omega), Cr 12 (by omega), Mr 92 (by omega), Mr 93 (by omega), Mr 94 (by omega)]
    exact q6
  · rw [C16 k 0 hk (by omega), C16 k 1 hk (by omega), C16 k 2 hk (by omega), Mr 61 (by omega), Mr 62 (by omega), Mr 63 (by omega)]
    exact hi k hk
