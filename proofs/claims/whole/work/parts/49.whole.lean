/-! ===== the whole relation while reading ===== -/
theorem q_nz0 : q_nz 0 = 0 := by decide
theorem q_nz1 : q_nz 1 = 1 := by decide
def NY : Int := -1000000000
/-- rows of the class that a part of a statement leaves alone -/
def KC (fc fd : q_F) : Prop := ∀ a k, (a < 4 ∨ (11 ≤ a ∧ a ≤ 14) ∨ (24 ≤ a ∧ a < 36) ∨ a = 59 ∨ 60 ≤ a ∨ (16 ≤ a ∧ a < 24 ∧ k ≤ 2)) → fd a k = fc a k
def KM (fm fn : q_F) : Prop := ∀ a k, (a < 60 ∨ (61 ≤ a ∧ a ≤ 63) ∨ (66 ≤ a ∧ a ≤ 69) ∨ (75 ≤ a ∧ a ≤ 88) ∨ 96 ≤ a ∨ (a = 60 ∧ (k = 0 ∨ k = 6 ∨ k = 45 ∨ k = 22))) → fn a k = fm a k
/-- .. and that a call leaves alone -/
def PC (fc fd : q_F) : Prop := ∀ a k, (a < 3 ∨ a = 59 ∨ 60 ≤ a ∨ (16 ≤ a ∧ a < 24 ∧ k ≤ 2)) → fd a k = fc a k
def PM (fm fn : q_F) : Prop := ∀ a k, (a < 60 ∨ (61 ≤ a ∧ a ≤ 63) ∨ a = 66 ∨ 96 ≤ a ∨ (a = 60 ∧ (k = 0 ∨ k = 6 ∨ k = 45))) → fn a k = fm a k
theorem KC.rf (f : q_F) : KC f f := fun _ _ _ => rfl
theorem KM.rf (f : q_F) : KM f f := fun _ _ _ => rfl
theorem PC.rf (f : q_F) : PC f f := fun _ _ _ => rfl
theorem PM.rf (f : q_F) : PM f f := fun _ _ _ => rfl
theorem KC.tr {f1 f2 f3 : q_F} (h1 : KC f1 f2) (h2 : KC f2 f3) : KC f1 f3 := fun a k c => (h2 a k c).trans (h1 a k c)
theorem KM.tr {f1 f2 f3 : q_F} (h1 : KM f1 f2) (h2 : KM f2 f3) : KM f1 f3 := fun a k c => (h2 a k c).trans (h1 a k c)
theorem PC.tr {f1 f2 f3 : q_F} (h1 : PC f1 f2) (h2 : PC f2 f3) : PC f1 f3 := fun a k c => (h2 a k c).trans (h1 a k c)
theorem PM.tr {f1 f2 f3 : q_F} (h1 : PM f1 f2) (h2 : PM f2 f3) : PM f1 f3 := fun a k c => (h2 a k c).trans (h1 a k c)
theorem ma_up_ne2 {f : q_F} {a k b j : Nat} {v : Int} (h : ¬ (b = a ∧ j = k)) : ma_up f a k v b j = f b j := by
  unfold ma_up
  by_cases h1 : b = a
  · rw [if_pos h1, if_neg (fun q => h ⟨h1, q⟩)]
  · rw [if_neg h1]
theorem KC.up {fc fd : q_F} {a k : Nat} {v : Int} (h : KC fc fd) (ok : ¬ (a < 4 ∨ (11 ≤ a ∧ a ≤ 14) ∨ (24 ≤ a ∧ a < 36) ∨ a = 59 ∨ 60 ≤ a ∨ (16 ≤ a ∧ a < 24 ∧ k ≤ 2))) : KC fc (ma_up fd a k v) := fun b j c => by
  rw [ma_up_ne2 (fun q => ok (by rw [← q.1, ← q.2]; exact c))]
  exact h b j c
theorem KM.up {fc fd : q_F} {a k : Nat} {v : Int} (h : KM fc fd) (ok : ¬ (a < 60 ∨ (61 ≤ a ∧ a ≤ 63) ∨ (66 ≤ a ∧ a ≤ 69) ∨ (75 ≤ a ∧ a ≤ 88) ∨ 96 ≤ a ∨ (a = 60 ∧ (k = 0 ∨ k = 6 ∨ k = 45 ∨ k = 22)))) : KM fc (ma_up fd a k v) := fun b j c => by
  rw [ma_up_ne2 (fun q => ok (by rw [← q.1, ← q.2]; exact c))]
  exact h b j c
theorem PC.up {fc fd : q_F} {a k : Nat} {v : Int} (h : PC fc fd) (ok : ¬ (a < 3 ∨ a = 59 ∨ 60 ≤ a ∨ (16 ≤ a ∧ a < 24 ∧ k ≤ 2))) : PC fc (ma_up fd a k v) := fun b j c => by
  rw [ma_up_ne2 (fun q => ok (by rw [← q.1, ← q.2]; exact c))]
  exact h b j c
theorem PM.up {fc fd : q_F} {a k : Nat} {v : Int} (h : PM fc fd) (ok : ¬ (a < 60 ∨ (61 ≤ a ∧ a ≤ 63) ∨ a = 66 ∨ 96 ≤ a ∨ (a = 60 ∧ (k = 0 ∨ k = 6 ∨ k = 45)))) : PM fc (ma_up fd a k v) := fun b j c => by
  rw [ma_up_ne2 (fun q => ok (by rw [← q.1, ← q.2]; exact c))]
  exact h b j c
theorem KC.p {fc fd : q_F} (h : KC fc fd) : PC fc fd := fun a k c => h a k (by omega)
theorem KM.p {fc fd : q_F} (h : KM fc fd) : PM fc fd := fun a k c => h a k (by omega)
theorem XC.p {s : Int} {fc fd : q_F} (h : XC s fc fd) : PC fc fd := fun a k c => by rw [h.1 a (by omega) (by omega) (by omega) (by omega)]
theorem XM.k {p b : Nat} {fm fn : q_F} (h : XM p b fm fn) : KM fm fn := fun a k c => by
  by_cases h60 : a = 60
  · subst h60
    exact h.2.1 k (by omega) (by omega) (by omega)
  · rw [h.1 a h60 (by omega) (by omega) (by omega) (by omega)]
/-- the reading ended: both at one place -/
def Fail (fd fn : q_F) : Prop := fn 60 9 = 1 ∧ fd 54 2 = fn 60 8 ∧ mOK fn
def itemok (k v I : Int) : Prop := (k = 0 ∧ I = v ∧ 0 ≤ v ∧ v < 8) ∨ (k = 1 ∧ I = -v ∧ pw64 v) ∨ (k = 2 ∧ I = v + 8 ∧ 0 ≤ v ∧ v < 18)
def gReg (fc fm : q_F) : Prop := ∀ r : Nat, r < 4 → (fc (24 + r) 0 = 0 ∧ fm 67 r = 0) ∨ (fc (24 + r) 0 = 1 ∧ fm 67 r = 1 ∧ fc (24 + r) 1 = fm 68 r ∧ fc (24 + r) 2 = fm 69 r ∧ 0 ≤ fc (24 + r) 1 ∧ 0 ≤ fc (24 + r) 2 ∧ fc (24 + r) 1 + fc (24 + r) 2 ≤ 512)
def gUse (fc fm : q_F) : Prop := ∀ k : Nat, k < 8 → fc (16 + k) 3 = fm 65 k ∧ (fm 65 k = 0 ∨ fm 65 k = 1) ∧ fc (16 + k) 4 = -1 ∧ fm 64 k = -1
def gItm (fc fm : q_F) : Prop := fc 8 2 = fm 60 37 ∧ 0 ≤ fc 8 2 ∧ fc 8 2 ≤ fc 54 2 ∧ (∀ j : Nat, (j : Int) < fc 8 2 → itemok (fc 9 j) (fc 10 j) (fm 89 j) ∧ (fc 9 j = 0 → fc (16 + (fc 10 j).toNat) 3 = 1) ∧ (fc 9 j = 2 → fc (36 + (fc 10 j).toNat) 0 = 1 ∧ fc (36 + (fc 10 j).toNat) 1 = 0)) ∧ ∀ i j : Nat, i < j → (j : Int) < fc 8 2 → fc 9 i = fc 9 j → fc 10 i = fc 10 j → fc 9 i = 1
def rtold (fc : q_F) (r : Int) : Prop := 0 ≤ r ∧ r < 4 ∧ fc (24 + r.toNat) 0 = 1
/-- two rows stand for one expression -/
def exok (fc : q_F) (a b A B : Int) : Prop := A = a ∧ B = b ∧ 0 ≤ a ∧ a < b ∧ b ≤ fc 11 2 ∧ WF (fc 12) a b 0 1
def seAd (fc fm : q_F) (k : Nat) : Prop := (fc (28 + k) 1 = 0 ∧ fm 79 k = fm 80 k) ∨ (fc (28 + k) 1 = 1 ∧ exok fc (fc (28 + k) 2) (fc (28 + k) 3) (fm 79 k) (fm 80 k))
def seIt (fc fm : q_F) (k : Nat) : Prop := fc (28 + k) 4 = fm 84 k ∧ fc (28 + k) 5 = fm 84 k + fm 85 k ∧ 0 ≤ fc (28 + k) 4 ∧ fc (28 + k) 4 ≤ fc (28 + k) 5 ∧ fc (28 + k) 5 ≤ fc 8 2
def seHo (fc fm : q_F) (k : Nat) : Prop := fc (28 + k) 6 = fm 81 k ∧ rtold fc (fc (28 + k) 6) ∧ fc (28 + k) 8 = fm 82 k ∧ (fc (28 + k) 8 = -1 ∨ (rtold fc (fc (28 + k) 8) ∧ fc (28 + k) 8 ≠ fc (28 + k) 6 ∧ fc (28 + k) 7 = 1)) ∧ fc (28 + k) 7 = fm 83 k ∧ (fc (28 + k) 7 = 0 ∨ fc (28 + k) 7 = 1)
def gTol (fc fm : q_F) : Prop := fc 3 7 = fm 60 22 ∧ fc 3 7 = fc 28 0 + fc 29 0 + fc 30 0 + fc 31 0 + fc 32 0 + fc 33 0 + fc 34 0 + fc 35 0 ∧ (∀ k : Nat, k < 8 → fc (28 + k) 0 = fm 76 k ∧ (fc (28 + k) 0 = 0 ∨ fc (28 + k) 0 = 1) ∧ (fc (28 + k) 9 = NY ∧ fc (28 + k) 10 = NY ∧ fc (28 + k) 11 = NY ∧ fm 77 k = 0) ∧ (fc (28 + k) 0 = 1 → 0 ≤ fm 78 k ∧ fm 78 k < fc 3 7 ∧ fc 14 (fm 78 k).toNat = k) ∧ (fc (28 + k) 0 = 0 → fc (28 + k) 1 = 0 ∧ fc (28 + k) 7 = 1 ∧ fc (28 + k) 8 = -1)) ∧ ∀ i : Nat, (i : Int) < fc 3 7 → fc 14 i = fm 75 i ∧ 0 ≤ fc 14 i ∧ fc 14 i < 8 ∧ fc (28 + (fc 14 i).toNat) 0 = 1 ∧ fm 78 (fc 14 i).toNat = i
def gSec (x : Nat) (fc fm : q_F) : Prop := (∀ k : Nat, k < 8 → k ≠ x → fc (28 + k) 0 = 1 → seAd fc fm k ∧ seIt fc fm k ∧ seHo fc fm k) ∧ ∀ k l : Nat, k < 8 → l < 8 → k ≠ l → k ≠ x → l ≠ x → fc (28 + k) 0 = 1 → fc (28 + l) 0 = 1 → fc (28 + k) 5 ≤ fc (28 + l) 4 ∨ fc (28 + l) 5 ≤ fc (28 + k) 4
def symok (fc fm : q_F) (v : Nat) : Prop := (fc (36 + v) 1 = 0 ∧ 0 ≤ fm 92 (v + 8) ∧ fm 92 (v + 8) < 8) ∨ (fc (36 + v) 1 = 1 ∧ fm 92 (v + 8) = -1 ∧ exok fc (fc (36 + v) 2) (fc (36 + v) 3) (fm 93 (v + 8)) (fm 94 (v + 8)))
def gSym (y : Nat) (fc fm : q_F) : Prop := ∀ v : Nat, v < 18 → fc (36 + v) 0 = fm 90 (v + 8) ∧ (fc (36 + v) 0 = 0 ∨ fc (36 + v) 0 = 1) ∧ (fc (36 + v) 4 = NY ∧ fm 91 (v + 8) = 0) ∧ (fc (36 + v) 0 = 0 → fc (36 + v) 1 = 0) ∧ (v ≠ y → fc (36 + v) 0 = 1 → symok fc fm v)
def RR (x y : Nat) (fc fm : q_F) : Prop := XR fc fm ∧ gReg fc fm ∧ gUse fc fm ∧ gItm fc fm ∧ gTol fc fm ∧ gSec x fc fm ∧ gSym y fc fm
theorem exok.ext {fc fd : q_F} {a b A B : Int} (h : exok fc a b A B) (h1 : fc 11 2 ≤ fd 11 2) (h2 : ∀ j : Nat, (j : Int) < fc 11 2 → fd 12 j = fc 12 j) : exok fd a b A B := by
  obtain ⟨q1, q2, q3, q4, q5, q6⟩ := h
  exact ⟨q1, q2, q3, q4, by omega, WF.ext q3 (by omega) (fun j hj => h2 j (by omega)) q6⟩
/-- rows that neither expressions nor places touch carry over -/
theorem RR.x {x y p b : Nat} {s : Int} {fc fd fm fn : q_F} (h : RR x y fc fm) (hx : XR fd fn) (hc : XC s fc fd) (hm : XM p b fm fn) : RR x y fd fn := by
  obtain ⟨h1, h2, h3, ⟨h4a, h4b, h4c, h4d⟩, h5, h6, h7⟩ := h
  obtain ⟨c1, c2, c3, c4, c5, c6⟩ := hc
  obtain ⟨m1, m2, m3, m4⟩ := hm
  have rc : ∀ a, a < 11 ∨ (14 ≤ a ∧ a < 54) → fd a = fc a := fun a ha => c1 a (by omega) (by omega) (by omega) (by omega)
  have rm : ∀ a, (61 ≤ a ∧ a < 70) ∨ 75 ≤ a → fn a = fm a := fun a ha => m1 a (by omega) (by omega) (by omega) (by omega) (by omega)
  have e12 : ∀ j : Nat, (j : Int) < fc 11 2 → fd 12 j = fc 12 j := fun j hj => (c2 j hj).1
  refine ⟨hx, fun r hr => ?_, fun k hk => ?_, ⟨?_, ?_, ?_, ?_⟩, ⟨?_, ?_, fun k hk => ?_, fun i hi => ?_⟩, ⟨fun k hk kx ht => ?_, fun k l hk hl n1 n2 n3 t1 t2 => ?_⟩, fun v hv => ?_⟩
  · rw [rc (24 + r) (by omega), rm 67 (by omega), rm 68 (by omega), rm 69 (by omega)]
    exact h2 r hr
  · rw [rc (16 + k) (by omega), rm 65 (by omega), rm 64 (by omega)]
    exact h3 k hk
  · rw [rc 8 (by omega), m2 37 (by omega) (by omega) (by omega)]
    exact h4a
  · rw [rc 8 (by omega)]
    exact h4b
  · rw [rc 8 (by omega)]
    omega
  · rw [rc 8 (by omega), rc 9 (by omega), rc 10 (by omega), rm 89 (by omega)]
    refine ⟨fun j hj => ?_, h4d.2⟩
    obtain ⟨q1, q2, q3⟩ := h4d.1 j hj
    refine ⟨q1, fun e => ?_, fun e => ?_⟩
    · have := q1
      unfold itemok at this
      rw [rc (16 + (fc 10 j).toNat) (by omega)]
      exact q2 e
    · have := q1
      unfold itemok at this
      rw [rc (36 + (fc 10 j).toNat) (by omega)]
      exact q3 e
  · rw [rc 3 (by omega), m2 22 (by omega) (by omega) (by omega)]
    exact h5.1
  · rw [rc 3 (by omega), rc 28 (by omega), rc 29 (by omega), rc 30 (by omega), rc 31 (by omega), rc 32 (by omega), rc 33 (by omega), rc 34 (by omega), rc 35 (by omega)]
    exact h5.2.1
  · rw [rc 3 (by omega), rc 14 (by omega), rc (28 + k) (by omega), rm 76 (by omega), rm 77 (by omega), rm 78 (by omega)]
    exact h5.2.2.1 k hk
  · rw [rc 3 (by omega)] at hi
    have q := h5.2.2.2 i hi
    rw [rc 14 (by omega), rm 75 (by omega), rm 78 (by omega), rc (28 + (fc 14 i).toNat) (by omega)]
    exact q
  · rw [rc (28 + k) (by omega)] at ht
    obtain ⟨q1, q2, q3⟩ := h6.1 k hk kx ht
    refine ⟨?_, ?_, ?_⟩
    · unfold seAd at *
      rw [rc (28 + k) (by omega), rm 79 (by omega), rm 80 (by omega)]
      exact q1.imp id (fun q => ⟨q.1, q.2.ext c4 e12⟩)
    · unfold seIt at *
      rw [rc (28 + k) (by omega), rm 84 (by omega), rm 85 (by omega), rc 8 (by omega)]
      exact q2
    · unfold seHo rtold at *
      obtain ⟨q4, q5, q6, q7, q8⟩ := q3
      rw [rc (28 + k) (by omega), rm 81 (by omega), rm 82 (by omega), rm 83 (by omega), rc (24 + (fc (28 + k) 6).toNat) (by omega)]
      refine ⟨q4, q5, q6, ?_, q8⟩
      rcases q7 with q7 | q7
      · exact Or.inl q7
      · rw [rc (24 + (fc (28 + k) 8).toNat) (by omega)]
        exact Or.inr q7
  · rw [rc (28 + k) (by omega)] at t1 ⊢
    rw [rc (28 + l) (by omega)] at t2 ⊢
    exact h6.2 k l hk hl n1 n2 n3 t1 t2
  · obtain ⟨q1, q2, q3, q4, q5⟩ := h7 v hv
    rw [rc (36 + v) (by omega), rm 90 (by omega), rm 91 (by omega)]
    refine ⟨q1, q2, q3, q4, fun n t => ?_⟩
    have q6 := q5 n t
    unfold symok at *
    rw [rc (36 + v) (by omega), rm 92 (by omega), rm 93 (by omega), rm 94 (by omega)]
    exact q6.imp id (fun q => ⟨q.1, q.2.1, q.2.2.ext c4 e12⟩)
