/-! ===== both sides read one text: relation, rows that change ===== -/
def gText (t : Nat → Int) (n : Int) (T : Nat → Int) (N : Int) : Prop := tOK t n ∧ n = N ∧ ∀ j : Nat, (j : Int) < n → t j = T j
theorem gText_OK {t T : Nat → Int} {n N : Int} (h : gText t n T N) : tOK T N := by
  obtain ⟨⟨h1, h2, h3⟩, rfl, h4⟩ := h
  refine ⟨h1, h2, fun j hj => ?_⟩
  rw [← h4 j hj]
  exact h3 j hj
theorem gText_chr {t T : Nat → Int} {n N i : Int} (h : gText t n T N) (hi : 0 ≤ i) : chr t n i = chr T N i := by
  obtain ⟨-, rfl, h4⟩ := h
  unfold chr
  by_cases hl : i < n
  · rw [if_pos hl, if_pos hl]
    exact h4 _ (by omega)
  · rw [if_neg hl, if_neg hl]
theorem gText_dgt {t T : Nat → Int} {n N : Int} (h : gText t n T N) : ∀ (k : Nat) (i v : Int), 0 ≤ i → dgt t n k i v = dgt T N k i v := by
  intro k
  induction k with
  | zero => intro i v hi; rfl
  | succ k ih =>
    intro i v hi
    simp only [dgt, gText_chr h hi]
    rw [ih _ _ (by omega)]
def stepok (k v V : Int) : Prop := (k = 0 ∧ V = v ∧ 0 ≤ v ∧ v ≤ 9999) ∨ (k = 1 ∧ V = v + 8 ∧ 0 ≤ v ∧ v < 18) ∨ ((k = 2 ∨ k = 3 ∨ k = 4) ∧ V = v ∧ 0 ≤ v ∧ v < 8) ∨ (k = 5 ∨ k = 6) ∨ (k = 7 ∧ V = v ∧ pw64 v)
def gStep (m M : Int) (k v K V : Nat → Int) : Prop := m = M ∧ 0 ≤ m ∧ ∀ j : Nat, (j : Int) < m → K j = k j ∧ stepok (k j) (v j) (V j)
def XR (fc fm : q_F) : Prop := gText (fc 2) (fc 1 1) (fm 66) (fm 60 6) ∧ (fc 54 2 = fm 60 8 ∧ 0 ≤ fc 54 2 ∧ fc 54 2 ≤ fc 1 1 ∧ fm 60 9 = 0) ∧ gStep (fc 11 2) (fm 60 14) (fc 12) (fc 13) (fm 70) (fm 71) ∧ fc 11 2 ≤ fc 54 2
/-- what a part of an expression changes in the class's store: s, how many steps it may make beyond the characters that it takes -/
def XC (s : Int) (fc fd : q_F) : Prop := (∀ a, a ≠ 54 → a ≠ 11 → a ≠ 12 → a ≠ 13 → fd a = fc a) ∧ (∀ j : Nat, (j : Int) < fc 11 2 → fd 12 j = fc 12 j ∧ fd 13 j = fc 13 j) ∧ fc 54 2 ≤ fd 54 2 ∧ fc 11 2 ≤ fd 11 2 ∧ fd 11 2 - fc 11 2 ≤ fd 54 2 - fc 54 2 + s ∧ (fc 54 2 ≤ fc 1 1 → fd 54 2 ≤ fc 1 1)
/-- .. and in the reference's: pending signs below p and brackets below b stay -/
def XM (p b : Nat) (fm fn : q_F) : Prop := (∀ a, a ≠ 60 → a ≠ 70 → a ≠ 71 → a ≠ 73 → a ≠ 74 → fn a = fm a) ∧ (∀ k, k ≠ 8 → k ≠ 9 → k ≠ 14 → fn 60 k = fm 60 k) ∧ (∀ j, j < p → fn 73 j = fm 73 j) ∧ ∀ j, j < b → fn 74 j = fm 74 j
theorem XC.rf (fc : q_F) : XC 0 fc fc := ⟨fun _ _ _ _ _ => rfl, fun _ _ => ⟨rfl, rfl⟩, Int.le_refl _, Int.le_refl _, by omega, id⟩
theorem XC.tr {s1 s2 s3 : Int} {f1 f2 f3 : q_F} (h1 : XC s1 f1 f2) (h2 : XC s2 f2 f3) (hs : s1 + s2 ≤ s3) : XC s3 f1 f3 := by
  obtain ⟨a1, a2, a3, a4, a5, a6⟩ := h1
  obtain ⟨b1, b2, b3, b4, b5, b6⟩ := h2
  have e1 : f2 1 1 = f1 1 1 := by rw [a1 1 (by decide) (by decide) (by decide) (by decide)]
  refine ⟨fun a c1 c2 c3 c4 => (b1 a c1 c2 c3 c4).trans (a1 a c1 c2 c3 c4), fun j hj => ?_, by omega, by omega, by omega, fun q => by have := a6 q; omega⟩
  have q1 := a2 j hj
  have q2 := b2 j (by omega)
  exact ⟨q2.1.trans q1.1, q2.2.trans q1.2⟩
theorem XC.up {s1 s2 : Int} {f1 f2 : q_F} (h : XC s1 f1 f2) (hs : s1 ≤ s2) : XC s2 f1 f2 := h.tr (XC.rf f2) (by omega)
theorem XM.rf (p b : Nat) (fm : q_F) : XM p b fm fm := ⟨fun _ _ _ _ _ _ => rfl, fun _ _ _ _ => rfl, fun _ _ => rfl, fun _ _ => rfl⟩
theorem XM.tr {p b : Nat} {f1 f2 f3 : q_F} (h1 : XM p b f1 f2) (h2 : XM p b f2 f3) : XM p b f1 f3 := by
  obtain ⟨a1, a2, a3, a4⟩ := h1
  obtain ⟨b1, b2, b3, b4⟩ := h2
  exact ⟨fun a c1 c2 c3 c4 c5 => (b1 a c1 c2 c3 c4 c5).trans (a1 a c1 c2 c3 c4 c5), fun k c1 c2 c3 => (b2 k c1 c2 c3).trans (a2 k c1 c2 c3), fun j hj => (b3 j hj).trans (a3 j hj), fun j hj => (b4 j hj).trans (a4 j hj)⟩
theorem XM.less {p b p2 b2 : Nat} {f1 f2 : q_F} (h : XM p b f1 f2) (hp : p2 ≤ p) (hb : b2 ≤ b) : XM p2 b2 f1 f2 := ⟨h.1, h.2.1, fun j hj => h.2.2.1 j (by omega), fun j hj => h.2.2.2 j (by omega)⟩
section XRs
variable {fc fm : q_F}
theorem XR.c (h : XR fc fm) : cOK fc := ⟨h.1.1, h.2.1.2.1, h.2.1.2.2.1⟩
theorem XR.m (h : XR fc fm) : mOK fm := by
  obtain ⟨h1, ⟨h2, h3, h4, -⟩, -⟩ := h
  refine ⟨gText_OK h1, by omega, ?_⟩
  rw [← h2, ← h1.2.1]
  exact h4
theorem XR.w (h : XR fc fm) : fm 60 9 = 0 := h.2.1.2.2.2
theorem XR.ch (h : XR fc fm) : mch fm = cch fc := by
  unfold mch cch
  rw [← h.2.1.1]
  exact (gText_chr h.1 h.2.1.2.1).symm
theorem XR.dg (h : XR fc fm) : mdg fm = cdg fc := by
  unfold mdg cdg
  rw [← h.2.1.1]
  exact (gText_dgt h.1 4 _ 0 h.2.1.2.1).symm
/-- both go on to a place -/
theorem XR.move {fd : q_F} {i : Int} (p b : Nat) (h : XR fc fm) (hr : ∀ a, a ≠ 54 → fd a = fc a) (hi : fd 54 2 = i) (h1 : fc 54 2 ≤ i) (h2 : i ≤ fc 1 1) : XR fd (mSet fm i) ∧ XC (fc 54 2 - i) fc fd ∧ XM p b fm (mSet fm i) := by
  obtain ⟨a1, ⟨a2, a3, a4, a5⟩, a6, a7⟩ := h
  have e66 : mSet fm i 66 = fm 66 := ma_up_ne (by decide)
  have e70 : mSet fm i 70 = fm 70 := ma_up_ne (by decide)
  have e71 : mSet fm i 71 = fm 71 := ma_up_ne (by decide)
  have e8 : mSet fm i 60 8 = i := by simp [mSet, ma_up]
  have ek : ∀ k, k ≠ 8 → mSet fm i 60 k = fm 60 k := fun k hk => by simp [mSet, ma_up, hk]
  refine ⟨⟨?_, ⟨?_, ?_, ?_, ?_⟩, ?_, ?_⟩, ⟨fun a c1 _ _ _ => hr a c1, fun j _ => ?_, ?_, ?_, ?_⟩, ⟨fun a c1 _ _ _ _ => ma_up_ne c1, fun k c1 _ _ => ek k c1, fun j _ => ?_, fun j _ => ?_⟩⟩
  · rw [hr 2 (by decide), hr 1 (by decide), e66, ek 6 (by decide)]
    exact a1
  · rw [hi, e8]
  · omega
  · rw [hi, hr 1 (by decide)]
    exact h2
  · rw [ek 9 (by decide)]
    exact a5
  · rw [hr 11 (by decide), hr 12 (by decide), hr 13 (by decide), e70, e71, ek 14 (by decide)]
    exact a6
  · rw [hr 11 (by decide)]
    omega
  · rw [hr 12 (by decide), hr 13 (by decide)]
    exact ⟨rfl, rfl⟩
  · omega
  · rw [hr 11 (by decide)]
    omega
  · rw [hr 11 (by decide), hi]
    omega
  · rw [show mSet fm i 73 = fm 73 from ma_up_ne (by decide)]
  · rw [show mSet fm i 74 = fm 74 from ma_up_ne (by decide)]
theorem XR.adv (p b : Nat) (h : XR fc fm) (hc : cch fc ≠ 0) : XR (cAdv fc) (mAdv fm) ∧ XC (-1) fc (cAdv fc) ∧ XM p b fm (mAdv fm) := by
  have hb := cch_b h.c
  have h1 := XR.move (fd := cAdv fc) (i := fc 54 2 + 1) p b h (fun a ha => ma_up_ne ha) (by simp [cAdv, ma_up]) (by omega) (by omega)
  have e : mSet fm (fc 54 2 + 1) = mAdv fm := by rw [h.2.1.1]; rfl
  rw [e] at h1
  exact ⟨h1.1, h1.2.1.up (by omega), h1.2.2⟩
theorem XR.num (p b : Nat) (h : XR fc fm) (hc : fc 54 2 < (cdg fc).2) : XR (cNum fc (cdg fc)) (mSet fm (mdg fm).2) ∧ XC (-1) fc (cNum fc (cdg fc)) ∧ XM p b fm (mSet fm (mdg fm).2) := by
  have hb := cdg_r h.c
  have h1 := XR.move (fd := cNum fc (cdg fc)) (i := (cdg fc).2) p b h (fun a ha => by unfold cNum; rw [ma_up_ne ha, ma_up_ne ha]) (by simp [cNum, ma_up]) (by omega) (by omega)
  rw [h.dg]
  exact ⟨h1.1, h1.2.1.up (by omega), h1.2.2⟩
/-- a step of each -/
theorem XR.step {k v V : Int} (p b : Nat) (h : XR fc fm) (hs : stepok k v V) (hm : fc 11 2 < fc 54 2) : XR (cStep fc k v) (mStep fm k V) ∧ XC 1 fc (cStep fc k v) ∧ XM p b fm (mStep fm k V) := by
  obtain ⟨a1, ⟨a2, a3, a4, a5⟩, ⟨a6, a7, a8⟩, a9⟩ := h
  have er : ∀ a, a ≠ 11 → a ≠ 12 → a ≠ 13 → cStep fc k v a = fc a := fun a c1 c2 c3 => by unfold cStep; rw [ma_up_ne c1, ma_up_ne c3, ma_up_ne c2]
  have em : ∀ a, a ≠ 60 → a ≠ 70 → a ≠ 71 → mStep fm k V a = fm a := fun a c1 c2 c3 => by unfold mStep; rw [ma_up_ne c1, ma_up_ne c3, ma_up_ne c2]
  have e11 : cStep fc k v 11 2 = fc 11 2 + 1 := by simp [cStep, ma_up]
  have e14 : mStep fm k V 60 14 = fm 60 14 + 1 := by simp [mStep, ma_up]
  have ek : ∀ j, j ≠ 14 → mStep fm k V 60 j = fm 60 j := fun j hj => by simp [mStep, ma_up, hj]
  have e12 : ∀ j, cStep fc k v 12 j = if j = (fc 11 2).toNat then k else fc 12 j := fun j => by simp [cStep, ma_up]
  have e13 : ∀ j, cStep fc k v 13 j = if j = (fc 11 2).toNat then v else fc 13 j := fun j => by simp [cStep, ma_up]
  have e70 : ∀ j, mStep fm k V 70 j = if j = (fc 11 2).toNat then k else fm 70 j := fun j => by rw [a6]; simp [mStep, ma_up]
  have e71 : ∀ j, mStep fm k V 71 j = if j = (fc 11 2).toNat then V else fm 71 j := fun j => by rw [a6]; simp [mStep, ma_up]
  refine ⟨⟨?_, ⟨?_, ?_, ?_, ?_⟩, ⟨?_, ?_, fun j hj => ?_⟩, ?_⟩, ⟨fun a _ c2 c3 c4 => er a c2 c3 c4, fun j hj => ?_, ?_, ?_, ?_⟩, ⟨fun a c1 c2 c3 _ _ => em a c1 c2 c3, fun j _ _ c3 => ek j c3, fun j _ => ?_, fun j _ => ?_⟩⟩
  · rw [er 2 (by decide) (by decide) (by decide), er 1 (by decide) (by decide) (by decide), em 66 (by decide) (by decide) (by decide), ek 6 (by decide)]
    exact a1
  · rw [er 54 (by decide) (by decide) (by decide), ek 8 (by decide)]
    exact a2
  · rw [er 54 (by decide) (by decide) (by decide)]
    exact a3
  · rw [er 54 (by decide) (by decide) (by decide), er 1 (by decide) (by decide) (by decide)]
    exact a4
  · rw [ek 9 (by decide)]
    exact a5
  · rw [e11, e14, a6]
  · rw [e11]
    omega
  · rw [e11] at hj
    rw [e12, e13, e70, e71]
    by_cases hq : j = (fc 11 2).toNat
    · rw [if_pos hq, if_pos hq, if_pos hq, if_pos hq]
      exact ⟨rfl, hs⟩
    · rw [if_neg hq, if_neg hq, if_neg hq, if_neg hq]
      exact a8 j (by omega)
  · rw [e11, er 54 (by decide) (by decide) (by decide)]
    omega
  · rw [e12, e13, if_neg (by omega), if_neg (by omega)]
    exact ⟨rfl, rfl⟩
  · rw [er 54 (by decide) (by decide) (by decide)]
    exact Int.le_refl _
  · rw [e11]
    omega
  · rw [e11, er 54 (by decide) (by decide) (by decide)]
    omega
  · rw [em 73 (by decide) (by decide) (by decide)]
  · rw [em 74 (by decide) (by decide) (by decide)]
end XRs
