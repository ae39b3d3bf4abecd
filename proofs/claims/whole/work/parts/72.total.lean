/-! ===== the reference goes on where an expression was unsound: it is total ===== -/
section TO
variable {g g' : q_F} {k : Nat}
theorem put_total {hi : Int} {fc : q_F} (hk : k < 8) : ∀ (m : Nat) (n2 : Nat) (j : Nat) (p : Int) (fm : q_F), fm 84 k + fm 85 k = hi → itF fc fm j hi → (j : Int) + m = hi → m < n2 → mF fm →
    ∃ fn, p_Mod_putSection_152 n2 k p j fm g' = some (fn, g') ∧ SM fm fn ∧ fn 60 = fm 60 ∧ mF fn := by
  intro m
  have ik : 0 ≤ (k : Int) ∧ (k : Int) < 8 := by omega
  induction m with
  | zero =>
    intro n2 j p fm h84 hF hj h2 hf
    obtain ⟨n2, rfl⟩ : ∃ k, n2 = k + 1 := ⟨n2 - 1, by omega⟩
    have b1 := hF.2.1
    refine ⟨ma_up (ma_up fm 87 k (p - fm 86 k)) 77 k 1, ?_, ((SM.rf fm).up (by unfold dynM; omega)).up (by unfold dynM; omega), ?_, ?_⟩
    · rw [p_Mod_putSection_152, if_pos ik, if_pos ik, Int.toNat_natCast, if_pos (show q_sw (fm 84 k + fm 85 k) ≤ q_sw (j : Int) by rw [h84, q_swn (by omega), q_swn (by omega)]; omega), if_pos ik, if_pos ik]
      dsimp only [q_let]
      rw [if_pos ik, q_nz1]
    · rw [ma_up_ne (by omega), ma_up_ne (by omega)]
    · refine ⟨fun l hl => ?_, fun v h8 hv => ?_⟩
      · by_cases e : l = k
        · subst e
          rw [ma_up_self]
          exact Or.inr rfl
        · rw [ma_up_at e, ma_up_ne (by omega)]
          exact hf.1 l hl
      · rw [ma_up_ne (by omega), ma_up_ne (by omega)]
        exact hf.2 v h8 hv
  | succ m ih =>
    intro n2 j p fm h84 hF hj h2 hf
    obtain ⟨n2, rfl⟩ : ∃ k, n2 = k + 1 := ⟨n2 - 1, by omega⟩
    obtain ⟨f0, f1, f2, f3⟩ := hF
    have ij : 0 ≤ (j : Int) ∧ (j : Int) < 160 := by omega
    have hit := f2 j (by omega) (by omega)
    have go : ∀ (p1 : Int) (fm1 : q_F), SM fm fm1 → fm1 60 = fm 60 → mF fm1 → p_Mod_putSection_152 (n2 + 1) k p j fm g' = p_Mod_putSection_152 n2 k p1 ((j : Int) + 1) fm1 g' → ∃ fn, p_Mod_putSection_152 (n2 + 1) k p j fm g' = some (fn, g') ∧ SM fm fn ∧ fn 60 = fm 60 ∧ mF fn := by
      intro p1 fm1 a1 a2 a3 a4
      have sr : ∀ a, (61 ≤ a ∧ a ≤ 63) ∨ (84 ≤ a ∧ a ≤ 85) ∨ a = 89 → fm1 a = fm a := fun a ha => a1.row (fun c => by unfold dynM; omega)
      obtain ⟨fn, d1, d2, d3, d4⟩ := ih n2 (j + 1) p1 fm1 (by rw [sr 84 (by omega), sr 85 (by omega)]; exact h84) ⟨by omega, f1, fun i c1 c2 => by
          rw [sr 89 (by omega)]
          exact f2 i (by omega) c2, fun v hv => by
          rw [sr 61 (by omega), sr 62 (by omega), sr 63 (by omega)]
          exact f3 v hv⟩ (by omega) (by omega) a3
      rw [show ((j + 1 : Nat) : Int) = (j : Int) + 1 by omega] at d1
      exact ⟨fn, a4.trans d1, a1.tr d2, d3.trans a2, d4⟩
    rcases hit with ⟨q1, q2, q3, q4⟩ | ⟨q1, q2, q3⟩ | ⟨q1, q2, q3, q4⟩
    · obtain ⟨w, hw⟩ : ∃ w : Nat, fc 10 j = w := ⟨(fc 10 j).toNat, by omega⟩
      have hI : fm 89 j = w := by omega
      obtain ⟨p1, p2, p3, p4, p5⟩ := f3 w (by omega)
      have h64 := pw16_64 p4
      rw [p3] at h64
      obtain ⟨y, hy⟩ := m_raiseT (f := fm) (g := g') (x := p) h64
      refine go (y + q_sw (ma_up fm 64 w y 61 w)) (ma_up fm 64 w y) ((SM.rf fm).up (by unfold dynM; omega)) (ma_up_ne (by omega)) ⟨fun l hl => by rw [ma_up_ne (by omega)]; exact hf.1 l hl, fun v h8 hv => by rw [ma_up_ne (by omega)]; exact hf.2 v h8 hv⟩ ?_
      rw [p_Mod_putSection_152, if_pos ik, if_pos ik, Int.toNat_natCast, if_neg (show ¬ q_sw (fm 84 k + fm 85 k) ≤ q_sw (j : Int) by rw [h84, q_swn (by omega), q_swn (by omega)]; omega), if_pos ij]
      dsimp only [q_let]
      unfold p_Mod_putSection_254
      rw [Int.toNat_natCast, hI, if_pos (show 0 ≤ q_sw (w : Int) by rw [q_swn (by omega)]; omega), if_neg (show ¬ q_sw 8 ≤ q_sw (w : Int) by rw [q_swn (by omega), q_swn (by omega)]; omega), if_pos (show 0 ≤ (w : Int) ∧ (w : Int) < 8 by omega), Int.toNat_natCast, hy, Option.bind_some, if_pos (show 0 ≤ (w : Int) ∧ (w : Int) < 8 by omega), if_pos (show 0 ≤ (w : Int) ∧ (w : Int) < 8 by omega)]
      rfl
    · have q3' : 1 ≤ fc 10 j ∧ fc 10 j ≤ 64 := by rcases q3 with h | h | h | h | h | h | h <;> omega
      obtain ⟨y, hy⟩ := m_raiseT (f := fm) (g := g') (x := p) q3
      refine go y fm (SM.rf fm) rfl hf ?_
      rw [p_Mod_putSection_152, if_pos ik, if_pos ik, Int.toNat_natCast, if_neg (show ¬ q_sw (fm 84 k + fm 85 k) ≤ q_sw (j : Int) by rw [h84, q_swn (by omega), q_swn (by omega)]; omega), if_pos ij]
      dsimp only [q_let]
      unfold p_Mod_putSection_254
      rw [Int.toNat_natCast, q2, if_neg (show ¬ 0 ≤ q_sw (-fc 10 j) by rw [q_swn (by omega)]; omega), Int.neg_neg, hy, Option.bind_some]
      rfl
    · obtain ⟨w, hw⟩ : ∃ w : Nat, fc 10 j = w := ⟨(fc 10 j).toNat, by omega⟩
      have hI : fm 89 j = (w + 8 : Nat) := by omega
      refine go p (ma_up (ma_up fm 95 (w + 8) p) 91 (w + 8) 1) (((SM.rf fm).up (by unfold dynM; omega)).up (by unfold dynM; omega)) (by rw [ma_up_ne (by omega), ma_up_ne (by omega)]) ⟨fun l hl => by rw [ma_up_ne (by omega), ma_up_ne (by omega)]; exact hf.1 l hl, fun v h8 hv => ?_⟩ ?_
      · by_cases e : v = w + 8
        · subst e
          rw [ma_up_self]
          exact Or.inr rfl
        · rw [ma_up_at e, ma_up_ne (by omega)]
          exact hf.2 v h8 hv
      · rw [p_Mod_putSection_152, if_pos ik, if_pos ik, Int.toNat_natCast, if_neg (show ¬ q_sw (fm 84 k + fm 85 k) ≤ q_sw (j : Int) by rw [h84, q_swn (by omega), q_swn (by omega)]; omega), if_pos ij]
        dsimp only [q_let]
        unfold p_Mod_putSection_254
        rw [Int.toNat_natCast, hI, if_pos (show 0 ≤ q_sw ((w + 8 : Nat) : Int) by rw [q_swn (by omega)]; omega), if_pos (show q_sw 8 ≤ q_sw ((w + 8 : Nat) : Int) by rw [q_swn (by omega), q_swn (by omega)]; omega), if_pos (show 0 ≤ ((w + 8 : Nat) : Int) ∧ ((w + 8 : Nat) : Int) < 26 by omega), if_pos (show 0 ≤ ((w + 8 : Nat) : Int) ∧ ((w + 8 : Nat) : Int) < 26 by omega), Int.toNat_natCast, q_nz1]
        rfl
/-- state of the reference where an expression was unsound -/
def UU (m0 fm : q_F) : Prop := SM m0 fm ∧ fm 60 21 = 1 ∧ mF fm ∧ (fm 60 20 = 0 ∨ fm 60 20 = 1)
theorem SS.it {fc fm : q_F} (h : SS fc fm) (hk : k < 8) (ht : fc (28 + k) 0 = 1) : itF fc fm (fc (28 + k) 4) (fc (28 + k) 5) := by
  obtain ⟨-, i⟩ := h.2.2.2.2.1.1 k hk ht
  obtain ⟨i1, i2, i3, i4, i5⟩ := i.1
  have h8 := h.2.2.1.1
  exact ⟨i3, by omega, fun j c1 c2 => (h.2.2.1.2.1 j (by omega)).1, h.2.2.2.2.2.2⟩
def CTX (c0 m0 : q_F) : Prop := RR 8 18 c0 m0 ∧ gIn c0 m0
theorem CTX.ss {c0 m0 fc fm : q_F} (h : CTX c0 m0) (hc : SC c0 fc) (hm : SM m0 fm) : SS fc fm := SS_of h.1 h.2 hc hm
theorem m_117T {fc fm : q_F} {v s : Int} (hS : SS fc fm) (hk : k < 8) (ht : fc (28 + k) 0 = 1) (hF : mF fm) : ∃ fn, p_Mod_putSection_117 k v s fm g' = some (fn, g') ∧ SM fm fn ∧ fn 60 = fm 60 ∧ mF fn := by
  have ik : 0 ≤ (k : Int) ∧ (k : Int) < 8 := by omega
  unfold p_Mod_putSection_117
  by_cases hkn : q_sw (fm 60 20) = 0
  · rw [if_pos hkn]
    exact ⟨fm, rfl, SM.rf fm, rfl, hF⟩
  · rw [if_neg hkn, if_pos ik]
    dsimp only [q_let]
    rw [if_pos ik, if_pos ik, Int.toNat_natCast]
    have sm : SM fm (ma_up (ma_up fm 86 k v) 88 k s) := ((SM.rf fm).up (by unfold dynM; omega)).up (by unfold dynM; omega)
    have r : ∀ a, a ≠ 86 → a ≠ 88 → ma_up (ma_up fm 86 k v) 88 k s a = fm a := fun a c1 c2 => (ma_up_ne c2).trans (ma_up_ne c1)
    have hit := hS.it hk ht
    obtain ⟨-, i, -⟩ := hS.2.2.2.2.1.1 k hk ht
    obtain ⟨i1, i2, i3, i4, i5⟩ := i
    have h160 := hit.2.1
    obtain ⟨j, hj⟩ : ∃ j : Nat, fc (28 + k) 4 = j := ⟨(fc (28 + k) 4).toNat, by omega⟩
    obtain ⟨fn, d1, d2, d3, d4⟩ := put_total (fc := fc) (g' := g') hk (fc (28 + k) 5 - j).toNat 1000 j v (ma_up (ma_up fm 86 k v) 88 k s) (by rw [r 84 (by omega) (by omega), r 85 (by omega) (by omega)]; exact i2.symm) ⟨by omega, hit.2.1, fun i c1 c2 => by
        rw [r 89 (by omega) (by omega)]
        exact hit.2.2.1 i (by omega) c2, fun v hv => by
        rw [r 61 (by omega) (by omega), r 62 (by omega) (by omega), r 63 (by omega) (by omega)]
        exact hit.2.2.2 v hv⟩ (by omega) (by omega) ⟨fun l hl => by rw [r 77 (by omega) (by omega)]; exact hF.1 l hl, fun v h8 hv => by rw [r 91 (by omega) (by omega)]; exact hF.2 v h8 hv⟩
    rw [r 84 (by omega) (by omega), ← i1, hj]
    exact ⟨fn, d1, sm.tr d2, d3.trans (r 60 (by omega) (by omega)), d4⟩
theorem m_60T {fc m0 fm : q_F} {A v : Int} (hX : CTX fc m0) (hm : SM m0 fm) (hk : k < 8) (ht : fc (28 + k) 0 = 1) (hF : mF fm) (hA : pw64 A) (h20 : fm 60 20 = 0 ∨ fm 60 20 = 1) : ∃ fn, p_Mod_putSection_60 k A v fm g' = some (fn, g') ∧ SM fm fn ∧ fn 60 21 = fm 60 21 ∧ mF fn ∧ (fn 60 20 = 0 ∨ fn 60 20 = 1) := by
  have ik : 0 ≤ (k : Int) ∧ (k : Int) < 8 := by omega
  have hS := hX.ss (SC.rf fc) hm
  unfold p_Mod_putSection_60
  by_cases hkn : q_sw (fm 60 20) = 0
  · rw [if_pos hkn]
    exact ⟨fm, rfl, SM.rf fm, rfl, hF, h20⟩
  · rw [if_neg hkn, if_pos ik, Int.toNat_natCast, if_pos ik, if_pos ik, if_pos ik]
    obtain ⟨-, -, h6, h6t, h8, h8t, h7, h7t⟩ := hS.2.2.2.2.1.1 k hk ht
    obtain ⟨o1, o2⟩ := hS.2.2.2.1.2.2.2.1 k hk
    obtain ⟨i, hi⟩ : ∃ i : Nat, fm 78 k = i := ⟨(fm 78 k).toNat, by have := (o2.2 ht).1; omega⟩
    by_cases hh : 0 ≤ q_sw (fm 82 k)
    · rw [if_pos hh]
      have h82 : 0 ≤ fm 82 k ∧ fm 82 k < 4 := by
        rw [← h8] at hh ⊢
        rcases h8t with q | q
        · rw [q] at hh
          exact absurd hh (by decide)
        · exact ⟨q.1.1, q.1.2.1⟩
      obtain ⟨y, f1, e1, e2, e3, e4⟩ := place_T (g' := g') (r := fm 82 k) (i := i) hS.2.2.2.1 hF h82 (by rw [← hi]; exact (o2.2 ht).2.1)
      rw [hi, e1, Option.bind_some]
      dsimp only
      obtain ⟨z, hz⟩ := m_raiseT (f := f1) (g := g') (x := y) hA
      rw [hz, Option.bind_some]
      dsimp only
      have hS1 : SS fc f1 := hX.ss (SC.rf fc) (hm.tr e2.s)
      obtain ⟨fn, d1, d2, d3, d4⟩ := m_117T (g' := g') (v := v) (s := z) hS1 hk ht (e2.F hF)
      exact ⟨fn, d1, e2.s.tr d2, by rw [d3]; exact e3, d4, by rw [d3]; exact e4⟩
    · rw [if_neg hh]
      split
      · obtain ⟨fn, d1, d2, d3, d4⟩ := m_117T (g' := g') (v := v) (s := -1) hS hk ht hF
        exact ⟨fn, d1, d2, by rw [d3], d4, by rw [d3]; exact h20⟩
      · obtain ⟨fn, d1, d2, d3, d4⟩ := m_117T (g' := g') (v := v) (s := v) hS hk ht hF
        exact ⟨fn, d1, d2, by rw [d3], d4, by rw [d3]; exact h20⟩
theorem m_putT {c0 m0 fm : q_F} (hX : CTX c0 m0) (hk : k < 8) (ht : c0 (28 + k) 0 = 1) (hU : UU m0 fm) : ∃ fn gn, p_Mod_putSection k fm g' = some (fn, gn) ∧ UU m0 fn ∧ ∀ b, b ≠ 72 → gn b = g' b := by
  have ik : 0 ≤ (k : Int) ∧ (k : Int) < 8 := by omega
  obtain ⟨hm, h21, hF, h20⟩ := hU
  have hS := hX.ss (SC.rf c0) hm
  obtain ⟨sa, si, h6, h6t, -⟩ := hS.2.2.2.2.1.1 k hk ht
  obtain ⟨o1, o2⟩ := hS.2.2.2.1.2.2.2.1 k hk
  obtain ⟨i, hi⟩ : ∃ i : Nat, fm 78 k = i := ⟨(fm 78 k).toNat, by have := (o2.2 ht).1; omega⟩
  obtain ⟨A, a1, -, a3⟩ := al_pair (g := g') (g' := g') hk si (hS.it hk ht)
  have h160 := hS.2.1.1
  unfold p_Mod_putSection
  rw [a3, Option.bind_some]
  dsimp only
  rw [if_pos ik, if_pos ik, if_pos ik, if_pos ik, Int.toNat_natCast, if_pos ik, if_pos ik]
  by_cases hc : q_sw (fm 80 k) ≤ q_sw (fm 79 k)
  · rw [if_pos hc]
    obtain ⟨y, f1, e1, e2, e3, e4⟩ := place_T (g' := g') (r := fm 81 k) (i := i) hS.2.2.2.1 hF (by rw [← h6]; exact ⟨h6t.1, h6t.2.1⟩) (by rw [← hi]; exact (o2.2 ht).2.1)
    rw [hi, e1, Option.bind_some]
    dsimp only
    obtain ⟨z, hz⟩ := m_raiseT (f := f1) (g := g') (x := y) a1
    rw [hz, Option.bind_some]
    dsimp only
    obtain ⟨fn, d1, d2, d3, d4, d5⟩ := m_60T (g' := g') (A := A) (v := z) hX (hm.tr e2.s) hk ht (e2.F hF) a1 e4
    exact ⟨fn, g', d1, ⟨(hm.tr e2.s).tr d2, by rw [d3, e3]; exact h21, d4, d5⟩, fun _ _ => rfl⟩
  · rw [if_neg hc]
    have hex : exok c0 (c0 (28 + k) 2) (c0 (28 + k) 3) (fm 79 k) (fm 80 k) := by
      rcases sa with q | q
      · rw [q.2] at hc
        exact absurd (Int.le_refl _) hc
      · exact q.2
    obtain ⟨x1, x2, x3, x4, x5, x6⟩ := hex
    have r70 : ∀ j : Nat, (j : Int) < fm 80 k → fm 70 j = c0 12 j := fun j hj => (hS.2.1.2 j (by omega)).1
    have mr := MR.u20 fm 1
    have wf2 : wfs (fm 70) (fm 80 k - fm 79 k).toNat (fm 79 k).toNat 0 1 := WF.ext (K := c0 12) (by omega) (by omega) r70 (by rw [x1, x2]; exact x6)
    obtain ⟨w, f1, gn, e1, e2, e3, e4, e5, e6⟩ := m_total (fm 80 k - fm 79 k).toNat (fm 79 k).toNat 0 (ma_up fm 60 20 1) g' 1000 (by omega) (fun j c1 c2 => by
        rw [mr.1 70 (by omega), mr.1 71 (by omega), r70 j (by omega)]
        exact ⟨_, (hS.2.1.2 j (by omega)).2⟩) (by rw [mr.1 70 (by omega)]; exact wf2) (by omega) (by omega) (Or.inr ma_up_self) (by rw [ma_up_at (by omega)]; exact Or.inr h21) (mr.F hF)
    have eR : p_Mod_reckon (fm 79 k) (fm 80 k) fm g' = some (w, f1, gn) := by
      unfold p_Mod_reckon
      rw [← e1]
      dsimp only [q_let]
      congr 1 <;> omega
    rw [eR, Option.bind_some]
    dsimp only
    have mr1 := mr.tr e2
    obtain ⟨fn, d1, d2, d3, d4, d5⟩ := m_60T (g' := gn) (A := A) (v := w) hX (hm.tr mr1.s) hk ht (mr1.F hF) a1 e4
    exact ⟨fn, gn, d1, ⟨(hm.tr mr1.s).tr d2, by rw [d3]; exact e3 (by rw [ma_up_at (by omega)]; exact h21), d4, d5⟩, e6⟩
end TO
