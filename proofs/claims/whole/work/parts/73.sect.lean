/-! ===== a section reckoned by both ===== -/
def same (fc fd : q_F) : Prop := ∀ a, a ≠ 55 → a ≠ 56 → fd a = fc a
def grow (fc fd : q_F) : Prop := SC fc fd ∧ (∀ k : Nat, k < 8 → fc (28 + k) 10 ≠ NY → fd (28 + k) 9 = fc (28 + k) 9 ∧ fd (28 + k) 10 = fc (28 + k) 10 ∧ fd (28 + k) 11 = fc (28 + k) 11) ∧ ∀ v : Nat, v < 18 → fc (36 + v) 4 ≠ NY → fd (36 + v) 4 = fc (36 + v) 4
def stuck (fc : q_F) : Prop := (∃ k : Nat, k < 8 ∧ fc (28 + k) 0 = 1 ∧ fc (28 + k) 10 = NY ∧ fc (28 + k) 1 = 1 ∧ evx fc (fc (28 + k) 2) (fc (28 + k) 3) = some none) ∨ ∃ v : Nat, v < 18 ∧ fc (36 + v) 0 = 1 ∧ fc (36 + v) 4 = NY ∧ fc (36 + v) 1 = 1 ∧ evx fc (fc (36 + v) 2) (fc (36 + v) 3) = some none
section SK
variable {c0 m0 fc fd fm fn g g' : q_F} {k : Nat}
theorem same.rf (f : q_F) : same f f := fun _ _ _ => rfl
theorem same.tr {f1 f2 f3 : q_F} (h1 : same f1 f2) (h2 : same f2 f3) : same f1 f3 := fun a c1 c2 => (h2 a c1 c2).trans (h1 a c1 c2)
theorem same.dd (h : DD fc fm) (hs : same fc fd) : DD fd fm := by
  have e28 : ∀ k, k < 8 → fd (28 + k) = fc (28 + k) := fun k hk => hs _ (by omega) (by omega)
  have e36 : ∀ k, k < 18 → fd (36 + k) = fc (36 + k) := fun k hk => hs _ (by omega) (by omega)
  have e16 : ∀ k, k < 8 → fd (16 + k) = fc (16 + k) := fun k hk => hs _ (by omega) (by omega)
  have eU : UB fd = UB fc := by
    unfold UB nks
    rw [csum_eq 8 (fun i hi => by rw [e28 i hi])]
  obtain ⟨h1, h2, h3, h4⟩ := h
  refine ⟨fun k hk => ?_, fun v hv => ?_, fun k hk => ?_, fun k hk ht => ?_⟩
  · unfold dSec
    rw [e28 k hk, eU]
    exact h1 k hk
  · unfold dSym
    rw [e36 v hv, eU]
    exact h2 v hv
  · unfold dIn
    rw [e16 k hk]
    exact h3 k hk
  · rw [e28 k hk] at ht
    have q := h4 k hk ht
    unfold own at *
    rw [e28 k hk, hs 9 (by omega) (by omega), hs 10 (by omega) (by omega)]
    refine ⟨fun a j c1 c2 c3 c4 => ?_, fun a j c1 c2 c3 c4 => ?_, q.2.2⟩
    · rw [e36 _ c4]
      exact q.1 a j c1 c2 c3 c4
    · rw [e16 _ c4]
      exact q.2.1 a j c1 c2 c3 c4
theorem same.dy (h : DY c0 m0 fc fm) (hs : same fc fd) : DY c0 m0 fd fm := ⟨h.1.tr (SC.st hs), h.2.1, h.2.2.1, hs.dd h.2.2.2⟩
theorem MR.dd (h : DD fc fm) (hr : MR fm fn) : DD fc fn := by
  unfold DD dSec dSym dIn at *
  rw [hr.1 77 (by omega), hr.1 86 (by omega), hr.1 87 (by omega), hr.1 88 (by omega), hr.1 91 (by omega), hr.1 95 (by omega), hr.1 64 (by omega)]
  exact h
theorem MR.dy (h : DY c0 m0 fc fm) (hr : MR fm fn) (hu : fn 60 21 = 0) : DY c0 m0 fc fn := ⟨h.1, h.2.1.tr hr.s, hu, hr.dd h.2.2.2⟩
theorem grow.rf (f : q_F) : grow f f := ⟨SC.rf f, fun _ _ _ => ⟨rfl, rfl, rfl⟩, fun _ _ _ => rfl⟩
theorem same.grow (h : same fc fd) : grow fc fd := ⟨SC.st h, fun k hk _ => by rw [h _ (by omega) (by omega)]; exact ⟨rfl, rfl, rfl⟩, fun v hv _ => by rw [h _ (by omega) (by omega)]⟩
theorem grow.tr {f1 f2 f3 : q_F} (h1 : grow f1 f2) (h2 : grow f2 f3) : grow f1 f3 := by
  refine ⟨h1.1.tr h2.1, fun k hk hn => ?_, fun v hv hn => ?_⟩
  · obtain ⟨a1, a2, a3⟩ := h1.2.1 k hk hn
    obtain ⟨b1, b2, b3⟩ := h2.2.1 k hk (by rw [a2]; exact hn)
    exact ⟨b1.trans a1, b2.trans a2, b3.trans a3⟩
  · have a := h1.2.2 v hv hn
    exact (h2.2.2 v hv (by rw [a]; exact hn)).trans a
theorem grow.kns (h : grow fc fd) (k : Nat) (hk : k < 8) : kn (fc (28 + k) 10) ≤ kn (fd (28 + k) 10) := by
  unfold kn
  by_cases e : fc (28 + k) 10 = NY
  · rw [if_pos e]
    split <;> omega
  · rw [(h.2.1 k hk e).2.1]
    exact Int.le_refl _
theorem grow.kny (h : grow fc fd) (v : Nat) (hv : v < 18) : kn (fc (36 + v) 4) ≤ kn (fd (36 + v) 4) := by
  unfold kn
  by_cases e : fc (36 + v) 4 = NY
  · rw [if_pos e]
    split <;> omega
  · rw [h.2.2 v hv e]
    exact Int.le_refl _
theorem grow.nks (h : grow fc fd) : nks fc ≤ nks fd := csum_le 8 (fun i hi => h.kns i hi)
theorem grow.nky (h : grow fc fd) : nky fc ≤ nky fd := csum_le 18 (fun i hi => h.kny i hi)
/-- class: a section's place, raised; reference: the same in two calls -/
theorem raised_pair {A r : Int} {i : Nat} (hS : SS fc fm) (hD : DD fc fm) (hk : k < 8) (hA : pw64 A) (hAc : p_Reckoner_greatestAlignment (28 + k) fc g = some (A, fc, g)) (hr : rtold fc r) (hi : (i : Int) < fc 3 7) : ∃ z y fn, p_Reckoner_raisedPlaceOf r (28 + k) i fc g = some (z, fc, g) ∧ ((p_Mod_placeOf r i fm g').bind fun x8 => p_Mod_raised x8.1 A x8.2.1 x8.2.2) = some (y, fn, g') ∧ MR fm fn ∧ fn 60 21 = fm 60 21 ∧ ((z = y ∧ ab z (UB fc + 17063) ∧ fn 60 20 = 1) ∨ (z = NY ∧ fn 60 20 = 0)) := by
  obtain ⟨z, y, fn, e1, e2, e3, e4, e5⟩ := place_pair (g := g) (g' := g') hS.2.2.2.1 hS.2.2.2.2.1 hS.1 hD hr hi
  have hU := UB_b fc
  unfold p_Reckoner_raisedPlaceOf p_Reckoner_raisedPlaceOf_30
  rw [if_pos (by omega), e1, Option.bind_some, e2, Option.bind_some]
  dsimp only
  rcases e5 with ⟨q1, q2, q3⟩ | ⟨q1, q2⟩
  · subst q1
    unfold ab at q2
    have hub := up_b (x := z) hA
    rw [if_neg (show ¬ q_sw z = q_sw (-1000000000) by rw [NY_sw, q_swn (by omega)]; omega), hAc, Option.bind_some]
    dsimp only
    rw [c_raise (by omega) hA, Option.bind_some, m_raise (by omega) hA]
    exact ⟨_, _, fn, rfl, rfl, e3, e4, Or.inl ⟨rfl, by unfold ab; omega, q3⟩⟩
  · rw [if_pos (show q_sw z = q_sw (-1000000000) by rw [q1]; rfl)]
    obtain ⟨y', hy⟩ := m_raiseT (f := fn) (g := g') (x := y) hA
    rw [hy]
    exact ⟨_, y', fn, rfl, rfl, e3, e4, Or.inr ⟨rfl, q2⟩⟩
/-- both put a section whose places are known -/
theorem put_step {B1 L1 : Int} (hX : CTX c0 m0) (hD : DY c0 m0 fc fm) (hk : k < 8) (ht : fc (28 + k) 0 = 1) (hu : fc (28 + k) 10 = NY) (h20 : fm 60 20 = 1) (hB : ab B1 (UB fc + 17063)) (hL : ab L1 (UB fc + 17063)) (hLB : fc (28 + k) 8 = -1 → fc (28 + k) 7 = 1 → L1 = B1) : ∃ p' f1 fn, p_Reckoner_putItems (28 + k) (ma_up (ma_up fc (28 + k) 9 B1) (28 + k) 11 L1) g = some (p', f1, g) ∧ p_Mod_putSection_117 k B1 L1 fm g' = some (fn, g') ∧ DY c0 m0 (ma_up f1 (28 + k) 10 (p' - B1)) fn ∧ grow fc (ma_up f1 (28 + k) 10 (p' - B1)) ∧ nks fc + 1 ≤ nks (ma_up f1 (28 + k) 10 (p' - B1)) ∧ (∀ l : Nat, l < 8 → l ≠ k → ma_up f1 (28 + k) 10 (p' - B1) (28 + l) 10 = fc (28 + l) 10) ∧ (∀ v : Nat, v < 18 → fc (36 + v) 1 = 1 → ma_up f1 (28 + k) 10 (p' - B1) (36 + v) 4 = fc (36 + v) 4) := by
  obtain ⟨d1, d2, d3, ⟨dS, dY, dI, dO⟩⟩ := hD
  have hS := hX.ss d1 d2
  have hU := UB_b fc
  have ik : 0 ≤ (k : Int) ∧ (k : Int) < 8 := by omega
  have hit := hS.it hk ht
  obtain ⟨-, si, -⟩ := hS.2.2.2.2.1.1 k hk ht
  obtain ⟨i1, i2, i3, i4, i5⟩ := si
  have h160 := hit.2.1
  have h8 := hS.2.2.1.1
  obtain ⟨j, hj⟩ : ∃ j : Nat, fc (28 + k) 4 = j := ⟨(fc (28 + k) 4).toNat, by omega⟩
  unfold ab at hB hL
  have c1 : ∀ a, a ≠ 28 + k → ma_up (ma_up fc (28 + k) 9 B1) (28 + k) 11 L1 a = fc a := fun a ha => (ma_up_ne ha).trans (ma_up_ne ha)
  have c2 : ∀ c, c ≠ 9 → c ≠ 11 → ma_up (ma_up fc (28 + k) 9 B1) (28 + k) 11 L1 (28 + k) c = fc (28 + k) c := fun c h1 h2 => by rw [ma_up_at h2, ma_up_at h1]
  have c9 : ma_up (ma_up fc (28 + k) 9 B1) (28 + k) 11 L1 (28 + k) 9 = B1 := by rw [ma_up_at (by omega), ma_up_self]
  have c11 : ma_up (ma_up fc (28 + k) 9 B1) (28 + k) 11 L1 (28 + k) 11 = L1 := ma_up_self
  have m1 : ∀ a, a ≠ 86 → a ≠ 88 → ma_up (ma_up fm 86 k B1) 88 k L1 a = fm a := fun a h1 h2 => (ma_up_ne h2).trans (ma_up_ne h1)
  have m86 : ∀ l, ma_up (ma_up fm 86 k B1) 88 k L1 86 l = if l = k then B1 else fm 86 l := fun l => by simp [ma_up]
  have m88 : ∀ l, ma_up (ma_up fm 86 k B1) 88 k L1 88 l = if l = k then L1 else fm 88 l := fun l => by simp [ma_up]
  have r9 := c1 9 (by omega)
  have r10 := c1 10 (by omega)
  obtain ⟨p', f1, n1, e1, e2, e3, e4, e5, e6, e7, e8, e9⟩ := put_loop (g := g) (g' := g') (B := UB fc + 40000) hk (by omega) (fc (28 + k) 5 - j).toNat 1000 1000 j B1 (ma_up (ma_up fc (28 + k) 9 B1) (28 + k) 11 L1) (ma_up (ma_up fm 86 k B1) 88 k L1) (hi := fc (28 + k) 5) (c2 5 (by omega) (by omega)) (by rw [m1 84 (by omega) (by omega), m1 85 (by omega) (by omega)]; exact i2.symm) ⟨by omega, h160, fun i q1 q2 => by
      rw [r9, r10, m1 89 (by omega) (by omega)]
      exact hit.2.2.1 i (by omega) q2, fun v hv => by
      rw [c1 (16 + v) (by omega), m1 61 (by omega) (by omega), m1 62 (by omega) (by omega), m1 63 (by omega) (by omega)]
      exact hit.2.2.2 v hv⟩ (fun a b q1 q2 q3 q4 q5 => by
      rw [r9] at q4 ⊢
      rw [r10] at q5
      exact hS.2.2.1.2.2 a b q2 (by omega) q4 q5) (by omega) (by omega) (by omega) (fun v hv => by
      unfold symB
      rw [c1 (36 + v) (by omega), m1 91 (by omega) (by omega), m1 95 (by omega) (by omega)]
      rcases dY v hv with q | q
      · exact Or.inl q
      · refine Or.inr ⟨q.1, q.2.1, ?_⟩
        have := q.2.2
        unfold ab at *
        omega) (fun v hv => by
      unfold dIn
      rw [c1 (16 + v) (by omega), m1 64 (by omega) (by omega)]
      exact dI v hv) (by omega) (by omega)
  -- cells that stay
  have hpu : ∀ a c, puC (ma_up (ma_up fc (28 + k) 9 B1) (28 + k) 11 L1) j (fc (28 + k) 5) a c → ∃ i : Nat, (j : Nat) ≤ i ∧ (i : Int) < fc (28 + k) 5 ∧ c = 4 ∧ ((fc 9 i = 0 ∧ a = 16 + (fc 10 i).toNat ∧ (fc 10 i).toNat < 8) ∨ (fc 9 i = 2 ∧ a = 36 + (fc 10 i).toNat ∧ (fc 10 i).toNat < 18)) := by
    intro a c ⟨i, q1, q2, q3, q4⟩
    rw [r9, r10] at q4
    have qi := hit.2.2.1 i (by omega) q2
    unfold itemok at qi
    exact ⟨i, by omega, q2, q3, by omega⟩
  have stay : ∀ a c, (a < 16 ∨ (24 ≤ a ∧ a < 36) ∨ 54 ≤ a ∨ c ≠ 4) → f1 a c = ma_up (ma_up fc (28 + k) 9 B1) (28 + k) 11 L1 a c := fun a c hac => e5 a c (fun q => by
    obtain ⟨i, q1, q2, q3, q4⟩ := hpu a c q
    omega)
  have f10 : ∀ a c, (a < 16 ∨ (24 ≤ a ∧ a < 36) ∨ 54 ≤ a ∨ c ≠ 4) → ¬ (a = 28 + k ∧ (c = 9 ∨ c = 10 ∨ c = 11)) → ma_up f1 (28 + k) 10 (p' - B1) a c = fc a c := fun a c h1 h2 => by
    rw [ma_up_ne2 (by omega), stay a c h1]
    by_cases ha : a = 28 + k
    · subst ha
      exact c2 c (by omega) (by omega)
    · rw [c1 a ha]
  have f4 : ∀ a c, c = 4 → a ≠ 28 + k → ma_up f1 (28 + k) 10 (p' - B1) a c = f1 a c := fun a c _ h2 => ma_up_ne2 (fun q => h2 q.1)
  have fk9 : ma_up f1 (28 + k) 10 (p' - B1) (28 + k) 9 = B1 := by rw [ma_up_at (by omega), stay _ _ (by omega)]; exact c9
  have fk10 : ma_up f1 (28 + k) 10 (p' - B1) (28 + k) 10 = p' - B1 := ma_up_self
  have fk11 : ma_up f1 (28 + k) 10 (p' - B1) (28 + k) 11 = L1 := by rw [ma_up_at (by omega), stay _ _ (by omega)]; exact c11
  have n86 : n1 86 k = B1 := by rw [e6 86 (by omega) (by omega) (by omega), m86, if_pos rfl]
  have n88 : n1 88 k = L1 := by rw [e6 88 (by omega) (by omega) (by omega), m88, if_pos rfl]
  have pB : p' - B1 ≤ 17000 := by omega
  have hsc : SC fc (ma_up f1 (28 + k) 10 (p' - B1)) := fun a c hd => by
    unfold dynC at hd
    by_cases h4 : a < 16 ∨ (24 ≤ a ∧ a < 36) ∨ 54 ≤ a ∨ c ≠ 4
    · exact f10 a c h4 (by omega)
    · omega
  -- symbols: what was known stays
  have sykn : ∀ v : Nat, v < 18 → fc (36 + v) 4 ≠ NY → ma_up f1 (28 + k) 10 (p' - B1) (36 + v) 4 = fc (36 + v) 4 := fun v hv hn => by
    rw [f4 _ _ rfl (by omega), e5 _ _ (fun q => ?_), c1 _ (by omega)]
    obtain ⟨i, q1, q2, q3, q4⟩ := hpu _ _ q
    rcases q4 with q4 | q4
    · omega
    · have := (dO k hk ht).1 hu i (by omega) q2 q4.1 q4.2.2
      exact hn (by rw [show 36 + v = 36 + (fc 10 i).toNat by omega]; exact this)
  have hg : grow fc (ma_up f1 (28 + k) 10 (p' - B1)) := by
    refine ⟨hsc, fun l hl hn => ?_, sykn⟩
    have hlk : l ≠ k := fun q => hn (by rw [q]; exact hu)
    exact ⟨f10 _ _ (by omega) (by omega), f10 _ _ (by omega) (by omega), f10 _ _ (by omega) (by omega)⟩
  have hnk : nks fc + 1 ≤ nks (ma_up f1 (28 + k) 10 (p' - B1)) := csum_lt (j := k) 8 (fun i hi => hg.kns i hi) hk (by
    rw [fk10, hu]
    unfold kn
    rw [if_pos rfl, if_neg (by unfold NY; omega)]
    omega)
  have hUB : UB fc + 40000 ≤ UB (ma_up f1 (28 + k) 10 (p' - B1)) := by
    unfold UB
    omega
  refine ⟨p', f1, ma_up (ma_up n1 87 k (p' - n1 86 k)) 77 k 1, ?_, ?_, ⟨d1.tr hsc, ?_, ?_, fun l hl => ?_, fun v hv => ?_, fun l hl => ?_, fun l hl hlt => ?_⟩, hg, hnk, fun l hl hlk => f10 _ _ (by omega) (by omega), fun v hv h1 => ?_⟩
  rotate_right
  · rw [f4 _ _ rfl (by omega), e5 _ _ (fun q => ?_), c1 _ (by omega)]
    obtain ⟨i, q1, q2, q3, q4⟩ := hpu _ _ q
    rcases q4 with q4 | q4
    · omega
    · have := ((hS.2.2.1.2.1 i (by omega)).2 q4.1).2
      rw [show 36 + (fc 10 i).toNat = 36 + v by omega] at this
      omega
  · unfold p_Reckoner_putItems
    rw [if_pos (by omega)]
    dsimp only [q_let]
    rw [c9, c2 4 (by omega) (by omega), hj]
    exact e1
  · unfold p_Mod_putSection_117
    rw [if_neg (sw1 h20), if_pos ik]
    dsimp only [q_let]
    rw [if_pos ik, if_pos ik, Int.toNat_natCast, m1 84 (by omega) (by omega), ← i1, hj]
    exact e2
  · intro a c hd
    unfold dynM at hd
    rw [ma_up_ne (by omega), ma_up_ne (by omega), e6 a (by omega) (by omega) (by omega), m1 a (by omega) (by omega)]
    exact d2 a c (by unfold dynM; omega)
  · rw [ma_up_ne (by omega), ma_up_ne (by omega), e6 60 (by omega) (by omega) (by omega), m1 60 (by omega) (by omega)]
    exact d3
  · unfold dSec
    by_cases hlk : l = k
    · subst hlk
      right
      refine ⟨ma_up_self, ?_, ?_, ?_, ?_, ?_, ?_, ?_⟩
      · rw [fk9, ma_up_ne (by omega), ma_up_ne (by omega), n86]
      · rw [fk10, ma_up_ne (by omega), ma_up_self, n86]
      · rw [fk11, ma_up_ne (by omega), ma_up_ne (by omega), n88]
      · rw [fk9]
        unfold ab
        omega
      · rw [fk11]
        unfold ab
        omega
      · rw [fk10]
        omega
      · rw [fk10]
        omega
    · rw [f10 _ 9 (by omega) (by omega), f10 _ 10 (by omega) (by omega), f10 _ 11 (by omega) (by omega), ma_up_at (by omega), show ma_up n1 87 k (p' - n1 86 k) 77 = n1 77 from ma_up_ne (by omega), show ma_up (ma_up n1 87 k (p' - n1 86 k)) 77 k 1 87 l = n1 87 l by rw [ma_up_ne (by omega), ma_up_at (by omega)], show ma_up (ma_up n1 87 k (p' - n1 86 k)) 77 k 1 86 = n1 86 by rw [ma_up_ne (by omega), ma_up_ne (by omega)], show ma_up (ma_up n1 87 k (p' - n1 86 k)) 77 k 1 88 = n1 88 by rw [ma_up_ne (by omega), ma_up_ne (by omega)], e6 77 (by omega) (by omega) (by omega), e6 86 (by omega) (by omega) (by omega), e6 87 (by omega) (by omega) (by omega), e6 88 (by omega) (by omega) (by omega), m1 77 (by omega) (by omega), m1 87 (by omega) (by omega), m86, m88, if_neg hlk, if_neg hlk]
      rcases dS l hl with q | q
      · exact Or.inl q
      · refine Or.inr ⟨q.1, q.2.1, q.2.2.1, q.2.2.2.1, ?_, ?_, q.2.2.2.2.2.2⟩
        · have := q.2.2.2.2.1
          unfold ab at *
          omega
        · have := q.2.2.2.2.2.1
          unfold ab at *
          omega
  · unfold dSym
    rw [f4 _ _ rfl (by omega), show ma_up (ma_up n1 87 k (p' - n1 86 k)) 77 k 1 91 = n1 91 by rw [ma_up_ne (by omega), ma_up_ne (by omega)], show ma_up (ma_up n1 87 k (p' - n1 86 k)) 77 k 1 95 = n1 95 by rw [ma_up_ne (by omega), ma_up_ne (by omega)]]
    rcases e7 v hv with q | q
    · exact Or.inl q
    · refine Or.inr ⟨q.1, q.2.1, ?_⟩
      have := q.2.2
      unfold ab at *
      omega
  · unfold dIn
    rw [f4 _ _ rfl (by omega), show ma_up (ma_up n1 87 k (p' - n1 86 k)) 77 k 1 64 = n1 64 by rw [ma_up_ne (by omega), ma_up_ne (by omega)]]
    exact e8 l hl
  · have hlt0 : fc (28 + l) 0 = 1 := by rw [← f10 (28 + l) 0 (by omega) (by omega)]; exact hlt
    have e9' : ma_up f1 (28 + k) 10 (p' - B1) 9 = fc 9 := funext fun c => f10 9 c (by omega) (by omega)
    have e10' : ma_up f1 (28 + k) 10 (p' - B1) 10 = fc 10 := funext fun c => f10 10 c (by omega) (by omega)
    unfold own
    rw [e9', e10', f10 (28 + l) 4 (by omega) (by omega), f10 (28 + l) 5 (by omega) (by omega)]
    by_cases hlk : l = k
    · subst hlk
      rw [fk9, fk10, fk11, f10 (28 + l) 8 (by omega) (by omega), f10 (28 + l) 7 (by omega) (by omega)]
      refine ⟨fun q => absurd q (by unfold NY; omega), fun _ i q1 q2 q3 q4 => ?_, fun _ q8 q7 => hLB q8 q7⟩
      have q5 := e9 i (by omega) q2 (by rw [r9]; exact q3)
      rw [r10, c1 _ (by omega)] at q5
      rw [f4 _ _ rfl (by omega), f10 _ 0 (by omega) (by omega)]
      omega
    · rw [f10 (28 + l) 9 (by omega) (by omega), f10 (28 + l) 10 (by omega) (by omega), f10 (28 + l) 11 (by omega) (by omega), f10 (28 + l) 8 (by omega) (by omega), f10 (28 + l) 7 (by omega) (by omega)]
      have hdis := hS.2.2.2.2.1.2 k l hk hl (by omega) ht hlt0
      obtain ⟨-, sl, -⟩ := hS.2.2.2.2.1.1 l hl hlt0
      obtain ⟨l1, l2, l3, l4, l5⟩ := sl
      -- no item of l is an item of k
      have apart : ∀ (i i2 : Nat), fc (28 + l) 4 ≤ i → (i : Int) < fc (28 + l) 5 → fc (28 + k) 4 ≤ i2 → (i2 : Int) < fc (28 + k) 5 → fc 9 i = fc 9 i2 → fc 10 i = fc 10 i2 → fc 9 i = 1 := by
        intro i i2 q1 q2 q3 q4 q5 q6
        by_cases hlt : i < i2
        · exact hS.2.2.1.2.2 i i2 hlt (by omega) q5 q6
        · have hgt : i2 < i := by
            rcases Nat.lt_or_ge i2 i with q | q
            · exact q
            · omega
          have := hS.2.2.1.2.2 i2 i hgt (by omega) q5.symm q6.symm
          omega
      refine ⟨fun hn i q1 q2 q3 q4 => ?_, fun hn i q1 q2 q3 q4 => ?_, (dO l hl hlt0).2.2⟩
      · rw [f4 _ _ rfl (by omega), e5 _ _ (fun q => ?_), c1 _ (by omega)]
        · exact (dO l hl hlt0).1 hn i q1 q2 q3 q4
        · obtain ⟨i2, u1, u2, u3, u4⟩ := hpu _ _ q
          rcases u4 with u4 | u4
          · omega
          · have x1 := (hS.2.2.1.2.1 i (by omega)).1
            have x2 := (hS.2.2.1.2.1 i2 (by omega)).1
            unfold itemok at x1 x2
            have := apart i i2 q1 q2 (by omega) u2 (by omega) (by omega)
            omega
      · rw [f4 _ _ rfl (by omega), e5 _ _ (fun q => ?_), c1 _ (by omega), f10 _ 0 (by omega) (by omega)]
        · exact (dO l hl hlt0).2.1 hn i q1 q2 q3 q4
        · obtain ⟨i2, u1, u2, u3, u4⟩ := hpu _ _ q
          rcases u4 with u4 | u4
          · have x1 := (hS.2.2.1.2.1 i (by omega)).1
            have x2 := (hS.2.2.1.2.1 i2 (by omega)).1
            unfold itemok at x1 x2
            have := apart i i2 q1 q2 (by omega) u2 (by omega) (by omega)
            omega
          · omega
end SK
