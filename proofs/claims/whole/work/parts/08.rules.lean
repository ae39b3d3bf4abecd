/-! ===== rules for the walks that walk.py prints: over the store behind the constructors, numbers taken as the machine takes them ===== -/
abbrev q_F : Type := Nat → Nat → Int
def q_sw (z : Int) : Int := (Int32.ofInt z).toInt
theorem q_sw_r (z : Int) : ma_r (q_sw z) := by
  have h1 := Int32.le_toInt (Int32.ofInt z)
  have h2 := Int32.toInt_lt (Int32.ofInt z)
  constructor <;> unfold q_sw <;> omega
theorem q_sw_i (z : Int) : ma_i (q_sw z) = ma_i z := by
  unfold ma_i q_sw
  rw [Int32.ofInt_toInt]
theorem q_sw_id {z : Int} (h : ma_r z) : q_sw z = z := ma_toI h
def q_let {α β : Type} (x : α) (k : α → β) : β := k x
theorem q_let_of {α β : Type} {x : α} {k : α → β} {y : β} (h : q_let x k = y) : ∃ z, z = x ∧ k z = y := ⟨x, rfl, h⟩
theorem q_if {c : Prop} [Decidable c] {α : Type} {x : Option α} {y : α} (h : (if c then x else none) = some y) : c ∧ x = some y := by
  by_cases hc : c
  · rw [if_pos hc] at h
    exact ⟨hc, h⟩
  · rw [if_neg hc] at h
    cases h
theorem q_bind {α β : Type} {x : Option α} {k : α → Option β} {y : β} (h : x.bind k = some y) : ∃ z, x = some z ∧ k z = some y := Option.bind_eq_some_iff.mp h
def q_and (x y : Int) : Int := (Int32.ofInt x &&& Int32.ofInt y).toInt
def q_irem (x y : Int) : Int := (Int32.ofInt x - Int32.ofInt x / Int32.ofInt y * Int32.ofInt y).toInt
def q_lrem (x y : Int) : Int := (Int64.ofInt x - Int64.ofInt x / Int64.ofInt y * Int64.ofInt y).toInt
def q_land (x y : Int) : Int := (Int64.ofInt x &&& Int64.ofInt y).toInt
def q_lor (x y : Int) : Int := (Int64.ofInt x ||| Int64.ofInt y).toInt
def q_lshl (x y : Int) : Int := (Int64.ofInt x <<< ((Int32.ofInt y).toInt64 &&& 63)).toInt
def q_lshr (x y : Int) : Int := (Int64.ofInt x >>> ((Int32.ofInt y).toInt64 &&& 63)).toInt
def q_lushr (x y : Int) : Int := ((Int64.ofInt x).toUInt64 >>> ((Int32.ofInt y).toInt64.toUInt64 &&& Int64.toUInt64 63)).toInt64.toInt
def q_lcmp (x y : Int) : Int := (lg_cmp (Int64.ofInt x) (Int64.ofInt y)).toInt
def q_i2c (x : Int) : Int := ((Int32.ofInt x).toUInt32 % 65536).toInt32.toInt
def q_nc (x : Int) : Int := (vp_nar .char (Int32.ofInt x)).toInt
def q_nz (x : Int) : Int := (vp_nar .boolean (Int32.ofInt x)).toInt
/-- a reference to a cell of the store -/
def q_a (t : q_V) (a : Nat) : Value := .ref (g_o (q_G t) + a)
theorem q_ble {a b : Nat} (h : Nat.ble a b = true) : a ≤ b := Nat.le_of_ble_eq_true h
def q_max (x y : Int) : Int := if q_sw x < q_sw y then y else x
theorem ev_max {G : ma_G} {F Lc k n : Nat} {M : ma_M} {pc : Nat} {ls : List (Nat × Value)} {st : List Value} {h : ma_H} {Z : ma_Z} {index : Nat} {x y : Int} (dc : decode (m_c M) pc = .ok (.invokestatic index, 3)) (w1 : Cond.methodLink (m_y M).cls index Lib.Math.max.name ∈ g_ws G) (w2 : Cond.static Lib.Math.max.name ∈ g_ws G) (w3 : Cond.initialized "java/lang/Math" ∈ g_ws G) (w4 : Cond.code Lib.Math.max.name Lib.Math.max.code 2 (some .int) ∈ g_ws G) (hF : 1 ≤ F) (hL : (st.map fun v => v.category).sum + 13 ≤ Lc) (E : ma_Ev G F Lc k n M (pc + 3) ls (ma_i (q_max x y) :: st) h Z) : ma_Ev G F Lc k n M pc ls (ma_i y :: ma_i x :: st) h Z := by
  intro p e s m args below meth c R H locs cells slots lsA C r S hv hc hs hex
  have htw : ∀ w ∈ g_ws G, w.before args s = true := fun w hw => C.2.2.2.2.2.2.2.1 w (List.mem_cons_of_mem _ hw)
  refine va_mmax C.1 C.2.1 (C.2.2.2.2.1.trans hv.1.symm) C.2.2.2.2.2.1 (htw _ w1) (htw _ w2) (htw _ w3) (htw _ w4) (by rw [C.2.2.2.2.2.2.2.2.2.2.1]; exact hF) (by rw [C.2.2.2.2.2.2.2.2.2.2.2]; exact hL) (by omega) (by omega) dc ?_
  have e9 : Value.int (if Int32.ofInt x < Int32.ofInt y then Int32.ofInt y else Int32.ofInt x) = ma_i (q_max x y) := by
    unfold q_max ma_i q_sw
    by_cases hl : Int32.ofInt x < Int32.ofInt y
    · rw [if_pos hl, if_pos (Int32.lt_iff_toInt_lt.mp hl)]
    · rw [if_neg hl, if_neg (fun q => hl (Int32.lt_iff_toInt_lt.mpr q))]
  rw [e9]
  exact E C r S hv hc hs hex
theorem ev_castn {G : ma_G} {F Lc k n : Nat} {M : ma_M} {pc : Nat} {ls : List (Nat × Value)} {st : List Value} {h : ma_H} {Z : ma_Z} {a len : Nat} {z x : Int} (dc : decode (m_c M) pc = .ok (.castore, 1)) (ha : h.1.2[a]? = some (.inr (.char, len))) (h0 : 0 ≤ z) (h1 : z < len) (h2 : len ≤ 2147483647) (E : ma_Ev G F Lc k n M (pc + 1) ls st (ma_sI h a z.toNat (q_nc x)) Z) : ma_Ev G F Lc k n M pc ls (ma_i x :: ma_i z :: .ref (g_o G + a) :: st) h Z := by
  intro p e s m args below meth c R H locs cells slots lsA C r S hv hc hs hex
  have e9 : (Int32.ofInt z).toNatClampNeg = z.toNat := ma_nat h0 (by omega)
  refine va_cast C.1 C.2.1 (ma_K1 C.2.2.2.2.2.2.2.2.2.1 (r.2.1 a _ _ ha)) r.1 (ma_D r.2.2.1) S a 0 (ma_awi rfl ha) rfl (ma_in h0 h1 (by omega)) dc fun H1 locs1 hP hD hS => ?_
  have e8 : vp_nar .char (Int32.ofInt x) = Int32.ofInt (q_nc x) := (Int32.ofInt_toInt _).symm
  rw [e9, e8] at hP
  exact E C (ma_put r rfl (ma_ws_sI z.toNat (q_nc x) ha) (by show Sum.inl (_, _, ma_ar _ _ _ _) = _; rw [ma_ar_sI rfl]) hP) hS hv hc hs hex
theorem ev_zastn {G : ma_G} {F Lc k n : Nat} {M : ma_M} {pc : Nat} {ls : List (Nat × Value)} {st : List Value} {h : ma_H} {Z : ma_Z} {a len : Nat} {z x : Int} (dc : decode (m_c M) pc = .ok (.bastore, 1)) (ha : h.1.2[a]? = some (.inr (.boolean, len))) (h0 : 0 ≤ z) (h1 : z < len) (h2 : len ≤ 2147483647) (E : ma_Ev G F Lc k n M (pc + 1) ls st (ma_sI h a z.toNat (q_nz x)) Z) : ma_Ev G F Lc k n M pc ls (ma_i x :: ma_i z :: .ref (g_o G + a) :: st) h Z := by
  intro p e s m args below meth c R H locs cells slots lsA C r S hv hc hs hex
  have e9 : (Int32.ofInt z).toNatClampNeg = z.toNat := ma_nat h0 (by omega)
  refine va_zast C.1 C.2.1 (ma_K1 C.2.2.2.2.2.2.2.2.2.1 (r.2.1 a _ _ ha)) r.1 (ma_D r.2.2.1) S a 0 (ma_awi rfl ha) rfl (ma_in h0 h1 (by omega)) dc fun H1 locs1 hP hD hS => ?_
  have e8 : vp_nar .boolean (Int32.ofInt x) = Int32.ofInt (q_nz x) := (Int32.ofInt_toInt _).symm
  rw [e9, e8] at hP
  exact E C (ma_put r rfl (ma_ws_sI z.toNat (q_nz x) ha) (by show Sum.inl (_, _, ma_ar _ _ _ _) = _; rw [ma_ar_sI rfl]) hP) hS hv hc hs hex
section ET
variable {t : q_V} {F Lc k n : Nat} {M M1 : ma_M} {pc : Nat} {ls : List (Nat × Value)} {st : List Value} {f g : q_F} {Z : ma_Z} {Q : Option Value → ma_H → Prop}
theorem et_if_eq {x off : Int} {tgt : Nat} (d : decode (m_c M) pc = .ok (.ifCond .eq off, 3)) (ht : (pc : Int) + off = (tgt : Int)) (E : q_sw x = 0 → ma_Ev (q_G t) F Lc k n M tgt ls st (q_h f g) Z) (E2 : ¬ (q_sw x = 0) → ma_Ev (q_G t) F Lc k n M (pc + 3) ls st (q_h f g) Z) : ma_Ev (q_G t) F Lc k n M pc ls (ma_i x :: st) (q_h f g) Z := by
  have h9 := ev_if_eq (x := q_sw x) d ht (q_sw_r x) E E2
  rwa [q_sw_i] at h9
theorem et_if_ne {x off : Int} {tgt : Nat} (d : decode (m_c M) pc = .ok (.ifCond .ne off, 3)) (ht : (pc : Int) + off = (tgt : Int)) (E : ¬ q_sw x = 0 → ma_Ev (q_G t) F Lc k n M tgt ls st (q_h f g) Z) (E2 : q_sw x = 0 → ma_Ev (q_G t) F Lc k n M (pc + 3) ls st (q_h f g) Z) : ma_Ev (q_G t) F Lc k n M pc ls (ma_i x :: st) (q_h f g) Z := by
  have h9 := ev_if_ne (x := q_sw x) d ht (q_sw_r x) E E2
  rwa [q_sw_i] at h9
theorem et_if_lt {x off : Int} {tgt : Nat} (d : decode (m_c M) pc = .ok (.ifCond .lt off, 3)) (ht : (pc : Int) + off = (tgt : Int)) (E : q_sw x < 0 → ma_Ev (q_G t) F Lc k n M tgt ls st (q_h f g) Z) (E2 : ¬ (q_sw x < 0) → ma_Ev (q_G t) F Lc k n M (pc + 3) ls st (q_h f g) Z) : ma_Ev (q_G t) F Lc k n M pc ls (ma_i x :: st) (q_h f g) Z := by
  have h9 := ev_if_lt (x := q_sw x) d ht (q_sw_r x) E E2
  rwa [q_sw_i] at h9
theorem et_if_ge {x off : Int} {tgt : Nat} (d : decode (m_c M) pc = .ok (.ifCond .ge off, 3)) (ht : (pc : Int) + off = (tgt : Int)) (E : 0 ≤ q_sw x → ma_Ev (q_G t) F Lc k n M tgt ls st (q_h f g) Z) (E2 : ¬ (0 ≤ q_sw x) → ma_Ev (q_G t) F Lc k n M (pc + 3) ls st (q_h f g) Z) : ma_Ev (q_G t) F Lc k n M pc ls (ma_i x :: st) (q_h f g) Z := by
  have h9 := ev_if_ge (x := q_sw x) d ht (q_sw_r x) E E2
  rwa [q_sw_i] at h9
theorem et_if_gt {x off : Int} {tgt : Nat} (d : decode (m_c M) pc = .ok (.ifCond .gt off, 3)) (ht : (pc : Int) + off = (tgt : Int)) (E : 0 < q_sw x → ma_Ev (q_G t) F Lc k n M tgt ls st (q_h f g) Z) (E2 : ¬ (0 < q_sw x) → ma_Ev (q_G t) F Lc k n M (pc + 3) ls st (q_h f g) Z) : ma_Ev (q_G t) F Lc k n M pc ls (ma_i x :: st) (q_h f g) Z := by
  have h9 := ev_if_gt (x := q_sw x) d ht (q_sw_r x) E E2
  rwa [q_sw_i] at h9
theorem et_if_le {x off : Int} {tgt : Nat} (d : decode (m_c M) pc = .ok (.ifCond .le off, 3)) (ht : (pc : Int) + off = (tgt : Int)) (E : q_sw x ≤ 0 → ma_Ev (q_G t) F Lc k n M tgt ls st (q_h f g) Z) (E2 : ¬ (q_sw x ≤ 0) → ma_Ev (q_G t) F Lc k n M (pc + 3) ls st (q_h f g) Z) : ma_Ev (q_G t) F Lc k n M pc ls (ma_i x :: st) (q_h f g) Z := by
  have h9 := ev_if_le (x := q_sw x) d ht (q_sw_r x) E E2
  rwa [q_sw_i] at h9
theorem et_icmp_eq {x y off : Int} {tgt : Nat} (d : decode (m_c M) pc = .ok (.if_icmp .eq off, 3)) (ht : (pc : Int) + off = (tgt : Int)) (E : q_sw x = q_sw y → ma_Ev (q_G t) F Lc k n M tgt ls st (q_h f g) Z) (E2 : ¬ (q_sw x = q_sw y) → ma_Ev (q_G t) F Lc k n M (pc + 3) ls st (q_h f g) Z) : ma_Ev (q_G t) F Lc k n M pc ls (ma_i y :: ma_i x :: st) (q_h f g) Z := by
  have h9 := ev_icmp_eq (x := q_sw x) (y := q_sw y) d ht (q_sw_r x) (q_sw_r y) E E2
  rwa [q_sw_i, q_sw_i] at h9
theorem et_icmp_ne {x y off : Int} {tgt : Nat} (d : decode (m_c M) pc = .ok (.if_icmp .ne off, 3)) (ht : (pc : Int) + off = (tgt : Int)) (E : ¬ q_sw x = q_sw y → ma_Ev (q_G t) F Lc k n M tgt ls st (q_h f g) Z) (E2 : q_sw x = q_sw y → ma_Ev (q_G t) F Lc k n M (pc + 3) ls st (q_h f g) Z) : ma_Ev (q_G t) F Lc k n M pc ls (ma_i y :: ma_i x :: st) (q_h f g) Z := by
  have h9 := ev_icmp_ne (x := q_sw x) (y := q_sw y) d ht (q_sw_r x) (q_sw_r y) E E2
  rwa [q_sw_i, q_sw_i] at h9
theorem et_icmp_lt {x y off : Int} {tgt : Nat} (d : decode (m_c M) pc = .ok (.if_icmp .lt off, 3)) (ht : (pc : Int) + off = (tgt : Int)) (E : q_sw x < q_sw y → ma_Ev (q_G t) F Lc k n M tgt ls st (q_h f g) Z) (E2 : ¬ (q_sw x < q_sw y) → ma_Ev (q_G t) F Lc k n M (pc + 3) ls st (q_h f g) Z) : ma_Ev (q_G t) F Lc k n M pc ls (ma_i y :: ma_i x :: st) (q_h f g) Z := by
  have h9 := ev_icmp_lt (x := q_sw x) (y := q_sw y) d ht (q_sw_r x) (q_sw_r y) E E2
  rwa [q_sw_i, q_sw_i] at h9
theorem et_icmp_ge {x y off : Int} {tgt : Nat} (d : decode (m_c M) pc = .ok (.if_icmp .ge off, 3)) (ht : (pc : Int) + off = (tgt : Int)) (E : q_sw y ≤ q_sw x → ma_Ev (q_G t) F Lc k n M tgt ls st (q_h f g) Z) (E2 : ¬ (q_sw y ≤ q_sw x) → ma_Ev (q_G t) F Lc k n M (pc + 3) ls st (q_h f g) Z) : ma_Ev (q_G t) F Lc k n M pc ls (ma_i y :: ma_i x :: st) (q_h f g) Z := by
  have h9 := ev_icmp_ge (x := q_sw x) (y := q_sw y) d ht (q_sw_r x) (q_sw_r y) E E2
  rwa [q_sw_i, q_sw_i] at h9
theorem et_icmp_gt {x y off : Int} {tgt : Nat} (d : decode (m_c M) pc = .ok (.if_icmp .gt off, 3)) (ht : (pc : Int) + off = (tgt : Int)) (E : q_sw y < q_sw x → ma_Ev (q_G t) F Lc k n M tgt ls st (q_h f g) Z) (E2 : ¬ (q_sw y < q_sw x) → ma_Ev (q_G t) F Lc k n M (pc + 3) ls st (q_h f g) Z) : ma_Ev (q_G t) F Lc k n M pc ls (ma_i y :: ma_i x :: st) (q_h f g) Z := by
  have h9 := ev_icmp_gt (x := q_sw x) (y := q_sw y) d ht (q_sw_r x) (q_sw_r y) E E2
  rwa [q_sw_i, q_sw_i] at h9
theorem et_icmp_le {x y off : Int} {tgt : Nat} (d : decode (m_c M) pc = .ok (.if_icmp .le off, 3)) (ht : (pc : Int) + off = (tgt : Int)) (E : q_sw x ≤ q_sw y → ma_Ev (q_G t) F Lc k n M tgt ls st (q_h f g) Z) (E2 : ¬ (q_sw x ≤ q_sw y) → ma_Ev (q_G t) F Lc k n M (pc + 3) ls st (q_h f g) Z) : ma_Ev (q_G t) F Lc k n M pc ls (ma_i y :: ma_i x :: st) (q_h f g) Z := by
  have h9 := ev_icmp_le (x := q_sw x) (y := q_sw y) d ht (q_sw_r x) (q_sw_r y) E E2
  rwa [q_sw_i, q_sw_i] at h9
theorem et_i2l {x : Int} (d : decode (m_c M) pc = .ok (.i2l, 1)) (E : ma_Ev (q_G t) F Lc k n M (pc + 1) ls (ma_j (q_sw x) :: st) (q_h f g) Z) : ma_Ev (q_G t) F Lc k n M pc ls (ma_i x :: st) (q_h f g) Z := by
  have h9 := ev_i2l (x := q_sw x) d (q_sw_r x) E
  rwa [q_sw_i] at h9
theorem et_iand {x y : Int} (d : decode (m_c M) pc = .ok (.iand, 1)) (E : ma_Ev (q_G t) F Lc k n M (pc + 1) ls (ma_i (q_and x y) :: st) (q_h f g) Z) : ma_Ev (q_G t) F Lc k n M pc ls (ma_i y :: ma_i x :: st) (q_h f g) Z := ev_iand _ d (Int32.ofInt_toInt _).symm E
theorem et_irem {x y : Int} (d : decode (m_c M) pc = .ok (.irem, 1)) (hy : ¬ Int32.ofInt y = 0) (E : ma_Ev (q_G t) F Lc k n M (pc + 1) ls (ma_i (q_irem x y) :: st) (q_h f g) Z) : ma_Ev (q_G t) F Lc k n M pc ls (ma_i y :: ma_i x :: st) (q_h f g) Z := ev_irem _ d hy (Int32.ofInt_toInt _).symm E
theorem et_land {x y : Int} (d : decode (m_c M) pc = .ok (.land, 1)) (E : ma_Ev (q_G t) F Lc k n M (pc + 1) ls (ma_j (q_land x y) :: st) (q_h f g) Z) : ma_Ev (q_G t) F Lc k n M pc ls (ma_j y :: ma_j x :: st) (q_h f g) Z := ev_land _ d (Int64.ofInt_toInt _).symm E
theorem et_lor {x y : Int} (d : decode (m_c M) pc = .ok (.lor, 1)) (E : ma_Ev (q_G t) F Lc k n M (pc + 1) ls (ma_j (q_lor x y) :: st) (q_h f g) Z) : ma_Ev (q_G t) F Lc k n M pc ls (ma_j y :: ma_j x :: st) (q_h f g) Z := ev_lor _ d (Int64.ofInt_toInt _).symm E
theorem et_lrem {x y : Int} (d : decode (m_c M) pc = .ok (.lrem, 1)) (hy : ¬ Int64.ofInt y = 0) (E : ma_Ev (q_G t) F Lc k n M (pc + 1) ls (ma_j (q_lrem x y) :: st) (q_h f g) Z) : ma_Ev (q_G t) F Lc k n M pc ls (ma_j y :: ma_j x :: st) (q_h f g) Z := ev_lrem _ d hy (Int64.ofInt_toInt _).symm E
theorem et_lshl {x y : Int} (d : decode (m_c M) pc = .ok (.lshl, 1)) (E : ma_Ev (q_G t) F Lc k n M (pc + 1) ls (ma_j (q_lshl x y) :: st) (q_h f g) Z) : ma_Ev (q_G t) F Lc k n M pc ls (ma_i y :: ma_j x :: st) (q_h f g) Z := ev_lshl _ d (Int64.ofInt_toInt _).symm E
theorem et_lshr {x y : Int} (d : decode (m_c M) pc = .ok (.lshr, 1)) (E : ma_Ev (q_G t) F Lc k n M (pc + 1) ls (ma_j (q_lshr x y) :: st) (q_h f g) Z) : ma_Ev (q_G t) F Lc k n M pc ls (ma_i y :: ma_j x :: st) (q_h f g) Z := ev_lshr _ d (Int64.ofInt_toInt _).symm E
theorem et_lushr {x y : Int} (d : decode (m_c M) pc = .ok (.lushr, 1)) (E : ma_Ev (q_G t) F Lc k n M (pc + 1) ls (ma_j (q_lushr x y) :: st) (q_h f g) Z) : ma_Ev (q_G t) F Lc k n M pc ls (ma_i y :: ma_j x :: st) (q_h f g) Z := ev_lushr _ d (Int64.ofInt_toInt _).symm E
theorem et_lcmp {x y : Int} (d : decode (m_c M) pc = .ok (.lcmp, 1)) (E : ma_Ev (q_G t) F Lc k n M (pc + 1) ls (ma_i (q_lcmp x y) :: st) (q_h f g) Z) : ma_Ev (q_G t) F Lc k n M pc ls (ma_j y :: ma_j x :: st) (q_h f g) Z := ev_lcmp _ d (Int32.ofInt_toInt _).symm E
theorem et_i2c {x : Int} (d : decode (m_c M) pc = .ok (.i2c, 1)) (E : ma_Ev (q_G t) F Lc k n M (pc + 1) ls (ma_i (q_i2c x) :: st) (q_h f g) Z) : ma_Ev (q_G t) F Lc k n M pc ls (ma_i x :: st) (q_h f g) Z := by
  intro p e s m args below meth c R H locs cells slots lsA C r S hv hc hs hex
  exact lv_i2c C.1 C.2.1 d (Int32.ofInt_toInt _).symm (E C r S hv hc hs hex)
theorem et_aload_n {i : Nat} {j : Fin 4} {a : Nat} (d : decode (m_c M) pc = .ok (.aload_n j, 1)) (hi : (j : Nat) = i) (hl : ls.lookup i = some (q_a t a)) (E : ma_Ev (q_G t) F Lc k n M (pc + 1) ls (q_a t a :: st) (q_h f g) Z) : ma_Ev (q_G t) F Lc k n M pc ls st (q_h f g) Z := ev_aload_n d hi hl E
theorem et_aload {i : Nat} {a : Nat} (d : decode (m_c M) pc = .ok (.aload i, 2)) (hl : ls.lookup i = some (q_a t a)) (E : ma_Ev (q_G t) F Lc k n M (pc + 2) ls (q_a t a :: st) (q_h f g) Z) : ma_Ev (q_G t) F Lc k n M pc ls st (q_h f g) Z := ev_aload d hl E
theorem et_astore_n {i : Nat} {j : Fin 4} {a : Nat} (d : decode (m_c M) pc = .ok (.astore_n j, 1)) (hi : (j : Nat) = i) (hn : i < m_n M) (ls2 : List (Nat × Value)) (hl : ma_st ls i (q_a t a) = ls2) (E : ma_Ev (q_G t) F Lc k n M (pc + 1) ls2 st (q_h f g) Z) : ma_Ev (q_G t) F Lc k n M pc ls (q_a t a :: st) (q_h f g) Z := ev_astore_n d hi hn ls2 hl E
theorem et_astore {i : Nat} {a : Nat} (d : decode (m_c M) pc = .ok (.astore i, 2)) (hn : i < m_n M) (ls2 : List (Nat × Value)) (hl : ma_st ls i (q_a t a) = ls2) (E : ma_Ev (q_G t) F Lc k n M (pc + 2) ls2 st (q_h f g) Z) : ma_Ev (q_G t) F Lc k n M pc ls (q_a t a :: st) (q_h f g) Z := ev_astore d hn ls2 hl E
theorem et_geti (ok : ma_ok (q_G t)) {index ci fk a : Nat} {d : String} {fin : Bool} (f9 : ma_FL (q_G t) (m_y M).cls index ci fk d fin) (hd : ma_int d = true) (dc : decode (m_c M) pc = .ok (.getfield index, 3)) (ha : q_SH[a]? = some (.inl ci)) (E : ma_Ev (q_G t) F Lc k n M (pc + 3) ls (ma_i (f a fk) :: st) (q_h f g) Z) : ma_Ev (q_G t) F Lc k n M pc ls (q_a t a :: st) (q_h f g) Z := ev_geti ok f9 hd dc ha E
theorem et_getr (ok : ma_ok (q_G t)) {index ci fk a q : Nat} {d : String} {fin : Bool} (f9 : ma_FL (q_G t) (m_y M).cls index ci fk d fin) (hd : ma_int d = false) (dc : decode (m_c M) pc = .ok (.getfield index, 3)) (ha : q_SH[a]? = some (.inl ci)) (hq : q_R a fk = some q) (E : ma_Ev (q_G t) F Lc k n M (pc + 3) ls (q_a t q :: st) (q_h f g) Z) : ma_Ev (q_G t) F Lc k n M pc ls (q_a t a :: st) (q_h f g) Z := ev_getr ok f9 hd dc ha hq E
theorem et_puti (ok : ma_ok (q_G t)) {index ci fk a : Nat} {z : Int} (f9 : ma_FL (q_G t) (m_y M).cls index ci fk "I" false) (dc : decode (m_c M) pc = .ok (.putfield index, 3)) (ha : q_SH[a]? = some (.inl ci)) (E : ma_Ev (q_G t) F Lc k n M (pc + 3) ls st (q_h (ma_up f a fk z) g) Z) : ma_Ev (q_G t) F Lc k n M pc ls (ma_i z :: q_a t a :: st) (q_h f g) Z := ev_puti ok f9 rfl (ma_fit_I z) dc ha E
theorem et_putz (ok : ma_ok (q_G t)) {index ci fk a : Nat} {z : Int} (f9 : ma_FL (q_G t) (m_y M).cls index ci fk "Z" false) (hz : z = 0 ∨ z = 1) (dc : decode (m_c M) pc = .ok (.putfield index, 3)) (ha : q_SH[a]? = some (.inl ci)) (E : ma_Ev (q_G t) F Lc k n M (pc + 3) ls st (q_h (ma_up f a fk z) g) Z) : ma_Ev (q_G t) F Lc k n M pc ls (ma_i z :: q_a t a :: st) (q_h f g) Z := ev_puti ok f9 rfl (ma_fit_Z hz) dc ha E
theorem et_iald {a len : Nat} {z : Int} (dc : decode (m_c M) pc = .ok (.iaload, 1)) (ha : q_SH[a]? = some (.inr (.int, len))) (h1 : 0 ≤ z ∧ z < len) (h2 : len ≤ 2147483647) (E : ma_Ev (q_G t) F Lc k n M (pc + 1) ls (ma_i (f a z.toNat) :: st) (q_h f g) Z) : ma_Ev (q_G t) F Lc k n M pc ls (ma_i z :: q_a t a :: st) (q_h f g) Z := ev_iald dc ha h1.1 h1.2 h2 E
theorem et_cald {a len : Nat} {z : Int} (dc : decode (m_c M) pc = .ok (.caload, 1)) (ha : q_SH[a]? = some (.inr (.char, len))) (h1 : 0 ≤ z ∧ z < len) (h2 : len ≤ 2147483647) (E : ma_Ev (q_G t) F Lc k n M (pc + 1) ls (ma_i (f a z.toNat) :: st) (q_h f g) Z) : ma_Ev (q_G t) F Lc k n M pc ls (ma_i z :: q_a t a :: st) (q_h f g) Z := ev_cald dc ha h1.1 h1.2 h2 E
theorem et_zald {a len : Nat} {z : Int} (dc : decode (m_c M) pc = .ok (.baload, 1)) (ha : q_SH[a]? = some (.inr (.boolean, len))) (h1 : 0 ≤ z ∧ z < len) (h2 : len ≤ 2147483647) (E : ma_Ev (q_G t) F Lc k n M (pc + 1) ls (ma_i (f a z.toNat) :: st) (q_h f g) Z) : ma_Ev (q_G t) F Lc k n M pc ls (ma_i z :: q_a t a :: st) (q_h f g) Z := ev_zald dc ha h1.1 h1.2 h2 E
theorem et_lald {a len : Nat} {z : Int} (dc : decode (m_c M) pc = .ok (.laload, 1)) (ha : q_SH[a]? = some (.inr (.long, len))) (h1 : 0 ≤ z ∧ z < len) (h2 : len ≤ 2147483647) (E : ma_Ev (q_G t) F Lc k n M (pc + 1) ls (ma_j (g a z.toNat) :: st) (q_h f g) Z) : ma_Ev (q_G t) F Lc k n M pc ls (ma_i z :: q_a t a :: st) (q_h f g) Z := ev_lald dc ha h1.1 h1.2 h2 E
theorem et_aald {a len q : Nat} {z : Int} {C0 : String} (dc : decode (m_c M) pc = .ok (.aaload, 1)) (ha : q_SH[a]? = some (.inr (.object C0, len))) (h1 : 0 ≤ z ∧ z < len) (h2 : len ≤ 2147483647) (hq : q_R a z.toNat = some q) (E : ma_Ev (q_G t) F Lc k n M (pc + 1) ls (q_a t q :: st) (q_h f g) Z) : ma_Ev (q_G t) F Lc k n M pc ls (ma_i z :: q_a t a :: st) (q_h f g) Z := ev_aald dc ha h1.1 h1.2 h2 hq E
theorem et_iast {a len : Nat} {z x : Int} (dc : decode (m_c M) pc = .ok (.iastore, 1)) (ha : q_SH[a]? = some (.inr (.int, len))) (h1 : 0 ≤ z ∧ z < len) (h2 : len ≤ 2147483647) (E : ma_Ev (q_G t) F Lc k n M (pc + 1) ls st (q_h (ma_up f a z.toNat x) g) Z) : ma_Ev (q_G t) F Lc k n M pc ls (ma_i x :: ma_i z :: q_a t a :: st) (q_h f g) Z := ev_iast dc ha h1.1 h1.2 h2 E
theorem et_last {a len : Nat} {z x : Int} (dc : decode (m_c M) pc = .ok (.lastore, 1)) (ha : q_SH[a]? = some (.inr (.long, len))) (h1 : 0 ≤ z ∧ z < len) (h2 : len ≤ 2147483647) (E : ma_Ev (q_G t) F Lc k n M (pc + 1) ls st (q_h f (ma_up g a z.toNat x)) Z) : ma_Ev (q_G t) F Lc k n M pc ls (ma_j x :: ma_i z :: q_a t a :: st) (q_h f g) Z := ev_last dc ha h1.1 h1.2 h2 E
theorem et_cast {a len : Nat} {z x : Int} (dc : decode (m_c M) pc = .ok (.castore, 1)) (ha : q_SH[a]? = some (.inr (.char, len))) (h1 : 0 ≤ z ∧ z < len) (h2 : len ≤ 2147483647) (E : ma_Ev (q_G t) F Lc k n M (pc + 1) ls st (q_h (ma_up f a z.toNat (q_nc x)) g) Z) : ma_Ev (q_G t) F Lc k n M pc ls (ma_i x :: ma_i z :: q_a t a :: st) (q_h f g) Z := ev_castn dc ha h1.1 h1.2 h2 E
theorem et_zast {a len : Nat} {z x : Int} (dc : decode (m_c M) pc = .ok (.bastore, 1)) (ha : q_SH[a]? = some (.inr (.boolean, len))) (h1 : 0 ≤ z ∧ z < len) (h2 : len ≤ 2147483647) (E : ma_Ev (q_G t) F Lc k n M (pc + 1) ls st (q_h (ma_up f a z.toNat (q_nz x)) g) Z) : ma_Ev (q_G t) F Lc k n M pc ls (ma_i x :: ma_i z :: q_a t a :: st) (q_h f g) Z := ev_zastn dc ha h1.1 h1.2 h2 E
theorem et_max {x y : Int} (dc : decode (m_c M) pc = .ok (.invokestatic 160, 3)) (hM : (m_y M).cls = "LayoutDesk$Reckoner") (hF : 1 ≤ F) (hL : (st.map fun v => v.category).sum + 13 ≤ Lc) (E : ma_Ev (q_G t) F Lc k n M (pc + 3) ls (ma_i (q_max x y) :: st) (q_h f g) Z) : ma_Ev (q_G t) F Lc k n M pc ls (ma_i y :: ma_i x :: st) (q_h f g) Z := ev_max dc (by rw [hM]; exact q_in 538 (by decide +kernel) rfl) (q_in 539 (by decide +kernel) rfl) (q_in 19 (by decide +kernel) rfl) (q_in 540 (by decide +kernel) (by decide +kernel)) hF hL E
theorem et_callVi (ok : ma_ok (q_G t)) {np index F1 L1 : Nat} {ci a : Nat} {r0 : vw_C} {r : Int} {f1 g1 : q_F} (As rest : List Value) {st0 : List Value} (f9 : ma_CV (q_G t) (m_y M).cls index M1 np) (dc : decode (m_c M) pc = .ok (.invokevirtual index, 3)) (ha : q_SH[a]? = some (.inl ci)) (hci : q_CL[ci]? = some r0) (hr0 : r0.1 = (m_y M1).cls) (hM : ma_Met (q_G t) false F1 L1 0 0 M1 (q_a t a :: As) (q_h f g) (fun v h' => v = some (ma_i r) ∧ h' = q_h f1 g1)) (hst : st0 = As.reverse ++ q_a t a :: rest) (hn : As.length = np) (hF : F1 + 1 ≤ F) (hL : 8 + (m_n M1 + 11) + L1 ≤ Lc) (hr : (rest.map fun v => v.category).sum ≤ 8)
    (E : ma_Ev (q_G t) F Lc k n M (pc + 3) ls (ma_i r :: rest) (q_h f1 g1) Z) : ma_Ev (q_G t) F Lc k n M pc ls st0 (q_h f g) Z := by
  refine ev_callV (k := k) (n := n) ok As rest f9 dc ha hci hr0 hM hst hn hF hL hr fun v h' hq _ => ?_
  obtain ⟨rfl, rfl⟩ := hq
  exact E
theorem et_callVl (ok : ma_ok (q_G t)) {np index F1 L1 : Nat} {ci a : Nat} {r0 : vw_C} {r : Int} {f1 g1 : q_F} (As rest : List Value) {st0 : List Value} (f9 : ma_CV (q_G t) (m_y M).cls index M1 np) (dc : decode (m_c M) pc = .ok (.invokevirtual index, 3)) (ha : q_SH[a]? = some (.inl ci)) (hci : q_CL[ci]? = some r0) (hr0 : r0.1 = (m_y M1).cls) (hM : ma_Met (q_G t) false F1 L1 0 0 M1 (q_a t a :: As) (q_h f g) (fun v h' => v = some (ma_j r) ∧ h' = q_h f1 g1)) (hst : st0 = As.reverse ++ q_a t a :: rest) (hn : As.length = np) (hF : F1 + 1 ≤ F) (hL : 8 + (m_n M1 + 11) + L1 ≤ Lc) (hr : (rest.map fun v => v.category).sum ≤ 8)
    (E : ma_Ev (q_G t) F Lc k n M (pc + 3) ls (ma_j r :: rest) (q_h f1 g1) Z) : ma_Ev (q_G t) F Lc k n M pc ls st0 (q_h f g) Z := by
  refine ev_callV (k := k) (n := n) ok As rest f9 dc ha hci hr0 hM hst hn hF hL hr fun v h' hq _ => ?_
  obtain ⟨rfl, rfl⟩ := hq
  exact E
theorem et_callVr (ok : ma_ok (q_G t)) {np index F1 L1 : Nat} {ci a : Nat} {r0 : vw_C} {r : Nat} {f1 g1 : q_F} (As rest : List Value) {st0 : List Value} (f9 : ma_CV (q_G t) (m_y M).cls index M1 np) (dc : decode (m_c M) pc = .ok (.invokevirtual index, 3)) (ha : q_SH[a]? = some (.inl ci)) (hci : q_CL[ci]? = some r0) (hr0 : r0.1 = (m_y M1).cls) (hM : ma_Met (q_G t) false F1 L1 0 0 M1 (q_a t a :: As) (q_h f g) (fun v h' => v = some (q_a t r) ∧ h' = q_h f1 g1)) (hst : st0 = As.reverse ++ q_a t a :: rest) (hn : As.length = np) (hF : F1 + 1 ≤ F) (hL : 8 + (m_n M1 + 11) + L1 ≤ Lc) (hr : (rest.map fun v => v.category).sum ≤ 8)
    (E : ma_Ev (q_G t) F Lc k n M (pc + 3) ls (q_a t r :: rest) (q_h f1 g1) Z) : ma_Ev (q_G t) F Lc k n M pc ls st0 (q_h f g) Z := by
  refine ev_callV (k := k) (n := n) ok As rest f9 dc ha hci hr0 hM hst hn hF hL hr fun v h' hq _ => ?_
  obtain ⟨rfl, rfl⟩ := hq
  exact E
theorem et_callVv (ok : ma_ok (q_G t)) {np index F1 L1 : Nat} {ci a : Nat} {r0 : vw_C} {f1 g1 : q_F} (As rest : List Value) {st0 : List Value} (f9 : ma_CV (q_G t) (m_y M).cls index M1 np) (dc : decode (m_c M) pc = .ok (.invokevirtual index, 3)) (ha : q_SH[a]? = some (.inl ci)) (hci : q_CL[ci]? = some r0) (hr0 : r0.1 = (m_y M1).cls) (hM : ma_Met (q_G t) false F1 L1 0 0 M1 (q_a t a :: As) (q_h f g) (fun v h' => v = none ∧ h' = q_h f1 g1)) (hst : st0 = As.reverse ++ q_a t a :: rest) (hn : As.length = np) (hF : F1 + 1 ≤ F) (hL : 8 + (m_n M1 + 11) + L1 ≤ Lc) (hr : (rest.map fun v => v.category).sum ≤ 8)
    (E : ma_Ev (q_G t) F Lc k n M (pc + 3) ls rest (q_h f1 g1) Z) : ma_Ev (q_G t) F Lc k n M pc ls st0 (q_h f g) Z := by
  refine ev_callV (k := k) (n := n) ok As rest f9 dc ha hci hr0 hM hst hn hF hL hr fun v h' hq _ => ?_
  obtain ⟨rfl, rfl⟩ := hq
  exact E
theorem et_callSi (ok : ma_ok (q_G t)) {np index F1 L1 : Nat} {r : Int} {f1 g1 : q_F} (As rest : List Value) {st0 : List Value} (f9 : ma_CS (q_G t) (m_y M).cls index M1 np) (dc : decode (m_c M) pc = .ok (.invokestatic index, 3)) (hM : ma_Met (q_G t) false F1 L1 0 0 M1 As (q_h f g) (fun v h' => v = some (ma_i r) ∧ h' = q_h f1 g1)) (hst : st0 = As.reverse ++ rest) (hn : As.length = np) (hF : F1 + 1 ≤ F) (hL : 8 + (m_n M1 + 11) + L1 ≤ Lc) (hr : (rest.map fun v => v.category).sum ≤ 8)
    (E : ma_Ev (q_G t) F Lc k n M (pc + 3) ls (ma_i r :: rest) (q_h f1 g1) Z) : ma_Ev (q_G t) F Lc k n M pc ls st0 (q_h f g) Z := by
  refine ev_callS (k := k) (n := n) ok As rest f9 dc hM hst hn hF hL hr fun v h' hq _ => ?_
  obtain ⟨rfl, rfl⟩ := hq
  exact E
theorem et_callSl (ok : ma_ok (q_G t)) {np index F1 L1 : Nat} {r : Int} {f1 g1 : q_F} (As rest : List Value) {st0 : List Value} (f9 : ma_CS (q_G t) (m_y M).cls index M1 np) (dc : decode (m_c M) pc = .ok (.invokestatic index, 3)) (hM : ma_Met (q_G t) false F1 L1 0 0 M1 As (q_h f g) (fun v h' => v = some (ma_j r) ∧ h' = q_h f1 g1)) (hst : st0 = As.reverse ++ rest) (hn : As.length = np) (hF : F1 + 1 ≤ F) (hL : 8 + (m_n M1 + 11) + L1 ≤ Lc) (hr : (rest.map fun v => v.category).sum ≤ 8)
    (E : ma_Ev (q_G t) F Lc k n M (pc + 3) ls (ma_j r :: rest) (q_h f1 g1) Z) : ma_Ev (q_G t) F Lc k n M pc ls st0 (q_h f g) Z := by
  refine ev_callS (k := k) (n := n) ok As rest f9 dc hM hst hn hF hL hr fun v h' hq _ => ?_
  obtain ⟨rfl, rfl⟩ := hq
  exact E
theorem et_callSr (ok : ma_ok (q_G t)) {np index F1 L1 : Nat} {r : Nat} {f1 g1 : q_F} (As rest : List Value) {st0 : List Value} (f9 : ma_CS (q_G t) (m_y M).cls index M1 np) (dc : decode (m_c M) pc = .ok (.invokestatic index, 3)) (hM : ma_Met (q_G t) false F1 L1 0 0 M1 As (q_h f g) (fun v h' => v = some (q_a t r) ∧ h' = q_h f1 g1)) (hst : st0 = As.reverse ++ rest) (hn : As.length = np) (hF : F1 + 1 ≤ F) (hL : 8 + (m_n M1 + 11) + L1 ≤ Lc) (hr : (rest.map fun v => v.category).sum ≤ 8)
    (E : ma_Ev (q_G t) F Lc k n M (pc + 3) ls (q_a t r :: rest) (q_h f1 g1) Z) : ma_Ev (q_G t) F Lc k n M pc ls st0 (q_h f g) Z := by
  refine ev_callS (k := k) (n := n) ok As rest f9 dc hM hst hn hF hL hr fun v h' hq _ => ?_
  obtain ⟨rfl, rfl⟩ := hq
  exact E
theorem et_callSv (ok : ma_ok (q_G t)) {np index F1 L1 : Nat} {f1 g1 : q_F} (As rest : List Value) {st0 : List Value} (f9 : ma_CS (q_G t) (m_y M).cls index M1 np) (dc : decode (m_c M) pc = .ok (.invokestatic index, 3)) (hM : ma_Met (q_G t) false F1 L1 0 0 M1 As (q_h f g) (fun v h' => v = none ∧ h' = q_h f1 g1)) (hst : st0 = As.reverse ++ rest) (hn : As.length = np) (hF : F1 + 1 ≤ F) (hL : 8 + (m_n M1 + 11) + L1 ≤ Lc) (hr : (rest.map fun v => v.category).sum ≤ 8)
    (E : ma_Ev (q_G t) F Lc k n M (pc + 3) ls rest (q_h f1 g1) Z) : ma_Ev (q_G t) F Lc k n M pc ls st0 (q_h f g) Z := by
  refine ev_callS (k := k) (n := n) ok As rest f9 dc hM hst hn hF hL hr fun v h' hq _ => ?_
  obtain ⟨rfl, rfl⟩ := hq
  exact E
theorem et_iret {x : Int} (d : decode (m_c M) pc = .ok (.ireturn, 1)) (hr : m_r M = some .int) (q : Q (some (ma_i x)) (q_h f g)) : ma_Ev (q_G t) F Lc k n M pc ls [ma_i x] (q_h f g) (ma_zr (q_G t) false Q) := ev_iret d hr rfl rfl (fun h => nomatch h) q
theorem et_zret {x : Int} (d : decode (m_c M) pc = .ok (.ireturn, 1)) (hr : m_r M = some .boolean) (hx : x = 0 ∨ x = 1) (q : Q (some (ma_i x)) (q_h f g)) : ma_Ev (q_G t) F Lc k n M pc ls [ma_i x] (q_h f g) (ma_zr (q_G t) false Q) := ev_iret d hr (by rcases hx with rfl | rfl <;> rfl) rfl (fun h => nomatch h) q
theorem et_lret {x : Int} (d : decode (m_c M) pc = .ok (.lreturn, 1)) (hr : m_r M = some .long) (q : Q (some (ma_j x)) (q_h f g)) : ma_Ev (q_G t) F Lc k n M pc ls [ma_j x] (q_h f g) (ma_zr (q_G t) false Q) := ev_lret d hr rfl (fun h => nomatch h) q
theorem et_aret {a : Nat} {C0 : String} (d : decode (m_c M) pc = .ok (.areturn, 1)) (hr : m_r M = some (.object C0)) (q : Q (some (q_a t a)) (q_h f g)) : ma_Ev (q_G t) F Lc k n M pc ls [q_a t a] (q_h f g) (ma_zr (q_G t) false Q) := ev_aret d hr (Or.inl ⟨C0, rfl⟩) rfl (fun h => nomatch h) q
theorem et_ret (d : decode (m_c M) pc = .ok (.return_, 1)) (hr : m_r M = none) (q : Q none (q_h f g)) : ma_Ev (q_G t) F Lc k n M pc ls [] (q_h f g) (ma_zr (q_G t) false Q) := ev_ret d hr rfl (fun h => nomatch h) q
end ET
