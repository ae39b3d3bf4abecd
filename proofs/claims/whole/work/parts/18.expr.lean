/-! ===== printed by walk.py: expressions, which call each other ===== -/
theorem et_lookup {t : q_V} {F Lc k n : Nat} {M : ma_M} {pc : Nat} {ls : List (Nat × Value)} {st : List Value} {f g : q_F} {Z : ma_Z} {dflt : Int} {ps : Array (Int × Int)} {len : Nat} {x : Int} {off : Int} {tgt : Nat} (d : decode (m_c M) pc = .ok (.lookupswitch dflt ps, len)) (hp : (ps.toList.zip (ps.toList.drop 1)).all (fun (a, next) => a.1 < next.1) = true) (ho : Op.lookupswitch.offset ps.toList dflt (q_sw x) = off) (ht : (pc : Int) + off = (tgt : Int)) (E : ma_Ev (q_G t) F Lc k n M tgt ls st (q_h f g) Z) : ma_Ev (q_G t) F Lc k n M pc ls (ma_i x :: st) (q_h f g) Z := by
  have h9 := ev_lookup (x := q_sw x) d hp (q_sw_r x) ho ht E
  rwa [q_sw_i] at h9
theorem d_Reader_readExpression_0 : decode (m_c m_Reader_readExpression) 0 = .ok (.aload_n 0, 1) := by decide +kernel
theorem d_Reader_readExpression_1 : decode (m_c m_Reader_readExpression) 1 = .ok (.iload_n 1, 1) := by decide +kernel
theorem d_Reader_readExpression_2 : decode (m_c m_Reader_readExpression) 2 = .ok (.invokevirtual 164, 3) := by decide +kernel
theorem d_Reader_readExpression_5 : decode (m_c m_Reader_readExpression) 5 = .ok (.ifCond .ne 5, 3) := by decide +kernel
theorem d_Reader_readExpression_8 : decode (m_c m_Reader_readExpression) 8 = .ok (.iconst 0, 1) := by decide +kernel
theorem d_Reader_readExpression_9 : decode (m_c m_Reader_readExpression) 9 = .ok (.ireturn, 1) := by decide +kernel
theorem d_Reader_readExpression_10 : decode (m_c m_Reader_readExpression) 10 = .ok (.iconst 0, 1) := by decide +kernel
theorem d_Reader_readExpression_11 : decode (m_c m_Reader_readExpression) 11 = .ok (.istore_n 2, 1) := by decide +kernel
theorem d_Reader_readExpression_12 : decode (m_c m_Reader_readExpression) 12 = .ok (.iload_n 2, 1) := by decide +kernel
theorem d_Reader_readExpression_13 : decode (m_c m_Reader_readExpression) 13 = .ok (.sipush 160, 3) := by decide +kernel
theorem d_Reader_readExpression_16 : decode (m_c m_Reader_readExpression) 16 = .ok (.if_icmp .ge 75, 3) := by decide +kernel
theorem d_Reader_readExpression_19 : decode (m_c m_Reader_readExpression) 19 = .ok (.aload_n 0, 1) := by decide +kernel
theorem d_Reader_readExpression_20 : decode (m_c m_Reader_readExpression) 20 = .ok (.invokevirtual 116, 3) := by decide +kernel
theorem d_Reader_readExpression_23 : decode (m_c m_Reader_readExpression) 23 = .ok (.bipush 43, 2) := by decide +kernel
theorem d_Reader_readExpression_25 : decode (m_c m_Reader_readExpression) 25 = .ok (.if_icmp .eq 12, 3) := by decide +kernel
theorem d_Reader_readExpression_28 : decode (m_c m_Reader_readExpression) 28 = .ok (.aload_n 0, 1) := by decide +kernel
theorem d_Reader_readExpression_29 : decode (m_c m_Reader_readExpression) 29 = .ok (.invokevirtual 116, 3) := by decide +kernel
theorem d_Reader_readExpression_32 : decode (m_c m_Reader_readExpression) 32 = .ok (.bipush 45, 2) := by decide +kernel
theorem d_Reader_readExpression_34 : decode (m_c m_Reader_readExpression) 34 = .ok (.if_icmp .ne 57, 3) := by decide +kernel
theorem d_Reader_readExpression_37 : decode (m_c m_Reader_readExpression) 37 = .ok (.aload_n 0, 1) := by decide +kernel
theorem d_Reader_readExpression_38 : decode (m_c m_Reader_readExpression) 38 = .ok (.invokevirtual 116, 3) := by decide +kernel
theorem d_Reader_readExpression_41 : decode (m_c m_Reader_readExpression) 41 = .ok (.bipush 43, 2) := by decide +kernel
theorem d_Reader_readExpression_43 : decode (m_c m_Reader_readExpression) 43 = .ok (.if_icmp .ne 7, 3) := by decide +kernel
theorem d_Reader_readExpression_46 : decode (m_c m_Reader_readExpression) 46 = .ok (.iconst 5, 1) := by decide +kernel
theorem d_Reader_readExpression_47 : decode (m_c m_Reader_readExpression) 47 = .ok (.goto 5, 3) := by decide +kernel
theorem d_Reader_readExpression_50 : decode (m_c m_Reader_readExpression) 50 = .ok (.bipush 6, 2) := by decide +kernel
theorem d_Reader_readExpression_52 : decode (m_c m_Reader_readExpression) 52 = .ok (.istore_n 3, 1) := by decide +kernel
theorem d_Reader_readExpression_53 : decode (m_c m_Reader_readExpression) 53 = .ok (.aload_n 0, 1) := by decide +kernel
theorem d_Reader_readExpression_54 : decode (m_c m_Reader_readExpression) 54 = .ok (.dup, 1) := by decide +kernel
theorem d_Reader_readExpression_55 : decode (m_c m_Reader_readExpression) 55 = .ok (.getfield 9, 3) := by decide +kernel
theorem d_Reader_readExpression_58 : decode (m_c m_Reader_readExpression) 58 = .ok (.iconst 1, 1) := by decide +kernel
theorem d_Reader_readExpression_59 : decode (m_c m_Reader_readExpression) 59 = .ok (.iadd, 1) := by decide +kernel
theorem d_Reader_readExpression_60 : decode (m_c m_Reader_readExpression) 60 = .ok (.putfield 9, 3) := by decide +kernel
theorem d_Reader_readExpression_63 : decode (m_c m_Reader_readExpression) 63 = .ok (.aload_n 0, 1) := by decide +kernel
theorem d_Reader_readExpression_64 : decode (m_c m_Reader_readExpression) 64 = .ok (.iload_n 1, 1) := by decide +kernel
theorem d_Reader_readExpression_65 : decode (m_c m_Reader_readExpression) 65 = .ok (.invokevirtual 164, 3) := by decide +kernel
theorem d_Reader_readExpression_68 : decode (m_c m_Reader_readExpression) 68 = .ok (.ifCond .ne 5, 3) := by decide +kernel
theorem d_Reader_readExpression_71 : decode (m_c m_Reader_readExpression) 71 = .ok (.iconst 0, 1) := by decide +kernel
theorem d_Reader_readExpression_72 : decode (m_c m_Reader_readExpression) 72 = .ok (.ireturn, 1) := by decide +kernel
theorem d_Reader_readExpression_73 : decode (m_c m_Reader_readExpression) 73 = .ok (.aload_n 0, 1) := by decide +kernel
theorem d_Reader_readExpression_74 : decode (m_c m_Reader_readExpression) 74 = .ok (.getfield 22, 3) := by decide +kernel
theorem d_Reader_readExpression_77 : decode (m_c m_Reader_readExpression) 77 = .ok (.getfield 85, 3) := by decide +kernel
theorem d_Reader_readExpression_80 : decode (m_c m_Reader_readExpression) 80 = .ok (.iload_n 3, 1) := by decide +kernel
theorem d_Reader_readExpression_81 : decode (m_c m_Reader_readExpression) 81 = .ok (.iconst 0, 1) := by decide +kernel
theorem d_Reader_readExpression_82 : decode (m_c m_Reader_readExpression) 82 = .ok (.invokevirtual 130, 3) := by decide +kernel
theorem d_Reader_readExpression_85 : decode (m_c m_Reader_readExpression) 85 = .ok (.iinc 2 1, 3) := by decide +kernel
theorem d_Reader_readExpression_88 : decode (m_c m_Reader_readExpression) 88 = .ok (.goto (-76), 3) := by decide +kernel
theorem d_Reader_readExpression_91 : decode (m_c m_Reader_readExpression) 91 = .ok (.iconst 1, 1) := by decide +kernel
theorem d_Reader_readExpression_92 : decode (m_c m_Reader_readExpression) 92 = .ok (.ireturn, 1) := by decide +kernel
def p_Reader_readExpression_91 (kk : Int → q_F → q_F → Option (Int × q_F × q_F))   (f g : q_F) : Option (Int × q_F × q_F) :=
  some (1, f, g)
def p_Reader_readExpression_52 (kk : Int → q_F → q_F → Option (Int × q_F × q_F)) (c12 : Int → Int → q_F → q_F → Option (Int × q_F × q_F)) (v1 : Int) (v2 : Int) (s0 : Int) (f g : q_F) : Option (Int × q_F × q_F) :=
  q_let (ma_up f 54 2 ((f 54 2) + 1)) fun f1 =>
  (kk (v1) f1 g).bind fun x2 =>
  if q_sw x2.1 = 0 then
    some (0, x2.2.1, x2.2.2)
  else
    (p_Rows_add_11 (s0) (0) x2.2.1 x2.2.2).bind fun x5 =>
    q_let (v2 + 1) fun z7 =>
    c12 (v1) (z7) x5.1 x5.2
def p_Reader_readExpression_37 (kk : Int → q_F → q_F → Option (Int × q_F × q_F)) (c12 : Int → Int → q_F → q_F → Option (Int × q_F × q_F)) (v1 : Int) (v2 : Int) (f g : q_F) : Option (Int × q_F × q_F) :=
  (p_Reader_here  f g).bind fun x1 =>
  if q_sw x1.1 = q_sw 43 then
    p_Reader_readExpression_52 kk c12 (v1) (v2) (5) x1.2.1 x1.2.2
  else
    p_Reader_readExpression_52 kk c12 (v1) (v2) (6) x1.2.1 x1.2.2
def p_Reader_readExpression_12 (kk : Int → q_F → q_F → Option (Int × q_F × q_F))  : Nat → Int → Int → q_F → q_F → Option (Int × q_F × q_F)
  | 0, _, _, _, _ => none
  | n + 1, v1, v2, f, g =>
    if q_sw 160 ≤ q_sw v2 then
      p_Reader_readExpression_91 kk   f g
    else
      (p_Reader_here  f g).bind fun x2 =>
      if q_sw x2.1 = q_sw 43 then
        p_Reader_readExpression_37 kk (p_Reader_readExpression_12 kk  n) (v1) (v2) x2.2.1 x2.2.2
      else
        (p_Reader_here  x2.2.1 x2.2.2).bind fun x5 =>
        if q_sw x5.1 = q_sw 45 then
          p_Reader_readExpression_37 kk (p_Reader_readExpression_12 kk  n) (v1) (v2) x5.2.1 x5.2.2
        else
          p_Reader_readExpression_91 kk   x5.2.1 x5.2.2
def p_Reader_readExpression (kk : Int → q_F → q_F → Option (Int × q_F × q_F)) (v1 : Int) (f g : q_F) : Option (Int × q_F × q_F) :=
  (kk (v1) f g).bind fun x1 =>
  if q_sw x1.1 = 0 then
    some (0, x1.2.1, x1.2.2)
  else
    p_Reader_readExpression_12 kk  1000 (v1) (0) x1.2.1 x1.2.2
theorem e_Reader_readExpression_91 (t : q_V) (ok : ma_ok (q_G t)) {FB LB : Nat} (kk : Int → q_F → q_F → Option (Int × q_F × q_F)) (hk : ∀ (v1 : Int) (f g : q_F) {y : Int × q_F × q_F} {Q : Option Value → ma_H → Prop}, kk v1 f g = some y → Q (some (ma_i y.1)) (q_h y.2.1 y.2.2) → ma_Met (q_G t) false FB LB 0 0 m_Reader_readTerm [q_a t (54), ma_i (v1)] (q_h f g) Q) {Q : Option Value → ma_H → Prop} {y : Int × q_F × q_F} (hQ : Q (some (ma_i y.1)) (q_h y.2.1 y.2.2))    (f g : q_F) (hp : p_Reader_readExpression_91 kk   f g = some y) : ma_Ev (q_G t) (FB + 40) (LB + 400) 0 0 m_Reader_readExpression 91 [] [] (q_h f g) (ma_zr (q_G t) false Q) := by
  unfold p_Reader_readExpression_91 at hp
  refine ev_iconst (pc := 91) d_Reader_readExpression_91 ?_
  cases Option.some.inj hp
  exact et_zret (pc := 92) d_Reader_readExpression_92 rfl (by decide) hQ
theorem e_Reader_readExpression_52 (t : q_V) (ok : ma_ok (q_G t)) {FB LB : Nat} (kk : Int → q_F → q_F → Option (Int × q_F × q_F)) (hk : ∀ (v1 : Int) (f g : q_F) {y : Int × q_F × q_F} {Q : Option Value → ma_H → Prop}, kk v1 f g = some y → Q (some (ma_i y.1)) (q_h y.2.1 y.2.2) → ma_Met (q_G t) false FB LB 0 0 m_Reader_readTerm [q_a t (54), ma_i (v1)] (q_h f g) Q) {Q : Option Value → ma_H → Prop} {y : Int × q_F × q_F} (hQ : Q (some (ma_i y.1)) (q_h y.2.1 y.2.2)) (c12 : Int → Int → q_F → q_F → Option (Int × q_F × q_F)) (hc12 : ∀ (v1 : Int) (v2 : Int) (f g : q_F), c12 v1 v2 f g = some y → ma_Ev (q_G t) (FB + 40) (LB + 400) 0 0 m_Reader_readExpression 12 [(0, q_a t (54)), (1, ma_i (v1)), (2, ma_i (v2))] [] (q_h f g) (ma_zr (q_G t) false Q)) (v1 : Int) (v2 : Int) (s0 : Int) (f g : q_F) (hp : p_Reader_readExpression_52 kk c12 v1 v2 s0 f g = some y) : ma_Ev (q_G t) (FB + 40) (LB + 400) 0 0 m_Reader_readExpression 52 [(0, q_a t (54)), (1, ma_i (v1)), (2, ma_i (v2))] [ma_i (s0)] (q_h f g) (ma_zr (q_G t) false Q) := by
  unfold p_Reader_readExpression_52 at hp
  refine ev_istore_n (pc := 52) d_Reader_readExpression_52 rfl (by decide) [(3, _), (0, _), (1, _), (2, _)] rfl ?_
  refine et_aload_n (pc := 53) d_Reader_readExpression_53 rfl rfl ?_
  refine ev_dup (pc := 54) d_Reader_readExpression_54 rfl ?_
  refine et_geti (pc := 55) ok (fl_Reader_9 t) rfl d_Reader_readExpression_55 s_54 ?_
  refine ev_iconst (pc := 58) d_Reader_readExpression_58 ?_
  refine ev_iadd (pc := 59) d_Reader_readExpression_59 ?_
  refine et_puti (pc := 60) ok (fl_Reader_9 t) d_Reader_readExpression_60 s_54 ?_
  replace hp := q_let_of hp
  obtain ⟨f1, hz, hp⟩ := hp
  rw [← hz]
  clear hz
  refine et_aload_n (pc := 63) d_Reader_readExpression_63 rfl rfl ?_
  refine ev_iload_n (pc := 64) d_Reader_readExpression_64 rfl rfl ?_
  replace hp := q_bind hp
  obtain ⟨x2, hm3, hp⟩ := hp
  refine et_callVi (pc := 65) (f1 := x2.2.1) (g1 := x2.2.2) ok [ma_i (v1)] [] (cf_Reader_164 t) d_Reader_readExpression_65 s_54 k_8 rfl (hk (v1) f1 g hm3 ⟨rfl, rfl⟩) rfl rfl (by omega) (by show 8 + (3 + 11) + _ ≤ _; omega) (q_ble rfl) ?_
  refine et_if_ne (pc := 68) (tgt := 73) d_Reader_readExpression_68 (by decide) (fun hj4 => ?_) (fun hj4 => ?_)
  · rw [if_neg hj4] at hp
    refine et_aload_n (pc := 73) d_Reader_readExpression_73 rfl rfl ?_
    refine et_getr (pc := 74) ok (fl_Reader_22 t) rfl d_Reader_readExpression_74 s_54 r_54_1 ?_
    refine et_getr (pc := 77) ok (fl_Reader_85 t) rfl d_Reader_readExpression_77 s_3 r_3_5 ?_
    refine ev_iload_n (pc := 80) d_Reader_readExpression_80 rfl rfl ?_
    refine ev_iconst (pc := 81) d_Reader_readExpression_81 ?_
    replace hp := q_bind hp
    obtain ⟨x5, hm6, hp⟩ := hp
    refine et_callVv (pc := 82) (f1 := x5.1) (g1 := x5.2) ok [ma_i (s0), ma_i (0)] [] (cf_Reader_130 t) d_Reader_readExpression_82 s_11 k_6 rfl (t_Rows_add_11 t ok (s0) (0) x2.2.1 x2.2.2 hm6 ⟨rfl, rfl⟩) rfl rfl (by omega) (by show 8 + (3 + 11) + _ ≤ _; omega) (q_ble rfl) ?_
    refine ev_iinc (pc := 85) d_Reader_readExpression_85 (by decide) rfl [(2, _), (3, _), (0, _), (1, _)] rfl ?_
    replace hp := q_let_of hp
    obtain ⟨z7, hz, hp⟩ := hp
    rw [← hz]
    clear hz
    refine ev_goto (pc := 88) (tgt := 12) d_Reader_readExpression_88 (by decide) ?_
    refine ev_sub (ls2 := [(0, q_a t (54)), (1, ma_i (v1)), (2, ma_i (z7))]) [2, 3, 0] rfl ?_
    exact hc12 (v1) (z7) x5.1 x5.2 hp
  · rw [if_pos hj4] at hp
    refine ev_iconst (pc := 71) d_Reader_readExpression_71 ?_
    cases Option.some.inj hp
    exact et_zret (pc := 72) d_Reader_readExpression_72 rfl (by decide) hQ
theorem e_Reader_readExpression_37 (t : q_V) (ok : ma_ok (q_G t)) {FB LB : Nat} (kk : Int → q_F → q_F → Option (Int × q_F × q_F)) (hk : ∀ (v1 : Int) (f g : q_F) {y : Int × q_F × q_F} {Q : Option Value → ma_H → Prop}, kk v1 f g = some y → Q (some (ma_i y.1)) (q_h y.2.1 y.2.2) → ma_Met (q_G t) false FB LB 0 0 m_Reader_readTerm [q_a t (54), ma_i (v1)] (q_h f g) Q) {Q : Option Value → ma_H → Prop} {y : Int × q_F × q_F} (hQ : Q (some (ma_i y.1)) (q_h y.2.1 y.2.2)) (c12 : Int → Int → q_F → q_F → Option (Int × q_F × q_F)) (hc12 : ∀ (v1 : Int) (v2 : Int) (f g : q_F), c12 v1 v2 f g = some y → ma_Ev (q_G t) (FB + 40) (LB + 400) 0 0 m_Reader_readExpression 12 [(0, q_a t (54)), (1, ma_i (v1)), (2, ma_i (v2))] [] (q_h f g) (ma_zr (q_G t) false Q)) (v1 : Int) (v2 : Int) (f g : q_F) (hp : p_Reader_readExpression_37 kk c12 v1 v2 f g = some y) : ma_Ev (q_G t) (FB + 40) (LB + 400) 0 0 m_Reader_readExpression 37 [(0, q_a t (54)), (1, ma_i (v1)), (2, ma_i (v2))] [] (q_h f g) (ma_zr (q_G t) false Q) := by
  unfold p_Reader_readExpression_37 at hp
  refine et_aload_n (pc := 37) d_Reader_readExpression_37 rfl rfl ?_
  replace hp := q_bind hp
  obtain ⟨x1, hm2, hp⟩ := hp
  refine et_callVi (pc := 38) (f1 := x1.2.1) (g1 := x1.2.2) ok [] [] (cf_Reader_116 t) d_Reader_readExpression_38 s_54 k_8 rfl (t_Reader_here t ok  f g hm2 ⟨rfl, rfl⟩) rfl rfl (by omega) (by show 8 + (1 + 11) + _ ≤ _; omega) (q_ble rfl) ?_
  refine ev_bipush (pc := 41) d_Reader_readExpression_41 rfl ?_
  refine et_icmp_ne (pc := 43) (tgt := 50) d_Reader_readExpression_43 (by decide) (fun hj3 => ?_) (fun hj3 => ?_)
  · rw [if_neg hj3] at hp
    refine ev_bipush (pc := 50) d_Reader_readExpression_50 rfl ?_
    refine ev_sub (ls2 := [(0, q_a t (54)), (1, ma_i (v1)), (2, ma_i (v2))]) [0, 1, 2] rfl ?_
    exact e_Reader_readExpression_52 t ok kk hk hQ c12 hc12 (v1) (v2) (6) x1.2.1 x1.2.2 hp
  · rw [if_pos hj3] at hp
    refine ev_iconst (pc := 46) d_Reader_readExpression_46 ?_
    refine ev_goto (pc := 47) (tgt := 52) d_Reader_readExpression_47 (by decide) ?_
    refine ev_sub (ls2 := [(0, q_a t (54)), (1, ma_i (v1)), (2, ma_i (v2))]) [0, 1, 2] rfl ?_
    exact e_Reader_readExpression_52 t ok kk hk hQ c12 hc12 (v1) (v2) (5) x1.2.1 x1.2.2 hp
theorem e_Reader_readExpression_12 (t : q_V) (ok : ma_ok (q_G t)) {FB LB : Nat} (kk : Int → q_F → q_F → Option (Int × q_F × q_F)) (hk : ∀ (v1 : Int) (f g : q_F) {y : Int × q_F × q_F} {Q : Option Value → ma_H → Prop}, kk v1 f g = some y → Q (some (ma_i y.1)) (q_h y.2.1 y.2.2) → ma_Met (q_G t) false FB LB 0 0 m_Reader_readTerm [q_a t (54), ma_i (v1)] (q_h f g) Q) {Q : Option Value → ma_H → Prop} {y : Int × q_F × q_F} (hQ : Q (some (ma_i y.1)) (q_h y.2.1 y.2.2))   : ∀ (n : Nat) (v1 : Int) (v2 : Int) (f g : q_F), p_Reader_readExpression_12 kk  n v1 v2 f g = some y → ma_Ev (q_G t) (FB + 40) (LB + 400) 0 0 m_Reader_readExpression 12 [(0, q_a t (54)), (1, ma_i (v1)), (2, ma_i (v2))] [] (q_h f g) (ma_zr (q_G t) false Q) := by
  intro n
  induction n with
  | zero =>
    intro v1 v2 f g hp
    rw [p_Reader_readExpression_12] at hp
    cases hp
  | succ n ih =>
    intro v1 v2 f g hp
    rw [p_Reader_readExpression_12] at hp
    refine ev_iload_n (pc := 12) d_Reader_readExpression_12 rfl rfl ?_
    refine ev_sipush (pc := 13) d_Reader_readExpression_13 rfl ?_
    refine et_icmp_ge (pc := 16) (tgt := 91) d_Reader_readExpression_16 (by decide) (fun hj1 => ?_) (fun hj1 => ?_)
    · rw [if_pos hj1] at hp
      refine ev_sub (ls2 := []) [] rfl ?_
      exact e_Reader_readExpression_91 t ok kk hk hQ    f g hp
    · rw [if_neg hj1] at hp
      refine et_aload_n (pc := 19) d_Reader_readExpression_19 rfl rfl ?_
      replace hp := q_bind hp
      obtain ⟨x2, hm3, hp⟩ := hp
      refine et_callVi (pc := 20) (f1 := x2.2.1) (g1 := x2.2.2) ok [] [] (cf_Reader_116 t) d_Reader_readExpression_20 s_54 k_8 rfl (t_Reader_here t ok  f g hm3 ⟨rfl, rfl⟩) rfl rfl (by omega) (by show 8 + (1 + 11) + _ ≤ _; omega) (q_ble rfl) ?_
      refine ev_bipush (pc := 23) d_Reader_readExpression_23 rfl ?_
      refine et_icmp_eq (pc := 25) (tgt := 37) d_Reader_readExpression_25 (by decide) (fun hj4 => ?_) (fun hj4 => ?_)
      · rw [if_pos hj4] at hp
        refine ev_sub (ls2 := [(0, q_a t (54)), (1, ma_i (v1)), (2, ma_i (v2))]) [0, 1, 2] rfl ?_
        exact e_Reader_readExpression_37 t ok kk hk hQ (p_Reader_readExpression_12 kk  n) ih (v1) (v2) x2.2.1 x2.2.2 hp
      · rw [if_neg hj4] at hp
        refine et_aload_n (pc := 28) d_Reader_readExpression_28 rfl rfl ?_
        replace hp := q_bind hp
        obtain ⟨x5, hm6, hp⟩ := hp
        refine et_callVi (pc := 29) (f1 := x5.2.1) (g1 := x5.2.2) ok [] [] (cf_Reader_116 t) d_Reader_readExpression_29 s_54 k_8 rfl (t_Reader_here t ok  x2.2.1 x2.2.2 hm6 ⟨rfl, rfl⟩) rfl rfl (by omega) (by show 8 + (1 + 11) + _ ≤ _; omega) (q_ble rfl) ?_
        refine ev_bipush (pc := 32) d_Reader_readExpression_32 rfl ?_
        refine et_icmp_ne (pc := 34) (tgt := 91) d_Reader_readExpression_34 (by decide) (fun hj7 => ?_) (fun hj7 => ?_)
        · rw [if_neg hj7] at hp
          refine ev_sub (ls2 := []) [] rfl ?_
          exact e_Reader_readExpression_91 t ok kk hk hQ    x5.2.1 x5.2.2 hp
        · rw [if_pos hj7] at hp
          refine ev_sub (ls2 := [(0, q_a t (54)), (1, ma_i (v1)), (2, ma_i (v2))]) [0, 1, 2] rfl ?_
          exact e_Reader_readExpression_37 t ok kk hk hQ (p_Reader_readExpression_12 kk  n) ih (v1) (v2) x5.2.1 x5.2.2 hp
theorem t_Reader_readExpression (t : q_V) (ok : ma_ok (q_G t)) {FB LB : Nat} (kk : Int → q_F → q_F → Option (Int × q_F × q_F)) (hk : ∀ (v1 : Int) (f g : q_F) {y : Int × q_F × q_F} {Q : Option Value → ma_H → Prop}, kk v1 f g = some y → Q (some (ma_i y.1)) (q_h y.2.1 y.2.2) → ma_Met (q_G t) false FB LB 0 0 m_Reader_readTerm [q_a t (54), ma_i (v1)] (q_h f g) Q) {Q : Option Value → ma_H → Prop} {y : Int × q_F × q_F} (v1 : Int) (f g : q_F) (hp : p_Reader_readExpression kk v1 f g = some y) (hQ : Q (some (ma_i y.1)) (q_h y.2.1 y.2.2)) : ma_Met (q_G t) false (FB + 40) (LB + 400) 0 0 m_Reader_readExpression [q_a t (54), ma_i (v1)] (q_h f g) Q := by
  refine ma_met (by decide +kernel) (q_ble rfl) rfl ?_
  change ma_Ev (q_G t) (FB + 40) (LB + 400) 0 0 m_Reader_readExpression 0 [(0, q_a t (54)), (1, ma_i (v1))] [] (q_h f g) (ma_zr (q_G t) false Q)
  unfold p_Reader_readExpression at hp
  refine et_aload_n (pc := 0) d_Reader_readExpression_0 rfl rfl ?_
  refine ev_iload_n (pc := 1) d_Reader_readExpression_1 rfl rfl ?_
  replace hp := q_bind hp
  obtain ⟨x1, hm2, hp⟩ := hp
  refine et_callVi (pc := 2) (f1 := x1.2.1) (g1 := x1.2.2) ok [ma_i (v1)] [] (cf_Reader_164 t) d_Reader_readExpression_2 s_54 k_8 rfl (hk (v1) f g hm2 ⟨rfl, rfl⟩) rfl rfl (by omega) (by show 8 + (3 + 11) + _ ≤ _; omega) (q_ble rfl) ?_
  refine et_if_ne (pc := 5) (tgt := 10) d_Reader_readExpression_5 (by decide) (fun hj3 => ?_) (fun hj3 => ?_)
  · rw [if_neg hj3] at hp
    refine ev_iconst (pc := 10) d_Reader_readExpression_10 ?_
    refine ev_istore_n (pc := 11) d_Reader_readExpression_11 rfl (by decide) [(2, _), (0, _), (1, _)] rfl ?_
    refine ev_sub (ls2 := [(0, q_a t (54)), (1, ma_i (v1)), (2, ma_i (0))]) [1, 2, 0] rfl ?_
    exact e_Reader_readExpression_12 t ok kk hk hQ   1000 (v1) (0) x1.2.1 x1.2.2 hp
  · rw [if_pos hj3] at hp
    refine ev_iconst (pc := 8) d_Reader_readExpression_8 ?_
    cases Option.some.inj hp
    exact et_zret (pc := 9) d_Reader_readExpression_9 rfl (by decide) hQ
theorem d_Reader_readBracket_0 : decode (m_c m_Reader_readBracket) 0 = .ok (.aload_n 0, 1) := by decide +kernel
theorem d_Reader_readBracket_1 : decode (m_c m_Reader_readBracket) 1 = .ok (.invokevirtual 116, 3) := by decide +kernel
theorem d_Reader_readBracket_4 : decode (m_c m_Reader_readBracket) 4 = .ok (.bipush 91, 2) := by decide +kernel
theorem d_Reader_readBracket_6 : decode (m_c m_Reader_readBracket) 6 = .ok (.if_icmp .ne 7, 3) := by decide +kernel
theorem d_Reader_readBracket_9 : decode (m_c m_Reader_readBracket) 9 = .ok (.iconst 1, 1) := by decide +kernel
theorem d_Reader_readBracket_10 : decode (m_c m_Reader_readBracket) 10 = .ok (.goto 4, 3) := by decide +kernel
theorem d_Reader_readBracket_13 : decode (m_c m_Reader_readBracket) 13 = .ok (.iconst 0, 1) := by decide +kernel
theorem d_Reader_readBracket_14 : decode (m_c m_Reader_readBracket) 14 = .ok (.istore_n 2, 1) := by decide +kernel
theorem d_Reader_readBracket_15 : decode (m_c m_Reader_readBracket) 15 = .ok (.aload_n 0, 1) := by decide +kernel
theorem d_Reader_readBracket_16 : decode (m_c m_Reader_readBracket) 16 = .ok (.dup, 1) := by decide +kernel
theorem d_Reader_readBracket_17 : decode (m_c m_Reader_readBracket) 17 = .ok (.getfield 9, 3) := by decide +kernel
theorem d_Reader_readBracket_20 : decode (m_c m_Reader_readBracket) 20 = .ok (.iconst 1, 1) := by decide +kernel
theorem d_Reader_readBracket_21 : decode (m_c m_Reader_readBracket) 21 = .ok (.iadd, 1) := by decide +kernel
theorem d_Reader_readBracket_22 : decode (m_c m_Reader_readBracket) 22 = .ok (.putfield 9, 3) := by decide +kernel
theorem d_Reader_readBracket_25 : decode (m_c m_Reader_readBracket) 25 = .ok (.aload_n 0, 1) := by decide +kernel
theorem d_Reader_readBracket_26 : decode (m_c m_Reader_readBracket) 26 = .ok (.iload_n 1, 1) := by decide +kernel
theorem d_Reader_readBracket_27 : decode (m_c m_Reader_readBracket) 27 = .ok (.invokevirtual 97, 3) := by decide +kernel
theorem d_Reader_readBracket_30 : decode (m_c m_Reader_readBracket) 30 = .ok (.ifCond .ne 5, 3) := by decide +kernel
theorem d_Reader_readBracket_33 : decode (m_c m_Reader_readBracket) 33 = .ok (.iconst 0, 1) := by decide +kernel
theorem d_Reader_readBracket_34 : decode (m_c m_Reader_readBracket) 34 = .ok (.ireturn, 1) := by decide +kernel
theorem d_Reader_readBracket_35 : decode (m_c m_Reader_readBracket) 35 = .ok (.iload_n 2, 1) := by decide +kernel
theorem d_Reader_readBracket_36 : decode (m_c m_Reader_readBracket) 36 = .ok (.ifCond .ne 10, 3) := by decide +kernel
theorem d_Reader_readBracket_39 : decode (m_c m_Reader_readBracket) 39 = .ok (.aload_n 0, 1) := by decide +kernel
theorem d_Reader_readBracket_40 : decode (m_c m_Reader_readBracket) 40 = .ok (.bipush 41, 2) := by decide +kernel
theorem d_Reader_readBracket_42 : decode (m_c m_Reader_readBracket) 42 = .ok (.invokevirtual 36, 3) := by decide +kernel
theorem d_Reader_readBracket_45 : decode (m_c m_Reader_readBracket) 45 = .ok (.ireturn, 1) := by decide +kernel
theorem d_Reader_readBracket_46 : decode (m_c m_Reader_readBracket) 46 = .ok (.aload_n 0, 1) := by decide +kernel
theorem d_Reader_readBracket_47 : decode (m_c m_Reader_readBracket) 47 = .ok (.bipush 44, 2) := by decide +kernel
theorem d_Reader_readBracket_49 : decode (m_c m_Reader_readBracket) 49 = .ok (.invokevirtual 36, 3) := by decide +kernel
theorem d_Reader_readBracket_52 : decode (m_c m_Reader_readBracket) 52 = .ok (.ifCond .eq 22, 3) := by decide +kernel
theorem d_Reader_readBracket_55 : decode (m_c m_Reader_readBracket) 55 = .ok (.aload_n 0, 1) := by decide +kernel
theorem d_Reader_readBracket_56 : decode (m_c m_Reader_readBracket) 56 = .ok (.invokevirtual 64, 3) := by decide +kernel
theorem d_Reader_readBracket_59 : decode (m_c m_Reader_readBracket) 59 = .ok (.ifCond .eq 15, 3) := by decide +kernel
theorem d_Reader_readBracket_62 : decode (m_c m_Reader_readBracket) 62 = .ok (.aload_n 0, 1) := by decide +kernel
theorem d_Reader_readBracket_63 : decode (m_c m_Reader_readBracket) 63 = .ok (.getfield 15, 3) := by decide +kernel
theorem d_Reader_readBracket_66 : decode (m_c m_Reader_readBracket) 66 = .ok (.bipush 64, 2) := by decide +kernel
theorem d_Reader_readBracket_68 : decode (m_c m_Reader_readBracket) 68 = .ok (.invokestatic 126, 3) := by decide +kernel
theorem d_Reader_readBracket_71 : decode (m_c m_Reader_readBracket) 71 = .ok (.ifCond .ne 5, 3) := by decide +kernel
theorem d_Reader_readBracket_74 : decode (m_c m_Reader_readBracket) 74 = .ok (.iconst 0, 1) := by decide +kernel
theorem d_Reader_readBracket_75 : decode (m_c m_Reader_readBracket) 75 = .ok (.ireturn, 1) := by decide +kernel
theorem d_Reader_readBracket_76 : decode (m_c m_Reader_readBracket) 76 = .ok (.aload_n 0, 1) := by decide +kernel
theorem d_Reader_readBracket_77 : decode (m_c m_Reader_readBracket) 77 = .ok (.getfield 22, 3) := by decide +kernel
theorem d_Reader_readBracket_80 : decode (m_c m_Reader_readBracket) 80 = .ok (.getfield 85, 3) := by decide +kernel
theorem d_Reader_readBracket_83 : decode (m_c m_Reader_readBracket) 83 = .ok (.bipush 7, 2) := by decide +kernel
theorem d_Reader_readBracket_85 : decode (m_c m_Reader_readBracket) 85 = .ok (.aload_n 0, 1) := by decide +kernel
theorem d_Reader_readBracket_86 : decode (m_c m_Reader_readBracket) 86 = .ok (.getfield 15, 3) := by decide +kernel
theorem d_Reader_readBracket_89 : decode (m_c m_Reader_readBracket) 89 = .ok (.invokevirtual 130, 3) := by decide +kernel
theorem d_Reader_readBracket_92 : decode (m_c m_Reader_readBracket) 92 = .ok (.aload_n 0, 1) := by decide +kernel
theorem d_Reader_readBracket_93 : decode (m_c m_Reader_readBracket) 93 = .ok (.bipush 93, 2) := by decide +kernel
theorem d_Reader_readBracket_95 : decode (m_c m_Reader_readBracket) 95 = .ok (.invokevirtual 36, 3) := by decide +kernel
theorem d_Reader_readBracket_98 : decode (m_c m_Reader_readBracket) 98 = .ok (.ireturn, 1) := by decide +kernel
def p_Reader_readBracket_74 (kk : Int → q_F → q_F → Option (Int × q_F × q_F))   (f g : q_F) : Option (Int × q_F × q_F) :=
  some (0, f, g)
def p_Reader_readBracket_14 (kk : Int → q_F → q_F → Option (Int × q_F × q_F))  (v1 : Int) (s0 : Int) (f g : q_F) : Option (Int × q_F × q_F) :=
  q_let (ma_up f 54 2 ((f 54 2) + 1)) fun f1 =>
  (kk (v1) f1 g).bind fun x2 =>
  if q_sw x2.1 = 0 then
    some (0, x2.2.1, x2.2.2)
  else
    if q_sw s0 = 0 then
      (p_Reader_skip (41) x2.2.1 x2.2.2).bind fun x20 =>
      if x20.1 = 0 ∨ x20.1 = 1 then
        some (x20.1, x20.2.1, x20.2.2)
      else none
    else
      (p_Reader_skip (44) x2.2.1 x2.2.2).bind fun x6 =>
      if q_sw x6.1 = 0 then
        p_Reader_readBracket_74 kk   x6.2.1 x6.2.2
      else
        (p_Reader_readNumber  x6.2.1 x6.2.2).bind fun x9 =>
        if q_sw x9.1 = 0 then
          p_Reader_readBracket_74 kk   x9.2.1 x9.2.2
        else
          (p_Desk_isAlignment (x9.2.1 54 3) (64) x9.2.1 x9.2.2).bind fun x12 =>
          if q_sw x12.1 = 0 then
            p_Reader_readBracket_74 kk   x12.2.1 x12.2.2
          else
            (p_Rows_add_11 (7) (x12.2.1 54 3) x12.2.1 x12.2.2).bind fun x15 =>
            (p_Reader_skip (93) x15.1 x15.2).bind fun x17 =>
            if x17.1 = 0 ∨ x17.1 = 1 then
              some (x17.1, x17.2.1, x17.2.2)
            else none
def p_Reader_readBracket (kk : Int → q_F → q_F → Option (Int × q_F × q_F)) (v1 : Int) (f g : q_F) : Option (Int × q_F × q_F) :=
  (p_Reader_here  f g).bind fun x1 =>
  if q_sw x1.1 = q_sw 91 then
    p_Reader_readBracket_14 kk  (v1) (1) x1.2.1 x1.2.2
  else
    p_Reader_readBracket_14 kk  (v1) (0) x1.2.1 x1.2.2
theorem e_Reader_readBracket_74 (t : q_V) (ok : ma_ok (q_G t)) {FB LB : Nat} (kk : Int → q_F → q_F → Option (Int × q_F × q_F)) (hk : ∀ (v1 : Int) (f g : q_F) {y : Int × q_F × q_F} {Q : Option Value → ma_H → Prop}, kk v1 f g = some y → Q (some (ma_i y.1)) (q_h y.2.1 y.2.2) → ma_Met (q_G t) false FB LB 0 0 m_Reader_readExpression [q_a t (54), ma_i (v1)] (q_h f g) Q) {Q : Option Value → ma_H → Prop} {y : Int × q_F × q_F} (hQ : Q (some (ma_i y.1)) (q_h y.2.1 y.2.2))    (f g : q_F) (hp : p_Reader_readBracket_74 kk   f g = some y) : ma_Ev (q_G t) (FB + 40) (LB + 400) 0 0 m_Reader_readBracket 74 [] [] (q_h f g) (ma_zr (q_G t) false Q) := by
  unfold p_Reader_readBracket_74 at hp
  refine ev_iconst (pc := 74) d_Reader_readBracket_74 ?_
  cases Option.some.inj hp
  exact et_zret (pc := 75) d_Reader_readBracket_75 rfl (by decide) hQ
theorem e_Reader_readBracket_14 (t : q_V) (ok : ma_ok (q_G t)) {FB LB : Nat} (kk : Int → q_F → q_F → Option (Int × q_F × q_F)) (hk : ∀ (v1 : Int) (f g : q_F) {y : Int × q_F × q_F} {Q : Option Value → ma_H → Prop}, kk v1 f g = some y → Q (some (ma_i y.1)) (q_h y.2.1 y.2.2) → ma_Met (q_G t) false FB LB 0 0 m_Reader_readExpression [q_a t (54), ma_i (v1)] (q_h f g) Q) {Q : Option Value → ma_H → Prop} {y : Int × q_F × q_F} (hQ : Q (some (ma_i y.1)) (q_h y.2.1 y.2.2))   (v1 : Int) (s0 : Int) (f g : q_F) (hp : p_Reader_readBracket_14 kk  v1 s0 f g = some y) : ma_Ev (q_G t) (FB + 40) (LB + 400) 0 0 m_Reader_readBracket 14 [(0, q_a t (54)), (1, ma_i (v1))] [ma_i (s0)] (q_h f g) (ma_zr (q_G t) false Q) := by
  unfold p_Reader_readBracket_14 at hp
  refine ev_istore_n (pc := 14) d_Reader_readBracket_14 rfl (by decide) [(2, _), (0, _), (1, _)] rfl ?_
  refine et_aload_n (pc := 15) d_Reader_readBracket_15 rfl rfl ?_
  refine ev_dup (pc := 16) d_Reader_readBracket_16 rfl ?_
  refine et_geti (pc := 17) ok (fl_Reader_9 t) rfl d_Reader_readBracket_17 s_54 ?_
  refine ev_iconst (pc := 20) d_Reader_readBracket_20 ?_
  refine ev_iadd (pc := 21) d_Reader_readBracket_21 ?_
  refine et_puti (pc := 22) ok (fl_Reader_9 t) d_Reader_readBracket_22 s_54 ?_
  replace hp := q_let_of hp
  obtain ⟨f1, hz, hp⟩ := hp
  rw [← hz]
  clear hz
  refine et_aload_n (pc := 25) d_Reader_readBracket_25 rfl rfl ?_
  refine ev_iload_n (pc := 26) d_Reader_readBracket_26 rfl rfl ?_
  replace hp := q_bind hp
  obtain ⟨x2, hm3, hp⟩ := hp
  refine et_callVi (pc := 27) (f1 := x2.2.1) (g1 := x2.2.2) ok [ma_i (v1)] [] (cf_Reader_97 t) d_Reader_readBracket_27 s_54 k_8 rfl (hk (v1) f1 g hm3 ⟨rfl, rfl⟩) rfl rfl (by omega) (by show 8 + (4 + 11) + _ ≤ _; omega) (q_ble rfl) ?_
  refine et_if_ne (pc := 30) (tgt := 35) d_Reader_readBracket_30 (by decide) (fun hj4 => ?_) (fun hj4 => ?_)
  · rw [if_neg hj4] at hp
    refine ev_iload_n (pc := 35) d_Reader_readBracket_35 rfl rfl ?_
    refine et_if_ne (pc := 36) (tgt := 46) d_Reader_readBracket_36 (by decide) (fun hj5 => ?_) (fun hj5 => ?_)
    · rw [if_neg hj5] at hp
      refine et_aload_n (pc := 46) d_Reader_readBracket_46 rfl rfl ?_
      refine ev_bipush (pc := 47) d_Reader_readBracket_47 rfl ?_
      replace hp := q_bind hp
      obtain ⟨x6, hm7, hp⟩ := hp
      refine et_callVi (pc := 49) (f1 := x6.2.1) (g1 := x6.2.2) ok [ma_i (44)] [] (cf_Reader_36 t) d_Reader_readBracket_49 s_54 k_8 rfl (t_Reader_skip t ok (44) x2.2.1 x2.2.2 hm7 ⟨rfl, rfl⟩) rfl rfl (by omega) (by show 8 + (2 + 11) + _ ≤ _; omega) (q_ble rfl) ?_
      refine et_if_eq (pc := 52) (tgt := 74) d_Reader_readBracket_52 (by decide) (fun hj8 => ?_) (fun hj8 => ?_)
      · rw [if_pos hj8] at hp
        refine ev_sub (ls2 := []) [] rfl ?_
        exact e_Reader_readBracket_74 t ok kk hk hQ    x6.2.1 x6.2.2 hp
      · rw [if_neg hj8] at hp
        refine et_aload_n (pc := 55) d_Reader_readBracket_55 rfl rfl ?_
        replace hp := q_bind hp
        obtain ⟨x9, hm10, hp⟩ := hp
        refine et_callVi (pc := 56) (f1 := x9.2.1) (g1 := x9.2.2) ok [] [] (cf_Reader_64 t) d_Reader_readBracket_56 s_54 k_8 rfl (t_Reader_readNumber t ok  x6.2.1 x6.2.2 hm10 ⟨rfl, rfl⟩) rfl rfl (by omega) (by show 8 + (2 + 11) + _ ≤ _; omega) (q_ble rfl) ?_
        refine et_if_eq (pc := 59) (tgt := 74) d_Reader_readBracket_59 (by decide) (fun hj11 => ?_) (fun hj11 => ?_)
        · rw [if_pos hj11] at hp
          refine ev_sub (ls2 := []) [] rfl ?_
          exact e_Reader_readBracket_74 t ok kk hk hQ    x9.2.1 x9.2.2 hp
        · rw [if_neg hj11] at hp
          refine et_aload_n (pc := 62) d_Reader_readBracket_62 rfl rfl ?_
          refine et_geti (pc := 63) ok (fl_Reader_15 t) rfl d_Reader_readBracket_63 s_54 ?_
          refine ev_bipush (pc := 66) d_Reader_readBracket_66 rfl ?_
          replace hp := q_bind hp
          obtain ⟨x12, hm13, hp⟩ := hp
          refine et_callSi (pc := 68) (f1 := x12.2.1) (g1 := x12.2.2) ok [ma_i (x9.2.1 54 3), ma_i (64)] [] (cf_Reader_126 t) d_Reader_readBracket_68 (t_Desk_isAlignment t ok (x9.2.1 54 3) (64) x9.2.1 x9.2.2 hm13 ⟨rfl, rfl⟩) rfl rfl (by omega) (by show 8 + (2 + 11) + _ ≤ _; omega) (q_ble rfl) ?_
          refine et_if_ne (pc := 71) (tgt := 76) d_Reader_readBracket_71 (by decide) (fun hj14 => ?_) (fun hj14 => ?_)
          · rw [if_neg hj14] at hp
            refine et_aload_n (pc := 76) d_Reader_readBracket_76 rfl rfl ?_
            refine et_getr (pc := 77) ok (fl_Reader_22 t) rfl d_Reader_readBracket_77 s_54 r_54_1 ?_
            refine et_getr (pc := 80) ok (fl_Reader_85 t) rfl d_Reader_readBracket_80 s_3 r_3_5 ?_
            refine ev_bipush (pc := 83) d_Reader_readBracket_83 rfl ?_
            refine et_aload_n (pc := 85) d_Reader_readBracket_85 rfl rfl ?_
            refine et_geti (pc := 86) ok (fl_Reader_15 t) rfl d_Reader_readBracket_86 s_54 ?_
            replace hp := q_bind hp
            obtain ⟨x15, hm16, hp⟩ := hp
            refine et_callVv (pc := 89) (f1 := x15.1) (g1 := x15.2) ok [ma_i (7), ma_i (x12.2.1 54 3)] [] (cf_Reader_130 t) d_Reader_readBracket_89 s_11 k_6 rfl (t_Rows_add_11 t ok (7) (x12.2.1 54 3) x12.2.1 x12.2.2 hm16 ⟨rfl, rfl⟩) rfl rfl (by omega) (by show 8 + (3 + 11) + _ ≤ _; omega) (q_ble rfl) ?_
            refine et_aload_n (pc := 92) d_Reader_readBracket_92 rfl rfl ?_
            refine ev_bipush (pc := 93) d_Reader_readBracket_93 rfl ?_
            replace hp := q_bind hp
            obtain ⟨x17, hm18, hp⟩ := hp
            refine et_callVi (pc := 95) (f1 := x17.2.1) (g1 := x17.2.2) ok [ma_i (93)] [] (cf_Reader_36 t) d_Reader_readBracket_95 s_54 k_8 rfl (t_Reader_skip t ok (93) x15.1 x15.2 hm18 ⟨rfl, rfl⟩) rfl rfl (by omega) (by show 8 + (2 + 11) + _ ≤ _; omega) (q_ble rfl) ?_
            replace hp := q_if hp
            obtain ⟨hb19, hp⟩ := hp
            cases Option.some.inj hp
            exact et_zret (pc := 98) d_Reader_readBracket_98 rfl hb19 hQ
          · rw [if_pos hj14] at hp
            refine ev_sub (ls2 := []) [] rfl ?_
            exact e_Reader_readBracket_74 t ok kk hk hQ    x12.2.1 x12.2.2 hp
    · rw [if_pos hj5] at hp
      refine et_aload_n (pc := 39) d_Reader_readBracket_39 rfl rfl ?_
      refine ev_bipush (pc := 40) d_Reader_readBracket_40 rfl ?_
      replace hp := q_bind hp
      obtain ⟨x20, hm21, hp⟩ := hp
      refine et_callVi (pc := 42) (f1 := x20.2.1) (g1 := x20.2.2) ok [ma_i (41)] [] (cf_Reader_36 t) d_Reader_readBracket_42 s_54 k_8 rfl (t_Reader_skip t ok (41) x2.2.1 x2.2.2 hm21 ⟨rfl, rfl⟩) rfl rfl (by omega) (by show 8 + (2 + 11) + _ ≤ _; omega) (q_ble rfl) ?_
      replace hp := q_if hp
      obtain ⟨hb22, hp⟩ := hp
      cases Option.some.inj hp
      exact et_zret (pc := 45) d_Reader_readBracket_45 rfl hb22 hQ
  · rw [if_pos hj4] at hp
    refine ev_iconst (pc := 33) d_Reader_readBracket_33 ?_
    cases Option.some.inj hp
    exact et_zret (pc := 34) d_Reader_readBracket_34 rfl (by decide) hQ
theorem t_Reader_readBracket (t : q_V) (ok : ma_ok (q_G t)) {FB LB : Nat} (kk : Int → q_F → q_F → Option (Int × q_F × q_F)) (hk : ∀ (v1 : Int) (f g : q_F) {y : Int × q_F × q_F} {Q : Option Value → ma_H → Prop}, kk v1 f g = some y → Q (some (ma_i y.1)) (q_h y.2.1 y.2.2) → ma_Met (q_G t) false FB LB 0 0 m_Reader_readExpression [q_a t (54), ma_i (v1)] (q_h f g) Q) {Q : Option Value → ma_H → Prop} {y : Int × q_F × q_F} (v1 : Int) (f g : q_F) (hp : p_Reader_readBracket kk v1 f g = some y) (hQ : Q (some (ma_i y.1)) (q_h y.2.1 y.2.2)) : ma_Met (q_G t) false (FB + 40) (LB + 400) 0 0 m_Reader_readBracket [q_a t (54), ma_i (v1)] (q_h f g) Q := by
  refine ma_met (by decide +kernel) (q_ble rfl) rfl ?_
  change ma_Ev (q_G t) (FB + 40) (LB + 400) 0 0 m_Reader_readBracket 0 [(0, q_a t (54)), (1, ma_i (v1))] [] (q_h f g) (ma_zr (q_G t) false Q)
  unfold p_Reader_readBracket at hp
  refine et_aload_n (pc := 0) d_Reader_readBracket_0 rfl rfl ?_
  replace hp := q_bind hp
  obtain ⟨x1, hm2, hp⟩ := hp
  refine et_callVi (pc := 1) (f1 := x1.2.1) (g1 := x1.2.2) ok [] [] (cf_Reader_116 t) d_Reader_readBracket_1 s_54 k_8 rfl (t_Reader_here t ok  f g hm2 ⟨rfl, rfl⟩) rfl rfl (by omega) (by show 8 + (1 + 11) + _ ≤ _; omega) (q_ble rfl) ?_
  refine ev_bipush (pc := 4) d_Reader_readBracket_4 rfl ?_
  refine et_icmp_ne (pc := 6) (tgt := 13) d_Reader_readBracket_6 (by decide) (fun hj3 => ?_) (fun hj3 => ?_)
  · rw [if_neg hj3] at hp
    refine ev_iconst (pc := 13) d_Reader_readBracket_13 ?_
    refine ev_sub (ls2 := [(0, q_a t (54)), (1, ma_i (v1))]) [0, 1] rfl ?_
    exact e_Reader_readBracket_14 t ok kk hk hQ   (v1) (0) x1.2.1 x1.2.2 hp
  · rw [if_pos hj3] at hp
    refine ev_iconst (pc := 9) d_Reader_readBracket_9 ?_
    refine ev_goto (pc := 10) (tgt := 14) d_Reader_readBracket_10 (by decide) ?_
    refine ev_sub (ls2 := [(0, q_a t (54)), (1, ma_i (v1))]) [0, 1] rfl ?_
    exact e_Reader_readBracket_14 t ok kk hk hQ   (v1) (1) x1.2.1 x1.2.2 hp
theorem d_Reader_readTerm_0 : decode (m_c m_Reader_readTerm) 0 = .ok (.aload_n 0, 1) := by decide +kernel
theorem d_Reader_readTerm_1 : decode (m_c m_Reader_readTerm) 1 = .ok (.bipush 105, 2) := by decide +kernel
theorem d_Reader_readTerm_3 : decode (m_c m_Reader_readTerm) 3 = .ok (.bipush 18, 2) := by decide +kernel
theorem d_Reader_readTerm_5 : decode (m_c m_Reader_readTerm) 5 = .ok (.invokevirtual 50, 3) := by decide +kernel
theorem d_Reader_readTerm_8 : decode (m_c m_Reader_readTerm) 8 = .ok (.istore_n 2, 1) := by decide +kernel
theorem d_Reader_readTerm_9 : decode (m_c m_Reader_readTerm) 9 = .ok (.iload_n 2, 1) := by decide +kernel
theorem d_Reader_readTerm_10 : decode (m_c m_Reader_readTerm) 10 = .ok (.ifCond .lt 27, 3) := by decide +kernel
theorem d_Reader_readTerm_13 : decode (m_c m_Reader_readTerm) 13 = .ok (.aload_n 0, 1) := by decide +kernel
theorem d_Reader_readTerm_14 : decode (m_c m_Reader_readTerm) 14 = .ok (.dup, 1) := by decide +kernel
theorem d_Reader_readTerm_15 : decode (m_c m_Reader_readTerm) 15 = .ok (.getfield 9, 3) := by decide +kernel
theorem d_Reader_readTerm_18 : decode (m_c m_Reader_readTerm) 18 = .ok (.iconst 1, 1) := by decide +kernel
theorem d_Reader_readTerm_19 : decode (m_c m_Reader_readTerm) 19 = .ok (.iadd, 1) := by decide +kernel
theorem d_Reader_readTerm_20 : decode (m_c m_Reader_readTerm) 20 = .ok (.putfield 9, 3) := by decide +kernel
theorem d_Reader_readTerm_23 : decode (m_c m_Reader_readTerm) 23 = .ok (.aload_n 0, 1) := by decide +kernel
theorem d_Reader_readTerm_24 : decode (m_c m_Reader_readTerm) 24 = .ok (.getfield 22, 3) := by decide +kernel
theorem d_Reader_readTerm_27 : decode (m_c m_Reader_readTerm) 27 = .ok (.getfield 85, 3) := by decide +kernel
theorem d_Reader_readTerm_30 : decode (m_c m_Reader_readTerm) 30 = .ok (.iconst 1, 1) := by decide +kernel
theorem d_Reader_readTerm_31 : decode (m_c m_Reader_readTerm) 31 = .ok (.iload_n 2, 1) := by decide +kernel
theorem d_Reader_readTerm_32 : decode (m_c m_Reader_readTerm) 32 = .ok (.invokevirtual 130, 3) := by decide +kernel
theorem d_Reader_readTerm_35 : decode (m_c m_Reader_readTerm) 35 = .ok (.iconst 1, 1) := by decide +kernel
theorem d_Reader_readTerm_36 : decode (m_c m_Reader_readTerm) 36 = .ok (.ireturn, 1) := by decide +kernel
theorem d_Reader_readTerm_37 : decode (m_c m_Reader_readTerm) 37 = .ok (.aload_n 0, 1) := by decide +kernel
theorem d_Reader_readTerm_38 : decode (m_c m_Reader_readTerm) 38 = .ok (.invokevirtual 116, 3) := by decide +kernel
theorem d_Reader_readTerm_41 : decode (m_c m_Reader_readTerm) 41 = .ok (.lookupswitch 90 #[(35, 63), (40, 69), (47, 51), (91, 69), (124, 57)], 51) := by decide +kernel
theorem d_Reader_readTerm_92 : decode (m_c m_Reader_readTerm) 92 = .ok (.aload_n 0, 1) := by decide +kernel
theorem d_Reader_readTerm_93 : decode (m_c m_Reader_readTerm) 93 = .ok (.iconst 2, 1) := by decide +kernel
theorem d_Reader_readTerm_94 : decode (m_c m_Reader_readTerm) 94 = .ok (.invokevirtual 167, 3) := by decide +kernel
theorem d_Reader_readTerm_97 : decode (m_c m_Reader_readTerm) 97 = .ok (.ireturn, 1) := by decide +kernel
theorem d_Reader_readTerm_98 : decode (m_c m_Reader_readTerm) 98 = .ok (.aload_n 0, 1) := by decide +kernel
theorem d_Reader_readTerm_99 : decode (m_c m_Reader_readTerm) 99 = .ok (.iconst 3, 1) := by decide +kernel
theorem d_Reader_readTerm_100 : decode (m_c m_Reader_readTerm) 100 = .ok (.invokevirtual 167, 3) := by decide +kernel
theorem d_Reader_readTerm_103 : decode (m_c m_Reader_readTerm) 103 = .ok (.ireturn, 1) := by decide +kernel
theorem d_Reader_readTerm_104 : decode (m_c m_Reader_readTerm) 104 = .ok (.aload_n 0, 1) := by decide +kernel
theorem d_Reader_readTerm_105 : decode (m_c m_Reader_readTerm) 105 = .ok (.iconst 4, 1) := by decide +kernel
theorem d_Reader_readTerm_106 : decode (m_c m_Reader_readTerm) 106 = .ok (.invokevirtual 167, 3) := by decide +kernel
theorem d_Reader_readTerm_109 : decode (m_c m_Reader_readTerm) 109 = .ok (.ireturn, 1) := by decide +kernel
theorem d_Reader_readTerm_110 : decode (m_c m_Reader_readTerm) 110 = .ok (.iload_n 1, 1) := by decide +kernel
theorem d_Reader_readTerm_111 : decode (m_c m_Reader_readTerm) 111 = .ok (.iconst 5, 1) := by decide +kernel
theorem d_Reader_readTerm_112 : decode (m_c m_Reader_readTerm) 112 = .ok (.if_icmp .ge 17, 3) := by decide +kernel
theorem d_Reader_readTerm_115 : decode (m_c m_Reader_readTerm) 115 = .ok (.aload_n 0, 1) := by decide +kernel
theorem d_Reader_readTerm_116 : decode (m_c m_Reader_readTerm) 116 = .ok (.iload_n 1, 1) := by decide +kernel
theorem d_Reader_readTerm_117 : decode (m_c m_Reader_readTerm) 117 = .ok (.iconst 1, 1) := by decide +kernel
theorem d_Reader_readTerm_118 : decode (m_c m_Reader_readTerm) 118 = .ok (.iadd, 1) := by decide +kernel
theorem d_Reader_readTerm_119 : decode (m_c m_Reader_readTerm) 119 = .ok (.invokevirtual 170, 3) := by decide +kernel
theorem d_Reader_readTerm_122 : decode (m_c m_Reader_readTerm) 122 = .ok (.ifCond .eq 7, 3) := by decide +kernel
theorem d_Reader_readTerm_125 : decode (m_c m_Reader_readTerm) 125 = .ok (.iconst 1, 1) := by decide +kernel
theorem d_Reader_readTerm_126 : decode (m_c m_Reader_readTerm) 126 = .ok (.goto 4, 3) := by decide +kernel
theorem d_Reader_readTerm_129 : decode (m_c m_Reader_readTerm) 129 = .ok (.iconst 0, 1) := by decide +kernel
theorem d_Reader_readTerm_130 : decode (m_c m_Reader_readTerm) 130 = .ok (.ireturn, 1) := by decide +kernel
theorem d_Reader_readTerm_131 : decode (m_c m_Reader_readTerm) 131 = .ok (.aload_n 0, 1) := by decide +kernel
theorem d_Reader_readTerm_132 : decode (m_c m_Reader_readTerm) 132 = .ok (.invokevirtual 64, 3) := by decide +kernel
theorem d_Reader_readTerm_135 : decode (m_c m_Reader_readTerm) 135 = .ok (.ifCond .ne 5, 3) := by decide +kernel
theorem d_Reader_readTerm_138 : decode (m_c m_Reader_readTerm) 138 = .ok (.iconst 0, 1) := by decide +kernel
theorem d_Reader_readTerm_139 : decode (m_c m_Reader_readTerm) 139 = .ok (.ireturn, 1) := by decide +kernel
theorem d_Reader_readTerm_140 : decode (m_c m_Reader_readTerm) 140 = .ok (.aload_n 0, 1) := by decide +kernel
theorem d_Reader_readTerm_141 : decode (m_c m_Reader_readTerm) 141 = .ok (.getfield 22, 3) := by decide +kernel
theorem d_Reader_readTerm_144 : decode (m_c m_Reader_readTerm) 144 = .ok (.getfield 85, 3) := by decide +kernel
theorem d_Reader_readTerm_147 : decode (m_c m_Reader_readTerm) 147 = .ok (.iconst 0, 1) := by decide +kernel
theorem d_Reader_readTerm_148 : decode (m_c m_Reader_readTerm) 148 = .ok (.aload_n 0, 1) := by decide +kernel
theorem d_Reader_readTerm_149 : decode (m_c m_Reader_readTerm) 149 = .ok (.getfield 15, 3) := by decide +kernel
theorem d_Reader_readTerm_152 : decode (m_c m_Reader_readTerm) 152 = .ok (.invokevirtual 130, 3) := by decide +kernel
theorem d_Reader_readTerm_155 : decode (m_c m_Reader_readTerm) 155 = .ok (.iconst 1, 1) := by decide +kernel
theorem d_Reader_readTerm_156 : decode (m_c m_Reader_readTerm) 156 = .ok (.ireturn, 1) := by decide +kernel
def p_Reader_readTerm_130 (kk : Int → q_F → q_F → Option (Int × q_F × q_F))  (s0 : Int) (f g : q_F) : Option (Int × q_F × q_F) :=
  if s0 = 0 ∨ s0 = 1 then
    some (s0, f, g)
  else none
def p_Reader_readTerm_129 (kk : Int → q_F → q_F → Option (Int × q_F × q_F))   (f g : q_F) : Option (Int × q_F × q_F) :=
  p_Reader_readTerm_130 kk  (0) f g
def p_Reader_readTerm (kk : Int → q_F → q_F → Option (Int × q_F × q_F)) (v1 : Int) (f g : q_F) : Option (Int × q_F × q_F) :=
  (p_Reader_letter (105) (18) f g).bind fun x1 =>
  if q_sw x1.1 < 0 then
    (p_Reader_here  x1.2.1 x1.2.2).bind fun x4 =>
    if q_sw x4.1 = 35 then
      (p_Reader_readOfSection (4) x4.2.1 x4.2.2).bind fun x7 =>
      if x7.1 = 0 ∨ x7.1 = 1 then
        some (x7.1, x7.2.1, x7.2.2)
      else none
    else
      if q_sw x4.1 = 40 then
        if q_sw 5 ≤ q_sw v1 then
          p_Reader_readTerm_129 kk   x4.2.1 x4.2.2
        else
          (kk (v1 + 1) x4.2.1 x4.2.2).bind fun x12 =>
          if q_sw x12.1 = 0 then
            p_Reader_readTerm_129 kk   x12.2.1 x12.2.2
          else
            p_Reader_readTerm_130 kk  (1) x12.2.1 x12.2.2
      else
        if q_sw x4.1 = 47 then
          (p_Reader_readOfSection (2) x4.2.1 x4.2.2).bind fun x16 =>
          if x16.1 = 0 ∨ x16.1 = 1 then
            some (x16.1, x16.2.1, x16.2.2)
          else none
        else
          if q_sw x4.1 = 91 then
            if q_sw 5 ≤ q_sw v1 then
              p_Reader_readTerm_129 kk   x4.2.1 x4.2.2
            else
              (kk (v1 + 1) x4.2.1 x4.2.2).bind fun x21 =>
              if q_sw x21.1 = 0 then
                p_Reader_readTerm_129 kk   x21.2.1 x21.2.2
              else
                p_Reader_readTerm_130 kk  (1) x21.2.1 x21.2.2
          else
            if q_sw x4.1 = 124 then
              (p_Reader_readOfSection (3) x4.2.1 x4.2.2).bind fun x25 =>
              if x25.1 = 0 ∨ x25.1 = 1 then
                some (x25.1, x25.2.1, x25.2.2)
              else none
            else
              (p_Reader_readNumber  x4.2.1 x4.2.2).bind fun x28 =>
              if q_sw x28.1 = 0 then
                some (0, x28.2.1, x28.2.2)
              else
                (p_Rows_add_11 (0) (x28.2.1 54 3) x28.2.1 x28.2.2).bind fun x31 =>
                some (1, x31.1, x31.2)
  else
    q_let (ma_up x1.2.1 54 2 ((x1.2.1 54 2) + 1)) fun f33 =>
    (p_Rows_add_11 (1) (x1.1) f33 x1.2.2).bind fun x34 =>
    some (1, x34.1, x34.2)
theorem e_Reader_readTerm_130 (t : q_V) (ok : ma_ok (q_G t)) {FB LB : Nat} (kk : Int → q_F → q_F → Option (Int × q_F × q_F)) (hk : ∀ (v1 : Int) (f g : q_F) {y : Int × q_F × q_F} {Q : Option Value → ma_H → Prop}, kk v1 f g = some y → Q (some (ma_i y.1)) (q_h y.2.1 y.2.2) → ma_Met (q_G t) false FB LB 0 0 m_Reader_readBracket [q_a t (54), ma_i (v1)] (q_h f g) Q) {Q : Option Value → ma_H → Prop} {y : Int × q_F × q_F} (hQ : Q (some (ma_i y.1)) (q_h y.2.1 y.2.2))   (s0 : Int) (f g : q_F) (hp : p_Reader_readTerm_130 kk  s0 f g = some y) : ma_Ev (q_G t) (FB + 40) (LB + 400) 0 0 m_Reader_readTerm 130 [] [ma_i (s0)] (q_h f g) (ma_zr (q_G t) false Q) := by
  unfold p_Reader_readTerm_130 at hp
  replace hp := q_if hp
  obtain ⟨hb1, hp⟩ := hp
  cases Option.some.inj hp
  exact et_zret (pc := 130) d_Reader_readTerm_130 rfl hb1 hQ
theorem e_Reader_readTerm_129 (t : q_V) (ok : ma_ok (q_G t)) {FB LB : Nat} (kk : Int → q_F → q_F → Option (Int × q_F × q_F)) (hk : ∀ (v1 : Int) (f g : q_F) {y : Int × q_F × q_F} {Q : Option Value → ma_H → Prop}, kk v1 f g = some y → Q (some (ma_i y.1)) (q_h y.2.1 y.2.2) → ma_Met (q_G t) false FB LB 0 0 m_Reader_readBracket [q_a t (54), ma_i (v1)] (q_h f g) Q) {Q : Option Value → ma_H → Prop} {y : Int × q_F × q_F} (hQ : Q (some (ma_i y.1)) (q_h y.2.1 y.2.2))    (f g : q_F) (hp : p_Reader_readTerm_129 kk   f g = some y) : ma_Ev (q_G t) (FB + 40) (LB + 400) 0 0 m_Reader_readTerm 129 [] [] (q_h f g) (ma_zr (q_G t) false Q) := by
  unfold p_Reader_readTerm_129 at hp
  refine ev_iconst (pc := 129) d_Reader_readTerm_129 ?_
  refine ev_sub (ls2 := []) [] rfl ?_
  exact e_Reader_readTerm_130 t ok kk hk hQ   (0) f g hp
theorem t_Reader_readTerm (t : q_V) (ok : ma_ok (q_G t)) {FB LB : Nat} (kk : Int → q_F → q_F → Option (Int × q_F × q_F)) (hk : ∀ (v1 : Int) (f g : q_F) {y : Int × q_F × q_F} {Q : Option Value → ma_H → Prop}, kk v1 f g = some y → Q (some (ma_i y.1)) (q_h y.2.1 y.2.2) → ma_Met (q_G t) false FB LB 0 0 m_Reader_readBracket [q_a t (54), ma_i (v1)] (q_h f g) Q) {Q : Option Value → ma_H → Prop} {y : Int × q_F × q_F} (v1 : Int) (f g : q_F) (hp : p_Reader_readTerm kk v1 f g = some y) (hQ : Q (some (ma_i y.1)) (q_h y.2.1 y.2.2)) : ma_Met (q_G t) false (FB + 40) (LB + 400) 0 0 m_Reader_readTerm [q_a t (54), ma_i (v1)] (q_h f g) Q := by
  refine ma_met (by decide +kernel) (q_ble rfl) rfl ?_
  change ma_Ev (q_G t) (FB + 40) (LB + 400) 0 0 m_Reader_readTerm 0 [(0, q_a t (54)), (1, ma_i (v1))] [] (q_h f g) (ma_zr (q_G t) false Q)
  unfold p_Reader_readTerm at hp
  refine et_aload_n (pc := 0) d_Reader_readTerm_0 rfl rfl ?_
  refine ev_bipush (pc := 1) d_Reader_readTerm_1 rfl ?_
  refine ev_bipush (pc := 3) d_Reader_readTerm_3 rfl ?_
  replace hp := q_bind hp
  obtain ⟨x1, hm2, hp⟩ := hp
  refine et_callVi (pc := 5) (f1 := x1.2.1) (g1 := x1.2.2) ok [ma_i (105), ma_i (18)] [] (cf_Reader_50 t) d_Reader_readTerm_5 s_54 k_8 rfl (t_Reader_letter t ok (105) (18) f g hm2 ⟨rfl, rfl⟩) rfl rfl (by omega) (by show 8 + (4 + 11) + _ ≤ _; omega) (q_ble rfl) ?_
  refine ev_istore_n (pc := 8) d_Reader_readTerm_8 rfl (by decide) [(2, _), (0, _), (1, _)] rfl ?_
  refine ev_iload_n (pc := 9) d_Reader_readTerm_9 rfl rfl ?_
  refine et_if_lt (pc := 10) (tgt := 37) d_Reader_readTerm_10 (by decide) (fun hj3 => ?_) (fun hj3 => ?_)
  · rw [if_pos hj3] at hp
    refine et_aload_n (pc := 37) d_Reader_readTerm_37 rfl rfl ?_
    replace hp := q_bind hp
    obtain ⟨x4, hm5, hp⟩ := hp
    refine et_callVi (pc := 38) (f1 := x4.2.1) (g1 := x4.2.2) ok [] [] (cf_Reader_116 t) d_Reader_readTerm_38 s_54 k_8 rfl (t_Reader_here t ok  x1.2.1 x1.2.2 hm5 ⟨rfl, rfl⟩) rfl rfl (by omega) (by show 8 + (1 + 11) + _ ≤ _; omega) (q_ble rfl) ?_
    by_cases hw6 : q_sw x4.1 = 35
    · rw [if_pos hw6] at hp
      refine et_lookup (pc := 41) (tgt := 104) (off := 63) d_Reader_readTerm_41 (by decide) (by rw [hw6]; decide) (by decide) ?_
      refine et_aload_n (pc := 104) d_Reader_readTerm_104 rfl rfl ?_
      refine ev_iconst (pc := 105) d_Reader_readTerm_105 ?_
      replace hp := q_bind hp
      obtain ⟨x7, hm8, hp⟩ := hp
      refine et_callVi (pc := 106) (f1 := x7.2.1) (g1 := x7.2.2) ok [ma_i (4)] [] (cf_Reader_167 t) d_Reader_readTerm_106 s_54 k_8 rfl (t_Reader_readOfSection t ok (4) x4.2.1 x4.2.2 hm8 ⟨rfl, rfl⟩) rfl rfl (by omega) (by show 8 + (3 + 11) + _ ≤ _; omega) (q_ble rfl) ?_
      replace hp := q_if hp
      obtain ⟨hb9, hp⟩ := hp
      cases Option.some.inj hp
      exact et_zret (pc := 109) d_Reader_readTerm_109 rfl hb9 hQ
    · rw [if_neg hw6] at hp
      by_cases hw10 : q_sw x4.1 = 40
      · rw [if_pos hw10] at hp
        refine et_lookup (pc := 41) (tgt := 110) (off := 69) d_Reader_readTerm_41 (by decide) (by rw [hw10]; decide) (by decide) ?_
        refine ev_iload_n (pc := 110) d_Reader_readTerm_110 rfl rfl ?_
        refine ev_iconst (pc := 111) d_Reader_readTerm_111 ?_
        refine et_icmp_ge (pc := 112) (tgt := 129) d_Reader_readTerm_112 (by decide) (fun hj11 => ?_) (fun hj11 => ?_)
        · rw [if_pos hj11] at hp
          refine ev_sub (ls2 := []) [] rfl ?_
          exact e_Reader_readTerm_129 t ok kk hk hQ    x4.2.1 x4.2.2 hp
        · rw [if_neg hj11] at hp
          refine et_aload_n (pc := 115) d_Reader_readTerm_115 rfl rfl ?_
          refine ev_iload_n (pc := 116) d_Reader_readTerm_116 rfl rfl ?_
          refine ev_iconst (pc := 117) d_Reader_readTerm_117 ?_
          refine ev_iadd (pc := 118) d_Reader_readTerm_118 ?_
          replace hp := q_bind hp
          obtain ⟨x12, hm13, hp⟩ := hp
          refine et_callVi (pc := 119) (f1 := x12.2.1) (g1 := x12.2.2) ok [ma_i (v1 + 1)] [] (cf_Reader_170 t) d_Reader_readTerm_119 s_54 k_8 rfl (hk (v1 + 1) x4.2.1 x4.2.2 hm13 ⟨rfl, rfl⟩) rfl rfl (by omega) (by show 8 + (3 + 11) + _ ≤ _; omega) (q_ble rfl) ?_
          refine et_if_eq (pc := 122) (tgt := 129) d_Reader_readTerm_122 (by decide) (fun hj14 => ?_) (fun hj14 => ?_)
          · rw [if_pos hj14] at hp
            refine ev_sub (ls2 := []) [] rfl ?_
            exact e_Reader_readTerm_129 t ok kk hk hQ    x12.2.1 x12.2.2 hp
          · rw [if_neg hj14] at hp
            refine ev_iconst (pc := 125) d_Reader_readTerm_125 ?_
            refine ev_goto (pc := 126) (tgt := 130) d_Reader_readTerm_126 (by decide) ?_
            refine ev_sub (ls2 := []) [] rfl ?_
            exact e_Reader_readTerm_130 t ok kk hk hQ   (1) x12.2.1 x12.2.2 hp
      · rw [if_neg hw10] at hp
        by_cases hw15 : q_sw x4.1 = 47
        · rw [if_pos hw15] at hp
          refine et_lookup (pc := 41) (tgt := 92) (off := 51) d_Reader_readTerm_41 (by decide) (by rw [hw15]; decide) (by decide) ?_
          refine et_aload_n (pc := 92) d_Reader_readTerm_92 rfl rfl ?_
          refine ev_iconst (pc := 93) d_Reader_readTerm_93 ?_
          replace hp := q_bind hp
          obtain ⟨x16, hm17, hp⟩ := hp
          refine et_callVi (pc := 94) (f1 := x16.2.1) (g1 := x16.2.2) ok [ma_i (2)] [] (cf_Reader_167 t) d_Reader_readTerm_94 s_54 k_8 rfl (t_Reader_readOfSection t ok (2) x4.2.1 x4.2.2 hm17 ⟨rfl, rfl⟩) rfl rfl (by omega) (by show 8 + (3 + 11) + _ ≤ _; omega) (q_ble rfl) ?_
          replace hp := q_if hp
          obtain ⟨hb18, hp⟩ := hp
          cases Option.some.inj hp
          exact et_zret (pc := 97) d_Reader_readTerm_97 rfl hb18 hQ
        · rw [if_neg hw15] at hp
          by_cases hw19 : q_sw x4.1 = 91
          · rw [if_pos hw19] at hp
            refine et_lookup (pc := 41) (tgt := 110) (off := 69) d_Reader_readTerm_41 (by decide) (by rw [hw19]; decide) (by decide) ?_
            refine ev_iload_n (pc := 110) d_Reader_readTerm_110 rfl rfl ?_
            refine ev_iconst (pc := 111) d_Reader_readTerm_111 ?_
            refine et_icmp_ge (pc := 112) (tgt := 129) d_Reader_readTerm_112 (by decide) (fun hj20 => ?_) (fun hj20 => ?_)
            · rw [if_pos hj20] at hp
              refine ev_sub (ls2 := []) [] rfl ?_
              exact e_Reader_readTerm_129 t ok kk hk hQ    x4.2.1 x4.2.2 hp
            · rw [if_neg hj20] at hp
              refine et_aload_n (pc := 115) d_Reader_readTerm_115 rfl rfl ?_
              refine ev_iload_n (pc := 116) d_Reader_readTerm_116 rfl rfl ?_
              refine ev_iconst (pc := 117) d_Reader_readTerm_117 ?_
              refine ev_iadd (pc := 118) d_Reader_readTerm_118 ?_
              replace hp := q_bind hp
              obtain ⟨x21, hm22, hp⟩ := hp
              refine et_callVi (pc := 119) (f1 := x21.2.1) (g1 := x21.2.2) ok [ma_i (v1 + 1)] [] (cf_Reader_170 t) d_Reader_readTerm_119 s_54 k_8 rfl (hk (v1 + 1) x4.2.1 x4.2.2 hm22 ⟨rfl, rfl⟩) rfl rfl (by omega) (by show 8 + (3 + 11) + _ ≤ _; omega) (q_ble rfl) ?_
              refine et_if_eq (pc := 122) (tgt := 129) d_Reader_readTerm_122 (by decide) (fun hj23 => ?_) (fun hj23 => ?_)
              · rw [if_pos hj23] at hp
                refine ev_sub (ls2 := []) [] rfl ?_
                exact e_Reader_readTerm_129 t ok kk hk hQ    x21.2.1 x21.2.2 hp
              · rw [if_neg hj23] at hp
                refine ev_iconst (pc := 125) d_Reader_readTerm_125 ?_
                refine ev_goto (pc := 126) (tgt := 130) d_Reader_readTerm_126 (by decide) ?_
                refine ev_sub (ls2 := []) [] rfl ?_
                exact e_Reader_readTerm_130 t ok kk hk hQ   (1) x21.2.1 x21.2.2 hp
          · rw [if_neg hw19] at hp
            by_cases hw24 : q_sw x4.1 = 124
            · rw [if_pos hw24] at hp
              refine et_lookup (pc := 41) (tgt := 98) (off := 57) d_Reader_readTerm_41 (by decide) (by rw [hw24]; decide) (by decide) ?_
              refine et_aload_n (pc := 98) d_Reader_readTerm_98 rfl rfl ?_
              refine ev_iconst (pc := 99) d_Reader_readTerm_99 ?_
              replace hp := q_bind hp
              obtain ⟨x25, hm26, hp⟩ := hp
              refine et_callVi (pc := 100) (f1 := x25.2.1) (g1 := x25.2.2) ok [ma_i (3)] [] (cf_Reader_167 t) d_Reader_readTerm_100 s_54 k_8 rfl (t_Reader_readOfSection t ok (3) x4.2.1 x4.2.2 hm26 ⟨rfl, rfl⟩) rfl rfl (by omega) (by show 8 + (3 + 11) + _ ≤ _; omega) (q_ble rfl) ?_
              replace hp := q_if hp
              obtain ⟨hb27, hp⟩ := hp
              cases Option.some.inj hp
              exact et_zret (pc := 103) d_Reader_readTerm_103 rfl hb27 hQ
            · rw [if_neg hw24] at hp
              refine et_lookup (pc := 41) (tgt := 131) (off := 90) d_Reader_readTerm_41 (by decide) ?_ (by decide) ?_
              · show Op.lookupswitch.offset [(35, 63), (40, 69), (47, 51), (91, 69), (124, 57)] 90 (q_sw x4.1) = 90
                rw [Op.lookupswitch.offset_cons, if_neg (Ne.symm hw6), Op.lookupswitch.offset_cons, if_neg (Ne.symm hw10), Op.lookupswitch.offset_cons, if_neg (Ne.symm hw15), Op.lookupswitch.offset_cons, if_neg (Ne.symm hw19), Op.lookupswitch.offset_cons, if_neg (Ne.symm hw24)]
                rfl
              refine et_aload_n (pc := 131) d_Reader_readTerm_131 rfl rfl ?_
              replace hp := q_bind hp
              obtain ⟨x28, hm29, hp⟩ := hp
              refine et_callVi (pc := 132) (f1 := x28.2.1) (g1 := x28.2.2) ok [] [] (cf_Reader_64 t) d_Reader_readTerm_132 s_54 k_8 rfl (t_Reader_readNumber t ok  x4.2.1 x4.2.2 hm29 ⟨rfl, rfl⟩) rfl rfl (by omega) (by show 8 + (2 + 11) + _ ≤ _; omega) (q_ble rfl) ?_
              refine et_if_ne (pc := 135) (tgt := 140) d_Reader_readTerm_135 (by decide) (fun hj30 => ?_) (fun hj30 => ?_)
              · rw [if_neg hj30] at hp
                refine et_aload_n (pc := 140) d_Reader_readTerm_140 rfl rfl ?_
                refine et_getr (pc := 141) ok (fl_Reader_22 t) rfl d_Reader_readTerm_141 s_54 r_54_1 ?_
                refine et_getr (pc := 144) ok (fl_Reader_85 t) rfl d_Reader_readTerm_144 s_3 r_3_5 ?_
                refine ev_iconst (pc := 147) d_Reader_readTerm_147 ?_
                refine et_aload_n (pc := 148) d_Reader_readTerm_148 rfl rfl ?_
                refine et_geti (pc := 149) ok (fl_Reader_15 t) rfl d_Reader_readTerm_149 s_54 ?_
                replace hp := q_bind hp
                obtain ⟨x31, hm32, hp⟩ := hp
                refine et_callVv (pc := 152) (f1 := x31.1) (g1 := x31.2) ok [ma_i (0), ma_i (x28.2.1 54 3)] [] (cf_Reader_130 t) d_Reader_readTerm_152 s_11 k_6 rfl (t_Rows_add_11 t ok (0) (x28.2.1 54 3) x28.2.1 x28.2.2 hm32 ⟨rfl, rfl⟩) rfl rfl (by omega) (by show 8 + (3 + 11) + _ ≤ _; omega) (q_ble rfl) ?_
                refine ev_iconst (pc := 155) d_Reader_readTerm_155 ?_
                cases Option.some.inj hp
                exact et_zret (pc := 156) d_Reader_readTerm_156 rfl (by decide) hQ
              · rw [if_pos hj30] at hp
                refine ev_iconst (pc := 138) d_Reader_readTerm_138 ?_
                cases Option.some.inj hp
                exact et_zret (pc := 139) d_Reader_readTerm_139 rfl (by decide) hQ
  · rw [if_neg hj3] at hp
    refine et_aload_n (pc := 13) d_Reader_readTerm_13 rfl rfl ?_
    refine ev_dup (pc := 14) d_Reader_readTerm_14 rfl ?_
    refine et_geti (pc := 15) ok (fl_Reader_9 t) rfl d_Reader_readTerm_15 s_54 ?_
    refine ev_iconst (pc := 18) d_Reader_readTerm_18 ?_
    refine ev_iadd (pc := 19) d_Reader_readTerm_19 ?_
    refine et_puti (pc := 20) ok (fl_Reader_9 t) d_Reader_readTerm_20 s_54 ?_
    replace hp := q_let_of hp
    obtain ⟨f33, hz, hp⟩ := hp
    rw [← hz]
    clear hz
    refine et_aload_n (pc := 23) d_Reader_readTerm_23 rfl rfl ?_
    refine et_getr (pc := 24) ok (fl_Reader_22 t) rfl d_Reader_readTerm_24 s_54 r_54_1 ?_
    refine et_getr (pc := 27) ok (fl_Reader_85 t) rfl d_Reader_readTerm_27 s_3 r_3_5 ?_
    refine ev_iconst (pc := 30) d_Reader_readTerm_30 ?_
    refine ev_iload_n (pc := 31) d_Reader_readTerm_31 rfl rfl ?_
    replace hp := q_bind hp
    obtain ⟨x34, hm35, hp⟩ := hp
    refine et_callVv (pc := 32) (f1 := x34.1) (g1 := x34.2) ok [ma_i (1), ma_i (x1.1)] [] (cf_Reader_130 t) d_Reader_readTerm_32 s_11 k_6 rfl (t_Rows_add_11 t ok (1) (x1.1) f33 x1.2.2 hm35 ⟨rfl, rfl⟩) rfl rfl (by omega) (by show 8 + (3 + 11) + _ ≤ _; omega) (q_ble rfl) ?_
    refine ev_iconst (pc := 35) d_Reader_readTerm_35 ?_
    cases Option.some.inj hp
    exact et_zret (pc := 36) d_Reader_readTerm_36 rfl (by decide) hQ
/-- terms with so many brackets within each other at most -/
def p_Reader_term : Nat → Int → q_F → q_F → Option (Int × q_F × q_F)
  | 0 => p_Reader_readTerm fun _ _ _ => none
  | d + 1 => p_Reader_readTerm (p_Reader_readBracket (p_Reader_readExpression (p_Reader_term d)))
theorem t_Reader_term (t : q_V) (ok : ma_ok (q_G t)) : ∀ (d : Nat) (v1 : Int) (f g : q_F) {y : Int × q_F × q_F} {Q : Option Value → ma_H → Prop}, p_Reader_term d v1 f g = some y → Q (some (ma_i y.1)) (q_h y.2.1 y.2.2) → ma_Met (q_G t) false (120 * d + 40) (1200 * d + 400) 0 0 m_Reader_readTerm [q_a t (54), ma_i (v1)] (q_h f g) Q := by
  intro d
  induction d with
  | zero =>
    intro v1 f g y Q hp hQ
    exact t_Reader_readTerm t ok (FB := 0) (LB := 0) (fun _ _ _ => none) (fun _ _ _ _ _ h => nomatch h) v1 f g hp hQ
  | succ d ih =>
    intro v1 f g y Q hp hQ
    have h1 := t_Reader_readTerm t ok (FB := 120 * d + 40 + 40 + 40) (LB := 1200 * d + 400 + 400 + 400) _ (fun v1 f g y Q hp hQ => t_Reader_readBracket t ok _ (fun v1 f g y Q hp hQ => t_Reader_readExpression t ok _ (fun v1 f g y Q hp hQ => ih v1 f g hp hQ) v1 f g hp hQ) v1 f g hp hQ) v1 f g hp hQ
    exact h1
def p_Reader_expr : Int → q_F → q_F → Option (Int × q_F × q_F) := p_Reader_readExpression (p_Reader_term 5)
theorem t_Reader_expr (t : q_V) (ok : ma_ok (q_G t)) {Q : Option Value → ma_H → Prop} {y : Int × q_F × q_F} (v1 : Int) (f g : q_F) (hp : p_Reader_expr v1 f g = some y) (hQ : Q (some (ma_i y.1)) (q_h y.2.1 y.2.2)) : ma_Met (q_G t) false 680 6800 0 0 m_Reader_readExpression [q_a t (54), ma_i (v1)] (q_h f g) Q :=
  t_Reader_readExpression t ok (FB := 640) (LB := 6400) (p_Reader_term 5) (fun v1 f g y Q hp hQ => t_Reader_term t ok 5 v1 f g hp hQ) v1 f g hp hQ
theorem d_Reader_readSymbol_0 : decode (m_c m_Reader_readSymbol) 0 = .ok (.aload_n 0, 1) := by decide +kernel
theorem d_Reader_readSymbol_1 : decode (m_c m_Reader_readSymbol) 1 = .ok (.bipush 105, 2) := by decide +kernel
theorem d_Reader_readSymbol_3 : decode (m_c m_Reader_readSymbol) 3 = .ok (.bipush 18, 2) := by decide +kernel
theorem d_Reader_readSymbol_5 : decode (m_c m_Reader_readSymbol) 5 = .ok (.invokevirtual 50, 3) := by decide +kernel
theorem d_Reader_readSymbol_8 : decode (m_c m_Reader_readSymbol) 8 = .ok (.istore_n 1, 1) := by decide +kernel
theorem d_Reader_readSymbol_9 : decode (m_c m_Reader_readSymbol) 9 = .ok (.iload_n 1, 1) := by decide +kernel
theorem d_Reader_readSymbol_10 : decode (m_c m_Reader_readSymbol) 10 = .ok (.ifCond .lt 18, 3) := by decide +kernel
theorem d_Reader_readSymbol_13 : decode (m_c m_Reader_readSymbol) 13 = .ok (.aload_n 0, 1) := by decide +kernel
theorem d_Reader_readSymbol_14 : decode (m_c m_Reader_readSymbol) 14 = .ok (.getfield 22, 3) := by decide +kernel
theorem d_Reader_readSymbol_17 : decode (m_c m_Reader_readSymbol) 17 = .ok (.getfield 134, 3) := by decide +kernel
theorem d_Reader_readSymbol_20 : decode (m_c m_Reader_readSymbol) 20 = .ok (.iload_n 1, 1) := by decide +kernel
theorem d_Reader_readSymbol_21 : decode (m_c m_Reader_readSymbol) 21 = .ok (.aaload, 1) := by decide +kernel
theorem d_Reader_readSymbol_22 : decode (m_c m_Reader_readSymbol) 22 = .ok (.getfield 138, 3) := by decide +kernel
theorem d_Reader_readSymbol_25 : decode (m_c m_Reader_readSymbol) 25 = .ok (.ifCond .eq 5, 3) := by decide +kernel
theorem d_Reader_readSymbol_28 : decode (m_c m_Reader_readSymbol) 28 = .ok (.iconst 0, 1) := by decide +kernel
theorem d_Reader_readSymbol_29 : decode (m_c m_Reader_readSymbol) 29 = .ok (.ireturn, 1) := by decide +kernel
theorem d_Reader_readSymbol_30 : decode (m_c m_Reader_readSymbol) 30 = .ok (.aload_n 0, 1) := by decide +kernel
theorem d_Reader_readSymbol_31 : decode (m_c m_Reader_readSymbol) 31 = .ok (.dup, 1) := by decide +kernel
theorem d_Reader_readSymbol_32 : decode (m_c m_Reader_readSymbol) 32 = .ok (.getfield 9, 3) := by decide +kernel
theorem d_Reader_readSymbol_35 : decode (m_c m_Reader_readSymbol) 35 = .ok (.iconst 1, 1) := by decide +kernel
theorem d_Reader_readSymbol_36 : decode (m_c m_Reader_readSymbol) 36 = .ok (.iadd, 1) := by decide +kernel
theorem d_Reader_readSymbol_37 : decode (m_c m_Reader_readSymbol) 37 = .ok (.putfield 9, 3) := by decide +kernel
theorem d_Reader_readSymbol_40 : decode (m_c m_Reader_readSymbol) 40 = .ok (.aload_n 0, 1) := by decide +kernel
theorem d_Reader_readSymbol_41 : decode (m_c m_Reader_readSymbol) 41 = .ok (.getfield 22, 3) := by decide +kernel
theorem d_Reader_readSymbol_44 : decode (m_c m_Reader_readSymbol) 44 = .ok (.getfield 134, 3) := by decide +kernel
theorem d_Reader_readSymbol_47 : decode (m_c m_Reader_readSymbol) 47 = .ok (.iload_n 1, 1) := by decide +kernel
theorem d_Reader_readSymbol_48 : decode (m_c m_Reader_readSymbol) 48 = .ok (.aaload, 1) := by decide +kernel
theorem d_Reader_readSymbol_49 : decode (m_c m_Reader_readSymbol) 49 = .ok (.astore_n 2, 1) := by decide +kernel
theorem d_Reader_readSymbol_50 : decode (m_c m_Reader_readSymbol) 50 = .ok (.aload_n 2, 1) := by decide +kernel
theorem d_Reader_readSymbol_51 : decode (m_c m_Reader_readSymbol) 51 = .ok (.iconst 1, 1) := by decide +kernel
theorem d_Reader_readSymbol_52 : decode (m_c m_Reader_readSymbol) 52 = .ok (.putfield 138, 3) := by decide +kernel
theorem d_Reader_readSymbol_55 : decode (m_c m_Reader_readSymbol) 55 = .ok (.aload_n 2, 1) := by decide +kernel
theorem d_Reader_readSymbol_56 : decode (m_c m_Reader_readSymbol) 56 = .ok (.iconst 1, 1) := by decide +kernel
theorem d_Reader_readSymbol_57 : decode (m_c m_Reader_readSymbol) 57 = .ok (.putfield 159, 3) := by decide +kernel
theorem d_Reader_readSymbol_60 : decode (m_c m_Reader_readSymbol) 60 = .ok (.aload_n 2, 1) := by decide +kernel
theorem d_Reader_readSymbol_61 : decode (m_c m_Reader_readSymbol) 61 = .ok (.aload_n 0, 1) := by decide +kernel
theorem d_Reader_readSymbol_62 : decode (m_c m_Reader_readSymbol) 62 = .ok (.getfield 22, 3) := by decide +kernel
theorem d_Reader_readSymbol_65 : decode (m_c m_Reader_readSymbol) 65 = .ok (.getfield 85, 3) := by decide +kernel
theorem d_Reader_readSymbol_68 : decode (m_c m_Reader_readSymbol) 68 = .ok (.getfield 89, 3) := by decide +kernel
theorem d_Reader_readSymbol_71 : decode (m_c m_Reader_readSymbol) 71 = .ok (.putfield 162, 3) := by decide +kernel
theorem d_Reader_readSymbol_74 : decode (m_c m_Reader_readSymbol) 74 = .ok (.aload_n 0, 1) := by decide +kernel
theorem d_Reader_readSymbol_75 : decode (m_c m_Reader_readSymbol) 75 = .ok (.bipush 61, 2) := by decide +kernel
theorem d_Reader_readSymbol_77 : decode (m_c m_Reader_readSymbol) 77 = .ok (.invokevirtual 36, 3) := by decide +kernel
theorem d_Reader_readSymbol_80 : decode (m_c m_Reader_readSymbol) 80 = .ok (.ifCond .eq 11, 3) := by decide +kernel
theorem d_Reader_readSymbol_83 : decode (m_c m_Reader_readSymbol) 83 = .ok (.aload_n 0, 1) := by decide +kernel
theorem d_Reader_readSymbol_84 : decode (m_c m_Reader_readSymbol) 84 = .ok (.iconst 0, 1) := by decide +kernel
theorem d_Reader_readSymbol_85 : decode (m_c m_Reader_readSymbol) 85 = .ok (.invokevirtual 97, 3) := by decide +kernel
theorem d_Reader_readSymbol_88 : decode (m_c m_Reader_readSymbol) 88 = .ok (.ifCond .ne 5, 3) := by decide +kernel
theorem d_Reader_readSymbol_91 : decode (m_c m_Reader_readSymbol) 91 = .ok (.iconst 0, 1) := by decide +kernel
theorem d_Reader_readSymbol_92 : decode (m_c m_Reader_readSymbol) 92 = .ok (.ireturn, 1) := by decide +kernel
theorem d_Reader_readSymbol_93 : decode (m_c m_Reader_readSymbol) 93 = .ok (.aload_n 2, 1) := by decide +kernel
theorem d_Reader_readSymbol_94 : decode (m_c m_Reader_readSymbol) 94 = .ok (.aload_n 0, 1) := by decide +kernel
theorem d_Reader_readSymbol_95 : decode (m_c m_Reader_readSymbol) 95 = .ok (.getfield 22, 3) := by decide +kernel
theorem d_Reader_readSymbol_98 : decode (m_c m_Reader_readSymbol) 98 = .ok (.getfield 85, 3) := by decide +kernel
theorem d_Reader_readSymbol_101 : decode (m_c m_Reader_readSymbol) 101 = .ok (.getfield 89, 3) := by decide +kernel
theorem d_Reader_readSymbol_104 : decode (m_c m_Reader_readSymbol) 104 = .ok (.putfield 163, 3) := by decide +kernel
theorem d_Reader_readSymbol_107 : decode (m_c m_Reader_readSymbol) 107 = .ok (.iconst 1, 1) := by decide +kernel
theorem d_Reader_readSymbol_108 : decode (m_c m_Reader_readSymbol) 108 = .ok (.ireturn, 1) := by decide +kernel
def p_Reader_readSymbol_91    (f g : q_F) : Option (Int × q_F × q_F) :=
  some (0, f, g)
def p_Reader_readSymbol_28    (f g : q_F) : Option (Int × q_F × q_F) :=
  some (0, f, g)
def p_Reader_readSymbol   (f g : q_F) : Option (Int × q_F × q_F) :=
  (p_Reader_letter (105) (18) f g).bind fun x1 =>
  if q_sw x1.1 < 0 then
    p_Reader_readSymbol_28    x1.2.1 x1.2.2
  else
    if 0 ≤ x1.1 ∧ x1.1 < 18 then
      if q_sw (x1.2.1 (36 + Int.toNat x1.1) 0) = 0 then
        q_let (ma_up x1.2.1 54 2 ((x1.2.1 54 2) + 1)) fun f6 =>
        if 0 ≤ x1.1 ∧ x1.1 < 18 then
          q_let (ma_up f6 (36 + Int.toNat x1.1) 0 1) fun f8 =>
          q_let (ma_up f8 (36 + Int.toNat x1.1) 1 1) fun f9 =>
          q_let (ma_up f9 (36 + Int.toNat x1.1) 2 (f9 11 2)) fun f10 =>
          (p_Reader_skip (61) f10 x1.2.2).bind fun x11 =>
          if q_sw x11.1 = 0 then
            p_Reader_readSymbol_91    x11.2.1 x11.2.2
          else
            (p_Reader_expr (0) x11.2.1 x11.2.2).bind fun x14 =>
            if q_sw x14.1 = 0 then
              p_Reader_readSymbol_91    x14.2.1 x14.2.2
            else
              q_let (ma_up x14.2.1 (36 + Int.toNat x1.1) 3 (x14.2.1 11 2)) fun f17 =>
              some (1, f17, x14.2.2)
        else none
      else
        p_Reader_readSymbol_28    x1.2.1 x1.2.2
    else none
theorem e_Reader_readSymbol_91 (t : q_V) (ok : ma_ok (q_G t))  {Q : Option Value → ma_H → Prop} {y : Int × q_F × q_F} (hQ : Q (some (ma_i y.1)) (q_h y.2.1 y.2.2))    (f g : q_F) (hp : p_Reader_readSymbol_91    f g = some y) : ma_Ev (q_G t) 681 6823 0 0 m_Reader_readSymbol 91 [] [] (q_h f g) (ma_zr (q_G t) false Q) := by
  unfold p_Reader_readSymbol_91 at hp
  refine ev_iconst (pc := 91) d_Reader_readSymbol_91 ?_
  cases Option.some.inj hp
  exact et_zret (pc := 92) d_Reader_readSymbol_92 rfl (by decide) hQ
theorem e_Reader_readSymbol_28 (t : q_V) (ok : ma_ok (q_G t))  {Q : Option Value → ma_H → Prop} {y : Int × q_F × q_F} (hQ : Q (some (ma_i y.1)) (q_h y.2.1 y.2.2))    (f g : q_F) (hp : p_Reader_readSymbol_28    f g = some y) : ma_Ev (q_G t) 681 6823 0 0 m_Reader_readSymbol 28 [] [] (q_h f g) (ma_zr (q_G t) false Q) := by
  unfold p_Reader_readSymbol_28 at hp
  refine ev_iconst (pc := 28) d_Reader_readSymbol_28 ?_
  cases Option.some.inj hp
  exact et_zret (pc := 29) d_Reader_readSymbol_29 rfl (by decide) hQ
theorem t_Reader_readSymbol (t : q_V) (ok : ma_ok (q_G t))  {Q : Option Value → ma_H → Prop} {y : Int × q_F × q_F}  (f g : q_F) (hp : p_Reader_readSymbol   f g = some y) (hQ : Q (some (ma_i y.1)) (q_h y.2.1 y.2.2)) : ma_Met (q_G t) false 681 6823 0 0 m_Reader_readSymbol [q_a t (54)] (q_h f g) Q := by
  refine ma_met (by decide +kernel) (q_ble rfl) rfl ?_
  change ma_Ev (q_G t) 681 6823 0 0 m_Reader_readSymbol 0 [(0, q_a t (54))] [] (q_h f g) (ma_zr (q_G t) false Q)
  unfold p_Reader_readSymbol at hp
  refine et_aload_n (pc := 0) d_Reader_readSymbol_0 rfl rfl ?_
  refine ev_bipush (pc := 1) d_Reader_readSymbol_1 rfl ?_
  refine ev_bipush (pc := 3) d_Reader_readSymbol_3 rfl ?_
  replace hp := q_bind hp
  obtain ⟨x1, hm2, hp⟩ := hp
  refine et_callVi (pc := 5) (f1 := x1.2.1) (g1 := x1.2.2) ok [ma_i (105), ma_i (18)] [] (cf_Reader_50 t) d_Reader_readSymbol_5 s_54 k_8 rfl (t_Reader_letter t ok (105) (18) f g hm2 ⟨rfl, rfl⟩) rfl rfl (by decide) (by decide) (q_ble rfl) ?_
  refine ev_istore_n (pc := 8) d_Reader_readSymbol_8 rfl (by decide) [(1, _), (0, _)] rfl ?_
  refine ev_iload_n (pc := 9) d_Reader_readSymbol_9 rfl rfl ?_
  refine et_if_lt (pc := 10) (tgt := 28) d_Reader_readSymbol_10 (by decide) (fun hj3 => ?_) (fun hj3 => ?_)
  · rw [if_pos hj3] at hp
    refine ev_sub (ls2 := []) [] rfl ?_
    exact e_Reader_readSymbol_28 t ok  hQ    x1.2.1 x1.2.2 hp
  · rw [if_neg hj3] at hp
    refine et_aload_n (pc := 13) d_Reader_readSymbol_13 rfl rfl ?_
    refine et_getr (pc := 14) ok (fl_Reader_22 t) rfl d_Reader_readSymbol_14 s_54 r_54_1 ?_
    refine et_getr (pc := 17) ok (fl_Reader_134 t) rfl d_Reader_readSymbol_17 s_3 r_3_3 ?_
    refine ev_iload_n (pc := 20) d_Reader_readSymbol_20 rfl rfl ?_
    replace hp := q_if hp
    obtain ⟨hb4, hp⟩ := hp
    refine et_aald (pc := 21) d_Reader_readSymbol_21 s_7 hb4 (by decide) (r_7 _ (by omega)) ?_
    refine et_geti (pc := 22) ok (fl_Reader_138 t) rfl d_Reader_readSymbol_22 (s_36 _ (by omega) (by omega)) ?_
    refine et_if_eq (pc := 25) (tgt := 30) d_Reader_readSymbol_25 (by decide) (fun hj5 => ?_) (fun hj5 => ?_)
    · rw [if_pos hj5] at hp
      refine et_aload_n (pc := 30) d_Reader_readSymbol_30 rfl rfl ?_
      refine ev_dup (pc := 31) d_Reader_readSymbol_31 rfl ?_
      refine et_geti (pc := 32) ok (fl_Reader_9 t) rfl d_Reader_readSymbol_32 s_54 ?_
      refine ev_iconst (pc := 35) d_Reader_readSymbol_35 ?_
      refine ev_iadd (pc := 36) d_Reader_readSymbol_36 ?_
      refine et_puti (pc := 37) ok (fl_Reader_9 t) d_Reader_readSymbol_37 s_54 ?_
      replace hp := q_let_of hp
      obtain ⟨f6, hz, hp⟩ := hp
      rw [← hz]
      clear hz
      refine et_aload_n (pc := 40) d_Reader_readSymbol_40 rfl rfl ?_
      refine et_getr (pc := 41) ok (fl_Reader_22 t) rfl d_Reader_readSymbol_41 s_54 r_54_1 ?_
      refine et_getr (pc := 44) ok (fl_Reader_134 t) rfl d_Reader_readSymbol_44 s_3 r_3_3 ?_
      refine ev_iload_n (pc := 47) d_Reader_readSymbol_47 rfl rfl ?_
      replace hp := q_if hp
      obtain ⟨hb7, hp⟩ := hp
      refine et_aald (pc := 48) d_Reader_readSymbol_48 s_7 hb7 (by decide) (r_7 _ (by omega)) ?_
      refine et_astore_n (pc := 49) d_Reader_readSymbol_49 rfl (by decide) [(2, _), (1, _), (0, _)] rfl ?_
      refine et_aload_n (pc := 50) d_Reader_readSymbol_50 rfl rfl ?_
      refine ev_iconst (pc := 51) d_Reader_readSymbol_51 ?_
      refine et_putz (pc := 52) ok (fl_Reader_138 t) (by decide) d_Reader_readSymbol_52 (s_36 _ (by omega) (by omega)) ?_
      replace hp := q_let_of hp
      obtain ⟨f8, hz, hp⟩ := hp
      rw [← hz]
      clear hz
      refine et_aload_n (pc := 55) d_Reader_readSymbol_55 rfl rfl ?_
      refine ev_iconst (pc := 56) d_Reader_readSymbol_56 ?_
      refine et_putz (pc := 57) ok (fl_Reader_159 t) (by decide) d_Reader_readSymbol_57 (s_36 _ (by omega) (by omega)) ?_
      replace hp := q_let_of hp
      obtain ⟨f9, hz, hp⟩ := hp
      rw [← hz]
      clear hz
      refine et_aload_n (pc := 60) d_Reader_readSymbol_60 rfl rfl ?_
      refine et_aload_n (pc := 61) d_Reader_readSymbol_61 rfl rfl ?_
      refine et_getr (pc := 62) ok (fl_Reader_22 t) rfl d_Reader_readSymbol_62 s_54 r_54_1 ?_
      refine et_getr (pc := 65) ok (fl_Reader_85 t) rfl d_Reader_readSymbol_65 s_3 r_3_5 ?_
      refine et_geti (pc := 68) ok (fl_Reader_89 t) rfl d_Reader_readSymbol_68 s_11 ?_
      refine et_puti (pc := 71) ok (fl_Reader_162 t) d_Reader_readSymbol_71 (s_36 _ (by omega) (by omega)) ?_
      replace hp := q_let_of hp
      obtain ⟨f10, hz, hp⟩ := hp
      rw [← hz]
      clear hz
      refine et_aload_n (pc := 74) d_Reader_readSymbol_74 rfl rfl ?_
      refine ev_bipush (pc := 75) d_Reader_readSymbol_75 rfl ?_
      replace hp := q_bind hp
      obtain ⟨x11, hm12, hp⟩ := hp
      refine et_callVi (pc := 77) (f1 := x11.2.1) (g1 := x11.2.2) ok [ma_i (61)] [] (cf_Reader_36 t) d_Reader_readSymbol_77 s_54 k_8 rfl (t_Reader_skip t ok (61) f10 x1.2.2 hm12 ⟨rfl, rfl⟩) rfl rfl (by decide) (by decide) (q_ble rfl) ?_
      refine et_if_eq (pc := 80) (tgt := 91) d_Reader_readSymbol_80 (by decide) (fun hj13 => ?_) (fun hj13 => ?_)
      · rw [if_pos hj13] at hp
        refine ev_sub (ls2 := []) [] rfl ?_
        exact e_Reader_readSymbol_91 t ok  hQ    x11.2.1 x11.2.2 hp
      · rw [if_neg hj13] at hp
        refine et_aload_n (pc := 83) d_Reader_readSymbol_83 rfl rfl ?_
        refine ev_iconst (pc := 84) d_Reader_readSymbol_84 ?_
        replace hp := q_bind hp
        obtain ⟨x14, hm15, hp⟩ := hp
        refine et_callVi (pc := 85) (f1 := x14.2.1) (g1 := x14.2.2) ok [ma_i (0)] [] (cf_Reader_97 t) d_Reader_readSymbol_85 s_54 k_8 rfl (t_Reader_expr t ok (0) x11.2.1 x11.2.2 hm15 ⟨rfl, rfl⟩) rfl rfl (by decide) (by decide) (q_ble rfl) ?_
        refine et_if_ne (pc := 88) (tgt := 93) d_Reader_readSymbol_88 (by decide) (fun hj16 => ?_) (fun hj16 => ?_)
        · rw [if_neg hj16] at hp
          refine et_aload_n (pc := 93) d_Reader_readSymbol_93 rfl rfl ?_
          refine et_aload_n (pc := 94) d_Reader_readSymbol_94 rfl rfl ?_
          refine et_getr (pc := 95) ok (fl_Reader_22 t) rfl d_Reader_readSymbol_95 s_54 r_54_1 ?_
          refine et_getr (pc := 98) ok (fl_Reader_85 t) rfl d_Reader_readSymbol_98 s_3 r_3_5 ?_
          refine et_geti (pc := 101) ok (fl_Reader_89 t) rfl d_Reader_readSymbol_101 s_11 ?_
          refine et_puti (pc := 104) ok (fl_Reader_163 t) d_Reader_readSymbol_104 (s_36 _ (by omega) (by omega)) ?_
          replace hp := q_let_of hp
          obtain ⟨f17, hz, hp⟩ := hp
          rw [← hz]
          clear hz
          refine ev_iconst (pc := 107) d_Reader_readSymbol_107 ?_
          cases Option.some.inj hp
          exact et_zret (pc := 108) d_Reader_readSymbol_108 rfl (by decide) hQ
        · rw [if_pos hj16] at hp
          refine ev_sub (ls2 := []) [] rfl ?_
          exact e_Reader_readSymbol_91 t ok  hQ    x14.2.1 x14.2.2 hp
    · rw [if_neg hj5] at hp
      refine ev_sub (ls2 := []) [] rfl ?_
      exact e_Reader_readSymbol_28 t ok  hQ    x1.2.1 x1.2.2 hp
theorem d_Reader_readSection_0 : decode (m_c m_Reader_readSection) 0 = .ok (.aload_n 0, 1) := by decide +kernel
theorem d_Reader_readSection_1 : decode (m_c m_Reader_readSection) 1 = .ok (.bipush 65, 2) := by decide +kernel
theorem d_Reader_readSection_3 : decode (m_c m_Reader_readSection) 3 = .ok (.bipush 8, 2) := by decide +kernel
theorem d_Reader_readSection_5 : decode (m_c m_Reader_readSection) 5 = .ok (.invokevirtual 50, 3) := by decide +kernel
theorem d_Reader_readSection_8 : decode (m_c m_Reader_readSection) 8 = .ok (.istore_n 1, 1) := by decide +kernel
theorem d_Reader_readSection_9 : decode (m_c m_Reader_readSection) 9 = .ok (.iload_n 1, 1) := by decide +kernel
theorem d_Reader_readSection_10 : decode (m_c m_Reader_readSection) 10 = .ok (.ifCond .lt 18, 3) := by decide +kernel
theorem d_Reader_readSection_13 : decode (m_c m_Reader_readSection) 13 = .ok (.aload_n 0, 1) := by decide +kernel
theorem d_Reader_readSection_14 : decode (m_c m_Reader_readSection) 14 = .ok (.getfield 22, 3) := by decide +kernel
theorem d_Reader_readSection_17 : decode (m_c m_Reader_readSection) 17 = .ok (.getfield 71, 3) := by decide +kernel
theorem d_Reader_readSection_20 : decode (m_c m_Reader_readSection) 20 = .ok (.iload_n 1, 1) := by decide +kernel
theorem d_Reader_readSection_21 : decode (m_c m_Reader_readSection) 21 = .ok (.aaload, 1) := by decide +kernel
theorem d_Reader_readSection_22 : decode (m_c m_Reader_readSection) 22 = .ok (.getfield 75, 3) := by decide +kernel
theorem d_Reader_readSection_25 : decode (m_c m_Reader_readSection) 25 = .ok (.ifCond .eq 5, 3) := by decide +kernel
theorem d_Reader_readSection_28 : decode (m_c m_Reader_readSection) 28 = .ok (.iconst 0, 1) := by decide +kernel
theorem d_Reader_readSection_29 : decode (m_c m_Reader_readSection) 29 = .ok (.ireturn, 1) := by decide +kernel
theorem d_Reader_readSection_30 : decode (m_c m_Reader_readSection) 30 = .ok (.aload_n 0, 1) := by decide +kernel
theorem d_Reader_readSection_31 : decode (m_c m_Reader_readSection) 31 = .ok (.dup, 1) := by decide +kernel
theorem d_Reader_readSection_32 : decode (m_c m_Reader_readSection) 32 = .ok (.getfield 9, 3) := by decide +kernel
theorem d_Reader_readSection_35 : decode (m_c m_Reader_readSection) 35 = .ok (.iconst 1, 1) := by decide +kernel
theorem d_Reader_readSection_36 : decode (m_c m_Reader_readSection) 36 = .ok (.iadd, 1) := by decide +kernel
theorem d_Reader_readSection_37 : decode (m_c m_Reader_readSection) 37 = .ok (.putfield 9, 3) := by decide +kernel
theorem d_Reader_readSection_40 : decode (m_c m_Reader_readSection) 40 = .ok (.aload_n 0, 1) := by decide +kernel
theorem d_Reader_readSection_41 : decode (m_c m_Reader_readSection) 41 = .ok (.getfield 22, 3) := by decide +kernel
theorem d_Reader_readSection_44 : decode (m_c m_Reader_readSection) 44 = .ok (.iload_n 1, 1) := by decide +kernel
theorem d_Reader_readSection_45 : decode (m_c m_Reader_readSection) 45 = .ok (.invokevirtual 78, 3) := by decide +kernel
theorem d_Reader_readSection_48 : decode (m_c m_Reader_readSection) 48 = .ok (.aload_n 0, 1) := by decide +kernel
theorem d_Reader_readSection_49 : decode (m_c m_Reader_readSection) 49 = .ok (.getfield 22, 3) := by decide +kernel
theorem d_Reader_readSection_52 : decode (m_c m_Reader_readSection) 52 = .ok (.getfield 71, 3) := by decide +kernel
theorem d_Reader_readSection_55 : decode (m_c m_Reader_readSection) 55 = .ok (.iload_n 1, 1) := by decide +kernel
theorem d_Reader_readSection_56 : decode (m_c m_Reader_readSection) 56 = .ok (.aaload, 1) := by decide +kernel
theorem d_Reader_readSection_57 : decode (m_c m_Reader_readSection) 57 = .ok (.astore_n 2, 1) := by decide +kernel
theorem d_Reader_readSection_58 : decode (m_c m_Reader_readSection) 58 = .ok (.aload_n 0, 1) := by decide +kernel
theorem d_Reader_readSection_59 : decode (m_c m_Reader_readSection) 59 = .ok (.bipush 64, 2) := by decide +kernel
theorem d_Reader_readSection_61 : decode (m_c m_Reader_readSection) 61 = .ok (.invokevirtual 36, 3) := by decide +kernel
theorem d_Reader_readSection_64 : decode (m_c m_Reader_readSection) 64 = .ok (.ifCond .eq 46, 3) := by decide +kernel
theorem d_Reader_readSection_67 : decode (m_c m_Reader_readSection) 67 = .ok (.aload_n 2, 1) := by decide +kernel
theorem d_Reader_readSection_68 : decode (m_c m_Reader_readSection) 68 = .ok (.iconst 1, 1) := by decide +kernel
theorem d_Reader_readSection_69 : decode (m_c m_Reader_readSection) 69 = .ok (.putfield 82, 3) := by decide +kernel
theorem d_Reader_readSection_72 : decode (m_c m_Reader_readSection) 72 = .ok (.aload_n 2, 1) := by decide +kernel
theorem d_Reader_readSection_73 : decode (m_c m_Reader_readSection) 73 = .ok (.aload_n 0, 1) := by decide +kernel
theorem d_Reader_readSection_74 : decode (m_c m_Reader_readSection) 74 = .ok (.getfield 22, 3) := by decide +kernel
theorem d_Reader_readSection_77 : decode (m_c m_Reader_readSection) 77 = .ok (.getfield 85, 3) := by decide +kernel
theorem d_Reader_readSection_80 : decode (m_c m_Reader_readSection) 80 = .ok (.getfield 89, 3) := by decide +kernel
theorem d_Reader_readSection_83 : decode (m_c m_Reader_readSection) 83 = .ok (.putfield 94, 3) := by decide +kernel
theorem d_Reader_readSection_86 : decode (m_c m_Reader_readSection) 86 = .ok (.aload_n 0, 1) := by decide +kernel
theorem d_Reader_readSection_87 : decode (m_c m_Reader_readSection) 87 = .ok (.iconst 0, 1) := by decide +kernel
theorem d_Reader_readSection_88 : decode (m_c m_Reader_readSection) 88 = .ok (.invokevirtual 97, 3) := by decide +kernel
theorem d_Reader_readSection_91 : decode (m_c m_Reader_readSection) 91 = .ok (.ifCond .ne 5, 3) := by decide +kernel
theorem d_Reader_readSection_94 : decode (m_c m_Reader_readSection) 94 = .ok (.iconst 0, 1) := by decide +kernel
theorem d_Reader_readSection_95 : decode (m_c m_Reader_readSection) 95 = .ok (.ireturn, 1) := by decide +kernel
theorem d_Reader_readSection_96 : decode (m_c m_Reader_readSection) 96 = .ok (.aload_n 2, 1) := by decide +kernel
theorem d_Reader_readSection_97 : decode (m_c m_Reader_readSection) 97 = .ok (.aload_n 0, 1) := by decide +kernel
theorem d_Reader_readSection_98 : decode (m_c m_Reader_readSection) 98 = .ok (.getfield 22, 3) := by decide +kernel
theorem d_Reader_readSection_101 : decode (m_c m_Reader_readSection) 101 = .ok (.getfield 85, 3) := by decide +kernel
theorem d_Reader_readSection_104 : decode (m_c m_Reader_readSection) 104 = .ok (.getfield 89, 3) := by decide +kernel
theorem d_Reader_readSection_107 : decode (m_c m_Reader_readSection) 107 = .ok (.putfield 100, 3) := by decide +kernel
theorem d_Reader_readSection_110 : decode (m_c m_Reader_readSection) 110 = .ok (.aload_n 0, 1) := by decide +kernel
theorem d_Reader_readSection_111 : decode (m_c m_Reader_readSection) 111 = .ok (.bipush 123, 2) := by decide +kernel
theorem d_Reader_readSection_113 : decode (m_c m_Reader_readSection) 113 = .ok (.invokevirtual 36, 3) := by decide +kernel
theorem d_Reader_readSection_116 : decode (m_c m_Reader_readSection) 116 = .ok (.ifCond .eq 41, 3) := by decide +kernel
theorem d_Reader_readSection_119 : decode (m_c m_Reader_readSection) 119 = .ok (.aload_n 0, 1) := by decide +kernel
theorem d_Reader_readSection_120 : decode (m_c m_Reader_readSection) 120 = .ok (.aload_n 2, 1) := by decide +kernel
theorem d_Reader_readSection_121 : decode (m_c m_Reader_readSection) 121 = .ok (.invokevirtual 103, 3) := by decide +kernel
theorem d_Reader_readSection_124 : decode (m_c m_Reader_readSection) 124 = .ok (.ifCond .eq 33, 3) := by decide +kernel
theorem d_Reader_readSection_127 : decode (m_c m_Reader_readSection) 127 = .ok (.aload_n 0, 1) := by decide +kernel
theorem d_Reader_readSection_128 : decode (m_c m_Reader_readSection) 128 = .ok (.bipush 125, 2) := by decide +kernel
theorem d_Reader_readSection_130 : decode (m_c m_Reader_readSection) 130 = .ok (.invokevirtual 36, 3) := by decide +kernel
theorem d_Reader_readSection_133 : decode (m_c m_Reader_readSection) 133 = .ok (.ifCond .eq 24, 3) := by decide +kernel
theorem d_Reader_readSection_136 : decode (m_c m_Reader_readSection) 136 = .ok (.aload_n 0, 1) := by decide +kernel
theorem d_Reader_readSection_137 : decode (m_c m_Reader_readSection) 137 = .ok (.bipush 62, 2) := by decide +kernel
theorem d_Reader_readSection_139 : decode (m_c m_Reader_readSection) 139 = .ok (.invokevirtual 36, 3) := by decide +kernel
theorem d_Reader_readSection_142 : decode (m_c m_Reader_readSection) 142 = .ok (.ifCond .eq 15, 3) := by decide +kernel
theorem d_Reader_readSection_145 : decode (m_c m_Reader_readSection) 145 = .ok (.aload_n 0, 1) := by decide +kernel
theorem d_Reader_readSection_146 : decode (m_c m_Reader_readSection) 146 = .ok (.aload_n 2, 1) := by decide +kernel
theorem d_Reader_readSection_147 : decode (m_c m_Reader_readSection) 147 = .ok (.invokevirtual 107, 3) := by decide +kernel
theorem d_Reader_readSection_150 : decode (m_c m_Reader_readSection) 150 = .ok (.ifCond .eq 7, 3) := by decide +kernel
theorem d_Reader_readSection_153 : decode (m_c m_Reader_readSection) 153 = .ok (.iconst 1, 1) := by decide +kernel
theorem d_Reader_readSection_154 : decode (m_c m_Reader_readSection) 154 = .ok (.goto 4, 3) := by decide +kernel
theorem d_Reader_readSection_157 : decode (m_c m_Reader_readSection) 157 = .ok (.iconst 0, 1) := by decide +kernel
theorem d_Reader_readSection_158 : decode (m_c m_Reader_readSection) 158 = .ok (.ireturn, 1) := by decide +kernel
def p_Reader_readSection_158   (s0 : Int) (f g : q_F) : Option (Int × q_F × q_F) :=
  if s0 = 0 ∨ s0 = 1 then
    some (s0, f, g)
  else none
def p_Reader_readSection_157    (f g : q_F) : Option (Int × q_F × q_F) :=
  p_Reader_readSection_158   (0) f g
def p_Reader_readSection_110   (a2 : Nat) (f g : q_F) : Option (Int × q_F × q_F) :=
  if 28 ≤ a2 ∧ a2 < 36 then
    (p_Reader_skip (123) f g).bind fun x1 =>
    if q_sw x1.1 = 0 then
      p_Reader_readSection_157    x1.2.1 x1.2.2
    else
      (p_Reader_readItems (a2) x1.2.1 x1.2.2).bind fun x4 =>
      if q_sw x4.1 = 0 then
        p_Reader_readSection_157    x4.2.1 x4.2.2
      else
        (p_Reader_skip (125) x4.2.1 x4.2.2).bind fun x7 =>
        if q_sw x7.1 = 0 then
          p_Reader_readSection_157    x7.2.1 x7.2.2
        else
          (p_Reader_skip (62) x7.2.1 x7.2.2).bind fun x10 =>
          if q_sw x10.1 = 0 then
            p_Reader_readSection_157    x10.2.1 x10.2.2
          else
            (p_Reader_readHomes (a2) x10.2.1 x10.2.2).bind fun x13 =>
            if q_sw x13.1 = 0 then
              p_Reader_readSection_157    x13.2.1 x13.2.2
            else
              p_Reader_readSection_158   (1) x13.2.1 x13.2.2
  else none
def p_Reader_readSection_28    (f g : q_F) : Option (Int × q_F × q_F) :=
  some (0, f, g)
def p_Reader_readSection   (f g : q_F) : Option (Int × q_F × q_F) :=
  (p_Reader_letter (65) (8) f g).bind fun x1 =>
  if q_sw x1.1 < 0 then
    p_Reader_readSection_28    x1.2.1 x1.2.2
  else
    if 0 ≤ x1.1 ∧ x1.1 < 8 then
      if q_sw (x1.2.1 (28 + Int.toNat x1.1) 0) = 0 then
        q_let (ma_up x1.2.1 54 2 ((x1.2.1 54 2) + 1)) fun f6 =>
        (p_Plan_tellSection (x1.1) f6 x1.2.2).bind fun x7 =>
        if 0 ≤ x1.1 ∧ x1.1 < 8 then
          (p_Reader_skip (64) x7.1 x7.2).bind fun x10 =>
          if q_sw x10.1 = 0 then
            p_Reader_readSection_110   (28 + Int.toNat x1.1) x10.2.1 x10.2.2
          else
            q_let (ma_up x10.2.1 (28 + Int.toNat x1.1) 1 1) fun f13 =>
            q_let (ma_up f13 (28 + Int.toNat x1.1) 2 (f13 11 2)) fun f14 =>
            (p_Reader_expr (0) f14 x10.2.2).bind fun x15 =>
            if q_sw x15.1 = 0 then
              some (0, x15.2.1, x15.2.2)
            else
              q_let (ma_up x15.2.1 (28 + Int.toNat x1.1) 3 (x15.2.1 11 2)) fun f18 =>
              p_Reader_readSection_110   (28 + Int.toNat x1.1) f18 x15.2.2
        else none
      else
        p_Reader_readSection_28    x1.2.1 x1.2.2
    else none
theorem e_Reader_readSection_158 (t : q_V) (ok : ma_ok (q_G t))  {Q : Option Value → ma_H → Prop} {y : Int × q_F × q_F} (hQ : Q (some (ma_i y.1)) (q_h y.2.1 y.2.2))   (s0 : Int) (f g : q_F) (hp : p_Reader_readSection_158   s0 f g = some y) : ma_Ev (q_G t) 681 6823 0 0 m_Reader_readSection 158 [] [ma_i (s0)] (q_h f g) (ma_zr (q_G t) false Q) := by
  unfold p_Reader_readSection_158 at hp
  replace hp := q_if hp
  obtain ⟨hb1, hp⟩ := hp
  cases Option.some.inj hp
  exact et_zret (pc := 158) d_Reader_readSection_158 rfl hb1 hQ
theorem e_Reader_readSection_157 (t : q_V) (ok : ma_ok (q_G t))  {Q : Option Value → ma_H → Prop} {y : Int × q_F × q_F} (hQ : Q (some (ma_i y.1)) (q_h y.2.1 y.2.2))    (f g : q_F) (hp : p_Reader_readSection_157    f g = some y) : ma_Ev (q_G t) 681 6823 0 0 m_Reader_readSection 157 [] [] (q_h f g) (ma_zr (q_G t) false Q) := by
  unfold p_Reader_readSection_157 at hp
  refine ev_iconst (pc := 157) d_Reader_readSection_157 ?_
  refine ev_sub (ls2 := []) [] rfl ?_
  exact e_Reader_readSection_158 t ok  hQ   (0) f g hp
theorem e_Reader_readSection_110 (t : q_V) (ok : ma_ok (q_G t))  {Q : Option Value → ma_H → Prop} {y : Int × q_F × q_F} (hQ : Q (some (ma_i y.1)) (q_h y.2.1 y.2.2))   (a2 : Nat) (f g : q_F) (hp : p_Reader_readSection_110   a2 f g = some y) : ma_Ev (q_G t) 681 6823 0 0 m_Reader_readSection 110 [(0, q_a t (54)), (2, q_a t (a2))] [] (q_h f g) (ma_zr (q_G t) false Q) := by
  unfold p_Reader_readSection_110 at hp
  replace hp := q_if hp
  obtain ⟨hb_a2, hp⟩ := hp
  refine et_aload_n (pc := 110) d_Reader_readSection_110 rfl rfl ?_
  refine ev_bipush (pc := 111) d_Reader_readSection_111 rfl ?_
  replace hp := q_bind hp
  obtain ⟨x1, hm2, hp⟩ := hp
  refine et_callVi (pc := 113) (f1 := x1.2.1) (g1 := x1.2.2) ok [ma_i (123)] [] (cf_Reader_36 t) d_Reader_readSection_113 s_54 k_8 rfl (t_Reader_skip t ok (123) f g hm2 ⟨rfl, rfl⟩) rfl rfl (by decide) (by decide) (q_ble rfl) ?_
  refine et_if_eq (pc := 116) (tgt := 157) d_Reader_readSection_116 (by decide) (fun hj3 => ?_) (fun hj3 => ?_)
  · rw [if_pos hj3] at hp
    refine ev_sub (ls2 := []) [] rfl ?_
    exact e_Reader_readSection_157 t ok  hQ    x1.2.1 x1.2.2 hp
  · rw [if_neg hj3] at hp
    refine et_aload_n (pc := 119) d_Reader_readSection_119 rfl rfl ?_
    refine et_aload_n (pc := 120) d_Reader_readSection_120 rfl rfl ?_
    replace hp := q_bind hp
    obtain ⟨x4, hm5, hp⟩ := hp
    refine et_callVi (pc := 121) (f1 := x4.2.1) (g1 := x4.2.2) ok [q_a t (a2)] [] (cf_Reader_103 t) d_Reader_readSection_121 s_54 k_8 rfl (t_Reader_readItems t ok (a2) x1.2.1 x1.2.2 hm5 ⟨rfl, rfl⟩) rfl rfl (by decide) (by decide) (q_ble rfl) ?_
    refine et_if_eq (pc := 124) (tgt := 157) d_Reader_readSection_124 (by decide) (fun hj6 => ?_) (fun hj6 => ?_)
    · rw [if_pos hj6] at hp
      refine ev_sub (ls2 := []) [] rfl ?_
      exact e_Reader_readSection_157 t ok  hQ    x4.2.1 x4.2.2 hp
    · rw [if_neg hj6] at hp
      refine et_aload_n (pc := 127) d_Reader_readSection_127 rfl rfl ?_
      refine ev_bipush (pc := 128) d_Reader_readSection_128 rfl ?_
      replace hp := q_bind hp
      obtain ⟨x7, hm8, hp⟩ := hp
      refine et_callVi (pc := 130) (f1 := x7.2.1) (g1 := x7.2.2) ok [ma_i (125)] [] (cf_Reader_36 t) d_Reader_readSection_130 s_54 k_8 rfl (t_Reader_skip t ok (125) x4.2.1 x4.2.2 hm8 ⟨rfl, rfl⟩) rfl rfl (by decide) (by decide) (q_ble rfl) ?_
      refine et_if_eq (pc := 133) (tgt := 157) d_Reader_readSection_133 (by decide) (fun hj9 => ?_) (fun hj9 => ?_)
      · rw [if_pos hj9] at hp
        refine ev_sub (ls2 := []) [] rfl ?_
        exact e_Reader_readSection_157 t ok  hQ    x7.2.1 x7.2.2 hp
      · rw [if_neg hj9] at hp
        refine et_aload_n (pc := 136) d_Reader_readSection_136 rfl rfl ?_
        refine ev_bipush (pc := 137) d_Reader_readSection_137 rfl ?_
        replace hp := q_bind hp
        obtain ⟨x10, hm11, hp⟩ := hp
        refine et_callVi (pc := 139) (f1 := x10.2.1) (g1 := x10.2.2) ok [ma_i (62)] [] (cf_Reader_36 t) d_Reader_readSection_139 s_54 k_8 rfl (t_Reader_skip t ok (62) x7.2.1 x7.2.2 hm11 ⟨rfl, rfl⟩) rfl rfl (by decide) (by decide) (q_ble rfl) ?_
        refine et_if_eq (pc := 142) (tgt := 157) d_Reader_readSection_142 (by decide) (fun hj12 => ?_) (fun hj12 => ?_)
        · rw [if_pos hj12] at hp
          refine ev_sub (ls2 := []) [] rfl ?_
          exact e_Reader_readSection_157 t ok  hQ    x10.2.1 x10.2.2 hp
        · rw [if_neg hj12] at hp
          refine et_aload_n (pc := 145) d_Reader_readSection_145 rfl rfl ?_
          refine et_aload_n (pc := 146) d_Reader_readSection_146 rfl rfl ?_
          replace hp := q_bind hp
          obtain ⟨x13, hm14, hp⟩ := hp
          refine et_callVi (pc := 147) (f1 := x13.2.1) (g1 := x13.2.2) ok [q_a t (a2)] [] (cf_Reader_107 t) d_Reader_readSection_147 s_54 k_8 rfl (t_Reader_readHomes t ok (a2) x10.2.1 x10.2.2 hm14 ⟨rfl, rfl⟩) rfl rfl (by decide) (by decide) (q_ble rfl) ?_
          refine et_if_eq (pc := 150) (tgt := 157) d_Reader_readSection_150 (by decide) (fun hj15 => ?_) (fun hj15 => ?_)
          · rw [if_pos hj15] at hp
            refine ev_sub (ls2 := []) [] rfl ?_
            exact e_Reader_readSection_157 t ok  hQ    x13.2.1 x13.2.2 hp
          · rw [if_neg hj15] at hp
            refine ev_iconst (pc := 153) d_Reader_readSection_153 ?_
            refine ev_goto (pc := 154) (tgt := 158) d_Reader_readSection_154 (by decide) ?_
            refine ev_sub (ls2 := []) [] rfl ?_
            exact e_Reader_readSection_158 t ok  hQ   (1) x13.2.1 x13.2.2 hp
theorem e_Reader_readSection_28 (t : q_V) (ok : ma_ok (q_G t))  {Q : Option Value → ma_H → Prop} {y : Int × q_F × q_F} (hQ : Q (some (ma_i y.1)) (q_h y.2.1 y.2.2))    (f g : q_F) (hp : p_Reader_readSection_28    f g = some y) : ma_Ev (q_G t) 681 6823 0 0 m_Reader_readSection 28 [] [] (q_h f g) (ma_zr (q_G t) false Q) := by
  unfold p_Reader_readSection_28 at hp
  refine ev_iconst (pc := 28) d_Reader_readSection_28 ?_
  cases Option.some.inj hp
  exact et_zret (pc := 29) d_Reader_readSection_29 rfl (by decide) hQ
theorem t_Reader_readSection (t : q_V) (ok : ma_ok (q_G t))  {Q : Option Value → ma_H → Prop} {y : Int × q_F × q_F}  (f g : q_F) (hp : p_Reader_readSection   f g = some y) (hQ : Q (some (ma_i y.1)) (q_h y.2.1 y.2.2)) : ma_Met (q_G t) false 681 6823 0 0 m_Reader_readSection [q_a t (54)] (q_h f g) Q := by
  refine ma_met (by decide +kernel) (q_ble rfl) rfl ?_
  change ma_Ev (q_G t) 681 6823 0 0 m_Reader_readSection 0 [(0, q_a t (54))] [] (q_h f g) (ma_zr (q_G t) false Q)
  unfold p_Reader_readSection at hp
  refine et_aload_n (pc := 0) d_Reader_readSection_0 rfl rfl ?_
  refine ev_bipush (pc := 1) d_Reader_readSection_1 rfl ?_
  refine ev_bipush (pc := 3) d_Reader_readSection_3 rfl ?_
  replace hp := q_bind hp
  obtain ⟨x1, hm2, hp⟩ := hp
  refine et_callVi (pc := 5) (f1 := x1.2.1) (g1 := x1.2.2) ok [ma_i (65), ma_i (8)] [] (cf_Reader_50 t) d_Reader_readSection_5 s_54 k_8 rfl (t_Reader_letter t ok (65) (8) f g hm2 ⟨rfl, rfl⟩) rfl rfl (by decide) (by decide) (q_ble rfl) ?_
  refine ev_istore_n (pc := 8) d_Reader_readSection_8 rfl (by decide) [(1, _), (0, _)] rfl ?_
  refine ev_iload_n (pc := 9) d_Reader_readSection_9 rfl rfl ?_
  refine et_if_lt (pc := 10) (tgt := 28) d_Reader_readSection_10 (by decide) (fun hj3 => ?_) (fun hj3 => ?_)
  · rw [if_pos hj3] at hp
    refine ev_sub (ls2 := []) [] rfl ?_
    exact e_Reader_readSection_28 t ok  hQ    x1.2.1 x1.2.2 hp
  · rw [if_neg hj3] at hp
    refine et_aload_n (pc := 13) d_Reader_readSection_13 rfl rfl ?_
    refine et_getr (pc := 14) ok (fl_Reader_22 t) rfl d_Reader_readSection_14 s_54 r_54_1 ?_
    refine et_getr (pc := 17) ok (fl_Reader_71 t) rfl d_Reader_readSection_17 s_3 r_3_2 ?_
    refine ev_iload_n (pc := 20) d_Reader_readSection_20 rfl rfl ?_
    replace hp := q_if hp
    obtain ⟨hb4, hp⟩ := hp
    refine et_aald (pc := 21) d_Reader_readSection_21 s_6 hb4 (by decide) (r_6 _ (by omega)) ?_
    refine et_geti (pc := 22) ok (fl_Reader_75 t) rfl d_Reader_readSection_22 (s_28 _ (by omega) (by omega)) ?_
    refine et_if_eq (pc := 25) (tgt := 30) d_Reader_readSection_25 (by decide) (fun hj5 => ?_) (fun hj5 => ?_)
    · rw [if_pos hj5] at hp
      refine et_aload_n (pc := 30) d_Reader_readSection_30 rfl rfl ?_
      refine ev_dup (pc := 31) d_Reader_readSection_31 rfl ?_
      refine et_geti (pc := 32) ok (fl_Reader_9 t) rfl d_Reader_readSection_32 s_54 ?_
      refine ev_iconst (pc := 35) d_Reader_readSection_35 ?_
      refine ev_iadd (pc := 36) d_Reader_readSection_36 ?_
      refine et_puti (pc := 37) ok (fl_Reader_9 t) d_Reader_readSection_37 s_54 ?_
      replace hp := q_let_of hp
      obtain ⟨f6, hz, hp⟩ := hp
      rw [← hz]
      clear hz
      refine et_aload_n (pc := 40) d_Reader_readSection_40 rfl rfl ?_
      refine et_getr (pc := 41) ok (fl_Reader_22 t) rfl d_Reader_readSection_41 s_54 r_54_1 ?_
      refine ev_iload_n (pc := 44) d_Reader_readSection_44 rfl rfl ?_
      replace hp := q_bind hp
      obtain ⟨x7, hm8, hp⟩ := hp
      refine et_callVv (pc := 45) (f1 := x7.1) (g1 := x7.2) ok [ma_i (x1.1)] [] (cf_Reader_78 t) d_Reader_readSection_45 s_3 k_7 rfl (t_Plan_tellSection t ok (x1.1) f6 x1.2.2 hm8 ⟨rfl, rfl⟩) rfl rfl (by decide) (by decide) (q_ble rfl) ?_
      refine et_aload_n (pc := 48) d_Reader_readSection_48 rfl rfl ?_
      refine et_getr (pc := 49) ok (fl_Reader_22 t) rfl d_Reader_readSection_49 s_54 r_54_1 ?_
      refine et_getr (pc := 52) ok (fl_Reader_71 t) rfl d_Reader_readSection_52 s_3 r_3_2 ?_
      refine ev_iload_n (pc := 55) d_Reader_readSection_55 rfl rfl ?_
      replace hp := q_if hp
      obtain ⟨hb9, hp⟩ := hp
      refine et_aald (pc := 56) d_Reader_readSection_56 s_6 hb9 (by decide) (r_6 _ (by omega)) ?_
      refine et_astore_n (pc := 57) d_Reader_readSection_57 rfl (by decide) [(2, _), (1, _), (0, _)] rfl ?_
      refine et_aload_n (pc := 58) d_Reader_readSection_58 rfl rfl ?_
      refine ev_bipush (pc := 59) d_Reader_readSection_59 rfl ?_
      replace hp := q_bind hp
      obtain ⟨x10, hm11, hp⟩ := hp
      refine et_callVi (pc := 61) (f1 := x10.2.1) (g1 := x10.2.2) ok [ma_i (64)] [] (cf_Reader_36 t) d_Reader_readSection_61 s_54 k_8 rfl (t_Reader_skip t ok (64) x7.1 x7.2 hm11 ⟨rfl, rfl⟩) rfl rfl (by decide) (by decide) (q_ble rfl) ?_
      refine et_if_eq (pc := 64) (tgt := 110) d_Reader_readSection_64 (by decide) (fun hj12 => ?_) (fun hj12 => ?_)
      · rw [if_pos hj12] at hp
        refine ev_sub (ls2 := [(0, q_a t (54)), (2, q_a t (28 + Int.toNat x1.1))]) [2, 0] rfl ?_
        exact e_Reader_readSection_110 t ok  hQ   (28 + Int.toNat x1.1) x10.2.1 x10.2.2 hp
      · rw [if_neg hj12] at hp
        refine et_aload_n (pc := 67) d_Reader_readSection_67 rfl rfl ?_
        refine ev_iconst (pc := 68) d_Reader_readSection_68 ?_
        refine et_putz (pc := 69) ok (fl_Reader_82 t) (by decide) d_Reader_readSection_69 (s_28 _ (by omega) (by omega)) ?_
        replace hp := q_let_of hp
        obtain ⟨f13, hz, hp⟩ := hp
        rw [← hz]
        clear hz
        refine et_aload_n (pc := 72) d_Reader_readSection_72 rfl rfl ?_
        refine et_aload_n (pc := 73) d_Reader_readSection_73 rfl rfl ?_
        refine et_getr (pc := 74) ok (fl_Reader_22 t) rfl d_Reader_readSection_74 s_54 r_54_1 ?_
        refine et_getr (pc := 77) ok (fl_Reader_85 t) rfl d_Reader_readSection_77 s_3 r_3_5 ?_
        refine et_geti (pc := 80) ok (fl_Reader_89 t) rfl d_Reader_readSection_80 s_11 ?_
        refine et_puti (pc := 83) ok (fl_Reader_94 t) d_Reader_readSection_83 (s_28 _ (by omega) (by omega)) ?_
        replace hp := q_let_of hp
        obtain ⟨f14, hz, hp⟩ := hp
        rw [← hz]
        clear hz
        refine et_aload_n (pc := 86) d_Reader_readSection_86 rfl rfl ?_
        refine ev_iconst (pc := 87) d_Reader_readSection_87 ?_
        replace hp := q_bind hp
        obtain ⟨x15, hm16, hp⟩ := hp
        refine et_callVi (pc := 88) (f1 := x15.2.1) (g1 := x15.2.2) ok [ma_i (0)] [] (cf_Reader_97 t) d_Reader_readSection_88 s_54 k_8 rfl (t_Reader_expr t ok (0) f14 x10.2.2 hm16 ⟨rfl, rfl⟩) rfl rfl (by decide) (by decide) (q_ble rfl) ?_
        refine et_if_ne (pc := 91) (tgt := 96) d_Reader_readSection_91 (by decide) (fun hj17 => ?_) (fun hj17 => ?_)
        · rw [if_neg hj17] at hp
          refine et_aload_n (pc := 96) d_Reader_readSection_96 rfl rfl ?_
          refine et_aload_n (pc := 97) d_Reader_readSection_97 rfl rfl ?_
          refine et_getr (pc := 98) ok (fl_Reader_22 t) rfl d_Reader_readSection_98 s_54 r_54_1 ?_
          refine et_getr (pc := 101) ok (fl_Reader_85 t) rfl d_Reader_readSection_101 s_3 r_3_5 ?_
          refine et_geti (pc := 104) ok (fl_Reader_89 t) rfl d_Reader_readSection_104 s_11 ?_
          refine et_puti (pc := 107) ok (fl_Reader_100 t) d_Reader_readSection_107 (s_28 _ (by omega) (by omega)) ?_
          replace hp := q_let_of hp
          obtain ⟨f18, hz, hp⟩ := hp
          rw [← hz]
          clear hz
          refine ev_sub (ls2 := [(0, q_a t (54)), (2, q_a t (28 + Int.toNat x1.1))]) [2, 0] rfl ?_
          exact e_Reader_readSection_110 t ok  hQ   (28 + Int.toNat x1.1) f18 x15.2.2 hp
        · rw [if_pos hj17] at hp
          refine ev_iconst (pc := 94) d_Reader_readSection_94 ?_
          cases Option.some.inj hp
          exact et_zret (pc := 95) d_Reader_readSection_95 rfl (by decide) hQ
    · rw [if_neg hj5] at hp
      refine ev_sub (ls2 := []) [] rfl ?_
      exact e_Reader_readSection_28 t ok  hQ    x1.2.1 x1.2.2 hp
theorem d_Reader_readScript_0 : decode (m_c m_Reader_readScript) 0 = .ok (.aload_n 0, 1) := by decide +kernel
theorem d_Reader_readScript_1 : decode (m_c m_Reader_readScript) 1 = .ok (.getfield 22, 3) := by decide +kernel
theorem d_Reader_readScript_4 : decode (m_c m_Reader_readScript) 4 = .ok (.invokevirtual 26, 3) := by decide +kernel
theorem d_Reader_readScript_7 : decode (m_c m_Reader_readScript) 7 = .ok (.aload_n 0, 1) := by decide +kernel
theorem d_Reader_readScript_8 : decode (m_c m_Reader_readScript) 8 = .ok (.iconst 0, 1) := by decide +kernel
theorem d_Reader_readScript_9 : decode (m_c m_Reader_readScript) 9 = .ok (.putfield 9, 3) := by decide +kernel
theorem d_Reader_readScript_12 : decode (m_c m_Reader_readScript) 12 = .ok (.iconst 0, 1) := by decide +kernel
theorem d_Reader_readScript_13 : decode (m_c m_Reader_readScript) 13 = .ok (.istore_n 1, 1) := by decide +kernel
theorem d_Reader_readScript_14 : decode (m_c m_Reader_readScript) 14 = .ok (.iload_n 1, 1) := by decide +kernel
theorem d_Reader_readScript_15 : decode (m_c m_Reader_readScript) 15 = .ok (.sipush 160, 3) := by decide +kernel
theorem d_Reader_readScript_18 : decode (m_c m_Reader_readScript) 18 = .ok (.if_icmp .ge 91, 3) := by decide +kernel
theorem d_Reader_readScript_21 : decode (m_c m_Reader_readScript) 21 = .ok (.aload_n 0, 1) := by decide +kernel
theorem d_Reader_readScript_22 : decode (m_c m_Reader_readScript) 22 = .ok (.getfield 9, 3) := by decide +kernel
theorem d_Reader_readScript_25 : decode (m_c m_Reader_readScript) 25 = .ok (.aload_n 0, 1) := by decide +kernel
theorem d_Reader_readScript_26 : decode (m_c m_Reader_readScript) 26 = .ok (.getfield 18, 3) := by decide +kernel
theorem d_Reader_readScript_29 : decode (m_c m_Reader_readScript) 29 = .ok (.getfield 31, 3) := by decide +kernel
theorem d_Reader_readScript_32 : decode (m_c m_Reader_readScript) 32 = .ok (.if_icmp .ge 77, 3) := by decide +kernel
theorem d_Reader_readScript_35 : decode (m_c m_Reader_readScript) 35 = .ok (.iconst 0, 1) := by decide +kernel
theorem d_Reader_readScript_36 : decode (m_c m_Reader_readScript) 36 = .ok (.istore_n 2, 1) := by decide +kernel
theorem d_Reader_readScript_37 : decode (m_c m_Reader_readScript) 37 = .ok (.aload_n 0, 1) := by decide +kernel
theorem d_Reader_readScript_38 : decode (m_c m_Reader_readScript) 38 = .ok (.bipush 77, 2) := by decide +kernel
theorem d_Reader_readScript_40 : decode (m_c m_Reader_readScript) 40 = .ok (.invokevirtual 36, 3) := by decide +kernel
theorem d_Reader_readScript_43 : decode (m_c m_Reader_readScript) 43 = .ok (.ifCond .eq 11, 3) := by decide +kernel
theorem d_Reader_readScript_46 : decode (m_c m_Reader_readScript) 46 = .ok (.aload_n 0, 1) := by decide +kernel
theorem d_Reader_readScript_47 : decode (m_c m_Reader_readScript) 47 = .ok (.invokevirtual 40, 3) := by decide +kernel
theorem d_Reader_readScript_50 : decode (m_c m_Reader_readScript) 50 = .ok (.istore_n 2, 1) := by decide +kernel
theorem d_Reader_readScript_51 : decode (m_c m_Reader_readScript) 51 = .ok (.goto 34, 3) := by decide +kernel
theorem d_Reader_readScript_54 : decode (m_c m_Reader_readScript) 54 = .ok (.aload_n 0, 1) := by decide +kernel
theorem d_Reader_readScript_55 : decode (m_c m_Reader_readScript) 55 = .ok (.bipush 83, 2) := by decide +kernel
theorem d_Reader_readScript_57 : decode (m_c m_Reader_readScript) 57 = .ok (.invokevirtual 36, 3) := by decide +kernel
theorem d_Reader_readScript_60 : decode (m_c m_Reader_readScript) 60 = .ok (.ifCond .eq 11, 3) := by decide +kernel
theorem d_Reader_readScript_63 : decode (m_c m_Reader_readScript) 63 = .ok (.aload_n 0, 1) := by decide +kernel
theorem d_Reader_readScript_64 : decode (m_c m_Reader_readScript) 64 = .ok (.invokevirtual 44, 3) := by decide +kernel
theorem d_Reader_readScript_67 : decode (m_c m_Reader_readScript) 67 = .ok (.istore_n 2, 1) := by decide +kernel
theorem d_Reader_readScript_68 : decode (m_c m_Reader_readScript) 68 = .ok (.goto 17, 3) := by decide +kernel
theorem d_Reader_readScript_71 : decode (m_c m_Reader_readScript) 71 = .ok (.aload_n 0, 1) := by decide +kernel
theorem d_Reader_readScript_72 : decode (m_c m_Reader_readScript) 72 = .ok (.bipush 89, 2) := by decide +kernel
theorem d_Reader_readScript_74 : decode (m_c m_Reader_readScript) 74 = .ok (.invokevirtual 36, 3) := by decide +kernel
theorem d_Reader_readScript_77 : decode (m_c m_Reader_readScript) 77 = .ok (.ifCond .eq 8, 3) := by decide +kernel
theorem d_Reader_readScript_80 : decode (m_c m_Reader_readScript) 80 = .ok (.aload_n 0, 1) := by decide +kernel
theorem d_Reader_readScript_81 : decode (m_c m_Reader_readScript) 81 = .ok (.invokevirtual 47, 3) := by decide +kernel
theorem d_Reader_readScript_84 : decode (m_c m_Reader_readScript) 84 = .ok (.istore_n 2, 1) := by decide +kernel
theorem d_Reader_readScript_85 : decode (m_c m_Reader_readScript) 85 = .ok (.iload_n 2, 1) := by decide +kernel
theorem d_Reader_readScript_86 : decode (m_c m_Reader_readScript) 86 = .ok (.ifCond .eq 12, 3) := by decide +kernel
theorem d_Reader_readScript_89 : decode (m_c m_Reader_readScript) 89 = .ok (.aload_n 0, 1) := by decide +kernel
theorem d_Reader_readScript_90 : decode (m_c m_Reader_readScript) 90 = .ok (.bipush 59, 2) := by decide +kernel
theorem d_Reader_readScript_92 : decode (m_c m_Reader_readScript) 92 = .ok (.invokevirtual 36, 3) := by decide +kernel
theorem d_Reader_readScript_95 : decode (m_c m_Reader_readScript) 95 = .ok (.ifCond .ne 8, 3) := by decide +kernel
theorem d_Reader_readScript_98 : decode (m_c m_Reader_readScript) 98 = .ok (.aload_n 0, 1) := by decide +kernel
theorem d_Reader_readScript_99 : decode (m_c m_Reader_readScript) 99 = .ok (.getfield 9, 3) := by decide +kernel
theorem d_Reader_readScript_102 : decode (m_c m_Reader_readScript) 102 = .ok (.ireturn, 1) := by decide +kernel
theorem d_Reader_readScript_103 : decode (m_c m_Reader_readScript) 103 = .ok (.iinc 1 1, 3) := by decide +kernel
theorem d_Reader_readScript_106 : decode (m_c m_Reader_readScript) 106 = .ok (.goto (-92), 3) := by decide +kernel
theorem d_Reader_readScript_109 : decode (m_c m_Reader_readScript) 109 = .ok (.iconst (-1), 1) := by decide +kernel
theorem d_Reader_readScript_110 : decode (m_c m_Reader_readScript) 110 = .ok (.ireturn, 1) := by decide +kernel
def p_Reader_readScript_109    (f g : q_F) : Option (Int × q_F × q_F) :=
  some (-1, f, g)
def p_Reader_readScript_98    (f g : q_F) : Option (Int × q_F × q_F) :=
  some (f 54 2, f, g)
def p_Reader_readScript_85  (c14 : Int → q_F → q_F → Option (Int × q_F × q_F)) (v1 : Int) (v2 : Int) (f g : q_F) : Option (Int × q_F × q_F) :=
  if q_sw v2 = 0 then
    p_Reader_readScript_98    f g
  else
    (p_Reader_skip (59) f g).bind fun x2 =>
    if q_sw x2.1 = 0 then
      p_Reader_readScript_98    x2.2.1 x2.2.2
    else
      q_let (v1 + 1) fun z5 =>
      c14 (z5) x2.2.1 x2.2.2
def p_Reader_readScript_14   : Nat → Int → q_F → q_F → Option (Int × q_F × q_F)
  | 0, _, _, _ => none
  | n + 1, v1, f, g =>
    if q_sw 160 ≤ q_sw v1 then
      p_Reader_readScript_109    f g
    else
      if q_sw (f 1 1) ≤ q_sw (f 54 2) then
        p_Reader_readScript_109    f g
      else
        (p_Reader_skip (77) f g).bind fun x3 =>
        if q_sw x3.1 = 0 then
          (p_Reader_skip (83) x3.2.1 x3.2.2).bind fun x6 =>
          if q_sw x6.1 = 0 then
            (p_Reader_skip (89) x6.2.1 x6.2.2).bind fun x9 =>
            if q_sw x9.1 = 0 then
              p_Reader_readScript_85  (p_Reader_readScript_14   n) (v1) (0) x9.2.1 x9.2.2
            else
              (p_Reader_readSymbol  x9.2.1 x9.2.2).bind fun x12 =>
              p_Reader_readScript_85  (p_Reader_readScript_14   n) (v1) (x12.1) x12.2.1 x12.2.2
          else
            (p_Reader_readSection  x6.2.1 x6.2.2).bind fun x14 =>
            p_Reader_readScript_85  (p_Reader_readScript_14   n) (v1) (x14.1) x14.2.1 x14.2.2
        else
          (p_Reader_readRegion  x3.2.1 x3.2.2).bind fun x16 =>
          p_Reader_readScript_85  (p_Reader_readScript_14   n) (v1) (x16.1) x16.2.1 x16.2.2
def p_Reader_readScript   (f g : q_F) : Option (Int × q_F × q_F) :=
  (p_Plan_forget  f g).bind fun x1 =>
  q_let (ma_up x1.1 54 2 0) fun f3 =>
  p_Reader_readScript_14   1000 (0) f3 x1.2
theorem e_Reader_readScript_109 (t : q_V) (ok : ma_ok (q_G t))  {Q : Option Value → ma_H → Prop} {y : Int × q_F × q_F} (hQ : Q (some (ma_i y.1)) (q_h y.2.1 y.2.2))    (f g : q_F) (hp : p_Reader_readScript_109    f g = some y) : ma_Ev (q_G t) 682 6845 0 0 m_Reader_readScript 109 [] [] (q_h f g) (ma_zr (q_G t) false Q) := by
  unfold p_Reader_readScript_109 at hp
  refine ev_iconst (pc := 109) d_Reader_readScript_109 ?_
  cases Option.some.inj hp
  exact et_iret (pc := 110) d_Reader_readScript_110 rfl hQ
theorem e_Reader_readScript_98 (t : q_V) (ok : ma_ok (q_G t))  {Q : Option Value → ma_H → Prop} {y : Int × q_F × q_F} (hQ : Q (some (ma_i y.1)) (q_h y.2.1 y.2.2))    (f g : q_F) (hp : p_Reader_readScript_98    f g = some y) : ma_Ev (q_G t) 682 6845 0 0 m_Reader_readScript 98 [(0, q_a t (54))] [] (q_h f g) (ma_zr (q_G t) false Q) := by
  unfold p_Reader_readScript_98 at hp
  refine et_aload_n (pc := 98) d_Reader_readScript_98 rfl rfl ?_
  refine et_geti (pc := 99) ok (fl_Reader_9 t) rfl d_Reader_readScript_99 s_54 ?_
  cases Option.some.inj hp
  exact et_iret (pc := 102) d_Reader_readScript_102 rfl hQ
theorem e_Reader_readScript_85 (t : q_V) (ok : ma_ok (q_G t))  {Q : Option Value → ma_H → Prop} {y : Int × q_F × q_F} (hQ : Q (some (ma_i y.1)) (q_h y.2.1 y.2.2)) (c14 : Int → q_F → q_F → Option (Int × q_F × q_F)) (hc14 : ∀ (v1 : Int) (f g : q_F), c14 v1 f g = some y → ma_Ev (q_G t) 682 6845 0 0 m_Reader_readScript 14 [(0, q_a t (54)), (1, ma_i (v1))] [] (q_h f g) (ma_zr (q_G t) false Q)) (v1 : Int) (v2 : Int) (f g : q_F) (hp : p_Reader_readScript_85  c14 v1 v2 f g = some y) : ma_Ev (q_G t) 682 6845 0 0 m_Reader_readScript 85 [(0, q_a t (54)), (1, ma_i (v1)), (2, ma_i (v2))] [] (q_h f g) (ma_zr (q_G t) false Q) := by
  unfold p_Reader_readScript_85 at hp
  refine ev_iload_n (pc := 85) d_Reader_readScript_85 rfl rfl ?_
  refine et_if_eq (pc := 86) (tgt := 98) d_Reader_readScript_86 (by decide) (fun hj1 => ?_) (fun hj1 => ?_)
  · rw [if_pos hj1] at hp
    refine ev_sub (ls2 := [(0, q_a t (54))]) [0] rfl ?_
    exact e_Reader_readScript_98 t ok  hQ    f g hp
  · rw [if_neg hj1] at hp
    refine et_aload_n (pc := 89) d_Reader_readScript_89 rfl rfl ?_
    refine ev_bipush (pc := 90) d_Reader_readScript_90 rfl ?_
    replace hp := q_bind hp
    obtain ⟨x2, hm3, hp⟩ := hp
    refine et_callVi (pc := 92) (f1 := x2.2.1) (g1 := x2.2.2) ok [ma_i (59)] [] (cf_Reader_36 t) d_Reader_readScript_92 s_54 k_8 rfl (t_Reader_skip t ok (59) f g hm3 ⟨rfl, rfl⟩) rfl rfl (by decide) (by decide) (q_ble rfl) ?_
    refine et_if_ne (pc := 95) (tgt := 103) d_Reader_readScript_95 (by decide) (fun hj4 => ?_) (fun hj4 => ?_)
    · rw [if_neg hj4] at hp
      refine ev_iinc (pc := 103) d_Reader_readScript_103 (by decide) rfl [(1, _), (0, _), (2, _)] rfl ?_
      replace hp := q_let_of hp
      obtain ⟨z5, hz, hp⟩ := hp
      rw [← hz]
      clear hz
      refine ev_goto (pc := 106) (tgt := 14) d_Reader_readScript_106 (by decide) ?_
      refine ev_sub (ls2 := [(0, q_a t (54)), (1, ma_i (z5))]) [1, 0] rfl ?_
      exact hc14 (z5) x2.2.1 x2.2.2 hp
    · rw [if_pos hj4] at hp
      refine ev_sub (ls2 := [(0, q_a t (54))]) [0] rfl ?_
      exact e_Reader_readScript_98 t ok  hQ    x2.2.1 x2.2.2 hp
theorem e_Reader_readScript_14 (t : q_V) (ok : ma_ok (q_G t))  {Q : Option Value → ma_H → Prop} {y : Int × q_F × q_F} (hQ : Q (some (ma_i y.1)) (q_h y.2.1 y.2.2))   : ∀ (n : Nat) (v1 : Int) (f g : q_F), p_Reader_readScript_14   n v1 f g = some y → ma_Ev (q_G t) 682 6845 0 0 m_Reader_readScript 14 [(0, q_a t (54)), (1, ma_i (v1))] [] (q_h f g) (ma_zr (q_G t) false Q) := by
  intro n
  induction n with
  | zero =>
    intro v1 f g hp
    rw [p_Reader_readScript_14] at hp
    cases hp
  | succ n ih =>
    intro v1 f g hp
    rw [p_Reader_readScript_14] at hp
    refine ev_iload_n (pc := 14) d_Reader_readScript_14 rfl rfl ?_
    refine ev_sipush (pc := 15) d_Reader_readScript_15 rfl ?_
    refine et_icmp_ge (pc := 18) (tgt := 109) d_Reader_readScript_18 (by decide) (fun hj1 => ?_) (fun hj1 => ?_)
    · rw [if_pos hj1] at hp
      refine ev_sub (ls2 := []) [] rfl ?_
      exact e_Reader_readScript_109 t ok  hQ    f g hp
    · rw [if_neg hj1] at hp
      refine et_aload_n (pc := 21) d_Reader_readScript_21 rfl rfl ?_
      refine et_geti (pc := 22) ok (fl_Reader_9 t) rfl d_Reader_readScript_22 s_54 ?_
      refine et_aload_n (pc := 25) d_Reader_readScript_25 rfl rfl ?_
      refine et_getr (pc := 26) ok (fl_Reader_18 t) rfl d_Reader_readScript_26 s_54 r_54_0 ?_
      refine et_geti (pc := 29) ok (fl_Reader_31 t) rfl d_Reader_readScript_29 s_1 ?_
      refine et_icmp_ge (pc := 32) (tgt := 109) d_Reader_readScript_32 (by decide) (fun hj2 => ?_) (fun hj2 => ?_)
      · rw [if_pos hj2] at hp
        refine ev_sub (ls2 := []) [] rfl ?_
        exact e_Reader_readScript_109 t ok  hQ    f g hp
      · rw [if_neg hj2] at hp
        refine ev_iconst (pc := 35) d_Reader_readScript_35 ?_
        refine ev_istore_n (pc := 36) d_Reader_readScript_36 rfl (by decide) [(2, _), (0, _), (1, _)] rfl ?_
        refine et_aload_n (pc := 37) d_Reader_readScript_37 rfl rfl ?_
        refine ev_bipush (pc := 38) d_Reader_readScript_38 rfl ?_
        replace hp := q_bind hp
        obtain ⟨x3, hm4, hp⟩ := hp
        refine et_callVi (pc := 40) (f1 := x3.2.1) (g1 := x3.2.2) ok [ma_i (77)] [] (cf_Reader_36 t) d_Reader_readScript_40 s_54 k_8 rfl (t_Reader_skip t ok (77) f g hm4 ⟨rfl, rfl⟩) rfl rfl (by decide) (by decide) (q_ble rfl) ?_
        refine et_if_eq (pc := 43) (tgt := 54) d_Reader_readScript_43 (by decide) (fun hj5 => ?_) (fun hj5 => ?_)
        · rw [if_pos hj5] at hp
          refine et_aload_n (pc := 54) d_Reader_readScript_54 rfl rfl ?_
          refine ev_bipush (pc := 55) d_Reader_readScript_55 rfl ?_
          replace hp := q_bind hp
          obtain ⟨x6, hm7, hp⟩ := hp
          refine et_callVi (pc := 57) (f1 := x6.2.1) (g1 := x6.2.2) ok [ma_i (83)] [] (cf_Reader_36 t) d_Reader_readScript_57 s_54 k_8 rfl (t_Reader_skip t ok (83) x3.2.1 x3.2.2 hm7 ⟨rfl, rfl⟩) rfl rfl (by decide) (by decide) (q_ble rfl) ?_
          refine et_if_eq (pc := 60) (tgt := 71) d_Reader_readScript_60 (by decide) (fun hj8 => ?_) (fun hj8 => ?_)
          · rw [if_pos hj8] at hp
            refine et_aload_n (pc := 71) d_Reader_readScript_71 rfl rfl ?_
            refine ev_bipush (pc := 72) d_Reader_readScript_72 rfl ?_
            replace hp := q_bind hp
            obtain ⟨x9, hm10, hp⟩ := hp
            refine et_callVi (pc := 74) (f1 := x9.2.1) (g1 := x9.2.2) ok [ma_i (89)] [] (cf_Reader_36 t) d_Reader_readScript_74 s_54 k_8 rfl (t_Reader_skip t ok (89) x6.2.1 x6.2.2 hm10 ⟨rfl, rfl⟩) rfl rfl (by decide) (by decide) (q_ble rfl) ?_
            refine et_if_eq (pc := 77) (tgt := 85) d_Reader_readScript_77 (by decide) (fun hj11 => ?_) (fun hj11 => ?_)
            · rw [if_pos hj11] at hp
              refine ev_sub (ls2 := [(0, q_a t (54)), (1, ma_i (v1)), (2, ma_i (0))]) [1, 2, 0] rfl ?_
              exact e_Reader_readScript_85 t ok  hQ (p_Reader_readScript_14   n) ih (v1) (0) x9.2.1 x9.2.2 hp
            · rw [if_neg hj11] at hp
              refine et_aload_n (pc := 80) d_Reader_readScript_80 rfl rfl ?_
              replace hp := q_bind hp
              obtain ⟨x12, hm13, hp⟩ := hp
              refine et_callVi (pc := 81) (f1 := x12.2.1) (g1 := x12.2.2) ok [] [] (cf_Reader_47 t) d_Reader_readScript_81 s_54 k_8 rfl (t_Reader_readSymbol t ok  x9.2.1 x9.2.2 hm13 ⟨rfl, rfl⟩) rfl rfl (by decide) (by decide) (q_ble rfl) ?_
              refine ev_istore_n (pc := 84) d_Reader_readScript_84 rfl (by decide) [(2, _), (0, _), (1, _)] rfl ?_
              refine ev_sub (ls2 := [(0, q_a t (54)), (1, ma_i (v1)), (2, ma_i (x12.1))]) [1, 2, 0] rfl ?_
              exact e_Reader_readScript_85 t ok  hQ (p_Reader_readScript_14   n) ih (v1) (x12.1) x12.2.1 x12.2.2 hp
          · rw [if_neg hj8] at hp
            refine et_aload_n (pc := 63) d_Reader_readScript_63 rfl rfl ?_
            replace hp := q_bind hp
            obtain ⟨x14, hm15, hp⟩ := hp
            refine et_callVi (pc := 64) (f1 := x14.2.1) (g1 := x14.2.2) ok [] [] (cf_Reader_44 t) d_Reader_readScript_64 s_54 k_8 rfl (t_Reader_readSection t ok  x6.2.1 x6.2.2 hm15 ⟨rfl, rfl⟩) rfl rfl (by decide) (by decide) (q_ble rfl) ?_
            refine ev_istore_n (pc := 67) d_Reader_readScript_67 rfl (by decide) [(2, _), (0, _), (1, _)] rfl ?_
            refine ev_goto (pc := 68) (tgt := 85) d_Reader_readScript_68 (by decide) ?_
            refine ev_sub (ls2 := [(0, q_a t (54)), (1, ma_i (v1)), (2, ma_i (x14.1))]) [1, 2, 0] rfl ?_
            exact e_Reader_readScript_85 t ok  hQ (p_Reader_readScript_14   n) ih (v1) (x14.1) x14.2.1 x14.2.2 hp
        · rw [if_neg hj5] at hp
          refine et_aload_n (pc := 46) d_Reader_readScript_46 rfl rfl ?_
          replace hp := q_bind hp
          obtain ⟨x16, hm17, hp⟩ := hp
          refine et_callVi (pc := 47) (f1 := x16.2.1) (g1 := x16.2.2) ok [] [] (cf_Reader_40 t) d_Reader_readScript_47 s_54 k_8 rfl (t_Reader_readRegion t ok  x3.2.1 x3.2.2 hm17 ⟨rfl, rfl⟩) rfl rfl (by decide) (by decide) (q_ble rfl) ?_
          refine ev_istore_n (pc := 50) d_Reader_readScript_50 rfl (by decide) [(2, _), (0, _), (1, _)] rfl ?_
          refine ev_goto (pc := 51) (tgt := 85) d_Reader_readScript_51 (by decide) ?_
          refine ev_sub (ls2 := [(0, q_a t (54)), (1, ma_i (v1)), (2, ma_i (x16.1))]) [1, 2, 0] rfl ?_
          exact e_Reader_readScript_85 t ok  hQ (p_Reader_readScript_14   n) ih (v1) (x16.1) x16.2.1 x16.2.2 hp
theorem t_Reader_readScript (t : q_V) (ok : ma_ok (q_G t))  {Q : Option Value → ma_H → Prop} {y : Int × q_F × q_F}  (f g : q_F) (hp : p_Reader_readScript   f g = some y) (hQ : Q (some (ma_i y.1)) (q_h y.2.1 y.2.2)) : ma_Met (q_G t) false 682 6845 0 0 m_Reader_readScript [q_a t (54)] (q_h f g) Q := by
  refine ma_met (by decide +kernel) (q_ble rfl) rfl ?_
  change ma_Ev (q_G t) 682 6845 0 0 m_Reader_readScript 0 [(0, q_a t (54))] [] (q_h f g) (ma_zr (q_G t) false Q)
  unfold p_Reader_readScript at hp
  refine et_aload_n (pc := 0) d_Reader_readScript_0 rfl rfl ?_
  refine et_getr (pc := 1) ok (fl_Reader_22 t) rfl d_Reader_readScript_1 s_54 r_54_1 ?_
  replace hp := q_bind hp
  obtain ⟨x1, hm2, hp⟩ := hp
  refine et_callVv (pc := 4) (f1 := x1.1) (g1 := x1.2) ok [] [] (cf_Reader_26 t) d_Reader_readScript_4 s_3 k_7 rfl (t_Plan_forget t ok  f g hm2 ⟨rfl, rfl⟩) rfl rfl (by decide) (by decide) (q_ble rfl) ?_
  refine et_aload_n (pc := 7) d_Reader_readScript_7 rfl rfl ?_
  refine ev_iconst (pc := 8) d_Reader_readScript_8 ?_
  refine et_puti (pc := 9) ok (fl_Reader_9 t) d_Reader_readScript_9 s_54 ?_
  replace hp := q_let_of hp
  obtain ⟨f3, hz, hp⟩ := hp
  rw [← hz]
  clear hz
  refine ev_iconst (pc := 12) d_Reader_readScript_12 ?_
  refine ev_istore_n (pc := 13) d_Reader_readScript_13 rfl (by decide) [(1, _), (0, _)] rfl ?_
  refine ev_sub (ls2 := [(0, q_a t (54)), (1, ma_i (0))]) [1, 0] rfl ?_
  exact e_Reader_readScript_14 t ok  hQ   1000 (0) f3 x1.2 hp
theorem d_Desk_lay_0 : decode (m_c m_Desk_lay) 0 = .ok (.aload_n 0, 1) := by decide +kernel
theorem d_Desk_lay_1 : decode (m_c m_Desk_lay) 1 = .ok (.iconst 0, 1) := by decide +kernel
theorem d_Desk_lay_2 : decode (m_c m_Desk_lay) 2 = .ok (.putfield 55, 3) := by decide +kernel
theorem d_Desk_lay_5 : decode (m_c m_Desk_lay) 5 = .ok (.aload_n 0, 1) := by decide +kernel
theorem d_Desk_lay_6 : decode (m_c m_Desk_lay) 6 = .ok (.aload_n 0, 1) := by decide +kernel
theorem d_Desk_lay_7 : decode (m_c m_Desk_lay) 7 = .ok (.getfield 28, 3) := by decide +kernel
theorem d_Desk_lay_10 : decode (m_c m_Desk_lay) 10 = .ok (.invokevirtual 103, 3) := by decide +kernel
theorem d_Desk_lay_13 : decode (m_c m_Desk_lay) 13 = .ok (.putfield 59, 3) := by decide +kernel
theorem d_Desk_lay_16 : decode (m_c m_Desk_lay) 16 = .ok (.aload_n 0, 1) := by decide +kernel
theorem d_Desk_lay_17 : decode (m_c m_Desk_lay) 17 = .ok (.getfield 59, 3) := by decide +kernel
theorem d_Desk_lay_20 : decode (m_c m_Desk_lay) 20 = .ok (.iconst (-1), 1) := by decide +kernel
theorem d_Desk_lay_21 : decode (m_c m_Desk_lay) 21 = .ok (.if_icmp .eq 5, 3) := by decide +kernel
theorem d_Desk_lay_24 : decode (m_c m_Desk_lay) 24 = .ok (.iconst 1, 1) := by decide +kernel
theorem d_Desk_lay_25 : decode (m_c m_Desk_lay) 25 = .ok (.ireturn, 1) := by decide +kernel
theorem d_Desk_lay_26 : decode (m_c m_Desk_lay) 26 = .ok (.aload_n 0, 1) := by decide +kernel
theorem d_Desk_lay_27 : decode (m_c m_Desk_lay) 27 = .ok (.getfield 37, 3) := by decide +kernel
theorem d_Desk_lay_30 : decode (m_c m_Desk_lay) 30 = .ok (.invokevirtual 107, 3) := by decide +kernel
theorem d_Desk_lay_33 : decode (m_c m_Desk_lay) 33 = .ok (.ifCond .ne 5, 3) := by decide +kernel
theorem d_Desk_lay_36 : decode (m_c m_Desk_lay) 36 = .ok (.iconst 2, 1) := by decide +kernel
theorem d_Desk_lay_37 : decode (m_c m_Desk_lay) 37 = .ok (.ireturn, 1) := by decide +kernel
theorem d_Desk_lay_38 : decode (m_c m_Desk_lay) 38 = .ok (.aload_n 0, 1) := by decide +kernel
theorem d_Desk_lay_39 : decode (m_c m_Desk_lay) 39 = .ok (.getfield 44, 3) := by decide +kernel
theorem d_Desk_lay_42 : decode (m_c m_Desk_lay) 42 = .ok (.invokevirtual 111, 3) := by decide +kernel
theorem d_Desk_lay_45 : decode (m_c m_Desk_lay) 45 = .ok (.ifCond .eq 5, 3) := by decide +kernel
theorem d_Desk_lay_48 : decode (m_c m_Desk_lay) 48 = .ok (.iconst 3, 1) := by decide +kernel
theorem d_Desk_lay_49 : decode (m_c m_Desk_lay) 49 = .ok (.ireturn, 1) := by decide +kernel
theorem d_Desk_lay_50 : decode (m_c m_Desk_lay) 50 = .ok (.aload_n 0, 1) := by decide +kernel
theorem d_Desk_lay_51 : decode (m_c m_Desk_lay) 51 = .ok (.getfield 44, 3) := by decide +kernel
theorem d_Desk_lay_54 : decode (m_c m_Desk_lay) 54 = .ok (.invokevirtual 114, 3) := by decide +kernel
theorem d_Desk_lay_57 : decode (m_c m_Desk_lay) 57 = .ok (.ifCond .eq 5, 3) := by decide +kernel
theorem d_Desk_lay_60 : decode (m_c m_Desk_lay) 60 = .ok (.iconst 4, 1) := by decide +kernel
theorem d_Desk_lay_61 : decode (m_c m_Desk_lay) 61 = .ok (.ireturn, 1) := by decide +kernel
theorem d_Desk_lay_62 : decode (m_c m_Desk_lay) 62 = .ok (.aload_n 0, 1) := by decide +kernel
theorem d_Desk_lay_63 : decode (m_c m_Desk_lay) 63 = .ok (.getfield 19, 3) := by decide +kernel
theorem d_Desk_lay_66 : decode (m_c m_Desk_lay) 66 = .ok (.invokevirtual 117, 3) := by decide +kernel
theorem d_Desk_lay_69 : decode (m_c m_Desk_lay) 69 = .ok (.aload_n 0, 1) := by decide +kernel
theorem d_Desk_lay_70 : decode (m_c m_Desk_lay) 70 = .ok (.getfield 44, 3) := by decide +kernel
theorem d_Desk_lay_73 : decode (m_c m_Desk_lay) 73 = .ok (.invokevirtual 120, 3) := by decide +kernel
theorem d_Desk_lay_76 : decode (m_c m_Desk_lay) 76 = .ok (.ifCond .eq 5, 3) := by decide +kernel
theorem d_Desk_lay_79 : decode (m_c m_Desk_lay) 79 = .ok (.iconst 5, 1) := by decide +kernel
theorem d_Desk_lay_80 : decode (m_c m_Desk_lay) 80 = .ok (.ireturn, 1) := by decide +kernel
theorem d_Desk_lay_81 : decode (m_c m_Desk_lay) 81 = .ok (.aload_n 0, 1) := by decide +kernel
theorem d_Desk_lay_82 : decode (m_c m_Desk_lay) 82 = .ok (.iconst 1, 1) := by decide +kernel
theorem d_Desk_lay_83 : decode (m_c m_Desk_lay) 83 = .ok (.putfield 55, 3) := by decide +kernel
theorem d_Desk_lay_86 : decode (m_c m_Desk_lay) 86 = .ok (.iconst 0, 1) := by decide +kernel
theorem d_Desk_lay_87 : decode (m_c m_Desk_lay) 87 = .ok (.ireturn, 1) := by decide +kernel
def p_Desk_lay   (f g : q_F) : Option (Int × q_F × q_F) :=
  q_let (ma_up f 0 6 0) fun f1 =>
  (p_Reader_readScript  f1 g).bind fun x2 =>
  q_let (ma_up x2.2.1 0 7 x2.1) fun f4 =>
  if q_sw (f4 0 7) = q_sw (-1) then
    (p_Reckoner_reckonAll  f4 x2.2.2).bind fun x6 =>
    if q_sw x6.1 = 0 then
      some (2, x6.2.1, x6.2.2)
    else
      (p_Judge_overflows  x6.2.1 x6.2.2).bind fun x9 =>
      if q_sw x9.1 = 0 then
        (p_Judge_overlaps  x9.2.1 x9.2.2).bind fun x12 =>
        if q_sw x12.1 = 0 then
          (p_Plan_listCopies  x12.2.1 x12.2.2).bind fun x15 =>
          (p_Judge_copiesClash  x15.1 x15.2).bind fun x17 =>
          if q_sw x17.1 = 0 then
            q_let (ma_up x17.2.1 0 6 1) fun f20 =>
            some (0, f20, x17.2.2)
          else
            some (5, x17.2.1, x17.2.2)
        else
          some (4, x12.2.1, x12.2.2)
      else
        some (3, x9.2.1, x9.2.2)
  else
    some (1, f4, x2.2.2)
theorem t_Desk_lay (t : q_V) (ok : ma_ok (q_G t))  {Q : Option Value → ma_H → Prop} {y : Int × q_F × q_F}  (f g : q_F) (hp : p_Desk_lay   f g = some y) (hQ : Q (some (ma_i y.1)) (q_h y.2.1 y.2.2)) : ma_Met (q_G t) false 683 6867 0 0 m_Desk_lay [q_a t (0)] (q_h f g) Q := by
  refine ma_met (by decide +kernel) (q_ble rfl) rfl ?_
  change ma_Ev (q_G t) 683 6867 0 0 m_Desk_lay 0 [(0, q_a t (0))] [] (q_h f g) (ma_zr (q_G t) false Q)
  unfold p_Desk_lay at hp
  refine et_aload_n (pc := 0) d_Desk_lay_0 rfl rfl ?_
  refine ev_iconst (pc := 1) d_Desk_lay_1 ?_
  refine et_putz (pc := 2) ok (fl_Desk_55 t) (by decide) d_Desk_lay_2 s_0 ?_
  replace hp := q_let_of hp
  obtain ⟨f1, hz, hp⟩ := hp
  rw [← hz]
  clear hz
  refine et_aload_n (pc := 5) d_Desk_lay_5 rfl rfl ?_
  refine et_aload_n (pc := 6) d_Desk_lay_6 rfl rfl ?_
  refine et_getr (pc := 7) ok (fl_Desk_28 t) rfl d_Desk_lay_7 s_0 r_0_2 ?_
  replace hp := q_bind hp
  obtain ⟨x2, hm3, hp⟩ := hp
  refine et_callVi (pc := 10) (f1 := x2.2.1) (g1 := x2.2.2) ok [] [q_a t (0)] (cf_Desk_103 t) d_Desk_lay_10 s_54 k_8 rfl (t_Reader_readScript t ok  f1 g hm3 ⟨rfl, rfl⟩) rfl rfl (by decide) (by decide) (q_ble rfl) ?_
  refine et_puti (pc := 13) ok (fl_Desk_59 t) d_Desk_lay_13 s_0 ?_
  replace hp := q_let_of hp
  obtain ⟨f4, hz, hp⟩ := hp
  rw [← hz]
  clear hz
  refine et_aload_n (pc := 16) d_Desk_lay_16 rfl rfl ?_
  refine et_geti (pc := 17) ok (fl_Desk_59 t) rfl d_Desk_lay_17 s_0 ?_
  refine ev_iconst (pc := 20) d_Desk_lay_20 ?_
  refine et_icmp_eq (pc := 21) (tgt := 26) d_Desk_lay_21 (by decide) (fun hj5 => ?_) (fun hj5 => ?_)
  · rw [if_pos hj5] at hp
    refine et_aload_n (pc := 26) d_Desk_lay_26 rfl rfl ?_
    refine et_getr (pc := 27) ok (fl_Desk_37 t) rfl d_Desk_lay_27 s_0 r_0_3 ?_
    replace hp := q_bind hp
    obtain ⟨x6, hm7, hp⟩ := hp
    refine et_callVi (pc := 30) (f1 := x6.2.1) (g1 := x6.2.2) ok [] [] (cf_Desk_107 t) d_Desk_lay_30 s_55 k_9 rfl (t_Reckoner_reckonAll t ok  f4 x2.2.2 hm7 ⟨rfl, rfl⟩) rfl rfl (by decide) (by decide) (q_ble rfl) ?_
    refine et_if_ne (pc := 33) (tgt := 38) d_Desk_lay_33 (by decide) (fun hj8 => ?_) (fun hj8 => ?_)
    · rw [if_neg hj8] at hp
      refine et_aload_n (pc := 38) d_Desk_lay_38 rfl rfl ?_
      refine et_getr (pc := 39) ok (fl_Desk_44 t) rfl d_Desk_lay_39 s_0 r_0_4 ?_
      replace hp := q_bind hp
      obtain ⟨x9, hm10, hp⟩ := hp
      refine et_callVi (pc := 42) (f1 := x9.2.1) (g1 := x9.2.2) ok [] [] (cf_Desk_111 t) d_Desk_lay_42 s_57 k_10 rfl (t_Judge_overflows t ok  x6.2.1 x6.2.2 hm10 ⟨rfl, rfl⟩) rfl rfl (by decide) (by decide) (q_ble rfl) ?_
      refine et_if_eq (pc := 45) (tgt := 50) d_Desk_lay_45 (by decide) (fun hj11 => ?_) (fun hj11 => ?_)
      · rw [if_pos hj11] at hp
        refine et_aload_n (pc := 50) d_Desk_lay_50 rfl rfl ?_
        refine et_getr (pc := 51) ok (fl_Desk_44 t) rfl d_Desk_lay_51 s_0 r_0_4 ?_
        replace hp := q_bind hp
        obtain ⟨x12, hm13, hp⟩ := hp
        refine et_callVi (pc := 54) (f1 := x12.2.1) (g1 := x12.2.2) ok [] [] (cf_Desk_114 t) d_Desk_lay_54 s_57 k_10 rfl (t_Judge_overlaps t ok  x9.2.1 x9.2.2 hm13 ⟨rfl, rfl⟩) rfl rfl (by decide) (by decide) (q_ble rfl) ?_
        refine et_if_eq (pc := 57) (tgt := 62) d_Desk_lay_57 (by decide) (fun hj14 => ?_) (fun hj14 => ?_)
        · rw [if_pos hj14] at hp
          refine et_aload_n (pc := 62) d_Desk_lay_62 rfl rfl ?_
          refine et_getr (pc := 63) ok (fl_Desk_19 t) rfl d_Desk_lay_63 s_0 r_0_1 ?_
          replace hp := q_bind hp
          obtain ⟨x15, hm16, hp⟩ := hp
          refine et_callVv (pc := 66) (f1 := x15.1) (g1 := x15.2) ok [] [] (cf_Desk_117 t) d_Desk_lay_66 s_3 k_7 rfl (t_Plan_listCopies t ok  x12.2.1 x12.2.2 hm16 ⟨rfl, rfl⟩) rfl rfl (by decide) (by decide) (q_ble rfl) ?_
          refine et_aload_n (pc := 69) d_Desk_lay_69 rfl rfl ?_
          refine et_getr (pc := 70) ok (fl_Desk_44 t) rfl d_Desk_lay_70 s_0 r_0_4 ?_
          replace hp := q_bind hp
          obtain ⟨x17, hm18, hp⟩ := hp
          refine et_callVi (pc := 73) (f1 := x17.2.1) (g1 := x17.2.2) ok [] [] (cf_Desk_120 t) d_Desk_lay_73 s_57 k_10 rfl (t_Judge_copiesClash t ok  x15.1 x15.2 hm18 ⟨rfl, rfl⟩) rfl rfl (by decide) (by decide) (q_ble rfl) ?_
          refine et_if_eq (pc := 76) (tgt := 81) d_Desk_lay_76 (by decide) (fun hj19 => ?_) (fun hj19 => ?_)
          · rw [if_pos hj19] at hp
            refine et_aload_n (pc := 81) d_Desk_lay_81 rfl rfl ?_
            refine ev_iconst (pc := 82) d_Desk_lay_82 ?_
            refine et_putz (pc := 83) ok (fl_Desk_55 t) (by decide) d_Desk_lay_83 s_0 ?_
            replace hp := q_let_of hp
            obtain ⟨f20, hz, hp⟩ := hp
            rw [← hz]
            clear hz
            refine ev_iconst (pc := 86) d_Desk_lay_86 ?_
            cases Option.some.inj hp
            exact et_iret (pc := 87) d_Desk_lay_87 rfl hQ
          · rw [if_neg hj19] at hp
            refine ev_iconst (pc := 79) d_Desk_lay_79 ?_
            cases Option.some.inj hp
            exact et_iret (pc := 80) d_Desk_lay_80 rfl hQ
        · rw [if_neg hj14] at hp
          refine ev_iconst (pc := 60) d_Desk_lay_60 ?_
          cases Option.some.inj hp
          exact et_iret (pc := 61) d_Desk_lay_61 rfl hQ
      · rw [if_neg hj11] at hp
        refine ev_iconst (pc := 48) d_Desk_lay_48 ?_
        cases Option.some.inj hp
        exact et_iret (pc := 49) d_Desk_lay_49 rfl hQ
    · rw [if_pos hj8] at hp
      refine ev_iconst (pc := 36) d_Desk_lay_36 ?_
      cases Option.some.inj hp
      exact et_iret (pc := 37) d_Desk_lay_37 rfl hQ
  · rw [if_neg hj5] at hp
    refine ev_iconst (pc := 24) d_Desk_lay_24 ?_
    cases Option.some.inj hp
    exact et_iret (pc := 25) d_Desk_lay_25 rfl hQ
