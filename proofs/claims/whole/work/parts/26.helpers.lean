/-! ===== printed by walk.py: the law's helpers ===== -/
theorem d_Law_input_0 : decode (m_c m_Law_input) 0 = .ok (.aload_n 0, 1) := by decide +kernel
theorem d_Law_input_1 : decode (m_c m_Law_input) 1 = .ok (.iload_n 1, 1) := by decide +kernel
theorem d_Law_input_2 : decode (m_c m_Law_input) 2 = .ok (.iload_n 2, 1) := by decide +kernel
theorem d_Law_input_3 : decode (m_c m_Law_input) 3 = .ok (.iload_n 3, 1) := by decide +kernel
theorem d_Law_input_4 : decode (m_c m_Law_input) 4 = .ok (.iload 4, 2) := by decide +kernel
theorem d_Law_input_6 : decode (m_c m_Law_input) 6 = .ok (.invokevirtual 7, 3) := by decide +kernel
theorem d_Law_input_9 : decode (m_c m_Law_input) 9 = .ok (.goto 7, 3) := by decide +kernel
theorem d_Law_input_12 : decode (m_c m_Law_input) 12 = .ok (.astore 5, 2) := by decide +kernel
theorem d_Law_input_14 : decode (m_c m_Law_input) 14 = .ok (.iconst 1, 1) := by decide +kernel
theorem d_Law_input_15 : decode (m_c m_Law_input) 15 = .ok (.ireturn, 1) := by decide +kernel
theorem d_Law_input_16 : decode (m_c m_Law_input) 16 = .ok (.iconst 0, 1) := by decide +kernel
theorem d_Law_input_17 : decode (m_c m_Law_input) 17 = .ok (.ireturn, 1) := by decide +kernel
def p_Law_input  (v1 : Int) (v2 : Int) (v3 : Int) (v4 : Int) (f g : q_F) : Option (Int × q_F × q_F) :=
  q_or (p_Desk_input (v1) (v2) (v3) (v4) f g) (fun x1 =>
    some (0, x1.1, x1.2))
    ((x_Desk_input (v1) (v2) (v3) (v4) f g).bind fun w3 =>
  if w3.1 = 0 then
    some (1, w3.2.1, w3.2.2)
  else
    none)
theorem t_Law_input (t : q_V) (ok : ma_ok (q_G t))  {Q : Option Value → ma_H → Prop} {y : Int × q_F × q_F} (v1 : Int) (v2 : Int) (v3 : Int) (v4 : Int) (f g : q_F) (hp : p_Law_input  v1 v2 v3 v4 f g = some y) (hQ : Q (some (ma_i y.1)) (q_h y.2.1 y.2.2)) : ma_Met (q_G t) false 7 115 1 6 m_Law_input [q_a t (0), ma_i (v1), ma_i (v2), ma_i (v3), ma_i (v4)] (q_h f g) Q := by
  refine ma_metH (by decide +kernel) (q_ble rfl) (by decide) ?_
  change ma_Ev (q_G t) 7 115 1 6 m_Law_input 0 [(0, q_a t (0)), (1, ma_i (v1)), (2, ma_i (v2)), (3, ma_i (v3)), (4, ma_i (v4))] [] (q_h f g) (ma_zr (q_G t) false Q)
  unfold p_Law_input at hp
  refine et_aload_n (pc := 0) d_Law_input_0 rfl rfl ?_
  refine ev_iload_n (pc := 1) d_Law_input_1 rfl rfl ?_
  refine ev_iload_n (pc := 2) d_Law_input_2 rfl rfl ?_
  refine ev_iload_n (pc := 3) d_Law_input_3 rfl rfl ?_
  refine ev_iload (pc := 4) d_Law_input_4 rfl ?_
  replace hp := q_or_of hp
  rcases hp with ⟨x1, hm2, hp⟩ | ⟨-, hp⟩
  · refine et_callVv (pc := 6) (f1 := x1.1) (g1 := x1.2) ok [ma_i (v1), ma_i (v2), ma_i (v3), ma_i (v4)] [] (cf_Law_7 t) d_Law_input_6 s_0 k_0 rfl (t_Desk_input t ok (v1) (v2) (v3) (v4) f g hm2 ⟨rfl, rfl⟩) rfl rfl (by decide) (by decide) (q_ble rfl) ?_
    refine ev_goto (pc := 9) (tgt := 16) d_Law_input_9 (by decide) ?_
    refine ev_iconst (pc := 16) d_Law_input_16 ?_
    cases Option.some.inj hp
    exact et_iret (pc := 17) d_Law_input_17 rfl hQ
  · replace hp := q_bind hp
    obtain ⟨w3, hm4, hp⟩ := hp
    by_cases hr5 : w3.1 = 0
    · rw [if_pos hr5] at hp
      have hx9 := xt_Desk_input t ok (v1) (v2) (v3) (v4) f g hm4
      rw [hr5] at hx9
      refine et_callVC (pc := 6) (E0 := "java/lang/IllegalArgumentException") ok [ma_i (v1), ma_i (v2), ma_i (v3), ma_i (v4)] [] (cf_Law_7 t) (q_in 597 (by decide +kernel) rfl) d_Law_input_6 s_0 k_0 rfl hx9 rfl rfl (by decide) (by decide) (q_ble rfl) [] [] (0, 9, 12, 13) rfl rfl (by decide) (q_in 596 (by decide +kernel) rfl) (by decide) (fun y hy => nomatch hy) (fun q9 => ?_)
      refine ev_astore (pc := 12) d_Law_input_12 (by decide) [(5, _), (0, _), (1, _), (2, _), (3, _), (4, _)] rfl ?_
      refine ev_iconst (pc := 14) d_Law_input_14 ?_
      cases Option.some.inj hp
      exact et_iret (pc := 15) d_Law_input_15 rfl hQ
    · rw [if_neg hr5] at hp
      cases hp
theorem d_Law_type_0 : decode (m_c m_Law_type) 0 = .ok (.aload 4, 2) := by decide +kernel
theorem d_Law_type_2 : decode (m_c m_Law_type) 2 = .ok (.iconst 0, 1) := by decide +kernel
theorem d_Law_type_3 : decode (m_c m_Law_type) 3 = .ok (.aload_n 0, 1) := by decide +kernel
theorem d_Law_type_4 : decode (m_c m_Law_type) 4 = .ok (.lload_n 1, 1) := by decide +kernel
theorem d_Law_type_5 : decode (m_c m_Law_type) 5 = .ok (.iload_n 3, 1) := by decide +kernel
theorem d_Law_type_6 : decode (m_c m_Law_type) 6 = .ok (.invokevirtual 15, 3) := by decide +kernel
theorem d_Law_type_9 : decode (m_c m_Law_type) 9 = .ok (.i2l, 1) := by decide +kernel
theorem d_Law_type_10 : decode (m_c m_Law_type) 10 = .ok (.lastore, 1) := by decide +kernel
theorem d_Law_type_11 : decode (m_c m_Law_type) 11 = .ok (.goto 11, 3) := by decide +kernel
theorem d_Law_type_14 : decode (m_c m_Law_type) 14 = .ok (.astore 5, 2) := by decide +kernel
theorem d_Law_type_16 : decode (m_c m_Law_type) 16 = .ok (.iconst 1, 1) := by decide +kernel
theorem d_Law_type_17 : decode (m_c m_Law_type) 17 = .ok (.ireturn, 1) := by decide +kernel
theorem d_Law_type_18 : decode (m_c m_Law_type) 18 = .ok (.astore 5, 2) := by decide +kernel
theorem d_Law_type_20 : decode (m_c m_Law_type) 20 = .ok (.iconst 2, 1) := by decide +kernel
theorem d_Law_type_21 : decode (m_c m_Law_type) 21 = .ok (.ireturn, 1) := by decide +kernel
theorem d_Law_type_22 : decode (m_c m_Law_type) 22 = .ok (.iconst 0, 1) := by decide +kernel
theorem d_Law_type_23 : decode (m_c m_Law_type) 23 = .ok (.ireturn, 1) := by decide +kernel
def p_Law_type  (v1 : Int) (v3 : Int) (f g : q_F) : Option (Int × q_F × q_F) :=
  q_or (p_Desk_type (v1) (v3) f g) (fun x1 =>
    q_let (ma_up x1.2.2 97 (Int.toNat 0) (q_sw x1.1)) fun g7 =>
    some (0, x1.2.1, g7))
    ((x_Desk_type (v1) (v3) f g).bind fun w3 =>
  if w3.1 = 0 then
    some (1, w3.2.1, w3.2.2)
  else
    if w3.1 = 1 then
      some (2, w3.2.1, w3.2.2)
    else
      none)
theorem t_Law_type (t : q_V) (ok : ma_ok (q_G t))  {Q : Option Value → ma_H → Prop} {y : Int × q_F × q_F} (v1 : Int) (v3 : Int) (f g : q_F) (hp : p_Law_type  v1 v3 f g = some y) (hQ : Q (some (ma_i y.1)) (q_h y.2.1 y.2.2)) : ma_Met (q_G t) false 7 114 1 6 m_Law_type [q_a t (0), ma_j (v1), ma_i (v3), q_a t (97)] (q_h f g) Q := by
  refine ma_metH (by decide +kernel) (q_ble rfl) (by decide) ?_
  change ma_Ev (q_G t) 7 114 1 6 m_Law_type 0 [(0, q_a t (0)), (1, ma_j (v1)), (3, ma_i (v3)), (4, q_a t (97))] [] (q_h f g) (ma_zr (q_G t) false Q)
  unfold p_Law_type at hp
  refine et_aload (pc := 0) d_Law_type_0 rfl ?_
  refine ev_iconst (pc := 2) d_Law_type_2 ?_
  refine et_aload_n (pc := 3) d_Law_type_3 rfl rfl ?_
  refine ev_lload_n (pc := 4) d_Law_type_4 rfl rfl ?_
  refine ev_iload_n (pc := 5) d_Law_type_5 rfl rfl ?_
  replace hp := q_or_of hp
  rcases hp with ⟨x1, hm2, hp⟩ | ⟨-, hp⟩
  · refine et_callVi (pc := 6) (f1 := x1.2.1) (g1 := x1.2.2) ok [ma_j (v1), ma_i (v3)] [ma_i (0), q_a t (97)] (cf_Law_15 t) d_Law_type_6 s_0 k_0 rfl (t_Desk_type t ok (v1) (v3) f g hm2 ⟨rfl, rfl⟩) rfl rfl (by decide) (by decide) (q_ble rfl) ?_
    refine et_i2l (pc := 9) d_Law_type_9 ?_
    refine et_last (pc := 10) d_Law_type_10 s_97 ⟨by decide, by decide⟩ (by decide) ?_
    replace hp := q_let_of hp
    obtain ⟨g7, hz, hp⟩ := hp
    rw [← hz]
    clear hz
    refine ev_goto (pc := 11) (tgt := 22) d_Law_type_11 (by decide) ?_
    refine ev_iconst (pc := 22) d_Law_type_22 ?_
    cases Option.some.inj hp
    exact et_iret (pc := 23) d_Law_type_23 rfl hQ
  · replace hp := q_bind hp
    obtain ⟨w3, hm4, hp⟩ := hp
    by_cases hr5 : w3.1 = 0
    · rw [if_pos hr5] at hp
      have hx9 := xt_Desk_type t ok (v1) (v3) f g hm4
      rw [hr5] at hx9
      refine et_callVC (pc := 6) (E0 := "java/lang/IllegalArgumentException") ok [ma_j (v1), ma_i (v3)] [ma_i (0), q_a t (97)] (cf_Law_15 t) (q_in 670 (by decide +kernel) rfl) d_Law_type_6 s_0 k_0 rfl hx9 rfl rfl (by decide) (by decide) (q_ble rfl) [] [(0, 11, 18, 19)] (0, 11, 14, 13) rfl rfl (by decide) (q_in 596 (by decide +kernel) rfl) (by decide) (fun y hy => nomatch hy) (fun q9 => ?_)
      refine ev_astore (pc := 14) d_Law_type_14 (by decide) [(5, _), (0, _), (1, _), (3, _), (4, _)] rfl ?_
      refine ev_iconst (pc := 16) d_Law_type_16 ?_
      cases Option.some.inj hp
      exact et_iret (pc := 17) d_Law_type_17 rfl hQ
    · rw [if_neg hr5] at hp
      by_cases hr6 : w3.1 = 1
      · rw [if_pos hr6] at hp
        have hx9 := xt_Desk_type t ok (v1) (v3) f g hm4
        rw [hr6] at hx9
        refine et_callVC (pc := 6) (E0 := "java/lang/IllegalStateException") ok [ma_j (v1), ma_i (v3)] [ma_i (0), q_a t (97)] (cf_Law_15 t) (q_in 670 (by decide +kernel) rfl) d_Law_type_6 s_0 k_0 rfl hx9 rfl rfl (by decide) (by decide) (q_ble rfl) [(0, 11, 14, 13)] [] (0, 11, 18, 19) rfl rfl (by decide) (q_in 669 (by decide +kernel) rfl) (by decide) (by intro y hy; simp only [List.mem_cons, List.not_mem_nil, or_false] at hy; rcases hy with rfl <;> first | exact ⟨rfl, by decide, "java/lang/IllegalArgumentException", q_in 596 (by decide +kernel) rfl, fun s h => q_ncast (by decide) (by decide) (by decide) s h⟩) (fun q9 => ?_)
        refine ev_astore (pc := 18) d_Law_type_18 (by decide) [(5, _), (0, _), (1, _), (3, _), (4, _)] rfl ?_
        refine ev_iconst (pc := 20) d_Law_type_20 ?_
        cases Option.some.inj hp
        exact et_iret (pc := 21) d_Law_type_21 rfl hQ
      · rw [if_neg hr6] at hp
        cases hp
theorem d_Law_section_0 : decode (m_c m_Law_section) 0 = .ok (.aload_n 3, 1) := by decide +kernel
theorem d_Law_section_1 : decode (m_c m_Law_section) 1 = .ok (.iconst 0, 1) := by decide +kernel
theorem d_Law_section_2 : decode (m_c m_Law_section) 2 = .ok (.aload_n 0, 1) := by decide +kernel
theorem d_Law_section_3 : decode (m_c m_Law_section) 3 = .ok (.iload_n 1, 1) := by decide +kernel
theorem d_Law_section_4 : decode (m_c m_Law_section) 4 = .ok (.iload_n 2, 1) := by decide +kernel
theorem d_Law_section_5 : decode (m_c m_Law_section) 5 = .ok (.invokevirtual 21, 3) := by decide +kernel
theorem d_Law_section_8 : decode (m_c m_Law_section) 8 = .ok (.i2l, 1) := by decide +kernel
theorem d_Law_section_9 : decode (m_c m_Law_section) 9 = .ok (.lastore, 1) := by decide +kernel
theorem d_Law_section_10 : decode (m_c m_Law_section) 10 = .ok (.goto 15, 3) := by decide +kernel
theorem d_Law_section_13 : decode (m_c m_Law_section) 13 = .ok (.astore 4, 2) := by decide +kernel
theorem d_Law_section_15 : decode (m_c m_Law_section) 15 = .ok (.iconst 1, 1) := by decide +kernel
theorem d_Law_section_16 : decode (m_c m_Law_section) 16 = .ok (.ireturn, 1) := by decide +kernel
theorem d_Law_section_17 : decode (m_c m_Law_section) 17 = .ok (.astore 4, 2) := by decide +kernel
theorem d_Law_section_19 : decode (m_c m_Law_section) 19 = .ok (.iconst 2, 1) := by decide +kernel
theorem d_Law_section_20 : decode (m_c m_Law_section) 20 = .ok (.ireturn, 1) := by decide +kernel
theorem d_Law_section_21 : decode (m_c m_Law_section) 21 = .ok (.astore 4, 2) := by decide +kernel
theorem d_Law_section_23 : decode (m_c m_Law_section) 23 = .ok (.iconst 3, 1) := by decide +kernel
theorem d_Law_section_24 : decode (m_c m_Law_section) 24 = .ok (.ireturn, 1) := by decide +kernel
theorem d_Law_section_25 : decode (m_c m_Law_section) 25 = .ok (.iconst 0, 1) := by decide +kernel
theorem d_Law_section_26 : decode (m_c m_Law_section) 26 = .ok (.ireturn, 1) := by decide +kernel
def p_Law_section  (v1 : Int) (v2 : Int) (f g : q_F) : Option (Int × q_F × q_F) :=
  q_or (p_Desk_section (v1) (v2) f g) (fun x1 =>
    q_let (ma_up x1.2.2 97 (Int.toNat 0) (q_sw x1.1)) fun g8 =>
    some (0, x1.2.1, g8))
    ((x_Desk_section (v1) (v2) f g).bind fun w3 =>
  if w3.1 = 0 then
    some (1, w3.2.1, w3.2.2)
  else
    if w3.1 = 1 then
      some (2, w3.2.1, w3.2.2)
    else
      if w3.1 = 2 then
        some (3, w3.2.1, w3.2.2)
      else
        none)
theorem t_Law_section (t : q_V) (ok : ma_ok (q_G t))  {Q : Option Value → ma_H → Prop} {y : Int × q_F × q_F} (v1 : Int) (v2 : Int) (f g : q_F) (hp : p_Law_section  v1 v2 f g = some y) (hQ : Q (some (ma_i y.1)) (q_h y.2.1 y.2.2)) : ma_Met (q_G t) false 8 133 1 6 m_Law_section [q_a t (0), ma_i (v1), ma_i (v2), q_a t (97)] (q_h f g) Q := by
  refine ma_metH (by decide +kernel) (q_ble rfl) (by decide) ?_
  change ma_Ev (q_G t) 8 133 1 6 m_Law_section 0 [(0, q_a t (0)), (1, ma_i (v1)), (2, ma_i (v2)), (3, q_a t (97))] [] (q_h f g) (ma_zr (q_G t) false Q)
  unfold p_Law_section at hp
  refine et_aload_n (pc := 0) d_Law_section_0 rfl rfl ?_
  refine ev_iconst (pc := 1) d_Law_section_1 ?_
  refine et_aload_n (pc := 2) d_Law_section_2 rfl rfl ?_
  refine ev_iload_n (pc := 3) d_Law_section_3 rfl rfl ?_
  refine ev_iload_n (pc := 4) d_Law_section_4 rfl rfl ?_
  replace hp := q_or_of hp
  rcases hp with ⟨x1, hm2, hp⟩ | ⟨-, hp⟩
  · refine et_callVi (pc := 5) (f1 := x1.2.1) (g1 := x1.2.2) ok [ma_i (v1), ma_i (v2)] [ma_i (0), q_a t (97)] (cf_Law_21 t) d_Law_section_5 s_0 k_0 rfl (t_Desk_section t ok (v1) (v2) f g hm2 ⟨rfl, rfl⟩) rfl rfl (by decide) (by decide) (q_ble rfl) ?_
    refine et_i2l (pc := 8) d_Law_section_8 ?_
    refine et_last (pc := 9) d_Law_section_9 s_97 ⟨by decide, by decide⟩ (by decide) ?_
    replace hp := q_let_of hp
    obtain ⟨g8, hz, hp⟩ := hp
    rw [← hz]
    clear hz
    refine ev_goto (pc := 10) (tgt := 25) d_Law_section_10 (by decide) ?_
    refine ev_iconst (pc := 25) d_Law_section_25 ?_
    cases Option.some.inj hp
    exact et_iret (pc := 26) d_Law_section_26 rfl hQ
  · replace hp := q_bind hp
    obtain ⟨w3, hm4, hp⟩ := hp
    by_cases hr5 : w3.1 = 0
    · rw [if_pos hr5] at hp
      have hx9 := xt_Desk_section t ok (v1) (v2) f g hm4
      rw [hr5] at hx9
      refine et_callVC (pc := 5) (E0 := "java/lang/IllegalArgumentException") ok [ma_i (v1), ma_i (v2)] [ma_i (0), q_a t (97)] (cf_Law_21 t) (q_in 703 (by decide +kernel) rfl) d_Law_section_5 s_0 k_0 rfl hx9 rfl rfl (by decide) (by decide) (q_ble rfl) [] [(0, 10, 17, 19), (0, 10, 21, 25)] (0, 10, 13, 13) rfl rfl (by decide) (q_in 596 (by decide +kernel) rfl) (by decide) (fun y hy => nomatch hy) (fun q9 => ?_)
      refine ev_astore (pc := 13) d_Law_section_13 (by decide) [(4, _), (0, _), (1, _), (2, _), (3, _)] rfl ?_
      refine ev_iconst (pc := 15) d_Law_section_15 ?_
      cases Option.some.inj hp
      exact et_iret (pc := 16) d_Law_section_16 rfl hQ
    · rw [if_neg hr5] at hp
      by_cases hr6 : w3.1 = 1
      · rw [if_pos hr6] at hp
        have hx9 := xt_Desk_section t ok (v1) (v2) f g hm4
        rw [hr6] at hx9
        refine et_callVC (pc := 5) (E0 := "java/lang/IllegalStateException") ok [ma_i (v1), ma_i (v2)] [ma_i (0), q_a t (97)] (cf_Law_21 t) (q_in 703 (by decide +kernel) rfl) d_Law_section_5 s_0 k_0 rfl hx9 rfl rfl (by decide) (by decide) (q_ble rfl) [(0, 10, 13, 13)] [(0, 10, 21, 25)] (0, 10, 17, 19) rfl rfl (by decide) (q_in 669 (by decide +kernel) rfl) (by decide) (by intro y hy; simp only [List.mem_cons, List.not_mem_nil, or_false] at hy; rcases hy with rfl <;> first | exact ⟨rfl, by decide, "java/lang/IllegalArgumentException", q_in 596 (by decide +kernel) rfl, fun s h => q_ncast (by decide) (by decide) (by decide) s h⟩) (fun q9 => ?_)
        refine ev_astore (pc := 17) d_Law_section_17 (by decide) [(4, _), (0, _), (1, _), (2, _), (3, _)] rfl ?_
        refine ev_iconst (pc := 19) d_Law_section_19 ?_
        cases Option.some.inj hp
        exact et_iret (pc := 20) d_Law_section_20 rfl hQ
      · rw [if_neg hr6] at hp
        by_cases hr7 : w3.1 = 2
        · rw [if_pos hr7] at hp
          have hx9 := xt_Desk_section t ok (v1) (v2) f g hm4
          rw [hr7] at hx9
          refine et_callVC (pc := 5) (E0 := "java/util/NoSuchElementException") ok [ma_i (v1), ma_i (v2)] [ma_i (0), q_a t (97)] (cf_Law_21 t) (q_in 703 (by decide +kernel) rfl) d_Law_section_5 s_0 k_0 rfl hx9 rfl rfl (by decide) (by decide) (q_ble rfl) [(0, 10, 13, 13), (0, 10, 17, 19)] [] (0, 10, 21, 25) rfl rfl (by decide) (q_in 702 (by decide +kernel) rfl) (by decide) (by intro y hy; simp only [List.mem_cons, List.not_mem_nil, or_false] at hy; rcases hy with rfl | rfl <;> first | exact ⟨rfl, by decide, "java/lang/IllegalArgumentException", q_in 596 (by decide +kernel) rfl, fun s h => q_ncast (by decide) (by decide) (by decide) s h⟩ | exact ⟨rfl, by decide, "java/lang/IllegalStateException", q_in 669 (by decide +kernel) rfl, fun s h => q_ncast (by decide) (by decide) (by decide) s h⟩) (fun q9 => ?_)
          refine ev_astore (pc := 21) d_Law_section_21 (by decide) [(4, _), (0, _), (1, _), (2, _), (3, _)] rfl ?_
          refine ev_iconst (pc := 23) d_Law_section_23 ?_
          cases Option.some.inj hp
          exact et_iret (pc := 24) d_Law_section_24 rfl hQ
        · rw [if_neg hr7] at hp
          cases hp
theorem d_Law_put_0 : decode (m_c m_Law_put) 0 = .ok (.aload_n 2, 1) := by decide +kernel
theorem d_Law_put_1 : decode (m_c m_Law_put) 1 = .ok (.iconst 0, 1) := by decide +kernel
theorem d_Law_put_2 : decode (m_c m_Law_put) 2 = .ok (.aload_n 0, 1) := by decide +kernel
theorem d_Law_put_3 : decode (m_c m_Law_put) 3 = .ok (.iload_n 1, 1) := by decide +kernel
theorem d_Law_put_4 : decode (m_c m_Law_put) 4 = .ok (.invokevirtual 27, 3) := by decide +kernel
theorem d_Law_put_7 : decode (m_c m_Law_put) 7 = .ok (.i2l, 1) := by decide +kernel
theorem d_Law_put_8 : decode (m_c m_Law_put) 8 = .ok (.lastore, 1) := by decide +kernel
theorem d_Law_put_9 : decode (m_c m_Law_put) 9 = .ok (.goto 9, 3) := by decide +kernel
theorem d_Law_put_12 : decode (m_c m_Law_put) 12 = .ok (.astore_n 3, 1) := by decide +kernel
theorem d_Law_put_13 : decode (m_c m_Law_put) 13 = .ok (.iconst 1, 1) := by decide +kernel
theorem d_Law_put_14 : decode (m_c m_Law_put) 14 = .ok (.ireturn, 1) := by decide +kernel
theorem d_Law_put_15 : decode (m_c m_Law_put) 15 = .ok (.astore_n 3, 1) := by decide +kernel
theorem d_Law_put_16 : decode (m_c m_Law_put) 16 = .ok (.iconst 2, 1) := by decide +kernel
theorem d_Law_put_17 : decode (m_c m_Law_put) 17 = .ok (.ireturn, 1) := by decide +kernel
theorem d_Law_put_18 : decode (m_c m_Law_put) 18 = .ok (.iconst 0, 1) := by decide +kernel
theorem d_Law_put_19 : decode (m_c m_Law_put) 19 = .ok (.ireturn, 1) := by decide +kernel
def p_Law_put  (v1 : Int) (f g : q_F) : Option (Int × q_F × q_F) :=
  q_or (p_Desk_put (v1) f g) (fun x1 =>
    q_let (ma_up x1.2.2 97 (Int.toNat 0) (q_sw x1.1)) fun g7 =>
    some (0, x1.2.1, g7))
    ((x_Desk_put (v1) f g).bind fun w3 =>
  if w3.1 = 0 then
    some (1, w3.2.1, w3.2.2)
  else
    if w3.1 = 1 then
      some (2, w3.2.1, w3.2.2)
    else
      none)
theorem t_Law_put (t : q_V) (ok : ma_ok (q_G t))  {Q : Option Value → ma_H → Prop} {y : Int × q_F × q_F} (v1 : Int) (f g : q_F) (hp : p_Law_put  v1 f g = some y) (hQ : Q (some (ma_i y.1)) (q_h y.2.1 y.2.2)) : ma_Met (q_G t) false 8 131 1 6 m_Law_put [q_a t (0), ma_i (v1), q_a t (97)] (q_h f g) Q := by
  refine ma_metH (by decide +kernel) (q_ble rfl) (by decide) ?_
  change ma_Ev (q_G t) 8 131 1 6 m_Law_put 0 [(0, q_a t (0)), (1, ma_i (v1)), (2, q_a t (97))] [] (q_h f g) (ma_zr (q_G t) false Q)
  unfold p_Law_put at hp
  refine et_aload_n (pc := 0) d_Law_put_0 rfl rfl ?_
  refine ev_iconst (pc := 1) d_Law_put_1 ?_
  refine et_aload_n (pc := 2) d_Law_put_2 rfl rfl ?_
  refine ev_iload_n (pc := 3) d_Law_put_3 rfl rfl ?_
  replace hp := q_or_of hp
  rcases hp with ⟨x1, hm2, hp⟩ | ⟨-, hp⟩
  · refine et_callVi (pc := 4) (f1 := x1.2.1) (g1 := x1.2.2) ok [ma_i (v1)] [ma_i (0), q_a t (97)] (cf_Law_27 t) d_Law_put_4 s_0 k_0 rfl (t_Desk_put t ok (v1) f g hm2 ⟨rfl, rfl⟩) rfl rfl (by decide) (by decide) (q_ble rfl) ?_
    refine et_i2l (pc := 7) d_Law_put_7 ?_
    refine et_last (pc := 8) d_Law_put_8 s_97 ⟨by decide, by decide⟩ (by decide) ?_
    replace hp := q_let_of hp
    obtain ⟨g7, hz, hp⟩ := hp
    rw [← hz]
    clear hz
    refine ev_goto (pc := 9) (tgt := 18) d_Law_put_9 (by decide) ?_
    refine ev_iconst (pc := 18) d_Law_put_18 ?_
    cases Option.some.inj hp
    exact et_iret (pc := 19) d_Law_put_19 rfl hQ
  · replace hp := q_bind hp
    obtain ⟨w3, hm4, hp⟩ := hp
    by_cases hr5 : w3.1 = 0
    · rw [if_pos hr5] at hp
      have hx9 := xt_Desk_put t ok (v1) f g hm4
      rw [hr5] at hx9
      refine et_callVC (pc := 4) (E0 := "java/lang/IllegalArgumentException") ok [ma_i (v1)] [ma_i (0), q_a t (97)] (cf_Law_27 t) (q_in 732 (by decide +kernel) rfl) d_Law_put_4 s_0 k_0 rfl hx9 rfl rfl (by decide) (by decide) (q_ble rfl) [] [(0, 9, 15, 19)] (0, 9, 12, 13) rfl rfl (by decide) (q_in 596 (by decide +kernel) rfl) (by decide) (fun y hy => nomatch hy) (fun q9 => ?_)
      refine ev_astore_n (pc := 12) d_Law_put_12 rfl (by decide) [(3, _), (0, _), (1, _), (2, _)] rfl ?_
      refine ev_iconst (pc := 13) d_Law_put_13 ?_
      cases Option.some.inj hp
      exact et_iret (pc := 14) d_Law_put_14 rfl hQ
    · rw [if_neg hr5] at hp
      by_cases hr6 : w3.1 = 1
      · rw [if_pos hr6] at hp
        have hx9 := xt_Desk_put t ok (v1) f g hm4
        rw [hr6] at hx9
        refine et_callVC (pc := 4) (E0 := "java/lang/IllegalStateException") ok [ma_i (v1)] [ma_i (0), q_a t (97)] (cf_Law_27 t) (q_in 732 (by decide +kernel) rfl) d_Law_put_4 s_0 k_0 rfl hx9 rfl rfl (by decide) (by decide) (q_ble rfl) [(0, 9, 12, 13)] [] (0, 9, 15, 19) rfl rfl (by decide) (q_in 669 (by decide +kernel) rfl) (by decide) (by intro y hy; simp only [List.mem_cons, List.not_mem_nil, or_false] at hy; rcases hy with rfl <;> first | exact ⟨rfl, by decide, "java/lang/IllegalArgumentException", q_in 596 (by decide +kernel) rfl, fun s h => q_ncast (by decide) (by decide) (by decide) s h⟩) (fun q9 => ?_)
        refine ev_astore_n (pc := 15) d_Law_put_15 rfl (by decide) [(3, _), (0, _), (1, _), (2, _)] rfl ?_
        refine ev_iconst (pc := 16) d_Law_put_16 ?_
        cases Option.some.inj hp
        exact et_iret (pc := 17) d_Law_put_17 rfl hQ
      · rw [if_neg hr6] at hp
        cases hp
theorem d_Law_symbol_0 : decode (m_c m_Law_symbol) 0 = .ok (.aload_n 2, 1) := by decide +kernel
theorem d_Law_symbol_1 : decode (m_c m_Law_symbol) 1 = .ok (.iconst 0, 1) := by decide +kernel
theorem d_Law_symbol_2 : decode (m_c m_Law_symbol) 2 = .ok (.aload_n 0, 1) := by decide +kernel
theorem d_Law_symbol_3 : decode (m_c m_Law_symbol) 3 = .ok (.iload_n 1, 1) := by decide +kernel
theorem d_Law_symbol_4 : decode (m_c m_Law_symbol) 4 = .ok (.invokevirtual 31, 3) := by decide +kernel
theorem d_Law_symbol_7 : decode (m_c m_Law_symbol) 7 = .ok (.i2l, 1) := by decide +kernel
theorem d_Law_symbol_8 : decode (m_c m_Law_symbol) 8 = .ok (.lastore, 1) := by decide +kernel
theorem d_Law_symbol_9 : decode (m_c m_Law_symbol) 9 = .ok (.goto 12, 3) := by decide +kernel
theorem d_Law_symbol_12 : decode (m_c m_Law_symbol) 12 = .ok (.astore_n 3, 1) := by decide +kernel
theorem d_Law_symbol_13 : decode (m_c m_Law_symbol) 13 = .ok (.iconst 1, 1) := by decide +kernel
theorem d_Law_symbol_14 : decode (m_c m_Law_symbol) 14 = .ok (.ireturn, 1) := by decide +kernel
theorem d_Law_symbol_15 : decode (m_c m_Law_symbol) 15 = .ok (.astore_n 3, 1) := by decide +kernel
theorem d_Law_symbol_16 : decode (m_c m_Law_symbol) 16 = .ok (.iconst 2, 1) := by decide +kernel
theorem d_Law_symbol_17 : decode (m_c m_Law_symbol) 17 = .ok (.ireturn, 1) := by decide +kernel
theorem d_Law_symbol_18 : decode (m_c m_Law_symbol) 18 = .ok (.astore_n 3, 1) := by decide +kernel
theorem d_Law_symbol_19 : decode (m_c m_Law_symbol) 19 = .ok (.iconst 3, 1) := by decide +kernel
theorem d_Law_symbol_20 : decode (m_c m_Law_symbol) 20 = .ok (.ireturn, 1) := by decide +kernel
theorem d_Law_symbol_21 : decode (m_c m_Law_symbol) 21 = .ok (.iconst 0, 1) := by decide +kernel
theorem d_Law_symbol_22 : decode (m_c m_Law_symbol) 22 = .ok (.ireturn, 1) := by decide +kernel
def p_Law_symbol  (v1 : Int) (f g : q_F) : Option (Int × q_F × q_F) :=
  q_or (p_Desk_symbol (v1) f g) (fun x1 =>
    q_let (ma_up x1.2.2 97 (Int.toNat 0) (q_sw x1.1)) fun g8 =>
    some (0, x1.2.1, g8))
    ((x_Desk_symbol (v1) f g).bind fun w3 =>
  if w3.1 = 0 then
    some (1, w3.2.1, w3.2.2)
  else
    if w3.1 = 1 then
      some (2, w3.2.1, w3.2.2)
    else
      if w3.1 = 2 then
        some (3, w3.2.1, w3.2.2)
      else
        none)
theorem t_Law_symbol (t : q_V) (ok : ma_ok (q_G t))  {Q : Option Value → ma_H → Prop} {y : Int × q_F × q_F} (v1 : Int) (f g : q_F) (hp : p_Law_symbol  v1 f g = some y) (hQ : Q (some (ma_i y.1)) (q_h y.2.1 y.2.2)) : ma_Met (q_G t) false 8 132 1 6 m_Law_symbol [q_a t (0), ma_i (v1), q_a t (97)] (q_h f g) Q := by
  refine ma_metH (by decide +kernel) (q_ble rfl) (by decide) ?_
  change ma_Ev (q_G t) 8 132 1 6 m_Law_symbol 0 [(0, q_a t (0)), (1, ma_i (v1)), (2, q_a t (97))] [] (q_h f g) (ma_zr (q_G t) false Q)
  unfold p_Law_symbol at hp
  refine et_aload_n (pc := 0) d_Law_symbol_0 rfl rfl ?_
  refine ev_iconst (pc := 1) d_Law_symbol_1 ?_
  refine et_aload_n (pc := 2) d_Law_symbol_2 rfl rfl ?_
  refine ev_iload_n (pc := 3) d_Law_symbol_3 rfl rfl ?_
  replace hp := q_or_of hp
  rcases hp with ⟨x1, hm2, hp⟩ | ⟨-, hp⟩
  · refine et_callVi (pc := 4) (f1 := x1.2.1) (g1 := x1.2.2) ok [ma_i (v1)] [ma_i (0), q_a t (97)] (cf_Law_31 t) d_Law_symbol_4 s_0 k_0 rfl (t_Desk_symbol t ok (v1) f g hm2 ⟨rfl, rfl⟩) rfl rfl (by decide) (by decide) (q_ble rfl) ?_
    refine et_i2l (pc := 7) d_Law_symbol_7 ?_
    refine et_last (pc := 8) d_Law_symbol_8 s_97 ⟨by decide, by decide⟩ (by decide) ?_
    replace hp := q_let_of hp
    obtain ⟨g8, hz, hp⟩ := hp
    rw [← hz]
    clear hz
    refine ev_goto (pc := 9) (tgt := 21) d_Law_symbol_9 (by decide) ?_
    refine ev_iconst (pc := 21) d_Law_symbol_21 ?_
    cases Option.some.inj hp
    exact et_iret (pc := 22) d_Law_symbol_22 rfl hQ
  · replace hp := q_bind hp
    obtain ⟨w3, hm4, hp⟩ := hp
    by_cases hr5 : w3.1 = 0
    · rw [if_pos hr5] at hp
      have hx9 := xt_Desk_symbol t ok (v1) f g hm4
      rw [hr5] at hx9
      refine et_callVC (pc := 4) (E0 := "java/lang/IllegalArgumentException") ok [ma_i (v1)] [ma_i (0), q_a t (97)] (cf_Law_31 t) (q_in 739 (by decide +kernel) rfl) d_Law_symbol_4 s_0 k_0 rfl hx9 rfl rfl (by decide) (by decide) (q_ble rfl) [] [(0, 9, 15, 19), (0, 9, 18, 25)] (0, 9, 12, 13) rfl rfl (by decide) (q_in 596 (by decide +kernel) rfl) (by decide) (fun y hy => nomatch hy) (fun q9 => ?_)
      refine ev_astore_n (pc := 12) d_Law_symbol_12 rfl (by decide) [(3, _), (0, _), (1, _), (2, _)] rfl ?_
      refine ev_iconst (pc := 13) d_Law_symbol_13 ?_
      cases Option.some.inj hp
      exact et_iret (pc := 14) d_Law_symbol_14 rfl hQ
    · rw [if_neg hr5] at hp
      by_cases hr6 : w3.1 = 1
      · rw [if_pos hr6] at hp
        have hx9 := xt_Desk_symbol t ok (v1) f g hm4
        rw [hr6] at hx9
        refine et_callVC (pc := 4) (E0 := "java/lang/IllegalStateException") ok [ma_i (v1)] [ma_i (0), q_a t (97)] (cf_Law_31 t) (q_in 739 (by decide +kernel) rfl) d_Law_symbol_4 s_0 k_0 rfl hx9 rfl rfl (by decide) (by decide) (q_ble rfl) [(0, 9, 12, 13)] [(0, 9, 18, 25)] (0, 9, 15, 19) rfl rfl (by decide) (q_in 669 (by decide +kernel) rfl) (by decide) (by intro y hy; simp only [List.mem_cons, List.not_mem_nil, or_false] at hy; rcases hy with rfl <;> first | exact ⟨rfl, by decide, "java/lang/IllegalArgumentException", q_in 596 (by decide +kernel) rfl, fun s h => q_ncast (by decide) (by decide) (by decide) s h⟩) (fun q9 => ?_)
        refine ev_astore_n (pc := 15) d_Law_symbol_15 rfl (by decide) [(3, _), (0, _), (1, _), (2, _)] rfl ?_
        refine ev_iconst (pc := 16) d_Law_symbol_16 ?_
        cases Option.some.inj hp
        exact et_iret (pc := 17) d_Law_symbol_17 rfl hQ
      · rw [if_neg hr6] at hp
        by_cases hr7 : w3.1 = 2
        · rw [if_pos hr7] at hp
          have hx9 := xt_Desk_symbol t ok (v1) f g hm4
          rw [hr7] at hx9
          refine et_callVC (pc := 4) (E0 := "java/util/NoSuchElementException") ok [ma_i (v1)] [ma_i (0), q_a t (97)] (cf_Law_31 t) (q_in 739 (by decide +kernel) rfl) d_Law_symbol_4 s_0 k_0 rfl hx9 rfl rfl (by decide) (by decide) (q_ble rfl) [(0, 9, 12, 13), (0, 9, 15, 19)] [] (0, 9, 18, 25) rfl rfl (by decide) (q_in 702 (by decide +kernel) rfl) (by decide) (by intro y hy; simp only [List.mem_cons, List.not_mem_nil, or_false] at hy; rcases hy with rfl | rfl <;> first | exact ⟨rfl, by decide, "java/lang/IllegalArgumentException", q_in 596 (by decide +kernel) rfl, fun s h => q_ncast (by decide) (by decide) (by decide) s h⟩ | exact ⟨rfl, by decide, "java/lang/IllegalStateException", q_in 669 (by decide +kernel) rfl, fun s h => q_ncast (by decide) (by decide) (by decide) s h⟩) (fun q9 => ?_)
          refine ev_astore_n (pc := 18) d_Law_symbol_18 rfl (by decide) [(3, _), (0, _), (1, _), (2, _)] rfl ?_
          refine ev_iconst (pc := 19) d_Law_symbol_19 ?_
          cases Option.some.inj hp
          exact et_iret (pc := 20) d_Law_symbol_20 rfl hQ
        · rw [if_neg hr7] at hp
          cases hp
theorem d_Law_copies_0 : decode (m_c m_Law_copies) 0 = .ok (.aload_n 1, 1) := by decide +kernel
theorem d_Law_copies_1 : decode (m_c m_Law_copies) 1 = .ok (.iconst 0, 1) := by decide +kernel
theorem d_Law_copies_2 : decode (m_c m_Law_copies) 2 = .ok (.aload_n 0, 1) := by decide +kernel
theorem d_Law_copies_3 : decode (m_c m_Law_copies) 3 = .ok (.invokevirtual 34, 3) := by decide +kernel
theorem d_Law_copies_6 : decode (m_c m_Law_copies) 6 = .ok (.i2l, 1) := by decide +kernel
theorem d_Law_copies_7 : decode (m_c m_Law_copies) 7 = .ok (.lastore, 1) := by decide +kernel
theorem d_Law_copies_8 : decode (m_c m_Law_copies) 8 = .ok (.goto 6, 3) := by decide +kernel
theorem d_Law_copies_11 : decode (m_c m_Law_copies) 11 = .ok (.astore_n 2, 1) := by decide +kernel
theorem d_Law_copies_12 : decode (m_c m_Law_copies) 12 = .ok (.iconst 1, 1) := by decide +kernel
theorem d_Law_copies_13 : decode (m_c m_Law_copies) 13 = .ok (.ireturn, 1) := by decide +kernel
theorem d_Law_copies_14 : decode (m_c m_Law_copies) 14 = .ok (.iconst 0, 1) := by decide +kernel
theorem d_Law_copies_15 : decode (m_c m_Law_copies) 15 = .ok (.ireturn, 1) := by decide +kernel
def p_Law_copies   (f g : q_F) : Option (Int × q_F × q_F) :=
  q_or (p_Desk_copies  f g) (fun x1 =>
    q_let (ma_up x1.2.2 97 (Int.toNat 0) (q_sw x1.1)) fun g6 =>
    some (0, x1.2.1, g6))
    ((x_Desk_copies  f g).bind fun w3 =>
  if w3.1 = 1 then
    some (1, w3.2.1, w3.2.2)
  else
    none)
theorem t_Law_copies (t : q_V) (ok : ma_ok (q_G t))  {Q : Option Value → ma_H → Prop} {y : Int × q_F × q_F}  (f g : q_F) (hp : p_Law_copies   f g = some y) (hQ : Q (some (ma_i y.1)) (q_h y.2.1 y.2.2)) : ma_Met (q_G t) false 8 130 1 6 m_Law_copies [q_a t (0), q_a t (97)] (q_h f g) Q := by
  refine ma_metH (by decide +kernel) (q_ble rfl) (by decide) ?_
  change ma_Ev (q_G t) 8 130 1 6 m_Law_copies 0 [(0, q_a t (0)), (1, q_a t (97))] [] (q_h f g) (ma_zr (q_G t) false Q)
  unfold p_Law_copies at hp
  refine et_aload_n (pc := 0) d_Law_copies_0 rfl rfl ?_
  refine ev_iconst (pc := 1) d_Law_copies_1 ?_
  refine et_aload_n (pc := 2) d_Law_copies_2 rfl rfl ?_
  replace hp := q_or_of hp
  rcases hp with ⟨x1, hm2, hp⟩ | ⟨-, hp⟩
  · refine et_callVi (pc := 3) (f1 := x1.2.1) (g1 := x1.2.2) ok [] [ma_i (0), q_a t (97)] (cf_Law_34 t) d_Law_copies_3 s_0 k_0 rfl (t_Desk_copies t ok  f g hm2 ⟨rfl, rfl⟩) rfl rfl (by decide) (by decide) (q_ble rfl) ?_
    refine et_i2l (pc := 6) d_Law_copies_6 ?_
    refine et_last (pc := 7) d_Law_copies_7 s_97 ⟨by decide, by decide⟩ (by decide) ?_
    replace hp := q_let_of hp
    obtain ⟨g6, hz, hp⟩ := hp
    rw [← hz]
    clear hz
    refine ev_goto (pc := 8) (tgt := 14) d_Law_copies_8 (by decide) ?_
    refine ev_iconst (pc := 14) d_Law_copies_14 ?_
    cases Option.some.inj hp
    exact et_iret (pc := 15) d_Law_copies_15 rfl hQ
  · replace hp := q_bind hp
    obtain ⟨w3, hm4, hp⟩ := hp
    by_cases hr5 : w3.1 = 1
    · rw [if_pos hr5] at hp
      have hx9 := xt_Desk_copies t ok  f g hm4
      rw [hr5] at hx9
      refine et_callVC (pc := 3) (E0 := "java/lang/IllegalStateException") ok [] [ma_i (0), q_a t (97)] (cf_Law_34 t) (q_in 746 (by decide +kernel) rfl) d_Law_copies_3 s_0 k_0 rfl hx9 rfl rfl (by decide) (by decide) (q_ble rfl) [] [] (0, 8, 11, 19) rfl rfl (by decide) (q_in 669 (by decide +kernel) rfl) (by decide) (fun y hy => nomatch hy) (fun q9 => ?_)
      refine ev_astore_n (pc := 11) d_Law_copies_11 rfl (by decide) [(2, _), (0, _), (1, _)] rfl ?_
      refine ev_iconst (pc := 12) d_Law_copies_12 ?_
      cases Option.some.inj hp
      exact et_iret (pc := 13) d_Law_copies_13 rfl hQ
    · rw [if_neg hr5] at hp
      cases hp
theorem d_Law_copy_0 : decode (m_c m_Law_copy) 0 = .ok (.aload_n 3, 1) := by decide +kernel
theorem d_Law_copy_1 : decode (m_c m_Law_copy) 1 = .ok (.iconst 0, 1) := by decide +kernel
theorem d_Law_copy_2 : decode (m_c m_Law_copy) 2 = .ok (.aload_n 0, 1) := by decide +kernel
theorem d_Law_copy_3 : decode (m_c m_Law_copy) 3 = .ok (.iload_n 1, 1) := by decide +kernel
theorem d_Law_copy_4 : decode (m_c m_Law_copy) 4 = .ok (.iload_n 2, 1) := by decide +kernel
theorem d_Law_copy_5 : decode (m_c m_Law_copy) 5 = .ok (.invokevirtual 38, 3) := by decide +kernel
theorem d_Law_copy_8 : decode (m_c m_Law_copy) 8 = .ok (.i2l, 1) := by decide +kernel
theorem d_Law_copy_9 : decode (m_c m_Law_copy) 9 = .ok (.lastore, 1) := by decide +kernel
theorem d_Law_copy_10 : decode (m_c m_Law_copy) 10 = .ok (.goto 15, 3) := by decide +kernel
theorem d_Law_copy_13 : decode (m_c m_Law_copy) 13 = .ok (.astore 4, 2) := by decide +kernel
theorem d_Law_copy_15 : decode (m_c m_Law_copy) 15 = .ok (.iconst 1, 1) := by decide +kernel
theorem d_Law_copy_16 : decode (m_c m_Law_copy) 16 = .ok (.ireturn, 1) := by decide +kernel
theorem d_Law_copy_17 : decode (m_c m_Law_copy) 17 = .ok (.astore 4, 2) := by decide +kernel
theorem d_Law_copy_19 : decode (m_c m_Law_copy) 19 = .ok (.iconst 2, 1) := by decide +kernel
theorem d_Law_copy_20 : decode (m_c m_Law_copy) 20 = .ok (.ireturn, 1) := by decide +kernel
theorem d_Law_copy_21 : decode (m_c m_Law_copy) 21 = .ok (.astore 4, 2) := by decide +kernel
theorem d_Law_copy_23 : decode (m_c m_Law_copy) 23 = .ok (.iconst 3, 1) := by decide +kernel
theorem d_Law_copy_24 : decode (m_c m_Law_copy) 24 = .ok (.ireturn, 1) := by decide +kernel
theorem d_Law_copy_25 : decode (m_c m_Law_copy) 25 = .ok (.iconst 0, 1) := by decide +kernel
theorem d_Law_copy_26 : decode (m_c m_Law_copy) 26 = .ok (.ireturn, 1) := by decide +kernel
def p_Law_copy  (v1 : Int) (v2 : Int) (f g : q_F) : Option (Int × q_F × q_F) :=
  q_or (p_Desk_copy (v1) (v2) f g) (fun x1 =>
    q_let (ma_up x1.2.2 97 (Int.toNat 0) (q_sw x1.1)) fun g8 =>
    some (0, x1.2.1, g8))
    ((x_Desk_copy (v1) (v2) f g).bind fun w3 =>
  if w3.1 = 0 then
    some (1, w3.2.1, w3.2.2)
  else
    if w3.1 = 1 then
      some (2, w3.2.1, w3.2.2)
    else
      if w3.1 = 2 then
        some (3, w3.2.1, w3.2.2)
      else
        none)
theorem t_Law_copy (t : q_V) (ok : ma_ok (q_G t))  {Q : Option Value → ma_H → Prop} {y : Int × q_F × q_F} (v1 : Int) (v2 : Int) (f g : q_F) (hp : p_Law_copy  v1 v2 f g = some y) (hQ : Q (some (ma_i y.1)) (q_h y.2.1 y.2.2)) : ma_Met (q_G t) false 8 133 1 6 m_Law_copy [q_a t (0), ma_i (v1), ma_i (v2), q_a t (97)] (q_h f g) Q := by
  refine ma_metH (by decide +kernel) (q_ble rfl) (by decide) ?_
  change ma_Ev (q_G t) 8 133 1 6 m_Law_copy 0 [(0, q_a t (0)), (1, ma_i (v1)), (2, ma_i (v2)), (3, q_a t (97))] [] (q_h f g) (ma_zr (q_G t) false Q)
  unfold p_Law_copy at hp
  refine et_aload_n (pc := 0) d_Law_copy_0 rfl rfl ?_
  refine ev_iconst (pc := 1) d_Law_copy_1 ?_
  refine et_aload_n (pc := 2) d_Law_copy_2 rfl rfl ?_
  refine ev_iload_n (pc := 3) d_Law_copy_3 rfl rfl ?_
  refine ev_iload_n (pc := 4) d_Law_copy_4 rfl rfl ?_
  replace hp := q_or_of hp
  rcases hp with ⟨x1, hm2, hp⟩ | ⟨-, hp⟩
  · refine et_callVi (pc := 5) (f1 := x1.2.1) (g1 := x1.2.2) ok [ma_i (v1), ma_i (v2)] [ma_i (0), q_a t (97)] (cf_Law_38 t) d_Law_copy_5 s_0 k_0 rfl (t_Desk_copy t ok (v1) (v2) f g hm2 ⟨rfl, rfl⟩) rfl rfl (by decide) (by decide) (q_ble rfl) ?_
    refine et_i2l (pc := 8) d_Law_copy_8 ?_
    refine et_last (pc := 9) d_Law_copy_9 s_97 ⟨by decide, by decide⟩ (by decide) ?_
    replace hp := q_let_of hp
    obtain ⟨g8, hz, hp⟩ := hp
    rw [← hz]
    clear hz
    refine ev_goto (pc := 10) (tgt := 25) d_Law_copy_10 (by decide) ?_
    refine ev_iconst (pc := 25) d_Law_copy_25 ?_
    cases Option.some.inj hp
    exact et_iret (pc := 26) d_Law_copy_26 rfl hQ
  · replace hp := q_bind hp
    obtain ⟨w3, hm4, hp⟩ := hp
    by_cases hr5 : w3.1 = 0
    · rw [if_pos hr5] at hp
      have hx9 := xt_Desk_copy t ok (v1) (v2) f g hm4
      rw [hr5] at hx9
      refine et_callVC (pc := 5) (E0 := "java/lang/IllegalArgumentException") ok [ma_i (v1), ma_i (v2)] [ma_i (0), q_a t (97)] (cf_Law_38 t) (q_in 753 (by decide +kernel) rfl) d_Law_copy_5 s_0 k_0 rfl hx9 rfl rfl (by decide) (by decide) (q_ble rfl) [] [(0, 10, 17, 19), (0, 10, 21, 25)] (0, 10, 13, 13) rfl rfl (by decide) (q_in 596 (by decide +kernel) rfl) (by decide) (fun y hy => nomatch hy) (fun q9 => ?_)
      refine ev_astore (pc := 13) d_Law_copy_13 (by decide) [(4, _), (0, _), (1, _), (2, _), (3, _)] rfl ?_
      refine ev_iconst (pc := 15) d_Law_copy_15 ?_
      cases Option.some.inj hp
      exact et_iret (pc := 16) d_Law_copy_16 rfl hQ
    · rw [if_neg hr5] at hp
      by_cases hr6 : w3.1 = 1
      · rw [if_pos hr6] at hp
        have hx9 := xt_Desk_copy t ok (v1) (v2) f g hm4
        rw [hr6] at hx9
        refine et_callVC (pc := 5) (E0 := "java/lang/IllegalStateException") ok [ma_i (v1), ma_i (v2)] [ma_i (0), q_a t (97)] (cf_Law_38 t) (q_in 753 (by decide +kernel) rfl) d_Law_copy_5 s_0 k_0 rfl hx9 rfl rfl (by decide) (by decide) (q_ble rfl) [(0, 10, 13, 13)] [(0, 10, 21, 25)] (0, 10, 17, 19) rfl rfl (by decide) (q_in 669 (by decide +kernel) rfl) (by decide) (by intro y hy; simp only [List.mem_cons, List.not_mem_nil, or_false] at hy; rcases hy with rfl <;> first | exact ⟨rfl, by decide, "java/lang/IllegalArgumentException", q_in 596 (by decide +kernel) rfl, fun s h => q_ncast (by decide) (by decide) (by decide) s h⟩) (fun q9 => ?_)
        refine ev_astore (pc := 17) d_Law_copy_17 (by decide) [(4, _), (0, _), (1, _), (2, _), (3, _)] rfl ?_
        refine ev_iconst (pc := 19) d_Law_copy_19 ?_
        cases Option.some.inj hp
        exact et_iret (pc := 20) d_Law_copy_20 rfl hQ
      · rw [if_neg hr6] at hp
        by_cases hr7 : w3.1 = 2
        · rw [if_pos hr7] at hp
          have hx9 := xt_Desk_copy t ok (v1) (v2) f g hm4
          rw [hr7] at hx9
          refine et_callVC (pc := 5) (E0 := "java/util/NoSuchElementException") ok [ma_i (v1), ma_i (v2)] [ma_i (0), q_a t (97)] (cf_Law_38 t) (q_in 753 (by decide +kernel) rfl) d_Law_copy_5 s_0 k_0 rfl hx9 rfl rfl (by decide) (by decide) (q_ble rfl) [(0, 10, 13, 13), (0, 10, 17, 19)] [] (0, 10, 21, 25) rfl rfl (by decide) (q_in 702 (by decide +kernel) rfl) (by decide) (by intro y hy; simp only [List.mem_cons, List.not_mem_nil, or_false] at hy; rcases hy with rfl | rfl <;> first | exact ⟨rfl, by decide, "java/lang/IllegalArgumentException", q_in 596 (by decide +kernel) rfl, fun s h => q_ncast (by decide) (by decide) (by decide) s h⟩ | exact ⟨rfl, by decide, "java/lang/IllegalStateException", q_in 669 (by decide +kernel) rfl, fun s h => q_ncast (by decide) (by decide) (by decide) s h⟩) (fun q9 => ?_)
          refine ev_astore (pc := 21) d_Law_copy_21 (by decide) [(4, _), (0, _), (1, _), (2, _), (3, _)] rfl ?_
          refine ev_iconst (pc := 23) d_Law_copy_23 ?_
          cases Option.some.inj hp
          exact et_iret (pc := 24) d_Law_copy_24 rfl hQ
        · rw [if_neg hr7] at hp
          cases hp
theorem d_Law_load_0 : decode (m_c m_Law_load) 0 = .ok (.aload_n 0, 1) := by decide +kernel
theorem d_Law_load_1 : decode (m_c m_Law_load) 1 = .ok (.invokevirtual 41, 3) := by decide +kernel
theorem d_Law_load_4 : decode (m_c m_Law_load) 4 = .ok (.goto 6, 3) := by decide +kernel
theorem d_Law_load_7 : decode (m_c m_Law_load) 7 = .ok (.astore_n 1, 1) := by decide +kernel
theorem d_Law_load_8 : decode (m_c m_Law_load) 8 = .ok (.iconst 1, 1) := by decide +kernel
theorem d_Law_load_9 : decode (m_c m_Law_load) 9 = .ok (.ireturn, 1) := by decide +kernel
theorem d_Law_load_10 : decode (m_c m_Law_load) 10 = .ok (.iconst 0, 1) := by decide +kernel
theorem d_Law_load_11 : decode (m_c m_Law_load) 11 = .ok (.ireturn, 1) := by decide +kernel
def p_Law_load   (f g : q_F) : Option (Int × q_F × q_F) :=
  q_or (p_Desk_load  f g) (fun x1 =>
    some (0, x1.1, x1.2))
    ((x_Desk_load  f g).bind fun w3 =>
  if w3.1 = 1 then
    some (1, w3.2.1, w3.2.2)
  else
    none)
theorem t_Law_load (t : q_V) (ok : ma_ok (q_G t))  {Q : Option Value → ma_H → Prop} {y : Int × q_F × q_F}  (f g : q_F) (hp : p_Law_load   f g = some y) (hQ : Q (some (ma_i y.1)) (q_h y.2.1 y.2.2)) : ma_Met (q_G t) false 8 132 1 6 m_Law_load [q_a t (0)] (q_h f g) Q := by
  refine ma_metH (by decide +kernel) (q_ble rfl) (by decide) ?_
  change ma_Ev (q_G t) 8 132 1 6 m_Law_load 0 [(0, q_a t (0))] [] (q_h f g) (ma_zr (q_G t) false Q)
  unfold p_Law_load at hp
  refine et_aload_n (pc := 0) d_Law_load_0 rfl rfl ?_
  replace hp := q_or_of hp
  rcases hp with ⟨x1, hm2, hp⟩ | ⟨-, hp⟩
  · refine et_callVv (pc := 1) (f1 := x1.1) (g1 := x1.2) ok [] [] (cf_Law_41 t) d_Law_load_1 s_0 k_0 rfl (t_Desk_load t ok  f g hm2 ⟨rfl, rfl⟩) rfl rfl (by decide) (by decide) (q_ble rfl) ?_
    refine ev_goto (pc := 4) (tgt := 10) d_Law_load_4 (by decide) ?_
    refine ev_iconst (pc := 10) d_Law_load_10 ?_
    cases Option.some.inj hp
    exact et_iret (pc := 11) d_Law_load_11 rfl hQ
  · replace hp := q_bind hp
    obtain ⟨w3, hm4, hp⟩ := hp
    by_cases hr5 : w3.1 = 1
    · rw [if_pos hr5] at hp
      have hx9 := xt_Desk_load t ok  f g hm4
      rw [hr5] at hx9
      refine et_callVC (pc := 1) (E0 := "java/lang/IllegalStateException") ok [] [] (cf_Law_41 t) (q_in 761 (by decide +kernel) rfl) d_Law_load_1 s_0 k_0 rfl hx9 rfl rfl (by decide) (by decide) (q_ble rfl) [] [] (0, 4, 7, 19) rfl rfl (by decide) (q_in 669 (by decide +kernel) rfl) (by decide) (fun y hy => nomatch hy) (fun q9 => ?_)
      refine ev_astore_n (pc := 7) d_Law_load_7 rfl (by decide) [(1, _), (0, _)] rfl ?_
      refine ev_iconst (pc := 8) d_Law_load_8 ?_
      cases Option.some.inj hp
      exact et_iret (pc := 9) d_Law_load_9 rfl hQ
    · rw [if_neg hr5] at hp
      cases hp
theorem d_Law_start_0 : decode (m_c m_Law_start) 0 = .ok (.aload_n 0, 1) := by decide +kernel
theorem d_Law_start_1 : decode (m_c m_Law_start) 1 = .ok (.invokevirtual 44, 3) := by decide +kernel
theorem d_Law_start_4 : decode (m_c m_Law_start) 4 = .ok (.goto 6, 3) := by decide +kernel
theorem d_Law_start_7 : decode (m_c m_Law_start) 7 = .ok (.astore_n 1, 1) := by decide +kernel
theorem d_Law_start_8 : decode (m_c m_Law_start) 8 = .ok (.iconst 1, 1) := by decide +kernel
theorem d_Law_start_9 : decode (m_c m_Law_start) 9 = .ok (.ireturn, 1) := by decide +kernel
theorem d_Law_start_10 : decode (m_c m_Law_start) 10 = .ok (.iconst 0, 1) := by decide +kernel
theorem d_Law_start_11 : decode (m_c m_Law_start) 11 = .ok (.ireturn, 1) := by decide +kernel
def p_Law_start   (f g : q_F) : Option (Int × q_F × q_F) :=
  q_or (p_Desk_start  f g) (fun x1 =>
    some (0, x1.1, x1.2))
    ((x_Desk_start  f g).bind fun w3 =>
  if w3.1 = 1 then
    some (1, w3.2.1, w3.2.2)
  else
    none)
theorem t_Law_start (t : q_V) (ok : ma_ok (q_G t))  {Q : Option Value → ma_H → Prop} {y : Int × q_F × q_F}  (f g : q_F) (hp : p_Law_start   f g = some y) (hQ : Q (some (ma_i y.1)) (q_h y.2.1 y.2.2)) : ma_Met (q_G t) false 8 132 1 6 m_Law_start [q_a t (0)] (q_h f g) Q := by
  refine ma_metH (by decide +kernel) (q_ble rfl) (by decide) ?_
  change ma_Ev (q_G t) 8 132 1 6 m_Law_start 0 [(0, q_a t (0))] [] (q_h f g) (ma_zr (q_G t) false Q)
  unfold p_Law_start at hp
  refine et_aload_n (pc := 0) d_Law_start_0 rfl rfl ?_
  replace hp := q_or_of hp
  rcases hp with ⟨x1, hm2, hp⟩ | ⟨-, hp⟩
  · refine et_callVv (pc := 1) (f1 := x1.1) (g1 := x1.2) ok [] [] (cf_Law_44 t) d_Law_start_1 s_0 k_0 rfl (t_Desk_start t ok  f g hm2 ⟨rfl, rfl⟩) rfl rfl (by decide) (by decide) (q_ble rfl) ?_
    refine ev_goto (pc := 4) (tgt := 10) d_Law_start_4 (by decide) ?_
    refine ev_iconst (pc := 10) d_Law_start_10 ?_
    cases Option.some.inj hp
    exact et_iret (pc := 11) d_Law_start_11 rfl hQ
  · replace hp := q_bind hp
    obtain ⟨w3, hm4, hp⟩ := hp
    by_cases hr5 : w3.1 = 1
    · rw [if_pos hr5] at hp
      have hx9 := xt_Desk_start t ok  f g hm4
      rw [hr5] at hx9
      refine et_callVC (pc := 1) (E0 := "java/lang/IllegalStateException") ok [] [] (cf_Law_44 t) (q_in 785 (by decide +kernel) rfl) d_Law_start_1 s_0 k_0 rfl hx9 rfl rfl (by decide) (by decide) (q_ble rfl) [] [] (0, 4, 7, 19) rfl rfl (by decide) (q_in 669 (by decide +kernel) rfl) (by decide) (fun y hy => nomatch hy) (fun q9 => ?_)
      refine ev_astore_n (pc := 7) d_Law_start_7 rfl (by decide) [(1, _), (0, _)] rfl ?_
      refine ev_iconst (pc := 8) d_Law_start_8 ?_
      cases Option.some.inj hp
      exact et_iret (pc := 9) d_Law_start_9 rfl hQ
    · rw [if_neg hr5] at hp
      cases hp
theorem d_Law_memory_0 : decode (m_c m_Law_memory) 0 = .ok (.aload_n 2, 1) := by decide +kernel
theorem d_Law_memory_1 : decode (m_c m_Law_memory) 1 = .ok (.iconst 0, 1) := by decide +kernel
theorem d_Law_memory_2 : decode (m_c m_Law_memory) 2 = .ok (.aload_n 0, 1) := by decide +kernel
theorem d_Law_memory_3 : decode (m_c m_Law_memory) 3 = .ok (.iload_n 1, 1) := by decide +kernel
theorem d_Law_memory_4 : decode (m_c m_Law_memory) 4 = .ok (.invokevirtual 47, 3) := by decide +kernel
theorem d_Law_memory_7 : decode (m_c m_Law_memory) 7 = .ok (.i2l, 1) := by decide +kernel
theorem d_Law_memory_8 : decode (m_c m_Law_memory) 8 = .ok (.lastore, 1) := by decide +kernel
theorem d_Law_memory_9 : decode (m_c m_Law_memory) 9 = .ok (.goto 6, 3) := by decide +kernel
theorem d_Law_memory_12 : decode (m_c m_Law_memory) 12 = .ok (.astore_n 3, 1) := by decide +kernel
theorem d_Law_memory_13 : decode (m_c m_Law_memory) 13 = .ok (.iconst 1, 1) := by decide +kernel
theorem d_Law_memory_14 : decode (m_c m_Law_memory) 14 = .ok (.ireturn, 1) := by decide +kernel
theorem d_Law_memory_15 : decode (m_c m_Law_memory) 15 = .ok (.iconst 0, 1) := by decide +kernel
theorem d_Law_memory_16 : decode (m_c m_Law_memory) 16 = .ok (.ireturn, 1) := by decide +kernel
def p_Law_memory  (v1 : Int) (f g : q_F) : Option (Int × q_F × q_F) :=
  q_or (p_Desk_memory (v1) f g) (fun x1 =>
    q_let (ma_up x1.2.2 97 (Int.toNat 0) (q_sw x1.1)) fun g6 =>
    some (0, x1.2.1, g6))
    ((x_Desk_memory (v1) f g).bind fun w3 =>
  if w3.1 = 3 then
    some (1, w3.2.1, w3.2.2)
  else
    none)
theorem t_Law_memory (t : q_V) (ok : ma_ok (q_G t))  {Q : Option Value → ma_H → Prop} {y : Int × q_F × q_F} (v1 : Int) (f g : q_F) (hp : p_Law_memory  v1 f g = some y) (hQ : Q (some (ma_i y.1)) (q_h y.2.1 y.2.2)) : ma_Met (q_G t) false 7 111 1 6 m_Law_memory [q_a t (0), ma_i (v1), q_a t (97)] (q_h f g) Q := by
  refine ma_metH (by decide +kernel) (q_ble rfl) (by decide) ?_
  change ma_Ev (q_G t) 7 111 1 6 m_Law_memory 0 [(0, q_a t (0)), (1, ma_i (v1)), (2, q_a t (97))] [] (q_h f g) (ma_zr (q_G t) false Q)
  unfold p_Law_memory at hp
  refine et_aload_n (pc := 0) d_Law_memory_0 rfl rfl ?_
  refine ev_iconst (pc := 1) d_Law_memory_1 ?_
  refine et_aload_n (pc := 2) d_Law_memory_2 rfl rfl ?_
  refine ev_iload_n (pc := 3) d_Law_memory_3 rfl rfl ?_
  replace hp := q_or_of hp
  rcases hp with ⟨x1, hm2, hp⟩ | ⟨-, hp⟩
  · refine et_callVi (pc := 4) (f1 := x1.2.1) (g1 := x1.2.2) ok [ma_i (v1)] [ma_i (0), q_a t (97)] (cf_Law_47 t) d_Law_memory_4 s_0 k_0 rfl (t_Desk_memory t ok (v1) f g hm2 ⟨rfl, rfl⟩) rfl rfl (by decide) (by decide) (q_ble rfl) ?_
    refine et_i2l (pc := 7) d_Law_memory_7 ?_
    refine et_last (pc := 8) d_Law_memory_8 s_97 ⟨by decide, by decide⟩ (by decide) ?_
    replace hp := q_let_of hp
    obtain ⟨g6, hz, hp⟩ := hp
    rw [← hz]
    clear hz
    refine ev_goto (pc := 9) (tgt := 15) d_Law_memory_9 (by decide) ?_
    refine ev_iconst (pc := 15) d_Law_memory_15 ?_
    cases Option.some.inj hp
    exact et_iret (pc := 16) d_Law_memory_16 rfl hQ
  · replace hp := q_bind hp
    obtain ⟨w3, hm4, hp⟩ := hp
    by_cases hr5 : w3.1 = 3
    · rw [if_pos hr5] at hp
      have hx9 := xt_Desk_memory t ok (v1) f g hm4
      rw [hr5] at hx9
      refine et_callVC (pc := 4) (E0 := "java/lang/IndexOutOfBoundsException") ok [ma_i (v1)] [ma_i (0), q_a t (97)] (cf_Law_47 t) (q_in 801 (by decide +kernel) rfl) d_Law_memory_4 s_0 k_0 rfl hx9 rfl rfl (by decide) (by decide) (q_ble rfl) [] [] (0, 9, 12, 50) rfl rfl (by decide) (q_in 800 (by decide +kernel) rfl) (by decide) (fun y hy => nomatch hy) (fun q9 => ?_)
      refine ev_astore_n (pc := 12) d_Law_memory_12 rfl (by decide) [(3, _), (0, _), (1, _), (2, _)] rfl ?_
      refine ev_iconst (pc := 13) d_Law_memory_13 ?_
      cases Option.some.inj hp
      exact et_iret (pc := 14) d_Law_memory_14 rfl hQ
    · rw [if_neg hr5] at hp
      cases hp
