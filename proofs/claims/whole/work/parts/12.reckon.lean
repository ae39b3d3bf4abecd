/-! ===== printed by walk.py: judge and reckoner ===== -/
theorem d_Judge_overflows_0 : decode (m_c m_Judge_overflows) 0 = .ok (.iconst 0, 1) := by decide +kernel
theorem d_Judge_overflows_1 : decode (m_c m_Judge_overflows) 1 = .ok (.istore_n 1, 1) := by decide +kernel
theorem d_Judge_overflows_2 : decode (m_c m_Judge_overflows) 2 = .ok (.iload_n 1, 1) := by decide +kernel
theorem d_Judge_overflows_3 : decode (m_c m_Judge_overflows) 3 = .ok (.aload_n 0, 1) := by decide +kernel
theorem d_Judge_overflows_4 : decode (m_c m_Judge_overflows) 4 = .ok (.getfield 9, 3) := by decide +kernel
theorem d_Judge_overflows_7 : decode (m_c m_Judge_overflows) 7 = .ok (.getfield 15, 3) := by decide +kernel
theorem d_Judge_overflows_10 : decode (m_c m_Judge_overflows) 10 = .ok (.if_icmp .ge 82, 3) := by decide +kernel
theorem d_Judge_overflows_13 : decode (m_c m_Judge_overflows) 13 = .ok (.aload_n 0, 1) := by decide +kernel
theorem d_Judge_overflows_14 : decode (m_c m_Judge_overflows) 14 = .ok (.getfield 9, 3) := by decide +kernel
theorem d_Judge_overflows_17 : decode (m_c m_Judge_overflows) 17 = .ok (.iload_n 1, 1) := by decide +kernel
theorem d_Judge_overflows_18 : decode (m_c m_Judge_overflows) 18 = .ok (.invokevirtual 21, 3) := by decide +kernel
theorem d_Judge_overflows_21 : decode (m_c m_Judge_overflows) 21 = .ok (.astore_n 2, 1) := by decide +kernel
theorem d_Judge_overflows_22 : decode (m_c m_Judge_overflows) 22 = .ok (.aload_n 0, 1) := by decide +kernel
theorem d_Judge_overflows_23 : decode (m_c m_Judge_overflows) 23 = .ok (.getfield 9, 3) := by decide +kernel
theorem d_Judge_overflows_26 : decode (m_c m_Judge_overflows) 26 = .ok (.getfield 25, 3) := by decide +kernel
theorem d_Judge_overflows_29 : decode (m_c m_Judge_overflows) 29 = .ok (.aload_n 2, 1) := by decide +kernel
theorem d_Judge_overflows_30 : decode (m_c m_Judge_overflows) 30 = .ok (.getfield 29, 3) := by decide +kernel
theorem d_Judge_overflows_33 : decode (m_c m_Judge_overflows) 33 = .ok (.aaload, 1) := by decide +kernel
theorem d_Judge_overflows_34 : decode (m_c m_Judge_overflows) 34 = .ok (.aload_n 2, 1) := by decide +kernel
theorem d_Judge_overflows_35 : decode (m_c m_Judge_overflows) 35 = .ok (.getfield 34, 3) := by decide +kernel
theorem d_Judge_overflows_38 : decode (m_c m_Judge_overflows) 38 = .ok (.aload_n 2, 1) := by decide +kernel
theorem d_Judge_overflows_39 : decode (m_c m_Judge_overflows) 39 = .ok (.getfield 37, 3) := by decide +kernel
theorem d_Judge_overflows_42 : decode (m_c m_Judge_overflows) 42 = .ok (.invokevirtual 40, 3) := by decide +kernel
theorem d_Judge_overflows_45 : decode (m_c m_Judge_overflows) 45 = .ok (.ifCond .ne 5, 3) := by decide +kernel
theorem d_Judge_overflows_48 : decode (m_c m_Judge_overflows) 48 = .ok (.iconst 1, 1) := by decide +kernel
theorem d_Judge_overflows_49 : decode (m_c m_Judge_overflows) 49 = .ok (.ireturn, 1) := by decide +kernel
theorem d_Judge_overflows_50 : decode (m_c m_Judge_overflows) 50 = .ok (.aload_n 2, 1) := by decide +kernel
theorem d_Judge_overflows_51 : decode (m_c m_Judge_overflows) 51 = .ok (.getfield 46, 3) := by decide +kernel
theorem d_Judge_overflows_54 : decode (m_c m_Judge_overflows) 54 = .ok (.iconst (-1), 1) := by decide +kernel
theorem d_Judge_overflows_55 : decode (m_c m_Judge_overflows) 55 = .ok (.if_icmp .eq 31, 3) := by decide +kernel
theorem d_Judge_overflows_58 : decode (m_c m_Judge_overflows) 58 = .ok (.aload_n 0, 1) := by decide +kernel
theorem d_Judge_overflows_59 : decode (m_c m_Judge_overflows) 59 = .ok (.getfield 9, 3) := by decide +kernel
theorem d_Judge_overflows_62 : decode (m_c m_Judge_overflows) 62 = .ok (.getfield 25, 3) := by decide +kernel
theorem d_Judge_overflows_65 : decode (m_c m_Judge_overflows) 65 = .ok (.aload_n 2, 1) := by decide +kernel
theorem d_Judge_overflows_66 : decode (m_c m_Judge_overflows) 66 = .ok (.getfield 46, 3) := by decide +kernel
theorem d_Judge_overflows_69 : decode (m_c m_Judge_overflows) 69 = .ok (.aaload, 1) := by decide +kernel
theorem d_Judge_overflows_70 : decode (m_c m_Judge_overflows) 70 = .ok (.aload_n 2, 1) := by decide +kernel
theorem d_Judge_overflows_71 : decode (m_c m_Judge_overflows) 71 = .ok (.getfield 49, 3) := by decide +kernel
theorem d_Judge_overflows_74 : decode (m_c m_Judge_overflows) 74 = .ok (.aload_n 2, 1) := by decide +kernel
theorem d_Judge_overflows_75 : decode (m_c m_Judge_overflows) 75 = .ok (.getfield 37, 3) := by decide +kernel
theorem d_Judge_overflows_78 : decode (m_c m_Judge_overflows) 78 = .ok (.invokevirtual 40, 3) := by decide +kernel
theorem d_Judge_overflows_81 : decode (m_c m_Judge_overflows) 81 = .ok (.ifCond .ne 5, 3) := by decide +kernel
theorem d_Judge_overflows_84 : decode (m_c m_Judge_overflows) 84 = .ok (.iconst 1, 1) := by decide +kernel
theorem d_Judge_overflows_85 : decode (m_c m_Judge_overflows) 85 = .ok (.ireturn, 1) := by decide +kernel
theorem d_Judge_overflows_86 : decode (m_c m_Judge_overflows) 86 = .ok (.iinc 1 1, 3) := by decide +kernel
theorem d_Judge_overflows_89 : decode (m_c m_Judge_overflows) 89 = .ok (.goto (-87), 3) := by decide +kernel
theorem d_Judge_overflows_92 : decode (m_c m_Judge_overflows) 92 = .ok (.iconst 0, 1) := by decide +kernel
theorem d_Judge_overflows_93 : decode (m_c m_Judge_overflows) 93 = .ok (.ireturn, 1) := by decide +kernel
def p_Judge_overflows_86  (c2 : Int → q_F → q_F → Option (Int × q_F × q_F)) (v1 : Int) (f g : q_F) : Option (Int × q_F × q_F) :=
  q_let (v1 + 1) fun z1 =>
  c2 (z1) f g
def p_Judge_overflows_2   : Nat → Int → q_F → q_F → Option (Int × q_F × q_F)
  | 0, _, _, _ => none
  | n + 1, v1, f, g =>
    if q_sw (f 3 7) ≤ q_sw v1 then
      some (0, f, g)
    else
      (p_Plan_sectionAt (v1) f g).bind fun x2 =>
      if 28 ≤ x2.1 ∧ x2.1 < 36 then
        if 0 ≤ (x2.2.1 x2.1 6) ∧ (x2.2.1 x2.1 6) < 4 then
          (p_Region_holds (24 + Int.toNat (x2.2.1 x2.1 6)) (x2.2.1 x2.1 9) (x2.2.1 x2.1 10) x2.2.1 x2.2.2).bind fun x6 =>
          if q_sw x6.1 = 0 then
            some (1, x6.2.1, x6.2.2)
          else
            if q_sw (x6.2.1 x2.1 8) = q_sw (-1) then
              p_Judge_overflows_86  (p_Judge_overflows_2   n) (v1) x6.2.1 x6.2.2
            else
              if 0 ≤ (x6.2.1 x2.1 8) ∧ (x6.2.1 x2.1 8) < 4 then
                (p_Region_holds (24 + Int.toNat (x6.2.1 x2.1 8)) (x6.2.1 x2.1 11) (x6.2.1 x2.1 10) x6.2.1 x6.2.2).bind fun x11 =>
                if q_sw x11.1 = 0 then
                  some (1, x11.2.1, x11.2.2)
                else
                  p_Judge_overflows_86  (p_Judge_overflows_2   n) (v1) x11.2.1 x11.2.2
              else none
        else none
      else none
def p_Judge_overflows   (f g : q_F) : Option (Int × q_F × q_F) :=
  p_Judge_overflows_2   1000 (0) f g
theorem e_Judge_overflows_86 (t : q_V) (ok : ma_ok (q_G t))  {Q : Option Value → ma_H → Prop} {y : Int × q_F × q_F} (hQ : Q (some (ma_i y.1)) (q_h y.2.1 y.2.2)) (c2 : Int → q_F → q_F → Option (Int × q_F × q_F)) (hc2 : ∀ (v1 : Int) (f g : q_F), c2 v1 f g = some y → ma_Ev (q_G t) 1 22 0 0 m_Judge_overflows 2 [(0, q_a t (57)), (1, ma_i (v1))] [] (q_h f g) (ma_zr (q_G t) false Q)) (v1 : Int) (f g : q_F) (hp : p_Judge_overflows_86  c2 v1 f g = some y) : ma_Ev (q_G t) 1 22 0 0 m_Judge_overflows 86 [(0, q_a t (57)), (1, ma_i (v1))] [] (q_h f g) (ma_zr (q_G t) false Q) := by
  unfold p_Judge_overflows_86 at hp
  refine ev_iinc (pc := 86) d_Judge_overflows_86 (by decide) rfl [(1, _), (0, _)] rfl ?_
  replace hp := q_let_of hp
  obtain ⟨z1, hz, hp⟩ := hp
  rw [← hz]
  clear hz
  refine ev_goto (pc := 89) (tgt := 2) d_Judge_overflows_89 (by decide) ?_
  refine ev_sub (ls2 := [(0, q_a t (57)), (1, ma_i (z1))]) [1, 0] rfl ?_
  exact hc2 (z1) f g hp
theorem e_Judge_overflows_2 (t : q_V) (ok : ma_ok (q_G t))  {Q : Option Value → ma_H → Prop} {y : Int × q_F × q_F} (hQ : Q (some (ma_i y.1)) (q_h y.2.1 y.2.2))   : ∀ (n : Nat) (v1 : Int) (f g : q_F), p_Judge_overflows_2   n v1 f g = some y → ma_Ev (q_G t) 1 22 0 0 m_Judge_overflows 2 [(0, q_a t (57)), (1, ma_i (v1))] [] (q_h f g) (ma_zr (q_G t) false Q) := by
  intro n
  induction n with
  | zero =>
    intro v1 f g hp
    rw [p_Judge_overflows_2] at hp
    cases hp
  | succ n ih =>
    intro v1 f g hp
    rw [p_Judge_overflows_2] at hp
    refine ev_iload_n (pc := 2) d_Judge_overflows_2 rfl rfl ?_
    refine et_aload_n (pc := 3) d_Judge_overflows_3 rfl rfl ?_
    refine et_getr (pc := 4) ok (fl_Judge_9 t) rfl d_Judge_overflows_4 s_57 r_57_0 ?_
    refine et_geti (pc := 7) ok (fl_Judge_15 t) rfl d_Judge_overflows_7 s_3 ?_
    refine et_icmp_ge (pc := 10) (tgt := 92) d_Judge_overflows_10 (by decide) (fun hj1 => ?_) (fun hj1 => ?_)
    · rw [if_pos hj1] at hp
      refine ev_iconst (pc := 92) d_Judge_overflows_92 ?_
      cases Option.some.inj hp
      exact et_zret (pc := 93) d_Judge_overflows_93 rfl (by decide) hQ
    · rw [if_neg hj1] at hp
      refine et_aload_n (pc := 13) d_Judge_overflows_13 rfl rfl ?_
      refine et_getr (pc := 14) ok (fl_Judge_9 t) rfl d_Judge_overflows_14 s_57 r_57_0 ?_
      refine ev_iload_n (pc := 17) d_Judge_overflows_17 rfl rfl ?_
      replace hp := q_bind hp
      obtain ⟨x2, hm3, hp⟩ := hp
      refine et_callVr (pc := 18) (f1 := x2.2.1) (g1 := x2.2.2) ok [ma_i (v1)] [] (cf_Judge_21 t) d_Judge_overflows_18 s_3 k_7 rfl (t_Plan_sectionAt t ok (v1) f g hm3 ⟨rfl, rfl⟩) rfl rfl (by decide) (by decide) (q_ble rfl) ?_
      replace hp := q_if hp
      obtain ⟨hb4, hp⟩ := hp
      refine et_astore_n (pc := 21) d_Judge_overflows_21 rfl (by decide) [(2, _), (0, _), (1, _)] rfl ?_
      refine et_aload_n (pc := 22) d_Judge_overflows_22 rfl rfl ?_
      refine et_getr (pc := 23) ok (fl_Judge_9 t) rfl d_Judge_overflows_23 s_57 r_57_0 ?_
      refine et_getr (pc := 26) ok (fl_Judge_25 t) rfl d_Judge_overflows_26 s_3 r_3_1 ?_
      refine et_aload_n (pc := 29) d_Judge_overflows_29 rfl rfl ?_
      refine et_geti (pc := 30) ok (fl_Judge_29 t) rfl d_Judge_overflows_30 (s_28 _ (by omega) (by omega)) ?_
      replace hp := q_if hp
      obtain ⟨hb5, hp⟩ := hp
      refine et_aald (pc := 33) d_Judge_overflows_33 s_5 hb5 (by decide) (r_5 _ (by omega)) ?_
      refine et_aload_n (pc := 34) d_Judge_overflows_34 rfl rfl ?_
      refine et_geti (pc := 35) ok (fl_Judge_34 t) rfl d_Judge_overflows_35 (s_28 _ (by omega) (by omega)) ?_
      refine et_aload_n (pc := 38) d_Judge_overflows_38 rfl rfl ?_
      refine et_geti (pc := 39) ok (fl_Judge_37 t) rfl d_Judge_overflows_39 (s_28 _ (by omega) (by omega)) ?_
      replace hp := q_bind hp
      obtain ⟨x6, hm7, hp⟩ := hp
      refine et_callVi (pc := 42) (f1 := x6.2.1) (g1 := x6.2.2) ok [ma_i (x2.2.1 x2.1 9), ma_i (x2.2.1 x2.1 10)] [] (cf_Judge_40 t) d_Judge_overflows_42 (s_24 _ (by omega) (by omega)) k_3 rfl (t_Region_holds t ok (24 + Int.toNat (x2.2.1 x2.1 6)) (x2.2.1 x2.1 9) (x2.2.1 x2.1 10) x2.2.1 x2.2.2 hm7 ⟨rfl, rfl⟩) rfl rfl (by decide) (by decide) (q_ble rfl) ?_
      refine et_if_ne (pc := 45) (tgt := 50) d_Judge_overflows_45 (by decide) (fun hj8 => ?_) (fun hj8 => ?_)
      · rw [if_neg hj8] at hp
        refine et_aload_n (pc := 50) d_Judge_overflows_50 rfl rfl ?_
        refine et_geti (pc := 51) ok (fl_Judge_46 t) rfl d_Judge_overflows_51 (s_28 _ (by omega) (by omega)) ?_
        refine ev_iconst (pc := 54) d_Judge_overflows_54 ?_
        refine et_icmp_eq (pc := 55) (tgt := 86) d_Judge_overflows_55 (by decide) (fun hj9 => ?_) (fun hj9 => ?_)
        · rw [if_pos hj9] at hp
          refine ev_sub (ls2 := [(0, q_a t (57)), (1, ma_i (v1))]) [1, 2] rfl ?_
          exact e_Judge_overflows_86 t ok  hQ (p_Judge_overflows_2   n) ih (v1) x6.2.1 x6.2.2 hp
        · rw [if_neg hj9] at hp
          refine et_aload_n (pc := 58) d_Judge_overflows_58 rfl rfl ?_
          refine et_getr (pc := 59) ok (fl_Judge_9 t) rfl d_Judge_overflows_59 s_57 r_57_0 ?_
          refine et_getr (pc := 62) ok (fl_Judge_25 t) rfl d_Judge_overflows_62 s_3 r_3_1 ?_
          refine et_aload_n (pc := 65) d_Judge_overflows_65 rfl rfl ?_
          refine et_geti (pc := 66) ok (fl_Judge_46 t) rfl d_Judge_overflows_66 (s_28 _ (by omega) (by omega)) ?_
          replace hp := q_if hp
          obtain ⟨hb10, hp⟩ := hp
          refine et_aald (pc := 69) d_Judge_overflows_69 s_5 hb10 (by decide) (r_5 _ (by omega)) ?_
          refine et_aload_n (pc := 70) d_Judge_overflows_70 rfl rfl ?_
          refine et_geti (pc := 71) ok (fl_Judge_49 t) rfl d_Judge_overflows_71 (s_28 _ (by omega) (by omega)) ?_
          refine et_aload_n (pc := 74) d_Judge_overflows_74 rfl rfl ?_
          refine et_geti (pc := 75) ok (fl_Judge_37 t) rfl d_Judge_overflows_75 (s_28 _ (by omega) (by omega)) ?_
          replace hp := q_bind hp
          obtain ⟨x11, hm12, hp⟩ := hp
          refine et_callVi (pc := 78) (f1 := x11.2.1) (g1 := x11.2.2) ok [ma_i (x6.2.1 x2.1 11), ma_i (x6.2.1 x2.1 10)] [] (cf_Judge_40 t) d_Judge_overflows_78 (s_24 _ (by omega) (by omega)) k_3 rfl (t_Region_holds t ok (24 + Int.toNat (x6.2.1 x2.1 8)) (x6.2.1 x2.1 11) (x6.2.1 x2.1 10) x6.2.1 x6.2.2 hm12 ⟨rfl, rfl⟩) rfl rfl (by decide) (by decide) (q_ble rfl) ?_
          refine et_if_ne (pc := 81) (tgt := 86) d_Judge_overflows_81 (by decide) (fun hj13 => ?_) (fun hj13 => ?_)
          · rw [if_neg hj13] at hp
            refine ev_sub (ls2 := [(0, q_a t (57)), (1, ma_i (v1))]) [1, 2] rfl ?_
            exact e_Judge_overflows_86 t ok  hQ (p_Judge_overflows_2   n) ih (v1) x11.2.1 x11.2.2 hp
          · rw [if_pos hj13] at hp
            refine ev_iconst (pc := 84) d_Judge_overflows_84 ?_
            cases Option.some.inj hp
            exact et_zret (pc := 85) d_Judge_overflows_85 rfl (by decide) hQ
      · rw [if_pos hj8] at hp
        refine ev_iconst (pc := 48) d_Judge_overflows_48 ?_
        cases Option.some.inj hp
        exact et_zret (pc := 49) d_Judge_overflows_49 rfl (by decide) hQ
theorem t_Judge_overflows (t : q_V) (ok : ma_ok (q_G t))  {Q : Option Value → ma_H → Prop} {y : Int × q_F × q_F}  (f g : q_F) (hp : p_Judge_overflows   f g = some y) (hQ : Q (some (ma_i y.1)) (q_h y.2.1 y.2.2)) : ma_Met (q_G t) false 1 22 0 0 m_Judge_overflows [q_a t (57)] (q_h f g) Q := by
  refine ma_met (by decide +kernel) (q_ble rfl) rfl ?_
  change ma_Ev (q_G t) 1 22 0 0 m_Judge_overflows 0 [(0, q_a t (57))] [] (q_h f g) (ma_zr (q_G t) false Q)
  unfold p_Judge_overflows at hp
  refine ev_iconst (pc := 0) d_Judge_overflows_0 ?_
  refine ev_istore_n (pc := 1) d_Judge_overflows_1 rfl (by decide) [(1, _), (0, _)] rfl ?_
  refine ev_sub (ls2 := [(0, q_a t (57)), (1, ma_i (0))]) [1, 0] rfl ?_
  exact e_Judge_overflows_2 t ok  hQ   1000 (0) f g hp
theorem d_Judge_meet_0 : decode (m_c m_Judge_meet) 0 = .ok (.iload_n 1, 1) := by decide +kernel
theorem d_Judge_meet_1 : decode (m_c m_Judge_meet) 1 = .ok (.ifCond .le 25, 3) := by decide +kernel
theorem d_Judge_meet_4 : decode (m_c m_Judge_meet) 4 = .ok (.iload_n 3, 1) := by decide +kernel
theorem d_Judge_meet_5 : decode (m_c m_Judge_meet) 5 = .ok (.ifCond .le 21, 3) := by decide +kernel
theorem d_Judge_meet_8 : decode (m_c m_Judge_meet) 8 = .ok (.iload_n 0, 1) := by decide +kernel
theorem d_Judge_meet_9 : decode (m_c m_Judge_meet) 9 = .ok (.iload_n 2, 1) := by decide +kernel
theorem d_Judge_meet_10 : decode (m_c m_Judge_meet) 10 = .ok (.iload_n 3, 1) := by decide +kernel
theorem d_Judge_meet_11 : decode (m_c m_Judge_meet) 11 = .ok (.iadd, 1) := by decide +kernel
theorem d_Judge_meet_12 : decode (m_c m_Judge_meet) 12 = .ok (.if_icmp .ge 14, 3) := by decide +kernel
theorem d_Judge_meet_15 : decode (m_c m_Judge_meet) 15 = .ok (.iload_n 2, 1) := by decide +kernel
theorem d_Judge_meet_16 : decode (m_c m_Judge_meet) 16 = .ok (.iload_n 0, 1) := by decide +kernel
theorem d_Judge_meet_17 : decode (m_c m_Judge_meet) 17 = .ok (.iload_n 1, 1) := by decide +kernel
theorem d_Judge_meet_18 : decode (m_c m_Judge_meet) 18 = .ok (.iadd, 1) := by decide +kernel
theorem d_Judge_meet_19 : decode (m_c m_Judge_meet) 19 = .ok (.if_icmp .ge 7, 3) := by decide +kernel
theorem d_Judge_meet_22 : decode (m_c m_Judge_meet) 22 = .ok (.iconst 1, 1) := by decide +kernel
theorem d_Judge_meet_23 : decode (m_c m_Judge_meet) 23 = .ok (.goto 4, 3) := by decide +kernel
theorem d_Judge_meet_26 : decode (m_c m_Judge_meet) 26 = .ok (.iconst 0, 1) := by decide +kernel
theorem d_Judge_meet_27 : decode (m_c m_Judge_meet) 27 = .ok (.ireturn, 1) := by decide +kernel
def p_Judge_meet_27   (s0 : Int) (f g : q_F) : Option (Int × q_F × q_F) :=
  if s0 = 0 ∨ s0 = 1 then
    some (s0, f, g)
  else none
def p_Judge_meet_26    (f g : q_F) : Option (Int × q_F × q_F) :=
  p_Judge_meet_27   (0) f g
def p_Judge_meet  (v0 : Int) (v1 : Int) (v2 : Int) (v3 : Int) (f g : q_F) : Option (Int × q_F × q_F) :=
  if q_sw v1 ≤ 0 then
    p_Judge_meet_26    f g
  else
    if q_sw v3 ≤ 0 then
      p_Judge_meet_26    f g
    else
      if q_sw (v2 + v3) ≤ q_sw v0 then
        p_Judge_meet_26    f g
      else
        if q_sw (v0 + v1) ≤ q_sw v2 then
          p_Judge_meet_26    f g
        else
          p_Judge_meet_27   (1) f g
theorem e_Judge_meet_27 (t : q_V) (ok : ma_ok (q_G t))  {Q : Option Value → ma_H → Prop} {y : Int × q_F × q_F} (hQ : Q (some (ma_i y.1)) (q_h y.2.1 y.2.2))   (s0 : Int) (f g : q_F) (hp : p_Judge_meet_27   s0 f g = some y) : ma_Ev (q_G t) 0 0 0 0 m_Judge_meet 27 [] [ma_i (s0)] (q_h f g) (ma_zr (q_G t) false Q) := by
  unfold p_Judge_meet_27 at hp
  replace hp := q_if hp
  obtain ⟨hb1, hp⟩ := hp
  cases Option.some.inj hp
  exact et_zret (pc := 27) d_Judge_meet_27 rfl hb1 hQ
theorem e_Judge_meet_26 (t : q_V) (ok : ma_ok (q_G t))  {Q : Option Value → ma_H → Prop} {y : Int × q_F × q_F} (hQ : Q (some (ma_i y.1)) (q_h y.2.1 y.2.2))    (f g : q_F) (hp : p_Judge_meet_26    f g = some y) : ma_Ev (q_G t) 0 0 0 0 m_Judge_meet 26 [] [] (q_h f g) (ma_zr (q_G t) false Q) := by
  unfold p_Judge_meet_26 at hp
  refine ev_iconst (pc := 26) d_Judge_meet_26 ?_
  refine ev_sub (ls2 := []) [] rfl ?_
  exact e_Judge_meet_27 t ok  hQ   (0) f g hp
theorem t_Judge_meet (t : q_V) (ok : ma_ok (q_G t))  {Q : Option Value → ma_H → Prop} {y : Int × q_F × q_F} (v0 : Int) (v1 : Int) (v2 : Int) (v3 : Int) (f g : q_F) (hp : p_Judge_meet  v0 v1 v2 v3 f g = some y) (hQ : Q (some (ma_i y.1)) (q_h y.2.1 y.2.2)) : ma_Met (q_G t) false 0 0 0 0 m_Judge_meet [ma_i (v0), ma_i (v1), ma_i (v2), ma_i (v3)] (q_h f g) Q := by
  refine ma_met (by decide +kernel) (q_ble rfl) rfl ?_
  change ma_Ev (q_G t) 0 0 0 0 m_Judge_meet 0 [(0, ma_i (v0)), (1, ma_i (v1)), (2, ma_i (v2)), (3, ma_i (v3))] [] (q_h f g) (ma_zr (q_G t) false Q)
  unfold p_Judge_meet at hp
  refine ev_iload_n (pc := 0) d_Judge_meet_0 rfl rfl ?_
  refine et_if_le (pc := 1) (tgt := 26) d_Judge_meet_1 (by decide) (fun hj1 => ?_) (fun hj1 => ?_)
  · rw [if_pos hj1] at hp
    refine ev_sub (ls2 := []) [] rfl ?_
    exact e_Judge_meet_26 t ok  hQ    f g hp
  · rw [if_neg hj1] at hp
    refine ev_iload_n (pc := 4) d_Judge_meet_4 rfl rfl ?_
    refine et_if_le (pc := 5) (tgt := 26) d_Judge_meet_5 (by decide) (fun hj2 => ?_) (fun hj2 => ?_)
    · rw [if_pos hj2] at hp
      refine ev_sub (ls2 := []) [] rfl ?_
      exact e_Judge_meet_26 t ok  hQ    f g hp
    · rw [if_neg hj2] at hp
      refine ev_iload_n (pc := 8) d_Judge_meet_8 rfl rfl ?_
      refine ev_iload_n (pc := 9) d_Judge_meet_9 rfl rfl ?_
      refine ev_iload_n (pc := 10) d_Judge_meet_10 rfl rfl ?_
      refine ev_iadd (pc := 11) d_Judge_meet_11 ?_
      refine et_icmp_ge (pc := 12) (tgt := 26) d_Judge_meet_12 (by decide) (fun hj3 => ?_) (fun hj3 => ?_)
      · rw [if_pos hj3] at hp
        refine ev_sub (ls2 := []) [] rfl ?_
        exact e_Judge_meet_26 t ok  hQ    f g hp
      · rw [if_neg hj3] at hp
        refine ev_iload_n (pc := 15) d_Judge_meet_15 rfl rfl ?_
        refine ev_iload_n (pc := 16) d_Judge_meet_16 rfl rfl ?_
        refine ev_iload_n (pc := 17) d_Judge_meet_17 rfl rfl ?_
        refine ev_iadd (pc := 18) d_Judge_meet_18 ?_
        refine et_icmp_ge (pc := 19) (tgt := 26) d_Judge_meet_19 (by decide) (fun hj4 => ?_) (fun hj4 => ?_)
        · rw [if_pos hj4] at hp
          refine ev_sub (ls2 := []) [] rfl ?_
          exact e_Judge_meet_26 t ok  hQ    f g hp
        · rw [if_neg hj4] at hp
          refine ev_iconst (pc := 22) d_Judge_meet_22 ?_
          refine ev_goto (pc := 23) (tgt := 27) d_Judge_meet_23 (by decide) ?_
          refine ev_sub (ls2 := []) [] rfl ?_
          exact e_Judge_meet_27 t ok  hQ   (1) f g hp
theorem d_Judge_overlap_0 : decode (m_c m_Judge_overlap) 0 = .ok (.aload_n 0, 1) := by decide +kernel
theorem d_Judge_overlap_1 : decode (m_c m_Judge_overlap) 1 = .ok (.getfield 34, 3) := by decide +kernel
theorem d_Judge_overlap_4 : decode (m_c m_Judge_overlap) 4 = .ok (.aload_n 0, 1) := by decide +kernel
theorem d_Judge_overlap_5 : decode (m_c m_Judge_overlap) 5 = .ok (.getfield 37, 3) := by decide +kernel
theorem d_Judge_overlap_8 : decode (m_c m_Judge_overlap) 8 = .ok (.aload_n 1, 1) := by decide +kernel
theorem d_Judge_overlap_9 : decode (m_c m_Judge_overlap) 9 = .ok (.getfield 34, 3) := by decide +kernel
theorem d_Judge_overlap_12 : decode (m_c m_Judge_overlap) 12 = .ok (.aload_n 1, 1) := by decide +kernel
theorem d_Judge_overlap_13 : decode (m_c m_Judge_overlap) 13 = .ok (.getfield 37, 3) := by decide +kernel
theorem d_Judge_overlap_16 : decode (m_c m_Judge_overlap) 16 = .ok (.invokestatic 56, 3) := by decide +kernel
theorem d_Judge_overlap_19 : decode (m_c m_Judge_overlap) 19 = .ok (.ifCond .eq 5, 3) := by decide +kernel
theorem d_Judge_overlap_22 : decode (m_c m_Judge_overlap) 22 = .ok (.iconst 1, 1) := by decide +kernel
theorem d_Judge_overlap_23 : decode (m_c m_Judge_overlap) 23 = .ok (.ireturn, 1) := by decide +kernel
theorem d_Judge_overlap_24 : decode (m_c m_Judge_overlap) 24 = .ok (.aload_n 0, 1) := by decide +kernel
theorem d_Judge_overlap_25 : decode (m_c m_Judge_overlap) 25 = .ok (.getfield 60, 3) := by decide +kernel
theorem d_Judge_overlap_28 : decode (m_c m_Judge_overlap) 28 = .ok (.ifCond .eq 36, 3) := by decide +kernel
theorem d_Judge_overlap_31 : decode (m_c m_Judge_overlap) 31 = .ok (.aload_n 1, 1) := by decide +kernel
theorem d_Judge_overlap_32 : decode (m_c m_Judge_overlap) 32 = .ok (.getfield 60, 3) := by decide +kernel
theorem d_Judge_overlap_35 : decode (m_c m_Judge_overlap) 35 = .ok (.ifCond .eq 29, 3) := by decide +kernel
theorem d_Judge_overlap_38 : decode (m_c m_Judge_overlap) 38 = .ok (.aload_n 0, 1) := by decide +kernel
theorem d_Judge_overlap_39 : decode (m_c m_Judge_overlap) 39 = .ok (.getfield 49, 3) := by decide +kernel
theorem d_Judge_overlap_42 : decode (m_c m_Judge_overlap) 42 = .ok (.aload_n 0, 1) := by decide +kernel
theorem d_Judge_overlap_43 : decode (m_c m_Judge_overlap) 43 = .ok (.getfield 37, 3) := by decide +kernel
theorem d_Judge_overlap_46 : decode (m_c m_Judge_overlap) 46 = .ok (.aload_n 1, 1) := by decide +kernel
theorem d_Judge_overlap_47 : decode (m_c m_Judge_overlap) 47 = .ok (.getfield 49, 3) := by decide +kernel
theorem d_Judge_overlap_50 : decode (m_c m_Judge_overlap) 50 = .ok (.aload_n 1, 1) := by decide +kernel
theorem d_Judge_overlap_51 : decode (m_c m_Judge_overlap) 51 = .ok (.getfield 37, 3) := by decide +kernel
theorem d_Judge_overlap_54 : decode (m_c m_Judge_overlap) 54 = .ok (.invokestatic 56, 3) := by decide +kernel
theorem d_Judge_overlap_57 : decode (m_c m_Judge_overlap) 57 = .ok (.ifCond .eq 7, 3) := by decide +kernel
theorem d_Judge_overlap_60 : decode (m_c m_Judge_overlap) 60 = .ok (.iconst 1, 1) := by decide +kernel
theorem d_Judge_overlap_61 : decode (m_c m_Judge_overlap) 61 = .ok (.goto 4, 3) := by decide +kernel
theorem d_Judge_overlap_64 : decode (m_c m_Judge_overlap) 64 = .ok (.iconst 0, 1) := by decide +kernel
theorem d_Judge_overlap_65 : decode (m_c m_Judge_overlap) 65 = .ok (.ireturn, 1) := by decide +kernel
def p_Judge_overlap_65   (s0 : Int) (f g : q_F) : Option (Int × q_F × q_F) :=
  if s0 = 0 ∨ s0 = 1 then
    some (s0, f, g)
  else none
def p_Judge_overlap_64    (f g : q_F) : Option (Int × q_F × q_F) :=
  p_Judge_overlap_65   (0) f g
def p_Judge_overlap  (a0 : Nat) (a1 : Nat) (f g : q_F) : Option (Int × q_F × q_F) :=
  if 28 ≤ a0 ∧ a0 < 36 then
    if 28 ≤ a1 ∧ a1 < 36 then
      (p_Judge_meet (f a0 9) (f a0 10) (f a1 9) (f a1 10) f g).bind fun x1 =>
      if q_sw x1.1 = 0 then
        if q_sw (x1.2.1 a0 7) = 0 then
          p_Judge_overlap_64    x1.2.1 x1.2.2
        else
          if q_sw (x1.2.1 a1 7) = 0 then
            p_Judge_overlap_64    x1.2.1 x1.2.2
          else
            (p_Judge_meet (x1.2.1 a0 11) (x1.2.1 a0 10) (x1.2.1 a1 11) (x1.2.1 a1 10) x1.2.1 x1.2.2).bind fun x6 =>
            if q_sw x6.1 = 0 then
              p_Judge_overlap_64    x6.2.1 x6.2.2
            else
              p_Judge_overlap_65   (1) x6.2.1 x6.2.2
      else
        some (1, x1.2.1, x1.2.2)
    else none
  else none
theorem e_Judge_overlap_65 (t : q_V) (ok : ma_ok (q_G t))  {Q : Option Value → ma_H → Prop} {y : Int × q_F × q_F} (hQ : Q (some (ma_i y.1)) (q_h y.2.1 y.2.2))   (s0 : Int) (f g : q_F) (hp : p_Judge_overlap_65   s0 f g = some y) : ma_Ev (q_G t) 1 23 0 0 m_Judge_overlap 65 [] [ma_i (s0)] (q_h f g) (ma_zr (q_G t) false Q) := by
  unfold p_Judge_overlap_65 at hp
  replace hp := q_if hp
  obtain ⟨hb1, hp⟩ := hp
  cases Option.some.inj hp
  exact et_zret (pc := 65) d_Judge_overlap_65 rfl hb1 hQ
theorem e_Judge_overlap_64 (t : q_V) (ok : ma_ok (q_G t))  {Q : Option Value → ma_H → Prop} {y : Int × q_F × q_F} (hQ : Q (some (ma_i y.1)) (q_h y.2.1 y.2.2))    (f g : q_F) (hp : p_Judge_overlap_64    f g = some y) : ma_Ev (q_G t) 1 23 0 0 m_Judge_overlap 64 [] [] (q_h f g) (ma_zr (q_G t) false Q) := by
  unfold p_Judge_overlap_64 at hp
  refine ev_iconst (pc := 64) d_Judge_overlap_64 ?_
  refine ev_sub (ls2 := []) [] rfl ?_
  exact e_Judge_overlap_65 t ok  hQ   (0) f g hp
theorem t_Judge_overlap (t : q_V) (ok : ma_ok (q_G t))  {Q : Option Value → ma_H → Prop} {y : Int × q_F × q_F} (a0 : Nat) (a1 : Nat) (f g : q_F) (hp : p_Judge_overlap  a0 a1 f g = some y) (hQ : Q (some (ma_i y.1)) (q_h y.2.1 y.2.2)) : ma_Met (q_G t) false 1 23 0 0 m_Judge_overlap [q_a t (a0), q_a t (a1)] (q_h f g) Q := by
  refine ma_met (by decide +kernel) (q_ble rfl) rfl ?_
  change ma_Ev (q_G t) 1 23 0 0 m_Judge_overlap 0 [(0, q_a t (a0)), (1, q_a t (a1))] [] (q_h f g) (ma_zr (q_G t) false Q)
  unfold p_Judge_overlap at hp
  replace hp := q_if hp
  obtain ⟨hb_a0, hp⟩ := hp
  replace hp := q_if hp
  obtain ⟨hb_a1, hp⟩ := hp
  refine et_aload_n (pc := 0) d_Judge_overlap_0 rfl rfl ?_
  refine et_geti (pc := 1) ok (fl_Judge_34 t) rfl d_Judge_overlap_1 (s_28 _ (by omega) (by omega)) ?_
  refine et_aload_n (pc := 4) d_Judge_overlap_4 rfl rfl ?_
  refine et_geti (pc := 5) ok (fl_Judge_37 t) rfl d_Judge_overlap_5 (s_28 _ (by omega) (by omega)) ?_
  refine et_aload_n (pc := 8) d_Judge_overlap_8 rfl rfl ?_
  refine et_geti (pc := 9) ok (fl_Judge_34 t) rfl d_Judge_overlap_9 (s_28 _ (by omega) (by omega)) ?_
  refine et_aload_n (pc := 12) d_Judge_overlap_12 rfl rfl ?_
  refine et_geti (pc := 13) ok (fl_Judge_37 t) rfl d_Judge_overlap_13 (s_28 _ (by omega) (by omega)) ?_
  replace hp := q_bind hp
  obtain ⟨x1, hm2, hp⟩ := hp
  refine et_callSi (pc := 16) (f1 := x1.2.1) (g1 := x1.2.2) ok [ma_i (f a0 9), ma_i (f a0 10), ma_i (f a1 9), ma_i (f a1 10)] [] (cf_Judge_56 t) d_Judge_overlap_16 (t_Judge_meet t ok (f a0 9) (f a0 10) (f a1 9) (f a1 10) f g hm2 ⟨rfl, rfl⟩) rfl rfl (by decide) (by decide) (q_ble rfl) ?_
  refine et_if_eq (pc := 19) (tgt := 24) d_Judge_overlap_19 (by decide) (fun hj3 => ?_) (fun hj3 => ?_)
  · rw [if_pos hj3] at hp
    refine et_aload_n (pc := 24) d_Judge_overlap_24 rfl rfl ?_
    refine et_geti (pc := 25) ok (fl_Judge_60 t) rfl d_Judge_overlap_25 (s_28 _ (by omega) (by omega)) ?_
    refine et_if_eq (pc := 28) (tgt := 64) d_Judge_overlap_28 (by decide) (fun hj4 => ?_) (fun hj4 => ?_)
    · rw [if_pos hj4] at hp
      refine ev_sub (ls2 := []) [] rfl ?_
      exact e_Judge_overlap_64 t ok  hQ    x1.2.1 x1.2.2 hp
    · rw [if_neg hj4] at hp
      refine et_aload_n (pc := 31) d_Judge_overlap_31 rfl rfl ?_
      refine et_geti (pc := 32) ok (fl_Judge_60 t) rfl d_Judge_overlap_32 (s_28 _ (by omega) (by omega)) ?_
      refine et_if_eq (pc := 35) (tgt := 64) d_Judge_overlap_35 (by decide) (fun hj5 => ?_) (fun hj5 => ?_)
      · rw [if_pos hj5] at hp
        refine ev_sub (ls2 := []) [] rfl ?_
        exact e_Judge_overlap_64 t ok  hQ    x1.2.1 x1.2.2 hp
      · rw [if_neg hj5] at hp
        refine et_aload_n (pc := 38) d_Judge_overlap_38 rfl rfl ?_
        refine et_geti (pc := 39) ok (fl_Judge_49 t) rfl d_Judge_overlap_39 (s_28 _ (by omega) (by omega)) ?_
        refine et_aload_n (pc := 42) d_Judge_overlap_42 rfl rfl ?_
        refine et_geti (pc := 43) ok (fl_Judge_37 t) rfl d_Judge_overlap_43 (s_28 _ (by omega) (by omega)) ?_
        refine et_aload_n (pc := 46) d_Judge_overlap_46 rfl rfl ?_
        refine et_geti (pc := 47) ok (fl_Judge_49 t) rfl d_Judge_overlap_47 (s_28 _ (by omega) (by omega)) ?_
        refine et_aload_n (pc := 50) d_Judge_overlap_50 rfl rfl ?_
        refine et_geti (pc := 51) ok (fl_Judge_37 t) rfl d_Judge_overlap_51 (s_28 _ (by omega) (by omega)) ?_
        replace hp := q_bind hp
        obtain ⟨x6, hm7, hp⟩ := hp
        refine et_callSi (pc := 54) (f1 := x6.2.1) (g1 := x6.2.2) ok [ma_i (x1.2.1 a0 11), ma_i (x1.2.1 a0 10), ma_i (x1.2.1 a1 11), ma_i (x1.2.1 a1 10)] [] (cf_Judge_56 t) d_Judge_overlap_54 (t_Judge_meet t ok (x1.2.1 a0 11) (x1.2.1 a0 10) (x1.2.1 a1 11) (x1.2.1 a1 10) x1.2.1 x1.2.2 hm7 ⟨rfl, rfl⟩) rfl rfl (by decide) (by decide) (q_ble rfl) ?_
        refine et_if_eq (pc := 57) (tgt := 64) d_Judge_overlap_57 (by decide) (fun hj8 => ?_) (fun hj8 => ?_)
        · rw [if_pos hj8] at hp
          refine ev_sub (ls2 := []) [] rfl ?_
          exact e_Judge_overlap_64 t ok  hQ    x6.2.1 x6.2.2 hp
        · rw [if_neg hj8] at hp
          refine ev_iconst (pc := 60) d_Judge_overlap_60 ?_
          refine ev_goto (pc := 61) (tgt := 65) d_Judge_overlap_61 (by decide) ?_
          refine ev_sub (ls2 := []) [] rfl ?_
          exact e_Judge_overlap_65 t ok  hQ   (1) x6.2.1 x6.2.2 hp
  · rw [if_neg hj3] at hp
    refine ev_iconst (pc := 22) d_Judge_overlap_22 ?_
    cases Option.some.inj hp
    exact et_zret (pc := 23) d_Judge_overlap_23 rfl (by decide) hQ
theorem d_Judge_overlaps_0 : decode (m_c m_Judge_overlaps) 0 = .ok (.iconst 0, 1) := by decide +kernel
theorem d_Judge_overlaps_1 : decode (m_c m_Judge_overlaps) 1 = .ok (.istore_n 1, 1) := by decide +kernel
theorem d_Judge_overlaps_2 : decode (m_c m_Judge_overlaps) 2 = .ok (.iload_n 1, 1) := by decide +kernel
theorem d_Judge_overlaps_3 : decode (m_c m_Judge_overlaps) 3 = .ok (.aload_n 0, 1) := by decide +kernel
theorem d_Judge_overlaps_4 : decode (m_c m_Judge_overlaps) 4 = .ok (.getfield 9, 3) := by decide +kernel
theorem d_Judge_overlaps_7 : decode (m_c m_Judge_overlaps) 7 = .ok (.getfield 15, 3) := by decide +kernel
theorem d_Judge_overlaps_10 : decode (m_c m_Judge_overlaps) 10 = .ok (.if_icmp .ge 54, 3) := by decide +kernel
theorem d_Judge_overlaps_13 : decode (m_c m_Judge_overlaps) 13 = .ok (.iload_n 1, 1) := by decide +kernel
theorem d_Judge_overlaps_14 : decode (m_c m_Judge_overlaps) 14 = .ok (.iconst 1, 1) := by decide +kernel
theorem d_Judge_overlaps_15 : decode (m_c m_Judge_overlaps) 15 = .ok (.iadd, 1) := by decide +kernel
theorem d_Judge_overlaps_16 : decode (m_c m_Judge_overlaps) 16 = .ok (.istore_n 2, 1) := by decide +kernel
theorem d_Judge_overlaps_17 : decode (m_c m_Judge_overlaps) 17 = .ok (.iload_n 2, 1) := by decide +kernel
theorem d_Judge_overlaps_18 : decode (m_c m_Judge_overlaps) 18 = .ok (.aload_n 0, 1) := by decide +kernel
theorem d_Judge_overlaps_19 : decode (m_c m_Judge_overlaps) 19 = .ok (.getfield 9, 3) := by decide +kernel
theorem d_Judge_overlaps_22 : decode (m_c m_Judge_overlaps) 22 = .ok (.getfield 15, 3) := by decide +kernel
theorem d_Judge_overlaps_25 : decode (m_c m_Judge_overlaps) 25 = .ok (.if_icmp .ge 33, 3) := by decide +kernel
theorem d_Judge_overlaps_28 : decode (m_c m_Judge_overlaps) 28 = .ok (.aload_n 0, 1) := by decide +kernel
theorem d_Judge_overlaps_29 : decode (m_c m_Judge_overlaps) 29 = .ok (.getfield 9, 3) := by decide +kernel
theorem d_Judge_overlaps_32 : decode (m_c m_Judge_overlaps) 32 = .ok (.iload_n 1, 1) := by decide +kernel
theorem d_Judge_overlaps_33 : decode (m_c m_Judge_overlaps) 33 = .ok (.invokevirtual 21, 3) := by decide +kernel
theorem d_Judge_overlaps_36 : decode (m_c m_Judge_overlaps) 36 = .ok (.aload_n 0, 1) := by decide +kernel
theorem d_Judge_overlaps_37 : decode (m_c m_Judge_overlaps) 37 = .ok (.getfield 9, 3) := by decide +kernel
theorem d_Judge_overlaps_40 : decode (m_c m_Judge_overlaps) 40 = .ok (.iload_n 2, 1) := by decide +kernel
theorem d_Judge_overlaps_41 : decode (m_c m_Judge_overlaps) 41 = .ok (.invokevirtual 21, 3) := by decide +kernel
theorem d_Judge_overlaps_44 : decode (m_c m_Judge_overlaps) 44 = .ok (.invokestatic 52, 3) := by decide +kernel
theorem d_Judge_overlaps_47 : decode (m_c m_Judge_overlaps) 47 = .ok (.ifCond .eq 5, 3) := by decide +kernel
theorem d_Judge_overlaps_50 : decode (m_c m_Judge_overlaps) 50 = .ok (.iconst 1, 1) := by decide +kernel
theorem d_Judge_overlaps_51 : decode (m_c m_Judge_overlaps) 51 = .ok (.ireturn, 1) := by decide +kernel
theorem d_Judge_overlaps_52 : decode (m_c m_Judge_overlaps) 52 = .ok (.iinc 2 1, 3) := by decide +kernel
theorem d_Judge_overlaps_55 : decode (m_c m_Judge_overlaps) 55 = .ok (.goto (-38), 3) := by decide +kernel
theorem d_Judge_overlaps_58 : decode (m_c m_Judge_overlaps) 58 = .ok (.iinc 1 1, 3) := by decide +kernel
theorem d_Judge_overlaps_61 : decode (m_c m_Judge_overlaps) 61 = .ok (.goto (-59), 3) := by decide +kernel
theorem d_Judge_overlaps_64 : decode (m_c m_Judge_overlaps) 64 = .ok (.iconst 0, 1) := by decide +kernel
theorem d_Judge_overlaps_65 : decode (m_c m_Judge_overlaps) 65 = .ok (.ireturn, 1) := by decide +kernel
def p_Judge_overlaps_17  (c2 : Int → q_F → q_F → Option (Int × q_F × q_F)) : Nat → Int → Int → q_F → q_F → Option (Int × q_F × q_F)
  | 0, _, _, _, _ => none
  | n + 1, v1, v2, f, g =>
    if q_sw (f 3 7) ≤ q_sw v2 then
      q_let (v1 + 1) fun z2 =>
      c2 (z2) f g
    else
      (p_Plan_sectionAt (v1) f g).bind fun x3 =>
      if 28 ≤ x3.1 ∧ x3.1 < 36 then
        (p_Plan_sectionAt (v2) x3.2.1 x3.2.2).bind fun x6 =>
        if 28 ≤ x6.1 ∧ x6.1 < 36 then
          (p_Judge_overlap (x3.1) (x6.1) x6.2.1 x6.2.2).bind fun x9 =>
          if q_sw x9.1 = 0 then
            q_let (v2 + 1) fun z12 =>
            (p_Judge_overlaps_17  c2 n) (v1) (z12) x9.2.1 x9.2.2
          else
            some (1, x9.2.1, x9.2.2)
        else none
      else none
def p_Judge_overlaps_2   : Nat → Int → q_F → q_F → Option (Int × q_F × q_F)
  | 0, _, _, _ => none
  | n + 1, v1, f, g =>
    if q_sw (f 3 7) ≤ q_sw v1 then
      some (0, f, g)
    else
      q_let (v1 + 1) fun z2 =>
      p_Judge_overlaps_17  (p_Judge_overlaps_2   n) 1000 (v1) (z2) f g
def p_Judge_overlaps   (f g : q_F) : Option (Int × q_F × q_F) :=
  p_Judge_overlaps_2   1000 (0) f g
theorem e_Judge_overlaps_17 (t : q_V) (ok : ma_ok (q_G t))  {Q : Option Value → ma_H → Prop} {y : Int × q_F × q_F} (hQ : Q (some (ma_i y.1)) (q_h y.2.1 y.2.2)) (c2 : Int → q_F → q_F → Option (Int × q_F × q_F)) (hc2 : ∀ (v1 : Int) (f g : q_F), c2 v1 f g = some y → ma_Ev (q_G t) 2 44 0 0 m_Judge_overlaps 2 [(0, q_a t (57)), (1, ma_i (v1))] [] (q_h f g) (ma_zr (q_G t) false Q)) : ∀ (n : Nat) (v1 : Int) (v2 : Int) (f g : q_F), p_Judge_overlaps_17  c2 n v1 v2 f g = some y → ma_Ev (q_G t) 2 44 0 0 m_Judge_overlaps 17 [(0, q_a t (57)), (1, ma_i (v1)), (2, ma_i (v2))] [] (q_h f g) (ma_zr (q_G t) false Q) := by
  intro n
  induction n with
  | zero =>
    intro v1 v2 f g hp
    rw [p_Judge_overlaps_17] at hp
    cases hp
  | succ n ih =>
    intro v1 v2 f g hp
    rw [p_Judge_overlaps_17] at hp
    refine ev_iload_n (pc := 17) d_Judge_overlaps_17 rfl rfl ?_
    refine et_aload_n (pc := 18) d_Judge_overlaps_18 rfl rfl ?_
    refine et_getr (pc := 19) ok (fl_Judge_9 t) rfl d_Judge_overlaps_19 s_57 r_57_0 ?_
    refine et_geti (pc := 22) ok (fl_Judge_15 t) rfl d_Judge_overlaps_22 s_3 ?_
    refine et_icmp_ge (pc := 25) (tgt := 58) d_Judge_overlaps_25 (by decide) (fun hj1 => ?_) (fun hj1 => ?_)
    · rw [if_pos hj1] at hp
      refine ev_iinc (pc := 58) d_Judge_overlaps_58 (by decide) rfl [(1, _), (0, _), (2, _)] rfl ?_
      replace hp := q_let_of hp
      obtain ⟨z2, hz, hp⟩ := hp
      rw [← hz]
      clear hz
      refine ev_goto (pc := 61) (tgt := 2) d_Judge_overlaps_61 (by decide) ?_
      refine ev_sub (ls2 := [(0, q_a t (57)), (1, ma_i (z2))]) [1, 0] rfl ?_
      exact hc2 (z2) f g hp
    · rw [if_neg hj1] at hp
      refine et_aload_n (pc := 28) d_Judge_overlaps_28 rfl rfl ?_
      refine et_getr (pc := 29) ok (fl_Judge_9 t) rfl d_Judge_overlaps_29 s_57 r_57_0 ?_
      refine ev_iload_n (pc := 32) d_Judge_overlaps_32 rfl rfl ?_
      replace hp := q_bind hp
      obtain ⟨x3, hm4, hp⟩ := hp
      refine et_callVr (pc := 33) (f1 := x3.2.1) (g1 := x3.2.2) ok [ma_i (v1)] [] (cf_Judge_21 t) d_Judge_overlaps_33 s_3 k_7 rfl (t_Plan_sectionAt t ok (v1) f g hm4 ⟨rfl, rfl⟩) rfl rfl (by decide) (by decide) (q_ble rfl) ?_
      replace hp := q_if hp
      obtain ⟨hb5, hp⟩ := hp
      refine et_aload_n (pc := 36) d_Judge_overlaps_36 rfl rfl ?_
      refine et_getr (pc := 37) ok (fl_Judge_9 t) rfl d_Judge_overlaps_37 s_57 r_57_0 ?_
      refine ev_iload_n (pc := 40) d_Judge_overlaps_40 rfl rfl ?_
      replace hp := q_bind hp
      obtain ⟨x6, hm7, hp⟩ := hp
      refine et_callVr (pc := 41) (f1 := x6.2.1) (g1 := x6.2.2) ok [ma_i (v2)] [q_a t (x3.1)] (cf_Judge_21 t) d_Judge_overlaps_41 s_3 k_7 rfl (t_Plan_sectionAt t ok (v2) x3.2.1 x3.2.2 hm7 ⟨rfl, rfl⟩) rfl rfl (by decide) (by decide) (q_ble rfl) ?_
      replace hp := q_if hp
      obtain ⟨hb8, hp⟩ := hp
      replace hp := q_bind hp
      obtain ⟨x9, hm10, hp⟩ := hp
      refine et_callSi (pc := 44) (f1 := x9.2.1) (g1 := x9.2.2) ok [q_a t (x3.1), q_a t (x6.1)] [] (cf_Judge_52 t) d_Judge_overlaps_44 (t_Judge_overlap t ok (x3.1) (x6.1) x6.2.1 x6.2.2 hm10 ⟨rfl, rfl⟩) rfl rfl (by decide) (by decide) (q_ble rfl) ?_
      refine et_if_eq (pc := 47) (tgt := 52) d_Judge_overlaps_47 (by decide) (fun hj11 => ?_) (fun hj11 => ?_)
      · rw [if_pos hj11] at hp
        refine ev_iinc (pc := 52) d_Judge_overlaps_52 (by decide) rfl [(2, _), (0, _), (1, _)] rfl ?_
        replace hp := q_let_of hp
        obtain ⟨z12, hz, hp⟩ := hp
        rw [← hz]
        clear hz
        refine ev_goto (pc := 55) (tgt := 17) d_Judge_overlaps_55 (by decide) ?_
        refine ev_sub (ls2 := [(0, q_a t (57)), (1, ma_i (v1)), (2, ma_i (z12))]) [1, 2, 0] rfl ?_
        exact ih (v1) (z12) x9.2.1 x9.2.2 hp
      · rw [if_neg hj11] at hp
        refine ev_iconst (pc := 50) d_Judge_overlaps_50 ?_
        cases Option.some.inj hp
        exact et_zret (pc := 51) d_Judge_overlaps_51 rfl (by decide) hQ
theorem e_Judge_overlaps_2 (t : q_V) (ok : ma_ok (q_G t))  {Q : Option Value → ma_H → Prop} {y : Int × q_F × q_F} (hQ : Q (some (ma_i y.1)) (q_h y.2.1 y.2.2))   : ∀ (n : Nat) (v1 : Int) (f g : q_F), p_Judge_overlaps_2   n v1 f g = some y → ma_Ev (q_G t) 2 44 0 0 m_Judge_overlaps 2 [(0, q_a t (57)), (1, ma_i (v1))] [] (q_h f g) (ma_zr (q_G t) false Q) := by
  intro n
  induction n with
  | zero =>
    intro v1 f g hp
    rw [p_Judge_overlaps_2] at hp
    cases hp
  | succ n ih =>
    intro v1 f g hp
    rw [p_Judge_overlaps_2] at hp
    refine ev_iload_n (pc := 2) d_Judge_overlaps_2 rfl rfl ?_
    refine et_aload_n (pc := 3) d_Judge_overlaps_3 rfl rfl ?_
    refine et_getr (pc := 4) ok (fl_Judge_9 t) rfl d_Judge_overlaps_4 s_57 r_57_0 ?_
    refine et_geti (pc := 7) ok (fl_Judge_15 t) rfl d_Judge_overlaps_7 s_3 ?_
    refine et_icmp_ge (pc := 10) (tgt := 64) d_Judge_overlaps_10 (by decide) (fun hj1 => ?_) (fun hj1 => ?_)
    · rw [if_pos hj1] at hp
      refine ev_iconst (pc := 64) d_Judge_overlaps_64 ?_
      cases Option.some.inj hp
      exact et_zret (pc := 65) d_Judge_overlaps_65 rfl (by decide) hQ
    · rw [if_neg hj1] at hp
      refine ev_iload_n (pc := 13) d_Judge_overlaps_13 rfl rfl ?_
      refine ev_iconst (pc := 14) d_Judge_overlaps_14 ?_
      refine ev_iadd (pc := 15) d_Judge_overlaps_15 ?_
      refine ev_istore_n (pc := 16) d_Judge_overlaps_16 rfl (by decide) [(2, _), (0, _), (1, _)] rfl ?_
      replace hp := q_let_of hp
      obtain ⟨z2, hz, hp⟩ := hp
      rw [← hz]
      clear hz
      refine ev_sub (ls2 := [(0, q_a t (57)), (1, ma_i (v1)), (2, ma_i (z2))]) [1, 2, 0] rfl ?_
      exact e_Judge_overlaps_17 t ok  hQ (p_Judge_overlaps_2   n) ih 1000 (v1) (z2) f g hp
theorem t_Judge_overlaps (t : q_V) (ok : ma_ok (q_G t))  {Q : Option Value → ma_H → Prop} {y : Int × q_F × q_F}  (f g : q_F) (hp : p_Judge_overlaps   f g = some y) (hQ : Q (some (ma_i y.1)) (q_h y.2.1 y.2.2)) : ma_Met (q_G t) false 2 44 0 0 m_Judge_overlaps [q_a t (57)] (q_h f g) Q := by
  refine ma_met (by decide +kernel) (q_ble rfl) rfl ?_
  change ma_Ev (q_G t) 2 44 0 0 m_Judge_overlaps 0 [(0, q_a t (57))] [] (q_h f g) (ma_zr (q_G t) false Q)
  unfold p_Judge_overlaps at hp
  refine ev_iconst (pc := 0) d_Judge_overlaps_0 ?_
  refine ev_istore_n (pc := 1) d_Judge_overlaps_1 rfl (by decide) [(1, _), (0, _)] rfl ?_
  refine ev_sub (ls2 := [(0, q_a t (57)), (1, ma_i (0))]) [1, 0] rfl ?_
  exact e_Judge_overlaps_2 t ok  hQ   1000 (0) f g hp
theorem d_Judge_copiesClash_0 : decode (m_c m_Judge_copiesClash) 0 = .ok (.iconst 0, 1) := by decide +kernel
theorem d_Judge_copiesClash_1 : decode (m_c m_Judge_copiesClash) 1 = .ok (.istore_n 1, 1) := by decide +kernel
theorem d_Judge_copiesClash_2 : decode (m_c m_Judge_copiesClash) 2 = .ok (.iload_n 1, 1) := by decide +kernel
theorem d_Judge_copiesClash_3 : decode (m_c m_Judge_copiesClash) 3 = .ok (.aload_n 0, 1) := by decide +kernel
theorem d_Judge_copiesClash_4 : decode (m_c m_Judge_copiesClash) 4 = .ok (.getfield 9, 3) := by decide +kernel
theorem d_Judge_copiesClash_7 : decode (m_c m_Judge_copiesClash) 7 = .ok (.getfield 64, 3) := by decide +kernel
theorem d_Judge_copiesClash_10 : decode (m_c m_Judge_copiesClash) 10 = .ok (.if_icmp .ge 73, 3) := by decide +kernel
theorem d_Judge_copiesClash_13 : decode (m_c m_Judge_copiesClash) 13 = .ok (.aload_n 0, 1) := by decide +kernel
theorem d_Judge_copiesClash_14 : decode (m_c m_Judge_copiesClash) 14 = .ok (.getfield 9, 3) := by decide +kernel
theorem d_Judge_copiesClash_17 : decode (m_c m_Judge_copiesClash) 17 = .ok (.iload_n 1, 1) := by decide +kernel
theorem d_Judge_copiesClash_18 : decode (m_c m_Judge_copiesClash) 18 = .ok (.invokevirtual 67, 3) := by decide +kernel
theorem d_Judge_copiesClash_21 : decode (m_c m_Judge_copiesClash) 21 = .ok (.astore_n 2, 1) := by decide +kernel
theorem d_Judge_copiesClash_22 : decode (m_c m_Judge_copiesClash) 22 = .ok (.iload_n 1, 1) := by decide +kernel
theorem d_Judge_copiesClash_23 : decode (m_c m_Judge_copiesClash) 23 = .ok (.istore_n 3, 1) := by decide +kernel
theorem d_Judge_copiesClash_24 : decode (m_c m_Judge_copiesClash) 24 = .ok (.iload_n 3, 1) := by decide +kernel
theorem d_Judge_copiesClash_25 : decode (m_c m_Judge_copiesClash) 25 = .ok (.aload_n 0, 1) := by decide +kernel
theorem d_Judge_copiesClash_26 : decode (m_c m_Judge_copiesClash) 26 = .ok (.getfield 9, 3) := by decide +kernel
theorem d_Judge_copiesClash_29 : decode (m_c m_Judge_copiesClash) 29 = .ok (.getfield 64, 3) := by decide +kernel
theorem d_Judge_copiesClash_32 : decode (m_c m_Judge_copiesClash) 32 = .ok (.if_icmp .ge 45, 3) := by decide +kernel
theorem d_Judge_copiesClash_35 : decode (m_c m_Judge_copiesClash) 35 = .ok (.aload_n 0, 1) := by decide +kernel
theorem d_Judge_copiesClash_36 : decode (m_c m_Judge_copiesClash) 36 = .ok (.getfield 9, 3) := by decide +kernel
theorem d_Judge_copiesClash_39 : decode (m_c m_Judge_copiesClash) 39 = .ok (.iload_n 3, 1) := by decide +kernel
theorem d_Judge_copiesClash_40 : decode (m_c m_Judge_copiesClash) 40 = .ok (.invokevirtual 67, 3) := by decide +kernel
theorem d_Judge_copiesClash_43 : decode (m_c m_Judge_copiesClash) 43 = .ok (.astore 4, 2) := by decide +kernel
theorem d_Judge_copiesClash_45 : decode (m_c m_Judge_copiesClash) 45 = .ok (.aload_n 2, 1) := by decide +kernel
theorem d_Judge_copiesClash_46 : decode (m_c m_Judge_copiesClash) 46 = .ok (.getfield 34, 3) := by decide +kernel
theorem d_Judge_copiesClash_49 : decode (m_c m_Judge_copiesClash) 49 = .ok (.aload_n 2, 1) := by decide +kernel
theorem d_Judge_copiesClash_50 : decode (m_c m_Judge_copiesClash) 50 = .ok (.getfield 37, 3) := by decide +kernel
theorem d_Judge_copiesClash_53 : decode (m_c m_Judge_copiesClash) 53 = .ok (.aload 4, 2) := by decide +kernel
theorem d_Judge_copiesClash_55 : decode (m_c m_Judge_copiesClash) 55 = .ok (.getfield 49, 3) := by decide +kernel
theorem d_Judge_copiesClash_58 : decode (m_c m_Judge_copiesClash) 58 = .ok (.aload 4, 2) := by decide +kernel
theorem d_Judge_copiesClash_60 : decode (m_c m_Judge_copiesClash) 60 = .ok (.getfield 37, 3) := by decide +kernel
theorem d_Judge_copiesClash_63 : decode (m_c m_Judge_copiesClash) 63 = .ok (.invokestatic 56, 3) := by decide +kernel
theorem d_Judge_copiesClash_66 : decode (m_c m_Judge_copiesClash) 66 = .ok (.ifCond .eq 5, 3) := by decide +kernel
theorem d_Judge_copiesClash_69 : decode (m_c m_Judge_copiesClash) 69 = .ok (.iconst 1, 1) := by decide +kernel
theorem d_Judge_copiesClash_70 : decode (m_c m_Judge_copiesClash) 70 = .ok (.ireturn, 1) := by decide +kernel
theorem d_Judge_copiesClash_71 : decode (m_c m_Judge_copiesClash) 71 = .ok (.iinc 3 1, 3) := by decide +kernel
theorem d_Judge_copiesClash_74 : decode (m_c m_Judge_copiesClash) 74 = .ok (.goto (-50), 3) := by decide +kernel
theorem d_Judge_copiesClash_77 : decode (m_c m_Judge_copiesClash) 77 = .ok (.iinc 1 1, 3) := by decide +kernel
theorem d_Judge_copiesClash_80 : decode (m_c m_Judge_copiesClash) 80 = .ok (.goto (-78), 3) := by decide +kernel
theorem d_Judge_copiesClash_83 : decode (m_c m_Judge_copiesClash) 83 = .ok (.iconst 0, 1) := by decide +kernel
theorem d_Judge_copiesClash_84 : decode (m_c m_Judge_copiesClash) 84 = .ok (.ireturn, 1) := by decide +kernel
def p_Judge_copiesClash_24  (c2 : Int → q_F → q_F → Option (Int × q_F × q_F)) : Nat → Int → Nat → Int → q_F → q_F → Option (Int × q_F × q_F)
  | 0, _, _, _, _, _ => none
  | n + 1, v1, a2, v3, f, g =>
    if 28 ≤ a2 ∧ a2 < 36 then
      if q_sw (f 3 9) ≤ q_sw v3 then
        q_let (v1 + 1) fun z2 =>
        c2 (z2) f g
      else
        (p_Plan_copiedAt (v3) f g).bind fun x3 =>
        if 28 ≤ x3.1 ∧ x3.1 < 36 then
          (p_Judge_meet (x3.2.1 a2 9) (x3.2.1 a2 10) (x3.2.1 x3.1 11) (x3.2.1 x3.1 10) x3.2.1 x3.2.2).bind fun x6 =>
          if q_sw x6.1 = 0 then
            q_let (v3 + 1) fun z9 =>
            (p_Judge_copiesClash_24  c2 n) (v1) (a2) (z9) x6.2.1 x6.2.2
          else
            some (1, x6.2.1, x6.2.2)
        else none
    else none
def p_Judge_copiesClash_2   : Nat → Int → q_F → q_F → Option (Int × q_F × q_F)
  | 0, _, _, _ => none
  | n + 1, v1, f, g =>
    if q_sw (f 3 9) ≤ q_sw v1 then
      some (0, f, g)
    else
      (p_Plan_copiedAt (v1) f g).bind fun x2 =>
      if 28 ≤ x2.1 ∧ x2.1 < 36 then
        p_Judge_copiesClash_24  (p_Judge_copiesClash_2   n) 1000 (v1) (x2.1) (v1) x2.2.1 x2.2.2
      else none
def p_Judge_copiesClash   (f g : q_F) : Option (Int × q_F × q_F) :=
  p_Judge_copiesClash_2   1000 (0) f g
theorem e_Judge_copiesClash_24 (t : q_V) (ok : ma_ok (q_G t))  {Q : Option Value → ma_H → Prop} {y : Int × q_F × q_F} (hQ : Q (some (ma_i y.1)) (q_h y.2.1 y.2.2)) (c2 : Int → q_F → q_F → Option (Int × q_F × q_F)) (hc2 : ∀ (v1 : Int) (f g : q_F), c2 v1 f g = some y → ma_Ev (q_G t) 1 23 0 0 m_Judge_copiesClash 2 [(0, q_a t (57)), (1, ma_i (v1))] [] (q_h f g) (ma_zr (q_G t) false Q)) : ∀ (n : Nat) (v1 : Int) (a2 : Nat) (v3 : Int) (f g : q_F), p_Judge_copiesClash_24  c2 n v1 a2 v3 f g = some y → ma_Ev (q_G t) 1 23 0 0 m_Judge_copiesClash 24 [(0, q_a t (57)), (1, ma_i (v1)), (2, q_a t (a2)), (3, ma_i (v3))] [] (q_h f g) (ma_zr (q_G t) false Q) := by
  intro n
  induction n with
  | zero =>
    intro v1 a2 v3 f g hp
    rw [p_Judge_copiesClash_24] at hp
    cases hp
  | succ n ih =>
    intro v1 a2 v3 f g hp
    rw [p_Judge_copiesClash_24] at hp
    replace hp := q_if hp
    obtain ⟨hb_a2, hp⟩ := hp
    refine ev_iload_n (pc := 24) d_Judge_copiesClash_24 rfl rfl ?_
    refine et_aload_n (pc := 25) d_Judge_copiesClash_25 rfl rfl ?_
    refine et_getr (pc := 26) ok (fl_Judge_9 t) rfl d_Judge_copiesClash_26 s_57 r_57_0 ?_
    refine et_geti (pc := 29) ok (fl_Judge_64 t) rfl d_Judge_copiesClash_29 s_3 ?_
    refine et_icmp_ge (pc := 32) (tgt := 77) d_Judge_copiesClash_32 (by decide) (fun hj1 => ?_) (fun hj1 => ?_)
    · rw [if_pos hj1] at hp
      refine ev_iinc (pc := 77) d_Judge_copiesClash_77 (by decide) rfl [(1, _), (0, _), (2, _), (3, _)] rfl ?_
      replace hp := q_let_of hp
      obtain ⟨z2, hz, hp⟩ := hp
      rw [← hz]
      clear hz
      refine ev_goto (pc := 80) (tgt := 2) d_Judge_copiesClash_80 (by decide) ?_
      refine ev_sub (ls2 := [(0, q_a t (57)), (1, ma_i (z2))]) [1, 0] rfl ?_
      exact hc2 (z2) f g hp
    · rw [if_neg hj1] at hp
      refine et_aload_n (pc := 35) d_Judge_copiesClash_35 rfl rfl ?_
      refine et_getr (pc := 36) ok (fl_Judge_9 t) rfl d_Judge_copiesClash_36 s_57 r_57_0 ?_
      refine ev_iload_n (pc := 39) d_Judge_copiesClash_39 rfl rfl ?_
      replace hp := q_bind hp
      obtain ⟨x3, hm4, hp⟩ := hp
      refine et_callVr (pc := 40) (f1 := x3.2.1) (g1 := x3.2.2) ok [ma_i (v3)] [] (cf_Judge_67 t) d_Judge_copiesClash_40 s_3 k_7 rfl (t_Plan_copiedAt t ok (v3) f g hm4 ⟨rfl, rfl⟩) rfl rfl (by decide) (by decide) (q_ble rfl) ?_
      replace hp := q_if hp
      obtain ⟨hb5, hp⟩ := hp
      refine et_astore (pc := 43) d_Judge_copiesClash_43 (by decide) [(4, _), (0, _), (1, _), (2, _), (3, _)] rfl ?_
      refine et_aload_n (pc := 45) d_Judge_copiesClash_45 rfl rfl ?_
      refine et_geti (pc := 46) ok (fl_Judge_34 t) rfl d_Judge_copiesClash_46 (s_28 _ (by omega) (by omega)) ?_
      refine et_aload_n (pc := 49) d_Judge_copiesClash_49 rfl rfl ?_
      refine et_geti (pc := 50) ok (fl_Judge_37 t) rfl d_Judge_copiesClash_50 (s_28 _ (by omega) (by omega)) ?_
      refine et_aload (pc := 53) d_Judge_copiesClash_53 rfl ?_
      refine et_geti (pc := 55) ok (fl_Judge_49 t) rfl d_Judge_copiesClash_55 (s_28 _ (by omega) (by omega)) ?_
      refine et_aload (pc := 58) d_Judge_copiesClash_58 rfl ?_
      refine et_geti (pc := 60) ok (fl_Judge_37 t) rfl d_Judge_copiesClash_60 (s_28 _ (by omega) (by omega)) ?_
      replace hp := q_bind hp
      obtain ⟨x6, hm7, hp⟩ := hp
      refine et_callSi (pc := 63) (f1 := x6.2.1) (g1 := x6.2.2) ok [ma_i (x3.2.1 a2 9), ma_i (x3.2.1 a2 10), ma_i (x3.2.1 x3.1 11), ma_i (x3.2.1 x3.1 10)] [] (cf_Judge_56 t) d_Judge_copiesClash_63 (t_Judge_meet t ok (x3.2.1 a2 9) (x3.2.1 a2 10) (x3.2.1 x3.1 11) (x3.2.1 x3.1 10) x3.2.1 x3.2.2 hm7 ⟨rfl, rfl⟩) rfl rfl (by decide) (by decide) (q_ble rfl) ?_
      refine et_if_eq (pc := 66) (tgt := 71) d_Judge_copiesClash_66 (by decide) (fun hj8 => ?_) (fun hj8 => ?_)
      · rw [if_pos hj8] at hp
        refine ev_iinc (pc := 71) d_Judge_copiesClash_71 (by decide) rfl [(3, _), (4, _), (0, _), (1, _), (2, _)] rfl ?_
        replace hp := q_let_of hp
        obtain ⟨z9, hz, hp⟩ := hp
        rw [← hz]
        clear hz
        refine ev_goto (pc := 74) (tgt := 24) d_Judge_copiesClash_74 (by decide) ?_
        refine ev_sub (ls2 := [(0, q_a t (57)), (1, ma_i (v1)), (2, q_a t (a2)), (3, ma_i (z9))]) [2, 3, 4, 0] rfl ?_
        exact ih (v1) (a2) (z9) x6.2.1 x6.2.2 hp
      · rw [if_neg hj8] at hp
        refine ev_iconst (pc := 69) d_Judge_copiesClash_69 ?_
        cases Option.some.inj hp
        exact et_zret (pc := 70) d_Judge_copiesClash_70 rfl (by decide) hQ
theorem e_Judge_copiesClash_2 (t : q_V) (ok : ma_ok (q_G t))  {Q : Option Value → ma_H → Prop} {y : Int × q_F × q_F} (hQ : Q (some (ma_i y.1)) (q_h y.2.1 y.2.2))   : ∀ (n : Nat) (v1 : Int) (f g : q_F), p_Judge_copiesClash_2   n v1 f g = some y → ma_Ev (q_G t) 1 23 0 0 m_Judge_copiesClash 2 [(0, q_a t (57)), (1, ma_i (v1))] [] (q_h f g) (ma_zr (q_G t) false Q) := by
  intro n
  induction n with
  | zero =>
    intro v1 f g hp
    rw [p_Judge_copiesClash_2] at hp
    cases hp
  | succ n ih =>
    intro v1 f g hp
    rw [p_Judge_copiesClash_2] at hp
    refine ev_iload_n (pc := 2) d_Judge_copiesClash_2 rfl rfl ?_
    refine et_aload_n (pc := 3) d_Judge_copiesClash_3 rfl rfl ?_
    refine et_getr (pc := 4) ok (fl_Judge_9 t) rfl d_Judge_copiesClash_4 s_57 r_57_0 ?_
    refine et_geti (pc := 7) ok (fl_Judge_64 t) rfl d_Judge_copiesClash_7 s_3 ?_
    refine et_icmp_ge (pc := 10) (tgt := 83) d_Judge_copiesClash_10 (by decide) (fun hj1 => ?_) (fun hj1 => ?_)
    · rw [if_pos hj1] at hp
      refine ev_iconst (pc := 83) d_Judge_copiesClash_83 ?_
      cases Option.some.inj hp
      exact et_zret (pc := 84) d_Judge_copiesClash_84 rfl (by decide) hQ
    · rw [if_neg hj1] at hp
      refine et_aload_n (pc := 13) d_Judge_copiesClash_13 rfl rfl ?_
      refine et_getr (pc := 14) ok (fl_Judge_9 t) rfl d_Judge_copiesClash_14 s_57 r_57_0 ?_
      refine ev_iload_n (pc := 17) d_Judge_copiesClash_17 rfl rfl ?_
      replace hp := q_bind hp
      obtain ⟨x2, hm3, hp⟩ := hp
      refine et_callVr (pc := 18) (f1 := x2.2.1) (g1 := x2.2.2) ok [ma_i (v1)] [] (cf_Judge_67 t) d_Judge_copiesClash_18 s_3 k_7 rfl (t_Plan_copiedAt t ok (v1) f g hm3 ⟨rfl, rfl⟩) rfl rfl (by decide) (by decide) (q_ble rfl) ?_
      replace hp := q_if hp
      obtain ⟨hb4, hp⟩ := hp
      refine et_astore_n (pc := 21) d_Judge_copiesClash_21 rfl (by decide) [(2, _), (0, _), (1, _)] rfl ?_
      refine ev_iload_n (pc := 22) d_Judge_copiesClash_22 rfl rfl ?_
      refine ev_istore_n (pc := 23) d_Judge_copiesClash_23 rfl (by decide) [(3, _), (2, _), (0, _), (1, _)] rfl ?_
      refine ev_sub (ls2 := [(0, q_a t (57)), (1, ma_i (v1)), (2, q_a t (x2.1)), (3, ma_i (v1))]) [2, 3, 1, 0] rfl ?_
      exact e_Judge_copiesClash_24 t ok  hQ (p_Judge_copiesClash_2   n) ih 1000 (v1) (x2.1) (v1) x2.2.1 x2.2.2 hp
theorem t_Judge_copiesClash (t : q_V) (ok : ma_ok (q_G t))  {Q : Option Value → ma_H → Prop} {y : Int × q_F × q_F}  (f g : q_F) (hp : p_Judge_copiesClash   f g = some y) (hQ : Q (some (ma_i y.1)) (q_h y.2.1 y.2.2)) : ma_Met (q_G t) false 1 23 0 0 m_Judge_copiesClash [q_a t (57)] (q_h f g) Q := by
  refine ma_met (by decide +kernel) (q_ble rfl) rfl ?_
  change ma_Ev (q_G t) 1 23 0 0 m_Judge_copiesClash 0 [(0, q_a t (57))] [] (q_h f g) (ma_zr (q_G t) false Q)
  unfold p_Judge_copiesClash at hp
  refine ev_iconst (pc := 0) d_Judge_copiesClash_0 ?_
  refine ev_istore_n (pc := 1) d_Judge_copiesClash_1 rfl (by decide) [(1, _), (0, _)] rfl ?_
  refine ev_sub (ls2 := [(0, q_a t (57)), (1, ma_i (0))]) [1, 0] rfl ?_
  exact e_Judge_copiesClash_2 t ok  hQ   1000 (0) f g hp
theorem d_Reckoner_pop_0 : decode (m_c m_Reckoner_pop) 0 = .ok (.aload_n 0, 1) := by decide +kernel
theorem d_Reckoner_pop_1 : decode (m_c m_Reckoner_pop) 1 = .ok (.getfield 15, 3) := by decide +kernel
theorem d_Reckoner_pop_4 : decode (m_c m_Reckoner_pop) 4 = .ok (.ifCond .ne 6, 3) := by decide +kernel
theorem d_Reckoner_pop_7 : decode (m_c m_Reckoner_pop) 7 = .ok (.ldc 62, 2) := by decide +kernel
theorem d_Reckoner_pop_9 : decode (m_c m_Reckoner_pop) 9 = .ok (.ireturn, 1) := by decide +kernel
theorem d_Reckoner_pop_10 : decode (m_c m_Reckoner_pop) 10 = .ok (.aload_n 0, 1) := by decide +kernel
theorem d_Reckoner_pop_11 : decode (m_c m_Reckoner_pop) 11 = .ok (.dup, 1) := by decide +kernel
theorem d_Reckoner_pop_12 : decode (m_c m_Reckoner_pop) 12 = .ok (.getfield 15, 3) := by decide +kernel
theorem d_Reckoner_pop_15 : decode (m_c m_Reckoner_pop) 15 = .ok (.iconst 1, 1) := by decide +kernel
theorem d_Reckoner_pop_16 : decode (m_c m_Reckoner_pop) 16 = .ok (.isub, 1) := by decide +kernel
theorem d_Reckoner_pop_17 : decode (m_c m_Reckoner_pop) 17 = .ok (.putfield 15, 3) := by decide +kernel
theorem d_Reckoner_pop_20 : decode (m_c m_Reckoner_pop) 20 = .ok (.aload_n 0, 1) := by decide +kernel
theorem d_Reckoner_pop_21 : decode (m_c m_Reckoner_pop) 21 = .ok (.getfield 9, 3) := by decide +kernel
theorem d_Reckoner_pop_24 : decode (m_c m_Reckoner_pop) 24 = .ok (.aload_n 0, 1) := by decide +kernel
theorem d_Reckoner_pop_25 : decode (m_c m_Reckoner_pop) 25 = .ok (.getfield 15, 3) := by decide +kernel
theorem d_Reckoner_pop_28 : decode (m_c m_Reckoner_pop) 28 = .ok (.iaload, 1) := by decide +kernel
theorem d_Reckoner_pop_29 : decode (m_c m_Reckoner_pop) 29 = .ok (.ireturn, 1) := by decide +kernel
def p_Reckoner_pop   (f g : q_F) : Option (Int × q_F × q_F) :=
  if q_sw (f 55 2) = 0 then
    some (-1000000000, f, g)
  else
    q_let (ma_up f 55 2 ((f 55 2) - 1)) fun f2 =>
    if 0 ≤ (f2 55 2) ∧ (f2 55 2) < 160 then
      some (f2 56 (Int.toNat (f2 55 2)), f2, g)
    else none
theorem t_Reckoner_pop (t : q_V) (ok : ma_ok (q_G t))  {Q : Option Value → ma_H → Prop} {y : Int × q_F × q_F}  (f g : q_F) (hp : p_Reckoner_pop   f g = some y) (hQ : Q (some (ma_i y.1)) (q_h y.2.1 y.2.2)) : ma_Met (q_G t) false 0 0 0 0 m_Reckoner_pop [q_a t (55)] (q_h f g) Q := by
  refine ma_met (by decide +kernel) (q_ble rfl) rfl ?_
  change ma_Ev (q_G t) 0 0 0 0 m_Reckoner_pop 0 [(0, q_a t (55))] [] (q_h f g) (ma_zr (q_G t) false Q)
  unfold p_Reckoner_pop at hp
  refine et_aload_n (pc := 0) d_Reckoner_pop_0 rfl rfl ?_
  refine et_geti (pc := 1) ok (fl_Reckoner_15 t) rfl d_Reckoner_pop_1 s_55 ?_
  refine et_if_ne (pc := 4) (tgt := 10) d_Reckoner_pop_4 (by decide) (fun hj1 => ?_) (fun hj1 => ?_)
  · rw [if_neg hj1] at hp
    refine et_aload_n (pc := 10) d_Reckoner_pop_10 rfl rfl ?_
    refine ev_dup (pc := 11) d_Reckoner_pop_11 rfl ?_
    refine et_geti (pc := 12) ok (fl_Reckoner_15 t) rfl d_Reckoner_pop_12 s_55 ?_
    refine ev_iconst (pc := 15) d_Reckoner_pop_15 ?_
    refine ev_isub (pc := 16) d_Reckoner_pop_16 ?_
    refine et_puti (pc := 17) ok (fl_Reckoner_15 t) d_Reckoner_pop_17 s_55 ?_
    replace hp := q_let_of hp
    obtain ⟨f2, hz, hp⟩ := hp
    rw [← hz]
    clear hz
    refine et_aload_n (pc := 20) d_Reckoner_pop_20 rfl rfl ?_
    refine et_getr (pc := 21) ok (fl_Reckoner_9 t) rfl d_Reckoner_pop_21 s_55 r_55_1 ?_
    refine et_aload_n (pc := 24) d_Reckoner_pop_24 rfl rfl ?_
    refine et_geti (pc := 25) ok (fl_Reckoner_15 t) rfl d_Reckoner_pop_25 s_55 ?_
    replace hp := q_if hp
    obtain ⟨hb3, hp⟩ := hp
    refine et_iald (pc := 28) d_Reckoner_pop_28 s_56 hb3 (by decide) ?_
    cases Option.some.inj hp
    exact et_iret (pc := 29) d_Reckoner_pop_29 rfl hQ
  · rw [if_pos hj1] at hp
    refine ev_ldc (pc := 7) d_Reckoner_pop_7 kc_Reckoner_62 ?_
    cases Option.some.inj hp
    exact et_iret (pc := 9) d_Reckoner_pop_9 rfl hQ
theorem d_Reckoner_allowed_0 : decode (m_c m_Reckoner_allowed) 0 = .ok (.iload_n 0, 1) := by decide +kernel
theorem d_Reckoner_allowed_1 : decode (m_c m_Reckoner_allowed) 1 = .ok (.ldc 193, 2) := by decide +kernel
theorem d_Reckoner_allowed_3 : decode (m_c m_Reckoner_allowed) 3 = .ok (.if_icmp .lt 13, 3) := by decide +kernel
theorem d_Reckoner_allowed_6 : decode (m_c m_Reckoner_allowed) 6 = .ok (.iload_n 0, 1) := by decide +kernel
theorem d_Reckoner_allowed_7 : decode (m_c m_Reckoner_allowed) 7 = .ok (.ldc 194, 2) := by decide +kernel
theorem d_Reckoner_allowed_9 : decode (m_c m_Reckoner_allowed) 9 = .ok (.if_icmp .gt 7, 3) := by decide +kernel
theorem d_Reckoner_allowed_12 : decode (m_c m_Reckoner_allowed) 12 = .ok (.iload_n 0, 1) := by decide +kernel
theorem d_Reckoner_allowed_13 : decode (m_c m_Reckoner_allowed) 13 = .ok (.goto 5, 3) := by decide +kernel
theorem d_Reckoner_allowed_16 : decode (m_c m_Reckoner_allowed) 16 = .ok (.ldc 62, 2) := by decide +kernel
theorem d_Reckoner_allowed_18 : decode (m_c m_Reckoner_allowed) 18 = .ok (.ireturn, 1) := by decide +kernel
def p_Reckoner_allowed_18   (s0 : Int) (f g : q_F) : Option (Int × q_F × q_F) :=
  some (s0, f, g)
def p_Reckoner_allowed_16    (f g : q_F) : Option (Int × q_F × q_F) :=
  p_Reckoner_allowed_18   (-1000000000) f g
def p_Reckoner_allowed  (v0 : Int) (f g : q_F) : Option (Int × q_F × q_F) :=
  if q_sw v0 < q_sw (-100000) then
    p_Reckoner_allowed_16    f g
  else
    if q_sw 100000 < q_sw v0 then
      p_Reckoner_allowed_16    f g
    else
      p_Reckoner_allowed_18   (v0) f g
theorem e_Reckoner_allowed_18 (t : q_V) (ok : ma_ok (q_G t))  {Q : Option Value → ma_H → Prop} {y : Int × q_F × q_F} (hQ : Q (some (ma_i y.1)) (q_h y.2.1 y.2.2))   (s0 : Int) (f g : q_F) (hp : p_Reckoner_allowed_18   s0 f g = some y) : ma_Ev (q_G t) 0 0 0 0 m_Reckoner_allowed 18 [] [ma_i (s0)] (q_h f g) (ma_zr (q_G t) false Q) := by
  unfold p_Reckoner_allowed_18 at hp
  cases Option.some.inj hp
  exact et_iret (pc := 18) d_Reckoner_allowed_18 rfl hQ
theorem e_Reckoner_allowed_16 (t : q_V) (ok : ma_ok (q_G t))  {Q : Option Value → ma_H → Prop} {y : Int × q_F × q_F} (hQ : Q (some (ma_i y.1)) (q_h y.2.1 y.2.2))    (f g : q_F) (hp : p_Reckoner_allowed_16    f g = some y) : ma_Ev (q_G t) 0 0 0 0 m_Reckoner_allowed 16 [] [] (q_h f g) (ma_zr (q_G t) false Q) := by
  unfold p_Reckoner_allowed_16 at hp
  refine ev_ldc (pc := 16) d_Reckoner_allowed_16 kc_Reckoner_62 ?_
  refine ev_sub (ls2 := []) [] rfl ?_
  exact e_Reckoner_allowed_18 t ok  hQ   (-1000000000) f g hp
theorem t_Reckoner_allowed (t : q_V) (ok : ma_ok (q_G t))  {Q : Option Value → ma_H → Prop} {y : Int × q_F × q_F} (v0 : Int) (f g : q_F) (hp : p_Reckoner_allowed  v0 f g = some y) (hQ : Q (some (ma_i y.1)) (q_h y.2.1 y.2.2)) : ma_Met (q_G t) false 0 0 0 0 m_Reckoner_allowed [ma_i (v0)] (q_h f g) Q := by
  refine ma_met (by decide +kernel) (q_ble rfl) rfl ?_
  change ma_Ev (q_G t) 0 0 0 0 m_Reckoner_allowed 0 [(0, ma_i (v0))] [] (q_h f g) (ma_zr (q_G t) false Q)
  unfold p_Reckoner_allowed at hp
  refine ev_iload_n (pc := 0) d_Reckoner_allowed_0 rfl rfl ?_
  refine ev_ldc (pc := 1) d_Reckoner_allowed_1 kc_Reckoner_193 ?_
  refine et_icmp_lt (pc := 3) (tgt := 16) d_Reckoner_allowed_3 (by decide) (fun hj1 => ?_) (fun hj1 => ?_)
  · rw [if_pos hj1] at hp
    refine ev_sub (ls2 := []) [] rfl ?_
    exact e_Reckoner_allowed_16 t ok  hQ    f g hp
  · rw [if_neg hj1] at hp
    refine ev_iload_n (pc := 6) d_Reckoner_allowed_6 rfl rfl ?_
    refine ev_ldc (pc := 7) d_Reckoner_allowed_7 kc_Reckoner_194 ?_
    refine et_icmp_gt (pc := 9) (tgt := 16) d_Reckoner_allowed_9 (by decide) (fun hj2 => ?_) (fun hj2 => ?_)
    · rw [if_pos hj2] at hp
      refine ev_sub (ls2 := []) [] rfl ?_
      exact e_Reckoner_allowed_16 t ok  hQ    f g hp
    · rw [if_neg hj2] at hp
      refine ev_iload_n (pc := 12) d_Reckoner_allowed_12 rfl rfl ?_
      refine ev_goto (pc := 13) (tgt := 18) d_Reckoner_allowed_13 (by decide) ?_
      refine ev_sub (ls2 := []) [] rfl ?_
      exact e_Reckoner_allowed_18 t ok  hQ   (v0) f g hp
theorem d_Reckoner_raisedTop_0 : decode (m_c m_Reckoner_raisedTop) 0 = .ok (.aload_n 0, 1) := by decide +kernel
theorem d_Reckoner_raisedTop_1 : decode (m_c m_Reckoner_raisedTop) 1 = .ok (.invokevirtual 175, 3) := by decide +kernel
theorem d_Reckoner_raisedTop_4 : decode (m_c m_Reckoner_raisedTop) 4 = .ok (.istore_n 2, 1) := by decide +kernel
theorem d_Reckoner_raisedTop_5 : decode (m_c m_Reckoner_raisedTop) 5 = .ok (.iload_n 2, 1) := by decide +kernel
theorem d_Reckoner_raisedTop_6 : decode (m_c m_Reckoner_raisedTop) 6 = .ok (.ifCond .ge 8, 3) := by decide +kernel
theorem d_Reckoner_raisedTop_9 : decode (m_c m_Reckoner_raisedTop) 9 = .ok (.ldc 62, 2) := by decide +kernel
theorem d_Reckoner_raisedTop_11 : decode (m_c m_Reckoner_raisedTop) 11 = .ok (.goto 11, 3) := by decide +kernel
theorem d_Reckoner_raisedTop_14 : decode (m_c m_Reckoner_raisedTop) 14 = .ok (.iload_n 2, 1) := by decide +kernel
theorem d_Reckoner_raisedTop_15 : decode (m_c m_Reckoner_raisedTop) 15 = .ok (.iload_n 1, 1) := by decide +kernel
theorem d_Reckoner_raisedTop_16 : decode (m_c m_Reckoner_raisedTop) 16 = .ok (.invokestatic 121, 3) := by decide +kernel
theorem d_Reckoner_raisedTop_19 : decode (m_c m_Reckoner_raisedTop) 19 = .ok (.invokestatic 190, 3) := by decide +kernel
theorem d_Reckoner_raisedTop_22 : decode (m_c m_Reckoner_raisedTop) 22 = .ok (.ireturn, 1) := by decide +kernel
def p_Reckoner_raisedTop_22   (s0 : Int) (f g : q_F) : Option (Int × q_F × q_F) :=
  some (s0, f, g)
def p_Reckoner_raisedTop  (v1 : Int) (f g : q_F) : Option (Int × q_F × q_F) :=
  (p_Reckoner_pop  f g).bind fun x1 =>
  if 0 ≤ q_sw x1.1 then
    (p_Desk_raise (x1.1) (v1) x1.2.1 x1.2.2).bind fun x4 =>
    (p_Reckoner_allowed (x4.1) x4.2.1 x4.2.2).bind fun x6 =>
    p_Reckoner_raisedTop_22   (x6.1) x6.2.1 x6.2.2
  else
    p_Reckoner_raisedTop_22   (-1000000000) x1.2.1 x1.2.2
theorem e_Reckoner_raisedTop_22 (t : q_V) (ok : ma_ok (q_G t))  {Q : Option Value → ma_H → Prop} {y : Int × q_F × q_F} (hQ : Q (some (ma_i y.1)) (q_h y.2.1 y.2.2))   (s0 : Int) (f g : q_F) (hp : p_Reckoner_raisedTop_22   s0 f g = some y) : ma_Ev (q_G t) 1 21 0 0 m_Reckoner_raisedTop 22 [] [ma_i (s0)] (q_h f g) (ma_zr (q_G t) false Q) := by
  unfold p_Reckoner_raisedTop_22 at hp
  cases Option.some.inj hp
  exact et_iret (pc := 22) d_Reckoner_raisedTop_22 rfl hQ
theorem t_Reckoner_raisedTop (t : q_V) (ok : ma_ok (q_G t))  {Q : Option Value → ma_H → Prop} {y : Int × q_F × q_F} (v1 : Int) (f g : q_F) (hp : p_Reckoner_raisedTop  v1 f g = some y) (hQ : Q (some (ma_i y.1)) (q_h y.2.1 y.2.2)) : ma_Met (q_G t) false 1 21 0 0 m_Reckoner_raisedTop [q_a t (55), ma_i (v1)] (q_h f g) Q := by
  refine ma_met (by decide +kernel) (q_ble rfl) rfl ?_
  change ma_Ev (q_G t) 1 21 0 0 m_Reckoner_raisedTop 0 [(0, q_a t (55)), (1, ma_i (v1))] [] (q_h f g) (ma_zr (q_G t) false Q)
  unfold p_Reckoner_raisedTop at hp
  refine et_aload_n (pc := 0) d_Reckoner_raisedTop_0 rfl rfl ?_
  replace hp := q_bind hp
  obtain ⟨x1, hm2, hp⟩ := hp
  refine et_callVi (pc := 1) (f1 := x1.2.1) (g1 := x1.2.2) ok [] [] (cf_Reckoner_175 t) d_Reckoner_raisedTop_1 s_55 k_9 rfl (t_Reckoner_pop t ok  f g hm2 ⟨rfl, rfl⟩) rfl rfl (by decide) (by decide) (q_ble rfl) ?_
  refine ev_istore_n (pc := 4) d_Reckoner_raisedTop_4 rfl (by decide) [(2, _), (0, _), (1, _)] rfl ?_
  refine ev_iload_n (pc := 5) d_Reckoner_raisedTop_5 rfl rfl ?_
  refine et_if_ge (pc := 6) (tgt := 14) d_Reckoner_raisedTop_6 (by decide) (fun hj3 => ?_) (fun hj3 => ?_)
  · rw [if_pos hj3] at hp
    refine ev_iload_n (pc := 14) d_Reckoner_raisedTop_14 rfl rfl ?_
    refine ev_iload_n (pc := 15) d_Reckoner_raisedTop_15 rfl rfl ?_
    replace hp := q_bind hp
    obtain ⟨x4, hm5, hp⟩ := hp
    refine et_callSi (pc := 16) (f1 := x4.2.1) (g1 := x4.2.2) ok [ma_i (x1.1), ma_i (v1)] [] (cf_Reckoner_121 t) d_Reckoner_raisedTop_16 (t_Desk_raise t ok (x1.1) (v1) x1.2.1 x1.2.2 hm5 ⟨rfl, rfl⟩) rfl rfl (by decide) (by decide) (q_ble rfl) ?_
    replace hp := q_bind hp
    obtain ⟨x6, hm7, hp⟩ := hp
    refine et_callSi (pc := 19) (f1 := x6.2.1) (g1 := x6.2.2) ok [ma_i (x4.1)] [] (cf_Reckoner_190 t) d_Reckoner_raisedTop_19 (t_Reckoner_allowed t ok (x4.1) x4.2.1 x4.2.2 hm7 ⟨rfl, rfl⟩) rfl rfl (by decide) (by decide) (q_ble rfl) ?_
    refine ev_sub (ls2 := []) [] rfl ?_
    exact e_Reckoner_raisedTop_22 t ok  hQ   (x6.1) x6.2.1 x6.2.2 hp
  · rw [if_neg hj3] at hp
    refine ev_ldc (pc := 9) d_Reckoner_raisedTop_9 kc_Reckoner_62 ?_
    refine ev_goto (pc := 11) (tgt := 22) d_Reckoner_raisedTop_11 (by decide) ?_
    refine ev_sub (ls2 := []) [] rfl ?_
    exact e_Reckoner_raisedTop_22 t ok  hQ   (-1000000000) x1.2.1 x1.2.2 hp
theorem d_Reckoner_joinedTop_0 : decode (m_c m_Reckoner_joinedTop) 0 = .ok (.aload_n 0, 1) := by decide +kernel
theorem d_Reckoner_joinedTop_1 : decode (m_c m_Reckoner_joinedTop) 1 = .ok (.invokevirtual 175, 3) := by decide +kernel
theorem d_Reckoner_joinedTop_4 : decode (m_c m_Reckoner_joinedTop) 4 = .ok (.istore_n 2, 1) := by decide +kernel
theorem d_Reckoner_joinedTop_5 : decode (m_c m_Reckoner_joinedTop) 5 = .ok (.aload_n 0, 1) := by decide +kernel
theorem d_Reckoner_joinedTop_6 : decode (m_c m_Reckoner_joinedTop) 6 = .ok (.invokevirtual 175, 3) := by decide +kernel
theorem d_Reckoner_joinedTop_9 : decode (m_c m_Reckoner_joinedTop) 9 = .ok (.istore_n 3, 1) := by decide +kernel
theorem d_Reckoner_joinedTop_10 : decode (m_c m_Reckoner_joinedTop) 10 = .ok (.iload_n 3, 1) := by decide +kernel
theorem d_Reckoner_joinedTop_11 : decode (m_c m_Reckoner_joinedTop) 11 = .ok (.iload_n 1, 1) := by decide +kernel
theorem d_Reckoner_joinedTop_12 : decode (m_c m_Reckoner_joinedTop) 12 = .ok (.iload_n 2, 1) := by decide +kernel
theorem d_Reckoner_joinedTop_13 : decode (m_c m_Reckoner_joinedTop) 13 = .ok (.imul, 1) := by decide +kernel
theorem d_Reckoner_joinedTop_14 : decode (m_c m_Reckoner_joinedTop) 14 = .ok (.iadd, 1) := by decide +kernel
theorem d_Reckoner_joinedTop_15 : decode (m_c m_Reckoner_joinedTop) 15 = .ok (.invokestatic 190, 3) := by decide +kernel
theorem d_Reckoner_joinedTop_18 : decode (m_c m_Reckoner_joinedTop) 18 = .ok (.ireturn, 1) := by decide +kernel
def p_Reckoner_joinedTop  (v1 : Int) (f g : q_F) : Option (Int × q_F × q_F) :=
  (p_Reckoner_pop  f g).bind fun x1 =>
  (p_Reckoner_pop  x1.2.1 x1.2.2).bind fun x3 =>
  (p_Reckoner_allowed (x3.1 + (v1 * x1.1)) x3.2.1 x3.2.2).bind fun x5 =>
  some (x5.1, x5.2.1, x5.2.2)
theorem t_Reckoner_joinedTop (t : q_V) (ok : ma_ok (q_G t))  {Q : Option Value → ma_H → Prop} {y : Int × q_F × q_F} (v1 : Int) (f g : q_F) (hp : p_Reckoner_joinedTop  v1 f g = some y) (hQ : Q (some (ma_i y.1)) (q_h y.2.1 y.2.2)) : ma_Met (q_G t) false 1 20 0 0 m_Reckoner_joinedTop [q_a t (55), ma_i (v1)] (q_h f g) Q := by
  refine ma_met (by decide +kernel) (q_ble rfl) rfl ?_
  change ma_Ev (q_G t) 1 20 0 0 m_Reckoner_joinedTop 0 [(0, q_a t (55)), (1, ma_i (v1))] [] (q_h f g) (ma_zr (q_G t) false Q)
  unfold p_Reckoner_joinedTop at hp
  refine et_aload_n (pc := 0) d_Reckoner_joinedTop_0 rfl rfl ?_
  replace hp := q_bind hp
  obtain ⟨x1, hm2, hp⟩ := hp
  refine et_callVi (pc := 1) (f1 := x1.2.1) (g1 := x1.2.2) ok [] [] (cf_Reckoner_175 t) d_Reckoner_joinedTop_1 s_55 k_9 rfl (t_Reckoner_pop t ok  f g hm2 ⟨rfl, rfl⟩) rfl rfl (by decide) (by decide) (q_ble rfl) ?_
  refine ev_istore_n (pc := 4) d_Reckoner_joinedTop_4 rfl (by decide) [(2, _), (0, _), (1, _)] rfl ?_
  refine et_aload_n (pc := 5) d_Reckoner_joinedTop_5 rfl rfl ?_
  replace hp := q_bind hp
  obtain ⟨x3, hm4, hp⟩ := hp
  refine et_callVi (pc := 6) (f1 := x3.2.1) (g1 := x3.2.2) ok [] [] (cf_Reckoner_175 t) d_Reckoner_joinedTop_6 s_55 k_9 rfl (t_Reckoner_pop t ok  x1.2.1 x1.2.2 hm4 ⟨rfl, rfl⟩) rfl rfl (by decide) (by decide) (q_ble rfl) ?_
  refine ev_istore_n (pc := 9) d_Reckoner_joinedTop_9 rfl (by decide) [(3, _), (2, _), (0, _), (1, _)] rfl ?_
  refine ev_iload_n (pc := 10) d_Reckoner_joinedTop_10 rfl rfl ?_
  refine ev_iload_n (pc := 11) d_Reckoner_joinedTop_11 rfl rfl ?_
  refine ev_iload_n (pc := 12) d_Reckoner_joinedTop_12 rfl rfl ?_
  refine ev_imul (pc := 13) d_Reckoner_joinedTop_13 ?_
  refine ev_iadd (pc := 14) d_Reckoner_joinedTop_14 ?_
  replace hp := q_bind hp
  obtain ⟨x5, hm6, hp⟩ := hp
  refine et_callSi (pc := 15) (f1 := x5.2.1) (g1 := x5.2.2) ok [ma_i (x3.1 + (v1 * x1.1))] [] (cf_Reckoner_190 t) d_Reckoner_joinedTop_15 (t_Reckoner_allowed t ok (x3.1 + (v1 * x1.1)) x3.2.1 x3.2.2 hm6 ⟨rfl, rfl⟩) rfl rfl (by decide) (by decide) (q_ble rfl) ?_
  cases Option.some.inj hp
  exact et_iret (pc := 18) d_Reckoner_joinedTop_18 rfl hQ
theorem d_Reckoner_valueOfStep_0 : decode (m_c m_Reckoner_valueOfStep) 0 = .ok (.iload_n 1, 1) := by decide +kernel
theorem d_Reckoner_valueOfStep_1 : decode (m_c m_Reckoner_valueOfStep) 1 = .ok (.tableswitch 113 0 7 #[47, 49, 62, 75, 88, 107, 113, 101], 47) := by decide +kernel
theorem d_Reckoner_valueOfStep_48 : decode (m_c m_Reckoner_valueOfStep) 48 = .ok (.iload_n 2, 1) := by decide +kernel
theorem d_Reckoner_valueOfStep_49 : decode (m_c m_Reckoner_valueOfStep) 49 = .ok (.ireturn, 1) := by decide +kernel
theorem d_Reckoner_valueOfStep_50 : decode (m_c m_Reckoner_valueOfStep) 50 = .ok (.aload_n 0, 1) := by decide +kernel
theorem d_Reckoner_valueOfStep_51 : decode (m_c m_Reckoner_valueOfStep) 51 = .ok (.getfield 19, 3) := by decide +kernel
theorem d_Reckoner_valueOfStep_54 : decode (m_c m_Reckoner_valueOfStep) 54 = .ok (.getfield 32, 3) := by decide +kernel
theorem d_Reckoner_valueOfStep_57 : decode (m_c m_Reckoner_valueOfStep) 57 = .ok (.iload_n 2, 1) := by decide +kernel
theorem d_Reckoner_valueOfStep_58 : decode (m_c m_Reckoner_valueOfStep) 58 = .ok (.aaload, 1) := by decide +kernel
theorem d_Reckoner_valueOfStep_59 : decode (m_c m_Reckoner_valueOfStep) 59 = .ok (.getfield 59, 3) := by decide +kernel
theorem d_Reckoner_valueOfStep_62 : decode (m_c m_Reckoner_valueOfStep) 62 = .ok (.ireturn, 1) := by decide +kernel
theorem d_Reckoner_valueOfStep_63 : decode (m_c m_Reckoner_valueOfStep) 63 = .ok (.aload_n 0, 1) := by decide +kernel
theorem d_Reckoner_valueOfStep_64 : decode (m_c m_Reckoner_valueOfStep) 64 = .ok (.getfield 19, 3) := by decide +kernel
theorem d_Reckoner_valueOfStep_67 : decode (m_c m_Reckoner_valueOfStep) 67 = .ok (.getfield 179, 3) := by decide +kernel
theorem d_Reckoner_valueOfStep_70 : decode (m_c m_Reckoner_valueOfStep) 70 = .ok (.iload_n 2, 1) := by decide +kernel
theorem d_Reckoner_valueOfStep_71 : decode (m_c m_Reckoner_valueOfStep) 71 = .ok (.aaload, 1) := by decide +kernel
theorem d_Reckoner_valueOfStep_72 : decode (m_c m_Reckoner_valueOfStep) 72 = .ok (.getfield 84, 3) := by decide +kernel
theorem d_Reckoner_valueOfStep_75 : decode (m_c m_Reckoner_valueOfStep) 75 = .ok (.ireturn, 1) := by decide +kernel
theorem d_Reckoner_valueOfStep_76 : decode (m_c m_Reckoner_valueOfStep) 76 = .ok (.aload_n 0, 1) := by decide +kernel
theorem d_Reckoner_valueOfStep_77 : decode (m_c m_Reckoner_valueOfStep) 77 = .ok (.getfield 19, 3) := by decide +kernel
theorem d_Reckoner_valueOfStep_80 : decode (m_c m_Reckoner_valueOfStep) 80 = .ok (.getfield 179, 3) := by decide +kernel
theorem d_Reckoner_valueOfStep_83 : decode (m_c m_Reckoner_valueOfStep) 83 = .ok (.iload_n 2, 1) := by decide +kernel
theorem d_Reckoner_valueOfStep_84 : decode (m_c m_Reckoner_valueOfStep) 84 = .ok (.aaload, 1) := by decide +kernel
theorem d_Reckoner_valueOfStep_85 : decode (m_c m_Reckoner_valueOfStep) 85 = .ok (.getfield 87, 3) := by decide +kernel
theorem d_Reckoner_valueOfStep_88 : decode (m_c m_Reckoner_valueOfStep) 88 = .ok (.ireturn, 1) := by decide +kernel
theorem d_Reckoner_valueOfStep_89 : decode (m_c m_Reckoner_valueOfStep) 89 = .ok (.aload_n 0, 1) := by decide +kernel
theorem d_Reckoner_valueOfStep_90 : decode (m_c m_Reckoner_valueOfStep) 90 = .ok (.getfield 19, 3) := by decide +kernel
theorem d_Reckoner_valueOfStep_93 : decode (m_c m_Reckoner_valueOfStep) 93 = .ok (.getfield 179, 3) := by decide +kernel
theorem d_Reckoner_valueOfStep_96 : decode (m_c m_Reckoner_valueOfStep) 96 = .ok (.iload_n 2, 1) := by decide +kernel
theorem d_Reckoner_valueOfStep_97 : decode (m_c m_Reckoner_valueOfStep) 97 = .ok (.aaload, 1) := by decide +kernel
theorem d_Reckoner_valueOfStep_98 : decode (m_c m_Reckoner_valueOfStep) 98 = .ok (.getfield 94, 3) := by decide +kernel
theorem d_Reckoner_valueOfStep_101 : decode (m_c m_Reckoner_valueOfStep) 101 = .ok (.ireturn, 1) := by decide +kernel
theorem d_Reckoner_valueOfStep_102 : decode (m_c m_Reckoner_valueOfStep) 102 = .ok (.aload_n 0, 1) := by decide +kernel
theorem d_Reckoner_valueOfStep_103 : decode (m_c m_Reckoner_valueOfStep) 103 = .ok (.iload_n 2, 1) := by decide +kernel
theorem d_Reckoner_valueOfStep_104 : decode (m_c m_Reckoner_valueOfStep) 104 = .ok (.invokevirtual 183, 3) := by decide +kernel
theorem d_Reckoner_valueOfStep_107 : decode (m_c m_Reckoner_valueOfStep) 107 = .ok (.ireturn, 1) := by decide +kernel
theorem d_Reckoner_valueOfStep_108 : decode (m_c m_Reckoner_valueOfStep) 108 = .ok (.aload_n 0, 1) := by decide +kernel
theorem d_Reckoner_valueOfStep_109 : decode (m_c m_Reckoner_valueOfStep) 109 = .ok (.iconst 1, 1) := by decide +kernel
theorem d_Reckoner_valueOfStep_110 : decode (m_c m_Reckoner_valueOfStep) 110 = .ok (.invokevirtual 187, 3) := by decide +kernel
theorem d_Reckoner_valueOfStep_113 : decode (m_c m_Reckoner_valueOfStep) 113 = .ok (.ireturn, 1) := by decide +kernel
theorem d_Reckoner_valueOfStep_114 : decode (m_c m_Reckoner_valueOfStep) 114 = .ok (.aload_n 0, 1) := by decide +kernel
theorem d_Reckoner_valueOfStep_115 : decode (m_c m_Reckoner_valueOfStep) 115 = .ok (.iconst (-1), 1) := by decide +kernel
theorem d_Reckoner_valueOfStep_116 : decode (m_c m_Reckoner_valueOfStep) 116 = .ok (.invokevirtual 187, 3) := by decide +kernel
theorem d_Reckoner_valueOfStep_119 : decode (m_c m_Reckoner_valueOfStep) 119 = .ok (.ireturn, 1) := by decide +kernel
def p_Reckoner_valueOfStep  (v1 : Int) (v2 : Int) (f g : q_F) : Option (Int × q_F × q_F) :=
  if q_sw v1 = 0 then
    some (v2, f, g)
  else
    if q_sw v1 = 1 then
      if 0 ≤ v2 ∧ v2 < 18 then
        some (f (36 + Int.toNat v2) 4, f, g)
      else none
    else
      if q_sw v1 = 2 then
        if 0 ≤ v2 ∧ v2 < 8 then
          some (f (28 + Int.toNat v2) 9, f, g)
        else none
      else
        if q_sw v1 = 3 then
          if 0 ≤ v2 ∧ v2 < 8 then
            some (f (28 + Int.toNat v2) 11, f, g)
          else none
        else
          if q_sw v1 = 4 then
            if 0 ≤ v2 ∧ v2 < 8 then
              some (f (28 + Int.toNat v2) 10, f, g)
            else none
          else
            if q_sw v1 = 5 then
              (p_Reckoner_joinedTop (1) f g).bind fun x11 =>
              some (x11.1, x11.2.1, x11.2.2)
            else
              if q_sw v1 = 6 then
                (p_Reckoner_joinedTop (-1) f g).bind fun x14 =>
                some (x14.1, x14.2.1, x14.2.2)
              else
                if q_sw v1 = 7 then
                  (p_Reckoner_raisedTop (v2) f g).bind fun x17 =>
                  some (x17.1, x17.2.1, x17.2.2)
                else
                  (p_Reckoner_joinedTop (-1) f g).bind fun x19 =>
                  some (x19.1, x19.2.1, x19.2.2)
theorem t_Reckoner_valueOfStep (t : q_V) (ok : ma_ok (q_G t))  {Q : Option Value → ma_H → Prop} {y : Int × q_F × q_F} (v1 : Int) (v2 : Int) (f g : q_F) (hp : p_Reckoner_valueOfStep  v1 v2 f g = some y) (hQ : Q (some (ma_i y.1)) (q_h y.2.1 y.2.2)) : ma_Met (q_G t) false 2 43 0 0 m_Reckoner_valueOfStep [q_a t (55), ma_i (v1), ma_i (v2)] (q_h f g) Q := by
  refine ma_met (by decide +kernel) (q_ble rfl) rfl ?_
  change ma_Ev (q_G t) 2 43 0 0 m_Reckoner_valueOfStep 0 [(0, q_a t (55)), (1, ma_i (v1)), (2, ma_i (v2))] [] (q_h f g) (ma_zr (q_G t) false Q)
  unfold p_Reckoner_valueOfStep at hp
  refine ev_iload_n (pc := 0) d_Reckoner_valueOfStep_0 rfl rfl ?_
  rw [← q_sw_i]
  by_cases hw1 : q_sw v1 = 0
  · rw [if_pos hw1] at hp
    rw [hw1]
    refine ev_tableIn (pc := 1) (tgt := 48) (off := 47) d_Reckoner_valueOfStep_1 ⟨by decide, by decide⟩ (by decide) (by decide) (by decide) (by decide) ?_
    refine ev_iload_n (pc := 48) d_Reckoner_valueOfStep_48 rfl rfl ?_
    cases Option.some.inj hp
    exact et_iret (pc := 49) d_Reckoner_valueOfStep_49 rfl hQ
  · rw [if_neg hw1] at hp
    by_cases hw2 : q_sw v1 = 1
    · rw [if_pos hw2] at hp
      rw [hw2]
      refine ev_tableIn (pc := 1) (tgt := 50) (off := 49) d_Reckoner_valueOfStep_1 ⟨by decide, by decide⟩ (by decide) (by decide) (by decide) (by decide) ?_
      refine et_aload_n (pc := 50) d_Reckoner_valueOfStep_50 rfl rfl ?_
      refine et_getr (pc := 51) ok (fl_Reckoner_19 t) rfl d_Reckoner_valueOfStep_51 s_55 r_55_0 ?_
      refine et_getr (pc := 54) ok (fl_Reckoner_32 t) rfl d_Reckoner_valueOfStep_54 s_3 r_3_3 ?_
      refine ev_iload_n (pc := 57) d_Reckoner_valueOfStep_57 rfl rfl ?_
      replace hp := q_if hp
      obtain ⟨hb3, hp⟩ := hp
      refine et_aald (pc := 58) d_Reckoner_valueOfStep_58 s_7 hb3 (by decide) (r_7 _ (by omega)) ?_
      refine et_geti (pc := 59) ok (fl_Reckoner_59 t) rfl d_Reckoner_valueOfStep_59 (s_36 _ (by omega) (by omega)) ?_
      cases Option.some.inj hp
      exact et_iret (pc := 62) d_Reckoner_valueOfStep_62 rfl hQ
    · rw [if_neg hw2] at hp
      by_cases hw4 : q_sw v1 = 2
      · rw [if_pos hw4] at hp
        rw [hw4]
        refine ev_tableIn (pc := 1) (tgt := 63) (off := 62) d_Reckoner_valueOfStep_1 ⟨by decide, by decide⟩ (by decide) (by decide) (by decide) (by decide) ?_
        refine et_aload_n (pc := 63) d_Reckoner_valueOfStep_63 rfl rfl ?_
        refine et_getr (pc := 64) ok (fl_Reckoner_19 t) rfl d_Reckoner_valueOfStep_64 s_55 r_55_0 ?_
        refine et_getr (pc := 67) ok (fl_Reckoner_179 t) rfl d_Reckoner_valueOfStep_67 s_3 r_3_2 ?_
        refine ev_iload_n (pc := 70) d_Reckoner_valueOfStep_70 rfl rfl ?_
        replace hp := q_if hp
        obtain ⟨hb5, hp⟩ := hp
        refine et_aald (pc := 71) d_Reckoner_valueOfStep_71 s_6 hb5 (by decide) (r_6 _ (by omega)) ?_
        refine et_geti (pc := 72) ok (fl_Reckoner_84 t) rfl d_Reckoner_valueOfStep_72 (s_28 _ (by omega) (by omega)) ?_
        cases Option.some.inj hp
        exact et_iret (pc := 75) d_Reckoner_valueOfStep_75 rfl hQ
      · rw [if_neg hw4] at hp
        by_cases hw6 : q_sw v1 = 3
        · rw [if_pos hw6] at hp
          rw [hw6]
          refine ev_tableIn (pc := 1) (tgt := 76) (off := 75) d_Reckoner_valueOfStep_1 ⟨by decide, by decide⟩ (by decide) (by decide) (by decide) (by decide) ?_
          refine et_aload_n (pc := 76) d_Reckoner_valueOfStep_76 rfl rfl ?_
          refine et_getr (pc := 77) ok (fl_Reckoner_19 t) rfl d_Reckoner_valueOfStep_77 s_55 r_55_0 ?_
          refine et_getr (pc := 80) ok (fl_Reckoner_179 t) rfl d_Reckoner_valueOfStep_80 s_3 r_3_2 ?_
          refine ev_iload_n (pc := 83) d_Reckoner_valueOfStep_83 rfl rfl ?_
          replace hp := q_if hp
          obtain ⟨hb7, hp⟩ := hp
          refine et_aald (pc := 84) d_Reckoner_valueOfStep_84 s_6 hb7 (by decide) (r_6 _ (by omega)) ?_
          refine et_geti (pc := 85) ok (fl_Reckoner_87 t) rfl d_Reckoner_valueOfStep_85 (s_28 _ (by omega) (by omega)) ?_
          cases Option.some.inj hp
          exact et_iret (pc := 88) d_Reckoner_valueOfStep_88 rfl hQ
        · rw [if_neg hw6] at hp
          by_cases hw8 : q_sw v1 = 4
          · rw [if_pos hw8] at hp
            rw [hw8]
            refine ev_tableIn (pc := 1) (tgt := 89) (off := 88) d_Reckoner_valueOfStep_1 ⟨by decide, by decide⟩ (by decide) (by decide) (by decide) (by decide) ?_
            refine et_aload_n (pc := 89) d_Reckoner_valueOfStep_89 rfl rfl ?_
            refine et_getr (pc := 90) ok (fl_Reckoner_19 t) rfl d_Reckoner_valueOfStep_90 s_55 r_55_0 ?_
            refine et_getr (pc := 93) ok (fl_Reckoner_179 t) rfl d_Reckoner_valueOfStep_93 s_3 r_3_2 ?_
            refine ev_iload_n (pc := 96) d_Reckoner_valueOfStep_96 rfl rfl ?_
            replace hp := q_if hp
            obtain ⟨hb9, hp⟩ := hp
            refine et_aald (pc := 97) d_Reckoner_valueOfStep_97 s_6 hb9 (by decide) (r_6 _ (by omega)) ?_
            refine et_geti (pc := 98) ok (fl_Reckoner_94 t) rfl d_Reckoner_valueOfStep_98 (s_28 _ (by omega) (by omega)) ?_
            cases Option.some.inj hp
            exact et_iret (pc := 101) d_Reckoner_valueOfStep_101 rfl hQ
          · rw [if_neg hw8] at hp
            by_cases hw10 : q_sw v1 = 5
            · rw [if_pos hw10] at hp
              rw [hw10]
              refine ev_tableIn (pc := 1) (tgt := 108) (off := 107) d_Reckoner_valueOfStep_1 ⟨by decide, by decide⟩ (by decide) (by decide) (by decide) (by decide) ?_
              refine et_aload_n (pc := 108) d_Reckoner_valueOfStep_108 rfl rfl ?_
              refine ev_iconst (pc := 109) d_Reckoner_valueOfStep_109 ?_
              replace hp := q_bind hp
              obtain ⟨x11, hm12, hp⟩ := hp
              refine et_callVi (pc := 110) (f1 := x11.2.1) (g1 := x11.2.2) ok [ma_i (1)] [] (cf_Reckoner_187 t) d_Reckoner_valueOfStep_110 s_55 k_9 rfl (t_Reckoner_joinedTop t ok (1) f g hm12 ⟨rfl, rfl⟩) rfl rfl (by decide) (by decide) (q_ble rfl) ?_
              cases Option.some.inj hp
              exact et_iret (pc := 113) d_Reckoner_valueOfStep_113 rfl hQ
            · rw [if_neg hw10] at hp
              by_cases hw13 : q_sw v1 = 6
              · rw [if_pos hw13] at hp
                rw [hw13]
                refine ev_tableIn (pc := 1) (tgt := 114) (off := 113) d_Reckoner_valueOfStep_1 ⟨by decide, by decide⟩ (by decide) (by decide) (by decide) (by decide) ?_
                refine et_aload_n (pc := 114) d_Reckoner_valueOfStep_114 rfl rfl ?_
                refine ev_iconst (pc := 115) d_Reckoner_valueOfStep_115 ?_
                replace hp := q_bind hp
                obtain ⟨x14, hm15, hp⟩ := hp
                refine et_callVi (pc := 116) (f1 := x14.2.1) (g1 := x14.2.2) ok [ma_i (-1)] [] (cf_Reckoner_187 t) d_Reckoner_valueOfStep_116 s_55 k_9 rfl (t_Reckoner_joinedTop t ok (-1) f g hm15 ⟨rfl, rfl⟩) rfl rfl (by decide) (by decide) (q_ble rfl) ?_
                cases Option.some.inj hp
                exact et_iret (pc := 119) d_Reckoner_valueOfStep_119 rfl hQ
              · rw [if_neg hw13] at hp
                by_cases hw16 : q_sw v1 = 7
                · rw [if_pos hw16] at hp
                  rw [hw16]
                  refine ev_tableIn (pc := 1) (tgt := 102) (off := 101) d_Reckoner_valueOfStep_1 ⟨by decide, by decide⟩ (by decide) (by decide) (by decide) (by decide) ?_
                  refine et_aload_n (pc := 102) d_Reckoner_valueOfStep_102 rfl rfl ?_
                  refine ev_iload_n (pc := 103) d_Reckoner_valueOfStep_103 rfl rfl ?_
                  replace hp := q_bind hp
                  obtain ⟨x17, hm18, hp⟩ := hp
                  refine et_callVi (pc := 104) (f1 := x17.2.1) (g1 := x17.2.2) ok [ma_i (v2)] [] (cf_Reckoner_183 t) d_Reckoner_valueOfStep_104 s_55 k_9 rfl (t_Reckoner_raisedTop t ok (v2) f g hm18 ⟨rfl, rfl⟩) rfl rfl (by decide) (by decide) (q_ble rfl) ?_
                  cases Option.some.inj hp
                  exact et_iret (pc := 107) d_Reckoner_valueOfStep_107 rfl hQ
                · rw [if_neg hw16] at hp
                  refine ev_tableOut (pc := 1) (tgt := 114) d_Reckoner_valueOfStep_1 (q_sw_r _) (by omega) (by decide) ?_
                  refine et_aload_n (pc := 114) d_Reckoner_valueOfStep_114 rfl rfl ?_
                  refine ev_iconst (pc := 115) d_Reckoner_valueOfStep_115 ?_
                  replace hp := q_bind hp
                  obtain ⟨x19, hm20, hp⟩ := hp
                  refine et_callVi (pc := 116) (f1 := x19.2.1) (g1 := x19.2.2) ok [ma_i (-1)] [] (cf_Reckoner_187 t) d_Reckoner_valueOfStep_116 s_55 k_9 rfl (t_Reckoner_joinedTop t ok (-1) f g hm20 ⟨rfl, rfl⟩) rfl rfl (by decide) (by decide) (q_ble rfl) ?_
                  cases Option.some.inj hp
                  exact et_iret (pc := 119) d_Reckoner_valueOfStep_119 rfl hQ
theorem d_Reckoner_valueOf_0 : decode (m_c m_Reckoner_valueOf) 0 = .ok (.aload_n 0, 1) := by decide +kernel
theorem d_Reckoner_valueOf_1 : decode (m_c m_Reckoner_valueOf) 1 = .ok (.iconst 0, 1) := by decide +kernel
theorem d_Reckoner_valueOf_2 : decode (m_c m_Reckoner_valueOf) 2 = .ok (.putfield 15, 3) := by decide +kernel
theorem d_Reckoner_valueOf_5 : decode (m_c m_Reckoner_valueOf) 5 = .ok (.iload_n 1, 1) := by decide +kernel
theorem d_Reckoner_valueOf_6 : decode (m_c m_Reckoner_valueOf) 6 = .ok (.istore_n 3, 1) := by decide +kernel
theorem d_Reckoner_valueOf_7 : decode (m_c m_Reckoner_valueOf) 7 = .ok (.iload_n 3, 1) := by decide +kernel
theorem d_Reckoner_valueOf_8 : decode (m_c m_Reckoner_valueOf) 8 = .ok (.iload_n 2, 1) := by decide +kernel
theorem d_Reckoner_valueOf_9 : decode (m_c m_Reckoner_valueOf) 9 = .ok (.if_icmp .ge 80, 3) := by decide +kernel
theorem d_Reckoner_valueOf_12 : decode (m_c m_Reckoner_valueOf) 12 = .ok (.aload_n 0, 1) := by decide +kernel
theorem d_Reckoner_valueOf_13 : decode (m_c m_Reckoner_valueOf) 13 = .ok (.aload_n 0, 1) := by decide +kernel
theorem d_Reckoner_valueOf_14 : decode (m_c m_Reckoner_valueOf) 14 = .ok (.getfield 19, 3) := by decide +kernel
theorem d_Reckoner_valueOf_17 : decode (m_c m_Reckoner_valueOf) 17 = .ok (.getfield 169, 3) := by decide +kernel
theorem d_Reckoner_valueOf_20 : decode (m_c m_Reckoner_valueOf) 20 = .ok (.getfield 148, 3) := by decide +kernel
theorem d_Reckoner_valueOf_23 : decode (m_c m_Reckoner_valueOf) 23 = .ok (.iload_n 3, 1) := by decide +kernel
theorem d_Reckoner_valueOf_24 : decode (m_c m_Reckoner_valueOf) 24 = .ok (.iaload, 1) := by decide +kernel
theorem d_Reckoner_valueOf_25 : decode (m_c m_Reckoner_valueOf) 25 = .ok (.aload_n 0, 1) := by decide +kernel
theorem d_Reckoner_valueOf_26 : decode (m_c m_Reckoner_valueOf) 26 = .ok (.getfield 19, 3) := by decide +kernel
theorem d_Reckoner_valueOf_29 : decode (m_c m_Reckoner_valueOf) 29 = .ok (.getfield 169, 3) := by decide +kernel
theorem d_Reckoner_valueOf_32 : decode (m_c m_Reckoner_valueOf) 32 = .ok (.getfield 143, 3) := by decide +kernel
theorem d_Reckoner_valueOf_35 : decode (m_c m_Reckoner_valueOf) 35 = .ok (.iload_n 3, 1) := by decide +kernel
theorem d_Reckoner_valueOf_36 : decode (m_c m_Reckoner_valueOf) 36 = .ok (.iaload, 1) := by decide +kernel
theorem d_Reckoner_valueOf_37 : decode (m_c m_Reckoner_valueOf) 37 = .ok (.invokevirtual 172, 3) := by decide +kernel
theorem d_Reckoner_valueOf_40 : decode (m_c m_Reckoner_valueOf) 40 = .ok (.istore 4, 2) := by decide +kernel
theorem d_Reckoner_valueOf_42 : decode (m_c m_Reckoner_valueOf) 42 = .ok (.iload 4, 2) := by decide +kernel
theorem d_Reckoner_valueOf_44 : decode (m_c m_Reckoner_valueOf) 44 = .ok (.ldc 62, 2) := by decide +kernel
theorem d_Reckoner_valueOf_46 : decode (m_c m_Reckoner_valueOf) 46 = .ok (.if_icmp .eq 13, 3) := by decide +kernel
theorem d_Reckoner_valueOf_49 : decode (m_c m_Reckoner_valueOf) 49 = .ok (.aload_n 0, 1) := by decide +kernel
theorem d_Reckoner_valueOf_50 : decode (m_c m_Reckoner_valueOf) 50 = .ok (.getfield 15, 3) := by decide +kernel
theorem d_Reckoner_valueOf_53 : decode (m_c m_Reckoner_valueOf) 53 = .ok (.sipush 160, 3) := by decide +kernel
theorem d_Reckoner_valueOf_56 : decode (m_c m_Reckoner_valueOf) 56 = .ok (.if_icmp .lt 6, 3) := by decide +kernel
theorem d_Reckoner_valueOf_59 : decode (m_c m_Reckoner_valueOf) 59 = .ok (.ldc 62, 2) := by decide +kernel
theorem d_Reckoner_valueOf_61 : decode (m_c m_Reckoner_valueOf) 61 = .ok (.ireturn, 1) := by decide +kernel
theorem d_Reckoner_valueOf_62 : decode (m_c m_Reckoner_valueOf) 62 = .ok (.aload_n 0, 1) := by decide +kernel
theorem d_Reckoner_valueOf_63 : decode (m_c m_Reckoner_valueOf) 63 = .ok (.getfield 9, 3) := by decide +kernel
theorem d_Reckoner_valueOf_66 : decode (m_c m_Reckoner_valueOf) 66 = .ok (.aload_n 0, 1) := by decide +kernel
theorem d_Reckoner_valueOf_67 : decode (m_c m_Reckoner_valueOf) 67 = .ok (.getfield 15, 3) := by decide +kernel
theorem d_Reckoner_valueOf_70 : decode (m_c m_Reckoner_valueOf) 70 = .ok (.iload 4, 2) := by decide +kernel
theorem d_Reckoner_valueOf_72 : decode (m_c m_Reckoner_valueOf) 72 = .ok (.iastore, 1) := by decide +kernel
theorem d_Reckoner_valueOf_73 : decode (m_c m_Reckoner_valueOf) 73 = .ok (.aload_n 0, 1) := by decide +kernel
theorem d_Reckoner_valueOf_74 : decode (m_c m_Reckoner_valueOf) 74 = .ok (.dup, 1) := by decide +kernel
theorem d_Reckoner_valueOf_75 : decode (m_c m_Reckoner_valueOf) 75 = .ok (.getfield 15, 3) := by decide +kernel
theorem d_Reckoner_valueOf_78 : decode (m_c m_Reckoner_valueOf) 78 = .ok (.iconst 1, 1) := by decide +kernel
theorem d_Reckoner_valueOf_79 : decode (m_c m_Reckoner_valueOf) 79 = .ok (.iadd, 1) := by decide +kernel
theorem d_Reckoner_valueOf_80 : decode (m_c m_Reckoner_valueOf) 80 = .ok (.putfield 15, 3) := by decide +kernel
theorem d_Reckoner_valueOf_83 : decode (m_c m_Reckoner_valueOf) 83 = .ok (.iinc 3 1, 3) := by decide +kernel
theorem d_Reckoner_valueOf_86 : decode (m_c m_Reckoner_valueOf) 86 = .ok (.goto (-79), 3) := by decide +kernel
theorem d_Reckoner_valueOf_89 : decode (m_c m_Reckoner_valueOf) 89 = .ok (.aload_n 0, 1) := by decide +kernel
theorem d_Reckoner_valueOf_90 : decode (m_c m_Reckoner_valueOf) 90 = .ok (.invokevirtual 175, 3) := by decide +kernel
theorem d_Reckoner_valueOf_93 : decode (m_c m_Reckoner_valueOf) 93 = .ok (.ireturn, 1) := by decide +kernel
def p_Reckoner_valueOf_59    (f g : q_F) : Option (Int × q_F × q_F) :=
  some (-1000000000, f, g)
def p_Reckoner_valueOf_7   : Nat → Int → Int → q_F → q_F → Option (Int × q_F × q_F)
  | 0, _, _, _, _ => none
  | n + 1, v2, v3, f, g =>
    if q_sw v2 ≤ q_sw v3 then
      (p_Reckoner_pop  f g).bind fun x2 =>
      some (x2.1, x2.2.1, x2.2.2)
    else
      if 0 ≤ v3 ∧ v3 < 160 then
        if 0 ≤ v3 ∧ v3 < 160 then
          (p_Reckoner_valueOfStep (f 12 (Int.toNat v3)) (f 13 (Int.toNat v3)) f g).bind fun x6 =>
          if q_sw x6.1 = q_sw (-1000000000) then
            p_Reckoner_valueOf_59    x6.2.1 x6.2.2
          else
            if q_sw (x6.2.1 55 2) < q_sw 160 then
              if 0 ≤ (x6.2.1 55 2) ∧ (x6.2.1 55 2) < 160 then
                q_let (ma_up x6.2.1 56 (Int.toNat (x6.2.1 55 2)) x6.1) fun f11 =>
                q_let (ma_up f11 55 2 ((f11 55 2) + 1)) fun f12 =>
                q_let (v3 + 1) fun z13 =>
                (p_Reckoner_valueOf_7   n) (v2) (z13) f12 x6.2.2
              else none
            else
              p_Reckoner_valueOf_59    x6.2.1 x6.2.2
        else none
      else none
def p_Reckoner_valueOf  (v1 : Int) (v2 : Int) (f g : q_F) : Option (Int × q_F × q_F) :=
  q_let (ma_up f 55 2 0) fun f1 =>
  p_Reckoner_valueOf_7   1000 (v2) (v1) f1 g
theorem e_Reckoner_valueOf_59 (t : q_V) (ok : ma_ok (q_G t))  {Q : Option Value → ma_H → Prop} {y : Int × q_F × q_F} (hQ : Q (some (ma_i y.1)) (q_h y.2.1 y.2.2))    (f g : q_F) (hp : p_Reckoner_valueOf_59    f g = some y) : ma_Ev (q_G t) 3 65 0 0 m_Reckoner_valueOf 59 [] [] (q_h f g) (ma_zr (q_G t) false Q) := by
  unfold p_Reckoner_valueOf_59 at hp
  refine ev_ldc (pc := 59) d_Reckoner_valueOf_59 kc_Reckoner_62 ?_
  cases Option.some.inj hp
  exact et_iret (pc := 61) d_Reckoner_valueOf_61 rfl hQ
theorem e_Reckoner_valueOf_7 (t : q_V) (ok : ma_ok (q_G t))  {Q : Option Value → ma_H → Prop} {y : Int × q_F × q_F} (hQ : Q (some (ma_i y.1)) (q_h y.2.1 y.2.2))   : ∀ (n : Nat) (v2 : Int) (v3 : Int) (f g : q_F), p_Reckoner_valueOf_7   n v2 v3 f g = some y → ma_Ev (q_G t) 3 65 0 0 m_Reckoner_valueOf 7 [(0, q_a t (55)), (2, ma_i (v2)), (3, ma_i (v3))] [] (q_h f g) (ma_zr (q_G t) false Q) := by
  intro n
  induction n with
  | zero =>
    intro v2 v3 f g hp
    rw [p_Reckoner_valueOf_7] at hp
    cases hp
  | succ n ih =>
    intro v2 v3 f g hp
    rw [p_Reckoner_valueOf_7] at hp
    refine ev_iload_n (pc := 7) d_Reckoner_valueOf_7 rfl rfl ?_
    refine ev_iload_n (pc := 8) d_Reckoner_valueOf_8 rfl rfl ?_
    refine et_icmp_ge (pc := 9) (tgt := 89) d_Reckoner_valueOf_9 (by decide) (fun hj1 => ?_) (fun hj1 => ?_)
    · rw [if_pos hj1] at hp
      refine et_aload_n (pc := 89) d_Reckoner_valueOf_89 rfl rfl ?_
      replace hp := q_bind hp
      obtain ⟨x2, hm3, hp⟩ := hp
      refine et_callVi (pc := 90) (f1 := x2.2.1) (g1 := x2.2.2) ok [] [] (cf_Reckoner_175 t) d_Reckoner_valueOf_90 s_55 k_9 rfl (t_Reckoner_pop t ok  f g hm3 ⟨rfl, rfl⟩) rfl rfl (by decide) (by decide) (q_ble rfl) ?_
      cases Option.some.inj hp
      exact et_iret (pc := 93) d_Reckoner_valueOf_93 rfl hQ
    · rw [if_neg hj1] at hp
      refine et_aload_n (pc := 12) d_Reckoner_valueOf_12 rfl rfl ?_
      refine et_aload_n (pc := 13) d_Reckoner_valueOf_13 rfl rfl ?_
      refine et_getr (pc := 14) ok (fl_Reckoner_19 t) rfl d_Reckoner_valueOf_14 s_55 r_55_0 ?_
      refine et_getr (pc := 17) ok (fl_Reckoner_169 t) rfl d_Reckoner_valueOf_17 s_3 r_3_5 ?_
      refine et_getr (pc := 20) ok (fl_Reckoner_148 t) rfl d_Reckoner_valueOf_20 s_11 r_11_0 ?_
      refine ev_iload_n (pc := 23) d_Reckoner_valueOf_23 rfl rfl ?_
      replace hp := q_if hp
      obtain ⟨hb4, hp⟩ := hp
      refine et_iald (pc := 24) d_Reckoner_valueOf_24 s_12 hb4 (by decide) ?_
      refine et_aload_n (pc := 25) d_Reckoner_valueOf_25 rfl rfl ?_
      refine et_getr (pc := 26) ok (fl_Reckoner_19 t) rfl d_Reckoner_valueOf_26 s_55 r_55_0 ?_
      refine et_getr (pc := 29) ok (fl_Reckoner_169 t) rfl d_Reckoner_valueOf_29 s_3 r_3_5 ?_
      refine et_getr (pc := 32) ok (fl_Reckoner_143 t) rfl d_Reckoner_valueOf_32 s_11 r_11_1 ?_
      refine ev_iload_n (pc := 35) d_Reckoner_valueOf_35 rfl rfl ?_
      replace hp := q_if hp
      obtain ⟨hb5, hp⟩ := hp
      refine et_iald (pc := 36) d_Reckoner_valueOf_36 s_13 hb5 (by decide) ?_
      replace hp := q_bind hp
      obtain ⟨x6, hm7, hp⟩ := hp
      refine et_callVi (pc := 37) (f1 := x6.2.1) (g1 := x6.2.2) ok [ma_i (f 12 (Int.toNat v3)), ma_i (f 13 (Int.toNat v3))] [] (cf_Reckoner_172 t) d_Reckoner_valueOf_37 s_55 k_9 rfl (t_Reckoner_valueOfStep t ok (f 12 (Int.toNat v3)) (f 13 (Int.toNat v3)) f g hm7 ⟨rfl, rfl⟩) rfl rfl (by decide) (by decide) (q_ble rfl) ?_
      refine ev_istore (pc := 40) d_Reckoner_valueOf_40 (by decide) [(4, _), (0, _), (2, _), (3, _)] rfl ?_
      refine ev_iload (pc := 42) d_Reckoner_valueOf_42 rfl ?_
      refine ev_ldc (pc := 44) d_Reckoner_valueOf_44 kc_Reckoner_62 ?_
      refine et_icmp_eq (pc := 46) (tgt := 59) d_Reckoner_valueOf_46 (by decide) (fun hj8 => ?_) (fun hj8 => ?_)
      · rw [if_pos hj8] at hp
        refine ev_sub (ls2 := []) [] rfl ?_
        exact e_Reckoner_valueOf_59 t ok  hQ    x6.2.1 x6.2.2 hp
      · rw [if_neg hj8] at hp
        refine et_aload_n (pc := 49) d_Reckoner_valueOf_49 rfl rfl ?_
        refine et_geti (pc := 50) ok (fl_Reckoner_15 t) rfl d_Reckoner_valueOf_50 s_55 ?_
        refine ev_sipush (pc := 53) d_Reckoner_valueOf_53 rfl ?_
        refine et_icmp_lt (pc := 56) (tgt := 62) d_Reckoner_valueOf_56 (by decide) (fun hj9 => ?_) (fun hj9 => ?_)
        · rw [if_pos hj9] at hp
          refine et_aload_n (pc := 62) d_Reckoner_valueOf_62 rfl rfl ?_
          refine et_getr (pc := 63) ok (fl_Reckoner_9 t) rfl d_Reckoner_valueOf_63 s_55 r_55_1 ?_
          refine et_aload_n (pc := 66) d_Reckoner_valueOf_66 rfl rfl ?_
          refine et_geti (pc := 67) ok (fl_Reckoner_15 t) rfl d_Reckoner_valueOf_67 s_55 ?_
          refine ev_iload (pc := 70) d_Reckoner_valueOf_70 rfl ?_
          replace hp := q_if hp
          obtain ⟨hb10, hp⟩ := hp
          refine et_iast (pc := 72) d_Reckoner_valueOf_72 s_56 hb10 (by decide) ?_
          replace hp := q_let_of hp
          obtain ⟨f11, hz, hp⟩ := hp
          rw [← hz]
          clear hz
          refine et_aload_n (pc := 73) d_Reckoner_valueOf_73 rfl rfl ?_
          refine ev_dup (pc := 74) d_Reckoner_valueOf_74 rfl ?_
          refine et_geti (pc := 75) ok (fl_Reckoner_15 t) rfl d_Reckoner_valueOf_75 s_55 ?_
          refine ev_iconst (pc := 78) d_Reckoner_valueOf_78 ?_
          refine ev_iadd (pc := 79) d_Reckoner_valueOf_79 ?_
          refine et_puti (pc := 80) ok (fl_Reckoner_15 t) d_Reckoner_valueOf_80 s_55 ?_
          replace hp := q_let_of hp
          obtain ⟨f12, hz, hp⟩ := hp
          rw [← hz]
          clear hz
          refine ev_iinc (pc := 83) d_Reckoner_valueOf_83 (by decide) rfl [(3, _), (4, _), (0, _), (2, _)] rfl ?_
          replace hp := q_let_of hp
          obtain ⟨z13, hz, hp⟩ := hp
          rw [← hz]
          clear hz
          refine ev_goto (pc := 86) (tgt := 7) d_Reckoner_valueOf_86 (by decide) ?_
          refine ev_sub (ls2 := [(0, q_a t (55)), (2, ma_i (v2)), (3, ma_i (z13))]) [2, 3, 0] rfl ?_
          exact ih (v2) (z13) f12 x6.2.2 hp
        · rw [if_neg hj9] at hp
          refine ev_sub (ls2 := []) [] rfl ?_
          exact e_Reckoner_valueOf_59 t ok  hQ    x6.2.1 x6.2.2 hp
theorem t_Reckoner_valueOf (t : q_V) (ok : ma_ok (q_G t))  {Q : Option Value → ma_H → Prop} {y : Int × q_F × q_F} (v1 : Int) (v2 : Int) (f g : q_F) (hp : p_Reckoner_valueOf  v1 v2 f g = some y) (hQ : Q (some (ma_i y.1)) (q_h y.2.1 y.2.2)) : ma_Met (q_G t) false 3 65 0 0 m_Reckoner_valueOf [q_a t (55), ma_i (v1), ma_i (v2)] (q_h f g) Q := by
  refine ma_met (by decide +kernel) (q_ble rfl) rfl ?_
  change ma_Ev (q_G t) 3 65 0 0 m_Reckoner_valueOf 0 [(0, q_a t (55)), (1, ma_i (v1)), (2, ma_i (v2))] [] (q_h f g) (ma_zr (q_G t) false Q)
  unfold p_Reckoner_valueOf at hp
  refine et_aload_n (pc := 0) d_Reckoner_valueOf_0 rfl rfl ?_
  refine ev_iconst (pc := 1) d_Reckoner_valueOf_1 ?_
  refine et_puti (pc := 2) ok (fl_Reckoner_15 t) d_Reckoner_valueOf_2 s_55 ?_
  replace hp := q_let_of hp
  obtain ⟨f1, hz, hp⟩ := hp
  rw [← hz]
  clear hz
  refine ev_iload_n (pc := 5) d_Reckoner_valueOf_5 rfl rfl ?_
  refine ev_istore_n (pc := 6) d_Reckoner_valueOf_6 rfl (by decide) [(3, _), (0, _), (1, _), (2, _)] rfl ?_
  refine ev_sub (ls2 := [(0, q_a t (55)), (2, ma_i (v2)), (3, ma_i (v1))]) [1, 3, 0] rfl ?_
  exact e_Reckoner_valueOf_7 t ok  hQ   1000 (v2) (v1) f1 g hp
theorem d_Reckoner_placeOf_0 : decode (m_c m_Reckoner_placeOf) 0 = .ok (.iload_n 2, 1) := by decide +kernel
theorem d_Reckoner_placeOf_1 : decode (m_c m_Reckoner_placeOf) 1 = .ok (.iconst 1, 1) := by decide +kernel
theorem d_Reckoner_placeOf_2 : decode (m_c m_Reckoner_placeOf) 2 = .ok (.isub, 1) := by decide +kernel
theorem d_Reckoner_placeOf_3 : decode (m_c m_Reckoner_placeOf) 3 = .ok (.istore_n 3, 1) := by decide +kernel
theorem d_Reckoner_placeOf_4 : decode (m_c m_Reckoner_placeOf) 4 = .ok (.iload_n 3, 1) := by decide +kernel
theorem d_Reckoner_placeOf_5 : decode (m_c m_Reckoner_placeOf) 5 = .ok (.ifCond .lt 83, 3) := by decide +kernel
theorem d_Reckoner_placeOf_8 : decode (m_c m_Reckoner_placeOf) 8 = .ok (.aload_n 0, 1) := by decide +kernel
theorem d_Reckoner_placeOf_9 : decode (m_c m_Reckoner_placeOf) 9 = .ok (.getfield 19, 3) := by decide +kernel
theorem d_Reckoner_placeOf_12 : decode (m_c m_Reckoner_placeOf) 12 = .ok (.iload_n 3, 1) := by decide +kernel
theorem d_Reckoner_placeOf_13 : decode (m_c m_Reckoner_placeOf) 13 = .ok (.invokevirtual 44, 3) := by decide +kernel
theorem d_Reckoner_placeOf_16 : decode (m_c m_Reckoner_placeOf) 16 = .ok (.astore 4, 2) := by decide +kernel
theorem d_Reckoner_placeOf_18 : decode (m_c m_Reckoner_placeOf) 18 = .ok (.aload 4, 2) := by decide +kernel
theorem d_Reckoner_placeOf_20 : decode (m_c m_Reckoner_placeOf) 20 = .ok (.getfield 102, 3) := by decide +kernel
theorem d_Reckoner_placeOf_23 : decode (m_c m_Reckoner_placeOf) 23 = .ok (.iload_n 1, 1) := by decide +kernel
theorem d_Reckoner_placeOf_24 : decode (m_c m_Reckoner_placeOf) 24 = .ok (.if_icmp .eq 12, 3) := by decide +kernel
theorem d_Reckoner_placeOf_27 : decode (m_c m_Reckoner_placeOf) 27 = .ok (.aload 4, 2) := by decide +kernel
theorem d_Reckoner_placeOf_29 : decode (m_c m_Reckoner_placeOf) 29 = .ok (.getfield 112, 3) := by decide +kernel
theorem d_Reckoner_placeOf_32 : decode (m_c m_Reckoner_placeOf) 32 = .ok (.iload_n 1, 1) := by decide +kernel
theorem d_Reckoner_placeOf_33 : decode (m_c m_Reckoner_placeOf) 33 = .ok (.if_icmp .ne 49, 3) := by decide +kernel
theorem d_Reckoner_placeOf_36 : decode (m_c m_Reckoner_placeOf) 36 = .ok (.aload 4, 2) := by decide +kernel
theorem d_Reckoner_placeOf_38 : decode (m_c m_Reckoner_placeOf) 38 = .ok (.getfield 102, 3) := by decide +kernel
theorem d_Reckoner_placeOf_41 : decode (m_c m_Reckoner_placeOf) 41 = .ok (.iload_n 1, 1) := by decide +kernel
theorem d_Reckoner_placeOf_42 : decode (m_c m_Reckoner_placeOf) 42 = .ok (.if_icmp .ne 11, 3) := by decide +kernel
theorem d_Reckoner_placeOf_45 : decode (m_c m_Reckoner_placeOf) 45 = .ok (.aload 4, 2) := by decide +kernel
theorem d_Reckoner_placeOf_47 : decode (m_c m_Reckoner_placeOf) 47 = .ok (.getfield 84, 3) := by decide +kernel
theorem d_Reckoner_placeOf_50 : decode (m_c m_Reckoner_placeOf) 50 = .ok (.goto 8, 3) := by decide +kernel
theorem d_Reckoner_placeOf_53 : decode (m_c m_Reckoner_placeOf) 53 = .ok (.aload 4, 2) := by decide +kernel
theorem d_Reckoner_placeOf_55 : decode (m_c m_Reckoner_placeOf) 55 = .ok (.getfield 87, 3) := by decide +kernel
theorem d_Reckoner_placeOf_58 : decode (m_c m_Reckoner_placeOf) 58 = .ok (.istore 5, 2) := by decide +kernel
theorem d_Reckoner_placeOf_60 : decode (m_c m_Reckoner_placeOf) 60 = .ok (.aload 4, 2) := by decide +kernel
theorem d_Reckoner_placeOf_62 : decode (m_c m_Reckoner_placeOf) 62 = .ok (.invokevirtual 48, 3) := by decide +kernel
theorem d_Reckoner_placeOf_65 : decode (m_c m_Reckoner_placeOf) 65 = .ok (.ifCond .eq 14, 3) := by decide +kernel
theorem d_Reckoner_placeOf_68 : decode (m_c m_Reckoner_placeOf) 68 = .ok (.iload 5, 2) := by decide +kernel
theorem d_Reckoner_placeOf_70 : decode (m_c m_Reckoner_placeOf) 70 = .ok (.aload 4, 2) := by decide +kernel
theorem d_Reckoner_placeOf_72 : decode (m_c m_Reckoner_placeOf) 72 = .ok (.getfield 94, 3) := by decide +kernel
theorem d_Reckoner_placeOf_75 : decode (m_c m_Reckoner_placeOf) 75 = .ok (.iadd, 1) := by decide +kernel
theorem d_Reckoner_placeOf_76 : decode (m_c m_Reckoner_placeOf) 76 = .ok (.goto 5, 3) := by decide +kernel
theorem d_Reckoner_placeOf_79 : decode (m_c m_Reckoner_placeOf) 79 = .ok (.ldc 62, 2) := by decide +kernel
theorem d_Reckoner_placeOf_81 : decode (m_c m_Reckoner_placeOf) 81 = .ok (.ireturn, 1) := by decide +kernel
theorem d_Reckoner_placeOf_82 : decode (m_c m_Reckoner_placeOf) 82 = .ok (.iinc 3 (-1), 3) := by decide +kernel
theorem d_Reckoner_placeOf_85 : decode (m_c m_Reckoner_placeOf) 85 = .ok (.goto (-81), 3) := by decide +kernel
theorem d_Reckoner_placeOf_88 : decode (m_c m_Reckoner_placeOf) 88 = .ok (.aload_n 0, 1) := by decide +kernel
theorem d_Reckoner_placeOf_89 : decode (m_c m_Reckoner_placeOf) 89 = .ok (.getfield 19, 3) := by decide +kernel
theorem d_Reckoner_placeOf_92 : decode (m_c m_Reckoner_placeOf) 92 = .ok (.getfield 124, 3) := by decide +kernel
theorem d_Reckoner_placeOf_95 : decode (m_c m_Reckoner_placeOf) 95 = .ok (.iload_n 1, 1) := by decide +kernel
theorem d_Reckoner_placeOf_96 : decode (m_c m_Reckoner_placeOf) 96 = .ok (.aaload, 1) := by decide +kernel
theorem d_Reckoner_placeOf_97 : decode (m_c m_Reckoner_placeOf) 97 = .ok (.getfield 128, 3) := by decide +kernel
theorem d_Reckoner_placeOf_100 : decode (m_c m_Reckoner_placeOf) 100 = .ok (.ireturn, 1) := by decide +kernel
def p_Reckoner_placeOf_81   (s0 : Int) (f g : q_F) : Option (Int × q_F × q_F) :=
  some (s0, f, g)
def p_Reckoner_placeOf_58   (a4 : Nat) (s0 : Int) (f g : q_F) : Option (Int × q_F × q_F) :=
  if 28 ≤ a4 ∧ a4 < 36 then
    (p_Section_isKnown (a4) f g).bind fun x1 =>
    if q_sw x1.1 = 0 then
      p_Reckoner_placeOf_81   (-1000000000) x1.2.1 x1.2.2
    else
      p_Reckoner_placeOf_81   (s0 + (x1.2.1 a4 10)) x1.2.1 x1.2.2
  else none
def p_Reckoner_placeOf_36   (v1 : Int) (a4 : Nat) (f g : q_F) : Option (Int × q_F × q_F) :=
  if 28 ≤ a4 ∧ a4 < 36 then
    if q_sw (f a4 6) = q_sw v1 then
      p_Reckoner_placeOf_58   (a4) (f a4 9) f g
    else
      p_Reckoner_placeOf_58   (a4) (f a4 11) f g
  else none
def p_Reckoner_placeOf_4   : Nat → Int → Int → q_F → q_F → Option (Int × q_F × q_F)
  | 0, _, _, _, _ => none
  | n + 1, v1, v3, f, g =>
    if q_sw v3 < 0 then
      if 0 ≤ v1 ∧ v1 < 4 then
        some (f (24 + Int.toNat v1) 1, f, g)
      else none
    else
      (p_Plan_sectionAt (v3) f g).bind fun x3 =>
      if 28 ≤ x3.1 ∧ x3.1 < 36 then
        if q_sw (x3.2.1 x3.1 6) = q_sw v1 then
          p_Reckoner_placeOf_36   (v1) (x3.1) x3.2.1 x3.2.2
        else
          if q_sw (x3.2.1 x3.1 8) = q_sw v1 then
            p_Reckoner_placeOf_36   (v1) (x3.1) x3.2.1 x3.2.2
          else
            q_let (v3 + (-1)) fun z8 =>
            (p_Reckoner_placeOf_4   n) (v1) (z8) x3.2.1 x3.2.2
      else none
def p_Reckoner_placeOf  (v1 : Int) (v2 : Int) (f g : q_F) : Option (Int × q_F × q_F) :=
  q_let (v2 - 1) fun z1 =>
  p_Reckoner_placeOf_4   1000 (v1) (z1) f g
theorem e_Reckoner_placeOf_81 (t : q_V) (ok : ma_ok (q_G t))  {Q : Option Value → ma_H → Prop} {y : Int × q_F × q_F} (hQ : Q (some (ma_i y.1)) (q_h y.2.1 y.2.2))   (s0 : Int) (f g : q_F) (hp : p_Reckoner_placeOf_81   s0 f g = some y) : ma_Ev (q_G t) 1 21 0 0 m_Reckoner_placeOf 81 [] [ma_i (s0)] (q_h f g) (ma_zr (q_G t) false Q) := by
  unfold p_Reckoner_placeOf_81 at hp
  cases Option.some.inj hp
  exact et_iret (pc := 81) d_Reckoner_placeOf_81 rfl hQ
theorem e_Reckoner_placeOf_58 (t : q_V) (ok : ma_ok (q_G t))  {Q : Option Value → ma_H → Prop} {y : Int × q_F × q_F} (hQ : Q (some (ma_i y.1)) (q_h y.2.1 y.2.2))   (a4 : Nat) (s0 : Int) (f g : q_F) (hp : p_Reckoner_placeOf_58   a4 s0 f g = some y) : ma_Ev (q_G t) 1 21 0 0 m_Reckoner_placeOf 58 [(4, q_a t (a4))] [ma_i (s0)] (q_h f g) (ma_zr (q_G t) false Q) := by
  unfold p_Reckoner_placeOf_58 at hp
  replace hp := q_if hp
  obtain ⟨hb_a4, hp⟩ := hp
  refine ev_istore (pc := 58) d_Reckoner_placeOf_58 (by decide) [(5, _), (4, _)] rfl ?_
  refine et_aload (pc := 60) d_Reckoner_placeOf_60 rfl ?_
  replace hp := q_bind hp
  obtain ⟨x1, hm2, hp⟩ := hp
  refine et_callVi (pc := 62) (f1 := x1.2.1) (g1 := x1.2.2) ok [] [] (cf_Reckoner_48 t) d_Reckoner_placeOf_62 (s_28 _ (by omega) (by omega)) k_4 rfl (t_Section_isKnown t ok (a4) f g hm2 ⟨rfl, rfl⟩) rfl rfl (by decide) (by decide) (q_ble rfl) ?_
  refine et_if_eq (pc := 65) (tgt := 79) d_Reckoner_placeOf_65 (by decide) (fun hj3 => ?_) (fun hj3 => ?_)
  · rw [if_pos hj3] at hp
    refine ev_ldc (pc := 79) d_Reckoner_placeOf_79 kc_Reckoner_62 ?_
    refine ev_sub (ls2 := []) [] rfl ?_
    exact e_Reckoner_placeOf_81 t ok  hQ   (-1000000000) x1.2.1 x1.2.2 hp
  · rw [if_neg hj3] at hp
    refine ev_iload (pc := 68) d_Reckoner_placeOf_68 rfl ?_
    refine et_aload (pc := 70) d_Reckoner_placeOf_70 rfl ?_
    refine et_geti (pc := 72) ok (fl_Reckoner_94 t) rfl d_Reckoner_placeOf_72 (s_28 _ (by omega) (by omega)) ?_
    refine ev_iadd (pc := 75) d_Reckoner_placeOf_75 ?_
    refine ev_goto (pc := 76) (tgt := 81) d_Reckoner_placeOf_76 (by decide) ?_
    refine ev_sub (ls2 := []) [] rfl ?_
    exact e_Reckoner_placeOf_81 t ok  hQ   (s0 + (x1.2.1 a4 10)) x1.2.1 x1.2.2 hp
theorem e_Reckoner_placeOf_36 (t : q_V) (ok : ma_ok (q_G t))  {Q : Option Value → ma_H → Prop} {y : Int × q_F × q_F} (hQ : Q (some (ma_i y.1)) (q_h y.2.1 y.2.2))   (v1 : Int) (a4 : Nat) (f g : q_F) (hp : p_Reckoner_placeOf_36   v1 a4 f g = some y) : ma_Ev (q_G t) 1 21 0 0 m_Reckoner_placeOf 36 [(1, ma_i (v1)), (4, q_a t (a4))] [] (q_h f g) (ma_zr (q_G t) false Q) := by
  unfold p_Reckoner_placeOf_36 at hp
  replace hp := q_if hp
  obtain ⟨hb_a4, hp⟩ := hp
  refine et_aload (pc := 36) d_Reckoner_placeOf_36 rfl ?_
  refine et_geti (pc := 38) ok (fl_Reckoner_102 t) rfl d_Reckoner_placeOf_38 (s_28 _ (by omega) (by omega)) ?_
  refine ev_iload_n (pc := 41) d_Reckoner_placeOf_41 rfl rfl ?_
  refine et_icmp_ne (pc := 42) (tgt := 53) d_Reckoner_placeOf_42 (by decide) (fun hj1 => ?_) (fun hj1 => ?_)
  · rw [if_neg hj1] at hp
    refine et_aload (pc := 53) d_Reckoner_placeOf_53 rfl ?_
    refine et_geti (pc := 55) ok (fl_Reckoner_87 t) rfl d_Reckoner_placeOf_55 (s_28 _ (by omega) (by omega)) ?_
    refine ev_sub (ls2 := [(4, q_a t (a4))]) [1] rfl ?_
    exact e_Reckoner_placeOf_58 t ok  hQ   (a4) (f a4 11) f g hp
  · rw [if_pos hj1] at hp
    refine et_aload (pc := 45) d_Reckoner_placeOf_45 rfl ?_
    refine et_geti (pc := 47) ok (fl_Reckoner_84 t) rfl d_Reckoner_placeOf_47 (s_28 _ (by omega) (by omega)) ?_
    refine ev_goto (pc := 50) (tgt := 58) d_Reckoner_placeOf_50 (by decide) ?_
    refine ev_sub (ls2 := [(4, q_a t (a4))]) [1] rfl ?_
    exact e_Reckoner_placeOf_58 t ok  hQ   (a4) (f a4 9) f g hp
theorem e_Reckoner_placeOf_4 (t : q_V) (ok : ma_ok (q_G t))  {Q : Option Value → ma_H → Prop} {y : Int × q_F × q_F} (hQ : Q (some (ma_i y.1)) (q_h y.2.1 y.2.2))   : ∀ (n : Nat) (v1 : Int) (v3 : Int) (f g : q_F), p_Reckoner_placeOf_4   n v1 v3 f g = some y → ma_Ev (q_G t) 1 21 0 0 m_Reckoner_placeOf 4 [(0, q_a t (55)), (1, ma_i (v1)), (3, ma_i (v3))] [] (q_h f g) (ma_zr (q_G t) false Q) := by
  intro n
  induction n with
  | zero =>
    intro v1 v3 f g hp
    rw [p_Reckoner_placeOf_4] at hp
    cases hp
  | succ n ih =>
    intro v1 v3 f g hp
    rw [p_Reckoner_placeOf_4] at hp
    refine ev_iload_n (pc := 4) d_Reckoner_placeOf_4 rfl rfl ?_
    refine et_if_lt (pc := 5) (tgt := 88) d_Reckoner_placeOf_5 (by decide) (fun hj1 => ?_) (fun hj1 => ?_)
    · rw [if_pos hj1] at hp
      refine et_aload_n (pc := 88) d_Reckoner_placeOf_88 rfl rfl ?_
      refine et_getr (pc := 89) ok (fl_Reckoner_19 t) rfl d_Reckoner_placeOf_89 s_55 r_55_0 ?_
      refine et_getr (pc := 92) ok (fl_Reckoner_124 t) rfl d_Reckoner_placeOf_92 s_3 r_3_1 ?_
      refine ev_iload_n (pc := 95) d_Reckoner_placeOf_95 rfl rfl ?_
      replace hp := q_if hp
      obtain ⟨hb2, hp⟩ := hp
      refine et_aald (pc := 96) d_Reckoner_placeOf_96 s_5 hb2 (by decide) (r_5 _ (by omega)) ?_
      refine et_geti (pc := 97) ok (fl_Reckoner_128 t) rfl d_Reckoner_placeOf_97 (s_24 _ (by omega) (by omega)) ?_
      cases Option.some.inj hp
      exact et_iret (pc := 100) d_Reckoner_placeOf_100 rfl hQ
    · rw [if_neg hj1] at hp
      refine et_aload_n (pc := 8) d_Reckoner_placeOf_8 rfl rfl ?_
      refine et_getr (pc := 9) ok (fl_Reckoner_19 t) rfl d_Reckoner_placeOf_9 s_55 r_55_0 ?_
      refine ev_iload_n (pc := 12) d_Reckoner_placeOf_12 rfl rfl ?_
      replace hp := q_bind hp
      obtain ⟨x3, hm4, hp⟩ := hp
      refine et_callVr (pc := 13) (f1 := x3.2.1) (g1 := x3.2.2) ok [ma_i (v3)] [] (cf_Reckoner_44 t) d_Reckoner_placeOf_13 s_3 k_7 rfl (t_Plan_sectionAt t ok (v3) f g hm4 ⟨rfl, rfl⟩) rfl rfl (by decide) (by decide) (q_ble rfl) ?_
      replace hp := q_if hp
      obtain ⟨hb5, hp⟩ := hp
      refine et_astore (pc := 16) d_Reckoner_placeOf_16 (by decide) [(4, _), (0, _), (1, _), (3, _)] rfl ?_
      refine et_aload (pc := 18) d_Reckoner_placeOf_18 rfl ?_
      refine et_geti (pc := 20) ok (fl_Reckoner_102 t) rfl d_Reckoner_placeOf_20 (s_28 _ (by omega) (by omega)) ?_
      refine ev_iload_n (pc := 23) d_Reckoner_placeOf_23 rfl rfl ?_
      refine et_icmp_eq (pc := 24) (tgt := 36) d_Reckoner_placeOf_24 (by decide) (fun hj6 => ?_) (fun hj6 => ?_)
      · rw [if_pos hj6] at hp
        refine ev_sub (ls2 := [(1, ma_i (v1)), (4, q_a t (x3.1))]) [2, 0] rfl ?_
        exact e_Reckoner_placeOf_36 t ok  hQ   (v1) (x3.1) x3.2.1 x3.2.2 hp
      · rw [if_neg hj6] at hp
        refine et_aload (pc := 27) d_Reckoner_placeOf_27 rfl ?_
        refine et_geti (pc := 29) ok (fl_Reckoner_112 t) rfl d_Reckoner_placeOf_29 (s_28 _ (by omega) (by omega)) ?_
        refine ev_iload_n (pc := 32) d_Reckoner_placeOf_32 rfl rfl ?_
        refine et_icmp_ne (pc := 33) (tgt := 82) d_Reckoner_placeOf_33 (by decide) (fun hj7 => ?_) (fun hj7 => ?_)
        · rw [if_neg hj7] at hp
          refine ev_iinc (pc := 82) d_Reckoner_placeOf_82 (by decide) rfl [(3, _), (4, _), (0, _), (1, _)] rfl ?_
          replace hp := q_let_of hp
          obtain ⟨z8, hz, hp⟩ := hp
          rw [← hz]
          clear hz
          refine ev_goto (pc := 85) (tgt := 4) d_Reckoner_placeOf_85 (by decide) ?_
          refine ev_sub (ls2 := [(0, q_a t (55)), (1, ma_i (v1)), (3, ma_i (z8))]) [2, 3, 0] rfl ?_
          exact ih (v1) (z8) x3.2.1 x3.2.2 hp
        · rw [if_pos hj7] at hp
          refine ev_sub (ls2 := [(1, ma_i (v1)), (4, q_a t (x3.1))]) [2, 0] rfl ?_
          exact e_Reckoner_placeOf_36 t ok  hQ   (v1) (x3.1) x3.2.1 x3.2.2 hp
theorem t_Reckoner_placeOf (t : q_V) (ok : ma_ok (q_G t))  {Q : Option Value → ma_H → Prop} {y : Int × q_F × q_F} (v1 : Int) (v2 : Int) (f g : q_F) (hp : p_Reckoner_placeOf  v1 v2 f g = some y) (hQ : Q (some (ma_i y.1)) (q_h y.2.1 y.2.2)) : ma_Met (q_G t) false 1 21 0 0 m_Reckoner_placeOf [q_a t (55), ma_i (v1), ma_i (v2)] (q_h f g) Q := by
  refine ma_met (by decide +kernel) (q_ble rfl) rfl ?_
  change ma_Ev (q_G t) 1 21 0 0 m_Reckoner_placeOf 0 [(0, q_a t (55)), (1, ma_i (v1)), (2, ma_i (v2))] [] (q_h f g) (ma_zr (q_G t) false Q)
  unfold p_Reckoner_placeOf at hp
  refine ev_iload_n (pc := 0) d_Reckoner_placeOf_0 rfl rfl ?_
  refine ev_iconst (pc := 1) d_Reckoner_placeOf_1 ?_
  refine ev_isub (pc := 2) d_Reckoner_placeOf_2 ?_
  refine ev_istore_n (pc := 3) d_Reckoner_placeOf_3 rfl (by decide) [(3, _), (0, _), (1, _), (2, _)] rfl ?_
  replace hp := q_let_of hp
  obtain ⟨z1, hz, hp⟩ := hp
  rw [← hz]
  clear hz
  refine ev_sub (ls2 := [(0, q_a t (55)), (1, ma_i (v1)), (3, ma_i (z1))]) [1, 2, 0] rfl ?_
  exact e_Reckoner_placeOf_4 t ok  hQ   1000 (v1) (z1) f g hp
theorem d_Reckoner_greatestAlignment_0 : decode (m_c m_Reckoner_greatestAlignment) 0 = .ok (.iconst 1, 1) := by decide +kernel
theorem d_Reckoner_greatestAlignment_1 : decode (m_c m_Reckoner_greatestAlignment) 1 = .ok (.istore_n 2, 1) := by decide +kernel
theorem d_Reckoner_greatestAlignment_2 : decode (m_c m_Reckoner_greatestAlignment) 2 = .ok (.aload_n 1, 1) := by decide +kernel
theorem d_Reckoner_greatestAlignment_3 : decode (m_c m_Reckoner_greatestAlignment) 3 = .ok (.getfield 133, 3) := by decide +kernel
theorem d_Reckoner_greatestAlignment_6 : decode (m_c m_Reckoner_greatestAlignment) 6 = .ok (.istore_n 3, 1) := by decide +kernel
theorem d_Reckoner_greatestAlignment_7 : decode (m_c m_Reckoner_greatestAlignment) 7 = .ok (.iload_n 3, 1) := by decide +kernel
theorem d_Reckoner_greatestAlignment_8 : decode (m_c m_Reckoner_greatestAlignment) 8 = .ok (.aload_n 1, 1) := by decide +kernel
theorem d_Reckoner_greatestAlignment_9 : decode (m_c m_Reckoner_greatestAlignment) 9 = .ok (.getfield 136, 3) := by decide +kernel
theorem d_Reckoner_greatestAlignment_12 : decode (m_c m_Reckoner_greatestAlignment) 12 = .ok (.if_icmp .ge 82, 3) := by decide +kernel
theorem d_Reckoner_greatestAlignment_15 : decode (m_c m_Reckoner_greatestAlignment) 15 = .ok (.aload_n 0, 1) := by decide +kernel
theorem d_Reckoner_greatestAlignment_16 : decode (m_c m_Reckoner_greatestAlignment) 16 = .ok (.getfield 19, 3) := by decide +kernel
theorem d_Reckoner_greatestAlignment_19 : decode (m_c m_Reckoner_greatestAlignment) 19 = .ok (.getfield 139, 3) := by decide +kernel
theorem d_Reckoner_greatestAlignment_22 : decode (m_c m_Reckoner_greatestAlignment) 22 = .ok (.getfield 143, 3) := by decide +kernel
theorem d_Reckoner_greatestAlignment_25 : decode (m_c m_Reckoner_greatestAlignment) 25 = .ok (.iload_n 3, 1) := by decide +kernel
theorem d_Reckoner_greatestAlignment_26 : decode (m_c m_Reckoner_greatestAlignment) 26 = .ok (.iaload, 1) := by decide +kernel
theorem d_Reckoner_greatestAlignment_27 : decode (m_c m_Reckoner_greatestAlignment) 27 = .ok (.istore 4, 2) := by decide +kernel
theorem d_Reckoner_greatestAlignment_29 : decode (m_c m_Reckoner_greatestAlignment) 29 = .ok (.aload_n 0, 1) := by decide +kernel
theorem d_Reckoner_greatestAlignment_30 : decode (m_c m_Reckoner_greatestAlignment) 30 = .ok (.getfield 19, 3) := by decide +kernel
theorem d_Reckoner_greatestAlignment_33 : decode (m_c m_Reckoner_greatestAlignment) 33 = .ok (.getfield 139, 3) := by decide +kernel
theorem d_Reckoner_greatestAlignment_36 : decode (m_c m_Reckoner_greatestAlignment) 36 = .ok (.getfield 148, 3) := by decide +kernel
theorem d_Reckoner_greatestAlignment_39 : decode (m_c m_Reckoner_greatestAlignment) 39 = .ok (.iload_n 3, 1) := by decide +kernel
theorem d_Reckoner_greatestAlignment_40 : decode (m_c m_Reckoner_greatestAlignment) 40 = .ok (.iaload, 1) := by decide +kernel
theorem d_Reckoner_greatestAlignment_41 : decode (m_c m_Reckoner_greatestAlignment) 41 = .ok (.ifCond .ne 24, 3) := by decide +kernel
theorem d_Reckoner_greatestAlignment_44 : decode (m_c m_Reckoner_greatestAlignment) 44 = .ok (.iload_n 2, 1) := by decide +kernel
theorem d_Reckoner_greatestAlignment_45 : decode (m_c m_Reckoner_greatestAlignment) 45 = .ok (.aload_n 0, 1) := by decide +kernel
theorem d_Reckoner_greatestAlignment_46 : decode (m_c m_Reckoner_greatestAlignment) 46 = .ok (.getfield 19, 3) := by decide +kernel
theorem d_Reckoner_greatestAlignment_49 : decode (m_c m_Reckoner_greatestAlignment) 49 = .ok (.getfield 151, 3) := by decide +kernel
theorem d_Reckoner_greatestAlignment_52 : decode (m_c m_Reckoner_greatestAlignment) 52 = .ok (.iload 4, 2) := by decide +kernel
theorem d_Reckoner_greatestAlignment_54 : decode (m_c m_Reckoner_greatestAlignment) 54 = .ok (.aaload, 1) := by decide +kernel
theorem d_Reckoner_greatestAlignment_55 : decode (m_c m_Reckoner_greatestAlignment) 55 = .ok (.getfield 155, 3) := by decide +kernel
theorem d_Reckoner_greatestAlignment_58 : decode (m_c m_Reckoner_greatestAlignment) 58 = .ok (.invokestatic 160, 3) := by decide +kernel
theorem d_Reckoner_greatestAlignment_61 : decode (m_c m_Reckoner_greatestAlignment) 61 = .ok (.istore_n 2, 1) := by decide +kernel
theorem d_Reckoner_greatestAlignment_62 : decode (m_c m_Reckoner_greatestAlignment) 62 = .ok (.goto 26, 3) := by decide +kernel
theorem d_Reckoner_greatestAlignment_65 : decode (m_c m_Reckoner_greatestAlignment) 65 = .ok (.aload_n 0, 1) := by decide +kernel
theorem d_Reckoner_greatestAlignment_66 : decode (m_c m_Reckoner_greatestAlignment) 66 = .ok (.getfield 19, 3) := by decide +kernel
theorem d_Reckoner_greatestAlignment_69 : decode (m_c m_Reckoner_greatestAlignment) 69 = .ok (.getfield 139, 3) := by decide +kernel
theorem d_Reckoner_greatestAlignment_72 : decode (m_c m_Reckoner_greatestAlignment) 72 = .ok (.getfield 148, 3) := by decide +kernel
theorem d_Reckoner_greatestAlignment_75 : decode (m_c m_Reckoner_greatestAlignment) 75 = .ok (.iload_n 3, 1) := by decide +kernel
theorem d_Reckoner_greatestAlignment_76 : decode (m_c m_Reckoner_greatestAlignment) 76 = .ok (.iaload, 1) := by decide +kernel
theorem d_Reckoner_greatestAlignment_77 : decode (m_c m_Reckoner_greatestAlignment) 77 = .ok (.iconst 1, 1) := by decide +kernel
theorem d_Reckoner_greatestAlignment_78 : decode (m_c m_Reckoner_greatestAlignment) 78 = .ok (.if_icmp .ne 10, 3) := by decide +kernel
theorem d_Reckoner_greatestAlignment_81 : decode (m_c m_Reckoner_greatestAlignment) 81 = .ok (.iload_n 2, 1) := by decide +kernel
theorem d_Reckoner_greatestAlignment_82 : decode (m_c m_Reckoner_greatestAlignment) 82 = .ok (.iload 4, 2) := by decide +kernel
theorem d_Reckoner_greatestAlignment_84 : decode (m_c m_Reckoner_greatestAlignment) 84 = .ok (.invokestatic 160, 3) := by decide +kernel
theorem d_Reckoner_greatestAlignment_87 : decode (m_c m_Reckoner_greatestAlignment) 87 = .ok (.istore_n 2, 1) := by decide +kernel
theorem d_Reckoner_greatestAlignment_88 : decode (m_c m_Reckoner_greatestAlignment) 88 = .ok (.iinc 3 1, 3) := by decide +kernel
theorem d_Reckoner_greatestAlignment_91 : decode (m_c m_Reckoner_greatestAlignment) 91 = .ok (.goto (-84), 3) := by decide +kernel
theorem d_Reckoner_greatestAlignment_94 : decode (m_c m_Reckoner_greatestAlignment) 94 = .ok (.iload_n 2, 1) := by decide +kernel
theorem d_Reckoner_greatestAlignment_95 : decode (m_c m_Reckoner_greatestAlignment) 95 = .ok (.ireturn, 1) := by decide +kernel
def p_Reckoner_greatestAlignment_88  (c7 : Nat → Int → Int → q_F → q_F → Option (Int × q_F × q_F)) (a1 : Nat) (v2 : Int) (v3 : Int) (f g : q_F) : Option (Int × q_F × q_F) :=
  if 28 ≤ a1 ∧ a1 < 36 then
    q_let (v3 + 1) fun z1 =>
    c7 (a1) (v2) (z1) f g
  else none
def p_Reckoner_greatestAlignment_7   : Nat → Nat → Int → Int → q_F → q_F → Option (Int × q_F × q_F)
  | 0, _, _, _, _, _ => none
  | n + 1, a1, v2, v3, f, g =>
    if 28 ≤ a1 ∧ a1 < 36 then
      if q_sw (f a1 5) ≤ q_sw v3 then
        some (v2, f, g)
      else
        if 0 ≤ v3 ∧ v3 < 160 then
          q_let (f 10 (Int.toNat v3)) fun z3 =>
          if 0 ≤ v3 ∧ v3 < 160 then
            if q_sw (f 9 (Int.toNat v3)) = 0 then
              if 0 ≤ z3 ∧ z3 < 8 then
                q_let (q_max v2 (f (16 + Int.toNat z3) 1)) fun z10 =>
                p_Reckoner_greatestAlignment_88  (p_Reckoner_greatestAlignment_7   n) (a1) (z10) (v3) f g
              else none
            else
              if 0 ≤ v3 ∧ v3 < 160 then
                if q_sw (f 9 (Int.toNat v3)) = q_sw 1 then
                  q_let (q_max v2 z3) fun z8 =>
                  p_Reckoner_greatestAlignment_88  (p_Reckoner_greatestAlignment_7   n) (a1) (z8) (v3) f g
                else
                  p_Reckoner_greatestAlignment_88  (p_Reckoner_greatestAlignment_7   n) (a1) (v2) (v3) f g
              else none
          else none
        else none
    else none
def p_Reckoner_greatestAlignment  (a1 : Nat) (f g : q_F) : Option (Int × q_F × q_F) :=
  if 28 ≤ a1 ∧ a1 < 36 then
    q_let (f a1 4) fun z1 =>
    p_Reckoner_greatestAlignment_7   1000 (a1) (1) (z1) f g
  else none
theorem e_Reckoner_greatestAlignment_88 (t : q_V) (ok : ma_ok (q_G t))  {Q : Option Value → ma_H → Prop} {y : Int × q_F × q_F} (hQ : Q (some (ma_i y.1)) (q_h y.2.1 y.2.2)) (c7 : Nat → Int → Int → q_F → q_F → Option (Int × q_F × q_F)) (hc7 : ∀ (a1 : Nat) (v2 : Int) (v3 : Int) (f g : q_F), c7 a1 v2 v3 f g = some y → ma_Ev (q_G t) 1 21 0 0 m_Reckoner_greatestAlignment 7 [(0, q_a t (55)), (1, q_a t (a1)), (2, ma_i (v2)), (3, ma_i (v3))] [] (q_h f g) (ma_zr (q_G t) false Q)) (a1 : Nat) (v2 : Int) (v3 : Int) (f g : q_F) (hp : p_Reckoner_greatestAlignment_88  c7 a1 v2 v3 f g = some y) : ma_Ev (q_G t) 1 21 0 0 m_Reckoner_greatestAlignment 88 [(0, q_a t (55)), (1, q_a t (a1)), (2, ma_i (v2)), (3, ma_i (v3))] [] (q_h f g) (ma_zr (q_G t) false Q) := by
  unfold p_Reckoner_greatestAlignment_88 at hp
  replace hp := q_if hp
  obtain ⟨hb_a1, hp⟩ := hp
  refine ev_iinc (pc := 88) d_Reckoner_greatestAlignment_88 (by decide) rfl [(3, _), (0, _), (1, _), (2, _)] rfl ?_
  replace hp := q_let_of hp
  obtain ⟨z1, hz, hp⟩ := hp
  rw [← hz]
  clear hz
  refine ev_goto (pc := 91) (tgt := 7) d_Reckoner_greatestAlignment_91 (by decide) ?_
  refine ev_sub (ls2 := [(0, q_a t (55)), (1, q_a t (a1)), (2, ma_i (v2)), (3, ma_i (z1))]) [1, 2, 3, 0] rfl ?_
  exact hc7 (a1) (v2) (z1) f g hp
theorem e_Reckoner_greatestAlignment_7 (t : q_V) (ok : ma_ok (q_G t))  {Q : Option Value → ma_H → Prop} {y : Int × q_F × q_F} (hQ : Q (some (ma_i y.1)) (q_h y.2.1 y.2.2))   : ∀ (n : Nat) (a1 : Nat) (v2 : Int) (v3 : Int) (f g : q_F), p_Reckoner_greatestAlignment_7   n a1 v2 v3 f g = some y → ma_Ev (q_G t) 1 21 0 0 m_Reckoner_greatestAlignment 7 [(0, q_a t (55)), (1, q_a t (a1)), (2, ma_i (v2)), (3, ma_i (v3))] [] (q_h f g) (ma_zr (q_G t) false Q) := by
  intro n
  induction n with
  | zero =>
    intro a1 v2 v3 f g hp
    rw [p_Reckoner_greatestAlignment_7] at hp
    cases hp
  | succ n ih =>
    intro a1 v2 v3 f g hp
    rw [p_Reckoner_greatestAlignment_7] at hp
    replace hp := q_if hp
    obtain ⟨hb_a1, hp⟩ := hp
    refine ev_iload_n (pc := 7) d_Reckoner_greatestAlignment_7 rfl rfl ?_
    refine et_aload_n (pc := 8) d_Reckoner_greatestAlignment_8 rfl rfl ?_
    refine et_geti (pc := 9) ok (fl_Reckoner_136 t) rfl d_Reckoner_greatestAlignment_9 (s_28 _ (by omega) (by omega)) ?_
    refine et_icmp_ge (pc := 12) (tgt := 94) d_Reckoner_greatestAlignment_12 (by decide) (fun hj1 => ?_) (fun hj1 => ?_)
    · rw [if_pos hj1] at hp
      refine ev_iload_n (pc := 94) d_Reckoner_greatestAlignment_94 rfl rfl ?_
      cases Option.some.inj hp
      exact et_iret (pc := 95) d_Reckoner_greatestAlignment_95 rfl hQ
    · rw [if_neg hj1] at hp
      refine et_aload_n (pc := 15) d_Reckoner_greatestAlignment_15 rfl rfl ?_
      refine et_getr (pc := 16) ok (fl_Reckoner_19 t) rfl d_Reckoner_greatestAlignment_16 s_55 r_55_0 ?_
      refine et_getr (pc := 19) ok (fl_Reckoner_139 t) rfl d_Reckoner_greatestAlignment_19 s_3 r_3_4 ?_
      refine et_getr (pc := 22) ok (fl_Reckoner_143 t) rfl d_Reckoner_greatestAlignment_22 s_8 r_8_1 ?_
      refine ev_iload_n (pc := 25) d_Reckoner_greatestAlignment_25 rfl rfl ?_
      replace hp := q_if hp
      obtain ⟨hb2, hp⟩ := hp
      refine et_iald (pc := 26) d_Reckoner_greatestAlignment_26 s_10 hb2 (by decide) ?_
      refine ev_istore (pc := 27) d_Reckoner_greatestAlignment_27 (by decide) [(4, _), (0, _), (1, _), (2, _), (3, _)] rfl ?_
      replace hp := q_let_of hp
      obtain ⟨z3, hz, hp⟩ := hp
      rw [← hz]
      clear hz
      refine et_aload_n (pc := 29) d_Reckoner_greatestAlignment_29 rfl rfl ?_
      refine et_getr (pc := 30) ok (fl_Reckoner_19 t) rfl d_Reckoner_greatestAlignment_30 s_55 r_55_0 ?_
      refine et_getr (pc := 33) ok (fl_Reckoner_139 t) rfl d_Reckoner_greatestAlignment_33 s_3 r_3_4 ?_
      refine et_getr (pc := 36) ok (fl_Reckoner_148 t) rfl d_Reckoner_greatestAlignment_36 s_8 r_8_0 ?_
      refine ev_iload_n (pc := 39) d_Reckoner_greatestAlignment_39 rfl rfl ?_
      replace hp := q_if hp
      obtain ⟨hb4, hp⟩ := hp
      refine et_iald (pc := 40) d_Reckoner_greatestAlignment_40 s_9 hb4 (by decide) ?_
      refine et_if_ne (pc := 41) (tgt := 65) d_Reckoner_greatestAlignment_41 (by decide) (fun hj5 => ?_) (fun hj5 => ?_)
      · rw [if_neg hj5] at hp
        refine et_aload_n (pc := 65) d_Reckoner_greatestAlignment_65 rfl rfl ?_
        refine et_getr (pc := 66) ok (fl_Reckoner_19 t) rfl d_Reckoner_greatestAlignment_66 s_55 r_55_0 ?_
        refine et_getr (pc := 69) ok (fl_Reckoner_139 t) rfl d_Reckoner_greatestAlignment_69 s_3 r_3_4 ?_
        refine et_getr (pc := 72) ok (fl_Reckoner_148 t) rfl d_Reckoner_greatestAlignment_72 s_8 r_8_0 ?_
        refine ev_iload_n (pc := 75) d_Reckoner_greatestAlignment_75 rfl rfl ?_
        replace hp := q_if hp
        obtain ⟨hb6, hp⟩ := hp
        refine et_iald (pc := 76) d_Reckoner_greatestAlignment_76 s_9 hb6 (by decide) ?_
        refine ev_iconst (pc := 77) d_Reckoner_greatestAlignment_77 ?_
        refine et_icmp_ne (pc := 78) (tgt := 88) d_Reckoner_greatestAlignment_78 (by decide) (fun hj7 => ?_) (fun hj7 => ?_)
        · rw [if_neg hj7] at hp
          refine ev_sub (ls2 := [(0, q_a t (55)), (1, q_a t (a1)), (2, ma_i (v2)), (3, ma_i (v3))]) [1, 2, 3, 4] rfl ?_
          exact e_Reckoner_greatestAlignment_88 t ok  hQ (p_Reckoner_greatestAlignment_7   n) ih (a1) (v2) (v3) f g hp
        · rw [if_pos hj7] at hp
          refine ev_iload_n (pc := 81) d_Reckoner_greatestAlignment_81 rfl rfl ?_
          refine ev_iload (pc := 82) d_Reckoner_greatestAlignment_82 rfl ?_
          refine et_max (pc := 84) d_Reckoner_greatestAlignment_84 rfl (by decide) (q_ble rfl) ?_
          refine ev_istore_n (pc := 87) d_Reckoner_greatestAlignment_87 rfl (by decide) [(2, _), (4, _), (0, _), (1, _), (3, _)] rfl ?_
          replace hp := q_let_of hp
          obtain ⟨z8, hz, hp⟩ := hp
          rw [← hz]
          clear hz
          refine ev_sub (ls2 := [(0, q_a t (55)), (1, q_a t (a1)), (2, ma_i (z8)), (3, ma_i (v3))]) [2, 3, 0, 4] rfl ?_
          exact e_Reckoner_greatestAlignment_88 t ok  hQ (p_Reckoner_greatestAlignment_7   n) ih (a1) (z8) (v3) f g hp
      · rw [if_pos hj5] at hp
        refine ev_iload_n (pc := 44) d_Reckoner_greatestAlignment_44 rfl rfl ?_
        refine et_aload_n (pc := 45) d_Reckoner_greatestAlignment_45 rfl rfl ?_
        refine et_getr (pc := 46) ok (fl_Reckoner_19 t) rfl d_Reckoner_greatestAlignment_46 s_55 r_55_0 ?_
        refine et_getr (pc := 49) ok (fl_Reckoner_151 t) rfl d_Reckoner_greatestAlignment_49 s_3 r_3_0 ?_
        refine ev_iload (pc := 52) d_Reckoner_greatestAlignment_52 rfl ?_
        replace hp := q_if hp
        obtain ⟨hb9, hp⟩ := hp
        refine et_aald (pc := 54) d_Reckoner_greatestAlignment_54 s_4 hb9 (by decide) (r_4 _ (by omega)) ?_
        refine et_geti (pc := 55) ok (fl_Reckoner_155 t) rfl d_Reckoner_greatestAlignment_55 (s_16 _ (by omega) (by omega)) ?_
        refine et_max (pc := 58) d_Reckoner_greatestAlignment_58 rfl (by decide) (q_ble rfl) ?_
        refine ev_istore_n (pc := 61) d_Reckoner_greatestAlignment_61 rfl (by decide) [(2, _), (4, _), (0, _), (1, _), (3, _)] rfl ?_
        replace hp := q_let_of hp
        obtain ⟨z10, hz, hp⟩ := hp
        rw [← hz]
        clear hz
        refine ev_goto (pc := 62) (tgt := 88) d_Reckoner_greatestAlignment_62 (by decide) ?_
        refine ev_sub (ls2 := [(0, q_a t (55)), (1, q_a t (a1)), (2, ma_i (z10)), (3, ma_i (v3))]) [2, 3, 0, 4] rfl ?_
        exact e_Reckoner_greatestAlignment_88 t ok  hQ (p_Reckoner_greatestAlignment_7   n) ih (a1) (z10) (v3) f g hp
theorem t_Reckoner_greatestAlignment (t : q_V) (ok : ma_ok (q_G t))  {Q : Option Value → ma_H → Prop} {y : Int × q_F × q_F} (a1 : Nat) (f g : q_F) (hp : p_Reckoner_greatestAlignment  a1 f g = some y) (hQ : Q (some (ma_i y.1)) (q_h y.2.1 y.2.2)) : ma_Met (q_G t) false 1 21 0 0 m_Reckoner_greatestAlignment [q_a t (55), q_a t (a1)] (q_h f g) Q := by
  refine ma_met (by decide +kernel) (q_ble rfl) rfl ?_
  change ma_Ev (q_G t) 1 21 0 0 m_Reckoner_greatestAlignment 0 [(0, q_a t (55)), (1, q_a t (a1))] [] (q_h f g) (ma_zr (q_G t) false Q)
  unfold p_Reckoner_greatestAlignment at hp
  replace hp := q_if hp
  obtain ⟨hb_a1, hp⟩ := hp
  refine ev_iconst (pc := 0) d_Reckoner_greatestAlignment_0 ?_
  refine ev_istore_n (pc := 1) d_Reckoner_greatestAlignment_1 rfl (by decide) [(2, _), (0, _), (1, _)] rfl ?_
  refine et_aload_n (pc := 2) d_Reckoner_greatestAlignment_2 rfl rfl ?_
  refine et_geti (pc := 3) ok (fl_Reckoner_133 t) rfl d_Reckoner_greatestAlignment_3 (s_28 _ (by omega) (by omega)) ?_
  refine ev_istore_n (pc := 6) d_Reckoner_greatestAlignment_6 rfl (by decide) [(3, _), (2, _), (0, _), (1, _)] rfl ?_
  replace hp := q_let_of hp
  obtain ⟨z1, hz, hp⟩ := hp
  rw [← hz]
  clear hz
  refine ev_sub (ls2 := [(0, q_a t (55)), (1, q_a t (a1)), (2, ma_i (1)), (3, ma_i (z1))]) [2, 3, 1, 0] rfl ?_
  exact e_Reckoner_greatestAlignment_7 t ok  hQ   1000 (a1) (1) (z1) f g hp
theorem d_Reckoner_raisedPlaceOf_0 : decode (m_c m_Reckoner_raisedPlaceOf) 0 = .ok (.aload_n 0, 1) := by decide +kernel
theorem d_Reckoner_raisedPlaceOf_1 : decode (m_c m_Reckoner_raisedPlaceOf) 1 = .ok (.iload_n 1, 1) := by decide +kernel
theorem d_Reckoner_raisedPlaceOf_2 : decode (m_c m_Reckoner_raisedPlaceOf) 2 = .ok (.iload_n 3, 1) := by decide +kernel
theorem d_Reckoner_raisedPlaceOf_3 : decode (m_c m_Reckoner_raisedPlaceOf) 3 = .ok (.invokevirtual 115, 3) := by decide +kernel
theorem d_Reckoner_raisedPlaceOf_6 : decode (m_c m_Reckoner_raisedPlaceOf) 6 = .ok (.istore 4, 2) := by decide +kernel
theorem d_Reckoner_raisedPlaceOf_8 : decode (m_c m_Reckoner_raisedPlaceOf) 8 = .ok (.iload 4, 2) := by decide +kernel
theorem d_Reckoner_raisedPlaceOf_10 : decode (m_c m_Reckoner_raisedPlaceOf) 10 = .ok (.ldc 62, 2) := by decide +kernel
theorem d_Reckoner_raisedPlaceOf_12 : decode (m_c m_Reckoner_raisedPlaceOf) 12 = .ok (.if_icmp .ne 8, 3) := by decide +kernel
theorem d_Reckoner_raisedPlaceOf_15 : decode (m_c m_Reckoner_raisedPlaceOf) 15 = .ok (.ldc 62, 2) := by decide +kernel
theorem d_Reckoner_raisedPlaceOf_17 : decode (m_c m_Reckoner_raisedPlaceOf) 17 = .ok (.goto 13, 3) := by decide +kernel
theorem d_Reckoner_raisedPlaceOf_20 : decode (m_c m_Reckoner_raisedPlaceOf) 20 = .ok (.iload 4, 2) := by decide +kernel
theorem d_Reckoner_raisedPlaceOf_22 : decode (m_c m_Reckoner_raisedPlaceOf) 22 = .ok (.aload_n 0, 1) := by decide +kernel
theorem d_Reckoner_raisedPlaceOf_23 : decode (m_c m_Reckoner_raisedPlaceOf) 23 = .ok (.aload_n 2, 1) := by decide +kernel
theorem d_Reckoner_raisedPlaceOf_24 : decode (m_c m_Reckoner_raisedPlaceOf) 24 = .ok (.invokevirtual 118, 3) := by decide +kernel
theorem d_Reckoner_raisedPlaceOf_27 : decode (m_c m_Reckoner_raisedPlaceOf) 27 = .ok (.invokestatic 121, 3) := by decide +kernel
theorem d_Reckoner_raisedPlaceOf_30 : decode (m_c m_Reckoner_raisedPlaceOf) 30 = .ok (.ireturn, 1) := by decide +kernel
def p_Reckoner_raisedPlaceOf_30   (s0 : Int) (f g : q_F) : Option (Int × q_F × q_F) :=
  some (s0, f, g)
def p_Reckoner_raisedPlaceOf  (v1 : Int) (a2 : Nat) (v3 : Int) (f g : q_F) : Option (Int × q_F × q_F) :=
  if 28 ≤ a2 ∧ a2 < 36 then
    (p_Reckoner_placeOf (v1) (v3) f g).bind fun x1 =>
    if q_sw x1.1 = q_sw (-1000000000) then
      p_Reckoner_raisedPlaceOf_30   (-1000000000) x1.2.1 x1.2.2
    else
      (p_Reckoner_greatestAlignment (a2) x1.2.1 x1.2.2).bind fun x4 =>
      (p_Desk_raise (x1.1) (x4.1) x4.2.1 x4.2.2).bind fun x6 =>
      p_Reckoner_raisedPlaceOf_30   (x6.1) x6.2.1 x6.2.2
  else none
theorem e_Reckoner_raisedPlaceOf_30 (t : q_V) (ok : ma_ok (q_G t))  {Q : Option Value → ma_H → Prop} {y : Int × q_F × q_F} (hQ : Q (some (ma_i y.1)) (q_h y.2.1 y.2.2))   (s0 : Int) (f g : q_F) (hp : p_Reckoner_raisedPlaceOf_30   s0 f g = some y) : ma_Ev (q_G t) 2 46 0 0 m_Reckoner_raisedPlaceOf 30 [] [ma_i (s0)] (q_h f g) (ma_zr (q_G t) false Q) := by
  unfold p_Reckoner_raisedPlaceOf_30 at hp
  cases Option.some.inj hp
  exact et_iret (pc := 30) d_Reckoner_raisedPlaceOf_30 rfl hQ
theorem t_Reckoner_raisedPlaceOf (t : q_V) (ok : ma_ok (q_G t))  {Q : Option Value → ma_H → Prop} {y : Int × q_F × q_F} (v1 : Int) (a2 : Nat) (v3 : Int) (f g : q_F) (hp : p_Reckoner_raisedPlaceOf  v1 a2 v3 f g = some y) (hQ : Q (some (ma_i y.1)) (q_h y.2.1 y.2.2)) : ma_Met (q_G t) false 2 46 0 0 m_Reckoner_raisedPlaceOf [q_a t (55), ma_i (v1), q_a t (a2), ma_i (v3)] (q_h f g) Q := by
  refine ma_met (by decide +kernel) (q_ble rfl) rfl ?_
  change ma_Ev (q_G t) 2 46 0 0 m_Reckoner_raisedPlaceOf 0 [(0, q_a t (55)), (1, ma_i (v1)), (2, q_a t (a2)), (3, ma_i (v3))] [] (q_h f g) (ma_zr (q_G t) false Q)
  unfold p_Reckoner_raisedPlaceOf at hp
  replace hp := q_if hp
  obtain ⟨hb_a2, hp⟩ := hp
  refine et_aload_n (pc := 0) d_Reckoner_raisedPlaceOf_0 rfl rfl ?_
  refine ev_iload_n (pc := 1) d_Reckoner_raisedPlaceOf_1 rfl rfl ?_
  refine ev_iload_n (pc := 2) d_Reckoner_raisedPlaceOf_2 rfl rfl ?_
  replace hp := q_bind hp
  obtain ⟨x1, hm2, hp⟩ := hp
  refine et_callVi (pc := 3) (f1 := x1.2.1) (g1 := x1.2.2) ok [ma_i (v1), ma_i (v3)] [] (cf_Reckoner_115 t) d_Reckoner_raisedPlaceOf_3 s_55 k_9 rfl (t_Reckoner_placeOf t ok (v1) (v3) f g hm2 ⟨rfl, rfl⟩) rfl rfl (by decide) (by decide) (q_ble rfl) ?_
  refine ev_istore (pc := 6) d_Reckoner_raisedPlaceOf_6 (by decide) [(4, _), (0, _), (1, _), (2, _), (3, _)] rfl ?_
  refine ev_iload (pc := 8) d_Reckoner_raisedPlaceOf_8 rfl ?_
  refine ev_ldc (pc := 10) d_Reckoner_raisedPlaceOf_10 kc_Reckoner_62 ?_
  refine et_icmp_ne (pc := 12) (tgt := 20) d_Reckoner_raisedPlaceOf_12 (by decide) (fun hj3 => ?_) (fun hj3 => ?_)
  · rw [if_neg hj3] at hp
    refine ev_iload (pc := 20) d_Reckoner_raisedPlaceOf_20 rfl ?_
    refine et_aload_n (pc := 22) d_Reckoner_raisedPlaceOf_22 rfl rfl ?_
    refine et_aload_n (pc := 23) d_Reckoner_raisedPlaceOf_23 rfl rfl ?_
    replace hp := q_bind hp
    obtain ⟨x4, hm5, hp⟩ := hp
    refine et_callVi (pc := 24) (f1 := x4.2.1) (g1 := x4.2.2) ok [q_a t (a2)] [ma_i (x1.1)] (cf_Reckoner_118 t) d_Reckoner_raisedPlaceOf_24 s_55 k_9 rfl (t_Reckoner_greatestAlignment t ok (a2) x1.2.1 x1.2.2 hm5 ⟨rfl, rfl⟩) rfl rfl (by decide) (by decide) (q_ble rfl) ?_
    replace hp := q_bind hp
    obtain ⟨x6, hm7, hp⟩ := hp
    refine et_callSi (pc := 27) (f1 := x6.2.1) (g1 := x6.2.2) ok [ma_i (x1.1), ma_i (x4.1)] [] (cf_Reckoner_121 t) d_Reckoner_raisedPlaceOf_27 (t_Desk_raise t ok (x1.1) (x4.1) x4.2.1 x4.2.2 hm7 ⟨rfl, rfl⟩) rfl rfl (by decide) (by decide) (q_ble rfl) ?_
    refine ev_sub (ls2 := []) [] rfl ?_
    exact e_Reckoner_raisedPlaceOf_30 t ok  hQ   (x6.1) x6.2.1 x6.2.2 hp
  · rw [if_pos hj3] at hp
    refine ev_ldc (pc := 15) d_Reckoner_raisedPlaceOf_15 kc_Reckoner_62 ?_
    refine ev_goto (pc := 17) (tgt := 30) d_Reckoner_raisedPlaceOf_17 (by decide) ?_
    refine ev_sub (ls2 := []) [] rfl ?_
    exact e_Reckoner_raisedPlaceOf_30 t ok  hQ   (-1000000000) x1.2.1 x1.2.2 hp
theorem d_Reckoner_beginOf_0 : decode (m_c m_Reckoner_beginOf) 0 = .ok (.aload_n 1, 1) := by decide +kernel
theorem d_Reckoner_beginOf_1 : decode (m_c m_Reckoner_beginOf) 1 = .ok (.getfield 97, 3) := by decide +kernel
theorem d_Reckoner_beginOf_4 : decode (m_c m_Reckoner_beginOf) 4 = .ok (.ifCond .eq 16, 3) := by decide +kernel
theorem d_Reckoner_beginOf_7 : decode (m_c m_Reckoner_beginOf) 7 = .ok (.aload_n 0, 1) := by decide +kernel
theorem d_Reckoner_beginOf_8 : decode (m_c m_Reckoner_beginOf) 8 = .ok (.aload_n 1, 1) := by decide +kernel
theorem d_Reckoner_beginOf_9 : decode (m_c m_Reckoner_beginOf) 9 = .ok (.getfield 100, 3) := by decide +kernel
theorem d_Reckoner_beginOf_12 : decode (m_c m_Reckoner_beginOf) 12 = .ok (.aload_n 1, 1) := by decide +kernel
theorem d_Reckoner_beginOf_13 : decode (m_c m_Reckoner_beginOf) 13 = .ok (.getfield 101, 3) := by decide +kernel
theorem d_Reckoner_beginOf_16 : decode (m_c m_Reckoner_beginOf) 16 = .ok (.invokevirtual 72, 3) := by decide +kernel
theorem d_Reckoner_beginOf_19 : decode (m_c m_Reckoner_beginOf) 19 = .ok (.ireturn, 1) := by decide +kernel
theorem d_Reckoner_beginOf_20 : decode (m_c m_Reckoner_beginOf) 20 = .ok (.aload_n 0, 1) := by decide +kernel
theorem d_Reckoner_beginOf_21 : decode (m_c m_Reckoner_beginOf) 21 = .ok (.aload_n 1, 1) := by decide +kernel
theorem d_Reckoner_beginOf_22 : decode (m_c m_Reckoner_beginOf) 22 = .ok (.getfield 102, 3) := by decide +kernel
theorem d_Reckoner_beginOf_25 : decode (m_c m_Reckoner_beginOf) 25 = .ok (.aload_n 1, 1) := by decide +kernel
theorem d_Reckoner_beginOf_26 : decode (m_c m_Reckoner_beginOf) 26 = .ok (.iload_n 2, 1) := by decide +kernel
theorem d_Reckoner_beginOf_27 : decode (m_c m_Reckoner_beginOf) 27 = .ok (.invokevirtual 105, 3) := by decide +kernel
theorem d_Reckoner_beginOf_30 : decode (m_c m_Reckoner_beginOf) 30 = .ok (.ireturn, 1) := by decide +kernel
def p_Reckoner_beginOf  (a1 : Nat) (v2 : Int) (f g : q_F) : Option (Int × q_F × q_F) :=
  if 28 ≤ a1 ∧ a1 < 36 then
    if q_sw (f a1 1) = 0 then
      (p_Reckoner_raisedPlaceOf (f a1 6) (a1) (v2) f g).bind fun x2 =>
      some (x2.1, x2.2.1, x2.2.2)
    else
      (p_Reckoner_valueOf (f a1 2) (f a1 3) f g).bind fun x4 =>
      some (x4.1, x4.2.1, x4.2.2)
  else none
theorem t_Reckoner_beginOf (t : q_V) (ok : ma_ok (q_G t))  {Q : Option Value → ma_H → Prop} {y : Int × q_F × q_F} (a1 : Nat) (v2 : Int) (f g : q_F) (hp : p_Reckoner_beginOf  a1 v2 f g = some y) (hQ : Q (some (ma_i y.1)) (q_h y.2.1 y.2.2)) : ma_Met (q_G t) false 4 89 0 0 m_Reckoner_beginOf [q_a t (55), q_a t (a1), ma_i (v2)] (q_h f g) Q := by
  refine ma_met (by decide +kernel) (q_ble rfl) rfl ?_
  change ma_Ev (q_G t) 4 89 0 0 m_Reckoner_beginOf 0 [(0, q_a t (55)), (1, q_a t (a1)), (2, ma_i (v2))] [] (q_h f g) (ma_zr (q_G t) false Q)
  unfold p_Reckoner_beginOf at hp
  replace hp := q_if hp
  obtain ⟨hb_a1, hp⟩ := hp
  refine et_aload_n (pc := 0) d_Reckoner_beginOf_0 rfl rfl ?_
  refine et_geti (pc := 1) ok (fl_Reckoner_97 t) rfl d_Reckoner_beginOf_1 (s_28 _ (by omega) (by omega)) ?_
  refine et_if_eq (pc := 4) (tgt := 20) d_Reckoner_beginOf_4 (by decide) (fun hj1 => ?_) (fun hj1 => ?_)
  · rw [if_pos hj1] at hp
    refine et_aload_n (pc := 20) d_Reckoner_beginOf_20 rfl rfl ?_
    refine et_aload_n (pc := 21) d_Reckoner_beginOf_21 rfl rfl ?_
    refine et_geti (pc := 22) ok (fl_Reckoner_102 t) rfl d_Reckoner_beginOf_22 (s_28 _ (by omega) (by omega)) ?_
    refine et_aload_n (pc := 25) d_Reckoner_beginOf_25 rfl rfl ?_
    refine ev_iload_n (pc := 26) d_Reckoner_beginOf_26 rfl rfl ?_
    replace hp := q_bind hp
    obtain ⟨x2, hm3, hp⟩ := hp
    refine et_callVi (pc := 27) (f1 := x2.2.1) (g1 := x2.2.2) ok [ma_i (f a1 6), q_a t (a1), ma_i (v2)] [] (cf_Reckoner_105 t) d_Reckoner_beginOf_27 s_55 k_9 rfl (t_Reckoner_raisedPlaceOf t ok (f a1 6) (a1) (v2) f g hm3 ⟨rfl, rfl⟩) rfl rfl (by decide) (by decide) (q_ble rfl) ?_
    cases Option.some.inj hp
    exact et_iret (pc := 30) d_Reckoner_beginOf_30 rfl hQ
  · rw [if_neg hj1] at hp
    refine et_aload_n (pc := 7) d_Reckoner_beginOf_7 rfl rfl ?_
    refine et_aload_n (pc := 8) d_Reckoner_beginOf_8 rfl rfl ?_
    refine et_geti (pc := 9) ok (fl_Reckoner_100 t) rfl d_Reckoner_beginOf_9 (s_28 _ (by omega) (by omega)) ?_
    refine et_aload_n (pc := 12) d_Reckoner_beginOf_12 rfl rfl ?_
    refine et_geti (pc := 13) ok (fl_Reckoner_101 t) rfl d_Reckoner_beginOf_13 (s_28 _ (by omega) (by omega)) ?_
    replace hp := q_bind hp
    obtain ⟨x4, hm5, hp⟩ := hp
    refine et_callVi (pc := 16) (f1 := x4.2.1) (g1 := x4.2.2) ok [ma_i (f a1 2), ma_i (f a1 3)] [] (cf_Reckoner_72 t) d_Reckoner_beginOf_16 s_55 k_9 rfl (t_Reckoner_valueOf t ok (f a1 2) (f a1 3) f g hm5 ⟨rfl, rfl⟩) rfl rfl (by decide) (by decide) (q_ble rfl) ?_
    cases Option.some.inj hp
    exact et_iret (pc := 19) d_Reckoner_beginOf_19 rfl hQ
theorem d_Reckoner_loadedAtOf_0 : decode (m_c m_Reckoner_loadedAtOf) 0 = .ok (.aload_n 1, 1) := by decide +kernel
theorem d_Reckoner_loadedAtOf_1 : decode (m_c m_Reckoner_loadedAtOf) 1 = .ok (.getfield 109, 3) := by decide +kernel
theorem d_Reckoner_loadedAtOf_4 : decode (m_c m_Reckoner_loadedAtOf) 4 = .ok (.ifCond .ne 5, 3) := by decide +kernel
theorem d_Reckoner_loadedAtOf_7 : decode (m_c m_Reckoner_loadedAtOf) 7 = .ok (.iconst (-1), 1) := by decide +kernel
theorem d_Reckoner_loadedAtOf_8 : decode (m_c m_Reckoner_loadedAtOf) 8 = .ok (.ireturn, 1) := by decide +kernel
theorem d_Reckoner_loadedAtOf_9 : decode (m_c m_Reckoner_loadedAtOf) 9 = .ok (.aload_n 1, 1) := by decide +kernel
theorem d_Reckoner_loadedAtOf_10 : decode (m_c m_Reckoner_loadedAtOf) 10 = .ok (.getfield 112, 3) := by decide +kernel
theorem d_Reckoner_loadedAtOf_13 : decode (m_c m_Reckoner_loadedAtOf) 13 = .ok (.iconst (-1), 1) := by decide +kernel
theorem d_Reckoner_loadedAtOf_14 : decode (m_c m_Reckoner_loadedAtOf) 14 = .ok (.if_icmp .ne 7, 3) := by decide +kernel
theorem d_Reckoner_loadedAtOf_17 : decode (m_c m_Reckoner_loadedAtOf) 17 = .ok (.iload_n 3, 1) := by decide +kernel
theorem d_Reckoner_loadedAtOf_18 : decode (m_c m_Reckoner_loadedAtOf) 18 = .ok (.goto 13, 3) := by decide +kernel
theorem d_Reckoner_loadedAtOf_21 : decode (m_c m_Reckoner_loadedAtOf) 21 = .ok (.aload_n 0, 1) := by decide +kernel
theorem d_Reckoner_loadedAtOf_22 : decode (m_c m_Reckoner_loadedAtOf) 22 = .ok (.aload_n 1, 1) := by decide +kernel
theorem d_Reckoner_loadedAtOf_23 : decode (m_c m_Reckoner_loadedAtOf) 23 = .ok (.getfield 112, 3) := by decide +kernel
theorem d_Reckoner_loadedAtOf_26 : decode (m_c m_Reckoner_loadedAtOf) 26 = .ok (.aload_n 1, 1) := by decide +kernel
theorem d_Reckoner_loadedAtOf_27 : decode (m_c m_Reckoner_loadedAtOf) 27 = .ok (.iload_n 2, 1) := by decide +kernel
theorem d_Reckoner_loadedAtOf_28 : decode (m_c m_Reckoner_loadedAtOf) 28 = .ok (.invokevirtual 105, 3) := by decide +kernel
theorem d_Reckoner_loadedAtOf_31 : decode (m_c m_Reckoner_loadedAtOf) 31 = .ok (.ireturn, 1) := by decide +kernel
def p_Reckoner_loadedAtOf_31   (s0 : Int) (f g : q_F) : Option (Int × q_F × q_F) :=
  some (s0, f, g)
def p_Reckoner_loadedAtOf  (a1 : Nat) (v2 : Int) (v3 : Int) (f g : q_F) : Option (Int × q_F × q_F) :=
  if 28 ≤ a1 ∧ a1 < 36 then
    if q_sw (f a1 7) = 0 then
      some (-1, f, g)
    else
      if q_sw (f a1 8) = q_sw (-1) then
        p_Reckoner_loadedAtOf_31   (v3) f g
      else
        (p_Reckoner_raisedPlaceOf (f a1 8) (a1) (v2) f g).bind fun x3 =>
        p_Reckoner_loadedAtOf_31   (x3.1) x3.2.1 x3.2.2
  else none
theorem e_Reckoner_loadedAtOf_31 (t : q_V) (ok : ma_ok (q_G t))  {Q : Option Value → ma_H → Prop} {y : Int × q_F × q_F} (hQ : Q (some (ma_i y.1)) (q_h y.2.1 y.2.2))   (s0 : Int) (f g : q_F) (hp : p_Reckoner_loadedAtOf_31   s0 f g = some y) : ma_Ev (q_G t) 3 70 0 0 m_Reckoner_loadedAtOf 31 [] [ma_i (s0)] (q_h f g) (ma_zr (q_G t) false Q) := by
  unfold p_Reckoner_loadedAtOf_31 at hp
  cases Option.some.inj hp
  exact et_iret (pc := 31) d_Reckoner_loadedAtOf_31 rfl hQ
theorem t_Reckoner_loadedAtOf (t : q_V) (ok : ma_ok (q_G t))  {Q : Option Value → ma_H → Prop} {y : Int × q_F × q_F} (a1 : Nat) (v2 : Int) (v3 : Int) (f g : q_F) (hp : p_Reckoner_loadedAtOf  a1 v2 v3 f g = some y) (hQ : Q (some (ma_i y.1)) (q_h y.2.1 y.2.2)) : ma_Met (q_G t) false 3 70 0 0 m_Reckoner_loadedAtOf [q_a t (55), q_a t (a1), ma_i (v2), ma_i (v3)] (q_h f g) Q := by
  refine ma_met (by decide +kernel) (q_ble rfl) rfl ?_
  change ma_Ev (q_G t) 3 70 0 0 m_Reckoner_loadedAtOf 0 [(0, q_a t (55)), (1, q_a t (a1)), (2, ma_i (v2)), (3, ma_i (v3))] [] (q_h f g) (ma_zr (q_G t) false Q)
  unfold p_Reckoner_loadedAtOf at hp
  replace hp := q_if hp
  obtain ⟨hb_a1, hp⟩ := hp
  refine et_aload_n (pc := 0) d_Reckoner_loadedAtOf_0 rfl rfl ?_
  refine et_geti (pc := 1) ok (fl_Reckoner_109 t) rfl d_Reckoner_loadedAtOf_1 (s_28 _ (by omega) (by omega)) ?_
  refine et_if_ne (pc := 4) (tgt := 9) d_Reckoner_loadedAtOf_4 (by decide) (fun hj1 => ?_) (fun hj1 => ?_)
  · rw [if_neg hj1] at hp
    refine et_aload_n (pc := 9) d_Reckoner_loadedAtOf_9 rfl rfl ?_
    refine et_geti (pc := 10) ok (fl_Reckoner_112 t) rfl d_Reckoner_loadedAtOf_10 (s_28 _ (by omega) (by omega)) ?_
    refine ev_iconst (pc := 13) d_Reckoner_loadedAtOf_13 ?_
    refine et_icmp_ne (pc := 14) (tgt := 21) d_Reckoner_loadedAtOf_14 (by decide) (fun hj2 => ?_) (fun hj2 => ?_)
    · rw [if_neg hj2] at hp
      refine et_aload_n (pc := 21) d_Reckoner_loadedAtOf_21 rfl rfl ?_
      refine et_aload_n (pc := 22) d_Reckoner_loadedAtOf_22 rfl rfl ?_
      refine et_geti (pc := 23) ok (fl_Reckoner_112 t) rfl d_Reckoner_loadedAtOf_23 (s_28 _ (by omega) (by omega)) ?_
      refine et_aload_n (pc := 26) d_Reckoner_loadedAtOf_26 rfl rfl ?_
      refine ev_iload_n (pc := 27) d_Reckoner_loadedAtOf_27 rfl rfl ?_
      replace hp := q_bind hp
      obtain ⟨x3, hm4, hp⟩ := hp
      refine et_callVi (pc := 28) (f1 := x3.2.1) (g1 := x3.2.2) ok [ma_i (f a1 8), q_a t (a1), ma_i (v2)] [] (cf_Reckoner_105 t) d_Reckoner_loadedAtOf_28 s_55 k_9 rfl (t_Reckoner_raisedPlaceOf t ok (f a1 8) (a1) (v2) f g hm4 ⟨rfl, rfl⟩) rfl rfl (by decide) (by decide) (q_ble rfl) ?_
      refine ev_sub (ls2 := []) [] rfl ?_
      exact e_Reckoner_loadedAtOf_31 t ok  hQ   (x3.1) x3.2.1 x3.2.2 hp
    · rw [if_pos hj2] at hp
      refine ev_iload_n (pc := 17) d_Reckoner_loadedAtOf_17 rfl rfl ?_
      refine ev_goto (pc := 18) (tgt := 31) d_Reckoner_loadedAtOf_18 (by decide) ?_
      refine ev_sub (ls2 := []) [] rfl ?_
      exact e_Reckoner_loadedAtOf_31 t ok  hQ   (v3) f g hp
  · rw [if_pos hj1] at hp
    refine ev_iconst (pc := 7) d_Reckoner_loadedAtOf_7 ?_
    cases Option.some.inj hp
    exact et_iret (pc := 8) d_Reckoner_loadedAtOf_8 rfl hQ
theorem d_Reckoner_putItems_0 : decode (m_c m_Reckoner_putItems) 0 = .ok (.aload_n 1, 1) := by decide +kernel
theorem d_Reckoner_putItems_1 : decode (m_c m_Reckoner_putItems) 1 = .ok (.getfield 84, 3) := by decide +kernel
theorem d_Reckoner_putItems_4 : decode (m_c m_Reckoner_putItems) 4 = .ok (.istore_n 2, 1) := by decide +kernel
theorem d_Reckoner_putItems_5 : decode (m_c m_Reckoner_putItems) 5 = .ok (.aload_n 1, 1) := by decide +kernel
theorem d_Reckoner_putItems_6 : decode (m_c m_Reckoner_putItems) 6 = .ok (.getfield 133, 3) := by decide +kernel
theorem d_Reckoner_putItems_9 : decode (m_c m_Reckoner_putItems) 9 = .ok (.istore_n 3, 1) := by decide +kernel
theorem d_Reckoner_putItems_10 : decode (m_c m_Reckoner_putItems) 10 = .ok (.iload_n 3, 1) := by decide +kernel
theorem d_Reckoner_putItems_11 : decode (m_c m_Reckoner_putItems) 11 = .ok (.aload_n 1, 1) := by decide +kernel
theorem d_Reckoner_putItems_12 : decode (m_c m_Reckoner_putItems) 12 = .ok (.getfield 136, 3) := by decide +kernel
theorem d_Reckoner_putItems_15 : decode (m_c m_Reckoner_putItems) 15 = .ok (.if_icmp .ge 119, 3) := by decide +kernel
theorem d_Reckoner_putItems_18 : decode (m_c m_Reckoner_putItems) 18 = .ok (.aload_n 0, 1) := by decide +kernel
theorem d_Reckoner_putItems_19 : decode (m_c m_Reckoner_putItems) 19 = .ok (.getfield 19, 3) := by decide +kernel
theorem d_Reckoner_putItems_22 : decode (m_c m_Reckoner_putItems) 22 = .ok (.getfield 139, 3) := by decide +kernel
theorem d_Reckoner_putItems_25 : decode (m_c m_Reckoner_putItems) 25 = .ok (.getfield 143, 3) := by decide +kernel
theorem d_Reckoner_putItems_28 : decode (m_c m_Reckoner_putItems) 28 = .ok (.iload_n 3, 1) := by decide +kernel
theorem d_Reckoner_putItems_29 : decode (m_c m_Reckoner_putItems) 29 = .ok (.iaload, 1) := by decide +kernel
theorem d_Reckoner_putItems_30 : decode (m_c m_Reckoner_putItems) 30 = .ok (.istore 4, 2) := by decide +kernel
theorem d_Reckoner_putItems_32 : decode (m_c m_Reckoner_putItems) 32 = .ok (.aload_n 0, 1) := by decide +kernel
theorem d_Reckoner_putItems_33 : decode (m_c m_Reckoner_putItems) 33 = .ok (.getfield 19, 3) := by decide +kernel
theorem d_Reckoner_putItems_36 : decode (m_c m_Reckoner_putItems) 36 = .ok (.getfield 139, 3) := by decide +kernel
theorem d_Reckoner_putItems_39 : decode (m_c m_Reckoner_putItems) 39 = .ok (.getfield 148, 3) := by decide +kernel
theorem d_Reckoner_putItems_42 : decode (m_c m_Reckoner_putItems) 42 = .ok (.iload_n 3, 1) := by decide +kernel
theorem d_Reckoner_putItems_43 : decode (m_c m_Reckoner_putItems) 43 = .ok (.iaload, 1) := by decide +kernel
theorem d_Reckoner_putItems_44 : decode (m_c m_Reckoner_putItems) 44 = .ok (.ifCond .ne 44, 3) := by decide +kernel
theorem d_Reckoner_putItems_47 : decode (m_c m_Reckoner_putItems) 47 = .ok (.aload_n 0, 1) := by decide +kernel
theorem d_Reckoner_putItems_48 : decode (m_c m_Reckoner_putItems) 48 = .ok (.getfield 19, 3) := by decide +kernel
theorem d_Reckoner_putItems_51 : decode (m_c m_Reckoner_putItems) 51 = .ok (.getfield 151, 3) := by decide +kernel
theorem d_Reckoner_putItems_54 : decode (m_c m_Reckoner_putItems) 54 = .ok (.iload 4, 2) := by decide +kernel
theorem d_Reckoner_putItems_56 : decode (m_c m_Reckoner_putItems) 56 = .ok (.aaload, 1) := by decide +kernel
theorem d_Reckoner_putItems_57 : decode (m_c m_Reckoner_putItems) 57 = .ok (.astore 5, 2) := by decide +kernel
theorem d_Reckoner_putItems_59 : decode (m_c m_Reckoner_putItems) 59 = .ok (.aload 5, 2) := by decide +kernel
theorem d_Reckoner_putItems_61 : decode (m_c m_Reckoner_putItems) 61 = .ok (.iload_n 2, 1) := by decide +kernel
theorem d_Reckoner_putItems_62 : decode (m_c m_Reckoner_putItems) 62 = .ok (.aload 5, 2) := by decide +kernel
theorem d_Reckoner_putItems_64 : decode (m_c m_Reckoner_putItems) 64 = .ok (.getfield 155, 3) := by decide +kernel
theorem d_Reckoner_putItems_67 : decode (m_c m_Reckoner_putItems) 67 = .ok (.invokestatic 121, 3) := by decide +kernel
theorem d_Reckoner_putItems_70 : decode (m_c m_Reckoner_putItems) 70 = .ok (.putfield 165, 3) := by decide +kernel
theorem d_Reckoner_putItems_73 : decode (m_c m_Reckoner_putItems) 73 = .ok (.aload 5, 2) := by decide +kernel
theorem d_Reckoner_putItems_75 : decode (m_c m_Reckoner_putItems) 75 = .ok (.getfield 165, 3) := by decide +kernel
theorem d_Reckoner_putItems_78 : decode (m_c m_Reckoner_putItems) 78 = .ok (.aload 5, 2) := by decide +kernel
theorem d_Reckoner_putItems_80 : decode (m_c m_Reckoner_putItems) 80 = .ok (.getfield 168, 3) := by decide +kernel
theorem d_Reckoner_putItems_83 : decode (m_c m_Reckoner_putItems) 83 = .ok (.iadd, 1) := by decide +kernel
theorem d_Reckoner_putItems_84 : decode (m_c m_Reckoner_putItems) 84 = .ok (.istore_n 2, 1) := by decide +kernel
theorem d_Reckoner_putItems_85 : decode (m_c m_Reckoner_putItems) 85 = .ok (.goto 43, 3) := by decide +kernel
theorem d_Reckoner_putItems_88 : decode (m_c m_Reckoner_putItems) 88 = .ok (.aload_n 0, 1) := by decide +kernel
theorem d_Reckoner_putItems_89 : decode (m_c m_Reckoner_putItems) 89 = .ok (.getfield 19, 3) := by decide +kernel
theorem d_Reckoner_putItems_92 : decode (m_c m_Reckoner_putItems) 92 = .ok (.getfield 139, 3) := by decide +kernel
theorem d_Reckoner_putItems_95 : decode (m_c m_Reckoner_putItems) 95 = .ok (.getfield 148, 3) := by decide +kernel
theorem d_Reckoner_putItems_98 : decode (m_c m_Reckoner_putItems) 98 = .ok (.iload_n 3, 1) := by decide +kernel
theorem d_Reckoner_putItems_99 : decode (m_c m_Reckoner_putItems) 99 = .ok (.iaload, 1) := by decide +kernel
theorem d_Reckoner_putItems_100 : decode (m_c m_Reckoner_putItems) 100 = .ok (.iconst 1, 1) := by decide +kernel
theorem d_Reckoner_putItems_101 : decode (m_c m_Reckoner_putItems) 101 = .ok (.if_icmp .ne 13, 3) := by decide +kernel
theorem d_Reckoner_putItems_104 : decode (m_c m_Reckoner_putItems) 104 = .ok (.iload_n 2, 1) := by decide +kernel
theorem d_Reckoner_putItems_105 : decode (m_c m_Reckoner_putItems) 105 = .ok (.iload 4, 2) := by decide +kernel
theorem d_Reckoner_putItems_107 : decode (m_c m_Reckoner_putItems) 107 = .ok (.invokestatic 121, 3) := by decide +kernel
theorem d_Reckoner_putItems_110 : decode (m_c m_Reckoner_putItems) 110 = .ok (.istore_n 2, 1) := by decide +kernel
theorem d_Reckoner_putItems_111 : decode (m_c m_Reckoner_putItems) 111 = .ok (.goto 17, 3) := by decide +kernel
theorem d_Reckoner_putItems_114 : decode (m_c m_Reckoner_putItems) 114 = .ok (.aload_n 0, 1) := by decide +kernel
theorem d_Reckoner_putItems_115 : decode (m_c m_Reckoner_putItems) 115 = .ok (.getfield 19, 3) := by decide +kernel
theorem d_Reckoner_putItems_118 : decode (m_c m_Reckoner_putItems) 118 = .ok (.getfield 32, 3) := by decide +kernel
theorem d_Reckoner_putItems_121 : decode (m_c m_Reckoner_putItems) 121 = .ok (.iload 4, 2) := by decide +kernel
theorem d_Reckoner_putItems_123 : decode (m_c m_Reckoner_putItems) 123 = .ok (.aaload, 1) := by decide +kernel
theorem d_Reckoner_putItems_124 : decode (m_c m_Reckoner_putItems) 124 = .ok (.iload_n 2, 1) := by decide +kernel
theorem d_Reckoner_putItems_125 : decode (m_c m_Reckoner_putItems) 125 = .ok (.putfield 59, 3) := by decide +kernel
theorem d_Reckoner_putItems_128 : decode (m_c m_Reckoner_putItems) 128 = .ok (.iinc 3 1, 3) := by decide +kernel
theorem d_Reckoner_putItems_131 : decode (m_c m_Reckoner_putItems) 131 = .ok (.goto (-121), 3) := by decide +kernel
theorem d_Reckoner_putItems_134 : decode (m_c m_Reckoner_putItems) 134 = .ok (.iload_n 2, 1) := by decide +kernel
theorem d_Reckoner_putItems_135 : decode (m_c m_Reckoner_putItems) 135 = .ok (.ireturn, 1) := by decide +kernel
def p_Reckoner_putItems_128  (c10 : Nat → Int → Int → q_F → q_F → Option (Int × q_F × q_F)) (a1 : Nat) (v2 : Int) (v3 : Int) (f g : q_F) : Option (Int × q_F × q_F) :=
  if 28 ≤ a1 ∧ a1 < 36 then
    q_let (v3 + 1) fun z1 =>
    c10 (a1) (v2) (z1) f g
  else none
def p_Reckoner_putItems_10   : Nat → Nat → Int → Int → q_F → q_F → Option (Int × q_F × q_F)
  | 0, _, _, _, _, _ => none
  | n + 1, a1, v2, v3, f, g =>
    if 28 ≤ a1 ∧ a1 < 36 then
      if q_sw (f a1 5) ≤ q_sw v3 then
        some (v2, f, g)
      else
        if 0 ≤ v3 ∧ v3 < 160 then
          q_let (f 10 (Int.toNat v3)) fun z3 =>
          if 0 ≤ v3 ∧ v3 < 160 then
            if q_sw (f 9 (Int.toNat v3)) = 0 then
              if 0 ≤ z3 ∧ z3 < 8 then
                (p_Desk_raise (v2) (f (16 + Int.toNat z3) 1) f g).bind fun x13 =>
                q_let (ma_up x13.2.1 (16 + Int.toNat z3) 4 x13.1) fun f15 =>
                q_let ((f15 (16 + Int.toNat z3) 4) + (f15 (16 + Int.toNat z3) 0)) fun z16 =>
                p_Reckoner_putItems_128  (p_Reckoner_putItems_10   n) (a1) (z16) (v3) f15 x13.2.2
              else none
            else
              if 0 ≤ v3 ∧ v3 < 160 then
                if q_sw (f 9 (Int.toNat v3)) = q_sw 1 then
                  (p_Desk_raise (v2) (z3) f g).bind fun x10 =>
                  p_Reckoner_putItems_128  (p_Reckoner_putItems_10   n) (a1) (x10.1) (v3) x10.2.1 x10.2.2
                else
                  if 0 ≤ z3 ∧ z3 < 18 then
                    q_let (ma_up f (36 + Int.toNat z3) 4 v2) fun f9 =>
                    p_Reckoner_putItems_128  (p_Reckoner_putItems_10   n) (a1) (v2) (v3) f9 g
                  else none
              else none
          else none
        else none
    else none
def p_Reckoner_putItems  (a1 : Nat) (f g : q_F) : Option (Int × q_F × q_F) :=
  if 28 ≤ a1 ∧ a1 < 36 then
    q_let (f a1 9) fun z1 =>
    q_let (f a1 4) fun z2 =>
    p_Reckoner_putItems_10   1000 (a1) (z1) (z2) f g
  else none
theorem e_Reckoner_putItems_128 (t : q_V) (ok : ma_ok (q_G t))  {Q : Option Value → ma_H → Prop} {y : Int × q_F × q_F} (hQ : Q (some (ma_i y.1)) (q_h y.2.1 y.2.2)) (c10 : Nat → Int → Int → q_F → q_F → Option (Int × q_F × q_F)) (hc10 : ∀ (a1 : Nat) (v2 : Int) (v3 : Int) (f g : q_F), c10 a1 v2 v3 f g = some y → ma_Ev (q_G t) 1 21 0 0 m_Reckoner_putItems 10 [(0, q_a t (55)), (1, q_a t (a1)), (2, ma_i (v2)), (3, ma_i (v3))] [] (q_h f g) (ma_zr (q_G t) false Q)) (a1 : Nat) (v2 : Int) (v3 : Int) (f g : q_F) (hp : p_Reckoner_putItems_128  c10 a1 v2 v3 f g = some y) : ma_Ev (q_G t) 1 21 0 0 m_Reckoner_putItems 128 [(0, q_a t (55)), (1, q_a t (a1)), (2, ma_i (v2)), (3, ma_i (v3))] [] (q_h f g) (ma_zr (q_G t) false Q) := by
  unfold p_Reckoner_putItems_128 at hp
  replace hp := q_if hp
  obtain ⟨hb_a1, hp⟩ := hp
  refine ev_iinc (pc := 128) d_Reckoner_putItems_128 (by decide) rfl [(3, _), (0, _), (1, _), (2, _)] rfl ?_
  replace hp := q_let_of hp
  obtain ⟨z1, hz, hp⟩ := hp
  rw [← hz]
  clear hz
  refine ev_goto (pc := 131) (tgt := 10) d_Reckoner_putItems_131 (by decide) ?_
  refine ev_sub (ls2 := [(0, q_a t (55)), (1, q_a t (a1)), (2, ma_i (v2)), (3, ma_i (z1))]) [1, 2, 3, 0] rfl ?_
  exact hc10 (a1) (v2) (z1) f g hp
theorem e_Reckoner_putItems_10 (t : q_V) (ok : ma_ok (q_G t))  {Q : Option Value → ma_H → Prop} {y : Int × q_F × q_F} (hQ : Q (some (ma_i y.1)) (q_h y.2.1 y.2.2))   : ∀ (n : Nat) (a1 : Nat) (v2 : Int) (v3 : Int) (f g : q_F), p_Reckoner_putItems_10   n a1 v2 v3 f g = some y → ma_Ev (q_G t) 1 21 0 0 m_Reckoner_putItems 10 [(0, q_a t (55)), (1, q_a t (a1)), (2, ma_i (v2)), (3, ma_i (v3))] [] (q_h f g) (ma_zr (q_G t) false Q) := by
  intro n
  induction n with
  | zero =>
    intro a1 v2 v3 f g hp
    rw [p_Reckoner_putItems_10] at hp
    cases hp
  | succ n ih =>
    intro a1 v2 v3 f g hp
    rw [p_Reckoner_putItems_10] at hp
    replace hp := q_if hp
    obtain ⟨hb_a1, hp⟩ := hp
    refine ev_iload_n (pc := 10) d_Reckoner_putItems_10 rfl rfl ?_
    refine et_aload_n (pc := 11) d_Reckoner_putItems_11 rfl rfl ?_
    refine et_geti (pc := 12) ok (fl_Reckoner_136 t) rfl d_Reckoner_putItems_12 (s_28 _ (by omega) (by omega)) ?_
    refine et_icmp_ge (pc := 15) (tgt := 134) d_Reckoner_putItems_15 (by decide) (fun hj1 => ?_) (fun hj1 => ?_)
    · rw [if_pos hj1] at hp
      refine ev_iload_n (pc := 134) d_Reckoner_putItems_134 rfl rfl ?_
      cases Option.some.inj hp
      exact et_iret (pc := 135) d_Reckoner_putItems_135 rfl hQ
    · rw [if_neg hj1] at hp
      refine et_aload_n (pc := 18) d_Reckoner_putItems_18 rfl rfl ?_
      refine et_getr (pc := 19) ok (fl_Reckoner_19 t) rfl d_Reckoner_putItems_19 s_55 r_55_0 ?_
      refine et_getr (pc := 22) ok (fl_Reckoner_139 t) rfl d_Reckoner_putItems_22 s_3 r_3_4 ?_
      refine et_getr (pc := 25) ok (fl_Reckoner_143 t) rfl d_Reckoner_putItems_25 s_8 r_8_1 ?_
      refine ev_iload_n (pc := 28) d_Reckoner_putItems_28 rfl rfl ?_
      replace hp := q_if hp
      obtain ⟨hb2, hp⟩ := hp
      refine et_iald (pc := 29) d_Reckoner_putItems_29 s_10 hb2 (by decide) ?_
      refine ev_istore (pc := 30) d_Reckoner_putItems_30 (by decide) [(4, _), (0, _), (1, _), (2, _), (3, _)] rfl ?_
      replace hp := q_let_of hp
      obtain ⟨z3, hz, hp⟩ := hp
      rw [← hz]
      clear hz
      refine et_aload_n (pc := 32) d_Reckoner_putItems_32 rfl rfl ?_
      refine et_getr (pc := 33) ok (fl_Reckoner_19 t) rfl d_Reckoner_putItems_33 s_55 r_55_0 ?_
      refine et_getr (pc := 36) ok (fl_Reckoner_139 t) rfl d_Reckoner_putItems_36 s_3 r_3_4 ?_
      refine et_getr (pc := 39) ok (fl_Reckoner_148 t) rfl d_Reckoner_putItems_39 s_8 r_8_0 ?_
      refine ev_iload_n (pc := 42) d_Reckoner_putItems_42 rfl rfl ?_
      replace hp := q_if hp
      obtain ⟨hb4, hp⟩ := hp
      refine et_iald (pc := 43) d_Reckoner_putItems_43 s_9 hb4 (by decide) ?_
      refine et_if_ne (pc := 44) (tgt := 88) d_Reckoner_putItems_44 (by decide) (fun hj5 => ?_) (fun hj5 => ?_)
      · rw [if_neg hj5] at hp
        refine et_aload_n (pc := 88) d_Reckoner_putItems_88 rfl rfl ?_
        refine et_getr (pc := 89) ok (fl_Reckoner_19 t) rfl d_Reckoner_putItems_89 s_55 r_55_0 ?_
        refine et_getr (pc := 92) ok (fl_Reckoner_139 t) rfl d_Reckoner_putItems_92 s_3 r_3_4 ?_
        refine et_getr (pc := 95) ok (fl_Reckoner_148 t) rfl d_Reckoner_putItems_95 s_8 r_8_0 ?_
        refine ev_iload_n (pc := 98) d_Reckoner_putItems_98 rfl rfl ?_
        replace hp := q_if hp
        obtain ⟨hb6, hp⟩ := hp
        refine et_iald (pc := 99) d_Reckoner_putItems_99 s_9 hb6 (by decide) ?_
        refine ev_iconst (pc := 100) d_Reckoner_putItems_100 ?_
        refine et_icmp_ne (pc := 101) (tgt := 114) d_Reckoner_putItems_101 (by decide) (fun hj7 => ?_) (fun hj7 => ?_)
        · rw [if_neg hj7] at hp
          refine et_aload_n (pc := 114) d_Reckoner_putItems_114 rfl rfl ?_
          refine et_getr (pc := 115) ok (fl_Reckoner_19 t) rfl d_Reckoner_putItems_115 s_55 r_55_0 ?_
          refine et_getr (pc := 118) ok (fl_Reckoner_32 t) rfl d_Reckoner_putItems_118 s_3 r_3_3 ?_
          refine ev_iload (pc := 121) d_Reckoner_putItems_121 rfl ?_
          replace hp := q_if hp
          obtain ⟨hb8, hp⟩ := hp
          refine et_aald (pc := 123) d_Reckoner_putItems_123 s_7 hb8 (by decide) (r_7 _ (by omega)) ?_
          refine ev_iload_n (pc := 124) d_Reckoner_putItems_124 rfl rfl ?_
          refine et_puti (pc := 125) ok (fl_Reckoner_59 t) d_Reckoner_putItems_125 (s_36 _ (by omega) (by omega)) ?_
          replace hp := q_let_of hp
          obtain ⟨f9, hz, hp⟩ := hp
          rw [← hz]
          clear hz
          refine ev_sub (ls2 := [(0, q_a t (55)), (1, q_a t (a1)), (2, ma_i (v2)), (3, ma_i (v3))]) [1, 2, 3, 4] rfl ?_
          exact e_Reckoner_putItems_128 t ok  hQ (p_Reckoner_putItems_10   n) ih (a1) (v2) (v3) f9 g hp
        · rw [if_pos hj7] at hp
          refine ev_iload_n (pc := 104) d_Reckoner_putItems_104 rfl rfl ?_
          refine ev_iload (pc := 105) d_Reckoner_putItems_105 rfl ?_
          replace hp := q_bind hp
          obtain ⟨x10, hm11, hp⟩ := hp
          refine et_callSi (pc := 107) (f1 := x10.2.1) (g1 := x10.2.2) ok [ma_i (v2), ma_i (z3)] [] (cf_Reckoner_121 t) d_Reckoner_putItems_107 (t_Desk_raise t ok (v2) (z3) f g hm11 ⟨rfl, rfl⟩) rfl rfl (by decide) (by decide) (q_ble rfl) ?_
          refine ev_istore_n (pc := 110) d_Reckoner_putItems_110 rfl (by decide) [(2, _), (4, _), (0, _), (1, _), (3, _)] rfl ?_
          refine ev_goto (pc := 111) (tgt := 128) d_Reckoner_putItems_111 (by decide) ?_
          refine ev_sub (ls2 := [(0, q_a t (55)), (1, q_a t (a1)), (2, ma_i (x10.1)), (3, ma_i (v3))]) [2, 3, 0, 4] rfl ?_
          exact e_Reckoner_putItems_128 t ok  hQ (p_Reckoner_putItems_10   n) ih (a1) (x10.1) (v3) x10.2.1 x10.2.2 hp
      · rw [if_pos hj5] at hp
        refine et_aload_n (pc := 47) d_Reckoner_putItems_47 rfl rfl ?_
        refine et_getr (pc := 48) ok (fl_Reckoner_19 t) rfl d_Reckoner_putItems_48 s_55 r_55_0 ?_
        refine et_getr (pc := 51) ok (fl_Reckoner_151 t) rfl d_Reckoner_putItems_51 s_3 r_3_0 ?_
        refine ev_iload (pc := 54) d_Reckoner_putItems_54 rfl ?_
        replace hp := q_if hp
        obtain ⟨hb12, hp⟩ := hp
        refine et_aald (pc := 56) d_Reckoner_putItems_56 s_4 hb12 (by decide) (r_4 _ (by omega)) ?_
        refine et_astore (pc := 57) d_Reckoner_putItems_57 (by decide) [(5, _), (4, _), (0, _), (1, _), (2, _), (3, _)] rfl ?_
        refine et_aload (pc := 59) d_Reckoner_putItems_59 rfl ?_
        refine ev_iload_n (pc := 61) d_Reckoner_putItems_61 rfl rfl ?_
        refine et_aload (pc := 62) d_Reckoner_putItems_62 rfl ?_
        refine et_geti (pc := 64) ok (fl_Reckoner_155 t) rfl d_Reckoner_putItems_64 (s_16 _ (by omega) (by omega)) ?_
        replace hp := q_bind hp
        obtain ⟨x13, hm14, hp⟩ := hp
        refine et_callSi (pc := 67) (f1 := x13.2.1) (g1 := x13.2.2) ok [ma_i (v2), ma_i (f (16 + Int.toNat z3) 1)] [q_a t (16 + Int.toNat z3)] (cf_Reckoner_121 t) d_Reckoner_putItems_67 (t_Desk_raise t ok (v2) (f (16 + Int.toNat z3) 1) f g hm14 ⟨rfl, rfl⟩) rfl rfl (by decide) (by decide) (q_ble rfl) ?_
        refine et_puti (pc := 70) ok (fl_Reckoner_165 t) d_Reckoner_putItems_70 (s_16 _ (by omega) (by omega)) ?_
        replace hp := q_let_of hp
        obtain ⟨f15, hz, hp⟩ := hp
        rw [← hz]
        clear hz
        refine et_aload (pc := 73) d_Reckoner_putItems_73 rfl ?_
        refine et_geti (pc := 75) ok (fl_Reckoner_165 t) rfl d_Reckoner_putItems_75 (s_16 _ (by omega) (by omega)) ?_
        refine et_aload (pc := 78) d_Reckoner_putItems_78 rfl ?_
        refine et_geti (pc := 80) ok (fl_Reckoner_168 t) rfl d_Reckoner_putItems_80 (s_16 _ (by omega) (by omega)) ?_
        refine ev_iadd (pc := 83) d_Reckoner_putItems_83 ?_
        refine ev_istore_n (pc := 84) d_Reckoner_putItems_84 rfl (by decide) [(2, _), (5, _), (4, _), (0, _), (1, _), (3, _)] rfl ?_
        replace hp := q_let_of hp
        obtain ⟨z16, hz, hp⟩ := hp
        rw [← hz]
        clear hz
        refine ev_goto (pc := 85) (tgt := 128) d_Reckoner_putItems_85 (by decide) ?_
        refine ev_sub (ls2 := [(0, q_a t (55)), (1, q_a t (a1)), (2, ma_i (z16)), (3, ma_i (v3))]) [3, 4, 0, 5] rfl ?_
        exact e_Reckoner_putItems_128 t ok  hQ (p_Reckoner_putItems_10   n) ih (a1) (z16) (v3) f15 x13.2.2 hp
theorem t_Reckoner_putItems (t : q_V) (ok : ma_ok (q_G t))  {Q : Option Value → ma_H → Prop} {y : Int × q_F × q_F} (a1 : Nat) (f g : q_F) (hp : p_Reckoner_putItems  a1 f g = some y) (hQ : Q (some (ma_i y.1)) (q_h y.2.1 y.2.2)) : ma_Met (q_G t) false 1 21 0 0 m_Reckoner_putItems [q_a t (55), q_a t (a1)] (q_h f g) Q := by
  refine ma_met (by decide +kernel) (q_ble rfl) rfl ?_
  change ma_Ev (q_G t) 1 21 0 0 m_Reckoner_putItems 0 [(0, q_a t (55)), (1, q_a t (a1))] [] (q_h f g) (ma_zr (q_G t) false Q)
  unfold p_Reckoner_putItems at hp
  replace hp := q_if hp
  obtain ⟨hb_a1, hp⟩ := hp
  refine et_aload_n (pc := 0) d_Reckoner_putItems_0 rfl rfl ?_
  refine et_geti (pc := 1) ok (fl_Reckoner_84 t) rfl d_Reckoner_putItems_1 (s_28 _ (by omega) (by omega)) ?_
  refine ev_istore_n (pc := 4) d_Reckoner_putItems_4 rfl (by decide) [(2, _), (0, _), (1, _)] rfl ?_
  replace hp := q_let_of hp
  obtain ⟨z1, hz, hp⟩ := hp
  rw [← hz]
  clear hz
  refine et_aload_n (pc := 5) d_Reckoner_putItems_5 rfl rfl ?_
  refine et_geti (pc := 6) ok (fl_Reckoner_133 t) rfl d_Reckoner_putItems_6 (s_28 _ (by omega) (by omega)) ?_
  refine ev_istore_n (pc := 9) d_Reckoner_putItems_9 rfl (by decide) [(3, _), (2, _), (0, _), (1, _)] rfl ?_
  replace hp := q_let_of hp
  obtain ⟨z2, hz, hp⟩ := hp
  rw [← hz]
  clear hz
  refine ev_sub (ls2 := [(0, q_a t (55)), (1, q_a t (a1)), (2, ma_i (z1)), (3, ma_i (z2))]) [2, 3, 1, 0] rfl ?_
  exact e_Reckoner_putItems_10 t ok  hQ   1000 (a1) (z1) (z2) f g hp
theorem d_Reckoner_reckonSection_0 : decode (m_c m_Reckoner_reckonSection) 0 = .ok (.aload_n 0, 1) := by decide +kernel
theorem d_Reckoner_reckonSection_1 : decode (m_c m_Reckoner_reckonSection) 1 = .ok (.getfield 19, 3) := by decide +kernel
theorem d_Reckoner_reckonSection_4 : decode (m_c m_Reckoner_reckonSection) 4 = .ok (.iload_n 1, 1) := by decide +kernel
theorem d_Reckoner_reckonSection_5 : decode (m_c m_Reckoner_reckonSection) 5 = .ok (.invokevirtual 44, 3) := by decide +kernel
theorem d_Reckoner_reckonSection_8 : decode (m_c m_Reckoner_reckonSection) 8 = .ok (.astore_n 2, 1) := by decide +kernel
theorem d_Reckoner_reckonSection_9 : decode (m_c m_Reckoner_reckonSection) 9 = .ok (.aload_n 2, 1) := by decide +kernel
theorem d_Reckoner_reckonSection_10 : decode (m_c m_Reckoner_reckonSection) 10 = .ok (.invokevirtual 48, 3) := by decide +kernel
theorem d_Reckoner_reckonSection_13 : decode (m_c m_Reckoner_reckonSection) 13 = .ok (.ifCond .eq 5, 3) := by decide +kernel
theorem d_Reckoner_reckonSection_16 : decode (m_c m_Reckoner_reckonSection) 16 = .ok (.iconst 0, 1) := by decide +kernel
theorem d_Reckoner_reckonSection_17 : decode (m_c m_Reckoner_reckonSection) 17 = .ok (.ireturn, 1) := by decide +kernel
theorem d_Reckoner_reckonSection_18 : decode (m_c m_Reckoner_reckonSection) 18 = .ok (.aload_n 0, 1) := by decide +kernel
theorem d_Reckoner_reckonSection_19 : decode (m_c m_Reckoner_reckonSection) 19 = .ok (.aload_n 2, 1) := by decide +kernel
theorem d_Reckoner_reckonSection_20 : decode (m_c m_Reckoner_reckonSection) 20 = .ok (.iload_n 1, 1) := by decide +kernel
theorem d_Reckoner_reckonSection_21 : decode (m_c m_Reckoner_reckonSection) 21 = .ok (.invokevirtual 76, 3) := by decide +kernel
theorem d_Reckoner_reckonSection_24 : decode (m_c m_Reckoner_reckonSection) 24 = .ok (.istore_n 3, 1) := by decide +kernel
theorem d_Reckoner_reckonSection_25 : decode (m_c m_Reckoner_reckonSection) 25 = .ok (.aload_n 0, 1) := by decide +kernel
theorem d_Reckoner_reckonSection_26 : decode (m_c m_Reckoner_reckonSection) 26 = .ok (.aload_n 2, 1) := by decide +kernel
theorem d_Reckoner_reckonSection_27 : decode (m_c m_Reckoner_reckonSection) 27 = .ok (.iload_n 1, 1) := by decide +kernel
theorem d_Reckoner_reckonSection_28 : decode (m_c m_Reckoner_reckonSection) 28 = .ok (.iload_n 3, 1) := by decide +kernel
theorem d_Reckoner_reckonSection_29 : decode (m_c m_Reckoner_reckonSection) 29 = .ok (.invokevirtual 80, 3) := by decide +kernel
theorem d_Reckoner_reckonSection_32 : decode (m_c m_Reckoner_reckonSection) 32 = .ok (.istore 4, 2) := by decide +kernel
theorem d_Reckoner_reckonSection_34 : decode (m_c m_Reckoner_reckonSection) 34 = .ok (.iload_n 3, 1) := by decide +kernel
theorem d_Reckoner_reckonSection_35 : decode (m_c m_Reckoner_reckonSection) 35 = .ok (.ldc 62, 2) := by decide +kernel
theorem d_Reckoner_reckonSection_37 : decode (m_c m_Reckoner_reckonSection) 37 = .ok (.if_icmp .eq 10, 3) := by decide +kernel
theorem d_Reckoner_reckonSection_40 : decode (m_c m_Reckoner_reckonSection) 40 = .ok (.iload 4, 2) := by decide +kernel
theorem d_Reckoner_reckonSection_42 : decode (m_c m_Reckoner_reckonSection) 42 = .ok (.ldc 62, 2) := by decide +kernel
theorem d_Reckoner_reckonSection_44 : decode (m_c m_Reckoner_reckonSection) 44 = .ok (.if_icmp .ne 5, 3) := by decide +kernel
theorem d_Reckoner_reckonSection_47 : decode (m_c m_Reckoner_reckonSection) 47 = .ok (.iconst 0, 1) := by decide +kernel
theorem d_Reckoner_reckonSection_48 : decode (m_c m_Reckoner_reckonSection) 48 = .ok (.ireturn, 1) := by decide +kernel
theorem d_Reckoner_reckonSection_49 : decode (m_c m_Reckoner_reckonSection) 49 = .ok (.aload_n 2, 1) := by decide +kernel
theorem d_Reckoner_reckonSection_50 : decode (m_c m_Reckoner_reckonSection) 50 = .ok (.iload_n 3, 1) := by decide +kernel
theorem d_Reckoner_reckonSection_51 : decode (m_c m_Reckoner_reckonSection) 51 = .ok (.putfield 84, 3) := by decide +kernel
theorem d_Reckoner_reckonSection_54 : decode (m_c m_Reckoner_reckonSection) 54 = .ok (.aload_n 2, 1) := by decide +kernel
theorem d_Reckoner_reckonSection_55 : decode (m_c m_Reckoner_reckonSection) 55 = .ok (.iload 4, 2) := by decide +kernel
theorem d_Reckoner_reckonSection_57 : decode (m_c m_Reckoner_reckonSection) 57 = .ok (.putfield 87, 3) := by decide +kernel
theorem d_Reckoner_reckonSection_60 : decode (m_c m_Reckoner_reckonSection) 60 = .ok (.aload_n 2, 1) := by decide +kernel
theorem d_Reckoner_reckonSection_61 : decode (m_c m_Reckoner_reckonSection) 61 = .ok (.aload_n 0, 1) := by decide +kernel
theorem d_Reckoner_reckonSection_62 : decode (m_c m_Reckoner_reckonSection) 62 = .ok (.aload_n 2, 1) := by decide +kernel
theorem d_Reckoner_reckonSection_63 : decode (m_c m_Reckoner_reckonSection) 63 = .ok (.invokevirtual 90, 3) := by decide +kernel
theorem d_Reckoner_reckonSection_66 : decode (m_c m_Reckoner_reckonSection) 66 = .ok (.iload_n 3, 1) := by decide +kernel
theorem d_Reckoner_reckonSection_67 : decode (m_c m_Reckoner_reckonSection) 67 = .ok (.isub, 1) := by decide +kernel
theorem d_Reckoner_reckonSection_68 : decode (m_c m_Reckoner_reckonSection) 68 = .ok (.putfield 94, 3) := by decide +kernel
theorem d_Reckoner_reckonSection_71 : decode (m_c m_Reckoner_reckonSection) 71 = .ok (.iconst 1, 1) := by decide +kernel
theorem d_Reckoner_reckonSection_72 : decode (m_c m_Reckoner_reckonSection) 72 = .ok (.ireturn, 1) := by decide +kernel
def p_Reckoner_reckonSection_47    (f g : q_F) : Option (Int × q_F × q_F) :=
  some (0, f, g)
def p_Reckoner_reckonSection  (v1 : Int) (f g : q_F) : Option (Int × q_F × q_F) :=
  (p_Plan_sectionAt (v1) f g).bind fun x1 =>
  if 28 ≤ x1.1 ∧ x1.1 < 36 then
    (p_Section_isKnown (x1.1) x1.2.1 x1.2.2).bind fun x4 =>
    if q_sw x4.1 = 0 then
      (p_Reckoner_beginOf (x1.1) (v1) x4.2.1 x4.2.2).bind fun x7 =>
      (p_Reckoner_loadedAtOf (x1.1) (v1) (x7.1) x7.2.1 x7.2.2).bind fun x9 =>
      if q_sw x7.1 = q_sw (-1000000000) then
        p_Reckoner_reckonSection_47    x9.2.1 x9.2.2
      else
        if q_sw x9.1 = q_sw (-1000000000) then
          p_Reckoner_reckonSection_47    x9.2.1 x9.2.2
        else
          q_let (ma_up x9.2.1 x1.1 9 x7.1) fun f13 =>
          q_let (ma_up f13 x1.1 11 x9.1) fun f14 =>
          (p_Reckoner_putItems (x1.1) f14 x9.2.2).bind fun x15 =>
          q_let (ma_up x15.2.1 x1.1 10 (x15.1 - x7.1)) fun f17 =>
          some (1, f17, x15.2.2)
    else
      some (0, x4.2.1, x4.2.2)
  else none
theorem e_Reckoner_reckonSection_47 (t : q_V) (ok : ma_ok (q_G t))  {Q : Option Value → ma_H → Prop} {y : Int × q_F × q_F} (hQ : Q (some (ma_i y.1)) (q_h y.2.1 y.2.2))    (f g : q_F) (hp : p_Reckoner_reckonSection_47    f g = some y) : ma_Ev (q_G t) 5 111 0 0 m_Reckoner_reckonSection 47 [] [] (q_h f g) (ma_zr (q_G t) false Q) := by
  unfold p_Reckoner_reckonSection_47 at hp
  refine ev_iconst (pc := 47) d_Reckoner_reckonSection_47 ?_
  cases Option.some.inj hp
  exact et_zret (pc := 48) d_Reckoner_reckonSection_48 rfl (by decide) hQ
theorem t_Reckoner_reckonSection (t : q_V) (ok : ma_ok (q_G t))  {Q : Option Value → ma_H → Prop} {y : Int × q_F × q_F} (v1 : Int) (f g : q_F) (hp : p_Reckoner_reckonSection  v1 f g = some y) (hQ : Q (some (ma_i y.1)) (q_h y.2.1 y.2.2)) : ma_Met (q_G t) false 5 111 0 0 m_Reckoner_reckonSection [q_a t (55), ma_i (v1)] (q_h f g) Q := by
  refine ma_met (by decide +kernel) (q_ble rfl) rfl ?_
  change ma_Ev (q_G t) 5 111 0 0 m_Reckoner_reckonSection 0 [(0, q_a t (55)), (1, ma_i (v1))] [] (q_h f g) (ma_zr (q_G t) false Q)
  unfold p_Reckoner_reckonSection at hp
  refine et_aload_n (pc := 0) d_Reckoner_reckonSection_0 rfl rfl ?_
  refine et_getr (pc := 1) ok (fl_Reckoner_19 t) rfl d_Reckoner_reckonSection_1 s_55 r_55_0 ?_
  refine ev_iload_n (pc := 4) d_Reckoner_reckonSection_4 rfl rfl ?_
  replace hp := q_bind hp
  obtain ⟨x1, hm2, hp⟩ := hp
  refine et_callVr (pc := 5) (f1 := x1.2.1) (g1 := x1.2.2) ok [ma_i (v1)] [] (cf_Reckoner_44 t) d_Reckoner_reckonSection_5 s_3 k_7 rfl (t_Plan_sectionAt t ok (v1) f g hm2 ⟨rfl, rfl⟩) rfl rfl (by decide) (by decide) (q_ble rfl) ?_
  replace hp := q_if hp
  obtain ⟨hb3, hp⟩ := hp
  refine et_astore_n (pc := 8) d_Reckoner_reckonSection_8 rfl (by decide) [(2, _), (0, _), (1, _)] rfl ?_
  refine et_aload_n (pc := 9) d_Reckoner_reckonSection_9 rfl rfl ?_
  replace hp := q_bind hp
  obtain ⟨x4, hm5, hp⟩ := hp
  refine et_callVi (pc := 10) (f1 := x4.2.1) (g1 := x4.2.2) ok [] [] (cf_Reckoner_48 t) d_Reckoner_reckonSection_10 (s_28 _ (by omega) (by omega)) k_4 rfl (t_Section_isKnown t ok (x1.1) x1.2.1 x1.2.2 hm5 ⟨rfl, rfl⟩) rfl rfl (by decide) (by decide) (q_ble rfl) ?_
  refine et_if_eq (pc := 13) (tgt := 18) d_Reckoner_reckonSection_13 (by decide) (fun hj6 => ?_) (fun hj6 => ?_)
  · rw [if_pos hj6] at hp
    refine et_aload_n (pc := 18) d_Reckoner_reckonSection_18 rfl rfl ?_
    refine et_aload_n (pc := 19) d_Reckoner_reckonSection_19 rfl rfl ?_
    refine ev_iload_n (pc := 20) d_Reckoner_reckonSection_20 rfl rfl ?_
    replace hp := q_bind hp
    obtain ⟨x7, hm8, hp⟩ := hp
    refine et_callVi (pc := 21) (f1 := x7.2.1) (g1 := x7.2.2) ok [q_a t (x1.1), ma_i (v1)] [] (cf_Reckoner_76 t) d_Reckoner_reckonSection_21 s_55 k_9 rfl (t_Reckoner_beginOf t ok (x1.1) (v1) x4.2.1 x4.2.2 hm8 ⟨rfl, rfl⟩) rfl rfl (by decide) (by decide) (q_ble rfl) ?_
    refine ev_istore_n (pc := 24) d_Reckoner_reckonSection_24 rfl (by decide) [(3, _), (2, _), (0, _), (1, _)] rfl ?_
    refine et_aload_n (pc := 25) d_Reckoner_reckonSection_25 rfl rfl ?_
    refine et_aload_n (pc := 26) d_Reckoner_reckonSection_26 rfl rfl ?_
    refine ev_iload_n (pc := 27) d_Reckoner_reckonSection_27 rfl rfl ?_
    refine ev_iload_n (pc := 28) d_Reckoner_reckonSection_28 rfl rfl ?_
    replace hp := q_bind hp
    obtain ⟨x9, hm10, hp⟩ := hp
    refine et_callVi (pc := 29) (f1 := x9.2.1) (g1 := x9.2.2) ok [q_a t (x1.1), ma_i (v1), ma_i (x7.1)] [] (cf_Reckoner_80 t) d_Reckoner_reckonSection_29 s_55 k_9 rfl (t_Reckoner_loadedAtOf t ok (x1.1) (v1) (x7.1) x7.2.1 x7.2.2 hm10 ⟨rfl, rfl⟩) rfl rfl (by decide) (by decide) (q_ble rfl) ?_
    refine ev_istore (pc := 32) d_Reckoner_reckonSection_32 (by decide) [(4, _), (3, _), (2, _), (0, _), (1, _)] rfl ?_
    refine ev_iload_n (pc := 34) d_Reckoner_reckonSection_34 rfl rfl ?_
    refine ev_ldc (pc := 35) d_Reckoner_reckonSection_35 kc_Reckoner_62 ?_
    refine et_icmp_eq (pc := 37) (tgt := 47) d_Reckoner_reckonSection_37 (by decide) (fun hj11 => ?_) (fun hj11 => ?_)
    · rw [if_pos hj11] at hp
      refine ev_sub (ls2 := []) [] rfl ?_
      exact e_Reckoner_reckonSection_47 t ok  hQ    x9.2.1 x9.2.2 hp
    · rw [if_neg hj11] at hp
      refine ev_iload (pc := 40) d_Reckoner_reckonSection_40 rfl ?_
      refine ev_ldc (pc := 42) d_Reckoner_reckonSection_42 kc_Reckoner_62 ?_
      refine et_icmp_ne (pc := 44) (tgt := 49) d_Reckoner_reckonSection_44 (by decide) (fun hj12 => ?_) (fun hj12 => ?_)
      · rw [if_neg hj12] at hp
        refine et_aload_n (pc := 49) d_Reckoner_reckonSection_49 rfl rfl ?_
        refine ev_iload_n (pc := 50) d_Reckoner_reckonSection_50 rfl rfl ?_
        refine et_puti (pc := 51) ok (fl_Reckoner_84 t) d_Reckoner_reckonSection_51 (s_28 _ (by omega) (by omega)) ?_
        replace hp := q_let_of hp
        obtain ⟨f13, hz, hp⟩ := hp
        rw [← hz]
        clear hz
        refine et_aload_n (pc := 54) d_Reckoner_reckonSection_54 rfl rfl ?_
        refine ev_iload (pc := 55) d_Reckoner_reckonSection_55 rfl ?_
        refine et_puti (pc := 57) ok (fl_Reckoner_87 t) d_Reckoner_reckonSection_57 (s_28 _ (by omega) (by omega)) ?_
        replace hp := q_let_of hp
        obtain ⟨f14, hz, hp⟩ := hp
        rw [← hz]
        clear hz
        refine et_aload_n (pc := 60) d_Reckoner_reckonSection_60 rfl rfl ?_
        refine et_aload_n (pc := 61) d_Reckoner_reckonSection_61 rfl rfl ?_
        refine et_aload_n (pc := 62) d_Reckoner_reckonSection_62 rfl rfl ?_
        replace hp := q_bind hp
        obtain ⟨x15, hm16, hp⟩ := hp
        refine et_callVi (pc := 63) (f1 := x15.2.1) (g1 := x15.2.2) ok [q_a t (x1.1)] [q_a t (x1.1)] (cf_Reckoner_90 t) d_Reckoner_reckonSection_63 s_55 k_9 rfl (t_Reckoner_putItems t ok (x1.1) f14 x9.2.2 hm16 ⟨rfl, rfl⟩) rfl rfl (by decide) (by decide) (q_ble rfl) ?_
        refine ev_iload_n (pc := 66) d_Reckoner_reckonSection_66 rfl rfl ?_
        refine ev_isub (pc := 67) d_Reckoner_reckonSection_67 ?_
        refine et_puti (pc := 68) ok (fl_Reckoner_94 t) d_Reckoner_reckonSection_68 (s_28 _ (by omega) (by omega)) ?_
        replace hp := q_let_of hp
        obtain ⟨f17, hz, hp⟩ := hp
        rw [← hz]
        clear hz
        refine ev_iconst (pc := 71) d_Reckoner_reckonSection_71 ?_
        cases Option.some.inj hp
        exact et_zret (pc := 72) d_Reckoner_reckonSection_72 rfl (by decide) hQ
      · rw [if_pos hj12] at hp
        refine ev_sub (ls2 := []) [] rfl ?_
        exact e_Reckoner_reckonSection_47 t ok  hQ    x9.2.1 x9.2.2 hp
  · rw [if_neg hj6] at hp
    refine ev_iconst (pc := 16) d_Reckoner_reckonSection_16 ?_
    cases Option.some.inj hp
    exact et_zret (pc := 17) d_Reckoner_reckonSection_17 rfl (by decide) hQ
theorem d_Reckoner_reckonSymbol_0 : decode (m_c m_Reckoner_reckonSymbol) 0 = .ok (.aload_n 1, 1) := by decide +kernel
theorem d_Reckoner_reckonSymbol_1 : decode (m_c m_Reckoner_reckonSymbol) 1 = .ok (.getfield 63, 3) := by decide +kernel
theorem d_Reckoner_reckonSymbol_4 : decode (m_c m_Reckoner_reckonSymbol) 4 = .ok (.ifCond .eq 12, 3) := by decide +kernel
theorem d_Reckoner_reckonSymbol_7 : decode (m_c m_Reckoner_reckonSymbol) 7 = .ok (.aload_n 1, 1) := by decide +kernel
theorem d_Reckoner_reckonSymbol_8 : decode (m_c m_Reckoner_reckonSymbol) 8 = .ok (.getfield 59, 3) := by decide +kernel
theorem d_Reckoner_reckonSymbol_11 : decode (m_c m_Reckoner_reckonSymbol) 11 = .ok (.ldc 62, 2) := by decide +kernel
theorem d_Reckoner_reckonSymbol_13 : decode (m_c m_Reckoner_reckonSymbol) 13 = .ok (.if_icmp .eq 5, 3) := by decide +kernel
theorem d_Reckoner_reckonSymbol_16 : decode (m_c m_Reckoner_reckonSymbol) 16 = .ok (.iconst 0, 1) := by decide +kernel
theorem d_Reckoner_reckonSymbol_17 : decode (m_c m_Reckoner_reckonSymbol) 17 = .ok (.ireturn, 1) := by decide +kernel
theorem d_Reckoner_reckonSymbol_18 : decode (m_c m_Reckoner_reckonSymbol) 18 = .ok (.aload_n 1, 1) := by decide +kernel
theorem d_Reckoner_reckonSymbol_19 : decode (m_c m_Reckoner_reckonSymbol) 19 = .ok (.aload_n 0, 1) := by decide +kernel
theorem d_Reckoner_reckonSymbol_20 : decode (m_c m_Reckoner_reckonSymbol) 20 = .ok (.aload_n 1, 1) := by decide +kernel
theorem d_Reckoner_reckonSymbol_21 : decode (m_c m_Reckoner_reckonSymbol) 21 = .ok (.getfield 66, 3) := by decide +kernel
theorem d_Reckoner_reckonSymbol_24 : decode (m_c m_Reckoner_reckonSymbol) 24 = .ok (.aload_n 1, 1) := by decide +kernel
theorem d_Reckoner_reckonSymbol_25 : decode (m_c m_Reckoner_reckonSymbol) 25 = .ok (.getfield 69, 3) := by decide +kernel
theorem d_Reckoner_reckonSymbol_28 : decode (m_c m_Reckoner_reckonSymbol) 28 = .ok (.invokevirtual 72, 3) := by decide +kernel
theorem d_Reckoner_reckonSymbol_31 : decode (m_c m_Reckoner_reckonSymbol) 31 = .ok (.putfield 59, 3) := by decide +kernel
theorem d_Reckoner_reckonSymbol_34 : decode (m_c m_Reckoner_reckonSymbol) 34 = .ok (.aload_n 1, 1) := by decide +kernel
theorem d_Reckoner_reckonSymbol_35 : decode (m_c m_Reckoner_reckonSymbol) 35 = .ok (.getfield 59, 3) := by decide +kernel
theorem d_Reckoner_reckonSymbol_38 : decode (m_c m_Reckoner_reckonSymbol) 38 = .ok (.ldc 62, 2) := by decide +kernel
theorem d_Reckoner_reckonSymbol_40 : decode (m_c m_Reckoner_reckonSymbol) 40 = .ok (.if_icmp .eq 7, 3) := by decide +kernel
theorem d_Reckoner_reckonSymbol_43 : decode (m_c m_Reckoner_reckonSymbol) 43 = .ok (.iconst 1, 1) := by decide +kernel
theorem d_Reckoner_reckonSymbol_44 : decode (m_c m_Reckoner_reckonSymbol) 44 = .ok (.goto 4, 3) := by decide +kernel
theorem d_Reckoner_reckonSymbol_47 : decode (m_c m_Reckoner_reckonSymbol) 47 = .ok (.iconst 0, 1) := by decide +kernel
theorem d_Reckoner_reckonSymbol_48 : decode (m_c m_Reckoner_reckonSymbol) 48 = .ok (.ireturn, 1) := by decide +kernel
def p_Reckoner_reckonSymbol_48   (s0 : Int) (f g : q_F) : Option (Int × q_F × q_F) :=
  if s0 = 0 ∨ s0 = 1 then
    some (s0, f, g)
  else none
def p_Reckoner_reckonSymbol_16    (f g : q_F) : Option (Int × q_F × q_F) :=
  some (0, f, g)
def p_Reckoner_reckonSymbol  (a1 : Nat) (f g : q_F) : Option (Int × q_F × q_F) :=
  if 36 ≤ a1 ∧ a1 < 54 then
    if q_sw (f a1 1) = 0 then
      p_Reckoner_reckonSymbol_16    f g
    else
      if q_sw (f a1 4) = q_sw (-1000000000) then
        (p_Reckoner_valueOf (f a1 2) (f a1 3) f g).bind fun x3 =>
        q_let (ma_up x3.2.1 a1 4 x3.1) fun f5 =>
        if q_sw (f5 a1 4) = q_sw (-1000000000) then
          p_Reckoner_reckonSymbol_48   (0) f5 x3.2.2
        else
          p_Reckoner_reckonSymbol_48   (1) f5 x3.2.2
      else
        p_Reckoner_reckonSymbol_16    f g
  else none
theorem e_Reckoner_reckonSymbol_48 (t : q_V) (ok : ma_ok (q_G t))  {Q : Option Value → ma_H → Prop} {y : Int × q_F × q_F} (hQ : Q (some (ma_i y.1)) (q_h y.2.1 y.2.2))   (s0 : Int) (f g : q_F) (hp : p_Reckoner_reckonSymbol_48   s0 f g = some y) : ma_Ev (q_G t) 4 89 0 0 m_Reckoner_reckonSymbol 48 [] [ma_i (s0)] (q_h f g) (ma_zr (q_G t) false Q) := by
  unfold p_Reckoner_reckonSymbol_48 at hp
  replace hp := q_if hp
  obtain ⟨hb1, hp⟩ := hp
  cases Option.some.inj hp
  exact et_zret (pc := 48) d_Reckoner_reckonSymbol_48 rfl hb1 hQ
theorem e_Reckoner_reckonSymbol_16 (t : q_V) (ok : ma_ok (q_G t))  {Q : Option Value → ma_H → Prop} {y : Int × q_F × q_F} (hQ : Q (some (ma_i y.1)) (q_h y.2.1 y.2.2))    (f g : q_F) (hp : p_Reckoner_reckonSymbol_16    f g = some y) : ma_Ev (q_G t) 4 89 0 0 m_Reckoner_reckonSymbol 16 [] [] (q_h f g) (ma_zr (q_G t) false Q) := by
  unfold p_Reckoner_reckonSymbol_16 at hp
  refine ev_iconst (pc := 16) d_Reckoner_reckonSymbol_16 ?_
  cases Option.some.inj hp
  exact et_zret (pc := 17) d_Reckoner_reckonSymbol_17 rfl (by decide) hQ
theorem t_Reckoner_reckonSymbol (t : q_V) (ok : ma_ok (q_G t))  {Q : Option Value → ma_H → Prop} {y : Int × q_F × q_F} (a1 : Nat) (f g : q_F) (hp : p_Reckoner_reckonSymbol  a1 f g = some y) (hQ : Q (some (ma_i y.1)) (q_h y.2.1 y.2.2)) : ma_Met (q_G t) false 4 89 0 0 m_Reckoner_reckonSymbol [q_a t (55), q_a t (a1)] (q_h f g) Q := by
  refine ma_met (by decide +kernel) (q_ble rfl) rfl ?_
  change ma_Ev (q_G t) 4 89 0 0 m_Reckoner_reckonSymbol 0 [(0, q_a t (55)), (1, q_a t (a1))] [] (q_h f g) (ma_zr (q_G t) false Q)
  unfold p_Reckoner_reckonSymbol at hp
  replace hp := q_if hp
  obtain ⟨hb_a1, hp⟩ := hp
  refine et_aload_n (pc := 0) d_Reckoner_reckonSymbol_0 rfl rfl ?_
  refine et_geti (pc := 1) ok (fl_Reckoner_63 t) rfl d_Reckoner_reckonSymbol_1 (s_36 _ (by omega) (by omega)) ?_
  refine et_if_eq (pc := 4) (tgt := 16) d_Reckoner_reckonSymbol_4 (by decide) (fun hj1 => ?_) (fun hj1 => ?_)
  · rw [if_pos hj1] at hp
    refine ev_sub (ls2 := []) [] rfl ?_
    exact e_Reckoner_reckonSymbol_16 t ok  hQ    f g hp
  · rw [if_neg hj1] at hp
    refine et_aload_n (pc := 7) d_Reckoner_reckonSymbol_7 rfl rfl ?_
    refine et_geti (pc := 8) ok (fl_Reckoner_59 t) rfl d_Reckoner_reckonSymbol_8 (s_36 _ (by omega) (by omega)) ?_
    refine ev_ldc (pc := 11) d_Reckoner_reckonSymbol_11 kc_Reckoner_62 ?_
    refine et_icmp_eq (pc := 13) (tgt := 18) d_Reckoner_reckonSymbol_13 (by decide) (fun hj2 => ?_) (fun hj2 => ?_)
    · rw [if_pos hj2] at hp
      refine et_aload_n (pc := 18) d_Reckoner_reckonSymbol_18 rfl rfl ?_
      refine et_aload_n (pc := 19) d_Reckoner_reckonSymbol_19 rfl rfl ?_
      refine et_aload_n (pc := 20) d_Reckoner_reckonSymbol_20 rfl rfl ?_
      refine et_geti (pc := 21) ok (fl_Reckoner_66 t) rfl d_Reckoner_reckonSymbol_21 (s_36 _ (by omega) (by omega)) ?_
      refine et_aload_n (pc := 24) d_Reckoner_reckonSymbol_24 rfl rfl ?_
      refine et_geti (pc := 25) ok (fl_Reckoner_69 t) rfl d_Reckoner_reckonSymbol_25 (s_36 _ (by omega) (by omega)) ?_
      replace hp := q_bind hp
      obtain ⟨x3, hm4, hp⟩ := hp
      refine et_callVi (pc := 28) (f1 := x3.2.1) (g1 := x3.2.2) ok [ma_i (f a1 2), ma_i (f a1 3)] [q_a t (a1)] (cf_Reckoner_72 t) d_Reckoner_reckonSymbol_28 s_55 k_9 rfl (t_Reckoner_valueOf t ok (f a1 2) (f a1 3) f g hm4 ⟨rfl, rfl⟩) rfl rfl (by decide) (by decide) (q_ble rfl) ?_
      refine et_puti (pc := 31) ok (fl_Reckoner_59 t) d_Reckoner_reckonSymbol_31 (s_36 _ (by omega) (by omega)) ?_
      replace hp := q_let_of hp
      obtain ⟨f5, hz, hp⟩ := hp
      rw [← hz]
      clear hz
      refine et_aload_n (pc := 34) d_Reckoner_reckonSymbol_34 rfl rfl ?_
      refine et_geti (pc := 35) ok (fl_Reckoner_59 t) rfl d_Reckoner_reckonSymbol_35 (s_36 _ (by omega) (by omega)) ?_
      refine ev_ldc (pc := 38) d_Reckoner_reckonSymbol_38 kc_Reckoner_62 ?_
      refine et_icmp_eq (pc := 40) (tgt := 47) d_Reckoner_reckonSymbol_40 (by decide) (fun hj6 => ?_) (fun hj6 => ?_)
      · rw [if_pos hj6] at hp
        refine ev_iconst (pc := 47) d_Reckoner_reckonSymbol_47 ?_
        refine ev_sub (ls2 := []) [] rfl ?_
        exact e_Reckoner_reckonSymbol_48 t ok  hQ   (0) f5 x3.2.2 hp
      · rw [if_neg hj6] at hp
        refine ev_iconst (pc := 43) d_Reckoner_reckonSymbol_43 ?_
        refine ev_goto (pc := 44) (tgt := 48) d_Reckoner_reckonSymbol_44 (by decide) ?_
        refine ev_sub (ls2 := []) [] rfl ?_
        exact e_Reckoner_reckonSymbol_48 t ok  hQ   (1) f5 x3.2.2 hp
    · rw [if_neg hj2] at hp
      refine ev_sub (ls2 := []) [] rfl ?_
      exact e_Reckoner_reckonSymbol_16 t ok  hQ    f g hp
theorem d_Reckoner_allKnown_0 : decode (m_c m_Reckoner_allKnown) 0 = .ok (.iconst 0, 1) := by decide +kernel
theorem d_Reckoner_allKnown_1 : decode (m_c m_Reckoner_allKnown) 1 = .ok (.istore_n 1, 1) := by decide +kernel
theorem d_Reckoner_allKnown_2 : decode (m_c m_Reckoner_allKnown) 2 = .ok (.iload_n 1, 1) := by decide +kernel
theorem d_Reckoner_allKnown_3 : decode (m_c m_Reckoner_allKnown) 3 = .ok (.aload_n 0, 1) := by decide +kernel
theorem d_Reckoner_allKnown_4 : decode (m_c m_Reckoner_allKnown) 4 = .ok (.getfield 19, 3) := by decide +kernel
theorem d_Reckoner_allKnown_7 : decode (m_c m_Reckoner_allKnown) 7 = .ok (.getfield 23, 3) := by decide +kernel
theorem d_Reckoner_allKnown_10 : decode (m_c m_Reckoner_allKnown) 10 = .ok (.if_icmp .ge 25, 3) := by decide +kernel
theorem d_Reckoner_allKnown_13 : decode (m_c m_Reckoner_allKnown) 13 = .ok (.aload_n 0, 1) := by decide +kernel
theorem d_Reckoner_allKnown_14 : decode (m_c m_Reckoner_allKnown) 14 = .ok (.getfield 19, 3) := by decide +kernel
theorem d_Reckoner_allKnown_17 : decode (m_c m_Reckoner_allKnown) 17 = .ok (.iload_n 1, 1) := by decide +kernel
theorem d_Reckoner_allKnown_18 : decode (m_c m_Reckoner_allKnown) 18 = .ok (.invokevirtual 44, 3) := by decide +kernel
theorem d_Reckoner_allKnown_21 : decode (m_c m_Reckoner_allKnown) 21 = .ok (.invokevirtual 48, 3) := by decide +kernel
theorem d_Reckoner_allKnown_24 : decode (m_c m_Reckoner_allKnown) 24 = .ok (.ifCond .ne 5, 3) := by decide +kernel
theorem d_Reckoner_allKnown_27 : decode (m_c m_Reckoner_allKnown) 27 = .ok (.iconst 0, 1) := by decide +kernel
theorem d_Reckoner_allKnown_28 : decode (m_c m_Reckoner_allKnown) 28 = .ok (.ireturn, 1) := by decide +kernel
theorem d_Reckoner_allKnown_29 : decode (m_c m_Reckoner_allKnown) 29 = .ok (.iinc 1 1, 3) := by decide +kernel
theorem d_Reckoner_allKnown_32 : decode (m_c m_Reckoner_allKnown) 32 = .ok (.goto (-30), 3) := by decide +kernel
theorem d_Reckoner_allKnown_35 : decode (m_c m_Reckoner_allKnown) 35 = .ok (.iconst 0, 1) := by decide +kernel
theorem d_Reckoner_allKnown_36 : decode (m_c m_Reckoner_allKnown) 36 = .ok (.istore_n 1, 1) := by decide +kernel
theorem d_Reckoner_allKnown_37 : decode (m_c m_Reckoner_allKnown) 37 = .ok (.iload_n 1, 1) := by decide +kernel
theorem d_Reckoner_allKnown_38 : decode (m_c m_Reckoner_allKnown) 38 = .ok (.bipush 18, 2) := by decide +kernel
theorem d_Reckoner_allKnown_40 : decode (m_c m_Reckoner_allKnown) 40 = .ok (.if_icmp .ge 43, 3) := by decide +kernel
theorem d_Reckoner_allKnown_43 : decode (m_c m_Reckoner_allKnown) 43 = .ok (.aload_n 0, 1) := by decide +kernel
theorem d_Reckoner_allKnown_44 : decode (m_c m_Reckoner_allKnown) 44 = .ok (.getfield 19, 3) := by decide +kernel
theorem d_Reckoner_allKnown_47 : decode (m_c m_Reckoner_allKnown) 47 = .ok (.getfield 32, 3) := by decide +kernel
theorem d_Reckoner_allKnown_50 : decode (m_c m_Reckoner_allKnown) 50 = .ok (.iload_n 1, 1) := by decide +kernel
theorem d_Reckoner_allKnown_51 : decode (m_c m_Reckoner_allKnown) 51 = .ok (.aaload, 1) := by decide +kernel
theorem d_Reckoner_allKnown_52 : decode (m_c m_Reckoner_allKnown) 52 = .ok (.getfield 53, 3) := by decide +kernel
theorem d_Reckoner_allKnown_55 : decode (m_c m_Reckoner_allKnown) 55 = .ok (.ifCond .eq 22, 3) := by decide +kernel
theorem d_Reckoner_allKnown_58 : decode (m_c m_Reckoner_allKnown) 58 = .ok (.aload_n 0, 1) := by decide +kernel
theorem d_Reckoner_allKnown_59 : decode (m_c m_Reckoner_allKnown) 59 = .ok (.getfield 19, 3) := by decide +kernel
theorem d_Reckoner_allKnown_62 : decode (m_c m_Reckoner_allKnown) 62 = .ok (.getfield 32, 3) := by decide +kernel
theorem d_Reckoner_allKnown_65 : decode (m_c m_Reckoner_allKnown) 65 = .ok (.iload_n 1, 1) := by decide +kernel
theorem d_Reckoner_allKnown_66 : decode (m_c m_Reckoner_allKnown) 66 = .ok (.aaload, 1) := by decide +kernel
theorem d_Reckoner_allKnown_67 : decode (m_c m_Reckoner_allKnown) 67 = .ok (.getfield 59, 3) := by decide +kernel
theorem d_Reckoner_allKnown_70 : decode (m_c m_Reckoner_allKnown) 70 = .ok (.ldc 62, 2) := by decide +kernel
theorem d_Reckoner_allKnown_72 : decode (m_c m_Reckoner_allKnown) 72 = .ok (.if_icmp .ne 5, 3) := by decide +kernel
theorem d_Reckoner_allKnown_75 : decode (m_c m_Reckoner_allKnown) 75 = .ok (.iconst 0, 1) := by decide +kernel
theorem d_Reckoner_allKnown_76 : decode (m_c m_Reckoner_allKnown) 76 = .ok (.ireturn, 1) := by decide +kernel
theorem d_Reckoner_allKnown_77 : decode (m_c m_Reckoner_allKnown) 77 = .ok (.iinc 1 1, 3) := by decide +kernel
theorem d_Reckoner_allKnown_80 : decode (m_c m_Reckoner_allKnown) 80 = .ok (.goto (-43), 3) := by decide +kernel
theorem d_Reckoner_allKnown_83 : decode (m_c m_Reckoner_allKnown) 83 = .ok (.iconst 1, 1) := by decide +kernel
theorem d_Reckoner_allKnown_84 : decode (m_c m_Reckoner_allKnown) 84 = .ok (.ireturn, 1) := by decide +kernel
def p_Reckoner_allKnown_77  (c37 : Int → q_F → q_F → Option (Int × q_F × q_F)) (v1 : Int) (f g : q_F) : Option (Int × q_F × q_F) :=
  q_let (v1 + 1) fun z1 =>
  c37 (z1) f g
def p_Reckoner_allKnown_37   : Nat → Int → q_F → q_F → Option (Int × q_F × q_F)
  | 0, _, _, _ => none
  | n + 1, v1, f, g =>
    if q_sw 18 ≤ q_sw v1 then
      some (1, f, g)
    else
      if 0 ≤ v1 ∧ v1 < 18 then
        if q_sw (f (36 + Int.toNat v1) 0) = 0 then
          p_Reckoner_allKnown_77  (p_Reckoner_allKnown_37   n) (v1) f g
        else
          if 0 ≤ v1 ∧ v1 < 18 then
            if q_sw (f (36 + Int.toNat v1) 4) = q_sw (-1000000000) then
              some (0, f, g)
            else
              p_Reckoner_allKnown_77  (p_Reckoner_allKnown_37   n) (v1) f g
          else none
      else none
def p_Reckoner_allKnown_2   : Nat → Int → q_F → q_F → Option (Int × q_F × q_F)
  | 0, _, _, _ => none
  | n + 1, v1, f, g =>
    if q_sw (f 3 7) ≤ q_sw v1 then
      p_Reckoner_allKnown_37   1000 (0) f g
    else
      (p_Plan_sectionAt (v1) f g).bind fun x2 =>
      if 28 ≤ x2.1 ∧ x2.1 < 36 then
        (p_Section_isKnown (x2.1) x2.2.1 x2.2.2).bind fun x5 =>
        if q_sw x5.1 = 0 then
          some (0, x5.2.1, x5.2.2)
        else
          q_let (v1 + 1) fun z8 =>
          (p_Reckoner_allKnown_2   n) (z8) x5.2.1 x5.2.2
      else none
def p_Reckoner_allKnown   (f g : q_F) : Option (Int × q_F × q_F) :=
  p_Reckoner_allKnown_2   1000 (0) f g
theorem e_Reckoner_allKnown_77 (t : q_V) (ok : ma_ok (q_G t))  {Q : Option Value → ma_H → Prop} {y : Int × q_F × q_F} (hQ : Q (some (ma_i y.1)) (q_h y.2.1 y.2.2)) (c37 : Int → q_F → q_F → Option (Int × q_F × q_F)) (hc37 : ∀ (v1 : Int) (f g : q_F), c37 v1 f g = some y → ma_Ev (q_G t) 1 21 0 0 m_Reckoner_allKnown 37 [(0, q_a t (55)), (1, ma_i (v1))] [] (q_h f g) (ma_zr (q_G t) false Q)) (v1 : Int) (f g : q_F) (hp : p_Reckoner_allKnown_77  c37 v1 f g = some y) : ma_Ev (q_G t) 1 21 0 0 m_Reckoner_allKnown 77 [(0, q_a t (55)), (1, ma_i (v1))] [] (q_h f g) (ma_zr (q_G t) false Q) := by
  unfold p_Reckoner_allKnown_77 at hp
  refine ev_iinc (pc := 77) d_Reckoner_allKnown_77 (by decide) rfl [(1, _), (0, _)] rfl ?_
  replace hp := q_let_of hp
  obtain ⟨z1, hz, hp⟩ := hp
  rw [← hz]
  clear hz
  refine ev_goto (pc := 80) (tgt := 37) d_Reckoner_allKnown_80 (by decide) ?_
  refine ev_sub (ls2 := [(0, q_a t (55)), (1, ma_i (z1))]) [1, 0] rfl ?_
  exact hc37 (z1) f g hp
theorem e_Reckoner_allKnown_37 (t : q_V) (ok : ma_ok (q_G t))  {Q : Option Value → ma_H → Prop} {y : Int × q_F × q_F} (hQ : Q (some (ma_i y.1)) (q_h y.2.1 y.2.2))   : ∀ (n : Nat) (v1 : Int) (f g : q_F), p_Reckoner_allKnown_37   n v1 f g = some y → ma_Ev (q_G t) 1 21 0 0 m_Reckoner_allKnown 37 [(0, q_a t (55)), (1, ma_i (v1))] [] (q_h f g) (ma_zr (q_G t) false Q) := by
  intro n
  induction n with
  | zero =>
    intro v1 f g hp
    rw [p_Reckoner_allKnown_37] at hp
    cases hp
  | succ n ih =>
    intro v1 f g hp
    rw [p_Reckoner_allKnown_37] at hp
    refine ev_iload_n (pc := 37) d_Reckoner_allKnown_37 rfl rfl ?_
    refine ev_bipush (pc := 38) d_Reckoner_allKnown_38 rfl ?_
    refine et_icmp_ge (pc := 40) (tgt := 83) d_Reckoner_allKnown_40 (by decide) (fun hj1 => ?_) (fun hj1 => ?_)
    · rw [if_pos hj1] at hp
      refine ev_iconst (pc := 83) d_Reckoner_allKnown_83 ?_
      cases Option.some.inj hp
      exact et_zret (pc := 84) d_Reckoner_allKnown_84 rfl (by decide) hQ
    · rw [if_neg hj1] at hp
      refine et_aload_n (pc := 43) d_Reckoner_allKnown_43 rfl rfl ?_
      refine et_getr (pc := 44) ok (fl_Reckoner_19 t) rfl d_Reckoner_allKnown_44 s_55 r_55_0 ?_
      refine et_getr (pc := 47) ok (fl_Reckoner_32 t) rfl d_Reckoner_allKnown_47 s_3 r_3_3 ?_
      refine ev_iload_n (pc := 50) d_Reckoner_allKnown_50 rfl rfl ?_
      replace hp := q_if hp
      obtain ⟨hb2, hp⟩ := hp
      refine et_aald (pc := 51) d_Reckoner_allKnown_51 s_7 hb2 (by decide) (r_7 _ (by omega)) ?_
      refine et_geti (pc := 52) ok (fl_Reckoner_53 t) rfl d_Reckoner_allKnown_52 (s_36 _ (by omega) (by omega)) ?_
      refine et_if_eq (pc := 55) (tgt := 77) d_Reckoner_allKnown_55 (by decide) (fun hj3 => ?_) (fun hj3 => ?_)
      · rw [if_pos hj3] at hp
        refine ev_sub (ls2 := [(0, q_a t (55)), (1, ma_i (v1))]) [0, 1] rfl ?_
        exact e_Reckoner_allKnown_77 t ok  hQ (p_Reckoner_allKnown_37   n) ih (v1) f g hp
      · rw [if_neg hj3] at hp
        refine et_aload_n (pc := 58) d_Reckoner_allKnown_58 rfl rfl ?_
        refine et_getr (pc := 59) ok (fl_Reckoner_19 t) rfl d_Reckoner_allKnown_59 s_55 r_55_0 ?_
        refine et_getr (pc := 62) ok (fl_Reckoner_32 t) rfl d_Reckoner_allKnown_62 s_3 r_3_3 ?_
        refine ev_iload_n (pc := 65) d_Reckoner_allKnown_65 rfl rfl ?_
        replace hp := q_if hp
        obtain ⟨hb4, hp⟩ := hp
        refine et_aald (pc := 66) d_Reckoner_allKnown_66 s_7 hb4 (by decide) (r_7 _ (by omega)) ?_
        refine et_geti (pc := 67) ok (fl_Reckoner_59 t) rfl d_Reckoner_allKnown_67 (s_36 _ (by omega) (by omega)) ?_
        refine ev_ldc (pc := 70) d_Reckoner_allKnown_70 kc_Reckoner_62 ?_
        refine et_icmp_ne (pc := 72) (tgt := 77) d_Reckoner_allKnown_72 (by decide) (fun hj5 => ?_) (fun hj5 => ?_)
        · rw [if_neg hj5] at hp
          refine ev_sub (ls2 := [(0, q_a t (55)), (1, ma_i (v1))]) [0, 1] rfl ?_
          exact e_Reckoner_allKnown_77 t ok  hQ (p_Reckoner_allKnown_37   n) ih (v1) f g hp
        · rw [if_pos hj5] at hp
          refine ev_iconst (pc := 75) d_Reckoner_allKnown_75 ?_
          cases Option.some.inj hp
          exact et_zret (pc := 76) d_Reckoner_allKnown_76 rfl (by decide) hQ
theorem e_Reckoner_allKnown_2 (t : q_V) (ok : ma_ok (q_G t))  {Q : Option Value → ma_H → Prop} {y : Int × q_F × q_F} (hQ : Q (some (ma_i y.1)) (q_h y.2.1 y.2.2))   : ∀ (n : Nat) (v1 : Int) (f g : q_F), p_Reckoner_allKnown_2   n v1 f g = some y → ma_Ev (q_G t) 1 21 0 0 m_Reckoner_allKnown 2 [(0, q_a t (55)), (1, ma_i (v1))] [] (q_h f g) (ma_zr (q_G t) false Q) := by
  intro n
  induction n with
  | zero =>
    intro v1 f g hp
    rw [p_Reckoner_allKnown_2] at hp
    cases hp
  | succ n ih =>
    intro v1 f g hp
    rw [p_Reckoner_allKnown_2] at hp
    refine ev_iload_n (pc := 2) d_Reckoner_allKnown_2 rfl rfl ?_
    refine et_aload_n (pc := 3) d_Reckoner_allKnown_3 rfl rfl ?_
    refine et_getr (pc := 4) ok (fl_Reckoner_19 t) rfl d_Reckoner_allKnown_4 s_55 r_55_0 ?_
    refine et_geti (pc := 7) ok (fl_Reckoner_23 t) rfl d_Reckoner_allKnown_7 s_3 ?_
    refine et_icmp_ge (pc := 10) (tgt := 35) d_Reckoner_allKnown_10 (by decide) (fun hj1 => ?_) (fun hj1 => ?_)
    · rw [if_pos hj1] at hp
      refine ev_iconst (pc := 35) d_Reckoner_allKnown_35 ?_
      refine ev_istore_n (pc := 36) d_Reckoner_allKnown_36 rfl (by decide) [(1, _), (0, _)] rfl ?_
      refine ev_sub (ls2 := [(0, q_a t (55)), (1, ma_i (0))]) [1, 0] rfl ?_
      exact e_Reckoner_allKnown_37 t ok  hQ   1000 (0) f g hp
    · rw [if_neg hj1] at hp
      refine et_aload_n (pc := 13) d_Reckoner_allKnown_13 rfl rfl ?_
      refine et_getr (pc := 14) ok (fl_Reckoner_19 t) rfl d_Reckoner_allKnown_14 s_55 r_55_0 ?_
      refine ev_iload_n (pc := 17) d_Reckoner_allKnown_17 rfl rfl ?_
      replace hp := q_bind hp
      obtain ⟨x2, hm3, hp⟩ := hp
      refine et_callVr (pc := 18) (f1 := x2.2.1) (g1 := x2.2.2) ok [ma_i (v1)] [] (cf_Reckoner_44 t) d_Reckoner_allKnown_18 s_3 k_7 rfl (t_Plan_sectionAt t ok (v1) f g hm3 ⟨rfl, rfl⟩) rfl rfl (by decide) (by decide) (q_ble rfl) ?_
      replace hp := q_if hp
      obtain ⟨hb4, hp⟩ := hp
      replace hp := q_bind hp
      obtain ⟨x5, hm6, hp⟩ := hp
      refine et_callVi (pc := 21) (f1 := x5.2.1) (g1 := x5.2.2) ok [] [] (cf_Reckoner_48 t) d_Reckoner_allKnown_21 (s_28 _ (by omega) (by omega)) k_4 rfl (t_Section_isKnown t ok (x2.1) x2.2.1 x2.2.2 hm6 ⟨rfl, rfl⟩) rfl rfl (by decide) (by decide) (q_ble rfl) ?_
      refine et_if_ne (pc := 24) (tgt := 29) d_Reckoner_allKnown_24 (by decide) (fun hj7 => ?_) (fun hj7 => ?_)
      · rw [if_neg hj7] at hp
        refine ev_iinc (pc := 29) d_Reckoner_allKnown_29 (by decide) rfl [(1, _), (0, _)] rfl ?_
        replace hp := q_let_of hp
        obtain ⟨z8, hz, hp⟩ := hp
        rw [← hz]
        clear hz
        refine ev_goto (pc := 32) (tgt := 2) d_Reckoner_allKnown_32 (by decide) ?_
        refine ev_sub (ls2 := [(0, q_a t (55)), (1, ma_i (z8))]) [1, 0] rfl ?_
        exact ih (z8) x5.2.1 x5.2.2 hp
      · rw [if_pos hj7] at hp
        refine ev_iconst (pc := 27) d_Reckoner_allKnown_27 ?_
        cases Option.some.inj hp
        exact et_zret (pc := 28) d_Reckoner_allKnown_28 rfl (by decide) hQ
theorem t_Reckoner_allKnown (t : q_V) (ok : ma_ok (q_G t))  {Q : Option Value → ma_H → Prop} {y : Int × q_F × q_F}  (f g : q_F) (hp : p_Reckoner_allKnown   f g = some y) (hQ : Q (some (ma_i y.1)) (q_h y.2.1 y.2.2)) : ma_Met (q_G t) false 1 21 0 0 m_Reckoner_allKnown [q_a t (55)] (q_h f g) Q := by
  refine ma_met (by decide +kernel) (q_ble rfl) rfl ?_
  change ma_Ev (q_G t) 1 21 0 0 m_Reckoner_allKnown 0 [(0, q_a t (55))] [] (q_h f g) (ma_zr (q_G t) false Q)
  unfold p_Reckoner_allKnown at hp
  refine ev_iconst (pc := 0) d_Reckoner_allKnown_0 ?_
  refine ev_istore_n (pc := 1) d_Reckoner_allKnown_1 rfl (by decide) [(1, _), (0, _)] rfl ?_
  refine ev_sub (ls2 := [(0, q_a t (55)), (1, ma_i (0))]) [1, 0] rfl ?_
  exact e_Reckoner_allKnown_2 t ok  hQ   1000 (0) f g hp
theorem d_Reckoner_reckonAll_0 : decode (m_c m_Reckoner_reckonAll) 0 = .ok (.iconst 1, 1) := by decide +kernel
theorem d_Reckoner_reckonAll_1 : decode (m_c m_Reckoner_reckonAll) 1 = .ok (.istore_n 1, 1) := by decide +kernel
theorem d_Reckoner_reckonAll_2 : decode (m_c m_Reckoner_reckonAll) 2 = .ok (.iconst 0, 1) := by decide +kernel
theorem d_Reckoner_reckonAll_3 : decode (m_c m_Reckoner_reckonAll) 3 = .ok (.istore_n 2, 1) := by decide +kernel
theorem d_Reckoner_reckonAll_4 : decode (m_c m_Reckoner_reckonAll) 4 = .ok (.iload_n 1, 1) := by decide +kernel
theorem d_Reckoner_reckonAll_5 : decode (m_c m_Reckoner_reckonAll) 5 = .ok (.ifCond .eq 94, 3) := by decide +kernel
theorem d_Reckoner_reckonAll_8 : decode (m_c m_Reckoner_reckonAll) 8 = .ok (.iload_n 2, 1) := by decide +kernel
theorem d_Reckoner_reckonAll_9 : decode (m_c m_Reckoner_reckonAll) 9 = .ok (.bipush 26, 2) := by decide +kernel
theorem d_Reckoner_reckonAll_11 : decode (m_c m_Reckoner_reckonAll) 11 = .ok (.if_icmp .ge 88, 3) := by decide +kernel
theorem d_Reckoner_reckonAll_14 : decode (m_c m_Reckoner_reckonAll) 14 = .ok (.iconst 0, 1) := by decide +kernel
theorem d_Reckoner_reckonAll_15 : decode (m_c m_Reckoner_reckonAll) 15 = .ok (.istore_n 1, 1) := by decide +kernel
theorem d_Reckoner_reckonAll_16 : decode (m_c m_Reckoner_reckonAll) 16 = .ok (.iconst 0, 1) := by decide +kernel
theorem d_Reckoner_reckonAll_17 : decode (m_c m_Reckoner_reckonAll) 17 = .ok (.istore_n 3, 1) := by decide +kernel
theorem d_Reckoner_reckonAll_18 : decode (m_c m_Reckoner_reckonAll) 18 = .ok (.iload_n 3, 1) := by decide +kernel
theorem d_Reckoner_reckonAll_19 : decode (m_c m_Reckoner_reckonAll) 19 = .ok (.aload_n 0, 1) := by decide +kernel
theorem d_Reckoner_reckonAll_20 : decode (m_c m_Reckoner_reckonAll) 20 = .ok (.getfield 19, 3) := by decide +kernel
theorem d_Reckoner_reckonAll_23 : decode (m_c m_Reckoner_reckonAll) 23 = .ok (.getfield 23, 3) := by decide +kernel
theorem d_Reckoner_reckonAll_26 : decode (m_c m_Reckoner_reckonAll) 26 = .ok (.if_icmp .ge 27, 3) := by decide +kernel
theorem d_Reckoner_reckonAll_29 : decode (m_c m_Reckoner_reckonAll) 29 = .ok (.aload_n 0, 1) := by decide +kernel
theorem d_Reckoner_reckonAll_30 : decode (m_c m_Reckoner_reckonAll) 30 = .ok (.iload_n 3, 1) := by decide +kernel
theorem d_Reckoner_reckonAll_31 : decode (m_c m_Reckoner_reckonAll) 31 = .ok (.invokevirtual 28, 3) := by decide +kernel
theorem d_Reckoner_reckonAll_34 : decode (m_c m_Reckoner_reckonAll) 34 = .ok (.ifCond .ne 7, 3) := by decide +kernel
theorem d_Reckoner_reckonAll_37 : decode (m_c m_Reckoner_reckonAll) 37 = .ok (.iload_n 1, 1) := by decide +kernel
theorem d_Reckoner_reckonAll_38 : decode (m_c m_Reckoner_reckonAll) 38 = .ok (.ifCond .eq 7, 3) := by decide +kernel
theorem d_Reckoner_reckonAll_41 : decode (m_c m_Reckoner_reckonAll) 41 = .ok (.iconst 1, 1) := by decide +kernel
theorem d_Reckoner_reckonAll_42 : decode (m_c m_Reckoner_reckonAll) 42 = .ok (.goto 4, 3) := by decide +kernel
theorem d_Reckoner_reckonAll_45 : decode (m_c m_Reckoner_reckonAll) 45 = .ok (.iconst 0, 1) := by decide +kernel
theorem d_Reckoner_reckonAll_46 : decode (m_c m_Reckoner_reckonAll) 46 = .ok (.istore_n 1, 1) := by decide +kernel
theorem d_Reckoner_reckonAll_47 : decode (m_c m_Reckoner_reckonAll) 47 = .ok (.iinc 3 1, 3) := by decide +kernel
theorem d_Reckoner_reckonAll_50 : decode (m_c m_Reckoner_reckonAll) 50 = .ok (.goto (-32), 3) := by decide +kernel
theorem d_Reckoner_reckonAll_53 : decode (m_c m_Reckoner_reckonAll) 53 = .ok (.iconst 0, 1) := by decide +kernel
theorem d_Reckoner_reckonAll_54 : decode (m_c m_Reckoner_reckonAll) 54 = .ok (.istore_n 3, 1) := by decide +kernel
theorem d_Reckoner_reckonAll_55 : decode (m_c m_Reckoner_reckonAll) 55 = .ok (.iload_n 3, 1) := by decide +kernel
theorem d_Reckoner_reckonAll_56 : decode (m_c m_Reckoner_reckonAll) 56 = .ok (.bipush 18, 2) := by decide +kernel
theorem d_Reckoner_reckonAll_58 : decode (m_c m_Reckoner_reckonAll) 58 = .ok (.if_icmp .ge 35, 3) := by decide +kernel
theorem d_Reckoner_reckonAll_61 : decode (m_c m_Reckoner_reckonAll) 61 = .ok (.aload_n 0, 1) := by decide +kernel
theorem d_Reckoner_reckonAll_62 : decode (m_c m_Reckoner_reckonAll) 62 = .ok (.aload_n 0, 1) := by decide +kernel
theorem d_Reckoner_reckonAll_63 : decode (m_c m_Reckoner_reckonAll) 63 = .ok (.getfield 19, 3) := by decide +kernel
theorem d_Reckoner_reckonAll_66 : decode (m_c m_Reckoner_reckonAll) 66 = .ok (.getfield 32, 3) := by decide +kernel
theorem d_Reckoner_reckonAll_69 : decode (m_c m_Reckoner_reckonAll) 69 = .ok (.iload_n 3, 1) := by decide +kernel
theorem d_Reckoner_reckonAll_70 : decode (m_c m_Reckoner_reckonAll) 70 = .ok (.aaload, 1) := by decide +kernel
theorem d_Reckoner_reckonAll_71 : decode (m_c m_Reckoner_reckonAll) 71 = .ok (.invokevirtual 36, 3) := by decide +kernel
theorem d_Reckoner_reckonAll_74 : decode (m_c m_Reckoner_reckonAll) 74 = .ok (.ifCond .ne 7, 3) := by decide +kernel
theorem d_Reckoner_reckonAll_77 : decode (m_c m_Reckoner_reckonAll) 77 = .ok (.iload_n 1, 1) := by decide +kernel
theorem d_Reckoner_reckonAll_78 : decode (m_c m_Reckoner_reckonAll) 78 = .ok (.ifCond .eq 7, 3) := by decide +kernel
theorem d_Reckoner_reckonAll_81 : decode (m_c m_Reckoner_reckonAll) 81 = .ok (.iconst 1, 1) := by decide +kernel
theorem d_Reckoner_reckonAll_82 : decode (m_c m_Reckoner_reckonAll) 82 = .ok (.goto 4, 3) := by decide +kernel
theorem d_Reckoner_reckonAll_85 : decode (m_c m_Reckoner_reckonAll) 85 = .ok (.iconst 0, 1) := by decide +kernel
theorem d_Reckoner_reckonAll_86 : decode (m_c m_Reckoner_reckonAll) 86 = .ok (.istore_n 1, 1) := by decide +kernel
theorem d_Reckoner_reckonAll_87 : decode (m_c m_Reckoner_reckonAll) 87 = .ok (.iinc 3 1, 3) := by decide +kernel
theorem d_Reckoner_reckonAll_90 : decode (m_c m_Reckoner_reckonAll) 90 = .ok (.goto (-35), 3) := by decide +kernel
theorem d_Reckoner_reckonAll_93 : decode (m_c m_Reckoner_reckonAll) 93 = .ok (.iinc 2 1, 3) := by decide +kernel
theorem d_Reckoner_reckonAll_96 : decode (m_c m_Reckoner_reckonAll) 96 = .ok (.goto (-92), 3) := by decide +kernel
theorem d_Reckoner_reckonAll_99 : decode (m_c m_Reckoner_reckonAll) 99 = .ok (.aload_n 0, 1) := by decide +kernel
theorem d_Reckoner_reckonAll_100 : decode (m_c m_Reckoner_reckonAll) 100 = .ok (.invokevirtual 40, 3) := by decide +kernel
theorem d_Reckoner_reckonAll_103 : decode (m_c m_Reckoner_reckonAll) 103 = .ok (.ireturn, 1) := by decide +kernel
def p_Reckoner_reckonAll_99    (f g : q_F) : Option (Int × q_F × q_F) :=
  (p_Reckoner_allKnown  f g).bind fun x1 =>
  if x1.1 = 0 ∨ x1.1 = 1 then
    some (x1.1, x1.2.1, x1.2.2)
  else none
def p_Reckoner_reckonAll_86  (c4 : Int → Int → q_F → q_F → Option (Int × q_F × q_F)) (c55 : Int → Int → Int → q_F → q_F → Option (Int × q_F × q_F)) (v2 : Int) (v3 : Int) (s0 : Int) (f g : q_F) : Option (Int × q_F × q_F) :=
  q_let (v3 + 1) fun z1 =>
  c55 (s0) (v2) (z1) f g
def p_Reckoner_reckonAll_81  (c4 : Int → Int → q_F → q_F → Option (Int × q_F × q_F)) (c55 : Int → Int → Int → q_F → q_F → Option (Int × q_F × q_F)) (v2 : Int) (v3 : Int) (f g : q_F) : Option (Int × q_F × q_F) :=
  p_Reckoner_reckonAll_86  c4 c55 (v2) (v3) (1) f g
def p_Reckoner_reckonAll_55  (c4 : Int → Int → q_F → q_F → Option (Int × q_F × q_F)) : Nat → Int → Int → Int → q_F → q_F → Option (Int × q_F × q_F)
  | 0, _, _, _, _, _ => none
  | n + 1, v1, v2, v3, f, g =>
    if q_sw 18 ≤ q_sw v3 then
      q_let (v2 + 1) fun z2 =>
      c4 (v1) (z2) f g
    else
      if 0 ≤ v3 ∧ v3 < 18 then
        (p_Reckoner_reckonSymbol (36 + Int.toNat v3) f g).bind fun x4 =>
        if q_sw x4.1 = 0 then
          if q_sw v1 = 0 then
            p_Reckoner_reckonAll_86  c4 (p_Reckoner_reckonAll_55  c4 n) (v2) (v3) (0) x4.2.1 x4.2.2
          else
            p_Reckoner_reckonAll_81  c4 (p_Reckoner_reckonAll_55  c4 n) (v2) (v3) x4.2.1 x4.2.2
        else
          p_Reckoner_reckonAll_81  c4 (p_Reckoner_reckonAll_55  c4 n) (v2) (v3) x4.2.1 x4.2.2
      else none
def p_Reckoner_reckonAll_46  (c4 : Int → Int → q_F → q_F → Option (Int × q_F × q_F)) (c18 : Int → Int → Int → q_F → q_F → Option (Int × q_F × q_F)) (v2 : Int) (v3 : Int) (s0 : Int) (f g : q_F) : Option (Int × q_F × q_F) :=
  q_let (v3 + 1) fun z1 =>
  c18 (s0) (v2) (z1) f g
def p_Reckoner_reckonAll_41  (c4 : Int → Int → q_F → q_F → Option (Int × q_F × q_F)) (c18 : Int → Int → Int → q_F → q_F → Option (Int × q_F × q_F)) (v2 : Int) (v3 : Int) (f g : q_F) : Option (Int × q_F × q_F) :=
  p_Reckoner_reckonAll_46  c4 c18 (v2) (v3) (1) f g
def p_Reckoner_reckonAll_18  (c4 : Int → Int → q_F → q_F → Option (Int × q_F × q_F)) : Nat → Int → Int → Int → q_F → q_F → Option (Int × q_F × q_F)
  | 0, _, _, _, _, _ => none
  | n + 1, v1, v2, v3, f, g =>
    if q_sw (f 3 7) ≤ q_sw v3 then
      p_Reckoner_reckonAll_55  c4 1000 (v1) (v2) (0) f g
    else
      (p_Reckoner_reckonSection (v3) f g).bind fun x2 =>
      if q_sw x2.1 = 0 then
        if q_sw v1 = 0 then
          p_Reckoner_reckonAll_46  c4 (p_Reckoner_reckonAll_18  c4 n) (v2) (v3) (0) x2.2.1 x2.2.2
        else
          p_Reckoner_reckonAll_41  c4 (p_Reckoner_reckonAll_18  c4 n) (v2) (v3) x2.2.1 x2.2.2
      else
        p_Reckoner_reckonAll_41  c4 (p_Reckoner_reckonAll_18  c4 n) (v2) (v3) x2.2.1 x2.2.2
def p_Reckoner_reckonAll_4   : Nat → Int → Int → q_F → q_F → Option (Int × q_F × q_F)
  | 0, _, _, _, _ => none
  | n + 1, v1, v2, f, g =>
    if q_sw v1 = 0 then
      p_Reckoner_reckonAll_99    f g
    else
      if q_sw 26 ≤ q_sw v2 then
        p_Reckoner_reckonAll_99    f g
      else
        p_Reckoner_reckonAll_18  (p_Reckoner_reckonAll_4   n) 1000 (0) (v2) (0) f g
def p_Reckoner_reckonAll   (f g : q_F) : Option (Int × q_F × q_F) :=
  p_Reckoner_reckonAll_4   1000 (1) (0) f g
theorem e_Reckoner_reckonAll_99 (t : q_V) (ok : ma_ok (q_G t))  {Q : Option Value → ma_H → Prop} {y : Int × q_F × q_F} (hQ : Q (some (ma_i y.1)) (q_h y.2.1 y.2.2))    (f g : q_F) (hp : p_Reckoner_reckonAll_99    f g = some y) : ma_Ev (q_G t) 6 135 0 0 m_Reckoner_reckonAll 99 [(0, q_a t (55))] [] (q_h f g) (ma_zr (q_G t) false Q) := by
  unfold p_Reckoner_reckonAll_99 at hp
  refine et_aload_n (pc := 99) d_Reckoner_reckonAll_99 rfl rfl ?_
  replace hp := q_bind hp
  obtain ⟨x1, hm2, hp⟩ := hp
  refine et_callVi (pc := 100) (f1 := x1.2.1) (g1 := x1.2.2) ok [] [] (cf_Reckoner_40 t) d_Reckoner_reckonAll_100 s_55 k_9 rfl (t_Reckoner_allKnown t ok  f g hm2 ⟨rfl, rfl⟩) rfl rfl (by decide) (by decide) (q_ble rfl) ?_
  replace hp := q_if hp
  obtain ⟨hb3, hp⟩ := hp
  cases Option.some.inj hp
  exact et_zret (pc := 103) d_Reckoner_reckonAll_103 rfl hb3 hQ
theorem e_Reckoner_reckonAll_86 (t : q_V) (ok : ma_ok (q_G t))  {Q : Option Value → ma_H → Prop} {y : Int × q_F × q_F} (hQ : Q (some (ma_i y.1)) (q_h y.2.1 y.2.2)) (c4 : Int → Int → q_F → q_F → Option (Int × q_F × q_F)) (c55 : Int → Int → Int → q_F → q_F → Option (Int × q_F × q_F)) (hc4 : ∀ (v1 : Int) (v2 : Int) (f g : q_F), c4 v1 v2 f g = some y → ma_Ev (q_G t) 6 135 0 0 m_Reckoner_reckonAll 4 [(0, q_a t (55)), (1, ma_i (v1)), (2, ma_i (v2))] [] (q_h f g) (ma_zr (q_G t) false Q)) (hc55 : ∀ (v1 : Int) (v2 : Int) (v3 : Int) (f g : q_F), c55 v1 v2 v3 f g = some y → ma_Ev (q_G t) 6 135 0 0 m_Reckoner_reckonAll 55 [(0, q_a t (55)), (1, ma_i (v1)), (2, ma_i (v2)), (3, ma_i (v3))] [] (q_h f g) (ma_zr (q_G t) false Q)) (v2 : Int) (v3 : Int) (s0 : Int) (f g : q_F) (hp : p_Reckoner_reckonAll_86  c4 c55 v2 v3 s0 f g = some y) : ma_Ev (q_G t) 6 135 0 0 m_Reckoner_reckonAll 86 [(0, q_a t (55)), (2, ma_i (v2)), (3, ma_i (v3))] [ma_i (s0)] (q_h f g) (ma_zr (q_G t) false Q) := by
  unfold p_Reckoner_reckonAll_86 at hp
  refine ev_istore_n (pc := 86) d_Reckoner_reckonAll_86 rfl (by decide) [(1, _), (0, _), (2, _), (3, _)] rfl ?_
  refine ev_iinc (pc := 87) d_Reckoner_reckonAll_87 (by decide) rfl [(3, _), (1, _), (0, _), (2, _)] rfl ?_
  replace hp := q_let_of hp
  obtain ⟨z1, hz, hp⟩ := hp
  rw [← hz]
  clear hz
  refine ev_goto (pc := 90) (tgt := 55) d_Reckoner_reckonAll_90 (by decide) ?_
  refine ev_sub (ls2 := [(0, q_a t (55)), (1, ma_i (s0)), (2, ma_i (v2)), (3, ma_i (z1))]) [2, 1, 3, 0] rfl ?_
  exact hc55 (s0) (v2) (z1) f g hp
theorem e_Reckoner_reckonAll_81 (t : q_V) (ok : ma_ok (q_G t))  {Q : Option Value → ma_H → Prop} {y : Int × q_F × q_F} (hQ : Q (some (ma_i y.1)) (q_h y.2.1 y.2.2)) (c4 : Int → Int → q_F → q_F → Option (Int × q_F × q_F)) (c55 : Int → Int → Int → q_F → q_F → Option (Int × q_F × q_F)) (hc4 : ∀ (v1 : Int) (v2 : Int) (f g : q_F), c4 v1 v2 f g = some y → ma_Ev (q_G t) 6 135 0 0 m_Reckoner_reckonAll 4 [(0, q_a t (55)), (1, ma_i (v1)), (2, ma_i (v2))] [] (q_h f g) (ma_zr (q_G t) false Q)) (hc55 : ∀ (v1 : Int) (v2 : Int) (v3 : Int) (f g : q_F), c55 v1 v2 v3 f g = some y → ma_Ev (q_G t) 6 135 0 0 m_Reckoner_reckonAll 55 [(0, q_a t (55)), (1, ma_i (v1)), (2, ma_i (v2)), (3, ma_i (v3))] [] (q_h f g) (ma_zr (q_G t) false Q)) (v2 : Int) (v3 : Int) (f g : q_F) (hp : p_Reckoner_reckonAll_81  c4 c55 v2 v3 f g = some y) : ma_Ev (q_G t) 6 135 0 0 m_Reckoner_reckonAll 81 [(0, q_a t (55)), (2, ma_i (v2)), (3, ma_i (v3))] [] (q_h f g) (ma_zr (q_G t) false Q) := by
  unfold p_Reckoner_reckonAll_81 at hp
  refine ev_iconst (pc := 81) d_Reckoner_reckonAll_81 ?_
  refine ev_goto (pc := 82) (tgt := 86) d_Reckoner_reckonAll_82 (by decide) ?_
  refine ev_sub (ls2 := [(0, q_a t (55)), (2, ma_i (v2)), (3, ma_i (v3))]) [0, 1, 2] rfl ?_
  exact e_Reckoner_reckonAll_86 t ok  hQ c4 c55 hc4 hc55 (v2) (v3) (1) f g hp
theorem e_Reckoner_reckonAll_55 (t : q_V) (ok : ma_ok (q_G t))  {Q : Option Value → ma_H → Prop} {y : Int × q_F × q_F} (hQ : Q (some (ma_i y.1)) (q_h y.2.1 y.2.2)) (c4 : Int → Int → q_F → q_F → Option (Int × q_F × q_F)) (hc4 : ∀ (v1 : Int) (v2 : Int) (f g : q_F), c4 v1 v2 f g = some y → ma_Ev (q_G t) 6 135 0 0 m_Reckoner_reckonAll 4 [(0, q_a t (55)), (1, ma_i (v1)), (2, ma_i (v2))] [] (q_h f g) (ma_zr (q_G t) false Q)) : ∀ (n : Nat) (v1 : Int) (v2 : Int) (v3 : Int) (f g : q_F), p_Reckoner_reckonAll_55  c4 n v1 v2 v3 f g = some y → ma_Ev (q_G t) 6 135 0 0 m_Reckoner_reckonAll 55 [(0, q_a t (55)), (1, ma_i (v1)), (2, ma_i (v2)), (3, ma_i (v3))] [] (q_h f g) (ma_zr (q_G t) false Q) := by
  intro n
  induction n with
  | zero =>
    intro v1 v2 v3 f g hp
    rw [p_Reckoner_reckonAll_55] at hp
    cases hp
  | succ n ih =>
    intro v1 v2 v3 f g hp
    rw [p_Reckoner_reckonAll_55] at hp
    refine ev_iload_n (pc := 55) d_Reckoner_reckonAll_55 rfl rfl ?_
    refine ev_bipush (pc := 56) d_Reckoner_reckonAll_56 rfl ?_
    refine et_icmp_ge (pc := 58) (tgt := 93) d_Reckoner_reckonAll_58 (by decide) (fun hj1 => ?_) (fun hj1 => ?_)
    · rw [if_pos hj1] at hp
      refine ev_iinc (pc := 93) d_Reckoner_reckonAll_93 (by decide) rfl [(2, _), (0, _), (1, _), (3, _)] rfl ?_
      replace hp := q_let_of hp
      obtain ⟨z2, hz, hp⟩ := hp
      rw [← hz]
      clear hz
      refine ev_goto (pc := 96) (tgt := 4) d_Reckoner_reckonAll_96 (by decide) ?_
      refine ev_sub (ls2 := [(0, q_a t (55)), (1, ma_i (v1)), (2, ma_i (z2))]) [1, 2, 0] rfl ?_
      exact hc4 (v1) (z2) f g hp
    · rw [if_neg hj1] at hp
      refine et_aload_n (pc := 61) d_Reckoner_reckonAll_61 rfl rfl ?_
      refine et_aload_n (pc := 62) d_Reckoner_reckonAll_62 rfl rfl ?_
      refine et_getr (pc := 63) ok (fl_Reckoner_19 t) rfl d_Reckoner_reckonAll_63 s_55 r_55_0 ?_
      refine et_getr (pc := 66) ok (fl_Reckoner_32 t) rfl d_Reckoner_reckonAll_66 s_3 r_3_3 ?_
      refine ev_iload_n (pc := 69) d_Reckoner_reckonAll_69 rfl rfl ?_
      replace hp := q_if hp
      obtain ⟨hb3, hp⟩ := hp
      refine et_aald (pc := 70) d_Reckoner_reckonAll_70 s_7 hb3 (by decide) (r_7 _ (by omega)) ?_
      replace hp := q_bind hp
      obtain ⟨x4, hm5, hp⟩ := hp
      refine et_callVi (pc := 71) (f1 := x4.2.1) (g1 := x4.2.2) ok [q_a t (36 + Int.toNat v3)] [] (cf_Reckoner_36 t) d_Reckoner_reckonAll_71 s_55 k_9 rfl (t_Reckoner_reckonSymbol t ok (36 + Int.toNat v3) f g hm5 ⟨rfl, rfl⟩) rfl rfl (by decide) (by decide) (q_ble rfl) ?_
      refine et_if_ne (pc := 74) (tgt := 81) d_Reckoner_reckonAll_74 (by decide) (fun hj6 => ?_) (fun hj6 => ?_)
      · rw [if_neg hj6] at hp
        refine ev_sub (ls2 := [(0, q_a t (55)), (2, ma_i (v2)), (3, ma_i (v3))]) [0, 2, 3] rfl ?_
        exact e_Reckoner_reckonAll_81 t ok  hQ c4 (p_Reckoner_reckonAll_55  c4 n) hc4 ih (v2) (v3) x4.2.1 x4.2.2 hp
      · rw [if_pos hj6] at hp
        refine ev_iload_n (pc := 77) d_Reckoner_reckonAll_77 rfl rfl ?_
        refine et_if_eq (pc := 78) (tgt := 85) d_Reckoner_reckonAll_78 (by decide) (fun hj7 => ?_) (fun hj7 => ?_)
        · rw [if_pos hj7] at hp
          refine ev_iconst (pc := 85) d_Reckoner_reckonAll_85 ?_
          refine ev_sub (ls2 := [(0, q_a t (55)), (2, ma_i (v2)), (3, ma_i (v3))]) [0, 2, 3] rfl ?_
          exact e_Reckoner_reckonAll_86 t ok  hQ c4 (p_Reckoner_reckonAll_55  c4 n) hc4 ih (v2) (v3) (0) x4.2.1 x4.2.2 hp
        · rw [if_neg hj7] at hp
          refine ev_sub (ls2 := [(0, q_a t (55)), (2, ma_i (v2)), (3, ma_i (v3))]) [0, 2, 3] rfl ?_
          exact e_Reckoner_reckonAll_81 t ok  hQ c4 (p_Reckoner_reckonAll_55  c4 n) hc4 ih (v2) (v3) x4.2.1 x4.2.2 hp
theorem e_Reckoner_reckonAll_46 (t : q_V) (ok : ma_ok (q_G t))  {Q : Option Value → ma_H → Prop} {y : Int × q_F × q_F} (hQ : Q (some (ma_i y.1)) (q_h y.2.1 y.2.2)) (c4 : Int → Int → q_F → q_F → Option (Int × q_F × q_F)) (c18 : Int → Int → Int → q_F → q_F → Option (Int × q_F × q_F)) (hc4 : ∀ (v1 : Int) (v2 : Int) (f g : q_F), c4 v1 v2 f g = some y → ma_Ev (q_G t) 6 135 0 0 m_Reckoner_reckonAll 4 [(0, q_a t (55)), (1, ma_i (v1)), (2, ma_i (v2))] [] (q_h f g) (ma_zr (q_G t) false Q)) (hc18 : ∀ (v1 : Int) (v2 : Int) (v3 : Int) (f g : q_F), c18 v1 v2 v3 f g = some y → ma_Ev (q_G t) 6 135 0 0 m_Reckoner_reckonAll 18 [(0, q_a t (55)), (1, ma_i (v1)), (2, ma_i (v2)), (3, ma_i (v3))] [] (q_h f g) (ma_zr (q_G t) false Q)) (v2 : Int) (v3 : Int) (s0 : Int) (f g : q_F) (hp : p_Reckoner_reckonAll_46  c4 c18 v2 v3 s0 f g = some y) : ma_Ev (q_G t) 6 135 0 0 m_Reckoner_reckonAll 46 [(0, q_a t (55)), (2, ma_i (v2)), (3, ma_i (v3))] [ma_i (s0)] (q_h f g) (ma_zr (q_G t) false Q) := by
  unfold p_Reckoner_reckonAll_46 at hp
  refine ev_istore_n (pc := 46) d_Reckoner_reckonAll_46 rfl (by decide) [(1, _), (0, _), (2, _), (3, _)] rfl ?_
  refine ev_iinc (pc := 47) d_Reckoner_reckonAll_47 (by decide) rfl [(3, _), (1, _), (0, _), (2, _)] rfl ?_
  replace hp := q_let_of hp
  obtain ⟨z1, hz, hp⟩ := hp
  rw [← hz]
  clear hz
  refine ev_goto (pc := 50) (tgt := 18) d_Reckoner_reckonAll_50 (by decide) ?_
  refine ev_sub (ls2 := [(0, q_a t (55)), (1, ma_i (s0)), (2, ma_i (v2)), (3, ma_i (z1))]) [2, 1, 3, 0] rfl ?_
  exact hc18 (s0) (v2) (z1) f g hp
theorem e_Reckoner_reckonAll_41 (t : q_V) (ok : ma_ok (q_G t))  {Q : Option Value → ma_H → Prop} {y : Int × q_F × q_F} (hQ : Q (some (ma_i y.1)) (q_h y.2.1 y.2.2)) (c4 : Int → Int → q_F → q_F → Option (Int × q_F × q_F)) (c18 : Int → Int → Int → q_F → q_F → Option (Int × q_F × q_F)) (hc4 : ∀ (v1 : Int) (v2 : Int) (f g : q_F), c4 v1 v2 f g = some y → ma_Ev (q_G t) 6 135 0 0 m_Reckoner_reckonAll 4 [(0, q_a t (55)), (1, ma_i (v1)), (2, ma_i (v2))] [] (q_h f g) (ma_zr (q_G t) false Q)) (hc18 : ∀ (v1 : Int) (v2 : Int) (v3 : Int) (f g : q_F), c18 v1 v2 v3 f g = some y → ma_Ev (q_G t) 6 135 0 0 m_Reckoner_reckonAll 18 [(0, q_a t (55)), (1, ma_i (v1)), (2, ma_i (v2)), (3, ma_i (v3))] [] (q_h f g) (ma_zr (q_G t) false Q)) (v2 : Int) (v3 : Int) (f g : q_F) (hp : p_Reckoner_reckonAll_41  c4 c18 v2 v3 f g = some y) : ma_Ev (q_G t) 6 135 0 0 m_Reckoner_reckonAll 41 [(0, q_a t (55)), (2, ma_i (v2)), (3, ma_i (v3))] [] (q_h f g) (ma_zr (q_G t) false Q) := by
  unfold p_Reckoner_reckonAll_41 at hp
  refine ev_iconst (pc := 41) d_Reckoner_reckonAll_41 ?_
  refine ev_goto (pc := 42) (tgt := 46) d_Reckoner_reckonAll_42 (by decide) ?_
  refine ev_sub (ls2 := [(0, q_a t (55)), (2, ma_i (v2)), (3, ma_i (v3))]) [0, 1, 2] rfl ?_
  exact e_Reckoner_reckonAll_46 t ok  hQ c4 c18 hc4 hc18 (v2) (v3) (1) f g hp
theorem e_Reckoner_reckonAll_18 (t : q_V) (ok : ma_ok (q_G t))  {Q : Option Value → ma_H → Prop} {y : Int × q_F × q_F} (hQ : Q (some (ma_i y.1)) (q_h y.2.1 y.2.2)) (c4 : Int → Int → q_F → q_F → Option (Int × q_F × q_F)) (hc4 : ∀ (v1 : Int) (v2 : Int) (f g : q_F), c4 v1 v2 f g = some y → ma_Ev (q_G t) 6 135 0 0 m_Reckoner_reckonAll 4 [(0, q_a t (55)), (1, ma_i (v1)), (2, ma_i (v2))] [] (q_h f g) (ma_zr (q_G t) false Q)) : ∀ (n : Nat) (v1 : Int) (v2 : Int) (v3 : Int) (f g : q_F), p_Reckoner_reckonAll_18  c4 n v1 v2 v3 f g = some y → ma_Ev (q_G t) 6 135 0 0 m_Reckoner_reckonAll 18 [(0, q_a t (55)), (1, ma_i (v1)), (2, ma_i (v2)), (3, ma_i (v3))] [] (q_h f g) (ma_zr (q_G t) false Q) := by
  intro n
  induction n with
  | zero =>
    intro v1 v2 v3 f g hp
    rw [p_Reckoner_reckonAll_18] at hp
    cases hp
  | succ n ih =>
    intro v1 v2 v3 f g hp
    rw [p_Reckoner_reckonAll_18] at hp
    refine ev_iload_n (pc := 18) d_Reckoner_reckonAll_18 rfl rfl ?_
    refine et_aload_n (pc := 19) d_Reckoner_reckonAll_19 rfl rfl ?_
    refine et_getr (pc := 20) ok (fl_Reckoner_19 t) rfl d_Reckoner_reckonAll_20 s_55 r_55_0 ?_
    refine et_geti (pc := 23) ok (fl_Reckoner_23 t) rfl d_Reckoner_reckonAll_23 s_3 ?_
    refine et_icmp_ge (pc := 26) (tgt := 53) d_Reckoner_reckonAll_26 (by decide) (fun hj1 => ?_) (fun hj1 => ?_)
    · rw [if_pos hj1] at hp
      refine ev_iconst (pc := 53) d_Reckoner_reckonAll_53 ?_
      refine ev_istore_n (pc := 54) d_Reckoner_reckonAll_54 rfl (by decide) [(3, _), (0, _), (1, _), (2, _)] rfl ?_
      refine ev_sub (ls2 := [(0, q_a t (55)), (1, ma_i (v1)), (2, ma_i (v2)), (3, ma_i (0))]) [1, 2, 3, 0] rfl ?_
      exact e_Reckoner_reckonAll_55 t ok  hQ c4 hc4 1000 (v1) (v2) (0) f g hp
    · rw [if_neg hj1] at hp
      refine et_aload_n (pc := 29) d_Reckoner_reckonAll_29 rfl rfl ?_
      refine ev_iload_n (pc := 30) d_Reckoner_reckonAll_30 rfl rfl ?_
      replace hp := q_bind hp
      obtain ⟨x2, hm3, hp⟩ := hp
      refine et_callVi (pc := 31) (f1 := x2.2.1) (g1 := x2.2.2) ok [ma_i (v3)] [] (cf_Reckoner_28 t) d_Reckoner_reckonAll_31 s_55 k_9 rfl (t_Reckoner_reckonSection t ok (v3) f g hm3 ⟨rfl, rfl⟩) rfl rfl (by decide) (by decide) (q_ble rfl) ?_
      refine et_if_ne (pc := 34) (tgt := 41) d_Reckoner_reckonAll_34 (by decide) (fun hj4 => ?_) (fun hj4 => ?_)
      · rw [if_neg hj4] at hp
        refine ev_sub (ls2 := [(0, q_a t (55)), (2, ma_i (v2)), (3, ma_i (v3))]) [0, 2, 3] rfl ?_
        exact e_Reckoner_reckonAll_41 t ok  hQ c4 (p_Reckoner_reckonAll_18  c4 n) hc4 ih (v2) (v3) x2.2.1 x2.2.2 hp
      · rw [if_pos hj4] at hp
        refine ev_iload_n (pc := 37) d_Reckoner_reckonAll_37 rfl rfl ?_
        refine et_if_eq (pc := 38) (tgt := 45) d_Reckoner_reckonAll_38 (by decide) (fun hj5 => ?_) (fun hj5 => ?_)
        · rw [if_pos hj5] at hp
          refine ev_iconst (pc := 45) d_Reckoner_reckonAll_45 ?_
          refine ev_sub (ls2 := [(0, q_a t (55)), (2, ma_i (v2)), (3, ma_i (v3))]) [0, 2, 3] rfl ?_
          exact e_Reckoner_reckonAll_46 t ok  hQ c4 (p_Reckoner_reckonAll_18  c4 n) hc4 ih (v2) (v3) (0) x2.2.1 x2.2.2 hp
        · rw [if_neg hj5] at hp
          refine ev_sub (ls2 := [(0, q_a t (55)), (2, ma_i (v2)), (3, ma_i (v3))]) [0, 2, 3] rfl ?_
          exact e_Reckoner_reckonAll_41 t ok  hQ c4 (p_Reckoner_reckonAll_18  c4 n) hc4 ih (v2) (v3) x2.2.1 x2.2.2 hp
theorem e_Reckoner_reckonAll_4 (t : q_V) (ok : ma_ok (q_G t))  {Q : Option Value → ma_H → Prop} {y : Int × q_F × q_F} (hQ : Q (some (ma_i y.1)) (q_h y.2.1 y.2.2))   : ∀ (n : Nat) (v1 : Int) (v2 : Int) (f g : q_F), p_Reckoner_reckonAll_4   n v1 v2 f g = some y → ma_Ev (q_G t) 6 135 0 0 m_Reckoner_reckonAll 4 [(0, q_a t (55)), (1, ma_i (v1)), (2, ma_i (v2))] [] (q_h f g) (ma_zr (q_G t) false Q) := by
  intro n
  induction n with
  | zero =>
    intro v1 v2 f g hp
    rw [p_Reckoner_reckonAll_4] at hp
    cases hp
  | succ n ih =>
    intro v1 v2 f g hp
    rw [p_Reckoner_reckonAll_4] at hp
    refine ev_iload_n (pc := 4) d_Reckoner_reckonAll_4 rfl rfl ?_
    refine et_if_eq (pc := 5) (tgt := 99) d_Reckoner_reckonAll_5 (by decide) (fun hj1 => ?_) (fun hj1 => ?_)
    · rw [if_pos hj1] at hp
      refine ev_sub (ls2 := [(0, q_a t (55))]) [0] rfl ?_
      exact e_Reckoner_reckonAll_99 t ok  hQ    f g hp
    · rw [if_neg hj1] at hp
      refine ev_iload_n (pc := 8) d_Reckoner_reckonAll_8 rfl rfl ?_
      refine ev_bipush (pc := 9) d_Reckoner_reckonAll_9 rfl ?_
      refine et_icmp_ge (pc := 11) (tgt := 99) d_Reckoner_reckonAll_11 (by decide) (fun hj2 => ?_) (fun hj2 => ?_)
      · rw [if_pos hj2] at hp
        refine ev_sub (ls2 := [(0, q_a t (55))]) [0] rfl ?_
        exact e_Reckoner_reckonAll_99 t ok  hQ    f g hp
      · rw [if_neg hj2] at hp
        refine ev_iconst (pc := 14) d_Reckoner_reckonAll_14 ?_
        refine ev_istore_n (pc := 15) d_Reckoner_reckonAll_15 rfl (by decide) [(1, _), (0, _), (2, _)] rfl ?_
        refine ev_iconst (pc := 16) d_Reckoner_reckonAll_16 ?_
        refine ev_istore_n (pc := 17) d_Reckoner_reckonAll_17 rfl (by decide) [(3, _), (1, _), (0, _), (2, _)] rfl ?_
        refine ev_sub (ls2 := [(0, q_a t (55)), (1, ma_i (0)), (2, ma_i (v2)), (3, ma_i (0))]) [2, 1, 3, 0] rfl ?_
        exact e_Reckoner_reckonAll_18 t ok  hQ (p_Reckoner_reckonAll_4   n) ih 1000 (0) (v2) (0) f g hp
theorem t_Reckoner_reckonAll (t : q_V) (ok : ma_ok (q_G t))  {Q : Option Value → ma_H → Prop} {y : Int × q_F × q_F}  (f g : q_F) (hp : p_Reckoner_reckonAll   f g = some y) (hQ : Q (some (ma_i y.1)) (q_h y.2.1 y.2.2)) : ma_Met (q_G t) false 6 135 0 0 m_Reckoner_reckonAll [q_a t (55)] (q_h f g) Q := by
  refine ma_met (by decide +kernel) (q_ble rfl) rfl ?_
  change ma_Ev (q_G t) 6 135 0 0 m_Reckoner_reckonAll 0 [(0, q_a t (55))] [] (q_h f g) (ma_zr (q_G t) false Q)
  unfold p_Reckoner_reckonAll at hp
  refine ev_iconst (pc := 0) d_Reckoner_reckonAll_0 ?_
  refine ev_istore_n (pc := 1) d_Reckoner_reckonAll_1 rfl (by decide) [(1, _), (0, _)] rfl ?_
  refine ev_iconst (pc := 2) d_Reckoner_reckonAll_2 ?_
  refine ev_istore_n (pc := 3) d_Reckoner_reckonAll_3 rfl (by decide) [(2, _), (1, _), (0, _)] rfl ?_
  refine ev_sub (ls2 := [(0, q_a t (55)), (1, ma_i (1)), (2, ma_i (0))]) [2, 1, 0] rfl ?_
  exact e_Reckoner_reckonAll_4 t ok  hQ   1000 (1) (0) f g hp
