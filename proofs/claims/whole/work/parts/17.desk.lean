/-! ===== printed by walk.py: the desk, where it returns ===== -/
theorem d_Desk_input_0 : decode (m_c m_Desk_input) 0 = .ok (.iload_n 1, 1) := by decide +kernel
theorem d_Desk_input_1 : decode (m_c m_Desk_input) 1 = .ok (.ifCond .lt 19, 3) := by decide +kernel
theorem d_Desk_input_4 : decode (m_c m_Desk_input) 4 = .ok (.iload_n 1, 1) := by decide +kernel
theorem d_Desk_input_5 : decode (m_c m_Desk_input) 5 = .ok (.bipush 8, 2) := by decide +kernel
theorem d_Desk_input_7 : decode (m_c m_Desk_input) 7 = .ok (.if_icmp .ge 13, 3) := by decide +kernel
theorem d_Desk_input_10 : decode (m_c m_Desk_input) 10 = .ok (.iload_n 2, 1) := by decide +kernel
theorem d_Desk_input_11 : decode (m_c m_Desk_input) 11 = .ok (.ifCond .lt 9, 3) := by decide +kernel
theorem d_Desk_input_14 : decode (m_c m_Desk_input) 14 = .ok (.iload_n 2, 1) := by decide +kernel
theorem d_Desk_input_15 : decode (m_c m_Desk_input) 15 = .ok (.bipush 40, 2) := by decide +kernel
theorem d_Desk_input_17 : decode (m_c m_Desk_input) 17 = .ok (.if_icmp .le 11, 3) := by decide +kernel
theorem d_Desk_input_20 : decode (m_c m_Desk_input) 20 = .ok (.new 63, 3) := by decide +kernel
theorem d_Desk_input_23 : decode (m_c m_Desk_input) 23 = .ok (.dup, 1) := by decide +kernel
theorem d_Desk_input_24 : decode (m_c m_Desk_input) 24 = .ok (.invokespecial 65, 3) := by decide +kernel
theorem d_Desk_input_27 : decode (m_c m_Desk_input) 27 = .ok (.athrow, 1) := by decide +kernel
theorem d_Desk_input_28 : decode (m_c m_Desk_input) 28 = .ok (.iload_n 3, 1) := by decide +kernel
theorem d_Desk_input_29 : decode (m_c m_Desk_input) 29 = .ok (.bipush 16, 2) := by decide +kernel
theorem d_Desk_input_31 : decode (m_c m_Desk_input) 31 = .ok (.invokestatic 66, 3) := by decide +kernel
theorem d_Desk_input_34 : decode (m_c m_Desk_input) 34 = .ok (.ifCond .eq 16, 3) := by decide +kernel
theorem d_Desk_input_37 : decode (m_c m_Desk_input) 37 = .ok (.iload 4, 2) := by decide +kernel
theorem d_Desk_input_39 : decode (m_c m_Desk_input) 39 = .ok (.ifCond .lt 11, 3) := by decide +kernel
theorem d_Desk_input_42 : decode (m_c m_Desk_input) 42 = .ok (.iload 4, 2) := by decide +kernel
theorem d_Desk_input_44 : decode (m_c m_Desk_input) 44 = .ok (.sipush 255, 3) := by decide +kernel
theorem d_Desk_input_47 : decode (m_c m_Desk_input) 47 = .ok (.if_icmp .le 11, 3) := by decide +kernel
theorem d_Desk_input_50 : decode (m_c m_Desk_input) 50 = .ok (.new 63, 3) := by decide +kernel
theorem d_Desk_input_53 : decode (m_c m_Desk_input) 53 = .ok (.dup, 1) := by decide +kernel
theorem d_Desk_input_54 : decode (m_c m_Desk_input) 54 = .ok (.invokespecial 65, 3) := by decide +kernel
theorem d_Desk_input_57 : decode (m_c m_Desk_input) 57 = .ok (.athrow, 1) := by decide +kernel
theorem d_Desk_input_58 : decode (m_c m_Desk_input) 58 = .ok (.aload_n 0, 1) := by decide +kernel
theorem d_Desk_input_59 : decode (m_c m_Desk_input) 59 = .ok (.getfield 19, 3) := by decide +kernel
theorem d_Desk_input_62 : decode (m_c m_Desk_input) 62 = .ok (.getfield 70, 3) := by decide +kernel
theorem d_Desk_input_65 : decode (m_c m_Desk_input) 65 = .ok (.iload_n 1, 1) := by decide +kernel
theorem d_Desk_input_66 : decode (m_c m_Desk_input) 66 = .ok (.aaload, 1) := by decide +kernel
theorem d_Desk_input_67 : decode (m_c m_Desk_input) 67 = .ok (.astore 5, 2) := by decide +kernel
theorem d_Desk_input_69 : decode (m_c m_Desk_input) 69 = .ok (.aload 5, 2) := by decide +kernel
theorem d_Desk_input_71 : decode (m_c m_Desk_input) 71 = .ok (.iload_n 2, 1) := by decide +kernel
theorem d_Desk_input_72 : decode (m_c m_Desk_input) 72 = .ok (.putfield 74, 3) := by decide +kernel
theorem d_Desk_input_75 : decode (m_c m_Desk_input) 75 = .ok (.aload 5, 2) := by decide +kernel
theorem d_Desk_input_77 : decode (m_c m_Desk_input) 77 = .ok (.iload_n 3, 1) := by decide +kernel
theorem d_Desk_input_78 : decode (m_c m_Desk_input) 78 = .ok (.putfield 79, 3) := by decide +kernel
theorem d_Desk_input_81 : decode (m_c m_Desk_input) 81 = .ok (.aload 5, 2) := by decide +kernel
theorem d_Desk_input_83 : decode (m_c m_Desk_input) 83 = .ok (.iload 4, 2) := by decide +kernel
theorem d_Desk_input_85 : decode (m_c m_Desk_input) 85 = .ok (.putfield 82, 3) := by decide +kernel
theorem d_Desk_input_88 : decode (m_c m_Desk_input) 88 = .ok (.aload_n 0, 1) := by decide +kernel
theorem d_Desk_input_89 : decode (m_c m_Desk_input) 89 = .ok (.iconst 0, 1) := by decide +kernel
theorem d_Desk_input_90 : decode (m_c m_Desk_input) 90 = .ok (.putfield 55, 3) := by decide +kernel
theorem d_Desk_input_93 : decode (m_c m_Desk_input) 93 = .ok (.return_, 1) := by decide +kernel
def p_Desk_input_50    (f g : q_F) : Option (q_F × q_F) :=
  none
def p_Desk_input_20    (f g : q_F) : Option (q_F × q_F) :=
  none
def p_Desk_input  (v1 : Int) (v2 : Int) (v3 : Int) (v4 : Int) (f g : q_F) : Option (q_F × q_F) :=
  if q_sw v1 < 0 then
    p_Desk_input_20    f g
  else
    if q_sw 8 ≤ q_sw v1 then
      p_Desk_input_20    f g
    else
      if q_sw v2 < 0 then
        p_Desk_input_20    f g
      else
        if q_sw v2 ≤ q_sw 40 then
          (p_Desk_isAlignment (v3) (16) f g).bind fun x5 =>
          if q_sw x5.1 = 0 then
            p_Desk_input_50    x5.2.1 x5.2.2
          else
            if q_sw v4 < 0 then
              p_Desk_input_50    x5.2.1 x5.2.2
            else
              if q_sw v4 ≤ q_sw 255 then
                if 0 ≤ v1 ∧ v1 < 8 then
                  q_let (ma_up x5.2.1 (16 + Int.toNat v1) 0 v2) fun f11 =>
                  q_let (ma_up f11 (16 + Int.toNat v1) 1 v3) fun f12 =>
                  q_let (ma_up f12 (16 + Int.toNat v1) 2 v4) fun f13 =>
                  q_let (ma_up f13 0 6 0) fun f14 =>
                  some (f14, x5.2.2)
                else none
              else
                p_Desk_input_50    x5.2.1 x5.2.2
        else
          p_Desk_input_20    f g
theorem e_Desk_input_50 (t : q_V) (ok : ma_ok (q_G t))  {Q : Option Value → ma_H → Prop} {y : q_F × q_F} (hQ : Q (none) (q_h y.1 y.2))    (f g : q_F) (hp : p_Desk_input_50    f g = some y) : ma_Ev (q_G t) 1 21 0 0 m_Desk_input 50 [] [] (q_h f g) (ma_zr (q_G t) false Q) := by
  unfold p_Desk_input_50 at hp
  cases hp
theorem e_Desk_input_20 (t : q_V) (ok : ma_ok (q_G t))  {Q : Option Value → ma_H → Prop} {y : q_F × q_F} (hQ : Q (none) (q_h y.1 y.2))    (f g : q_F) (hp : p_Desk_input_20    f g = some y) : ma_Ev (q_G t) 1 21 0 0 m_Desk_input 20 [] [] (q_h f g) (ma_zr (q_G t) false Q) := by
  unfold p_Desk_input_20 at hp
  cases hp
theorem t_Desk_input (t : q_V) (ok : ma_ok (q_G t))  {Q : Option Value → ma_H → Prop} {y : q_F × q_F} (v1 : Int) (v2 : Int) (v3 : Int) (v4 : Int) (f g : q_F) (hp : p_Desk_input  v1 v2 v3 v4 f g = some y) (hQ : Q (none) (q_h y.1 y.2)) : ma_Met (q_G t) false 1 21 0 0 m_Desk_input [q_a t (0), ma_i (v1), ma_i (v2), ma_i (v3), ma_i (v4)] (q_h f g) Q := by
  refine ma_met (by decide +kernel) (q_ble rfl) rfl ?_
  change ma_Ev (q_G t) 1 21 0 0 m_Desk_input 0 [(0, q_a t (0)), (1, ma_i (v1)), (2, ma_i (v2)), (3, ma_i (v3)), (4, ma_i (v4))] [] (q_h f g) (ma_zr (q_G t) false Q)
  unfold p_Desk_input at hp
  refine ev_iload_n (pc := 0) d_Desk_input_0 rfl rfl ?_
  refine et_if_lt (pc := 1) (tgt := 20) d_Desk_input_1 (by decide) (fun hj1 => ?_) (fun hj1 => ?_)
  · rw [if_pos hj1] at hp
    refine ev_sub (ls2 := []) [] rfl ?_
    exact e_Desk_input_20 t ok  hQ    f g hp
  · rw [if_neg hj1] at hp
    refine ev_iload_n (pc := 4) d_Desk_input_4 rfl rfl ?_
    refine ev_bipush (pc := 5) d_Desk_input_5 rfl ?_
    refine et_icmp_ge (pc := 7) (tgt := 20) d_Desk_input_7 (by decide) (fun hj2 => ?_) (fun hj2 => ?_)
    · rw [if_pos hj2] at hp
      refine ev_sub (ls2 := []) [] rfl ?_
      exact e_Desk_input_20 t ok  hQ    f g hp
    · rw [if_neg hj2] at hp
      refine ev_iload_n (pc := 10) d_Desk_input_10 rfl rfl ?_
      refine et_if_lt (pc := 11) (tgt := 20) d_Desk_input_11 (by decide) (fun hj3 => ?_) (fun hj3 => ?_)
      · rw [if_pos hj3] at hp
        refine ev_sub (ls2 := []) [] rfl ?_
        exact e_Desk_input_20 t ok  hQ    f g hp
      · rw [if_neg hj3] at hp
        refine ev_iload_n (pc := 14) d_Desk_input_14 rfl rfl ?_
        refine ev_bipush (pc := 15) d_Desk_input_15 rfl ?_
        refine et_icmp_le (pc := 17) (tgt := 28) d_Desk_input_17 (by decide) (fun hj4 => ?_) (fun hj4 => ?_)
        · rw [if_pos hj4] at hp
          refine ev_iload_n (pc := 28) d_Desk_input_28 rfl rfl ?_
          refine ev_bipush (pc := 29) d_Desk_input_29 rfl ?_
          replace hp := q_bind hp
          obtain ⟨x5, hm6, hp⟩ := hp
          refine et_callSi (pc := 31) (f1 := x5.2.1) (g1 := x5.2.2) ok [ma_i (v3), ma_i (16)] [] (cf_Desk_66 t) d_Desk_input_31 (t_Desk_isAlignment t ok (v3) (16) f g hm6 ⟨rfl, rfl⟩) rfl rfl (by decide) (by decide) (q_ble rfl) ?_
          refine et_if_eq (pc := 34) (tgt := 50) d_Desk_input_34 (by decide) (fun hj7 => ?_) (fun hj7 => ?_)
          · rw [if_pos hj7] at hp
            refine ev_sub (ls2 := []) [] rfl ?_
            exact e_Desk_input_50 t ok  hQ    x5.2.1 x5.2.2 hp
          · rw [if_neg hj7] at hp
            refine ev_iload (pc := 37) d_Desk_input_37 rfl ?_
            refine et_if_lt (pc := 39) (tgt := 50) d_Desk_input_39 (by decide) (fun hj8 => ?_) (fun hj8 => ?_)
            · rw [if_pos hj8] at hp
              refine ev_sub (ls2 := []) [] rfl ?_
              exact e_Desk_input_50 t ok  hQ    x5.2.1 x5.2.2 hp
            · rw [if_neg hj8] at hp
              refine ev_iload (pc := 42) d_Desk_input_42 rfl ?_
              refine ev_sipush (pc := 44) d_Desk_input_44 rfl ?_
              refine et_icmp_le (pc := 47) (tgt := 58) d_Desk_input_47 (by decide) (fun hj9 => ?_) (fun hj9 => ?_)
              · rw [if_pos hj9] at hp
                refine et_aload_n (pc := 58) d_Desk_input_58 rfl rfl ?_
                refine et_getr (pc := 59) ok (fl_Desk_19 t) rfl d_Desk_input_59 s_0 r_0_1 ?_
                refine et_getr (pc := 62) ok (fl_Desk_70 t) rfl d_Desk_input_62 s_3 r_3_0 ?_
                refine ev_iload_n (pc := 65) d_Desk_input_65 rfl rfl ?_
                replace hp := q_if hp
                obtain ⟨hb10, hp⟩ := hp
                refine et_aald (pc := 66) d_Desk_input_66 s_4 hb10 (by decide) (r_4 _ (by omega)) ?_
                refine et_astore (pc := 67) d_Desk_input_67 (by decide) [(5, _), (0, _), (1, _), (2, _), (3, _), (4, _)] rfl ?_
                refine et_aload (pc := 69) d_Desk_input_69 rfl ?_
                refine ev_iload_n (pc := 71) d_Desk_input_71 rfl rfl ?_
                refine et_puti (pc := 72) ok (fl_Desk_74 t) d_Desk_input_72 (s_16 _ (by omega) (by omega)) ?_
                replace hp := q_let_of hp
                obtain ⟨f11, hz, hp⟩ := hp
                rw [← hz]
                clear hz
                refine et_aload (pc := 75) d_Desk_input_75 rfl ?_
                refine ev_iload_n (pc := 77) d_Desk_input_77 rfl rfl ?_
                refine et_puti (pc := 78) ok (fl_Desk_79 t) d_Desk_input_78 (s_16 _ (by omega) (by omega)) ?_
                replace hp := q_let_of hp
                obtain ⟨f12, hz, hp⟩ := hp
                rw [← hz]
                clear hz
                refine et_aload (pc := 81) d_Desk_input_81 rfl ?_
                refine ev_iload (pc := 83) d_Desk_input_83 rfl ?_
                refine et_puti (pc := 85) ok (fl_Desk_82 t) d_Desk_input_85 (s_16 _ (by omega) (by omega)) ?_
                replace hp := q_let_of hp
                obtain ⟨f13, hz, hp⟩ := hp
                rw [← hz]
                clear hz
                refine et_aload_n (pc := 88) d_Desk_input_88 rfl rfl ?_
                refine ev_iconst (pc := 89) d_Desk_input_89 ?_
                refine et_putz (pc := 90) ok (fl_Desk_55 t) (by decide) d_Desk_input_90 s_0 ?_
                replace hp := q_let_of hp
                obtain ⟨f14, hz, hp⟩ := hp
                rw [← hz]
                clear hz
                cases Option.some.inj hp
                exact et_ret (pc := 93) d_Desk_input_93 rfl hQ
              · rw [if_neg hj9] at hp
                refine ev_sub (ls2 := []) [] rfl ?_
                exact e_Desk_input_50 t ok  hQ    x5.2.1 x5.2.2 hp
        · rw [if_neg hj4] at hp
          refine ev_sub (ls2 := []) [] rfl ?_
          exact e_Desk_input_20 t ok  hQ    f g hp
theorem d_Desk_type_0 : decode (m_c m_Desk_type) 0 = .ok (.iload_n 3, 1) := by decide +kernel
theorem d_Desk_type_1 : decode (m_c m_Desk_type) 1 = .ok (.iconst 1, 1) := by decide +kernel
theorem d_Desk_type_2 : decode (m_c m_Desk_type) 2 = .ok (.if_icmp .lt 17, 3) := by decide +kernel
theorem d_Desk_type_5 : decode (m_c m_Desk_type) 5 = .ok (.iload_n 3, 1) := by decide +kernel
theorem d_Desk_type_6 : decode (m_c m_Desk_type) 6 = .ok (.bipush 8, 2) := by decide +kernel
theorem d_Desk_type_8 : decode (m_c m_Desk_type) 8 = .ok (.if_icmp .gt 11, 3) := by decide +kernel
theorem d_Desk_type_11 : decode (m_c m_Desk_type) 11 = .ok (.lload_n 1, 1) := by decide +kernel
theorem d_Desk_type_12 : decode (m_c m_Desk_type) 12 = .ok (.iload_n 3, 1) := by decide +kernel
theorem d_Desk_type_13 : decode (m_c m_Desk_type) 13 = .ok (.invokestatic 85, 3) := by decide +kernel
theorem d_Desk_type_16 : decode (m_c m_Desk_type) 16 = .ok (.ifCond .ne 11, 3) := by decide +kernel
theorem d_Desk_type_19 : decode (m_c m_Desk_type) 19 = .ok (.new 63, 3) := by decide +kernel
theorem d_Desk_type_22 : decode (m_c m_Desk_type) 22 = .ok (.dup, 1) := by decide +kernel
theorem d_Desk_type_23 : decode (m_c m_Desk_type) 23 = .ok (.invokespecial 65, 3) := by decide +kernel
theorem d_Desk_type_26 : decode (m_c m_Desk_type) 26 = .ok (.athrow, 1) := by decide +kernel
theorem d_Desk_type_27 : decode (m_c m_Desk_type) 27 = .ok (.aload_n 0, 1) := by decide +kernel
theorem d_Desk_type_28 : decode (m_c m_Desk_type) 28 = .ok (.getfield 10, 3) := by decide +kernel
theorem d_Desk_type_31 : decode (m_c m_Desk_type) 31 = .ok (.getfield 89, 3) := by decide +kernel
theorem d_Desk_type_34 : decode (m_c m_Desk_type) 34 = .ok (.iload_n 3, 1) := by decide +kernel
theorem d_Desk_type_35 : decode (m_c m_Desk_type) 35 = .ok (.iadd, 1) := by decide +kernel
theorem d_Desk_type_36 : decode (m_c m_Desk_type) 36 = .ok (.sipush 160, 3) := by decide +kernel
theorem d_Desk_type_39 : decode (m_c m_Desk_type) 39 = .ok (.if_icmp .le 11, 3) := by decide +kernel
theorem d_Desk_type_42 : decode (m_c m_Desk_type) 42 = .ok (.new 92, 3) := by decide +kernel
theorem d_Desk_type_45 : decode (m_c m_Desk_type) 45 = .ok (.dup, 1) := by decide +kernel
theorem d_Desk_type_46 : decode (m_c m_Desk_type) 46 = .ok (.invokespecial 94, 3) := by decide +kernel
theorem d_Desk_type_49 : decode (m_c m_Desk_type) 49 = .ok (.athrow, 1) := by decide +kernel
theorem d_Desk_type_50 : decode (m_c m_Desk_type) 50 = .ok (.iload_n 3, 1) := by decide +kernel
theorem d_Desk_type_51 : decode (m_c m_Desk_type) 51 = .ok (.iconst 1, 1) := by decide +kernel
theorem d_Desk_type_52 : decode (m_c m_Desk_type) 52 = .ok (.isub, 1) := by decide +kernel
theorem d_Desk_type_53 : decode (m_c m_Desk_type) 53 = .ok (.istore 4, 2) := by decide +kernel
theorem d_Desk_type_55 : decode (m_c m_Desk_type) 55 = .ok (.iload 4, 2) := by decide +kernel
theorem d_Desk_type_57 : decode (m_c m_Desk_type) 57 = .ok (.ifCond .lt 22, 3) := by decide +kernel
theorem d_Desk_type_60 : decode (m_c m_Desk_type) 60 = .ok (.aload_n 0, 1) := by decide +kernel
theorem d_Desk_type_61 : decode (m_c m_Desk_type) 61 = .ok (.getfield 10, 3) := by decide +kernel
theorem d_Desk_type_64 : decode (m_c m_Desk_type) 64 = .ok (.lload_n 1, 1) := by decide +kernel
theorem d_Desk_type_65 : decode (m_c m_Desk_type) 65 = .ok (.iload 4, 2) := by decide +kernel
theorem d_Desk_type_67 : decode (m_c m_Desk_type) 67 = .ok (.invokestatic 95, 3) := by decide +kernel
theorem d_Desk_type_70 : decode (m_c m_Desk_type) 70 = .ok (.invokevirtual 99, 3) := by decide +kernel
theorem d_Desk_type_73 : decode (m_c m_Desk_type) 73 = .ok (.iinc 4 (-1), 3) := by decide +kernel
theorem d_Desk_type_76 : decode (m_c m_Desk_type) 76 = .ok (.goto (-21), 3) := by decide +kernel
theorem d_Desk_type_79 : decode (m_c m_Desk_type) 79 = .ok (.aload_n 0, 1) := by decide +kernel
theorem d_Desk_type_80 : decode (m_c m_Desk_type) 80 = .ok (.iconst 0, 1) := by decide +kernel
theorem d_Desk_type_81 : decode (m_c m_Desk_type) 81 = .ok (.putfield 55, 3) := by decide +kernel
theorem d_Desk_type_84 : decode (m_c m_Desk_type) 84 = .ok (.aload_n 0, 1) := by decide +kernel
theorem d_Desk_type_85 : decode (m_c m_Desk_type) 85 = .ok (.getfield 10, 3) := by decide +kernel
theorem d_Desk_type_88 : decode (m_c m_Desk_type) 88 = .ok (.getfield 89, 3) := by decide +kernel
theorem d_Desk_type_91 : decode (m_c m_Desk_type) 91 = .ok (.ireturn, 1) := by decide +kernel
def p_Desk_type_55   : Nat → Int → Int → q_F → q_F → Option (Int × q_F × q_F)
  | 0, _, _, _, _ => none
  | n + 1, v1, v4, f, g =>
    if q_sw v4 < 0 then
      q_let (ma_up f 0 6 0) fun f2 =>
      some (f2 1 1, f2, g)
    else
      (p_Desk_byteOf (v1) (v4) f g).bind fun x3 =>
      (p_Script_append (x3.1) x3.2.1 x3.2.2).bind fun x5 =>
      q_let (v4 + (-1)) fun z7 =>
      (p_Desk_type_55   n) (v1) (z7) x5.1 x5.2
def p_Desk_type_19    (f g : q_F) : Option (Int × q_F × q_F) :=
  none
def p_Desk_type  (v1 : Int) (v3 : Int) (f g : q_F) : Option (Int × q_F × q_F) :=
  if q_sw v3 < q_sw 1 then
    p_Desk_type_19    f g
  else
    if q_sw 8 < q_sw v3 then
      p_Desk_type_19    f g
    else
      (p_Desk_allCanBeTyped (v1) (v3) f g).bind fun x3 =>
      if q_sw x3.1 = 0 then
        p_Desk_type_19    x3.2.1 x3.2.2
      else
        if q_sw ((x3.2.1 1 1) + v3) ≤ q_sw 160 then
          q_let (v3 - 1) fun z7 =>
          p_Desk_type_55   1000 (v1) (z7) x3.2.1 x3.2.2
        else
          none
theorem e_Desk_type_55 (t : q_V) (ok : ma_ok (q_G t))  {Q : Option Value → ma_H → Prop} {y : Int × q_F × q_F} (hQ : Q (some (ma_i y.1)) (q_h y.2.1 y.2.2))   : ∀ (n : Nat) (v1 : Int) (v4 : Int) (f g : q_F), p_Desk_type_55   n v1 v4 f g = some y → ma_Ev (q_G t) 2 46 0 0 m_Desk_type 55 [(0, q_a t (0)), (1, ma_j (v1)), (4, ma_i (v4))] [] (q_h f g) (ma_zr (q_G t) false Q) := by
  intro n
  induction n with
  | zero =>
    intro v1 v4 f g hp
    rw [p_Desk_type_55] at hp
    cases hp
  | succ n ih =>
    intro v1 v4 f g hp
    rw [p_Desk_type_55] at hp
    refine ev_iload (pc := 55) d_Desk_type_55 rfl ?_
    refine et_if_lt (pc := 57) (tgt := 79) d_Desk_type_57 (by decide) (fun hj1 => ?_) (fun hj1 => ?_)
    · rw [if_pos hj1] at hp
      refine et_aload_n (pc := 79) d_Desk_type_79 rfl rfl ?_
      refine ev_iconst (pc := 80) d_Desk_type_80 ?_
      refine et_putz (pc := 81) ok (fl_Desk_55 t) (by decide) d_Desk_type_81 s_0 ?_
      replace hp := q_let_of hp
      obtain ⟨f2, hz, hp⟩ := hp
      rw [← hz]
      clear hz
      refine et_aload_n (pc := 84) d_Desk_type_84 rfl rfl ?_
      refine et_getr (pc := 85) ok (fl_Desk_10 t) rfl d_Desk_type_85 s_0 r_0_0 ?_
      refine et_geti (pc := 88) ok (fl_Desk_89 t) rfl d_Desk_type_88 s_1 ?_
      cases Option.some.inj hp
      exact et_iret (pc := 91) d_Desk_type_91 rfl hQ
    · rw [if_neg hj1] at hp
      refine et_aload_n (pc := 60) d_Desk_type_60 rfl rfl ?_
      refine et_getr (pc := 61) ok (fl_Desk_10 t) rfl d_Desk_type_61 s_0 r_0_0 ?_
      refine ev_lload_n (pc := 64) d_Desk_type_64 rfl rfl ?_
      refine ev_iload (pc := 65) d_Desk_type_65 rfl ?_
      replace hp := q_bind hp
      obtain ⟨x3, hm4, hp⟩ := hp
      refine et_callSi (pc := 67) (f1 := x3.2.1) (g1 := x3.2.2) ok [ma_j (v1), ma_i (v4)] [q_a t (1)] (cf_Desk_95 t) d_Desk_type_67 (t_Desk_byteOf t ok (v1) (v4) f g hm4 ⟨rfl, rfl⟩) rfl rfl (by decide) (by decide) (q_ble rfl) ?_
      replace hp := q_bind hp
      obtain ⟨x5, hm6, hp⟩ := hp
      refine et_callVv (pc := 70) (f1 := x5.1) (g1 := x5.2) ok [ma_i (x3.1)] [] (cf_Desk_99 t) d_Desk_type_70 s_1 k_1 rfl (t_Script_append t ok (x3.1) x3.2.1 x3.2.2 hm6 ⟨rfl, rfl⟩) rfl rfl (by decide) (by decide) (q_ble rfl) ?_
      refine ev_iinc (pc := 73) d_Desk_type_73 (by decide) rfl [(4, _), (0, _), (1, _)] rfl ?_
      replace hp := q_let_of hp
      obtain ⟨z7, hz, hp⟩ := hp
      rw [← hz]
      clear hz
      refine ev_goto (pc := 76) (tgt := 55) d_Desk_type_76 (by decide) ?_
      refine ev_sub (ls2 := [(0, q_a t (0)), (1, ma_j (v1)), (4, ma_i (z7))]) [1, 2, 0] rfl ?_
      exact ih (v1) (z7) x5.1 x5.2 hp
theorem e_Desk_type_19 (t : q_V) (ok : ma_ok (q_G t))  {Q : Option Value → ma_H → Prop} {y : Int × q_F × q_F} (hQ : Q (some (ma_i y.1)) (q_h y.2.1 y.2.2))    (f g : q_F) (hp : p_Desk_type_19    f g = some y) : ma_Ev (q_G t) 2 46 0 0 m_Desk_type 19 [] [] (q_h f g) (ma_zr (q_G t) false Q) := by
  unfold p_Desk_type_19 at hp
  cases hp
theorem t_Desk_type (t : q_V) (ok : ma_ok (q_G t))  {Q : Option Value → ma_H → Prop} {y : Int × q_F × q_F} (v1 : Int) (v3 : Int) (f g : q_F) (hp : p_Desk_type  v1 v3 f g = some y) (hQ : Q (some (ma_i y.1)) (q_h y.2.1 y.2.2)) : ma_Met (q_G t) false 2 46 0 0 m_Desk_type [q_a t (0), ma_j (v1), ma_i (v3)] (q_h f g) Q := by
  refine ma_met (by decide +kernel) (q_ble rfl) rfl ?_
  change ma_Ev (q_G t) 2 46 0 0 m_Desk_type 0 [(0, q_a t (0)), (1, ma_j (v1)), (3, ma_i (v3))] [] (q_h f g) (ma_zr (q_G t) false Q)
  unfold p_Desk_type at hp
  refine ev_iload_n (pc := 0) d_Desk_type_0 rfl rfl ?_
  refine ev_iconst (pc := 1) d_Desk_type_1 ?_
  refine et_icmp_lt (pc := 2) (tgt := 19) d_Desk_type_2 (by decide) (fun hj1 => ?_) (fun hj1 => ?_)
  · rw [if_pos hj1] at hp
    refine ev_sub (ls2 := []) [] rfl ?_
    exact e_Desk_type_19 t ok  hQ    f g hp
  · rw [if_neg hj1] at hp
    refine ev_iload_n (pc := 5) d_Desk_type_5 rfl rfl ?_
    refine ev_bipush (pc := 6) d_Desk_type_6 rfl ?_
    refine et_icmp_gt (pc := 8) (tgt := 19) d_Desk_type_8 (by decide) (fun hj2 => ?_) (fun hj2 => ?_)
    · rw [if_pos hj2] at hp
      refine ev_sub (ls2 := []) [] rfl ?_
      exact e_Desk_type_19 t ok  hQ    f g hp
    · rw [if_neg hj2] at hp
      refine ev_lload_n (pc := 11) d_Desk_type_11 rfl rfl ?_
      refine ev_iload_n (pc := 12) d_Desk_type_12 rfl rfl ?_
      replace hp := q_bind hp
      obtain ⟨x3, hm4, hp⟩ := hp
      refine et_callSi (pc := 13) (f1 := x3.2.1) (g1 := x3.2.2) ok [ma_j (v1), ma_i (v3)] [] (cf_Desk_85 t) d_Desk_type_13 (t_Desk_allCanBeTyped t ok (v1) (v3) f g hm4 ⟨rfl, rfl⟩) rfl rfl (by decide) (by decide) (q_ble rfl) ?_
      refine et_if_ne (pc := 16) (tgt := 27) d_Desk_type_16 (by decide) (fun hj5 => ?_) (fun hj5 => ?_)
      · rw [if_neg hj5] at hp
        refine et_aload_n (pc := 27) d_Desk_type_27 rfl rfl ?_
        refine et_getr (pc := 28) ok (fl_Desk_10 t) rfl d_Desk_type_28 s_0 r_0_0 ?_
        refine et_geti (pc := 31) ok (fl_Desk_89 t) rfl d_Desk_type_31 s_1 ?_
        refine ev_iload_n (pc := 34) d_Desk_type_34 rfl rfl ?_
        refine ev_iadd (pc := 35) d_Desk_type_35 ?_
        refine ev_sipush (pc := 36) d_Desk_type_36 rfl ?_
        refine et_icmp_le (pc := 39) (tgt := 50) d_Desk_type_39 (by decide) (fun hj6 => ?_) (fun hj6 => ?_)
        · rw [if_pos hj6] at hp
          refine ev_iload_n (pc := 50) d_Desk_type_50 rfl rfl ?_
          refine ev_iconst (pc := 51) d_Desk_type_51 ?_
          refine ev_isub (pc := 52) d_Desk_type_52 ?_
          refine ev_istore (pc := 53) d_Desk_type_53 (by decide) [(4, _), (0, _), (1, _), (3, _)] rfl ?_
          replace hp := q_let_of hp
          obtain ⟨z7, hz, hp⟩ := hp
          rw [← hz]
          clear hz
          refine ev_sub (ls2 := [(0, q_a t (0)), (1, ma_j (v1)), (4, ma_i (z7))]) [1, 2, 0] rfl ?_
          exact e_Desk_type_55 t ok  hQ   1000 (v1) (z7) x3.2.1 x3.2.2 hp
        · rw [if_neg hj6] at hp
          cases hp
      · rw [if_pos hj5] at hp
        refine ev_sub (ls2 := []) [] rfl ?_
        exact e_Desk_type_19 t ok  hQ    x3.2.1 x3.2.2 hp
theorem d_Desk_clear_0 : decode (m_c m_Desk_clear) 0 = .ok (.aload_n 0, 1) := by decide +kernel
theorem d_Desk_clear_1 : decode (m_c m_Desk_clear) 1 = .ok (.getfield 10, 3) := by decide +kernel
theorem d_Desk_clear_4 : decode (m_c m_Desk_clear) 4 = .ok (.iconst 0, 1) := by decide +kernel
theorem d_Desk_clear_5 : decode (m_c m_Desk_clear) 5 = .ok (.putfield 89, 3) := by decide +kernel
theorem d_Desk_clear_8 : decode (m_c m_Desk_clear) 8 = .ok (.aload_n 0, 1) := by decide +kernel
theorem d_Desk_clear_9 : decode (m_c m_Desk_clear) 9 = .ok (.iconst 0, 1) := by decide +kernel
theorem d_Desk_clear_10 : decode (m_c m_Desk_clear) 10 = .ok (.putfield 55, 3) := by decide +kernel
theorem d_Desk_clear_13 : decode (m_c m_Desk_clear) 13 = .ok (.return_, 1) := by decide +kernel
def p_Desk_clear   (f g : q_F) : Option (q_F × q_F) :=
  q_let (ma_up f 1 1 0) fun f1 =>
  q_let (ma_up f1 0 6 0) fun f2 =>
  some (f2, g)
theorem t_Desk_clear (t : q_V) (ok : ma_ok (q_G t))  {Q : Option Value → ma_H → Prop} {y : q_F × q_F}  (f g : q_F) (hp : p_Desk_clear   f g = some y) (hQ : Q (none) (q_h y.1 y.2)) : ma_Met (q_G t) false 0 0 0 0 m_Desk_clear [q_a t (0)] (q_h f g) Q := by
  refine ma_met (by decide +kernel) (q_ble rfl) rfl ?_
  change ma_Ev (q_G t) 0 0 0 0 m_Desk_clear 0 [(0, q_a t (0))] [] (q_h f g) (ma_zr (q_G t) false Q)
  unfold p_Desk_clear at hp
  refine et_aload_n (pc := 0) d_Desk_clear_0 rfl rfl ?_
  refine et_getr (pc := 1) ok (fl_Desk_10 t) rfl d_Desk_clear_1 s_0 r_0_0 ?_
  refine ev_iconst (pc := 4) d_Desk_clear_4 ?_
  refine et_puti (pc := 5) ok (fl_Desk_89 t) d_Desk_clear_5 s_1 ?_
  replace hp := q_let_of hp
  obtain ⟨f1, hz, hp⟩ := hp
  rw [← hz]
  clear hz
  refine et_aload_n (pc := 8) d_Desk_clear_8 rfl rfl ?_
  refine ev_iconst (pc := 9) d_Desk_clear_9 ?_
  refine et_putz (pc := 10) ok (fl_Desk_55 t) (by decide) d_Desk_clear_10 s_0 ?_
  replace hp := q_let_of hp
  obtain ⟨f2, hz, hp⟩ := hp
  rw [← hz]
  clear hz
  cases Option.some.inj hp
  exact et_ret (pc := 13) d_Desk_clear_13 rfl hQ
theorem d_Desk_bad_0 : decode (m_c m_Desk_bad) 0 = .ok (.aload_n 0, 1) := by decide +kernel
theorem d_Desk_bad_1 : decode (m_c m_Desk_bad) 1 = .ok (.getfield 59, 3) := by decide +kernel
theorem d_Desk_bad_4 : decode (m_c m_Desk_bad) 4 = .ok (.ireturn, 1) := by decide +kernel
def p_Desk_bad   (f g : q_F) : Option (Int × q_F × q_F) :=
  some (f 0 7, f, g)
theorem t_Desk_bad (t : q_V) (ok : ma_ok (q_G t))  {Q : Option Value → ma_H → Prop} {y : Int × q_F × q_F}  (f g : q_F) (hp : p_Desk_bad   f g = some y) (hQ : Q (some (ma_i y.1)) (q_h y.2.1 y.2.2)) : ma_Met (q_G t) false 0 0 0 0 m_Desk_bad [q_a t (0)] (q_h f g) Q := by
  refine ma_met (by decide +kernel) (q_ble rfl) rfl ?_
  change ma_Ev (q_G t) 0 0 0 0 m_Desk_bad 0 [(0, q_a t (0))] [] (q_h f g) (ma_zr (q_G t) false Q)
  unfold p_Desk_bad at hp
  refine et_aload_n (pc := 0) d_Desk_bad_0 rfl rfl ?_
  refine et_geti (pc := 1) ok (fl_Desk_59 t) rfl d_Desk_bad_1 s_0 ?_
  cases Option.some.inj hp
  exact et_iret (pc := 4) d_Desk_bad_4 rfl hQ
theorem d_Desk_needOneOfThree_0 : decode (m_c m_Desk_needOneOfThree) 0 = .ok (.iload_n 0, 1) := by decide +kernel
theorem d_Desk_needOneOfThree_1 : decode (m_c m_Desk_needOneOfThree) 1 = .ok (.ifCond .lt 8, 3) := by decide +kernel
theorem d_Desk_needOneOfThree_4 : decode (m_c m_Desk_needOneOfThree) 4 = .ok (.iload_n 0, 1) := by decide +kernel
theorem d_Desk_needOneOfThree_5 : decode (m_c m_Desk_needOneOfThree) 5 = .ok (.iconst 2, 1) := by decide +kernel
theorem d_Desk_needOneOfThree_6 : decode (m_c m_Desk_needOneOfThree) 6 = .ok (.if_icmp .le 11, 3) := by decide +kernel
theorem d_Desk_needOneOfThree_9 : decode (m_c m_Desk_needOneOfThree) 9 = .ok (.new 63, 3) := by decide +kernel
theorem d_Desk_needOneOfThree_12 : decode (m_c m_Desk_needOneOfThree) 12 = .ok (.dup, 1) := by decide +kernel
theorem d_Desk_needOneOfThree_13 : decode (m_c m_Desk_needOneOfThree) 13 = .ok (.invokespecial 65, 3) := by decide +kernel
theorem d_Desk_needOneOfThree_16 : decode (m_c m_Desk_needOneOfThree) 16 = .ok (.athrow, 1) := by decide +kernel
theorem d_Desk_needOneOfThree_17 : decode (m_c m_Desk_needOneOfThree) 17 = .ok (.return_, 1) := by decide +kernel
def p_Desk_needOneOfThree_9    (f g : q_F) : Option (q_F × q_F) :=
  none
def p_Desk_needOneOfThree  (v0 : Int) (f g : q_F) : Option (q_F × q_F) :=
  if q_sw v0 < 0 then
    p_Desk_needOneOfThree_9    f g
  else
    if q_sw v0 ≤ q_sw 2 then
      some (f, g)
    else
      p_Desk_needOneOfThree_9    f g
theorem e_Desk_needOneOfThree_9 (t : q_V) (ok : ma_ok (q_G t))  {Q : Option Value → ma_H → Prop} {y : q_F × q_F} (hQ : Q (none) (q_h y.1 y.2))    (f g : q_F) (hp : p_Desk_needOneOfThree_9    f g = some y) : ma_Ev (q_G t) 0 0 0 0 m_Desk_needOneOfThree 9 [] [] (q_h f g) (ma_zr (q_G t) false Q) := by
  unfold p_Desk_needOneOfThree_9 at hp
  cases hp
theorem t_Desk_needOneOfThree (t : q_V) (ok : ma_ok (q_G t))  {Q : Option Value → ma_H → Prop} {y : q_F × q_F} (v0 : Int) (f g : q_F) (hp : p_Desk_needOneOfThree  v0 f g = some y) (hQ : Q (none) (q_h y.1 y.2)) : ma_Met (q_G t) false 0 0 0 0 m_Desk_needOneOfThree [ma_i (v0)] (q_h f g) Q := by
  refine ma_met (by decide +kernel) (q_ble rfl) rfl ?_
  change ma_Ev (q_G t) 0 0 0 0 m_Desk_needOneOfThree 0 [(0, ma_i (v0))] [] (q_h f g) (ma_zr (q_G t) false Q)
  unfold p_Desk_needOneOfThree at hp
  refine ev_iload_n (pc := 0) d_Desk_needOneOfThree_0 rfl rfl ?_
  refine et_if_lt (pc := 1) (tgt := 9) d_Desk_needOneOfThree_1 (by decide) (fun hj1 => ?_) (fun hj1 => ?_)
  · rw [if_pos hj1] at hp
    refine ev_sub (ls2 := []) [] rfl ?_
    exact e_Desk_needOneOfThree_9 t ok  hQ    f g hp
  · rw [if_neg hj1] at hp
    refine ev_iload_n (pc := 4) d_Desk_needOneOfThree_4 rfl rfl ?_
    refine ev_iconst (pc := 5) d_Desk_needOneOfThree_5 ?_
    refine et_icmp_le (pc := 6) (tgt := 17) d_Desk_needOneOfThree_6 (by decide) (fun hj2 => ?_) (fun hj2 => ?_)
    · rw [if_pos hj2] at hp
      cases Option.some.inj hp
      exact et_ret (pc := 17) d_Desk_needOneOfThree_17 rfl hQ
    · rw [if_neg hj2] at hp
      refine ev_sub (ls2 := []) [] rfl ?_
      exact e_Desk_needOneOfThree_9 t ok  hQ    f g hp
theorem d_Desk_needLayout_0 : decode (m_c m_Desk_needLayout) 0 = .ok (.aload_n 0, 1) := by decide +kernel
theorem d_Desk_needLayout_1 : decode (m_c m_Desk_needLayout) 1 = .ok (.getfield 55, 3) := by decide +kernel
theorem d_Desk_needLayout_4 : decode (m_c m_Desk_needLayout) 4 = .ok (.ifCond .ne 11, 3) := by decide +kernel
theorem d_Desk_needLayout_7 : decode (m_c m_Desk_needLayout) 7 = .ok (.new 92, 3) := by decide +kernel
theorem d_Desk_needLayout_10 : decode (m_c m_Desk_needLayout) 10 = .ok (.dup, 1) := by decide +kernel
theorem d_Desk_needLayout_11 : decode (m_c m_Desk_needLayout) 11 = .ok (.invokespecial 94, 3) := by decide +kernel
theorem d_Desk_needLayout_14 : decode (m_c m_Desk_needLayout) 14 = .ok (.athrow, 1) := by decide +kernel
theorem d_Desk_needLayout_15 : decode (m_c m_Desk_needLayout) 15 = .ok (.return_, 1) := by decide +kernel
def p_Desk_needLayout   (f g : q_F) : Option (q_F × q_F) :=
  if q_sw (f 0 6) = 0 then
    none
  else
    some (f, g)
theorem t_Desk_needLayout (t : q_V) (ok : ma_ok (q_G t))  {Q : Option Value → ma_H → Prop} {y : q_F × q_F}  (f g : q_F) (hp : p_Desk_needLayout   f g = some y) (hQ : Q (none) (q_h y.1 y.2)) : ma_Met (q_G t) false 0 0 0 0 m_Desk_needLayout [q_a t (0)] (q_h f g) Q := by
  refine ma_met (by decide +kernel) (q_ble rfl) rfl ?_
  change ma_Ev (q_G t) 0 0 0 0 m_Desk_needLayout 0 [(0, q_a t (0))] [] (q_h f g) (ma_zr (q_G t) false Q)
  unfold p_Desk_needLayout at hp
  refine et_aload_n (pc := 0) d_Desk_needLayout_0 rfl rfl ?_
  refine et_geti (pc := 1) ok (fl_Desk_55 t) rfl d_Desk_needLayout_1 s_0 ?_
  refine et_if_ne (pc := 4) (tgt := 15) d_Desk_needLayout_4 (by decide) (fun hj1 => ?_) (fun hj1 => ?_)
  · rw [if_neg hj1] at hp
    cases Option.some.inj hp
    exact et_ret (pc := 15) d_Desk_needLayout_15 rfl hQ
  · rw [if_pos hj1] at hp
    cases hp
theorem d_Desk_section_0 : decode (m_c m_Desk_section) 0 = .ok (.iload_n 2, 1) := by decide +kernel
theorem d_Desk_section_1 : decode (m_c m_Desk_section) 1 = .ok (.invokestatic 123, 3) := by decide +kernel
theorem d_Desk_section_4 : decode (m_c m_Desk_section) 4 = .ok (.aload_n 0, 1) := by decide +kernel
theorem d_Desk_section_5 : decode (m_c m_Desk_section) 5 = .ok (.invokevirtual 126, 3) := by decide +kernel
theorem d_Desk_section_8 : decode (m_c m_Desk_section) 8 = .ok (.iload_n 1, 1) := by decide +kernel
theorem d_Desk_section_9 : decode (m_c m_Desk_section) 9 = .ok (.ifCond .lt 24, 3) := by decide +kernel
theorem d_Desk_section_12 : decode (m_c m_Desk_section) 12 = .ok (.iload_n 1, 1) := by decide +kernel
theorem d_Desk_section_13 : decode (m_c m_Desk_section) 13 = .ok (.bipush 8, 2) := by decide +kernel
theorem d_Desk_section_15 : decode (m_c m_Desk_section) 15 = .ok (.if_icmp .ge 18, 3) := by decide +kernel
theorem d_Desk_section_18 : decode (m_c m_Desk_section) 18 = .ok (.aload_n 0, 1) := by decide +kernel
theorem d_Desk_section_19 : decode (m_c m_Desk_section) 19 = .ok (.getfield 19, 3) := by decide +kernel
theorem d_Desk_section_22 : decode (m_c m_Desk_section) 22 = .ok (.getfield 129, 3) := by decide +kernel
theorem d_Desk_section_25 : decode (m_c m_Desk_section) 25 = .ok (.iload_n 1, 1) := by decide +kernel
theorem d_Desk_section_26 : decode (m_c m_Desk_section) 26 = .ok (.aaload, 1) := by decide +kernel
theorem d_Desk_section_27 : decode (m_c m_Desk_section) 27 = .ok (.getfield 133, 3) := by decide +kernel
theorem d_Desk_section_30 : decode (m_c m_Desk_section) 30 = .ok (.ifCond .ne 11, 3) := by decide +kernel
theorem d_Desk_section_33 : decode (m_c m_Desk_section) 33 = .ok (.new 138, 3) := by decide +kernel
theorem d_Desk_section_36 : decode (m_c m_Desk_section) 36 = .ok (.dup, 1) := by decide +kernel
theorem d_Desk_section_37 : decode (m_c m_Desk_section) 37 = .ok (.invokespecial 140, 3) := by decide +kernel
theorem d_Desk_section_40 : decode (m_c m_Desk_section) 40 = .ok (.athrow, 1) := by decide +kernel
theorem d_Desk_section_41 : decode (m_c m_Desk_section) 41 = .ok (.aload_n 0, 1) := by decide +kernel
theorem d_Desk_section_42 : decode (m_c m_Desk_section) 42 = .ok (.getfield 19, 3) := by decide +kernel
theorem d_Desk_section_45 : decode (m_c m_Desk_section) 45 = .ok (.getfield 129, 3) := by decide +kernel
theorem d_Desk_section_48 : decode (m_c m_Desk_section) 48 = .ok (.iload_n 1, 1) := by decide +kernel
theorem d_Desk_section_49 : decode (m_c m_Desk_section) 49 = .ok (.aaload, 1) := by decide +kernel
theorem d_Desk_section_50 : decode (m_c m_Desk_section) 50 = .ok (.astore_n 3, 1) := by decide +kernel
theorem d_Desk_section_51 : decode (m_c m_Desk_section) 51 = .ok (.iload_n 2, 1) := by decide +kernel
theorem d_Desk_section_52 : decode (m_c m_Desk_section) 52 = .ok (.ifCond .ne 8, 3) := by decide +kernel
theorem d_Desk_section_55 : decode (m_c m_Desk_section) 55 = .ok (.aload_n 3, 1) := by decide +kernel
theorem d_Desk_section_56 : decode (m_c m_Desk_section) 56 = .ok (.getfield 141, 3) := by decide +kernel
theorem d_Desk_section_59 : decode (m_c m_Desk_section) 59 = .ok (.ireturn, 1) := by decide +kernel
theorem d_Desk_section_60 : decode (m_c m_Desk_section) 60 = .ok (.iload_n 2, 1) := by decide +kernel
theorem d_Desk_section_61 : decode (m_c m_Desk_section) 61 = .ok (.iconst 1, 1) := by decide +kernel
theorem d_Desk_section_62 : decode (m_c m_Desk_section) 62 = .ok (.if_icmp .ne 10, 3) := by decide +kernel
theorem d_Desk_section_65 : decode (m_c m_Desk_section) 65 = .ok (.aload_n 3, 1) := by decide +kernel
theorem d_Desk_section_66 : decode (m_c m_Desk_section) 66 = .ok (.getfield 144, 3) := by decide +kernel
theorem d_Desk_section_69 : decode (m_c m_Desk_section) 69 = .ok (.goto 7, 3) := by decide +kernel
theorem d_Desk_section_72 : decode (m_c m_Desk_section) 72 = .ok (.aload_n 3, 1) := by decide +kernel
theorem d_Desk_section_73 : decode (m_c m_Desk_section) 73 = .ok (.getfield 145, 3) := by decide +kernel
theorem d_Desk_section_76 : decode (m_c m_Desk_section) 76 = .ok (.ireturn, 1) := by decide +kernel
def p_Desk_section_76   (s0 : Int) (f g : q_F) : Option (Int × q_F × q_F) :=
  some (s0, f, g)
def p_Desk_section_33    (f g : q_F) : Option (Int × q_F × q_F) :=
  none
def p_Desk_section  (v1 : Int) (v2 : Int) (f g : q_F) : Option (Int × q_F × q_F) :=
  (p_Desk_needOneOfThree (v2) f g).bind fun x1 =>
  (p_Desk_needLayout  x1.1 x1.2).bind fun x3 =>
  if q_sw v1 < 0 then
    p_Desk_section_33    x3.1 x3.2
  else
    if q_sw 8 ≤ q_sw v1 then
      p_Desk_section_33    x3.1 x3.2
    else
      if 0 ≤ v1 ∧ v1 < 8 then
        if q_sw (x3.1 (28 + Int.toNat v1) 0) = 0 then
          p_Desk_section_33    x3.1 x3.2
        else
          if 0 ≤ v1 ∧ v1 < 8 then
            if q_sw v2 = 0 then
              some (x3.1 (28 + Int.toNat v1) 9, x3.1, x3.2)
            else
              if q_sw v2 = q_sw 1 then
                p_Desk_section_76   (x3.1 (28 + Int.toNat v1) 10) x3.1 x3.2
              else
                p_Desk_section_76   (x3.1 (28 + Int.toNat v1) 11) x3.1 x3.2
          else none
      else none
theorem e_Desk_section_76 (t : q_V) (ok : ma_ok (q_G t))  {Q : Option Value → ma_H → Prop} {y : Int × q_F × q_F} (hQ : Q (some (ma_i y.1)) (q_h y.2.1 y.2.2))   (s0 : Int) (f g : q_F) (hp : p_Desk_section_76   s0 f g = some y) : ma_Ev (q_G t) 1 20 0 0 m_Desk_section 76 [] [ma_i (s0)] (q_h f g) (ma_zr (q_G t) false Q) := by
  unfold p_Desk_section_76 at hp
  cases Option.some.inj hp
  exact et_iret (pc := 76) d_Desk_section_76 rfl hQ
theorem e_Desk_section_33 (t : q_V) (ok : ma_ok (q_G t))  {Q : Option Value → ma_H → Prop} {y : Int × q_F × q_F} (hQ : Q (some (ma_i y.1)) (q_h y.2.1 y.2.2))    (f g : q_F) (hp : p_Desk_section_33    f g = some y) : ma_Ev (q_G t) 1 20 0 0 m_Desk_section 33 [] [] (q_h f g) (ma_zr (q_G t) false Q) := by
  unfold p_Desk_section_33 at hp
  cases hp
theorem t_Desk_section (t : q_V) (ok : ma_ok (q_G t))  {Q : Option Value → ma_H → Prop} {y : Int × q_F × q_F} (v1 : Int) (v2 : Int) (f g : q_F) (hp : p_Desk_section  v1 v2 f g = some y) (hQ : Q (some (ma_i y.1)) (q_h y.2.1 y.2.2)) : ma_Met (q_G t) false 1 20 0 0 m_Desk_section [q_a t (0), ma_i (v1), ma_i (v2)] (q_h f g) Q := by
  refine ma_met (by decide +kernel) (q_ble rfl) rfl ?_
  change ma_Ev (q_G t) 1 20 0 0 m_Desk_section 0 [(0, q_a t (0)), (1, ma_i (v1)), (2, ma_i (v2))] [] (q_h f g) (ma_zr (q_G t) false Q)
  unfold p_Desk_section at hp
  refine ev_iload_n (pc := 0) d_Desk_section_0 rfl rfl ?_
  replace hp := q_bind hp
  obtain ⟨x1, hm2, hp⟩ := hp
  refine et_callSv (pc := 1) (f1 := x1.1) (g1 := x1.2) ok [ma_i (v2)] [] (cf_Desk_123 t) d_Desk_section_1 (t_Desk_needOneOfThree t ok (v2) f g hm2 ⟨rfl, rfl⟩) rfl rfl (by decide) (by decide) (q_ble rfl) ?_
  refine et_aload_n (pc := 4) d_Desk_section_4 rfl rfl ?_
  replace hp := q_bind hp
  obtain ⟨x3, hm4, hp⟩ := hp
  refine et_callVv (pc := 5) (f1 := x3.1) (g1 := x3.2) ok [] [] (cf_Desk_126 t) d_Desk_section_5 s_0 k_0 rfl (t_Desk_needLayout t ok  x1.1 x1.2 hm4 ⟨rfl, rfl⟩) rfl rfl (by decide) (by decide) (q_ble rfl) ?_
  refine ev_iload_n (pc := 8) d_Desk_section_8 rfl rfl ?_
  refine et_if_lt (pc := 9) (tgt := 33) d_Desk_section_9 (by decide) (fun hj5 => ?_) (fun hj5 => ?_)
  · rw [if_pos hj5] at hp
    refine ev_sub (ls2 := []) [] rfl ?_
    exact e_Desk_section_33 t ok  hQ    x3.1 x3.2 hp
  · rw [if_neg hj5] at hp
    refine ev_iload_n (pc := 12) d_Desk_section_12 rfl rfl ?_
    refine ev_bipush (pc := 13) d_Desk_section_13 rfl ?_
    refine et_icmp_ge (pc := 15) (tgt := 33) d_Desk_section_15 (by decide) (fun hj6 => ?_) (fun hj6 => ?_)
    · rw [if_pos hj6] at hp
      refine ev_sub (ls2 := []) [] rfl ?_
      exact e_Desk_section_33 t ok  hQ    x3.1 x3.2 hp
    · rw [if_neg hj6] at hp
      refine et_aload_n (pc := 18) d_Desk_section_18 rfl rfl ?_
      refine et_getr (pc := 19) ok (fl_Desk_19 t) rfl d_Desk_section_19 s_0 r_0_1 ?_
      refine et_getr (pc := 22) ok (fl_Desk_129 t) rfl d_Desk_section_22 s_3 r_3_2 ?_
      refine ev_iload_n (pc := 25) d_Desk_section_25 rfl rfl ?_
      replace hp := q_if hp
      obtain ⟨hb7, hp⟩ := hp
      refine et_aald (pc := 26) d_Desk_section_26 s_6 hb7 (by decide) (r_6 _ (by omega)) ?_
      refine et_geti (pc := 27) ok (fl_Desk_133 t) rfl d_Desk_section_27 (s_28 _ (by omega) (by omega)) ?_
      refine et_if_ne (pc := 30) (tgt := 41) d_Desk_section_30 (by decide) (fun hj8 => ?_) (fun hj8 => ?_)
      · rw [if_neg hj8] at hp
        refine et_aload_n (pc := 41) d_Desk_section_41 rfl rfl ?_
        refine et_getr (pc := 42) ok (fl_Desk_19 t) rfl d_Desk_section_42 s_0 r_0_1 ?_
        refine et_getr (pc := 45) ok (fl_Desk_129 t) rfl d_Desk_section_45 s_3 r_3_2 ?_
        refine ev_iload_n (pc := 48) d_Desk_section_48 rfl rfl ?_
        replace hp := q_if hp
        obtain ⟨hb9, hp⟩ := hp
        refine et_aald (pc := 49) d_Desk_section_49 s_6 hb9 (by decide) (r_6 _ (by omega)) ?_
        refine et_astore_n (pc := 50) d_Desk_section_50 rfl (by decide) [(3, _), (0, _), (1, _), (2, _)] rfl ?_
        refine ev_iload_n (pc := 51) d_Desk_section_51 rfl rfl ?_
        refine et_if_ne (pc := 52) (tgt := 60) d_Desk_section_52 (by decide) (fun hj10 => ?_) (fun hj10 => ?_)
        · rw [if_neg hj10] at hp
          refine ev_iload_n (pc := 60) d_Desk_section_60 rfl rfl ?_
          refine ev_iconst (pc := 61) d_Desk_section_61 ?_
          refine et_icmp_ne (pc := 62) (tgt := 72) d_Desk_section_62 (by decide) (fun hj11 => ?_) (fun hj11 => ?_)
          · rw [if_neg hj11] at hp
            refine et_aload_n (pc := 72) d_Desk_section_72 rfl rfl ?_
            refine et_geti (pc := 73) ok (fl_Desk_145 t) rfl d_Desk_section_73 (s_28 _ (by omega) (by omega)) ?_
            refine ev_sub (ls2 := []) [] rfl ?_
            exact e_Desk_section_76 t ok  hQ   (x3.1 (28 + Int.toNat v1) 11) x3.1 x3.2 hp
          · rw [if_pos hj11] at hp
            refine et_aload_n (pc := 65) d_Desk_section_65 rfl rfl ?_
            refine et_geti (pc := 66) ok (fl_Desk_144 t) rfl d_Desk_section_66 (s_28 _ (by omega) (by omega)) ?_
            refine ev_goto (pc := 69) (tgt := 76) d_Desk_section_69 (by decide) ?_
            refine ev_sub (ls2 := []) [] rfl ?_
            exact e_Desk_section_76 t ok  hQ   (x3.1 (28 + Int.toNat v1) 10) x3.1 x3.2 hp
        · rw [if_pos hj10] at hp
          refine et_aload_n (pc := 55) d_Desk_section_55 rfl rfl ?_
          refine et_geti (pc := 56) ok (fl_Desk_141 t) rfl d_Desk_section_56 (s_28 _ (by omega) (by omega)) ?_
          cases Option.some.inj hp
          exact et_iret (pc := 59) d_Desk_section_59 rfl hQ
      · rw [if_pos hj8] at hp
        refine ev_sub (ls2 := []) [] rfl ?_
        exact e_Desk_section_33 t ok  hQ    x3.1 x3.2 hp
theorem d_Desk_put_0 : decode (m_c m_Desk_put) 0 = .ok (.iload_n 1, 1) := by decide +kernel
theorem d_Desk_put_1 : decode (m_c m_Desk_put) 1 = .ok (.ifCond .lt 9, 3) := by decide +kernel
theorem d_Desk_put_4 : decode (m_c m_Desk_put) 4 = .ok (.iload_n 1, 1) := by decide +kernel
theorem d_Desk_put_5 : decode (m_c m_Desk_put) 5 = .ok (.bipush 8, 2) := by decide +kernel
theorem d_Desk_put_7 : decode (m_c m_Desk_put) 7 = .ok (.if_icmp .lt 11, 3) := by decide +kernel
theorem d_Desk_put_10 : decode (m_c m_Desk_put) 10 = .ok (.new 63, 3) := by decide +kernel
theorem d_Desk_put_13 : decode (m_c m_Desk_put) 13 = .ok (.dup, 1) := by decide +kernel
theorem d_Desk_put_14 : decode (m_c m_Desk_put) 14 = .ok (.invokespecial 65, 3) := by decide +kernel
theorem d_Desk_put_17 : decode (m_c m_Desk_put) 17 = .ok (.athrow, 1) := by decide +kernel
theorem d_Desk_put_18 : decode (m_c m_Desk_put) 18 = .ok (.aload_n 0, 1) := by decide +kernel
theorem d_Desk_put_19 : decode (m_c m_Desk_put) 19 = .ok (.invokevirtual 126, 3) := by decide +kernel
theorem d_Desk_put_22 : decode (m_c m_Desk_put) 22 = .ok (.aload_n 0, 1) := by decide +kernel
theorem d_Desk_put_23 : decode (m_c m_Desk_put) 23 = .ok (.getfield 19, 3) := by decide +kernel
theorem d_Desk_put_26 : decode (m_c m_Desk_put) 26 = .ok (.getfield 70, 3) := by decide +kernel
theorem d_Desk_put_29 : decode (m_c m_Desk_put) 29 = .ok (.iload_n 1, 1) := by decide +kernel
theorem d_Desk_put_30 : decode (m_c m_Desk_put) 30 = .ok (.aaload, 1) := by decide +kernel
theorem d_Desk_put_31 : decode (m_c m_Desk_put) 31 = .ok (.getfield 148, 3) := by decide +kernel
theorem d_Desk_put_34 : decode (m_c m_Desk_put) 34 = .ok (.ireturn, 1) := by decide +kernel
def p_Desk_put_10    (f g : q_F) : Option (Int × q_F × q_F) :=
  none
def p_Desk_put  (v1 : Int) (f g : q_F) : Option (Int × q_F × q_F) :=
  if q_sw v1 < 0 then
    p_Desk_put_10    f g
  else
    if q_sw v1 < q_sw 8 then
      (p_Desk_needLayout  f g).bind fun x3 =>
      if 0 ≤ v1 ∧ v1 < 8 then
        some (x3.1 (16 + Int.toNat v1) 4, x3.1, x3.2)
      else none
    else
      p_Desk_put_10    f g
theorem e_Desk_put_10 (t : q_V) (ok : ma_ok (q_G t))  {Q : Option Value → ma_H → Prop} {y : Int × q_F × q_F} (hQ : Q (some (ma_i y.1)) (q_h y.2.1 y.2.2))    (f g : q_F) (hp : p_Desk_put_10    f g = some y) : ma_Ev (q_G t) 1 20 0 0 m_Desk_put 10 [] [] (q_h f g) (ma_zr (q_G t) false Q) := by
  unfold p_Desk_put_10 at hp
  cases hp
theorem t_Desk_put (t : q_V) (ok : ma_ok (q_G t))  {Q : Option Value → ma_H → Prop} {y : Int × q_F × q_F} (v1 : Int) (f g : q_F) (hp : p_Desk_put  v1 f g = some y) (hQ : Q (some (ma_i y.1)) (q_h y.2.1 y.2.2)) : ma_Met (q_G t) false 1 20 0 0 m_Desk_put [q_a t (0), ma_i (v1)] (q_h f g) Q := by
  refine ma_met (by decide +kernel) (q_ble rfl) rfl ?_
  change ma_Ev (q_G t) 1 20 0 0 m_Desk_put 0 [(0, q_a t (0)), (1, ma_i (v1))] [] (q_h f g) (ma_zr (q_G t) false Q)
  unfold p_Desk_put at hp
  refine ev_iload_n (pc := 0) d_Desk_put_0 rfl rfl ?_
  refine et_if_lt (pc := 1) (tgt := 10) d_Desk_put_1 (by decide) (fun hj1 => ?_) (fun hj1 => ?_)
  · rw [if_pos hj1] at hp
    refine ev_sub (ls2 := []) [] rfl ?_
    exact e_Desk_put_10 t ok  hQ    f g hp
  · rw [if_neg hj1] at hp
    refine ev_iload_n (pc := 4) d_Desk_put_4 rfl rfl ?_
    refine ev_bipush (pc := 5) d_Desk_put_5 rfl ?_
    refine et_icmp_lt (pc := 7) (tgt := 18) d_Desk_put_7 (by decide) (fun hj2 => ?_) (fun hj2 => ?_)
    · rw [if_pos hj2] at hp
      refine et_aload_n (pc := 18) d_Desk_put_18 rfl rfl ?_
      replace hp := q_bind hp
      obtain ⟨x3, hm4, hp⟩ := hp
      refine et_callVv (pc := 19) (f1 := x3.1) (g1 := x3.2) ok [] [] (cf_Desk_126 t) d_Desk_put_19 s_0 k_0 rfl (t_Desk_needLayout t ok  f g hm4 ⟨rfl, rfl⟩) rfl rfl (by decide) (by decide) (q_ble rfl) ?_
      refine et_aload_n (pc := 22) d_Desk_put_22 rfl rfl ?_
      refine et_getr (pc := 23) ok (fl_Desk_19 t) rfl d_Desk_put_23 s_0 r_0_1 ?_
      refine et_getr (pc := 26) ok (fl_Desk_70 t) rfl d_Desk_put_26 s_3 r_3_0 ?_
      refine ev_iload_n (pc := 29) d_Desk_put_29 rfl rfl ?_
      replace hp := q_if hp
      obtain ⟨hb5, hp⟩ := hp
      refine et_aald (pc := 30) d_Desk_put_30 s_4 hb5 (by decide) (r_4 _ (by omega)) ?_
      refine et_geti (pc := 31) ok (fl_Desk_148 t) rfl d_Desk_put_31 (s_16 _ (by omega) (by omega)) ?_
      cases Option.some.inj hp
      exact et_iret (pc := 34) d_Desk_put_34 rfl hQ
    · rw [if_neg hj2] at hp
      refine ev_sub (ls2 := []) [] rfl ?_
      exact e_Desk_put_10 t ok  hQ    f g hp
theorem d_Desk_symbol_0 : decode (m_c m_Desk_symbol) 0 = .ok (.iload_n 1, 1) := by decide +kernel
theorem d_Desk_symbol_1 : decode (m_c m_Desk_symbol) 1 = .ok (.bipush 8, 2) := by decide +kernel
theorem d_Desk_symbol_3 : decode (m_c m_Desk_symbol) 3 = .ok (.isub, 1) := by decide +kernel
theorem d_Desk_symbol_4 : decode (m_c m_Desk_symbol) 4 = .ok (.istore_n 2, 1) := by decide +kernel
theorem d_Desk_symbol_5 : decode (m_c m_Desk_symbol) 5 = .ok (.iload_n 1, 1) := by decide +kernel
theorem d_Desk_symbol_6 : decode (m_c m_Desk_symbol) 6 = .ok (.bipush 8, 2) := by decide +kernel
theorem d_Desk_symbol_8 : decode (m_c m_Desk_symbol) 8 = .ok (.if_icmp .lt 9, 3) := by decide +kernel
theorem d_Desk_symbol_11 : decode (m_c m_Desk_symbol) 11 = .ok (.iload_n 2, 1) := by decide +kernel
theorem d_Desk_symbol_12 : decode (m_c m_Desk_symbol) 12 = .ok (.bipush 18, 2) := by decide +kernel
theorem d_Desk_symbol_14 : decode (m_c m_Desk_symbol) 14 = .ok (.if_icmp .lt 11, 3) := by decide +kernel
theorem d_Desk_symbol_17 : decode (m_c m_Desk_symbol) 17 = .ok (.new 63, 3) := by decide +kernel
theorem d_Desk_symbol_20 : decode (m_c m_Desk_symbol) 20 = .ok (.dup, 1) := by decide +kernel
theorem d_Desk_symbol_21 : decode (m_c m_Desk_symbol) 21 = .ok (.invokespecial 65, 3) := by decide +kernel
theorem d_Desk_symbol_24 : decode (m_c m_Desk_symbol) 24 = .ok (.athrow, 1) := by decide +kernel
theorem d_Desk_symbol_25 : decode (m_c m_Desk_symbol) 25 = .ok (.aload_n 0, 1) := by decide +kernel
theorem d_Desk_symbol_26 : decode (m_c m_Desk_symbol) 26 = .ok (.invokevirtual 126, 3) := by decide +kernel
theorem d_Desk_symbol_29 : decode (m_c m_Desk_symbol) 29 = .ok (.aload_n 0, 1) := by decide +kernel
theorem d_Desk_symbol_30 : decode (m_c m_Desk_symbol) 30 = .ok (.getfield 19, 3) := by decide +kernel
theorem d_Desk_symbol_33 : decode (m_c m_Desk_symbol) 33 = .ok (.getfield 151, 3) := by decide +kernel
theorem d_Desk_symbol_36 : decode (m_c m_Desk_symbol) 36 = .ok (.iload_n 2, 1) := by decide +kernel
theorem d_Desk_symbol_37 : decode (m_c m_Desk_symbol) 37 = .ok (.aaload, 1) := by decide +kernel
theorem d_Desk_symbol_38 : decode (m_c m_Desk_symbol) 38 = .ok (.getfield 155, 3) := by decide +kernel
theorem d_Desk_symbol_41 : decode (m_c m_Desk_symbol) 41 = .ok (.ifCond .ne 11, 3) := by decide +kernel
theorem d_Desk_symbol_44 : decode (m_c m_Desk_symbol) 44 = .ok (.new 138, 3) := by decide +kernel
theorem d_Desk_symbol_47 : decode (m_c m_Desk_symbol) 47 = .ok (.dup, 1) := by decide +kernel
theorem d_Desk_symbol_48 : decode (m_c m_Desk_symbol) 48 = .ok (.invokespecial 140, 3) := by decide +kernel
theorem d_Desk_symbol_51 : decode (m_c m_Desk_symbol) 51 = .ok (.athrow, 1) := by decide +kernel
theorem d_Desk_symbol_52 : decode (m_c m_Desk_symbol) 52 = .ok (.aload_n 0, 1) := by decide +kernel
theorem d_Desk_symbol_53 : decode (m_c m_Desk_symbol) 53 = .ok (.getfield 19, 3) := by decide +kernel
theorem d_Desk_symbol_56 : decode (m_c m_Desk_symbol) 56 = .ok (.getfield 151, 3) := by decide +kernel
theorem d_Desk_symbol_59 : decode (m_c m_Desk_symbol) 59 = .ok (.iload_n 2, 1) := by decide +kernel
theorem d_Desk_symbol_60 : decode (m_c m_Desk_symbol) 60 = .ok (.aaload, 1) := by decide +kernel
theorem d_Desk_symbol_61 : decode (m_c m_Desk_symbol) 61 = .ok (.getfield 158, 3) := by decide +kernel
theorem d_Desk_symbol_64 : decode (m_c m_Desk_symbol) 64 = .ok (.ireturn, 1) := by decide +kernel
def p_Desk_symbol_17    (f g : q_F) : Option (Int × q_F × q_F) :=
  none
def p_Desk_symbol  (v1 : Int) (f g : q_F) : Option (Int × q_F × q_F) :=
  q_let (v1 - 8) fun z1 =>
  if q_sw v1 < q_sw 8 then
    p_Desk_symbol_17    f g
  else
    if q_sw z1 < q_sw 18 then
      (p_Desk_needLayout  f g).bind fun x4 =>
      if 0 ≤ z1 ∧ z1 < 18 then
        if q_sw (x4.1 (36 + Int.toNat z1) 0) = 0 then
          none
        else
          if 0 ≤ z1 ∧ z1 < 18 then
            some (x4.1 (36 + Int.toNat z1) 4, x4.1, x4.2)
          else none
      else none
    else
      p_Desk_symbol_17    f g
theorem e_Desk_symbol_17 (t : q_V) (ok : ma_ok (q_G t))  {Q : Option Value → ma_H → Prop} {y : Int × q_F × q_F} (hQ : Q (some (ma_i y.1)) (q_h y.2.1 y.2.2))    (f g : q_F) (hp : p_Desk_symbol_17    f g = some y) : ma_Ev (q_G t) 1 20 0 0 m_Desk_symbol 17 [] [] (q_h f g) (ma_zr (q_G t) false Q) := by
  unfold p_Desk_symbol_17 at hp
  cases hp
theorem t_Desk_symbol (t : q_V) (ok : ma_ok (q_G t))  {Q : Option Value → ma_H → Prop} {y : Int × q_F × q_F} (v1 : Int) (f g : q_F) (hp : p_Desk_symbol  v1 f g = some y) (hQ : Q (some (ma_i y.1)) (q_h y.2.1 y.2.2)) : ma_Met (q_G t) false 1 20 0 0 m_Desk_symbol [q_a t (0), ma_i (v1)] (q_h f g) Q := by
  refine ma_met (by decide +kernel) (q_ble rfl) rfl ?_
  change ma_Ev (q_G t) 1 20 0 0 m_Desk_symbol 0 [(0, q_a t (0)), (1, ma_i (v1))] [] (q_h f g) (ma_zr (q_G t) false Q)
  unfold p_Desk_symbol at hp
  refine ev_iload_n (pc := 0) d_Desk_symbol_0 rfl rfl ?_
  refine ev_bipush (pc := 1) d_Desk_symbol_1 rfl ?_
  refine ev_isub (pc := 3) d_Desk_symbol_3 ?_
  refine ev_istore_n (pc := 4) d_Desk_symbol_4 rfl (by decide) [(2, _), (0, _), (1, _)] rfl ?_
  replace hp := q_let_of hp
  obtain ⟨z1, hz, hp⟩ := hp
  rw [← hz]
  clear hz
  refine ev_iload_n (pc := 5) d_Desk_symbol_5 rfl rfl ?_
  refine ev_bipush (pc := 6) d_Desk_symbol_6 rfl ?_
  refine et_icmp_lt (pc := 8) (tgt := 17) d_Desk_symbol_8 (by decide) (fun hj2 => ?_) (fun hj2 => ?_)
  · rw [if_pos hj2] at hp
    refine ev_sub (ls2 := []) [] rfl ?_
    exact e_Desk_symbol_17 t ok  hQ    f g hp
  · rw [if_neg hj2] at hp
    refine ev_iload_n (pc := 11) d_Desk_symbol_11 rfl rfl ?_
    refine ev_bipush (pc := 12) d_Desk_symbol_12 rfl ?_
    refine et_icmp_lt (pc := 14) (tgt := 25) d_Desk_symbol_14 (by decide) (fun hj3 => ?_) (fun hj3 => ?_)
    · rw [if_pos hj3] at hp
      refine et_aload_n (pc := 25) d_Desk_symbol_25 rfl rfl ?_
      replace hp := q_bind hp
      obtain ⟨x4, hm5, hp⟩ := hp
      refine et_callVv (pc := 26) (f1 := x4.1) (g1 := x4.2) ok [] [] (cf_Desk_126 t) d_Desk_symbol_26 s_0 k_0 rfl (t_Desk_needLayout t ok  f g hm5 ⟨rfl, rfl⟩) rfl rfl (by decide) (by decide) (q_ble rfl) ?_
      refine et_aload_n (pc := 29) d_Desk_symbol_29 rfl rfl ?_
      refine et_getr (pc := 30) ok (fl_Desk_19 t) rfl d_Desk_symbol_30 s_0 r_0_1 ?_
      refine et_getr (pc := 33) ok (fl_Desk_151 t) rfl d_Desk_symbol_33 s_3 r_3_3 ?_
      refine ev_iload_n (pc := 36) d_Desk_symbol_36 rfl rfl ?_
      replace hp := q_if hp
      obtain ⟨hb6, hp⟩ := hp
      refine et_aald (pc := 37) d_Desk_symbol_37 s_7 hb6 (by decide) (r_7 _ (by omega)) ?_
      refine et_geti (pc := 38) ok (fl_Desk_155 t) rfl d_Desk_symbol_38 (s_36 _ (by omega) (by omega)) ?_
      refine et_if_ne (pc := 41) (tgt := 52) d_Desk_symbol_41 (by decide) (fun hj7 => ?_) (fun hj7 => ?_)
      · rw [if_neg hj7] at hp
        refine et_aload_n (pc := 52) d_Desk_symbol_52 rfl rfl ?_
        refine et_getr (pc := 53) ok (fl_Desk_19 t) rfl d_Desk_symbol_53 s_0 r_0_1 ?_
        refine et_getr (pc := 56) ok (fl_Desk_151 t) rfl d_Desk_symbol_56 s_3 r_3_3 ?_
        refine ev_iload_n (pc := 59) d_Desk_symbol_59 rfl rfl ?_
        replace hp := q_if hp
        obtain ⟨hb8, hp⟩ := hp
        refine et_aald (pc := 60) d_Desk_symbol_60 s_7 hb8 (by decide) (r_7 _ (by omega)) ?_
        refine et_geti (pc := 61) ok (fl_Desk_158 t) rfl d_Desk_symbol_61 (s_36 _ (by omega) (by omega)) ?_
        cases Option.some.inj hp
        exact et_iret (pc := 64) d_Desk_symbol_64 rfl hQ
      · rw [if_pos hj7] at hp
        cases hp
    · rw [if_neg hj3] at hp
      refine ev_sub (ls2 := []) [] rfl ?_
      exact e_Desk_symbol_17 t ok  hQ    f g hp
theorem d_Desk_copies_0 : decode (m_c m_Desk_copies) 0 = .ok (.aload_n 0, 1) := by decide +kernel
theorem d_Desk_copies_1 : decode (m_c m_Desk_copies) 1 = .ok (.invokevirtual 126, 3) := by decide +kernel
theorem d_Desk_copies_4 : decode (m_c m_Desk_copies) 4 = .ok (.aload_n 0, 1) := by decide +kernel
theorem d_Desk_copies_5 : decode (m_c m_Desk_copies) 5 = .ok (.getfield 19, 3) := by decide +kernel
theorem d_Desk_copies_8 : decode (m_c m_Desk_copies) 8 = .ok (.getfield 161, 3) := by decide +kernel
theorem d_Desk_copies_11 : decode (m_c m_Desk_copies) 11 = .ok (.ireturn, 1) := by decide +kernel
def p_Desk_copies   (f g : q_F) : Option (Int × q_F × q_F) :=
  (p_Desk_needLayout  f g).bind fun x1 =>
  some (x1.1 3 9, x1.1, x1.2)
theorem t_Desk_copies (t : q_V) (ok : ma_ok (q_G t))  {Q : Option Value → ma_H → Prop} {y : Int × q_F × q_F}  (f g : q_F) (hp : p_Desk_copies   f g = some y) (hQ : Q (some (ma_i y.1)) (q_h y.2.1 y.2.2)) : ma_Met (q_G t) false 1 20 0 0 m_Desk_copies [q_a t (0)] (q_h f g) Q := by
  refine ma_met (by decide +kernel) (q_ble rfl) rfl ?_
  change ma_Ev (q_G t) 1 20 0 0 m_Desk_copies 0 [(0, q_a t (0))] [] (q_h f g) (ma_zr (q_G t) false Q)
  unfold p_Desk_copies at hp
  refine et_aload_n (pc := 0) d_Desk_copies_0 rfl rfl ?_
  replace hp := q_bind hp
  obtain ⟨x1, hm2, hp⟩ := hp
  refine et_callVv (pc := 1) (f1 := x1.1) (g1 := x1.2) ok [] [] (cf_Desk_126 t) d_Desk_copies_1 s_0 k_0 rfl (t_Desk_needLayout t ok  f g hm2 ⟨rfl, rfl⟩) rfl rfl (by decide) (by decide) (q_ble rfl) ?_
  refine et_aload_n (pc := 4) d_Desk_copies_4 rfl rfl ?_
  refine et_getr (pc := 5) ok (fl_Desk_19 t) rfl d_Desk_copies_5 s_0 r_0_1 ?_
  refine et_geti (pc := 8) ok (fl_Desk_161 t) rfl d_Desk_copies_8 s_3 ?_
  cases Option.some.inj hp
  exact et_iret (pc := 11) d_Desk_copies_11 rfl hQ
theorem d_Desk_copy_0 : decode (m_c m_Desk_copy) 0 = .ok (.iload_n 2, 1) := by decide +kernel
theorem d_Desk_copy_1 : decode (m_c m_Desk_copy) 1 = .ok (.invokestatic 123, 3) := by decide +kernel
theorem d_Desk_copy_4 : decode (m_c m_Desk_copy) 4 = .ok (.aload_n 0, 1) := by decide +kernel
theorem d_Desk_copy_5 : decode (m_c m_Desk_copy) 5 = .ok (.invokevirtual 126, 3) := by decide +kernel
theorem d_Desk_copy_8 : decode (m_c m_Desk_copy) 8 = .ok (.iload_n 1, 1) := by decide +kernel
theorem d_Desk_copy_9 : decode (m_c m_Desk_copy) 9 = .ok (.ifCond .lt 14, 3) := by decide +kernel
theorem d_Desk_copy_12 : decode (m_c m_Desk_copy) 12 = .ok (.iload_n 1, 1) := by decide +kernel
theorem d_Desk_copy_13 : decode (m_c m_Desk_copy) 13 = .ok (.aload_n 0, 1) := by decide +kernel
theorem d_Desk_copy_14 : decode (m_c m_Desk_copy) 14 = .ok (.getfield 19, 3) := by decide +kernel
theorem d_Desk_copy_17 : decode (m_c m_Desk_copy) 17 = .ok (.getfield 161, 3) := by decide +kernel
theorem d_Desk_copy_20 : decode (m_c m_Desk_copy) 20 = .ok (.if_icmp .lt 11, 3) := by decide +kernel
theorem d_Desk_copy_23 : decode (m_c m_Desk_copy) 23 = .ok (.new 138, 3) := by decide +kernel
theorem d_Desk_copy_26 : decode (m_c m_Desk_copy) 26 = .ok (.dup, 1) := by decide +kernel
theorem d_Desk_copy_27 : decode (m_c m_Desk_copy) 27 = .ok (.invokespecial 140, 3) := by decide +kernel
theorem d_Desk_copy_30 : decode (m_c m_Desk_copy) 30 = .ok (.athrow, 1) := by decide +kernel
theorem d_Desk_copy_31 : decode (m_c m_Desk_copy) 31 = .ok (.aload_n 0, 1) := by decide +kernel
theorem d_Desk_copy_32 : decode (m_c m_Desk_copy) 32 = .ok (.getfield 19, 3) := by decide +kernel
theorem d_Desk_copy_35 : decode (m_c m_Desk_copy) 35 = .ok (.iload_n 1, 1) := by decide +kernel
theorem d_Desk_copy_36 : decode (m_c m_Desk_copy) 36 = .ok (.invokevirtual 164, 3) := by decide +kernel
theorem d_Desk_copy_39 : decode (m_c m_Desk_copy) 39 = .ok (.astore_n 3, 1) := by decide +kernel
theorem d_Desk_copy_40 : decode (m_c m_Desk_copy) 40 = .ok (.iload_n 2, 1) := by decide +kernel
theorem d_Desk_copy_41 : decode (m_c m_Desk_copy) 41 = .ok (.ifCond .ne 8, 3) := by decide +kernel
theorem d_Desk_copy_44 : decode (m_c m_Desk_copy) 44 = .ok (.aload_n 3, 1) := by decide +kernel
theorem d_Desk_copy_45 : decode (m_c m_Desk_copy) 45 = .ok (.getfield 145, 3) := by decide +kernel
theorem d_Desk_copy_48 : decode (m_c m_Desk_copy) 48 = .ok (.ireturn, 1) := by decide +kernel
theorem d_Desk_copy_49 : decode (m_c m_Desk_copy) 49 = .ok (.iload_n 2, 1) := by decide +kernel
theorem d_Desk_copy_50 : decode (m_c m_Desk_copy) 50 = .ok (.iconst 1, 1) := by decide +kernel
theorem d_Desk_copy_51 : decode (m_c m_Desk_copy) 51 = .ok (.if_icmp .ne 10, 3) := by decide +kernel
theorem d_Desk_copy_54 : decode (m_c m_Desk_copy) 54 = .ok (.aload_n 3, 1) := by decide +kernel
theorem d_Desk_copy_55 : decode (m_c m_Desk_copy) 55 = .ok (.getfield 141, 3) := by decide +kernel
theorem d_Desk_copy_58 : decode (m_c m_Desk_copy) 58 = .ok (.goto 7, 3) := by decide +kernel
theorem d_Desk_copy_61 : decode (m_c m_Desk_copy) 61 = .ok (.aload_n 3, 1) := by decide +kernel
theorem d_Desk_copy_62 : decode (m_c m_Desk_copy) 62 = .ok (.getfield 144, 3) := by decide +kernel
theorem d_Desk_copy_65 : decode (m_c m_Desk_copy) 65 = .ok (.ireturn, 1) := by decide +kernel
def p_Desk_copy_65   (s0 : Int) (f g : q_F) : Option (Int × q_F × q_F) :=
  some (s0, f, g)
def p_Desk_copy_23    (f g : q_F) : Option (Int × q_F × q_F) :=
  none
def p_Desk_copy  (v1 : Int) (v2 : Int) (f g : q_F) : Option (Int × q_F × q_F) :=
  (p_Desk_needOneOfThree (v2) f g).bind fun x1 =>
  (p_Desk_needLayout  x1.1 x1.2).bind fun x3 =>
  if q_sw v1 < 0 then
    p_Desk_copy_23    x3.1 x3.2
  else
    if q_sw v1 < q_sw (x3.1 3 9) then
      (p_Plan_copiedAt (v1) x3.1 x3.2).bind fun x7 =>
      if 28 ≤ x7.1 ∧ x7.1 < 36 then
        if q_sw v2 = 0 then
          some (x7.2.1 x7.1 11, x7.2.1, x7.2.2)
        else
          if q_sw v2 = q_sw 1 then
            p_Desk_copy_65   (x7.2.1 x7.1 9) x7.2.1 x7.2.2
          else
            p_Desk_copy_65   (x7.2.1 x7.1 10) x7.2.1 x7.2.2
      else none
    else
      p_Desk_copy_23    x3.1 x3.2
theorem e_Desk_copy_65 (t : q_V) (ok : ma_ok (q_G t))  {Q : Option Value → ma_H → Prop} {y : Int × q_F × q_F} (hQ : Q (some (ma_i y.1)) (q_h y.2.1 y.2.2))   (s0 : Int) (f g : q_F) (hp : p_Desk_copy_65   s0 f g = some y) : ma_Ev (q_G t) 1 21 0 0 m_Desk_copy 65 [] [ma_i (s0)] (q_h f g) (ma_zr (q_G t) false Q) := by
  unfold p_Desk_copy_65 at hp
  cases Option.some.inj hp
  exact et_iret (pc := 65) d_Desk_copy_65 rfl hQ
theorem e_Desk_copy_23 (t : q_V) (ok : ma_ok (q_G t))  {Q : Option Value → ma_H → Prop} {y : Int × q_F × q_F} (hQ : Q (some (ma_i y.1)) (q_h y.2.1 y.2.2))    (f g : q_F) (hp : p_Desk_copy_23    f g = some y) : ma_Ev (q_G t) 1 21 0 0 m_Desk_copy 23 [] [] (q_h f g) (ma_zr (q_G t) false Q) := by
  unfold p_Desk_copy_23 at hp
  cases hp
theorem t_Desk_copy (t : q_V) (ok : ma_ok (q_G t))  {Q : Option Value → ma_H → Prop} {y : Int × q_F × q_F} (v1 : Int) (v2 : Int) (f g : q_F) (hp : p_Desk_copy  v1 v2 f g = some y) (hQ : Q (some (ma_i y.1)) (q_h y.2.1 y.2.2)) : ma_Met (q_G t) false 1 21 0 0 m_Desk_copy [q_a t (0), ma_i (v1), ma_i (v2)] (q_h f g) Q := by
  refine ma_met (by decide +kernel) (q_ble rfl) rfl ?_
  change ma_Ev (q_G t) 1 21 0 0 m_Desk_copy 0 [(0, q_a t (0)), (1, ma_i (v1)), (2, ma_i (v2))] [] (q_h f g) (ma_zr (q_G t) false Q)
  unfold p_Desk_copy at hp
  refine ev_iload_n (pc := 0) d_Desk_copy_0 rfl rfl ?_
  replace hp := q_bind hp
  obtain ⟨x1, hm2, hp⟩ := hp
  refine et_callSv (pc := 1) (f1 := x1.1) (g1 := x1.2) ok [ma_i (v2)] [] (cf_Desk_123 t) d_Desk_copy_1 (t_Desk_needOneOfThree t ok (v2) f g hm2 ⟨rfl, rfl⟩) rfl rfl (by decide) (by decide) (q_ble rfl) ?_
  refine et_aload_n (pc := 4) d_Desk_copy_4 rfl rfl ?_
  replace hp := q_bind hp
  obtain ⟨x3, hm4, hp⟩ := hp
  refine et_callVv (pc := 5) (f1 := x3.1) (g1 := x3.2) ok [] [] (cf_Desk_126 t) d_Desk_copy_5 s_0 k_0 rfl (t_Desk_needLayout t ok  x1.1 x1.2 hm4 ⟨rfl, rfl⟩) rfl rfl (by decide) (by decide) (q_ble rfl) ?_
  refine ev_iload_n (pc := 8) d_Desk_copy_8 rfl rfl ?_
  refine et_if_lt (pc := 9) (tgt := 23) d_Desk_copy_9 (by decide) (fun hj5 => ?_) (fun hj5 => ?_)
  · rw [if_pos hj5] at hp
    refine ev_sub (ls2 := []) [] rfl ?_
    exact e_Desk_copy_23 t ok  hQ    x3.1 x3.2 hp
  · rw [if_neg hj5] at hp
    refine ev_iload_n (pc := 12) d_Desk_copy_12 rfl rfl ?_
    refine et_aload_n (pc := 13) d_Desk_copy_13 rfl rfl ?_
    refine et_getr (pc := 14) ok (fl_Desk_19 t) rfl d_Desk_copy_14 s_0 r_0_1 ?_
    refine et_geti (pc := 17) ok (fl_Desk_161 t) rfl d_Desk_copy_17 s_3 ?_
    refine et_icmp_lt (pc := 20) (tgt := 31) d_Desk_copy_20 (by decide) (fun hj6 => ?_) (fun hj6 => ?_)
    · rw [if_pos hj6] at hp
      refine et_aload_n (pc := 31) d_Desk_copy_31 rfl rfl ?_
      refine et_getr (pc := 32) ok (fl_Desk_19 t) rfl d_Desk_copy_32 s_0 r_0_1 ?_
      refine ev_iload_n (pc := 35) d_Desk_copy_35 rfl rfl ?_
      replace hp := q_bind hp
      obtain ⟨x7, hm8, hp⟩ := hp
      refine et_callVr (pc := 36) (f1 := x7.2.1) (g1 := x7.2.2) ok [ma_i (v1)] [] (cf_Desk_164 t) d_Desk_copy_36 s_3 k_7 rfl (t_Plan_copiedAt t ok (v1) x3.1 x3.2 hm8 ⟨rfl, rfl⟩) rfl rfl (by decide) (by decide) (q_ble rfl) ?_
      replace hp := q_if hp
      obtain ⟨hb9, hp⟩ := hp
      refine et_astore_n (pc := 39) d_Desk_copy_39 rfl (by decide) [(3, _), (0, _), (1, _), (2, _)] rfl ?_
      refine ev_iload_n (pc := 40) d_Desk_copy_40 rfl rfl ?_
      refine et_if_ne (pc := 41) (tgt := 49) d_Desk_copy_41 (by decide) (fun hj10 => ?_) (fun hj10 => ?_)
      · rw [if_neg hj10] at hp
        refine ev_iload_n (pc := 49) d_Desk_copy_49 rfl rfl ?_
        refine ev_iconst (pc := 50) d_Desk_copy_50 ?_
        refine et_icmp_ne (pc := 51) (tgt := 61) d_Desk_copy_51 (by decide) (fun hj11 => ?_) (fun hj11 => ?_)
        · rw [if_neg hj11] at hp
          refine et_aload_n (pc := 61) d_Desk_copy_61 rfl rfl ?_
          refine et_geti (pc := 62) ok (fl_Desk_144 t) rfl d_Desk_copy_62 (s_28 _ (by omega) (by omega)) ?_
          refine ev_sub (ls2 := []) [] rfl ?_
          exact e_Desk_copy_65 t ok  hQ   (x7.2.1 x7.1 10) x7.2.1 x7.2.2 hp
        · rw [if_pos hj11] at hp
          refine et_aload_n (pc := 54) d_Desk_copy_54 rfl rfl ?_
          refine et_geti (pc := 55) ok (fl_Desk_141 t) rfl d_Desk_copy_55 (s_28 _ (by omega) (by omega)) ?_
          refine ev_goto (pc := 58) (tgt := 65) d_Desk_copy_58 (by decide) ?_
          refine ev_sub (ls2 := []) [] rfl ?_
          exact e_Desk_copy_65 t ok  hQ   (x7.2.1 x7.1 9) x7.2.1 x7.2.2 hp
      · rw [if_pos hj10] at hp
        refine et_aload_n (pc := 44) d_Desk_copy_44 rfl rfl ?_
        refine et_geti (pc := 45) ok (fl_Desk_145 t) rfl d_Desk_copy_45 (s_28 _ (by omega) (by omega)) ?_
        cases Option.some.inj hp
        exact et_iret (pc := 48) d_Desk_copy_48 rfl hQ
    · rw [if_neg hj6] at hp
      refine ev_sub (ls2 := []) [] rfl ?_
      exact e_Desk_copy_23 t ok  hQ    x3.1 x3.2 hp
theorem d_Desk_bringIn_0 : decode (m_c m_Desk_bringIn) 0 = .ok (.aload_n 0, 1) := by decide +kernel
theorem d_Desk_bringIn_1 : decode (m_c m_Desk_bringIn) 1 = .ok (.getfield 51, 3) := by decide +kernel
theorem d_Desk_bringIn_4 : decode (m_c m_Desk_bringIn) 4 = .ok (.aload_n 1, 1) := by decide +kernel
theorem d_Desk_bringIn_5 : decode (m_c m_Desk_bringIn) 5 = .ok (.getfield 145, 3) := by decide +kernel
theorem d_Desk_bringIn_8 : decode (m_c m_Desk_bringIn) 8 = .ok (.aload_n 1, 1) := by decide +kernel
theorem d_Desk_bringIn_9 : decode (m_c m_Desk_bringIn) 9 = .ok (.getfield 144, 3) := by decide +kernel
theorem d_Desk_bringIn_12 : decode (m_c m_Desk_bringIn) 12 = .ok (.iconst 0, 1) := by decide +kernel
theorem d_Desk_bringIn_13 : decode (m_c m_Desk_bringIn) 13 = .ok (.invokevirtual 168, 3) := by decide +kernel
theorem d_Desk_bringIn_16 : decode (m_c m_Desk_bringIn) 16 = .ok (.aload_n 1, 1) := by decide +kernel
theorem d_Desk_bringIn_17 : decode (m_c m_Desk_bringIn) 17 = .ok (.getfield 195, 3) := by decide +kernel
theorem d_Desk_bringIn_20 : decode (m_c m_Desk_bringIn) 20 = .ok (.istore_n 2, 1) := by decide +kernel
theorem d_Desk_bringIn_21 : decode (m_c m_Desk_bringIn) 21 = .ok (.iload_n 2, 1) := by decide +kernel
theorem d_Desk_bringIn_22 : decode (m_c m_Desk_bringIn) 22 = .ok (.aload_n 1, 1) := by decide +kernel
theorem d_Desk_bringIn_23 : decode (m_c m_Desk_bringIn) 23 = .ok (.getfield 198, 3) := by decide +kernel
theorem d_Desk_bringIn_26 : decode (m_c m_Desk_bringIn) 26 = .ok (.if_icmp .ge 67, 3) := by decide +kernel
theorem d_Desk_bringIn_29 : decode (m_c m_Desk_bringIn) 29 = .ok (.aload_n 0, 1) := by decide +kernel
theorem d_Desk_bringIn_30 : decode (m_c m_Desk_bringIn) 30 = .ok (.getfield 19, 3) := by decide +kernel
theorem d_Desk_bringIn_33 : decode (m_c m_Desk_bringIn) 33 = .ok (.getfield 201, 3) := by decide +kernel
theorem d_Desk_bringIn_36 : decode (m_c m_Desk_bringIn) 36 = .ok (.getfield 205, 3) := by decide +kernel
theorem d_Desk_bringIn_39 : decode (m_c m_Desk_bringIn) 39 = .ok (.iload_n 2, 1) := by decide +kernel
theorem d_Desk_bringIn_40 : decode (m_c m_Desk_bringIn) 40 = .ok (.iaload, 1) := by decide +kernel
theorem d_Desk_bringIn_41 : decode (m_c m_Desk_bringIn) 41 = .ok (.ifCond .ne 46, 3) := by decide +kernel
theorem d_Desk_bringIn_44 : decode (m_c m_Desk_bringIn) 44 = .ok (.aload_n 0, 1) := by decide +kernel
theorem d_Desk_bringIn_45 : decode (m_c m_Desk_bringIn) 45 = .ok (.getfield 19, 3) := by decide +kernel
theorem d_Desk_bringIn_48 : decode (m_c m_Desk_bringIn) 48 = .ok (.getfield 70, 3) := by decide +kernel
theorem d_Desk_bringIn_51 : decode (m_c m_Desk_bringIn) 51 = .ok (.aload_n 0, 1) := by decide +kernel
theorem d_Desk_bringIn_52 : decode (m_c m_Desk_bringIn) 52 = .ok (.getfield 19, 3) := by decide +kernel
theorem d_Desk_bringIn_55 : decode (m_c m_Desk_bringIn) 55 = .ok (.getfield 201, 3) := by decide +kernel
theorem d_Desk_bringIn_58 : decode (m_c m_Desk_bringIn) 58 = .ok (.getfield 211, 3) := by decide +kernel
theorem d_Desk_bringIn_61 : decode (m_c m_Desk_bringIn) 61 = .ok (.iload_n 2, 1) := by decide +kernel
theorem d_Desk_bringIn_62 : decode (m_c m_Desk_bringIn) 62 = .ok (.iaload, 1) := by decide +kernel
theorem d_Desk_bringIn_63 : decode (m_c m_Desk_bringIn) 63 = .ok (.aaload, 1) := by decide +kernel
theorem d_Desk_bringIn_64 : decode (m_c m_Desk_bringIn) 64 = .ok (.astore_n 3, 1) := by decide +kernel
theorem d_Desk_bringIn_65 : decode (m_c m_Desk_bringIn) 65 = .ok (.aload_n 0, 1) := by decide +kernel
theorem d_Desk_bringIn_66 : decode (m_c m_Desk_bringIn) 66 = .ok (.getfield 51, 3) := by decide +kernel
theorem d_Desk_bringIn_69 : decode (m_c m_Desk_bringIn) 69 = .ok (.aload_n 3, 1) := by decide +kernel
theorem d_Desk_bringIn_70 : decode (m_c m_Desk_bringIn) 70 = .ok (.aload_n 1, 1) := by decide +kernel
theorem d_Desk_bringIn_71 : decode (m_c m_Desk_bringIn) 71 = .ok (.getfield 145, 3) := by decide +kernel
theorem d_Desk_bringIn_74 : decode (m_c m_Desk_bringIn) 74 = .ok (.aload_n 3, 1) := by decide +kernel
theorem d_Desk_bringIn_75 : decode (m_c m_Desk_bringIn) 75 = .ok (.getfield 148, 3) := by decide +kernel
theorem d_Desk_bringIn_78 : decode (m_c m_Desk_bringIn) 78 = .ok (.iadd, 1) := by decide +kernel
theorem d_Desk_bringIn_79 : decode (m_c m_Desk_bringIn) 79 = .ok (.aload_n 1, 1) := by decide +kernel
theorem d_Desk_bringIn_80 : decode (m_c m_Desk_bringIn) 80 = .ok (.getfield 141, 3) := by decide +kernel
theorem d_Desk_bringIn_83 : decode (m_c m_Desk_bringIn) 83 = .ok (.isub, 1) := by decide +kernel
theorem d_Desk_bringIn_84 : decode (m_c m_Desk_bringIn) 84 = .ok (.invokevirtual 214, 3) := by decide +kernel
theorem d_Desk_bringIn_87 : decode (m_c m_Desk_bringIn) 87 = .ok (.iinc 2 1, 3) := by decide +kernel
theorem d_Desk_bringIn_90 : decode (m_c m_Desk_bringIn) 90 = .ok (.goto (-69), 3) := by decide +kernel
theorem d_Desk_bringIn_93 : decode (m_c m_Desk_bringIn) 93 = .ok (.return_, 1) := by decide +kernel
def p_Desk_bringIn_87  (c21 : Nat → Int → q_F → q_F → Option (q_F × q_F)) (a1 : Nat) (v2 : Int) (f g : q_F) : Option (q_F × q_F) :=
  if 28 ≤ a1 ∧ a1 < 36 then
    q_let (v2 + 1) fun z1 =>
    c21 (a1) (z1) f g
  else none
def p_Desk_bringIn_21   : Nat → Nat → Int → q_F → q_F → Option (q_F × q_F)
  | 0, _, _, _, _ => none
  | n + 1, a1, v2, f, g =>
    if 28 ≤ a1 ∧ a1 < 36 then
      if q_sw (f a1 5) ≤ q_sw v2 then
        some (f, g)
      else
        if 0 ≤ v2 ∧ v2 < 160 then
          if q_sw (f 9 (Int.toNat v2)) = 0 then
            if 0 ≤ v2 ∧ v2 < 160 then
              if 0 ≤ (f 10 (Int.toNat v2)) ∧ (f 10 (Int.toNat v2)) < 8 then
                (p_Memory_bring (16 + Int.toNat (f 10 (Int.toNat v2))) (((f a1 11) + (f (16 + Int.toNat (f 10 (Int.toNat v2))) 4)) - (f a1 9)) f g).bind fun x6 =>
                p_Desk_bringIn_87  (p_Desk_bringIn_21   n) (a1) (v2) x6.1 x6.2
              else none
            else none
          else
            p_Desk_bringIn_87  (p_Desk_bringIn_21   n) (a1) (v2) f g
        else none
    else none
def p_Desk_bringIn  (a1 : Nat) (f g : q_F) : Option (q_F × q_F) :=
  if 28 ≤ a1 ∧ a1 < 36 then
    (p_Memory_fill (f a1 11) (f a1 10) (0) f g).bind fun x1 =>
    q_let (x1.1 a1 4) fun z3 =>
    p_Desk_bringIn_21   1000 (a1) (z3) x1.1 x1.2
  else none
theorem e_Desk_bringIn_87 (t : q_V) (ok : ma_ok (q_G t))  {Q : Option Value → ma_H → Prop} {y : q_F × q_F} (hQ : Q (none) (q_h y.1 y.2)) (c21 : Nat → Int → q_F → q_F → Option (q_F × q_F)) (hc21 : ∀ (a1 : Nat) (v2 : Int) (f g : q_F), c21 a1 v2 f g = some y → ma_Ev (q_G t) 2 46 0 0 m_Desk_bringIn 21 [(0, q_a t (0)), (1, q_a t (a1)), (2, ma_i (v2))] [] (q_h f g) (ma_zr (q_G t) false Q)) (a1 : Nat) (v2 : Int) (f g : q_F) (hp : p_Desk_bringIn_87  c21 a1 v2 f g = some y) : ma_Ev (q_G t) 2 46 0 0 m_Desk_bringIn 87 [(0, q_a t (0)), (1, q_a t (a1)), (2, ma_i (v2))] [] (q_h f g) (ma_zr (q_G t) false Q) := by
  unfold p_Desk_bringIn_87 at hp
  replace hp := q_if hp
  obtain ⟨hb_a1, hp⟩ := hp
  refine ev_iinc (pc := 87) d_Desk_bringIn_87 (by decide) rfl [(2, _), (0, _), (1, _)] rfl ?_
  replace hp := q_let_of hp
  obtain ⟨z1, hz, hp⟩ := hp
  rw [← hz]
  clear hz
  refine ev_goto (pc := 90) (tgt := 21) d_Desk_bringIn_90 (by decide) ?_
  refine ev_sub (ls2 := [(0, q_a t (0)), (1, q_a t (a1)), (2, ma_i (z1))]) [1, 2, 0] rfl ?_
  exact hc21 (a1) (z1) f g hp
theorem e_Desk_bringIn_21 (t : q_V) (ok : ma_ok (q_G t))  {Q : Option Value → ma_H → Prop} {y : q_F × q_F} (hQ : Q (none) (q_h y.1 y.2))   : ∀ (n : Nat) (a1 : Nat) (v2 : Int) (f g : q_F), p_Desk_bringIn_21   n a1 v2 f g = some y → ma_Ev (q_G t) 2 46 0 0 m_Desk_bringIn 21 [(0, q_a t (0)), (1, q_a t (a1)), (2, ma_i (v2))] [] (q_h f g) (ma_zr (q_G t) false Q) := by
  intro n
  induction n with
  | zero =>
    intro a1 v2 f g hp
    rw [p_Desk_bringIn_21] at hp
    cases hp
  | succ n ih =>
    intro a1 v2 f g hp
    rw [p_Desk_bringIn_21] at hp
    replace hp := q_if hp
    obtain ⟨hb_a1, hp⟩ := hp
    refine ev_iload_n (pc := 21) d_Desk_bringIn_21 rfl rfl ?_
    refine et_aload_n (pc := 22) d_Desk_bringIn_22 rfl rfl ?_
    refine et_geti (pc := 23) ok (fl_Desk_198 t) rfl d_Desk_bringIn_23 (s_28 _ (by omega) (by omega)) ?_
    refine et_icmp_ge (pc := 26) (tgt := 93) d_Desk_bringIn_26 (by decide) (fun hj1 => ?_) (fun hj1 => ?_)
    · rw [if_pos hj1] at hp
      cases Option.some.inj hp
      exact et_ret (pc := 93) d_Desk_bringIn_93 rfl hQ
    · rw [if_neg hj1] at hp
      refine et_aload_n (pc := 29) d_Desk_bringIn_29 rfl rfl ?_
      refine et_getr (pc := 30) ok (fl_Desk_19 t) rfl d_Desk_bringIn_30 s_0 r_0_1 ?_
      refine et_getr (pc := 33) ok (fl_Desk_201 t) rfl d_Desk_bringIn_33 s_3 r_3_4 ?_
      refine et_getr (pc := 36) ok (fl_Desk_205 t) rfl d_Desk_bringIn_36 s_8 r_8_0 ?_
      refine ev_iload_n (pc := 39) d_Desk_bringIn_39 rfl rfl ?_
      replace hp := q_if hp
      obtain ⟨hb2, hp⟩ := hp
      refine et_iald (pc := 40) d_Desk_bringIn_40 s_9 hb2 (by decide) ?_
      refine et_if_ne (pc := 41) (tgt := 87) d_Desk_bringIn_41 (by decide) (fun hj3 => ?_) (fun hj3 => ?_)
      · rw [if_neg hj3] at hp
        refine ev_sub (ls2 := [(0, q_a t (0)), (1, q_a t (a1)), (2, ma_i (v2))]) [0, 1, 2] rfl ?_
        exact e_Desk_bringIn_87 t ok  hQ (p_Desk_bringIn_21   n) ih (a1) (v2) f g hp
      · rw [if_pos hj3] at hp
        refine et_aload_n (pc := 44) d_Desk_bringIn_44 rfl rfl ?_
        refine et_getr (pc := 45) ok (fl_Desk_19 t) rfl d_Desk_bringIn_45 s_0 r_0_1 ?_
        refine et_getr (pc := 48) ok (fl_Desk_70 t) rfl d_Desk_bringIn_48 s_3 r_3_0 ?_
        refine et_aload_n (pc := 51) d_Desk_bringIn_51 rfl rfl ?_
        refine et_getr (pc := 52) ok (fl_Desk_19 t) rfl d_Desk_bringIn_52 s_0 r_0_1 ?_
        refine et_getr (pc := 55) ok (fl_Desk_201 t) rfl d_Desk_bringIn_55 s_3 r_3_4 ?_
        refine et_getr (pc := 58) ok (fl_Desk_211 t) rfl d_Desk_bringIn_58 s_8 r_8_1 ?_
        refine ev_iload_n (pc := 61) d_Desk_bringIn_61 rfl rfl ?_
        replace hp := q_if hp
        obtain ⟨hb4, hp⟩ := hp
        refine et_iald (pc := 62) d_Desk_bringIn_62 s_10 hb4 (by decide) ?_
        replace hp := q_if hp
        obtain ⟨hb5, hp⟩ := hp
        refine et_aald (pc := 63) d_Desk_bringIn_63 s_4 hb5 (by decide) (r_4 _ (by omega)) ?_
        refine et_astore_n (pc := 64) d_Desk_bringIn_64 rfl (by decide) [(3, _), (0, _), (1, _), (2, _)] rfl ?_
        refine et_aload_n (pc := 65) d_Desk_bringIn_65 rfl rfl ?_
        refine et_getr (pc := 66) ok (fl_Desk_51 t) rfl d_Desk_bringIn_66 s_0 r_0_5 ?_
        refine et_aload_n (pc := 69) d_Desk_bringIn_69 rfl rfl ?_
        refine et_aload_n (pc := 70) d_Desk_bringIn_70 rfl rfl ?_
        refine et_geti (pc := 71) ok (fl_Desk_145 t) rfl d_Desk_bringIn_71 (s_28 _ (by omega) (by omega)) ?_
        refine et_aload_n (pc := 74) d_Desk_bringIn_74 rfl rfl ?_
        refine et_geti (pc := 75) ok (fl_Desk_148 t) rfl d_Desk_bringIn_75 (s_16 _ (by omega) (by omega)) ?_
        refine ev_iadd (pc := 78) d_Desk_bringIn_78 ?_
        refine et_aload_n (pc := 79) d_Desk_bringIn_79 rfl rfl ?_
        refine et_geti (pc := 80) ok (fl_Desk_141 t) rfl d_Desk_bringIn_80 (s_28 _ (by omega) (by omega)) ?_
        refine ev_isub (pc := 83) d_Desk_bringIn_83 ?_
        replace hp := q_bind hp
        obtain ⟨x6, hm7, hp⟩ := hp
        refine et_callVv (pc := 84) (f1 := x6.1) (g1 := x6.2) ok [q_a t (16 + Int.toNat (f 10 (Int.toNat v2))), ma_i (((f a1 11) + (f (16 + Int.toNat (f 10 (Int.toNat v2))) 4)) - (f a1 9))] [] (cf_Desk_214 t) d_Desk_bringIn_84 s_58 k_11 rfl (t_Memory_bring t ok (16 + Int.toNat (f 10 (Int.toNat v2))) (((f a1 11) + (f (16 + Int.toNat (f 10 (Int.toNat v2))) 4)) - (f a1 9)) f g hm7 ⟨rfl, rfl⟩) rfl rfl (by decide) (by decide) (q_ble rfl) ?_
        refine ev_sub (ls2 := [(0, q_a t (0)), (1, q_a t (a1)), (2, ma_i (v2))]) [1, 2, 3] rfl ?_
        exact e_Desk_bringIn_87 t ok  hQ (p_Desk_bringIn_21   n) ih (a1) (v2) x6.1 x6.2 hp
theorem t_Desk_bringIn (t : q_V) (ok : ma_ok (q_G t))  {Q : Option Value → ma_H → Prop} {y : q_F × q_F} (a1 : Nat) (f g : q_F) (hp : p_Desk_bringIn  a1 f g = some y) (hQ : Q (none) (q_h y.1 y.2)) : ma_Met (q_G t) false 2 46 0 0 m_Desk_bringIn [q_a t (0), q_a t (a1)] (q_h f g) Q := by
  refine ma_met (by decide +kernel) (q_ble rfl) rfl ?_
  change ma_Ev (q_G t) 2 46 0 0 m_Desk_bringIn 0 [(0, q_a t (0)), (1, q_a t (a1))] [] (q_h f g) (ma_zr (q_G t) false Q)
  unfold p_Desk_bringIn at hp
  replace hp := q_if hp
  obtain ⟨hb_a1, hp⟩ := hp
  refine et_aload_n (pc := 0) d_Desk_bringIn_0 rfl rfl ?_
  refine et_getr (pc := 1) ok (fl_Desk_51 t) rfl d_Desk_bringIn_1 s_0 r_0_5 ?_
  refine et_aload_n (pc := 4) d_Desk_bringIn_4 rfl rfl ?_
  refine et_geti (pc := 5) ok (fl_Desk_145 t) rfl d_Desk_bringIn_5 (s_28 _ (by omega) (by omega)) ?_
  refine et_aload_n (pc := 8) d_Desk_bringIn_8 rfl rfl ?_
  refine et_geti (pc := 9) ok (fl_Desk_144 t) rfl d_Desk_bringIn_9 (s_28 _ (by omega) (by omega)) ?_
  refine ev_iconst (pc := 12) d_Desk_bringIn_12 ?_
  replace hp := q_bind hp
  obtain ⟨x1, hm2, hp⟩ := hp
  refine et_callVv (pc := 13) (f1 := x1.1) (g1 := x1.2) ok [ma_i (f a1 11), ma_i (f a1 10), ma_i (0)] [] (cf_Desk_168 t) d_Desk_bringIn_13 s_58 k_11 rfl (t_Memory_fill t ok (f a1 11) (f a1 10) (0) f g hm2 ⟨rfl, rfl⟩) rfl rfl (by decide) (by decide) (q_ble rfl) ?_
  refine et_aload_n (pc := 16) d_Desk_bringIn_16 rfl rfl ?_
  refine et_geti (pc := 17) ok (fl_Desk_195 t) rfl d_Desk_bringIn_17 (s_28 _ (by omega) (by omega)) ?_
  refine ev_istore_n (pc := 20) d_Desk_bringIn_20 rfl (by decide) [(2, _), (0, _), (1, _)] rfl ?_
  replace hp := q_let_of hp
  obtain ⟨z3, hz, hp⟩ := hp
  rw [← hz]
  clear hz
  refine ev_sub (ls2 := [(0, q_a t (0)), (1, q_a t (a1)), (2, ma_i (z3))]) [1, 2, 0] rfl ?_
  exact e_Desk_bringIn_21 t ok  hQ   1000 (a1) (z3) x1.1 x1.2 hp
theorem d_Desk_load_0 : decode (m_c m_Desk_load) 0 = .ok (.aload_n 0, 1) := by decide +kernel
theorem d_Desk_load_1 : decode (m_c m_Desk_load) 1 = .ok (.invokevirtual 126, 3) := by decide +kernel
theorem d_Desk_load_4 : decode (m_c m_Desk_load) 4 = .ok (.aload_n 0, 1) := by decide +kernel
theorem d_Desk_load_5 : decode (m_c m_Desk_load) 5 = .ok (.getfield 51, 3) := by decide +kernel
theorem d_Desk_load_8 : decode (m_c m_Desk_load) 8 = .ok (.iconst 0, 1) := by decide +kernel
theorem d_Desk_load_9 : decode (m_c m_Desk_load) 9 = .ok (.sipush 512, 3) := by decide +kernel
theorem d_Desk_load_12 : decode (m_c m_Desk_load) 12 = .ok (.sipush 170, 3) := by decide +kernel
theorem d_Desk_load_15 : decode (m_c m_Desk_load) 15 = .ok (.invokevirtual 168, 3) := by decide +kernel
theorem d_Desk_load_18 : decode (m_c m_Desk_load) 18 = .ok (.iconst 0, 1) := by decide +kernel
theorem d_Desk_load_19 : decode (m_c m_Desk_load) 19 = .ok (.istore_n 1, 1) := by decide +kernel
theorem d_Desk_load_20 : decode (m_c m_Desk_load) 20 = .ok (.iload_n 1, 1) := by decide +kernel
theorem d_Desk_load_21 : decode (m_c m_Desk_load) 21 = .ok (.aload_n 0, 1) := by decide +kernel
theorem d_Desk_load_22 : decode (m_c m_Desk_load) 22 = .ok (.getfield 19, 3) := by decide +kernel
theorem d_Desk_load_25 : decode (m_c m_Desk_load) 25 = .ok (.getfield 172, 3) := by decide +kernel
theorem d_Desk_load_28 : decode (m_c m_Desk_load) 28 = .ok (.if_icmp .ge 30, 3) := by decide +kernel
theorem d_Desk_load_31 : decode (m_c m_Desk_load) 31 = .ok (.aload_n 0, 1) := by decide +kernel
theorem d_Desk_load_32 : decode (m_c m_Desk_load) 32 = .ok (.getfield 19, 3) := by decide +kernel
theorem d_Desk_load_35 : decode (m_c m_Desk_load) 35 = .ok (.iload_n 1, 1) := by decide +kernel
theorem d_Desk_load_36 : decode (m_c m_Desk_load) 36 = .ok (.invokevirtual 175, 3) := by decide +kernel
theorem d_Desk_load_39 : decode (m_c m_Desk_load) 39 = .ok (.astore_n 2, 1) := by decide +kernel
theorem d_Desk_load_40 : decode (m_c m_Desk_load) 40 = .ok (.aload_n 2, 1) := by decide +kernel
theorem d_Desk_load_41 : decode (m_c m_Desk_load) 41 = .ok (.getfield 178, 3) := by decide +kernel
theorem d_Desk_load_44 : decode (m_c m_Desk_load) 44 = .ok (.ifCond .eq 8, 3) := by decide +kernel
theorem d_Desk_load_47 : decode (m_c m_Desk_load) 47 = .ok (.aload_n 0, 1) := by decide +kernel
theorem d_Desk_load_48 : decode (m_c m_Desk_load) 48 = .ok (.aload_n 2, 1) := by decide +kernel
theorem d_Desk_load_49 : decode (m_c m_Desk_load) 49 = .ok (.invokevirtual 181, 3) := by decide +kernel
theorem d_Desk_load_52 : decode (m_c m_Desk_load) 52 = .ok (.iinc 1 1, 3) := by decide +kernel
theorem d_Desk_load_55 : decode (m_c m_Desk_load) 55 = .ok (.goto (-35), 3) := by decide +kernel
theorem d_Desk_load_58 : decode (m_c m_Desk_load) 58 = .ok (.return_, 1) := by decide +kernel
def p_Desk_load_52  (c20 : Int → q_F → q_F → Option (q_F × q_F)) (v1 : Int) (f g : q_F) : Option (q_F × q_F) :=
  q_let (v1 + 1) fun z1 =>
  c20 (z1) f g
def p_Desk_load_20   : Nat → Int → q_F → q_F → Option (q_F × q_F)
  | 0, _, _, _ => none
  | n + 1, v1, f, g =>
    if q_sw (f 3 7) ≤ q_sw v1 then
      some (f, g)
    else
      (p_Plan_sectionAt (v1) f g).bind fun x2 =>
      if 28 ≤ x2.1 ∧ x2.1 < 36 then
        if q_sw (x2.2.1 x2.1 7) = 0 then
          p_Desk_load_52  (p_Desk_load_20   n) (v1) x2.2.1 x2.2.2
        else
          (p_Desk_bringIn (x2.1) x2.2.1 x2.2.2).bind fun x6 =>
          p_Desk_load_52  (p_Desk_load_20   n) (v1) x6.1 x6.2
      else none
def p_Desk_load   (f g : q_F) : Option (q_F × q_F) :=
  (p_Desk_needLayout  f g).bind fun x1 =>
  (p_Memory_fill (0) (512) (170) x1.1 x1.2).bind fun x3 =>
  p_Desk_load_20   1000 (0) x3.1 x3.2
theorem e_Desk_load_52 (t : q_V) (ok : ma_ok (q_G t))  {Q : Option Value → ma_H → Prop} {y : q_F × q_F} (hQ : Q (none) (q_h y.1 y.2)) (c20 : Int → q_F → q_F → Option (q_F × q_F)) (hc20 : ∀ (v1 : Int) (f g : q_F), c20 v1 f g = some y → ma_Ev (q_G t) 3 69 0 0 m_Desk_load 20 [(0, q_a t (0)), (1, ma_i (v1))] [] (q_h f g) (ma_zr (q_G t) false Q)) (v1 : Int) (f g : q_F) (hp : p_Desk_load_52  c20 v1 f g = some y) : ma_Ev (q_G t) 3 69 0 0 m_Desk_load 52 [(0, q_a t (0)), (1, ma_i (v1))] [] (q_h f g) (ma_zr (q_G t) false Q) := by
  unfold p_Desk_load_52 at hp
  refine ev_iinc (pc := 52) d_Desk_load_52 (by decide) rfl [(1, _), (0, _)] rfl ?_
  replace hp := q_let_of hp
  obtain ⟨z1, hz, hp⟩ := hp
  rw [← hz]
  clear hz
  refine ev_goto (pc := 55) (tgt := 20) d_Desk_load_55 (by decide) ?_
  refine ev_sub (ls2 := [(0, q_a t (0)), (1, ma_i (z1))]) [1, 0] rfl ?_
  exact hc20 (z1) f g hp
theorem e_Desk_load_20 (t : q_V) (ok : ma_ok (q_G t))  {Q : Option Value → ma_H → Prop} {y : q_F × q_F} (hQ : Q (none) (q_h y.1 y.2))   : ∀ (n : Nat) (v1 : Int) (f g : q_F), p_Desk_load_20   n v1 f g = some y → ma_Ev (q_G t) 3 69 0 0 m_Desk_load 20 [(0, q_a t (0)), (1, ma_i (v1))] [] (q_h f g) (ma_zr (q_G t) false Q) := by
  intro n
  induction n with
  | zero =>
    intro v1 f g hp
    rw [p_Desk_load_20] at hp
    cases hp
  | succ n ih =>
    intro v1 f g hp
    rw [p_Desk_load_20] at hp
    refine ev_iload_n (pc := 20) d_Desk_load_20 rfl rfl ?_
    refine et_aload_n (pc := 21) d_Desk_load_21 rfl rfl ?_
    refine et_getr (pc := 22) ok (fl_Desk_19 t) rfl d_Desk_load_22 s_0 r_0_1 ?_
    refine et_geti (pc := 25) ok (fl_Desk_172 t) rfl d_Desk_load_25 s_3 ?_
    refine et_icmp_ge (pc := 28) (tgt := 58) d_Desk_load_28 (by decide) (fun hj1 => ?_) (fun hj1 => ?_)
    · rw [if_pos hj1] at hp
      cases Option.some.inj hp
      exact et_ret (pc := 58) d_Desk_load_58 rfl hQ
    · rw [if_neg hj1] at hp
      refine et_aload_n (pc := 31) d_Desk_load_31 rfl rfl ?_
      refine et_getr (pc := 32) ok (fl_Desk_19 t) rfl d_Desk_load_32 s_0 r_0_1 ?_
      refine ev_iload_n (pc := 35) d_Desk_load_35 rfl rfl ?_
      replace hp := q_bind hp
      obtain ⟨x2, hm3, hp⟩ := hp
      refine et_callVr (pc := 36) (f1 := x2.2.1) (g1 := x2.2.2) ok [ma_i (v1)] [] (cf_Desk_175 t) d_Desk_load_36 s_3 k_7 rfl (t_Plan_sectionAt t ok (v1) f g hm3 ⟨rfl, rfl⟩) rfl rfl (by decide) (by decide) (q_ble rfl) ?_
      replace hp := q_if hp
      obtain ⟨hb4, hp⟩ := hp
      refine et_astore_n (pc := 39) d_Desk_load_39 rfl (by decide) [(2, _), (0, _), (1, _)] rfl ?_
      refine et_aload_n (pc := 40) d_Desk_load_40 rfl rfl ?_
      refine et_geti (pc := 41) ok (fl_Desk_178 t) rfl d_Desk_load_41 (s_28 _ (by omega) (by omega)) ?_
      refine et_if_eq (pc := 44) (tgt := 52) d_Desk_load_44 (by decide) (fun hj5 => ?_) (fun hj5 => ?_)
      · rw [if_pos hj5] at hp
        refine ev_sub (ls2 := [(0, q_a t (0)), (1, ma_i (v1))]) [1, 2] rfl ?_
        exact e_Desk_load_52 t ok  hQ (p_Desk_load_20   n) ih (v1) x2.2.1 x2.2.2 hp
      · rw [if_neg hj5] at hp
        refine et_aload_n (pc := 47) d_Desk_load_47 rfl rfl ?_
        refine et_aload_n (pc := 48) d_Desk_load_48 rfl rfl ?_
        replace hp := q_bind hp
        obtain ⟨x6, hm7, hp⟩ := hp
        refine et_callVv (pc := 49) (f1 := x6.1) (g1 := x6.2) ok [q_a t (x2.1)] [] (cf_Desk_181 t) d_Desk_load_49 s_0 k_0 rfl (t_Desk_bringIn t ok (x2.1) x2.2.1 x2.2.2 hm7 ⟨rfl, rfl⟩) rfl rfl (by decide) (by decide) (q_ble rfl) ?_
        refine ev_sub (ls2 := [(0, q_a t (0)), (1, ma_i (v1))]) [1, 2] rfl ?_
        exact e_Desk_load_52 t ok  hQ (p_Desk_load_20   n) ih (v1) x6.1 x6.2 hp
theorem t_Desk_load (t : q_V) (ok : ma_ok (q_G t))  {Q : Option Value → ma_H → Prop} {y : q_F × q_F}  (f g : q_F) (hp : p_Desk_load   f g = some y) (hQ : Q (none) (q_h y.1 y.2)) : ma_Met (q_G t) false 3 69 0 0 m_Desk_load [q_a t (0)] (q_h f g) Q := by
  refine ma_met (by decide +kernel) (q_ble rfl) rfl ?_
  change ma_Ev (q_G t) 3 69 0 0 m_Desk_load 0 [(0, q_a t (0))] [] (q_h f g) (ma_zr (q_G t) false Q)
  unfold p_Desk_load at hp
  refine et_aload_n (pc := 0) d_Desk_load_0 rfl rfl ?_
  replace hp := q_bind hp
  obtain ⟨x1, hm2, hp⟩ := hp
  refine et_callVv (pc := 1) (f1 := x1.1) (g1 := x1.2) ok [] [] (cf_Desk_126 t) d_Desk_load_1 s_0 k_0 rfl (t_Desk_needLayout t ok  f g hm2 ⟨rfl, rfl⟩) rfl rfl (by decide) (by decide) (q_ble rfl) ?_
  refine et_aload_n (pc := 4) d_Desk_load_4 rfl rfl ?_
  refine et_getr (pc := 5) ok (fl_Desk_51 t) rfl d_Desk_load_5 s_0 r_0_5 ?_
  refine ev_iconst (pc := 8) d_Desk_load_8 ?_
  refine ev_sipush (pc := 9) d_Desk_load_9 rfl ?_
  refine ev_sipush (pc := 12) d_Desk_load_12 rfl ?_
  replace hp := q_bind hp
  obtain ⟨x3, hm4, hp⟩ := hp
  refine et_callVv (pc := 15) (f1 := x3.1) (g1 := x3.2) ok [ma_i (0), ma_i (512), ma_i (170)] [] (cf_Desk_168 t) d_Desk_load_15 s_58 k_11 rfl (t_Memory_fill t ok (0) (512) (170) x1.1 x1.2 hm4 ⟨rfl, rfl⟩) rfl rfl (by decide) (by decide) (q_ble rfl) ?_
  refine ev_iconst (pc := 18) d_Desk_load_18 ?_
  refine ev_istore_n (pc := 19) d_Desk_load_19 rfl (by decide) [(1, _), (0, _)] rfl ?_
  refine ev_sub (ls2 := [(0, q_a t (0)), (1, ma_i (0))]) [1, 0] rfl ?_
  exact e_Desk_load_20 t ok  hQ   1000 (0) x3.1 x3.2 hp
theorem d_Desk_start_0 : decode (m_c m_Desk_start) 0 = .ok (.aload_n 0, 1) := by decide +kernel
theorem d_Desk_start_1 : decode (m_c m_Desk_start) 1 = .ok (.invokevirtual 126, 3) := by decide +kernel
theorem d_Desk_start_4 : decode (m_c m_Desk_start) 4 = .ok (.iconst 0, 1) := by decide +kernel
theorem d_Desk_start_5 : decode (m_c m_Desk_start) 5 = .ok (.istore_n 1, 1) := by decide +kernel
theorem d_Desk_start_6 : decode (m_c m_Desk_start) 6 = .ok (.iload_n 1, 1) := by decide +kernel
theorem d_Desk_start_7 : decode (m_c m_Desk_start) 7 = .ok (.aload_n 0, 1) := by decide +kernel
theorem d_Desk_start_8 : decode (m_c m_Desk_start) 8 = .ok (.getfield 19, 3) := by decide +kernel
theorem d_Desk_start_11 : decode (m_c m_Desk_start) 11 = .ok (.getfield 161, 3) := by decide +kernel
theorem d_Desk_start_14 : decode (m_c m_Desk_start) 14 = .ok (.if_icmp .ge 37, 3) := by decide +kernel
theorem d_Desk_start_17 : decode (m_c m_Desk_start) 17 = .ok (.aload_n 0, 1) := by decide +kernel
theorem d_Desk_start_18 : decode (m_c m_Desk_start) 18 = .ok (.getfield 19, 3) := by decide +kernel
theorem d_Desk_start_21 : decode (m_c m_Desk_start) 21 = .ok (.iload_n 1, 1) := by decide +kernel
theorem d_Desk_start_22 : decode (m_c m_Desk_start) 22 = .ok (.invokevirtual 164, 3) := by decide +kernel
theorem d_Desk_start_25 : decode (m_c m_Desk_start) 25 = .ok (.astore_n 2, 1) := by decide +kernel
theorem d_Desk_start_26 : decode (m_c m_Desk_start) 26 = .ok (.aload_n 0, 1) := by decide +kernel
theorem d_Desk_start_27 : decode (m_c m_Desk_start) 27 = .ok (.getfield 51, 3) := by decide +kernel
theorem d_Desk_start_30 : decode (m_c m_Desk_start) 30 = .ok (.aload_n 2, 1) := by decide +kernel
theorem d_Desk_start_31 : decode (m_c m_Desk_start) 31 = .ok (.getfield 145, 3) := by decide +kernel
theorem d_Desk_start_34 : decode (m_c m_Desk_start) 34 = .ok (.aload_n 2, 1) := by decide +kernel
theorem d_Desk_start_35 : decode (m_c m_Desk_start) 35 = .ok (.getfield 141, 3) := by decide +kernel
theorem d_Desk_start_38 : decode (m_c m_Desk_start) 38 = .ok (.aload_n 2, 1) := by decide +kernel
theorem d_Desk_start_39 : decode (m_c m_Desk_start) 39 = .ok (.getfield 144, 3) := by decide +kernel
theorem d_Desk_start_42 : decode (m_c m_Desk_start) 42 = .ok (.invokevirtual 185, 3) := by decide +kernel
theorem d_Desk_start_45 : decode (m_c m_Desk_start) 45 = .ok (.iinc 1 1, 3) := by decide +kernel
theorem d_Desk_start_48 : decode (m_c m_Desk_start) 48 = .ok (.goto (-42), 3) := by decide +kernel
theorem d_Desk_start_51 : decode (m_c m_Desk_start) 51 = .ok (.iconst 0, 1) := by decide +kernel
theorem d_Desk_start_52 : decode (m_c m_Desk_start) 52 = .ok (.istore_n 1, 1) := by decide +kernel
theorem d_Desk_start_53 : decode (m_c m_Desk_start) 53 = .ok (.iload_n 1, 1) := by decide +kernel
theorem d_Desk_start_54 : decode (m_c m_Desk_start) 54 = .ok (.aload_n 0, 1) := by decide +kernel
theorem d_Desk_start_55 : decode (m_c m_Desk_start) 55 = .ok (.getfield 19, 3) := by decide +kernel
theorem d_Desk_start_58 : decode (m_c m_Desk_start) 58 = .ok (.getfield 172, 3) := by decide +kernel
theorem d_Desk_start_61 : decode (m_c m_Desk_start) 61 = .ok (.if_icmp .ge 41, 3) := by decide +kernel
theorem d_Desk_start_64 : decode (m_c m_Desk_start) 64 = .ok (.aload_n 0, 1) := by decide +kernel
theorem d_Desk_start_65 : decode (m_c m_Desk_start) 65 = .ok (.getfield 19, 3) := by decide +kernel
theorem d_Desk_start_68 : decode (m_c m_Desk_start) 68 = .ok (.iload_n 1, 1) := by decide +kernel
theorem d_Desk_start_69 : decode (m_c m_Desk_start) 69 = .ok (.invokevirtual 175, 3) := by decide +kernel
theorem d_Desk_start_72 : decode (m_c m_Desk_start) 72 = .ok (.astore_n 2, 1) := by decide +kernel
theorem d_Desk_start_73 : decode (m_c m_Desk_start) 73 = .ok (.aload_n 2, 1) := by decide +kernel
theorem d_Desk_start_74 : decode (m_c m_Desk_start) 74 = .ok (.getfield 178, 3) := by decide +kernel
theorem d_Desk_start_77 : decode (m_c m_Desk_start) 77 = .ok (.ifCond .ne 19, 3) := by decide +kernel
theorem d_Desk_start_80 : decode (m_c m_Desk_start) 80 = .ok (.aload_n 0, 1) := by decide +kernel
theorem d_Desk_start_81 : decode (m_c m_Desk_start) 81 = .ok (.getfield 51, 3) := by decide +kernel
theorem d_Desk_start_84 : decode (m_c m_Desk_start) 84 = .ok (.aload_n 2, 1) := by decide +kernel
theorem d_Desk_start_85 : decode (m_c m_Desk_start) 85 = .ok (.getfield 141, 3) := by decide +kernel
theorem d_Desk_start_88 : decode (m_c m_Desk_start) 88 = .ok (.aload_n 2, 1) := by decide +kernel
theorem d_Desk_start_89 : decode (m_c m_Desk_start) 89 = .ok (.getfield 144, 3) := by decide +kernel
theorem d_Desk_start_92 : decode (m_c m_Desk_start) 92 = .ok (.iconst 0, 1) := by decide +kernel
theorem d_Desk_start_93 : decode (m_c m_Desk_start) 93 = .ok (.invokevirtual 168, 3) := by decide +kernel
theorem d_Desk_start_96 : decode (m_c m_Desk_start) 96 = .ok (.iinc 1 1, 3) := by decide +kernel
theorem d_Desk_start_99 : decode (m_c m_Desk_start) 99 = .ok (.goto (-46), 3) := by decide +kernel
theorem d_Desk_start_102 : decode (m_c m_Desk_start) 102 = .ok (.return_, 1) := by decide +kernel
def p_Desk_start_96  (c53 : Int → q_F → q_F → Option (q_F × q_F)) (v1 : Int) (f g : q_F) : Option (q_F × q_F) :=
  q_let (v1 + 1) fun z1 =>
  c53 (z1) f g
def p_Desk_start_53   : Nat → Int → q_F → q_F → Option (q_F × q_F)
  | 0, _, _, _ => none
  | n + 1, v1, f, g =>
    if q_sw (f 3 7) ≤ q_sw v1 then
      some (f, g)
    else
      (p_Plan_sectionAt (v1) f g).bind fun x2 =>
      if 28 ≤ x2.1 ∧ x2.1 < 36 then
        if q_sw (x2.2.1 x2.1 7) = 0 then
          (p_Memory_fill (x2.2.1 x2.1 9) (x2.2.1 x2.1 10) (0) x2.2.1 x2.2.2).bind fun x6 =>
          p_Desk_start_96  (p_Desk_start_53   n) (v1) x6.1 x6.2
        else
          p_Desk_start_96  (p_Desk_start_53   n) (v1) x2.2.1 x2.2.2
      else none
def p_Desk_start_6   : Nat → Int → q_F → q_F → Option (q_F × q_F)
  | 0, _, _, _ => none
  | n + 1, v1, f, g =>
    if q_sw (f 3 9) ≤ q_sw v1 then
      p_Desk_start_53   1000 (0) f g
    else
      (p_Plan_copiedAt (v1) f g).bind fun x2 =>
      if 28 ≤ x2.1 ∧ x2.1 < 36 then
        (p_Memory_move (x2.2.1 x2.1 11) (x2.2.1 x2.1 9) (x2.2.1 x2.1 10) x2.2.1 x2.2.2).bind fun x5 =>
        q_let (v1 + 1) fun z7 =>
        (p_Desk_start_6   n) (z7) x5.1 x5.2
      else none
def p_Desk_start   (f g : q_F) : Option (q_F × q_F) :=
  (p_Desk_needLayout  f g).bind fun x1 =>
  p_Desk_start_6   1000 (0) x1.1 x1.2
theorem e_Desk_start_96 (t : q_V) (ok : ma_ok (q_G t))  {Q : Option Value → ma_H → Prop} {y : q_F × q_F} (hQ : Q (none) (q_h y.1 y.2)) (c53 : Int → q_F → q_F → Option (q_F × q_F)) (hc53 : ∀ (v1 : Int) (f g : q_F), c53 v1 f g = some y → ma_Ev (q_G t) 2 46 0 0 m_Desk_start 53 [(0, q_a t (0)), (1, ma_i (v1))] [] (q_h f g) (ma_zr (q_G t) false Q)) (v1 : Int) (f g : q_F) (hp : p_Desk_start_96  c53 v1 f g = some y) : ma_Ev (q_G t) 2 46 0 0 m_Desk_start 96 [(0, q_a t (0)), (1, ma_i (v1))] [] (q_h f g) (ma_zr (q_G t) false Q) := by
  unfold p_Desk_start_96 at hp
  refine ev_iinc (pc := 96) d_Desk_start_96 (by decide) rfl [(1, _), (0, _)] rfl ?_
  replace hp := q_let_of hp
  obtain ⟨z1, hz, hp⟩ := hp
  rw [← hz]
  clear hz
  refine ev_goto (pc := 99) (tgt := 53) d_Desk_start_99 (by decide) ?_
  refine ev_sub (ls2 := [(0, q_a t (0)), (1, ma_i (z1))]) [1, 0] rfl ?_
  exact hc53 (z1) f g hp
theorem e_Desk_start_53 (t : q_V) (ok : ma_ok (q_G t))  {Q : Option Value → ma_H → Prop} {y : q_F × q_F} (hQ : Q (none) (q_h y.1 y.2))   : ∀ (n : Nat) (v1 : Int) (f g : q_F), p_Desk_start_53   n v1 f g = some y → ma_Ev (q_G t) 2 46 0 0 m_Desk_start 53 [(0, q_a t (0)), (1, ma_i (v1))] [] (q_h f g) (ma_zr (q_G t) false Q) := by
  intro n
  induction n with
  | zero =>
    intro v1 f g hp
    rw [p_Desk_start_53] at hp
    cases hp
  | succ n ih =>
    intro v1 f g hp
    rw [p_Desk_start_53] at hp
    refine ev_iload_n (pc := 53) d_Desk_start_53 rfl rfl ?_
    refine et_aload_n (pc := 54) d_Desk_start_54 rfl rfl ?_
    refine et_getr (pc := 55) ok (fl_Desk_19 t) rfl d_Desk_start_55 s_0 r_0_1 ?_
    refine et_geti (pc := 58) ok (fl_Desk_172 t) rfl d_Desk_start_58 s_3 ?_
    refine et_icmp_ge (pc := 61) (tgt := 102) d_Desk_start_61 (by decide) (fun hj1 => ?_) (fun hj1 => ?_)
    · rw [if_pos hj1] at hp
      cases Option.some.inj hp
      exact et_ret (pc := 102) d_Desk_start_102 rfl hQ
    · rw [if_neg hj1] at hp
      refine et_aload_n (pc := 64) d_Desk_start_64 rfl rfl ?_
      refine et_getr (pc := 65) ok (fl_Desk_19 t) rfl d_Desk_start_65 s_0 r_0_1 ?_
      refine ev_iload_n (pc := 68) d_Desk_start_68 rfl rfl ?_
      replace hp := q_bind hp
      obtain ⟨x2, hm3, hp⟩ := hp
      refine et_callVr (pc := 69) (f1 := x2.2.1) (g1 := x2.2.2) ok [ma_i (v1)] [] (cf_Desk_175 t) d_Desk_start_69 s_3 k_7 rfl (t_Plan_sectionAt t ok (v1) f g hm3 ⟨rfl, rfl⟩) rfl rfl (by decide) (by decide) (q_ble rfl) ?_
      replace hp := q_if hp
      obtain ⟨hb4, hp⟩ := hp
      refine et_astore_n (pc := 72) d_Desk_start_72 rfl (by decide) [(2, _), (0, _), (1, _)] rfl ?_
      refine et_aload_n (pc := 73) d_Desk_start_73 rfl rfl ?_
      refine et_geti (pc := 74) ok (fl_Desk_178 t) rfl d_Desk_start_74 (s_28 _ (by omega) (by omega)) ?_
      refine et_if_ne (pc := 77) (tgt := 96) d_Desk_start_77 (by decide) (fun hj5 => ?_) (fun hj5 => ?_)
      · rw [if_neg hj5] at hp
        refine ev_sub (ls2 := [(0, q_a t (0)), (1, ma_i (v1))]) [1, 2] rfl ?_
        exact e_Desk_start_96 t ok  hQ (p_Desk_start_53   n) ih (v1) x2.2.1 x2.2.2 hp
      · rw [if_pos hj5] at hp
        refine et_aload_n (pc := 80) d_Desk_start_80 rfl rfl ?_
        refine et_getr (pc := 81) ok (fl_Desk_51 t) rfl d_Desk_start_81 s_0 r_0_5 ?_
        refine et_aload_n (pc := 84) d_Desk_start_84 rfl rfl ?_
        refine et_geti (pc := 85) ok (fl_Desk_141 t) rfl d_Desk_start_85 (s_28 _ (by omega) (by omega)) ?_
        refine et_aload_n (pc := 88) d_Desk_start_88 rfl rfl ?_
        refine et_geti (pc := 89) ok (fl_Desk_144 t) rfl d_Desk_start_89 (s_28 _ (by omega) (by omega)) ?_
        refine ev_iconst (pc := 92) d_Desk_start_92 ?_
        replace hp := q_bind hp
        obtain ⟨x6, hm7, hp⟩ := hp
        refine et_callVv (pc := 93) (f1 := x6.1) (g1 := x6.2) ok [ma_i (x2.2.1 x2.1 9), ma_i (x2.2.1 x2.1 10), ma_i (0)] [] (cf_Desk_168 t) d_Desk_start_93 s_58 k_11 rfl (t_Memory_fill t ok (x2.2.1 x2.1 9) (x2.2.1 x2.1 10) (0) x2.2.1 x2.2.2 hm7 ⟨rfl, rfl⟩) rfl rfl (by decide) (by decide) (q_ble rfl) ?_
        refine ev_sub (ls2 := [(0, q_a t (0)), (1, ma_i (v1))]) [1, 2] rfl ?_
        exact e_Desk_start_96 t ok  hQ (p_Desk_start_53   n) ih (v1) x6.1 x6.2 hp
theorem e_Desk_start_6 (t : q_V) (ok : ma_ok (q_G t))  {Q : Option Value → ma_H → Prop} {y : q_F × q_F} (hQ : Q (none) (q_h y.1 y.2))   : ∀ (n : Nat) (v1 : Int) (f g : q_F), p_Desk_start_6   n v1 f g = some y → ma_Ev (q_G t) 2 46 0 0 m_Desk_start 6 [(0, q_a t (0)), (1, ma_i (v1))] [] (q_h f g) (ma_zr (q_G t) false Q) := by
  intro n
  induction n with
  | zero =>
    intro v1 f g hp
    rw [p_Desk_start_6] at hp
    cases hp
  | succ n ih =>
    intro v1 f g hp
    rw [p_Desk_start_6] at hp
    refine ev_iload_n (pc := 6) d_Desk_start_6 rfl rfl ?_
    refine et_aload_n (pc := 7) d_Desk_start_7 rfl rfl ?_
    refine et_getr (pc := 8) ok (fl_Desk_19 t) rfl d_Desk_start_8 s_0 r_0_1 ?_
    refine et_geti (pc := 11) ok (fl_Desk_161 t) rfl d_Desk_start_11 s_3 ?_
    refine et_icmp_ge (pc := 14) (tgt := 51) d_Desk_start_14 (by decide) (fun hj1 => ?_) (fun hj1 => ?_)
    · rw [if_pos hj1] at hp
      refine ev_iconst (pc := 51) d_Desk_start_51 ?_
      refine ev_istore_n (pc := 52) d_Desk_start_52 rfl (by decide) [(1, _), (0, _)] rfl ?_
      refine ev_sub (ls2 := [(0, q_a t (0)), (1, ma_i (0))]) [1, 0] rfl ?_
      exact e_Desk_start_53 t ok  hQ   1000 (0) f g hp
    · rw [if_neg hj1] at hp
      refine et_aload_n (pc := 17) d_Desk_start_17 rfl rfl ?_
      refine et_getr (pc := 18) ok (fl_Desk_19 t) rfl d_Desk_start_18 s_0 r_0_1 ?_
      refine ev_iload_n (pc := 21) d_Desk_start_21 rfl rfl ?_
      replace hp := q_bind hp
      obtain ⟨x2, hm3, hp⟩ := hp
      refine et_callVr (pc := 22) (f1 := x2.2.1) (g1 := x2.2.2) ok [ma_i (v1)] [] (cf_Desk_164 t) d_Desk_start_22 s_3 k_7 rfl (t_Plan_copiedAt t ok (v1) f g hm3 ⟨rfl, rfl⟩) rfl rfl (by decide) (by decide) (q_ble rfl) ?_
      replace hp := q_if hp
      obtain ⟨hb4, hp⟩ := hp
      refine et_astore_n (pc := 25) d_Desk_start_25 rfl (by decide) [(2, _), (0, _), (1, _)] rfl ?_
      refine et_aload_n (pc := 26) d_Desk_start_26 rfl rfl ?_
      refine et_getr (pc := 27) ok (fl_Desk_51 t) rfl d_Desk_start_27 s_0 r_0_5 ?_
      refine et_aload_n (pc := 30) d_Desk_start_30 rfl rfl ?_
      refine et_geti (pc := 31) ok (fl_Desk_145 t) rfl d_Desk_start_31 (s_28 _ (by omega) (by omega)) ?_
      refine et_aload_n (pc := 34) d_Desk_start_34 rfl rfl ?_
      refine et_geti (pc := 35) ok (fl_Desk_141 t) rfl d_Desk_start_35 (s_28 _ (by omega) (by omega)) ?_
      refine et_aload_n (pc := 38) d_Desk_start_38 rfl rfl ?_
      refine et_geti (pc := 39) ok (fl_Desk_144 t) rfl d_Desk_start_39 (s_28 _ (by omega) (by omega)) ?_
      replace hp := q_bind hp
      obtain ⟨x5, hm6, hp⟩ := hp
      refine et_callVv (pc := 42) (f1 := x5.1) (g1 := x5.2) ok [ma_i (x2.2.1 x2.1 11), ma_i (x2.2.1 x2.1 9), ma_i (x2.2.1 x2.1 10)] [] (cf_Desk_185 t) d_Desk_start_42 s_58 k_11 rfl (t_Memory_move t ok (x2.2.1 x2.1 11) (x2.2.1 x2.1 9) (x2.2.1 x2.1 10) x2.2.1 x2.2.2 hm6 ⟨rfl, rfl⟩) rfl rfl (by decide) (by decide) (q_ble rfl) ?_
      refine ev_iinc (pc := 45) d_Desk_start_45 (by decide) rfl [(1, _), (2, _), (0, _)] rfl ?_
      replace hp := q_let_of hp
      obtain ⟨z7, hz, hp⟩ := hp
      rw [← hz]
      clear hz
      refine ev_goto (pc := 48) (tgt := 6) d_Desk_start_48 (by decide) ?_
      refine ev_sub (ls2 := [(0, q_a t (0)), (1, ma_i (z7))]) [2, 0] rfl ?_
      exact ih (z7) x5.1 x5.2 hp
theorem t_Desk_start (t : q_V) (ok : ma_ok (q_G t))  {Q : Option Value → ma_H → Prop} {y : q_F × q_F}  (f g : q_F) (hp : p_Desk_start   f g = some y) (hQ : Q (none) (q_h y.1 y.2)) : ma_Met (q_G t) false 2 46 0 0 m_Desk_start [q_a t (0)] (q_h f g) Q := by
  refine ma_met (by decide +kernel) (q_ble rfl) rfl ?_
  change ma_Ev (q_G t) 2 46 0 0 m_Desk_start 0 [(0, q_a t (0))] [] (q_h f g) (ma_zr (q_G t) false Q)
  unfold p_Desk_start at hp
  refine et_aload_n (pc := 0) d_Desk_start_0 rfl rfl ?_
  replace hp := q_bind hp
  obtain ⟨x1, hm2, hp⟩ := hp
  refine et_callVv (pc := 1) (f1 := x1.1) (g1 := x1.2) ok [] [] (cf_Desk_126 t) d_Desk_start_1 s_0 k_0 rfl (t_Desk_needLayout t ok  f g hm2 ⟨rfl, rfl⟩) rfl rfl (by decide) (by decide) (q_ble rfl) ?_
  refine ev_iconst (pc := 4) d_Desk_start_4 ?_
  refine ev_istore_n (pc := 5) d_Desk_start_5 rfl (by decide) [(1, _), (0, _)] rfl ?_
  refine ev_sub (ls2 := [(0, q_a t (0)), (1, ma_i (0))]) [1, 0] rfl ?_
  exact e_Desk_start_6 t ok  hQ   1000 (0) x1.1 x1.2 hp
theorem d_Desk_memory_0 : decode (m_c m_Desk_memory) 0 = .ok (.iload_n 1, 1) := by decide +kernel
theorem d_Desk_memory_1 : decode (m_c m_Desk_memory) 1 = .ok (.ifCond .lt 10, 3) := by decide +kernel
theorem d_Desk_memory_4 : decode (m_c m_Desk_memory) 4 = .ok (.iload_n 1, 1) := by decide +kernel
theorem d_Desk_memory_5 : decode (m_c m_Desk_memory) 5 = .ok (.sipush 512, 3) := by decide +kernel
theorem d_Desk_memory_8 : decode (m_c m_Desk_memory) 8 = .ok (.if_icmp .lt 11, 3) := by decide +kernel
theorem d_Desk_memory_11 : decode (m_c m_Desk_memory) 11 = .ok (.new 188, 3) := by decide +kernel
theorem d_Desk_memory_14 : decode (m_c m_Desk_memory) 14 = .ok (.dup, 1) := by decide +kernel
theorem d_Desk_memory_15 : decode (m_c m_Desk_memory) 15 = .ok (.invokespecial 190, 3) := by decide +kernel
theorem d_Desk_memory_18 : decode (m_c m_Desk_memory) 18 = .ok (.athrow, 1) := by decide +kernel
theorem d_Desk_memory_19 : decode (m_c m_Desk_memory) 19 = .ok (.aload_n 0, 1) := by decide +kernel
theorem d_Desk_memory_20 : decode (m_c m_Desk_memory) 20 = .ok (.getfield 51, 3) := by decide +kernel
theorem d_Desk_memory_23 : decode (m_c m_Desk_memory) 23 = .ok (.iload_n 1, 1) := by decide +kernel
theorem d_Desk_memory_24 : decode (m_c m_Desk_memory) 24 = .ok (.invokevirtual 191, 3) := by decide +kernel
theorem d_Desk_memory_27 : decode (m_c m_Desk_memory) 27 = .ok (.ireturn, 1) := by decide +kernel
def p_Desk_memory_11    (f g : q_F) : Option (Int × q_F × q_F) :=
  none
def p_Desk_memory  (v1 : Int) (f g : q_F) : Option (Int × q_F × q_F) :=
  if q_sw v1 < 0 then
    p_Desk_memory_11    f g
  else
    if q_sw v1 < q_sw 512 then
      (p_Memory_fetch (v1) f g).bind fun x3 =>
      some (x3.1, x3.2.1, x3.2.2)
    else
      p_Desk_memory_11    f g
theorem e_Desk_memory_11 (t : q_V) (ok : ma_ok (q_G t))  {Q : Option Value → ma_H → Prop} {y : Int × q_F × q_F} (hQ : Q (some (ma_i y.1)) (q_h y.2.1 y.2.2))    (f g : q_F) (hp : p_Desk_memory_11    f g = some y) : ma_Ev (q_G t) 1 21 0 0 m_Desk_memory 11 [] [] (q_h f g) (ma_zr (q_G t) false Q) := by
  unfold p_Desk_memory_11 at hp
  cases hp
theorem t_Desk_memory (t : q_V) (ok : ma_ok (q_G t))  {Q : Option Value → ma_H → Prop} {y : Int × q_F × q_F} (v1 : Int) (f g : q_F) (hp : p_Desk_memory  v1 f g = some y) (hQ : Q (some (ma_i y.1)) (q_h y.2.1 y.2.2)) : ma_Met (q_G t) false 1 21 0 0 m_Desk_memory [q_a t (0), ma_i (v1)] (q_h f g) Q := by
  refine ma_met (by decide +kernel) (q_ble rfl) rfl ?_
  change ma_Ev (q_G t) 1 21 0 0 m_Desk_memory 0 [(0, q_a t (0)), (1, ma_i (v1))] [] (q_h f g) (ma_zr (q_G t) false Q)
  unfold p_Desk_memory at hp
  refine ev_iload_n (pc := 0) d_Desk_memory_0 rfl rfl ?_
  refine et_if_lt (pc := 1) (tgt := 11) d_Desk_memory_1 (by decide) (fun hj1 => ?_) (fun hj1 => ?_)
  · rw [if_pos hj1] at hp
    refine ev_sub (ls2 := []) [] rfl ?_
    exact e_Desk_memory_11 t ok  hQ    f g hp
  · rw [if_neg hj1] at hp
    refine ev_iload_n (pc := 4) d_Desk_memory_4 rfl rfl ?_
    refine ev_sipush (pc := 5) d_Desk_memory_5 rfl ?_
    refine et_icmp_lt (pc := 8) (tgt := 19) d_Desk_memory_8 (by decide) (fun hj2 => ?_) (fun hj2 => ?_)
    · rw [if_pos hj2] at hp
      refine et_aload_n (pc := 19) d_Desk_memory_19 rfl rfl ?_
      refine et_getr (pc := 20) ok (fl_Desk_51 t) rfl d_Desk_memory_20 s_0 r_0_5 ?_
      refine ev_iload_n (pc := 23) d_Desk_memory_23 rfl rfl ?_
      replace hp := q_bind hp
      obtain ⟨x3, hm4, hp⟩ := hp
      refine et_callVi (pc := 24) (f1 := x3.2.1) (g1 := x3.2.2) ok [ma_i (v1)] [] (cf_Desk_191 t) d_Desk_memory_24 s_58 k_11 rfl (t_Memory_fetch t ok (v1) f g hm4 ⟨rfl, rfl⟩) rfl rfl (by decide) (by decide) (q_ble rfl) ?_
      cases Option.some.inj hp
      exact et_iret (pc := 27) d_Desk_memory_27 rfl hQ
    · rw [if_neg hj2] at hp
      refine ev_sub (ls2 := []) [] rfl ?_
      exact e_Desk_memory_11 t ok  hQ    f g hp
