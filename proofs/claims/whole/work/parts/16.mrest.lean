/-! ===== printed by walk.py: the rest of the reference ===== -/
theorem d_Mod_input_0 : decode (m_c m_Mod_input) 0 = .ok (.aload_n 0, 1) := by decide +kernel
theorem d_Mod_input_1 : decode (m_c m_Mod_input) 1 = .ok (.iload_n 1, 1) := by decide +kernel
theorem d_Mod_input_2 : decode (m_c m_Mod_input) 2 = .ok (.iconst 0, 1) := by decide +kernel
theorem d_Mod_input_3 : decode (m_c m_Mod_input) 3 = .ok (.bipush 7, 2) := by decide +kernel
theorem d_Mod_input_5 : decode (m_c m_Mod_input) 5 = .ok (.invokestatic 127, 3) := by decide +kernel
theorem d_Mod_input_8 : decode (m_c m_Mod_input) 8 = .ok (.ifCond .eq 38, 3) := by decide +kernel
theorem d_Mod_input_11 : decode (m_c m_Mod_input) 11 = .ok (.iload_n 2, 1) := by decide +kernel
theorem d_Mod_input_12 : decode (m_c m_Mod_input) 12 = .ok (.iconst 0, 1) := by decide +kernel
theorem d_Mod_input_13 : decode (m_c m_Mod_input) 13 = .ok (.bipush 40, 2) := by decide +kernel
theorem d_Mod_input_15 : decode (m_c m_Mod_input) 15 = .ok (.invokestatic 127, 3) := by decide +kernel
theorem d_Mod_input_18 : decode (m_c m_Mod_input) 18 = .ok (.ifCond .eq 28, 3) := by decide +kernel
theorem d_Mod_input_21 : decode (m_c m_Mod_input) 21 = .ok (.iload_n 3, 1) := by decide +kernel
theorem d_Mod_input_22 : decode (m_c m_Mod_input) 22 = .ok (.bipush 16, 2) := by decide +kernel
theorem d_Mod_input_24 : decode (m_c m_Mod_input) 24 = .ok (.invokestatic 131, 3) := by decide +kernel
theorem d_Mod_input_27 : decode (m_c m_Mod_input) 27 = .ok (.ifCond .eq 19, 3) := by decide +kernel
theorem d_Mod_input_30 : decode (m_c m_Mod_input) 30 = .ok (.iload 4, 2) := by decide +kernel
theorem d_Mod_input_32 : decode (m_c m_Mod_input) 32 = .ok (.iconst 0, 1) := by decide +kernel
theorem d_Mod_input_33 : decode (m_c m_Mod_input) 33 = .ok (.sipush 255, 3) := by decide +kernel
theorem d_Mod_input_36 : decode (m_c m_Mod_input) 36 = .ok (.invokestatic 127, 3) := by decide +kernel
theorem d_Mod_input_39 : decode (m_c m_Mod_input) 39 = .ok (.ifCond .eq 7, 3) := by decide +kernel
theorem d_Mod_input_42 : decode (m_c m_Mod_input) 42 = .ok (.iconst 0, 1) := by decide +kernel
theorem d_Mod_input_43 : decode (m_c m_Mod_input) 43 = .ok (.goto 4, 3) := by decide +kernel
theorem d_Mod_input_46 : decode (m_c m_Mod_input) 46 = .ok (.iconst 1, 1) := by decide +kernel
theorem d_Mod_input_47 : decode (m_c m_Mod_input) 47 = .ok (.putfield 124, 3) := by decide +kernel
theorem d_Mod_input_50 : decode (m_c m_Mod_input) 50 = .ok (.aload_n 0, 1) := by decide +kernel
theorem d_Mod_input_51 : decode (m_c m_Mod_input) 51 = .ok (.getfield 124, 3) := by decide +kernel
theorem d_Mod_input_54 : decode (m_c m_Mod_input) 54 = .ok (.ifCond .le 4, 3) := by decide +kernel
theorem d_Mod_input_57 : decode (m_c m_Mod_input) 57 = .ok (.return_, 1) := by decide +kernel
theorem d_Mod_input_58 : decode (m_c m_Mod_input) 58 = .ok (.aload_n 0, 1) := by decide +kernel
theorem d_Mod_input_59 : decode (m_c m_Mod_input) 59 = .ok (.getfield 7, 3) := by decide +kernel
theorem d_Mod_input_62 : decode (m_c m_Mod_input) 62 = .ok (.iload_n 1, 1) := by decide +kernel
theorem d_Mod_input_63 : decode (m_c m_Mod_input) 63 = .ok (.iload_n 2, 1) := by decide +kernel
theorem d_Mod_input_64 : decode (m_c m_Mod_input) 64 = .ok (.iastore, 1) := by decide +kernel
theorem d_Mod_input_65 : decode (m_c m_Mod_input) 65 = .ok (.aload_n 0, 1) := by decide +kernel
theorem d_Mod_input_66 : decode (m_c m_Mod_input) 66 = .ok (.getfield 13, 3) := by decide +kernel
theorem d_Mod_input_69 : decode (m_c m_Mod_input) 69 = .ok (.iload_n 1, 1) := by decide +kernel
theorem d_Mod_input_70 : decode (m_c m_Mod_input) 70 = .ok (.iload_n 3, 1) := by decide +kernel
theorem d_Mod_input_71 : decode (m_c m_Mod_input) 71 = .ok (.iastore, 1) := by decide +kernel
theorem d_Mod_input_72 : decode (m_c m_Mod_input) 72 = .ok (.aload_n 0, 1) := by decide +kernel
theorem d_Mod_input_73 : decode (m_c m_Mod_input) 73 = .ok (.getfield 16, 3) := by decide +kernel
theorem d_Mod_input_76 : decode (m_c m_Mod_input) 76 = .ok (.iload_n 1, 1) := by decide +kernel
theorem d_Mod_input_77 : decode (m_c m_Mod_input) 77 = .ok (.iload 4, 2) := by decide +kernel
theorem d_Mod_input_79 : decode (m_c m_Mod_input) 79 = .ok (.iastore, 1) := by decide +kernel
theorem d_Mod_input_80 : decode (m_c m_Mod_input) 80 = .ok (.aload_n 0, 1) := by decide +kernel
theorem d_Mod_input_81 : decode (m_c m_Mod_input) 81 = .ok (.iconst 0, 1) := by decide +kernel
theorem d_Mod_input_82 : decode (m_c m_Mod_input) 82 = .ok (.putfield 135, 3) := by decide +kernel
theorem d_Mod_input_85 : decode (m_c m_Mod_input) 85 = .ok (.return_, 1) := by decide +kernel
def p_Mod_input_47   (v1 : Int) (v2 : Int) (v3 : Int) (v4 : Int) (s0 : Int) (f g : q_F) : Option (q_F × q_F) :=
  q_let (ma_up f 60 0 s0) fun f1 =>
  if q_sw (f1 60 0) ≤ 0 then
    if 0 ≤ v1 ∧ v1 < 8 then
      q_let (ma_up f1 61 (Int.toNat v1) v2) fun f4 =>
      if 0 ≤ v1 ∧ v1 < 8 then
        q_let (ma_up f4 62 (Int.toNat v1) v3) fun f6 =>
        if 0 ≤ v1 ∧ v1 < 8 then
          q_let (ma_up f6 63 (Int.toNat v1) v4) fun f8 =>
          q_let (ma_up f8 60 45 0) fun f9 =>
          some (f9, g)
        else none
      else none
    else none
  else
    some (f1, g)
def p_Mod_input_46   (v1 : Int) (v2 : Int) (v3 : Int) (v4 : Int) (f g : q_F) : Option (q_F × q_F) :=
  p_Mod_input_47   (v1) (v2) (v3) (v4) (1) f g
def p_Mod_input  (v1 : Int) (v2 : Int) (v3 : Int) (v4 : Int) (f g : q_F) : Option (q_F × q_F) :=
  (p_Mod_within (v1) (0) (7) f g).bind fun x1 =>
  if q_sw x1.1 = 0 then
    p_Mod_input_46   (v1) (v2) (v3) (v4) x1.2.1 x1.2.2
  else
    (p_Mod_within (v2) (0) (40) x1.2.1 x1.2.2).bind fun x4 =>
    if q_sw x4.1 = 0 then
      p_Mod_input_46   (v1) (v2) (v3) (v4) x4.2.1 x4.2.2
    else
      (p_Mod_power (v3) (16) x4.2.1 x4.2.2).bind fun x7 =>
      if q_sw x7.1 = 0 then
        p_Mod_input_46   (v1) (v2) (v3) (v4) x7.2.1 x7.2.2
      else
        (p_Mod_within (v4) (0) (255) x7.2.1 x7.2.2).bind fun x10 =>
        if q_sw x10.1 = 0 then
          p_Mod_input_46   (v1) (v2) (v3) (v4) x10.2.1 x10.2.2
        else
          p_Mod_input_47   (v1) (v2) (v3) (v4) (0) x10.2.1 x10.2.2
theorem e_Mod_input_47 (t : q_V) (ok : ma_ok (q_G t))  {Q : Option Value → ma_H → Prop} {y : q_F × q_F} (hQ : Q (none) (q_h y.1 y.2))   (v1 : Int) (v2 : Int) (v3 : Int) (v4 : Int) (s0 : Int) (f g : q_F) (hp : p_Mod_input_47   v1 v2 v3 v4 s0 f g = some y) : ma_Ev (q_G t) 1 23 0 0 m_Mod_input 47 [(0, q_a t (60)), (1, ma_i (v1)), (2, ma_i (v2)), (3, ma_i (v3)), (4, ma_i (v4))] [ma_i (s0), q_a t (60)] (q_h f g) (ma_zr (q_G t) false Q) := by
  unfold p_Mod_input_47 at hp
  refine et_puti (pc := 47) ok (fl_Mod_124 t) d_Mod_input_47 s_60 ?_
  replace hp := q_let_of hp
  obtain ⟨f1, hz, hp⟩ := hp
  rw [← hz]
  clear hz
  refine et_aload_n (pc := 50) d_Mod_input_50 rfl rfl ?_
  refine et_geti (pc := 51) ok (fl_Mod_124 t) rfl d_Mod_input_51 s_60 ?_
  refine et_if_le (pc := 54) (tgt := 58) d_Mod_input_54 (by decide) (fun hj2 => ?_) (fun hj2 => ?_)
  · rw [if_pos hj2] at hp
    refine et_aload_n (pc := 58) d_Mod_input_58 rfl rfl ?_
    refine et_getr (pc := 59) ok (fl_Mod_7 t) rfl d_Mod_input_59 s_60 r_60_1 ?_
    refine ev_iload_n (pc := 62) d_Mod_input_62 rfl rfl ?_
    refine ev_iload_n (pc := 63) d_Mod_input_63 rfl rfl ?_
    replace hp := q_if hp
    obtain ⟨hb3, hp⟩ := hp
    refine et_iast (pc := 64) d_Mod_input_64 s_61 hb3 (by decide) ?_
    replace hp := q_let_of hp
    obtain ⟨f4, hz, hp⟩ := hp
    rw [← hz]
    clear hz
    refine et_aload_n (pc := 65) d_Mod_input_65 rfl rfl ?_
    refine et_getr (pc := 66) ok (fl_Mod_13 t) rfl d_Mod_input_66 s_60 r_60_2 ?_
    refine ev_iload_n (pc := 69) d_Mod_input_69 rfl rfl ?_
    refine ev_iload_n (pc := 70) d_Mod_input_70 rfl rfl ?_
    replace hp := q_if hp
    obtain ⟨hb5, hp⟩ := hp
    refine et_iast (pc := 71) d_Mod_input_71 s_62 hb5 (by decide) ?_
    replace hp := q_let_of hp
    obtain ⟨f6, hz, hp⟩ := hp
    rw [← hz]
    clear hz
    refine et_aload_n (pc := 72) d_Mod_input_72 rfl rfl ?_
    refine et_getr (pc := 73) ok (fl_Mod_16 t) rfl d_Mod_input_73 s_60 r_60_3 ?_
    refine ev_iload_n (pc := 76) d_Mod_input_76 rfl rfl ?_
    refine ev_iload (pc := 77) d_Mod_input_77 rfl ?_
    replace hp := q_if hp
    obtain ⟨hb7, hp⟩ := hp
    refine et_iast (pc := 79) d_Mod_input_79 s_63 hb7 (by decide) ?_
    replace hp := q_let_of hp
    obtain ⟨f8, hz, hp⟩ := hp
    rw [← hz]
    clear hz
    refine et_aload_n (pc := 80) d_Mod_input_80 rfl rfl ?_
    refine ev_iconst (pc := 81) d_Mod_input_81 ?_
    refine et_putz (pc := 82) ok (fl_Mod_135 t) (by decide) d_Mod_input_82 s_60 ?_
    replace hp := q_let_of hp
    obtain ⟨f9, hz, hp⟩ := hp
    rw [← hz]
    clear hz
    cases Option.some.inj hp
    exact et_ret (pc := 85) d_Mod_input_85 rfl hQ
  · rw [if_neg hj2] at hp
    cases Option.some.inj hp
    exact et_ret (pc := 57) d_Mod_input_57 rfl hQ
theorem e_Mod_input_46 (t : q_V) (ok : ma_ok (q_G t))  {Q : Option Value → ma_H → Prop} {y : q_F × q_F} (hQ : Q (none) (q_h y.1 y.2))   (v1 : Int) (v2 : Int) (v3 : Int) (v4 : Int) (f g : q_F) (hp : p_Mod_input_46   v1 v2 v3 v4 f g = some y) : ma_Ev (q_G t) 1 23 0 0 m_Mod_input 46 [(0, q_a t (60)), (1, ma_i (v1)), (2, ma_i (v2)), (3, ma_i (v3)), (4, ma_i (v4))] [q_a t (60)] (q_h f g) (ma_zr (q_G t) false Q) := by
  unfold p_Mod_input_46 at hp
  refine ev_iconst (pc := 46) d_Mod_input_46 ?_
  refine ev_sub (ls2 := [(0, q_a t (60)), (1, ma_i (v1)), (2, ma_i (v2)), (3, ma_i (v3)), (4, ma_i (v4))]) [0, 1, 2, 3, 4] rfl ?_
  exact e_Mod_input_47 t ok  hQ   (v1) (v2) (v3) (v4) (1) f g hp
theorem t_Mod_input (t : q_V) (ok : ma_ok (q_G t))  {Q : Option Value → ma_H → Prop} {y : q_F × q_F} (v1 : Int) (v2 : Int) (v3 : Int) (v4 : Int) (f g : q_F) (hp : p_Mod_input  v1 v2 v3 v4 f g = some y) (hQ : Q (none) (q_h y.1 y.2)) : ma_Met (q_G t) false 1 23 0 0 m_Mod_input [q_a t (60), ma_i (v1), ma_i (v2), ma_i (v3), ma_i (v4)] (q_h f g) Q := by
  refine ma_met (by decide +kernel) (q_ble rfl) rfl ?_
  change ma_Ev (q_G t) 1 23 0 0 m_Mod_input 0 [(0, q_a t (60)), (1, ma_i (v1)), (2, ma_i (v2)), (3, ma_i (v3)), (4, ma_i (v4))] [] (q_h f g) (ma_zr (q_G t) false Q)
  unfold p_Mod_input at hp
  refine et_aload_n (pc := 0) d_Mod_input_0 rfl rfl ?_
  refine ev_iload_n (pc := 1) d_Mod_input_1 rfl rfl ?_
  refine ev_iconst (pc := 2) d_Mod_input_2 ?_
  refine ev_bipush (pc := 3) d_Mod_input_3 rfl ?_
  replace hp := q_bind hp
  obtain ⟨x1, hm2, hp⟩ := hp
  refine et_callSi (pc := 5) (f1 := x1.2.1) (g1 := x1.2.2) ok [ma_i (v1), ma_i (0), ma_i (7)] [q_a t (60)] (cf_Mod_127 t) d_Mod_input_5 (t_Mod_within t ok (v1) (0) (7) f g hm2 ⟨rfl, rfl⟩) rfl rfl (by decide) (by decide) (q_ble rfl) ?_
  refine et_if_eq (pc := 8) (tgt := 46) d_Mod_input_8 (by decide) (fun hj3 => ?_) (fun hj3 => ?_)
  · rw [if_pos hj3] at hp
    refine ev_sub (ls2 := [(0, q_a t (60)), (1, ma_i (v1)), (2, ma_i (v2)), (3, ma_i (v3)), (4, ma_i (v4))]) [0, 1, 2, 3, 4] rfl ?_
    exact e_Mod_input_46 t ok  hQ   (v1) (v2) (v3) (v4) x1.2.1 x1.2.2 hp
  · rw [if_neg hj3] at hp
    refine ev_iload_n (pc := 11) d_Mod_input_11 rfl rfl ?_
    refine ev_iconst (pc := 12) d_Mod_input_12 ?_
    refine ev_bipush (pc := 13) d_Mod_input_13 rfl ?_
    replace hp := q_bind hp
    obtain ⟨x4, hm5, hp⟩ := hp
    refine et_callSi (pc := 15) (f1 := x4.2.1) (g1 := x4.2.2) ok [ma_i (v2), ma_i (0), ma_i (40)] [q_a t (60)] (cf_Mod_127 t) d_Mod_input_15 (t_Mod_within t ok (v2) (0) (40) x1.2.1 x1.2.2 hm5 ⟨rfl, rfl⟩) rfl rfl (by decide) (by decide) (q_ble rfl) ?_
    refine et_if_eq (pc := 18) (tgt := 46) d_Mod_input_18 (by decide) (fun hj6 => ?_) (fun hj6 => ?_)
    · rw [if_pos hj6] at hp
      refine ev_sub (ls2 := [(0, q_a t (60)), (1, ma_i (v1)), (2, ma_i (v2)), (3, ma_i (v3)), (4, ma_i (v4))]) [0, 1, 2, 3, 4] rfl ?_
      exact e_Mod_input_46 t ok  hQ   (v1) (v2) (v3) (v4) x4.2.1 x4.2.2 hp
    · rw [if_neg hj6] at hp
      refine ev_iload_n (pc := 21) d_Mod_input_21 rfl rfl ?_
      refine ev_bipush (pc := 22) d_Mod_input_22 rfl ?_
      replace hp := q_bind hp
      obtain ⟨x7, hm8, hp⟩ := hp
      refine et_callSi (pc := 24) (f1 := x7.2.1) (g1 := x7.2.2) ok [ma_i (v3), ma_i (16)] [q_a t (60)] (cf_Mod_131 t) d_Mod_input_24 (t_Mod_power t ok (v3) (16) x4.2.1 x4.2.2 hm8 ⟨rfl, rfl⟩) rfl rfl (by decide) (by decide) (q_ble rfl) ?_
      refine et_if_eq (pc := 27) (tgt := 46) d_Mod_input_27 (by decide) (fun hj9 => ?_) (fun hj9 => ?_)
      · rw [if_pos hj9] at hp
        refine ev_sub (ls2 := [(0, q_a t (60)), (1, ma_i (v1)), (2, ma_i (v2)), (3, ma_i (v3)), (4, ma_i (v4))]) [0, 1, 2, 3, 4] rfl ?_
        exact e_Mod_input_46 t ok  hQ   (v1) (v2) (v3) (v4) x7.2.1 x7.2.2 hp
      · rw [if_neg hj9] at hp
        refine ev_iload (pc := 30) d_Mod_input_30 rfl ?_
        refine ev_iconst (pc := 32) d_Mod_input_32 ?_
        refine ev_sipush (pc := 33) d_Mod_input_33 rfl ?_
        replace hp := q_bind hp
        obtain ⟨x10, hm11, hp⟩ := hp
        refine et_callSi (pc := 36) (f1 := x10.2.1) (g1 := x10.2.2) ok [ma_i (v4), ma_i (0), ma_i (255)] [q_a t (60)] (cf_Mod_127 t) d_Mod_input_36 (t_Mod_within t ok (v4) (0) (255) x7.2.1 x7.2.2 hm11 ⟨rfl, rfl⟩) rfl rfl (by decide) (by decide) (q_ble rfl) ?_
        refine et_if_eq (pc := 39) (tgt := 46) d_Mod_input_39 (by decide) (fun hj12 => ?_) (fun hj12 => ?_)
        · rw [if_pos hj12] at hp
          refine ev_sub (ls2 := [(0, q_a t (60)), (1, ma_i (v1)), (2, ma_i (v2)), (3, ma_i (v3)), (4, ma_i (v4))]) [0, 1, 2, 3, 4] rfl ?_
          exact e_Mod_input_46 t ok  hQ   (v1) (v2) (v3) (v4) x10.2.1 x10.2.2 hp
        · rw [if_neg hj12] at hp
          refine ev_iconst (pc := 42) d_Mod_input_42 ?_
          refine ev_goto (pc := 43) (tgt := 47) d_Mod_input_43 (by decide) ?_
          refine ev_sub (ls2 := [(0, q_a t (60)), (1, ma_i (v1)), (2, ma_i (v2)), (3, ma_i (v3)), (4, ma_i (v4))]) [0, 1, 2, 3, 4] rfl ?_
          exact e_Mod_input_47 t ok  hQ   (v1) (v2) (v3) (v4) (0) x10.2.1 x10.2.2 hp
theorem d_Mod_type_0 : decode (m_c m_Mod_type) 0 = .ok (.iload_n 3, 1) := by decide +kernel
theorem d_Mod_type_1 : decode (m_c m_Mod_type) 1 = .ok (.iconst 1, 1) := by decide +kernel
theorem d_Mod_type_2 : decode (m_c m_Mod_type) 2 = .ok (.bipush 8, 2) := by decide +kernel
theorem d_Mod_type_4 : decode (m_c m_Mod_type) 4 = .ok (.invokestatic 127, 3) := by decide +kernel
theorem d_Mod_type_7 : decode (m_c m_Mod_type) 7 = .ok (.istore 4, 2) := by decide +kernel
theorem d_Mod_type_9 : decode (m_c m_Mod_type) 9 = .ok (.iconst 0, 1) := by decide +kernel
theorem d_Mod_type_10 : decode (m_c m_Mod_type) 10 = .ok (.istore 5, 2) := by decide +kernel
theorem d_Mod_type_12 : decode (m_c m_Mod_type) 12 = .ok (.iload 5, 2) := by decide +kernel
theorem d_Mod_type_14 : decode (m_c m_Mod_type) 14 = .ok (.iload_n 3, 1) := by decide +kernel
theorem d_Mod_type_15 : decode (m_c m_Mod_type) 15 = .ok (.if_icmp .ge 35, 3) := by decide +kernel
theorem d_Mod_type_18 : decode (m_c m_Mod_type) 18 = .ok (.iload 4, 2) := by decide +kernel
theorem d_Mod_type_20 : decode (m_c m_Mod_type) 20 = .ok (.ifCond .eq 30, 3) := by decide +kernel
theorem d_Mod_type_23 : decode (m_c m_Mod_type) 23 = .ok (.lload_n 1, 1) := by decide +kernel
theorem d_Mod_type_24 : decode (m_c m_Mod_type) 24 = .ok (.bipush 8, 2) := by decide +kernel
theorem d_Mod_type_26 : decode (m_c m_Mod_type) 26 = .ok (.iload 5, 2) := by decide +kernel
theorem d_Mod_type_28 : decode (m_c m_Mod_type) 28 = .ok (.imul, 1) := by decide +kernel
theorem d_Mod_type_29 : decode (m_c m_Mod_type) 29 = .ok (.lshr, 1) := by decide +kernel
theorem d_Mod_type_30 : decode (m_c m_Mod_type) 30 = .ok (.ldc2_w 139, 3) := by decide +kernel
theorem d_Mod_type_33 : decode (m_c m_Mod_type) 33 = .ok (.land, 1) := by decide +kernel
theorem d_Mod_type_34 : decode (m_c m_Mod_type) 34 = .ok (.l2i, 1) := by decide +kernel
theorem d_Mod_type_35 : decode (m_c m_Mod_type) 35 = .ok (.bipush 33, 2) := by decide +kernel
theorem d_Mod_type_37 : decode (m_c m_Mod_type) 37 = .ok (.bipush 126, 2) := by decide +kernel
theorem d_Mod_type_39 : decode (m_c m_Mod_type) 39 = .ok (.invokestatic 127, 3) := by decide +kernel
theorem d_Mod_type_42 : decode (m_c m_Mod_type) 42 = .ok (.istore 4, 2) := by decide +kernel
theorem d_Mod_type_44 : decode (m_c m_Mod_type) 44 = .ok (.iinc 5 1, 3) := by decide +kernel
theorem d_Mod_type_47 : decode (m_c m_Mod_type) 47 = .ok (.goto (-35), 3) := by decide +kernel
theorem d_Mod_type_50 : decode (m_c m_Mod_type) 50 = .ok (.aload_n 0, 1) := by decide +kernel
theorem d_Mod_type_51 : decode (m_c m_Mod_type) 51 = .ok (.iload 4, 2) := by decide +kernel
theorem d_Mod_type_53 : decode (m_c m_Mod_type) 53 = .ok (.ifCond .ne 7, 3) := by decide +kernel
theorem d_Mod_type_56 : decode (m_c m_Mod_type) 56 = .ok (.iconst 1, 1) := by decide +kernel
theorem d_Mod_type_57 : decode (m_c m_Mod_type) 57 = .ok (.goto 20, 3) := by decide +kernel
theorem d_Mod_type_60 : decode (m_c m_Mod_type) 60 = .ok (.aload_n 0, 1) := by decide +kernel
theorem d_Mod_type_61 : decode (m_c m_Mod_type) 61 = .ok (.getfield 141, 3) := by decide +kernel
theorem d_Mod_type_64 : decode (m_c m_Mod_type) 64 = .ok (.iload_n 3, 1) := by decide +kernel
theorem d_Mod_type_65 : decode (m_c m_Mod_type) 65 = .ok (.iadd, 1) := by decide +kernel
theorem d_Mod_type_66 : decode (m_c m_Mod_type) 66 = .ok (.sipush 160, 3) := by decide +kernel
theorem d_Mod_type_69 : decode (m_c m_Mod_type) 69 = .ok (.if_icmp .le 7, 3) := by decide +kernel
theorem d_Mod_type_72 : decode (m_c m_Mod_type) 72 = .ok (.iconst 2, 1) := by decide +kernel
theorem d_Mod_type_73 : decode (m_c m_Mod_type) 73 = .ok (.goto 4, 3) := by decide +kernel
theorem d_Mod_type_76 : decode (m_c m_Mod_type) 76 = .ok (.iconst 0, 1) := by decide +kernel
theorem d_Mod_type_77 : decode (m_c m_Mod_type) 77 = .ok (.putfield 124, 3) := by decide +kernel
theorem d_Mod_type_80 : decode (m_c m_Mod_type) 80 = .ok (.aload_n 0, 1) := by decide +kernel
theorem d_Mod_type_81 : decode (m_c m_Mod_type) 81 = .ok (.getfield 124, 3) := by decide +kernel
theorem d_Mod_type_84 : decode (m_c m_Mod_type) 84 = .ok (.ifCond .le 5, 3) := by decide +kernel
theorem d_Mod_type_87 : decode (m_c m_Mod_type) 87 = .ok (.iconst 0, 1) := by decide +kernel
theorem d_Mod_type_88 : decode (m_c m_Mod_type) 88 = .ok (.ireturn, 1) := by decide +kernel
theorem d_Mod_type_89 : decode (m_c m_Mod_type) 89 = .ok (.iload_n 3, 1) := by decide +kernel
theorem d_Mod_type_90 : decode (m_c m_Mod_type) 90 = .ok (.iconst 1, 1) := by decide +kernel
theorem d_Mod_type_91 : decode (m_c m_Mod_type) 91 = .ok (.isub, 1) := by decide +kernel
theorem d_Mod_type_92 : decode (m_c m_Mod_type) 92 = .ok (.istore 5, 2) := by decide +kernel
theorem d_Mod_type_94 : decode (m_c m_Mod_type) 94 = .ok (.iload 5, 2) := by decide +kernel
theorem d_Mod_type_96 : decode (m_c m_Mod_type) 96 = .ok (.ifCond .lt 40, 3) := by decide +kernel
theorem d_Mod_type_99 : decode (m_c m_Mod_type) 99 = .ok (.aload_n 0, 1) := by decide +kernel
theorem d_Mod_type_100 : decode (m_c m_Mod_type) 100 = .ok (.getfield 26, 3) := by decide +kernel
theorem d_Mod_type_103 : decode (m_c m_Mod_type) 103 = .ok (.aload_n 0, 1) := by decide +kernel
theorem d_Mod_type_104 : decode (m_c m_Mod_type) 104 = .ok (.getfield 141, 3) := by decide +kernel
theorem d_Mod_type_107 : decode (m_c m_Mod_type) 107 = .ok (.lload_n 1, 1) := by decide +kernel
theorem d_Mod_type_108 : decode (m_c m_Mod_type) 108 = .ok (.bipush 8, 2) := by decide +kernel
theorem d_Mod_type_110 : decode (m_c m_Mod_type) 110 = .ok (.iload 5, 2) := by decide +kernel
theorem d_Mod_type_112 : decode (m_c m_Mod_type) 112 = .ok (.imul, 1) := by decide +kernel
theorem d_Mod_type_113 : decode (m_c m_Mod_type) 113 = .ok (.lshr, 1) := by decide +kernel
theorem d_Mod_type_114 : decode (m_c m_Mod_type) 114 = .ok (.ldc2_w 139, 3) := by decide +kernel
theorem d_Mod_type_117 : decode (m_c m_Mod_type) 117 = .ok (.land, 1) := by decide +kernel
theorem d_Mod_type_118 : decode (m_c m_Mod_type) 118 = .ok (.l2i, 1) := by decide +kernel
theorem d_Mod_type_119 : decode (m_c m_Mod_type) 119 = .ok (.iastore, 1) := by decide +kernel
theorem d_Mod_type_120 : decode (m_c m_Mod_type) 120 = .ok (.aload_n 0, 1) := by decide +kernel
theorem d_Mod_type_121 : decode (m_c m_Mod_type) 121 = .ok (.dup, 1) := by decide +kernel
theorem d_Mod_type_122 : decode (m_c m_Mod_type) 122 = .ok (.getfield 141, 3) := by decide +kernel
theorem d_Mod_type_125 : decode (m_c m_Mod_type) 125 = .ok (.iconst 1, 1) := by decide +kernel
theorem d_Mod_type_126 : decode (m_c m_Mod_type) 126 = .ok (.iadd, 1) := by decide +kernel
theorem d_Mod_type_127 : decode (m_c m_Mod_type) 127 = .ok (.putfield 141, 3) := by decide +kernel
theorem d_Mod_type_130 : decode (m_c m_Mod_type) 130 = .ok (.iinc 5 (-1), 3) := by decide +kernel
theorem d_Mod_type_133 : decode (m_c m_Mod_type) 133 = .ok (.goto (-39), 3) := by decide +kernel
theorem d_Mod_type_136 : decode (m_c m_Mod_type) 136 = .ok (.aload_n 0, 1) := by decide +kernel
theorem d_Mod_type_137 : decode (m_c m_Mod_type) 137 = .ok (.iconst 0, 1) := by decide +kernel
theorem d_Mod_type_138 : decode (m_c m_Mod_type) 138 = .ok (.putfield 135, 3) := by decide +kernel
theorem d_Mod_type_141 : decode (m_c m_Mod_type) 141 = .ok (.aload_n 0, 1) := by decide +kernel
theorem d_Mod_type_142 : decode (m_c m_Mod_type) 142 = .ok (.getfield 141, 3) := by decide +kernel
theorem d_Mod_type_145 : decode (m_c m_Mod_type) 145 = .ok (.ireturn, 1) := by decide +kernel
def p_Mod_type_94   : Nat → Int → Int → q_F → q_F → Option (Int × q_F × q_F)
  | 0, _, _, _, _ => none
  | n + 1, v1, v5, f, g =>
    if q_sw v5 < 0 then
      q_let (ma_up f 60 45 0) fun f2 =>
      some (f2 60 6, f2, g)
    else
      if 0 ≤ (f 60 6) ∧ (f 60 6) < 160 then
        q_let (ma_up f 66 (Int.toNat (f 60 6)) (q_land (q_lshr v1 (8 * v5)) 255)) fun f4 =>
        q_let (ma_up f4 60 6 ((f4 60 6) + 1)) fun f5 =>
        q_let (v5 + (-1)) fun z6 =>
        (p_Mod_type_94   n) (v1) (z6) f5 g
      else none
def p_Mod_type_77   (v1 : Int) (v3 : Int) (s0 : Int) (f g : q_F) : Option (Int × q_F × q_F) :=
  q_let (ma_up f 60 0 s0) fun f1 =>
  if q_sw (f1 60 0) ≤ 0 then
    q_let (v3 - 1) fun z3 =>
    p_Mod_type_94   1000 (v1) (z3) f1 g
  else
    some (0, f1, g)
def p_Mod_type_50   (v1 : Int) (v3 : Int) (v4 : Int) (f g : q_F) : Option (Int × q_F × q_F) :=
  if q_sw v4 = 0 then
    p_Mod_type_77   (v1) (v3) (1) f g
  else
    if q_sw ((f 60 6) + v3) ≤ q_sw 160 then
      p_Mod_type_77   (v1) (v3) (0) f g
    else
      p_Mod_type_77   (v1) (v3) (2) f g
def p_Mod_type_12   : Nat → Int → Int → Int → Int → q_F → q_F → Option (Int × q_F × q_F)
  | 0, _, _, _, _, _, _ => none
  | n + 1, v1, v3, v4, v5, f, g =>
    if q_sw v3 ≤ q_sw v5 then
      p_Mod_type_50   (v1) (v3) (v4) f g
    else
      if q_sw v4 = 0 then
        p_Mod_type_50   (v1) (v3) (v4) f g
      else
        (p_Mod_within (q_land (q_lshr v1 (8 * v5)) 255) (33) (126) f g).bind fun x3 =>
        q_let (v5 + 1) fun z5 =>
        (p_Mod_type_12   n) (v1) (v3) (x3.1) (z5) x3.2.1 x3.2.2
def p_Mod_type  (v1 : Int) (v3 : Int) (f g : q_F) : Option (Int × q_F × q_F) :=
  (p_Mod_within (v3) (1) (8) f g).bind fun x1 =>
  p_Mod_type_12   1000 (v1) (v3) (x1.1) (0) x1.2.1 x1.2.2
theorem e_Mod_type_94 (t : q_V) (ok : ma_ok (q_G t))  {Q : Option Value → ma_H → Prop} {y : Int × q_F × q_F} (hQ : Q (some (ma_i y.1)) (q_h y.2.1 y.2.2))   : ∀ (n : Nat) (v1 : Int) (v5 : Int) (f g : q_F), p_Mod_type_94   n v1 v5 f g = some y → ma_Ev (q_G t) 1 22 0 0 m_Mod_type 94 [(0, q_a t (60)), (1, ma_j (v1)), (5, ma_i (v5))] [] (q_h f g) (ma_zr (q_G t) false Q) := by
  intro n
  induction n with
  | zero =>
    intro v1 v5 f g hp
    rw [p_Mod_type_94] at hp
    cases hp
  | succ n ih =>
    intro v1 v5 f g hp
    rw [p_Mod_type_94] at hp
    refine ev_iload (pc := 94) d_Mod_type_94 rfl ?_
    refine et_if_lt (pc := 96) (tgt := 136) d_Mod_type_96 (by decide) (fun hj1 => ?_) (fun hj1 => ?_)
    · rw [if_pos hj1] at hp
      refine et_aload_n (pc := 136) d_Mod_type_136 rfl rfl ?_
      refine ev_iconst (pc := 137) d_Mod_type_137 ?_
      refine et_putz (pc := 138) ok (fl_Mod_135 t) (by decide) d_Mod_type_138 s_60 ?_
      replace hp := q_let_of hp
      obtain ⟨f2, hz, hp⟩ := hp
      rw [← hz]
      clear hz
      refine et_aload_n (pc := 141) d_Mod_type_141 rfl rfl ?_
      refine et_geti (pc := 142) ok (fl_Mod_141 t) rfl d_Mod_type_142 s_60 ?_
      cases Option.some.inj hp
      exact et_iret (pc := 145) d_Mod_type_145 rfl hQ
    · rw [if_neg hj1] at hp
      refine et_aload_n (pc := 99) d_Mod_type_99 rfl rfl ?_
      refine et_getr (pc := 100) ok (fl_Mod_26 t) rfl d_Mod_type_100 s_60 r_60_7 ?_
      refine et_aload_n (pc := 103) d_Mod_type_103 rfl rfl ?_
      refine et_geti (pc := 104) ok (fl_Mod_141 t) rfl d_Mod_type_104 s_60 ?_
      refine ev_lload_n (pc := 107) d_Mod_type_107 rfl rfl ?_
      refine ev_bipush (pc := 108) d_Mod_type_108 rfl ?_
      refine ev_iload (pc := 110) d_Mod_type_110 rfl ?_
      refine ev_imul (pc := 112) d_Mod_type_112 ?_
      refine et_lshr (pc := 113) d_Mod_type_113 ?_
      refine ev_ldc2 (pc := 114) d_Mod_type_114 kc_Mod_139 ?_
      refine et_land (pc := 117) d_Mod_type_117 ?_
      refine ev_l2i (pc := 118) d_Mod_type_118 ?_
      replace hp := q_if hp
      obtain ⟨hb3, hp⟩ := hp
      refine et_iast (pc := 119) d_Mod_type_119 s_66 hb3 (by decide) ?_
      replace hp := q_let_of hp
      obtain ⟨f4, hz, hp⟩ := hp
      rw [← hz]
      clear hz
      refine et_aload_n (pc := 120) d_Mod_type_120 rfl rfl ?_
      refine ev_dup (pc := 121) d_Mod_type_121 rfl ?_
      refine et_geti (pc := 122) ok (fl_Mod_141 t) rfl d_Mod_type_122 s_60 ?_
      refine ev_iconst (pc := 125) d_Mod_type_125 ?_
      refine ev_iadd (pc := 126) d_Mod_type_126 ?_
      refine et_puti (pc := 127) ok (fl_Mod_141 t) d_Mod_type_127 s_60 ?_
      replace hp := q_let_of hp
      obtain ⟨f5, hz, hp⟩ := hp
      rw [← hz]
      clear hz
      refine ev_iinc (pc := 130) d_Mod_type_130 (by decide) rfl [(5, _), (0, _), (1, _)] rfl ?_
      replace hp := q_let_of hp
      obtain ⟨z6, hz, hp⟩ := hp
      rw [← hz]
      clear hz
      refine ev_goto (pc := 133) (tgt := 94) d_Mod_type_133 (by decide) ?_
      refine ev_sub (ls2 := [(0, q_a t (60)), (1, ma_j (v1)), (5, ma_i (z6))]) [1, 2, 0] rfl ?_
      exact ih (v1) (z6) f5 g hp
theorem e_Mod_type_77 (t : q_V) (ok : ma_ok (q_G t))  {Q : Option Value → ma_H → Prop} {y : Int × q_F × q_F} (hQ : Q (some (ma_i y.1)) (q_h y.2.1 y.2.2))   (v1 : Int) (v3 : Int) (s0 : Int) (f g : q_F) (hp : p_Mod_type_77   v1 v3 s0 f g = some y) : ma_Ev (q_G t) 1 22 0 0 m_Mod_type 77 [(0, q_a t (60)), (1, ma_j (v1)), (3, ma_i (v3))] [ma_i (s0), q_a t (60)] (q_h f g) (ma_zr (q_G t) false Q) := by
  unfold p_Mod_type_77 at hp
  refine et_puti (pc := 77) ok (fl_Mod_124 t) d_Mod_type_77 s_60 ?_
  replace hp := q_let_of hp
  obtain ⟨f1, hz, hp⟩ := hp
  rw [← hz]
  clear hz
  refine et_aload_n (pc := 80) d_Mod_type_80 rfl rfl ?_
  refine et_geti (pc := 81) ok (fl_Mod_124 t) rfl d_Mod_type_81 s_60 ?_
  refine et_if_le (pc := 84) (tgt := 89) d_Mod_type_84 (by decide) (fun hj2 => ?_) (fun hj2 => ?_)
  · rw [if_pos hj2] at hp
    refine ev_iload_n (pc := 89) d_Mod_type_89 rfl rfl ?_
    refine ev_iconst (pc := 90) d_Mod_type_90 ?_
    refine ev_isub (pc := 91) d_Mod_type_91 ?_
    refine ev_istore (pc := 92) d_Mod_type_92 (by decide) [(5, _), (0, _), (1, _), (3, _)] rfl ?_
    replace hp := q_let_of hp
    obtain ⟨z3, hz, hp⟩ := hp
    rw [← hz]
    clear hz
    refine ev_sub (ls2 := [(0, q_a t (60)), (1, ma_j (v1)), (5, ma_i (z3))]) [1, 2, 0] rfl ?_
    exact e_Mod_type_94 t ok  hQ   1000 (v1) (z3) f1 g hp
  · rw [if_neg hj2] at hp
    refine ev_iconst (pc := 87) d_Mod_type_87 ?_
    cases Option.some.inj hp
    exact et_iret (pc := 88) d_Mod_type_88 rfl hQ
theorem e_Mod_type_50 (t : q_V) (ok : ma_ok (q_G t))  {Q : Option Value → ma_H → Prop} {y : Int × q_F × q_F} (hQ : Q (some (ma_i y.1)) (q_h y.2.1 y.2.2))   (v1 : Int) (v3 : Int) (v4 : Int) (f g : q_F) (hp : p_Mod_type_50   v1 v3 v4 f g = some y) : ma_Ev (q_G t) 1 22 0 0 m_Mod_type 50 [(0, q_a t (60)), (1, ma_j (v1)), (3, ma_i (v3)), (4, ma_i (v4))] [] (q_h f g) (ma_zr (q_G t) false Q) := by
  unfold p_Mod_type_50 at hp
  refine et_aload_n (pc := 50) d_Mod_type_50 rfl rfl ?_
  refine ev_iload (pc := 51) d_Mod_type_51 rfl ?_
  refine et_if_ne (pc := 53) (tgt := 60) d_Mod_type_53 (by decide) (fun hj1 => ?_) (fun hj1 => ?_)
  · rw [if_neg hj1] at hp
    refine et_aload_n (pc := 60) d_Mod_type_60 rfl rfl ?_
    refine et_geti (pc := 61) ok (fl_Mod_141 t) rfl d_Mod_type_61 s_60 ?_
    refine ev_iload_n (pc := 64) d_Mod_type_64 rfl rfl ?_
    refine ev_iadd (pc := 65) d_Mod_type_65 ?_
    refine ev_sipush (pc := 66) d_Mod_type_66 rfl ?_
    refine et_icmp_le (pc := 69) (tgt := 76) d_Mod_type_69 (by decide) (fun hj2 => ?_) (fun hj2 => ?_)
    · rw [if_pos hj2] at hp
      refine ev_iconst (pc := 76) d_Mod_type_76 ?_
      refine ev_sub (ls2 := [(0, q_a t (60)), (1, ma_j (v1)), (3, ma_i (v3))]) [0, 1, 2] rfl ?_
      exact e_Mod_type_77 t ok  hQ   (v1) (v3) (0) f g hp
    · rw [if_neg hj2] at hp
      refine ev_iconst (pc := 72) d_Mod_type_72 ?_
      refine ev_goto (pc := 73) (tgt := 77) d_Mod_type_73 (by decide) ?_
      refine ev_sub (ls2 := [(0, q_a t (60)), (1, ma_j (v1)), (3, ma_i (v3))]) [0, 1, 2] rfl ?_
      exact e_Mod_type_77 t ok  hQ   (v1) (v3) (2) f g hp
  · rw [if_pos hj1] at hp
    refine ev_iconst (pc := 56) d_Mod_type_56 ?_
    refine ev_goto (pc := 57) (tgt := 77) d_Mod_type_57 (by decide) ?_
    refine ev_sub (ls2 := [(0, q_a t (60)), (1, ma_j (v1)), (3, ma_i (v3))]) [0, 1, 2] rfl ?_
    exact e_Mod_type_77 t ok  hQ   (v1) (v3) (1) f g hp
theorem e_Mod_type_12 (t : q_V) (ok : ma_ok (q_G t))  {Q : Option Value → ma_H → Prop} {y : Int × q_F × q_F} (hQ : Q (some (ma_i y.1)) (q_h y.2.1 y.2.2))   : ∀ (n : Nat) (v1 : Int) (v3 : Int) (v4 : Int) (v5 : Int) (f g : q_F), p_Mod_type_12   n v1 v3 v4 v5 f g = some y → ma_Ev (q_G t) 1 22 0 0 m_Mod_type 12 [(0, q_a t (60)), (1, ma_j (v1)), (3, ma_i (v3)), (4, ma_i (v4)), (5, ma_i (v5))] [] (q_h f g) (ma_zr (q_G t) false Q) := by
  intro n
  induction n with
  | zero =>
    intro v1 v3 v4 v5 f g hp
    rw [p_Mod_type_12] at hp
    cases hp
  | succ n ih =>
    intro v1 v3 v4 v5 f g hp
    rw [p_Mod_type_12] at hp
    refine ev_iload (pc := 12) d_Mod_type_12 rfl ?_
    refine ev_iload_n (pc := 14) d_Mod_type_14 rfl rfl ?_
    refine et_icmp_ge (pc := 15) (tgt := 50) d_Mod_type_15 (by decide) (fun hj1 => ?_) (fun hj1 => ?_)
    · rw [if_pos hj1] at hp
      refine ev_sub (ls2 := [(0, q_a t (60)), (1, ma_j (v1)), (3, ma_i (v3)), (4, ma_i (v4))]) [0, 1, 2, 3] rfl ?_
      exact e_Mod_type_50 t ok  hQ   (v1) (v3) (v4) f g hp
    · rw [if_neg hj1] at hp
      refine ev_iload (pc := 18) d_Mod_type_18 rfl ?_
      refine et_if_eq (pc := 20) (tgt := 50) d_Mod_type_20 (by decide) (fun hj2 => ?_) (fun hj2 => ?_)
      · rw [if_pos hj2] at hp
        refine ev_sub (ls2 := [(0, q_a t (60)), (1, ma_j (v1)), (3, ma_i (v3)), (4, ma_i (v4))]) [0, 1, 2, 3] rfl ?_
        exact e_Mod_type_50 t ok  hQ   (v1) (v3) (v4) f g hp
      · rw [if_neg hj2] at hp
        refine ev_lload_n (pc := 23) d_Mod_type_23 rfl rfl ?_
        refine ev_bipush (pc := 24) d_Mod_type_24 rfl ?_
        refine ev_iload (pc := 26) d_Mod_type_26 rfl ?_
        refine ev_imul (pc := 28) d_Mod_type_28 ?_
        refine et_lshr (pc := 29) d_Mod_type_29 ?_
        refine ev_ldc2 (pc := 30) d_Mod_type_30 kc_Mod_139 ?_
        refine et_land (pc := 33) d_Mod_type_33 ?_
        refine ev_l2i (pc := 34) d_Mod_type_34 ?_
        refine ev_bipush (pc := 35) d_Mod_type_35 rfl ?_
        refine ev_bipush (pc := 37) d_Mod_type_37 rfl ?_
        replace hp := q_bind hp
        obtain ⟨x3, hm4, hp⟩ := hp
        refine et_callSi (pc := 39) (f1 := x3.2.1) (g1 := x3.2.2) ok [ma_i (q_land (q_lshr v1 (8 * v5)) 255), ma_i (33), ma_i (126)] [] (cf_Mod_127 t) d_Mod_type_39 (t_Mod_within t ok (q_land (q_lshr v1 (8 * v5)) 255) (33) (126) f g hm4 ⟨rfl, rfl⟩) rfl rfl (by decide) (by decide) (q_ble rfl) ?_
        refine ev_istore (pc := 42) d_Mod_type_42 (by decide) [(4, _), (0, _), (1, _), (3, _), (5, _)] rfl ?_
        refine ev_iinc (pc := 44) d_Mod_type_44 (by decide) rfl [(5, _), (4, _), (0, _), (1, _), (3, _)] rfl ?_
        replace hp := q_let_of hp
        obtain ⟨z5, hz, hp⟩ := hp
        rw [← hz]
        clear hz
        refine ev_goto (pc := 47) (tgt := 12) d_Mod_type_47 (by decide) ?_
        refine ev_sub (ls2 := [(0, q_a t (60)), (1, ma_j (v1)), (3, ma_i (v3)), (4, ma_i (x3.1)), (5, ma_i (z5))]) [2, 3, 4, 1, 0] rfl ?_
        exact ih (v1) (v3) (x3.1) (z5) x3.2.1 x3.2.2 hp
theorem t_Mod_type (t : q_V) (ok : ma_ok (q_G t))  {Q : Option Value → ma_H → Prop} {y : Int × q_F × q_F} (v1 : Int) (v3 : Int) (f g : q_F) (hp : p_Mod_type  v1 v3 f g = some y) (hQ : Q (some (ma_i y.1)) (q_h y.2.1 y.2.2)) : ma_Met (q_G t) false 1 22 0 0 m_Mod_type [q_a t (60), ma_j (v1), ma_i (v3)] (q_h f g) Q := by
  refine ma_met (by decide +kernel) (q_ble rfl) rfl ?_
  change ma_Ev (q_G t) 1 22 0 0 m_Mod_type 0 [(0, q_a t (60)), (1, ma_j (v1)), (3, ma_i (v3))] [] (q_h f g) (ma_zr (q_G t) false Q)
  unfold p_Mod_type at hp
  refine ev_iload_n (pc := 0) d_Mod_type_0 rfl rfl ?_
  refine ev_iconst (pc := 1) d_Mod_type_1 ?_
  refine ev_bipush (pc := 2) d_Mod_type_2 rfl ?_
  replace hp := q_bind hp
  obtain ⟨x1, hm2, hp⟩ := hp
  refine et_callSi (pc := 4) (f1 := x1.2.1) (g1 := x1.2.2) ok [ma_i (v3), ma_i (1), ma_i (8)] [] (cf_Mod_127 t) d_Mod_type_4 (t_Mod_within t ok (v3) (1) (8) f g hm2 ⟨rfl, rfl⟩) rfl rfl (by decide) (by decide) (q_ble rfl) ?_
  refine ev_istore (pc := 7) d_Mod_type_7 (by decide) [(4, _), (0, _), (1, _), (3, _)] rfl ?_
  refine ev_iconst (pc := 9) d_Mod_type_9 ?_
  refine ev_istore (pc := 10) d_Mod_type_10 (by decide) [(5, _), (4, _), (0, _), (1, _), (3, _)] rfl ?_
  refine ev_sub (ls2 := [(0, q_a t (60)), (1, ma_j (v1)), (3, ma_i (v3)), (4, ma_i (x1.1)), (5, ma_i (0))]) [2, 3, 4, 1, 0] rfl ?_
  exact e_Mod_type_12 t ok  hQ   1000 (v1) (v3) (x1.1) (0) x1.2.1 x1.2.2 hp
theorem d_Mod_clear_0 : decode (m_c m_Mod_clear) 0 = .ok (.aload_n 0, 1) := by decide +kernel
theorem d_Mod_clear_1 : decode (m_c m_Mod_clear) 1 = .ok (.iconst 0, 1) := by decide +kernel
theorem d_Mod_clear_2 : decode (m_c m_Mod_clear) 2 = .ok (.putfield 124, 3) := by decide +kernel
theorem d_Mod_clear_5 : decode (m_c m_Mod_clear) 5 = .ok (.aload_n 0, 1) := by decide +kernel
theorem d_Mod_clear_6 : decode (m_c m_Mod_clear) 6 = .ok (.iconst 0, 1) := by decide +kernel
theorem d_Mod_clear_7 : decode (m_c m_Mod_clear) 7 = .ok (.putfield 141, 3) := by decide +kernel
theorem d_Mod_clear_10 : decode (m_c m_Mod_clear) 10 = .ok (.aload_n 0, 1) := by decide +kernel
theorem d_Mod_clear_11 : decode (m_c m_Mod_clear) 11 = .ok (.iconst 0, 1) := by decide +kernel
theorem d_Mod_clear_12 : decode (m_c m_Mod_clear) 12 = .ok (.putfield 135, 3) := by decide +kernel
theorem d_Mod_clear_15 : decode (m_c m_Mod_clear) 15 = .ok (.return_, 1) := by decide +kernel
def p_Mod_clear   (f g : q_F) : Option (q_F × q_F) :=
  q_let (ma_up f 60 0 0) fun f1 =>
  q_let (ma_up f1 60 6 0) fun f2 =>
  q_let (ma_up f2 60 45 0) fun f3 =>
  some (f3, g)
theorem t_Mod_clear (t : q_V) (ok : ma_ok (q_G t))  {Q : Option Value → ma_H → Prop} {y : q_F × q_F}  (f g : q_F) (hp : p_Mod_clear   f g = some y) (hQ : Q (none) (q_h y.1 y.2)) : ma_Met (q_G t) false 0 0 0 0 m_Mod_clear [q_a t (60)] (q_h f g) Q := by
  refine ma_met (by decide +kernel) (q_ble rfl) rfl ?_
  change ma_Ev (q_G t) 0 0 0 0 m_Mod_clear 0 [(0, q_a t (60))] [] (q_h f g) (ma_zr (q_G t) false Q)
  unfold p_Mod_clear at hp
  refine et_aload_n (pc := 0) d_Mod_clear_0 rfl rfl ?_
  refine ev_iconst (pc := 1) d_Mod_clear_1 ?_
  refine et_puti (pc := 2) ok (fl_Mod_124 t) d_Mod_clear_2 s_60 ?_
  replace hp := q_let_of hp
  obtain ⟨f1, hz, hp⟩ := hp
  rw [← hz]
  clear hz
  refine et_aload_n (pc := 5) d_Mod_clear_5 rfl rfl ?_
  refine ev_iconst (pc := 6) d_Mod_clear_6 ?_
  refine et_puti (pc := 7) ok (fl_Mod_141 t) d_Mod_clear_7 s_60 ?_
  replace hp := q_let_of hp
  obtain ⟨f2, hz, hp⟩ := hp
  rw [← hz]
  clear hz
  refine et_aload_n (pc := 10) d_Mod_clear_10 rfl rfl ?_
  refine ev_iconst (pc := 11) d_Mod_clear_11 ?_
  refine et_putz (pc := 12) ok (fl_Mod_135 t) (by decide) d_Mod_clear_12 s_60 ?_
  replace hp := q_let_of hp
  obtain ⟨f3, hz, hp⟩ := hp
  rw [← hz]
  clear hz
  cases Option.some.inj hp
  exact et_ret (pc := 15) d_Mod_clear_15 rfl hQ
theorem d_Mod_inRegion_0 : decode (m_c m_Mod_inRegion) 0 = .ok (.iload_n 2, 1) := by decide +kernel
theorem d_Mod_inRegion_1 : decode (m_c m_Mod_inRegion) 1 = .ok (.aload_n 0, 1) := by decide +kernel
theorem d_Mod_inRegion_2 : decode (m_c m_Mod_inRegion) 2 = .ok (.getfield 36, 3) := by decide +kernel
theorem d_Mod_inRegion_5 : decode (m_c m_Mod_inRegion) 5 = .ok (.iload_n 1, 1) := by decide +kernel
theorem d_Mod_inRegion_6 : decode (m_c m_Mod_inRegion) 6 = .ok (.iaload, 1) := by decide +kernel
theorem d_Mod_inRegion_7 : decode (m_c m_Mod_inRegion) 7 = .ok (.if_icmp .lt 26, 3) := by decide +kernel
theorem d_Mod_inRegion_10 : decode (m_c m_Mod_inRegion) 10 = .ok (.iload_n 2, 1) := by decide +kernel
theorem d_Mod_inRegion_11 : decode (m_c m_Mod_inRegion) 11 = .ok (.iload_n 3, 1) := by decide +kernel
theorem d_Mod_inRegion_12 : decode (m_c m_Mod_inRegion) 12 = .ok (.iadd, 1) := by decide +kernel
theorem d_Mod_inRegion_13 : decode (m_c m_Mod_inRegion) 13 = .ok (.aload_n 0, 1) := by decide +kernel
theorem d_Mod_inRegion_14 : decode (m_c m_Mod_inRegion) 14 = .ok (.getfield 36, 3) := by decide +kernel
theorem d_Mod_inRegion_17 : decode (m_c m_Mod_inRegion) 17 = .ok (.iload_n 1, 1) := by decide +kernel
theorem d_Mod_inRegion_18 : decode (m_c m_Mod_inRegion) 18 = .ok (.iaload, 1) := by decide +kernel
theorem d_Mod_inRegion_19 : decode (m_c m_Mod_inRegion) 19 = .ok (.aload_n 0, 1) := by decide +kernel
theorem d_Mod_inRegion_20 : decode (m_c m_Mod_inRegion) 20 = .ok (.getfield 39, 3) := by decide +kernel
theorem d_Mod_inRegion_23 : decode (m_c m_Mod_inRegion) 23 = .ok (.iload_n 1, 1) := by decide +kernel
theorem d_Mod_inRegion_24 : decode (m_c m_Mod_inRegion) 24 = .ok (.iaload, 1) := by decide +kernel
theorem d_Mod_inRegion_25 : decode (m_c m_Mod_inRegion) 25 = .ok (.iadd, 1) := by decide +kernel
theorem d_Mod_inRegion_26 : decode (m_c m_Mod_inRegion) 26 = .ok (.if_icmp .gt 7, 3) := by decide +kernel
theorem d_Mod_inRegion_29 : decode (m_c m_Mod_inRegion) 29 = .ok (.iconst 1, 1) := by decide +kernel
theorem d_Mod_inRegion_30 : decode (m_c m_Mod_inRegion) 30 = .ok (.goto 4, 3) := by decide +kernel
theorem d_Mod_inRegion_33 : decode (m_c m_Mod_inRegion) 33 = .ok (.iconst 0, 1) := by decide +kernel
theorem d_Mod_inRegion_34 : decode (m_c m_Mod_inRegion) 34 = .ok (.ireturn, 1) := by decide +kernel
def p_Mod_inRegion_34   (s0 : Int) (f g : q_F) : Option (Int × q_F × q_F) :=
  if s0 = 0 ∨ s0 = 1 then
    some (s0, f, g)
  else none
def p_Mod_inRegion_33    (f g : q_F) : Option (Int × q_F × q_F) :=
  p_Mod_inRegion_34   (0) f g
def p_Mod_inRegion  (v1 : Int) (v2 : Int) (v3 : Int) (f g : q_F) : Option (Int × q_F × q_F) :=
  if 0 ≤ v1 ∧ v1 < 4 then
    if q_sw v2 < q_sw (f 68 (Int.toNat v1)) then
      p_Mod_inRegion_33    f g
    else
      if 0 ≤ v1 ∧ v1 < 4 then
        if 0 ≤ v1 ∧ v1 < 4 then
          if q_sw ((f 68 (Int.toNat v1)) + (f 69 (Int.toNat v1))) < q_sw (v2 + v3) then
            p_Mod_inRegion_33    f g
          else
            p_Mod_inRegion_34   (1) f g
        else none
      else none
  else none
theorem e_Mod_inRegion_34 (t : q_V) (ok : ma_ok (q_G t))  {Q : Option Value → ma_H → Prop} {y : Int × q_F × q_F} (hQ : Q (some (ma_i y.1)) (q_h y.2.1 y.2.2))   (s0 : Int) (f g : q_F) (hp : p_Mod_inRegion_34   s0 f g = some y) : ma_Ev (q_G t) 0 0 0 0 m_Mod_inRegion 34 [] [ma_i (s0)] (q_h f g) (ma_zr (q_G t) false Q) := by
  unfold p_Mod_inRegion_34 at hp
  replace hp := q_if hp
  obtain ⟨hb1, hp⟩ := hp
  cases Option.some.inj hp
  exact et_zret (pc := 34) d_Mod_inRegion_34 rfl hb1 hQ
theorem e_Mod_inRegion_33 (t : q_V) (ok : ma_ok (q_G t))  {Q : Option Value → ma_H → Prop} {y : Int × q_F × q_F} (hQ : Q (some (ma_i y.1)) (q_h y.2.1 y.2.2))    (f g : q_F) (hp : p_Mod_inRegion_33    f g = some y) : ma_Ev (q_G t) 0 0 0 0 m_Mod_inRegion 33 [] [] (q_h f g) (ma_zr (q_G t) false Q) := by
  unfold p_Mod_inRegion_33 at hp
  refine ev_iconst (pc := 33) d_Mod_inRegion_33 ?_
  refine ev_sub (ls2 := []) [] rfl ?_
  exact e_Mod_inRegion_34 t ok  hQ   (0) f g hp
theorem t_Mod_inRegion (t : q_V) (ok : ma_ok (q_G t))  {Q : Option Value → ma_H → Prop} {y : Int × q_F × q_F} (v1 : Int) (v2 : Int) (v3 : Int) (f g : q_F) (hp : p_Mod_inRegion  v1 v2 v3 f g = some y) (hQ : Q (some (ma_i y.1)) (q_h y.2.1 y.2.2)) : ma_Met (q_G t) false 0 0 0 0 m_Mod_inRegion [q_a t (60), ma_i (v1), ma_i (v2), ma_i (v3)] (q_h f g) Q := by
  refine ma_met (by decide +kernel) (q_ble rfl) rfl ?_
  change ma_Ev (q_G t) 0 0 0 0 m_Mod_inRegion 0 [(0, q_a t (60)), (1, ma_i (v1)), (2, ma_i (v2)), (3, ma_i (v3))] [] (q_h f g) (ma_zr (q_G t) false Q)
  unfold p_Mod_inRegion at hp
  refine ev_iload_n (pc := 0) d_Mod_inRegion_0 rfl rfl ?_
  refine et_aload_n (pc := 1) d_Mod_inRegion_1 rfl rfl ?_
  refine et_getr (pc := 2) ok (fl_Mod_36 t) rfl d_Mod_inRegion_2 s_60 r_60_12 ?_
  refine ev_iload_n (pc := 5) d_Mod_inRegion_5 rfl rfl ?_
  replace hp := q_if hp
  obtain ⟨hb1, hp⟩ := hp
  refine et_iald (pc := 6) d_Mod_inRegion_6 s_68 hb1 (by decide) ?_
  refine et_icmp_lt (pc := 7) (tgt := 33) d_Mod_inRegion_7 (by decide) (fun hj2 => ?_) (fun hj2 => ?_)
  · rw [if_pos hj2] at hp
    refine ev_sub (ls2 := []) [] rfl ?_
    exact e_Mod_inRegion_33 t ok  hQ    f g hp
  · rw [if_neg hj2] at hp
    refine ev_iload_n (pc := 10) d_Mod_inRegion_10 rfl rfl ?_
    refine ev_iload_n (pc := 11) d_Mod_inRegion_11 rfl rfl ?_
    refine ev_iadd (pc := 12) d_Mod_inRegion_12 ?_
    refine et_aload_n (pc := 13) d_Mod_inRegion_13 rfl rfl ?_
    refine et_getr (pc := 14) ok (fl_Mod_36 t) rfl d_Mod_inRegion_14 s_60 r_60_12 ?_
    refine ev_iload_n (pc := 17) d_Mod_inRegion_17 rfl rfl ?_
    replace hp := q_if hp
    obtain ⟨hb3, hp⟩ := hp
    refine et_iald (pc := 18) d_Mod_inRegion_18 s_68 hb3 (by decide) ?_
    refine et_aload_n (pc := 19) d_Mod_inRegion_19 rfl rfl ?_
    refine et_getr (pc := 20) ok (fl_Mod_39 t) rfl d_Mod_inRegion_20 s_60 r_60_13 ?_
    refine ev_iload_n (pc := 23) d_Mod_inRegion_23 rfl rfl ?_
    replace hp := q_if hp
    obtain ⟨hb4, hp⟩ := hp
    refine et_iald (pc := 24) d_Mod_inRegion_24 s_69 hb4 (by decide) ?_
    refine ev_iadd (pc := 25) d_Mod_inRegion_25 ?_
    refine et_icmp_gt (pc := 26) (tgt := 33) d_Mod_inRegion_26 (by decide) (fun hj5 => ?_) (fun hj5 => ?_)
    · rw [if_pos hj5] at hp
      refine ev_sub (ls2 := []) [] rfl ?_
      exact e_Mod_inRegion_33 t ok  hQ    f g hp
    · rw [if_neg hj5] at hp
      refine ev_iconst (pc := 29) d_Mod_inRegion_29 ?_
      refine ev_goto (pc := 30) (tgt := 34) d_Mod_inRegion_30 (by decide) ?_
      refine ev_sub (ls2 := []) [] rfl ?_
      exact e_Mod_inRegion_34 t ok  hQ   (1) f g hp
theorem d_Mod_fits_0 : decode (m_c m_Mod_fits) 0 = .ok (.iconst 1, 1) := by decide +kernel
theorem d_Mod_fits_1 : decode (m_c m_Mod_fits) 1 = .ok (.istore_n 1, 1) := by decide +kernel
theorem d_Mod_fits_2 : decode (m_c m_Mod_fits) 2 = .ok (.iconst 0, 1) := by decide +kernel
theorem d_Mod_fits_3 : decode (m_c m_Mod_fits) 3 = .ok (.istore_n 2, 1) := by decide +kernel
theorem d_Mod_fits_4 : decode (m_c m_Mod_fits) 4 = .ok (.iload_n 2, 1) := by decide +kernel
theorem d_Mod_fits_5 : decode (m_c m_Mod_fits) 5 = .ok (.aload_n 0, 1) := by decide +kernel
theorem d_Mod_fits_6 : decode (m_c m_Mod_fits) 6 = .ok (.getfield 196, 3) := by decide +kernel
theorem d_Mod_fits_9 : decode (m_c m_Mod_fits) 9 = .ok (.if_icmp .ge 85, 3) := by decide +kernel
theorem d_Mod_fits_12 : decode (m_c m_Mod_fits) 12 = .ok (.aload_n 0, 1) := by decide +kernel
theorem d_Mod_fits_13 : decode (m_c m_Mod_fits) 13 = .ok (.getfield 58, 3) := by decide +kernel
theorem d_Mod_fits_16 : decode (m_c m_Mod_fits) 16 = .ok (.iload_n 2, 1) := by decide +kernel
theorem d_Mod_fits_17 : decode (m_c m_Mod_fits) 17 = .ok (.iaload, 1) := by decide +kernel
theorem d_Mod_fits_18 : decode (m_c m_Mod_fits) 18 = .ok (.istore_n 3, 1) := by decide +kernel
theorem d_Mod_fits_19 : decode (m_c m_Mod_fits) 19 = .ok (.iload_n 1, 1) := by decide +kernel
theorem d_Mod_fits_20 : decode (m_c m_Mod_fits) 20 = .ok (.ifCond .eq 66, 3) := by decide +kernel
theorem d_Mod_fits_23 : decode (m_c m_Mod_fits) 23 = .ok (.aload_n 0, 1) := by decide +kernel
theorem d_Mod_fits_24 : decode (m_c m_Mod_fits) 24 = .ok (.aload_n 0, 1) := by decide +kernel
theorem d_Mod_fits_25 : decode (m_c m_Mod_fits) 25 = .ok (.getfield 76, 3) := by decide +kernel
theorem d_Mod_fits_28 : decode (m_c m_Mod_fits) 28 = .ok (.iload_n 3, 1) := by decide +kernel
theorem d_Mod_fits_29 : decode (m_c m_Mod_fits) 29 = .ok (.iaload, 1) := by decide +kernel
theorem d_Mod_fits_30 : decode (m_c m_Mod_fits) 30 = .ok (.aload_n 0, 1) := by decide +kernel
theorem d_Mod_fits_31 : decode (m_c m_Mod_fits) 31 = .ok (.getfield 91, 3) := by decide +kernel
theorem d_Mod_fits_34 : decode (m_c m_Mod_fits) 34 = .ok (.iload_n 3, 1) := by decide +kernel
theorem d_Mod_fits_35 : decode (m_c m_Mod_fits) 35 = .ok (.iaload, 1) := by decide +kernel
theorem d_Mod_fits_36 : decode (m_c m_Mod_fits) 36 = .ok (.aload_n 0, 1) := by decide +kernel
theorem d_Mod_fits_37 : decode (m_c m_Mod_fits) 37 = .ok (.getfield 94, 3) := by decide +kernel
theorem d_Mod_fits_40 : decode (m_c m_Mod_fits) 40 = .ok (.iload_n 3, 1) := by decide +kernel
theorem d_Mod_fits_41 : decode (m_c m_Mod_fits) 41 = .ok (.iaload, 1) := by decide +kernel
theorem d_Mod_fits_42 : decode (m_c m_Mod_fits) 42 = .ok (.invokevirtual 250, 3) := by decide +kernel
theorem d_Mod_fits_45 : decode (m_c m_Mod_fits) 45 = .ok (.ifCond .eq 41, 3) := by decide +kernel
theorem d_Mod_fits_48 : decode (m_c m_Mod_fits) 48 = .ok (.aload_n 0, 1) := by decide +kernel
theorem d_Mod_fits_49 : decode (m_c m_Mod_fits) 49 = .ok (.getfield 79, 3) := by decide +kernel
theorem d_Mod_fits_52 : decode (m_c m_Mod_fits) 52 = .ok (.iload_n 3, 1) := by decide +kernel
theorem d_Mod_fits_53 : decode (m_c m_Mod_fits) 53 = .ok (.iaload, 1) := by decide +kernel
theorem d_Mod_fits_54 : decode (m_c m_Mod_fits) 54 = .ok (.ifCond .lt 28, 3) := by decide +kernel
theorem d_Mod_fits_57 : decode (m_c m_Mod_fits) 57 = .ok (.aload_n 0, 1) := by decide +kernel
theorem d_Mod_fits_58 : decode (m_c m_Mod_fits) 58 = .ok (.aload_n 0, 1) := by decide +kernel
theorem d_Mod_fits_59 : decode (m_c m_Mod_fits) 59 = .ok (.getfield 79, 3) := by decide +kernel
theorem d_Mod_fits_62 : decode (m_c m_Mod_fits) 62 = .ok (.iload_n 3, 1) := by decide +kernel
theorem d_Mod_fits_63 : decode (m_c m_Mod_fits) 63 = .ok (.iaload, 1) := by decide +kernel
theorem d_Mod_fits_64 : decode (m_c m_Mod_fits) 64 = .ok (.aload_n 0, 1) := by decide +kernel
theorem d_Mod_fits_65 : decode (m_c m_Mod_fits) 65 = .ok (.getfield 97, 3) := by decide +kernel
theorem d_Mod_fits_68 : decode (m_c m_Mod_fits) 68 = .ok (.iload_n 3, 1) := by decide +kernel
theorem d_Mod_fits_69 : decode (m_c m_Mod_fits) 69 = .ok (.iaload, 1) := by decide +kernel
theorem d_Mod_fits_70 : decode (m_c m_Mod_fits) 70 = .ok (.aload_n 0, 1) := by decide +kernel
theorem d_Mod_fits_71 : decode (m_c m_Mod_fits) 71 = .ok (.getfield 94, 3) := by decide +kernel
theorem d_Mod_fits_74 : decode (m_c m_Mod_fits) 74 = .ok (.iload_n 3, 1) := by decide +kernel
theorem d_Mod_fits_75 : decode (m_c m_Mod_fits) 75 = .ok (.iaload, 1) := by decide +kernel
theorem d_Mod_fits_76 : decode (m_c m_Mod_fits) 76 = .ok (.invokevirtual 250, 3) := by decide +kernel
theorem d_Mod_fits_79 : decode (m_c m_Mod_fits) 79 = .ok (.ifCond .eq 7, 3) := by decide +kernel
theorem d_Mod_fits_82 : decode (m_c m_Mod_fits) 82 = .ok (.iconst 1, 1) := by decide +kernel
theorem d_Mod_fits_83 : decode (m_c m_Mod_fits) 83 = .ok (.goto 4, 3) := by decide +kernel
theorem d_Mod_fits_86 : decode (m_c m_Mod_fits) 86 = .ok (.iconst 0, 1) := by decide +kernel
theorem d_Mod_fits_87 : decode (m_c m_Mod_fits) 87 = .ok (.istore_n 1, 1) := by decide +kernel
theorem d_Mod_fits_88 : decode (m_c m_Mod_fits) 88 = .ok (.iinc 2 1, 3) := by decide +kernel
theorem d_Mod_fits_91 : decode (m_c m_Mod_fits) 91 = .ok (.goto (-87), 3) := by decide +kernel
theorem d_Mod_fits_94 : decode (m_c m_Mod_fits) 94 = .ok (.iload_n 1, 1) := by decide +kernel
theorem d_Mod_fits_95 : decode (m_c m_Mod_fits) 95 = .ok (.ireturn, 1) := by decide +kernel
def p_Mod_fits_87  (c4 : Int → Int → q_F → q_F → Option (Int × q_F × q_F)) (v2 : Int) (s0 : Int) (f g : q_F) : Option (Int × q_F × q_F) :=
  q_let (v2 + 1) fun z1 =>
  c4 (s0) (z1) f g
def p_Mod_fits_86  (c4 : Int → Int → q_F → q_F → Option (Int × q_F × q_F)) (v2 : Int) (f g : q_F) : Option (Int × q_F × q_F) :=
  p_Mod_fits_87  c4 (v2) (0) f g
def p_Mod_fits_82  (c4 : Int → Int → q_F → q_F → Option (Int × q_F × q_F)) (v2 : Int) (f g : q_F) : Option (Int × q_F × q_F) :=
  p_Mod_fits_87  c4 (v2) (1) f g
def p_Mod_fits_4   : Nat → Int → Int → q_F → q_F → Option (Int × q_F × q_F)
  | 0, _, _, _, _ => none
  | n + 1, v1, v2, f, g =>
    if q_sw (f 60 22) ≤ q_sw v2 then
      if v1 = 0 ∨ v1 = 1 then
        some (v1, f, g)
      else none
    else
      if 0 ≤ v2 ∧ v2 < 8 then
        q_let (f 75 (Int.toNat v2)) fun z4 =>
        if q_sw v1 = 0 then
          p_Mod_fits_86  (p_Mod_fits_4   n) (v2) f g
        else
          if 0 ≤ z4 ∧ z4 < 8 then
            if 0 ≤ z4 ∧ z4 < 8 then
              if 0 ≤ z4 ∧ z4 < 8 then
                (p_Mod_inRegion (f 81 (Int.toNat z4)) (f 86 (Int.toNat z4)) (f 87 (Int.toNat z4)) f g).bind fun x9 =>
                if q_sw x9.1 = 0 then
                  p_Mod_fits_86  (p_Mod_fits_4   n) (v2) x9.2.1 x9.2.2
                else
                  if 0 ≤ z4 ∧ z4 < 8 then
                    if q_sw (x9.2.1 82 (Int.toNat z4)) < 0 then
                      p_Mod_fits_82  (p_Mod_fits_4   n) (v2) x9.2.1 x9.2.2
                    else
                      if 0 ≤ z4 ∧ z4 < 8 then
                        if 0 ≤ z4 ∧ z4 < 8 then
                          if 0 ≤ z4 ∧ z4 < 8 then
                            (p_Mod_inRegion (x9.2.1 82 (Int.toNat z4)) (x9.2.1 88 (Int.toNat z4)) (x9.2.1 87 (Int.toNat z4)) x9.2.1 x9.2.2).bind fun x17 =>
                            if q_sw x17.1 = 0 then
                              p_Mod_fits_86  (p_Mod_fits_4   n) (v2) x17.2.1 x17.2.2
                            else
                              p_Mod_fits_82  (p_Mod_fits_4   n) (v2) x17.2.1 x17.2.2
                          else none
                        else none
                      else none
                  else none
              else none
            else none
          else none
      else none
def p_Mod_fits   (f g : q_F) : Option (Int × q_F × q_F) :=
  p_Mod_fits_4   1000 (1) (0) f g
theorem e_Mod_fits_87 (t : q_V) (ok : ma_ok (q_G t))  {Q : Option Value → ma_H → Prop} {y : Int × q_F × q_F} (hQ : Q (some (ma_i y.1)) (q_h y.2.1 y.2.2)) (c4 : Int → Int → q_F → q_F → Option (Int × q_F × q_F)) (hc4 : ∀ (v1 : Int) (v2 : Int) (f g : q_F), c4 v1 v2 f g = some y → ma_Ev (q_G t) 1 23 0 0 m_Mod_fits 4 [(0, q_a t (60)), (1, ma_i (v1)), (2, ma_i (v2))] [] (q_h f g) (ma_zr (q_G t) false Q)) (v2 : Int) (s0 : Int) (f g : q_F) (hp : p_Mod_fits_87  c4 v2 s0 f g = some y) : ma_Ev (q_G t) 1 23 0 0 m_Mod_fits 87 [(0, q_a t (60)), (2, ma_i (v2))] [ma_i (s0)] (q_h f g) (ma_zr (q_G t) false Q) := by
  unfold p_Mod_fits_87 at hp
  refine ev_istore_n (pc := 87) d_Mod_fits_87 rfl (by decide) [(1, _), (0, _), (2, _)] rfl ?_
  refine ev_iinc (pc := 88) d_Mod_fits_88 (by decide) rfl [(2, _), (1, _), (0, _)] rfl ?_
  replace hp := q_let_of hp
  obtain ⟨z1, hz, hp⟩ := hp
  rw [← hz]
  clear hz
  refine ev_goto (pc := 91) (tgt := 4) d_Mod_fits_91 (by decide) ?_
  refine ev_sub (ls2 := [(0, q_a t (60)), (1, ma_i (s0)), (2, ma_i (z1))]) [2, 1, 0] rfl ?_
  exact hc4 (s0) (z1) f g hp
theorem e_Mod_fits_86 (t : q_V) (ok : ma_ok (q_G t))  {Q : Option Value → ma_H → Prop} {y : Int × q_F × q_F} (hQ : Q (some (ma_i y.1)) (q_h y.2.1 y.2.2)) (c4 : Int → Int → q_F → q_F → Option (Int × q_F × q_F)) (hc4 : ∀ (v1 : Int) (v2 : Int) (f g : q_F), c4 v1 v2 f g = some y → ma_Ev (q_G t) 1 23 0 0 m_Mod_fits 4 [(0, q_a t (60)), (1, ma_i (v1)), (2, ma_i (v2))] [] (q_h f g) (ma_zr (q_G t) false Q)) (v2 : Int) (f g : q_F) (hp : p_Mod_fits_86  c4 v2 f g = some y) : ma_Ev (q_G t) 1 23 0 0 m_Mod_fits 86 [(0, q_a t (60)), (2, ma_i (v2))] [] (q_h f g) (ma_zr (q_G t) false Q) := by
  unfold p_Mod_fits_86 at hp
  refine ev_iconst (pc := 86) d_Mod_fits_86 ?_
  refine ev_sub (ls2 := [(0, q_a t (60)), (2, ma_i (v2))]) [0, 1] rfl ?_
  exact e_Mod_fits_87 t ok  hQ c4 hc4 (v2) (0) f g hp
theorem e_Mod_fits_82 (t : q_V) (ok : ma_ok (q_G t))  {Q : Option Value → ma_H → Prop} {y : Int × q_F × q_F} (hQ : Q (some (ma_i y.1)) (q_h y.2.1 y.2.2)) (c4 : Int → Int → q_F → q_F → Option (Int × q_F × q_F)) (hc4 : ∀ (v1 : Int) (v2 : Int) (f g : q_F), c4 v1 v2 f g = some y → ma_Ev (q_G t) 1 23 0 0 m_Mod_fits 4 [(0, q_a t (60)), (1, ma_i (v1)), (2, ma_i (v2))] [] (q_h f g) (ma_zr (q_G t) false Q)) (v2 : Int) (f g : q_F) (hp : p_Mod_fits_82  c4 v2 f g = some y) : ma_Ev (q_G t) 1 23 0 0 m_Mod_fits 82 [(0, q_a t (60)), (2, ma_i (v2))] [] (q_h f g) (ma_zr (q_G t) false Q) := by
  unfold p_Mod_fits_82 at hp
  refine ev_iconst (pc := 82) d_Mod_fits_82 ?_
  refine ev_goto (pc := 83) (tgt := 87) d_Mod_fits_83 (by decide) ?_
  refine ev_sub (ls2 := [(0, q_a t (60)), (2, ma_i (v2))]) [0, 1] rfl ?_
  exact e_Mod_fits_87 t ok  hQ c4 hc4 (v2) (1) f g hp
theorem e_Mod_fits_4 (t : q_V) (ok : ma_ok (q_G t))  {Q : Option Value → ma_H → Prop} {y : Int × q_F × q_F} (hQ : Q (some (ma_i y.1)) (q_h y.2.1 y.2.2))   : ∀ (n : Nat) (v1 : Int) (v2 : Int) (f g : q_F), p_Mod_fits_4   n v1 v2 f g = some y → ma_Ev (q_G t) 1 23 0 0 m_Mod_fits 4 [(0, q_a t (60)), (1, ma_i (v1)), (2, ma_i (v2))] [] (q_h f g) (ma_zr (q_G t) false Q) := by
  intro n
  induction n with
  | zero =>
    intro v1 v2 f g hp
    rw [p_Mod_fits_4] at hp
    cases hp
  | succ n ih =>
    intro v1 v2 f g hp
    rw [p_Mod_fits_4] at hp
    refine ev_iload_n (pc := 4) d_Mod_fits_4 rfl rfl ?_
    refine et_aload_n (pc := 5) d_Mod_fits_5 rfl rfl ?_
    refine et_geti (pc := 6) ok (fl_Mod_196 t) rfl d_Mod_fits_6 s_60 ?_
    refine et_icmp_ge (pc := 9) (tgt := 94) d_Mod_fits_9 (by decide) (fun hj1 => ?_) (fun hj1 => ?_)
    · rw [if_pos hj1] at hp
      refine ev_iload_n (pc := 94) d_Mod_fits_94 rfl rfl ?_
      replace hp := q_if hp
      obtain ⟨hb2, hp⟩ := hp
      cases Option.some.inj hp
      exact et_zret (pc := 95) d_Mod_fits_95 rfl hb2 hQ
    · rw [if_neg hj1] at hp
      refine et_aload_n (pc := 12) d_Mod_fits_12 rfl rfl ?_
      refine et_getr (pc := 13) ok (fl_Mod_58 t) rfl d_Mod_fits_13 s_60 r_60_23 ?_
      refine ev_iload_n (pc := 16) d_Mod_fits_16 rfl rfl ?_
      replace hp := q_if hp
      obtain ⟨hb3, hp⟩ := hp
      refine et_iald (pc := 17) d_Mod_fits_17 s_75 hb3 (by decide) ?_
      refine ev_istore_n (pc := 18) d_Mod_fits_18 rfl (by decide) [(3, _), (0, _), (1, _), (2, _)] rfl ?_
      replace hp := q_let_of hp
      obtain ⟨z4, hz, hp⟩ := hp
      rw [← hz]
      clear hz
      refine ev_iload_n (pc := 19) d_Mod_fits_19 rfl rfl ?_
      refine et_if_eq (pc := 20) (tgt := 86) d_Mod_fits_20 (by decide) (fun hj5 => ?_) (fun hj5 => ?_)
      · rw [if_pos hj5] at hp
        refine ev_sub (ls2 := [(0, q_a t (60)), (2, ma_i (v2))]) [1, 3] rfl ?_
        exact e_Mod_fits_86 t ok  hQ (p_Mod_fits_4   n) ih (v2) f g hp
      · rw [if_neg hj5] at hp
        refine et_aload_n (pc := 23) d_Mod_fits_23 rfl rfl ?_
        refine et_aload_n (pc := 24) d_Mod_fits_24 rfl rfl ?_
        refine et_getr (pc := 25) ok (fl_Mod_76 t) rfl d_Mod_fits_25 s_60 r_60_29 ?_
        refine ev_iload_n (pc := 28) d_Mod_fits_28 rfl rfl ?_
        replace hp := q_if hp
        obtain ⟨hb6, hp⟩ := hp
        refine et_iald (pc := 29) d_Mod_fits_29 s_81 hb6 (by decide) ?_
        refine et_aload_n (pc := 30) d_Mod_fits_30 rfl rfl ?_
        refine et_getr (pc := 31) ok (fl_Mod_91 t) rfl d_Mod_fits_31 s_60 r_60_34 ?_
        refine ev_iload_n (pc := 34) d_Mod_fits_34 rfl rfl ?_
        replace hp := q_if hp
        obtain ⟨hb7, hp⟩ := hp
        refine et_iald (pc := 35) d_Mod_fits_35 s_86 hb7 (by decide) ?_
        refine et_aload_n (pc := 36) d_Mod_fits_36 rfl rfl ?_
        refine et_getr (pc := 37) ok (fl_Mod_94 t) rfl d_Mod_fits_37 s_60 r_60_35 ?_
        refine ev_iload_n (pc := 40) d_Mod_fits_40 rfl rfl ?_
        replace hp := q_if hp
        obtain ⟨hb8, hp⟩ := hp
        refine et_iald (pc := 41) d_Mod_fits_41 s_87 hb8 (by decide) ?_
        replace hp := q_bind hp
        obtain ⟨x9, hm10, hp⟩ := hp
        refine et_callVi (pc := 42) (f1 := x9.2.1) (g1 := x9.2.2) ok [ma_i (f 81 (Int.toNat z4)), ma_i (f 86 (Int.toNat z4)), ma_i (f 87 (Int.toNat z4))] [] (cf_Mod_250 t) d_Mod_fits_42 s_60 k_12 rfl (t_Mod_inRegion t ok (f 81 (Int.toNat z4)) (f 86 (Int.toNat z4)) (f 87 (Int.toNat z4)) f g hm10 ⟨rfl, rfl⟩) rfl rfl (by decide) (by decide) (q_ble rfl) ?_
        refine et_if_eq (pc := 45) (tgt := 86) d_Mod_fits_45 (by decide) (fun hj11 => ?_) (fun hj11 => ?_)
        · rw [if_pos hj11] at hp
          refine ev_sub (ls2 := [(0, q_a t (60)), (2, ma_i (v2))]) [1, 3] rfl ?_
          exact e_Mod_fits_86 t ok  hQ (p_Mod_fits_4   n) ih (v2) x9.2.1 x9.2.2 hp
        · rw [if_neg hj11] at hp
          refine et_aload_n (pc := 48) d_Mod_fits_48 rfl rfl ?_
          refine et_getr (pc := 49) ok (fl_Mod_79 t) rfl d_Mod_fits_49 s_60 r_60_30 ?_
          refine ev_iload_n (pc := 52) d_Mod_fits_52 rfl rfl ?_
          replace hp := q_if hp
          obtain ⟨hb12, hp⟩ := hp
          refine et_iald (pc := 53) d_Mod_fits_53 s_82 hb12 (by decide) ?_
          refine et_if_lt (pc := 54) (tgt := 82) d_Mod_fits_54 (by decide) (fun hj13 => ?_) (fun hj13 => ?_)
          · rw [if_pos hj13] at hp
            refine ev_sub (ls2 := [(0, q_a t (60)), (2, ma_i (v2))]) [1, 3] rfl ?_
            exact e_Mod_fits_82 t ok  hQ (p_Mod_fits_4   n) ih (v2) x9.2.1 x9.2.2 hp
          · rw [if_neg hj13] at hp
            refine et_aload_n (pc := 57) d_Mod_fits_57 rfl rfl ?_
            refine et_aload_n (pc := 58) d_Mod_fits_58 rfl rfl ?_
            refine et_getr (pc := 59) ok (fl_Mod_79 t) rfl d_Mod_fits_59 s_60 r_60_30 ?_
            refine ev_iload_n (pc := 62) d_Mod_fits_62 rfl rfl ?_
            replace hp := q_if hp
            obtain ⟨hb14, hp⟩ := hp
            refine et_iald (pc := 63) d_Mod_fits_63 s_82 hb14 (by decide) ?_
            refine et_aload_n (pc := 64) d_Mod_fits_64 rfl rfl ?_
            refine et_getr (pc := 65) ok (fl_Mod_97 t) rfl d_Mod_fits_65 s_60 r_60_36 ?_
            refine ev_iload_n (pc := 68) d_Mod_fits_68 rfl rfl ?_
            replace hp := q_if hp
            obtain ⟨hb15, hp⟩ := hp
            refine et_iald (pc := 69) d_Mod_fits_69 s_88 hb15 (by decide) ?_
            refine et_aload_n (pc := 70) d_Mod_fits_70 rfl rfl ?_
            refine et_getr (pc := 71) ok (fl_Mod_94 t) rfl d_Mod_fits_71 s_60 r_60_35 ?_
            refine ev_iload_n (pc := 74) d_Mod_fits_74 rfl rfl ?_
            replace hp := q_if hp
            obtain ⟨hb16, hp⟩ := hp
            refine et_iald (pc := 75) d_Mod_fits_75 s_87 hb16 (by decide) ?_
            replace hp := q_bind hp
            obtain ⟨x17, hm18, hp⟩ := hp
            refine et_callVi (pc := 76) (f1 := x17.2.1) (g1 := x17.2.2) ok [ma_i (x9.2.1 82 (Int.toNat z4)), ma_i (x9.2.1 88 (Int.toNat z4)), ma_i (x9.2.1 87 (Int.toNat z4))] [] (cf_Mod_250 t) d_Mod_fits_76 s_60 k_12 rfl (t_Mod_inRegion t ok (x9.2.1 82 (Int.toNat z4)) (x9.2.1 88 (Int.toNat z4)) (x9.2.1 87 (Int.toNat z4)) x9.2.1 x9.2.2 hm18 ⟨rfl, rfl⟩) rfl rfl (by decide) (by decide) (q_ble rfl) ?_
            refine et_if_eq (pc := 79) (tgt := 86) d_Mod_fits_79 (by decide) (fun hj19 => ?_) (fun hj19 => ?_)
            · rw [if_pos hj19] at hp
              refine ev_sub (ls2 := [(0, q_a t (60)), (2, ma_i (v2))]) [1, 3] rfl ?_
              exact e_Mod_fits_86 t ok  hQ (p_Mod_fits_4   n) ih (v2) x17.2.1 x17.2.2 hp
            · rw [if_neg hj19] at hp
              refine ev_sub (ls2 := [(0, q_a t (60)), (2, ma_i (v2))]) [1, 3] rfl ?_
              exact e_Mod_fits_82 t ok  hQ (p_Mod_fits_4   n) ih (v2) x17.2.1 x17.2.2 hp
theorem t_Mod_fits (t : q_V) (ok : ma_ok (q_G t))  {Q : Option Value → ma_H → Prop} {y : Int × q_F × q_F}  (f g : q_F) (hp : p_Mod_fits   f g = some y) (hQ : Q (some (ma_i y.1)) (q_h y.2.1 y.2.2)) : ma_Met (q_G t) false 1 23 0 0 m_Mod_fits [q_a t (60)] (q_h f g) Q := by
  refine ma_met (by decide +kernel) (q_ble rfl) rfl ?_
  change ma_Ev (q_G t) 1 23 0 0 m_Mod_fits 0 [(0, q_a t (60))] [] (q_h f g) (ma_zr (q_G t) false Q)
  unfold p_Mod_fits at hp
  refine ev_iconst (pc := 0) d_Mod_fits_0 ?_
  refine ev_istore_n (pc := 1) d_Mod_fits_1 rfl (by decide) [(1, _), (0, _)] rfl ?_
  refine ev_iconst (pc := 2) d_Mod_fits_2 ?_
  refine ev_istore_n (pc := 3) d_Mod_fits_3 rfl (by decide) [(2, _), (1, _), (0, _)] rfl ?_
  refine ev_sub (ls2 := [(0, q_a t (60)), (1, ma_i (1)), (2, ma_i (0))]) [2, 1, 0] rfl ?_
  exact e_Mod_fits_4 t ok  hQ   1000 (1) (0) f g hp
theorem d_Mod_meet_0 : decode (m_c m_Mod_meet) 0 = .ok (.iload_n 1, 1) := by decide +kernel
theorem d_Mod_meet_1 : decode (m_c m_Mod_meet) 1 = .ok (.ifCond .le 25, 3) := by decide +kernel
theorem d_Mod_meet_4 : decode (m_c m_Mod_meet) 4 = .ok (.iload_n 3, 1) := by decide +kernel
theorem d_Mod_meet_5 : decode (m_c m_Mod_meet) 5 = .ok (.ifCond .le 21, 3) := by decide +kernel
theorem d_Mod_meet_8 : decode (m_c m_Mod_meet) 8 = .ok (.iload_n 0, 1) := by decide +kernel
theorem d_Mod_meet_9 : decode (m_c m_Mod_meet) 9 = .ok (.iload_n 2, 1) := by decide +kernel
theorem d_Mod_meet_10 : decode (m_c m_Mod_meet) 10 = .ok (.iload_n 3, 1) := by decide +kernel
theorem d_Mod_meet_11 : decode (m_c m_Mod_meet) 11 = .ok (.iadd, 1) := by decide +kernel
theorem d_Mod_meet_12 : decode (m_c m_Mod_meet) 12 = .ok (.if_icmp .ge 14, 3) := by decide +kernel
theorem d_Mod_meet_15 : decode (m_c m_Mod_meet) 15 = .ok (.iload_n 2, 1) := by decide +kernel
theorem d_Mod_meet_16 : decode (m_c m_Mod_meet) 16 = .ok (.iload_n 0, 1) := by decide +kernel
theorem d_Mod_meet_17 : decode (m_c m_Mod_meet) 17 = .ok (.iload_n 1, 1) := by decide +kernel
theorem d_Mod_meet_18 : decode (m_c m_Mod_meet) 18 = .ok (.iadd, 1) := by decide +kernel
theorem d_Mod_meet_19 : decode (m_c m_Mod_meet) 19 = .ok (.if_icmp .ge 7, 3) := by decide +kernel
theorem d_Mod_meet_22 : decode (m_c m_Mod_meet) 22 = .ok (.iconst 1, 1) := by decide +kernel
theorem d_Mod_meet_23 : decode (m_c m_Mod_meet) 23 = .ok (.goto 4, 3) := by decide +kernel
theorem d_Mod_meet_26 : decode (m_c m_Mod_meet) 26 = .ok (.iconst 0, 1) := by decide +kernel
theorem d_Mod_meet_27 : decode (m_c m_Mod_meet) 27 = .ok (.ireturn, 1) := by decide +kernel
def p_Mod_meet_27   (s0 : Int) (f g : q_F) : Option (Int × q_F × q_F) :=
  if s0 = 0 ∨ s0 = 1 then
    some (s0, f, g)
  else none
def p_Mod_meet_26    (f g : q_F) : Option (Int × q_F × q_F) :=
  p_Mod_meet_27   (0) f g
def p_Mod_meet  (v0 : Int) (v1 : Int) (v2 : Int) (v3 : Int) (f g : q_F) : Option (Int × q_F × q_F) :=
  if q_sw v1 ≤ 0 then
    p_Mod_meet_26    f g
  else
    if q_sw v3 ≤ 0 then
      p_Mod_meet_26    f g
    else
      if q_sw (v2 + v3) ≤ q_sw v0 then
        p_Mod_meet_26    f g
      else
        if q_sw (v0 + v1) ≤ q_sw v2 then
          p_Mod_meet_26    f g
        else
          p_Mod_meet_27   (1) f g
theorem e_Mod_meet_27 (t : q_V) (ok : ma_ok (q_G t))  {Q : Option Value → ma_H → Prop} {y : Int × q_F × q_F} (hQ : Q (some (ma_i y.1)) (q_h y.2.1 y.2.2))   (s0 : Int) (f g : q_F) (hp : p_Mod_meet_27   s0 f g = some y) : ma_Ev (q_G t) 0 0 0 0 m_Mod_meet 27 [] [ma_i (s0)] (q_h f g) (ma_zr (q_G t) false Q) := by
  unfold p_Mod_meet_27 at hp
  replace hp := q_if hp
  obtain ⟨hb1, hp⟩ := hp
  cases Option.some.inj hp
  exact et_zret (pc := 27) d_Mod_meet_27 rfl hb1 hQ
theorem e_Mod_meet_26 (t : q_V) (ok : ma_ok (q_G t))  {Q : Option Value → ma_H → Prop} {y : Int × q_F × q_F} (hQ : Q (some (ma_i y.1)) (q_h y.2.1 y.2.2))    (f g : q_F) (hp : p_Mod_meet_26    f g = some y) : ma_Ev (q_G t) 0 0 0 0 m_Mod_meet 26 [] [] (q_h f g) (ma_zr (q_G t) false Q) := by
  unfold p_Mod_meet_26 at hp
  refine ev_iconst (pc := 26) d_Mod_meet_26 ?_
  refine ev_sub (ls2 := []) [] rfl ?_
  exact e_Mod_meet_27 t ok  hQ   (0) f g hp
theorem t_Mod_meet (t : q_V) (ok : ma_ok (q_G t))  {Q : Option Value → ma_H → Prop} {y : Int × q_F × q_F} (v0 : Int) (v1 : Int) (v2 : Int) (v3 : Int) (f g : q_F) (hp : p_Mod_meet  v0 v1 v2 v3 f g = some y) (hQ : Q (some (ma_i y.1)) (q_h y.2.1 y.2.2)) : ma_Met (q_G t) false 0 0 0 0 m_Mod_meet [ma_i (v0), ma_i (v1), ma_i (v2), ma_i (v3)] (q_h f g) Q := by
  refine ma_met (by decide +kernel) (q_ble rfl) rfl ?_
  change ma_Ev (q_G t) 0 0 0 0 m_Mod_meet 0 [(0, ma_i (v0)), (1, ma_i (v1)), (2, ma_i (v2)), (3, ma_i (v3))] [] (q_h f g) (ma_zr (q_G t) false Q)
  unfold p_Mod_meet at hp
  refine ev_iload_n (pc := 0) d_Mod_meet_0 rfl rfl ?_
  refine et_if_le (pc := 1) (tgt := 26) d_Mod_meet_1 (by decide) (fun hj1 => ?_) (fun hj1 => ?_)
  · rw [if_pos hj1] at hp
    refine ev_sub (ls2 := []) [] rfl ?_
    exact e_Mod_meet_26 t ok  hQ    f g hp
  · rw [if_neg hj1] at hp
    refine ev_iload_n (pc := 4) d_Mod_meet_4 rfl rfl ?_
    refine et_if_le (pc := 5) (tgt := 26) d_Mod_meet_5 (by decide) (fun hj2 => ?_) (fun hj2 => ?_)
    · rw [if_pos hj2] at hp
      refine ev_sub (ls2 := []) [] rfl ?_
      exact e_Mod_meet_26 t ok  hQ    f g hp
    · rw [if_neg hj2] at hp
      refine ev_iload_n (pc := 8) d_Mod_meet_8 rfl rfl ?_
      refine ev_iload_n (pc := 9) d_Mod_meet_9 rfl rfl ?_
      refine ev_iload_n (pc := 10) d_Mod_meet_10 rfl rfl ?_
      refine ev_iadd (pc := 11) d_Mod_meet_11 ?_
      refine et_icmp_ge (pc := 12) (tgt := 26) d_Mod_meet_12 (by decide) (fun hj3 => ?_) (fun hj3 => ?_)
      · rw [if_pos hj3] at hp
        refine ev_sub (ls2 := []) [] rfl ?_
        exact e_Mod_meet_26 t ok  hQ    f g hp
      · rw [if_neg hj3] at hp
        refine ev_iload_n (pc := 15) d_Mod_meet_15 rfl rfl ?_
        refine ev_iload_n (pc := 16) d_Mod_meet_16 rfl rfl ?_
        refine ev_iload_n (pc := 17) d_Mod_meet_17 rfl rfl ?_
        refine ev_iadd (pc := 18) d_Mod_meet_18 ?_
        refine et_icmp_ge (pc := 19) (tgt := 26) d_Mod_meet_19 (by decide) (fun hj4 => ?_) (fun hj4 => ?_)
        · rw [if_pos hj4] at hp
          refine ev_sub (ls2 := []) [] rfl ?_
          exact e_Mod_meet_26 t ok  hQ    f g hp
        · rw [if_neg hj4] at hp
          refine ev_iconst (pc := 22) d_Mod_meet_22 ?_
          refine ev_goto (pc := 23) (tgt := 27) d_Mod_meet_23 (by decide) ?_
          refine ev_sub (ls2 := []) [] rfl ?_
          exact e_Mod_meet_27 t ok  hQ   (1) f g hp
theorem d_Mod_copied_0 : decode (m_c m_Mod_copied) 0 = .ok (.aload_n 0, 1) := by decide +kernel
theorem d_Mod_copied_1 : decode (m_c m_Mod_copied) 1 = .ok (.getfield 82, 3) := by decide +kernel
theorem d_Mod_copied_4 : decode (m_c m_Mod_copied) 4 = .ok (.iload_n 1, 1) := by decide +kernel
theorem d_Mod_copied_5 : decode (m_c m_Mod_copied) 5 = .ok (.baload, 1) := by decide +kernel
theorem d_Mod_copied_6 : decode (m_c m_Mod_copied) 6 = .ok (.ifCond .eq 31, 3) := by decide +kernel
theorem d_Mod_copied_9 : decode (m_c m_Mod_copied) 9 = .ok (.aload_n 0, 1) := by decide +kernel
theorem d_Mod_copied_10 : decode (m_c m_Mod_copied) 10 = .ok (.getfield 94, 3) := by decide +kernel
theorem d_Mod_copied_13 : decode (m_c m_Mod_copied) 13 = .ok (.iload_n 1, 1) := by decide +kernel
theorem d_Mod_copied_14 : decode (m_c m_Mod_copied) 14 = .ok (.iaload, 1) := by decide +kernel
theorem d_Mod_copied_15 : decode (m_c m_Mod_copied) 15 = .ok (.ifCond .le 22, 3) := by decide +kernel
theorem d_Mod_copied_18 : decode (m_c m_Mod_copied) 18 = .ok (.aload_n 0, 1) := by decide +kernel
theorem d_Mod_copied_19 : decode (m_c m_Mod_copied) 19 = .ok (.getfield 97, 3) := by decide +kernel
theorem d_Mod_copied_22 : decode (m_c m_Mod_copied) 22 = .ok (.iload_n 1, 1) := by decide +kernel
theorem d_Mod_copied_23 : decode (m_c m_Mod_copied) 23 = .ok (.iaload, 1) := by decide +kernel
theorem d_Mod_copied_24 : decode (m_c m_Mod_copied) 24 = .ok (.aload_n 0, 1) := by decide +kernel
theorem d_Mod_copied_25 : decode (m_c m_Mod_copied) 25 = .ok (.getfield 91, 3) := by decide +kernel
theorem d_Mod_copied_28 : decode (m_c m_Mod_copied) 28 = .ok (.iload_n 1, 1) := by decide +kernel
theorem d_Mod_copied_29 : decode (m_c m_Mod_copied) 29 = .ok (.iaload, 1) := by decide +kernel
theorem d_Mod_copied_30 : decode (m_c m_Mod_copied) 30 = .ok (.if_icmp .eq 7, 3) := by decide +kernel
theorem d_Mod_copied_33 : decode (m_c m_Mod_copied) 33 = .ok (.iconst 1, 1) := by decide +kernel
theorem d_Mod_copied_34 : decode (m_c m_Mod_copied) 34 = .ok (.goto 4, 3) := by decide +kernel
theorem d_Mod_copied_37 : decode (m_c m_Mod_copied) 37 = .ok (.iconst 0, 1) := by decide +kernel
theorem d_Mod_copied_38 : decode (m_c m_Mod_copied) 38 = .ok (.ireturn, 1) := by decide +kernel
def p_Mod_copied_38   (s0 : Int) (f g : q_F) : Option (Int × q_F × q_F) :=
  if s0 = 0 ∨ s0 = 1 then
    some (s0, f, g)
  else none
def p_Mod_copied_37    (f g : q_F) : Option (Int × q_F × q_F) :=
  p_Mod_copied_38   (0) f g
def p_Mod_copied  (v1 : Int) (f g : q_F) : Option (Int × q_F × q_F) :=
  if 0 ≤ v1 ∧ v1 < 8 then
    if q_sw (f 83 (Int.toNat v1)) = 0 then
      p_Mod_copied_37    f g
    else
      if 0 ≤ v1 ∧ v1 < 8 then
        if q_sw (f 87 (Int.toNat v1)) ≤ 0 then
          p_Mod_copied_37    f g
        else
          if 0 ≤ v1 ∧ v1 < 8 then
            if 0 ≤ v1 ∧ v1 < 8 then
              if q_sw (f 88 (Int.toNat v1)) = q_sw (f 86 (Int.toNat v1)) then
                p_Mod_copied_37    f g
              else
                p_Mod_copied_38   (1) f g
            else none
          else none
      else none
  else none
theorem e_Mod_copied_38 (t : q_V) (ok : ma_ok (q_G t))  {Q : Option Value → ma_H → Prop} {y : Int × q_F × q_F} (hQ : Q (some (ma_i y.1)) (q_h y.2.1 y.2.2))   (s0 : Int) (f g : q_F) (hp : p_Mod_copied_38   s0 f g = some y) : ma_Ev (q_G t) 0 0 0 0 m_Mod_copied 38 [] [ma_i (s0)] (q_h f g) (ma_zr (q_G t) false Q) := by
  unfold p_Mod_copied_38 at hp
  replace hp := q_if hp
  obtain ⟨hb1, hp⟩ := hp
  cases Option.some.inj hp
  exact et_zret (pc := 38) d_Mod_copied_38 rfl hb1 hQ
theorem e_Mod_copied_37 (t : q_V) (ok : ma_ok (q_G t))  {Q : Option Value → ma_H → Prop} {y : Int × q_F × q_F} (hQ : Q (some (ma_i y.1)) (q_h y.2.1 y.2.2))    (f g : q_F) (hp : p_Mod_copied_37    f g = some y) : ma_Ev (q_G t) 0 0 0 0 m_Mod_copied 37 [] [] (q_h f g) (ma_zr (q_G t) false Q) := by
  unfold p_Mod_copied_37 at hp
  refine ev_iconst (pc := 37) d_Mod_copied_37 ?_
  refine ev_sub (ls2 := []) [] rfl ?_
  exact e_Mod_copied_38 t ok  hQ   (0) f g hp
theorem t_Mod_copied (t : q_V) (ok : ma_ok (q_G t))  {Q : Option Value → ma_H → Prop} {y : Int × q_F × q_F} (v1 : Int) (f g : q_F) (hp : p_Mod_copied  v1 f g = some y) (hQ : Q (some (ma_i y.1)) (q_h y.2.1 y.2.2)) : ma_Met (q_G t) false 0 0 0 0 m_Mod_copied [q_a t (60), ma_i (v1)] (q_h f g) Q := by
  refine ma_met (by decide +kernel) (q_ble rfl) rfl ?_
  change ma_Ev (q_G t) 0 0 0 0 m_Mod_copied 0 [(0, q_a t (60)), (1, ma_i (v1))] [] (q_h f g) (ma_zr (q_G t) false Q)
  unfold p_Mod_copied at hp
  refine et_aload_n (pc := 0) d_Mod_copied_0 rfl rfl ?_
  refine et_getr (pc := 1) ok (fl_Mod_82 t) rfl d_Mod_copied_1 s_60 r_60_31 ?_
  refine ev_iload_n (pc := 4) d_Mod_copied_4 rfl rfl ?_
  replace hp := q_if hp
  obtain ⟨hb1, hp⟩ := hp
  refine et_zald (pc := 5) d_Mod_copied_5 s_83 hb1 (by decide) ?_
  refine et_if_eq (pc := 6) (tgt := 37) d_Mod_copied_6 (by decide) (fun hj2 => ?_) (fun hj2 => ?_)
  · rw [if_pos hj2] at hp
    refine ev_sub (ls2 := []) [] rfl ?_
    exact e_Mod_copied_37 t ok  hQ    f g hp
  · rw [if_neg hj2] at hp
    refine et_aload_n (pc := 9) d_Mod_copied_9 rfl rfl ?_
    refine et_getr (pc := 10) ok (fl_Mod_94 t) rfl d_Mod_copied_10 s_60 r_60_35 ?_
    refine ev_iload_n (pc := 13) d_Mod_copied_13 rfl rfl ?_
    replace hp := q_if hp
    obtain ⟨hb3, hp⟩ := hp
    refine et_iald (pc := 14) d_Mod_copied_14 s_87 hb3 (by decide) ?_
    refine et_if_le (pc := 15) (tgt := 37) d_Mod_copied_15 (by decide) (fun hj4 => ?_) (fun hj4 => ?_)
    · rw [if_pos hj4] at hp
      refine ev_sub (ls2 := []) [] rfl ?_
      exact e_Mod_copied_37 t ok  hQ    f g hp
    · rw [if_neg hj4] at hp
      refine et_aload_n (pc := 18) d_Mod_copied_18 rfl rfl ?_
      refine et_getr (pc := 19) ok (fl_Mod_97 t) rfl d_Mod_copied_19 s_60 r_60_36 ?_
      refine ev_iload_n (pc := 22) d_Mod_copied_22 rfl rfl ?_
      replace hp := q_if hp
      obtain ⟨hb5, hp⟩ := hp
      refine et_iald (pc := 23) d_Mod_copied_23 s_88 hb5 (by decide) ?_
      refine et_aload_n (pc := 24) d_Mod_copied_24 rfl rfl ?_
      refine et_getr (pc := 25) ok (fl_Mod_91 t) rfl d_Mod_copied_25 s_60 r_60_34 ?_
      refine ev_iload_n (pc := 28) d_Mod_copied_28 rfl rfl ?_
      replace hp := q_if hp
      obtain ⟨hb6, hp⟩ := hp
      refine et_iald (pc := 29) d_Mod_copied_29 s_86 hb6 (by decide) ?_
      refine et_icmp_eq (pc := 30) (tgt := 37) d_Mod_copied_30 (by decide) (fun hj7 => ?_) (fun hj7 => ?_)
      · rw [if_pos hj7] at hp
        refine ev_sub (ls2 := []) [] rfl ?_
        exact e_Mod_copied_37 t ok  hQ    f g hp
      · rw [if_neg hj7] at hp
        refine ev_iconst (pc := 33) d_Mod_copied_33 ?_
        refine ev_goto (pc := 34) (tgt := 38) d_Mod_copied_34 (by decide) ?_
        refine ev_sub (ls2 := []) [] rfl ?_
        exact e_Mod_copied_38 t ok  hQ   (1) f g hp
theorem d_Mod_apart_0 : decode (m_c m_Mod_apart) 0 = .ok (.iconst 1, 1) := by decide +kernel
theorem d_Mod_apart_1 : decode (m_c m_Mod_apart) 1 = .ok (.istore_n 1, 1) := by decide +kernel
theorem d_Mod_apart_2 : decode (m_c m_Mod_apart) 2 = .ok (.iconst 0, 1) := by decide +kernel
theorem d_Mod_apart_3 : decode (m_c m_Mod_apart) 3 = .ok (.istore_n 2, 1) := by decide +kernel
theorem d_Mod_apart_4 : decode (m_c m_Mod_apart) 4 = .ok (.iload_n 2, 1) := by decide +kernel
theorem d_Mod_apart_5 : decode (m_c m_Mod_apart) 5 = .ok (.aload_n 0, 1) := by decide +kernel
theorem d_Mod_apart_6 : decode (m_c m_Mod_apart) 6 = .ok (.getfield 196, 3) := by decide +kernel
theorem d_Mod_apart_9 : decode (m_c m_Mod_apart) 9 = .ok (.if_icmp .ge 136, 3) := by decide +kernel
theorem d_Mod_apart_12 : decode (m_c m_Mod_apart) 12 = .ok (.iconst 0, 1) := by decide +kernel
theorem d_Mod_apart_13 : decode (m_c m_Mod_apart) 13 = .ok (.istore_n 3, 1) := by decide +kernel
theorem d_Mod_apart_14 : decode (m_c m_Mod_apart) 14 = .ok (.iload_n 3, 1) := by decide +kernel
theorem d_Mod_apart_15 : decode (m_c m_Mod_apart) 15 = .ok (.iload_n 2, 1) := by decide +kernel
theorem d_Mod_apart_16 : decode (m_c m_Mod_apart) 16 = .ok (.if_icmp .ge 123, 3) := by decide +kernel
theorem d_Mod_apart_19 : decode (m_c m_Mod_apart) 19 = .ok (.aload_n 0, 1) := by decide +kernel
theorem d_Mod_apart_20 : decode (m_c m_Mod_apart) 20 = .ok (.getfield 58, 3) := by decide +kernel
theorem d_Mod_apart_23 : decode (m_c m_Mod_apart) 23 = .ok (.iload_n 2, 1) := by decide +kernel
theorem d_Mod_apart_24 : decode (m_c m_Mod_apart) 24 = .ok (.iaload, 1) := by decide +kernel
theorem d_Mod_apart_25 : decode (m_c m_Mod_apart) 25 = .ok (.istore 4, 2) := by decide +kernel
theorem d_Mod_apart_27 : decode (m_c m_Mod_apart) 27 = .ok (.aload_n 0, 1) := by decide +kernel
theorem d_Mod_apart_28 : decode (m_c m_Mod_apart) 28 = .ok (.getfield 58, 3) := by decide +kernel
theorem d_Mod_apart_31 : decode (m_c m_Mod_apart) 31 = .ok (.iload_n 3, 1) := by decide +kernel
theorem d_Mod_apart_32 : decode (m_c m_Mod_apart) 32 = .ok (.iaload, 1) := by decide +kernel
theorem d_Mod_apart_33 : decode (m_c m_Mod_apart) 33 = .ok (.istore 5, 2) := by decide +kernel
theorem d_Mod_apart_35 : decode (m_c m_Mod_apart) 35 = .ok (.iload_n 1, 1) := by decide +kernel
theorem d_Mod_apart_36 : decode (m_c m_Mod_apart) 36 = .ok (.ifCond .eq 95, 3) := by decide +kernel
theorem d_Mod_apart_39 : decode (m_c m_Mod_apart) 39 = .ok (.aload_n 0, 1) := by decide +kernel
theorem d_Mod_apart_40 : decode (m_c m_Mod_apart) 40 = .ok (.getfield 91, 3) := by decide +kernel
theorem d_Mod_apart_43 : decode (m_c m_Mod_apart) 43 = .ok (.iload 4, 2) := by decide +kernel
theorem d_Mod_apart_45 : decode (m_c m_Mod_apart) 45 = .ok (.iaload, 1) := by decide +kernel
theorem d_Mod_apart_46 : decode (m_c m_Mod_apart) 46 = .ok (.aload_n 0, 1) := by decide +kernel
theorem d_Mod_apart_47 : decode (m_c m_Mod_apart) 47 = .ok (.getfield 94, 3) := by decide +kernel
theorem d_Mod_apart_50 : decode (m_c m_Mod_apart) 50 = .ok (.iload 4, 2) := by decide +kernel
theorem d_Mod_apart_52 : decode (m_c m_Mod_apart) 52 = .ok (.iaload, 1) := by decide +kernel
theorem d_Mod_apart_53 : decode (m_c m_Mod_apart) 53 = .ok (.aload_n 0, 1) := by decide +kernel
theorem d_Mod_apart_54 : decode (m_c m_Mod_apart) 54 = .ok (.getfield 91, 3) := by decide +kernel
theorem d_Mod_apart_57 : decode (m_c m_Mod_apart) 57 = .ok (.iload 5, 2) := by decide +kernel
theorem d_Mod_apart_59 : decode (m_c m_Mod_apart) 59 = .ok (.iaload, 1) := by decide +kernel
theorem d_Mod_apart_60 : decode (m_c m_Mod_apart) 60 = .ok (.aload_n 0, 1) := by decide +kernel
theorem d_Mod_apart_61 : decode (m_c m_Mod_apart) 61 = .ok (.getfield 94, 3) := by decide +kernel
theorem d_Mod_apart_64 : decode (m_c m_Mod_apart) 64 = .ok (.iload 5, 2) := by decide +kernel
theorem d_Mod_apart_66 : decode (m_c m_Mod_apart) 66 = .ok (.iaload, 1) := by decide +kernel
theorem d_Mod_apart_67 : decode (m_c m_Mod_apart) 67 = .ok (.invokestatic 253, 3) := by decide +kernel
theorem d_Mod_apart_70 : decode (m_c m_Mod_apart) 70 = .ok (.ifCond .ne 61, 3) := by decide +kernel
theorem d_Mod_apart_73 : decode (m_c m_Mod_apart) 73 = .ok (.aload_n 0, 1) := by decide +kernel
theorem d_Mod_apart_74 : decode (m_c m_Mod_apart) 74 = .ok (.getfield 82, 3) := by decide +kernel
theorem d_Mod_apart_77 : decode (m_c m_Mod_apart) 77 = .ok (.iload 4, 2) := by decide +kernel
theorem d_Mod_apart_79 : decode (m_c m_Mod_apart) 79 = .ok (.baload, 1) := by decide +kernel
theorem d_Mod_apart_80 : decode (m_c m_Mod_apart) 80 = .ok (.ifCond .eq 47, 3) := by decide +kernel
theorem d_Mod_apart_83 : decode (m_c m_Mod_apart) 83 = .ok (.aload_n 0, 1) := by decide +kernel
theorem d_Mod_apart_84 : decode (m_c m_Mod_apart) 84 = .ok (.getfield 82, 3) := by decide +kernel
theorem d_Mod_apart_87 : decode (m_c m_Mod_apart) 87 = .ok (.iload 5, 2) := by decide +kernel
theorem d_Mod_apart_89 : decode (m_c m_Mod_apart) 89 = .ok (.baload, 1) := by decide +kernel
theorem d_Mod_apart_90 : decode (m_c m_Mod_apart) 90 = .ok (.ifCond .eq 37, 3) := by decide +kernel
theorem d_Mod_apart_93 : decode (m_c m_Mod_apart) 93 = .ok (.aload_n 0, 1) := by decide +kernel
theorem d_Mod_apart_94 : decode (m_c m_Mod_apart) 94 = .ok (.getfield 97, 3) := by decide +kernel
theorem d_Mod_apart_97 : decode (m_c m_Mod_apart) 97 = .ok (.iload 4, 2) := by decide +kernel
theorem d_Mod_apart_99 : decode (m_c m_Mod_apart) 99 = .ok (.iaload, 1) := by decide +kernel
theorem d_Mod_apart_100 : decode (m_c m_Mod_apart) 100 = .ok (.aload_n 0, 1) := by decide +kernel
theorem d_Mod_apart_101 : decode (m_c m_Mod_apart) 101 = .ok (.getfield 94, 3) := by decide +kernel
theorem d_Mod_apart_104 : decode (m_c m_Mod_apart) 104 = .ok (.iload 4, 2) := by decide +kernel
theorem d_Mod_apart_106 : decode (m_c m_Mod_apart) 106 = .ok (.iaload, 1) := by decide +kernel
theorem d_Mod_apart_107 : decode (m_c m_Mod_apart) 107 = .ok (.aload_n 0, 1) := by decide +kernel
theorem d_Mod_apart_108 : decode (m_c m_Mod_apart) 108 = .ok (.getfield 97, 3) := by decide +kernel
theorem d_Mod_apart_111 : decode (m_c m_Mod_apart) 111 = .ok (.iload 5, 2) := by decide +kernel
theorem d_Mod_apart_113 : decode (m_c m_Mod_apart) 113 = .ok (.iaload, 1) := by decide +kernel
theorem d_Mod_apart_114 : decode (m_c m_Mod_apart) 114 = .ok (.aload_n 0, 1) := by decide +kernel
theorem d_Mod_apart_115 : decode (m_c m_Mod_apart) 115 = .ok (.getfield 94, 3) := by decide +kernel
theorem d_Mod_apart_118 : decode (m_c m_Mod_apart) 118 = .ok (.iload 5, 2) := by decide +kernel
theorem d_Mod_apart_120 : decode (m_c m_Mod_apart) 120 = .ok (.iaload, 1) := by decide +kernel
theorem d_Mod_apart_121 : decode (m_c m_Mod_apart) 121 = .ok (.invokestatic 253, 3) := by decide +kernel
theorem d_Mod_apart_124 : decode (m_c m_Mod_apart) 124 = .ok (.ifCond .ne 7, 3) := by decide +kernel
theorem d_Mod_apart_127 : decode (m_c m_Mod_apart) 127 = .ok (.iconst 1, 1) := by decide +kernel
theorem d_Mod_apart_128 : decode (m_c m_Mod_apart) 128 = .ok (.goto 4, 3) := by decide +kernel
theorem d_Mod_apart_131 : decode (m_c m_Mod_apart) 131 = .ok (.iconst 0, 1) := by decide +kernel
theorem d_Mod_apart_132 : decode (m_c m_Mod_apart) 132 = .ok (.istore_n 1, 1) := by decide +kernel
theorem d_Mod_apart_133 : decode (m_c m_Mod_apart) 133 = .ok (.iinc 3 1, 3) := by decide +kernel
theorem d_Mod_apart_136 : decode (m_c m_Mod_apart) 136 = .ok (.goto (-122), 3) := by decide +kernel
theorem d_Mod_apart_139 : decode (m_c m_Mod_apart) 139 = .ok (.iinc 2 1, 3) := by decide +kernel
theorem d_Mod_apart_142 : decode (m_c m_Mod_apart) 142 = .ok (.goto (-138), 3) := by decide +kernel
theorem d_Mod_apart_145 : decode (m_c m_Mod_apart) 145 = .ok (.iload_n 1, 1) := by decide +kernel
theorem d_Mod_apart_146 : decode (m_c m_Mod_apart) 146 = .ok (.ireturn, 1) := by decide +kernel
def p_Mod_apart_132  (c4 : Int → Int → q_F → q_F → Option (Int × q_F × q_F)) (c14 : Int → Int → Int → q_F → q_F → Option (Int × q_F × q_F)) (v2 : Int) (v3 : Int) (s0 : Int) (f g : q_F) : Option (Int × q_F × q_F) :=
  q_let (v3 + 1) fun z1 =>
  c14 (s0) (v2) (z1) f g
def p_Mod_apart_131  (c4 : Int → Int → q_F → q_F → Option (Int × q_F × q_F)) (c14 : Int → Int → Int → q_F → q_F → Option (Int × q_F × q_F)) (v2 : Int) (v3 : Int) (f g : q_F) : Option (Int × q_F × q_F) :=
  p_Mod_apart_132  c4 c14 (v2) (v3) (0) f g
def p_Mod_apart_127  (c4 : Int → Int → q_F → q_F → Option (Int × q_F × q_F)) (c14 : Int → Int → Int → q_F → q_F → Option (Int × q_F × q_F)) (v2 : Int) (v3 : Int) (f g : q_F) : Option (Int × q_F × q_F) :=
  p_Mod_apart_132  c4 c14 (v2) (v3) (1) f g
def p_Mod_apart_14  (c4 : Int → Int → q_F → q_F → Option (Int × q_F × q_F)) : Nat → Int → Int → Int → q_F → q_F → Option (Int × q_F × q_F)
  | 0, _, _, _, _, _ => none
  | n + 1, v1, v2, v3, f, g =>
    if q_sw v2 ≤ q_sw v3 then
      q_let (v2 + 1) fun z2 =>
      c4 (v1) (z2) f g
    else
      if 0 ≤ v2 ∧ v2 < 8 then
        q_let (f 75 (Int.toNat v2)) fun z4 =>
        if 0 ≤ v3 ∧ v3 < 8 then
          q_let (f 75 (Int.toNat v3)) fun z6 =>
          if q_sw v1 = 0 then
            p_Mod_apart_131  c4 (p_Mod_apart_14  c4 n) (v2) (v3) f g
          else
            if 0 ≤ z4 ∧ z4 < 8 then
              if 0 ≤ z4 ∧ z4 < 8 then
                if 0 ≤ z6 ∧ z6 < 8 then
                  if 0 ≤ z6 ∧ z6 < 8 then
                    (p_Mod_meet (f 86 (Int.toNat z4)) (f 87 (Int.toNat z4)) (f 86 (Int.toNat z6)) (f 87 (Int.toNat z6)) f g).bind fun x12 =>
                    if q_sw x12.1 = 0 then
                      if 0 ≤ z4 ∧ z4 < 8 then
                        if q_sw (x12.2.1 83 (Int.toNat z4)) = 0 then
                          p_Mod_apart_127  c4 (p_Mod_apart_14  c4 n) (v2) (v3) x12.2.1 x12.2.2
                        else
                          if 0 ≤ z6 ∧ z6 < 8 then
                            if q_sw (x12.2.1 83 (Int.toNat z6)) = 0 then
                              p_Mod_apart_127  c4 (p_Mod_apart_14  c4 n) (v2) (v3) x12.2.1 x12.2.2
                            else
                              if 0 ≤ z4 ∧ z4 < 8 then
                                if 0 ≤ z4 ∧ z4 < 8 then
                                  if 0 ≤ z6 ∧ z6 < 8 then
                                    if 0 ≤ z6 ∧ z6 < 8 then
                                      (p_Mod_meet (x12.2.1 88 (Int.toNat z4)) (x12.2.1 87 (Int.toNat z4)) (x12.2.1 88 (Int.toNat z6)) (x12.2.1 87 (Int.toNat z6)) x12.2.1 x12.2.2).bind fun x23 =>
                                      if q_sw x23.1 = 0 then
                                        p_Mod_apart_127  c4 (p_Mod_apart_14  c4 n) (v2) (v3) x23.2.1 x23.2.2
                                      else
                                        p_Mod_apart_131  c4 (p_Mod_apart_14  c4 n) (v2) (v3) x23.2.1 x23.2.2
                                    else none
                                  else none
                                else none
                              else none
                          else none
                      else none
                    else
                      p_Mod_apart_131  c4 (p_Mod_apart_14  c4 n) (v2) (v3) x12.2.1 x12.2.2
                  else none
                else none
              else none
            else none
        else none
      else none
def p_Mod_apart_4   : Nat → Int → Int → q_F → q_F → Option (Int × q_F × q_F)
  | 0, _, _, _, _ => none
  | n + 1, v1, v2, f, g =>
    if q_sw (f 60 22) ≤ q_sw v2 then
      if v1 = 0 ∨ v1 = 1 then
        some (v1, f, g)
      else none
    else
      p_Mod_apart_14  (p_Mod_apart_4   n) 1000 (v1) (v2) (0) f g
def p_Mod_apart   (f g : q_F) : Option (Int × q_F × q_F) :=
  p_Mod_apart_4   1000 (1) (0) f g
theorem e_Mod_apart_132 (t : q_V) (ok : ma_ok (q_G t))  {Q : Option Value → ma_H → Prop} {y : Int × q_F × q_F} (hQ : Q (some (ma_i y.1)) (q_h y.2.1 y.2.2)) (c4 : Int → Int → q_F → q_F → Option (Int × q_F × q_F)) (c14 : Int → Int → Int → q_F → q_F → Option (Int × q_F × q_F)) (hc4 : ∀ (v1 : Int) (v2 : Int) (f g : q_F), c4 v1 v2 f g = some y → ma_Ev (q_G t) 1 23 0 0 m_Mod_apart 4 [(0, q_a t (60)), (1, ma_i (v1)), (2, ma_i (v2))] [] (q_h f g) (ma_zr (q_G t) false Q)) (hc14 : ∀ (v1 : Int) (v2 : Int) (v3 : Int) (f g : q_F), c14 v1 v2 v3 f g = some y → ma_Ev (q_G t) 1 23 0 0 m_Mod_apart 14 [(0, q_a t (60)), (1, ma_i (v1)), (2, ma_i (v2)), (3, ma_i (v3))] [] (q_h f g) (ma_zr (q_G t) false Q)) (v2 : Int) (v3 : Int) (s0 : Int) (f g : q_F) (hp : p_Mod_apart_132  c4 c14 v2 v3 s0 f g = some y) : ma_Ev (q_G t) 1 23 0 0 m_Mod_apart 132 [(0, q_a t (60)), (2, ma_i (v2)), (3, ma_i (v3))] [ma_i (s0)] (q_h f g) (ma_zr (q_G t) false Q) := by
  unfold p_Mod_apart_132 at hp
  refine ev_istore_n (pc := 132) d_Mod_apart_132 rfl (by decide) [(1, _), (0, _), (2, _), (3, _)] rfl ?_
  refine ev_iinc (pc := 133) d_Mod_apart_133 (by decide) rfl [(3, _), (1, _), (0, _), (2, _)] rfl ?_
  replace hp := q_let_of hp
  obtain ⟨z1, hz, hp⟩ := hp
  rw [← hz]
  clear hz
  refine ev_goto (pc := 136) (tgt := 14) d_Mod_apart_136 (by decide) ?_
  refine ev_sub (ls2 := [(0, q_a t (60)), (1, ma_i (s0)), (2, ma_i (v2)), (3, ma_i (z1))]) [2, 1, 3, 0] rfl ?_
  exact hc14 (s0) (v2) (z1) f g hp
theorem e_Mod_apart_131 (t : q_V) (ok : ma_ok (q_G t))  {Q : Option Value → ma_H → Prop} {y : Int × q_F × q_F} (hQ : Q (some (ma_i y.1)) (q_h y.2.1 y.2.2)) (c4 : Int → Int → q_F → q_F → Option (Int × q_F × q_F)) (c14 : Int → Int → Int → q_F → q_F → Option (Int × q_F × q_F)) (hc4 : ∀ (v1 : Int) (v2 : Int) (f g : q_F), c4 v1 v2 f g = some y → ma_Ev (q_G t) 1 23 0 0 m_Mod_apart 4 [(0, q_a t (60)), (1, ma_i (v1)), (2, ma_i (v2))] [] (q_h f g) (ma_zr (q_G t) false Q)) (hc14 : ∀ (v1 : Int) (v2 : Int) (v3 : Int) (f g : q_F), c14 v1 v2 v3 f g = some y → ma_Ev (q_G t) 1 23 0 0 m_Mod_apart 14 [(0, q_a t (60)), (1, ma_i (v1)), (2, ma_i (v2)), (3, ma_i (v3))] [] (q_h f g) (ma_zr (q_G t) false Q)) (v2 : Int) (v3 : Int) (f g : q_F) (hp : p_Mod_apart_131  c4 c14 v2 v3 f g = some y) : ma_Ev (q_G t) 1 23 0 0 m_Mod_apart 131 [(0, q_a t (60)), (2, ma_i (v2)), (3, ma_i (v3))] [] (q_h f g) (ma_zr (q_G t) false Q) := by
  unfold p_Mod_apart_131 at hp
  refine ev_iconst (pc := 131) d_Mod_apart_131 ?_
  refine ev_sub (ls2 := [(0, q_a t (60)), (2, ma_i (v2)), (3, ma_i (v3))]) [0, 1, 2] rfl ?_
  exact e_Mod_apart_132 t ok  hQ c4 c14 hc4 hc14 (v2) (v3) (0) f g hp
theorem e_Mod_apart_127 (t : q_V) (ok : ma_ok (q_G t))  {Q : Option Value → ma_H → Prop} {y : Int × q_F × q_F} (hQ : Q (some (ma_i y.1)) (q_h y.2.1 y.2.2)) (c4 : Int → Int → q_F → q_F → Option (Int × q_F × q_F)) (c14 : Int → Int → Int → q_F → q_F → Option (Int × q_F × q_F)) (hc4 : ∀ (v1 : Int) (v2 : Int) (f g : q_F), c4 v1 v2 f g = some y → ma_Ev (q_G t) 1 23 0 0 m_Mod_apart 4 [(0, q_a t (60)), (1, ma_i (v1)), (2, ma_i (v2))] [] (q_h f g) (ma_zr (q_G t) false Q)) (hc14 : ∀ (v1 : Int) (v2 : Int) (v3 : Int) (f g : q_F), c14 v1 v2 v3 f g = some y → ma_Ev (q_G t) 1 23 0 0 m_Mod_apart 14 [(0, q_a t (60)), (1, ma_i (v1)), (2, ma_i (v2)), (3, ma_i (v3))] [] (q_h f g) (ma_zr (q_G t) false Q)) (v2 : Int) (v3 : Int) (f g : q_F) (hp : p_Mod_apart_127  c4 c14 v2 v3 f g = some y) : ma_Ev (q_G t) 1 23 0 0 m_Mod_apart 127 [(0, q_a t (60)), (2, ma_i (v2)), (3, ma_i (v3))] [] (q_h f g) (ma_zr (q_G t) false Q) := by
  unfold p_Mod_apart_127 at hp
  refine ev_iconst (pc := 127) d_Mod_apart_127 ?_
  refine ev_goto (pc := 128) (tgt := 132) d_Mod_apart_128 (by decide) ?_
  refine ev_sub (ls2 := [(0, q_a t (60)), (2, ma_i (v2)), (3, ma_i (v3))]) [0, 1, 2] rfl ?_
  exact e_Mod_apart_132 t ok  hQ c4 c14 hc4 hc14 (v2) (v3) (1) f g hp
theorem e_Mod_apart_14 (t : q_V) (ok : ma_ok (q_G t))  {Q : Option Value → ma_H → Prop} {y : Int × q_F × q_F} (hQ : Q (some (ma_i y.1)) (q_h y.2.1 y.2.2)) (c4 : Int → Int → q_F → q_F → Option (Int × q_F × q_F)) (hc4 : ∀ (v1 : Int) (v2 : Int) (f g : q_F), c4 v1 v2 f g = some y → ma_Ev (q_G t) 1 23 0 0 m_Mod_apart 4 [(0, q_a t (60)), (1, ma_i (v1)), (2, ma_i (v2))] [] (q_h f g) (ma_zr (q_G t) false Q)) : ∀ (n : Nat) (v1 : Int) (v2 : Int) (v3 : Int) (f g : q_F), p_Mod_apart_14  c4 n v1 v2 v3 f g = some y → ma_Ev (q_G t) 1 23 0 0 m_Mod_apart 14 [(0, q_a t (60)), (1, ma_i (v1)), (2, ma_i (v2)), (3, ma_i (v3))] [] (q_h f g) (ma_zr (q_G t) false Q) := by
  intro n
  induction n with
  | zero =>
    intro v1 v2 v3 f g hp
    rw [p_Mod_apart_14] at hp
    cases hp
  | succ n ih =>
    intro v1 v2 v3 f g hp
    rw [p_Mod_apart_14] at hp
    refine ev_iload_n (pc := 14) d_Mod_apart_14 rfl rfl ?_
    refine ev_iload_n (pc := 15) d_Mod_apart_15 rfl rfl ?_
    refine et_icmp_ge (pc := 16) (tgt := 139) d_Mod_apart_16 (by decide) (fun hj1 => ?_) (fun hj1 => ?_)
    · rw [if_pos hj1] at hp
      refine ev_iinc (pc := 139) d_Mod_apart_139 (by decide) rfl [(2, _), (0, _), (1, _), (3, _)] rfl ?_
      replace hp := q_let_of hp
      obtain ⟨z2, hz, hp⟩ := hp
      rw [← hz]
      clear hz
      refine ev_goto (pc := 142) (tgt := 4) d_Mod_apart_142 (by decide) ?_
      refine ev_sub (ls2 := [(0, q_a t (60)), (1, ma_i (v1)), (2, ma_i (z2))]) [1, 2, 0] rfl ?_
      exact hc4 (v1) (z2) f g hp
    · rw [if_neg hj1] at hp
      refine et_aload_n (pc := 19) d_Mod_apart_19 rfl rfl ?_
      refine et_getr (pc := 20) ok (fl_Mod_58 t) rfl d_Mod_apart_20 s_60 r_60_23 ?_
      refine ev_iload_n (pc := 23) d_Mod_apart_23 rfl rfl ?_
      replace hp := q_if hp
      obtain ⟨hb3, hp⟩ := hp
      refine et_iald (pc := 24) d_Mod_apart_24 s_75 hb3 (by decide) ?_
      refine ev_istore (pc := 25) d_Mod_apart_25 (by decide) [(4, _), (0, _), (1, _), (2, _), (3, _)] rfl ?_
      replace hp := q_let_of hp
      obtain ⟨z4, hz, hp⟩ := hp
      rw [← hz]
      clear hz
      refine et_aload_n (pc := 27) d_Mod_apart_27 rfl rfl ?_
      refine et_getr (pc := 28) ok (fl_Mod_58 t) rfl d_Mod_apart_28 s_60 r_60_23 ?_
      refine ev_iload_n (pc := 31) d_Mod_apart_31 rfl rfl ?_
      replace hp := q_if hp
      obtain ⟨hb5, hp⟩ := hp
      refine et_iald (pc := 32) d_Mod_apart_32 s_75 hb5 (by decide) ?_
      refine ev_istore (pc := 33) d_Mod_apart_33 (by decide) [(5, _), (4, _), (0, _), (1, _), (2, _), (3, _)] rfl ?_
      replace hp := q_let_of hp
      obtain ⟨z6, hz, hp⟩ := hp
      rw [← hz]
      clear hz
      refine ev_iload_n (pc := 35) d_Mod_apart_35 rfl rfl ?_
      refine et_if_eq (pc := 36) (tgt := 131) d_Mod_apart_36 (by decide) (fun hj7 => ?_) (fun hj7 => ?_)
      · rw [if_pos hj7] at hp
        refine ev_sub (ls2 := [(0, q_a t (60)), (2, ma_i (v2)), (3, ma_i (v3))]) [2, 4, 5] rfl ?_
        exact e_Mod_apart_131 t ok  hQ c4 (p_Mod_apart_14  c4 n) hc4 ih (v2) (v3) f g hp
      · rw [if_neg hj7] at hp
        refine et_aload_n (pc := 39) d_Mod_apart_39 rfl rfl ?_
        refine et_getr (pc := 40) ok (fl_Mod_91 t) rfl d_Mod_apart_40 s_60 r_60_34 ?_
        refine ev_iload (pc := 43) d_Mod_apart_43 rfl ?_
        replace hp := q_if hp
        obtain ⟨hb8, hp⟩ := hp
        refine et_iald (pc := 45) d_Mod_apart_45 s_86 hb8 (by decide) ?_
        refine et_aload_n (pc := 46) d_Mod_apart_46 rfl rfl ?_
        refine et_getr (pc := 47) ok (fl_Mod_94 t) rfl d_Mod_apart_47 s_60 r_60_35 ?_
        refine ev_iload (pc := 50) d_Mod_apart_50 rfl ?_
        replace hp := q_if hp
        obtain ⟨hb9, hp⟩ := hp
        refine et_iald (pc := 52) d_Mod_apart_52 s_87 hb9 (by decide) ?_
        refine et_aload_n (pc := 53) d_Mod_apart_53 rfl rfl ?_
        refine et_getr (pc := 54) ok (fl_Mod_91 t) rfl d_Mod_apart_54 s_60 r_60_34 ?_
        refine ev_iload (pc := 57) d_Mod_apart_57 rfl ?_
        replace hp := q_if hp
        obtain ⟨hb10, hp⟩ := hp
        refine et_iald (pc := 59) d_Mod_apart_59 s_86 hb10 (by decide) ?_
        refine et_aload_n (pc := 60) d_Mod_apart_60 rfl rfl ?_
        refine et_getr (pc := 61) ok (fl_Mod_94 t) rfl d_Mod_apart_61 s_60 r_60_35 ?_
        refine ev_iload (pc := 64) d_Mod_apart_64 rfl ?_
        replace hp := q_if hp
        obtain ⟨hb11, hp⟩ := hp
        refine et_iald (pc := 66) d_Mod_apart_66 s_87 hb11 (by decide) ?_
        replace hp := q_bind hp
        obtain ⟨x12, hm13, hp⟩ := hp
        refine et_callSi (pc := 67) (f1 := x12.2.1) (g1 := x12.2.2) ok [ma_i (f 86 (Int.toNat z4)), ma_i (f 87 (Int.toNat z4)), ma_i (f 86 (Int.toNat z6)), ma_i (f 87 (Int.toNat z6))] [] (cf_Mod_253 t) d_Mod_apart_67 (t_Mod_meet t ok (f 86 (Int.toNat z4)) (f 87 (Int.toNat z4)) (f 86 (Int.toNat z6)) (f 87 (Int.toNat z6)) f g hm13 ⟨rfl, rfl⟩) rfl rfl (by decide) (by decide) (q_ble rfl) ?_
        refine et_if_ne (pc := 70) (tgt := 131) d_Mod_apart_70 (by decide) (fun hj14 => ?_) (fun hj14 => ?_)
        · rw [if_neg hj14] at hp
          refine ev_sub (ls2 := [(0, q_a t (60)), (2, ma_i (v2)), (3, ma_i (v3))]) [2, 4, 5] rfl ?_
          exact e_Mod_apart_131 t ok  hQ c4 (p_Mod_apart_14  c4 n) hc4 ih (v2) (v3) x12.2.1 x12.2.2 hp
        · rw [if_pos hj14] at hp
          refine et_aload_n (pc := 73) d_Mod_apart_73 rfl rfl ?_
          refine et_getr (pc := 74) ok (fl_Mod_82 t) rfl d_Mod_apart_74 s_60 r_60_31 ?_
          refine ev_iload (pc := 77) d_Mod_apart_77 rfl ?_
          replace hp := q_if hp
          obtain ⟨hb15, hp⟩ := hp
          refine et_zald (pc := 79) d_Mod_apart_79 s_83 hb15 (by decide) ?_
          refine et_if_eq (pc := 80) (tgt := 127) d_Mod_apart_80 (by decide) (fun hj16 => ?_) (fun hj16 => ?_)
          · rw [if_pos hj16] at hp
            refine ev_sub (ls2 := [(0, q_a t (60)), (2, ma_i (v2)), (3, ma_i (v3))]) [2, 4, 5] rfl ?_
            exact e_Mod_apart_127 t ok  hQ c4 (p_Mod_apart_14  c4 n) hc4 ih (v2) (v3) x12.2.1 x12.2.2 hp
          · rw [if_neg hj16] at hp
            refine et_aload_n (pc := 83) d_Mod_apart_83 rfl rfl ?_
            refine et_getr (pc := 84) ok (fl_Mod_82 t) rfl d_Mod_apart_84 s_60 r_60_31 ?_
            refine ev_iload (pc := 87) d_Mod_apart_87 rfl ?_
            replace hp := q_if hp
            obtain ⟨hb17, hp⟩ := hp
            refine et_zald (pc := 89) d_Mod_apart_89 s_83 hb17 (by decide) ?_
            refine et_if_eq (pc := 90) (tgt := 127) d_Mod_apart_90 (by decide) (fun hj18 => ?_) (fun hj18 => ?_)
            · rw [if_pos hj18] at hp
              refine ev_sub (ls2 := [(0, q_a t (60)), (2, ma_i (v2)), (3, ma_i (v3))]) [2, 4, 5] rfl ?_
              exact e_Mod_apart_127 t ok  hQ c4 (p_Mod_apart_14  c4 n) hc4 ih (v2) (v3) x12.2.1 x12.2.2 hp
            · rw [if_neg hj18] at hp
              refine et_aload_n (pc := 93) d_Mod_apart_93 rfl rfl ?_
              refine et_getr (pc := 94) ok (fl_Mod_97 t) rfl d_Mod_apart_94 s_60 r_60_36 ?_
              refine ev_iload (pc := 97) d_Mod_apart_97 rfl ?_
              replace hp := q_if hp
              obtain ⟨hb19, hp⟩ := hp
              refine et_iald (pc := 99) d_Mod_apart_99 s_88 hb19 (by decide) ?_
              refine et_aload_n (pc := 100) d_Mod_apart_100 rfl rfl ?_
              refine et_getr (pc := 101) ok (fl_Mod_94 t) rfl d_Mod_apart_101 s_60 r_60_35 ?_
              refine ev_iload (pc := 104) d_Mod_apart_104 rfl ?_
              replace hp := q_if hp
              obtain ⟨hb20, hp⟩ := hp
              refine et_iald (pc := 106) d_Mod_apart_106 s_87 hb20 (by decide) ?_
              refine et_aload_n (pc := 107) d_Mod_apart_107 rfl rfl ?_
              refine et_getr (pc := 108) ok (fl_Mod_97 t) rfl d_Mod_apart_108 s_60 r_60_36 ?_
              refine ev_iload (pc := 111) d_Mod_apart_111 rfl ?_
              replace hp := q_if hp
              obtain ⟨hb21, hp⟩ := hp
              refine et_iald (pc := 113) d_Mod_apart_113 s_88 hb21 (by decide) ?_
              refine et_aload_n (pc := 114) d_Mod_apart_114 rfl rfl ?_
              refine et_getr (pc := 115) ok (fl_Mod_94 t) rfl d_Mod_apart_115 s_60 r_60_35 ?_
              refine ev_iload (pc := 118) d_Mod_apart_118 rfl ?_
              replace hp := q_if hp
              obtain ⟨hb22, hp⟩ := hp
              refine et_iald (pc := 120) d_Mod_apart_120 s_87 hb22 (by decide) ?_
              replace hp := q_bind hp
              obtain ⟨x23, hm24, hp⟩ := hp
              refine et_callSi (pc := 121) (f1 := x23.2.1) (g1 := x23.2.2) ok [ma_i (x12.2.1 88 (Int.toNat z4)), ma_i (x12.2.1 87 (Int.toNat z4)), ma_i (x12.2.1 88 (Int.toNat z6)), ma_i (x12.2.1 87 (Int.toNat z6))] [] (cf_Mod_253 t) d_Mod_apart_121 (t_Mod_meet t ok (x12.2.1 88 (Int.toNat z4)) (x12.2.1 87 (Int.toNat z4)) (x12.2.1 88 (Int.toNat z6)) (x12.2.1 87 (Int.toNat z6)) x12.2.1 x12.2.2 hm24 ⟨rfl, rfl⟩) rfl rfl (by decide) (by decide) (q_ble rfl) ?_
              refine et_if_ne (pc := 124) (tgt := 131) d_Mod_apart_124 (by decide) (fun hj25 => ?_) (fun hj25 => ?_)
              · rw [if_neg hj25] at hp
                refine ev_sub (ls2 := [(0, q_a t (60)), (2, ma_i (v2)), (3, ma_i (v3))]) [2, 4, 5] rfl ?_
                exact e_Mod_apart_131 t ok  hQ c4 (p_Mod_apart_14  c4 n) hc4 ih (v2) (v3) x23.2.1 x23.2.2 hp
              · rw [if_pos hj25] at hp
                refine ev_sub (ls2 := [(0, q_a t (60)), (2, ma_i (v2)), (3, ma_i (v3))]) [2, 4, 5] rfl ?_
                exact e_Mod_apart_127 t ok  hQ c4 (p_Mod_apart_14  c4 n) hc4 ih (v2) (v3) x23.2.1 x23.2.2 hp
theorem e_Mod_apart_4 (t : q_V) (ok : ma_ok (q_G t))  {Q : Option Value → ma_H → Prop} {y : Int × q_F × q_F} (hQ : Q (some (ma_i y.1)) (q_h y.2.1 y.2.2))   : ∀ (n : Nat) (v1 : Int) (v2 : Int) (f g : q_F), p_Mod_apart_4   n v1 v2 f g = some y → ma_Ev (q_G t) 1 23 0 0 m_Mod_apart 4 [(0, q_a t (60)), (1, ma_i (v1)), (2, ma_i (v2))] [] (q_h f g) (ma_zr (q_G t) false Q) := by
  intro n
  induction n with
  | zero =>
    intro v1 v2 f g hp
    rw [p_Mod_apart_4] at hp
    cases hp
  | succ n ih =>
    intro v1 v2 f g hp
    rw [p_Mod_apart_4] at hp
    refine ev_iload_n (pc := 4) d_Mod_apart_4 rfl rfl ?_
    refine et_aload_n (pc := 5) d_Mod_apart_5 rfl rfl ?_
    refine et_geti (pc := 6) ok (fl_Mod_196 t) rfl d_Mod_apart_6 s_60 ?_
    refine et_icmp_ge (pc := 9) (tgt := 145) d_Mod_apart_9 (by decide) (fun hj1 => ?_) (fun hj1 => ?_)
    · rw [if_pos hj1] at hp
      refine ev_iload_n (pc := 145) d_Mod_apart_145 rfl rfl ?_
      replace hp := q_if hp
      obtain ⟨hb2, hp⟩ := hp
      cases Option.some.inj hp
      exact et_zret (pc := 146) d_Mod_apart_146 rfl hb2 hQ
    · rw [if_neg hj1] at hp
      refine ev_iconst (pc := 12) d_Mod_apart_12 ?_
      refine ev_istore_n (pc := 13) d_Mod_apart_13 rfl (by decide) [(3, _), (0, _), (1, _), (2, _)] rfl ?_
      refine ev_sub (ls2 := [(0, q_a t (60)), (1, ma_i (v1)), (2, ma_i (v2)), (3, ma_i (0))]) [1, 2, 3, 0] rfl ?_
      exact e_Mod_apart_14 t ok  hQ (p_Mod_apart_4   n) ih 1000 (v1) (v2) (0) f g hp
theorem t_Mod_apart (t : q_V) (ok : ma_ok (q_G t))  {Q : Option Value → ma_H → Prop} {y : Int × q_F × q_F}  (f g : q_F) (hp : p_Mod_apart   f g = some y) (hQ : Q (some (ma_i y.1)) (q_h y.2.1 y.2.2)) : ma_Met (q_G t) false 1 23 0 0 m_Mod_apart [q_a t (60)] (q_h f g) Q := by
  refine ma_met (by decide +kernel) (q_ble rfl) rfl ?_
  change ma_Ev (q_G t) 1 23 0 0 m_Mod_apart 0 [(0, q_a t (60))] [] (q_h f g) (ma_zr (q_G t) false Q)
  unfold p_Mod_apart at hp
  refine ev_iconst (pc := 0) d_Mod_apart_0 ?_
  refine ev_istore_n (pc := 1) d_Mod_apart_1 rfl (by decide) [(1, _), (0, _)] rfl ?_
  refine ev_iconst (pc := 2) d_Mod_apart_2 ?_
  refine ev_istore_n (pc := 3) d_Mod_apart_3 rfl (by decide) [(2, _), (1, _), (0, _)] rfl ?_
  refine ev_sub (ls2 := [(0, q_a t (60)), (1, ma_i (1)), (2, ma_i (0))]) [2, 1, 0] rfl ?_
  exact e_Mod_apart_4 t ok  hQ   1000 (1) (0) f g hp
theorem d_Mod_copiesWell_0 : decode (m_c m_Mod_copiesWell) 0 = .ok (.iconst 1, 1) := by decide +kernel
theorem d_Mod_copiesWell_1 : decode (m_c m_Mod_copiesWell) 1 = .ok (.istore_n 1, 1) := by decide +kernel
theorem d_Mod_copiesWell_2 : decode (m_c m_Mod_copiesWell) 2 = .ok (.iconst 0, 1) := by decide +kernel
theorem d_Mod_copiesWell_3 : decode (m_c m_Mod_copiesWell) 3 = .ok (.istore_n 2, 1) := by decide +kernel
theorem d_Mod_copiesWell_4 : decode (m_c m_Mod_copiesWell) 4 = .ok (.iload_n 2, 1) := by decide +kernel
theorem d_Mod_copiesWell_5 : decode (m_c m_Mod_copiesWell) 5 = .ok (.aload_n 0, 1) := by decide +kernel
theorem d_Mod_copiesWell_6 : decode (m_c m_Mod_copiesWell) 6 = .ok (.getfield 196, 3) := by decide +kernel
theorem d_Mod_copiesWell_9 : decode (m_c m_Mod_copiesWell) 9 = .ok (.if_icmp .ge 103, 3) := by decide +kernel
theorem d_Mod_copiesWell_12 : decode (m_c m_Mod_copiesWell) 12 = .ok (.iload_n 2, 1) := by decide +kernel
theorem d_Mod_copiesWell_13 : decode (m_c m_Mod_copiesWell) 13 = .ok (.istore_n 3, 1) := by decide +kernel
theorem d_Mod_copiesWell_14 : decode (m_c m_Mod_copiesWell) 14 = .ok (.iload_n 3, 1) := by decide +kernel
theorem d_Mod_copiesWell_15 : decode (m_c m_Mod_copiesWell) 15 = .ok (.aload_n 0, 1) := by decide +kernel
theorem d_Mod_copiesWell_16 : decode (m_c m_Mod_copiesWell) 16 = .ok (.getfield 196, 3) := by decide +kernel
theorem d_Mod_copiesWell_19 : decode (m_c m_Mod_copiesWell) 19 = .ok (.if_icmp .ge 87, 3) := by decide +kernel
theorem d_Mod_copiesWell_22 : decode (m_c m_Mod_copiesWell) 22 = .ok (.aload_n 0, 1) := by decide +kernel
theorem d_Mod_copiesWell_23 : decode (m_c m_Mod_copiesWell) 23 = .ok (.getfield 58, 3) := by decide +kernel
theorem d_Mod_copiesWell_26 : decode (m_c m_Mod_copiesWell) 26 = .ok (.iload_n 2, 1) := by decide +kernel
theorem d_Mod_copiesWell_27 : decode (m_c m_Mod_copiesWell) 27 = .ok (.iaload, 1) := by decide +kernel
theorem d_Mod_copiesWell_28 : decode (m_c m_Mod_copiesWell) 28 = .ok (.istore 4, 2) := by decide +kernel
theorem d_Mod_copiesWell_30 : decode (m_c m_Mod_copiesWell) 30 = .ok (.aload_n 0, 1) := by decide +kernel
theorem d_Mod_copiesWell_31 : decode (m_c m_Mod_copiesWell) 31 = .ok (.getfield 58, 3) := by decide +kernel
theorem d_Mod_copiesWell_34 : decode (m_c m_Mod_copiesWell) 34 = .ok (.iload_n 3, 1) := by decide +kernel
theorem d_Mod_copiesWell_35 : decode (m_c m_Mod_copiesWell) 35 = .ok (.iaload, 1) := by decide +kernel
theorem d_Mod_copiesWell_36 : decode (m_c m_Mod_copiesWell) 36 = .ok (.istore 5, 2) := by decide +kernel
theorem d_Mod_copiesWell_38 : decode (m_c m_Mod_copiesWell) 38 = .ok (.iload_n 1, 1) := by decide +kernel
theorem d_Mod_copiesWell_39 : decode (m_c m_Mod_copiesWell) 39 = .ok (.ifCond .eq 59, 3) := by decide +kernel
theorem d_Mod_copiesWell_42 : decode (m_c m_Mod_copiesWell) 42 = .ok (.aload_n 0, 1) := by decide +kernel
theorem d_Mod_copiesWell_43 : decode (m_c m_Mod_copiesWell) 43 = .ok (.iload 4, 2) := by decide +kernel
theorem d_Mod_copiesWell_45 : decode (m_c m_Mod_copiesWell) 45 = .ok (.invokevirtual 257, 3) := by decide +kernel
theorem d_Mod_copiesWell_48 : decode (m_c m_Mod_copiesWell) 48 = .ok (.ifCond .eq 46, 3) := by decide +kernel
theorem d_Mod_copiesWell_51 : decode (m_c m_Mod_copiesWell) 51 = .ok (.aload_n 0, 1) := by decide +kernel
theorem d_Mod_copiesWell_52 : decode (m_c m_Mod_copiesWell) 52 = .ok (.iload 5, 2) := by decide +kernel
theorem d_Mod_copiesWell_54 : decode (m_c m_Mod_copiesWell) 54 = .ok (.invokevirtual 257, 3) := by decide +kernel
theorem d_Mod_copiesWell_57 : decode (m_c m_Mod_copiesWell) 57 = .ok (.ifCond .eq 37, 3) := by decide +kernel
theorem d_Mod_copiesWell_60 : decode (m_c m_Mod_copiesWell) 60 = .ok (.aload_n 0, 1) := by decide +kernel
theorem d_Mod_copiesWell_61 : decode (m_c m_Mod_copiesWell) 61 = .ok (.getfield 91, 3) := by decide +kernel
theorem d_Mod_copiesWell_64 : decode (m_c m_Mod_copiesWell) 64 = .ok (.iload 4, 2) := by decide +kernel
theorem d_Mod_copiesWell_66 : decode (m_c m_Mod_copiesWell) 66 = .ok (.iaload, 1) := by decide +kernel
theorem d_Mod_copiesWell_67 : decode (m_c m_Mod_copiesWell) 67 = .ok (.aload_n 0, 1) := by decide +kernel
theorem d_Mod_copiesWell_68 : decode (m_c m_Mod_copiesWell) 68 = .ok (.getfield 94, 3) := by decide +kernel
theorem d_Mod_copiesWell_71 : decode (m_c m_Mod_copiesWell) 71 = .ok (.iload 4, 2) := by decide +kernel
theorem d_Mod_copiesWell_73 : decode (m_c m_Mod_copiesWell) 73 = .ok (.iaload, 1) := by decide +kernel
theorem d_Mod_copiesWell_74 : decode (m_c m_Mod_copiesWell) 74 = .ok (.aload_n 0, 1) := by decide +kernel
theorem d_Mod_copiesWell_75 : decode (m_c m_Mod_copiesWell) 75 = .ok (.getfield 97, 3) := by decide +kernel
theorem d_Mod_copiesWell_78 : decode (m_c m_Mod_copiesWell) 78 = .ok (.iload 5, 2) := by decide +kernel
theorem d_Mod_copiesWell_80 : decode (m_c m_Mod_copiesWell) 80 = .ok (.iaload, 1) := by decide +kernel
theorem d_Mod_copiesWell_81 : decode (m_c m_Mod_copiesWell) 81 = .ok (.aload_n 0, 1) := by decide +kernel
theorem d_Mod_copiesWell_82 : decode (m_c m_Mod_copiesWell) 82 = .ok (.getfield 94, 3) := by decide +kernel
theorem d_Mod_copiesWell_85 : decode (m_c m_Mod_copiesWell) 85 = .ok (.iload 5, 2) := by decide +kernel
theorem d_Mod_copiesWell_87 : decode (m_c m_Mod_copiesWell) 87 = .ok (.iaload, 1) := by decide +kernel
theorem d_Mod_copiesWell_88 : decode (m_c m_Mod_copiesWell) 88 = .ok (.invokestatic 253, 3) := by decide +kernel
theorem d_Mod_copiesWell_91 : decode (m_c m_Mod_copiesWell) 91 = .ok (.ifCond .ne 7, 3) := by decide +kernel
theorem d_Mod_copiesWell_94 : decode (m_c m_Mod_copiesWell) 94 = .ok (.iconst 1, 1) := by decide +kernel
theorem d_Mod_copiesWell_95 : decode (m_c m_Mod_copiesWell) 95 = .ok (.goto 4, 3) := by decide +kernel
theorem d_Mod_copiesWell_98 : decode (m_c m_Mod_copiesWell) 98 = .ok (.iconst 0, 1) := by decide +kernel
theorem d_Mod_copiesWell_99 : decode (m_c m_Mod_copiesWell) 99 = .ok (.istore_n 1, 1) := by decide +kernel
theorem d_Mod_copiesWell_100 : decode (m_c m_Mod_copiesWell) 100 = .ok (.iinc 3 1, 3) := by decide +kernel
theorem d_Mod_copiesWell_103 : decode (m_c m_Mod_copiesWell) 103 = .ok (.goto (-89), 3) := by decide +kernel
theorem d_Mod_copiesWell_106 : decode (m_c m_Mod_copiesWell) 106 = .ok (.iinc 2 1, 3) := by decide +kernel
theorem d_Mod_copiesWell_109 : decode (m_c m_Mod_copiesWell) 109 = .ok (.goto (-105), 3) := by decide +kernel
theorem d_Mod_copiesWell_112 : decode (m_c m_Mod_copiesWell) 112 = .ok (.iload_n 1, 1) := by decide +kernel
theorem d_Mod_copiesWell_113 : decode (m_c m_Mod_copiesWell) 113 = .ok (.ireturn, 1) := by decide +kernel
def p_Mod_copiesWell_99  (c4 : Int → Int → q_F → q_F → Option (Int × q_F × q_F)) (c14 : Int → Int → Int → q_F → q_F → Option (Int × q_F × q_F)) (v2 : Int) (v3 : Int) (s0 : Int) (f g : q_F) : Option (Int × q_F × q_F) :=
  q_let (v3 + 1) fun z1 =>
  c14 (s0) (v2) (z1) f g
def p_Mod_copiesWell_98  (c4 : Int → Int → q_F → q_F → Option (Int × q_F × q_F)) (c14 : Int → Int → Int → q_F → q_F → Option (Int × q_F × q_F)) (v2 : Int) (v3 : Int) (f g : q_F) : Option (Int × q_F × q_F) :=
  p_Mod_copiesWell_99  c4 c14 (v2) (v3) (0) f g
def p_Mod_copiesWell_94  (c4 : Int → Int → q_F → q_F → Option (Int × q_F × q_F)) (c14 : Int → Int → Int → q_F → q_F → Option (Int × q_F × q_F)) (v2 : Int) (v3 : Int) (f g : q_F) : Option (Int × q_F × q_F) :=
  p_Mod_copiesWell_99  c4 c14 (v2) (v3) (1) f g
def p_Mod_copiesWell_14  (c4 : Int → Int → q_F → q_F → Option (Int × q_F × q_F)) : Nat → Int → Int → Int → q_F → q_F → Option (Int × q_F × q_F)
  | 0, _, _, _, _, _ => none
  | n + 1, v1, v2, v3, f, g =>
    if q_sw (f 60 22) ≤ q_sw v3 then
      q_let (v2 + 1) fun z2 =>
      c4 (v1) (z2) f g
    else
      if 0 ≤ v2 ∧ v2 < 8 then
        q_let (f 75 (Int.toNat v2)) fun z4 =>
        if 0 ≤ v3 ∧ v3 < 8 then
          q_let (f 75 (Int.toNat v3)) fun z6 =>
          if q_sw v1 = 0 then
            p_Mod_copiesWell_98  c4 (p_Mod_copiesWell_14  c4 n) (v2) (v3) f g
          else
            (p_Mod_copied (z4) f g).bind fun x8 =>
            if q_sw x8.1 = 0 then
              p_Mod_copiesWell_94  c4 (p_Mod_copiesWell_14  c4 n) (v2) (v3) x8.2.1 x8.2.2
            else
              (p_Mod_copied (z6) x8.2.1 x8.2.2).bind fun x11 =>
              if q_sw x11.1 = 0 then
                p_Mod_copiesWell_94  c4 (p_Mod_copiesWell_14  c4 n) (v2) (v3) x11.2.1 x11.2.2
              else
                if 0 ≤ z4 ∧ z4 < 8 then
                  if 0 ≤ z4 ∧ z4 < 8 then
                    if 0 ≤ z6 ∧ z6 < 8 then
                      if 0 ≤ z6 ∧ z6 < 8 then
                        (p_Mod_meet (x11.2.1 86 (Int.toNat z4)) (x11.2.1 87 (Int.toNat z4)) (x11.2.1 88 (Int.toNat z6)) (x11.2.1 87 (Int.toNat z6)) x11.2.1 x11.2.2).bind fun x18 =>
                        if q_sw x18.1 = 0 then
                          p_Mod_copiesWell_94  c4 (p_Mod_copiesWell_14  c4 n) (v2) (v3) x18.2.1 x18.2.2
                        else
                          p_Mod_copiesWell_98  c4 (p_Mod_copiesWell_14  c4 n) (v2) (v3) x18.2.1 x18.2.2
                      else none
                    else none
                  else none
                else none
        else none
      else none
def p_Mod_copiesWell_4   : Nat → Int → Int → q_F → q_F → Option (Int × q_F × q_F)
  | 0, _, _, _, _ => none
  | n + 1, v1, v2, f, g =>
    if q_sw (f 60 22) ≤ q_sw v2 then
      if v1 = 0 ∨ v1 = 1 then
        some (v1, f, g)
      else none
    else
      p_Mod_copiesWell_14  (p_Mod_copiesWell_4   n) 1000 (v1) (v2) (v2) f g
def p_Mod_copiesWell   (f g : q_F) : Option (Int × q_F × q_F) :=
  p_Mod_copiesWell_4   1000 (1) (0) f g
theorem e_Mod_copiesWell_99 (t : q_V) (ok : ma_ok (q_G t))  {Q : Option Value → ma_H → Prop} {y : Int × q_F × q_F} (hQ : Q (some (ma_i y.1)) (q_h y.2.1 y.2.2)) (c4 : Int → Int → q_F → q_F → Option (Int × q_F × q_F)) (c14 : Int → Int → Int → q_F → q_F → Option (Int × q_F × q_F)) (hc4 : ∀ (v1 : Int) (v2 : Int) (f g : q_F), c4 v1 v2 f g = some y → ma_Ev (q_G t) 1 23 0 0 m_Mod_copiesWell 4 [(0, q_a t (60)), (1, ma_i (v1)), (2, ma_i (v2))] [] (q_h f g) (ma_zr (q_G t) false Q)) (hc14 : ∀ (v1 : Int) (v2 : Int) (v3 : Int) (f g : q_F), c14 v1 v2 v3 f g = some y → ma_Ev (q_G t) 1 23 0 0 m_Mod_copiesWell 14 [(0, q_a t (60)), (1, ma_i (v1)), (2, ma_i (v2)), (3, ma_i (v3))] [] (q_h f g) (ma_zr (q_G t) false Q)) (v2 : Int) (v3 : Int) (s0 : Int) (f g : q_F) (hp : p_Mod_copiesWell_99  c4 c14 v2 v3 s0 f g = some y) : ma_Ev (q_G t) 1 23 0 0 m_Mod_copiesWell 99 [(0, q_a t (60)), (2, ma_i (v2)), (3, ma_i (v3))] [ma_i (s0)] (q_h f g) (ma_zr (q_G t) false Q) := by
  unfold p_Mod_copiesWell_99 at hp
  refine ev_istore_n (pc := 99) d_Mod_copiesWell_99 rfl (by decide) [(1, _), (0, _), (2, _), (3, _)] rfl ?_
  refine ev_iinc (pc := 100) d_Mod_copiesWell_100 (by decide) rfl [(3, _), (1, _), (0, _), (2, _)] rfl ?_
  replace hp := q_let_of hp
  obtain ⟨z1, hz, hp⟩ := hp
  rw [← hz]
  clear hz
  refine ev_goto (pc := 103) (tgt := 14) d_Mod_copiesWell_103 (by decide) ?_
  refine ev_sub (ls2 := [(0, q_a t (60)), (1, ma_i (s0)), (2, ma_i (v2)), (3, ma_i (z1))]) [2, 1, 3, 0] rfl ?_
  exact hc14 (s0) (v2) (z1) f g hp
theorem e_Mod_copiesWell_98 (t : q_V) (ok : ma_ok (q_G t))  {Q : Option Value → ma_H → Prop} {y : Int × q_F × q_F} (hQ : Q (some (ma_i y.1)) (q_h y.2.1 y.2.2)) (c4 : Int → Int → q_F → q_F → Option (Int × q_F × q_F)) (c14 : Int → Int → Int → q_F → q_F → Option (Int × q_F × q_F)) (hc4 : ∀ (v1 : Int) (v2 : Int) (f g : q_F), c4 v1 v2 f g = some y → ma_Ev (q_G t) 1 23 0 0 m_Mod_copiesWell 4 [(0, q_a t (60)), (1, ma_i (v1)), (2, ma_i (v2))] [] (q_h f g) (ma_zr (q_G t) false Q)) (hc14 : ∀ (v1 : Int) (v2 : Int) (v3 : Int) (f g : q_F), c14 v1 v2 v3 f g = some y → ma_Ev (q_G t) 1 23 0 0 m_Mod_copiesWell 14 [(0, q_a t (60)), (1, ma_i (v1)), (2, ma_i (v2)), (3, ma_i (v3))] [] (q_h f g) (ma_zr (q_G t) false Q)) (v2 : Int) (v3 : Int) (f g : q_F) (hp : p_Mod_copiesWell_98  c4 c14 v2 v3 f g = some y) : ma_Ev (q_G t) 1 23 0 0 m_Mod_copiesWell 98 [(0, q_a t (60)), (2, ma_i (v2)), (3, ma_i (v3))] [] (q_h f g) (ma_zr (q_G t) false Q) := by
  unfold p_Mod_copiesWell_98 at hp
  refine ev_iconst (pc := 98) d_Mod_copiesWell_98 ?_
  refine ev_sub (ls2 := [(0, q_a t (60)), (2, ma_i (v2)), (3, ma_i (v3))]) [0, 1, 2] rfl ?_
  exact e_Mod_copiesWell_99 t ok  hQ c4 c14 hc4 hc14 (v2) (v3) (0) f g hp
theorem e_Mod_copiesWell_94 (t : q_V) (ok : ma_ok (q_G t))  {Q : Option Value → ma_H → Prop} {y : Int × q_F × q_F} (hQ : Q (some (ma_i y.1)) (q_h y.2.1 y.2.2)) (c4 : Int → Int → q_F → q_F → Option (Int × q_F × q_F)) (c14 : Int → Int → Int → q_F → q_F → Option (Int × q_F × q_F)) (hc4 : ∀ (v1 : Int) (v2 : Int) (f g : q_F), c4 v1 v2 f g = some y → ma_Ev (q_G t) 1 23 0 0 m_Mod_copiesWell 4 [(0, q_a t (60)), (1, ma_i (v1)), (2, ma_i (v2))] [] (q_h f g) (ma_zr (q_G t) false Q)) (hc14 : ∀ (v1 : Int) (v2 : Int) (v3 : Int) (f g : q_F), c14 v1 v2 v3 f g = some y → ma_Ev (q_G t) 1 23 0 0 m_Mod_copiesWell 14 [(0, q_a t (60)), (1, ma_i (v1)), (2, ma_i (v2)), (3, ma_i (v3))] [] (q_h f g) (ma_zr (q_G t) false Q)) (v2 : Int) (v3 : Int) (f g : q_F) (hp : p_Mod_copiesWell_94  c4 c14 v2 v3 f g = some y) : ma_Ev (q_G t) 1 23 0 0 m_Mod_copiesWell 94 [(0, q_a t (60)), (2, ma_i (v2)), (3, ma_i (v3))] [] (q_h f g) (ma_zr (q_G t) false Q) := by
  unfold p_Mod_copiesWell_94 at hp
  refine ev_iconst (pc := 94) d_Mod_copiesWell_94 ?_
  refine ev_goto (pc := 95) (tgt := 99) d_Mod_copiesWell_95 (by decide) ?_
  refine ev_sub (ls2 := [(0, q_a t (60)), (2, ma_i (v2)), (3, ma_i (v3))]) [0, 1, 2] rfl ?_
  exact e_Mod_copiesWell_99 t ok  hQ c4 c14 hc4 hc14 (v2) (v3) (1) f g hp
theorem e_Mod_copiesWell_14 (t : q_V) (ok : ma_ok (q_G t))  {Q : Option Value → ma_H → Prop} {y : Int × q_F × q_F} (hQ : Q (some (ma_i y.1)) (q_h y.2.1 y.2.2)) (c4 : Int → Int → q_F → q_F → Option (Int × q_F × q_F)) (hc4 : ∀ (v1 : Int) (v2 : Int) (f g : q_F), c4 v1 v2 f g = some y → ma_Ev (q_G t) 1 23 0 0 m_Mod_copiesWell 4 [(0, q_a t (60)), (1, ma_i (v1)), (2, ma_i (v2))] [] (q_h f g) (ma_zr (q_G t) false Q)) : ∀ (n : Nat) (v1 : Int) (v2 : Int) (v3 : Int) (f g : q_F), p_Mod_copiesWell_14  c4 n v1 v2 v3 f g = some y → ma_Ev (q_G t) 1 23 0 0 m_Mod_copiesWell 14 [(0, q_a t (60)), (1, ma_i (v1)), (2, ma_i (v2)), (3, ma_i (v3))] [] (q_h f g) (ma_zr (q_G t) false Q) := by
  intro n
  induction n with
  | zero =>
    intro v1 v2 v3 f g hp
    rw [p_Mod_copiesWell_14] at hp
    cases hp
  | succ n ih =>
    intro v1 v2 v3 f g hp
    rw [p_Mod_copiesWell_14] at hp
    refine ev_iload_n (pc := 14) d_Mod_copiesWell_14 rfl rfl ?_
    refine et_aload_n (pc := 15) d_Mod_copiesWell_15 rfl rfl ?_
    refine et_geti (pc := 16) ok (fl_Mod_196 t) rfl d_Mod_copiesWell_16 s_60 ?_
    refine et_icmp_ge (pc := 19) (tgt := 106) d_Mod_copiesWell_19 (by decide) (fun hj1 => ?_) (fun hj1 => ?_)
    · rw [if_pos hj1] at hp
      refine ev_iinc (pc := 106) d_Mod_copiesWell_106 (by decide) rfl [(2, _), (0, _), (1, _), (3, _)] rfl ?_
      replace hp := q_let_of hp
      obtain ⟨z2, hz, hp⟩ := hp
      rw [← hz]
      clear hz
      refine ev_goto (pc := 109) (tgt := 4) d_Mod_copiesWell_109 (by decide) ?_
      refine ev_sub (ls2 := [(0, q_a t (60)), (1, ma_i (v1)), (2, ma_i (z2))]) [1, 2, 0] rfl ?_
      exact hc4 (v1) (z2) f g hp
    · rw [if_neg hj1] at hp
      refine et_aload_n (pc := 22) d_Mod_copiesWell_22 rfl rfl ?_
      refine et_getr (pc := 23) ok (fl_Mod_58 t) rfl d_Mod_copiesWell_23 s_60 r_60_23 ?_
      refine ev_iload_n (pc := 26) d_Mod_copiesWell_26 rfl rfl ?_
      replace hp := q_if hp
      obtain ⟨hb3, hp⟩ := hp
      refine et_iald (pc := 27) d_Mod_copiesWell_27 s_75 hb3 (by decide) ?_
      refine ev_istore (pc := 28) d_Mod_copiesWell_28 (by decide) [(4, _), (0, _), (1, _), (2, _), (3, _)] rfl ?_
      replace hp := q_let_of hp
      obtain ⟨z4, hz, hp⟩ := hp
      rw [← hz]
      clear hz
      refine et_aload_n (pc := 30) d_Mod_copiesWell_30 rfl rfl ?_
      refine et_getr (pc := 31) ok (fl_Mod_58 t) rfl d_Mod_copiesWell_31 s_60 r_60_23 ?_
      refine ev_iload_n (pc := 34) d_Mod_copiesWell_34 rfl rfl ?_
      replace hp := q_if hp
      obtain ⟨hb5, hp⟩ := hp
      refine et_iald (pc := 35) d_Mod_copiesWell_35 s_75 hb5 (by decide) ?_
      refine ev_istore (pc := 36) d_Mod_copiesWell_36 (by decide) [(5, _), (4, _), (0, _), (1, _), (2, _), (3, _)] rfl ?_
      replace hp := q_let_of hp
      obtain ⟨z6, hz, hp⟩ := hp
      rw [← hz]
      clear hz
      refine ev_iload_n (pc := 38) d_Mod_copiesWell_38 rfl rfl ?_
      refine et_if_eq (pc := 39) (tgt := 98) d_Mod_copiesWell_39 (by decide) (fun hj7 => ?_) (fun hj7 => ?_)
      · rw [if_pos hj7] at hp
        refine ev_sub (ls2 := [(0, q_a t (60)), (2, ma_i (v2)), (3, ma_i (v3))]) [2, 4, 5] rfl ?_
        exact e_Mod_copiesWell_98 t ok  hQ c4 (p_Mod_copiesWell_14  c4 n) hc4 ih (v2) (v3) f g hp
      · rw [if_neg hj7] at hp
        refine et_aload_n (pc := 42) d_Mod_copiesWell_42 rfl rfl ?_
        refine ev_iload (pc := 43) d_Mod_copiesWell_43 rfl ?_
        replace hp := q_bind hp
        obtain ⟨x8, hm9, hp⟩ := hp
        refine et_callVi (pc := 45) (f1 := x8.2.1) (g1 := x8.2.2) ok [ma_i (z4)] [] (cf_Mod_257 t) d_Mod_copiesWell_45 s_60 k_12 rfl (t_Mod_copied t ok (z4) f g hm9 ⟨rfl, rfl⟩) rfl rfl (by decide) (by decide) (q_ble rfl) ?_
        refine et_if_eq (pc := 48) (tgt := 94) d_Mod_copiesWell_48 (by decide) (fun hj10 => ?_) (fun hj10 => ?_)
        · rw [if_pos hj10] at hp
          refine ev_sub (ls2 := [(0, q_a t (60)), (2, ma_i (v2)), (3, ma_i (v3))]) [2, 4, 5] rfl ?_
          exact e_Mod_copiesWell_94 t ok  hQ c4 (p_Mod_copiesWell_14  c4 n) hc4 ih (v2) (v3) x8.2.1 x8.2.2 hp
        · rw [if_neg hj10] at hp
          refine et_aload_n (pc := 51) d_Mod_copiesWell_51 rfl rfl ?_
          refine ev_iload (pc := 52) d_Mod_copiesWell_52 rfl ?_
          replace hp := q_bind hp
          obtain ⟨x11, hm12, hp⟩ := hp
          refine et_callVi (pc := 54) (f1 := x11.2.1) (g1 := x11.2.2) ok [ma_i (z6)] [] (cf_Mod_257 t) d_Mod_copiesWell_54 s_60 k_12 rfl (t_Mod_copied t ok (z6) x8.2.1 x8.2.2 hm12 ⟨rfl, rfl⟩) rfl rfl (by decide) (by decide) (q_ble rfl) ?_
          refine et_if_eq (pc := 57) (tgt := 94) d_Mod_copiesWell_57 (by decide) (fun hj13 => ?_) (fun hj13 => ?_)
          · rw [if_pos hj13] at hp
            refine ev_sub (ls2 := [(0, q_a t (60)), (2, ma_i (v2)), (3, ma_i (v3))]) [2, 4, 5] rfl ?_
            exact e_Mod_copiesWell_94 t ok  hQ c4 (p_Mod_copiesWell_14  c4 n) hc4 ih (v2) (v3) x11.2.1 x11.2.2 hp
          · rw [if_neg hj13] at hp
            refine et_aload_n (pc := 60) d_Mod_copiesWell_60 rfl rfl ?_
            refine et_getr (pc := 61) ok (fl_Mod_91 t) rfl d_Mod_copiesWell_61 s_60 r_60_34 ?_
            refine ev_iload (pc := 64) d_Mod_copiesWell_64 rfl ?_
            replace hp := q_if hp
            obtain ⟨hb14, hp⟩ := hp
            refine et_iald (pc := 66) d_Mod_copiesWell_66 s_86 hb14 (by decide) ?_
            refine et_aload_n (pc := 67) d_Mod_copiesWell_67 rfl rfl ?_
            refine et_getr (pc := 68) ok (fl_Mod_94 t) rfl d_Mod_copiesWell_68 s_60 r_60_35 ?_
            refine ev_iload (pc := 71) d_Mod_copiesWell_71 rfl ?_
            replace hp := q_if hp
            obtain ⟨hb15, hp⟩ := hp
            refine et_iald (pc := 73) d_Mod_copiesWell_73 s_87 hb15 (by decide) ?_
            refine et_aload_n (pc := 74) d_Mod_copiesWell_74 rfl rfl ?_
            refine et_getr (pc := 75) ok (fl_Mod_97 t) rfl d_Mod_copiesWell_75 s_60 r_60_36 ?_
            refine ev_iload (pc := 78) d_Mod_copiesWell_78 rfl ?_
            replace hp := q_if hp
            obtain ⟨hb16, hp⟩ := hp
            refine et_iald (pc := 80) d_Mod_copiesWell_80 s_88 hb16 (by decide) ?_
            refine et_aload_n (pc := 81) d_Mod_copiesWell_81 rfl rfl ?_
            refine et_getr (pc := 82) ok (fl_Mod_94 t) rfl d_Mod_copiesWell_82 s_60 r_60_35 ?_
            refine ev_iload (pc := 85) d_Mod_copiesWell_85 rfl ?_
            replace hp := q_if hp
            obtain ⟨hb17, hp⟩ := hp
            refine et_iald (pc := 87) d_Mod_copiesWell_87 s_87 hb17 (by decide) ?_
            replace hp := q_bind hp
            obtain ⟨x18, hm19, hp⟩ := hp
            refine et_callSi (pc := 88) (f1 := x18.2.1) (g1 := x18.2.2) ok [ma_i (x11.2.1 86 (Int.toNat z4)), ma_i (x11.2.1 87 (Int.toNat z4)), ma_i (x11.2.1 88 (Int.toNat z6)), ma_i (x11.2.1 87 (Int.toNat z6))] [] (cf_Mod_253 t) d_Mod_copiesWell_88 (t_Mod_meet t ok (x11.2.1 86 (Int.toNat z4)) (x11.2.1 87 (Int.toNat z4)) (x11.2.1 88 (Int.toNat z6)) (x11.2.1 87 (Int.toNat z6)) x11.2.1 x11.2.2 hm19 ⟨rfl, rfl⟩) rfl rfl (by decide) (by decide) (q_ble rfl) ?_
            refine et_if_ne (pc := 91) (tgt := 98) d_Mod_copiesWell_91 (by decide) (fun hj20 => ?_) (fun hj20 => ?_)
            · rw [if_neg hj20] at hp
              refine ev_sub (ls2 := [(0, q_a t (60)), (2, ma_i (v2)), (3, ma_i (v3))]) [2, 4, 5] rfl ?_
              exact e_Mod_copiesWell_98 t ok  hQ c4 (p_Mod_copiesWell_14  c4 n) hc4 ih (v2) (v3) x18.2.1 x18.2.2 hp
            · rw [if_pos hj20] at hp
              refine ev_sub (ls2 := [(0, q_a t (60)), (2, ma_i (v2)), (3, ma_i (v3))]) [2, 4, 5] rfl ?_
              exact e_Mod_copiesWell_94 t ok  hQ c4 (p_Mod_copiesWell_14  c4 n) hc4 ih (v2) (v3) x18.2.1 x18.2.2 hp
theorem e_Mod_copiesWell_4 (t : q_V) (ok : ma_ok (q_G t))  {Q : Option Value → ma_H → Prop} {y : Int × q_F × q_F} (hQ : Q (some (ma_i y.1)) (q_h y.2.1 y.2.2))   : ∀ (n : Nat) (v1 : Int) (v2 : Int) (f g : q_F), p_Mod_copiesWell_4   n v1 v2 f g = some y → ma_Ev (q_G t) 1 23 0 0 m_Mod_copiesWell 4 [(0, q_a t (60)), (1, ma_i (v1)), (2, ma_i (v2))] [] (q_h f g) (ma_zr (q_G t) false Q) := by
  intro n
  induction n with
  | zero =>
    intro v1 v2 f g hp
    rw [p_Mod_copiesWell_4] at hp
    cases hp
  | succ n ih =>
    intro v1 v2 f g hp
    rw [p_Mod_copiesWell_4] at hp
    refine ev_iload_n (pc := 4) d_Mod_copiesWell_4 rfl rfl ?_
    refine et_aload_n (pc := 5) d_Mod_copiesWell_5 rfl rfl ?_
    refine et_geti (pc := 6) ok (fl_Mod_196 t) rfl d_Mod_copiesWell_6 s_60 ?_
    refine et_icmp_ge (pc := 9) (tgt := 112) d_Mod_copiesWell_9 (by decide) (fun hj1 => ?_) (fun hj1 => ?_)
    · rw [if_pos hj1] at hp
      refine ev_iload_n (pc := 112) d_Mod_copiesWell_112 rfl rfl ?_
      replace hp := q_if hp
      obtain ⟨hb2, hp⟩ := hp
      cases Option.some.inj hp
      exact et_zret (pc := 113) d_Mod_copiesWell_113 rfl hb2 hQ
    · rw [if_neg hj1] at hp
      refine ev_iload_n (pc := 12) d_Mod_copiesWell_12 rfl rfl ?_
      refine ev_istore_n (pc := 13) d_Mod_copiesWell_13 rfl (by decide) [(3, _), (0, _), (1, _), (2, _)] rfl ?_
      refine ev_sub (ls2 := [(0, q_a t (60)), (1, ma_i (v1)), (2, ma_i (v2)), (3, ma_i (v2))]) [1, 2, 3, 0] rfl ?_
      exact e_Mod_copiesWell_14 t ok  hQ (p_Mod_copiesWell_4   n) ih 1000 (v1) (v2) (v2) f g hp
theorem t_Mod_copiesWell (t : q_V) (ok : ma_ok (q_G t))  {Q : Option Value → ma_H → Prop} {y : Int × q_F × q_F}  (f g : q_F) (hp : p_Mod_copiesWell   f g = some y) (hQ : Q (some (ma_i y.1)) (q_h y.2.1 y.2.2)) : ma_Met (q_G t) false 1 23 0 0 m_Mod_copiesWell [q_a t (60)] (q_h f g) Q := by
  refine ma_met (by decide +kernel) (q_ble rfl) rfl ?_
  change ma_Ev (q_G t) 1 23 0 0 m_Mod_copiesWell 0 [(0, q_a t (60))] [] (q_h f g) (ma_zr (q_G t) false Q)
  unfold p_Mod_copiesWell at hp
  refine ev_iconst (pc := 0) d_Mod_copiesWell_0 ?_
  refine ev_istore_n (pc := 1) d_Mod_copiesWell_1 rfl (by decide) [(1, _), (0, _)] rfl ?_
  refine ev_iconst (pc := 2) d_Mod_copiesWell_2 ?_
  refine ev_istore_n (pc := 3) d_Mod_copiesWell_3 rfl (by decide) [(2, _), (1, _), (0, _)] rfl ?_
  refine ev_sub (ls2 := [(0, q_a t (60)), (1, ma_i (1)), (2, ma_i (0))]) [2, 1, 0] rfl ?_
  exact e_Mod_copiesWell_4 t ok  hQ   1000 (1) (0) f g hp
theorem d_Mod_lay_0 : decode (m_c m_Mod_lay) 0 = .ok (.aload_n 0, 1) := by decide +kernel
theorem d_Mod_lay_1 : decode (m_c m_Mod_lay) 1 = .ok (.iconst 0, 1) := by decide +kernel
theorem d_Mod_lay_2 : decode (m_c m_Mod_lay) 2 = .ok (.putfield 124, 3) := by decide +kernel
theorem d_Mod_lay_5 : decode (m_c m_Mod_lay) 5 = .ok (.aload_n 0, 1) := by decide +kernel
theorem d_Mod_lay_6 : decode (m_c m_Mod_lay) 6 = .ok (.iconst 0, 1) := by decide +kernel
theorem d_Mod_lay_7 : decode (m_c m_Mod_lay) 7 = .ok (.putfield 135, 3) := by decide +kernel
theorem d_Mod_lay_10 : decode (m_c m_Mod_lay) 10 = .ok (.aload_n 0, 1) := by decide +kernel
theorem d_Mod_lay_11 : decode (m_c m_Mod_lay) 11 = .ok (.invokevirtual 260, 3) := by decide +kernel
theorem d_Mod_lay_14 : decode (m_c m_Mod_lay) 14 = .ok (.aload_n 0, 1) := by decide +kernel
theorem d_Mod_lay_15 : decode (m_c m_Mod_lay) 15 = .ok (.getfield 147, 3) := by decide +kernel
theorem d_Mod_lay_18 : decode (m_c m_Mod_lay) 18 = .ok (.ifCond .eq 5, 3) := by decide +kernel
theorem d_Mod_lay_21 : decode (m_c m_Mod_lay) 21 = .ok (.iconst 1, 1) := by decide +kernel
theorem d_Mod_lay_22 : decode (m_c m_Mod_lay) 22 = .ok (.ireturn, 1) := by decide +kernel
theorem d_Mod_lay_23 : decode (m_c m_Mod_lay) 23 = .ok (.aload_n 0, 1) := by decide +kernel
theorem d_Mod_lay_24 : decode (m_c m_Mod_lay) 24 = .ok (.invokevirtual 263, 3) := by decide +kernel
theorem d_Mod_lay_27 : decode (m_c m_Mod_lay) 27 = .ok (.ifCond .ne 5, 3) := by decide +kernel
theorem d_Mod_lay_30 : decode (m_c m_Mod_lay) 30 = .ok (.iconst 2, 1) := by decide +kernel
theorem d_Mod_lay_31 : decode (m_c m_Mod_lay) 31 = .ok (.ireturn, 1) := by decide +kernel
theorem d_Mod_lay_32 : decode (m_c m_Mod_lay) 32 = .ok (.aload_n 0, 1) := by decide +kernel
theorem d_Mod_lay_33 : decode (m_c m_Mod_lay) 33 = .ok (.invokevirtual 267, 3) := by decide +kernel
theorem d_Mod_lay_36 : decode (m_c m_Mod_lay) 36 = .ok (.ifCond .ne 5, 3) := by decide +kernel
theorem d_Mod_lay_39 : decode (m_c m_Mod_lay) 39 = .ok (.iconst 3, 1) := by decide +kernel
theorem d_Mod_lay_40 : decode (m_c m_Mod_lay) 40 = .ok (.ireturn, 1) := by decide +kernel
theorem d_Mod_lay_41 : decode (m_c m_Mod_lay) 41 = .ok (.aload_n 0, 1) := by decide +kernel
theorem d_Mod_lay_42 : decode (m_c m_Mod_lay) 42 = .ok (.invokevirtual 270, 3) := by decide +kernel
theorem d_Mod_lay_45 : decode (m_c m_Mod_lay) 45 = .ok (.ifCond .ne 5, 3) := by decide +kernel
theorem d_Mod_lay_48 : decode (m_c m_Mod_lay) 48 = .ok (.iconst 4, 1) := by decide +kernel
theorem d_Mod_lay_49 : decode (m_c m_Mod_lay) 49 = .ok (.ireturn, 1) := by decide +kernel
theorem d_Mod_lay_50 : decode (m_c m_Mod_lay) 50 = .ok (.aload_n 0, 1) := by decide +kernel
theorem d_Mod_lay_51 : decode (m_c m_Mod_lay) 51 = .ok (.invokevirtual 273, 3) := by decide +kernel
theorem d_Mod_lay_54 : decode (m_c m_Mod_lay) 54 = .ok (.ifCond .ne 5, 3) := by decide +kernel
theorem d_Mod_lay_57 : decode (m_c m_Mod_lay) 57 = .ok (.iconst 5, 1) := by decide +kernel
theorem d_Mod_lay_58 : decode (m_c m_Mod_lay) 58 = .ok (.ireturn, 1) := by decide +kernel
theorem d_Mod_lay_59 : decode (m_c m_Mod_lay) 59 = .ok (.aload_n 0, 1) := by decide +kernel
theorem d_Mod_lay_60 : decode (m_c m_Mod_lay) 60 = .ok (.iconst 1, 1) := by decide +kernel
theorem d_Mod_lay_61 : decode (m_c m_Mod_lay) 61 = .ok (.putfield 135, 3) := by decide +kernel
theorem d_Mod_lay_64 : decode (m_c m_Mod_lay) 64 = .ok (.iconst 0, 1) := by decide +kernel
theorem d_Mod_lay_65 : decode (m_c m_Mod_lay) 65 = .ok (.ireturn, 1) := by decide +kernel
def p_Mod_lay   (f g : q_F) : Option (Int × q_F × q_F) :=
  q_let (ma_up f 60 0 0) fun f1 =>
  q_let (ma_up f1 60 45 0) fun f2 =>
  (p_Mod_read  f2 g).bind fun x3 =>
  if q_sw (x3.1 60 9) = 0 then
    (p_Mod_reckonAll  x3.1 x3.2).bind fun x6 =>
    if q_sw x6.1 = 0 then
      some (2, x6.2.1, x6.2.2)
    else
      (p_Mod_fits  x6.2.1 x6.2.2).bind fun x9 =>
      if q_sw x9.1 = 0 then
        some (3, x9.2.1, x9.2.2)
      else
        (p_Mod_apart  x9.2.1 x9.2.2).bind fun x12 =>
        if q_sw x12.1 = 0 then
          some (4, x12.2.1, x12.2.2)
        else
          (p_Mod_copiesWell  x12.2.1 x12.2.2).bind fun x15 =>
          if q_sw x15.1 = 0 then
            some (5, x15.2.1, x15.2.2)
          else
            q_let (ma_up x15.2.1 60 45 1) fun f18 =>
            some (0, f18, x15.2.2)
  else
    some (1, x3.1, x3.2)
theorem t_Mod_lay (t : q_V) (ok : ma_ok (q_G t))  {Q : Option Value → ma_H → Prop} {y : Int × q_F × q_F}  (f g : q_F) (hp : p_Mod_lay   f g = some y) (hQ : Q (some (ma_i y.1)) (q_h y.2.1 y.2.2)) : ma_Met (q_G t) false 7 155 0 0 m_Mod_lay [q_a t (60)] (q_h f g) Q := by
  refine ma_met (by decide +kernel) (q_ble rfl) rfl ?_
  change ma_Ev (q_G t) 7 155 0 0 m_Mod_lay 0 [(0, q_a t (60))] [] (q_h f g) (ma_zr (q_G t) false Q)
  unfold p_Mod_lay at hp
  refine et_aload_n (pc := 0) d_Mod_lay_0 rfl rfl ?_
  refine ev_iconst (pc := 1) d_Mod_lay_1 ?_
  refine et_puti (pc := 2) ok (fl_Mod_124 t) d_Mod_lay_2 s_60 ?_
  replace hp := q_let_of hp
  obtain ⟨f1, hz, hp⟩ := hp
  rw [← hz]
  clear hz
  refine et_aload_n (pc := 5) d_Mod_lay_5 rfl rfl ?_
  refine ev_iconst (pc := 6) d_Mod_lay_6 ?_
  refine et_putz (pc := 7) ok (fl_Mod_135 t) (by decide) d_Mod_lay_7 s_60 ?_
  replace hp := q_let_of hp
  obtain ⟨f2, hz, hp⟩ := hp
  rw [← hz]
  clear hz
  refine et_aload_n (pc := 10) d_Mod_lay_10 rfl rfl ?_
  replace hp := q_bind hp
  obtain ⟨x3, hm4, hp⟩ := hp
  refine et_callVv (pc := 11) (f1 := x3.1) (g1 := x3.2) ok [] [] (cf_Mod_260 t) d_Mod_lay_11 s_60 k_12 rfl (t_Mod_read t ok  f2 g hm4 ⟨rfl, rfl⟩) rfl rfl (by decide) (by decide) (q_ble rfl) ?_
  refine et_aload_n (pc := 14) d_Mod_lay_14 rfl rfl ?_
  refine et_geti (pc := 15) ok (fl_Mod_147 t) rfl d_Mod_lay_15 s_60 ?_
  refine et_if_eq (pc := 18) (tgt := 23) d_Mod_lay_18 (by decide) (fun hj5 => ?_) (fun hj5 => ?_)
  · rw [if_pos hj5] at hp
    refine et_aload_n (pc := 23) d_Mod_lay_23 rfl rfl ?_
    replace hp := q_bind hp
    obtain ⟨x6, hm7, hp⟩ := hp
    refine et_callVi (pc := 24) (f1 := x6.2.1) (g1 := x6.2.2) ok [] [] (cf_Mod_263 t) d_Mod_lay_24 s_60 k_12 rfl (t_Mod_reckonAll t ok  x3.1 x3.2 hm7 ⟨rfl, rfl⟩) rfl rfl (by decide) (by decide) (q_ble rfl) ?_
    refine et_if_ne (pc := 27) (tgt := 32) d_Mod_lay_27 (by decide) (fun hj8 => ?_) (fun hj8 => ?_)
    · rw [if_neg hj8] at hp
      refine et_aload_n (pc := 32) d_Mod_lay_32 rfl rfl ?_
      replace hp := q_bind hp
      obtain ⟨x9, hm10, hp⟩ := hp
      refine et_callVi (pc := 33) (f1 := x9.2.1) (g1 := x9.2.2) ok [] [] (cf_Mod_267 t) d_Mod_lay_33 s_60 k_12 rfl (t_Mod_fits t ok  x6.2.1 x6.2.2 hm10 ⟨rfl, rfl⟩) rfl rfl (by decide) (by decide) (q_ble rfl) ?_
      refine et_if_ne (pc := 36) (tgt := 41) d_Mod_lay_36 (by decide) (fun hj11 => ?_) (fun hj11 => ?_)
      · rw [if_neg hj11] at hp
        refine et_aload_n (pc := 41) d_Mod_lay_41 rfl rfl ?_
        replace hp := q_bind hp
        obtain ⟨x12, hm13, hp⟩ := hp
        refine et_callVi (pc := 42) (f1 := x12.2.1) (g1 := x12.2.2) ok [] [] (cf_Mod_270 t) d_Mod_lay_42 s_60 k_12 rfl (t_Mod_apart t ok  x9.2.1 x9.2.2 hm13 ⟨rfl, rfl⟩) rfl rfl (by decide) (by decide) (q_ble rfl) ?_
        refine et_if_ne (pc := 45) (tgt := 50) d_Mod_lay_45 (by decide) (fun hj14 => ?_) (fun hj14 => ?_)
        · rw [if_neg hj14] at hp
          refine et_aload_n (pc := 50) d_Mod_lay_50 rfl rfl ?_
          replace hp := q_bind hp
          obtain ⟨x15, hm16, hp⟩ := hp
          refine et_callVi (pc := 51) (f1 := x15.2.1) (g1 := x15.2.2) ok [] [] (cf_Mod_273 t) d_Mod_lay_51 s_60 k_12 rfl (t_Mod_copiesWell t ok  x12.2.1 x12.2.2 hm16 ⟨rfl, rfl⟩) rfl rfl (by decide) (by decide) (q_ble rfl) ?_
          refine et_if_ne (pc := 54) (tgt := 59) d_Mod_lay_54 (by decide) (fun hj17 => ?_) (fun hj17 => ?_)
          · rw [if_neg hj17] at hp
            refine et_aload_n (pc := 59) d_Mod_lay_59 rfl rfl ?_
            refine ev_iconst (pc := 60) d_Mod_lay_60 ?_
            refine et_putz (pc := 61) ok (fl_Mod_135 t) (by decide) d_Mod_lay_61 s_60 ?_
            replace hp := q_let_of hp
            obtain ⟨f18, hz, hp⟩ := hp
            rw [← hz]
            clear hz
            refine ev_iconst (pc := 64) d_Mod_lay_64 ?_
            cases Option.some.inj hp
            exact et_iret (pc := 65) d_Mod_lay_65 rfl hQ
          · rw [if_pos hj17] at hp
            refine ev_iconst (pc := 57) d_Mod_lay_57 ?_
            cases Option.some.inj hp
            exact et_iret (pc := 58) d_Mod_lay_58 rfl hQ
        · rw [if_pos hj14] at hp
          refine ev_iconst (pc := 48) d_Mod_lay_48 ?_
          cases Option.some.inj hp
          exact et_iret (pc := 49) d_Mod_lay_49 rfl hQ
      · rw [if_pos hj11] at hp
        refine ev_iconst (pc := 39) d_Mod_lay_39 ?_
        cases Option.some.inj hp
        exact et_iret (pc := 40) d_Mod_lay_40 rfl hQ
    · rw [if_pos hj8] at hp
      refine ev_iconst (pc := 30) d_Mod_lay_30 ?_
      cases Option.some.inj hp
      exact et_iret (pc := 31) d_Mod_lay_31 rfl hQ
  · rw [if_neg hj5] at hp
    refine ev_iconst (pc := 21) d_Mod_lay_21 ?_
    cases Option.some.inj hp
    exact et_iret (pc := 22) d_Mod_lay_22 rfl hQ
theorem d_Mod_bad_0 : decode (m_c m_Mod_bad) 0 = .ok (.aload_n 0, 1) := by decide +kernel
theorem d_Mod_bad_1 : decode (m_c m_Mod_bad) 1 = .ok (.iconst 0, 1) := by decide +kernel
theorem d_Mod_bad_2 : decode (m_c m_Mod_bad) 2 = .ok (.putfield 124, 3) := by decide +kernel
theorem d_Mod_bad_5 : decode (m_c m_Mod_bad) 5 = .ok (.aload_n 0, 1) := by decide +kernel
theorem d_Mod_bad_6 : decode (m_c m_Mod_bad) 6 = .ok (.getfield 29, 3) := by decide +kernel
theorem d_Mod_bad_9 : decode (m_c m_Mod_bad) 9 = .ok (.ireturn, 1) := by decide +kernel
def p_Mod_bad   (f g : q_F) : Option (Int × q_F × q_F) :=
  q_let (ma_up f 60 0 0) fun f1 =>
  some (f1 60 10, f1, g)
theorem t_Mod_bad (t : q_V) (ok : ma_ok (q_G t))  {Q : Option Value → ma_H → Prop} {y : Int × q_F × q_F}  (f g : q_F) (hp : p_Mod_bad   f g = some y) (hQ : Q (some (ma_i y.1)) (q_h y.2.1 y.2.2)) : ma_Met (q_G t) false 0 0 0 0 m_Mod_bad [q_a t (60)] (q_h f g) Q := by
  refine ma_met (by decide +kernel) (q_ble rfl) rfl ?_
  change ma_Ev (q_G t) 0 0 0 0 m_Mod_bad 0 [(0, q_a t (60))] [] (q_h f g) (ma_zr (q_G t) false Q)
  unfold p_Mod_bad at hp
  refine et_aload_n (pc := 0) d_Mod_bad_0 rfl rfl ?_
  refine ev_iconst (pc := 1) d_Mod_bad_1 ?_
  refine et_puti (pc := 2) ok (fl_Mod_124 t) d_Mod_bad_2 s_60 ?_
  replace hp := q_let_of hp
  obtain ⟨f1, hz, hp⟩ := hp
  rw [← hz]
  clear hz
  refine et_aload_n (pc := 5) d_Mod_bad_5 rfl rfl ?_
  refine et_geti (pc := 6) ok (fl_Mod_29 t) rfl d_Mod_bad_6 s_60 ?_
  cases Option.some.inj hp
  exact et_iret (pc := 9) d_Mod_bad_9 rfl hQ
theorem d_Mod_section_0 : decode (m_c m_Mod_section) 0 = .ok (.aload_n 0, 1) := by decide +kernel
theorem d_Mod_section_1 : decode (m_c m_Mod_section) 1 = .ok (.iload_n 2, 1) := by decide +kernel
theorem d_Mod_section_2 : decode (m_c m_Mod_section) 2 = .ok (.iconst 0, 1) := by decide +kernel
theorem d_Mod_section_3 : decode (m_c m_Mod_section) 3 = .ok (.iconst 2, 1) := by decide +kernel
theorem d_Mod_section_4 : decode (m_c m_Mod_section) 4 = .ok (.invokestatic 127, 3) := by decide +kernel
theorem d_Mod_section_7 : decode (m_c m_Mod_section) 7 = .ok (.ifCond .ne 7, 3) := by decide +kernel
theorem d_Mod_section_10 : decode (m_c m_Mod_section) 10 = .ok (.iconst 1, 1) := by decide +kernel
theorem d_Mod_section_11 : decode (m_c m_Mod_section) 11 = .ok (.goto 38, 3) := by decide +kernel
theorem d_Mod_section_14 : decode (m_c m_Mod_section) 14 = .ok (.aload_n 0, 1) := by decide +kernel
theorem d_Mod_section_15 : decode (m_c m_Mod_section) 15 = .ok (.getfield 135, 3) := by decide +kernel
theorem d_Mod_section_18 : decode (m_c m_Mod_section) 18 = .ok (.ifCond .ne 7, 3) := by decide +kernel
theorem d_Mod_section_21 : decode (m_c m_Mod_section) 21 = .ok (.iconst 2, 1) := by decide +kernel
theorem d_Mod_section_22 : decode (m_c m_Mod_section) 22 = .ok (.goto 27, 3) := by decide +kernel
theorem d_Mod_section_25 : decode (m_c m_Mod_section) 25 = .ok (.iload_n 1, 1) := by decide +kernel
theorem d_Mod_section_26 : decode (m_c m_Mod_section) 26 = .ok (.iconst 0, 1) := by decide +kernel
theorem d_Mod_section_27 : decode (m_c m_Mod_section) 27 = .ok (.bipush 7, 2) := by decide +kernel
theorem d_Mod_section_29 : decode (m_c m_Mod_section) 29 = .ok (.invokestatic 127, 3) := by decide +kernel
theorem d_Mod_section_32 : decode (m_c m_Mod_section) 32 = .ok (.ifCond .eq 12, 3) := by decide +kernel
theorem d_Mod_section_35 : decode (m_c m_Mod_section) 35 = .ok (.aload_n 0, 1) := by decide +kernel
theorem d_Mod_section_36 : decode (m_c m_Mod_section) 36 = .ok (.getfield 61, 3) := by decide +kernel
theorem d_Mod_section_39 : decode (m_c m_Mod_section) 39 = .ok (.iload_n 1, 1) := by decide +kernel
theorem d_Mod_section_40 : decode (m_c m_Mod_section) 40 = .ok (.baload, 1) := by decide +kernel
theorem d_Mod_section_41 : decode (m_c m_Mod_section) 41 = .ok (.ifCond .ne 7, 3) := by decide +kernel
theorem d_Mod_section_44 : decode (m_c m_Mod_section) 44 = .ok (.iconst 3, 1) := by decide +kernel
theorem d_Mod_section_45 : decode (m_c m_Mod_section) 45 = .ok (.goto 4, 3) := by decide +kernel
theorem d_Mod_section_48 : decode (m_c m_Mod_section) 48 = .ok (.iconst 0, 1) := by decide +kernel
theorem d_Mod_section_49 : decode (m_c m_Mod_section) 49 = .ok (.putfield 124, 3) := by decide +kernel
theorem d_Mod_section_52 : decode (m_c m_Mod_section) 52 = .ok (.aload_n 0, 1) := by decide +kernel
theorem d_Mod_section_53 : decode (m_c m_Mod_section) 53 = .ok (.getfield 124, 3) := by decide +kernel
theorem d_Mod_section_56 : decode (m_c m_Mod_section) 56 = .ok (.ifCond .le 5, 3) := by decide +kernel
theorem d_Mod_section_59 : decode (m_c m_Mod_section) 59 = .ok (.iconst 0, 1) := by decide +kernel
theorem d_Mod_section_60 : decode (m_c m_Mod_section) 60 = .ok (.ireturn, 1) := by decide +kernel
theorem d_Mod_section_61 : decode (m_c m_Mod_section) 61 = .ok (.iload_n 2, 1) := by decide +kernel
theorem d_Mod_section_62 : decode (m_c m_Mod_section) 62 = .ok (.ifCond .ne 12, 3) := by decide +kernel
theorem d_Mod_section_65 : decode (m_c m_Mod_section) 65 = .ok (.aload_n 0, 1) := by decide +kernel
theorem d_Mod_section_66 : decode (m_c m_Mod_section) 66 = .ok (.getfield 91, 3) := by decide +kernel
theorem d_Mod_section_69 : decode (m_c m_Mod_section) 69 = .ok (.iload_n 1, 1) := by decide +kernel
theorem d_Mod_section_70 : decode (m_c m_Mod_section) 70 = .ok (.iaload, 1) := by decide +kernel
theorem d_Mod_section_71 : decode (m_c m_Mod_section) 71 = .ok (.goto 23, 3) := by decide +kernel
theorem d_Mod_section_74 : decode (m_c m_Mod_section) 74 = .ok (.iload_n 2, 1) := by decide +kernel
theorem d_Mod_section_75 : decode (m_c m_Mod_section) 75 = .ok (.iconst 1, 1) := by decide +kernel
theorem d_Mod_section_76 : decode (m_c m_Mod_section) 76 = .ok (.if_icmp .ne 12, 3) := by decide +kernel
theorem d_Mod_section_79 : decode (m_c m_Mod_section) 79 = .ok (.aload_n 0, 1) := by decide +kernel
theorem d_Mod_section_80 : decode (m_c m_Mod_section) 80 = .ok (.getfield 94, 3) := by decide +kernel
theorem d_Mod_section_83 : decode (m_c m_Mod_section) 83 = .ok (.iload_n 1, 1) := by decide +kernel
theorem d_Mod_section_84 : decode (m_c m_Mod_section) 84 = .ok (.iaload, 1) := by decide +kernel
theorem d_Mod_section_85 : decode (m_c m_Mod_section) 85 = .ok (.goto 9, 3) := by decide +kernel
theorem d_Mod_section_88 : decode (m_c m_Mod_section) 88 = .ok (.aload_n 0, 1) := by decide +kernel
theorem d_Mod_section_89 : decode (m_c m_Mod_section) 89 = .ok (.getfield 97, 3) := by decide +kernel
theorem d_Mod_section_92 : decode (m_c m_Mod_section) 92 = .ok (.iload_n 1, 1) := by decide +kernel
theorem d_Mod_section_93 : decode (m_c m_Mod_section) 93 = .ok (.iaload, 1) := by decide +kernel
theorem d_Mod_section_94 : decode (m_c m_Mod_section) 94 = .ok (.ireturn, 1) := by decide +kernel
def p_Mod_section_94   (s0 : Int) (f g : q_F) : Option (Int × q_F × q_F) :=
  some (s0, f, g)
def p_Mod_section_49   (v1 : Int) (v2 : Int) (s0 : Int) (f g : q_F) : Option (Int × q_F × q_F) :=
  q_let (ma_up f 60 0 s0) fun f1 =>
  if q_sw (f1 60 0) ≤ 0 then
    if q_sw v2 = 0 then
      if 0 ≤ v1 ∧ v1 < 8 then
        p_Mod_section_94   (f1 86 (Int.toNat v1)) f1 g
      else none
    else
      if q_sw v2 = q_sw 1 then
        if 0 ≤ v1 ∧ v1 < 8 then
          p_Mod_section_94   (f1 87 (Int.toNat v1)) f1 g
        else none
      else
        if 0 ≤ v1 ∧ v1 < 8 then
          p_Mod_section_94   (f1 88 (Int.toNat v1)) f1 g
        else none
  else
    some (0, f1, g)
def p_Mod_section_44   (v1 : Int) (v2 : Int) (f g : q_F) : Option (Int × q_F × q_F) :=
  p_Mod_section_49   (v1) (v2) (3) f g
def p_Mod_section  (v1 : Int) (v2 : Int) (f g : q_F) : Option (Int × q_F × q_F) :=
  (p_Mod_within (v2) (0) (2) f g).bind fun x1 =>
  if q_sw x1.1 = 0 then
    p_Mod_section_49   (v1) (v2) (1) x1.2.1 x1.2.2
  else
    if q_sw (x1.2.1 60 45) = 0 then
      p_Mod_section_49   (v1) (v2) (2) x1.2.1 x1.2.2
    else
      (p_Mod_within (v1) (0) (7) x1.2.1 x1.2.2).bind fun x5 =>
      if q_sw x5.1 = 0 then
        p_Mod_section_44   (v1) (v2) x5.2.1 x5.2.2
      else
        if 0 ≤ v1 ∧ v1 < 8 then
          if q_sw (x5.2.1 76 (Int.toNat v1)) = 0 then
            p_Mod_section_44   (v1) (v2) x5.2.1 x5.2.2
          else
            p_Mod_section_49   (v1) (v2) (0) x5.2.1 x5.2.2
        else none
theorem e_Mod_section_94 (t : q_V) (ok : ma_ok (q_G t))  {Q : Option Value → ma_H → Prop} {y : Int × q_F × q_F} (hQ : Q (some (ma_i y.1)) (q_h y.2.1 y.2.2))   (s0 : Int) (f g : q_F) (hp : p_Mod_section_94   s0 f g = some y) : ma_Ev (q_G t) 1 22 0 0 m_Mod_section 94 [] [ma_i (s0)] (q_h f g) (ma_zr (q_G t) false Q) := by
  unfold p_Mod_section_94 at hp
  cases Option.some.inj hp
  exact et_iret (pc := 94) d_Mod_section_94 rfl hQ
theorem e_Mod_section_49 (t : q_V) (ok : ma_ok (q_G t))  {Q : Option Value → ma_H → Prop} {y : Int × q_F × q_F} (hQ : Q (some (ma_i y.1)) (q_h y.2.1 y.2.2))   (v1 : Int) (v2 : Int) (s0 : Int) (f g : q_F) (hp : p_Mod_section_49   v1 v2 s0 f g = some y) : ma_Ev (q_G t) 1 22 0 0 m_Mod_section 49 [(0, q_a t (60)), (1, ma_i (v1)), (2, ma_i (v2))] [ma_i (s0), q_a t (60)] (q_h f g) (ma_zr (q_G t) false Q) := by
  unfold p_Mod_section_49 at hp
  refine et_puti (pc := 49) ok (fl_Mod_124 t) d_Mod_section_49 s_60 ?_
  replace hp := q_let_of hp
  obtain ⟨f1, hz, hp⟩ := hp
  rw [← hz]
  clear hz
  refine et_aload_n (pc := 52) d_Mod_section_52 rfl rfl ?_
  refine et_geti (pc := 53) ok (fl_Mod_124 t) rfl d_Mod_section_53 s_60 ?_
  refine et_if_le (pc := 56) (tgt := 61) d_Mod_section_56 (by decide) (fun hj2 => ?_) (fun hj2 => ?_)
  · rw [if_pos hj2] at hp
    refine ev_iload_n (pc := 61) d_Mod_section_61 rfl rfl ?_
    refine et_if_ne (pc := 62) (tgt := 74) d_Mod_section_62 (by decide) (fun hj3 => ?_) (fun hj3 => ?_)
    · rw [if_neg hj3] at hp
      refine ev_iload_n (pc := 74) d_Mod_section_74 rfl rfl ?_
      refine ev_iconst (pc := 75) d_Mod_section_75 ?_
      refine et_icmp_ne (pc := 76) (tgt := 88) d_Mod_section_76 (by decide) (fun hj4 => ?_) (fun hj4 => ?_)
      · rw [if_neg hj4] at hp
        refine et_aload_n (pc := 88) d_Mod_section_88 rfl rfl ?_
        refine et_getr (pc := 89) ok (fl_Mod_97 t) rfl d_Mod_section_89 s_60 r_60_36 ?_
        refine ev_iload_n (pc := 92) d_Mod_section_92 rfl rfl ?_
        replace hp := q_if hp
        obtain ⟨hb5, hp⟩ := hp
        refine et_iald (pc := 93) d_Mod_section_93 s_88 hb5 (by decide) ?_
        refine ev_sub (ls2 := []) [] rfl ?_
        exact e_Mod_section_94 t ok  hQ   (f1 88 (Int.toNat v1)) f1 g hp
      · rw [if_pos hj4] at hp
        refine et_aload_n (pc := 79) d_Mod_section_79 rfl rfl ?_
        refine et_getr (pc := 80) ok (fl_Mod_94 t) rfl d_Mod_section_80 s_60 r_60_35 ?_
        refine ev_iload_n (pc := 83) d_Mod_section_83 rfl rfl ?_
        replace hp := q_if hp
        obtain ⟨hb6, hp⟩ := hp
        refine et_iald (pc := 84) d_Mod_section_84 s_87 hb6 (by decide) ?_
        refine ev_goto (pc := 85) (tgt := 94) d_Mod_section_85 (by decide) ?_
        refine ev_sub (ls2 := []) [] rfl ?_
        exact e_Mod_section_94 t ok  hQ   (f1 87 (Int.toNat v1)) f1 g hp
    · rw [if_pos hj3] at hp
      refine et_aload_n (pc := 65) d_Mod_section_65 rfl rfl ?_
      refine et_getr (pc := 66) ok (fl_Mod_91 t) rfl d_Mod_section_66 s_60 r_60_34 ?_
      refine ev_iload_n (pc := 69) d_Mod_section_69 rfl rfl ?_
      replace hp := q_if hp
      obtain ⟨hb7, hp⟩ := hp
      refine et_iald (pc := 70) d_Mod_section_70 s_86 hb7 (by decide) ?_
      refine ev_goto (pc := 71) (tgt := 94) d_Mod_section_71 (by decide) ?_
      refine ev_sub (ls2 := []) [] rfl ?_
      exact e_Mod_section_94 t ok  hQ   (f1 86 (Int.toNat v1)) f1 g hp
  · rw [if_neg hj2] at hp
    refine ev_iconst (pc := 59) d_Mod_section_59 ?_
    cases Option.some.inj hp
    exact et_iret (pc := 60) d_Mod_section_60 rfl hQ
theorem e_Mod_section_44 (t : q_V) (ok : ma_ok (q_G t))  {Q : Option Value → ma_H → Prop} {y : Int × q_F × q_F} (hQ : Q (some (ma_i y.1)) (q_h y.2.1 y.2.2))   (v1 : Int) (v2 : Int) (f g : q_F) (hp : p_Mod_section_44   v1 v2 f g = some y) : ma_Ev (q_G t) 1 22 0 0 m_Mod_section 44 [(0, q_a t (60)), (1, ma_i (v1)), (2, ma_i (v2))] [q_a t (60)] (q_h f g) (ma_zr (q_G t) false Q) := by
  unfold p_Mod_section_44 at hp
  refine ev_iconst (pc := 44) d_Mod_section_44 ?_
  refine ev_goto (pc := 45) (tgt := 49) d_Mod_section_45 (by decide) ?_
  refine ev_sub (ls2 := [(0, q_a t (60)), (1, ma_i (v1)), (2, ma_i (v2))]) [0, 1, 2] rfl ?_
  exact e_Mod_section_49 t ok  hQ   (v1) (v2) (3) f g hp
theorem t_Mod_section (t : q_V) (ok : ma_ok (q_G t))  {Q : Option Value → ma_H → Prop} {y : Int × q_F × q_F} (v1 : Int) (v2 : Int) (f g : q_F) (hp : p_Mod_section  v1 v2 f g = some y) (hQ : Q (some (ma_i y.1)) (q_h y.2.1 y.2.2)) : ma_Met (q_G t) false 1 22 0 0 m_Mod_section [q_a t (60), ma_i (v1), ma_i (v2)] (q_h f g) Q := by
  refine ma_met (by decide +kernel) (q_ble rfl) rfl ?_
  change ma_Ev (q_G t) 1 22 0 0 m_Mod_section 0 [(0, q_a t (60)), (1, ma_i (v1)), (2, ma_i (v2))] [] (q_h f g) (ma_zr (q_G t) false Q)
  unfold p_Mod_section at hp
  refine et_aload_n (pc := 0) d_Mod_section_0 rfl rfl ?_
  refine ev_iload_n (pc := 1) d_Mod_section_1 rfl rfl ?_
  refine ev_iconst (pc := 2) d_Mod_section_2 ?_
  refine ev_iconst (pc := 3) d_Mod_section_3 ?_
  replace hp := q_bind hp
  obtain ⟨x1, hm2, hp⟩ := hp
  refine et_callSi (pc := 4) (f1 := x1.2.1) (g1 := x1.2.2) ok [ma_i (v2), ma_i (0), ma_i (2)] [q_a t (60)] (cf_Mod_127 t) d_Mod_section_4 (t_Mod_within t ok (v2) (0) (2) f g hm2 ⟨rfl, rfl⟩) rfl rfl (by decide) (by decide) (q_ble rfl) ?_
  refine et_if_ne (pc := 7) (tgt := 14) d_Mod_section_7 (by decide) (fun hj3 => ?_) (fun hj3 => ?_)
  · rw [if_neg hj3] at hp
    refine et_aload_n (pc := 14) d_Mod_section_14 rfl rfl ?_
    refine et_geti (pc := 15) ok (fl_Mod_135 t) rfl d_Mod_section_15 s_60 ?_
    refine et_if_ne (pc := 18) (tgt := 25) d_Mod_section_18 (by decide) (fun hj4 => ?_) (fun hj4 => ?_)
    · rw [if_neg hj4] at hp
      refine ev_iload_n (pc := 25) d_Mod_section_25 rfl rfl ?_
      refine ev_iconst (pc := 26) d_Mod_section_26 ?_
      refine ev_bipush (pc := 27) d_Mod_section_27 rfl ?_
      replace hp := q_bind hp
      obtain ⟨x5, hm6, hp⟩ := hp
      refine et_callSi (pc := 29) (f1 := x5.2.1) (g1 := x5.2.2) ok [ma_i (v1), ma_i (0), ma_i (7)] [q_a t (60)] (cf_Mod_127 t) d_Mod_section_29 (t_Mod_within t ok (v1) (0) (7) x1.2.1 x1.2.2 hm6 ⟨rfl, rfl⟩) rfl rfl (by decide) (by decide) (q_ble rfl) ?_
      refine et_if_eq (pc := 32) (tgt := 44) d_Mod_section_32 (by decide) (fun hj7 => ?_) (fun hj7 => ?_)
      · rw [if_pos hj7] at hp
        refine ev_sub (ls2 := [(0, q_a t (60)), (1, ma_i (v1)), (2, ma_i (v2))]) [0, 1, 2] rfl ?_
        exact e_Mod_section_44 t ok  hQ   (v1) (v2) x5.2.1 x5.2.2 hp
      · rw [if_neg hj7] at hp
        refine et_aload_n (pc := 35) d_Mod_section_35 rfl rfl ?_
        refine et_getr (pc := 36) ok (fl_Mod_61 t) rfl d_Mod_section_36 s_60 r_60_24 ?_
        refine ev_iload_n (pc := 39) d_Mod_section_39 rfl rfl ?_
        replace hp := q_if hp
        obtain ⟨hb8, hp⟩ := hp
        refine et_zald (pc := 40) d_Mod_section_40 s_76 hb8 (by decide) ?_
        refine et_if_ne (pc := 41) (tgt := 48) d_Mod_section_41 (by decide) (fun hj9 => ?_) (fun hj9 => ?_)
        · rw [if_neg hj9] at hp
          refine ev_iconst (pc := 48) d_Mod_section_48 ?_
          refine ev_sub (ls2 := [(0, q_a t (60)), (1, ma_i (v1)), (2, ma_i (v2))]) [0, 1, 2] rfl ?_
          exact e_Mod_section_49 t ok  hQ   (v1) (v2) (0) x5.2.1 x5.2.2 hp
        · rw [if_pos hj9] at hp
          refine ev_sub (ls2 := [(0, q_a t (60)), (1, ma_i (v1)), (2, ma_i (v2))]) [0, 1, 2] rfl ?_
          exact e_Mod_section_44 t ok  hQ   (v1) (v2) x5.2.1 x5.2.2 hp
    · rw [if_pos hj4] at hp
      refine ev_iconst (pc := 21) d_Mod_section_21 ?_
      refine ev_goto (pc := 22) (tgt := 49) d_Mod_section_22 (by decide) ?_
      refine ev_sub (ls2 := [(0, q_a t (60)), (1, ma_i (v1)), (2, ma_i (v2))]) [0, 1, 2] rfl ?_
      exact e_Mod_section_49 t ok  hQ   (v1) (v2) (2) x1.2.1 x1.2.2 hp
  · rw [if_pos hj3] at hp
    refine ev_iconst (pc := 10) d_Mod_section_10 ?_
    refine ev_goto (pc := 11) (tgt := 49) d_Mod_section_11 (by decide) ?_
    refine ev_sub (ls2 := [(0, q_a t (60)), (1, ma_i (v1)), (2, ma_i (v2))]) [0, 1, 2] rfl ?_
    exact e_Mod_section_49 t ok  hQ   (v1) (v2) (1) x1.2.1 x1.2.2 hp
theorem d_Mod_put_0 : decode (m_c m_Mod_put) 0 = .ok (.aload_n 0, 1) := by decide +kernel
theorem d_Mod_put_1 : decode (m_c m_Mod_put) 1 = .ok (.iload_n 1, 1) := by decide +kernel
theorem d_Mod_put_2 : decode (m_c m_Mod_put) 2 = .ok (.iconst 0, 1) := by decide +kernel
theorem d_Mod_put_3 : decode (m_c m_Mod_put) 3 = .ok (.bipush 7, 2) := by decide +kernel
theorem d_Mod_put_5 : decode (m_c m_Mod_put) 5 = .ok (.invokestatic 127, 3) := by decide +kernel
theorem d_Mod_put_8 : decode (m_c m_Mod_put) 8 = .ok (.ifCond .ne 7, 3) := by decide +kernel
theorem d_Mod_put_11 : decode (m_c m_Mod_put) 11 = .ok (.iconst 1, 1) := by decide +kernel
theorem d_Mod_put_12 : decode (m_c m_Mod_put) 12 = .ok (.goto 15, 3) := by decide +kernel
theorem d_Mod_put_15 : decode (m_c m_Mod_put) 15 = .ok (.aload_n 0, 1) := by decide +kernel
theorem d_Mod_put_16 : decode (m_c m_Mod_put) 16 = .ok (.getfield 135, 3) := by decide +kernel
theorem d_Mod_put_19 : decode (m_c m_Mod_put) 19 = .ok (.ifCond .eq 7, 3) := by decide +kernel
theorem d_Mod_put_22 : decode (m_c m_Mod_put) 22 = .ok (.iconst 0, 1) := by decide +kernel
theorem d_Mod_put_23 : decode (m_c m_Mod_put) 23 = .ok (.goto 4, 3) := by decide +kernel
theorem d_Mod_put_26 : decode (m_c m_Mod_put) 26 = .ok (.iconst 2, 1) := by decide +kernel
theorem d_Mod_put_27 : decode (m_c m_Mod_put) 27 = .ok (.putfield 124, 3) := by decide +kernel
theorem d_Mod_put_30 : decode (m_c m_Mod_put) 30 = .ok (.aload_n 0, 1) := by decide +kernel
theorem d_Mod_put_31 : decode (m_c m_Mod_put) 31 = .ok (.getfield 124, 3) := by decide +kernel
theorem d_Mod_put_34 : decode (m_c m_Mod_put) 34 = .ok (.ifCond .le 7, 3) := by decide +kernel
theorem d_Mod_put_37 : decode (m_c m_Mod_put) 37 = .ok (.iconst 0, 1) := by decide +kernel
theorem d_Mod_put_38 : decode (m_c m_Mod_put) 38 = .ok (.goto 9, 3) := by decide +kernel
theorem d_Mod_put_41 : decode (m_c m_Mod_put) 41 = .ok (.aload_n 0, 1) := by decide +kernel
theorem d_Mod_put_42 : decode (m_c m_Mod_put) 42 = .ok (.getfield 19, 3) := by decide +kernel
theorem d_Mod_put_45 : decode (m_c m_Mod_put) 45 = .ok (.iload_n 1, 1) := by decide +kernel
theorem d_Mod_put_46 : decode (m_c m_Mod_put) 46 = .ok (.iaload, 1) := by decide +kernel
theorem d_Mod_put_47 : decode (m_c m_Mod_put) 47 = .ok (.ireturn, 1) := by decide +kernel
def p_Mod_put_47   (s0 : Int) (f g : q_F) : Option (Int × q_F × q_F) :=
  some (s0, f, g)
def p_Mod_put_27   (v1 : Int) (s0 : Int) (f g : q_F) : Option (Int × q_F × q_F) :=
  q_let (ma_up f 60 0 s0) fun f1 =>
  if q_sw (f1 60 0) ≤ 0 then
    if 0 ≤ v1 ∧ v1 < 8 then
      p_Mod_put_47   (f1 64 (Int.toNat v1)) f1 g
    else none
  else
    p_Mod_put_47   (0) f1 g
def p_Mod_put  (v1 : Int) (f g : q_F) : Option (Int × q_F × q_F) :=
  (p_Mod_within (v1) (0) (7) f g).bind fun x1 =>
  if q_sw x1.1 = 0 then
    p_Mod_put_27   (v1) (1) x1.2.1 x1.2.2
  else
    if q_sw (x1.2.1 60 45) = 0 then
      p_Mod_put_27   (v1) (2) x1.2.1 x1.2.2
    else
      p_Mod_put_27   (v1) (0) x1.2.1 x1.2.2
theorem e_Mod_put_47 (t : q_V) (ok : ma_ok (q_G t))  {Q : Option Value → ma_H → Prop} {y : Int × q_F × q_F} (hQ : Q (some (ma_i y.1)) (q_h y.2.1 y.2.2))   (s0 : Int) (f g : q_F) (hp : p_Mod_put_47   s0 f g = some y) : ma_Ev (q_G t) 1 22 0 0 m_Mod_put 47 [] [ma_i (s0)] (q_h f g) (ma_zr (q_G t) false Q) := by
  unfold p_Mod_put_47 at hp
  cases Option.some.inj hp
  exact et_iret (pc := 47) d_Mod_put_47 rfl hQ
theorem e_Mod_put_27 (t : q_V) (ok : ma_ok (q_G t))  {Q : Option Value → ma_H → Prop} {y : Int × q_F × q_F} (hQ : Q (some (ma_i y.1)) (q_h y.2.1 y.2.2))   (v1 : Int) (s0 : Int) (f g : q_F) (hp : p_Mod_put_27   v1 s0 f g = some y) : ma_Ev (q_G t) 1 22 0 0 m_Mod_put 27 [(0, q_a t (60)), (1, ma_i (v1))] [ma_i (s0), q_a t (60)] (q_h f g) (ma_zr (q_G t) false Q) := by
  unfold p_Mod_put_27 at hp
  refine et_puti (pc := 27) ok (fl_Mod_124 t) d_Mod_put_27 s_60 ?_
  replace hp := q_let_of hp
  obtain ⟨f1, hz, hp⟩ := hp
  rw [← hz]
  clear hz
  refine et_aload_n (pc := 30) d_Mod_put_30 rfl rfl ?_
  refine et_geti (pc := 31) ok (fl_Mod_124 t) rfl d_Mod_put_31 s_60 ?_
  refine et_if_le (pc := 34) (tgt := 41) d_Mod_put_34 (by decide) (fun hj2 => ?_) (fun hj2 => ?_)
  · rw [if_pos hj2] at hp
    refine et_aload_n (pc := 41) d_Mod_put_41 rfl rfl ?_
    refine et_getr (pc := 42) ok (fl_Mod_19 t) rfl d_Mod_put_42 s_60 r_60_4 ?_
    refine ev_iload_n (pc := 45) d_Mod_put_45 rfl rfl ?_
    replace hp := q_if hp
    obtain ⟨hb3, hp⟩ := hp
    refine et_iald (pc := 46) d_Mod_put_46 s_64 hb3 (by decide) ?_
    refine ev_sub (ls2 := []) [] rfl ?_
    exact e_Mod_put_47 t ok  hQ   (f1 64 (Int.toNat v1)) f1 g hp
  · rw [if_neg hj2] at hp
    refine ev_iconst (pc := 37) d_Mod_put_37 ?_
    refine ev_goto (pc := 38) (tgt := 47) d_Mod_put_38 (by decide) ?_
    refine ev_sub (ls2 := []) [] rfl ?_
    exact e_Mod_put_47 t ok  hQ   (0) f1 g hp
theorem t_Mod_put (t : q_V) (ok : ma_ok (q_G t))  {Q : Option Value → ma_H → Prop} {y : Int × q_F × q_F} (v1 : Int) (f g : q_F) (hp : p_Mod_put  v1 f g = some y) (hQ : Q (some (ma_i y.1)) (q_h y.2.1 y.2.2)) : ma_Met (q_G t) false 1 22 0 0 m_Mod_put [q_a t (60), ma_i (v1)] (q_h f g) Q := by
  refine ma_met (by decide +kernel) (q_ble rfl) rfl ?_
  change ma_Ev (q_G t) 1 22 0 0 m_Mod_put 0 [(0, q_a t (60)), (1, ma_i (v1))] [] (q_h f g) (ma_zr (q_G t) false Q)
  unfold p_Mod_put at hp
  refine et_aload_n (pc := 0) d_Mod_put_0 rfl rfl ?_
  refine ev_iload_n (pc := 1) d_Mod_put_1 rfl rfl ?_
  refine ev_iconst (pc := 2) d_Mod_put_2 ?_
  refine ev_bipush (pc := 3) d_Mod_put_3 rfl ?_
  replace hp := q_bind hp
  obtain ⟨x1, hm2, hp⟩ := hp
  refine et_callSi (pc := 5) (f1 := x1.2.1) (g1 := x1.2.2) ok [ma_i (v1), ma_i (0), ma_i (7)] [q_a t (60)] (cf_Mod_127 t) d_Mod_put_5 (t_Mod_within t ok (v1) (0) (7) f g hm2 ⟨rfl, rfl⟩) rfl rfl (by decide) (by decide) (q_ble rfl) ?_
  refine et_if_ne (pc := 8) (tgt := 15) d_Mod_put_8 (by decide) (fun hj3 => ?_) (fun hj3 => ?_)
  · rw [if_neg hj3] at hp
    refine et_aload_n (pc := 15) d_Mod_put_15 rfl rfl ?_
    refine et_geti (pc := 16) ok (fl_Mod_135 t) rfl d_Mod_put_16 s_60 ?_
    refine et_if_eq (pc := 19) (tgt := 26) d_Mod_put_19 (by decide) (fun hj4 => ?_) (fun hj4 => ?_)
    · rw [if_pos hj4] at hp
      refine ev_iconst (pc := 26) d_Mod_put_26 ?_
      refine ev_sub (ls2 := [(0, q_a t (60)), (1, ma_i (v1))]) [0, 1] rfl ?_
      exact e_Mod_put_27 t ok  hQ   (v1) (2) x1.2.1 x1.2.2 hp
    · rw [if_neg hj4] at hp
      refine ev_iconst (pc := 22) d_Mod_put_22 ?_
      refine ev_goto (pc := 23) (tgt := 27) d_Mod_put_23 (by decide) ?_
      refine ev_sub (ls2 := [(0, q_a t (60)), (1, ma_i (v1))]) [0, 1] rfl ?_
      exact e_Mod_put_27 t ok  hQ   (v1) (0) x1.2.1 x1.2.2 hp
  · rw [if_pos hj3] at hp
    refine ev_iconst (pc := 11) d_Mod_put_11 ?_
    refine ev_goto (pc := 12) (tgt := 27) d_Mod_put_12 (by decide) ?_
    refine ev_sub (ls2 := [(0, q_a t (60)), (1, ma_i (v1))]) [0, 1] rfl ?_
    exact e_Mod_put_27 t ok  hQ   (v1) (1) x1.2.1 x1.2.2 hp
theorem d_Mod_symbol_0 : decode (m_c m_Mod_symbol) 0 = .ok (.aload_n 0, 1) := by decide +kernel
theorem d_Mod_symbol_1 : decode (m_c m_Mod_symbol) 1 = .ok (.iload_n 1, 1) := by decide +kernel
theorem d_Mod_symbol_2 : decode (m_c m_Mod_symbol) 2 = .ok (.bipush 8, 2) := by decide +kernel
theorem d_Mod_symbol_4 : decode (m_c m_Mod_symbol) 4 = .ok (.bipush 25, 2) := by decide +kernel
theorem d_Mod_symbol_6 : decode (m_c m_Mod_symbol) 6 = .ok (.invokestatic 127, 3) := by decide +kernel
theorem d_Mod_symbol_9 : decode (m_c m_Mod_symbol) 9 = .ok (.ifCond .ne 7, 3) := by decide +kernel
theorem d_Mod_symbol_12 : decode (m_c m_Mod_symbol) 12 = .ok (.iconst 1, 1) := by decide +kernel
theorem d_Mod_symbol_13 : decode (m_c m_Mod_symbol) 13 = .ok (.goto 28, 3) := by decide +kernel
theorem d_Mod_symbol_16 : decode (m_c m_Mod_symbol) 16 = .ok (.aload_n 0, 1) := by decide +kernel
theorem d_Mod_symbol_17 : decode (m_c m_Mod_symbol) 17 = .ok (.getfield 135, 3) := by decide +kernel
theorem d_Mod_symbol_20 : decode (m_c m_Mod_symbol) 20 = .ok (.ifCond .ne 7, 3) := by decide +kernel
theorem d_Mod_symbol_23 : decode (m_c m_Mod_symbol) 23 = .ok (.iconst 2, 1) := by decide +kernel
theorem d_Mod_symbol_24 : decode (m_c m_Mod_symbol) 24 = .ok (.goto 17, 3) := by decide +kernel
theorem d_Mod_symbol_27 : decode (m_c m_Mod_symbol) 27 = .ok (.aload_n 0, 1) := by decide +kernel
theorem d_Mod_symbol_28 : decode (m_c m_Mod_symbol) 28 = .ok (.getfield 103, 3) := by decide +kernel
theorem d_Mod_symbol_31 : decode (m_c m_Mod_symbol) 31 = .ok (.iload_n 1, 1) := by decide +kernel
theorem d_Mod_symbol_32 : decode (m_c m_Mod_symbol) 32 = .ok (.baload, 1) := by decide +kernel
theorem d_Mod_symbol_33 : decode (m_c m_Mod_symbol) 33 = .ok (.ifCond .eq 7, 3) := by decide +kernel
theorem d_Mod_symbol_36 : decode (m_c m_Mod_symbol) 36 = .ok (.iconst 0, 1) := by decide +kernel
theorem d_Mod_symbol_37 : decode (m_c m_Mod_symbol) 37 = .ok (.goto 4, 3) := by decide +kernel
theorem d_Mod_symbol_40 : decode (m_c m_Mod_symbol) 40 = .ok (.iconst 3, 1) := by decide +kernel
theorem d_Mod_symbol_41 : decode (m_c m_Mod_symbol) 41 = .ok (.putfield 124, 3) := by decide +kernel
theorem d_Mod_symbol_44 : decode (m_c m_Mod_symbol) 44 = .ok (.aload_n 0, 1) := by decide +kernel
theorem d_Mod_symbol_45 : decode (m_c m_Mod_symbol) 45 = .ok (.getfield 124, 3) := by decide +kernel
theorem d_Mod_symbol_48 : decode (m_c m_Mod_symbol) 48 = .ok (.ifCond .le 7, 3) := by decide +kernel
theorem d_Mod_symbol_51 : decode (m_c m_Mod_symbol) 51 = .ok (.iconst 0, 1) := by decide +kernel
theorem d_Mod_symbol_52 : decode (m_c m_Mod_symbol) 52 = .ok (.goto 9, 3) := by decide +kernel
theorem d_Mod_symbol_55 : decode (m_c m_Mod_symbol) 55 = .ok (.aload_n 0, 1) := by decide +kernel
theorem d_Mod_symbol_56 : decode (m_c m_Mod_symbol) 56 = .ok (.getfield 118, 3) := by decide +kernel
theorem d_Mod_symbol_59 : decode (m_c m_Mod_symbol) 59 = .ok (.iload_n 1, 1) := by decide +kernel
theorem d_Mod_symbol_60 : decode (m_c m_Mod_symbol) 60 = .ok (.iaload, 1) := by decide +kernel
theorem d_Mod_symbol_61 : decode (m_c m_Mod_symbol) 61 = .ok (.ireturn, 1) := by decide +kernel
def p_Mod_symbol_61   (s0 : Int) (f g : q_F) : Option (Int × q_F × q_F) :=
  some (s0, f, g)
def p_Mod_symbol_41   (v1 : Int) (s0 : Int) (f g : q_F) : Option (Int × q_F × q_F) :=
  q_let (ma_up f 60 0 s0) fun f1 =>
  if q_sw (f1 60 0) ≤ 0 then
    if 0 ≤ v1 ∧ v1 < 26 then
      p_Mod_symbol_61   (f1 95 (Int.toNat v1)) f1 g
    else none
  else
    p_Mod_symbol_61   (0) f1 g
def p_Mod_symbol  (v1 : Int) (f g : q_F) : Option (Int × q_F × q_F) :=
  (p_Mod_within (v1) (8) (25) f g).bind fun x1 =>
  if q_sw x1.1 = 0 then
    p_Mod_symbol_41   (v1) (1) x1.2.1 x1.2.2
  else
    if q_sw (x1.2.1 60 45) = 0 then
      p_Mod_symbol_41   (v1) (2) x1.2.1 x1.2.2
    else
      if 0 ≤ v1 ∧ v1 < 26 then
        if q_sw (x1.2.1 90 (Int.toNat v1)) = 0 then
          p_Mod_symbol_41   (v1) (3) x1.2.1 x1.2.2
        else
          p_Mod_symbol_41   (v1) (0) x1.2.1 x1.2.2
      else none
theorem e_Mod_symbol_61 (t : q_V) (ok : ma_ok (q_G t))  {Q : Option Value → ma_H → Prop} {y : Int × q_F × q_F} (hQ : Q (some (ma_i y.1)) (q_h y.2.1 y.2.2))   (s0 : Int) (f g : q_F) (hp : p_Mod_symbol_61   s0 f g = some y) : ma_Ev (q_G t) 1 22 0 0 m_Mod_symbol 61 [] [ma_i (s0)] (q_h f g) (ma_zr (q_G t) false Q) := by
  unfold p_Mod_symbol_61 at hp
  cases Option.some.inj hp
  exact et_iret (pc := 61) d_Mod_symbol_61 rfl hQ
theorem e_Mod_symbol_41 (t : q_V) (ok : ma_ok (q_G t))  {Q : Option Value → ma_H → Prop} {y : Int × q_F × q_F} (hQ : Q (some (ma_i y.1)) (q_h y.2.1 y.2.2))   (v1 : Int) (s0 : Int) (f g : q_F) (hp : p_Mod_symbol_41   v1 s0 f g = some y) : ma_Ev (q_G t) 1 22 0 0 m_Mod_symbol 41 [(0, q_a t (60)), (1, ma_i (v1))] [ma_i (s0), q_a t (60)] (q_h f g) (ma_zr (q_G t) false Q) := by
  unfold p_Mod_symbol_41 at hp
  refine et_puti (pc := 41) ok (fl_Mod_124 t) d_Mod_symbol_41 s_60 ?_
  replace hp := q_let_of hp
  obtain ⟨f1, hz, hp⟩ := hp
  rw [← hz]
  clear hz
  refine et_aload_n (pc := 44) d_Mod_symbol_44 rfl rfl ?_
  refine et_geti (pc := 45) ok (fl_Mod_124 t) rfl d_Mod_symbol_45 s_60 ?_
  refine et_if_le (pc := 48) (tgt := 55) d_Mod_symbol_48 (by decide) (fun hj2 => ?_) (fun hj2 => ?_)
  · rw [if_pos hj2] at hp
    refine et_aload_n (pc := 55) d_Mod_symbol_55 rfl rfl ?_
    refine et_getr (pc := 56) ok (fl_Mod_118 t) rfl d_Mod_symbol_56 s_60 r_60_44 ?_
    refine ev_iload_n (pc := 59) d_Mod_symbol_59 rfl rfl ?_
    replace hp := q_if hp
    obtain ⟨hb3, hp⟩ := hp
    refine et_iald (pc := 60) d_Mod_symbol_60 s_95 hb3 (by decide) ?_
    refine ev_sub (ls2 := []) [] rfl ?_
    exact e_Mod_symbol_61 t ok  hQ   (f1 95 (Int.toNat v1)) f1 g hp
  · rw [if_neg hj2] at hp
    refine ev_iconst (pc := 51) d_Mod_symbol_51 ?_
    refine ev_goto (pc := 52) (tgt := 61) d_Mod_symbol_52 (by decide) ?_
    refine ev_sub (ls2 := []) [] rfl ?_
    exact e_Mod_symbol_61 t ok  hQ   (0) f1 g hp
theorem t_Mod_symbol (t : q_V) (ok : ma_ok (q_G t))  {Q : Option Value → ma_H → Prop} {y : Int × q_F × q_F} (v1 : Int) (f g : q_F) (hp : p_Mod_symbol  v1 f g = some y) (hQ : Q (some (ma_i y.1)) (q_h y.2.1 y.2.2)) : ma_Met (q_G t) false 1 22 0 0 m_Mod_symbol [q_a t (60), ma_i (v1)] (q_h f g) Q := by
  refine ma_met (by decide +kernel) (q_ble rfl) rfl ?_
  change ma_Ev (q_G t) 1 22 0 0 m_Mod_symbol 0 [(0, q_a t (60)), (1, ma_i (v1))] [] (q_h f g) (ma_zr (q_G t) false Q)
  unfold p_Mod_symbol at hp
  refine et_aload_n (pc := 0) d_Mod_symbol_0 rfl rfl ?_
  refine ev_iload_n (pc := 1) d_Mod_symbol_1 rfl rfl ?_
  refine ev_bipush (pc := 2) d_Mod_symbol_2 rfl ?_
  refine ev_bipush (pc := 4) d_Mod_symbol_4 rfl ?_
  replace hp := q_bind hp
  obtain ⟨x1, hm2, hp⟩ := hp
  refine et_callSi (pc := 6) (f1 := x1.2.1) (g1 := x1.2.2) ok [ma_i (v1), ma_i (8), ma_i (25)] [q_a t (60)] (cf_Mod_127 t) d_Mod_symbol_6 (t_Mod_within t ok (v1) (8) (25) f g hm2 ⟨rfl, rfl⟩) rfl rfl (by decide) (by decide) (q_ble rfl) ?_
  refine et_if_ne (pc := 9) (tgt := 16) d_Mod_symbol_9 (by decide) (fun hj3 => ?_) (fun hj3 => ?_)
  · rw [if_neg hj3] at hp
    refine et_aload_n (pc := 16) d_Mod_symbol_16 rfl rfl ?_
    refine et_geti (pc := 17) ok (fl_Mod_135 t) rfl d_Mod_symbol_17 s_60 ?_
    refine et_if_ne (pc := 20) (tgt := 27) d_Mod_symbol_20 (by decide) (fun hj4 => ?_) (fun hj4 => ?_)
    · rw [if_neg hj4] at hp
      refine et_aload_n (pc := 27) d_Mod_symbol_27 rfl rfl ?_
      refine et_getr (pc := 28) ok (fl_Mod_103 t) rfl d_Mod_symbol_28 s_60 r_60_39 ?_
      refine ev_iload_n (pc := 31) d_Mod_symbol_31 rfl rfl ?_
      replace hp := q_if hp
      obtain ⟨hb5, hp⟩ := hp
      refine et_zald (pc := 32) d_Mod_symbol_32 s_90 hb5 (by decide) ?_
      refine et_if_eq (pc := 33) (tgt := 40) d_Mod_symbol_33 (by decide) (fun hj6 => ?_) (fun hj6 => ?_)
      · rw [if_pos hj6] at hp
        refine ev_iconst (pc := 40) d_Mod_symbol_40 ?_
        refine ev_sub (ls2 := [(0, q_a t (60)), (1, ma_i (v1))]) [0, 1] rfl ?_
        exact e_Mod_symbol_41 t ok  hQ   (v1) (3) x1.2.1 x1.2.2 hp
      · rw [if_neg hj6] at hp
        refine ev_iconst (pc := 36) d_Mod_symbol_36 ?_
        refine ev_goto (pc := 37) (tgt := 41) d_Mod_symbol_37 (by decide) ?_
        refine ev_sub (ls2 := [(0, q_a t (60)), (1, ma_i (v1))]) [0, 1] rfl ?_
        exact e_Mod_symbol_41 t ok  hQ   (v1) (0) x1.2.1 x1.2.2 hp
    · rw [if_pos hj4] at hp
      refine ev_iconst (pc := 23) d_Mod_symbol_23 ?_
      refine ev_goto (pc := 24) (tgt := 41) d_Mod_symbol_24 (by decide) ?_
      refine ev_sub (ls2 := [(0, q_a t (60)), (1, ma_i (v1))]) [0, 1] rfl ?_
      exact e_Mod_symbol_41 t ok  hQ   (v1) (2) x1.2.1 x1.2.2 hp
  · rw [if_pos hj3] at hp
    refine ev_iconst (pc := 12) d_Mod_symbol_12 ?_
    refine ev_goto (pc := 13) (tgt := 41) d_Mod_symbol_13 (by decide) ?_
    refine ev_sub (ls2 := [(0, q_a t (60)), (1, ma_i (v1))]) [0, 1] rfl ?_
    exact e_Mod_symbol_41 t ok  hQ   (v1) (1) x1.2.1 x1.2.2 hp
theorem d_Mod_copyAt_0 : decode (m_c m_Mod_copyAt) 0 = .ok (.iload_n 1, 1) := by decide +kernel
theorem d_Mod_copyAt_1 : decode (m_c m_Mod_copyAt) 1 = .ok (.istore_n 2, 1) := by decide +kernel
theorem d_Mod_copyAt_2 : decode (m_c m_Mod_copyAt) 2 = .ok (.iconst 0, 1) := by decide +kernel
theorem d_Mod_copyAt_3 : decode (m_c m_Mod_copyAt) 3 = .ok (.istore_n 3, 1) := by decide +kernel
theorem d_Mod_copyAt_4 : decode (m_c m_Mod_copyAt) 4 = .ok (.iload_n 3, 1) := by decide +kernel
theorem d_Mod_copyAt_5 : decode (m_c m_Mod_copyAt) 5 = .ok (.aload_n 0, 1) := by decide +kernel
theorem d_Mod_copyAt_6 : decode (m_c m_Mod_copyAt) 6 = .ok (.getfield 196, 3) := by decide +kernel
theorem d_Mod_copyAt_9 : decode (m_c m_Mod_copyAt) 9 = .ok (.if_icmp .ge 36, 3) := by decide +kernel
theorem d_Mod_copyAt_12 : decode (m_c m_Mod_copyAt) 12 = .ok (.aload_n 0, 1) := by decide +kernel
theorem d_Mod_copyAt_13 : decode (m_c m_Mod_copyAt) 13 = .ok (.aload_n 0, 1) := by decide +kernel
theorem d_Mod_copyAt_14 : decode (m_c m_Mod_copyAt) 14 = .ok (.getfield 58, 3) := by decide +kernel
theorem d_Mod_copyAt_17 : decode (m_c m_Mod_copyAt) 17 = .ok (.iload_n 3, 1) := by decide +kernel
theorem d_Mod_copyAt_18 : decode (m_c m_Mod_copyAt) 18 = .ok (.iaload, 1) := by decide +kernel
theorem d_Mod_copyAt_19 : decode (m_c m_Mod_copyAt) 19 = .ok (.invokevirtual 257, 3) := by decide +kernel
theorem d_Mod_copyAt_22 : decode (m_c m_Mod_copyAt) 22 = .ok (.ifCond .eq 17, 3) := by decide +kernel
theorem d_Mod_copyAt_25 : decode (m_c m_Mod_copyAt) 25 = .ok (.iload_n 2, 1) := by decide +kernel
theorem d_Mod_copyAt_26 : decode (m_c m_Mod_copyAt) 26 = .ok (.ifCond .ne 10, 3) := by decide +kernel
theorem d_Mod_copyAt_29 : decode (m_c m_Mod_copyAt) 29 = .ok (.aload_n 0, 1) := by decide +kernel
theorem d_Mod_copyAt_30 : decode (m_c m_Mod_copyAt) 30 = .ok (.getfield 58, 3) := by decide +kernel
theorem d_Mod_copyAt_33 : decode (m_c m_Mod_copyAt) 33 = .ok (.iload_n 3, 1) := by decide +kernel
theorem d_Mod_copyAt_34 : decode (m_c m_Mod_copyAt) 34 = .ok (.iaload, 1) := by decide +kernel
theorem d_Mod_copyAt_35 : decode (m_c m_Mod_copyAt) 35 = .ok (.ireturn, 1) := by decide +kernel
theorem d_Mod_copyAt_36 : decode (m_c m_Mod_copyAt) 36 = .ok (.iinc 2 (-1), 3) := by decide +kernel
theorem d_Mod_copyAt_39 : decode (m_c m_Mod_copyAt) 39 = .ok (.iinc 3 1, 3) := by decide +kernel
theorem d_Mod_copyAt_42 : decode (m_c m_Mod_copyAt) 42 = .ok (.goto (-38), 3) := by decide +kernel
theorem d_Mod_copyAt_45 : decode (m_c m_Mod_copyAt) 45 = .ok (.iconst (-1), 1) := by decide +kernel
theorem d_Mod_copyAt_46 : decode (m_c m_Mod_copyAt) 46 = .ok (.ireturn, 1) := by decide +kernel
def p_Mod_copyAt_39  (c4 : Int → Int → q_F → q_F → Option (Int × q_F × q_F)) (v2 : Int) (v3 : Int) (f g : q_F) : Option (Int × q_F × q_F) :=
  q_let (v3 + 1) fun z1 =>
  c4 (v2) (z1) f g
def p_Mod_copyAt_4   : Nat → Int → Int → q_F → q_F → Option (Int × q_F × q_F)
  | 0, _, _, _, _ => none
  | n + 1, v2, v3, f, g =>
    if q_sw (f 60 22) ≤ q_sw v3 then
      some (-1, f, g)
    else
      if 0 ≤ v3 ∧ v3 < 8 then
        (p_Mod_copied (f 75 (Int.toNat v3)) f g).bind fun x3 =>
        if q_sw x3.1 = 0 then
          p_Mod_copyAt_39  (p_Mod_copyAt_4   n) (v2) (v3) x3.2.1 x3.2.2
        else
          if q_sw v2 = 0 then
            if 0 ≤ v3 ∧ v3 < 8 then
              some (x3.2.1 75 (Int.toNat v3), x3.2.1, x3.2.2)
            else none
          else
            q_let (v2 + (-1)) fun z7 =>
            p_Mod_copyAt_39  (p_Mod_copyAt_4   n) (z7) (v3) x3.2.1 x3.2.2
      else none
def p_Mod_copyAt  (v1 : Int) (f g : q_F) : Option (Int × q_F × q_F) :=
  p_Mod_copyAt_4   1000 (v1) (0) f g
theorem e_Mod_copyAt_39 (t : q_V) (ok : ma_ok (q_G t))  {Q : Option Value → ma_H → Prop} {y : Int × q_F × q_F} (hQ : Q (some (ma_i y.1)) (q_h y.2.1 y.2.2)) (c4 : Int → Int → q_F → q_F → Option (Int × q_F × q_F)) (hc4 : ∀ (v2 : Int) (v3 : Int) (f g : q_F), c4 v2 v3 f g = some y → ma_Ev (q_G t) 1 21 0 0 m_Mod_copyAt 4 [(0, q_a t (60)), (2, ma_i (v2)), (3, ma_i (v3))] [] (q_h f g) (ma_zr (q_G t) false Q)) (v2 : Int) (v3 : Int) (f g : q_F) (hp : p_Mod_copyAt_39  c4 v2 v3 f g = some y) : ma_Ev (q_G t) 1 21 0 0 m_Mod_copyAt 39 [(0, q_a t (60)), (2, ma_i (v2)), (3, ma_i (v3))] [] (q_h f g) (ma_zr (q_G t) false Q) := by
  unfold p_Mod_copyAt_39 at hp
  refine ev_iinc (pc := 39) d_Mod_copyAt_39 (by decide) rfl [(3, _), (0, _), (2, _)] rfl ?_
  replace hp := q_let_of hp
  obtain ⟨z1, hz, hp⟩ := hp
  rw [← hz]
  clear hz
  refine ev_goto (pc := 42) (tgt := 4) d_Mod_copyAt_42 (by decide) ?_
  refine ev_sub (ls2 := [(0, q_a t (60)), (2, ma_i (v2)), (3, ma_i (z1))]) [1, 2, 0] rfl ?_
  exact hc4 (v2) (z1) f g hp
theorem e_Mod_copyAt_4 (t : q_V) (ok : ma_ok (q_G t))  {Q : Option Value → ma_H → Prop} {y : Int × q_F × q_F} (hQ : Q (some (ma_i y.1)) (q_h y.2.1 y.2.2))   : ∀ (n : Nat) (v2 : Int) (v3 : Int) (f g : q_F), p_Mod_copyAt_4   n v2 v3 f g = some y → ma_Ev (q_G t) 1 21 0 0 m_Mod_copyAt 4 [(0, q_a t (60)), (2, ma_i (v2)), (3, ma_i (v3))] [] (q_h f g) (ma_zr (q_G t) false Q) := by
  intro n
  induction n with
  | zero =>
    intro v2 v3 f g hp
    rw [p_Mod_copyAt_4] at hp
    cases hp
  | succ n ih =>
    intro v2 v3 f g hp
    rw [p_Mod_copyAt_4] at hp
    refine ev_iload_n (pc := 4) d_Mod_copyAt_4 rfl rfl ?_
    refine et_aload_n (pc := 5) d_Mod_copyAt_5 rfl rfl ?_
    refine et_geti (pc := 6) ok (fl_Mod_196 t) rfl d_Mod_copyAt_6 s_60 ?_
    refine et_icmp_ge (pc := 9) (tgt := 45) d_Mod_copyAt_9 (by decide) (fun hj1 => ?_) (fun hj1 => ?_)
    · rw [if_pos hj1] at hp
      refine ev_iconst (pc := 45) d_Mod_copyAt_45 ?_
      cases Option.some.inj hp
      exact et_iret (pc := 46) d_Mod_copyAt_46 rfl hQ
    · rw [if_neg hj1] at hp
      refine et_aload_n (pc := 12) d_Mod_copyAt_12 rfl rfl ?_
      refine et_aload_n (pc := 13) d_Mod_copyAt_13 rfl rfl ?_
      refine et_getr (pc := 14) ok (fl_Mod_58 t) rfl d_Mod_copyAt_14 s_60 r_60_23 ?_
      refine ev_iload_n (pc := 17) d_Mod_copyAt_17 rfl rfl ?_
      replace hp := q_if hp
      obtain ⟨hb2, hp⟩ := hp
      refine et_iald (pc := 18) d_Mod_copyAt_18 s_75 hb2 (by decide) ?_
      replace hp := q_bind hp
      obtain ⟨x3, hm4, hp⟩ := hp
      refine et_callVi (pc := 19) (f1 := x3.2.1) (g1 := x3.2.2) ok [ma_i (f 75 (Int.toNat v3))] [] (cf_Mod_257 t) d_Mod_copyAt_19 s_60 k_12 rfl (t_Mod_copied t ok (f 75 (Int.toNat v3)) f g hm4 ⟨rfl, rfl⟩) rfl rfl (by decide) (by decide) (q_ble rfl) ?_
      refine et_if_eq (pc := 22) (tgt := 39) d_Mod_copyAt_22 (by decide) (fun hj5 => ?_) (fun hj5 => ?_)
      · rw [if_pos hj5] at hp
        refine ev_sub (ls2 := [(0, q_a t (60)), (2, ma_i (v2)), (3, ma_i (v3))]) [0, 1, 2] rfl ?_
        exact e_Mod_copyAt_39 t ok  hQ (p_Mod_copyAt_4   n) ih (v2) (v3) x3.2.1 x3.2.2 hp
      · rw [if_neg hj5] at hp
        refine ev_iload_n (pc := 25) d_Mod_copyAt_25 rfl rfl ?_
        refine et_if_ne (pc := 26) (tgt := 36) d_Mod_copyAt_26 (by decide) (fun hj6 => ?_) (fun hj6 => ?_)
        · rw [if_neg hj6] at hp
          refine ev_iinc (pc := 36) d_Mod_copyAt_36 (by decide) rfl [(2, _), (0, _), (3, _)] rfl ?_
          replace hp := q_let_of hp
          obtain ⟨z7, hz, hp⟩ := hp
          rw [← hz]
          clear hz
          refine ev_sub (ls2 := [(0, q_a t (60)), (2, ma_i (z7)), (3, ma_i (v3))]) [1, 0, 2] rfl ?_
          exact e_Mod_copyAt_39 t ok  hQ (p_Mod_copyAt_4   n) ih (z7) (v3) x3.2.1 x3.2.2 hp
        · rw [if_pos hj6] at hp
          refine et_aload_n (pc := 29) d_Mod_copyAt_29 rfl rfl ?_
          refine et_getr (pc := 30) ok (fl_Mod_58 t) rfl d_Mod_copyAt_30 s_60 r_60_23 ?_
          refine ev_iload_n (pc := 33) d_Mod_copyAt_33 rfl rfl ?_
          replace hp := q_if hp
          obtain ⟨hb8, hp⟩ := hp
          refine et_iald (pc := 34) d_Mod_copyAt_34 s_75 hb8 (by decide) ?_
          cases Option.some.inj hp
          exact et_iret (pc := 35) d_Mod_copyAt_35 rfl hQ
theorem t_Mod_copyAt (t : q_V) (ok : ma_ok (q_G t))  {Q : Option Value → ma_H → Prop} {y : Int × q_F × q_F} (v1 : Int) (f g : q_F) (hp : p_Mod_copyAt  v1 f g = some y) (hQ : Q (some (ma_i y.1)) (q_h y.2.1 y.2.2)) : ma_Met (q_G t) false 1 21 0 0 m_Mod_copyAt [q_a t (60), ma_i (v1)] (q_h f g) Q := by
  refine ma_met (by decide +kernel) (q_ble rfl) rfl ?_
  change ma_Ev (q_G t) 1 21 0 0 m_Mod_copyAt 0 [(0, q_a t (60)), (1, ma_i (v1))] [] (q_h f g) (ma_zr (q_G t) false Q)
  unfold p_Mod_copyAt at hp
  refine ev_iload_n (pc := 0) d_Mod_copyAt_0 rfl rfl ?_
  refine ev_istore_n (pc := 1) d_Mod_copyAt_1 rfl (by decide) [(2, _), (0, _), (1, _)] rfl ?_
  refine ev_iconst (pc := 2) d_Mod_copyAt_2 ?_
  refine ev_istore_n (pc := 3) d_Mod_copyAt_3 rfl (by decide) [(3, _), (2, _), (0, _), (1, _)] rfl ?_
  refine ev_sub (ls2 := [(0, q_a t (60)), (2, ma_i (v1)), (3, ma_i (0))]) [2, 1, 0] rfl ?_
  exact e_Mod_copyAt_4 t ok  hQ   1000 (v1) (0) f g hp
theorem d_Mod_copies_0 : decode (m_c m_Mod_copies) 0 = .ok (.aload_n 0, 1) := by decide +kernel
theorem d_Mod_copies_1 : decode (m_c m_Mod_copies) 1 = .ok (.aload_n 0, 1) := by decide +kernel
theorem d_Mod_copies_2 : decode (m_c m_Mod_copies) 2 = .ok (.getfield 135, 3) := by decide +kernel
theorem d_Mod_copies_5 : decode (m_c m_Mod_copies) 5 = .ok (.ifCond .eq 7, 3) := by decide +kernel
theorem d_Mod_copies_8 : decode (m_c m_Mod_copies) 8 = .ok (.iconst 0, 1) := by decide +kernel
theorem d_Mod_copies_9 : decode (m_c m_Mod_copies) 9 = .ok (.goto 4, 3) := by decide +kernel
theorem d_Mod_copies_12 : decode (m_c m_Mod_copies) 12 = .ok (.iconst 1, 1) := by decide +kernel
theorem d_Mod_copies_13 : decode (m_c m_Mod_copies) 13 = .ok (.putfield 124, 3) := by decide +kernel
theorem d_Mod_copies_16 : decode (m_c m_Mod_copies) 16 = .ok (.iconst 0, 1) := by decide +kernel
theorem d_Mod_copies_17 : decode (m_c m_Mod_copies) 17 = .ok (.istore_n 1, 1) := by decide +kernel
theorem d_Mod_copies_18 : decode (m_c m_Mod_copies) 18 = .ok (.iconst 0, 1) := by decide +kernel
theorem d_Mod_copies_19 : decode (m_c m_Mod_copies) 19 = .ok (.istore_n 2, 1) := by decide +kernel
theorem d_Mod_copies_20 : decode (m_c m_Mod_copies) 20 = .ok (.iload_n 2, 1) := by decide +kernel
theorem d_Mod_copies_21 : decode (m_c m_Mod_copies) 21 = .ok (.aload_n 0, 1) := by decide +kernel
theorem d_Mod_copies_22 : decode (m_c m_Mod_copies) 22 = .ok (.getfield 196, 3) := by decide +kernel
theorem d_Mod_copies_25 : decode (m_c m_Mod_copies) 25 = .ok (.if_icmp .ge 37, 3) := by decide +kernel
theorem d_Mod_copies_28 : decode (m_c m_Mod_copies) 28 = .ok (.aload_n 0, 1) := by decide +kernel
theorem d_Mod_copies_29 : decode (m_c m_Mod_copies) 29 = .ok (.getfield 135, 3) := by decide +kernel
theorem d_Mod_copies_32 : decode (m_c m_Mod_copies) 32 = .ok (.ifCond .eq 30, 3) := by decide +kernel
theorem d_Mod_copies_35 : decode (m_c m_Mod_copies) 35 = .ok (.aload_n 0, 1) := by decide +kernel
theorem d_Mod_copies_36 : decode (m_c m_Mod_copies) 36 = .ok (.aload_n 0, 1) := by decide +kernel
theorem d_Mod_copies_37 : decode (m_c m_Mod_copies) 37 = .ok (.getfield 58, 3) := by decide +kernel
theorem d_Mod_copies_40 : decode (m_c m_Mod_copies) 40 = .ok (.iload_n 2, 1) := by decide +kernel
theorem d_Mod_copies_41 : decode (m_c m_Mod_copies) 41 = .ok (.iaload, 1) := by decide +kernel
theorem d_Mod_copies_42 : decode (m_c m_Mod_copies) 42 = .ok (.invokevirtual 257, 3) := by decide +kernel
theorem d_Mod_copies_45 : decode (m_c m_Mod_copies) 45 = .ok (.ifCond .eq 9, 3) := by decide +kernel
theorem d_Mod_copies_48 : decode (m_c m_Mod_copies) 48 = .ok (.iload_n 1, 1) := by decide +kernel
theorem d_Mod_copies_49 : decode (m_c m_Mod_copies) 49 = .ok (.iconst 1, 1) := by decide +kernel
theorem d_Mod_copies_50 : decode (m_c m_Mod_copies) 50 = .ok (.iadd, 1) := by decide +kernel
theorem d_Mod_copies_51 : decode (m_c m_Mod_copies) 51 = .ok (.goto 4, 3) := by decide +kernel
theorem d_Mod_copies_54 : decode (m_c m_Mod_copies) 54 = .ok (.iload_n 1, 1) := by decide +kernel
theorem d_Mod_copies_55 : decode (m_c m_Mod_copies) 55 = .ok (.istore_n 1, 1) := by decide +kernel
theorem d_Mod_copies_56 : decode (m_c m_Mod_copies) 56 = .ok (.iinc 2 1, 3) := by decide +kernel
theorem d_Mod_copies_59 : decode (m_c m_Mod_copies) 59 = .ok (.goto (-39), 3) := by decide +kernel
theorem d_Mod_copies_62 : decode (m_c m_Mod_copies) 62 = .ok (.iload_n 1, 1) := by decide +kernel
theorem d_Mod_copies_63 : decode (m_c m_Mod_copies) 63 = .ok (.ireturn, 1) := by decide +kernel
def p_Mod_copies_62   (v1 : Int) (f g : q_F) : Option (Int × q_F × q_F) :=
  some (v1, f, g)
def p_Mod_copies_55  (c20 : Int → Int → q_F → q_F → Option (Int × q_F × q_F)) (v2 : Int) (s0 : Int) (f g : q_F) : Option (Int × q_F × q_F) :=
  q_let (v2 + 1) fun z1 =>
  c20 (s0) (z1) f g
def p_Mod_copies_20   : Nat → Int → Int → q_F → q_F → Option (Int × q_F × q_F)
  | 0, _, _, _, _ => none
  | n + 1, v1, v2, f, g =>
    if q_sw (f 60 22) ≤ q_sw v2 then
      p_Mod_copies_62   (v1) f g
    else
      if q_sw (f 60 45) = 0 then
        p_Mod_copies_62   (v1) f g
      else
        if 0 ≤ v2 ∧ v2 < 8 then
          (p_Mod_copied (f 75 (Int.toNat v2)) f g).bind fun x4 =>
          if q_sw x4.1 = 0 then
            p_Mod_copies_55  (p_Mod_copies_20   n) (v2) (v1) x4.2.1 x4.2.2
          else
            p_Mod_copies_55  (p_Mod_copies_20   n) (v2) (v1 + 1) x4.2.1 x4.2.2
        else none
def p_Mod_copies_13   (s0 : Int) (f g : q_F) : Option (Int × q_F × q_F) :=
  q_let (ma_up f 60 0 s0) fun f1 =>
  p_Mod_copies_20   1000 (0) (0) f1 g
def p_Mod_copies   (f g : q_F) : Option (Int × q_F × q_F) :=
  if q_sw (f 60 45) = 0 then
    p_Mod_copies_13   (1) f g
  else
    p_Mod_copies_13   (0) f g
theorem e_Mod_copies_62 (t : q_V) (ok : ma_ok (q_G t))  {Q : Option Value → ma_H → Prop} {y : Int × q_F × q_F} (hQ : Q (some (ma_i y.1)) (q_h y.2.1 y.2.2))   (v1 : Int) (f g : q_F) (hp : p_Mod_copies_62   v1 f g = some y) : ma_Ev (q_G t) 1 21 0 0 m_Mod_copies 62 [(1, ma_i (v1))] [] (q_h f g) (ma_zr (q_G t) false Q) := by
  unfold p_Mod_copies_62 at hp
  refine ev_iload_n (pc := 62) d_Mod_copies_62 rfl rfl ?_
  cases Option.some.inj hp
  exact et_iret (pc := 63) d_Mod_copies_63 rfl hQ
theorem e_Mod_copies_55 (t : q_V) (ok : ma_ok (q_G t))  {Q : Option Value → ma_H → Prop} {y : Int × q_F × q_F} (hQ : Q (some (ma_i y.1)) (q_h y.2.1 y.2.2)) (c20 : Int → Int → q_F → q_F → Option (Int × q_F × q_F)) (hc20 : ∀ (v1 : Int) (v2 : Int) (f g : q_F), c20 v1 v2 f g = some y → ma_Ev (q_G t) 1 21 0 0 m_Mod_copies 20 [(0, q_a t (60)), (1, ma_i (v1)), (2, ma_i (v2))] [] (q_h f g) (ma_zr (q_G t) false Q)) (v2 : Int) (s0 : Int) (f g : q_F) (hp : p_Mod_copies_55  c20 v2 s0 f g = some y) : ma_Ev (q_G t) 1 21 0 0 m_Mod_copies 55 [(0, q_a t (60)), (2, ma_i (v2))] [ma_i (s0)] (q_h f g) (ma_zr (q_G t) false Q) := by
  unfold p_Mod_copies_55 at hp
  refine ev_istore_n (pc := 55) d_Mod_copies_55 rfl (by decide) [(1, _), (0, _), (2, _)] rfl ?_
  refine ev_iinc (pc := 56) d_Mod_copies_56 (by decide) rfl [(2, _), (1, _), (0, _)] rfl ?_
  replace hp := q_let_of hp
  obtain ⟨z1, hz, hp⟩ := hp
  rw [← hz]
  clear hz
  refine ev_goto (pc := 59) (tgt := 20) d_Mod_copies_59 (by decide) ?_
  refine ev_sub (ls2 := [(0, q_a t (60)), (1, ma_i (s0)), (2, ma_i (z1))]) [2, 1, 0] rfl ?_
  exact hc20 (s0) (z1) f g hp
theorem e_Mod_copies_20 (t : q_V) (ok : ma_ok (q_G t))  {Q : Option Value → ma_H → Prop} {y : Int × q_F × q_F} (hQ : Q (some (ma_i y.1)) (q_h y.2.1 y.2.2))   : ∀ (n : Nat) (v1 : Int) (v2 : Int) (f g : q_F), p_Mod_copies_20   n v1 v2 f g = some y → ma_Ev (q_G t) 1 21 0 0 m_Mod_copies 20 [(0, q_a t (60)), (1, ma_i (v1)), (2, ma_i (v2))] [] (q_h f g) (ma_zr (q_G t) false Q) := by
  intro n
  induction n with
  | zero =>
    intro v1 v2 f g hp
    rw [p_Mod_copies_20] at hp
    cases hp
  | succ n ih =>
    intro v1 v2 f g hp
    rw [p_Mod_copies_20] at hp
    refine ev_iload_n (pc := 20) d_Mod_copies_20 rfl rfl ?_
    refine et_aload_n (pc := 21) d_Mod_copies_21 rfl rfl ?_
    refine et_geti (pc := 22) ok (fl_Mod_196 t) rfl d_Mod_copies_22 s_60 ?_
    refine et_icmp_ge (pc := 25) (tgt := 62) d_Mod_copies_25 (by decide) (fun hj1 => ?_) (fun hj1 => ?_)
    · rw [if_pos hj1] at hp
      refine ev_sub (ls2 := [(1, ma_i (v1))]) [1] rfl ?_
      exact e_Mod_copies_62 t ok  hQ   (v1) f g hp
    · rw [if_neg hj1] at hp
      refine et_aload_n (pc := 28) d_Mod_copies_28 rfl rfl ?_
      refine et_geti (pc := 29) ok (fl_Mod_135 t) rfl d_Mod_copies_29 s_60 ?_
      refine et_if_eq (pc := 32) (tgt := 62) d_Mod_copies_32 (by decide) (fun hj2 => ?_) (fun hj2 => ?_)
      · rw [if_pos hj2] at hp
        refine ev_sub (ls2 := [(1, ma_i (v1))]) [1] rfl ?_
        exact e_Mod_copies_62 t ok  hQ   (v1) f g hp
      · rw [if_neg hj2] at hp
        refine et_aload_n (pc := 35) d_Mod_copies_35 rfl rfl ?_
        refine et_aload_n (pc := 36) d_Mod_copies_36 rfl rfl ?_
        refine et_getr (pc := 37) ok (fl_Mod_58 t) rfl d_Mod_copies_37 s_60 r_60_23 ?_
        refine ev_iload_n (pc := 40) d_Mod_copies_40 rfl rfl ?_
        replace hp := q_if hp
        obtain ⟨hb3, hp⟩ := hp
        refine et_iald (pc := 41) d_Mod_copies_41 s_75 hb3 (by decide) ?_
        replace hp := q_bind hp
        obtain ⟨x4, hm5, hp⟩ := hp
        refine et_callVi (pc := 42) (f1 := x4.2.1) (g1 := x4.2.2) ok [ma_i (f 75 (Int.toNat v2))] [] (cf_Mod_257 t) d_Mod_copies_42 s_60 k_12 rfl (t_Mod_copied t ok (f 75 (Int.toNat v2)) f g hm5 ⟨rfl, rfl⟩) rfl rfl (by decide) (by decide) (q_ble rfl) ?_
        refine et_if_eq (pc := 45) (tgt := 54) d_Mod_copies_45 (by decide) (fun hj6 => ?_) (fun hj6 => ?_)
        · rw [if_pos hj6] at hp
          refine ev_iload_n (pc := 54) d_Mod_copies_54 rfl rfl ?_
          refine ev_sub (ls2 := [(0, q_a t (60)), (2, ma_i (v2))]) [0, 2] rfl ?_
          exact e_Mod_copies_55 t ok  hQ (p_Mod_copies_20   n) ih (v2) (v1) x4.2.1 x4.2.2 hp
        · rw [if_neg hj6] at hp
          refine ev_iload_n (pc := 48) d_Mod_copies_48 rfl rfl ?_
          refine ev_iconst (pc := 49) d_Mod_copies_49 ?_
          refine ev_iadd (pc := 50) d_Mod_copies_50 ?_
          refine ev_goto (pc := 51) (tgt := 55) d_Mod_copies_51 (by decide) ?_
          refine ev_sub (ls2 := [(0, q_a t (60)), (2, ma_i (v2))]) [0, 2] rfl ?_
          exact e_Mod_copies_55 t ok  hQ (p_Mod_copies_20   n) ih (v2) (v1 + 1) x4.2.1 x4.2.2 hp
theorem e_Mod_copies_13 (t : q_V) (ok : ma_ok (q_G t))  {Q : Option Value → ma_H → Prop} {y : Int × q_F × q_F} (hQ : Q (some (ma_i y.1)) (q_h y.2.1 y.2.2))   (s0 : Int) (f g : q_F) (hp : p_Mod_copies_13   s0 f g = some y) : ma_Ev (q_G t) 1 21 0 0 m_Mod_copies 13 [(0, q_a t (60))] [ma_i (s0), q_a t (60)] (q_h f g) (ma_zr (q_G t) false Q) := by
  unfold p_Mod_copies_13 at hp
  refine et_puti (pc := 13) ok (fl_Mod_124 t) d_Mod_copies_13 s_60 ?_
  replace hp := q_let_of hp
  obtain ⟨f1, hz, hp⟩ := hp
  rw [← hz]
  clear hz
  refine ev_iconst (pc := 16) d_Mod_copies_16 ?_
  refine ev_istore_n (pc := 17) d_Mod_copies_17 rfl (by decide) [(1, _), (0, _)] rfl ?_
  refine ev_iconst (pc := 18) d_Mod_copies_18 ?_
  refine ev_istore_n (pc := 19) d_Mod_copies_19 rfl (by decide) [(2, _), (1, _), (0, _)] rfl ?_
  refine ev_sub (ls2 := [(0, q_a t (60)), (1, ma_i (0)), (2, ma_i (0))]) [2, 1, 0] rfl ?_
  exact e_Mod_copies_20 t ok  hQ   1000 (0) (0) f1 g hp
theorem t_Mod_copies (t : q_V) (ok : ma_ok (q_G t))  {Q : Option Value → ma_H → Prop} {y : Int × q_F × q_F}  (f g : q_F) (hp : p_Mod_copies   f g = some y) (hQ : Q (some (ma_i y.1)) (q_h y.2.1 y.2.2)) : ma_Met (q_G t) false 1 21 0 0 m_Mod_copies [q_a t (60)] (q_h f g) Q := by
  refine ma_met (by decide +kernel) (q_ble rfl) rfl ?_
  change ma_Ev (q_G t) 1 21 0 0 m_Mod_copies 0 [(0, q_a t (60))] [] (q_h f g) (ma_zr (q_G t) false Q)
  unfold p_Mod_copies at hp
  refine et_aload_n (pc := 0) d_Mod_copies_0 rfl rfl ?_
  refine et_aload_n (pc := 1) d_Mod_copies_1 rfl rfl ?_
  refine et_geti (pc := 2) ok (fl_Mod_135 t) rfl d_Mod_copies_2 s_60 ?_
  refine et_if_eq (pc := 5) (tgt := 12) d_Mod_copies_5 (by decide) (fun hj1 => ?_) (fun hj1 => ?_)
  · rw [if_pos hj1] at hp
    refine ev_iconst (pc := 12) d_Mod_copies_12 ?_
    refine ev_sub (ls2 := [(0, q_a t (60))]) [0] rfl ?_
    exact e_Mod_copies_13 t ok  hQ   (1) f g hp
  · rw [if_neg hj1] at hp
    refine ev_iconst (pc := 8) d_Mod_copies_8 ?_
    refine ev_goto (pc := 9) (tgt := 13) d_Mod_copies_9 (by decide) ?_
    refine ev_sub (ls2 := [(0, q_a t (60))]) [0] rfl ?_
    exact e_Mod_copies_13 t ok  hQ   (0) f g hp
theorem d_Mod_copy_0 : decode (m_c m_Mod_copy) 0 = .ok (.aload_n 0, 1) := by decide +kernel
theorem d_Mod_copy_1 : decode (m_c m_Mod_copy) 1 = .ok (.iload_n 2, 1) := by decide +kernel
theorem d_Mod_copy_2 : decode (m_c m_Mod_copy) 2 = .ok (.iconst 0, 1) := by decide +kernel
theorem d_Mod_copy_3 : decode (m_c m_Mod_copy) 3 = .ok (.iconst 2, 1) := by decide +kernel
theorem d_Mod_copy_4 : decode (m_c m_Mod_copy) 4 = .ok (.invokestatic 127, 3) := by decide +kernel
theorem d_Mod_copy_7 : decode (m_c m_Mod_copy) 7 = .ok (.ifCond .ne 7, 3) := by decide +kernel
theorem d_Mod_copy_10 : decode (m_c m_Mod_copy) 10 = .ok (.iconst 1, 1) := by decide +kernel
theorem d_Mod_copy_11 : decode (m_c m_Mod_copy) 11 = .ok (.goto 15, 3) := by decide +kernel
theorem d_Mod_copy_14 : decode (m_c m_Mod_copy) 14 = .ok (.aload_n 0, 1) := by decide +kernel
theorem d_Mod_copy_15 : decode (m_c m_Mod_copy) 15 = .ok (.getfield 135, 3) := by decide +kernel
theorem d_Mod_copy_18 : decode (m_c m_Mod_copy) 18 = .ok (.ifCond .ne 7, 3) := by decide +kernel
theorem d_Mod_copy_21 : decode (m_c m_Mod_copy) 21 = .ok (.iconst 2, 1) := by decide +kernel
theorem d_Mod_copy_22 : decode (m_c m_Mod_copy) 22 = .ok (.goto 4, 3) := by decide +kernel
theorem d_Mod_copy_25 : decode (m_c m_Mod_copy) 25 = .ok (.iconst 0, 1) := by decide +kernel
theorem d_Mod_copy_26 : decode (m_c m_Mod_copy) 26 = .ok (.putfield 124, 3) := by decide +kernel
theorem d_Mod_copy_29 : decode (m_c m_Mod_copy) 29 = .ok (.aload_n 0, 1) := by decide +kernel
theorem d_Mod_copy_30 : decode (m_c m_Mod_copy) 30 = .ok (.getfield 124, 3) := by decide +kernel
theorem d_Mod_copy_33 : decode (m_c m_Mod_copy) 33 = .ok (.ifCond .le 5, 3) := by decide +kernel
theorem d_Mod_copy_36 : decode (m_c m_Mod_copy) 36 = .ok (.iconst 0, 1) := by decide +kernel
theorem d_Mod_copy_37 : decode (m_c m_Mod_copy) 37 = .ok (.ireturn, 1) := by decide +kernel
theorem d_Mod_copy_38 : decode (m_c m_Mod_copy) 38 = .ok (.aload_n 0, 1) := by decide +kernel
theorem d_Mod_copy_39 : decode (m_c m_Mod_copy) 39 = .ok (.iload_n 1, 1) := by decide +kernel
theorem d_Mod_copy_40 : decode (m_c m_Mod_copy) 40 = .ok (.invokevirtual 276, 3) := by decide +kernel
theorem d_Mod_copy_43 : decode (m_c m_Mod_copy) 43 = .ok (.istore_n 3, 1) := by decide +kernel
theorem d_Mod_copy_44 : decode (m_c m_Mod_copy) 44 = .ok (.iload_n 3, 1) := by decide +kernel
theorem d_Mod_copy_45 : decode (m_c m_Mod_copy) 45 = .ok (.ifCond .ge 9, 3) := by decide +kernel
theorem d_Mod_copy_48 : decode (m_c m_Mod_copy) 48 = .ok (.aload_n 0, 1) := by decide +kernel
theorem d_Mod_copy_49 : decode (m_c m_Mod_copy) 49 = .ok (.iconst 3, 1) := by decide +kernel
theorem d_Mod_copy_50 : decode (m_c m_Mod_copy) 50 = .ok (.invokevirtual 279, 3) := by decide +kernel
theorem d_Mod_copy_53 : decode (m_c m_Mod_copy) 53 = .ok (.ireturn, 1) := by decide +kernel
theorem d_Mod_copy_54 : decode (m_c m_Mod_copy) 54 = .ok (.iload_n 2, 1) := by decide +kernel
theorem d_Mod_copy_55 : decode (m_c m_Mod_copy) 55 = .ok (.ifCond .ne 12, 3) := by decide +kernel
theorem d_Mod_copy_58 : decode (m_c m_Mod_copy) 58 = .ok (.aload_n 0, 1) := by decide +kernel
theorem d_Mod_copy_59 : decode (m_c m_Mod_copy) 59 = .ok (.getfield 97, 3) := by decide +kernel
theorem d_Mod_copy_62 : decode (m_c m_Mod_copy) 62 = .ok (.iload_n 3, 1) := by decide +kernel
theorem d_Mod_copy_63 : decode (m_c m_Mod_copy) 63 = .ok (.iaload, 1) := by decide +kernel
theorem d_Mod_copy_64 : decode (m_c m_Mod_copy) 64 = .ok (.goto 23, 3) := by decide +kernel
theorem d_Mod_copy_67 : decode (m_c m_Mod_copy) 67 = .ok (.iload_n 2, 1) := by decide +kernel
theorem d_Mod_copy_68 : decode (m_c m_Mod_copy) 68 = .ok (.iconst 1, 1) := by decide +kernel
theorem d_Mod_copy_69 : decode (m_c m_Mod_copy) 69 = .ok (.if_icmp .ne 12, 3) := by decide +kernel
theorem d_Mod_copy_72 : decode (m_c m_Mod_copy) 72 = .ok (.aload_n 0, 1) := by decide +kernel
theorem d_Mod_copy_73 : decode (m_c m_Mod_copy) 73 = .ok (.getfield 91, 3) := by decide +kernel
theorem d_Mod_copy_76 : decode (m_c m_Mod_copy) 76 = .ok (.iload_n 3, 1) := by decide +kernel
theorem d_Mod_copy_77 : decode (m_c m_Mod_copy) 77 = .ok (.iaload, 1) := by decide +kernel
theorem d_Mod_copy_78 : decode (m_c m_Mod_copy) 78 = .ok (.goto 9, 3) := by decide +kernel
theorem d_Mod_copy_81 : decode (m_c m_Mod_copy) 81 = .ok (.aload_n 0, 1) := by decide +kernel
theorem d_Mod_copy_82 : decode (m_c m_Mod_copy) 82 = .ok (.getfield 94, 3) := by decide +kernel
theorem d_Mod_copy_85 : decode (m_c m_Mod_copy) 85 = .ok (.iload_n 3, 1) := by decide +kernel
theorem d_Mod_copy_86 : decode (m_c m_Mod_copy) 86 = .ok (.iaload, 1) := by decide +kernel
theorem d_Mod_copy_87 : decode (m_c m_Mod_copy) 87 = .ok (.ireturn, 1) := by decide +kernel
def p_Mod_copy_87   (s0 : Int) (f g : q_F) : Option (Int × q_F × q_F) :=
  some (s0, f, g)
def p_Mod_copy_26   (v1 : Int) (v2 : Int) (s0 : Int) (f g : q_F) : Option (Int × q_F × q_F) :=
  q_let (ma_up f 60 0 s0) fun f1 =>
  if q_sw (f1 60 0) ≤ 0 then
    (p_Mod_copyAt (v1) f1 g).bind fun x3 =>
    if 0 ≤ q_sw x3.1 then
      if q_sw v2 = 0 then
        if 0 ≤ x3.1 ∧ x3.1 < 8 then
          p_Mod_copy_87   (x3.2.1 88 (Int.toNat x3.1)) x3.2.1 x3.2.2
        else none
      else
        if q_sw v2 = q_sw 1 then
          if 0 ≤ x3.1 ∧ x3.1 < 8 then
            p_Mod_copy_87   (x3.2.1 86 (Int.toNat x3.1)) x3.2.1 x3.2.2
          else none
        else
          if 0 ≤ x3.1 ∧ x3.1 < 8 then
            p_Mod_copy_87   (x3.2.1 87 (Int.toNat x3.1)) x3.2.1 x3.2.2
          else none
    else
      (p_Mod_fail (3) x3.2.1 x3.2.2).bind fun x11 =>
      some (x11.1, x11.2.1, x11.2.2)
  else
    some (0, f1, g)
def p_Mod_copy  (v1 : Int) (v2 : Int) (f g : q_F) : Option (Int × q_F × q_F) :=
  (p_Mod_within (v2) (0) (2) f g).bind fun x1 =>
  if q_sw x1.1 = 0 then
    p_Mod_copy_26   (v1) (v2) (1) x1.2.1 x1.2.2
  else
    if q_sw (x1.2.1 60 45) = 0 then
      p_Mod_copy_26   (v1) (v2) (2) x1.2.1 x1.2.2
    else
      p_Mod_copy_26   (v1) (v2) (0) x1.2.1 x1.2.2
theorem e_Mod_copy_87 (t : q_V) (ok : ma_ok (q_G t))  {Q : Option Value → ma_H → Prop} {y : Int × q_F × q_F} (hQ : Q (some (ma_i y.1)) (q_h y.2.1 y.2.2))   (s0 : Int) (f g : q_F) (hp : p_Mod_copy_87   s0 f g = some y) : ma_Ev (q_G t) 2 44 0 0 m_Mod_copy 87 [] [ma_i (s0)] (q_h f g) (ma_zr (q_G t) false Q) := by
  unfold p_Mod_copy_87 at hp
  cases Option.some.inj hp
  exact et_iret (pc := 87) d_Mod_copy_87 rfl hQ
theorem e_Mod_copy_26 (t : q_V) (ok : ma_ok (q_G t))  {Q : Option Value → ma_H → Prop} {y : Int × q_F × q_F} (hQ : Q (some (ma_i y.1)) (q_h y.2.1 y.2.2))   (v1 : Int) (v2 : Int) (s0 : Int) (f g : q_F) (hp : p_Mod_copy_26   v1 v2 s0 f g = some y) : ma_Ev (q_G t) 2 44 0 0 m_Mod_copy 26 [(0, q_a t (60)), (1, ma_i (v1)), (2, ma_i (v2))] [ma_i (s0), q_a t (60)] (q_h f g) (ma_zr (q_G t) false Q) := by
  unfold p_Mod_copy_26 at hp
  refine et_puti (pc := 26) ok (fl_Mod_124 t) d_Mod_copy_26 s_60 ?_
  replace hp := q_let_of hp
  obtain ⟨f1, hz, hp⟩ := hp
  rw [← hz]
  clear hz
  refine et_aload_n (pc := 29) d_Mod_copy_29 rfl rfl ?_
  refine et_geti (pc := 30) ok (fl_Mod_124 t) rfl d_Mod_copy_30 s_60 ?_
  refine et_if_le (pc := 33) (tgt := 38) d_Mod_copy_33 (by decide) (fun hj2 => ?_) (fun hj2 => ?_)
  · rw [if_pos hj2] at hp
    refine et_aload_n (pc := 38) d_Mod_copy_38 rfl rfl ?_
    refine ev_iload_n (pc := 39) d_Mod_copy_39 rfl rfl ?_
    replace hp := q_bind hp
    obtain ⟨x3, hm4, hp⟩ := hp
    refine et_callVi (pc := 40) (f1 := x3.2.1) (g1 := x3.2.2) ok [ma_i (v1)] [] (cf_Mod_276 t) d_Mod_copy_40 s_60 k_12 rfl (t_Mod_copyAt t ok (v1) f1 g hm4 ⟨rfl, rfl⟩) rfl rfl (by decide) (by decide) (q_ble rfl) ?_
    refine ev_istore_n (pc := 43) d_Mod_copy_43 rfl (by decide) [(3, _), (0, _), (1, _), (2, _)] rfl ?_
    refine ev_iload_n (pc := 44) d_Mod_copy_44 rfl rfl ?_
    refine et_if_ge (pc := 45) (tgt := 54) d_Mod_copy_45 (by decide) (fun hj5 => ?_) (fun hj5 => ?_)
    · rw [if_pos hj5] at hp
      refine ev_iload_n (pc := 54) d_Mod_copy_54 rfl rfl ?_
      refine et_if_ne (pc := 55) (tgt := 67) d_Mod_copy_55 (by decide) (fun hj6 => ?_) (fun hj6 => ?_)
      · rw [if_neg hj6] at hp
        refine ev_iload_n (pc := 67) d_Mod_copy_67 rfl rfl ?_
        refine ev_iconst (pc := 68) d_Mod_copy_68 ?_
        refine et_icmp_ne (pc := 69) (tgt := 81) d_Mod_copy_69 (by decide) (fun hj7 => ?_) (fun hj7 => ?_)
        · rw [if_neg hj7] at hp
          refine et_aload_n (pc := 81) d_Mod_copy_81 rfl rfl ?_
          refine et_getr (pc := 82) ok (fl_Mod_94 t) rfl d_Mod_copy_82 s_60 r_60_35 ?_
          refine ev_iload_n (pc := 85) d_Mod_copy_85 rfl rfl ?_
          replace hp := q_if hp
          obtain ⟨hb8, hp⟩ := hp
          refine et_iald (pc := 86) d_Mod_copy_86 s_87 hb8 (by decide) ?_
          refine ev_sub (ls2 := []) [] rfl ?_
          exact e_Mod_copy_87 t ok  hQ   (x3.2.1 87 (Int.toNat x3.1)) x3.2.1 x3.2.2 hp
        · rw [if_pos hj7] at hp
          refine et_aload_n (pc := 72) d_Mod_copy_72 rfl rfl ?_
          refine et_getr (pc := 73) ok (fl_Mod_91 t) rfl d_Mod_copy_73 s_60 r_60_34 ?_
          refine ev_iload_n (pc := 76) d_Mod_copy_76 rfl rfl ?_
          replace hp := q_if hp
          obtain ⟨hb9, hp⟩ := hp
          refine et_iald (pc := 77) d_Mod_copy_77 s_86 hb9 (by decide) ?_
          refine ev_goto (pc := 78) (tgt := 87) d_Mod_copy_78 (by decide) ?_
          refine ev_sub (ls2 := []) [] rfl ?_
          exact e_Mod_copy_87 t ok  hQ   (x3.2.1 86 (Int.toNat x3.1)) x3.2.1 x3.2.2 hp
      · rw [if_pos hj6] at hp
        refine et_aload_n (pc := 58) d_Mod_copy_58 rfl rfl ?_
        refine et_getr (pc := 59) ok (fl_Mod_97 t) rfl d_Mod_copy_59 s_60 r_60_36 ?_
        refine ev_iload_n (pc := 62) d_Mod_copy_62 rfl rfl ?_
        replace hp := q_if hp
        obtain ⟨hb10, hp⟩ := hp
        refine et_iald (pc := 63) d_Mod_copy_63 s_88 hb10 (by decide) ?_
        refine ev_goto (pc := 64) (tgt := 87) d_Mod_copy_64 (by decide) ?_
        refine ev_sub (ls2 := []) [] rfl ?_
        exact e_Mod_copy_87 t ok  hQ   (x3.2.1 88 (Int.toNat x3.1)) x3.2.1 x3.2.2 hp
    · rw [if_neg hj5] at hp
      refine et_aload_n (pc := 48) d_Mod_copy_48 rfl rfl ?_
      refine ev_iconst (pc := 49) d_Mod_copy_49 ?_
      replace hp := q_bind hp
      obtain ⟨x11, hm12, hp⟩ := hp
      refine et_callVi (pc := 50) (f1 := x11.2.1) (g1 := x11.2.2) ok [ma_i (3)] [] (cf_Mod_279 t) d_Mod_copy_50 s_60 k_12 rfl (t_Mod_fail t ok (3) x3.2.1 x3.2.2 hm12 ⟨rfl, rfl⟩) rfl rfl (by decide) (by decide) (q_ble rfl) ?_
      cases Option.some.inj hp
      exact et_iret (pc := 53) d_Mod_copy_53 rfl hQ
  · rw [if_neg hj2] at hp
    refine ev_iconst (pc := 36) d_Mod_copy_36 ?_
    cases Option.some.inj hp
    exact et_iret (pc := 37) d_Mod_copy_37 rfl hQ
theorem t_Mod_copy (t : q_V) (ok : ma_ok (q_G t))  {Q : Option Value → ma_H → Prop} {y : Int × q_F × q_F} (v1 : Int) (v2 : Int) (f g : q_F) (hp : p_Mod_copy  v1 v2 f g = some y) (hQ : Q (some (ma_i y.1)) (q_h y.2.1 y.2.2)) : ma_Met (q_G t) false 2 44 0 0 m_Mod_copy [q_a t (60), ma_i (v1), ma_i (v2)] (q_h f g) Q := by
  refine ma_met (by decide +kernel) (q_ble rfl) rfl ?_
  change ma_Ev (q_G t) 2 44 0 0 m_Mod_copy 0 [(0, q_a t (60)), (1, ma_i (v1)), (2, ma_i (v2))] [] (q_h f g) (ma_zr (q_G t) false Q)
  unfold p_Mod_copy at hp
  refine et_aload_n (pc := 0) d_Mod_copy_0 rfl rfl ?_
  refine ev_iload_n (pc := 1) d_Mod_copy_1 rfl rfl ?_
  refine ev_iconst (pc := 2) d_Mod_copy_2 ?_
  refine ev_iconst (pc := 3) d_Mod_copy_3 ?_
  replace hp := q_bind hp
  obtain ⟨x1, hm2, hp⟩ := hp
  refine et_callSi (pc := 4) (f1 := x1.2.1) (g1 := x1.2.2) ok [ma_i (v2), ma_i (0), ma_i (2)] [q_a t (60)] (cf_Mod_127 t) d_Mod_copy_4 (t_Mod_within t ok (v2) (0) (2) f g hm2 ⟨rfl, rfl⟩) rfl rfl (by decide) (by decide) (q_ble rfl) ?_
  refine et_if_ne (pc := 7) (tgt := 14) d_Mod_copy_7 (by decide) (fun hj3 => ?_) (fun hj3 => ?_)
  · rw [if_neg hj3] at hp
    refine et_aload_n (pc := 14) d_Mod_copy_14 rfl rfl ?_
    refine et_geti (pc := 15) ok (fl_Mod_135 t) rfl d_Mod_copy_15 s_60 ?_
    refine et_if_ne (pc := 18) (tgt := 25) d_Mod_copy_18 (by decide) (fun hj4 => ?_) (fun hj4 => ?_)
    · rw [if_neg hj4] at hp
      refine ev_iconst (pc := 25) d_Mod_copy_25 ?_
      refine ev_sub (ls2 := [(0, q_a t (60)), (1, ma_i (v1)), (2, ma_i (v2))]) [0, 1, 2] rfl ?_
      exact e_Mod_copy_26 t ok  hQ   (v1) (v2) (0) x1.2.1 x1.2.2 hp
    · rw [if_pos hj4] at hp
      refine ev_iconst (pc := 21) d_Mod_copy_21 ?_
      refine ev_goto (pc := 22) (tgt := 26) d_Mod_copy_22 (by decide) ?_
      refine ev_sub (ls2 := [(0, q_a t (60)), (1, ma_i (v1)), (2, ma_i (v2))]) [0, 1, 2] rfl ?_
      exact e_Mod_copy_26 t ok  hQ   (v1) (v2) (2) x1.2.1 x1.2.2 hp
  · rw [if_pos hj3] at hp
    refine ev_iconst (pc := 10) d_Mod_copy_10 ?_
    refine ev_goto (pc := 11) (tgt := 26) d_Mod_copy_11 (by decide) ?_
    refine ev_sub (ls2 := [(0, q_a t (60)), (1, ma_i (v1)), (2, ma_i (v2))]) [0, 1, 2] rfl ?_
    exact e_Mod_copy_26 t ok  hQ   (v1) (v2) (1) x1.2.1 x1.2.2 hp
theorem d_Mod_byteOf_0 : decode (m_c m_Mod_byteOf) 0 = .ok (.iconst 0, 1) := by decide +kernel
theorem d_Mod_byteOf_1 : decode (m_c m_Mod_byteOf) 1 = .ok (.istore_n 3, 1) := by decide +kernel
theorem d_Mod_byteOf_2 : decode (m_c m_Mod_byteOf) 2 = .ok (.aload_n 0, 1) := by decide +kernel
theorem d_Mod_byteOf_3 : decode (m_c m_Mod_byteOf) 3 = .ok (.getfield 85, 3) := by decide +kernel
theorem d_Mod_byteOf_6 : decode (m_c m_Mod_byteOf) 6 = .ok (.iload_n 1, 1) := by decide +kernel
theorem d_Mod_byteOf_7 : decode (m_c m_Mod_byteOf) 7 = .ok (.iaload, 1) := by decide +kernel
theorem d_Mod_byteOf_8 : decode (m_c m_Mod_byteOf) 8 = .ok (.istore 4, 2) := by decide +kernel
theorem d_Mod_byteOf_10 : decode (m_c m_Mod_byteOf) 10 = .ok (.iload 4, 2) := by decide +kernel
theorem d_Mod_byteOf_12 : decode (m_c m_Mod_byteOf) 12 = .ok (.aload_n 0, 1) := by decide +kernel
theorem d_Mod_byteOf_13 : decode (m_c m_Mod_byteOf) 13 = .ok (.getfield 85, 3) := by decide +kernel
theorem d_Mod_byteOf_16 : decode (m_c m_Mod_byteOf) 16 = .ok (.iload_n 1, 1) := by decide +kernel
theorem d_Mod_byteOf_17 : decode (m_c m_Mod_byteOf) 17 = .ok (.iaload, 1) := by decide +kernel
theorem d_Mod_byteOf_18 : decode (m_c m_Mod_byteOf) 18 = .ok (.aload_n 0, 1) := by decide +kernel
theorem d_Mod_byteOf_19 : decode (m_c m_Mod_byteOf) 19 = .ok (.getfield 88, 3) := by decide +kernel
theorem d_Mod_byteOf_22 : decode (m_c m_Mod_byteOf) 22 = .ok (.iload_n 1, 1) := by decide +kernel
theorem d_Mod_byteOf_23 : decode (m_c m_Mod_byteOf) 23 = .ok (.iaload, 1) := by decide +kernel
theorem d_Mod_byteOf_24 : decode (m_c m_Mod_byteOf) 24 = .ok (.iadd, 1) := by decide +kernel
theorem d_Mod_byteOf_25 : decode (m_c m_Mod_byteOf) 25 = .ok (.if_icmp .ge 81, 3) := by decide +kernel
theorem d_Mod_byteOf_28 : decode (m_c m_Mod_byteOf) 28 = .ok (.aload_n 0, 1) := by decide +kernel
theorem d_Mod_byteOf_29 : decode (m_c m_Mod_byteOf) 29 = .ok (.getfield 100, 3) := by decide +kernel
theorem d_Mod_byteOf_32 : decode (m_c m_Mod_byteOf) 32 = .ok (.iload 4, 2) := by decide +kernel
theorem d_Mod_byteOf_34 : decode (m_c m_Mod_byteOf) 34 = .ok (.iaload, 1) := by decide +kernel
theorem d_Mod_byteOf_35 : decode (m_c m_Mod_byteOf) 35 = .ok (.istore 5, 2) := by decide +kernel
theorem d_Mod_byteOf_37 : decode (m_c m_Mod_byteOf) 37 = .ok (.iload 5, 2) := by decide +kernel
theorem d_Mod_byteOf_39 : decode (m_c m_Mod_byteOf) 39 = .ok (.iconst 0, 1) := by decide +kernel
theorem d_Mod_byteOf_40 : decode (m_c m_Mod_byteOf) 40 = .ok (.bipush 7, 2) := by decide +kernel
theorem d_Mod_byteOf_42 : decode (m_c m_Mod_byteOf) 42 = .ok (.invokestatic 127, 3) := by decide +kernel
theorem d_Mod_byteOf_45 : decode (m_c m_Mod_byteOf) 45 = .ok (.ifCond .eq 55, 3) := by decide +kernel
theorem d_Mod_byteOf_48 : decode (m_c m_Mod_byteOf) 48 = .ok (.iload_n 2, 1) := by decide +kernel
theorem d_Mod_byteOf_49 : decode (m_c m_Mod_byteOf) 49 = .ok (.aload_n 0, 1) := by decide +kernel
theorem d_Mod_byteOf_50 : decode (m_c m_Mod_byteOf) 50 = .ok (.getfield 19, 3) := by decide +kernel
theorem d_Mod_byteOf_53 : decode (m_c m_Mod_byteOf) 53 = .ok (.iload 5, 2) := by decide +kernel
theorem d_Mod_byteOf_55 : decode (m_c m_Mod_byteOf) 55 = .ok (.iaload, 1) := by decide +kernel
theorem d_Mod_byteOf_56 : decode (m_c m_Mod_byteOf) 56 = .ok (.if_icmp .lt 44, 3) := by decide +kernel
theorem d_Mod_byteOf_59 : decode (m_c m_Mod_byteOf) 59 = .ok (.iload_n 2, 1) := by decide +kernel
theorem d_Mod_byteOf_60 : decode (m_c m_Mod_byteOf) 60 = .ok (.aload_n 0, 1) := by decide +kernel
theorem d_Mod_byteOf_61 : decode (m_c m_Mod_byteOf) 61 = .ok (.getfield 19, 3) := by decide +kernel
theorem d_Mod_byteOf_64 : decode (m_c m_Mod_byteOf) 64 = .ok (.iload 5, 2) := by decide +kernel
theorem d_Mod_byteOf_66 : decode (m_c m_Mod_byteOf) 66 = .ok (.iaload, 1) := by decide +kernel
theorem d_Mod_byteOf_67 : decode (m_c m_Mod_byteOf) 67 = .ok (.aload_n 0, 1) := by decide +kernel
theorem d_Mod_byteOf_68 : decode (m_c m_Mod_byteOf) 68 = .ok (.getfield 7, 3) := by decide +kernel
theorem d_Mod_byteOf_71 : decode (m_c m_Mod_byteOf) 71 = .ok (.iload 5, 2) := by decide +kernel
theorem d_Mod_byteOf_73 : decode (m_c m_Mod_byteOf) 73 = .ok (.iaload, 1) := by decide +kernel
theorem d_Mod_byteOf_74 : decode (m_c m_Mod_byteOf) 74 = .ok (.iadd, 1) := by decide +kernel
theorem d_Mod_byteOf_75 : decode (m_c m_Mod_byteOf) 75 = .ok (.if_icmp .ge 25, 3) := by decide +kernel
theorem d_Mod_byteOf_78 : decode (m_c m_Mod_byteOf) 78 = .ok (.aload_n 0, 1) := by decide +kernel
theorem d_Mod_byteOf_79 : decode (m_c m_Mod_byteOf) 79 = .ok (.getfield 16, 3) := by decide +kernel
theorem d_Mod_byteOf_82 : decode (m_c m_Mod_byteOf) 82 = .ok (.iload 5, 2) := by decide +kernel
theorem d_Mod_byteOf_84 : decode (m_c m_Mod_byteOf) 84 = .ok (.iaload, 1) := by decide +kernel
theorem d_Mod_byteOf_85 : decode (m_c m_Mod_byteOf) 85 = .ok (.iload_n 2, 1) := by decide +kernel
theorem d_Mod_byteOf_86 : decode (m_c m_Mod_byteOf) 86 = .ok (.iadd, 1) := by decide +kernel
theorem d_Mod_byteOf_87 : decode (m_c m_Mod_byteOf) 87 = .ok (.aload_n 0, 1) := by decide +kernel
theorem d_Mod_byteOf_88 : decode (m_c m_Mod_byteOf) 88 = .ok (.getfield 19, 3) := by decide +kernel
theorem d_Mod_byteOf_91 : decode (m_c m_Mod_byteOf) 91 = .ok (.iload 5, 2) := by decide +kernel
theorem d_Mod_byteOf_93 : decode (m_c m_Mod_byteOf) 93 = .ok (.iaload, 1) := by decide +kernel
theorem d_Mod_byteOf_94 : decode (m_c m_Mod_byteOf) 94 = .ok (.isub, 1) := by decide +kernel
theorem d_Mod_byteOf_95 : decode (m_c m_Mod_byteOf) 95 = .ok (.sipush 256, 3) := by decide +kernel
theorem d_Mod_byteOf_98 : decode (m_c m_Mod_byteOf) 98 = .ok (.irem, 1) := by decide +kernel
theorem d_Mod_byteOf_99 : decode (m_c m_Mod_byteOf) 99 = .ok (.istore_n 3, 1) := by decide +kernel
theorem d_Mod_byteOf_100 : decode (m_c m_Mod_byteOf) 100 = .ok (.iinc 4 1, 3) := by decide +kernel
theorem d_Mod_byteOf_103 : decode (m_c m_Mod_byteOf) 103 = .ok (.goto (-93), 3) := by decide +kernel
theorem d_Mod_byteOf_106 : decode (m_c m_Mod_byteOf) 106 = .ok (.iload_n 3, 1) := by decide +kernel
theorem d_Mod_byteOf_107 : decode (m_c m_Mod_byteOf) 107 = .ok (.ireturn, 1) := by decide +kernel
def p_Mod_byteOf_100  (c10 : Int → Int → Int → Int → q_F → q_F → Option (Int × q_F × q_F)) (v1 : Int) (v2 : Int) (v3 : Int) (v4 : Int) (f g : q_F) : Option (Int × q_F × q_F) :=
  q_let (v4 + 1) fun z1 =>
  c10 (v1) (v2) (v3) (z1) f g
def p_Mod_byteOf_10   : Nat → Int → Int → Int → Int → q_F → q_F → Option (Int × q_F × q_F)
  | 0, _, _, _, _, _, _ => none
  | n + 1, v1, v2, v3, v4, f, g =>
    if 0 ≤ v1 ∧ v1 < 8 then
      if 0 ≤ v1 ∧ v1 < 8 then
        if q_sw ((f 84 (Int.toNat v1)) + (f 85 (Int.toNat v1))) ≤ q_sw v4 then
          some (v3, f, g)
        else
          if 0 ≤ v4 ∧ v4 < 160 then
            q_let (f 89 (Int.toNat v4)) fun z5 =>
            (p_Mod_within (z5) (0) (7) f g).bind fun x6 =>
            if q_sw x6.1 = 0 then
              p_Mod_byteOf_100  (p_Mod_byteOf_10   n) (v1) (v2) (v3) (v4) x6.2.1 x6.2.2
            else
              if 0 ≤ z5 ∧ z5 < 8 then
                if q_sw v2 < q_sw (x6.2.1 64 (Int.toNat z5)) then
                  p_Mod_byteOf_100  (p_Mod_byteOf_10   n) (v1) (v2) (v3) (v4) x6.2.1 x6.2.2
                else
                  if 0 ≤ z5 ∧ z5 < 8 then
                    if 0 ≤ z5 ∧ z5 < 8 then
                      if q_sw ((x6.2.1 64 (Int.toNat z5)) + (x6.2.1 61 (Int.toNat z5))) ≤ q_sw v2 then
                        p_Mod_byteOf_100  (p_Mod_byteOf_10   n) (v1) (v2) (v3) (v4) x6.2.1 x6.2.2
                      else
                        if 0 ≤ z5 ∧ z5 < 8 then
                          if 0 ≤ z5 ∧ z5 < 8 then
                            q_let (q_irem (((x6.2.1 63 (Int.toNat z5)) + v2) - (x6.2.1 64 (Int.toNat z5))) 256) fun z16 =>
                            p_Mod_byteOf_100  (p_Mod_byteOf_10   n) (v1) (v2) (z16) (v4) x6.2.1 x6.2.2
                          else none
                        else none
                    else none
                  else none
              else none
          else none
      else none
    else none
def p_Mod_byteOf  (v1 : Int) (v2 : Int) (f g : q_F) : Option (Int × q_F × q_F) :=
  if 0 ≤ v1 ∧ v1 < 8 then
    q_let (f 84 (Int.toNat v1)) fun z2 =>
    p_Mod_byteOf_10   1000 (v1) (v2) (0) (z2) f g
  else none
theorem e_Mod_byteOf_100 (t : q_V) (ok : ma_ok (q_G t))  {Q : Option Value → ma_H → Prop} {y : Int × q_F × q_F} (hQ : Q (some (ma_i y.1)) (q_h y.2.1 y.2.2)) (c10 : Int → Int → Int → Int → q_F → q_F → Option (Int × q_F × q_F)) (hc10 : ∀ (v1 : Int) (v2 : Int) (v3 : Int) (v4 : Int) (f g : q_F), c10 v1 v2 v3 v4 f g = some y → ma_Ev (q_G t) 1 22 0 0 m_Mod_byteOf 10 [(0, q_a t (60)), (1, ma_i (v1)), (2, ma_i (v2)), (3, ma_i (v3)), (4, ma_i (v4))] [] (q_h f g) (ma_zr (q_G t) false Q)) (v1 : Int) (v2 : Int) (v3 : Int) (v4 : Int) (f g : q_F) (hp : p_Mod_byteOf_100  c10 v1 v2 v3 v4 f g = some y) : ma_Ev (q_G t) 1 22 0 0 m_Mod_byteOf 100 [(0, q_a t (60)), (1, ma_i (v1)), (2, ma_i (v2)), (3, ma_i (v3)), (4, ma_i (v4))] [] (q_h f g) (ma_zr (q_G t) false Q) := by
  unfold p_Mod_byteOf_100 at hp
  refine ev_iinc (pc := 100) d_Mod_byteOf_100 (by decide) rfl [(4, _), (0, _), (1, _), (2, _), (3, _)] rfl ?_
  replace hp := q_let_of hp
  obtain ⟨z1, hz, hp⟩ := hp
  rw [← hz]
  clear hz
  refine ev_goto (pc := 103) (tgt := 10) d_Mod_byteOf_103 (by decide) ?_
  refine ev_sub (ls2 := [(0, q_a t (60)), (1, ma_i (v1)), (2, ma_i (v2)), (3, ma_i (v3)), (4, ma_i (z1))]) [1, 2, 3, 4, 0] rfl ?_
  exact hc10 (v1) (v2) (v3) (z1) f g hp
theorem e_Mod_byteOf_10 (t : q_V) (ok : ma_ok (q_G t))  {Q : Option Value → ma_H → Prop} {y : Int × q_F × q_F} (hQ : Q (some (ma_i y.1)) (q_h y.2.1 y.2.2))   : ∀ (n : Nat) (v1 : Int) (v2 : Int) (v3 : Int) (v4 : Int) (f g : q_F), p_Mod_byteOf_10   n v1 v2 v3 v4 f g = some y → ma_Ev (q_G t) 1 22 0 0 m_Mod_byteOf 10 [(0, q_a t (60)), (1, ma_i (v1)), (2, ma_i (v2)), (3, ma_i (v3)), (4, ma_i (v4))] [] (q_h f g) (ma_zr (q_G t) false Q) := by
  intro n
  induction n with
  | zero =>
    intro v1 v2 v3 v4 f g hp
    rw [p_Mod_byteOf_10] at hp
    cases hp
  | succ n ih =>
    intro v1 v2 v3 v4 f g hp
    rw [p_Mod_byteOf_10] at hp
    refine ev_iload (pc := 10) d_Mod_byteOf_10 rfl ?_
    refine et_aload_n (pc := 12) d_Mod_byteOf_12 rfl rfl ?_
    refine et_getr (pc := 13) ok (fl_Mod_85 t) rfl d_Mod_byteOf_13 s_60 r_60_32 ?_
    refine ev_iload_n (pc := 16) d_Mod_byteOf_16 rfl rfl ?_
    replace hp := q_if hp
    obtain ⟨hb1, hp⟩ := hp
    refine et_iald (pc := 17) d_Mod_byteOf_17 s_84 hb1 (by decide) ?_
    refine et_aload_n (pc := 18) d_Mod_byteOf_18 rfl rfl ?_
    refine et_getr (pc := 19) ok (fl_Mod_88 t) rfl d_Mod_byteOf_19 s_60 r_60_33 ?_
    refine ev_iload_n (pc := 22) d_Mod_byteOf_22 rfl rfl ?_
    replace hp := q_if hp
    obtain ⟨hb2, hp⟩ := hp
    refine et_iald (pc := 23) d_Mod_byteOf_23 s_85 hb2 (by decide) ?_
    refine ev_iadd (pc := 24) d_Mod_byteOf_24 ?_
    refine et_icmp_ge (pc := 25) (tgt := 106) d_Mod_byteOf_25 (by decide) (fun hj3 => ?_) (fun hj3 => ?_)
    · rw [if_pos hj3] at hp
      refine ev_iload_n (pc := 106) d_Mod_byteOf_106 rfl rfl ?_
      cases Option.some.inj hp
      exact et_iret (pc := 107) d_Mod_byteOf_107 rfl hQ
    · rw [if_neg hj3] at hp
      refine et_aload_n (pc := 28) d_Mod_byteOf_28 rfl rfl ?_
      refine et_getr (pc := 29) ok (fl_Mod_100 t) rfl d_Mod_byteOf_29 s_60 r_60_38 ?_
      refine ev_iload (pc := 32) d_Mod_byteOf_32 rfl ?_
      replace hp := q_if hp
      obtain ⟨hb4, hp⟩ := hp
      refine et_iald (pc := 34) d_Mod_byteOf_34 s_89 hb4 (by decide) ?_
      refine ev_istore (pc := 35) d_Mod_byteOf_35 (by decide) [(5, _), (0, _), (1, _), (2, _), (3, _), (4, _)] rfl ?_
      replace hp := q_let_of hp
      obtain ⟨z5, hz, hp⟩ := hp
      rw [← hz]
      clear hz
      refine ev_iload (pc := 37) d_Mod_byteOf_37 rfl ?_
      refine ev_iconst (pc := 39) d_Mod_byteOf_39 ?_
      refine ev_bipush (pc := 40) d_Mod_byteOf_40 rfl ?_
      replace hp := q_bind hp
      obtain ⟨x6, hm7, hp⟩ := hp
      refine et_callSi (pc := 42) (f1 := x6.2.1) (g1 := x6.2.2) ok [ma_i (z5), ma_i (0), ma_i (7)] [] (cf_Mod_127 t) d_Mod_byteOf_42 (t_Mod_within t ok (z5) (0) (7) f g hm7 ⟨rfl, rfl⟩) rfl rfl (by decide) (by decide) (q_ble rfl) ?_
      refine et_if_eq (pc := 45) (tgt := 100) d_Mod_byteOf_45 (by decide) (fun hj8 => ?_) (fun hj8 => ?_)
      · rw [if_pos hj8] at hp
        refine ev_sub (ls2 := [(0, q_a t (60)), (1, ma_i (v1)), (2, ma_i (v2)), (3, ma_i (v3)), (4, ma_i (v4))]) [1, 2, 3, 4, 5] rfl ?_
        exact e_Mod_byteOf_100 t ok  hQ (p_Mod_byteOf_10   n) ih (v1) (v2) (v3) (v4) x6.2.1 x6.2.2 hp
      · rw [if_neg hj8] at hp
        refine ev_iload_n (pc := 48) d_Mod_byteOf_48 rfl rfl ?_
        refine et_aload_n (pc := 49) d_Mod_byteOf_49 rfl rfl ?_
        refine et_getr (pc := 50) ok (fl_Mod_19 t) rfl d_Mod_byteOf_50 s_60 r_60_4 ?_
        refine ev_iload (pc := 53) d_Mod_byteOf_53 rfl ?_
        replace hp := q_if hp
        obtain ⟨hb9, hp⟩ := hp
        refine et_iald (pc := 55) d_Mod_byteOf_55 s_64 hb9 (by decide) ?_
        refine et_icmp_lt (pc := 56) (tgt := 100) d_Mod_byteOf_56 (by decide) (fun hj10 => ?_) (fun hj10 => ?_)
        · rw [if_pos hj10] at hp
          refine ev_sub (ls2 := [(0, q_a t (60)), (1, ma_i (v1)), (2, ma_i (v2)), (3, ma_i (v3)), (4, ma_i (v4))]) [1, 2, 3, 4, 5] rfl ?_
          exact e_Mod_byteOf_100 t ok  hQ (p_Mod_byteOf_10   n) ih (v1) (v2) (v3) (v4) x6.2.1 x6.2.2 hp
        · rw [if_neg hj10] at hp
          refine ev_iload_n (pc := 59) d_Mod_byteOf_59 rfl rfl ?_
          refine et_aload_n (pc := 60) d_Mod_byteOf_60 rfl rfl ?_
          refine et_getr (pc := 61) ok (fl_Mod_19 t) rfl d_Mod_byteOf_61 s_60 r_60_4 ?_
          refine ev_iload (pc := 64) d_Mod_byteOf_64 rfl ?_
          replace hp := q_if hp
          obtain ⟨hb11, hp⟩ := hp
          refine et_iald (pc := 66) d_Mod_byteOf_66 s_64 hb11 (by decide) ?_
          refine et_aload_n (pc := 67) d_Mod_byteOf_67 rfl rfl ?_
          refine et_getr (pc := 68) ok (fl_Mod_7 t) rfl d_Mod_byteOf_68 s_60 r_60_1 ?_
          refine ev_iload (pc := 71) d_Mod_byteOf_71 rfl ?_
          replace hp := q_if hp
          obtain ⟨hb12, hp⟩ := hp
          refine et_iald (pc := 73) d_Mod_byteOf_73 s_61 hb12 (by decide) ?_
          refine ev_iadd (pc := 74) d_Mod_byteOf_74 ?_
          refine et_icmp_ge (pc := 75) (tgt := 100) d_Mod_byteOf_75 (by decide) (fun hj13 => ?_) (fun hj13 => ?_)
          · rw [if_pos hj13] at hp
            refine ev_sub (ls2 := [(0, q_a t (60)), (1, ma_i (v1)), (2, ma_i (v2)), (3, ma_i (v3)), (4, ma_i (v4))]) [1, 2, 3, 4, 5] rfl ?_
            exact e_Mod_byteOf_100 t ok  hQ (p_Mod_byteOf_10   n) ih (v1) (v2) (v3) (v4) x6.2.1 x6.2.2 hp
          · rw [if_neg hj13] at hp
            refine et_aload_n (pc := 78) d_Mod_byteOf_78 rfl rfl ?_
            refine et_getr (pc := 79) ok (fl_Mod_16 t) rfl d_Mod_byteOf_79 s_60 r_60_3 ?_
            refine ev_iload (pc := 82) d_Mod_byteOf_82 rfl ?_
            replace hp := q_if hp
            obtain ⟨hb14, hp⟩ := hp
            refine et_iald (pc := 84) d_Mod_byteOf_84 s_63 hb14 (by decide) ?_
            refine ev_iload_n (pc := 85) d_Mod_byteOf_85 rfl rfl ?_
            refine ev_iadd (pc := 86) d_Mod_byteOf_86 ?_
            refine et_aload_n (pc := 87) d_Mod_byteOf_87 rfl rfl ?_
            refine et_getr (pc := 88) ok (fl_Mod_19 t) rfl d_Mod_byteOf_88 s_60 r_60_4 ?_
            refine ev_iload (pc := 91) d_Mod_byteOf_91 rfl ?_
            replace hp := q_if hp
            obtain ⟨hb15, hp⟩ := hp
            refine et_iald (pc := 93) d_Mod_byteOf_93 s_64 hb15 (by decide) ?_
            refine ev_isub (pc := 94) d_Mod_byteOf_94 ?_
            refine ev_sipush (pc := 95) d_Mod_byteOf_95 rfl ?_
            refine et_irem (pc := 98) d_Mod_byteOf_98 (by decide) ?_
            refine ev_istore_n (pc := 99) d_Mod_byteOf_99 rfl (by decide) [(3, _), (5, _), (0, _), (1, _), (2, _), (4, _)] rfl ?_
            replace hp := q_let_of hp
            obtain ⟨z16, hz, hp⟩ := hp
            rw [← hz]
            clear hz
            refine ev_sub (ls2 := [(0, q_a t (60)), (1, ma_i (v1)), (2, ma_i (v2)), (3, ma_i (z16)), (4, ma_i (v4))]) [2, 3, 4, 0, 5] rfl ?_
            exact e_Mod_byteOf_100 t ok  hQ (p_Mod_byteOf_10   n) ih (v1) (v2) (z16) (v4) x6.2.1 x6.2.2 hp
theorem t_Mod_byteOf (t : q_V) (ok : ma_ok (q_G t))  {Q : Option Value → ma_H → Prop} {y : Int × q_F × q_F} (v1 : Int) (v2 : Int) (f g : q_F) (hp : p_Mod_byteOf  v1 v2 f g = some y) (hQ : Q (some (ma_i y.1)) (q_h y.2.1 y.2.2)) : ma_Met (q_G t) false 1 22 0 0 m_Mod_byteOf [q_a t (60), ma_i (v1), ma_i (v2)] (q_h f g) Q := by
  refine ma_met (by decide +kernel) (q_ble rfl) rfl ?_
  change ma_Ev (q_G t) 1 22 0 0 m_Mod_byteOf 0 [(0, q_a t (60)), (1, ma_i (v1)), (2, ma_i (v2))] [] (q_h f g) (ma_zr (q_G t) false Q)
  unfold p_Mod_byteOf at hp
  refine ev_iconst (pc := 0) d_Mod_byteOf_0 ?_
  refine ev_istore_n (pc := 1) d_Mod_byteOf_1 rfl (by decide) [(3, _), (0, _), (1, _), (2, _)] rfl ?_
  refine et_aload_n (pc := 2) d_Mod_byteOf_2 rfl rfl ?_
  refine et_getr (pc := 3) ok (fl_Mod_85 t) rfl d_Mod_byteOf_3 s_60 r_60_32 ?_
  refine ev_iload_n (pc := 6) d_Mod_byteOf_6 rfl rfl ?_
  replace hp := q_if hp
  obtain ⟨hb1, hp⟩ := hp
  refine et_iald (pc := 7) d_Mod_byteOf_7 s_84 hb1 (by decide) ?_
  refine ev_istore (pc := 8) d_Mod_byteOf_8 (by decide) [(4, _), (3, _), (0, _), (1, _), (2, _)] rfl ?_
  replace hp := q_let_of hp
  obtain ⟨z2, hz, hp⟩ := hp
  rw [← hz]
  clear hz
  refine ev_sub (ls2 := [(0, q_a t (60)), (1, ma_i (v1)), (2, ma_i (v2)), (3, ma_i (0)), (4, ma_i (z2))]) [2, 3, 4, 1, 0] rfl ?_
  exact e_Mod_byteOf_10 t ok  hQ   1000 (v1) (v2) (0) (z2) f g hp
theorem d_Mod_load_0 : decode (m_c m_Mod_load) 0 = .ok (.aload_n 0, 1) := by decide +kernel
theorem d_Mod_load_1 : decode (m_c m_Mod_load) 1 = .ok (.aload_n 0, 1) := by decide +kernel
theorem d_Mod_load_2 : decode (m_c m_Mod_load) 2 = .ok (.getfield 135, 3) := by decide +kernel
theorem d_Mod_load_5 : decode (m_c m_Mod_load) 5 = .ok (.ifCond .eq 7, 3) := by decide +kernel
theorem d_Mod_load_8 : decode (m_c m_Mod_load) 8 = .ok (.iconst 0, 1) := by decide +kernel
theorem d_Mod_load_9 : decode (m_c m_Mod_load) 9 = .ok (.goto 4, 3) := by decide +kernel
theorem d_Mod_load_12 : decode (m_c m_Mod_load) 12 = .ok (.iconst 1, 1) := by decide +kernel
theorem d_Mod_load_13 : decode (m_c m_Mod_load) 13 = .ok (.putfield 124, 3) := by decide +kernel
theorem d_Mod_load_16 : decode (m_c m_Mod_load) 16 = .ok (.aload_n 0, 1) := by decide +kernel
theorem d_Mod_load_17 : decode (m_c m_Mod_load) 17 = .ok (.getfield 124, 3) := by decide +kernel
theorem d_Mod_load_20 : decode (m_c m_Mod_load) 20 = .ok (.ifCond .le 4, 3) := by decide +kernel
theorem d_Mod_load_23 : decode (m_c m_Mod_load) 23 = .ok (.return_, 1) := by decide +kernel
theorem d_Mod_load_24 : decode (m_c m_Mod_load) 24 = .ok (.iconst 0, 1) := by decide +kernel
theorem d_Mod_load_25 : decode (m_c m_Mod_load) 25 = .ok (.istore_n 1, 1) := by decide +kernel
theorem d_Mod_load_26 : decode (m_c m_Mod_load) 26 = .ok (.iload_n 1, 1) := by decide +kernel
theorem d_Mod_load_27 : decode (m_c m_Mod_load) 27 = .ok (.sipush 512, 3) := by decide +kernel
theorem d_Mod_load_30 : decode (m_c m_Mod_load) 30 = .ok (.if_icmp .ge 18, 3) := by decide +kernel
theorem d_Mod_load_33 : decode (m_c m_Mod_load) 33 = .ok (.aload_n 0, 1) := by decide +kernel
theorem d_Mod_load_34 : decode (m_c m_Mod_load) 34 = .ok (.getfield 121, 3) := by decide +kernel
theorem d_Mod_load_37 : decode (m_c m_Mod_load) 37 = .ok (.iload_n 1, 1) := by decide +kernel
theorem d_Mod_load_38 : decode (m_c m_Mod_load) 38 = .ok (.sipush 170, 3) := by decide +kernel
theorem d_Mod_load_41 : decode (m_c m_Mod_load) 41 = .ok (.iastore, 1) := by decide +kernel
theorem d_Mod_load_42 : decode (m_c m_Mod_load) 42 = .ok (.iinc 1 1, 3) := by decide +kernel
theorem d_Mod_load_45 : decode (m_c m_Mod_load) 45 = .ok (.goto (-19), 3) := by decide +kernel
theorem d_Mod_load_48 : decode (m_c m_Mod_load) 48 = .ok (.iconst 0, 1) := by decide +kernel
theorem d_Mod_load_49 : decode (m_c m_Mod_load) 49 = .ok (.istore_n 1, 1) := by decide +kernel
theorem d_Mod_load_50 : decode (m_c m_Mod_load) 50 = .ok (.iload_n 1, 1) := by decide +kernel
theorem d_Mod_load_51 : decode (m_c m_Mod_load) 51 = .ok (.aload_n 0, 1) := by decide +kernel
theorem d_Mod_load_52 : decode (m_c m_Mod_load) 52 = .ok (.getfield 196, 3) := by decide +kernel
theorem d_Mod_load_55 : decode (m_c m_Mod_load) 55 = .ok (.if_icmp .ge 69, 3) := by decide +kernel
theorem d_Mod_load_58 : decode (m_c m_Mod_load) 58 = .ok (.aload_n 0, 1) := by decide +kernel
theorem d_Mod_load_59 : decode (m_c m_Mod_load) 59 = .ok (.getfield 58, 3) := by decide +kernel
theorem d_Mod_load_62 : decode (m_c m_Mod_load) 62 = .ok (.iload_n 1, 1) := by decide +kernel
theorem d_Mod_load_63 : decode (m_c m_Mod_load) 63 = .ok (.iaload, 1) := by decide +kernel
theorem d_Mod_load_64 : decode (m_c m_Mod_load) 64 = .ok (.istore_n 2, 1) := by decide +kernel
theorem d_Mod_load_65 : decode (m_c m_Mod_load) 65 = .ok (.iconst 0, 1) := by decide +kernel
theorem d_Mod_load_66 : decode (m_c m_Mod_load) 66 = .ok (.istore_n 3, 1) := by decide +kernel
theorem d_Mod_load_67 : decode (m_c m_Mod_load) 67 = .ok (.iload_n 3, 1) := by decide +kernel
theorem d_Mod_load_68 : decode (m_c m_Mod_load) 68 = .ok (.aload_n 0, 1) := by decide +kernel
theorem d_Mod_load_69 : decode (m_c m_Mod_load) 69 = .ok (.getfield 94, 3) := by decide +kernel
theorem d_Mod_load_72 : decode (m_c m_Mod_load) 72 = .ok (.iload_n 2, 1) := by decide +kernel
theorem d_Mod_load_73 : decode (m_c m_Mod_load) 73 = .ok (.iaload, 1) := by decide +kernel
theorem d_Mod_load_74 : decode (m_c m_Mod_load) 74 = .ok (.if_icmp .ge 44, 3) := by decide +kernel
theorem d_Mod_load_77 : decode (m_c m_Mod_load) 77 = .ok (.aload_n 0, 1) := by decide +kernel
theorem d_Mod_load_78 : decode (m_c m_Mod_load) 78 = .ok (.getfield 82, 3) := by decide +kernel
theorem d_Mod_load_81 : decode (m_c m_Mod_load) 81 = .ok (.iload_n 2, 1) := by decide +kernel
theorem d_Mod_load_82 : decode (m_c m_Mod_load) 82 = .ok (.baload, 1) := by decide +kernel
theorem d_Mod_load_83 : decode (m_c m_Mod_load) 83 = .ok (.ifCond .eq 35, 3) := by decide +kernel
theorem d_Mod_load_86 : decode (m_c m_Mod_load) 86 = .ok (.aload_n 0, 1) := by decide +kernel
theorem d_Mod_load_87 : decode (m_c m_Mod_load) 87 = .ok (.getfield 121, 3) := by decide +kernel
theorem d_Mod_load_90 : decode (m_c m_Mod_load) 90 = .ok (.aload_n 0, 1) := by decide +kernel
theorem d_Mod_load_91 : decode (m_c m_Mod_load) 91 = .ok (.getfield 97, 3) := by decide +kernel
theorem d_Mod_load_94 : decode (m_c m_Mod_load) 94 = .ok (.iload_n 2, 1) := by decide +kernel
theorem d_Mod_load_95 : decode (m_c m_Mod_load) 95 = .ok (.iaload, 1) := by decide +kernel
theorem d_Mod_load_96 : decode (m_c m_Mod_load) 96 = .ok (.iload_n 3, 1) := by decide +kernel
theorem d_Mod_load_97 : decode (m_c m_Mod_load) 97 = .ok (.iadd, 1) := by decide +kernel
theorem d_Mod_load_98 : decode (m_c m_Mod_load) 98 = .ok (.aload_n 0, 1) := by decide +kernel
theorem d_Mod_load_99 : decode (m_c m_Mod_load) 99 = .ok (.iload_n 2, 1) := by decide +kernel
theorem d_Mod_load_100 : decode (m_c m_Mod_load) 100 = .ok (.aload_n 0, 1) := by decide +kernel
theorem d_Mod_load_101 : decode (m_c m_Mod_load) 101 = .ok (.getfield 91, 3) := by decide +kernel
theorem d_Mod_load_104 : decode (m_c m_Mod_load) 104 = .ok (.iload_n 2, 1) := by decide +kernel
theorem d_Mod_load_105 : decode (m_c m_Mod_load) 105 = .ok (.iaload, 1) := by decide +kernel
theorem d_Mod_load_106 : decode (m_c m_Mod_load) 106 = .ok (.iload_n 3, 1) := by decide +kernel
theorem d_Mod_load_107 : decode (m_c m_Mod_load) 107 = .ok (.iadd, 1) := by decide +kernel
theorem d_Mod_load_108 : decode (m_c m_Mod_load) 108 = .ok (.invokevirtual 282, 3) := by decide +kernel
theorem d_Mod_load_111 : decode (m_c m_Mod_load) 111 = .ok (.iastore, 1) := by decide +kernel
theorem d_Mod_load_112 : decode (m_c m_Mod_load) 112 = .ok (.iinc 3 1, 3) := by decide +kernel
theorem d_Mod_load_115 : decode (m_c m_Mod_load) 115 = .ok (.goto (-48), 3) := by decide +kernel
theorem d_Mod_load_118 : decode (m_c m_Mod_load) 118 = .ok (.iinc 1 1, 3) := by decide +kernel
theorem d_Mod_load_121 : decode (m_c m_Mod_load) 121 = .ok (.goto (-71), 3) := by decide +kernel
theorem d_Mod_load_124 : decode (m_c m_Mod_load) 124 = .ok (.return_, 1) := by decide +kernel
def p_Mod_load_118  (c50 : Int → q_F → q_F → Option (q_F × q_F)) (v1 : Int) (f g : q_F) : Option (q_F × q_F) :=
  q_let (v1 + 1) fun z1 =>
  c50 (z1) f g
def p_Mod_load_67  (c50 : Int → q_F → q_F → Option (q_F × q_F)) : Nat → Int → Int → Int → q_F → q_F → Option (q_F × q_F)
  | 0, _, _, _, _, _ => none
  | n + 1, v1, v2, v3, f, g =>
    if 0 ≤ v2 ∧ v2 < 8 then
      if q_sw (f 87 (Int.toNat v2)) ≤ q_sw v3 then
        p_Mod_load_118  c50 (v1) f g
      else
        if 0 ≤ v2 ∧ v2 < 8 then
          if q_sw (f 83 (Int.toNat v2)) = 0 then
            p_Mod_load_118  c50 (v1) f g
          else
            if 0 ≤ v2 ∧ v2 < 8 then
              if 0 ≤ v2 ∧ v2 < 8 then
                (p_Mod_byteOf (v2) ((f 86 (Int.toNat v2)) + v3) f g).bind fun x7 =>
                if 0 ≤ ((f 88 (Int.toNat v2)) + v3) ∧ ((f 88 (Int.toNat v2)) + v3) < 512 then
                  q_let (ma_up x7.2.1 96 (Int.toNat ((f 88 (Int.toNat v2)) + v3)) x7.1) fun f10 =>
                  q_let (v3 + 1) fun z11 =>
                  (p_Mod_load_67  c50 n) (v1) (v2) (z11) f10 x7.2.2
                else none
              else none
            else none
        else none
    else none
def p_Mod_load_50   : Nat → Int → q_F → q_F → Option (q_F × q_F)
  | 0, _, _, _ => none
  | n + 1, v1, f, g =>
    if q_sw (f 60 22) ≤ q_sw v1 then
      some (f, g)
    else
      if 0 ≤ v1 ∧ v1 < 8 then
        q_let (f 75 (Int.toNat v1)) fun z3 =>
        p_Mod_load_67  (p_Mod_load_50   n) 1000 (v1) (z3) (0) f g
      else none
def p_Mod_load_26   : Nat → Int → q_F → q_F → Option (q_F × q_F)
  | 0, _, _, _ => none
  | n + 1, v1, f, g =>
    if q_sw 512 ≤ q_sw v1 then
      p_Mod_load_50   1000 (0) f g
    else
      if 0 ≤ v1 ∧ v1 < 512 then
        q_let (ma_up f 96 (Int.toNat v1) 170) fun f3 =>
        q_let (v1 + 1) fun z4 =>
        (p_Mod_load_26   n) (z4) f3 g
      else none
def p_Mod_load_13   (s0 : Int) (f g : q_F) : Option (q_F × q_F) :=
  q_let (ma_up f 60 0 s0) fun f1 =>
  if q_sw (f1 60 0) ≤ 0 then
    p_Mod_load_26   1000 (0) f1 g
  else
    some (f1, g)
def p_Mod_load   (f g : q_F) : Option (q_F × q_F) :=
  if q_sw (f 60 45) = 0 then
    p_Mod_load_13   (1) f g
  else
    p_Mod_load_13   (0) f g
theorem e_Mod_load_118 (t : q_V) (ok : ma_ok (q_G t))  {Q : Option Value → ma_H → Prop} {y : q_F × q_F} (hQ : Q (none) (q_h y.1 y.2)) (c50 : Int → q_F → q_F → Option (q_F × q_F)) (hc50 : ∀ (v1 : Int) (f g : q_F), c50 v1 f g = some y → ma_Ev (q_G t) 2 47 0 0 m_Mod_load 50 [(0, q_a t (60)), (1, ma_i (v1))] [] (q_h f g) (ma_zr (q_G t) false Q)) (v1 : Int) (f g : q_F) (hp : p_Mod_load_118  c50 v1 f g = some y) : ma_Ev (q_G t) 2 47 0 0 m_Mod_load 118 [(0, q_a t (60)), (1, ma_i (v1))] [] (q_h f g) (ma_zr (q_G t) false Q) := by
  unfold p_Mod_load_118 at hp
  refine ev_iinc (pc := 118) d_Mod_load_118 (by decide) rfl [(1, _), (0, _)] rfl ?_
  replace hp := q_let_of hp
  obtain ⟨z1, hz, hp⟩ := hp
  rw [← hz]
  clear hz
  refine ev_goto (pc := 121) (tgt := 50) d_Mod_load_121 (by decide) ?_
  refine ev_sub (ls2 := [(0, q_a t (60)), (1, ma_i (z1))]) [1, 0] rfl ?_
  exact hc50 (z1) f g hp
theorem e_Mod_load_67 (t : q_V) (ok : ma_ok (q_G t))  {Q : Option Value → ma_H → Prop} {y : q_F × q_F} (hQ : Q (none) (q_h y.1 y.2)) (c50 : Int → q_F → q_F → Option (q_F × q_F)) (hc50 : ∀ (v1 : Int) (f g : q_F), c50 v1 f g = some y → ma_Ev (q_G t) 2 47 0 0 m_Mod_load 50 [(0, q_a t (60)), (1, ma_i (v1))] [] (q_h f g) (ma_zr (q_G t) false Q)) : ∀ (n : Nat) (v1 : Int) (v2 : Int) (v3 : Int) (f g : q_F), p_Mod_load_67  c50 n v1 v2 v3 f g = some y → ma_Ev (q_G t) 2 47 0 0 m_Mod_load 67 [(0, q_a t (60)), (1, ma_i (v1)), (2, ma_i (v2)), (3, ma_i (v3))] [] (q_h f g) (ma_zr (q_G t) false Q) := by
  intro n
  induction n with
  | zero =>
    intro v1 v2 v3 f g hp
    rw [p_Mod_load_67] at hp
    cases hp
  | succ n ih =>
    intro v1 v2 v3 f g hp
    rw [p_Mod_load_67] at hp
    refine ev_iload_n (pc := 67) d_Mod_load_67 rfl rfl ?_
    refine et_aload_n (pc := 68) d_Mod_load_68 rfl rfl ?_
    refine et_getr (pc := 69) ok (fl_Mod_94 t) rfl d_Mod_load_69 s_60 r_60_35 ?_
    refine ev_iload_n (pc := 72) d_Mod_load_72 rfl rfl ?_
    replace hp := q_if hp
    obtain ⟨hb1, hp⟩ := hp
    refine et_iald (pc := 73) d_Mod_load_73 s_87 hb1 (by decide) ?_
    refine et_icmp_ge (pc := 74) (tgt := 118) d_Mod_load_74 (by decide) (fun hj2 => ?_) (fun hj2 => ?_)
    · rw [if_pos hj2] at hp
      refine ev_sub (ls2 := [(0, q_a t (60)), (1, ma_i (v1))]) [0, 1] rfl ?_
      exact e_Mod_load_118 t ok  hQ c50 hc50 (v1) f g hp
    · rw [if_neg hj2] at hp
      refine et_aload_n (pc := 77) d_Mod_load_77 rfl rfl ?_
      refine et_getr (pc := 78) ok (fl_Mod_82 t) rfl d_Mod_load_78 s_60 r_60_31 ?_
      refine ev_iload_n (pc := 81) d_Mod_load_81 rfl rfl ?_
      replace hp := q_if hp
      obtain ⟨hb3, hp⟩ := hp
      refine et_zald (pc := 82) d_Mod_load_82 s_83 hb3 (by decide) ?_
      refine et_if_eq (pc := 83) (tgt := 118) d_Mod_load_83 (by decide) (fun hj4 => ?_) (fun hj4 => ?_)
      · rw [if_pos hj4] at hp
        refine ev_sub (ls2 := [(0, q_a t (60)), (1, ma_i (v1))]) [0, 1] rfl ?_
        exact e_Mod_load_118 t ok  hQ c50 hc50 (v1) f g hp
      · rw [if_neg hj4] at hp
        refine et_aload_n (pc := 86) d_Mod_load_86 rfl rfl ?_
        refine et_getr (pc := 87) ok (fl_Mod_121 t) rfl d_Mod_load_87 s_60 r_60_46 ?_
        refine et_aload_n (pc := 90) d_Mod_load_90 rfl rfl ?_
        refine et_getr (pc := 91) ok (fl_Mod_97 t) rfl d_Mod_load_91 s_60 r_60_36 ?_
        refine ev_iload_n (pc := 94) d_Mod_load_94 rfl rfl ?_
        replace hp := q_if hp
        obtain ⟨hb5, hp⟩ := hp
        refine et_iald (pc := 95) d_Mod_load_95 s_88 hb5 (by decide) ?_
        refine ev_iload_n (pc := 96) d_Mod_load_96 rfl rfl ?_
        refine ev_iadd (pc := 97) d_Mod_load_97 ?_
        refine et_aload_n (pc := 98) d_Mod_load_98 rfl rfl ?_
        refine ev_iload_n (pc := 99) d_Mod_load_99 rfl rfl ?_
        refine et_aload_n (pc := 100) d_Mod_load_100 rfl rfl ?_
        refine et_getr (pc := 101) ok (fl_Mod_91 t) rfl d_Mod_load_101 s_60 r_60_34 ?_
        refine ev_iload_n (pc := 104) d_Mod_load_104 rfl rfl ?_
        replace hp := q_if hp
        obtain ⟨hb6, hp⟩ := hp
        refine et_iald (pc := 105) d_Mod_load_105 s_86 hb6 (by decide) ?_
        refine ev_iload_n (pc := 106) d_Mod_load_106 rfl rfl ?_
        refine ev_iadd (pc := 107) d_Mod_load_107 ?_
        replace hp := q_bind hp
        obtain ⟨x7, hm8, hp⟩ := hp
        refine et_callVi (pc := 108) (f1 := x7.2.1) (g1 := x7.2.2) ok [ma_i (v2), ma_i ((f 86 (Int.toNat v2)) + v3)] [ma_i ((f 88 (Int.toNat v2)) + v3), q_a t (96)] (cf_Mod_282 t) d_Mod_load_108 s_60 k_12 rfl (t_Mod_byteOf t ok (v2) ((f 86 (Int.toNat v2)) + v3) f g hm8 ⟨rfl, rfl⟩) rfl rfl (by decide) (by decide) (q_ble rfl) ?_
        replace hp := q_if hp
        obtain ⟨hb9, hp⟩ := hp
        refine et_iast (pc := 111) d_Mod_load_111 s_96 hb9 (by decide) ?_
        replace hp := q_let_of hp
        obtain ⟨f10, hz, hp⟩ := hp
        rw [← hz]
        clear hz
        refine ev_iinc (pc := 112) d_Mod_load_112 (by decide) rfl [(3, _), (0, _), (1, _), (2, _)] rfl ?_
        replace hp := q_let_of hp
        obtain ⟨z11, hz, hp⟩ := hp
        rw [← hz]
        clear hz
        refine ev_goto (pc := 115) (tgt := 67) d_Mod_load_115 (by decide) ?_
        refine ev_sub (ls2 := [(0, q_a t (60)), (1, ma_i (v1)), (2, ma_i (v2)), (3, ma_i (z11))]) [1, 2, 3, 0] rfl ?_
        exact ih (v1) (v2) (z11) f10 x7.2.2 hp
theorem e_Mod_load_50 (t : q_V) (ok : ma_ok (q_G t))  {Q : Option Value → ma_H → Prop} {y : q_F × q_F} (hQ : Q (none) (q_h y.1 y.2))   : ∀ (n : Nat) (v1 : Int) (f g : q_F), p_Mod_load_50   n v1 f g = some y → ma_Ev (q_G t) 2 47 0 0 m_Mod_load 50 [(0, q_a t (60)), (1, ma_i (v1))] [] (q_h f g) (ma_zr (q_G t) false Q) := by
  intro n
  induction n with
  | zero =>
    intro v1 f g hp
    rw [p_Mod_load_50] at hp
    cases hp
  | succ n ih =>
    intro v1 f g hp
    rw [p_Mod_load_50] at hp
    refine ev_iload_n (pc := 50) d_Mod_load_50 rfl rfl ?_
    refine et_aload_n (pc := 51) d_Mod_load_51 rfl rfl ?_
    refine et_geti (pc := 52) ok (fl_Mod_196 t) rfl d_Mod_load_52 s_60 ?_
    refine et_icmp_ge (pc := 55) (tgt := 124) d_Mod_load_55 (by decide) (fun hj1 => ?_) (fun hj1 => ?_)
    · rw [if_pos hj1] at hp
      cases Option.some.inj hp
      exact et_ret (pc := 124) d_Mod_load_124 rfl hQ
    · rw [if_neg hj1] at hp
      refine et_aload_n (pc := 58) d_Mod_load_58 rfl rfl ?_
      refine et_getr (pc := 59) ok (fl_Mod_58 t) rfl d_Mod_load_59 s_60 r_60_23 ?_
      refine ev_iload_n (pc := 62) d_Mod_load_62 rfl rfl ?_
      replace hp := q_if hp
      obtain ⟨hb2, hp⟩ := hp
      refine et_iald (pc := 63) d_Mod_load_63 s_75 hb2 (by decide) ?_
      refine ev_istore_n (pc := 64) d_Mod_load_64 rfl (by decide) [(2, _), (0, _), (1, _)] rfl ?_
      replace hp := q_let_of hp
      obtain ⟨z3, hz, hp⟩ := hp
      rw [← hz]
      clear hz
      refine ev_iconst (pc := 65) d_Mod_load_65 ?_
      refine ev_istore_n (pc := 66) d_Mod_load_66 rfl (by decide) [(3, _), (2, _), (0, _), (1, _)] rfl ?_
      refine ev_sub (ls2 := [(0, q_a t (60)), (1, ma_i (v1)), (2, ma_i (z3)), (3, ma_i (0))]) [2, 3, 1, 0] rfl ?_
      exact e_Mod_load_67 t ok  hQ (p_Mod_load_50   n) ih 1000 (v1) (z3) (0) f g hp
theorem e_Mod_load_26 (t : q_V) (ok : ma_ok (q_G t))  {Q : Option Value → ma_H → Prop} {y : q_F × q_F} (hQ : Q (none) (q_h y.1 y.2))   : ∀ (n : Nat) (v1 : Int) (f g : q_F), p_Mod_load_26   n v1 f g = some y → ma_Ev (q_G t) 2 47 0 0 m_Mod_load 26 [(0, q_a t (60)), (1, ma_i (v1))] [] (q_h f g) (ma_zr (q_G t) false Q) := by
  intro n
  induction n with
  | zero =>
    intro v1 f g hp
    rw [p_Mod_load_26] at hp
    cases hp
  | succ n ih =>
    intro v1 f g hp
    rw [p_Mod_load_26] at hp
    refine ev_iload_n (pc := 26) d_Mod_load_26 rfl rfl ?_
    refine ev_sipush (pc := 27) d_Mod_load_27 rfl ?_
    refine et_icmp_ge (pc := 30) (tgt := 48) d_Mod_load_30 (by decide) (fun hj1 => ?_) (fun hj1 => ?_)
    · rw [if_pos hj1] at hp
      refine ev_iconst (pc := 48) d_Mod_load_48 ?_
      refine ev_istore_n (pc := 49) d_Mod_load_49 rfl (by decide) [(1, _), (0, _)] rfl ?_
      refine ev_sub (ls2 := [(0, q_a t (60)), (1, ma_i (0))]) [1, 0] rfl ?_
      exact e_Mod_load_50 t ok  hQ   1000 (0) f g hp
    · rw [if_neg hj1] at hp
      refine et_aload_n (pc := 33) d_Mod_load_33 rfl rfl ?_
      refine et_getr (pc := 34) ok (fl_Mod_121 t) rfl d_Mod_load_34 s_60 r_60_46 ?_
      refine ev_iload_n (pc := 37) d_Mod_load_37 rfl rfl ?_
      refine ev_sipush (pc := 38) d_Mod_load_38 rfl ?_
      replace hp := q_if hp
      obtain ⟨hb2, hp⟩ := hp
      refine et_iast (pc := 41) d_Mod_load_41 s_96 hb2 (by decide) ?_
      replace hp := q_let_of hp
      obtain ⟨f3, hz, hp⟩ := hp
      rw [← hz]
      clear hz
      refine ev_iinc (pc := 42) d_Mod_load_42 (by decide) rfl [(1, _), (0, _)] rfl ?_
      replace hp := q_let_of hp
      obtain ⟨z4, hz, hp⟩ := hp
      rw [← hz]
      clear hz
      refine ev_goto (pc := 45) (tgt := 26) d_Mod_load_45 (by decide) ?_
      refine ev_sub (ls2 := [(0, q_a t (60)), (1, ma_i (z4))]) [1, 0] rfl ?_
      exact ih (z4) f3 g hp
theorem e_Mod_load_13 (t : q_V) (ok : ma_ok (q_G t))  {Q : Option Value → ma_H → Prop} {y : q_F × q_F} (hQ : Q (none) (q_h y.1 y.2))   (s0 : Int) (f g : q_F) (hp : p_Mod_load_13   s0 f g = some y) : ma_Ev (q_G t) 2 47 0 0 m_Mod_load 13 [(0, q_a t (60))] [ma_i (s0), q_a t (60)] (q_h f g) (ma_zr (q_G t) false Q) := by
  unfold p_Mod_load_13 at hp
  refine et_puti (pc := 13) ok (fl_Mod_124 t) d_Mod_load_13 s_60 ?_
  replace hp := q_let_of hp
  obtain ⟨f1, hz, hp⟩ := hp
  rw [← hz]
  clear hz
  refine et_aload_n (pc := 16) d_Mod_load_16 rfl rfl ?_
  refine et_geti (pc := 17) ok (fl_Mod_124 t) rfl d_Mod_load_17 s_60 ?_
  refine et_if_le (pc := 20) (tgt := 24) d_Mod_load_20 (by decide) (fun hj2 => ?_) (fun hj2 => ?_)
  · rw [if_pos hj2] at hp
    refine ev_iconst (pc := 24) d_Mod_load_24 ?_
    refine ev_istore_n (pc := 25) d_Mod_load_25 rfl (by decide) [(1, _), (0, _)] rfl ?_
    refine ev_sub (ls2 := [(0, q_a t (60)), (1, ma_i (0))]) [1, 0] rfl ?_
    exact e_Mod_load_26 t ok  hQ   1000 (0) f1 g hp
  · rw [if_neg hj2] at hp
    cases Option.some.inj hp
    exact et_ret (pc := 23) d_Mod_load_23 rfl hQ
theorem t_Mod_load (t : q_V) (ok : ma_ok (q_G t))  {Q : Option Value → ma_H → Prop} {y : q_F × q_F}  (f g : q_F) (hp : p_Mod_load   f g = some y) (hQ : Q (none) (q_h y.1 y.2)) : ma_Met (q_G t) false 2 47 0 0 m_Mod_load [q_a t (60)] (q_h f g) Q := by
  refine ma_met (by decide +kernel) (q_ble rfl) rfl ?_
  change ma_Ev (q_G t) 2 47 0 0 m_Mod_load 0 [(0, q_a t (60))] [] (q_h f g) (ma_zr (q_G t) false Q)
  unfold p_Mod_load at hp
  refine et_aload_n (pc := 0) d_Mod_load_0 rfl rfl ?_
  refine et_aload_n (pc := 1) d_Mod_load_1 rfl rfl ?_
  refine et_geti (pc := 2) ok (fl_Mod_135 t) rfl d_Mod_load_2 s_60 ?_
  refine et_if_eq (pc := 5) (tgt := 12) d_Mod_load_5 (by decide) (fun hj1 => ?_) (fun hj1 => ?_)
  · rw [if_pos hj1] at hp
    refine ev_iconst (pc := 12) d_Mod_load_12 ?_
    refine ev_sub (ls2 := [(0, q_a t (60))]) [0] rfl ?_
    exact e_Mod_load_13 t ok  hQ   (1) f g hp
  · rw [if_neg hj1] at hp
    refine ev_iconst (pc := 8) d_Mod_load_8 ?_
    refine ev_goto (pc := 9) (tgt := 13) d_Mod_load_9 (by decide) ?_
    refine ev_sub (ls2 := [(0, q_a t (60))]) [0] rfl ?_
    exact e_Mod_load_13 t ok  hQ   (0) f g hp
theorem d_Mod_start_0 : decode (m_c m_Mod_start) 0 = .ok (.aload_n 0, 1) := by decide +kernel
theorem d_Mod_start_1 : decode (m_c m_Mod_start) 1 = .ok (.aload_n 0, 1) := by decide +kernel
theorem d_Mod_start_2 : decode (m_c m_Mod_start) 2 = .ok (.getfield 135, 3) := by decide +kernel
theorem d_Mod_start_5 : decode (m_c m_Mod_start) 5 = .ok (.ifCond .eq 7, 3) := by decide +kernel
theorem d_Mod_start_8 : decode (m_c m_Mod_start) 8 = .ok (.iconst 0, 1) := by decide +kernel
theorem d_Mod_start_9 : decode (m_c m_Mod_start) 9 = .ok (.goto 4, 3) := by decide +kernel
theorem d_Mod_start_12 : decode (m_c m_Mod_start) 12 = .ok (.iconst 1, 1) := by decide +kernel
theorem d_Mod_start_13 : decode (m_c m_Mod_start) 13 = .ok (.putfield 124, 3) := by decide +kernel
theorem d_Mod_start_16 : decode (m_c m_Mod_start) 16 = .ok (.aload_n 0, 1) := by decide +kernel
theorem d_Mod_start_17 : decode (m_c m_Mod_start) 17 = .ok (.getfield 124, 3) := by decide +kernel
theorem d_Mod_start_20 : decode (m_c m_Mod_start) 20 = .ok (.ifCond .le 4, 3) := by decide +kernel
theorem d_Mod_start_23 : decode (m_c m_Mod_start) 23 = .ok (.return_, 1) := by decide +kernel
theorem d_Mod_start_24 : decode (m_c m_Mod_start) 24 = .ok (.iconst 0, 1) := by decide +kernel
theorem d_Mod_start_25 : decode (m_c m_Mod_start) 25 = .ok (.istore_n 1, 1) := by decide +kernel
theorem d_Mod_start_26 : decode (m_c m_Mod_start) 26 = .ok (.iload_n 1, 1) := by decide +kernel
theorem d_Mod_start_27 : decode (m_c m_Mod_start) 27 = .ok (.aload_n 0, 1) := by decide +kernel
theorem d_Mod_start_28 : decode (m_c m_Mod_start) 28 = .ok (.getfield 196, 3) := by decide +kernel
theorem d_Mod_start_31 : decode (m_c m_Mod_start) 31 = .ok (.if_icmp .ge 68, 3) := by decide +kernel
theorem d_Mod_start_34 : decode (m_c m_Mod_start) 34 = .ok (.aload_n 0, 1) := by decide +kernel
theorem d_Mod_start_35 : decode (m_c m_Mod_start) 35 = .ok (.getfield 58, 3) := by decide +kernel
theorem d_Mod_start_38 : decode (m_c m_Mod_start) 38 = .ok (.iload_n 1, 1) := by decide +kernel
theorem d_Mod_start_39 : decode (m_c m_Mod_start) 39 = .ok (.iaload, 1) := by decide +kernel
theorem d_Mod_start_40 : decode (m_c m_Mod_start) 40 = .ok (.istore_n 2, 1) := by decide +kernel
theorem d_Mod_start_41 : decode (m_c m_Mod_start) 41 = .ok (.iconst 0, 1) := by decide +kernel
theorem d_Mod_start_42 : decode (m_c m_Mod_start) 42 = .ok (.istore_n 3, 1) := by decide +kernel
theorem d_Mod_start_43 : decode (m_c m_Mod_start) 43 = .ok (.iload_n 3, 1) := by decide +kernel
theorem d_Mod_start_44 : decode (m_c m_Mod_start) 44 = .ok (.aload_n 0, 1) := by decide +kernel
theorem d_Mod_start_45 : decode (m_c m_Mod_start) 45 = .ok (.getfield 94, 3) := by decide +kernel
theorem d_Mod_start_48 : decode (m_c m_Mod_start) 48 = .ok (.iload_n 2, 1) := by decide +kernel
theorem d_Mod_start_49 : decode (m_c m_Mod_start) 49 = .ok (.iaload, 1) := by decide +kernel
theorem d_Mod_start_50 : decode (m_c m_Mod_start) 50 = .ok (.if_icmp .ge 43, 3) := by decide +kernel
theorem d_Mod_start_53 : decode (m_c m_Mod_start) 53 = .ok (.aload_n 0, 1) := by decide +kernel
theorem d_Mod_start_54 : decode (m_c m_Mod_start) 54 = .ok (.iload_n 2, 1) := by decide +kernel
theorem d_Mod_start_55 : decode (m_c m_Mod_start) 55 = .ok (.invokevirtual 257, 3) := by decide +kernel
theorem d_Mod_start_58 : decode (m_c m_Mod_start) 58 = .ok (.ifCond .eq 35, 3) := by decide +kernel
theorem d_Mod_start_61 : decode (m_c m_Mod_start) 61 = .ok (.aload_n 0, 1) := by decide +kernel
theorem d_Mod_start_62 : decode (m_c m_Mod_start) 62 = .ok (.getfield 121, 3) := by decide +kernel
theorem d_Mod_start_65 : decode (m_c m_Mod_start) 65 = .ok (.aload_n 0, 1) := by decide +kernel
theorem d_Mod_start_66 : decode (m_c m_Mod_start) 66 = .ok (.getfield 91, 3) := by decide +kernel
theorem d_Mod_start_69 : decode (m_c m_Mod_start) 69 = .ok (.iload_n 2, 1) := by decide +kernel
theorem d_Mod_start_70 : decode (m_c m_Mod_start) 70 = .ok (.iaload, 1) := by decide +kernel
theorem d_Mod_start_71 : decode (m_c m_Mod_start) 71 = .ok (.iload_n 3, 1) := by decide +kernel
theorem d_Mod_start_72 : decode (m_c m_Mod_start) 72 = .ok (.iadd, 1) := by decide +kernel
theorem d_Mod_start_73 : decode (m_c m_Mod_start) 73 = .ok (.aload_n 0, 1) := by decide +kernel
theorem d_Mod_start_74 : decode (m_c m_Mod_start) 74 = .ok (.getfield 121, 3) := by decide +kernel
theorem d_Mod_start_77 : decode (m_c m_Mod_start) 77 = .ok (.aload_n 0, 1) := by decide +kernel
theorem d_Mod_start_78 : decode (m_c m_Mod_start) 78 = .ok (.getfield 97, 3) := by decide +kernel
theorem d_Mod_start_81 : decode (m_c m_Mod_start) 81 = .ok (.iload_n 2, 1) := by decide +kernel
theorem d_Mod_start_82 : decode (m_c m_Mod_start) 82 = .ok (.iaload, 1) := by decide +kernel
theorem d_Mod_start_83 : decode (m_c m_Mod_start) 83 = .ok (.iload_n 3, 1) := by decide +kernel
theorem d_Mod_start_84 : decode (m_c m_Mod_start) 84 = .ok (.iadd, 1) := by decide +kernel
theorem d_Mod_start_85 : decode (m_c m_Mod_start) 85 = .ok (.iaload, 1) := by decide +kernel
theorem d_Mod_start_86 : decode (m_c m_Mod_start) 86 = .ok (.iastore, 1) := by decide +kernel
theorem d_Mod_start_87 : decode (m_c m_Mod_start) 87 = .ok (.iinc 3 1, 3) := by decide +kernel
theorem d_Mod_start_90 : decode (m_c m_Mod_start) 90 = .ok (.goto (-47), 3) := by decide +kernel
theorem d_Mod_start_93 : decode (m_c m_Mod_start) 93 = .ok (.iinc 1 1, 3) := by decide +kernel
theorem d_Mod_start_96 : decode (m_c m_Mod_start) 96 = .ok (.goto (-70), 3) := by decide +kernel
theorem d_Mod_start_99 : decode (m_c m_Mod_start) 99 = .ok (.iconst 0, 1) := by decide +kernel
theorem d_Mod_start_100 : decode (m_c m_Mod_start) 100 = .ok (.istore_n 1, 1) := by decide +kernel
theorem d_Mod_start_101 : decode (m_c m_Mod_start) 101 = .ok (.iload_n 1, 1) := by decide +kernel
theorem d_Mod_start_102 : decode (m_c m_Mod_start) 102 = .ok (.aload_n 0, 1) := by decide +kernel
theorem d_Mod_start_103 : decode (m_c m_Mod_start) 103 = .ok (.getfield 196, 3) := by decide +kernel
theorem d_Mod_start_106 : decode (m_c m_Mod_start) 106 = .ok (.if_icmp .ge 57, 3) := by decide +kernel
theorem d_Mod_start_109 : decode (m_c m_Mod_start) 109 = .ok (.aload_n 0, 1) := by decide +kernel
theorem d_Mod_start_110 : decode (m_c m_Mod_start) 110 = .ok (.getfield 58, 3) := by decide +kernel
theorem d_Mod_start_113 : decode (m_c m_Mod_start) 113 = .ok (.iload_n 1, 1) := by decide +kernel
theorem d_Mod_start_114 : decode (m_c m_Mod_start) 114 = .ok (.iaload, 1) := by decide +kernel
theorem d_Mod_start_115 : decode (m_c m_Mod_start) 115 = .ok (.istore_n 2, 1) := by decide +kernel
theorem d_Mod_start_116 : decode (m_c m_Mod_start) 116 = .ok (.iconst 0, 1) := by decide +kernel
theorem d_Mod_start_117 : decode (m_c m_Mod_start) 117 = .ok (.istore_n 3, 1) := by decide +kernel
theorem d_Mod_start_118 : decode (m_c m_Mod_start) 118 = .ok (.iload_n 3, 1) := by decide +kernel
theorem d_Mod_start_119 : decode (m_c m_Mod_start) 119 = .ok (.aload_n 0, 1) := by decide +kernel
theorem d_Mod_start_120 : decode (m_c m_Mod_start) 120 = .ok (.getfield 94, 3) := by decide +kernel
theorem d_Mod_start_123 : decode (m_c m_Mod_start) 123 = .ok (.iload_n 2, 1) := by decide +kernel
theorem d_Mod_start_124 : decode (m_c m_Mod_start) 124 = .ok (.iaload, 1) := by decide +kernel
theorem d_Mod_start_125 : decode (m_c m_Mod_start) 125 = .ok (.if_icmp .ge 32, 3) := by decide +kernel
theorem d_Mod_start_128 : decode (m_c m_Mod_start) 128 = .ok (.aload_n 0, 1) := by decide +kernel
theorem d_Mod_start_129 : decode (m_c m_Mod_start) 129 = .ok (.getfield 82, 3) := by decide +kernel
theorem d_Mod_start_132 : decode (m_c m_Mod_start) 132 = .ok (.iload_n 2, 1) := by decide +kernel
theorem d_Mod_start_133 : decode (m_c m_Mod_start) 133 = .ok (.baload, 1) := by decide +kernel
theorem d_Mod_start_134 : decode (m_c m_Mod_start) 134 = .ok (.ifCond .ne 23, 3) := by decide +kernel
theorem d_Mod_start_137 : decode (m_c m_Mod_start) 137 = .ok (.aload_n 0, 1) := by decide +kernel
theorem d_Mod_start_138 : decode (m_c m_Mod_start) 138 = .ok (.getfield 121, 3) := by decide +kernel
theorem d_Mod_start_141 : decode (m_c m_Mod_start) 141 = .ok (.aload_n 0, 1) := by decide +kernel
theorem d_Mod_start_142 : decode (m_c m_Mod_start) 142 = .ok (.getfield 91, 3) := by decide +kernel
theorem d_Mod_start_145 : decode (m_c m_Mod_start) 145 = .ok (.iload_n 2, 1) := by decide +kernel
theorem d_Mod_start_146 : decode (m_c m_Mod_start) 146 = .ok (.iaload, 1) := by decide +kernel
theorem d_Mod_start_147 : decode (m_c m_Mod_start) 147 = .ok (.iload_n 3, 1) := by decide +kernel
theorem d_Mod_start_148 : decode (m_c m_Mod_start) 148 = .ok (.iadd, 1) := by decide +kernel
theorem d_Mod_start_149 : decode (m_c m_Mod_start) 149 = .ok (.iconst 0, 1) := by decide +kernel
theorem d_Mod_start_150 : decode (m_c m_Mod_start) 150 = .ok (.iastore, 1) := by decide +kernel
theorem d_Mod_start_151 : decode (m_c m_Mod_start) 151 = .ok (.iinc 3 1, 3) := by decide +kernel
theorem d_Mod_start_154 : decode (m_c m_Mod_start) 154 = .ok (.goto (-36), 3) := by decide +kernel
theorem d_Mod_start_157 : decode (m_c m_Mod_start) 157 = .ok (.iinc 1 1, 3) := by decide +kernel
theorem d_Mod_start_160 : decode (m_c m_Mod_start) 160 = .ok (.goto (-59), 3) := by decide +kernel
theorem d_Mod_start_163 : decode (m_c m_Mod_start) 163 = .ok (.return_, 1) := by decide +kernel
def p_Mod_start_157  (c101 : Int → q_F → q_F → Option (q_F × q_F)) (v1 : Int) (f g : q_F) : Option (q_F × q_F) :=
  q_let (v1 + 1) fun z1 =>
  c101 (z1) f g
def p_Mod_start_118  (c101 : Int → q_F → q_F → Option (q_F × q_F)) : Nat → Int → Int → Int → q_F → q_F → Option (q_F × q_F)
  | 0, _, _, _, _, _ => none
  | n + 1, v1, v2, v3, f, g =>
    if 0 ≤ v2 ∧ v2 < 8 then
      if q_sw (f 87 (Int.toNat v2)) ≤ q_sw v3 then
        p_Mod_start_157  c101 (v1) f g
      else
        if 0 ≤ v2 ∧ v2 < 8 then
          if q_sw (f 83 (Int.toNat v2)) = 0 then
            if 0 ≤ v2 ∧ v2 < 8 then
              if 0 ≤ ((f 86 (Int.toNat v2)) + v3) ∧ ((f 86 (Int.toNat v2)) + v3) < 512 then
                q_let (ma_up f 96 (Int.toNat ((f 86 (Int.toNat v2)) + v3)) 0) fun f7 =>
                q_let (v3 + 1) fun z8 =>
                (p_Mod_start_118  c101 n) (v1) (v2) (z8) f7 g
              else none
            else none
          else
            p_Mod_start_157  c101 (v1) f g
        else none
    else none
def p_Mod_start_101   : Nat → Int → q_F → q_F → Option (q_F × q_F)
  | 0, _, _, _ => none
  | n + 1, v1, f, g =>
    if q_sw (f 60 22) ≤ q_sw v1 then
      some (f, g)
    else
      if 0 ≤ v1 ∧ v1 < 8 then
        q_let (f 75 (Int.toNat v1)) fun z3 =>
        p_Mod_start_118  (p_Mod_start_101   n) 1000 (v1) (z3) (0) f g
      else none
def p_Mod_start_93  (c26 : Int → q_F → q_F → Option (q_F × q_F)) (v1 : Int) (f g : q_F) : Option (q_F × q_F) :=
  q_let (v1 + 1) fun z1 =>
  c26 (z1) f g
def p_Mod_start_43  (c26 : Int → q_F → q_F → Option (q_F × q_F)) : Nat → Int → Int → Int → q_F → q_F → Option (q_F × q_F)
  | 0, _, _, _, _, _ => none
  | n + 1, v1, v2, v3, f, g =>
    if 0 ≤ v2 ∧ v2 < 8 then
      if q_sw (f 87 (Int.toNat v2)) ≤ q_sw v3 then
        p_Mod_start_93  c26 (v1) f g
      else
        (p_Mod_copied (v2) f g).bind fun x3 =>
        if q_sw x3.1 = 0 then
          p_Mod_start_93  c26 (v1) x3.2.1 x3.2.2
        else
          if 0 ≤ v2 ∧ v2 < 8 then
            if 0 ≤ v2 ∧ v2 < 8 then
              if 0 ≤ ((x3.2.1 88 (Int.toNat v2)) + v3) ∧ ((x3.2.1 88 (Int.toNat v2)) + v3) < 512 then
                if 0 ≤ ((x3.2.1 86 (Int.toNat v2)) + v3) ∧ ((x3.2.1 86 (Int.toNat v2)) + v3) < 512 then
                  q_let (ma_up x3.2.1 96 (Int.toNat ((x3.2.1 86 (Int.toNat v2)) + v3)) (x3.2.1 96 (Int.toNat ((x3.2.1 88 (Int.toNat v2)) + v3)))) fun f10 =>
                  q_let (v3 + 1) fun z11 =>
                  (p_Mod_start_43  c26 n) (v1) (v2) (z11) f10 x3.2.2
                else none
              else none
            else none
          else none
    else none
def p_Mod_start_26   : Nat → Int → q_F → q_F → Option (q_F × q_F)
  | 0, _, _, _ => none
  | n + 1, v1, f, g =>
    if q_sw (f 60 22) ≤ q_sw v1 then
      p_Mod_start_101   1000 (0) f g
    else
      if 0 ≤ v1 ∧ v1 < 8 then
        q_let (f 75 (Int.toNat v1)) fun z3 =>
        p_Mod_start_43  (p_Mod_start_26   n) 1000 (v1) (z3) (0) f g
      else none
def p_Mod_start_13   (s0 : Int) (f g : q_F) : Option (q_F × q_F) :=
  q_let (ma_up f 60 0 s0) fun f1 =>
  if q_sw (f1 60 0) ≤ 0 then
    p_Mod_start_26   1000 (0) f1 g
  else
    some (f1, g)
def p_Mod_start   (f g : q_F) : Option (q_F × q_F) :=
  if q_sw (f 60 45) = 0 then
    p_Mod_start_13   (1) f g
  else
    p_Mod_start_13   (0) f g
theorem e_Mod_start_157 (t : q_V) (ok : ma_ok (q_G t))  {Q : Option Value → ma_H → Prop} {y : q_F × q_F} (hQ : Q (none) (q_h y.1 y.2)) (c101 : Int → q_F → q_F → Option (q_F × q_F)) (hc101 : ∀ (v1 : Int) (f g : q_F), c101 v1 f g = some y → ma_Ev (q_G t) 1 21 0 0 m_Mod_start 101 [(0, q_a t (60)), (1, ma_i (v1))] [] (q_h f g) (ma_zr (q_G t) false Q)) (v1 : Int) (f g : q_F) (hp : p_Mod_start_157  c101 v1 f g = some y) : ma_Ev (q_G t) 1 21 0 0 m_Mod_start 157 [(0, q_a t (60)), (1, ma_i (v1))] [] (q_h f g) (ma_zr (q_G t) false Q) := by
  unfold p_Mod_start_157 at hp
  refine ev_iinc (pc := 157) d_Mod_start_157 (by decide) rfl [(1, _), (0, _)] rfl ?_
  replace hp := q_let_of hp
  obtain ⟨z1, hz, hp⟩ := hp
  rw [← hz]
  clear hz
  refine ev_goto (pc := 160) (tgt := 101) d_Mod_start_160 (by decide) ?_
  refine ev_sub (ls2 := [(0, q_a t (60)), (1, ma_i (z1))]) [1, 0] rfl ?_
  exact hc101 (z1) f g hp
theorem e_Mod_start_118 (t : q_V) (ok : ma_ok (q_G t))  {Q : Option Value → ma_H → Prop} {y : q_F × q_F} (hQ : Q (none) (q_h y.1 y.2)) (c101 : Int → q_F → q_F → Option (q_F × q_F)) (hc101 : ∀ (v1 : Int) (f g : q_F), c101 v1 f g = some y → ma_Ev (q_G t) 1 21 0 0 m_Mod_start 101 [(0, q_a t (60)), (1, ma_i (v1))] [] (q_h f g) (ma_zr (q_G t) false Q)) : ∀ (n : Nat) (v1 : Int) (v2 : Int) (v3 : Int) (f g : q_F), p_Mod_start_118  c101 n v1 v2 v3 f g = some y → ma_Ev (q_G t) 1 21 0 0 m_Mod_start 118 [(0, q_a t (60)), (1, ma_i (v1)), (2, ma_i (v2)), (3, ma_i (v3))] [] (q_h f g) (ma_zr (q_G t) false Q) := by
  intro n
  induction n with
  | zero =>
    intro v1 v2 v3 f g hp
    rw [p_Mod_start_118] at hp
    cases hp
  | succ n ih =>
    intro v1 v2 v3 f g hp
    rw [p_Mod_start_118] at hp
    refine ev_iload_n (pc := 118) d_Mod_start_118 rfl rfl ?_
    refine et_aload_n (pc := 119) d_Mod_start_119 rfl rfl ?_
    refine et_getr (pc := 120) ok (fl_Mod_94 t) rfl d_Mod_start_120 s_60 r_60_35 ?_
    refine ev_iload_n (pc := 123) d_Mod_start_123 rfl rfl ?_
    replace hp := q_if hp
    obtain ⟨hb1, hp⟩ := hp
    refine et_iald (pc := 124) d_Mod_start_124 s_87 hb1 (by decide) ?_
    refine et_icmp_ge (pc := 125) (tgt := 157) d_Mod_start_125 (by decide) (fun hj2 => ?_) (fun hj2 => ?_)
    · rw [if_pos hj2] at hp
      refine ev_sub (ls2 := [(0, q_a t (60)), (1, ma_i (v1))]) [0, 1] rfl ?_
      exact e_Mod_start_157 t ok  hQ c101 hc101 (v1) f g hp
    · rw [if_neg hj2] at hp
      refine et_aload_n (pc := 128) d_Mod_start_128 rfl rfl ?_
      refine et_getr (pc := 129) ok (fl_Mod_82 t) rfl d_Mod_start_129 s_60 r_60_31 ?_
      refine ev_iload_n (pc := 132) d_Mod_start_132 rfl rfl ?_
      replace hp := q_if hp
      obtain ⟨hb3, hp⟩ := hp
      refine et_zald (pc := 133) d_Mod_start_133 s_83 hb3 (by decide) ?_
      refine et_if_ne (pc := 134) (tgt := 157) d_Mod_start_134 (by decide) (fun hj4 => ?_) (fun hj4 => ?_)
      · rw [if_neg hj4] at hp
        refine ev_sub (ls2 := [(0, q_a t (60)), (1, ma_i (v1))]) [0, 1] rfl ?_
        exact e_Mod_start_157 t ok  hQ c101 hc101 (v1) f g hp
      · rw [if_pos hj4] at hp
        refine et_aload_n (pc := 137) d_Mod_start_137 rfl rfl ?_
        refine et_getr (pc := 138) ok (fl_Mod_121 t) rfl d_Mod_start_138 s_60 r_60_46 ?_
        refine et_aload_n (pc := 141) d_Mod_start_141 rfl rfl ?_
        refine et_getr (pc := 142) ok (fl_Mod_91 t) rfl d_Mod_start_142 s_60 r_60_34 ?_
        refine ev_iload_n (pc := 145) d_Mod_start_145 rfl rfl ?_
        replace hp := q_if hp
        obtain ⟨hb5, hp⟩ := hp
        refine et_iald (pc := 146) d_Mod_start_146 s_86 hb5 (by decide) ?_
        refine ev_iload_n (pc := 147) d_Mod_start_147 rfl rfl ?_
        refine ev_iadd (pc := 148) d_Mod_start_148 ?_
        refine ev_iconst (pc := 149) d_Mod_start_149 ?_
        replace hp := q_if hp
        obtain ⟨hb6, hp⟩ := hp
        refine et_iast (pc := 150) d_Mod_start_150 s_96 hb6 (by decide) ?_
        replace hp := q_let_of hp
        obtain ⟨f7, hz, hp⟩ := hp
        rw [← hz]
        clear hz
        refine ev_iinc (pc := 151) d_Mod_start_151 (by decide) rfl [(3, _), (0, _), (1, _), (2, _)] rfl ?_
        replace hp := q_let_of hp
        obtain ⟨z8, hz, hp⟩ := hp
        rw [← hz]
        clear hz
        refine ev_goto (pc := 154) (tgt := 118) d_Mod_start_154 (by decide) ?_
        refine ev_sub (ls2 := [(0, q_a t (60)), (1, ma_i (v1)), (2, ma_i (v2)), (3, ma_i (z8))]) [1, 2, 3, 0] rfl ?_
        exact ih (v1) (v2) (z8) f7 g hp
theorem e_Mod_start_101 (t : q_V) (ok : ma_ok (q_G t))  {Q : Option Value → ma_H → Prop} {y : q_F × q_F} (hQ : Q (none) (q_h y.1 y.2))   : ∀ (n : Nat) (v1 : Int) (f g : q_F), p_Mod_start_101   n v1 f g = some y → ma_Ev (q_G t) 1 21 0 0 m_Mod_start 101 [(0, q_a t (60)), (1, ma_i (v1))] [] (q_h f g) (ma_zr (q_G t) false Q) := by
  intro n
  induction n with
  | zero =>
    intro v1 f g hp
    rw [p_Mod_start_101] at hp
    cases hp
  | succ n ih =>
    intro v1 f g hp
    rw [p_Mod_start_101] at hp
    refine ev_iload_n (pc := 101) d_Mod_start_101 rfl rfl ?_
    refine et_aload_n (pc := 102) d_Mod_start_102 rfl rfl ?_
    refine et_geti (pc := 103) ok (fl_Mod_196 t) rfl d_Mod_start_103 s_60 ?_
    refine et_icmp_ge (pc := 106) (tgt := 163) d_Mod_start_106 (by decide) (fun hj1 => ?_) (fun hj1 => ?_)
    · rw [if_pos hj1] at hp
      cases Option.some.inj hp
      exact et_ret (pc := 163) d_Mod_start_163 rfl hQ
    · rw [if_neg hj1] at hp
      refine et_aload_n (pc := 109) d_Mod_start_109 rfl rfl ?_
      refine et_getr (pc := 110) ok (fl_Mod_58 t) rfl d_Mod_start_110 s_60 r_60_23 ?_
      refine ev_iload_n (pc := 113) d_Mod_start_113 rfl rfl ?_
      replace hp := q_if hp
      obtain ⟨hb2, hp⟩ := hp
      refine et_iald (pc := 114) d_Mod_start_114 s_75 hb2 (by decide) ?_
      refine ev_istore_n (pc := 115) d_Mod_start_115 rfl (by decide) [(2, _), (0, _), (1, _)] rfl ?_
      replace hp := q_let_of hp
      obtain ⟨z3, hz, hp⟩ := hp
      rw [← hz]
      clear hz
      refine ev_iconst (pc := 116) d_Mod_start_116 ?_
      refine ev_istore_n (pc := 117) d_Mod_start_117 rfl (by decide) [(3, _), (2, _), (0, _), (1, _)] rfl ?_
      refine ev_sub (ls2 := [(0, q_a t (60)), (1, ma_i (v1)), (2, ma_i (z3)), (3, ma_i (0))]) [2, 3, 1, 0] rfl ?_
      exact e_Mod_start_118 t ok  hQ (p_Mod_start_101   n) ih 1000 (v1) (z3) (0) f g hp
theorem e_Mod_start_93 (t : q_V) (ok : ma_ok (q_G t))  {Q : Option Value → ma_H → Prop} {y : q_F × q_F} (hQ : Q (none) (q_h y.1 y.2)) (c26 : Int → q_F → q_F → Option (q_F × q_F)) (hc26 : ∀ (v1 : Int) (f g : q_F), c26 v1 f g = some y → ma_Ev (q_G t) 1 21 0 0 m_Mod_start 26 [(0, q_a t (60)), (1, ma_i (v1))] [] (q_h f g) (ma_zr (q_G t) false Q)) (v1 : Int) (f g : q_F) (hp : p_Mod_start_93  c26 v1 f g = some y) : ma_Ev (q_G t) 1 21 0 0 m_Mod_start 93 [(0, q_a t (60)), (1, ma_i (v1))] [] (q_h f g) (ma_zr (q_G t) false Q) := by
  unfold p_Mod_start_93 at hp
  refine ev_iinc (pc := 93) d_Mod_start_93 (by decide) rfl [(1, _), (0, _)] rfl ?_
  replace hp := q_let_of hp
  obtain ⟨z1, hz, hp⟩ := hp
  rw [← hz]
  clear hz
  refine ev_goto (pc := 96) (tgt := 26) d_Mod_start_96 (by decide) ?_
  refine ev_sub (ls2 := [(0, q_a t (60)), (1, ma_i (z1))]) [1, 0] rfl ?_
  exact hc26 (z1) f g hp
theorem e_Mod_start_43 (t : q_V) (ok : ma_ok (q_G t))  {Q : Option Value → ma_H → Prop} {y : q_F × q_F} (hQ : Q (none) (q_h y.1 y.2)) (c26 : Int → q_F → q_F → Option (q_F × q_F)) (hc26 : ∀ (v1 : Int) (f g : q_F), c26 v1 f g = some y → ma_Ev (q_G t) 1 21 0 0 m_Mod_start 26 [(0, q_a t (60)), (1, ma_i (v1))] [] (q_h f g) (ma_zr (q_G t) false Q)) : ∀ (n : Nat) (v1 : Int) (v2 : Int) (v3 : Int) (f g : q_F), p_Mod_start_43  c26 n v1 v2 v3 f g = some y → ma_Ev (q_G t) 1 21 0 0 m_Mod_start 43 [(0, q_a t (60)), (1, ma_i (v1)), (2, ma_i (v2)), (3, ma_i (v3))] [] (q_h f g) (ma_zr (q_G t) false Q) := by
  intro n
  induction n with
  | zero =>
    intro v1 v2 v3 f g hp
    rw [p_Mod_start_43] at hp
    cases hp
  | succ n ih =>
    intro v1 v2 v3 f g hp
    rw [p_Mod_start_43] at hp
    refine ev_iload_n (pc := 43) d_Mod_start_43 rfl rfl ?_
    refine et_aload_n (pc := 44) d_Mod_start_44 rfl rfl ?_
    refine et_getr (pc := 45) ok (fl_Mod_94 t) rfl d_Mod_start_45 s_60 r_60_35 ?_
    refine ev_iload_n (pc := 48) d_Mod_start_48 rfl rfl ?_
    replace hp := q_if hp
    obtain ⟨hb1, hp⟩ := hp
    refine et_iald (pc := 49) d_Mod_start_49 s_87 hb1 (by decide) ?_
    refine et_icmp_ge (pc := 50) (tgt := 93) d_Mod_start_50 (by decide) (fun hj2 => ?_) (fun hj2 => ?_)
    · rw [if_pos hj2] at hp
      refine ev_sub (ls2 := [(0, q_a t (60)), (1, ma_i (v1))]) [0, 1] rfl ?_
      exact e_Mod_start_93 t ok  hQ c26 hc26 (v1) f g hp
    · rw [if_neg hj2] at hp
      refine et_aload_n (pc := 53) d_Mod_start_53 rfl rfl ?_
      refine ev_iload_n (pc := 54) d_Mod_start_54 rfl rfl ?_
      replace hp := q_bind hp
      obtain ⟨x3, hm4, hp⟩ := hp
      refine et_callVi (pc := 55) (f1 := x3.2.1) (g1 := x3.2.2) ok [ma_i (v2)] [] (cf_Mod_257 t) d_Mod_start_55 s_60 k_12 rfl (t_Mod_copied t ok (v2) f g hm4 ⟨rfl, rfl⟩) rfl rfl (by decide) (by decide) (q_ble rfl) ?_
      refine et_if_eq (pc := 58) (tgt := 93) d_Mod_start_58 (by decide) (fun hj5 => ?_) (fun hj5 => ?_)
      · rw [if_pos hj5] at hp
        refine ev_sub (ls2 := [(0, q_a t (60)), (1, ma_i (v1))]) [0, 1] rfl ?_
        exact e_Mod_start_93 t ok  hQ c26 hc26 (v1) x3.2.1 x3.2.2 hp
      · rw [if_neg hj5] at hp
        refine et_aload_n (pc := 61) d_Mod_start_61 rfl rfl ?_
        refine et_getr (pc := 62) ok (fl_Mod_121 t) rfl d_Mod_start_62 s_60 r_60_46 ?_
        refine et_aload_n (pc := 65) d_Mod_start_65 rfl rfl ?_
        refine et_getr (pc := 66) ok (fl_Mod_91 t) rfl d_Mod_start_66 s_60 r_60_34 ?_
        refine ev_iload_n (pc := 69) d_Mod_start_69 rfl rfl ?_
        replace hp := q_if hp
        obtain ⟨hb6, hp⟩ := hp
        refine et_iald (pc := 70) d_Mod_start_70 s_86 hb6 (by decide) ?_
        refine ev_iload_n (pc := 71) d_Mod_start_71 rfl rfl ?_
        refine ev_iadd (pc := 72) d_Mod_start_72 ?_
        refine et_aload_n (pc := 73) d_Mod_start_73 rfl rfl ?_
        refine et_getr (pc := 74) ok (fl_Mod_121 t) rfl d_Mod_start_74 s_60 r_60_46 ?_
        refine et_aload_n (pc := 77) d_Mod_start_77 rfl rfl ?_
        refine et_getr (pc := 78) ok (fl_Mod_97 t) rfl d_Mod_start_78 s_60 r_60_36 ?_
        refine ev_iload_n (pc := 81) d_Mod_start_81 rfl rfl ?_
        replace hp := q_if hp
        obtain ⟨hb7, hp⟩ := hp
        refine et_iald (pc := 82) d_Mod_start_82 s_88 hb7 (by decide) ?_
        refine ev_iload_n (pc := 83) d_Mod_start_83 rfl rfl ?_
        refine ev_iadd (pc := 84) d_Mod_start_84 ?_
        replace hp := q_if hp
        obtain ⟨hb8, hp⟩ := hp
        refine et_iald (pc := 85) d_Mod_start_85 s_96 hb8 (by decide) ?_
        replace hp := q_if hp
        obtain ⟨hb9, hp⟩ := hp
        refine et_iast (pc := 86) d_Mod_start_86 s_96 hb9 (by decide) ?_
        replace hp := q_let_of hp
        obtain ⟨f10, hz, hp⟩ := hp
        rw [← hz]
        clear hz
        refine ev_iinc (pc := 87) d_Mod_start_87 (by decide) rfl [(3, _), (0, _), (1, _), (2, _)] rfl ?_
        replace hp := q_let_of hp
        obtain ⟨z11, hz, hp⟩ := hp
        rw [← hz]
        clear hz
        refine ev_goto (pc := 90) (tgt := 43) d_Mod_start_90 (by decide) ?_
        refine ev_sub (ls2 := [(0, q_a t (60)), (1, ma_i (v1)), (2, ma_i (v2)), (3, ma_i (z11))]) [1, 2, 3, 0] rfl ?_
        exact ih (v1) (v2) (z11) f10 x3.2.2 hp
theorem e_Mod_start_26 (t : q_V) (ok : ma_ok (q_G t))  {Q : Option Value → ma_H → Prop} {y : q_F × q_F} (hQ : Q (none) (q_h y.1 y.2))   : ∀ (n : Nat) (v1 : Int) (f g : q_F), p_Mod_start_26   n v1 f g = some y → ma_Ev (q_G t) 1 21 0 0 m_Mod_start 26 [(0, q_a t (60)), (1, ma_i (v1))] [] (q_h f g) (ma_zr (q_G t) false Q) := by
  intro n
  induction n with
  | zero =>
    intro v1 f g hp
    rw [p_Mod_start_26] at hp
    cases hp
  | succ n ih =>
    intro v1 f g hp
    rw [p_Mod_start_26] at hp
    refine ev_iload_n (pc := 26) d_Mod_start_26 rfl rfl ?_
    refine et_aload_n (pc := 27) d_Mod_start_27 rfl rfl ?_
    refine et_geti (pc := 28) ok (fl_Mod_196 t) rfl d_Mod_start_28 s_60 ?_
    refine et_icmp_ge (pc := 31) (tgt := 99) d_Mod_start_31 (by decide) (fun hj1 => ?_) (fun hj1 => ?_)
    · rw [if_pos hj1] at hp
      refine ev_iconst (pc := 99) d_Mod_start_99 ?_
      refine ev_istore_n (pc := 100) d_Mod_start_100 rfl (by decide) [(1, _), (0, _)] rfl ?_
      refine ev_sub (ls2 := [(0, q_a t (60)), (1, ma_i (0))]) [1, 0] rfl ?_
      exact e_Mod_start_101 t ok  hQ   1000 (0) f g hp
    · rw [if_neg hj1] at hp
      refine et_aload_n (pc := 34) d_Mod_start_34 rfl rfl ?_
      refine et_getr (pc := 35) ok (fl_Mod_58 t) rfl d_Mod_start_35 s_60 r_60_23 ?_
      refine ev_iload_n (pc := 38) d_Mod_start_38 rfl rfl ?_
      replace hp := q_if hp
      obtain ⟨hb2, hp⟩ := hp
      refine et_iald (pc := 39) d_Mod_start_39 s_75 hb2 (by decide) ?_
      refine ev_istore_n (pc := 40) d_Mod_start_40 rfl (by decide) [(2, _), (0, _), (1, _)] rfl ?_
      replace hp := q_let_of hp
      obtain ⟨z3, hz, hp⟩ := hp
      rw [← hz]
      clear hz
      refine ev_iconst (pc := 41) d_Mod_start_41 ?_
      refine ev_istore_n (pc := 42) d_Mod_start_42 rfl (by decide) [(3, _), (2, _), (0, _), (1, _)] rfl ?_
      refine ev_sub (ls2 := [(0, q_a t (60)), (1, ma_i (v1)), (2, ma_i (z3)), (3, ma_i (0))]) [2, 3, 1, 0] rfl ?_
      exact e_Mod_start_43 t ok  hQ (p_Mod_start_26   n) ih 1000 (v1) (z3) (0) f g hp
theorem e_Mod_start_13 (t : q_V) (ok : ma_ok (q_G t))  {Q : Option Value → ma_H → Prop} {y : q_F × q_F} (hQ : Q (none) (q_h y.1 y.2))   (s0 : Int) (f g : q_F) (hp : p_Mod_start_13   s0 f g = some y) : ma_Ev (q_G t) 1 21 0 0 m_Mod_start 13 [(0, q_a t (60))] [ma_i (s0), q_a t (60)] (q_h f g) (ma_zr (q_G t) false Q) := by
  unfold p_Mod_start_13 at hp
  refine et_puti (pc := 13) ok (fl_Mod_124 t) d_Mod_start_13 s_60 ?_
  replace hp := q_let_of hp
  obtain ⟨f1, hz, hp⟩ := hp
  rw [← hz]
  clear hz
  refine et_aload_n (pc := 16) d_Mod_start_16 rfl rfl ?_
  refine et_geti (pc := 17) ok (fl_Mod_124 t) rfl d_Mod_start_17 s_60 ?_
  refine et_if_le (pc := 20) (tgt := 24) d_Mod_start_20 (by decide) (fun hj2 => ?_) (fun hj2 => ?_)
  · rw [if_pos hj2] at hp
    refine ev_iconst (pc := 24) d_Mod_start_24 ?_
    refine ev_istore_n (pc := 25) d_Mod_start_25 rfl (by decide) [(1, _), (0, _)] rfl ?_
    refine ev_sub (ls2 := [(0, q_a t (60)), (1, ma_i (0))]) [1, 0] rfl ?_
    exact e_Mod_start_26 t ok  hQ   1000 (0) f1 g hp
  · rw [if_neg hj2] at hp
    cases Option.some.inj hp
    exact et_ret (pc := 23) d_Mod_start_23 rfl hQ
theorem t_Mod_start (t : q_V) (ok : ma_ok (q_G t))  {Q : Option Value → ma_H → Prop} {y : q_F × q_F}  (f g : q_F) (hp : p_Mod_start   f g = some y) (hQ : Q (none) (q_h y.1 y.2)) : ma_Met (q_G t) false 1 21 0 0 m_Mod_start [q_a t (60)] (q_h f g) Q := by
  refine ma_met (by decide +kernel) (q_ble rfl) rfl ?_
  change ma_Ev (q_G t) 1 21 0 0 m_Mod_start 0 [(0, q_a t (60))] [] (q_h f g) (ma_zr (q_G t) false Q)
  unfold p_Mod_start at hp
  refine et_aload_n (pc := 0) d_Mod_start_0 rfl rfl ?_
  refine et_aload_n (pc := 1) d_Mod_start_1 rfl rfl ?_
  refine et_geti (pc := 2) ok (fl_Mod_135 t) rfl d_Mod_start_2 s_60 ?_
  refine et_if_eq (pc := 5) (tgt := 12) d_Mod_start_5 (by decide) (fun hj1 => ?_) (fun hj1 => ?_)
  · rw [if_pos hj1] at hp
    refine ev_iconst (pc := 12) d_Mod_start_12 ?_
    refine ev_sub (ls2 := [(0, q_a t (60))]) [0] rfl ?_
    exact e_Mod_start_13 t ok  hQ   (1) f g hp
  · rw [if_neg hj1] at hp
    refine ev_iconst (pc := 8) d_Mod_start_8 ?_
    refine ev_goto (pc := 9) (tgt := 13) d_Mod_start_9 (by decide) ?_
    refine ev_sub (ls2 := [(0, q_a t (60))]) [0] rfl ?_
    exact e_Mod_start_13 t ok  hQ   (0) f g hp
theorem d_Mod_memory_0 : decode (m_c m_Mod_memory) 0 = .ok (.aload_n 0, 1) := by decide +kernel
theorem d_Mod_memory_1 : decode (m_c m_Mod_memory) 1 = .ok (.iconst 0, 1) := by decide +kernel
theorem d_Mod_memory_2 : decode (m_c m_Mod_memory) 2 = .ok (.putfield 124, 3) := by decide +kernel
theorem d_Mod_memory_5 : decode (m_c m_Mod_memory) 5 = .ok (.iload_n 1, 1) := by decide +kernel
theorem d_Mod_memory_6 : decode (m_c m_Mod_memory) 6 = .ok (.iconst 0, 1) := by decide +kernel
theorem d_Mod_memory_7 : decode (m_c m_Mod_memory) 7 = .ok (.sipush 511, 3) := by decide +kernel
theorem d_Mod_memory_10 : decode (m_c m_Mod_memory) 10 = .ok (.invokestatic 127, 3) := by decide +kernel
theorem d_Mod_memory_13 : decode (m_c m_Mod_memory) 13 = .ok (.ifCond .eq 12, 3) := by decide +kernel
theorem d_Mod_memory_16 : decode (m_c m_Mod_memory) 16 = .ok (.aload_n 0, 1) := by decide +kernel
theorem d_Mod_memory_17 : decode (m_c m_Mod_memory) 17 = .ok (.getfield 121, 3) := by decide +kernel
theorem d_Mod_memory_20 : decode (m_c m_Mod_memory) 20 = .ok (.iload_n 1, 1) := by decide +kernel
theorem d_Mod_memory_21 : decode (m_c m_Mod_memory) 21 = .ok (.iaload, 1) := by decide +kernel
theorem d_Mod_memory_22 : decode (m_c m_Mod_memory) 22 = .ok (.goto 8, 3) := by decide +kernel
theorem d_Mod_memory_25 : decode (m_c m_Mod_memory) 25 = .ok (.aload_n 0, 1) := by decide +kernel
theorem d_Mod_memory_26 : decode (m_c m_Mod_memory) 26 = .ok (.iconst 1, 1) := by decide +kernel
theorem d_Mod_memory_27 : decode (m_c m_Mod_memory) 27 = .ok (.invokevirtual 279, 3) := by decide +kernel
theorem d_Mod_memory_30 : decode (m_c m_Mod_memory) 30 = .ok (.ireturn, 1) := by decide +kernel
def p_Mod_memory_30   (s0 : Int) (f g : q_F) : Option (Int × q_F × q_F) :=
  some (s0, f, g)
def p_Mod_memory  (v1 : Int) (f g : q_F) : Option (Int × q_F × q_F) :=
  q_let (ma_up f 60 0 0) fun f1 =>
  (p_Mod_within (v1) (0) (511) f1 g).bind fun x2 =>
  if q_sw x2.1 = 0 then
    (p_Mod_fail (1) x2.2.1 x2.2.2).bind fun x5 =>
    p_Mod_memory_30   (x5.1) x5.2.1 x5.2.2
  else
    if 0 ≤ v1 ∧ v1 < 512 then
      p_Mod_memory_30   (x2.2.1 96 (Int.toNat v1)) x2.2.1 x2.2.2
    else none
theorem e_Mod_memory_30 (t : q_V) (ok : ma_ok (q_G t))  {Q : Option Value → ma_H → Prop} {y : Int × q_F × q_F} (hQ : Q (some (ma_i y.1)) (q_h y.2.1 y.2.2))   (s0 : Int) (f g : q_F) (hp : p_Mod_memory_30   s0 f g = some y) : ma_Ev (q_G t) 1 22 0 0 m_Mod_memory 30 [] [ma_i (s0)] (q_h f g) (ma_zr (q_G t) false Q) := by
  unfold p_Mod_memory_30 at hp
  cases Option.some.inj hp
  exact et_iret (pc := 30) d_Mod_memory_30 rfl hQ
theorem t_Mod_memory (t : q_V) (ok : ma_ok (q_G t))  {Q : Option Value → ma_H → Prop} {y : Int × q_F × q_F} (v1 : Int) (f g : q_F) (hp : p_Mod_memory  v1 f g = some y) (hQ : Q (some (ma_i y.1)) (q_h y.2.1 y.2.2)) : ma_Met (q_G t) false 1 22 0 0 m_Mod_memory [q_a t (60), ma_i (v1)] (q_h f g) Q := by
  refine ma_met (by decide +kernel) (q_ble rfl) rfl ?_
  change ma_Ev (q_G t) 1 22 0 0 m_Mod_memory 0 [(0, q_a t (60)), (1, ma_i (v1))] [] (q_h f g) (ma_zr (q_G t) false Q)
  unfold p_Mod_memory at hp
  refine et_aload_n (pc := 0) d_Mod_memory_0 rfl rfl ?_
  refine ev_iconst (pc := 1) d_Mod_memory_1 ?_
  refine et_puti (pc := 2) ok (fl_Mod_124 t) d_Mod_memory_2 s_60 ?_
  replace hp := q_let_of hp
  obtain ⟨f1, hz, hp⟩ := hp
  rw [← hz]
  clear hz
  refine ev_iload_n (pc := 5) d_Mod_memory_5 rfl rfl ?_
  refine ev_iconst (pc := 6) d_Mod_memory_6 ?_
  refine ev_sipush (pc := 7) d_Mod_memory_7 rfl ?_
  replace hp := q_bind hp
  obtain ⟨x2, hm3, hp⟩ := hp
  refine et_callSi (pc := 10) (f1 := x2.2.1) (g1 := x2.2.2) ok [ma_i (v1), ma_i (0), ma_i (511)] [] (cf_Mod_127 t) d_Mod_memory_10 (t_Mod_within t ok (v1) (0) (511) f1 g hm3 ⟨rfl, rfl⟩) rfl rfl (by decide) (by decide) (q_ble rfl) ?_
  refine et_if_eq (pc := 13) (tgt := 25) d_Mod_memory_13 (by decide) (fun hj4 => ?_) (fun hj4 => ?_)
  · rw [if_pos hj4] at hp
    refine et_aload_n (pc := 25) d_Mod_memory_25 rfl rfl ?_
    refine ev_iconst (pc := 26) d_Mod_memory_26 ?_
    replace hp := q_bind hp
    obtain ⟨x5, hm6, hp⟩ := hp
    refine et_callVi (pc := 27) (f1 := x5.2.1) (g1 := x5.2.2) ok [ma_i (1)] [] (cf_Mod_279 t) d_Mod_memory_27 s_60 k_12 rfl (t_Mod_fail t ok (1) x2.2.1 x2.2.2 hm6 ⟨rfl, rfl⟩) rfl rfl (by decide) (by decide) (q_ble rfl) ?_
    refine ev_sub (ls2 := []) [] rfl ?_
    exact e_Mod_memory_30 t ok  hQ   (x5.1) x5.2.1 x5.2.2 hp
  · rw [if_neg hj4] at hp
    refine et_aload_n (pc := 16) d_Mod_memory_16 rfl rfl ?_
    refine et_getr (pc := 17) ok (fl_Mod_121 t) rfl d_Mod_memory_17 s_60 r_60_46 ?_
    refine ev_iload_n (pc := 20) d_Mod_memory_20 rfl rfl ?_
    replace hp := q_if hp
    obtain ⟨hb7, hp⟩ := hp
    refine et_iald (pc := 21) d_Mod_memory_21 s_96 hb7 (by decide) ?_
    refine ev_goto (pc := 22) (tgt := 30) d_Mod_memory_22 (by decide) ?_
    refine ev_sub (ls2 := []) [] rfl ?_
    exact e_Mod_memory_30 t ok  hQ   (x2.2.1 96 (Int.toNat v1)) x2.2.1 x2.2.2 hp
