/-! ===== printed by walk.py: reader ===== -/
theorem d_Reader_here_0 : decode (m_c m_Reader_here) 0 = .ok (.aload_n 0, 1) := by decide +kernel
theorem d_Reader_here_1 : decode (m_c m_Reader_here) 1 = .ok (.getfield 9, 3) := by decide +kernel
theorem d_Reader_here_4 : decode (m_c m_Reader_here) 4 = .ok (.aload_n 0, 1) := by decide +kernel
theorem d_Reader_here_5 : decode (m_c m_Reader_here) 5 = .ok (.getfield 18, 3) := by decide +kernel
theorem d_Reader_here_8 : decode (m_c m_Reader_here) 8 = .ok (.getfield 31, 3) := by decide +kernel
theorem d_Reader_here_11 : decode (m_c m_Reader_here) 11 = .ok (.if_icmp .ge 18, 3) := by decide +kernel
theorem d_Reader_here_14 : decode (m_c m_Reader_here) 14 = .ok (.aload_n 0, 1) := by decide +kernel
theorem d_Reader_here_15 : decode (m_c m_Reader_here) 15 = .ok (.getfield 18, 3) := by decide +kernel
theorem d_Reader_here_18 : decode (m_c m_Reader_here) 18 = .ok (.getfield 173, 3) := by decide +kernel
theorem d_Reader_here_21 : decode (m_c m_Reader_here) 21 = .ok (.aload_n 0, 1) := by decide +kernel
theorem d_Reader_here_22 : decode (m_c m_Reader_here) 22 = .ok (.getfield 9, 3) := by decide +kernel
theorem d_Reader_here_25 : decode (m_c m_Reader_here) 25 = .ok (.caload, 1) := by decide +kernel
theorem d_Reader_here_26 : decode (m_c m_Reader_here) 26 = .ok (.goto 4, 3) := by decide +kernel
theorem d_Reader_here_29 : decode (m_c m_Reader_here) 29 = .ok (.iconst 0, 1) := by decide +kernel
theorem d_Reader_here_30 : decode (m_c m_Reader_here) 30 = .ok (.ireturn, 1) := by decide +kernel
def p_Reader_here_30   (s0 : Int) (f g : q_F) : Option (Int × q_F × q_F) :=
  some (s0, f, g)
def p_Reader_here   (f g : q_F) : Option (Int × q_F × q_F) :=
  if q_sw (f 1 1) ≤ q_sw (f 54 2) then
    p_Reader_here_30   (0) f g
  else
    if 0 ≤ (f 54 2) ∧ (f 54 2) < 160 then
      p_Reader_here_30   (f 2 (Int.toNat (f 54 2))) f g
    else none
theorem e_Reader_here_30 (t : q_V) (ok : ma_ok (q_G t))  {Q : Option Value → ma_H → Prop} {y : Int × q_F × q_F} (hQ : Q (some (ma_i y.1)) (q_h y.2.1 y.2.2))   (s0 : Int) (f g : q_F) (hp : p_Reader_here_30   s0 f g = some y) : ma_Ev (q_G t) 0 0 0 0 m_Reader_here 30 [] [ma_i (s0)] (q_h f g) (ma_zr (q_G t) false Q) := by
  unfold p_Reader_here_30 at hp
  cases Option.some.inj hp
  exact et_iret (pc := 30) d_Reader_here_30 rfl hQ
theorem t_Reader_here (t : q_V) (ok : ma_ok (q_G t))  {Q : Option Value → ma_H → Prop} {y : Int × q_F × q_F}  (f g : q_F) (hp : p_Reader_here   f g = some y) (hQ : Q (some (ma_i y.1)) (q_h y.2.1 y.2.2)) : ma_Met (q_G t) false 0 0 0 0 m_Reader_here [q_a t (54)] (q_h f g) Q := by
  refine ma_met (by decide +kernel) (q_ble rfl) rfl ?_
  change ma_Ev (q_G t) 0 0 0 0 m_Reader_here 0 [(0, q_a t (54))] [] (q_h f g) (ma_zr (q_G t) false Q)
  unfold p_Reader_here at hp
  refine et_aload_n (pc := 0) d_Reader_here_0 rfl rfl ?_
  refine et_geti (pc := 1) ok (fl_Reader_9 t) rfl d_Reader_here_1 s_54 ?_
  refine et_aload_n (pc := 4) d_Reader_here_4 rfl rfl ?_
  refine et_getr (pc := 5) ok (fl_Reader_18 t) rfl d_Reader_here_5 s_54 r_54_0 ?_
  refine et_geti (pc := 8) ok (fl_Reader_31 t) rfl d_Reader_here_8 s_1 ?_
  refine et_icmp_ge (pc := 11) (tgt := 29) d_Reader_here_11 (by decide) (fun hj1 => ?_) (fun hj1 => ?_)
  · rw [if_pos hj1] at hp
    refine ev_iconst (pc := 29) d_Reader_here_29 ?_
    refine ev_sub (ls2 := []) [] rfl ?_
    exact e_Reader_here_30 t ok  hQ   (0) f g hp
  · rw [if_neg hj1] at hp
    refine et_aload_n (pc := 14) d_Reader_here_14 rfl rfl ?_
    refine et_getr (pc := 15) ok (fl_Reader_18 t) rfl d_Reader_here_15 s_54 r_54_0 ?_
    refine et_getr (pc := 18) ok (fl_Reader_173 t) rfl d_Reader_here_18 s_1 r_1_0 ?_
    refine et_aload_n (pc := 21) d_Reader_here_21 rfl rfl ?_
    refine et_geti (pc := 22) ok (fl_Reader_9 t) rfl d_Reader_here_22 s_54 ?_
    replace hp := q_if hp
    obtain ⟨hb2, hp⟩ := hp
    refine et_cald (pc := 25) d_Reader_here_25 s_2 hb2 (by decide) ?_
    refine ev_goto (pc := 26) (tgt := 30) d_Reader_here_26 (by decide) ?_
    refine ev_sub (ls2 := []) [] rfl ?_
    exact e_Reader_here_30 t ok  hQ   (f 2 (Int.toNat (f 54 2))) f g hp
theorem d_Reader_skip_0 : decode (m_c m_Reader_skip) 0 = .ok (.aload_n 0, 1) := by decide +kernel
theorem d_Reader_skip_1 : decode (m_c m_Reader_skip) 1 = .ok (.invokevirtual 116, 3) := by decide +kernel
theorem d_Reader_skip_4 : decode (m_c m_Reader_skip) 4 = .ok (.iload_n 1, 1) := by decide +kernel
theorem d_Reader_skip_5 : decode (m_c m_Reader_skip) 5 = .ok (.if_icmp .eq 5, 3) := by decide +kernel
theorem d_Reader_skip_8 : decode (m_c m_Reader_skip) 8 = .ok (.iconst 0, 1) := by decide +kernel
theorem d_Reader_skip_9 : decode (m_c m_Reader_skip) 9 = .ok (.ireturn, 1) := by decide +kernel
theorem d_Reader_skip_10 : decode (m_c m_Reader_skip) 10 = .ok (.aload_n 0, 1) := by decide +kernel
theorem d_Reader_skip_11 : decode (m_c m_Reader_skip) 11 = .ok (.dup, 1) := by decide +kernel
theorem d_Reader_skip_12 : decode (m_c m_Reader_skip) 12 = .ok (.getfield 9, 3) := by decide +kernel
theorem d_Reader_skip_15 : decode (m_c m_Reader_skip) 15 = .ok (.iconst 1, 1) := by decide +kernel
theorem d_Reader_skip_16 : decode (m_c m_Reader_skip) 16 = .ok (.iadd, 1) := by decide +kernel
theorem d_Reader_skip_17 : decode (m_c m_Reader_skip) 17 = .ok (.putfield 9, 3) := by decide +kernel
theorem d_Reader_skip_20 : decode (m_c m_Reader_skip) 20 = .ok (.iconst 1, 1) := by decide +kernel
theorem d_Reader_skip_21 : decode (m_c m_Reader_skip) 21 = .ok (.ireturn, 1) := by decide +kernel
def p_Reader_skip  (v1 : Int) (f g : q_F) : Option (Int × q_F × q_F) :=
  (p_Reader_here  f g).bind fun x1 =>
  if q_sw x1.1 = q_sw v1 then
    q_let (ma_up x1.2.1 54 2 ((x1.2.1 54 2) + 1)) fun f4 =>
    some (1, f4, x1.2.2)
  else
    some (0, x1.2.1, x1.2.2)
theorem t_Reader_skip (t : q_V) (ok : ma_ok (q_G t))  {Q : Option Value → ma_H → Prop} {y : Int × q_F × q_F} (v1 : Int) (f g : q_F) (hp : p_Reader_skip  v1 f g = some y) (hQ : Q (some (ma_i y.1)) (q_h y.2.1 y.2.2)) : ma_Met (q_G t) false 1 20 0 0 m_Reader_skip [q_a t (54), ma_i (v1)] (q_h f g) Q := by
  refine ma_met (by decide +kernel) (q_ble rfl) rfl ?_
  change ma_Ev (q_G t) 1 20 0 0 m_Reader_skip 0 [(0, q_a t (54)), (1, ma_i (v1))] [] (q_h f g) (ma_zr (q_G t) false Q)
  unfold p_Reader_skip at hp
  refine et_aload_n (pc := 0) d_Reader_skip_0 rfl rfl ?_
  replace hp := q_bind hp
  obtain ⟨x1, hm2, hp⟩ := hp
  refine et_callVi (pc := 1) (f1 := x1.2.1) (g1 := x1.2.2) ok [] [] (cf_Reader_116 t) d_Reader_skip_1 s_54 k_8 rfl (t_Reader_here t ok  f g hm2 ⟨rfl, rfl⟩) rfl rfl (by decide) (by decide) (q_ble rfl) ?_
  refine ev_iload_n (pc := 4) d_Reader_skip_4 rfl rfl ?_
  refine et_icmp_eq (pc := 5) (tgt := 10) d_Reader_skip_5 (by decide) (fun hj3 => ?_) (fun hj3 => ?_)
  · rw [if_pos hj3] at hp
    refine et_aload_n (pc := 10) d_Reader_skip_10 rfl rfl ?_
    refine ev_dup (pc := 11) d_Reader_skip_11 rfl ?_
    refine et_geti (pc := 12) ok (fl_Reader_9 t) rfl d_Reader_skip_12 s_54 ?_
    refine ev_iconst (pc := 15) d_Reader_skip_15 ?_
    refine ev_iadd (pc := 16) d_Reader_skip_16 ?_
    refine et_puti (pc := 17) ok (fl_Reader_9 t) d_Reader_skip_17 s_54 ?_
    replace hp := q_let_of hp
    obtain ⟨f4, hz, hp⟩ := hp
    rw [← hz]
    clear hz
    refine ev_iconst (pc := 20) d_Reader_skip_20 ?_
    cases Option.some.inj hp
    exact et_zret (pc := 21) d_Reader_skip_21 rfl (by decide) hQ
  · rw [if_neg hj3] at hp
    refine ev_iconst (pc := 8) d_Reader_skip_8 ?_
    cases Option.some.inj hp
    exact et_zret (pc := 9) d_Reader_skip_9 rfl (by decide) hQ
theorem d_Reader_letter_0 : decode (m_c m_Reader_letter) 0 = .ok (.aload_n 0, 1) := by decide +kernel
theorem d_Reader_letter_1 : decode (m_c m_Reader_letter) 1 = .ok (.invokevirtual 116, 3) := by decide +kernel
theorem d_Reader_letter_4 : decode (m_c m_Reader_letter) 4 = .ok (.iload_n 1, 1) := by decide +kernel
theorem d_Reader_letter_5 : decode (m_c m_Reader_letter) 5 = .ok (.isub, 1) := by decide +kernel
theorem d_Reader_letter_6 : decode (m_c m_Reader_letter) 6 = .ok (.istore_n 3, 1) := by decide +kernel
theorem d_Reader_letter_7 : decode (m_c m_Reader_letter) 7 = .ok (.iload_n 3, 1) := by decide +kernel
theorem d_Reader_letter_8 : decode (m_c m_Reader_letter) 8 = .ok (.ifCond .lt 12, 3) := by decide +kernel
theorem d_Reader_letter_11 : decode (m_c m_Reader_letter) 11 = .ok (.iload_n 3, 1) := by decide +kernel
theorem d_Reader_letter_12 : decode (m_c m_Reader_letter) 12 = .ok (.iload_n 2, 1) := by decide +kernel
theorem d_Reader_letter_13 : decode (m_c m_Reader_letter) 13 = .ok (.if_icmp .ge 7, 3) := by decide +kernel
theorem d_Reader_letter_16 : decode (m_c m_Reader_letter) 16 = .ok (.iload_n 3, 1) := by decide +kernel
theorem d_Reader_letter_17 : decode (m_c m_Reader_letter) 17 = .ok (.goto 4, 3) := by decide +kernel
theorem d_Reader_letter_20 : decode (m_c m_Reader_letter) 20 = .ok (.iconst (-1), 1) := by decide +kernel
theorem d_Reader_letter_21 : decode (m_c m_Reader_letter) 21 = .ok (.ireturn, 1) := by decide +kernel
def p_Reader_letter_21   (s0 : Int) (f g : q_F) : Option (Int × q_F × q_F) :=
  some (s0, f, g)
def p_Reader_letter_20    (f g : q_F) : Option (Int × q_F × q_F) :=
  p_Reader_letter_21   (-1) f g
def p_Reader_letter  (v1 : Int) (v2 : Int) (f g : q_F) : Option (Int × q_F × q_F) :=
  (p_Reader_here  f g).bind fun x1 =>
  q_let (x1.1 - v1) fun z3 =>
  if q_sw z3 < 0 then
    p_Reader_letter_20    x1.2.1 x1.2.2
  else
    if q_sw v2 ≤ q_sw z3 then
      p_Reader_letter_20    x1.2.1 x1.2.2
    else
      p_Reader_letter_21   (z3) x1.2.1 x1.2.2
theorem e_Reader_letter_21 (t : q_V) (ok : ma_ok (q_G t))  {Q : Option Value → ma_H → Prop} {y : Int × q_F × q_F} (hQ : Q (some (ma_i y.1)) (q_h y.2.1 y.2.2))   (s0 : Int) (f g : q_F) (hp : p_Reader_letter_21   s0 f g = some y) : ma_Ev (q_G t) 1 20 0 0 m_Reader_letter 21 [] [ma_i (s0)] (q_h f g) (ma_zr (q_G t) false Q) := by
  unfold p_Reader_letter_21 at hp
  cases Option.some.inj hp
  exact et_iret (pc := 21) d_Reader_letter_21 rfl hQ
theorem e_Reader_letter_20 (t : q_V) (ok : ma_ok (q_G t))  {Q : Option Value → ma_H → Prop} {y : Int × q_F × q_F} (hQ : Q (some (ma_i y.1)) (q_h y.2.1 y.2.2))    (f g : q_F) (hp : p_Reader_letter_20    f g = some y) : ma_Ev (q_G t) 1 20 0 0 m_Reader_letter 20 [] [] (q_h f g) (ma_zr (q_G t) false Q) := by
  unfold p_Reader_letter_20 at hp
  refine ev_iconst (pc := 20) d_Reader_letter_20 ?_
  refine ev_sub (ls2 := []) [] rfl ?_
  exact e_Reader_letter_21 t ok  hQ   (-1) f g hp
theorem t_Reader_letter (t : q_V) (ok : ma_ok (q_G t))  {Q : Option Value → ma_H → Prop} {y : Int × q_F × q_F} (v1 : Int) (v2 : Int) (f g : q_F) (hp : p_Reader_letter  v1 v2 f g = some y) (hQ : Q (some (ma_i y.1)) (q_h y.2.1 y.2.2)) : ma_Met (q_G t) false 1 20 0 0 m_Reader_letter [q_a t (54), ma_i (v1), ma_i (v2)] (q_h f g) Q := by
  refine ma_met (by decide +kernel) (q_ble rfl) rfl ?_
  change ma_Ev (q_G t) 1 20 0 0 m_Reader_letter 0 [(0, q_a t (54)), (1, ma_i (v1)), (2, ma_i (v2))] [] (q_h f g) (ma_zr (q_G t) false Q)
  unfold p_Reader_letter at hp
  refine et_aload_n (pc := 0) d_Reader_letter_0 rfl rfl ?_
  replace hp := q_bind hp
  obtain ⟨x1, hm2, hp⟩ := hp
  refine et_callVi (pc := 1) (f1 := x1.2.1) (g1 := x1.2.2) ok [] [] (cf_Reader_116 t) d_Reader_letter_1 s_54 k_8 rfl (t_Reader_here t ok  f g hm2 ⟨rfl, rfl⟩) rfl rfl (by decide) (by decide) (q_ble rfl) ?_
  refine ev_iload_n (pc := 4) d_Reader_letter_4 rfl rfl ?_
  refine ev_isub (pc := 5) d_Reader_letter_5 ?_
  refine ev_istore_n (pc := 6) d_Reader_letter_6 rfl (by decide) [(3, _), (0, _), (1, _), (2, _)] rfl ?_
  replace hp := q_let_of hp
  obtain ⟨z3, hz, hp⟩ := hp
  rw [← hz]
  clear hz
  refine ev_iload_n (pc := 7) d_Reader_letter_7 rfl rfl ?_
  refine et_if_lt (pc := 8) (tgt := 20) d_Reader_letter_8 (by decide) (fun hj4 => ?_) (fun hj4 => ?_)
  · rw [if_pos hj4] at hp
    refine ev_sub (ls2 := []) [] rfl ?_
    exact e_Reader_letter_20 t ok  hQ    x1.2.1 x1.2.2 hp
  · rw [if_neg hj4] at hp
    refine ev_iload_n (pc := 11) d_Reader_letter_11 rfl rfl ?_
    refine ev_iload_n (pc := 12) d_Reader_letter_12 rfl rfl ?_
    refine et_icmp_ge (pc := 13) (tgt := 20) d_Reader_letter_13 (by decide) (fun hj5 => ?_) (fun hj5 => ?_)
    · rw [if_pos hj5] at hp
      refine ev_sub (ls2 := []) [] rfl ?_
      exact e_Reader_letter_20 t ok  hQ    x1.2.1 x1.2.2 hp
    · rw [if_neg hj5] at hp
      refine ev_iload_n (pc := 16) d_Reader_letter_16 rfl rfl ?_
      refine ev_goto (pc := 17) (tgt := 21) d_Reader_letter_17 (by decide) ?_
      refine ev_sub (ls2 := []) [] rfl ?_
      exact e_Reader_letter_21 t ok  hQ   (z3) x1.2.1 x1.2.2 hp
theorem d_Reader_readNumber_0 : decode (m_c m_Reader_readNumber) 0 = .ok (.iconst 0, 1) := by decide +kernel
theorem d_Reader_readNumber_1 : decode (m_c m_Reader_readNumber) 1 = .ok (.istore_n 1, 1) := by decide +kernel
theorem d_Reader_readNumber_2 : decode (m_c m_Reader_readNumber) 2 = .ok (.aload_n 0, 1) := by decide +kernel
theorem d_Reader_readNumber_3 : decode (m_c m_Reader_readNumber) 3 = .ok (.iconst 0, 1) := by decide +kernel
theorem d_Reader_readNumber_4 : decode (m_c m_Reader_readNumber) 4 = .ok (.putfield 15, 3) := by decide +kernel
theorem d_Reader_readNumber_7 : decode (m_c m_Reader_readNumber) 7 = .ok (.iload_n 1, 1) := by decide +kernel
theorem d_Reader_readNumber_8 : decode (m_c m_Reader_readNumber) 8 = .ok (.iconst 4, 1) := by decide +kernel
theorem d_Reader_readNumber_9 : decode (m_c m_Reader_readNumber) 9 = .ok (.if_icmp .ge 56, 3) := by decide +kernel
theorem d_Reader_readNumber_12 : decode (m_c m_Reader_readNumber) 12 = .ok (.aload_n 0, 1) := by decide +kernel
theorem d_Reader_readNumber_13 : decode (m_c m_Reader_readNumber) 13 = .ok (.invokevirtual 116, 3) := by decide +kernel
theorem d_Reader_readNumber_16 : decode (m_c m_Reader_readNumber) 16 = .ok (.bipush 48, 2) := by decide +kernel
theorem d_Reader_readNumber_18 : decode (m_c m_Reader_readNumber) 18 = .ok (.if_icmp .lt 47, 3) := by decide +kernel
theorem d_Reader_readNumber_21 : decode (m_c m_Reader_readNumber) 21 = .ok (.aload_n 0, 1) := by decide +kernel
theorem d_Reader_readNumber_22 : decode (m_c m_Reader_readNumber) 22 = .ok (.invokevirtual 116, 3) := by decide +kernel
theorem d_Reader_readNumber_25 : decode (m_c m_Reader_readNumber) 25 = .ok (.bipush 57, 2) := by decide +kernel
theorem d_Reader_readNumber_27 : decode (m_c m_Reader_readNumber) 27 = .ok (.if_icmp .gt 38, 3) := by decide +kernel
theorem d_Reader_readNumber_30 : decode (m_c m_Reader_readNumber) 30 = .ok (.aload_n 0, 1) := by decide +kernel
theorem d_Reader_readNumber_31 : decode (m_c m_Reader_readNumber) 31 = .ok (.aload_n 0, 1) := by decide +kernel
theorem d_Reader_readNumber_32 : decode (m_c m_Reader_readNumber) 32 = .ok (.getfield 15, 3) := by decide +kernel
theorem d_Reader_readNumber_35 : decode (m_c m_Reader_readNumber) 35 = .ok (.bipush 10, 2) := by decide +kernel
theorem d_Reader_readNumber_37 : decode (m_c m_Reader_readNumber) 37 = .ok (.imul, 1) := by decide +kernel
theorem d_Reader_readNumber_38 : decode (m_c m_Reader_readNumber) 38 = .ok (.aload_n 0, 1) := by decide +kernel
theorem d_Reader_readNumber_39 : decode (m_c m_Reader_readNumber) 39 = .ok (.invokevirtual 116, 3) := by decide +kernel
theorem d_Reader_readNumber_42 : decode (m_c m_Reader_readNumber) 42 = .ok (.iadd, 1) := by decide +kernel
theorem d_Reader_readNumber_43 : decode (m_c m_Reader_readNumber) 43 = .ok (.bipush 48, 2) := by decide +kernel
theorem d_Reader_readNumber_45 : decode (m_c m_Reader_readNumber) 45 = .ok (.isub, 1) := by decide +kernel
theorem d_Reader_readNumber_46 : decode (m_c m_Reader_readNumber) 46 = .ok (.putfield 15, 3) := by decide +kernel
theorem d_Reader_readNumber_49 : decode (m_c m_Reader_readNumber) 49 = .ok (.aload_n 0, 1) := by decide +kernel
theorem d_Reader_readNumber_50 : decode (m_c m_Reader_readNumber) 50 = .ok (.dup, 1) := by decide +kernel
theorem d_Reader_readNumber_51 : decode (m_c m_Reader_readNumber) 51 = .ok (.getfield 9, 3) := by decide +kernel
theorem d_Reader_readNumber_54 : decode (m_c m_Reader_readNumber) 54 = .ok (.iconst 1, 1) := by decide +kernel
theorem d_Reader_readNumber_55 : decode (m_c m_Reader_readNumber) 55 = .ok (.iadd, 1) := by decide +kernel
theorem d_Reader_readNumber_56 : decode (m_c m_Reader_readNumber) 56 = .ok (.putfield 9, 3) := by decide +kernel
theorem d_Reader_readNumber_59 : decode (m_c m_Reader_readNumber) 59 = .ok (.iinc 1 1, 3) := by decide +kernel
theorem d_Reader_readNumber_62 : decode (m_c m_Reader_readNumber) 62 = .ok (.goto (-55), 3) := by decide +kernel
theorem d_Reader_readNumber_65 : decode (m_c m_Reader_readNumber) 65 = .ok (.iload_n 1, 1) := by decide +kernel
theorem d_Reader_readNumber_66 : decode (m_c m_Reader_readNumber) 66 = .ok (.ifCond .le 7, 3) := by decide +kernel
theorem d_Reader_readNumber_69 : decode (m_c m_Reader_readNumber) 69 = .ok (.iconst 1, 1) := by decide +kernel
theorem d_Reader_readNumber_70 : decode (m_c m_Reader_readNumber) 70 = .ok (.goto 4, 3) := by decide +kernel
theorem d_Reader_readNumber_73 : decode (m_c m_Reader_readNumber) 73 = .ok (.iconst 0, 1) := by decide +kernel
theorem d_Reader_readNumber_74 : decode (m_c m_Reader_readNumber) 74 = .ok (.ireturn, 1) := by decide +kernel
def p_Reader_readNumber_74   (s0 : Int) (f g : q_F) : Option (Int × q_F × q_F) :=
  if s0 = 0 ∨ s0 = 1 then
    some (s0, f, g)
  else none
def p_Reader_readNumber_65   (v1 : Int) (f g : q_F) : Option (Int × q_F × q_F) :=
  if q_sw v1 ≤ 0 then
    p_Reader_readNumber_74   (0) f g
  else
    p_Reader_readNumber_74   (1) f g
def p_Reader_readNumber_7   : Nat → Int → q_F → q_F → Option (Int × q_F × q_F)
  | 0, _, _, _ => none
  | n + 1, v1, f, g =>
    if q_sw 4 ≤ q_sw v1 then
      p_Reader_readNumber_65   (v1) f g
    else
      (p_Reader_here  f g).bind fun x2 =>
      if q_sw x2.1 < q_sw 48 then
        p_Reader_readNumber_65   (v1) x2.2.1 x2.2.2
      else
        (p_Reader_here  x2.2.1 x2.2.2).bind fun x5 =>
        if q_sw 57 < q_sw x5.1 then
          p_Reader_readNumber_65   (v1) x5.2.1 x5.2.2
        else
          (p_Reader_here  x5.2.1 x5.2.2).bind fun x8 =>
          q_let (ma_up x8.2.1 54 3 ((((x5.2.1 54 3) * 10) + x8.1) - 48)) fun f10 =>
          q_let (ma_up f10 54 2 ((f10 54 2) + 1)) fun f11 =>
          q_let (v1 + 1) fun z12 =>
          (p_Reader_readNumber_7   n) (z12) f11 x8.2.2
def p_Reader_readNumber   (f g : q_F) : Option (Int × q_F × q_F) :=
  q_let (ma_up f 54 3 0) fun f1 =>
  p_Reader_readNumber_7   1000 (0) f1 g
theorem e_Reader_readNumber_74 (t : q_V) (ok : ma_ok (q_G t))  {Q : Option Value → ma_H → Prop} {y : Int × q_F × q_F} (hQ : Q (some (ma_i y.1)) (q_h y.2.1 y.2.2))   (s0 : Int) (f g : q_F) (hp : p_Reader_readNumber_74   s0 f g = some y) : ma_Ev (q_G t) 1 20 0 0 m_Reader_readNumber 74 [] [ma_i (s0)] (q_h f g) (ma_zr (q_G t) false Q) := by
  unfold p_Reader_readNumber_74 at hp
  replace hp := q_if hp
  obtain ⟨hb1, hp⟩ := hp
  cases Option.some.inj hp
  exact et_zret (pc := 74) d_Reader_readNumber_74 rfl hb1 hQ
theorem e_Reader_readNumber_65 (t : q_V) (ok : ma_ok (q_G t))  {Q : Option Value → ma_H → Prop} {y : Int × q_F × q_F} (hQ : Q (some (ma_i y.1)) (q_h y.2.1 y.2.2))   (v1 : Int) (f g : q_F) (hp : p_Reader_readNumber_65   v1 f g = some y) : ma_Ev (q_G t) 1 20 0 0 m_Reader_readNumber 65 [(1, ma_i (v1))] [] (q_h f g) (ma_zr (q_G t) false Q) := by
  unfold p_Reader_readNumber_65 at hp
  refine ev_iload_n (pc := 65) d_Reader_readNumber_65 rfl rfl ?_
  refine et_if_le (pc := 66) (tgt := 73) d_Reader_readNumber_66 (by decide) (fun hj1 => ?_) (fun hj1 => ?_)
  · rw [if_pos hj1] at hp
    refine ev_iconst (pc := 73) d_Reader_readNumber_73 ?_
    refine ev_sub (ls2 := []) [] rfl ?_
    exact e_Reader_readNumber_74 t ok  hQ   (0) f g hp
  · rw [if_neg hj1] at hp
    refine ev_iconst (pc := 69) d_Reader_readNumber_69 ?_
    refine ev_goto (pc := 70) (tgt := 74) d_Reader_readNumber_70 (by decide) ?_
    refine ev_sub (ls2 := []) [] rfl ?_
    exact e_Reader_readNumber_74 t ok  hQ   (1) f g hp
theorem e_Reader_readNumber_7 (t : q_V) (ok : ma_ok (q_G t))  {Q : Option Value → ma_H → Prop} {y : Int × q_F × q_F} (hQ : Q (some (ma_i y.1)) (q_h y.2.1 y.2.2))   : ∀ (n : Nat) (v1 : Int) (f g : q_F), p_Reader_readNumber_7   n v1 f g = some y → ma_Ev (q_G t) 1 20 0 0 m_Reader_readNumber 7 [(0, q_a t (54)), (1, ma_i (v1))] [] (q_h f g) (ma_zr (q_G t) false Q) := by
  intro n
  induction n with
  | zero =>
    intro v1 f g hp
    rw [p_Reader_readNumber_7] at hp
    cases hp
  | succ n ih =>
    intro v1 f g hp
    rw [p_Reader_readNumber_7] at hp
    refine ev_iload_n (pc := 7) d_Reader_readNumber_7 rfl rfl ?_
    refine ev_iconst (pc := 8) d_Reader_readNumber_8 ?_
    refine et_icmp_ge (pc := 9) (tgt := 65) d_Reader_readNumber_9 (by decide) (fun hj1 => ?_) (fun hj1 => ?_)
    · rw [if_pos hj1] at hp
      refine ev_sub (ls2 := [(1, ma_i (v1))]) [1] rfl ?_
      exact e_Reader_readNumber_65 t ok  hQ   (v1) f g hp
    · rw [if_neg hj1] at hp
      refine et_aload_n (pc := 12) d_Reader_readNumber_12 rfl rfl ?_
      replace hp := q_bind hp
      obtain ⟨x2, hm3, hp⟩ := hp
      refine et_callVi (pc := 13) (f1 := x2.2.1) (g1 := x2.2.2) ok [] [] (cf_Reader_116 t) d_Reader_readNumber_13 s_54 k_8 rfl (t_Reader_here t ok  f g hm3 ⟨rfl, rfl⟩) rfl rfl (by decide) (by decide) (q_ble rfl) ?_
      refine ev_bipush (pc := 16) d_Reader_readNumber_16 rfl ?_
      refine et_icmp_lt (pc := 18) (tgt := 65) d_Reader_readNumber_18 (by decide) (fun hj4 => ?_) (fun hj4 => ?_)
      · rw [if_pos hj4] at hp
        refine ev_sub (ls2 := [(1, ma_i (v1))]) [1] rfl ?_
        exact e_Reader_readNumber_65 t ok  hQ   (v1) x2.2.1 x2.2.2 hp
      · rw [if_neg hj4] at hp
        refine et_aload_n (pc := 21) d_Reader_readNumber_21 rfl rfl ?_
        replace hp := q_bind hp
        obtain ⟨x5, hm6, hp⟩ := hp
        refine et_callVi (pc := 22) (f1 := x5.2.1) (g1 := x5.2.2) ok [] [] (cf_Reader_116 t) d_Reader_readNumber_22 s_54 k_8 rfl (t_Reader_here t ok  x2.2.1 x2.2.2 hm6 ⟨rfl, rfl⟩) rfl rfl (by decide) (by decide) (q_ble rfl) ?_
        refine ev_bipush (pc := 25) d_Reader_readNumber_25 rfl ?_
        refine et_icmp_gt (pc := 27) (tgt := 65) d_Reader_readNumber_27 (by decide) (fun hj7 => ?_) (fun hj7 => ?_)
        · rw [if_pos hj7] at hp
          refine ev_sub (ls2 := [(1, ma_i (v1))]) [1] rfl ?_
          exact e_Reader_readNumber_65 t ok  hQ   (v1) x5.2.1 x5.2.2 hp
        · rw [if_neg hj7] at hp
          refine et_aload_n (pc := 30) d_Reader_readNumber_30 rfl rfl ?_
          refine et_aload_n (pc := 31) d_Reader_readNumber_31 rfl rfl ?_
          refine et_geti (pc := 32) ok (fl_Reader_15 t) rfl d_Reader_readNumber_32 s_54 ?_
          refine ev_bipush (pc := 35) d_Reader_readNumber_35 rfl ?_
          refine ev_imul (pc := 37) d_Reader_readNumber_37 ?_
          refine et_aload_n (pc := 38) d_Reader_readNumber_38 rfl rfl ?_
          replace hp := q_bind hp
          obtain ⟨x8, hm9, hp⟩ := hp
          refine et_callVi (pc := 39) (f1 := x8.2.1) (g1 := x8.2.2) ok [] [ma_i ((x5.2.1 54 3) * 10), q_a t (54)] (cf_Reader_116 t) d_Reader_readNumber_39 s_54 k_8 rfl (t_Reader_here t ok  x5.2.1 x5.2.2 hm9 ⟨rfl, rfl⟩) rfl rfl (by decide) (by decide) (q_ble rfl) ?_
          refine ev_iadd (pc := 42) d_Reader_readNumber_42 ?_
          refine ev_bipush (pc := 43) d_Reader_readNumber_43 rfl ?_
          refine ev_isub (pc := 45) d_Reader_readNumber_45 ?_
          refine et_puti (pc := 46) ok (fl_Reader_15 t) d_Reader_readNumber_46 s_54 ?_
          replace hp := q_let_of hp
          obtain ⟨f10, hz, hp⟩ := hp
          rw [← hz]
          clear hz
          refine et_aload_n (pc := 49) d_Reader_readNumber_49 rfl rfl ?_
          refine ev_dup (pc := 50) d_Reader_readNumber_50 rfl ?_
          refine et_geti (pc := 51) ok (fl_Reader_9 t) rfl d_Reader_readNumber_51 s_54 ?_
          refine ev_iconst (pc := 54) d_Reader_readNumber_54 ?_
          refine ev_iadd (pc := 55) d_Reader_readNumber_55 ?_
          refine et_puti (pc := 56) ok (fl_Reader_9 t) d_Reader_readNumber_56 s_54 ?_
          replace hp := q_let_of hp
          obtain ⟨f11, hz, hp⟩ := hp
          rw [← hz]
          clear hz
          refine ev_iinc (pc := 59) d_Reader_readNumber_59 (by decide) rfl [(1, _), (0, _)] rfl ?_
          replace hp := q_let_of hp
          obtain ⟨z12, hz, hp⟩ := hp
          rw [← hz]
          clear hz
          refine ev_goto (pc := 62) (tgt := 7) d_Reader_readNumber_62 (by decide) ?_
          refine ev_sub (ls2 := [(0, q_a t (54)), (1, ma_i (z12))]) [1, 0] rfl ?_
          exact ih (z12) f11 x8.2.2 hp
theorem t_Reader_readNumber (t : q_V) (ok : ma_ok (q_G t))  {Q : Option Value → ma_H → Prop} {y : Int × q_F × q_F}  (f g : q_F) (hp : p_Reader_readNumber   f g = some y) (hQ : Q (some (ma_i y.1)) (q_h y.2.1 y.2.2)) : ma_Met (q_G t) false 1 20 0 0 m_Reader_readNumber [q_a t (54)] (q_h f g) Q := by
  refine ma_met (by decide +kernel) (q_ble rfl) rfl ?_
  change ma_Ev (q_G t) 1 20 0 0 m_Reader_readNumber 0 [(0, q_a t (54))] [] (q_h f g) (ma_zr (q_G t) false Q)
  unfold p_Reader_readNumber at hp
  refine ev_iconst (pc := 0) d_Reader_readNumber_0 ?_
  refine ev_istore_n (pc := 1) d_Reader_readNumber_1 rfl (by decide) [(1, _), (0, _)] rfl ?_
  refine et_aload_n (pc := 2) d_Reader_readNumber_2 rfl rfl ?_
  refine ev_iconst (pc := 3) d_Reader_readNumber_3 ?_
  refine et_puti (pc := 4) ok (fl_Reader_15 t) d_Reader_readNumber_4 s_54 ?_
  replace hp := q_let_of hp
  obtain ⟨f1, hz, hp⟩ := hp
  rw [← hz]
  clear hz
  refine ev_sub (ls2 := [(0, q_a t (54)), (1, ma_i (0))]) [1, 0] rfl ?_
  exact e_Reader_readNumber_7 t ok  hQ   1000 (0) f1 g hp
theorem d_Reader_readOfSection_0 : decode (m_c m_Reader_readOfSection) 0 = .ok (.aload_n 0, 1) := by decide +kernel
theorem d_Reader_readOfSection_1 : decode (m_c m_Reader_readOfSection) 1 = .ok (.dup, 1) := by decide +kernel
theorem d_Reader_readOfSection_2 : decode (m_c m_Reader_readOfSection) 2 = .ok (.getfield 9, 3) := by decide +kernel
theorem d_Reader_readOfSection_5 : decode (m_c m_Reader_readOfSection) 5 = .ok (.iconst 1, 1) := by decide +kernel
theorem d_Reader_readOfSection_6 : decode (m_c m_Reader_readOfSection) 6 = .ok (.iadd, 1) := by decide +kernel
theorem d_Reader_readOfSection_7 : decode (m_c m_Reader_readOfSection) 7 = .ok (.putfield 9, 3) := by decide +kernel
theorem d_Reader_readOfSection_10 : decode (m_c m_Reader_readOfSection) 10 = .ok (.aload_n 0, 1) := by decide +kernel
theorem d_Reader_readOfSection_11 : decode (m_c m_Reader_readOfSection) 11 = .ok (.bipush 65, 2) := by decide +kernel
theorem d_Reader_readOfSection_13 : decode (m_c m_Reader_readOfSection) 13 = .ok (.bipush 8, 2) := by decide +kernel
theorem d_Reader_readOfSection_15 : decode (m_c m_Reader_readOfSection) 15 = .ok (.invokevirtual 50, 3) := by decide +kernel
theorem d_Reader_readOfSection_18 : decode (m_c m_Reader_readOfSection) 18 = .ok (.istore_n 2, 1) := by decide +kernel
theorem d_Reader_readOfSection_19 : decode (m_c m_Reader_readOfSection) 19 = .ok (.iload_n 2, 1) := by decide +kernel
theorem d_Reader_readOfSection_20 : decode (m_c m_Reader_readOfSection) 20 = .ok (.ifCond .ge 5, 3) := by decide +kernel
theorem d_Reader_readOfSection_23 : decode (m_c m_Reader_readOfSection) 23 = .ok (.iconst 0, 1) := by decide +kernel
theorem d_Reader_readOfSection_24 : decode (m_c m_Reader_readOfSection) 24 = .ok (.ireturn, 1) := by decide +kernel
theorem d_Reader_readOfSection_25 : decode (m_c m_Reader_readOfSection) 25 = .ok (.aload_n 0, 1) := by decide +kernel
theorem d_Reader_readOfSection_26 : decode (m_c m_Reader_readOfSection) 26 = .ok (.dup, 1) := by decide +kernel
theorem d_Reader_readOfSection_27 : decode (m_c m_Reader_readOfSection) 27 = .ok (.getfield 9, 3) := by decide +kernel
theorem d_Reader_readOfSection_30 : decode (m_c m_Reader_readOfSection) 30 = .ok (.iconst 1, 1) := by decide +kernel
theorem d_Reader_readOfSection_31 : decode (m_c m_Reader_readOfSection) 31 = .ok (.iadd, 1) := by decide +kernel
theorem d_Reader_readOfSection_32 : decode (m_c m_Reader_readOfSection) 32 = .ok (.putfield 9, 3) := by decide +kernel
theorem d_Reader_readOfSection_35 : decode (m_c m_Reader_readOfSection) 35 = .ok (.aload_n 0, 1) := by decide +kernel
theorem d_Reader_readOfSection_36 : decode (m_c m_Reader_readOfSection) 36 = .ok (.getfield 22, 3) := by decide +kernel
theorem d_Reader_readOfSection_39 : decode (m_c m_Reader_readOfSection) 39 = .ok (.getfield 85, 3) := by decide +kernel
theorem d_Reader_readOfSection_42 : decode (m_c m_Reader_readOfSection) 42 = .ok (.iload_n 1, 1) := by decide +kernel
theorem d_Reader_readOfSection_43 : decode (m_c m_Reader_readOfSection) 43 = .ok (.iload_n 2, 1) := by decide +kernel
theorem d_Reader_readOfSection_44 : decode (m_c m_Reader_readOfSection) 44 = .ok (.invokevirtual 130, 3) := by decide +kernel
theorem d_Reader_readOfSection_47 : decode (m_c m_Reader_readOfSection) 47 = .ok (.iconst 1, 1) := by decide +kernel
theorem d_Reader_readOfSection_48 : decode (m_c m_Reader_readOfSection) 48 = .ok (.ireturn, 1) := by decide +kernel
def p_Reader_readOfSection  (v1 : Int) (f g : q_F) : Option (Int × q_F × q_F) :=
  q_let (ma_up f 54 2 ((f 54 2) + 1)) fun f1 =>
  (p_Reader_letter (65) (8) f1 g).bind fun x2 =>
  if 0 ≤ q_sw x2.1 then
    q_let (ma_up x2.2.1 54 2 ((x2.2.1 54 2) + 1)) fun f5 =>
    (p_Rows_add_11 (v1) (x2.1) f5 x2.2.2).bind fun x6 =>
    some (1, x6.1, x6.2)
  else
    some (0, x2.2.1, x2.2.2)
theorem t_Reader_readOfSection (t : q_V) (ok : ma_ok (q_G t))  {Q : Option Value → ma_H → Prop} {y : Int × q_F × q_F} (v1 : Int) (f g : q_F) (hp : p_Reader_readOfSection  v1 f g = some y) (hQ : Q (some (ma_i y.1)) (q_h y.2.1 y.2.2)) : ma_Met (q_G t) false 2 43 0 0 m_Reader_readOfSection [q_a t (54), ma_i (v1)] (q_h f g) Q := by
  refine ma_met (by decide +kernel) (q_ble rfl) rfl ?_
  change ma_Ev (q_G t) 2 43 0 0 m_Reader_readOfSection 0 [(0, q_a t (54)), (1, ma_i (v1))] [] (q_h f g) (ma_zr (q_G t) false Q)
  unfold p_Reader_readOfSection at hp
  refine et_aload_n (pc := 0) d_Reader_readOfSection_0 rfl rfl ?_
  refine ev_dup (pc := 1) d_Reader_readOfSection_1 rfl ?_
  refine et_geti (pc := 2) ok (fl_Reader_9 t) rfl d_Reader_readOfSection_2 s_54 ?_
  refine ev_iconst (pc := 5) d_Reader_readOfSection_5 ?_
  refine ev_iadd (pc := 6) d_Reader_readOfSection_6 ?_
  refine et_puti (pc := 7) ok (fl_Reader_9 t) d_Reader_readOfSection_7 s_54 ?_
  replace hp := q_let_of hp
  obtain ⟨f1, hz, hp⟩ := hp
  rw [← hz]
  clear hz
  refine et_aload_n (pc := 10) d_Reader_readOfSection_10 rfl rfl ?_
  refine ev_bipush (pc := 11) d_Reader_readOfSection_11 rfl ?_
  refine ev_bipush (pc := 13) d_Reader_readOfSection_13 rfl ?_
  replace hp := q_bind hp
  obtain ⟨x2, hm3, hp⟩ := hp
  refine et_callVi (pc := 15) (f1 := x2.2.1) (g1 := x2.2.2) ok [ma_i (65), ma_i (8)] [] (cf_Reader_50 t) d_Reader_readOfSection_15 s_54 k_8 rfl (t_Reader_letter t ok (65) (8) f1 g hm3 ⟨rfl, rfl⟩) rfl rfl (by decide) (by decide) (q_ble rfl) ?_
  refine ev_istore_n (pc := 18) d_Reader_readOfSection_18 rfl (by decide) [(2, _), (0, _), (1, _)] rfl ?_
  refine ev_iload_n (pc := 19) d_Reader_readOfSection_19 rfl rfl ?_
  refine et_if_ge (pc := 20) (tgt := 25) d_Reader_readOfSection_20 (by decide) (fun hj4 => ?_) (fun hj4 => ?_)
  · rw [if_pos hj4] at hp
    refine et_aload_n (pc := 25) d_Reader_readOfSection_25 rfl rfl ?_
    refine ev_dup (pc := 26) d_Reader_readOfSection_26 rfl ?_
    refine et_geti (pc := 27) ok (fl_Reader_9 t) rfl d_Reader_readOfSection_27 s_54 ?_
    refine ev_iconst (pc := 30) d_Reader_readOfSection_30 ?_
    refine ev_iadd (pc := 31) d_Reader_readOfSection_31 ?_
    refine et_puti (pc := 32) ok (fl_Reader_9 t) d_Reader_readOfSection_32 s_54 ?_
    replace hp := q_let_of hp
    obtain ⟨f5, hz, hp⟩ := hp
    rw [← hz]
    clear hz
    refine et_aload_n (pc := 35) d_Reader_readOfSection_35 rfl rfl ?_
    refine et_getr (pc := 36) ok (fl_Reader_22 t) rfl d_Reader_readOfSection_36 s_54 r_54_1 ?_
    refine et_getr (pc := 39) ok (fl_Reader_85 t) rfl d_Reader_readOfSection_39 s_3 r_3_5 ?_
    refine ev_iload_n (pc := 42) d_Reader_readOfSection_42 rfl rfl ?_
    refine ev_iload_n (pc := 43) d_Reader_readOfSection_43 rfl rfl ?_
    replace hp := q_bind hp
    obtain ⟨x6, hm7, hp⟩ := hp
    refine et_callVv (pc := 44) (f1 := x6.1) (g1 := x6.2) ok [ma_i (v1), ma_i (x2.1)] [] (cf_Reader_130 t) d_Reader_readOfSection_44 s_11 k_6 rfl (t_Rows_add_11 t ok (v1) (x2.1) f5 x2.2.2 hm7 ⟨rfl, rfl⟩) rfl rfl (by decide) (by decide) (q_ble rfl) ?_
    refine ev_iconst (pc := 47) d_Reader_readOfSection_47 ?_
    cases Option.some.inj hp
    exact et_zret (pc := 48) d_Reader_readOfSection_48 rfl (by decide) hQ
  · rw [if_neg hj4] at hp
    refine ev_iconst (pc := 23) d_Reader_readOfSection_23 ?_
    cases Option.some.inj hp
    exact et_zret (pc := 24) d_Reader_readOfSection_24 rfl (by decide) hQ
theorem d_Reader_readItem_0 : decode (m_c m_Reader_readItem) 0 = .ok (.aload_n 0, 1) := by decide +kernel
theorem d_Reader_readItem_1 : decode (m_c m_Reader_readItem) 1 = .ok (.bipush 37, 2) := by decide +kernel
theorem d_Reader_readItem_3 : decode (m_c m_Reader_readItem) 3 = .ok (.invokevirtual 36, 3) := by decide +kernel
theorem d_Reader_readItem_6 : decode (m_c m_Reader_readItem) 6 = .ok (.ifCond .eq 41, 3) := by decide +kernel
theorem d_Reader_readItem_9 : decode (m_c m_Reader_readItem) 9 = .ok (.aload_n 0, 1) := by decide +kernel
theorem d_Reader_readItem_10 : decode (m_c m_Reader_readItem) 10 = .ok (.invokevirtual 64, 3) := by decide +kernel
theorem d_Reader_readItem_13 : decode (m_c m_Reader_readItem) 13 = .ok (.ifCond .eq 15, 3) := by decide +kernel
theorem d_Reader_readItem_16 : decode (m_c m_Reader_readItem) 16 = .ok (.aload_n 0, 1) := by decide +kernel
theorem d_Reader_readItem_17 : decode (m_c m_Reader_readItem) 17 = .ok (.getfield 15, 3) := by decide +kernel
theorem d_Reader_readItem_20 : decode (m_c m_Reader_readItem) 20 = .ok (.bipush 64, 2) := by decide +kernel
theorem d_Reader_readItem_22 : decode (m_c m_Reader_readItem) 22 = .ok (.invokestatic 126, 3) := by decide +kernel
theorem d_Reader_readItem_25 : decode (m_c m_Reader_readItem) 25 = .ok (.ifCond .ne 5, 3) := by decide +kernel
theorem d_Reader_readItem_28 : decode (m_c m_Reader_readItem) 28 = .ok (.iconst 0, 1) := by decide +kernel
theorem d_Reader_readItem_29 : decode (m_c m_Reader_readItem) 29 = .ok (.ireturn, 1) := by decide +kernel
theorem d_Reader_readItem_30 : decode (m_c m_Reader_readItem) 30 = .ok (.aload_n 0, 1) := by decide +kernel
theorem d_Reader_readItem_31 : decode (m_c m_Reader_readItem) 31 = .ok (.getfield 22, 3) := by decide +kernel
theorem d_Reader_readItem_34 : decode (m_c m_Reader_readItem) 34 = .ok (.getfield 110, 3) := by decide +kernel
theorem d_Reader_readItem_37 : decode (m_c m_Reader_readItem) 37 = .ok (.iconst 1, 1) := by decide +kernel
theorem d_Reader_readItem_38 : decode (m_c m_Reader_readItem) 38 = .ok (.aload_n 0, 1) := by decide +kernel
theorem d_Reader_readItem_39 : decode (m_c m_Reader_readItem) 39 = .ok (.getfield 15, 3) := by decide +kernel
theorem d_Reader_readItem_42 : decode (m_c m_Reader_readItem) 42 = .ok (.invokevirtual 130, 3) := by decide +kernel
theorem d_Reader_readItem_45 : decode (m_c m_Reader_readItem) 45 = .ok (.iconst 1, 1) := by decide +kernel
theorem d_Reader_readItem_46 : decode (m_c m_Reader_readItem) 46 = .ok (.ireturn, 1) := by decide +kernel
theorem d_Reader_readItem_47 : decode (m_c m_Reader_readItem) 47 = .ok (.aload_n 0, 1) := by decide +kernel
theorem d_Reader_readItem_48 : decode (m_c m_Reader_readItem) 48 = .ok (.bipush 36, 2) := by decide +kernel
theorem d_Reader_readItem_50 : decode (m_c m_Reader_readItem) 50 = .ok (.invokevirtual 36, 3) := by decide +kernel
theorem d_Reader_readItem_53 : decode (m_c m_Reader_readItem) 53 = .ok (.ifCond .eq 70, 3) := by decide +kernel
theorem d_Reader_readItem_56 : decode (m_c m_Reader_readItem) 56 = .ok (.aload_n 0, 1) := by decide +kernel
theorem d_Reader_readItem_57 : decode (m_c m_Reader_readItem) 57 = .ok (.bipush 105, 2) := by decide +kernel
theorem d_Reader_readItem_59 : decode (m_c m_Reader_readItem) 59 = .ok (.bipush 18, 2) := by decide +kernel
theorem d_Reader_readItem_61 : decode (m_c m_Reader_readItem) 61 = .ok (.invokevirtual 50, 3) := by decide +kernel
theorem d_Reader_readItem_64 : decode (m_c m_Reader_readItem) 64 = .ok (.istore_n 1, 1) := by decide +kernel
theorem d_Reader_readItem_65 : decode (m_c m_Reader_readItem) 65 = .ok (.iload_n 1, 1) := by decide +kernel
theorem d_Reader_readItem_66 : decode (m_c m_Reader_readItem) 66 = .ok (.ifCond .lt 18, 3) := by decide +kernel
theorem d_Reader_readItem_69 : decode (m_c m_Reader_readItem) 69 = .ok (.aload_n 0, 1) := by decide +kernel
theorem d_Reader_readItem_70 : decode (m_c m_Reader_readItem) 70 = .ok (.getfield 22, 3) := by decide +kernel
theorem d_Reader_readItem_73 : decode (m_c m_Reader_readItem) 73 = .ok (.getfield 134, 3) := by decide +kernel
theorem d_Reader_readItem_76 : decode (m_c m_Reader_readItem) 76 = .ok (.iload_n 1, 1) := by decide +kernel
theorem d_Reader_readItem_77 : decode (m_c m_Reader_readItem) 77 = .ok (.aaload, 1) := by decide +kernel
theorem d_Reader_readItem_78 : decode (m_c m_Reader_readItem) 78 = .ok (.getfield 138, 3) := by decide +kernel
theorem d_Reader_readItem_81 : decode (m_c m_Reader_readItem) 81 = .ok (.ifCond .eq 5, 3) := by decide +kernel
theorem d_Reader_readItem_84 : decode (m_c m_Reader_readItem) 84 = .ok (.iconst 0, 1) := by decide +kernel
theorem d_Reader_readItem_85 : decode (m_c m_Reader_readItem) 85 = .ok (.ireturn, 1) := by decide +kernel
theorem d_Reader_readItem_86 : decode (m_c m_Reader_readItem) 86 = .ok (.aload_n 0, 1) := by decide +kernel
theorem d_Reader_readItem_87 : decode (m_c m_Reader_readItem) 87 = .ok (.dup, 1) := by decide +kernel
theorem d_Reader_readItem_88 : decode (m_c m_Reader_readItem) 88 = .ok (.getfield 9, 3) := by decide +kernel
theorem d_Reader_readItem_91 : decode (m_c m_Reader_readItem) 91 = .ok (.iconst 1, 1) := by decide +kernel
theorem d_Reader_readItem_92 : decode (m_c m_Reader_readItem) 92 = .ok (.iadd, 1) := by decide +kernel
theorem d_Reader_readItem_93 : decode (m_c m_Reader_readItem) 93 = .ok (.putfield 9, 3) := by decide +kernel
theorem d_Reader_readItem_96 : decode (m_c m_Reader_readItem) 96 = .ok (.aload_n 0, 1) := by decide +kernel
theorem d_Reader_readItem_97 : decode (m_c m_Reader_readItem) 97 = .ok (.getfield 22, 3) := by decide +kernel
theorem d_Reader_readItem_100 : decode (m_c m_Reader_readItem) 100 = .ok (.getfield 134, 3) := by decide +kernel
theorem d_Reader_readItem_103 : decode (m_c m_Reader_readItem) 103 = .ok (.iload_n 1, 1) := by decide +kernel
theorem d_Reader_readItem_104 : decode (m_c m_Reader_readItem) 104 = .ok (.aaload, 1) := by decide +kernel
theorem d_Reader_readItem_105 : decode (m_c m_Reader_readItem) 105 = .ok (.iconst 1, 1) := by decide +kernel
theorem d_Reader_readItem_106 : decode (m_c m_Reader_readItem) 106 = .ok (.putfield 138, 3) := by decide +kernel
theorem d_Reader_readItem_109 : decode (m_c m_Reader_readItem) 109 = .ok (.aload_n 0, 1) := by decide +kernel
theorem d_Reader_readItem_110 : decode (m_c m_Reader_readItem) 110 = .ok (.getfield 22, 3) := by decide +kernel
theorem d_Reader_readItem_113 : decode (m_c m_Reader_readItem) 113 = .ok (.getfield 110, 3) := by decide +kernel
theorem d_Reader_readItem_116 : decode (m_c m_Reader_readItem) 116 = .ok (.iconst 2, 1) := by decide +kernel
theorem d_Reader_readItem_117 : decode (m_c m_Reader_readItem) 117 = .ok (.iload_n 1, 1) := by decide +kernel
theorem d_Reader_readItem_118 : decode (m_c m_Reader_readItem) 118 = .ok (.invokevirtual 130, 3) := by decide +kernel
theorem d_Reader_readItem_121 : decode (m_c m_Reader_readItem) 121 = .ok (.iconst 1, 1) := by decide +kernel
theorem d_Reader_readItem_122 : decode (m_c m_Reader_readItem) 122 = .ok (.ireturn, 1) := by decide +kernel
theorem d_Reader_readItem_123 : decode (m_c m_Reader_readItem) 123 = .ok (.aload_n 0, 1) := by decide +kernel
theorem d_Reader_readItem_124 : decode (m_c m_Reader_readItem) 124 = .ok (.bipush 97, 2) := by decide +kernel
theorem d_Reader_readItem_126 : decode (m_c m_Reader_readItem) 126 = .ok (.bipush 8, 2) := by decide +kernel
theorem d_Reader_readItem_128 : decode (m_c m_Reader_readItem) 128 = .ok (.invokevirtual 50, 3) := by decide +kernel
theorem d_Reader_readItem_131 : decode (m_c m_Reader_readItem) 131 = .ok (.istore_n 1, 1) := by decide +kernel
theorem d_Reader_readItem_132 : decode (m_c m_Reader_readItem) 132 = .ok (.iload_n 1, 1) := by decide +kernel
theorem d_Reader_readItem_133 : decode (m_c m_Reader_readItem) 133 = .ok (.ifCond .lt 18, 3) := by decide +kernel
theorem d_Reader_readItem_136 : decode (m_c m_Reader_readItem) 136 = .ok (.aload_n 0, 1) := by decide +kernel
theorem d_Reader_readItem_137 : decode (m_c m_Reader_readItem) 137 = .ok (.getfield 22, 3) := by decide +kernel
theorem d_Reader_readItem_140 : decode (m_c m_Reader_readItem) 140 = .ok (.getfield 141, 3) := by decide +kernel
theorem d_Reader_readItem_143 : decode (m_c m_Reader_readItem) 143 = .ok (.iload_n 1, 1) := by decide +kernel
theorem d_Reader_readItem_144 : decode (m_c m_Reader_readItem) 144 = .ok (.aaload, 1) := by decide +kernel
theorem d_Reader_readItem_145 : decode (m_c m_Reader_readItem) 145 = .ok (.getfield 145, 3) := by decide +kernel
theorem d_Reader_readItem_148 : decode (m_c m_Reader_readItem) 148 = .ok (.ifCond .eq 5, 3) := by decide +kernel
theorem d_Reader_readItem_151 : decode (m_c m_Reader_readItem) 151 = .ok (.iconst 0, 1) := by decide +kernel
theorem d_Reader_readItem_152 : decode (m_c m_Reader_readItem) 152 = .ok (.ireturn, 1) := by decide +kernel
theorem d_Reader_readItem_153 : decode (m_c m_Reader_readItem) 153 = .ok (.aload_n 0, 1) := by decide +kernel
theorem d_Reader_readItem_154 : decode (m_c m_Reader_readItem) 154 = .ok (.dup, 1) := by decide +kernel
theorem d_Reader_readItem_155 : decode (m_c m_Reader_readItem) 155 = .ok (.getfield 9, 3) := by decide +kernel
theorem d_Reader_readItem_158 : decode (m_c m_Reader_readItem) 158 = .ok (.iconst 1, 1) := by decide +kernel
theorem d_Reader_readItem_159 : decode (m_c m_Reader_readItem) 159 = .ok (.iadd, 1) := by decide +kernel
theorem d_Reader_readItem_160 : decode (m_c m_Reader_readItem) 160 = .ok (.putfield 9, 3) := by decide +kernel
theorem d_Reader_readItem_163 : decode (m_c m_Reader_readItem) 163 = .ok (.aload_n 0, 1) := by decide +kernel
theorem d_Reader_readItem_164 : decode (m_c m_Reader_readItem) 164 = .ok (.getfield 22, 3) := by decide +kernel
theorem d_Reader_readItem_167 : decode (m_c m_Reader_readItem) 167 = .ok (.getfield 141, 3) := by decide +kernel
theorem d_Reader_readItem_170 : decode (m_c m_Reader_readItem) 170 = .ok (.iload_n 1, 1) := by decide +kernel
theorem d_Reader_readItem_171 : decode (m_c m_Reader_readItem) 171 = .ok (.aaload, 1) := by decide +kernel
theorem d_Reader_readItem_172 : decode (m_c m_Reader_readItem) 172 = .ok (.iconst 1, 1) := by decide +kernel
theorem d_Reader_readItem_173 : decode (m_c m_Reader_readItem) 173 = .ok (.putfield 145, 3) := by decide +kernel
theorem d_Reader_readItem_176 : decode (m_c m_Reader_readItem) 176 = .ok (.aload_n 0, 1) := by decide +kernel
theorem d_Reader_readItem_177 : decode (m_c m_Reader_readItem) 177 = .ok (.getfield 22, 3) := by decide +kernel
theorem d_Reader_readItem_180 : decode (m_c m_Reader_readItem) 180 = .ok (.getfield 110, 3) := by decide +kernel
theorem d_Reader_readItem_183 : decode (m_c m_Reader_readItem) 183 = .ok (.iconst 0, 1) := by decide +kernel
theorem d_Reader_readItem_184 : decode (m_c m_Reader_readItem) 184 = .ok (.iload_n 1, 1) := by decide +kernel
theorem d_Reader_readItem_185 : decode (m_c m_Reader_readItem) 185 = .ok (.invokevirtual 130, 3) := by decide +kernel
theorem d_Reader_readItem_188 : decode (m_c m_Reader_readItem) 188 = .ok (.iconst 1, 1) := by decide +kernel
theorem d_Reader_readItem_189 : decode (m_c m_Reader_readItem) 189 = .ok (.ireturn, 1) := by decide +kernel
def p_Reader_readItem_151    (f g : q_F) : Option (Int × q_F × q_F) :=
  some (0, f, g)
def p_Reader_readItem_84    (f g : q_F) : Option (Int × q_F × q_F) :=
  some (0, f, g)
def p_Reader_readItem_28    (f g : q_F) : Option (Int × q_F × q_F) :=
  some (0, f, g)
def p_Reader_readItem   (f g : q_F) : Option (Int × q_F × q_F) :=
  (p_Reader_skip (37) f g).bind fun x1 =>
  if q_sw x1.1 = 0 then
    (p_Reader_skip (36) x1.2.1 x1.2.2).bind fun x4 =>
    if q_sw x4.1 = 0 then
      (p_Reader_letter (97) (8) x4.2.1 x4.2.2).bind fun x7 =>
      if q_sw x7.1 < 0 then
        p_Reader_readItem_151    x7.2.1 x7.2.2
      else
        if 0 ≤ x7.1 ∧ x7.1 < 8 then
          if q_sw (x7.2.1 (16 + Int.toNat x7.1) 3) = 0 then
            q_let (ma_up x7.2.1 54 2 ((x7.2.1 54 2) + 1)) fun f12 =>
            if 0 ≤ x7.1 ∧ x7.1 < 8 then
              q_let (ma_up f12 (16 + Int.toNat x7.1) 3 1) fun f14 =>
              (p_Rows_add_8 (0) (x7.1) f14 x7.2.2).bind fun x15 =>
              some (1, x15.1, x15.2)
            else none
          else
            p_Reader_readItem_151    x7.2.1 x7.2.2
        else none
    else
      (p_Reader_letter (105) (18) x4.2.1 x4.2.2).bind fun x17 =>
      if q_sw x17.1 < 0 then
        p_Reader_readItem_84    x17.2.1 x17.2.2
      else
        if 0 ≤ x17.1 ∧ x17.1 < 18 then
          if q_sw (x17.2.1 (36 + Int.toNat x17.1) 0) = 0 then
            q_let (ma_up x17.2.1 54 2 ((x17.2.1 54 2) + 1)) fun f22 =>
            if 0 ≤ x17.1 ∧ x17.1 < 18 then
              q_let (ma_up f22 (36 + Int.toNat x17.1) 0 1) fun f24 =>
              (p_Rows_add_8 (2) (x17.1) f24 x17.2.2).bind fun x25 =>
              some (1, x25.1, x25.2)
            else none
          else
            p_Reader_readItem_84    x17.2.1 x17.2.2
        else none
  else
    (p_Reader_readNumber  x1.2.1 x1.2.2).bind fun x27 =>
    if q_sw x27.1 = 0 then
      p_Reader_readItem_28    x27.2.1 x27.2.2
    else
      (p_Desk_isAlignment (x27.2.1 54 3) (64) x27.2.1 x27.2.2).bind fun x30 =>
      if q_sw x30.1 = 0 then
        p_Reader_readItem_28    x30.2.1 x30.2.2
      else
        (p_Rows_add_8 (1) (x30.2.1 54 3) x30.2.1 x30.2.2).bind fun x33 =>
        some (1, x33.1, x33.2)
theorem e_Reader_readItem_151 (t : q_V) (ok : ma_ok (q_G t))  {Q : Option Value → ma_H → Prop} {y : Int × q_F × q_F} (hQ : Q (some (ma_i y.1)) (q_h y.2.1 y.2.2))    (f g : q_F) (hp : p_Reader_readItem_151    f g = some y) : ma_Ev (q_G t) 2 43 0 0 m_Reader_readItem 151 [] [] (q_h f g) (ma_zr (q_G t) false Q) := by
  unfold p_Reader_readItem_151 at hp
  refine ev_iconst (pc := 151) d_Reader_readItem_151 ?_
  cases Option.some.inj hp
  exact et_zret (pc := 152) d_Reader_readItem_152 rfl (by decide) hQ
theorem e_Reader_readItem_84 (t : q_V) (ok : ma_ok (q_G t))  {Q : Option Value → ma_H → Prop} {y : Int × q_F × q_F} (hQ : Q (some (ma_i y.1)) (q_h y.2.1 y.2.2))    (f g : q_F) (hp : p_Reader_readItem_84    f g = some y) : ma_Ev (q_G t) 2 43 0 0 m_Reader_readItem 84 [] [] (q_h f g) (ma_zr (q_G t) false Q) := by
  unfold p_Reader_readItem_84 at hp
  refine ev_iconst (pc := 84) d_Reader_readItem_84 ?_
  cases Option.some.inj hp
  exact et_zret (pc := 85) d_Reader_readItem_85 rfl (by decide) hQ
theorem e_Reader_readItem_28 (t : q_V) (ok : ma_ok (q_G t))  {Q : Option Value → ma_H → Prop} {y : Int × q_F × q_F} (hQ : Q (some (ma_i y.1)) (q_h y.2.1 y.2.2))    (f g : q_F) (hp : p_Reader_readItem_28    f g = some y) : ma_Ev (q_G t) 2 43 0 0 m_Reader_readItem 28 [] [] (q_h f g) (ma_zr (q_G t) false Q) := by
  unfold p_Reader_readItem_28 at hp
  refine ev_iconst (pc := 28) d_Reader_readItem_28 ?_
  cases Option.some.inj hp
  exact et_zret (pc := 29) d_Reader_readItem_29 rfl (by decide) hQ
theorem t_Reader_readItem (t : q_V) (ok : ma_ok (q_G t))  {Q : Option Value → ma_H → Prop} {y : Int × q_F × q_F}  (f g : q_F) (hp : p_Reader_readItem   f g = some y) (hQ : Q (some (ma_i y.1)) (q_h y.2.1 y.2.2)) : ma_Met (q_G t) false 2 43 0 0 m_Reader_readItem [q_a t (54)] (q_h f g) Q := by
  refine ma_met (by decide +kernel) (q_ble rfl) rfl ?_
  change ma_Ev (q_G t) 2 43 0 0 m_Reader_readItem 0 [(0, q_a t (54))] [] (q_h f g) (ma_zr (q_G t) false Q)
  unfold p_Reader_readItem at hp
  refine et_aload_n (pc := 0) d_Reader_readItem_0 rfl rfl ?_
  refine ev_bipush (pc := 1) d_Reader_readItem_1 rfl ?_
  replace hp := q_bind hp
  obtain ⟨x1, hm2, hp⟩ := hp
  refine et_callVi (pc := 3) (f1 := x1.2.1) (g1 := x1.2.2) ok [ma_i (37)] [] (cf_Reader_36 t) d_Reader_readItem_3 s_54 k_8 rfl (t_Reader_skip t ok (37) f g hm2 ⟨rfl, rfl⟩) rfl rfl (by decide) (by decide) (q_ble rfl) ?_
  refine et_if_eq (pc := 6) (tgt := 47) d_Reader_readItem_6 (by decide) (fun hj3 => ?_) (fun hj3 => ?_)
  · rw [if_pos hj3] at hp
    refine et_aload_n (pc := 47) d_Reader_readItem_47 rfl rfl ?_
    refine ev_bipush (pc := 48) d_Reader_readItem_48 rfl ?_
    replace hp := q_bind hp
    obtain ⟨x4, hm5, hp⟩ := hp
    refine et_callVi (pc := 50) (f1 := x4.2.1) (g1 := x4.2.2) ok [ma_i (36)] [] (cf_Reader_36 t) d_Reader_readItem_50 s_54 k_8 rfl (t_Reader_skip t ok (36) x1.2.1 x1.2.2 hm5 ⟨rfl, rfl⟩) rfl rfl (by decide) (by decide) (q_ble rfl) ?_
    refine et_if_eq (pc := 53) (tgt := 123) d_Reader_readItem_53 (by decide) (fun hj6 => ?_) (fun hj6 => ?_)
    · rw [if_pos hj6] at hp
      refine et_aload_n (pc := 123) d_Reader_readItem_123 rfl rfl ?_
      refine ev_bipush (pc := 124) d_Reader_readItem_124 rfl ?_
      refine ev_bipush (pc := 126) d_Reader_readItem_126 rfl ?_
      replace hp := q_bind hp
      obtain ⟨x7, hm8, hp⟩ := hp
      refine et_callVi (pc := 128) (f1 := x7.2.1) (g1 := x7.2.2) ok [ma_i (97), ma_i (8)] [] (cf_Reader_50 t) d_Reader_readItem_128 s_54 k_8 rfl (t_Reader_letter t ok (97) (8) x4.2.1 x4.2.2 hm8 ⟨rfl, rfl⟩) rfl rfl (by decide) (by decide) (q_ble rfl) ?_
      refine ev_istore_n (pc := 131) d_Reader_readItem_131 rfl (by decide) [(1, _), (0, _)] rfl ?_
      refine ev_iload_n (pc := 132) d_Reader_readItem_132 rfl rfl ?_
      refine et_if_lt (pc := 133) (tgt := 151) d_Reader_readItem_133 (by decide) (fun hj9 => ?_) (fun hj9 => ?_)
      · rw [if_pos hj9] at hp
        refine ev_sub (ls2 := []) [] rfl ?_
        exact e_Reader_readItem_151 t ok  hQ    x7.2.1 x7.2.2 hp
      · rw [if_neg hj9] at hp
        refine et_aload_n (pc := 136) d_Reader_readItem_136 rfl rfl ?_
        refine et_getr (pc := 137) ok (fl_Reader_22 t) rfl d_Reader_readItem_137 s_54 r_54_1 ?_
        refine et_getr (pc := 140) ok (fl_Reader_141 t) rfl d_Reader_readItem_140 s_3 r_3_0 ?_
        refine ev_iload_n (pc := 143) d_Reader_readItem_143 rfl rfl ?_
        replace hp := q_if hp
        obtain ⟨hb10, hp⟩ := hp
        refine et_aald (pc := 144) d_Reader_readItem_144 s_4 hb10 (by decide) (r_4 _ (by omega)) ?_
        refine et_geti (pc := 145) ok (fl_Reader_145 t) rfl d_Reader_readItem_145 (s_16 _ (by omega) (by omega)) ?_
        refine et_if_eq (pc := 148) (tgt := 153) d_Reader_readItem_148 (by decide) (fun hj11 => ?_) (fun hj11 => ?_)
        · rw [if_pos hj11] at hp
          refine et_aload_n (pc := 153) d_Reader_readItem_153 rfl rfl ?_
          refine ev_dup (pc := 154) d_Reader_readItem_154 rfl ?_
          refine et_geti (pc := 155) ok (fl_Reader_9 t) rfl d_Reader_readItem_155 s_54 ?_
          refine ev_iconst (pc := 158) d_Reader_readItem_158 ?_
          refine ev_iadd (pc := 159) d_Reader_readItem_159 ?_
          refine et_puti (pc := 160) ok (fl_Reader_9 t) d_Reader_readItem_160 s_54 ?_
          replace hp := q_let_of hp
          obtain ⟨f12, hz, hp⟩ := hp
          rw [← hz]
          clear hz
          refine et_aload_n (pc := 163) d_Reader_readItem_163 rfl rfl ?_
          refine et_getr (pc := 164) ok (fl_Reader_22 t) rfl d_Reader_readItem_164 s_54 r_54_1 ?_
          refine et_getr (pc := 167) ok (fl_Reader_141 t) rfl d_Reader_readItem_167 s_3 r_3_0 ?_
          refine ev_iload_n (pc := 170) d_Reader_readItem_170 rfl rfl ?_
          replace hp := q_if hp
          obtain ⟨hb13, hp⟩ := hp
          refine et_aald (pc := 171) d_Reader_readItem_171 s_4 hb13 (by decide) (r_4 _ (by omega)) ?_
          refine ev_iconst (pc := 172) d_Reader_readItem_172 ?_
          refine et_putz (pc := 173) ok (fl_Reader_145 t) (by decide) d_Reader_readItem_173 (s_16 _ (by omega) (by omega)) ?_
          replace hp := q_let_of hp
          obtain ⟨f14, hz, hp⟩ := hp
          rw [← hz]
          clear hz
          refine et_aload_n (pc := 176) d_Reader_readItem_176 rfl rfl ?_
          refine et_getr (pc := 177) ok (fl_Reader_22 t) rfl d_Reader_readItem_177 s_54 r_54_1 ?_
          refine et_getr (pc := 180) ok (fl_Reader_110 t) rfl d_Reader_readItem_180 s_3 r_3_4 ?_
          refine ev_iconst (pc := 183) d_Reader_readItem_183 ?_
          refine ev_iload_n (pc := 184) d_Reader_readItem_184 rfl rfl ?_
          replace hp := q_bind hp
          obtain ⟨x15, hm16, hp⟩ := hp
          refine et_callVv (pc := 185) (f1 := x15.1) (g1 := x15.2) ok [ma_i (0), ma_i (x7.1)] [] (cf_Reader_130 t) d_Reader_readItem_185 s_8 k_6 rfl (t_Rows_add_8 t ok (0) (x7.1) f14 x7.2.2 hm16 ⟨rfl, rfl⟩) rfl rfl (by decide) (by decide) (q_ble rfl) ?_
          refine ev_iconst (pc := 188) d_Reader_readItem_188 ?_
          cases Option.some.inj hp
          exact et_zret (pc := 189) d_Reader_readItem_189 rfl (by decide) hQ
        · rw [if_neg hj11] at hp
          refine ev_sub (ls2 := []) [] rfl ?_
          exact e_Reader_readItem_151 t ok  hQ    x7.2.1 x7.2.2 hp
    · rw [if_neg hj6] at hp
      refine et_aload_n (pc := 56) d_Reader_readItem_56 rfl rfl ?_
      refine ev_bipush (pc := 57) d_Reader_readItem_57 rfl ?_
      refine ev_bipush (pc := 59) d_Reader_readItem_59 rfl ?_
      replace hp := q_bind hp
      obtain ⟨x17, hm18, hp⟩ := hp
      refine et_callVi (pc := 61) (f1 := x17.2.1) (g1 := x17.2.2) ok [ma_i (105), ma_i (18)] [] (cf_Reader_50 t) d_Reader_readItem_61 s_54 k_8 rfl (t_Reader_letter t ok (105) (18) x4.2.1 x4.2.2 hm18 ⟨rfl, rfl⟩) rfl rfl (by decide) (by decide) (q_ble rfl) ?_
      refine ev_istore_n (pc := 64) d_Reader_readItem_64 rfl (by decide) [(1, _), (0, _)] rfl ?_
      refine ev_iload_n (pc := 65) d_Reader_readItem_65 rfl rfl ?_
      refine et_if_lt (pc := 66) (tgt := 84) d_Reader_readItem_66 (by decide) (fun hj19 => ?_) (fun hj19 => ?_)
      · rw [if_pos hj19] at hp
        refine ev_sub (ls2 := []) [] rfl ?_
        exact e_Reader_readItem_84 t ok  hQ    x17.2.1 x17.2.2 hp
      · rw [if_neg hj19] at hp
        refine et_aload_n (pc := 69) d_Reader_readItem_69 rfl rfl ?_
        refine et_getr (pc := 70) ok (fl_Reader_22 t) rfl d_Reader_readItem_70 s_54 r_54_1 ?_
        refine et_getr (pc := 73) ok (fl_Reader_134 t) rfl d_Reader_readItem_73 s_3 r_3_3 ?_
        refine ev_iload_n (pc := 76) d_Reader_readItem_76 rfl rfl ?_
        replace hp := q_if hp
        obtain ⟨hb20, hp⟩ := hp
        refine et_aald (pc := 77) d_Reader_readItem_77 s_7 hb20 (by decide) (r_7 _ (by omega)) ?_
        refine et_geti (pc := 78) ok (fl_Reader_138 t) rfl d_Reader_readItem_78 (s_36 _ (by omega) (by omega)) ?_
        refine et_if_eq (pc := 81) (tgt := 86) d_Reader_readItem_81 (by decide) (fun hj21 => ?_) (fun hj21 => ?_)
        · rw [if_pos hj21] at hp
          refine et_aload_n (pc := 86) d_Reader_readItem_86 rfl rfl ?_
          refine ev_dup (pc := 87) d_Reader_readItem_87 rfl ?_
          refine et_geti (pc := 88) ok (fl_Reader_9 t) rfl d_Reader_readItem_88 s_54 ?_
          refine ev_iconst (pc := 91) d_Reader_readItem_91 ?_
          refine ev_iadd (pc := 92) d_Reader_readItem_92 ?_
          refine et_puti (pc := 93) ok (fl_Reader_9 t) d_Reader_readItem_93 s_54 ?_
          replace hp := q_let_of hp
          obtain ⟨f22, hz, hp⟩ := hp
          rw [← hz]
          clear hz
          refine et_aload_n (pc := 96) d_Reader_readItem_96 rfl rfl ?_
          refine et_getr (pc := 97) ok (fl_Reader_22 t) rfl d_Reader_readItem_97 s_54 r_54_1 ?_
          refine et_getr (pc := 100) ok (fl_Reader_134 t) rfl d_Reader_readItem_100 s_3 r_3_3 ?_
          refine ev_iload_n (pc := 103) d_Reader_readItem_103 rfl rfl ?_
          replace hp := q_if hp
          obtain ⟨hb23, hp⟩ := hp
          refine et_aald (pc := 104) d_Reader_readItem_104 s_7 hb23 (by decide) (r_7 _ (by omega)) ?_
          refine ev_iconst (pc := 105) d_Reader_readItem_105 ?_
          refine et_putz (pc := 106) ok (fl_Reader_138 t) (by decide) d_Reader_readItem_106 (s_36 _ (by omega) (by omega)) ?_
          replace hp := q_let_of hp
          obtain ⟨f24, hz, hp⟩ := hp
          rw [← hz]
          clear hz
          refine et_aload_n (pc := 109) d_Reader_readItem_109 rfl rfl ?_
          refine et_getr (pc := 110) ok (fl_Reader_22 t) rfl d_Reader_readItem_110 s_54 r_54_1 ?_
          refine et_getr (pc := 113) ok (fl_Reader_110 t) rfl d_Reader_readItem_113 s_3 r_3_4 ?_
          refine ev_iconst (pc := 116) d_Reader_readItem_116 ?_
          refine ev_iload_n (pc := 117) d_Reader_readItem_117 rfl rfl ?_
          replace hp := q_bind hp
          obtain ⟨x25, hm26, hp⟩ := hp
          refine et_callVv (pc := 118) (f1 := x25.1) (g1 := x25.2) ok [ma_i (2), ma_i (x17.1)] [] (cf_Reader_130 t) d_Reader_readItem_118 s_8 k_6 rfl (t_Rows_add_8 t ok (2) (x17.1) f24 x17.2.2 hm26 ⟨rfl, rfl⟩) rfl rfl (by decide) (by decide) (q_ble rfl) ?_
          refine ev_iconst (pc := 121) d_Reader_readItem_121 ?_
          cases Option.some.inj hp
          exact et_zret (pc := 122) d_Reader_readItem_122 rfl (by decide) hQ
        · rw [if_neg hj21] at hp
          refine ev_sub (ls2 := []) [] rfl ?_
          exact e_Reader_readItem_84 t ok  hQ    x17.2.1 x17.2.2 hp
  · rw [if_neg hj3] at hp
    refine et_aload_n (pc := 9) d_Reader_readItem_9 rfl rfl ?_
    replace hp := q_bind hp
    obtain ⟨x27, hm28, hp⟩ := hp
    refine et_callVi (pc := 10) (f1 := x27.2.1) (g1 := x27.2.2) ok [] [] (cf_Reader_64 t) d_Reader_readItem_10 s_54 k_8 rfl (t_Reader_readNumber t ok  x1.2.1 x1.2.2 hm28 ⟨rfl, rfl⟩) rfl rfl (by decide) (by decide) (q_ble rfl) ?_
    refine et_if_eq (pc := 13) (tgt := 28) d_Reader_readItem_13 (by decide) (fun hj29 => ?_) (fun hj29 => ?_)
    · rw [if_pos hj29] at hp
      refine ev_sub (ls2 := []) [] rfl ?_
      exact e_Reader_readItem_28 t ok  hQ    x27.2.1 x27.2.2 hp
    · rw [if_neg hj29] at hp
      refine et_aload_n (pc := 16) d_Reader_readItem_16 rfl rfl ?_
      refine et_geti (pc := 17) ok (fl_Reader_15 t) rfl d_Reader_readItem_17 s_54 ?_
      refine ev_bipush (pc := 20) d_Reader_readItem_20 rfl ?_
      replace hp := q_bind hp
      obtain ⟨x30, hm31, hp⟩ := hp
      refine et_callSi (pc := 22) (f1 := x30.2.1) (g1 := x30.2.2) ok [ma_i (x27.2.1 54 3), ma_i (64)] [] (cf_Reader_126 t) d_Reader_readItem_22 (t_Desk_isAlignment t ok (x27.2.1 54 3) (64) x27.2.1 x27.2.2 hm31 ⟨rfl, rfl⟩) rfl rfl (by decide) (by decide) (q_ble rfl) ?_
      refine et_if_ne (pc := 25) (tgt := 30) d_Reader_readItem_25 (by decide) (fun hj32 => ?_) (fun hj32 => ?_)
      · rw [if_neg hj32] at hp
        refine et_aload_n (pc := 30) d_Reader_readItem_30 rfl rfl ?_
        refine et_getr (pc := 31) ok (fl_Reader_22 t) rfl d_Reader_readItem_31 s_54 r_54_1 ?_
        refine et_getr (pc := 34) ok (fl_Reader_110 t) rfl d_Reader_readItem_34 s_3 r_3_4 ?_
        refine ev_iconst (pc := 37) d_Reader_readItem_37 ?_
        refine et_aload_n (pc := 38) d_Reader_readItem_38 rfl rfl ?_
        refine et_geti (pc := 39) ok (fl_Reader_15 t) rfl d_Reader_readItem_39 s_54 ?_
        replace hp := q_bind hp
        obtain ⟨x33, hm34, hp⟩ := hp
        refine et_callVv (pc := 42) (f1 := x33.1) (g1 := x33.2) ok [ma_i (1), ma_i (x30.2.1 54 3)] [] (cf_Reader_130 t) d_Reader_readItem_42 s_8 k_6 rfl (t_Rows_add_8 t ok (1) (x30.2.1 54 3) x30.2.1 x30.2.2 hm34 ⟨rfl, rfl⟩) rfl rfl (by decide) (by decide) (q_ble rfl) ?_
        refine ev_iconst (pc := 45) d_Reader_readItem_45 ?_
        cases Option.some.inj hp
        exact et_zret (pc := 46) d_Reader_readItem_46 rfl (by decide) hQ
      · rw [if_pos hj32] at hp
        refine ev_sub (ls2 := []) [] rfl ?_
        exact e_Reader_readItem_28 t ok  hQ    x30.2.1 x30.2.2 hp
theorem d_Reader_readItems_0 : decode (m_c m_Reader_readItems) 0 = .ok (.aload_n 1, 1) := by decide +kernel
theorem d_Reader_readItems_1 : decode (m_c m_Reader_readItems) 1 = .ok (.aload_n 0, 1) := by decide +kernel
theorem d_Reader_readItems_2 : decode (m_c m_Reader_readItems) 2 = .ok (.getfield 22, 3) := by decide +kernel
theorem d_Reader_readItems_5 : decode (m_c m_Reader_readItems) 5 = .ok (.getfield 110, 3) := by decide +kernel
theorem d_Reader_readItems_8 : decode (m_c m_Reader_readItems) 8 = .ok (.getfield 89, 3) := by decide +kernel
theorem d_Reader_readItems_11 : decode (m_c m_Reader_readItems) 11 = .ok (.putfield 113, 3) := by decide +kernel
theorem d_Reader_readItems_14 : decode (m_c m_Reader_readItems) 14 = .ok (.iconst 0, 1) := by decide +kernel
theorem d_Reader_readItems_15 : decode (m_c m_Reader_readItems) 15 = .ok (.istore_n 2, 1) := by decide +kernel
theorem d_Reader_readItems_16 : decode (m_c m_Reader_readItems) 16 = .ok (.iload_n 2, 1) := by decide +kernel
theorem d_Reader_readItems_17 : decode (m_c m_Reader_readItems) 17 = .ok (.sipush 160, 3) := by decide +kernel
theorem d_Reader_readItems_20 : decode (m_c m_Reader_readItems) 20 = .ok (.if_icmp .ge 27, 3) := by decide +kernel
theorem d_Reader_readItems_23 : decode (m_c m_Reader_readItems) 23 = .ok (.aload_n 0, 1) := by decide +kernel
theorem d_Reader_readItems_24 : decode (m_c m_Reader_readItems) 24 = .ok (.invokevirtual 116, 3) := by decide +kernel
theorem d_Reader_readItems_27 : decode (m_c m_Reader_readItems) 27 = .ok (.bipush 125, 2) := by decide +kernel
theorem d_Reader_readItems_29 : decode (m_c m_Reader_readItems) 29 = .ok (.if_icmp .eq 18, 3) := by decide +kernel
theorem d_Reader_readItems_32 : decode (m_c m_Reader_readItems) 32 = .ok (.aload_n 0, 1) := by decide +kernel
theorem d_Reader_readItems_33 : decode (m_c m_Reader_readItems) 33 = .ok (.invokevirtual 120, 3) := by decide +kernel
theorem d_Reader_readItems_36 : decode (m_c m_Reader_readItems) 36 = .ok (.ifCond .ne 5, 3) := by decide +kernel
theorem d_Reader_readItems_39 : decode (m_c m_Reader_readItems) 39 = .ok (.iconst 0, 1) := by decide +kernel
theorem d_Reader_readItems_40 : decode (m_c m_Reader_readItems) 40 = .ok (.ireturn, 1) := by decide +kernel
theorem d_Reader_readItems_41 : decode (m_c m_Reader_readItems) 41 = .ok (.iinc 2 1, 3) := by decide +kernel
theorem d_Reader_readItems_44 : decode (m_c m_Reader_readItems) 44 = .ok (.goto (-28), 3) := by decide +kernel
theorem d_Reader_readItems_47 : decode (m_c m_Reader_readItems) 47 = .ok (.aload_n 1, 1) := by decide +kernel
theorem d_Reader_readItems_48 : decode (m_c m_Reader_readItems) 48 = .ok (.aload_n 0, 1) := by decide +kernel
theorem d_Reader_readItems_49 : decode (m_c m_Reader_readItems) 49 = .ok (.getfield 22, 3) := by decide +kernel
theorem d_Reader_readItems_52 : decode (m_c m_Reader_readItems) 52 = .ok (.getfield 110, 3) := by decide +kernel
theorem d_Reader_readItems_55 : decode (m_c m_Reader_readItems) 55 = .ok (.getfield 89, 3) := by decide +kernel
theorem d_Reader_readItems_58 : decode (m_c m_Reader_readItems) 58 = .ok (.putfield 123, 3) := by decide +kernel
theorem d_Reader_readItems_61 : decode (m_c m_Reader_readItems) 61 = .ok (.iconst 1, 1) := by decide +kernel
theorem d_Reader_readItems_62 : decode (m_c m_Reader_readItems) 62 = .ok (.ireturn, 1) := by decide +kernel
def p_Reader_readItems_47   (a1 : Nat) (f g : q_F) : Option (Int × q_F × q_F) :=
  if 28 ≤ a1 ∧ a1 < 36 then
    q_let (ma_up f a1 5 (f 8 2)) fun f1 =>
    some (1, f1, g)
  else none
def p_Reader_readItems_16   : Nat → Nat → Int → q_F → q_F → Option (Int × q_F × q_F)
  | 0, _, _, _, _ => none
  | n + 1, a1, v2, f, g =>
    if 28 ≤ a1 ∧ a1 < 36 then
      if q_sw 160 ≤ q_sw v2 then
        p_Reader_readItems_47   (a1) f g
      else
        (p_Reader_here  f g).bind fun x2 =>
        if q_sw x2.1 = q_sw 125 then
          p_Reader_readItems_47   (a1) x2.2.1 x2.2.2
        else
          (p_Reader_readItem  x2.2.1 x2.2.2).bind fun x5 =>
          if q_sw x5.1 = 0 then
            some (0, x5.2.1, x5.2.2)
          else
            q_let (v2 + 1) fun z8 =>
            (p_Reader_readItems_16   n) (a1) (z8) x5.2.1 x5.2.2
    else none
def p_Reader_readItems  (a1 : Nat) (f g : q_F) : Option (Int × q_F × q_F) :=
  if 28 ≤ a1 ∧ a1 < 36 then
    q_let (ma_up f a1 4 (f 8 2)) fun f1 =>
    p_Reader_readItems_16   1000 (a1) (0) f1 g
  else none
theorem e_Reader_readItems_47 (t : q_V) (ok : ma_ok (q_G t))  {Q : Option Value → ma_H → Prop} {y : Int × q_F × q_F} (hQ : Q (some (ma_i y.1)) (q_h y.2.1 y.2.2))   (a1 : Nat) (f g : q_F) (hp : p_Reader_readItems_47   a1 f g = some y) : ma_Ev (q_G t) 3 64 0 0 m_Reader_readItems 47 [(0, q_a t (54)), (1, q_a t (a1))] [] (q_h f g) (ma_zr (q_G t) false Q) := by
  unfold p_Reader_readItems_47 at hp
  replace hp := q_if hp
  obtain ⟨hb_a1, hp⟩ := hp
  refine et_aload_n (pc := 47) d_Reader_readItems_47 rfl rfl ?_
  refine et_aload_n (pc := 48) d_Reader_readItems_48 rfl rfl ?_
  refine et_getr (pc := 49) ok (fl_Reader_22 t) rfl d_Reader_readItems_49 s_54 r_54_1 ?_
  refine et_getr (pc := 52) ok (fl_Reader_110 t) rfl d_Reader_readItems_52 s_3 r_3_4 ?_
  refine et_geti (pc := 55) ok (fl_Reader_89 t) rfl d_Reader_readItems_55 s_8 ?_
  refine et_puti (pc := 58) ok (fl_Reader_123 t) d_Reader_readItems_58 (s_28 _ (by omega) (by omega)) ?_
  replace hp := q_let_of hp
  obtain ⟨f1, hz, hp⟩ := hp
  rw [← hz]
  clear hz
  refine ev_iconst (pc := 61) d_Reader_readItems_61 ?_
  cases Option.some.inj hp
  exact et_zret (pc := 62) d_Reader_readItems_62 rfl (by decide) hQ
theorem e_Reader_readItems_16 (t : q_V) (ok : ma_ok (q_G t))  {Q : Option Value → ma_H → Prop} {y : Int × q_F × q_F} (hQ : Q (some (ma_i y.1)) (q_h y.2.1 y.2.2))   : ∀ (n : Nat) (a1 : Nat) (v2 : Int) (f g : q_F), p_Reader_readItems_16   n a1 v2 f g = some y → ma_Ev (q_G t) 3 64 0 0 m_Reader_readItems 16 [(0, q_a t (54)), (1, q_a t (a1)), (2, ma_i (v2))] [] (q_h f g) (ma_zr (q_G t) false Q) := by
  intro n
  induction n with
  | zero =>
    intro a1 v2 f g hp
    rw [p_Reader_readItems_16] at hp
    cases hp
  | succ n ih =>
    intro a1 v2 f g hp
    rw [p_Reader_readItems_16] at hp
    replace hp := q_if hp
    obtain ⟨hb_a1, hp⟩ := hp
    refine ev_iload_n (pc := 16) d_Reader_readItems_16 rfl rfl ?_
    refine ev_sipush (pc := 17) d_Reader_readItems_17 rfl ?_
    refine et_icmp_ge (pc := 20) (tgt := 47) d_Reader_readItems_20 (by decide) (fun hj1 => ?_) (fun hj1 => ?_)
    · rw [if_pos hj1] at hp
      refine ev_sub (ls2 := [(0, q_a t (54)), (1, q_a t (a1))]) [0, 1] rfl ?_
      exact e_Reader_readItems_47 t ok  hQ   (a1) f g hp
    · rw [if_neg hj1] at hp
      refine et_aload_n (pc := 23) d_Reader_readItems_23 rfl rfl ?_
      replace hp := q_bind hp
      obtain ⟨x2, hm3, hp⟩ := hp
      refine et_callVi (pc := 24) (f1 := x2.2.1) (g1 := x2.2.2) ok [] [] (cf_Reader_116 t) d_Reader_readItems_24 s_54 k_8 rfl (t_Reader_here t ok  f g hm3 ⟨rfl, rfl⟩) rfl rfl (by decide) (by decide) (q_ble rfl) ?_
      refine ev_bipush (pc := 27) d_Reader_readItems_27 rfl ?_
      refine et_icmp_eq (pc := 29) (tgt := 47) d_Reader_readItems_29 (by decide) (fun hj4 => ?_) (fun hj4 => ?_)
      · rw [if_pos hj4] at hp
        refine ev_sub (ls2 := [(0, q_a t (54)), (1, q_a t (a1))]) [0, 1] rfl ?_
        exact e_Reader_readItems_47 t ok  hQ   (a1) x2.2.1 x2.2.2 hp
      · rw [if_neg hj4] at hp
        refine et_aload_n (pc := 32) d_Reader_readItems_32 rfl rfl ?_
        replace hp := q_bind hp
        obtain ⟨x5, hm6, hp⟩ := hp
        refine et_callVi (pc := 33) (f1 := x5.2.1) (g1 := x5.2.2) ok [] [] (cf_Reader_120 t) d_Reader_readItems_33 s_54 k_8 rfl (t_Reader_readItem t ok  x2.2.1 x2.2.2 hm6 ⟨rfl, rfl⟩) rfl rfl (by decide) (by decide) (q_ble rfl) ?_
        refine et_if_ne (pc := 36) (tgt := 41) d_Reader_readItems_36 (by decide) (fun hj7 => ?_) (fun hj7 => ?_)
        · rw [if_neg hj7] at hp
          refine ev_iinc (pc := 41) d_Reader_readItems_41 (by decide) rfl [(2, _), (0, _), (1, _)] rfl ?_
          replace hp := q_let_of hp
          obtain ⟨z8, hz, hp⟩ := hp
          rw [← hz]
          clear hz
          refine ev_goto (pc := 44) (tgt := 16) d_Reader_readItems_44 (by decide) ?_
          refine ev_sub (ls2 := [(0, q_a t (54)), (1, q_a t (a1)), (2, ma_i (z8))]) [1, 2, 0] rfl ?_
          exact ih (a1) (z8) x5.2.1 x5.2.2 hp
        · rw [if_pos hj7] at hp
          refine ev_iconst (pc := 39) d_Reader_readItems_39 ?_
          cases Option.some.inj hp
          exact et_zret (pc := 40) d_Reader_readItems_40 rfl (by decide) hQ
theorem t_Reader_readItems (t : q_V) (ok : ma_ok (q_G t))  {Q : Option Value → ma_H → Prop} {y : Int × q_F × q_F} (a1 : Nat) (f g : q_F) (hp : p_Reader_readItems  a1 f g = some y) (hQ : Q (some (ma_i y.1)) (q_h y.2.1 y.2.2)) : ma_Met (q_G t) false 3 64 0 0 m_Reader_readItems [q_a t (54), q_a t (a1)] (q_h f g) Q := by
  refine ma_met (by decide +kernel) (q_ble rfl) rfl ?_
  change ma_Ev (q_G t) 3 64 0 0 m_Reader_readItems 0 [(0, q_a t (54)), (1, q_a t (a1))] [] (q_h f g) (ma_zr (q_G t) false Q)
  unfold p_Reader_readItems at hp
  replace hp := q_if hp
  obtain ⟨hb_a1, hp⟩ := hp
  refine et_aload_n (pc := 0) d_Reader_readItems_0 rfl rfl ?_
  refine et_aload_n (pc := 1) d_Reader_readItems_1 rfl rfl ?_
  refine et_getr (pc := 2) ok (fl_Reader_22 t) rfl d_Reader_readItems_2 s_54 r_54_1 ?_
  refine et_getr (pc := 5) ok (fl_Reader_110 t) rfl d_Reader_readItems_5 s_3 r_3_4 ?_
  refine et_geti (pc := 8) ok (fl_Reader_89 t) rfl d_Reader_readItems_8 s_8 ?_
  refine et_puti (pc := 11) ok (fl_Reader_113 t) d_Reader_readItems_11 (s_28 _ (by omega) (by omega)) ?_
  replace hp := q_let_of hp
  obtain ⟨f1, hz, hp⟩ := hp
  rw [← hz]
  clear hz
  refine ev_iconst (pc := 14) d_Reader_readItems_14 ?_
  refine ev_istore_n (pc := 15) d_Reader_readItems_15 rfl (by decide) [(2, _), (0, _), (1, _)] rfl ?_
  refine ev_sub (ls2 := [(0, q_a t (54)), (1, q_a t (a1)), (2, ma_i (0))]) [1, 2, 0] rfl ?_
  exact e_Reader_readItems_16 t ok  hQ   1000 (a1) (0) f1 g hp
theorem d_Reader_readHomes_0 : decode (m_c m_Reader_readHomes) 0 = .ok (.aload_n 0, 1) := by decide +kernel
theorem d_Reader_readHomes_1 : decode (m_c m_Reader_readHomes) 1 = .ok (.bipush 65, 2) := by decide +kernel
theorem d_Reader_readHomes_3 : decode (m_c m_Reader_readHomes) 3 = .ok (.iconst 4, 1) := by decide +kernel
theorem d_Reader_readHomes_4 : decode (m_c m_Reader_readHomes) 4 = .ok (.invokevirtual 50, 3) := by decide +kernel
theorem d_Reader_readHomes_7 : decode (m_c m_Reader_readHomes) 7 = .ok (.istore_n 2, 1) := by decide +kernel
theorem d_Reader_readHomes_8 : decode (m_c m_Reader_readHomes) 8 = .ok (.iload_n 2, 1) := by decide +kernel
theorem d_Reader_readHomes_9 : decode (m_c m_Reader_readHomes) 9 = .ok (.ifCond .lt 18, 3) := by decide +kernel
theorem d_Reader_readHomes_12 : decode (m_c m_Reader_readHomes) 12 = .ok (.aload_n 0, 1) := by decide +kernel
theorem d_Reader_readHomes_13 : decode (m_c m_Reader_readHomes) 13 = .ok (.getfield 22, 3) := by decide +kernel
theorem d_Reader_readHomes_16 : decode (m_c m_Reader_readHomes) 16 = .ok (.getfield 54, 3) := by decide +kernel
theorem d_Reader_readHomes_19 : decode (m_c m_Reader_readHomes) 19 = .ok (.iload_n 2, 1) := by decide +kernel
theorem d_Reader_readHomes_20 : decode (m_c m_Reader_readHomes) 20 = .ok (.aaload, 1) := by decide +kernel
theorem d_Reader_readHomes_21 : decode (m_c m_Reader_readHomes) 21 = .ok (.getfield 58, 3) := by decide +kernel
theorem d_Reader_readHomes_24 : decode (m_c m_Reader_readHomes) 24 = .ok (.ifCond .ne 5, 3) := by decide +kernel
theorem d_Reader_readHomes_27 : decode (m_c m_Reader_readHomes) 27 = .ok (.iconst 0, 1) := by decide +kernel
theorem d_Reader_readHomes_28 : decode (m_c m_Reader_readHomes) 28 = .ok (.ireturn, 1) := by decide +kernel
theorem d_Reader_readHomes_29 : decode (m_c m_Reader_readHomes) 29 = .ok (.aload_n 0, 1) := by decide +kernel
theorem d_Reader_readHomes_30 : decode (m_c m_Reader_readHomes) 30 = .ok (.dup, 1) := by decide +kernel
theorem d_Reader_readHomes_31 : decode (m_c m_Reader_readHomes) 31 = .ok (.getfield 9, 3) := by decide +kernel
theorem d_Reader_readHomes_34 : decode (m_c m_Reader_readHomes) 34 = .ok (.iconst 1, 1) := by decide +kernel
theorem d_Reader_readHomes_35 : decode (m_c m_Reader_readHomes) 35 = .ok (.iadd, 1) := by decide +kernel
theorem d_Reader_readHomes_36 : decode (m_c m_Reader_readHomes) 36 = .ok (.putfield 9, 3) := by decide +kernel
theorem d_Reader_readHomes_39 : decode (m_c m_Reader_readHomes) 39 = .ok (.aload_n 1, 1) := by decide +kernel
theorem d_Reader_readHomes_40 : decode (m_c m_Reader_readHomes) 40 = .ok (.iload_n 2, 1) := by decide +kernel
theorem d_Reader_readHomes_41 : decode (m_c m_Reader_readHomes) 41 = .ok (.putfield 150, 3) := by decide +kernel
theorem d_Reader_readHomes_44 : decode (m_c m_Reader_readHomes) 44 = .ok (.aload_n 0, 1) := by decide +kernel
theorem d_Reader_readHomes_45 : decode (m_c m_Reader_readHomes) 45 = .ok (.bipush 33, 2) := by decide +kernel
theorem d_Reader_readHomes_47 : decode (m_c m_Reader_readHomes) 47 = .ok (.invokevirtual 36, 3) := by decide +kernel
theorem d_Reader_readHomes_50 : decode (m_c m_Reader_readHomes) 50 = .ok (.ifCond .eq 11, 3) := by decide +kernel
theorem d_Reader_readHomes_53 : decode (m_c m_Reader_readHomes) 53 = .ok (.aload_n 1, 1) := by decide +kernel
theorem d_Reader_readHomes_54 : decode (m_c m_Reader_readHomes) 54 = .ok (.iconst 0, 1) := by decide +kernel
theorem d_Reader_readHomes_55 : decode (m_c m_Reader_readHomes) 55 = .ok (.putfield 153, 3) := by decide +kernel
theorem d_Reader_readHomes_58 : decode (m_c m_Reader_readHomes) 58 = .ok (.goto 61, 3) := by decide +kernel
theorem d_Reader_readHomes_61 : decode (m_c m_Reader_readHomes) 61 = .ok (.aload_n 0, 1) := by decide +kernel
theorem d_Reader_readHomes_62 : decode (m_c m_Reader_readHomes) 62 = .ok (.bipush 94, 2) := by decide +kernel
theorem d_Reader_readHomes_64 : decode (m_c m_Reader_readHomes) 64 = .ok (.invokevirtual 36, 3) := by decide +kernel
theorem d_Reader_readHomes_67 : decode (m_c m_Reader_readHomes) 67 = .ok (.ifCond .eq 52, 3) := by decide +kernel
theorem d_Reader_readHomes_70 : decode (m_c m_Reader_readHomes) 70 = .ok (.aload_n 0, 1) := by decide +kernel
theorem d_Reader_readHomes_71 : decode (m_c m_Reader_readHomes) 71 = .ok (.bipush 65, 2) := by decide +kernel
theorem d_Reader_readHomes_73 : decode (m_c m_Reader_readHomes) 73 = .ok (.iconst 4, 1) := by decide +kernel
theorem d_Reader_readHomes_74 : decode (m_c m_Reader_readHomes) 74 = .ok (.invokevirtual 50, 3) := by decide +kernel
theorem d_Reader_readHomes_77 : decode (m_c m_Reader_readHomes) 77 = .ok (.istore_n 3, 1) := by decide +kernel
theorem d_Reader_readHomes_78 : decode (m_c m_Reader_readHomes) 78 = .ok (.iload_n 3, 1) := by decide +kernel
theorem d_Reader_readHomes_79 : decode (m_c m_Reader_readHomes) 79 = .ok (.ifCond .lt 23, 3) := by decide +kernel
theorem d_Reader_readHomes_82 : decode (m_c m_Reader_readHomes) 82 = .ok (.iload_n 3, 1) := by decide +kernel
theorem d_Reader_readHomes_83 : decode (m_c m_Reader_readHomes) 83 = .ok (.iload_n 2, 1) := by decide +kernel
theorem d_Reader_readHomes_84 : decode (m_c m_Reader_readHomes) 84 = .ok (.if_icmp .eq 18, 3) := by decide +kernel
theorem d_Reader_readHomes_87 : decode (m_c m_Reader_readHomes) 87 = .ok (.aload_n 0, 1) := by decide +kernel
theorem d_Reader_readHomes_88 : decode (m_c m_Reader_readHomes) 88 = .ok (.getfield 22, 3) := by decide +kernel
theorem d_Reader_readHomes_91 : decode (m_c m_Reader_readHomes) 91 = .ok (.getfield 54, 3) := by decide +kernel
theorem d_Reader_readHomes_94 : decode (m_c m_Reader_readHomes) 94 = .ok (.iload_n 3, 1) := by decide +kernel
theorem d_Reader_readHomes_95 : decode (m_c m_Reader_readHomes) 95 = .ok (.aaload, 1) := by decide +kernel
theorem d_Reader_readHomes_96 : decode (m_c m_Reader_readHomes) 96 = .ok (.getfield 58, 3) := by decide +kernel
theorem d_Reader_readHomes_99 : decode (m_c m_Reader_readHomes) 99 = .ok (.ifCond .ne 5, 3) := by decide +kernel
theorem d_Reader_readHomes_102 : decode (m_c m_Reader_readHomes) 102 = .ok (.iconst 0, 1) := by decide +kernel
theorem d_Reader_readHomes_103 : decode (m_c m_Reader_readHomes) 103 = .ok (.ireturn, 1) := by decide +kernel
theorem d_Reader_readHomes_104 : decode (m_c m_Reader_readHomes) 104 = .ok (.aload_n 0, 1) := by decide +kernel
theorem d_Reader_readHomes_105 : decode (m_c m_Reader_readHomes) 105 = .ok (.dup, 1) := by decide +kernel
theorem d_Reader_readHomes_106 : decode (m_c m_Reader_readHomes) 106 = .ok (.getfield 9, 3) := by decide +kernel
theorem d_Reader_readHomes_109 : decode (m_c m_Reader_readHomes) 109 = .ok (.iconst 1, 1) := by decide +kernel
theorem d_Reader_readHomes_110 : decode (m_c m_Reader_readHomes) 110 = .ok (.iadd, 1) := by decide +kernel
theorem d_Reader_readHomes_111 : decode (m_c m_Reader_readHomes) 111 = .ok (.putfield 9, 3) := by decide +kernel
theorem d_Reader_readHomes_114 : decode (m_c m_Reader_readHomes) 114 = .ok (.aload_n 1, 1) := by decide +kernel
theorem d_Reader_readHomes_115 : decode (m_c m_Reader_readHomes) 115 = .ok (.iload_n 3, 1) := by decide +kernel
theorem d_Reader_readHomes_116 : decode (m_c m_Reader_readHomes) 116 = .ok (.putfield 156, 3) := by decide +kernel
theorem d_Reader_readHomes_119 : decode (m_c m_Reader_readHomes) 119 = .ok (.iconst 1, 1) := by decide +kernel
theorem d_Reader_readHomes_120 : decode (m_c m_Reader_readHomes) 120 = .ok (.ireturn, 1) := by decide +kernel
def p_Reader_readHomes_119    (f g : q_F) : Option (Int × q_F × q_F) :=
  some (1, f, g)
def p_Reader_readHomes_102    (f g : q_F) : Option (Int × q_F × q_F) :=
  some (0, f, g)
def p_Reader_readHomes_27    (f g : q_F) : Option (Int × q_F × q_F) :=
  some (0, f, g)
def p_Reader_readHomes  (a1 : Nat) (f g : q_F) : Option (Int × q_F × q_F) :=
  if 28 ≤ a1 ∧ a1 < 36 then
    (p_Reader_letter (65) (4) f g).bind fun x1 =>
    if q_sw x1.1 < 0 then
      p_Reader_readHomes_27    x1.2.1 x1.2.2
    else
      if 0 ≤ x1.1 ∧ x1.1 < 4 then
        if q_sw (x1.2.1 (24 + Int.toNat x1.1) 0) = 0 then
          p_Reader_readHomes_27    x1.2.1 x1.2.2
        else
          q_let (ma_up x1.2.1 54 2 ((x1.2.1 54 2) + 1)) fun f6 =>
          q_let (ma_up f6 a1 6 x1.1) fun f7 =>
          (p_Reader_skip (33) f7 x1.2.2).bind fun x8 =>
          if q_sw x8.1 = 0 then
            (p_Reader_skip (94) x8.2.1 x8.2.2).bind fun x11 =>
            if q_sw x11.1 = 0 then
              p_Reader_readHomes_119    x11.2.1 x11.2.2
            else
              (p_Reader_letter (65) (4) x11.2.1 x11.2.2).bind fun x14 =>
              if q_sw x14.1 < 0 then
                p_Reader_readHomes_102    x14.2.1 x14.2.2
              else
                if q_sw x14.1 = q_sw x1.1 then
                  p_Reader_readHomes_102    x14.2.1 x14.2.2
                else
                  if 0 ≤ x14.1 ∧ x14.1 < 4 then
                    if q_sw (x14.2.1 (24 + Int.toNat x14.1) 0) = 0 then
                      p_Reader_readHomes_102    x14.2.1 x14.2.2
                    else
                      q_let (ma_up x14.2.1 54 2 ((x14.2.1 54 2) + 1)) fun f20 =>
                      q_let (ma_up f20 a1 8 x14.1) fun f21 =>
                      p_Reader_readHomes_119    f21 x14.2.2
                  else none
          else
            q_let (ma_up x8.2.1 a1 7 0) fun f22 =>
            p_Reader_readHomes_119    f22 x8.2.2
      else none
  else none
theorem e_Reader_readHomes_119 (t : q_V) (ok : ma_ok (q_G t))  {Q : Option Value → ma_H → Prop} {y : Int × q_F × q_F} (hQ : Q (some (ma_i y.1)) (q_h y.2.1 y.2.2))    (f g : q_F) (hp : p_Reader_readHomes_119    f g = some y) : ma_Ev (q_G t) 2 43 0 0 m_Reader_readHomes 119 [] [] (q_h f g) (ma_zr (q_G t) false Q) := by
  unfold p_Reader_readHomes_119 at hp
  refine ev_iconst (pc := 119) d_Reader_readHomes_119 ?_
  cases Option.some.inj hp
  exact et_zret (pc := 120) d_Reader_readHomes_120 rfl (by decide) hQ
theorem e_Reader_readHomes_102 (t : q_V) (ok : ma_ok (q_G t))  {Q : Option Value → ma_H → Prop} {y : Int × q_F × q_F} (hQ : Q (some (ma_i y.1)) (q_h y.2.1 y.2.2))    (f g : q_F) (hp : p_Reader_readHomes_102    f g = some y) : ma_Ev (q_G t) 2 43 0 0 m_Reader_readHomes 102 [] [] (q_h f g) (ma_zr (q_G t) false Q) := by
  unfold p_Reader_readHomes_102 at hp
  refine ev_iconst (pc := 102) d_Reader_readHomes_102 ?_
  cases Option.some.inj hp
  exact et_zret (pc := 103) d_Reader_readHomes_103 rfl (by decide) hQ
theorem e_Reader_readHomes_27 (t : q_V) (ok : ma_ok (q_G t))  {Q : Option Value → ma_H → Prop} {y : Int × q_F × q_F} (hQ : Q (some (ma_i y.1)) (q_h y.2.1 y.2.2))    (f g : q_F) (hp : p_Reader_readHomes_27    f g = some y) : ma_Ev (q_G t) 2 43 0 0 m_Reader_readHomes 27 [] [] (q_h f g) (ma_zr (q_G t) false Q) := by
  unfold p_Reader_readHomes_27 at hp
  refine ev_iconst (pc := 27) d_Reader_readHomes_27 ?_
  cases Option.some.inj hp
  exact et_zret (pc := 28) d_Reader_readHomes_28 rfl (by decide) hQ
theorem t_Reader_readHomes (t : q_V) (ok : ma_ok (q_G t))  {Q : Option Value → ma_H → Prop} {y : Int × q_F × q_F} (a1 : Nat) (f g : q_F) (hp : p_Reader_readHomes  a1 f g = some y) (hQ : Q (some (ma_i y.1)) (q_h y.2.1 y.2.2)) : ma_Met (q_G t) false 2 43 0 0 m_Reader_readHomes [q_a t (54), q_a t (a1)] (q_h f g) Q := by
  refine ma_met (by decide +kernel) (q_ble rfl) rfl ?_
  change ma_Ev (q_G t) 2 43 0 0 m_Reader_readHomes 0 [(0, q_a t (54)), (1, q_a t (a1))] [] (q_h f g) (ma_zr (q_G t) false Q)
  unfold p_Reader_readHomes at hp
  replace hp := q_if hp
  obtain ⟨hb_a1, hp⟩ := hp
  refine et_aload_n (pc := 0) d_Reader_readHomes_0 rfl rfl ?_
  refine ev_bipush (pc := 1) d_Reader_readHomes_1 rfl ?_
  refine ev_iconst (pc := 3) d_Reader_readHomes_3 ?_
  replace hp := q_bind hp
  obtain ⟨x1, hm2, hp⟩ := hp
  refine et_callVi (pc := 4) (f1 := x1.2.1) (g1 := x1.2.2) ok [ma_i (65), ma_i (4)] [] (cf_Reader_50 t) d_Reader_readHomes_4 s_54 k_8 rfl (t_Reader_letter t ok (65) (4) f g hm2 ⟨rfl, rfl⟩) rfl rfl (by decide) (by decide) (q_ble rfl) ?_
  refine ev_istore_n (pc := 7) d_Reader_readHomes_7 rfl (by decide) [(2, _), (0, _), (1, _)] rfl ?_
  refine ev_iload_n (pc := 8) d_Reader_readHomes_8 rfl rfl ?_
  refine et_if_lt (pc := 9) (tgt := 27) d_Reader_readHomes_9 (by decide) (fun hj3 => ?_) (fun hj3 => ?_)
  · rw [if_pos hj3] at hp
    refine ev_sub (ls2 := []) [] rfl ?_
    exact e_Reader_readHomes_27 t ok  hQ    x1.2.1 x1.2.2 hp
  · rw [if_neg hj3] at hp
    refine et_aload_n (pc := 12) d_Reader_readHomes_12 rfl rfl ?_
    refine et_getr (pc := 13) ok (fl_Reader_22 t) rfl d_Reader_readHomes_13 s_54 r_54_1 ?_
    refine et_getr (pc := 16) ok (fl_Reader_54 t) rfl d_Reader_readHomes_16 s_3 r_3_1 ?_
    refine ev_iload_n (pc := 19) d_Reader_readHomes_19 rfl rfl ?_
    replace hp := q_if hp
    obtain ⟨hb4, hp⟩ := hp
    refine et_aald (pc := 20) d_Reader_readHomes_20 s_5 hb4 (by decide) (r_5 _ (by omega)) ?_
    refine et_geti (pc := 21) ok (fl_Reader_58 t) rfl d_Reader_readHomes_21 (s_24 _ (by omega) (by omega)) ?_
    refine et_if_ne (pc := 24) (tgt := 29) d_Reader_readHomes_24 (by decide) (fun hj5 => ?_) (fun hj5 => ?_)
    · rw [if_neg hj5] at hp
      refine et_aload_n (pc := 29) d_Reader_readHomes_29 rfl rfl ?_
      refine ev_dup (pc := 30) d_Reader_readHomes_30 rfl ?_
      refine et_geti (pc := 31) ok (fl_Reader_9 t) rfl d_Reader_readHomes_31 s_54 ?_
      refine ev_iconst (pc := 34) d_Reader_readHomes_34 ?_
      refine ev_iadd (pc := 35) d_Reader_readHomes_35 ?_
      refine et_puti (pc := 36) ok (fl_Reader_9 t) d_Reader_readHomes_36 s_54 ?_
      replace hp := q_let_of hp
      obtain ⟨f6, hz, hp⟩ := hp
      rw [← hz]
      clear hz
      refine et_aload_n (pc := 39) d_Reader_readHomes_39 rfl rfl ?_
      refine ev_iload_n (pc := 40) d_Reader_readHomes_40 rfl rfl ?_
      refine et_puti (pc := 41) ok (fl_Reader_150 t) d_Reader_readHomes_41 (s_28 _ (by omega) (by omega)) ?_
      replace hp := q_let_of hp
      obtain ⟨f7, hz, hp⟩ := hp
      rw [← hz]
      clear hz
      refine et_aload_n (pc := 44) d_Reader_readHomes_44 rfl rfl ?_
      refine ev_bipush (pc := 45) d_Reader_readHomes_45 rfl ?_
      replace hp := q_bind hp
      obtain ⟨x8, hm9, hp⟩ := hp
      refine et_callVi (pc := 47) (f1 := x8.2.1) (g1 := x8.2.2) ok [ma_i (33)] [] (cf_Reader_36 t) d_Reader_readHomes_47 s_54 k_8 rfl (t_Reader_skip t ok (33) f7 x1.2.2 hm9 ⟨rfl, rfl⟩) rfl rfl (by decide) (by decide) (q_ble rfl) ?_
      refine et_if_eq (pc := 50) (tgt := 61) d_Reader_readHomes_50 (by decide) (fun hj10 => ?_) (fun hj10 => ?_)
      · rw [if_pos hj10] at hp
        refine et_aload_n (pc := 61) d_Reader_readHomes_61 rfl rfl ?_
        refine ev_bipush (pc := 62) d_Reader_readHomes_62 rfl ?_
        replace hp := q_bind hp
        obtain ⟨x11, hm12, hp⟩ := hp
        refine et_callVi (pc := 64) (f1 := x11.2.1) (g1 := x11.2.2) ok [ma_i (94)] [] (cf_Reader_36 t) d_Reader_readHomes_64 s_54 k_8 rfl (t_Reader_skip t ok (94) x8.2.1 x8.2.2 hm12 ⟨rfl, rfl⟩) rfl rfl (by decide) (by decide) (q_ble rfl) ?_
        refine et_if_eq (pc := 67) (tgt := 119) d_Reader_readHomes_67 (by decide) (fun hj13 => ?_) (fun hj13 => ?_)
        · rw [if_pos hj13] at hp
          refine ev_sub (ls2 := []) [] rfl ?_
          exact e_Reader_readHomes_119 t ok  hQ    x11.2.1 x11.2.2 hp
        · rw [if_neg hj13] at hp
          refine et_aload_n (pc := 70) d_Reader_readHomes_70 rfl rfl ?_
          refine ev_bipush (pc := 71) d_Reader_readHomes_71 rfl ?_
          refine ev_iconst (pc := 73) d_Reader_readHomes_73 ?_
          replace hp := q_bind hp
          obtain ⟨x14, hm15, hp⟩ := hp
          refine et_callVi (pc := 74) (f1 := x14.2.1) (g1 := x14.2.2) ok [ma_i (65), ma_i (4)] [] (cf_Reader_50 t) d_Reader_readHomes_74 s_54 k_8 rfl (t_Reader_letter t ok (65) (4) x11.2.1 x11.2.2 hm15 ⟨rfl, rfl⟩) rfl rfl (by decide) (by decide) (q_ble rfl) ?_
          refine ev_istore_n (pc := 77) d_Reader_readHomes_77 rfl (by decide) [(3, _), (2, _), (0, _), (1, _)] rfl ?_
          refine ev_iload_n (pc := 78) d_Reader_readHomes_78 rfl rfl ?_
          refine et_if_lt (pc := 79) (tgt := 102) d_Reader_readHomes_79 (by decide) (fun hj16 => ?_) (fun hj16 => ?_)
          · rw [if_pos hj16] at hp
            refine ev_sub (ls2 := []) [] rfl ?_
            exact e_Reader_readHomes_102 t ok  hQ    x14.2.1 x14.2.2 hp
          · rw [if_neg hj16] at hp
            refine ev_iload_n (pc := 82) d_Reader_readHomes_82 rfl rfl ?_
            refine ev_iload_n (pc := 83) d_Reader_readHomes_83 rfl rfl ?_
            refine et_icmp_eq (pc := 84) (tgt := 102) d_Reader_readHomes_84 (by decide) (fun hj17 => ?_) (fun hj17 => ?_)
            · rw [if_pos hj17] at hp
              refine ev_sub (ls2 := []) [] rfl ?_
              exact e_Reader_readHomes_102 t ok  hQ    x14.2.1 x14.2.2 hp
            · rw [if_neg hj17] at hp
              refine et_aload_n (pc := 87) d_Reader_readHomes_87 rfl rfl ?_
              refine et_getr (pc := 88) ok (fl_Reader_22 t) rfl d_Reader_readHomes_88 s_54 r_54_1 ?_
              refine et_getr (pc := 91) ok (fl_Reader_54 t) rfl d_Reader_readHomes_91 s_3 r_3_1 ?_
              refine ev_iload_n (pc := 94) d_Reader_readHomes_94 rfl rfl ?_
              replace hp := q_if hp
              obtain ⟨hb18, hp⟩ := hp
              refine et_aald (pc := 95) d_Reader_readHomes_95 s_5 hb18 (by decide) (r_5 _ (by omega)) ?_
              refine et_geti (pc := 96) ok (fl_Reader_58 t) rfl d_Reader_readHomes_96 (s_24 _ (by omega) (by omega)) ?_
              refine et_if_ne (pc := 99) (tgt := 104) d_Reader_readHomes_99 (by decide) (fun hj19 => ?_) (fun hj19 => ?_)
              · rw [if_neg hj19] at hp
                refine et_aload_n (pc := 104) d_Reader_readHomes_104 rfl rfl ?_
                refine ev_dup (pc := 105) d_Reader_readHomes_105 rfl ?_
                refine et_geti (pc := 106) ok (fl_Reader_9 t) rfl d_Reader_readHomes_106 s_54 ?_
                refine ev_iconst (pc := 109) d_Reader_readHomes_109 ?_
                refine ev_iadd (pc := 110) d_Reader_readHomes_110 ?_
                refine et_puti (pc := 111) ok (fl_Reader_9 t) d_Reader_readHomes_111 s_54 ?_
                replace hp := q_let_of hp
                obtain ⟨f20, hz, hp⟩ := hp
                rw [← hz]
                clear hz
                refine et_aload_n (pc := 114) d_Reader_readHomes_114 rfl rfl ?_
                refine ev_iload_n (pc := 115) d_Reader_readHomes_115 rfl rfl ?_
                refine et_puti (pc := 116) ok (fl_Reader_156 t) d_Reader_readHomes_116 (s_28 _ (by omega) (by omega)) ?_
                replace hp := q_let_of hp
                obtain ⟨f21, hz, hp⟩ := hp
                rw [← hz]
                clear hz
                refine ev_sub (ls2 := []) [] rfl ?_
                exact e_Reader_readHomes_119 t ok  hQ    f21 x14.2.2 hp
              · rw [if_pos hj19] at hp
                refine ev_sub (ls2 := []) [] rfl ?_
                exact e_Reader_readHomes_102 t ok  hQ    x14.2.1 x14.2.2 hp
      · rw [if_neg hj10] at hp
        refine et_aload_n (pc := 53) d_Reader_readHomes_53 rfl rfl ?_
        refine ev_iconst (pc := 54) d_Reader_readHomes_54 ?_
        refine et_putz (pc := 55) ok (fl_Reader_153 t) (by decide) d_Reader_readHomes_55 (s_28 _ (by omega) (by omega)) ?_
        replace hp := q_let_of hp
        obtain ⟨f22, hz, hp⟩ := hp
        rw [← hz]
        clear hz
        refine ev_goto (pc := 58) (tgt := 119) d_Reader_readHomes_58 (by decide) ?_
        refine ev_sub (ls2 := []) [] rfl ?_
        exact e_Reader_readHomes_119 t ok  hQ    f22 x8.2.2 hp
    · rw [if_pos hj5] at hp
      refine ev_sub (ls2 := []) [] rfl ?_
      exact e_Reader_readHomes_27 t ok  hQ    x1.2.1 x1.2.2 hp
theorem d_Reader_readRegion_0 : decode (m_c m_Reader_readRegion) 0 = .ok (.aload_n 0, 1) := by decide +kernel
theorem d_Reader_readRegion_1 : decode (m_c m_Reader_readRegion) 1 = .ok (.bipush 65, 2) := by decide +kernel
theorem d_Reader_readRegion_3 : decode (m_c m_Reader_readRegion) 3 = .ok (.iconst 4, 1) := by decide +kernel
theorem d_Reader_readRegion_4 : decode (m_c m_Reader_readRegion) 4 = .ok (.invokevirtual 50, 3) := by decide +kernel
theorem d_Reader_readRegion_7 : decode (m_c m_Reader_readRegion) 7 = .ok (.istore_n 1, 1) := by decide +kernel
theorem d_Reader_readRegion_8 : decode (m_c m_Reader_readRegion) 8 = .ok (.iload_n 1, 1) := by decide +kernel
theorem d_Reader_readRegion_9 : decode (m_c m_Reader_readRegion) 9 = .ok (.ifCond .lt 18, 3) := by decide +kernel
theorem d_Reader_readRegion_12 : decode (m_c m_Reader_readRegion) 12 = .ok (.aload_n 0, 1) := by decide +kernel
theorem d_Reader_readRegion_13 : decode (m_c m_Reader_readRegion) 13 = .ok (.getfield 22, 3) := by decide +kernel
theorem d_Reader_readRegion_16 : decode (m_c m_Reader_readRegion) 16 = .ok (.getfield 54, 3) := by decide +kernel
theorem d_Reader_readRegion_19 : decode (m_c m_Reader_readRegion) 19 = .ok (.iload_n 1, 1) := by decide +kernel
theorem d_Reader_readRegion_20 : decode (m_c m_Reader_readRegion) 20 = .ok (.aaload, 1) := by decide +kernel
theorem d_Reader_readRegion_21 : decode (m_c m_Reader_readRegion) 21 = .ok (.getfield 58, 3) := by decide +kernel
theorem d_Reader_readRegion_24 : decode (m_c m_Reader_readRegion) 24 = .ok (.ifCond .eq 5, 3) := by decide +kernel
theorem d_Reader_readRegion_27 : decode (m_c m_Reader_readRegion) 27 = .ok (.iconst 0, 1) := by decide +kernel
theorem d_Reader_readRegion_28 : decode (m_c m_Reader_readRegion) 28 = .ok (.ireturn, 1) := by decide +kernel
theorem d_Reader_readRegion_29 : decode (m_c m_Reader_readRegion) 29 = .ok (.aload_n 0, 1) := by decide +kernel
theorem d_Reader_readRegion_30 : decode (m_c m_Reader_readRegion) 30 = .ok (.dup, 1) := by decide +kernel
theorem d_Reader_readRegion_31 : decode (m_c m_Reader_readRegion) 31 = .ok (.getfield 9, 3) := by decide +kernel
theorem d_Reader_readRegion_34 : decode (m_c m_Reader_readRegion) 34 = .ok (.iconst 1, 1) := by decide +kernel
theorem d_Reader_readRegion_35 : decode (m_c m_Reader_readRegion) 35 = .ok (.iadd, 1) := by decide +kernel
theorem d_Reader_readRegion_36 : decode (m_c m_Reader_readRegion) 36 = .ok (.putfield 9, 3) := by decide +kernel
theorem d_Reader_readRegion_39 : decode (m_c m_Reader_readRegion) 39 = .ok (.aload_n 0, 1) := by decide +kernel
theorem d_Reader_readRegion_40 : decode (m_c m_Reader_readRegion) 40 = .ok (.bipush 61, 2) := by decide +kernel
theorem d_Reader_readRegion_42 : decode (m_c m_Reader_readRegion) 42 = .ok (.invokevirtual 36, 3) := by decide +kernel
theorem d_Reader_readRegion_45 : decode (m_c m_Reader_readRegion) 45 = .ok (.ifCond .eq 10, 3) := by decide +kernel
theorem d_Reader_readRegion_48 : decode (m_c m_Reader_readRegion) 48 = .ok (.aload_n 0, 1) := by decide +kernel
theorem d_Reader_readRegion_49 : decode (m_c m_Reader_readRegion) 49 = .ok (.invokevirtual 64, 3) := by decide +kernel
theorem d_Reader_readRegion_52 : decode (m_c m_Reader_readRegion) 52 = .ok (.ifCond .ne 5, 3) := by decide +kernel
theorem d_Reader_readRegion_55 : decode (m_c m_Reader_readRegion) 55 = .ok (.iconst 0, 1) := by decide +kernel
theorem d_Reader_readRegion_56 : decode (m_c m_Reader_readRegion) 56 = .ok (.ireturn, 1) := by decide +kernel
theorem d_Reader_readRegion_57 : decode (m_c m_Reader_readRegion) 57 = .ok (.aload_n 0, 1) := by decide +kernel
theorem d_Reader_readRegion_58 : decode (m_c m_Reader_readRegion) 58 = .ok (.getfield 15, 3) := by decide +kernel
theorem d_Reader_readRegion_61 : decode (m_c m_Reader_readRegion) 61 = .ok (.istore_n 2, 1) := by decide +kernel
theorem d_Reader_readRegion_62 : decode (m_c m_Reader_readRegion) 62 = .ok (.aload_n 0, 1) := by decide +kernel
theorem d_Reader_readRegion_63 : decode (m_c m_Reader_readRegion) 63 = .ok (.bipush 44, 2) := by decide +kernel
theorem d_Reader_readRegion_65 : decode (m_c m_Reader_readRegion) 65 = .ok (.invokevirtual 36, 3) := by decide +kernel
theorem d_Reader_readRegion_68 : decode (m_c m_Reader_readRegion) 68 = .ok (.ifCond .eq 22, 3) := by decide +kernel
theorem d_Reader_readRegion_71 : decode (m_c m_Reader_readRegion) 71 = .ok (.aload_n 0, 1) := by decide +kernel
theorem d_Reader_readRegion_72 : decode (m_c m_Reader_readRegion) 72 = .ok (.invokevirtual 64, 3) := by decide +kernel
theorem d_Reader_readRegion_75 : decode (m_c m_Reader_readRegion) 75 = .ok (.ifCond .eq 15, 3) := by decide +kernel
theorem d_Reader_readRegion_78 : decode (m_c m_Reader_readRegion) 78 = .ok (.iload_n 2, 1) := by decide +kernel
theorem d_Reader_readRegion_79 : decode (m_c m_Reader_readRegion) 79 = .ok (.aload_n 0, 1) := by decide +kernel
theorem d_Reader_readRegion_80 : decode (m_c m_Reader_readRegion) 80 = .ok (.getfield 15, 3) := by decide +kernel
theorem d_Reader_readRegion_83 : decode (m_c m_Reader_readRegion) 83 = .ok (.iadd, 1) := by decide +kernel
theorem d_Reader_readRegion_84 : decode (m_c m_Reader_readRegion) 84 = .ok (.sipush 512, 3) := by decide +kernel
theorem d_Reader_readRegion_87 : decode (m_c m_Reader_readRegion) 87 = .ok (.if_icmp .le 5, 3) := by decide +kernel
theorem d_Reader_readRegion_90 : decode (m_c m_Reader_readRegion) 90 = .ok (.iconst 0, 1) := by decide +kernel
theorem d_Reader_readRegion_91 : decode (m_c m_Reader_readRegion) 91 = .ok (.ireturn, 1) := by decide +kernel
theorem d_Reader_readRegion_92 : decode (m_c m_Reader_readRegion) 92 = .ok (.aload_n 0, 1) := by decide +kernel
theorem d_Reader_readRegion_93 : decode (m_c m_Reader_readRegion) 93 = .ok (.getfield 22, 3) := by decide +kernel
theorem d_Reader_readRegion_96 : decode (m_c m_Reader_readRegion) 96 = .ok (.getfield 54, 3) := by decide +kernel
theorem d_Reader_readRegion_99 : decode (m_c m_Reader_readRegion) 99 = .ok (.iload_n 1, 1) := by decide +kernel
theorem d_Reader_readRegion_100 : decode (m_c m_Reader_readRegion) 100 = .ok (.aaload, 1) := by decide +kernel
theorem d_Reader_readRegion_101 : decode (m_c m_Reader_readRegion) 101 = .ok (.astore_n 3, 1) := by decide +kernel
theorem d_Reader_readRegion_102 : decode (m_c m_Reader_readRegion) 102 = .ok (.aload_n 3, 1) := by decide +kernel
theorem d_Reader_readRegion_103 : decode (m_c m_Reader_readRegion) 103 = .ok (.iconst 1, 1) := by decide +kernel
theorem d_Reader_readRegion_104 : decode (m_c m_Reader_readRegion) 104 = .ok (.putfield 58, 3) := by decide +kernel
theorem d_Reader_readRegion_107 : decode (m_c m_Reader_readRegion) 107 = .ok (.aload_n 3, 1) := by decide +kernel
theorem d_Reader_readRegion_108 : decode (m_c m_Reader_readRegion) 108 = .ok (.iload_n 2, 1) := by decide +kernel
theorem d_Reader_readRegion_109 : decode (m_c m_Reader_readRegion) 109 = .ok (.putfield 67, 3) := by decide +kernel
theorem d_Reader_readRegion_112 : decode (m_c m_Reader_readRegion) 112 = .ok (.aload_n 3, 1) := by decide +kernel
theorem d_Reader_readRegion_113 : decode (m_c m_Reader_readRegion) 113 = .ok (.aload_n 0, 1) := by decide +kernel
theorem d_Reader_readRegion_114 : decode (m_c m_Reader_readRegion) 114 = .ok (.getfield 15, 3) := by decide +kernel
theorem d_Reader_readRegion_117 : decode (m_c m_Reader_readRegion) 117 = .ok (.putfield 70, 3) := by decide +kernel
theorem d_Reader_readRegion_120 : decode (m_c m_Reader_readRegion) 120 = .ok (.iconst 1, 1) := by decide +kernel
theorem d_Reader_readRegion_121 : decode (m_c m_Reader_readRegion) 121 = .ok (.ireturn, 1) := by decide +kernel
def p_Reader_readRegion_90    (f g : q_F) : Option (Int × q_F × q_F) :=
  some (0, f, g)
def p_Reader_readRegion_55    (f g : q_F) : Option (Int × q_F × q_F) :=
  some (0, f, g)
def p_Reader_readRegion_27    (f g : q_F) : Option (Int × q_F × q_F) :=
  some (0, f, g)
def p_Reader_readRegion   (f g : q_F) : Option (Int × q_F × q_F) :=
  (p_Reader_letter (65) (4) f g).bind fun x1 =>
  if q_sw x1.1 < 0 then
    p_Reader_readRegion_27    x1.2.1 x1.2.2
  else
    if 0 ≤ x1.1 ∧ x1.1 < 4 then
      if q_sw (x1.2.1 (24 + Int.toNat x1.1) 0) = 0 then
        q_let (ma_up x1.2.1 54 2 ((x1.2.1 54 2) + 1)) fun f6 =>
        (p_Reader_skip (61) f6 x1.2.2).bind fun x7 =>
        if q_sw x7.1 = 0 then
          p_Reader_readRegion_55    x7.2.1 x7.2.2
        else
          (p_Reader_readNumber  x7.2.1 x7.2.2).bind fun x10 =>
          if q_sw x10.1 = 0 then
            p_Reader_readRegion_55    x10.2.1 x10.2.2
          else
            q_let (x10.2.1 54 3) fun z13 =>
            (p_Reader_skip (44) x10.2.1 x10.2.2).bind fun x14 =>
            if q_sw x14.1 = 0 then
              p_Reader_readRegion_90    x14.2.1 x14.2.2
            else
              (p_Reader_readNumber  x14.2.1 x14.2.2).bind fun x17 =>
              if q_sw x17.1 = 0 then
                p_Reader_readRegion_90    x17.2.1 x17.2.2
              else
                if q_sw (z13 + (x17.2.1 54 3)) ≤ q_sw 512 then
                  if 0 ≤ x1.1 ∧ x1.1 < 4 then
                    q_let (ma_up x17.2.1 (24 + Int.toNat x1.1) 0 1) fun f22 =>
                    q_let (ma_up f22 (24 + Int.toNat x1.1) 1 z13) fun f23 =>
                    q_let (ma_up f23 (24 + Int.toNat x1.1) 2 (f23 54 3)) fun f24 =>
                    some (1, f24, x17.2.2)
                  else none
                else
                  p_Reader_readRegion_90    x17.2.1 x17.2.2
      else
        p_Reader_readRegion_27    x1.2.1 x1.2.2
    else none
theorem e_Reader_readRegion_90 (t : q_V) (ok : ma_ok (q_G t))  {Q : Option Value → ma_H → Prop} {y : Int × q_F × q_F} (hQ : Q (some (ma_i y.1)) (q_h y.2.1 y.2.2))    (f g : q_F) (hp : p_Reader_readRegion_90    f g = some y) : ma_Ev (q_G t) 2 43 0 0 m_Reader_readRegion 90 [] [] (q_h f g) (ma_zr (q_G t) false Q) := by
  unfold p_Reader_readRegion_90 at hp
  refine ev_iconst (pc := 90) d_Reader_readRegion_90 ?_
  cases Option.some.inj hp
  exact et_zret (pc := 91) d_Reader_readRegion_91 rfl (by decide) hQ
theorem e_Reader_readRegion_55 (t : q_V) (ok : ma_ok (q_G t))  {Q : Option Value → ma_H → Prop} {y : Int × q_F × q_F} (hQ : Q (some (ma_i y.1)) (q_h y.2.1 y.2.2))    (f g : q_F) (hp : p_Reader_readRegion_55    f g = some y) : ma_Ev (q_G t) 2 43 0 0 m_Reader_readRegion 55 [] [] (q_h f g) (ma_zr (q_G t) false Q) := by
  unfold p_Reader_readRegion_55 at hp
  refine ev_iconst (pc := 55) d_Reader_readRegion_55 ?_
  cases Option.some.inj hp
  exact et_zret (pc := 56) d_Reader_readRegion_56 rfl (by decide) hQ
theorem e_Reader_readRegion_27 (t : q_V) (ok : ma_ok (q_G t))  {Q : Option Value → ma_H → Prop} {y : Int × q_F × q_F} (hQ : Q (some (ma_i y.1)) (q_h y.2.1 y.2.2))    (f g : q_F) (hp : p_Reader_readRegion_27    f g = some y) : ma_Ev (q_G t) 2 43 0 0 m_Reader_readRegion 27 [] [] (q_h f g) (ma_zr (q_G t) false Q) := by
  unfold p_Reader_readRegion_27 at hp
  refine ev_iconst (pc := 27) d_Reader_readRegion_27 ?_
  cases Option.some.inj hp
  exact et_zret (pc := 28) d_Reader_readRegion_28 rfl (by decide) hQ
theorem t_Reader_readRegion (t : q_V) (ok : ma_ok (q_G t))  {Q : Option Value → ma_H → Prop} {y : Int × q_F × q_F}  (f g : q_F) (hp : p_Reader_readRegion   f g = some y) (hQ : Q (some (ma_i y.1)) (q_h y.2.1 y.2.2)) : ma_Met (q_G t) false 2 43 0 0 m_Reader_readRegion [q_a t (54)] (q_h f g) Q := by
  refine ma_met (by decide +kernel) (q_ble rfl) rfl ?_
  change ma_Ev (q_G t) 2 43 0 0 m_Reader_readRegion 0 [(0, q_a t (54))] [] (q_h f g) (ma_zr (q_G t) false Q)
  unfold p_Reader_readRegion at hp
  refine et_aload_n (pc := 0) d_Reader_readRegion_0 rfl rfl ?_
  refine ev_bipush (pc := 1) d_Reader_readRegion_1 rfl ?_
  refine ev_iconst (pc := 3) d_Reader_readRegion_3 ?_
  replace hp := q_bind hp
  obtain ⟨x1, hm2, hp⟩ := hp
  refine et_callVi (pc := 4) (f1 := x1.2.1) (g1 := x1.2.2) ok [ma_i (65), ma_i (4)] [] (cf_Reader_50 t) d_Reader_readRegion_4 s_54 k_8 rfl (t_Reader_letter t ok (65) (4) f g hm2 ⟨rfl, rfl⟩) rfl rfl (by decide) (by decide) (q_ble rfl) ?_
  refine ev_istore_n (pc := 7) d_Reader_readRegion_7 rfl (by decide) [(1, _), (0, _)] rfl ?_
  refine ev_iload_n (pc := 8) d_Reader_readRegion_8 rfl rfl ?_
  refine et_if_lt (pc := 9) (tgt := 27) d_Reader_readRegion_9 (by decide) (fun hj3 => ?_) (fun hj3 => ?_)
  · rw [if_pos hj3] at hp
    refine ev_sub (ls2 := []) [] rfl ?_
    exact e_Reader_readRegion_27 t ok  hQ    x1.2.1 x1.2.2 hp
  · rw [if_neg hj3] at hp
    refine et_aload_n (pc := 12) d_Reader_readRegion_12 rfl rfl ?_
    refine et_getr (pc := 13) ok (fl_Reader_22 t) rfl d_Reader_readRegion_13 s_54 r_54_1 ?_
    refine et_getr (pc := 16) ok (fl_Reader_54 t) rfl d_Reader_readRegion_16 s_3 r_3_1 ?_
    refine ev_iload_n (pc := 19) d_Reader_readRegion_19 rfl rfl ?_
    replace hp := q_if hp
    obtain ⟨hb4, hp⟩ := hp
    refine et_aald (pc := 20) d_Reader_readRegion_20 s_5 hb4 (by decide) (r_5 _ (by omega)) ?_
    refine et_geti (pc := 21) ok (fl_Reader_58 t) rfl d_Reader_readRegion_21 (s_24 _ (by omega) (by omega)) ?_
    refine et_if_eq (pc := 24) (tgt := 29) d_Reader_readRegion_24 (by decide) (fun hj5 => ?_) (fun hj5 => ?_)
    · rw [if_pos hj5] at hp
      refine et_aload_n (pc := 29) d_Reader_readRegion_29 rfl rfl ?_
      refine ev_dup (pc := 30) d_Reader_readRegion_30 rfl ?_
      refine et_geti (pc := 31) ok (fl_Reader_9 t) rfl d_Reader_readRegion_31 s_54 ?_
      refine ev_iconst (pc := 34) d_Reader_readRegion_34 ?_
      refine ev_iadd (pc := 35) d_Reader_readRegion_35 ?_
      refine et_puti (pc := 36) ok (fl_Reader_9 t) d_Reader_readRegion_36 s_54 ?_
      replace hp := q_let_of hp
      obtain ⟨f6, hz, hp⟩ := hp
      rw [← hz]
      clear hz
      refine et_aload_n (pc := 39) d_Reader_readRegion_39 rfl rfl ?_
      refine ev_bipush (pc := 40) d_Reader_readRegion_40 rfl ?_
      replace hp := q_bind hp
      obtain ⟨x7, hm8, hp⟩ := hp
      refine et_callVi (pc := 42) (f1 := x7.2.1) (g1 := x7.2.2) ok [ma_i (61)] [] (cf_Reader_36 t) d_Reader_readRegion_42 s_54 k_8 rfl (t_Reader_skip t ok (61) f6 x1.2.2 hm8 ⟨rfl, rfl⟩) rfl rfl (by decide) (by decide) (q_ble rfl) ?_
      refine et_if_eq (pc := 45) (tgt := 55) d_Reader_readRegion_45 (by decide) (fun hj9 => ?_) (fun hj9 => ?_)
      · rw [if_pos hj9] at hp
        refine ev_sub (ls2 := []) [] rfl ?_
        exact e_Reader_readRegion_55 t ok  hQ    x7.2.1 x7.2.2 hp
      · rw [if_neg hj9] at hp
        refine et_aload_n (pc := 48) d_Reader_readRegion_48 rfl rfl ?_
        replace hp := q_bind hp
        obtain ⟨x10, hm11, hp⟩ := hp
        refine et_callVi (pc := 49) (f1 := x10.2.1) (g1 := x10.2.2) ok [] [] (cf_Reader_64 t) d_Reader_readRegion_49 s_54 k_8 rfl (t_Reader_readNumber t ok  x7.2.1 x7.2.2 hm11 ⟨rfl, rfl⟩) rfl rfl (by decide) (by decide) (q_ble rfl) ?_
        refine et_if_ne (pc := 52) (tgt := 57) d_Reader_readRegion_52 (by decide) (fun hj12 => ?_) (fun hj12 => ?_)
        · rw [if_neg hj12] at hp
          refine et_aload_n (pc := 57) d_Reader_readRegion_57 rfl rfl ?_
          refine et_geti (pc := 58) ok (fl_Reader_15 t) rfl d_Reader_readRegion_58 s_54 ?_
          refine ev_istore_n (pc := 61) d_Reader_readRegion_61 rfl (by decide) [(2, _), (1, _), (0, _)] rfl ?_
          replace hp := q_let_of hp
          obtain ⟨z13, hz, hp⟩ := hp
          rw [← hz]
          clear hz
          refine et_aload_n (pc := 62) d_Reader_readRegion_62 rfl rfl ?_
          refine ev_bipush (pc := 63) d_Reader_readRegion_63 rfl ?_
          replace hp := q_bind hp
          obtain ⟨x14, hm15, hp⟩ := hp
          refine et_callVi (pc := 65) (f1 := x14.2.1) (g1 := x14.2.2) ok [ma_i (44)] [] (cf_Reader_36 t) d_Reader_readRegion_65 s_54 k_8 rfl (t_Reader_skip t ok (44) x10.2.1 x10.2.2 hm15 ⟨rfl, rfl⟩) rfl rfl (by decide) (by decide) (q_ble rfl) ?_
          refine et_if_eq (pc := 68) (tgt := 90) d_Reader_readRegion_68 (by decide) (fun hj16 => ?_) (fun hj16 => ?_)
          · rw [if_pos hj16] at hp
            refine ev_sub (ls2 := []) [] rfl ?_
            exact e_Reader_readRegion_90 t ok  hQ    x14.2.1 x14.2.2 hp
          · rw [if_neg hj16] at hp
            refine et_aload_n (pc := 71) d_Reader_readRegion_71 rfl rfl ?_
            replace hp := q_bind hp
            obtain ⟨x17, hm18, hp⟩ := hp
            refine et_callVi (pc := 72) (f1 := x17.2.1) (g1 := x17.2.2) ok [] [] (cf_Reader_64 t) d_Reader_readRegion_72 s_54 k_8 rfl (t_Reader_readNumber t ok  x14.2.1 x14.2.2 hm18 ⟨rfl, rfl⟩) rfl rfl (by decide) (by decide) (q_ble rfl) ?_
            refine et_if_eq (pc := 75) (tgt := 90) d_Reader_readRegion_75 (by decide) (fun hj19 => ?_) (fun hj19 => ?_)
            · rw [if_pos hj19] at hp
              refine ev_sub (ls2 := []) [] rfl ?_
              exact e_Reader_readRegion_90 t ok  hQ    x17.2.1 x17.2.2 hp
            · rw [if_neg hj19] at hp
              refine ev_iload_n (pc := 78) d_Reader_readRegion_78 rfl rfl ?_
              refine et_aload_n (pc := 79) d_Reader_readRegion_79 rfl rfl ?_
              refine et_geti (pc := 80) ok (fl_Reader_15 t) rfl d_Reader_readRegion_80 s_54 ?_
              refine ev_iadd (pc := 83) d_Reader_readRegion_83 ?_
              refine ev_sipush (pc := 84) d_Reader_readRegion_84 rfl ?_
              refine et_icmp_le (pc := 87) (tgt := 92) d_Reader_readRegion_87 (by decide) (fun hj20 => ?_) (fun hj20 => ?_)
              · rw [if_pos hj20] at hp
                refine et_aload_n (pc := 92) d_Reader_readRegion_92 rfl rfl ?_
                refine et_getr (pc := 93) ok (fl_Reader_22 t) rfl d_Reader_readRegion_93 s_54 r_54_1 ?_
                refine et_getr (pc := 96) ok (fl_Reader_54 t) rfl d_Reader_readRegion_96 s_3 r_3_1 ?_
                refine ev_iload_n (pc := 99) d_Reader_readRegion_99 rfl rfl ?_
                replace hp := q_if hp
                obtain ⟨hb21, hp⟩ := hp
                refine et_aald (pc := 100) d_Reader_readRegion_100 s_5 hb21 (by decide) (r_5 _ (by omega)) ?_
                refine et_astore_n (pc := 101) d_Reader_readRegion_101 rfl (by decide) [(3, _), (2, _), (1, _), (0, _)] rfl ?_
                refine et_aload_n (pc := 102) d_Reader_readRegion_102 rfl rfl ?_
                refine ev_iconst (pc := 103) d_Reader_readRegion_103 ?_
                refine et_putz (pc := 104) ok (fl_Reader_58 t) (by decide) d_Reader_readRegion_104 (s_24 _ (by omega) (by omega)) ?_
                replace hp := q_let_of hp
                obtain ⟨f22, hz, hp⟩ := hp
                rw [← hz]
                clear hz
                refine et_aload_n (pc := 107) d_Reader_readRegion_107 rfl rfl ?_
                refine ev_iload_n (pc := 108) d_Reader_readRegion_108 rfl rfl ?_
                refine et_puti (pc := 109) ok (fl_Reader_67 t) d_Reader_readRegion_109 (s_24 _ (by omega) (by omega)) ?_
                replace hp := q_let_of hp
                obtain ⟨f23, hz, hp⟩ := hp
                rw [← hz]
                clear hz
                refine et_aload_n (pc := 112) d_Reader_readRegion_112 rfl rfl ?_
                refine et_aload_n (pc := 113) d_Reader_readRegion_113 rfl rfl ?_
                refine et_geti (pc := 114) ok (fl_Reader_15 t) rfl d_Reader_readRegion_114 s_54 ?_
                refine et_puti (pc := 117) ok (fl_Reader_70 t) d_Reader_readRegion_117 (s_24 _ (by omega) (by omega)) ?_
                replace hp := q_let_of hp
                obtain ⟨f24, hz, hp⟩ := hp
                rw [← hz]
                clear hz
                refine ev_iconst (pc := 120) d_Reader_readRegion_120 ?_
                cases Option.some.inj hp
                exact et_zret (pc := 121) d_Reader_readRegion_121 rfl (by decide) hQ
              · rw [if_neg hj20] at hp
                refine ev_sub (ls2 := []) [] rfl ?_
                exact e_Reader_readRegion_90 t ok  hQ    x17.2.1 x17.2.2 hp
        · rw [if_pos hj12] at hp
          refine ev_sub (ls2 := []) [] rfl ?_
          exact e_Reader_readRegion_55 t ok  hQ    x10.2.1 x10.2.2 hp
    · rw [if_neg hj5] at hp
      refine ev_sub (ls2 := []) [] rfl ?_
      exact e_Reader_readRegion_27 t ok  hQ    x1.2.1 x1.2.2 hp
