/-! ===== printed by walk.py: the reference reckons ===== -/
theorem d_Mod_raised_0 : decode (m_c m_Mod_raised) 0 = .ok (.lload_n 0, 1) := by decide +kernel
theorem d_Mod_raised_1 : decode (m_c m_Mod_raised) 1 = .ok (.iload_n 2, 1) := by decide +kernel
theorem d_Mod_raised_2 : decode (m_c m_Mod_raised) 2 = .ok (.i2l, 1) := by decide +kernel
theorem d_Mod_raised_3 : decode (m_c m_Mod_raised) 3 = .ok (.lrem, 1) := by decide +kernel
theorem d_Mod_raised_4 : decode (m_c m_Mod_raised) 4 = .ok (.lstore_n 3, 1) := by decide +kernel
theorem d_Mod_raised_5 : decode (m_c m_Mod_raised) 5 = .ok (.lload_n 3, 1) := by decide +kernel
theorem d_Mod_raised_6 : decode (m_c m_Mod_raised) 6 = .ok (.lconst 0, 1) := by decide +kernel
theorem d_Mod_raised_7 : decode (m_c m_Mod_raised) 7 = .ok (.lcmp, 1) := by decide +kernel
theorem d_Mod_raised_8 : decode (m_c m_Mod_raised) 8 = .ok (.ifCond .ne 7, 3) := by decide +kernel
theorem d_Mod_raised_11 : decode (m_c m_Mod_raised) 11 = .ok (.lload_n 0, 1) := by decide +kernel
theorem d_Mod_raised_12 : decode (m_c m_Mod_raised) 12 = .ok (.goto 21, 3) := by decide +kernel
theorem d_Mod_raised_15 : decode (m_c m_Mod_raised) 15 = .ok (.lload_n 3, 1) := by decide +kernel
theorem d_Mod_raised_16 : decode (m_c m_Mod_raised) 16 = .ok (.lconst 0, 1) := by decide +kernel
theorem d_Mod_raised_17 : decode (m_c m_Mod_raised) 17 = .ok (.lcmp, 1) := by decide +kernel
theorem d_Mod_raised_18 : decode (m_c m_Mod_raised) 18 = .ok (.ifCond .ge 9, 3) := by decide +kernel
theorem d_Mod_raised_21 : decode (m_c m_Mod_raised) 21 = .ok (.lload_n 0, 1) := by decide +kernel
theorem d_Mod_raised_22 : decode (m_c m_Mod_raised) 22 = .ok (.lload_n 3, 1) := by decide +kernel
theorem d_Mod_raised_23 : decode (m_c m_Mod_raised) 23 = .ok (.lsub, 1) := by decide +kernel
theorem d_Mod_raised_24 : decode (m_c m_Mod_raised) 24 = .ok (.goto 9, 3) := by decide +kernel
theorem d_Mod_raised_27 : decode (m_c m_Mod_raised) 27 = .ok (.lload_n 0, 1) := by decide +kernel
theorem d_Mod_raised_28 : decode (m_c m_Mod_raised) 28 = .ok (.lload_n 3, 1) := by decide +kernel
theorem d_Mod_raised_29 : decode (m_c m_Mod_raised) 29 = .ok (.lsub, 1) := by decide +kernel
theorem d_Mod_raised_30 : decode (m_c m_Mod_raised) 30 = .ok (.iload_n 2, 1) := by decide +kernel
theorem d_Mod_raised_31 : decode (m_c m_Mod_raised) 31 = .ok (.i2l, 1) := by decide +kernel
theorem d_Mod_raised_32 : decode (m_c m_Mod_raised) 32 = .ok (.ladd, 1) := by decide +kernel
theorem d_Mod_raised_33 : decode (m_c m_Mod_raised) 33 = .ok (.lreturn, 1) := by decide +kernel
def p_Mod_raised_33   (s0 : Int) (f g : q_F) : Option (Int × q_F × q_F) :=
  some (s0, f, g)
def p_Mod_raised  (v0 : Int) (v2 : Int) (f g : q_F) : Option (Int × q_F × q_F) :=
  if ¬ Int64.ofInt (q_sw v2) = 0 then
    q_let (q_lrem v0 (q_sw v2)) fun z2 =>
    if q_sw (q_lcmp z2 0) = 0 then
      p_Mod_raised_33   (v0) f g
    else
      if 0 ≤ q_sw (q_lcmp z2 0) then
        p_Mod_raised_33   ((v0 - z2) + (q_sw v2)) f g
      else
        p_Mod_raised_33   (v0 - z2) f g
  else none
theorem e_Mod_raised_33 (t : q_V) (ok : ma_ok (q_G t))  {Q : Option Value → ma_H → Prop} {y : Int × q_F × q_F} (hQ : Q (some (ma_j y.1)) (q_h y.2.1 y.2.2))   (s0 : Int) (f g : q_F) (hp : p_Mod_raised_33   s0 f g = some y) : ma_Ev (q_G t) 0 0 0 0 m_Mod_raised 33 [] [ma_j (s0)] (q_h f g) (ma_zr (q_G t) false Q) := by
  unfold p_Mod_raised_33 at hp
  cases Option.some.inj hp
  exact et_lret (pc := 33) d_Mod_raised_33 rfl hQ
theorem t_Mod_raised (t : q_V) (ok : ma_ok (q_G t))  {Q : Option Value → ma_H → Prop} {y : Int × q_F × q_F} (v0 : Int) (v2 : Int) (f g : q_F) (hp : p_Mod_raised  v0 v2 f g = some y) (hQ : Q (some (ma_j y.1)) (q_h y.2.1 y.2.2)) : ma_Met (q_G t) false 0 0 0 0 m_Mod_raised [ma_j (v0), ma_i (v2)] (q_h f g) Q := by
  refine ma_met (by decide +kernel) (q_ble rfl) rfl ?_
  change ma_Ev (q_G t) 0 0 0 0 m_Mod_raised 0 [(0, ma_j (v0)), (2, ma_i (v2))] [] (q_h f g) (ma_zr (q_G t) false Q)
  unfold p_Mod_raised at hp
  refine ev_lload_n (pc := 0) d_Mod_raised_0 rfl rfl ?_
  refine ev_iload_n (pc := 1) d_Mod_raised_1 rfl rfl ?_
  refine et_i2l (pc := 2) d_Mod_raised_2 ?_
  replace hp := q_if hp
  obtain ⟨hb1, hp⟩ := hp
  refine et_lrem (pc := 3) d_Mod_raised_3 hb1 ?_
  refine ev_lstore_n (pc := 4) d_Mod_raised_4 rfl (by decide) [(3, _), (0, _), (2, _)] rfl ?_
  replace hp := q_let_of hp
  obtain ⟨z2, hz, hp⟩ := hp
  rw [← hz]
  clear hz
  refine ev_lload_n (pc := 5) d_Mod_raised_5 rfl rfl ?_
  refine ev_lconst (z := 0) (pc := 6) d_Mod_raised_6 rfl ?_
  refine et_lcmp (pc := 7) d_Mod_raised_7 ?_
  refine et_if_ne (pc := 8) (tgt := 15) d_Mod_raised_8 (by decide) (fun hj3 => ?_) (fun hj3 => ?_)
  · rw [if_neg hj3] at hp
    refine ev_lload_n (pc := 15) d_Mod_raised_15 rfl rfl ?_
    refine ev_lconst (z := 0) (pc := 16) d_Mod_raised_16 rfl ?_
    refine et_lcmp (pc := 17) d_Mod_raised_17 ?_
    refine et_if_ge (pc := 18) (tgt := 27) d_Mod_raised_18 (by decide) (fun hj4 => ?_) (fun hj4 => ?_)
    · rw [if_pos hj4] at hp
      refine ev_lload_n (pc := 27) d_Mod_raised_27 rfl rfl ?_
      refine ev_lload_n (pc := 28) d_Mod_raised_28 rfl rfl ?_
      refine ev_lsub (pc := 29) d_Mod_raised_29 ?_
      refine ev_iload_n (pc := 30) d_Mod_raised_30 rfl rfl ?_
      refine et_i2l (pc := 31) d_Mod_raised_31 ?_
      refine ev_ladd (pc := 32) d_Mod_raised_32 ?_
      refine ev_sub (ls2 := []) [] rfl ?_
      exact e_Mod_raised_33 t ok  hQ   ((v0 - z2) + (q_sw v2)) f g hp
    · rw [if_neg hj4] at hp
      refine ev_lload_n (pc := 21) d_Mod_raised_21 rfl rfl ?_
      refine ev_lload_n (pc := 22) d_Mod_raised_22 rfl rfl ?_
      refine ev_lsub (pc := 23) d_Mod_raised_23 ?_
      refine ev_goto (pc := 24) (tgt := 33) d_Mod_raised_24 (by decide) ?_
      refine ev_sub (ls2 := []) [] rfl ?_
      exact e_Mod_raised_33 t ok  hQ   (v0 - z2) f g hp
  · rw [if_pos hj3] at hp
    refine ev_lload_n (pc := 11) d_Mod_raised_11 rfl rfl ?_
    refine ev_goto (pc := 12) (tgt := 33) d_Mod_raised_12 (by decide) ?_
    refine ev_sub (ls2 := []) [] rfl ?_
    exact e_Mod_raised_33 t ok  hQ   (v0) f g hp
theorem d_Mod_push_0 : decode (m_c m_Mod_push) 0 = .ok (.aload_n 0, 1) := by decide +kernel
theorem d_Mod_push_1 : decode (m_c m_Mod_push) 1 = .ok (.aload_n 0, 1) := by decide +kernel
theorem d_Mod_push_2 : decode (m_c m_Mod_push) 2 = .ok (.getfield 217, 3) := by decide +kernel
theorem d_Mod_push_5 : decode (m_c m_Mod_push) 5 = .ok (.ifCond .eq 11, 3) := by decide +kernel
theorem d_Mod_push_8 : decode (m_c m_Mod_push) 8 = .ok (.iload_n 2, 1) := by decide +kernel
theorem d_Mod_push_9 : decode (m_c m_Mod_push) 9 = .ok (.ifCond .eq 7, 3) := by decide +kernel
theorem d_Mod_push_12 : decode (m_c m_Mod_push) 12 = .ok (.iconst 1, 1) := by decide +kernel
theorem d_Mod_push_13 : decode (m_c m_Mod_push) 13 = .ok (.goto 4, 3) := by decide +kernel
theorem d_Mod_push_16 : decode (m_c m_Mod_push) 16 = .ok (.iconst 0, 1) := by decide +kernel
theorem d_Mod_push_17 : decode (m_c m_Mod_push) 17 = .ok (.putfield 217, 3) := by decide +kernel
theorem d_Mod_push_20 : decode (m_c m_Mod_push) 20 = .ok (.aload_n 0, 1) := by decide +kernel
theorem d_Mod_push_21 : decode (m_c m_Mod_push) 21 = .ok (.getfield 48, 3) := by decide +kernel
theorem d_Mod_push_24 : decode (m_c m_Mod_push) 24 = .ok (.iload_n 1, 1) := by decide +kernel
theorem d_Mod_push_25 : decode (m_c m_Mod_push) 25 = .ok (.lload_n 3, 1) := by decide +kernel
theorem d_Mod_push_26 : decode (m_c m_Mod_push) 26 = .ok (.lastore, 1) := by decide +kernel
theorem d_Mod_push_27 : decode (m_c m_Mod_push) 27 = .ok (.return_, 1) := by decide +kernel
def p_Mod_push_17   (v1 : Int) (v3 : Int) (s0 : Int) (f g : q_F) : Option (q_F × q_F) :=
  if s0 = 0 ∨ s0 = 1 then
    q_let (ma_up f 60 20 s0) fun f2 =>
    if 0 ≤ v1 ∧ v1 < 160 then
      q_let (ma_up g 72 (Int.toNat v1) v3) fun g4 =>
      some (f2, g4)
    else none
  else none
def p_Mod_push_16   (v1 : Int) (v3 : Int) (f g : q_F) : Option (q_F × q_F) :=
  p_Mod_push_17   (v1) (v3) (0) f g
def p_Mod_push  (v1 : Int) (v2 : Int) (v3 : Int) (f g : q_F) : Option (q_F × q_F) :=
  if q_sw (f 60 20) = 0 then
    p_Mod_push_16   (v1) (v3) f g
  else
    if q_sw v2 = 0 then
      p_Mod_push_16   (v1) (v3) f g
    else
      p_Mod_push_17   (v1) (v3) (1) f g
theorem e_Mod_push_17 (t : q_V) (ok : ma_ok (q_G t))  {Q : Option Value → ma_H → Prop} {y : q_F × q_F} (hQ : Q (none) (q_h y.1 y.2))   (v1 : Int) (v3 : Int) (s0 : Int) (f g : q_F) (hp : p_Mod_push_17   v1 v3 s0 f g = some y) : ma_Ev (q_G t) 0 0 0 0 m_Mod_push 17 [(0, q_a t (60)), (1, ma_i (v1)), (3, ma_j (v3))] [ma_i (s0), q_a t (60)] (q_h f g) (ma_zr (q_G t) false Q) := by
  unfold p_Mod_push_17 at hp
  replace hp := q_if hp
  obtain ⟨hb1, hp⟩ := hp
  refine et_putz (pc := 17) ok (fl_Mod_217 t) hb1 d_Mod_push_17 s_60 ?_
  replace hp := q_let_of hp
  obtain ⟨f2, hz, hp⟩ := hp
  rw [← hz]
  clear hz
  refine et_aload_n (pc := 20) d_Mod_push_20 rfl rfl ?_
  refine et_getr (pc := 21) ok (fl_Mod_48 t) rfl d_Mod_push_21 s_60 r_60_17 ?_
  refine ev_iload_n (pc := 24) d_Mod_push_24 rfl rfl ?_
  refine ev_lload_n (pc := 25) d_Mod_push_25 rfl rfl ?_
  replace hp := q_if hp
  obtain ⟨hb3, hp⟩ := hp
  refine et_last (pc := 26) d_Mod_push_26 s_72 hb3 (by decide) ?_
  replace hp := q_let_of hp
  obtain ⟨g4, hz, hp⟩ := hp
  rw [← hz]
  clear hz
  cases Option.some.inj hp
  exact et_ret (pc := 27) d_Mod_push_27 rfl hQ
theorem e_Mod_push_16 (t : q_V) (ok : ma_ok (q_G t))  {Q : Option Value → ma_H → Prop} {y : q_F × q_F} (hQ : Q (none) (q_h y.1 y.2))   (v1 : Int) (v3 : Int) (f g : q_F) (hp : p_Mod_push_16   v1 v3 f g = some y) : ma_Ev (q_G t) 0 0 0 0 m_Mod_push 16 [(0, q_a t (60)), (1, ma_i (v1)), (3, ma_j (v3))] [q_a t (60)] (q_h f g) (ma_zr (q_G t) false Q) := by
  unfold p_Mod_push_16 at hp
  refine ev_iconst (pc := 16) d_Mod_push_16 ?_
  refine ev_sub (ls2 := [(0, q_a t (60)), (1, ma_i (v1)), (3, ma_j (v3))]) [0, 1, 2] rfl ?_
  exact e_Mod_push_17 t ok  hQ   (v1) (v3) (0) f g hp
theorem t_Mod_push (t : q_V) (ok : ma_ok (q_G t))  {Q : Option Value → ma_H → Prop} {y : q_F × q_F} (v1 : Int) (v2 : Int) (v3 : Int) (f g : q_F) (hp : p_Mod_push  v1 v2 v3 f g = some y) (hQ : Q (none) (q_h y.1 y.2)) : ma_Met (q_G t) false 0 0 0 0 m_Mod_push [q_a t (60), ma_i (v1), ma_i (v2), ma_j (v3)] (q_h f g) Q := by
  refine ma_met (by decide +kernel) (q_ble rfl) rfl ?_
  change ma_Ev (q_G t) 0 0 0 0 m_Mod_push 0 [(0, q_a t (60)), (1, ma_i (v1)), (2, ma_i (v2)), (3, ma_j (v3))] [] (q_h f g) (ma_zr (q_G t) false Q)
  unfold p_Mod_push at hp
  refine et_aload_n (pc := 0) d_Mod_push_0 rfl rfl ?_
  refine et_aload_n (pc := 1) d_Mod_push_1 rfl rfl ?_
  refine et_geti (pc := 2) ok (fl_Mod_217 t) rfl d_Mod_push_2 s_60 ?_
  refine et_if_eq (pc := 5) (tgt := 16) d_Mod_push_5 (by decide) (fun hj1 => ?_) (fun hj1 => ?_)
  · rw [if_pos hj1] at hp
    refine ev_sub (ls2 := [(0, q_a t (60)), (1, ma_i (v1)), (3, ma_j (v3))]) [0, 1, 3] rfl ?_
    exact e_Mod_push_16 t ok  hQ   (v1) (v3) f g hp
  · rw [if_neg hj1] at hp
    refine ev_iload_n (pc := 8) d_Mod_push_8 rfl rfl ?_
    refine et_if_eq (pc := 9) (tgt := 16) d_Mod_push_9 (by decide) (fun hj2 => ?_) (fun hj2 => ?_)
    · rw [if_pos hj2] at hp
      refine ev_sub (ls2 := [(0, q_a t (60)), (1, ma_i (v1)), (3, ma_j (v3))]) [0, 1, 3] rfl ?_
      exact e_Mod_push_16 t ok  hQ   (v1) (v3) f g hp
    · rw [if_neg hj2] at hp
      refine ev_iconst (pc := 12) d_Mod_push_12 ?_
      refine ev_goto (pc := 13) (tgt := 17) d_Mod_push_13 (by decide) ?_
      refine ev_sub (ls2 := [(0, q_a t (60)), (1, ma_i (v1)), (3, ma_j (v3))]) [0, 1, 3] rfl ?_
      exact e_Mod_push_17 t ok  hQ   (v1) (v3) (1) f g hp
theorem d_Mod_reckon_0 : decode (m_c m_Mod_reckon) 0 = .ok (.aload_n 0, 1) := by decide +kernel
theorem d_Mod_reckon_1 : decode (m_c m_Mod_reckon) 1 = .ok (.iconst 1, 1) := by decide +kernel
theorem d_Mod_reckon_2 : decode (m_c m_Mod_reckon) 2 = .ok (.putfield 217, 3) := by decide +kernel
theorem d_Mod_reckon_5 : decode (m_c m_Mod_reckon) 5 = .ok (.iconst 0, 1) := by decide +kernel
theorem d_Mod_reckon_6 : decode (m_c m_Mod_reckon) 6 = .ok (.istore_n 3, 1) := by decide +kernel
theorem d_Mod_reckon_7 : decode (m_c m_Mod_reckon) 7 = .ok (.iload_n 1, 1) := by decide +kernel
theorem d_Mod_reckon_8 : decode (m_c m_Mod_reckon) 8 = .ok (.istore 4, 2) := by decide +kernel
theorem d_Mod_reckon_10 : decode (m_c m_Mod_reckon) 10 = .ok (.iload 4, 2) := by decide +kernel
theorem d_Mod_reckon_12 : decode (m_c m_Mod_reckon) 12 = .ok (.iload_n 2, 1) := by decide +kernel
theorem d_Mod_reckon_13 : decode (m_c m_Mod_reckon) 13 = .ok (.if_icmp .ge 386, 3) := by decide +kernel
theorem d_Mod_reckon_16 : decode (m_c m_Mod_reckon) 16 = .ok (.aload_n 0, 1) := by decide +kernel
theorem d_Mod_reckon_17 : decode (m_c m_Mod_reckon) 17 = .ok (.getfield 217, 3) := by decide +kernel
theorem d_Mod_reckon_20 : decode (m_c m_Mod_reckon) 20 = .ok (.ifCond .eq 379, 3) := by decide +kernel
theorem d_Mod_reckon_23 : decode (m_c m_Mod_reckon) 23 = .ok (.aload_n 0, 1) := by decide +kernel
theorem d_Mod_reckon_24 : decode (m_c m_Mod_reckon) 24 = .ok (.getfield 45, 3) := by decide +kernel
theorem d_Mod_reckon_27 : decode (m_c m_Mod_reckon) 27 = .ok (.iload 4, 2) := by decide +kernel
theorem d_Mod_reckon_29 : decode (m_c m_Mod_reckon) 29 = .ok (.iaload, 1) := by decide +kernel
theorem d_Mod_reckon_30 : decode (m_c m_Mod_reckon) 30 = .ok (.istore 5, 2) := by decide +kernel
theorem d_Mod_reckon_32 : decode (m_c m_Mod_reckon) 32 = .ok (.aload_n 0, 1) := by decide +kernel
theorem d_Mod_reckon_33 : decode (m_c m_Mod_reckon) 33 = .ok (.getfield 42, 3) := by decide +kernel
theorem d_Mod_reckon_36 : decode (m_c m_Mod_reckon) 36 = .ok (.iload 4, 2) := by decide +kernel
theorem d_Mod_reckon_38 : decode (m_c m_Mod_reckon) 38 = .ok (.iaload, 1) := by decide +kernel
theorem d_Mod_reckon_39 : decode (m_c m_Mod_reckon) 39 = .ok (.ifCond .ne 12, 3) := by decide +kernel
theorem d_Mod_reckon_42 : decode (m_c m_Mod_reckon) 42 = .ok (.aload_n 0, 1) := by decide +kernel
theorem d_Mod_reckon_43 : decode (m_c m_Mod_reckon) 43 = .ok (.iload_n 3, 1) := by decide +kernel
theorem d_Mod_reckon_44 : decode (m_c m_Mod_reckon) 44 = .ok (.iconst 1, 1) := by decide +kernel
theorem d_Mod_reckon_45 : decode (m_c m_Mod_reckon) 45 = .ok (.iload 5, 2) := by decide +kernel
theorem d_Mod_reckon_47 : decode (m_c m_Mod_reckon) 47 = .ok (.i2l, 1) := by decide +kernel
theorem d_Mod_reckon_48 : decode (m_c m_Mod_reckon) 48 = .ok (.invokevirtual 220, 3) := by decide +kernel
theorem d_Mod_reckon_51 : decode (m_c m_Mod_reckon) 51 = .ok (.aload_n 0, 1) := by decide +kernel
theorem d_Mod_reckon_52 : decode (m_c m_Mod_reckon) 52 = .ok (.getfield 42, 3) := by decide +kernel
theorem d_Mod_reckon_55 : decode (m_c m_Mod_reckon) 55 = .ok (.iload 4, 2) := by decide +kernel
theorem d_Mod_reckon_57 : decode (m_c m_Mod_reckon) 57 = .ok (.iaload, 1) := by decide +kernel
theorem d_Mod_reckon_58 : decode (m_c m_Mod_reckon) 58 = .ok (.iconst 1, 1) := by decide +kernel
theorem d_Mod_reckon_59 : decode (m_c m_Mod_reckon) 59 = .ok (.if_icmp .ne 23, 3) := by decide +kernel
theorem d_Mod_reckon_62 : decode (m_c m_Mod_reckon) 62 = .ok (.aload_n 0, 1) := by decide +kernel
theorem d_Mod_reckon_63 : decode (m_c m_Mod_reckon) 63 = .ok (.iload_n 3, 1) := by decide +kernel
theorem d_Mod_reckon_64 : decode (m_c m_Mod_reckon) 64 = .ok (.aload_n 0, 1) := by decide +kernel
theorem d_Mod_reckon_65 : decode (m_c m_Mod_reckon) 65 = .ok (.getfield 106, 3) := by decide +kernel
theorem d_Mod_reckon_68 : decode (m_c m_Mod_reckon) 68 = .ok (.iload 5, 2) := by decide +kernel
theorem d_Mod_reckon_70 : decode (m_c m_Mod_reckon) 70 = .ok (.baload, 1) := by decide +kernel
theorem d_Mod_reckon_71 : decode (m_c m_Mod_reckon) 71 = .ok (.aload_n 0, 1) := by decide +kernel
theorem d_Mod_reckon_72 : decode (m_c m_Mod_reckon) 72 = .ok (.getfield 118, 3) := by decide +kernel
theorem d_Mod_reckon_75 : decode (m_c m_Mod_reckon) 75 = .ok (.iload 5, 2) := by decide +kernel
theorem d_Mod_reckon_77 : decode (m_c m_Mod_reckon) 77 = .ok (.iaload, 1) := by decide +kernel
theorem d_Mod_reckon_78 : decode (m_c m_Mod_reckon) 78 = .ok (.i2l, 1) := by decide +kernel
theorem d_Mod_reckon_79 : decode (m_c m_Mod_reckon) 79 = .ok (.invokevirtual 220, 3) := by decide +kernel
theorem d_Mod_reckon_82 : decode (m_c m_Mod_reckon) 82 = .ok (.aload_n 0, 1) := by decide +kernel
theorem d_Mod_reckon_83 : decode (m_c m_Mod_reckon) 83 = .ok (.getfield 42, 3) := by decide +kernel
theorem d_Mod_reckon_86 : decode (m_c m_Mod_reckon) 86 = .ok (.iload 4, 2) := by decide +kernel
theorem d_Mod_reckon_88 : decode (m_c m_Mod_reckon) 88 = .ok (.iaload, 1) := by decide +kernel
theorem d_Mod_reckon_89 : decode (m_c m_Mod_reckon) 89 = .ok (.iconst 2, 1) := by decide +kernel
theorem d_Mod_reckon_90 : decode (m_c m_Mod_reckon) 90 = .ok (.if_icmp .ne 23, 3) := by decide +kernel
theorem d_Mod_reckon_93 : decode (m_c m_Mod_reckon) 93 = .ok (.aload_n 0, 1) := by decide +kernel
theorem d_Mod_reckon_94 : decode (m_c m_Mod_reckon) 94 = .ok (.iload_n 3, 1) := by decide +kernel
theorem d_Mod_reckon_95 : decode (m_c m_Mod_reckon) 95 = .ok (.aload_n 0, 1) := by decide +kernel
theorem d_Mod_reckon_96 : decode (m_c m_Mod_reckon) 96 = .ok (.getfield 64, 3) := by decide +kernel
theorem d_Mod_reckon_99 : decode (m_c m_Mod_reckon) 99 = .ok (.iload 5, 2) := by decide +kernel
theorem d_Mod_reckon_101 : decode (m_c m_Mod_reckon) 101 = .ok (.baload, 1) := by decide +kernel
theorem d_Mod_reckon_102 : decode (m_c m_Mod_reckon) 102 = .ok (.aload_n 0, 1) := by decide +kernel
theorem d_Mod_reckon_103 : decode (m_c m_Mod_reckon) 103 = .ok (.getfield 91, 3) := by decide +kernel
theorem d_Mod_reckon_106 : decode (m_c m_Mod_reckon) 106 = .ok (.iload 5, 2) := by decide +kernel
theorem d_Mod_reckon_108 : decode (m_c m_Mod_reckon) 108 = .ok (.iaload, 1) := by decide +kernel
theorem d_Mod_reckon_109 : decode (m_c m_Mod_reckon) 109 = .ok (.i2l, 1) := by decide +kernel
theorem d_Mod_reckon_110 : decode (m_c m_Mod_reckon) 110 = .ok (.invokevirtual 220, 3) := by decide +kernel
theorem d_Mod_reckon_113 : decode (m_c m_Mod_reckon) 113 = .ok (.aload_n 0, 1) := by decide +kernel
theorem d_Mod_reckon_114 : decode (m_c m_Mod_reckon) 114 = .ok (.getfield 42, 3) := by decide +kernel
theorem d_Mod_reckon_117 : decode (m_c m_Mod_reckon) 117 = .ok (.iload 4, 2) := by decide +kernel
theorem d_Mod_reckon_119 : decode (m_c m_Mod_reckon) 119 = .ok (.iaload, 1) := by decide +kernel
theorem d_Mod_reckon_120 : decode (m_c m_Mod_reckon) 120 = .ok (.iconst 3, 1) := by decide +kernel
theorem d_Mod_reckon_121 : decode (m_c m_Mod_reckon) 121 = .ok (.if_icmp .ne 23, 3) := by decide +kernel
theorem d_Mod_reckon_124 : decode (m_c m_Mod_reckon) 124 = .ok (.aload_n 0, 1) := by decide +kernel
theorem d_Mod_reckon_125 : decode (m_c m_Mod_reckon) 125 = .ok (.iload_n 3, 1) := by decide +kernel
theorem d_Mod_reckon_126 : decode (m_c m_Mod_reckon) 126 = .ok (.aload_n 0, 1) := by decide +kernel
theorem d_Mod_reckon_127 : decode (m_c m_Mod_reckon) 127 = .ok (.getfield 64, 3) := by decide +kernel
theorem d_Mod_reckon_130 : decode (m_c m_Mod_reckon) 130 = .ok (.iload 5, 2) := by decide +kernel
theorem d_Mod_reckon_132 : decode (m_c m_Mod_reckon) 132 = .ok (.baload, 1) := by decide +kernel
theorem d_Mod_reckon_133 : decode (m_c m_Mod_reckon) 133 = .ok (.aload_n 0, 1) := by decide +kernel
theorem d_Mod_reckon_134 : decode (m_c m_Mod_reckon) 134 = .ok (.getfield 97, 3) := by decide +kernel
theorem d_Mod_reckon_137 : decode (m_c m_Mod_reckon) 137 = .ok (.iload 5, 2) := by decide +kernel
theorem d_Mod_reckon_139 : decode (m_c m_Mod_reckon) 139 = .ok (.iaload, 1) := by decide +kernel
theorem d_Mod_reckon_140 : decode (m_c m_Mod_reckon) 140 = .ok (.i2l, 1) := by decide +kernel
theorem d_Mod_reckon_141 : decode (m_c m_Mod_reckon) 141 = .ok (.invokevirtual 220, 3) := by decide +kernel
theorem d_Mod_reckon_144 : decode (m_c m_Mod_reckon) 144 = .ok (.aload_n 0, 1) := by decide +kernel
theorem d_Mod_reckon_145 : decode (m_c m_Mod_reckon) 145 = .ok (.getfield 42, 3) := by decide +kernel
theorem d_Mod_reckon_148 : decode (m_c m_Mod_reckon) 148 = .ok (.iload 4, 2) := by decide +kernel
theorem d_Mod_reckon_150 : decode (m_c m_Mod_reckon) 150 = .ok (.iaload, 1) := by decide +kernel
theorem d_Mod_reckon_151 : decode (m_c m_Mod_reckon) 151 = .ok (.iconst 4, 1) := by decide +kernel
theorem d_Mod_reckon_152 : decode (m_c m_Mod_reckon) 152 = .ok (.if_icmp .ne 23, 3) := by decide +kernel
theorem d_Mod_reckon_155 : decode (m_c m_Mod_reckon) 155 = .ok (.aload_n 0, 1) := by decide +kernel
theorem d_Mod_reckon_156 : decode (m_c m_Mod_reckon) 156 = .ok (.iload_n 3, 1) := by decide +kernel
theorem d_Mod_reckon_157 : decode (m_c m_Mod_reckon) 157 = .ok (.aload_n 0, 1) := by decide +kernel
theorem d_Mod_reckon_158 : decode (m_c m_Mod_reckon) 158 = .ok (.getfield 64, 3) := by decide +kernel
theorem d_Mod_reckon_161 : decode (m_c m_Mod_reckon) 161 = .ok (.iload 5, 2) := by decide +kernel
theorem d_Mod_reckon_163 : decode (m_c m_Mod_reckon) 163 = .ok (.baload, 1) := by decide +kernel
theorem d_Mod_reckon_164 : decode (m_c m_Mod_reckon) 164 = .ok (.aload_n 0, 1) := by decide +kernel
theorem d_Mod_reckon_165 : decode (m_c m_Mod_reckon) 165 = .ok (.getfield 94, 3) := by decide +kernel
theorem d_Mod_reckon_168 : decode (m_c m_Mod_reckon) 168 = .ok (.iload 5, 2) := by decide +kernel
theorem d_Mod_reckon_170 : decode (m_c m_Mod_reckon) 170 = .ok (.iaload, 1) := by decide +kernel
theorem d_Mod_reckon_171 : decode (m_c m_Mod_reckon) 171 = .ok (.i2l, 1) := by decide +kernel
theorem d_Mod_reckon_172 : decode (m_c m_Mod_reckon) 172 = .ok (.invokevirtual 220, 3) := by decide +kernel
theorem d_Mod_reckon_175 : decode (m_c m_Mod_reckon) 175 = .ok (.aload_n 0, 1) := by decide +kernel
theorem d_Mod_reckon_176 : decode (m_c m_Mod_reckon) 176 = .ok (.getfield 42, 3) := by decide +kernel
theorem d_Mod_reckon_179 : decode (m_c m_Mod_reckon) 179 = .ok (.iload 4, 2) := by decide +kernel
theorem d_Mod_reckon_181 : decode (m_c m_Mod_reckon) 181 = .ok (.iaload, 1) := by decide +kernel
theorem d_Mod_reckon_182 : decode (m_c m_Mod_reckon) 182 = .ok (.iconst 5, 1) := by decide +kernel
theorem d_Mod_reckon_183 : decode (m_c m_Mod_reckon) 183 = .ok (.if_icmp .ge 6, 3) := by decide +kernel
theorem d_Mod_reckon_186 : decode (m_c m_Mod_reckon) 186 = .ok (.iinc 3 1, 3) := by decide +kernel
theorem d_Mod_reckon_189 : decode (m_c m_Mod_reckon) 189 = .ok (.aload_n 0, 1) := by decide +kernel
theorem d_Mod_reckon_190 : decode (m_c m_Mod_reckon) 190 = .ok (.getfield 42, 3) := by decide +kernel
theorem d_Mod_reckon_193 : decode (m_c m_Mod_reckon) 193 = .ok (.iload 4, 2) := by decide +kernel
theorem d_Mod_reckon_195 : decode (m_c m_Mod_reckon) 195 = .ok (.iaload, 1) := by decide +kernel
theorem d_Mod_reckon_196 : decode (m_c m_Mod_reckon) 196 = .ok (.iconst 5, 1) := by decide +kernel
theorem d_Mod_reckon_197 : decode (m_c m_Mod_reckon) 197 = .ok (.if_icmp .eq 15, 3) := by decide +kernel
theorem d_Mod_reckon_200 : decode (m_c m_Mod_reckon) 200 = .ok (.aload_n 0, 1) := by decide +kernel
theorem d_Mod_reckon_201 : decode (m_c m_Mod_reckon) 201 = .ok (.getfield 42, 3) := by decide +kernel
theorem d_Mod_reckon_204 : decode (m_c m_Mod_reckon) 204 = .ok (.iload 4, 2) := by decide +kernel
theorem d_Mod_reckon_206 : decode (m_c m_Mod_reckon) 206 = .ok (.iaload, 1) := by decide +kernel
theorem d_Mod_reckon_207 : decode (m_c m_Mod_reckon) 207 = .ok (.bipush 6, 2) := by decide +kernel
theorem d_Mod_reckon_209 : decode (m_c m_Mod_reckon) 209 = .ok (.if_icmp .ne 58, 3) := by decide +kernel
theorem d_Mod_reckon_212 : decode (m_c m_Mod_reckon) 212 = .ok (.iinc 3 (-1), 3) := by decide +kernel
theorem d_Mod_reckon_215 : decode (m_c m_Mod_reckon) 215 = .ok (.aload_n 0, 1) := by decide +kernel
theorem d_Mod_reckon_216 : decode (m_c m_Mod_reckon) 216 = .ok (.getfield 48, 3) := by decide +kernel
theorem d_Mod_reckon_219 : decode (m_c m_Mod_reckon) 219 = .ok (.iload_n 3, 1) := by decide +kernel
theorem d_Mod_reckon_220 : decode (m_c m_Mod_reckon) 220 = .ok (.iconst 1, 1) := by decide +kernel
theorem d_Mod_reckon_221 : decode (m_c m_Mod_reckon) 221 = .ok (.isub, 1) := by decide +kernel
theorem d_Mod_reckon_222 : decode (m_c m_Mod_reckon) 222 = .ok (.aload_n 0, 1) := by decide +kernel
theorem d_Mod_reckon_223 : decode (m_c m_Mod_reckon) 223 = .ok (.getfield 42, 3) := by decide +kernel
theorem d_Mod_reckon_226 : decode (m_c m_Mod_reckon) 226 = .ok (.iload 4, 2) := by decide +kernel
theorem d_Mod_reckon_228 : decode (m_c m_Mod_reckon) 228 = .ok (.iaload, 1) := by decide +kernel
theorem d_Mod_reckon_229 : decode (m_c m_Mod_reckon) 229 = .ok (.iconst 5, 1) := by decide +kernel
theorem d_Mod_reckon_230 : decode (m_c m_Mod_reckon) 230 = .ok (.if_icmp .ne 21, 3) := by decide +kernel
theorem d_Mod_reckon_233 : decode (m_c m_Mod_reckon) 233 = .ok (.aload_n 0, 1) := by decide +kernel
theorem d_Mod_reckon_234 : decode (m_c m_Mod_reckon) 234 = .ok (.getfield 48, 3) := by decide +kernel
theorem d_Mod_reckon_237 : decode (m_c m_Mod_reckon) 237 = .ok (.iload_n 3, 1) := by decide +kernel
theorem d_Mod_reckon_238 : decode (m_c m_Mod_reckon) 238 = .ok (.iconst 1, 1) := by decide +kernel
theorem d_Mod_reckon_239 : decode (m_c m_Mod_reckon) 239 = .ok (.isub, 1) := by decide +kernel
theorem d_Mod_reckon_240 : decode (m_c m_Mod_reckon) 240 = .ok (.laload, 1) := by decide +kernel
theorem d_Mod_reckon_241 : decode (m_c m_Mod_reckon) 241 = .ok (.aload_n 0, 1) := by decide +kernel
theorem d_Mod_reckon_242 : decode (m_c m_Mod_reckon) 242 = .ok (.getfield 48, 3) := by decide +kernel
theorem d_Mod_reckon_245 : decode (m_c m_Mod_reckon) 245 = .ok (.iload_n 3, 1) := by decide +kernel
theorem d_Mod_reckon_246 : decode (m_c m_Mod_reckon) 246 = .ok (.laload, 1) := by decide +kernel
theorem d_Mod_reckon_247 : decode (m_c m_Mod_reckon) 247 = .ok (.ladd, 1) := by decide +kernel
theorem d_Mod_reckon_248 : decode (m_c m_Mod_reckon) 248 = .ok (.goto 18, 3) := by decide +kernel
theorem d_Mod_reckon_251 : decode (m_c m_Mod_reckon) 251 = .ok (.aload_n 0, 1) := by decide +kernel
theorem d_Mod_reckon_252 : decode (m_c m_Mod_reckon) 252 = .ok (.getfield 48, 3) := by decide +kernel
theorem d_Mod_reckon_255 : decode (m_c m_Mod_reckon) 255 = .ok (.iload_n 3, 1) := by decide +kernel
theorem d_Mod_reckon_256 : decode (m_c m_Mod_reckon) 256 = .ok (.iconst 1, 1) := by decide +kernel
theorem d_Mod_reckon_257 : decode (m_c m_Mod_reckon) 257 = .ok (.isub, 1) := by decide +kernel
theorem d_Mod_reckon_258 : decode (m_c m_Mod_reckon) 258 = .ok (.laload, 1) := by decide +kernel
theorem d_Mod_reckon_259 : decode (m_c m_Mod_reckon) 259 = .ok (.aload_n 0, 1) := by decide +kernel
theorem d_Mod_reckon_260 : decode (m_c m_Mod_reckon) 260 = .ok (.getfield 48, 3) := by decide +kernel
theorem d_Mod_reckon_263 : decode (m_c m_Mod_reckon) 263 = .ok (.iload_n 3, 1) := by decide +kernel
theorem d_Mod_reckon_264 : decode (m_c m_Mod_reckon) 264 = .ok (.laload, 1) := by decide +kernel
theorem d_Mod_reckon_265 : decode (m_c m_Mod_reckon) 265 = .ok (.lsub, 1) := by decide +kernel
theorem d_Mod_reckon_266 : decode (m_c m_Mod_reckon) 266 = .ok (.lastore, 1) := by decide +kernel
theorem d_Mod_reckon_267 : decode (m_c m_Mod_reckon) 267 = .ok (.aload_n 0, 1) := by decide +kernel
theorem d_Mod_reckon_268 : decode (m_c m_Mod_reckon) 268 = .ok (.getfield 42, 3) := by decide +kernel
theorem d_Mod_reckon_271 : decode (m_c m_Mod_reckon) 271 = .ok (.iload 4, 2) := by decide +kernel
theorem d_Mod_reckon_273 : decode (m_c m_Mod_reckon) 273 = .ok (.iaload, 1) := by decide +kernel
theorem d_Mod_reckon_274 : decode (m_c m_Mod_reckon) 274 = .ok (.bipush 7, 2) := by decide +kernel
theorem d_Mod_reckon_276 : decode (m_c m_Mod_reckon) 276 = .ok (.if_icmp .ne 53, 3) := by decide +kernel
theorem d_Mod_reckon_279 : decode (m_c m_Mod_reckon) 279 = .ok (.aload_n 0, 1) := by decide +kernel
theorem d_Mod_reckon_280 : decode (m_c m_Mod_reckon) 280 = .ok (.aload_n 0, 1) := by decide +kernel
theorem d_Mod_reckon_281 : decode (m_c m_Mod_reckon) 281 = .ok (.getfield 224, 3) := by decide +kernel
theorem d_Mod_reckon_284 : decode (m_c m_Mod_reckon) 284 = .ok (.ifCond .ne 16, 3) := by decide +kernel
theorem d_Mod_reckon_287 : decode (m_c m_Mod_reckon) 287 = .ok (.aload_n 0, 1) := by decide +kernel
theorem d_Mod_reckon_288 : decode (m_c m_Mod_reckon) 288 = .ok (.getfield 48, 3) := by decide +kernel
theorem d_Mod_reckon_291 : decode (m_c m_Mod_reckon) 291 = .ok (.iload_n 3, 1) := by decide +kernel
theorem d_Mod_reckon_292 : decode (m_c m_Mod_reckon) 292 = .ok (.iconst 1, 1) := by decide +kernel
theorem d_Mod_reckon_293 : decode (m_c m_Mod_reckon) 293 = .ok (.isub, 1) := by decide +kernel
theorem d_Mod_reckon_294 : decode (m_c m_Mod_reckon) 294 = .ok (.laload, 1) := by decide +kernel
theorem d_Mod_reckon_295 : decode (m_c m_Mod_reckon) 295 = .ok (.lconst 0, 1) := by decide +kernel
theorem d_Mod_reckon_296 : decode (m_c m_Mod_reckon) 296 = .ok (.lcmp, 1) := by decide +kernel
theorem d_Mod_reckon_297 : decode (m_c m_Mod_reckon) 297 = .ok (.ifCond .ge 7, 3) := by decide +kernel
theorem d_Mod_reckon_300 : decode (m_c m_Mod_reckon) 300 = .ok (.iconst 1, 1) := by decide +kernel
theorem d_Mod_reckon_301 : decode (m_c m_Mod_reckon) 301 = .ok (.goto 4, 3) := by decide +kernel
theorem d_Mod_reckon_304 : decode (m_c m_Mod_reckon) 304 = .ok (.iconst 0, 1) := by decide +kernel
theorem d_Mod_reckon_305 : decode (m_c m_Mod_reckon) 305 = .ok (.putfield 224, 3) := by decide +kernel
theorem d_Mod_reckon_308 : decode (m_c m_Mod_reckon) 308 = .ok (.aload_n 0, 1) := by decide +kernel
theorem d_Mod_reckon_309 : decode (m_c m_Mod_reckon) 309 = .ok (.getfield 48, 3) := by decide +kernel
theorem d_Mod_reckon_312 : decode (m_c m_Mod_reckon) 312 = .ok (.iload_n 3, 1) := by decide +kernel
theorem d_Mod_reckon_313 : decode (m_c m_Mod_reckon) 313 = .ok (.iconst 1, 1) := by decide +kernel
theorem d_Mod_reckon_314 : decode (m_c m_Mod_reckon) 314 = .ok (.isub, 1) := by decide +kernel
theorem d_Mod_reckon_315 : decode (m_c m_Mod_reckon) 315 = .ok (.aload_n 0, 1) := by decide +kernel
theorem d_Mod_reckon_316 : decode (m_c m_Mod_reckon) 316 = .ok (.getfield 48, 3) := by decide +kernel
theorem d_Mod_reckon_319 : decode (m_c m_Mod_reckon) 319 = .ok (.iload_n 3, 1) := by decide +kernel
theorem d_Mod_reckon_320 : decode (m_c m_Mod_reckon) 320 = .ok (.iconst 1, 1) := by decide +kernel
theorem d_Mod_reckon_321 : decode (m_c m_Mod_reckon) 321 = .ok (.isub, 1) := by decide +kernel
theorem d_Mod_reckon_322 : decode (m_c m_Mod_reckon) 322 = .ok (.laload, 1) := by decide +kernel
theorem d_Mod_reckon_323 : decode (m_c m_Mod_reckon) 323 = .ok (.iload 5, 2) := by decide +kernel
theorem d_Mod_reckon_325 : decode (m_c m_Mod_reckon) 325 = .ok (.invokestatic 227, 3) := by decide +kernel
theorem d_Mod_reckon_328 : decode (m_c m_Mod_reckon) 328 = .ok (.lastore, 1) := by decide +kernel
theorem d_Mod_reckon_329 : decode (m_c m_Mod_reckon) 329 = .ok (.aload_n 0, 1) := by decide +kernel
theorem d_Mod_reckon_330 : decode (m_c m_Mod_reckon) 330 = .ok (.getfield 42, 3) := by decide +kernel
theorem d_Mod_reckon_333 : decode (m_c m_Mod_reckon) 333 = .ok (.iload 4, 2) := by decide +kernel
theorem d_Mod_reckon_335 : decode (m_c m_Mod_reckon) 335 = .ok (.iaload, 1) := by decide +kernel
theorem d_Mod_reckon_336 : decode (m_c m_Mod_reckon) 336 = .ok (.iconst 4, 1) := by decide +kernel
theorem d_Mod_reckon_337 : decode (m_c m_Mod_reckon) 337 = .ok (.if_icmp .le 56, 3) := by decide +kernel
theorem d_Mod_reckon_340 : decode (m_c m_Mod_reckon) 340 = .ok (.aload_n 0, 1) := by decide +kernel
theorem d_Mod_reckon_341 : decode (m_c m_Mod_reckon) 341 = .ok (.getfield 217, 3) := by decide +kernel
theorem d_Mod_reckon_344 : decode (m_c m_Mod_reckon) 344 = .ok (.ifCond .eq 49, 3) := by decide +kernel
theorem d_Mod_reckon_347 : decode (m_c m_Mod_reckon) 347 = .ok (.aload_n 0, 1) := by decide +kernel
theorem d_Mod_reckon_348 : decode (m_c m_Mod_reckon) 348 = .ok (.aload_n 0, 1) := by decide +kernel
theorem d_Mod_reckon_349 : decode (m_c m_Mod_reckon) 349 = .ok (.getfield 224, 3) := by decide +kernel
theorem d_Mod_reckon_352 : decode (m_c m_Mod_reckon) 352 = .ok (.ifCond .ne 33, 3) := by decide +kernel
theorem d_Mod_reckon_355 : decode (m_c m_Mod_reckon) 355 = .ok (.aload_n 0, 1) := by decide +kernel
theorem d_Mod_reckon_356 : decode (m_c m_Mod_reckon) 356 = .ok (.getfield 48, 3) := by decide +kernel
theorem d_Mod_reckon_359 : decode (m_c m_Mod_reckon) 359 = .ok (.iload_n 3, 1) := by decide +kernel
theorem d_Mod_reckon_360 : decode (m_c m_Mod_reckon) 360 = .ok (.iconst 1, 1) := by decide +kernel
theorem d_Mod_reckon_361 : decode (m_c m_Mod_reckon) 361 = .ok (.isub, 1) := by decide +kernel
theorem d_Mod_reckon_362 : decode (m_c m_Mod_reckon) 362 = .ok (.laload, 1) := by decide +kernel
theorem d_Mod_reckon_363 : decode (m_c m_Mod_reckon) 363 = .ok (.ldc2_w 231, 3) := by decide +kernel
theorem d_Mod_reckon_366 : decode (m_c m_Mod_reckon) 366 = .ok (.lcmp, 1) := by decide +kernel
theorem d_Mod_reckon_367 : decode (m_c m_Mod_reckon) 367 = .ok (.ifCond .lt 18, 3) := by decide +kernel
theorem d_Mod_reckon_370 : decode (m_c m_Mod_reckon) 370 = .ok (.aload_n 0, 1) := by decide +kernel
theorem d_Mod_reckon_371 : decode (m_c m_Mod_reckon) 371 = .ok (.getfield 48, 3) := by decide +kernel
theorem d_Mod_reckon_374 : decode (m_c m_Mod_reckon) 374 = .ok (.iload_n 3, 1) := by decide +kernel
theorem d_Mod_reckon_375 : decode (m_c m_Mod_reckon) 375 = .ok (.iconst 1, 1) := by decide +kernel
theorem d_Mod_reckon_376 : decode (m_c m_Mod_reckon) 376 = .ok (.isub, 1) := by decide +kernel
theorem d_Mod_reckon_377 : decode (m_c m_Mod_reckon) 377 = .ok (.laload, 1) := by decide +kernel
theorem d_Mod_reckon_378 : decode (m_c m_Mod_reckon) 378 = .ok (.ldc2_w 233, 3) := by decide +kernel
theorem d_Mod_reckon_381 : decode (m_c m_Mod_reckon) 381 = .ok (.lcmp, 1) := by decide +kernel
theorem d_Mod_reckon_382 : decode (m_c m_Mod_reckon) 382 = .ok (.ifCond .le 7, 3) := by decide +kernel
theorem d_Mod_reckon_385 : decode (m_c m_Mod_reckon) 385 = .ok (.iconst 1, 1) := by decide +kernel
theorem d_Mod_reckon_386 : decode (m_c m_Mod_reckon) 386 = .ok (.goto 4, 3) := by decide +kernel
theorem d_Mod_reckon_389 : decode (m_c m_Mod_reckon) 389 = .ok (.iconst 0, 1) := by decide +kernel
theorem d_Mod_reckon_390 : decode (m_c m_Mod_reckon) 390 = .ok (.putfield 224, 3) := by decide +kernel
theorem d_Mod_reckon_393 : decode (m_c m_Mod_reckon) 393 = .ok (.iinc 4 1, 3) := by decide +kernel
theorem d_Mod_reckon_396 : decode (m_c m_Mod_reckon) 396 = .ok (.goto (-386), 3) := by decide +kernel
theorem d_Mod_reckon_399 : decode (m_c m_Mod_reckon) 399 = .ok (.aload_n 0, 1) := by decide +kernel
theorem d_Mod_reckon_400 : decode (m_c m_Mod_reckon) 400 = .ok (.getfield 48, 3) := by decide +kernel
theorem d_Mod_reckon_403 : decode (m_c m_Mod_reckon) 403 = .ok (.iconst 0, 1) := by decide +kernel
theorem d_Mod_reckon_404 : decode (m_c m_Mod_reckon) 404 = .ok (.laload, 1) := by decide +kernel
theorem d_Mod_reckon_405 : decode (m_c m_Mod_reckon) 405 = .ok (.lreturn, 1) := by decide +kernel
def p_Mod_reckon_399    (f g : q_F) : Option (Int × q_F × q_F) :=
  some (g 72 (Int.toNat 0), f, g)
def p_Mod_reckon_393  (c10 : Int → Int → Int → q_F → q_F → Option (Int × q_F × q_F)) (v2 : Int) (v3 : Int) (v4 : Int) (f g : q_F) : Option (Int × q_F × q_F) :=
  q_let (v4 + 1) fun z1 =>
  c10 (v2) (v3) (z1) f g
def p_Mod_reckon_390  (c10 : Int → Int → Int → q_F → q_F → Option (Int × q_F × q_F)) (v2 : Int) (v3 : Int) (v4 : Int) (s0 : Int) (f g : q_F) : Option (Int × q_F × q_F) :=
  if s0 = 0 ∨ s0 = 1 then
    q_let (ma_up f 60 21 s0) fun f2 =>
    p_Mod_reckon_393  c10 (v2) (v3) (v4) f2 g
  else none
def p_Mod_reckon_385  (c10 : Int → Int → Int → q_F → q_F → Option (Int × q_F × q_F)) (v2 : Int) (v3 : Int) (v4 : Int) (f g : q_F) : Option (Int × q_F × q_F) :=
  p_Mod_reckon_390  c10 (v2) (v3) (v4) (1) f g
def p_Mod_reckon_329  (c10 : Int → Int → Int → q_F → q_F → Option (Int × q_F × q_F)) (v2 : Int) (v3 : Int) (v4 : Int) (f g : q_F) : Option (Int × q_F × q_F) :=
  if 0 ≤ v4 ∧ v4 < 160 then
    if q_sw (f 70 (Int.toNat v4)) ≤ q_sw 4 then
      p_Mod_reckon_393  c10 (v2) (v3) (v4) f g
    else
      if q_sw (f 60 20) = 0 then
        p_Mod_reckon_393  c10 (v2) (v3) (v4) f g
      else
        if q_sw (f 60 21) = 0 then
          if 0 ≤ (v3 - 1) ∧ (v3 - 1) < 160 then
            if q_sw (q_lcmp (g 72 (Int.toNat (v3 - 1))) (-100000)) < 0 then
              p_Mod_reckon_385  c10 (v2) (v3) (v4) f g
            else
              if 0 ≤ (v3 - 1) ∧ (v3 - 1) < 160 then
                if q_sw (q_lcmp (g 72 (Int.toNat (v3 - 1))) 100000) ≤ 0 then
                  p_Mod_reckon_390  c10 (v2) (v3) (v4) (0) f g
                else
                  p_Mod_reckon_385  c10 (v2) (v3) (v4) f g
              else none
          else none
        else
          p_Mod_reckon_385  c10 (v2) (v3) (v4) f g
  else none
def p_Mod_reckon_305  (c10 : Int → Int → Int → q_F → q_F → Option (Int × q_F × q_F)) (v2 : Int) (v3 : Int) (v4 : Int) (v5 : Int) (s0 : Int) (f g : q_F) : Option (Int × q_F × q_F) :=
  if s0 = 0 ∨ s0 = 1 then
    q_let (ma_up f 60 21 s0) fun f2 =>
    if 0 ≤ (v3 - 1) ∧ (v3 - 1) < 160 then
      (p_Mod_raised (g 72 (Int.toNat (v3 - 1))) (v5) f2 g).bind fun x4 =>
      if 0 ≤ (v3 - 1) ∧ (v3 - 1) < 160 then
        q_let (ma_up x4.2.2 72 (Int.toNat (v3 - 1)) x4.1) fun g7 =>
        p_Mod_reckon_329  c10 (v2) (v3) (v4) x4.2.1 g7
      else none
    else none
  else none
def p_Mod_reckon_300  (c10 : Int → Int → Int → q_F → q_F → Option (Int × q_F × q_F)) (v2 : Int) (v3 : Int) (v4 : Int) (v5 : Int) (f g : q_F) : Option (Int × q_F × q_F) :=
  p_Mod_reckon_305  c10 (v2) (v3) (v4) (v5) (1) f g
def p_Mod_reckon_267  (c10 : Int → Int → Int → q_F → q_F → Option (Int × q_F × q_F)) (v2 : Int) (v3 : Int) (v4 : Int) (v5 : Int) (f g : q_F) : Option (Int × q_F × q_F) :=
  if 0 ≤ v4 ∧ v4 < 160 then
    if q_sw (f 70 (Int.toNat v4)) = q_sw 7 then
      if q_sw (f 60 21) = 0 then
        if 0 ≤ (v3 - 1) ∧ (v3 - 1) < 160 then
          if 0 ≤ q_sw (q_lcmp (g 72 (Int.toNat (v3 - 1))) 0) then
            p_Mod_reckon_305  c10 (v2) (v3) (v4) (v5) (0) f g
          else
            p_Mod_reckon_300  c10 (v2) (v3) (v4) (v5) f g
        else none
      else
        p_Mod_reckon_300  c10 (v2) (v3) (v4) (v5) f g
    else
      p_Mod_reckon_329  c10 (v2) (v3) (v4) f g
  else none
def p_Mod_reckon_266  (c10 : Int → Int → Int → q_F → q_F → Option (Int × q_F × q_F)) (v2 : Int) (v3 : Int) (v4 : Int) (v5 : Int) (s0 : Int) (s1 : Int) (f g : q_F) : Option (Int × q_F × q_F) :=
  if 0 ≤ s1 ∧ s1 < 160 then
    q_let (ma_up g 72 (Int.toNat s1) s0) fun g2 =>
    p_Mod_reckon_267  c10 (v2) (v3) (v4) (v5) f g2
  else none
def p_Mod_reckon_212  (c10 : Int → Int → Int → q_F → q_F → Option (Int × q_F × q_F)) (v2 : Int) (v3 : Int) (v4 : Int) (v5 : Int) (f g : q_F) : Option (Int × q_F × q_F) :=
  q_let (v3 + (-1)) fun z1 =>
  if 0 ≤ v4 ∧ v4 < 160 then
    if q_sw (f 70 (Int.toNat v4)) = q_sw 5 then
      if 0 ≤ (z1 - 1) ∧ (z1 - 1) < 160 then
        if 0 ≤ z1 ∧ z1 < 160 then
          p_Mod_reckon_266  c10 (v2) (z1) (v4) (v5) ((g 72 (Int.toNat (z1 - 1))) + (g 72 (Int.toNat z1))) (z1 - 1) f g
        else none
      else none
    else
      if 0 ≤ (z1 - 1) ∧ (z1 - 1) < 160 then
        if 0 ≤ z1 ∧ z1 < 160 then
          p_Mod_reckon_266  c10 (v2) (z1) (v4) (v5) ((g 72 (Int.toNat (z1 - 1))) - (g 72 (Int.toNat z1))) (z1 - 1) f g
        else none
      else none
  else none
def p_Mod_reckon_189  (c10 : Int → Int → Int → q_F → q_F → Option (Int × q_F × q_F)) (v2 : Int) (v3 : Int) (v4 : Int) (v5 : Int) (f g : q_F) : Option (Int × q_F × q_F) :=
  if 0 ≤ v4 ∧ v4 < 160 then
    if q_sw (f 70 (Int.toNat v4)) = q_sw 5 then
      p_Mod_reckon_212  c10 (v2) (v3) (v4) (v5) f g
    else
      if 0 ≤ v4 ∧ v4 < 160 then
        if q_sw (f 70 (Int.toNat v4)) = q_sw 6 then
          p_Mod_reckon_212  c10 (v2) (v3) (v4) (v5) f g
        else
          p_Mod_reckon_267  c10 (v2) (v3) (v4) (v5) f g
      else none
  else none
def p_Mod_reckon_175  (c10 : Int → Int → Int → q_F → q_F → Option (Int × q_F × q_F)) (v2 : Int) (v3 : Int) (v4 : Int) (v5 : Int) (f g : q_F) : Option (Int × q_F × q_F) :=
  if 0 ≤ v4 ∧ v4 < 160 then
    if q_sw 5 ≤ q_sw (f 70 (Int.toNat v4)) then
      p_Mod_reckon_189  c10 (v2) (v3) (v4) (v5) f g
    else
      q_let (v3 + 1) fun z3 =>
      p_Mod_reckon_189  c10 (v2) (z3) (v4) (v5) f g
  else none
def p_Mod_reckon_144  (c10 : Int → Int → Int → q_F → q_F → Option (Int × q_F × q_F)) (v2 : Int) (v3 : Int) (v4 : Int) (v5 : Int) (f g : q_F) : Option (Int × q_F × q_F) :=
  if 0 ≤ v4 ∧ v4 < 160 then
    if q_sw (f 70 (Int.toNat v4)) = q_sw 4 then
      if 0 ≤ v5 ∧ v5 < 8 then
        if 0 ≤ v5 ∧ v5 < 8 then
          (p_Mod_push (v3) (f 77 (Int.toNat v5)) (q_sw (f 87 (Int.toNat v5))) f g).bind fun x5 =>
          p_Mod_reckon_175  c10 (v2) (v3) (v4) (v5) x5.1 x5.2
        else none
      else none
    else
      p_Mod_reckon_175  c10 (v2) (v3) (v4) (v5) f g
  else none
def p_Mod_reckon_113  (c10 : Int → Int → Int → q_F → q_F → Option (Int × q_F × q_F)) (v2 : Int) (v3 : Int) (v4 : Int) (v5 : Int) (f g : q_F) : Option (Int × q_F × q_F) :=
  if 0 ≤ v4 ∧ v4 < 160 then
    if q_sw (f 70 (Int.toNat v4)) = q_sw 3 then
      if 0 ≤ v5 ∧ v5 < 8 then
        if 0 ≤ v5 ∧ v5 < 8 then
          (p_Mod_push (v3) (f 77 (Int.toNat v5)) (q_sw (f 88 (Int.toNat v5))) f g).bind fun x5 =>
          p_Mod_reckon_144  c10 (v2) (v3) (v4) (v5) x5.1 x5.2
        else none
      else none
    else
      p_Mod_reckon_144  c10 (v2) (v3) (v4) (v5) f g
  else none
def p_Mod_reckon_82  (c10 : Int → Int → Int → q_F → q_F → Option (Int × q_F × q_F)) (v2 : Int) (v3 : Int) (v4 : Int) (v5 : Int) (f g : q_F) : Option (Int × q_F × q_F) :=
  if 0 ≤ v4 ∧ v4 < 160 then
    if q_sw (f 70 (Int.toNat v4)) = q_sw 2 then
      if 0 ≤ v5 ∧ v5 < 8 then
        if 0 ≤ v5 ∧ v5 < 8 then
          (p_Mod_push (v3) (f 77 (Int.toNat v5)) (q_sw (f 86 (Int.toNat v5))) f g).bind fun x5 =>
          p_Mod_reckon_113  c10 (v2) (v3) (v4) (v5) x5.1 x5.2
        else none
      else none
    else
      p_Mod_reckon_113  c10 (v2) (v3) (v4) (v5) f g
  else none
def p_Mod_reckon_51  (c10 : Int → Int → Int → q_F → q_F → Option (Int × q_F × q_F)) (v2 : Int) (v3 : Int) (v4 : Int) (v5 : Int) (f g : q_F) : Option (Int × q_F × q_F) :=
  if 0 ≤ v4 ∧ v4 < 160 then
    if q_sw (f 70 (Int.toNat v4)) = q_sw 1 then
      if 0 ≤ v5 ∧ v5 < 26 then
        if 0 ≤ v5 ∧ v5 < 26 then
          (p_Mod_push (v3) (f 91 (Int.toNat v5)) (q_sw (f 95 (Int.toNat v5))) f g).bind fun x5 =>
          p_Mod_reckon_82  c10 (v2) (v3) (v4) (v5) x5.1 x5.2
        else none
      else none
    else
      p_Mod_reckon_82  c10 (v2) (v3) (v4) (v5) f g
  else none
def p_Mod_reckon_10   : Nat → Int → Int → Int → q_F → q_F → Option (Int × q_F × q_F)
  | 0, _, _, _, _, _ => none
  | n + 1, v2, v3, v4, f, g =>
    if q_sw v2 ≤ q_sw v4 then
      p_Mod_reckon_399    f g
    else
      if q_sw (f 60 20) = 0 then
        p_Mod_reckon_399    f g
      else
        if 0 ≤ v4 ∧ v4 < 160 then
          q_let (f 71 (Int.toNat v4)) fun z4 =>
          if 0 ≤ v4 ∧ v4 < 160 then
            if q_sw (f 70 (Int.toNat v4)) = 0 then
              (p_Mod_push (v3) (1) (q_sw z4) f g).bind fun x7 =>
              p_Mod_reckon_51  (p_Mod_reckon_10   n) (v2) (v3) (v4) (z4) x7.1 x7.2
            else
              p_Mod_reckon_51  (p_Mod_reckon_10   n) (v2) (v3) (v4) (z4) f g
          else none
        else none
def p_Mod_reckon  (v1 : Int) (v2 : Int) (f g : q_F) : Option (Int × q_F × q_F) :=
  q_let (ma_up f 60 20 1) fun f1 =>
  p_Mod_reckon_10   1000 (v2) (0) (v1) f1 g
theorem e_Mod_reckon_399 (t : q_V) (ok : ma_ok (q_G t))  {Q : Option Value → ma_H → Prop} {y : Int × q_F × q_F} (hQ : Q (some (ma_j y.1)) (q_h y.2.1 y.2.2))    (f g : q_F) (hp : p_Mod_reckon_399    f g = some y) : ma_Ev (q_G t) 1 24 0 0 m_Mod_reckon 399 [(0, q_a t (60))] [] (q_h f g) (ma_zr (q_G t) false Q) := by
  unfold p_Mod_reckon_399 at hp
  refine et_aload_n (pc := 399) d_Mod_reckon_399 rfl rfl ?_
  refine et_getr (pc := 400) ok (fl_Mod_48 t) rfl d_Mod_reckon_400 s_60 r_60_17 ?_
  refine ev_iconst (pc := 403) d_Mod_reckon_403 ?_
  refine et_lald (pc := 404) d_Mod_reckon_404 s_72 ⟨by decide, by decide⟩ (by decide) ?_
  cases Option.some.inj hp
  exact et_lret (pc := 405) d_Mod_reckon_405 rfl hQ
theorem e_Mod_reckon_393 (t : q_V) (ok : ma_ok (q_G t))  {Q : Option Value → ma_H → Prop} {y : Int × q_F × q_F} (hQ : Q (some (ma_j y.1)) (q_h y.2.1 y.2.2)) (c10 : Int → Int → Int → q_F → q_F → Option (Int × q_F × q_F)) (hc10 : ∀ (v2 : Int) (v3 : Int) (v4 : Int) (f g : q_F), c10 v2 v3 v4 f g = some y → ma_Ev (q_G t) 1 24 0 0 m_Mod_reckon 10 [(0, q_a t (60)), (2, ma_i (v2)), (3, ma_i (v3)), (4, ma_i (v4))] [] (q_h f g) (ma_zr (q_G t) false Q)) (v2 : Int) (v3 : Int) (v4 : Int) (f g : q_F) (hp : p_Mod_reckon_393  c10 v2 v3 v4 f g = some y) : ma_Ev (q_G t) 1 24 0 0 m_Mod_reckon 393 [(0, q_a t (60)), (2, ma_i (v2)), (3, ma_i (v3)), (4, ma_i (v4))] [] (q_h f g) (ma_zr (q_G t) false Q) := by
  unfold p_Mod_reckon_393 at hp
  refine ev_iinc (pc := 393) d_Mod_reckon_393 (by decide) rfl [(4, _), (0, _), (2, _), (3, _)] rfl ?_
  replace hp := q_let_of hp
  obtain ⟨z1, hz, hp⟩ := hp
  rw [← hz]
  clear hz
  refine ev_goto (pc := 396) (tgt := 10) d_Mod_reckon_396 (by decide) ?_
  refine ev_sub (ls2 := [(0, q_a t (60)), (2, ma_i (v2)), (3, ma_i (v3)), (4, ma_i (z1))]) [1, 2, 3, 0] rfl ?_
  exact hc10 (v2) (v3) (z1) f g hp
theorem e_Mod_reckon_390 (t : q_V) (ok : ma_ok (q_G t))  {Q : Option Value → ma_H → Prop} {y : Int × q_F × q_F} (hQ : Q (some (ma_j y.1)) (q_h y.2.1 y.2.2)) (c10 : Int → Int → Int → q_F → q_F → Option (Int × q_F × q_F)) (hc10 : ∀ (v2 : Int) (v3 : Int) (v4 : Int) (f g : q_F), c10 v2 v3 v4 f g = some y → ma_Ev (q_G t) 1 24 0 0 m_Mod_reckon 10 [(0, q_a t (60)), (2, ma_i (v2)), (3, ma_i (v3)), (4, ma_i (v4))] [] (q_h f g) (ma_zr (q_G t) false Q)) (v2 : Int) (v3 : Int) (v4 : Int) (s0 : Int) (f g : q_F) (hp : p_Mod_reckon_390  c10 v2 v3 v4 s0 f g = some y) : ma_Ev (q_G t) 1 24 0 0 m_Mod_reckon 390 [(0, q_a t (60)), (2, ma_i (v2)), (3, ma_i (v3)), (4, ma_i (v4))] [ma_i (s0), q_a t (60)] (q_h f g) (ma_zr (q_G t) false Q) := by
  unfold p_Mod_reckon_390 at hp
  replace hp := q_if hp
  obtain ⟨hb1, hp⟩ := hp
  refine et_putz (pc := 390) ok (fl_Mod_224 t) hb1 d_Mod_reckon_390 s_60 ?_
  replace hp := q_let_of hp
  obtain ⟨f2, hz, hp⟩ := hp
  rw [← hz]
  clear hz
  refine ev_sub (ls2 := [(0, q_a t (60)), (2, ma_i (v2)), (3, ma_i (v3)), (4, ma_i (v4))]) [0, 1, 2, 3] rfl ?_
  exact e_Mod_reckon_393 t ok  hQ c10 hc10 (v2) (v3) (v4) f2 g hp
theorem e_Mod_reckon_385 (t : q_V) (ok : ma_ok (q_G t))  {Q : Option Value → ma_H → Prop} {y : Int × q_F × q_F} (hQ : Q (some (ma_j y.1)) (q_h y.2.1 y.2.2)) (c10 : Int → Int → Int → q_F → q_F → Option (Int × q_F × q_F)) (hc10 : ∀ (v2 : Int) (v3 : Int) (v4 : Int) (f g : q_F), c10 v2 v3 v4 f g = some y → ma_Ev (q_G t) 1 24 0 0 m_Mod_reckon 10 [(0, q_a t (60)), (2, ma_i (v2)), (3, ma_i (v3)), (4, ma_i (v4))] [] (q_h f g) (ma_zr (q_G t) false Q)) (v2 : Int) (v3 : Int) (v4 : Int) (f g : q_F) (hp : p_Mod_reckon_385  c10 v2 v3 v4 f g = some y) : ma_Ev (q_G t) 1 24 0 0 m_Mod_reckon 385 [(0, q_a t (60)), (2, ma_i (v2)), (3, ma_i (v3)), (4, ma_i (v4))] [q_a t (60)] (q_h f g) (ma_zr (q_G t) false Q) := by
  unfold p_Mod_reckon_385 at hp
  refine ev_iconst (pc := 385) d_Mod_reckon_385 ?_
  refine ev_goto (pc := 386) (tgt := 390) d_Mod_reckon_386 (by decide) ?_
  refine ev_sub (ls2 := [(0, q_a t (60)), (2, ma_i (v2)), (3, ma_i (v3)), (4, ma_i (v4))]) [0, 1, 2, 3] rfl ?_
  exact e_Mod_reckon_390 t ok  hQ c10 hc10 (v2) (v3) (v4) (1) f g hp
theorem e_Mod_reckon_329 (t : q_V) (ok : ma_ok (q_G t))  {Q : Option Value → ma_H → Prop} {y : Int × q_F × q_F} (hQ : Q (some (ma_j y.1)) (q_h y.2.1 y.2.2)) (c10 : Int → Int → Int → q_F → q_F → Option (Int × q_F × q_F)) (hc10 : ∀ (v2 : Int) (v3 : Int) (v4 : Int) (f g : q_F), c10 v2 v3 v4 f g = some y → ma_Ev (q_G t) 1 24 0 0 m_Mod_reckon 10 [(0, q_a t (60)), (2, ma_i (v2)), (3, ma_i (v3)), (4, ma_i (v4))] [] (q_h f g) (ma_zr (q_G t) false Q)) (v2 : Int) (v3 : Int) (v4 : Int) (f g : q_F) (hp : p_Mod_reckon_329  c10 v2 v3 v4 f g = some y) : ma_Ev (q_G t) 1 24 0 0 m_Mod_reckon 329 [(0, q_a t (60)), (2, ma_i (v2)), (3, ma_i (v3)), (4, ma_i (v4))] [] (q_h f g) (ma_zr (q_G t) false Q) := by
  unfold p_Mod_reckon_329 at hp
  refine et_aload_n (pc := 329) d_Mod_reckon_329 rfl rfl ?_
  refine et_getr (pc := 330) ok (fl_Mod_42 t) rfl d_Mod_reckon_330 s_60 r_60_15 ?_
  refine ev_iload (pc := 333) d_Mod_reckon_333 rfl ?_
  replace hp := q_if hp
  obtain ⟨hb1, hp⟩ := hp
  refine et_iald (pc := 335) d_Mod_reckon_335 s_70 hb1 (by decide) ?_
  refine ev_iconst (pc := 336) d_Mod_reckon_336 ?_
  refine et_icmp_le (pc := 337) (tgt := 393) d_Mod_reckon_337 (by decide) (fun hj2 => ?_) (fun hj2 => ?_)
  · rw [if_pos hj2] at hp
    refine ev_sub (ls2 := [(0, q_a t (60)), (2, ma_i (v2)), (3, ma_i (v3)), (4, ma_i (v4))]) [0, 1, 2, 3] rfl ?_
    exact e_Mod_reckon_393 t ok  hQ c10 hc10 (v2) (v3) (v4) f g hp
  · rw [if_neg hj2] at hp
    refine et_aload_n (pc := 340) d_Mod_reckon_340 rfl rfl ?_
    refine et_geti (pc := 341) ok (fl_Mod_217 t) rfl d_Mod_reckon_341 s_60 ?_
    refine et_if_eq (pc := 344) (tgt := 393) d_Mod_reckon_344 (by decide) (fun hj3 => ?_) (fun hj3 => ?_)
    · rw [if_pos hj3] at hp
      refine ev_sub (ls2 := [(0, q_a t (60)), (2, ma_i (v2)), (3, ma_i (v3)), (4, ma_i (v4))]) [0, 1, 2, 3] rfl ?_
      exact e_Mod_reckon_393 t ok  hQ c10 hc10 (v2) (v3) (v4) f g hp
    · rw [if_neg hj3] at hp
      refine et_aload_n (pc := 347) d_Mod_reckon_347 rfl rfl ?_
      refine et_aload_n (pc := 348) d_Mod_reckon_348 rfl rfl ?_
      refine et_geti (pc := 349) ok (fl_Mod_224 t) rfl d_Mod_reckon_349 s_60 ?_
      refine et_if_ne (pc := 352) (tgt := 385) d_Mod_reckon_352 (by decide) (fun hj4 => ?_) (fun hj4 => ?_)
      · rw [if_neg hj4] at hp
        refine ev_sub (ls2 := [(0, q_a t (60)), (2, ma_i (v2)), (3, ma_i (v3)), (4, ma_i (v4))]) [0, 1, 2, 3] rfl ?_
        exact e_Mod_reckon_385 t ok  hQ c10 hc10 (v2) (v3) (v4) f g hp
      · rw [if_pos hj4] at hp
        refine et_aload_n (pc := 355) d_Mod_reckon_355 rfl rfl ?_
        refine et_getr (pc := 356) ok (fl_Mod_48 t) rfl d_Mod_reckon_356 s_60 r_60_17 ?_
        refine ev_iload_n (pc := 359) d_Mod_reckon_359 rfl rfl ?_
        refine ev_iconst (pc := 360) d_Mod_reckon_360 ?_
        refine ev_isub (pc := 361) d_Mod_reckon_361 ?_
        replace hp := q_if hp
        obtain ⟨hb5, hp⟩ := hp
        refine et_lald (pc := 362) d_Mod_reckon_362 s_72 hb5 (by decide) ?_
        refine ev_ldc2 (pc := 363) d_Mod_reckon_363 kc_Mod_231 ?_
        refine et_lcmp (pc := 366) d_Mod_reckon_366 ?_
        refine et_if_lt (pc := 367) (tgt := 385) d_Mod_reckon_367 (by decide) (fun hj6 => ?_) (fun hj6 => ?_)
        · rw [if_pos hj6] at hp
          refine ev_sub (ls2 := [(0, q_a t (60)), (2, ma_i (v2)), (3, ma_i (v3)), (4, ma_i (v4))]) [0, 1, 2, 3] rfl ?_
          exact e_Mod_reckon_385 t ok  hQ c10 hc10 (v2) (v3) (v4) f g hp
        · rw [if_neg hj6] at hp
          refine et_aload_n (pc := 370) d_Mod_reckon_370 rfl rfl ?_
          refine et_getr (pc := 371) ok (fl_Mod_48 t) rfl d_Mod_reckon_371 s_60 r_60_17 ?_
          refine ev_iload_n (pc := 374) d_Mod_reckon_374 rfl rfl ?_
          refine ev_iconst (pc := 375) d_Mod_reckon_375 ?_
          refine ev_isub (pc := 376) d_Mod_reckon_376 ?_
          replace hp := q_if hp
          obtain ⟨hb7, hp⟩ := hp
          refine et_lald (pc := 377) d_Mod_reckon_377 s_72 hb7 (by decide) ?_
          refine ev_ldc2 (pc := 378) d_Mod_reckon_378 kc_Mod_233 ?_
          refine et_lcmp (pc := 381) d_Mod_reckon_381 ?_
          refine et_if_le (pc := 382) (tgt := 389) d_Mod_reckon_382 (by decide) (fun hj8 => ?_) (fun hj8 => ?_)
          · rw [if_pos hj8] at hp
            refine ev_iconst (pc := 389) d_Mod_reckon_389 ?_
            refine ev_sub (ls2 := [(0, q_a t (60)), (2, ma_i (v2)), (3, ma_i (v3)), (4, ma_i (v4))]) [0, 1, 2, 3] rfl ?_
            exact e_Mod_reckon_390 t ok  hQ c10 hc10 (v2) (v3) (v4) (0) f g hp
          · rw [if_neg hj8] at hp
            refine ev_sub (ls2 := [(0, q_a t (60)), (2, ma_i (v2)), (3, ma_i (v3)), (4, ma_i (v4))]) [0, 1, 2, 3] rfl ?_
            exact e_Mod_reckon_385 t ok  hQ c10 hc10 (v2) (v3) (v4) f g hp
theorem e_Mod_reckon_305 (t : q_V) (ok : ma_ok (q_G t))  {Q : Option Value → ma_H → Prop} {y : Int × q_F × q_F} (hQ : Q (some (ma_j y.1)) (q_h y.2.1 y.2.2)) (c10 : Int → Int → Int → q_F → q_F → Option (Int × q_F × q_F)) (hc10 : ∀ (v2 : Int) (v3 : Int) (v4 : Int) (f g : q_F), c10 v2 v3 v4 f g = some y → ma_Ev (q_G t) 1 24 0 0 m_Mod_reckon 10 [(0, q_a t (60)), (2, ma_i (v2)), (3, ma_i (v3)), (4, ma_i (v4))] [] (q_h f g) (ma_zr (q_G t) false Q)) (v2 : Int) (v3 : Int) (v4 : Int) (v5 : Int) (s0 : Int) (f g : q_F) (hp : p_Mod_reckon_305  c10 v2 v3 v4 v5 s0 f g = some y) : ma_Ev (q_G t) 1 24 0 0 m_Mod_reckon 305 [(0, q_a t (60)), (2, ma_i (v2)), (3, ma_i (v3)), (4, ma_i (v4)), (5, ma_i (v5))] [ma_i (s0), q_a t (60)] (q_h f g) (ma_zr (q_G t) false Q) := by
  unfold p_Mod_reckon_305 at hp
  replace hp := q_if hp
  obtain ⟨hb1, hp⟩ := hp
  refine et_putz (pc := 305) ok (fl_Mod_224 t) hb1 d_Mod_reckon_305 s_60 ?_
  replace hp := q_let_of hp
  obtain ⟨f2, hz, hp⟩ := hp
  rw [← hz]
  clear hz
  refine et_aload_n (pc := 308) d_Mod_reckon_308 rfl rfl ?_
  refine et_getr (pc := 309) ok (fl_Mod_48 t) rfl d_Mod_reckon_309 s_60 r_60_17 ?_
  refine ev_iload_n (pc := 312) d_Mod_reckon_312 rfl rfl ?_
  refine ev_iconst (pc := 313) d_Mod_reckon_313 ?_
  refine ev_isub (pc := 314) d_Mod_reckon_314 ?_
  refine et_aload_n (pc := 315) d_Mod_reckon_315 rfl rfl ?_
  refine et_getr (pc := 316) ok (fl_Mod_48 t) rfl d_Mod_reckon_316 s_60 r_60_17 ?_
  refine ev_iload_n (pc := 319) d_Mod_reckon_319 rfl rfl ?_
  refine ev_iconst (pc := 320) d_Mod_reckon_320 ?_
  refine ev_isub (pc := 321) d_Mod_reckon_321 ?_
  replace hp := q_if hp
  obtain ⟨hb3, hp⟩ := hp
  refine et_lald (pc := 322) d_Mod_reckon_322 s_72 hb3 (by decide) ?_
  refine ev_iload (pc := 323) d_Mod_reckon_323 rfl ?_
  replace hp := q_bind hp
  obtain ⟨x4, hm5, hp⟩ := hp
  refine et_callSl (pc := 325) (f1 := x4.2.1) (g1 := x4.2.2) ok [ma_j (g 72 (Int.toNat (v3 - 1))), ma_i (v5)] [ma_i (v3 - 1), q_a t (72)] (cf_Mod_227 t) d_Mod_reckon_325 (t_Mod_raised t ok (g 72 (Int.toNat (v3 - 1))) (v5) f2 g hm5 ⟨rfl, rfl⟩) rfl rfl (by decide) (by decide) (q_ble rfl) ?_
  replace hp := q_if hp
  obtain ⟨hb6, hp⟩ := hp
  refine et_last (pc := 328) d_Mod_reckon_328 s_72 hb6 (by decide) ?_
  replace hp := q_let_of hp
  obtain ⟨g7, hz, hp⟩ := hp
  rw [← hz]
  clear hz
  refine ev_sub (ls2 := [(0, q_a t (60)), (2, ma_i (v2)), (3, ma_i (v3)), (4, ma_i (v4))]) [0, 1, 2, 3] rfl ?_
  exact e_Mod_reckon_329 t ok  hQ c10 hc10 (v2) (v3) (v4) x4.2.1 g7 hp
theorem e_Mod_reckon_300 (t : q_V) (ok : ma_ok (q_G t))  {Q : Option Value → ma_H → Prop} {y : Int × q_F × q_F} (hQ : Q (some (ma_j y.1)) (q_h y.2.1 y.2.2)) (c10 : Int → Int → Int → q_F → q_F → Option (Int × q_F × q_F)) (hc10 : ∀ (v2 : Int) (v3 : Int) (v4 : Int) (f g : q_F), c10 v2 v3 v4 f g = some y → ma_Ev (q_G t) 1 24 0 0 m_Mod_reckon 10 [(0, q_a t (60)), (2, ma_i (v2)), (3, ma_i (v3)), (4, ma_i (v4))] [] (q_h f g) (ma_zr (q_G t) false Q)) (v2 : Int) (v3 : Int) (v4 : Int) (v5 : Int) (f g : q_F) (hp : p_Mod_reckon_300  c10 v2 v3 v4 v5 f g = some y) : ma_Ev (q_G t) 1 24 0 0 m_Mod_reckon 300 [(0, q_a t (60)), (2, ma_i (v2)), (3, ma_i (v3)), (4, ma_i (v4)), (5, ma_i (v5))] [q_a t (60)] (q_h f g) (ma_zr (q_G t) false Q) := by
  unfold p_Mod_reckon_300 at hp
  refine ev_iconst (pc := 300) d_Mod_reckon_300 ?_
  refine ev_goto (pc := 301) (tgt := 305) d_Mod_reckon_301 (by decide) ?_
  refine ev_sub (ls2 := [(0, q_a t (60)), (2, ma_i (v2)), (3, ma_i (v3)), (4, ma_i (v4)), (5, ma_i (v5))]) [0, 1, 2, 3, 4] rfl ?_
  exact e_Mod_reckon_305 t ok  hQ c10 hc10 (v2) (v3) (v4) (v5) (1) f g hp
theorem e_Mod_reckon_267 (t : q_V) (ok : ma_ok (q_G t))  {Q : Option Value → ma_H → Prop} {y : Int × q_F × q_F} (hQ : Q (some (ma_j y.1)) (q_h y.2.1 y.2.2)) (c10 : Int → Int → Int → q_F → q_F → Option (Int × q_F × q_F)) (hc10 : ∀ (v2 : Int) (v3 : Int) (v4 : Int) (f g : q_F), c10 v2 v3 v4 f g = some y → ma_Ev (q_G t) 1 24 0 0 m_Mod_reckon 10 [(0, q_a t (60)), (2, ma_i (v2)), (3, ma_i (v3)), (4, ma_i (v4))] [] (q_h f g) (ma_zr (q_G t) false Q)) (v2 : Int) (v3 : Int) (v4 : Int) (v5 : Int) (f g : q_F) (hp : p_Mod_reckon_267  c10 v2 v3 v4 v5 f g = some y) : ma_Ev (q_G t) 1 24 0 0 m_Mod_reckon 267 [(0, q_a t (60)), (2, ma_i (v2)), (3, ma_i (v3)), (4, ma_i (v4)), (5, ma_i (v5))] [] (q_h f g) (ma_zr (q_G t) false Q) := by
  unfold p_Mod_reckon_267 at hp
  refine et_aload_n (pc := 267) d_Mod_reckon_267 rfl rfl ?_
  refine et_getr (pc := 268) ok (fl_Mod_42 t) rfl d_Mod_reckon_268 s_60 r_60_15 ?_
  refine ev_iload (pc := 271) d_Mod_reckon_271 rfl ?_
  replace hp := q_if hp
  obtain ⟨hb1, hp⟩ := hp
  refine et_iald (pc := 273) d_Mod_reckon_273 s_70 hb1 (by decide) ?_
  refine ev_bipush (pc := 274) d_Mod_reckon_274 rfl ?_
  refine et_icmp_ne (pc := 276) (tgt := 329) d_Mod_reckon_276 (by decide) (fun hj2 => ?_) (fun hj2 => ?_)
  · rw [if_neg hj2] at hp
    refine ev_sub (ls2 := [(0, q_a t (60)), (2, ma_i (v2)), (3, ma_i (v3)), (4, ma_i (v4))]) [0, 1, 2, 3] rfl ?_
    exact e_Mod_reckon_329 t ok  hQ c10 hc10 (v2) (v3) (v4) f g hp
  · rw [if_pos hj2] at hp
    refine et_aload_n (pc := 279) d_Mod_reckon_279 rfl rfl ?_
    refine et_aload_n (pc := 280) d_Mod_reckon_280 rfl rfl ?_
    refine et_geti (pc := 281) ok (fl_Mod_224 t) rfl d_Mod_reckon_281 s_60 ?_
    refine et_if_ne (pc := 284) (tgt := 300) d_Mod_reckon_284 (by decide) (fun hj3 => ?_) (fun hj3 => ?_)
    · rw [if_neg hj3] at hp
      refine ev_sub (ls2 := [(0, q_a t (60)), (2, ma_i (v2)), (3, ma_i (v3)), (4, ma_i (v4)), (5, ma_i (v5))]) [0, 1, 2, 3, 4] rfl ?_
      exact e_Mod_reckon_300 t ok  hQ c10 hc10 (v2) (v3) (v4) (v5) f g hp
    · rw [if_pos hj3] at hp
      refine et_aload_n (pc := 287) d_Mod_reckon_287 rfl rfl ?_
      refine et_getr (pc := 288) ok (fl_Mod_48 t) rfl d_Mod_reckon_288 s_60 r_60_17 ?_
      refine ev_iload_n (pc := 291) d_Mod_reckon_291 rfl rfl ?_
      refine ev_iconst (pc := 292) d_Mod_reckon_292 ?_
      refine ev_isub (pc := 293) d_Mod_reckon_293 ?_
      replace hp := q_if hp
      obtain ⟨hb4, hp⟩ := hp
      refine et_lald (pc := 294) d_Mod_reckon_294 s_72 hb4 (by decide) ?_
      refine ev_lconst (z := 0) (pc := 295) d_Mod_reckon_295 rfl ?_
      refine et_lcmp (pc := 296) d_Mod_reckon_296 ?_
      refine et_if_ge (pc := 297) (tgt := 304) d_Mod_reckon_297 (by decide) (fun hj5 => ?_) (fun hj5 => ?_)
      · rw [if_pos hj5] at hp
        refine ev_iconst (pc := 304) d_Mod_reckon_304 ?_
        refine ev_sub (ls2 := [(0, q_a t (60)), (2, ma_i (v2)), (3, ma_i (v3)), (4, ma_i (v4)), (5, ma_i (v5))]) [0, 1, 2, 3, 4] rfl ?_
        exact e_Mod_reckon_305 t ok  hQ c10 hc10 (v2) (v3) (v4) (v5) (0) f g hp
      · rw [if_neg hj5] at hp
        refine ev_sub (ls2 := [(0, q_a t (60)), (2, ma_i (v2)), (3, ma_i (v3)), (4, ma_i (v4)), (5, ma_i (v5))]) [0, 1, 2, 3, 4] rfl ?_
        exact e_Mod_reckon_300 t ok  hQ c10 hc10 (v2) (v3) (v4) (v5) f g hp
theorem e_Mod_reckon_266 (t : q_V) (ok : ma_ok (q_G t))  {Q : Option Value → ma_H → Prop} {y : Int × q_F × q_F} (hQ : Q (some (ma_j y.1)) (q_h y.2.1 y.2.2)) (c10 : Int → Int → Int → q_F → q_F → Option (Int × q_F × q_F)) (hc10 : ∀ (v2 : Int) (v3 : Int) (v4 : Int) (f g : q_F), c10 v2 v3 v4 f g = some y → ma_Ev (q_G t) 1 24 0 0 m_Mod_reckon 10 [(0, q_a t (60)), (2, ma_i (v2)), (3, ma_i (v3)), (4, ma_i (v4))] [] (q_h f g) (ma_zr (q_G t) false Q)) (v2 : Int) (v3 : Int) (v4 : Int) (v5 : Int) (s0 : Int) (s1 : Int) (f g : q_F) (hp : p_Mod_reckon_266  c10 v2 v3 v4 v5 s0 s1 f g = some y) : ma_Ev (q_G t) 1 24 0 0 m_Mod_reckon 266 [(0, q_a t (60)), (2, ma_i (v2)), (3, ma_i (v3)), (4, ma_i (v4)), (5, ma_i (v5))] [ma_j (s0), ma_i (s1), q_a t (72)] (q_h f g) (ma_zr (q_G t) false Q) := by
  unfold p_Mod_reckon_266 at hp
  replace hp := q_if hp
  obtain ⟨hb1, hp⟩ := hp
  refine et_last (pc := 266) d_Mod_reckon_266 s_72 hb1 (by decide) ?_
  replace hp := q_let_of hp
  obtain ⟨g2, hz, hp⟩ := hp
  rw [← hz]
  clear hz
  refine ev_sub (ls2 := [(0, q_a t (60)), (2, ma_i (v2)), (3, ma_i (v3)), (4, ma_i (v4)), (5, ma_i (v5))]) [0, 1, 2, 3, 4] rfl ?_
  exact e_Mod_reckon_267 t ok  hQ c10 hc10 (v2) (v3) (v4) (v5) f g2 hp
theorem e_Mod_reckon_212 (t : q_V) (ok : ma_ok (q_G t))  {Q : Option Value → ma_H → Prop} {y : Int × q_F × q_F} (hQ : Q (some (ma_j y.1)) (q_h y.2.1 y.2.2)) (c10 : Int → Int → Int → q_F → q_F → Option (Int × q_F × q_F)) (hc10 : ∀ (v2 : Int) (v3 : Int) (v4 : Int) (f g : q_F), c10 v2 v3 v4 f g = some y → ma_Ev (q_G t) 1 24 0 0 m_Mod_reckon 10 [(0, q_a t (60)), (2, ma_i (v2)), (3, ma_i (v3)), (4, ma_i (v4))] [] (q_h f g) (ma_zr (q_G t) false Q)) (v2 : Int) (v3 : Int) (v4 : Int) (v5 : Int) (f g : q_F) (hp : p_Mod_reckon_212  c10 v2 v3 v4 v5 f g = some y) : ma_Ev (q_G t) 1 24 0 0 m_Mod_reckon 212 [(0, q_a t (60)), (2, ma_i (v2)), (3, ma_i (v3)), (4, ma_i (v4)), (5, ma_i (v5))] [] (q_h f g) (ma_zr (q_G t) false Q) := by
  unfold p_Mod_reckon_212 at hp
  refine ev_iinc (pc := 212) d_Mod_reckon_212 (by decide) rfl [(3, _), (0, _), (2, _), (4, _), (5, _)] rfl ?_
  replace hp := q_let_of hp
  obtain ⟨z1, hz, hp⟩ := hp
  rw [← hz]
  clear hz
  refine et_aload_n (pc := 215) d_Mod_reckon_215 rfl rfl ?_
  refine et_getr (pc := 216) ok (fl_Mod_48 t) rfl d_Mod_reckon_216 s_60 r_60_17 ?_
  refine ev_iload_n (pc := 219) d_Mod_reckon_219 rfl rfl ?_
  refine ev_iconst (pc := 220) d_Mod_reckon_220 ?_
  refine ev_isub (pc := 221) d_Mod_reckon_221 ?_
  refine et_aload_n (pc := 222) d_Mod_reckon_222 rfl rfl ?_
  refine et_getr (pc := 223) ok (fl_Mod_42 t) rfl d_Mod_reckon_223 s_60 r_60_15 ?_
  refine ev_iload (pc := 226) d_Mod_reckon_226 rfl ?_
  replace hp := q_if hp
  obtain ⟨hb2, hp⟩ := hp
  refine et_iald (pc := 228) d_Mod_reckon_228 s_70 hb2 (by decide) ?_
  refine ev_iconst (pc := 229) d_Mod_reckon_229 ?_
  refine et_icmp_ne (pc := 230) (tgt := 251) d_Mod_reckon_230 (by decide) (fun hj3 => ?_) (fun hj3 => ?_)
  · rw [if_neg hj3] at hp
    refine et_aload_n (pc := 251) d_Mod_reckon_251 rfl rfl ?_
    refine et_getr (pc := 252) ok (fl_Mod_48 t) rfl d_Mod_reckon_252 s_60 r_60_17 ?_
    refine ev_iload_n (pc := 255) d_Mod_reckon_255 rfl rfl ?_
    refine ev_iconst (pc := 256) d_Mod_reckon_256 ?_
    refine ev_isub (pc := 257) d_Mod_reckon_257 ?_
    replace hp := q_if hp
    obtain ⟨hb4, hp⟩ := hp
    refine et_lald (pc := 258) d_Mod_reckon_258 s_72 hb4 (by decide) ?_
    refine et_aload_n (pc := 259) d_Mod_reckon_259 rfl rfl ?_
    refine et_getr (pc := 260) ok (fl_Mod_48 t) rfl d_Mod_reckon_260 s_60 r_60_17 ?_
    refine ev_iload_n (pc := 263) d_Mod_reckon_263 rfl rfl ?_
    replace hp := q_if hp
    obtain ⟨hb5, hp⟩ := hp
    refine et_lald (pc := 264) d_Mod_reckon_264 s_72 hb5 (by decide) ?_
    refine ev_lsub (pc := 265) d_Mod_reckon_265 ?_
    refine ev_sub (ls2 := [(0, q_a t (60)), (2, ma_i (v2)), (3, ma_i (z1)), (4, ma_i (v4)), (5, ma_i (v5))]) [1, 2, 0, 3, 4] rfl ?_
    exact e_Mod_reckon_266 t ok  hQ c10 hc10 (v2) (z1) (v4) (v5) ((g 72 (Int.toNat (z1 - 1))) - (g 72 (Int.toNat z1))) (z1 - 1) f g hp
  · rw [if_pos hj3] at hp
    refine et_aload_n (pc := 233) d_Mod_reckon_233 rfl rfl ?_
    refine et_getr (pc := 234) ok (fl_Mod_48 t) rfl d_Mod_reckon_234 s_60 r_60_17 ?_
    refine ev_iload_n (pc := 237) d_Mod_reckon_237 rfl rfl ?_
    refine ev_iconst (pc := 238) d_Mod_reckon_238 ?_
    refine ev_isub (pc := 239) d_Mod_reckon_239 ?_
    replace hp := q_if hp
    obtain ⟨hb6, hp⟩ := hp
    refine et_lald (pc := 240) d_Mod_reckon_240 s_72 hb6 (by decide) ?_
    refine et_aload_n (pc := 241) d_Mod_reckon_241 rfl rfl ?_
    refine et_getr (pc := 242) ok (fl_Mod_48 t) rfl d_Mod_reckon_242 s_60 r_60_17 ?_
    refine ev_iload_n (pc := 245) d_Mod_reckon_245 rfl rfl ?_
    replace hp := q_if hp
    obtain ⟨hb7, hp⟩ := hp
    refine et_lald (pc := 246) d_Mod_reckon_246 s_72 hb7 (by decide) ?_
    refine ev_ladd (pc := 247) d_Mod_reckon_247 ?_
    refine ev_goto (pc := 248) (tgt := 266) d_Mod_reckon_248 (by decide) ?_
    refine ev_sub (ls2 := [(0, q_a t (60)), (2, ma_i (v2)), (3, ma_i (z1)), (4, ma_i (v4)), (5, ma_i (v5))]) [1, 2, 0, 3, 4] rfl ?_
    exact e_Mod_reckon_266 t ok  hQ c10 hc10 (v2) (z1) (v4) (v5) ((g 72 (Int.toNat (z1 - 1))) + (g 72 (Int.toNat z1))) (z1 - 1) f g hp
theorem e_Mod_reckon_189 (t : q_V) (ok : ma_ok (q_G t))  {Q : Option Value → ma_H → Prop} {y : Int × q_F × q_F} (hQ : Q (some (ma_j y.1)) (q_h y.2.1 y.2.2)) (c10 : Int → Int → Int → q_F → q_F → Option (Int × q_F × q_F)) (hc10 : ∀ (v2 : Int) (v3 : Int) (v4 : Int) (f g : q_F), c10 v2 v3 v4 f g = some y → ma_Ev (q_G t) 1 24 0 0 m_Mod_reckon 10 [(0, q_a t (60)), (2, ma_i (v2)), (3, ma_i (v3)), (4, ma_i (v4))] [] (q_h f g) (ma_zr (q_G t) false Q)) (v2 : Int) (v3 : Int) (v4 : Int) (v5 : Int) (f g : q_F) (hp : p_Mod_reckon_189  c10 v2 v3 v4 v5 f g = some y) : ma_Ev (q_G t) 1 24 0 0 m_Mod_reckon 189 [(0, q_a t (60)), (2, ma_i (v2)), (3, ma_i (v3)), (4, ma_i (v4)), (5, ma_i (v5))] [] (q_h f g) (ma_zr (q_G t) false Q) := by
  unfold p_Mod_reckon_189 at hp
  refine et_aload_n (pc := 189) d_Mod_reckon_189 rfl rfl ?_
  refine et_getr (pc := 190) ok (fl_Mod_42 t) rfl d_Mod_reckon_190 s_60 r_60_15 ?_
  refine ev_iload (pc := 193) d_Mod_reckon_193 rfl ?_
  replace hp := q_if hp
  obtain ⟨hb1, hp⟩ := hp
  refine et_iald (pc := 195) d_Mod_reckon_195 s_70 hb1 (by decide) ?_
  refine ev_iconst (pc := 196) d_Mod_reckon_196 ?_
  refine et_icmp_eq (pc := 197) (tgt := 212) d_Mod_reckon_197 (by decide) (fun hj2 => ?_) (fun hj2 => ?_)
  · rw [if_pos hj2] at hp
    refine ev_sub (ls2 := [(0, q_a t (60)), (2, ma_i (v2)), (3, ma_i (v3)), (4, ma_i (v4)), (5, ma_i (v5))]) [0, 1, 2, 3, 4] rfl ?_
    exact e_Mod_reckon_212 t ok  hQ c10 hc10 (v2) (v3) (v4) (v5) f g hp
  · rw [if_neg hj2] at hp
    refine et_aload_n (pc := 200) d_Mod_reckon_200 rfl rfl ?_
    refine et_getr (pc := 201) ok (fl_Mod_42 t) rfl d_Mod_reckon_201 s_60 r_60_15 ?_
    refine ev_iload (pc := 204) d_Mod_reckon_204 rfl ?_
    replace hp := q_if hp
    obtain ⟨hb3, hp⟩ := hp
    refine et_iald (pc := 206) d_Mod_reckon_206 s_70 hb3 (by decide) ?_
    refine ev_bipush (pc := 207) d_Mod_reckon_207 rfl ?_
    refine et_icmp_ne (pc := 209) (tgt := 267) d_Mod_reckon_209 (by decide) (fun hj4 => ?_) (fun hj4 => ?_)
    · rw [if_neg hj4] at hp
      refine ev_sub (ls2 := [(0, q_a t (60)), (2, ma_i (v2)), (3, ma_i (v3)), (4, ma_i (v4)), (5, ma_i (v5))]) [0, 1, 2, 3, 4] rfl ?_
      exact e_Mod_reckon_267 t ok  hQ c10 hc10 (v2) (v3) (v4) (v5) f g hp
    · rw [if_pos hj4] at hp
      refine ev_sub (ls2 := [(0, q_a t (60)), (2, ma_i (v2)), (3, ma_i (v3)), (4, ma_i (v4)), (5, ma_i (v5))]) [0, 1, 2, 3, 4] rfl ?_
      exact e_Mod_reckon_212 t ok  hQ c10 hc10 (v2) (v3) (v4) (v5) f g hp
theorem e_Mod_reckon_175 (t : q_V) (ok : ma_ok (q_G t))  {Q : Option Value → ma_H → Prop} {y : Int × q_F × q_F} (hQ : Q (some (ma_j y.1)) (q_h y.2.1 y.2.2)) (c10 : Int → Int → Int → q_F → q_F → Option (Int × q_F × q_F)) (hc10 : ∀ (v2 : Int) (v3 : Int) (v4 : Int) (f g : q_F), c10 v2 v3 v4 f g = some y → ma_Ev (q_G t) 1 24 0 0 m_Mod_reckon 10 [(0, q_a t (60)), (2, ma_i (v2)), (3, ma_i (v3)), (4, ma_i (v4))] [] (q_h f g) (ma_zr (q_G t) false Q)) (v2 : Int) (v3 : Int) (v4 : Int) (v5 : Int) (f g : q_F) (hp : p_Mod_reckon_175  c10 v2 v3 v4 v5 f g = some y) : ma_Ev (q_G t) 1 24 0 0 m_Mod_reckon 175 [(0, q_a t (60)), (2, ma_i (v2)), (3, ma_i (v3)), (4, ma_i (v4)), (5, ma_i (v5))] [] (q_h f g) (ma_zr (q_G t) false Q) := by
  unfold p_Mod_reckon_175 at hp
  refine et_aload_n (pc := 175) d_Mod_reckon_175 rfl rfl ?_
  refine et_getr (pc := 176) ok (fl_Mod_42 t) rfl d_Mod_reckon_176 s_60 r_60_15 ?_
  refine ev_iload (pc := 179) d_Mod_reckon_179 rfl ?_
  replace hp := q_if hp
  obtain ⟨hb1, hp⟩ := hp
  refine et_iald (pc := 181) d_Mod_reckon_181 s_70 hb1 (by decide) ?_
  refine ev_iconst (pc := 182) d_Mod_reckon_182 ?_
  refine et_icmp_ge (pc := 183) (tgt := 189) d_Mod_reckon_183 (by decide) (fun hj2 => ?_) (fun hj2 => ?_)
  · rw [if_pos hj2] at hp
    refine ev_sub (ls2 := [(0, q_a t (60)), (2, ma_i (v2)), (3, ma_i (v3)), (4, ma_i (v4)), (5, ma_i (v5))]) [0, 1, 2, 3, 4] rfl ?_
    exact e_Mod_reckon_189 t ok  hQ c10 hc10 (v2) (v3) (v4) (v5) f g hp
  · rw [if_neg hj2] at hp
    refine ev_iinc (pc := 186) d_Mod_reckon_186 (by decide) rfl [(3, _), (0, _), (2, _), (4, _), (5, _)] rfl ?_
    replace hp := q_let_of hp
    obtain ⟨z3, hz, hp⟩ := hp
    rw [← hz]
    clear hz
    refine ev_sub (ls2 := [(0, q_a t (60)), (2, ma_i (v2)), (3, ma_i (z3)), (4, ma_i (v4)), (5, ma_i (v5))]) [1, 2, 0, 3, 4] rfl ?_
    exact e_Mod_reckon_189 t ok  hQ c10 hc10 (v2) (z3) (v4) (v5) f g hp
theorem e_Mod_reckon_144 (t : q_V) (ok : ma_ok (q_G t))  {Q : Option Value → ma_H → Prop} {y : Int × q_F × q_F} (hQ : Q (some (ma_j y.1)) (q_h y.2.1 y.2.2)) (c10 : Int → Int → Int → q_F → q_F → Option (Int × q_F × q_F)) (hc10 : ∀ (v2 : Int) (v3 : Int) (v4 : Int) (f g : q_F), c10 v2 v3 v4 f g = some y → ma_Ev (q_G t) 1 24 0 0 m_Mod_reckon 10 [(0, q_a t (60)), (2, ma_i (v2)), (3, ma_i (v3)), (4, ma_i (v4))] [] (q_h f g) (ma_zr (q_G t) false Q)) (v2 : Int) (v3 : Int) (v4 : Int) (v5 : Int) (f g : q_F) (hp : p_Mod_reckon_144  c10 v2 v3 v4 v5 f g = some y) : ma_Ev (q_G t) 1 24 0 0 m_Mod_reckon 144 [(0, q_a t (60)), (2, ma_i (v2)), (3, ma_i (v3)), (4, ma_i (v4)), (5, ma_i (v5))] [] (q_h f g) (ma_zr (q_G t) false Q) := by
  unfold p_Mod_reckon_144 at hp
  refine et_aload_n (pc := 144) d_Mod_reckon_144 rfl rfl ?_
  refine et_getr (pc := 145) ok (fl_Mod_42 t) rfl d_Mod_reckon_145 s_60 r_60_15 ?_
  refine ev_iload (pc := 148) d_Mod_reckon_148 rfl ?_
  replace hp := q_if hp
  obtain ⟨hb1, hp⟩ := hp
  refine et_iald (pc := 150) d_Mod_reckon_150 s_70 hb1 (by decide) ?_
  refine ev_iconst (pc := 151) d_Mod_reckon_151 ?_
  refine et_icmp_ne (pc := 152) (tgt := 175) d_Mod_reckon_152 (by decide) (fun hj2 => ?_) (fun hj2 => ?_)
  · rw [if_neg hj2] at hp
    refine ev_sub (ls2 := [(0, q_a t (60)), (2, ma_i (v2)), (3, ma_i (v3)), (4, ma_i (v4)), (5, ma_i (v5))]) [0, 1, 2, 3, 4] rfl ?_
    exact e_Mod_reckon_175 t ok  hQ c10 hc10 (v2) (v3) (v4) (v5) f g hp
  · rw [if_pos hj2] at hp
    refine et_aload_n (pc := 155) d_Mod_reckon_155 rfl rfl ?_
    refine ev_iload_n (pc := 156) d_Mod_reckon_156 rfl rfl ?_
    refine et_aload_n (pc := 157) d_Mod_reckon_157 rfl rfl ?_
    refine et_getr (pc := 158) ok (fl_Mod_64 t) rfl d_Mod_reckon_158 s_60 r_60_25 ?_
    refine ev_iload (pc := 161) d_Mod_reckon_161 rfl ?_
    replace hp := q_if hp
    obtain ⟨hb3, hp⟩ := hp
    refine et_zald (pc := 163) d_Mod_reckon_163 s_77 hb3 (by decide) ?_
    refine et_aload_n (pc := 164) d_Mod_reckon_164 rfl rfl ?_
    refine et_getr (pc := 165) ok (fl_Mod_94 t) rfl d_Mod_reckon_165 s_60 r_60_35 ?_
    refine ev_iload (pc := 168) d_Mod_reckon_168 rfl ?_
    replace hp := q_if hp
    obtain ⟨hb4, hp⟩ := hp
    refine et_iald (pc := 170) d_Mod_reckon_170 s_87 hb4 (by decide) ?_
    refine et_i2l (pc := 171) d_Mod_reckon_171 ?_
    replace hp := q_bind hp
    obtain ⟨x5, hm6, hp⟩ := hp
    refine et_callVv (pc := 172) (f1 := x5.1) (g1 := x5.2) ok [ma_i (v3), ma_i (f 77 (Int.toNat v5)), ma_j (q_sw (f 87 (Int.toNat v5)))] [] (cf_Mod_220 t) d_Mod_reckon_172 s_60 k_12 rfl (t_Mod_push t ok (v3) (f 77 (Int.toNat v5)) (q_sw (f 87 (Int.toNat v5))) f g hm6 ⟨rfl, rfl⟩) rfl rfl (by decide) (by decide) (q_ble rfl) ?_
    refine ev_sub (ls2 := [(0, q_a t (60)), (2, ma_i (v2)), (3, ma_i (v3)), (4, ma_i (v4)), (5, ma_i (v5))]) [0, 1, 2, 3, 4] rfl ?_
    exact e_Mod_reckon_175 t ok  hQ c10 hc10 (v2) (v3) (v4) (v5) x5.1 x5.2 hp
theorem e_Mod_reckon_113 (t : q_V) (ok : ma_ok (q_G t))  {Q : Option Value → ma_H → Prop} {y : Int × q_F × q_F} (hQ : Q (some (ma_j y.1)) (q_h y.2.1 y.2.2)) (c10 : Int → Int → Int → q_F → q_F → Option (Int × q_F × q_F)) (hc10 : ∀ (v2 : Int) (v3 : Int) (v4 : Int) (f g : q_F), c10 v2 v3 v4 f g = some y → ma_Ev (q_G t) 1 24 0 0 m_Mod_reckon 10 [(0, q_a t (60)), (2, ma_i (v2)), (3, ma_i (v3)), (4, ma_i (v4))] [] (q_h f g) (ma_zr (q_G t) false Q)) (v2 : Int) (v3 : Int) (v4 : Int) (v5 : Int) (f g : q_F) (hp : p_Mod_reckon_113  c10 v2 v3 v4 v5 f g = some y) : ma_Ev (q_G t) 1 24 0 0 m_Mod_reckon 113 [(0, q_a t (60)), (2, ma_i (v2)), (3, ma_i (v3)), (4, ma_i (v4)), (5, ma_i (v5))] [] (q_h f g) (ma_zr (q_G t) false Q) := by
  unfold p_Mod_reckon_113 at hp
  refine et_aload_n (pc := 113) d_Mod_reckon_113 rfl rfl ?_
  refine et_getr (pc := 114) ok (fl_Mod_42 t) rfl d_Mod_reckon_114 s_60 r_60_15 ?_
  refine ev_iload (pc := 117) d_Mod_reckon_117 rfl ?_
  replace hp := q_if hp
  obtain ⟨hb1, hp⟩ := hp
  refine et_iald (pc := 119) d_Mod_reckon_119 s_70 hb1 (by decide) ?_
  refine ev_iconst (pc := 120) d_Mod_reckon_120 ?_
  refine et_icmp_ne (pc := 121) (tgt := 144) d_Mod_reckon_121 (by decide) (fun hj2 => ?_) (fun hj2 => ?_)
  · rw [if_neg hj2] at hp
    refine ev_sub (ls2 := [(0, q_a t (60)), (2, ma_i (v2)), (3, ma_i (v3)), (4, ma_i (v4)), (5, ma_i (v5))]) [0, 1, 2, 3, 4] rfl ?_
    exact e_Mod_reckon_144 t ok  hQ c10 hc10 (v2) (v3) (v4) (v5) f g hp
  · rw [if_pos hj2] at hp
    refine et_aload_n (pc := 124) d_Mod_reckon_124 rfl rfl ?_
    refine ev_iload_n (pc := 125) d_Mod_reckon_125 rfl rfl ?_
    refine et_aload_n (pc := 126) d_Mod_reckon_126 rfl rfl ?_
    refine et_getr (pc := 127) ok (fl_Mod_64 t) rfl d_Mod_reckon_127 s_60 r_60_25 ?_
    refine ev_iload (pc := 130) d_Mod_reckon_130 rfl ?_
    replace hp := q_if hp
    obtain ⟨hb3, hp⟩ := hp
    refine et_zald (pc := 132) d_Mod_reckon_132 s_77 hb3 (by decide) ?_
    refine et_aload_n (pc := 133) d_Mod_reckon_133 rfl rfl ?_
    refine et_getr (pc := 134) ok (fl_Mod_97 t) rfl d_Mod_reckon_134 s_60 r_60_36 ?_
    refine ev_iload (pc := 137) d_Mod_reckon_137 rfl ?_
    replace hp := q_if hp
    obtain ⟨hb4, hp⟩ := hp
    refine et_iald (pc := 139) d_Mod_reckon_139 s_88 hb4 (by decide) ?_
    refine et_i2l (pc := 140) d_Mod_reckon_140 ?_
    replace hp := q_bind hp
    obtain ⟨x5, hm6, hp⟩ := hp
    refine et_callVv (pc := 141) (f1 := x5.1) (g1 := x5.2) ok [ma_i (v3), ma_i (f 77 (Int.toNat v5)), ma_j (q_sw (f 88 (Int.toNat v5)))] [] (cf_Mod_220 t) d_Mod_reckon_141 s_60 k_12 rfl (t_Mod_push t ok (v3) (f 77 (Int.toNat v5)) (q_sw (f 88 (Int.toNat v5))) f g hm6 ⟨rfl, rfl⟩) rfl rfl (by decide) (by decide) (q_ble rfl) ?_
    refine ev_sub (ls2 := [(0, q_a t (60)), (2, ma_i (v2)), (3, ma_i (v3)), (4, ma_i (v4)), (5, ma_i (v5))]) [0, 1, 2, 3, 4] rfl ?_
    exact e_Mod_reckon_144 t ok  hQ c10 hc10 (v2) (v3) (v4) (v5) x5.1 x5.2 hp
theorem e_Mod_reckon_82 (t : q_V) (ok : ma_ok (q_G t))  {Q : Option Value → ma_H → Prop} {y : Int × q_F × q_F} (hQ : Q (some (ma_j y.1)) (q_h y.2.1 y.2.2)) (c10 : Int → Int → Int → q_F → q_F → Option (Int × q_F × q_F)) (hc10 : ∀ (v2 : Int) (v3 : Int) (v4 : Int) (f g : q_F), c10 v2 v3 v4 f g = some y → ma_Ev (q_G t) 1 24 0 0 m_Mod_reckon 10 [(0, q_a t (60)), (2, ma_i (v2)), (3, ma_i (v3)), (4, ma_i (v4))] [] (q_h f g) (ma_zr (q_G t) false Q)) (v2 : Int) (v3 : Int) (v4 : Int) (v5 : Int) (f g : q_F) (hp : p_Mod_reckon_82  c10 v2 v3 v4 v5 f g = some y) : ma_Ev (q_G t) 1 24 0 0 m_Mod_reckon 82 [(0, q_a t (60)), (2, ma_i (v2)), (3, ma_i (v3)), (4, ma_i (v4)), (5, ma_i (v5))] [] (q_h f g) (ma_zr (q_G t) false Q) := by
  unfold p_Mod_reckon_82 at hp
  refine et_aload_n (pc := 82) d_Mod_reckon_82 rfl rfl ?_
  refine et_getr (pc := 83) ok (fl_Mod_42 t) rfl d_Mod_reckon_83 s_60 r_60_15 ?_
  refine ev_iload (pc := 86) d_Mod_reckon_86 rfl ?_
  replace hp := q_if hp
  obtain ⟨hb1, hp⟩ := hp
  refine et_iald (pc := 88) d_Mod_reckon_88 s_70 hb1 (by decide) ?_
  refine ev_iconst (pc := 89) d_Mod_reckon_89 ?_
  refine et_icmp_ne (pc := 90) (tgt := 113) d_Mod_reckon_90 (by decide) (fun hj2 => ?_) (fun hj2 => ?_)
  · rw [if_neg hj2] at hp
    refine ev_sub (ls2 := [(0, q_a t (60)), (2, ma_i (v2)), (3, ma_i (v3)), (4, ma_i (v4)), (5, ma_i (v5))]) [0, 1, 2, 3, 4] rfl ?_
    exact e_Mod_reckon_113 t ok  hQ c10 hc10 (v2) (v3) (v4) (v5) f g hp
  · rw [if_pos hj2] at hp
    refine et_aload_n (pc := 93) d_Mod_reckon_93 rfl rfl ?_
    refine ev_iload_n (pc := 94) d_Mod_reckon_94 rfl rfl ?_
    refine et_aload_n (pc := 95) d_Mod_reckon_95 rfl rfl ?_
    refine et_getr (pc := 96) ok (fl_Mod_64 t) rfl d_Mod_reckon_96 s_60 r_60_25 ?_
    refine ev_iload (pc := 99) d_Mod_reckon_99 rfl ?_
    replace hp := q_if hp
    obtain ⟨hb3, hp⟩ := hp
    refine et_zald (pc := 101) d_Mod_reckon_101 s_77 hb3 (by decide) ?_
    refine et_aload_n (pc := 102) d_Mod_reckon_102 rfl rfl ?_
    refine et_getr (pc := 103) ok (fl_Mod_91 t) rfl d_Mod_reckon_103 s_60 r_60_34 ?_
    refine ev_iload (pc := 106) d_Mod_reckon_106 rfl ?_
    replace hp := q_if hp
    obtain ⟨hb4, hp⟩ := hp
    refine et_iald (pc := 108) d_Mod_reckon_108 s_86 hb4 (by decide) ?_
    refine et_i2l (pc := 109) d_Mod_reckon_109 ?_
    replace hp := q_bind hp
    obtain ⟨x5, hm6, hp⟩ := hp
    refine et_callVv (pc := 110) (f1 := x5.1) (g1 := x5.2) ok [ma_i (v3), ma_i (f 77 (Int.toNat v5)), ma_j (q_sw (f 86 (Int.toNat v5)))] [] (cf_Mod_220 t) d_Mod_reckon_110 s_60 k_12 rfl (t_Mod_push t ok (v3) (f 77 (Int.toNat v5)) (q_sw (f 86 (Int.toNat v5))) f g hm6 ⟨rfl, rfl⟩) rfl rfl (by decide) (by decide) (q_ble rfl) ?_
    refine ev_sub (ls2 := [(0, q_a t (60)), (2, ma_i (v2)), (3, ma_i (v3)), (4, ma_i (v4)), (5, ma_i (v5))]) [0, 1, 2, 3, 4] rfl ?_
    exact e_Mod_reckon_113 t ok  hQ c10 hc10 (v2) (v3) (v4) (v5) x5.1 x5.2 hp
theorem e_Mod_reckon_51 (t : q_V) (ok : ma_ok (q_G t))  {Q : Option Value → ma_H → Prop} {y : Int × q_F × q_F} (hQ : Q (some (ma_j y.1)) (q_h y.2.1 y.2.2)) (c10 : Int → Int → Int → q_F → q_F → Option (Int × q_F × q_F)) (hc10 : ∀ (v2 : Int) (v3 : Int) (v4 : Int) (f g : q_F), c10 v2 v3 v4 f g = some y → ma_Ev (q_G t) 1 24 0 0 m_Mod_reckon 10 [(0, q_a t (60)), (2, ma_i (v2)), (3, ma_i (v3)), (4, ma_i (v4))] [] (q_h f g) (ma_zr (q_G t) false Q)) (v2 : Int) (v3 : Int) (v4 : Int) (v5 : Int) (f g : q_F) (hp : p_Mod_reckon_51  c10 v2 v3 v4 v5 f g = some y) : ma_Ev (q_G t) 1 24 0 0 m_Mod_reckon 51 [(0, q_a t (60)), (2, ma_i (v2)), (3, ma_i (v3)), (4, ma_i (v4)), (5, ma_i (v5))] [] (q_h f g) (ma_zr (q_G t) false Q) := by
  unfold p_Mod_reckon_51 at hp
  refine et_aload_n (pc := 51) d_Mod_reckon_51 rfl rfl ?_
  refine et_getr (pc := 52) ok (fl_Mod_42 t) rfl d_Mod_reckon_52 s_60 r_60_15 ?_
  refine ev_iload (pc := 55) d_Mod_reckon_55 rfl ?_
  replace hp := q_if hp
  obtain ⟨hb1, hp⟩ := hp
  refine et_iald (pc := 57) d_Mod_reckon_57 s_70 hb1 (by decide) ?_
  refine ev_iconst (pc := 58) d_Mod_reckon_58 ?_
  refine et_icmp_ne (pc := 59) (tgt := 82) d_Mod_reckon_59 (by decide) (fun hj2 => ?_) (fun hj2 => ?_)
  · rw [if_neg hj2] at hp
    refine ev_sub (ls2 := [(0, q_a t (60)), (2, ma_i (v2)), (3, ma_i (v3)), (4, ma_i (v4)), (5, ma_i (v5))]) [0, 1, 2, 3, 4] rfl ?_
    exact e_Mod_reckon_82 t ok  hQ c10 hc10 (v2) (v3) (v4) (v5) f g hp
  · rw [if_pos hj2] at hp
    refine et_aload_n (pc := 62) d_Mod_reckon_62 rfl rfl ?_
    refine ev_iload_n (pc := 63) d_Mod_reckon_63 rfl rfl ?_
    refine et_aload_n (pc := 64) d_Mod_reckon_64 rfl rfl ?_
    refine et_getr (pc := 65) ok (fl_Mod_106 t) rfl d_Mod_reckon_65 s_60 r_60_40 ?_
    refine ev_iload (pc := 68) d_Mod_reckon_68 rfl ?_
    replace hp := q_if hp
    obtain ⟨hb3, hp⟩ := hp
    refine et_zald (pc := 70) d_Mod_reckon_70 s_91 hb3 (by decide) ?_
    refine et_aload_n (pc := 71) d_Mod_reckon_71 rfl rfl ?_
    refine et_getr (pc := 72) ok (fl_Mod_118 t) rfl d_Mod_reckon_72 s_60 r_60_44 ?_
    refine ev_iload (pc := 75) d_Mod_reckon_75 rfl ?_
    replace hp := q_if hp
    obtain ⟨hb4, hp⟩ := hp
    refine et_iald (pc := 77) d_Mod_reckon_77 s_95 hb4 (by decide) ?_
    refine et_i2l (pc := 78) d_Mod_reckon_78 ?_
    replace hp := q_bind hp
    obtain ⟨x5, hm6, hp⟩ := hp
    refine et_callVv (pc := 79) (f1 := x5.1) (g1 := x5.2) ok [ma_i (v3), ma_i (f 91 (Int.toNat v5)), ma_j (q_sw (f 95 (Int.toNat v5)))] [] (cf_Mod_220 t) d_Mod_reckon_79 s_60 k_12 rfl (t_Mod_push t ok (v3) (f 91 (Int.toNat v5)) (q_sw (f 95 (Int.toNat v5))) f g hm6 ⟨rfl, rfl⟩) rfl rfl (by decide) (by decide) (q_ble rfl) ?_
    refine ev_sub (ls2 := [(0, q_a t (60)), (2, ma_i (v2)), (3, ma_i (v3)), (4, ma_i (v4)), (5, ma_i (v5))]) [0, 1, 2, 3, 4] rfl ?_
    exact e_Mod_reckon_82 t ok  hQ c10 hc10 (v2) (v3) (v4) (v5) x5.1 x5.2 hp
theorem e_Mod_reckon_10 (t : q_V) (ok : ma_ok (q_G t))  {Q : Option Value → ma_H → Prop} {y : Int × q_F × q_F} (hQ : Q (some (ma_j y.1)) (q_h y.2.1 y.2.2))   : ∀ (n : Nat) (v2 : Int) (v3 : Int) (v4 : Int) (f g : q_F), p_Mod_reckon_10   n v2 v3 v4 f g = some y → ma_Ev (q_G t) 1 24 0 0 m_Mod_reckon 10 [(0, q_a t (60)), (2, ma_i (v2)), (3, ma_i (v3)), (4, ma_i (v4))] [] (q_h f g) (ma_zr (q_G t) false Q) := by
  intro n
  induction n with
  | zero =>
    intro v2 v3 v4 f g hp
    rw [p_Mod_reckon_10] at hp
    cases hp
  | succ n ih =>
    intro v2 v3 v4 f g hp
    rw [p_Mod_reckon_10] at hp
    refine ev_iload (pc := 10) d_Mod_reckon_10 rfl ?_
    refine ev_iload_n (pc := 12) d_Mod_reckon_12 rfl rfl ?_
    refine et_icmp_ge (pc := 13) (tgt := 399) d_Mod_reckon_13 (by decide) (fun hj1 => ?_) (fun hj1 => ?_)
    · rw [if_pos hj1] at hp
      refine ev_sub (ls2 := [(0, q_a t (60))]) [0] rfl ?_
      exact e_Mod_reckon_399 t ok  hQ    f g hp
    · rw [if_neg hj1] at hp
      refine et_aload_n (pc := 16) d_Mod_reckon_16 rfl rfl ?_
      refine et_geti (pc := 17) ok (fl_Mod_217 t) rfl d_Mod_reckon_17 s_60 ?_
      refine et_if_eq (pc := 20) (tgt := 399) d_Mod_reckon_20 (by decide) (fun hj2 => ?_) (fun hj2 => ?_)
      · rw [if_pos hj2] at hp
        refine ev_sub (ls2 := [(0, q_a t (60))]) [0] rfl ?_
        exact e_Mod_reckon_399 t ok  hQ    f g hp
      · rw [if_neg hj2] at hp
        refine et_aload_n (pc := 23) d_Mod_reckon_23 rfl rfl ?_
        refine et_getr (pc := 24) ok (fl_Mod_45 t) rfl d_Mod_reckon_24 s_60 r_60_16 ?_
        refine ev_iload (pc := 27) d_Mod_reckon_27 rfl ?_
        replace hp := q_if hp
        obtain ⟨hb3, hp⟩ := hp
        refine et_iald (pc := 29) d_Mod_reckon_29 s_71 hb3 (by decide) ?_
        refine ev_istore (pc := 30) d_Mod_reckon_30 (by decide) [(5, _), (0, _), (2, _), (3, _), (4, _)] rfl ?_
        replace hp := q_let_of hp
        obtain ⟨z4, hz, hp⟩ := hp
        rw [← hz]
        clear hz
        refine et_aload_n (pc := 32) d_Mod_reckon_32 rfl rfl ?_
        refine et_getr (pc := 33) ok (fl_Mod_42 t) rfl d_Mod_reckon_33 s_60 r_60_15 ?_
        refine ev_iload (pc := 36) d_Mod_reckon_36 rfl ?_
        replace hp := q_if hp
        obtain ⟨hb5, hp⟩ := hp
        refine et_iald (pc := 38) d_Mod_reckon_38 s_70 hb5 (by decide) ?_
        refine et_if_ne (pc := 39) (tgt := 51) d_Mod_reckon_39 (by decide) (fun hj6 => ?_) (fun hj6 => ?_)
        · rw [if_neg hj6] at hp
          refine ev_sub (ls2 := [(0, q_a t (60)), (2, ma_i (v2)), (3, ma_i (v3)), (4, ma_i (v4)), (5, ma_i (z4))]) [1, 2, 3, 4, 0] rfl ?_
          exact e_Mod_reckon_51 t ok  hQ (p_Mod_reckon_10   n) ih (v2) (v3) (v4) (z4) f g hp
        · rw [if_pos hj6] at hp
          refine et_aload_n (pc := 42) d_Mod_reckon_42 rfl rfl ?_
          refine ev_iload_n (pc := 43) d_Mod_reckon_43 rfl rfl ?_
          refine ev_iconst (pc := 44) d_Mod_reckon_44 ?_
          refine ev_iload (pc := 45) d_Mod_reckon_45 rfl ?_
          refine et_i2l (pc := 47) d_Mod_reckon_47 ?_
          replace hp := q_bind hp
          obtain ⟨x7, hm8, hp⟩ := hp
          refine et_callVv (pc := 48) (f1 := x7.1) (g1 := x7.2) ok [ma_i (v3), ma_i (1), ma_j (q_sw z4)] [] (cf_Mod_220 t) d_Mod_reckon_48 s_60 k_12 rfl (t_Mod_push t ok (v3) (1) (q_sw z4) f g hm8 ⟨rfl, rfl⟩) rfl rfl (by decide) (by decide) (q_ble rfl) ?_
          refine ev_sub (ls2 := [(0, q_a t (60)), (2, ma_i (v2)), (3, ma_i (v3)), (4, ma_i (v4)), (5, ma_i (z4))]) [1, 2, 3, 4, 0] rfl ?_
          exact e_Mod_reckon_51 t ok  hQ (p_Mod_reckon_10   n) ih (v2) (v3) (v4) (z4) x7.1 x7.2 hp
theorem t_Mod_reckon (t : q_V) (ok : ma_ok (q_G t))  {Q : Option Value → ma_H → Prop} {y : Int × q_F × q_F} (v1 : Int) (v2 : Int) (f g : q_F) (hp : p_Mod_reckon  v1 v2 f g = some y) (hQ : Q (some (ma_j y.1)) (q_h y.2.1 y.2.2)) : ma_Met (q_G t) false 1 24 0 0 m_Mod_reckon [q_a t (60), ma_i (v1), ma_i (v2)] (q_h f g) Q := by
  refine ma_met (by decide +kernel) (q_ble rfl) rfl ?_
  change ma_Ev (q_G t) 1 24 0 0 m_Mod_reckon 0 [(0, q_a t (60)), (1, ma_i (v1)), (2, ma_i (v2))] [] (q_h f g) (ma_zr (q_G t) false Q)
  unfold p_Mod_reckon at hp
  refine et_aload_n (pc := 0) d_Mod_reckon_0 rfl rfl ?_
  refine ev_iconst (pc := 1) d_Mod_reckon_1 ?_
  refine et_putz (pc := 2) ok (fl_Mod_217 t) (by decide) d_Mod_reckon_2 s_60 ?_
  replace hp := q_let_of hp
  obtain ⟨f1, hz, hp⟩ := hp
  rw [← hz]
  clear hz
  refine ev_iconst (pc := 5) d_Mod_reckon_5 ?_
  refine ev_istore_n (pc := 6) d_Mod_reckon_6 rfl (by decide) [(3, _), (0, _), (1, _), (2, _)] rfl ?_
  refine ev_iload_n (pc := 7) d_Mod_reckon_7 rfl rfl ?_
  refine ev_istore (pc := 8) d_Mod_reckon_8 (by decide) [(4, _), (3, _), (0, _), (1, _), (2, _)] rfl ?_
  refine ev_sub (ls2 := [(0, q_a t (60)), (2, ma_i (v2)), (3, ma_i (0)), (4, ma_i (v1))]) [2, 4, 1, 0] rfl ?_
  exact e_Mod_reckon_10 t ok  hQ   1000 (v2) (0) (v1) f1 g hp
theorem d_Mod_placeOf_0 : decode (m_c m_Mod_placeOf) 0 = .ok (.aload_n 0, 1) := by decide +kernel
theorem d_Mod_placeOf_1 : decode (m_c m_Mod_placeOf) 1 = .ok (.iconst 1, 1) := by decide +kernel
theorem d_Mod_placeOf_2 : decode (m_c m_Mod_placeOf) 2 = .ok (.putfield 217, 3) := by decide +kernel
theorem d_Mod_placeOf_5 : decode (m_c m_Mod_placeOf) 5 = .ok (.iload_n 2, 1) := by decide +kernel
theorem d_Mod_placeOf_6 : decode (m_c m_Mod_placeOf) 6 = .ok (.iconst 1, 1) := by decide +kernel
theorem d_Mod_placeOf_7 : decode (m_c m_Mod_placeOf) 7 = .ok (.isub, 1) := by decide +kernel
theorem d_Mod_placeOf_8 : decode (m_c m_Mod_placeOf) 8 = .ok (.istore_n 3, 1) := by decide +kernel
theorem d_Mod_placeOf_9 : decode (m_c m_Mod_placeOf) 9 = .ok (.iload_n 3, 1) := by decide +kernel
theorem d_Mod_placeOf_10 : decode (m_c m_Mod_placeOf) 10 = .ok (.ifCond .lt 88, 3) := by decide +kernel
theorem d_Mod_placeOf_13 : decode (m_c m_Mod_placeOf) 13 = .ok (.aload_n 0, 1) := by decide +kernel
theorem d_Mod_placeOf_14 : decode (m_c m_Mod_placeOf) 14 = .ok (.getfield 58, 3) := by decide +kernel
theorem d_Mod_placeOf_17 : decode (m_c m_Mod_placeOf) 17 = .ok (.iload_n 3, 1) := by decide +kernel
theorem d_Mod_placeOf_18 : decode (m_c m_Mod_placeOf) 18 = .ok (.iaload, 1) := by decide +kernel
theorem d_Mod_placeOf_19 : decode (m_c m_Mod_placeOf) 19 = .ok (.istore 4, 2) := by decide +kernel
theorem d_Mod_placeOf_21 : decode (m_c m_Mod_placeOf) 21 = .ok (.aload_n 0, 1) := by decide +kernel
theorem d_Mod_placeOf_22 : decode (m_c m_Mod_placeOf) 22 = .ok (.getfield 76, 3) := by decide +kernel
theorem d_Mod_placeOf_25 : decode (m_c m_Mod_placeOf) 25 = .ok (.iload 4, 2) := by decide +kernel
theorem d_Mod_placeOf_27 : decode (m_c m_Mod_placeOf) 27 = .ok (.iaload, 1) := by decide +kernel
theorem d_Mod_placeOf_28 : decode (m_c m_Mod_placeOf) 28 = .ok (.iload_n 1, 1) := by decide +kernel
theorem d_Mod_placeOf_29 : decode (m_c m_Mod_placeOf) 29 = .ok (.if_icmp .eq 14, 3) := by decide +kernel
theorem d_Mod_placeOf_32 : decode (m_c m_Mod_placeOf) 32 = .ok (.aload_n 0, 1) := by decide +kernel
theorem d_Mod_placeOf_33 : decode (m_c m_Mod_placeOf) 33 = .ok (.getfield 79, 3) := by decide +kernel
theorem d_Mod_placeOf_36 : decode (m_c m_Mod_placeOf) 36 = .ok (.iload 4, 2) := by decide +kernel
theorem d_Mod_placeOf_38 : decode (m_c m_Mod_placeOf) 38 = .ok (.iaload, 1) := by decide +kernel
theorem d_Mod_placeOf_39 : decode (m_c m_Mod_placeOf) 39 = .ok (.iload_n 1, 1) := by decide +kernel
theorem d_Mod_placeOf_40 : decode (m_c m_Mod_placeOf) 40 = .ok (.if_icmp .ne 52, 3) := by decide +kernel
theorem d_Mod_placeOf_43 : decode (m_c m_Mod_placeOf) 43 = .ok (.aload_n 0, 1) := by decide +kernel
theorem d_Mod_placeOf_44 : decode (m_c m_Mod_placeOf) 44 = .ok (.aload_n 0, 1) := by decide +kernel
theorem d_Mod_placeOf_45 : decode (m_c m_Mod_placeOf) 45 = .ok (.getfield 64, 3) := by decide +kernel
theorem d_Mod_placeOf_48 : decode (m_c m_Mod_placeOf) 48 = .ok (.iload 4, 2) := by decide +kernel
theorem d_Mod_placeOf_50 : decode (m_c m_Mod_placeOf) 50 = .ok (.baload, 1) := by decide +kernel
theorem d_Mod_placeOf_51 : decode (m_c m_Mod_placeOf) 51 = .ok (.putfield 217, 3) := by decide +kernel
theorem d_Mod_placeOf_54 : decode (m_c m_Mod_placeOf) 54 = .ok (.aload_n 0, 1) := by decide +kernel
theorem d_Mod_placeOf_55 : decode (m_c m_Mod_placeOf) 55 = .ok (.getfield 76, 3) := by decide +kernel
theorem d_Mod_placeOf_58 : decode (m_c m_Mod_placeOf) 58 = .ok (.iload 4, 2) := by decide +kernel
theorem d_Mod_placeOf_60 : decode (m_c m_Mod_placeOf) 60 = .ok (.iaload, 1) := by decide +kernel
theorem d_Mod_placeOf_61 : decode (m_c m_Mod_placeOf) 61 = .ok (.iload_n 1, 1) := by decide +kernel
theorem d_Mod_placeOf_62 : decode (m_c m_Mod_placeOf) 62 = .ok (.if_icmp .ne 13, 3) := by decide +kernel
theorem d_Mod_placeOf_65 : decode (m_c m_Mod_placeOf) 65 = .ok (.aload_n 0, 1) := by decide +kernel
theorem d_Mod_placeOf_66 : decode (m_c m_Mod_placeOf) 66 = .ok (.getfield 91, 3) := by decide +kernel
theorem d_Mod_placeOf_69 : decode (m_c m_Mod_placeOf) 69 = .ok (.iload 4, 2) := by decide +kernel
theorem d_Mod_placeOf_71 : decode (m_c m_Mod_placeOf) 71 = .ok (.iaload, 1) := by decide +kernel
theorem d_Mod_placeOf_72 : decode (m_c m_Mod_placeOf) 72 = .ok (.goto 10, 3) := by decide +kernel
theorem d_Mod_placeOf_75 : decode (m_c m_Mod_placeOf) 75 = .ok (.aload_n 0, 1) := by decide +kernel
theorem d_Mod_placeOf_76 : decode (m_c m_Mod_placeOf) 76 = .ok (.getfield 97, 3) := by decide +kernel
theorem d_Mod_placeOf_79 : decode (m_c m_Mod_placeOf) 79 = .ok (.iload 4, 2) := by decide +kernel
theorem d_Mod_placeOf_81 : decode (m_c m_Mod_placeOf) 81 = .ok (.iaload, 1) := by decide +kernel
theorem d_Mod_placeOf_82 : decode (m_c m_Mod_placeOf) 82 = .ok (.aload_n 0, 1) := by decide +kernel
theorem d_Mod_placeOf_83 : decode (m_c m_Mod_placeOf) 83 = .ok (.getfield 94, 3) := by decide +kernel
theorem d_Mod_placeOf_86 : decode (m_c m_Mod_placeOf) 86 = .ok (.iload 4, 2) := by decide +kernel
theorem d_Mod_placeOf_88 : decode (m_c m_Mod_placeOf) 88 = .ok (.iaload, 1) := by decide +kernel
theorem d_Mod_placeOf_89 : decode (m_c m_Mod_placeOf) 89 = .ok (.iadd, 1) := by decide +kernel
theorem d_Mod_placeOf_90 : decode (m_c m_Mod_placeOf) 90 = .ok (.i2l, 1) := by decide +kernel
theorem d_Mod_placeOf_91 : decode (m_c m_Mod_placeOf) 91 = .ok (.lreturn, 1) := by decide +kernel
theorem d_Mod_placeOf_92 : decode (m_c m_Mod_placeOf) 92 = .ok (.iinc 3 (-1), 3) := by decide +kernel
theorem d_Mod_placeOf_95 : decode (m_c m_Mod_placeOf) 95 = .ok (.goto (-86), 3) := by decide +kernel
theorem d_Mod_placeOf_98 : decode (m_c m_Mod_placeOf) 98 = .ok (.aload_n 0, 1) := by decide +kernel
theorem d_Mod_placeOf_99 : decode (m_c m_Mod_placeOf) 99 = .ok (.getfield 36, 3) := by decide +kernel
theorem d_Mod_placeOf_102 : decode (m_c m_Mod_placeOf) 102 = .ok (.iload_n 1, 1) := by decide +kernel
theorem d_Mod_placeOf_103 : decode (m_c m_Mod_placeOf) 103 = .ok (.iaload, 1) := by decide +kernel
theorem d_Mod_placeOf_104 : decode (m_c m_Mod_placeOf) 104 = .ok (.i2l, 1) := by decide +kernel
theorem d_Mod_placeOf_105 : decode (m_c m_Mod_placeOf) 105 = .ok (.lreturn, 1) := by decide +kernel
def p_Mod_placeOf_82   (v4 : Int) (s0 : Int) (f g : q_F) : Option (Int × q_F × q_F) :=
  if 0 ≤ v4 ∧ v4 < 8 then
    some (q_sw (s0 + (f 87 (Int.toNat v4))), f, g)
  else none
def p_Mod_placeOf_43   (v1 : Int) (v4 : Int) (f g : q_F) : Option (Int × q_F × q_F) :=
  if 0 ≤ v4 ∧ v4 < 8 then
    if (f 77 (Int.toNat v4)) = 0 ∨ (f 77 (Int.toNat v4)) = 1 then
      q_let (ma_up f 60 20 (f 77 (Int.toNat v4))) fun f3 =>
      if 0 ≤ v4 ∧ v4 < 8 then
        if q_sw (f3 81 (Int.toNat v4)) = q_sw v1 then
          if 0 ≤ v4 ∧ v4 < 8 then
            p_Mod_placeOf_82   (v4) (f3 86 (Int.toNat v4)) f3 g
          else none
        else
          if 0 ≤ v4 ∧ v4 < 8 then
            p_Mod_placeOf_82   (v4) (f3 88 (Int.toNat v4)) f3 g
          else none
      else none
    else none
  else none
def p_Mod_placeOf_9   : Nat → Int → Int → q_F → q_F → Option (Int × q_F × q_F)
  | 0, _, _, _, _ => none
  | n + 1, v1, v3, f, g =>
    if q_sw v3 < 0 then
      if 0 ≤ v1 ∧ v1 < 4 then
        some (q_sw (f 68 (Int.toNat v1)), f, g)
      else none
    else
      if 0 ≤ v3 ∧ v3 < 8 then
        q_let (f 75 (Int.toNat v3)) fun z4 =>
        if 0 ≤ z4 ∧ z4 < 8 then
          if q_sw (f 81 (Int.toNat z4)) = q_sw v1 then
            p_Mod_placeOf_43   (v1) (z4) f g
          else
            if 0 ≤ z4 ∧ z4 < 8 then
              if q_sw (f 82 (Int.toNat z4)) = q_sw v1 then
                p_Mod_placeOf_43   (v1) (z4) f g
              else
                q_let (v3 + (-1)) fun z9 =>
                (p_Mod_placeOf_9   n) (v1) (z9) f g
            else none
        else none
      else none
def p_Mod_placeOf  (v1 : Int) (v2 : Int) (f g : q_F) : Option (Int × q_F × q_F) :=
  q_let (ma_up f 60 20 1) fun f1 =>
  q_let (v2 - 1) fun z2 =>
  p_Mod_placeOf_9   1000 (v1) (z2) f1 g
theorem e_Mod_placeOf_82 (t : q_V) (ok : ma_ok (q_G t))  {Q : Option Value → ma_H → Prop} {y : Int × q_F × q_F} (hQ : Q (some (ma_j y.1)) (q_h y.2.1 y.2.2))   (v4 : Int) (s0 : Int) (f g : q_F) (hp : p_Mod_placeOf_82   v4 s0 f g = some y) : ma_Ev (q_G t) 0 0 0 0 m_Mod_placeOf 82 [(0, q_a t (60)), (4, ma_i (v4))] [ma_i (s0)] (q_h f g) (ma_zr (q_G t) false Q) := by
  unfold p_Mod_placeOf_82 at hp
  refine et_aload_n (pc := 82) d_Mod_placeOf_82 rfl rfl ?_
  refine et_getr (pc := 83) ok (fl_Mod_94 t) rfl d_Mod_placeOf_83 s_60 r_60_35 ?_
  refine ev_iload (pc := 86) d_Mod_placeOf_86 rfl ?_
  replace hp := q_if hp
  obtain ⟨hb1, hp⟩ := hp
  refine et_iald (pc := 88) d_Mod_placeOf_88 s_87 hb1 (by decide) ?_
  refine ev_iadd (pc := 89) d_Mod_placeOf_89 ?_
  refine et_i2l (pc := 90) d_Mod_placeOf_90 ?_
  cases Option.some.inj hp
  exact et_lret (pc := 91) d_Mod_placeOf_91 rfl hQ
theorem e_Mod_placeOf_43 (t : q_V) (ok : ma_ok (q_G t))  {Q : Option Value → ma_H → Prop} {y : Int × q_F × q_F} (hQ : Q (some (ma_j y.1)) (q_h y.2.1 y.2.2))   (v1 : Int) (v4 : Int) (f g : q_F) (hp : p_Mod_placeOf_43   v1 v4 f g = some y) : ma_Ev (q_G t) 0 0 0 0 m_Mod_placeOf 43 [(0, q_a t (60)), (1, ma_i (v1)), (4, ma_i (v4))] [] (q_h f g) (ma_zr (q_G t) false Q) := by
  unfold p_Mod_placeOf_43 at hp
  refine et_aload_n (pc := 43) d_Mod_placeOf_43 rfl rfl ?_
  refine et_aload_n (pc := 44) d_Mod_placeOf_44 rfl rfl ?_
  refine et_getr (pc := 45) ok (fl_Mod_64 t) rfl d_Mod_placeOf_45 s_60 r_60_25 ?_
  refine ev_iload (pc := 48) d_Mod_placeOf_48 rfl ?_
  replace hp := q_if hp
  obtain ⟨hb1, hp⟩ := hp
  refine et_zald (pc := 50) d_Mod_placeOf_50 s_77 hb1 (by decide) ?_
  replace hp := q_if hp
  obtain ⟨hb2, hp⟩ := hp
  refine et_putz (pc := 51) ok (fl_Mod_217 t) hb2 d_Mod_placeOf_51 s_60 ?_
  replace hp := q_let_of hp
  obtain ⟨f3, hz, hp⟩ := hp
  rw [← hz]
  clear hz
  refine et_aload_n (pc := 54) d_Mod_placeOf_54 rfl rfl ?_
  refine et_getr (pc := 55) ok (fl_Mod_76 t) rfl d_Mod_placeOf_55 s_60 r_60_29 ?_
  refine ev_iload (pc := 58) d_Mod_placeOf_58 rfl ?_
  replace hp := q_if hp
  obtain ⟨hb4, hp⟩ := hp
  refine et_iald (pc := 60) d_Mod_placeOf_60 s_81 hb4 (by decide) ?_
  refine ev_iload_n (pc := 61) d_Mod_placeOf_61 rfl rfl ?_
  refine et_icmp_ne (pc := 62) (tgt := 75) d_Mod_placeOf_62 (by decide) (fun hj5 => ?_) (fun hj5 => ?_)
  · rw [if_neg hj5] at hp
    refine et_aload_n (pc := 75) d_Mod_placeOf_75 rfl rfl ?_
    refine et_getr (pc := 76) ok (fl_Mod_97 t) rfl d_Mod_placeOf_76 s_60 r_60_36 ?_
    refine ev_iload (pc := 79) d_Mod_placeOf_79 rfl ?_
    replace hp := q_if hp
    obtain ⟨hb6, hp⟩ := hp
    refine et_iald (pc := 81) d_Mod_placeOf_81 s_88 hb6 (by decide) ?_
    refine ev_sub (ls2 := [(0, q_a t (60)), (4, ma_i (v4))]) [0, 2] rfl ?_
    exact e_Mod_placeOf_82 t ok  hQ   (v4) (f3 88 (Int.toNat v4)) f3 g hp
  · rw [if_pos hj5] at hp
    refine et_aload_n (pc := 65) d_Mod_placeOf_65 rfl rfl ?_
    refine et_getr (pc := 66) ok (fl_Mod_91 t) rfl d_Mod_placeOf_66 s_60 r_60_34 ?_
    refine ev_iload (pc := 69) d_Mod_placeOf_69 rfl ?_
    replace hp := q_if hp
    obtain ⟨hb7, hp⟩ := hp
    refine et_iald (pc := 71) d_Mod_placeOf_71 s_86 hb7 (by decide) ?_
    refine ev_goto (pc := 72) (tgt := 82) d_Mod_placeOf_72 (by decide) ?_
    refine ev_sub (ls2 := [(0, q_a t (60)), (4, ma_i (v4))]) [0, 2] rfl ?_
    exact e_Mod_placeOf_82 t ok  hQ   (v4) (f3 86 (Int.toNat v4)) f3 g hp
theorem e_Mod_placeOf_9 (t : q_V) (ok : ma_ok (q_G t))  {Q : Option Value → ma_H → Prop} {y : Int × q_F × q_F} (hQ : Q (some (ma_j y.1)) (q_h y.2.1 y.2.2))   : ∀ (n : Nat) (v1 : Int) (v3 : Int) (f g : q_F), p_Mod_placeOf_9   n v1 v3 f g = some y → ma_Ev (q_G t) 0 0 0 0 m_Mod_placeOf 9 [(0, q_a t (60)), (1, ma_i (v1)), (3, ma_i (v3))] [] (q_h f g) (ma_zr (q_G t) false Q) := by
  intro n
  induction n with
  | zero =>
    intro v1 v3 f g hp
    rw [p_Mod_placeOf_9] at hp
    cases hp
  | succ n ih =>
    intro v1 v3 f g hp
    rw [p_Mod_placeOf_9] at hp
    refine ev_iload_n (pc := 9) d_Mod_placeOf_9 rfl rfl ?_
    refine et_if_lt (pc := 10) (tgt := 98) d_Mod_placeOf_10 (by decide) (fun hj1 => ?_) (fun hj1 => ?_)
    · rw [if_pos hj1] at hp
      refine et_aload_n (pc := 98) d_Mod_placeOf_98 rfl rfl ?_
      refine et_getr (pc := 99) ok (fl_Mod_36 t) rfl d_Mod_placeOf_99 s_60 r_60_12 ?_
      refine ev_iload_n (pc := 102) d_Mod_placeOf_102 rfl rfl ?_
      replace hp := q_if hp
      obtain ⟨hb2, hp⟩ := hp
      refine et_iald (pc := 103) d_Mod_placeOf_103 s_68 hb2 (by decide) ?_
      refine et_i2l (pc := 104) d_Mod_placeOf_104 ?_
      cases Option.some.inj hp
      exact et_lret (pc := 105) d_Mod_placeOf_105 rfl hQ
    · rw [if_neg hj1] at hp
      refine et_aload_n (pc := 13) d_Mod_placeOf_13 rfl rfl ?_
      refine et_getr (pc := 14) ok (fl_Mod_58 t) rfl d_Mod_placeOf_14 s_60 r_60_23 ?_
      refine ev_iload_n (pc := 17) d_Mod_placeOf_17 rfl rfl ?_
      replace hp := q_if hp
      obtain ⟨hb3, hp⟩ := hp
      refine et_iald (pc := 18) d_Mod_placeOf_18 s_75 hb3 (by decide) ?_
      refine ev_istore (pc := 19) d_Mod_placeOf_19 (by decide) [(4, _), (0, _), (1, _), (3, _)] rfl ?_
      replace hp := q_let_of hp
      obtain ⟨z4, hz, hp⟩ := hp
      rw [← hz]
      clear hz
      refine et_aload_n (pc := 21) d_Mod_placeOf_21 rfl rfl ?_
      refine et_getr (pc := 22) ok (fl_Mod_76 t) rfl d_Mod_placeOf_22 s_60 r_60_29 ?_
      refine ev_iload (pc := 25) d_Mod_placeOf_25 rfl ?_
      replace hp := q_if hp
      obtain ⟨hb5, hp⟩ := hp
      refine et_iald (pc := 27) d_Mod_placeOf_27 s_81 hb5 (by decide) ?_
      refine ev_iload_n (pc := 28) d_Mod_placeOf_28 rfl rfl ?_
      refine et_icmp_eq (pc := 29) (tgt := 43) d_Mod_placeOf_29 (by decide) (fun hj6 => ?_) (fun hj6 => ?_)
      · rw [if_pos hj6] at hp
        refine ev_sub (ls2 := [(0, q_a t (60)), (1, ma_i (v1)), (4, ma_i (z4))]) [1, 2, 0] rfl ?_
        exact e_Mod_placeOf_43 t ok  hQ   (v1) (z4) f g hp
      · rw [if_neg hj6] at hp
        refine et_aload_n (pc := 32) d_Mod_placeOf_32 rfl rfl ?_
        refine et_getr (pc := 33) ok (fl_Mod_79 t) rfl d_Mod_placeOf_33 s_60 r_60_30 ?_
        refine ev_iload (pc := 36) d_Mod_placeOf_36 rfl ?_
        replace hp := q_if hp
        obtain ⟨hb7, hp⟩ := hp
        refine et_iald (pc := 38) d_Mod_placeOf_38 s_82 hb7 (by decide) ?_
        refine ev_iload_n (pc := 39) d_Mod_placeOf_39 rfl rfl ?_
        refine et_icmp_ne (pc := 40) (tgt := 92) d_Mod_placeOf_40 (by decide) (fun hj8 => ?_) (fun hj8 => ?_)
        · rw [if_neg hj8] at hp
          refine ev_iinc (pc := 92) d_Mod_placeOf_92 (by decide) rfl [(3, _), (4, _), (0, _), (1, _)] rfl ?_
          replace hp := q_let_of hp
          obtain ⟨z9, hz, hp⟩ := hp
          rw [← hz]
          clear hz
          refine ev_goto (pc := 95) (tgt := 9) d_Mod_placeOf_95 (by decide) ?_
          refine ev_sub (ls2 := [(0, q_a t (60)), (1, ma_i (v1)), (3, ma_i (z9))]) [2, 3, 0] rfl ?_
          exact ih (v1) (z9) f g hp
        · rw [if_pos hj8] at hp
          refine ev_sub (ls2 := [(0, q_a t (60)), (1, ma_i (v1)), (4, ma_i (z4))]) [1, 2, 0] rfl ?_
          exact e_Mod_placeOf_43 t ok  hQ   (v1) (z4) f g hp
theorem t_Mod_placeOf (t : q_V) (ok : ma_ok (q_G t))  {Q : Option Value → ma_H → Prop} {y : Int × q_F × q_F} (v1 : Int) (v2 : Int) (f g : q_F) (hp : p_Mod_placeOf  v1 v2 f g = some y) (hQ : Q (some (ma_j y.1)) (q_h y.2.1 y.2.2)) : ma_Met (q_G t) false 0 0 0 0 m_Mod_placeOf [q_a t (60), ma_i (v1), ma_i (v2)] (q_h f g) Q := by
  refine ma_met (by decide +kernel) (q_ble rfl) rfl ?_
  change ma_Ev (q_G t) 0 0 0 0 m_Mod_placeOf 0 [(0, q_a t (60)), (1, ma_i (v1)), (2, ma_i (v2))] [] (q_h f g) (ma_zr (q_G t) false Q)
  unfold p_Mod_placeOf at hp
  refine et_aload_n (pc := 0) d_Mod_placeOf_0 rfl rfl ?_
  refine ev_iconst (pc := 1) d_Mod_placeOf_1 ?_
  refine et_putz (pc := 2) ok (fl_Mod_217 t) (by decide) d_Mod_placeOf_2 s_60 ?_
  replace hp := q_let_of hp
  obtain ⟨f1, hz, hp⟩ := hp
  rw [← hz]
  clear hz
  refine ev_iload_n (pc := 5) d_Mod_placeOf_5 rfl rfl ?_
  refine ev_iconst (pc := 6) d_Mod_placeOf_6 ?_
  refine ev_isub (pc := 7) d_Mod_placeOf_7 ?_
  refine ev_istore_n (pc := 8) d_Mod_placeOf_8 rfl (by decide) [(3, _), (0, _), (1, _), (2, _)] rfl ?_
  replace hp := q_let_of hp
  obtain ⟨z2, hz, hp⟩ := hp
  rw [← hz]
  clear hz
  refine ev_sub (ls2 := [(0, q_a t (60)), (1, ma_i (v1)), (3, ma_i (z2))]) [1, 2, 0] rfl ?_
  exact e_Mod_placeOf_9 t ok  hQ   1000 (v1) (z2) f1 g hp
theorem d_Mod_alignOf_0 : decode (m_c m_Mod_alignOf) 0 = .ok (.iconst 1, 1) := by decide +kernel
theorem d_Mod_alignOf_1 : decode (m_c m_Mod_alignOf) 1 = .ok (.istore_n 2, 1) := by decide +kernel
theorem d_Mod_alignOf_2 : decode (m_c m_Mod_alignOf) 2 = .ok (.aload_n 0, 1) := by decide +kernel
theorem d_Mod_alignOf_3 : decode (m_c m_Mod_alignOf) 3 = .ok (.getfield 85, 3) := by decide +kernel
theorem d_Mod_alignOf_6 : decode (m_c m_Mod_alignOf) 6 = .ok (.iload_n 1, 1) := by decide +kernel
theorem d_Mod_alignOf_7 : decode (m_c m_Mod_alignOf) 7 = .ok (.iaload, 1) := by decide +kernel
theorem d_Mod_alignOf_8 : decode (m_c m_Mod_alignOf) 8 = .ok (.istore_n 3, 1) := by decide +kernel
theorem d_Mod_alignOf_9 : decode (m_c m_Mod_alignOf) 9 = .ok (.iload_n 3, 1) := by decide +kernel
theorem d_Mod_alignOf_10 : decode (m_c m_Mod_alignOf) 10 = .ok (.aload_n 0, 1) := by decide +kernel
theorem d_Mod_alignOf_11 : decode (m_c m_Mod_alignOf) 11 = .ok (.getfield 85, 3) := by decide +kernel
theorem d_Mod_alignOf_14 : decode (m_c m_Mod_alignOf) 14 = .ok (.iload_n 1, 1) := by decide +kernel
theorem d_Mod_alignOf_15 : decode (m_c m_Mod_alignOf) 15 = .ok (.iaload, 1) := by decide +kernel
theorem d_Mod_alignOf_16 : decode (m_c m_Mod_alignOf) 16 = .ok (.aload_n 0, 1) := by decide +kernel
theorem d_Mod_alignOf_17 : decode (m_c m_Mod_alignOf) 17 = .ok (.getfield 88, 3) := by decide +kernel
theorem d_Mod_alignOf_20 : decode (m_c m_Mod_alignOf) 20 = .ok (.iload_n 1, 1) := by decide +kernel
theorem d_Mod_alignOf_21 : decode (m_c m_Mod_alignOf) 21 = .ok (.iaload, 1) := by decide +kernel
theorem d_Mod_alignOf_22 : decode (m_c m_Mod_alignOf) 22 = .ok (.iadd, 1) := by decide +kernel
theorem d_Mod_alignOf_23 : decode (m_c m_Mod_alignOf) 23 = .ok (.if_icmp .ge 69, 3) := by decide +kernel
theorem d_Mod_alignOf_26 : decode (m_c m_Mod_alignOf) 26 = .ok (.aload_n 0, 1) := by decide +kernel
theorem d_Mod_alignOf_27 : decode (m_c m_Mod_alignOf) 27 = .ok (.getfield 100, 3) := by decide +kernel
theorem d_Mod_alignOf_30 : decode (m_c m_Mod_alignOf) 30 = .ok (.iload_n 3, 1) := by decide +kernel
theorem d_Mod_alignOf_31 : decode (m_c m_Mod_alignOf) 31 = .ok (.iaload, 1) := by decide +kernel
theorem d_Mod_alignOf_32 : decode (m_c m_Mod_alignOf) 32 = .ok (.ifCond .ge 13, 3) := by decide +kernel
theorem d_Mod_alignOf_35 : decode (m_c m_Mod_alignOf) 35 = .ok (.aload_n 0, 1) := by decide +kernel
theorem d_Mod_alignOf_36 : decode (m_c m_Mod_alignOf) 36 = .ok (.getfield 100, 3) := by decide +kernel
theorem d_Mod_alignOf_39 : decode (m_c m_Mod_alignOf) 39 = .ok (.iload_n 3, 1) := by decide +kernel
theorem d_Mod_alignOf_40 : decode (m_c m_Mod_alignOf) 40 = .ok (.iaload, 1) := by decide +kernel
theorem d_Mod_alignOf_41 : decode (m_c m_Mod_alignOf) 41 = .ok (.ineg, 1) := by decide +kernel
theorem d_Mod_alignOf_42 : decode (m_c m_Mod_alignOf) 42 = .ok (.goto 29, 3) := by decide +kernel
theorem d_Mod_alignOf_45 : decode (m_c m_Mod_alignOf) 45 = .ok (.aload_n 0, 1) := by decide +kernel
theorem d_Mod_alignOf_46 : decode (m_c m_Mod_alignOf) 46 = .ok (.getfield 100, 3) := by decide +kernel
theorem d_Mod_alignOf_49 : decode (m_c m_Mod_alignOf) 49 = .ok (.iload_n 3, 1) := by decide +kernel
theorem d_Mod_alignOf_50 : decode (m_c m_Mod_alignOf) 50 = .ok (.iaload, 1) := by decide +kernel
theorem d_Mod_alignOf_51 : decode (m_c m_Mod_alignOf) 51 = .ok (.bipush 8, 2) := by decide +kernel
theorem d_Mod_alignOf_53 : decode (m_c m_Mod_alignOf) 53 = .ok (.if_icmp .ge 17, 3) := by decide +kernel
theorem d_Mod_alignOf_56 : decode (m_c m_Mod_alignOf) 56 = .ok (.aload_n 0, 1) := by decide +kernel
theorem d_Mod_alignOf_57 : decode (m_c m_Mod_alignOf) 57 = .ok (.getfield 13, 3) := by decide +kernel
theorem d_Mod_alignOf_60 : decode (m_c m_Mod_alignOf) 60 = .ok (.aload_n 0, 1) := by decide +kernel
theorem d_Mod_alignOf_61 : decode (m_c m_Mod_alignOf) 61 = .ok (.getfield 100, 3) := by decide +kernel
theorem d_Mod_alignOf_64 : decode (m_c m_Mod_alignOf) 64 = .ok (.iload_n 3, 1) := by decide +kernel
theorem d_Mod_alignOf_65 : decode (m_c m_Mod_alignOf) 65 = .ok (.iaload, 1) := by decide +kernel
theorem d_Mod_alignOf_66 : decode (m_c m_Mod_alignOf) 66 = .ok (.iaload, 1) := by decide +kernel
theorem d_Mod_alignOf_67 : decode (m_c m_Mod_alignOf) 67 = .ok (.goto 4, 3) := by decide +kernel
theorem d_Mod_alignOf_70 : decode (m_c m_Mod_alignOf) 70 = .ok (.iconst 1, 1) := by decide +kernel
theorem d_Mod_alignOf_71 : decode (m_c m_Mod_alignOf) 71 = .ok (.istore 4, 2) := by decide +kernel
theorem d_Mod_alignOf_73 : decode (m_c m_Mod_alignOf) 73 = .ok (.iload 4, 2) := by decide +kernel
theorem d_Mod_alignOf_75 : decode (m_c m_Mod_alignOf) 75 = .ok (.iload_n 2, 1) := by decide +kernel
theorem d_Mod_alignOf_76 : decode (m_c m_Mod_alignOf) 76 = .ok (.if_icmp .le 8, 3) := by decide +kernel
theorem d_Mod_alignOf_79 : decode (m_c m_Mod_alignOf) 79 = .ok (.iload 4, 2) := by decide +kernel
theorem d_Mod_alignOf_81 : decode (m_c m_Mod_alignOf) 81 = .ok (.goto 4, 3) := by decide +kernel
theorem d_Mod_alignOf_84 : decode (m_c m_Mod_alignOf) 84 = .ok (.iload_n 2, 1) := by decide +kernel
theorem d_Mod_alignOf_85 : decode (m_c m_Mod_alignOf) 85 = .ok (.istore_n 2, 1) := by decide +kernel
theorem d_Mod_alignOf_86 : decode (m_c m_Mod_alignOf) 86 = .ok (.iinc 3 1, 3) := by decide +kernel
theorem d_Mod_alignOf_89 : decode (m_c m_Mod_alignOf) 89 = .ok (.goto (-80), 3) := by decide +kernel
theorem d_Mod_alignOf_92 : decode (m_c m_Mod_alignOf) 92 = .ok (.iload_n 2, 1) := by decide +kernel
theorem d_Mod_alignOf_93 : decode (m_c m_Mod_alignOf) 93 = .ok (.ireturn, 1) := by decide +kernel
def p_Mod_alignOf_85  (c9 : Int → Int → Int → q_F → q_F → Option (Int × q_F × q_F)) (v1 : Int) (v3 : Int) (s0 : Int) (f g : q_F) : Option (Int × q_F × q_F) :=
  q_let (v3 + 1) fun z1 =>
  c9 (v1) (s0) (z1) f g
def p_Mod_alignOf_71  (c9 : Int → Int → Int → q_F → q_F → Option (Int × q_F × q_F)) (v1 : Int) (v2 : Int) (v3 : Int) (s0 : Int) (f g : q_F) : Option (Int × q_F × q_F) :=
  if q_sw s0 ≤ q_sw v2 then
    p_Mod_alignOf_85  c9 (v1) (v3) (v2) f g
  else
    p_Mod_alignOf_85  c9 (v1) (v3) (s0) f g
def p_Mod_alignOf_9   : Nat → Int → Int → Int → q_F → q_F → Option (Int × q_F × q_F)
  | 0, _, _, _, _, _ => none
  | n + 1, v1, v2, v3, f, g =>
    if 0 ≤ v1 ∧ v1 < 8 then
      if 0 ≤ v1 ∧ v1 < 8 then
        if q_sw ((f 84 (Int.toNat v1)) + (f 85 (Int.toNat v1))) ≤ q_sw v3 then
          some (v2, f, g)
        else
          if 0 ≤ v3 ∧ v3 < 160 then
            if 0 ≤ q_sw (f 89 (Int.toNat v3)) then
              if 0 ≤ v3 ∧ v3 < 160 then
                if q_sw 8 ≤ q_sw (f 89 (Int.toNat v3)) then
                  p_Mod_alignOf_71  (p_Mod_alignOf_9   n) (v1) (v2) (v3) (1) f g
                else
                  if 0 ≤ v3 ∧ v3 < 160 then
                    if 0 ≤ (f 89 (Int.toNat v3)) ∧ (f 89 (Int.toNat v3)) < 8 then
                      p_Mod_alignOf_71  (p_Mod_alignOf_9   n) (v1) (v2) (v3) (f 62 (Int.toNat (f 89 (Int.toNat v3)))) f g
                    else none
                  else none
              else none
            else
              if 0 ≤ v3 ∧ v3 < 160 then
                p_Mod_alignOf_71  (p_Mod_alignOf_9   n) (v1) (v2) (v3) (-(f 89 (Int.toNat v3))) f g
              else none
          else none
      else none
    else none
def p_Mod_alignOf  (v1 : Int) (f g : q_F) : Option (Int × q_F × q_F) :=
  if 0 ≤ v1 ∧ v1 < 8 then
    q_let (f 84 (Int.toNat v1)) fun z2 =>
    p_Mod_alignOf_9   1000 (v1) (1) (z2) f g
  else none
theorem e_Mod_alignOf_85 (t : q_V) (ok : ma_ok (q_G t))  {Q : Option Value → ma_H → Prop} {y : Int × q_F × q_F} (hQ : Q (some (ma_i y.1)) (q_h y.2.1 y.2.2)) (c9 : Int → Int → Int → q_F → q_F → Option (Int × q_F × q_F)) (hc9 : ∀ (v1 : Int) (v2 : Int) (v3 : Int) (f g : q_F), c9 v1 v2 v3 f g = some y → ma_Ev (q_G t) 0 0 0 0 m_Mod_alignOf 9 [(0, q_a t (60)), (1, ma_i (v1)), (2, ma_i (v2)), (3, ma_i (v3))] [] (q_h f g) (ma_zr (q_G t) false Q)) (v1 : Int) (v3 : Int) (s0 : Int) (f g : q_F) (hp : p_Mod_alignOf_85  c9 v1 v3 s0 f g = some y) : ma_Ev (q_G t) 0 0 0 0 m_Mod_alignOf 85 [(0, q_a t (60)), (1, ma_i (v1)), (3, ma_i (v3))] [ma_i (s0)] (q_h f g) (ma_zr (q_G t) false Q) := by
  unfold p_Mod_alignOf_85 at hp
  refine ev_istore_n (pc := 85) d_Mod_alignOf_85 rfl (by decide) [(2, _), (0, _), (1, _), (3, _)] rfl ?_
  refine ev_iinc (pc := 86) d_Mod_alignOf_86 (by decide) rfl [(3, _), (2, _), (0, _), (1, _)] rfl ?_
  replace hp := q_let_of hp
  obtain ⟨z1, hz, hp⟩ := hp
  rw [← hz]
  clear hz
  refine ev_goto (pc := 89) (tgt := 9) d_Mod_alignOf_89 (by decide) ?_
  refine ev_sub (ls2 := [(0, q_a t (60)), (1, ma_i (v1)), (2, ma_i (s0)), (3, ma_i (z1))]) [2, 3, 1, 0] rfl ?_
  exact hc9 (v1) (s0) (z1) f g hp
theorem e_Mod_alignOf_71 (t : q_V) (ok : ma_ok (q_G t))  {Q : Option Value → ma_H → Prop} {y : Int × q_F × q_F} (hQ : Q (some (ma_i y.1)) (q_h y.2.1 y.2.2)) (c9 : Int → Int → Int → q_F → q_F → Option (Int × q_F × q_F)) (hc9 : ∀ (v1 : Int) (v2 : Int) (v3 : Int) (f g : q_F), c9 v1 v2 v3 f g = some y → ma_Ev (q_G t) 0 0 0 0 m_Mod_alignOf 9 [(0, q_a t (60)), (1, ma_i (v1)), (2, ma_i (v2)), (3, ma_i (v3))] [] (q_h f g) (ma_zr (q_G t) false Q)) (v1 : Int) (v2 : Int) (v3 : Int) (s0 : Int) (f g : q_F) (hp : p_Mod_alignOf_71  c9 v1 v2 v3 s0 f g = some y) : ma_Ev (q_G t) 0 0 0 0 m_Mod_alignOf 71 [(0, q_a t (60)), (1, ma_i (v1)), (2, ma_i (v2)), (3, ma_i (v3))] [ma_i (s0)] (q_h f g) (ma_zr (q_G t) false Q) := by
  unfold p_Mod_alignOf_71 at hp
  refine ev_istore (pc := 71) d_Mod_alignOf_71 (by decide) [(4, _), (0, _), (1, _), (2, _), (3, _)] rfl ?_
  refine ev_iload (pc := 73) d_Mod_alignOf_73 rfl ?_
  refine ev_iload_n (pc := 75) d_Mod_alignOf_75 rfl rfl ?_
  refine et_icmp_le (pc := 76) (tgt := 84) d_Mod_alignOf_76 (by decide) (fun hj1 => ?_) (fun hj1 => ?_)
  · rw [if_pos hj1] at hp
    refine ev_iload_n (pc := 84) d_Mod_alignOf_84 rfl rfl ?_
    refine ev_sub (ls2 := [(0, q_a t (60)), (1, ma_i (v1)), (3, ma_i (v3))]) [1, 2, 4] rfl ?_
    exact e_Mod_alignOf_85 t ok  hQ c9 hc9 (v1) (v3) (v2) f g hp
  · rw [if_neg hj1] at hp
    refine ev_iload (pc := 79) d_Mod_alignOf_79 rfl ?_
    refine ev_goto (pc := 81) (tgt := 85) d_Mod_alignOf_81 (by decide) ?_
    refine ev_sub (ls2 := [(0, q_a t (60)), (1, ma_i (v1)), (3, ma_i (v3))]) [1, 2, 4] rfl ?_
    exact e_Mod_alignOf_85 t ok  hQ c9 hc9 (v1) (v3) (s0) f g hp
theorem e_Mod_alignOf_9 (t : q_V) (ok : ma_ok (q_G t))  {Q : Option Value → ma_H → Prop} {y : Int × q_F × q_F} (hQ : Q (some (ma_i y.1)) (q_h y.2.1 y.2.2))   : ∀ (n : Nat) (v1 : Int) (v2 : Int) (v3 : Int) (f g : q_F), p_Mod_alignOf_9   n v1 v2 v3 f g = some y → ma_Ev (q_G t) 0 0 0 0 m_Mod_alignOf 9 [(0, q_a t (60)), (1, ma_i (v1)), (2, ma_i (v2)), (3, ma_i (v3))] [] (q_h f g) (ma_zr (q_G t) false Q) := by
  intro n
  induction n with
  | zero =>
    intro v1 v2 v3 f g hp
    rw [p_Mod_alignOf_9] at hp
    cases hp
  | succ n ih =>
    intro v1 v2 v3 f g hp
    rw [p_Mod_alignOf_9] at hp
    refine ev_iload_n (pc := 9) d_Mod_alignOf_9 rfl rfl ?_
    refine et_aload_n (pc := 10) d_Mod_alignOf_10 rfl rfl ?_
    refine et_getr (pc := 11) ok (fl_Mod_85 t) rfl d_Mod_alignOf_11 s_60 r_60_32 ?_
    refine ev_iload_n (pc := 14) d_Mod_alignOf_14 rfl rfl ?_
    replace hp := q_if hp
    obtain ⟨hb1, hp⟩ := hp
    refine et_iald (pc := 15) d_Mod_alignOf_15 s_84 hb1 (by decide) ?_
    refine et_aload_n (pc := 16) d_Mod_alignOf_16 rfl rfl ?_
    refine et_getr (pc := 17) ok (fl_Mod_88 t) rfl d_Mod_alignOf_17 s_60 r_60_33 ?_
    refine ev_iload_n (pc := 20) d_Mod_alignOf_20 rfl rfl ?_
    replace hp := q_if hp
    obtain ⟨hb2, hp⟩ := hp
    refine et_iald (pc := 21) d_Mod_alignOf_21 s_85 hb2 (by decide) ?_
    refine ev_iadd (pc := 22) d_Mod_alignOf_22 ?_
    refine et_icmp_ge (pc := 23) (tgt := 92) d_Mod_alignOf_23 (by decide) (fun hj3 => ?_) (fun hj3 => ?_)
    · rw [if_pos hj3] at hp
      refine ev_iload_n (pc := 92) d_Mod_alignOf_92 rfl rfl ?_
      cases Option.some.inj hp
      exact et_iret (pc := 93) d_Mod_alignOf_93 rfl hQ
    · rw [if_neg hj3] at hp
      refine et_aload_n (pc := 26) d_Mod_alignOf_26 rfl rfl ?_
      refine et_getr (pc := 27) ok (fl_Mod_100 t) rfl d_Mod_alignOf_27 s_60 r_60_38 ?_
      refine ev_iload_n (pc := 30) d_Mod_alignOf_30 rfl rfl ?_
      replace hp := q_if hp
      obtain ⟨hb4, hp⟩ := hp
      refine et_iald (pc := 31) d_Mod_alignOf_31 s_89 hb4 (by decide) ?_
      refine et_if_ge (pc := 32) (tgt := 45) d_Mod_alignOf_32 (by decide) (fun hj5 => ?_) (fun hj5 => ?_)
      · rw [if_pos hj5] at hp
        refine et_aload_n (pc := 45) d_Mod_alignOf_45 rfl rfl ?_
        refine et_getr (pc := 46) ok (fl_Mod_100 t) rfl d_Mod_alignOf_46 s_60 r_60_38 ?_
        refine ev_iload_n (pc := 49) d_Mod_alignOf_49 rfl rfl ?_
        replace hp := q_if hp
        obtain ⟨hb6, hp⟩ := hp
        refine et_iald (pc := 50) d_Mod_alignOf_50 s_89 hb6 (by decide) ?_
        refine ev_bipush (pc := 51) d_Mod_alignOf_51 rfl ?_
        refine et_icmp_ge (pc := 53) (tgt := 70) d_Mod_alignOf_53 (by decide) (fun hj7 => ?_) (fun hj7 => ?_)
        · rw [if_pos hj7] at hp
          refine ev_iconst (pc := 70) d_Mod_alignOf_70 ?_
          refine ev_sub (ls2 := [(0, q_a t (60)), (1, ma_i (v1)), (2, ma_i (v2)), (3, ma_i (v3))]) [0, 1, 2, 3] rfl ?_
          exact e_Mod_alignOf_71 t ok  hQ (p_Mod_alignOf_9   n) ih (v1) (v2) (v3) (1) f g hp
        · rw [if_neg hj7] at hp
          refine et_aload_n (pc := 56) d_Mod_alignOf_56 rfl rfl ?_
          refine et_getr (pc := 57) ok (fl_Mod_13 t) rfl d_Mod_alignOf_57 s_60 r_60_2 ?_
          refine et_aload_n (pc := 60) d_Mod_alignOf_60 rfl rfl ?_
          refine et_getr (pc := 61) ok (fl_Mod_100 t) rfl d_Mod_alignOf_61 s_60 r_60_38 ?_
          refine ev_iload_n (pc := 64) d_Mod_alignOf_64 rfl rfl ?_
          replace hp := q_if hp
          obtain ⟨hb8, hp⟩ := hp
          refine et_iald (pc := 65) d_Mod_alignOf_65 s_89 hb8 (by decide) ?_
          replace hp := q_if hp
          obtain ⟨hb9, hp⟩ := hp
          refine et_iald (pc := 66) d_Mod_alignOf_66 s_62 hb9 (by decide) ?_
          refine ev_goto (pc := 67) (tgt := 71) d_Mod_alignOf_67 (by decide) ?_
          refine ev_sub (ls2 := [(0, q_a t (60)), (1, ma_i (v1)), (2, ma_i (v2)), (3, ma_i (v3))]) [0, 1, 2, 3] rfl ?_
          exact e_Mod_alignOf_71 t ok  hQ (p_Mod_alignOf_9   n) ih (v1) (v2) (v3) (f 62 (Int.toNat (f 89 (Int.toNat v3)))) f g hp
      · rw [if_neg hj5] at hp
        refine et_aload_n (pc := 35) d_Mod_alignOf_35 rfl rfl ?_
        refine et_getr (pc := 36) ok (fl_Mod_100 t) rfl d_Mod_alignOf_36 s_60 r_60_38 ?_
        refine ev_iload_n (pc := 39) d_Mod_alignOf_39 rfl rfl ?_
        replace hp := q_if hp
        obtain ⟨hb10, hp⟩ := hp
        refine et_iald (pc := 40) d_Mod_alignOf_40 s_89 hb10 (by decide) ?_
        refine ev_ineg (pc := 41) d_Mod_alignOf_41 ?_
        refine ev_goto (pc := 42) (tgt := 71) d_Mod_alignOf_42 (by decide) ?_
        refine ev_sub (ls2 := [(0, q_a t (60)), (1, ma_i (v1)), (2, ma_i (v2)), (3, ma_i (v3))]) [0, 1, 2, 3] rfl ?_
        exact e_Mod_alignOf_71 t ok  hQ (p_Mod_alignOf_9   n) ih (v1) (v2) (v3) (-(f 89 (Int.toNat v3))) f g hp
theorem t_Mod_alignOf (t : q_V) (ok : ma_ok (q_G t))  {Q : Option Value → ma_H → Prop} {y : Int × q_F × q_F} (v1 : Int) (f g : q_F) (hp : p_Mod_alignOf  v1 f g = some y) (hQ : Q (some (ma_i y.1)) (q_h y.2.1 y.2.2)) : ma_Met (q_G t) false 0 0 0 0 m_Mod_alignOf [q_a t (60), ma_i (v1)] (q_h f g) Q := by
  refine ma_met (by decide +kernel) (q_ble rfl) rfl ?_
  change ma_Ev (q_G t) 0 0 0 0 m_Mod_alignOf 0 [(0, q_a t (60)), (1, ma_i (v1))] [] (q_h f g) (ma_zr (q_G t) false Q)
  unfold p_Mod_alignOf at hp
  refine ev_iconst (pc := 0) d_Mod_alignOf_0 ?_
  refine ev_istore_n (pc := 1) d_Mod_alignOf_1 rfl (by decide) [(2, _), (0, _), (1, _)] rfl ?_
  refine et_aload_n (pc := 2) d_Mod_alignOf_2 rfl rfl ?_
  refine et_getr (pc := 3) ok (fl_Mod_85 t) rfl d_Mod_alignOf_3 s_60 r_60_32 ?_
  refine ev_iload_n (pc := 6) d_Mod_alignOf_6 rfl rfl ?_
  replace hp := q_if hp
  obtain ⟨hb1, hp⟩ := hp
  refine et_iald (pc := 7) d_Mod_alignOf_7 s_84 hb1 (by decide) ?_
  refine ev_istore_n (pc := 8) d_Mod_alignOf_8 rfl (by decide) [(3, _), (2, _), (0, _), (1, _)] rfl ?_
  replace hp := q_let_of hp
  obtain ⟨z2, hz, hp⟩ := hp
  rw [← hz]
  clear hz
  refine ev_sub (ls2 := [(0, q_a t (60)), (1, ma_i (v1)), (2, ma_i (1)), (3, ma_i (z2))]) [2, 3, 1, 0] rfl ?_
  exact e_Mod_alignOf_9 t ok  hQ   1000 (v1) (1) (z2) f g hp
theorem d_Mod_putSection_0 : decode (m_c m_Mod_putSection) 0 = .ok (.aload_n 0, 1) := by decide +kernel
theorem d_Mod_putSection_1 : decode (m_c m_Mod_putSection) 1 = .ok (.iload_n 1, 1) := by decide +kernel
theorem d_Mod_putSection_2 : decode (m_c m_Mod_putSection) 2 = .ok (.invokevirtual 235, 3) := by decide +kernel
theorem d_Mod_putSection_5 : decode (m_c m_Mod_putSection) 5 = .ok (.istore_n 2, 1) := by decide +kernel
theorem d_Mod_putSection_6 : decode (m_c m_Mod_putSection) 6 = .ok (.aload_n 0, 1) := by decide +kernel
theorem d_Mod_putSection_7 : decode (m_c m_Mod_putSection) 7 = .ok (.getfield 70, 3) := by decide +kernel
theorem d_Mod_putSection_10 : decode (m_c m_Mod_putSection) 10 = .ok (.iload_n 1, 1) := by decide +kernel
theorem d_Mod_putSection_11 : decode (m_c m_Mod_putSection) 11 = .ok (.iaload, 1) := by decide +kernel
theorem d_Mod_putSection_12 : decode (m_c m_Mod_putSection) 12 = .ok (.aload_n 0, 1) := by decide +kernel
theorem d_Mod_putSection_13 : decode (m_c m_Mod_putSection) 13 = .ok (.getfield 73, 3) := by decide +kernel
theorem d_Mod_putSection_16 : decode (m_c m_Mod_putSection) 16 = .ok (.iload_n 1, 1) := by decide +kernel
theorem d_Mod_putSection_17 : decode (m_c m_Mod_putSection) 17 = .ok (.iaload, 1) := by decide +kernel
theorem d_Mod_putSection_18 : decode (m_c m_Mod_putSection) 18 = .ok (.if_icmp .ge 22, 3) := by decide +kernel
theorem d_Mod_putSection_21 : decode (m_c m_Mod_putSection) 21 = .ok (.aload_n 0, 1) := by decide +kernel
theorem d_Mod_putSection_22 : decode (m_c m_Mod_putSection) 22 = .ok (.aload_n 0, 1) := by decide +kernel
theorem d_Mod_putSection_23 : decode (m_c m_Mod_putSection) 23 = .ok (.getfield 70, 3) := by decide +kernel
theorem d_Mod_putSection_26 : decode (m_c m_Mod_putSection) 26 = .ok (.iload_n 1, 1) := by decide +kernel
theorem d_Mod_putSection_27 : decode (m_c m_Mod_putSection) 27 = .ok (.iaload, 1) := by decide +kernel
theorem d_Mod_putSection_28 : decode (m_c m_Mod_putSection) 28 = .ok (.aload_n 0, 1) := by decide +kernel
theorem d_Mod_putSection_29 : decode (m_c m_Mod_putSection) 29 = .ok (.getfield 73, 3) := by decide +kernel
theorem d_Mod_putSection_32 : decode (m_c m_Mod_putSection) 32 = .ok (.iload_n 1, 1) := by decide +kernel
theorem d_Mod_putSection_33 : decode (m_c m_Mod_putSection) 33 = .ok (.iaload, 1) := by decide +kernel
theorem d_Mod_putSection_34 : decode (m_c m_Mod_putSection) 34 = .ok (.invokevirtual 238, 3) := by decide +kernel
theorem d_Mod_putSection_37 : decode (m_c m_Mod_putSection) 37 = .ok (.goto 23, 3) := by decide +kernel
theorem d_Mod_putSection_40 : decode (m_c m_Mod_putSection) 40 = .ok (.aload_n 0, 1) := by decide +kernel
theorem d_Mod_putSection_41 : decode (m_c m_Mod_putSection) 41 = .ok (.aload_n 0, 1) := by decide +kernel
theorem d_Mod_putSection_42 : decode (m_c m_Mod_putSection) 42 = .ok (.getfield 76, 3) := by decide +kernel
theorem d_Mod_putSection_45 : decode (m_c m_Mod_putSection) 45 = .ok (.iload_n 1, 1) := by decide +kernel
theorem d_Mod_putSection_46 : decode (m_c m_Mod_putSection) 46 = .ok (.iaload, 1) := by decide +kernel
theorem d_Mod_putSection_47 : decode (m_c m_Mod_putSection) 47 = .ok (.aload_n 0, 1) := by decide +kernel
theorem d_Mod_putSection_48 : decode (m_c m_Mod_putSection) 48 = .ok (.getfield 67, 3) := by decide +kernel
theorem d_Mod_putSection_51 : decode (m_c m_Mod_putSection) 51 = .ok (.iload_n 1, 1) := by decide +kernel
theorem d_Mod_putSection_52 : decode (m_c m_Mod_putSection) 52 = .ok (.iaload, 1) := by decide +kernel
theorem d_Mod_putSection_53 : decode (m_c m_Mod_putSection) 53 = .ok (.invokevirtual 242, 3) := by decide +kernel
theorem d_Mod_putSection_56 : decode (m_c m_Mod_putSection) 56 = .ok (.iload_n 2, 1) := by decide +kernel
theorem d_Mod_putSection_57 : decode (m_c m_Mod_putSection) 57 = .ok (.invokestatic 227, 3) := by decide +kernel
theorem d_Mod_putSection_60 : decode (m_c m_Mod_putSection) 60 = .ok (.lstore_n 3, 1) := by decide +kernel
theorem d_Mod_putSection_61 : decode (m_c m_Mod_putSection) 61 = .ok (.aload_n 0, 1) := by decide +kernel
theorem d_Mod_putSection_62 : decode (m_c m_Mod_putSection) 62 = .ok (.getfield 217, 3) := by decide +kernel
theorem d_Mod_putSection_65 : decode (m_c m_Mod_putSection) 65 = .ok (.ifCond .ne 4, 3) := by decide +kernel
theorem d_Mod_putSection_68 : decode (m_c m_Mod_putSection) 68 = .ok (.return_, 1) := by decide +kernel
theorem d_Mod_putSection_69 : decode (m_c m_Mod_putSection) 69 = .ok (.aload_n 0, 1) := by decide +kernel
theorem d_Mod_putSection_70 : decode (m_c m_Mod_putSection) 70 = .ok (.getfield 79, 3) := by decide +kernel
theorem d_Mod_putSection_73 : decode (m_c m_Mod_putSection) 73 = .ok (.iload_n 1, 1) := by decide +kernel
theorem d_Mod_putSection_74 : decode (m_c m_Mod_putSection) 74 = .ok (.iaload, 1) := by decide +kernel
theorem d_Mod_putSection_75 : decode (m_c m_Mod_putSection) 75 = .ok (.ifCond .ge 22, 3) := by decide +kernel
theorem d_Mod_putSection_78 : decode (m_c m_Mod_putSection) 78 = .ok (.aload_n 0, 1) := by decide +kernel
theorem d_Mod_putSection_79 : decode (m_c m_Mod_putSection) 79 = .ok (.getfield 82, 3) := by decide +kernel
theorem d_Mod_putSection_82 : decode (m_c m_Mod_putSection) 82 = .ok (.iload_n 1, 1) := by decide +kernel
theorem d_Mod_putSection_83 : decode (m_c m_Mod_putSection) 83 = .ok (.baload, 1) := by decide +kernel
theorem d_Mod_putSection_84 : decode (m_c m_Mod_putSection) 84 = .ok (.ifCond .eq 7, 3) := by decide +kernel
theorem d_Mod_putSection_87 : decode (m_c m_Mod_putSection) 87 = .ok (.lload_n 3, 1) := by decide +kernel
theorem d_Mod_putSection_88 : decode (m_c m_Mod_putSection) 88 = .ok (.goto 29, 3) := by decide +kernel
theorem d_Mod_putSection_91 : decode (m_c m_Mod_putSection) 91 = .ok (.ldc2_w 245, 3) := by decide +kernel
theorem d_Mod_putSection_94 : decode (m_c m_Mod_putSection) 94 = .ok (.goto 23, 3) := by decide +kernel
theorem d_Mod_putSection_97 : decode (m_c m_Mod_putSection) 97 = .ok (.aload_n 0, 1) := by decide +kernel
theorem d_Mod_putSection_98 : decode (m_c m_Mod_putSection) 98 = .ok (.aload_n 0, 1) := by decide +kernel
theorem d_Mod_putSection_99 : decode (m_c m_Mod_putSection) 99 = .ok (.getfield 79, 3) := by decide +kernel
theorem d_Mod_putSection_102 : decode (m_c m_Mod_putSection) 102 = .ok (.iload_n 1, 1) := by decide +kernel
theorem d_Mod_putSection_103 : decode (m_c m_Mod_putSection) 103 = .ok (.iaload, 1) := by decide +kernel
theorem d_Mod_putSection_104 : decode (m_c m_Mod_putSection) 104 = .ok (.aload_n 0, 1) := by decide +kernel
theorem d_Mod_putSection_105 : decode (m_c m_Mod_putSection) 105 = .ok (.getfield 67, 3) := by decide +kernel
theorem d_Mod_putSection_108 : decode (m_c m_Mod_putSection) 108 = .ok (.iload_n 1, 1) := by decide +kernel
theorem d_Mod_putSection_109 : decode (m_c m_Mod_putSection) 109 = .ok (.iaload, 1) := by decide +kernel
theorem d_Mod_putSection_110 : decode (m_c m_Mod_putSection) 110 = .ok (.invokevirtual 242, 3) := by decide +kernel
theorem d_Mod_putSection_113 : decode (m_c m_Mod_putSection) 113 = .ok (.iload_n 2, 1) := by decide +kernel
theorem d_Mod_putSection_114 : decode (m_c m_Mod_putSection) 114 = .ok (.invokestatic 227, 3) := by decide +kernel
theorem d_Mod_putSection_117 : decode (m_c m_Mod_putSection) 117 = .ok (.lstore 5, 2) := by decide +kernel
theorem d_Mod_putSection_119 : decode (m_c m_Mod_putSection) 119 = .ok (.aload_n 0, 1) := by decide +kernel
theorem d_Mod_putSection_120 : decode (m_c m_Mod_putSection) 120 = .ok (.getfield 217, 3) := by decide +kernel
theorem d_Mod_putSection_123 : decode (m_c m_Mod_putSection) 123 = .ok (.ifCond .ne 4, 3) := by decide +kernel
theorem d_Mod_putSection_126 : decode (m_c m_Mod_putSection) 126 = .ok (.return_, 1) := by decide +kernel
theorem d_Mod_putSection_127 : decode (m_c m_Mod_putSection) 127 = .ok (.aload_n 0, 1) := by decide +kernel
theorem d_Mod_putSection_128 : decode (m_c m_Mod_putSection) 128 = .ok (.getfield 91, 3) := by decide +kernel
theorem d_Mod_putSection_131 : decode (m_c m_Mod_putSection) 131 = .ok (.iload_n 1, 1) := by decide +kernel
theorem d_Mod_putSection_132 : decode (m_c m_Mod_putSection) 132 = .ok (.lload_n 3, 1) := by decide +kernel
theorem d_Mod_putSection_133 : decode (m_c m_Mod_putSection) 133 = .ok (.l2i, 1) := by decide +kernel
theorem d_Mod_putSection_134 : decode (m_c m_Mod_putSection) 134 = .ok (.iastore, 1) := by decide +kernel
theorem d_Mod_putSection_135 : decode (m_c m_Mod_putSection) 135 = .ok (.aload_n 0, 1) := by decide +kernel
theorem d_Mod_putSection_136 : decode (m_c m_Mod_putSection) 136 = .ok (.getfield 97, 3) := by decide +kernel
theorem d_Mod_putSection_139 : decode (m_c m_Mod_putSection) 139 = .ok (.iload_n 1, 1) := by decide +kernel
theorem d_Mod_putSection_140 : decode (m_c m_Mod_putSection) 140 = .ok (.lload 5, 2) := by decide +kernel
theorem d_Mod_putSection_142 : decode (m_c m_Mod_putSection) 142 = .ok (.l2i, 1) := by decide +kernel
theorem d_Mod_putSection_143 : decode (m_c m_Mod_putSection) 143 = .ok (.iastore, 1) := by decide +kernel
theorem d_Mod_putSection_144 : decode (m_c m_Mod_putSection) 144 = .ok (.aload_n 0, 1) := by decide +kernel
theorem d_Mod_putSection_145 : decode (m_c m_Mod_putSection) 145 = .ok (.getfield 85, 3) := by decide +kernel
theorem d_Mod_putSection_148 : decode (m_c m_Mod_putSection) 148 = .ok (.iload_n 1, 1) := by decide +kernel
theorem d_Mod_putSection_149 : decode (m_c m_Mod_putSection) 149 = .ok (.iaload, 1) := by decide +kernel
theorem d_Mod_putSection_150 : decode (m_c m_Mod_putSection) 150 = .ok (.istore 7, 2) := by decide +kernel
theorem d_Mod_putSection_152 : decode (m_c m_Mod_putSection) 152 = .ok (.iload 7, 2) := by decide +kernel
theorem d_Mod_putSection_154 : decode (m_c m_Mod_putSection) 154 = .ok (.aload_n 0, 1) := by decide +kernel
theorem d_Mod_putSection_155 : decode (m_c m_Mod_putSection) 155 = .ok (.getfield 85, 3) := by decide +kernel
theorem d_Mod_putSection_158 : decode (m_c m_Mod_putSection) 158 = .ok (.iload_n 1, 1) := by decide +kernel
theorem d_Mod_putSection_159 : decode (m_c m_Mod_putSection) 159 = .ok (.iaload, 1) := by decide +kernel
theorem d_Mod_putSection_160 : decode (m_c m_Mod_putSection) 160 = .ok (.aload_n 0, 1) := by decide +kernel
theorem d_Mod_putSection_161 : decode (m_c m_Mod_putSection) 161 = .ok (.getfield 88, 3) := by decide +kernel
theorem d_Mod_putSection_164 : decode (m_c m_Mod_putSection) 164 = .ok (.iload_n 1, 1) := by decide +kernel
theorem d_Mod_putSection_165 : decode (m_c m_Mod_putSection) 165 = .ok (.iaload, 1) := by decide +kernel
theorem d_Mod_putSection_166 : decode (m_c m_Mod_putSection) 166 = .ok (.iadd, 1) := by decide +kernel
theorem d_Mod_putSection_167 : decode (m_c m_Mod_putSection) 167 = .ok (.if_icmp .ge 93, 3) := by decide +kernel
theorem d_Mod_putSection_170 : decode (m_c m_Mod_putSection) 170 = .ok (.aload_n 0, 1) := by decide +kernel
theorem d_Mod_putSection_171 : decode (m_c m_Mod_putSection) 171 = .ok (.getfield 100, 3) := by decide +kernel
theorem d_Mod_putSection_174 : decode (m_c m_Mod_putSection) 174 = .ok (.iload 7, 2) := by decide +kernel
theorem d_Mod_putSection_176 : decode (m_c m_Mod_putSection) 176 = .ok (.iaload, 1) := by decide +kernel
theorem d_Mod_putSection_177 : decode (m_c m_Mod_putSection) 177 = .ok (.istore 8, 2) := by decide +kernel
theorem d_Mod_putSection_179 : decode (m_c m_Mod_putSection) 179 = .ok (.iload 8, 2) := by decide +kernel
theorem d_Mod_putSection_181 : decode (m_c m_Mod_putSection) 181 = .ok (.ifCond .ge 14, 3) := by decide +kernel
theorem d_Mod_putSection_184 : decode (m_c m_Mod_putSection) 184 = .ok (.lload_n 3, 1) := by decide +kernel
theorem d_Mod_putSection_185 : decode (m_c m_Mod_putSection) 185 = .ok (.iload 8, 2) := by decide +kernel
theorem d_Mod_putSection_187 : decode (m_c m_Mod_putSection) 187 = .ok (.ineg, 1) := by decide +kernel
theorem d_Mod_putSection_188 : decode (m_c m_Mod_putSection) 188 = .ok (.invokestatic 227, 3) := by decide +kernel
theorem d_Mod_putSection_191 : decode (m_c m_Mod_putSection) 191 = .ok (.lstore_n 3, 1) := by decide +kernel
theorem d_Mod_putSection_192 : decode (m_c m_Mod_putSection) 192 = .ok (.goto 62, 3) := by decide +kernel
theorem d_Mod_putSection_195 : decode (m_c m_Mod_putSection) 195 = .ok (.iload 8, 2) := by decide +kernel
theorem d_Mod_putSection_197 : decode (m_c m_Mod_putSection) 197 = .ok (.bipush 8, 2) := by decide +kernel
theorem d_Mod_putSection_199 : decode (m_c m_Mod_putSection) 199 = .ok (.if_icmp .ge 38, 3) := by decide +kernel
theorem d_Mod_putSection_202 : decode (m_c m_Mod_putSection) 202 = .ok (.lload_n 3, 1) := by decide +kernel
theorem d_Mod_putSection_203 : decode (m_c m_Mod_putSection) 203 = .ok (.aload_n 0, 1) := by decide +kernel
theorem d_Mod_putSection_204 : decode (m_c m_Mod_putSection) 204 = .ok (.getfield 13, 3) := by decide +kernel
theorem d_Mod_putSection_207 : decode (m_c m_Mod_putSection) 207 = .ok (.iload 8, 2) := by decide +kernel
theorem d_Mod_putSection_209 : decode (m_c m_Mod_putSection) 209 = .ok (.iaload, 1) := by decide +kernel
theorem d_Mod_putSection_210 : decode (m_c m_Mod_putSection) 210 = .ok (.invokestatic 227, 3) := by decide +kernel
theorem d_Mod_putSection_213 : decode (m_c m_Mod_putSection) 213 = .ok (.lstore_n 3, 1) := by decide +kernel
theorem d_Mod_putSection_214 : decode (m_c m_Mod_putSection) 214 = .ok (.aload_n 0, 1) := by decide +kernel
theorem d_Mod_putSection_215 : decode (m_c m_Mod_putSection) 215 = .ok (.getfield 19, 3) := by decide +kernel
theorem d_Mod_putSection_218 : decode (m_c m_Mod_putSection) 218 = .ok (.iload 8, 2) := by decide +kernel
theorem d_Mod_putSection_220 : decode (m_c m_Mod_putSection) 220 = .ok (.lload_n 3, 1) := by decide +kernel
theorem d_Mod_putSection_221 : decode (m_c m_Mod_putSection) 221 = .ok (.l2i, 1) := by decide +kernel
theorem d_Mod_putSection_222 : decode (m_c m_Mod_putSection) 222 = .ok (.iastore, 1) := by decide +kernel
theorem d_Mod_putSection_223 : decode (m_c m_Mod_putSection) 223 = .ok (.lload_n 3, 1) := by decide +kernel
theorem d_Mod_putSection_224 : decode (m_c m_Mod_putSection) 224 = .ok (.aload_n 0, 1) := by decide +kernel
theorem d_Mod_putSection_225 : decode (m_c m_Mod_putSection) 225 = .ok (.getfield 7, 3) := by decide +kernel
theorem d_Mod_putSection_228 : decode (m_c m_Mod_putSection) 228 = .ok (.iload 8, 2) := by decide +kernel
theorem d_Mod_putSection_230 : decode (m_c m_Mod_putSection) 230 = .ok (.iaload, 1) := by decide +kernel
theorem d_Mod_putSection_231 : decode (m_c m_Mod_putSection) 231 = .ok (.i2l, 1) := by decide +kernel
theorem d_Mod_putSection_232 : decode (m_c m_Mod_putSection) 232 = .ok (.ladd, 1) := by decide +kernel
theorem d_Mod_putSection_233 : decode (m_c m_Mod_putSection) 233 = .ok (.lstore_n 3, 1) := by decide +kernel
theorem d_Mod_putSection_234 : decode (m_c m_Mod_putSection) 234 = .ok (.goto 20, 3) := by decide +kernel
theorem d_Mod_putSection_237 : decode (m_c m_Mod_putSection) 237 = .ok (.aload_n 0, 1) := by decide +kernel
theorem d_Mod_putSection_238 : decode (m_c m_Mod_putSection) 238 = .ok (.getfield 118, 3) := by decide +kernel
theorem d_Mod_putSection_241 : decode (m_c m_Mod_putSection) 241 = .ok (.iload 8, 2) := by decide +kernel
theorem d_Mod_putSection_243 : decode (m_c m_Mod_putSection) 243 = .ok (.lload_n 3, 1) := by decide +kernel
theorem d_Mod_putSection_244 : decode (m_c m_Mod_putSection) 244 = .ok (.l2i, 1) := by decide +kernel
theorem d_Mod_putSection_245 : decode (m_c m_Mod_putSection) 245 = .ok (.iastore, 1) := by decide +kernel
theorem d_Mod_putSection_246 : decode (m_c m_Mod_putSection) 246 = .ok (.aload_n 0, 1) := by decide +kernel
theorem d_Mod_putSection_247 : decode (m_c m_Mod_putSection) 247 = .ok (.getfield 106, 3) := by decide +kernel
theorem d_Mod_putSection_250 : decode (m_c m_Mod_putSection) 250 = .ok (.iload 8, 2) := by decide +kernel
theorem d_Mod_putSection_252 : decode (m_c m_Mod_putSection) 252 = .ok (.iconst 1, 1) := by decide +kernel
theorem d_Mod_putSection_253 : decode (m_c m_Mod_putSection) 253 = .ok (.bastore, 1) := by decide +kernel
theorem d_Mod_putSection_254 : decode (m_c m_Mod_putSection) 254 = .ok (.iinc 7 1, 3) := by decide +kernel
theorem d_Mod_putSection_257 : decode (m_c m_Mod_putSection) 257 = .ok (.goto (-105), 3) := by decide +kernel
theorem d_Mod_putSection_260 : decode (m_c m_Mod_putSection) 260 = .ok (.aload_n 0, 1) := by decide +kernel
theorem d_Mod_putSection_261 : decode (m_c m_Mod_putSection) 261 = .ok (.getfield 94, 3) := by decide +kernel
theorem d_Mod_putSection_264 : decode (m_c m_Mod_putSection) 264 = .ok (.iload_n 1, 1) := by decide +kernel
theorem d_Mod_putSection_265 : decode (m_c m_Mod_putSection) 265 = .ok (.lload_n 3, 1) := by decide +kernel
theorem d_Mod_putSection_266 : decode (m_c m_Mod_putSection) 266 = .ok (.l2i, 1) := by decide +kernel
theorem d_Mod_putSection_267 : decode (m_c m_Mod_putSection) 267 = .ok (.aload_n 0, 1) := by decide +kernel
theorem d_Mod_putSection_268 : decode (m_c m_Mod_putSection) 268 = .ok (.getfield 91, 3) := by decide +kernel
theorem d_Mod_putSection_271 : decode (m_c m_Mod_putSection) 271 = .ok (.iload_n 1, 1) := by decide +kernel
theorem d_Mod_putSection_272 : decode (m_c m_Mod_putSection) 272 = .ok (.iaload, 1) := by decide +kernel
theorem d_Mod_putSection_273 : decode (m_c m_Mod_putSection) 273 = .ok (.isub, 1) := by decide +kernel
theorem d_Mod_putSection_274 : decode (m_c m_Mod_putSection) 274 = .ok (.iastore, 1) := by decide +kernel
theorem d_Mod_putSection_275 : decode (m_c m_Mod_putSection) 275 = .ok (.aload_n 0, 1) := by decide +kernel
theorem d_Mod_putSection_276 : decode (m_c m_Mod_putSection) 276 = .ok (.getfield 64, 3) := by decide +kernel
theorem d_Mod_putSection_279 : decode (m_c m_Mod_putSection) 279 = .ok (.iload_n 1, 1) := by decide +kernel
theorem d_Mod_putSection_280 : decode (m_c m_Mod_putSection) 280 = .ok (.iconst 1, 1) := by decide +kernel
theorem d_Mod_putSection_281 : decode (m_c m_Mod_putSection) 281 = .ok (.bastore, 1) := by decide +kernel
theorem d_Mod_putSection_282 : decode (m_c m_Mod_putSection) 282 = .ok (.return_, 1) := by decide +kernel
def p_Mod_putSection_254  (c152 : Int → Int → Int → q_F → q_F → Option (q_F × q_F)) (v1 : Int) (v3 : Int) (v7 : Int) (f g : q_F) : Option (q_F × q_F) :=
  q_let (v7 + 1) fun z1 =>
  c152 (v1) (v3) (z1) f g
def p_Mod_putSection_152   : Nat → Int → Int → Int → q_F → q_F → Option (q_F × q_F)
  | 0, _, _, _, _, _ => none
  | n + 1, v1, v3, v7, f, g =>
    if 0 ≤ v1 ∧ v1 < 8 then
      if 0 ≤ v1 ∧ v1 < 8 then
        if q_sw ((f 84 (Int.toNat v1)) + (f 85 (Int.toNat v1))) ≤ q_sw v7 then
          if 0 ≤ v1 ∧ v1 < 8 then
            if 0 ≤ v1 ∧ v1 < 8 then
              q_let (ma_up f 87 (Int.toNat v1) (v3 - (f 86 (Int.toNat v1)))) fun f6 =>
              if 0 ≤ v1 ∧ v1 < 8 then
                q_let (ma_up f6 77 (Int.toNat v1) (q_nz 1)) fun f8 =>
                some (f8, g)
              else none
            else none
          else none
        else
          if 0 ≤ v7 ∧ v7 < 160 then
            q_let (f 89 (Int.toNat v7)) fun z10 =>
            if 0 ≤ q_sw z10 then
              if q_sw 8 ≤ q_sw z10 then
                if 0 ≤ z10 ∧ z10 < 26 then
                  q_let (ma_up f 95 (Int.toNat z10) v3) fun f14 =>
                  if 0 ≤ z10 ∧ z10 < 26 then
                    q_let (ma_up f14 91 (Int.toNat z10) (q_nz 1)) fun f16 =>
                    p_Mod_putSection_254  (p_Mod_putSection_152   n) (v1) (v3) (v7) f16 g
                  else none
                else none
              else
                if 0 ≤ z10 ∧ z10 < 8 then
                  (p_Mod_raised (v3) (f 62 (Int.toNat z10)) f g).bind fun x18 =>
                  if 0 ≤ z10 ∧ z10 < 8 then
                    q_let (ma_up x18.2.1 64 (Int.toNat z10) x18.1) fun f21 =>
                    if 0 ≤ z10 ∧ z10 < 8 then
                      q_let (x18.1 + (q_sw (f21 61 (Int.toNat z10)))) fun z23 =>
                      p_Mod_putSection_254  (p_Mod_putSection_152   n) (v1) (z23) (v7) f21 x18.2.2
                    else none
                  else none
                else none
            else
              (p_Mod_raised (v3) (-z10) f g).bind fun x24 =>
              p_Mod_putSection_254  (p_Mod_putSection_152   n) (v1) (x24.1) (v7) x24.2.1 x24.2.2
          else none
      else none
    else none
def p_Mod_putSection_117   (v1 : Int) (v3 : Int) (s0 : Int) (f g : q_F) : Option (q_F × q_F) :=
  if q_sw (f 60 20) = 0 then
    some (f, g)
  else
    if 0 ≤ v1 ∧ v1 < 8 then
      q_let (ma_up f 86 (Int.toNat v1) v3) fun f3 =>
      if 0 ≤ v1 ∧ v1 < 8 then
        q_let (ma_up f3 88 (Int.toNat v1) s0) fun f5 =>
        if 0 ≤ v1 ∧ v1 < 8 then
          q_let (f5 84 (Int.toNat v1)) fun z7 =>
          p_Mod_putSection_152   1000 (v1) (v3) (z7) f5 g
        else none
      else none
    else none
def p_Mod_putSection_60   (v1 : Int) (v2 : Int) (s0 : Int) (f g : q_F) : Option (q_F × q_F) :=
  if q_sw (f 60 20) = 0 then
    some (f, g)
  else
    if 0 ≤ v1 ∧ v1 < 8 then
      if 0 ≤ q_sw (f 82 (Int.toNat v1)) then
        if 0 ≤ v1 ∧ v1 < 8 then
          if 0 ≤ v1 ∧ v1 < 8 then
            (p_Mod_placeOf (f 82 (Int.toNat v1)) (f 78 (Int.toNat v1)) f g).bind fun x6 =>
            (p_Mod_raised (x6.1) (v2) x6.2.1 x6.2.2).bind fun x8 =>
            p_Mod_putSection_117   (v1) (s0) (x8.1) x8.2.1 x8.2.2
          else none
        else none
      else
        if 0 ≤ v1 ∧ v1 < 8 then
          if q_sw (f 83 (Int.toNat v1)) = 0 then
            p_Mod_putSection_117   (v1) (s0) (-1) f g
          else
            p_Mod_putSection_117   (v1) (s0) (s0) f g
        else none
    else none
def p_Mod_putSection  (v1 : Int) (f g : q_F) : Option (q_F × q_F) :=
  (p_Mod_alignOf (v1) f g).bind fun x1 =>
  if 0 ≤ v1 ∧ v1 < 8 then
    if 0 ≤ v1 ∧ v1 < 8 then
      if q_sw (x1.2.1 80 (Int.toNat v1)) ≤ q_sw (x1.2.1 79 (Int.toNat v1)) then
        if 0 ≤ v1 ∧ v1 < 8 then
          if 0 ≤ v1 ∧ v1 < 8 then
            (p_Mod_placeOf (x1.2.1 81 (Int.toNat v1)) (x1.2.1 78 (Int.toNat v1)) x1.2.1 x1.2.2).bind fun x8 =>
            (p_Mod_raised (x8.1) (x1.1) x8.2.1 x8.2.2).bind fun x10 =>
            p_Mod_putSection_60   (v1) (x1.1) (x10.1) x10.2.1 x10.2.2
          else none
        else none
      else
        if 0 ≤ v1 ∧ v1 < 8 then
          if 0 ≤ v1 ∧ v1 < 8 then
            (p_Mod_reckon (x1.2.1 79 (Int.toNat v1)) (x1.2.1 80 (Int.toNat v1)) x1.2.1 x1.2.2).bind fun x14 =>
            p_Mod_putSection_60   (v1) (x1.1) (x14.1) x14.2.1 x14.2.2
          else none
        else none
    else none
  else none
theorem e_Mod_putSection_254 (t : q_V) (ok : ma_ok (q_G t))  {Q : Option Value → ma_H → Prop} {y : q_F × q_F} (hQ : Q (none) (q_h y.1 y.2)) (c152 : Int → Int → Int → q_F → q_F → Option (q_F × q_F)) (hc152 : ∀ (v1 : Int) (v3 : Int) (v7 : Int) (f g : q_F), c152 v1 v3 v7 f g = some y → ma_Ev (q_G t) 2 49 0 0 m_Mod_putSection 152 [(0, q_a t (60)), (1, ma_i (v1)), (3, ma_j (v3)), (7, ma_i (v7))] [] (q_h f g) (ma_zr (q_G t) false Q)) (v1 : Int) (v3 : Int) (v7 : Int) (f g : q_F) (hp : p_Mod_putSection_254  c152 v1 v3 v7 f g = some y) : ma_Ev (q_G t) 2 49 0 0 m_Mod_putSection 254 [(0, q_a t (60)), (1, ma_i (v1)), (3, ma_j (v3)), (7, ma_i (v7))] [] (q_h f g) (ma_zr (q_G t) false Q) := by
  unfold p_Mod_putSection_254 at hp
  refine ev_iinc (pc := 254) d_Mod_putSection_254 (by decide) rfl [(7, _), (0, _), (1, _), (3, _)] rfl ?_
  replace hp := q_let_of hp
  obtain ⟨z1, hz, hp⟩ := hp
  rw [← hz]
  clear hz
  refine ev_goto (pc := 257) (tgt := 152) d_Mod_putSection_257 (by decide) ?_
  refine ev_sub (ls2 := [(0, q_a t (60)), (1, ma_i (v1)), (3, ma_j (v3)), (7, ma_i (z1))]) [1, 2, 3, 0] rfl ?_
  exact hc152 (v1) (v3) (z1) f g hp
theorem e_Mod_putSection_152 (t : q_V) (ok : ma_ok (q_G t))  {Q : Option Value → ma_H → Prop} {y : q_F × q_F} (hQ : Q (none) (q_h y.1 y.2))   : ∀ (n : Nat) (v1 : Int) (v3 : Int) (v7 : Int) (f g : q_F), p_Mod_putSection_152   n v1 v3 v7 f g = some y → ma_Ev (q_G t) 2 49 0 0 m_Mod_putSection 152 [(0, q_a t (60)), (1, ma_i (v1)), (3, ma_j (v3)), (7, ma_i (v7))] [] (q_h f g) (ma_zr (q_G t) false Q) := by
  intro n
  induction n with
  | zero =>
    intro v1 v3 v7 f g hp
    rw [p_Mod_putSection_152] at hp
    cases hp
  | succ n ih =>
    intro v1 v3 v7 f g hp
    rw [p_Mod_putSection_152] at hp
    refine ev_iload (pc := 152) d_Mod_putSection_152 rfl ?_
    refine et_aload_n (pc := 154) d_Mod_putSection_154 rfl rfl ?_
    refine et_getr (pc := 155) ok (fl_Mod_85 t) rfl d_Mod_putSection_155 s_60 r_60_32 ?_
    refine ev_iload_n (pc := 158) d_Mod_putSection_158 rfl rfl ?_
    replace hp := q_if hp
    obtain ⟨hb1, hp⟩ := hp
    refine et_iald (pc := 159) d_Mod_putSection_159 s_84 hb1 (by decide) ?_
    refine et_aload_n (pc := 160) d_Mod_putSection_160 rfl rfl ?_
    refine et_getr (pc := 161) ok (fl_Mod_88 t) rfl d_Mod_putSection_161 s_60 r_60_33 ?_
    refine ev_iload_n (pc := 164) d_Mod_putSection_164 rfl rfl ?_
    replace hp := q_if hp
    obtain ⟨hb2, hp⟩ := hp
    refine et_iald (pc := 165) d_Mod_putSection_165 s_85 hb2 (by decide) ?_
    refine ev_iadd (pc := 166) d_Mod_putSection_166 ?_
    refine et_icmp_ge (pc := 167) (tgt := 260) d_Mod_putSection_167 (by decide) (fun hj3 => ?_) (fun hj3 => ?_)
    · rw [if_pos hj3] at hp
      refine et_aload_n (pc := 260) d_Mod_putSection_260 rfl rfl ?_
      refine et_getr (pc := 261) ok (fl_Mod_94 t) rfl d_Mod_putSection_261 s_60 r_60_35 ?_
      refine ev_iload_n (pc := 264) d_Mod_putSection_264 rfl rfl ?_
      refine ev_lload_n (pc := 265) d_Mod_putSection_265 rfl rfl ?_
      refine ev_l2i (pc := 266) d_Mod_putSection_266 ?_
      refine et_aload_n (pc := 267) d_Mod_putSection_267 rfl rfl ?_
      refine et_getr (pc := 268) ok (fl_Mod_91 t) rfl d_Mod_putSection_268 s_60 r_60_34 ?_
      refine ev_iload_n (pc := 271) d_Mod_putSection_271 rfl rfl ?_
      replace hp := q_if hp
      obtain ⟨hb4, hp⟩ := hp
      refine et_iald (pc := 272) d_Mod_putSection_272 s_86 hb4 (by decide) ?_
      refine ev_isub (pc := 273) d_Mod_putSection_273 ?_
      replace hp := q_if hp
      obtain ⟨hb5, hp⟩ := hp
      refine et_iast (pc := 274) d_Mod_putSection_274 s_87 hb5 (by decide) ?_
      replace hp := q_let_of hp
      obtain ⟨f6, hz, hp⟩ := hp
      rw [← hz]
      clear hz
      refine et_aload_n (pc := 275) d_Mod_putSection_275 rfl rfl ?_
      refine et_getr (pc := 276) ok (fl_Mod_64 t) rfl d_Mod_putSection_276 s_60 r_60_25 ?_
      refine ev_iload_n (pc := 279) d_Mod_putSection_279 rfl rfl ?_
      refine ev_iconst (pc := 280) d_Mod_putSection_280 ?_
      replace hp := q_if hp
      obtain ⟨hb7, hp⟩ := hp
      refine et_zast (pc := 281) d_Mod_putSection_281 s_77 hb7 (by decide) ?_
      replace hp := q_let_of hp
      obtain ⟨f8, hz, hp⟩ := hp
      rw [← hz]
      clear hz
      cases Option.some.inj hp
      exact et_ret (pc := 282) d_Mod_putSection_282 rfl hQ
    · rw [if_neg hj3] at hp
      refine et_aload_n (pc := 170) d_Mod_putSection_170 rfl rfl ?_
      refine et_getr (pc := 171) ok (fl_Mod_100 t) rfl d_Mod_putSection_171 s_60 r_60_38 ?_
      refine ev_iload (pc := 174) d_Mod_putSection_174 rfl ?_
      replace hp := q_if hp
      obtain ⟨hb9, hp⟩ := hp
      refine et_iald (pc := 176) d_Mod_putSection_176 s_89 hb9 (by decide) ?_
      refine ev_istore (pc := 177) d_Mod_putSection_177 (by decide) [(8, _), (0, _), (1, _), (3, _), (7, _)] rfl ?_
      replace hp := q_let_of hp
      obtain ⟨z10, hz, hp⟩ := hp
      rw [← hz]
      clear hz
      refine ev_iload (pc := 179) d_Mod_putSection_179 rfl ?_
      refine et_if_ge (pc := 181) (tgt := 195) d_Mod_putSection_181 (by decide) (fun hj11 => ?_) (fun hj11 => ?_)
      · rw [if_pos hj11] at hp
        refine ev_iload (pc := 195) d_Mod_putSection_195 rfl ?_
        refine ev_bipush (pc := 197) d_Mod_putSection_197 rfl ?_
        refine et_icmp_ge (pc := 199) (tgt := 237) d_Mod_putSection_199 (by decide) (fun hj12 => ?_) (fun hj12 => ?_)
        · rw [if_pos hj12] at hp
          refine et_aload_n (pc := 237) d_Mod_putSection_237 rfl rfl ?_
          refine et_getr (pc := 238) ok (fl_Mod_118 t) rfl d_Mod_putSection_238 s_60 r_60_44 ?_
          refine ev_iload (pc := 241) d_Mod_putSection_241 rfl ?_
          refine ev_lload_n (pc := 243) d_Mod_putSection_243 rfl rfl ?_
          refine ev_l2i (pc := 244) d_Mod_putSection_244 ?_
          replace hp := q_if hp
          obtain ⟨hb13, hp⟩ := hp
          refine et_iast (pc := 245) d_Mod_putSection_245 s_95 hb13 (by decide) ?_
          replace hp := q_let_of hp
          obtain ⟨f14, hz, hp⟩ := hp
          rw [← hz]
          clear hz
          refine et_aload_n (pc := 246) d_Mod_putSection_246 rfl rfl ?_
          refine et_getr (pc := 247) ok (fl_Mod_106 t) rfl d_Mod_putSection_247 s_60 r_60_40 ?_
          refine ev_iload (pc := 250) d_Mod_putSection_250 rfl ?_
          refine ev_iconst (pc := 252) d_Mod_putSection_252 ?_
          replace hp := q_if hp
          obtain ⟨hb15, hp⟩ := hp
          refine et_zast (pc := 253) d_Mod_putSection_253 s_91 hb15 (by decide) ?_
          replace hp := q_let_of hp
          obtain ⟨f16, hz, hp⟩ := hp
          rw [← hz]
          clear hz
          refine ev_sub (ls2 := [(0, q_a t (60)), (1, ma_i (v1)), (3, ma_j (v3)), (7, ma_i (v7))]) [1, 2, 3, 4] rfl ?_
          exact e_Mod_putSection_254 t ok  hQ (p_Mod_putSection_152   n) ih (v1) (v3) (v7) f16 g hp
        · rw [if_neg hj12] at hp
          refine ev_lload_n (pc := 202) d_Mod_putSection_202 rfl rfl ?_
          refine et_aload_n (pc := 203) d_Mod_putSection_203 rfl rfl ?_
          refine et_getr (pc := 204) ok (fl_Mod_13 t) rfl d_Mod_putSection_204 s_60 r_60_2 ?_
          refine ev_iload (pc := 207) d_Mod_putSection_207 rfl ?_
          replace hp := q_if hp
          obtain ⟨hb17, hp⟩ := hp
          refine et_iald (pc := 209) d_Mod_putSection_209 s_62 hb17 (by decide) ?_
          replace hp := q_bind hp
          obtain ⟨x18, hm19, hp⟩ := hp
          refine et_callSl (pc := 210) (f1 := x18.2.1) (g1 := x18.2.2) ok [ma_j (v3), ma_i (f 62 (Int.toNat z10))] [] (cf_Mod_227 t) d_Mod_putSection_210 (t_Mod_raised t ok (v3) (f 62 (Int.toNat z10)) f g hm19 ⟨rfl, rfl⟩) rfl rfl (by decide) (by decide) (q_ble rfl) ?_
          refine ev_lstore_n (pc := 213) d_Mod_putSection_213 rfl (by decide) [(3, _), (8, _), (0, _), (1, _), (7, _)] rfl ?_
          refine et_aload_n (pc := 214) d_Mod_putSection_214 rfl rfl ?_
          refine et_getr (pc := 215) ok (fl_Mod_19 t) rfl d_Mod_putSection_215 s_60 r_60_4 ?_
          refine ev_iload (pc := 218) d_Mod_putSection_218 rfl ?_
          refine ev_lload_n (pc := 220) d_Mod_putSection_220 rfl rfl ?_
          refine ev_l2i (pc := 221) d_Mod_putSection_221 ?_
          replace hp := q_if hp
          obtain ⟨hb20, hp⟩ := hp
          refine et_iast (pc := 222) d_Mod_putSection_222 s_64 hb20 (by decide) ?_
          replace hp := q_let_of hp
          obtain ⟨f21, hz, hp⟩ := hp
          rw [← hz]
          clear hz
          refine ev_lload_n (pc := 223) d_Mod_putSection_223 rfl rfl ?_
          refine et_aload_n (pc := 224) d_Mod_putSection_224 rfl rfl ?_
          refine et_getr (pc := 225) ok (fl_Mod_7 t) rfl d_Mod_putSection_225 s_60 r_60_1 ?_
          refine ev_iload (pc := 228) d_Mod_putSection_228 rfl ?_
          replace hp := q_if hp
          obtain ⟨hb22, hp⟩ := hp
          refine et_iald (pc := 230) d_Mod_putSection_230 s_61 hb22 (by decide) ?_
          refine et_i2l (pc := 231) d_Mod_putSection_231 ?_
          refine ev_ladd (pc := 232) d_Mod_putSection_232 ?_
          refine ev_lstore_n (pc := 233) d_Mod_putSection_233 rfl (by decide) [(3, _), (8, _), (0, _), (1, _), (7, _)] rfl ?_
          replace hp := q_let_of hp
          obtain ⟨z23, hz, hp⟩ := hp
          rw [← hz]
          clear hz
          refine ev_goto (pc := 234) (tgt := 254) d_Mod_putSection_234 (by decide) ?_
          refine ev_sub (ls2 := [(0, q_a t (60)), (1, ma_i (v1)), (3, ma_j (z23)), (7, ma_i (v7))]) [2, 3, 0, 4] rfl ?_
          exact e_Mod_putSection_254 t ok  hQ (p_Mod_putSection_152   n) ih (v1) (z23) (v7) f21 x18.2.2 hp
      · rw [if_neg hj11] at hp
        refine ev_lload_n (pc := 184) d_Mod_putSection_184 rfl rfl ?_
        refine ev_iload (pc := 185) d_Mod_putSection_185 rfl ?_
        refine ev_ineg (pc := 187) d_Mod_putSection_187 ?_
        replace hp := q_bind hp
        obtain ⟨x24, hm25, hp⟩ := hp
        refine et_callSl (pc := 188) (f1 := x24.2.1) (g1 := x24.2.2) ok [ma_j (v3), ma_i (-z10)] [] (cf_Mod_227 t) d_Mod_putSection_188 (t_Mod_raised t ok (v3) (-z10) f g hm25 ⟨rfl, rfl⟩) rfl rfl (by decide) (by decide) (q_ble rfl) ?_
        refine ev_lstore_n (pc := 191) d_Mod_putSection_191 rfl (by decide) [(3, _), (8, _), (0, _), (1, _), (7, _)] rfl ?_
        refine ev_goto (pc := 192) (tgt := 254) d_Mod_putSection_192 (by decide) ?_
        refine ev_sub (ls2 := [(0, q_a t (60)), (1, ma_i (v1)), (3, ma_j (x24.1)), (7, ma_i (v7))]) [2, 3, 0, 4] rfl ?_
        exact e_Mod_putSection_254 t ok  hQ (p_Mod_putSection_152   n) ih (v1) (x24.1) (v7) x24.2.1 x24.2.2 hp
theorem e_Mod_putSection_117 (t : q_V) (ok : ma_ok (q_G t))  {Q : Option Value → ma_H → Prop} {y : q_F × q_F} (hQ : Q (none) (q_h y.1 y.2))   (v1 : Int) (v3 : Int) (s0 : Int) (f g : q_F) (hp : p_Mod_putSection_117   v1 v3 s0 f g = some y) : ma_Ev (q_G t) 2 49 0 0 m_Mod_putSection 117 [(0, q_a t (60)), (1, ma_i (v1)), (3, ma_j (v3))] [ma_j (s0)] (q_h f g) (ma_zr (q_G t) false Q) := by
  unfold p_Mod_putSection_117 at hp
  refine ev_lstore (pc := 117) d_Mod_putSection_117 (by decide) [(5, _), (0, _), (1, _), (3, _)] rfl ?_
  refine et_aload_n (pc := 119) d_Mod_putSection_119 rfl rfl ?_
  refine et_geti (pc := 120) ok (fl_Mod_217 t) rfl d_Mod_putSection_120 s_60 ?_
  refine et_if_ne (pc := 123) (tgt := 127) d_Mod_putSection_123 (by decide) (fun hj1 => ?_) (fun hj1 => ?_)
  · rw [if_neg hj1] at hp
    refine et_aload_n (pc := 127) d_Mod_putSection_127 rfl rfl ?_
    refine et_getr (pc := 128) ok (fl_Mod_91 t) rfl d_Mod_putSection_128 s_60 r_60_34 ?_
    refine ev_iload_n (pc := 131) d_Mod_putSection_131 rfl rfl ?_
    refine ev_lload_n (pc := 132) d_Mod_putSection_132 rfl rfl ?_
    refine ev_l2i (pc := 133) d_Mod_putSection_133 ?_
    replace hp := q_if hp
    obtain ⟨hb2, hp⟩ := hp
    refine et_iast (pc := 134) d_Mod_putSection_134 s_86 hb2 (by decide) ?_
    replace hp := q_let_of hp
    obtain ⟨f3, hz, hp⟩ := hp
    rw [← hz]
    clear hz
    refine et_aload_n (pc := 135) d_Mod_putSection_135 rfl rfl ?_
    refine et_getr (pc := 136) ok (fl_Mod_97 t) rfl d_Mod_putSection_136 s_60 r_60_36 ?_
    refine ev_iload_n (pc := 139) d_Mod_putSection_139 rfl rfl ?_
    refine ev_lload (pc := 140) d_Mod_putSection_140 rfl ?_
    refine ev_l2i (pc := 142) d_Mod_putSection_142 ?_
    replace hp := q_if hp
    obtain ⟨hb4, hp⟩ := hp
    refine et_iast (pc := 143) d_Mod_putSection_143 s_88 hb4 (by decide) ?_
    replace hp := q_let_of hp
    obtain ⟨f5, hz, hp⟩ := hp
    rw [← hz]
    clear hz
    refine et_aload_n (pc := 144) d_Mod_putSection_144 rfl rfl ?_
    refine et_getr (pc := 145) ok (fl_Mod_85 t) rfl d_Mod_putSection_145 s_60 r_60_32 ?_
    refine ev_iload_n (pc := 148) d_Mod_putSection_148 rfl rfl ?_
    replace hp := q_if hp
    obtain ⟨hb6, hp⟩ := hp
    refine et_iald (pc := 149) d_Mod_putSection_149 s_84 hb6 (by decide) ?_
    refine ev_istore (pc := 150) d_Mod_putSection_150 (by decide) [(7, _), (5, _), (0, _), (1, _), (3, _)] rfl ?_
    replace hp := q_let_of hp
    obtain ⟨z7, hz, hp⟩ := hp
    rw [← hz]
    clear hz
    refine ev_sub (ls2 := [(0, q_a t (60)), (1, ma_i (v1)), (3, ma_j (v3)), (7, ma_i (z7))]) [2, 3, 4, 0] rfl ?_
    exact e_Mod_putSection_152 t ok  hQ   1000 (v1) (v3) (z7) f5 g hp
  · rw [if_pos hj1] at hp
    cases Option.some.inj hp
    exact et_ret (pc := 126) d_Mod_putSection_126 rfl hQ
theorem e_Mod_putSection_60 (t : q_V) (ok : ma_ok (q_G t))  {Q : Option Value → ma_H → Prop} {y : q_F × q_F} (hQ : Q (none) (q_h y.1 y.2))   (v1 : Int) (v2 : Int) (s0 : Int) (f g : q_F) (hp : p_Mod_putSection_60   v1 v2 s0 f g = some y) : ma_Ev (q_G t) 2 49 0 0 m_Mod_putSection 60 [(0, q_a t (60)), (1, ma_i (v1)), (2, ma_i (v2))] [ma_j (s0)] (q_h f g) (ma_zr (q_G t) false Q) := by
  unfold p_Mod_putSection_60 at hp
  refine ev_lstore_n (pc := 60) d_Mod_putSection_60 rfl (by decide) [(3, _), (0, _), (1, _), (2, _)] rfl ?_
  refine et_aload_n (pc := 61) d_Mod_putSection_61 rfl rfl ?_
  refine et_geti (pc := 62) ok (fl_Mod_217 t) rfl d_Mod_putSection_62 s_60 ?_
  refine et_if_ne (pc := 65) (tgt := 69) d_Mod_putSection_65 (by decide) (fun hj1 => ?_) (fun hj1 => ?_)
  · rw [if_neg hj1] at hp
    refine et_aload_n (pc := 69) d_Mod_putSection_69 rfl rfl ?_
    refine et_getr (pc := 70) ok (fl_Mod_79 t) rfl d_Mod_putSection_70 s_60 r_60_30 ?_
    refine ev_iload_n (pc := 73) d_Mod_putSection_73 rfl rfl ?_
    replace hp := q_if hp
    obtain ⟨hb2, hp⟩ := hp
    refine et_iald (pc := 74) d_Mod_putSection_74 s_82 hb2 (by decide) ?_
    refine et_if_ge (pc := 75) (tgt := 97) d_Mod_putSection_75 (by decide) (fun hj3 => ?_) (fun hj3 => ?_)
    · rw [if_pos hj3] at hp
      refine et_aload_n (pc := 97) d_Mod_putSection_97 rfl rfl ?_
      refine et_aload_n (pc := 98) d_Mod_putSection_98 rfl rfl ?_
      refine et_getr (pc := 99) ok (fl_Mod_79 t) rfl d_Mod_putSection_99 s_60 r_60_30 ?_
      refine ev_iload_n (pc := 102) d_Mod_putSection_102 rfl rfl ?_
      replace hp := q_if hp
      obtain ⟨hb4, hp⟩ := hp
      refine et_iald (pc := 103) d_Mod_putSection_103 s_82 hb4 (by decide) ?_
      refine et_aload_n (pc := 104) d_Mod_putSection_104 rfl rfl ?_
      refine et_getr (pc := 105) ok (fl_Mod_67 t) rfl d_Mod_putSection_105 s_60 r_60_26 ?_
      refine ev_iload_n (pc := 108) d_Mod_putSection_108 rfl rfl ?_
      replace hp := q_if hp
      obtain ⟨hb5, hp⟩ := hp
      refine et_iald (pc := 109) d_Mod_putSection_109 s_78 hb5 (by decide) ?_
      replace hp := q_bind hp
      obtain ⟨x6, hm7, hp⟩ := hp
      refine et_callVl (pc := 110) (f1 := x6.2.1) (g1 := x6.2.2) ok [ma_i (f 82 (Int.toNat v1)), ma_i (f 78 (Int.toNat v1))] [] (cf_Mod_242 t) d_Mod_putSection_110 s_60 k_12 rfl (t_Mod_placeOf t ok (f 82 (Int.toNat v1)) (f 78 (Int.toNat v1)) f g hm7 ⟨rfl, rfl⟩) rfl rfl (by decide) (by decide) (q_ble rfl) ?_
      refine ev_iload_n (pc := 113) d_Mod_putSection_113 rfl rfl ?_
      replace hp := q_bind hp
      obtain ⟨x8, hm9, hp⟩ := hp
      refine et_callSl (pc := 114) (f1 := x8.2.1) (g1 := x8.2.2) ok [ma_j (x6.1), ma_i (v2)] [] (cf_Mod_227 t) d_Mod_putSection_114 (t_Mod_raised t ok (x6.1) (v2) x6.2.1 x6.2.2 hm9 ⟨rfl, rfl⟩) rfl rfl (by decide) (by decide) (q_ble rfl) ?_
      refine ev_sub (ls2 := [(0, q_a t (60)), (1, ma_i (v1)), (3, ma_j (s0))]) [1, 2, 0] rfl ?_
      exact e_Mod_putSection_117 t ok  hQ   (v1) (s0) (x8.1) x8.2.1 x8.2.2 hp
    · rw [if_neg hj3] at hp
      refine et_aload_n (pc := 78) d_Mod_putSection_78 rfl rfl ?_
      refine et_getr (pc := 79) ok (fl_Mod_82 t) rfl d_Mod_putSection_79 s_60 r_60_31 ?_
      refine ev_iload_n (pc := 82) d_Mod_putSection_82 rfl rfl ?_
      replace hp := q_if hp
      obtain ⟨hb10, hp⟩ := hp
      refine et_zald (pc := 83) d_Mod_putSection_83 s_83 hb10 (by decide) ?_
      refine et_if_eq (pc := 84) (tgt := 91) d_Mod_putSection_84 (by decide) (fun hj11 => ?_) (fun hj11 => ?_)
      · rw [if_pos hj11] at hp
        refine ev_ldc2 (pc := 91) d_Mod_putSection_91 kc_Mod_245 ?_
        refine ev_goto (pc := 94) (tgt := 117) d_Mod_putSection_94 (by decide) ?_
        refine ev_sub (ls2 := [(0, q_a t (60)), (1, ma_i (v1)), (3, ma_j (s0))]) [1, 2, 0] rfl ?_
        exact e_Mod_putSection_117 t ok  hQ   (v1) (s0) (-1) f g hp
      · rw [if_neg hj11] at hp
        refine ev_lload_n (pc := 87) d_Mod_putSection_87 rfl rfl ?_
        refine ev_goto (pc := 88) (tgt := 117) d_Mod_putSection_88 (by decide) ?_
        refine ev_sub (ls2 := [(0, q_a t (60)), (1, ma_i (v1)), (3, ma_j (s0))]) [1, 2, 0] rfl ?_
        exact e_Mod_putSection_117 t ok  hQ   (v1) (s0) (s0) f g hp
  · rw [if_pos hj1] at hp
    cases Option.some.inj hp
    exact et_ret (pc := 68) d_Mod_putSection_68 rfl hQ
theorem t_Mod_putSection (t : q_V) (ok : ma_ok (q_G t))  {Q : Option Value → ma_H → Prop} {y : q_F × q_F} (v1 : Int) (f g : q_F) (hp : p_Mod_putSection  v1 f g = some y) (hQ : Q (none) (q_h y.1 y.2)) : ma_Met (q_G t) false 2 49 0 0 m_Mod_putSection [q_a t (60), ma_i (v1)] (q_h f g) Q := by
  refine ma_met (by decide +kernel) (q_ble rfl) rfl ?_
  change ma_Ev (q_G t) 2 49 0 0 m_Mod_putSection 0 [(0, q_a t (60)), (1, ma_i (v1))] [] (q_h f g) (ma_zr (q_G t) false Q)
  unfold p_Mod_putSection at hp
  refine et_aload_n (pc := 0) d_Mod_putSection_0 rfl rfl ?_
  refine ev_iload_n (pc := 1) d_Mod_putSection_1 rfl rfl ?_
  replace hp := q_bind hp
  obtain ⟨x1, hm2, hp⟩ := hp
  refine et_callVi (pc := 2) (f1 := x1.2.1) (g1 := x1.2.2) ok [ma_i (v1)] [] (cf_Mod_235 t) d_Mod_putSection_2 s_60 k_12 rfl (t_Mod_alignOf t ok (v1) f g hm2 ⟨rfl, rfl⟩) rfl rfl (by decide) (by decide) (q_ble rfl) ?_
  refine ev_istore_n (pc := 5) d_Mod_putSection_5 rfl (by decide) [(2, _), (0, _), (1, _)] rfl ?_
  refine et_aload_n (pc := 6) d_Mod_putSection_6 rfl rfl ?_
  refine et_getr (pc := 7) ok (fl_Mod_70 t) rfl d_Mod_putSection_7 s_60 r_60_27 ?_
  refine ev_iload_n (pc := 10) d_Mod_putSection_10 rfl rfl ?_
  replace hp := q_if hp
  obtain ⟨hb3, hp⟩ := hp
  refine et_iald (pc := 11) d_Mod_putSection_11 s_79 hb3 (by decide) ?_
  refine et_aload_n (pc := 12) d_Mod_putSection_12 rfl rfl ?_
  refine et_getr (pc := 13) ok (fl_Mod_73 t) rfl d_Mod_putSection_13 s_60 r_60_28 ?_
  refine ev_iload_n (pc := 16) d_Mod_putSection_16 rfl rfl ?_
  replace hp := q_if hp
  obtain ⟨hb4, hp⟩ := hp
  refine et_iald (pc := 17) d_Mod_putSection_17 s_80 hb4 (by decide) ?_
  refine et_icmp_ge (pc := 18) (tgt := 40) d_Mod_putSection_18 (by decide) (fun hj5 => ?_) (fun hj5 => ?_)
  · rw [if_pos hj5] at hp
    refine et_aload_n (pc := 40) d_Mod_putSection_40 rfl rfl ?_
    refine et_aload_n (pc := 41) d_Mod_putSection_41 rfl rfl ?_
    refine et_getr (pc := 42) ok (fl_Mod_76 t) rfl d_Mod_putSection_42 s_60 r_60_29 ?_
    refine ev_iload_n (pc := 45) d_Mod_putSection_45 rfl rfl ?_
    replace hp := q_if hp
    obtain ⟨hb6, hp⟩ := hp
    refine et_iald (pc := 46) d_Mod_putSection_46 s_81 hb6 (by decide) ?_
    refine et_aload_n (pc := 47) d_Mod_putSection_47 rfl rfl ?_
    refine et_getr (pc := 48) ok (fl_Mod_67 t) rfl d_Mod_putSection_48 s_60 r_60_26 ?_
    refine ev_iload_n (pc := 51) d_Mod_putSection_51 rfl rfl ?_
    replace hp := q_if hp
    obtain ⟨hb7, hp⟩ := hp
    refine et_iald (pc := 52) d_Mod_putSection_52 s_78 hb7 (by decide) ?_
    replace hp := q_bind hp
    obtain ⟨x8, hm9, hp⟩ := hp
    refine et_callVl (pc := 53) (f1 := x8.2.1) (g1 := x8.2.2) ok [ma_i (x1.2.1 81 (Int.toNat v1)), ma_i (x1.2.1 78 (Int.toNat v1))] [] (cf_Mod_242 t) d_Mod_putSection_53 s_60 k_12 rfl (t_Mod_placeOf t ok (x1.2.1 81 (Int.toNat v1)) (x1.2.1 78 (Int.toNat v1)) x1.2.1 x1.2.2 hm9 ⟨rfl, rfl⟩) rfl rfl (by decide) (by decide) (q_ble rfl) ?_
    refine ev_iload_n (pc := 56) d_Mod_putSection_56 rfl rfl ?_
    replace hp := q_bind hp
    obtain ⟨x10, hm11, hp⟩ := hp
    refine et_callSl (pc := 57) (f1 := x10.2.1) (g1 := x10.2.2) ok [ma_j (x8.1), ma_i (x1.1)] [] (cf_Mod_227 t) d_Mod_putSection_57 (t_Mod_raised t ok (x8.1) (x1.1) x8.2.1 x8.2.2 hm11 ⟨rfl, rfl⟩) rfl rfl (by decide) (by decide) (q_ble rfl) ?_
    refine ev_sub (ls2 := [(0, q_a t (60)), (1, ma_i (v1)), (2, ma_i (x1.1))]) [1, 2, 0] rfl ?_
    exact e_Mod_putSection_60 t ok  hQ   (v1) (x1.1) (x10.1) x10.2.1 x10.2.2 hp
  · rw [if_neg hj5] at hp
    refine et_aload_n (pc := 21) d_Mod_putSection_21 rfl rfl ?_
    refine et_aload_n (pc := 22) d_Mod_putSection_22 rfl rfl ?_
    refine et_getr (pc := 23) ok (fl_Mod_70 t) rfl d_Mod_putSection_23 s_60 r_60_27 ?_
    refine ev_iload_n (pc := 26) d_Mod_putSection_26 rfl rfl ?_
    replace hp := q_if hp
    obtain ⟨hb12, hp⟩ := hp
    refine et_iald (pc := 27) d_Mod_putSection_27 s_79 hb12 (by decide) ?_
    refine et_aload_n (pc := 28) d_Mod_putSection_28 rfl rfl ?_
    refine et_getr (pc := 29) ok (fl_Mod_73 t) rfl d_Mod_putSection_29 s_60 r_60_28 ?_
    refine ev_iload_n (pc := 32) d_Mod_putSection_32 rfl rfl ?_
    replace hp := q_if hp
    obtain ⟨hb13, hp⟩ := hp
    refine et_iald (pc := 33) d_Mod_putSection_33 s_80 hb13 (by decide) ?_
    replace hp := q_bind hp
    obtain ⟨x14, hm15, hp⟩ := hp
    refine et_callVl (pc := 34) (f1 := x14.2.1) (g1 := x14.2.2) ok [ma_i (x1.2.1 79 (Int.toNat v1)), ma_i (x1.2.1 80 (Int.toNat v1))] [] (cf_Mod_238 t) d_Mod_putSection_34 s_60 k_12 rfl (t_Mod_reckon t ok (x1.2.1 79 (Int.toNat v1)) (x1.2.1 80 (Int.toNat v1)) x1.2.1 x1.2.2 hm15 ⟨rfl, rfl⟩) rfl rfl (by decide) (by decide) (q_ble rfl) ?_
    refine ev_goto (pc := 37) (tgt := 60) d_Mod_putSection_37 (by decide) ?_
    refine ev_sub (ls2 := [(0, q_a t (60)), (1, ma_i (v1)), (2, ma_i (x1.1))]) [1, 2, 0] rfl ?_
    exact e_Mod_putSection_60 t ok  hQ   (v1) (x1.1) (x14.1) x14.2.1 x14.2.2 hp
theorem d_Mod_reckonAll_0 : decode (m_c m_Mod_reckonAll) 0 = .ok (.aload_n 0, 1) := by decide +kernel
theorem d_Mod_reckonAll_1 : decode (m_c m_Mod_reckonAll) 1 = .ok (.iconst 0, 1) := by decide +kernel
theorem d_Mod_reckonAll_2 : decode (m_c m_Mod_reckonAll) 2 = .ok (.putfield 224, 3) := by decide +kernel
theorem d_Mod_reckonAll_5 : decode (m_c m_Mod_reckonAll) 5 = .ok (.iconst 0, 1) := by decide +kernel
theorem d_Mod_reckonAll_6 : decode (m_c m_Mod_reckonAll) 6 = .ok (.istore_n 1, 1) := by decide +kernel
theorem d_Mod_reckonAll_7 : decode (m_c m_Mod_reckonAll) 7 = .ok (.iload_n 1, 1) := by decide +kernel
theorem d_Mod_reckonAll_8 : decode (m_c m_Mod_reckonAll) 8 = .ok (.bipush 28, 2) := by decide +kernel
theorem d_Mod_reckonAll_10 : decode (m_c m_Mod_reckonAll) 10 = .ok (.if_icmp .ge 133, 3) := by decide +kernel
theorem d_Mod_reckonAll_13 : decode (m_c m_Mod_reckonAll) 13 = .ok (.iconst 0, 1) := by decide +kernel
theorem d_Mod_reckonAll_14 : decode (m_c m_Mod_reckonAll) 14 = .ok (.istore_n 2, 1) := by decide +kernel
theorem d_Mod_reckonAll_15 : decode (m_c m_Mod_reckonAll) 15 = .ok (.iload_n 2, 1) := by decide +kernel
theorem d_Mod_reckonAll_16 : decode (m_c m_Mod_reckonAll) 16 = .ok (.aload_n 0, 1) := by decide +kernel
theorem d_Mod_reckonAll_17 : decode (m_c m_Mod_reckonAll) 17 = .ok (.getfield 196, 3) := by decide +kernel
theorem d_Mod_reckonAll_20 : decode (m_c m_Mod_reckonAll) 20 = .ok (.if_icmp .ge 33, 3) := by decide +kernel
theorem d_Mod_reckonAll_23 : decode (m_c m_Mod_reckonAll) 23 = .ok (.aload_n 0, 1) := by decide +kernel
theorem d_Mod_reckonAll_24 : decode (m_c m_Mod_reckonAll) 24 = .ok (.getfield 64, 3) := by decide +kernel
theorem d_Mod_reckonAll_27 : decode (m_c m_Mod_reckonAll) 27 = .ok (.aload_n 0, 1) := by decide +kernel
theorem d_Mod_reckonAll_28 : decode (m_c m_Mod_reckonAll) 28 = .ok (.getfield 58, 3) := by decide +kernel
theorem d_Mod_reckonAll_31 : decode (m_c m_Mod_reckonAll) 31 = .ok (.iload_n 2, 1) := by decide +kernel
theorem d_Mod_reckonAll_32 : decode (m_c m_Mod_reckonAll) 32 = .ok (.iaload, 1) := by decide +kernel
theorem d_Mod_reckonAll_33 : decode (m_c m_Mod_reckonAll) 33 = .ok (.baload, 1) := by decide +kernel
theorem d_Mod_reckonAll_34 : decode (m_c m_Mod_reckonAll) 34 = .ok (.ifCond .ne 13, 3) := by decide +kernel
theorem d_Mod_reckonAll_37 : decode (m_c m_Mod_reckonAll) 37 = .ok (.aload_n 0, 1) := by decide +kernel
theorem d_Mod_reckonAll_38 : decode (m_c m_Mod_reckonAll) 38 = .ok (.aload_n 0, 1) := by decide +kernel
theorem d_Mod_reckonAll_39 : decode (m_c m_Mod_reckonAll) 39 = .ok (.getfield 58, 3) := by decide +kernel
theorem d_Mod_reckonAll_42 : decode (m_c m_Mod_reckonAll) 42 = .ok (.iload_n 2, 1) := by decide +kernel
theorem d_Mod_reckonAll_43 : decode (m_c m_Mod_reckonAll) 43 = .ok (.iaload, 1) := by decide +kernel
theorem d_Mod_reckonAll_44 : decode (m_c m_Mod_reckonAll) 44 = .ok (.invokevirtual 247, 3) := by decide +kernel
theorem d_Mod_reckonAll_47 : decode (m_c m_Mod_reckonAll) 47 = .ok (.iinc 2 1, 3) := by decide +kernel
theorem d_Mod_reckonAll_50 : decode (m_c m_Mod_reckonAll) 50 = .ok (.goto (-35), 3) := by decide +kernel
theorem d_Mod_reckonAll_53 : decode (m_c m_Mod_reckonAll) 53 = .ok (.bipush 8, 2) := by decide +kernel
theorem d_Mod_reckonAll_55 : decode (m_c m_Mod_reckonAll) 55 = .ok (.istore_n 2, 1) := by decide +kernel
theorem d_Mod_reckonAll_56 : decode (m_c m_Mod_reckonAll) 56 = .ok (.iload_n 2, 1) := by decide +kernel
theorem d_Mod_reckonAll_57 : decode (m_c m_Mod_reckonAll) 57 = .ok (.bipush 26, 2) := by decide +kernel
theorem d_Mod_reckonAll_59 : decode (m_c m_Mod_reckonAll) 59 = .ok (.if_icmp .ge 78, 3) := by decide +kernel
theorem d_Mod_reckonAll_62 : decode (m_c m_Mod_reckonAll) 62 = .ok (.aload_n 0, 1) := by decide +kernel
theorem d_Mod_reckonAll_63 : decode (m_c m_Mod_reckonAll) 63 = .ok (.getfield 103, 3) := by decide +kernel
theorem d_Mod_reckonAll_66 : decode (m_c m_Mod_reckonAll) 66 = .ok (.iload_n 2, 1) := by decide +kernel
theorem d_Mod_reckonAll_67 : decode (m_c m_Mod_reckonAll) 67 = .ok (.baload, 1) := by decide +kernel
theorem d_Mod_reckonAll_68 : decode (m_c m_Mod_reckonAll) 68 = .ok (.ifCond .eq 63, 3) := by decide +kernel
theorem d_Mod_reckonAll_71 : decode (m_c m_Mod_reckonAll) 71 = .ok (.aload_n 0, 1) := by decide +kernel
theorem d_Mod_reckonAll_72 : decode (m_c m_Mod_reckonAll) 72 = .ok (.getfield 106, 3) := by decide +kernel
theorem d_Mod_reckonAll_75 : decode (m_c m_Mod_reckonAll) 75 = .ok (.iload_n 2, 1) := by decide +kernel
theorem d_Mod_reckonAll_76 : decode (m_c m_Mod_reckonAll) 76 = .ok (.baload, 1) := by decide +kernel
theorem d_Mod_reckonAll_77 : decode (m_c m_Mod_reckonAll) 77 = .ok (.ifCond .ne 54, 3) := by decide +kernel
theorem d_Mod_reckonAll_80 : decode (m_c m_Mod_reckonAll) 80 = .ok (.aload_n 0, 1) := by decide +kernel
theorem d_Mod_reckonAll_81 : decode (m_c m_Mod_reckonAll) 81 = .ok (.getfield 109, 3) := by decide +kernel
theorem d_Mod_reckonAll_84 : decode (m_c m_Mod_reckonAll) 84 = .ok (.iload_n 2, 1) := by decide +kernel
theorem d_Mod_reckonAll_85 : decode (m_c m_Mod_reckonAll) 85 = .ok (.iaload, 1) := by decide +kernel
theorem d_Mod_reckonAll_86 : decode (m_c m_Mod_reckonAll) 86 = .ok (.ifCond .ge 45, 3) := by decide +kernel
theorem d_Mod_reckonAll_89 : decode (m_c m_Mod_reckonAll) 89 = .ok (.aload_n 0, 1) := by decide +kernel
theorem d_Mod_reckonAll_90 : decode (m_c m_Mod_reckonAll) 90 = .ok (.aload_n 0, 1) := by decide +kernel
theorem d_Mod_reckonAll_91 : decode (m_c m_Mod_reckonAll) 91 = .ok (.getfield 112, 3) := by decide +kernel
theorem d_Mod_reckonAll_94 : decode (m_c m_Mod_reckonAll) 94 = .ok (.iload_n 2, 1) := by decide +kernel
theorem d_Mod_reckonAll_95 : decode (m_c m_Mod_reckonAll) 95 = .ok (.iaload, 1) := by decide +kernel
theorem d_Mod_reckonAll_96 : decode (m_c m_Mod_reckonAll) 96 = .ok (.aload_n 0, 1) := by decide +kernel
theorem d_Mod_reckonAll_97 : decode (m_c m_Mod_reckonAll) 97 = .ok (.getfield 115, 3) := by decide +kernel
theorem d_Mod_reckonAll_100 : decode (m_c m_Mod_reckonAll) 100 = .ok (.iload_n 2, 1) := by decide +kernel
theorem d_Mod_reckonAll_101 : decode (m_c m_Mod_reckonAll) 101 = .ok (.iaload, 1) := by decide +kernel
theorem d_Mod_reckonAll_102 : decode (m_c m_Mod_reckonAll) 102 = .ok (.invokevirtual 238, 3) := by decide +kernel
theorem d_Mod_reckonAll_105 : decode (m_c m_Mod_reckonAll) 105 = .ok (.lstore_n 3, 1) := by decide +kernel
theorem d_Mod_reckonAll_106 : decode (m_c m_Mod_reckonAll) 106 = .ok (.aload_n 0, 1) := by decide +kernel
theorem d_Mod_reckonAll_107 : decode (m_c m_Mod_reckonAll) 107 = .ok (.getfield 217, 3) := by decide +kernel
theorem d_Mod_reckonAll_110 : decode (m_c m_Mod_reckonAll) 110 = .ok (.ifCond .eq 11, 3) := by decide +kernel
theorem d_Mod_reckonAll_113 : decode (m_c m_Mod_reckonAll) 113 = .ok (.aload_n 0, 1) := by decide +kernel
theorem d_Mod_reckonAll_114 : decode (m_c m_Mod_reckonAll) 114 = .ok (.getfield 118, 3) := by decide +kernel
theorem d_Mod_reckonAll_117 : decode (m_c m_Mod_reckonAll) 117 = .ok (.iload_n 2, 1) := by decide +kernel
theorem d_Mod_reckonAll_118 : decode (m_c m_Mod_reckonAll) 118 = .ok (.lload_n 3, 1) := by decide +kernel
theorem d_Mod_reckonAll_119 : decode (m_c m_Mod_reckonAll) 119 = .ok (.l2i, 1) := by decide +kernel
theorem d_Mod_reckonAll_120 : decode (m_c m_Mod_reckonAll) 120 = .ok (.iastore, 1) := by decide +kernel
theorem d_Mod_reckonAll_121 : decode (m_c m_Mod_reckonAll) 121 = .ok (.aload_n 0, 1) := by decide +kernel
theorem d_Mod_reckonAll_122 : decode (m_c m_Mod_reckonAll) 122 = .ok (.getfield 106, 3) := by decide +kernel
theorem d_Mod_reckonAll_125 : decode (m_c m_Mod_reckonAll) 125 = .ok (.iload_n 2, 1) := by decide +kernel
theorem d_Mod_reckonAll_126 : decode (m_c m_Mod_reckonAll) 126 = .ok (.aload_n 0, 1) := by decide +kernel
theorem d_Mod_reckonAll_127 : decode (m_c m_Mod_reckonAll) 127 = .ok (.getfield 217, 3) := by decide +kernel
theorem d_Mod_reckonAll_130 : decode (m_c m_Mod_reckonAll) 130 = .ok (.bastore, 1) := by decide +kernel
theorem d_Mod_reckonAll_131 : decode (m_c m_Mod_reckonAll) 131 = .ok (.iinc 2 1, 3) := by decide +kernel
theorem d_Mod_reckonAll_134 : decode (m_c m_Mod_reckonAll) 134 = .ok (.goto (-78), 3) := by decide +kernel
theorem d_Mod_reckonAll_137 : decode (m_c m_Mod_reckonAll) 137 = .ok (.iinc 1 1, 3) := by decide +kernel
theorem d_Mod_reckonAll_140 : decode (m_c m_Mod_reckonAll) 140 = .ok (.goto (-133), 3) := by decide +kernel
theorem d_Mod_reckonAll_143 : decode (m_c m_Mod_reckonAll) 143 = .ok (.aload_n 0, 1) := by decide +kernel
theorem d_Mod_reckonAll_144 : decode (m_c m_Mod_reckonAll) 144 = .ok (.getfield 224, 3) := by decide +kernel
theorem d_Mod_reckonAll_147 : decode (m_c m_Mod_reckonAll) 147 = .ok (.ifCond .ne 7, 3) := by decide +kernel
theorem d_Mod_reckonAll_150 : decode (m_c m_Mod_reckonAll) 150 = .ok (.iconst 1, 1) := by decide +kernel
theorem d_Mod_reckonAll_151 : decode (m_c m_Mod_reckonAll) 151 = .ok (.goto 4, 3) := by decide +kernel
theorem d_Mod_reckonAll_154 : decode (m_c m_Mod_reckonAll) 154 = .ok (.iconst 0, 1) := by decide +kernel
theorem d_Mod_reckonAll_155 : decode (m_c m_Mod_reckonAll) 155 = .ok (.istore_n 1, 1) := by decide +kernel
theorem d_Mod_reckonAll_156 : decode (m_c m_Mod_reckonAll) 156 = .ok (.iconst 0, 1) := by decide +kernel
theorem d_Mod_reckonAll_157 : decode (m_c m_Mod_reckonAll) 157 = .ok (.istore_n 2, 1) := by decide +kernel
theorem d_Mod_reckonAll_158 : decode (m_c m_Mod_reckonAll) 158 = .ok (.iload_n 2, 1) := by decide +kernel
theorem d_Mod_reckonAll_159 : decode (m_c m_Mod_reckonAll) 159 = .ok (.aload_n 0, 1) := by decide +kernel
theorem d_Mod_reckonAll_160 : decode (m_c m_Mod_reckonAll) 160 = .ok (.getfield 196, 3) := by decide +kernel
theorem d_Mod_reckonAll_163 : decode (m_c m_Mod_reckonAll) 163 = .ok (.if_icmp .ge 33, 3) := by decide +kernel
theorem d_Mod_reckonAll_166 : decode (m_c m_Mod_reckonAll) 166 = .ok (.iload_n 1, 1) := by decide +kernel
theorem d_Mod_reckonAll_167 : decode (m_c m_Mod_reckonAll) 167 = .ok (.ifCond .eq 21, 3) := by decide +kernel
theorem d_Mod_reckonAll_170 : decode (m_c m_Mod_reckonAll) 170 = .ok (.aload_n 0, 1) := by decide +kernel
theorem d_Mod_reckonAll_171 : decode (m_c m_Mod_reckonAll) 171 = .ok (.getfield 64, 3) := by decide +kernel
theorem d_Mod_reckonAll_174 : decode (m_c m_Mod_reckonAll) 174 = .ok (.aload_n 0, 1) := by decide +kernel
theorem d_Mod_reckonAll_175 : decode (m_c m_Mod_reckonAll) 175 = .ok (.getfield 58, 3) := by decide +kernel
theorem d_Mod_reckonAll_178 : decode (m_c m_Mod_reckonAll) 178 = .ok (.iload_n 2, 1) := by decide +kernel
theorem d_Mod_reckonAll_179 : decode (m_c m_Mod_reckonAll) 179 = .ok (.iaload, 1) := by decide +kernel
theorem d_Mod_reckonAll_180 : decode (m_c m_Mod_reckonAll) 180 = .ok (.baload, 1) := by decide +kernel
theorem d_Mod_reckonAll_181 : decode (m_c m_Mod_reckonAll) 181 = .ok (.ifCond .eq 7, 3) := by decide +kernel
theorem d_Mod_reckonAll_184 : decode (m_c m_Mod_reckonAll) 184 = .ok (.iconst 1, 1) := by decide +kernel
theorem d_Mod_reckonAll_185 : decode (m_c m_Mod_reckonAll) 185 = .ok (.goto 4, 3) := by decide +kernel
theorem d_Mod_reckonAll_188 : decode (m_c m_Mod_reckonAll) 188 = .ok (.iconst 0, 1) := by decide +kernel
theorem d_Mod_reckonAll_189 : decode (m_c m_Mod_reckonAll) 189 = .ok (.istore_n 1, 1) := by decide +kernel
theorem d_Mod_reckonAll_190 : decode (m_c m_Mod_reckonAll) 190 = .ok (.iinc 2 1, 3) := by decide +kernel
theorem d_Mod_reckonAll_193 : decode (m_c m_Mod_reckonAll) 193 = .ok (.goto (-35), 3) := by decide +kernel
theorem d_Mod_reckonAll_196 : decode (m_c m_Mod_reckonAll) 196 = .ok (.bipush 8, 2) := by decide +kernel
theorem d_Mod_reckonAll_198 : decode (m_c m_Mod_reckonAll) 198 = .ok (.istore_n 2, 1) := by decide +kernel
theorem d_Mod_reckonAll_199 : decode (m_c m_Mod_reckonAll) 199 = .ok (.iload_n 2, 1) := by decide +kernel
theorem d_Mod_reckonAll_200 : decode (m_c m_Mod_reckonAll) 200 = .ok (.bipush 26, 2) := by decide +kernel
theorem d_Mod_reckonAll_202 : decode (m_c m_Mod_reckonAll) 202 = .ok (.if_icmp .ge 37, 3) := by decide +kernel
theorem d_Mod_reckonAll_205 : decode (m_c m_Mod_reckonAll) 205 = .ok (.iload_n 1, 1) := by decide +kernel
theorem d_Mod_reckonAll_206 : decode (m_c m_Mod_reckonAll) 206 = .ok (.ifCond .eq 25, 3) := by decide +kernel
theorem d_Mod_reckonAll_209 : decode (m_c m_Mod_reckonAll) 209 = .ok (.aload_n 0, 1) := by decide +kernel
theorem d_Mod_reckonAll_210 : decode (m_c m_Mod_reckonAll) 210 = .ok (.getfield 103, 3) := by decide +kernel
theorem d_Mod_reckonAll_213 : decode (m_c m_Mod_reckonAll) 213 = .ok (.iload_n 2, 1) := by decide +kernel
theorem d_Mod_reckonAll_214 : decode (m_c m_Mod_reckonAll) 214 = .ok (.baload, 1) := by decide +kernel
theorem d_Mod_reckonAll_215 : decode (m_c m_Mod_reckonAll) 215 = .ok (.ifCond .eq 12, 3) := by decide +kernel
theorem d_Mod_reckonAll_218 : decode (m_c m_Mod_reckonAll) 218 = .ok (.aload_n 0, 1) := by decide +kernel
theorem d_Mod_reckonAll_219 : decode (m_c m_Mod_reckonAll) 219 = .ok (.getfield 106, 3) := by decide +kernel
theorem d_Mod_reckonAll_222 : decode (m_c m_Mod_reckonAll) 222 = .ok (.iload_n 2, 1) := by decide +kernel
theorem d_Mod_reckonAll_223 : decode (m_c m_Mod_reckonAll) 223 = .ok (.baload, 1) := by decide +kernel
theorem d_Mod_reckonAll_224 : decode (m_c m_Mod_reckonAll) 224 = .ok (.ifCond .eq 7, 3) := by decide +kernel
theorem d_Mod_reckonAll_227 : decode (m_c m_Mod_reckonAll) 227 = .ok (.iconst 1, 1) := by decide +kernel
theorem d_Mod_reckonAll_228 : decode (m_c m_Mod_reckonAll) 228 = .ok (.goto 4, 3) := by decide +kernel
theorem d_Mod_reckonAll_231 : decode (m_c m_Mod_reckonAll) 231 = .ok (.iconst 0, 1) := by decide +kernel
theorem d_Mod_reckonAll_232 : decode (m_c m_Mod_reckonAll) 232 = .ok (.istore_n 1, 1) := by decide +kernel
theorem d_Mod_reckonAll_233 : decode (m_c m_Mod_reckonAll) 233 = .ok (.iinc 2 1, 3) := by decide +kernel
theorem d_Mod_reckonAll_236 : decode (m_c m_Mod_reckonAll) 236 = .ok (.goto (-37), 3) := by decide +kernel
theorem d_Mod_reckonAll_239 : decode (m_c m_Mod_reckonAll) 239 = .ok (.iload_n 1, 1) := by decide +kernel
theorem d_Mod_reckonAll_240 : decode (m_c m_Mod_reckonAll) 240 = .ok (.ireturn, 1) := by decide +kernel
def p_Mod_reckonAll_232  (c199 : Int → Int → q_F → q_F → Option (Int × q_F × q_F)) (v2 : Int) (s0 : Int) (f g : q_F) : Option (Int × q_F × q_F) :=
  q_let (v2 + 1) fun z1 =>
  c199 (s0) (z1) f g
def p_Mod_reckonAll_231  (c199 : Int → Int → q_F → q_F → Option (Int × q_F × q_F)) (v2 : Int) (f g : q_F) : Option (Int × q_F × q_F) :=
  p_Mod_reckonAll_232  c199 (v2) (0) f g
def p_Mod_reckonAll_227  (c199 : Int → Int → q_F → q_F → Option (Int × q_F × q_F)) (v2 : Int) (f g : q_F) : Option (Int × q_F × q_F) :=
  p_Mod_reckonAll_232  c199 (v2) (1) f g
def p_Mod_reckonAll_199   : Nat → Int → Int → q_F → q_F → Option (Int × q_F × q_F)
  | 0, _, _, _, _ => none
  | n + 1, v1, v2, f, g =>
    if q_sw 26 ≤ q_sw v2 then
      if v1 = 0 ∨ v1 = 1 then
        some (v1, f, g)
      else none
    else
      if q_sw v1 = 0 then
        p_Mod_reckonAll_231  (p_Mod_reckonAll_199   n) (v2) f g
      else
        if 0 ≤ v2 ∧ v2 < 26 then
          if q_sw (f 90 (Int.toNat v2)) = 0 then
            p_Mod_reckonAll_227  (p_Mod_reckonAll_199   n) (v2) f g
          else
            if 0 ≤ v2 ∧ v2 < 26 then
              if q_sw (f 91 (Int.toNat v2)) = 0 then
                p_Mod_reckonAll_231  (p_Mod_reckonAll_199   n) (v2) f g
              else
                p_Mod_reckonAll_227  (p_Mod_reckonAll_199   n) (v2) f g
            else none
        else none
def p_Mod_reckonAll_189  (c158 : Int → Int → q_F → q_F → Option (Int × q_F × q_F)) (v2 : Int) (s0 : Int) (f g : q_F) : Option (Int × q_F × q_F) :=
  q_let (v2 + 1) fun z1 =>
  c158 (s0) (z1) f g
def p_Mod_reckonAll_188  (c158 : Int → Int → q_F → q_F → Option (Int × q_F × q_F)) (v2 : Int) (f g : q_F) : Option (Int × q_F × q_F) :=
  p_Mod_reckonAll_189  c158 (v2) (0) f g
def p_Mod_reckonAll_158   : Nat → Int → Int → q_F → q_F → Option (Int × q_F × q_F)
  | 0, _, _, _, _ => none
  | n + 1, v1, v2, f, g =>
    if q_sw (f 60 22) ≤ q_sw v2 then
      p_Mod_reckonAll_199   1000 (v1) (8) f g
    else
      if q_sw v1 = 0 then
        p_Mod_reckonAll_188  (p_Mod_reckonAll_158   n) (v2) f g
      else
        if 0 ≤ v2 ∧ v2 < 8 then
          if 0 ≤ (f 75 (Int.toNat v2)) ∧ (f 75 (Int.toNat v2)) < 8 then
            if q_sw (f 77 (Int.toNat (f 75 (Int.toNat v2)))) = 0 then
              p_Mod_reckonAll_188  (p_Mod_reckonAll_158   n) (v2) f g
            else
              p_Mod_reckonAll_189  (p_Mod_reckonAll_158   n) (v2) (1) f g
          else none
        else none
def p_Mod_reckonAll_155   (s0 : Int) (f g : q_F) : Option (Int × q_F × q_F) :=
  p_Mod_reckonAll_158   1000 (s0) (0) f g
def p_Mod_reckonAll_131  (c7 : Int → q_F → q_F → Option (Int × q_F × q_F)) (c56 : Int → Int → q_F → q_F → Option (Int × q_F × q_F)) (v1 : Int) (v2 : Int) (f g : q_F) : Option (Int × q_F × q_F) :=
  q_let (v2 + 1) fun z1 =>
  c56 (v1) (z1) f g
def p_Mod_reckonAll_121  (c7 : Int → q_F → q_F → Option (Int × q_F × q_F)) (c56 : Int → Int → q_F → q_F → Option (Int × q_F × q_F)) (v1 : Int) (v2 : Int) (f g : q_F) : Option (Int × q_F × q_F) :=
  if 0 ≤ v2 ∧ v2 < 26 then
    q_let (ma_up f 91 (Int.toNat v2) (q_nz (f 60 20))) fun f2 =>
    p_Mod_reckonAll_131  c7 c56 (v1) (v2) f2 g
  else none
def p_Mod_reckonAll_56  (c7 : Int → q_F → q_F → Option (Int × q_F × q_F)) : Nat → Int → Int → q_F → q_F → Option (Int × q_F × q_F)
  | 0, _, _, _, _ => none
  | n + 1, v1, v2, f, g =>
    if q_sw 26 ≤ q_sw v2 then
      q_let (v1 + 1) fun z2 =>
      c7 (z2) f g
    else
      if 0 ≤ v2 ∧ v2 < 26 then
        if q_sw (f 90 (Int.toNat v2)) = 0 then
          p_Mod_reckonAll_131  c7 (p_Mod_reckonAll_56  c7 n) (v1) (v2) f g
        else
          if 0 ≤ v2 ∧ v2 < 26 then
            if q_sw (f 91 (Int.toNat v2)) = 0 then
              if 0 ≤ v2 ∧ v2 < 26 then
                if 0 ≤ q_sw (f 92 (Int.toNat v2)) then
                  p_Mod_reckonAll_131  c7 (p_Mod_reckonAll_56  c7 n) (v1) (v2) f g
                else
                  if 0 ≤ v2 ∧ v2 < 26 then
                    if 0 ≤ v2 ∧ v2 < 26 then
                      (p_Mod_reckon (f 93 (Int.toNat v2)) (f 94 (Int.toNat v2)) f g).bind fun x11 =>
                      if q_sw (x11.2.1 60 20) = 0 then
                        p_Mod_reckonAll_121  c7 (p_Mod_reckonAll_56  c7 n) (v1) (v2) x11.2.1 x11.2.2
                      else
                        if 0 ≤ v2 ∧ v2 < 26 then
                          q_let (ma_up x11.2.1 95 (Int.toNat v2) x11.1) fun f15 =>
                          p_Mod_reckonAll_121  c7 (p_Mod_reckonAll_56  c7 n) (v1) (v2) f15 x11.2.2
                        else none
                    else none
                  else none
              else none
            else
              p_Mod_reckonAll_131  c7 (p_Mod_reckonAll_56  c7 n) (v1) (v2) f g
          else none
      else none
def p_Mod_reckonAll_47  (c7 : Int → q_F → q_F → Option (Int × q_F × q_F)) (c15 : Int → Int → q_F → q_F → Option (Int × q_F × q_F)) (v1 : Int) (v2 : Int) (f g : q_F) : Option (Int × q_F × q_F) :=
  q_let (v2 + 1) fun z1 =>
  c15 (v1) (z1) f g
def p_Mod_reckonAll_15  (c7 : Int → q_F → q_F → Option (Int × q_F × q_F)) : Nat → Int → Int → q_F → q_F → Option (Int × q_F × q_F)
  | 0, _, _, _, _ => none
  | n + 1, v1, v2, f, g =>
    if q_sw (f 60 22) ≤ q_sw v2 then
      p_Mod_reckonAll_56  c7 1000 (v1) (8) f g
    else
      if 0 ≤ v2 ∧ v2 < 8 then
        if 0 ≤ (f 75 (Int.toNat v2)) ∧ (f 75 (Int.toNat v2)) < 8 then
          if q_sw (f 77 (Int.toNat (f 75 (Int.toNat v2)))) = 0 then
            if 0 ≤ v2 ∧ v2 < 8 then
              (p_Mod_putSection (f 75 (Int.toNat v2)) f g).bind fun x6 =>
              p_Mod_reckonAll_47  c7 (p_Mod_reckonAll_15  c7 n) (v1) (v2) x6.1 x6.2
            else none
          else
            p_Mod_reckonAll_47  c7 (p_Mod_reckonAll_15  c7 n) (v1) (v2) f g
        else none
      else none
def p_Mod_reckonAll_7   : Nat → Int → q_F → q_F → Option (Int × q_F × q_F)
  | 0, _, _, _ => none
  | n + 1, v1, f, g =>
    if q_sw 28 ≤ q_sw v1 then
      if q_sw (f 60 21) = 0 then
        p_Mod_reckonAll_155   (1) f g
      else
        p_Mod_reckonAll_155   (0) f g
    else
      p_Mod_reckonAll_15  (p_Mod_reckonAll_7   n) 1000 (v1) (0) f g
def p_Mod_reckonAll   (f g : q_F) : Option (Int × q_F × q_F) :=
  q_let (ma_up f 60 21 0) fun f1 =>
  p_Mod_reckonAll_7   1000 (0) f1 g
theorem e_Mod_reckonAll_232 (t : q_V) (ok : ma_ok (q_G t))  {Q : Option Value → ma_H → Prop} {y : Int × q_F × q_F} (hQ : Q (some (ma_i y.1)) (q_h y.2.1 y.2.2)) (c199 : Int → Int → q_F → q_F → Option (Int × q_F × q_F)) (hc199 : ∀ (v1 : Int) (v2 : Int) (f g : q_F), c199 v1 v2 f g = some y → ma_Ev (q_G t) 3 77 0 0 m_Mod_reckonAll 199 [(0, q_a t (60)), (1, ma_i (v1)), (2, ma_i (v2))] [] (q_h f g) (ma_zr (q_G t) false Q)) (v2 : Int) (s0 : Int) (f g : q_F) (hp : p_Mod_reckonAll_232  c199 v2 s0 f g = some y) : ma_Ev (q_G t) 3 77 0 0 m_Mod_reckonAll 232 [(0, q_a t (60)), (2, ma_i (v2))] [ma_i (s0)] (q_h f g) (ma_zr (q_G t) false Q) := by
  unfold p_Mod_reckonAll_232 at hp
  refine ev_istore_n (pc := 232) d_Mod_reckonAll_232 rfl (by decide) [(1, _), (0, _), (2, _)] rfl ?_
  refine ev_iinc (pc := 233) d_Mod_reckonAll_233 (by decide) rfl [(2, _), (1, _), (0, _)] rfl ?_
  replace hp := q_let_of hp
  obtain ⟨z1, hz, hp⟩ := hp
  rw [← hz]
  clear hz
  refine ev_goto (pc := 236) (tgt := 199) d_Mod_reckonAll_236 (by decide) ?_
  refine ev_sub (ls2 := [(0, q_a t (60)), (1, ma_i (s0)), (2, ma_i (z1))]) [2, 1, 0] rfl ?_
  exact hc199 (s0) (z1) f g hp
theorem e_Mod_reckonAll_231 (t : q_V) (ok : ma_ok (q_G t))  {Q : Option Value → ma_H → Prop} {y : Int × q_F × q_F} (hQ : Q (some (ma_i y.1)) (q_h y.2.1 y.2.2)) (c199 : Int → Int → q_F → q_F → Option (Int × q_F × q_F)) (hc199 : ∀ (v1 : Int) (v2 : Int) (f g : q_F), c199 v1 v2 f g = some y → ma_Ev (q_G t) 3 77 0 0 m_Mod_reckonAll 199 [(0, q_a t (60)), (1, ma_i (v1)), (2, ma_i (v2))] [] (q_h f g) (ma_zr (q_G t) false Q)) (v2 : Int) (f g : q_F) (hp : p_Mod_reckonAll_231  c199 v2 f g = some y) : ma_Ev (q_G t) 3 77 0 0 m_Mod_reckonAll 231 [(0, q_a t (60)), (2, ma_i (v2))] [] (q_h f g) (ma_zr (q_G t) false Q) := by
  unfold p_Mod_reckonAll_231 at hp
  refine ev_iconst (pc := 231) d_Mod_reckonAll_231 ?_
  refine ev_sub (ls2 := [(0, q_a t (60)), (2, ma_i (v2))]) [0, 1] rfl ?_
  exact e_Mod_reckonAll_232 t ok  hQ c199 hc199 (v2) (0) f g hp
theorem e_Mod_reckonAll_227 (t : q_V) (ok : ma_ok (q_G t))  {Q : Option Value → ma_H → Prop} {y : Int × q_F × q_F} (hQ : Q (some (ma_i y.1)) (q_h y.2.1 y.2.2)) (c199 : Int → Int → q_F → q_F → Option (Int × q_F × q_F)) (hc199 : ∀ (v1 : Int) (v2 : Int) (f g : q_F), c199 v1 v2 f g = some y → ma_Ev (q_G t) 3 77 0 0 m_Mod_reckonAll 199 [(0, q_a t (60)), (1, ma_i (v1)), (2, ma_i (v2))] [] (q_h f g) (ma_zr (q_G t) false Q)) (v2 : Int) (f g : q_F) (hp : p_Mod_reckonAll_227  c199 v2 f g = some y) : ma_Ev (q_G t) 3 77 0 0 m_Mod_reckonAll 227 [(0, q_a t (60)), (2, ma_i (v2))] [] (q_h f g) (ma_zr (q_G t) false Q) := by
  unfold p_Mod_reckonAll_227 at hp
  refine ev_iconst (pc := 227) d_Mod_reckonAll_227 ?_
  refine ev_goto (pc := 228) (tgt := 232) d_Mod_reckonAll_228 (by decide) ?_
  refine ev_sub (ls2 := [(0, q_a t (60)), (2, ma_i (v2))]) [0, 1] rfl ?_
  exact e_Mod_reckonAll_232 t ok  hQ c199 hc199 (v2) (1) f g hp
theorem e_Mod_reckonAll_199 (t : q_V) (ok : ma_ok (q_G t))  {Q : Option Value → ma_H → Prop} {y : Int × q_F × q_F} (hQ : Q (some (ma_i y.1)) (q_h y.2.1 y.2.2))   : ∀ (n : Nat) (v1 : Int) (v2 : Int) (f g : q_F), p_Mod_reckonAll_199   n v1 v2 f g = some y → ma_Ev (q_G t) 3 77 0 0 m_Mod_reckonAll 199 [(0, q_a t (60)), (1, ma_i (v1)), (2, ma_i (v2))] [] (q_h f g) (ma_zr (q_G t) false Q) := by
  intro n
  induction n with
  | zero =>
    intro v1 v2 f g hp
    rw [p_Mod_reckonAll_199] at hp
    cases hp
  | succ n ih =>
    intro v1 v2 f g hp
    rw [p_Mod_reckonAll_199] at hp
    refine ev_iload_n (pc := 199) d_Mod_reckonAll_199 rfl rfl ?_
    refine ev_bipush (pc := 200) d_Mod_reckonAll_200 rfl ?_
    refine et_icmp_ge (pc := 202) (tgt := 239) d_Mod_reckonAll_202 (by decide) (fun hj1 => ?_) (fun hj1 => ?_)
    · rw [if_pos hj1] at hp
      refine ev_iload_n (pc := 239) d_Mod_reckonAll_239 rfl rfl ?_
      replace hp := q_if hp
      obtain ⟨hb2, hp⟩ := hp
      cases Option.some.inj hp
      exact et_zret (pc := 240) d_Mod_reckonAll_240 rfl hb2 hQ
    · rw [if_neg hj1] at hp
      refine ev_iload_n (pc := 205) d_Mod_reckonAll_205 rfl rfl ?_
      refine et_if_eq (pc := 206) (tgt := 231) d_Mod_reckonAll_206 (by decide) (fun hj3 => ?_) (fun hj3 => ?_)
      · rw [if_pos hj3] at hp
        refine ev_sub (ls2 := [(0, q_a t (60)), (2, ma_i (v2))]) [0, 2] rfl ?_
        exact e_Mod_reckonAll_231 t ok  hQ (p_Mod_reckonAll_199   n) ih (v2) f g hp
      · rw [if_neg hj3] at hp
        refine et_aload_n (pc := 209) d_Mod_reckonAll_209 rfl rfl ?_
        refine et_getr (pc := 210) ok (fl_Mod_103 t) rfl d_Mod_reckonAll_210 s_60 r_60_39 ?_
        refine ev_iload_n (pc := 213) d_Mod_reckonAll_213 rfl rfl ?_
        replace hp := q_if hp
        obtain ⟨hb4, hp⟩ := hp
        refine et_zald (pc := 214) d_Mod_reckonAll_214 s_90 hb4 (by decide) ?_
        refine et_if_eq (pc := 215) (tgt := 227) d_Mod_reckonAll_215 (by decide) (fun hj5 => ?_) (fun hj5 => ?_)
        · rw [if_pos hj5] at hp
          refine ev_sub (ls2 := [(0, q_a t (60)), (2, ma_i (v2))]) [0, 2] rfl ?_
          exact e_Mod_reckonAll_227 t ok  hQ (p_Mod_reckonAll_199   n) ih (v2) f g hp
        · rw [if_neg hj5] at hp
          refine et_aload_n (pc := 218) d_Mod_reckonAll_218 rfl rfl ?_
          refine et_getr (pc := 219) ok (fl_Mod_106 t) rfl d_Mod_reckonAll_219 s_60 r_60_40 ?_
          refine ev_iload_n (pc := 222) d_Mod_reckonAll_222 rfl rfl ?_
          replace hp := q_if hp
          obtain ⟨hb6, hp⟩ := hp
          refine et_zald (pc := 223) d_Mod_reckonAll_223 s_91 hb6 (by decide) ?_
          refine et_if_eq (pc := 224) (tgt := 231) d_Mod_reckonAll_224 (by decide) (fun hj7 => ?_) (fun hj7 => ?_)
          · rw [if_pos hj7] at hp
            refine ev_sub (ls2 := [(0, q_a t (60)), (2, ma_i (v2))]) [0, 2] rfl ?_
            exact e_Mod_reckonAll_231 t ok  hQ (p_Mod_reckonAll_199   n) ih (v2) f g hp
          · rw [if_neg hj7] at hp
            refine ev_sub (ls2 := [(0, q_a t (60)), (2, ma_i (v2))]) [0, 2] rfl ?_
            exact e_Mod_reckonAll_227 t ok  hQ (p_Mod_reckonAll_199   n) ih (v2) f g hp
theorem e_Mod_reckonAll_189 (t : q_V) (ok : ma_ok (q_G t))  {Q : Option Value → ma_H → Prop} {y : Int × q_F × q_F} (hQ : Q (some (ma_i y.1)) (q_h y.2.1 y.2.2)) (c158 : Int → Int → q_F → q_F → Option (Int × q_F × q_F)) (hc158 : ∀ (v1 : Int) (v2 : Int) (f g : q_F), c158 v1 v2 f g = some y → ma_Ev (q_G t) 3 77 0 0 m_Mod_reckonAll 158 [(0, q_a t (60)), (1, ma_i (v1)), (2, ma_i (v2))] [] (q_h f g) (ma_zr (q_G t) false Q)) (v2 : Int) (s0 : Int) (f g : q_F) (hp : p_Mod_reckonAll_189  c158 v2 s0 f g = some y) : ma_Ev (q_G t) 3 77 0 0 m_Mod_reckonAll 189 [(0, q_a t (60)), (2, ma_i (v2))] [ma_i (s0)] (q_h f g) (ma_zr (q_G t) false Q) := by
  unfold p_Mod_reckonAll_189 at hp
  refine ev_istore_n (pc := 189) d_Mod_reckonAll_189 rfl (by decide) [(1, _), (0, _), (2, _)] rfl ?_
  refine ev_iinc (pc := 190) d_Mod_reckonAll_190 (by decide) rfl [(2, _), (1, _), (0, _)] rfl ?_
  replace hp := q_let_of hp
  obtain ⟨z1, hz, hp⟩ := hp
  rw [← hz]
  clear hz
  refine ev_goto (pc := 193) (tgt := 158) d_Mod_reckonAll_193 (by decide) ?_
  refine ev_sub (ls2 := [(0, q_a t (60)), (1, ma_i (s0)), (2, ma_i (z1))]) [2, 1, 0] rfl ?_
  exact hc158 (s0) (z1) f g hp
theorem e_Mod_reckonAll_188 (t : q_V) (ok : ma_ok (q_G t))  {Q : Option Value → ma_H → Prop} {y : Int × q_F × q_F} (hQ : Q (some (ma_i y.1)) (q_h y.2.1 y.2.2)) (c158 : Int → Int → q_F → q_F → Option (Int × q_F × q_F)) (hc158 : ∀ (v1 : Int) (v2 : Int) (f g : q_F), c158 v1 v2 f g = some y → ma_Ev (q_G t) 3 77 0 0 m_Mod_reckonAll 158 [(0, q_a t (60)), (1, ma_i (v1)), (2, ma_i (v2))] [] (q_h f g) (ma_zr (q_G t) false Q)) (v2 : Int) (f g : q_F) (hp : p_Mod_reckonAll_188  c158 v2 f g = some y) : ma_Ev (q_G t) 3 77 0 0 m_Mod_reckonAll 188 [(0, q_a t (60)), (2, ma_i (v2))] [] (q_h f g) (ma_zr (q_G t) false Q) := by
  unfold p_Mod_reckonAll_188 at hp
  refine ev_iconst (pc := 188) d_Mod_reckonAll_188 ?_
  refine ev_sub (ls2 := [(0, q_a t (60)), (2, ma_i (v2))]) [0, 1] rfl ?_
  exact e_Mod_reckonAll_189 t ok  hQ c158 hc158 (v2) (0) f g hp
theorem e_Mod_reckonAll_158 (t : q_V) (ok : ma_ok (q_G t))  {Q : Option Value → ma_H → Prop} {y : Int × q_F × q_F} (hQ : Q (some (ma_i y.1)) (q_h y.2.1 y.2.2))   : ∀ (n : Nat) (v1 : Int) (v2 : Int) (f g : q_F), p_Mod_reckonAll_158   n v1 v2 f g = some y → ma_Ev (q_G t) 3 77 0 0 m_Mod_reckonAll 158 [(0, q_a t (60)), (1, ma_i (v1)), (2, ma_i (v2))] [] (q_h f g) (ma_zr (q_G t) false Q) := by
  intro n
  induction n with
  | zero =>
    intro v1 v2 f g hp
    rw [p_Mod_reckonAll_158] at hp
    cases hp
  | succ n ih =>
    intro v1 v2 f g hp
    rw [p_Mod_reckonAll_158] at hp
    refine ev_iload_n (pc := 158) d_Mod_reckonAll_158 rfl rfl ?_
    refine et_aload_n (pc := 159) d_Mod_reckonAll_159 rfl rfl ?_
    refine et_geti (pc := 160) ok (fl_Mod_196 t) rfl d_Mod_reckonAll_160 s_60 ?_
    refine et_icmp_ge (pc := 163) (tgt := 196) d_Mod_reckonAll_163 (by decide) (fun hj1 => ?_) (fun hj1 => ?_)
    · rw [if_pos hj1] at hp
      refine ev_bipush (pc := 196) d_Mod_reckonAll_196 rfl ?_
      refine ev_istore_n (pc := 198) d_Mod_reckonAll_198 rfl (by decide) [(2, _), (0, _), (1, _)] rfl ?_
      refine ev_sub (ls2 := [(0, q_a t (60)), (1, ma_i (v1)), (2, ma_i (8))]) [1, 2, 0] rfl ?_
      exact e_Mod_reckonAll_199 t ok  hQ   1000 (v1) (8) f g hp
    · rw [if_neg hj1] at hp
      refine ev_iload_n (pc := 166) d_Mod_reckonAll_166 rfl rfl ?_
      refine et_if_eq (pc := 167) (tgt := 188) d_Mod_reckonAll_167 (by decide) (fun hj2 => ?_) (fun hj2 => ?_)
      · rw [if_pos hj2] at hp
        refine ev_sub (ls2 := [(0, q_a t (60)), (2, ma_i (v2))]) [0, 2] rfl ?_
        exact e_Mod_reckonAll_188 t ok  hQ (p_Mod_reckonAll_158   n) ih (v2) f g hp
      · rw [if_neg hj2] at hp
        refine et_aload_n (pc := 170) d_Mod_reckonAll_170 rfl rfl ?_
        refine et_getr (pc := 171) ok (fl_Mod_64 t) rfl d_Mod_reckonAll_171 s_60 r_60_25 ?_
        refine et_aload_n (pc := 174) d_Mod_reckonAll_174 rfl rfl ?_
        refine et_getr (pc := 175) ok (fl_Mod_58 t) rfl d_Mod_reckonAll_175 s_60 r_60_23 ?_
        refine ev_iload_n (pc := 178) d_Mod_reckonAll_178 rfl rfl ?_
        replace hp := q_if hp
        obtain ⟨hb3, hp⟩ := hp
        refine et_iald (pc := 179) d_Mod_reckonAll_179 s_75 hb3 (by decide) ?_
        replace hp := q_if hp
        obtain ⟨hb4, hp⟩ := hp
        refine et_zald (pc := 180) d_Mod_reckonAll_180 s_77 hb4 (by decide) ?_
        refine et_if_eq (pc := 181) (tgt := 188) d_Mod_reckonAll_181 (by decide) (fun hj5 => ?_) (fun hj5 => ?_)
        · rw [if_pos hj5] at hp
          refine ev_sub (ls2 := [(0, q_a t (60)), (2, ma_i (v2))]) [0, 2] rfl ?_
          exact e_Mod_reckonAll_188 t ok  hQ (p_Mod_reckonAll_158   n) ih (v2) f g hp
        · rw [if_neg hj5] at hp
          refine ev_iconst (pc := 184) d_Mod_reckonAll_184 ?_
          refine ev_goto (pc := 185) (tgt := 189) d_Mod_reckonAll_185 (by decide) ?_
          refine ev_sub (ls2 := [(0, q_a t (60)), (2, ma_i (v2))]) [0, 2] rfl ?_
          exact e_Mod_reckonAll_189 t ok  hQ (p_Mod_reckonAll_158   n) ih (v2) (1) f g hp
theorem e_Mod_reckonAll_155 (t : q_V) (ok : ma_ok (q_G t))  {Q : Option Value → ma_H → Prop} {y : Int × q_F × q_F} (hQ : Q (some (ma_i y.1)) (q_h y.2.1 y.2.2))   (s0 : Int) (f g : q_F) (hp : p_Mod_reckonAll_155   s0 f g = some y) : ma_Ev (q_G t) 3 77 0 0 m_Mod_reckonAll 155 [(0, q_a t (60))] [ma_i (s0)] (q_h f g) (ma_zr (q_G t) false Q) := by
  unfold p_Mod_reckonAll_155 at hp
  refine ev_istore_n (pc := 155) d_Mod_reckonAll_155 rfl (by decide) [(1, _), (0, _)] rfl ?_
  refine ev_iconst (pc := 156) d_Mod_reckonAll_156 ?_
  refine ev_istore_n (pc := 157) d_Mod_reckonAll_157 rfl (by decide) [(2, _), (1, _), (0, _)] rfl ?_
  refine ev_sub (ls2 := [(0, q_a t (60)), (1, ma_i (s0)), (2, ma_i (0))]) [2, 1, 0] rfl ?_
  exact e_Mod_reckonAll_158 t ok  hQ   1000 (s0) (0) f g hp
theorem e_Mod_reckonAll_131 (t : q_V) (ok : ma_ok (q_G t))  {Q : Option Value → ma_H → Prop} {y : Int × q_F × q_F} (hQ : Q (some (ma_i y.1)) (q_h y.2.1 y.2.2)) (c7 : Int → q_F → q_F → Option (Int × q_F × q_F)) (c56 : Int → Int → q_F → q_F → Option (Int × q_F × q_F)) (hc7 : ∀ (v1 : Int) (f g : q_F), c7 v1 f g = some y → ma_Ev (q_G t) 3 77 0 0 m_Mod_reckonAll 7 [(0, q_a t (60)), (1, ma_i (v1))] [] (q_h f g) (ma_zr (q_G t) false Q)) (hc56 : ∀ (v1 : Int) (v2 : Int) (f g : q_F), c56 v1 v2 f g = some y → ma_Ev (q_G t) 3 77 0 0 m_Mod_reckonAll 56 [(0, q_a t (60)), (1, ma_i (v1)), (2, ma_i (v2))] [] (q_h f g) (ma_zr (q_G t) false Q)) (v1 : Int) (v2 : Int) (f g : q_F) (hp : p_Mod_reckonAll_131  c7 c56 v1 v2 f g = some y) : ma_Ev (q_G t) 3 77 0 0 m_Mod_reckonAll 131 [(0, q_a t (60)), (1, ma_i (v1)), (2, ma_i (v2))] [] (q_h f g) (ma_zr (q_G t) false Q) := by
  unfold p_Mod_reckonAll_131 at hp
  refine ev_iinc (pc := 131) d_Mod_reckonAll_131 (by decide) rfl [(2, _), (0, _), (1, _)] rfl ?_
  replace hp := q_let_of hp
  obtain ⟨z1, hz, hp⟩ := hp
  rw [← hz]
  clear hz
  refine ev_goto (pc := 134) (tgt := 56) d_Mod_reckonAll_134 (by decide) ?_
  refine ev_sub (ls2 := [(0, q_a t (60)), (1, ma_i (v1)), (2, ma_i (z1))]) [1, 2, 0] rfl ?_
  exact hc56 (v1) (z1) f g hp
theorem e_Mod_reckonAll_121 (t : q_V) (ok : ma_ok (q_G t))  {Q : Option Value → ma_H → Prop} {y : Int × q_F × q_F} (hQ : Q (some (ma_i y.1)) (q_h y.2.1 y.2.2)) (c7 : Int → q_F → q_F → Option (Int × q_F × q_F)) (c56 : Int → Int → q_F → q_F → Option (Int × q_F × q_F)) (hc7 : ∀ (v1 : Int) (f g : q_F), c7 v1 f g = some y → ma_Ev (q_G t) 3 77 0 0 m_Mod_reckonAll 7 [(0, q_a t (60)), (1, ma_i (v1))] [] (q_h f g) (ma_zr (q_G t) false Q)) (hc56 : ∀ (v1 : Int) (v2 : Int) (f g : q_F), c56 v1 v2 f g = some y → ma_Ev (q_G t) 3 77 0 0 m_Mod_reckonAll 56 [(0, q_a t (60)), (1, ma_i (v1)), (2, ma_i (v2))] [] (q_h f g) (ma_zr (q_G t) false Q)) (v1 : Int) (v2 : Int) (f g : q_F) (hp : p_Mod_reckonAll_121  c7 c56 v1 v2 f g = some y) : ma_Ev (q_G t) 3 77 0 0 m_Mod_reckonAll 121 [(0, q_a t (60)), (1, ma_i (v1)), (2, ma_i (v2))] [] (q_h f g) (ma_zr (q_G t) false Q) := by
  unfold p_Mod_reckonAll_121 at hp
  refine et_aload_n (pc := 121) d_Mod_reckonAll_121 rfl rfl ?_
  refine et_getr (pc := 122) ok (fl_Mod_106 t) rfl d_Mod_reckonAll_122 s_60 r_60_40 ?_
  refine ev_iload_n (pc := 125) d_Mod_reckonAll_125 rfl rfl ?_
  refine et_aload_n (pc := 126) d_Mod_reckonAll_126 rfl rfl ?_
  refine et_geti (pc := 127) ok (fl_Mod_217 t) rfl d_Mod_reckonAll_127 s_60 ?_
  replace hp := q_if hp
  obtain ⟨hb1, hp⟩ := hp
  refine et_zast (pc := 130) d_Mod_reckonAll_130 s_91 hb1 (by decide) ?_
  replace hp := q_let_of hp
  obtain ⟨f2, hz, hp⟩ := hp
  rw [← hz]
  clear hz
  refine ev_sub (ls2 := [(0, q_a t (60)), (1, ma_i (v1)), (2, ma_i (v2))]) [0, 1, 2] rfl ?_
  exact e_Mod_reckonAll_131 t ok  hQ c7 c56 hc7 hc56 (v1) (v2) f2 g hp
theorem e_Mod_reckonAll_56 (t : q_V) (ok : ma_ok (q_G t))  {Q : Option Value → ma_H → Prop} {y : Int × q_F × q_F} (hQ : Q (some (ma_i y.1)) (q_h y.2.1 y.2.2)) (c7 : Int → q_F → q_F → Option (Int × q_F × q_F)) (hc7 : ∀ (v1 : Int) (f g : q_F), c7 v1 f g = some y → ma_Ev (q_G t) 3 77 0 0 m_Mod_reckonAll 7 [(0, q_a t (60)), (1, ma_i (v1))] [] (q_h f g) (ma_zr (q_G t) false Q)) : ∀ (n : Nat) (v1 : Int) (v2 : Int) (f g : q_F), p_Mod_reckonAll_56  c7 n v1 v2 f g = some y → ma_Ev (q_G t) 3 77 0 0 m_Mod_reckonAll 56 [(0, q_a t (60)), (1, ma_i (v1)), (2, ma_i (v2))] [] (q_h f g) (ma_zr (q_G t) false Q) := by
  intro n
  induction n with
  | zero =>
    intro v1 v2 f g hp
    rw [p_Mod_reckonAll_56] at hp
    cases hp
  | succ n ih =>
    intro v1 v2 f g hp
    rw [p_Mod_reckonAll_56] at hp
    refine ev_iload_n (pc := 56) d_Mod_reckonAll_56 rfl rfl ?_
    refine ev_bipush (pc := 57) d_Mod_reckonAll_57 rfl ?_
    refine et_icmp_ge (pc := 59) (tgt := 137) d_Mod_reckonAll_59 (by decide) (fun hj1 => ?_) (fun hj1 => ?_)
    · rw [if_pos hj1] at hp
      refine ev_iinc (pc := 137) d_Mod_reckonAll_137 (by decide) rfl [(1, _), (0, _), (2, _)] rfl ?_
      replace hp := q_let_of hp
      obtain ⟨z2, hz, hp⟩ := hp
      rw [← hz]
      clear hz
      refine ev_goto (pc := 140) (tgt := 7) d_Mod_reckonAll_140 (by decide) ?_
      refine ev_sub (ls2 := [(0, q_a t (60)), (1, ma_i (z2))]) [1, 0] rfl ?_
      exact hc7 (z2) f g hp
    · rw [if_neg hj1] at hp
      refine et_aload_n (pc := 62) d_Mod_reckonAll_62 rfl rfl ?_
      refine et_getr (pc := 63) ok (fl_Mod_103 t) rfl d_Mod_reckonAll_63 s_60 r_60_39 ?_
      refine ev_iload_n (pc := 66) d_Mod_reckonAll_66 rfl rfl ?_
      replace hp := q_if hp
      obtain ⟨hb3, hp⟩ := hp
      refine et_zald (pc := 67) d_Mod_reckonAll_67 s_90 hb3 (by decide) ?_
      refine et_if_eq (pc := 68) (tgt := 131) d_Mod_reckonAll_68 (by decide) (fun hj4 => ?_) (fun hj4 => ?_)
      · rw [if_pos hj4] at hp
        refine ev_sub (ls2 := [(0, q_a t (60)), (1, ma_i (v1)), (2, ma_i (v2))]) [0, 1, 2] rfl ?_
        exact e_Mod_reckonAll_131 t ok  hQ c7 (p_Mod_reckonAll_56  c7 n) hc7 ih (v1) (v2) f g hp
      · rw [if_neg hj4] at hp
        refine et_aload_n (pc := 71) d_Mod_reckonAll_71 rfl rfl ?_
        refine et_getr (pc := 72) ok (fl_Mod_106 t) rfl d_Mod_reckonAll_72 s_60 r_60_40 ?_
        refine ev_iload_n (pc := 75) d_Mod_reckonAll_75 rfl rfl ?_
        replace hp := q_if hp
        obtain ⟨hb5, hp⟩ := hp
        refine et_zald (pc := 76) d_Mod_reckonAll_76 s_91 hb5 (by decide) ?_
        refine et_if_ne (pc := 77) (tgt := 131) d_Mod_reckonAll_77 (by decide) (fun hj6 => ?_) (fun hj6 => ?_)
        · rw [if_neg hj6] at hp
          refine ev_sub (ls2 := [(0, q_a t (60)), (1, ma_i (v1)), (2, ma_i (v2))]) [0, 1, 2] rfl ?_
          exact e_Mod_reckonAll_131 t ok  hQ c7 (p_Mod_reckonAll_56  c7 n) hc7 ih (v1) (v2) f g hp
        · rw [if_pos hj6] at hp
          refine et_aload_n (pc := 80) d_Mod_reckonAll_80 rfl rfl ?_
          refine et_getr (pc := 81) ok (fl_Mod_109 t) rfl d_Mod_reckonAll_81 s_60 r_60_41 ?_
          refine ev_iload_n (pc := 84) d_Mod_reckonAll_84 rfl rfl ?_
          replace hp := q_if hp
          obtain ⟨hb7, hp⟩ := hp
          refine et_iald (pc := 85) d_Mod_reckonAll_85 s_92 hb7 (by decide) ?_
          refine et_if_ge (pc := 86) (tgt := 131) d_Mod_reckonAll_86 (by decide) (fun hj8 => ?_) (fun hj8 => ?_)
          · rw [if_pos hj8] at hp
            refine ev_sub (ls2 := [(0, q_a t (60)), (1, ma_i (v1)), (2, ma_i (v2))]) [0, 1, 2] rfl ?_
            exact e_Mod_reckonAll_131 t ok  hQ c7 (p_Mod_reckonAll_56  c7 n) hc7 ih (v1) (v2) f g hp
          · rw [if_neg hj8] at hp
            refine et_aload_n (pc := 89) d_Mod_reckonAll_89 rfl rfl ?_
            refine et_aload_n (pc := 90) d_Mod_reckonAll_90 rfl rfl ?_
            refine et_getr (pc := 91) ok (fl_Mod_112 t) rfl d_Mod_reckonAll_91 s_60 r_60_42 ?_
            refine ev_iload_n (pc := 94) d_Mod_reckonAll_94 rfl rfl ?_
            replace hp := q_if hp
            obtain ⟨hb9, hp⟩ := hp
            refine et_iald (pc := 95) d_Mod_reckonAll_95 s_93 hb9 (by decide) ?_
            refine et_aload_n (pc := 96) d_Mod_reckonAll_96 rfl rfl ?_
            refine et_getr (pc := 97) ok (fl_Mod_115 t) rfl d_Mod_reckonAll_97 s_60 r_60_43 ?_
            refine ev_iload_n (pc := 100) d_Mod_reckonAll_100 rfl rfl ?_
            replace hp := q_if hp
            obtain ⟨hb10, hp⟩ := hp
            refine et_iald (pc := 101) d_Mod_reckonAll_101 s_94 hb10 (by decide) ?_
            replace hp := q_bind hp
            obtain ⟨x11, hm12, hp⟩ := hp
            refine et_callVl (pc := 102) (f1 := x11.2.1) (g1 := x11.2.2) ok [ma_i (f 93 (Int.toNat v2)), ma_i (f 94 (Int.toNat v2))] [] (cf_Mod_238 t) d_Mod_reckonAll_102 s_60 k_12 rfl (t_Mod_reckon t ok (f 93 (Int.toNat v2)) (f 94 (Int.toNat v2)) f g hm12 ⟨rfl, rfl⟩) rfl rfl (by decide) (by decide) (q_ble rfl) ?_
            refine ev_lstore_n (pc := 105) d_Mod_reckonAll_105 rfl (by decide) [(3, _), (0, _), (1, _), (2, _)] rfl ?_
            refine et_aload_n (pc := 106) d_Mod_reckonAll_106 rfl rfl ?_
            refine et_geti (pc := 107) ok (fl_Mod_217 t) rfl d_Mod_reckonAll_107 s_60 ?_
            refine et_if_eq (pc := 110) (tgt := 121) d_Mod_reckonAll_110 (by decide) (fun hj13 => ?_) (fun hj13 => ?_)
            · rw [if_pos hj13] at hp
              refine ev_sub (ls2 := [(0, q_a t (60)), (1, ma_i (v1)), (2, ma_i (v2))]) [1, 2, 3] rfl ?_
              exact e_Mod_reckonAll_121 t ok  hQ c7 (p_Mod_reckonAll_56  c7 n) hc7 ih (v1) (v2) x11.2.1 x11.2.2 hp
            · rw [if_neg hj13] at hp
              refine et_aload_n (pc := 113) d_Mod_reckonAll_113 rfl rfl ?_
              refine et_getr (pc := 114) ok (fl_Mod_118 t) rfl d_Mod_reckonAll_114 s_60 r_60_44 ?_
              refine ev_iload_n (pc := 117) d_Mod_reckonAll_117 rfl rfl ?_
              refine ev_lload_n (pc := 118) d_Mod_reckonAll_118 rfl rfl ?_
              refine ev_l2i (pc := 119) d_Mod_reckonAll_119 ?_
              replace hp := q_if hp
              obtain ⟨hb14, hp⟩ := hp
              refine et_iast (pc := 120) d_Mod_reckonAll_120 s_95 hb14 (by decide) ?_
              replace hp := q_let_of hp
              obtain ⟨f15, hz, hp⟩ := hp
              rw [← hz]
              clear hz
              refine ev_sub (ls2 := [(0, q_a t (60)), (1, ma_i (v1)), (2, ma_i (v2))]) [1, 2, 3] rfl ?_
              exact e_Mod_reckonAll_121 t ok  hQ c7 (p_Mod_reckonAll_56  c7 n) hc7 ih (v1) (v2) f15 x11.2.2 hp
theorem e_Mod_reckonAll_47 (t : q_V) (ok : ma_ok (q_G t))  {Q : Option Value → ma_H → Prop} {y : Int × q_F × q_F} (hQ : Q (some (ma_i y.1)) (q_h y.2.1 y.2.2)) (c7 : Int → q_F → q_F → Option (Int × q_F × q_F)) (c15 : Int → Int → q_F → q_F → Option (Int × q_F × q_F)) (hc7 : ∀ (v1 : Int) (f g : q_F), c7 v1 f g = some y → ma_Ev (q_G t) 3 77 0 0 m_Mod_reckonAll 7 [(0, q_a t (60)), (1, ma_i (v1))] [] (q_h f g) (ma_zr (q_G t) false Q)) (hc15 : ∀ (v1 : Int) (v2 : Int) (f g : q_F), c15 v1 v2 f g = some y → ma_Ev (q_G t) 3 77 0 0 m_Mod_reckonAll 15 [(0, q_a t (60)), (1, ma_i (v1)), (2, ma_i (v2))] [] (q_h f g) (ma_zr (q_G t) false Q)) (v1 : Int) (v2 : Int) (f g : q_F) (hp : p_Mod_reckonAll_47  c7 c15 v1 v2 f g = some y) : ma_Ev (q_G t) 3 77 0 0 m_Mod_reckonAll 47 [(0, q_a t (60)), (1, ma_i (v1)), (2, ma_i (v2))] [] (q_h f g) (ma_zr (q_G t) false Q) := by
  unfold p_Mod_reckonAll_47 at hp
  refine ev_iinc (pc := 47) d_Mod_reckonAll_47 (by decide) rfl [(2, _), (0, _), (1, _)] rfl ?_
  replace hp := q_let_of hp
  obtain ⟨z1, hz, hp⟩ := hp
  rw [← hz]
  clear hz
  refine ev_goto (pc := 50) (tgt := 15) d_Mod_reckonAll_50 (by decide) ?_
  refine ev_sub (ls2 := [(0, q_a t (60)), (1, ma_i (v1)), (2, ma_i (z1))]) [1, 2, 0] rfl ?_
  exact hc15 (v1) (z1) f g hp
theorem e_Mod_reckonAll_15 (t : q_V) (ok : ma_ok (q_G t))  {Q : Option Value → ma_H → Prop} {y : Int × q_F × q_F} (hQ : Q (some (ma_i y.1)) (q_h y.2.1 y.2.2)) (c7 : Int → q_F → q_F → Option (Int × q_F × q_F)) (hc7 : ∀ (v1 : Int) (f g : q_F), c7 v1 f g = some y → ma_Ev (q_G t) 3 77 0 0 m_Mod_reckonAll 7 [(0, q_a t (60)), (1, ma_i (v1))] [] (q_h f g) (ma_zr (q_G t) false Q)) : ∀ (n : Nat) (v1 : Int) (v2 : Int) (f g : q_F), p_Mod_reckonAll_15  c7 n v1 v2 f g = some y → ma_Ev (q_G t) 3 77 0 0 m_Mod_reckonAll 15 [(0, q_a t (60)), (1, ma_i (v1)), (2, ma_i (v2))] [] (q_h f g) (ma_zr (q_G t) false Q) := by
  intro n
  induction n with
  | zero =>
    intro v1 v2 f g hp
    rw [p_Mod_reckonAll_15] at hp
    cases hp
  | succ n ih =>
    intro v1 v2 f g hp
    rw [p_Mod_reckonAll_15] at hp
    refine ev_iload_n (pc := 15) d_Mod_reckonAll_15 rfl rfl ?_
    refine et_aload_n (pc := 16) d_Mod_reckonAll_16 rfl rfl ?_
    refine et_geti (pc := 17) ok (fl_Mod_196 t) rfl d_Mod_reckonAll_17 s_60 ?_
    refine et_icmp_ge (pc := 20) (tgt := 53) d_Mod_reckonAll_20 (by decide) (fun hj1 => ?_) (fun hj1 => ?_)
    · rw [if_pos hj1] at hp
      refine ev_bipush (pc := 53) d_Mod_reckonAll_53 rfl ?_
      refine ev_istore_n (pc := 55) d_Mod_reckonAll_55 rfl (by decide) [(2, _), (0, _), (1, _)] rfl ?_
      refine ev_sub (ls2 := [(0, q_a t (60)), (1, ma_i (v1)), (2, ma_i (8))]) [1, 2, 0] rfl ?_
      exact e_Mod_reckonAll_56 t ok  hQ c7 hc7 1000 (v1) (8) f g hp
    · rw [if_neg hj1] at hp
      refine et_aload_n (pc := 23) d_Mod_reckonAll_23 rfl rfl ?_
      refine et_getr (pc := 24) ok (fl_Mod_64 t) rfl d_Mod_reckonAll_24 s_60 r_60_25 ?_
      refine et_aload_n (pc := 27) d_Mod_reckonAll_27 rfl rfl ?_
      refine et_getr (pc := 28) ok (fl_Mod_58 t) rfl d_Mod_reckonAll_28 s_60 r_60_23 ?_
      refine ev_iload_n (pc := 31) d_Mod_reckonAll_31 rfl rfl ?_
      replace hp := q_if hp
      obtain ⟨hb2, hp⟩ := hp
      refine et_iald (pc := 32) d_Mod_reckonAll_32 s_75 hb2 (by decide) ?_
      replace hp := q_if hp
      obtain ⟨hb3, hp⟩ := hp
      refine et_zald (pc := 33) d_Mod_reckonAll_33 s_77 hb3 (by decide) ?_
      refine et_if_ne (pc := 34) (tgt := 47) d_Mod_reckonAll_34 (by decide) (fun hj4 => ?_) (fun hj4 => ?_)
      · rw [if_neg hj4] at hp
        refine ev_sub (ls2 := [(0, q_a t (60)), (1, ma_i (v1)), (2, ma_i (v2))]) [0, 1, 2] rfl ?_
        exact e_Mod_reckonAll_47 t ok  hQ c7 (p_Mod_reckonAll_15  c7 n) hc7 ih (v1) (v2) f g hp
      · rw [if_pos hj4] at hp
        refine et_aload_n (pc := 37) d_Mod_reckonAll_37 rfl rfl ?_
        refine et_aload_n (pc := 38) d_Mod_reckonAll_38 rfl rfl ?_
        refine et_getr (pc := 39) ok (fl_Mod_58 t) rfl d_Mod_reckonAll_39 s_60 r_60_23 ?_
        refine ev_iload_n (pc := 42) d_Mod_reckonAll_42 rfl rfl ?_
        replace hp := q_if hp
        obtain ⟨hb5, hp⟩ := hp
        refine et_iald (pc := 43) d_Mod_reckonAll_43 s_75 hb5 (by decide) ?_
        replace hp := q_bind hp
        obtain ⟨x6, hm7, hp⟩ := hp
        refine et_callVv (pc := 44) (f1 := x6.1) (g1 := x6.2) ok [ma_i (f 75 (Int.toNat v2))] [] (cf_Mod_247 t) d_Mod_reckonAll_44 s_60 k_12 rfl (t_Mod_putSection t ok (f 75 (Int.toNat v2)) f g hm7 ⟨rfl, rfl⟩) rfl rfl (by decide) (by decide) (q_ble rfl) ?_
        refine ev_sub (ls2 := [(0, q_a t (60)), (1, ma_i (v1)), (2, ma_i (v2))]) [0, 1, 2] rfl ?_
        exact e_Mod_reckonAll_47 t ok  hQ c7 (p_Mod_reckonAll_15  c7 n) hc7 ih (v1) (v2) x6.1 x6.2 hp
theorem e_Mod_reckonAll_7 (t : q_V) (ok : ma_ok (q_G t))  {Q : Option Value → ma_H → Prop} {y : Int × q_F × q_F} (hQ : Q (some (ma_i y.1)) (q_h y.2.1 y.2.2))   : ∀ (n : Nat) (v1 : Int) (f g : q_F), p_Mod_reckonAll_7   n v1 f g = some y → ma_Ev (q_G t) 3 77 0 0 m_Mod_reckonAll 7 [(0, q_a t (60)), (1, ma_i (v1))] [] (q_h f g) (ma_zr (q_G t) false Q) := by
  intro n
  induction n with
  | zero =>
    intro v1 f g hp
    rw [p_Mod_reckonAll_7] at hp
    cases hp
  | succ n ih =>
    intro v1 f g hp
    rw [p_Mod_reckonAll_7] at hp
    refine ev_iload_n (pc := 7) d_Mod_reckonAll_7 rfl rfl ?_
    refine ev_bipush (pc := 8) d_Mod_reckonAll_8 rfl ?_
    refine et_icmp_ge (pc := 10) (tgt := 143) d_Mod_reckonAll_10 (by decide) (fun hj1 => ?_) (fun hj1 => ?_)
    · rw [if_pos hj1] at hp
      refine et_aload_n (pc := 143) d_Mod_reckonAll_143 rfl rfl ?_
      refine et_geti (pc := 144) ok (fl_Mod_224 t) rfl d_Mod_reckonAll_144 s_60 ?_
      refine et_if_ne (pc := 147) (tgt := 154) d_Mod_reckonAll_147 (by decide) (fun hj2 => ?_) (fun hj2 => ?_)
      · rw [if_neg hj2] at hp
        refine ev_iconst (pc := 154) d_Mod_reckonAll_154 ?_
        refine ev_sub (ls2 := [(0, q_a t (60))]) [0] rfl ?_
        exact e_Mod_reckonAll_155 t ok  hQ   (0) f g hp
      · rw [if_pos hj2] at hp
        refine ev_iconst (pc := 150) d_Mod_reckonAll_150 ?_
        refine ev_goto (pc := 151) (tgt := 155) d_Mod_reckonAll_151 (by decide) ?_
        refine ev_sub (ls2 := [(0, q_a t (60))]) [0] rfl ?_
        exact e_Mod_reckonAll_155 t ok  hQ   (1) f g hp
    · rw [if_neg hj1] at hp
      refine ev_iconst (pc := 13) d_Mod_reckonAll_13 ?_
      refine ev_istore_n (pc := 14) d_Mod_reckonAll_14 rfl (by decide) [(2, _), (0, _), (1, _)] rfl ?_
      refine ev_sub (ls2 := [(0, q_a t (60)), (1, ma_i (v1)), (2, ma_i (0))]) [1, 2, 0] rfl ?_
      exact e_Mod_reckonAll_15 t ok  hQ (p_Mod_reckonAll_7   n) ih 1000 (v1) (0) f g hp
theorem t_Mod_reckonAll (t : q_V) (ok : ma_ok (q_G t))  {Q : Option Value → ma_H → Prop} {y : Int × q_F × q_F}  (f g : q_F) (hp : p_Mod_reckonAll   f g = some y) (hQ : Q (some (ma_i y.1)) (q_h y.2.1 y.2.2)) : ma_Met (q_G t) false 3 77 0 0 m_Mod_reckonAll [q_a t (60)] (q_h f g) Q := by
  refine ma_met (by decide +kernel) (q_ble rfl) rfl ?_
  change ma_Ev (q_G t) 3 77 0 0 m_Mod_reckonAll 0 [(0, q_a t (60))] [] (q_h f g) (ma_zr (q_G t) false Q)
  unfold p_Mod_reckonAll at hp
  refine et_aload_n (pc := 0) d_Mod_reckonAll_0 rfl rfl ?_
  refine ev_iconst (pc := 1) d_Mod_reckonAll_1 ?_
  refine et_putz (pc := 2) ok (fl_Mod_224 t) (by decide) d_Mod_reckonAll_2 s_60 ?_
  replace hp := q_let_of hp
  obtain ⟨f1, hz, hp⟩ := hp
  rw [← hz]
  clear hz
  refine ev_iconst (pc := 5) d_Mod_reckonAll_5 ?_
  refine ev_istore_n (pc := 6) d_Mod_reckonAll_6 rfl (by decide) [(1, _), (0, _)] rfl ?_
  refine ev_sub (ls2 := [(0, q_a t (60)), (1, ma_i (0))]) [1, 0] rfl ?_
  exact e_Mod_reckonAll_7 t ok  hQ   1000 (0) f1 g hp
