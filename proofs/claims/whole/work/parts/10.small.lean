/-! ===== printed by walk.py: small methods, memory, plan ===== -/
theorem d_Desk_byteOf_0 : decode (m_c m_Desk_byteOf) 0 = .ok (.lload_n 0, 1) := by decide +kernel
theorem d_Desk_byteOf_1 : decode (m_c m_Desk_byteOf) 1 = .ok (.bipush 8, 2) := by decide +kernel
theorem d_Desk_byteOf_3 : decode (m_c m_Desk_byteOf) 3 = .ok (.iload_n 2, 1) := by decide +kernel
theorem d_Desk_byteOf_4 : decode (m_c m_Desk_byteOf) 4 = .ok (.imul, 1) := by decide +kernel
theorem d_Desk_byteOf_5 : decode (m_c m_Desk_byteOf) 5 = .ok (.lushr, 1) := by decide +kernel
theorem d_Desk_byteOf_6 : decode (m_c m_Desk_byteOf) 6 = .ok (.l2i, 1) := by decide +kernel
theorem d_Desk_byteOf_7 : decode (m_c m_Desk_byteOf) 7 = .ok (.sipush 255, 3) := by decide +kernel
theorem d_Desk_byteOf_10 : decode (m_c m_Desk_byteOf) 10 = .ok (.iand, 1) := by decide +kernel
theorem d_Desk_byteOf_11 : decode (m_c m_Desk_byteOf) 11 = .ok (.ireturn, 1) := by decide +kernel
def p_Desk_byteOf  (v0 : Int) (v2 : Int) (f g : q_F) : Option (Int × q_F × q_F) :=
  some (q_and (q_lushr v0 (8 * v2)) 255, f, g)
theorem t_Desk_byteOf (t : q_V) (ok : ma_ok (q_G t))  {Q : Option Value → ma_H → Prop} {y : Int × q_F × q_F} (v0 : Int) (v2 : Int) (f g : q_F) (hp : p_Desk_byteOf  v0 v2 f g = some y) (hQ : Q (some (ma_i y.1)) (q_h y.2.1 y.2.2)) : ma_Met (q_G t) false 0 0 0 0 m_Desk_byteOf [ma_j (v0), ma_i (v2)] (q_h f g) Q := by
  refine ma_met (by decide +kernel) (q_ble rfl) rfl ?_
  change ma_Ev (q_G t) 0 0 0 0 m_Desk_byteOf 0 [(0, ma_j (v0)), (2, ma_i (v2))] [] (q_h f g) (ma_zr (q_G t) false Q)
  unfold p_Desk_byteOf at hp
  refine ev_lload_n (pc := 0) d_Desk_byteOf_0 rfl rfl ?_
  refine ev_bipush (pc := 1) d_Desk_byteOf_1 rfl ?_
  refine ev_iload_n (pc := 3) d_Desk_byteOf_3 rfl rfl ?_
  refine ev_imul (pc := 4) d_Desk_byteOf_4 ?_
  refine et_lushr (pc := 5) d_Desk_byteOf_5 ?_
  refine ev_l2i (pc := 6) d_Desk_byteOf_6 ?_
  refine ev_sipush (pc := 7) d_Desk_byteOf_7 rfl ?_
  refine et_iand (pc := 10) d_Desk_byteOf_10 ?_
  cases Option.some.inj hp
  exact et_iret (pc := 11) d_Desk_byteOf_11 rfl hQ
theorem d_Desk_isAlignment_0 : decode (m_c m_Desk_isAlignment) 0 = .ok (.iload_n 0, 1) := by decide +kernel
theorem d_Desk_isAlignment_1 : decode (m_c m_Desk_isAlignment) 1 = .ok (.iconst 1, 1) := by decide +kernel
theorem d_Desk_isAlignment_2 : decode (m_c m_Desk_isAlignment) 2 = .ok (.if_icmp .lt 20, 3) := by decide +kernel
theorem d_Desk_isAlignment_5 : decode (m_c m_Desk_isAlignment) 5 = .ok (.iload_n 0, 1) := by decide +kernel
theorem d_Desk_isAlignment_6 : decode (m_c m_Desk_isAlignment) 6 = .ok (.iload_n 1, 1) := by decide +kernel
theorem d_Desk_isAlignment_7 : decode (m_c m_Desk_isAlignment) 7 = .ok (.if_icmp .gt 15, 3) := by decide +kernel
theorem d_Desk_isAlignment_10 : decode (m_c m_Desk_isAlignment) 10 = .ok (.iload_n 0, 1) := by decide +kernel
theorem d_Desk_isAlignment_11 : decode (m_c m_Desk_isAlignment) 11 = .ok (.iload_n 0, 1) := by decide +kernel
theorem d_Desk_isAlignment_12 : decode (m_c m_Desk_isAlignment) 12 = .ok (.iconst 1, 1) := by decide +kernel
theorem d_Desk_isAlignment_13 : decode (m_c m_Desk_isAlignment) 13 = .ok (.isub, 1) := by decide +kernel
theorem d_Desk_isAlignment_14 : decode (m_c m_Desk_isAlignment) 14 = .ok (.iand, 1) := by decide +kernel
theorem d_Desk_isAlignment_15 : decode (m_c m_Desk_isAlignment) 15 = .ok (.ifCond .ne 7, 3) := by decide +kernel
theorem d_Desk_isAlignment_18 : decode (m_c m_Desk_isAlignment) 18 = .ok (.iconst 1, 1) := by decide +kernel
theorem d_Desk_isAlignment_19 : decode (m_c m_Desk_isAlignment) 19 = .ok (.goto 4, 3) := by decide +kernel
theorem d_Desk_isAlignment_22 : decode (m_c m_Desk_isAlignment) 22 = .ok (.iconst 0, 1) := by decide +kernel
theorem d_Desk_isAlignment_23 : decode (m_c m_Desk_isAlignment) 23 = .ok (.ireturn, 1) := by decide +kernel
def p_Desk_isAlignment_23   (s0 : Int) (f g : q_F) : Option (Int × q_F × q_F) :=
  if s0 = 0 ∨ s0 = 1 then
    some (s0, f, g)
  else none
def p_Desk_isAlignment_22    (f g : q_F) : Option (Int × q_F × q_F) :=
  p_Desk_isAlignment_23   (0) f g
def p_Desk_isAlignment  (v0 : Int) (v1 : Int) (f g : q_F) : Option (Int × q_F × q_F) :=
  if q_sw v0 < q_sw 1 then
    p_Desk_isAlignment_22    f g
  else
    if q_sw v1 < q_sw v0 then
      p_Desk_isAlignment_22    f g
    else
      if q_sw (q_and v0 (v0 - 1)) = 0 then
        p_Desk_isAlignment_23   (1) f g
      else
        p_Desk_isAlignment_22    f g
theorem e_Desk_isAlignment_23 (t : q_V) (ok : ma_ok (q_G t))  {Q : Option Value → ma_H → Prop} {y : Int × q_F × q_F} (hQ : Q (some (ma_i y.1)) (q_h y.2.1 y.2.2))   (s0 : Int) (f g : q_F) (hp : p_Desk_isAlignment_23   s0 f g = some y) : ma_Ev (q_G t) 0 0 0 0 m_Desk_isAlignment 23 [] [ma_i (s0)] (q_h f g) (ma_zr (q_G t) false Q) := by
  unfold p_Desk_isAlignment_23 at hp
  replace hp := q_if hp
  obtain ⟨hb1, hp⟩ := hp
  cases Option.some.inj hp
  exact et_zret (pc := 23) d_Desk_isAlignment_23 rfl hb1 hQ
theorem e_Desk_isAlignment_22 (t : q_V) (ok : ma_ok (q_G t))  {Q : Option Value → ma_H → Prop} {y : Int × q_F × q_F} (hQ : Q (some (ma_i y.1)) (q_h y.2.1 y.2.2))    (f g : q_F) (hp : p_Desk_isAlignment_22    f g = some y) : ma_Ev (q_G t) 0 0 0 0 m_Desk_isAlignment 22 [] [] (q_h f g) (ma_zr (q_G t) false Q) := by
  unfold p_Desk_isAlignment_22 at hp
  refine ev_iconst (pc := 22) d_Desk_isAlignment_22 ?_
  refine ev_sub (ls2 := []) [] rfl ?_
  exact e_Desk_isAlignment_23 t ok  hQ   (0) f g hp
theorem t_Desk_isAlignment (t : q_V) (ok : ma_ok (q_G t))  {Q : Option Value → ma_H → Prop} {y : Int × q_F × q_F} (v0 : Int) (v1 : Int) (f g : q_F) (hp : p_Desk_isAlignment  v0 v1 f g = some y) (hQ : Q (some (ma_i y.1)) (q_h y.2.1 y.2.2)) : ma_Met (q_G t) false 0 0 0 0 m_Desk_isAlignment [ma_i (v0), ma_i (v1)] (q_h f g) Q := by
  refine ma_met (by decide +kernel) (q_ble rfl) rfl ?_
  change ma_Ev (q_G t) 0 0 0 0 m_Desk_isAlignment 0 [(0, ma_i (v0)), (1, ma_i (v1))] [] (q_h f g) (ma_zr (q_G t) false Q)
  unfold p_Desk_isAlignment at hp
  refine ev_iload_n (pc := 0) d_Desk_isAlignment_0 rfl rfl ?_
  refine ev_iconst (pc := 1) d_Desk_isAlignment_1 ?_
  refine et_icmp_lt (pc := 2) (tgt := 22) d_Desk_isAlignment_2 (by decide) (fun hj1 => ?_) (fun hj1 => ?_)
  · rw [if_pos hj1] at hp
    refine ev_sub (ls2 := []) [] rfl ?_
    exact e_Desk_isAlignment_22 t ok  hQ    f g hp
  · rw [if_neg hj1] at hp
    refine ev_iload_n (pc := 5) d_Desk_isAlignment_5 rfl rfl ?_
    refine ev_iload_n (pc := 6) d_Desk_isAlignment_6 rfl rfl ?_
    refine et_icmp_gt (pc := 7) (tgt := 22) d_Desk_isAlignment_7 (by decide) (fun hj2 => ?_) (fun hj2 => ?_)
    · rw [if_pos hj2] at hp
      refine ev_sub (ls2 := []) [] rfl ?_
      exact e_Desk_isAlignment_22 t ok  hQ    f g hp
    · rw [if_neg hj2] at hp
      refine ev_iload_n (pc := 10) d_Desk_isAlignment_10 rfl rfl ?_
      refine ev_iload_n (pc := 11) d_Desk_isAlignment_11 rfl rfl ?_
      refine ev_iconst (pc := 12) d_Desk_isAlignment_12 ?_
      refine ev_isub (pc := 13) d_Desk_isAlignment_13 ?_
      refine et_iand (pc := 14) d_Desk_isAlignment_14 ?_
      refine et_if_ne (pc := 15) (tgt := 22) d_Desk_isAlignment_15 (by decide) (fun hj3 => ?_) (fun hj3 => ?_)
      · rw [if_neg hj3] at hp
        refine ev_sub (ls2 := []) [] rfl ?_
        exact e_Desk_isAlignment_22 t ok  hQ    f g hp
      · rw [if_pos hj3] at hp
        refine ev_iconst (pc := 18) d_Desk_isAlignment_18 ?_
        refine ev_goto (pc := 19) (tgt := 23) d_Desk_isAlignment_19 (by decide) ?_
        refine ev_sub (ls2 := []) [] rfl ?_
        exact e_Desk_isAlignment_23 t ok  hQ   (1) f g hp
theorem d_Desk_raise_0 : decode (m_c m_Desk_raise) 0 = .ok (.iload_n 0, 1) := by decide +kernel
theorem d_Desk_raise_1 : decode (m_c m_Desk_raise) 1 = .ok (.iload_n 1, 1) := by decide +kernel
theorem d_Desk_raise_2 : decode (m_c m_Desk_raise) 2 = .ok (.iadd, 1) := by decide +kernel
theorem d_Desk_raise_3 : decode (m_c m_Desk_raise) 3 = .ok (.iconst 1, 1) := by decide +kernel
theorem d_Desk_raise_4 : decode (m_c m_Desk_raise) 4 = .ok (.isub, 1) := by decide +kernel
theorem d_Desk_raise_5 : decode (m_c m_Desk_raise) 5 = .ok (.iload_n 1, 1) := by decide +kernel
theorem d_Desk_raise_6 : decode (m_c m_Desk_raise) 6 = .ok (.ineg, 1) := by decide +kernel
theorem d_Desk_raise_7 : decode (m_c m_Desk_raise) 7 = .ok (.iand, 1) := by decide +kernel
theorem d_Desk_raise_8 : decode (m_c m_Desk_raise) 8 = .ok (.ireturn, 1) := by decide +kernel
def p_Desk_raise  (v0 : Int) (v1 : Int) (f g : q_F) : Option (Int × q_F × q_F) :=
  some (q_and ((v0 + v1) - 1) (-v1), f, g)
theorem t_Desk_raise (t : q_V) (ok : ma_ok (q_G t))  {Q : Option Value → ma_H → Prop} {y : Int × q_F × q_F} (v0 : Int) (v1 : Int) (f g : q_F) (hp : p_Desk_raise  v0 v1 f g = some y) (hQ : Q (some (ma_i y.1)) (q_h y.2.1 y.2.2)) : ma_Met (q_G t) false 0 0 0 0 m_Desk_raise [ma_i (v0), ma_i (v1)] (q_h f g) Q := by
  refine ma_met (by decide +kernel) (q_ble rfl) rfl ?_
  change ma_Ev (q_G t) 0 0 0 0 m_Desk_raise 0 [(0, ma_i (v0)), (1, ma_i (v1))] [] (q_h f g) (ma_zr (q_G t) false Q)
  unfold p_Desk_raise at hp
  refine ev_iload_n (pc := 0) d_Desk_raise_0 rfl rfl ?_
  refine ev_iload_n (pc := 1) d_Desk_raise_1 rfl rfl ?_
  refine ev_iadd (pc := 2) d_Desk_raise_2 ?_
  refine ev_iconst (pc := 3) d_Desk_raise_3 ?_
  refine ev_isub (pc := 4) d_Desk_raise_4 ?_
  refine ev_iload_n (pc := 5) d_Desk_raise_5 rfl rfl ?_
  refine ev_ineg (pc := 6) d_Desk_raise_6 ?_
  refine et_iand (pc := 7) d_Desk_raise_7 ?_
  cases Option.some.inj hp
  exact et_iret (pc := 8) d_Desk_raise_8 rfl hQ
theorem d_Desk_allCanBeTyped_0 : decode (m_c m_Desk_allCanBeTyped) 0 = .ok (.iconst 0, 1) := by decide +kernel
theorem d_Desk_allCanBeTyped_1 : decode (m_c m_Desk_allCanBeTyped) 1 = .ok (.istore_n 3, 1) := by decide +kernel
theorem d_Desk_allCanBeTyped_2 : decode (m_c m_Desk_allCanBeTyped) 2 = .ok (.iload_n 3, 1) := by decide +kernel
theorem d_Desk_allCanBeTyped_3 : decode (m_c m_Desk_allCanBeTyped) 3 = .ok (.iload_n 2, 1) := by decide +kernel
theorem d_Desk_allCanBeTyped_4 : decode (m_c m_Desk_allCanBeTyped) 4 = .ok (.if_icmp .ge 32, 3) := by decide +kernel
theorem d_Desk_allCanBeTyped_7 : decode (m_c m_Desk_allCanBeTyped) 7 = .ok (.lload_n 0, 1) := by decide +kernel
theorem d_Desk_allCanBeTyped_8 : decode (m_c m_Desk_allCanBeTyped) 8 = .ok (.iload_n 3, 1) := by decide +kernel
theorem d_Desk_allCanBeTyped_9 : decode (m_c m_Desk_allCanBeTyped) 9 = .ok (.invokestatic 95, 3) := by decide +kernel
theorem d_Desk_allCanBeTyped_12 : decode (m_c m_Desk_allCanBeTyped) 12 = .ok (.istore 4, 2) := by decide +kernel
theorem d_Desk_allCanBeTyped_14 : decode (m_c m_Desk_allCanBeTyped) 14 = .ok (.iload 4, 2) := by decide +kernel
theorem d_Desk_allCanBeTyped_16 : decode (m_c m_Desk_allCanBeTyped) 16 = .ok (.bipush 33, 2) := by decide +kernel
theorem d_Desk_allCanBeTyped_18 : decode (m_c m_Desk_allCanBeTyped) 18 = .ok (.if_icmp .lt 10, 3) := by decide +kernel
theorem d_Desk_allCanBeTyped_21 : decode (m_c m_Desk_allCanBeTyped) 21 = .ok (.iload 4, 2) := by decide +kernel
theorem d_Desk_allCanBeTyped_23 : decode (m_c m_Desk_allCanBeTyped) 23 = .ok (.bipush 126, 2) := by decide +kernel
theorem d_Desk_allCanBeTyped_25 : decode (m_c m_Desk_allCanBeTyped) 25 = .ok (.if_icmp .le 5, 3) := by decide +kernel
theorem d_Desk_allCanBeTyped_28 : decode (m_c m_Desk_allCanBeTyped) 28 = .ok (.iconst 0, 1) := by decide +kernel
theorem d_Desk_allCanBeTyped_29 : decode (m_c m_Desk_allCanBeTyped) 29 = .ok (.ireturn, 1) := by decide +kernel
theorem d_Desk_allCanBeTyped_30 : decode (m_c m_Desk_allCanBeTyped) 30 = .ok (.iinc 3 1, 3) := by decide +kernel
theorem d_Desk_allCanBeTyped_33 : decode (m_c m_Desk_allCanBeTyped) 33 = .ok (.goto (-31), 3) := by decide +kernel
theorem d_Desk_allCanBeTyped_36 : decode (m_c m_Desk_allCanBeTyped) 36 = .ok (.iconst 1, 1) := by decide +kernel
theorem d_Desk_allCanBeTyped_37 : decode (m_c m_Desk_allCanBeTyped) 37 = .ok (.ireturn, 1) := by decide +kernel
def p_Desk_allCanBeTyped_28    (f g : q_F) : Option (Int × q_F × q_F) :=
  some (0, f, g)
def p_Desk_allCanBeTyped_2   : Nat → Int → Int → Int → q_F → q_F → Option (Int × q_F × q_F)
  | 0, _, _, _, _, _ => none
  | n + 1, v0, v2, v3, f, g =>
    if q_sw v2 ≤ q_sw v3 then
      some (1, f, g)
    else
      (p_Desk_byteOf (v0) (v3) f g).bind fun x2 =>
      if q_sw x2.1 < q_sw 33 then
        p_Desk_allCanBeTyped_28    x2.2.1 x2.2.2
      else
        if q_sw x2.1 ≤ q_sw 126 then
          q_let (v3 + 1) fun z6 =>
          (p_Desk_allCanBeTyped_2   n) (v0) (v2) (z6) x2.2.1 x2.2.2
        else
          p_Desk_allCanBeTyped_28    x2.2.1 x2.2.2
def p_Desk_allCanBeTyped  (v0 : Int) (v2 : Int) (f g : q_F) : Option (Int × q_F × q_F) :=
  p_Desk_allCanBeTyped_2   1000 (v0) (v2) (0) f g
theorem e_Desk_allCanBeTyped_28 (t : q_V) (ok : ma_ok (q_G t))  {Q : Option Value → ma_H → Prop} {y : Int × q_F × q_F} (hQ : Q (some (ma_i y.1)) (q_h y.2.1 y.2.2))    (f g : q_F) (hp : p_Desk_allCanBeTyped_28    f g = some y) : ma_Ev (q_G t) 1 22 0 0 m_Desk_allCanBeTyped 28 [] [] (q_h f g) (ma_zr (q_G t) false Q) := by
  unfold p_Desk_allCanBeTyped_28 at hp
  refine ev_iconst (pc := 28) d_Desk_allCanBeTyped_28 ?_
  cases Option.some.inj hp
  exact et_zret (pc := 29) d_Desk_allCanBeTyped_29 rfl (by decide) hQ
theorem e_Desk_allCanBeTyped_2 (t : q_V) (ok : ma_ok (q_G t))  {Q : Option Value → ma_H → Prop} {y : Int × q_F × q_F} (hQ : Q (some (ma_i y.1)) (q_h y.2.1 y.2.2))   : ∀ (n : Nat) (v0 : Int) (v2 : Int) (v3 : Int) (f g : q_F), p_Desk_allCanBeTyped_2   n v0 v2 v3 f g = some y → ma_Ev (q_G t) 1 22 0 0 m_Desk_allCanBeTyped 2 [(0, ma_j (v0)), (2, ma_i (v2)), (3, ma_i (v3))] [] (q_h f g) (ma_zr (q_G t) false Q) := by
  intro n
  induction n with
  | zero =>
    intro v0 v2 v3 f g hp
    rw [p_Desk_allCanBeTyped_2] at hp
    cases hp
  | succ n ih =>
    intro v0 v2 v3 f g hp
    rw [p_Desk_allCanBeTyped_2] at hp
    refine ev_iload_n (pc := 2) d_Desk_allCanBeTyped_2 rfl rfl ?_
    refine ev_iload_n (pc := 3) d_Desk_allCanBeTyped_3 rfl rfl ?_
    refine et_icmp_ge (pc := 4) (tgt := 36) d_Desk_allCanBeTyped_4 (by decide) (fun hj1 => ?_) (fun hj1 => ?_)
    · rw [if_pos hj1] at hp
      refine ev_iconst (pc := 36) d_Desk_allCanBeTyped_36 ?_
      cases Option.some.inj hp
      exact et_zret (pc := 37) d_Desk_allCanBeTyped_37 rfl (by decide) hQ
    · rw [if_neg hj1] at hp
      refine ev_lload_n (pc := 7) d_Desk_allCanBeTyped_7 rfl rfl ?_
      refine ev_iload_n (pc := 8) d_Desk_allCanBeTyped_8 rfl rfl ?_
      replace hp := q_bind hp
      obtain ⟨x2, hm3, hp⟩ := hp
      refine et_callSi (pc := 9) (f1 := x2.2.1) (g1 := x2.2.2) ok [ma_j (v0), ma_i (v3)] [] (cf_Desk_95 t) d_Desk_allCanBeTyped_9 (t_Desk_byteOf t ok (v0) (v3) f g hm3 ⟨rfl, rfl⟩) rfl rfl (by decide) (by decide) (q_ble rfl) ?_
      refine ev_istore (pc := 12) d_Desk_allCanBeTyped_12 (by decide) [(4, _), (0, _), (2, _), (3, _)] rfl ?_
      refine ev_iload (pc := 14) d_Desk_allCanBeTyped_14 rfl ?_
      refine ev_bipush (pc := 16) d_Desk_allCanBeTyped_16 rfl ?_
      refine et_icmp_lt (pc := 18) (tgt := 28) d_Desk_allCanBeTyped_18 (by decide) (fun hj4 => ?_) (fun hj4 => ?_)
      · rw [if_pos hj4] at hp
        refine ev_sub (ls2 := []) [] rfl ?_
        exact e_Desk_allCanBeTyped_28 t ok  hQ    x2.2.1 x2.2.2 hp
      · rw [if_neg hj4] at hp
        refine ev_iload (pc := 21) d_Desk_allCanBeTyped_21 rfl ?_
        refine ev_bipush (pc := 23) d_Desk_allCanBeTyped_23 rfl ?_
        refine et_icmp_le (pc := 25) (tgt := 30) d_Desk_allCanBeTyped_25 (by decide) (fun hj5 => ?_) (fun hj5 => ?_)
        · rw [if_pos hj5] at hp
          refine ev_iinc (pc := 30) d_Desk_allCanBeTyped_30 (by decide) rfl [(3, _), (4, _), (0, _), (2, _)] rfl ?_
          replace hp := q_let_of hp
          obtain ⟨z6, hz, hp⟩ := hp
          rw [← hz]
          clear hz
          refine ev_goto (pc := 33) (tgt := 2) d_Desk_allCanBeTyped_33 (by decide) ?_
          refine ev_sub (ls2 := [(0, ma_j (v0)), (2, ma_i (v2)), (3, ma_i (z6))]) [2, 3, 0] rfl ?_
          exact ih (v0) (v2) (z6) x2.2.1 x2.2.2 hp
        · rw [if_neg hj5] at hp
          refine ev_sub (ls2 := []) [] rfl ?_
          exact e_Desk_allCanBeTyped_28 t ok  hQ    x2.2.1 x2.2.2 hp
theorem t_Desk_allCanBeTyped (t : q_V) (ok : ma_ok (q_G t))  {Q : Option Value → ma_H → Prop} {y : Int × q_F × q_F} (v0 : Int) (v2 : Int) (f g : q_F) (hp : p_Desk_allCanBeTyped  v0 v2 f g = some y) (hQ : Q (some (ma_i y.1)) (q_h y.2.1 y.2.2)) : ma_Met (q_G t) false 1 22 0 0 m_Desk_allCanBeTyped [ma_j (v0), ma_i (v2)] (q_h f g) Q := by
  refine ma_met (by decide +kernel) (q_ble rfl) rfl ?_
  change ma_Ev (q_G t) 1 22 0 0 m_Desk_allCanBeTyped 0 [(0, ma_j (v0)), (2, ma_i (v2))] [] (q_h f g) (ma_zr (q_G t) false Q)
  unfold p_Desk_allCanBeTyped at hp
  refine ev_iconst (pc := 0) d_Desk_allCanBeTyped_0 ?_
  refine ev_istore_n (pc := 1) d_Desk_allCanBeTyped_1 rfl (by decide) [(3, _), (0, _), (2, _)] rfl ?_
  refine ev_sub (ls2 := [(0, ma_j (v0)), (2, ma_i (v2)), (3, ma_i (0))]) [1, 2, 0] rfl ?_
  exact e_Desk_allCanBeTyped_2 t ok  hQ   1000 (v0) (v2) (0) f g hp
theorem d_Script_append_0 : decode (m_c m_Script_append) 0 = .ok (.aload_n 0, 1) := by decide +kernel
theorem d_Script_append_1 : decode (m_c m_Script_append) 1 = .ok (.getfield 15, 3) := by decide +kernel
theorem d_Script_append_4 : decode (m_c m_Script_append) 4 = .ok (.sipush 160, 3) := by decide +kernel
theorem d_Script_append_7 : decode (m_c m_Script_append) 7 = .ok (.if_icmp .ge 24, 3) := by decide +kernel
theorem d_Script_append_10 : decode (m_c m_Script_append) 10 = .ok (.aload_n 0, 1) := by decide +kernel
theorem d_Script_append_11 : decode (m_c m_Script_append) 11 = .ok (.getfield 9, 3) := by decide +kernel
theorem d_Script_append_14 : decode (m_c m_Script_append) 14 = .ok (.aload_n 0, 1) := by decide +kernel
theorem d_Script_append_15 : decode (m_c m_Script_append) 15 = .ok (.getfield 15, 3) := by decide +kernel
theorem d_Script_append_18 : decode (m_c m_Script_append) 18 = .ok (.iload_n 1, 1) := by decide +kernel
theorem d_Script_append_19 : decode (m_c m_Script_append) 19 = .ok (.i2c, 1) := by decide +kernel
theorem d_Script_append_20 : decode (m_c m_Script_append) 20 = .ok (.castore, 1) := by decide +kernel
theorem d_Script_append_21 : decode (m_c m_Script_append) 21 = .ok (.aload_n 0, 1) := by decide +kernel
theorem d_Script_append_22 : decode (m_c m_Script_append) 22 = .ok (.dup, 1) := by decide +kernel
theorem d_Script_append_23 : decode (m_c m_Script_append) 23 = .ok (.getfield 15, 3) := by decide +kernel
theorem d_Script_append_26 : decode (m_c m_Script_append) 26 = .ok (.iconst 1, 1) := by decide +kernel
theorem d_Script_append_27 : decode (m_c m_Script_append) 27 = .ok (.iadd, 1) := by decide +kernel
theorem d_Script_append_28 : decode (m_c m_Script_append) 28 = .ok (.putfield 15, 3) := by decide +kernel
theorem d_Script_append_31 : decode (m_c m_Script_append) 31 = .ok (.return_, 1) := by decide +kernel
def p_Script_append_31    (f g : q_F) : Option (q_F × q_F) :=
  some (f, g)
def p_Script_append  (v1 : Int) (f g : q_F) : Option (q_F × q_F) :=
  if q_sw 160 ≤ q_sw (f 1 1) then
    p_Script_append_31    f g
  else
    if 0 ≤ (f 1 1) ∧ (f 1 1) < 160 then
      q_let (ma_up f 2 (Int.toNat (f 1 1)) (q_nc (q_i2c v1))) fun f3 =>
      q_let (ma_up f3 1 1 ((f3 1 1) + 1)) fun f4 =>
      p_Script_append_31    f4 g
    else none
theorem e_Script_append_31 (t : q_V) (ok : ma_ok (q_G t))  {Q : Option Value → ma_H → Prop} {y : q_F × q_F} (hQ : Q (none) (q_h y.1 y.2))    (f g : q_F) (hp : p_Script_append_31    f g = some y) : ma_Ev (q_G t) 0 0 0 0 m_Script_append 31 [] [] (q_h f g) (ma_zr (q_G t) false Q) := by
  unfold p_Script_append_31 at hp
  cases Option.some.inj hp
  exact et_ret (pc := 31) d_Script_append_31 rfl hQ
theorem t_Script_append (t : q_V) (ok : ma_ok (q_G t))  {Q : Option Value → ma_H → Prop} {y : q_F × q_F} (v1 : Int) (f g : q_F) (hp : p_Script_append  v1 f g = some y) (hQ : Q (none) (q_h y.1 y.2)) : ma_Met (q_G t) false 0 0 0 0 m_Script_append [q_a t (1), ma_i (v1)] (q_h f g) Q := by
  refine ma_met (by decide +kernel) (q_ble rfl) rfl ?_
  change ma_Ev (q_G t) 0 0 0 0 m_Script_append 0 [(0, q_a t (1)), (1, ma_i (v1))] [] (q_h f g) (ma_zr (q_G t) false Q)
  unfold p_Script_append at hp
  refine et_aload_n (pc := 0) d_Script_append_0 rfl rfl ?_
  refine et_geti (pc := 1) ok (fl_Script_15 t) rfl d_Script_append_1 s_1 ?_
  refine ev_sipush (pc := 4) d_Script_append_4 rfl ?_
  refine et_icmp_ge (pc := 7) (tgt := 31) d_Script_append_7 (by decide) (fun hj1 => ?_) (fun hj1 => ?_)
  · rw [if_pos hj1] at hp
    refine ev_sub (ls2 := []) [] rfl ?_
    exact e_Script_append_31 t ok  hQ    f g hp
  · rw [if_neg hj1] at hp
    refine et_aload_n (pc := 10) d_Script_append_10 rfl rfl ?_
    refine et_getr (pc := 11) ok (fl_Script_9 t) rfl d_Script_append_11 s_1 r_1_0 ?_
    refine et_aload_n (pc := 14) d_Script_append_14 rfl rfl ?_
    refine et_geti (pc := 15) ok (fl_Script_15 t) rfl d_Script_append_15 s_1 ?_
    refine ev_iload_n (pc := 18) d_Script_append_18 rfl rfl ?_
    refine et_i2c (pc := 19) d_Script_append_19 ?_
    replace hp := q_if hp
    obtain ⟨hb2, hp⟩ := hp
    refine et_cast (pc := 20) d_Script_append_20 s_2 hb2 (by decide) ?_
    replace hp := q_let_of hp
    obtain ⟨f3, hz, hp⟩ := hp
    rw [← hz]
    clear hz
    refine et_aload_n (pc := 21) d_Script_append_21 rfl rfl ?_
    refine ev_dup (pc := 22) d_Script_append_22 rfl ?_
    refine et_geti (pc := 23) ok (fl_Script_15 t) rfl d_Script_append_23 s_1 ?_
    refine ev_iconst (pc := 26) d_Script_append_26 ?_
    refine ev_iadd (pc := 27) d_Script_append_27 ?_
    refine et_puti (pc := 28) ok (fl_Script_15 t) d_Script_append_28 s_1 ?_
    replace hp := q_let_of hp
    obtain ⟨f4, hz, hp⟩ := hp
    rw [← hz]
    clear hz
    refine ev_sub (ls2 := []) [] rfl ?_
    exact e_Script_append_31 t ok  hQ    f4 g hp
theorem d_Input_forget_0 : decode (m_c m_Input_forget) 0 = .ok (.aload_n 0, 1) := by decide +kernel
theorem d_Input_forget_1 : decode (m_c m_Input_forget) 1 = .ok (.iconst 0, 1) := by decide +kernel
theorem d_Input_forget_2 : decode (m_c m_Input_forget) 2 = .ok (.putfield 21, 3) := by decide +kernel
theorem d_Input_forget_5 : decode (m_c m_Input_forget) 5 = .ok (.aload_n 0, 1) := by decide +kernel
theorem d_Input_forget_6 : decode (m_c m_Input_forget) 6 = .ok (.iconst (-1), 1) := by decide +kernel
theorem d_Input_forget_7 : decode (m_c m_Input_forget) 7 = .ok (.putfield 25, 3) := by decide +kernel
theorem d_Input_forget_10 : decode (m_c m_Input_forget) 10 = .ok (.return_, 1) := by decide +kernel
def p_Input_forget  (a0 : Nat) (f g : q_F) : Option (q_F × q_F) :=
  if 16 ≤ a0 ∧ a0 < 24 then
    q_let (ma_up f a0 3 0) fun f1 =>
    q_let (ma_up f1 a0 4 (-1)) fun f2 =>
    some (f2, g)
  else none
theorem t_Input_forget (t : q_V) (ok : ma_ok (q_G t))  {Q : Option Value → ma_H → Prop} {y : q_F × q_F} (a0 : Nat) (f g : q_F) (hp : p_Input_forget  a0 f g = some y) (hQ : Q (none) (q_h y.1 y.2)) : ma_Met (q_G t) false 0 0 0 0 m_Input_forget [q_a t (a0)] (q_h f g) Q := by
  refine ma_met (by decide +kernel) (q_ble rfl) rfl ?_
  change ma_Ev (q_G t) 0 0 0 0 m_Input_forget 0 [(0, q_a t (a0))] [] (q_h f g) (ma_zr (q_G t) false Q)
  unfold p_Input_forget at hp
  replace hp := q_if hp
  obtain ⟨hb_a0, hp⟩ := hp
  refine et_aload_n (pc := 0) d_Input_forget_0 rfl rfl ?_
  refine ev_iconst (pc := 1) d_Input_forget_1 ?_
  refine et_putz (pc := 2) ok (fl_Input_21 t) (by decide) d_Input_forget_2 (s_16 _ (by omega) (by omega)) ?_
  replace hp := q_let_of hp
  obtain ⟨f1, hz, hp⟩ := hp
  rw [← hz]
  clear hz
  refine et_aload_n (pc := 5) d_Input_forget_5 rfl rfl ?_
  refine ev_iconst (pc := 6) d_Input_forget_6 ?_
  refine et_puti (pc := 7) ok (fl_Input_25 t) d_Input_forget_7 (s_16 _ (by omega) (by omega)) ?_
  replace hp := q_let_of hp
  obtain ⟨f2, hz, hp⟩ := hp
  rw [← hz]
  clear hz
  cases Option.some.inj hp
  exact et_ret (pc := 10) d_Input_forget_10 rfl hQ
theorem d_Region_holds_0 : decode (m_c m_Region_holds) 0 = .ok (.iload_n 1, 1) := by decide +kernel
theorem d_Region_holds_1 : decode (m_c m_Region_holds) 1 = .ok (.aload_n 0, 1) := by decide +kernel
theorem d_Region_holds_2 : decode (m_c m_Region_holds) 2 = .ok (.getfield 13, 3) := by decide +kernel
theorem d_Region_holds_5 : decode (m_c m_Region_holds) 5 = .ok (.if_icmp .lt 22, 3) := by decide +kernel
theorem d_Region_holds_8 : decode (m_c m_Region_holds) 8 = .ok (.iload_n 1, 1) := by decide +kernel
theorem d_Region_holds_9 : decode (m_c m_Region_holds) 9 = .ok (.iload_n 2, 1) := by decide +kernel
theorem d_Region_holds_10 : decode (m_c m_Region_holds) 10 = .ok (.iadd, 1) := by decide +kernel
theorem d_Region_holds_11 : decode (m_c m_Region_holds) 11 = .ok (.aload_n 0, 1) := by decide +kernel
theorem d_Region_holds_12 : decode (m_c m_Region_holds) 12 = .ok (.getfield 13, 3) := by decide +kernel
theorem d_Region_holds_15 : decode (m_c m_Region_holds) 15 = .ok (.aload_n 0, 1) := by decide +kernel
theorem d_Region_holds_16 : decode (m_c m_Region_holds) 16 = .ok (.getfield 17, 3) := by decide +kernel
theorem d_Region_holds_19 : decode (m_c m_Region_holds) 19 = .ok (.iadd, 1) := by decide +kernel
theorem d_Region_holds_20 : decode (m_c m_Region_holds) 20 = .ok (.if_icmp .gt 7, 3) := by decide +kernel
theorem d_Region_holds_23 : decode (m_c m_Region_holds) 23 = .ok (.iconst 1, 1) := by decide +kernel
theorem d_Region_holds_24 : decode (m_c m_Region_holds) 24 = .ok (.goto 4, 3) := by decide +kernel
theorem d_Region_holds_27 : decode (m_c m_Region_holds) 27 = .ok (.iconst 0, 1) := by decide +kernel
theorem d_Region_holds_28 : decode (m_c m_Region_holds) 28 = .ok (.ireturn, 1) := by decide +kernel
def p_Region_holds_28   (s0 : Int) (f g : q_F) : Option (Int × q_F × q_F) :=
  if s0 = 0 ∨ s0 = 1 then
    some (s0, f, g)
  else none
def p_Region_holds_27    (f g : q_F) : Option (Int × q_F × q_F) :=
  p_Region_holds_28   (0) f g
def p_Region_holds  (a0 : Nat) (v1 : Int) (v2 : Int) (f g : q_F) : Option (Int × q_F × q_F) :=
  if 24 ≤ a0 ∧ a0 < 28 then
    if q_sw v1 < q_sw (f a0 1) then
      p_Region_holds_27    f g
    else
      if q_sw ((f a0 1) + (f a0 2)) < q_sw (v1 + v2) then
        p_Region_holds_27    f g
      else
        p_Region_holds_28   (1) f g
  else none
theorem e_Region_holds_28 (t : q_V) (ok : ma_ok (q_G t))  {Q : Option Value → ma_H → Prop} {y : Int × q_F × q_F} (hQ : Q (some (ma_i y.1)) (q_h y.2.1 y.2.2))   (s0 : Int) (f g : q_F) (hp : p_Region_holds_28   s0 f g = some y) : ma_Ev (q_G t) 0 0 0 0 m_Region_holds 28 [] [ma_i (s0)] (q_h f g) (ma_zr (q_G t) false Q) := by
  unfold p_Region_holds_28 at hp
  replace hp := q_if hp
  obtain ⟨hb1, hp⟩ := hp
  cases Option.some.inj hp
  exact et_zret (pc := 28) d_Region_holds_28 rfl hb1 hQ
theorem e_Region_holds_27 (t : q_V) (ok : ma_ok (q_G t))  {Q : Option Value → ma_H → Prop} {y : Int × q_F × q_F} (hQ : Q (some (ma_i y.1)) (q_h y.2.1 y.2.2))    (f g : q_F) (hp : p_Region_holds_27    f g = some y) : ma_Ev (q_G t) 0 0 0 0 m_Region_holds 27 [] [] (q_h f g) (ma_zr (q_G t) false Q) := by
  unfold p_Region_holds_27 at hp
  refine ev_iconst (pc := 27) d_Region_holds_27 ?_
  refine ev_sub (ls2 := []) [] rfl ?_
  exact e_Region_holds_28 t ok  hQ   (0) f g hp
theorem t_Region_holds (t : q_V) (ok : ma_ok (q_G t))  {Q : Option Value → ma_H → Prop} {y : Int × q_F × q_F} (a0 : Nat) (v1 : Int) (v2 : Int) (f g : q_F) (hp : p_Region_holds  a0 v1 v2 f g = some y) (hQ : Q (some (ma_i y.1)) (q_h y.2.1 y.2.2)) : ma_Met (q_G t) false 0 0 0 0 m_Region_holds [q_a t (a0), ma_i (v1), ma_i (v2)] (q_h f g) Q := by
  refine ma_met (by decide +kernel) (q_ble rfl) rfl ?_
  change ma_Ev (q_G t) 0 0 0 0 m_Region_holds 0 [(0, q_a t (a0)), (1, ma_i (v1)), (2, ma_i (v2))] [] (q_h f g) (ma_zr (q_G t) false Q)
  unfold p_Region_holds at hp
  replace hp := q_if hp
  obtain ⟨hb_a0, hp⟩ := hp
  refine ev_iload_n (pc := 0) d_Region_holds_0 rfl rfl ?_
  refine et_aload_n (pc := 1) d_Region_holds_1 rfl rfl ?_
  refine et_geti (pc := 2) ok (fl_Region_13 t) rfl d_Region_holds_2 (s_24 _ (by omega) (by omega)) ?_
  refine et_icmp_lt (pc := 5) (tgt := 27) d_Region_holds_5 (by decide) (fun hj1 => ?_) (fun hj1 => ?_)
  · rw [if_pos hj1] at hp
    refine ev_sub (ls2 := []) [] rfl ?_
    exact e_Region_holds_27 t ok  hQ    f g hp
  · rw [if_neg hj1] at hp
    refine ev_iload_n (pc := 8) d_Region_holds_8 rfl rfl ?_
    refine ev_iload_n (pc := 9) d_Region_holds_9 rfl rfl ?_
    refine ev_iadd (pc := 10) d_Region_holds_10 ?_
    refine et_aload_n (pc := 11) d_Region_holds_11 rfl rfl ?_
    refine et_geti (pc := 12) ok (fl_Region_13 t) rfl d_Region_holds_12 (s_24 _ (by omega) (by omega)) ?_
    refine et_aload_n (pc := 15) d_Region_holds_15 rfl rfl ?_
    refine et_geti (pc := 16) ok (fl_Region_17 t) rfl d_Region_holds_16 (s_24 _ (by omega) (by omega)) ?_
    refine ev_iadd (pc := 19) d_Region_holds_19 ?_
    refine et_icmp_gt (pc := 20) (tgt := 27) d_Region_holds_20 (by decide) (fun hj2 => ?_) (fun hj2 => ?_)
    · rw [if_pos hj2] at hp
      refine ev_sub (ls2 := []) [] rfl ?_
      exact e_Region_holds_27 t ok  hQ    f g hp
    · rw [if_neg hj2] at hp
      refine ev_iconst (pc := 23) d_Region_holds_23 ?_
      refine ev_goto (pc := 24) (tgt := 28) d_Region_holds_24 (by decide) ?_
      refine ev_sub (ls2 := []) [] rfl ?_
      exact e_Region_holds_28 t ok  hQ   (1) f g hp
theorem d_Section_forget_0 : decode (m_c m_Section_forget) 0 = .ok (.aload_n 0, 1) := by decide +kernel
theorem d_Section_forget_1 : decode (m_c m_Section_forget) 1 = .ok (.iconst 0, 1) := by decide +kernel
theorem d_Section_forget_2 : decode (m_c m_Section_forget) 2 = .ok (.putfield 9, 3) := by decide +kernel
theorem d_Section_forget_5 : decode (m_c m_Section_forget) 5 = .ok (.aload_n 0, 1) := by decide +kernel
theorem d_Section_forget_6 : decode (m_c m_Section_forget) 6 = .ok (.iconst 0, 1) := by decide +kernel
theorem d_Section_forget_7 : decode (m_c m_Section_forget) 7 = .ok (.putfield 15, 3) := by decide +kernel
theorem d_Section_forget_10 : decode (m_c m_Section_forget) 10 = .ok (.aload_n 0, 1) := by decide +kernel
theorem d_Section_forget_11 : decode (m_c m_Section_forget) 11 = .ok (.iconst (-1), 1) := by decide +kernel
theorem d_Section_forget_12 : decode (m_c m_Section_forget) 12 = .ok (.putfield 31, 3) := by decide +kernel
theorem d_Section_forget_15 : decode (m_c m_Section_forget) 15 = .ok (.aload_n 0, 1) := by decide +kernel
theorem d_Section_forget_16 : decode (m_c m_Section_forget) 16 = .ok (.iconst 1, 1) := by decide +kernel
theorem d_Section_forget_17 : decode (m_c m_Section_forget) 17 = .ok (.putfield 34, 3) := by decide +kernel
theorem d_Section_forget_20 : decode (m_c m_Section_forget) 20 = .ok (.aload_n 0, 1) := by decide +kernel
theorem d_Section_forget_21 : decode (m_c m_Section_forget) 21 = .ok (.iconst (-1), 1) := by decide +kernel
theorem d_Section_forget_22 : decode (m_c m_Section_forget) 22 = .ok (.putfield 37, 3) := by decide +kernel
theorem d_Section_forget_25 : decode (m_c m_Section_forget) 25 = .ok (.aload_n 0, 1) := by decide +kernel
theorem d_Section_forget_26 : decode (m_c m_Section_forget) 26 = .ok (.ldc 40, 2) := by decide +kernel
theorem d_Section_forget_28 : decode (m_c m_Section_forget) 28 = .ok (.putfield 41, 3) := by decide +kernel
theorem d_Section_forget_31 : decode (m_c m_Section_forget) 31 = .ok (.aload_n 0, 1) := by decide +kernel
theorem d_Section_forget_32 : decode (m_c m_Section_forget) 32 = .ok (.ldc 40, 2) := by decide +kernel
theorem d_Section_forget_34 : decode (m_c m_Section_forget) 34 = .ok (.putfield 44, 3) := by decide +kernel
theorem d_Section_forget_37 : decode (m_c m_Section_forget) 37 = .ok (.aload_n 0, 1) := by decide +kernel
theorem d_Section_forget_38 : decode (m_c m_Section_forget) 38 = .ok (.ldc 40, 2) := by decide +kernel
theorem d_Section_forget_40 : decode (m_c m_Section_forget) 40 = .ok (.putfield 47, 3) := by decide +kernel
theorem d_Section_forget_43 : decode (m_c m_Section_forget) 43 = .ok (.return_, 1) := by decide +kernel
def p_Section_forget  (a0 : Nat) (f g : q_F) : Option (q_F × q_F) :=
  if 28 ≤ a0 ∧ a0 < 36 then
    q_let (ma_up f a0 0 0) fun f1 =>
    q_let (ma_up f1 a0 1 0) fun f2 =>
    q_let (ma_up f2 a0 6 (-1)) fun f3 =>
    q_let (ma_up f3 a0 7 1) fun f4 =>
    q_let (ma_up f4 a0 8 (-1)) fun f5 =>
    q_let (ma_up f5 a0 9 (-1000000000)) fun f6 =>
    q_let (ma_up f6 a0 10 (-1000000000)) fun f7 =>
    q_let (ma_up f7 a0 11 (-1000000000)) fun f8 =>
    some (f8, g)
  else none
theorem t_Section_forget (t : q_V) (ok : ma_ok (q_G t))  {Q : Option Value → ma_H → Prop} {y : q_F × q_F} (a0 : Nat) (f g : q_F) (hp : p_Section_forget  a0 f g = some y) (hQ : Q (none) (q_h y.1 y.2)) : ma_Met (q_G t) false 0 0 0 0 m_Section_forget [q_a t (a0)] (q_h f g) Q := by
  refine ma_met (by decide +kernel) (q_ble rfl) rfl ?_
  change ma_Ev (q_G t) 0 0 0 0 m_Section_forget 0 [(0, q_a t (a0))] [] (q_h f g) (ma_zr (q_G t) false Q)
  unfold p_Section_forget at hp
  replace hp := q_if hp
  obtain ⟨hb_a0, hp⟩ := hp
  refine et_aload_n (pc := 0) d_Section_forget_0 rfl rfl ?_
  refine ev_iconst (pc := 1) d_Section_forget_1 ?_
  refine et_putz (pc := 2) ok (fl_Section_9 t) (by decide) d_Section_forget_2 (s_28 _ (by omega) (by omega)) ?_
  replace hp := q_let_of hp
  obtain ⟨f1, hz, hp⟩ := hp
  rw [← hz]
  clear hz
  refine et_aload_n (pc := 5) d_Section_forget_5 rfl rfl ?_
  refine ev_iconst (pc := 6) d_Section_forget_6 ?_
  refine et_putz (pc := 7) ok (fl_Section_15 t) (by decide) d_Section_forget_7 (s_28 _ (by omega) (by omega)) ?_
  replace hp := q_let_of hp
  obtain ⟨f2, hz, hp⟩ := hp
  rw [← hz]
  clear hz
  refine et_aload_n (pc := 10) d_Section_forget_10 rfl rfl ?_
  refine ev_iconst (pc := 11) d_Section_forget_11 ?_
  refine et_puti (pc := 12) ok (fl_Section_31 t) d_Section_forget_12 (s_28 _ (by omega) (by omega)) ?_
  replace hp := q_let_of hp
  obtain ⟨f3, hz, hp⟩ := hp
  rw [← hz]
  clear hz
  refine et_aload_n (pc := 15) d_Section_forget_15 rfl rfl ?_
  refine ev_iconst (pc := 16) d_Section_forget_16 ?_
  refine et_putz (pc := 17) ok (fl_Section_34 t) (by decide) d_Section_forget_17 (s_28 _ (by omega) (by omega)) ?_
  replace hp := q_let_of hp
  obtain ⟨f4, hz, hp⟩ := hp
  rw [← hz]
  clear hz
  refine et_aload_n (pc := 20) d_Section_forget_20 rfl rfl ?_
  refine ev_iconst (pc := 21) d_Section_forget_21 ?_
  refine et_puti (pc := 22) ok (fl_Section_37 t) d_Section_forget_22 (s_28 _ (by omega) (by omega)) ?_
  replace hp := q_let_of hp
  obtain ⟨f5, hz, hp⟩ := hp
  rw [← hz]
  clear hz
  refine et_aload_n (pc := 25) d_Section_forget_25 rfl rfl ?_
  refine ev_ldc (pc := 26) d_Section_forget_26 kc_Section_40 ?_
  refine et_puti (pc := 28) ok (fl_Section_41 t) d_Section_forget_28 (s_28 _ (by omega) (by omega)) ?_
  replace hp := q_let_of hp
  obtain ⟨f6, hz, hp⟩ := hp
  rw [← hz]
  clear hz
  refine et_aload_n (pc := 31) d_Section_forget_31 rfl rfl ?_
  refine ev_ldc (pc := 32) d_Section_forget_32 kc_Section_40 ?_
  refine et_puti (pc := 34) ok (fl_Section_44 t) d_Section_forget_34 (s_28 _ (by omega) (by omega)) ?_
  replace hp := q_let_of hp
  obtain ⟨f7, hz, hp⟩ := hp
  rw [← hz]
  clear hz
  refine et_aload_n (pc := 37) d_Section_forget_37 rfl rfl ?_
  refine ev_ldc (pc := 38) d_Section_forget_38 kc_Section_40 ?_
  refine et_puti (pc := 40) ok (fl_Section_47 t) d_Section_forget_40 (s_28 _ (by omega) (by omega)) ?_
  replace hp := q_let_of hp
  obtain ⟨f8, hz, hp⟩ := hp
  rw [← hz]
  clear hz
  cases Option.some.inj hp
  exact et_ret (pc := 43) d_Section_forget_43 rfl hQ
theorem d_Section_isKnown_0 : decode (m_c m_Section_isKnown) 0 = .ok (.aload_n 0, 1) := by decide +kernel
theorem d_Section_isKnown_1 : decode (m_c m_Section_isKnown) 1 = .ok (.getfield 44, 3) := by decide +kernel
theorem d_Section_isKnown_4 : decode (m_c m_Section_isKnown) 4 = .ok (.ldc 40, 2) := by decide +kernel
theorem d_Section_isKnown_6 : decode (m_c m_Section_isKnown) 6 = .ok (.if_icmp .eq 7, 3) := by decide +kernel
theorem d_Section_isKnown_9 : decode (m_c m_Section_isKnown) 9 = .ok (.iconst 1, 1) := by decide +kernel
theorem d_Section_isKnown_10 : decode (m_c m_Section_isKnown) 10 = .ok (.goto 4, 3) := by decide +kernel
theorem d_Section_isKnown_13 : decode (m_c m_Section_isKnown) 13 = .ok (.iconst 0, 1) := by decide +kernel
theorem d_Section_isKnown_14 : decode (m_c m_Section_isKnown) 14 = .ok (.ireturn, 1) := by decide +kernel
def p_Section_isKnown_14   (s0 : Int) (f g : q_F) : Option (Int × q_F × q_F) :=
  if s0 = 0 ∨ s0 = 1 then
    some (s0, f, g)
  else none
def p_Section_isKnown  (a0 : Nat) (f g : q_F) : Option (Int × q_F × q_F) :=
  if 28 ≤ a0 ∧ a0 < 36 then
    if q_sw (f a0 10) = q_sw (-1000000000) then
      p_Section_isKnown_14   (0) f g
    else
      p_Section_isKnown_14   (1) f g
  else none
theorem e_Section_isKnown_14 (t : q_V) (ok : ma_ok (q_G t))  {Q : Option Value → ma_H → Prop} {y : Int × q_F × q_F} (hQ : Q (some (ma_i y.1)) (q_h y.2.1 y.2.2))   (s0 : Int) (f g : q_F) (hp : p_Section_isKnown_14   s0 f g = some y) : ma_Ev (q_G t) 0 0 0 0 m_Section_isKnown 14 [] [ma_i (s0)] (q_h f g) (ma_zr (q_G t) false Q) := by
  unfold p_Section_isKnown_14 at hp
  replace hp := q_if hp
  obtain ⟨hb1, hp⟩ := hp
  cases Option.some.inj hp
  exact et_zret (pc := 14) d_Section_isKnown_14 rfl hb1 hQ
theorem t_Section_isKnown (t : q_V) (ok : ma_ok (q_G t))  {Q : Option Value → ma_H → Prop} {y : Int × q_F × q_F} (a0 : Nat) (f g : q_F) (hp : p_Section_isKnown  a0 f g = some y) (hQ : Q (some (ma_i y.1)) (q_h y.2.1 y.2.2)) : ma_Met (q_G t) false 0 0 0 0 m_Section_isKnown [q_a t (a0)] (q_h f g) Q := by
  refine ma_met (by decide +kernel) (q_ble rfl) rfl ?_
  change ma_Ev (q_G t) 0 0 0 0 m_Section_isKnown 0 [(0, q_a t (a0))] [] (q_h f g) (ma_zr (q_G t) false Q)
  unfold p_Section_isKnown at hp
  replace hp := q_if hp
  obtain ⟨hb_a0, hp⟩ := hp
  refine et_aload_n (pc := 0) d_Section_isKnown_0 rfl rfl ?_
  refine et_geti (pc := 1) ok (fl_Section_44 t) rfl d_Section_isKnown_1 (s_28 _ (by omega) (by omega)) ?_
  refine ev_ldc (pc := 4) d_Section_isKnown_4 kc_Section_40 ?_
  refine et_icmp_eq (pc := 6) (tgt := 13) d_Section_isKnown_6 (by decide) (fun hj1 => ?_) (fun hj1 => ?_)
  · rw [if_pos hj1] at hp
    refine ev_iconst (pc := 13) d_Section_isKnown_13 ?_
    refine ev_sub (ls2 := []) [] rfl ?_
    exact e_Section_isKnown_14 t ok  hQ   (0) f g hp
  · rw [if_neg hj1] at hp
    refine ev_iconst (pc := 9) d_Section_isKnown_9 ?_
    refine ev_goto (pc := 10) (tgt := 14) d_Section_isKnown_10 (by decide) ?_
    refine ev_sub (ls2 := []) [] rfl ?_
    exact e_Section_isKnown_14 t ok  hQ   (1) f g hp
theorem d_Symbol_forget_0 : decode (m_c m_Symbol_forget) 0 = .ok (.aload_n 0, 1) := by decide +kernel
theorem d_Symbol_forget_1 : decode (m_c m_Symbol_forget) 1 = .ok (.iconst 0, 1) := by decide +kernel
theorem d_Symbol_forget_2 : decode (m_c m_Symbol_forget) 2 = .ok (.putfield 9, 3) := by decide +kernel
theorem d_Symbol_forget_5 : decode (m_c m_Symbol_forget) 5 = .ok (.aload_n 0, 1) := by decide +kernel
theorem d_Symbol_forget_6 : decode (m_c m_Symbol_forget) 6 = .ok (.iconst 0, 1) := by decide +kernel
theorem d_Symbol_forget_7 : decode (m_c m_Symbol_forget) 7 = .ok (.putfield 15, 3) := by decide +kernel
theorem d_Symbol_forget_10 : decode (m_c m_Symbol_forget) 10 = .ok (.aload_n 0, 1) := by decide +kernel
theorem d_Symbol_forget_11 : decode (m_c m_Symbol_forget) 11 = .ok (.ldc 25, 2) := by decide +kernel
theorem d_Symbol_forget_13 : decode (m_c m_Symbol_forget) 13 = .ok (.putfield 26, 3) := by decide +kernel
theorem d_Symbol_forget_16 : decode (m_c m_Symbol_forget) 16 = .ok (.return_, 1) := by decide +kernel
def p_Symbol_forget  (a0 : Nat) (f g : q_F) : Option (q_F × q_F) :=
  if 36 ≤ a0 ∧ a0 < 54 then
    q_let (ma_up f a0 0 0) fun f1 =>
    q_let (ma_up f1 a0 1 0) fun f2 =>
    q_let (ma_up f2 a0 4 (-1000000000)) fun f3 =>
    some (f3, g)
  else none
theorem t_Symbol_forget (t : q_V) (ok : ma_ok (q_G t))  {Q : Option Value → ma_H → Prop} {y : q_F × q_F} (a0 : Nat) (f g : q_F) (hp : p_Symbol_forget  a0 f g = some y) (hQ : Q (none) (q_h y.1 y.2)) : ma_Met (q_G t) false 0 0 0 0 m_Symbol_forget [q_a t (a0)] (q_h f g) Q := by
  refine ma_met (by decide +kernel) (q_ble rfl) rfl ?_
  change ma_Ev (q_G t) 0 0 0 0 m_Symbol_forget 0 [(0, q_a t (a0))] [] (q_h f g) (ma_zr (q_G t) false Q)
  unfold p_Symbol_forget at hp
  replace hp := q_if hp
  obtain ⟨hb_a0, hp⟩ := hp
  refine et_aload_n (pc := 0) d_Symbol_forget_0 rfl rfl ?_
  refine ev_iconst (pc := 1) d_Symbol_forget_1 ?_
  refine et_putz (pc := 2) ok (fl_Symbol_9 t) (by decide) d_Symbol_forget_2 (s_36 _ (by omega) (by omega)) ?_
  replace hp := q_let_of hp
  obtain ⟨f1, hz, hp⟩ := hp
  rw [← hz]
  clear hz
  refine et_aload_n (pc := 5) d_Symbol_forget_5 rfl rfl ?_
  refine ev_iconst (pc := 6) d_Symbol_forget_6 ?_
  refine et_putz (pc := 7) ok (fl_Symbol_15 t) (by decide) d_Symbol_forget_7 (s_36 _ (by omega) (by omega)) ?_
  replace hp := q_let_of hp
  obtain ⟨f2, hz, hp⟩ := hp
  rw [← hz]
  clear hz
  refine et_aload_n (pc := 10) d_Symbol_forget_10 rfl rfl ?_
  refine ev_ldc (pc := 11) d_Symbol_forget_11 kc_Symbol_25 ?_
  refine et_puti (pc := 13) ok (fl_Symbol_26 t) d_Symbol_forget_13 (s_36 _ (by omega) (by omega)) ?_
  replace hp := q_let_of hp
  obtain ⟨f3, hz, hp⟩ := hp
  rw [← hz]
  clear hz
  cases Option.some.inj hp
  exact et_ret (pc := 16) d_Symbol_forget_16 rfl hQ
theorem d_Rows_add_0 : decode (m_c m_Rows_add) 0 = .ok (.aload_n 0, 1) := by decide +kernel
theorem d_Rows_add_1 : decode (m_c m_Rows_add) 1 = .ok (.getfield 18, 3) := by decide +kernel
theorem d_Rows_add_4 : decode (m_c m_Rows_add) 4 = .ok (.sipush 160, 3) := by decide +kernel
theorem d_Rows_add_7 : decode (m_c m_Rows_add) 7 = .ok (.if_icmp .ge 33, 3) := by decide +kernel
theorem d_Rows_add_10 : decode (m_c m_Rows_add) 10 = .ok (.aload_n 0, 1) := by decide +kernel
theorem d_Rows_add_11 : decode (m_c m_Rows_add) 11 = .ok (.getfield 9, 3) := by decide +kernel
theorem d_Rows_add_14 : decode (m_c m_Rows_add) 14 = .ok (.aload_n 0, 1) := by decide +kernel
theorem d_Rows_add_15 : decode (m_c m_Rows_add) 15 = .ok (.getfield 18, 3) := by decide +kernel
theorem d_Rows_add_18 : decode (m_c m_Rows_add) 18 = .ok (.iload_n 1, 1) := by decide +kernel
theorem d_Rows_add_19 : decode (m_c m_Rows_add) 19 = .ok (.iastore, 1) := by decide +kernel
theorem d_Rows_add_20 : decode (m_c m_Rows_add) 20 = .ok (.aload_n 0, 1) := by decide +kernel
theorem d_Rows_add_21 : decode (m_c m_Rows_add) 21 = .ok (.getfield 15, 3) := by decide +kernel
theorem d_Rows_add_24 : decode (m_c m_Rows_add) 24 = .ok (.aload_n 0, 1) := by decide +kernel
theorem d_Rows_add_25 : decode (m_c m_Rows_add) 25 = .ok (.getfield 18, 3) := by decide +kernel
theorem d_Rows_add_28 : decode (m_c m_Rows_add) 28 = .ok (.iload_n 2, 1) := by decide +kernel
theorem d_Rows_add_29 : decode (m_c m_Rows_add) 29 = .ok (.iastore, 1) := by decide +kernel
theorem d_Rows_add_30 : decode (m_c m_Rows_add) 30 = .ok (.aload_n 0, 1) := by decide +kernel
theorem d_Rows_add_31 : decode (m_c m_Rows_add) 31 = .ok (.dup, 1) := by decide +kernel
theorem d_Rows_add_32 : decode (m_c m_Rows_add) 32 = .ok (.getfield 18, 3) := by decide +kernel
theorem d_Rows_add_35 : decode (m_c m_Rows_add) 35 = .ok (.iconst 1, 1) := by decide +kernel
theorem d_Rows_add_36 : decode (m_c m_Rows_add) 36 = .ok (.iadd, 1) := by decide +kernel
theorem d_Rows_add_37 : decode (m_c m_Rows_add) 37 = .ok (.putfield 18, 3) := by decide +kernel
theorem d_Rows_add_40 : decode (m_c m_Rows_add) 40 = .ok (.return_, 1) := by decide +kernel
def p_Rows_add_8_40    (f g : q_F) : Option (q_F × q_F) :=
  some (f, g)
def p_Rows_add_8  (v1 : Int) (v2 : Int) (f g : q_F) : Option (q_F × q_F) :=
  if q_sw 160 ≤ q_sw (f 8 2) then
    p_Rows_add_8_40    f g
  else
    if 0 ≤ (f 8 2) ∧ (f 8 2) < 160 then
      q_let (ma_up f 9 (Int.toNat (f 8 2)) v1) fun f3 =>
      if 0 ≤ (f3 8 2) ∧ (f3 8 2) < 160 then
        q_let (ma_up f3 10 (Int.toNat (f3 8 2)) v2) fun f5 =>
        q_let (ma_up f5 8 2 ((f5 8 2) + 1)) fun f6 =>
        p_Rows_add_8_40    f6 g
      else none
    else none
theorem e_Rows_add_8_40 (t : q_V) (ok : ma_ok (q_G t))  {Q : Option Value → ma_H → Prop} {y : q_F × q_F} (hQ : Q (none) (q_h y.1 y.2))    (f g : q_F) (hp : p_Rows_add_8_40    f g = some y) : ma_Ev (q_G t) 0 0 0 0 m_Rows_add 40 [] [] (q_h f g) (ma_zr (q_G t) false Q) := by
  unfold p_Rows_add_8_40 at hp
  cases Option.some.inj hp
  exact et_ret (pc := 40) d_Rows_add_40 rfl hQ
theorem t_Rows_add_8 (t : q_V) (ok : ma_ok (q_G t))  {Q : Option Value → ma_H → Prop} {y : q_F × q_F} (v1 : Int) (v2 : Int) (f g : q_F) (hp : p_Rows_add_8  v1 v2 f g = some y) (hQ : Q (none) (q_h y.1 y.2)) : ma_Met (q_G t) false 0 0 0 0 m_Rows_add [q_a t (8), ma_i (v1), ma_i (v2)] (q_h f g) Q := by
  refine ma_met (by decide +kernel) (q_ble rfl) rfl ?_
  change ma_Ev (q_G t) 0 0 0 0 m_Rows_add 0 [(0, q_a t (8)), (1, ma_i (v1)), (2, ma_i (v2))] [] (q_h f g) (ma_zr (q_G t) false Q)
  unfold p_Rows_add_8 at hp
  refine et_aload_n (pc := 0) d_Rows_add_0 rfl rfl ?_
  refine et_geti (pc := 1) ok (fl_Rows_18 t) rfl d_Rows_add_1 s_8 ?_
  refine ev_sipush (pc := 4) d_Rows_add_4 rfl ?_
  refine et_icmp_ge (pc := 7) (tgt := 40) d_Rows_add_7 (by decide) (fun hj1 => ?_) (fun hj1 => ?_)
  · rw [if_pos hj1] at hp
    refine ev_sub (ls2 := []) [] rfl ?_
    exact e_Rows_add_8_40 t ok  hQ    f g hp
  · rw [if_neg hj1] at hp
    refine et_aload_n (pc := 10) d_Rows_add_10 rfl rfl ?_
    refine et_getr (pc := 11) ok (fl_Rows_9 t) rfl d_Rows_add_11 s_8 r_8_0 ?_
    refine et_aload_n (pc := 14) d_Rows_add_14 rfl rfl ?_
    refine et_geti (pc := 15) ok (fl_Rows_18 t) rfl d_Rows_add_15 s_8 ?_
    refine ev_iload_n (pc := 18) d_Rows_add_18 rfl rfl ?_
    replace hp := q_if hp
    obtain ⟨hb2, hp⟩ := hp
    refine et_iast (pc := 19) d_Rows_add_19 s_9 hb2 (by decide) ?_
    replace hp := q_let_of hp
    obtain ⟨f3, hz, hp⟩ := hp
    rw [← hz]
    clear hz
    refine et_aload_n (pc := 20) d_Rows_add_20 rfl rfl ?_
    refine et_getr (pc := 21) ok (fl_Rows_15 t) rfl d_Rows_add_21 s_8 r_8_1 ?_
    refine et_aload_n (pc := 24) d_Rows_add_24 rfl rfl ?_
    refine et_geti (pc := 25) ok (fl_Rows_18 t) rfl d_Rows_add_25 s_8 ?_
    refine ev_iload_n (pc := 28) d_Rows_add_28 rfl rfl ?_
    replace hp := q_if hp
    obtain ⟨hb4, hp⟩ := hp
    refine et_iast (pc := 29) d_Rows_add_29 s_10 hb4 (by decide) ?_
    replace hp := q_let_of hp
    obtain ⟨f5, hz, hp⟩ := hp
    rw [← hz]
    clear hz
    refine et_aload_n (pc := 30) d_Rows_add_30 rfl rfl ?_
    refine ev_dup (pc := 31) d_Rows_add_31 rfl ?_
    refine et_geti (pc := 32) ok (fl_Rows_18 t) rfl d_Rows_add_32 s_8 ?_
    refine ev_iconst (pc := 35) d_Rows_add_35 ?_
    refine ev_iadd (pc := 36) d_Rows_add_36 ?_
    refine et_puti (pc := 37) ok (fl_Rows_18 t) d_Rows_add_37 s_8 ?_
    replace hp := q_let_of hp
    obtain ⟨f6, hz, hp⟩ := hp
    rw [← hz]
    clear hz
    refine ev_sub (ls2 := []) [] rfl ?_
    exact e_Rows_add_8_40 t ok  hQ    f6 g hp
def p_Rows_add_11_40    (f g : q_F) : Option (q_F × q_F) :=
  some (f, g)
def p_Rows_add_11  (v1 : Int) (v2 : Int) (f g : q_F) : Option (q_F × q_F) :=
  if q_sw 160 ≤ q_sw (f 11 2) then
    p_Rows_add_11_40    f g
  else
    if 0 ≤ (f 11 2) ∧ (f 11 2) < 160 then
      q_let (ma_up f 12 (Int.toNat (f 11 2)) v1) fun f3 =>
      if 0 ≤ (f3 11 2) ∧ (f3 11 2) < 160 then
        q_let (ma_up f3 13 (Int.toNat (f3 11 2)) v2) fun f5 =>
        q_let (ma_up f5 11 2 ((f5 11 2) + 1)) fun f6 =>
        p_Rows_add_11_40    f6 g
      else none
    else none
theorem e_Rows_add_11_40 (t : q_V) (ok : ma_ok (q_G t))  {Q : Option Value → ma_H → Prop} {y : q_F × q_F} (hQ : Q (none) (q_h y.1 y.2))    (f g : q_F) (hp : p_Rows_add_11_40    f g = some y) : ma_Ev (q_G t) 0 0 0 0 m_Rows_add 40 [] [] (q_h f g) (ma_zr (q_G t) false Q) := by
  unfold p_Rows_add_11_40 at hp
  cases Option.some.inj hp
  exact et_ret (pc := 40) d_Rows_add_40 rfl hQ
theorem t_Rows_add_11 (t : q_V) (ok : ma_ok (q_G t))  {Q : Option Value → ma_H → Prop} {y : q_F × q_F} (v1 : Int) (v2 : Int) (f g : q_F) (hp : p_Rows_add_11  v1 v2 f g = some y) (hQ : Q (none) (q_h y.1 y.2)) : ma_Met (q_G t) false 0 0 0 0 m_Rows_add [q_a t (11), ma_i (v1), ma_i (v2)] (q_h f g) Q := by
  refine ma_met (by decide +kernel) (q_ble rfl) rfl ?_
  change ma_Ev (q_G t) 0 0 0 0 m_Rows_add 0 [(0, q_a t (11)), (1, ma_i (v1)), (2, ma_i (v2))] [] (q_h f g) (ma_zr (q_G t) false Q)
  unfold p_Rows_add_11 at hp
  refine et_aload_n (pc := 0) d_Rows_add_0 rfl rfl ?_
  refine et_geti (pc := 1) ok (fl_Rows_18 t) rfl d_Rows_add_1 s_11 ?_
  refine ev_sipush (pc := 4) d_Rows_add_4 rfl ?_
  refine et_icmp_ge (pc := 7) (tgt := 40) d_Rows_add_7 (by decide) (fun hj1 => ?_) (fun hj1 => ?_)
  · rw [if_pos hj1] at hp
    refine ev_sub (ls2 := []) [] rfl ?_
    exact e_Rows_add_11_40 t ok  hQ    f g hp
  · rw [if_neg hj1] at hp
    refine et_aload_n (pc := 10) d_Rows_add_10 rfl rfl ?_
    refine et_getr (pc := 11) ok (fl_Rows_9 t) rfl d_Rows_add_11 s_11 r_11_0 ?_
    refine et_aload_n (pc := 14) d_Rows_add_14 rfl rfl ?_
    refine et_geti (pc := 15) ok (fl_Rows_18 t) rfl d_Rows_add_15 s_11 ?_
    refine ev_iload_n (pc := 18) d_Rows_add_18 rfl rfl ?_
    replace hp := q_if hp
    obtain ⟨hb2, hp⟩ := hp
    refine et_iast (pc := 19) d_Rows_add_19 s_12 hb2 (by decide) ?_
    replace hp := q_let_of hp
    obtain ⟨f3, hz, hp⟩ := hp
    rw [← hz]
    clear hz
    refine et_aload_n (pc := 20) d_Rows_add_20 rfl rfl ?_
    refine et_getr (pc := 21) ok (fl_Rows_15 t) rfl d_Rows_add_21 s_11 r_11_1 ?_
    refine et_aload_n (pc := 24) d_Rows_add_24 rfl rfl ?_
    refine et_geti (pc := 25) ok (fl_Rows_18 t) rfl d_Rows_add_25 s_11 ?_
    refine ev_iload_n (pc := 28) d_Rows_add_28 rfl rfl ?_
    replace hp := q_if hp
    obtain ⟨hb4, hp⟩ := hp
    refine et_iast (pc := 29) d_Rows_add_29 s_13 hb4 (by decide) ?_
    replace hp := q_let_of hp
    obtain ⟨f5, hz, hp⟩ := hp
    rw [← hz]
    clear hz
    refine et_aload_n (pc := 30) d_Rows_add_30 rfl rfl ?_
    refine ev_dup (pc := 31) d_Rows_add_31 rfl ?_
    refine et_geti (pc := 32) ok (fl_Rows_18 t) rfl d_Rows_add_32 s_11 ?_
    refine ev_iconst (pc := 35) d_Rows_add_35 ?_
    refine ev_iadd (pc := 36) d_Rows_add_36 ?_
    refine et_puti (pc := 37) ok (fl_Rows_18 t) d_Rows_add_37 s_11 ?_
    replace hp := q_let_of hp
    obtain ⟨f6, hz, hp⟩ := hp
    rw [← hz]
    clear hz
    refine ev_sub (ls2 := []) [] rfl ?_
    exact e_Rows_add_11_40 t ok  hQ    f6 g hp
theorem d_Memory_fetch_0 : decode (m_c m_Memory_fetch) 0 = .ok (.iload_n 1, 1) := by decide +kernel
theorem d_Memory_fetch_1 : decode (m_c m_Memory_fetch) 1 = .ok (.ifCond .lt 19, 3) := by decide +kernel
theorem d_Memory_fetch_4 : decode (m_c m_Memory_fetch) 4 = .ok (.iload_n 1, 1) := by decide +kernel
theorem d_Memory_fetch_5 : decode (m_c m_Memory_fetch) 5 = .ok (.sipush 512, 3) := by decide +kernel
theorem d_Memory_fetch_8 : decode (m_c m_Memory_fetch) 8 = .ok (.if_icmp .ge 12, 3) := by decide +kernel
theorem d_Memory_fetch_11 : decode (m_c m_Memory_fetch) 11 = .ok (.aload_n 0, 1) := by decide +kernel
theorem d_Memory_fetch_12 : decode (m_c m_Memory_fetch) 12 = .ok (.getfield 9, 3) := by decide +kernel
theorem d_Memory_fetch_15 : decode (m_c m_Memory_fetch) 15 = .ok (.iload_n 1, 1) := by decide +kernel
theorem d_Memory_fetch_16 : decode (m_c m_Memory_fetch) 16 = .ok (.iaload, 1) := by decide +kernel
theorem d_Memory_fetch_17 : decode (m_c m_Memory_fetch) 17 = .ok (.goto 4, 3) := by decide +kernel
theorem d_Memory_fetch_20 : decode (m_c m_Memory_fetch) 20 = .ok (.iconst 0, 1) := by decide +kernel
theorem d_Memory_fetch_21 : decode (m_c m_Memory_fetch) 21 = .ok (.ireturn, 1) := by decide +kernel
def p_Memory_fetch_21   (s0 : Int) (f g : q_F) : Option (Int × q_F × q_F) :=
  some (s0, f, g)
def p_Memory_fetch_20    (f g : q_F) : Option (Int × q_F × q_F) :=
  p_Memory_fetch_21   (0) f g
def p_Memory_fetch  (v1 : Int) (f g : q_F) : Option (Int × q_F × q_F) :=
  if q_sw v1 < 0 then
    p_Memory_fetch_20    f g
  else
    if q_sw 512 ≤ q_sw v1 then
      p_Memory_fetch_20    f g
    else
      if 0 ≤ v1 ∧ v1 < 512 then
        p_Memory_fetch_21   (f 59 (Int.toNat v1)) f g
      else none
theorem e_Memory_fetch_21 (t : q_V) (ok : ma_ok (q_G t))  {Q : Option Value → ma_H → Prop} {y : Int × q_F × q_F} (hQ : Q (some (ma_i y.1)) (q_h y.2.1 y.2.2))   (s0 : Int) (f g : q_F) (hp : p_Memory_fetch_21   s0 f g = some y) : ma_Ev (q_G t) 0 0 0 0 m_Memory_fetch 21 [] [ma_i (s0)] (q_h f g) (ma_zr (q_G t) false Q) := by
  unfold p_Memory_fetch_21 at hp
  cases Option.some.inj hp
  exact et_iret (pc := 21) d_Memory_fetch_21 rfl hQ
theorem e_Memory_fetch_20 (t : q_V) (ok : ma_ok (q_G t))  {Q : Option Value → ma_H → Prop} {y : Int × q_F × q_F} (hQ : Q (some (ma_i y.1)) (q_h y.2.1 y.2.2))    (f g : q_F) (hp : p_Memory_fetch_20    f g = some y) : ma_Ev (q_G t) 0 0 0 0 m_Memory_fetch 20 [] [] (q_h f g) (ma_zr (q_G t) false Q) := by
  unfold p_Memory_fetch_20 at hp
  refine ev_iconst (pc := 20) d_Memory_fetch_20 ?_
  refine ev_sub (ls2 := []) [] rfl ?_
  exact e_Memory_fetch_21 t ok  hQ   (0) f g hp
theorem t_Memory_fetch (t : q_V) (ok : ma_ok (q_G t))  {Q : Option Value → ma_H → Prop} {y : Int × q_F × q_F} (v1 : Int) (f g : q_F) (hp : p_Memory_fetch  v1 f g = some y) (hQ : Q (some (ma_i y.1)) (q_h y.2.1 y.2.2)) : ma_Met (q_G t) false 0 0 0 0 m_Memory_fetch [q_a t (58), ma_i (v1)] (q_h f g) Q := by
  refine ma_met (by decide +kernel) (q_ble rfl) rfl ?_
  change ma_Ev (q_G t) 0 0 0 0 m_Memory_fetch 0 [(0, q_a t (58)), (1, ma_i (v1))] [] (q_h f g) (ma_zr (q_G t) false Q)
  unfold p_Memory_fetch at hp
  refine ev_iload_n (pc := 0) d_Memory_fetch_0 rfl rfl ?_
  refine et_if_lt (pc := 1) (tgt := 20) d_Memory_fetch_1 (by decide) (fun hj1 => ?_) (fun hj1 => ?_)
  · rw [if_pos hj1] at hp
    refine ev_sub (ls2 := []) [] rfl ?_
    exact e_Memory_fetch_20 t ok  hQ    f g hp
  · rw [if_neg hj1] at hp
    refine ev_iload_n (pc := 4) d_Memory_fetch_4 rfl rfl ?_
    refine ev_sipush (pc := 5) d_Memory_fetch_5 rfl ?_
    refine et_icmp_ge (pc := 8) (tgt := 20) d_Memory_fetch_8 (by decide) (fun hj2 => ?_) (fun hj2 => ?_)
    · rw [if_pos hj2] at hp
      refine ev_sub (ls2 := []) [] rfl ?_
      exact e_Memory_fetch_20 t ok  hQ    f g hp
    · rw [if_neg hj2] at hp
      refine et_aload_n (pc := 11) d_Memory_fetch_11 rfl rfl ?_
      refine et_getr (pc := 12) ok (fl_Memory_9 t) rfl d_Memory_fetch_12 s_58 r_58_0 ?_
      refine ev_iload_n (pc := 15) d_Memory_fetch_15 rfl rfl ?_
      replace hp := q_if hp
      obtain ⟨hb3, hp⟩ := hp
      refine et_iald (pc := 16) d_Memory_fetch_16 s_59 hb3 (by decide) ?_
      refine ev_goto (pc := 17) (tgt := 21) d_Memory_fetch_17 (by decide) ?_
      refine ev_sub (ls2 := []) [] rfl ?_
      exact e_Memory_fetch_21 t ok  hQ   (f 59 (Int.toNat v1)) f g hp
theorem d_Memory_store_0 : decode (m_c m_Memory_store) 0 = .ok (.iload_n 1, 1) := by decide +kernel
theorem d_Memory_store_1 : decode (m_c m_Memory_store) 1 = .ok (.ifCond .lt 17, 3) := by decide +kernel
theorem d_Memory_store_4 : decode (m_c m_Memory_store) 4 = .ok (.iload_n 1, 1) := by decide +kernel
theorem d_Memory_store_5 : decode (m_c m_Memory_store) 5 = .ok (.sipush 512, 3) := by decide +kernel
theorem d_Memory_store_8 : decode (m_c m_Memory_store) 8 = .ok (.if_icmp .ge 10, 3) := by decide +kernel
theorem d_Memory_store_11 : decode (m_c m_Memory_store) 11 = .ok (.aload_n 0, 1) := by decide +kernel
theorem d_Memory_store_12 : decode (m_c m_Memory_store) 12 = .ok (.getfield 9, 3) := by decide +kernel
theorem d_Memory_store_15 : decode (m_c m_Memory_store) 15 = .ok (.iload_n 1, 1) := by decide +kernel
theorem d_Memory_store_16 : decode (m_c m_Memory_store) 16 = .ok (.iload_n 2, 1) := by decide +kernel
theorem d_Memory_store_17 : decode (m_c m_Memory_store) 17 = .ok (.iastore, 1) := by decide +kernel
theorem d_Memory_store_18 : decode (m_c m_Memory_store) 18 = .ok (.return_, 1) := by decide +kernel
def p_Memory_store_18    (f g : q_F) : Option (q_F × q_F) :=
  some (f, g)
def p_Memory_store  (v1 : Int) (v2 : Int) (f g : q_F) : Option (q_F × q_F) :=
  if q_sw v1 < 0 then
    p_Memory_store_18    f g
  else
    if q_sw 512 ≤ q_sw v1 then
      p_Memory_store_18    f g
    else
      if 0 ≤ v1 ∧ v1 < 512 then
        q_let (ma_up f 59 (Int.toNat v1) v2) fun f4 =>
        p_Memory_store_18    f4 g
      else none
theorem e_Memory_store_18 (t : q_V) (ok : ma_ok (q_G t))  {Q : Option Value → ma_H → Prop} {y : q_F × q_F} (hQ : Q (none) (q_h y.1 y.2))    (f g : q_F) (hp : p_Memory_store_18    f g = some y) : ma_Ev (q_G t) 0 0 0 0 m_Memory_store 18 [] [] (q_h f g) (ma_zr (q_G t) false Q) := by
  unfold p_Memory_store_18 at hp
  cases Option.some.inj hp
  exact et_ret (pc := 18) d_Memory_store_18 rfl hQ
theorem t_Memory_store (t : q_V) (ok : ma_ok (q_G t))  {Q : Option Value → ma_H → Prop} {y : q_F × q_F} (v1 : Int) (v2 : Int) (f g : q_F) (hp : p_Memory_store  v1 v2 f g = some y) (hQ : Q (none) (q_h y.1 y.2)) : ma_Met (q_G t) false 0 0 0 0 m_Memory_store [q_a t (58), ma_i (v1), ma_i (v2)] (q_h f g) Q := by
  refine ma_met (by decide +kernel) (q_ble rfl) rfl ?_
  change ma_Ev (q_G t) 0 0 0 0 m_Memory_store 0 [(0, q_a t (58)), (1, ma_i (v1)), (2, ma_i (v2))] [] (q_h f g) (ma_zr (q_G t) false Q)
  unfold p_Memory_store at hp
  refine ev_iload_n (pc := 0) d_Memory_store_0 rfl rfl ?_
  refine et_if_lt (pc := 1) (tgt := 18) d_Memory_store_1 (by decide) (fun hj1 => ?_) (fun hj1 => ?_)
  · rw [if_pos hj1] at hp
    refine ev_sub (ls2 := []) [] rfl ?_
    exact e_Memory_store_18 t ok  hQ    f g hp
  · rw [if_neg hj1] at hp
    refine ev_iload_n (pc := 4) d_Memory_store_4 rfl rfl ?_
    refine ev_sipush (pc := 5) d_Memory_store_5 rfl ?_
    refine et_icmp_ge (pc := 8) (tgt := 18) d_Memory_store_8 (by decide) (fun hj2 => ?_) (fun hj2 => ?_)
    · rw [if_pos hj2] at hp
      refine ev_sub (ls2 := []) [] rfl ?_
      exact e_Memory_store_18 t ok  hQ    f g hp
    · rw [if_neg hj2] at hp
      refine et_aload_n (pc := 11) d_Memory_store_11 rfl rfl ?_
      refine et_getr (pc := 12) ok (fl_Memory_9 t) rfl d_Memory_store_12 s_58 r_58_0 ?_
      refine ev_iload_n (pc := 15) d_Memory_store_15 rfl rfl ?_
      refine ev_iload_n (pc := 16) d_Memory_store_16 rfl rfl ?_
      replace hp := q_if hp
      obtain ⟨hb3, hp⟩ := hp
      refine et_iast (pc := 17) d_Memory_store_17 s_59 hb3 (by decide) ?_
      replace hp := q_let_of hp
      obtain ⟨f4, hz, hp⟩ := hp
      rw [← hz]
      clear hz
      refine ev_sub (ls2 := []) [] rfl ?_
      exact e_Memory_store_18 t ok  hQ    f4 g hp
theorem d_Memory_fill_0 : decode (m_c m_Memory_fill) 0 = .ok (.iconst 0, 1) := by decide +kernel
theorem d_Memory_fill_1 : decode (m_c m_Memory_fill) 1 = .ok (.istore 4, 2) := by decide +kernel
theorem d_Memory_fill_3 : decode (m_c m_Memory_fill) 3 = .ok (.iload 4, 2) := by decide +kernel
theorem d_Memory_fill_5 : decode (m_c m_Memory_fill) 5 = .ok (.iload_n 2, 1) := by decide +kernel
theorem d_Memory_fill_6 : decode (m_c m_Memory_fill) 6 = .ok (.if_icmp .ge 18, 3) := by decide +kernel
theorem d_Memory_fill_9 : decode (m_c m_Memory_fill) 9 = .ok (.aload_n 0, 1) := by decide +kernel
theorem d_Memory_fill_10 : decode (m_c m_Memory_fill) 10 = .ok (.iload_n 1, 1) := by decide +kernel
theorem d_Memory_fill_11 : decode (m_c m_Memory_fill) 11 = .ok (.iload 4, 2) := by decide +kernel
theorem d_Memory_fill_13 : decode (m_c m_Memory_fill) 13 = .ok (.iadd, 1) := by decide +kernel
theorem d_Memory_fill_14 : decode (m_c m_Memory_fill) 14 = .ok (.iload_n 3, 1) := by decide +kernel
theorem d_Memory_fill_15 : decode (m_c m_Memory_fill) 15 = .ok (.invokevirtual 15, 3) := by decide +kernel
theorem d_Memory_fill_18 : decode (m_c m_Memory_fill) 18 = .ok (.iinc 4 1, 3) := by decide +kernel
theorem d_Memory_fill_21 : decode (m_c m_Memory_fill) 21 = .ok (.goto (-18), 3) := by decide +kernel
theorem d_Memory_fill_24 : decode (m_c m_Memory_fill) 24 = .ok (.return_, 1) := by decide +kernel
def p_Memory_fill_3   : Nat → Int → Int → Int → Int → q_F → q_F → Option (q_F × q_F)
  | 0, _, _, _, _, _, _ => none
  | n + 1, v1, v2, v3, v4, f, g =>
    if q_sw v2 ≤ q_sw v4 then
      some (f, g)
    else
      (p_Memory_store (v1 + v4) (v3) f g).bind fun x2 =>
      q_let (v4 + 1) fun z4 =>
      (p_Memory_fill_3   n) (v1) (v2) (v3) (z4) x2.1 x2.2
def p_Memory_fill  (v1 : Int) (v2 : Int) (v3 : Int) (f g : q_F) : Option (q_F × q_F) :=
  p_Memory_fill_3   1000 (v1) (v2) (v3) (0) f g
theorem e_Memory_fill_3 (t : q_V) (ok : ma_ok (q_G t))  {Q : Option Value → ma_H → Prop} {y : q_F × q_F} (hQ : Q (none) (q_h y.1 y.2))   : ∀ (n : Nat) (v1 : Int) (v2 : Int) (v3 : Int) (v4 : Int) (f g : q_F), p_Memory_fill_3   n v1 v2 v3 v4 f g = some y → ma_Ev (q_G t) 1 22 0 0 m_Memory_fill 3 [(0, q_a t (58)), (1, ma_i (v1)), (2, ma_i (v2)), (3, ma_i (v3)), (4, ma_i (v4))] [] (q_h f g) (ma_zr (q_G t) false Q) := by
  intro n
  induction n with
  | zero =>
    intro v1 v2 v3 v4 f g hp
    rw [p_Memory_fill_3] at hp
    cases hp
  | succ n ih =>
    intro v1 v2 v3 v4 f g hp
    rw [p_Memory_fill_3] at hp
    refine ev_iload (pc := 3) d_Memory_fill_3 rfl ?_
    refine ev_iload_n (pc := 5) d_Memory_fill_5 rfl rfl ?_
    refine et_icmp_ge (pc := 6) (tgt := 24) d_Memory_fill_6 (by decide) (fun hj1 => ?_) (fun hj1 => ?_)
    · rw [if_pos hj1] at hp
      cases Option.some.inj hp
      exact et_ret (pc := 24) d_Memory_fill_24 rfl hQ
    · rw [if_neg hj1] at hp
      refine et_aload_n (pc := 9) d_Memory_fill_9 rfl rfl ?_
      refine ev_iload_n (pc := 10) d_Memory_fill_10 rfl rfl ?_
      refine ev_iload (pc := 11) d_Memory_fill_11 rfl ?_
      refine ev_iadd (pc := 13) d_Memory_fill_13 ?_
      refine ev_iload_n (pc := 14) d_Memory_fill_14 rfl rfl ?_
      replace hp := q_bind hp
      obtain ⟨x2, hm3, hp⟩ := hp
      refine et_callVv (pc := 15) (f1 := x2.1) (g1 := x2.2) ok [ma_i (v1 + v4), ma_i (v3)] [] (cf_Memory_15 t) d_Memory_fill_15 s_58 k_11 rfl (t_Memory_store t ok (v1 + v4) (v3) f g hm3 ⟨rfl, rfl⟩) rfl rfl (by decide) (by decide) (q_ble rfl) ?_
      refine ev_iinc (pc := 18) d_Memory_fill_18 (by decide) rfl [(4, _), (0, _), (1, _), (2, _), (3, _)] rfl ?_
      replace hp := q_let_of hp
      obtain ⟨z4, hz, hp⟩ := hp
      rw [← hz]
      clear hz
      refine ev_goto (pc := 21) (tgt := 3) d_Memory_fill_21 (by decide) ?_
      refine ev_sub (ls2 := [(0, q_a t (58)), (1, ma_i (v1)), (2, ma_i (v2)), (3, ma_i (v3)), (4, ma_i (z4))]) [1, 2, 3, 4, 0] rfl ?_
      exact ih (v1) (v2) (v3) (z4) x2.1 x2.2 hp
theorem t_Memory_fill (t : q_V) (ok : ma_ok (q_G t))  {Q : Option Value → ma_H → Prop} {y : q_F × q_F} (v1 : Int) (v2 : Int) (v3 : Int) (f g : q_F) (hp : p_Memory_fill  v1 v2 v3 f g = some y) (hQ : Q (none) (q_h y.1 y.2)) : ma_Met (q_G t) false 1 22 0 0 m_Memory_fill [q_a t (58), ma_i (v1), ma_i (v2), ma_i (v3)] (q_h f g) Q := by
  refine ma_met (by decide +kernel) (q_ble rfl) rfl ?_
  change ma_Ev (q_G t) 1 22 0 0 m_Memory_fill 0 [(0, q_a t (58)), (1, ma_i (v1)), (2, ma_i (v2)), (3, ma_i (v3))] [] (q_h f g) (ma_zr (q_G t) false Q)
  unfold p_Memory_fill at hp
  refine ev_iconst (pc := 0) d_Memory_fill_0 ?_
  refine ev_istore (pc := 1) d_Memory_fill_1 (by decide) [(4, _), (0, _), (1, _), (2, _), (3, _)] rfl ?_
  refine ev_sub (ls2 := [(0, q_a t (58)), (1, ma_i (v1)), (2, ma_i (v2)), (3, ma_i (v3)), (4, ma_i (0))]) [1, 2, 3, 4, 0] rfl ?_
  exact e_Memory_fill_3 t ok  hQ   1000 (v1) (v2) (v3) (0) f g hp
theorem d_Memory_bring_0 : decode (m_c m_Memory_bring) 0 = .ok (.iconst 0, 1) := by decide +kernel
theorem d_Memory_bring_1 : decode (m_c m_Memory_bring) 1 = .ok (.istore_n 3, 1) := by decide +kernel
theorem d_Memory_bring_2 : decode (m_c m_Memory_bring) 2 = .ok (.iload_n 3, 1) := by decide +kernel
theorem d_Memory_bring_3 : decode (m_c m_Memory_bring) 3 = .ok (.aload_n 1, 1) := by decide +kernel
theorem d_Memory_bring_4 : decode (m_c m_Memory_bring) 4 = .ok (.getfield 19, 3) := by decide +kernel
theorem d_Memory_bring_7 : decode (m_c m_Memory_bring) 7 = .ok (.if_icmp .ge 26, 3) := by decide +kernel
theorem d_Memory_bring_10 : decode (m_c m_Memory_bring) 10 = .ok (.aload_n 0, 1) := by decide +kernel
theorem d_Memory_bring_11 : decode (m_c m_Memory_bring) 11 = .ok (.iload_n 2, 1) := by decide +kernel
theorem d_Memory_bring_12 : decode (m_c m_Memory_bring) 12 = .ok (.iload_n 3, 1) := by decide +kernel
theorem d_Memory_bring_13 : decode (m_c m_Memory_bring) 13 = .ok (.iadd, 1) := by decide +kernel
theorem d_Memory_bring_14 : decode (m_c m_Memory_bring) 14 = .ok (.aload_n 1, 1) := by decide +kernel
theorem d_Memory_bring_15 : decode (m_c m_Memory_bring) 15 = .ok (.getfield 25, 3) := by decide +kernel
theorem d_Memory_bring_18 : decode (m_c m_Memory_bring) 18 = .ok (.iload_n 3, 1) := by decide +kernel
theorem d_Memory_bring_19 : decode (m_c m_Memory_bring) 19 = .ok (.iadd, 1) := by decide +kernel
theorem d_Memory_bring_20 : decode (m_c m_Memory_bring) 20 = .ok (.sipush 255, 3) := by decide +kernel
theorem d_Memory_bring_23 : decode (m_c m_Memory_bring) 23 = .ok (.iand, 1) := by decide +kernel
theorem d_Memory_bring_24 : decode (m_c m_Memory_bring) 24 = .ok (.invokevirtual 15, 3) := by decide +kernel
theorem d_Memory_bring_27 : decode (m_c m_Memory_bring) 27 = .ok (.iinc 3 1, 3) := by decide +kernel
theorem d_Memory_bring_30 : decode (m_c m_Memory_bring) 30 = .ok (.goto (-28), 3) := by decide +kernel
theorem d_Memory_bring_33 : decode (m_c m_Memory_bring) 33 = .ok (.return_, 1) := by decide +kernel
def p_Memory_bring_2   : Nat → Nat → Int → Int → q_F → q_F → Option (q_F × q_F)
  | 0, _, _, _, _, _ => none
  | n + 1, a1, v2, v3, f, g =>
    if 16 ≤ a1 ∧ a1 < 24 then
      if q_sw (f a1 0) ≤ q_sw v3 then
        some (f, g)
      else
        (p_Memory_store (v2 + v3) (q_and ((f a1 2) + v3) 255) f g).bind fun x2 =>
        q_let (v3 + 1) fun z4 =>
        (p_Memory_bring_2   n) (a1) (v2) (z4) x2.1 x2.2
    else none
def p_Memory_bring  (a1 : Nat) (v2 : Int) (f g : q_F) : Option (q_F × q_F) :=
  if 16 ≤ a1 ∧ a1 < 24 then
    p_Memory_bring_2   1000 (a1) (v2) (0) f g
  else none
theorem e_Memory_bring_2 (t : q_V) (ok : ma_ok (q_G t))  {Q : Option Value → ma_H → Prop} {y : q_F × q_F} (hQ : Q (none) (q_h y.1 y.2))   : ∀ (n : Nat) (a1 : Nat) (v2 : Int) (v3 : Int) (f g : q_F), p_Memory_bring_2   n a1 v2 v3 f g = some y → ma_Ev (q_G t) 1 22 0 0 m_Memory_bring 2 [(0, q_a t (58)), (1, q_a t (a1)), (2, ma_i (v2)), (3, ma_i (v3))] [] (q_h f g) (ma_zr (q_G t) false Q) := by
  intro n
  induction n with
  | zero =>
    intro a1 v2 v3 f g hp
    rw [p_Memory_bring_2] at hp
    cases hp
  | succ n ih =>
    intro a1 v2 v3 f g hp
    rw [p_Memory_bring_2] at hp
    replace hp := q_if hp
    obtain ⟨hb_a1, hp⟩ := hp
    refine ev_iload_n (pc := 2) d_Memory_bring_2 rfl rfl ?_
    refine et_aload_n (pc := 3) d_Memory_bring_3 rfl rfl ?_
    refine et_geti (pc := 4) ok (fl_Memory_19 t) rfl d_Memory_bring_4 (s_16 _ (by omega) (by omega)) ?_
    refine et_icmp_ge (pc := 7) (tgt := 33) d_Memory_bring_7 (by decide) (fun hj1 => ?_) (fun hj1 => ?_)
    · rw [if_pos hj1] at hp
      cases Option.some.inj hp
      exact et_ret (pc := 33) d_Memory_bring_33 rfl hQ
    · rw [if_neg hj1] at hp
      refine et_aload_n (pc := 10) d_Memory_bring_10 rfl rfl ?_
      refine ev_iload_n (pc := 11) d_Memory_bring_11 rfl rfl ?_
      refine ev_iload_n (pc := 12) d_Memory_bring_12 rfl rfl ?_
      refine ev_iadd (pc := 13) d_Memory_bring_13 ?_
      refine et_aload_n (pc := 14) d_Memory_bring_14 rfl rfl ?_
      refine et_geti (pc := 15) ok (fl_Memory_25 t) rfl d_Memory_bring_15 (s_16 _ (by omega) (by omega)) ?_
      refine ev_iload_n (pc := 18) d_Memory_bring_18 rfl rfl ?_
      refine ev_iadd (pc := 19) d_Memory_bring_19 ?_
      refine ev_sipush (pc := 20) d_Memory_bring_20 rfl ?_
      refine et_iand (pc := 23) d_Memory_bring_23 ?_
      replace hp := q_bind hp
      obtain ⟨x2, hm3, hp⟩ := hp
      refine et_callVv (pc := 24) (f1 := x2.1) (g1 := x2.2) ok [ma_i (v2 + v3), ma_i (q_and ((f a1 2) + v3) 255)] [] (cf_Memory_15 t) d_Memory_bring_24 s_58 k_11 rfl (t_Memory_store t ok (v2 + v3) (q_and ((f a1 2) + v3) 255) f g hm3 ⟨rfl, rfl⟩) rfl rfl (by decide) (by decide) (q_ble rfl) ?_
      refine ev_iinc (pc := 27) d_Memory_bring_27 (by decide) rfl [(3, _), (0, _), (1, _), (2, _)] rfl ?_
      replace hp := q_let_of hp
      obtain ⟨z4, hz, hp⟩ := hp
      rw [← hz]
      clear hz
      refine ev_goto (pc := 30) (tgt := 2) d_Memory_bring_30 (by decide) ?_
      refine ev_sub (ls2 := [(0, q_a t (58)), (1, q_a t (a1)), (2, ma_i (v2)), (3, ma_i (z4))]) [1, 2, 3, 0] rfl ?_
      exact ih (a1) (v2) (z4) x2.1 x2.2 hp
theorem t_Memory_bring (t : q_V) (ok : ma_ok (q_G t))  {Q : Option Value → ma_H → Prop} {y : q_F × q_F} (a1 : Nat) (v2 : Int) (f g : q_F) (hp : p_Memory_bring  a1 v2 f g = some y) (hQ : Q (none) (q_h y.1 y.2)) : ma_Met (q_G t) false 1 22 0 0 m_Memory_bring [q_a t (58), q_a t (a1), ma_i (v2)] (q_h f g) Q := by
  refine ma_met (by decide +kernel) (q_ble rfl) rfl ?_
  change ma_Ev (q_G t) 1 22 0 0 m_Memory_bring 0 [(0, q_a t (58)), (1, q_a t (a1)), (2, ma_i (v2))] [] (q_h f g) (ma_zr (q_G t) false Q)
  unfold p_Memory_bring at hp
  replace hp := q_if hp
  obtain ⟨hb_a1, hp⟩ := hp
  refine ev_iconst (pc := 0) d_Memory_bring_0 ?_
  refine ev_istore_n (pc := 1) d_Memory_bring_1 rfl (by decide) [(3, _), (0, _), (1, _), (2, _)] rfl ?_
  refine ev_sub (ls2 := [(0, q_a t (58)), (1, q_a t (a1)), (2, ma_i (v2)), (3, ma_i (0))]) [1, 2, 3, 0] rfl ?_
  exact e_Memory_bring_2 t ok  hQ   1000 (a1) (v2) (0) f g hp
theorem d_Memory_move_0 : decode (m_c m_Memory_move) 0 = .ok (.iconst 0, 1) := by decide +kernel
theorem d_Memory_move_1 : decode (m_c m_Memory_move) 1 = .ok (.istore 4, 2) := by decide +kernel
theorem d_Memory_move_3 : decode (m_c m_Memory_move) 3 = .ok (.iload 4, 2) := by decide +kernel
theorem d_Memory_move_5 : decode (m_c m_Memory_move) 5 = .ok (.iload_n 3, 1) := by decide +kernel
theorem d_Memory_move_6 : decode (m_c m_Memory_move) 6 = .ok (.if_icmp .ge 25, 3) := by decide +kernel
theorem d_Memory_move_9 : decode (m_c m_Memory_move) 9 = .ok (.aload_n 0, 1) := by decide +kernel
theorem d_Memory_move_10 : decode (m_c m_Memory_move) 10 = .ok (.iload_n 2, 1) := by decide +kernel
theorem d_Memory_move_11 : decode (m_c m_Memory_move) 11 = .ok (.iload 4, 2) := by decide +kernel
theorem d_Memory_move_13 : decode (m_c m_Memory_move) 13 = .ok (.iadd, 1) := by decide +kernel
theorem d_Memory_move_14 : decode (m_c m_Memory_move) 14 = .ok (.aload_n 0, 1) := by decide +kernel
theorem d_Memory_move_15 : decode (m_c m_Memory_move) 15 = .ok (.iload_n 1, 1) := by decide +kernel
theorem d_Memory_move_16 : decode (m_c m_Memory_move) 16 = .ok (.iload 4, 2) := by decide +kernel
theorem d_Memory_move_18 : decode (m_c m_Memory_move) 18 = .ok (.iadd, 1) := by decide +kernel
theorem d_Memory_move_19 : decode (m_c m_Memory_move) 19 = .ok (.invokevirtual 28, 3) := by decide +kernel
theorem d_Memory_move_22 : decode (m_c m_Memory_move) 22 = .ok (.invokevirtual 15, 3) := by decide +kernel
theorem d_Memory_move_25 : decode (m_c m_Memory_move) 25 = .ok (.iinc 4 1, 3) := by decide +kernel
theorem d_Memory_move_28 : decode (m_c m_Memory_move) 28 = .ok (.goto (-25), 3) := by decide +kernel
theorem d_Memory_move_31 : decode (m_c m_Memory_move) 31 = .ok (.return_, 1) := by decide +kernel
def p_Memory_move_3   : Nat → Int → Int → Int → Int → q_F → q_F → Option (q_F × q_F)
  | 0, _, _, _, _, _, _ => none
  | n + 1, v1, v2, v3, v4, f, g =>
    if q_sw v3 ≤ q_sw v4 then
      some (f, g)
    else
      (p_Memory_fetch (v1 + v4) f g).bind fun x2 =>
      (p_Memory_store (v2 + v4) (x2.1) x2.2.1 x2.2.2).bind fun x4 =>
      q_let (v4 + 1) fun z6 =>
      (p_Memory_move_3   n) (v1) (v2) (v3) (z6) x4.1 x4.2
def p_Memory_move  (v1 : Int) (v2 : Int) (v3 : Int) (f g : q_F) : Option (q_F × q_F) :=
  p_Memory_move_3   1000 (v1) (v2) (v3) (0) f g
theorem e_Memory_move_3 (t : q_V) (ok : ma_ok (q_G t))  {Q : Option Value → ma_H → Prop} {y : q_F × q_F} (hQ : Q (none) (q_h y.1 y.2))   : ∀ (n : Nat) (v1 : Int) (v2 : Int) (v3 : Int) (v4 : Int) (f g : q_F), p_Memory_move_3   n v1 v2 v3 v4 f g = some y → ma_Ev (q_G t) 1 22 0 0 m_Memory_move 3 [(0, q_a t (58)), (1, ma_i (v1)), (2, ma_i (v2)), (3, ma_i (v3)), (4, ma_i (v4))] [] (q_h f g) (ma_zr (q_G t) false Q) := by
  intro n
  induction n with
  | zero =>
    intro v1 v2 v3 v4 f g hp
    rw [p_Memory_move_3] at hp
    cases hp
  | succ n ih =>
    intro v1 v2 v3 v4 f g hp
    rw [p_Memory_move_3] at hp
    refine ev_iload (pc := 3) d_Memory_move_3 rfl ?_
    refine ev_iload_n (pc := 5) d_Memory_move_5 rfl rfl ?_
    refine et_icmp_ge (pc := 6) (tgt := 31) d_Memory_move_6 (by decide) (fun hj1 => ?_) (fun hj1 => ?_)
    · rw [if_pos hj1] at hp
      cases Option.some.inj hp
      exact et_ret (pc := 31) d_Memory_move_31 rfl hQ
    · rw [if_neg hj1] at hp
      refine et_aload_n (pc := 9) d_Memory_move_9 rfl rfl ?_
      refine ev_iload_n (pc := 10) d_Memory_move_10 rfl rfl ?_
      refine ev_iload (pc := 11) d_Memory_move_11 rfl ?_
      refine ev_iadd (pc := 13) d_Memory_move_13 ?_
      refine et_aload_n (pc := 14) d_Memory_move_14 rfl rfl ?_
      refine ev_iload_n (pc := 15) d_Memory_move_15 rfl rfl ?_
      refine ev_iload (pc := 16) d_Memory_move_16 rfl ?_
      refine ev_iadd (pc := 18) d_Memory_move_18 ?_
      replace hp := q_bind hp
      obtain ⟨x2, hm3, hp⟩ := hp
      refine et_callVi (pc := 19) (f1 := x2.2.1) (g1 := x2.2.2) ok [ma_i (v1 + v4)] [ma_i (v2 + v4), q_a t (58)] (cf_Memory_28 t) d_Memory_move_19 s_58 k_11 rfl (t_Memory_fetch t ok (v1 + v4) f g hm3 ⟨rfl, rfl⟩) rfl rfl (by decide) (by decide) (q_ble rfl) ?_
      replace hp := q_bind hp
      obtain ⟨x4, hm5, hp⟩ := hp
      refine et_callVv (pc := 22) (f1 := x4.1) (g1 := x4.2) ok [ma_i (v2 + v4), ma_i (x2.1)] [] (cf_Memory_15 t) d_Memory_move_22 s_58 k_11 rfl (t_Memory_store t ok (v2 + v4) (x2.1) x2.2.1 x2.2.2 hm5 ⟨rfl, rfl⟩) rfl rfl (by decide) (by decide) (q_ble rfl) ?_
      refine ev_iinc (pc := 25) d_Memory_move_25 (by decide) rfl [(4, _), (0, _), (1, _), (2, _), (3, _)] rfl ?_
      replace hp := q_let_of hp
      obtain ⟨z6, hz, hp⟩ := hp
      rw [← hz]
      clear hz
      refine ev_goto (pc := 28) (tgt := 3) d_Memory_move_28 (by decide) ?_
      refine ev_sub (ls2 := [(0, q_a t (58)), (1, ma_i (v1)), (2, ma_i (v2)), (3, ma_i (v3)), (4, ma_i (z6))]) [1, 2, 3, 4, 0] rfl ?_
      exact ih (v1) (v2) (v3) (z6) x4.1 x4.2 hp
theorem t_Memory_move (t : q_V) (ok : ma_ok (q_G t))  {Q : Option Value → ma_H → Prop} {y : q_F × q_F} (v1 : Int) (v2 : Int) (v3 : Int) (f g : q_F) (hp : p_Memory_move  v1 v2 v3 f g = some y) (hQ : Q (none) (q_h y.1 y.2)) : ma_Met (q_G t) false 1 22 0 0 m_Memory_move [q_a t (58), ma_i (v1), ma_i (v2), ma_i (v3)] (q_h f g) Q := by
  refine ma_met (by decide +kernel) (q_ble rfl) rfl ?_
  change ma_Ev (q_G t) 1 22 0 0 m_Memory_move 0 [(0, q_a t (58)), (1, ma_i (v1)), (2, ma_i (v2)), (3, ma_i (v3))] [] (q_h f g) (ma_zr (q_G t) false Q)
  unfold p_Memory_move at hp
  refine ev_iconst (pc := 0) d_Memory_move_0 ?_
  refine ev_istore (pc := 1) d_Memory_move_1 (by decide) [(4, _), (0, _), (1, _), (2, _), (3, _)] rfl ?_
  refine ev_sub (ls2 := [(0, q_a t (58)), (1, ma_i (v1)), (2, ma_i (v2)), (3, ma_i (v3)), (4, ma_i (0))]) [1, 2, 3, 4, 0] rfl ?_
  exact e_Memory_move_3 t ok  hQ   1000 (v1) (v2) (v3) (0) f g hp
theorem d_Plan_forget_0 : decode (m_c m_Plan_forget) 0 = .ok (.iconst 0, 1) := by decide +kernel
theorem d_Plan_forget_1 : decode (m_c m_Plan_forget) 1 = .ok (.istore_n 1, 1) := by decide +kernel
theorem d_Plan_forget_2 : decode (m_c m_Plan_forget) 2 = .ok (.iload_n 1, 1) := by decide +kernel
theorem d_Plan_forget_3 : decode (m_c m_Plan_forget) 3 = .ok (.bipush 8, 2) := by decide +kernel
theorem d_Plan_forget_5 : decode (m_c m_Plan_forget) 5 = .ok (.if_icmp .ge 18, 3) := by decide +kernel
theorem d_Plan_forget_8 : decode (m_c m_Plan_forget) 8 = .ok (.aload_n 0, 1) := by decide +kernel
theorem d_Plan_forget_9 : decode (m_c m_Plan_forget) 9 = .ok (.getfield 11, 3) := by decide +kernel
theorem d_Plan_forget_12 : decode (m_c m_Plan_forget) 12 = .ok (.iload_n 1, 1) := by decide +kernel
theorem d_Plan_forget_13 : decode (m_c m_Plan_forget) 13 = .ok (.aaload, 1) := by decide +kernel
theorem d_Plan_forget_14 : decode (m_c m_Plan_forget) 14 = .ok (.invokevirtual 63, 3) := by decide +kernel
theorem d_Plan_forget_17 : decode (m_c m_Plan_forget) 17 = .ok (.iinc 1 1, 3) := by decide +kernel
theorem d_Plan_forget_20 : decode (m_c m_Plan_forget) 20 = .ok (.goto (-18), 3) := by decide +kernel
theorem d_Plan_forget_23 : decode (m_c m_Plan_forget) 23 = .ok (.iconst 0, 1) := by decide +kernel
theorem d_Plan_forget_24 : decode (m_c m_Plan_forget) 24 = .ok (.istore_n 1, 1) := by decide +kernel
theorem d_Plan_forget_25 : decode (m_c m_Plan_forget) 25 = .ok (.iload_n 1, 1) := by decide +kernel
theorem d_Plan_forget_26 : decode (m_c m_Plan_forget) 26 = .ok (.iconst 4, 1) := by decide +kernel
theorem d_Plan_forget_27 : decode (m_c m_Plan_forget) 27 = .ok (.if_icmp .ge 19, 3) := by decide +kernel
theorem d_Plan_forget_30 : decode (m_c m_Plan_forget) 30 = .ok (.aload_n 0, 1) := by decide +kernel
theorem d_Plan_forget_31 : decode (m_c m_Plan_forget) 31 = .ok (.getfield 19, 3) := by decide +kernel
theorem d_Plan_forget_34 : decode (m_c m_Plan_forget) 34 = .ok (.iload_n 1, 1) := by decide +kernel
theorem d_Plan_forget_35 : decode (m_c m_Plan_forget) 35 = .ok (.aaload, 1) := by decide +kernel
theorem d_Plan_forget_36 : decode (m_c m_Plan_forget) 36 = .ok (.iconst 0, 1) := by decide +kernel
theorem d_Plan_forget_37 : decode (m_c m_Plan_forget) 37 = .ok (.putfield 66, 3) := by decide +kernel
theorem d_Plan_forget_40 : decode (m_c m_Plan_forget) 40 = .ok (.iinc 1 1, 3) := by decide +kernel
theorem d_Plan_forget_43 : decode (m_c m_Plan_forget) 43 = .ok (.goto (-18), 3) := by decide +kernel
theorem d_Plan_forget_46 : decode (m_c m_Plan_forget) 46 = .ok (.iconst 0, 1) := by decide +kernel
theorem d_Plan_forget_47 : decode (m_c m_Plan_forget) 47 = .ok (.istore_n 1, 1) := by decide +kernel
theorem d_Plan_forget_48 : decode (m_c m_Plan_forget) 48 = .ok (.iload_n 1, 1) := by decide +kernel
theorem d_Plan_forget_49 : decode (m_c m_Plan_forget) 49 = .ok (.bipush 8, 2) := by decide +kernel
theorem d_Plan_forget_51 : decode (m_c m_Plan_forget) 51 = .ok (.if_icmp .ge 18, 3) := by decide +kernel
theorem d_Plan_forget_54 : decode (m_c m_Plan_forget) 54 = .ok (.aload_n 0, 1) := by decide +kernel
theorem d_Plan_forget_55 : decode (m_c m_Plan_forget) 55 = .ok (.getfield 25, 3) := by decide +kernel
theorem d_Plan_forget_58 : decode (m_c m_Plan_forget) 58 = .ok (.iload_n 1, 1) := by decide +kernel
theorem d_Plan_forget_59 : decode (m_c m_Plan_forget) 59 = .ok (.aaload, 1) := by decide +kernel
theorem d_Plan_forget_60 : decode (m_c m_Plan_forget) 60 = .ok (.invokevirtual 70, 3) := by decide +kernel
theorem d_Plan_forget_63 : decode (m_c m_Plan_forget) 63 = .ok (.iinc 1 1, 3) := by decide +kernel
theorem d_Plan_forget_66 : decode (m_c m_Plan_forget) 66 = .ok (.goto (-18), 3) := by decide +kernel
theorem d_Plan_forget_69 : decode (m_c m_Plan_forget) 69 = .ok (.iconst 0, 1) := by decide +kernel
theorem d_Plan_forget_70 : decode (m_c m_Plan_forget) 70 = .ok (.istore_n 1, 1) := by decide +kernel
theorem d_Plan_forget_71 : decode (m_c m_Plan_forget) 71 = .ok (.iload_n 1, 1) := by decide +kernel
theorem d_Plan_forget_72 : decode (m_c m_Plan_forget) 72 = .ok (.bipush 18, 2) := by decide +kernel
theorem d_Plan_forget_74 : decode (m_c m_Plan_forget) 74 = .ok (.if_icmp .ge 18, 3) := by decide +kernel
theorem d_Plan_forget_77 : decode (m_c m_Plan_forget) 77 = .ok (.aload_n 0, 1) := by decide +kernel
theorem d_Plan_forget_78 : decode (m_c m_Plan_forget) 78 = .ok (.getfield 31, 3) := by decide +kernel
theorem d_Plan_forget_81 : decode (m_c m_Plan_forget) 81 = .ok (.iload_n 1, 1) := by decide +kernel
theorem d_Plan_forget_82 : decode (m_c m_Plan_forget) 82 = .ok (.aaload, 1) := by decide +kernel
theorem d_Plan_forget_83 : decode (m_c m_Plan_forget) 83 = .ok (.invokevirtual 71, 3) := by decide +kernel
theorem d_Plan_forget_86 : decode (m_c m_Plan_forget) 86 = .ok (.iinc 1 1, 3) := by decide +kernel
theorem d_Plan_forget_89 : decode (m_c m_Plan_forget) 89 = .ok (.goto (-18), 3) := by decide +kernel
theorem d_Plan_forget_92 : decode (m_c m_Plan_forget) 92 = .ok (.aload_n 0, 1) := by decide +kernel
theorem d_Plan_forget_93 : decode (m_c m_Plan_forget) 93 = .ok (.getfield 38, 3) := by decide +kernel
theorem d_Plan_forget_96 : decode (m_c m_Plan_forget) 96 = .ok (.iconst 0, 1) := by decide +kernel
theorem d_Plan_forget_97 : decode (m_c m_Plan_forget) 97 = .ok (.putfield 72, 3) := by decide +kernel
theorem d_Plan_forget_100 : decode (m_c m_Plan_forget) 100 = .ok (.aload_n 0, 1) := by decide +kernel
theorem d_Plan_forget_101 : decode (m_c m_Plan_forget) 101 = .ok (.getfield 42, 3) := by decide +kernel
theorem d_Plan_forget_104 : decode (m_c m_Plan_forget) 104 = .ok (.iconst 0, 1) := by decide +kernel
theorem d_Plan_forget_105 : decode (m_c m_Plan_forget) 105 = .ok (.putfield 72, 3) := by decide +kernel
theorem d_Plan_forget_108 : decode (m_c m_Plan_forget) 108 = .ok (.aload_n 0, 1) := by decide +kernel
theorem d_Plan_forget_109 : decode (m_c m_Plan_forget) 109 = .ok (.iconst 0, 1) := by decide +kernel
theorem d_Plan_forget_110 : decode (m_c m_Plan_forget) 110 = .ok (.putfield 49, 3) := by decide +kernel
theorem d_Plan_forget_113 : decode (m_c m_Plan_forget) 113 = .ok (.aload_n 0, 1) := by decide +kernel
theorem d_Plan_forget_114 : decode (m_c m_Plan_forget) 114 = .ok (.iconst 0, 1) := by decide +kernel
theorem d_Plan_forget_115 : decode (m_c m_Plan_forget) 115 = .ok (.putfield 56, 3) := by decide +kernel
theorem d_Plan_forget_118 : decode (m_c m_Plan_forget) 118 = .ok (.return_, 1) := by decide +kernel
def p_Plan_forget_71   : Nat → Int → q_F → q_F → Option (q_F × q_F)
  | 0, _, _, _ => none
  | n + 1, v1, f, g =>
    if q_sw 18 ≤ q_sw v1 then
      q_let (ma_up f 8 2 0) fun f2 =>
      q_let (ma_up f2 11 2 0) fun f3 =>
      q_let (ma_up f3 3 7 0) fun f4 =>
      q_let (ma_up f4 3 9 0) fun f5 =>
      some (f5, g)
    else
      if 0 ≤ v1 ∧ v1 < 18 then
        (p_Symbol_forget (36 + Int.toNat v1) f g).bind fun x7 =>
        q_let (v1 + 1) fun z9 =>
        (p_Plan_forget_71   n) (z9) x7.1 x7.2
      else none
def p_Plan_forget_48   : Nat → Int → q_F → q_F → Option (q_F × q_F)
  | 0, _, _, _ => none
  | n + 1, v1, f, g =>
    if q_sw 8 ≤ q_sw v1 then
      p_Plan_forget_71   1000 (0) f g
    else
      if 0 ≤ v1 ∧ v1 < 8 then
        (p_Section_forget (28 + Int.toNat v1) f g).bind fun x3 =>
        q_let (v1 + 1) fun z5 =>
        (p_Plan_forget_48   n) (z5) x3.1 x3.2
      else none
def p_Plan_forget_25   : Nat → Int → q_F → q_F → Option (q_F × q_F)
  | 0, _, _, _ => none
  | n + 1, v1, f, g =>
    if q_sw 4 ≤ q_sw v1 then
      p_Plan_forget_48   1000 (0) f g
    else
      if 0 ≤ v1 ∧ v1 < 4 then
        q_let (ma_up f (24 + Int.toNat v1) 0 0) fun f3 =>
        q_let (v1 + 1) fun z4 =>
        (p_Plan_forget_25   n) (z4) f3 g
      else none
def p_Plan_forget_2   : Nat → Int → q_F → q_F → Option (q_F × q_F)
  | 0, _, _, _ => none
  | n + 1, v1, f, g =>
    if q_sw 8 ≤ q_sw v1 then
      p_Plan_forget_25   1000 (0) f g
    else
      if 0 ≤ v1 ∧ v1 < 8 then
        (p_Input_forget (16 + Int.toNat v1) f g).bind fun x3 =>
        q_let (v1 + 1) fun z5 =>
        (p_Plan_forget_2   n) (z5) x3.1 x3.2
      else none
def p_Plan_forget   (f g : q_F) : Option (q_F × q_F) :=
  p_Plan_forget_2   1000 (0) f g
theorem e_Plan_forget_71 (t : q_V) (ok : ma_ok (q_G t))  {Q : Option Value → ma_H → Prop} {y : q_F × q_F} (hQ : Q (none) (q_h y.1 y.2))   : ∀ (n : Nat) (v1 : Int) (f g : q_F), p_Plan_forget_71   n v1 f g = some y → ma_Ev (q_G t) 1 20 0 0 m_Plan_forget 71 [(0, q_a t (3)), (1, ma_i (v1))] [] (q_h f g) (ma_zr (q_G t) false Q) := by
  intro n
  induction n with
  | zero =>
    intro v1 f g hp
    rw [p_Plan_forget_71] at hp
    cases hp
  | succ n ih =>
    intro v1 f g hp
    rw [p_Plan_forget_71] at hp
    refine ev_iload_n (pc := 71) d_Plan_forget_71 rfl rfl ?_
    refine ev_bipush (pc := 72) d_Plan_forget_72 rfl ?_
    refine et_icmp_ge (pc := 74) (tgt := 92) d_Plan_forget_74 (by decide) (fun hj1 => ?_) (fun hj1 => ?_)
    · rw [if_pos hj1] at hp
      refine et_aload_n (pc := 92) d_Plan_forget_92 rfl rfl ?_
      refine et_getr (pc := 93) ok (fl_Plan_38 t) rfl d_Plan_forget_93 s_3 r_3_4 ?_
      refine ev_iconst (pc := 96) d_Plan_forget_96 ?_
      refine et_puti (pc := 97) ok (fl_Plan_72 t) d_Plan_forget_97 s_8 ?_
      replace hp := q_let_of hp
      obtain ⟨f2, hz, hp⟩ := hp
      rw [← hz]
      clear hz
      refine et_aload_n (pc := 100) d_Plan_forget_100 rfl rfl ?_
      refine et_getr (pc := 101) ok (fl_Plan_42 t) rfl d_Plan_forget_101 s_3 r_3_5 ?_
      refine ev_iconst (pc := 104) d_Plan_forget_104 ?_
      refine et_puti (pc := 105) ok (fl_Plan_72 t) d_Plan_forget_105 s_11 ?_
      replace hp := q_let_of hp
      obtain ⟨f3, hz, hp⟩ := hp
      rw [← hz]
      clear hz
      refine et_aload_n (pc := 108) d_Plan_forget_108 rfl rfl ?_
      refine ev_iconst (pc := 109) d_Plan_forget_109 ?_
      refine et_puti (pc := 110) ok (fl_Plan_49 t) d_Plan_forget_110 s_3 ?_
      replace hp := q_let_of hp
      obtain ⟨f4, hz, hp⟩ := hp
      rw [← hz]
      clear hz
      refine et_aload_n (pc := 113) d_Plan_forget_113 rfl rfl ?_
      refine ev_iconst (pc := 114) d_Plan_forget_114 ?_
      refine et_puti (pc := 115) ok (fl_Plan_56 t) d_Plan_forget_115 s_3 ?_
      replace hp := q_let_of hp
      obtain ⟨f5, hz, hp⟩ := hp
      rw [← hz]
      clear hz
      cases Option.some.inj hp
      exact et_ret (pc := 118) d_Plan_forget_118 rfl hQ
    · rw [if_neg hj1] at hp
      refine et_aload_n (pc := 77) d_Plan_forget_77 rfl rfl ?_
      refine et_getr (pc := 78) ok (fl_Plan_31 t) rfl d_Plan_forget_78 s_3 r_3_3 ?_
      refine ev_iload_n (pc := 81) d_Plan_forget_81 rfl rfl ?_
      replace hp := q_if hp
      obtain ⟨hb6, hp⟩ := hp
      refine et_aald (pc := 82) d_Plan_forget_82 s_7 hb6 (by decide) (r_7 _ (by omega)) ?_
      replace hp := q_bind hp
      obtain ⟨x7, hm8, hp⟩ := hp
      refine et_callVv (pc := 83) (f1 := x7.1) (g1 := x7.2) ok [] [] (cf_Plan_71 t) d_Plan_forget_83 (s_36 _ (by omega) (by omega)) k_5 rfl (t_Symbol_forget t ok (36 + Int.toNat v1) f g hm8 ⟨rfl, rfl⟩) rfl rfl (by decide) (by decide) (q_ble rfl) ?_
      refine ev_iinc (pc := 86) d_Plan_forget_86 (by decide) rfl [(1, _), (0, _)] rfl ?_
      replace hp := q_let_of hp
      obtain ⟨z9, hz, hp⟩ := hp
      rw [← hz]
      clear hz
      refine ev_goto (pc := 89) (tgt := 71) d_Plan_forget_89 (by decide) ?_
      refine ev_sub (ls2 := [(0, q_a t (3)), (1, ma_i (z9))]) [1, 0] rfl ?_
      exact ih (z9) x7.1 x7.2 hp
theorem e_Plan_forget_48 (t : q_V) (ok : ma_ok (q_G t))  {Q : Option Value → ma_H → Prop} {y : q_F × q_F} (hQ : Q (none) (q_h y.1 y.2))   : ∀ (n : Nat) (v1 : Int) (f g : q_F), p_Plan_forget_48   n v1 f g = some y → ma_Ev (q_G t) 1 20 0 0 m_Plan_forget 48 [(0, q_a t (3)), (1, ma_i (v1))] [] (q_h f g) (ma_zr (q_G t) false Q) := by
  intro n
  induction n with
  | zero =>
    intro v1 f g hp
    rw [p_Plan_forget_48] at hp
    cases hp
  | succ n ih =>
    intro v1 f g hp
    rw [p_Plan_forget_48] at hp
    refine ev_iload_n (pc := 48) d_Plan_forget_48 rfl rfl ?_
    refine ev_bipush (pc := 49) d_Plan_forget_49 rfl ?_
    refine et_icmp_ge (pc := 51) (tgt := 69) d_Plan_forget_51 (by decide) (fun hj1 => ?_) (fun hj1 => ?_)
    · rw [if_pos hj1] at hp
      refine ev_iconst (pc := 69) d_Plan_forget_69 ?_
      refine ev_istore_n (pc := 70) d_Plan_forget_70 rfl (by decide) [(1, _), (0, _)] rfl ?_
      refine ev_sub (ls2 := [(0, q_a t (3)), (1, ma_i (0))]) [1, 0] rfl ?_
      exact e_Plan_forget_71 t ok  hQ   1000 (0) f g hp
    · rw [if_neg hj1] at hp
      refine et_aload_n (pc := 54) d_Plan_forget_54 rfl rfl ?_
      refine et_getr (pc := 55) ok (fl_Plan_25 t) rfl d_Plan_forget_55 s_3 r_3_2 ?_
      refine ev_iload_n (pc := 58) d_Plan_forget_58 rfl rfl ?_
      replace hp := q_if hp
      obtain ⟨hb2, hp⟩ := hp
      refine et_aald (pc := 59) d_Plan_forget_59 s_6 hb2 (by decide) (r_6 _ (by omega)) ?_
      replace hp := q_bind hp
      obtain ⟨x3, hm4, hp⟩ := hp
      refine et_callVv (pc := 60) (f1 := x3.1) (g1 := x3.2) ok [] [] (cf_Plan_70 t) d_Plan_forget_60 (s_28 _ (by omega) (by omega)) k_4 rfl (t_Section_forget t ok (28 + Int.toNat v1) f g hm4 ⟨rfl, rfl⟩) rfl rfl (by decide) (by decide) (q_ble rfl) ?_
      refine ev_iinc (pc := 63) d_Plan_forget_63 (by decide) rfl [(1, _), (0, _)] rfl ?_
      replace hp := q_let_of hp
      obtain ⟨z5, hz, hp⟩ := hp
      rw [← hz]
      clear hz
      refine ev_goto (pc := 66) (tgt := 48) d_Plan_forget_66 (by decide) ?_
      refine ev_sub (ls2 := [(0, q_a t (3)), (1, ma_i (z5))]) [1, 0] rfl ?_
      exact ih (z5) x3.1 x3.2 hp
theorem e_Plan_forget_25 (t : q_V) (ok : ma_ok (q_G t))  {Q : Option Value → ma_H → Prop} {y : q_F × q_F} (hQ : Q (none) (q_h y.1 y.2))   : ∀ (n : Nat) (v1 : Int) (f g : q_F), p_Plan_forget_25   n v1 f g = some y → ma_Ev (q_G t) 1 20 0 0 m_Plan_forget 25 [(0, q_a t (3)), (1, ma_i (v1))] [] (q_h f g) (ma_zr (q_G t) false Q) := by
  intro n
  induction n with
  | zero =>
    intro v1 f g hp
    rw [p_Plan_forget_25] at hp
    cases hp
  | succ n ih =>
    intro v1 f g hp
    rw [p_Plan_forget_25] at hp
    refine ev_iload_n (pc := 25) d_Plan_forget_25 rfl rfl ?_
    refine ev_iconst (pc := 26) d_Plan_forget_26 ?_
    refine et_icmp_ge (pc := 27) (tgt := 46) d_Plan_forget_27 (by decide) (fun hj1 => ?_) (fun hj1 => ?_)
    · rw [if_pos hj1] at hp
      refine ev_iconst (pc := 46) d_Plan_forget_46 ?_
      refine ev_istore_n (pc := 47) d_Plan_forget_47 rfl (by decide) [(1, _), (0, _)] rfl ?_
      refine ev_sub (ls2 := [(0, q_a t (3)), (1, ma_i (0))]) [1, 0] rfl ?_
      exact e_Plan_forget_48 t ok  hQ   1000 (0) f g hp
    · rw [if_neg hj1] at hp
      refine et_aload_n (pc := 30) d_Plan_forget_30 rfl rfl ?_
      refine et_getr (pc := 31) ok (fl_Plan_19 t) rfl d_Plan_forget_31 s_3 r_3_1 ?_
      refine ev_iload_n (pc := 34) d_Plan_forget_34 rfl rfl ?_
      replace hp := q_if hp
      obtain ⟨hb2, hp⟩ := hp
      refine et_aald (pc := 35) d_Plan_forget_35 s_5 hb2 (by decide) (r_5 _ (by omega)) ?_
      refine ev_iconst (pc := 36) d_Plan_forget_36 ?_
      refine et_putz (pc := 37) ok (fl_Plan_66 t) (by decide) d_Plan_forget_37 (s_24 _ (by omega) (by omega)) ?_
      replace hp := q_let_of hp
      obtain ⟨f3, hz, hp⟩ := hp
      rw [← hz]
      clear hz
      refine ev_iinc (pc := 40) d_Plan_forget_40 (by decide) rfl [(1, _), (0, _)] rfl ?_
      replace hp := q_let_of hp
      obtain ⟨z4, hz, hp⟩ := hp
      rw [← hz]
      clear hz
      refine ev_goto (pc := 43) (tgt := 25) d_Plan_forget_43 (by decide) ?_
      refine ev_sub (ls2 := [(0, q_a t (3)), (1, ma_i (z4))]) [1, 0] rfl ?_
      exact ih (z4) f3 g hp
theorem e_Plan_forget_2 (t : q_V) (ok : ma_ok (q_G t))  {Q : Option Value → ma_H → Prop} {y : q_F × q_F} (hQ : Q (none) (q_h y.1 y.2))   : ∀ (n : Nat) (v1 : Int) (f g : q_F), p_Plan_forget_2   n v1 f g = some y → ma_Ev (q_G t) 1 20 0 0 m_Plan_forget 2 [(0, q_a t (3)), (1, ma_i (v1))] [] (q_h f g) (ma_zr (q_G t) false Q) := by
  intro n
  induction n with
  | zero =>
    intro v1 f g hp
    rw [p_Plan_forget_2] at hp
    cases hp
  | succ n ih =>
    intro v1 f g hp
    rw [p_Plan_forget_2] at hp
    refine ev_iload_n (pc := 2) d_Plan_forget_2 rfl rfl ?_
    refine ev_bipush (pc := 3) d_Plan_forget_3 rfl ?_
    refine et_icmp_ge (pc := 5) (tgt := 23) d_Plan_forget_5 (by decide) (fun hj1 => ?_) (fun hj1 => ?_)
    · rw [if_pos hj1] at hp
      refine ev_iconst (pc := 23) d_Plan_forget_23 ?_
      refine ev_istore_n (pc := 24) d_Plan_forget_24 rfl (by decide) [(1, _), (0, _)] rfl ?_
      refine ev_sub (ls2 := [(0, q_a t (3)), (1, ma_i (0))]) [1, 0] rfl ?_
      exact e_Plan_forget_25 t ok  hQ   1000 (0) f g hp
    · rw [if_neg hj1] at hp
      refine et_aload_n (pc := 8) d_Plan_forget_8 rfl rfl ?_
      refine et_getr (pc := 9) ok (fl_Plan_11 t) rfl d_Plan_forget_9 s_3 r_3_0 ?_
      refine ev_iload_n (pc := 12) d_Plan_forget_12 rfl rfl ?_
      replace hp := q_if hp
      obtain ⟨hb2, hp⟩ := hp
      refine et_aald (pc := 13) d_Plan_forget_13 s_4 hb2 (by decide) (r_4 _ (by omega)) ?_
      replace hp := q_bind hp
      obtain ⟨x3, hm4, hp⟩ := hp
      refine et_callVv (pc := 14) (f1 := x3.1) (g1 := x3.2) ok [] [] (cf_Plan_63 t) d_Plan_forget_14 (s_16 _ (by omega) (by omega)) k_2 rfl (t_Input_forget t ok (16 + Int.toNat v1) f g hm4 ⟨rfl, rfl⟩) rfl rfl (by decide) (by decide) (q_ble rfl) ?_
      refine ev_iinc (pc := 17) d_Plan_forget_17 (by decide) rfl [(1, _), (0, _)] rfl ?_
      replace hp := q_let_of hp
      obtain ⟨z5, hz, hp⟩ := hp
      rw [← hz]
      clear hz
      refine ev_goto (pc := 20) (tgt := 2) d_Plan_forget_20 (by decide) ?_
      refine ev_sub (ls2 := [(0, q_a t (3)), (1, ma_i (z5))]) [1, 0] rfl ?_
      exact ih (z5) x3.1 x3.2 hp
theorem t_Plan_forget (t : q_V) (ok : ma_ok (q_G t))  {Q : Option Value → ma_H → Prop} {y : q_F × q_F}  (f g : q_F) (hp : p_Plan_forget   f g = some y) (hQ : Q (none) (q_h y.1 y.2)) : ma_Met (q_G t) false 1 20 0 0 m_Plan_forget [q_a t (3)] (q_h f g) Q := by
  refine ma_met (by decide +kernel) (q_ble rfl) rfl ?_
  change ma_Ev (q_G t) 1 20 0 0 m_Plan_forget 0 [(0, q_a t (3))] [] (q_h f g) (ma_zr (q_G t) false Q)
  unfold p_Plan_forget at hp
  refine ev_iconst (pc := 0) d_Plan_forget_0 ?_
  refine ev_istore_n (pc := 1) d_Plan_forget_1 rfl (by decide) [(1, _), (0, _)] rfl ?_
  refine ev_sub (ls2 := [(0, q_a t (3)), (1, ma_i (0))]) [1, 0] rfl ?_
  exact e_Plan_forget_2 t ok  hQ   1000 (0) f g hp
theorem d_Plan_tellSection_0 : decode (m_c m_Plan_tellSection) 0 = .ok (.aload_n 0, 1) := by decide +kernel
theorem d_Plan_tellSection_1 : decode (m_c m_Plan_tellSection) 1 = .ok (.getfield 49, 3) := by decide +kernel
theorem d_Plan_tellSection_4 : decode (m_c m_Plan_tellSection) 4 = .ok (.bipush 8, 2) := by decide +kernel
theorem d_Plan_tellSection_6 : decode (m_c m_Plan_tellSection) 6 = .ok (.if_icmp .ge 33, 3) := by decide +kernel
theorem d_Plan_tellSection_9 : decode (m_c m_Plan_tellSection) 9 = .ok (.aload_n 0, 1) := by decide +kernel
theorem d_Plan_tellSection_10 : decode (m_c m_Plan_tellSection) 10 = .ok (.getfield 25, 3) := by decide +kernel
theorem d_Plan_tellSection_13 : decode (m_c m_Plan_tellSection) 13 = .ok (.iload_n 1, 1) := by decide +kernel
theorem d_Plan_tellSection_14 : decode (m_c m_Plan_tellSection) 14 = .ok (.aaload, 1) := by decide +kernel
theorem d_Plan_tellSection_15 : decode (m_c m_Plan_tellSection) 15 = .ok (.iconst 1, 1) := by decide +kernel
theorem d_Plan_tellSection_16 : decode (m_c m_Plan_tellSection) 16 = .ok (.putfield 75, 3) := by decide +kernel
theorem d_Plan_tellSection_19 : decode (m_c m_Plan_tellSection) 19 = .ok (.aload_n 0, 1) := by decide +kernel
theorem d_Plan_tellSection_20 : decode (m_c m_Plan_tellSection) 20 = .ok (.getfield 45, 3) := by decide +kernel
theorem d_Plan_tellSection_23 : decode (m_c m_Plan_tellSection) 23 = .ok (.aload_n 0, 1) := by decide +kernel
theorem d_Plan_tellSection_24 : decode (m_c m_Plan_tellSection) 24 = .ok (.getfield 49, 3) := by decide +kernel
theorem d_Plan_tellSection_27 : decode (m_c m_Plan_tellSection) 27 = .ok (.iload_n 1, 1) := by decide +kernel
theorem d_Plan_tellSection_28 : decode (m_c m_Plan_tellSection) 28 = .ok (.iastore, 1) := by decide +kernel
theorem d_Plan_tellSection_29 : decode (m_c m_Plan_tellSection) 29 = .ok (.aload_n 0, 1) := by decide +kernel
theorem d_Plan_tellSection_30 : decode (m_c m_Plan_tellSection) 30 = .ok (.dup, 1) := by decide +kernel
theorem d_Plan_tellSection_31 : decode (m_c m_Plan_tellSection) 31 = .ok (.getfield 49, 3) := by decide +kernel
theorem d_Plan_tellSection_34 : decode (m_c m_Plan_tellSection) 34 = .ok (.iconst 1, 1) := by decide +kernel
theorem d_Plan_tellSection_35 : decode (m_c m_Plan_tellSection) 35 = .ok (.iadd, 1) := by decide +kernel
theorem d_Plan_tellSection_36 : decode (m_c m_Plan_tellSection) 36 = .ok (.putfield 49, 3) := by decide +kernel
theorem d_Plan_tellSection_39 : decode (m_c m_Plan_tellSection) 39 = .ok (.return_, 1) := by decide +kernel
def p_Plan_tellSection_39    (f g : q_F) : Option (q_F × q_F) :=
  some (f, g)
def p_Plan_tellSection  (v1 : Int) (f g : q_F) : Option (q_F × q_F) :=
  if q_sw 8 ≤ q_sw (f 3 7) then
    p_Plan_tellSection_39    f g
  else
    if 0 ≤ v1 ∧ v1 < 8 then
      q_let (ma_up f (28 + Int.toNat v1) 0 1) fun f3 =>
      if 0 ≤ (f3 3 7) ∧ (f3 3 7) < 8 then
        q_let (ma_up f3 14 (Int.toNat (f3 3 7)) v1) fun f5 =>
        q_let (ma_up f5 3 7 ((f5 3 7) + 1)) fun f6 =>
        p_Plan_tellSection_39    f6 g
      else none
    else none
theorem e_Plan_tellSection_39 (t : q_V) (ok : ma_ok (q_G t))  {Q : Option Value → ma_H → Prop} {y : q_F × q_F} (hQ : Q (none) (q_h y.1 y.2))    (f g : q_F) (hp : p_Plan_tellSection_39    f g = some y) : ma_Ev (q_G t) 0 0 0 0 m_Plan_tellSection 39 [] [] (q_h f g) (ma_zr (q_G t) false Q) := by
  unfold p_Plan_tellSection_39 at hp
  cases Option.some.inj hp
  exact et_ret (pc := 39) d_Plan_tellSection_39 rfl hQ
theorem t_Plan_tellSection (t : q_V) (ok : ma_ok (q_G t))  {Q : Option Value → ma_H → Prop} {y : q_F × q_F} (v1 : Int) (f g : q_F) (hp : p_Plan_tellSection  v1 f g = some y) (hQ : Q (none) (q_h y.1 y.2)) : ma_Met (q_G t) false 0 0 0 0 m_Plan_tellSection [q_a t (3), ma_i (v1)] (q_h f g) Q := by
  refine ma_met (by decide +kernel) (q_ble rfl) rfl ?_
  change ma_Ev (q_G t) 0 0 0 0 m_Plan_tellSection 0 [(0, q_a t (3)), (1, ma_i (v1))] [] (q_h f g) (ma_zr (q_G t) false Q)
  unfold p_Plan_tellSection at hp
  refine et_aload_n (pc := 0) d_Plan_tellSection_0 rfl rfl ?_
  refine et_geti (pc := 1) ok (fl_Plan_49 t) rfl d_Plan_tellSection_1 s_3 ?_
  refine ev_bipush (pc := 4) d_Plan_tellSection_4 rfl ?_
  refine et_icmp_ge (pc := 6) (tgt := 39) d_Plan_tellSection_6 (by decide) (fun hj1 => ?_) (fun hj1 => ?_)
  · rw [if_pos hj1] at hp
    refine ev_sub (ls2 := []) [] rfl ?_
    exact e_Plan_tellSection_39 t ok  hQ    f g hp
  · rw [if_neg hj1] at hp
    refine et_aload_n (pc := 9) d_Plan_tellSection_9 rfl rfl ?_
    refine et_getr (pc := 10) ok (fl_Plan_25 t) rfl d_Plan_tellSection_10 s_3 r_3_2 ?_
    refine ev_iload_n (pc := 13) d_Plan_tellSection_13 rfl rfl ?_
    replace hp := q_if hp
    obtain ⟨hb2, hp⟩ := hp
    refine et_aald (pc := 14) d_Plan_tellSection_14 s_6 hb2 (by decide) (r_6 _ (by omega)) ?_
    refine ev_iconst (pc := 15) d_Plan_tellSection_15 ?_
    refine et_putz (pc := 16) ok (fl_Plan_75 t) (by decide) d_Plan_tellSection_16 (s_28 _ (by omega) (by omega)) ?_
    replace hp := q_let_of hp
    obtain ⟨f3, hz, hp⟩ := hp
    rw [← hz]
    clear hz
    refine et_aload_n (pc := 19) d_Plan_tellSection_19 rfl rfl ?_
    refine et_getr (pc := 20) ok (fl_Plan_45 t) rfl d_Plan_tellSection_20 s_3 r_3_6 ?_
    refine et_aload_n (pc := 23) d_Plan_tellSection_23 rfl rfl ?_
    refine et_geti (pc := 24) ok (fl_Plan_49 t) rfl d_Plan_tellSection_24 s_3 ?_
    refine ev_iload_n (pc := 27) d_Plan_tellSection_27 rfl rfl ?_
    replace hp := q_if hp
    obtain ⟨hb4, hp⟩ := hp
    refine et_iast (pc := 28) d_Plan_tellSection_28 s_14 hb4 (by decide) ?_
    replace hp := q_let_of hp
    obtain ⟨f5, hz, hp⟩ := hp
    rw [← hz]
    clear hz
    refine et_aload_n (pc := 29) d_Plan_tellSection_29 rfl rfl ?_
    refine ev_dup (pc := 30) d_Plan_tellSection_30 rfl ?_
    refine et_geti (pc := 31) ok (fl_Plan_49 t) rfl d_Plan_tellSection_31 s_3 ?_
    refine ev_iconst (pc := 34) d_Plan_tellSection_34 ?_
    refine ev_iadd (pc := 35) d_Plan_tellSection_35 ?_
    refine et_puti (pc := 36) ok (fl_Plan_49 t) d_Plan_tellSection_36 s_3 ?_
    replace hp := q_let_of hp
    obtain ⟨f6, hz, hp⟩ := hp
    rw [← hz]
    clear hz
    refine ev_sub (ls2 := []) [] rfl ?_
    exact e_Plan_tellSection_39 t ok  hQ    f6 g hp
theorem d_Plan_sectionAt_0 : decode (m_c m_Plan_sectionAt) 0 = .ok (.aload_n 0, 1) := by decide +kernel
theorem d_Plan_sectionAt_1 : decode (m_c m_Plan_sectionAt) 1 = .ok (.getfield 25, 3) := by decide +kernel
theorem d_Plan_sectionAt_4 : decode (m_c m_Plan_sectionAt) 4 = .ok (.aload_n 0, 1) := by decide +kernel
theorem d_Plan_sectionAt_5 : decode (m_c m_Plan_sectionAt) 5 = .ok (.getfield 45, 3) := by decide +kernel
theorem d_Plan_sectionAt_8 : decode (m_c m_Plan_sectionAt) 8 = .ok (.iload_n 1, 1) := by decide +kernel
theorem d_Plan_sectionAt_9 : decode (m_c m_Plan_sectionAt) 9 = .ok (.iaload, 1) := by decide +kernel
theorem d_Plan_sectionAt_10 : decode (m_c m_Plan_sectionAt) 10 = .ok (.aaload, 1) := by decide +kernel
theorem d_Plan_sectionAt_11 : decode (m_c m_Plan_sectionAt) 11 = .ok (.areturn, 1) := by decide +kernel
def p_Plan_sectionAt  (v1 : Int) (f g : q_F) : Option (Nat × q_F × q_F) :=
  if 0 ≤ v1 ∧ v1 < 8 then
    if 0 ≤ (f 14 (Int.toNat v1)) ∧ (f 14 (Int.toNat v1)) < 8 then
      some (28 + Int.toNat (f 14 (Int.toNat v1)), f, g)
    else none
  else none
theorem t_Plan_sectionAt (t : q_V) (ok : ma_ok (q_G t))  {Q : Option Value → ma_H → Prop} {y : Nat × q_F × q_F} (v1 : Int) (f g : q_F) (hp : p_Plan_sectionAt  v1 f g = some y) (hQ : Q (some (q_a t y.1)) (q_h y.2.1 y.2.2)) : ma_Met (q_G t) false 0 0 0 0 m_Plan_sectionAt [q_a t (3), ma_i (v1)] (q_h f g) Q := by
  refine ma_met (by decide +kernel) (q_ble rfl) rfl ?_
  change ma_Ev (q_G t) 0 0 0 0 m_Plan_sectionAt 0 [(0, q_a t (3)), (1, ma_i (v1))] [] (q_h f g) (ma_zr (q_G t) false Q)
  unfold p_Plan_sectionAt at hp
  refine et_aload_n (pc := 0) d_Plan_sectionAt_0 rfl rfl ?_
  refine et_getr (pc := 1) ok (fl_Plan_25 t) rfl d_Plan_sectionAt_1 s_3 r_3_2 ?_
  refine et_aload_n (pc := 4) d_Plan_sectionAt_4 rfl rfl ?_
  refine et_getr (pc := 5) ok (fl_Plan_45 t) rfl d_Plan_sectionAt_5 s_3 r_3_6 ?_
  refine ev_iload_n (pc := 8) d_Plan_sectionAt_8 rfl rfl ?_
  replace hp := q_if hp
  obtain ⟨hb1, hp⟩ := hp
  refine et_iald (pc := 9) d_Plan_sectionAt_9 s_14 hb1 (by decide) ?_
  replace hp := q_if hp
  obtain ⟨hb2, hp⟩ := hp
  refine et_aald (pc := 10) d_Plan_sectionAt_10 s_6 hb2 (by decide) (r_6 _ (by omega)) ?_
  cases Option.some.inj hp
  exact et_aret (pc := 11) d_Plan_sectionAt_11 rfl hQ
theorem d_Plan_copiedAt_0 : decode (m_c m_Plan_copiedAt) 0 = .ok (.aload_n 0, 1) := by decide +kernel
theorem d_Plan_copiedAt_1 : decode (m_c m_Plan_copiedAt) 1 = .ok (.getfield 25, 3) := by decide +kernel
theorem d_Plan_copiedAt_4 : decode (m_c m_Plan_copiedAt) 4 = .ok (.aload_n 0, 1) := by decide +kernel
theorem d_Plan_copiedAt_5 : decode (m_c m_Plan_copiedAt) 5 = .ok (.getfield 53, 3) := by decide +kernel
theorem d_Plan_copiedAt_8 : decode (m_c m_Plan_copiedAt) 8 = .ok (.iload_n 1, 1) := by decide +kernel
theorem d_Plan_copiedAt_9 : decode (m_c m_Plan_copiedAt) 9 = .ok (.iaload, 1) := by decide +kernel
theorem d_Plan_copiedAt_10 : decode (m_c m_Plan_copiedAt) 10 = .ok (.aaload, 1) := by decide +kernel
theorem d_Plan_copiedAt_11 : decode (m_c m_Plan_copiedAt) 11 = .ok (.areturn, 1) := by decide +kernel
def p_Plan_copiedAt  (v1 : Int) (f g : q_F) : Option (Nat × q_F × q_F) :=
  if 0 ≤ v1 ∧ v1 < 8 then
    if 0 ≤ (f 15 (Int.toNat v1)) ∧ (f 15 (Int.toNat v1)) < 8 then
      some (28 + Int.toNat (f 15 (Int.toNat v1)), f, g)
    else none
  else none
theorem t_Plan_copiedAt (t : q_V) (ok : ma_ok (q_G t))  {Q : Option Value → ma_H → Prop} {y : Nat × q_F × q_F} (v1 : Int) (f g : q_F) (hp : p_Plan_copiedAt  v1 f g = some y) (hQ : Q (some (q_a t y.1)) (q_h y.2.1 y.2.2)) : ma_Met (q_G t) false 0 0 0 0 m_Plan_copiedAt [q_a t (3), ma_i (v1)] (q_h f g) Q := by
  refine ma_met (by decide +kernel) (q_ble rfl) rfl ?_
  change ma_Ev (q_G t) 0 0 0 0 m_Plan_copiedAt 0 [(0, q_a t (3)), (1, ma_i (v1))] [] (q_h f g) (ma_zr (q_G t) false Q)
  unfold p_Plan_copiedAt at hp
  refine et_aload_n (pc := 0) d_Plan_copiedAt_0 rfl rfl ?_
  refine et_getr (pc := 1) ok (fl_Plan_25 t) rfl d_Plan_copiedAt_1 s_3 r_3_2 ?_
  refine et_aload_n (pc := 4) d_Plan_copiedAt_4 rfl rfl ?_
  refine et_getr (pc := 5) ok (fl_Plan_53 t) rfl d_Plan_copiedAt_5 s_3 r_3_8 ?_
  refine ev_iload_n (pc := 8) d_Plan_copiedAt_8 rfl rfl ?_
  replace hp := q_if hp
  obtain ⟨hb1, hp⟩ := hp
  refine et_iald (pc := 9) d_Plan_copiedAt_9 s_15 hb1 (by decide) ?_
  replace hp := q_if hp
  obtain ⟨hb2, hp⟩ := hp
  refine et_aald (pc := 10) d_Plan_copiedAt_10 s_6 hb2 (by decide) (r_6 _ (by omega)) ?_
  cases Option.some.inj hp
  exact et_aret (pc := 11) d_Plan_copiedAt_11 rfl hQ
theorem d_Plan_listCopies_0 : decode (m_c m_Plan_listCopies) 0 = .ok (.aload_n 0, 1) := by decide +kernel
theorem d_Plan_listCopies_1 : decode (m_c m_Plan_listCopies) 1 = .ok (.iconst 0, 1) := by decide +kernel
theorem d_Plan_listCopies_2 : decode (m_c m_Plan_listCopies) 2 = .ok (.putfield 56, 3) := by decide +kernel
theorem d_Plan_listCopies_5 : decode (m_c m_Plan_listCopies) 5 = .ok (.iconst 0, 1) := by decide +kernel
theorem d_Plan_listCopies_6 : decode (m_c m_Plan_listCopies) 6 = .ok (.istore_n 1, 1) := by decide +kernel
theorem d_Plan_listCopies_7 : decode (m_c m_Plan_listCopies) 7 = .ok (.iload_n 1, 1) := by decide +kernel
theorem d_Plan_listCopies_8 : decode (m_c m_Plan_listCopies) 8 = .ok (.aload_n 0, 1) := by decide +kernel
theorem d_Plan_listCopies_9 : decode (m_c m_Plan_listCopies) 9 = .ok (.getfield 49, 3) := by decide +kernel
theorem d_Plan_listCopies_12 : decode (m_c m_Plan_listCopies) 12 = .ok (.if_icmp .ge 65, 3) := by decide +kernel
theorem d_Plan_listCopies_15 : decode (m_c m_Plan_listCopies) 15 = .ok (.aload_n 0, 1) := by decide +kernel
theorem d_Plan_listCopies_16 : decode (m_c m_Plan_listCopies) 16 = .ok (.iload_n 1, 1) := by decide +kernel
theorem d_Plan_listCopies_17 : decode (m_c m_Plan_listCopies) 17 = .ok (.invokevirtual 76, 3) := by decide +kernel
theorem d_Plan_listCopies_20 : decode (m_c m_Plan_listCopies) 20 = .ok (.astore_n 2, 1) := by decide +kernel
theorem d_Plan_listCopies_21 : decode (m_c m_Plan_listCopies) 21 = .ok (.aload_n 2, 1) := by decide +kernel
theorem d_Plan_listCopies_22 : decode (m_c m_Plan_listCopies) 22 = .ok (.getfield 80, 3) := by decide +kernel
theorem d_Plan_listCopies_25 : decode (m_c m_Plan_listCopies) 25 = .ok (.ifCond .eq 46, 3) := by decide +kernel
theorem d_Plan_listCopies_28 : decode (m_c m_Plan_listCopies) 28 = .ok (.aload_n 2, 1) := by decide +kernel
theorem d_Plan_listCopies_29 : decode (m_c m_Plan_listCopies) 29 = .ok (.getfield 83, 3) := by decide +kernel
theorem d_Plan_listCopies_32 : decode (m_c m_Plan_listCopies) 32 = .ok (.aload_n 2, 1) := by decide +kernel
theorem d_Plan_listCopies_33 : decode (m_c m_Plan_listCopies) 33 = .ok (.getfield 86, 3) := by decide +kernel
theorem d_Plan_listCopies_36 : decode (m_c m_Plan_listCopies) 36 = .ok (.if_icmp .eq 35, 3) := by decide +kernel
theorem d_Plan_listCopies_39 : decode (m_c m_Plan_listCopies) 39 = .ok (.aload_n 2, 1) := by decide +kernel
theorem d_Plan_listCopies_40 : decode (m_c m_Plan_listCopies) 40 = .ok (.getfield 89, 3) := by decide +kernel
theorem d_Plan_listCopies_43 : decode (m_c m_Plan_listCopies) 43 = .ok (.ifCond .le 28, 3) := by decide +kernel
theorem d_Plan_listCopies_46 : decode (m_c m_Plan_listCopies) 46 = .ok (.aload_n 0, 1) := by decide +kernel
theorem d_Plan_listCopies_47 : decode (m_c m_Plan_listCopies) 47 = .ok (.getfield 53, 3) := by decide +kernel
theorem d_Plan_listCopies_50 : decode (m_c m_Plan_listCopies) 50 = .ok (.aload_n 0, 1) := by decide +kernel
theorem d_Plan_listCopies_51 : decode (m_c m_Plan_listCopies) 51 = .ok (.getfield 56, 3) := by decide +kernel
theorem d_Plan_listCopies_54 : decode (m_c m_Plan_listCopies) 54 = .ok (.aload_n 0, 1) := by decide +kernel
theorem d_Plan_listCopies_55 : decode (m_c m_Plan_listCopies) 55 = .ok (.getfield 45, 3) := by decide +kernel
theorem d_Plan_listCopies_58 : decode (m_c m_Plan_listCopies) 58 = .ok (.iload_n 1, 1) := by decide +kernel
theorem d_Plan_listCopies_59 : decode (m_c m_Plan_listCopies) 59 = .ok (.iaload, 1) := by decide +kernel
theorem d_Plan_listCopies_60 : decode (m_c m_Plan_listCopies) 60 = .ok (.iastore, 1) := by decide +kernel
theorem d_Plan_listCopies_61 : decode (m_c m_Plan_listCopies) 61 = .ok (.aload_n 0, 1) := by decide +kernel
theorem d_Plan_listCopies_62 : decode (m_c m_Plan_listCopies) 62 = .ok (.dup, 1) := by decide +kernel
theorem d_Plan_listCopies_63 : decode (m_c m_Plan_listCopies) 63 = .ok (.getfield 56, 3) := by decide +kernel
theorem d_Plan_listCopies_66 : decode (m_c m_Plan_listCopies) 66 = .ok (.iconst 1, 1) := by decide +kernel
theorem d_Plan_listCopies_67 : decode (m_c m_Plan_listCopies) 67 = .ok (.iadd, 1) := by decide +kernel
theorem d_Plan_listCopies_68 : decode (m_c m_Plan_listCopies) 68 = .ok (.putfield 56, 3) := by decide +kernel
theorem d_Plan_listCopies_71 : decode (m_c m_Plan_listCopies) 71 = .ok (.iinc 1 1, 3) := by decide +kernel
theorem d_Plan_listCopies_74 : decode (m_c m_Plan_listCopies) 74 = .ok (.goto (-67), 3) := by decide +kernel
theorem d_Plan_listCopies_77 : decode (m_c m_Plan_listCopies) 77 = .ok (.return_, 1) := by decide +kernel
def p_Plan_listCopies_71  (c7 : Int → q_F → q_F → Option (q_F × q_F)) (v1 : Int) (f g : q_F) : Option (q_F × q_F) :=
  q_let (v1 + 1) fun z1 =>
  c7 (z1) f g
def p_Plan_listCopies_7   : Nat → Int → q_F → q_F → Option (q_F × q_F)
  | 0, _, _, _ => none
  | n + 1, v1, f, g =>
    if q_sw (f 3 7) ≤ q_sw v1 then
      some (f, g)
    else
      (p_Plan_sectionAt (v1) f g).bind fun x2 =>
      if 28 ≤ x2.1 ∧ x2.1 < 36 then
        if q_sw (x2.2.1 x2.1 7) = 0 then
          p_Plan_listCopies_71  (p_Plan_listCopies_7   n) (v1) x2.2.1 x2.2.2
        else
          if q_sw (x2.2.1 x2.1 11) = q_sw (x2.2.1 x2.1 9) then
            p_Plan_listCopies_71  (p_Plan_listCopies_7   n) (v1) x2.2.1 x2.2.2
          else
            if q_sw (x2.2.1 x2.1 10) ≤ 0 then
              p_Plan_listCopies_71  (p_Plan_listCopies_7   n) (v1) x2.2.1 x2.2.2
            else
              if 0 ≤ v1 ∧ v1 < 8 then
                if 0 ≤ (x2.2.1 3 9) ∧ (x2.2.1 3 9) < 8 then
                  q_let (ma_up x2.2.1 15 (Int.toNat (x2.2.1 3 9)) (x2.2.1 14 (Int.toNat v1))) fun f10 =>
                  q_let (ma_up f10 3 9 ((f10 3 9) + 1)) fun f11 =>
                  p_Plan_listCopies_71  (p_Plan_listCopies_7   n) (v1) f11 x2.2.2
                else none
              else none
      else none
def p_Plan_listCopies   (f g : q_F) : Option (q_F × q_F) :=
  q_let (ma_up f 3 9 0) fun f1 =>
  p_Plan_listCopies_7   1000 (0) f1 g
theorem e_Plan_listCopies_71 (t : q_V) (ok : ma_ok (q_G t))  {Q : Option Value → ma_H → Prop} {y : q_F × q_F} (hQ : Q (none) (q_h y.1 y.2)) (c7 : Int → q_F → q_F → Option (q_F × q_F)) (hc7 : ∀ (v1 : Int) (f g : q_F), c7 v1 f g = some y → ma_Ev (q_G t) 1 21 0 0 m_Plan_listCopies 7 [(0, q_a t (3)), (1, ma_i (v1))] [] (q_h f g) (ma_zr (q_G t) false Q)) (v1 : Int) (f g : q_F) (hp : p_Plan_listCopies_71  c7 v1 f g = some y) : ma_Ev (q_G t) 1 21 0 0 m_Plan_listCopies 71 [(0, q_a t (3)), (1, ma_i (v1))] [] (q_h f g) (ma_zr (q_G t) false Q) := by
  unfold p_Plan_listCopies_71 at hp
  refine ev_iinc (pc := 71) d_Plan_listCopies_71 (by decide) rfl [(1, _), (0, _)] rfl ?_
  replace hp := q_let_of hp
  obtain ⟨z1, hz, hp⟩ := hp
  rw [← hz]
  clear hz
  refine ev_goto (pc := 74) (tgt := 7) d_Plan_listCopies_74 (by decide) ?_
  refine ev_sub (ls2 := [(0, q_a t (3)), (1, ma_i (z1))]) [1, 0] rfl ?_
  exact hc7 (z1) f g hp
theorem e_Plan_listCopies_7 (t : q_V) (ok : ma_ok (q_G t))  {Q : Option Value → ma_H → Prop} {y : q_F × q_F} (hQ : Q (none) (q_h y.1 y.2))   : ∀ (n : Nat) (v1 : Int) (f g : q_F), p_Plan_listCopies_7   n v1 f g = some y → ma_Ev (q_G t) 1 21 0 0 m_Plan_listCopies 7 [(0, q_a t (3)), (1, ma_i (v1))] [] (q_h f g) (ma_zr (q_G t) false Q) := by
  intro n
  induction n with
  | zero =>
    intro v1 f g hp
    rw [p_Plan_listCopies_7] at hp
    cases hp
  | succ n ih =>
    intro v1 f g hp
    rw [p_Plan_listCopies_7] at hp
    refine ev_iload_n (pc := 7) d_Plan_listCopies_7 rfl rfl ?_
    refine et_aload_n (pc := 8) d_Plan_listCopies_8 rfl rfl ?_
    refine et_geti (pc := 9) ok (fl_Plan_49 t) rfl d_Plan_listCopies_9 s_3 ?_
    refine et_icmp_ge (pc := 12) (tgt := 77) d_Plan_listCopies_12 (by decide) (fun hj1 => ?_) (fun hj1 => ?_)
    · rw [if_pos hj1] at hp
      cases Option.some.inj hp
      exact et_ret (pc := 77) d_Plan_listCopies_77 rfl hQ
    · rw [if_neg hj1] at hp
      refine et_aload_n (pc := 15) d_Plan_listCopies_15 rfl rfl ?_
      refine ev_iload_n (pc := 16) d_Plan_listCopies_16 rfl rfl ?_
      replace hp := q_bind hp
      obtain ⟨x2, hm3, hp⟩ := hp
      refine et_callVr (pc := 17) (f1 := x2.2.1) (g1 := x2.2.2) ok [ma_i (v1)] [] (cf_Plan_76 t) d_Plan_listCopies_17 s_3 k_7 rfl (t_Plan_sectionAt t ok (v1) f g hm3 ⟨rfl, rfl⟩) rfl rfl (by decide) (by decide) (q_ble rfl) ?_
      replace hp := q_if hp
      obtain ⟨hb4, hp⟩ := hp
      refine et_astore_n (pc := 20) d_Plan_listCopies_20 rfl (by decide) [(2, _), (0, _), (1, _)] rfl ?_
      refine et_aload_n (pc := 21) d_Plan_listCopies_21 rfl rfl ?_
      refine et_geti (pc := 22) ok (fl_Plan_80 t) rfl d_Plan_listCopies_22 (s_28 _ (by omega) (by omega)) ?_
      refine et_if_eq (pc := 25) (tgt := 71) d_Plan_listCopies_25 (by decide) (fun hj5 => ?_) (fun hj5 => ?_)
      · rw [if_pos hj5] at hp
        refine ev_sub (ls2 := [(0, q_a t (3)), (1, ma_i (v1))]) [1, 2] rfl ?_
        exact e_Plan_listCopies_71 t ok  hQ (p_Plan_listCopies_7   n) ih (v1) x2.2.1 x2.2.2 hp
      · rw [if_neg hj5] at hp
        refine et_aload_n (pc := 28) d_Plan_listCopies_28 rfl rfl ?_
        refine et_geti (pc := 29) ok (fl_Plan_83 t) rfl d_Plan_listCopies_29 (s_28 _ (by omega) (by omega)) ?_
        refine et_aload_n (pc := 32) d_Plan_listCopies_32 rfl rfl ?_
        refine et_geti (pc := 33) ok (fl_Plan_86 t) rfl d_Plan_listCopies_33 (s_28 _ (by omega) (by omega)) ?_
        refine et_icmp_eq (pc := 36) (tgt := 71) d_Plan_listCopies_36 (by decide) (fun hj6 => ?_) (fun hj6 => ?_)
        · rw [if_pos hj6] at hp
          refine ev_sub (ls2 := [(0, q_a t (3)), (1, ma_i (v1))]) [1, 2] rfl ?_
          exact e_Plan_listCopies_71 t ok  hQ (p_Plan_listCopies_7   n) ih (v1) x2.2.1 x2.2.2 hp
        · rw [if_neg hj6] at hp
          refine et_aload_n (pc := 39) d_Plan_listCopies_39 rfl rfl ?_
          refine et_geti (pc := 40) ok (fl_Plan_89 t) rfl d_Plan_listCopies_40 (s_28 _ (by omega) (by omega)) ?_
          refine et_if_le (pc := 43) (tgt := 71) d_Plan_listCopies_43 (by decide) (fun hj7 => ?_) (fun hj7 => ?_)
          · rw [if_pos hj7] at hp
            refine ev_sub (ls2 := [(0, q_a t (3)), (1, ma_i (v1))]) [1, 2] rfl ?_
            exact e_Plan_listCopies_71 t ok  hQ (p_Plan_listCopies_7   n) ih (v1) x2.2.1 x2.2.2 hp
          · rw [if_neg hj7] at hp
            refine et_aload_n (pc := 46) d_Plan_listCopies_46 rfl rfl ?_
            refine et_getr (pc := 47) ok (fl_Plan_53 t) rfl d_Plan_listCopies_47 s_3 r_3_8 ?_
            refine et_aload_n (pc := 50) d_Plan_listCopies_50 rfl rfl ?_
            refine et_geti (pc := 51) ok (fl_Plan_56 t) rfl d_Plan_listCopies_51 s_3 ?_
            refine et_aload_n (pc := 54) d_Plan_listCopies_54 rfl rfl ?_
            refine et_getr (pc := 55) ok (fl_Plan_45 t) rfl d_Plan_listCopies_55 s_3 r_3_6 ?_
            refine ev_iload_n (pc := 58) d_Plan_listCopies_58 rfl rfl ?_
            replace hp := q_if hp
            obtain ⟨hb8, hp⟩ := hp
            refine et_iald (pc := 59) d_Plan_listCopies_59 s_14 hb8 (by decide) ?_
            replace hp := q_if hp
            obtain ⟨hb9, hp⟩ := hp
            refine et_iast (pc := 60) d_Plan_listCopies_60 s_15 hb9 (by decide) ?_
            replace hp := q_let_of hp
            obtain ⟨f10, hz, hp⟩ := hp
            rw [← hz]
            clear hz
            refine et_aload_n (pc := 61) d_Plan_listCopies_61 rfl rfl ?_
            refine ev_dup (pc := 62) d_Plan_listCopies_62 rfl ?_
            refine et_geti (pc := 63) ok (fl_Plan_56 t) rfl d_Plan_listCopies_63 s_3 ?_
            refine ev_iconst (pc := 66) d_Plan_listCopies_66 ?_
            refine ev_iadd (pc := 67) d_Plan_listCopies_67 ?_
            refine et_puti (pc := 68) ok (fl_Plan_56 t) d_Plan_listCopies_68 s_3 ?_
            replace hp := q_let_of hp
            obtain ⟨f11, hz, hp⟩ := hp
            rw [← hz]
            clear hz
            refine ev_sub (ls2 := [(0, q_a t (3)), (1, ma_i (v1))]) [1, 2] rfl ?_
            exact e_Plan_listCopies_71 t ok  hQ (p_Plan_listCopies_7   n) ih (v1) f11 x2.2.2 hp
theorem t_Plan_listCopies (t : q_V) (ok : ma_ok (q_G t))  {Q : Option Value → ma_H → Prop} {y : q_F × q_F}  (f g : q_F) (hp : p_Plan_listCopies   f g = some y) (hQ : Q (none) (q_h y.1 y.2)) : ma_Met (q_G t) false 1 21 0 0 m_Plan_listCopies [q_a t (3)] (q_h f g) Q := by
  refine ma_met (by decide +kernel) (q_ble rfl) rfl ?_
  change ma_Ev (q_G t) 1 21 0 0 m_Plan_listCopies 0 [(0, q_a t (3))] [] (q_h f g) (ma_zr (q_G t) false Q)
  unfold p_Plan_listCopies at hp
  refine et_aload_n (pc := 0) d_Plan_listCopies_0 rfl rfl ?_
  refine ev_iconst (pc := 1) d_Plan_listCopies_1 ?_
  refine et_puti (pc := 2) ok (fl_Plan_56 t) d_Plan_listCopies_2 s_3 ?_
  replace hp := q_let_of hp
  obtain ⟨f1, hz, hp⟩ := hp
  rw [← hz]
  clear hz
  refine ev_iconst (pc := 5) d_Plan_listCopies_5 ?_
  refine ev_istore_n (pc := 6) d_Plan_listCopies_6 rfl (by decide) [(1, _), (0, _)] rfl ?_
  refine ev_sub (ls2 := [(0, q_a t (3)), (1, ma_i (0))]) [1, 0] rfl ?_
  exact e_Plan_listCopies_7 t ok  hQ   1000 (0) f1 g hp
