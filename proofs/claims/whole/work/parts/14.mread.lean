/-! ===== printed by walk.py: the reference reads ===== -/
theorem d_Mod_thrown_0 : decode (m_c m_Mod_thrown) 0 = .ok (.aload_n 0, 1) := by decide +kernel
theorem d_Mod_thrown_1 : decode (m_c m_Mod_thrown) 1 = .ok (.getfield 124, 3) := by decide +kernel
theorem d_Mod_thrown_4 : decode (m_c m_Mod_thrown) 4 = .ok (.ireturn, 1) := by decide +kernel
def p_Mod_thrown   (f g : q_F) : Option (Int × q_F × q_F) :=
  some (f 60 0, f, g)
theorem t_Mod_thrown (t : q_V) (ok : ma_ok (q_G t))  {Q : Option Value → ma_H → Prop} {y : Int × q_F × q_F}  (f g : q_F) (hp : p_Mod_thrown   f g = some y) (hQ : Q (some (ma_i y.1)) (q_h y.2.1 y.2.2)) : ma_Met (q_G t) false 0 0 0 0 m_Mod_thrown [q_a t (60)] (q_h f g) Q := by
  refine ma_met (by decide +kernel) (q_ble rfl) rfl ?_
  change ma_Ev (q_G t) 0 0 0 0 m_Mod_thrown 0 [(0, q_a t (60))] [] (q_h f g) (ma_zr (q_G t) false Q)
  unfold p_Mod_thrown at hp
  refine et_aload_n (pc := 0) d_Mod_thrown_0 rfl rfl ?_
  refine et_geti (pc := 1) ok (fl_Mod_124 t) rfl d_Mod_thrown_1 s_60 ?_
  cases Option.some.inj hp
  exact et_iret (pc := 4) d_Mod_thrown_4 rfl hQ
theorem d_Mod_within_0 : decode (m_c m_Mod_within) 0 = .ok (.iload_n 0, 1) := by decide +kernel
theorem d_Mod_within_1 : decode (m_c m_Mod_within) 1 = .ok (.iload_n 1, 1) := by decide +kernel
theorem d_Mod_within_2 : decode (m_c m_Mod_within) 2 = .ok (.if_icmp .lt 12, 3) := by decide +kernel
theorem d_Mod_within_5 : decode (m_c m_Mod_within) 5 = .ok (.iload_n 0, 1) := by decide +kernel
theorem d_Mod_within_6 : decode (m_c m_Mod_within) 6 = .ok (.iload_n 2, 1) := by decide +kernel
theorem d_Mod_within_7 : decode (m_c m_Mod_within) 7 = .ok (.if_icmp .gt 7, 3) := by decide +kernel
theorem d_Mod_within_10 : decode (m_c m_Mod_within) 10 = .ok (.iconst 1, 1) := by decide +kernel
theorem d_Mod_within_11 : decode (m_c m_Mod_within) 11 = .ok (.goto 4, 3) := by decide +kernel
theorem d_Mod_within_14 : decode (m_c m_Mod_within) 14 = .ok (.iconst 0, 1) := by decide +kernel
theorem d_Mod_within_15 : decode (m_c m_Mod_within) 15 = .ok (.ireturn, 1) := by decide +kernel
def p_Mod_within_15   (s0 : Int) (f g : q_F) : Option (Int × q_F × q_F) :=
  if s0 = 0 ∨ s0 = 1 then
    some (s0, f, g)
  else none
def p_Mod_within_14    (f g : q_F) : Option (Int × q_F × q_F) :=
  p_Mod_within_15   (0) f g
def p_Mod_within  (v0 : Int) (v1 : Int) (v2 : Int) (f g : q_F) : Option (Int × q_F × q_F) :=
  if q_sw v0 < q_sw v1 then
    p_Mod_within_14    f g
  else
    if q_sw v2 < q_sw v0 then
      p_Mod_within_14    f g
    else
      p_Mod_within_15   (1) f g
theorem e_Mod_within_15 (t : q_V) (ok : ma_ok (q_G t))  {Q : Option Value → ma_H → Prop} {y : Int × q_F × q_F} (hQ : Q (some (ma_i y.1)) (q_h y.2.1 y.2.2))   (s0 : Int) (f g : q_F) (hp : p_Mod_within_15   s0 f g = some y) : ma_Ev (q_G t) 0 0 0 0 m_Mod_within 15 [] [ma_i (s0)] (q_h f g) (ma_zr (q_G t) false Q) := by
  unfold p_Mod_within_15 at hp
  replace hp := q_if hp
  obtain ⟨hb1, hp⟩ := hp
  cases Option.some.inj hp
  exact et_zret (pc := 15) d_Mod_within_15 rfl hb1 hQ
theorem e_Mod_within_14 (t : q_V) (ok : ma_ok (q_G t))  {Q : Option Value → ma_H → Prop} {y : Int × q_F × q_F} (hQ : Q (some (ma_i y.1)) (q_h y.2.1 y.2.2))    (f g : q_F) (hp : p_Mod_within_14    f g = some y) : ma_Ev (q_G t) 0 0 0 0 m_Mod_within 14 [] [] (q_h f g) (ma_zr (q_G t) false Q) := by
  unfold p_Mod_within_14 at hp
  refine ev_iconst (pc := 14) d_Mod_within_14 ?_
  refine ev_sub (ls2 := []) [] rfl ?_
  exact e_Mod_within_15 t ok  hQ   (0) f g hp
theorem t_Mod_within (t : q_V) (ok : ma_ok (q_G t))  {Q : Option Value → ma_H → Prop} {y : Int × q_F × q_F} (v0 : Int) (v1 : Int) (v2 : Int) (f g : q_F) (hp : p_Mod_within  v0 v1 v2 f g = some y) (hQ : Q (some (ma_i y.1)) (q_h y.2.1 y.2.2)) : ma_Met (q_G t) false 0 0 0 0 m_Mod_within [ma_i (v0), ma_i (v1), ma_i (v2)] (q_h f g) Q := by
  refine ma_met (by decide +kernel) (q_ble rfl) rfl ?_
  change ma_Ev (q_G t) 0 0 0 0 m_Mod_within 0 [(0, ma_i (v0)), (1, ma_i (v1)), (2, ma_i (v2))] [] (q_h f g) (ma_zr (q_G t) false Q)
  unfold p_Mod_within at hp
  refine ev_iload_n (pc := 0) d_Mod_within_0 rfl rfl ?_
  refine ev_iload_n (pc := 1) d_Mod_within_1 rfl rfl ?_
  refine et_icmp_lt (pc := 2) (tgt := 14) d_Mod_within_2 (by decide) (fun hj1 => ?_) (fun hj1 => ?_)
  · rw [if_pos hj1] at hp
    refine ev_sub (ls2 := []) [] rfl ?_
    exact e_Mod_within_14 t ok  hQ    f g hp
  · rw [if_neg hj1] at hp
    refine ev_iload_n (pc := 5) d_Mod_within_5 rfl rfl ?_
    refine ev_iload_n (pc := 6) d_Mod_within_6 rfl rfl ?_
    refine et_icmp_gt (pc := 7) (tgt := 14) d_Mod_within_7 (by decide) (fun hj2 => ?_) (fun hj2 => ?_)
    · rw [if_pos hj2] at hp
      refine ev_sub (ls2 := []) [] rfl ?_
      exact e_Mod_within_14 t ok  hQ    f g hp
    · rw [if_neg hj2] at hp
      refine ev_iconst (pc := 10) d_Mod_within_10 ?_
      refine ev_goto (pc := 11) (tgt := 15) d_Mod_within_11 (by decide) ?_
      refine ev_sub (ls2 := []) [] rfl ?_
      exact e_Mod_within_15 t ok  hQ   (1) f g hp
theorem d_Mod_power_0 : decode (m_c m_Mod_power) 0 = .ok (.iconst 0, 1) := by decide +kernel
theorem d_Mod_power_1 : decode (m_c m_Mod_power) 1 = .ok (.istore_n 2, 1) := by decide +kernel
theorem d_Mod_power_2 : decode (m_c m_Mod_power) 2 = .ok (.iconst 1, 1) := by decide +kernel
theorem d_Mod_power_3 : decode (m_c m_Mod_power) 3 = .ok (.istore_n 3, 1) := by decide +kernel
theorem d_Mod_power_4 : decode (m_c m_Mod_power) 4 = .ok (.iload_n 3, 1) := by decide +kernel
theorem d_Mod_power_5 : decode (m_c m_Mod_power) 5 = .ok (.iload_n 1, 1) := by decide +kernel
theorem d_Mod_power_6 : decode (m_c m_Mod_power) 6 = .ok (.if_icmp .gt 25, 3) := by decide +kernel
theorem d_Mod_power_9 : decode (m_c m_Mod_power) 9 = .ok (.iload_n 2, 1) := by decide +kernel
theorem d_Mod_power_10 : decode (m_c m_Mod_power) 10 = .ok (.ifCond .ne 8, 3) := by decide +kernel
theorem d_Mod_power_13 : decode (m_c m_Mod_power) 13 = .ok (.iload_n 3, 1) := by decide +kernel
theorem d_Mod_power_14 : decode (m_c m_Mod_power) 14 = .ok (.iload_n 0, 1) := by decide +kernel
theorem d_Mod_power_15 : decode (m_c m_Mod_power) 15 = .ok (.if_icmp .ne 7, 3) := by decide +kernel
theorem d_Mod_power_18 : decode (m_c m_Mod_power) 18 = .ok (.iconst 1, 1) := by decide +kernel
theorem d_Mod_power_19 : decode (m_c m_Mod_power) 19 = .ok (.goto 4, 3) := by decide +kernel
theorem d_Mod_power_22 : decode (m_c m_Mod_power) 22 = .ok (.iconst 0, 1) := by decide +kernel
theorem d_Mod_power_23 : decode (m_c m_Mod_power) 23 = .ok (.istore_n 2, 1) := by decide +kernel
theorem d_Mod_power_24 : decode (m_c m_Mod_power) 24 = .ok (.iconst 2, 1) := by decide +kernel
theorem d_Mod_power_25 : decode (m_c m_Mod_power) 25 = .ok (.iload_n 3, 1) := by decide +kernel
theorem d_Mod_power_26 : decode (m_c m_Mod_power) 26 = .ok (.imul, 1) := by decide +kernel
theorem d_Mod_power_27 : decode (m_c m_Mod_power) 27 = .ok (.istore_n 3, 1) := by decide +kernel
theorem d_Mod_power_28 : decode (m_c m_Mod_power) 28 = .ok (.goto (-24), 3) := by decide +kernel
theorem d_Mod_power_31 : decode (m_c m_Mod_power) 31 = .ok (.iload_n 2, 1) := by decide +kernel
theorem d_Mod_power_32 : decode (m_c m_Mod_power) 32 = .ok (.ireturn, 1) := by decide +kernel
def p_Mod_power_23  (c4 : Int → Int → Int → Int → q_F → q_F → Option (Int × q_F × q_F)) (v0 : Int) (v1 : Int) (v3 : Int) (s0 : Int) (f g : q_F) : Option (Int × q_F × q_F) :=
  q_let (2 * v3) fun z1 =>
  c4 (v0) (v1) (s0) (z1) f g
def p_Mod_power_18  (c4 : Int → Int → Int → Int → q_F → q_F → Option (Int × q_F × q_F)) (v0 : Int) (v1 : Int) (v3 : Int) (f g : q_F) : Option (Int × q_F × q_F) :=
  p_Mod_power_23  c4 (v0) (v1) (v3) (1) f g
def p_Mod_power_4   : Nat → Int → Int → Int → Int → q_F → q_F → Option (Int × q_F × q_F)
  | 0, _, _, _, _, _, _ => none
  | n + 1, v0, v1, v2, v3, f, g =>
    if q_sw v1 < q_sw v3 then
      if v2 = 0 ∨ v2 = 1 then
        some (v2, f, g)
      else none
    else
      if q_sw v2 = 0 then
        if q_sw v3 = q_sw v0 then
          p_Mod_power_18  (p_Mod_power_4   n) (v0) (v1) (v3) f g
        else
          p_Mod_power_23  (p_Mod_power_4   n) (v0) (v1) (v3) (0) f g
      else
        p_Mod_power_18  (p_Mod_power_4   n) (v0) (v1) (v3) f g
def p_Mod_power  (v0 : Int) (v1 : Int) (f g : q_F) : Option (Int × q_F × q_F) :=
  p_Mod_power_4   1000 (v0) (v1) (0) (1) f g
theorem e_Mod_power_23 (t : q_V) (ok : ma_ok (q_G t))  {Q : Option Value → ma_H → Prop} {y : Int × q_F × q_F} (hQ : Q (some (ma_i y.1)) (q_h y.2.1 y.2.2)) (c4 : Int → Int → Int → Int → q_F → q_F → Option (Int × q_F × q_F)) (hc4 : ∀ (v0 : Int) (v1 : Int) (v2 : Int) (v3 : Int) (f g : q_F), c4 v0 v1 v2 v3 f g = some y → ma_Ev (q_G t) 0 0 0 0 m_Mod_power 4 [(0, ma_i (v0)), (1, ma_i (v1)), (2, ma_i (v2)), (3, ma_i (v3))] [] (q_h f g) (ma_zr (q_G t) false Q)) (v0 : Int) (v1 : Int) (v3 : Int) (s0 : Int) (f g : q_F) (hp : p_Mod_power_23  c4 v0 v1 v3 s0 f g = some y) : ma_Ev (q_G t) 0 0 0 0 m_Mod_power 23 [(0, ma_i (v0)), (1, ma_i (v1)), (3, ma_i (v3))] [ma_i (s0)] (q_h f g) (ma_zr (q_G t) false Q) := by
  unfold p_Mod_power_23 at hp
  refine ev_istore_n (pc := 23) d_Mod_power_23 rfl (by decide) [(2, _), (0, _), (1, _), (3, _)] rfl ?_
  refine ev_iconst (pc := 24) d_Mod_power_24 ?_
  refine ev_iload_n (pc := 25) d_Mod_power_25 rfl rfl ?_
  refine ev_imul (pc := 26) d_Mod_power_26 ?_
  refine ev_istore_n (pc := 27) d_Mod_power_27 rfl (by decide) [(3, _), (2, _), (0, _), (1, _)] rfl ?_
  replace hp := q_let_of hp
  obtain ⟨z1, hz, hp⟩ := hp
  rw [← hz]
  clear hz
  refine ev_goto (pc := 28) (tgt := 4) d_Mod_power_28 (by decide) ?_
  refine ev_sub (ls2 := [(0, ma_i (v0)), (1, ma_i (v1)), (2, ma_i (s0)), (3, ma_i (z1))]) [2, 3, 1, 0] rfl ?_
  exact hc4 (v0) (v1) (s0) (z1) f g hp
theorem e_Mod_power_18 (t : q_V) (ok : ma_ok (q_G t))  {Q : Option Value → ma_H → Prop} {y : Int × q_F × q_F} (hQ : Q (some (ma_i y.1)) (q_h y.2.1 y.2.2)) (c4 : Int → Int → Int → Int → q_F → q_F → Option (Int × q_F × q_F)) (hc4 : ∀ (v0 : Int) (v1 : Int) (v2 : Int) (v3 : Int) (f g : q_F), c4 v0 v1 v2 v3 f g = some y → ma_Ev (q_G t) 0 0 0 0 m_Mod_power 4 [(0, ma_i (v0)), (1, ma_i (v1)), (2, ma_i (v2)), (3, ma_i (v3))] [] (q_h f g) (ma_zr (q_G t) false Q)) (v0 : Int) (v1 : Int) (v3 : Int) (f g : q_F) (hp : p_Mod_power_18  c4 v0 v1 v3 f g = some y) : ma_Ev (q_G t) 0 0 0 0 m_Mod_power 18 [(0, ma_i (v0)), (1, ma_i (v1)), (3, ma_i (v3))] [] (q_h f g) (ma_zr (q_G t) false Q) := by
  unfold p_Mod_power_18 at hp
  refine ev_iconst (pc := 18) d_Mod_power_18 ?_
  refine ev_goto (pc := 19) (tgt := 23) d_Mod_power_19 (by decide) ?_
  refine ev_sub (ls2 := [(0, ma_i (v0)), (1, ma_i (v1)), (3, ma_i (v3))]) [0, 1, 2] rfl ?_
  exact e_Mod_power_23 t ok  hQ c4 hc4 (v0) (v1) (v3) (1) f g hp
theorem e_Mod_power_4 (t : q_V) (ok : ma_ok (q_G t))  {Q : Option Value → ma_H → Prop} {y : Int × q_F × q_F} (hQ : Q (some (ma_i y.1)) (q_h y.2.1 y.2.2))   : ∀ (n : Nat) (v0 : Int) (v1 : Int) (v2 : Int) (v3 : Int) (f g : q_F), p_Mod_power_4   n v0 v1 v2 v3 f g = some y → ma_Ev (q_G t) 0 0 0 0 m_Mod_power 4 [(0, ma_i (v0)), (1, ma_i (v1)), (2, ma_i (v2)), (3, ma_i (v3))] [] (q_h f g) (ma_zr (q_G t) false Q) := by
  intro n
  induction n with
  | zero =>
    intro v0 v1 v2 v3 f g hp
    rw [p_Mod_power_4] at hp
    cases hp
  | succ n ih =>
    intro v0 v1 v2 v3 f g hp
    rw [p_Mod_power_4] at hp
    refine ev_iload_n (pc := 4) d_Mod_power_4 rfl rfl ?_
    refine ev_iload_n (pc := 5) d_Mod_power_5 rfl rfl ?_
    refine et_icmp_gt (pc := 6) (tgt := 31) d_Mod_power_6 (by decide) (fun hj1 => ?_) (fun hj1 => ?_)
    · rw [if_pos hj1] at hp
      refine ev_iload_n (pc := 31) d_Mod_power_31 rfl rfl ?_
      replace hp := q_if hp
      obtain ⟨hb2, hp⟩ := hp
      cases Option.some.inj hp
      exact et_zret (pc := 32) d_Mod_power_32 rfl hb2 hQ
    · rw [if_neg hj1] at hp
      refine ev_iload_n (pc := 9) d_Mod_power_9 rfl rfl ?_
      refine et_if_ne (pc := 10) (tgt := 18) d_Mod_power_10 (by decide) (fun hj3 => ?_) (fun hj3 => ?_)
      · rw [if_neg hj3] at hp
        refine ev_sub (ls2 := [(0, ma_i (v0)), (1, ma_i (v1)), (3, ma_i (v3))]) [0, 1, 3] rfl ?_
        exact e_Mod_power_18 t ok  hQ (p_Mod_power_4   n) ih (v0) (v1) (v3) f g hp
      · rw [if_pos hj3] at hp
        refine ev_iload_n (pc := 13) d_Mod_power_13 rfl rfl ?_
        refine ev_iload_n (pc := 14) d_Mod_power_14 rfl rfl ?_
        refine et_icmp_ne (pc := 15) (tgt := 22) d_Mod_power_15 (by decide) (fun hj4 => ?_) (fun hj4 => ?_)
        · rw [if_neg hj4] at hp
          refine ev_iconst (pc := 22) d_Mod_power_22 ?_
          refine ev_sub (ls2 := [(0, ma_i (v0)), (1, ma_i (v1)), (3, ma_i (v3))]) [0, 1, 3] rfl ?_
          exact e_Mod_power_23 t ok  hQ (p_Mod_power_4   n) ih (v0) (v1) (v3) (0) f g hp
        · rw [if_pos hj4] at hp
          refine ev_sub (ls2 := [(0, ma_i (v0)), (1, ma_i (v1)), (3, ma_i (v3))]) [0, 1, 3] rfl ?_
          exact e_Mod_power_18 t ok  hQ (p_Mod_power_4   n) ih (v0) (v1) (v3) f g hp
theorem t_Mod_power (t : q_V) (ok : ma_ok (q_G t))  {Q : Option Value → ma_H → Prop} {y : Int × q_F × q_F} (v0 : Int) (v1 : Int) (f g : q_F) (hp : p_Mod_power  v0 v1 f g = some y) (hQ : Q (some (ma_i y.1)) (q_h y.2.1 y.2.2)) : ma_Met (q_G t) false 0 0 0 0 m_Mod_power [ma_i (v0), ma_i (v1)] (q_h f g) Q := by
  refine ma_met (by decide +kernel) (q_ble rfl) rfl ?_
  change ma_Ev (q_G t) 0 0 0 0 m_Mod_power 0 [(0, ma_i (v0)), (1, ma_i (v1))] [] (q_h f g) (ma_zr (q_G t) false Q)
  unfold p_Mod_power at hp
  refine ev_iconst (pc := 0) d_Mod_power_0 ?_
  refine ev_istore_n (pc := 1) d_Mod_power_1 rfl (by decide) [(2, _), (0, _), (1, _)] rfl ?_
  refine ev_iconst (pc := 2) d_Mod_power_2 ?_
  refine ev_istore_n (pc := 3) d_Mod_power_3 rfl (by decide) [(3, _), (2, _), (0, _), (1, _)] rfl ?_
  refine ev_sub (ls2 := [(0, ma_i (v0)), (1, ma_i (v1)), (2, ma_i (0)), (3, ma_i (1))]) [2, 3, 1, 0] rfl ?_
  exact e_Mod_power_4 t ok  hQ   1000 (v0) (v1) (0) (1) f g hp
theorem d_Mod_fail_0 : decode (m_c m_Mod_fail) 0 = .ok (.aload_n 0, 1) := by decide +kernel
theorem d_Mod_fail_1 : decode (m_c m_Mod_fail) 1 = .ok (.iload_n 1, 1) := by decide +kernel
theorem d_Mod_fail_2 : decode (m_c m_Mod_fail) 2 = .ok (.putfield 124, 3) := by decide +kernel
theorem d_Mod_fail_5 : decode (m_c m_Mod_fail) 5 = .ok (.iconst 0, 1) := by decide +kernel
theorem d_Mod_fail_6 : decode (m_c m_Mod_fail) 6 = .ok (.ireturn, 1) := by decide +kernel
def p_Mod_fail  (v1 : Int) (f g : q_F) : Option (Int × q_F × q_F) :=
  q_let (ma_up f 60 0 v1) fun f1 =>
  some (0, f1, g)
theorem t_Mod_fail (t : q_V) (ok : ma_ok (q_G t))  {Q : Option Value → ma_H → Prop} {y : Int × q_F × q_F} (v1 : Int) (f g : q_F) (hp : p_Mod_fail  v1 f g = some y) (hQ : Q (some (ma_i y.1)) (q_h y.2.1 y.2.2)) : ma_Met (q_G t) false 0 0 0 0 m_Mod_fail [q_a t (60), ma_i (v1)] (q_h f g) Q := by
  refine ma_met (by decide +kernel) (q_ble rfl) rfl ?_
  change ma_Ev (q_G t) 0 0 0 0 m_Mod_fail 0 [(0, q_a t (60)), (1, ma_i (v1))] [] (q_h f g) (ma_zr (q_G t) false Q)
  unfold p_Mod_fail at hp
  refine et_aload_n (pc := 0) d_Mod_fail_0 rfl rfl ?_
  refine ev_iload_n (pc := 1) d_Mod_fail_1 rfl rfl ?_
  refine et_puti (pc := 2) ok (fl_Mod_124 t) d_Mod_fail_2 s_60 ?_
  replace hp := q_let_of hp
  obtain ⟨f1, hz, hp⟩ := hp
  rw [← hz]
  clear hz
  refine ev_iconst (pc := 5) d_Mod_fail_5 ?_
  cases Option.some.inj hp
  exact et_iret (pc := 6) d_Mod_fail_6 rfl hQ
theorem d_Mod_see_0 : decode (m_c m_Mod_see) 0 = .ok (.aload_n 0, 1) := by decide +kernel
theorem d_Mod_see_1 : decode (m_c m_Mod_see) 1 = .ok (.getfield 144, 3) := by decide +kernel
theorem d_Mod_see_4 : decode (m_c m_Mod_see) 4 = .ok (.aload_n 0, 1) := by decide +kernel
theorem d_Mod_see_5 : decode (m_c m_Mod_see) 5 = .ok (.getfield 141, 3) := by decide +kernel
theorem d_Mod_see_8 : decode (m_c m_Mod_see) 8 = .ok (.if_icmp .ge 15, 3) := by decide +kernel
theorem d_Mod_see_11 : decode (m_c m_Mod_see) 11 = .ok (.aload_n 0, 1) := by decide +kernel
theorem d_Mod_see_12 : decode (m_c m_Mod_see) 12 = .ok (.getfield 26, 3) := by decide +kernel
theorem d_Mod_see_15 : decode (m_c m_Mod_see) 15 = .ok (.aload_n 0, 1) := by decide +kernel
theorem d_Mod_see_16 : decode (m_c m_Mod_see) 16 = .ok (.getfield 144, 3) := by decide +kernel
theorem d_Mod_see_19 : decode (m_c m_Mod_see) 19 = .ok (.iaload, 1) := by decide +kernel
theorem d_Mod_see_20 : decode (m_c m_Mod_see) 20 = .ok (.goto 4, 3) := by decide +kernel
theorem d_Mod_see_23 : decode (m_c m_Mod_see) 23 = .ok (.iconst 0, 1) := by decide +kernel
theorem d_Mod_see_24 : decode (m_c m_Mod_see) 24 = .ok (.ireturn, 1) := by decide +kernel
def p_Mod_see_24   (s0 : Int) (f g : q_F) : Option (Int × q_F × q_F) :=
  some (s0, f, g)
def p_Mod_see   (f g : q_F) : Option (Int × q_F × q_F) :=
  if q_sw (f 60 6) ≤ q_sw (f 60 8) then
    p_Mod_see_24   (0) f g
  else
    if 0 ≤ (f 60 8) ∧ (f 60 8) < 160 then
      p_Mod_see_24   (f 66 (Int.toNat (f 60 8))) f g
    else none
theorem e_Mod_see_24 (t : q_V) (ok : ma_ok (q_G t))  {Q : Option Value → ma_H → Prop} {y : Int × q_F × q_F} (hQ : Q (some (ma_i y.1)) (q_h y.2.1 y.2.2))   (s0 : Int) (f g : q_F) (hp : p_Mod_see_24   s0 f g = some y) : ma_Ev (q_G t) 0 0 0 0 m_Mod_see 24 [] [ma_i (s0)] (q_h f g) (ma_zr (q_G t) false Q) := by
  unfold p_Mod_see_24 at hp
  cases Option.some.inj hp
  exact et_iret (pc := 24) d_Mod_see_24 rfl hQ
theorem t_Mod_see (t : q_V) (ok : ma_ok (q_G t))  {Q : Option Value → ma_H → Prop} {y : Int × q_F × q_F}  (f g : q_F) (hp : p_Mod_see   f g = some y) (hQ : Q (some (ma_i y.1)) (q_h y.2.1 y.2.2)) : ma_Met (q_G t) false 0 0 0 0 m_Mod_see [q_a t (60)] (q_h f g) Q := by
  refine ma_met (by decide +kernel) (q_ble rfl) rfl ?_
  change ma_Ev (q_G t) 0 0 0 0 m_Mod_see 0 [(0, q_a t (60))] [] (q_h f g) (ma_zr (q_G t) false Q)
  unfold p_Mod_see at hp
  refine et_aload_n (pc := 0) d_Mod_see_0 rfl rfl ?_
  refine et_geti (pc := 1) ok (fl_Mod_144 t) rfl d_Mod_see_1 s_60 ?_
  refine et_aload_n (pc := 4) d_Mod_see_4 rfl rfl ?_
  refine et_geti (pc := 5) ok (fl_Mod_141 t) rfl d_Mod_see_5 s_60 ?_
  refine et_icmp_ge (pc := 8) (tgt := 23) d_Mod_see_8 (by decide) (fun hj1 => ?_) (fun hj1 => ?_)
  · rw [if_pos hj1] at hp
    refine ev_iconst (pc := 23) d_Mod_see_23 ?_
    refine ev_sub (ls2 := []) [] rfl ?_
    exact e_Mod_see_24 t ok  hQ   (0) f g hp
  · rw [if_neg hj1] at hp
    refine et_aload_n (pc := 11) d_Mod_see_11 rfl rfl ?_
    refine et_getr (pc := 12) ok (fl_Mod_26 t) rfl d_Mod_see_12 s_60 r_60_7 ?_
    refine et_aload_n (pc := 15) d_Mod_see_15 rfl rfl ?_
    refine et_geti (pc := 16) ok (fl_Mod_144 t) rfl d_Mod_see_16 s_60 ?_
    replace hp := q_if hp
    obtain ⟨hb2, hp⟩ := hp
    refine et_iald (pc := 19) d_Mod_see_19 s_66 hb2 (by decide) ?_
    refine ev_goto (pc := 20) (tgt := 24) d_Mod_see_20 (by decide) ?_
    refine ev_sub (ls2 := []) [] rfl ?_
    exact e_Mod_see_24 t ok  hQ   (f 66 (Int.toNat (f 60 8))) f g hp
theorem d_Mod_takes_0 : decode (m_c m_Mod_takes) 0 = .ok (.aload_n 0, 1) := by decide +kernel
theorem d_Mod_takes_1 : decode (m_c m_Mod_takes) 1 = .ok (.getfield 147, 3) := by decide +kernel
theorem d_Mod_takes_4 : decode (m_c m_Mod_takes) 4 = .ok (.ifCond .ne 11, 3) := by decide +kernel
theorem d_Mod_takes_7 : decode (m_c m_Mod_takes) 7 = .ok (.aload_n 0, 1) := by decide +kernel
theorem d_Mod_takes_8 : decode (m_c m_Mod_takes) 8 = .ok (.invokevirtual 150, 3) := by decide +kernel
theorem d_Mod_takes_11 : decode (m_c m_Mod_takes) 11 = .ok (.iload_n 1, 1) := by decide +kernel
theorem d_Mod_takes_12 : decode (m_c m_Mod_takes) 12 = .ok (.if_icmp .eq 5, 3) := by decide +kernel
theorem d_Mod_takes_15 : decode (m_c m_Mod_takes) 15 = .ok (.iconst 0, 1) := by decide +kernel
theorem d_Mod_takes_16 : decode (m_c m_Mod_takes) 16 = .ok (.ireturn, 1) := by decide +kernel
theorem d_Mod_takes_17 : decode (m_c m_Mod_takes) 17 = .ok (.aload_n 0, 1) := by decide +kernel
theorem d_Mod_takes_18 : decode (m_c m_Mod_takes) 18 = .ok (.dup, 1) := by decide +kernel
theorem d_Mod_takes_19 : decode (m_c m_Mod_takes) 19 = .ok (.getfield 144, 3) := by decide +kernel
theorem d_Mod_takes_22 : decode (m_c m_Mod_takes) 22 = .ok (.iconst 1, 1) := by decide +kernel
theorem d_Mod_takes_23 : decode (m_c m_Mod_takes) 23 = .ok (.iadd, 1) := by decide +kernel
theorem d_Mod_takes_24 : decode (m_c m_Mod_takes) 24 = .ok (.putfield 144, 3) := by decide +kernel
theorem d_Mod_takes_27 : decode (m_c m_Mod_takes) 27 = .ok (.iconst 1, 1) := by decide +kernel
theorem d_Mod_takes_28 : decode (m_c m_Mod_takes) 28 = .ok (.ireturn, 1) := by decide +kernel
def p_Mod_takes_15    (f g : q_F) : Option (Int × q_F × q_F) :=
  some (0, f, g)
def p_Mod_takes  (v1 : Int) (f g : q_F) : Option (Int × q_F × q_F) :=
  if q_sw (f 60 9) = 0 then
    (p_Mod_see  f g).bind fun x2 =>
    if q_sw x2.1 = q_sw v1 then
      q_let (ma_up x2.2.1 60 8 ((x2.2.1 60 8) + 1)) fun f5 =>
      some (1, f5, x2.2.2)
    else
      p_Mod_takes_15    x2.2.1 x2.2.2
  else
    p_Mod_takes_15    f g
theorem e_Mod_takes_15 (t : q_V) (ok : ma_ok (q_G t))  {Q : Option Value → ma_H → Prop} {y : Int × q_F × q_F} (hQ : Q (some (ma_i y.1)) (q_h y.2.1 y.2.2))    (f g : q_F) (hp : p_Mod_takes_15    f g = some y) : ma_Ev (q_G t) 1 20 0 0 m_Mod_takes 15 [] [] (q_h f g) (ma_zr (q_G t) false Q) := by
  unfold p_Mod_takes_15 at hp
  refine ev_iconst (pc := 15) d_Mod_takes_15 ?_
  cases Option.some.inj hp
  exact et_zret (pc := 16) d_Mod_takes_16 rfl (by decide) hQ
theorem t_Mod_takes (t : q_V) (ok : ma_ok (q_G t))  {Q : Option Value → ma_H → Prop} {y : Int × q_F × q_F} (v1 : Int) (f g : q_F) (hp : p_Mod_takes  v1 f g = some y) (hQ : Q (some (ma_i y.1)) (q_h y.2.1 y.2.2)) : ma_Met (q_G t) false 1 20 0 0 m_Mod_takes [q_a t (60), ma_i (v1)] (q_h f g) Q := by
  refine ma_met (by decide +kernel) (q_ble rfl) rfl ?_
  change ma_Ev (q_G t) 1 20 0 0 m_Mod_takes 0 [(0, q_a t (60)), (1, ma_i (v1))] [] (q_h f g) (ma_zr (q_G t) false Q)
  unfold p_Mod_takes at hp
  refine et_aload_n (pc := 0) d_Mod_takes_0 rfl rfl ?_
  refine et_geti (pc := 1) ok (fl_Mod_147 t) rfl d_Mod_takes_1 s_60 ?_
  refine et_if_ne (pc := 4) (tgt := 15) d_Mod_takes_4 (by decide) (fun hj1 => ?_) (fun hj1 => ?_)
  · rw [if_neg hj1] at hp
    refine ev_sub (ls2 := []) [] rfl ?_
    exact e_Mod_takes_15 t ok  hQ    f g hp
  · rw [if_pos hj1] at hp
    refine et_aload_n (pc := 7) d_Mod_takes_7 rfl rfl ?_
    replace hp := q_bind hp
    obtain ⟨x2, hm3, hp⟩ := hp
    refine et_callVi (pc := 8) (f1 := x2.2.1) (g1 := x2.2.2) ok [] [] (cf_Mod_150 t) d_Mod_takes_8 s_60 k_12 rfl (t_Mod_see t ok  f g hm3 ⟨rfl, rfl⟩) rfl rfl (by decide) (by decide) (q_ble rfl) ?_
    refine ev_iload_n (pc := 11) d_Mod_takes_11 rfl rfl ?_
    refine et_icmp_eq (pc := 12) (tgt := 17) d_Mod_takes_12 (by decide) (fun hj4 => ?_) (fun hj4 => ?_)
    · rw [if_pos hj4] at hp
      refine et_aload_n (pc := 17) d_Mod_takes_17 rfl rfl ?_
      refine ev_dup (pc := 18) d_Mod_takes_18 rfl ?_
      refine et_geti (pc := 19) ok (fl_Mod_144 t) rfl d_Mod_takes_19 s_60 ?_
      refine ev_iconst (pc := 22) d_Mod_takes_22 ?_
      refine ev_iadd (pc := 23) d_Mod_takes_23 ?_
      refine et_puti (pc := 24) ok (fl_Mod_144 t) d_Mod_takes_24 s_60 ?_
      replace hp := q_let_of hp
      obtain ⟨f5, hz, hp⟩ := hp
      rw [← hz]
      clear hz
      refine ev_iconst (pc := 27) d_Mod_takes_27 ?_
      cases Option.some.inj hp
      exact et_zret (pc := 28) d_Mod_takes_28 rfl (by decide) hQ
    · rw [if_neg hj4] at hp
      refine ev_sub (ls2 := []) [] rfl ?_
      exact e_Mod_takes_15 t ok  hQ    x2.2.1 x2.2.2 hp
theorem d_Mod_take_0 : decode (m_c m_Mod_take) 0 = .ok (.aload_n 0, 1) := by decide +kernel
theorem d_Mod_take_1 : decode (m_c m_Mod_take) 1 = .ok (.iload_n 1, 1) := by decide +kernel
theorem d_Mod_take_2 : decode (m_c m_Mod_take) 2 = .ok (.invokevirtual 154, 3) := by decide +kernel
theorem d_Mod_take_5 : decode (m_c m_Mod_take) 5 = .ok (.ifCond .ne 8, 3) := by decide +kernel
theorem d_Mod_take_8 : decode (m_c m_Mod_take) 8 = .ok (.aload_n 0, 1) := by decide +kernel
theorem d_Mod_take_9 : decode (m_c m_Mod_take) 9 = .ok (.iconst 1, 1) := by decide +kernel
theorem d_Mod_take_10 : decode (m_c m_Mod_take) 10 = .ok (.putfield 147, 3) := by decide +kernel
theorem d_Mod_take_13 : decode (m_c m_Mod_take) 13 = .ok (.return_, 1) := by decide +kernel
def p_Mod_take_13    (f g : q_F) : Option (q_F × q_F) :=
  some (f, g)
def p_Mod_take  (v1 : Int) (f g : q_F) : Option (q_F × q_F) :=
  (p_Mod_takes (v1) f g).bind fun x1 =>
  if q_sw x1.1 = 0 then
    q_let (ma_up x1.2.1 60 9 1) fun f4 =>
    p_Mod_take_13    f4 x1.2.2
  else
    p_Mod_take_13    x1.2.1 x1.2.2
theorem e_Mod_take_13 (t : q_V) (ok : ma_ok (q_G t))  {Q : Option Value → ma_H → Prop} {y : q_F × q_F} (hQ : Q (none) (q_h y.1 y.2))    (f g : q_F) (hp : p_Mod_take_13    f g = some y) : ma_Ev (q_G t) 2 41 0 0 m_Mod_take 13 [] [] (q_h f g) (ma_zr (q_G t) false Q) := by
  unfold p_Mod_take_13 at hp
  cases Option.some.inj hp
  exact et_ret (pc := 13) d_Mod_take_13 rfl hQ
theorem t_Mod_take (t : q_V) (ok : ma_ok (q_G t))  {Q : Option Value → ma_H → Prop} {y : q_F × q_F} (v1 : Int) (f g : q_F) (hp : p_Mod_take  v1 f g = some y) (hQ : Q (none) (q_h y.1 y.2)) : ma_Met (q_G t) false 2 41 0 0 m_Mod_take [q_a t (60), ma_i (v1)] (q_h f g) Q := by
  refine ma_met (by decide +kernel) (q_ble rfl) rfl ?_
  change ma_Ev (q_G t) 2 41 0 0 m_Mod_take 0 [(0, q_a t (60)), (1, ma_i (v1))] [] (q_h f g) (ma_zr (q_G t) false Q)
  unfold p_Mod_take at hp
  refine et_aload_n (pc := 0) d_Mod_take_0 rfl rfl ?_
  refine ev_iload_n (pc := 1) d_Mod_take_1 rfl rfl ?_
  replace hp := q_bind hp
  obtain ⟨x1, hm2, hp⟩ := hp
  refine et_callVi (pc := 2) (f1 := x1.2.1) (g1 := x1.2.2) ok [ma_i (v1)] [] (cf_Mod_154 t) d_Mod_take_2 s_60 k_12 rfl (t_Mod_takes t ok (v1) f g hm2 ⟨rfl, rfl⟩) rfl rfl (by decide) (by decide) (q_ble rfl) ?_
  refine et_if_ne (pc := 5) (tgt := 13) d_Mod_take_5 (by decide) (fun hj3 => ?_) (fun hj3 => ?_)
  · rw [if_neg hj3] at hp
    refine ev_sub (ls2 := []) [] rfl ?_
    exact e_Mod_take_13 t ok  hQ    x1.2.1 x1.2.2 hp
  · rw [if_pos hj3] at hp
    refine et_aload_n (pc := 8) d_Mod_take_8 rfl rfl ?_
    refine ev_iconst (pc := 9) d_Mod_take_9 ?_
    refine et_putz (pc := 10) ok (fl_Mod_147 t) (by decide) d_Mod_take_10 s_60 ?_
    replace hp := q_let_of hp
    obtain ⟨f4, hz, hp⟩ := hp
    rw [← hz]
    clear hz
    refine ev_sub (ls2 := []) [] rfl ?_
    exact e_Mod_take_13 t ok  hQ    f4 x1.2.2 hp
theorem d_Mod_letter_0 : decode (m_c m_Mod_letter) 0 = .ok (.aload_n 0, 1) := by decide +kernel
theorem d_Mod_letter_1 : decode (m_c m_Mod_letter) 1 = .ok (.invokevirtual 150, 3) := by decide +kernel
theorem d_Mod_letter_4 : decode (m_c m_Mod_letter) 4 = .ok (.iload_n 1, 1) := by decide +kernel
theorem d_Mod_letter_5 : decode (m_c m_Mod_letter) 5 = .ok (.isub, 1) := by decide +kernel
theorem d_Mod_letter_6 : decode (m_c m_Mod_letter) 6 = .ok (.istore_n 3, 1) := by decide +kernel
theorem d_Mod_letter_7 : decode (m_c m_Mod_letter) 7 = .ok (.aload_n 0, 1) := by decide +kernel
theorem d_Mod_letter_8 : decode (m_c m_Mod_letter) 8 = .ok (.aload_n 0, 1) := by decide +kernel
theorem d_Mod_letter_9 : decode (m_c m_Mod_letter) 9 = .ok (.getfield 147, 3) := by decide +kernel
theorem d_Mod_letter_12 : decode (m_c m_Mod_letter) 12 = .ok (.ifCond .ne 14, 3) := by decide +kernel
theorem d_Mod_letter_15 : decode (m_c m_Mod_letter) 15 = .ok (.iload_n 3, 1) := by decide +kernel
theorem d_Mod_letter_16 : decode (m_c m_Mod_letter) 16 = .ok (.iconst 0, 1) := by decide +kernel
theorem d_Mod_letter_17 : decode (m_c m_Mod_letter) 17 = .ok (.iload_n 2, 1) := by decide +kernel
theorem d_Mod_letter_18 : decode (m_c m_Mod_letter) 18 = .ok (.iconst 1, 1) := by decide +kernel
theorem d_Mod_letter_19 : decode (m_c m_Mod_letter) 19 = .ok (.isub, 1) := by decide +kernel
theorem d_Mod_letter_20 : decode (m_c m_Mod_letter) 20 = .ok (.invokestatic 127, 3) := by decide +kernel
theorem d_Mod_letter_23 : decode (m_c m_Mod_letter) 23 = .ok (.ifCond .ne 7, 3) := by decide +kernel
theorem d_Mod_letter_26 : decode (m_c m_Mod_letter) 26 = .ok (.iconst 1, 1) := by decide +kernel
theorem d_Mod_letter_27 : decode (m_c m_Mod_letter) 27 = .ok (.goto 4, 3) := by decide +kernel
theorem d_Mod_letter_30 : decode (m_c m_Mod_letter) 30 = .ok (.iconst 0, 1) := by decide +kernel
theorem d_Mod_letter_31 : decode (m_c m_Mod_letter) 31 = .ok (.putfield 147, 3) := by decide +kernel
theorem d_Mod_letter_34 : decode (m_c m_Mod_letter) 34 = .ok (.aload_n 0, 1) := by decide +kernel
theorem d_Mod_letter_35 : decode (m_c m_Mod_letter) 35 = .ok (.getfield 147, 3) := by decide +kernel
theorem d_Mod_letter_38 : decode (m_c m_Mod_letter) 38 = .ok (.ifCond .eq 5, 3) := by decide +kernel
theorem d_Mod_letter_41 : decode (m_c m_Mod_letter) 41 = .ok (.iconst 0, 1) := by decide +kernel
theorem d_Mod_letter_42 : decode (m_c m_Mod_letter) 42 = .ok (.ireturn, 1) := by decide +kernel
theorem d_Mod_letter_43 : decode (m_c m_Mod_letter) 43 = .ok (.aload_n 0, 1) := by decide +kernel
theorem d_Mod_letter_44 : decode (m_c m_Mod_letter) 44 = .ok (.dup, 1) := by decide +kernel
theorem d_Mod_letter_45 : decode (m_c m_Mod_letter) 45 = .ok (.getfield 144, 3) := by decide +kernel
theorem d_Mod_letter_48 : decode (m_c m_Mod_letter) 48 = .ok (.iconst 1, 1) := by decide +kernel
theorem d_Mod_letter_49 : decode (m_c m_Mod_letter) 49 = .ok (.iadd, 1) := by decide +kernel
theorem d_Mod_letter_50 : decode (m_c m_Mod_letter) 50 = .ok (.putfield 144, 3) := by decide +kernel
theorem d_Mod_letter_53 : decode (m_c m_Mod_letter) 53 = .ok (.iload_n 3, 1) := by decide +kernel
theorem d_Mod_letter_54 : decode (m_c m_Mod_letter) 54 = .ok (.ireturn, 1) := by decide +kernel
def p_Mod_letter_31   (v3 : Int) (s0 : Int) (f g : q_F) : Option (Int × q_F × q_F) :=
  if s0 = 0 ∨ s0 = 1 then
    q_let (ma_up f 60 9 s0) fun f2 =>
    if q_sw (f2 60 9) = 0 then
      q_let (ma_up f2 60 8 ((f2 60 8) + 1)) fun f4 =>
      some (v3, f4, g)
    else
      some (0, f2, g)
  else none
def p_Mod_letter_26   (v3 : Int) (f g : q_F) : Option (Int × q_F × q_F) :=
  p_Mod_letter_31   (v3) (1) f g
def p_Mod_letter  (v1 : Int) (v2 : Int) (f g : q_F) : Option (Int × q_F × q_F) :=
  (p_Mod_see  f g).bind fun x1 =>
  q_let (x1.1 - v1) fun z3 =>
  if q_sw (x1.2.1 60 9) = 0 then
    (p_Mod_within (z3) (0) (v2 - 1) x1.2.1 x1.2.2).bind fun x5 =>
    if q_sw x5.1 = 0 then
      p_Mod_letter_26   (z3) x5.2.1 x5.2.2
    else
      p_Mod_letter_31   (z3) (0) x5.2.1 x5.2.2
  else
    p_Mod_letter_26   (z3) x1.2.1 x1.2.2
theorem e_Mod_letter_31 (t : q_V) (ok : ma_ok (q_G t))  {Q : Option Value → ma_H → Prop} {y : Int × q_F × q_F} (hQ : Q (some (ma_i y.1)) (q_h y.2.1 y.2.2))   (v3 : Int) (s0 : Int) (f g : q_F) (hp : p_Mod_letter_31   v3 s0 f g = some y) : ma_Ev (q_G t) 1 22 0 0 m_Mod_letter 31 [(0, q_a t (60)), (3, ma_i (v3))] [ma_i (s0), q_a t (60)] (q_h f g) (ma_zr (q_G t) false Q) := by
  unfold p_Mod_letter_31 at hp
  replace hp := q_if hp
  obtain ⟨hb1, hp⟩ := hp
  refine et_putz (pc := 31) ok (fl_Mod_147 t) hb1 d_Mod_letter_31 s_60 ?_
  replace hp := q_let_of hp
  obtain ⟨f2, hz, hp⟩ := hp
  rw [← hz]
  clear hz
  refine et_aload_n (pc := 34) d_Mod_letter_34 rfl rfl ?_
  refine et_geti (pc := 35) ok (fl_Mod_147 t) rfl d_Mod_letter_35 s_60 ?_
  refine et_if_eq (pc := 38) (tgt := 43) d_Mod_letter_38 (by decide) (fun hj3 => ?_) (fun hj3 => ?_)
  · rw [if_pos hj3] at hp
    refine et_aload_n (pc := 43) d_Mod_letter_43 rfl rfl ?_
    refine ev_dup (pc := 44) d_Mod_letter_44 rfl ?_
    refine et_geti (pc := 45) ok (fl_Mod_144 t) rfl d_Mod_letter_45 s_60 ?_
    refine ev_iconst (pc := 48) d_Mod_letter_48 ?_
    refine ev_iadd (pc := 49) d_Mod_letter_49 ?_
    refine et_puti (pc := 50) ok (fl_Mod_144 t) d_Mod_letter_50 s_60 ?_
    replace hp := q_let_of hp
    obtain ⟨f4, hz, hp⟩ := hp
    rw [← hz]
    clear hz
    refine ev_iload_n (pc := 53) d_Mod_letter_53 rfl rfl ?_
    cases Option.some.inj hp
    exact et_iret (pc := 54) d_Mod_letter_54 rfl hQ
  · rw [if_neg hj3] at hp
    refine ev_iconst (pc := 41) d_Mod_letter_41 ?_
    cases Option.some.inj hp
    exact et_iret (pc := 42) d_Mod_letter_42 rfl hQ
theorem e_Mod_letter_26 (t : q_V) (ok : ma_ok (q_G t))  {Q : Option Value → ma_H → Prop} {y : Int × q_F × q_F} (hQ : Q (some (ma_i y.1)) (q_h y.2.1 y.2.2))   (v3 : Int) (f g : q_F) (hp : p_Mod_letter_26   v3 f g = some y) : ma_Ev (q_G t) 1 22 0 0 m_Mod_letter 26 [(0, q_a t (60)), (3, ma_i (v3))] [q_a t (60)] (q_h f g) (ma_zr (q_G t) false Q) := by
  unfold p_Mod_letter_26 at hp
  refine ev_iconst (pc := 26) d_Mod_letter_26 ?_
  refine ev_goto (pc := 27) (tgt := 31) d_Mod_letter_27 (by decide) ?_
  refine ev_sub (ls2 := [(0, q_a t (60)), (3, ma_i (v3))]) [0, 1] rfl ?_
  exact e_Mod_letter_31 t ok  hQ   (v3) (1) f g hp
theorem t_Mod_letter (t : q_V) (ok : ma_ok (q_G t))  {Q : Option Value → ma_H → Prop} {y : Int × q_F × q_F} (v1 : Int) (v2 : Int) (f g : q_F) (hp : p_Mod_letter  v1 v2 f g = some y) (hQ : Q (some (ma_i y.1)) (q_h y.2.1 y.2.2)) : ma_Met (q_G t) false 1 22 0 0 m_Mod_letter [q_a t (60), ma_i (v1), ma_i (v2)] (q_h f g) Q := by
  refine ma_met (by decide +kernel) (q_ble rfl) rfl ?_
  change ma_Ev (q_G t) 1 22 0 0 m_Mod_letter 0 [(0, q_a t (60)), (1, ma_i (v1)), (2, ma_i (v2))] [] (q_h f g) (ma_zr (q_G t) false Q)
  unfold p_Mod_letter at hp
  refine et_aload_n (pc := 0) d_Mod_letter_0 rfl rfl ?_
  replace hp := q_bind hp
  obtain ⟨x1, hm2, hp⟩ := hp
  refine et_callVi (pc := 1) (f1 := x1.2.1) (g1 := x1.2.2) ok [] [] (cf_Mod_150 t) d_Mod_letter_1 s_60 k_12 rfl (t_Mod_see t ok  f g hm2 ⟨rfl, rfl⟩) rfl rfl (by decide) (by decide) (q_ble rfl) ?_
  refine ev_iload_n (pc := 4) d_Mod_letter_4 rfl rfl ?_
  refine ev_isub (pc := 5) d_Mod_letter_5 ?_
  refine ev_istore_n (pc := 6) d_Mod_letter_6 rfl (by decide) [(3, _), (0, _), (1, _), (2, _)] rfl ?_
  replace hp := q_let_of hp
  obtain ⟨z3, hz, hp⟩ := hp
  rw [← hz]
  clear hz
  refine et_aload_n (pc := 7) d_Mod_letter_7 rfl rfl ?_
  refine et_aload_n (pc := 8) d_Mod_letter_8 rfl rfl ?_
  refine et_geti (pc := 9) ok (fl_Mod_147 t) rfl d_Mod_letter_9 s_60 ?_
  refine et_if_ne (pc := 12) (tgt := 26) d_Mod_letter_12 (by decide) (fun hj4 => ?_) (fun hj4 => ?_)
  · rw [if_neg hj4] at hp
    refine ev_sub (ls2 := [(0, q_a t (60)), (3, ma_i (z3))]) [1, 0] rfl ?_
    exact e_Mod_letter_26 t ok  hQ   (z3) x1.2.1 x1.2.2 hp
  · rw [if_pos hj4] at hp
    refine ev_iload_n (pc := 15) d_Mod_letter_15 rfl rfl ?_
    refine ev_iconst (pc := 16) d_Mod_letter_16 ?_
    refine ev_iload_n (pc := 17) d_Mod_letter_17 rfl rfl ?_
    refine ev_iconst (pc := 18) d_Mod_letter_18 ?_
    refine ev_isub (pc := 19) d_Mod_letter_19 ?_
    replace hp := q_bind hp
    obtain ⟨x5, hm6, hp⟩ := hp
    refine et_callSi (pc := 20) (f1 := x5.2.1) (g1 := x5.2.2) ok [ma_i (z3), ma_i (0), ma_i (v2 - 1)] [q_a t (60)] (cf_Mod_127 t) d_Mod_letter_20 (t_Mod_within t ok (z3) (0) (v2 - 1) x1.2.1 x1.2.2 hm6 ⟨rfl, rfl⟩) rfl rfl (by decide) (by decide) (q_ble rfl) ?_
    refine et_if_ne (pc := 23) (tgt := 30) d_Mod_letter_23 (by decide) (fun hj7 => ?_) (fun hj7 => ?_)
    · rw [if_neg hj7] at hp
      refine ev_iconst (pc := 30) d_Mod_letter_30 ?_
      refine ev_sub (ls2 := [(0, q_a t (60)), (3, ma_i (z3))]) [1, 0] rfl ?_
      exact e_Mod_letter_31 t ok  hQ   (z3) (0) x5.2.1 x5.2.2 hp
    · rw [if_pos hj7] at hp
      refine ev_sub (ls2 := [(0, q_a t (60)), (3, ma_i (z3))]) [1, 0] rfl ?_
      exact e_Mod_letter_26 t ok  hQ   (z3) x5.2.1 x5.2.2 hp
theorem d_Mod_fresh_0 : decode (m_c m_Mod_fresh) 0 = .ok (.aload_n 0, 1) := by decide +kernel
theorem d_Mod_fresh_1 : decode (m_c m_Mod_fresh) 1 = .ok (.getfield 147, 3) := by decide +kernel
theorem d_Mod_fresh_4 : decode (m_c m_Mod_fresh) 4 = .ok (.ifCond .ne 7, 3) := by decide +kernel
theorem d_Mod_fresh_7 : decode (m_c m_Mod_fresh) 7 = .ok (.iload_n 1, 1) := by decide +kernel
theorem d_Mod_fresh_8 : decode (m_c m_Mod_fresh) 8 = .ok (.ifCond .eq 4, 3) := by decide +kernel
theorem d_Mod_fresh_11 : decode (m_c m_Mod_fresh) 11 = .ok (.return_, 1) := by decide +kernel
theorem d_Mod_fresh_12 : decode (m_c m_Mod_fresh) 12 = .ok (.aload_n 0, 1) := by decide +kernel
theorem d_Mod_fresh_13 : decode (m_c m_Mod_fresh) 13 = .ok (.dup, 1) := by decide +kernel
theorem d_Mod_fresh_14 : decode (m_c m_Mod_fresh) 14 = .ok (.getfield 144, 3) := by decide +kernel
theorem d_Mod_fresh_17 : decode (m_c m_Mod_fresh) 17 = .ok (.iconst 1, 1) := by decide +kernel
theorem d_Mod_fresh_18 : decode (m_c m_Mod_fresh) 18 = .ok (.isub, 1) := by decide +kernel
theorem d_Mod_fresh_19 : decode (m_c m_Mod_fresh) 19 = .ok (.putfield 144, 3) := by decide +kernel
theorem d_Mod_fresh_22 : decode (m_c m_Mod_fresh) 22 = .ok (.aload_n 0, 1) := by decide +kernel
theorem d_Mod_fresh_23 : decode (m_c m_Mod_fresh) 23 = .ok (.iconst 1, 1) := by decide +kernel
theorem d_Mod_fresh_24 : decode (m_c m_Mod_fresh) 24 = .ok (.putfield 147, 3) := by decide +kernel
theorem d_Mod_fresh_27 : decode (m_c m_Mod_fresh) 27 = .ok (.return_, 1) := by decide +kernel
def p_Mod_fresh_11    (f g : q_F) : Option (q_F × q_F) :=
  some (f, g)
def p_Mod_fresh  (v1 : Int) (f g : q_F) : Option (q_F × q_F) :=
  if q_sw (f 60 9) = 0 then
    if q_sw v1 = 0 then
      q_let (ma_up f 60 8 ((f 60 8) - 1)) fun f3 =>
      q_let (ma_up f3 60 9 1) fun f4 =>
      some (f4, g)
    else
      p_Mod_fresh_11    f g
  else
    p_Mod_fresh_11    f g
theorem e_Mod_fresh_11 (t : q_V) (ok : ma_ok (q_G t))  {Q : Option Value → ma_H → Prop} {y : q_F × q_F} (hQ : Q (none) (q_h y.1 y.2))    (f g : q_F) (hp : p_Mod_fresh_11    f g = some y) : ma_Ev (q_G t) 0 0 0 0 m_Mod_fresh 11 [] [] (q_h f g) (ma_zr (q_G t) false Q) := by
  unfold p_Mod_fresh_11 at hp
  cases Option.some.inj hp
  exact et_ret (pc := 11) d_Mod_fresh_11 rfl hQ
theorem t_Mod_fresh (t : q_V) (ok : ma_ok (q_G t))  {Q : Option Value → ma_H → Prop} {y : q_F × q_F} (v1 : Int) (f g : q_F) (hp : p_Mod_fresh  v1 f g = some y) (hQ : Q (none) (q_h y.1 y.2)) : ma_Met (q_G t) false 0 0 0 0 m_Mod_fresh [q_a t (60), ma_i (v1)] (q_h f g) Q := by
  refine ma_met (by decide +kernel) (q_ble rfl) rfl ?_
  change ma_Ev (q_G t) 0 0 0 0 m_Mod_fresh 0 [(0, q_a t (60)), (1, ma_i (v1))] [] (q_h f g) (ma_zr (q_G t) false Q)
  unfold p_Mod_fresh at hp
  refine et_aload_n (pc := 0) d_Mod_fresh_0 rfl rfl ?_
  refine et_geti (pc := 1) ok (fl_Mod_147 t) rfl d_Mod_fresh_1 s_60 ?_
  refine et_if_ne (pc := 4) (tgt := 11) d_Mod_fresh_4 (by decide) (fun hj1 => ?_) (fun hj1 => ?_)
  · rw [if_neg hj1] at hp
    refine ev_sub (ls2 := []) [] rfl ?_
    exact e_Mod_fresh_11 t ok  hQ    f g hp
  · rw [if_pos hj1] at hp
    refine ev_iload_n (pc := 7) d_Mod_fresh_7 rfl rfl ?_
    refine et_if_eq (pc := 8) (tgt := 12) d_Mod_fresh_8 (by decide) (fun hj2 => ?_) (fun hj2 => ?_)
    · rw [if_pos hj2] at hp
      refine et_aload_n (pc := 12) d_Mod_fresh_12 rfl rfl ?_
      refine ev_dup (pc := 13) d_Mod_fresh_13 rfl ?_
      refine et_geti (pc := 14) ok (fl_Mod_144 t) rfl d_Mod_fresh_14 s_60 ?_
      refine ev_iconst (pc := 17) d_Mod_fresh_17 ?_
      refine ev_isub (pc := 18) d_Mod_fresh_18 ?_
      refine et_puti (pc := 19) ok (fl_Mod_144 t) d_Mod_fresh_19 s_60 ?_
      replace hp := q_let_of hp
      obtain ⟨f3, hz, hp⟩ := hp
      rw [← hz]
      clear hz
      refine et_aload_n (pc := 22) d_Mod_fresh_22 rfl rfl ?_
      refine ev_iconst (pc := 23) d_Mod_fresh_23 ?_
      refine et_putz (pc := 24) ok (fl_Mod_147 t) (by decide) d_Mod_fresh_24 s_60 ?_
      replace hp := q_let_of hp
      obtain ⟨f4, hz, hp⟩ := hp
      rw [← hz]
      clear hz
      cases Option.some.inj hp
      exact et_ret (pc := 27) d_Mod_fresh_27 rfl hQ
    · rw [if_neg hj2] at hp
      refine ev_sub (ls2 := []) [] rfl ?_
      exact e_Mod_fresh_11 t ok  hQ    f g hp
theorem d_Mod_number_0 : decode (m_c m_Mod_number) 0 = .ok (.iconst 0, 1) := by decide +kernel
theorem d_Mod_number_1 : decode (m_c m_Mod_number) 1 = .ok (.istore_n 1, 1) := by decide +kernel
theorem d_Mod_number_2 : decode (m_c m_Mod_number) 2 = .ok (.iconst 0, 1) := by decide +kernel
theorem d_Mod_number_3 : decode (m_c m_Mod_number) 3 = .ok (.istore_n 2, 1) := by decide +kernel
theorem d_Mod_number_4 : decode (m_c m_Mod_number) 4 = .ok (.aload_n 0, 1) := by decide +kernel
theorem d_Mod_number_5 : decode (m_c m_Mod_number) 5 = .ok (.getfield 147, 3) := by decide +kernel
theorem d_Mod_number_8 : decode (m_c m_Mod_number) 8 = .ok (.ifCond .ne 51, 3) := by decide +kernel
theorem d_Mod_number_11 : decode (m_c m_Mod_number) 11 = .ok (.iload_n 2, 1) := by decide +kernel
theorem d_Mod_number_12 : decode (m_c m_Mod_number) 12 = .ok (.iconst 4, 1) := by decide +kernel
theorem d_Mod_number_13 : decode (m_c m_Mod_number) 13 = .ok (.if_icmp .ge 46, 3) := by decide +kernel
theorem d_Mod_number_16 : decode (m_c m_Mod_number) 16 = .ok (.aload_n 0, 1) := by decide +kernel
theorem d_Mod_number_17 : decode (m_c m_Mod_number) 17 = .ok (.invokevirtual 150, 3) := by decide +kernel
theorem d_Mod_number_20 : decode (m_c m_Mod_number) 20 = .ok (.bipush 48, 2) := by decide +kernel
theorem d_Mod_number_22 : decode (m_c m_Mod_number) 22 = .ok (.bipush 57, 2) := by decide +kernel
theorem d_Mod_number_24 : decode (m_c m_Mod_number) 24 = .ok (.invokestatic 127, 3) := by decide +kernel
theorem d_Mod_number_27 : decode (m_c m_Mod_number) 27 = .ok (.ifCond .eq 32, 3) := by decide +kernel
theorem d_Mod_number_30 : decode (m_c m_Mod_number) 30 = .ok (.bipush 10, 2) := by decide +kernel
theorem d_Mod_number_32 : decode (m_c m_Mod_number) 32 = .ok (.iload_n 1, 1) := by decide +kernel
theorem d_Mod_number_33 : decode (m_c m_Mod_number) 33 = .ok (.imul, 1) := by decide +kernel
theorem d_Mod_number_34 : decode (m_c m_Mod_number) 34 = .ok (.aload_n 0, 1) := by decide +kernel
theorem d_Mod_number_35 : decode (m_c m_Mod_number) 35 = .ok (.invokevirtual 150, 3) := by decide +kernel
theorem d_Mod_number_38 : decode (m_c m_Mod_number) 38 = .ok (.iadd, 1) := by decide +kernel
theorem d_Mod_number_39 : decode (m_c m_Mod_number) 39 = .ok (.bipush 48, 2) := by decide +kernel
theorem d_Mod_number_41 : decode (m_c m_Mod_number) 41 = .ok (.isub, 1) := by decide +kernel
theorem d_Mod_number_42 : decode (m_c m_Mod_number) 42 = .ok (.istore_n 1, 1) := by decide +kernel
theorem d_Mod_number_43 : decode (m_c m_Mod_number) 43 = .ok (.aload_n 0, 1) := by decide +kernel
theorem d_Mod_number_44 : decode (m_c m_Mod_number) 44 = .ok (.dup, 1) := by decide +kernel
theorem d_Mod_number_45 : decode (m_c m_Mod_number) 45 = .ok (.getfield 144, 3) := by decide +kernel
theorem d_Mod_number_48 : decode (m_c m_Mod_number) 48 = .ok (.iconst 1, 1) := by decide +kernel
theorem d_Mod_number_49 : decode (m_c m_Mod_number) 49 = .ok (.iadd, 1) := by decide +kernel
theorem d_Mod_number_50 : decode (m_c m_Mod_number) 50 = .ok (.putfield 144, 3) := by decide +kernel
theorem d_Mod_number_53 : decode (m_c m_Mod_number) 53 = .ok (.iinc 2 1, 3) := by decide +kernel
theorem d_Mod_number_56 : decode (m_c m_Mod_number) 56 = .ok (.goto (-52), 3) := by decide +kernel
theorem d_Mod_number_59 : decode (m_c m_Mod_number) 59 = .ok (.aload_n 0, 1) := by decide +kernel
theorem d_Mod_number_60 : decode (m_c m_Mod_number) 60 = .ok (.aload_n 0, 1) := by decide +kernel
theorem d_Mod_number_61 : decode (m_c m_Mod_number) 61 = .ok (.getfield 147, 3) := by decide +kernel
theorem d_Mod_number_64 : decode (m_c m_Mod_number) 64 = .ok (.ifCond .ne 7, 3) := by decide +kernel
theorem d_Mod_number_67 : decode (m_c m_Mod_number) 67 = .ok (.iload_n 2, 1) := by decide +kernel
theorem d_Mod_number_68 : decode (m_c m_Mod_number) 68 = .ok (.ifCond .ne 7, 3) := by decide +kernel
theorem d_Mod_number_71 : decode (m_c m_Mod_number) 71 = .ok (.iconst 1, 1) := by decide +kernel
theorem d_Mod_number_72 : decode (m_c m_Mod_number) 72 = .ok (.goto 4, 3) := by decide +kernel
theorem d_Mod_number_75 : decode (m_c m_Mod_number) 75 = .ok (.iconst 0, 1) := by decide +kernel
theorem d_Mod_number_76 : decode (m_c m_Mod_number) 76 = .ok (.putfield 147, 3) := by decide +kernel
theorem d_Mod_number_79 : decode (m_c m_Mod_number) 79 = .ok (.iload_n 1, 1) := by decide +kernel
theorem d_Mod_number_80 : decode (m_c m_Mod_number) 80 = .ok (.ireturn, 1) := by decide +kernel
def p_Mod_number_76   (v1 : Int) (s0 : Int) (f g : q_F) : Option (Int × q_F × q_F) :=
  if s0 = 0 ∨ s0 = 1 then
    q_let (ma_up f 60 9 s0) fun f2 =>
    some (v1, f2, g)
  else none
def p_Mod_number_71   (v1 : Int) (f g : q_F) : Option (Int × q_F × q_F) :=
  p_Mod_number_76   (v1) (1) f g
def p_Mod_number_59   (v1 : Int) (v2 : Int) (f g : q_F) : Option (Int × q_F × q_F) :=
  if q_sw (f 60 9) = 0 then
    if q_sw v2 = 0 then
      p_Mod_number_71   (v1) f g
    else
      p_Mod_number_76   (v1) (0) f g
  else
    p_Mod_number_71   (v1) f g
def p_Mod_number_4   : Nat → Int → Int → q_F → q_F → Option (Int × q_F × q_F)
  | 0, _, _, _, _ => none
  | n + 1, v1, v2, f, g =>
    if q_sw (f 60 9) = 0 then
      if q_sw 4 ≤ q_sw v2 then
        p_Mod_number_59   (v1) (v2) f g
      else
        (p_Mod_see  f g).bind fun x3 =>
        (p_Mod_within (x3.1) (48) (57) x3.2.1 x3.2.2).bind fun x5 =>
        if q_sw x5.1 = 0 then
          p_Mod_number_59   (v1) (v2) x5.2.1 x5.2.2
        else
          (p_Mod_see  x5.2.1 x5.2.2).bind fun x8 =>
          q_let (((10 * v1) + x8.1) - 48) fun z10 =>
          q_let (ma_up x8.2.1 60 8 ((x8.2.1 60 8) + 1)) fun f11 =>
          q_let (v2 + 1) fun z12 =>
          (p_Mod_number_4   n) (z10) (z12) f11 x8.2.2
    else
      p_Mod_number_59   (v1) (v2) f g
def p_Mod_number   (f g : q_F) : Option (Int × q_F × q_F) :=
  p_Mod_number_4   1000 (0) (0) f g
theorem e_Mod_number_76 (t : q_V) (ok : ma_ok (q_G t))  {Q : Option Value → ma_H → Prop} {y : Int × q_F × q_F} (hQ : Q (some (ma_i y.1)) (q_h y.2.1 y.2.2))   (v1 : Int) (s0 : Int) (f g : q_F) (hp : p_Mod_number_76   v1 s0 f g = some y) : ma_Ev (q_G t) 1 22 0 0 m_Mod_number 76 [(1, ma_i (v1))] [ma_i (s0), q_a t (60)] (q_h f g) (ma_zr (q_G t) false Q) := by
  unfold p_Mod_number_76 at hp
  replace hp := q_if hp
  obtain ⟨hb1, hp⟩ := hp
  refine et_putz (pc := 76) ok (fl_Mod_147 t) hb1 d_Mod_number_76 s_60 ?_
  replace hp := q_let_of hp
  obtain ⟨f2, hz, hp⟩ := hp
  rw [← hz]
  clear hz
  refine ev_iload_n (pc := 79) d_Mod_number_79 rfl rfl ?_
  cases Option.some.inj hp
  exact et_iret (pc := 80) d_Mod_number_80 rfl hQ
theorem e_Mod_number_71 (t : q_V) (ok : ma_ok (q_G t))  {Q : Option Value → ma_H → Prop} {y : Int × q_F × q_F} (hQ : Q (some (ma_i y.1)) (q_h y.2.1 y.2.2))   (v1 : Int) (f g : q_F) (hp : p_Mod_number_71   v1 f g = some y) : ma_Ev (q_G t) 1 22 0 0 m_Mod_number 71 [(1, ma_i (v1))] [q_a t (60)] (q_h f g) (ma_zr (q_G t) false Q) := by
  unfold p_Mod_number_71 at hp
  refine ev_iconst (pc := 71) d_Mod_number_71 ?_
  refine ev_goto (pc := 72) (tgt := 76) d_Mod_number_72 (by decide) ?_
  refine ev_sub (ls2 := [(1, ma_i (v1))]) [0] rfl ?_
  exact e_Mod_number_76 t ok  hQ   (v1) (1) f g hp
theorem e_Mod_number_59 (t : q_V) (ok : ma_ok (q_G t))  {Q : Option Value → ma_H → Prop} {y : Int × q_F × q_F} (hQ : Q (some (ma_i y.1)) (q_h y.2.1 y.2.2))   (v1 : Int) (v2 : Int) (f g : q_F) (hp : p_Mod_number_59   v1 v2 f g = some y) : ma_Ev (q_G t) 1 22 0 0 m_Mod_number 59 [(0, q_a t (60)), (1, ma_i (v1)), (2, ma_i (v2))] [] (q_h f g) (ma_zr (q_G t) false Q) := by
  unfold p_Mod_number_59 at hp
  refine et_aload_n (pc := 59) d_Mod_number_59 rfl rfl ?_
  refine et_aload_n (pc := 60) d_Mod_number_60 rfl rfl ?_
  refine et_geti (pc := 61) ok (fl_Mod_147 t) rfl d_Mod_number_61 s_60 ?_
  refine et_if_ne (pc := 64) (tgt := 71) d_Mod_number_64 (by decide) (fun hj1 => ?_) (fun hj1 => ?_)
  · rw [if_neg hj1] at hp
    refine ev_sub (ls2 := [(1, ma_i (v1))]) [1] rfl ?_
    exact e_Mod_number_71 t ok  hQ   (v1) f g hp
  · rw [if_pos hj1] at hp
    refine ev_iload_n (pc := 67) d_Mod_number_67 rfl rfl ?_
    refine et_if_ne (pc := 68) (tgt := 75) d_Mod_number_68 (by decide) (fun hj2 => ?_) (fun hj2 => ?_)
    · rw [if_neg hj2] at hp
      refine ev_iconst (pc := 75) d_Mod_number_75 ?_
      refine ev_sub (ls2 := [(1, ma_i (v1))]) [1] rfl ?_
      exact e_Mod_number_76 t ok  hQ   (v1) (0) f g hp
    · rw [if_pos hj2] at hp
      refine ev_sub (ls2 := [(1, ma_i (v1))]) [1] rfl ?_
      exact e_Mod_number_71 t ok  hQ   (v1) f g hp
theorem e_Mod_number_4 (t : q_V) (ok : ma_ok (q_G t))  {Q : Option Value → ma_H → Prop} {y : Int × q_F × q_F} (hQ : Q (some (ma_i y.1)) (q_h y.2.1 y.2.2))   : ∀ (n : Nat) (v1 : Int) (v2 : Int) (f g : q_F), p_Mod_number_4   n v1 v2 f g = some y → ma_Ev (q_G t) 1 22 0 0 m_Mod_number 4 [(0, q_a t (60)), (1, ma_i (v1)), (2, ma_i (v2))] [] (q_h f g) (ma_zr (q_G t) false Q) := by
  intro n
  induction n with
  | zero =>
    intro v1 v2 f g hp
    rw [p_Mod_number_4] at hp
    cases hp
  | succ n ih =>
    intro v1 v2 f g hp
    rw [p_Mod_number_4] at hp
    refine et_aload_n (pc := 4) d_Mod_number_4 rfl rfl ?_
    refine et_geti (pc := 5) ok (fl_Mod_147 t) rfl d_Mod_number_5 s_60 ?_
    refine et_if_ne (pc := 8) (tgt := 59) d_Mod_number_8 (by decide) (fun hj1 => ?_) (fun hj1 => ?_)
    · rw [if_neg hj1] at hp
      refine ev_sub (ls2 := [(0, q_a t (60)), (1, ma_i (v1)), (2, ma_i (v2))]) [0, 1, 2] rfl ?_
      exact e_Mod_number_59 t ok  hQ   (v1) (v2) f g hp
    · rw [if_pos hj1] at hp
      refine ev_iload_n (pc := 11) d_Mod_number_11 rfl rfl ?_
      refine ev_iconst (pc := 12) d_Mod_number_12 ?_
      refine et_icmp_ge (pc := 13) (tgt := 59) d_Mod_number_13 (by decide) (fun hj2 => ?_) (fun hj2 => ?_)
      · rw [if_pos hj2] at hp
        refine ev_sub (ls2 := [(0, q_a t (60)), (1, ma_i (v1)), (2, ma_i (v2))]) [0, 1, 2] rfl ?_
        exact e_Mod_number_59 t ok  hQ   (v1) (v2) f g hp
      · rw [if_neg hj2] at hp
        refine et_aload_n (pc := 16) d_Mod_number_16 rfl rfl ?_
        replace hp := q_bind hp
        obtain ⟨x3, hm4, hp⟩ := hp
        refine et_callVi (pc := 17) (f1 := x3.2.1) (g1 := x3.2.2) ok [] [] (cf_Mod_150 t) d_Mod_number_17 s_60 k_12 rfl (t_Mod_see t ok  f g hm4 ⟨rfl, rfl⟩) rfl rfl (by decide) (by decide) (q_ble rfl) ?_
        refine ev_bipush (pc := 20) d_Mod_number_20 rfl ?_
        refine ev_bipush (pc := 22) d_Mod_number_22 rfl ?_
        replace hp := q_bind hp
        obtain ⟨x5, hm6, hp⟩ := hp
        refine et_callSi (pc := 24) (f1 := x5.2.1) (g1 := x5.2.2) ok [ma_i (x3.1), ma_i (48), ma_i (57)] [] (cf_Mod_127 t) d_Mod_number_24 (t_Mod_within t ok (x3.1) (48) (57) x3.2.1 x3.2.2 hm6 ⟨rfl, rfl⟩) rfl rfl (by decide) (by decide) (q_ble rfl) ?_
        refine et_if_eq (pc := 27) (tgt := 59) d_Mod_number_27 (by decide) (fun hj7 => ?_) (fun hj7 => ?_)
        · rw [if_pos hj7] at hp
          refine ev_sub (ls2 := [(0, q_a t (60)), (1, ma_i (v1)), (2, ma_i (v2))]) [0, 1, 2] rfl ?_
          exact e_Mod_number_59 t ok  hQ   (v1) (v2) x5.2.1 x5.2.2 hp
        · rw [if_neg hj7] at hp
          refine ev_bipush (pc := 30) d_Mod_number_30 rfl ?_
          refine ev_iload_n (pc := 32) d_Mod_number_32 rfl rfl ?_
          refine ev_imul (pc := 33) d_Mod_number_33 ?_
          refine et_aload_n (pc := 34) d_Mod_number_34 rfl rfl ?_
          replace hp := q_bind hp
          obtain ⟨x8, hm9, hp⟩ := hp
          refine et_callVi (pc := 35) (f1 := x8.2.1) (g1 := x8.2.2) ok [] [ma_i (10 * v1)] (cf_Mod_150 t) d_Mod_number_35 s_60 k_12 rfl (t_Mod_see t ok  x5.2.1 x5.2.2 hm9 ⟨rfl, rfl⟩) rfl rfl (by decide) (by decide) (q_ble rfl) ?_
          refine ev_iadd (pc := 38) d_Mod_number_38 ?_
          refine ev_bipush (pc := 39) d_Mod_number_39 rfl ?_
          refine ev_isub (pc := 41) d_Mod_number_41 ?_
          refine ev_istore_n (pc := 42) d_Mod_number_42 rfl (by decide) [(1, _), (0, _), (2, _)] rfl ?_
          replace hp := q_let_of hp
          obtain ⟨z10, hz, hp⟩ := hp
          rw [← hz]
          clear hz
          refine et_aload_n (pc := 43) d_Mod_number_43 rfl rfl ?_
          refine ev_dup (pc := 44) d_Mod_number_44 rfl ?_
          refine et_geti (pc := 45) ok (fl_Mod_144 t) rfl d_Mod_number_45 s_60 ?_
          refine ev_iconst (pc := 48) d_Mod_number_48 ?_
          refine ev_iadd (pc := 49) d_Mod_number_49 ?_
          refine et_puti (pc := 50) ok (fl_Mod_144 t) d_Mod_number_50 s_60 ?_
          replace hp := q_let_of hp
          obtain ⟨f11, hz, hp⟩ := hp
          rw [← hz]
          clear hz
          refine ev_iinc (pc := 53) d_Mod_number_53 (by decide) rfl [(2, _), (1, _), (0, _)] rfl ?_
          replace hp := q_let_of hp
          obtain ⟨z12, hz, hp⟩ := hp
          rw [← hz]
          clear hz
          refine ev_goto (pc := 56) (tgt := 4) d_Mod_number_56 (by decide) ?_
          refine ev_sub (ls2 := [(0, q_a t (60)), (1, ma_i (z10)), (2, ma_i (z12))]) [2, 1, 0] rfl ?_
          exact ih (z10) (z12) f11 x8.2.2 hp
theorem t_Mod_number (t : q_V) (ok : ma_ok (q_G t))  {Q : Option Value → ma_H → Prop} {y : Int × q_F × q_F}  (f g : q_F) (hp : p_Mod_number   f g = some y) (hQ : Q (some (ma_i y.1)) (q_h y.2.1 y.2.2)) : ma_Met (q_G t) false 1 22 0 0 m_Mod_number [q_a t (60)] (q_h f g) Q := by
  refine ma_met (by decide +kernel) (q_ble rfl) rfl ?_
  change ma_Ev (q_G t) 1 22 0 0 m_Mod_number 0 [(0, q_a t (60))] [] (q_h f g) (ma_zr (q_G t) false Q)
  unfold p_Mod_number at hp
  refine ev_iconst (pc := 0) d_Mod_number_0 ?_
  refine ev_istore_n (pc := 1) d_Mod_number_1 rfl (by decide) [(1, _), (0, _)] rfl ?_
  refine ev_iconst (pc := 2) d_Mod_number_2 ?_
  refine ev_istore_n (pc := 3) d_Mod_number_3 rfl (by decide) [(2, _), (1, _), (0, _)] rfl ?_
  refine ev_sub (ls2 := [(0, q_a t (60)), (1, ma_i (0)), (2, ma_i (0))]) [2, 1, 0] rfl ?_
  exact e_Mod_number_4 t ok  hQ   1000 (0) (0) f g hp
theorem d_Mod_alignment_0 : decode (m_c m_Mod_alignment) 0 = .ok (.aload_n 0, 1) := by decide +kernel
theorem d_Mod_alignment_1 : decode (m_c m_Mod_alignment) 1 = .ok (.invokevirtual 158, 3) := by decide +kernel
theorem d_Mod_alignment_4 : decode (m_c m_Mod_alignment) 4 = .ok (.istore_n 1, 1) := by decide +kernel
theorem d_Mod_alignment_5 : decode (m_c m_Mod_alignment) 5 = .ok (.aload_n 0, 1) := by decide +kernel
theorem d_Mod_alignment_6 : decode (m_c m_Mod_alignment) 6 = .ok (.aload_n 0, 1) := by decide +kernel
theorem d_Mod_alignment_7 : decode (m_c m_Mod_alignment) 7 = .ok (.getfield 147, 3) := by decide +kernel
theorem d_Mod_alignment_10 : decode (m_c m_Mod_alignment) 10 = .ok (.ifCond .ne 12, 3) := by decide +kernel
theorem d_Mod_alignment_13 : decode (m_c m_Mod_alignment) 13 = .ok (.iload_n 1, 1) := by decide +kernel
theorem d_Mod_alignment_14 : decode (m_c m_Mod_alignment) 14 = .ok (.bipush 64, 2) := by decide +kernel
theorem d_Mod_alignment_16 : decode (m_c m_Mod_alignment) 16 = .ok (.invokestatic 131, 3) := by decide +kernel
theorem d_Mod_alignment_19 : decode (m_c m_Mod_alignment) 19 = .ok (.ifCond .ne 7, 3) := by decide +kernel
theorem d_Mod_alignment_22 : decode (m_c m_Mod_alignment) 22 = .ok (.iconst 1, 1) := by decide +kernel
theorem d_Mod_alignment_23 : decode (m_c m_Mod_alignment) 23 = .ok (.goto 4, 3) := by decide +kernel
theorem d_Mod_alignment_26 : decode (m_c m_Mod_alignment) 26 = .ok (.iconst 0, 1) := by decide +kernel
theorem d_Mod_alignment_27 : decode (m_c m_Mod_alignment) 27 = .ok (.putfield 147, 3) := by decide +kernel
theorem d_Mod_alignment_30 : decode (m_c m_Mod_alignment) 30 = .ok (.iload_n 1, 1) := by decide +kernel
theorem d_Mod_alignment_31 : decode (m_c m_Mod_alignment) 31 = .ok (.ireturn, 1) := by decide +kernel
def p_Mod_alignment_27   (v1 : Int) (s0 : Int) (f g : q_F) : Option (Int × q_F × q_F) :=
  if s0 = 0 ∨ s0 = 1 then
    q_let (ma_up f 60 9 s0) fun f2 =>
    some (v1, f2, g)
  else none
def p_Mod_alignment_22   (v1 : Int) (f g : q_F) : Option (Int × q_F × q_F) :=
  p_Mod_alignment_27   (v1) (1) f g
def p_Mod_alignment   (f g : q_F) : Option (Int × q_F × q_F) :=
  (p_Mod_number  f g).bind fun x1 =>
  if q_sw (x1.2.1 60 9) = 0 then
    (p_Mod_power (x1.1) (64) x1.2.1 x1.2.2).bind fun x4 =>
    if q_sw x4.1 = 0 then
      p_Mod_alignment_22   (x1.1) x4.2.1 x4.2.2
    else
      p_Mod_alignment_27   (x1.1) (0) x4.2.1 x4.2.2
  else
    p_Mod_alignment_22   (x1.1) x1.2.1 x1.2.2
theorem e_Mod_alignment_27 (t : q_V) (ok : ma_ok (q_G t))  {Q : Option Value → ma_H → Prop} {y : Int × q_F × q_F} (hQ : Q (some (ma_i y.1)) (q_h y.2.1 y.2.2))   (v1 : Int) (s0 : Int) (f g : q_F) (hp : p_Mod_alignment_27   v1 s0 f g = some y) : ma_Ev (q_G t) 2 44 0 0 m_Mod_alignment 27 [(1, ma_i (v1))] [ma_i (s0), q_a t (60)] (q_h f g) (ma_zr (q_G t) false Q) := by
  unfold p_Mod_alignment_27 at hp
  replace hp := q_if hp
  obtain ⟨hb1, hp⟩ := hp
  refine et_putz (pc := 27) ok (fl_Mod_147 t) hb1 d_Mod_alignment_27 s_60 ?_
  replace hp := q_let_of hp
  obtain ⟨f2, hz, hp⟩ := hp
  rw [← hz]
  clear hz
  refine ev_iload_n (pc := 30) d_Mod_alignment_30 rfl rfl ?_
  cases Option.some.inj hp
  exact et_iret (pc := 31) d_Mod_alignment_31 rfl hQ
theorem e_Mod_alignment_22 (t : q_V) (ok : ma_ok (q_G t))  {Q : Option Value → ma_H → Prop} {y : Int × q_F × q_F} (hQ : Q (some (ma_i y.1)) (q_h y.2.1 y.2.2))   (v1 : Int) (f g : q_F) (hp : p_Mod_alignment_22   v1 f g = some y) : ma_Ev (q_G t) 2 44 0 0 m_Mod_alignment 22 [(1, ma_i (v1))] [q_a t (60)] (q_h f g) (ma_zr (q_G t) false Q) := by
  unfold p_Mod_alignment_22 at hp
  refine ev_iconst (pc := 22) d_Mod_alignment_22 ?_
  refine ev_goto (pc := 23) (tgt := 27) d_Mod_alignment_23 (by decide) ?_
  refine ev_sub (ls2 := [(1, ma_i (v1))]) [0] rfl ?_
  exact e_Mod_alignment_27 t ok  hQ   (v1) (1) f g hp
theorem t_Mod_alignment (t : q_V) (ok : ma_ok (q_G t))  {Q : Option Value → ma_H → Prop} {y : Int × q_F × q_F}  (f g : q_F) (hp : p_Mod_alignment   f g = some y) (hQ : Q (some (ma_i y.1)) (q_h y.2.1 y.2.2)) : ma_Met (q_G t) false 2 44 0 0 m_Mod_alignment [q_a t (60)] (q_h f g) Q := by
  refine ma_met (by decide +kernel) (q_ble rfl) rfl ?_
  change ma_Ev (q_G t) 2 44 0 0 m_Mod_alignment 0 [(0, q_a t (60))] [] (q_h f g) (ma_zr (q_G t) false Q)
  unfold p_Mod_alignment at hp
  refine et_aload_n (pc := 0) d_Mod_alignment_0 rfl rfl ?_
  replace hp := q_bind hp
  obtain ⟨x1, hm2, hp⟩ := hp
  refine et_callVi (pc := 1) (f1 := x1.2.1) (g1 := x1.2.2) ok [] [] (cf_Mod_158 t) d_Mod_alignment_1 s_60 k_12 rfl (t_Mod_number t ok  f g hm2 ⟨rfl, rfl⟩) rfl rfl (by decide) (by decide) (q_ble rfl) ?_
  refine ev_istore_n (pc := 4) d_Mod_alignment_4 rfl (by decide) [(1, _), (0, _)] rfl ?_
  refine et_aload_n (pc := 5) d_Mod_alignment_5 rfl rfl ?_
  refine et_aload_n (pc := 6) d_Mod_alignment_6 rfl rfl ?_
  refine et_geti (pc := 7) ok (fl_Mod_147 t) rfl d_Mod_alignment_7 s_60 ?_
  refine et_if_ne (pc := 10) (tgt := 22) d_Mod_alignment_10 (by decide) (fun hj3 => ?_) (fun hj3 => ?_)
  · rw [if_neg hj3] at hp
    refine ev_sub (ls2 := [(1, ma_i (x1.1))]) [0] rfl ?_
    exact e_Mod_alignment_22 t ok  hQ   (x1.1) x1.2.1 x1.2.2 hp
  · rw [if_pos hj3] at hp
    refine ev_iload_n (pc := 13) d_Mod_alignment_13 rfl rfl ?_
    refine ev_bipush (pc := 14) d_Mod_alignment_14 rfl ?_
    replace hp := q_bind hp
    obtain ⟨x4, hm5, hp⟩ := hp
    refine et_callSi (pc := 16) (f1 := x4.2.1) (g1 := x4.2.2) ok [ma_i (x1.1), ma_i (64)] [q_a t (60)] (cf_Mod_131 t) d_Mod_alignment_16 (t_Mod_power t ok (x1.1) (64) x1.2.1 x1.2.2 hm5 ⟨rfl, rfl⟩) rfl rfl (by decide) (by decide) (q_ble rfl) ?_
    refine et_if_ne (pc := 19) (tgt := 26) d_Mod_alignment_19 (by decide) (fun hj6 => ?_) (fun hj6 => ?_)
    · rw [if_neg hj6] at hp
      refine ev_iconst (pc := 26) d_Mod_alignment_26 ?_
      refine ev_sub (ls2 := [(1, ma_i (x1.1))]) [0] rfl ?_
      exact e_Mod_alignment_27 t ok  hQ   (x1.1) (0) x4.2.1 x4.2.2 hp
    · rw [if_pos hj6] at hp
      refine ev_sub (ls2 := [(1, ma_i (x1.1))]) [0] rfl ?_
      exact e_Mod_alignment_22 t ok  hQ   (x1.1) x4.2.1 x4.2.2 hp
theorem d_Mod_emit_0 : decode (m_c m_Mod_emit) 0 = .ok (.aload_n 0, 1) := by decide +kernel
theorem d_Mod_emit_1 : decode (m_c m_Mod_emit) 1 = .ok (.getfield 147, 3) := by decide +kernel
theorem d_Mod_emit_4 : decode (m_c m_Mod_emit) 4 = .ok (.ifCond .eq 4, 3) := by decide +kernel
theorem d_Mod_emit_7 : decode (m_c m_Mod_emit) 7 = .ok (.return_, 1) := by decide +kernel
theorem d_Mod_emit_8 : decode (m_c m_Mod_emit) 8 = .ok (.aload_n 0, 1) := by decide +kernel
theorem d_Mod_emit_9 : decode (m_c m_Mod_emit) 9 = .ok (.getfield 42, 3) := by decide +kernel
theorem d_Mod_emit_12 : decode (m_c m_Mod_emit) 12 = .ok (.aload_n 0, 1) := by decide +kernel
theorem d_Mod_emit_13 : decode (m_c m_Mod_emit) 13 = .ok (.getfield 161, 3) := by decide +kernel
theorem d_Mod_emit_16 : decode (m_c m_Mod_emit) 16 = .ok (.iload_n 1, 1) := by decide +kernel
theorem d_Mod_emit_17 : decode (m_c m_Mod_emit) 17 = .ok (.iastore, 1) := by decide +kernel
theorem d_Mod_emit_18 : decode (m_c m_Mod_emit) 18 = .ok (.aload_n 0, 1) := by decide +kernel
theorem d_Mod_emit_19 : decode (m_c m_Mod_emit) 19 = .ok (.getfield 45, 3) := by decide +kernel
theorem d_Mod_emit_22 : decode (m_c m_Mod_emit) 22 = .ok (.aload_n 0, 1) := by decide +kernel
theorem d_Mod_emit_23 : decode (m_c m_Mod_emit) 23 = .ok (.getfield 161, 3) := by decide +kernel
theorem d_Mod_emit_26 : decode (m_c m_Mod_emit) 26 = .ok (.iload_n 2, 1) := by decide +kernel
theorem d_Mod_emit_27 : decode (m_c m_Mod_emit) 27 = .ok (.iastore, 1) := by decide +kernel
theorem d_Mod_emit_28 : decode (m_c m_Mod_emit) 28 = .ok (.aload_n 0, 1) := by decide +kernel
theorem d_Mod_emit_29 : decode (m_c m_Mod_emit) 29 = .ok (.dup, 1) := by decide +kernel
theorem d_Mod_emit_30 : decode (m_c m_Mod_emit) 30 = .ok (.getfield 161, 3) := by decide +kernel
theorem d_Mod_emit_33 : decode (m_c m_Mod_emit) 33 = .ok (.iconst 1, 1) := by decide +kernel
theorem d_Mod_emit_34 : decode (m_c m_Mod_emit) 34 = .ok (.iadd, 1) := by decide +kernel
theorem d_Mod_emit_35 : decode (m_c m_Mod_emit) 35 = .ok (.putfield 161, 3) := by decide +kernel
theorem d_Mod_emit_38 : decode (m_c m_Mod_emit) 38 = .ok (.return_, 1) := by decide +kernel
def p_Mod_emit  (v1 : Int) (v2 : Int) (f g : q_F) : Option (q_F × q_F) :=
  if q_sw (f 60 9) = 0 then
    if 0 ≤ (f 60 14) ∧ (f 60 14) < 160 then
      q_let (ma_up f 70 (Int.toNat (f 60 14)) v1) fun f3 =>
      if 0 ≤ (f3 60 14) ∧ (f3 60 14) < 160 then
        q_let (ma_up f3 71 (Int.toNat (f3 60 14)) v2) fun f5 =>
        q_let (ma_up f5 60 14 ((f5 60 14) + 1)) fun f6 =>
        some (f6, g)
      else none
    else none
  else
    some (f, g)
theorem t_Mod_emit (t : q_V) (ok : ma_ok (q_G t))  {Q : Option Value → ma_H → Prop} {y : q_F × q_F} (v1 : Int) (v2 : Int) (f g : q_F) (hp : p_Mod_emit  v1 v2 f g = some y) (hQ : Q (none) (q_h y.1 y.2)) : ma_Met (q_G t) false 0 0 0 0 m_Mod_emit [q_a t (60), ma_i (v1), ma_i (v2)] (q_h f g) Q := by
  refine ma_met (by decide +kernel) (q_ble rfl) rfl ?_
  change ma_Ev (q_G t) 0 0 0 0 m_Mod_emit 0 [(0, q_a t (60)), (1, ma_i (v1)), (2, ma_i (v2))] [] (q_h f g) (ma_zr (q_G t) false Q)
  unfold p_Mod_emit at hp
  refine et_aload_n (pc := 0) d_Mod_emit_0 rfl rfl ?_
  refine et_geti (pc := 1) ok (fl_Mod_147 t) rfl d_Mod_emit_1 s_60 ?_
  refine et_if_eq (pc := 4) (tgt := 8) d_Mod_emit_4 (by decide) (fun hj1 => ?_) (fun hj1 => ?_)
  · rw [if_pos hj1] at hp
    refine et_aload_n (pc := 8) d_Mod_emit_8 rfl rfl ?_
    refine et_getr (pc := 9) ok (fl_Mod_42 t) rfl d_Mod_emit_9 s_60 r_60_15 ?_
    refine et_aload_n (pc := 12) d_Mod_emit_12 rfl rfl ?_
    refine et_geti (pc := 13) ok (fl_Mod_161 t) rfl d_Mod_emit_13 s_60 ?_
    refine ev_iload_n (pc := 16) d_Mod_emit_16 rfl rfl ?_
    replace hp := q_if hp
    obtain ⟨hb2, hp⟩ := hp
    refine et_iast (pc := 17) d_Mod_emit_17 s_70 hb2 (by decide) ?_
    replace hp := q_let_of hp
    obtain ⟨f3, hz, hp⟩ := hp
    rw [← hz]
    clear hz
    refine et_aload_n (pc := 18) d_Mod_emit_18 rfl rfl ?_
    refine et_getr (pc := 19) ok (fl_Mod_45 t) rfl d_Mod_emit_19 s_60 r_60_16 ?_
    refine et_aload_n (pc := 22) d_Mod_emit_22 rfl rfl ?_
    refine et_geti (pc := 23) ok (fl_Mod_161 t) rfl d_Mod_emit_23 s_60 ?_
    refine ev_iload_n (pc := 26) d_Mod_emit_26 rfl rfl ?_
    replace hp := q_if hp
    obtain ⟨hb4, hp⟩ := hp
    refine et_iast (pc := 27) d_Mod_emit_27 s_71 hb4 (by decide) ?_
    replace hp := q_let_of hp
    obtain ⟨f5, hz, hp⟩ := hp
    rw [← hz]
    clear hz
    refine et_aload_n (pc := 28) d_Mod_emit_28 rfl rfl ?_
    refine ev_dup (pc := 29) d_Mod_emit_29 rfl ?_
    refine et_geti (pc := 30) ok (fl_Mod_161 t) rfl d_Mod_emit_30 s_60 ?_
    refine ev_iconst (pc := 33) d_Mod_emit_33 ?_
    refine ev_iadd (pc := 34) d_Mod_emit_34 ?_
    refine et_puti (pc := 35) ok (fl_Mod_161 t) d_Mod_emit_35 s_60 ?_
    replace hp := q_let_of hp
    obtain ⟨f6, hz, hp⟩ := hp
    rw [← hz]
    clear hz
    cases Option.some.inj hp
    exact et_ret (pc := 38) d_Mod_emit_38 rfl hQ
  · rw [if_neg hj1] at hp
    cases Option.some.inj hp
    exact et_ret (pc := 7) d_Mod_emit_7 rfl hQ
theorem d_Mod_simple_0 : decode (m_c m_Mod_simple) 0 = .ok (.aload_n 0, 1) := by decide +kernel
theorem d_Mod_simple_1 : decode (m_c m_Mod_simple) 1 = .ok (.invokevirtual 150, 3) := by decide +kernel
theorem d_Mod_simple_4 : decode (m_c m_Mod_simple) 4 = .ok (.istore_n 1, 1) := by decide +kernel
theorem d_Mod_simple_5 : decode (m_c m_Mod_simple) 5 = .ok (.iload_n 1, 1) := by decide +kernel
theorem d_Mod_simple_6 : decode (m_c m_Mod_simple) 6 = .ok (.bipush 48, 2) := by decide +kernel
theorem d_Mod_simple_8 : decode (m_c m_Mod_simple) 8 = .ok (.bipush 57, 2) := by decide +kernel
theorem d_Mod_simple_10 : decode (m_c m_Mod_simple) 10 = .ok (.invokestatic 127, 3) := by decide +kernel
theorem d_Mod_simple_13 : decode (m_c m_Mod_simple) 13 = .ok (.ifCond .eq 13, 3) := by decide +kernel
theorem d_Mod_simple_16 : decode (m_c m_Mod_simple) 16 = .ok (.aload_n 0, 1) := by decide +kernel
theorem d_Mod_simple_17 : decode (m_c m_Mod_simple) 17 = .ok (.iconst 0, 1) := by decide +kernel
theorem d_Mod_simple_18 : decode (m_c m_Mod_simple) 18 = .ok (.aload_n 0, 1) := by decide +kernel
theorem d_Mod_simple_19 : decode (m_c m_Mod_simple) 19 = .ok (.invokevirtual 158, 3) := by decide +kernel
theorem d_Mod_simple_22 : decode (m_c m_Mod_simple) 22 = .ok (.invokevirtual 164, 3) := by decide +kernel
theorem d_Mod_simple_25 : decode (m_c m_Mod_simple) 25 = .ok (.return_, 1) := by decide +kernel
theorem d_Mod_simple_26 : decode (m_c m_Mod_simple) 26 = .ok (.aload_n 0, 1) := by decide +kernel
theorem d_Mod_simple_27 : decode (m_c m_Mod_simple) 27 = .ok (.bipush 47, 2) := by decide +kernel
theorem d_Mod_simple_29 : decode (m_c m_Mod_simple) 29 = .ok (.invokevirtual 154, 3) := by decide +kernel
theorem d_Mod_simple_32 : decode (m_c m_Mod_simple) 32 = .ok (.ifCond .eq 7, 3) := by decide +kernel
theorem d_Mod_simple_35 : decode (m_c m_Mod_simple) 35 = .ok (.iconst 2, 1) := by decide +kernel
theorem d_Mod_simple_36 : decode (m_c m_Mod_simple) 36 = .ok (.goto 30, 3) := by decide +kernel
theorem d_Mod_simple_39 : decode (m_c m_Mod_simple) 39 = .ok (.aload_n 0, 1) := by decide +kernel
theorem d_Mod_simple_40 : decode (m_c m_Mod_simple) 40 = .ok (.bipush 124, 2) := by decide +kernel
theorem d_Mod_simple_42 : decode (m_c m_Mod_simple) 42 = .ok (.invokevirtual 154, 3) := by decide +kernel
theorem d_Mod_simple_45 : decode (m_c m_Mod_simple) 45 = .ok (.ifCond .eq 7, 3) := by decide +kernel
theorem d_Mod_simple_48 : decode (m_c m_Mod_simple) 48 = .ok (.iconst 3, 1) := by decide +kernel
theorem d_Mod_simple_49 : decode (m_c m_Mod_simple) 49 = .ok (.goto 17, 3) := by decide +kernel
theorem d_Mod_simple_52 : decode (m_c m_Mod_simple) 52 = .ok (.aload_n 0, 1) := by decide +kernel
theorem d_Mod_simple_53 : decode (m_c m_Mod_simple) 53 = .ok (.bipush 35, 2) := by decide +kernel
theorem d_Mod_simple_55 : decode (m_c m_Mod_simple) 55 = .ok (.invokevirtual 154, 3) := by decide +kernel
theorem d_Mod_simple_58 : decode (m_c m_Mod_simple) 58 = .ok (.ifCond .eq 7, 3) := by decide +kernel
theorem d_Mod_simple_61 : decode (m_c m_Mod_simple) 61 = .ok (.iconst 4, 1) := by decide +kernel
theorem d_Mod_simple_62 : decode (m_c m_Mod_simple) 62 = .ok (.goto 4, 3) := by decide +kernel
theorem d_Mod_simple_65 : decode (m_c m_Mod_simple) 65 = .ok (.iconst 1, 1) := by decide +kernel
theorem d_Mod_simple_66 : decode (m_c m_Mod_simple) 66 = .ok (.istore_n 2, 1) := by decide +kernel
theorem d_Mod_simple_67 : decode (m_c m_Mod_simple) 67 = .ok (.aload_n 0, 1) := by decide +kernel
theorem d_Mod_simple_68 : decode (m_c m_Mod_simple) 68 = .ok (.iload_n 2, 1) := by decide +kernel
theorem d_Mod_simple_69 : decode (m_c m_Mod_simple) 69 = .ok (.iload_n 2, 1) := by decide +kernel
theorem d_Mod_simple_70 : decode (m_c m_Mod_simple) 70 = .ok (.iconst 1, 1) := by decide +kernel
theorem d_Mod_simple_71 : decode (m_c m_Mod_simple) 71 = .ok (.if_icmp .ne 17, 3) := by decide +kernel
theorem d_Mod_simple_74 : decode (m_c m_Mod_simple) 74 = .ok (.bipush 8, 2) := by decide +kernel
theorem d_Mod_simple_76 : decode (m_c m_Mod_simple) 76 = .ok (.aload_n 0, 1) := by decide +kernel
theorem d_Mod_simple_77 : decode (m_c m_Mod_simple) 77 = .ok (.bipush 105, 2) := by decide +kernel
theorem d_Mod_simple_79 : decode (m_c m_Mod_simple) 79 = .ok (.bipush 18, 2) := by decide +kernel
theorem d_Mod_simple_81 : decode (m_c m_Mod_simple) 81 = .ok (.invokevirtual 168, 3) := by decide +kernel
theorem d_Mod_simple_84 : decode (m_c m_Mod_simple) 84 = .ok (.iadd, 1) := by decide +kernel
theorem d_Mod_simple_85 : decode (m_c m_Mod_simple) 85 = .ok (.goto 11, 3) := by decide +kernel
theorem d_Mod_simple_88 : decode (m_c m_Mod_simple) 88 = .ok (.aload_n 0, 1) := by decide +kernel
theorem d_Mod_simple_89 : decode (m_c m_Mod_simple) 89 = .ok (.bipush 65, 2) := by decide +kernel
theorem d_Mod_simple_91 : decode (m_c m_Mod_simple) 91 = .ok (.bipush 8, 2) := by decide +kernel
theorem d_Mod_simple_93 : decode (m_c m_Mod_simple) 93 = .ok (.invokevirtual 168, 3) := by decide +kernel
theorem d_Mod_simple_96 : decode (m_c m_Mod_simple) 96 = .ok (.invokevirtual 164, 3) := by decide +kernel
theorem d_Mod_simple_99 : decode (m_c m_Mod_simple) 99 = .ok (.return_, 1) := by decide +kernel
def p_Mod_simple_96   (s0 : Int) (s1 : Int) (f g : q_F) : Option (q_F × q_F) :=
  (p_Mod_emit (s1) (s0) f g).bind fun x1 =>
  some (x1.1, x1.2)
def p_Mod_simple_66   (s0 : Int) (f g : q_F) : Option (q_F × q_F) :=
  if q_sw s0 = q_sw 1 then
    (p_Mod_letter (105) (18) f g).bind fun x4 =>
    p_Mod_simple_96   (8 + x4.1) (s0) x4.2.1 x4.2.2
  else
    (p_Mod_letter (65) (8) f g).bind fun x2 =>
    p_Mod_simple_96   (x2.1) (s0) x2.2.1 x2.2.2
def p_Mod_simple   (f g : q_F) : Option (q_F × q_F) :=
  (p_Mod_see  f g).bind fun x1 =>
  (p_Mod_within (x1.1) (48) (57) x1.2.1 x1.2.2).bind fun x3 =>
  if q_sw x3.1 = 0 then
    (p_Mod_takes (47) x3.2.1 x3.2.2).bind fun x6 =>
    if q_sw x6.1 = 0 then
      (p_Mod_takes (124) x6.2.1 x6.2.2).bind fun x9 =>
      if q_sw x9.1 = 0 then
        (p_Mod_takes (35) x9.2.1 x9.2.2).bind fun x12 =>
        if q_sw x12.1 = 0 then
          p_Mod_simple_66   (1) x12.2.1 x12.2.2
        else
          p_Mod_simple_66   (4) x12.2.1 x12.2.2
      else
        p_Mod_simple_66   (3) x9.2.1 x9.2.2
    else
      p_Mod_simple_66   (2) x6.2.1 x6.2.2
  else
    (p_Mod_number  x3.2.1 x3.2.2).bind fun x15 =>
    (p_Mod_emit (0) (x15.1) x15.2.1 x15.2.2).bind fun x17 =>
    some (x17.1, x17.2)
theorem e_Mod_simple_96 (t : q_V) (ok : ma_ok (q_G t))  {Q : Option Value → ma_H → Prop} {y : q_F × q_F} (hQ : Q (none) (q_h y.1 y.2))   (s0 : Int) (s1 : Int) (f g : q_F) (hp : p_Mod_simple_96   s0 s1 f g = some y) : ma_Ev (q_G t) 2 45 0 0 m_Mod_simple 96 [] [ma_i (s0), ma_i (s1), q_a t (60)] (q_h f g) (ma_zr (q_G t) false Q) := by
  unfold p_Mod_simple_96 at hp
  replace hp := q_bind hp
  obtain ⟨x1, hm2, hp⟩ := hp
  refine et_callVv (pc := 96) (f1 := x1.1) (g1 := x1.2) ok [ma_i (s1), ma_i (s0)] [] (cf_Mod_164 t) d_Mod_simple_96 s_60 k_12 rfl (t_Mod_emit t ok (s1) (s0) f g hm2 ⟨rfl, rfl⟩) rfl rfl (by decide) (by decide) (q_ble rfl) ?_
  cases Option.some.inj hp
  exact et_ret (pc := 99) d_Mod_simple_99 rfl hQ
theorem e_Mod_simple_66 (t : q_V) (ok : ma_ok (q_G t))  {Q : Option Value → ma_H → Prop} {y : q_F × q_F} (hQ : Q (none) (q_h y.1 y.2))   (s0 : Int) (f g : q_F) (hp : p_Mod_simple_66   s0 f g = some y) : ma_Ev (q_G t) 2 45 0 0 m_Mod_simple 66 [(0, q_a t (60))] [ma_i (s0)] (q_h f g) (ma_zr (q_G t) false Q) := by
  unfold p_Mod_simple_66 at hp
  refine ev_istore_n (pc := 66) d_Mod_simple_66 rfl (by decide) [(2, _), (0, _)] rfl ?_
  refine et_aload_n (pc := 67) d_Mod_simple_67 rfl rfl ?_
  refine ev_iload_n (pc := 68) d_Mod_simple_68 rfl rfl ?_
  refine ev_iload_n (pc := 69) d_Mod_simple_69 rfl rfl ?_
  refine ev_iconst (pc := 70) d_Mod_simple_70 ?_
  refine et_icmp_ne (pc := 71) (tgt := 88) d_Mod_simple_71 (by decide) (fun hj1 => ?_) (fun hj1 => ?_)
  · rw [if_neg hj1] at hp
    refine et_aload_n (pc := 88) d_Mod_simple_88 rfl rfl ?_
    refine ev_bipush (pc := 89) d_Mod_simple_89 rfl ?_
    refine ev_bipush (pc := 91) d_Mod_simple_91 rfl ?_
    replace hp := q_bind hp
    obtain ⟨x2, hm3, hp⟩ := hp
    refine et_callVi (pc := 93) (f1 := x2.2.1) (g1 := x2.2.2) ok [ma_i (65), ma_i (8)] [ma_i (s0), q_a t (60)] (cf_Mod_168 t) d_Mod_simple_93 s_60 k_12 rfl (t_Mod_letter t ok (65) (8) f g hm3 ⟨rfl, rfl⟩) rfl rfl (by decide) (by decide) (q_ble rfl) ?_
    refine ev_sub (ls2 := []) [] rfl ?_
    exact e_Mod_simple_96 t ok  hQ   (x2.1) (s0) x2.2.1 x2.2.2 hp
  · rw [if_pos hj1] at hp
    refine ev_bipush (pc := 74) d_Mod_simple_74 rfl ?_
    refine et_aload_n (pc := 76) d_Mod_simple_76 rfl rfl ?_
    refine ev_bipush (pc := 77) d_Mod_simple_77 rfl ?_
    refine ev_bipush (pc := 79) d_Mod_simple_79 rfl ?_
    replace hp := q_bind hp
    obtain ⟨x4, hm5, hp⟩ := hp
    refine et_callVi (pc := 81) (f1 := x4.2.1) (g1 := x4.2.2) ok [ma_i (105), ma_i (18)] [ma_i (8), ma_i (s0), q_a t (60)] (cf_Mod_168 t) d_Mod_simple_81 s_60 k_12 rfl (t_Mod_letter t ok (105) (18) f g hm5 ⟨rfl, rfl⟩) rfl rfl (by decide) (by decide) (q_ble rfl) ?_
    refine ev_iadd (pc := 84) d_Mod_simple_84 ?_
    refine ev_goto (pc := 85) (tgt := 96) d_Mod_simple_85 (by decide) ?_
    refine ev_sub (ls2 := []) [] rfl ?_
    exact e_Mod_simple_96 t ok  hQ   (8 + x4.1) (s0) x4.2.1 x4.2.2 hp
theorem t_Mod_simple (t : q_V) (ok : ma_ok (q_G t))  {Q : Option Value → ma_H → Prop} {y : q_F × q_F}  (f g : q_F) (hp : p_Mod_simple   f g = some y) (hQ : Q (none) (q_h y.1 y.2)) : ma_Met (q_G t) false 2 45 0 0 m_Mod_simple [q_a t (60)] (q_h f g) Q := by
  refine ma_met (by decide +kernel) (q_ble rfl) rfl ?_
  change ma_Ev (q_G t) 2 45 0 0 m_Mod_simple 0 [(0, q_a t (60))] [] (q_h f g) (ma_zr (q_G t) false Q)
  unfold p_Mod_simple at hp
  refine et_aload_n (pc := 0) d_Mod_simple_0 rfl rfl ?_
  replace hp := q_bind hp
  obtain ⟨x1, hm2, hp⟩ := hp
  refine et_callVi (pc := 1) (f1 := x1.2.1) (g1 := x1.2.2) ok [] [] (cf_Mod_150 t) d_Mod_simple_1 s_60 k_12 rfl (t_Mod_see t ok  f g hm2 ⟨rfl, rfl⟩) rfl rfl (by decide) (by decide) (q_ble rfl) ?_
  refine ev_istore_n (pc := 4) d_Mod_simple_4 rfl (by decide) [(1, _), (0, _)] rfl ?_
  refine ev_iload_n (pc := 5) d_Mod_simple_5 rfl rfl ?_
  refine ev_bipush (pc := 6) d_Mod_simple_6 rfl ?_
  refine ev_bipush (pc := 8) d_Mod_simple_8 rfl ?_
  replace hp := q_bind hp
  obtain ⟨x3, hm4, hp⟩ := hp
  refine et_callSi (pc := 10) (f1 := x3.2.1) (g1 := x3.2.2) ok [ma_i (x1.1), ma_i (48), ma_i (57)] [] (cf_Mod_127 t) d_Mod_simple_10 (t_Mod_within t ok (x1.1) (48) (57) x1.2.1 x1.2.2 hm4 ⟨rfl, rfl⟩) rfl rfl (by decide) (by decide) (q_ble rfl) ?_
  refine et_if_eq (pc := 13) (tgt := 26) d_Mod_simple_13 (by decide) (fun hj5 => ?_) (fun hj5 => ?_)
  · rw [if_pos hj5] at hp
    refine et_aload_n (pc := 26) d_Mod_simple_26 rfl rfl ?_
    refine ev_bipush (pc := 27) d_Mod_simple_27 rfl ?_
    replace hp := q_bind hp
    obtain ⟨x6, hm7, hp⟩ := hp
    refine et_callVi (pc := 29) (f1 := x6.2.1) (g1 := x6.2.2) ok [ma_i (47)] [] (cf_Mod_154 t) d_Mod_simple_29 s_60 k_12 rfl (t_Mod_takes t ok (47) x3.2.1 x3.2.2 hm7 ⟨rfl, rfl⟩) rfl rfl (by decide) (by decide) (q_ble rfl) ?_
    refine et_if_eq (pc := 32) (tgt := 39) d_Mod_simple_32 (by decide) (fun hj8 => ?_) (fun hj8 => ?_)
    · rw [if_pos hj8] at hp
      refine et_aload_n (pc := 39) d_Mod_simple_39 rfl rfl ?_
      refine ev_bipush (pc := 40) d_Mod_simple_40 rfl ?_
      replace hp := q_bind hp
      obtain ⟨x9, hm10, hp⟩ := hp
      refine et_callVi (pc := 42) (f1 := x9.2.1) (g1 := x9.2.2) ok [ma_i (124)] [] (cf_Mod_154 t) d_Mod_simple_42 s_60 k_12 rfl (t_Mod_takes t ok (124) x6.2.1 x6.2.2 hm10 ⟨rfl, rfl⟩) rfl rfl (by decide) (by decide) (q_ble rfl) ?_
      refine et_if_eq (pc := 45) (tgt := 52) d_Mod_simple_45 (by decide) (fun hj11 => ?_) (fun hj11 => ?_)
      · rw [if_pos hj11] at hp
        refine et_aload_n (pc := 52) d_Mod_simple_52 rfl rfl ?_
        refine ev_bipush (pc := 53) d_Mod_simple_53 rfl ?_
        replace hp := q_bind hp
        obtain ⟨x12, hm13, hp⟩ := hp
        refine et_callVi (pc := 55) (f1 := x12.2.1) (g1 := x12.2.2) ok [ma_i (35)] [] (cf_Mod_154 t) d_Mod_simple_55 s_60 k_12 rfl (t_Mod_takes t ok (35) x9.2.1 x9.2.2 hm13 ⟨rfl, rfl⟩) rfl rfl (by decide) (by decide) (q_ble rfl) ?_
        refine et_if_eq (pc := 58) (tgt := 65) d_Mod_simple_58 (by decide) (fun hj14 => ?_) (fun hj14 => ?_)
        · rw [if_pos hj14] at hp
          refine ev_iconst (pc := 65) d_Mod_simple_65 ?_
          refine ev_sub (ls2 := [(0, q_a t (60))]) [1] rfl ?_
          exact e_Mod_simple_66 t ok  hQ   (1) x12.2.1 x12.2.2 hp
        · rw [if_neg hj14] at hp
          refine ev_iconst (pc := 61) d_Mod_simple_61 ?_
          refine ev_goto (pc := 62) (tgt := 66) d_Mod_simple_62 (by decide) ?_
          refine ev_sub (ls2 := [(0, q_a t (60))]) [1] rfl ?_
          exact e_Mod_simple_66 t ok  hQ   (4) x12.2.1 x12.2.2 hp
      · rw [if_neg hj11] at hp
        refine ev_iconst (pc := 48) d_Mod_simple_48 ?_
        refine ev_goto (pc := 49) (tgt := 66) d_Mod_simple_49 (by decide) ?_
        refine ev_sub (ls2 := [(0, q_a t (60))]) [1] rfl ?_
        exact e_Mod_simple_66 t ok  hQ   (3) x9.2.1 x9.2.2 hp
    · rw [if_neg hj8] at hp
      refine ev_iconst (pc := 35) d_Mod_simple_35 ?_
      refine ev_goto (pc := 36) (tgt := 66) d_Mod_simple_36 (by decide) ?_
      refine ev_sub (ls2 := [(0, q_a t (60))]) [1] rfl ?_
      exact e_Mod_simple_66 t ok  hQ   (2) x6.2.1 x6.2.2 hp
  · rw [if_neg hj5] at hp
    refine et_aload_n (pc := 16) d_Mod_simple_16 rfl rfl ?_
    refine ev_iconst (pc := 17) d_Mod_simple_17 ?_
    refine et_aload_n (pc := 18) d_Mod_simple_18 rfl rfl ?_
    replace hp := q_bind hp
    obtain ⟨x15, hm16, hp⟩ := hp
    refine et_callVi (pc := 19) (f1 := x15.2.1) (g1 := x15.2.2) ok [] [ma_i (0), q_a t (60)] (cf_Mod_158 t) d_Mod_simple_19 s_60 k_12 rfl (t_Mod_number t ok  x3.2.1 x3.2.2 hm16 ⟨rfl, rfl⟩) rfl rfl (by decide) (by decide) (q_ble rfl) ?_
    replace hp := q_bind hp
    obtain ⟨x17, hm18, hp⟩ := hp
    refine et_callVv (pc := 22) (f1 := x17.1) (g1 := x17.2) ok [ma_i (0), ma_i (x15.1)] [] (cf_Mod_164 t) d_Mod_simple_22 s_60 k_12 rfl (t_Mod_emit t ok (0) (x15.1) x15.2.1 x15.2.2 hm18 ⟨rfl, rfl⟩) rfl rfl (by decide) (by decide) (q_ble rfl) ?_
    cases Option.some.inj hp
    exact et_ret (pc := 25) d_Mod_simple_25 rfl hQ
theorem d_Mod_expression_0 : decode (m_c m_Mod_expression) 0 = .ok (.iconst 0, 1) := by decide +kernel
theorem d_Mod_expression_1 : decode (m_c m_Mod_expression) 1 = .ok (.istore_n 1, 1) := by decide +kernel
theorem d_Mod_expression_2 : decode (m_c m_Mod_expression) 2 = .ok (.aload_n 0, 1) := by decide +kernel
theorem d_Mod_expression_3 : decode (m_c m_Mod_expression) 3 = .ok (.getfield 52, 3) := by decide +kernel
theorem d_Mod_expression_6 : decode (m_c m_Mod_expression) 6 = .ok (.iconst 0, 1) := by decide +kernel
theorem d_Mod_expression_7 : decode (m_c m_Mod_expression) 7 = .ok (.iconst 0, 1) := by decide +kernel
theorem d_Mod_expression_8 : decode (m_c m_Mod_expression) 8 = .ok (.iastore, 1) := by decide +kernel
theorem d_Mod_expression_9 : decode (m_c m_Mod_expression) 9 = .ok (.aload_n 0, 1) := by decide +kernel
theorem d_Mod_expression_10 : decode (m_c m_Mod_expression) 10 = .ok (.getfield 147, 3) := by decide +kernel
theorem d_Mod_expression_13 : decode (m_c m_Mod_expression) 13 = .ok (.ifCond .ne 7, 3) := by decide +kernel
theorem d_Mod_expression_16 : decode (m_c m_Mod_expression) 16 = .ok (.iconst 1, 1) := by decide +kernel
theorem d_Mod_expression_17 : decode (m_c m_Mod_expression) 17 = .ok (.goto 4, 3) := by decide +kernel
theorem d_Mod_expression_20 : decode (m_c m_Mod_expression) 20 = .ok (.iconst 0, 1) := by decide +kernel
theorem d_Mod_expression_21 : decode (m_c m_Mod_expression) 21 = .ok (.istore_n 2, 1) := by decide +kernel
theorem d_Mod_expression_22 : decode (m_c m_Mod_expression) 22 = .ok (.iload_n 2, 1) := by decide +kernel
theorem d_Mod_expression_23 : decode (m_c m_Mod_expression) 23 = .ok (.ifCond .eq 283, 3) := by decide +kernel
theorem d_Mod_expression_26 : decode (m_c m_Mod_expression) 26 = .ok (.aload_n 0, 1) := by decide +kernel
theorem d_Mod_expression_27 : decode (m_c m_Mod_expression) 27 = .ok (.invokevirtual 150, 3) := by decide +kernel
theorem d_Mod_expression_30 : decode (m_c m_Mod_expression) 30 = .ok (.istore_n 3, 1) := by decide +kernel
theorem d_Mod_expression_31 : decode (m_c m_Mod_expression) 31 = .ok (.aload_n 0, 1) := by decide +kernel
theorem d_Mod_expression_32 : decode (m_c m_Mod_expression) 32 = .ok (.getfield 147, 3) := by decide +kernel
theorem d_Mod_expression_35 : decode (m_c m_Mod_expression) 35 = .ok (.ifCond .ne 71, 3) := by decide +kernel
theorem d_Mod_expression_38 : decode (m_c m_Mod_expression) 38 = .ok (.iload_n 3, 1) := by decide +kernel
theorem d_Mod_expression_39 : decode (m_c m_Mod_expression) 39 = .ok (.bipush 40, 2) := by decide +kernel
theorem d_Mod_expression_41 : decode (m_c m_Mod_expression) 41 = .ok (.if_icmp .eq 9, 3) := by decide +kernel
theorem d_Mod_expression_44 : decode (m_c m_Mod_expression) 44 = .ok (.iload_n 3, 1) := by decide +kernel
theorem d_Mod_expression_45 : decode (m_c m_Mod_expression) 45 = .ok (.bipush 91, 2) := by decide +kernel
theorem d_Mod_expression_47 : decode (m_c m_Mod_expression) 47 = .ok (.if_icmp .ne 59, 3) := by decide +kernel
theorem d_Mod_expression_50 : decode (m_c m_Mod_expression) 50 = .ok (.aload_n 0, 1) := by decide +kernel
theorem d_Mod_expression_51 : decode (m_c m_Mod_expression) 51 = .ok (.iload_n 1, 1) := by decide +kernel
theorem d_Mod_expression_52 : decode (m_c m_Mod_expression) 52 = .ok (.iconst 5, 1) := by decide +kernel
theorem d_Mod_expression_53 : decode (m_c m_Mod_expression) 53 = .ok (.if_icmp .ne 7, 3) := by decide +kernel
theorem d_Mod_expression_56 : decode (m_c m_Mod_expression) 56 = .ok (.iconst 1, 1) := by decide +kernel
theorem d_Mod_expression_57 : decode (m_c m_Mod_expression) 57 = .ok (.goto 4, 3) := by decide +kernel
theorem d_Mod_expression_60 : decode (m_c m_Mod_expression) 60 = .ok (.iconst 0, 1) := by decide +kernel
theorem d_Mod_expression_61 : decode (m_c m_Mod_expression) 61 = .ok (.putfield 147, 3) := by decide +kernel
theorem d_Mod_expression_64 : decode (m_c m_Mod_expression) 64 = .ok (.aload_n 0, 1) := by decide +kernel
theorem d_Mod_expression_65 : decode (m_c m_Mod_expression) 65 = .ok (.getfield 147, 3) := by decide +kernel
theorem d_Mod_expression_68 : decode (m_c m_Mod_expression) 68 = .ok (.ifCond .ne 30, 3) := by decide +kernel
theorem d_Mod_expression_71 : decode (m_c m_Mod_expression) 71 = .ok (.aload_n 0, 1) := by decide +kernel
theorem d_Mod_expression_72 : decode (m_c m_Mod_expression) 72 = .ok (.getfield 55, 3) := by decide +kernel
theorem d_Mod_expression_75 : decode (m_c m_Mod_expression) 75 = .ok (.iload_n 1, 1) := by decide +kernel
theorem d_Mod_expression_76 : decode (m_c m_Mod_expression) 76 = .ok (.iload_n 3, 1) := by decide +kernel
theorem d_Mod_expression_77 : decode (m_c m_Mod_expression) 77 = .ok (.iastore, 1) := by decide +kernel
theorem d_Mod_expression_78 : decode (m_c m_Mod_expression) 78 = .ok (.aload_n 0, 1) := by decide +kernel
theorem d_Mod_expression_79 : decode (m_c m_Mod_expression) 79 = .ok (.dup, 1) := by decide +kernel
theorem d_Mod_expression_80 : decode (m_c m_Mod_expression) 80 = .ok (.getfield 144, 3) := by decide +kernel
theorem d_Mod_expression_83 : decode (m_c m_Mod_expression) 83 = .ok (.iconst 1, 1) := by decide +kernel
theorem d_Mod_expression_84 : decode (m_c m_Mod_expression) 84 = .ok (.iadd, 1) := by decide +kernel
theorem d_Mod_expression_85 : decode (m_c m_Mod_expression) 85 = .ok (.putfield 144, 3) := by decide +kernel
theorem d_Mod_expression_88 : decode (m_c m_Mod_expression) 88 = .ok (.iinc 1 1, 3) := by decide +kernel
theorem d_Mod_expression_91 : decode (m_c m_Mod_expression) 91 = .ok (.aload_n 0, 1) := by decide +kernel
theorem d_Mod_expression_92 : decode (m_c m_Mod_expression) 92 = .ok (.getfield 52, 3) := by decide +kernel
theorem d_Mod_expression_95 : decode (m_c m_Mod_expression) 95 = .ok (.iload_n 1, 1) := by decide +kernel
theorem d_Mod_expression_96 : decode (m_c m_Mod_expression) 96 = .ok (.iconst 0, 1) := by decide +kernel
theorem d_Mod_expression_97 : decode (m_c m_Mod_expression) 97 = .ok (.iastore, 1) := by decide +kernel
theorem d_Mod_expression_98 : decode (m_c m_Mod_expression) 98 = .ok (.aload_n 0, 1) := by decide +kernel
theorem d_Mod_expression_99 : decode (m_c m_Mod_expression) 99 = .ok (.invokevirtual 150, 3) := by decide +kernel
theorem d_Mod_expression_102 : decode (m_c m_Mod_expression) 102 = .ok (.istore_n 3, 1) := by decide +kernel
theorem d_Mod_expression_103 : decode (m_c m_Mod_expression) 103 = .ok (.goto (-72), 3) := by decide +kernel
theorem d_Mod_expression_106 : decode (m_c m_Mod_expression) 106 = .ok (.aload_n 0, 1) := by decide +kernel
theorem d_Mod_expression_107 : decode (m_c m_Mod_expression) 107 = .ok (.getfield 147, 3) := by decide +kernel
theorem d_Mod_expression_110 : decode (m_c m_Mod_expression) 110 = .ok (.ifCond .ne 7, 3) := by decide +kernel
theorem d_Mod_expression_113 : decode (m_c m_Mod_expression) 113 = .ok (.aload_n 0, 1) := by decide +kernel
theorem d_Mod_expression_114 : decode (m_c m_Mod_expression) 114 = .ok (.invokevirtual 172, 3) := by decide +kernel
theorem d_Mod_expression_117 : decode (m_c m_Mod_expression) 117 = .ok (.iconst 1, 1) := by decide +kernel
theorem d_Mod_expression_118 : decode (m_c m_Mod_expression) 118 = .ok (.istore 4, 2) := by decide +kernel
theorem d_Mod_expression_120 : decode (m_c m_Mod_expression) 120 = .ok (.iload 4, 2) := by decide +kernel
theorem d_Mod_expression_122 : decode (m_c m_Mod_expression) 122 = .ok (.ifCond .eq 159, 3) := by decide +kernel
theorem d_Mod_expression_125 : decode (m_c m_Mod_expression) 125 = .ok (.aload_n 0, 1) := by decide +kernel
theorem d_Mod_expression_126 : decode (m_c m_Mod_expression) 126 = .ok (.getfield 147, 3) := by decide +kernel
theorem d_Mod_expression_129 : decode (m_c m_Mod_expression) 129 = .ok (.ifCond .ne 152, 3) := by decide +kernel
theorem d_Mod_expression_132 : decode (m_c m_Mod_expression) 132 = .ok (.aload_n 0, 1) := by decide +kernel
theorem d_Mod_expression_133 : decode (m_c m_Mod_expression) 133 = .ok (.getfield 52, 3) := by decide +kernel
theorem d_Mod_expression_136 : decode (m_c m_Mod_expression) 136 = .ok (.iload_n 1, 1) := by decide +kernel
theorem d_Mod_expression_137 : decode (m_c m_Mod_expression) 137 = .ok (.iaload, 1) := by decide +kernel
theorem d_Mod_expression_138 : decode (m_c m_Mod_expression) 138 = .ok (.ifCond .le 14, 3) := by decide +kernel
theorem d_Mod_expression_141 : decode (m_c m_Mod_expression) 141 = .ok (.aload_n 0, 1) := by decide +kernel
theorem d_Mod_expression_142 : decode (m_c m_Mod_expression) 142 = .ok (.aload_n 0, 1) := by decide +kernel
theorem d_Mod_expression_143 : decode (m_c m_Mod_expression) 143 = .ok (.getfield 52, 3) := by decide +kernel
theorem d_Mod_expression_146 : decode (m_c m_Mod_expression) 146 = .ok (.iload_n 1, 1) := by decide +kernel
theorem d_Mod_expression_147 : decode (m_c m_Mod_expression) 147 = .ok (.iaload, 1) := by decide +kernel
theorem d_Mod_expression_148 : decode (m_c m_Mod_expression) 148 = .ok (.iconst 0, 1) := by decide +kernel
theorem d_Mod_expression_149 : decode (m_c m_Mod_expression) 149 = .ok (.invokevirtual 164, 3) := by decide +kernel
theorem d_Mod_expression_152 : decode (m_c m_Mod_expression) 152 = .ok (.aload_n 0, 1) := by decide +kernel
theorem d_Mod_expression_153 : decode (m_c m_Mod_expression) 153 = .ok (.getfield 52, 3) := by decide +kernel
theorem d_Mod_expression_156 : decode (m_c m_Mod_expression) 156 = .ok (.iload_n 1, 1) := by decide +kernel
theorem d_Mod_expression_157 : decode (m_c m_Mod_expression) 157 = .ok (.aload_n 0, 1) := by decide +kernel
theorem d_Mod_expression_158 : decode (m_c m_Mod_expression) 158 = .ok (.bipush 43, 2) := by decide +kernel
theorem d_Mod_expression_160 : decode (m_c m_Mod_expression) 160 = .ok (.invokevirtual 154, 3) := by decide +kernel
theorem d_Mod_expression_163 : decode (m_c m_Mod_expression) 163 = .ok (.ifCond .eq 7, 3) := by decide +kernel
theorem d_Mod_expression_166 : decode (m_c m_Mod_expression) 166 = .ok (.iconst 5, 1) := by decide +kernel
theorem d_Mod_expression_167 : decode (m_c m_Mod_expression) 167 = .ok (.goto 18, 3) := by decide +kernel
theorem d_Mod_expression_170 : decode (m_c m_Mod_expression) 170 = .ok (.aload_n 0, 1) := by decide +kernel
theorem d_Mod_expression_171 : decode (m_c m_Mod_expression) 171 = .ok (.bipush 45, 2) := by decide +kernel
theorem d_Mod_expression_173 : decode (m_c m_Mod_expression) 173 = .ok (.invokevirtual 154, 3) := by decide +kernel
theorem d_Mod_expression_176 : decode (m_c m_Mod_expression) 176 = .ok (.ifCond .eq 8, 3) := by decide +kernel
theorem d_Mod_expression_179 : decode (m_c m_Mod_expression) 179 = .ok (.bipush 6, 2) := by decide +kernel
theorem d_Mod_expression_181 : decode (m_c m_Mod_expression) 181 = .ok (.goto 4, 3) := by decide +kernel
theorem d_Mod_expression_184 : decode (m_c m_Mod_expression) 184 = .ok (.iconst 0, 1) := by decide +kernel
theorem d_Mod_expression_185 : decode (m_c m_Mod_expression) 185 = .ok (.iastore, 1) := by decide +kernel
theorem d_Mod_expression_186 : decode (m_c m_Mod_expression) 186 = .ok (.aload_n 0, 1) := by decide +kernel
theorem d_Mod_expression_187 : decode (m_c m_Mod_expression) 187 = .ok (.getfield 52, 3) := by decide +kernel
theorem d_Mod_expression_190 : decode (m_c m_Mod_expression) 190 = .ok (.iload_n 1, 1) := by decide +kernel
theorem d_Mod_expression_191 : decode (m_c m_Mod_expression) 191 = .ok (.iaload, 1) := by decide +kernel
theorem d_Mod_expression_192 : decode (m_c m_Mod_expression) 192 = .ok (.ifCond .ne 11, 3) := by decide +kernel
theorem d_Mod_expression_195 : decode (m_c m_Mod_expression) 195 = .ok (.iload_n 1, 1) := by decide +kernel
theorem d_Mod_expression_196 : decode (m_c m_Mod_expression) 196 = .ok (.ifCond .le 7, 3) := by decide +kernel
theorem d_Mod_expression_199 : decode (m_c m_Mod_expression) 199 = .ok (.iconst 1, 1) := by decide +kernel
theorem d_Mod_expression_200 : decode (m_c m_Mod_expression) 200 = .ok (.goto 4, 3) := by decide +kernel
theorem d_Mod_expression_203 : decode (m_c m_Mod_expression) 203 = .ok (.iconst 0, 1) := by decide +kernel
theorem d_Mod_expression_204 : decode (m_c m_Mod_expression) 204 = .ok (.istore 4, 2) := by decide +kernel
theorem d_Mod_expression_206 : decode (m_c m_Mod_expression) 206 = .ok (.iload 4, 2) := by decide +kernel
theorem d_Mod_expression_208 : decode (m_c m_Mod_expression) 208 = .ok (.ifCond .eq (-88), 3) := by decide +kernel
theorem d_Mod_expression_211 : decode (m_c m_Mod_expression) 211 = .ok (.iinc 1 (-1), 3) := by decide +kernel
theorem d_Mod_expression_214 : decode (m_c m_Mod_expression) 214 = .ok (.aload_n 0, 1) := by decide +kernel
theorem d_Mod_expression_215 : decode (m_c m_Mod_expression) 215 = .ok (.getfield 55, 3) := by decide +kernel
theorem d_Mod_expression_218 : decode (m_c m_Mod_expression) 218 = .ok (.iload_n 1, 1) := by decide +kernel
theorem d_Mod_expression_219 : decode (m_c m_Mod_expression) 219 = .ok (.iaload, 1) := by decide +kernel
theorem d_Mod_expression_220 : decode (m_c m_Mod_expression) 220 = .ok (.bipush 91, 2) := by decide +kernel
theorem d_Mod_expression_222 : decode (m_c m_Mod_expression) 222 = .ok (.if_icmp .ne 34, 3) := by decide +kernel
theorem d_Mod_expression_225 : decode (m_c m_Mod_expression) 225 = .ok (.aload_n 0, 1) := by decide +kernel
theorem d_Mod_expression_226 : decode (m_c m_Mod_expression) 226 = .ok (.bipush 44, 2) := by decide +kernel
theorem d_Mod_expression_228 : decode (m_c m_Mod_expression) 228 = .ok (.invokevirtual 175, 3) := by decide +kernel
theorem d_Mod_expression_231 : decode (m_c m_Mod_expression) 231 = .ok (.aload_n 0, 1) := by decide +kernel
theorem d_Mod_expression_232 : decode (m_c m_Mod_expression) 232 = .ok (.getfield 147, 3) := by decide +kernel
theorem d_Mod_expression_235 : decode (m_c m_Mod_expression) 235 = .ok (.ifCond .eq 7, 3) := by decide +kernel
theorem d_Mod_expression_238 : decode (m_c m_Mod_expression) 238 = .ok (.iconst 0, 1) := by decide +kernel
theorem d_Mod_expression_239 : decode (m_c m_Mod_expression) 239 = .ok (.goto 7, 3) := by decide +kernel
theorem d_Mod_expression_242 : decode (m_c m_Mod_expression) 242 = .ok (.aload_n 0, 1) := by decide +kernel
theorem d_Mod_expression_243 : decode (m_c m_Mod_expression) 243 = .ok (.invokevirtual 179, 3) := by decide +kernel
theorem d_Mod_expression_246 : decode (m_c m_Mod_expression) 246 = .ok (.istore 5, 2) := by decide +kernel
theorem d_Mod_expression_248 : decode (m_c m_Mod_expression) 248 = .ok (.aload_n 0, 1) := by decide +kernel
theorem d_Mod_expression_249 : decode (m_c m_Mod_expression) 249 = .ok (.bipush 7, 2) := by decide +kernel
theorem d_Mod_expression_251 : decode (m_c m_Mod_expression) 251 = .ok (.iload 5, 2) := by decide +kernel
theorem d_Mod_expression_253 : decode (m_c m_Mod_expression) 253 = .ok (.invokevirtual 164, 3) := by decide +kernel
theorem d_Mod_expression_256 : decode (m_c m_Mod_expression) 256 = .ok (.aload_n 0, 1) := by decide +kernel
theorem d_Mod_expression_257 : decode (m_c m_Mod_expression) 257 = .ok (.aload_n 0, 1) := by decide +kernel
theorem d_Mod_expression_258 : decode (m_c m_Mod_expression) 258 = .ok (.getfield 55, 3) := by decide +kernel
theorem d_Mod_expression_261 : decode (m_c m_Mod_expression) 261 = .ok (.iload_n 1, 1) := by decide +kernel
theorem d_Mod_expression_262 : decode (m_c m_Mod_expression) 262 = .ok (.iaload, 1) := by decide +kernel
theorem d_Mod_expression_263 : decode (m_c m_Mod_expression) 263 = .ok (.bipush 40, 2) := by decide +kernel
theorem d_Mod_expression_265 : decode (m_c m_Mod_expression) 265 = .ok (.if_icmp .ne 8, 3) := by decide +kernel
theorem d_Mod_expression_268 : decode (m_c m_Mod_expression) 268 = .ok (.bipush 41, 2) := by decide +kernel
theorem d_Mod_expression_270 : decode (m_c m_Mod_expression) 270 = .ok (.goto 5, 3) := by decide +kernel
theorem d_Mod_expression_273 : decode (m_c m_Mod_expression) 273 = .ok (.bipush 93, 2) := by decide +kernel
theorem d_Mod_expression_275 : decode (m_c m_Mod_expression) 275 = .ok (.invokevirtual 175, 3) := by decide +kernel
theorem d_Mod_expression_278 : decode (m_c m_Mod_expression) 278 = .ok (.goto (-158), 3) := by decide +kernel
theorem d_Mod_expression_281 : decode (m_c m_Mod_expression) 281 = .ok (.aload_n 0, 1) := by decide +kernel
theorem d_Mod_expression_282 : decode (m_c m_Mod_expression) 282 = .ok (.getfield 147, 3) := by decide +kernel
theorem d_Mod_expression_285 : decode (m_c m_Mod_expression) 285 = .ok (.ifCond .ne 16, 3) := by decide +kernel
theorem d_Mod_expression_288 : decode (m_c m_Mod_expression) 288 = .ok (.aload_n 0, 1) := by decide +kernel
theorem d_Mod_expression_289 : decode (m_c m_Mod_expression) 289 = .ok (.getfield 52, 3) := by decide +kernel
theorem d_Mod_expression_292 : decode (m_c m_Mod_expression) 292 = .ok (.iload_n 1, 1) := by decide +kernel
theorem d_Mod_expression_293 : decode (m_c m_Mod_expression) 293 = .ok (.iaload, 1) := by decide +kernel
theorem d_Mod_expression_294 : decode (m_c m_Mod_expression) 294 = .ok (.ifCond .le 7, 3) := by decide +kernel
theorem d_Mod_expression_297 : decode (m_c m_Mod_expression) 297 = .ok (.iconst 1, 1) := by decide +kernel
theorem d_Mod_expression_298 : decode (m_c m_Mod_expression) 298 = .ok (.goto 4, 3) := by decide +kernel
theorem d_Mod_expression_301 : decode (m_c m_Mod_expression) 301 = .ok (.iconst 0, 1) := by decide +kernel
theorem d_Mod_expression_302 : decode (m_c m_Mod_expression) 302 = .ok (.istore_n 2, 1) := by decide +kernel
theorem d_Mod_expression_303 : decode (m_c m_Mod_expression) 303 = .ok (.goto (-281), 3) := by decide +kernel
theorem d_Mod_expression_306 : decode (m_c m_Mod_expression) 306 = .ok (.return_, 1) := by decide +kernel
def p_Mod_expression_302  (c22 : Int → Int → q_F → q_F → Option (q_F × q_F)) (v1 : Int) (s0 : Int) (f g : q_F) : Option (q_F × q_F) :=
  c22 (v1) (s0) f g
def p_Mod_expression_301  (c22 : Int → Int → q_F → q_F → Option (q_F × q_F)) (v1 : Int) (f g : q_F) : Option (q_F × q_F) :=
  p_Mod_expression_302  c22 (v1) (0) f g
def p_Mod_expression_281  (c22 : Int → Int → q_F → q_F → Option (q_F × q_F)) (v1 : Int) (f g : q_F) : Option (q_F × q_F) :=
  if q_sw (f 60 9) = 0 then
    if 0 ≤ v1 ∧ v1 < 6 then
      if q_sw (f 73 (Int.toNat v1)) ≤ 0 then
        p_Mod_expression_301  c22 (v1) f g
      else
        p_Mod_expression_302  c22 (v1) (1) f g
    else none
  else
    p_Mod_expression_301  c22 (v1) f g
def p_Mod_expression_275  (c22 : Int → Int → q_F → q_F → Option (q_F × q_F)) (c120 : Int → Int → q_F → q_F → Option (q_F × q_F)) (v1 : Int) (v4 : Int) (s0 : Int) (f g : q_F) : Option (q_F × q_F) :=
  (p_Mod_take (s0) f g).bind fun x1 =>
  c120 (v1) (v4) x1.1 x1.2
def p_Mod_expression_256  (c22 : Int → Int → q_F → q_F → Option (q_F × q_F)) (c120 : Int → Int → q_F → q_F → Option (q_F × q_F)) (v1 : Int) (v4 : Int) (f g : q_F) : Option (q_F × q_F) :=
  if 0 ≤ v1 ∧ v1 < 6 then
    if q_sw (f 74 (Int.toNat v1)) = q_sw 40 then
      p_Mod_expression_275  c22 c120 (v1) (v4) (41) f g
    else
      p_Mod_expression_275  c22 c120 (v1) (v4) (93) f g
  else none
def p_Mod_expression_246  (c22 : Int → Int → q_F → q_F → Option (q_F × q_F)) (c120 : Int → Int → q_F → q_F → Option (q_F × q_F)) (v1 : Int) (v4 : Int) (s0 : Int) (f g : q_F) : Option (q_F × q_F) :=
  (p_Mod_emit (7) (s0) f g).bind fun x1 =>
  p_Mod_expression_256  c22 c120 (v1) (v4) x1.1 x1.2
def p_Mod_expression_204  (c22 : Int → Int → q_F → q_F → Option (q_F × q_F)) (c120 : Int → Int → q_F → q_F → Option (q_F × q_F)) (v1 : Int) (s0 : Int) (f g : q_F) : Option (q_F × q_F) :=
  if q_sw s0 = 0 then
    c120 (v1) (s0) f g
  else
    q_let (v1 + (-1)) fun z2 =>
    if 0 ≤ z2 ∧ z2 < 6 then
      if q_sw (f 74 (Int.toNat z2)) = q_sw 91 then
        (p_Mod_take (44) f g).bind fun x5 =>
        if q_sw (x5.1 60 9) = 0 then
          (p_Mod_alignment  x5.1 x5.2).bind fun x8 =>
          p_Mod_expression_246  c22 c120 (z2) (s0) (x8.1) x8.2.1 x8.2.2
        else
          p_Mod_expression_246  c22 c120 (z2) (s0) (0) x5.1 x5.2
      else
        p_Mod_expression_256  c22 c120 (z2) (s0) f g
    else none
def p_Mod_expression_203  (c22 : Int → Int → q_F → q_F → Option (q_F × q_F)) (c120 : Int → Int → q_F → q_F → Option (q_F × q_F)) (v1 : Int) (f g : q_F) : Option (q_F × q_F) :=
  p_Mod_expression_204  c22 c120 (v1) (0) f g
def p_Mod_expression_185  (c22 : Int → Int → q_F → q_F → Option (q_F × q_F)) (c120 : Int → Int → q_F → q_F → Option (q_F × q_F)) (v1 : Int) (s0 : Int) (s1 : Int) (f g : q_F) : Option (q_F × q_F) :=
  if 0 ≤ s1 ∧ s1 < 6 then
    q_let (ma_up f 73 (Int.toNat s1) s0) fun f2 =>
    if 0 ≤ v1 ∧ v1 < 6 then
      if q_sw (f2 73 (Int.toNat v1)) = 0 then
        if q_sw v1 ≤ 0 then
          p_Mod_expression_203  c22 c120 (v1) f2 g
        else
          p_Mod_expression_204  c22 c120 (v1) (1) f2 g
      else
        p_Mod_expression_203  c22 c120 (v1) f2 g
    else none
  else none
def p_Mod_expression_152  (c22 : Int → Int → q_F → q_F → Option (q_F × q_F)) (c120 : Int → Int → q_F → q_F → Option (q_F × q_F)) (v1 : Int) (f g : q_F) : Option (q_F × q_F) :=
  (p_Mod_takes (43) f g).bind fun x1 =>
  if q_sw x1.1 = 0 then
    (p_Mod_takes (45) x1.2.1 x1.2.2).bind fun x4 =>
    if q_sw x4.1 = 0 then
      p_Mod_expression_185  c22 c120 (v1) (0) (v1) x4.2.1 x4.2.2
    else
      p_Mod_expression_185  c22 c120 (v1) (6) (v1) x4.2.1 x4.2.2
  else
    p_Mod_expression_185  c22 c120 (v1) (5) (v1) x1.2.1 x1.2.2
def p_Mod_expression_120  (c22 : Int → Int → q_F → q_F → Option (q_F × q_F)) : Nat → Int → Int → q_F → q_F → Option (q_F × q_F)
  | 0, _, _, _, _ => none
  | n + 1, v1, v4, f, g =>
    if q_sw v4 = 0 then
      p_Mod_expression_281  c22 (v1) f g
    else
      if q_sw (f 60 9) = 0 then
        if 0 ≤ v1 ∧ v1 < 6 then
          if q_sw (f 73 (Int.toNat v1)) ≤ 0 then
            p_Mod_expression_152  c22 (p_Mod_expression_120  c22 n) (v1) f g
          else
            if 0 ≤ v1 ∧ v1 < 6 then
              (p_Mod_emit (f 73 (Int.toNat v1)) (0) f g).bind fun x6 =>
              p_Mod_expression_152  c22 (p_Mod_expression_120  c22 n) (v1) x6.1 x6.2
            else none
        else none
      else
        p_Mod_expression_281  c22 (v1) f g
def p_Mod_expression_117  (c22 : Int → Int → q_F → q_F → Option (q_F × q_F)) (v1 : Int) (f g : q_F) : Option (q_F × q_F) :=
  p_Mod_expression_120  c22 1000 (v1) (1) f g
def p_Mod_expression_106  (c22 : Int → Int → q_F → q_F → Option (q_F × q_F)) (v1 : Int) (f g : q_F) : Option (q_F × q_F) :=
  if q_sw (f 60 9) = 0 then
    (p_Mod_simple  f g).bind fun x2 =>
    p_Mod_expression_117  c22 (v1) x2.1 x2.2
  else
    p_Mod_expression_117  c22 (v1) f g
def p_Mod_expression_98  (c22 : Int → Int → q_F → q_F → Option (q_F × q_F)) (c31 : Int → Int → q_F → q_F → Option (q_F × q_F)) (v1 : Int) (f g : q_F) : Option (q_F × q_F) :=
  (p_Mod_see  f g).bind fun x1 =>
  c31 (v1) (x1.1) x1.2.1 x1.2.2
def p_Mod_expression_61  (c22 : Int → Int → q_F → q_F → Option (q_F × q_F)) (c31 : Int → Int → q_F → q_F → Option (q_F × q_F)) (v1 : Int) (v3 : Int) (s0 : Int) (f g : q_F) : Option (q_F × q_F) :=
  if s0 = 0 ∨ s0 = 1 then
    q_let (ma_up f 60 9 s0) fun f2 =>
    if q_sw (f2 60 9) = 0 then
      if 0 ≤ v1 ∧ v1 < 6 then
        q_let (ma_up f2 74 (Int.toNat v1) v3) fun f5 =>
        q_let (ma_up f5 60 8 ((f5 60 8) + 1)) fun f6 =>
        q_let (v1 + 1) fun z7 =>
        if 0 ≤ z7 ∧ z7 < 6 then
          q_let (ma_up f6 73 (Int.toNat z7) 0) fun f9 =>
          p_Mod_expression_98  c22 c31 (z7) f9 g
        else none
      else none
    else
      p_Mod_expression_98  c22 c31 (v1) f2 g
  else none
def p_Mod_expression_50  (c22 : Int → Int → q_F → q_F → Option (q_F × q_F)) (c31 : Int → Int → q_F → q_F → Option (q_F × q_F)) (v1 : Int) (v3 : Int) (f g : q_F) : Option (q_F × q_F) :=
  if q_sw v1 = q_sw 5 then
    p_Mod_expression_61  c22 c31 (v1) (v3) (1) f g
  else
    p_Mod_expression_61  c22 c31 (v1) (v3) (0) f g
def p_Mod_expression_31  (c22 : Int → Int → q_F → q_F → Option (q_F × q_F)) : Nat → Int → Int → q_F → q_F → Option (q_F × q_F)
  | 0, _, _, _, _ => none
  | n + 1, v1, v3, f, g =>
    if q_sw (f 60 9) = 0 then
      if q_sw v3 = q_sw 40 then
        p_Mod_expression_50  c22 (p_Mod_expression_31  c22 n) (v1) (v3) f g
      else
        if q_sw v3 = q_sw 91 then
          p_Mod_expression_50  c22 (p_Mod_expression_31  c22 n) (v1) (v3) f g
        else
          p_Mod_expression_106  c22 (v1) f g
    else
      p_Mod_expression_106  c22 (v1) f g
def p_Mod_expression_22   : Nat → Int → Int → q_F → q_F → Option (q_F × q_F)
  | 0, _, _, _, _ => none
  | n + 1, v1, v2, f, g =>
    if q_sw v2 = 0 then
      some (f, g)
    else
      (p_Mod_see  f g).bind fun x2 =>
      p_Mod_expression_31  (p_Mod_expression_22   n) 1000 (v1) (x2.1) x2.2.1 x2.2.2
def p_Mod_expression_21   (v1 : Int) (s0 : Int) (f g : q_F) : Option (q_F × q_F) :=
  p_Mod_expression_22   1000 (v1) (s0) f g
def p_Mod_expression   (f g : q_F) : Option (q_F × q_F) :=
  q_let (ma_up f 73 (Int.toNat 0) 0) fun f1 =>
  if q_sw (f1 60 9) = 0 then
    p_Mod_expression_21   (0) (1) f1 g
  else
    p_Mod_expression_21   (0) (0) f1 g
theorem e_Mod_expression_302 (t : q_V) (ok : ma_ok (q_G t))  {Q : Option Value → ma_H → Prop} {y : q_F × q_F} (hQ : Q (none) (q_h y.1 y.2)) (c22 : Int → Int → q_F → q_F → Option (q_F × q_F)) (hc22 : ∀ (v1 : Int) (v2 : Int) (f g : q_F), c22 v1 v2 f g = some y → ma_Ev (q_G t) 3 67 0 0 m_Mod_expression 22 [(0, q_a t (60)), (1, ma_i (v1)), (2, ma_i (v2))] [] (q_h f g) (ma_zr (q_G t) false Q)) (v1 : Int) (s0 : Int) (f g : q_F) (hp : p_Mod_expression_302  c22 v1 s0 f g = some y) : ma_Ev (q_G t) 3 67 0 0 m_Mod_expression 302 [(0, q_a t (60)), (1, ma_i (v1))] [ma_i (s0)] (q_h f g) (ma_zr (q_G t) false Q) := by
  unfold p_Mod_expression_302 at hp
  refine ev_istore_n (pc := 302) d_Mod_expression_302 rfl (by decide) [(2, _), (0, _), (1, _)] rfl ?_
  refine ev_goto (pc := 303) (tgt := 22) d_Mod_expression_303 (by decide) ?_
  refine ev_sub (ls2 := [(0, q_a t (60)), (1, ma_i (v1)), (2, ma_i (s0))]) [1, 2, 0] rfl ?_
  exact hc22 (v1) (s0) f g hp
theorem e_Mod_expression_301 (t : q_V) (ok : ma_ok (q_G t))  {Q : Option Value → ma_H → Prop} {y : q_F × q_F} (hQ : Q (none) (q_h y.1 y.2)) (c22 : Int → Int → q_F → q_F → Option (q_F × q_F)) (hc22 : ∀ (v1 : Int) (v2 : Int) (f g : q_F), c22 v1 v2 f g = some y → ma_Ev (q_G t) 3 67 0 0 m_Mod_expression 22 [(0, q_a t (60)), (1, ma_i (v1)), (2, ma_i (v2))] [] (q_h f g) (ma_zr (q_G t) false Q)) (v1 : Int) (f g : q_F) (hp : p_Mod_expression_301  c22 v1 f g = some y) : ma_Ev (q_G t) 3 67 0 0 m_Mod_expression 301 [(0, q_a t (60)), (1, ma_i (v1))] [] (q_h f g) (ma_zr (q_G t) false Q) := by
  unfold p_Mod_expression_301 at hp
  refine ev_iconst (pc := 301) d_Mod_expression_301 ?_
  refine ev_sub (ls2 := [(0, q_a t (60)), (1, ma_i (v1))]) [0, 1] rfl ?_
  exact e_Mod_expression_302 t ok  hQ c22 hc22 (v1) (0) f g hp
theorem e_Mod_expression_281 (t : q_V) (ok : ma_ok (q_G t))  {Q : Option Value → ma_H → Prop} {y : q_F × q_F} (hQ : Q (none) (q_h y.1 y.2)) (c22 : Int → Int → q_F → q_F → Option (q_F × q_F)) (hc22 : ∀ (v1 : Int) (v2 : Int) (f g : q_F), c22 v1 v2 f g = some y → ma_Ev (q_G t) 3 67 0 0 m_Mod_expression 22 [(0, q_a t (60)), (1, ma_i (v1)), (2, ma_i (v2))] [] (q_h f g) (ma_zr (q_G t) false Q)) (v1 : Int) (f g : q_F) (hp : p_Mod_expression_281  c22 v1 f g = some y) : ma_Ev (q_G t) 3 67 0 0 m_Mod_expression 281 [(0, q_a t (60)), (1, ma_i (v1))] [] (q_h f g) (ma_zr (q_G t) false Q) := by
  unfold p_Mod_expression_281 at hp
  refine et_aload_n (pc := 281) d_Mod_expression_281 rfl rfl ?_
  refine et_geti (pc := 282) ok (fl_Mod_147 t) rfl d_Mod_expression_282 s_60 ?_
  refine et_if_ne (pc := 285) (tgt := 301) d_Mod_expression_285 (by decide) (fun hj1 => ?_) (fun hj1 => ?_)
  · rw [if_neg hj1] at hp
    refine ev_sub (ls2 := [(0, q_a t (60)), (1, ma_i (v1))]) [0, 1] rfl ?_
    exact e_Mod_expression_301 t ok  hQ c22 hc22 (v1) f g hp
  · rw [if_pos hj1] at hp
    refine et_aload_n (pc := 288) d_Mod_expression_288 rfl rfl ?_
    refine et_getr (pc := 289) ok (fl_Mod_52 t) rfl d_Mod_expression_289 s_60 r_60_18 ?_
    refine ev_iload_n (pc := 292) d_Mod_expression_292 rfl rfl ?_
    replace hp := q_if hp
    obtain ⟨hb2, hp⟩ := hp
    refine et_iald (pc := 293) d_Mod_expression_293 s_73 hb2 (by decide) ?_
    refine et_if_le (pc := 294) (tgt := 301) d_Mod_expression_294 (by decide) (fun hj3 => ?_) (fun hj3 => ?_)
    · rw [if_pos hj3] at hp
      refine ev_sub (ls2 := [(0, q_a t (60)), (1, ma_i (v1))]) [0, 1] rfl ?_
      exact e_Mod_expression_301 t ok  hQ c22 hc22 (v1) f g hp
    · rw [if_neg hj3] at hp
      refine ev_iconst (pc := 297) d_Mod_expression_297 ?_
      refine ev_goto (pc := 298) (tgt := 302) d_Mod_expression_298 (by decide) ?_
      refine ev_sub (ls2 := [(0, q_a t (60)), (1, ma_i (v1))]) [0, 1] rfl ?_
      exact e_Mod_expression_302 t ok  hQ c22 hc22 (v1) (1) f g hp
theorem e_Mod_expression_275 (t : q_V) (ok : ma_ok (q_G t))  {Q : Option Value → ma_H → Prop} {y : q_F × q_F} (hQ : Q (none) (q_h y.1 y.2)) (c22 : Int → Int → q_F → q_F → Option (q_F × q_F)) (c120 : Int → Int → q_F → q_F → Option (q_F × q_F)) (hc22 : ∀ (v1 : Int) (v2 : Int) (f g : q_F), c22 v1 v2 f g = some y → ma_Ev (q_G t) 3 67 0 0 m_Mod_expression 22 [(0, q_a t (60)), (1, ma_i (v1)), (2, ma_i (v2))] [] (q_h f g) (ma_zr (q_G t) false Q)) (hc120 : ∀ (v1 : Int) (v4 : Int) (f g : q_F), c120 v1 v4 f g = some y → ma_Ev (q_G t) 3 67 0 0 m_Mod_expression 120 [(0, q_a t (60)), (1, ma_i (v1)), (4, ma_i (v4))] [] (q_h f g) (ma_zr (q_G t) false Q)) (v1 : Int) (v4 : Int) (s0 : Int) (f g : q_F) (hp : p_Mod_expression_275  c22 c120 v1 v4 s0 f g = some y) : ma_Ev (q_G t) 3 67 0 0 m_Mod_expression 275 [(0, q_a t (60)), (1, ma_i (v1)), (4, ma_i (v4))] [ma_i (s0), q_a t (60)] (q_h f g) (ma_zr (q_G t) false Q) := by
  unfold p_Mod_expression_275 at hp
  replace hp := q_bind hp
  obtain ⟨x1, hm2, hp⟩ := hp
  refine et_callVv (pc := 275) (f1 := x1.1) (g1 := x1.2) ok [ma_i (s0)] [] (cf_Mod_175 t) d_Mod_expression_275 s_60 k_12 rfl (t_Mod_take t ok (s0) f g hm2 ⟨rfl, rfl⟩) rfl rfl (by decide) (by decide) (q_ble rfl) ?_
  refine ev_goto (pc := 278) (tgt := 120) d_Mod_expression_278 (by decide) ?_
  refine ev_sub (ls2 := [(0, q_a t (60)), (1, ma_i (v1)), (4, ma_i (v4))]) [0, 1, 2] rfl ?_
  exact hc120 (v1) (v4) x1.1 x1.2 hp
theorem e_Mod_expression_256 (t : q_V) (ok : ma_ok (q_G t))  {Q : Option Value → ma_H → Prop} {y : q_F × q_F} (hQ : Q (none) (q_h y.1 y.2)) (c22 : Int → Int → q_F → q_F → Option (q_F × q_F)) (c120 : Int → Int → q_F → q_F → Option (q_F × q_F)) (hc22 : ∀ (v1 : Int) (v2 : Int) (f g : q_F), c22 v1 v2 f g = some y → ma_Ev (q_G t) 3 67 0 0 m_Mod_expression 22 [(0, q_a t (60)), (1, ma_i (v1)), (2, ma_i (v2))] [] (q_h f g) (ma_zr (q_G t) false Q)) (hc120 : ∀ (v1 : Int) (v4 : Int) (f g : q_F), c120 v1 v4 f g = some y → ma_Ev (q_G t) 3 67 0 0 m_Mod_expression 120 [(0, q_a t (60)), (1, ma_i (v1)), (4, ma_i (v4))] [] (q_h f g) (ma_zr (q_G t) false Q)) (v1 : Int) (v4 : Int) (f g : q_F) (hp : p_Mod_expression_256  c22 c120 v1 v4 f g = some y) : ma_Ev (q_G t) 3 67 0 0 m_Mod_expression 256 [(0, q_a t (60)), (1, ma_i (v1)), (4, ma_i (v4))] [] (q_h f g) (ma_zr (q_G t) false Q) := by
  unfold p_Mod_expression_256 at hp
  refine et_aload_n (pc := 256) d_Mod_expression_256 rfl rfl ?_
  refine et_aload_n (pc := 257) d_Mod_expression_257 rfl rfl ?_
  refine et_getr (pc := 258) ok (fl_Mod_55 t) rfl d_Mod_expression_258 s_60 r_60_19 ?_
  refine ev_iload_n (pc := 261) d_Mod_expression_261 rfl rfl ?_
  replace hp := q_if hp
  obtain ⟨hb1, hp⟩ := hp
  refine et_iald (pc := 262) d_Mod_expression_262 s_74 hb1 (by decide) ?_
  refine ev_bipush (pc := 263) d_Mod_expression_263 rfl ?_
  refine et_icmp_ne (pc := 265) (tgt := 273) d_Mod_expression_265 (by decide) (fun hj2 => ?_) (fun hj2 => ?_)
  · rw [if_neg hj2] at hp
    refine ev_bipush (pc := 273) d_Mod_expression_273 rfl ?_
    refine ev_sub (ls2 := [(0, q_a t (60)), (1, ma_i (v1)), (4, ma_i (v4))]) [0, 1, 2] rfl ?_
    exact e_Mod_expression_275 t ok  hQ c22 c120 hc22 hc120 (v1) (v4) (93) f g hp
  · rw [if_pos hj2] at hp
    refine ev_bipush (pc := 268) d_Mod_expression_268 rfl ?_
    refine ev_goto (pc := 270) (tgt := 275) d_Mod_expression_270 (by decide) ?_
    refine ev_sub (ls2 := [(0, q_a t (60)), (1, ma_i (v1)), (4, ma_i (v4))]) [0, 1, 2] rfl ?_
    exact e_Mod_expression_275 t ok  hQ c22 c120 hc22 hc120 (v1) (v4) (41) f g hp
theorem e_Mod_expression_246 (t : q_V) (ok : ma_ok (q_G t))  {Q : Option Value → ma_H → Prop} {y : q_F × q_F} (hQ : Q (none) (q_h y.1 y.2)) (c22 : Int → Int → q_F → q_F → Option (q_F × q_F)) (c120 : Int → Int → q_F → q_F → Option (q_F × q_F)) (hc22 : ∀ (v1 : Int) (v2 : Int) (f g : q_F), c22 v1 v2 f g = some y → ma_Ev (q_G t) 3 67 0 0 m_Mod_expression 22 [(0, q_a t (60)), (1, ma_i (v1)), (2, ma_i (v2))] [] (q_h f g) (ma_zr (q_G t) false Q)) (hc120 : ∀ (v1 : Int) (v4 : Int) (f g : q_F), c120 v1 v4 f g = some y → ma_Ev (q_G t) 3 67 0 0 m_Mod_expression 120 [(0, q_a t (60)), (1, ma_i (v1)), (4, ma_i (v4))] [] (q_h f g) (ma_zr (q_G t) false Q)) (v1 : Int) (v4 : Int) (s0 : Int) (f g : q_F) (hp : p_Mod_expression_246  c22 c120 v1 v4 s0 f g = some y) : ma_Ev (q_G t) 3 67 0 0 m_Mod_expression 246 [(0, q_a t (60)), (1, ma_i (v1)), (4, ma_i (v4))] [ma_i (s0)] (q_h f g) (ma_zr (q_G t) false Q) := by
  unfold p_Mod_expression_246 at hp
  refine ev_istore (pc := 246) d_Mod_expression_246 (by decide) [(5, _), (0, _), (1, _), (4, _)] rfl ?_
  refine et_aload_n (pc := 248) d_Mod_expression_248 rfl rfl ?_
  refine ev_bipush (pc := 249) d_Mod_expression_249 rfl ?_
  refine ev_iload (pc := 251) d_Mod_expression_251 rfl ?_
  replace hp := q_bind hp
  obtain ⟨x1, hm2, hp⟩ := hp
  refine et_callVv (pc := 253) (f1 := x1.1) (g1 := x1.2) ok [ma_i (7), ma_i (s0)] [] (cf_Mod_164 t) d_Mod_expression_253 s_60 k_12 rfl (t_Mod_emit t ok (7) (s0) f g hm2 ⟨rfl, rfl⟩) rfl rfl (by decide) (by decide) (q_ble rfl) ?_
  refine ev_sub (ls2 := [(0, q_a t (60)), (1, ma_i (v1)), (4, ma_i (v4))]) [1, 2, 3] rfl ?_
  exact e_Mod_expression_256 t ok  hQ c22 c120 hc22 hc120 (v1) (v4) x1.1 x1.2 hp
theorem e_Mod_expression_204 (t : q_V) (ok : ma_ok (q_G t))  {Q : Option Value → ma_H → Prop} {y : q_F × q_F} (hQ : Q (none) (q_h y.1 y.2)) (c22 : Int → Int → q_F → q_F → Option (q_F × q_F)) (c120 : Int → Int → q_F → q_F → Option (q_F × q_F)) (hc22 : ∀ (v1 : Int) (v2 : Int) (f g : q_F), c22 v1 v2 f g = some y → ma_Ev (q_G t) 3 67 0 0 m_Mod_expression 22 [(0, q_a t (60)), (1, ma_i (v1)), (2, ma_i (v2))] [] (q_h f g) (ma_zr (q_G t) false Q)) (hc120 : ∀ (v1 : Int) (v4 : Int) (f g : q_F), c120 v1 v4 f g = some y → ma_Ev (q_G t) 3 67 0 0 m_Mod_expression 120 [(0, q_a t (60)), (1, ma_i (v1)), (4, ma_i (v4))] [] (q_h f g) (ma_zr (q_G t) false Q)) (v1 : Int) (s0 : Int) (f g : q_F) (hp : p_Mod_expression_204  c22 c120 v1 s0 f g = some y) : ma_Ev (q_G t) 3 67 0 0 m_Mod_expression 204 [(0, q_a t (60)), (1, ma_i (v1))] [ma_i (s0)] (q_h f g) (ma_zr (q_G t) false Q) := by
  unfold p_Mod_expression_204 at hp
  refine ev_istore (pc := 204) d_Mod_expression_204 (by decide) [(4, _), (0, _), (1, _)] rfl ?_
  refine ev_iload (pc := 206) d_Mod_expression_206 rfl ?_
  refine et_if_eq (pc := 208) (tgt := 120) d_Mod_expression_208 (by decide) (fun hj1 => ?_) (fun hj1 => ?_)
  · rw [if_pos hj1] at hp
    refine ev_sub (ls2 := [(0, q_a t (60)), (1, ma_i (v1)), (4, ma_i (s0))]) [1, 2, 0] rfl ?_
    exact hc120 (v1) (s0) f g hp
  · rw [if_neg hj1] at hp
    refine ev_iinc (pc := 211) d_Mod_expression_211 (by decide) rfl [(1, _), (4, _), (0, _)] rfl ?_
    replace hp := q_let_of hp
    obtain ⟨z2, hz, hp⟩ := hp
    rw [← hz]
    clear hz
    refine et_aload_n (pc := 214) d_Mod_expression_214 rfl rfl ?_
    refine et_getr (pc := 215) ok (fl_Mod_55 t) rfl d_Mod_expression_215 s_60 r_60_19 ?_
    refine ev_iload_n (pc := 218) d_Mod_expression_218 rfl rfl ?_
    replace hp := q_if hp
    obtain ⟨hb3, hp⟩ := hp
    refine et_iald (pc := 219) d_Mod_expression_219 s_74 hb3 (by decide) ?_
    refine ev_bipush (pc := 220) d_Mod_expression_220 rfl ?_
    refine et_icmp_ne (pc := 222) (tgt := 256) d_Mod_expression_222 (by decide) (fun hj4 => ?_) (fun hj4 => ?_)
    · rw [if_neg hj4] at hp
      refine ev_sub (ls2 := [(0, q_a t (60)), (1, ma_i (z2)), (4, ma_i (s0))]) [2, 0, 1] rfl ?_
      exact e_Mod_expression_256 t ok  hQ c22 c120 hc22 hc120 (z2) (s0) f g hp
    · rw [if_pos hj4] at hp
      refine et_aload_n (pc := 225) d_Mod_expression_225 rfl rfl ?_
      refine ev_bipush (pc := 226) d_Mod_expression_226 rfl ?_
      replace hp := q_bind hp
      obtain ⟨x5, hm6, hp⟩ := hp
      refine et_callVv (pc := 228) (f1 := x5.1) (g1 := x5.2) ok [ma_i (44)] [] (cf_Mod_175 t) d_Mod_expression_228 s_60 k_12 rfl (t_Mod_take t ok (44) f g hm6 ⟨rfl, rfl⟩) rfl rfl (by decide) (by decide) (q_ble rfl) ?_
      refine et_aload_n (pc := 231) d_Mod_expression_231 rfl rfl ?_
      refine et_geti (pc := 232) ok (fl_Mod_147 t) rfl d_Mod_expression_232 s_60 ?_
      refine et_if_eq (pc := 235) (tgt := 242) d_Mod_expression_235 (by decide) (fun hj7 => ?_) (fun hj7 => ?_)
      · rw [if_pos hj7] at hp
        refine et_aload_n (pc := 242) d_Mod_expression_242 rfl rfl ?_
        replace hp := q_bind hp
        obtain ⟨x8, hm9, hp⟩ := hp
        refine et_callVi (pc := 243) (f1 := x8.2.1) (g1 := x8.2.2) ok [] [] (cf_Mod_179 t) d_Mod_expression_243 s_60 k_12 rfl (t_Mod_alignment t ok  x5.1 x5.2 hm9 ⟨rfl, rfl⟩) rfl rfl (by decide) (by decide) (q_ble rfl) ?_
        refine ev_sub (ls2 := [(0, q_a t (60)), (1, ma_i (z2)), (4, ma_i (s0))]) [2, 0, 1] rfl ?_
        exact e_Mod_expression_246 t ok  hQ c22 c120 hc22 hc120 (z2) (s0) (x8.1) x8.2.1 x8.2.2 hp
      · rw [if_neg hj7] at hp
        refine ev_iconst (pc := 238) d_Mod_expression_238 ?_
        refine ev_goto (pc := 239) (tgt := 246) d_Mod_expression_239 (by decide) ?_
        refine ev_sub (ls2 := [(0, q_a t (60)), (1, ma_i (z2)), (4, ma_i (s0))]) [2, 0, 1] rfl ?_
        exact e_Mod_expression_246 t ok  hQ c22 c120 hc22 hc120 (z2) (s0) (0) x5.1 x5.2 hp
theorem e_Mod_expression_203 (t : q_V) (ok : ma_ok (q_G t))  {Q : Option Value → ma_H → Prop} {y : q_F × q_F} (hQ : Q (none) (q_h y.1 y.2)) (c22 : Int → Int → q_F → q_F → Option (q_F × q_F)) (c120 : Int → Int → q_F → q_F → Option (q_F × q_F)) (hc22 : ∀ (v1 : Int) (v2 : Int) (f g : q_F), c22 v1 v2 f g = some y → ma_Ev (q_G t) 3 67 0 0 m_Mod_expression 22 [(0, q_a t (60)), (1, ma_i (v1)), (2, ma_i (v2))] [] (q_h f g) (ma_zr (q_G t) false Q)) (hc120 : ∀ (v1 : Int) (v4 : Int) (f g : q_F), c120 v1 v4 f g = some y → ma_Ev (q_G t) 3 67 0 0 m_Mod_expression 120 [(0, q_a t (60)), (1, ma_i (v1)), (4, ma_i (v4))] [] (q_h f g) (ma_zr (q_G t) false Q)) (v1 : Int) (f g : q_F) (hp : p_Mod_expression_203  c22 c120 v1 f g = some y) : ma_Ev (q_G t) 3 67 0 0 m_Mod_expression 203 [(0, q_a t (60)), (1, ma_i (v1))] [] (q_h f g) (ma_zr (q_G t) false Q) := by
  unfold p_Mod_expression_203 at hp
  refine ev_iconst (pc := 203) d_Mod_expression_203 ?_
  refine ev_sub (ls2 := [(0, q_a t (60)), (1, ma_i (v1))]) [0, 1] rfl ?_
  exact e_Mod_expression_204 t ok  hQ c22 c120 hc22 hc120 (v1) (0) f g hp
theorem e_Mod_expression_185 (t : q_V) (ok : ma_ok (q_G t))  {Q : Option Value → ma_H → Prop} {y : q_F × q_F} (hQ : Q (none) (q_h y.1 y.2)) (c22 : Int → Int → q_F → q_F → Option (q_F × q_F)) (c120 : Int → Int → q_F → q_F → Option (q_F × q_F)) (hc22 : ∀ (v1 : Int) (v2 : Int) (f g : q_F), c22 v1 v2 f g = some y → ma_Ev (q_G t) 3 67 0 0 m_Mod_expression 22 [(0, q_a t (60)), (1, ma_i (v1)), (2, ma_i (v2))] [] (q_h f g) (ma_zr (q_G t) false Q)) (hc120 : ∀ (v1 : Int) (v4 : Int) (f g : q_F), c120 v1 v4 f g = some y → ma_Ev (q_G t) 3 67 0 0 m_Mod_expression 120 [(0, q_a t (60)), (1, ma_i (v1)), (4, ma_i (v4))] [] (q_h f g) (ma_zr (q_G t) false Q)) (v1 : Int) (s0 : Int) (s1 : Int) (f g : q_F) (hp : p_Mod_expression_185  c22 c120 v1 s0 s1 f g = some y) : ma_Ev (q_G t) 3 67 0 0 m_Mod_expression 185 [(0, q_a t (60)), (1, ma_i (v1))] [ma_i (s0), ma_i (s1), q_a t (73)] (q_h f g) (ma_zr (q_G t) false Q) := by
  unfold p_Mod_expression_185 at hp
  replace hp := q_if hp
  obtain ⟨hb1, hp⟩ := hp
  refine et_iast (pc := 185) d_Mod_expression_185 s_73 hb1 (by decide) ?_
  replace hp := q_let_of hp
  obtain ⟨f2, hz, hp⟩ := hp
  rw [← hz]
  clear hz
  refine et_aload_n (pc := 186) d_Mod_expression_186 rfl rfl ?_
  refine et_getr (pc := 187) ok (fl_Mod_52 t) rfl d_Mod_expression_187 s_60 r_60_18 ?_
  refine ev_iload_n (pc := 190) d_Mod_expression_190 rfl rfl ?_
  replace hp := q_if hp
  obtain ⟨hb3, hp⟩ := hp
  refine et_iald (pc := 191) d_Mod_expression_191 s_73 hb3 (by decide) ?_
  refine et_if_ne (pc := 192) (tgt := 203) d_Mod_expression_192 (by decide) (fun hj4 => ?_) (fun hj4 => ?_)
  · rw [if_neg hj4] at hp
    refine ev_sub (ls2 := [(0, q_a t (60)), (1, ma_i (v1))]) [0, 1] rfl ?_
    exact e_Mod_expression_203 t ok  hQ c22 c120 hc22 hc120 (v1) f2 g hp
  · rw [if_pos hj4] at hp
    refine ev_iload_n (pc := 195) d_Mod_expression_195 rfl rfl ?_
    refine et_if_le (pc := 196) (tgt := 203) d_Mod_expression_196 (by decide) (fun hj5 => ?_) (fun hj5 => ?_)
    · rw [if_pos hj5] at hp
      refine ev_sub (ls2 := [(0, q_a t (60)), (1, ma_i (v1))]) [0, 1] rfl ?_
      exact e_Mod_expression_203 t ok  hQ c22 c120 hc22 hc120 (v1) f2 g hp
    · rw [if_neg hj5] at hp
      refine ev_iconst (pc := 199) d_Mod_expression_199 ?_
      refine ev_goto (pc := 200) (tgt := 204) d_Mod_expression_200 (by decide) ?_
      refine ev_sub (ls2 := [(0, q_a t (60)), (1, ma_i (v1))]) [0, 1] rfl ?_
      exact e_Mod_expression_204 t ok  hQ c22 c120 hc22 hc120 (v1) (1) f2 g hp
theorem e_Mod_expression_152 (t : q_V) (ok : ma_ok (q_G t))  {Q : Option Value → ma_H → Prop} {y : q_F × q_F} (hQ : Q (none) (q_h y.1 y.2)) (c22 : Int → Int → q_F → q_F → Option (q_F × q_F)) (c120 : Int → Int → q_F → q_F → Option (q_F × q_F)) (hc22 : ∀ (v1 : Int) (v2 : Int) (f g : q_F), c22 v1 v2 f g = some y → ma_Ev (q_G t) 3 67 0 0 m_Mod_expression 22 [(0, q_a t (60)), (1, ma_i (v1)), (2, ma_i (v2))] [] (q_h f g) (ma_zr (q_G t) false Q)) (hc120 : ∀ (v1 : Int) (v4 : Int) (f g : q_F), c120 v1 v4 f g = some y → ma_Ev (q_G t) 3 67 0 0 m_Mod_expression 120 [(0, q_a t (60)), (1, ma_i (v1)), (4, ma_i (v4))] [] (q_h f g) (ma_zr (q_G t) false Q)) (v1 : Int) (f g : q_F) (hp : p_Mod_expression_152  c22 c120 v1 f g = some y) : ma_Ev (q_G t) 3 67 0 0 m_Mod_expression 152 [(0, q_a t (60)), (1, ma_i (v1))] [] (q_h f g) (ma_zr (q_G t) false Q) := by
  unfold p_Mod_expression_152 at hp
  refine et_aload_n (pc := 152) d_Mod_expression_152 rfl rfl ?_
  refine et_getr (pc := 153) ok (fl_Mod_52 t) rfl d_Mod_expression_153 s_60 r_60_18 ?_
  refine ev_iload_n (pc := 156) d_Mod_expression_156 rfl rfl ?_
  refine et_aload_n (pc := 157) d_Mod_expression_157 rfl rfl ?_
  refine ev_bipush (pc := 158) d_Mod_expression_158 rfl ?_
  replace hp := q_bind hp
  obtain ⟨x1, hm2, hp⟩ := hp
  refine et_callVi (pc := 160) (f1 := x1.2.1) (g1 := x1.2.2) ok [ma_i (43)] [ma_i (v1), q_a t (73)] (cf_Mod_154 t) d_Mod_expression_160 s_60 k_12 rfl (t_Mod_takes t ok (43) f g hm2 ⟨rfl, rfl⟩) rfl rfl (by decide) (by decide) (q_ble rfl) ?_
  refine et_if_eq (pc := 163) (tgt := 170) d_Mod_expression_163 (by decide) (fun hj3 => ?_) (fun hj3 => ?_)
  · rw [if_pos hj3] at hp
    refine et_aload_n (pc := 170) d_Mod_expression_170 rfl rfl ?_
    refine ev_bipush (pc := 171) d_Mod_expression_171 rfl ?_
    replace hp := q_bind hp
    obtain ⟨x4, hm5, hp⟩ := hp
    refine et_callVi (pc := 173) (f1 := x4.2.1) (g1 := x4.2.2) ok [ma_i (45)] [ma_i (v1), q_a t (73)] (cf_Mod_154 t) d_Mod_expression_173 s_60 k_12 rfl (t_Mod_takes t ok (45) x1.2.1 x1.2.2 hm5 ⟨rfl, rfl⟩) rfl rfl (by decide) (by decide) (q_ble rfl) ?_
    refine et_if_eq (pc := 176) (tgt := 184) d_Mod_expression_176 (by decide) (fun hj6 => ?_) (fun hj6 => ?_)
    · rw [if_pos hj6] at hp
      refine ev_iconst (pc := 184) d_Mod_expression_184 ?_
      refine ev_sub (ls2 := [(0, q_a t (60)), (1, ma_i (v1))]) [0, 1] rfl ?_
      exact e_Mod_expression_185 t ok  hQ c22 c120 hc22 hc120 (v1) (0) (v1) x4.2.1 x4.2.2 hp
    · rw [if_neg hj6] at hp
      refine ev_bipush (pc := 179) d_Mod_expression_179 rfl ?_
      refine ev_goto (pc := 181) (tgt := 185) d_Mod_expression_181 (by decide) ?_
      refine ev_sub (ls2 := [(0, q_a t (60)), (1, ma_i (v1))]) [0, 1] rfl ?_
      exact e_Mod_expression_185 t ok  hQ c22 c120 hc22 hc120 (v1) (6) (v1) x4.2.1 x4.2.2 hp
  · rw [if_neg hj3] at hp
    refine ev_iconst (pc := 166) d_Mod_expression_166 ?_
    refine ev_goto (pc := 167) (tgt := 185) d_Mod_expression_167 (by decide) ?_
    refine ev_sub (ls2 := [(0, q_a t (60)), (1, ma_i (v1))]) [0, 1] rfl ?_
    exact e_Mod_expression_185 t ok  hQ c22 c120 hc22 hc120 (v1) (5) (v1) x1.2.1 x1.2.2 hp
theorem e_Mod_expression_120 (t : q_V) (ok : ma_ok (q_G t))  {Q : Option Value → ma_H → Prop} {y : q_F × q_F} (hQ : Q (none) (q_h y.1 y.2)) (c22 : Int → Int → q_F → q_F → Option (q_F × q_F)) (hc22 : ∀ (v1 : Int) (v2 : Int) (f g : q_F), c22 v1 v2 f g = some y → ma_Ev (q_G t) 3 67 0 0 m_Mod_expression 22 [(0, q_a t (60)), (1, ma_i (v1)), (2, ma_i (v2))] [] (q_h f g) (ma_zr (q_G t) false Q)) : ∀ (n : Nat) (v1 : Int) (v4 : Int) (f g : q_F), p_Mod_expression_120  c22 n v1 v4 f g = some y → ma_Ev (q_G t) 3 67 0 0 m_Mod_expression 120 [(0, q_a t (60)), (1, ma_i (v1)), (4, ma_i (v4))] [] (q_h f g) (ma_zr (q_G t) false Q) := by
  intro n
  induction n with
  | zero =>
    intro v1 v4 f g hp
    rw [p_Mod_expression_120] at hp
    cases hp
  | succ n ih =>
    intro v1 v4 f g hp
    rw [p_Mod_expression_120] at hp
    refine ev_iload (pc := 120) d_Mod_expression_120 rfl ?_
    refine et_if_eq (pc := 122) (tgt := 281) d_Mod_expression_122 (by decide) (fun hj1 => ?_) (fun hj1 => ?_)
    · rw [if_pos hj1] at hp
      refine ev_sub (ls2 := [(0, q_a t (60)), (1, ma_i (v1))]) [0, 1] rfl ?_
      exact e_Mod_expression_281 t ok  hQ c22 hc22 (v1) f g hp
    · rw [if_neg hj1] at hp
      refine et_aload_n (pc := 125) d_Mod_expression_125 rfl rfl ?_
      refine et_geti (pc := 126) ok (fl_Mod_147 t) rfl d_Mod_expression_126 s_60 ?_
      refine et_if_ne (pc := 129) (tgt := 281) d_Mod_expression_129 (by decide) (fun hj2 => ?_) (fun hj2 => ?_)
      · rw [if_neg hj2] at hp
        refine ev_sub (ls2 := [(0, q_a t (60)), (1, ma_i (v1))]) [0, 1] rfl ?_
        exact e_Mod_expression_281 t ok  hQ c22 hc22 (v1) f g hp
      · rw [if_pos hj2] at hp
        refine et_aload_n (pc := 132) d_Mod_expression_132 rfl rfl ?_
        refine et_getr (pc := 133) ok (fl_Mod_52 t) rfl d_Mod_expression_133 s_60 r_60_18 ?_
        refine ev_iload_n (pc := 136) d_Mod_expression_136 rfl rfl ?_
        replace hp := q_if hp
        obtain ⟨hb3, hp⟩ := hp
        refine et_iald (pc := 137) d_Mod_expression_137 s_73 hb3 (by decide) ?_
        refine et_if_le (pc := 138) (tgt := 152) d_Mod_expression_138 (by decide) (fun hj4 => ?_) (fun hj4 => ?_)
        · rw [if_pos hj4] at hp
          refine ev_sub (ls2 := [(0, q_a t (60)), (1, ma_i (v1))]) [0, 1] rfl ?_
          exact e_Mod_expression_152 t ok  hQ c22 (p_Mod_expression_120  c22 n) hc22 ih (v1) f g hp
        · rw [if_neg hj4] at hp
          refine et_aload_n (pc := 141) d_Mod_expression_141 rfl rfl ?_
          refine et_aload_n (pc := 142) d_Mod_expression_142 rfl rfl ?_
          refine et_getr (pc := 143) ok (fl_Mod_52 t) rfl d_Mod_expression_143 s_60 r_60_18 ?_
          refine ev_iload_n (pc := 146) d_Mod_expression_146 rfl rfl ?_
          replace hp := q_if hp
          obtain ⟨hb5, hp⟩ := hp
          refine et_iald (pc := 147) d_Mod_expression_147 s_73 hb5 (by decide) ?_
          refine ev_iconst (pc := 148) d_Mod_expression_148 ?_
          replace hp := q_bind hp
          obtain ⟨x6, hm7, hp⟩ := hp
          refine et_callVv (pc := 149) (f1 := x6.1) (g1 := x6.2) ok [ma_i (f 73 (Int.toNat v1)), ma_i (0)] [] (cf_Mod_164 t) d_Mod_expression_149 s_60 k_12 rfl (t_Mod_emit t ok (f 73 (Int.toNat v1)) (0) f g hm7 ⟨rfl, rfl⟩) rfl rfl (by decide) (by decide) (q_ble rfl) ?_
          refine ev_sub (ls2 := [(0, q_a t (60)), (1, ma_i (v1))]) [0, 1] rfl ?_
          exact e_Mod_expression_152 t ok  hQ c22 (p_Mod_expression_120  c22 n) hc22 ih (v1) x6.1 x6.2 hp
theorem e_Mod_expression_117 (t : q_V) (ok : ma_ok (q_G t))  {Q : Option Value → ma_H → Prop} {y : q_F × q_F} (hQ : Q (none) (q_h y.1 y.2)) (c22 : Int → Int → q_F → q_F → Option (q_F × q_F)) (hc22 : ∀ (v1 : Int) (v2 : Int) (f g : q_F), c22 v1 v2 f g = some y → ma_Ev (q_G t) 3 67 0 0 m_Mod_expression 22 [(0, q_a t (60)), (1, ma_i (v1)), (2, ma_i (v2))] [] (q_h f g) (ma_zr (q_G t) false Q)) (v1 : Int) (f g : q_F) (hp : p_Mod_expression_117  c22 v1 f g = some y) : ma_Ev (q_G t) 3 67 0 0 m_Mod_expression 117 [(0, q_a t (60)), (1, ma_i (v1))] [] (q_h f g) (ma_zr (q_G t) false Q) := by
  unfold p_Mod_expression_117 at hp
  refine ev_iconst (pc := 117) d_Mod_expression_117 ?_
  refine ev_istore (pc := 118) d_Mod_expression_118 (by decide) [(4, _), (0, _), (1, _)] rfl ?_
  refine ev_sub (ls2 := [(0, q_a t (60)), (1, ma_i (v1)), (4, ma_i (1))]) [1, 2, 0] rfl ?_
  exact e_Mod_expression_120 t ok  hQ c22 hc22 1000 (v1) (1) f g hp
theorem e_Mod_expression_106 (t : q_V) (ok : ma_ok (q_G t))  {Q : Option Value → ma_H → Prop} {y : q_F × q_F} (hQ : Q (none) (q_h y.1 y.2)) (c22 : Int → Int → q_F → q_F → Option (q_F × q_F)) (hc22 : ∀ (v1 : Int) (v2 : Int) (f g : q_F), c22 v1 v2 f g = some y → ma_Ev (q_G t) 3 67 0 0 m_Mod_expression 22 [(0, q_a t (60)), (1, ma_i (v1)), (2, ma_i (v2))] [] (q_h f g) (ma_zr (q_G t) false Q)) (v1 : Int) (f g : q_F) (hp : p_Mod_expression_106  c22 v1 f g = some y) : ma_Ev (q_G t) 3 67 0 0 m_Mod_expression 106 [(0, q_a t (60)), (1, ma_i (v1))] [] (q_h f g) (ma_zr (q_G t) false Q) := by
  unfold p_Mod_expression_106 at hp
  refine et_aload_n (pc := 106) d_Mod_expression_106 rfl rfl ?_
  refine et_geti (pc := 107) ok (fl_Mod_147 t) rfl d_Mod_expression_107 s_60 ?_
  refine et_if_ne (pc := 110) (tgt := 117) d_Mod_expression_110 (by decide) (fun hj1 => ?_) (fun hj1 => ?_)
  · rw [if_neg hj1] at hp
    refine ev_sub (ls2 := [(0, q_a t (60)), (1, ma_i (v1))]) [0, 1] rfl ?_
    exact e_Mod_expression_117 t ok  hQ c22 hc22 (v1) f g hp
  · rw [if_pos hj1] at hp
    refine et_aload_n (pc := 113) d_Mod_expression_113 rfl rfl ?_
    replace hp := q_bind hp
    obtain ⟨x2, hm3, hp⟩ := hp
    refine et_callVv (pc := 114) (f1 := x2.1) (g1 := x2.2) ok [] [] (cf_Mod_172 t) d_Mod_expression_114 s_60 k_12 rfl (t_Mod_simple t ok  f g hm3 ⟨rfl, rfl⟩) rfl rfl (by decide) (by decide) (q_ble rfl) ?_
    refine ev_sub (ls2 := [(0, q_a t (60)), (1, ma_i (v1))]) [0, 1] rfl ?_
    exact e_Mod_expression_117 t ok  hQ c22 hc22 (v1) x2.1 x2.2 hp
theorem e_Mod_expression_98 (t : q_V) (ok : ma_ok (q_G t))  {Q : Option Value → ma_H → Prop} {y : q_F × q_F} (hQ : Q (none) (q_h y.1 y.2)) (c22 : Int → Int → q_F → q_F → Option (q_F × q_F)) (c31 : Int → Int → q_F → q_F → Option (q_F × q_F)) (hc22 : ∀ (v1 : Int) (v2 : Int) (f g : q_F), c22 v1 v2 f g = some y → ma_Ev (q_G t) 3 67 0 0 m_Mod_expression 22 [(0, q_a t (60)), (1, ma_i (v1)), (2, ma_i (v2))] [] (q_h f g) (ma_zr (q_G t) false Q)) (hc31 : ∀ (v1 : Int) (v3 : Int) (f g : q_F), c31 v1 v3 f g = some y → ma_Ev (q_G t) 3 67 0 0 m_Mod_expression 31 [(0, q_a t (60)), (1, ma_i (v1)), (3, ma_i (v3))] [] (q_h f g) (ma_zr (q_G t) false Q)) (v1 : Int) (f g : q_F) (hp : p_Mod_expression_98  c22 c31 v1 f g = some y) : ma_Ev (q_G t) 3 67 0 0 m_Mod_expression 98 [(0, q_a t (60)), (1, ma_i (v1))] [] (q_h f g) (ma_zr (q_G t) false Q) := by
  unfold p_Mod_expression_98 at hp
  refine et_aload_n (pc := 98) d_Mod_expression_98 rfl rfl ?_
  replace hp := q_bind hp
  obtain ⟨x1, hm2, hp⟩ := hp
  refine et_callVi (pc := 99) (f1 := x1.2.1) (g1 := x1.2.2) ok [] [] (cf_Mod_150 t) d_Mod_expression_99 s_60 k_12 rfl (t_Mod_see t ok  f g hm2 ⟨rfl, rfl⟩) rfl rfl (by decide) (by decide) (q_ble rfl) ?_
  refine ev_istore_n (pc := 102) d_Mod_expression_102 rfl (by decide) [(3, _), (0, _), (1, _)] rfl ?_
  refine ev_goto (pc := 103) (tgt := 31) d_Mod_expression_103 (by decide) ?_
  refine ev_sub (ls2 := [(0, q_a t (60)), (1, ma_i (v1)), (3, ma_i (x1.1))]) [1, 2, 0] rfl ?_
  exact hc31 (v1) (x1.1) x1.2.1 x1.2.2 hp
theorem e_Mod_expression_61 (t : q_V) (ok : ma_ok (q_G t))  {Q : Option Value → ma_H → Prop} {y : q_F × q_F} (hQ : Q (none) (q_h y.1 y.2)) (c22 : Int → Int → q_F → q_F → Option (q_F × q_F)) (c31 : Int → Int → q_F → q_F → Option (q_F × q_F)) (hc22 : ∀ (v1 : Int) (v2 : Int) (f g : q_F), c22 v1 v2 f g = some y → ma_Ev (q_G t) 3 67 0 0 m_Mod_expression 22 [(0, q_a t (60)), (1, ma_i (v1)), (2, ma_i (v2))] [] (q_h f g) (ma_zr (q_G t) false Q)) (hc31 : ∀ (v1 : Int) (v3 : Int) (f g : q_F), c31 v1 v3 f g = some y → ma_Ev (q_G t) 3 67 0 0 m_Mod_expression 31 [(0, q_a t (60)), (1, ma_i (v1)), (3, ma_i (v3))] [] (q_h f g) (ma_zr (q_G t) false Q)) (v1 : Int) (v3 : Int) (s0 : Int) (f g : q_F) (hp : p_Mod_expression_61  c22 c31 v1 v3 s0 f g = some y) : ma_Ev (q_G t) 3 67 0 0 m_Mod_expression 61 [(0, q_a t (60)), (1, ma_i (v1)), (3, ma_i (v3))] [ma_i (s0), q_a t (60)] (q_h f g) (ma_zr (q_G t) false Q) := by
  unfold p_Mod_expression_61 at hp
  replace hp := q_if hp
  obtain ⟨hb1, hp⟩ := hp
  refine et_putz (pc := 61) ok (fl_Mod_147 t) hb1 d_Mod_expression_61 s_60 ?_
  replace hp := q_let_of hp
  obtain ⟨f2, hz, hp⟩ := hp
  rw [← hz]
  clear hz
  refine et_aload_n (pc := 64) d_Mod_expression_64 rfl rfl ?_
  refine et_geti (pc := 65) ok (fl_Mod_147 t) rfl d_Mod_expression_65 s_60 ?_
  refine et_if_ne (pc := 68) (tgt := 98) d_Mod_expression_68 (by decide) (fun hj3 => ?_) (fun hj3 => ?_)
  · rw [if_neg hj3] at hp
    refine ev_sub (ls2 := [(0, q_a t (60)), (1, ma_i (v1))]) [0, 1] rfl ?_
    exact e_Mod_expression_98 t ok  hQ c22 c31 hc22 hc31 (v1) f2 g hp
  · rw [if_pos hj3] at hp
    refine et_aload_n (pc := 71) d_Mod_expression_71 rfl rfl ?_
    refine et_getr (pc := 72) ok (fl_Mod_55 t) rfl d_Mod_expression_72 s_60 r_60_19 ?_
    refine ev_iload_n (pc := 75) d_Mod_expression_75 rfl rfl ?_
    refine ev_iload_n (pc := 76) d_Mod_expression_76 rfl rfl ?_
    replace hp := q_if hp
    obtain ⟨hb4, hp⟩ := hp
    refine et_iast (pc := 77) d_Mod_expression_77 s_74 hb4 (by decide) ?_
    replace hp := q_let_of hp
    obtain ⟨f5, hz, hp⟩ := hp
    rw [← hz]
    clear hz
    refine et_aload_n (pc := 78) d_Mod_expression_78 rfl rfl ?_
    refine ev_dup (pc := 79) d_Mod_expression_79 rfl ?_
    refine et_geti (pc := 80) ok (fl_Mod_144 t) rfl d_Mod_expression_80 s_60 ?_
    refine ev_iconst (pc := 83) d_Mod_expression_83 ?_
    refine ev_iadd (pc := 84) d_Mod_expression_84 ?_
    refine et_puti (pc := 85) ok (fl_Mod_144 t) d_Mod_expression_85 s_60 ?_
    replace hp := q_let_of hp
    obtain ⟨f6, hz, hp⟩ := hp
    rw [← hz]
    clear hz
    refine ev_iinc (pc := 88) d_Mod_expression_88 (by decide) rfl [(1, _), (0, _), (3, _)] rfl ?_
    replace hp := q_let_of hp
    obtain ⟨z7, hz, hp⟩ := hp
    rw [← hz]
    clear hz
    refine et_aload_n (pc := 91) d_Mod_expression_91 rfl rfl ?_
    refine et_getr (pc := 92) ok (fl_Mod_52 t) rfl d_Mod_expression_92 s_60 r_60_18 ?_
    refine ev_iload_n (pc := 95) d_Mod_expression_95 rfl rfl ?_
    refine ev_iconst (pc := 96) d_Mod_expression_96 ?_
    replace hp := q_if hp
    obtain ⟨hb8, hp⟩ := hp
    refine et_iast (pc := 97) d_Mod_expression_97 s_73 hb8 (by decide) ?_
    replace hp := q_let_of hp
    obtain ⟨f9, hz, hp⟩ := hp
    rw [← hz]
    clear hz
    refine ev_sub (ls2 := [(0, q_a t (60)), (1, ma_i (z7))]) [1, 0] rfl ?_
    exact e_Mod_expression_98 t ok  hQ c22 c31 hc22 hc31 (z7) f9 g hp
theorem e_Mod_expression_50 (t : q_V) (ok : ma_ok (q_G t))  {Q : Option Value → ma_H → Prop} {y : q_F × q_F} (hQ : Q (none) (q_h y.1 y.2)) (c22 : Int → Int → q_F → q_F → Option (q_F × q_F)) (c31 : Int → Int → q_F → q_F → Option (q_F × q_F)) (hc22 : ∀ (v1 : Int) (v2 : Int) (f g : q_F), c22 v1 v2 f g = some y → ma_Ev (q_G t) 3 67 0 0 m_Mod_expression 22 [(0, q_a t (60)), (1, ma_i (v1)), (2, ma_i (v2))] [] (q_h f g) (ma_zr (q_G t) false Q)) (hc31 : ∀ (v1 : Int) (v3 : Int) (f g : q_F), c31 v1 v3 f g = some y → ma_Ev (q_G t) 3 67 0 0 m_Mod_expression 31 [(0, q_a t (60)), (1, ma_i (v1)), (3, ma_i (v3))] [] (q_h f g) (ma_zr (q_G t) false Q)) (v1 : Int) (v3 : Int) (f g : q_F) (hp : p_Mod_expression_50  c22 c31 v1 v3 f g = some y) : ma_Ev (q_G t) 3 67 0 0 m_Mod_expression 50 [(0, q_a t (60)), (1, ma_i (v1)), (3, ma_i (v3))] [] (q_h f g) (ma_zr (q_G t) false Q) := by
  unfold p_Mod_expression_50 at hp
  refine et_aload_n (pc := 50) d_Mod_expression_50 rfl rfl ?_
  refine ev_iload_n (pc := 51) d_Mod_expression_51 rfl rfl ?_
  refine ev_iconst (pc := 52) d_Mod_expression_52 ?_
  refine et_icmp_ne (pc := 53) (tgt := 60) d_Mod_expression_53 (by decide) (fun hj1 => ?_) (fun hj1 => ?_)
  · rw [if_neg hj1] at hp
    refine ev_iconst (pc := 60) d_Mod_expression_60 ?_
    refine ev_sub (ls2 := [(0, q_a t (60)), (1, ma_i (v1)), (3, ma_i (v3))]) [0, 1, 2] rfl ?_
    exact e_Mod_expression_61 t ok  hQ c22 c31 hc22 hc31 (v1) (v3) (0) f g hp
  · rw [if_pos hj1] at hp
    refine ev_iconst (pc := 56) d_Mod_expression_56 ?_
    refine ev_goto (pc := 57) (tgt := 61) d_Mod_expression_57 (by decide) ?_
    refine ev_sub (ls2 := [(0, q_a t (60)), (1, ma_i (v1)), (3, ma_i (v3))]) [0, 1, 2] rfl ?_
    exact e_Mod_expression_61 t ok  hQ c22 c31 hc22 hc31 (v1) (v3) (1) f g hp
theorem e_Mod_expression_31 (t : q_V) (ok : ma_ok (q_G t))  {Q : Option Value → ma_H → Prop} {y : q_F × q_F} (hQ : Q (none) (q_h y.1 y.2)) (c22 : Int → Int → q_F → q_F → Option (q_F × q_F)) (hc22 : ∀ (v1 : Int) (v2 : Int) (f g : q_F), c22 v1 v2 f g = some y → ma_Ev (q_G t) 3 67 0 0 m_Mod_expression 22 [(0, q_a t (60)), (1, ma_i (v1)), (2, ma_i (v2))] [] (q_h f g) (ma_zr (q_G t) false Q)) : ∀ (n : Nat) (v1 : Int) (v3 : Int) (f g : q_F), p_Mod_expression_31  c22 n v1 v3 f g = some y → ma_Ev (q_G t) 3 67 0 0 m_Mod_expression 31 [(0, q_a t (60)), (1, ma_i (v1)), (3, ma_i (v3))] [] (q_h f g) (ma_zr (q_G t) false Q) := by
  intro n
  induction n with
  | zero =>
    intro v1 v3 f g hp
    rw [p_Mod_expression_31] at hp
    cases hp
  | succ n ih =>
    intro v1 v3 f g hp
    rw [p_Mod_expression_31] at hp
    refine et_aload_n (pc := 31) d_Mod_expression_31 rfl rfl ?_
    refine et_geti (pc := 32) ok (fl_Mod_147 t) rfl d_Mod_expression_32 s_60 ?_
    refine et_if_ne (pc := 35) (tgt := 106) d_Mod_expression_35 (by decide) (fun hj1 => ?_) (fun hj1 => ?_)
    · rw [if_neg hj1] at hp
      refine ev_sub (ls2 := [(0, q_a t (60)), (1, ma_i (v1))]) [0, 1] rfl ?_
      exact e_Mod_expression_106 t ok  hQ c22 hc22 (v1) f g hp
    · rw [if_pos hj1] at hp
      refine ev_iload_n (pc := 38) d_Mod_expression_38 rfl rfl ?_
      refine ev_bipush (pc := 39) d_Mod_expression_39 rfl ?_
      refine et_icmp_eq (pc := 41) (tgt := 50) d_Mod_expression_41 (by decide) (fun hj2 => ?_) (fun hj2 => ?_)
      · rw [if_pos hj2] at hp
        refine ev_sub (ls2 := [(0, q_a t (60)), (1, ma_i (v1)), (3, ma_i (v3))]) [0, 1, 2] rfl ?_
        exact e_Mod_expression_50 t ok  hQ c22 (p_Mod_expression_31  c22 n) hc22 ih (v1) (v3) f g hp
      · rw [if_neg hj2] at hp
        refine ev_iload_n (pc := 44) d_Mod_expression_44 rfl rfl ?_
        refine ev_bipush (pc := 45) d_Mod_expression_45 rfl ?_
        refine et_icmp_ne (pc := 47) (tgt := 106) d_Mod_expression_47 (by decide) (fun hj3 => ?_) (fun hj3 => ?_)
        · rw [if_neg hj3] at hp
          refine ev_sub (ls2 := [(0, q_a t (60)), (1, ma_i (v1))]) [0, 1] rfl ?_
          exact e_Mod_expression_106 t ok  hQ c22 hc22 (v1) f g hp
        · rw [if_pos hj3] at hp
          refine ev_sub (ls2 := [(0, q_a t (60)), (1, ma_i (v1)), (3, ma_i (v3))]) [0, 1, 2] rfl ?_
          exact e_Mod_expression_50 t ok  hQ c22 (p_Mod_expression_31  c22 n) hc22 ih (v1) (v3) f g hp
theorem e_Mod_expression_22 (t : q_V) (ok : ma_ok (q_G t))  {Q : Option Value → ma_H → Prop} {y : q_F × q_F} (hQ : Q (none) (q_h y.1 y.2))   : ∀ (n : Nat) (v1 : Int) (v2 : Int) (f g : q_F), p_Mod_expression_22   n v1 v2 f g = some y → ma_Ev (q_G t) 3 67 0 0 m_Mod_expression 22 [(0, q_a t (60)), (1, ma_i (v1)), (2, ma_i (v2))] [] (q_h f g) (ma_zr (q_G t) false Q) := by
  intro n
  induction n with
  | zero =>
    intro v1 v2 f g hp
    rw [p_Mod_expression_22] at hp
    cases hp
  | succ n ih =>
    intro v1 v2 f g hp
    rw [p_Mod_expression_22] at hp
    refine ev_iload_n (pc := 22) d_Mod_expression_22 rfl rfl ?_
    refine et_if_eq (pc := 23) (tgt := 306) d_Mod_expression_23 (by decide) (fun hj1 => ?_) (fun hj1 => ?_)
    · rw [if_pos hj1] at hp
      cases Option.some.inj hp
      exact et_ret (pc := 306) d_Mod_expression_306 rfl hQ
    · rw [if_neg hj1] at hp
      refine et_aload_n (pc := 26) d_Mod_expression_26 rfl rfl ?_
      replace hp := q_bind hp
      obtain ⟨x2, hm3, hp⟩ := hp
      refine et_callVi (pc := 27) (f1 := x2.2.1) (g1 := x2.2.2) ok [] [] (cf_Mod_150 t) d_Mod_expression_27 s_60 k_12 rfl (t_Mod_see t ok  f g hm3 ⟨rfl, rfl⟩) rfl rfl (by decide) (by decide) (q_ble rfl) ?_
      refine ev_istore_n (pc := 30) d_Mod_expression_30 rfl (by decide) [(3, _), (0, _), (1, _), (2, _)] rfl ?_
      refine ev_sub (ls2 := [(0, q_a t (60)), (1, ma_i (v1)), (3, ma_i (x2.1))]) [1, 2, 0] rfl ?_
      exact e_Mod_expression_31 t ok  hQ (p_Mod_expression_22   n) ih 1000 (v1) (x2.1) x2.2.1 x2.2.2 hp
theorem e_Mod_expression_21 (t : q_V) (ok : ma_ok (q_G t))  {Q : Option Value → ma_H → Prop} {y : q_F × q_F} (hQ : Q (none) (q_h y.1 y.2))   (v1 : Int) (s0 : Int) (f g : q_F) (hp : p_Mod_expression_21   v1 s0 f g = some y) : ma_Ev (q_G t) 3 67 0 0 m_Mod_expression 21 [(0, q_a t (60)), (1, ma_i (v1))] [ma_i (s0)] (q_h f g) (ma_zr (q_G t) false Q) := by
  unfold p_Mod_expression_21 at hp
  refine ev_istore_n (pc := 21) d_Mod_expression_21 rfl (by decide) [(2, _), (0, _), (1, _)] rfl ?_
  refine ev_sub (ls2 := [(0, q_a t (60)), (1, ma_i (v1)), (2, ma_i (s0))]) [1, 2, 0] rfl ?_
  exact e_Mod_expression_22 t ok  hQ   1000 (v1) (s0) f g hp
theorem t_Mod_expression (t : q_V) (ok : ma_ok (q_G t))  {Q : Option Value → ma_H → Prop} {y : q_F × q_F}  (f g : q_F) (hp : p_Mod_expression   f g = some y) (hQ : Q (none) (q_h y.1 y.2)) : ma_Met (q_G t) false 3 67 0 0 m_Mod_expression [q_a t (60)] (q_h f g) Q := by
  refine ma_met (by decide +kernel) (q_ble rfl) rfl ?_
  change ma_Ev (q_G t) 3 67 0 0 m_Mod_expression 0 [(0, q_a t (60))] [] (q_h f g) (ma_zr (q_G t) false Q)
  unfold p_Mod_expression at hp
  refine ev_iconst (pc := 0) d_Mod_expression_0 ?_
  refine ev_istore_n (pc := 1) d_Mod_expression_1 rfl (by decide) [(1, _), (0, _)] rfl ?_
  refine et_aload_n (pc := 2) d_Mod_expression_2 rfl rfl ?_
  refine et_getr (pc := 3) ok (fl_Mod_52 t) rfl d_Mod_expression_3 s_60 r_60_18 ?_
  refine ev_iconst (pc := 6) d_Mod_expression_6 ?_
  refine ev_iconst (pc := 7) d_Mod_expression_7 ?_
  refine et_iast (pc := 8) d_Mod_expression_8 s_73 ⟨by decide, by decide⟩ (by decide) ?_
  replace hp := q_let_of hp
  obtain ⟨f1, hz, hp⟩ := hp
  rw [← hz]
  clear hz
  refine et_aload_n (pc := 9) d_Mod_expression_9 rfl rfl ?_
  refine et_geti (pc := 10) ok (fl_Mod_147 t) rfl d_Mod_expression_10 s_60 ?_
  refine et_if_ne (pc := 13) (tgt := 20) d_Mod_expression_13 (by decide) (fun hj2 => ?_) (fun hj2 => ?_)
  · rw [if_neg hj2] at hp
    refine ev_iconst (pc := 20) d_Mod_expression_20 ?_
    refine ev_sub (ls2 := [(0, q_a t (60)), (1, ma_i (0))]) [1, 0] rfl ?_
    exact e_Mod_expression_21 t ok  hQ   (0) (0) f1 g hp
  · rw [if_pos hj2] at hp
    refine ev_iconst (pc := 16) d_Mod_expression_16 ?_
    refine ev_goto (pc := 17) (tgt := 21) d_Mod_expression_17 (by decide) ?_
    refine ev_sub (ls2 := [(0, q_a t (60)), (1, ma_i (0))]) [1, 0] rfl ?_
    exact e_Mod_expression_21 t ok  hQ   (0) (1) f1 g hp
theorem d_Mod_tell_0 : decode (m_c m_Mod_tell) 0 = .ok (.bipush 8, 2) := by decide +kernel
theorem d_Mod_tell_2 : decode (m_c m_Mod_tell) 2 = .ok (.aload_n 0, 1) := by decide +kernel
theorem d_Mod_tell_3 : decode (m_c m_Mod_tell) 3 = .ok (.bipush 105, 2) := by decide +kernel
theorem d_Mod_tell_5 : decode (m_c m_Mod_tell) 5 = .ok (.bipush 18, 2) := by decide +kernel
theorem d_Mod_tell_7 : decode (m_c m_Mod_tell) 7 = .ok (.invokevirtual 168, 3) := by decide +kernel
theorem d_Mod_tell_10 : decode (m_c m_Mod_tell) 10 = .ok (.iadd, 1) := by decide +kernel
theorem d_Mod_tell_11 : decode (m_c m_Mod_tell) 11 = .ok (.istore_n 2, 1) := by decide +kernel
theorem d_Mod_tell_12 : decode (m_c m_Mod_tell) 12 = .ok (.aload_n 0, 1) := by decide +kernel
theorem d_Mod_tell_13 : decode (m_c m_Mod_tell) 13 = .ok (.aload_n 0, 1) := by decide +kernel
theorem d_Mod_tell_14 : decode (m_c m_Mod_tell) 14 = .ok (.getfield 103, 3) := by decide +kernel
theorem d_Mod_tell_17 : decode (m_c m_Mod_tell) 17 = .ok (.iload_n 2, 1) := by decide +kernel
theorem d_Mod_tell_18 : decode (m_c m_Mod_tell) 18 = .ok (.baload, 1) := by decide +kernel
theorem d_Mod_tell_19 : decode (m_c m_Mod_tell) 19 = .ok (.ifCond .ne 7, 3) := by decide +kernel
theorem d_Mod_tell_22 : decode (m_c m_Mod_tell) 22 = .ok (.iconst 1, 1) := by decide +kernel
theorem d_Mod_tell_23 : decode (m_c m_Mod_tell) 23 = .ok (.goto 4, 3) := by decide +kernel
theorem d_Mod_tell_26 : decode (m_c m_Mod_tell) 26 = .ok (.iconst 0, 1) := by decide +kernel
theorem d_Mod_tell_27 : decode (m_c m_Mod_tell) 27 = .ok (.invokevirtual 182, 3) := by decide +kernel
theorem d_Mod_tell_30 : decode (m_c m_Mod_tell) 30 = .ok (.aload_n 0, 1) := by decide +kernel
theorem d_Mod_tell_31 : decode (m_c m_Mod_tell) 31 = .ok (.getfield 147, 3) := by decide +kernel
theorem d_Mod_tell_34 : decode (m_c m_Mod_tell) 34 = .ok (.ifCond .eq 5, 3) := by decide +kernel
theorem d_Mod_tell_37 : decode (m_c m_Mod_tell) 37 = .ok (.iconst 0, 1) := by decide +kernel
theorem d_Mod_tell_38 : decode (m_c m_Mod_tell) 38 = .ok (.ireturn, 1) := by decide +kernel
theorem d_Mod_tell_39 : decode (m_c m_Mod_tell) 39 = .ok (.aload_n 0, 1) := by decide +kernel
theorem d_Mod_tell_40 : decode (m_c m_Mod_tell) 40 = .ok (.getfield 103, 3) := by decide +kernel
theorem d_Mod_tell_43 : decode (m_c m_Mod_tell) 43 = .ok (.iload_n 2, 1) := by decide +kernel
theorem d_Mod_tell_44 : decode (m_c m_Mod_tell) 44 = .ok (.iconst 1, 1) := by decide +kernel
theorem d_Mod_tell_45 : decode (m_c m_Mod_tell) 45 = .ok (.bastore, 1) := by decide +kernel
theorem d_Mod_tell_46 : decode (m_c m_Mod_tell) 46 = .ok (.aload_n 0, 1) := by decide +kernel
theorem d_Mod_tell_47 : decode (m_c m_Mod_tell) 47 = .ok (.getfield 109, 3) := by decide +kernel
theorem d_Mod_tell_50 : decode (m_c m_Mod_tell) 50 = .ok (.iload_n 2, 1) := by decide +kernel
theorem d_Mod_tell_51 : decode (m_c m_Mod_tell) 51 = .ok (.iload_n 1, 1) := by decide +kernel
theorem d_Mod_tell_52 : decode (m_c m_Mod_tell) 52 = .ok (.iastore, 1) := by decide +kernel
theorem d_Mod_tell_53 : decode (m_c m_Mod_tell) 53 = .ok (.iload_n 2, 1) := by decide +kernel
theorem d_Mod_tell_54 : decode (m_c m_Mod_tell) 54 = .ok (.ireturn, 1) := by decide +kernel
def p_Mod_tell_27   (v1 : Int) (v2 : Int) (s0 : Int) (f g : q_F) : Option (Int × q_F × q_F) :=
  (p_Mod_fresh (s0) f g).bind fun x1 =>
  if q_sw (x1.1 60 9) = 0 then
    if 0 ≤ v2 ∧ v2 < 26 then
      q_let (ma_up x1.1 90 (Int.toNat v2) (q_nz 1)) fun f5 =>
      if 0 ≤ v2 ∧ v2 < 26 then
        q_let (ma_up f5 92 (Int.toNat v2) v1) fun f7 =>
        some (v2, f7, x1.2)
      else none
    else none
  else
    some (0, x1.1, x1.2)
def p_Mod_tell  (v1 : Int) (f g : q_F) : Option (Int × q_F × q_F) :=
  (p_Mod_letter (105) (18) f g).bind fun x1 =>
  q_let (8 + x1.1) fun z3 =>
  if 0 ≤ z3 ∧ z3 < 26 then
    if q_sw (x1.2.1 90 (Int.toNat z3)) = 0 then
      p_Mod_tell_27   (v1) (z3) (1) x1.2.1 x1.2.2
    else
      p_Mod_tell_27   (v1) (z3) (0) x1.2.1 x1.2.2
  else none
theorem e_Mod_tell_27 (t : q_V) (ok : ma_ok (q_G t))  {Q : Option Value → ma_H → Prop} {y : Int × q_F × q_F} (hQ : Q (some (ma_i y.1)) (q_h y.2.1 y.2.2))   (v1 : Int) (v2 : Int) (s0 : Int) (f g : q_F) (hp : p_Mod_tell_27   v1 v2 s0 f g = some y) : ma_Ev (q_G t) 2 45 0 0 m_Mod_tell 27 [(0, q_a t (60)), (1, ma_i (v1)), (2, ma_i (v2))] [ma_i (s0), q_a t (60)] (q_h f g) (ma_zr (q_G t) false Q) := by
  unfold p_Mod_tell_27 at hp
  replace hp := q_bind hp
  obtain ⟨x1, hm2, hp⟩ := hp
  refine et_callVv (pc := 27) (f1 := x1.1) (g1 := x1.2) ok [ma_i (s0)] [] (cf_Mod_182 t) d_Mod_tell_27 s_60 k_12 rfl (t_Mod_fresh t ok (s0) f g hm2 ⟨rfl, rfl⟩) rfl rfl (by decide) (by decide) (q_ble rfl) ?_
  refine et_aload_n (pc := 30) d_Mod_tell_30 rfl rfl ?_
  refine et_geti (pc := 31) ok (fl_Mod_147 t) rfl d_Mod_tell_31 s_60 ?_
  refine et_if_eq (pc := 34) (tgt := 39) d_Mod_tell_34 (by decide) (fun hj3 => ?_) (fun hj3 => ?_)
  · rw [if_pos hj3] at hp
    refine et_aload_n (pc := 39) d_Mod_tell_39 rfl rfl ?_
    refine et_getr (pc := 40) ok (fl_Mod_103 t) rfl d_Mod_tell_40 s_60 r_60_39 ?_
    refine ev_iload_n (pc := 43) d_Mod_tell_43 rfl rfl ?_
    refine ev_iconst (pc := 44) d_Mod_tell_44 ?_
    replace hp := q_if hp
    obtain ⟨hb4, hp⟩ := hp
    refine et_zast (pc := 45) d_Mod_tell_45 s_90 hb4 (by decide) ?_
    replace hp := q_let_of hp
    obtain ⟨f5, hz, hp⟩ := hp
    rw [← hz]
    clear hz
    refine et_aload_n (pc := 46) d_Mod_tell_46 rfl rfl ?_
    refine et_getr (pc := 47) ok (fl_Mod_109 t) rfl d_Mod_tell_47 s_60 r_60_41 ?_
    refine ev_iload_n (pc := 50) d_Mod_tell_50 rfl rfl ?_
    refine ev_iload_n (pc := 51) d_Mod_tell_51 rfl rfl ?_
    replace hp := q_if hp
    obtain ⟨hb6, hp⟩ := hp
    refine et_iast (pc := 52) d_Mod_tell_52 s_92 hb6 (by decide) ?_
    replace hp := q_let_of hp
    obtain ⟨f7, hz, hp⟩ := hp
    rw [← hz]
    clear hz
    refine ev_iload_n (pc := 53) d_Mod_tell_53 rfl rfl ?_
    cases Option.some.inj hp
    exact et_iret (pc := 54) d_Mod_tell_54 rfl hQ
  · rw [if_neg hj3] at hp
    refine ev_iconst (pc := 37) d_Mod_tell_37 ?_
    cases Option.some.inj hp
    exact et_iret (pc := 38) d_Mod_tell_38 rfl hQ
theorem t_Mod_tell (t : q_V) (ok : ma_ok (q_G t))  {Q : Option Value → ma_H → Prop} {y : Int × q_F × q_F} (v1 : Int) (f g : q_F) (hp : p_Mod_tell  v1 f g = some y) (hQ : Q (some (ma_i y.1)) (q_h y.2.1 y.2.2)) : ma_Met (q_G t) false 2 45 0 0 m_Mod_tell [q_a t (60), ma_i (v1)] (q_h f g) Q := by
  refine ma_met (by decide +kernel) (q_ble rfl) rfl ?_
  change ma_Ev (q_G t) 2 45 0 0 m_Mod_tell 0 [(0, q_a t (60)), (1, ma_i (v1))] [] (q_h f g) (ma_zr (q_G t) false Q)
  unfold p_Mod_tell at hp
  refine ev_bipush (pc := 0) d_Mod_tell_0 rfl ?_
  refine et_aload_n (pc := 2) d_Mod_tell_2 rfl rfl ?_
  refine ev_bipush (pc := 3) d_Mod_tell_3 rfl ?_
  refine ev_bipush (pc := 5) d_Mod_tell_5 rfl ?_
  replace hp := q_bind hp
  obtain ⟨x1, hm2, hp⟩ := hp
  refine et_callVi (pc := 7) (f1 := x1.2.1) (g1 := x1.2.2) ok [ma_i (105), ma_i (18)] [ma_i (8)] (cf_Mod_168 t) d_Mod_tell_7 s_60 k_12 rfl (t_Mod_letter t ok (105) (18) f g hm2 ⟨rfl, rfl⟩) rfl rfl (by decide) (by decide) (q_ble rfl) ?_
  refine ev_iadd (pc := 10) d_Mod_tell_10 ?_
  refine ev_istore_n (pc := 11) d_Mod_tell_11 rfl (by decide) [(2, _), (0, _), (1, _)] rfl ?_
  replace hp := q_let_of hp
  obtain ⟨z3, hz, hp⟩ := hp
  rw [← hz]
  clear hz
  refine et_aload_n (pc := 12) d_Mod_tell_12 rfl rfl ?_
  refine et_aload_n (pc := 13) d_Mod_tell_13 rfl rfl ?_
  refine et_getr (pc := 14) ok (fl_Mod_103 t) rfl d_Mod_tell_14 s_60 r_60_39 ?_
  refine ev_iload_n (pc := 17) d_Mod_tell_17 rfl rfl ?_
  replace hp := q_if hp
  obtain ⟨hb4, hp⟩ := hp
  refine et_zald (pc := 18) d_Mod_tell_18 s_90 hb4 (by decide) ?_
  refine et_if_ne (pc := 19) (tgt := 26) d_Mod_tell_19 (by decide) (fun hj5 => ?_) (fun hj5 => ?_)
  · rw [if_neg hj5] at hp
    refine ev_iconst (pc := 26) d_Mod_tell_26 ?_
    refine ev_sub (ls2 := [(0, q_a t (60)), (1, ma_i (v1)), (2, ma_i (z3))]) [1, 2, 0] rfl ?_
    exact e_Mod_tell_27 t ok  hQ   (v1) (z3) (0) x1.2.1 x1.2.2 hp
  · rw [if_pos hj5] at hp
    refine ev_iconst (pc := 22) d_Mod_tell_22 ?_
    refine ev_goto (pc := 23) (tgt := 27) d_Mod_tell_23 (by decide) ?_
    refine ev_sub (ls2 := [(0, q_a t (60)), (1, ma_i (v1)), (2, ma_i (z3))]) [1, 2, 0] rfl ?_
    exact e_Mod_tell_27 t ok  hQ   (v1) (z3) (1) x1.2.1 x1.2.2 hp
theorem d_Mod_addItem_0 : decode (m_c m_Mod_addItem) 0 = .ok (.aload_n 0, 1) := by decide +kernel
theorem d_Mod_addItem_1 : decode (m_c m_Mod_addItem) 1 = .ok (.getfield 147, 3) := by decide +kernel
theorem d_Mod_addItem_4 : decode (m_c m_Mod_addItem) 4 = .ok (.ifCond .eq 4, 3) := by decide +kernel
theorem d_Mod_addItem_7 : decode (m_c m_Mod_addItem) 7 = .ok (.return_, 1) := by decide +kernel
theorem d_Mod_addItem_8 : decode (m_c m_Mod_addItem) 8 = .ok (.aload_n 0, 1) := by decide +kernel
theorem d_Mod_addItem_9 : decode (m_c m_Mod_addItem) 9 = .ok (.getfield 100, 3) := by decide +kernel
theorem d_Mod_addItem_12 : decode (m_c m_Mod_addItem) 12 = .ok (.aload_n 0, 1) := by decide +kernel
theorem d_Mod_addItem_13 : decode (m_c m_Mod_addItem) 13 = .ok (.getfield 186, 3) := by decide +kernel
theorem d_Mod_addItem_16 : decode (m_c m_Mod_addItem) 16 = .ok (.iload_n 1, 1) := by decide +kernel
theorem d_Mod_addItem_17 : decode (m_c m_Mod_addItem) 17 = .ok (.iastore, 1) := by decide +kernel
theorem d_Mod_addItem_18 : decode (m_c m_Mod_addItem) 18 = .ok (.aload_n 0, 1) := by decide +kernel
theorem d_Mod_addItem_19 : decode (m_c m_Mod_addItem) 19 = .ok (.dup, 1) := by decide +kernel
theorem d_Mod_addItem_20 : decode (m_c m_Mod_addItem) 20 = .ok (.getfield 186, 3) := by decide +kernel
theorem d_Mod_addItem_23 : decode (m_c m_Mod_addItem) 23 = .ok (.iconst 1, 1) := by decide +kernel
theorem d_Mod_addItem_24 : decode (m_c m_Mod_addItem) 24 = .ok (.iadd, 1) := by decide +kernel
theorem d_Mod_addItem_25 : decode (m_c m_Mod_addItem) 25 = .ok (.putfield 186, 3) := by decide +kernel
theorem d_Mod_addItem_28 : decode (m_c m_Mod_addItem) 28 = .ok (.return_, 1) := by decide +kernel
def p_Mod_addItem  (v1 : Int) (f g : q_F) : Option (q_F × q_F) :=
  if q_sw (f 60 9) = 0 then
    if 0 ≤ (f 60 37) ∧ (f 60 37) < 160 then
      q_let (ma_up f 89 (Int.toNat (f 60 37)) v1) fun f3 =>
      q_let (ma_up f3 60 37 ((f3 60 37) + 1)) fun f4 =>
      some (f4, g)
    else none
  else
    some (f, g)
theorem t_Mod_addItem (t : q_V) (ok : ma_ok (q_G t))  {Q : Option Value → ma_H → Prop} {y : q_F × q_F} (v1 : Int) (f g : q_F) (hp : p_Mod_addItem  v1 f g = some y) (hQ : Q (none) (q_h y.1 y.2)) : ma_Met (q_G t) false 0 0 0 0 m_Mod_addItem [q_a t (60), ma_i (v1)] (q_h f g) Q := by
  refine ma_met (by decide +kernel) (q_ble rfl) rfl ?_
  change ma_Ev (q_G t) 0 0 0 0 m_Mod_addItem 0 [(0, q_a t (60)), (1, ma_i (v1))] [] (q_h f g) (ma_zr (q_G t) false Q)
  unfold p_Mod_addItem at hp
  refine et_aload_n (pc := 0) d_Mod_addItem_0 rfl rfl ?_
  refine et_geti (pc := 1) ok (fl_Mod_147 t) rfl d_Mod_addItem_1 s_60 ?_
  refine et_if_eq (pc := 4) (tgt := 8) d_Mod_addItem_4 (by decide) (fun hj1 => ?_) (fun hj1 => ?_)
  · rw [if_pos hj1] at hp
    refine et_aload_n (pc := 8) d_Mod_addItem_8 rfl rfl ?_
    refine et_getr (pc := 9) ok (fl_Mod_100 t) rfl d_Mod_addItem_9 s_60 r_60_38 ?_
    refine et_aload_n (pc := 12) d_Mod_addItem_12 rfl rfl ?_
    refine et_geti (pc := 13) ok (fl_Mod_186 t) rfl d_Mod_addItem_13 s_60 ?_
    refine ev_iload_n (pc := 16) d_Mod_addItem_16 rfl rfl ?_
    replace hp := q_if hp
    obtain ⟨hb2, hp⟩ := hp
    refine et_iast (pc := 17) d_Mod_addItem_17 s_89 hb2 (by decide) ?_
    replace hp := q_let_of hp
    obtain ⟨f3, hz, hp⟩ := hp
    rw [← hz]
    clear hz
    refine et_aload_n (pc := 18) d_Mod_addItem_18 rfl rfl ?_
    refine ev_dup (pc := 19) d_Mod_addItem_19 rfl ?_
    refine et_geti (pc := 20) ok (fl_Mod_186 t) rfl d_Mod_addItem_20 s_60 ?_
    refine ev_iconst (pc := 23) d_Mod_addItem_23 ?_
    refine ev_iadd (pc := 24) d_Mod_addItem_24 ?_
    refine et_puti (pc := 25) ok (fl_Mod_186 t) d_Mod_addItem_25 s_60 ?_
    replace hp := q_let_of hp
    obtain ⟨f4, hz, hp⟩ := hp
    rw [← hz]
    clear hz
    cases Option.some.inj hp
    exact et_ret (pc := 28) d_Mod_addItem_28 rfl hQ
  · rw [if_neg hj1] at hp
    cases Option.some.inj hp
    exact et_ret (pc := 7) d_Mod_addItem_7 rfl hQ
theorem d_Mod_readItem_0 : decode (m_c m_Mod_readItem) 0 = .ok (.aload_n 0, 1) := by decide +kernel
theorem d_Mod_readItem_1 : decode (m_c m_Mod_readItem) 1 = .ok (.bipush 37, 2) := by decide +kernel
theorem d_Mod_readItem_3 : decode (m_c m_Mod_readItem) 3 = .ok (.invokevirtual 154, 3) := by decide +kernel
theorem d_Mod_readItem_6 : decode (m_c m_Mod_readItem) 6 = .ok (.ifCond .eq 15, 3) := by decide +kernel
theorem d_Mod_readItem_9 : decode (m_c m_Mod_readItem) 9 = .ok (.aload_n 0, 1) := by decide +kernel
theorem d_Mod_readItem_10 : decode (m_c m_Mod_readItem) 10 = .ok (.aload_n 0, 1) := by decide +kernel
theorem d_Mod_readItem_11 : decode (m_c m_Mod_readItem) 11 = .ok (.invokevirtual 179, 3) := by decide +kernel
theorem d_Mod_readItem_14 : decode (m_c m_Mod_readItem) 14 = .ok (.ineg, 1) := by decide +kernel
theorem d_Mod_readItem_15 : decode (m_c m_Mod_readItem) 15 = .ok (.invokevirtual 189, 3) := by decide +kernel
theorem d_Mod_readItem_18 : decode (m_c m_Mod_readItem) 18 = .ok (.goto 70, 3) := by decide +kernel
theorem d_Mod_readItem_21 : decode (m_c m_Mod_readItem) 21 = .ok (.aload_n 0, 1) := by decide +kernel
theorem d_Mod_readItem_22 : decode (m_c m_Mod_readItem) 22 = .ok (.bipush 36, 2) := by decide +kernel
theorem d_Mod_readItem_24 : decode (m_c m_Mod_readItem) 24 = .ok (.invokevirtual 154, 3) := by decide +kernel
theorem d_Mod_readItem_27 : decode (m_c m_Mod_readItem) 27 = .ok (.ifCond .eq 15, 3) := by decide +kernel
theorem d_Mod_readItem_30 : decode (m_c m_Mod_readItem) 30 = .ok (.aload_n 0, 1) := by decide +kernel
theorem d_Mod_readItem_31 : decode (m_c m_Mod_readItem) 31 = .ok (.aload_n 0, 1) := by decide +kernel
theorem d_Mod_readItem_32 : decode (m_c m_Mod_readItem) 32 = .ok (.iload_n 1, 1) := by decide +kernel
theorem d_Mod_readItem_33 : decode (m_c m_Mod_readItem) 33 = .ok (.invokevirtual 192, 3) := by decide +kernel
theorem d_Mod_readItem_36 : decode (m_c m_Mod_readItem) 36 = .ok (.invokevirtual 189, 3) := by decide +kernel
theorem d_Mod_readItem_39 : decode (m_c m_Mod_readItem) 39 = .ok (.goto 49, 3) := by decide +kernel
theorem d_Mod_readItem_42 : decode (m_c m_Mod_readItem) 42 = .ok (.aload_n 0, 1) := by decide +kernel
theorem d_Mod_readItem_43 : decode (m_c m_Mod_readItem) 43 = .ok (.bipush 97, 2) := by decide +kernel
theorem d_Mod_readItem_45 : decode (m_c m_Mod_readItem) 45 = .ok (.bipush 8, 2) := by decide +kernel
theorem d_Mod_readItem_47 : decode (m_c m_Mod_readItem) 47 = .ok (.invokevirtual 168, 3) := by decide +kernel
theorem d_Mod_readItem_50 : decode (m_c m_Mod_readItem) 50 = .ok (.istore_n 2, 1) := by decide +kernel
theorem d_Mod_readItem_51 : decode (m_c m_Mod_readItem) 51 = .ok (.aload_n 0, 1) := by decide +kernel
theorem d_Mod_readItem_52 : decode (m_c m_Mod_readItem) 52 = .ok (.aload_n 0, 1) := by decide +kernel
theorem d_Mod_readItem_53 : decode (m_c m_Mod_readItem) 53 = .ok (.getfield 22, 3) := by decide +kernel
theorem d_Mod_readItem_56 : decode (m_c m_Mod_readItem) 56 = .ok (.iload_n 2, 1) := by decide +kernel
theorem d_Mod_readItem_57 : decode (m_c m_Mod_readItem) 57 = .ok (.baload, 1) := by decide +kernel
theorem d_Mod_readItem_58 : decode (m_c m_Mod_readItem) 58 = .ok (.ifCond .ne 7, 3) := by decide +kernel
theorem d_Mod_readItem_61 : decode (m_c m_Mod_readItem) 61 = .ok (.iconst 1, 1) := by decide +kernel
theorem d_Mod_readItem_62 : decode (m_c m_Mod_readItem) 62 = .ok (.goto 4, 3) := by decide +kernel
theorem d_Mod_readItem_65 : decode (m_c m_Mod_readItem) 65 = .ok (.iconst 0, 1) := by decide +kernel
theorem d_Mod_readItem_66 : decode (m_c m_Mod_readItem) 66 = .ok (.invokevirtual 182, 3) := by decide +kernel
theorem d_Mod_readItem_69 : decode (m_c m_Mod_readItem) 69 = .ok (.aload_n 0, 1) := by decide +kernel
theorem d_Mod_readItem_70 : decode (m_c m_Mod_readItem) 70 = .ok (.getfield 147, 3) := by decide +kernel
theorem d_Mod_readItem_73 : decode (m_c m_Mod_readItem) 73 = .ok (.ifCond .ne 10, 3) := by decide +kernel
theorem d_Mod_readItem_76 : decode (m_c m_Mod_readItem) 76 = .ok (.aload_n 0, 1) := by decide +kernel
theorem d_Mod_readItem_77 : decode (m_c m_Mod_readItem) 77 = .ok (.getfield 22, 3) := by decide +kernel
theorem d_Mod_readItem_80 : decode (m_c m_Mod_readItem) 80 = .ok (.iload_n 2, 1) := by decide +kernel
theorem d_Mod_readItem_81 : decode (m_c m_Mod_readItem) 81 = .ok (.iconst 1, 1) := by decide +kernel
theorem d_Mod_readItem_82 : decode (m_c m_Mod_readItem) 82 = .ok (.bastore, 1) := by decide +kernel
theorem d_Mod_readItem_83 : decode (m_c m_Mod_readItem) 83 = .ok (.aload_n 0, 1) := by decide +kernel
theorem d_Mod_readItem_84 : decode (m_c m_Mod_readItem) 84 = .ok (.iload_n 2, 1) := by decide +kernel
theorem d_Mod_readItem_85 : decode (m_c m_Mod_readItem) 85 = .ok (.invokevirtual 189, 3) := by decide +kernel
theorem d_Mod_readItem_88 : decode (m_c m_Mod_readItem) 88 = .ok (.return_, 1) := by decide +kernel
def p_Mod_readItem_88    (f g : q_F) : Option (q_F × q_F) :=
  some (f, g)
def p_Mod_readItem_83   (v2 : Int) (f g : q_F) : Option (q_F × q_F) :=
  (p_Mod_addItem (v2) f g).bind fun x1 =>
  p_Mod_readItem_88    x1.1 x1.2
def p_Mod_readItem_66   (v2 : Int) (s0 : Int) (f g : q_F) : Option (q_F × q_F) :=
  (p_Mod_fresh (s0) f g).bind fun x1 =>
  if q_sw (x1.1 60 9) = 0 then
    if 0 ≤ v2 ∧ v2 < 8 then
      q_let (ma_up x1.1 65 (Int.toNat v2) (q_nz 1)) fun f5 =>
      p_Mod_readItem_83   (v2) f5 x1.2
    else none
  else
    p_Mod_readItem_83   (v2) x1.1 x1.2
def p_Mod_readItem  (v1 : Int) (f g : q_F) : Option (q_F × q_F) :=
  (p_Mod_takes (37) f g).bind fun x1 =>
  if q_sw x1.1 = 0 then
    (p_Mod_takes (36) x1.2.1 x1.2.2).bind fun x4 =>
    if q_sw x4.1 = 0 then
      (p_Mod_letter (97) (8) x4.2.1 x4.2.2).bind fun x7 =>
      if 0 ≤ x7.1 ∧ x7.1 < 8 then
        if q_sw (x7.2.1 65 (Int.toNat x7.1)) = 0 then
          p_Mod_readItem_66   (x7.1) (1) x7.2.1 x7.2.2
        else
          p_Mod_readItem_66   (x7.1) (0) x7.2.1 x7.2.2
      else none
    else
      (p_Mod_tell (v1) x4.2.1 x4.2.2).bind fun x11 =>
      (p_Mod_addItem (x11.1) x11.2.1 x11.2.2).bind fun x13 =>
      p_Mod_readItem_88    x13.1 x13.2
  else
    (p_Mod_alignment  x1.2.1 x1.2.2).bind fun x15 =>
    (p_Mod_addItem (-x15.1) x15.2.1 x15.2.2).bind fun x17 =>
    p_Mod_readItem_88    x17.1 x17.2
theorem e_Mod_readItem_88 (t : q_V) (ok : ma_ok (q_G t))  {Q : Option Value → ma_H → Prop} {y : q_F × q_F} (hQ : Q (none) (q_h y.1 y.2))    (f g : q_F) (hp : p_Mod_readItem_88    f g = some y) : ma_Ev (q_G t) 3 67 0 0 m_Mod_readItem 88 [] [] (q_h f g) (ma_zr (q_G t) false Q) := by
  unfold p_Mod_readItem_88 at hp
  cases Option.some.inj hp
  exact et_ret (pc := 88) d_Mod_readItem_88 rfl hQ
theorem e_Mod_readItem_83 (t : q_V) (ok : ma_ok (q_G t))  {Q : Option Value → ma_H → Prop} {y : q_F × q_F} (hQ : Q (none) (q_h y.1 y.2))   (v2 : Int) (f g : q_F) (hp : p_Mod_readItem_83   v2 f g = some y) : ma_Ev (q_G t) 3 67 0 0 m_Mod_readItem 83 [(0, q_a t (60)), (2, ma_i (v2))] [] (q_h f g) (ma_zr (q_G t) false Q) := by
  unfold p_Mod_readItem_83 at hp
  refine et_aload_n (pc := 83) d_Mod_readItem_83 rfl rfl ?_
  refine ev_iload_n (pc := 84) d_Mod_readItem_84 rfl rfl ?_
  replace hp := q_bind hp
  obtain ⟨x1, hm2, hp⟩ := hp
  refine et_callVv (pc := 85) (f1 := x1.1) (g1 := x1.2) ok [ma_i (v2)] [] (cf_Mod_189 t) d_Mod_readItem_85 s_60 k_12 rfl (t_Mod_addItem t ok (v2) f g hm2 ⟨rfl, rfl⟩) rfl rfl (by decide) (by decide) (q_ble rfl) ?_
  refine ev_sub (ls2 := []) [] rfl ?_
  exact e_Mod_readItem_88 t ok  hQ    x1.1 x1.2 hp
theorem e_Mod_readItem_66 (t : q_V) (ok : ma_ok (q_G t))  {Q : Option Value → ma_H → Prop} {y : q_F × q_F} (hQ : Q (none) (q_h y.1 y.2))   (v2 : Int) (s0 : Int) (f g : q_F) (hp : p_Mod_readItem_66   v2 s0 f g = some y) : ma_Ev (q_G t) 3 67 0 0 m_Mod_readItem 66 [(0, q_a t (60)), (2, ma_i (v2))] [ma_i (s0), q_a t (60)] (q_h f g) (ma_zr (q_G t) false Q) := by
  unfold p_Mod_readItem_66 at hp
  replace hp := q_bind hp
  obtain ⟨x1, hm2, hp⟩ := hp
  refine et_callVv (pc := 66) (f1 := x1.1) (g1 := x1.2) ok [ma_i (s0)] [] (cf_Mod_182 t) d_Mod_readItem_66 s_60 k_12 rfl (t_Mod_fresh t ok (s0) f g hm2 ⟨rfl, rfl⟩) rfl rfl (by decide) (by decide) (q_ble rfl) ?_
  refine et_aload_n (pc := 69) d_Mod_readItem_69 rfl rfl ?_
  refine et_geti (pc := 70) ok (fl_Mod_147 t) rfl d_Mod_readItem_70 s_60 ?_
  refine et_if_ne (pc := 73) (tgt := 83) d_Mod_readItem_73 (by decide) (fun hj3 => ?_) (fun hj3 => ?_)
  · rw [if_neg hj3] at hp
    refine ev_sub (ls2 := [(0, q_a t (60)), (2, ma_i (v2))]) [0, 1] rfl ?_
    exact e_Mod_readItem_83 t ok  hQ   (v2) x1.1 x1.2 hp
  · rw [if_pos hj3] at hp
    refine et_aload_n (pc := 76) d_Mod_readItem_76 rfl rfl ?_
    refine et_getr (pc := 77) ok (fl_Mod_22 t) rfl d_Mod_readItem_77 s_60 r_60_5 ?_
    refine ev_iload_n (pc := 80) d_Mod_readItem_80 rfl rfl ?_
    refine ev_iconst (pc := 81) d_Mod_readItem_81 ?_
    replace hp := q_if hp
    obtain ⟨hb4, hp⟩ := hp
    refine et_zast (pc := 82) d_Mod_readItem_82 s_65 hb4 (by decide) ?_
    replace hp := q_let_of hp
    obtain ⟨f5, hz, hp⟩ := hp
    rw [← hz]
    clear hz
    refine ev_sub (ls2 := [(0, q_a t (60)), (2, ma_i (v2))]) [0, 1] rfl ?_
    exact e_Mod_readItem_83 t ok  hQ   (v2) f5 x1.2 hp
theorem t_Mod_readItem (t : q_V) (ok : ma_ok (q_G t))  {Q : Option Value → ma_H → Prop} {y : q_F × q_F} (v1 : Int) (f g : q_F) (hp : p_Mod_readItem  v1 f g = some y) (hQ : Q (none) (q_h y.1 y.2)) : ma_Met (q_G t) false 3 67 0 0 m_Mod_readItem [q_a t (60), ma_i (v1)] (q_h f g) Q := by
  refine ma_met (by decide +kernel) (q_ble rfl) rfl ?_
  change ma_Ev (q_G t) 3 67 0 0 m_Mod_readItem 0 [(0, q_a t (60)), (1, ma_i (v1))] [] (q_h f g) (ma_zr (q_G t) false Q)
  unfold p_Mod_readItem at hp
  refine et_aload_n (pc := 0) d_Mod_readItem_0 rfl rfl ?_
  refine ev_bipush (pc := 1) d_Mod_readItem_1 rfl ?_
  replace hp := q_bind hp
  obtain ⟨x1, hm2, hp⟩ := hp
  refine et_callVi (pc := 3) (f1 := x1.2.1) (g1 := x1.2.2) ok [ma_i (37)] [] (cf_Mod_154 t) d_Mod_readItem_3 s_60 k_12 rfl (t_Mod_takes t ok (37) f g hm2 ⟨rfl, rfl⟩) rfl rfl (by decide) (by decide) (q_ble rfl) ?_
  refine et_if_eq (pc := 6) (tgt := 21) d_Mod_readItem_6 (by decide) (fun hj3 => ?_) (fun hj3 => ?_)
  · rw [if_pos hj3] at hp
    refine et_aload_n (pc := 21) d_Mod_readItem_21 rfl rfl ?_
    refine ev_bipush (pc := 22) d_Mod_readItem_22 rfl ?_
    replace hp := q_bind hp
    obtain ⟨x4, hm5, hp⟩ := hp
    refine et_callVi (pc := 24) (f1 := x4.2.1) (g1 := x4.2.2) ok [ma_i (36)] [] (cf_Mod_154 t) d_Mod_readItem_24 s_60 k_12 rfl (t_Mod_takes t ok (36) x1.2.1 x1.2.2 hm5 ⟨rfl, rfl⟩) rfl rfl (by decide) (by decide) (q_ble rfl) ?_
    refine et_if_eq (pc := 27) (tgt := 42) d_Mod_readItem_27 (by decide) (fun hj6 => ?_) (fun hj6 => ?_)
    · rw [if_pos hj6] at hp
      refine et_aload_n (pc := 42) d_Mod_readItem_42 rfl rfl ?_
      refine ev_bipush (pc := 43) d_Mod_readItem_43 rfl ?_
      refine ev_bipush (pc := 45) d_Mod_readItem_45 rfl ?_
      replace hp := q_bind hp
      obtain ⟨x7, hm8, hp⟩ := hp
      refine et_callVi (pc := 47) (f1 := x7.2.1) (g1 := x7.2.2) ok [ma_i (97), ma_i (8)] [] (cf_Mod_168 t) d_Mod_readItem_47 s_60 k_12 rfl (t_Mod_letter t ok (97) (8) x4.2.1 x4.2.2 hm8 ⟨rfl, rfl⟩) rfl rfl (by decide) (by decide) (q_ble rfl) ?_
      refine ev_istore_n (pc := 50) d_Mod_readItem_50 rfl (by decide) [(2, _), (0, _), (1, _)] rfl ?_
      refine et_aload_n (pc := 51) d_Mod_readItem_51 rfl rfl ?_
      refine et_aload_n (pc := 52) d_Mod_readItem_52 rfl rfl ?_
      refine et_getr (pc := 53) ok (fl_Mod_22 t) rfl d_Mod_readItem_53 s_60 r_60_5 ?_
      refine ev_iload_n (pc := 56) d_Mod_readItem_56 rfl rfl ?_
      replace hp := q_if hp
      obtain ⟨hb9, hp⟩ := hp
      refine et_zald (pc := 57) d_Mod_readItem_57 s_65 hb9 (by decide) ?_
      refine et_if_ne (pc := 58) (tgt := 65) d_Mod_readItem_58 (by decide) (fun hj10 => ?_) (fun hj10 => ?_)
      · rw [if_neg hj10] at hp
        refine ev_iconst (pc := 65) d_Mod_readItem_65 ?_
        refine ev_sub (ls2 := [(0, q_a t (60)), (2, ma_i (x7.1))]) [1, 0] rfl ?_
        exact e_Mod_readItem_66 t ok  hQ   (x7.1) (0) x7.2.1 x7.2.2 hp
      · rw [if_pos hj10] at hp
        refine ev_iconst (pc := 61) d_Mod_readItem_61 ?_
        refine ev_goto (pc := 62) (tgt := 66) d_Mod_readItem_62 (by decide) ?_
        refine ev_sub (ls2 := [(0, q_a t (60)), (2, ma_i (x7.1))]) [1, 0] rfl ?_
        exact e_Mod_readItem_66 t ok  hQ   (x7.1) (1) x7.2.1 x7.2.2 hp
    · rw [if_neg hj6] at hp
      refine et_aload_n (pc := 30) d_Mod_readItem_30 rfl rfl ?_
      refine et_aload_n (pc := 31) d_Mod_readItem_31 rfl rfl ?_
      refine ev_iload_n (pc := 32) d_Mod_readItem_32 rfl rfl ?_
      replace hp := q_bind hp
      obtain ⟨x11, hm12, hp⟩ := hp
      refine et_callVi (pc := 33) (f1 := x11.2.1) (g1 := x11.2.2) ok [ma_i (v1)] [q_a t (60)] (cf_Mod_192 t) d_Mod_readItem_33 s_60 k_12 rfl (t_Mod_tell t ok (v1) x4.2.1 x4.2.2 hm12 ⟨rfl, rfl⟩) rfl rfl (by decide) (by decide) (q_ble rfl) ?_
      replace hp := q_bind hp
      obtain ⟨x13, hm14, hp⟩ := hp
      refine et_callVv (pc := 36) (f1 := x13.1) (g1 := x13.2) ok [ma_i (x11.1)] [] (cf_Mod_189 t) d_Mod_readItem_36 s_60 k_12 rfl (t_Mod_addItem t ok (x11.1) x11.2.1 x11.2.2 hm14 ⟨rfl, rfl⟩) rfl rfl (by decide) (by decide) (q_ble rfl) ?_
      refine ev_goto (pc := 39) (tgt := 88) d_Mod_readItem_39 (by decide) ?_
      refine ev_sub (ls2 := []) [] rfl ?_
      exact e_Mod_readItem_88 t ok  hQ    x13.1 x13.2 hp
  · rw [if_neg hj3] at hp
    refine et_aload_n (pc := 9) d_Mod_readItem_9 rfl rfl ?_
    refine et_aload_n (pc := 10) d_Mod_readItem_10 rfl rfl ?_
    replace hp := q_bind hp
    obtain ⟨x15, hm16, hp⟩ := hp
    refine et_callVi (pc := 11) (f1 := x15.2.1) (g1 := x15.2.2) ok [] [q_a t (60)] (cf_Mod_179 t) d_Mod_readItem_11 s_60 k_12 rfl (t_Mod_alignment t ok  x1.2.1 x1.2.2 hm16 ⟨rfl, rfl⟩) rfl rfl (by decide) (by decide) (q_ble rfl) ?_
    refine ev_ineg (pc := 14) d_Mod_readItem_14 ?_
    replace hp := q_bind hp
    obtain ⟨x17, hm18, hp⟩ := hp
    refine et_callVv (pc := 15) (f1 := x17.1) (g1 := x17.2) ok [ma_i (-x15.1)] [] (cf_Mod_189 t) d_Mod_readItem_15 s_60 k_12 rfl (t_Mod_addItem t ok (-x15.1) x15.2.1 x15.2.2 hm18 ⟨rfl, rfl⟩) rfl rfl (by decide) (by decide) (q_ble rfl) ?_
    refine ev_goto (pc := 18) (tgt := 88) d_Mod_readItem_18 (by decide) ?_
    refine ev_sub (ls2 := []) [] rfl ?_
    exact e_Mod_readItem_88 t ok  hQ    x17.1 x17.2 hp
theorem d_Mod_region_0 : decode (m_c m_Mod_region) 0 = .ok (.aload_n 0, 1) := by decide +kernel
theorem d_Mod_region_1 : decode (m_c m_Mod_region) 1 = .ok (.bipush 65, 2) := by decide +kernel
theorem d_Mod_region_3 : decode (m_c m_Mod_region) 3 = .ok (.iconst 4, 1) := by decide +kernel
theorem d_Mod_region_4 : decode (m_c m_Mod_region) 4 = .ok (.invokevirtual 168, 3) := by decide +kernel
theorem d_Mod_region_7 : decode (m_c m_Mod_region) 7 = .ok (.istore_n 2, 1) := by decide +kernel
theorem d_Mod_region_8 : decode (m_c m_Mod_region) 8 = .ok (.aload_n 0, 1) := by decide +kernel
theorem d_Mod_region_9 : decode (m_c m_Mod_region) 9 = .ok (.aload_n 0, 1) := by decide +kernel
theorem d_Mod_region_10 : decode (m_c m_Mod_region) 10 = .ok (.getfield 33, 3) := by decide +kernel
theorem d_Mod_region_13 : decode (m_c m_Mod_region) 13 = .ok (.iload_n 2, 1) := by decide +kernel
theorem d_Mod_region_14 : decode (m_c m_Mod_region) 14 = .ok (.baload, 1) := by decide +kernel
theorem d_Mod_region_15 : decode (m_c m_Mod_region) 15 = .ok (.ifCond .eq 12, 3) := by decide +kernel
theorem d_Mod_region_18 : decode (m_c m_Mod_region) 18 = .ok (.iload_n 2, 1) := by decide +kernel
theorem d_Mod_region_19 : decode (m_c m_Mod_region) 19 = .ok (.iload_n 1, 1) := by decide +kernel
theorem d_Mod_region_20 : decode (m_c m_Mod_region) 20 = .ok (.if_icmp .eq 7, 3) := by decide +kernel
theorem d_Mod_region_23 : decode (m_c m_Mod_region) 23 = .ok (.iconst 1, 1) := by decide +kernel
theorem d_Mod_region_24 : decode (m_c m_Mod_region) 24 = .ok (.goto 4, 3) := by decide +kernel
theorem d_Mod_region_27 : decode (m_c m_Mod_region) 27 = .ok (.iconst 0, 1) := by decide +kernel
theorem d_Mod_region_28 : decode (m_c m_Mod_region) 28 = .ok (.invokevirtual 182, 3) := by decide +kernel
theorem d_Mod_region_31 : decode (m_c m_Mod_region) 31 = .ok (.iload_n 2, 1) := by decide +kernel
theorem d_Mod_region_32 : decode (m_c m_Mod_region) 32 = .ok (.ireturn, 1) := by decide +kernel
def p_Mod_region_28   (v2 : Int) (s0 : Int) (f g : q_F) : Option (Int × q_F × q_F) :=
  (p_Mod_fresh (s0) f g).bind fun x1 =>
  some (v2, x1.1, x1.2)
def p_Mod_region_27   (v2 : Int) (f g : q_F) : Option (Int × q_F × q_F) :=
  p_Mod_region_28   (v2) (0) f g
def p_Mod_region  (v1 : Int) (f g : q_F) : Option (Int × q_F × q_F) :=
  (p_Mod_letter (65) (4) f g).bind fun x1 =>
  if 0 ≤ x1.1 ∧ x1.1 < 4 then
    if q_sw (x1.2.1 67 (Int.toNat x1.1)) = 0 then
      p_Mod_region_27   (x1.1) x1.2.1 x1.2.2
    else
      if q_sw x1.1 = q_sw v1 then
        p_Mod_region_27   (x1.1) x1.2.1 x1.2.2
      else
        p_Mod_region_28   (x1.1) (1) x1.2.1 x1.2.2
  else none
theorem e_Mod_region_28 (t : q_V) (ok : ma_ok (q_G t))  {Q : Option Value → ma_H → Prop} {y : Int × q_F × q_F} (hQ : Q (some (ma_i y.1)) (q_h y.2.1 y.2.2))   (v2 : Int) (s0 : Int) (f g : q_F) (hp : p_Mod_region_28   v2 s0 f g = some y) : ma_Ev (q_G t) 2 45 0 0 m_Mod_region 28 [(2, ma_i (v2))] [ma_i (s0), q_a t (60)] (q_h f g) (ma_zr (q_G t) false Q) := by
  unfold p_Mod_region_28 at hp
  replace hp := q_bind hp
  obtain ⟨x1, hm2, hp⟩ := hp
  refine et_callVv (pc := 28) (f1 := x1.1) (g1 := x1.2) ok [ma_i (s0)] [] (cf_Mod_182 t) d_Mod_region_28 s_60 k_12 rfl (t_Mod_fresh t ok (s0) f g hm2 ⟨rfl, rfl⟩) rfl rfl (by decide) (by decide) (q_ble rfl) ?_
  refine ev_iload_n (pc := 31) d_Mod_region_31 rfl rfl ?_
  cases Option.some.inj hp
  exact et_iret (pc := 32) d_Mod_region_32 rfl hQ
theorem e_Mod_region_27 (t : q_V) (ok : ma_ok (q_G t))  {Q : Option Value → ma_H → Prop} {y : Int × q_F × q_F} (hQ : Q (some (ma_i y.1)) (q_h y.2.1 y.2.2))   (v2 : Int) (f g : q_F) (hp : p_Mod_region_27   v2 f g = some y) : ma_Ev (q_G t) 2 45 0 0 m_Mod_region 27 [(2, ma_i (v2))] [q_a t (60)] (q_h f g) (ma_zr (q_G t) false Q) := by
  unfold p_Mod_region_27 at hp
  refine ev_iconst (pc := 27) d_Mod_region_27 ?_
  refine ev_sub (ls2 := [(2, ma_i (v2))]) [0] rfl ?_
  exact e_Mod_region_28 t ok  hQ   (v2) (0) f g hp
theorem t_Mod_region (t : q_V) (ok : ma_ok (q_G t))  {Q : Option Value → ma_H → Prop} {y : Int × q_F × q_F} (v1 : Int) (f g : q_F) (hp : p_Mod_region  v1 f g = some y) (hQ : Q (some (ma_i y.1)) (q_h y.2.1 y.2.2)) : ma_Met (q_G t) false 2 45 0 0 m_Mod_region [q_a t (60), ma_i (v1)] (q_h f g) Q := by
  refine ma_met (by decide +kernel) (q_ble rfl) rfl ?_
  change ma_Ev (q_G t) 2 45 0 0 m_Mod_region 0 [(0, q_a t (60)), (1, ma_i (v1))] [] (q_h f g) (ma_zr (q_G t) false Q)
  unfold p_Mod_region at hp
  refine et_aload_n (pc := 0) d_Mod_region_0 rfl rfl ?_
  refine ev_bipush (pc := 1) d_Mod_region_1 rfl ?_
  refine ev_iconst (pc := 3) d_Mod_region_3 ?_
  replace hp := q_bind hp
  obtain ⟨x1, hm2, hp⟩ := hp
  refine et_callVi (pc := 4) (f1 := x1.2.1) (g1 := x1.2.2) ok [ma_i (65), ma_i (4)] [] (cf_Mod_168 t) d_Mod_region_4 s_60 k_12 rfl (t_Mod_letter t ok (65) (4) f g hm2 ⟨rfl, rfl⟩) rfl rfl (by decide) (by decide) (q_ble rfl) ?_
  refine ev_istore_n (pc := 7) d_Mod_region_7 rfl (by decide) [(2, _), (0, _), (1, _)] rfl ?_
  refine et_aload_n (pc := 8) d_Mod_region_8 rfl rfl ?_
  refine et_aload_n (pc := 9) d_Mod_region_9 rfl rfl ?_
  refine et_getr (pc := 10) ok (fl_Mod_33 t) rfl d_Mod_region_10 s_60 r_60_11 ?_
  refine ev_iload_n (pc := 13) d_Mod_region_13 rfl rfl ?_
  replace hp := q_if hp
  obtain ⟨hb3, hp⟩ := hp
  refine et_zald (pc := 14) d_Mod_region_14 s_67 hb3 (by decide) ?_
  refine et_if_eq (pc := 15) (tgt := 27) d_Mod_region_15 (by decide) (fun hj4 => ?_) (fun hj4 => ?_)
  · rw [if_pos hj4] at hp
    refine ev_sub (ls2 := [(2, ma_i (x1.1))]) [0] rfl ?_
    exact e_Mod_region_27 t ok  hQ   (x1.1) x1.2.1 x1.2.2 hp
  · rw [if_neg hj4] at hp
    refine ev_iload_n (pc := 18) d_Mod_region_18 rfl rfl ?_
    refine ev_iload_n (pc := 19) d_Mod_region_19 rfl rfl ?_
    refine et_icmp_eq (pc := 20) (tgt := 27) d_Mod_region_20 (by decide) (fun hj5 => ?_) (fun hj5 => ?_)
    · rw [if_pos hj5] at hp
      refine ev_sub (ls2 := [(2, ma_i (x1.1))]) [0] rfl ?_
      exact e_Mod_region_27 t ok  hQ   (x1.1) x1.2.1 x1.2.2 hp
    · rw [if_neg hj5] at hp
      refine ev_iconst (pc := 23) d_Mod_region_23 ?_
      refine ev_goto (pc := 24) (tgt := 28) d_Mod_region_24 (by decide) ?_
      refine ev_sub (ls2 := [(2, ma_i (x1.1))]) [0] rfl ?_
      exact e_Mod_region_28 t ok  hQ   (x1.1) (1) x1.2.1 x1.2.2 hp
theorem d_Mod_readSection_0 : decode (m_c m_Mod_readSection) 0 = .ok (.aload_n 0, 1) := by decide +kernel
theorem d_Mod_readSection_1 : decode (m_c m_Mod_readSection) 1 = .ok (.bipush 65, 2) := by decide +kernel
theorem d_Mod_readSection_3 : decode (m_c m_Mod_readSection) 3 = .ok (.bipush 8, 2) := by decide +kernel
theorem d_Mod_readSection_5 : decode (m_c m_Mod_readSection) 5 = .ok (.invokevirtual 168, 3) := by decide +kernel
theorem d_Mod_readSection_8 : decode (m_c m_Mod_readSection) 8 = .ok (.istore_n 1, 1) := by decide +kernel
theorem d_Mod_readSection_9 : decode (m_c m_Mod_readSection) 9 = .ok (.aload_n 0, 1) := by decide +kernel
theorem d_Mod_readSection_10 : decode (m_c m_Mod_readSection) 10 = .ok (.aload_n 0, 1) := by decide +kernel
theorem d_Mod_readSection_11 : decode (m_c m_Mod_readSection) 11 = .ok (.getfield 61, 3) := by decide +kernel
theorem d_Mod_readSection_14 : decode (m_c m_Mod_readSection) 14 = .ok (.iload_n 1, 1) := by decide +kernel
theorem d_Mod_readSection_15 : decode (m_c m_Mod_readSection) 15 = .ok (.baload, 1) := by decide +kernel
theorem d_Mod_readSection_16 : decode (m_c m_Mod_readSection) 16 = .ok (.ifCond .ne 7, 3) := by decide +kernel
theorem d_Mod_readSection_19 : decode (m_c m_Mod_readSection) 19 = .ok (.iconst 1, 1) := by decide +kernel
theorem d_Mod_readSection_20 : decode (m_c m_Mod_readSection) 20 = .ok (.goto 4, 3) := by decide +kernel
theorem d_Mod_readSection_23 : decode (m_c m_Mod_readSection) 23 = .ok (.iconst 0, 1) := by decide +kernel
theorem d_Mod_readSection_24 : decode (m_c m_Mod_readSection) 24 = .ok (.invokevirtual 182, 3) := by decide +kernel
theorem d_Mod_readSection_27 : decode (m_c m_Mod_readSection) 27 = .ok (.aload_n 0, 1) := by decide +kernel
theorem d_Mod_readSection_28 : decode (m_c m_Mod_readSection) 28 = .ok (.getfield 147, 3) := by decide +kernel
theorem d_Mod_readSection_31 : decode (m_c m_Mod_readSection) 31 = .ok (.ifCond .eq 4, 3) := by decide +kernel
theorem d_Mod_readSection_34 : decode (m_c m_Mod_readSection) 34 = .ok (.return_, 1) := by decide +kernel
theorem d_Mod_readSection_35 : decode (m_c m_Mod_readSection) 35 = .ok (.aload_n 0, 1) := by decide +kernel
theorem d_Mod_readSection_36 : decode (m_c m_Mod_readSection) 36 = .ok (.getfield 61, 3) := by decide +kernel
theorem d_Mod_readSection_39 : decode (m_c m_Mod_readSection) 39 = .ok (.iload_n 1, 1) := by decide +kernel
theorem d_Mod_readSection_40 : decode (m_c m_Mod_readSection) 40 = .ok (.iconst 1, 1) := by decide +kernel
theorem d_Mod_readSection_41 : decode (m_c m_Mod_readSection) 41 = .ok (.bastore, 1) := by decide +kernel
theorem d_Mod_readSection_42 : decode (m_c m_Mod_readSection) 42 = .ok (.aload_n 0, 1) := by decide +kernel
theorem d_Mod_readSection_43 : decode (m_c m_Mod_readSection) 43 = .ok (.getfield 67, 3) := by decide +kernel
theorem d_Mod_readSection_46 : decode (m_c m_Mod_readSection) 46 = .ok (.iload_n 1, 1) := by decide +kernel
theorem d_Mod_readSection_47 : decode (m_c m_Mod_readSection) 47 = .ok (.aload_n 0, 1) := by decide +kernel
theorem d_Mod_readSection_48 : decode (m_c m_Mod_readSection) 48 = .ok (.getfield 196, 3) := by decide +kernel
theorem d_Mod_readSection_51 : decode (m_c m_Mod_readSection) 51 = .ok (.iastore, 1) := by decide +kernel
theorem d_Mod_readSection_52 : decode (m_c m_Mod_readSection) 52 = .ok (.aload_n 0, 1) := by decide +kernel
theorem d_Mod_readSection_53 : decode (m_c m_Mod_readSection) 53 = .ok (.getfield 58, 3) := by decide +kernel
theorem d_Mod_readSection_56 : decode (m_c m_Mod_readSection) 56 = .ok (.aload_n 0, 1) := by decide +kernel
theorem d_Mod_readSection_57 : decode (m_c m_Mod_readSection) 57 = .ok (.getfield 196, 3) := by decide +kernel
theorem d_Mod_readSection_60 : decode (m_c m_Mod_readSection) 60 = .ok (.iload_n 1, 1) := by decide +kernel
theorem d_Mod_readSection_61 : decode (m_c m_Mod_readSection) 61 = .ok (.iastore, 1) := by decide +kernel
theorem d_Mod_readSection_62 : decode (m_c m_Mod_readSection) 62 = .ok (.aload_n 0, 1) := by decide +kernel
theorem d_Mod_readSection_63 : decode (m_c m_Mod_readSection) 63 = .ok (.dup, 1) := by decide +kernel
theorem d_Mod_readSection_64 : decode (m_c m_Mod_readSection) 64 = .ok (.getfield 196, 3) := by decide +kernel
theorem d_Mod_readSection_67 : decode (m_c m_Mod_readSection) 67 = .ok (.iconst 1, 1) := by decide +kernel
theorem d_Mod_readSection_68 : decode (m_c m_Mod_readSection) 68 = .ok (.iadd, 1) := by decide +kernel
theorem d_Mod_readSection_69 : decode (m_c m_Mod_readSection) 69 = .ok (.putfield 196, 3) := by decide +kernel
theorem d_Mod_readSection_72 : decode (m_c m_Mod_readSection) 72 = .ok (.aload_n 0, 1) := by decide +kernel
theorem d_Mod_readSection_73 : decode (m_c m_Mod_readSection) 73 = .ok (.getfield 70, 3) := by decide +kernel
theorem d_Mod_readSection_76 : decode (m_c m_Mod_readSection) 76 = .ok (.iload_n 1, 1) := by decide +kernel
theorem d_Mod_readSection_77 : decode (m_c m_Mod_readSection) 77 = .ok (.aload_n 0, 1) := by decide +kernel
theorem d_Mod_readSection_78 : decode (m_c m_Mod_readSection) 78 = .ok (.getfield 161, 3) := by decide +kernel
theorem d_Mod_readSection_81 : decode (m_c m_Mod_readSection) 81 = .ok (.iastore, 1) := by decide +kernel
theorem d_Mod_readSection_82 : decode (m_c m_Mod_readSection) 82 = .ok (.aload_n 0, 1) := by decide +kernel
theorem d_Mod_readSection_83 : decode (m_c m_Mod_readSection) 83 = .ok (.bipush 64, 2) := by decide +kernel
theorem d_Mod_readSection_85 : decode (m_c m_Mod_readSection) 85 = .ok (.invokevirtual 154, 3) := by decide +kernel
theorem d_Mod_readSection_88 : decode (m_c m_Mod_readSection) 88 = .ok (.ifCond .eq 7, 3) := by decide +kernel
theorem d_Mod_readSection_91 : decode (m_c m_Mod_readSection) 91 = .ok (.aload_n 0, 1) := by decide +kernel
theorem d_Mod_readSection_92 : decode (m_c m_Mod_readSection) 92 = .ok (.invokevirtual 199, 3) := by decide +kernel
theorem d_Mod_readSection_95 : decode (m_c m_Mod_readSection) 95 = .ok (.aload_n 0, 1) := by decide +kernel
theorem d_Mod_readSection_96 : decode (m_c m_Mod_readSection) 96 = .ok (.getfield 73, 3) := by decide +kernel
theorem d_Mod_readSection_99 : decode (m_c m_Mod_readSection) 99 = .ok (.iload_n 1, 1) := by decide +kernel
theorem d_Mod_readSection_100 : decode (m_c m_Mod_readSection) 100 = .ok (.aload_n 0, 1) := by decide +kernel
theorem d_Mod_readSection_101 : decode (m_c m_Mod_readSection) 101 = .ok (.getfield 161, 3) := by decide +kernel
theorem d_Mod_readSection_104 : decode (m_c m_Mod_readSection) 104 = .ok (.iastore, 1) := by decide +kernel
theorem d_Mod_readSection_105 : decode (m_c m_Mod_readSection) 105 = .ok (.aload_n 0, 1) := by decide +kernel
theorem d_Mod_readSection_106 : decode (m_c m_Mod_readSection) 106 = .ok (.bipush 123, 2) := by decide +kernel
theorem d_Mod_readSection_108 : decode (m_c m_Mod_readSection) 108 = .ok (.invokevirtual 175, 3) := by decide +kernel
theorem d_Mod_readSection_111 : decode (m_c m_Mod_readSection) 111 = .ok (.aload_n 0, 1) := by decide +kernel
theorem d_Mod_readSection_112 : decode (m_c m_Mod_readSection) 112 = .ok (.getfield 85, 3) := by decide +kernel
theorem d_Mod_readSection_115 : decode (m_c m_Mod_readSection) 115 = .ok (.iload_n 1, 1) := by decide +kernel
theorem d_Mod_readSection_116 : decode (m_c m_Mod_readSection) 116 = .ok (.aload_n 0, 1) := by decide +kernel
theorem d_Mod_readSection_117 : decode (m_c m_Mod_readSection) 117 = .ok (.getfield 186, 3) := by decide +kernel
theorem d_Mod_readSection_120 : decode (m_c m_Mod_readSection) 120 = .ok (.iastore, 1) := by decide +kernel
theorem d_Mod_readSection_121 : decode (m_c m_Mod_readSection) 121 = .ok (.aload_n 0, 1) := by decide +kernel
theorem d_Mod_readSection_122 : decode (m_c m_Mod_readSection) 122 = .ok (.getfield 147, 3) := by decide +kernel
theorem d_Mod_readSection_125 : decode (m_c m_Mod_readSection) 125 = .ok (.ifCond .ne 20, 3) := by decide +kernel
theorem d_Mod_readSection_128 : decode (m_c m_Mod_readSection) 128 = .ok (.aload_n 0, 1) := by decide +kernel
theorem d_Mod_readSection_129 : decode (m_c m_Mod_readSection) 129 = .ok (.bipush 125, 2) := by decide +kernel
theorem d_Mod_readSection_131 : decode (m_c m_Mod_readSection) 131 = .ok (.invokevirtual 154, 3) := by decide +kernel
theorem d_Mod_readSection_134 : decode (m_c m_Mod_readSection) 134 = .ok (.ifCond .ne 11, 3) := by decide +kernel
theorem d_Mod_readSection_137 : decode (m_c m_Mod_readSection) 137 = .ok (.aload_n 0, 1) := by decide +kernel
theorem d_Mod_readSection_138 : decode (m_c m_Mod_readSection) 138 = .ok (.iload_n 1, 1) := by decide +kernel
theorem d_Mod_readSection_139 : decode (m_c m_Mod_readSection) 139 = .ok (.invokevirtual 202, 3) := by decide +kernel
theorem d_Mod_readSection_142 : decode (m_c m_Mod_readSection) 142 = .ok (.goto (-21), 3) := by decide +kernel
theorem d_Mod_readSection_145 : decode (m_c m_Mod_readSection) 145 = .ok (.aload_n 0, 1) := by decide +kernel
theorem d_Mod_readSection_146 : decode (m_c m_Mod_readSection) 146 = .ok (.getfield 88, 3) := by decide +kernel
theorem d_Mod_readSection_149 : decode (m_c m_Mod_readSection) 149 = .ok (.iload_n 1, 1) := by decide +kernel
theorem d_Mod_readSection_150 : decode (m_c m_Mod_readSection) 150 = .ok (.aload_n 0, 1) := by decide +kernel
theorem d_Mod_readSection_151 : decode (m_c m_Mod_readSection) 151 = .ok (.getfield 186, 3) := by decide +kernel
theorem d_Mod_readSection_154 : decode (m_c m_Mod_readSection) 154 = .ok (.aload_n 0, 1) := by decide +kernel
theorem d_Mod_readSection_155 : decode (m_c m_Mod_readSection) 155 = .ok (.getfield 85, 3) := by decide +kernel
theorem d_Mod_readSection_158 : decode (m_c m_Mod_readSection) 158 = .ok (.iload_n 1, 1) := by decide +kernel
theorem d_Mod_readSection_159 : decode (m_c m_Mod_readSection) 159 = .ok (.iaload, 1) := by decide +kernel
theorem d_Mod_readSection_160 : decode (m_c m_Mod_readSection) 160 = .ok (.isub, 1) := by decide +kernel
theorem d_Mod_readSection_161 : decode (m_c m_Mod_readSection) 161 = .ok (.iastore, 1) := by decide +kernel
theorem d_Mod_readSection_162 : decode (m_c m_Mod_readSection) 162 = .ok (.aload_n 0, 1) := by decide +kernel
theorem d_Mod_readSection_163 : decode (m_c m_Mod_readSection) 163 = .ok (.bipush 62, 2) := by decide +kernel
theorem d_Mod_readSection_165 : decode (m_c m_Mod_readSection) 165 = .ok (.invokevirtual 175, 3) := by decide +kernel
theorem d_Mod_readSection_168 : decode (m_c m_Mod_readSection) 168 = .ok (.aload_n 0, 1) := by decide +kernel
theorem d_Mod_readSection_169 : decode (m_c m_Mod_readSection) 169 = .ok (.getfield 76, 3) := by decide +kernel
theorem d_Mod_readSection_172 : decode (m_c m_Mod_readSection) 172 = .ok (.iload_n 1, 1) := by decide +kernel
theorem d_Mod_readSection_173 : decode (m_c m_Mod_readSection) 173 = .ok (.aload_n 0, 1) := by decide +kernel
theorem d_Mod_readSection_174 : decode (m_c m_Mod_readSection) 174 = .ok (.iconst (-1), 1) := by decide +kernel
theorem d_Mod_readSection_175 : decode (m_c m_Mod_readSection) 175 = .ok (.invokevirtual 205, 3) := by decide +kernel
theorem d_Mod_readSection_178 : decode (m_c m_Mod_readSection) 178 = .ok (.iastore, 1) := by decide +kernel
theorem d_Mod_readSection_179 : decode (m_c m_Mod_readSection) 179 = .ok (.aload_n 0, 1) := by decide +kernel
theorem d_Mod_readSection_180 : decode (m_c m_Mod_readSection) 180 = .ok (.getfield 79, 3) := by decide +kernel
theorem d_Mod_readSection_183 : decode (m_c m_Mod_readSection) 183 = .ok (.iload_n 1, 1) := by decide +kernel
theorem d_Mod_readSection_184 : decode (m_c m_Mod_readSection) 184 = .ok (.aload_n 0, 1) := by decide +kernel
theorem d_Mod_readSection_185 : decode (m_c m_Mod_readSection) 185 = .ok (.bipush 94, 2) := by decide +kernel
theorem d_Mod_readSection_187 : decode (m_c m_Mod_readSection) 187 = .ok (.invokevirtual 154, 3) := by decide +kernel
theorem d_Mod_readSection_190 : decode (m_c m_Mod_readSection) 190 = .ok (.ifCond .eq 16, 3) := by decide +kernel
theorem d_Mod_readSection_193 : decode (m_c m_Mod_readSection) 193 = .ok (.aload_n 0, 1) := by decide +kernel
theorem d_Mod_readSection_194 : decode (m_c m_Mod_readSection) 194 = .ok (.aload_n 0, 1) := by decide +kernel
theorem d_Mod_readSection_195 : decode (m_c m_Mod_readSection) 195 = .ok (.getfield 76, 3) := by decide +kernel
theorem d_Mod_readSection_198 : decode (m_c m_Mod_readSection) 198 = .ok (.iload_n 1, 1) := by decide +kernel
theorem d_Mod_readSection_199 : decode (m_c m_Mod_readSection) 199 = .ok (.iaload, 1) := by decide +kernel
theorem d_Mod_readSection_200 : decode (m_c m_Mod_readSection) 200 = .ok (.invokevirtual 205, 3) := by decide +kernel
theorem d_Mod_readSection_203 : decode (m_c m_Mod_readSection) 203 = .ok (.goto 4, 3) := by decide +kernel
theorem d_Mod_readSection_206 : decode (m_c m_Mod_readSection) 206 = .ok (.iconst (-1), 1) := by decide +kernel
theorem d_Mod_readSection_207 : decode (m_c m_Mod_readSection) 207 = .ok (.iastore, 1) := by decide +kernel
theorem d_Mod_readSection_208 : decode (m_c m_Mod_readSection) 208 = .ok (.aload_n 0, 1) := by decide +kernel
theorem d_Mod_readSection_209 : decode (m_c m_Mod_readSection) 209 = .ok (.getfield 82, 3) := by decide +kernel
theorem d_Mod_readSection_212 : decode (m_c m_Mod_readSection) 212 = .ok (.iload_n 1, 1) := by decide +kernel
theorem d_Mod_readSection_213 : decode (m_c m_Mod_readSection) 213 = .ok (.aload_n 0, 1) := by decide +kernel
theorem d_Mod_readSection_214 : decode (m_c m_Mod_readSection) 214 = .ok (.getfield 79, 3) := by decide +kernel
theorem d_Mod_readSection_217 : decode (m_c m_Mod_readSection) 217 = .ok (.iload_n 1, 1) := by decide +kernel
theorem d_Mod_readSection_218 : decode (m_c m_Mod_readSection) 218 = .ok (.iaload, 1) := by decide +kernel
theorem d_Mod_readSection_219 : decode (m_c m_Mod_readSection) 219 = .ok (.ifCond .ge 12, 3) := by decide +kernel
theorem d_Mod_readSection_222 : decode (m_c m_Mod_readSection) 222 = .ok (.aload_n 0, 1) := by decide +kernel
theorem d_Mod_readSection_223 : decode (m_c m_Mod_readSection) 223 = .ok (.bipush 33, 2) := by decide +kernel
theorem d_Mod_readSection_225 : decode (m_c m_Mod_readSection) 225 = .ok (.invokevirtual 154, 3) := by decide +kernel
theorem d_Mod_readSection_228 : decode (m_c m_Mod_readSection) 228 = .ok (.ifCond .ne 7, 3) := by decide +kernel
theorem d_Mod_readSection_231 : decode (m_c m_Mod_readSection) 231 = .ok (.iconst 1, 1) := by decide +kernel
theorem d_Mod_readSection_232 : decode (m_c m_Mod_readSection) 232 = .ok (.goto 4, 3) := by decide +kernel
theorem d_Mod_readSection_235 : decode (m_c m_Mod_readSection) 235 = .ok (.iconst 0, 1) := by decide +kernel
theorem d_Mod_readSection_236 : decode (m_c m_Mod_readSection) 236 = .ok (.bastore, 1) := by decide +kernel
theorem d_Mod_readSection_237 : decode (m_c m_Mod_readSection) 237 = .ok (.return_, 1) := by decide +kernel
def p_Mod_readSection_236   (s0 : Int) (s1 : Int) (f g : q_F) : Option (q_F × q_F) :=
  if 0 ≤ s1 ∧ s1 < 8 then
    q_let (ma_up f 83 (Int.toNat s1) (q_nz s0)) fun f2 =>
    some (f2, g)
  else none
def p_Mod_readSection_231   (s0 : Int) (f g : q_F) : Option (q_F × q_F) :=
  p_Mod_readSection_236   (1) (s0) f g
def p_Mod_readSection_207   (v1 : Int) (s0 : Int) (s1 : Int) (f g : q_F) : Option (q_F × q_F) :=
  if 0 ≤ s1 ∧ s1 < 8 then
    q_let (ma_up f 82 (Int.toNat s1) s0) fun f2 =>
    if 0 ≤ v1 ∧ v1 < 8 then
      if 0 ≤ q_sw (f2 82 (Int.toNat v1)) then
        p_Mod_readSection_231   (v1) f2 g
      else
        (p_Mod_takes (33) f2 g).bind fun x5 =>
        if q_sw x5.1 = 0 then
          p_Mod_readSection_231   (v1) x5.2.1 x5.2.2
        else
          p_Mod_readSection_236   (0) (v1) x5.2.1 x5.2.2
    else none
  else none
def p_Mod_readSection_145   (v1 : Int) (f g : q_F) : Option (q_F × q_F) :=
  if 0 ≤ v1 ∧ v1 < 8 then
    if 0 ≤ v1 ∧ v1 < 8 then
      q_let (ma_up f 85 (Int.toNat v1) ((f 60 37) - (f 84 (Int.toNat v1)))) fun f3 =>
      (p_Mod_take (62) f3 g).bind fun x4 =>
      (p_Mod_region (-1) x4.1 x4.2).bind fun x6 =>
      if 0 ≤ v1 ∧ v1 < 8 then
        q_let (ma_up x6.2.1 81 (Int.toNat v1) x6.1) fun f9 =>
        (p_Mod_takes (94) f9 x6.2.2).bind fun x10 =>
        if q_sw x10.1 = 0 then
          p_Mod_readSection_207   (v1) (-1) (v1) x10.2.1 x10.2.2
        else
          if 0 ≤ v1 ∧ v1 < 8 then
            (p_Mod_region (x10.2.1 81 (Int.toNat v1)) x10.2.1 x10.2.2).bind fun x14 =>
            p_Mod_readSection_207   (v1) (x14.1) (v1) x14.2.1 x14.2.2
          else none
      else none
    else none
  else none
def p_Mod_readSection_121   : Nat → Int → q_F → q_F → Option (q_F × q_F)
  | 0, _, _, _ => none
  | n + 1, v1, f, g =>
    if q_sw (f 60 9) = 0 then
      (p_Mod_takes (125) f g).bind fun x2 =>
      if q_sw x2.1 = 0 then
        (p_Mod_readItem (v1) x2.2.1 x2.2.2).bind fun x5 =>
        (p_Mod_readSection_121   n) (v1) x5.1 x5.2
      else
        p_Mod_readSection_145   (v1) x2.2.1 x2.2.2
    else
      p_Mod_readSection_145   (v1) f g
def p_Mod_readSection_95   (v1 : Int) (f g : q_F) : Option (q_F × q_F) :=
  if 0 ≤ v1 ∧ v1 < 8 then
    q_let (ma_up f 80 (Int.toNat v1) (f 60 14)) fun f2 =>
    (p_Mod_take (123) f2 g).bind fun x3 =>
    if 0 ≤ v1 ∧ v1 < 8 then
      q_let (ma_up x3.1 84 (Int.toNat v1) (x3.1 60 37)) fun f6 =>
      p_Mod_readSection_121   1000 (v1) f6 x3.2
    else none
  else none
def p_Mod_readSection_24   (v1 : Int) (s0 : Int) (f g : q_F) : Option (q_F × q_F) :=
  (p_Mod_fresh (s0) f g).bind fun x1 =>
  if q_sw (x1.1 60 9) = 0 then
    if 0 ≤ v1 ∧ v1 < 8 then
      q_let (ma_up x1.1 76 (Int.toNat v1) (q_nz 1)) fun f5 =>
      if 0 ≤ v1 ∧ v1 < 8 then
        q_let (ma_up f5 78 (Int.toNat v1) (f5 60 22)) fun f7 =>
        if 0 ≤ (f7 60 22) ∧ (f7 60 22) < 8 then
          q_let (ma_up f7 75 (Int.toNat (f7 60 22)) v1) fun f9 =>
          q_let (ma_up f9 60 22 ((f9 60 22) + 1)) fun f10 =>
          if 0 ≤ v1 ∧ v1 < 8 then
            q_let (ma_up f10 79 (Int.toNat v1) (f10 60 14)) fun f12 =>
            (p_Mod_takes (64) f12 x1.2).bind fun x13 =>
            if q_sw x13.1 = 0 then
              p_Mod_readSection_95   (v1) x13.2.1 x13.2.2
            else
              (p_Mod_expression  x13.2.1 x13.2.2).bind fun x16 =>
              p_Mod_readSection_95   (v1) x16.1 x16.2
          else none
        else none
      else none
    else none
  else
    some (x1.1, x1.2)
def p_Mod_readSection   (f g : q_F) : Option (q_F × q_F) :=
  (p_Mod_letter (65) (8) f g).bind fun x1 =>
  if 0 ≤ x1.1 ∧ x1.1 < 8 then
    if q_sw (x1.2.1 76 (Int.toNat x1.1)) = 0 then
      p_Mod_readSection_24   (x1.1) (1) x1.2.1 x1.2.2
    else
      p_Mod_readSection_24   (x1.1) (0) x1.2.1 x1.2.2
  else none
theorem e_Mod_readSection_236 (t : q_V) (ok : ma_ok (q_G t))  {Q : Option Value → ma_H → Prop} {y : q_F × q_F} (hQ : Q (none) (q_h y.1 y.2))   (s0 : Int) (s1 : Int) (f g : q_F) (hp : p_Mod_readSection_236   s0 s1 f g = some y) : ma_Ev (q_G t) 4 92 0 0 m_Mod_readSection 236 [] [ma_i (s0), ma_i (s1), q_a t (83)] (q_h f g) (ma_zr (q_G t) false Q) := by
  unfold p_Mod_readSection_236 at hp
  replace hp := q_if hp
  obtain ⟨hb1, hp⟩ := hp
  refine et_zast (pc := 236) d_Mod_readSection_236 s_83 hb1 (by decide) ?_
  replace hp := q_let_of hp
  obtain ⟨f2, hz, hp⟩ := hp
  rw [← hz]
  clear hz
  cases Option.some.inj hp
  exact et_ret (pc := 237) d_Mod_readSection_237 rfl hQ
theorem e_Mod_readSection_231 (t : q_V) (ok : ma_ok (q_G t))  {Q : Option Value → ma_H → Prop} {y : q_F × q_F} (hQ : Q (none) (q_h y.1 y.2))   (s0 : Int) (f g : q_F) (hp : p_Mod_readSection_231   s0 f g = some y) : ma_Ev (q_G t) 4 92 0 0 m_Mod_readSection 231 [] [ma_i (s0), q_a t (83)] (q_h f g) (ma_zr (q_G t) false Q) := by
  unfold p_Mod_readSection_231 at hp
  refine ev_iconst (pc := 231) d_Mod_readSection_231 ?_
  refine ev_goto (pc := 232) (tgt := 236) d_Mod_readSection_232 (by decide) ?_
  refine ev_sub (ls2 := []) [] rfl ?_
  exact e_Mod_readSection_236 t ok  hQ   (1) (s0) f g hp
theorem e_Mod_readSection_207 (t : q_V) (ok : ma_ok (q_G t))  {Q : Option Value → ma_H → Prop} {y : q_F × q_F} (hQ : Q (none) (q_h y.1 y.2))   (v1 : Int) (s0 : Int) (s1 : Int) (f g : q_F) (hp : p_Mod_readSection_207   v1 s0 s1 f g = some y) : ma_Ev (q_G t) 4 92 0 0 m_Mod_readSection 207 [(0, q_a t (60)), (1, ma_i (v1))] [ma_i (s0), ma_i (s1), q_a t (82)] (q_h f g) (ma_zr (q_G t) false Q) := by
  unfold p_Mod_readSection_207 at hp
  replace hp := q_if hp
  obtain ⟨hb1, hp⟩ := hp
  refine et_iast (pc := 207) d_Mod_readSection_207 s_82 hb1 (by decide) ?_
  replace hp := q_let_of hp
  obtain ⟨f2, hz, hp⟩ := hp
  rw [← hz]
  clear hz
  refine et_aload_n (pc := 208) d_Mod_readSection_208 rfl rfl ?_
  refine et_getr (pc := 209) ok (fl_Mod_82 t) rfl d_Mod_readSection_209 s_60 r_60_31 ?_
  refine ev_iload_n (pc := 212) d_Mod_readSection_212 rfl rfl ?_
  refine et_aload_n (pc := 213) d_Mod_readSection_213 rfl rfl ?_
  refine et_getr (pc := 214) ok (fl_Mod_79 t) rfl d_Mod_readSection_214 s_60 r_60_30 ?_
  refine ev_iload_n (pc := 217) d_Mod_readSection_217 rfl rfl ?_
  replace hp := q_if hp
  obtain ⟨hb3, hp⟩ := hp
  refine et_iald (pc := 218) d_Mod_readSection_218 s_82 hb3 (by decide) ?_
  refine et_if_ge (pc := 219) (tgt := 231) d_Mod_readSection_219 (by decide) (fun hj4 => ?_) (fun hj4 => ?_)
  · rw [if_pos hj4] at hp
    refine ev_sub (ls2 := []) [] rfl ?_
    exact e_Mod_readSection_231 t ok  hQ   (v1) f2 g hp
  · rw [if_neg hj4] at hp
    refine et_aload_n (pc := 222) d_Mod_readSection_222 rfl rfl ?_
    refine ev_bipush (pc := 223) d_Mod_readSection_223 rfl ?_
    replace hp := q_bind hp
    obtain ⟨x5, hm6, hp⟩ := hp
    refine et_callVi (pc := 225) (f1 := x5.2.1) (g1 := x5.2.2) ok [ma_i (33)] [ma_i (v1), q_a t (83)] (cf_Mod_154 t) d_Mod_readSection_225 s_60 k_12 rfl (t_Mod_takes t ok (33) f2 g hm6 ⟨rfl, rfl⟩) rfl rfl (by decide) (by decide) (q_ble rfl) ?_
    refine et_if_ne (pc := 228) (tgt := 235) d_Mod_readSection_228 (by decide) (fun hj7 => ?_) (fun hj7 => ?_)
    · rw [if_neg hj7] at hp
      refine ev_iconst (pc := 235) d_Mod_readSection_235 ?_
      refine ev_sub (ls2 := []) [] rfl ?_
      exact e_Mod_readSection_236 t ok  hQ   (0) (v1) x5.2.1 x5.2.2 hp
    · rw [if_pos hj7] at hp
      refine ev_sub (ls2 := []) [] rfl ?_
      exact e_Mod_readSection_231 t ok  hQ   (v1) x5.2.1 x5.2.2 hp
theorem e_Mod_readSection_145 (t : q_V) (ok : ma_ok (q_G t))  {Q : Option Value → ma_H → Prop} {y : q_F × q_F} (hQ : Q (none) (q_h y.1 y.2))   (v1 : Int) (f g : q_F) (hp : p_Mod_readSection_145   v1 f g = some y) : ma_Ev (q_G t) 4 92 0 0 m_Mod_readSection 145 [(0, q_a t (60)), (1, ma_i (v1))] [] (q_h f g) (ma_zr (q_G t) false Q) := by
  unfold p_Mod_readSection_145 at hp
  refine et_aload_n (pc := 145) d_Mod_readSection_145 rfl rfl ?_
  refine et_getr (pc := 146) ok (fl_Mod_88 t) rfl d_Mod_readSection_146 s_60 r_60_33 ?_
  refine ev_iload_n (pc := 149) d_Mod_readSection_149 rfl rfl ?_
  refine et_aload_n (pc := 150) d_Mod_readSection_150 rfl rfl ?_
  refine et_geti (pc := 151) ok (fl_Mod_186 t) rfl d_Mod_readSection_151 s_60 ?_
  refine et_aload_n (pc := 154) d_Mod_readSection_154 rfl rfl ?_
  refine et_getr (pc := 155) ok (fl_Mod_85 t) rfl d_Mod_readSection_155 s_60 r_60_32 ?_
  refine ev_iload_n (pc := 158) d_Mod_readSection_158 rfl rfl ?_
  replace hp := q_if hp
  obtain ⟨hb1, hp⟩ := hp
  refine et_iald (pc := 159) d_Mod_readSection_159 s_84 hb1 (by decide) ?_
  refine ev_isub (pc := 160) d_Mod_readSection_160 ?_
  replace hp := q_if hp
  obtain ⟨hb2, hp⟩ := hp
  refine et_iast (pc := 161) d_Mod_readSection_161 s_85 hb2 (by decide) ?_
  replace hp := q_let_of hp
  obtain ⟨f3, hz, hp⟩ := hp
  rw [← hz]
  clear hz
  refine et_aload_n (pc := 162) d_Mod_readSection_162 rfl rfl ?_
  refine ev_bipush (pc := 163) d_Mod_readSection_163 rfl ?_
  replace hp := q_bind hp
  obtain ⟨x4, hm5, hp⟩ := hp
  refine et_callVv (pc := 165) (f1 := x4.1) (g1 := x4.2) ok [ma_i (62)] [] (cf_Mod_175 t) d_Mod_readSection_165 s_60 k_12 rfl (t_Mod_take t ok (62) f3 g hm5 ⟨rfl, rfl⟩) rfl rfl (by decide) (by decide) (q_ble rfl) ?_
  refine et_aload_n (pc := 168) d_Mod_readSection_168 rfl rfl ?_
  refine et_getr (pc := 169) ok (fl_Mod_76 t) rfl d_Mod_readSection_169 s_60 r_60_29 ?_
  refine ev_iload_n (pc := 172) d_Mod_readSection_172 rfl rfl ?_
  refine et_aload_n (pc := 173) d_Mod_readSection_173 rfl rfl ?_
  refine ev_iconst (pc := 174) d_Mod_readSection_174 ?_
  replace hp := q_bind hp
  obtain ⟨x6, hm7, hp⟩ := hp
  refine et_callVi (pc := 175) (f1 := x6.2.1) (g1 := x6.2.2) ok [ma_i (-1)] [ma_i (v1), q_a t (81)] (cf_Mod_205 t) d_Mod_readSection_175 s_60 k_12 rfl (t_Mod_region t ok (-1) x4.1 x4.2 hm7 ⟨rfl, rfl⟩) rfl rfl (by decide) (by decide) (q_ble rfl) ?_
  replace hp := q_if hp
  obtain ⟨hb8, hp⟩ := hp
  refine et_iast (pc := 178) d_Mod_readSection_178 s_81 hb8 (by decide) ?_
  replace hp := q_let_of hp
  obtain ⟨f9, hz, hp⟩ := hp
  rw [← hz]
  clear hz
  refine et_aload_n (pc := 179) d_Mod_readSection_179 rfl rfl ?_
  refine et_getr (pc := 180) ok (fl_Mod_79 t) rfl d_Mod_readSection_180 s_60 r_60_30 ?_
  refine ev_iload_n (pc := 183) d_Mod_readSection_183 rfl rfl ?_
  refine et_aload_n (pc := 184) d_Mod_readSection_184 rfl rfl ?_
  refine ev_bipush (pc := 185) d_Mod_readSection_185 rfl ?_
  replace hp := q_bind hp
  obtain ⟨x10, hm11, hp⟩ := hp
  refine et_callVi (pc := 187) (f1 := x10.2.1) (g1 := x10.2.2) ok [ma_i (94)] [ma_i (v1), q_a t (82)] (cf_Mod_154 t) d_Mod_readSection_187 s_60 k_12 rfl (t_Mod_takes t ok (94) f9 x6.2.2 hm11 ⟨rfl, rfl⟩) rfl rfl (by decide) (by decide) (q_ble rfl) ?_
  refine et_if_eq (pc := 190) (tgt := 206) d_Mod_readSection_190 (by decide) (fun hj12 => ?_) (fun hj12 => ?_)
  · rw [if_pos hj12] at hp
    refine ev_iconst (pc := 206) d_Mod_readSection_206 ?_
    refine ev_sub (ls2 := [(0, q_a t (60)), (1, ma_i (v1))]) [0, 1] rfl ?_
    exact e_Mod_readSection_207 t ok  hQ   (v1) (-1) (v1) x10.2.1 x10.2.2 hp
  · rw [if_neg hj12] at hp
    refine et_aload_n (pc := 193) d_Mod_readSection_193 rfl rfl ?_
    refine et_aload_n (pc := 194) d_Mod_readSection_194 rfl rfl ?_
    refine et_getr (pc := 195) ok (fl_Mod_76 t) rfl d_Mod_readSection_195 s_60 r_60_29 ?_
    refine ev_iload_n (pc := 198) d_Mod_readSection_198 rfl rfl ?_
    replace hp := q_if hp
    obtain ⟨hb13, hp⟩ := hp
    refine et_iald (pc := 199) d_Mod_readSection_199 s_81 hb13 (by decide) ?_
    replace hp := q_bind hp
    obtain ⟨x14, hm15, hp⟩ := hp
    refine et_callVi (pc := 200) (f1 := x14.2.1) (g1 := x14.2.2) ok [ma_i (x10.2.1 81 (Int.toNat v1))] [ma_i (v1), q_a t (82)] (cf_Mod_205 t) d_Mod_readSection_200 s_60 k_12 rfl (t_Mod_region t ok (x10.2.1 81 (Int.toNat v1)) x10.2.1 x10.2.2 hm15 ⟨rfl, rfl⟩) rfl rfl (by decide) (by decide) (q_ble rfl) ?_
    refine ev_goto (pc := 203) (tgt := 207) d_Mod_readSection_203 (by decide) ?_
    refine ev_sub (ls2 := [(0, q_a t (60)), (1, ma_i (v1))]) [0, 1] rfl ?_
    exact e_Mod_readSection_207 t ok  hQ   (v1) (x14.1) (v1) x14.2.1 x14.2.2 hp
theorem e_Mod_readSection_121 (t : q_V) (ok : ma_ok (q_G t))  {Q : Option Value → ma_H → Prop} {y : q_F × q_F} (hQ : Q (none) (q_h y.1 y.2))   : ∀ (n : Nat) (v1 : Int) (f g : q_F), p_Mod_readSection_121   n v1 f g = some y → ma_Ev (q_G t) 4 92 0 0 m_Mod_readSection 121 [(0, q_a t (60)), (1, ma_i (v1))] [] (q_h f g) (ma_zr (q_G t) false Q) := by
  intro n
  induction n with
  | zero =>
    intro v1 f g hp
    rw [p_Mod_readSection_121] at hp
    cases hp
  | succ n ih =>
    intro v1 f g hp
    rw [p_Mod_readSection_121] at hp
    refine et_aload_n (pc := 121) d_Mod_readSection_121 rfl rfl ?_
    refine et_geti (pc := 122) ok (fl_Mod_147 t) rfl d_Mod_readSection_122 s_60 ?_
    refine et_if_ne (pc := 125) (tgt := 145) d_Mod_readSection_125 (by decide) (fun hj1 => ?_) (fun hj1 => ?_)
    · rw [if_neg hj1] at hp
      refine ev_sub (ls2 := [(0, q_a t (60)), (1, ma_i (v1))]) [0, 1] rfl ?_
      exact e_Mod_readSection_145 t ok  hQ   (v1) f g hp
    · rw [if_pos hj1] at hp
      refine et_aload_n (pc := 128) d_Mod_readSection_128 rfl rfl ?_
      refine ev_bipush (pc := 129) d_Mod_readSection_129 rfl ?_
      replace hp := q_bind hp
      obtain ⟨x2, hm3, hp⟩ := hp
      refine et_callVi (pc := 131) (f1 := x2.2.1) (g1 := x2.2.2) ok [ma_i (125)] [] (cf_Mod_154 t) d_Mod_readSection_131 s_60 k_12 rfl (t_Mod_takes t ok (125) f g hm3 ⟨rfl, rfl⟩) rfl rfl (by decide) (by decide) (q_ble rfl) ?_
      refine et_if_ne (pc := 134) (tgt := 145) d_Mod_readSection_134 (by decide) (fun hj4 => ?_) (fun hj4 => ?_)
      · rw [if_neg hj4] at hp
        refine ev_sub (ls2 := [(0, q_a t (60)), (1, ma_i (v1))]) [0, 1] rfl ?_
        exact e_Mod_readSection_145 t ok  hQ   (v1) x2.2.1 x2.2.2 hp
      · rw [if_pos hj4] at hp
        refine et_aload_n (pc := 137) d_Mod_readSection_137 rfl rfl ?_
        refine ev_iload_n (pc := 138) d_Mod_readSection_138 rfl rfl ?_
        replace hp := q_bind hp
        obtain ⟨x5, hm6, hp⟩ := hp
        refine et_callVv (pc := 139) (f1 := x5.1) (g1 := x5.2) ok [ma_i (v1)] [] (cf_Mod_202 t) d_Mod_readSection_139 s_60 k_12 rfl (t_Mod_readItem t ok (v1) x2.2.1 x2.2.2 hm6 ⟨rfl, rfl⟩) rfl rfl (by decide) (by decide) (q_ble rfl) ?_
        refine ev_goto (pc := 142) (tgt := 121) d_Mod_readSection_142 (by decide) ?_
        refine ev_sub (ls2 := [(0, q_a t (60)), (1, ma_i (v1))]) [0, 1] rfl ?_
        exact ih (v1) x5.1 x5.2 hp
theorem e_Mod_readSection_95 (t : q_V) (ok : ma_ok (q_G t))  {Q : Option Value → ma_H → Prop} {y : q_F × q_F} (hQ : Q (none) (q_h y.1 y.2))   (v1 : Int) (f g : q_F) (hp : p_Mod_readSection_95   v1 f g = some y) : ma_Ev (q_G t) 4 92 0 0 m_Mod_readSection 95 [(0, q_a t (60)), (1, ma_i (v1))] [] (q_h f g) (ma_zr (q_G t) false Q) := by
  unfold p_Mod_readSection_95 at hp
  refine et_aload_n (pc := 95) d_Mod_readSection_95 rfl rfl ?_
  refine et_getr (pc := 96) ok (fl_Mod_73 t) rfl d_Mod_readSection_96 s_60 r_60_28 ?_
  refine ev_iload_n (pc := 99) d_Mod_readSection_99 rfl rfl ?_
  refine et_aload_n (pc := 100) d_Mod_readSection_100 rfl rfl ?_
  refine et_geti (pc := 101) ok (fl_Mod_161 t) rfl d_Mod_readSection_101 s_60 ?_
  replace hp := q_if hp
  obtain ⟨hb1, hp⟩ := hp
  refine et_iast (pc := 104) d_Mod_readSection_104 s_80 hb1 (by decide) ?_
  replace hp := q_let_of hp
  obtain ⟨f2, hz, hp⟩ := hp
  rw [← hz]
  clear hz
  refine et_aload_n (pc := 105) d_Mod_readSection_105 rfl rfl ?_
  refine ev_bipush (pc := 106) d_Mod_readSection_106 rfl ?_
  replace hp := q_bind hp
  obtain ⟨x3, hm4, hp⟩ := hp
  refine et_callVv (pc := 108) (f1 := x3.1) (g1 := x3.2) ok [ma_i (123)] [] (cf_Mod_175 t) d_Mod_readSection_108 s_60 k_12 rfl (t_Mod_take t ok (123) f2 g hm4 ⟨rfl, rfl⟩) rfl rfl (by decide) (by decide) (q_ble rfl) ?_
  refine et_aload_n (pc := 111) d_Mod_readSection_111 rfl rfl ?_
  refine et_getr (pc := 112) ok (fl_Mod_85 t) rfl d_Mod_readSection_112 s_60 r_60_32 ?_
  refine ev_iload_n (pc := 115) d_Mod_readSection_115 rfl rfl ?_
  refine et_aload_n (pc := 116) d_Mod_readSection_116 rfl rfl ?_
  refine et_geti (pc := 117) ok (fl_Mod_186 t) rfl d_Mod_readSection_117 s_60 ?_
  replace hp := q_if hp
  obtain ⟨hb5, hp⟩ := hp
  refine et_iast (pc := 120) d_Mod_readSection_120 s_84 hb5 (by decide) ?_
  replace hp := q_let_of hp
  obtain ⟨f6, hz, hp⟩ := hp
  rw [← hz]
  clear hz
  refine ev_sub (ls2 := [(0, q_a t (60)), (1, ma_i (v1))]) [0, 1] rfl ?_
  exact e_Mod_readSection_121 t ok  hQ   1000 (v1) f6 x3.2 hp
theorem e_Mod_readSection_24 (t : q_V) (ok : ma_ok (q_G t))  {Q : Option Value → ma_H → Prop} {y : q_F × q_F} (hQ : Q (none) (q_h y.1 y.2))   (v1 : Int) (s0 : Int) (f g : q_F) (hp : p_Mod_readSection_24   v1 s0 f g = some y) : ma_Ev (q_G t) 4 92 0 0 m_Mod_readSection 24 [(0, q_a t (60)), (1, ma_i (v1))] [ma_i (s0), q_a t (60)] (q_h f g) (ma_zr (q_G t) false Q) := by
  unfold p_Mod_readSection_24 at hp
  replace hp := q_bind hp
  obtain ⟨x1, hm2, hp⟩ := hp
  refine et_callVv (pc := 24) (f1 := x1.1) (g1 := x1.2) ok [ma_i (s0)] [] (cf_Mod_182 t) d_Mod_readSection_24 s_60 k_12 rfl (t_Mod_fresh t ok (s0) f g hm2 ⟨rfl, rfl⟩) rfl rfl (by decide) (by decide) (q_ble rfl) ?_
  refine et_aload_n (pc := 27) d_Mod_readSection_27 rfl rfl ?_
  refine et_geti (pc := 28) ok (fl_Mod_147 t) rfl d_Mod_readSection_28 s_60 ?_
  refine et_if_eq (pc := 31) (tgt := 35) d_Mod_readSection_31 (by decide) (fun hj3 => ?_) (fun hj3 => ?_)
  · rw [if_pos hj3] at hp
    refine et_aload_n (pc := 35) d_Mod_readSection_35 rfl rfl ?_
    refine et_getr (pc := 36) ok (fl_Mod_61 t) rfl d_Mod_readSection_36 s_60 r_60_24 ?_
    refine ev_iload_n (pc := 39) d_Mod_readSection_39 rfl rfl ?_
    refine ev_iconst (pc := 40) d_Mod_readSection_40 ?_
    replace hp := q_if hp
    obtain ⟨hb4, hp⟩ := hp
    refine et_zast (pc := 41) d_Mod_readSection_41 s_76 hb4 (by decide) ?_
    replace hp := q_let_of hp
    obtain ⟨f5, hz, hp⟩ := hp
    rw [← hz]
    clear hz
    refine et_aload_n (pc := 42) d_Mod_readSection_42 rfl rfl ?_
    refine et_getr (pc := 43) ok (fl_Mod_67 t) rfl d_Mod_readSection_43 s_60 r_60_26 ?_
    refine ev_iload_n (pc := 46) d_Mod_readSection_46 rfl rfl ?_
    refine et_aload_n (pc := 47) d_Mod_readSection_47 rfl rfl ?_
    refine et_geti (pc := 48) ok (fl_Mod_196 t) rfl d_Mod_readSection_48 s_60 ?_
    replace hp := q_if hp
    obtain ⟨hb6, hp⟩ := hp
    refine et_iast (pc := 51) d_Mod_readSection_51 s_78 hb6 (by decide) ?_
    replace hp := q_let_of hp
    obtain ⟨f7, hz, hp⟩ := hp
    rw [← hz]
    clear hz
    refine et_aload_n (pc := 52) d_Mod_readSection_52 rfl rfl ?_
    refine et_getr (pc := 53) ok (fl_Mod_58 t) rfl d_Mod_readSection_53 s_60 r_60_23 ?_
    refine et_aload_n (pc := 56) d_Mod_readSection_56 rfl rfl ?_
    refine et_geti (pc := 57) ok (fl_Mod_196 t) rfl d_Mod_readSection_57 s_60 ?_
    refine ev_iload_n (pc := 60) d_Mod_readSection_60 rfl rfl ?_
    replace hp := q_if hp
    obtain ⟨hb8, hp⟩ := hp
    refine et_iast (pc := 61) d_Mod_readSection_61 s_75 hb8 (by decide) ?_
    replace hp := q_let_of hp
    obtain ⟨f9, hz, hp⟩ := hp
    rw [← hz]
    clear hz
    refine et_aload_n (pc := 62) d_Mod_readSection_62 rfl rfl ?_
    refine ev_dup (pc := 63) d_Mod_readSection_63 rfl ?_
    refine et_geti (pc := 64) ok (fl_Mod_196 t) rfl d_Mod_readSection_64 s_60 ?_
    refine ev_iconst (pc := 67) d_Mod_readSection_67 ?_
    refine ev_iadd (pc := 68) d_Mod_readSection_68 ?_
    refine et_puti (pc := 69) ok (fl_Mod_196 t) d_Mod_readSection_69 s_60 ?_
    replace hp := q_let_of hp
    obtain ⟨f10, hz, hp⟩ := hp
    rw [← hz]
    clear hz
    refine et_aload_n (pc := 72) d_Mod_readSection_72 rfl rfl ?_
    refine et_getr (pc := 73) ok (fl_Mod_70 t) rfl d_Mod_readSection_73 s_60 r_60_27 ?_
    refine ev_iload_n (pc := 76) d_Mod_readSection_76 rfl rfl ?_
    refine et_aload_n (pc := 77) d_Mod_readSection_77 rfl rfl ?_
    refine et_geti (pc := 78) ok (fl_Mod_161 t) rfl d_Mod_readSection_78 s_60 ?_
    replace hp := q_if hp
    obtain ⟨hb11, hp⟩ := hp
    refine et_iast (pc := 81) d_Mod_readSection_81 s_79 hb11 (by decide) ?_
    replace hp := q_let_of hp
    obtain ⟨f12, hz, hp⟩ := hp
    rw [← hz]
    clear hz
    refine et_aload_n (pc := 82) d_Mod_readSection_82 rfl rfl ?_
    refine ev_bipush (pc := 83) d_Mod_readSection_83 rfl ?_
    replace hp := q_bind hp
    obtain ⟨x13, hm14, hp⟩ := hp
    refine et_callVi (pc := 85) (f1 := x13.2.1) (g1 := x13.2.2) ok [ma_i (64)] [] (cf_Mod_154 t) d_Mod_readSection_85 s_60 k_12 rfl (t_Mod_takes t ok (64) f12 x1.2 hm14 ⟨rfl, rfl⟩) rfl rfl (by decide) (by decide) (q_ble rfl) ?_
    refine et_if_eq (pc := 88) (tgt := 95) d_Mod_readSection_88 (by decide) (fun hj15 => ?_) (fun hj15 => ?_)
    · rw [if_pos hj15] at hp
      refine ev_sub (ls2 := [(0, q_a t (60)), (1, ma_i (v1))]) [0, 1] rfl ?_
      exact e_Mod_readSection_95 t ok  hQ   (v1) x13.2.1 x13.2.2 hp
    · rw [if_neg hj15] at hp
      refine et_aload_n (pc := 91) d_Mod_readSection_91 rfl rfl ?_
      replace hp := q_bind hp
      obtain ⟨x16, hm17, hp⟩ := hp
      refine et_callVv (pc := 92) (f1 := x16.1) (g1 := x16.2) ok [] [] (cf_Mod_199 t) d_Mod_readSection_92 s_60 k_12 rfl (t_Mod_expression t ok  x13.2.1 x13.2.2 hm17 ⟨rfl, rfl⟩) rfl rfl (by decide) (by decide) (q_ble rfl) ?_
      refine ev_sub (ls2 := [(0, q_a t (60)), (1, ma_i (v1))]) [0, 1] rfl ?_
      exact e_Mod_readSection_95 t ok  hQ   (v1) x16.1 x16.2 hp
  · rw [if_neg hj3] at hp
    cases Option.some.inj hp
    exact et_ret (pc := 34) d_Mod_readSection_34 rfl hQ
theorem t_Mod_readSection (t : q_V) (ok : ma_ok (q_G t))  {Q : Option Value → ma_H → Prop} {y : q_F × q_F}  (f g : q_F) (hp : p_Mod_readSection   f g = some y) (hQ : Q (none) (q_h y.1 y.2)) : ma_Met (q_G t) false 4 92 0 0 m_Mod_readSection [q_a t (60)] (q_h f g) Q := by
  refine ma_met (by decide +kernel) (q_ble rfl) rfl ?_
  change ma_Ev (q_G t) 4 92 0 0 m_Mod_readSection 0 [(0, q_a t (60))] [] (q_h f g) (ma_zr (q_G t) false Q)
  unfold p_Mod_readSection at hp
  refine et_aload_n (pc := 0) d_Mod_readSection_0 rfl rfl ?_
  refine ev_bipush (pc := 1) d_Mod_readSection_1 rfl ?_
  refine ev_bipush (pc := 3) d_Mod_readSection_3 rfl ?_
  replace hp := q_bind hp
  obtain ⟨x1, hm2, hp⟩ := hp
  refine et_callVi (pc := 5) (f1 := x1.2.1) (g1 := x1.2.2) ok [ma_i (65), ma_i (8)] [] (cf_Mod_168 t) d_Mod_readSection_5 s_60 k_12 rfl (t_Mod_letter t ok (65) (8) f g hm2 ⟨rfl, rfl⟩) rfl rfl (by decide) (by decide) (q_ble rfl) ?_
  refine ev_istore_n (pc := 8) d_Mod_readSection_8 rfl (by decide) [(1, _), (0, _)] rfl ?_
  refine et_aload_n (pc := 9) d_Mod_readSection_9 rfl rfl ?_
  refine et_aload_n (pc := 10) d_Mod_readSection_10 rfl rfl ?_
  refine et_getr (pc := 11) ok (fl_Mod_61 t) rfl d_Mod_readSection_11 s_60 r_60_24 ?_
  refine ev_iload_n (pc := 14) d_Mod_readSection_14 rfl rfl ?_
  replace hp := q_if hp
  obtain ⟨hb3, hp⟩ := hp
  refine et_zald (pc := 15) d_Mod_readSection_15 s_76 hb3 (by decide) ?_
  refine et_if_ne (pc := 16) (tgt := 23) d_Mod_readSection_16 (by decide) (fun hj4 => ?_) (fun hj4 => ?_)
  · rw [if_neg hj4] at hp
    refine ev_iconst (pc := 23) d_Mod_readSection_23 ?_
    refine ev_sub (ls2 := [(0, q_a t (60)), (1, ma_i (x1.1))]) [1, 0] rfl ?_
    exact e_Mod_readSection_24 t ok  hQ   (x1.1) (0) x1.2.1 x1.2.2 hp
  · rw [if_pos hj4] at hp
    refine ev_iconst (pc := 19) d_Mod_readSection_19 ?_
    refine ev_goto (pc := 20) (tgt := 24) d_Mod_readSection_20 (by decide) ?_
    refine ev_sub (ls2 := [(0, q_a t (60)), (1, ma_i (x1.1))]) [1, 0] rfl ?_
    exact e_Mod_readSection_24 t ok  hQ   (x1.1) (1) x1.2.1 x1.2.2 hp
theorem d_Mod_readRegion_0 : decode (m_c m_Mod_readRegion) 0 = .ok (.aload_n 0, 1) := by decide +kernel
theorem d_Mod_readRegion_1 : decode (m_c m_Mod_readRegion) 1 = .ok (.bipush 65, 2) := by decide +kernel
theorem d_Mod_readRegion_3 : decode (m_c m_Mod_readRegion) 3 = .ok (.iconst 4, 1) := by decide +kernel
theorem d_Mod_readRegion_4 : decode (m_c m_Mod_readRegion) 4 = .ok (.invokevirtual 168, 3) := by decide +kernel
theorem d_Mod_readRegion_7 : decode (m_c m_Mod_readRegion) 7 = .ok (.istore_n 1, 1) := by decide +kernel
theorem d_Mod_readRegion_8 : decode (m_c m_Mod_readRegion) 8 = .ok (.aload_n 0, 1) := by decide +kernel
theorem d_Mod_readRegion_9 : decode (m_c m_Mod_readRegion) 9 = .ok (.aload_n 0, 1) := by decide +kernel
theorem d_Mod_readRegion_10 : decode (m_c m_Mod_readRegion) 10 = .ok (.getfield 33, 3) := by decide +kernel
theorem d_Mod_readRegion_13 : decode (m_c m_Mod_readRegion) 13 = .ok (.iload_n 1, 1) := by decide +kernel
theorem d_Mod_readRegion_14 : decode (m_c m_Mod_readRegion) 14 = .ok (.baload, 1) := by decide +kernel
theorem d_Mod_readRegion_15 : decode (m_c m_Mod_readRegion) 15 = .ok (.ifCond .ne 7, 3) := by decide +kernel
theorem d_Mod_readRegion_18 : decode (m_c m_Mod_readRegion) 18 = .ok (.iconst 1, 1) := by decide +kernel
theorem d_Mod_readRegion_19 : decode (m_c m_Mod_readRegion) 19 = .ok (.goto 4, 3) := by decide +kernel
theorem d_Mod_readRegion_22 : decode (m_c m_Mod_readRegion) 22 = .ok (.iconst 0, 1) := by decide +kernel
theorem d_Mod_readRegion_23 : decode (m_c m_Mod_readRegion) 23 = .ok (.invokevirtual 182, 3) := by decide +kernel
theorem d_Mod_readRegion_26 : decode (m_c m_Mod_readRegion) 26 = .ok (.aload_n 0, 1) := by decide +kernel
theorem d_Mod_readRegion_27 : decode (m_c m_Mod_readRegion) 27 = .ok (.getfield 147, 3) := by decide +kernel
theorem d_Mod_readRegion_30 : decode (m_c m_Mod_readRegion) 30 = .ok (.ifCond .eq 4, 3) := by decide +kernel
theorem d_Mod_readRegion_33 : decode (m_c m_Mod_readRegion) 33 = .ok (.return_, 1) := by decide +kernel
theorem d_Mod_readRegion_34 : decode (m_c m_Mod_readRegion) 34 = .ok (.aload_n 0, 1) := by decide +kernel
theorem d_Mod_readRegion_35 : decode (m_c m_Mod_readRegion) 35 = .ok (.getfield 33, 3) := by decide +kernel
theorem d_Mod_readRegion_38 : decode (m_c m_Mod_readRegion) 38 = .ok (.iload_n 1, 1) := by decide +kernel
theorem d_Mod_readRegion_39 : decode (m_c m_Mod_readRegion) 39 = .ok (.iconst 1, 1) := by decide +kernel
theorem d_Mod_readRegion_40 : decode (m_c m_Mod_readRegion) 40 = .ok (.bastore, 1) := by decide +kernel
theorem d_Mod_readRegion_41 : decode (m_c m_Mod_readRegion) 41 = .ok (.aload_n 0, 1) := by decide +kernel
theorem d_Mod_readRegion_42 : decode (m_c m_Mod_readRegion) 42 = .ok (.bipush 61, 2) := by decide +kernel
theorem d_Mod_readRegion_44 : decode (m_c m_Mod_readRegion) 44 = .ok (.invokevirtual 175, 3) := by decide +kernel
theorem d_Mod_readRegion_47 : decode (m_c m_Mod_readRegion) 47 = .ok (.aload_n 0, 1) := by decide +kernel
theorem d_Mod_readRegion_48 : decode (m_c m_Mod_readRegion) 48 = .ok (.getfield 36, 3) := by decide +kernel
theorem d_Mod_readRegion_51 : decode (m_c m_Mod_readRegion) 51 = .ok (.iload_n 1, 1) := by decide +kernel
theorem d_Mod_readRegion_52 : decode (m_c m_Mod_readRegion) 52 = .ok (.aload_n 0, 1) := by decide +kernel
theorem d_Mod_readRegion_53 : decode (m_c m_Mod_readRegion) 53 = .ok (.getfield 147, 3) := by decide +kernel
theorem d_Mod_readRegion_56 : decode (m_c m_Mod_readRegion) 56 = .ok (.ifCond .eq 7, 3) := by decide +kernel
theorem d_Mod_readRegion_59 : decode (m_c m_Mod_readRegion) 59 = .ok (.iconst 0, 1) := by decide +kernel
theorem d_Mod_readRegion_60 : decode (m_c m_Mod_readRegion) 60 = .ok (.goto 7, 3) := by decide +kernel
theorem d_Mod_readRegion_63 : decode (m_c m_Mod_readRegion) 63 = .ok (.aload_n 0, 1) := by decide +kernel
theorem d_Mod_readRegion_64 : decode (m_c m_Mod_readRegion) 64 = .ok (.invokevirtual 158, 3) := by decide +kernel
theorem d_Mod_readRegion_67 : decode (m_c m_Mod_readRegion) 67 = .ok (.iastore, 1) := by decide +kernel
theorem d_Mod_readRegion_68 : decode (m_c m_Mod_readRegion) 68 = .ok (.aload_n 0, 1) := by decide +kernel
theorem d_Mod_readRegion_69 : decode (m_c m_Mod_readRegion) 69 = .ok (.bipush 44, 2) := by decide +kernel
theorem d_Mod_readRegion_71 : decode (m_c m_Mod_readRegion) 71 = .ok (.invokevirtual 175, 3) := by decide +kernel
theorem d_Mod_readRegion_74 : decode (m_c m_Mod_readRegion) 74 = .ok (.aload_n 0, 1) := by decide +kernel
theorem d_Mod_readRegion_75 : decode (m_c m_Mod_readRegion) 75 = .ok (.getfield 39, 3) := by decide +kernel
theorem d_Mod_readRegion_78 : decode (m_c m_Mod_readRegion) 78 = .ok (.iload_n 1, 1) := by decide +kernel
theorem d_Mod_readRegion_79 : decode (m_c m_Mod_readRegion) 79 = .ok (.aload_n 0, 1) := by decide +kernel
theorem d_Mod_readRegion_80 : decode (m_c m_Mod_readRegion) 80 = .ok (.getfield 147, 3) := by decide +kernel
theorem d_Mod_readRegion_83 : decode (m_c m_Mod_readRegion) 83 = .ok (.ifCond .eq 7, 3) := by decide +kernel
theorem d_Mod_readRegion_86 : decode (m_c m_Mod_readRegion) 86 = .ok (.iconst 0, 1) := by decide +kernel
theorem d_Mod_readRegion_87 : decode (m_c m_Mod_readRegion) 87 = .ok (.goto 7, 3) := by decide +kernel
theorem d_Mod_readRegion_90 : decode (m_c m_Mod_readRegion) 90 = .ok (.aload_n 0, 1) := by decide +kernel
theorem d_Mod_readRegion_91 : decode (m_c m_Mod_readRegion) 91 = .ok (.invokevirtual 158, 3) := by decide +kernel
theorem d_Mod_readRegion_94 : decode (m_c m_Mod_readRegion) 94 = .ok (.iastore, 1) := by decide +kernel
theorem d_Mod_readRegion_95 : decode (m_c m_Mod_readRegion) 95 = .ok (.aload_n 0, 1) := by decide +kernel
theorem d_Mod_readRegion_96 : decode (m_c m_Mod_readRegion) 96 = .ok (.aload_n 0, 1) := by decide +kernel
theorem d_Mod_readRegion_97 : decode (m_c m_Mod_readRegion) 97 = .ok (.getfield 147, 3) := by decide +kernel
theorem d_Mod_readRegion_100 : decode (m_c m_Mod_readRegion) 100 = .ok (.ifCond .ne 22, 3) := by decide +kernel
theorem d_Mod_readRegion_103 : decode (m_c m_Mod_readRegion) 103 = .ok (.aload_n 0, 1) := by decide +kernel
theorem d_Mod_readRegion_104 : decode (m_c m_Mod_readRegion) 104 = .ok (.getfield 36, 3) := by decide +kernel
theorem d_Mod_readRegion_107 : decode (m_c m_Mod_readRegion) 107 = .ok (.iload_n 1, 1) := by decide +kernel
theorem d_Mod_readRegion_108 : decode (m_c m_Mod_readRegion) 108 = .ok (.iaload, 1) := by decide +kernel
theorem d_Mod_readRegion_109 : decode (m_c m_Mod_readRegion) 109 = .ok (.aload_n 0, 1) := by decide +kernel
theorem d_Mod_readRegion_110 : decode (m_c m_Mod_readRegion) 110 = .ok (.getfield 39, 3) := by decide +kernel
theorem d_Mod_readRegion_113 : decode (m_c m_Mod_readRegion) 113 = .ok (.iload_n 1, 1) := by decide +kernel
theorem d_Mod_readRegion_114 : decode (m_c m_Mod_readRegion) 114 = .ok (.iaload, 1) := by decide +kernel
theorem d_Mod_readRegion_115 : decode (m_c m_Mod_readRegion) 115 = .ok (.iadd, 1) := by decide +kernel
theorem d_Mod_readRegion_116 : decode (m_c m_Mod_readRegion) 116 = .ok (.sipush 512, 3) := by decide +kernel
theorem d_Mod_readRegion_119 : decode (m_c m_Mod_readRegion) 119 = .ok (.if_icmp .le 7, 3) := by decide +kernel
theorem d_Mod_readRegion_122 : decode (m_c m_Mod_readRegion) 122 = .ok (.iconst 1, 1) := by decide +kernel
theorem d_Mod_readRegion_123 : decode (m_c m_Mod_readRegion) 123 = .ok (.goto 4, 3) := by decide +kernel
theorem d_Mod_readRegion_126 : decode (m_c m_Mod_readRegion) 126 = .ok (.iconst 0, 1) := by decide +kernel
theorem d_Mod_readRegion_127 : decode (m_c m_Mod_readRegion) 127 = .ok (.putfield 147, 3) := by decide +kernel
theorem d_Mod_readRegion_130 : decode (m_c m_Mod_readRegion) 130 = .ok (.return_, 1) := by decide +kernel
def p_Mod_readRegion_127   (s0 : Int) (f g : q_F) : Option (q_F × q_F) :=
  if s0 = 0 ∨ s0 = 1 then
    q_let (ma_up f 60 9 s0) fun f2 =>
    some (f2, g)
  else none
def p_Mod_readRegion_122    (f g : q_F) : Option (q_F × q_F) :=
  p_Mod_readRegion_127   (1) f g
def p_Mod_readRegion_94   (v1 : Int) (s0 : Int) (s1 : Int) (f g : q_F) : Option (q_F × q_F) :=
  if 0 ≤ s1 ∧ s1 < 4 then
    q_let (ma_up f 69 (Int.toNat s1) s0) fun f2 =>
    if q_sw (f2 60 9) = 0 then
      if 0 ≤ v1 ∧ v1 < 4 then
        if 0 ≤ v1 ∧ v1 < 4 then
          if q_sw ((f2 68 (Int.toNat v1)) + (f2 69 (Int.toNat v1))) ≤ q_sw 512 then
            p_Mod_readRegion_127   (0) f2 g
          else
            p_Mod_readRegion_122    f2 g
        else none
      else none
    else
      p_Mod_readRegion_122    f2 g
  else none
def p_Mod_readRegion_67   (v1 : Int) (s0 : Int) (s1 : Int) (f g : q_F) : Option (q_F × q_F) :=
  if 0 ≤ s1 ∧ s1 < 4 then
    q_let (ma_up f 68 (Int.toNat s1) s0) fun f2 =>
    (p_Mod_take (44) f2 g).bind fun x3 =>
    if q_sw (x3.1 60 9) = 0 then
      (p_Mod_number  x3.1 x3.2).bind fun x6 =>
      p_Mod_readRegion_94   (v1) (x6.1) (v1) x6.2.1 x6.2.2
    else
      p_Mod_readRegion_94   (v1) (0) (v1) x3.1 x3.2
  else none
def p_Mod_readRegion_23   (v1 : Int) (s0 : Int) (f g : q_F) : Option (q_F × q_F) :=
  (p_Mod_fresh (s0) f g).bind fun x1 =>
  if q_sw (x1.1 60 9) = 0 then
    if 0 ≤ v1 ∧ v1 < 4 then
      q_let (ma_up x1.1 67 (Int.toNat v1) (q_nz 1)) fun f5 =>
      (p_Mod_take (61) f5 x1.2).bind fun x6 =>
      if q_sw (x6.1 60 9) = 0 then
        (p_Mod_number  x6.1 x6.2).bind fun x9 =>
        p_Mod_readRegion_67   (v1) (x9.1) (v1) x9.2.1 x9.2.2
      else
        p_Mod_readRegion_67   (v1) (0) (v1) x6.1 x6.2
    else none
  else
    some (x1.1, x1.2)
def p_Mod_readRegion   (f g : q_F) : Option (q_F × q_F) :=
  (p_Mod_letter (65) (4) f g).bind fun x1 =>
  if 0 ≤ x1.1 ∧ x1.1 < 4 then
    if q_sw (x1.2.1 67 (Int.toNat x1.1)) = 0 then
      p_Mod_readRegion_23   (x1.1) (1) x1.2.1 x1.2.2
    else
      p_Mod_readRegion_23   (x1.1) (0) x1.2.1 x1.2.2
  else none
theorem e_Mod_readRegion_127 (t : q_V) (ok : ma_ok (q_G t))  {Q : Option Value → ma_H → Prop} {y : q_F × q_F} (hQ : Q (none) (q_h y.1 y.2))   (s0 : Int) (f g : q_F) (hp : p_Mod_readRegion_127   s0 f g = some y) : ma_Ev (q_G t) 3 62 0 0 m_Mod_readRegion 127 [] [ma_i (s0), q_a t (60)] (q_h f g) (ma_zr (q_G t) false Q) := by
  unfold p_Mod_readRegion_127 at hp
  replace hp := q_if hp
  obtain ⟨hb1, hp⟩ := hp
  refine et_putz (pc := 127) ok (fl_Mod_147 t) hb1 d_Mod_readRegion_127 s_60 ?_
  replace hp := q_let_of hp
  obtain ⟨f2, hz, hp⟩ := hp
  rw [← hz]
  clear hz
  cases Option.some.inj hp
  exact et_ret (pc := 130) d_Mod_readRegion_130 rfl hQ
theorem e_Mod_readRegion_122 (t : q_V) (ok : ma_ok (q_G t))  {Q : Option Value → ma_H → Prop} {y : q_F × q_F} (hQ : Q (none) (q_h y.1 y.2))    (f g : q_F) (hp : p_Mod_readRegion_122    f g = some y) : ma_Ev (q_G t) 3 62 0 0 m_Mod_readRegion 122 [] [q_a t (60)] (q_h f g) (ma_zr (q_G t) false Q) := by
  unfold p_Mod_readRegion_122 at hp
  refine ev_iconst (pc := 122) d_Mod_readRegion_122 ?_
  refine ev_goto (pc := 123) (tgt := 127) d_Mod_readRegion_123 (by decide) ?_
  refine ev_sub (ls2 := []) [] rfl ?_
  exact e_Mod_readRegion_127 t ok  hQ   (1) f g hp
theorem e_Mod_readRegion_94 (t : q_V) (ok : ma_ok (q_G t))  {Q : Option Value → ma_H → Prop} {y : q_F × q_F} (hQ : Q (none) (q_h y.1 y.2))   (v1 : Int) (s0 : Int) (s1 : Int) (f g : q_F) (hp : p_Mod_readRegion_94   v1 s0 s1 f g = some y) : ma_Ev (q_G t) 3 62 0 0 m_Mod_readRegion 94 [(0, q_a t (60)), (1, ma_i (v1))] [ma_i (s0), ma_i (s1), q_a t (69)] (q_h f g) (ma_zr (q_G t) false Q) := by
  unfold p_Mod_readRegion_94 at hp
  replace hp := q_if hp
  obtain ⟨hb1, hp⟩ := hp
  refine et_iast (pc := 94) d_Mod_readRegion_94 s_69 hb1 (by decide) ?_
  replace hp := q_let_of hp
  obtain ⟨f2, hz, hp⟩ := hp
  rw [← hz]
  clear hz
  refine et_aload_n (pc := 95) d_Mod_readRegion_95 rfl rfl ?_
  refine et_aload_n (pc := 96) d_Mod_readRegion_96 rfl rfl ?_
  refine et_geti (pc := 97) ok (fl_Mod_147 t) rfl d_Mod_readRegion_97 s_60 ?_
  refine et_if_ne (pc := 100) (tgt := 122) d_Mod_readRegion_100 (by decide) (fun hj3 => ?_) (fun hj3 => ?_)
  · rw [if_neg hj3] at hp
    refine ev_sub (ls2 := []) [] rfl ?_
    exact e_Mod_readRegion_122 t ok  hQ    f2 g hp
  · rw [if_pos hj3] at hp
    refine et_aload_n (pc := 103) d_Mod_readRegion_103 rfl rfl ?_
    refine et_getr (pc := 104) ok (fl_Mod_36 t) rfl d_Mod_readRegion_104 s_60 r_60_12 ?_
    refine ev_iload_n (pc := 107) d_Mod_readRegion_107 rfl rfl ?_
    replace hp := q_if hp
    obtain ⟨hb4, hp⟩ := hp
    refine et_iald (pc := 108) d_Mod_readRegion_108 s_68 hb4 (by decide) ?_
    refine et_aload_n (pc := 109) d_Mod_readRegion_109 rfl rfl ?_
    refine et_getr (pc := 110) ok (fl_Mod_39 t) rfl d_Mod_readRegion_110 s_60 r_60_13 ?_
    refine ev_iload_n (pc := 113) d_Mod_readRegion_113 rfl rfl ?_
    replace hp := q_if hp
    obtain ⟨hb5, hp⟩ := hp
    refine et_iald (pc := 114) d_Mod_readRegion_114 s_69 hb5 (by decide) ?_
    refine ev_iadd (pc := 115) d_Mod_readRegion_115 ?_
    refine ev_sipush (pc := 116) d_Mod_readRegion_116 rfl ?_
    refine et_icmp_le (pc := 119) (tgt := 126) d_Mod_readRegion_119 (by decide) (fun hj6 => ?_) (fun hj6 => ?_)
    · rw [if_pos hj6] at hp
      refine ev_iconst (pc := 126) d_Mod_readRegion_126 ?_
      refine ev_sub (ls2 := []) [] rfl ?_
      exact e_Mod_readRegion_127 t ok  hQ   (0) f2 g hp
    · rw [if_neg hj6] at hp
      refine ev_sub (ls2 := []) [] rfl ?_
      exact e_Mod_readRegion_122 t ok  hQ    f2 g hp
theorem e_Mod_readRegion_67 (t : q_V) (ok : ma_ok (q_G t))  {Q : Option Value → ma_H → Prop} {y : q_F × q_F} (hQ : Q (none) (q_h y.1 y.2))   (v1 : Int) (s0 : Int) (s1 : Int) (f g : q_F) (hp : p_Mod_readRegion_67   v1 s0 s1 f g = some y) : ma_Ev (q_G t) 3 62 0 0 m_Mod_readRegion 67 [(0, q_a t (60)), (1, ma_i (v1))] [ma_i (s0), ma_i (s1), q_a t (68)] (q_h f g) (ma_zr (q_G t) false Q) := by
  unfold p_Mod_readRegion_67 at hp
  replace hp := q_if hp
  obtain ⟨hb1, hp⟩ := hp
  refine et_iast (pc := 67) d_Mod_readRegion_67 s_68 hb1 (by decide) ?_
  replace hp := q_let_of hp
  obtain ⟨f2, hz, hp⟩ := hp
  rw [← hz]
  clear hz
  refine et_aload_n (pc := 68) d_Mod_readRegion_68 rfl rfl ?_
  refine ev_bipush (pc := 69) d_Mod_readRegion_69 rfl ?_
  replace hp := q_bind hp
  obtain ⟨x3, hm4, hp⟩ := hp
  refine et_callVv (pc := 71) (f1 := x3.1) (g1 := x3.2) ok [ma_i (44)] [] (cf_Mod_175 t) d_Mod_readRegion_71 s_60 k_12 rfl (t_Mod_take t ok (44) f2 g hm4 ⟨rfl, rfl⟩) rfl rfl (by decide) (by decide) (q_ble rfl) ?_
  refine et_aload_n (pc := 74) d_Mod_readRegion_74 rfl rfl ?_
  refine et_getr (pc := 75) ok (fl_Mod_39 t) rfl d_Mod_readRegion_75 s_60 r_60_13 ?_
  refine ev_iload_n (pc := 78) d_Mod_readRegion_78 rfl rfl ?_
  refine et_aload_n (pc := 79) d_Mod_readRegion_79 rfl rfl ?_
  refine et_geti (pc := 80) ok (fl_Mod_147 t) rfl d_Mod_readRegion_80 s_60 ?_
  refine et_if_eq (pc := 83) (tgt := 90) d_Mod_readRegion_83 (by decide) (fun hj5 => ?_) (fun hj5 => ?_)
  · rw [if_pos hj5] at hp
    refine et_aload_n (pc := 90) d_Mod_readRegion_90 rfl rfl ?_
    replace hp := q_bind hp
    obtain ⟨x6, hm7, hp⟩ := hp
    refine et_callVi (pc := 91) (f1 := x6.2.1) (g1 := x6.2.2) ok [] [ma_i (v1), q_a t (69)] (cf_Mod_158 t) d_Mod_readRegion_91 s_60 k_12 rfl (t_Mod_number t ok  x3.1 x3.2 hm7 ⟨rfl, rfl⟩) rfl rfl (by decide) (by decide) (q_ble rfl) ?_
    refine ev_sub (ls2 := [(0, q_a t (60)), (1, ma_i (v1))]) [0, 1] rfl ?_
    exact e_Mod_readRegion_94 t ok  hQ   (v1) (x6.1) (v1) x6.2.1 x6.2.2 hp
  · rw [if_neg hj5] at hp
    refine ev_iconst (pc := 86) d_Mod_readRegion_86 ?_
    refine ev_goto (pc := 87) (tgt := 94) d_Mod_readRegion_87 (by decide) ?_
    refine ev_sub (ls2 := [(0, q_a t (60)), (1, ma_i (v1))]) [0, 1] rfl ?_
    exact e_Mod_readRegion_94 t ok  hQ   (v1) (0) (v1) x3.1 x3.2 hp
theorem e_Mod_readRegion_23 (t : q_V) (ok : ma_ok (q_G t))  {Q : Option Value → ma_H → Prop} {y : q_F × q_F} (hQ : Q (none) (q_h y.1 y.2))   (v1 : Int) (s0 : Int) (f g : q_F) (hp : p_Mod_readRegion_23   v1 s0 f g = some y) : ma_Ev (q_G t) 3 62 0 0 m_Mod_readRegion 23 [(0, q_a t (60)), (1, ma_i (v1))] [ma_i (s0), q_a t (60)] (q_h f g) (ma_zr (q_G t) false Q) := by
  unfold p_Mod_readRegion_23 at hp
  replace hp := q_bind hp
  obtain ⟨x1, hm2, hp⟩ := hp
  refine et_callVv (pc := 23) (f1 := x1.1) (g1 := x1.2) ok [ma_i (s0)] [] (cf_Mod_182 t) d_Mod_readRegion_23 s_60 k_12 rfl (t_Mod_fresh t ok (s0) f g hm2 ⟨rfl, rfl⟩) rfl rfl (by decide) (by decide) (q_ble rfl) ?_
  refine et_aload_n (pc := 26) d_Mod_readRegion_26 rfl rfl ?_
  refine et_geti (pc := 27) ok (fl_Mod_147 t) rfl d_Mod_readRegion_27 s_60 ?_
  refine et_if_eq (pc := 30) (tgt := 34) d_Mod_readRegion_30 (by decide) (fun hj3 => ?_) (fun hj3 => ?_)
  · rw [if_pos hj3] at hp
    refine et_aload_n (pc := 34) d_Mod_readRegion_34 rfl rfl ?_
    refine et_getr (pc := 35) ok (fl_Mod_33 t) rfl d_Mod_readRegion_35 s_60 r_60_11 ?_
    refine ev_iload_n (pc := 38) d_Mod_readRegion_38 rfl rfl ?_
    refine ev_iconst (pc := 39) d_Mod_readRegion_39 ?_
    replace hp := q_if hp
    obtain ⟨hb4, hp⟩ := hp
    refine et_zast (pc := 40) d_Mod_readRegion_40 s_67 hb4 (by decide) ?_
    replace hp := q_let_of hp
    obtain ⟨f5, hz, hp⟩ := hp
    rw [← hz]
    clear hz
    refine et_aload_n (pc := 41) d_Mod_readRegion_41 rfl rfl ?_
    refine ev_bipush (pc := 42) d_Mod_readRegion_42 rfl ?_
    replace hp := q_bind hp
    obtain ⟨x6, hm7, hp⟩ := hp
    refine et_callVv (pc := 44) (f1 := x6.1) (g1 := x6.2) ok [ma_i (61)] [] (cf_Mod_175 t) d_Mod_readRegion_44 s_60 k_12 rfl (t_Mod_take t ok (61) f5 x1.2 hm7 ⟨rfl, rfl⟩) rfl rfl (by decide) (by decide) (q_ble rfl) ?_
    refine et_aload_n (pc := 47) d_Mod_readRegion_47 rfl rfl ?_
    refine et_getr (pc := 48) ok (fl_Mod_36 t) rfl d_Mod_readRegion_48 s_60 r_60_12 ?_
    refine ev_iload_n (pc := 51) d_Mod_readRegion_51 rfl rfl ?_
    refine et_aload_n (pc := 52) d_Mod_readRegion_52 rfl rfl ?_
    refine et_geti (pc := 53) ok (fl_Mod_147 t) rfl d_Mod_readRegion_53 s_60 ?_
    refine et_if_eq (pc := 56) (tgt := 63) d_Mod_readRegion_56 (by decide) (fun hj8 => ?_) (fun hj8 => ?_)
    · rw [if_pos hj8] at hp
      refine et_aload_n (pc := 63) d_Mod_readRegion_63 rfl rfl ?_
      replace hp := q_bind hp
      obtain ⟨x9, hm10, hp⟩ := hp
      refine et_callVi (pc := 64) (f1 := x9.2.1) (g1 := x9.2.2) ok [] [ma_i (v1), q_a t (68)] (cf_Mod_158 t) d_Mod_readRegion_64 s_60 k_12 rfl (t_Mod_number t ok  x6.1 x6.2 hm10 ⟨rfl, rfl⟩) rfl rfl (by decide) (by decide) (q_ble rfl) ?_
      refine ev_sub (ls2 := [(0, q_a t (60)), (1, ma_i (v1))]) [0, 1] rfl ?_
      exact e_Mod_readRegion_67 t ok  hQ   (v1) (x9.1) (v1) x9.2.1 x9.2.2 hp
    · rw [if_neg hj8] at hp
      refine ev_iconst (pc := 59) d_Mod_readRegion_59 ?_
      refine ev_goto (pc := 60) (tgt := 67) d_Mod_readRegion_60 (by decide) ?_
      refine ev_sub (ls2 := [(0, q_a t (60)), (1, ma_i (v1))]) [0, 1] rfl ?_
      exact e_Mod_readRegion_67 t ok  hQ   (v1) (0) (v1) x6.1 x6.2 hp
  · rw [if_neg hj3] at hp
    cases Option.some.inj hp
    exact et_ret (pc := 33) d_Mod_readRegion_33 rfl hQ
theorem t_Mod_readRegion (t : q_V) (ok : ma_ok (q_G t))  {Q : Option Value → ma_H → Prop} {y : q_F × q_F}  (f g : q_F) (hp : p_Mod_readRegion   f g = some y) (hQ : Q (none) (q_h y.1 y.2)) : ma_Met (q_G t) false 3 62 0 0 m_Mod_readRegion [q_a t (60)] (q_h f g) Q := by
  refine ma_met (by decide +kernel) (q_ble rfl) rfl ?_
  change ma_Ev (q_G t) 3 62 0 0 m_Mod_readRegion 0 [(0, q_a t (60))] [] (q_h f g) (ma_zr (q_G t) false Q)
  unfold p_Mod_readRegion at hp
  refine et_aload_n (pc := 0) d_Mod_readRegion_0 rfl rfl ?_
  refine ev_bipush (pc := 1) d_Mod_readRegion_1 rfl ?_
  refine ev_iconst (pc := 3) d_Mod_readRegion_3 ?_
  replace hp := q_bind hp
  obtain ⟨x1, hm2, hp⟩ := hp
  refine et_callVi (pc := 4) (f1 := x1.2.1) (g1 := x1.2.2) ok [ma_i (65), ma_i (4)] [] (cf_Mod_168 t) d_Mod_readRegion_4 s_60 k_12 rfl (t_Mod_letter t ok (65) (4) f g hm2 ⟨rfl, rfl⟩) rfl rfl (by decide) (by decide) (q_ble rfl) ?_
  refine ev_istore_n (pc := 7) d_Mod_readRegion_7 rfl (by decide) [(1, _), (0, _)] rfl ?_
  refine et_aload_n (pc := 8) d_Mod_readRegion_8 rfl rfl ?_
  refine et_aload_n (pc := 9) d_Mod_readRegion_9 rfl rfl ?_
  refine et_getr (pc := 10) ok (fl_Mod_33 t) rfl d_Mod_readRegion_10 s_60 r_60_11 ?_
  refine ev_iload_n (pc := 13) d_Mod_readRegion_13 rfl rfl ?_
  replace hp := q_if hp
  obtain ⟨hb3, hp⟩ := hp
  refine et_zald (pc := 14) d_Mod_readRegion_14 s_67 hb3 (by decide) ?_
  refine et_if_ne (pc := 15) (tgt := 22) d_Mod_readRegion_15 (by decide) (fun hj4 => ?_) (fun hj4 => ?_)
  · rw [if_neg hj4] at hp
    refine ev_iconst (pc := 22) d_Mod_readRegion_22 ?_
    refine ev_sub (ls2 := [(0, q_a t (60)), (1, ma_i (x1.1))]) [1, 0] rfl ?_
    exact e_Mod_readRegion_23 t ok  hQ   (x1.1) (0) x1.2.1 x1.2.2 hp
  · rw [if_pos hj4] at hp
    refine ev_iconst (pc := 18) d_Mod_readRegion_18 ?_
    refine ev_goto (pc := 19) (tgt := 23) d_Mod_readRegion_19 (by decide) ?_
    refine ev_sub (ls2 := [(0, q_a t (60)), (1, ma_i (x1.1))]) [1, 0] rfl ?_
    exact e_Mod_readRegion_23 t ok  hQ   (x1.1) (1) x1.2.1 x1.2.2 hp
theorem d_Mod_statement_0 : decode (m_c m_Mod_statement) 0 = .ok (.aload_n 0, 1) := by decide +kernel
theorem d_Mod_statement_1 : decode (m_c m_Mod_statement) 1 = .ok (.bipush 77, 2) := by decide +kernel
theorem d_Mod_statement_3 : decode (m_c m_Mod_statement) 3 = .ok (.invokevirtual 154, 3) := by decide +kernel
theorem d_Mod_statement_6 : decode (m_c m_Mod_statement) 6 = .ok (.ifCond .eq 10, 3) := by decide +kernel
theorem d_Mod_statement_9 : decode (m_c m_Mod_statement) 9 = .ok (.aload_n 0, 1) := by decide +kernel
theorem d_Mod_statement_10 : decode (m_c m_Mod_statement) 10 = .ok (.invokevirtual 208, 3) := by decide +kernel
theorem d_Mod_statement_13 : decode (m_c m_Mod_statement) 13 = .ok (.goto 79, 3) := by decide +kernel
theorem d_Mod_statement_16 : decode (m_c m_Mod_statement) 16 = .ok (.aload_n 0, 1) := by decide +kernel
theorem d_Mod_statement_17 : decode (m_c m_Mod_statement) 17 = .ok (.bipush 83, 2) := by decide +kernel
theorem d_Mod_statement_19 : decode (m_c m_Mod_statement) 19 = .ok (.invokevirtual 154, 3) := by decide +kernel
theorem d_Mod_statement_22 : decode (m_c m_Mod_statement) 22 = .ok (.ifCond .eq 10, 3) := by decide +kernel
theorem d_Mod_statement_25 : decode (m_c m_Mod_statement) 25 = .ok (.aload_n 0, 1) := by decide +kernel
theorem d_Mod_statement_26 : decode (m_c m_Mod_statement) 26 = .ok (.invokevirtual 211, 3) := by decide +kernel
theorem d_Mod_statement_29 : decode (m_c m_Mod_statement) 29 = .ok (.goto 63, 3) := by decide +kernel
theorem d_Mod_statement_32 : decode (m_c m_Mod_statement) 32 = .ok (.aload_n 0, 1) := by decide +kernel
theorem d_Mod_statement_33 : decode (m_c m_Mod_statement) 33 = .ok (.bipush 89, 2) := by decide +kernel
theorem d_Mod_statement_35 : decode (m_c m_Mod_statement) 35 = .ok (.invokevirtual 175, 3) := by decide +kernel
theorem d_Mod_statement_38 : decode (m_c m_Mod_statement) 38 = .ok (.aload_n 0, 1) := by decide +kernel
theorem d_Mod_statement_39 : decode (m_c m_Mod_statement) 39 = .ok (.getfield 147, 3) := by decide +kernel
theorem d_Mod_statement_42 : decode (m_c m_Mod_statement) 42 = .ok (.ifCond .eq 7, 3) := by decide +kernel
theorem d_Mod_statement_45 : decode (m_c m_Mod_statement) 45 = .ok (.iconst 0, 1) := by decide +kernel
theorem d_Mod_statement_46 : decode (m_c m_Mod_statement) 46 = .ok (.goto 8, 3) := by decide +kernel
theorem d_Mod_statement_49 : decode (m_c m_Mod_statement) 49 = .ok (.aload_n 0, 1) := by decide +kernel
theorem d_Mod_statement_50 : decode (m_c m_Mod_statement) 50 = .ok (.iconst (-1), 1) := by decide +kernel
theorem d_Mod_statement_51 : decode (m_c m_Mod_statement) 51 = .ok (.invokevirtual 192, 3) := by decide +kernel
theorem d_Mod_statement_54 : decode (m_c m_Mod_statement) 54 = .ok (.istore_n 1, 1) := by decide +kernel
theorem d_Mod_statement_55 : decode (m_c m_Mod_statement) 55 = .ok (.aload_n 0, 1) := by decide +kernel
theorem d_Mod_statement_56 : decode (m_c m_Mod_statement) 56 = .ok (.bipush 61, 2) := by decide +kernel
theorem d_Mod_statement_58 : decode (m_c m_Mod_statement) 58 = .ok (.invokevirtual 175, 3) := by decide +kernel
theorem d_Mod_statement_61 : decode (m_c m_Mod_statement) 61 = .ok (.aload_n 0, 1) := by decide +kernel
theorem d_Mod_statement_62 : decode (m_c m_Mod_statement) 62 = .ok (.getfield 112, 3) := by decide +kernel
theorem d_Mod_statement_65 : decode (m_c m_Mod_statement) 65 = .ok (.iload_n 1, 1) := by decide +kernel
theorem d_Mod_statement_66 : decode (m_c m_Mod_statement) 66 = .ok (.aload_n 0, 1) := by decide +kernel
theorem d_Mod_statement_67 : decode (m_c m_Mod_statement) 67 = .ok (.getfield 161, 3) := by decide +kernel
theorem d_Mod_statement_70 : decode (m_c m_Mod_statement) 70 = .ok (.iastore, 1) := by decide +kernel
theorem d_Mod_statement_71 : decode (m_c m_Mod_statement) 71 = .ok (.aload_n 0, 1) := by decide +kernel
theorem d_Mod_statement_72 : decode (m_c m_Mod_statement) 72 = .ok (.getfield 147, 3) := by decide +kernel
theorem d_Mod_statement_75 : decode (m_c m_Mod_statement) 75 = .ok (.ifCond .ne 7, 3) := by decide +kernel
theorem d_Mod_statement_78 : decode (m_c m_Mod_statement) 78 = .ok (.aload_n 0, 1) := by decide +kernel
theorem d_Mod_statement_79 : decode (m_c m_Mod_statement) 79 = .ok (.invokevirtual 199, 3) := by decide +kernel
theorem d_Mod_statement_82 : decode (m_c m_Mod_statement) 82 = .ok (.aload_n 0, 1) := by decide +kernel
theorem d_Mod_statement_83 : decode (m_c m_Mod_statement) 83 = .ok (.getfield 115, 3) := by decide +kernel
theorem d_Mod_statement_86 : decode (m_c m_Mod_statement) 86 = .ok (.iload_n 1, 1) := by decide +kernel
theorem d_Mod_statement_87 : decode (m_c m_Mod_statement) 87 = .ok (.aload_n 0, 1) := by decide +kernel
theorem d_Mod_statement_88 : decode (m_c m_Mod_statement) 88 = .ok (.getfield 161, 3) := by decide +kernel
theorem d_Mod_statement_91 : decode (m_c m_Mod_statement) 91 = .ok (.iastore, 1) := by decide +kernel
theorem d_Mod_statement_92 : decode (m_c m_Mod_statement) 92 = .ok (.aload_n 0, 1) := by decide +kernel
theorem d_Mod_statement_93 : decode (m_c m_Mod_statement) 93 = .ok (.bipush 59, 2) := by decide +kernel
theorem d_Mod_statement_95 : decode (m_c m_Mod_statement) 95 = .ok (.invokevirtual 175, 3) := by decide +kernel
theorem d_Mod_statement_98 : decode (m_c m_Mod_statement) 98 = .ok (.return_, 1) := by decide +kernel
def p_Mod_statement_92    (f g : q_F) : Option (q_F × q_F) :=
  (p_Mod_take (59) f g).bind fun x1 =>
  some (x1.1, x1.2)
def p_Mod_statement_82   (v1 : Int) (f g : q_F) : Option (q_F × q_F) :=
  if 0 ≤ v1 ∧ v1 < 26 then
    q_let (ma_up f 94 (Int.toNat v1) (f 60 14)) fun f2 =>
    p_Mod_statement_92    f2 g
  else none
def p_Mod_statement_54   (s0 : Int) (f g : q_F) : Option (q_F × q_F) :=
  (p_Mod_take (61) f g).bind fun x1 =>
  if 0 ≤ s0 ∧ s0 < 26 then
    q_let (ma_up x1.1 93 (Int.toNat s0) (x1.1 60 14)) fun f4 =>
    if q_sw (f4 60 9) = 0 then
      (p_Mod_expression  f4 x1.2).bind fun x6 =>
      p_Mod_statement_82   (s0) x6.1 x6.2
    else
      p_Mod_statement_82   (s0) f4 x1.2
  else none
def p_Mod_statement   (f g : q_F) : Option (q_F × q_F) :=
  (p_Mod_takes (77) f g).bind fun x1 =>
  if q_sw x1.1 = 0 then
    (p_Mod_takes (83) x1.2.1 x1.2.2).bind fun x4 =>
    if q_sw x4.1 = 0 then
      (p_Mod_take (89) x4.2.1 x4.2.2).bind fun x7 =>
      if q_sw (x7.1 60 9) = 0 then
        (p_Mod_tell (-1) x7.1 x7.2).bind fun x10 =>
        p_Mod_statement_54   (x10.1) x10.2.1 x10.2.2
      else
        p_Mod_statement_54   (0) x7.1 x7.2
    else
      (p_Mod_readSection  x4.2.1 x4.2.2).bind fun x12 =>
      p_Mod_statement_92    x12.1 x12.2
  else
    (p_Mod_readRegion  x1.2.1 x1.2.2).bind fun x14 =>
    p_Mod_statement_92    x14.1 x14.2
theorem e_Mod_statement_92 (t : q_V) (ok : ma_ok (q_G t))  {Q : Option Value → ma_H → Prop} {y : q_F × q_F} (hQ : Q (none) (q_h y.1 y.2))    (f g : q_F) (hp : p_Mod_statement_92    f g = some y) : ma_Ev (q_G t) 5 113 0 0 m_Mod_statement 92 [(0, q_a t (60))] [] (q_h f g) (ma_zr (q_G t) false Q) := by
  unfold p_Mod_statement_92 at hp
  refine et_aload_n (pc := 92) d_Mod_statement_92 rfl rfl ?_
  refine ev_bipush (pc := 93) d_Mod_statement_93 rfl ?_
  replace hp := q_bind hp
  obtain ⟨x1, hm2, hp⟩ := hp
  refine et_callVv (pc := 95) (f1 := x1.1) (g1 := x1.2) ok [ma_i (59)] [] (cf_Mod_175 t) d_Mod_statement_95 s_60 k_12 rfl (t_Mod_take t ok (59) f g hm2 ⟨rfl, rfl⟩) rfl rfl (by decide) (by decide) (q_ble rfl) ?_
  cases Option.some.inj hp
  exact et_ret (pc := 98) d_Mod_statement_98 rfl hQ
theorem e_Mod_statement_82 (t : q_V) (ok : ma_ok (q_G t))  {Q : Option Value → ma_H → Prop} {y : q_F × q_F} (hQ : Q (none) (q_h y.1 y.2))   (v1 : Int) (f g : q_F) (hp : p_Mod_statement_82   v1 f g = some y) : ma_Ev (q_G t) 5 113 0 0 m_Mod_statement 82 [(0, q_a t (60)), (1, ma_i (v1))] [] (q_h f g) (ma_zr (q_G t) false Q) := by
  unfold p_Mod_statement_82 at hp
  refine et_aload_n (pc := 82) d_Mod_statement_82 rfl rfl ?_
  refine et_getr (pc := 83) ok (fl_Mod_115 t) rfl d_Mod_statement_83 s_60 r_60_43 ?_
  refine ev_iload_n (pc := 86) d_Mod_statement_86 rfl rfl ?_
  refine et_aload_n (pc := 87) d_Mod_statement_87 rfl rfl ?_
  refine et_geti (pc := 88) ok (fl_Mod_161 t) rfl d_Mod_statement_88 s_60 ?_
  replace hp := q_if hp
  obtain ⟨hb1, hp⟩ := hp
  refine et_iast (pc := 91) d_Mod_statement_91 s_94 hb1 (by decide) ?_
  replace hp := q_let_of hp
  obtain ⟨f2, hz, hp⟩ := hp
  rw [← hz]
  clear hz
  refine ev_sub (ls2 := [(0, q_a t (60))]) [0] rfl ?_
  exact e_Mod_statement_92 t ok  hQ    f2 g hp
theorem e_Mod_statement_54 (t : q_V) (ok : ma_ok (q_G t))  {Q : Option Value → ma_H → Prop} {y : q_F × q_F} (hQ : Q (none) (q_h y.1 y.2))   (s0 : Int) (f g : q_F) (hp : p_Mod_statement_54   s0 f g = some y) : ma_Ev (q_G t) 5 113 0 0 m_Mod_statement 54 [(0, q_a t (60))] [ma_i (s0)] (q_h f g) (ma_zr (q_G t) false Q) := by
  unfold p_Mod_statement_54 at hp
  refine ev_istore_n (pc := 54) d_Mod_statement_54 rfl (by decide) [(1, _), (0, _)] rfl ?_
  refine et_aload_n (pc := 55) d_Mod_statement_55 rfl rfl ?_
  refine ev_bipush (pc := 56) d_Mod_statement_56 rfl ?_
  replace hp := q_bind hp
  obtain ⟨x1, hm2, hp⟩ := hp
  refine et_callVv (pc := 58) (f1 := x1.1) (g1 := x1.2) ok [ma_i (61)] [] (cf_Mod_175 t) d_Mod_statement_58 s_60 k_12 rfl (t_Mod_take t ok (61) f g hm2 ⟨rfl, rfl⟩) rfl rfl (by decide) (by decide) (q_ble rfl) ?_
  refine et_aload_n (pc := 61) d_Mod_statement_61 rfl rfl ?_
  refine et_getr (pc := 62) ok (fl_Mod_112 t) rfl d_Mod_statement_62 s_60 r_60_42 ?_
  refine ev_iload_n (pc := 65) d_Mod_statement_65 rfl rfl ?_
  refine et_aload_n (pc := 66) d_Mod_statement_66 rfl rfl ?_
  refine et_geti (pc := 67) ok (fl_Mod_161 t) rfl d_Mod_statement_67 s_60 ?_
  replace hp := q_if hp
  obtain ⟨hb3, hp⟩ := hp
  refine et_iast (pc := 70) d_Mod_statement_70 s_93 hb3 (by decide) ?_
  replace hp := q_let_of hp
  obtain ⟨f4, hz, hp⟩ := hp
  rw [← hz]
  clear hz
  refine et_aload_n (pc := 71) d_Mod_statement_71 rfl rfl ?_
  refine et_geti (pc := 72) ok (fl_Mod_147 t) rfl d_Mod_statement_72 s_60 ?_
  refine et_if_ne (pc := 75) (tgt := 82) d_Mod_statement_75 (by decide) (fun hj5 => ?_) (fun hj5 => ?_)
  · rw [if_neg hj5] at hp
    refine ev_sub (ls2 := [(0, q_a t (60)), (1, ma_i (s0))]) [1, 0] rfl ?_
    exact e_Mod_statement_82 t ok  hQ   (s0) f4 x1.2 hp
  · rw [if_pos hj5] at hp
    refine et_aload_n (pc := 78) d_Mod_statement_78 rfl rfl ?_
    replace hp := q_bind hp
    obtain ⟨x6, hm7, hp⟩ := hp
    refine et_callVv (pc := 79) (f1 := x6.1) (g1 := x6.2) ok [] [] (cf_Mod_199 t) d_Mod_statement_79 s_60 k_12 rfl (t_Mod_expression t ok  f4 x1.2 hm7 ⟨rfl, rfl⟩) rfl rfl (by decide) (by decide) (q_ble rfl) ?_
    refine ev_sub (ls2 := [(0, q_a t (60)), (1, ma_i (s0))]) [1, 0] rfl ?_
    exact e_Mod_statement_82 t ok  hQ   (s0) x6.1 x6.2 hp
theorem t_Mod_statement (t : q_V) (ok : ma_ok (q_G t))  {Q : Option Value → ma_H → Prop} {y : q_F × q_F}  (f g : q_F) (hp : p_Mod_statement   f g = some y) (hQ : Q (none) (q_h y.1 y.2)) : ma_Met (q_G t) false 5 113 0 0 m_Mod_statement [q_a t (60)] (q_h f g) Q := by
  refine ma_met (by decide +kernel) (q_ble rfl) rfl ?_
  change ma_Ev (q_G t) 5 113 0 0 m_Mod_statement 0 [(0, q_a t (60))] [] (q_h f g) (ma_zr (q_G t) false Q)
  unfold p_Mod_statement at hp
  refine et_aload_n (pc := 0) d_Mod_statement_0 rfl rfl ?_
  refine ev_bipush (pc := 1) d_Mod_statement_1 rfl ?_
  replace hp := q_bind hp
  obtain ⟨x1, hm2, hp⟩ := hp
  refine et_callVi (pc := 3) (f1 := x1.2.1) (g1 := x1.2.2) ok [ma_i (77)] [] (cf_Mod_154 t) d_Mod_statement_3 s_60 k_12 rfl (t_Mod_takes t ok (77) f g hm2 ⟨rfl, rfl⟩) rfl rfl (by decide) (by decide) (q_ble rfl) ?_
  refine et_if_eq (pc := 6) (tgt := 16) d_Mod_statement_6 (by decide) (fun hj3 => ?_) (fun hj3 => ?_)
  · rw [if_pos hj3] at hp
    refine et_aload_n (pc := 16) d_Mod_statement_16 rfl rfl ?_
    refine ev_bipush (pc := 17) d_Mod_statement_17 rfl ?_
    replace hp := q_bind hp
    obtain ⟨x4, hm5, hp⟩ := hp
    refine et_callVi (pc := 19) (f1 := x4.2.1) (g1 := x4.2.2) ok [ma_i (83)] [] (cf_Mod_154 t) d_Mod_statement_19 s_60 k_12 rfl (t_Mod_takes t ok (83) x1.2.1 x1.2.2 hm5 ⟨rfl, rfl⟩) rfl rfl (by decide) (by decide) (q_ble rfl) ?_
    refine et_if_eq (pc := 22) (tgt := 32) d_Mod_statement_22 (by decide) (fun hj6 => ?_) (fun hj6 => ?_)
    · rw [if_pos hj6] at hp
      refine et_aload_n (pc := 32) d_Mod_statement_32 rfl rfl ?_
      refine ev_bipush (pc := 33) d_Mod_statement_33 rfl ?_
      replace hp := q_bind hp
      obtain ⟨x7, hm8, hp⟩ := hp
      refine et_callVv (pc := 35) (f1 := x7.1) (g1 := x7.2) ok [ma_i (89)] [] (cf_Mod_175 t) d_Mod_statement_35 s_60 k_12 rfl (t_Mod_take t ok (89) x4.2.1 x4.2.2 hm8 ⟨rfl, rfl⟩) rfl rfl (by decide) (by decide) (q_ble rfl) ?_
      refine et_aload_n (pc := 38) d_Mod_statement_38 rfl rfl ?_
      refine et_geti (pc := 39) ok (fl_Mod_147 t) rfl d_Mod_statement_39 s_60 ?_
      refine et_if_eq (pc := 42) (tgt := 49) d_Mod_statement_42 (by decide) (fun hj9 => ?_) (fun hj9 => ?_)
      · rw [if_pos hj9] at hp
        refine et_aload_n (pc := 49) d_Mod_statement_49 rfl rfl ?_
        refine ev_iconst (pc := 50) d_Mod_statement_50 ?_
        replace hp := q_bind hp
        obtain ⟨x10, hm11, hp⟩ := hp
        refine et_callVi (pc := 51) (f1 := x10.2.1) (g1 := x10.2.2) ok [ma_i (-1)] [] (cf_Mod_192 t) d_Mod_statement_51 s_60 k_12 rfl (t_Mod_tell t ok (-1) x7.1 x7.2 hm11 ⟨rfl, rfl⟩) rfl rfl (by decide) (by decide) (q_ble rfl) ?_
        refine ev_sub (ls2 := [(0, q_a t (60))]) [0] rfl ?_
        exact e_Mod_statement_54 t ok  hQ   (x10.1) x10.2.1 x10.2.2 hp
      · rw [if_neg hj9] at hp
        refine ev_iconst (pc := 45) d_Mod_statement_45 ?_
        refine ev_goto (pc := 46) (tgt := 54) d_Mod_statement_46 (by decide) ?_
        refine ev_sub (ls2 := [(0, q_a t (60))]) [0] rfl ?_
        exact e_Mod_statement_54 t ok  hQ   (0) x7.1 x7.2 hp
    · rw [if_neg hj6] at hp
      refine et_aload_n (pc := 25) d_Mod_statement_25 rfl rfl ?_
      replace hp := q_bind hp
      obtain ⟨x12, hm13, hp⟩ := hp
      refine et_callVv (pc := 26) (f1 := x12.1) (g1 := x12.2) ok [] [] (cf_Mod_211 t) d_Mod_statement_26 s_60 k_12 rfl (t_Mod_readSection t ok  x4.2.1 x4.2.2 hm13 ⟨rfl, rfl⟩) rfl rfl (by decide) (by decide) (q_ble rfl) ?_
      refine ev_goto (pc := 29) (tgt := 92) d_Mod_statement_29 (by decide) ?_
      refine ev_sub (ls2 := [(0, q_a t (60))]) [0] rfl ?_
      exact e_Mod_statement_92 t ok  hQ    x12.1 x12.2 hp
  · rw [if_neg hj3] at hp
    refine et_aload_n (pc := 9) d_Mod_statement_9 rfl rfl ?_
    replace hp := q_bind hp
    obtain ⟨x14, hm15, hp⟩ := hp
    refine et_callVv (pc := 10) (f1 := x14.1) (g1 := x14.2) ok [] [] (cf_Mod_208 t) d_Mod_statement_10 s_60 k_12 rfl (t_Mod_readRegion t ok  x1.2.1 x1.2.2 hm15 ⟨rfl, rfl⟩) rfl rfl (by decide) (by decide) (q_ble rfl) ?_
    refine ev_goto (pc := 13) (tgt := 92) d_Mod_statement_13 (by decide) ?_
    refine ev_sub (ls2 := [(0, q_a t (60))]) [0] rfl ?_
    exact e_Mod_statement_92 t ok  hQ    x14.1 x14.2 hp
theorem d_Mod_read_0 : decode (m_c m_Mod_read) 0 = .ok (.iconst 0, 1) := by decide +kernel
theorem d_Mod_read_1 : decode (m_c m_Mod_read) 1 = .ok (.istore_n 1, 1) := by decide +kernel
theorem d_Mod_read_2 : decode (m_c m_Mod_read) 2 = .ok (.iload_n 1, 1) := by decide +kernel
theorem d_Mod_read_3 : decode (m_c m_Mod_read) 3 = .ok (.iconst 4, 1) := by decide +kernel
theorem d_Mod_read_4 : decode (m_c m_Mod_read) 4 = .ok (.if_icmp .ge 16, 3) := by decide +kernel
theorem d_Mod_read_7 : decode (m_c m_Mod_read) 7 = .ok (.aload_n 0, 1) := by decide +kernel
theorem d_Mod_read_8 : decode (m_c m_Mod_read) 8 = .ok (.getfield 33, 3) := by decide +kernel
theorem d_Mod_read_11 : decode (m_c m_Mod_read) 11 = .ok (.iload_n 1, 1) := by decide +kernel
theorem d_Mod_read_12 : decode (m_c m_Mod_read) 12 = .ok (.iconst 0, 1) := by decide +kernel
theorem d_Mod_read_13 : decode (m_c m_Mod_read) 13 = .ok (.bastore, 1) := by decide +kernel
theorem d_Mod_read_14 : decode (m_c m_Mod_read) 14 = .ok (.iinc 1 1, 3) := by decide +kernel
theorem d_Mod_read_17 : decode (m_c m_Mod_read) 17 = .ok (.goto (-15), 3) := by decide +kernel
theorem d_Mod_read_20 : decode (m_c m_Mod_read) 20 = .ok (.iconst 0, 1) := by decide +kernel
theorem d_Mod_read_21 : decode (m_c m_Mod_read) 21 = .ok (.istore_n 1, 1) := by decide +kernel
theorem d_Mod_read_22 : decode (m_c m_Mod_read) 22 = .ok (.iload_n 1, 1) := by decide +kernel
theorem d_Mod_read_23 : decode (m_c m_Mod_read) 23 = .ok (.bipush 8, 2) := by decide +kernel
theorem d_Mod_read_25 : decode (m_c m_Mod_read) 25 = .ok (.if_icmp .ge 37, 3) := by decide +kernel
theorem d_Mod_read_28 : decode (m_c m_Mod_read) 28 = .ok (.aload_n 0, 1) := by decide +kernel
theorem d_Mod_read_29 : decode (m_c m_Mod_read) 29 = .ok (.getfield 61, 3) := by decide +kernel
theorem d_Mod_read_32 : decode (m_c m_Mod_read) 32 = .ok (.iload_n 1, 1) := by decide +kernel
theorem d_Mod_read_33 : decode (m_c m_Mod_read) 33 = .ok (.iconst 0, 1) := by decide +kernel
theorem d_Mod_read_34 : decode (m_c m_Mod_read) 34 = .ok (.bastore, 1) := by decide +kernel
theorem d_Mod_read_35 : decode (m_c m_Mod_read) 35 = .ok (.aload_n 0, 1) := by decide +kernel
theorem d_Mod_read_36 : decode (m_c m_Mod_read) 36 = .ok (.getfield 64, 3) := by decide +kernel
theorem d_Mod_read_39 : decode (m_c m_Mod_read) 39 = .ok (.iload_n 1, 1) := by decide +kernel
theorem d_Mod_read_40 : decode (m_c m_Mod_read) 40 = .ok (.iconst 0, 1) := by decide +kernel
theorem d_Mod_read_41 : decode (m_c m_Mod_read) 41 = .ok (.bastore, 1) := by decide +kernel
theorem d_Mod_read_42 : decode (m_c m_Mod_read) 42 = .ok (.aload_n 0, 1) := by decide +kernel
theorem d_Mod_read_43 : decode (m_c m_Mod_read) 43 = .ok (.getfield 22, 3) := by decide +kernel
theorem d_Mod_read_46 : decode (m_c m_Mod_read) 46 = .ok (.iload_n 1, 1) := by decide +kernel
theorem d_Mod_read_47 : decode (m_c m_Mod_read) 47 = .ok (.iconst 0, 1) := by decide +kernel
theorem d_Mod_read_48 : decode (m_c m_Mod_read) 48 = .ok (.bastore, 1) := by decide +kernel
theorem d_Mod_read_49 : decode (m_c m_Mod_read) 49 = .ok (.aload_n 0, 1) := by decide +kernel
theorem d_Mod_read_50 : decode (m_c m_Mod_read) 50 = .ok (.getfield 19, 3) := by decide +kernel
theorem d_Mod_read_53 : decode (m_c m_Mod_read) 53 = .ok (.iload_n 1, 1) := by decide +kernel
theorem d_Mod_read_54 : decode (m_c m_Mod_read) 54 = .ok (.iconst (-1), 1) := by decide +kernel
theorem d_Mod_read_55 : decode (m_c m_Mod_read) 55 = .ok (.iastore, 1) := by decide +kernel
theorem d_Mod_read_56 : decode (m_c m_Mod_read) 56 = .ok (.iinc 1 1, 3) := by decide +kernel
theorem d_Mod_read_59 : decode (m_c m_Mod_read) 59 = .ok (.goto (-37), 3) := by decide +kernel
theorem d_Mod_read_62 : decode (m_c m_Mod_read) 62 = .ok (.iconst 0, 1) := by decide +kernel
theorem d_Mod_read_63 : decode (m_c m_Mod_read) 63 = .ok (.istore_n 1, 1) := by decide +kernel
theorem d_Mod_read_64 : decode (m_c m_Mod_read) 64 = .ok (.iload_n 1, 1) := by decide +kernel
theorem d_Mod_read_65 : decode (m_c m_Mod_read) 65 = .ok (.bipush 26, 2) := by decide +kernel
theorem d_Mod_read_67 : decode (m_c m_Mod_read) 67 = .ok (.if_icmp .ge 23, 3) := by decide +kernel
theorem d_Mod_read_70 : decode (m_c m_Mod_read) 70 = .ok (.aload_n 0, 1) := by decide +kernel
theorem d_Mod_read_71 : decode (m_c m_Mod_read) 71 = .ok (.getfield 103, 3) := by decide +kernel
theorem d_Mod_read_74 : decode (m_c m_Mod_read) 74 = .ok (.iload_n 1, 1) := by decide +kernel
theorem d_Mod_read_75 : decode (m_c m_Mod_read) 75 = .ok (.iconst 0, 1) := by decide +kernel
theorem d_Mod_read_76 : decode (m_c m_Mod_read) 76 = .ok (.bastore, 1) := by decide +kernel
theorem d_Mod_read_77 : decode (m_c m_Mod_read) 77 = .ok (.aload_n 0, 1) := by decide +kernel
theorem d_Mod_read_78 : decode (m_c m_Mod_read) 78 = .ok (.getfield 106, 3) := by decide +kernel
theorem d_Mod_read_81 : decode (m_c m_Mod_read) 81 = .ok (.iload_n 1, 1) := by decide +kernel
theorem d_Mod_read_82 : decode (m_c m_Mod_read) 82 = .ok (.iconst 0, 1) := by decide +kernel
theorem d_Mod_read_83 : decode (m_c m_Mod_read) 83 = .ok (.bastore, 1) := by decide +kernel
theorem d_Mod_read_84 : decode (m_c m_Mod_read) 84 = .ok (.iinc 1 1, 3) := by decide +kernel
theorem d_Mod_read_87 : decode (m_c m_Mod_read) 87 = .ok (.goto (-23), 3) := by decide +kernel
theorem d_Mod_read_90 : decode (m_c m_Mod_read) 90 = .ok (.aload_n 0, 1) := by decide +kernel
theorem d_Mod_read_91 : decode (m_c m_Mod_read) 91 = .ok (.iconst 0, 1) := by decide +kernel
theorem d_Mod_read_92 : decode (m_c m_Mod_read) 92 = .ok (.putfield 196, 3) := by decide +kernel
theorem d_Mod_read_95 : decode (m_c m_Mod_read) 95 = .ok (.aload_n 0, 1) := by decide +kernel
theorem d_Mod_read_96 : decode (m_c m_Mod_read) 96 = .ok (.iconst 0, 1) := by decide +kernel
theorem d_Mod_read_97 : decode (m_c m_Mod_read) 97 = .ok (.putfield 161, 3) := by decide +kernel
theorem d_Mod_read_100 : decode (m_c m_Mod_read) 100 = .ok (.aload_n 0, 1) := by decide +kernel
theorem d_Mod_read_101 : decode (m_c m_Mod_read) 101 = .ok (.iconst 0, 1) := by decide +kernel
theorem d_Mod_read_102 : decode (m_c m_Mod_read) 102 = .ok (.putfield 186, 3) := by decide +kernel
theorem d_Mod_read_105 : decode (m_c m_Mod_read) 105 = .ok (.aload_n 0, 1) := by decide +kernel
theorem d_Mod_read_106 : decode (m_c m_Mod_read) 106 = .ok (.iconst 0, 1) := by decide +kernel
theorem d_Mod_read_107 : decode (m_c m_Mod_read) 107 = .ok (.putfield 144, 3) := by decide +kernel
theorem d_Mod_read_110 : decode (m_c m_Mod_read) 110 = .ok (.aload_n 0, 1) := by decide +kernel
theorem d_Mod_read_111 : decode (m_c m_Mod_read) 111 = .ok (.iconst 0, 1) := by decide +kernel
theorem d_Mod_read_112 : decode (m_c m_Mod_read) 112 = .ok (.putfield 147, 3) := by decide +kernel
theorem d_Mod_read_115 : decode (m_c m_Mod_read) 115 = .ok (.aload_n 0, 1) := by decide +kernel
theorem d_Mod_read_116 : decode (m_c m_Mod_read) 116 = .ok (.getfield 147, 3) := by decide +kernel
theorem d_Mod_read_119 : decode (m_c m_Mod_read) 119 = .ok (.ifCond .ne 21, 3) := by decide +kernel
theorem d_Mod_read_122 : decode (m_c m_Mod_read) 122 = .ok (.aload_n 0, 1) := by decide +kernel
theorem d_Mod_read_123 : decode (m_c m_Mod_read) 123 = .ok (.getfield 144, 3) := by decide +kernel
theorem d_Mod_read_126 : decode (m_c m_Mod_read) 126 = .ok (.aload_n 0, 1) := by decide +kernel
theorem d_Mod_read_127 : decode (m_c m_Mod_read) 127 = .ok (.getfield 141, 3) := by decide +kernel
theorem d_Mod_read_130 : decode (m_c m_Mod_read) 130 = .ok (.if_icmp .ge 10, 3) := by decide +kernel
theorem d_Mod_read_133 : decode (m_c m_Mod_read) 133 = .ok (.aload_n 0, 1) := by decide +kernel
theorem d_Mod_read_134 : decode (m_c m_Mod_read) 134 = .ok (.invokevirtual 214, 3) := by decide +kernel
theorem d_Mod_read_137 : decode (m_c m_Mod_read) 137 = .ok (.goto (-22), 3) := by decide +kernel
theorem d_Mod_read_140 : decode (m_c m_Mod_read) 140 = .ok (.aload_n 0, 1) := by decide +kernel
theorem d_Mod_read_141 : decode (m_c m_Mod_read) 141 = .ok (.aload_n 0, 1) := by decide +kernel
theorem d_Mod_read_142 : decode (m_c m_Mod_read) 142 = .ok (.getfield 147, 3) := by decide +kernel
theorem d_Mod_read_145 : decode (m_c m_Mod_read) 145 = .ok (.ifCond .eq 10, 3) := by decide +kernel
theorem d_Mod_read_148 : decode (m_c m_Mod_read) 148 = .ok (.aload_n 0, 1) := by decide +kernel
theorem d_Mod_read_149 : decode (m_c m_Mod_read) 149 = .ok (.getfield 144, 3) := by decide +kernel
theorem d_Mod_read_152 : decode (m_c m_Mod_read) 152 = .ok (.goto 4, 3) := by decide +kernel
theorem d_Mod_read_155 : decode (m_c m_Mod_read) 155 = .ok (.iconst (-1), 1) := by decide +kernel
theorem d_Mod_read_156 : decode (m_c m_Mod_read) 156 = .ok (.putfield 29, 3) := by decide +kernel
theorem d_Mod_read_159 : decode (m_c m_Mod_read) 159 = .ok (.return_, 1) := by decide +kernel
def p_Mod_read_156   (s0 : Int) (f g : q_F) : Option (q_F × q_F) :=
  q_let (ma_up f 60 10 s0) fun f1 =>
  some (f1, g)
def p_Mod_read_140    (f g : q_F) : Option (q_F × q_F) :=
  if q_sw (f 60 9) = 0 then
    p_Mod_read_156   (-1) f g
  else
    p_Mod_read_156   (f 60 8) f g
def p_Mod_read_115   : Nat → q_F → q_F → Option (q_F × q_F)
  | 0, _, _ => none
  | n + 1, f, g =>
    if q_sw (f 60 9) = 0 then
      if q_sw (f 60 6) ≤ q_sw (f 60 8) then
        p_Mod_read_140    f g
      else
        (p_Mod_statement  f g).bind fun x3 =>
        (p_Mod_read_115   n)  x3.1 x3.2
    else
      p_Mod_read_140    f g
def p_Mod_read_64   : Nat → Int → q_F → q_F → Option (q_F × q_F)
  | 0, _, _, _ => none
  | n + 1, v1, f, g =>
    if q_sw 26 ≤ q_sw v1 then
      q_let (ma_up f 60 22 0) fun f2 =>
      q_let (ma_up f2 60 14 0) fun f3 =>
      q_let (ma_up f3 60 37 0) fun f4 =>
      q_let (ma_up f4 60 8 0) fun f5 =>
      q_let (ma_up f5 60 9 0) fun f6 =>
      p_Mod_read_115   1000  f6 g
    else
      if 0 ≤ v1 ∧ v1 < 26 then
        q_let (ma_up f 90 (Int.toNat v1) (q_nz 0)) fun f8 =>
        if 0 ≤ v1 ∧ v1 < 26 then
          q_let (ma_up f8 91 (Int.toNat v1) (q_nz 0)) fun f10 =>
          q_let (v1 + 1) fun z11 =>
          (p_Mod_read_64   n) (z11) f10 g
        else none
      else none
def p_Mod_read_22   : Nat → Int → q_F → q_F → Option (q_F × q_F)
  | 0, _, _, _ => none
  | n + 1, v1, f, g =>
    if q_sw 8 ≤ q_sw v1 then
      p_Mod_read_64   1000 (0) f g
    else
      if 0 ≤ v1 ∧ v1 < 8 then
        q_let (ma_up f 76 (Int.toNat v1) (q_nz 0)) fun f3 =>
        if 0 ≤ v1 ∧ v1 < 8 then
          q_let (ma_up f3 77 (Int.toNat v1) (q_nz 0)) fun f5 =>
          if 0 ≤ v1 ∧ v1 < 8 then
            q_let (ma_up f5 65 (Int.toNat v1) (q_nz 0)) fun f7 =>
            if 0 ≤ v1 ∧ v1 < 8 then
              q_let (ma_up f7 64 (Int.toNat v1) (-1)) fun f9 =>
              q_let (v1 + 1) fun z10 =>
              (p_Mod_read_22   n) (z10) f9 g
            else none
          else none
        else none
      else none
def p_Mod_read_2   : Nat → Int → q_F → q_F → Option (q_F × q_F)
  | 0, _, _, _ => none
  | n + 1, v1, f, g =>
    if q_sw 4 ≤ q_sw v1 then
      p_Mod_read_22   1000 (0) f g
    else
      if 0 ≤ v1 ∧ v1 < 4 then
        q_let (ma_up f 67 (Int.toNat v1) (q_nz 0)) fun f3 =>
        q_let (v1 + 1) fun z4 =>
        (p_Mod_read_2   n) (z4) f3 g
      else none
def p_Mod_read   (f g : q_F) : Option (q_F × q_F) :=
  p_Mod_read_2   1000 (0) f g
theorem e_Mod_read_156 (t : q_V) (ok : ma_ok (q_G t))  {Q : Option Value → ma_H → Prop} {y : q_F × q_F} (hQ : Q (none) (q_h y.1 y.2))   (s0 : Int) (f g : q_F) (hp : p_Mod_read_156   s0 f g = some y) : ma_Ev (q_G t) 6 134 0 0 m_Mod_read 156 [] [ma_i (s0), q_a t (60)] (q_h f g) (ma_zr (q_G t) false Q) := by
  unfold p_Mod_read_156 at hp
  refine et_puti (pc := 156) ok (fl_Mod_29 t) d_Mod_read_156 s_60 ?_
  replace hp := q_let_of hp
  obtain ⟨f1, hz, hp⟩ := hp
  rw [← hz]
  clear hz
  cases Option.some.inj hp
  exact et_ret (pc := 159) d_Mod_read_159 rfl hQ
theorem e_Mod_read_140 (t : q_V) (ok : ma_ok (q_G t))  {Q : Option Value → ma_H → Prop} {y : q_F × q_F} (hQ : Q (none) (q_h y.1 y.2))    (f g : q_F) (hp : p_Mod_read_140    f g = some y) : ma_Ev (q_G t) 6 134 0 0 m_Mod_read 140 [(0, q_a t (60))] [] (q_h f g) (ma_zr (q_G t) false Q) := by
  unfold p_Mod_read_140 at hp
  refine et_aload_n (pc := 140) d_Mod_read_140 rfl rfl ?_
  refine et_aload_n (pc := 141) d_Mod_read_141 rfl rfl ?_
  refine et_geti (pc := 142) ok (fl_Mod_147 t) rfl d_Mod_read_142 s_60 ?_
  refine et_if_eq (pc := 145) (tgt := 155) d_Mod_read_145 (by decide) (fun hj1 => ?_) (fun hj1 => ?_)
  · rw [if_pos hj1] at hp
    refine ev_iconst (pc := 155) d_Mod_read_155 ?_
    refine ev_sub (ls2 := []) [] rfl ?_
    exact e_Mod_read_156 t ok  hQ   (-1) f g hp
  · rw [if_neg hj1] at hp
    refine et_aload_n (pc := 148) d_Mod_read_148 rfl rfl ?_
    refine et_geti (pc := 149) ok (fl_Mod_144 t) rfl d_Mod_read_149 s_60 ?_
    refine ev_goto (pc := 152) (tgt := 156) d_Mod_read_152 (by decide) ?_
    refine ev_sub (ls2 := []) [] rfl ?_
    exact e_Mod_read_156 t ok  hQ   (f 60 8) f g hp
theorem e_Mod_read_115 (t : q_V) (ok : ma_ok (q_G t))  {Q : Option Value → ma_H → Prop} {y : q_F × q_F} (hQ : Q (none) (q_h y.1 y.2))   : ∀ (n : Nat)  (f g : q_F), p_Mod_read_115   n  f g = some y → ma_Ev (q_G t) 6 134 0 0 m_Mod_read 115 [(0, q_a t (60))] [] (q_h f g) (ma_zr (q_G t) false Q) := by
  intro n
  induction n with
  | zero =>
    intro  f g hp
    rw [p_Mod_read_115] at hp
    cases hp
  | succ n ih =>
    intro  f g hp
    rw [p_Mod_read_115] at hp
    refine et_aload_n (pc := 115) d_Mod_read_115 rfl rfl ?_
    refine et_geti (pc := 116) ok (fl_Mod_147 t) rfl d_Mod_read_116 s_60 ?_
    refine et_if_ne (pc := 119) (tgt := 140) d_Mod_read_119 (by decide) (fun hj1 => ?_) (fun hj1 => ?_)
    · rw [if_neg hj1] at hp
      refine ev_sub (ls2 := [(0, q_a t (60))]) [0] rfl ?_
      exact e_Mod_read_140 t ok  hQ    f g hp
    · rw [if_pos hj1] at hp
      refine et_aload_n (pc := 122) d_Mod_read_122 rfl rfl ?_
      refine et_geti (pc := 123) ok (fl_Mod_144 t) rfl d_Mod_read_123 s_60 ?_
      refine et_aload_n (pc := 126) d_Mod_read_126 rfl rfl ?_
      refine et_geti (pc := 127) ok (fl_Mod_141 t) rfl d_Mod_read_127 s_60 ?_
      refine et_icmp_ge (pc := 130) (tgt := 140) d_Mod_read_130 (by decide) (fun hj2 => ?_) (fun hj2 => ?_)
      · rw [if_pos hj2] at hp
        refine ev_sub (ls2 := [(0, q_a t (60))]) [0] rfl ?_
        exact e_Mod_read_140 t ok  hQ    f g hp
      · rw [if_neg hj2] at hp
        refine et_aload_n (pc := 133) d_Mod_read_133 rfl rfl ?_
        replace hp := q_bind hp
        obtain ⟨x3, hm4, hp⟩ := hp
        refine et_callVv (pc := 134) (f1 := x3.1) (g1 := x3.2) ok [] [] (cf_Mod_214 t) d_Mod_read_134 s_60 k_12 rfl (t_Mod_statement t ok  f g hm4 ⟨rfl, rfl⟩) rfl rfl (by decide) (by decide) (q_ble rfl) ?_
        refine ev_goto (pc := 137) (tgt := 115) d_Mod_read_137 (by decide) ?_
        refine ev_sub (ls2 := [(0, q_a t (60))]) [0] rfl ?_
        exact ih  x3.1 x3.2 hp
theorem e_Mod_read_64 (t : q_V) (ok : ma_ok (q_G t))  {Q : Option Value → ma_H → Prop} {y : q_F × q_F} (hQ : Q (none) (q_h y.1 y.2))   : ∀ (n : Nat) (v1 : Int) (f g : q_F), p_Mod_read_64   n v1 f g = some y → ma_Ev (q_G t) 6 134 0 0 m_Mod_read 64 [(0, q_a t (60)), (1, ma_i (v1))] [] (q_h f g) (ma_zr (q_G t) false Q) := by
  intro n
  induction n with
  | zero =>
    intro v1 f g hp
    rw [p_Mod_read_64] at hp
    cases hp
  | succ n ih =>
    intro v1 f g hp
    rw [p_Mod_read_64] at hp
    refine ev_iload_n (pc := 64) d_Mod_read_64 rfl rfl ?_
    refine ev_bipush (pc := 65) d_Mod_read_65 rfl ?_
    refine et_icmp_ge (pc := 67) (tgt := 90) d_Mod_read_67 (by decide) (fun hj1 => ?_) (fun hj1 => ?_)
    · rw [if_pos hj1] at hp
      refine et_aload_n (pc := 90) d_Mod_read_90 rfl rfl ?_
      refine ev_iconst (pc := 91) d_Mod_read_91 ?_
      refine et_puti (pc := 92) ok (fl_Mod_196 t) d_Mod_read_92 s_60 ?_
      replace hp := q_let_of hp
      obtain ⟨f2, hz, hp⟩ := hp
      rw [← hz]
      clear hz
      refine et_aload_n (pc := 95) d_Mod_read_95 rfl rfl ?_
      refine ev_iconst (pc := 96) d_Mod_read_96 ?_
      refine et_puti (pc := 97) ok (fl_Mod_161 t) d_Mod_read_97 s_60 ?_
      replace hp := q_let_of hp
      obtain ⟨f3, hz, hp⟩ := hp
      rw [← hz]
      clear hz
      refine et_aload_n (pc := 100) d_Mod_read_100 rfl rfl ?_
      refine ev_iconst (pc := 101) d_Mod_read_101 ?_
      refine et_puti (pc := 102) ok (fl_Mod_186 t) d_Mod_read_102 s_60 ?_
      replace hp := q_let_of hp
      obtain ⟨f4, hz, hp⟩ := hp
      rw [← hz]
      clear hz
      refine et_aload_n (pc := 105) d_Mod_read_105 rfl rfl ?_
      refine ev_iconst (pc := 106) d_Mod_read_106 ?_
      refine et_puti (pc := 107) ok (fl_Mod_144 t) d_Mod_read_107 s_60 ?_
      replace hp := q_let_of hp
      obtain ⟨f5, hz, hp⟩ := hp
      rw [← hz]
      clear hz
      refine et_aload_n (pc := 110) d_Mod_read_110 rfl rfl ?_
      refine ev_iconst (pc := 111) d_Mod_read_111 ?_
      refine et_putz (pc := 112) ok (fl_Mod_147 t) (by decide) d_Mod_read_112 s_60 ?_
      replace hp := q_let_of hp
      obtain ⟨f6, hz, hp⟩ := hp
      rw [← hz]
      clear hz
      refine ev_sub (ls2 := [(0, q_a t (60))]) [0] rfl ?_
      exact e_Mod_read_115 t ok  hQ   1000  f6 g hp
    · rw [if_neg hj1] at hp
      refine et_aload_n (pc := 70) d_Mod_read_70 rfl rfl ?_
      refine et_getr (pc := 71) ok (fl_Mod_103 t) rfl d_Mod_read_71 s_60 r_60_39 ?_
      refine ev_iload_n (pc := 74) d_Mod_read_74 rfl rfl ?_
      refine ev_iconst (pc := 75) d_Mod_read_75 ?_
      replace hp := q_if hp
      obtain ⟨hb7, hp⟩ := hp
      refine et_zast (pc := 76) d_Mod_read_76 s_90 hb7 (by decide) ?_
      replace hp := q_let_of hp
      obtain ⟨f8, hz, hp⟩ := hp
      rw [← hz]
      clear hz
      refine et_aload_n (pc := 77) d_Mod_read_77 rfl rfl ?_
      refine et_getr (pc := 78) ok (fl_Mod_106 t) rfl d_Mod_read_78 s_60 r_60_40 ?_
      refine ev_iload_n (pc := 81) d_Mod_read_81 rfl rfl ?_
      refine ev_iconst (pc := 82) d_Mod_read_82 ?_
      replace hp := q_if hp
      obtain ⟨hb9, hp⟩ := hp
      refine et_zast (pc := 83) d_Mod_read_83 s_91 hb9 (by decide) ?_
      replace hp := q_let_of hp
      obtain ⟨f10, hz, hp⟩ := hp
      rw [← hz]
      clear hz
      refine ev_iinc (pc := 84) d_Mod_read_84 (by decide) rfl [(1, _), (0, _)] rfl ?_
      replace hp := q_let_of hp
      obtain ⟨z11, hz, hp⟩ := hp
      rw [← hz]
      clear hz
      refine ev_goto (pc := 87) (tgt := 64) d_Mod_read_87 (by decide) ?_
      refine ev_sub (ls2 := [(0, q_a t (60)), (1, ma_i (z11))]) [1, 0] rfl ?_
      exact ih (z11) f10 g hp
theorem e_Mod_read_22 (t : q_V) (ok : ma_ok (q_G t))  {Q : Option Value → ma_H → Prop} {y : q_F × q_F} (hQ : Q (none) (q_h y.1 y.2))   : ∀ (n : Nat) (v1 : Int) (f g : q_F), p_Mod_read_22   n v1 f g = some y → ma_Ev (q_G t) 6 134 0 0 m_Mod_read 22 [(0, q_a t (60)), (1, ma_i (v1))] [] (q_h f g) (ma_zr (q_G t) false Q) := by
  intro n
  induction n with
  | zero =>
    intro v1 f g hp
    rw [p_Mod_read_22] at hp
    cases hp
  | succ n ih =>
    intro v1 f g hp
    rw [p_Mod_read_22] at hp
    refine ev_iload_n (pc := 22) d_Mod_read_22 rfl rfl ?_
    refine ev_bipush (pc := 23) d_Mod_read_23 rfl ?_
    refine et_icmp_ge (pc := 25) (tgt := 62) d_Mod_read_25 (by decide) (fun hj1 => ?_) (fun hj1 => ?_)
    · rw [if_pos hj1] at hp
      refine ev_iconst (pc := 62) d_Mod_read_62 ?_
      refine ev_istore_n (pc := 63) d_Mod_read_63 rfl (by decide) [(1, _), (0, _)] rfl ?_
      refine ev_sub (ls2 := [(0, q_a t (60)), (1, ma_i (0))]) [1, 0] rfl ?_
      exact e_Mod_read_64 t ok  hQ   1000 (0) f g hp
    · rw [if_neg hj1] at hp
      refine et_aload_n (pc := 28) d_Mod_read_28 rfl rfl ?_
      refine et_getr (pc := 29) ok (fl_Mod_61 t) rfl d_Mod_read_29 s_60 r_60_24 ?_
      refine ev_iload_n (pc := 32) d_Mod_read_32 rfl rfl ?_
      refine ev_iconst (pc := 33) d_Mod_read_33 ?_
      replace hp := q_if hp
      obtain ⟨hb2, hp⟩ := hp
      refine et_zast (pc := 34) d_Mod_read_34 s_76 hb2 (by decide) ?_
      replace hp := q_let_of hp
      obtain ⟨f3, hz, hp⟩ := hp
      rw [← hz]
      clear hz
      refine et_aload_n (pc := 35) d_Mod_read_35 rfl rfl ?_
      refine et_getr (pc := 36) ok (fl_Mod_64 t) rfl d_Mod_read_36 s_60 r_60_25 ?_
      refine ev_iload_n (pc := 39) d_Mod_read_39 rfl rfl ?_
      refine ev_iconst (pc := 40) d_Mod_read_40 ?_
      replace hp := q_if hp
      obtain ⟨hb4, hp⟩ := hp
      refine et_zast (pc := 41) d_Mod_read_41 s_77 hb4 (by decide) ?_
      replace hp := q_let_of hp
      obtain ⟨f5, hz, hp⟩ := hp
      rw [← hz]
      clear hz
      refine et_aload_n (pc := 42) d_Mod_read_42 rfl rfl ?_
      refine et_getr (pc := 43) ok (fl_Mod_22 t) rfl d_Mod_read_43 s_60 r_60_5 ?_
      refine ev_iload_n (pc := 46) d_Mod_read_46 rfl rfl ?_
      refine ev_iconst (pc := 47) d_Mod_read_47 ?_
      replace hp := q_if hp
      obtain ⟨hb6, hp⟩ := hp
      refine et_zast (pc := 48) d_Mod_read_48 s_65 hb6 (by decide) ?_
      replace hp := q_let_of hp
      obtain ⟨f7, hz, hp⟩ := hp
      rw [← hz]
      clear hz
      refine et_aload_n (pc := 49) d_Mod_read_49 rfl rfl ?_
      refine et_getr (pc := 50) ok (fl_Mod_19 t) rfl d_Mod_read_50 s_60 r_60_4 ?_
      refine ev_iload_n (pc := 53) d_Mod_read_53 rfl rfl ?_
      refine ev_iconst (pc := 54) d_Mod_read_54 ?_
      replace hp := q_if hp
      obtain ⟨hb8, hp⟩ := hp
      refine et_iast (pc := 55) d_Mod_read_55 s_64 hb8 (by decide) ?_
      replace hp := q_let_of hp
      obtain ⟨f9, hz, hp⟩ := hp
      rw [← hz]
      clear hz
      refine ev_iinc (pc := 56) d_Mod_read_56 (by decide) rfl [(1, _), (0, _)] rfl ?_
      replace hp := q_let_of hp
      obtain ⟨z10, hz, hp⟩ := hp
      rw [← hz]
      clear hz
      refine ev_goto (pc := 59) (tgt := 22) d_Mod_read_59 (by decide) ?_
      refine ev_sub (ls2 := [(0, q_a t (60)), (1, ma_i (z10))]) [1, 0] rfl ?_
      exact ih (z10) f9 g hp
theorem e_Mod_read_2 (t : q_V) (ok : ma_ok (q_G t))  {Q : Option Value → ma_H → Prop} {y : q_F × q_F} (hQ : Q (none) (q_h y.1 y.2))   : ∀ (n : Nat) (v1 : Int) (f g : q_F), p_Mod_read_2   n v1 f g = some y → ma_Ev (q_G t) 6 134 0 0 m_Mod_read 2 [(0, q_a t (60)), (1, ma_i (v1))] [] (q_h f g) (ma_zr (q_G t) false Q) := by
  intro n
  induction n with
  | zero =>
    intro v1 f g hp
    rw [p_Mod_read_2] at hp
    cases hp
  | succ n ih =>
    intro v1 f g hp
    rw [p_Mod_read_2] at hp
    refine ev_iload_n (pc := 2) d_Mod_read_2 rfl rfl ?_
    refine ev_iconst (pc := 3) d_Mod_read_3 ?_
    refine et_icmp_ge (pc := 4) (tgt := 20) d_Mod_read_4 (by decide) (fun hj1 => ?_) (fun hj1 => ?_)
    · rw [if_pos hj1] at hp
      refine ev_iconst (pc := 20) d_Mod_read_20 ?_
      refine ev_istore_n (pc := 21) d_Mod_read_21 rfl (by decide) [(1, _), (0, _)] rfl ?_
      refine ev_sub (ls2 := [(0, q_a t (60)), (1, ma_i (0))]) [1, 0] rfl ?_
      exact e_Mod_read_22 t ok  hQ   1000 (0) f g hp
    · rw [if_neg hj1] at hp
      refine et_aload_n (pc := 7) d_Mod_read_7 rfl rfl ?_
      refine et_getr (pc := 8) ok (fl_Mod_33 t) rfl d_Mod_read_8 s_60 r_60_11 ?_
      refine ev_iload_n (pc := 11) d_Mod_read_11 rfl rfl ?_
      refine ev_iconst (pc := 12) d_Mod_read_12 ?_
      replace hp := q_if hp
      obtain ⟨hb2, hp⟩ := hp
      refine et_zast (pc := 13) d_Mod_read_13 s_67 hb2 (by decide) ?_
      replace hp := q_let_of hp
      obtain ⟨f3, hz, hp⟩ := hp
      rw [← hz]
      clear hz
      refine ev_iinc (pc := 14) d_Mod_read_14 (by decide) rfl [(1, _), (0, _)] rfl ?_
      replace hp := q_let_of hp
      obtain ⟨z4, hz, hp⟩ := hp
      rw [← hz]
      clear hz
      refine ev_goto (pc := 17) (tgt := 2) d_Mod_read_17 (by decide) ?_
      refine ev_sub (ls2 := [(0, q_a t (60)), (1, ma_i (z4))]) [1, 0] rfl ?_
      exact ih (z4) f3 g hp
theorem t_Mod_read (t : q_V) (ok : ma_ok (q_G t))  {Q : Option Value → ma_H → Prop} {y : q_F × q_F}  (f g : q_F) (hp : p_Mod_read   f g = some y) (hQ : Q (none) (q_h y.1 y.2)) : ma_Met (q_G t) false 6 134 0 0 m_Mod_read [q_a t (60)] (q_h f g) Q := by
  refine ma_met (by decide +kernel) (q_ble rfl) rfl ?_
  change ma_Ev (q_G t) 6 134 0 0 m_Mod_read 0 [(0, q_a t (60))] [] (q_h f g) (ma_zr (q_G t) false Q)
  unfold p_Mod_read at hp
  refine ev_iconst (pc := 0) d_Mod_read_0 ?_
  refine ev_istore_n (pc := 1) d_Mod_read_1 rfl (by decide) [(1, _), (0, _)] rfl ?_
  refine ev_sub (ls2 := [(0, q_a t (60)), (1, ma_i (0))]) [1, 0] rfl ?_
  exact e_Mod_read_2 t ok  hQ   1000 (0) f g hp
