/-! ===== printed by walk.py: the desk, where it throws ===== -/
def x_Desk_needLayout   (f g : q_F) : Option (Nat × q_F × q_F) :=
  if q_sw (f 0 6) = 0 then
    some (1, f, g)
  else
    none
theorem xt_Desk_needLayout (t : q_V) (ok : ma_ok (q_G t)) {y : Nat × q_F × q_F}  (f g : q_F) (hp : x_Desk_needLayout  f g = some y) : ma_MetX (q_G t) 6 90 1 6 m_Desk_needLayout [q_a t (0)] (q_h f g) (q_E y.1) (q_h y.2.1 y.2.2) := by
  refine ma_metX (by decide +kernel) (q_ble rfl) rfl ?_
  change ma_Ev (q_G t) 6 90 1 6 m_Desk_needLayout 0 [(0, q_a t (0))] [] (q_h f g) (ma_zx (q_G t) (q_E y.1) (q_h y.2.1 y.2.2))
  unfold x_Desk_needLayout at hp
  refine et_aload_n (pc := 0) d_Desk_needLayout_0 rfl rfl ?_
  refine et_geti (pc := 1) ok (fl_Desk_55 t) rfl d_Desk_needLayout_1 s_0 ?_
  refine et_if_ne (pc := 4) (tgt := 15) d_Desk_needLayout_4 (by decide) (fun hj1 => ?_) (fun hj1 => ?_)
  · rw [if_neg hj1] at hp
    cases hp
  · rw [if_pos hj1] at hp
    cases Option.some.inj hp
    exact et_throw1 (pc := 7) ok rfl d_Desk_needLayout_7 d_Desk_needLayout_10 d_Desk_needLayout_11 d_Desk_needLayout_14 rfl (by decide) (q_ble rfl)
def x_Desk_needOneOfThree_9    (f g : q_F) : Option (Nat × q_F × q_F) :=
  some (0, f, g)
def x_Desk_needOneOfThree  (v0 : Int) (f g : q_F) : Option (Nat × q_F × q_F) :=
  if q_sw v0 < 0 then
    x_Desk_needOneOfThree_9    f g
  else
    if q_sw v0 ≤ q_sw 2 then
      none
    else
      x_Desk_needOneOfThree_9    f g
theorem xe_Desk_needOneOfThree_9 (t : q_V) (ok : ma_ok (q_G t))  {y : Nat × q_F × q_F}     (f g : q_F) (hp : x_Desk_needOneOfThree_9    f g = some y) : ma_Ev (q_G t) 6 90 1 6 m_Desk_needOneOfThree 9 [] [] (q_h f g) (ma_zx (q_G t) (q_E y.1) (q_h y.2.1 y.2.2)) := by
  unfold x_Desk_needOneOfThree_9 at hp
  cases Option.some.inj hp
  exact et_throw0 (pc := 9) ok rfl d_Desk_needOneOfThree_9 d_Desk_needOneOfThree_12 d_Desk_needOneOfThree_13 d_Desk_needOneOfThree_16 rfl (by decide) (q_ble rfl)
theorem xt_Desk_needOneOfThree (t : q_V) (ok : ma_ok (q_G t)) {y : Nat × q_F × q_F} (v0 : Int) (f g : q_F) (hp : x_Desk_needOneOfThree v0 f g = some y) : ma_MetX (q_G t) 6 90 1 6 m_Desk_needOneOfThree [ma_i (v0)] (q_h f g) (q_E y.1) (q_h y.2.1 y.2.2) := by
  refine ma_metX (by decide +kernel) (q_ble rfl) rfl ?_
  change ma_Ev (q_G t) 6 90 1 6 m_Desk_needOneOfThree 0 [(0, ma_i (v0))] [] (q_h f g) (ma_zx (q_G t) (q_E y.1) (q_h y.2.1 y.2.2))
  unfold x_Desk_needOneOfThree at hp
  refine ev_iload_n (pc := 0) d_Desk_needOneOfThree_0 rfl rfl ?_
  refine et_if_lt (pc := 1) (tgt := 9) d_Desk_needOneOfThree_1 (by decide) (fun hj1 => ?_) (fun hj1 => ?_)
  · rw [if_pos hj1] at hp
    refine ev_sub (ls2 := []) [] rfl ?_
    exact xe_Desk_needOneOfThree_9 t ok      f g hp
  · rw [if_neg hj1] at hp
    refine ev_iload_n (pc := 4) d_Desk_needOneOfThree_4 rfl rfl ?_
    refine ev_iconst (pc := 5) d_Desk_needOneOfThree_5 ?_
    refine et_icmp_le (pc := 6) (tgt := 17) d_Desk_needOneOfThree_6 (by decide) (fun hj2 => ?_) (fun hj2 => ?_)
    · rw [if_pos hj2] at hp
      cases hp
    · rw [if_neg hj2] at hp
      refine ev_sub (ls2 := []) [] rfl ?_
      exact xe_Desk_needOneOfThree_9 t ok      f g hp
def x_Desk_input_50    (f g : q_F) : Option (Nat × q_F × q_F) :=
  some (0, f, g)
def x_Desk_input_20    (f g : q_F) : Option (Nat × q_F × q_F) :=
  some (0, f, g)
def x_Desk_input  (v1 : Int) (v2 : Int) (v3 : Int) (v4 : Int) (f g : q_F) : Option (Nat × q_F × q_F) :=
  if q_sw v1 < 0 then
    x_Desk_input_20    f g
  else
    if q_sw 8 ≤ q_sw v1 then
      x_Desk_input_20    f g
    else
      if q_sw v2 < 0 then
        x_Desk_input_20    f g
      else
        if q_sw v2 ≤ q_sw 40 then
          (p_Desk_isAlignment (v3) (16) f g).bind fun x5 =>
          if q_sw x5.1 = 0 then
            x_Desk_input_50    x5.2.1 x5.2.2
          else
            if q_sw v4 < 0 then
              x_Desk_input_50    x5.2.1 x5.2.2
            else
              if q_sw v4 ≤ q_sw 255 then
                none
              else
                x_Desk_input_50    x5.2.1 x5.2.2
        else
          x_Desk_input_20    f g
theorem xe_Desk_input_50 (t : q_V) (ok : ma_ok (q_G t))  {y : Nat × q_F × q_F}     (f g : q_F) (hp : x_Desk_input_50    f g = some y) : ma_Ev (q_G t) 6 90 1 6 m_Desk_input 50 [] [] (q_h f g) (ma_zx (q_G t) (q_E y.1) (q_h y.2.1 y.2.2)) := by
  unfold x_Desk_input_50 at hp
  cases Option.some.inj hp
  exact et_throw0 (pc := 50) ok rfl d_Desk_input_50 d_Desk_input_53 d_Desk_input_54 d_Desk_input_57 rfl (by decide) (q_ble rfl)
theorem xe_Desk_input_20 (t : q_V) (ok : ma_ok (q_G t))  {y : Nat × q_F × q_F}     (f g : q_F) (hp : x_Desk_input_20    f g = some y) : ma_Ev (q_G t) 6 90 1 6 m_Desk_input 20 [] [] (q_h f g) (ma_zx (q_G t) (q_E y.1) (q_h y.2.1 y.2.2)) := by
  unfold x_Desk_input_20 at hp
  cases Option.some.inj hp
  exact et_throw0 (pc := 20) ok rfl d_Desk_input_20 d_Desk_input_23 d_Desk_input_24 d_Desk_input_27 rfl (by decide) (q_ble rfl)
theorem xt_Desk_input (t : q_V) (ok : ma_ok (q_G t)) {y : Nat × q_F × q_F} (v1 : Int) (v2 : Int) (v3 : Int) (v4 : Int) (f g : q_F) (hp : x_Desk_input v1 v2 v3 v4 f g = some y) : ma_MetX (q_G t) 6 90 1 6 m_Desk_input [q_a t (0), ma_i (v1), ma_i (v2), ma_i (v3), ma_i (v4)] (q_h f g) (q_E y.1) (q_h y.2.1 y.2.2) := by
  refine ma_metX (by decide +kernel) (q_ble rfl) rfl ?_
  change ma_Ev (q_G t) 6 90 1 6 m_Desk_input 0 [(0, q_a t (0)), (1, ma_i (v1)), (2, ma_i (v2)), (3, ma_i (v3)), (4, ma_i (v4))] [] (q_h f g) (ma_zx (q_G t) (q_E y.1) (q_h y.2.1 y.2.2))
  unfold x_Desk_input at hp
  refine ev_iload_n (pc := 0) d_Desk_input_0 rfl rfl ?_
  refine et_if_lt (pc := 1) (tgt := 20) d_Desk_input_1 (by decide) (fun hj1 => ?_) (fun hj1 => ?_)
  · rw [if_pos hj1] at hp
    refine ev_sub (ls2 := []) [] rfl ?_
    exact xe_Desk_input_20 t ok      f g hp
  · rw [if_neg hj1] at hp
    refine ev_iload_n (pc := 4) d_Desk_input_4 rfl rfl ?_
    refine ev_bipush (pc := 5) d_Desk_input_5 rfl ?_
    refine et_icmp_ge (pc := 7) (tgt := 20) d_Desk_input_7 (by decide) (fun hj2 => ?_) (fun hj2 => ?_)
    · rw [if_pos hj2] at hp
      refine ev_sub (ls2 := []) [] rfl ?_
      exact xe_Desk_input_20 t ok      f g hp
    · rw [if_neg hj2] at hp
      refine ev_iload_n (pc := 10) d_Desk_input_10 rfl rfl ?_
      refine et_if_lt (pc := 11) (tgt := 20) d_Desk_input_11 (by decide) (fun hj3 => ?_) (fun hj3 => ?_)
      · rw [if_pos hj3] at hp
        refine ev_sub (ls2 := []) [] rfl ?_
        exact xe_Desk_input_20 t ok      f g hp
      · rw [if_neg hj3] at hp
        refine ev_iload_n (pc := 14) d_Desk_input_14 rfl rfl ?_
        refine ev_bipush (pc := 15) d_Desk_input_15 rfl ?_
        refine et_icmp_le (pc := 17) (tgt := 28) d_Desk_input_17 (by decide) (fun hj4 => ?_) (fun hj4 => ?_)
        · rw [if_pos hj4] at hp
          refine ev_iload_n (pc := 28) d_Desk_input_28 rfl rfl ?_
          refine ev_bipush (pc := 29) d_Desk_input_29 rfl ?_
          replace hp := q_bind hp
          obtain ⟨x5, hm6, hp⟩ := hp
          refine et_callSi (pc := 31) (f1 := x5.2.1) (g1 := x5.2.2) ok [ma_i (v3), ma_i (16)] [] (cf_Desk_66 t) d_Desk_input_31 (t_Desk_isAlignment t ok (v3) (16) f g hm6 ⟨rfl, rfl⟩) rfl rfl (by decide) (by decide) (q_ble rfl) ?_
          refine et_if_eq (pc := 34) (tgt := 50) d_Desk_input_34 (by decide) (fun hj7 => ?_) (fun hj7 => ?_)
          · rw [if_pos hj7] at hp
            refine ev_sub (ls2 := []) [] rfl ?_
            exact xe_Desk_input_50 t ok      x5.2.1 x5.2.2 hp
          · rw [if_neg hj7] at hp
            refine ev_iload (pc := 37) d_Desk_input_37 rfl ?_
            refine et_if_lt (pc := 39) (tgt := 50) d_Desk_input_39 (by decide) (fun hj8 => ?_) (fun hj8 => ?_)
            · rw [if_pos hj8] at hp
              refine ev_sub (ls2 := []) [] rfl ?_
              exact xe_Desk_input_50 t ok      x5.2.1 x5.2.2 hp
            · rw [if_neg hj8] at hp
              refine ev_iload (pc := 42) d_Desk_input_42 rfl ?_
              refine ev_sipush (pc := 44) d_Desk_input_44 rfl ?_
              refine et_icmp_le (pc := 47) (tgt := 58) d_Desk_input_47 (by decide) (fun hj9 => ?_) (fun hj9 => ?_)
              · rw [if_pos hj9] at hp
                cases hp
              · rw [if_neg hj9] at hp
                refine ev_sub (ls2 := []) [] rfl ?_
                exact xe_Desk_input_50 t ok      x5.2.1 x5.2.2 hp
        · rw [if_neg hj4] at hp
          refine ev_sub (ls2 := []) [] rfl ?_
          exact xe_Desk_input_20 t ok      f g hp
def x_Desk_type_19    (f g : q_F) : Option (Nat × q_F × q_F) :=
  some (0, f, g)
def x_Desk_type  (v1 : Int) (v3 : Int) (f g : q_F) : Option (Nat × q_F × q_F) :=
  if q_sw v3 < q_sw 1 then
    x_Desk_type_19    f g
  else
    if q_sw 8 < q_sw v3 then
      x_Desk_type_19    f g
    else
      (p_Desk_allCanBeTyped (v1) (v3) f g).bind fun x3 =>
      if q_sw x3.1 = 0 then
        x_Desk_type_19    x3.2.1 x3.2.2
      else
        if q_sw ((x3.2.1 1 1) + v3) ≤ q_sw 160 then
          none
        else
          some (1, x3.2.1, x3.2.2)
theorem xe_Desk_type_19 (t : q_V) (ok : ma_ok (q_G t))  {y : Nat × q_F × q_F}     (f g : q_F) (hp : x_Desk_type_19    f g = some y) : ma_Ev (q_G t) 6 90 1 6 m_Desk_type 19 [] [] (q_h f g) (ma_zx (q_G t) (q_E y.1) (q_h y.2.1 y.2.2)) := by
  unfold x_Desk_type_19 at hp
  cases Option.some.inj hp
  exact et_throw0 (pc := 19) ok rfl d_Desk_type_19 d_Desk_type_22 d_Desk_type_23 d_Desk_type_26 rfl (by decide) (q_ble rfl)
theorem xt_Desk_type (t : q_V) (ok : ma_ok (q_G t)) {y : Nat × q_F × q_F} (v1 : Int) (v3 : Int) (f g : q_F) (hp : x_Desk_type v1 v3 f g = some y) : ma_MetX (q_G t) 6 90 1 6 m_Desk_type [q_a t (0), ma_j (v1), ma_i (v3)] (q_h f g) (q_E y.1) (q_h y.2.1 y.2.2) := by
  refine ma_metX (by decide +kernel) (q_ble rfl) rfl ?_
  change ma_Ev (q_G t) 6 90 1 6 m_Desk_type 0 [(0, q_a t (0)), (1, ma_j (v1)), (3, ma_i (v3))] [] (q_h f g) (ma_zx (q_G t) (q_E y.1) (q_h y.2.1 y.2.2))
  unfold x_Desk_type at hp
  refine ev_iload_n (pc := 0) d_Desk_type_0 rfl rfl ?_
  refine ev_iconst (pc := 1) d_Desk_type_1 ?_
  refine et_icmp_lt (pc := 2) (tgt := 19) d_Desk_type_2 (by decide) (fun hj1 => ?_) (fun hj1 => ?_)
  · rw [if_pos hj1] at hp
    refine ev_sub (ls2 := []) [] rfl ?_
    exact xe_Desk_type_19 t ok      f g hp
  · rw [if_neg hj1] at hp
    refine ev_iload_n (pc := 5) d_Desk_type_5 rfl rfl ?_
    refine ev_bipush (pc := 6) d_Desk_type_6 rfl ?_
    refine et_icmp_gt (pc := 8) (tgt := 19) d_Desk_type_8 (by decide) (fun hj2 => ?_) (fun hj2 => ?_)
    · rw [if_pos hj2] at hp
      refine ev_sub (ls2 := []) [] rfl ?_
      exact xe_Desk_type_19 t ok      f g hp
    · rw [if_neg hj2] at hp
      refine ev_lload_n (pc := 11) d_Desk_type_11 rfl rfl ?_
      refine ev_iload_n (pc := 12) d_Desk_type_12 rfl rfl ?_
      replace hp := q_bind hp
      obtain ⟨x3, hm4, hp⟩ := hp
      refine et_callSi (pc := 13) (f1 := x3.2.1) (g1 := x3.2.2) ok [ma_j (v1), ma_i (v3)] [] (cf_Desk_85 t) d_Desk_type_13 (t_Desk_allCanBeTyped t ok (v1) (v3) f g hm4 ⟨rfl, rfl⟩) rfl rfl (by decide) (by decide) (q_ble rfl) ?_
      refine et_if_ne (pc := 16) (tgt := 27) d_Desk_type_16 (by decide) (fun hj5 => ?_) (fun hj5 => ?_)
      · rw [if_neg hj5] at hp
        refine et_aload_n (pc := 27) d_Desk_type_27 rfl rfl ?_
        refine et_getr (pc := 28) ok (fl_Desk_10 t) rfl d_Desk_type_28 s_0 r_0_0 ?_
        refine et_geti (pc := 31) ok (fl_Desk_89 t) rfl d_Desk_type_31 s_1 ?_
        refine ev_iload_n (pc := 34) d_Desk_type_34 rfl rfl ?_
        refine ev_iadd (pc := 35) d_Desk_type_35 ?_
        refine ev_sipush (pc := 36) d_Desk_type_36 rfl ?_
        refine et_icmp_le (pc := 39) (tgt := 50) d_Desk_type_39 (by decide) (fun hj6 => ?_) (fun hj6 => ?_)
        · rw [if_pos hj6] at hp
          cases hp
        · rw [if_neg hj6] at hp
          cases Option.some.inj hp
          exact et_throw1 (pc := 42) ok rfl d_Desk_type_42 d_Desk_type_45 d_Desk_type_46 d_Desk_type_49 rfl (by decide) (q_ble rfl)
      · rw [if_pos hj5] at hp
        refine ev_sub (ls2 := []) [] rfl ?_
        exact xe_Desk_type_19 t ok      x3.2.1 x3.2.2 hp
def x_Desk_section_33    (f g : q_F) : Option (Nat × q_F × q_F) :=
  some (2, f, g)
def x_Desk_section  (v1 : Int) (v2 : Int) (f g : q_F) : Option (Nat × q_F × q_F) :=
  q_or (p_Desk_needOneOfThree (v2) f g) (fun x1 =>
    q_or (p_Desk_needLayout  x1.1 x1.2) (fun x3 =>
      if q_sw v1 < 0 then
        x_Desk_section_33    x3.1 x3.2
      else
        if q_sw 8 ≤ q_sw v1 then
          x_Desk_section_33    x3.1 x3.2
        else
          if 0 ≤ v1 ∧ v1 < 8 then
            if q_sw (x3.1 (28 + Int.toNat v1) 0) = 0 then
              x_Desk_section_33    x3.1 x3.2
            else
              none
          else none)
      (x_Desk_needLayout  x1.1 x1.2))
    (x_Desk_needOneOfThree (v2) f g)
theorem xe_Desk_section_33 (t : q_V) (ok : ma_ok (q_G t))  {y : Nat × q_F × q_F}     (f g : q_F) (hp : x_Desk_section_33    f g = some y) : ma_Ev (q_G t) 7 110 1 6 m_Desk_section 33 [] [] (q_h f g) (ma_zx (q_G t) (q_E y.1) (q_h y.2.1 y.2.2)) := by
  unfold x_Desk_section_33 at hp
  cases Option.some.inj hp
  exact et_throw2 (pc := 33) ok rfl d_Desk_section_33 d_Desk_section_36 d_Desk_section_37 d_Desk_section_40 rfl (by decide) (q_ble rfl)
theorem xt_Desk_section (t : q_V) (ok : ma_ok (q_G t)) {y : Nat × q_F × q_F} (v1 : Int) (v2 : Int) (f g : q_F) (hp : x_Desk_section v1 v2 f g = some y) : ma_MetX (q_G t) 7 110 1 6 m_Desk_section [q_a t (0), ma_i (v1), ma_i (v2)] (q_h f g) (q_E y.1) (q_h y.2.1 y.2.2) := by
  refine ma_metX (by decide +kernel) (q_ble rfl) rfl ?_
  change ma_Ev (q_G t) 7 110 1 6 m_Desk_section 0 [(0, q_a t (0)), (1, ma_i (v1)), (2, ma_i (v2))] [] (q_h f g) (ma_zx (q_G t) (q_E y.1) (q_h y.2.1 y.2.2))
  unfold x_Desk_section at hp
  refine ev_iload_n (pc := 0) d_Desk_section_0 rfl rfl ?_
  replace hp := q_or_of hp
  rcases hp with ⟨x1, hm2, hp⟩ | ⟨-, hp⟩
  · refine et_callSv (pc := 1) (f1 := x1.1) (g1 := x1.2) ok [ma_i (v2)] [] (cf_Desk_123 t) d_Desk_section_1 (t_Desk_needOneOfThree t ok (v2) f g hm2 ⟨rfl, rfl⟩) rfl rfl (by decide) (by decide) (q_ble rfl) ?_
    refine et_aload_n (pc := 4) d_Desk_section_4 rfl rfl ?_
    replace hp := q_or_of hp
    rcases hp with ⟨x3, hm4, hp⟩ | ⟨-, hp⟩
    · refine et_callVv (pc := 5) (f1 := x3.1) (g1 := x3.2) ok [] [] (cf_Desk_126 t) d_Desk_section_5 s_0 k_0 rfl (t_Desk_needLayout t ok  x1.1 x1.2 hm4 ⟨rfl, rfl⟩) rfl rfl (by decide) (by decide) (q_ble rfl) ?_
      refine ev_iload_n (pc := 8) d_Desk_section_8 rfl rfl ?_
      refine et_if_lt (pc := 9) (tgt := 33) d_Desk_section_9 (by decide) (fun hj5 => ?_) (fun hj5 => ?_)
      · rw [if_pos hj5] at hp
        refine ev_sub (ls2 := []) [] rfl ?_
        exact xe_Desk_section_33 t ok      x3.1 x3.2 hp
      · rw [if_neg hj5] at hp
        refine ev_iload_n (pc := 12) d_Desk_section_12 rfl rfl ?_
        refine ev_bipush (pc := 13) d_Desk_section_13 rfl ?_
        refine et_icmp_ge (pc := 15) (tgt := 33) d_Desk_section_15 (by decide) (fun hj6 => ?_) (fun hj6 => ?_)
        · rw [if_pos hj6] at hp
          refine ev_sub (ls2 := []) [] rfl ?_
          exact xe_Desk_section_33 t ok      x3.1 x3.2 hp
        · rw [if_neg hj6] at hp
          refine et_aload_n (pc := 18) d_Desk_section_18 rfl rfl ?_
          refine et_getr (pc := 19) ok (fl_Desk_19 t) rfl d_Desk_section_19 s_0 r_0_1 ?_
          refine et_getr (pc := 22) ok (fl_Desk_129 t) rfl d_Desk_section_22 s_3 r_3_2 ?_
          refine ev_iload_n (pc := 25) d_Desk_section_25 rfl rfl ?_
          replace hp := q_if hp
          obtain ⟨hb7, hp⟩ := hp
          refine et_aald (pc := 26) d_Desk_section_26 s_6 hb7 (by decide) (r_6 _ (by omega)) ?_
          refine et_geti (pc := 27) ok (fl_Desk_133 t) rfl d_Desk_section_27 (s_28 _ (by omega) (by omega)) ?_
          refine et_if_ne (pc := 30) (tgt := 41) d_Desk_section_30 (by decide) (fun hj8 => ?_) (fun hj8 => ?_)
          · rw [if_neg hj8] at hp
            cases hp
          · rw [if_pos hj8] at hp
            refine ev_sub (ls2 := []) [] rfl ?_
            exact xe_Desk_section_33 t ok      x3.1 x3.2 hp
    · exact et_callVX (pc := 5) ok [] [] (cf_Desk_126 t) (q_in 710 (by decide +kernel) rfl) d_Desk_section_5 s_0 k_0 rfl (xt_Desk_needLayout t ok  x1.1 x1.2 hp) rfl rfl (by decide) (by decide) (q_ble rfl) rfl
  · exact et_callSX (pc := 1) ok [ma_i (v2)] [] (cf_Desk_123 t) (q_in 707 (by decide +kernel) rfl) d_Desk_section_1 (xt_Desk_needOneOfThree t ok (v2) f g hp) rfl rfl (by decide) (by decide) (q_ble rfl) rfl
def x_Desk_put_10    (f g : q_F) : Option (Nat × q_F × q_F) :=
  some (0, f, g)
def x_Desk_put  (v1 : Int) (f g : q_F) : Option (Nat × q_F × q_F) :=
  if q_sw v1 < 0 then
    x_Desk_put_10    f g
  else
    if q_sw v1 < q_sw 8 then
      q_or (p_Desk_needLayout  f g) (fun x3 =>
        none)
        (x_Desk_needLayout  f g)
    else
      x_Desk_put_10    f g
theorem xe_Desk_put_10 (t : q_V) (ok : ma_ok (q_G t))  {y : Nat × q_F × q_F}     (f g : q_F) (hp : x_Desk_put_10    f g = some y) : ma_Ev (q_G t) 7 110 1 6 m_Desk_put 10 [] [] (q_h f g) (ma_zx (q_G t) (q_E y.1) (q_h y.2.1 y.2.2)) := by
  unfold x_Desk_put_10 at hp
  cases Option.some.inj hp
  exact et_throw0 (pc := 10) ok rfl d_Desk_put_10 d_Desk_put_13 d_Desk_put_14 d_Desk_put_17 rfl (by decide) (q_ble rfl)
theorem xt_Desk_put (t : q_V) (ok : ma_ok (q_G t)) {y : Nat × q_F × q_F} (v1 : Int) (f g : q_F) (hp : x_Desk_put v1 f g = some y) : ma_MetX (q_G t) 7 110 1 6 m_Desk_put [q_a t (0), ma_i (v1)] (q_h f g) (q_E y.1) (q_h y.2.1 y.2.2) := by
  refine ma_metX (by decide +kernel) (q_ble rfl) rfl ?_
  change ma_Ev (q_G t) 7 110 1 6 m_Desk_put 0 [(0, q_a t (0)), (1, ma_i (v1))] [] (q_h f g) (ma_zx (q_G t) (q_E y.1) (q_h y.2.1 y.2.2))
  unfold x_Desk_put at hp
  refine ev_iload_n (pc := 0) d_Desk_put_0 rfl rfl ?_
  refine et_if_lt (pc := 1) (tgt := 10) d_Desk_put_1 (by decide) (fun hj1 => ?_) (fun hj1 => ?_)
  · rw [if_pos hj1] at hp
    refine ev_sub (ls2 := []) [] rfl ?_
    exact xe_Desk_put_10 t ok      f g hp
  · rw [if_neg hj1] at hp
    refine ev_iload_n (pc := 4) d_Desk_put_4 rfl rfl ?_
    refine ev_bipush (pc := 5) d_Desk_put_5 rfl ?_
    refine et_icmp_lt (pc := 7) (tgt := 18) d_Desk_put_7 (by decide) (fun hj2 => ?_) (fun hj2 => ?_)
    · rw [if_pos hj2] at hp
      refine et_aload_n (pc := 18) d_Desk_put_18 rfl rfl ?_
      replace hp := q_or_of hp
      rcases hp with ⟨x3, hm4, hp⟩ | ⟨-, hp⟩
      · refine et_callVv (pc := 19) (f1 := x3.1) (g1 := x3.2) ok [] [] (cf_Desk_126 t) d_Desk_put_19 s_0 k_0 rfl (t_Desk_needLayout t ok  f g hm4 ⟨rfl, rfl⟩) rfl rfl (by decide) (by decide) (q_ble rfl) ?_
        cases hp
      · exact et_callVX (pc := 19) ok [] [] (cf_Desk_126 t) (q_in 710 (by decide +kernel) rfl) d_Desk_put_19 s_0 k_0 rfl (xt_Desk_needLayout t ok  f g hp) rfl rfl (by decide) (by decide) (q_ble rfl) rfl
    · rw [if_neg hj2] at hp
      refine ev_sub (ls2 := []) [] rfl ?_
      exact xe_Desk_put_10 t ok      f g hp
def x_Desk_symbol_17    (f g : q_F) : Option (Nat × q_F × q_F) :=
  some (0, f, g)
def x_Desk_symbol  (v1 : Int) (f g : q_F) : Option (Nat × q_F × q_F) :=
  q_let (v1 - 8) fun z1 =>
  if q_sw v1 < q_sw 8 then
    x_Desk_symbol_17    f g
  else
    if q_sw z1 < q_sw 18 then
      q_or (p_Desk_needLayout  f g) (fun x4 =>
        if 0 ≤ z1 ∧ z1 < 18 then
          if q_sw (x4.1 (36 + Int.toNat z1) 0) = 0 then
            some (2, x4.1, x4.2)
          else
            none
        else none)
        (x_Desk_needLayout  f g)
    else
      x_Desk_symbol_17    f g
theorem xe_Desk_symbol_17 (t : q_V) (ok : ma_ok (q_G t))  {y : Nat × q_F × q_F}     (f g : q_F) (hp : x_Desk_symbol_17    f g = some y) : ma_Ev (q_G t) 7 110 1 6 m_Desk_symbol 17 [] [] (q_h f g) (ma_zx (q_G t) (q_E y.1) (q_h y.2.1 y.2.2)) := by
  unfold x_Desk_symbol_17 at hp
  cases Option.some.inj hp
  exact et_throw0 (pc := 17) ok rfl d_Desk_symbol_17 d_Desk_symbol_20 d_Desk_symbol_21 d_Desk_symbol_24 rfl (by decide) (q_ble rfl)
theorem xt_Desk_symbol (t : q_V) (ok : ma_ok (q_G t)) {y : Nat × q_F × q_F} (v1 : Int) (f g : q_F) (hp : x_Desk_symbol v1 f g = some y) : ma_MetX (q_G t) 7 110 1 6 m_Desk_symbol [q_a t (0), ma_i (v1)] (q_h f g) (q_E y.1) (q_h y.2.1 y.2.2) := by
  refine ma_metX (by decide +kernel) (q_ble rfl) rfl ?_
  change ma_Ev (q_G t) 7 110 1 6 m_Desk_symbol 0 [(0, q_a t (0)), (1, ma_i (v1))] [] (q_h f g) (ma_zx (q_G t) (q_E y.1) (q_h y.2.1 y.2.2))
  unfold x_Desk_symbol at hp
  refine ev_iload_n (pc := 0) d_Desk_symbol_0 rfl rfl ?_
  refine ev_bipush (pc := 1) d_Desk_symbol_1 rfl ?_
  refine ev_isub (pc := 3) d_Desk_symbol_3 ?_
  refine ev_istore_n (pc := 4) d_Desk_symbol_4 rfl (by decide) [(2, _), (0, _), (1, _)] rfl ?_
  replace hp := q_let_of hp
  obtain ⟨z1, hz, hp⟩ := hp
  rw [← hz]
  clear hz
  refine ev_iload_n (pc := 5) d_Desk_symbol_5 rfl rfl ?_
  refine ev_bipush (pc := 6) d_Desk_symbol_6 rfl ?_
  refine et_icmp_lt (pc := 8) (tgt := 17) d_Desk_symbol_8 (by decide) (fun hj2 => ?_) (fun hj2 => ?_)
  · rw [if_pos hj2] at hp
    refine ev_sub (ls2 := []) [] rfl ?_
    exact xe_Desk_symbol_17 t ok      f g hp
  · rw [if_neg hj2] at hp
    refine ev_iload_n (pc := 11) d_Desk_symbol_11 rfl rfl ?_
    refine ev_bipush (pc := 12) d_Desk_symbol_12 rfl ?_
    refine et_icmp_lt (pc := 14) (tgt := 25) d_Desk_symbol_14 (by decide) (fun hj3 => ?_) (fun hj3 => ?_)
    · rw [if_pos hj3] at hp
      refine et_aload_n (pc := 25) d_Desk_symbol_25 rfl rfl ?_
      replace hp := q_or_of hp
      rcases hp with ⟨x4, hm5, hp⟩ | ⟨-, hp⟩
      · refine et_callVv (pc := 26) (f1 := x4.1) (g1 := x4.2) ok [] [] (cf_Desk_126 t) d_Desk_symbol_26 s_0 k_0 rfl (t_Desk_needLayout t ok  f g hm5 ⟨rfl, rfl⟩) rfl rfl (by decide) (by decide) (q_ble rfl) ?_
        refine et_aload_n (pc := 29) d_Desk_symbol_29 rfl rfl ?_
        refine et_getr (pc := 30) ok (fl_Desk_19 t) rfl d_Desk_symbol_30 s_0 r_0_1 ?_
        refine et_getr (pc := 33) ok (fl_Desk_151 t) rfl d_Desk_symbol_33 s_3 r_3_3 ?_
        refine ev_iload_n (pc := 36) d_Desk_symbol_36 rfl rfl ?_
        replace hp := q_if hp
        obtain ⟨hb6, hp⟩ := hp
        refine et_aald (pc := 37) d_Desk_symbol_37 s_7 hb6 (by decide) (r_7 _ (by omega)) ?_
        refine et_geti (pc := 38) ok (fl_Desk_155 t) rfl d_Desk_symbol_38 (s_36 _ (by omega) (by omega)) ?_
        refine et_if_ne (pc := 41) (tgt := 52) d_Desk_symbol_41 (by decide) (fun hj7 => ?_) (fun hj7 => ?_)
        · rw [if_neg hj7] at hp
          cases hp
        · rw [if_pos hj7] at hp
          cases Option.some.inj hp
          exact et_throw2 (pc := 44) ok rfl d_Desk_symbol_44 d_Desk_symbol_47 d_Desk_symbol_48 d_Desk_symbol_51 rfl (by decide) (q_ble rfl)
      · exact et_callVX (pc := 26) ok [] [] (cf_Desk_126 t) (q_in 710 (by decide +kernel) rfl) d_Desk_symbol_26 s_0 k_0 rfl (xt_Desk_needLayout t ok  f g hp) rfl rfl (by decide) (by decide) (q_ble rfl) rfl
    · rw [if_neg hj3] at hp
      refine ev_sub (ls2 := []) [] rfl ?_
      exact xe_Desk_symbol_17 t ok      f g hp
def x_Desk_copies   (f g : q_F) : Option (Nat × q_F × q_F) :=
  q_or (p_Desk_needLayout  f g) (fun x1 =>
    none)
    (x_Desk_needLayout  f g)
theorem xt_Desk_copies (t : q_V) (ok : ma_ok (q_G t)) {y : Nat × q_F × q_F}  (f g : q_F) (hp : x_Desk_copies  f g = some y) : ma_MetX (q_G t) 7 110 1 6 m_Desk_copies [q_a t (0)] (q_h f g) (q_E y.1) (q_h y.2.1 y.2.2) := by
  refine ma_metX (by decide +kernel) (q_ble rfl) rfl ?_
  change ma_Ev (q_G t) 7 110 1 6 m_Desk_copies 0 [(0, q_a t (0))] [] (q_h f g) (ma_zx (q_G t) (q_E y.1) (q_h y.2.1 y.2.2))
  unfold x_Desk_copies at hp
  refine et_aload_n (pc := 0) d_Desk_copies_0 rfl rfl ?_
  replace hp := q_or_of hp
  rcases hp with ⟨x1, hm2, hp⟩ | ⟨-, hp⟩
  · refine et_callVv (pc := 1) (f1 := x1.1) (g1 := x1.2) ok [] [] (cf_Desk_126 t) d_Desk_copies_1 s_0 k_0 rfl (t_Desk_needLayout t ok  f g hm2 ⟨rfl, rfl⟩) rfl rfl (by decide) (by decide) (q_ble rfl) ?_
    cases hp
  · exact et_callVX (pc := 1) ok [] [] (cf_Desk_126 t) (q_in 710 (by decide +kernel) rfl) d_Desk_copies_1 s_0 k_0 rfl (xt_Desk_needLayout t ok  f g hp) rfl rfl (by decide) (by decide) (q_ble rfl) rfl
def x_Desk_copy_23    (f g : q_F) : Option (Nat × q_F × q_F) :=
  some (2, f, g)
def x_Desk_copy  (v1 : Int) (v2 : Int) (f g : q_F) : Option (Nat × q_F × q_F) :=
  q_or (p_Desk_needOneOfThree (v2) f g) (fun x1 =>
    q_or (p_Desk_needLayout  x1.1 x1.2) (fun x3 =>
      if q_sw v1 < 0 then
        x_Desk_copy_23    x3.1 x3.2
      else
        if q_sw v1 < q_sw (x3.1 3 9) then
          none
        else
          x_Desk_copy_23    x3.1 x3.2)
      (x_Desk_needLayout  x1.1 x1.2))
    (x_Desk_needOneOfThree (v2) f g)
theorem xe_Desk_copy_23 (t : q_V) (ok : ma_ok (q_G t))  {y : Nat × q_F × q_F}     (f g : q_F) (hp : x_Desk_copy_23    f g = some y) : ma_Ev (q_G t) 7 110 1 6 m_Desk_copy 23 [] [] (q_h f g) (ma_zx (q_G t) (q_E y.1) (q_h y.2.1 y.2.2)) := by
  unfold x_Desk_copy_23 at hp
  cases Option.some.inj hp
  exact et_throw2 (pc := 23) ok rfl d_Desk_copy_23 d_Desk_copy_26 d_Desk_copy_27 d_Desk_copy_30 rfl (by decide) (q_ble rfl)
theorem xt_Desk_copy (t : q_V) (ok : ma_ok (q_G t)) {y : Nat × q_F × q_F} (v1 : Int) (v2 : Int) (f g : q_F) (hp : x_Desk_copy v1 v2 f g = some y) : ma_MetX (q_G t) 7 110 1 6 m_Desk_copy [q_a t (0), ma_i (v1), ma_i (v2)] (q_h f g) (q_E y.1) (q_h y.2.1 y.2.2) := by
  refine ma_metX (by decide +kernel) (q_ble rfl) rfl ?_
  change ma_Ev (q_G t) 7 110 1 6 m_Desk_copy 0 [(0, q_a t (0)), (1, ma_i (v1)), (2, ma_i (v2))] [] (q_h f g) (ma_zx (q_G t) (q_E y.1) (q_h y.2.1 y.2.2))
  unfold x_Desk_copy at hp
  refine ev_iload_n (pc := 0) d_Desk_copy_0 rfl rfl ?_
  replace hp := q_or_of hp
  rcases hp with ⟨x1, hm2, hp⟩ | ⟨-, hp⟩
  · refine et_callSv (pc := 1) (f1 := x1.1) (g1 := x1.2) ok [ma_i (v2)] [] (cf_Desk_123 t) d_Desk_copy_1 (t_Desk_needOneOfThree t ok (v2) f g hm2 ⟨rfl, rfl⟩) rfl rfl (by decide) (by decide) (q_ble rfl) ?_
    refine et_aload_n (pc := 4) d_Desk_copy_4 rfl rfl ?_
    replace hp := q_or_of hp
    rcases hp with ⟨x3, hm4, hp⟩ | ⟨-, hp⟩
    · refine et_callVv (pc := 5) (f1 := x3.1) (g1 := x3.2) ok [] [] (cf_Desk_126 t) d_Desk_copy_5 s_0 k_0 rfl (t_Desk_needLayout t ok  x1.1 x1.2 hm4 ⟨rfl, rfl⟩) rfl rfl (by decide) (by decide) (q_ble rfl) ?_
      refine ev_iload_n (pc := 8) d_Desk_copy_8 rfl rfl ?_
      refine et_if_lt (pc := 9) (tgt := 23) d_Desk_copy_9 (by decide) (fun hj5 => ?_) (fun hj5 => ?_)
      · rw [if_pos hj5] at hp
        refine ev_sub (ls2 := []) [] rfl ?_
        exact xe_Desk_copy_23 t ok      x3.1 x3.2 hp
      · rw [if_neg hj5] at hp
        refine ev_iload_n (pc := 12) d_Desk_copy_12 rfl rfl ?_
        refine et_aload_n (pc := 13) d_Desk_copy_13 rfl rfl ?_
        refine et_getr (pc := 14) ok (fl_Desk_19 t) rfl d_Desk_copy_14 s_0 r_0_1 ?_
        refine et_geti (pc := 17) ok (fl_Desk_161 t) rfl d_Desk_copy_17 s_3 ?_
        refine et_icmp_lt (pc := 20) (tgt := 31) d_Desk_copy_20 (by decide) (fun hj6 => ?_) (fun hj6 => ?_)
        · rw [if_pos hj6] at hp
          cases hp
        · rw [if_neg hj6] at hp
          refine ev_sub (ls2 := []) [] rfl ?_
          exact xe_Desk_copy_23 t ok      x3.1 x3.2 hp
    · exact et_callVX (pc := 5) ok [] [] (cf_Desk_126 t) (q_in 710 (by decide +kernel) rfl) d_Desk_copy_5 s_0 k_0 rfl (xt_Desk_needLayout t ok  x1.1 x1.2 hp) rfl rfl (by decide) (by decide) (q_ble rfl) rfl
  · exact et_callSX (pc := 1) ok [ma_i (v2)] [] (cf_Desk_123 t) (q_in 707 (by decide +kernel) rfl) d_Desk_copy_1 (xt_Desk_needOneOfThree t ok (v2) f g hp) rfl rfl (by decide) (by decide) (q_ble rfl) rfl
def x_Desk_load   (f g : q_F) : Option (Nat × q_F × q_F) :=
  q_or (p_Desk_needLayout  f g) (fun x1 =>
    none)
    (x_Desk_needLayout  f g)
theorem xt_Desk_load (t : q_V) (ok : ma_ok (q_G t)) {y : Nat × q_F × q_F}  (f g : q_F) (hp : x_Desk_load  f g = some y) : ma_MetX (q_G t) 7 110 1 6 m_Desk_load [q_a t (0)] (q_h f g) (q_E y.1) (q_h y.2.1 y.2.2) := by
  refine ma_metX (by decide +kernel) (q_ble rfl) rfl ?_
  change ma_Ev (q_G t) 7 110 1 6 m_Desk_load 0 [(0, q_a t (0))] [] (q_h f g) (ma_zx (q_G t) (q_E y.1) (q_h y.2.1 y.2.2))
  unfold x_Desk_load at hp
  refine et_aload_n (pc := 0) d_Desk_load_0 rfl rfl ?_
  replace hp := q_or_of hp
  rcases hp with ⟨x1, hm2, hp⟩ | ⟨-, hp⟩
  · refine et_callVv (pc := 1) (f1 := x1.1) (g1 := x1.2) ok [] [] (cf_Desk_126 t) d_Desk_load_1 s_0 k_0 rfl (t_Desk_needLayout t ok  f g hm2 ⟨rfl, rfl⟩) rfl rfl (by decide) (by decide) (q_ble rfl) ?_
    cases hp
  · exact et_callVX (pc := 1) ok [] [] (cf_Desk_126 t) (q_in 710 (by decide +kernel) rfl) d_Desk_load_1 s_0 k_0 rfl (xt_Desk_needLayout t ok  f g hp) rfl rfl (by decide) (by decide) (q_ble rfl) rfl
def x_Desk_start   (f g : q_F) : Option (Nat × q_F × q_F) :=
  q_or (p_Desk_needLayout  f g) (fun x1 =>
    none)
    (x_Desk_needLayout  f g)
theorem xt_Desk_start (t : q_V) (ok : ma_ok (q_G t)) {y : Nat × q_F × q_F}  (f g : q_F) (hp : x_Desk_start  f g = some y) : ma_MetX (q_G t) 7 110 1 6 m_Desk_start [q_a t (0)] (q_h f g) (q_E y.1) (q_h y.2.1 y.2.2) := by
  refine ma_metX (by decide +kernel) (q_ble rfl) rfl ?_
  change ma_Ev (q_G t) 7 110 1 6 m_Desk_start 0 [(0, q_a t (0))] [] (q_h f g) (ma_zx (q_G t) (q_E y.1) (q_h y.2.1 y.2.2))
  unfold x_Desk_start at hp
  refine et_aload_n (pc := 0) d_Desk_start_0 rfl rfl ?_
  replace hp := q_or_of hp
  rcases hp with ⟨x1, hm2, hp⟩ | ⟨-, hp⟩
  · refine et_callVv (pc := 1) (f1 := x1.1) (g1 := x1.2) ok [] [] (cf_Desk_126 t) d_Desk_start_1 s_0 k_0 rfl (t_Desk_needLayout t ok  f g hm2 ⟨rfl, rfl⟩) rfl rfl (by decide) (by decide) (q_ble rfl) ?_
    cases hp
  · exact et_callVX (pc := 1) ok [] [] (cf_Desk_126 t) (q_in 710 (by decide +kernel) rfl) d_Desk_start_1 s_0 k_0 rfl (xt_Desk_needLayout t ok  f g hp) rfl rfl (by decide) (by decide) (q_ble rfl) rfl
def x_Desk_memory_11    (f g : q_F) : Option (Nat × q_F × q_F) :=
  some (3, f, g)
def x_Desk_memory  (v1 : Int) (f g : q_F) : Option (Nat × q_F × q_F) :=
  if q_sw v1 < 0 then
    x_Desk_memory_11    f g
  else
    if q_sw v1 < q_sw 512 then
      none
    else
      x_Desk_memory_11    f g
theorem xe_Desk_memory_11 (t : q_V) (ok : ma_ok (q_G t))  {y : Nat × q_F × q_F}     (f g : q_F) (hp : x_Desk_memory_11    f g = some y) : ma_Ev (q_G t) 6 90 1 6 m_Desk_memory 11 [] [] (q_h f g) (ma_zx (q_G t) (q_E y.1) (q_h y.2.1 y.2.2)) := by
  unfold x_Desk_memory_11 at hp
  cases Option.some.inj hp
  exact et_throw3 (pc := 11) ok rfl d_Desk_memory_11 d_Desk_memory_14 d_Desk_memory_15 d_Desk_memory_18 rfl (by decide) (q_ble rfl)
theorem xt_Desk_memory (t : q_V) (ok : ma_ok (q_G t)) {y : Nat × q_F × q_F} (v1 : Int) (f g : q_F) (hp : x_Desk_memory v1 f g = some y) : ma_MetX (q_G t) 6 90 1 6 m_Desk_memory [q_a t (0), ma_i (v1)] (q_h f g) (q_E y.1) (q_h y.2.1 y.2.2) := by
  refine ma_metX (by decide +kernel) (q_ble rfl) rfl ?_
  change ma_Ev (q_G t) 6 90 1 6 m_Desk_memory 0 [(0, q_a t (0)), (1, ma_i (v1))] [] (q_h f g) (ma_zx (q_G t) (q_E y.1) (q_h y.2.1 y.2.2))
  unfold x_Desk_memory at hp
  refine ev_iload_n (pc := 0) d_Desk_memory_0 rfl rfl ?_
  refine et_if_lt (pc := 1) (tgt := 11) d_Desk_memory_1 (by decide) (fun hj1 => ?_) (fun hj1 => ?_)
  · rw [if_pos hj1] at hp
    refine ev_sub (ls2 := []) [] rfl ?_
    exact xe_Desk_memory_11 t ok      f g hp
  · rw [if_neg hj1] at hp
    refine ev_iload_n (pc := 4) d_Desk_memory_4 rfl rfl ?_
    refine ev_sipush (pc := 5) d_Desk_memory_5 rfl ?_
    refine et_icmp_lt (pc := 8) (tgt := 19) d_Desk_memory_8 (by decide) (fun hj2 => ?_) (fun hj2 => ?_)
    · rw [if_pos hj2] at hp
      cases hp
    · rw [if_neg hj2] at hp
      refine ev_sub (ls2 := []) [] rfl ?_
      exact xe_Desk_memory_11 t ok      f g hp
