theorem cw_56 (t : q_V) : ma_CW (q_G t) "LayoutDeskLaw" 56 m_Law_input 5 := ⟨by decide, w_Law_input, q_in 594 (by decide +kernel) rfl, q_in 0 (by decide +kernel) rfl, ⟨by decide +kernel, by decide +kernel, by decide +kernel⟩, q_in 593 (by decide +kernel) rfl⟩
theorem cw_67 (t : q_V) : ma_CW (q_G t) "LayoutDeskLaw" 67 m_Law_type 4 := ⟨by decide, w_Law_type, q_in 667 (by decide +kernel) rfl, q_in 0 (by decide +kernel) rfl, ⟨by decide +kernel, by decide +kernel, by decide +kernel⟩, q_in 666 (by decide +kernel) rfl⟩
theorem cw_83 (t : q_V) : ma_CW (q_G t) "LayoutDeskLaw" 83 m_Law_section 4 := ⟨by decide, w_Law_section, q_in 700 (by decide +kernel) rfl, q_in 0 (by decide +kernel) rfl, ⟨by decide +kernel, by decide +kernel, by decide +kernel⟩, q_in 699 (by decide +kernel) rfl⟩
theorem cw_87 (t : q_V) : ma_CW (q_G t) "LayoutDeskLaw" 87 m_Law_put 3 := ⟨by decide, w_Law_put, q_in 730 (by decide +kernel) rfl, q_in 0 (by decide +kernel) rfl, ⟨by decide +kernel, by decide +kernel, by decide +kernel⟩, q_in 729 (by decide +kernel) rfl⟩
theorem cw_91 (t : q_V) : ma_CW (q_G t) "LayoutDeskLaw" 91 m_Law_symbol 3 := ⟨by decide, w_Law_symbol, q_in 737 (by decide +kernel) rfl, q_in 0 (by decide +kernel) rfl, ⟨by decide +kernel, by decide +kernel, by decide +kernel⟩, q_in 736 (by decide +kernel) rfl⟩
theorem cw_94 (t : q_V) : ma_CW (q_G t) "LayoutDeskLaw" 94 m_Law_copies 2 := ⟨by decide, w_Law_copies, q_in 744 (by decide +kernel) rfl, q_in 0 (by decide +kernel) rfl, ⟨by decide +kernel, by decide +kernel, by decide +kernel⟩, q_in 743 (by decide +kernel) rfl⟩
theorem cw_98 (t : q_V) : ma_CW (q_G t) "LayoutDeskLaw" 98 m_Law_copy 4 := ⟨by decide, w_Law_copy, q_in 751 (by decide +kernel) rfl, q_in 0 (by decide +kernel) rfl, ⟨by decide +kernel, by decide +kernel, by decide +kernel⟩, q_in 750 (by decide +kernel) rfl⟩
theorem cw_101 (t : q_V) : ma_CW (q_G t) "LayoutDeskLaw" 101 m_Law_load 1 := ⟨by decide, w_Law_load, q_in 759 (by decide +kernel) rfl, q_in 0 (by decide +kernel) rfl, ⟨by decide +kernel, by decide +kernel, by decide +kernel⟩, q_in 758 (by decide +kernel) rfl⟩
theorem cw_105 (t : q_V) : ma_CW (q_G t) "LayoutDeskLaw" 105 m_Law_start 1 := ⟨by decide, w_Law_start, q_in 783 (by decide +kernel) rfl, q_in 0 (by decide +kernel) rfl, ⟨by decide +kernel, by decide +kernel, by decide +kernel⟩, q_in 782 (by decide +kernel) rfl⟩
theorem cw_108 (t : q_V) : ma_CW (q_G t) "LayoutDeskLaw" 108 m_Law_memory 3 := ⟨by decide, w_Law_memory, q_in 798 (by decide +kernel) rfl, q_in 0 (by decide +kernel) rfl, ⟨by decide +kernel, by decide +kernel, by decide +kernel⟩, q_in 797 (by decide +kernel) rfl⟩
def p_Law_law_709 (L : Nat) (xs : Nat → Int32) (c23 : Int → q_F → q_F → Option (Int × q_F × q_F)) (v4 : Int) (f g : q_F) : Option (Int × q_F × q_F) :=
  q_let (v4 + 5) fun z1 =>
  c23 (z1) f g
def p_Law_law_706 (L : Nat) (xs : Nat → Int32) (c23 : Int → q_F → q_F → Option (Int × q_F × q_F)) (v4 : Int) (f g : q_F) : Option (Int × q_F × q_F) :=
  p_Law_law_709 L xs c23 (v4) f g
def p_Law_law_602 (L : Nat) (xs : Nat → Int32) (c23 : Int → q_F → q_F → Option (Int × q_F × q_F)) (v4 : Int) (f g : q_F) : Option (Int × q_F × q_F) :=
  p_Law_law_709 L xs c23 (v4) f g
def p_Law_law_534 (L : Nat) (xs : Nat → Int32) (c23 : Int → q_F → q_F → Option (Int × q_F × q_F)) (v4 : Int) (f g : q_F) : Option (Int × q_F × q_F) :=
  p_Law_law_709 L xs c23 (v4) f g
def p_Law_law_490 (L : Nat) (xs : Nat → Int32) (c23 : Int → q_F → q_F → Option (Int × q_F × q_F)) (v4 : Int) (f g : q_F) : Option (Int × q_F × q_F) :=
  p_Law_law_709 L xs c23 (v4) f g
def p_Law_law_434 (L : Nat) (xs : Nat → Int32) (c23 : Int → q_F → q_F → Option (Int × q_F × q_F)) (v4 : Int) (f g : q_F) : Option (Int × q_F × q_F) :=
  p_Law_law_709 L xs c23 (v4) f g
def p_Law_law_378 (L : Nat) (xs : Nat → Int32) (c23 : Int → q_F → q_F → Option (Int × q_F × q_F)) (v4 : Int) (f g : q_F) : Option (Int × q_F × q_F) :=
  p_Law_law_709 L xs c23 (v4) f g
def p_Law_law_273 (L : Nat) (xs : Nat → Int32) (c23 : Int → q_F → q_F → Option (Int × q_F × q_F)) (v4 : Int) (f g : q_F) : Option (Int × q_F × q_F) :=
  p_Law_law_709 L xs c23 (v4) f g
def p_Law_law_23 (L : Nat) (xs : Nat → Int32)  : Nat → Int → q_F → q_F → Option (Int × q_F × q_F)
  | 0, _, _, _ => none
  | n + 1, v4, f, g =>
    if q_sw (((L : Int)) - 5) < q_sw v4 then
      some (1, f, g)
    else
      if 0 ≤ v4 ∧ v4 < (L : Int) then
        if q_sw (q_and (Int32.toInt (xs (Int.toNat v4))) 15) = 0 then
          if 0 ≤ (v4 + 1) ∧ (v4 + 1) < (L : Int) then
            if 0 ≤ (v4 + 2) ∧ (v4 + 2) < (L : Int) then
              if 0 ≤ (v4 + 3) ∧ (v4 + 3) < (L : Int) then
                if 0 ≤ (v4 + 4) ∧ (v4 + 4) < (L : Int) then
                  (p_Law_input (Int32.toInt (xs (Int.toNat (v4 + 1)))) (Int32.toInt (xs (Int.toNat (v4 + 2)))) (Int32.toInt (xs (Int.toNat (v4 + 3)))) (Int32.toInt (xs (Int.toNat (v4 + 4)))) f g).bind fun x8 =>
                  if 0 ≤ (v4 + 1) ∧ (v4 + 1) < (L : Int) then
                    if 0 ≤ (v4 + 2) ∧ (v4 + 2) < (L : Int) then
                      if 0 ≤ (v4 + 3) ∧ (v4 + 3) < (L : Int) then
                        if 0 ≤ (v4 + 4) ∧ (v4 + 4) < (L : Int) then
                          (p_Mod_input (Int32.toInt (xs (Int.toNat (v4 + 1)))) (Int32.toInt (xs (Int.toNat (v4 + 2)))) (Int32.toInt (xs (Int.toNat (v4 + 3)))) (Int32.toInt (xs (Int.toNat (v4 + 4)))) x8.2.1 x8.2.2).bind fun x14 =>
                          (p_Mod_thrown  x14.1 x14.2).bind fun x16 =>
                          if q_sw x16.1 = q_sw x8.1 then
                            p_Law_law_709 L xs (p_Law_law_23 L xs  n) (v4) x16.2.1 x16.2.2
                          else
                            some (0, x16.2.1, x16.2.2)
                        else none
                      else none
                    else none
                  else none
                else none
              else none
            else none
          else none
        else
          if q_sw (q_and (Int32.toInt (xs (Int.toNat v4))) 15) = 1 then
            if 0 ≤ (v4 + 1) ∧ (v4 + 1) < (L : Int) then
              if 0 ≤ (v4 + 2) ∧ (v4 + 2) < (L : Int) then
                if 0 ≤ (v4 + 3) ∧ (v4 + 3) < (L : Int) then
                  (p_Law_type (q_lor (q_lshl (q_sw (Int32.toInt (xs (Int.toNat (v4 + 1))))) 32) (q_land (q_sw (Int32.toInt (xs (Int.toNat (v4 + 2))))) 4294967295)) (Int32.toInt (xs (Int.toNat (v4 + 3)))) f g).bind fun x23 =>
                  if 0 ≤ (v4 + 1) ∧ (v4 + 1) < (L : Int) then
                    if 0 ≤ (v4 + 2) ∧ (v4 + 2) < (L : Int) then
                      if 0 ≤ (v4 + 3) ∧ (v4 + 3) < (L : Int) then
                        (p_Mod_type (q_lor (q_lshl (q_sw (Int32.toInt (xs (Int.toNat (v4 + 1))))) 32) (q_land (q_sw (Int32.toInt (xs (Int.toNat (v4 + 2))))) 4294967295)) (Int32.toInt (xs (Int.toNat (v4 + 3)))) x23.2.1 x23.2.2).bind fun x28 =>
                        (p_Mod_thrown  x28.2.1 x28.2.2).bind fun x30 =>
                        if q_sw x30.1 = q_sw x23.1 then
                          if q_sw x23.1 = 0 then
                            if q_sw (q_lcmp (x30.2.2 97 (Int.toNat 0)) (q_sw x28.1)) = 0 then
                              p_Law_law_273 L xs (p_Law_law_23 L xs  n) (v4) x30.2.1 x30.2.2
                            else
                              some (0, x30.2.1, x30.2.2)
                          else
                            p_Law_law_273 L xs (p_Law_law_23 L xs  n) (v4) x30.2.1 x30.2.2
                        else
                          some (0, x30.2.1, x30.2.2)
                      else none
                    else none
                  else none
                else none
              else none
            else none
          else
            if q_sw (q_and (Int32.toInt (xs (Int.toNat v4))) 15) = 2 then
              (p_Desk_clear  f g).bind fun x36 =>
              (p_Mod_clear  x36.1 x36.2).bind fun x38 =>
              p_Law_law_709 L xs (p_Law_law_23 L xs  n) (v4) x38.1 x38.2
            else
              if q_sw (q_and (Int32.toInt (xs (Int.toNat v4))) 15) = 3 then
                (p_Desk_lay  f g).bind fun x41 =>
                (p_Mod_lay  x41.2.1 x41.2.2).bind fun x43 =>
                if q_sw x41.1 = q_sw x43.1 then
                  p_Law_law_709 L xs (p_Law_law_23 L xs  n) (v4) x43.2.1 x43.2.2
                else
                  some (0, x43.2.1, x43.2.2)
              else
                if q_sw (q_and (Int32.toInt (xs (Int.toNat v4))) 15) = 4 then
                  (p_Desk_bad  f g).bind fun x47 =>
                  (p_Mod_bad  x47.2.1 x47.2.2).bind fun x49 =>
                  if q_sw x47.1 = q_sw x49.1 then
                    p_Law_law_709 L xs (p_Law_law_23 L xs  n) (v4) x49.2.1 x49.2.2
                  else
                    some (0, x49.2.1, x49.2.2)
                else
                  if q_sw (q_and (Int32.toInt (xs (Int.toNat v4))) 15) = 5 then
                    if 0 ≤ (v4 + 1) ∧ (v4 + 1) < (L : Int) then
                      if 0 ≤ (v4 + 2) ∧ (v4 + 2) < (L : Int) then
                        (p_Law_section (Int32.toInt (xs (Int.toNat (v4 + 1)))) (Int32.toInt (xs (Int.toNat (v4 + 2)))) f g).bind fun x55 =>
                        if 0 ≤ (v4 + 1) ∧ (v4 + 1) < (L : Int) then
                          if 0 ≤ (v4 + 2) ∧ (v4 + 2) < (L : Int) then
                            (p_Mod_section (Int32.toInt (xs (Int.toNat (v4 + 1)))) (Int32.toInt (xs (Int.toNat (v4 + 2)))) x55.2.1 x55.2.2).bind fun x59 =>
                            (p_Mod_thrown  x59.2.1 x59.2.2).bind fun x61 =>
                            if q_sw x61.1 = q_sw x55.1 then
                              if q_sw x55.1 = 0 then
                                if q_sw (q_lcmp (x61.2.2 97 (Int.toNat 0)) (q_sw x59.1)) = 0 then
                                  p_Law_law_378 L xs (p_Law_law_23 L xs  n) (v4) x61.2.1 x61.2.2
                                else
                                  some (0, x61.2.1, x61.2.2)
                              else
                                p_Law_law_378 L xs (p_Law_law_23 L xs  n) (v4) x61.2.1 x61.2.2
                            else
                              some (0, x61.2.1, x61.2.2)
                          else none
                        else none
                      else none
                    else none
                  else
                    if q_sw (q_and (Int32.toInt (xs (Int.toNat v4))) 15) = 6 then
                      if 0 ≤ (v4 + 1) ∧ (v4 + 1) < (L : Int) then
                        (p_Law_put (Int32.toInt (xs (Int.toNat (v4 + 1)))) f g).bind fun x68 =>
                        if 0 ≤ (v4 + 1) ∧ (v4 + 1) < (L : Int) then
                          (p_Mod_put (Int32.toInt (xs (Int.toNat (v4 + 1)))) x68.2.1 x68.2.2).bind fun x71 =>
                          (p_Mod_thrown  x71.2.1 x71.2.2).bind fun x73 =>
                          if q_sw x73.1 = q_sw x68.1 then
                            if q_sw x68.1 = 0 then
                              if q_sw (q_lcmp (x73.2.2 97 (Int.toNat 0)) (q_sw x71.1)) = 0 then
                                p_Law_law_434 L xs (p_Law_law_23 L xs  n) (v4) x73.2.1 x73.2.2
                              else
                                some (0, x73.2.1, x73.2.2)
                            else
                              p_Law_law_434 L xs (p_Law_law_23 L xs  n) (v4) x73.2.1 x73.2.2
                          else
                            some (0, x73.2.1, x73.2.2)
                        else none
                      else none
                    else
                      if q_sw (q_and (Int32.toInt (xs (Int.toNat v4))) 15) = 7 then
                        if 0 ≤ (v4 + 1) ∧ (v4 + 1) < (L : Int) then
                          (p_Law_symbol (Int32.toInt (xs (Int.toNat (v4 + 1)))) f g).bind fun x80 =>
                          if 0 ≤ (v4 + 1) ∧ (v4 + 1) < (L : Int) then
                            (p_Mod_symbol (Int32.toInt (xs (Int.toNat (v4 + 1)))) x80.2.1 x80.2.2).bind fun x83 =>
                            (p_Mod_thrown  x83.2.1 x83.2.2).bind fun x85 =>
                            if q_sw x85.1 = q_sw x80.1 then
                              if q_sw x80.1 = 0 then
                                if q_sw (q_lcmp (x85.2.2 97 (Int.toNat 0)) (q_sw x83.1)) = 0 then
                                  p_Law_law_490 L xs (p_Law_law_23 L xs  n) (v4) x85.2.1 x85.2.2
                                else
                                  some (0, x85.2.1, x85.2.2)
                              else
                                p_Law_law_490 L xs (p_Law_law_23 L xs  n) (v4) x85.2.1 x85.2.2
                            else
                              some (0, x85.2.1, x85.2.2)
                          else none
                        else none
                      else
                        if q_sw (q_and (Int32.toInt (xs (Int.toNat v4))) 15) = 8 then
                          (p_Law_copies  f g).bind fun x91 =>
                          (p_Mod_copies  x91.2.1 x91.2.2).bind fun x93 =>
                          (p_Mod_thrown  x93.2.1 x93.2.2).bind fun x95 =>
                          if q_sw x95.1 = q_sw x91.1 then
                            if q_sw x91.1 = 0 then
                              if q_sw (q_lcmp (x95.2.2 97 (Int.toNat 0)) (q_sw x93.1)) = 0 then
                                p_Law_law_534 L xs (p_Law_law_23 L xs  n) (v4) x95.2.1 x95.2.2
                              else
                                some (0, x95.2.1, x95.2.2)
                            else
                              p_Law_law_534 L xs (p_Law_law_23 L xs  n) (v4) x95.2.1 x95.2.2
                          else
                            some (0, x95.2.1, x95.2.2)
                        else
                          if q_sw (q_and (Int32.toInt (xs (Int.toNat v4))) 15) = 9 then
                            if 0 ≤ (v4 + 1) ∧ (v4 + 1) < (L : Int) then
                              if 0 ≤ (v4 + 2) ∧ (v4 + 2) < (L : Int) then
                                (p_Law_copy (Int32.toInt (xs (Int.toNat (v4 + 1)))) (Int32.toInt (xs (Int.toNat (v4 + 2)))) f g).bind fun x103 =>
                                if 0 ≤ (v4 + 1) ∧ (v4 + 1) < (L : Int) then
                                  if 0 ≤ (v4 + 2) ∧ (v4 + 2) < (L : Int) then
                                    (p_Mod_copy (Int32.toInt (xs (Int.toNat (v4 + 1)))) (Int32.toInt (xs (Int.toNat (v4 + 2)))) x103.2.1 x103.2.2).bind fun x107 =>
                                    (p_Mod_thrown  x107.2.1 x107.2.2).bind fun x109 =>
                                    if q_sw x109.1 = q_sw x103.1 then
                                      if q_sw x103.1 = 0 then
                                        if q_sw (q_lcmp (x109.2.2 97 (Int.toNat 0)) (q_sw x107.1)) = 0 then
                                          p_Law_law_602 L xs (p_Law_law_23 L xs  n) (v4) x109.2.1 x109.2.2
                                        else
                                          some (0, x109.2.1, x109.2.2)
                                      else
                                        p_Law_law_602 L xs (p_Law_law_23 L xs  n) (v4) x109.2.1 x109.2.2
                                    else
                                      some (0, x109.2.1, x109.2.2)
                                  else none
                                else none
                              else none
                            else none
                          else
                            if q_sw (q_and (Int32.toInt (xs (Int.toNat v4))) 15) = 10 then
                              (p_Law_load  f g).bind fun x115 =>
                              (p_Mod_load  x115.2.1 x115.2.2).bind fun x117 =>
                              (p_Mod_thrown  x117.1 x117.2).bind fun x119 =>
                              if q_sw x119.1 = q_sw x115.1 then
                                p_Law_law_709 L xs (p_Law_law_23 L xs  n) (v4) x119.2.1 x119.2.2
                              else
                                some (0, x119.2.1, x119.2.2)
                            else
                              if q_sw (q_and (Int32.toInt (xs (Int.toNat v4))) 15) = 11 then
                                (p_Law_start  f g).bind fun x123 =>
                                (p_Mod_start  x123.2.1 x123.2.2).bind fun x125 =>
                                (p_Mod_thrown  x125.1 x125.2).bind fun x127 =>
                                if q_sw x127.1 = q_sw x123.1 then
                                  p_Law_law_709 L xs (p_Law_law_23 L xs  n) (v4) x127.2.1 x127.2.2
                                else
                                  some (0, x127.2.1, x127.2.2)
                              else
                                if q_sw (q_and (Int32.toInt (xs (Int.toNat v4))) 15) = 12 then
                                  if 0 ≤ (v4 + 1) ∧ (v4 + 1) < (L : Int) then
                                    (p_Law_memory (Int32.toInt (xs (Int.toNat (v4 + 1)))) f g).bind fun x132 =>
                                    if 0 ≤ (v4 + 1) ∧ (v4 + 1) < (L : Int) then
                                      (p_Mod_memory (Int32.toInt (xs (Int.toNat (v4 + 1)))) x132.2.1 x132.2.2).bind fun x135 =>
                                      (p_Mod_thrown  x135.2.1 x135.2.2).bind fun x137 =>
                                      if q_sw x137.1 = q_sw x132.1 then
                                        if q_sw x132.1 = 0 then
                                          if q_sw (q_lcmp (x137.2.2 97 (Int.toNat 0)) (q_sw x135.1)) = 0 then
                                            p_Law_law_706 L xs (p_Law_law_23 L xs  n) (v4) x137.2.1 x137.2.2
                                          else
                                            some (0, x137.2.1, x137.2.2)
                                        else
                                          p_Law_law_706 L xs (p_Law_law_23 L xs  n) (v4) x137.2.1 x137.2.2
                                      else
                                        some (0, x137.2.1, x137.2.2)
                                    else none
                                  else none
                                else
                                  p_Law_law_709 L xs (p_Law_law_23 L xs  n) (v4) f g
      else none
theorem e_Law_law_709 (t : q_V) (ok : ma_ok (q_G t)) {kk nn : Nat} (L : Nat) (xs : Nat → Int32) (hLx : g_L (q_G t) = L) (hxs : g_xs (q_G t) = xs) (hL : L ≤ 100000) {Q : Option Value → ma_H → Prop} {y : Int × q_F × q_F} (hQ : Q (some (ma_i y.1)) (q_h y.2.1 y.2.2)) (c23 : Int → q_F → q_F → Option (Int × q_F × q_F)) (hc23 : ∀ (v4 : Int) (f g : q_F), c23 v4 f g = some y → ma_Ev (q_G t) 2048 84000 kk nn m_Law_law 23 [(0, .ref (g_b (q_G t))), (1, q_a t (0)), (2, q_a t (60)), (3, q_a t (97)), (4, ma_i (v4))] [] (q_h f g) (ma_zr (q_G t) false Q)) (v4 : Int) (f g : q_F) (hp : p_Law_law_709 L xs c23 v4 f g = some y) : ma_Ev (q_G t) 2048 84000 kk nn m_Law_law 709 [(0, .ref (g_b (q_G t))), (1, q_a t (0)), (2, q_a t (60)), (3, q_a t (97)), (4, ma_i (v4))] [] (q_h f g) (ma_zr (q_G t) false Q) := by
  unfold p_Law_law_709 at hp
  refine ev_iinc (pc := 709) d_Law_law_709 (by decide) rfl [(4, _), (0, _), (1, _), (2, _), (3, _)] rfl ?_
  replace hp := q_let_of hp
  obtain ⟨z1, hz, hp⟩ := hp
  rw [← hz]
  clear hz
  refine ev_goto (pc := 712) (tgt := 23) d_Law_law_712 (by decide) ?_
  refine ev_sub (ls2 := [(0, .ref (g_b (q_G t))), (1, q_a t (0)), (2, q_a t (60)), (3, q_a t (97)), (4, ma_i (z1))]) [1, 2, 3, 4, 0] rfl ?_
  exact hc23 (z1) f g hp
theorem e_Law_law_706 (t : q_V) (ok : ma_ok (q_G t)) {kk nn : Nat} (L : Nat) (xs : Nat → Int32) (hLx : g_L (q_G t) = L) (hxs : g_xs (q_G t) = xs) (hL : L ≤ 100000) {Q : Option Value → ma_H → Prop} {y : Int × q_F × q_F} (hQ : Q (some (ma_i y.1)) (q_h y.2.1 y.2.2)) (c23 : Int → q_F → q_F → Option (Int × q_F × q_F)) (hc23 : ∀ (v4 : Int) (f g : q_F), c23 v4 f g = some y → ma_Ev (q_G t) 2048 84000 kk nn m_Law_law 23 [(0, .ref (g_b (q_G t))), (1, q_a t (0)), (2, q_a t (60)), (3, q_a t (97)), (4, ma_i (v4))] [] (q_h f g) (ma_zr (q_G t) false Q)) (v4 : Int) (f g : q_F) (hp : p_Law_law_706 L xs c23 v4 f g = some y) : ma_Ev (q_G t) 2048 84000 kk nn m_Law_law 706 [(0, .ref (g_b (q_G t))), (1, q_a t (0)), (2, q_a t (60)), (3, q_a t (97)), (4, ma_i (v4))] [] (q_h f g) (ma_zr (q_G t) false Q) := by
  unfold p_Law_law_706 at hp
  refine ev_goto (pc := 706) (tgt := 709) d_Law_law_706 (by decide) ?_
  refine ev_sub (ls2 := [(0, .ref (g_b (q_G t))), (1, q_a t (0)), (2, q_a t (60)), (3, q_a t (97)), (4, ma_i (v4))]) [0, 1, 2, 3, 4] rfl ?_
  exact e_Law_law_709 t ok L xs hLx hxs hL hQ c23 hc23 (v4) f g hp
theorem e_Law_law_602 (t : q_V) (ok : ma_ok (q_G t)) {kk nn : Nat} (L : Nat) (xs : Nat → Int32) (hLx : g_L (q_G t) = L) (hxs : g_xs (q_G t) = xs) (hL : L ≤ 100000) {Q : Option Value → ma_H → Prop} {y : Int × q_F × q_F} (hQ : Q (some (ma_i y.1)) (q_h y.2.1 y.2.2)) (c23 : Int → q_F → q_F → Option (Int × q_F × q_F)) (hc23 : ∀ (v4 : Int) (f g : q_F), c23 v4 f g = some y → ma_Ev (q_G t) 2048 84000 kk nn m_Law_law 23 [(0, .ref (g_b (q_G t))), (1, q_a t (0)), (2, q_a t (60)), (3, q_a t (97)), (4, ma_i (v4))] [] (q_h f g) (ma_zr (q_G t) false Q)) (v4 : Int) (f g : q_F) (hp : p_Law_law_602 L xs c23 v4 f g = some y) : ma_Ev (q_G t) 2048 84000 kk nn m_Law_law 602 [(0, .ref (g_b (q_G t))), (1, q_a t (0)), (2, q_a t (60)), (3, q_a t (97)), (4, ma_i (v4))] [] (q_h f g) (ma_zr (q_G t) false Q) := by
  unfold p_Law_law_602 at hp
  refine ev_goto (pc := 602) (tgt := 709) d_Law_law_602 (by decide) ?_
  refine ev_sub (ls2 := [(0, .ref (g_b (q_G t))), (1, q_a t (0)), (2, q_a t (60)), (3, q_a t (97)), (4, ma_i (v4))]) [0, 1, 2, 3, 4] rfl ?_
  exact e_Law_law_709 t ok L xs hLx hxs hL hQ c23 hc23 (v4) f g hp
theorem e_Law_law_534 (t : q_V) (ok : ma_ok (q_G t)) {kk nn : Nat} (L : Nat) (xs : Nat → Int32) (hLx : g_L (q_G t) = L) (hxs : g_xs (q_G t) = xs) (hL : L ≤ 100000) {Q : Option Value → ma_H → Prop} {y : Int × q_F × q_F} (hQ : Q (some (ma_i y.1)) (q_h y.2.1 y.2.2)) (c23 : Int → q_F → q_F → Option (Int × q_F × q_F)) (hc23 : ∀ (v4 : Int) (f g : q_F), c23 v4 f g = some y → ma_Ev (q_G t) 2048 84000 kk nn m_Law_law 23 [(0, .ref (g_b (q_G t))), (1, q_a t (0)), (2, q_a t (60)), (3, q_a t (97)), (4, ma_i (v4))] [] (q_h f g) (ma_zr (q_G t) false Q)) (v4 : Int) (f g : q_F) (hp : p_Law_law_534 L xs c23 v4 f g = some y) : ma_Ev (q_G t) 2048 84000 kk nn m_Law_law 534 [(0, .ref (g_b (q_G t))), (1, q_a t (0)), (2, q_a t (60)), (3, q_a t (97)), (4, ma_i (v4))] [] (q_h f g) (ma_zr (q_G t) false Q) := by
  unfold p_Law_law_534 at hp
  refine ev_goto (pc := 534) (tgt := 709) d_Law_law_534 (by decide) ?_
  refine ev_sub (ls2 := [(0, .ref (g_b (q_G t))), (1, q_a t (0)), (2, q_a t (60)), (3, q_a t (97)), (4, ma_i (v4))]) [0, 1, 2, 3, 4] rfl ?_
  exact e_Law_law_709 t ok L xs hLx hxs hL hQ c23 hc23 (v4) f g hp
theorem e_Law_law_490 (t : q_V) (ok : ma_ok (q_G t)) {kk nn : Nat} (L : Nat) (xs : Nat → Int32) (hLx : g_L (q_G t) = L) (hxs : g_xs (q_G t) = xs) (hL : L ≤ 100000) {Q : Option Value → ma_H → Prop} {y : Int × q_F × q_F} (hQ : Q (some (ma_i y.1)) (q_h y.2.1 y.2.2)) (c23 : Int → q_F → q_F → Option (Int × q_F × q_F)) (hc23 : ∀ (v4 : Int) (f g : q_F), c23 v4 f g = some y → ma_Ev (q_G t) 2048 84000 kk nn m_Law_law 23 [(0, .ref (g_b (q_G t))), (1, q_a t (0)), (2, q_a t (60)), (3, q_a t (97)), (4, ma_i (v4))] [] (q_h f g) (ma_zr (q_G t) false Q)) (v4 : Int) (f g : q_F) (hp : p_Law_law_490 L xs c23 v4 f g = some y) : ma_Ev (q_G t) 2048 84000 kk nn m_Law_law 490 [(0, .ref (g_b (q_G t))), (1, q_a t (0)), (2, q_a t (60)), (3, q_a t (97)), (4, ma_i (v4))] [] (q_h f g) (ma_zr (q_G t) false Q) := by
  unfold p_Law_law_490 at hp
  refine ev_goto (pc := 490) (tgt := 709) d_Law_law_490 (by decide) ?_
  refine ev_sub (ls2 := [(0, .ref (g_b (q_G t))), (1, q_a t (0)), (2, q_a t (60)), (3, q_a t (97)), (4, ma_i (v4))]) [0, 1, 2, 3, 4] rfl ?_
  exact e_Law_law_709 t ok L xs hLx hxs hL hQ c23 hc23 (v4) f g hp
theorem e_Law_law_434 (t : q_V) (ok : ma_ok (q_G t)) {kk nn : Nat} (L : Nat) (xs : Nat → Int32) (hLx : g_L (q_G t) = L) (hxs : g_xs (q_G t) = xs) (hL : L ≤ 100000) {Q : Option Value → ma_H → Prop} {y : Int × q_F × q_F} (hQ : Q (some (ma_i y.1)) (q_h y.2.1 y.2.2)) (c23 : Int → q_F → q_F → Option (Int × q_F × q_F)) (hc23 : ∀ (v4 : Int) (f g : q_F), c23 v4 f g = some y → ma_Ev (q_G t) 2048 84000 kk nn m_Law_law 23 [(0, .ref (g_b (q_G t))), (1, q_a t (0)), (2, q_a t (60)), (3, q_a t (97)), (4, ma_i (v4))] [] (q_h f g) (ma_zr (q_G t) false Q)) (v4 : Int) (f g : q_F) (hp : p_Law_law_434 L xs c23 v4 f g = some y) : ma_Ev (q_G t) 2048 84000 kk nn m_Law_law 434 [(0, .ref (g_b (q_G t))), (1, q_a t (0)), (2, q_a t (60)), (3, q_a t (97)), (4, ma_i (v4))] [] (q_h f g) (ma_zr (q_G t) false Q) := by
  unfold p_Law_law_434 at hp
  refine ev_goto (pc := 434) (tgt := 709) d_Law_law_434 (by decide) ?_
  refine ev_sub (ls2 := [(0, .ref (g_b (q_G t))), (1, q_a t (0)), (2, q_a t (60)), (3, q_a t (97)), (4, ma_i (v4))]) [0, 1, 2, 3, 4] rfl ?_
  exact e_Law_law_709 t ok L xs hLx hxs hL hQ c23 hc23 (v4) f g hp
theorem e_Law_law_378 (t : q_V) (ok : ma_ok (q_G t)) {kk nn : Nat} (L : Nat) (xs : Nat → Int32) (hLx : g_L (q_G t) = L) (hxs : g_xs (q_G t) = xs) (hL : L ≤ 100000) {Q : Option Value → ma_H → Prop} {y : Int × q_F × q_F} (hQ : Q (some (ma_i y.1)) (q_h y.2.1 y.2.2)) (c23 : Int → q_F → q_F → Option (Int × q_F × q_F)) (hc23 : ∀ (v4 : Int) (f g : q_F), c23 v4 f g = some y → ma_Ev (q_G t) 2048 84000 kk nn m_Law_law 23 [(0, .ref (g_b (q_G t))), (1, q_a t (0)), (2, q_a t (60)), (3, q_a t (97)), (4, ma_i (v4))] [] (q_h f g) (ma_zr (q_G t) false Q)) (v4 : Int) (f g : q_F) (hp : p_Law_law_378 L xs c23 v4 f g = some y) : ma_Ev (q_G t) 2048 84000 kk nn m_Law_law 378 [(0, .ref (g_b (q_G t))), (1, q_a t (0)), (2, q_a t (60)), (3, q_a t (97)), (4, ma_i (v4))] [] (q_h f g) (ma_zr (q_G t) false Q) := by
  unfold p_Law_law_378 at hp
  refine ev_goto (pc := 378) (tgt := 709) d_Law_law_378 (by decide) ?_
  refine ev_sub (ls2 := [(0, .ref (g_b (q_G t))), (1, q_a t (0)), (2, q_a t (60)), (3, q_a t (97)), (4, ma_i (v4))]) [0, 1, 2, 3, 4] rfl ?_
  exact e_Law_law_709 t ok L xs hLx hxs hL hQ c23 hc23 (v4) f g hp
theorem e_Law_law_273 (t : q_V) (ok : ma_ok (q_G t)) {kk nn : Nat} (L : Nat) (xs : Nat → Int32) (hLx : g_L (q_G t) = L) (hxs : g_xs (q_G t) = xs) (hL : L ≤ 100000) {Q : Option Value → ma_H → Prop} {y : Int × q_F × q_F} (hQ : Q (some (ma_i y.1)) (q_h y.2.1 y.2.2)) (c23 : Int → q_F → q_F → Option (Int × q_F × q_F)) (hc23 : ∀ (v4 : Int) (f g : q_F), c23 v4 f g = some y → ma_Ev (q_G t) 2048 84000 kk nn m_Law_law 23 [(0, .ref (g_b (q_G t))), (1, q_a t (0)), (2, q_a t (60)), (3, q_a t (97)), (4, ma_i (v4))] [] (q_h f g) (ma_zr (q_G t) false Q)) (v4 : Int) (f g : q_F) (hp : p_Law_law_273 L xs c23 v4 f g = some y) : ma_Ev (q_G t) 2048 84000 kk nn m_Law_law 273 [(0, .ref (g_b (q_G t))), (1, q_a t (0)), (2, q_a t (60)), (3, q_a t (97)), (4, ma_i (v4))] [] (q_h f g) (ma_zr (q_G t) false Q) := by
  unfold p_Law_law_273 at hp
  refine ev_goto (pc := 273) (tgt := 709) d_Law_law_273 (by decide) ?_
  refine ev_sub (ls2 := [(0, .ref (g_b (q_G t))), (1, q_a t (0)), (2, q_a t (60)), (3, q_a t (97)), (4, ma_i (v4))]) [0, 1, 2, 3, 4] rfl ?_
  exact e_Law_law_709 t ok L xs hLx hxs hL hQ c23 hc23 (v4) f g hp
theorem e_Law_law_23 (t : q_V) (ok : ma_ok (q_G t)) (L : Nat) (xs : Nat → Int32) (hLx : g_L (q_G t) = L) (hxs : g_xs (q_G t) = xs) (hL : L ≤ 100000) {Q : Option Value → ma_H → Prop} {y : Int × q_F × q_F} (hQ : Q (some (ma_i y.1)) (q_h y.2.1 y.2.2))   : ∀ (n : Nat) (v4 : Int) (f g : q_F), p_Law_law_23 L xs  n v4 f g = some y → ma_Ev (q_G t) 2048 84000 n (6 * n) m_Law_law 23 [(0, .ref (g_b (q_G t))), (1, q_a t (0)), (2, q_a t (60)), (3, q_a t (97)), (4, ma_i (v4))] [] (q_h f g) (ma_zr (q_G t) false Q) := by
  intro n
  induction n with
  | zero =>
    intro v4 f g hp
    rw [p_Law_law_23] at hp
    cases hp
  | succ n ih =>
    intro v4 f g hp
    rw [p_Law_law_23] at hp
    rw [Nat.mul_succ]
    refine ev_iload (pc := 23) d_Law_law_23 rfl ?_
    refine ev_aload_n (pc := 25) d_Law_law_25 rfl rfl ?_
    refine et_slen (pc := 26) hLx d_Law_law_26 ?_
    refine ev_iconst (pc := 27) d_Law_law_27 ?_
    refine ev_isub (pc := 28) d_Law_law_28 ?_
    refine et_icmp_gt (pc := 29) (tgt := 715) d_Law_law_29 (by decide) (fun hj1 => ?_) (fun hj1 => ?_)
    · rw [if_pos hj1] at hp
      refine ev_iconst (pc := 715) d_Law_law_715 ?_
      cases Option.some.inj hp
      exact et_zret (pc := 716) d_Law_law_716 rfl (by decide) hQ
    · rw [if_neg hj1] at hp
      refine ev_aload_n (pc := 32) d_Law_law_32 rfl rfl ?_
      refine ev_iload (pc := 33) d_Law_law_33 rfl ?_
      replace hp := q_if hp
      obtain ⟨hb2, hp⟩ := hp
      refine et_sld (pc := 35) hLx hxs hL d_Law_law_35 hb2 ?_
      refine ev_bipush (pc := 36) d_Law_law_36 rfl ?_
      refine et_iand (pc := 38) d_Law_law_38 ?_
      rw [← q_sw_i (q_and (Int32.toInt (xs (Int.toNat v4))) 15)]
      by_cases hw3 : q_sw (q_and (Int32.toInt (xs (Int.toNat v4))) 15) = 0
      · rw [if_pos hw3] at hp
        rw [hw3]
        refine ev_tableIn (pc := 39) (tgt := 104) (off := 65) d_Law_law_39 ⟨by decide, by decide⟩ (by decide) (by decide) (by decide) (by decide) ?_
        refine et_aload_n (pc := 104) d_Law_law_104 rfl rfl ?_
        refine ev_aload_n (pc := 105) d_Law_law_105 rfl rfl ?_
        refine ev_iload (pc := 106) d_Law_law_106 rfl ?_
        refine ev_iconst (pc := 108) d_Law_law_108 ?_
        refine ev_iadd (pc := 109) d_Law_law_109 ?_
        replace hp := q_if hp
        obtain ⟨hb4, hp⟩ := hp
        refine et_sld (pc := 110) hLx hxs hL d_Law_law_110 hb4 ?_
        refine ev_aload_n (pc := 111) d_Law_law_111 rfl rfl ?_
        refine ev_iload (pc := 112) d_Law_law_112 rfl ?_
        refine ev_iconst (pc := 114) d_Law_law_114 ?_
        refine ev_iadd (pc := 115) d_Law_law_115 ?_
        replace hp := q_if hp
        obtain ⟨hb5, hp⟩ := hp
        refine et_sld (pc := 116) hLx hxs hL d_Law_law_116 hb5 ?_
        refine ev_aload_n (pc := 117) d_Law_law_117 rfl rfl ?_
        refine ev_iload (pc := 118) d_Law_law_118 rfl ?_
        refine ev_iconst (pc := 120) d_Law_law_120 ?_
        refine ev_iadd (pc := 121) d_Law_law_121 ?_
        replace hp := q_if hp
        obtain ⟨hb6, hp⟩ := hp
        refine et_sld (pc := 122) hLx hxs hL d_Law_law_122 hb6 ?_
        refine ev_aload_n (pc := 123) d_Law_law_123 rfl rfl ?_
        refine ev_iload (pc := 124) d_Law_law_124 rfl ?_
        refine ev_iconst (pc := 126) d_Law_law_126 ?_
        refine ev_iadd (pc := 127) d_Law_law_127 ?_
        replace hp := q_if hp
        obtain ⟨hb7, hp⟩ := hp
        refine et_sld (pc := 128) hLx hxs hL d_Law_law_128 hb7 ?_
        replace hp := q_bind hp
        obtain ⟨x8, hm9, hp⟩ := hp
        refine et_callW (k := n) (n := 6 * n) (pc := 129) (f1 := x8.2.1) (g1 := x8.2.2) ok [q_a t (0), ma_i (Int32.toInt (xs (Int.toNat (v4 + 1)))), ma_i (Int32.toInt (xs (Int.toNat (v4 + 2)))), ma_i (Int32.toInt (xs (Int.toNat (v4 + 3)))), ma_i (Int32.toInt (xs (Int.toNat (v4 + 4))))] [] (cw_56 t) d_Law_law_129 (t_Law_input t ok (Int32.toInt (xs (Int.toNat (v4 + 1)))) (Int32.toInt (xs (Int.toNat (v4 + 2)))) (Int32.toInt (xs (Int.toNat (v4 + 3)))) (Int32.toInt (xs (Int.toNat (v4 + 4)))) f g hm9 ⟨rfl, rfl⟩) rfl rfl (q_ble rfl) (q_ble rfl) (q_ble rfl) ?_
        refine ev_istore (pc := 132) d_Law_law_132 (by decide) [(5, _), (0, _), (1, _), (2, _), (3, _), (4, _)] rfl ?_
        refine et_aload_n (pc := 134) d_Law_law_134 rfl rfl ?_
        refine ev_aload_n (pc := 135) d_Law_law_135 rfl rfl ?_
        refine ev_iload (pc := 136) d_Law_law_136 rfl ?_
        refine ev_iconst (pc := 138) d_Law_law_138 ?_
        refine ev_iadd (pc := 139) d_Law_law_139 ?_
        replace hp := q_if hp
        obtain ⟨hb10, hp⟩ := hp
        refine et_sld (pc := 140) hLx hxs hL d_Law_law_140 hb10 ?_
        refine ev_aload_n (pc := 141) d_Law_law_141 rfl rfl ?_
        refine ev_iload (pc := 142) d_Law_law_142 rfl ?_
        refine ev_iconst (pc := 144) d_Law_law_144 ?_
        refine ev_iadd (pc := 145) d_Law_law_145 ?_
        replace hp := q_if hp
        obtain ⟨hb11, hp⟩ := hp
        refine et_sld (pc := 146) hLx hxs hL d_Law_law_146 hb11 ?_
        refine ev_aload_n (pc := 147) d_Law_law_147 rfl rfl ?_
        refine ev_iload (pc := 148) d_Law_law_148 rfl ?_
        refine ev_iconst (pc := 150) d_Law_law_150 ?_
        refine ev_iadd (pc := 151) d_Law_law_151 ?_
        replace hp := q_if hp
        obtain ⟨hb12, hp⟩ := hp
        refine et_sld (pc := 152) hLx hxs hL d_Law_law_152 hb12 ?_
        refine ev_aload_n (pc := 153) d_Law_law_153 rfl rfl ?_
        refine ev_iload (pc := 154) d_Law_law_154 rfl ?_
        refine ev_iconst (pc := 156) d_Law_law_156 ?_
        refine ev_iadd (pc := 157) d_Law_law_157 ?_
        replace hp := q_if hp
        obtain ⟨hb13, hp⟩ := hp
        refine et_sld (pc := 158) hLx hxs hL d_Law_law_158 hb13 ?_
        replace hp := q_bind hp
        obtain ⟨x14, hm15, hp⟩ := hp
        refine et_callVv (pc := 159) (f1 := x14.1) (g1 := x14.2) ok [ma_i (Int32.toInt (xs (Int.toNat (v4 + 1)))), ma_i (Int32.toInt (xs (Int.toNat (v4 + 2)))), ma_i (Int32.toInt (xs (Int.toNat (v4 + 3)))), ma_i (Int32.toInt (xs (Int.toNat (v4 + 4))))] [] (cf_Law_61 t) d_Law_law_159 s_60 k_12 rfl (t_Mod_input t ok (Int32.toInt (xs (Int.toNat (v4 + 1)))) (Int32.toInt (xs (Int.toNat (v4 + 2)))) (Int32.toInt (xs (Int.toNat (v4 + 3)))) (Int32.toInt (xs (Int.toNat (v4 + 4)))) x8.2.1 x8.2.2 hm15 ⟨rfl, rfl⟩) rfl rfl (q_ble rfl) (q_ble rfl) (q_ble rfl) ?_
        refine et_aload_n (pc := 162) d_Law_law_162 rfl rfl ?_
        replace hp := q_bind hp
        obtain ⟨x16, hm17, hp⟩ := hp
        refine et_callVi (pc := 163) (f1 := x16.2.1) (g1 := x16.2.2) ok [] [] (cf_Law_62 t) d_Law_law_163 s_60 k_12 rfl (t_Mod_thrown t ok  x14.1 x14.2 hm17 ⟨rfl, rfl⟩) rfl rfl (q_ble rfl) (q_ble rfl) (q_ble rfl) ?_
        refine ev_iload (pc := 166) d_Law_law_166 rfl ?_
        refine et_icmp_eq (pc := 168) (tgt := 173) d_Law_law_168 (by decide) (fun hj18 => ?_) (fun hj18 => ?_)
        · rw [if_pos hj18] at hp
          refine ev_goto (pc := 173) (tgt := 709) d_Law_law_173 (by decide) ?_
          refine ev_sub (ls2 := [(0, .ref (g_b (q_G t))), (1, q_a t (0)), (2, q_a t (60)), (3, q_a t (97)), (4, ma_i (v4))]) [1, 2, 3, 4, 5] rfl ?_
          exact e_Law_law_709 t ok L xs hLx hxs hL hQ (p_Law_law_23 L xs  n) ih (v4) x16.2.1 x16.2.2 hp
        · rw [if_neg hj18] at hp
          refine ev_iconst (pc := 171) d_Law_law_171 ?_
          cases Option.some.inj hp
          exact et_zret (pc := 172) d_Law_law_172 rfl (by decide) hQ
      · rw [if_neg hw3] at hp
        by_cases hw19 : q_sw (q_and (Int32.toInt (xs (Int.toNat v4))) 15) = 1
        · rw [if_pos hw19] at hp
          rw [hw19]
          refine ev_tableIn (pc := 39) (tgt := 176) (off := 137) d_Law_law_39 ⟨by decide, by decide⟩ (by decide) (by decide) (by decide) (by decide) ?_
          refine et_aload_n (pc := 176) d_Law_law_176 rfl rfl ?_
          refine ev_aload_n (pc := 177) d_Law_law_177 rfl rfl ?_
          refine ev_iload (pc := 178) d_Law_law_178 rfl ?_
          refine ev_iconst (pc := 180) d_Law_law_180 ?_
          refine ev_iadd (pc := 181) d_Law_law_181 ?_
          replace hp := q_if hp
          obtain ⟨hb20, hp⟩ := hp
          refine et_sld (pc := 182) hLx hxs hL d_Law_law_182 hb20 ?_
          refine et_i2l (pc := 183) d_Law_law_183 ?_
          refine ev_bipush (pc := 184) d_Law_law_184 rfl ?_
          refine et_lshl (pc := 186) d_Law_law_186 ?_
          refine ev_aload_n (pc := 187) d_Law_law_187 rfl rfl ?_
          refine ev_iload (pc := 188) d_Law_law_188 rfl ?_
          refine ev_iconst (pc := 190) d_Law_law_190 ?_
          refine ev_iadd (pc := 191) d_Law_law_191 ?_
          replace hp := q_if hp
          obtain ⟨hb21, hp⟩ := hp
          refine et_sld (pc := 192) hLx hxs hL d_Law_law_192 hb21 ?_
          refine et_i2l (pc := 193) d_Law_law_193 ?_
          refine ev_ldc2 (pc := 194) d_Law_law_194 kc_Law_65 ?_
          refine et_land (pc := 197) d_Law_law_197 ?_
          refine et_lor (pc := 198) d_Law_law_198 ?_
          refine ev_aload_n (pc := 199) d_Law_law_199 rfl rfl ?_
          refine ev_iload (pc := 200) d_Law_law_200 rfl ?_
          refine ev_iconst (pc := 202) d_Law_law_202 ?_
          refine ev_iadd (pc := 203) d_Law_law_203 ?_
          replace hp := q_if hp
          obtain ⟨hb22, hp⟩ := hp
          refine et_sld (pc := 204) hLx hxs hL d_Law_law_204 hb22 ?_
          refine et_aload_n (pc := 205) d_Law_law_205 rfl rfl ?_
          replace hp := q_bind hp
          obtain ⟨x23, hm24, hp⟩ := hp
          refine et_callW (k := n) (n := 6 * n) (pc := 206) (f1 := x23.2.1) (g1 := x23.2.2) ok [q_a t (0), ma_j (q_lor (q_lshl (q_sw (Int32.toInt (xs (Int.toNat (v4 + 1))))) 32) (q_land (q_sw (Int32.toInt (xs (Int.toNat (v4 + 2))))) 4294967295)), ma_i (Int32.toInt (xs (Int.toNat (v4 + 3)))), q_a t (97)] [] (cw_67 t) d_Law_law_206 (t_Law_type t ok (q_lor (q_lshl (q_sw (Int32.toInt (xs (Int.toNat (v4 + 1))))) 32) (q_land (q_sw (Int32.toInt (xs (Int.toNat (v4 + 2))))) 4294967295)) (Int32.toInt (xs (Int.toNat (v4 + 3)))) f g hm24 ⟨rfl, rfl⟩) rfl rfl (q_ble rfl) (q_ble rfl) (q_ble rfl) ?_
          refine ev_istore (pc := 209) d_Law_law_209 (by decide) [(5, _), (0, _), (1, _), (2, _), (3, _), (4, _)] rfl ?_
          refine et_aload_n (pc := 211) d_Law_law_211 rfl rfl ?_
          refine ev_aload_n (pc := 212) d_Law_law_212 rfl rfl ?_
          refine ev_iload (pc := 213) d_Law_law_213 rfl ?_
          refine ev_iconst (pc := 215) d_Law_law_215 ?_
          refine ev_iadd (pc := 216) d_Law_law_216 ?_
          replace hp := q_if hp
          obtain ⟨hb25, hp⟩ := hp
          refine et_sld (pc := 217) hLx hxs hL d_Law_law_217 hb25 ?_
          refine et_i2l (pc := 218) d_Law_law_218 ?_
          refine ev_bipush (pc := 219) d_Law_law_219 rfl ?_
          refine et_lshl (pc := 221) d_Law_law_221 ?_
          refine ev_aload_n (pc := 222) d_Law_law_222 rfl rfl ?_
          refine ev_iload (pc := 223) d_Law_law_223 rfl ?_
          refine ev_iconst (pc := 225) d_Law_law_225 ?_
          refine ev_iadd (pc := 226) d_Law_law_226 ?_
          replace hp := q_if hp
          obtain ⟨hb26, hp⟩ := hp
          refine et_sld (pc := 227) hLx hxs hL d_Law_law_227 hb26 ?_
          refine et_i2l (pc := 228) d_Law_law_228 ?_
          refine ev_ldc2 (pc := 229) d_Law_law_229 kc_Law_65 ?_
          refine et_land (pc := 232) d_Law_law_232 ?_
          refine et_lor (pc := 233) d_Law_law_233 ?_
          refine ev_aload_n (pc := 234) d_Law_law_234 rfl rfl ?_
          refine ev_iload (pc := 235) d_Law_law_235 rfl ?_
          refine ev_iconst (pc := 237) d_Law_law_237 ?_
          refine ev_iadd (pc := 238) d_Law_law_238 ?_
          replace hp := q_if hp
          obtain ⟨hb27, hp⟩ := hp
          refine et_sld (pc := 239) hLx hxs hL d_Law_law_239 hb27 ?_
          replace hp := q_bind hp
          obtain ⟨x28, hm29, hp⟩ := hp
          refine et_callVi (pc := 240) (f1 := x28.2.1) (g1 := x28.2.2) ok [ma_j (q_lor (q_lshl (q_sw (Int32.toInt (xs (Int.toNat (v4 + 1))))) 32) (q_land (q_sw (Int32.toInt (xs (Int.toNat (v4 + 2))))) 4294967295)), ma_i (Int32.toInt (xs (Int.toNat (v4 + 3))))] [] (cf_Law_70 t) d_Law_law_240 s_60 k_12 rfl (t_Mod_type t ok (q_lor (q_lshl (q_sw (Int32.toInt (xs (Int.toNat (v4 + 1))))) 32) (q_land (q_sw (Int32.toInt (xs (Int.toNat (v4 + 2))))) 4294967295)) (Int32.toInt (xs (Int.toNat (v4 + 3)))) x23.2.1 x23.2.2 hm29 ⟨rfl, rfl⟩) rfl rfl (q_ble rfl) (q_ble rfl) (q_ble rfl) ?_
          refine ev_istore (pc := 243) d_Law_law_243 (by decide) [(6, _), (5, _), (0, _), (1, _), (2, _), (3, _), (4, _)] rfl ?_
          refine et_aload_n (pc := 245) d_Law_law_245 rfl rfl ?_
          replace hp := q_bind hp
          obtain ⟨x30, hm31, hp⟩ := hp
          refine et_callVi (pc := 246) (f1 := x30.2.1) (g1 := x30.2.2) ok [] [] (cf_Law_62 t) d_Law_law_246 s_60 k_12 rfl (t_Mod_thrown t ok  x28.2.1 x28.2.2 hm31 ⟨rfl, rfl⟩) rfl rfl (q_ble rfl) (q_ble rfl) (q_ble rfl) ?_
          refine ev_iload (pc := 249) d_Law_law_249 rfl ?_
          refine et_icmp_eq (pc := 251) (tgt := 256) d_Law_law_251 (by decide) (fun hj32 => ?_) (fun hj32 => ?_)
          · rw [if_pos hj32] at hp
            refine ev_iload (pc := 256) d_Law_law_256 rfl ?_
            refine et_if_ne (pc := 258) (tgt := 273) d_Law_law_258 (by decide) (fun hj33 => ?_) (fun hj33 => ?_)
            · rw [if_neg hj33] at hp
              refine ev_sub (ls2 := [(0, .ref (g_b (q_G t))), (1, q_a t (0)), (2, q_a t (60)), (3, q_a t (97)), (4, ma_i (v4))]) [2, 3, 4, 5, 6] rfl ?_
              exact e_Law_law_273 t ok L xs hLx hxs hL hQ (p_Law_law_23 L xs  n) ih (v4) x30.2.1 x30.2.2 hp
            · rw [if_pos hj33] at hp
              refine et_aload_n (pc := 261) d_Law_law_261 rfl rfl ?_
              refine ev_iconst (pc := 262) d_Law_law_262 ?_
              refine et_lald (pc := 263) d_Law_law_263 s_97 ⟨by decide, by decide⟩ (by decide) ?_
              refine ev_iload (pc := 264) d_Law_law_264 rfl ?_
              refine et_i2l (pc := 266) d_Law_law_266 ?_
              refine et_lcmp (pc := 267) d_Law_law_267 ?_
              refine et_if_eq (pc := 268) (tgt := 273) d_Law_law_268 (by decide) (fun hj34 => ?_) (fun hj34 => ?_)
              · rw [if_pos hj34] at hp
                refine ev_sub (ls2 := [(0, .ref (g_b (q_G t))), (1, q_a t (0)), (2, q_a t (60)), (3, q_a t (97)), (4, ma_i (v4))]) [2, 3, 4, 5, 6] rfl ?_
                exact e_Law_law_273 t ok L xs hLx hxs hL hQ (p_Law_law_23 L xs  n) ih (v4) x30.2.1 x30.2.2 hp
              · rw [if_neg hj34] at hp
                refine ev_iconst (pc := 271) d_Law_law_271 ?_
                cases Option.some.inj hp
                exact et_zret (pc := 272) d_Law_law_272 rfl (by decide) hQ
          · rw [if_neg hj32] at hp
            refine ev_iconst (pc := 254) d_Law_law_254 ?_
            cases Option.some.inj hp
            exact et_zret (pc := 255) d_Law_law_255 rfl (by decide) hQ
        · rw [if_neg hw19] at hp
          by_cases hw35 : q_sw (q_and (Int32.toInt (xs (Int.toNat v4))) 15) = 2
          · rw [if_pos hw35] at hp
            rw [hw35]
            refine ev_tableIn (pc := 39) (tgt := 276) (off := 237) d_Law_law_39 ⟨by decide, by decide⟩ (by decide) (by decide) (by decide) (by decide) ?_
            refine et_aload_n (pc := 276) d_Law_law_276 rfl rfl ?_
            replace hp := q_bind hp
            obtain ⟨x36, hm37, hp⟩ := hp
            refine et_callVv (pc := 277) (f1 := x36.1) (g1 := x36.2) ok [] [] (cf_Law_71 t) d_Law_law_277 s_0 k_0 rfl (t_Desk_clear t ok  f g hm37 ⟨rfl, rfl⟩) rfl rfl (q_ble rfl) (q_ble rfl) (q_ble rfl) ?_
            refine et_aload_n (pc := 280) d_Law_law_280 rfl rfl ?_
            replace hp := q_bind hp
            obtain ⟨x38, hm39, hp⟩ := hp
            refine et_callVv (pc := 281) (f1 := x38.1) (g1 := x38.2) ok [] [] (cf_Law_74 t) d_Law_law_281 s_60 k_12 rfl (t_Mod_clear t ok  x36.1 x36.2 hm39 ⟨rfl, rfl⟩) rfl rfl (q_ble rfl) (q_ble rfl) (q_ble rfl) ?_
            refine ev_goto (pc := 284) (tgt := 709) d_Law_law_284 (by decide) ?_
            refine ev_less (k2 := n) (n2 := 6 * n) rfl (Nat.le_succ n) (by omega) ?_
            refine ev_sub (ls2 := [(0, .ref (g_b (q_G t))), (1, q_a t (0)), (2, q_a t (60)), (3, q_a t (97)), (4, ma_i (v4))]) [0, 1, 2, 3, 4] rfl ?_
            exact e_Law_law_709 t ok L xs hLx hxs hL hQ (p_Law_law_23 L xs  n) ih (v4) x38.1 x38.2 hp
          · rw [if_neg hw35] at hp
            by_cases hw40 : q_sw (q_and (Int32.toInt (xs (Int.toNat v4))) 15) = 3
            · rw [if_pos hw40] at hp
              rw [hw40]
              refine ev_tableIn (pc := 39) (tgt := 287) (off := 248) d_Law_law_39 ⟨by decide, by decide⟩ (by decide) (by decide) (by decide) (by decide) ?_
              refine et_aload_n (pc := 287) d_Law_law_287 rfl rfl ?_
              replace hp := q_bind hp
              obtain ⟨x41, hm42, hp⟩ := hp
              refine et_callVi (pc := 288) (f1 := x41.2.1) (g1 := x41.2.2) ok [] [] (cf_Law_75 t) d_Law_law_288 s_0 k_0 rfl (t_Desk_lay t ok  f g hm42 ⟨rfl, rfl⟩) rfl rfl (q_ble rfl) (q_ble rfl) (q_ble rfl) ?_
              refine et_aload_n (pc := 291) d_Law_law_291 rfl rfl ?_
              replace hp := q_bind hp
              obtain ⟨x43, hm44, hp⟩ := hp
              refine et_callVi (pc := 292) (f1 := x43.2.1) (g1 := x43.2.2) ok [] [ma_i (x41.1)] (cf_Law_78 t) d_Law_law_292 s_60 k_12 rfl (t_Mod_lay t ok  x41.2.1 x41.2.2 hm44 ⟨rfl, rfl⟩) rfl rfl (q_ble rfl) (q_ble rfl) (q_ble rfl) ?_
              refine et_icmp_eq (pc := 295) (tgt := 709) d_Law_law_295 (by decide) (fun hj45 => ?_) (fun hj45 => ?_)
              · rw [if_pos hj45] at hp
                refine ev_less (k2 := n) (n2 := 6 * n) rfl (Nat.le_succ n) (by omega) ?_
                refine ev_sub (ls2 := [(0, .ref (g_b (q_G t))), (1, q_a t (0)), (2, q_a t (60)), (3, q_a t (97)), (4, ma_i (v4))]) [0, 1, 2, 3, 4] rfl ?_
                exact e_Law_law_709 t ok L xs hLx hxs hL hQ (p_Law_law_23 L xs  n) ih (v4) x43.2.1 x43.2.2 hp
              · rw [if_neg hj45] at hp
                refine ev_iconst (pc := 298) d_Law_law_298 ?_
                cases Option.some.inj hp
                exact et_zret (pc := 299) d_Law_law_299 rfl (by decide) hQ
            · rw [if_neg hw40] at hp
              by_cases hw46 : q_sw (q_and (Int32.toInt (xs (Int.toNat v4))) 15) = 4
              · rw [if_pos hw46] at hp
                rw [hw46]
                refine ev_tableIn (pc := 39) (tgt := 300) (off := 261) d_Law_law_39 ⟨by decide, by decide⟩ (by decide) (by decide) (by decide) (by decide) ?_
                refine et_aload_n (pc := 300) d_Law_law_300 rfl rfl ?_
                replace hp := q_bind hp
                obtain ⟨x47, hm48, hp⟩ := hp
                refine et_callVi (pc := 301) (f1 := x47.2.1) (g1 := x47.2.2) ok [] [] (cf_Law_79 t) d_Law_law_301 s_0 k_0 rfl (t_Desk_bad t ok  f g hm48 ⟨rfl, rfl⟩) rfl rfl (q_ble rfl) (q_ble rfl) (q_ble rfl) ?_
                refine et_aload_n (pc := 304) d_Law_law_304 rfl rfl ?_
                replace hp := q_bind hp
                obtain ⟨x49, hm50, hp⟩ := hp
                refine et_callVi (pc := 305) (f1 := x49.2.1) (g1 := x49.2.2) ok [] [ma_i (x47.1)] (cf_Law_82 t) d_Law_law_305 s_60 k_12 rfl (t_Mod_bad t ok  x47.2.1 x47.2.2 hm50 ⟨rfl, rfl⟩) rfl rfl (q_ble rfl) (q_ble rfl) (q_ble rfl) ?_
                refine et_icmp_eq (pc := 308) (tgt := 709) d_Law_law_308 (by decide) (fun hj51 => ?_) (fun hj51 => ?_)
                · rw [if_pos hj51] at hp
                  refine ev_less (k2 := n) (n2 := 6 * n) rfl (Nat.le_succ n) (by omega) ?_
                  refine ev_sub (ls2 := [(0, .ref (g_b (q_G t))), (1, q_a t (0)), (2, q_a t (60)), (3, q_a t (97)), (4, ma_i (v4))]) [0, 1, 2, 3, 4] rfl ?_
                  exact e_Law_law_709 t ok L xs hLx hxs hL hQ (p_Law_law_23 L xs  n) ih (v4) x49.2.1 x49.2.2 hp
                · rw [if_neg hj51] at hp
                  refine ev_iconst (pc := 311) d_Law_law_311 ?_
                  cases Option.some.inj hp
                  exact et_zret (pc := 312) d_Law_law_312 rfl (by decide) hQ
              · rw [if_neg hw46] at hp
                by_cases hw52 : q_sw (q_and (Int32.toInt (xs (Int.toNat v4))) 15) = 5
                · rw [if_pos hw52] at hp
                  rw [hw52]
                  refine ev_tableIn (pc := 39) (tgt := 313) (off := 274) d_Law_law_39 ⟨by decide, by decide⟩ (by decide) (by decide) (by decide) (by decide) ?_
                  refine et_aload_n (pc := 313) d_Law_law_313 rfl rfl ?_
                  refine ev_aload_n (pc := 314) d_Law_law_314 rfl rfl ?_
                  refine ev_iload (pc := 315) d_Law_law_315 rfl ?_
                  refine ev_iconst (pc := 317) d_Law_law_317 ?_
                  refine ev_iadd (pc := 318) d_Law_law_318 ?_
                  replace hp := q_if hp
                  obtain ⟨hb53, hp⟩ := hp
                  refine et_sld (pc := 319) hLx hxs hL d_Law_law_319 hb53 ?_
                  refine ev_aload_n (pc := 320) d_Law_law_320 rfl rfl ?_
                  refine ev_iload (pc := 321) d_Law_law_321 rfl ?_
                  refine ev_iconst (pc := 323) d_Law_law_323 ?_
                  refine ev_iadd (pc := 324) d_Law_law_324 ?_
                  replace hp := q_if hp
                  obtain ⟨hb54, hp⟩ := hp
                  refine et_sld (pc := 325) hLx hxs hL d_Law_law_325 hb54 ?_
                  refine et_aload_n (pc := 326) d_Law_law_326 rfl rfl ?_
                  replace hp := q_bind hp
                  obtain ⟨x55, hm56, hp⟩ := hp
                  refine et_callW (k := n) (n := 6 * n) (pc := 327) (f1 := x55.2.1) (g1 := x55.2.2) ok [q_a t (0), ma_i (Int32.toInt (xs (Int.toNat (v4 + 1)))), ma_i (Int32.toInt (xs (Int.toNat (v4 + 2)))), q_a t (97)] [] (cw_83 t) d_Law_law_327 (t_Law_section t ok (Int32.toInt (xs (Int.toNat (v4 + 1)))) (Int32.toInt (xs (Int.toNat (v4 + 2)))) f g hm56 ⟨rfl, rfl⟩) rfl rfl (q_ble rfl) (q_ble rfl) (q_ble rfl) ?_
                  refine ev_istore (pc := 330) d_Law_law_330 (by decide) [(5, _), (0, _), (1, _), (2, _), (3, _), (4, _)] rfl ?_
                  refine et_aload_n (pc := 332) d_Law_law_332 rfl rfl ?_
                  refine ev_aload_n (pc := 333) d_Law_law_333 rfl rfl ?_
                  refine ev_iload (pc := 334) d_Law_law_334 rfl ?_
                  refine ev_iconst (pc := 336) d_Law_law_336 ?_
                  refine ev_iadd (pc := 337) d_Law_law_337 ?_
                  replace hp := q_if hp
                  obtain ⟨hb57, hp⟩ := hp
                  refine et_sld (pc := 338) hLx hxs hL d_Law_law_338 hb57 ?_
                  refine ev_aload_n (pc := 339) d_Law_law_339 rfl rfl ?_
                  refine ev_iload (pc := 340) d_Law_law_340 rfl ?_
                  refine ev_iconst (pc := 342) d_Law_law_342 ?_
                  refine ev_iadd (pc := 343) d_Law_law_343 ?_
                  replace hp := q_if hp
                  obtain ⟨hb58, hp⟩ := hp
                  refine et_sld (pc := 344) hLx hxs hL d_Law_law_344 hb58 ?_
                  replace hp := q_bind hp
                  obtain ⟨x59, hm60, hp⟩ := hp
                  refine et_callVi (pc := 345) (f1 := x59.2.1) (g1 := x59.2.2) ok [ma_i (Int32.toInt (xs (Int.toNat (v4 + 1)))), ma_i (Int32.toInt (xs (Int.toNat (v4 + 2))))] [] (cf_Law_86 t) d_Law_law_345 s_60 k_12 rfl (t_Mod_section t ok (Int32.toInt (xs (Int.toNat (v4 + 1)))) (Int32.toInt (xs (Int.toNat (v4 + 2)))) x55.2.1 x55.2.2 hm60 ⟨rfl, rfl⟩) rfl rfl (q_ble rfl) (q_ble rfl) (q_ble rfl) ?_
                  refine ev_istore (pc := 348) d_Law_law_348 (by decide) [(6, _), (5, _), (0, _), (1, _), (2, _), (3, _), (4, _)] rfl ?_
                  refine et_aload_n (pc := 350) d_Law_law_350 rfl rfl ?_
                  replace hp := q_bind hp
                  obtain ⟨x61, hm62, hp⟩ := hp
                  refine et_callVi (pc := 351) (f1 := x61.2.1) (g1 := x61.2.2) ok [] [] (cf_Law_62 t) d_Law_law_351 s_60 k_12 rfl (t_Mod_thrown t ok  x59.2.1 x59.2.2 hm62 ⟨rfl, rfl⟩) rfl rfl (q_ble rfl) (q_ble rfl) (q_ble rfl) ?_
                  refine ev_iload (pc := 354) d_Law_law_354 rfl ?_
                  refine et_icmp_eq (pc := 356) (tgt := 361) d_Law_law_356 (by decide) (fun hj63 => ?_) (fun hj63 => ?_)
                  · rw [if_pos hj63] at hp
                    refine ev_iload (pc := 361) d_Law_law_361 rfl ?_
                    refine et_if_ne (pc := 363) (tgt := 378) d_Law_law_363 (by decide) (fun hj64 => ?_) (fun hj64 => ?_)
                    · rw [if_neg hj64] at hp
                      refine ev_sub (ls2 := [(0, .ref (g_b (q_G t))), (1, q_a t (0)), (2, q_a t (60)), (3, q_a t (97)), (4, ma_i (v4))]) [2, 3, 4, 5, 6] rfl ?_
                      exact e_Law_law_378 t ok L xs hLx hxs hL hQ (p_Law_law_23 L xs  n) ih (v4) x61.2.1 x61.2.2 hp
                    · rw [if_pos hj64] at hp
                      refine et_aload_n (pc := 366) d_Law_law_366 rfl rfl ?_
                      refine ev_iconst (pc := 367) d_Law_law_367 ?_
                      refine et_lald (pc := 368) d_Law_law_368 s_97 ⟨by decide, by decide⟩ (by decide) ?_
                      refine ev_iload (pc := 369) d_Law_law_369 rfl ?_
                      refine et_i2l (pc := 371) d_Law_law_371 ?_
                      refine et_lcmp (pc := 372) d_Law_law_372 ?_
                      refine et_if_eq (pc := 373) (tgt := 378) d_Law_law_373 (by decide) (fun hj65 => ?_) (fun hj65 => ?_)
                      · rw [if_pos hj65] at hp
                        refine ev_sub (ls2 := [(0, .ref (g_b (q_G t))), (1, q_a t (0)), (2, q_a t (60)), (3, q_a t (97)), (4, ma_i (v4))]) [2, 3, 4, 5, 6] rfl ?_
                        exact e_Law_law_378 t ok L xs hLx hxs hL hQ (p_Law_law_23 L xs  n) ih (v4) x61.2.1 x61.2.2 hp
                      · rw [if_neg hj65] at hp
                        refine ev_iconst (pc := 376) d_Law_law_376 ?_
                        cases Option.some.inj hp
                        exact et_zret (pc := 377) d_Law_law_377 rfl (by decide) hQ
                  · rw [if_neg hj63] at hp
                    refine ev_iconst (pc := 359) d_Law_law_359 ?_
                    cases Option.some.inj hp
                    exact et_zret (pc := 360) d_Law_law_360 rfl (by decide) hQ
                · rw [if_neg hw52] at hp
                  by_cases hw66 : q_sw (q_and (Int32.toInt (xs (Int.toNat v4))) 15) = 6
                  · rw [if_pos hw66] at hp
                    rw [hw66]
                    refine ev_tableIn (pc := 39) (tgt := 381) (off := 342) d_Law_law_39 ⟨by decide, by decide⟩ (by decide) (by decide) (by decide) (by decide) ?_
                    refine et_aload_n (pc := 381) d_Law_law_381 rfl rfl ?_
                    refine ev_aload_n (pc := 382) d_Law_law_382 rfl rfl ?_
                    refine ev_iload (pc := 383) d_Law_law_383 rfl ?_
                    refine ev_iconst (pc := 385) d_Law_law_385 ?_
                    refine ev_iadd (pc := 386) d_Law_law_386 ?_
                    replace hp := q_if hp
                    obtain ⟨hb67, hp⟩ := hp
                    refine et_sld (pc := 387) hLx hxs hL d_Law_law_387 hb67 ?_
                    refine et_aload_n (pc := 388) d_Law_law_388 rfl rfl ?_
                    replace hp := q_bind hp
                    obtain ⟨x68, hm69, hp⟩ := hp
                    refine et_callW (k := n) (n := 6 * n) (pc := 389) (f1 := x68.2.1) (g1 := x68.2.2) ok [q_a t (0), ma_i (Int32.toInt (xs (Int.toNat (v4 + 1)))), q_a t (97)] [] (cw_87 t) d_Law_law_389 (t_Law_put t ok (Int32.toInt (xs (Int.toNat (v4 + 1)))) f g hm69 ⟨rfl, rfl⟩) rfl rfl (q_ble rfl) (q_ble rfl) (q_ble rfl) ?_
                    refine ev_istore (pc := 392) d_Law_law_392 (by decide) [(5, _), (0, _), (1, _), (2, _), (3, _), (4, _)] rfl ?_
                    refine et_aload_n (pc := 394) d_Law_law_394 rfl rfl ?_
                    refine ev_aload_n (pc := 395) d_Law_law_395 rfl rfl ?_
                    refine ev_iload (pc := 396) d_Law_law_396 rfl ?_
                    refine ev_iconst (pc := 398) d_Law_law_398 ?_
                    refine ev_iadd (pc := 399) d_Law_law_399 ?_
                    replace hp := q_if hp
                    obtain ⟨hb70, hp⟩ := hp
                    refine et_sld (pc := 400) hLx hxs hL d_Law_law_400 hb70 ?_
                    replace hp := q_bind hp
                    obtain ⟨x71, hm72, hp⟩ := hp
                    refine et_callVi (pc := 401) (f1 := x71.2.1) (g1 := x71.2.2) ok [ma_i (Int32.toInt (xs (Int.toNat (v4 + 1))))] [] (cf_Law_90 t) d_Law_law_401 s_60 k_12 rfl (t_Mod_put t ok (Int32.toInt (xs (Int.toNat (v4 + 1)))) x68.2.1 x68.2.2 hm72 ⟨rfl, rfl⟩) rfl rfl (q_ble rfl) (q_ble rfl) (q_ble rfl) ?_
                    refine ev_istore (pc := 404) d_Law_law_404 (by decide) [(6, _), (5, _), (0, _), (1, _), (2, _), (3, _), (4, _)] rfl ?_
                    refine et_aload_n (pc := 406) d_Law_law_406 rfl rfl ?_
                    replace hp := q_bind hp
                    obtain ⟨x73, hm74, hp⟩ := hp
                    refine et_callVi (pc := 407) (f1 := x73.2.1) (g1 := x73.2.2) ok [] [] (cf_Law_62 t) d_Law_law_407 s_60 k_12 rfl (t_Mod_thrown t ok  x71.2.1 x71.2.2 hm74 ⟨rfl, rfl⟩) rfl rfl (q_ble rfl) (q_ble rfl) (q_ble rfl) ?_
                    refine ev_iload (pc := 410) d_Law_law_410 rfl ?_
                    refine et_icmp_eq (pc := 412) (tgt := 417) d_Law_law_412 (by decide) (fun hj75 => ?_) (fun hj75 => ?_)
                    · rw [if_pos hj75] at hp
                      refine ev_iload (pc := 417) d_Law_law_417 rfl ?_
                      refine et_if_ne (pc := 419) (tgt := 434) d_Law_law_419 (by decide) (fun hj76 => ?_) (fun hj76 => ?_)
                      · rw [if_neg hj76] at hp
                        refine ev_sub (ls2 := [(0, .ref (g_b (q_G t))), (1, q_a t (0)), (2, q_a t (60)), (3, q_a t (97)), (4, ma_i (v4))]) [2, 3, 4, 5, 6] rfl ?_
                        exact e_Law_law_434 t ok L xs hLx hxs hL hQ (p_Law_law_23 L xs  n) ih (v4) x73.2.1 x73.2.2 hp
                      · rw [if_pos hj76] at hp
                        refine et_aload_n (pc := 422) d_Law_law_422 rfl rfl ?_
                        refine ev_iconst (pc := 423) d_Law_law_423 ?_
                        refine et_lald (pc := 424) d_Law_law_424 s_97 ⟨by decide, by decide⟩ (by decide) ?_
                        refine ev_iload (pc := 425) d_Law_law_425 rfl ?_
                        refine et_i2l (pc := 427) d_Law_law_427 ?_
                        refine et_lcmp (pc := 428) d_Law_law_428 ?_
                        refine et_if_eq (pc := 429) (tgt := 434) d_Law_law_429 (by decide) (fun hj77 => ?_) (fun hj77 => ?_)
                        · rw [if_pos hj77] at hp
                          refine ev_sub (ls2 := [(0, .ref (g_b (q_G t))), (1, q_a t (0)), (2, q_a t (60)), (3, q_a t (97)), (4, ma_i (v4))]) [2, 3, 4, 5, 6] rfl ?_
                          exact e_Law_law_434 t ok L xs hLx hxs hL hQ (p_Law_law_23 L xs  n) ih (v4) x73.2.1 x73.2.2 hp
                        · rw [if_neg hj77] at hp
                          refine ev_iconst (pc := 432) d_Law_law_432 ?_
                          cases Option.some.inj hp
                          exact et_zret (pc := 433) d_Law_law_433 rfl (by decide) hQ
                    · rw [if_neg hj75] at hp
                      refine ev_iconst (pc := 415) d_Law_law_415 ?_
                      cases Option.some.inj hp
                      exact et_zret (pc := 416) d_Law_law_416 rfl (by decide) hQ
                  · rw [if_neg hw66] at hp
                    by_cases hw78 : q_sw (q_and (Int32.toInt (xs (Int.toNat v4))) 15) = 7
                    · rw [if_pos hw78] at hp
                      rw [hw78]
                      refine ev_tableIn (pc := 39) (tgt := 437) (off := 398) d_Law_law_39 ⟨by decide, by decide⟩ (by decide) (by decide) (by decide) (by decide) ?_
                      refine et_aload_n (pc := 437) d_Law_law_437 rfl rfl ?_
                      refine ev_aload_n (pc := 438) d_Law_law_438 rfl rfl ?_
                      refine ev_iload (pc := 439) d_Law_law_439 rfl ?_
                      refine ev_iconst (pc := 441) d_Law_law_441 ?_
                      refine ev_iadd (pc := 442) d_Law_law_442 ?_
                      replace hp := q_if hp
                      obtain ⟨hb79, hp⟩ := hp
                      refine et_sld (pc := 443) hLx hxs hL d_Law_law_443 hb79 ?_
                      refine et_aload_n (pc := 444) d_Law_law_444 rfl rfl ?_
                      replace hp := q_bind hp
                      obtain ⟨x80, hm81, hp⟩ := hp
                      refine et_callW (k := n) (n := 6 * n) (pc := 445) (f1 := x80.2.1) (g1 := x80.2.2) ok [q_a t (0), ma_i (Int32.toInt (xs (Int.toNat (v4 + 1)))), q_a t (97)] [] (cw_91 t) d_Law_law_445 (t_Law_symbol t ok (Int32.toInt (xs (Int.toNat (v4 + 1)))) f g hm81 ⟨rfl, rfl⟩) rfl rfl (q_ble rfl) (q_ble rfl) (q_ble rfl) ?_
                      refine ev_istore (pc := 448) d_Law_law_448 (by decide) [(5, _), (0, _), (1, _), (2, _), (3, _), (4, _)] rfl ?_
                      refine et_aload_n (pc := 450) d_Law_law_450 rfl rfl ?_
                      refine ev_aload_n (pc := 451) d_Law_law_451 rfl rfl ?_
                      refine ev_iload (pc := 452) d_Law_law_452 rfl ?_
                      refine ev_iconst (pc := 454) d_Law_law_454 ?_
                      refine ev_iadd (pc := 455) d_Law_law_455 ?_
                      replace hp := q_if hp
                      obtain ⟨hb82, hp⟩ := hp
                      refine et_sld (pc := 456) hLx hxs hL d_Law_law_456 hb82 ?_
                      replace hp := q_bind hp
                      obtain ⟨x83, hm84, hp⟩ := hp
                      refine et_callVi (pc := 457) (f1 := x83.2.1) (g1 := x83.2.2) ok [ma_i (Int32.toInt (xs (Int.toNat (v4 + 1))))] [] (cf_Law_93 t) d_Law_law_457 s_60 k_12 rfl (t_Mod_symbol t ok (Int32.toInt (xs (Int.toNat (v4 + 1)))) x80.2.1 x80.2.2 hm84 ⟨rfl, rfl⟩) rfl rfl (q_ble rfl) (q_ble rfl) (q_ble rfl) ?_
                      refine ev_istore (pc := 460) d_Law_law_460 (by decide) [(6, _), (5, _), (0, _), (1, _), (2, _), (3, _), (4, _)] rfl ?_
                      refine et_aload_n (pc := 462) d_Law_law_462 rfl rfl ?_
                      replace hp := q_bind hp
                      obtain ⟨x85, hm86, hp⟩ := hp
                      refine et_callVi (pc := 463) (f1 := x85.2.1) (g1 := x85.2.2) ok [] [] (cf_Law_62 t) d_Law_law_463 s_60 k_12 rfl (t_Mod_thrown t ok  x83.2.1 x83.2.2 hm86 ⟨rfl, rfl⟩) rfl rfl (q_ble rfl) (q_ble rfl) (q_ble rfl) ?_
                      refine ev_iload (pc := 466) d_Law_law_466 rfl ?_
                      refine et_icmp_eq (pc := 468) (tgt := 473) d_Law_law_468 (by decide) (fun hj87 => ?_) (fun hj87 => ?_)
                      · rw [if_pos hj87] at hp
                        refine ev_iload (pc := 473) d_Law_law_473 rfl ?_
                        refine et_if_ne (pc := 475) (tgt := 490) d_Law_law_475 (by decide) (fun hj88 => ?_) (fun hj88 => ?_)
                        · rw [if_neg hj88] at hp
                          refine ev_sub (ls2 := [(0, .ref (g_b (q_G t))), (1, q_a t (0)), (2, q_a t (60)), (3, q_a t (97)), (4, ma_i (v4))]) [2, 3, 4, 5, 6] rfl ?_
                          exact e_Law_law_490 t ok L xs hLx hxs hL hQ (p_Law_law_23 L xs  n) ih (v4) x85.2.1 x85.2.2 hp
                        · rw [if_pos hj88] at hp
                          refine et_aload_n (pc := 478) d_Law_law_478 rfl rfl ?_
                          refine ev_iconst (pc := 479) d_Law_law_479 ?_
                          refine et_lald (pc := 480) d_Law_law_480 s_97 ⟨by decide, by decide⟩ (by decide) ?_
                          refine ev_iload (pc := 481) d_Law_law_481 rfl ?_
                          refine et_i2l (pc := 483) d_Law_law_483 ?_
                          refine et_lcmp (pc := 484) d_Law_law_484 ?_
                          refine et_if_eq (pc := 485) (tgt := 490) d_Law_law_485 (by decide) (fun hj89 => ?_) (fun hj89 => ?_)
                          · rw [if_pos hj89] at hp
                            refine ev_sub (ls2 := [(0, .ref (g_b (q_G t))), (1, q_a t (0)), (2, q_a t (60)), (3, q_a t (97)), (4, ma_i (v4))]) [2, 3, 4, 5, 6] rfl ?_
                            exact e_Law_law_490 t ok L xs hLx hxs hL hQ (p_Law_law_23 L xs  n) ih (v4) x85.2.1 x85.2.2 hp
                          · rw [if_neg hj89] at hp
                            refine ev_iconst (pc := 488) d_Law_law_488 ?_
                            cases Option.some.inj hp
                            exact et_zret (pc := 489) d_Law_law_489 rfl (by decide) hQ
                      · rw [if_neg hj87] at hp
                        refine ev_iconst (pc := 471) d_Law_law_471 ?_
                        cases Option.some.inj hp
                        exact et_zret (pc := 472) d_Law_law_472 rfl (by decide) hQ
                    · rw [if_neg hw78] at hp
                      by_cases hw90 : q_sw (q_and (Int32.toInt (xs (Int.toNat v4))) 15) = 8
                      · rw [if_pos hw90] at hp
                        rw [hw90]
                        refine ev_tableIn (pc := 39) (tgt := 493) (off := 454) d_Law_law_39 ⟨by decide, by decide⟩ (by decide) (by decide) (by decide) (by decide) ?_
                        refine et_aload_n (pc := 493) d_Law_law_493 rfl rfl ?_
                        refine et_aload_n (pc := 494) d_Law_law_494 rfl rfl ?_
                        replace hp := q_bind hp
                        obtain ⟨x91, hm92, hp⟩ := hp
                        refine et_callW (k := n) (n := 6 * n) (pc := 495) (f1 := x91.2.1) (g1 := x91.2.2) ok [q_a t (0), q_a t (97)] [] (cw_94 t) d_Law_law_495 (t_Law_copies t ok  f g hm92 ⟨rfl, rfl⟩) rfl rfl (q_ble rfl) (q_ble rfl) (q_ble rfl) ?_
                        refine ev_istore (pc := 498) d_Law_law_498 (by decide) [(5, _), (0, _), (1, _), (2, _), (3, _), (4, _)] rfl ?_
                        refine et_aload_n (pc := 500) d_Law_law_500 rfl rfl ?_
                        replace hp := q_bind hp
                        obtain ⟨x93, hm94, hp⟩ := hp
                        refine et_callVi (pc := 501) (f1 := x93.2.1) (g1 := x93.2.2) ok [] [] (cf_Law_97 t) d_Law_law_501 s_60 k_12 rfl (t_Mod_copies t ok  x91.2.1 x91.2.2 hm94 ⟨rfl, rfl⟩) rfl rfl (q_ble rfl) (q_ble rfl) (q_ble rfl) ?_
                        refine ev_istore (pc := 504) d_Law_law_504 (by decide) [(6, _), (5, _), (0, _), (1, _), (2, _), (3, _), (4, _)] rfl ?_
                        refine et_aload_n (pc := 506) d_Law_law_506 rfl rfl ?_
                        replace hp := q_bind hp
                        obtain ⟨x95, hm96, hp⟩ := hp
                        refine et_callVi (pc := 507) (f1 := x95.2.1) (g1 := x95.2.2) ok [] [] (cf_Law_62 t) d_Law_law_507 s_60 k_12 rfl (t_Mod_thrown t ok  x93.2.1 x93.2.2 hm96 ⟨rfl, rfl⟩) rfl rfl (q_ble rfl) (q_ble rfl) (q_ble rfl) ?_
                        refine ev_iload (pc := 510) d_Law_law_510 rfl ?_
                        refine et_icmp_eq (pc := 512) (tgt := 517) d_Law_law_512 (by decide) (fun hj97 => ?_) (fun hj97 => ?_)
                        · rw [if_pos hj97] at hp
                          refine ev_iload (pc := 517) d_Law_law_517 rfl ?_
                          refine et_if_ne (pc := 519) (tgt := 534) d_Law_law_519 (by decide) (fun hj98 => ?_) (fun hj98 => ?_)
                          · rw [if_neg hj98] at hp
                            refine ev_sub (ls2 := [(0, .ref (g_b (q_G t))), (1, q_a t (0)), (2, q_a t (60)), (3, q_a t (97)), (4, ma_i (v4))]) [2, 3, 4, 5, 6] rfl ?_
                            exact e_Law_law_534 t ok L xs hLx hxs hL hQ (p_Law_law_23 L xs  n) ih (v4) x95.2.1 x95.2.2 hp
                          · rw [if_pos hj98] at hp
                            refine et_aload_n (pc := 522) d_Law_law_522 rfl rfl ?_
                            refine ev_iconst (pc := 523) d_Law_law_523 ?_
                            refine et_lald (pc := 524) d_Law_law_524 s_97 ⟨by decide, by decide⟩ (by decide) ?_
                            refine ev_iload (pc := 525) d_Law_law_525 rfl ?_
                            refine et_i2l (pc := 527) d_Law_law_527 ?_
                            refine et_lcmp (pc := 528) d_Law_law_528 ?_
                            refine et_if_eq (pc := 529) (tgt := 534) d_Law_law_529 (by decide) (fun hj99 => ?_) (fun hj99 => ?_)
                            · rw [if_pos hj99] at hp
                              refine ev_sub (ls2 := [(0, .ref (g_b (q_G t))), (1, q_a t (0)), (2, q_a t (60)), (3, q_a t (97)), (4, ma_i (v4))]) [2, 3, 4, 5, 6] rfl ?_
                              exact e_Law_law_534 t ok L xs hLx hxs hL hQ (p_Law_law_23 L xs  n) ih (v4) x95.2.1 x95.2.2 hp
                            · rw [if_neg hj99] at hp
                              refine ev_iconst (pc := 532) d_Law_law_532 ?_
                              cases Option.some.inj hp
                              exact et_zret (pc := 533) d_Law_law_533 rfl (by decide) hQ
                        · rw [if_neg hj97] at hp
                          refine ev_iconst (pc := 515) d_Law_law_515 ?_
                          cases Option.some.inj hp
                          exact et_zret (pc := 516) d_Law_law_516 rfl (by decide) hQ
                      · rw [if_neg hw90] at hp
                        by_cases hw100 : q_sw (q_and (Int32.toInt (xs (Int.toNat v4))) 15) = 9
                        · rw [if_pos hw100] at hp
                          rw [hw100]
                          refine ev_tableIn (pc := 39) (tgt := 537) (off := 498) d_Law_law_39 ⟨by decide, by decide⟩ (by decide) (by decide) (by decide) (by decide) ?_
                          refine et_aload_n (pc := 537) d_Law_law_537 rfl rfl ?_
                          refine ev_aload_n (pc := 538) d_Law_law_538 rfl rfl ?_
                          refine ev_iload (pc := 539) d_Law_law_539 rfl ?_
                          refine ev_iconst (pc := 541) d_Law_law_541 ?_
                          refine ev_iadd (pc := 542) d_Law_law_542 ?_
                          replace hp := q_if hp
                          obtain ⟨hb101, hp⟩ := hp
                          refine et_sld (pc := 543) hLx hxs hL d_Law_law_543 hb101 ?_
                          refine ev_aload_n (pc := 544) d_Law_law_544 rfl rfl ?_
                          refine ev_iload (pc := 545) d_Law_law_545 rfl ?_
                          refine ev_iconst (pc := 547) d_Law_law_547 ?_
                          refine ev_iadd (pc := 548) d_Law_law_548 ?_
                          replace hp := q_if hp
                          obtain ⟨hb102, hp⟩ := hp
                          refine et_sld (pc := 549) hLx hxs hL d_Law_law_549 hb102 ?_
                          refine et_aload_n (pc := 550) d_Law_law_550 rfl rfl ?_
                          replace hp := q_bind hp
                          obtain ⟨x103, hm104, hp⟩ := hp
                          refine et_callW (k := n) (n := 6 * n) (pc := 551) (f1 := x103.2.1) (g1 := x103.2.2) ok [q_a t (0), ma_i (Int32.toInt (xs (Int.toNat (v4 + 1)))), ma_i (Int32.toInt (xs (Int.toNat (v4 + 2)))), q_a t (97)] [] (cw_98 t) d_Law_law_551 (t_Law_copy t ok (Int32.toInt (xs (Int.toNat (v4 + 1)))) (Int32.toInt (xs (Int.toNat (v4 + 2)))) f g hm104 ⟨rfl, rfl⟩) rfl rfl (q_ble rfl) (q_ble rfl) (q_ble rfl) ?_
                          refine ev_istore (pc := 554) d_Law_law_554 (by decide) [(5, _), (0, _), (1, _), (2, _), (3, _), (4, _)] rfl ?_
                          refine et_aload_n (pc := 556) d_Law_law_556 rfl rfl ?_
                          refine ev_aload_n (pc := 557) d_Law_law_557 rfl rfl ?_
                          refine ev_iload (pc := 558) d_Law_law_558 rfl ?_
                          refine ev_iconst (pc := 560) d_Law_law_560 ?_
                          refine ev_iadd (pc := 561) d_Law_law_561 ?_
                          replace hp := q_if hp
                          obtain ⟨hb105, hp⟩ := hp
                          refine et_sld (pc := 562) hLx hxs hL d_Law_law_562 hb105 ?_
                          refine ev_aload_n (pc := 563) d_Law_law_563 rfl rfl ?_
                          refine ev_iload (pc := 564) d_Law_law_564 rfl ?_
                          refine ev_iconst (pc := 566) d_Law_law_566 ?_
                          refine ev_iadd (pc := 567) d_Law_law_567 ?_
                          replace hp := q_if hp
                          obtain ⟨hb106, hp⟩ := hp
                          refine et_sld (pc := 568) hLx hxs hL d_Law_law_568 hb106 ?_
                          replace hp := q_bind hp
                          obtain ⟨x107, hm108, hp⟩ := hp
                          refine et_callVi (pc := 569) (f1 := x107.2.1) (g1 := x107.2.2) ok [ma_i (Int32.toInt (xs (Int.toNat (v4 + 1)))), ma_i (Int32.toInt (xs (Int.toNat (v4 + 2))))] [] (cf_Law_100 t) d_Law_law_569 s_60 k_12 rfl (t_Mod_copy t ok (Int32.toInt (xs (Int.toNat (v4 + 1)))) (Int32.toInt (xs (Int.toNat (v4 + 2)))) x103.2.1 x103.2.2 hm108 ⟨rfl, rfl⟩) rfl rfl (q_ble rfl) (q_ble rfl) (q_ble rfl) ?_
                          refine ev_istore (pc := 572) d_Law_law_572 (by decide) [(6, _), (5, _), (0, _), (1, _), (2, _), (3, _), (4, _)] rfl ?_
                          refine et_aload_n (pc := 574) d_Law_law_574 rfl rfl ?_
                          replace hp := q_bind hp
                          obtain ⟨x109, hm110, hp⟩ := hp
                          refine et_callVi (pc := 575) (f1 := x109.2.1) (g1 := x109.2.2) ok [] [] (cf_Law_62 t) d_Law_law_575 s_60 k_12 rfl (t_Mod_thrown t ok  x107.2.1 x107.2.2 hm110 ⟨rfl, rfl⟩) rfl rfl (q_ble rfl) (q_ble rfl) (q_ble rfl) ?_
                          refine ev_iload (pc := 578) d_Law_law_578 rfl ?_
                          refine et_icmp_eq (pc := 580) (tgt := 585) d_Law_law_580 (by decide) (fun hj111 => ?_) (fun hj111 => ?_)
                          · rw [if_pos hj111] at hp
                            refine ev_iload (pc := 585) d_Law_law_585 rfl ?_
                            refine et_if_ne (pc := 587) (tgt := 602) d_Law_law_587 (by decide) (fun hj112 => ?_) (fun hj112 => ?_)
                            · rw [if_neg hj112] at hp
                              refine ev_sub (ls2 := [(0, .ref (g_b (q_G t))), (1, q_a t (0)), (2, q_a t (60)), (3, q_a t (97)), (4, ma_i (v4))]) [2, 3, 4, 5, 6] rfl ?_
                              exact e_Law_law_602 t ok L xs hLx hxs hL hQ (p_Law_law_23 L xs  n) ih (v4) x109.2.1 x109.2.2 hp
                            · rw [if_pos hj112] at hp
                              refine et_aload_n (pc := 590) d_Law_law_590 rfl rfl ?_
                              refine ev_iconst (pc := 591) d_Law_law_591 ?_
                              refine et_lald (pc := 592) d_Law_law_592 s_97 ⟨by decide, by decide⟩ (by decide) ?_
                              refine ev_iload (pc := 593) d_Law_law_593 rfl ?_
                              refine et_i2l (pc := 595) d_Law_law_595 ?_
                              refine et_lcmp (pc := 596) d_Law_law_596 ?_
                              refine et_if_eq (pc := 597) (tgt := 602) d_Law_law_597 (by decide) (fun hj113 => ?_) (fun hj113 => ?_)
                              · rw [if_pos hj113] at hp
                                refine ev_sub (ls2 := [(0, .ref (g_b (q_G t))), (1, q_a t (0)), (2, q_a t (60)), (3, q_a t (97)), (4, ma_i (v4))]) [2, 3, 4, 5, 6] rfl ?_
                                exact e_Law_law_602 t ok L xs hLx hxs hL hQ (p_Law_law_23 L xs  n) ih (v4) x109.2.1 x109.2.2 hp
                              · rw [if_neg hj113] at hp
                                refine ev_iconst (pc := 600) d_Law_law_600 ?_
                                cases Option.some.inj hp
                                exact et_zret (pc := 601) d_Law_law_601 rfl (by decide) hQ
                          · rw [if_neg hj111] at hp
                            refine ev_iconst (pc := 583) d_Law_law_583 ?_
                            cases Option.some.inj hp
                            exact et_zret (pc := 584) d_Law_law_584 rfl (by decide) hQ
                        · rw [if_neg hw100] at hp
                          by_cases hw114 : q_sw (q_and (Int32.toInt (xs (Int.toNat v4))) 15) = 10
                          · rw [if_pos hw114] at hp
                            rw [hw114]
                            refine ev_tableIn (pc := 39) (tgt := 605) (off := 566) d_Law_law_39 ⟨by decide, by decide⟩ (by decide) (by decide) (by decide) (by decide) ?_
                            refine et_aload_n (pc := 605) d_Law_law_605 rfl rfl ?_
                            replace hp := q_bind hp
                            obtain ⟨x115, hm116, hp⟩ := hp
                            refine et_callW (k := n) (n := 6 * n) (pc := 606) (f1 := x115.2.1) (g1 := x115.2.2) ok [q_a t (0)] [] (cw_101 t) d_Law_law_606 (t_Law_load t ok  f g hm116 ⟨rfl, rfl⟩) rfl rfl (q_ble rfl) (q_ble rfl) (q_ble rfl) ?_
                            refine ev_istore (pc := 609) d_Law_law_609 (by decide) [(5, _), (0, _), (1, _), (2, _), (3, _), (4, _)] rfl ?_
                            refine et_aload_n (pc := 611) d_Law_law_611 rfl rfl ?_
                            replace hp := q_bind hp
                            obtain ⟨x117, hm118, hp⟩ := hp
                            refine et_callVv (pc := 612) (f1 := x117.1) (g1 := x117.2) ok [] [] (cf_Law_104 t) d_Law_law_612 s_60 k_12 rfl (t_Mod_load t ok  x115.2.1 x115.2.2 hm118 ⟨rfl, rfl⟩) rfl rfl (q_ble rfl) (q_ble rfl) (q_ble rfl) ?_
                            refine et_aload_n (pc := 615) d_Law_law_615 rfl rfl ?_
                            replace hp := q_bind hp
                            obtain ⟨x119, hm120, hp⟩ := hp
                            refine et_callVi (pc := 616) (f1 := x119.2.1) (g1 := x119.2.2) ok [] [] (cf_Law_62 t) d_Law_law_616 s_60 k_12 rfl (t_Mod_thrown t ok  x117.1 x117.2 hm120 ⟨rfl, rfl⟩) rfl rfl (q_ble rfl) (q_ble rfl) (q_ble rfl) ?_
                            refine ev_iload (pc := 619) d_Law_law_619 rfl ?_
                            refine et_icmp_eq (pc := 621) (tgt := 626) d_Law_law_621 (by decide) (fun hj121 => ?_) (fun hj121 => ?_)
                            · rw [if_pos hj121] at hp
                              refine ev_goto (pc := 626) (tgt := 709) d_Law_law_626 (by decide) ?_
                              refine ev_sub (ls2 := [(0, .ref (g_b (q_G t))), (1, q_a t (0)), (2, q_a t (60)), (3, q_a t (97)), (4, ma_i (v4))]) [1, 2, 3, 4, 5] rfl ?_
                              exact e_Law_law_709 t ok L xs hLx hxs hL hQ (p_Law_law_23 L xs  n) ih (v4) x119.2.1 x119.2.2 hp
                            · rw [if_neg hj121] at hp
                              refine ev_iconst (pc := 624) d_Law_law_624 ?_
                              cases Option.some.inj hp
                              exact et_zret (pc := 625) d_Law_law_625 rfl (by decide) hQ
                          · rw [if_neg hw114] at hp
                            by_cases hw122 : q_sw (q_and (Int32.toInt (xs (Int.toNat v4))) 15) = 11
                            · rw [if_pos hw122] at hp
                              rw [hw122]
                              refine ev_tableIn (pc := 39) (tgt := 629) (off := 590) d_Law_law_39 ⟨by decide, by decide⟩ (by decide) (by decide) (by decide) (by decide) ?_
                              refine et_aload_n (pc := 629) d_Law_law_629 rfl rfl ?_
                              replace hp := q_bind hp
                              obtain ⟨x123, hm124, hp⟩ := hp
                              refine et_callW (k := n) (n := 6 * n) (pc := 630) (f1 := x123.2.1) (g1 := x123.2.2) ok [q_a t (0)] [] (cw_105 t) d_Law_law_630 (t_Law_start t ok  f g hm124 ⟨rfl, rfl⟩) rfl rfl (q_ble rfl) (q_ble rfl) (q_ble rfl) ?_
                              refine ev_istore (pc := 633) d_Law_law_633 (by decide) [(5, _), (0, _), (1, _), (2, _), (3, _), (4, _)] rfl ?_
                              refine et_aload_n (pc := 635) d_Law_law_635 rfl rfl ?_
                              replace hp := q_bind hp
                              obtain ⟨x125, hm126, hp⟩ := hp
                              refine et_callVv (pc := 636) (f1 := x125.1) (g1 := x125.2) ok [] [] (cf_Law_107 t) d_Law_law_636 s_60 k_12 rfl (t_Mod_start t ok  x123.2.1 x123.2.2 hm126 ⟨rfl, rfl⟩) rfl rfl (q_ble rfl) (q_ble rfl) (q_ble rfl) ?_
                              refine et_aload_n (pc := 639) d_Law_law_639 rfl rfl ?_
                              replace hp := q_bind hp
                              obtain ⟨x127, hm128, hp⟩ := hp
                              refine et_callVi (pc := 640) (f1 := x127.2.1) (g1 := x127.2.2) ok [] [] (cf_Law_62 t) d_Law_law_640 s_60 k_12 rfl (t_Mod_thrown t ok  x125.1 x125.2 hm128 ⟨rfl, rfl⟩) rfl rfl (q_ble rfl) (q_ble rfl) (q_ble rfl) ?_
                              refine ev_iload (pc := 643) d_Law_law_643 rfl ?_
                              refine et_icmp_eq (pc := 645) (tgt := 650) d_Law_law_645 (by decide) (fun hj129 => ?_) (fun hj129 => ?_)
                              · rw [if_pos hj129] at hp
                                refine ev_goto (pc := 650) (tgt := 709) d_Law_law_650 (by decide) ?_
                                refine ev_sub (ls2 := [(0, .ref (g_b (q_G t))), (1, q_a t (0)), (2, q_a t (60)), (3, q_a t (97)), (4, ma_i (v4))]) [1, 2, 3, 4, 5] rfl ?_
                                exact e_Law_law_709 t ok L xs hLx hxs hL hQ (p_Law_law_23 L xs  n) ih (v4) x127.2.1 x127.2.2 hp
                              · rw [if_neg hj129] at hp
                                refine ev_iconst (pc := 648) d_Law_law_648 ?_
                                cases Option.some.inj hp
                                exact et_zret (pc := 649) d_Law_law_649 rfl (by decide) hQ
                            · rw [if_neg hw122] at hp
                              by_cases hw130 : q_sw (q_and (Int32.toInt (xs (Int.toNat v4))) 15) = 12
                              · rw [if_pos hw130] at hp
                                rw [hw130]
                                refine ev_tableIn (pc := 39) (tgt := 653) (off := 614) d_Law_law_39 ⟨by decide, by decide⟩ (by decide) (by decide) (by decide) (by decide) ?_
                                refine et_aload_n (pc := 653) d_Law_law_653 rfl rfl ?_
                                refine ev_aload_n (pc := 654) d_Law_law_654 rfl rfl ?_
                                refine ev_iload (pc := 655) d_Law_law_655 rfl ?_
                                refine ev_iconst (pc := 657) d_Law_law_657 ?_
                                refine ev_iadd (pc := 658) d_Law_law_658 ?_
                                replace hp := q_if hp
                                obtain ⟨hb131, hp⟩ := hp
                                refine et_sld (pc := 659) hLx hxs hL d_Law_law_659 hb131 ?_
                                refine et_aload_n (pc := 660) d_Law_law_660 rfl rfl ?_
                                replace hp := q_bind hp
                                obtain ⟨x132, hm133, hp⟩ := hp
                                refine et_callW (k := n) (n := 6 * n) (pc := 661) (f1 := x132.2.1) (g1 := x132.2.2) ok [q_a t (0), ma_i (Int32.toInt (xs (Int.toNat (v4 + 1)))), q_a t (97)] [] (cw_108 t) d_Law_law_661 (t_Law_memory t ok (Int32.toInt (xs (Int.toNat (v4 + 1)))) f g hm133 ⟨rfl, rfl⟩) rfl rfl (q_ble rfl) (q_ble rfl) (q_ble rfl) ?_
                                refine ev_istore (pc := 664) d_Law_law_664 (by decide) [(5, _), (0, _), (1, _), (2, _), (3, _), (4, _)] rfl ?_
                                refine et_aload_n (pc := 666) d_Law_law_666 rfl rfl ?_
                                refine ev_aload_n (pc := 667) d_Law_law_667 rfl rfl ?_
                                refine ev_iload (pc := 668) d_Law_law_668 rfl ?_
                                refine ev_iconst (pc := 670) d_Law_law_670 ?_
                                refine ev_iadd (pc := 671) d_Law_law_671 ?_
                                replace hp := q_if hp
                                obtain ⟨hb134, hp⟩ := hp
                                refine et_sld (pc := 672) hLx hxs hL d_Law_law_672 hb134 ?_
                                replace hp := q_bind hp
                                obtain ⟨x135, hm136, hp⟩ := hp
                                refine et_callVi (pc := 673) (f1 := x135.2.1) (g1 := x135.2.2) ok [ma_i (Int32.toInt (xs (Int.toNat (v4 + 1))))] [] (cf_Law_110 t) d_Law_law_673 s_60 k_12 rfl (t_Mod_memory t ok (Int32.toInt (xs (Int.toNat (v4 + 1)))) x132.2.1 x132.2.2 hm136 ⟨rfl, rfl⟩) rfl rfl (q_ble rfl) (q_ble rfl) (q_ble rfl) ?_
                                refine ev_istore (pc := 676) d_Law_law_676 (by decide) [(6, _), (5, _), (0, _), (1, _), (2, _), (3, _), (4, _)] rfl ?_
                                refine et_aload_n (pc := 678) d_Law_law_678 rfl rfl ?_
                                replace hp := q_bind hp
                                obtain ⟨x137, hm138, hp⟩ := hp
                                refine et_callVi (pc := 679) (f1 := x137.2.1) (g1 := x137.2.2) ok [] [] (cf_Law_62 t) d_Law_law_679 s_60 k_12 rfl (t_Mod_thrown t ok  x135.2.1 x135.2.2 hm138 ⟨rfl, rfl⟩) rfl rfl (q_ble rfl) (q_ble rfl) (q_ble rfl) ?_
                                refine ev_iload (pc := 682) d_Law_law_682 rfl ?_
                                refine et_icmp_eq (pc := 684) (tgt := 689) d_Law_law_684 (by decide) (fun hj139 => ?_) (fun hj139 => ?_)
                                · rw [if_pos hj139] at hp
                                  refine ev_iload (pc := 689) d_Law_law_689 rfl ?_
                                  refine et_if_ne (pc := 691) (tgt := 706) d_Law_law_691 (by decide) (fun hj140 => ?_) (fun hj140 => ?_)
                                  · rw [if_neg hj140] at hp
                                    refine ev_sub (ls2 := [(0, .ref (g_b (q_G t))), (1, q_a t (0)), (2, q_a t (60)), (3, q_a t (97)), (4, ma_i (v4))]) [2, 3, 4, 5, 6] rfl ?_
                                    exact e_Law_law_706 t ok L xs hLx hxs hL hQ (p_Law_law_23 L xs  n) ih (v4) x137.2.1 x137.2.2 hp
                                  · rw [if_pos hj140] at hp
                                    refine et_aload_n (pc := 694) d_Law_law_694 rfl rfl ?_
                                    refine ev_iconst (pc := 695) d_Law_law_695 ?_
                                    refine et_lald (pc := 696) d_Law_law_696 s_97 ⟨by decide, by decide⟩ (by decide) ?_
                                    refine ev_iload (pc := 697) d_Law_law_697 rfl ?_
                                    refine et_i2l (pc := 699) d_Law_law_699 ?_
                                    refine et_lcmp (pc := 700) d_Law_law_700 ?_
                                    refine et_if_eq (pc := 701) (tgt := 706) d_Law_law_701 (by decide) (fun hj141 => ?_) (fun hj141 => ?_)
                                    · rw [if_pos hj141] at hp
                                      refine ev_sub (ls2 := [(0, .ref (g_b (q_G t))), (1, q_a t (0)), (2, q_a t (60)), (3, q_a t (97)), (4, ma_i (v4))]) [2, 3, 4, 5, 6] rfl ?_
                                      exact e_Law_law_706 t ok L xs hLx hxs hL hQ (p_Law_law_23 L xs  n) ih (v4) x137.2.1 x137.2.2 hp
                                    · rw [if_neg hj141] at hp
                                      refine ev_iconst (pc := 704) d_Law_law_704 ?_
                                      cases Option.some.inj hp
                                      exact et_zret (pc := 705) d_Law_law_705 rfl (by decide) hQ
                                · rw [if_neg hj139] at hp
                                  refine ev_iconst (pc := 687) d_Law_law_687 ?_
                                  cases Option.some.inj hp
                                  exact et_zret (pc := 688) d_Law_law_688 rfl (by decide) hQ
                              · rw [if_neg hw130] at hp
                                refine ev_tableOut (pc := 39) (tgt := 709) d_Law_law_39 (q_sw_r _) (by omega) (by decide) ?_
                                refine ev_less (k2 := n) (n2 := 6 * n) rfl (Nat.le_succ n) (by omega) ?_
                                refine ev_sub (ls2 := [(0, .ref (g_b (q_G t))), (1, q_a t (0)), (2, q_a t (60)), (3, q_a t (97)), (4, ma_i (v4))]) [0, 1, 2, 3, 4] rfl ?_
                                exact e_Law_law_709 t ok L xs hLx hxs hL hQ (p_Law_law_23 L xs  n) ih (v4) f g hp
