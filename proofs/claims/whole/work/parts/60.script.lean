/-! ===== the whole script is read alike ===== -/
section SC
variable {fc fm f g : q_F}
theorem RR.bad {w : Int} (h : RR 8 18 fc fm) : RR 8 18 fc (ma_up fm 60 10 w) := by
  obtain ⟨r1, r2, r3, r4, r5, r6, r7⟩ := h
  have rm : ∀ b, b ≠ 60 → ma_up fm 60 10 w b = fm b := fun b hb => ma_up_ne hb
  have r60 : ∀ j, j ≠ 10 → ma_up fm 60 10 w 60 j = fm 60 j := fun j hj => ma_up_at hj
  refine ⟨?_, r2.ext (fun a _ _ => rfl) (fun a _ _ => rm a (by omega)), r3.ext (fun a _ _ => rfl) (fun a _ _ => rm a (by omega)), ?_, ?_, ?_, ?_⟩
  · exact r1.rows rfl rfl rfl rfl rfl rfl (rm 66 (by omega)) (rm 70 (by omega)) (rm 71 (by omega)) (r60 _ (by omega)) (r60 _ (by omega)) (r60 _ (by omega)) (r60 _ (by omega))
  · exact r4.ext rfl rfl rfl (Int.le_refl _) (r60 _ (by omega)) (rm 89 (by omega)) (fun a _ _ c => c) (fun a _ _ c d => ⟨c, d⟩)
  · exact r5.ext rfl rfl (fun a c1 c2 => ⟨rfl, rfl, rfl, rfl, fun _ => rfl⟩) (r60 _ (by omega)) (fun b _ _ => rm b (by omega))
  · exact r6.ext (fun k hk _ => rfl) (fun k _ _ => by rw [rm 79 (by omega), rm 80 (by omega), rm 81 (by omega), rm 82 (by omega), rm 83 (by omega), rm 84 (by omega), rm 85 (by omega)]; exact ⟨rfl, rfl, rfl, rfl, rfl, rfl, rfl⟩) (Int.le_refl _) (Int.le_refl _) (fun i _ => rfl) (fun a c1 c2 c3 => c3)
  · exact r7.full (fun u hu => rfl) (fun u _ => by rw [rm 92 (by omega), rm 93 (by omega), rm 94 (by omega)]; exact ⟨rfl, rfl, rfl⟩) (rm 90 (by omega)) (rm 91 (by omega)) (Int.le_refl _) (fun i _ => rfl)
theorem script_loop : ∀ (m : Nat) (n1 n2 : Nat) (v : Int) (fc fm : q_F), RR 8 18 fc fm → (fc 1 1 - fc 54 2).toNat < m → m < n1 → m + 1 < n2 → 0 ≤ v → v ≤ fc 54 2 →
    ∃ b fd fn, p_Reader_readScript_14 n1 v fc g = some (b, fd, g) ∧ p_Mod_read_115 n2 fm g = some (fn, g) ∧ PC fc fd ∧ PM fm fn ∧ fn 60 10 = b ∧ ((b = -1 ∧ fn 60 9 = 0 ∧ RR 8 18 fd fn) ∨ (0 ≤ b ∧ b ≤ 160 ∧ fn 60 9 = 1)) := by
  intro m
  induction m with
  | zero =>
    intro n1 n2 v fc fm h hm
    omega
  | succ m ih =>
    intro n1 n2 v fc fm h hm h1 h2 h3 h4
    obtain ⟨n1, rfl⟩ : ∃ n, n1 = n + 1 := ⟨n1 - 1, by omega⟩
    obtain ⟨n2, rfl⟩ : ∃ n, n2 = n + 1 := ⟨n2 - 1, by omega⟩
    have hc := h.1.c
    have hn := hc.1.2.1
    have hp := hc.2.2
    have hw := h.1.w
    have hs : fc 54 2 = fm 60 8 := h.1.2.1.1
    have hz : fc 1 1 = fm 60 6 := h.1.1.2.1
    by_cases hend : fc 54 2 = fc 1 1
    · refine ⟨-1, fc, ma_up fm 60 10 (-1), ?_, ?_, PC.rf _, (PM.rf _).up (by omega), ma_up_self, Or.inl ⟨rfl, ?_, h.bad⟩⟩
      · rw [p_Reader_readScript_14]
        unfold p_Reader_readScript_109
        rw [q_swn (by omega), q_swn (by omega), q_swn (by omega), q_swn (by omega), if_pos (show fc 1 1 ≤ fc 54 2 by omega), ite_self]
      · rw [p_Mod_read_115]
        unfold p_Mod_read_140 p_Mod_read_156
        rw [if_pos (sw0 hw), if_pos (show q_sw (fm 60 6) ≤ q_sw (fm 60 8) by rw [← hs, ← hz, hend]; exact Int.le_refl _), if_pos (sw0 hw)]
        rfl
      · rw [ma_up_at (by omega)]
        exact hw
    · obtain ⟨fd, fn, p1, p2, p3, p4⟩ := stat_pair (g := g) (c14 := p_Reader_readScript_14 n1) (v1 := v) h
      have eM : p_Mod_read_115 (n2 + 1) fm g = p_Mod_read_115 n2 fn g := by
        rw [p_Mod_read_115, if_pos (sw0 hw), if_neg (show ¬ q_sw (fm 60 6) ≤ q_sw (fm 60 8) by rw [← hs, ← hz, q_swn (by omega), q_swn (by omega)]; omega), p3, Option.bind_some]
      rw [p_Reader_readScript_14, q_swn (show -2147483648 ≤ (160 : Int) ∧ (160 : Int) ≤ 2147483647 by omega), q_swn (show -2147483648 ≤ v ∧ v ≤ 2147483647 by omega), if_neg (by omega), if_neg (show ¬ q_sw (fc 1 1) ≤ q_sw (fc 54 2) by rw [q_swn (by omega), q_swn (by omega)]; omega), eM]
      rcases p4 with ⟨q1, q2, q3⟩ | ⟨q1, q3⟩
      · rw [q3]
        have l1 : fd 1 1 = fc 1 1 := p1 1 1 (by omega)
        have l2 := q1.1.c.2.2
        obtain ⟨b, fd2, fn2, a1, a2, a3, a4, a5⟩ := ih n1 n2 (v + 1) fd fn q1 (by omega) (by omega) (by omega) (by omega) (by omega)
        exact ⟨b, fd2, fn2, a1, a2, p1.tr a3, p2.tr a4, a5⟩
      · rw [q3]
        obtain ⟨n3, rfl⟩ : ∃ n, n2 = n + 1 := ⟨n2 - 1, by omega⟩
        have hm1 := q1.2.2
        refine ⟨fd 54 2, fd, ma_up fn 60 10 (fn 60 8), rfl, ?_, p1, p2.up (by omega), by rw [ma_up_self]; exact q1.2.1.symm, Or.inr ⟨?_, ?_, ?_⟩⟩
        · rw [p_Mod_read_115, if_neg (sw1 q1.1)]
          unfold p_Mod_read_140 p_Mod_read_156
          rw [if_neg (sw1 q1.1)]
          rfl
        · rw [q1.2.1]
          exact hm1.2.1
        · rw [q1.2.1]
          have := hm1.1.2.1
          have := hm1.2.2
          omega
        · rw [ma_up_at (by omega)]
          exact q1.1
end SC
