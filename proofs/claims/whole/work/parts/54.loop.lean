/-! ===== the items of a section, its homes ===== -/
section LO
variable {g : q_F} {x : Nat}
theorem items_loop (hx : x < 8) : ∀ (m : Nat) (n1 n2 : Nat) (v : Int) (fc fm : q_F), RR x 18 fc fm → (fc 1 1 - fc 54 2).toNat < m → m < n1 → m + 1 < n2 → 0 ≤ v → v < fc 54 2 →
    (∃ fe fp, KC fc fe ∧ KM fm fp ∧ RR x 18 fe fp ∧ cch fe = 125 ∧ fc 54 2 ≤ fe 54 2 ∧ fc 8 2 ≤ fe 8 2 ∧ p_Reader_readItems_16 n1 (28 + x) v fc g = some (1, ma_up fe (28 + x) 5 (fe 8 2), g) ∧ p_Mod_readSection_121 n2 x fm g = p_Mod_readSection_145 x (mAdv fp) g) ∨
    (∃ fd fn, KC fc fd ∧ KM fm fn ∧ Fail fd fn ∧ p_Reader_readItems_16 n1 (28 + x) v fc g = some (0, fd, g) ∧ p_Mod_readSection_121 n2 x fm g = p_Mod_readSection_145 x fn g) := by
  intro m
  induction m with
  | zero =>
    intro n1 n2 v fc fm h hm
    omega
  | succ m ih =>
    intro n1 n2 v fc fm h hm h1 h2 h3 h4
    obtain ⟨n1, rfl⟩ : ∃ n, n1 = n + 1 := ⟨n1 - 1, by omega⟩
    obtain ⟨n2, rfl⟩ : ∃ n, n2 = n + 1 := ⟨n2 - 1, by omega⟩
    have hc := h.1.c
    have hb := cch_b hc
    have hn := hc.1.2.1
    have hp := hc.2.2
    have hch := h.1.ch
    have hw := h.1.w
    by_cases h125 : cch fc = 125
    · refine Or.inl ⟨fc, fm, KC.rf _, KM.rf _, h, h125, Int.le_refl _, Int.le_refl _, ?_, ?_⟩
      · rw [p_Reader_readItems_16, if_pos (by omega), q_swn (show -2147483648 ≤ (160 : Int) ∧ (160 : Int) ≤ 2147483647 by omega), q_swn (show -2147483648 ≤ v ∧ v ≤ 2147483647 by omega), if_neg (by omega), c_here hc, Option.bind_some, if_pos (by rw [h125])]
        unfold p_Reader_readItems_47
        rw [if_pos (by omega)]
        rfl
      · rw [p_Mod_readSection_121, if_pos (sw0 hw), m_takes1 h.1.m hw (by omega) (by omega), Option.bind_some, if_neg (sw1 rfl)]
    · obtain ⟨b, fd, fn, t1, t2, t3, t4, t5⟩ := item_pair (g := g) h hx
      have q11 : fd 1 1 = fc 1 1 := t3 1 1 (by omega)
      have eC : p_Reader_readItems_16 (n1 + 1) (28 + x) v fc g = if q_sw b = 0 then some (0, fd, g) else p_Reader_readItems_16 n1 (28 + x) (v + 1) fd g := by
        rw [p_Reader_readItems_16, if_pos (by omega), q_swn (show -2147483648 ≤ (160 : Int) ∧ (160 : Int) ≤ 2147483647 by omega), q_swn (show -2147483648 ≤ v ∧ v ≤ 2147483647 by omega), if_neg (by omega), c_here hc, Option.bind_some]
        dsimp only
        rw [q_swn (by omega), q_swn (by omega), if_neg h125, t1, Option.bind_some]
        rfl
      have eM : p_Mod_readSection_121 (n2 + 1) x fm g = p_Mod_readSection_121 n2 x fn g := by
        rw [p_Mod_readSection_121, if_pos (sw0 hw), m_takes0 h.1.m hw (by omega) (by omega), Option.bind_some, if_pos (sw0 rfl), t2, Option.bind_some]
      rcases t5 with ⟨rfl, t6, t7, t8⟩ | ⟨rfl, t6⟩
      · rw [eC, if_neg (sw1 rfl), eM]
        have hp2 := t6.1.c.2.2
        have k4 := t6.2.2.2.1.2.2.1
        rcases ih n1 n2 (v + 1) fd fn t6 (by omega) (by omega) (by omega) (by omega) (by omega) with ⟨fe, fp, a1, a2, a3, a4, a5, a6, a7, a8⟩ | ⟨fd2, fn2, a1, a2, a3, a4, a5⟩
        · refine Or.inl ⟨fe, fp, t3.tr a1, t4.tr a2, a3, a4, by omega, by omega, a7, a8⟩
        · exact Or.inr ⟨fd2, fn2, t3.tr a1, t4.tr a2, a3, a4, a5⟩
      · rw [eC, if_pos (sw0 rfl), eM]
        obtain ⟨n3, rfl⟩ : ∃ n, n2 = n + 1 := ⟨n2 - 1, by omega⟩
        exact Or.inr ⟨fd, fn, t3, t4, t6, rfl, by rw [p_Mod_readSection_121, if_neg (sw1 t6.1)]⟩
end LO
