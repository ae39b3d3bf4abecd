/-! ===== a symbol of both; both phases ===== -/
section SY
variable {c0 m0 fc fd fm fn g g' : q_F} {k : Nat}
theorem same.sy (h : same fc fd) : same fd fc := fun a c1 c2 => (h a c1 c2).symm
theorem same.stuck (hS : SS fc fm) (hD : DD fc fm) (h : same fc fd) (hs : stuck fc) : stuck fd :=
  stuck_grow hS hD h.grow (fun l hl _ hn _ _ => by rw [h (28 + l) (by omega) (by omega)]; exact hn) (fun v hv hn _ _ => by rw [h (36 + v) (by omega) (by omega)]; exact hn) hs
/-- the reference's turn over a symbol -/
theorem m_sym_skip {c7 : Int → q_F → q_F → Option (Int × q_F × q_F)} {n : Nat} {v1 : Int} {v : Nat} (hv : v < 18) (h : fm 90 (v + 8) = 0 ∨ (fm 90 (v + 8) = 1 ∧ fm 91 (v + 8) = 1) ∨ (fm 90 (v + 8) = 1 ∧ fm 91 (v + 8) = 0 ∧ 0 ≤ fm 92 (v + 8) ∧ fm 92 (v + 8) < 8)) : p_Mod_reckonAll_56 c7 (n + 1) v1 (v + 8 : Nat) fm g' = p_Mod_reckonAll_56 c7 n v1 (v + 9 : Nat) fm g' := by
  have i26 : 0 ≤ ((v + 8 : Nat) : Int) ∧ ((v + 8 : Nat) : Int) < 26 := by omega
  have e131 : p_Mod_reckonAll_131 c7 (p_Mod_reckonAll_56 c7 n) v1 (v + 8 : Nat) fm g' = p_Mod_reckonAll_56 c7 n v1 (v + 9 : Nat) fm g' := by
    unfold p_Mod_reckonAll_131
    dsimp only [q_let]
    rw [show ((v + 8 : Nat) : Int) + 1 = ((v + 9 : Nat) : Int) by omega]
  rw [p_Mod_reckonAll_56, if_neg (show ¬ q_sw 26 ≤ q_sw ((v + 8 : Nat) : Int) by rw [q_swn (by omega), q_swn (by omega)]; omega), if_pos i26, Int.toNat_natCast, e131]
  rcases h with h | h | h
  · rw [if_pos (sw0 h)]
  · rw [if_neg (sw1 h.1), if_pos i26, if_neg (sw1 h.2)]
  · rw [if_neg (sw1 h.1), if_pos i26, if_pos (sw0 h.2.1), if_pos i26, if_pos (show 0 ≤ q_sw (fm 92 (v + 8)) by rw [q_swn (by omega)]; omega)]
theorem m_sym_go {c7 : Int → q_F → q_F → Option (Int × q_F × q_F)} {n : Nat} {v1 : Int} {v : Nat} {x : Int} {f1 g1 : q_F} (hv : v < 18) (h1 : fm 90 (v + 8) = 1) (h2 : fm 91 (v + 8) = 0) (h3 : fm 92 (v + 8) = -1) (hr : p_Mod_reckon (fm 93 (v + 8)) (fm 94 (v + 8)) fm g' = some (x, f1, g1)) (h20 : f1 60 20 = 0 ∨ f1 60 20 = 1) : p_Mod_reckonAll_56 c7 (n + 1) v1 (v + 8 : Nat) fm g' = p_Mod_reckonAll_56 c7 n v1 (v + 9 : Nat) (if f1 60 20 = 0 then ma_up f1 91 (v + 8) 0 else ma_up (ma_up f1 95 (v + 8) x) 91 (v + 8) 1) g1 := by
  have i26 : 0 ≤ ((v + 8 : Nat) : Int) ∧ ((v + 8 : Nat) : Int) < 26 := by omega
  have e121 : ∀ f2 : q_F, p_Mod_reckonAll_121 c7 (p_Mod_reckonAll_56 c7 n) v1 (v + 8 : Nat) f2 g1 = p_Mod_reckonAll_56 c7 n v1 (v + 9 : Nat) (ma_up f2 91 (v + 8) (q_nz (f2 60 20))) g1 := fun f2 => by
    unfold p_Mod_reckonAll_121 p_Mod_reckonAll_131
    rw [if_pos i26, Int.toNat_natCast]
    dsimp only [q_let]
    rw [show ((v + 8 : Nat) : Int) + 1 = ((v + 9 : Nat) : Int) by omega]
  rw [p_Mod_reckonAll_56, if_neg (show ¬ q_sw 26 ≤ q_sw ((v + 8 : Nat) : Int) by rw [q_swn (by omega), q_swn (by omega)]; omega), if_pos i26, Int.toNat_natCast, if_neg (sw1 h1), if_pos i26, if_pos (sw0 h2), if_pos i26, if_neg (show ¬ 0 ≤ q_sw (fm 92 (v + 8)) by rw [h3]; decide), if_pos i26, if_pos i26, hr, Option.bind_some]
  dsimp only [q_let]
  rw [if_pos i26]
  rcases h20 with q | q
  · rw [if_pos (sw0 q), e121, if_pos q, q, q_nz0]
  · rw [if_neg (sw1 q), e121, if_neg (by omega), ma_up_ne (by omega), q, q_nz1]
theorem sym_step {v : Nat} (hX : CTX c0 m0) (hD : DY c0 m0 fc fm) (hv : v < 18) : ∃ b fd fn gn, p_Reckoner_reckonSymbol (36 + v) fc g = some (b, fd, g) ∧ (∀ c7 n v1, p_Mod_reckonAll_56 c7 (n + 1) v1 (v + 8 : Nat) fm g' = p_Mod_reckonAll_56 c7 n v1 (v + 9 : Nat) fn gn) ∧ (∀ c, c ≠ 72 → gn c = g' c) ∧ ((b = 0 ∧ same fc fd ∧ (DY c0 m0 fd fn ∨ (UU m0 fn ∧ stuck fc))) ∨ (b = 1 ∧ DY c0 m0 fd fn ∧ grow fc fd ∧ nky fc + 1 ≤ nky fd ∧ (stuck fc → stuck fd))) := by
  have hS := hX.ss hD.1 hD.2.1
  obtain ⟨s1, s2, s3, s4⟩ := hS.2.2.2.2.2.1 v hv
  have hdv := hD.2.2.2.2.1 v hv
  have f01 : fm 91 (v + 8) = 0 ∨ fm 91 (v + 8) = 1 := hD.2.2.2.F.2 _ (by omega) (by omega)
  have i1 : 36 ≤ 36 + v ∧ 36 + v < 54 := by omega
  have idle : fc (36 + v) 1 = 0 → p_Reckoner_reckonSymbol (36 + v) fc g = some (0, fc, g) := fun q => by
    unfold p_Reckoner_reckonSymbol p_Reckoner_reckonSymbol_16
    rw [if_pos i1, if_pos (sw0 q)]
  rcases s2 with t | t
  · exact ⟨0, fc, fm, g', idle (s3 t), fun c7 n v1 => m_sym_skip hv (Or.inl (by rw [← s1]; exact t)), fun _ _ => rfl, Or.inl ⟨rfl, same.rf _, Or.inl hD⟩⟩
  · rw [s1] at t
    rcases s4 (by rw [s1]; exact t) with q | q
    · refine ⟨0, fc, fm, g', idle q.1, fun c7 n v1 => m_sym_skip hv (Or.inr ?_), fun _ _ => rfl, Or.inl ⟨rfl, same.rf _, Or.inl hD⟩⟩
      rcases f01 with p | p
      · exact Or.inr ⟨t, p, q.2⟩
      · exact Or.inl ⟨t, p⟩
    · obtain ⟨q1, q2, q3⟩ := q
      rcases hdv with ⟨d1, d2⟩ | ⟨d1, d2, d3⟩
      · -- not known yet
        obtain ⟨⟨f1, a1, a2⟩, a3, a4, y, n1, gn, a5, a6, a7, a8, a9, a10, a11⟩ := ex_pair (g := g) (g' := g') hS.2.1 hD.2.2.2 hD.2.2.1 q3
        have eC : p_Reckoner_reckonSymbol (36 + v) fc g = if q_sw (xcode (evx fc (fc (36 + v) 2) (fc (36 + v) 3))) = q_sw (-1000000000) then some (0, ma_up f1 (36 + v) 4 (xcode (evx fc (fc (36 + v) 2) (fc (36 + v) 3))), g) else some (1, ma_up f1 (36 + v) 4 (xcode (evx fc (fc (36 + v) 2) (fc (36 + v) 3))), g) := by
          unfold p_Reckoner_reckonSymbol p_Reckoner_reckonSymbol_48
          rw [if_pos i1, if_neg (sw1 q1), if_pos (show q_sw (fc (36 + v) 4) = q_sw (-1000000000) by rw [d1]; rfl), a1, Option.bind_some]
          dsimp only [q_let]
          rw [ma_up_self, if_pos (Or.inl rfl), if_pos (Or.inr rfl)]
        have eM := fun c7 n v1 => m_sym_go (c7 := c7) (n := n) (v1 := v1) hv t d2 q2 a5 a7
        have none4 : xcode (evx fc (fc (36 + v) 2) (fc (36 + v) 3)) = NY → p_Reckoner_reckonSymbol (36 + v) fc g = some (0, f1, g) := fun hN => by
          rw [eC, hN, if_pos (show q_sw NY = q_sw (-1000000000) from rfl), ma_up_id (by rw [a2 (36 + v) (by omega) (by omega)]; exact d1)]
        have r91 : n1 91 (v + 8) = 0 := by rw [a6.1 91 (by omega)]; exact d2
        rcases evx_cases fc (fc (36 + v) 2) (fc (36 + v) 3) with ⟨s, hs⟩ | hs | hs
        · obtain ⟨b1, b2, b3⟩ := a9 s hs
          have hne := a4 s hs
          have hab := a3 s hs
          have hU := UB_b fc
          have hbn := ab_bnd hab
          generalize xcode (evx fc (fc (36 + v) 2) (fc (36 + v) 3)) = x at *
          have b1' := b1.symm
          subst b1'
          have hsw : ¬ q_sw x = q_sw (-1000000000) := by
            unfold bnd at hbn
            rw [NY_sw, q_swn (by omega)]
            exact hne
          rw [if_neg hsw] at eC
          have rf : ∀ a, a ≠ 36 + v → a ≠ 55 → a ≠ 56 → ma_up f1 (36 + v) 4 x a = fc a := fun a c1 c2 c3 => by rw [ma_up_ne c1, a2 a c2 c3]
          have rv : ∀ c, c ≠ 4 → ma_up f1 (36 + v) 4 x (36 + v) c = fc (36 + v) c := fun c hc => by rw [ma_up_at hc, a2 (36 + v) (by omega) (by omega)]
          have rm : ∀ a, a ≠ 91 → a ≠ 95 → ma_up (ma_up n1 95 (v + 8) x) 91 (v + 8) 1 a = n1 a := fun a c1 c2 => (ma_up_ne c1).trans (ma_up_ne c2)
          have hg : grow fc (ma_up f1 (36 + v) 4 x) := by
            refine ⟨(SC.st a2).up (by unfold dynC; omega), fun l hl _ => ?_, fun w hw hn => ?_⟩
            · rw [rf (28 + l) (by omega) (by omega) (by omega)]
              exact ⟨rfl, rfl, rfl⟩
            · have : w ≠ v := fun e => hn (by rw [e]; exact d1)
              rw [rf (36 + w) (by omega) (by omega) (by omega)]
          have eU : UB (ma_up f1 (36 + v) 4 x) = UB fc := by
            unfold UB nks
            rw [csum_eq 8 (fun i hi => by rw [rf (28 + i) (by omega) (by omega) (by omega)])]
          refine ⟨1, _, _, gn, eC, fun c7 n v1 => eM c7 n v1, a8, Or.inr ⟨rfl, ?_, hg, ?_, fun hst => ?_⟩⟩
          · rw [if_neg (by omega)]
            obtain ⟨D1, D2, D3, D4⟩ := hD.2.2.2
            refine ⟨hD.1.tr hg.1, (hD.2.1.tr a6.s).up (by unfold dynM; omega) |>.up (by unfold dynM; omega), by rw [rm 60 (by omega) (by omega)]; exact b3, fun l hl => ?_, fun w hw => ?_, fun l hl => ?_, fun l hl hlt => ?_⟩
            · unfold dSec
              rw [rf (28 + l) (by omega) (by omega) (by omega), eU, rm 77 (by omega) (by omega), rm 86 (by omega) (by omega), rm 87 (by omega) (by omega), rm 88 (by omega) (by omega), a6.1 77 (by omega), a6.1 86 (by omega), a6.1 87 (by omega), a6.1 88 (by omega)]
              exact D1 l hl
            · unfold dSym
              rw [eU]
              by_cases e : w = v
              · subst e
                refine Or.inr ⟨ma_up_self, ?_, by rw [ma_up_self]; exact hab⟩
                rw [ma_up_self, ma_up_ne (by omega), ma_up_self]
              · rw [rf (36 + w) (by omega) (by omega) (by omega), ma_up_at (by omega), show ma_up n1 95 (v + 8) x 91 = n1 91 from ma_up_ne (by omega), show ma_up (ma_up n1 95 (v + 8) x) 91 (v + 8) 1 95 (w + 8) = n1 95 (w + 8) by rw [ma_up_ne (by omega), ma_up_at (by omega)], a6.1 91 (by omega), a6.1 95 (by omega)]
                exact D2 w hw
            · unfold dIn
              rw [rf (16 + l) (by omega) (by omega) (by omega), rm 64 (by omega) (by omega), a6.1 64 (by omega)]
              exact D3 l hl
            · rw [rf (28 + l) (by omega) (by omega) (by omega)] at hlt
              have qo := D4 l hl hlt
              obtain ⟨-, sl, -⟩ := hS.2.2.2.2.1.1 l hl hlt
              obtain ⟨l1, l2, l3, l4, l5⟩ := sl
              unfold own at *
              rw [rf (28 + l) (by omega) (by omega) (by omega), rf 9 (by omega) (by omega) (by omega), rf 10 (by omega) (by omega) (by omega)]
              refine ⟨fun hn j c1 c2 c3 c4 => ?_, fun hn j c1 c2 c3 c4 => ?_, qo.2.2⟩
              · have h10 := ((hS.2.2.1.2.1 j (by omega)).2 c3).2
                have hne2 : (fc 10 j).toNat ≠ v := fun e => by rw [e] at h10; omega
                rw [rf (36 + (fc 10 j).toNat) (by omega) (by omega) (by omega)]
                exact qo.1 hn j c1 c2 c3 c4
              · rw [rf (16 + (fc 10 j).toNat) (by omega) (by omega) (by omega)]
                exact qo.2.1 hn j c1 c2 c3 c4
          · refine csum_lt (j := v) 18 (fun i hi => hg.kny i hi) hv ?_
            show kn (fc (36 + v) 4) + 1 ≤ kn (ma_up f1 (36 + v) 4 x (36 + v) 4)
            rw [ma_up_self, d1]
            unfold kn
            rw [if_pos rfl, if_neg hne]
            omega
          · refine stuck_grow hS hD.2.2.2 hg (fun l hl _ hn _ _ => by rw [rf (28 + l) (by omega) (by omega) (by omega)]; exact hn) (fun w hw hn h1 hev => ?_) hst
            by_cases e : w = v
            · subst e
              rw [hs] at hev
              cases hev
            · rw [rf (36 + w) (by omega) (by omega) (by omega)]
              exact hn
        · have hN : xcode (evx fc (fc (36 + v) 2) (fc (36 + v) 3)) = NY := by rw [hs]; rfl
          refine ⟨0, f1, _, gn, none4 hN, fun c7 n v1 => eM c7 n v1, a8, Or.inl ⟨rfl, a2, Or.inl ?_⟩⟩
          rw [if_pos (a10 hs).1, ma_up_id r91]
          exact a6.dy (same.dy hD a2) (a10 hs).2
        · have hN : xcode (evx fc (fc (36 + v) 2) (fc (36 + v) 3)) = NY := by rw [hs]; rfl
          refine ⟨0, f1, _, gn, none4 hN, fun c7 n v1 => eM c7 n v1, a8, Or.inl ⟨rfl, a2, Or.inr ⟨?_, Or.inr ⟨v, hv, by rw [s1]; exact t, d1, q1, hs⟩⟩⟩⟩
          have hF := a6.F hD.2.2.2.F
          rcases a7 with p | p
          · rw [if_pos p, ma_up_id r91]
            exact ⟨hD.2.1.tr a6.s, a11 hs, hF, Or.inl p⟩
          · rw [if_neg (by omega)]
            refine ⟨((hD.2.1.tr a6.s).up (by unfold dynM; omega)).up (by unfold dynM; omega), by rw [ma_up_ne (by omega), ma_up_ne (by omega)]; exact a11 hs, ⟨fun l hl => ?_, fun w h8 hw => ?_⟩, by rw [ma_up_ne (by omega), ma_up_ne (by omega)]; exact Or.inr p⟩
            · rw [ma_up_ne (by omega), ma_up_ne (by omega)]
              exact hF.1 l hl
            · by_cases e : w = v + 8
              · subst e
                rw [ma_up_self]
                exact Or.inr rfl
              · rw [ma_up_at e, ma_up_ne (by omega)]
                exact hF.2 w h8 hw
      · -- known
        refine ⟨0, fc, fm, g', ?_, fun c7 n v1 => m_sym_skip hv (Or.inr (Or.inl ⟨t, d1⟩)), fun _ _ => rfl, Or.inl ⟨rfl, same.rf _, Or.inl hD⟩⟩
        have hbn := ab_bnd d3
        unfold p_Reckoner_reckonSymbol p_Reckoner_reckonSymbol_16
        rw [if_pos i1, if_neg (sw1 q1), if_neg (show ¬ q_sw (fc (36 + v) 4) = q_sw (-1000000000) by
          have := bnd_ny hbn
          unfold bnd at hbn
          rw [NY_sw, q_swn (by omega)]
          exact this)]
end SY
