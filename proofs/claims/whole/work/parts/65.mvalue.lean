/-! ===== the reference reckons an expression ===== -/
section MV
variable {f g : q_F}
theorem m_push {h : Nat} {c z : Int} (hh : h < 160) (kn : f 60 20 = 1) (hc : c = 0 ∨ c = 1) : p_Mod_push h c z f g = some (ma_up f 60 20 c, ma_up g 72 h z) := by
  have e17 : ∀ s : Int, (s = 0 ∨ s = 1) → p_Mod_push_17 h z s f g = some (ma_up f 60 20 s, ma_up g 72 h z) := fun s hs => by
    unfold p_Mod_push_17
    rw [if_pos hs]
    dsimp only [q_let]
    rw [if_pos (by omega), Int.toNat_natCast]
  unfold p_Mod_push p_Mod_push_16
  rw [if_neg (sw1 kn)]
  rcases hc with rfl | rfl
  · rw [if_pos (sw0 rfl), e17 0 (Or.inl rfl)]
  · rw [if_neg (sw1 rfl), e17 1 (Or.inr rfl)]
/-- flag and value that the reference reads for a step -/
def mrd (f : q_F) (k V : Int) : Int × Int := if k = 0 then (1, V) else if k = 1 then (f 91 V.toNat, f 95 V.toNat) else if k = 2 then (f 77 V.toNat, f 86 V.toNat) else if k = 3 then (f 77 V.toNat, f 88 V.toNat) else (f 77 V.toNat, f 87 V.toNat)
def mF (f : q_F) : Prop := (∀ k : Nat, k < 8 → f 77 k = 0 ∨ f 77 k = 1) ∧ ∀ v : Nat, 8 ≤ v → v < 26 → f 91 v = 0 ∨ f 91 v = 1
theorem r_push {n a h : Nat} {b k v V : Int} (hb : (a : Int) < b) (hb2 : b ≤ 160) (kn : f 60 20 = 1) (hK : f 70 a = k) (hV : f 71 a = V) (hs : stepok k v V) (hk : k ≤ 4) (hh : h < 160) (hF : mF f) : p_Mod_reckon_10 (n + 1) b h a f g = p_Mod_reckon_10 n b (h + 1 : Nat) (a + 1 : Nat) (ma_up f 60 20 (mrd f k V).1) (ma_up g 72 h (q_sw (mrd f k V).2)) ∧ ((mrd f k V).1 = 0 ∨ (mrd f k V).1 = 1) := by
  have hs' := hs
  unfold stepok at hs'
  have c01 : (mrd f k V).1 = 0 ∨ (mrd f k V).1 = 1 := by
    unfold mrd
    by_cases e0 : k = 0
    · rw [if_pos e0]; exact Or.inr rfl
    · rw [if_neg e0]
      by_cases e1 : k = 1
      · rw [if_pos e1]; exact hF.2 _ (by omega) (by omega)
      · rw [if_neg e1]
        by_cases e2 : k = 2
        · rw [if_pos e2]; exact hF.1 _ (by omega)
        · rw [if_neg e2]
          by_cases e3 : k = 3
          · rw [if_pos e3]; exact hF.1 _ (by omega)
          · rw [if_neg e3]; exact hF.1 _ (by omega)
  refine ⟨?_, c01⟩
  have row : ∀ (f' : q_F), f' 70 = f 70 → q_sw (f' 70 ((a : Nat) : Int).toNat) = k := fun f' e => by
    rw [e, Int.toNat_natCast, hK, q_swn (by omega)]
  have r0 : q_sw 0 = 0 := q_sw0
  have sw : ∀ z : Int, 0 ≤ z ∧ z ≤ 200 → q_sw z = z := fun z hz => q_swn (by omega)
  have end1 : ∀ (f' g' : q_F), f' 70 = f 70 → p_Mod_reckon_175 (p_Mod_reckon_10 n) b h a V f' g' = p_Mod_reckon_10 n b (h + 1 : Nat) (a + 1 : Nat) f' g' := fun f' g' e => by
    unfold p_Mod_reckon_175 p_Mod_reckon_189 p_Mod_reckon_267 p_Mod_reckon_329 p_Mod_reckon_393
    dsimp only [q_let]
    rw [if_pos (show 0 ≤ (a : Int) ∧ (a : Int) < 160 by omega), if_neg (show ¬ q_sw 5 ≤ q_sw (f' 70 ((a : Nat) : Int).toNat) by rw [row f' e, sw 5 (by omega)]; omega), if_pos (show 0 ≤ (a : Int) ∧ (a : Int) < 160 by omega), if_neg (show ¬ q_sw (f' 70 ((a : Nat) : Int).toNat) = q_sw 5 by rw [row f' e, sw 5 (by omega)]; omega), if_pos (show 0 ≤ (a : Int) ∧ (a : Int) < 160 by omega), if_neg (show ¬ q_sw (f' 70 ((a : Nat) : Int).toNat) = q_sw 6 by rw [row f' e, sw 6 (by omega)]; omega), if_pos (show 0 ≤ (a : Int) ∧ (a : Int) < 160 by omega), if_neg (show ¬ q_sw (f' 70 ((a : Nat) : Int).toNat) = q_sw 7 by rw [row f' e, sw 7 (by omega)]; omega), if_pos (show 0 ≤ (a : Int) ∧ (a : Int) < 160 by omega), if_pos (show q_sw (f' 70 ((a : Nat) : Int).toNat) ≤ q_sw 4 by rw [row f' e, sw 4 (by omega)]; omega)]
    rfl
  have skip : ∀ (f' g' : q_F), f' 70 = f 70 → (k ≠ 4 → p_Mod_reckon_144 (p_Mod_reckon_10 n) b h a V f' g' = p_Mod_reckon_10 n b (h + 1 : Nat) (a + 1 : Nat) f' g') ∧ (k ≠ 3 → k ≠ 4 → p_Mod_reckon_113 (p_Mod_reckon_10 n) b h a V f' g' = p_Mod_reckon_10 n b (h + 1 : Nat) (a + 1 : Nat) f' g') ∧ (k ≠ 2 → k ≠ 3 → k ≠ 4 → p_Mod_reckon_82 (p_Mod_reckon_10 n) b h a V f' g' = p_Mod_reckon_10 n b (h + 1 : Nat) (a + 1 : Nat) f' g') ∧ (k ≠ 1 → k ≠ 2 → k ≠ 3 → k ≠ 4 → p_Mod_reckon_51 (p_Mod_reckon_10 n) b h a V f' g' = p_Mod_reckon_10 n b (h + 1 : Nat) (a + 1 : Nat) f' g') := fun f' g' e => by
    have q4 : k ≠ 4 → p_Mod_reckon_144 (p_Mod_reckon_10 n) b h a V f' g' = p_Mod_reckon_10 n b (h + 1 : Nat) (a + 1 : Nat) f' g' := fun n4 => by
      unfold p_Mod_reckon_144
      rw [if_pos (show 0 ≤ (a : Int) ∧ (a : Int) < 160 by omega), if_neg (show ¬ q_sw (f' 70 ((a : Nat) : Int).toNat) = q_sw 4 by rw [row f' e, sw 4 (by omega)]; omega), end1 f' g' e]
    have q3 : k ≠ 3 → k ≠ 4 → p_Mod_reckon_113 (p_Mod_reckon_10 n) b h a V f' g' = p_Mod_reckon_10 n b (h + 1 : Nat) (a + 1 : Nat) f' g' := fun n3 n4 => by
      unfold p_Mod_reckon_113
      rw [if_pos (show 0 ≤ (a : Int) ∧ (a : Int) < 160 by omega), if_neg (show ¬ q_sw (f' 70 ((a : Nat) : Int).toNat) = q_sw 3 by rw [row f' e, sw 3 (by omega)]; omega), q4 n4]
    have q2 : k ≠ 2 → k ≠ 3 → k ≠ 4 → p_Mod_reckon_82 (p_Mod_reckon_10 n) b h a V f' g' = p_Mod_reckon_10 n b (h + 1 : Nat) (a + 1 : Nat) f' g' := fun n2 n3 n4 => by
      unfold p_Mod_reckon_82
      rw [if_pos (show 0 ≤ (a : Int) ∧ (a : Int) < 160 by omega), if_neg (show ¬ q_sw (f' 70 ((a : Nat) : Int).toNat) = q_sw 2 by rw [row f' e, sw 2 (by omega)]; omega), q3 n3 n4]
    refine ⟨q4, q3, q2, fun n1 n2 n3 n4 => ?_⟩
    unfold p_Mod_reckon_51
    rw [if_pos (show 0 ≤ (a : Int) ∧ (a : Int) < 160 by omega), if_neg (show ¬ q_sw (f' 70 ((a : Nat) : Int).toNat) = q_sw 1 by rw [row f' e, sw 1 (by omega)]; omega), q2 n2 n3 n4]
  rw [p_Mod_reckon_10, q_swn (show -2147483648 ≤ b ∧ b ≤ 2147483647 by omega), q_swn (show -2147483648 ≤ (a : Int) ∧ (a : Int) ≤ 2147483647 by omega), if_neg (by omega), if_neg (sw1 kn), if_pos (show 0 ≤ (a : Int) ∧ (a : Int) < 160 by omega)]
  dsimp only [q_let]
  rw [if_pos (show 0 ≤ (a : Int) ∧ (a : Int) < 160 by omega), show f 71 ((a : Nat) : Int).toNat = V by rw [Int.toNat_natCast]; exact hV]
  have u70 : ∀ c, ma_up f 60 20 c 70 = f 70 := fun c => ma_up_ne (by omega)
  by_cases e0 : k = 0
  · rw [if_pos (show q_sw (f 70 ((a : Nat) : Int).toNat) = 0 by rw [row f rfl]; exact e0), m_push hh kn (Or.inr rfl), Option.bind_some]
    dsimp only
    rw [(skip _ _ (u70 _)).2.2.2 (by omega) (by omega) (by omega) (by omega)]
    unfold mrd
    rw [if_pos e0]
  · rw [if_neg (show ¬ q_sw (f 70 ((a : Nat) : Int).toNat) = 0 by rw [row f rfl]; exact e0)]
    by_cases e1 : k = 1
    · unfold p_Mod_reckon_51
      unfold mrd at c01 ⊢
      rw [if_neg e0, if_pos e1] at c01 ⊢
      rw [if_pos (show 0 ≤ (a : Int) ∧ (a : Int) < 160 by omega), if_pos (show q_sw (f 70 ((a : Nat) : Int).toNat) = q_sw 1 by rw [row f rfl, sw 1 (by omega)]; exact e1), if_pos (by omega), if_pos (by omega), m_push hh kn c01, Option.bind_some]
      dsimp only
      rw [(skip _ _ (u70 _)).2.2.1 (by omega) (by omega) (by omega)]
    · by_cases e2 : k = 2
      · unfold p_Mod_reckon_51 p_Mod_reckon_82
        unfold mrd at c01 ⊢
        rw [if_neg e0, if_neg e1, if_pos e2] at c01 ⊢
        rw [if_pos (show 0 ≤ (a : Int) ∧ (a : Int) < 160 by omega), if_neg (show ¬ q_sw (f 70 ((a : Nat) : Int).toNat) = q_sw 1 by rw [row f rfl, sw 1 (by omega)]; exact e1), if_pos (show 0 ≤ (a : Int) ∧ (a : Int) < 160 by omega), if_pos (show q_sw (f 70 ((a : Nat) : Int).toNat) = q_sw 2 by rw [row f rfl, sw 2 (by omega)]; exact e2), if_pos (by omega), if_pos (by omega), m_push hh kn c01, Option.bind_some]
        dsimp only
        rw [(skip _ _ (u70 _)).2.1 (by omega) (by omega)]
      · by_cases e3 : k = 3
        · unfold p_Mod_reckon_51 p_Mod_reckon_82 p_Mod_reckon_113
          unfold mrd at c01 ⊢
          rw [if_neg e0, if_neg e1, if_neg e2, if_pos e3] at c01 ⊢
          rw [if_pos (show 0 ≤ (a : Int) ∧ (a : Int) < 160 by omega), if_neg (show ¬ q_sw (f 70 ((a : Nat) : Int).toNat) = q_sw 1 by rw [row f rfl, sw 1 (by omega)]; exact e1), if_pos (show 0 ≤ (a : Int) ∧ (a : Int) < 160 by omega), if_neg (show ¬ q_sw (f 70 ((a : Nat) : Int).toNat) = q_sw 2 by rw [row f rfl, sw 2 (by omega)]; exact e2), if_pos (show 0 ≤ (a : Int) ∧ (a : Int) < 160 by omega), if_pos (show q_sw (f 70 ((a : Nat) : Int).toNat) = q_sw 3 by rw [row f rfl, sw 3 (by omega)]; exact e3), if_pos (by omega), if_pos (by omega), m_push hh kn c01, Option.bind_some]
          dsimp only
          rw [(skip _ _ (u70 _)).1 (by omega)]
        · have e4 : k = 4 := by omega
          unfold p_Mod_reckon_51 p_Mod_reckon_82 p_Mod_reckon_113 p_Mod_reckon_144
          unfold mrd at c01 ⊢
          rw [if_neg e0, if_neg e1, if_neg e2, if_neg e3] at c01 ⊢
          rw [if_pos (show 0 ≤ (a : Int) ∧ (a : Int) < 160 by omega), if_neg (show ¬ q_sw (f 70 ((a : Nat) : Int).toNat) = q_sw 1 by rw [row f rfl, sw 1 (by omega)]; exact e1), if_pos (show 0 ≤ (a : Int) ∧ (a : Int) < 160 by omega), if_neg (show ¬ q_sw (f 70 ((a : Nat) : Int).toNat) = q_sw 2 by rw [row f rfl, sw 2 (by omega)]; exact e2), if_pos (show 0 ≤ (a : Int) ∧ (a : Int) < 160 by omega), if_neg (show ¬ q_sw (f 70 ((a : Nat) : Int).toNat) = q_sw 3 by rw [row f rfl, sw 3 (by omega)]; exact e3), if_pos (show 0 ≤ (a : Int) ∧ (a : Int) < 160 by omega), if_pos (show q_sw (f 70 ((a : Nat) : Int).toNat) = q_sw 4 by rw [row f rfl, sw 4 (by omega)]; exact e4), if_pos (by omega), if_pos (by omega), m_push hh kn c01, Option.bind_some]
          dsimp only
          rw [end1 _ _ (u70 _)]
end MV
