/-! ===== signs and raises in the reference's expression; the whole of it ===== -/
section ML
variable {f g : q_F}
def uns (f g : q_F) (m : Nat) : Int := if f 60 21 = 0 ∧ ¬ q_sw (q_lcmp (g 72 m) (-100000)) < 0 ∧ q_sw (q_lcmp (g 72 m) 100000) ≤ 0 then 0 else 1
theorem uns01 {m : Nat} : uns f g m = 0 ∨ uns f g m = 1 := by
  unfold uns
  split
  · exact Or.inl rfl
  · exact Or.inr rfl
theorem m_329 {c : Int → Int → Int → q_F → q_F → Option (Int × q_F × q_F)} {a m : Nat} {b : Int} (ha : a < 160) (hK : f 70 a = 5 ∨ f 70 a = 6 ∨ f 70 a = 7) (kn : f 60 20 = 1) (hu : f 60 21 = 0 ∨ f 60 21 = 1) (hm : m < 160) : p_Mod_reckon_329 c b (m + 1 : Nat) a f g = c b (m + 1 : Nat) (a + 1 : Nat) (ma_up f 60 21 (uns f g m)) g := by
  have e390 : ∀ s : Int, (s = 0 ∨ s = 1) → p_Mod_reckon_390 c b (m + 1 : Nat) a s f g = c b (m + 1 : Nat) (a + 1 : Nat) (ma_up f 60 21 s) g := fun s hs => by
    unfold p_Mod_reckon_390 p_Mod_reckon_393
    rw [if_pos hs]
    rfl
  have em : (((m + 1 : Nat) : Int) - 1).toNat = m := by omega
  unfold p_Mod_reckon_329 p_Mod_reckon_385
  rw [if_pos (by omega), if_neg (show ¬ q_sw (f 70 ((a : Nat) : Int).toNat) ≤ q_sw 4 by rw [Int.toNat_natCast, q_swn (by omega), q_swn (by omega)]; omega), if_neg (sw1 kn)]
  rcases hu with hu | hu
  · rw [if_pos (sw0 hu), if_pos (by omega), em]
    by_cases h1 : q_sw (q_lcmp (g 72 m) (-100000)) < 0
    · rw [if_pos h1, e390 1 (Or.inr rfl)]
      unfold uns
      rw [if_neg (fun q => q.2.1 h1)]
    · rw [if_neg h1, if_pos (by omega)]
      by_cases h2 : q_sw (q_lcmp (g 72 m) 100000) ≤ 0
      · rw [if_pos h2, e390 0 (Or.inl rfl)]
        unfold uns
        rw [if_pos ⟨hu, h1, h2⟩]
      · rw [if_neg h2, e390 1 (Or.inr rfl)]
        unfold uns
        rw [if_neg (fun q => h2 q.2.2)]
  · rw [if_neg (sw1 hu), e390 1 (Or.inr rfl)]
    unfold uns
    rw [if_neg (fun q => by have := q.1; omega)]
theorem m_to189 {n a : Nat} {b h : Int} (hb : (a : Int) < b) (hb2 : b ≤ 160) (kn : f 60 20 = 1) (hK : f 70 a = 5 ∨ f 70 a = 6 ∨ f 70 a = 7) : p_Mod_reckon_10 (n + 1) b h a f g = p_Mod_reckon_189 (p_Mod_reckon_10 n) b h a (f 71 a) f g := by
  have row : q_sw (f 70 ((a : Nat) : Int).toNat) = f 70 a := by rw [Int.toNat_natCast, q_swn (by omega)]
  have sw : ∀ z : Int, 0 ≤ z ∧ z ≤ 200 → q_sw z = z := fun z hz => q_swn (by omega)
  have i1 : 0 ≤ (a : Int) ∧ (a : Int) < 160 := by omega
  rw [p_Mod_reckon_10, q_swn (show -2147483648 ≤ b ∧ b ≤ 2147483647 by omega), q_swn (show -2147483648 ≤ (a : Int) ∧ (a : Int) ≤ 2147483647 by omega), if_neg (by omega), if_neg (sw1 kn), if_pos i1]
  dsimp only [q_let]
  rw [if_pos i1, if_neg (show ¬ q_sw (f 70 ((a : Nat) : Int).toNat) = 0 by rw [row]; omega)]
  unfold p_Mod_reckon_51 p_Mod_reckon_82 p_Mod_reckon_113 p_Mod_reckon_144 p_Mod_reckon_175
  rw [if_pos i1, if_neg (show ¬ q_sw (f 70 ((a : Nat) : Int).toNat) = q_sw 1 by rw [row, sw 1 (by omega)]; omega), if_pos i1, if_neg (show ¬ q_sw (f 70 ((a : Nat) : Int).toNat) = q_sw 2 by rw [row, sw 2 (by omega)]; omega), if_pos i1, if_neg (show ¬ q_sw (f 70 ((a : Nat) : Int).toNat) = q_sw 3 by rw [row, sw 3 (by omega)]; omega), if_pos i1, if_neg (show ¬ q_sw (f 70 ((a : Nat) : Int).toNat) = q_sw 4 by rw [row, sw 4 (by omega)]; omega), if_pos i1, if_pos (show q_sw 5 ≤ q_sw (f 70 ((a : Nat) : Int).toNat) by rw [row, sw 5 (by omega)]; omega), Int.toNat_natCast]
theorem r_bin {n a m : Nat} {b : Int} (hb : (a : Int) < b) (hb2 : b ≤ 160) (kn : f 60 20 = 1) (hK : f 70 a = 5 ∨ f 70 a = 6) (hm : m + 1 < 160) (hu : f 60 21 = 0 ∨ f 60 21 = 1) (z : Int) (hz : z = if f 70 a = 5 then g 72 m + g 72 (m + 1) else g 72 m - g 72 (m + 1)) : p_Mod_reckon_10 (n + 1) b (m + 2 : Nat) a f g = p_Mod_reckon_10 n b (m + 1 : Nat) (a + 1 : Nat) (ma_up f 60 21 (uns f (ma_up g 72 m z) m)) (ma_up g 72 m z) := by
  have row : q_sw (f 70 ((a : Nat) : Int).toNat) = f 70 a := by rw [Int.toNat_natCast, q_swn (by omega)]
  have sw : ∀ z : Int, 0 ≤ z ∧ z ≤ 200 → q_sw z = z := fun z hz => q_swn (by omega)
  have i1 : 0 ≤ (a : Int) ∧ (a : Int) < 160 := by omega
  rw [m_to189 hb hb2 kn (by omega)]
  have e266 : p_Mod_reckon_266 (p_Mod_reckon_10 n) b (m + 1 : Nat) a (f 71 a) z (m : Nat) f g = p_Mod_reckon_10 n b (m + 1 : Nat) (a + 1 : Nat) (ma_up f 60 21 (uns f (ma_up g 72 m z) m)) (ma_up g 72 m z) := by
    unfold p_Mod_reckon_266 p_Mod_reckon_267
    rw [if_pos (by omega)]
    dsimp only [q_let]
    rw [if_pos i1, if_neg (show ¬ q_sw (f 70 ((a : Nat) : Int).toNat) = q_sw 7 by rw [row, sw 7 (by omega)]; omega), Int.toNat_natCast, m_329 (by omega) (by omega) kn hu (by omega)]
  have e212 : p_Mod_reckon_212 (p_Mod_reckon_10 n) b (m + 2 : Nat) a (f 71 a) f g = p_Mod_reckon_10 n b (m + 1 : Nat) (a + 1 : Nat) (ma_up f 60 21 (uns f (ma_up g 72 m z) m)) (ma_up g 72 m z) := by
    rw [← e266]
    unfold p_Mod_reckon_212
    dsimp only [q_let]
    have z1 : ((m + 2 : Nat) : Int) + (-1) = (m + 1 : Nat) := by omega
    have z2 : (((m + 1 : Nat) : Int) - 1) = (m : Nat) := by omega
    rw [z1, z2, if_pos i1, if_pos (show 0 ≤ ((m : Nat) : Int) ∧ ((m : Nat) : Int) < 160 by omega), if_pos (show 0 ≤ ((m + 1 : Nat) : Int) ∧ ((m + 1 : Nat) : Int) < 160 by omega), if_pos (show 0 ≤ ((m : Nat) : Int) ∧ ((m : Nat) : Int) < 160 by omega), if_pos (show 0 ≤ ((m + 1 : Nat) : Int) ∧ ((m + 1 : Nat) : Int) < 160 by omega), show ((m : Nat) : Int).toNat = m from Int.toNat_natCast m, show ((m + 1 : Nat) : Int).toNat = m + 1 from Int.toNat_natCast (m + 1), hz]
    by_cases e5 : f 70 a = 5
    · rw [if_pos (show q_sw (f 70 ((a : Nat) : Int).toNat) = q_sw 5 by rw [row, sw 5 (by omega)]; exact e5), if_pos e5]
    · rw [if_neg (show ¬ q_sw (f 70 ((a : Nat) : Int).toNat) = q_sw 5 by rw [row, sw 5 (by omega)]; exact e5), if_neg e5]
  unfold p_Mod_reckon_189
  rw [if_pos i1, if_pos i1]
  by_cases e5 : f 70 a = 5
  · rw [if_pos (show q_sw (f 70 ((a : Nat) : Int).toNat) = q_sw 5 by rw [row, sw 5 (by omega)]; exact e5), e212]
  · rw [if_neg (show ¬ q_sw (f 70 ((a : Nat) : Int).toNat) = q_sw 5 by rw [row, sw 5 (by omega)]; exact e5), if_pos (show q_sw (f 70 ((a : Nat) : Int).toNat) = q_sw 6 by rw [row, sw 6 (by omega)]; omega), e212]
def un7 (f g : q_F) (m : Nat) : Int := if f 60 21 = 0 ∧ 0 ≤ q_sw (q_lcmp (g 72 m) 0) then 0 else 1
theorem r_rai {n a m : Nat} {b y : Int} (hb : (a : Int) < b) (hb2 : b ≤ 160) (kn : f 60 20 = 1) (hK : f 70 a = 7) (hm : m < 160) (hu : f 60 21 = 0 ∨ f 60 21 = 1) (hy : p_Mod_raised (g 72 m) (f 71 a) (ma_up f 60 21 (un7 f g m)) g = some (y, ma_up f 60 21 (un7 f g m), g)) : p_Mod_reckon_10 (n + 1) b (m + 1 : Nat) a f g = p_Mod_reckon_10 n b (m + 1 : Nat) (a + 1 : Nat) (ma_up (ma_up f 60 21 (un7 f g m)) 60 21 (uns (ma_up f 60 21 (un7 f g m)) (ma_up g 72 m y) m)) (ma_up g 72 m y) := by
  have row : q_sw (f 70 ((a : Nat) : Int).toNat) = f 70 a := by rw [Int.toNat_natCast, q_swn (by omega)]
  have sw : ∀ z : Int, 0 ≤ z ∧ z ≤ 200 → q_sw z = z := fun z hz => q_swn (by omega)
  have i1 : 0 ≤ (a : Int) ∧ (a : Int) < 160 := by omega
  have em : (((m + 1 : Nat) : Int) - 1) = (m : Nat) := by omega
  have im : 0 ≤ ((m : Nat) : Int) ∧ ((m : Nat) : Int) < 160 := by omega
  rw [m_to189 hb hb2 kn (by omega)]
  have e305 : p_Mod_reckon_305 (p_Mod_reckon_10 n) b (m + 1 : Nat) a (f 71 a) (un7 f g m) f g = p_Mod_reckon_10 n b (m + 1 : Nat) (a + 1 : Nat) (ma_up (ma_up f 60 21 (un7 f g m)) 60 21 (uns (ma_up f 60 21 (un7 f g m)) (ma_up g 72 m y) m)) (ma_up g 72 m y) := by
    have q01 : un7 f g m = 0 ∨ un7 f g m = 1 := by
      unfold un7
      split
      · exact Or.inl rfl
      · exact Or.inr rfl
    have u70 : ma_up f 60 21 (un7 f g m) 70 = f 70 := ma_up_ne (by omega)
    unfold p_Mod_reckon_305
    rw [if_pos q01]
    dsimp only [q_let]
    rw [em, if_pos im, Int.toNat_natCast, hy, Option.bind_some, if_pos im]
    dsimp only
    exact m_329 (f := ma_up f 60 21 (un7 f g m)) (by omega) (by rw [u70]; omega) (by rw [ma_up_at (by omega)]; exact kn) (by rw [ma_up_self]; exact q01) hm
  unfold p_Mod_reckon_189 p_Mod_reckon_267 p_Mod_reckon_300
  rw [if_pos i1, if_neg (show ¬ q_sw (f 70 ((a : Nat) : Int).toNat) = q_sw 5 by rw [row, sw 5 (by omega)]; omega), if_pos i1, if_neg (show ¬ q_sw (f 70 ((a : Nat) : Int).toNat) = q_sw 6 by rw [row, sw 6 (by omega)]; omega), if_pos i1, if_pos (show q_sw (f 70 ((a : Nat) : Int).toNat) = q_sw 7 by rw [row, sw 7 (by omega)]; omega), em, if_pos im, Int.toNat_natCast, ← e305]
  unfold un7
  rcases hu with hu | hu
  · rw [if_pos (sw0 hu)]
    by_cases h0 : 0 ≤ q_sw (q_lcmp (g 72 m) 0)
    · rw [if_pos h0, if_pos ⟨hu, h0⟩]
    · rw [if_neg h0, if_neg (fun q => h0 q.2)]
  · rw [if_neg (sw1 hu), if_neg (fun q => by have := q.1; omega)]
end ML
