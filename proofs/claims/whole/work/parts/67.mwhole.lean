/-! ===== the reference's expression as a whole ===== -/
section MW
def MR (f fn : q_F) : Prop := (∀ a, a ≠ 60 → fn a = f a) ∧ ∀ k, k ≠ 20 → k ≠ 21 → fn 60 k = f 60 k
theorem MR.rf (f : q_F) : MR f f := ⟨fun _ _ => rfl, fun _ _ _ => rfl⟩
theorem MR.tr {f1 f2 f3 : q_F} (h1 : MR f1 f2) (h2 : MR f2 f3) : MR f1 f3 := ⟨fun a h => (h2.1 a h).trans (h1.1 a h), fun k a b => (h2.2 k a b).trans (h1.2 k a b)⟩
theorem MR.u20 (f : q_F) (c : Int) : MR f (ma_up f 60 20 c) := ⟨fun a h => ma_up_ne h, fun k a _ => ma_up_at a⟩
theorem MR.u21 (f : q_F) (c : Int) : MR f (ma_up f 60 21 c) := ⟨fun a h => ma_up_ne h, fun k _ a => ma_up_at a⟩
theorem MR.F {f fn : q_F} (h : MR f fn) (hF : mF f) : mF fn := by
  unfold mF at *
  rw [h.1 77 (by omega), h.1 91 (by omega)]
  exact hF
theorem m_399 {n : Nat} {b h a : Int} {f g : q_F} (q : q_sw b ≤ q_sw a ∨ f 60 20 = 0) : p_Mod_reckon_10 (n + 1) b h a f g = some (g 72 0, f, g) := by
  rw [p_Mod_reckon_10]
  unfold p_Mod_reckon_399
  rcases q with q | q
  · rw [if_pos q]
    rfl
  · rw [if_pos (sw0 q), ite_self]
    rfl
theorem m_total : ∀ (n a h : Nat) (f g : q_F) (fuel : Nat), n < fuel → (∀ j, a ≤ j → j < a + n → ∃ v, stepok (f 70 j) v (f 71 j)) → wfs (f 70) n a h 1 → h + n ≤ 160 → a + n ≤ 160 → (f 60 20 = 0 ∨ f 60 20 = 1) → (f 60 21 = 0 ∨ f 60 21 = 1) → mF f →
    ∃ w fn gn, p_Mod_reckon_10 fuel ((a + n : Nat) : Int) h a f g = some (w, fn, gn) ∧ MR f fn ∧ (f 60 21 = 1 → fn 60 21 = 1) ∧ (fn 60 20 = 0 ∨ fn 60 20 = 1) ∧ (fn 60 21 = 0 ∨ fn 60 21 = 1) ∧ ∀ b, b ≠ 72 → gn b = g b := by
  intro n
  induction n with
  | zero =>
    intro a h f g fuel hfu hs hwf hr ha hk hu hF
    obtain ⟨fuel, rfl⟩ : ∃ k, fuel = k + 1 := ⟨fuel - 1, by omega⟩
    exact ⟨_, f, g, m_399 (Or.inl (Int.le_refl _)), MR.rf f, id, hk, hu, fun _ _ => rfl⟩
  | succ n ih =>
    intro a h f g fuel hfu hs hwf hr ha hk hu hF
    obtain ⟨fuel, rfl⟩ : ∃ k, fuel = k + 1 := ⟨fuel - 1, by omega⟩
    rcases hk with hk | hk
    · exact ⟨_, f, g, m_399 (Or.inr hk), MR.rf f, id, Or.inl hk, hu, fun _ _ => rfl⟩
    · obtain ⟨v, hv⟩ := hs a (Nat.le_refl _) (by omega)
      have hb : ((a : Nat) : Int) < ((a + (n + 1) : Nat) : Int) := by omega
      have hb2 : ((a + (n + 1) : Nat) : Int) ≤ 160 := by omega
      have go : ∀ (h' : Nat) (f' g' : q_F), MR f f' → (f' 60 20 = 0 ∨ f' 60 20 = 1) → (f' 60 21 = 0 ∨ f' 60 21 = 1) → (f 60 21 = 1 → f' 60 21 = 1) → (∀ b, b ≠ 72 → g' b = g b) → wfs (f 70) n (a + 1) h' 1 → h' + n ≤ 160 → p_Mod_reckon_10 (fuel + 1) ((a + (n + 1) : Nat) : Int) h a f g = p_Mod_reckon_10 fuel ((a + (n + 1) : Nat) : Int) h' ((a + 1 : Nat) : Int) f' g' → ∃ w fn gn, p_Mod_reckon_10 (fuel + 1) ((a + (n + 1) : Nat) : Int) h a f g = some (w, fn, gn) ∧ MR f fn ∧ (f 60 21 = 1 → fn 60 21 = 1) ∧ (fn 60 20 = 0 ∨ fn 60 20 = 1) ∧ (fn 60 21 = 0 ∨ fn 60 21 = 1) ∧ ∀ b, b ≠ 72 → gn b = g b := by
        intro h' f' g' m1 m2 m3 m4 m5 m6 m7 m8
        have r70 : f' 70 = f 70 := m1.1 70 (by omega)
        have r71 : f' 71 = f 71 := m1.1 71 (by omega)
        obtain ⟨w, fn, gn, e1, e2, e3, e4, e5, e6⟩ := ih (a + 1) h' f' g' fuel (by omega) (fun j c1 c2 => by rw [r70, r71]; exact hs j (by omega) (by omega)) (by rw [r70]; exact m6) m7 (by omega) m2 m3 (m1.F hF)
        refine ⟨w, fn, gn, ?_, m1.tr e2, fun q => e3 (m4 q), e4, e5, fun b hb => (e6 b hb).trans (m5 b hb)⟩
        rw [m8, ← e1]
        congr 1
        omega
      have gup : ∀ i z, ∀ b, b ≠ 72 → ma_up g 72 i z b = g b := fun i z b hb => ma_up_ne hb
      have hv' := hv
      unfold stepok at hv'
      by_cases h4 : f 70 a ≤ 4
      · obtain ⟨e1, e2⟩ := r_push (n := fuel) (g := g) (h := h) hb hb2 hk rfl rfl hv h4 (by omega) hF
        refine go (h + 1) _ _ (MR.u20 _ _) (by rw [ma_up_self]; exact e2) (by rw [ma_up_at (by omega)]; exact hu) (fun q => by rw [ma_up_at (by omega)]; exact q) (gup _ _) ?_ (by omega) e1
        rcases hwf with p | p | p
        · exact p.2
        · omega
        · omega
      · by_cases h7 : f 70 a = 7
        · have hp : pw64 (f 71 a) := by
            rcases hv' with q | q | q | q | q <;> first | omega | exact (q.2.1 ▸ q.2.2)
          have hh : 1 ≤ (h : Int) ∧ wfs (f 70) n (a + 1) h 1 := by
            rcases hwf with p | p | p
            · omega
            · omega
            · exact p.2
          obtain ⟨m, rfl⟩ : ∃ m, h = m + 1 := ⟨h - 1, by omega⟩
          obtain ⟨y, hy⟩ := m_raiseT (f := ma_up f 60 21 (un7 f g m)) (g := g) (x := g 72 m) hp
          have e1 := r_rai (n := fuel) hb hb2 hk h7 (by omega) hu hy
          refine go (m + 1) _ _ ((MR.u21 _ _).tr (MR.u21 _ _)) ?_ (by rw [ma_up_self]; exact uns01) (fun q => ?_) (gup _ _) hh.2 (by omega) e1
          · rw [ma_up_at (by omega), ma_up_at (by omega)]
            exact Or.inr hk
          · rw [ma_up_self]
            unfold uns
            rw [ma_up_self]
            unfold un7
            rw [if_neg (fun p => by have := p.1; omega)]
        · have h56 : f 70 a = 5 ∨ f 70 a = 6 := by omega
          have hh : 2 ≤ (h : Int) ∧ wfs (f 70) n (a + 1) ((h : Int) - 1) 1 := by
            rcases hwf with p | p | p
            · omega
            · exact p.2
            · omega
          obtain ⟨m, rfl⟩ : ∃ m, h = m + 2 := ⟨h - 2, by omega⟩
          have e1 := r_bin (n := fuel) (g := g) (m := m) hb hb2 hk h56 (by omega) hu _ rfl
          refine go (m + 1) _ _ (MR.u21 _ _) ?_ (by rw [ma_up_self]; exact uns01) (fun q => ?_) (gup _ _) ?_ (by omega) e1
          · rw [ma_up_at (by omega)]
            exact Or.inr hk
          · rw [ma_up_self]
            unfold uns
            rw [if_neg (fun p => by have := p.1; omega)]
          · have := hh.2
            rw [show ((m + 2 : Nat) : Int) - 1 = ((m + 1 : Nat) : Int) by omega] at this
            exact this
theorem stk_at {F G : Nat → Int} : ∀ (st : List Int), (∀ i, i < st.length → G i = F i) → stk F st → stk G st
  | [], _, _ => trivial
  | x :: r, h, hs => ⟨by rw [h r.length (by simp)]; exact hs.1, stk_at r (fun i hi => h i (by simp; omega)) hs.2⟩
theorem m_val {V : Nat → Int} {w : Int → Int → Option Int} : ∀ (n a : Nat) (st : List Int) (f g : q_F) (fuel : Nat), n < fuel → (∀ j, a ≤ j → j < a + n → stepok (f 70 j) (V j) (f 71 j)) → wfs (f 70) n a (st.length : Nat) 1 → st.length + n ≤ 160 → a + n ≤ 160 → f 60 20 = 1 → f 60 21 = 0 → mF f → stk (g 72) st → bnds st → (∀ k v V, stepok k v V → 1 ≤ k → k ≤ 4 → (∃ z, w k v = some z ∧ mrd f k V = (1, z) ∧ bnd z) ∨ (w k v = none ∧ (mrd f k V).1 = 0)) →
    ∃ x fn gn, p_Mod_reckon_10 fuel ((a + n : Nat) : Int) (st.length : Nat) a f g = some (x, fn, gn) ∧ MR f fn ∧ (fn 60 20 = 0 ∨ fn 60 20 = 1) ∧ (∀ b, b ≠ 72 → gn b = g b) ∧ (∀ s, evl w (f 70) V n a st = some (some s) → x = xcode (evl w (f 70) V n a st) ∧ fn 60 20 = 1 ∧ fn 60 21 = 0) ∧ (evl w (f 70) V n a st = none → fn 60 20 = 0 ∧ fn 60 21 = 0) ∧ (evl w (f 70) V n a st = some none → fn 60 21 = 1) := by
  intro n
  induction n with
  | zero =>
    intro a st f g fuel hfu hs hwf hr ha hk hu hF hst hbs hw
    obtain ⟨fuel, rfl⟩ : ∃ k, fuel = k + 1 := ⟨fuel - 1, by omega⟩
    refine ⟨_, f, g, m_399 (Or.inl (Int.le_refl _)), MR.rf f, Or.inr hk, fun _ _ => rfl, fun s _ => ⟨?_, hk, hu⟩, fun q => (by cases q), fun q => (by cases q)⟩
    have h1 : (st.length : Int) = 1 := hwf
    cases st with
    | nil => simp at h1
    | cons x r =>
      cases r with
      | nil => exact hst.1
      | cons y r => simp at h1; omega
  | succ n ih =>
    intro a st f g fuel hfu hs hwf hr ha hk hu hF hst hbs hw
    obtain ⟨fuel, rfl⟩ : ∃ k, fuel = k + 1 := ⟨fuel - 1, by omega⟩
    have hv := hs a (Nat.le_refl _) (by omega)
    have hb : ((a : Nat) : Int) < ((a + (n + 1) : Nat) : Int) := by omega
    have hb2 : ((a + (n + 1) : Nat) : Int) ≤ 160 := by omega
    have go : ∀ (st' : List Int) (f' g' : q_F), MR f f' → f' 60 20 = 1 → f' 60 21 = 0 → (∀ b, b ≠ 72 → g' b = g b) → wfs (f 70) n (a + 1) (st'.length : Nat) 1 → st'.length + n ≤ 160 → stk (g' 72) st' → bnds st' → ev1 w (f 70 a) (V a) st = some (some st') → p_Mod_reckon_10 (fuel + 1) ((a + (n + 1) : Nat) : Int) (st.length : Nat) a f g = p_Mod_reckon_10 fuel ((a + (n + 1) : Nat) : Int) (st'.length : Nat) ((a + 1 : Nat) : Int) f' g' →
      ∃ x fn gn, p_Mod_reckon_10 (fuel + 1) ((a + (n + 1) : Nat) : Int) (st.length : Nat) a f g = some (x, fn, gn) ∧ MR f fn ∧ (fn 60 20 = 0 ∨ fn 60 20 = 1) ∧ (∀ b, b ≠ 72 → gn b = g b) ∧ (∀ s, evl w (f 70) V (n + 1) a st = some (some s) → x = xcode (evl w (f 70) V (n + 1) a st) ∧ fn 60 20 = 1 ∧ fn 60 21 = 0) ∧ (evl w (f 70) V (n + 1) a st = none → fn 60 20 = 0 ∧ fn 60 21 = 0) ∧ (evl w (f 70) V (n + 1) a st = some none → fn 60 21 = 1) := by
      intro st' f' g' m1 m2 m3 m5 m6 m7 m8 m9 m10 m11
      have r70 : f' 70 = f 70 := m1.1 70 (by omega)
      have r71 : f' 71 = f 71 := m1.1 71 (by omega)
      obtain ⟨x, fn, gn, e1, e2, e3, e4, e5, e6, e7⟩ := ih (a + 1) st' f' g' fuel (by omega) (fun j c1 c2 => by rw [r70, r71]; exact hs j (by omega) (by omega)) (by rw [r70]; exact m6) m7 (by omega) m2 m3 (m1.F hF) m8 m9 (fun k v V hkv c1 c2 => by
        have e : mrd f' k V = mrd f k V := by
          unfold mrd
          rw [m1.1 91 (by omega), m1.1 95 (by omega), m1.1 77 (by omega), m1.1 86 (by omega), m1.1 88 (by omega), m1.1 87 (by omega)]
        rw [e]
        exact hw k v V hkv c1 c2)
      rw [r70] at e5 e6 e7
      have ee : evl w (f 70) V (n + 1) a st = evl w (f 70) V n (a + 1) st' := by rw [evl, m10]
      rw [ee]
      refine ⟨x, fn, gn, ?_, m1.tr e2, e3, fun b hb => (e4 b hb).trans (m5 b hb), e5, e6, e7⟩
      rw [m11, ← e1]
      congr 1
      omega
    have bad : ∀ (h' : Nat) (f' g' : q_F), MR f f' → f' 60 20 = 1 → f' 60 21 = 1 → (∀ b, b ≠ 72 → g' b = g b) → wfs (f 70) n (a + 1) h' 1 → h' + n ≤ 160 → ev1 w (f 70 a) (V a) st = some none → p_Mod_reckon_10 (fuel + 1) ((a + (n + 1) : Nat) : Int) (st.length : Nat) a f g = p_Mod_reckon_10 fuel ((a + (n + 1) : Nat) : Int) h' ((a + 1 : Nat) : Int) f' g' →
      ∃ x fn gn, p_Mod_reckon_10 (fuel + 1) ((a + (n + 1) : Nat) : Int) (st.length : Nat) a f g = some (x, fn, gn) ∧ MR f fn ∧ (fn 60 20 = 0 ∨ fn 60 20 = 1) ∧ (∀ b, b ≠ 72 → gn b = g b) ∧ (∀ s, evl w (f 70) V (n + 1) a st = some (some s) → x = xcode (evl w (f 70) V (n + 1) a st) ∧ fn 60 20 = 1 ∧ fn 60 21 = 0) ∧ (evl w (f 70) V (n + 1) a st = none → fn 60 20 = 0 ∧ fn 60 21 = 0) ∧ (evl w (f 70) V (n + 1) a st = some none → fn 60 21 = 1) := by
      intro h' f' g' m1 m2 m3 m5 m6 m7 m10 m11
      have r70 : f' 70 = f 70 := m1.1 70 (by omega)
      have r71 : f' 71 = f 71 := m1.1 71 (by omega)
      obtain ⟨x, fn, gn, e1, e2, e3, e4, e5, e6⟩ := m_total n (a + 1) h' f' g' fuel (by omega) (fun j c1 c2 => by rw [r70, r71]; exact ⟨V j, hs j (by omega) (by omega)⟩) (by rw [r70]; exact m6) m7 (by omega) (Or.inr m2) (Or.inr m3) (m1.F hF)
      have ee : evl w (f 70) V (n + 1) a st = some none := by rw [evl, m10]
      rw [ee]
      refine ⟨x, fn, gn, ?_, m1.tr e2, e4, fun b hb => (e6 b hb).trans (m5 b hb), fun s q => (by cases q), fun q => (by cases q), fun _ => e3 m3⟩
      rw [m11, ← e1]
      congr 1
      omega
    have gup : ∀ i z, ∀ b, b ≠ 72 → ma_up g 72 i z b = g b := fun i z b hb => ma_up_ne hb
    have hv' := hv
    unfold stepok at hv'
    by_cases h4 : f 70 a ≤ 4
    · obtain ⟨e1, e2⟩ := r_push (n := fuel) (g := g) (h := st.length) hb hb2 hk rfl rfl hv h4 (by omega) hF
      have hwf2 : wfs (f 70) n (a + 1) ((st.length : Nat) + 1 : Int) 1 := by
        rcases hwf with p | p | p
        · exact p.2
        · omega
        · omega
      have val : ∀ z, mrd f (f 70 a) (f 71 a) = (1, z) → bnd z → ev1 w (f 70 a) (V a) st = some (some (z :: st)) → ∃ x fn gn, p_Mod_reckon_10 (fuel + 1) ((a + (n + 1) : Nat) : Int) (st.length : Nat) a f g = some (x, fn, gn) ∧ MR f fn ∧ (fn 60 20 = 0 ∨ fn 60 20 = 1) ∧ (∀ b, b ≠ 72 → gn b = g b) ∧ (∀ s, evl w (f 70) V (n + 1) a st = some (some s) → x = xcode (evl w (f 70) V (n + 1) a st) ∧ fn 60 20 = 1 ∧ fn 60 21 = 0) ∧ (evl w (f 70) V (n + 1) a st = none → fn 60 20 = 0 ∧ fn 60 21 = 0) ∧ (evl w (f 70) V (n + 1) a st = some none → fn 60 21 = 1) := by
        intro z hz hzb hev
        rw [hz] at e1
        refine go (z :: st) _ _ (MR.u20 f 1) ma_up_self (by rw [ma_up_at (by omega)]; exact hu) (gup st.length (q_sw z)) ?_ (by simp only [List.length_cons]; omega) ?_ ?_ hev e1
        · simp only [List.length_cons]
          exact hwf2
        · refine ⟨?_, stk_at st (fun i hi => ma_up_at (by omega)) hst⟩
          rw [ma_up_self]
          unfold bnd at hzb
          exact q_swn (by omega)
        · intro y hy
          rcases List.mem_cons.mp hy with p | p
          · rw [p]; exact hzb
          · exact hbs y p
      by_cases h0 : f 70 a = 0
      · have eV : f 71 a = V a := by omega
        refine val (V a) ?_ (by unfold bnd; omega) ?_
        · unfold mrd
          rw [if_pos h0, eV]
        · unfold ev1
          rw [if_pos h0]
      · rcases hw _ _ _ hv (by omega) h4 with ⟨z, q1, q2, q3⟩ | ⟨q1, q2⟩
        · refine val z q2 q3 ?_
          unfold ev1
          rw [if_neg h0, if_pos h4, q1]
        · rw [q2] at e1
          have ee : evl w (f 70) V (n + 1) a st = none := by
            rw [evl]
            have : ev1 w (f 70 a) (V a) st = none := by
              unfold ev1
              rw [if_neg h0, if_pos h4, q1]
            rw [this]
          rw [ee]
          obtain ⟨fuel, rfl⟩ : ∃ k, fuel = k + 1 := ⟨fuel - 1, by omega⟩
          rw [m_399 (Or.inr ma_up_self)] at e1
          exact ⟨_, _, _, e1, MR.u20 f 0, Or.inl ma_up_self, gup _ _, fun s q => (by cases q), fun _ => ⟨ma_up_self, by rw [ma_up_at (by omega)]; exact hu⟩, fun q => (by cases q)⟩
    · by_cases h7 : f 70 a = 7
      · have hp : pw64 (f 71 a) ∧ f 71 a = V a := by
          rcases hv' with q | q | q | q | q <;> first | omega | exact ⟨q.2.1 ▸ q.2.2, q.2.1⟩
        have hh : 1 ≤ (st.length : Int) ∧ wfs (f 70) n (a + 1) (st.length : Nat) 1 := by
          rcases hwf with p | p | p
          · omega
          · omega
          · exact p.2
        cases st with
        | nil => have := hh.1; simp at this
        | cons x r =>
          have hx := hbs x (List.mem_cons_self)
          unfold bnd at hx
          have hub := up_b (x := x) hp.1
          have g0 : g 72 r.length = x := hst.1
          simp only [List.length_cons] at hr
          have hy : p_Mod_raised (g 72 r.length) (f 71 a) (ma_up f 60 21 (un7 f g r.length)) g = some (up x (V a), ma_up f 60 21 (un7 f g r.length), g) := by
            rw [g0, ← hp.2]
            exact m_raise (by omega) hp.1
          have e1 := r_rai (n := fuel) (m := r.length) hb hb2 hk h7 (by omega) (Or.inl hu) hy
          rw [hp.2] at hub
          have c0 := q_lcmp0 (z := x) (by omega)
          have c1 := q_lcmpc (z := up x (V a)) (c := -100000) (by omega) (by omega)
          have c2 := q_lcmpc (z := up x (V a)) (c := 100000) (by omega) (by omega)
          have ev : ev1 w (f 70 a) (V a) (x :: r) = if 0 ≤ x ∧ up x (V a) ≤ 100000 then some (some (up x (V a) :: r)) else some none := by
            unfold ev1
            rw [if_neg (by omega), if_neg h4, if_pos h7]
          have k20 : ma_up (ma_up f 60 21 (un7 f g r.length)) 60 21 (uns (ma_up f 60 21 (un7 f g r.length)) (ma_up g 72 r.length (up x (V a))) r.length) 60 20 = 1 := by rw [ma_up_at (by omega), ma_up_at (by omega)]; exact hk
          by_cases hg : 0 ≤ x ∧ up x (V a) ≤ 100000
          · rw [if_pos hg] at ev
            have u7 : un7 f g r.length = 0 := by
              unfold un7
              rw [g0, c0]
              refine if_pos ⟨hu, ?_⟩
              split
              · decide
              · split
                · decide
                · omega
            have us : uns (ma_up f 60 21 (un7 f g r.length)) (ma_up g 72 r.length (up x (V a))) r.length = 0 := by
              unfold uns
              rw [ma_up_self, ma_up_self, c1, c2, u7]
              refine if_pos ⟨rfl, ?_, ?_⟩
              · rw [if_pos (by omega)]
                decide
              · rw [if_neg (by omega)]
                split <;> decide
            refine go (up x (V a) :: r) _ _ ((MR.u21 _ _).tr (MR.u21 _ _)) k20 (by rw [ma_up_self]; exact us) (gup _ _) hh.2 (by simp only [List.length_cons]; omega) ⟨ma_up_self, stk_at r (fun i hi => ma_up_at (by omega)) hst.2⟩ ?_ ev e1
            intro y hy2
            rcases List.mem_cons.mp hy2 with p | p
            · rw [p]
              unfold bnd
              omega
            · exact hbs y (List.mem_cons_of_mem _ p)
          · rw [if_neg hg] at ev
            have us : uns (ma_up f 60 21 (un7 f g r.length)) (ma_up g 72 r.length (up x (V a))) r.length = 1 := by
              unfold uns
              rw [ma_up_self, ma_up_self, c1, c2]
              by_cases hx0 : 0 ≤ x
              · refine if_neg (fun q => ?_)
                have := q.2.2
                rw [if_pos (by omega)] at this
                exact absurd this (by decide)
              · have u7 : un7 f g r.length = 1 := by
                  unfold un7
                  rw [g0, c0]
                  refine if_neg (fun q => ?_)
                  have := q.2
                  rw [if_neg (by omega), if_neg (by omega)] at this
                  exact absurd this (by decide)
                refine if_neg (fun q => ?_)
                rw [u7] at q
                exact absurd q.1 (by decide)
            exact bad (r.length + 1) _ _ ((MR.u21 _ _).tr (MR.u21 _ _)) k20 (by rw [ma_up_self]; exact us) (gup _ _) hh.2 (by omega) ev e1
      · have h56 : f 70 a = 5 ∨ f 70 a = 6 := by omega
        have hh : 2 ≤ (st.length : Int) ∧ wfs (f 70) n (a + 1) ((st.length : Int) - 1) 1 := by
          rcases hwf with p | p | p
          · omega
          · exact p.2
          · omega
        cases st with
        | nil => have := hh.1; simp at this
        | cons y r1 =>
          cases r1 with
          | nil => have := hh.1; simp at this
          | cons x r =>
            have hy := hbs y (List.mem_cons_self)
            have hx := hbs x (List.mem_cons_of_mem _ (List.mem_cons_self))
            unfold bnd at hx hy
            have g1 : g 72 (r.length + 1) = y := hst.1
            have g0 : g 72 r.length = x := hst.2.1
            simp only [List.length_cons] at hr
            have e1 := r_bin (n := fuel) (g := g) (m := r.length) hb hb2 hk h56 (by omega) (Or.inl hu) (if f 70 a = 5 then x + y else x - y) (by rw [g0, g1])
            have hz : -2000000 ≤ (if f 70 a = 5 then x + y else x - y) ∧ (if f 70 a = 5 then x + y else x - y) ≤ 2000000 := by split <;> omega
            have ev : ev1 w (f 70 a) (V a) (y :: x :: r) = if -100000 ≤ (if f 70 a = 5 then x + y else x - y) ∧ (if f 70 a = 5 then x + y else x - y) ≤ 100000 then some (some ((if f 70 a = 5 then x + y else x - y) :: r)) else some none := by
              unfold ev1
              rw [if_neg (by omega), if_neg h4, if_neg h7]
            have wf2 : wfs (f 70) n (a + 1) ((r.length + 1 : Nat) : Int) 1 := by
              have := hh.2
              simp only [List.length_cons] at this
              rw [show ((r.length + 1 + 1 : Nat) : Int) - 1 = ((r.length + 1 : Nat) : Int) by omega] at this
              exact this
            generalize (if f 70 a = 5 then x + y else x - y) = z at *
            have c1 := q_lcmpc (z := z) (c := -100000) (by omega) (by omega)
            have c2 := q_lcmpc (z := z) (c := 100000) (by omega) (by omega)
            have k20 : ma_up f 60 21 (uns f (ma_up g 72 r.length z) r.length) 60 20 = 1 := by rw [ma_up_at (by omega)]; exact hk
            by_cases hg : -100000 ≤ z ∧ z ≤ 100000
            · rw [if_pos hg] at ev
              have us : uns f (ma_up g 72 r.length z) r.length = 0 := by
                unfold uns
                rw [ma_up_self, c1, c2]
                refine if_pos ⟨hu, ?_, ?_⟩
                · split
                  · decide
                  · split
                    · decide
                    · omega
                · rw [if_neg (by omega)]
                  split <;> decide
              refine go (z :: r) _ _ (MR.u21 _ _) k20 (by rw [ma_up_self]; exact us) (gup _ _) wf2 (by simp only [List.length_cons]; omega) ⟨ma_up_self, stk_at r (fun i hi => ma_up_at (by omega)) hst.2.2⟩ ?_ ev e1
              intro u hu2
              rcases List.mem_cons.mp hu2 with p | p
              · rw [p]
                unfold bnd
                omega
              · exact hbs u (List.mem_cons_of_mem _ (List.mem_cons_of_mem _ p))
            · rw [if_neg hg] at ev
              have us : uns f (ma_up g 72 r.length z) r.length = 1 := by
                unfold uns
                rw [ma_up_self, c1, c2]
                refine if_neg (fun q => ?_)
                by_cases hl : z < -100000
                · have := q.2.1
                  rw [if_neg (by omega), if_neg (by omega)] at this
                  exact this (by decide)
                · have := q.2.2
                  rw [if_pos (by omega)] at this
                  exact absurd this (by decide)
              exact bad (r.length + 1) _ _ (MR.u21 _ _) k20 (by rw [ma_up_self]; exact us) (gup _ _) wf2 (by omega) ev e1
end MW
