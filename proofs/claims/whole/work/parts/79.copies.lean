/-! ===== the table of copies ===== -/
section CO
variable {fc fm g g' : q_F} {k l : Nat}
abbrev cop (f : q_F) (k : Nat) : Prop := f (28 + k) 7 = 1 ∧ 0 < f (28 + k) 10 ∧ f (28 + k) 11 ≠ f (28 + k) 9
def rl (f : q_F) : Nat → Nat → List Nat
  | 0, _ => []
  | m + 1, i => if cop f (ord f i) then ord f i :: rl f m (i + 1) else rl f m (i + 1)
theorem rl_ext {f1 f2 : q_F} (h14 : f2 14 = f1 14) (h28 : ∀ k, k < 8 → f2 (28 + k) = f1 (28 + k)) (ho : ∀ i : Nat, (i : Int) < f1 3 7 → ord f1 i < 8) : ∀ (m i : Nat), (i : Int) + m ≤ f1 3 7 → rl f2 m i = rl f1 m i := by
  intro m
  induction m with
  | zero => intros; rfl
  | succ m ih =>
    intro i hi
    have e : ord f2 i = ord f1 i := by unfold ord; rw [h14]
    simp only [rl]
    rw [e, ih (i + 1) (by omega)]
    unfold cop
    rw [h28 _ (ho i (by omega))]
theorem rl_mem : ∀ (m i x : Nat), x ∈ rl fc m i → ∃ j, i ≤ j ∧ j < i + m ∧ x = ord fc j ∧ cop fc x := by
  intro m
  induction m with
  | zero => intro i x hx; cases hx
  | succ m ih =>
    intro i x hx
    simp only [rl] at hx
    by_cases hc : cop fc (ord fc i)
    · rw [if_pos hc] at hx
      rcases List.mem_cons.mp hx with e | e
      · exact ⟨i, Nat.le_refl _, by omega, e, by rw [e]; exact hc⟩
      · obtain ⟨j, c1, c2, c3⟩ := ih (i + 1) x e
        exact ⟨j, by omega, by omega, c3⟩
    · rw [if_neg hc] at hx
      obtain ⟨j, c1, c2, c3⟩ := ih (i + 1) x hx
      exact ⟨j, by omega, by omega, c3⟩
theorem rl_len : ∀ (m i : Nat), (rl fc m i).length ≤ m := by
  intro m
  induction m with
  | zero => intro i; simp [rl]
  | succ m ih =>
    intro i
    simp only [rl]
    split
    · simp only [List.length_cons]
      have := ih (i + 1)
      omega
    · have := ih (i + 1)
      omega
theorem m_copied (hk : k < 8) (s : secJ fc fm k) : p_Mod_copied k fm g' = some (if cop fc k then 1 else 0, fm, g') := by
  obtain ⟨⟨s9, t9⟩, ⟨s10, t10⟩, ⟨s11, t11⟩, ⟨s7, t7⟩, -⟩ := s
  unfold bnd at t9 t11
  have ik : 0 ≤ (k : Int) ∧ (k : Int) < 8 := by omega
  unfold p_Mod_copied p_Mod_copied_37 p_Mod_copied_38
  rw [if_pos ik, if_pos ik, if_pos ik, if_pos ik, Int.toNat_natCast, if_pos (Or.inl rfl), if_pos (Or.inr rfl)]
  rcases t7 with t7 | t7
  · rw [if_pos (sw0 (s7.symm.trans t7)), if_neg (by unfold cop; omega)]
  · rw [if_neg (sw1 (s7.symm.trans t7))]
    by_cases c1 : fc (28 + k) 10 ≤ 0
    · rw [if_pos (show q_sw (fm 87 k) ≤ 0 by rw [← s10, q_swn (by omega)]; exact c1), if_neg (by unfold cop; omega)]
    · rw [if_neg (show ¬ q_sw (fm 87 k) ≤ 0 by rw [← s10, q_swn (by omega)]; exact c1)]
      by_cases c2 : fc (28 + k) 11 = fc (28 + k) 9
      · rw [if_pos (show q_sw (fm 88 k) = q_sw (fm 86 k) by rw [← s11, ← s9, c2]), if_neg (by unfold cop; omega)]
      · rw [if_neg (show ¬ q_sw (fm 88 k) = q_sw (fm 86 k) by rw [← s11, ← s9, q_swn (by omega), q_swn (by omega)]; exact c2), if_pos (by unfold cop; omega)]
theorem list_loop {f0 : q_F} (h : JJ f0 fm) : ∀ (m i n t : Nat) (fc : q_F), (i : Int) + m = f0 3 7 → m < n → fc 3 9 = (t : Nat) → t ≤ i → fc 3 7 = f0 3 7 → (∀ a, a ≠ 3 → a ≠ 15 → fc a = f0 a) → ∃ fd, p_Plan_listCopies_7 n i fc g = some (fd, g) ∧ (∀ a, a ≠ 3 → a ≠ 15 → fd a = f0 a) ∧ (∀ c, c ≠ 9 → fd 3 c = fc 3 c) ∧ fd 3 9 = ((t + (rl f0 m i).length : Nat) : Int) ∧ (∀ s, s < t → fd 15 s = fc 15 s) ∧ ∀ s x, (rl f0 m i)[s]? = some x → fd 15 (t + s) = (x : Nat) := by
  intro m
  have o8 := h.2.2.1
  induction m with
  | zero =>
    intro i n t fc hi hn h9 ht h7 hr
    obtain ⟨n, rfl⟩ : ∃ k, n = k + 1 := ⟨n - 1, by omega⟩
    refine ⟨fc, ?_, hr, fun _ _ => rfl, by simp [rl, h9], fun _ _ => rfl, fun s x hx => by simp [rl] at hx⟩
    rw [p_Plan_listCopies_7, if_pos (show q_sw (fc 3 7) ≤ q_sw (i : Int) by rw [h7, q_swn (by omega), q_swn (by omega)]; omega)]
  | succ m ih =>
    intro i n t fc hi hn h9 ht h7 hr
    obtain ⟨n, rfl⟩ : ∃ k, n = k + 1 := ⟨n - 1, by omega⟩
    obtain ⟨k1, k2, k3, ⟨s9, t9⟩, ⟨s10, t10⟩, ⟨s11, t11⟩, ⟨s7, t7⟩, -⟩ := h.at (i := i) (by omega)
    have r14 : fc 14 = f0 14 := hr 14 (by omega) (by omega)
    have r28 : ∀ c, fc (28 + ord f0 i) c = f0 (28 + ord f0 i) c := fun c => by rw [hr (28 + ord f0 i) (by omega) (by omega)]
    unfold bnd at t9 t11
    have e71 : ∀ fd, p_Plan_listCopies_71 (p_Plan_listCopies_7 n) i fd g = p_Plan_listCopies_7 n (i + 1 : Nat) fd g := fun fd => by
      unfold p_Plan_listCopies_71
      dsimp only [q_let]
      rw [show ((i : Nat) : Int) + 1 = ((i + 1 : Nat) : Int) by omega]
    have base : p_Plan_listCopies_7 (n + 1) i fc g = if cop f0 (ord f0 i) then p_Plan_listCopies_7 n (i + 1 : Nat) (ma_up (ma_up fc 15 t (ord f0 i : Nat)) 3 9 ((t + 1 : Nat) : Int)) g else p_Plan_listCopies_7 n (i + 1 : Nat) fc g := by
      rw [p_Plan_listCopies_7, if_neg (show ¬ q_sw (fc 3 7) ≤ q_sw (i : Int) by rw [h7, q_swn (by omega), q_swn (by omega)]; omega), c_sectionAt (by omega) (by rw [r14]; omega), Option.bind_some]
      dsimp only
      rw [r14, show (f0 14 i).toNat = ord f0 i from rfl, if_pos (by omega), e71]
      rcases t7 with t7 | t7
      · rw [if_pos (sw0 ((r28 7).trans t7)), if_neg (by unfold cop; omega)]
      · rw [if_neg (sw1 ((r28 7).trans t7))]
        by_cases c2 : f0 (28 + ord f0 i) 11 = f0 (28 + ord f0 i) 9
        · rw [if_pos (show q_sw (fc (28 + ord f0 i) 11) = q_sw (fc (28 + ord f0 i) 9) by rw [r28, r28, c2]), if_neg (by unfold cop; omega)]
        · rw [if_neg (show ¬ q_sw (fc (28 + ord f0 i) 11) = q_sw (fc (28 + ord f0 i) 9) by rw [r28, r28, q_swn (by omega), q_swn (by omega)]; exact c2)]
          by_cases c1 : f0 (28 + ord f0 i) 10 ≤ 0
          · rw [if_pos (show q_sw (fc (28 + ord f0 i) 10) ≤ 0 by rw [r28, q_swn (by omega)]; exact c1), if_neg (by unfold cop; omega)]
          · rw [if_neg (show ¬ q_sw (fc (28 + ord f0 i) 10) ≤ 0 by rw [r28, q_swn (by omega)]; exact c1), if_pos (show 0 ≤ (i : Int) ∧ (i : Int) < 8 by omega), if_pos (show 0 ≤ fc 3 9 ∧ fc 3 9 < 8 by omega), if_pos (show cop f0 (ord f0 i) by unfold cop; omega)]
            dsimp only [q_let]
            rw [e71, Int.toNat_natCast, k2, h9, Int.toNat_natCast, ma_up_ne (show (3 : Nat) ≠ 15 by omega), h9]
            rfl
    rw [base]
    simp only [rl]
    by_cases hc : cop f0 (ord f0 i)
    · rw [if_pos hc, if_pos hc]
      obtain ⟨fd, d1, d2, d3, d4, d5, d6⟩ := ih (i + 1) n (t + 1) (ma_up (ma_up fc 15 t (ord f0 i : Nat)) 3 9 ((t + 1 : Nat) : Int)) (by omega) (by omega) ma_up_self (by omega) (by rw [ma_up_at (by omega), ma_up_ne (by omega)]; exact h7) (fun a c1 c2 => by rw [ma_up_ne c1, ma_up_ne c2]; exact hr a c1 c2)
      refine ⟨fd, d1, d2, fun c hc9 => ?_, ?_, fun s hs => ?_, fun s x hx => ?_⟩
      · rw [d3 c hc9, ma_up_at hc9, ma_up_ne (by omega)]
      · rw [d4]
        simp only [List.length_cons]
        omega
      · rw [d5 s (by omega), ma_up_ne (by omega), ma_up_at (by omega)]
      · cases s with
        | zero =>
          simp only [List.getElem?_cons_zero, Option.some.injEq] at hx
          rw [Nat.add_zero, d5 t (by omega), ma_up_ne (by omega), ma_up_self, hx]
        | succ s =>
          simp only [List.getElem?_cons_succ] at hx
          rw [show t + (s + 1) = t + 1 + s by omega]
          exact d6 s x hx
    · rw [if_neg hc, if_neg hc]
      obtain ⟨fd, d1, d2, d3, d4, d5, d6⟩ := ih (i + 1) n t fc (by omega) (by omega) h9 (by omega) h7 hr
      exact ⟨fd, d1, d2, d3, d4, d5, d6⟩
/-- the table stands -/
def CPs (f : q_F) : Prop := f 3 9 = ((rl f (f 3 7).toNat 0).length : Nat) ∧ ∀ s x, (rl f (f 3 7).toNat 0)[s]? = some x → f 15 s = (x : Nat)
theorem list_all (h : JJ fc fm) : ∃ fd, p_Plan_listCopies fc g = some (fd, g) ∧ (∀ a, a ≠ 3 → a ≠ 15 → fd a = fc a) ∧ fd 3 7 = fc 3 7 ∧ CPs fd := by
  have o8 := h.2.2.1
  have o0 := h.2.1
  obtain ⟨fd, d1, d2, d3, d4, d5, d6⟩ := list_loop (g := g) h (fc 3 7).toNat 0 1000 0 (ma_up fc 3 9 0) (by omega) (by omega) ma_up_self (by omega) (ma_up_at (by omega)) (fun a c1 _ => ma_up_ne c1)
  have e7 : fd 3 7 = fc 3 7 := by rw [d3 7 (by omega), ma_up_at (by omega)]
  have er : rl fd (fd 3 7).toNat 0 = rl fc (fc 3 7).toNat 0 := by
    rw [e7]
    exact rl_ext (d2 14 (by omega) (by omega)) (fun k hk => d2 _ (by omega) (by omega)) (fun i hi => (h.at hi).1) _ _ (by omega)
  refine ⟨fd, ?_, d2, e7, ?_, fun s x hx => ?_⟩
  · unfold p_Plan_listCopies
    exact d1
  · rw [er, d4]
    omega
  · rw [er] at hx
    have := d6 s x hx
    rw [Nat.zero_add] at this
    exact this
def clsh (f : q_F) : List Nat → Prop
  | [] => False
  | k :: r => (∃ x ∈ k :: r, mtt (f (28 + k) 9) (f (28 + k) 10) (f (28 + x) 11) (f (28 + x) 10)) ∨ clsh f r
theorem clash_in {c2 : Int → q_F → q_F → Option (Int × q_F × q_F)} {s0 : Int} {L : List Nat} (hL : ∀ x ∈ L, x < 8 ∧ secJ fc fm x) (h9 : fc 3 9 = (L.length : Nat)) (h8 : L.length ≤ 8) (h15 : ∀ s x, L[s]? = some x → fc 15 s = (x : Nat)) (hk : k < 8) (sk : secJ fc fm k) : ∀ (r : List Nat) (v n : Nat), L.drop v = r → v ≤ L.length → r.length < n → (p_Judge_copiesClash_24 c2 n s0 (28 + k) v fc g = some (1, fc, g) ∧ ∃ x ∈ r, mtt (fc (28 + k) 9) (fc (28 + k) 10) (fc (28 + x) 11) (fc (28 + x) 10)) ∨ (p_Judge_copiesClash_24 c2 n s0 (28 + k) v fc g = c2 (s0 + 1) fc g ∧ ∀ x ∈ r, ¬ mtt (fc (28 + k) 9) (fc (28 + k) 10) (fc (28 + x) 11) (fc (28 + x) 10)) := by
  intro r
  induction r with
  | nil =>
    intro v n hd hv hn
    obtain ⟨n, rfl⟩ : ∃ k, n = k + 1 := ⟨n - 1, by omega⟩
    have hlen : L.length ≤ v := by
      have := congrArg List.length hd
      simp at this
      omega
    refine Or.inr ⟨?_, fun x hx => by cases hx⟩
    rw [p_Judge_copiesClash_24, if_pos (by omega), if_pos (show q_sw (fc 3 9) ≤ q_sw (v : Int) by rw [h9, q_swn (by omega), q_swn (by omega)]; omega)]
    rfl
  | cons y r ih =>
    intro v n hd hv hn
    simp only [List.length_cons] at hn
    obtain ⟨n, rfl⟩ : ∃ k, n = k + 1 := ⟨n - 1, by omega⟩
    have hlt : v < L.length := by
      have := congrArg List.length hd
      simp at this
      omega
    have hget : L[v]? = some y := by
      have := congrArg (fun l => l[0]?) hd
      simpa using this
    have hmem : y ∈ L := List.mem_of_getElem? hget
    obtain ⟨y8, sy⟩ := hL y hmem
    have hv15 := h15 v y hget
    have hd2 : L.drop (v + 1) = r := by
      have := congrArg List.tail hd
      simpa using this
    obtain ⟨⟨-, a9⟩, ⟨-, a10⟩, -⟩ := sk
    obtain ⟨-, ⟨-, b10⟩, ⟨-, b11⟩, -⟩ := sy
    have base : p_Judge_copiesClash_24 c2 (n + 1) s0 (28 + k) v fc g = if mtt (fc (28 + k) 9) (fc (28 + k) 10) (fc (28 + y) 11) (fc (28 + y) 10) then some (1, fc, g) else p_Judge_copiesClash_24 c2 n s0 (28 + k) (v + 1 : Nat) fc g := by
      rw [p_Judge_copiesClash_24, if_pos (show 28 ≤ 28 + k ∧ 28 + k < 36 by omega), if_neg (show ¬ q_sw (fc 3 9) ≤ q_sw (v : Int) by rw [h9, q_swn (by omega), q_swn (by omega)]; omega)]
      unfold p_Plan_copiedAt
      rw [if_pos (show 0 ≤ (v : Int) ∧ (v : Int) < 8 by omega), Int.toNat_natCast, hv15, if_pos (show 0 ≤ (y : Int) ∧ (y : Int) < 8 by omega), Int.toNat_natCast, Option.bind_some, if_pos (show 28 ≤ 28 + y ∧ 28 + y < 36 by omega)]
      dsimp only [q_let]
      rw [c_meet a9 b11 a10 b10, Option.bind_some, show ((v : Nat) : Int) + 1 = ((v + 1 : Nat) : Int) by omega]
      by_cases c : mtt (fc (28 + k) 9) (fc (28 + k) 10) (fc (28 + y) 11) (fc (28 + y) 10)
      · rw [if_pos c, if_neg (sw1 rfl), if_pos c]
      · rw [if_neg c, if_pos (sw0 rfl), if_neg c]
    rw [base]
    by_cases c : mtt (fc (28 + k) 9) (fc (28 + k) 10) (fc (28 + y) 11) (fc (28 + y) 10)
    · rw [if_pos c]
      exact Or.inl ⟨rfl, y, List.mem_cons_self, c⟩
    · rw [if_neg c]
      rcases ih (v + 1) n hd2 (by omega) (by omega) with ⟨q1, x, q2, q3⟩ | ⟨q1, q2⟩
      · exact Or.inl ⟨q1, x, List.mem_cons_of_mem _ q2, q3⟩
      · refine Or.inr ⟨q1, fun x hx => ?_⟩
        rcases List.mem_cons.mp hx with e | e
        · rw [e]
          exact c
        · exact q2 x e
theorem clash_out {L : List Nat} (hL : ∀ x ∈ L, x < 8 ∧ secJ fc fm x) (h9 : fc 3 9 = (L.length : Nat)) (h8 : L.length ≤ 8) (h15 : ∀ s x, L[s]? = some x → fc 15 s = (x : Nat)) : ∀ (r : List Nat) (v n : Nat), L.drop v = r → v ≤ L.length → r.length < n → ∃ b, p_Judge_copiesClash_2 n v fc g = some (b, fc, g) ∧ ((b = 1 ∧ clsh fc r) ∨ (b = 0 ∧ ¬ clsh fc r)) := by
  intro r
  induction r with
  | nil =>
    intro v n hd hv hn
    obtain ⟨n, rfl⟩ : ∃ k, n = k + 1 := ⟨n - 1, by omega⟩
    have hlen : L.length ≤ v := by
      have := congrArg List.length hd
      simp at this
      omega
    refine ⟨0, ?_, Or.inr ⟨rfl, fun q => q⟩⟩
    rw [p_Judge_copiesClash_2, if_pos (show q_sw (fc 3 9) ≤ q_sw (v : Int) by rw [h9, q_swn (by omega), q_swn (by omega)]; omega)]
  | cons y r ih =>
    intro v n hd hv hn
    simp only [List.length_cons] at hn
    obtain ⟨n, rfl⟩ : ∃ k, n = k + 1 := ⟨n - 1, by omega⟩
    have hlt : v < L.length := by
      have := congrArg List.length hd
      simp at this
      omega
    have hget : L[v]? = some y := by
      have := congrArg (fun l => l[0]?) hd
      simpa using this
    have hmem : y ∈ L := List.mem_of_getElem? hget
    obtain ⟨y8, sy⟩ := hL y hmem
    have hv15 := h15 v y hget
    have hd2 : L.drop (v + 1) = r := by
      have := congrArg List.tail hd
      simpa using this
    have hrl : r.length < 8 := by
      have := congrArg List.length hd
      simp at this
      omega
    have base : p_Judge_copiesClash_2 (n + 1) v fc g = p_Judge_copiesClash_24 (p_Judge_copiesClash_2 n) 1000 v (28 + y) v fc g := by
      rw [p_Judge_copiesClash_2, if_neg (show ¬ q_sw (fc 3 9) ≤ q_sw (v : Int) by rw [h9, q_swn (by omega), q_swn (by omega)]; omega)]
      unfold p_Plan_copiedAt
      rw [if_pos (show 0 ≤ (v : Int) ∧ (v : Int) < 8 by omega), Int.toNat_natCast, hv15, if_pos (show 0 ≤ (y : Int) ∧ (y : Int) < 8 by omega), Int.toNat_natCast, Option.bind_some, if_pos (show 28 ≤ 28 + y ∧ 28 + y < 36 by omega)]
    rw [base]
    rcases clash_in (g := g) (c2 := p_Judge_copiesClash_2 n) (s0 := v) hL h9 h8 h15 y8 sy (y :: r) v 1000 hd hv (by simp only [List.length_cons]; omega) with ⟨q1, q2⟩ | ⟨q1, q2⟩
    · exact ⟨1, q1, Or.inl ⟨rfl, Or.inl q2⟩⟩
    · obtain ⟨b, e1, e2⟩ := ih (v + 1) n hd2 (by omega) (by omega)
      rw [q1, show ((v : Nat) : Int) + 1 = ((v + 1 : Nat) : Int) by omega]
      refine ⟨b, e1, e2.imp (fun q => ⟨q.1, Or.inr q.2⟩) (fun q => ⟨q.1, fun z => ?_⟩)⟩
      rcases z with ⟨x, z1, z2⟩ | z
      · exact q2 x z1 z2
      · exact q.2 z
theorem well_in {c4 : Int → Int → q_F → q_F → Option (Int × q_F × q_F)} {i : Nat} (h : JJ fc fm) (hi : (i : Int) < fc 3 7) : ∀ (m j n : Nat) (a : Int), (j : Int) + m = fc 3 7 → m < n → (a = 0 ∨ a = 1) → ∃ b, p_Mod_copiesWell_14 c4 n a i j fm g' = c4 b ((i : Int) + 1) fm g' ∧ ((b = 1 ∧ a = 1 ∧ ¬ (cop fc (ord fc i) ∧ ∃ x ∈ rl fc m j, mtt (fc (28 + ord fc i) 9) (fc (28 + ord fc i) 10) (fc (28 + x) 11) (fc (28 + x) 10))) ∨ (b = 0 ∧ (a = 0 ∨ (cop fc (ord fc i) ∧ ∃ x ∈ rl fc m j, mtt (fc (28 + ord fc i) 9) (fc (28 + ord fc i) 10) (fc (28 + x) 11) (fc (28 + x) 10))))) := by
  intro m
  have o8 := h.2.2.1
  have oe := h.1
  obtain ⟨k1, k2, k3, k4⟩ := h.at hi
  induction m with
  | zero =>
    intro j n a hj hn ha
    obtain ⟨n, rfl⟩ : ∃ k, n = k + 1 := ⟨n - 1, by omega⟩
    refine ⟨a, ?_, ?_⟩
    · rw [p_Mod_copiesWell_14, if_pos (show q_sw (fm 60 22) ≤ q_sw (j : Int) by rw [← oe, q_swn (by omega), q_swn (by omega)]; omega)]
      rfl
    · rcases ha with ha | ha
      · exact Or.inr ⟨ha, Or.inl ha⟩
      · exact Or.inl ⟨ha, ha, fun q => by obtain ⟨x, hx, -⟩ := q.2; cases hx⟩
  | succ m ih =>
    intro j n a hj hn ha
    obtain ⟨n, rfl⟩ : ∃ k, n = k + 1 := ⟨n - 1, by omega⟩
    obtain ⟨l1, l2, l3, l4⟩ := h.at (i := j) (by omega)
    have ik : 0 ≤ ((ord fc i : Nat) : Int) ∧ ((ord fc i : Nat) : Int) < 8 := by omega
    have il : 0 ≤ ((ord fc j : Nat) : Int) ∧ ((ord fc j : Nat) : Int) < 8 := by omega
    have e99 : ∀ s, p_Mod_copiesWell_99 c4 (p_Mod_copiesWell_14 c4 n) i j s fm g' = p_Mod_copiesWell_14 c4 n s i (j + 1 : Nat) fm g' := fun s => by
      unfold p_Mod_copiesWell_99
      dsimp only [q_let]
      rw [show ((j : Nat) : Int) + 1 = ((j + 1 : Nat) : Int) by omega]
    have base : p_Mod_copiesWell_14 c4 (n + 1) a i j fm g' = if a = 0 ∨ (cop fc (ord fc i) ∧ cop fc (ord fc j) ∧ mtt (fc (28 + ord fc i) 9) (fc (28 + ord fc i) 10) (fc (28 + ord fc j) 11) (fc (28 + ord fc j) 10)) then p_Mod_copiesWell_14 c4 n 0 i (j + 1 : Nat) fm g' else p_Mod_copiesWell_14 c4 n 1 i (j + 1 : Nat) fm g' := by
      rw [p_Mod_copiesWell_14, if_neg (show ¬ q_sw (fm 60 22) ≤ q_sw (j : Int) by rw [← oe, q_swn (by omega), q_swn (by omega)]; omega), if_pos (show 0 ≤ (i : Int) ∧ (i : Int) < 8 by omega)]
      unfold p_Mod_copiesWell_98 p_Mod_copiesWell_94
      dsimp only [q_let]
      rw [if_pos (show 0 ≤ (j : Int) ∧ (j : Int) < 8 by omega), Int.toNat_natCast i, Int.toNat_natCast j, k3, l3, m_copied k1 k4, Option.bind_some]
      rcases ha with ha | ha
      · rw [if_pos (sw0 ha), if_pos (Or.inl ha), e99]
      · rw [if_neg (sw1 ha)]
        by_cases c1 : cop fc (ord fc i)
        · rw [if_pos c1, if_neg (sw1 rfl)]
          dsimp only
          rw [m_copied l1 l4, Option.bind_some]
          by_cases c2 : cop fc (ord fc j)
          · rw [if_pos c2, if_neg (sw1 rfl), if_pos ik, if_pos ik, if_pos il, if_pos il]
            dsimp only
            obtain ⟨⟨p9, a9⟩, ⟨p10, a10⟩, ⟨p11, a11⟩, -⟩ := k4
            obtain ⟨⟨r9, b9⟩, ⟨r10, b10⟩, ⟨r11, b11⟩, -⟩ := l4
            rw [Int.toNat_natCast, Int.toNat_natCast, ← p9, ← p10, ← r11, ← r10, m_meet a9 b11 a10 b10, Option.bind_some]
            by_cases c3 : mtt (fc (28 + ord fc i) 9) (fc (28 + ord fc i) 10) (fc (28 + ord fc j) 11) (fc (28 + ord fc j) 10)
            · rw [if_pos c3, if_neg (sw1 rfl), if_pos (Or.inr ⟨c1, c2, c3⟩)]
              exact e99 0
            · rw [if_neg c3, if_pos (sw0 rfl), if_neg (fun q => q.elim (fun z => by omega) (fun z => c3 z.2.2))]
              exact e99 1
          · rw [if_neg c2, if_pos (sw0 rfl), if_neg (fun q => q.elim (fun z => by omega) (fun z => c2 z.2.1))]
            exact e99 1
        · rw [if_neg c1, if_pos (sw0 rfl), if_neg (fun q => q.elim (fun z => by omega) (fun z => c1 z.1))]
          exact e99 1
    rw [base]
    have step : ∀ P : Nat → Prop, (∃ x ∈ rl fc (m + 1) j, P x) ↔ ((cop fc (ord fc j) ∧ P (ord fc j)) ∨ ∃ x ∈ rl fc m (j + 1), P x) := fun P => by
      simp only [rl]
      by_cases c : cop fc (ord fc j)
      · rw [if_pos c]
        constructor
        · rintro ⟨x, hx, hp⟩
          rcases List.mem_cons.mp hx with e | e
          · subst e
            exact Or.inl ⟨c, hp⟩
          · exact Or.inr ⟨x, e, hp⟩
        · rintro (⟨-, hp⟩ | ⟨x, hx, hp⟩)
          · exact ⟨_, List.mem_cons_self, hp⟩
          · exact ⟨x, List.mem_cons_of_mem _ hx, hp⟩
      · rw [if_neg c]
        constructor
        · intro q
          exact Or.inr q
        · rintro (⟨c', -⟩ | q)
          · exact absurd c' c
          · exact q
    by_cases hv : a = 0 ∨ (cop fc (ord fc i) ∧ cop fc (ord fc j) ∧ mtt (fc (28 + ord fc i) 9) (fc (28 + ord fc i) 10) (fc (28 + ord fc j) 11) (fc (28 + ord fc j) 10))
    · rw [if_pos hv]
      obtain ⟨b, e1, e2⟩ := ih (j + 1) n 0 (by omega) (by omega) (Or.inl rfl)
      refine ⟨b, e1, ?_⟩
      rcases e2 with q | q
      · exact absurd q.2.1 (by decide)
      · refine Or.inr ⟨q.1, hv.imp id (fun z => ⟨z.1, (step _).mpr (Or.inl ⟨z.2.1, z.2.2⟩)⟩)⟩
    · rw [if_neg hv]
      obtain ⟨b, e1, e2⟩ := ih (j + 1) n 1 (by omega) (by omega) (Or.inr rfl)
      have ha1 : a = 1 := ha.resolve_left (fun q => hv (Or.inl q))
      refine ⟨b, e1, ?_⟩
      rcases e2 with q | q
      · refine Or.inl ⟨q.1, ha1, fun z => ?_⟩
        rcases (step _).mp z.2 with y | y
        · exact hv (Or.inr ⟨z.1, y.1, y.2⟩)
        · exact q.2.2 ⟨z.1, y⟩
      · refine Or.inr ⟨q.1, ?_⟩
        rcases q.2 with z | z
        · exact absurd z (by decide)
        · exact Or.inr ⟨z.1, (step _).mpr (Or.inr z.2)⟩
theorem well_out (h : JJ fc fm) : ∀ (m i n : Nat) (a : Int), (i : Int) + m = fc 3 7 → m < n → (a = 0 ∨ a = 1) → ∃ b, p_Mod_copiesWell_4 n a i fm g' = some (b, fm, g') ∧ ((b = 1 ∧ a = 1 ∧ ¬ clsh fc (rl fc m i)) ∨ (b = 0 ∧ (a = 0 ∨ clsh fc (rl fc m i)))) := by
  intro m
  have o8 := h.2.2.1
  have oe := h.1
  induction m with
  | zero =>
    intro i n a hi hn ha
    obtain ⟨n, rfl⟩ : ∃ k, n = k + 1 := ⟨n - 1, by omega⟩
    refine ⟨a, ?_, ?_⟩
    · rw [p_Mod_copiesWell_4, if_pos (show q_sw (fm 60 22) ≤ q_sw (i : Int) by rw [← oe, q_swn (by omega), q_swn (by omega)]; omega), if_pos ha]
    · rcases ha with ha | ha
      · exact Or.inr ⟨ha, Or.inl ha⟩
      · exact Or.inl ⟨ha, ha, fun q => q⟩
  | succ m ih =>
    intro i n a hi hn ha
    obtain ⟨n, rfl⟩ : ∃ k, n = k + 1 := ⟨n - 1, by omega⟩
    rw [p_Mod_copiesWell_4, if_neg (show ¬ q_sw (fm 60 22) ≤ q_sw (i : Int) by rw [← oe, q_swn (by omega), q_swn (by omega)]; omega)]
    obtain ⟨b1, q1, q2⟩ := well_in (g' := g') (c4 := p_Mod_copiesWell_4 n) (i := i) h (by omega) (m + 1) i 1000 a (by omega) (by omega) ha
    have hb1 : b1 = 0 ∨ b1 = 1 := by rcases q2 with q | q <;> omega
    obtain ⟨b, e1, e2⟩ := ih (i + 1) n b1 (by omega) (by omega) hb1
    rw [q1, show ((i : Nat) : Int) + 1 = ((i + 1 : Nat) : Int) by omega]
    have step : clsh fc (rl fc (m + 1) i) ↔ ((cop fc (ord fc i) ∧ ∃ x ∈ rl fc (m + 1) i, mtt (fc (28 + ord fc i) 9) (fc (28 + ord fc i) 10) (fc (28 + x) 11) (fc (28 + x) 10)) ∨ clsh fc (rl fc m (i + 1))) := by
      by_cases c : cop fc (ord fc i)
      · have er : rl fc (m + 1) i = ord fc i :: rl fc m (i + 1) := by simp only [rl]; rw [if_pos c]
        rw [er]
        simp only [clsh]
        constructor
        · rintro (q | q)
          · exact Or.inl ⟨c, q⟩
          · exact Or.inr q
        · rintro (q | q)
          · exact Or.inl q.2
          · exact Or.inr q
      · have er : rl fc (m + 1) i = rl fc m (i + 1) := by simp only [rl]; rw [if_neg c]
        rw [er]
        constructor
        · intro q
          exact Or.inr q
        · rintro (q | q)
          · exact absurd q.1 c
          · exact q
    refine ⟨b, e1, ?_⟩
    rcases e2 with z | z
    · rcases q2 with q | q
      · refine Or.inl ⟨z.1, q.2.1, fun y => ?_⟩
        rcases step.mp y with x | x
        · exact q.2.2 x
        · exact z.2.2 x
      · omega
    · refine Or.inr ⟨z.1, ?_⟩
      rcases z.2 with y | y
      · rcases q2 with q | q
        · omega
        · rcases q.2 with x | x
          · exact Or.inl x
          · exact Or.inr (step.mpr (Or.inl x))
      · exact Or.inr (step.mpr (Or.inr y))
/-- listing and judging the copies, of both -/
theorem copy_pair (h : JJ fc fm) : ∃ b fd, p_Plan_listCopies fc g = some (fd, g) ∧ p_Judge_copiesClash fd g = some (b, fd, g) ∧ p_Mod_copiesWell fm g' = some (1 - b, fm, g') ∧ (b = 0 ∨ b = 1) ∧ (∀ a, a ≠ 3 → a ≠ 15 → fd a = fc a) ∧ fd 3 7 = fc 3 7 ∧ CPs fd := by
  have o8 := h.2.2.1
  have o0 := h.2.1
  obtain ⟨fd, d1, d2, d3, d4⟩ := list_all (g := g) h
  have hJ : JJ fd fm := by
    refine ⟨by rw [d3]; exact h.1, by rw [d3]; exact h.2.1, by rw [d3]; exact h.2.2.1, fun i hi => ?_⟩
    rw [d3] at hi
    obtain ⟨k, k1, k2, k3, k4⟩ := h.2.2.2 i hi
    refine ⟨k, k1, by rw [d2 14 (by omega) (by omega)]; exact k2, k3, ?_⟩
    unfold secJ rj at *
    rw [d2 (28 + k) (by omega) (by omega)]
    obtain ⟨a1, a2, a3, a4, ⟨a5, a6⟩, a7, a8⟩ := k4
    refine ⟨a1, a2, a3, a4, ⟨a5, ?_⟩, a7, ?_⟩
    · rw [d2 (24 + _) (by omega) (by omega)]
      exact a6
    · rcases a8 with a8 | a8
      · exact Or.inl a8
      · rw [d2 (24 + (fc (28 + k) 8).toNat) (by omega) (by omega)]
        exact Or.inr a8
  have hlen := rl_len (fc := fd) (fd 3 7).toNat 0
  obtain ⟨b, e1, e2⟩ := clash_out (g := g) (fc := fd) (fm := fm) (L := rl fd (fd 3 7).toNat 0) (fun x hx => by
    obtain ⟨j, c1, c2, c3, -⟩ := rl_mem _ _ _ hx
    have := hJ.at (i := j) (by omega)
    rw [c3]
    exact ⟨this.1, this.2.2.2⟩) d4.1 (by omega) d4.2 (rl fd (fd 3 7).toNat 0) 0 1000 rfl (by omega) (by omega)
  obtain ⟨e, u1, u2⟩ := well_out (g' := g') hJ (fd 3 7).toNat 0 1000 1 (by rw [d3]; omega) (by omega) (Or.inr rfl)
  have : e = 1 - b := by
    rcases e2 with q | q
    · rcases u2 with z | z
      · exact absurd q.2 z.2.2
      · omega
    · rcases u2 with z | z
      · omega
      · rcases z.2 with y | y
        · exact absurd y (by decide)
        · exact absurd y q.2
  exact ⟨b, fd, d1, e1, by rw [← this]; exact u1, by rcases e2 with q | q <;> omega, d2, d3, d4⟩
end CO
