/-! ===== what both know ===== -/
def kn (z : Int) : Int := if z = NY then 0 else 1
theorem kn01 (z : Int) : kn z = 0 ∨ kn z = 1 := by
  unfold kn
  split
  · exact Or.inl rfl
  · exact Or.inr rfl
def csum (F : Nat → Int) : Nat → Int
  | 0 => 0
  | n + 1 => csum F n + F n
theorem csum_le {F G : Nat → Int} : ∀ n, (∀ i, i < n → F i ≤ G i) → csum F n ≤ csum G n
  | 0, _ => Int.le_refl _
  | n + 1, h => by
    have h1 := csum_le n (fun i hi => h i (by omega))
    have h2 := h n (by omega)
    simp only [csum]
    omega
theorem csum_lt {F G : Nat → Int} {j : Nat} : ∀ n, (∀ i, i < n → F i ≤ G i) → j < n → F j + 1 ≤ G j → csum F n + 1 ≤ csum G n
  | 0, _, h, _ => by omega
  | n + 1, h, hj, hq => by
    simp only [csum]
    by_cases e : j = n
    · subst e
      have h1 := csum_le j (fun i hi => h i (by omega))
      omega
    · have h1 := csum_lt n (fun i hi => h i (by omega)) (by omega) hq
      have h2 := h n (by omega)
      omega
theorem csum_b {F : Nat → Int} : ∀ n : Nat, (∀ i, i < n → 0 ≤ F i ∧ F i ≤ 1) → 0 ≤ csum F n ∧ csum F n ≤ n
  | 0, _ => by simp [csum]
  | n + 1, h => by
    have h1 := csum_b n (fun i hi => h i (by omega))
    have h2 := h n (by omega)
    simp only [csum]
    omega
theorem csum_eq {F G : Nat → Int} : ∀ n, (∀ i, i < n → F i = G i) → csum F n = csum G n
  | 0, _ => rfl
  | n + 1, h => by
    simp only [csum]
    rw [csum_eq n (fun i hi => h i (by omega)), h n (by omega)]
def nks (f : q_F) : Int := csum (fun k => kn (f (28 + k) 10)) 8
def nky (f : q_F) : Int := csum (fun v => kn (f (36 + v) 4)) 18
theorem nks_b (f : q_F) : 0 ≤ nks f ∧ nks f ≤ 8 := csum_b 8 (fun i _ => by have := kn01 (f (28 + i) 10); omega)
theorem nky_b (f : q_F) : 0 ≤ nky f ∧ nky f ≤ 18 := csum_b 18 (fun i _ => by have := kn01 (f (36 + i) 4); omega)
def UB (f : q_F) : Int := 100000 + 40000 * nks f
theorem UB_b (f : q_F) : 100000 ≤ UB f ∧ UB f ≤ 420000 := by
  have := nks_b f
  unfold UB
  omega
def ab (z B : Int) : Prop := -B ≤ z ∧ z ≤ B
def dSec (fc fm : q_F) (k : Nat) : Prop := (fc (28 + k) 9 = NY ∧ fc (28 + k) 10 = NY ∧ fc (28 + k) 11 = NY ∧ fm 77 k = 0) ∨ (fm 77 k = 1 ∧ fc (28 + k) 9 = fm 86 k ∧ fc (28 + k) 10 = fm 87 k ∧ fc (28 + k) 11 = fm 88 k ∧ ab (fc (28 + k) 9) (UB fc) ∧ ab (fc (28 + k) 11) (UB fc) ∧ 0 ≤ fc (28 + k) 10 ∧ fc (28 + k) 10 ≤ 17000)
def dSym (fc fm : q_F) (v : Nat) : Prop := (fc (36 + v) 4 = NY ∧ fm 91 (v + 8) = 0) ∨ (fm 91 (v + 8) = 1 ∧ fc (36 + v) 4 = fm 95 (v + 8) ∧ ab (fc (36 + v) 4) (UB fc))
def dIn (fc fm : q_F) (k : Nat) : Prop := fc (16 + k) 4 = fm 64 k ∧ ab (fc (16 + k) 4) 1000000
/-- a section's items: its symbols unknown with it, its inputs inside it -/
def own (fc : q_F) (k : Nat) : Prop := (fc (28 + k) 10 = NY → ∀ j : Nat, fc (28 + k) 4 ≤ j → (j : Int) < fc (28 + k) 5 → fc 9 j = 2 → (fc 10 j).toNat < 18 → fc (36 + (fc 10 j).toNat) 4 = NY) ∧ (fc (28 + k) 10 ≠ NY → ∀ j : Nat, fc (28 + k) 4 ≤ j → (j : Int) < fc (28 + k) 5 → fc 9 j = 0 → (fc 10 j).toNat < 8 → fc (28 + k) 9 ≤ fc (16 + (fc 10 j).toNat) 4 ∧ fc (16 + (fc 10 j).toNat) 4 + fc (16 + (fc 10 j).toNat) 0 ≤ fc (28 + k) 9 + fc (28 + k) 10) ∧ (fc (28 + k) 10 ≠ NY → fc (28 + k) 8 = -1 → fc (28 + k) 7 = 1 → fc (28 + k) 11 = fc (28 + k) 9)
def DD (fc fm : q_F) : Prop := (∀ k : Nat, k < 8 → dSec fc fm k) ∧ (∀ v : Nat, v < 18 → dSym fc fm v) ∧ (∀ k : Nat, k < 8 → dIn fc fm k) ∧ ∀ k : Nat, k < 8 → fc (28 + k) 0 = 1 → own fc k
def DY (c0 m0 fc fm : q_F) : Prop := SC c0 fc ∧ SM m0 fm ∧ fm 60 21 = 0 ∧ DD fc fm
section DN
variable {fc fm g : q_F}
theorem DD.F (h : DD fc fm) : mF fm := by
  refine ⟨fun k hk => ?_, fun v h8 hv => ?_⟩
  · rcases h.1 k hk with q | q
    · exact Or.inl q.2.2.2
    · exact Or.inr q.1
  · have := h.2.1 (v - 8) (by omega)
    unfold dSym at this
    rw [show v - 8 + 8 = v by omega] at this
    rcases this with q | q
    · exact Or.inl q.2
    · exact Or.inr q.1
theorem ab_bnd {z : Int} (h : ab z (UB fc)) : bnd z := by
  have := UB_b fc
  unfold ab at h
  unfold bnd
  omega
theorem bnd_ny {z : Int} (h : bnd z) : z ≠ NY := by
  unfold bnd at h
  unfold NY
  omega
theorem DD.B (h : DD fc fm) : cB fc := by
  refine ⟨fun v hv => ?_, fun k hk => ?_⟩
  · rcases h.2.1 v hv with q | q
    · exact Or.inl q.1
    · exact Or.inr (ab_bnd q.2.2)
  · rcases h.1 k hk with q | q
    · exact ⟨Or.inl q.1, Or.inl q.2.1, Or.inl q.2.2.1⟩
    · refine ⟨Or.inr (ab_bnd q.2.2.2.2.1), Or.inr ?_, Or.inr (ab_bnd q.2.2.2.2.2.1)⟩
      unfold bnd
      omega
/-- values of steps: the class's and the reference's agree -/
theorem DD.w (h : DD fc fm) {k v V : Int} (hs : stepok k v V) (h1 : 1 ≤ k) (h4 : k ≤ 4) : (∃ z, cval fc k v = some z ∧ mrd fm k V = (1, z) ∧ ab z (UB fc)) ∨ (cval fc k v = none ∧ (mrd fm k V).1 = 0) := by
  have hu := UB_b fc
  unfold stepok at hs
  unfold cval crd mrd
  rw [if_neg (show ¬ k = 0 by omega)]
  by_cases e1 : k = 1
  · rw [if_pos e1, if_pos e1]
    have e8 : V.toNat = v.toNat + 8 := by omega
    rw [e8]
    rcases h.2.1 v.toNat (by omega) with q | q
    · rw [if_pos q.1]
      exact Or.inr ⟨rfl, q.2⟩
    · rw [if_neg (bnd_ny (ab_bnd q.2.2)), q.1, ← q.2.1]
      exact Or.inl ⟨_, rfl, rfl, q.2.2⟩
  · rw [if_neg e1, if_neg e1]
    have eV : V = v := by omega
    rw [eV]
    have hv := h.1 v.toNat (by omega)
    by_cases e2 : k = 2
    · rw [if_pos e2, if_pos e2]
      rcases hv with q | q
      · rw [if_pos q.1]
        exact Or.inr ⟨rfl, q.2.2.2⟩
      · rw [if_neg (bnd_ny (ab_bnd q.2.2.2.2.1)), q.1, ← q.2.1]
        exact Or.inl ⟨_, rfl, rfl, q.2.2.2.2.1⟩
    · rw [if_neg e2, if_neg e2]
      by_cases e3 : k = 3
      · rw [if_pos e3, if_pos e3]
        rcases hv with q | q
        · rw [if_pos q.2.2.1]
          exact Or.inr ⟨rfl, q.2.2.2⟩
        · rw [if_neg (bnd_ny (ab_bnd q.2.2.2.2.2.1)), q.1, ← q.2.2.2.1]
          exact Or.inl ⟨_, rfl, rfl, q.2.2.2.2.2.1⟩
      · rw [if_neg e3, if_neg e3]
        rcases hv with q | q
        · rw [if_pos q.2.1]
          exact Or.inr ⟨rfl, q.2.2.2⟩
        · have q9 : ab (fc (28 + v.toNat) 10) (UB fc) := by unfold ab; omega
          rw [if_neg (bnd_ny (ab_bnd q9)), q.1, ← q.2.2.1]
          exact Or.inl ⟨_, rfl, rfl, q9⟩
/-- a value stays as small as what it is made of -/
theorem evl_b {w : Int → Int → Option Int} {K V : Nat → Int} {B : Int} (hB : 100000 ≤ B) : ∀ (n a : Nat) (st s : List Int), (∀ j, a ≤ j → j < a + n → ksok (K j) (V j)) → (∀ k v z, ksok k v → 1 ≤ k → k ≤ 4 → w k v = some z → ab z B) → (∀ y ∈ st, ab y B) → evl w K V n a st = some (some s) → ∀ y ∈ s, ab y B := by
  intro n
  induction n with
  | zero =>
    intro a st s _ _ h he
    simp only [evl] at he
    cases he
    exact h
  | succ n ih =>
    intro a st s hk hw h he
    have hka := hk a (Nat.le_refl _) (by omega)
    simp only [evl] at he
    cases he1 : ev1 w (K a) (V a) st with
    | none => rw [he1] at he; cases he
    | some o =>
      cases o with
      | none => rw [he1] at he; cases he
      | some st' =>
        rw [he1] at he
        refine ih (a + 1) st' s (fun j c1 c2 => hk j (by omega) (by omega)) hw ?_ he
        have hka' := hka
        unfold ksok at hka'
        unfold ev1 at he1
        by_cases e0 : K a = 0
        · rw [if_pos e0] at he1
          cases he1
          intro y hy
          rcases List.mem_cons.mp hy with p | p
          · rw [p]
            unfold ab
            omega
          · exact h y p
        · rw [if_neg e0] at he1
          by_cases e4 : K a ≤ 4
          · rw [if_pos e4] at he1
            cases hwz : w (K a) (V a) with
            | none => rw [hwz] at he1; cases he1
            | some z =>
              rw [hwz] at he1
              cases he1
              intro y hy
              rcases List.mem_cons.mp hy with p | p
              · rw [p]
                exact hw _ _ _ hka (by omega) e4 hwz
              · exact h y p
          · rw [if_neg e4] at he1
            by_cases e7 : K a = 7
            · rw [if_pos e7] at he1
              cases st with
              | nil => cases he1
              | cons x r =>
                dsimp only at he1
                by_cases hg : 0 ≤ x ∧ up x (V a) ≤ 100000
                · rw [if_pos hg] at he1
                  cases he1
                  have hub : x ≤ up x (V a) := by
                    rcases hka' with q | q | q | q | q <;> first | omega | exact (up_b q.2).1
                  intro y hy
                  rcases List.mem_cons.mp hy with p | p
                  · rw [p]
                    unfold ab
                    omega
                  · exact h y (List.mem_cons_of_mem _ p)
                · rw [if_neg hg] at he1
                  cases he1
            · rw [if_neg e7] at he1
              cases st with
              | nil => cases he1
              | cons y0 r1 =>
                cases r1 with
                | nil => cases he1
                | cons x r =>
                  dsimp only at he1
                  generalize (if K a = 5 then x + y0 else x - y0) = z at he1
                  by_cases hg : -100000 ≤ z ∧ z ≤ 100000
                  · rw [if_pos hg] at he1
                    cases he1
                    intro y hy
                    rcases List.mem_cons.mp hy with p | p
                    · rw [p]
                      unfold ab
                      omega
                    · exact h y (List.mem_cons_of_mem _ (List.mem_cons_of_mem _ p))
                  · rw [if_neg hg] at he1
                    cases he1
/-- what is unsound stays so, when more is known -/
theorem ev1_mono {w w2 : Int → Int → Option Int} {k v : Int} {st : List Int} (hw : k ≠ 0 → k ≤ 4 → ∀ z, w k v = some z → w2 k v = some z) (h : ev1 w k v st ≠ none) : ev1 w2 k v st = ev1 w k v st := by
  unfold ev1 at *
  by_cases e0 : k = 0
  · rw [if_pos e0, if_pos e0]
  · rw [if_neg e0] at h
    rw [if_neg e0, if_neg e0]
    by_cases e4 : k ≤ 4
    · rw [if_pos e4] at h
      rw [if_pos e4, if_pos e4]
      cases hz : w k v with
      | none => rw [hz] at h; exact absurd rfl h
      | some z => rw [hw e0 e4 z hz]
    · rw [if_neg e4, if_neg e4]
theorem evl_mono {w w2 : Int → Int → Option Int} {K V : Nat → Int} : ∀ (n a : Nat) (st : List Int), (∀ j, a ≤ j → j < a + n → K j ≠ 0 → K j ≤ 4 → ∀ z, w (K j) (V j) = some z → w2 (K j) (V j) = some z) → evl w K V n a st = some none → evl w2 K V n a st = some none := by
  intro n
  induction n with
  | zero =>
    intro a st _ h
    simp only [evl] at h
    cases h
  | succ n ih =>
    intro a st hw h
    simp only [evl] at h ⊢
    have hm := ev1_mono (st := st) (hw a (Nat.le_refl _) (by omega))
    cases he : ev1 w (K a) (V a) st with
    | none => rw [he] at h; cases h
    | some o =>
      rw [hm (by rw [he]; simp), he]
      rw [he] at h
      cases o with
      | none => rfl
      | some st' => exact ih (a + 1) st' (fun j c1 c2 => hw j (by omega) (by omega)) h
/-- an expression of both -/
theorem ex_pair {a b A B : Int} {g' : q_F} (hS : sStp fc fm) (hD : DD fc fm) (hu : fm 60 21 = 0) (he : exok fc a b A B) : (∃ fd, p_Reckoner_valueOf a b fc g = some (xcode (evx fc a b), fd, g) ∧ ∀ c, c ≠ 55 → c ≠ 56 → fd c = fc c) ∧ (∀ s, evx fc a b = some (some s) → ab (xcode (evx fc a b)) (UB fc)) ∧ (∀ s, evx fc a b = some (some s) → xcode (evx fc a b) ≠ NY) ∧ ∃ x fn gn, p_Mod_reckon A B fm g' = some (x, fn, gn) ∧ MR fm fn ∧ (fn 60 20 = 0 ∨ fn 60 20 = 1) ∧ (∀ c, c ≠ 72 → gn c = g' c) ∧ (∀ s, evx fc a b = some (some s) → x = xcode (evx fc a b) ∧ fn 60 20 = 1 ∧ fn 60 21 = 0) ∧ (evx fc a b = none → fn 60 20 = 0 ∧ fn 60 21 = 0) ∧ (evx fc a b = some none → fn 60 21 = 1) := by
  obtain ⟨rfl, rfl, h0, h1, h2, h3⟩ := he
  have hks : ∀ j : Nat, (j : Int) < B → ksok (fc 12 j) (fc 13 j) := fun j hj => (hS.2 j (by omega)).2.ks
  have h160 := hS.1
  obtain ⟨fd, d1, d2, d3, d4⟩ := c_value (g := g) h0 h1 (by omega) hks h3 hD.B
  refine ⟨⟨fd, d1, d2⟩, fun s hs => ?_, d4, ?_⟩
  · have hall := evl_b (UB_b fc).1 _ _ _ _ (fun j c1 c2 => hks j (by omega)) (fun k v z hkv c1 c4 hz => by
      unfold cval at hz
      by_cases hN : crd fc k v = NY
      · rw [if_pos hN] at hz; cases hz
      · rw [if_neg hN] at hz
        cases hz
        have hst : ∃ V, stepok k v V := by
          unfold ksok at hkv
          unfold stepok
          by_cases e : k = 1
          · exact ⟨v + 8, by omega⟩
          · exact ⟨v, by omega⟩
        obtain ⟨V, hst⟩ := hst
        rcases hD.w hst c1 c4 with ⟨z, q1, q2, q3⟩ | ⟨q1, q2⟩
        · unfold cval at q1
          rw [if_neg hN] at q1
          cases q1
          exact q3
        · unfold cval at q1
          rw [if_neg hN] at q1
          cases q1) (fun y hy => by cases hy) hs
    have hne := d4 s hs
    rw [hs] at hne ⊢
    cases s with
    | nil => exact absurd rfl hne
    | cons x r => exact hall x (List.mem_cons_self)
  · have r70 : ∀ j : Nat, (j : Int) < B → fm 70 j = fc 12 j := fun j hj => (hS.2 j (by omega)).1
    have k1 : ma_up fm 60 20 1 60 20 = 1 := ma_up_self
    have mr := MR.u20 fm 1
    have wf2 : wfs (fm 70) (B - A).toNat A.toNat 0 1 := WF.ext h0 (by omega) r70 h3
    obtain ⟨x, fn, gn, e1, e2, e3, e4, e5, e6, e7⟩ := m_val (V := fc 13) (w := cval fc) (B - A).toNat A.toNat [] (ma_up fm 60 20 1) g' 1000 (by omega) (fun j c1 c2 => by
        rw [mr.1 70 (by omega), mr.1 71 (by omega), r70 j (by omega)]
        exact (hS.2 j (by omega)).2) (by rw [mr.1 70 (by omega)]; exact wf2) (by simp only [List.length_nil]; omega) (by omega) k1 (by rw [ma_up_at (by omega)]; exact hu) (mr.F hD.F) trivial (fun y hy => by cases hy) (fun k v V hkv c1 c4 => by
        have e : mrd (ma_up fm 60 20 1) k V = mrd fm k V := by
          unfold mrd
          rw [mr.1 91 (by omega), mr.1 95 (by omega), mr.1 77 (by omega), mr.1 86 (by omega), mr.1 88 (by omega), mr.1 87 (by omega)]
        rw [e]
        rcases hD.w hkv c1 c4 with ⟨z, q1, q2, q3⟩ | q
        · exact Or.inl ⟨z, q1, q2, ab_bnd q3⟩
        · exact Or.inr q)
    have evq : evl (cval fc) (ma_up fm 60 20 1 70) (fc 13) (B - A).toNat A.toNat [] = evx fc A B := by
      unfold evx
      rw [mr.1 70 (by omega)]
      have key : ∀ (n a : Nat) (st : List Int), (a + n : Int) ≤ B → evl (cval fc) (fm 70) (fc 13) n a st = evl (cval fc) (fc 12) (fc 13) n a st := by
        intro n
        induction n with
        | zero => intros; rfl
        | succ n ih =>
          intro a st hle
          simp only [evl]
          rw [r70 a (by omega)]
          cases ev1 (cval fc) (fc 12 a) (fc 13 a) st with
          | none => rfl
          | some o =>
            cases o with
            | none => rfl
            | some st' => exact ih (a + 1) st' (by omega)
      exact key _ _ _ (by omega)
    rw [evq] at e5 e6 e7
    refine ⟨x, fn, gn, ?_, mr.tr e2, e3, e4, e5, e6, e7⟩
    unfold p_Mod_reckon
    rw [← e1]
    dsimp only [q_let]
    congr 1 <;> omega
end DN
