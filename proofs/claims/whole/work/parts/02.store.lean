/-! ===== the store of a run: all that the law has made, as numbers. Cell a of the store lies at the heap's place (start + a) ===== -/
def ma_i (z : Int) : Value := .int (Int32.ofInt z)
def ma_j (z : Int) : Value := .long (Int64.ofInt z)
/-- the shape of a cell: an object of a class by its number, or an array by its type and length -/
abbrev ma_S : Type := Nat ⊕ (FieldType × Nat)
/-- the store: whether the heap ends with it, the shapes; ints (fields and elements), longs, references (by the store's own numbers) -/
abbrev ma_H : Type := (Bool × List ma_S) × (Nat → Nat → Int) × (Nat → Nat → Int) × (Nat → Nat → Option Nat)
/-- what a run fixes: launch, classes, good words, what else the tables say, how many cells the store has in the end; where the store begins, the script's place, length and ints; the classes' numbers and slots; the array classes -/
abbrev ma_G : Type := (Launch × List vw_C × List Cond × (State → Prop) × Nat) × (Nat × Nat × Nat × (Nat → Int32)) × va_G × (FieldType → ClassId)
abbrev g_l (G : ma_G) : Launch := G.1.1
abbrev g_cl (G : ma_G) : List vw_C := G.1.2.1
abbrev g_ws (G : ma_G) : List Cond := G.1.2.2.1
abbrev g_N (G : ma_G) : State → Prop := G.1.2.2.2.1
abbrev g_n (G : ma_G) : Nat := G.1.2.2.2.2
abbrev g_o (G : ma_G) : Nat := G.2.1.1
abbrev g_b (G : ma_G) : Nat := G.2.1.2.1
abbrev g_L (G : ma_G) : Nat := G.2.1.2.2.1
abbrev g_xs (G : ma_G) : Nat → Int32 := G.2.1.2.2.2
abbrev g_D (G : ma_G) : va_G := G.2.2.1
abbrev g_c (G : ma_G) : FieldType → ClassId := G.2.2.2
def ma_up {α : Type} (f : Nat → Nat → α) (a k : Nat) (v : α) : Nat → Nat → α := fun a' k' => if a' = a then (if k' = k then v else f a' k') else f a' k'
def ma_clr {α : Type} (f : Nat → Nat → α) (a : Nat) (v : α) : Nat → Nat → α := fun a' k' => if a' = a then v else f a' k'
theorem ma_up_ne {α : Type} {f : Nat → Nat → α} {a k b : Nat} {v : α} (h : b ≠ a) : ma_up f a k v b = f b := by
  funext k'
  simp [ma_up, h]
theorem ma_up_self {α : Type} {f : Nat → Nat → α} {a k : Nat} {v : α} : ma_up f a k v a k = v := by simp [ma_up]
theorem ma_up_at {α : Type} {f : Nat → Nat → α} {a k j : Nat} {v : α} (h : j ≠ k) : ma_up f a k v a j = f a j := by simp [ma_up, h]
theorem ma_clr_ne {α : Type} {f : Nat → Nat → α} {a b : Nat} {v : α} (h : b ≠ a) : ma_clr f a v b = f b := by
  funext k'
  simp [ma_clr, h]
theorem ma_clr_self {α : Type} {f : Nat → Nat → α} {a k : Nat} {v : α} : ma_clr f a v a k = v := by simp [ma_clr]
def ma_sI (h : ma_H) (a k : Nat) (z : Int) : ma_H := (h.1, ma_up h.2.1 a k z, h.2.2.1, h.2.2.2)
def ma_sJ (h : ma_H) (a k : Nat) (z : Int) : ma_H := (h.1, h.2.1, ma_up h.2.2.1 a k z, h.2.2.2)
def ma_sR (h : ma_H) (a k : Nat) (r : Option Nat) : ma_H := (h.1, h.2.1, h.2.2.1, ma_up h.2.2.2 a k r)
def ma_new (h : ma_H) (s : ma_S) : ma_H := ((h.1.1, h.1.2 ++ [s]), ma_clr h.2.1 h.1.2.length 0, ma_clr h.2.2.1 h.1.2.length 0, ma_clr h.2.2.2 h.1.2.length none)
/-! the store as cells of the heap -/
def ma_int (d : String) : Bool := d == "I" || d == "Z"
def ma_fv (o : Nat) (h : ma_H) (a k : Nat) (d : String) : Value := if ma_int d = true then ma_i (h.2.1 a k) else va_rf ((h.2.2.2 a k).map (o + ·))
def ma_fs (o : Nat) (h : ma_H) (a : Nat) (r : vw_C) : List Value := (List.range r.2.2).map fun k => ma_fv o h a k (r.2.1 k).2.2.1
def ma_ar (o : Nat) (h : ma_H) (a : Nat) (ty : FieldType) : (Nat → Int32) ⊕ (Nat → Int64) ⊕ (Nat → UInt32) ⊕ (Nat → UInt64) ⊕ (Nat → Option Nat) := match ty with
  | .long => .inr (.inl fun j => Int64.ofInt (h.2.2.1 a j))
  | .object _ => .inr (.inr (.inr (.inr fun j => (h.2.2.2 a j).map (o + ·))))
  | _ => .inl fun j => Int32.ofInt (h.2.1 a j)
def ma_ce (G : ma_G) (h : ma_H) (a : Nat) (s : ma_S) : va_E := match s with
  | .inl ci => .inr (ci, match (g_cl G)[ci]? with
    | some r => ma_fs (g_o G) h a r
    | none => [])
  | .inr q => .inl (g_c G q.1, q.2, ma_ar (g_o G) h a q.1)
def ma_ws (G : ma_G) (h : ma_H) : va_W := h.1.2.mapIdx fun a s => (g_o G + a, ma_ce G h a s)
theorem ma_ws_at {G : ma_G} {h : ma_H} {a : Nat} {s : ma_S} (ha : h.1.2[a]? = some s) : (ma_ws G h)[a]? = some (g_o G + a, ma_ce G h a s) := by
  simp [ma_ws, List.getElem?_mapIdx, ha]
theorem ma_ws_len {G : ma_G} {h : ma_H} : (ma_ws G h).length = h.1.2.length := by simp [ma_ws]
theorem ma_ws_inv {G : ma_G} {h : ma_H} {a : Nat} {q : Nat × va_E} (ha : (ma_ws G h)[a]? = some q) : ∃ s, h.1.2[a]? = some s ∧ q = (g_o G + a, ma_ce G h a s) := by
  simp only [ma_ws, List.getElem?_mapIdx] at ha
  cases hs : h.1.2[a]? with
  | none => rw [hs] at ha; cases ha
  | some s => rw [hs] at ha; exact ⟨s, rfl, (Option.some.inj ha).symm⟩
theorem ma_ce_row {G : ma_G} {h h' : ma_H} {b : Nat} (t : ma_S) (e1 : h'.2.1 b = h.2.1 b) (e2 : h'.2.2.1 b = h.2.2.1 b) (e3 : h'.2.2.2 b = h.2.2.2 b) : ma_ce G h' b t = ma_ce G h b t := by
  cases t with
  | inl ci => simp only [ma_ce, ma_fs, ma_fv, e1, e3]
  | inr q =>
    obtain ⟨ty, n⟩ := q
    cases ty <;> simp only [ma_ce, ma_ar, e1, e2, e3]
theorem ma_ws_ext {G : ma_G} {h h' : ma_H} {a : Nat} {s : ma_S} (hs : h'.1.2 = h.1.2) (ha : h.1.2[a]? = some s) (hne : ∀ b t, b ≠ a → ma_ce G h' b t = ma_ce G h b t) : ma_ws G h' = (ma_ws G h).set a (g_o G + a, ma_ce G h' a s) := by
  apply List.ext_getElem?
  intro i
  have hl : a < (ma_ws G h).length := by rw [ma_ws_len]; exact (List.getElem?_eq_some_iff.mp ha).1
  by_cases hi : i = a
  · subst hi
    rw [List.getElem?_set_self hl]
    exact ma_ws_at (by rw [hs]; exact ha)
  · rw [List.getElem?_set_ne (Ne.symm hi)]
    simp only [ma_ws, List.getElem?_mapIdx, hs]
    cases h.1.2[i]? with
    | none => rfl
    | some t => simp only [Option.map_some, hne i t hi]
theorem ma_ws_sI {G : ma_G} {h : ma_H} {a : Nat} {s : ma_S} (k : Nat) (z : Int) (ha : h.1.2[a]? = some s) : ma_ws G (ma_sI h a k z) = (ma_ws G h).set a (g_o G + a, ma_ce G (ma_sI h a k z) a s) :=
  ma_ws_ext rfl ha fun _ t hb => ma_ce_row t (ma_up_ne hb) rfl rfl
theorem ma_ws_sJ {G : ma_G} {h : ma_H} {a : Nat} {s : ma_S} (k : Nat) (z : Int) (ha : h.1.2[a]? = some s) : ma_ws G (ma_sJ h a k z) = (ma_ws G h).set a (g_o G + a, ma_ce G (ma_sJ h a k z) a s) :=
  ma_ws_ext rfl ha fun _ t hb => ma_ce_row t rfl (ma_up_ne hb) rfl
theorem ma_ws_sR {G : ma_G} {h : ma_H} {a : Nat} {s : ma_S} (k : Nat) (z : Option Nat) (ha : h.1.2[a]? = some s) : ma_ws G (ma_sR h a k z) = (ma_ws G h).set a (g_o G + a, ma_ce G (ma_sR h a k z) a s) :=
  ma_ws_ext rfl ha fun _ t hb => ma_ce_row t rfl rfl (ma_up_ne hb)
theorem ma_ws_new {G : ma_G} {h : ma_H} (s : ma_S) : ma_ws G (ma_new h s) = ma_ws G h ++ [(g_o G + h.1.2.length, ma_ce G (ma_new h s) h.1.2.length s)] := by
  apply List.ext_getElem?
  intro i
  have hl : (ma_ws G h).length = h.1.2.length := ma_ws_len
  by_cases hi : i < h.1.2.length
  · rw [List.getElem?_append_left (by omega)]
    have ne : i ≠ h.1.2.length := by omega
    have e0 : (ma_new h s).1.2[i]? = h.1.2[i]? := by
      show (h.1.2 ++ [s])[i]? = _
      exact List.getElem?_append_left hi
    simp only [ma_ws, List.getElem?_mapIdx, e0]
    cases h.1.2[i]? with
    | none => rfl
    | some t =>
      have e1 : ma_ce G (ma_new h s) i t = ma_ce G h i t := ma_ce_row t (ma_clr_ne ne) (ma_clr_ne ne) (ma_clr_ne ne)
      simp only [Option.map_some, e1]
  · rw [List.getElem?_append_right (by omega), hl]
    by_cases h2 : i = h.1.2.length
    · subst h2
      rw [Nat.sub_self]
      refine (ma_ws_at (s := s) ?_).trans rfl
      show (h.1.2 ++ [s])[h.1.2.length]? = _
      simp
    · have h3 : (ma_ws G (ma_new h s)).length ≤ i := by
        rw [ma_ws_len]
        show (h.1.2 ++ [s]).length ≤ i
        simp
        omega
      rw [List.getElem?_eq_none h3, List.getElem?_eq_none (by simp; omega)]
theorem ma_fs_len {o : Nat} {h : ma_H} {a : Nat} {r : vw_C} : (ma_fs o h a r).length = r.2.2 := by simp [ma_fs]
theorem ma_fs_at {o : Nat} {h : ma_H} {a k : Nat} {r : vw_C} (hk : k < r.2.2) : (ma_fs o h a r)[k]? = some (ma_fv o h a k (r.2.1 k).2.2.1) := by
  simp [ma_fs, List.getElem?_range hk]
theorem ma_ce_obj {G : ma_G} {h : ma_H} {a ci : Nat} {r : vw_C} (hc : (g_cl G)[ci]? = some r) : ma_ce G h a (.inl ci) = .inr (ci, ma_fs (g_o G) h a r) := by
  simp only [ma_ce, hc]
theorem ma_fs_set {o : Nat} {h h' : ma_H} {a k : Nat} {r : vw_C} (v : Value) (hk : ma_fv o h' a k (r.2.1 k).2.2.1 = v) (hne : ∀ j, j ≠ k → ma_fv o h' a j (r.2.1 j).2.2.1 = ma_fv o h a j (r.2.1 j).2.2.1) : ma_fs o h' a r = (ma_fs o h a r).set k v := by
  apply List.ext_getElem?
  intro j
  rw [List.getElem?_set, ma_fs_len]
  by_cases hj : j < r.2.2
  · rw [ma_fs_at hj, ma_fs_at hj]
    by_cases e : k = j
    · subst e
      rw [if_pos rfl, if_pos hj, hk]
    · rw [if_neg e, hne j (Ne.symm e)]
  · rw [List.getElem?_eq_none (by rw [ma_fs_len]; omega)]
    by_cases e : k = j
    · subst e
      rw [if_pos rfl, if_neg hj]
    · rw [if_neg e, List.getElem?_eq_none (by rw [ma_fs_len]; omega)]
theorem ma_fs_sI {o : Nat} {h : ma_H} {a k : Nat} {r : vw_C} {z : Int} (hd : ma_int (r.2.1 k).2.2.1 = true) : ma_fs o (ma_sI h a k z) a r = (ma_fs o h a r).set k (ma_i z) := by
  refine ma_fs_set _ ?_ fun j hj => ?_
  · simp [ma_fv, hd, ma_sI, ma_up]
  · simp [ma_fv, ma_sI, ma_up, hj]
theorem ma_fs_sR {o : Nat} {h : ma_H} {a k : Nat} {r : vw_C} {z : Option Nat} (hd : ma_int (r.2.1 k).2.2.1 = false) : ma_fs o (ma_sR h a k z) a r = (ma_fs o h a r).set k (va_rf (z.map (o + ·))) := by
  refine ma_fs_set _ ?_ fun j hj => ?_
  · simp [ma_fv, hd, ma_sR, ma_up]
  · simp [ma_fv, ma_sR, ma_up, hj]
/-- an array of a type that is kept as ints -/
def ma_ai (ty : FieldType) : Bool := match ty with
  | .int => true
  | .char => true
  | .boolean => true
  | _ => false
theorem ma_ar_i {o : Nat} {h : ma_H} {a : Nat} {ty : FieldType} (ht : ma_ai ty = true) : ma_ar o h a ty = .inl fun j => Int32.ofInt (h.2.1 a j) := by
  cases ty <;> first | rfl | cases ht
theorem ma_ar_sI {o : Nat} {h : ma_H} {a k : Nat} {z : Int} {ty : FieldType} (ht : ma_ai ty = true) : ma_ar o (ma_sI h a k z) a ty = .inl (upd (fun j => Int32.ofInt (h.2.1 a j)) k (Int32.ofInt z)) := by
  rw [ma_ar_i ht]
  congr 1
  funext j
  by_cases hj : j = k
  · subst hj
    simp [ma_sI, ma_up, upd]
  · simp [ma_sI, ma_up, upd, hj]
theorem ma_ar_sJ {o : Nat} {h : ma_H} {a k : Nat} {z : Int} : ma_ar o (ma_sJ h a k z) a .long = .inr (.inl (vp_updL (fun j => Int64.ofInt (h.2.2.1 a j)) k (Int64.ofInt z))) := by
  show Sum.inr (Sum.inl _) = _
  congr 2
  funext j
  by_cases hj : j = k
  · subst hj
    simp [ma_sJ, ma_up, vp_updL]
  · simp [ma_sJ, ma_up, vp_updL, hj]
theorem ma_ar_sR {o : Nat} {h : ma_H} {a k q : Nat} {C : String} : ma_ar o (ma_sR h a k (some q)) a (.object C) = .inr (.inr (.inr (.inr (va_up (fun j => (h.2.2.2 a j).map (o + ·)) k (some (o + q)))))) := by
  show Sum.inr (Sum.inr (Sum.inr (Sum.inr _))) = _
  congr 4
  funext j
  by_cases hj : j = k
  · subst hj
    simp [ma_sR, ma_up, va_up]
  · simp [ma_sR, ma_up, va_up, hj]
/-! numbers -/
def ma_r (z : Int) : Prop := -2147483648 ≤ z ∧ z ≤ 2147483647
theorem ma_toI {z : Int} (h : ma_r z) : (Int32.ofInt z).toInt = z := by
  obtain ⟨h1, h2⟩ := h
  exact Int32.toInt_ofInt_of_le (by omega) (by omega)
theorem ma_lt {x y : Int} (hx : ma_r x) (hy : ma_r y) : Int32.ofInt x < Int32.ofInt y ↔ x < y := by
  rw [Int32.lt_iff_toInt_lt, ma_toI hx, ma_toI hy]
theorem ma_le {x y : Int} (hx : ma_r x) (hy : ma_r y) : Int32.ofInt x ≤ Int32.ofInt y ↔ x ≤ y := by
  rw [Int32.le_iff_toInt_le, ma_toI hx, ma_toI hy]
theorem ma_eq {x y : Int} (hx : ma_r x) (hy : ma_r y) : Int32.ofInt x = Int32.ofInt y ↔ x = y := by
  rw [← Int32.toInt_inj, ma_toI hx, ma_toI hy]
theorem ma_nat {z : Int} (h0 : 0 ≤ z) (h1 : z ≤ 2147483647) : (Int32.ofInt z).toNatClampNeg = z.toNat :=
  Int32.toNatClampNeg_ofInt_of_le (by omega) (by omega)
theorem ma_in {z : Int} {n : Nat} (h0 : 0 ≤ z) (h1 : z < n) (h2 : z ≤ 2147483647) : vp_in (Int32.ofInt z) n := by
  intro h
  rcases h with h | h
  · rw [Int32.lt_iff_toInt_lt, ma_toI ⟨by omega, h2⟩] at h
    have : (0 : Int32).toInt = 0 := rfl
    omega
  · rw [ma_nat h0 h2] at h
    omega
