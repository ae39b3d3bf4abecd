/-! ===== walks: fields, arrays, new cells ===== -/
section EH
variable {G : ma_G} {F Lc k n : Nat} {M : ma_M} {pc : Nat} {ls : List (Nat × Value)} {st : List Value} {h : ma_H} {Z : ma_Z}
theorem ma_K1 {s : State} {c : ClassId} {ty : FieldType} (P : ma_Pre G s) (ha : ArrOfT s c ty ∧ va_RA s c ty) : va_K (g_D G) (g_cl G) [(c, ty)] s :=
  ⟨P.1.1, fun j q hq => by
    have hz : j < 1 := (List.getElem?_eq_some_iff.mp hq).1
    rw [show j = 0 by omega] at hq
    cases hq
    exact ha⟩
theorem ma_put {s : State} {H1 : Heap} {a : Nat} {sh : ma_S} {h' : ma_H} {H : Heap} {e : va_E} (r : ma_Rel G h s H) (e1 : h'.1 = h.1) (e2 : ma_ws G h' = (ma_ws G h).set a (g_o G + a, ma_ce G h' a sh)) (e3 : ma_ce G h' a sh = e)
     (hP : va_P (g_D G) (g_cl G) ((ma_ws G h).set a (g_o G + a, e)) H1) : ma_Rel G h' s H1 := by
  subst e3
  refine ⟨by rw [e2]; exact hP, ?_⟩
  rw [e1]; exact r.2
/-- a field by its row of the class's table, and the link by which a class names it -/
def ma_FL (G : ma_G) (own : String) (index ci fk : Nat) (d : String) (fin : Bool) : Prop := ∃ r : vw_C, (g_cl G)[ci]? = some r ∧ fk < r.2.2 ∧ (r.2.1 fk).1 = r.1 ∧ (r.2.1 fk).2.2.1 = d ∧ (r.2.1 fk).2.2.2 = fin ∧
  (Cond.fieldLink own index r.1 (r.2.1 fk).2.1 d ∈ g_ws G ∨ ∃ host, ∀ s : State, g_N G s → va_Nw (Cond.fieldLinkNest own index r.1 (r.2.1 fk).2.1 d host) s)
/-- .. by the class itself -/
def ma_FO (G : ma_G) (own : String) (index ci fk : Nat) (d : String) (fin : Bool) : Prop := ∃ r : vw_C, (g_cl G)[ci]? = some r ∧ fk < r.2.2 ∧ (r.2.1 fk).1 = r.1 ∧ (r.2.1 fk).2.2.1 = d ∧ (r.2.1 fk).2.2.2 = fin ∧ Cond.fieldLink own index r.1 (r.2.1 fk).2.1 d ∈ g_ws G
theorem ma_mem {r : vw_C} {ci : Nat} (h : (g_cl G)[ci]? = some r) : r ∈ g_cl G := List.mem_of_getElem? h
theorem ev_getf (ok : ma_ok G) {index ci fk a : Nat} {d : String} {fin : Bool} {v : Value} (f : ma_FL G (m_y M).cls index ci fk d fin) (dc : decode (m_c M) pc = .ok (.getfield index, 3)) (ha : h.1.2[a]? = some (.inl ci)) (hv1 : ma_fv (g_o G) h a fk d = v)
    (E : ma_Ev G F Lc k n M (pc + 3) ls (v :: st) h Z) : ma_Ev G F Lc k n M pc ls (.ref (g_o G + a) :: st) h Z := by
  intro p e s m args below meth c R H locs cells slots lsA C r S hv hc hs hex
  obtain ⟨⟨C0, T, N⟩, f1, f2, f3, f4, f5, f6⟩ := f
  dsimp only at f2 f3 f4 f5 f6
  have hts : ∀ w ∈ g_ws G, w.before args s = true := fun w hw => C.2.2.2.2.2.2.2.1 w (List.mem_cons_of_mem _ hw)
  have hin := (ok.2.2.2 _ (ma_mem f1)).1
  have hw : (ma_ws G h)[a]? = some (g_o G + a, .inr (ci, ma_fs (g_o G) h a (C0, T, N))) := by rw [ma_ws_at ha, ma_ce_obj f1]
  have P := C.2.2.2.2.2.2.2.2.2.1
  have hval : (ma_fs (g_o G) h a (C0, T, N))[fk]? = some v := by rw [ma_fs_at f2, ← hv1, ← f4]
  have hsame : ∀ x, s.fieldFound? (T fk).1 (T fk).2.1 (T fk).2.2.1 = some x → s.fieldFound? C0 (T fk).2.1 (T fk).2.2.1 = some x := fun x hx => by rw [f3] at hx; exact hx
  rcases f6 with f6 | ⟨host, f6⟩
  · exact va_get C.1 C.2.1 hts hin C.2.2.2.2.2.1 P.1 r.1 a hw f1 fk f2 (by rw [f4]; exact hts _ f6) hsame hval dc (E C r S hv hc hs hex)
  · exact va_getN C.1 C.2.1 hts hin C.2.2.2.2.2.1 P.1 r.1 a hw f1 fk f2 (host := host) (by rw [f4]; exact va_Nw.use rfl (f6 s P.2.2.1)) hsame hval dc (E C r S hv hc hs hex)
theorem ev_geti (ok : ma_ok G) {index ci fk a : Nat} {d : String} {fin : Bool} (f : ma_FL G (m_y M).cls index ci fk d fin) (hd : ma_int d = true) (dc : decode (m_c M) pc = .ok (.getfield index, 3)) (ha : h.1.2[a]? = some (.inl ci))
    (E : ma_Ev G F Lc k n M (pc + 3) ls (ma_i (h.2.1 a fk) :: st) h Z) : ma_Ev G F Lc k n M pc ls (.ref (g_o G + a) :: st) h Z :=
  ev_getf ok f dc ha (by simp [ma_fv, hd]) E
theorem ev_getr (ok : ma_ok G) {index ci fk a q : Nat} {d : String} {fin : Bool} (f : ma_FL G (m_y M).cls index ci fk d fin) (hd : ma_int d = false) (dc : decode (m_c M) pc = .ok (.getfield index, 3)) (ha : h.1.2[a]? = some (.inl ci)) (hq : h.2.2.2 a fk = some q)
    (E : ma_Ev G F Lc k n M (pc + 3) ls (.ref (g_o G + q) :: st) h Z) : ma_Ev G F Lc k n M pc ls (.ref (g_o G + a) :: st) h Z :=
  ev_getf ok f dc ha (by simp [ma_fv, hd, hq, va_rf]) E
/-- what a field of a type takes -/
def ma_fit (d : String) (v : Value) : Prop := ∃ ty, parseFieldDescriptor d = some ty ∧ narrow ty v = v ∧ fits ty v = true
theorem ma_fit_I (z : Int) : ma_fit "I" (ma_i z) := ⟨.int, by decide +kernel, rfl, rfl⟩
theorem ma_fit_Z {z : Int} (h : z = 0 ∨ z = 1) : ma_fit "Z" (ma_i z) := by
  refine ⟨.boolean, by decide +kernel, ?_, ?_⟩
  · rcases h with rfl | rfl <;> rfl
  · rcases h with rfl | rfl <;> rfl
theorem ma_tys {r : vw_C} (hs : ∀ j, j < r.2.2 → (parseFieldDescriptor (r.2.1 j).2.2.1).isSome = true) : ∀ j, j < r.2.2 → parseFieldDescriptor (r.2.1 j).2.2.1 = some ((fun j => (parseFieldDescriptor (r.2.1 j).2.2.1).getD .int) j) := by
  intro j hj
  have := hs j hj
  obtain ⟨y, hy⟩ := Option.isSome_iff_exists.mp this
  simp [hy]
theorem ev_putf (ok : ma_ok G) {index ci fk a : Nat} {d : String} {v : Value} {h' : ma_H} (f : ma_FL G (m_y M).cls index ci fk d false) (dc : decode (m_c M) pc = .ok (.putfield index, 3)) (ha : h.1.2[a]? = some (.inl ci)) (hf : ma_fit d v)
    (e1 : h'.1 = h.1) (e2 : ma_ws G h' = (ma_ws G h).set a (g_o G + a, ma_ce G h' a (.inl ci))) (e3 : ∀ r : vw_C, (g_cl G)[ci]? = some r → (r.2.1 fk).2.2.1 = d → ma_fs (g_o G) h' a r = (ma_fs (g_o G) h a r).set fk v)
    (E : ma_Ev G F Lc k n M (pc + 3) ls st h' Z) : ma_Ev G F Lc k n M pc ls (v :: .ref (g_o G + a) :: st) h Z := by
  intro p e s m args below meth c R H locs cells slots lsA C r S hv hc hs hex
  obtain ⟨⟨C0, T, N⟩, f1, f2, f3, f4, f5, f6⟩ := f
  have e4 := e3 _ f1 f4
  dsimp only at f2 f3 f4 f5 f6
  obtain ⟨ty, t1, t2, t3⟩ := hf
  have hts : ∀ w ∈ g_ws G, w.before args s = true := fun w hw => C.2.2.2.2.2.2.2.1 w (List.mem_cons_of_mem _ hw)
  obtain ⟨hin, hso, hnm⟩ := ok.2.2.2 _ (ma_mem f1)
  have hw : (ma_ws G h)[a]? = some (g_o G + a, .inr (ci, ma_fs (g_o G) h a (C0, T, N))) := by rw [ma_ws_at ha, ma_ce_obj f1]
  have P := C.2.2.2.2.2.2.2.2.2.1
  have hsame : ∀ x, s.fieldFound? (T fk).1 (T fk).2.1 (T fk).2.2.1 = some x → s.fieldFound? C0 (T fk).2.1 (T fk).2.2.1 = some x := fun x hx => by rw [f3] at hx; exact hx
  have hl : fk < (ma_fs (g_o G) h a (C0, T, N)).length := by rw [ma_fs_len]; exact f2
  have fin : ∀ (H1 : Heap) (locs1 : List Loc), va_P (g_D G) (g_cl G) ((ma_ws G h).set a (g_o G + a, .inr (ci, (ma_fs (g_o G) h a (C0, T, N)).set fk v))) H1 → va_D (ma_A G) ((ma_ws G h).set a (g_o G + a, .inr (ci, (ma_fs (g_o G) h a (C0, T, N)).set fk v))) → va_S (ma_A G) s.heap H1 locs1 →
      W p (g_l G) e R s m args below meth c H1 locs1 cells slots (Z below args s R) (F0 m (pc + 3) lsA st) := by
    intro H1 locs1 hP hD hS
    exact E C (ma_put r e1 e2 (by rw [ma_ce_obj f1, e4]) hP) hS hv hc hs (by rw [e1]; exact hex)
  rcases f6 with f6 | ⟨host, f6⟩
  · exact va_put C.1 C.2.1 hts hin _ (ma_tys (r := (C0, T, N)) hso) hnm C.2.2.2.2.2.1 P.1 r.1 (ma_D r.2.2.1) S a hw f1 fk f2 (by rw [f4]; exact hts _ f6) hsame f5 (by rw [f4]; exact t1) t2 t3 hl dc fin
  · exact va_putN C.1 C.2.1 hts hin _ (ma_tys (r := (C0, T, N)) hso) hnm C.2.2.2.2.2.1 P.1 r.1 (ma_D r.2.2.1) S a hw f1 fk f2 (host := host) (by rw [f4]; exact va_Nw.use rfl (f6 s P.2.2.1)) hsame f5 (by rw [f4]; exact t1) t2 t3 hl dc fin
theorem ev_puti (ok : ma_ok G) {index ci fk a : Nat} {d : String} {z : Int} (f : ma_FL G (m_y M).cls index ci fk d false) (hd : ma_int d = true) (hf : ma_fit d (ma_i z)) (dc : decode (m_c M) pc = .ok (.putfield index, 3)) (ha : h.1.2[a]? = some (.inl ci))
    (E : ma_Ev G F Lc k n M (pc + 3) ls st (ma_sI h a fk z) Z) : ma_Ev G F Lc k n M pc ls (ma_i z :: .ref (g_o G + a) :: st) h Z :=
  ev_putf (h' := ma_sI h a fk z) ok f dc ha hf rfl (ma_ws_sI fk z ha) (fun r _ e => ma_fs_sI (by rw [e]; exact hd)) E
theorem ev_putF (ok : ma_ok G) {index ci fk a : Nat} {d : String} {v : Value} {h' : ma_H} (f : ma_FO G (m_y M).cls index ci fk d true) (hown : ∀ r : vw_C, (g_cl G)[ci]? = some r → r.1 = (m_y M).cls) (hini : (m_y M).name = "<init>") (dc : decode (m_c M) pc = .ok (.putfield index, 3)) (ha : h.1.2[a]? = some (.inl ci)) (hf : ma_fit d v)
    (e1 : h'.1 = h.1) (e2 : ma_ws G h' = (ma_ws G h).set a (g_o G + a, ma_ce G h' a (.inl ci))) (e3 : ∀ r : vw_C, (g_cl G)[ci]? = some r → (r.2.1 fk).2.2.1 = d → ma_fs (g_o G) h' a r = (ma_fs (g_o G) h a r).set fk v)
    (E : ma_Ev G F Lc k n M (pc + 3) ls st h' Z) : ma_Ev G F Lc k n M pc ls (v :: .ref (g_o G + a) :: st) h Z := by
  intro p e s m args below meth c R H locs cells slots lsA C r S hv hc hs hex
  obtain ⟨⟨C0, T, N⟩, f1, f2, f3, f4, f5, f6⟩ := f
  have e4 := e3 _ f1 f4
  have hC0 := hown _ f1
  dsimp only at f2 f3 f4 f5 f6 hC0
  obtain ⟨ty, t1, t2, t3⟩ := hf
  have hts : ∀ w ∈ g_ws G, w.before args s = true := fun w hw => C.2.2.2.2.2.2.2.1 w (List.mem_cons_of_mem _ hw)
  obtain ⟨hin, hso, hnm⟩ := ok.2.2.2 _ (ma_mem f1)
  have hw : (ma_ws G h)[a]? = some (g_o G + a, .inr (ci, ma_fs (g_o G) h a (C0, T, N))) := by rw [ma_ws_at ha, ma_ce_obj f1]
  have P := C.2.2.2.2.2.2.2.2.2.1
  have hsame : ∀ x, s.fieldFound? (T fk).1 (T fk).2.1 (T fk).2.2.1 = some x → s.fieldFound? C0 (T fk).2.1 (T fk).2.2.1 = some x := fun x hx => by rw [f3] at hx; exact hx
  have hl : fk < (ma_fs (g_o G) h a (C0, T, N)).length := by rw [ma_fs_len]; exact f2
  refine va_putF C.1 C.2.1 hts hin _ (ma_tys (r := (C0, T, N)) hso) hnm C.2.2.2.2.2.1 P.1 r.1 (ma_D r.2.2.1) S a hw f1 fk f2 (by rw [f4]; exact hts _ f6) hsame f5 (C.2.2.2.2.2.2.1.trans hini) (f3.trans hC0) (by rw [f4]; exact t1) t2 t3 hl dc fun H1 locs1 hP hD hS => ?_
  exact E C (ma_put r e1 e2 (by rw [ma_ce_obj f1, e4]) hP) hS hv hc hs (by rw [e1]; exact hex)
theorem ev_putFi (ok : ma_ok G) {index ci fk a : Nat} {d : String} {z : Int} (f : ma_FO G (m_y M).cls index ci fk d true) (hown : ∀ r : vw_C, (g_cl G)[ci]? = some r → r.1 = (m_y M).cls) (hini : (m_y M).name = "<init>") (hd : ma_int d = true) (hf : ma_fit d (ma_i z)) (dc : decode (m_c M) pc = .ok (.putfield index, 3)) (ha : h.1.2[a]? = some (.inl ci))
    (E : ma_Ev G F Lc k n M (pc + 3) ls st (ma_sI h a fk z) Z) : ma_Ev G F Lc k n M pc ls (ma_i z :: .ref (g_o G + a) :: st) h Z :=
  ev_putF (h' := ma_sI h a fk z) ok f hown hini dc ha hf rfl (ma_ws_sI fk z ha) (fun r _ e => ma_fs_sI (by rw [e]; exact hd)) E
theorem ev_putFr (ok : ma_ok G) {index ci fk a q : Nat} {d : String} (f : ma_FO G (m_y M).cls index ci fk d true) (hown : ∀ r : vw_C, (g_cl G)[ci]? = some r → r.1 = (m_y M).cls) (hini : (m_y M).name = "<init>") (hd : ma_int d = false) (hf : ma_fit d (.ref (g_o G + q))) (dc : decode (m_c M) pc = .ok (.putfield index, 3)) (ha : h.1.2[a]? = some (.inl ci))
    (E : ma_Ev G F Lc k n M (pc + 3) ls st (ma_sR h a fk (some q)) Z) : ma_Ev G F Lc k n M pc ls (.ref (g_o G + q) :: .ref (g_o G + a) :: st) h Z :=
  ev_putF (h' := ma_sR h a fk (some q)) ok f hown hini dc ha hf rfl (ma_ws_sR fk (some q) ha) (fun r _ e => ma_fs_sR (by rw [e]; exact hd)) E
/-! arrays -/
theorem ma_aw {a : Nat} {ty : FieldType} {len : Nat} (ha : h.1.2[a]? = some (.inr (ty, len))) : (ma_ws G h)[a]? = some (g_o G + a, .inl (g_c G ty, len, ma_ar (g_o G) h a ty)) := ma_ws_at ha
theorem ma_awi {a : Nat} {ty : FieldType} {len : Nat} (ht : ma_ai ty = true) (ha : h.1.2[a]? = some (.inr (ty, len))) : (ma_ws G h)[a]? = some (g_o G + a, .inl (g_c G ty, len, .inl fun j => Int32.ofInt (h.2.1 a j))) := by
  rw [ma_aw ha, ma_ar_i ht]
theorem ev_iald {a len : Nat} {z : Int} (dc : decode (m_c M) pc = .ok (.iaload, 1)) (ha : h.1.2[a]? = some (.inr (.int, len))) (h0 : 0 ≤ z) (h1 : z < len) (h2 : len ≤ 2147483647) (E : ma_Ev G F Lc k n M (pc + 1) ls (ma_i (h.2.1 a z.toNat) :: st) h Z) : ma_Ev G F Lc k n M pc ls (ma_i z :: .ref (g_o G + a) :: st) h Z := by
  intro p e s m args below meth c R H locs cells slots lsA C r S hv hc hs hex
  have e9 : (Int32.ofInt z).toNatClampNeg = z.toNat := ma_nat h0 (by omega)
  refine va_iald C.1 C.2.1 (ma_K1 C.2.2.2.2.2.2.2.2.2.1 (r.2.1 a _ _ ha)) r.1 a 0 (ma_awi rfl ha) rfl (ma_in h0 h1 (by omega)) dc ?_
  rw [e9]
  exact E C r S hv hc hs hex
theorem ev_cald {a len : Nat} {z : Int} (dc : decode (m_c M) pc = .ok (.caload, 1)) (ha : h.1.2[a]? = some (.inr (.char, len))) (h0 : 0 ≤ z) (h1 : z < len) (h2 : len ≤ 2147483647) (E : ma_Ev G F Lc k n M (pc + 1) ls (ma_i (h.2.1 a z.toNat) :: st) h Z) : ma_Ev G F Lc k n M pc ls (ma_i z :: .ref (g_o G + a) :: st) h Z := by
  intro p e s m args below meth c R H locs cells slots lsA C r S hv hc hs hex
  have e9 : (Int32.ofInt z).toNatClampNeg = z.toNat := ma_nat h0 (by omega)
  refine va_cald C.1 C.2.1 (ma_K1 C.2.2.2.2.2.2.2.2.2.1 (r.2.1 a _ _ ha)) r.1 a 0 (ma_awi rfl ha) rfl (ma_in h0 h1 (by omega)) dc ?_
  rw [e9]
  exact E C r S hv hc hs hex
theorem ev_zald {a len : Nat} {z : Int} (dc : decode (m_c M) pc = .ok (.baload, 1)) (ha : h.1.2[a]? = some (.inr (.boolean, len))) (h0 : 0 ≤ z) (h1 : z < len) (h2 : len ≤ 2147483647) (E : ma_Ev G F Lc k n M (pc + 1) ls (ma_i (h.2.1 a z.toNat) :: st) h Z) : ma_Ev G F Lc k n M pc ls (ma_i z :: .ref (g_o G + a) :: st) h Z := by
  intro p e s m args below meth c R H locs cells slots lsA C r S hv hc hs hex
  have e9 : (Int32.ofInt z).toNatClampNeg = z.toNat := ma_nat h0 (by omega)
  refine va_zald C.1 C.2.1 (ma_K1 C.2.2.2.2.2.2.2.2.2.1 (r.2.1 a _ _ ha)) r.1 a 0 (ma_awi rfl ha) rfl (ma_in h0 h1 (by omega)) dc ?_
  rw [e9]
  exact E C r S hv hc hs hex
theorem ev_lald {a len : Nat} {z : Int} (dc : decode (m_c M) pc = .ok (.laload, 1)) (ha : h.1.2[a]? = some (.inr (.long, len))) (h0 : 0 ≤ z) (h1 : z < len) (h2 : len ≤ 2147483647) (E : ma_Ev G F Lc k n M (pc + 1) ls (ma_j (h.2.2.1 a z.toNat) :: st) h Z) : ma_Ev G F Lc k n M pc ls (ma_i z :: .ref (g_o G + a) :: st) h Z := by
  intro p e s m args below meth c R H locs cells slots lsA C r S hv hc hs hex
  have e9 : (Int32.ofInt z).toNatClampNeg = z.toNat := ma_nat h0 (by omega)
  refine va_lald C.1 C.2.1 (ma_K1 C.2.2.2.2.2.2.2.2.2.1 (r.2.1 a _ _ ha)) r.1 a 0 (ma_aw ha) rfl (ma_in h0 h1 (by omega)) dc ?_
  rw [e9]
  exact E C r S hv hc hs hex
theorem ev_aald {a len q : Nat} {z : Int} {C0 : String} (dc : decode (m_c M) pc = .ok (.aaload, 1)) (ha : h.1.2[a]? = some (.inr (.object C0, len))) (h0 : 0 ≤ z) (h1 : z < len) (h2 : len ≤ 2147483647) (hq : h.2.2.2 a z.toNat = some q) (E : ma_Ev G F Lc k n M (pc + 1) ls (.ref (g_o G + q) :: st) h Z) : ma_Ev G F Lc k n M pc ls (ma_i z :: .ref (g_o G + a) :: st) h Z := by
  intro p e s m args below meth c R H locs cells slots lsA C r S hv hc hs hex
  have e9 : (Int32.ofInt z).toNatClampNeg = z.toNat := ma_nat h0 (by omega)
  refine va_aldq C.1 C.2.1 (ma_K1 C.2.2.2.2.2.2.2.2.2.1 (r.2.1 a _ _ ha)) r.1 a 0 (ma_aw ha) rfl (ma_in h0 h1 (by omega)) dc ?_
  rw [e9, hq]
  exact E C r S hv hc hs hex
theorem ev_iast {a len : Nat} {z x : Int} (dc : decode (m_c M) pc = .ok (.iastore, 1)) (ha : h.1.2[a]? = some (.inr (.int, len))) (h0 : 0 ≤ z) (h1 : z < len) (h2 : len ≤ 2147483647) (E : ma_Ev G F Lc k n M (pc + 1) ls st (ma_sI h a z.toNat x) Z) : ma_Ev G F Lc k n M pc ls (ma_i x :: ma_i z :: .ref (g_o G + a) :: st) h Z := by
  intro p e s m args below meth c R H locs cells slots lsA C r S hv hc hs hex
  have e9 : (Int32.ofInt z).toNatClampNeg = z.toNat := ma_nat h0 (by omega)
  refine va_iast C.1 C.2.1 (ma_K1 C.2.2.2.2.2.2.2.2.2.1 (r.2.1 a _ _ ha)) r.1 (ma_D r.2.2.1) S a 0 (ma_awi rfl ha) rfl (ma_in h0 h1 (by omega)) dc fun H1 locs1 hP hD hS => ?_
  rw [e9] at hP
  exact E C (ma_put r rfl (ma_ws_sI z.toNat x ha) (by show Sum.inl (_, _, ma_ar _ _ _ _) = _; rw [ma_ar_sI rfl]) hP) hS hv hc hs hex
theorem ev_cast {a len : Nat} {z x : Int} (dc : decode (m_c M) pc = .ok (.castore, 1)) (ha : h.1.2[a]? = some (.inr (.char, len))) (h0 : 0 ≤ z) (h1 : z < len) (h2 : len ≤ 2147483647) (hx : vp_nar .char (Int32.ofInt x) = Int32.ofInt x) (E : ma_Ev G F Lc k n M (pc + 1) ls st (ma_sI h a z.toNat x) Z) : ma_Ev G F Lc k n M pc ls (ma_i x :: ma_i z :: .ref (g_o G + a) :: st) h Z := by
  intro p e s m args below meth c R H locs cells slots lsA C r S hv hc hs hex
  have e9 : (Int32.ofInt z).toNatClampNeg = z.toNat := ma_nat h0 (by omega)
  refine va_cast C.1 C.2.1 (ma_K1 C.2.2.2.2.2.2.2.2.2.1 (r.2.1 a _ _ ha)) r.1 (ma_D r.2.2.1) S a 0 (ma_awi rfl ha) rfl (ma_in h0 h1 (by omega)) dc fun H1 locs1 hP hD hS => ?_
  rw [e9, hx] at hP
  exact E C (ma_put r rfl (ma_ws_sI z.toNat x ha) (by show Sum.inl (_, _, ma_ar _ _ _ _) = _; rw [ma_ar_sI rfl]) hP) hS hv hc hs hex
theorem ev_zast {a len : Nat} {z x : Int} (dc : decode (m_c M) pc = .ok (.bastore, 1)) (ha : h.1.2[a]? = some (.inr (.boolean, len))) (h0 : 0 ≤ z) (h1 : z < len) (h2 : len ≤ 2147483647) (hx : vp_nar .boolean (Int32.ofInt x) = Int32.ofInt x) (E : ma_Ev G F Lc k n M (pc + 1) ls st (ma_sI h a z.toNat x) Z) : ma_Ev G F Lc k n M pc ls (ma_i x :: ma_i z :: .ref (g_o G + a) :: st) h Z := by
  intro p e s m args below meth c R H locs cells slots lsA C r S hv hc hs hex
  have e9 : (Int32.ofInt z).toNatClampNeg = z.toNat := ma_nat h0 (by omega)
  refine va_zast C.1 C.2.1 (ma_K1 C.2.2.2.2.2.2.2.2.2.1 (r.2.1 a _ _ ha)) r.1 (ma_D r.2.2.1) S a 0 (ma_awi rfl ha) rfl (ma_in h0 h1 (by omega)) dc fun H1 locs1 hP hD hS => ?_
  rw [e9, hx] at hP
  exact E C (ma_put r rfl (ma_ws_sI z.toNat x ha) (by show Sum.inl (_, _, ma_ar _ _ _ _) = _; rw [ma_ar_sI rfl]) hP) hS hv hc hs hex
theorem ev_last {a len : Nat} {z x : Int} (dc : decode (m_c M) pc = .ok (.lastore, 1)) (ha : h.1.2[a]? = some (.inr (.long, len))) (h0 : 0 ≤ z) (h1 : z < len) (h2 : len ≤ 2147483647) (E : ma_Ev G F Lc k n M (pc + 1) ls st (ma_sJ h a z.toNat x) Z) : ma_Ev G F Lc k n M pc ls (ma_j x :: ma_i z :: .ref (g_o G + a) :: st) h Z := by
  intro p e s m args below meth c R H locs cells slots lsA C r S hv hc hs hex
  have e9 : (Int32.ofInt z).toNatClampNeg = z.toNat := ma_nat h0 (by omega)
  refine va_last C.1 C.2.1 (ma_K1 C.2.2.2.2.2.2.2.2.2.1 (r.2.1 a _ _ ha)) r.1 (ma_D r.2.2.1) S a 0 (ma_aw ha) rfl (ma_in h0 h1 (by omega)) dc fun H1 locs1 hP hD hS => ?_
  rw [e9] at hP
  exact E C (ma_put r rfl (ma_ws_sJ z.toNat x ha) (by show Sum.inl (_, _, ma_ar _ _ _ _) = _; rw [ma_ar_sJ]) hP) hS hv hc hs hex
theorem ev_aast {a len q ci : Nat} {z : Int} {rc : vw_C} (dc : decode (m_c M) pc = .ok (.aastore, 1)) (ha : h.1.2[a]? = some (.inr (.object rc.1, len))) (h0 : 0 ≤ z) (h1 : z < len) (h2 : len ≤ 2147483647) (hq : h.1.2[q]? = some (.inl ci)) (hci : (g_cl G)[ci]? = some rc) (E : ma_Ev G F Lc k n M (pc + 1) ls st (ma_sR h a z.toNat (some q)) Z) : ma_Ev G F Lc k n M pc ls (.ref (g_o G + q) :: ma_i z :: .ref (g_o G + a) :: st) h Z := by
  intro p e s m args below meth c R H locs cells slots lsA C r S hv hc hs hex
  have e9 : (Int32.ofInt z).toNatClampNeg = z.toNat := ma_nat h0 (by omega)
  have hqw : (ma_ws G h)[q]? = some (g_o G + q, .inr (ci, ma_fs (g_o G) h q rc)) := by rw [ma_ws_at hq, ma_ce_obj hci]
  refine va_astq C.1 C.2.1 (ma_K1 C.2.2.2.2.2.2.2.2.2.1 (r.2.1 a _ _ ha)) r.1 (ma_D r.2.2.1) S a 0 q ci (ma_aw ha) rfl hqw hci (ma_in h0 h1 (by omega)) dc fun H1 locs1 hP hD hS => ?_
  rw [e9] at hP
  exact E C (ma_put r rfl (ma_ws_sR z.toNat (some q) ha) (by show Sum.inl (_, _, ma_ar _ _ _ _) = _; rw [ma_ar_sR]) hP) hS hv hc hs hex
theorem ev_alen {a len : Nat} {ty : FieldType} (dc : decode (m_c M) pc = .ok (.arraylength, 1)) (ha : h.1.2[a]? = some (.inr (ty, len))) (E : ma_Ev G F Lc k n M (pc + 1) ls (ma_i len :: st) h Z) : ma_Ev G F Lc k n M pc ls (.ref (g_o G + a) :: st) h Z := by
  intro p e s m args below meth c R H locs cells slots lsA C r S hv hc hs hex
  exact va_alen C.1 C.2.1 (ma_K1 C.2.2.2.2.2.2.2.2.2.1 (r.2.1 a _ _ ha)) r.1 a 0 (ma_aw ha) rfl (Int32.ofInt_eq_ofNat).symm dc (E C r S hv hc hs hex)
theorem ev_slen (dc : decode (m_c M) pc = .ok (.arraylength, 1)) (E : ma_Ev G F Lc k n M (pc + 1) ls (ma_i (g_L G) :: st) h Z) : ma_Ev G F Lc k n M pc ls (.ref (g_b G) :: st) h Z := by
  intro p e s m args below meth c R H locs cells slots lsA C r S hv hc hs hex
  have P := C.2.2.2.2.2.2.2.2.2.1
  have hb : ¬ ma_A G (g_b G) := fun q => absurd P.2.2.2.2.1 (Nat.not_lt.mpr q.1)
  refine va_slen C.1 C.2.1 P.2.2.2.1 (Nat.lt_of_lt_of_le P.2.2.2.2.1 P.2.2.2.2.2.1) hb S dc ?_
  rw [← Int32.ofInt_eq_ofNat]
  exact E C r S hv hc hs hex
theorem ev_sld {z : Int} (dc : decode (m_c M) pc = .ok (.iaload, 1)) (h0 : 0 ≤ z) (h1 : z < g_L G) (h2 : g_L G ≤ 2147483647) (E : ma_Ev G F Lc k n M (pc + 1) ls (ma_i (g_xs G z.toNat).toInt :: st) h Z) : ma_Ev G F Lc k n M pc ls (ma_i z :: .ref (g_b G) :: st) h Z := by
  intro p e s m args below meth c R H locs cells slots lsA C r S hv hc hs hex
  have P := C.2.2.2.2.2.2.2.2.2.1
  have e9 : (Int32.ofInt z).toNatClampNeg = z.toNat := ma_nat h0 (by omega)
  have hb : ¬ ma_A G (g_b G) := fun q => absurd P.2.2.2.2.1 (Nat.not_lt.mpr q.1)
  refine va_sld C.1 C.2.1 P.2.2.2.1 (Nat.lt_of_lt_of_le P.2.2.2.2.1 P.2.2.2.2.2.1) hb S (ma_in h0 h1 (by omega)) dc ?_
  rw [e9]
  have e8 : Value.int (g_xs G z.toNat) = ma_i (g_xs G z.toNat).toInt := by unfold ma_i; rw [Int32.ofInt_toInt]
  rw [e8]
  exact E C r S hv hc hs hex
/-! new cells: only while the heap ends with the store -/
theorem ma_size {s : State} {H : Heap} {locs : List Loc} {cells : Nat} (P : ma_Pre G s) (r : ma_Rel G h s H) (S : va_S (ma_A G) s.heap H locs) (hb : H.size ≤ s.heap.size + cells) (hz : s.heap.size + cells = g_o G + h.1.2.length) : H.size = g_o G + h.1.2.length := by
  have h1 : g_o G ≤ H.size := Nat.le_trans P.2.2.2.2.2.1 S.1
  by_cases hl : h.1.2.length = 0
  · omega
  · have h2 : h.1.2.length - 1 < h.1.2.length := by omega
    have h3 := (r.1 _ _ (ma_ws_at (List.getElem?_eq_getElem h2))).lt
    dsimp only at h3
    omega
theorem ma_grow {s : State} {H1 : Heap} {sh : ma_S} {H : Heap} (r : ma_Rel G h s H) (hf : h.1.1 = true) (hn : h.1.2.length < g_n G) (hk : ∀ q : Nat, q < H.size → H1[q]? = H[q]?) (hat : va_at (g_D G) (g_cl G) (g_o G + h.1.2.length, ma_ce G (ma_new h sh) h.1.2.length sh) H1)
    (hA : ∀ ty len, sh = .inr (ty, len) → ArrOfT s (g_c G ty) ty ∧ va_RA s (g_c G ty) ty) : ma_Rel G (ma_new h sh) s H1 := by
  refine ⟨?_, fun a ty len ha => ?_, ?_, fun q => ?_⟩
  · rw [ma_ws_new]
    refine va_P.app (r.1.kept fun j q hq => hk _ ((r.1 j q hq).lt)) (fun j q hq => ?_)
    have hz9 : j < 1 := (List.getElem?_eq_some_iff.mp hq).1
    rw [show j = 0 by omega] at hq
    cases hq
    exact hat
  · have ha' : (h.1.2 ++ [sh])[a]? = some (.inr (ty, len)) := ha
    by_cases hl : a < h.1.2.length
    · rw [List.getElem?_append_left hl] at ha'
      exact r.2.1 a ty len ha'
    · rw [List.getElem?_append_right (by omega)] at ha'
      have hz9 : a - h.1.2.length < 1 := (List.getElem?_eq_some_iff.mp ha').1
      rw [show a - h.1.2.length = 0 by omega] at ha'
      exact hA ty len (Option.some.inj ha')
  · show (h.1.2 ++ [sh]).length ≤ g_n G
    rw [List.length_append]
    simp only [List.length_cons, List.length_nil]
    omega
  · have q2 : h.1.1 = false := q
    rw [hf] at q2
    cases q2
theorem ma_ex1 {s : State} {sh : ma_S} {cells : Nat} (hz : s.heap.size + cells = g_o G + h.1.2.length) : s.heap.size + (cells + 1) = g_o G + (ma_new h sh).1.2.length := by
  show s.heap.size + (cells + 1) = g_o G + (h.1.2 ++ [sh]).length
  rw [List.length_append]
  simp only [List.length_cons, List.length_nil]
  omega
/-- what a class's new object holds -/
def ma_def (r : vw_C) : Prop := ∀ j, j < r.2.2 → (parseFieldDescriptor (r.2.1 j).2.2.1).map defaultValue = some (if ma_int (r.2.1 j).2.2.1 = true then .int 0 else .null)
theorem ev_new (ok : ma_ok G) {index ci N : Nat} {r0 : vw_C} (dc : decode (m_c M) pc = .ok (.new index, 3)) (hf : h.1.1 = true) (hn : h.1.2.length < g_n G) (hci : (g_cl G)[ci]? = some r0) (hN : r0.2.2 = N) (hdf : ma_def r0) (w1 : Cond.classLink (m_y M).cls index r0.1 ∈ g_ws G) (w2 : Cond.instantiable r0.1 r0.2.2 ∈ g_ws G) (w3 : Cond.initialized r0.1 ∈ g_ws G)
    (E : ma_Ev G F Lc k n M (pc + 3) ls (.ref (g_o G + h.1.2.length) :: st) (ma_new h (.inl ci)) Z) : ma_Ev G F Lc (k + 1) (n + N) M pc ls st h Z := by
  intro p e s m args below meth c R H locs cells slots lsA C r S hv hc hs hex
  subst hN
  obtain ⟨C0, T, N⟩ := r0
  dsimp only at hdf w1 w2 w3 hs
  have P := C.2.2.2.2.2.2.2.2.2.1
  have hts : ∀ w ∈ g_ws G, w.before args s = true := fun w hw => C.2.2.2.2.2.2.2.1 w (List.mem_cons_of_mem _ hw)
  obtain ⟨hin, hso, hnm⟩ := ok.2.2.2 _ (ma_mem hci)
  have hty := ma_tys (r := (C0, T, N)) hso
  have hKn := P.1.1 ci _ hci
  intro T9 hT9 X9
  have hb := X9.heapSize
  rw [hT9] at hb
  have hsz := ma_size P r S hb (hex hf)
  have key : W p (g_l G) e R s m args below meth c H locs cells slots (Z below args s R) (F0 m pc lsA st) := by
   refine W.newcK C.1 C.2.1 C.2.2.2.2.2.1 (hts _ w1) (hts _ w2) (hts _ w3) rfl dc (by omega) (by omega) hKn.2.1 hsz (fun H1 kC hkC e1 z1 o1 => ?_)
   refine E C (ma_grow r hf hn (fun q hq => o1 q (by omega)) ?_ (fun ty len q9 => by cases q9)) ⟨Nat.le_trans S.1 (by omega), fun x h1 h2 => (o1 x (by have := S.1; omega)).trans (S.2.1 x h1 h2), S.2.2⟩ hv (by omega) (by omega) (fun _ => ma_ex1 (hex hf))
   rw [ma_ce_obj hci]
   refine ⟨_, hci, (u_born _ hts hin hKn hkC e1 hty).to (fun j hj => ?_)⟩
   have h1 := hdf j hj
   have h2 := hty j hj
   dsimp only at h1 h2 ⊢
   rw [h2] at h1
   have h3 : vp_V (ma_fs (g_o G) (ma_new h (.inl ci)) h.1.2.length (C0, T, N)) j = ma_fv (g_o G) (ma_new h (.inl ci)) h.1.2.length j (T j).2.2.1 := by
     unfold vp_V
     rw [List.getD_eq_getElem?_getD, ma_fs_at hj]
     rfl
   rw [h3]
   refine (Option.some.inj h1).trans ?_
   unfold ma_fv
   split
   · show _ = ma_i ((ma_clr h.2.1 h.1.2.length 0) h.1.2.length j)
     rw [ma_clr_self]; rfl
   · show _ = va_rf (((ma_clr h.2.2.2 h.1.2.length none) h.1.2.length j).map _)
     rw [ma_clr_self]; rfl
  exact key T9 hT9 X9
theorem ev_newa {ty : FieldType} {atype : ArrayType} {len : Nat} {z : Int} (dc : decode (m_c M) pc = .ok (.newarray atype, 2)) (hf : h.1.1 = true) (hn : h.1.2.length < g_n G) (hty : newarray.typeOf atype = ty) (hk9 : ma_ai ty = true ∨ ty = .long) (hz0 : z = len) (hl : len ≤ 100000) (w1 : Cond.arrayClass ty ∈ g_ws G)
    (E : ma_Ev G F Lc k n M (pc + 2) ls (.ref (g_o G + h.1.2.length) :: st) (ma_new h (.inr (ty, len))) Z) : ma_Ev G F Lc (k + 1) (n + len) M pc ls (ma_i z :: st) h Z := by
  intro p e s m args below meth c R H locs cells slots lsA C r S hv hc hs hex
  subst hz0
  have P := C.2.2.2.2.2.2.2.2.2.1
  have hts : ∀ w ∈ g_ws G, w.before args s = true := fun w hw => C.2.2.2.2.2.2.2.1 w (List.mem_cons_of_mem _ hw)
  have hcb : componentBytes ty ≤ 8 := by subst hty; cases atype <;> decide
  have hdef : ∀ cA : ClassId, vp_cell cA (len, ma_ar (g_o G) (ma_new h (.inr (ty, len))) h.1.2.length ty) = arrV cA len (fun _ => defaultValue ty) := by
    intro cA
    rcases hk9 with h9 | h9
    · rw [ma_ar_i h9, vp_cell_i]
      congr 1
      funext j
      show Value.int (Int32.ofInt ((ma_clr h.2.1 h.1.2.length 0) h.1.2.length j)) = _
      rw [ma_clr_self]
      cases ty <;> first | rfl | cases h9
    · subst h9
      show vp_cell cA (len, .inr (.inl _)) = _
      rw [vp_cell_l]
      congr 1
      funext j
      show Value.long (Int64.ofInt ((ma_clr h.2.2.1 h.1.2.length 0) h.1.2.length j)) = _
      rw [ma_clr_self]
      rfl
  intro T9 hT9 X9
  have hb := X9.heapSize
  rw [hT9] at hb
  have hsz := ma_size P r S hb (hex hf)
  have key : W p (g_l G) e R s m args below meth c H locs cells slots (Z below args s R) (F0 m pc lsA (ma_i len :: st)) := by
   refine va_newaK C.1 C.2.1 (by rw [hty]; exact hts _ w1) rfl dc rfl (n := Int32.ofInt (len : Int)) (N := len) (fun q => (ma_in (n := len + 1) (z := (len : Int)) (by omega) (by omega) (by omega)) (Or.inl q)) ((ma_nat (by omega) (by omega)).trans (by omega)) (by rw [hty]; exact Nat.le_trans (Nat.mul_le_mul hl hcb) (by decide)) (by omega) (by omega) hsz (fun H1 cA e1 z1 o1 hAr hNm => ?_)
   rw [hty] at e1 hAr hNm
   have hca : g_c G ty = cA := P.2.1 ty cA hNm
   subst hca
   refine E C (ma_grow r hf hn (fun q hq => o1 q (by omega)) ?_ (fun ty' len' q9 => ?_)) ⟨Nat.le_trans S.1 (by omega), fun x h1 h2 => (o1 x (by have := S.1; omega)).trans (S.2.1 x h1 h2), S.2.2⟩ hv (by omega) (by omega) (fun _ => ma_ex1 (hex hf))
   · show H1[g_o G + h.1.2.length]? = some (vp_cell _ _)
     rw [hdef]
     exact e1
   · cases q9
     refine ⟨hAr, ?_⟩
     subst hty
     cases atype <;> exact hNm
  exact key T9 hT9 X9
theorem ev_newq {index len : Nat} {z : Int} {C0 : String} (dc : decode (m_c M) pc = .ok (.anewarray index, 3)) (hf : h.1.1 = true) (hn : h.1.2.length < g_n G) (hz0 : z = len) (hl : len ≤ 100000) (w1 : Cond.classLink (m_y M).cls index C0 ∈ g_ws G) (w2 : ∀ s : State, g_N G s → va_AO C0 s)
    (E : ma_Ev G F Lc k n M (pc + 3) ls (.ref (g_o G + h.1.2.length) :: st) (ma_new h (.inr (.object C0, len))) Z) : ma_Ev G F Lc (k + 1) (n + len) M pc ls (ma_i z :: st) h Z := by
  intro p e s m args below meth c R H locs cells slots lsA C r S hv hc hs hex
  subst hz0
  have P := C.2.2.2.2.2.2.2.2.2.1
  have hts : ∀ w ∈ g_ws G, w.before args s = true := fun w hw => C.2.2.2.2.2.2.2.1 w (List.mem_cons_of_mem _ hw)
  have hnn : (Int32.ofInt (len : Int)).toNatClampNeg = len := (ma_nat (by omega) (by omega)).trans (by omega)
  intro T9 hT9 X9
  have hb := X9.heapSize
  rw [hT9] at hb
  have hsz := ma_size P r S hb (hex hf)
  have key : W p (g_l G) e R s m args below meth c H locs cells slots (Z below args s R) (F0 m pc lsA (ma_i len :: st)) := by
   refine W.anew C.1 C.2.1 C.2.2.2.2.2.1 (hts _ w1) (va_AO.use (w2 s P.2.2.1)) rfl dc rfl (n := Int32.ofInt (len : Int)) (fun q => (ma_in (n := len + 1) (z := (len : Int)) (by omega) (by omega) (by omega)) (Or.inl q)) (by rw [hnn]; omega) (by omega) (by rw [hnn]; omega) (fun cA kA comp f1 f2 f3 f4 => ?_)
   rw [hnn]
   have hca : g_c G (.object C0) = cA := P.2.1 _ cA f1
   subst hca
   generalize hH1 : H.push ({ cls := g_c G (.object C0), slots := Array.replicate len .null, vm := .none } : Cell) = H1
   have z1 : H1.size = H.size + 1 := by rw [← hH1, Array.size_push]
   have e1 : H1[H.size]? = some (arrV (g_c G (.object C0)) len (fun _ => .null)) := by rw [← hH1, Array.getElem?_push_size, ← arrV_new]
   have o1 : ∀ q : Nat, q < H.size → H1[q]? = H[q]? := fun q hq => by rw [← hH1, Array.getElem?_push, if_neg (Nat.ne_of_lt hq)]
   show W p (g_l G) e R s m args below meth c H1 locs (cells + 1) (slots + len) (Z below args s R) (F0 m (pc + 3) lsA (.ref H.size :: st))
   rw [hsz]
   refine E C (ma_grow r hf hn (fun q hq => o1 q hq) ?_ (fun ty' len' q9 => ?_)) ⟨Nat.le_trans S.1 (by omega), fun x h1 h2 => (o1 x (Nat.lt_of_lt_of_le h1 S.1)).trans (S.2.1 x h1 h2), S.2.2⟩ hv (by omega) (by omega) (fun _ => ma_ex1 (hex hf))
   · show H1[g_o G + h.1.2.length]? = some (vp_cell _ (len, .inr (.inr (.inr (.inr _)))))
     rw [vp_cell_q, ← hsz, e1]
     congr 2
     funext j
     show Value.null = va_rf (((ma_clr h.2.2.2 h.1.2.length none) h.1.2.length j).map _)
     rw [ma_clr_self]; rfl
   · cases q9
     exact ⟨fun N z => ⟨(fun k h => by cases h), kA, f2, comp, f3⟩, kA, comp, f2, f3, f4, f1⟩
  exact key T9 hT9 X9
/-- the heap goes on by itself from here: no more new cells of the store -/
theorem ev_close (hl : h.1.2.length = g_n G) (E : ma_Ev G F Lc k n M pc ls st ((false, h.1.2), h.2) Z) : ma_Ev G F Lc k n M pc ls st h Z := by
  intro p e s m args below meth c R H locs cells slots lsA C r S hv hc hs hex
  exact E C ⟨r.1, r.2.1, r.2.2.1, fun _ => hl⟩ S hv hc hs (fun q => by cases q)
end EH
