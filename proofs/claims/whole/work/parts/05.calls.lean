/-! ===== walks: a method's entry, calls, throwing and catching ===== -/
section EC
variable {G : ma_G} {fe : Bool} {F Lc k n : Nat} {M M1 : ma_M} {pc : Nat} {ls : List (Nat × Value)} {st : List Value} {h : ma_H} {Z : ma_Z} {Q Q1 : Option Value → ma_H → Prop}
theorem ma_St.moved {C nm d : String} {A : Nat → Prop} {u U : State} {H : Heap} (hvm : u.vm.Alike U.vm) (h : ma_St C nm d A u H) : ma_St C nm d A U H := by
  obtain ⟨c, k, i, f, a, cell, v, h1, h2, h3, h4, h5, h6, h7, h8, h9, h10⟩ := h
  obtain ⟨k', hi', he⟩ := State.fieldFound?_setVm hvm h2
  exact ⟨c, k', i, f, a, cell, v, by rw [hvm.findClass]; exact h1, hi', h3, by rw [he]; exact h4, h5, h6, h7, h8, by rw [he]; exact h9, h10⟩
theorem ma_St.kept {C nm d : String} {A : Nat → Prop} {U : State} {H H1 : Heap} (h : ma_St C nm d A U H) (hq : ∀ a : Nat, a < H.size → ¬ A a → H1[a]? = H[a]?) : ma_St C nm d A U H1 := by
  obtain ⟨c, k, i, f, a, cell, v, h1, h2, h3, h4, h5, h6, h7, h8, h9, h10, h11, h12⟩ := h
  exact ⟨c, k, i, f, a, cell, v, h1, h2, h3, h4, by rw [hq a (Array.getElem?_eq_some_iff.mp h5).1 h12]; exact h5, h6, h7, h8, h9, h10, h11, h12⟩
theorem ma_vm {s : State} {H : Heap} {a : Nat} {cell : Cell} (r : ma_Rel G h s H) (hH : h.1.1 = true → H.size = g_o G + h.1.2.length) (ha : ma_A G a) (hc : H[a]? = some cell) : cell.vm.isStatics = false := by
  obtain ⟨h1, h2⟩ := ha
  have hlt : a < H.size := (Array.getElem?_eq_some_iff.mp hc).1
  have hl : a - g_o G < h.1.2.length := by
    cases hf : h.1.1 with
    | false => have := r.2.2.2 hf; omega
    | true => have := hH hf; omega
  have h3 := r.1 _ _ (ma_ws_at (List.getElem?_eq_getElem hl))
  have e1 : g_o G + (a - g_o G) = a := by omega
  generalize h.1.2[a - g_o G] = sh at h3
  cases sh with
  | inl ci =>
    obtain ⟨r0, -, cell2, q1, -, q3, -⟩ := h3
    rw [show (g_o G + (a - g_o G), ma_ce G h (a - g_o G) (Sum.inl ci)).1 = a from e1] at q1
    rw [hc] at q1
    cases q1
    rw [q3]; rfl
  | inr q =>
    have q1 : H[g_o G + (a - g_o G)]? = some (vp_cell (g_c G q.1) (q.2, ma_ar (g_o G) h (a - g_o G) q.1)) := h3
    rw [e1, hc] at q1
    cases q1
    unfold vp_cell
    split <;> rfl
theorem ma_Pre.moved {s U : State} {H : Heap} {locs : List Loc} (P : ma_Pre G s) (ok : ma_ok G) (S : va_S (ma_A G) s.heap H locs) (hr : ∀ (a : Nat) (cell : Cell), ma_A G a → H[a]? = some cell → cell.vm.isStatics = false) (hU : U.heap = H) (hW : s.WarmedH U.vm) : ma_Pre G U := by
  obtain ⟨p1, p2, p3, p4, p5, p6, p7, p8, p9⟩ := P
  have hb : ¬ ma_A G (g_b G) := fun q => absurd p5 (Nat.not_lt.mpr q.1)
  refine ⟨va_K.moved hW.alike p1, fun ty x hx => p2 ty x (by rw [hW.alike.findClass] at hx; exact hx), ok.2.2.1.1 s U hW p3, ?_, p5, ?_, ?_, ?_, ?_⟩
  · rw [hU]; exact va_X.moved hW.alike (p4.kept (S.2.1 _ (Nat.lt_of_lt_of_le p5 p6) hb))
  · rw [hU]; exact Nat.le_trans p6 S.1
  · rw [hU]; exact ma_St.moved hW.alike (p7.kept S.2.1)
  · rw [hU]; exact ma_St.moved hW.alike (p8.kept S.2.1)
  · rw [hU]; exact hr
theorem ma_Pre.same {s U : State} (P : ma_Pre G s) (ok : ma_ok G) (hv : s.vm = U.vm) (hh : s.heap = U.heap) : ma_Pre G U := by
  obtain ⟨p1, p2, p3, p4, p5, p6, p7, p8, p9⟩ := P
  have hA : s.vm.Alike U.vm := by rw [hv]; exact Vm.Alike.refl _
  refine ⟨va_K.moved hA p1, fun ty x hx => p2 ty x (by rw [hv]; exact hx), ok.2.2.1.2 s U hv p3, ?_, p5, ?_, ?_, ?_, ?_⟩
  · rw [← hh]; exact va_X.moved hA p4
  · rw [← hh]; exact p6
  · rw [← hh]; exact ma_St.moved hA p7
  · rw [← hh]; exact ma_St.moved hA p8
  · rw [← hh]; exact p9
theorem ma_blind (ok : ma_ok G) {As : List Value} : FrameBlind (ma_Pc G h As) := by
  intro a U g mk hp
  obtain ⟨h1, h2, h3, h4⟩ := hp
  have hA : U.vm.Alike (U.calling g mk a).vm := Vm.Alike.refl U.vm
  exact ⟨h1, h2.same ok rfl rfl, h3.moved hA, h4⟩
/-- a method without a table, from its walk -/
theorem ma_met {As : List Value} {mc ms : Nat} (hy : plainName (m_y M).cls = true) (hfit : (lg_sl As).length ≤ m_n M) (hno : m_t M = []) (E : ma_Ev G F Lc mc ms M 0 (lv_args 0 As) [] h (ma_zr G fe Q)) : ma_Met G fe F Lc mc ms M As h Q := by
  have hw : ma_word M = .code (m_y M) (m_c M) (m_n M) (m_r M) := by unfold ma_word; rw [hno]
  refine Met.ofW (cc := m_c M) (maxL := m_n M) (ret := m_r M) (ws' := g_ws G) hy (by rw [hw]) ?_
  intro p e s m args below meth c s₁ B hml hP
  obtain ⟨rfl, P, r, hz⟩ := hP
  have hts := atoms_spec (ws := ma_word M :: g_ws G) B.pre
  have hown : s.vm.findClass (m_y M).cls = some m.cls := findClass_of_methodNamed B.named
  have htab : c.exceptionTable.toList = tableOf (m_t M) := by
    have hcw := hts _ List.mem_cons_self
    rw [hw] at hcw
    obtain ⟨meth9, c9, q1, q2, -, -, -, -, q7, -⟩ := Cond.code_spec B.named hcw
    cases Option.some.inj (q1.symm.trans B.method)
    cases Option.some.inj (q2.symm.trans (Stand.of_body B).code)
    rw [hno, Array.isEmpty_iff.mp q7]
    rfl
  rw [lg_entry_eq]
  exact E ⟨B.exec, B.bytes, B.returns, B.notSynchronized, hml, hown, (name_of_methodNamed B.named B.method).1, hts, htab, P, rfl, rfl⟩ r va_S.rf (lv_entry As hfit) (Nat.zero_add _) (Nat.le_of_eq (Nat.zero_add _)) (fun q => hz q)
/-- .. and with one -/
theorem ma_metH {As : List Value} {mc ms : Nat} (hy : plainName (m_y M).cls = true) (hfit : (lg_sl As).length ≤ m_n M) (hno : m_t M ≠ []) (E : ma_Ev G F Lc mc ms M 0 (lv_args 0 As) [] h (ma_zr G fe Q)) : ma_Met G fe F Lc mc ms M As h Q := by
  have hw : ma_word M = .codeWith (m_y M) (m_c M) (m_n M) (m_r M) (m_t M) := by
    unfold ma_word
    cases hx : m_t M with
    | nil => exact absurd hx hno
    | cons q t => rfl
  refine va_MetW (cc := m_c M) (maxL := m_n M) (ret := m_r M) (hh := m_t M) (ws' := g_ws G) hy (by rw [hw]) ?_
  intro p e s m args below meth c s₁ B hml hP
  obtain ⟨rfl, P, r, hz⟩ := hP
  have hts := atoms_spec (ws := ma_word M :: g_ws G) B.pre
  have hown : s.vm.findClass (m_y M).cls = some m.cls := findClass_of_methodNamed B.named
  have htab : c.exceptionTable.toList = tableOf (m_t M) := by
    have hcw := hts _ List.mem_cons_self
    rw [hw] at hcw
    obtain ⟨m9, meth9, c9, q0, q1, q2, -, -, q6, -⟩ := Cond.codeWith_spec hcw
    cases Option.some.inj (q0.symm.trans B.named)
    cases Option.some.inj (q1.symm.trans B.method)
    cases Option.some.inj (q2.symm.trans (Stand.of_body B).code)
    rw [← q6, table_eq]
  rw [lg_entry_eq]
  exact E ⟨B.exec, B.bytes, B.returns, B.notSynchronized, hml, hown, (name_of_methodNamed B.named B.method).1, hts, htab, P, rfl, rfl⟩ r va_S.rf (lv_entry As hfit) (Nat.zero_add _) (Nat.le_of_eq (Nat.zero_add _)) (fun q => hz q)
/-- behind a call that returns -/
theorem ma_go {p : Program} {e : Env} {s : State} {m : MethodId} {args : Array Value} {below : List Frame} {meth : Method} {c : Code} {R : Room} {H : Heap} {locs : List Loc} {cells slots mc ms : Nat} {lsA : Array Slot} {st0 rest : List Value} {a : Array Value} {T : State} (hT : T.heap = H) (X9 : Stand p (g_l G) e R s m args below meth c T locs cells slots)
    (hr : va_Run p (g_l G) e R s m args below meth c H locs cells slots mc ms (F0 m pc lsA st0) rest (ma_Qc G h.1.1 mc Q1 a) (ma_A G)) (C : ma_Cx G F Lc M p s m args meth c R) (r : ma_Rel G h s H) (S : va_S (ma_A G) s.heap H locs) (hv : lv_has lsA (m_n M) ls) (hc : cells + (k + mc) = R.cells) (hs : slots + (n + ms) ≤ R.slots)
    (hex : h.1.1 = true → s.heap.size + cells = g_o G + h.1.2.length)
    (E : ∀ (v : Option Value) (h' : ma_H), Q1 v h' → h'.1.1 = h.1.1 → ma_Ev G F Lc k n M (pc + 3) ls (v.toList ++ rest) h' Z) :
    ∃ t, Steps p.tables e below (T.setTop (F0 m pc lsA st0)) t ∧ Z below args s R t := by
  have P := C.2.2.2.2.2.2.2.2.2.1
  obtain ⟨v, st₀, t, T', L, h0, X', hL, e1, e2, ⟨v9, h', hv9, hq, hrel, hF, hf1, hf2⟩, stp⟩ := hr T hT X9
  cases hv9
  have hA : s.vm.Alike t.vm := by rw [← e2]; exact X'.warmed.alike
  have hrel' : ma_Rel G h' s T'.heap := by rw [e1]; exact hrel.moved hA.symm
  obtain ⟨f1, f2⟩ := hF
  rw [h0] at f1 f2
  have hS' : va_S (ma_A G) s.heap T'.heap (locs ++ L) := by
    rw [e1]
    refine ⟨Nat.le_trans S.1 f1, fun q q1 q2 => (f2 q (Nat.lt_of_lt_of_le q1 S.1) q2).trans (S.2.1 q q1 q2), fun z hz => ?_⟩
    rcases List.mem_append.mp hz with q | q
    · exact S.2.2 z q
    · exact hL z q
  obtain ⟨t2, a1, b1⟩ := E v h' hq hf1 C hrel' hS' hv (by omega) (by omega) (fun q9 => by
    have q8 : h.1.1 = true := hf1.symm.trans q9
    have q7 := hf2 q8
    have hb := X9.heapSize
    rw [hT] at hb
    have q6 := ma_size P r S hb (hex q8)
    have q5 := hex q8
    rw [h0] at q7
    omega) T' rfl X'
  exact ⟨t2, stp t2 a1, b1⟩
theorem ma_good (ok : ma_ok G) (hm : ma_word M1 ∈ g_ws G) : GoodIn (ma_word M :: g_ws G) (ma_word M1 :: g_ws G) := by
  intro w hw
  rcases List.mem_cons.mp hw with rfl | h9
  · exact ⟨List.mem_cons_of_mem _ hm, good_of_word (ok.2.1 _ hm)⟩
  · exact ⟨List.mem_cons_of_mem _ h9, good_of_word (ok.2.1 _ h9)⟩
def ma_y (M1 : ma_M) (np : Nat) : Prop := (m_y M1).cls ≠ "java/lang/invoke/MethodHandle" ∧ (m_y M1).cls ≠ "java/lang/invoke/VarHandle" ∧ (parseMethodDescriptor (m_y M1).desc).map (fun d => d.parameters.length) = some np
def ma_lnk (G : ma_G) (own : String) (index : Nat) (M1 : ma_M) : Prop := Cond.methodLink own index (m_y M1) ∈ g_ws G ∨ ∃ host, ∀ s : State, g_N G s → va_Nw (Cond.methodLinkNest own index (m_y M1) host) s
/-- what must hold of a callee: static; instance; constructor -/
def ma_CS (G : ma_G) (own : String) (index : Nat) (M1 : ma_M) (np : Nat) : Prop := m_t M1 = [] ∧ ma_word M1 ∈ g_ws G ∧ Cond.static (m_y M1) ∈ g_ws G ∧ Cond.initialized (m_y M1).cls ∈ g_ws G ∧ ma_y M1 np ∧ ma_lnk G own index M1
def ma_CV (G : ma_G) (own : String) (index : Nat) (M1 : ma_M) (np : Nat) : Prop := m_t M1 = [] ∧ ma_word M1 ∈ g_ws G ∧ Cond.instanceMethod (m_y M1) ∈ g_ws G ∧ Cond.selects (m_y M1).cls (m_y M1) (m_y M1) ∈ g_ws G ∧ Cond.initialized (m_y M1).cls ∈ g_ws G ∧ ma_y M1 np ∧ ma_lnk G own index M1
def ma_CI (G : ma_G) (own : String) (index : Nat) (M1 : ma_M) (np : Nat) : Prop := m_t M1 = [] ∧ ma_word M1 ∈ g_ws G ∧ Cond.instanceMethod (m_y M1) ∈ g_ws G ∧ Cond.initialized (m_y M1).cls ∈ g_ws G ∧ (m_y M1).name = "<init>" ∧ m_r M1 = none ∧ ma_y M1 np ∧ ma_lnk G own index M1
theorem ma_code (hno : m_t M1 = []) : ma_word M1 = .code (m_y M1) (m_c M1) (m_n M1) (m_r M1) := by unfold ma_word; rw [hno]
theorem ma_preS (ok : ma_ok G) {s : State} {H : Heap} {locs : List Loc} {As : List Value} (P : ma_Pre G s) (r : ma_Rel G h s H) (S : va_S (ma_A G) s.heap H locs) (hH : h.1.1 = true → H.size = g_o G + h.1.2.length) : PreS s H (ma_Pc G h As) As :=
  ⟨ma_blind ok, fun U hU hW => ⟨rfl, P.moved ok S (fun _ _ ha hc => ma_vm r hH ha hc) hU hW, by rw [hU]; exact r.moved hW.alike, fun q => by rw [hU]; exact hH q⟩⟩
theorem ev_callS (ok : ma_ok G) {np index F1 L1 mc ms : Nat} (As rest : List Value) {st0 : List Value} (f : ma_CS G (m_y M).cls index M1 np) (dc : decode (m_c M) pc = .ok (.invokestatic index, 3)) (hM : ma_Met G h.1.1 F1 L1 mc ms M1 As h Q1) (hst : st0 = As.reverse ++ rest) (hn : As.length = np) (hF : F1 + 1 ≤ F) (hL : 8 + (m_n M1 + 11) + L1 ≤ Lc) (hr : (rest.map fun v => v.category).sum ≤ 8)
    (E : ∀ (v : Option Value) (h' : ma_H), Q1 v h' → h'.1.1 = h.1.1 → ma_Ev G F Lc k n M (pc + 3) ls (v.toList ++ rest) h' Z) : ma_Ev G F Lc (k + mc) (n + ms) M pc ls st0 h Z := by
  intro p e s m args below meth c R H locs cells slots lsA C r S hv hc hs hex T hT X9
  obtain ⟨f1, f2, f3, f4, f5, f6⟩ := f
  have P := C.2.2.2.2.2.2.2.2.2.1
  have hts := C.2.2.2.2.2.2.2.1
  have htw : ∀ w ∈ g_ws G, w.before args s = true := fun w hw => hts w (List.mem_cons_of_mem _ hw)
  have hb := X9.heapSize
  rw [hT] at hb
  have hp := ma_preS (As := As) ok P r S (fun q => ma_size P r S hb (hex q))
  have CF : CallFix p m c (m_c M) (m_n M) s args (ma_word M :: g_ws G) (m_y M).cls := ⟨C.1, C.2.1, C.2.2.2.2.1, C.2.2.2.2.2.1, hts⟩
  have hR : F1 + 1 ≤ R.frames ∧ 8 + (m_n M1 + 11) + L1 ≤ R.locals := ⟨by rw [C.2.2.2.2.2.2.2.2.2.2.1]; exact hF, by rw [C.2.2.2.2.2.2.2.2.2.2.2]; exact hL⟩
  rcases f6 with f6 | ⟨host, f6⟩
  · have hrun := va_runS (e := e) (below := below) (meth := meth) (locs := locs) (cells := cells) (slots := slots) (g := F0 m pc lsA st0) (rest := rest) CF hM ⟨callB_of np hts (ma_good ok f2) (by rw [ma_code f1]) rfl rfl (htw _ f4) (htw _ f6) f5 hR, htw _ f3⟩ hp rfl hn hv.1 hst (lv_room hr) dc ⟨by omega, by omega⟩
    exact ma_go hT X9 hrun C r S hv hc hs hex E
  · have hrun := va_runSN (e := e) (below := below) (meth := meth) (locs := locs) (cells := cells) (slots := slots) (g := F0 m pc lsA st0) (rest := rest) CF hM ⟨va_cnB np hts (ma_good ok f2) (by rw [ma_code f1]) rfl rfl (f6 s P.2.2.1) (htw _ f4) f5 hR, htw _ f3, trivial⟩ hp rfl hn hv.1 hst (lv_room hr) dc ⟨by omega, by omega⟩
    exact ma_go hT X9 hrun C r S hv hc hs hex E
theorem ev_callV (ok : ma_ok G) {np index F1 L1 mc ms ci a : Nat} {r0 : vw_C} (As rest : List Value) {st0 : List Value} (f : ma_CV G (m_y M).cls index M1 np) (dc : decode (m_c M) pc = .ok (.invokevirtual index, 3)) (ha : h.1.2[a]? = some (.inl ci)) (hci : (g_cl G)[ci]? = some r0) (hr0 : r0.1 = (m_y M1).cls) (hM : ma_Met G h.1.1 F1 L1 mc ms M1 (.ref (g_o G + a) :: As) h Q1) (hst : st0 = As.reverse ++ .ref (g_o G + a) :: rest) (hn : As.length = np) (hF : F1 + 1 ≤ F) (hL : 8 + (m_n M1 + 11) + L1 ≤ Lc) (hr : (rest.map fun v => v.category).sum ≤ 8)
    (E : ∀ (v : Option Value) (h' : ma_H), Q1 v h' → h'.1.1 = h.1.1 → ma_Ev G F Lc k n M (pc + 3) ls (v.toList ++ rest) h' Z) : ma_Ev G F Lc (k + mc) (n + ms) M pc ls st0 h Z := by
  intro p e s m args below meth c R H locs cells slots lsA C r S hv hc hs hex T hT X9
  obtain ⟨f1, f2, f3, f3b, f4, f5, f6⟩ := f
  have P := C.2.2.2.2.2.2.2.2.2.1
  have hts := C.2.2.2.2.2.2.2.1
  have htw : ∀ w ∈ g_ws G, w.before args s = true := fun w hw => hts w (List.mem_cons_of_mem _ hw)
  have hb := X9.heapSize
  rw [hT] at hb
  have hp0 := ma_preS (As := .ref (g_o G + a) :: As) ok P r S (fun q => ma_size P r S hb (hex q))
  have hcell : ∃ cellB : Cell, H[g_o G + a]? = some cellB ∧ cellB.vm.isStatics = false ∧ s.vm.findClass (m_y M1).cls = some cellB.cls := by
    have hw : (ma_ws G h)[a]? = some (g_o G + a, .inr (ci, ma_fs (g_o G) h a r0)) := by rw [ma_ws_at ha, ma_ce_obj hci]
    have := va_recv P.1 r.1 hci hw
    rw [hr0] at this
    exact this
  have hp : PreV s H (m_y M1).cls (g_o G + a) (ma_Pc G h (.ref (g_o G + a) :: As)) As := ⟨hp0.1, hcell, hp0.2⟩
  have CF : CallFix p m c (m_c M) (m_n M) s args (ma_word M :: g_ws G) (m_y M).cls := ⟨C.1, C.2.1, C.2.2.2.2.1, C.2.2.2.2.2.1, hts⟩
  have hR : F1 + 1 ≤ R.frames ∧ 8 + (m_n M1 + 11) + L1 ≤ R.locals := ⟨by rw [C.2.2.2.2.2.2.2.2.2.2.1]; exact hF, by rw [C.2.2.2.2.2.2.2.2.2.2.2]; exact hL⟩
  rcases f6 with f6 | ⟨host, f6⟩
  · have hrun := va_runV (e := e) (below := below) (meth := meth) (locs := locs) (cells := cells) (slots := slots) (g := F0 m pc lsA st0) (rest := rest) CF hM ⟨callB_of np hts (ma_good ok f2) (by rw [ma_code f1]) rfl rfl (htw _ f4) (htw _ f6) f5 hR, htw _ f3, htw _ f3b⟩ hp rfl hn hv.1 hst (lv_room hr) dc ⟨by omega, by omega⟩
    exact ma_go hT X9 hrun C r S hv hc hs hex E
  · have hrun := va_runVN (e := e) (below := below) (meth := meth) (locs := locs) (cells := cells) (slots := slots) (g := F0 m pc lsA st0) (rest := rest) CF hM ⟨va_cnB np hts (ma_good ok f2) (by rw [ma_code f1]) rfl rfl (f6 s P.2.2.1) (htw _ f4) f5 hR, htw _ f3, htw _ f3b⟩ hp rfl hn hv.1 hst (lv_room hr) dc ⟨by omega, by omega⟩
    exact ma_go hT X9 hrun C r S hv hc hs hex E
theorem ev_callI (ok : ma_ok G) {np index F1 L1 mc ms a : Nat} (As rest : List Value) {st0 : List Value} (f : ma_CI G (m_y M).cls index M1 np) (dc : decode (m_c M) pc = .ok (.invokespecial index, 3)) (hM : ma_Met G h.1.1 F1 L1 mc ms M1 (.ref (g_o G + a) :: As) h Q1) (hst : st0 = As.reverse ++ .ref (g_o G + a) :: rest) (hn : As.length = np) (hF : F1 + 1 ≤ F) (hL : 8 + (m_n M1 + 11) + L1 ≤ Lc) (hr : (rest.map fun v => v.category).sum ≤ 8)
    (E : ∀ (v : Option Value) (h' : ma_H), Q1 v h' → h'.1.1 = h.1.1 → ma_Ev G F Lc k n M (pc + 3) ls (v.toList ++ rest) h' Z) : ma_Ev G F Lc (k + mc) (n + ms) M pc ls st0 h Z := by
  intro p e s m args below meth c R H locs cells slots lsA C r S hv hc hs hex T hT X9
  obtain ⟨f1, f2, f3, f4, f4b, f4c, f5, f6⟩ := f
  have P := C.2.2.2.2.2.2.2.2.2.1
  have hts := C.2.2.2.2.2.2.2.1
  have htw : ∀ w ∈ g_ws G, w.before args s = true := fun w hw => hts w (List.mem_cons_of_mem _ hw)
  have hb := X9.heapSize
  rw [hT] at hb
  have hp := ma_preS (As := .ref (g_o G + a) :: As) ok P r S (fun q => ma_size P r S hb (hex q))
  have CF : CallFix p m c (m_c M) (m_n M) s args (ma_word M :: g_ws G) (m_y M).cls := ⟨C.1, C.2.1, C.2.2.2.2.1, C.2.2.2.2.2.1, hts⟩
  have hR : F1 + 1 ≤ R.frames ∧ 8 + (m_n M1 + 11) + L1 ≤ R.locals := ⟨by rw [C.2.2.2.2.2.2.2.2.2.2.1]; exact hF, by rw [C.2.2.2.2.2.2.2.2.2.2.2]; exact hL⟩
  have hcd : ma_word M1 :: g_ws G = Cond.code (m_y M1) (m_c M1) (m_n M1) none :: g_ws G := by rw [ma_code f1, f4c]
  rcases f6 with f6 | ⟨host, f6⟩
  · have hrun := va_runI (e := e) (below := below) (meth := meth) (locs := locs) (cells := cells) (slots := slots) (g := F0 m pc lsA st0) (rest := rest) CF hM ⟨callB_of np hts (ma_good ok f2) hcd rfl rfl (htw _ f4) (htw _ f6) f5 hR, f4b, htw _ f3⟩ hp rfl hn hv.1 hst (lv_room hr) dc ⟨by omega, by omega⟩
    exact ma_go hT X9 hrun C r S hv hc hs hex E
  · have hrun := va_runIN (e := e) (below := below) (meth := meth) (locs := locs) (cells := cells) (slots := slots) (g := F0 m pc lsA st0) (rest := rest) CF hM ⟨va_cnB np hts (ma_good ok f2) hcd rfl rfl (f6 s P.2.2.1) (htw _ f4) f5 hR, f4b, htw _ f3⟩ hp rfl hn hv.1 hst (lv_room hr) dc ⟨by omega, by omega⟩
    exact ma_go hT X9 hrun C r S hv hc hs hex E
/-- Object's constructor -/
theorem ev_obj {index x : Nat} (dc : decode (m_c M) pc = .ok (.invokespecial index, 3)) (w1 : Cond.methodLink (m_y M).cls index Lib.objectInit ∈ g_ws G) (w2 : Cond.instanceMethod Lib.objectInit ∈ g_ws G) (w3 : Cond.code Lib.objectInit ⟨#[0xb1]⟩ 1 none ∈ g_ws G) (hF : 1 ≤ F) (hr : (st.map fun v => v.category).sum ≤ 8) (hL : 20 ≤ Lc)
    (E : ma_Ev G F Lc k n M (pc + 3) ls st h Z) : ma_Ev G F Lc k n M pc ls (.ref x :: st) h Z := by
  intro p e s m args below meth c R H locs cells slots lsA C r S hv hc hs hex
  have htw : ∀ w ∈ g_ws G, w.before args s = true := fun w hw => C.2.2.2.2.2.2.2.1 w (List.mem_cons_of_mem _ hw)
  refine W.objInit C.1 C.2.1 C.2.2.2.2.2.1 (htw _ w1) (htw _ w2) (htw _ w3) rfl (hv.1.trans C.2.2.2.2.1.symm) rfl dc (by rw [C.2.2.2.2.2.2.2.2.2.2.1]; exact hF) ?_ (E C r S hv hc hs hex)
  have h1 := lv_room (m := m) (pc := pc) (ls := lsA) (rest := .ref x :: st) hr
  rw [C.2.2.2.2.2.2.2.2.2.2.2]
  omega
end EC
