/-! ===== what 'throw new E()' asks of the tables, for our four classes ===== -/
theorem q_lays {C nm d : String} {A : Nat → Prop} {u : State} (h : ma_St C nm d A u u.heap) (args : Array Value) : (Cond.laysStatic C nm d).before args u = true := by
  obtain ⟨c, k, i, f, a, cell, v, h1, h2, h3, h4, h5, h6, h7, h8, h9, -⟩ := h
  show (Cond.laysStatic C nm d).holds args u none u [] = true
  exact Cond.laysStatic_of h1 h2 h3 h4 h5 h6 h7 h8 h9
theorem q_isref {C nm d : String} {A : Nat → Prop} {u : State} (h : ma_St C nm d A u u.heap) (args : Array Value) : (Cond.isRef (.static C nm d)).before args u = true := by
  obtain ⟨c, k, i, f, a, cell, v, h1, h2, h3, h4, h5, h6, h7, h8, h9, h10, h11, -⟩ := h
  have he : (Term.static C nm d).eval args u none [] u = some v := by
    simp [Term.eval, State.fieldNamed?, h2, h3, h4, h5, h6, h10]
  simp only [Cond.before, Cond.holds, Cond.value, he]
  rcases h11 with rfl | ⟨x, rfl⟩ <;> rfl
theorem q_castable {C : String} {u : State} (h : ∃ c : ClassId, u.vm.findClass C = some c ∧ u.vm.assignable c c = true) (args : Array Value) : (Cond.castable C C).before args u = true := by
  obtain ⟨c, h1, h2⟩ := h
  simp [Cond.before, Cond.holds, Cond.value, h1, h2]
theorem q_nuse {w : Cond} (hg : q_nest w = true) {u : State} (h : va_Nw w u) (args : Array Value) : w.before args u = true := by
  cases w <;> first | (cases hg; done) | exact va_Nw.use rfl h
/-- the words of a throw, each by where it comes from -/
def q_where (E : String) (w : Cond) : Bool := decide (w ∈ q_WS) || decide (w ∈ tables_1.filter q_nest) || decide (w = .castable E E) || decide (w = .isRef (.static Bundle.tN "UNASSIGNED_STACK" Bundle.steD)) || decide (w = .isRef (.static Bundle.tN "SUPPRESSED_SENTINEL" Bundle.listD)) || decide (w = .laysStatic Bundle.tN "UNASSIGNED_STACK" Bundle.steD) || decide (w = .laysStatic Bundle.tN "SUPPRESSED_SENTINEL" Bundle.listD)
theorem q_hat (t : q_V) {E : String} {ic : Nat} {names : List String} (hE : E ∈ q_EX) (hall : (Bundle.ownAtoms0 "LayoutDesk" ic E names).all (q_where E) = true) :
    ∀ (u : State) (args : Array Value), ma_Pre (q_G t) u → (∀ w ∈ g_ws (q_G t), w.before args u = true) → ∀ w ∈ Bundle.ownAtoms0 "LayoutDesk" ic E names, w.before args u = true := by
  intro u args P hts w hw
  have h1 := List.all_eq_true.mp hall w hw
  simp only [q_where, Bool.or_eq_true, decide_eq_true_eq] at h1
  rcases h1 with (((((h1 | h1) | h1) | h1) | h1) | h1) | h1
  · exact hts w h1
  · exact q_nuse (List.mem_filter.mp h1).2 (P.2.2.1.1 w h1) args
  · rw [h1]
    exact q_castable (P.2.2.1.2.2.1 E hE) args
  · rw [h1]
    exact q_isref P.2.2.2.2.2.2.1 args
  · rw [h1]
    exact q_isref P.2.2.2.2.2.2.2.1 args
  · rw [h1]
    exact q_lays P.2.2.2.2.2.2.1 args
  · rw [h1]
    exact q_lays P.2.2.2.2.2.2.2.1 args
def q_sup : List String := ["java/lang/RuntimeException", "java/lang/Exception"]
theorem q_own0 : (Bundle.ownAtoms0 "LayoutDesk" 65 "java/lang/IllegalArgumentException" q_sup).all (q_where "java/lang/IllegalArgumentException") = true := by decide +kernel
theorem q_own1 : (Bundle.ownAtoms0 "LayoutDesk" 94 "java/lang/IllegalStateException" q_sup).all (q_where "java/lang/IllegalStateException") = true := by decide +kernel
theorem q_own2 : (Bundle.ownAtoms0 "LayoutDesk" 140 "java/util/NoSuchElementException" q_sup).all (q_where "java/util/NoSuchElementException") = true := by decide +kernel
theorem q_own3 : (Bundle.ownAtoms0 "LayoutDesk" 190 "java/lang/IndexOutOfBoundsException" q_sup).all (q_where "java/lang/IndexOutOfBoundsException") = true := by decide +kernel
def q_E (j : Nat) : String := q_EX.getD j ""
section ETX
variable {t : q_V} {F Lc : Nat} {M M1 : ma_M} {pc : Nat} {ls : List (Nat × Value)} {st : List Value} {f g : q_F}
theorem et_throw0 (ok : ma_ok (q_G t)) (hc : (m_y M).cls = "LayoutDesk") (d0 : decode (m_c M) pc = .ok (.new 63, 3)) (d3 : decode (m_c M) (pc + 3) = .ok (.dup, 1)) (d4 : decode (m_c M) (pc + 3 + 1) = .ok (.invokespecial 65, 3)) (d7 : decode (m_c M) (pc + 3 + 1 + 3) = .ok (.athrow, 1)) (hno : m_t M = []) (hF : 5 < F) (hL : (st.map fun v => v.category).sum + 81 ≤ Lc) : ma_Ev (q_G t) F Lc 1 6 M pc ls st (q_h f g) (ma_zx (q_G t) (q_E 0) (q_h f g)) :=
  ev_throw (k := 0) (n := 0) (names := q_sup) ok d0 d3 d4 d7 hno rfl (by decide +kernel) (by decide +kernel) (by rw [hc]; exact q_in 601 (by decide +kernel) rfl) (q_in 17 (by decide +kernel) rfl) (by rw [hc]; exact q_hat t (by decide) q_own0) hF hL
theorem et_throw1 (ok : ma_ok (q_G t)) (hc : (m_y M).cls = "LayoutDesk") (d0 : decode (m_c M) pc = .ok (.new 92, 3)) (d3 : decode (m_c M) (pc + 3) = .ok (.dup, 1)) (d4 : decode (m_c M) (pc + 3 + 1) = .ok (.invokespecial 94, 3)) (d7 : decode (m_c M) (pc + 3 + 1 + 3) = .ok (.athrow, 1)) (hno : m_t M = []) (hF : 5 < F) (hL : (st.map fun v => v.category).sum + 81 ≤ Lc) : ma_Ev (q_G t) F Lc 1 6 M pc ls st (q_h f g) (ma_zx (q_G t) (q_E 1) (q_h f g)) :=
  ev_throw (k := 0) (n := 0) (names := q_sup) ok d0 d3 d4 d7 hno rfl (by decide +kernel) (by decide +kernel) (by rw [hc]; exact q_in 680 (by decide +kernel) rfl) (q_in 18 (by decide +kernel) rfl) (by rw [hc]; exact q_hat t (by decide) q_own1) hF hL
theorem et_throw2 (ok : ma_ok (q_G t)) (hc : (m_y M).cls = "LayoutDesk") (d0 : decode (m_c M) pc = .ok (.new 138, 3)) (d3 : decode (m_c M) (pc + 3) = .ok (.dup, 1)) (d4 : decode (m_c M) (pc + 3 + 1) = .ok (.invokespecial 140, 3)) (d7 : decode (m_c M) (pc + 3 + 1 + 3) = .ok (.athrow, 1)) (hno : m_t M = []) (hF : 5 < F) (hL : (st.map fun v => v.category).sum + 81 ≤ Lc) : ma_Ev (q_G t) F Lc 1 6 M pc ls st (q_h f g) (ma_zx (q_G t) (q_E 2) (q_h f g)) :=
  ev_throw (k := 0) (n := 0) (names := q_sup) ok d0 d3 d4 d7 hno rfl (by decide +kernel) (by decide +kernel) (by rw [hc]; exact q_in 714 (by decide +kernel) rfl) (q_in 20 (by decide +kernel) rfl) (by rw [hc]; exact q_hat t (by decide) q_own2) hF hL
theorem et_throw3 (ok : ma_ok (q_G t)) (hc : (m_y M).cls = "LayoutDesk") (d0 : decode (m_c M) pc = .ok (.new 188, 3)) (d3 : decode (m_c M) (pc + 3) = .ok (.dup, 1)) (d4 : decode (m_c M) (pc + 3 + 1) = .ok (.invokespecial 190, 3)) (d7 : decode (m_c M) (pc + 3 + 1 + 3) = .ok (.athrow, 1)) (hno : m_t M = []) (hF : 5 < F) (hL : (st.map fun v => v.category).sum + 81 ≤ Lc) : ma_Ev (q_G t) F Lc 1 6 M pc ls st (q_h f g) (ma_zx (q_G t) (q_E 3) (q_h f g)) :=
  ev_throw (k := 0) (n := 0) (names := q_sup) ok d0 d3 d4 d7 hno rfl (by decide +kernel) (by decide +kernel) (by rw [hc]; exact q_in 805 (by decide +kernel) rfl) (q_in 21 (by decide +kernel) rfl) (by rw [hc]; exact q_hat t (by decide) q_own3) hF hL
theorem et_callVX (ok : ma_ok (q_G t)) {np index F1 L1 ci a : Nat} {E0 : String} {f1 g1 : q_F} {r0 : vw_C} (As rest : List Value) {st0 : List Value} (f9 : ma_CV (q_G t) (m_y M).cls index M1 np) (hlk : Cond.methodLink (m_y M).cls index (m_y M1) ∈ q_WS) (dc : decode (m_c M) pc = .ok (.invokevirtual index, 3)) (ha : q_SH[a]? = some (.inl ci)) (hci : q_CL[ci]? = some r0) (hr0 : r0.1 = (m_y M1).cls) (hM : ma_MetX (q_G t) F1 L1 1 6 M1 (q_a t a :: As) (q_h f g) E0 (q_h f1 g1)) (hst : st0 = As.reverse ++ q_a t a :: rest) (hn : As.length = np) (hF : F1 + 1 ≤ F) (hL : 8 + (m_n M1 + 11) + L1 ≤ Lc) (hr : (rest.map fun v => v.category).sum ≤ 8) (hno : m_t M = []) : ma_Ev (q_G t) F Lc 1 6 M pc ls st0 (q_h f g) (ma_zx (q_G t) E0 (q_h f1 g1)) :=
  ev_callVX (k := 0) (n := 0) ok As rest f9 hlk dc ha hci hr0 hM hst hn hF hL hr hno
theorem et_callSX (ok : ma_ok (q_G t)) {np index F1 L1 : Nat} {E0 : String} {f1 g1 : q_F} (As rest : List Value) {st0 : List Value} (f9 : ma_CS (q_G t) (m_y M).cls index M1 np) (hlk : Cond.methodLink (m_y M).cls index (m_y M1) ∈ q_WS) (dc : decode (m_c M) pc = .ok (.invokestatic index, 3)) (hM : ma_MetX (q_G t) F1 L1 1 6 M1 As (q_h f g) E0 (q_h f1 g1)) (hst : st0 = As.reverse ++ rest) (hn : As.length = np) (hF : F1 + 1 ≤ F) (hL : 8 + (m_n M1 + 11) + L1 ≤ Lc) (hr : (rest.map fun v => v.category).sum ≤ 8) (hno : m_t M = []) : ma_Ev (q_G t) F Lc 1 6 M pc ls st0 (q_h f g) (ma_zx (q_G t) E0 (q_h f1 g1)) :=
  ev_callSX (k := 0) (n := 0) ok As rest f9 hlk dc hM hst hn hF hL hr hno
theorem et_callVC (ok : ma_ok (q_G t)) {np index F1 L1 ci a : Nat} {E0 : String} {f1 g1 : q_F} {r0 : vw_C} {Z : ma_Z} (As rest : List Value) {st0 : List Value} (f9 : ma_CV (q_G t) (m_y M).cls index M1 np) (hlk : Cond.methodLink (m_y M).cls index (m_y M1) ∈ q_WS) (dc : decode (m_c M) pc = .ok (.invokevirtual index, 3)) (ha : q_SH[a]? = some (.inl ci)) (hci : q_CL[ci]? = some r0) (hr0 : r0.1 = (m_y M1).cls) (hM : ma_MetX (q_G t) F1 L1 1 6 M1 (q_a t a :: As) (q_h f g) E0 (q_h f1 g1)) (hst : st0 = As.reverse ++ q_a t a :: rest) (hn : As.length = np) (hF : F1 + 1 ≤ F) (hL : 8 + (m_n M1 + 11) + L1 ≤ Lc) (hr : (rest.map fun v => v.category).sum ≤ 8)
    (pre tl : List (Nat × Nat × Nat × Nat)) (x : Nat × Nat × Nat × Nat) (htb : m_t M = pre ++ x :: tl) (hx : covers ⟨x.1, x.2.1, x.2.2.1, x.2.2.2⟩ pc = true) (hx0 : x.2.2.2 ≠ 0) (hxl : Cond.classLink (m_y M).cls x.2.2.2 E0 ∈ q_WS) (hE : E0 ∈ q_EX)
    (hpre : ∀ y ∈ pre, covers ⟨y.1, y.2.1, y.2.2.1, y.2.2.2⟩ pc = true ∧ y.2.2.2 ≠ 0 ∧ ∃ nm, Cond.classLink (m_y M).cls y.2.2.2 nm ∈ q_WS ∧ ∀ s : State, q_N s → va_Nc E0 nm s)
    (E : ∀ q : Nat, ma_Ev (q_G t) F Lc 0 0 M x.2.2.1 ls [.ref q] (q_h f1 g1) Z) : ma_Ev (q_G t) F Lc 1 6 M pc ls st0 (q_h f g) Z :=
  ev_callVC (k := 0) (n := 0) ok As rest f9 hlk dc ha hci hr0 hM hst hn hF hL hr rfl pre tl x htb hx hx0 hxl (fun s h => h.2.2.1 E0 hE) hpre E
end ETX
def q_or {α β : Type} (o : Option α) (k : α → Option β) (e : Option β) : Option β := match o with
  | some x => k x
  | none => e
theorem q_or_of {α β : Type} {o : Option α} {k : α → Option β} {e : Option β} {y : β} (h : q_or o k e = some y) : (∃ x, o = some x ∧ k x = some y) ∨ (o = none ∧ e = some y) := by
  cases o with
  | none => exact Or.inr ⟨rfl, h⟩
  | some x => exact Or.inl ⟨x, rfl, h⟩
/-- which rows of the law's helpers name which exception -/
theorem q_self {E : String} (hE : E ∈ q_EX) (s : State) (h : q_N s) : ∃ c : ClassId, s.vm.findClass E = some c ∧ s.vm.assignable c c = true := h.2.2.1 E hE
theorem q_ncast {E D : String} (hE : E ∈ q_EX) (hD : D ∈ q_EX) (hne : E ≠ D) (s : State) (h : q_N s) : va_Nc E D s := h.2.2.2 E hE D hD hne
