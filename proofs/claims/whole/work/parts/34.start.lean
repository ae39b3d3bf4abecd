/-! ===== what the law's entry gives: classes, arrays, statics, exceptions ===== -/
theorem q_framed {s t : State} {o : Outcome} {L : List Loc} {k n : Nat} (h : FrameEnd s o t L k n) (hL : ∀ q ∈ L, s.heap.size ≤ q.base) : Framed s o t [] k n := by
  obtain ⟨h1, h2, h3, h4, h5, h6, h7, h8⟩ := h
  refine ⟨h1, h2, h3, h4, h5, h6, h7, fun a c hc => ?_⟩
  obtain ⟨c', q1, q2, q3, q4⟩ := h8 a c hc
  refine ⟨c', q1, q2, q3, fun i _ => q4 i fun hm => ?_⟩
  have h9 := hL _ hm
  have h10 := (Array.getElem?_eq_some_iff.mp hc).1
  have h11 : s.heap.size ≤ a := h9
  omega
theorem q_stat {C nm d : String} {A : Nat → Prop} {s : State} {args : Array Value} (h1 : (Cond.laysStatic C nm d).before args s = true) (h2 : (Cond.isRef (.static C nm d)).before args s = true) (hA : ∀ a, a < s.heap.size → ¬ A a) : ma_St C nm d A s s.heap := by
  obtain ⟨c, k, i, f, a, cell, q1, q2, q3, q4, q5, q6, q7, q8, q9⟩ := Cond.laysStatic_spec h1
  obtain ⟨v, hv, hr⟩ := Cond.isRef_spec h2
  have he : (Term.static C nm d).eval args s none [] s = cell.slots[f.slot]? := by
    simp [Term.eval, State.fieldNamed?, q2, q3, q4, q5, q6]
  refine ⟨c, k, i, f, a, cell, v, q1, q2, q3, q4, q5, q6, q7, q8, q9, he.symm.trans hv, ?_, hA a (Array.getElem?_eq_some_iff.mp q5).1⟩
  cases v <;> simp [Value.isRef] at hr ⊢
theorem q_insts : ∀ r ∈ q_CL, Cond.instantiable r.1 r.2.2 ∈ q_WS := by decide +kernel
/-- what the law's start owes to the walk -/
def lw_At2 (p : Program) (s : State) (m : MethodId) (meth : Method) (c : Code) (b L : Nat) (xs : Nat → Int32) : Prop :=
  (p.tables.exec = Jvm.exec ∧ c.code = code ∧ meth.sig.returnType = ret ∧ c.maxLocals = 7 ∧ s.vm.findClass "LayoutDeskLaw" = some m.cls ∧ meth.name = x.name ∧ c.exceptionTable.toList = [] ∧ meth.locks = false) ∧ ((∀ w ∈ lw_tbl, w.before #[Value.ref b] s = true) ∧ (Cond.code x code maxLocals ret).before #[Value.ref b] s = true ∧ (Jvm.Cond.and given_1 narrow_1).before #[Value.ref b] s = true) ∧ va_X b L xs s s.heap ∧ b < s.heap.size
theorem q_Nof {s : State} {args : Array Value} (hts : ∀ w ∈ lw_tbl, w.before args s = true) (hgv : (Jvm.Cond.and given_1 narrow_1).before args s = true) : q_N s := by
  have hin : ∀ w ∈ tables_1, w.before args s = true := fun w hw => hts w (List.mem_append_right _ hw)
  have hfl := flat_of_before _ hgv
  refine ⟨fun w hw => ?_, fun C hC => ?_, fun C hC => ?_, fun C hC D hD hne => ?_⟩
  · have h1 := List.mem_filter.mp hw
    have h2 := hin w h1.1
    have h3 := h1.2
    cases w <;> first | (cases h3; done) | exact va_tabs rfl rfl h2
  · simp only [q_AO, List.mem_cons, List.not_mem_nil, or_false] at hC
    rcases hC with rfl | rfl | rfl | rfl
    · exact va_AO.of (hin _ (List.mem_of_getElem? (i := 54) (by decide +kernel)))
    · exact va_AO.of (hin _ (List.mem_of_getElem? (i := 56) (by decide +kernel)))
    · exact va_AO.of (hin _ (List.mem_of_getElem? (i := 58) (by decide +kernel)))
    · exact va_AO.of (hin _ (List.mem_of_getElem? (i := 60) (by decide +kernel)))
  · have key : (Cond.castable C C).before args s = true := by
      simp only [q_EX, List.mem_cons, List.not_mem_nil, or_false] at hC
      rcases hC with rfl | rfl | rfl | rfl
      · exact hin _ (List.mem_of_getElem? (i := 603) (by decide +kernel))
      · exact hin _ (List.mem_of_getElem? (i := 682) (by decide +kernel))
      · exact hin _ (List.mem_of_getElem? (i := 716) (by decide +kernel))
      · exact hin _ (List.mem_of_getElem? (i := 807) (by decide +kernel))
    obtain ⟨c, t, q1, q2, q3⟩ := Cond.castable_spec key
    cases Option.some.inj (q1.symm.trans q2)
    exact ⟨c, q1, q3⟩
  · refine va_Nc.of (args := args) (hfl _ ?_)
    simp only [q_EX, List.mem_cons, List.not_mem_nil, or_false] at hC hD
    rcases hC with rfl | rfl | rfl | rfl <;> rcases hD with rfl | rfl | rfl | rfl <;> first | exact absurd rfl hne | decide +kernel
theorem q_start {p : Program} {e : Env} {s : State} {m : MethodId} {below : List Frame} {meth : Method} {c : Code} (l : Launch) (hl : l.stackTraces = false) {b L : Nat} {xs : Nat → Int32} (hL : L ≤ 2560) (C0 : lw_At2 p s m meth c b L xs)
    {y : Int × q_F × q_F} (hp : p_Law_law_23 L xs 600 0 cz_fE (fun _ _ => 0) = some y) (hy : y.1 = 1) :
    W p l e room_1 s m #[Value.ref b] below meth c s.heap [] 0 0 (fun t => ∃ o, t.status = .running ∧ Ended t below o ∧ o = .returned (some (.int 1)) ∧ Framed s o t [] 601024 7293034) (entryFrame m ([Value.ref b] : List Value).toArray 7) := by
  obtain ⟨⟨a1, a2, a3, a4, a5, a6, a7, a8⟩, ⟨hts, hcw, hgv⟩, hX, hb⟩ := C0
  have hws : ∀ w ∈ q_WS, w.before #[Value.ref b] s = true := fun w hw => hts w (List.mem_filter.mp hw).1
  have hin : ∀ w ∈ tables_1, w.before #[Value.ref b] s = true := fun w hw => hts w (List.mem_append_right _ hw)
  have hfl := flat_of_before _ hgv
  have hus : ∀ r ∈ q_CL, ∀ w ∈ u_ws r.1 r.2.1 r.2.2, w ∈ q_WS := fun r hr => ((q_ok (l, (0, 0, 0, fun _ => 0), (fun _ => 0, fun _ _ => 0), fun _ => 0) hl).2.2.2 r hr).1
  have hk : ∀ c : Nat, ∃ (x : ClassId) (i : Nat → Nat), ∀ q : vw_C, q_CL[c]? = some q → u_Kn s q.1 q.2.1 q.2.2 x i := by
    intro c
    cases h : q_CL[c]? with
    | none => exact ⟨0, fun _ => 0, fun q hq => by cases hq⟩
    | some r =>
      have hr : r ∈ q_CL := List.mem_of_getElem? h
      obtain ⟨x, i, hx⟩ := u_known (C := r.1) (T := r.2.1) (N := r.2.2) (n := r.2.2) hws (hus r hr) (hws _ (q_insts r hr))
      exact ⟨x, i, fun q hq => by cases Option.some.inj hq; exact hx⟩
  let t : q_V := (l, (s.heap.size, b, L, xs), (fun c => (hk c).choose, fun c => (hk c).choose_spec.choose), fun ty => (s.vm.findClass ("[" ++ ty.toString)).getD 0)
  have ok : ma_ok (q_G t) := q_ok t hl
  have hA : ∀ a, a < s.heap.size → ¬ ma_A (q_G t) a := fun a ha h => absurd h.1 (Nat.not_le.mpr ha)
  have P : ma_Pre (q_G t) s := by
    refine ⟨⟨fun c q hq => (hk c).choose_spec.choose_spec q hq, fun k q hq => by simp at hq⟩, fun ty x hx => ?_, q_Nof hts hgv, hX, hb, Nat.le_refl _, ?_, ?_, fun a cell h1 h2 => ?_⟩
    · show (s.vm.findClass ("[" ++ ty.toString)).getD 0 = x
      rw [hx]
      rfl
    · exact q_stat (hin _ (List.mem_of_getElem? (i := 628) (by decide +kernel))) (hfl _ (by decide +kernel)) hA
    · exact q_stat (hin _ (List.mem_of_getElem? (i := 630) (by decide +kernel))) (hfl _ (by decide +kernel)) hA
    · exact absurd h1 (hA a (Array.getElem?_eq_some_iff.mp h2).1)
  have r0 : ma_Rel (q_G t) (q_c 0 cz_f0 cz_R0) s s.heap := by
    refine ⟨fun k q hq => ?_, fun a ty n ha => ?_, ?_, fun h => by cases h⟩
    · have h1 : ma_ws (q_G t) (q_c 0 cz_f0 cz_R0) = [] := rfl
      rw [h1] at hq
      cases hq
    · have h1 : (q_c 0 cz_f0 cz_R0).1.2 = [] := rfl
      rw [h1] at ha
      cases ha
    · show (q_SH.take 0).length ≤ 98
      decide
  have E := law_begin t ok L xs rfl rfl (by omega) (Q := fun r _ => r = some (ma_i 1)) (y := y) (by rw [hy]) hp
  have C : ma_Cx (q_G t) 2048 84000 m_Law_law p s m #[Value.ref b] meth c room_1 := by
    refine ⟨a1, a2, a3, a8, a4, a5, a6, fun w hw => ?_, a7, P, rfl, rfl⟩
    rcases List.mem_cons.mp hw with rfl | hw
    · exact hcw
    · exact hws w hw
  rw [lg_entry_eq]
  have K := E (e := e) (below := below) C r0 va_S.rf (lv_entry [Value.ref b] (q_ble rfl)) (Nat.zero_add _) (Nat.le_of_eq (Nat.zero_add _)) (fun _ => rfl)
  intro T hT X
  obtain ⟨t9, b1, o, b2, b3, ⟨r9, h9, b4, b5, -⟩, L9, b6, b7⟩ := K T hT X
  refine ⟨t9, b1, o, b2, b3, ?_, q_framed b6 fun q hq => (b7 q hq).1⟩
  rw [b4, b5]
  rfl
