/-! ===== methods that throw: contracts, walks, calls ===== -/
/-- where the method that began in st has thrown q, of the class E: the store, the cell, what was written -/
def ma_Thr (G : ma_G) (h : ma_H) (E : String) (mc ms : Nat) (st : State) (q : Addr) (t : State) : Prop :=
  ∃ (ce : Cell) (L : List Loc), ma_Rel G h t t.heap ∧ va_F (ma_A G) st t ∧ t.heap[q]? = some ce ∧ ce.vm = .none ∧ st.vm.findClass E = some ce.cls ∧ st.WarmedH t.vm ∧ st.sameButNew ({ t with vm := st.vm } : State) L mc ms ∧ ∀ z ∈ L, ma_A G z.base
/-- from the store h the method throws E, leaving the store h' -/
def ma_MetX (G : ma_G) (F Lc mc ms : Nat) (M : ma_M) (As : List Value) (h : ma_H) (E : String) (h' : ma_H) : Prop :=
  MetFree (g_l G) (m_y M) (headSpec (ma_word M :: g_ws G) { frames := F, cells := mc, slots := ms, locals := Lc }) (ma_Pc G h As) (fun _ _ _ _ _ => True) (fun _ st o t => ∃ q, o = .threw q ∧ ma_Thr G h' E mc ms st q t)
/-- a walk's end by throwing -/
def ma_zx (G : ma_G) (E : String) (h' : ma_H) : ma_Z := fun below _ s R t => ∃ q, t.status = .running ∧ Ended t below (.threw q) ∧ ma_Thr G h' E R.cells R.slots s q t
section EX
variable {G : ma_G} {F Lc k n : Nat} {M M1 : ma_M} {pc : Nat} {ls : List (Nat × Value)} {st : List Value} {h h' : ma_H} {Z : ma_Z} {E0 : String}
theorem ma_metX {As : List Value} {mc ms : Nat} (hy : plainName (m_y M).cls = true) (hfit : (lg_sl As).length ≤ m_n M) (hno : m_t M = []) (E : ma_Ev G F Lc mc ms M 0 (lv_args 0 As) [] h (ma_zx G E0 h')) : ma_MetX G F Lc mc ms M As h E0 h' := by
  have hw : ma_word M = .code (m_y M) (m_c M) (m_n M) (m_r M) := ma_code hno
  refine MetFree.of_bodyS (code := m_c M) (maxLocals := m_n M) (ret := m_r M) hy ?_ ?_
  · intro args s m hpre hn
    have hcw := atoms_spec (ws := ma_word M :: g_ws G) hpre _ List.mem_cons_self
    rw [hw] at hcw
    obtain ⟨meth, c, q1, q2, q3, q4, q5, q6, -, -⟩ := Cond.code_spec hn hcw
    exact ⟨meth, c, q1, q2, q3, q4, q5, q6⟩
  · intro p e s m args below meth c s₁ B hml hP _
    obtain ⟨rfl, P, r, hz⟩ := hP
    have hts := atoms_spec (ws := ma_word M :: g_ws G) B.pre
    have hown : s.vm.findClass (m_y M).cls = some m.cls := findClass_of_methodNamed B.named
    have htab : c.exceptionTable.toList = tableOf (m_t M) := by
      have hcw := hts _ List.mem_cons_self
      rw [hw] at hcw
      obtain ⟨meth9, c9, q1, q2, -, -, -, -, q7, -⟩ := Cond.code_spec B.named hcw
      cases Option.some.inj (q1.symm.trans B.method)
      cases Option.some.inj (q2.symm.trans (Stand.of_body B).code)
      rw [hno, Array.isEmpty_iff.mp q7]
      rfl
    have hh0 : s₁.heap = s.heap := by rw [B.state]; rfl
    have key := E (e := e) (below := below) ⟨B.exec, B.bytes, B.returns, B.notSynchronized, hml, hown, (name_of_methodNamed B.named B.method).1, hts, htab, P, rfl, rfl⟩ r va_S.rf (lv_entry As hfit) (R := { frames := F, cells := mc, slots := ms, locals := Lc }) (Nat.zero_add _) (Nat.le_of_eq (Nat.zero_add _)) (fun q => hz q)
    have X0 := Stand.of_body B
    obtain ⟨t, a1, q, b1, b2, b3⟩ := key s₁ hh0 X0
    rw [← lg_entry_eq] at a1
    exact ⟨t, .threw q, a1, b1, b2, ⟨q, rfl, b3⟩⟩
/-- a callee that throws, from the invoking on to the note over the caller's frame -/
theorem ma_fly {p : Program} {e : Env} {R : Room} {s U : State} {m mk : MethodId} {sargs : Array Value} {below : List Frame} {meth : Method} {c : Code} {locs : List Loc} {cells slots mc ms F1 L1 len : Nat} {As : List Value} {g : JFrame} {ig : Instr} (X : Stand p (g_l G) e R s m sargs below meth c U locs cells slots)
    (hg : g.method = m) (hsize : g.locals.size = c.maxLocals) (hdg : decode c.code g.pc = .ok (ig, len)) (hW : 2 * g.monitorRoom + (g.stack.map fun v => v.category).sum ≤ 8) (hn : U.methodNamed? (m_y M1) = some mk) (hM : ma_MetX G F1 L1 mc ms M1 As h E0 h') (hno : m_t M1 = [])
    (hfr : F1 + 1 ≤ R.frames) (hlo : 8 + (m_n M1 + 11) + L1 ≤ R.locals) (hws : ∀ w ∈ ma_word M1 :: g_ws G, w.before As.toArray U = true) (hini : (Cond.initialized (m_y M1).cls).before As.toArray U = true) (hc : cells + mc ≤ R.cells) (hs : slots + ms ≤ R.slots) (hPc : ma_Pc G h As As.toArray (U.calling g mk As.toArray)) :
    ∃ (q : Addr) (V : State) (ce : Cell) (L : List Loc), Stand p (g_l G) e R s m sargs below meth c V (locs ++ L) (cells + mc) (slots + ms) ∧ (∀ z ∈ L, ma_A G z.base) ∧ ma_Rel G h' V V.heap ∧ va_F (ma_A G) U V ∧ V.heap[q]? = some ce ∧ ce.vm = .none ∧ U.vm.findClass E0 = some ce.cls ∧
      Steps p.tables e below (doInvoke e (U.setTop g) [] mk As.toArray).1 ((V.setTop g).pushFrame (.throwing q)) := by
  have hcw := hws _ List.mem_cons_self
  rw [ma_code hno] at hcw
  obtain ⟨methY, cY, hmY, hcY, -, hlY, -, -, -, -⟩ := Cond.code_spec hn hcw
  obtain ⟨kY, hkY, -⟩ := className_of_methodNamed hn
  have hiY : kY.init = .initialized := Cond.initialized_spec (findClass_of_methodNamed hn) hkY hini
  have hat : At U g.method c below := by rw [hg]; exact X.here
  have happ := Spec.appliesLoose_calling (S := headSpec (ma_word M1 :: g_ws G) { frames := F1, cells := mc, slots := ms, locals := L1 }) (g := g) hat hdg hn hkY hiY (X.room_calling (g := g) (R' := { frames := F1, cells := mc, slots := ms, locals := L1 }) hsize hmY hcY hfr (by rw [hlY]; show _ + (m_n M1 + 11) + L1 ≤ _; omega) hc hs) (atoms_intro hws)
  obtain ⟨mid, hmid⟩ := hat.above
  have hF0 : (U.setTop g).frames = (.java g :: mid) ++ below := by rw [State.frames_setTop' g hat.top, hmid]; rfl
  obtain ⟨o, V2, hsteps, -, hend, q, rfl, ce, L, hrel, hF, hce, hcv, hcl, hW2, hsm, hL⟩ := Steps.callFree hM p X.admits X.cas X.clock (acts := []) hF0 happ hPc trivial
  have hfr2 : V2.frames = .throwing q :: (U.setTop g).frames := hend
  rw [State.frames_setTop' g hat.top] at hfr2
  obtain ⟨g₀, hg0⟩ := Option.isSome_iff_exists.mp hat.top
  obtain ⟨rr, hr⟩ := State.topJava?_eq_some.mp hg0
  obtain ⟨e2, q2, q3, q4, q5, q6⟩ := hsm
  have e3 : V2 = ({ (U.calling g mk As.toArray).setFrames V2.frames with heap := V2.heap, slotsUsed := V2.slotsUsed } : State).setVm V2.vm := by
    have e4 : V2 = ({ V2 with vm := (U.calling g mk As.toArray).vm } : State).setVm V2.vm := rfl
    have e5 : ({ V2 with vm := (U.calling g mk As.toArray).vm } : State) = { (U.calling g mk As.toArray).setFrames V2.frames with heap := V2.heap, slotsUsed := V2.slotsUsed } := e2
    rw [e5] at e4
    exact e4
  have hr' : (({ U with heap := V2.heap, slotsUsed := V2.slotsUsed } : State).setVm V2.vm).frames = .java g₀ :: rr := hr
  have hV : V2 = ((({ U with heap := V2.heap, slotsUsed := V2.slotsUsed } : State).setVm V2.vm).setTop g).pushFrame (.throwing q) := by
    refine e3.trans ?_
    rw [hfr2, State.calling_eq hat.top, State.setFrames_setFrames, State.pushFrame, State.setTop_of_frames _ hr', State.setFrames_setFrames, hr]
    have hlt : (({ U with heap := V2.heap, slotsUsed := V2.slotsUsed } : State).setVm V2.vm).cur < (({ U with heap := V2.heap, slotsUsed := V2.slotsUsed } : State).setVm V2.vm).threads.size := State.cur_lt_of_frames hr'
    rw [State.frames_setFrames _ hlt]
    rfl
  have hWV : U.WarmedH V2.vm := hW2
  have hsame : U.sameButNew ({ U with heap := V2.heap, slotsUsed := V2.slotsUsed } : State) L mc ms := by
    refine ⟨?_, q2, q3, q4, q5, q6⟩
    obtain ⟨tt, htt, -⟩ := State.frames_cons hr
    show ({ U with heap := V2.heap, slotsUsed := V2.slotsUsed } : State) = { U.setFrames U.frames with heap := V2.heap, slotsUsed := V2.slotsUsed }
    rw [State.setFrames_self htt]
  subst hg
  refine ⟨q, ({ U with heap := V2.heap, slotsUsed := V2.slotsUsed } : State).setVm V2.vm, ce, L, ⟨X.admits, X.cas, X.clock, X.frames, X.room, X.hears, X.method, X.code, (X.here.setHeapUsed V2.heap V2.slotsUsed).setVm hWV.alike, X.tail, State.WarmedH.trans X.warmed hWV, X.limits, X.bytes, X.same.trans (hsame.setVm s.vm)⟩, hL, ?_, hF, hce, hcv, hcl, ?_⟩
  · exact hrel.moved (u := V2) (U := ({ U with heap := V2.heap, slotsUsed := V2.slotsUsed } : State).setVm V2.vm) (Vm.Alike.refl _)
  · rw [← hV]
    exact hsteps
/-- the note over this frame, no handler: out of the method -/
theorem ma_out {p : Program} {e : Env} {R : Room} {s V : State} {m : MethodId} {sargs : Array Value} {below : List Frame} {meth : Method} {c : Code} {locs : List Loc} {cells slots : Nat} {g : JFrame} {q : Addr} {ce : Cell} (X : Stand p (g_l G) e R s m sargs below meth c V locs cells slots) (C : ma_Cx G F Lc M p s m sargs meth c R) (hno : m_t M = [])
    (hg : g.method = m) (hlk : g.locked = none) (hen : g.entered = []) (hS : va_S (ma_A G) s.heap V.heap locs) (hr : ma_Rel G h' V V.heap) (hq : V.heap[q]? = some ce) (hv : ce.vm = .none) (hcl : s.vm.findClass E0 = some ce.cls) (hc : cells ≤ R.cells) (hs : slots ≤ R.slots) :
    ∃ t, Steps p.tables e below ((V.setTop g).pushFrame (.throwing q)) t ∧ ma_zx G E0 h' below sargs s R t := by
  obtain ⟨st1, hrun, hend, hW, hsm⟩ := X.leaveThrown q hg hlk hen (fun x hx => by rw [C.2.2.2.2.2.2.2.2.1, hno] at hx; cases hx) C.2.2.2.1
  refine ⟨_, st1, q, hrun, hend, ce, locs, ?_, ⟨hS.1, hS.2.1⟩, hq, hv, hcl, hW, hsm.mono hc hs, hS.2.2⟩
  exact hr.moved (u := V) (U := V.setFrames (.throwing q :: below)) (Vm.Alike.refl _)
/-- what the store's range holds, moved along a call -/
theorem ma_Sf {s U V : State} {H : Heap} {locs L : List Loc} (S : va_S (ma_A G) s.heap H locs) (hU : U.heap = H) (hF : va_F (ma_A G) U V) (hL : ∀ z ∈ L, ma_A G z.base) : va_S (ma_A G) s.heap V.heap (locs ++ L) := by
  obtain ⟨f1, f2⟩ := hF
  rw [hU] at f1 f2
  refine ⟨Nat.le_trans S.1 f1, fun q q1 q2 => (f2 q (Nat.lt_of_lt_of_le q1 S.1) q2).trans (S.2.1 q q1 q2), fun z hz => ?_⟩
  rcases List.mem_append.mp hz with q | q
  · exact S.2.2 z q
  · exact hL z q
/-- a virtual call of a method that throws: to the note over this frame -/
theorem ma_flyV (ok : ma_ok G) {p : Program} {e : Env} {s : State} {m : MethodId} {args : Array Value} {below : List Frame} {meth : Method} {c : Code} {R : Room} {H : Heap} {locs : List Loc} {cells slots np index F1 L1 mc ms ci a : Nat} {lsA : Array Slot} {r0 : vw_C} {As rest st0 : List Value} {T : State} (hT : T.heap = H) (X9 : Stand p (g_l G) e R s m args below meth c T locs cells slots)
    (C : ma_Cx G F Lc M p s m args meth c R) (r : ma_Rel G h s H) (S : va_S (ma_A G) s.heap H locs) (hv : lsA.size = m_n M) (hex : h.1.1 = true → s.heap.size + cells = g_o G + h.1.2.length)
    (f : ma_CV G (m_y M).cls index M1 np) (hlk : Cond.methodLink (m_y M).cls index (m_y M1) ∈ g_ws G) (dc : decode (m_c M) pc = .ok (.invokevirtual index, 3)) (ha : h.1.2[a]? = some (.inl ci)) (hci : (g_cl G)[ci]? = some r0) (hr0 : r0.1 = (m_y M1).cls) (hM : ma_MetX G F1 L1 mc ms M1 (.ref (g_o G + a) :: As) h E0 h') (hst : st0 = As.reverse ++ .ref (g_o G + a) :: rest) (hn : As.length = np) (hF : F1 + 1 ≤ F) (hL : 8 + (m_n M1 + 11) + L1 ≤ Lc) (hr : (rest.map fun v => v.category).sum ≤ 8) (hc : cells + mc ≤ R.cells) (hs : slots + ms ≤ R.slots) :
    ∃ (q : Addr) (V : State) (ce : Cell) (L : List Loc), Stand p (g_l G) e R s m args below meth c V (locs ++ L) (cells + mc) (slots + ms) ∧ va_S (ma_A G) s.heap V.heap (locs ++ L) ∧ ma_Rel G h' s V.heap ∧ V.heap[q]? = some ce ∧ ce.vm = .none ∧ s.vm.findClass E0 = some ce.cls ∧
      Steps p.tables e below (T.setTop (F0 m pc lsA st0)) ((V.setTop (F0 m pc lsA rest)).pushFrame (.throwing q)) := by
  obtain ⟨f1, f2, f3, f3b, f4, f5, f6⟩ := f
  have P := C.2.2.2.2.2.2.2.2.2.1
  have hts := C.2.2.2.2.2.2.2.1
  have htw : ∀ w ∈ g_ws G, w.before args s = true := fun w hw => hts w (List.mem_cons_of_mem _ hw)
  have hb := X9.heapSize
  rw [hT] at hb
  have hp0 := ma_preS (As := .ref (g_o G + a) :: As) ok P r S (fun q => ma_size P r S hb (hex q))
  obtain ⟨cellB, hcB, hoB, hclB⟩ : ∃ cellB : Cell, H[g_o G + a]? = some cellB ∧ cellB.vm.isStatics = false ∧ s.vm.findClass (m_y M1).cls = some cellB.cls := by
    have hw : (ma_ws G h)[a]? = some (g_o G + a, .inr (ci, ma_fs (g_o G) h a r0)) := by rw [ma_ws_at ha, ma_ce_obj hci]
    have := va_recv P.1 r.1 hci hw
    rw [hr0] at this
    exact this
  have hgood := ma_good (M := M) ok f2
  have hcode : (Cond.code (m_y M1) (m_c M1) (m_n M1) (m_r M1)).before args s = true := by rw [← ma_code f1]; exact htw _ f2
  obtain ⟨mk, methM, hnamed, hmethM, hstM, habM⟩ := Cond.instanceMethod_spec (htw _ f3)
  obtain ⟨methM', cM, hmethM', -, -, -, -, -, -, hsigM⟩ := Cond.code_spec hnamed hcode
  cases hmethM.symm.trans hmethM'
  obtain ⟨c2, r2, m2, q1, q2, q3, q4, kP, hkP, hkPi⟩ := Cond.selects_spec (htw _ f3b)
  cases hclB.symm.trans q1
  cases (State.methodFound?_of_named hnamed ⟨f5.1, f5.2.1⟩).symm.trans q2
  cases hnamed.symm.trans q3
  have hsel : selectMethod e.platform s.vm cellB.cls mk = .method mk := by rw [Launch.admits_selectMethod X9.admits]; exact q4
  have hlen : As.length = methM.sig.parameters.length := by
    have h2 := f5.2.2
    rw [hsigM] at h2
    exact hn.trans (Option.some.inj h2).symm
  obtain ⟨vm₁, X₁, hstep₁⟩ := X9.invokevirtual C.1 C.2.2.2.2.2.1 (htw _ hlk) hnamed hmethM hstM hkP hkPi ⟨f5.1, f5.2.1⟩ (a := g_o G + a) (cell := cellB) (by rw [hT]; exact hcB)
    (fun z hz => by rw [hz] at hoB; cases hoB) hsel hmethM habM hkP hkPi (g := F0 m pc lsA st0) rfl (argsL := As) (rest := rest) hlen hst (by rw [C.2.1]; exact dc)
  have hPc := hp0.2 (T.setVm vm₁) hT X₁.warmed
  obtain ⟨q, V, ce, L, XV, hLV, hrel, hFV, hq, hqv, hqc, hsteps⟩ := ma_fly X₁ (g := F0 m pc lsA rest) (mk := mk) (ig := .invokevirtual index) (len := 3) rfl (hv.trans C.2.2.2.2.1.symm) (by rw [C.2.1]; exact dc) (lv_room hr) (X₁.named hnamed) hM f1 (by rw [C.2.2.2.2.2.2.2.2.2.2.1]; exact hF) (by rw [C.2.2.2.2.2.2.2.2.2.2.2]; exact hL)
    (fun w hw => pay_in hts hgood w hw _ _ X₁.warmed) (word_at X₁.warmed (good_of_word (ok.2.1 _ f4)) (htw _ f4)) hc hs (hp0.1 _ _ _ _ hPc)
  refine ⟨q, V, ce, L, XV, ma_Sf S hT hFV hLV, hrel.moved XV.warmed.alike.symm, hq, hqv, ?_, ?_⟩
  · have h8 : (T.setVm vm₁).vm.findClass E0 = some ce.cls := hqc
    rw [X₁.warmed.alike.findClass] at h8
    exact h8
  · exact hstep₁ _ fun acts => by rw [doInvoke_state]; exact hsteps
end EX
