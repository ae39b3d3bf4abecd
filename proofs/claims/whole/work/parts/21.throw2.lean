/-! ===== 'throw new E()', and calls that throw ===== -/
section EY
variable {G : ma_G} {F Lc k n : Nat} {M M1 : ma_M} {pc : Nat} {ls : List (Nat × Value)} {st : List Value} {h h' : ma_H} {Z : ma_Z} {E0 : String}
/-- the state as it would be if the method were entered with the heap of now -/
def ma_now (s T : State) (m : MethodId) (args : Array Value) (below : List Frame) : State := (T.setVm s.vm).setFrames (.invoking m args :: below)
theorem ma_fresh {p : Program} {l : Launch} {e : Env} {R : Room} {s T : State} {m : MethodId} {args : Array Value} {below : List Frame} {meth : Method} {c : Code} {locs : List Loc} {cells slots : Nat} (X : Stand p l e R s m args below meth c T locs cells slots) {mc ms : Nat} (hc : cells + mc ≤ R.cells) (hs : slots + ms ≤ R.slots) :
    Stand p l e { frames := R.frames, cells := mc, slots := ms, locals := R.locals } (ma_now s T m args below) m args below meth c T [] 0 0 := by
  have htop : (T.setVm s.vm).topJava?.isSome := X.here.top
  obtain ⟨g₀, hg0⟩ := Option.isSome_iff_exists.mp htop
  obtain ⟨rr, hrr⟩ := State.topJava?_eq_some.mp hg0
  have hfrm : (ma_now s T m args below).frames = .invoking m args :: below := State.frames_setFrames _ (State.cur_lt_of_top htop)
  have hin : (ma_now s T m args below).localsInUse = s.localsInUse := by
    rw [State.localsInUse_invoking hfrm (meth := meth) (c := c) X.method X.code, State.localsInUse_invoking X.frames X.method X.code]
  have hlim : e.platform.stackLimits (ma_now s T m args below).me = e.platform.stackLimits s.me := by
    show e.platform.stackLimits ((T.setVm s.vm).setFrames _).me = _
    rw [State.stackLimits_setFrames]
    exact X.limits
  have hbyt : (ma_now s T m args below).me.stackBytes = s.me.stackBytes := by
    show ((T.setVm s.vm).setFrames _).me.stackBytes = _
    rw [State.stackBytes_setFrames]
    exact X.bytes
  refine ⟨X.admits, X.cas, X.clock, hfrm, ?_, X.hears, X.method, X.code, X.here, X.tail, X.warmed, ?_, ?_, ?_⟩
  · have h0 := X.room
    have h1 := X.heapSize
    have h2 := X.used
    simp only [State.hasRoom, Bool.and_eq_true, decide_eq_true_eq] at h0 ⊢
    obtain ⟨⟨⟨⟨r1, r2, r3, r4, r5, r6⟩, r7⟩, r8⟩, r9⟩ := h0
    rw [X.frames] at r2 r3
    rw [hfrm, hin, hlim, hbyt]
    refine ⟨⟨⟨⟨r1, r2, r3, r4, r5, r6⟩, ?_⟩, ?_⟩, X.book⟩
    · show T.heap.size + mc ≤ e.platform.maxCells
      omega
    · show T.slotsUsed + ms ≤ e.platform.maxSlots
      omega
  · rw [hlim]
    exact X.limits
  · rw [hbyt]
    exact X.bytes
  · have hd : T.heap.toList.drop T.heap.size = [] := List.drop_eq_nil_of_le (Nat.le_of_eq Array.length_toList)
    refine ⟨?_, Nat.le_refl _, Nat.le_refl _, ?_, ?_, fun a c9 h9 => ⟨c9, h9, rfl, rfl, fun _ _ => rfl⟩⟩
    · obtain ⟨tt, htt, -⟩ := State.frames_cons hrr
      show T.setVm s.vm = { ((T.setVm s.vm).setFrames (.invoking m args :: below)).setFrames (T.setVm s.vm).frames with heap := T.heap, slotsUsed := T.slotsUsed }
      rw [State.setFrames_setFrames, State.setFrames_self htt]
      rfl
    · show T.slotsUsed = T.slotsUsed + ((T.heap.toList.drop T.heap.size).map (·.slots.size)).sum
      rw [hd]
      rfl
    · show ((T.heap.toList.drop T.heap.size).map (·.slots.size)).sum ≤ 0
      rw [hd]
      exact Nat.le_refl _
/-- what wasn't written is as it was -/
theorem ma_unwritten {s U : State} {L : List Loc} {k n : Nat} (hsm : s.sameButNew U L k n) {q : Nat} (hq : q < s.heap.size) (hL : ∀ z ∈ L, z.base ≠ q) : U.heap[q]? = s.heap[q]? := by
  obtain ⟨-, -, -, -, -, h6⟩ := hsm
  obtain ⟨c9, e1, e2, e3, e4⟩ := h6 q _ (Array.getElem?_eq_getElem hq)
  have hsl : c9.slots = (s.heap[q]).slots := Array.ext_getElem? fun i => e4 i fun hm => hL _ hm rfl
  rw [hsl] at e2
  rw [e1, e2, Array.getElem?_eq_getElem hq]
/-- 'throw new E0()', E0 without a cause or a message -/
theorem ev_throw (ok : ma_ok G) {ik ic : Nat} {names : List String} (d0 : decode (m_c M) pc = .ok (.new ik, 3)) (d3 : decode (m_c M) (pc + 3) = .ok (.dup, 1)) (d4 : decode (m_c M) (pc + 3 + 1) = .ok (.invokespecial ic, 3)) (d7 : decode (m_c M) (pc + 3 + 1 + 3) = .ok (.athrow, 1))
    (hno : m_t M = []) (hf : h.1.1 = false) (hfit : Bundle.fit E0 = true) (hnames : ∀ x ∈ names, Bundle.fit x = true) (w0 : Cond.classLink (m_y M).cls ik E0 ∈ g_ws G) (w1 : Cond.initialized E0 ∈ g_ws G)
    (hat : ∀ (u : State) (args : Array Value), ma_Pre G u → (∀ w ∈ g_ws G, w.before args u = true) → ∀ w ∈ Bundle.ownAtoms0 (m_y M).cls ic E0 names, w.before args u = true)
    (hF : names.length + 3 < F) (hL : (st.map fun v => v.category).sum + (13 * (names.length + 1) + 42) ≤ Lc) : ma_Ev G F Lc (k + 1) (n + 6) M pc ls st h (ma_zx G E0 h) := by
  intro p e s m args below meth c R H locs cells slots lsA C r S hv hc hs hex T hT X
  have P := C.2.2.2.2.2.2.2.2.2.1
  have htw : ∀ w ∈ g_ws G, w.before args s = true := fun w hw => C.2.2.2.2.2.2.2.1 w (List.mem_cons_of_mem _ hw)
  have htr : e.platform.stackTraces = false := (show e.platform.stackTraces = (g_l G).stackTraces by rw [X.admits.platform]).trans ok.1
  have Y := ma_fresh X (mc := 1) (ms := 6) (by omega) (by omega)
  obtain ⟨u, hu⟩ : ∃ z, z = ma_now s T m args below := ⟨_, rfl⟩
  rw [← hu] at Y
  have hvm : u.vm = s.vm := by rw [hu]; rfl
  have hhp : u.heap = H := by rw [hu]; exact hT
  have hWW : s.WarmedH u.vm := by rw [hvm]; exact State.WarmedH.refl s
  have P' : ma_Pre G u := P.moved ok S (fun _ _ q1 q2 => ma_vm r (fun q => by rw [hf] at q; cases q) q1 q2) hhp hWW
  have htw' : ∀ w ∈ g_ws G, w.before args u = true := fun w hw => word_at hWW (good_of_word (ok.2.1 w hw)) (htw w hw)
  have hown' : u.vm.findClass (m_y M).cls = some m.cls := by rw [hvm]; exact C.2.2.2.2.2.1
  have hw := hat u args P' htw'
  have key : W p (g_l G) e { frames := R.frames, cells := 1, slots := 6, locals := R.locals } u m args below meth c H [] 0 0 (fun t => t.status = .running ∧ Ended t below (.threw H.size) ∧ u.WarmedH t.vm ∧ u.sameButNew ({ t with vm := u.vm } : State) [] 1 6 ∧ ∃ ce : Cell, t.heap[H.size]? = some ce ∧ ce.vm = .none ∧ u.vm.findClass E0 = some ce.cls) (F0 m pc lsA st) := by
    refine W.newc (n := 6) C.1 C.2.1 hown' (htw' _ w0) (hw _ (by simp [Bundle.ownAtoms0])) (htw' _ w1) rfl d0 (Nat.le_refl _) (Nat.le_refl _) fun cC kC q1 q2 q3 q4 => ?_
    refine lv_dup (pc := pc + 3) C.1 C.2.1 d3 rfl ?_
    intro T2 hT2 X2
    obtain ⟨U, hsteps, hrun, hend, hW, hsame, ce, hce, hO⟩ := X2.ctorThrow0 C.1 htr (own := (m_y M).cls) (cls := E0) (names := names) (ic := ic) hown' hfit hnames hw (fun x hx => nomatch hx) q1 q2 (a := H.size) (by rw [hT2]; exact Array.getElem?_push_size) (by rw [hhp]; exact Nat.le_refl _)
      (g := F0 m (pc + 3 + 1) lsA (.ref H.size :: .ref H.size :: st)) rfl (hv.1.trans C.2.2.2.2.1.symm) rfl rfl (rest := st) rfl (by rw [C.2.1]; exact d4) (by rw [C.2.1]; exact d7) (fun x hx => by rw [C.2.2.2.2.2.2.2.2.1, hno] at hx; cases hx)
      (by show _ < R.frames; rw [C.2.2.2.2.2.2.2.2.2.2.1]; exact hF) (by
        show 2 * 0 + ((Value.ref H.size :: st).map fun v => v.category).sum + _ ≤ R.locals
        rw [C.2.2.2.2.2.2.2.2.2.2.2, List.map_cons, List.sum_cons]
        have h1 : (Value.ref H.size).category = 1 := rfl
        omega) C.2.2.2.1
    exact ⟨U, hsteps, hrun, hend, hW, hsame, ce, hce, hO.vm, hO.cls⟩
  obtain ⟨U, a1, b1, b2, b3, b4, ce, b5, b6, b7⟩ := key T hT Y
  have hkeep : ∀ q : Nat, q < H.size → U.heap[q]? = H[q]? := fun q hq => by
    have h1 := ma_unwritten b4 (q := q) (by rw [hhp]; exact hq) (fun z hz => nomatch hz)
    rw [hhp] at h1
    exact h1
  have hsz : H.size ≤ U.heap.size := by
    have h1 : u.heap.size ≤ U.heap.size := b4.2.1
    rwa [hhp] at h1
  have hWU : s.WarmedH U.vm := State.WarmedH.trans hWW b3
  refine ⟨U, a1, H.size, b1, b2, ce, locs, ?_, ⟨Nat.le_trans S.1 hsz, fun q q1 q2 => (hkeep q (Nat.lt_of_lt_of_le q1 S.1)).trans (S.2.1 q q1 q2)⟩, b5, b6, by rw [← hvm]; exact b7, hWU, ?_, S.2.2⟩
  · have r2 : ma_Rel G h s U.heap := ⟨r.1.kept (fun j q hq => hkeep _ ((r.1 j q hq).lt)), r.2⟩
    exact r2.moved hWU.alike
  · subst hu
    obtain ⟨e1, e2⟩ := b4
    have h1 : (T.setVm s.vm).sameButNew ({ U with vm := s.vm } : State) [] 1 6 := by
      refine ⟨?_, e2⟩
      have e3 : ({ U with vm := s.vm } : State) = { ((T.setVm s.vm).setFrames (.invoking m args :: below)).setFrames U.frames with heap := U.heap, slotsUsed := U.slotsUsed } := e1
      rw [State.setFrames_setFrames] at e3
      exact e3
    have h2 := X.same.trans h1
    rw [List.append_nil] at h2
    exact h2.mono (by omega) (by omega)
/-- a virtual call that throws, uncaught -/
theorem ev_callVX (ok : ma_ok G) {np index F1 L1 mc ms ci a : Nat} {r0 : vw_C} (As rest : List Value) {st0 : List Value} (f : ma_CV G (m_y M).cls index M1 np) (hlk : Cond.methodLink (m_y M).cls index (m_y M1) ∈ g_ws G) (dc : decode (m_c M) pc = .ok (.invokevirtual index, 3)) (ha : h.1.2[a]? = some (.inl ci)) (hci : (g_cl G)[ci]? = some r0) (hr0 : r0.1 = (m_y M1).cls) (hM : ma_MetX G F1 L1 mc ms M1 (.ref (g_o G + a) :: As) h E0 h') (hst : st0 = As.reverse ++ .ref (g_o G + a) :: rest) (hn : As.length = np) (hF : F1 + 1 ≤ F) (hL : 8 + (m_n M1 + 11) + L1 ≤ Lc) (hr : (rest.map fun v => v.category).sum ≤ 8) (hno : m_t M = []) : ma_Ev G F Lc (k + mc) (n + ms) M pc ls st0 h (ma_zx G E0 h') := by
  intro p e s m args below meth c R H locs cells slots lsA C r S hv hc hs hex T hT X
  obtain ⟨q, V, ce, L, XV, hS, hrel, hq, hqv, hqc, hsteps⟩ := ma_flyV ok hT X C r S hv.1 hex f hlk dc ha hci hr0 hM hst hn hF hL hr (by omega) (by omega)
  obtain ⟨t, a1, b1⟩ := ma_out XV C hno (g := F0 m pc lsA rest) rfl rfl rfl hS (hrel.moved XV.warmed.alike) hq hqv hqc (by omega) (by omega)
  exact ⟨t, hsteps.trans a1, b1⟩
end EY
