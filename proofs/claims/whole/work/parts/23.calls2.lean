/-! ===== calls that throw and are caught; static calls that throw; calls of the law's helpers ===== -/
section EW
variable {G : ma_G} {F Lc k n : Nat} {M M1 : ma_M} {pc : Nat} {ls : List (Nat × Value)} {st : List Value} {h h' : ma_H} {Z : ma_Z} {E0 : String} {Q1 : Option Value → ma_H → Prop}
theorem ev_callVC (ok : ma_ok G) {np index F1 L1 mc ms ci a : Nat} {r0 : vw_C} (As rest : List Value) {st0 : List Value} (f : ma_CV G (m_y M).cls index M1 np) (hlk : Cond.methodLink (m_y M).cls index (m_y M1) ∈ g_ws G) (dc : decode (m_c M) pc = .ok (.invokevirtual index, 3)) (ha : h.1.2[a]? = some (.inl ci)) (hci : (g_cl G)[ci]? = some r0) (hr0 : r0.1 = (m_y M1).cls) (hM : ma_MetX G F1 L1 mc ms M1 (.ref (g_o G + a) :: As) h E0 h') (hst : st0 = As.reverse ++ .ref (g_o G + a) :: rest) (hn : As.length = np) (hF : F1 + 1 ≤ F) (hL : 8 + (m_n M1 + 11) + L1 ≤ Lc) (hr : (rest.map fun v => v.category).sum ≤ 8) (hf : h'.1.1 = false)
    (pre tl : List (Nat × Nat × Nat × Nat)) (x : Nat × Nat × Nat × Nat) (htb : m_t M = pre ++ x :: tl) (hx : covers ⟨x.1, x.2.1, x.2.2.1, x.2.2.2⟩ pc = true) (hx0 : x.2.2.2 ≠ 0) (hxl : Cond.classLink (m_y M).cls x.2.2.2 E0 ∈ g_ws G) (hself : ∀ s : State, g_N G s → ∃ c : ClassId, s.vm.findClass E0 = some c ∧ s.vm.assignable c c = true)
    (hpre : ∀ y ∈ pre, covers ⟨y.1, y.2.1, y.2.2.1, y.2.2.2⟩ pc = true ∧ y.2.2.2 ≠ 0 ∧ ∃ nm, Cond.classLink (m_y M).cls y.2.2.2 nm ∈ g_ws G ∧ ∀ s : State, g_N G s → va_Nc E0 nm s)
    (E : ∀ q : Nat, ma_Ev G F Lc k n M x.2.2.1 ls [.ref q] h' Z) : ma_Ev G F Lc (k + mc) (n + ms) M pc ls st0 h Z := by
  intro p e s m args below meth c R H locs cells slots lsA C r S hv hc hs hex T hT X
  have P := C.2.2.2.2.2.2.2.2.2.1
  have htw : ∀ w ∈ g_ws G, w.before args s = true := fun w hw => C.2.2.2.2.2.2.2.1 w (List.mem_cons_of_mem _ hw)
  have hown := C.2.2.2.2.2.1
  obtain ⟨q, V, ce, L, XV, hS, hrel, hq, hqv, hqc, hsteps⟩ := ma_flyV ok hT X C r S hv.1 hex f hlk dc ha hci hr0 hM hst hn hF hL hr (by omega) (by omega)
  have hpl : e.platform.magicAccessors = ({} : Platform).magicAccessors := by rw [XV.admits.platform]
  obtain ⟨cE, hcE, hcE2⟩ := hself s P.2.2.1
  have hcec : ce.cls = cE := Option.some.inj (hqc.symm.trans hcE)
  have hkE : ∃ k, s.vm.classes[ce.cls]? = some k := Vm.classAt_of_findClass hqc
  have hpx : ma_pass s e (F0 m pc lsA rest) ce ⟨x.1, x.2.1, x.2.2.1, x.2.2.2⟩ true := by
    obtain ⟨c5, hc5, hl5⟩ := Cond.classLink_spec hown (htw _ hxl) e.platform hpl
    have h5 : c5 = cE := Option.some.inj (hc5.symm.trans hcE)
    exact ⟨hx, hx0, c5, hl5, by rw [hcec, h5]; exact hcE2⟩
  have hpp : ∀ y ∈ tableOf pre, ma_pass s e (F0 m pc lsA rest) ce y false := by
    intro y hy
    unfold tableOf at hy
    obtain ⟨z, hz, rfl⟩ := List.mem_map.mp hy
    obtain ⟨z1, z2, nm, z3, z4⟩ := hpre z hz
    obtain ⟨c5, hc5, hl5⟩ := Cond.classLink_spec hown (htw _ z3) e.platform hpl
    obtain ⟨a8, b8, n1, n2, n3⟩ := z4 s P.2.2.1
    have h5 : c5 = b8 := Option.some.inj (hc5.symm.trans n2)
    have h6 : ce.cls = a8 := Option.some.inj (hqc.symm.trans n1)
    exact ⟨z1, z2, c5, hl5, by rw [h5, h6]; exact n3⟩
  have hvm : ((V.setTop (F0 m pc lsA rest)).pushFrame (.throwing q)).vm = V.vm := Stand.throwing_vm V _ q
  have hhp : ((V.setTop (F0 m pc lsA rest)).pushFrame (.throwing q)).heap = V.heap := Stand.throwing_heap V _ q
  obtain ⟨vm', hW', hfind⟩ := ma_search (e := e) (fr := F0 m pc lsA rest) (a := q) (cell := ce) (s₀ := s) (tl := tableOf tl) (VmData.ne_statics_of (by rw [hqv]; rfl)) hkE hpx (tableOf pre) ((V.setTop (F0 m pc lsA rest)).pushFrame (.throwing q)) (by rw [hvm]; exact XV.warmed) (by rw [hhp]; exact hq) hpp
  have htab : c.exceptionTable.toList = tableOf pre ++ ⟨x.1, x.2.1, x.2.2.1, x.2.2.2⟩ :: tableOf tl := by
    rw [C.2.2.2.2.2.2.2.2.1, htb]
    simp [tableOf]
  obtain ⟨t, a1, b1⟩ := E q C hrel hS hv (by omega) (by omega) (fun q9 => by rw [hf] at q9; cases q9) (V.setVm vm') rfl (XV.noted hW')
  refine ⟨t, hsteps.trans (ma_into (fr := F0 m pc lsA rest) (c := c) XV.here (vm' := vm') (pc := x.2.2.1) (fun Q E d acts => ?_) a1), b1⟩
  have hm : ((V.setTop (F0 m pc lsA rest)).pushFrame (.throwing q)).vm.method? (F0 m pc lsA rest).method = some meth := by rw [hvm]; exact XV.method'
  rw [Jvm.W.findHandler_eq hm XV.code, htab]
  exact hfind Q E d acts
/-- a static call that throws: to the note over this frame -/
theorem ev_callSX (ok : ma_ok G) {np index F1 L1 mc ms : Nat} (As rest : List Value) {st0 : List Value} (f : ma_CS G (m_y M).cls index M1 np) (hlk : Cond.methodLink (m_y M).cls index (m_y M1) ∈ g_ws G) (dc : decode (m_c M) pc = .ok (.invokestatic index, 3)) (hM : ma_MetX G F1 L1 mc ms M1 As h E0 h') (hst : st0 = As.reverse ++ rest) (hn : As.length = np) (hF : F1 + 1 ≤ F) (hL : 8 + (m_n M1 + 11) + L1 ≤ Lc) (hr : (rest.map fun v => v.category).sum ≤ 8) (hno : m_t M = []) : ma_Ev G F Lc (k + mc) (n + ms) M pc ls st0 h (ma_zx G E0 h') := by
  intro p e s m args below meth c R H locs cells slots lsA C r S hv hc hs hex T hT X9
  obtain ⟨f1, f2, f3, f4, f5, f6⟩ := f
  have P := C.2.2.2.2.2.2.2.2.2.1
  have hts := C.2.2.2.2.2.2.2.1
  have htw : ∀ w ∈ g_ws G, w.before args s = true := fun w hw => hts w (List.mem_cons_of_mem _ hw)
  have hb := X9.heapSize
  rw [hT] at hb
  have hp0 := ma_preS (As := As) ok P r S (fun q => ma_size P r S hb (hex q))
  have hgood := ma_good (M := M) ok f2
  have hcode : (Cond.code (m_y M1) (m_c M1) (m_n M1) (m_r M1)).before args s = true := by rw [← ma_code f1]; exact htw _ f2
  obtain ⟨mk, hnamed⟩ := Cond.code_named hcode
  obtain ⟨methM, cM, hmethM, -, -, -, -, -, -, hsigM⟩ := Cond.code_spec hnamed hcode
  have hstatic : methM.isStatic = true := Cond.static_spec hnamed hmethM (htw _ f3)
  obtain ⟨kP, hkP, -⟩ := className_of_methodNamed hnamed
  have hinitP : kP.init = .initialized := Cond.initialized_spec (findClass_of_methodNamed hnamed) hkP (htw _ f4)
  have hlen : As.length = methM.sig.parameters.length := by
    have h2 := f5.2.2
    rw [hsigM] at h2
    exact hn.trans (Option.some.inj h2).symm
  obtain ⟨vm₁, X₁, hstep₁⟩ := X9.invokestatic C.1 C.2.2.2.2.2.1 (htw _ hlk) hnamed hmethM hstatic hkP hinitP ⟨f5.1, f5.2.1⟩ (g := F0 m pc lsA st0) rfl (argsL := As) (rest := rest) hlen hst (by rw [C.2.1]; exact dc)
  have hPc := hp0.2 (T.setVm vm₁) hT X₁.warmed
  obtain ⟨q, V, ce, L, XV, hLV, hrel, hFV, hq, hqv, hqc, hsteps⟩ := ma_fly X₁ (g := F0 m pc lsA rest) (mk := mk) (ig := .invokestatic index) (len := 3) rfl (hv.1.trans C.2.2.2.2.1.symm) (by rw [C.2.1]; exact dc) (lv_room hr) (X₁.named hnamed) hM f1 (by rw [C.2.2.2.2.2.2.2.2.2.2.1]; exact hF) (by rw [C.2.2.2.2.2.2.2.2.2.2.2]; exact hL)
    (fun w hw => pay_in hts hgood w hw _ _ X₁.warmed) (word_at X₁.warmed (good_of_word (ok.2.1 _ f4)) (htw _ f4)) (by omega) (by omega) (hp0.1 _ _ _ _ hPc)
  have h8 : (T.setVm vm₁).vm.findClass E0 = some ce.cls := hqc
  rw [X₁.warmed.alike.findClass] at h8
  obtain ⟨t, a1, b1⟩ := ma_out XV C hno (g := F0 m pc lsA rest) rfl rfl rfl (ma_Sf S hT hFV hLV) hrel hq hqv h8 (by omega) (by omega)
  refine ⟨t, ?_, b1⟩
  exact hstep₁ _ fun acts => by rw [doInvoke_state]; exact hsteps.trans a1
/-- the law's helpers: static, with a table of their own -/
def ma_CW (G : ma_G) (own : String) (index : Nat) (M1 : ma_M) (np : Nat) : Prop := m_t M1 ≠ [] ∧ ma_word M1 ∈ g_ws G ∧ Cond.static (m_y M1) ∈ g_ws G ∧ Cond.initialized (m_y M1).cls ∈ g_ws G ∧ ma_y M1 np ∧ Cond.methodLink own index (m_y M1) ∈ g_ws G
theorem ev_callW (ok : ma_ok G) {np index F1 L1 mc ms : Nat} (As rest : List Value) {st0 : List Value} (f : ma_CW G (m_y M).cls index M1 np) (dc : decode (m_c M) pc = .ok (.invokestatic index, 3)) (hM : ma_Met G h.1.1 F1 L1 mc ms M1 As h Q1) (hst : st0 = As.reverse ++ rest) (hn : As.length = np) (hF : F1 + 1 ≤ F) (hL : 8 + (m_n M1 + 11) + L1 ≤ Lc) (hr : (rest.map fun v => v.category).sum ≤ 8)
    (E : ∀ (v : Option Value) (h' : ma_H), Q1 v h' → h'.1.1 = h.1.1 → ma_Ev G F Lc k n M (pc + 3) ls (v.toList ++ rest) h' Z) : ma_Ev G F Lc (k + mc) (n + ms) M pc ls st0 h Z := by
  intro p e s m args below meth c R H locs cells slots lsA C r S hv hc hs hex T hT X9
  obtain ⟨f1, f2, f3, f4, f5, f6⟩ := f
  have P := C.2.2.2.2.2.2.2.2.2.1
  have hts := C.2.2.2.2.2.2.2.1
  have htw : ∀ w ∈ g_ws G, w.before args s = true := fun w hw => hts w (List.mem_cons_of_mem _ hw)
  have hb := X9.heapSize
  rw [hT] at hb
  have hp := ma_preS (As := As) ok P r S (fun q => ma_size P r S hb (hex q))
  have hw : ma_word M1 = .codeWith (m_y M1) (m_c M1) (m_n M1) (m_r M1) (m_t M1) := by
    unfold ma_word
    cases hx : m_t M1 with
    | nil => exact absurd hx f1
    | cons q t => rfl
  have hgood := ma_good (M := M) ok f2
  have hcw : Cond.codeWith (m_y M1) (m_c M1) (m_n M1) (m_r M1) (m_t M1) ∈ ma_word M1 :: g_ws G := by rw [hw]; exact List.mem_cons_self
  have hcode := hts _ (hgood _ hcw).1
  have hK : Back (g_l G) R p e below s args (m_y M1) 3 8 (PreOf R mc ms (ma_Pc G h As)) (PostOf (ma_Qc G h.1.1 mc Q1) mc ms (ma_A G)) := va_backW (hh := m_t M1) (bytes := m_c M1) (maxL := m_n M1) (ret := m_r M1) hM hp.1 rfl rfl (by rw [C.2.2.2.2.2.2.2.2.2.2.1]; exact hF) (by rw [C.2.2.2.2.2.2.2.2.2.2.2]; exact hL) (pay_in hts hgood) hcw (fun a' U hW => word_at hW (good_of_word (ok.2.1 _ f4)) (htw _ f4))
  have hrun : va_Run p (g_l G) e R s m args below meth c H locs cells slots mc ms (F0 m pc lsA st0) rest (ma_Qc G h.1.1 mc Q1 As.toArray) (ma_A G) := by
    intro T2 hT2 X2
    obtain ⟨mk, methM, cM, hnamed, hmethM, -, -, -, -, -, -, hsigM⟩ := Cond.codeWith_spec hcode
    have hstatic : methM.isStatic = true := Cond.static_spec hnamed hmethM (htw _ f3)
    obtain ⟨kP, hkP, -⟩ := className_of_methodNamed hnamed
    have hinitP : kP.init = .initialized := Cond.initialized_spec (findClass_of_methodNamed hnamed) hkP (htw _ f4)
    have hlen : As.length = methM.sig.parameters.length := by
      have h2 := f5.2.2
      rw [hsigM] at h2
      exact hn.trans (Option.some.inj h2).symm
    obtain ⟨vm₁, X₁, hstep₁⟩ := X2.invokestatic C.1 C.2.2.2.2.2.1 (htw _ f6) hnamed hmethM hstatic hkP hinitP ⟨f5.1, f5.2.1⟩ (g := F0 m pc lsA st0) rfl (argsL := As) (rest := rest) hlen hst (by rw [C.2.1]; exact dc)
    obtain ⟨v, ⟨U', l2, c2, s2⟩, X', ⟨g', mk', t, L, e1, e2, hq, h1, hL', h2, h3⟩, hsteps⟩ := hK m meth c ⟨T2.setVm vm₁, locs, cells, slots⟩ (F0 m pc lsA rest) (.invokestatic index) mk As.toArray X₁ rfl (hv.1.trans C.2.2.2.2.1.symm) (by rw [C.2.1]; exact dc) (lv_room hr) (X₁.named hnamed) ⟨by show cells + mc ≤ R.cells; omega, by show slots + ms ≤ R.slots; omega, hp.2 (T2.setVm vm₁) hT2 X₁.warmed⟩
    dsimp only [Pt.U, Pt.locs, Pt.cells, Pt.slots] at X' e1 e2 h1 h2 h3 hsteps
    subst h1
    subst h2
    subst h3
    exact ⟨v, (T2.setVm vm₁).calling g' mk' As.toArray, t, U', L, hT2, X', hL', e1, e2, hq, fun target hgo => hstep₁ _ fun acts => by rw [doInvoke_state]; exact hsteps.trans hgo⟩
  exact ma_go hT X9 hrun C r S hv hc hs hex E
end EW
