/-! ===== catching, where the class that a row names may still be unresolved ===== -/
section EZ
variable {e : Env} {fr : JFrame} {a : Addr} {cell : Cell}
/-- one row that covers the place and names a class -/
theorem ma_row {S : State} {x : ExceptionTableEntry} {tl : List ExceptionTableEntry} {cc : ClassId} {Q : Handler → Pre} {E : CtlPost} {d : Bool} {acts : List Action} (hcov : covers x fr.pc = true) (h0 : x.catchType ≠ 0) (hl : S.vm.ClassLinks e.platform fr.method.cls x.catchType cc) (hcell : S.heap[a]? = some cell) (hobj : ∀ k, cell.vm ≠ .statics k) (hk : ∃ k, S.vm.classes[cell.cls]? = some k) (hkc : ∃ k, S.vm.classes[cc]? = some k) :
    wp (findHandler.go fr a (x :: tl)) Q E e d acts S ↔ if S.vm.assignable cell.cls cc = true then Q (.found x.handlerPc) d acts (S.setVm (S.vm.noted fr.method.cls x.catchType (.cls cc))) else wp (findHandler.go fr a tl) Q E e d acts (S.setVm (S.vm.noted fr.method.cls x.catchType (.cls cc))) := by
  simp only [covers] at hcov
  obtain ⟨ha, ht⟩ := (resolveClass_links e.toSetting hl).op (op := VmOp.resolveClass fr.method.cls x.catchType) rfl
  have hal : S.vm.Alike (S.vm.noted fr.method.cls x.catchType (.cls cc)) := (Vm.Alike.refl S.vm).noted _ _ _
  obtain ⟨k1, hk1⟩ := hk
  obtain ⟨k2, hk2⟩ := hkc
  obtain ⟨k3, hk3, -⟩ := hal.2.2 _ _ hk1
  obtain ⟨k4, hk4, -⟩ := hal.2.2 _ _ hk2
  have has : (S.vm.noted fr.method.cls x.catchType (.cls cc)).assignable cell.cls cc = S.vm.assignable cell.cls cc := hal.assignable _ _
  cases hq : S.vm.assignable cell.cls cc <;> rw [hq] at has <;> simp [findHandler.go, hcov, h0, ha, ht, hcell, hobj, hk3, hk4, has, VmOp.dirties, VmOp.acts]
/-- a row as the words at the method's begin tell it: passed, or taking the object -/
def ma_pass (s₀ : State) (e : Env) (fr : JFrame) (cell : Cell) (x : ExceptionTableEntry) (b : Bool) : Prop := covers x fr.pc = true ∧ x.catchType ≠ 0 ∧ ∃ cc, s₀.vm.ClassLinks e.platform fr.method.cls x.catchType cc ∧ s₀.vm.assignable cell.cls cc = b
theorem ma_search {s₀ : State} (hobj : ∀ k, cell.vm ≠ .statics k) (hk : ∃ k, s₀.vm.classes[cell.cls]? = some k) {x : ExceptionTableEntry} {tl : List ExceptionTableEntry} (hx : ma_pass s₀ e fr cell x true) :
    ∀ (pre : List ExceptionTableEntry) (S : State), s₀.WarmedH S.vm → S.heap[a]? = some cell → (∀ y ∈ pre, ma_pass s₀ e fr cell y false) →
      ∃ vm', s₀.WarmedH vm' ∧ ∀ (Q : Handler → Pre) (E : CtlPost) (d : Bool) (acts : List Action), wp (findHandler.go fr a (pre ++ x :: tl)) Q E e d acts S ↔ Q (.found x.handlerPc) d acts (S.setVm vm') := by
  have step : ∀ (y : ExceptionTableEntry) (b : Bool) (S : State), s₀.WarmedH S.vm → S.heap[a]? = some cell → ma_pass s₀ e fr cell y b → ∃ cc, S.vm.ClassLinks e.platform fr.method.cls y.catchType cc ∧ S.vm.assignable cell.cls cc = b ∧ (∃ k, S.vm.classes[cell.cls]? = some k) ∧ (∃ k, S.vm.classes[cc]? = some k) ∧ s₀.WarmedH (S.vm.noted fr.method.cls y.catchType (.cls cc)) := by
    intro y b S hW hcell hy
    obtain ⟨-, -, cc, hl, hb⟩ := hy
    obtain ⟨k0, hk0⟩ := hk
    obtain ⟨k1, hk1, -⟩ := hW.alike.2.2 _ _ hk0
    obtain ⟨dk, _, _, kt, hd, _, _, _, _, hkt, _, hopen⟩ := hl.here
    obtain ⟨k2, hk2, -⟩ := hW.alike.2.2 _ _ hkt
    exact ⟨cc, hW.classLinks hl, by rw [hW.alike.assignable]; exact hb, ⟨k1, hk1⟩, ⟨k2, hk2⟩, hW.noted hd hopen (State.rightAt_cls hl)⟩
  intro pre
  induction pre with
  | nil =>
    intro S hW hcell _
    obtain ⟨cc, h1, h2, h3, h4, h5⟩ := step x true S hW hcell hx
    refine ⟨_, h5, fun Q E d acts => ?_⟩
    rw [List.nil_append, ma_row hx.1 hx.2.1 h1 hcell hobj h3 h4, if_pos h2]
  | cons y ys ih =>
    intro S hW hcell hp
    have hy := hp y List.mem_cons_self
    obtain ⟨cc, h1, h2, h3, h4, h5⟩ := step y false S hW hcell hy
    obtain ⟨vm', hW', hq⟩ := ih (S.setVm (S.vm.noted fr.method.cls y.catchType (.cls cc))) h5 hcell (fun z hz => hp z (List.mem_cons_of_mem _ hz))
    refine ⟨vm', hW', fun Q E d acts => ?_⟩
    rw [List.cons_append, ma_row hy.1 hy.2.1 h1 hcell hobj h3 h4, if_neg (by rw [h2]; decide)]
    exact hq Q E d acts
/-- the step into a handler -/
theorem ma_into {tb : Tables} {V target : State} {c : Code} {below : List Frame} {pc : Nat} {vm' : Vm} (hat : At V fr.method c below) (hfind : ∀ (Q : Handler → Pre) (E : CtlPost) (d : Bool) (acts : List Action), wp (findHandler fr a) Q E e d acts ((V.setTop fr).pushFrame (.throwing a)) ↔ Q (.found pc) d acts (((V.setTop fr).pushFrame (.throwing a)).setVm vm'))
    (hrest : Steps tb e below ((V.setVm vm').setTop { fr with pc := pc, stack := [.ref a] }) target) : Steps tb e below ((V.setTop fr).pushFrame (.throwing a)) target := by
  obtain ⟨hgo, hw⟩ := hat.throwing a
  refine Steps.head hgo hw ?_
  have hst : ∀ r : List Frame, (stepThrowing e ((V.setTop fr).pushFrame (.throwing a)) a (.java fr :: r)).Is ((((V.setTop fr).pushFrame (.throwing a)).setVm vm').setFrames (.java { fr with pc := pc, stack := [.ref a] } :: r)) [] := by
    intro r
    simp only [stepThrowing, searchFrame, vmDo]
    generalize hres : Sem.go _ e false [] _ = res
    obtain ⟨as, rfl, ha⟩ := Sem.eq_ok_of hres (a := Handler.found pc) (s' := ((V.setTop fr).pushFrame (.throwing a)).setVm vm') (acts' := []) (by simp [hfind _ _ _ _])
    exact ⟨rfl, ha⟩
  rw [stepThread_throwing (frames_entered hat.top _), (hst _).1]
  obtain ⟨g₀, hg⟩ := Option.isSome_iff_exists.mp hat.top
  obtain ⟨rr, hr⟩ := State.topJava?_eq_some.mp hg
  have hr' : (V.setVm vm').frames = .java g₀ :: rr := hr
  rw [State.setTop_of_frames _ hr'] at hrest
  have e1 : ∀ (u : State) (A B : List Frame), ((u.setFrames A).setVm vm').setFrames B = (u.setVm vm').setFrames B := fun u A B => by
    have e2 : (u.setFrames A).setVm vm' = (u.setVm vm').setFrames A := rfl
    rw [e2, State.setFrames_setFrames]
  rw [hr, List.tail_cons, State.pushFrame, e1, State.setTop_of_frames _ hr, e1]
  exact hrest
end EZ
