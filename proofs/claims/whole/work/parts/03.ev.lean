/-! ===== contracts and walks over the store ===== -/
abbrev ma_M : Type := MethodName × ByteArray × Nat × Option FieldType × List (Nat × Nat × Nat × Nat)
abbrev m_y (M : ma_M) : MethodName := M.1
abbrev m_c (M : ma_M) : ByteArray := M.2.1
abbrev m_n (M : ma_M) : Nat := M.2.2.1
abbrev m_r (M : ma_M) : Option FieldType := M.2.2.2.1
abbrev m_t (M : ma_M) : List (Nat × Nat × Nat × Nat) := M.2.2.2.2
/-- the heap's places of the store -/
def ma_A (G : ma_G) : Nat → Prop := fun q => g_o G ≤ q ∧ q < g_o G + g_n G
/-- a static field of a reference type, its class's statics cell outside of the store -/
def ma_St (C nm d : String) (A : Nat → Prop) (U : State) (H : Heap) : Prop := ∃ (c : ClassId) (k : Class) (i : Nat) (f : Field) (a : Nat) (cell : Cell) (v : Value), U.vm.findClass C = some c ∧ U.fieldFound? C nm d = some (c, k, i, f) ∧ f.isStatic = true ∧ k.statics = some a ∧ H[a]? = some cell ∧ cell.vm.isStatics = true ∧ cell.cls = c ∧ f.slot < cell.slots.size ∧ k.staticTypes[f.slot]? = some f.type ∧ cell.slots[f.slot]? = some v ∧ (v = .null ∨ ∃ x, v = .ref x) ∧ ¬ A a
/-- what is the same all through the law's run -/
def ma_Pre (G : ma_G) (U : State) : Prop :=
  va_K (g_D G) (g_cl G) [] U ∧ (∀ (ty : FieldType) (x : ClassId), U.vm.findClass ("[" ++ ty.toString) = some x → g_c G ty = x) ∧ g_N G U ∧ va_X (g_b G) (g_L G) (g_xs G) U U.heap ∧ g_b G < g_o G ∧ g_o G ≤ U.heap.size ∧
  ma_St Bundle.tN "UNASSIGNED_STACK" Bundle.steD (ma_A G) U U.heap ∧ ma_St Bundle.tN "SUPPRESSED_SENTINEL" Bundle.listD (ma_A G) U U.heap ∧ ∀ (a : Nat) (cell : Cell), ma_A G a → U.heap[a]? = some cell → cell.vm.isStatics = false
/-- the heap holds the store -/
def ma_Rel (G : ma_G) (h : ma_H) (U : State) (H : Heap) : Prop :=
  va_P (g_D G) (g_cl G) (ma_ws G h) H ∧ (∀ (a : Nat) (ty : FieldType) (n : Nat), h.1.2[a]? = some (.inr (ty, n)) → ArrOfT U (g_c G ty) ty ∧ va_RA U (g_c G ty) ty) ∧ h.1.2.length ≤ g_n G ∧ (h.1.1 = false → h.1.2.length = g_n G)
/-- what must be true of the lists, once for all -/
def ma_ok (G : ma_G) : Prop :=
  (g_l G).stackTraces = false ∧ (∀ w ∈ g_ws G, goodWord w = true) ∧ ((∀ s U : State, s.WarmedH U.vm → g_N G s → g_N G U) ∧ ∀ s U : State, s.vm = U.vm → g_N G s → g_N G U) ∧
  ∀ r ∈ g_cl G, (∀ w ∈ u_ws r.1 r.2.1 r.2.2, w ∈ g_ws G) ∧ (∀ k, k < r.2.2 → (parseFieldDescriptor (r.2.1 k).2.2.1).isSome = true) ∧ ∀ a, a < r.2.2 → ∀ b, b < r.2.2 → a ≠ b → (r.2.1 a).2.1 ≠ (r.2.1 b).2.1
def ma_Pc (G : ma_G) (h : ma_H) (As : List Value) : Array Value → State → Prop := fun v U => v = As.toArray ∧ ma_Pre G U ∧ ma_Rel G h U U.heap ∧ (h.1.1 = true → U.heap.size = g_o G + h.1.2.length)
def ma_Qc (G : ma_G) (fe : Bool) (mc : Nat) (Q : Option Value → ma_H → Prop) : Array Value → State → Outcome → State → Prop := fun _ st oc t => ∃ (r : Option Value) (h' : ma_H), oc = .returned r ∧ Q r h' ∧ ma_Rel G h' t t.heap ∧ va_F (ma_A G) st t ∧ h'.1.1 = fe ∧ (fe = true → st.heap.size + mc = g_o G + h'.1.2.length)
def ma_word (M : ma_M) : Cond := match m_t M with
  | [] => .code (m_y M) (m_c M) (m_n M) (m_r M)
  | q :: r => .codeWith (m_y M) (m_c M) (m_n M) (m_r M) (q :: r)
/-- a method's contract from one store: it returns by Q -/
def ma_Met (G : ma_G) (fe : Bool) (F Lc mc ms : Nat) (M : ma_M) (As : List Value) (h : ma_H) (Q : Option Value → ma_H → Prop) : Prop :=
  Met (g_l G) (m_y M) (ma_word M :: g_ws G) { frames := F, cells := mc, slots := ms, locals := Lc } (ma_Pc G h As) (ma_Qc G fe mc Q) mc ms (ma_A G)
def ma_Cx (G : ma_G) (F Lc : Nat) (M : ma_M) (p : Program) (s : State) (m : MethodId) (args : Array Value) (meth : Method) (c : Code) (R : Room) : Prop :=
  p.tables.exec = Jvm.exec ∧ c.code = m_c M ∧ meth.sig.returnType = m_r M ∧ meth.locks = false ∧ c.maxLocals = m_n M ∧ s.vm.findClass (m_y M).cls = some m.cls ∧ meth.name = (m_y M).name ∧ (∀ w ∈ ma_word M :: g_ws G, w.before args s = true) ∧ c.exceptionTable.toList = tableOf (m_t M) ∧ ma_Pre G s ∧ R.frames = F ∧ R.locals = Lc
/-- how a walk may end: a property of the last state, told by what stood at the method's begin -/
abbrev ma_Z : Type := List Frame → Array Value → State → Room → State → Prop
/-- by returning -/
def ma_zr (G : ma_G) (fe : Bool) (Q : Option Value → ma_H → Prop) : ma_Z := fun below args s R => MQ below (ma_Qc G fe R.cells Q) args s R.cells R.slots (ma_A G)
/-- a walk: from pc with these locals, this stack, this store, and k cells of n slots still to be made at most -/
def ma_Ev (G : ma_G) (F Lc k n : Nat) (M : ma_M) (pc : Nat) (ls : List (Nat × Value)) (st : List Value) (h : ma_H) (Z : ma_Z) : Prop :=
  ∀ ⦃p : Program⦄ ⦃e : Env⦄ ⦃s : State⦄ ⦃m : MethodId⦄ ⦃args : Array Value⦄ ⦃below : List Frame⦄ ⦃meth : Method⦄ ⦃c : Code⦄ ⦃R : Room⦄ ⦃H : Heap⦄ ⦃locs : List Loc⦄ ⦃cells slots : Nat⦄ ⦃lsA : Array Slot⦄,
    ma_Cx G F Lc M p s m args meth c R → ma_Rel G h s H → va_S (ma_A G) s.heap H locs → lv_has lsA (m_n M) ls → cells + k = R.cells → slots + n ≤ R.slots → (h.1.1 = true → s.heap.size + cells = g_o G + h.1.2.length) →
    W p (g_l G) e R s m args below meth c H locs cells slots (Z below args s R) (F0 m pc lsA st)
theorem ma_D {G : ma_G} {h : ma_H} (hl : h.1.2.length ≤ g_n G) : va_D (ma_A G) (ma_ws G h) := by
  refine ⟨fun i j x y hi hj hxy => ?_, fun i x hi => ?_⟩
  · obtain ⟨s, h1, rfl⟩ := ma_ws_inv hi
    obtain ⟨t, h2, rfl⟩ := ma_ws_inv hj
    dsimp only at hxy
    omega
  · obtain ⟨s, h1, rfl⟩ := ma_ws_inv hi
    have := (List.getElem?_eq_some_iff.mp h1).1
    show g_o G ≤ g_o G + i ∧ g_o G + i < g_o G + g_n G
    omega
theorem ma_lk {i : Nat} {v : Value} : ∀ {ls : List (Nat × Value)}, ls.lookup i = some v → (i, v) ∈ ls
  | [], h => by cases h
  | (j, u) :: r, h => by
    rw [List.lookup_cons] at h
    by_cases e : i = j
    · subst e
      simp at h
      subst h
      exact List.mem_cons_self
    · have e2 : (i == j) = false := by simpa using e
      rw [e2] at h
      exact List.mem_cons_of_mem _ (ma_lk h)
theorem ma_lv {lsA : Array Slot} {n i : Nat} {v : Value} {ls : List (Nat × Value)} (hv : lv_has lsA n ls) (h : ls.lookup i = some v) : lsA[i]? = some (.val v) := hv.2.2 (i, v) (ma_lk h)
theorem ma_lx {i : Nat} {v : Value} {ls : List (Nat × Value)} (h : ls.lookup i = some v) : ∃ k : Nat, ls[k]? = some (i, v) := List.getElem?_of_mem (ma_lk h)
/-- the locals behind a store of one word -/
def ma_st (ls : List (Nat × Value)) (i : Nat) (v : Value) : List (Nat × Value) := (i, v) :: ls.filter (fun q => !(q.1 == i) && !(q.1 + 1 == i && q.2.category == 2))
def ma_st2 (ls : List (Nat × Value)) (i : Nat) (v : Value) : List (Nat × Value) := (i, v) :: ls.filter (fun q => !(q.1 == i) && (!(q.1 == i + 1) && !(q.1 + 1 == i && q.2.category == 2)))
section EV
variable {G : ma_G} {fe : Bool} {F Lc k n : Nat} {M : ma_M} {pc : Nat} {ls : List (Nat × Value)} {st : List Value} {h : ma_H} {Z : ma_Z} {Q : Option Value → ma_H → Prop}
theorem ev_iconst {z : Int} (d : decode (m_c M) pc = .ok (.iconst z, 1)) (E : ma_Ev G F Lc k n M (pc + 1) ls (ma_i z :: st) h Z) : ma_Ev G F Lc k n M pc ls st h Z := by
  intro p e s m args below meth c R H locs cells slots lsA C r S hv hc hs hex
  exact lv_iconst C.1 C.2.1 d rfl (E C r S hv hc hs hex)
theorem ev_bipush {z : Int} (d : decode (m_c M) pc = .ok (.bipush z, 2)) (hz : (Int8.ofInt z).toInt32 = Int32.ofInt z) (E : ma_Ev G F Lc k n M (pc + 2) ls (ma_i z :: st) h Z) : ma_Ev G F Lc k n M pc ls st h Z := by
  intro p e s m args below meth c R H locs cells slots lsA C r S hv hc hs hex
  exact lv_bipush C.1 C.2.1 d hz (E C r S hv hc hs hex)
theorem ev_sipush {z : Int} (d : decode (m_c M) pc = .ok (.sipush z, 3)) (hz : (Int16.ofInt z).toInt32 = Int32.ofInt z) (E : ma_Ev G F Lc k n M (pc + 3) ls (ma_i z :: st) h Z) : ma_Ev G F Lc k n M pc ls st h Z := by
  intro p e s m args below meth c R H locs cells slots lsA C r S hv hc hs hex
  exact lv_sipush C.1 C.2.1 d hz (E C r S hv hc hs hex)
theorem ev_lconst {q : Fin 2} {z : Int} (d : decode (m_c M) pc = .ok (.lconst q, 1)) (hz : Int64.ofNat (q : Nat) = Int64.ofInt z) (E : ma_Ev G F Lc k n M (pc + 1) ls (ma_j z :: st) h Z) : ma_Ev G F Lc k n M pc ls st h Z := by
  intro p e s m args below meth c R H locs cells slots lsA C r S hv hc hs hex
  exact lv_lconst C.1 C.2.1 d hz (E C r S hv hc hs hex)
theorem ev_ldc {i : Nat} {z : Int} (d : decode (m_c M) pc = .ok (.ldc i, 2)) (hw : Cond.constant (m_y M).cls i (Int32.ofInt z) ∈ g_ws G) (E : ma_Ev G F Lc k n M (pc + 2) ls (ma_i z :: st) h Z) : ma_Ev G F Lc k n M pc ls st h Z := by
  intro p e s m args below meth c R H locs cells slots lsA C r S hv hc hs hex
  exact lv_ldc C.1 C.2.1 C.2.2.2.2.2.1 (C.2.2.2.2.2.2.2.1 _ (List.mem_cons_of_mem _ hw)) d (E C r S hv hc hs hex)
theorem ev_ldc2 {i : Nat} {z : Int} (d : decode (m_c M) pc = .ok (.ldc2_w i, 3)) (hw : Cond.constantLong (m_y M).cls i (Int64.ofInt z) ∈ g_ws G) (E : ma_Ev G F Lc k n M (pc + 3) ls (ma_j z :: st) h Z) : ma_Ev G F Lc k n M pc ls st h Z := by
  intro p e s m args below meth c R H locs cells slots lsA C r S hv hc hs hex
  exact lv_ldc2 C.1 C.2.1 C.2.2.2.2.2.1 (C.2.2.2.2.2.2.2.1 _ (List.mem_cons_of_mem _ hw)) d (E C r S hv hc hs hex)
theorem ev_iload_n {j : Fin 4} {i : Nat} {z : Int} (d : decode (m_c M) pc = .ok (.iload_n j, 1)) (hi : (j : Nat) = i) (hl : ls.lookup i = some (ma_i z)) (E : ma_Ev G F Lc k n M (pc + 1) ls (ma_i z :: st) h Z) : ma_Ev G F Lc k n M pc ls st h Z := by
  intro p e s m args below meth c R H locs cells slots lsA C r S hv hc hs hex
  exact lv_iload_n C.1 C.2.1 d hi (ma_lv hv hl) (E C r S hv hc hs hex)
theorem ev_iload {i : Nat} {z : Int} (d : decode (m_c M) pc = .ok (.iload i, 2)) (hl : ls.lookup i = some (ma_i z)) (E : ma_Ev G F Lc k n M (pc + 2) ls (ma_i z :: st) h Z) : ma_Ev G F Lc k n M pc ls st h Z := by
  intro p e s m args below meth c R H locs cells slots lsA C r S hv hc hs hex
  exact lv_iload C.1 C.2.1 d (ma_lv hv hl) (E C r S hv hc hs hex)
theorem ev_istore_n {j : Fin 4} {i : Nat} {z : Int} (d : decode (m_c M) pc = .ok (.istore_n j, 1)) (hi : (j : Nat) = i) (hn : i < m_n M) (ls2 : List (Nat × Value)) (hl : ma_st ls i (ma_i z) = ls2) (E : ma_Ev G F Lc k n M (pc + 1) ls2 st h Z) : ma_Ev G F Lc k n M pc ls (ma_i z :: st) h Z := by
  intro p e s m args below meth c R H locs cells slots lsA C r S hv hc hs hex
  exact lv_istore_n C.1 C.2.1 d hi hv hn hl fun _ hv2 => E C r S hv2 hc hs hex
theorem ev_istore {i : Nat} {z : Int} (d : decode (m_c M) pc = .ok (.istore i, 2)) (hn : i < m_n M) (ls2 : List (Nat × Value)) (hl : ma_st ls i (ma_i z) = ls2) (E : ma_Ev G F Lc k n M (pc + 2) ls2 st h Z) : ma_Ev G F Lc k n M pc ls (ma_i z :: st) h Z := by
  intro p e s m args below meth c R H locs cells slots lsA C r S hv hc hs hex
  exact lv_istore C.1 C.2.1 d hv hn hl fun _ hv2 => E C r S hv2 hc hs hex
theorem ev_lload_n {j : Fin 4} {i : Nat} {z : Int} (d : decode (m_c M) pc = .ok (.lload_n j, 1)) (hi : (j : Nat) = i) (hl : ls.lookup i = some (ma_j z)) (E : ma_Ev G F Lc k n M (pc + 1) ls (ma_j z :: st) h Z) : ma_Ev G F Lc k n M pc ls st h Z := by
  intro p e s m args below meth c R H locs cells slots lsA C r S hv hc hs hex
  exact lv_lload_n C.1 C.2.1 d hi (ma_lv hv hl) (E C r S hv hc hs hex)
theorem ev_lload {i : Nat} {z : Int} (d : decode (m_c M) pc = .ok (.lload i, 2)) (hl : ls.lookup i = some (ma_j z)) (E : ma_Ev G F Lc k n M (pc + 2) ls (ma_j z :: st) h Z) : ma_Ev G F Lc k n M pc ls st h Z := by
  intro p e s m args below meth c R H locs cells slots lsA C r S hv hc hs hex
  exact lv_lload C.1 C.2.1 d (ma_lv hv hl) (E C r S hv hc hs hex)
theorem ev_lstore_n {j : Fin 4} {i : Nat} {z : Int} (d : decode (m_c M) pc = .ok (.lstore_n j, 1)) (hi : (j : Nat) = i) (hn : i + 1 < m_n M) (ls2 : List (Nat × Value)) (hl : ma_st2 ls i (ma_j z) = ls2) (E : ma_Ev G F Lc k n M (pc + 1) ls2 st h Z) : ma_Ev G F Lc k n M pc ls (ma_j z :: st) h Z := by
  intro p e s m args below meth c R H locs cells slots lsA C r S hv hc hs hex
  exact lv_lstore_n C.1 C.2.1 d hi hv hn hl fun _ hv2 => E C r S hv2 hc hs hex
theorem ev_lstore {i : Nat} {z : Int} (d : decode (m_c M) pc = .ok (.lstore i, 2)) (hn : i + 1 < m_n M) (ls2 : List (Nat × Value)) (hl : ma_st2 ls i (ma_j z) = ls2) (E : ma_Ev G F Lc k n M (pc + 2) ls2 st h Z) : ma_Ev G F Lc k n M pc ls (ma_j z :: st) h Z := by
  intro p e s m args below meth c R H locs cells slots lsA C r S hv hc hs hex
  exact lv_lstore C.1 C.2.1 d hv hn hl fun _ hv2 => E C r S hv2 hc hs hex
theorem ev_aload_n {j : Fin 4} {i : Nat} {z : Nat} (d : decode (m_c M) pc = .ok (.aload_n j, 1)) (hi : (j : Nat) = i) (hl : ls.lookup i = some (.ref z)) (E : ma_Ev G F Lc k n M (pc + 1) ls (.ref z :: st) h Z) : ma_Ev G F Lc k n M pc ls st h Z := by
  intro p e s m args below meth c R H locs cells slots lsA C r S hv hc hs hex
  exact lv_aload_n C.1 C.2.1 d hi (ma_lv hv hl) (E C r S hv hc hs hex)
theorem ev_aload {i : Nat} {z : Nat} (d : decode (m_c M) pc = .ok (.aload i, 2)) (hl : ls.lookup i = some (.ref z)) (E : ma_Ev G F Lc k n M (pc + 2) ls (.ref z :: st) h Z) : ma_Ev G F Lc k n M pc ls st h Z := by
  intro p e s m args below meth c R H locs cells slots lsA C r S hv hc hs hex
  exact lv_aload C.1 C.2.1 d (ma_lv hv hl) (E C r S hv hc hs hex)
theorem ev_astore_n {j : Fin 4} {i : Nat} {z : Nat} (d : decode (m_c M) pc = .ok (.astore_n j, 1)) (hi : (j : Nat) = i) (hn : i < m_n M) (ls2 : List (Nat × Value)) (hl : ma_st ls i (.ref z) = ls2) (E : ma_Ev G F Lc k n M (pc + 1) ls2 st h Z) : ma_Ev G F Lc k n M pc ls (.ref z :: st) h Z := by
  intro p e s m args below meth c R H locs cells slots lsA C r S hv hc hs hex
  exact lv_astore_n C.1 C.2.1 d hi hv hn hl fun _ hv2 => E C r S hv2 hc hs hex
theorem ev_astore {i : Nat} {z : Nat} (d : decode (m_c M) pc = .ok (.astore i, 2)) (hn : i < m_n M) (ls2 : List (Nat × Value)) (hl : ma_st ls i (.ref z) = ls2) (E : ma_Ev G F Lc k n M (pc + 2) ls2 st h Z) : ma_Ev G F Lc k n M pc ls (.ref z :: st) h Z := by
  intro p e s m args below meth c R H locs cells slots lsA C r S hv hc hs hex
  exact lv_astore C.1 C.2.1 d hv hn hl fun _ hv2 => E C r S hv2 hc hs hex
theorem ev_iinc {i : Nat} {x z : Int} (d : decode (m_c M) pc = .ok (.iinc i x, 3)) (hn : i < m_n M) (h0 : ls.lookup i = some (ma_i z)) (ls2 : List (Nat × Value)) (hl : ma_st ls i (ma_i (z + x)) = ls2) (E : ma_Ev G F Lc k n M (pc + 3) ls2 st h Z) : ma_Ev G F Lc k n M pc ls st h Z := by
  intro p e s m args below meth c R H locs cells slots lsA C r S hv hc hs hex
  obtain ⟨q, hq⟩ := ma_lx h0
  exact lv_iinc C.1 C.2.1 d hv hq (Int32.ofInt_add z x).symm hn hl fun _ hv2 => E C r S hv2 hc hs hex
theorem ev_iadd {x y : Int} (d : decode (m_c M) pc = .ok (.iadd, 1)) (E : ma_Ev G F Lc k n M (pc + 1) ls (ma_i (x + y) :: st) h Z) : ma_Ev G F Lc k n M pc ls (ma_i y :: ma_i x :: st) h Z := by
  intro p e s m args below meth c R H locs cells slots lsA C r S hv hc hs hex
  refine lv_iadd C.1 C.2.1 d ?_
  rw [← Int32.ofInt_add x y]
  exact E C r S hv hc hs hex
theorem ev_isub {x y : Int} (d : decode (m_c M) pc = .ok (.isub, 1)) (E : ma_Ev G F Lc k n M (pc + 1) ls (ma_i (x - y) :: st) h Z) : ma_Ev G F Lc k n M pc ls (ma_i y :: ma_i x :: st) h Z := by
  intro p e s m args below meth c R H locs cells slots lsA C r S hv hc hs hex
  refine lv_isub C.1 C.2.1 d ?_
  rw [← Int32.ofInt_sub x y]
  exact E C r S hv hc hs hex
theorem ev_imul {x y : Int} (d : decode (m_c M) pc = .ok (.imul, 1)) (E : ma_Ev G F Lc k n M (pc + 1) ls (ma_i (x * y) :: st) h Z) : ma_Ev G F Lc k n M pc ls (ma_i y :: ma_i x :: st) h Z := by
  intro p e s m args below meth c R H locs cells slots lsA C r S hv hc hs hex
  refine lv_imul C.1 C.2.1 d ?_
  rw [← Int32.ofInt_mul x y]
  exact E C r S hv hc hs hex
theorem ev_ladd {x y : Int} (d : decode (m_c M) pc = .ok (.ladd, 1)) (E : ma_Ev G F Lc k n M (pc + 1) ls (ma_j (x + y) :: st) h Z) : ma_Ev G F Lc k n M pc ls (ma_j y :: ma_j x :: st) h Z := by
  intro p e s m args below meth c R H locs cells slots lsA C r S hv hc hs hex
  refine lv_ladd C.1 C.2.1 d ?_
  rw [← Int64.ofInt_add x y]
  exact E C r S hv hc hs hex
theorem ev_lsub {x y : Int} (d : decode (m_c M) pc = .ok (.lsub, 1)) (E : ma_Ev G F Lc k n M (pc + 1) ls (ma_j (x - y) :: st) h Z) : ma_Ev G F Lc k n M pc ls (ma_j y :: ma_j x :: st) h Z := by
  intro p e s m args below meth c R H locs cells slots lsA C r S hv hc hs hex
  refine lv_lsub C.1 C.2.1 d ?_
  rw [← Int64.ofInt_sub x y]
  exact E C r S hv hc hs hex
theorem ev_ineg {x : Int} (d : decode (m_c M) pc = .ok (.ineg, 1)) (E : ma_Ev G F Lc k n M (pc + 1) ls (ma_i (-x) :: st) h Z) : ma_Ev G F Lc k n M pc ls (ma_i x :: st) h Z := by
  intro p e s m args below meth c R H locs cells slots lsA C r S hv hc hs hex
  refine lv_ineg C.1 C.2.1 d ?_
  rw [← Int32.ofInt_neg x]
  exact E C r S hv hc hs hex
theorem ev_iand {x y : Int} (z : Int) (d : decode (m_c M) pc = .ok (.iand, 1)) (hz : Int32.ofInt x &&& Int32.ofInt y = Int32.ofInt z) (E : ma_Ev G F Lc k n M (pc + 1) ls (ma_i z :: st) h Z) : ma_Ev G F Lc k n M pc ls (ma_i y :: ma_i x :: st) h Z := by
  intro p e s m args below meth c R H locs cells slots lsA C r S hv hc hs hex
  refine lv_iand C.1 C.2.1 d ?_
  rw [hz]
  exact E C r S hv hc hs hex
theorem ev_irem {x y : Int} (z : Int) (d : decode (m_c M) pc = .ok (.irem, 1)) (hy : ¬ Int32.ofInt y = 0) (hz : Int32.ofInt x - Int32.ofInt x / Int32.ofInt y * Int32.ofInt y = Int32.ofInt z) (E : ma_Ev G F Lc k n M (pc + 1) ls (ma_i z :: st) h Z) : ma_Ev G F Lc k n M pc ls (ma_i y :: ma_i x :: st) h Z := by
  intro p e s m args below meth c R H locs cells slots lsA C r S hv hc hs hex
  refine lv_irem C.1 C.2.1 d hy ?_
  rw [hz]
  exact E C r S hv hc hs hex
theorem ev_lrem {x y : Int} (z : Int) (d : decode (m_c M) pc = .ok (.lrem, 1)) (hy : ¬ Int64.ofInt y = 0) (hz : Int64.ofInt x - Int64.ofInt x / Int64.ofInt y * Int64.ofInt y = Int64.ofInt z) (E : ma_Ev G F Lc k n M (pc + 1) ls (ma_j z :: st) h Z) : ma_Ev G F Lc k n M pc ls (ma_j y :: ma_j x :: st) h Z := by
  intro p e s m args below meth c R H locs cells slots lsA C r S hv hc hs hex
  refine lv_lrem C.1 C.2.1 d hy ?_
  rw [hz]
  exact E C r S hv hc hs hex
theorem ev_land {x y : Int} (z : Int) (d : decode (m_c M) pc = .ok (.land, 1)) (hz : Int64.ofInt x &&& Int64.ofInt y = Int64.ofInt z) (E : ma_Ev G F Lc k n M (pc + 1) ls (ma_j z :: st) h Z) : ma_Ev G F Lc k n M pc ls (ma_j y :: ma_j x :: st) h Z := by
  intro p e s m args below meth c R H locs cells slots lsA C r S hv hc hs hex
  refine lv_land C.1 C.2.1 d ?_
  rw [hz]
  exact E C r S hv hc hs hex
theorem ev_lor {x y : Int} (z : Int) (d : decode (m_c M) pc = .ok (.lor, 1)) (hz : Int64.ofInt x ||| Int64.ofInt y = Int64.ofInt z) (E : ma_Ev G F Lc k n M (pc + 1) ls (ma_j z :: st) h Z) : ma_Ev G F Lc k n M pc ls (ma_j y :: ma_j x :: st) h Z := by
  intro p e s m args below meth c R H locs cells slots lsA C r S hv hc hs hex
  refine lv_lor C.1 C.2.1 d ?_
  rw [hz]
  exact E C r S hv hc hs hex
theorem ev_lshl {x y : Int} (z : Int) (d : decode (m_c M) pc = .ok (.lshl, 1)) (hz : Int64.ofInt x <<< ((Int32.ofInt y).toInt64 &&& 63) = Int64.ofInt z) (E : ma_Ev G F Lc k n M (pc + 1) ls (ma_j z :: st) h Z) : ma_Ev G F Lc k n M pc ls (ma_i y :: ma_j x :: st) h Z := by
  intro p e s m args below meth c R H locs cells slots lsA C r S hv hc hs hex
  exact lv_lshl C.1 C.2.1 d hz (E C r S hv hc hs hex)
theorem ev_lshr {x y : Int} (z : Int) (d : decode (m_c M) pc = .ok (.lshr, 1)) (hz : Int64.ofInt x >>> ((Int32.ofInt y).toInt64 &&& 63) = Int64.ofInt z) (E : ma_Ev G F Lc k n M (pc + 1) ls (ma_j z :: st) h Z) : ma_Ev G F Lc k n M pc ls (ma_i y :: ma_j x :: st) h Z := by
  intro p e s m args below meth c R H locs cells slots lsA C r S hv hc hs hex
  exact lv_lshr C.1 C.2.1 d hz (E C r S hv hc hs hex)
theorem ev_lushr {x y : Int} (z : Int) (d : decode (m_c M) pc = .ok (.lushr, 1)) (hz : ((Int64.ofInt x).toUInt64 >>> ((Int32.ofInt y).toInt64.toUInt64 &&& Int64.toUInt64 63)).toInt64 = Int64.ofInt z) (E : ma_Ev G F Lc k n M (pc + 1) ls (ma_j z :: st) h Z) : ma_Ev G F Lc k n M pc ls (ma_i y :: ma_j x :: st) h Z := by
  intro p e s m args below meth c R H locs cells slots lsA C r S hv hc hs hex
  exact lv_lushr C.1 C.2.1 d hz (E C r S hv hc hs hex)
theorem ev_i2l {x : Int} (d : decode (m_c M) pc = .ok (.i2l, 1)) (hx : ma_r x) (E : ma_Ev G F Lc k n M (pc + 1) ls (ma_j x :: st) h Z) : ma_Ev G F Lc k n M pc ls (ma_i x :: st) h Z := by
  intro p e s m args below meth c R H locs cells slots lsA C r S hv hc hs hex
  exact lv_i2l C.1 C.2.1 d (Int32.toInt64_ofInt hx.1 hx.2) (E C r S hv hc hs hex)
theorem ev_l2i {x : Int} (d : decode (m_c M) pc = .ok (.l2i, 1)) (E : ma_Ev G F Lc k n M (pc + 1) ls (ma_i x :: st) h Z) : ma_Ev G F Lc k n M pc ls (ma_j x :: st) h Z := by
  intro p e s m args below meth c R H locs cells slots lsA C r S hv hc hs hex
  exact lv_l2i C.1 C.2.1 d Int64.toInt32_ofInt (E C r S hv hc hs hex)
theorem ev_i2c {x : Int} (d : decode (m_c M) pc = .ok (.i2c, 1)) (hx : ((Int32.ofInt x).toUInt32 % 65536).toInt32 = Int32.ofInt x) (E : ma_Ev G F Lc k n M (pc + 1) ls (ma_i x :: st) h Z) : ma_Ev G F Lc k n M pc ls (ma_i x :: st) h Z := by
  intro p e s m args below meth c R H locs cells slots lsA C r S hv hc hs hex
  exact lv_i2c C.1 C.2.1 d hx (E C r S hv hc hs hex)
theorem ev_lcmp {x y : Int} (z : Int) (d : decode (m_c M) pc = .ok (.lcmp, 1)) (hz : lg_cmp (Int64.ofInt x) (Int64.ofInt y) = Int32.ofInt z) (E : ma_Ev G F Lc k n M (pc + 1) ls (ma_i z :: st) h Z) : ma_Ev G F Lc k n M pc ls (ma_j y :: ma_j x :: st) h Z := by
  intro p e s m args below meth c R H locs cells slots lsA C r S hv hc hs hex
  refine W.lcmp C.1 C.2.1 d ?_
  rw [hz]
  exact E C r S hv hc hs hex
theorem ev_dup {v : Value} (d : decode (m_c M) pc = .ok (.dup, 1)) (hx : v.category = 1) (E : ma_Ev G F Lc k n M (pc + 1) ls (v :: v :: st) h Z) : ma_Ev G F Lc k n M pc ls (v :: st) h Z := by
  intro p e s m args below meth c R H locs cells slots lsA C r S hv hc hs hex
  exact lv_dup C.1 C.2.1 d hx (E C r S hv hc hs hex)
theorem ev_pop {v : Value} (d : decode (m_c M) pc = .ok (.pop, 1)) (hx : v.category = 1) (E : ma_Ev G F Lc k n M (pc + 1) ls st h Z) : ma_Ev G F Lc k n M pc ls (v :: st) h Z := by
  intro p e s m args below meth c R H locs cells slots lsA C r S hv hc hs hex
  exact lv_pop C.1 C.2.1 d hx (E C r S hv hc hs hex)
theorem ev_dup_x1 {v u : Value} (d : decode (m_c M) pc = .ok (.dup_x1, 1)) (hx : v.category = 1) (hy : u.category = 1) (E : ma_Ev G F Lc k n M (pc + 1) ls (v :: u :: v :: st) h Z) : ma_Ev G F Lc k n M pc ls (v :: u :: st) h Z := by
  intro p e s m args below meth c R H locs cells slots lsA C r S hv hc hs hex
  exact lv_dup_x1 C.1 C.2.1 d hx hy (E C r S hv hc hs hex)
theorem ev_dup_x2 {v u t : Value} (d : decode (m_c M) pc = .ok (.dup_x2, 1)) (hx : v.category = 1) (hy : u.category = 1) (hz : t.category = 1) (E : ma_Ev G F Lc k n M (pc + 1) ls (v :: u :: t :: v :: st) h Z) : ma_Ev G F Lc k n M pc ls (v :: u :: t :: st) h Z := by
  intro p e s m args below meth c R H locs cells slots lsA C r S hv hc hs hex
  exact lv_dup_x2 C.1 C.2.1 d hx hy hz (E C r S hv hc hs hex)
theorem ev_dup2 {v u : Value} (d : decode (m_c M) pc = .ok (.dup2, 1)) (hx : v.category = 1) (hy : u.category = 1) (E : ma_Ev G F Lc k n M (pc + 1) ls (v :: u :: v :: u :: st) h Z) : ma_Ev G F Lc k n M pc ls (v :: u :: st) h Z := by
  intro p e s m args below meth c R H locs cells slots lsA C r S hv hc hs hex
  exact lv_dup2_11 C.1 C.2.1 d hx hy (E C r S hv hc hs hex)
theorem ev_if_eq {x off : Int} {tgt : Nat} (d : decode (m_c M) pc = .ok (.ifCond .eq off, 3)) (ht : (pc : Int) + off = (tgt : Int)) (hx : ma_r x) (E : x = 0 → ma_Ev G F Lc k n M tgt ls st h Z) (E2 : ¬ (x = 0) → ma_Ev G F Lc k n M (pc + 3) ls st h Z) : ma_Ev G F Lc k n M pc ls (ma_i x :: st) h Z := by
  intro p e s m args below meth c R H locs cells slots lsA C r S hv hc hs hex
  have h0 : (0 : Int32) = Int32.ofInt 0 := rfl
  have hr0 : ma_r 0 := ⟨by decide, by decide⟩
  refine lv_if_eq C.1 C.2.1 d ht (fun hp => ?_) (fun hp => ?_)
  · refine E ?_ C r S hv hc hs hex
    rw [h0] at hp
    first | exact (ma_eq hx hr0).mp hp | exact fun z => hp ((ma_eq hx hr0).mpr z) | exact (ma_lt hx hr0).mp hp | exact (ma_le hr0 hx).mp hp | exact (ma_lt hr0 hx).mp hp | exact (ma_le hx hr0).mp hp
  · refine E2 (fun hq => hp ?_) C r S hv hc hs hex
    rw [h0]
    first | exact (ma_eq hx hr0).mpr hq | exact fun z => hq ((ma_eq hx hr0).mp z) | exact (ma_lt hx hr0).mpr hq | exact (ma_le hr0 hx).mpr hq | exact (ma_lt hr0 hx).mpr hq | exact (ma_le hx hr0).mpr hq
theorem ev_if_lt {x off : Int} {tgt : Nat} (d : decode (m_c M) pc = .ok (.ifCond .lt off, 3)) (ht : (pc : Int) + off = (tgt : Int)) (hx : ma_r x) (E : x < 0 → ma_Ev G F Lc k n M tgt ls st h Z) (E2 : ¬ (x < 0) → ma_Ev G F Lc k n M (pc + 3) ls st h Z) : ma_Ev G F Lc k n M pc ls (ma_i x :: st) h Z := by
  intro p e s m args below meth c R H locs cells slots lsA C r S hv hc hs hex
  have h0 : (0 : Int32) = Int32.ofInt 0 := rfl
  have hr0 : ma_r 0 := ⟨by decide, by decide⟩
  refine lv_if_lt C.1 C.2.1 d ht (fun hp => ?_) (fun hp => ?_)
  · refine E ?_ C r S hv hc hs hex
    rw [h0] at hp
    first | exact (ma_eq hx hr0).mp hp | exact fun z => hp ((ma_eq hx hr0).mpr z) | exact (ma_lt hx hr0).mp hp | exact (ma_le hr0 hx).mp hp | exact (ma_lt hr0 hx).mp hp | exact (ma_le hx hr0).mp hp
  · refine E2 (fun hq => hp ?_) C r S hv hc hs hex
    rw [h0]
    first | exact (ma_eq hx hr0).mpr hq | exact fun z => hq ((ma_eq hx hr0).mp z) | exact (ma_lt hx hr0).mpr hq | exact (ma_le hr0 hx).mpr hq | exact (ma_lt hr0 hx).mpr hq | exact (ma_le hx hr0).mpr hq
theorem ev_if_ge {x off : Int} {tgt : Nat} (d : decode (m_c M) pc = .ok (.ifCond .ge off, 3)) (ht : (pc : Int) + off = (tgt : Int)) (hx : ma_r x) (E : 0 ≤ x → ma_Ev G F Lc k n M tgt ls st h Z) (E2 : ¬ (0 ≤ x) → ma_Ev G F Lc k n M (pc + 3) ls st h Z) : ma_Ev G F Lc k n M pc ls (ma_i x :: st) h Z := by
  intro p e s m args below meth c R H locs cells slots lsA C r S hv hc hs hex
  have h0 : (0 : Int32) = Int32.ofInt 0 := rfl
  have hr0 : ma_r 0 := ⟨by decide, by decide⟩
  refine lv_if_ge C.1 C.2.1 d ht (fun hp => ?_) (fun hp => ?_)
  · refine E ?_ C r S hv hc hs hex
    rw [h0] at hp
    first | exact (ma_eq hx hr0).mp hp | exact fun z => hp ((ma_eq hx hr0).mpr z) | exact (ma_lt hx hr0).mp hp | exact (ma_le hr0 hx).mp hp | exact (ma_lt hr0 hx).mp hp | exact (ma_le hx hr0).mp hp
  · refine E2 (fun hq => hp ?_) C r S hv hc hs hex
    rw [h0]
    first | exact (ma_eq hx hr0).mpr hq | exact fun z => hq ((ma_eq hx hr0).mp z) | exact (ma_lt hx hr0).mpr hq | exact (ma_le hr0 hx).mpr hq | exact (ma_lt hr0 hx).mpr hq | exact (ma_le hx hr0).mpr hq
theorem ev_if_gt {x off : Int} {tgt : Nat} (d : decode (m_c M) pc = .ok (.ifCond .gt off, 3)) (ht : (pc : Int) + off = (tgt : Int)) (hx : ma_r x) (E : 0 < x → ma_Ev G F Lc k n M tgt ls st h Z) (E2 : ¬ (0 < x) → ma_Ev G F Lc k n M (pc + 3) ls st h Z) : ma_Ev G F Lc k n M pc ls (ma_i x :: st) h Z := by
  intro p e s m args below meth c R H locs cells slots lsA C r S hv hc hs hex
  have h0 : (0 : Int32) = Int32.ofInt 0 := rfl
  have hr0 : ma_r 0 := ⟨by decide, by decide⟩
  refine lv_if_gt C.1 C.2.1 d ht (fun hp => ?_) (fun hp => ?_)
  · refine E ?_ C r S hv hc hs hex
    rw [h0] at hp
    first | exact (ma_eq hx hr0).mp hp | exact fun z => hp ((ma_eq hx hr0).mpr z) | exact (ma_lt hx hr0).mp hp | exact (ma_le hr0 hx).mp hp | exact (ma_lt hr0 hx).mp hp | exact (ma_le hx hr0).mp hp
  · refine E2 (fun hq => hp ?_) C r S hv hc hs hex
    rw [h0]
    first | exact (ma_eq hx hr0).mpr hq | exact fun z => hq ((ma_eq hx hr0).mp z) | exact (ma_lt hx hr0).mpr hq | exact (ma_le hr0 hx).mpr hq | exact (ma_lt hr0 hx).mpr hq | exact (ma_le hx hr0).mpr hq
theorem ev_if_le {x off : Int} {tgt : Nat} (d : decode (m_c M) pc = .ok (.ifCond .le off, 3)) (ht : (pc : Int) + off = (tgt : Int)) (hx : ma_r x) (E : x ≤ 0 → ma_Ev G F Lc k n M tgt ls st h Z) (E2 : ¬ (x ≤ 0) → ma_Ev G F Lc k n M (pc + 3) ls st h Z) : ma_Ev G F Lc k n M pc ls (ma_i x :: st) h Z := by
  intro p e s m args below meth c R H locs cells slots lsA C r S hv hc hs hex
  have h0 : (0 : Int32) = Int32.ofInt 0 := rfl
  have hr0 : ma_r 0 := ⟨by decide, by decide⟩
  refine lv_if_le C.1 C.2.1 d ht (fun hp => ?_) (fun hp => ?_)
  · refine E ?_ C r S hv hc hs hex
    rw [h0] at hp
    first | exact (ma_eq hx hr0).mp hp | exact fun z => hp ((ma_eq hx hr0).mpr z) | exact (ma_lt hx hr0).mp hp | exact (ma_le hr0 hx).mp hp | exact (ma_lt hr0 hx).mp hp | exact (ma_le hx hr0).mp hp
  · refine E2 (fun hq => hp ?_) C r S hv hc hs hex
    rw [h0]
    first | exact (ma_eq hx hr0).mpr hq | exact fun z => hq ((ma_eq hx hr0).mp z) | exact (ma_lt hx hr0).mpr hq | exact (ma_le hr0 hx).mpr hq | exact (ma_lt hr0 hx).mpr hq | exact (ma_le hx hr0).mpr hq
theorem ev_icmp_eq {x y off : Int} {tgt : Nat} (d : decode (m_c M) pc = .ok (.if_icmp .eq off, 3)) (ht : (pc : Int) + off = (tgt : Int)) (hx : ma_r x) (hy : ma_r y) (E : x = y → ma_Ev G F Lc k n M tgt ls st h Z) (E2 : ¬ (x = y) → ma_Ev G F Lc k n M (pc + 3) ls st h Z) : ma_Ev G F Lc k n M pc ls (ma_i y :: ma_i x :: st) h Z := by
  intro p e s m args below meth c R H locs cells slots lsA C r S hv hc hs hex
  refine lv_icmp_eq C.1 C.2.1 d ht (fun hp => ?_) (fun hp => ?_)
  · refine E ?_ C r S hv hc hs hex
    first | exact (ma_eq hx hy).mp hp | exact fun z => hp ((ma_eq hx hy).mpr z) | exact (ma_lt hx hy).mp hp | exact (ma_le hy hx).mp hp | exact (ma_lt hy hx).mp hp | exact (ma_le hx hy).mp hp
  · refine E2 (fun hq => hp ?_) C r S hv hc hs hex
    first | exact (ma_eq hx hy).mpr hq | exact fun z => hq ((ma_eq hx hy).mp z) | exact (ma_lt hx hy).mpr hq | exact (ma_le hy hx).mpr hq | exact (ma_lt hy hx).mpr hq | exact (ma_le hx hy).mpr hq
theorem ev_icmp_lt {x y off : Int} {tgt : Nat} (d : decode (m_c M) pc = .ok (.if_icmp .lt off, 3)) (ht : (pc : Int) + off = (tgt : Int)) (hx : ma_r x) (hy : ma_r y) (E : x < y → ma_Ev G F Lc k n M tgt ls st h Z) (E2 : ¬ (x < y) → ma_Ev G F Lc k n M (pc + 3) ls st h Z) : ma_Ev G F Lc k n M pc ls (ma_i y :: ma_i x :: st) h Z := by
  intro p e s m args below meth c R H locs cells slots lsA C r S hv hc hs hex
  refine lv_icmp_lt C.1 C.2.1 d ht (fun hp => ?_) (fun hp => ?_)
  · refine E ?_ C r S hv hc hs hex
    first | exact (ma_eq hx hy).mp hp | exact fun z => hp ((ma_eq hx hy).mpr z) | exact (ma_lt hx hy).mp hp | exact (ma_le hy hx).mp hp | exact (ma_lt hy hx).mp hp | exact (ma_le hx hy).mp hp
  · refine E2 (fun hq => hp ?_) C r S hv hc hs hex
    first | exact (ma_eq hx hy).mpr hq | exact fun z => hq ((ma_eq hx hy).mp z) | exact (ma_lt hx hy).mpr hq | exact (ma_le hy hx).mpr hq | exact (ma_lt hy hx).mpr hq | exact (ma_le hx hy).mpr hq
theorem ev_icmp_ge {x y off : Int} {tgt : Nat} (d : decode (m_c M) pc = .ok (.if_icmp .ge off, 3)) (ht : (pc : Int) + off = (tgt : Int)) (hx : ma_r x) (hy : ma_r y) (E : y ≤ x → ma_Ev G F Lc k n M tgt ls st h Z) (E2 : ¬ (y ≤ x) → ma_Ev G F Lc k n M (pc + 3) ls st h Z) : ma_Ev G F Lc k n M pc ls (ma_i y :: ma_i x :: st) h Z := by
  intro p e s m args below meth c R H locs cells slots lsA C r S hv hc hs hex
  refine lv_icmp_ge C.1 C.2.1 d ht (fun hp => ?_) (fun hp => ?_)
  · refine E ?_ C r S hv hc hs hex
    first | exact (ma_eq hx hy).mp hp | exact fun z => hp ((ma_eq hx hy).mpr z) | exact (ma_lt hx hy).mp hp | exact (ma_le hy hx).mp hp | exact (ma_lt hy hx).mp hp | exact (ma_le hx hy).mp hp
  · refine E2 (fun hq => hp ?_) C r S hv hc hs hex
    first | exact (ma_eq hx hy).mpr hq | exact fun z => hq ((ma_eq hx hy).mp z) | exact (ma_lt hx hy).mpr hq | exact (ma_le hy hx).mpr hq | exact (ma_lt hy hx).mpr hq | exact (ma_le hx hy).mpr hq
theorem ev_icmp_gt {x y off : Int} {tgt : Nat} (d : decode (m_c M) pc = .ok (.if_icmp .gt off, 3)) (ht : (pc : Int) + off = (tgt : Int)) (hx : ma_r x) (hy : ma_r y) (E : y < x → ma_Ev G F Lc k n M tgt ls st h Z) (E2 : ¬ (y < x) → ma_Ev G F Lc k n M (pc + 3) ls st h Z) : ma_Ev G F Lc k n M pc ls (ma_i y :: ma_i x :: st) h Z := by
  intro p e s m args below meth c R H locs cells slots lsA C r S hv hc hs hex
  refine lv_icmp_gt C.1 C.2.1 d ht (fun hp => ?_) (fun hp => ?_)
  · refine E ?_ C r S hv hc hs hex
    first | exact (ma_eq hx hy).mp hp | exact fun z => hp ((ma_eq hx hy).mpr z) | exact (ma_lt hx hy).mp hp | exact (ma_le hy hx).mp hp | exact (ma_lt hy hx).mp hp | exact (ma_le hx hy).mp hp
  · refine E2 (fun hq => hp ?_) C r S hv hc hs hex
    first | exact (ma_eq hx hy).mpr hq | exact fun z => hq ((ma_eq hx hy).mp z) | exact (ma_lt hx hy).mpr hq | exact (ma_le hy hx).mpr hq | exact (ma_lt hy hx).mpr hq | exact (ma_le hx hy).mpr hq
theorem ev_icmp_le {x y off : Int} {tgt : Nat} (d : decode (m_c M) pc = .ok (.if_icmp .le off, 3)) (ht : (pc : Int) + off = (tgt : Int)) (hx : ma_r x) (hy : ma_r y) (E : x ≤ y → ma_Ev G F Lc k n M tgt ls st h Z) (E2 : ¬ (x ≤ y) → ma_Ev G F Lc k n M (pc + 3) ls st h Z) : ma_Ev G F Lc k n M pc ls (ma_i y :: ma_i x :: st) h Z := by
  intro p e s m args below meth c R H locs cells slots lsA C r S hv hc hs hex
  refine lv_icmp_le C.1 C.2.1 d ht (fun hp => ?_) (fun hp => ?_)
  · refine E ?_ C r S hv hc hs hex
    first | exact (ma_eq hx hy).mp hp | exact fun z => hp ((ma_eq hx hy).mpr z) | exact (ma_lt hx hy).mp hp | exact (ma_le hy hx).mp hp | exact (ma_lt hy hx).mp hp | exact (ma_le hx hy).mp hp
  · refine E2 (fun hq => hp ?_) C r S hv hc hs hex
    first | exact (ma_eq hx hy).mpr hq | exact fun z => hq ((ma_eq hx hy).mp z) | exact (ma_lt hx hy).mpr hq | exact (ma_le hy hx).mpr hq | exact (ma_lt hy hx).mpr hq | exact (ma_le hx hy).mpr hq
theorem ev_if_ne {x off : Int} {tgt : Nat} (d : decode (m_c M) pc = .ok (.ifCond .ne off, 3)) (ht : (pc : Int) + off = (tgt : Int)) (hx : ma_r x) (E : ¬ x = 0 → ma_Ev G F Lc k n M tgt ls st h Z) (E2 : x = 0 → ma_Ev G F Lc k n M (pc + 3) ls st h Z) : ma_Ev G F Lc k n M pc ls (ma_i x :: st) h Z := by
  intro p e s m args below meth c R H locs cells slots lsA C r S hv hc hs hex
  have h0 : (0 : Int32) = Int32.ofInt 0 := rfl
  have hr0 : ma_r 0 := ⟨by decide, by decide⟩
  refine lv_if_ne C.1 C.2.1 d ht (fun hp => ?_) (fun hp => ?_)
  · rw [h0] at hp
    exact E (fun z => hp ((ma_eq hx hr0).mpr z)) C r S hv hc hs hex
  · rw [h0] at hp
    exact E2 ((ma_eq hx hr0).mp hp) C r S hv hc hs hex
theorem ev_icmp_ne {x y off : Int} {tgt : Nat} (d : decode (m_c M) pc = .ok (.if_icmp .ne off, 3)) (ht : (pc : Int) + off = (tgt : Int)) (hx : ma_r x) (hy : ma_r y) (E : ¬ x = y → ma_Ev G F Lc k n M tgt ls st h Z) (E2 : x = y → ma_Ev G F Lc k n M (pc + 3) ls st h Z) : ma_Ev G F Lc k n M pc ls (ma_i y :: ma_i x :: st) h Z := by
  intro p e s m args below meth c R H locs cells slots lsA C r S hv hc hs hex
  refine lv_icmp_ne C.1 C.2.1 d ht (fun hp => ?_) (fun hp => ?_)
  · exact E (fun z => hp ((ma_eq hx hy).mpr z)) C r S hv hc hs hex
  · exact E2 ((ma_eq hx hy).mp hp) C r S hv hc hs hex
theorem ev_goto {off : Int} {tgt : Nat} (d : decode (m_c M) pc = .ok (.goto off, 3)) (ht : (pc : Int) + off = (tgt : Int)) (E : ma_Ev G F Lc k n M tgt ls st h Z) : ma_Ev G F Lc k n M pc ls st h Z := by
  intro p e s m args below meth c R H locs cells slots lsA C r S hv hc hs hex
  exact lv_goto C.1 C.2.1 d ht (E C r S hv hc hs hex)
theorem ev_tableOut {dflt lo hi : Int} {offs : Array Int} {len : Nat} {x : Int} {tgt : Nat} (d : decode (m_c M) pc = .ok (.tableswitch dflt lo hi offs, len)) (hx : ma_r x) (h0 : x < lo ∨ hi < x) (ht : (pc : Int) + dflt = (tgt : Int)) (E : ma_Ev G F Lc k n M tgt ls st h Z) : ma_Ev G F Lc k n M pc ls (ma_i x :: st) h Z := by
  intro p e s m args below meth c R H locs cells slots lsA C r S hv hc hs hex
  exact lv_tableOut C.1 C.2.1 d (by rw [ma_toI hx]; exact h0) ht (E C r S hv hc hs hex)
theorem ev_tableIn {dflt lo hi : Int} {offs : Array Int} {len : Nat} {x : Int} {off : Int} {tgt : Nat} (d : decode (m_c M) pc = .ok (.tableswitch dflt lo hi offs, len)) (hx : ma_r x) (h1 : ¬ x < lo) (h2 : ¬ hi < x) (ho : offs[(x - lo).toNat]? = some off) (ht : (pc : Int) + off = (tgt : Int)) (E : ma_Ev G F Lc k n M tgt ls st h Z) : ma_Ev G F Lc k n M pc ls (ma_i x :: st) h Z := by
  intro p e s m args below meth c R H locs cells slots lsA C r S hv hc hs hex
  exact lv_tableIn C.1 C.2.1 d (by rw [ma_toI hx]; exact h1) (by rw [ma_toI hx]; exact h2) (by rw [ma_toI hx]; exact ho) ht (E C r S hv hc hs hex)
theorem ev_lookup {dflt : Int} {ps : Array (Int × Int)} {len : Nat} {x : Int} {off : Int} {tgt : Nat} (d : decode (m_c M) pc = .ok (.lookupswitch dflt ps, len)) (hp : (ps.toList.zip (ps.toList.drop 1)).all (fun (a, next) => a.1 < next.1) = true) (hx : ma_r x) (ho : Op.lookupswitch.offset ps.toList dflt x = off) (ht : (pc : Int) + off = (tgt : Int)) (E : ma_Ev G F Lc k n M tgt ls st h Z) : ma_Ev G F Lc k n M pc ls (ma_i x :: st) h Z := by
  intro p e s m args below meth c R H locs cells slots lsA C r S hv hc hs hex
  exact lv_lookup C.1 C.2.1 d hp (by rw [ma_toI hx]; exact ho) ht (E C r S hv hc hs hex)
theorem ev_sub {ls2 : List (Nat × Value)} (js : List Nat) (hl : lv_pick ls js = ls2) (E : ma_Ev G F Lc k n M pc ls2 st h Z) : ma_Ev G F Lc k n M pc ls st h Z := by
  intro p e s m args below meth c R H locs cells slots lsA C r S hv hc hs hex
  exact E C r S (lv_sub hv js hl) hc hs hex
theorem ev_less {k2 n2 : Nat} (hf : h.1.1 = false) (h1 : k2 ≤ k) (h2 : n2 ≤ n) (E : ma_Ev G F Lc k2 n2 M pc ls st h Z) : ma_Ev G F Lc k n M pc ls st h Z := by
  intro p e s m args below meth c R H locs cells slots lsA C r S hv hc hs hex
  refine W.widen (k := cells + (k - k2)) (n := slots) (by omega) (Nat.le_refl _) ?_
  exact E C r S hv (by omega) (by omega) (fun q => by rw [hf] at q; cases q)
theorem ma_ret {p : Program} {e : Env} {s : State} {m : MethodId} {args : Array Value} {below : List Frame} {meth : Method} {c : Code} {R : Room} {H : Heap} {locs : List Loc} {cells slots : Nat} {g : JFrame} (hc : cells ≤ R.cells) (hs : slots ≤ R.slots)
    (kk : W p (g_l G) e R s m args below meth c H locs R.cells R.slots (MQ below (ma_Qc G fe R.cells Q) args s R.cells R.slots (ma_A G)) g) : W p (g_l G) e R s m args below meth c H locs cells slots (ma_zr G fe Q below args s R) g :=
  W.widen hc hs kk
theorem ma_Rel.moved {u U : State} {H : Heap} (hvm : u.vm.Alike U.vm) (r : ma_Rel G h u H) : ma_Rel G h U H :=
  ⟨r.1, fun a ty n ha => ⟨arrOfT_moved hvm (r.2.1 a ty n ha).1, (r.2.1 a ty n ha).2.moved hvm⟩, r.2.2⟩
theorem ma_end {s t : State} {H : Heap} {locs : List Loc} {args : Array Value} {v : Option Value} {mc cells : Nat} (hfe : h.1.1 = fe) (hk : fe = true → k = 0) (hc : cells + k = mc) (hz : h.1.1 = true → s.heap.size + cells = g_o G + h.1.2.length) (r : ma_Rel G h s H) (S : va_S (ma_A G) s.heap H locs) (q : Q v h) (ht : t.heap = H) (hW : s.WarmedH t.vm) : ma_Qc G fe mc Q args s (.returned v) t :=
  ⟨v, h, rfl, q, by rw [ht]; exact r.moved hW.alike, S.F ht, hfe, fun q9 => by have h1 := hk q9; have h2 := hz (hfe.trans q9); omega⟩
theorem ev_iret {x : Int} {ty : FieldType} (d : decode (m_c M) pc = .ok (.ireturn, 1)) (hr : m_r M = some ty) (hn : narrow ty (ma_i x) = ma_i x) (hfe : h.1.1 = fe) (hk : fe = true → k = 0) (q : Q (some (ma_i x)) h) : ma_Ev G F Lc k n M pc ls [ma_i x] h (ma_zr G fe Q) := by
  intro p e s m args below meth c R H locs cells slots lsA C r S hv hc hs hex
  exact ma_ret (by omega) (by omega) (W.zret C.1 C.2.1 (C.2.2.1.trans hr) hn (fun t ht hW => ma_end hfe hk hc hex r S q ht hW) S.2.2 d C.2.2.2.1)
theorem ev_lret {x : Int} (d : decode (m_c M) pc = .ok (.lreturn, 1)) (hr : m_r M = some .long) (hfe : h.1.1 = fe) (hk : fe = true → k = 0) (q : Q (some (ma_j x)) h) : ma_Ev G F Lc k n M pc ls [ma_j x] h (ma_zr G fe Q) := by
  intro p e s m args below meth c R H locs cells slots lsA C r S hv hc hs hex
  exact ma_ret (by omega) (by omega) (W.lret C.1 C.2.1 (C.2.2.1.trans hr) (fun t ht hW => ma_end hfe hk hc hex r S q ht hW) S.2.2 d C.2.2.2.1)
theorem ev_aret {x : Nat} {ty : FieldType} (d : decode (m_c M) pc = .ok (.areturn, 1)) (hr : m_r M = some ty) (hty : (∃ n, ty = .object n) ∨ ∃ t, ty = .array t) (hfe : h.1.1 = fe) (hk : fe = true → k = 0) (q : Q (some (.ref x)) h) : ma_Ev G F Lc k n M pc ls [.ref x] h (ma_zr G fe Q) := by
  intro p e s m args below meth c R H locs cells slots lsA C r S hv hc hs hex
  exact ma_ret (by omega) (by omega) (W.aret C.1 C.2.1 (C.2.2.1.trans hr) hty (Or.inr ⟨x, rfl⟩) (fun t ht hW => ma_end hfe hk hc hex r S q ht hW) S.2.2 d C.2.2.2.1)
theorem ev_ret (d : decode (m_c M) pc = .ok (.return_, 1)) (hr : m_r M = none) (hfe : h.1.1 = fe) (hk : fe = true → k = 0) (q : Q none h) : ma_Ev G F Lc k n M pc ls [] h (ma_zr G fe Q) := by
  intro p e s m args below meth c R H locs cells slots lsA C r S hv hc hs hex
  exact ma_ret (by omega) (by omega) (W.vret C.1 C.2.1 (C.2.2.1.trans hr) (fun t ht hW => ma_end hfe hk hc hex r S q ht hW) S.2.2 d C.2.2.2.1)
end EV
