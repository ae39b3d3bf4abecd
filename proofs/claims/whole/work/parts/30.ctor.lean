/-! ===== constructors: the store grows cell by cell along q_SH; printed by gen30.py ===== -/
def q_c (n : Nat) (f : q_F) (R : Nat → Nat → Option Nat) : ma_H := ((true, q_SH.take n), f, fun _ _ => 0, R)
theorem q_SHl : q_SH.length = 98 := by decide +kernel
theorem q_clt {a : Nat} {s : ma_S} (h : q_SH[a]? = some s) : a < 98 := by
  have := (List.getElem?_eq_some_iff.mp h).1
  rw [q_SHl] at this
  exact this
theorem q_cl {n : Nat} (h : n ≤ 98) : (q_SH.take n).length = n := by
  rw [List.length_take, q_SHl]
  omega
theorem q_cs {n a : Nat} {s : ma_S} (h : q_SH[a]? = some s) (hn : a < n) : (q_SH.take n)[a]? = some s := by
  rw [List.getElem?_take_of_lt hn]
  exact h
theorem q_cn {n : Nat} {s : ma_S} {f : q_F} {R : Nat → Nat → Option Nat} (h : q_SH[n]? = some s) : ma_new (q_c n f R) s = q_c (n + 1) (ma_clr f n 0) (ma_clr R n none) := by
  have hl : (q_SH.take n).length = n := q_cl (Nat.le_of_lt (q_clt h))
  have e1 : q_SH.take n ++ [s] = q_SH.take (n + 1) := by
    rw [List.take_succ, h]
    rfl
  have e2 : ma_clr (fun _ _ : Nat => (0 : Int)) n 0 = fun _ _ => 0 := by
    funext a k
    simp [ma_clr]
  simp only [ma_new, q_c, hl, e1, e2]
def q_cQ (n : Nat) (f : q_F) (R : Nat → Nat → Option Nat) : Option Value → ma_H → Prop := fun r h => r = none ∧ h = q_c n f R
section EC
variable {t : q_V} {F Lc k n : Nat} {M M1 : ma_M} {pc : Nat} {ls : List (Nat × Value)} {st : List Value} {f : q_F} {R : Nat → Nat → Option Nat} {c : Nat} {Z : ma_Z}
theorem ec_new (ok : ma_ok (q_G t)) {index ci N : Nat} {r0 : vw_C} (f1 : q_F) (R1 : Nat → Nat → Option Nat) (dc : decode (m_c M) pc = .ok (.new index, 3)) (hs : q_SH[c]? = some (.inl ci)) (hci : q_CL[ci]? = some r0) (hN : r0.2.2 = N) (hdf : ma_def r0) (w1 : Cond.classLink (m_y M).cls index r0.1 ∈ q_WS) (w2 : Cond.instantiable r0.1 r0.2.2 ∈ q_WS) (w3 : Cond.initialized r0.1 ∈ q_WS) (e1 : ma_clr f c 0 = f1) (e2 : ma_clr R c none = R1)
    (E : ma_Ev (q_G t) F Lc k n M (pc + 3) ls (q_a t c :: st) (q_c (c + 1) f1 R1) Z) : ma_Ev (q_G t) F Lc (k + 1) (n + N) M pc ls st (q_c c f R) Z := by
  subst e1
  subst e2
  have hl : (q_c c f R).1.2.length = c := q_cl (Nat.le_of_lt (q_clt hs))
  refine ev_new ok dc rfl (by rw [hl]; exact q_clt hs) hci hN hdf w1 w2 w3 ?_
  rw [hl, q_cn hs]
  exact E
theorem ec_newa {ty : FieldType} {atype : ArrayType} {len : Nat} {z : Int} (f1 : q_F) (R1 : Nat → Nat → Option Nat) (dc : decode (m_c M) pc = .ok (.newarray atype, 2)) (hs : q_SH[c]? = some (.inr (ty, len))) (hty : newarray.typeOf atype = ty) (hk9 : ma_ai ty = true ∨ ty = .long) (hz0 : z = len) (hl9 : len ≤ 100000) (w1 : Cond.arrayClass ty ∈ q_WS) (e1 : ma_clr f c 0 = f1) (e2 : ma_clr R c none = R1)
    (E : ma_Ev (q_G t) F Lc k n M (pc + 2) ls (q_a t c :: st) (q_c (c + 1) f1 R1) Z) : ma_Ev (q_G t) F Lc (k + 1) (n + len) M pc ls (ma_i z :: st) (q_c c f R) Z := by
  subst e1
  subst e2
  have hl : (q_c c f R).1.2.length = c := q_cl (Nat.le_of_lt (q_clt hs))
  refine ev_newa dc rfl (by rw [hl]; exact q_clt hs) hty hk9 hz0 hl9 w1 ?_
  rw [hl, q_cn hs]
  exact E
theorem ec_newq {index len : Nat} {z : Int} {C0 : String} (f1 : q_F) (R1 : Nat → Nat → Option Nat) (dc : decode (m_c M) pc = .ok (.anewarray index, 3)) (hs : q_SH[c]? = some (.inr (.object C0, len))) (hz0 : z = len) (hl9 : len ≤ 100000) (w1 : Cond.classLink (m_y M).cls index C0 ∈ q_WS) (w2 : C0 ∈ q_AO) (e1 : ma_clr f c 0 = f1) (e2 : ma_clr R c none = R1)
    (E : ma_Ev (q_G t) F Lc k n M (pc + 3) ls (q_a t c :: st) (q_c (c + 1) f1 R1) Z) : ma_Ev (q_G t) F Lc (k + 1) (n + len) M pc ls (ma_i z :: st) (q_c c f R) Z := by
  subst e1
  subst e2
  have hl : (q_c c f R).1.2.length = c := q_cl (Nat.le_of_lt (q_clt hs))
  refine ev_newq dc rfl (by rw [hl]; exact q_clt hs) hz0 hl9 w1 (fun s h => h.2.1 C0 w2) ?_
  rw [hl, q_cn hs]
  exact E
theorem ec_puti (ok : ma_ok (q_G t)) {index ci fk a : Nat} {d : String} {z : Int} (f1 : q_F) (f9 : ma_FL (q_G t) (m_y M).cls index ci fk d false) (hd : ma_int d = true) (hf : ma_fit d (ma_i z)) (dc : decode (m_c M) pc = .ok (.putfield index, 3)) (ha : q_SH[a]? = some (.inl ci)) (hc : a < c) (e1 : ma_up f a fk z = f1)
    (E : ma_Ev (q_G t) F Lc k n M (pc + 3) ls st (q_c c f1 R) Z) : ma_Ev (q_G t) F Lc k n M pc ls (ma_i z :: q_a t a :: st) (q_c c f R) Z := by
  subst e1
  exact ev_puti ok f9 hd hf dc (q_cs ha hc) E
theorem ec_putr (ok : ma_ok (q_G t)) {index ci fk a q : Nat} {d : String} {r0 : vw_C} (R1 : Nat → Nat → Option Nat) (f9 : ma_FO (q_G t) (m_y M).cls index ci fk d true) (hci : q_CL[ci]? = some r0) (hown : r0.1 = (m_y M).cls) (hini : (m_y M).name = "<init>") (hd : ma_int d = false) (hf : ∀ x, ma_fit d (.ref x)) (dc : decode (m_c M) pc = .ok (.putfield index, 3)) (ha : q_SH[a]? = some (.inl ci)) (hc : a < c) (e1 : ma_up R a fk (some q) = R1)
    (E : ma_Ev (q_G t) F Lc k n M (pc + 3) ls st (q_c c f R1) Z) : ma_Ev (q_G t) F Lc k n M pc ls (q_a t q :: q_a t a :: st) (q_c c f R) Z := by
  subst e1
  exact ev_putFr ok f9 (fun r hr => by cases Option.some.inj (hci.symm.trans hr); exact hown) hini hd (hf _) dc (q_cs ha hc) E
theorem ec_getr (ok : ma_ok (q_G t)) {index ci fk a q : Nat} {d : String} {fin : Bool} (f9 : ma_FL (q_G t) (m_y M).cls index ci fk d fin) (hd : ma_int d = false) (dc : decode (m_c M) pc = .ok (.getfield index, 3)) (ha : q_SH[a]? = some (.inl ci)) (hc : a < c) (hq : R a fk = some q) (E : ma_Ev (q_G t) F Lc k n M (pc + 3) ls (q_a t q :: st) (q_c c f R) Z) : ma_Ev (q_G t) F Lc k n M pc ls (q_a t a :: st) (q_c c f R) Z := ev_getr ok f9 hd dc (q_cs ha hc) hq E
theorem ec_aast {a len q ci j : Nat} {z : Int} {rc : vw_C} (R1 : Nat → Nat → Option Nat) (dc : decode (m_c M) pc = .ok (.aastore, 1)) (ha : q_SH[a]? = some (.inr (.object rc.1, len))) (hc : a < c) (h0 : 0 ≤ z) (h1 : z < len) (h2 : len ≤ 2147483647) (hq : q_SH[q]? = some (.inl ci)) (hqc : q < c) (hci : q_CL[ci]? = some rc) (hj : z.toNat = j) (e1 : ma_up R a j (some q) = R1) (E : ma_Ev (q_G t) F Lc k n M (pc + 1) ls st (q_c c f R1) Z) : ma_Ev (q_G t) F Lc k n M pc ls (q_a t q :: ma_i z :: q_a t a :: st) (q_c c f R) Z := by
  subst hj
  subst e1
  exact ev_aast dc (q_cs ha hc) h0 h1 h2 (q_cs hq hqc) hci E
theorem ec_iast {a len j : Nat} {z x : Int} (f1 : q_F) (dc : decode (m_c M) pc = .ok (.iastore, 1)) (ha : q_SH[a]? = some (.inr (.int, len))) (hc : a < c) (h0 : 0 ≤ z) (h1 : z < len) (h2 : len ≤ 2147483647) (hj : z.toNat = j) (e1 : ma_up f a j x = f1) (E : ma_Ev (q_G t) F Lc k n M (pc + 1) ls st (q_c c f1 R) Z) : ma_Ev (q_G t) F Lc k n M pc ls (ma_i x :: ma_i z :: q_a t a :: st) (q_c c f R) Z := by
  subst hj
  subst e1
  exact ev_iast dc (q_cs ha hc) h0 h1 h2 E
theorem ec_aload_n {j : Fin 4} {i a : Nat} (d : decode (m_c M) pc = .ok (.aload_n j, 1)) (hi : (j : Nat) = i) (hl : ls.lookup i = some (q_a t a)) (E : ma_Ev (q_G t) F Lc k n M (pc + 1) ls (q_a t a :: st) (q_c c f R) Z) : ma_Ev (q_G t) F Lc k n M pc ls st (q_c c f R) Z := ev_aload_n d hi hl E
theorem ec_obj {index a : Nat} (dc : decode (m_c M) pc = .ok (.invokespecial index, 3)) (w1 : Cond.methodLink (m_y M).cls index Lib.objectInit ∈ q_WS) (hF : 1 ≤ F) (hr : (st.map fun v => v.category).sum ≤ 8) (hL : 20 ≤ Lc) (E : ma_Ev (q_G t) F Lc k n M (pc + 3) ls st (q_c c f R) Z) : ma_Ev (q_G t) F Lc k n M pc ls (q_a t a :: st) (q_c c f R) Z :=
  ev_obj dc w1 (q_in 28 (by decide +kernel) rfl) (q_in 29 (by decide +kernel) (by decide +kernel)) hF hr hL E
theorem ec_callI (ok : ma_ok (q_G t)) {np index F1 L1 mc ms a c1 : Nat} {f1 : q_F} {R1 : Nat → Nat → Option Nat} (As rest : List Value) {st0 : List Value} (f9 : ma_CI (q_G t) (m_y M).cls index M1 np) (dc : decode (m_c M) pc = .ok (.invokespecial index, 3)) (hM : ma_Met (q_G t) true F1 L1 mc ms M1 (q_a t a :: As) (q_c c f R) (q_cQ c1 f1 R1)) (hst : st0 = As.reverse ++ q_a t a :: rest) (hn : As.length = np) (hF : F1 + 1 ≤ F) (hL : 8 + (m_n M1 + 11) + L1 ≤ Lc) (hr : (rest.map fun v => v.category).sum ≤ 8)
    (E : ma_Ev (q_G t) F Lc k n M (pc + 3) ls rest (q_c c1 f1 R1) Z) : ma_Ev (q_G t) F Lc (k + mc) (n + ms) M pc ls st0 (q_c c f R) Z := by
  refine ev_callI ok As rest f9 dc hM hst hn hF hL hr ?_
  intro v h' hq _
  obtain ⟨e1, e2⟩ := hq
  subst e1
  subst e2
  exact E
theorem ec_ret (d : decode (m_c M) pc = .ok (.return_, 1)) (hr : m_r M = none) : ma_Ev (q_G t) F Lc 0 n M pc ls [] (q_c c f R) (ma_zr (q_G t) true (q_cQ c f R)) :=
  ev_ret d hr rfl (fun _ => rfl) ⟨rfl, rfl⟩
end EC
theorem q_df0 : ma_def ("LayoutDesk", q_T0, 8) := by
  have h : ∀ j, j < 8 → (parseFieldDescriptor (q_T0 j).2.2.1).map defaultValue = some (if ma_int (q_T0 j).2.2.1 = true then .int 0 else .null) := by decide +kernel
  exact h
theorem q_df1 : ma_def ("LayoutDesk$Script", q_T1, 2) := by
  have h : ∀ j, j < 2 → (parseFieldDescriptor (q_T1 j).2.2.1).map defaultValue = some (if ma_int (q_T1 j).2.2.1 = true then .int 0 else .null) := by decide +kernel
  exact h
theorem q_df2 : ma_def ("LayoutDesk$Input", q_T2, 5) := by
  have h : ∀ j, j < 5 → (parseFieldDescriptor (q_T2 j).2.2.1).map defaultValue = some (if ma_int (q_T2 j).2.2.1 = true then .int 0 else .null) := by decide +kernel
  exact h
theorem q_df3 : ma_def ("LayoutDesk$Region", q_T3, 3) := by
  have h : ∀ j, j < 3 → (parseFieldDescriptor (q_T3 j).2.2.1).map defaultValue = some (if ma_int (q_T3 j).2.2.1 = true then .int 0 else .null) := by decide +kernel
  exact h
theorem q_df4 : ma_def ("LayoutDesk$Section", q_T4, 12) := by
  have h : ∀ j, j < 12 → (parseFieldDescriptor (q_T4 j).2.2.1).map defaultValue = some (if ma_int (q_T4 j).2.2.1 = true then .int 0 else .null) := by decide +kernel
  exact h
theorem q_df5 : ma_def ("LayoutDesk$Symbol", q_T5, 5) := by
  have h : ∀ j, j < 5 → (parseFieldDescriptor (q_T5 j).2.2.1).map defaultValue = some (if ma_int (q_T5 j).2.2.1 = true then .int 0 else .null) := by decide +kernel
  exact h
theorem q_df6 : ma_def ("LayoutDesk$Rows", q_T6, 3) := by
  have h : ∀ j, j < 3 → (parseFieldDescriptor (q_T6 j).2.2.1).map defaultValue = some (if ma_int (q_T6 j).2.2.1 = true then .int 0 else .null) := by decide +kernel
  exact h
theorem q_df7 : ma_def ("LayoutDesk$Plan", q_T7, 10) := by
  have h : ∀ j, j < 10 → (parseFieldDescriptor (q_T7 j).2.2.1).map defaultValue = some (if ma_int (q_T7 j).2.2.1 = true then .int 0 else .null) := by decide +kernel
  exact h
theorem q_df8 : ma_def ("LayoutDesk$Reader", q_T8, 4) := by
  have h : ∀ j, j < 4 → (parseFieldDescriptor (q_T8 j).2.2.1).map defaultValue = some (if ma_int (q_T8 j).2.2.1 = true then .int 0 else .null) := by decide +kernel
  exact h
theorem q_df9 : ma_def ("LayoutDesk$Reckoner", q_T9, 3) := by
  have h : ∀ j, j < 3 → (parseFieldDescriptor (q_T9 j).2.2.1).map defaultValue = some (if ma_int (q_T9 j).2.2.1 = true then .int 0 else .null) := by decide +kernel
  exact h
theorem q_df10 : ma_def ("LayoutDesk$Judge", q_T10, 1) := by
  have h : ∀ j, j < 1 → (parseFieldDescriptor (q_T10 j).2.2.1).map defaultValue = some (if ma_int (q_T10 j).2.2.1 = true then .int 0 else .null) := by decide +kernel
  exact h
theorem q_df11 : ma_def ("LayoutDesk$Memory", q_T11, 1) := by
  have h : ∀ j, j < 1 → (parseFieldDescriptor (q_T11 j).2.2.1).map defaultValue = some (if ma_int (q_T11 j).2.2.1 = true then .int 0 else .null) := by decide +kernel
  exact h
theorem q_df12 : ma_def ("LayoutDeskModel", q_T12, 47) := by
  have h : ∀ j, j < 47 → (parseFieldDescriptor (q_T12 j).2.2.1).map defaultValue = some (if ma_int (q_T12 j).2.2.1 = true then .int 0 else .null) := by decide +kernel
  exact h
def cz_f0 : q_F := fun _ _ => 0
def cz_R0 : Nat → Nat → Option Nat := fun _ _ => none
def cz_fD : q_F := ma_clr cz_f0 0 0
def cz_RD : Nat → Nat → Option Nat := ma_clr cz_R0 0 none
theorem d_Desk_init_0 : decode (m_c m_Desk_init) 0 = .ok (.aload_n 0, 1) := by decide +kernel
theorem d_Desk_init_1 : decode (m_c m_Desk_init) 1 = .ok (.invokespecial 1, 3) := by decide +kernel
theorem d_Desk_init_4 : decode (m_c m_Desk_init) 4 = .ok (.aload_n 0, 1) := by decide +kernel
theorem d_Desk_init_5 : decode (m_c m_Desk_init) 5 = .ok (.new 7, 3) := by decide +kernel
theorem d_Desk_init_8 : decode (m_c m_Desk_init) 8 = .ok (.dup, 1) := by decide +kernel
theorem d_Desk_init_9 : decode (m_c m_Desk_init) 9 = .ok (.invokespecial 9, 3) := by decide +kernel
theorem d_Desk_init_12 : decode (m_c m_Desk_init) 12 = .ok (.putfield 10, 3) := by decide +kernel
theorem d_Desk_init_15 : decode (m_c m_Desk_init) 15 = .ok (.aload_n 0, 1) := by decide +kernel
theorem d_Desk_init_16 : decode (m_c m_Desk_init) 16 = .ok (.new 16, 3) := by decide +kernel
theorem d_Desk_init_19 : decode (m_c m_Desk_init) 19 = .ok (.dup, 1) := by decide +kernel
theorem d_Desk_init_20 : decode (m_c m_Desk_init) 20 = .ok (.invokespecial 18, 3) := by decide +kernel
theorem d_Desk_init_23 : decode (m_c m_Desk_init) 23 = .ok (.putfield 19, 3) := by decide +kernel
theorem d_Desk_init_26 : decode (m_c m_Desk_init) 26 = .ok (.aload_n 0, 1) := by decide +kernel
theorem d_Desk_init_27 : decode (m_c m_Desk_init) 27 = .ok (.new 23, 3) := by decide +kernel
theorem d_Desk_init_30 : decode (m_c m_Desk_init) 30 = .ok (.dup, 1) := by decide +kernel
theorem d_Desk_init_31 : decode (m_c m_Desk_init) 31 = .ok (.aload_n 0, 1) := by decide +kernel
theorem d_Desk_init_32 : decode (m_c m_Desk_init) 32 = .ok (.getfield 10, 3) := by decide +kernel
theorem d_Desk_init_35 : decode (m_c m_Desk_init) 35 = .ok (.aload_n 0, 1) := by decide +kernel
theorem d_Desk_init_36 : decode (m_c m_Desk_init) 36 = .ok (.getfield 19, 3) := by decide +kernel
theorem d_Desk_init_39 : decode (m_c m_Desk_init) 39 = .ok (.invokespecial 25, 3) := by decide +kernel
theorem d_Desk_init_42 : decode (m_c m_Desk_init) 42 = .ok (.putfield 28, 3) := by decide +kernel
theorem d_Desk_init_45 : decode (m_c m_Desk_init) 45 = .ok (.aload_n 0, 1) := by decide +kernel
theorem d_Desk_init_46 : decode (m_c m_Desk_init) 46 = .ok (.new 32, 3) := by decide +kernel
theorem d_Desk_init_49 : decode (m_c m_Desk_init) 49 = .ok (.dup, 1) := by decide +kernel
theorem d_Desk_init_50 : decode (m_c m_Desk_init) 50 = .ok (.aload_n 0, 1) := by decide +kernel
theorem d_Desk_init_51 : decode (m_c m_Desk_init) 51 = .ok (.getfield 19, 3) := by decide +kernel
theorem d_Desk_init_54 : decode (m_c m_Desk_init) 54 = .ok (.invokespecial 34, 3) := by decide +kernel
theorem d_Desk_init_57 : decode (m_c m_Desk_init) 57 = .ok (.putfield 37, 3) := by decide +kernel
theorem d_Desk_init_60 : decode (m_c m_Desk_init) 60 = .ok (.aload_n 0, 1) := by decide +kernel
theorem d_Desk_init_61 : decode (m_c m_Desk_init) 61 = .ok (.new 41, 3) := by decide +kernel
theorem d_Desk_init_64 : decode (m_c m_Desk_init) 64 = .ok (.dup, 1) := by decide +kernel
theorem d_Desk_init_65 : decode (m_c m_Desk_init) 65 = .ok (.aload_n 0, 1) := by decide +kernel
theorem d_Desk_init_66 : decode (m_c m_Desk_init) 66 = .ok (.getfield 19, 3) := by decide +kernel
theorem d_Desk_init_69 : decode (m_c m_Desk_init) 69 = .ok (.invokespecial 43, 3) := by decide +kernel
theorem d_Desk_init_72 : decode (m_c m_Desk_init) 72 = .ok (.putfield 44, 3) := by decide +kernel
theorem d_Desk_init_75 : decode (m_c m_Desk_init) 75 = .ok (.aload_n 0, 1) := by decide +kernel
theorem d_Desk_init_76 : decode (m_c m_Desk_init) 76 = .ok (.new 48, 3) := by decide +kernel
theorem d_Desk_init_79 : decode (m_c m_Desk_init) 79 = .ok (.dup, 1) := by decide +kernel
theorem d_Desk_init_80 : decode (m_c m_Desk_init) 80 = .ok (.invokespecial 50, 3) := by decide +kernel
theorem d_Desk_init_83 : decode (m_c m_Desk_init) 83 = .ok (.putfield 51, 3) := by decide +kernel
theorem d_Desk_init_86 : decode (m_c m_Desk_init) 86 = .ok (.aload_n 0, 1) := by decide +kernel
theorem d_Desk_init_87 : decode (m_c m_Desk_init) 87 = .ok (.iconst 0, 1) := by decide +kernel
theorem d_Desk_init_88 : decode (m_c m_Desk_init) 88 = .ok (.putfield 55, 3) := by decide +kernel
theorem d_Desk_init_91 : decode (m_c m_Desk_init) 91 = .ok (.aload_n 0, 1) := by decide +kernel
theorem d_Desk_init_92 : decode (m_c m_Desk_init) 92 = .ok (.iconst (-1), 1) := by decide +kernel
theorem d_Desk_init_93 : decode (m_c m_Desk_init) 93 = .ok (.putfield 59, 3) := by decide +kernel
theorem d_Desk_init_96 : decode (m_c m_Desk_init) 96 = .ok (.return_, 1) := by decide +kernel
def cz_f1 : q_F := ma_clr cz_fD 1 0
def cz_R2 : Nat → Nat → Option Nat := ma_clr cz_RD 1 none
theorem d_Script_init_0 : decode (m_c m_Script_init) 0 = .ok (.aload_n 0, 1) := by decide +kernel
theorem d_Script_init_1 : decode (m_c m_Script_init) 1 = .ok (.invokespecial 3, 3) := by decide +kernel
theorem d_Script_init_4 : decode (m_c m_Script_init) 4 = .ok (.aload_n 0, 1) := by decide +kernel
theorem d_Script_init_5 : decode (m_c m_Script_init) 5 = .ok (.sipush 160, 3) := by decide +kernel
theorem d_Script_init_8 : decode (m_c m_Script_init) 8 = .ok (.newarray .char, 2) := by decide +kernel
theorem d_Script_init_10 : decode (m_c m_Script_init) 10 = .ok (.putfield 9, 3) := by decide +kernel
theorem d_Script_init_13 : decode (m_c m_Script_init) 13 = .ok (.aload_n 0, 1) := by decide +kernel
theorem d_Script_init_14 : decode (m_c m_Script_init) 14 = .ok (.iconst 0, 1) := by decide +kernel
theorem d_Script_init_15 : decode (m_c m_Script_init) 15 = .ok (.putfield 15, 3) := by decide +kernel
theorem d_Script_init_18 : decode (m_c m_Script_init) 18 = .ok (.return_, 1) := by decide +kernel
theorem t_Script_init (t : q_V) (ok : ma_ok (q_G t)) (f : q_F) (R : Nat → Nat → Option Nat) : ma_Met (q_G t) true 1 20 1 160 m_Script_init [q_a t 1] (q_c 2 f R) (q_cQ 3 (ma_up (ma_clr f 2 0) 1 1 (0)) (ma_up (ma_clr R 2 none) 1 0 (some 2))) := by
  refine ma_met (by decide +kernel) (q_ble rfl) rfl ?_
  change ma_Ev (q_G t) 1 20 1 160 m_Script_init 0 [(0, q_a t 1)] [] (q_c 2 f R) (ma_zr (q_G t) true (q_cQ 3 (ma_up (ma_clr f 2 0) 1 1 (0)) (ma_up (ma_clr R 2 none) 1 0 (some 2))))
  refine ec_aload_n (pc := 0) d_Script_init_0 rfl rfl ?_
  refine ec_obj (pc := 1) d_Script_init_1 (q_in 35 (by decide +kernel) rfl) (by decide) (by decide) (by decide) ?_
  refine ec_aload_n (pc := 4) d_Script_init_4 rfl rfl ?_
  refine ev_sipush (pc := 5) d_Script_init_5 rfl ?_
  refine ec_newa (pc := 8) (k := 0) (n := 0) (ma_clr f 2 0) (ma_clr R 2 none) d_Script_init_8 s_2 rfl (.inl rfl) (by decide) (by decide) (q_in 46 (by decide +kernel) rfl) rfl rfl ?_
  refine ec_putr (pc := 10) ok (ma_up (ma_clr R 2 none) 1 0 (some 2)) (fo_Script_9 t) k_1 rfl rfl rfl (fun _ => ⟨.array (.char), by decide +kernel, rfl, rfl⟩) d_Script_init_10 s_1 (by decide) rfl ?_
  refine ec_aload_n (pc := 13) d_Script_init_13 rfl rfl ?_
  refine ev_iconst (pc := 14) d_Script_init_14  ?_
  refine ec_puti (pc := 15) ok (ma_up (ma_clr f 2 0) 1 1 (0)) (fl_Script_15 t) rfl ⟨.int, by decide +kernel, rfl, rfl⟩ d_Script_init_15 s_1 (by decide) rfl ?_
  exact ec_ret (pc := 18) d_Script_init_18 rfl
def cz_f3 : q_F := (ma_up (ma_clr cz_f1 2 0) 1 1 (0))
def cz_R4 : Nat → Nat → Option Nat := (ma_up (ma_clr cz_R2 2 none) 1 0 (some 2))
def cz_R5 : Nat → Nat → Option Nat := ma_up cz_R4 0 0 (some 1)
def cz_f6 : q_F := ma_clr cz_f3 3 0
def cz_R7 : Nat → Nat → Option Nat := ma_clr cz_R5 3 none
theorem d_Plan_init_0 : decode (m_c m_Plan_init) 0 = .ok (.aload_n 0, 1) := by decide +kernel
theorem d_Plan_init_1 : decode (m_c m_Plan_init) 1 = .ok (.invokespecial 3, 3) := by decide +kernel
theorem d_Plan_init_4 : decode (m_c m_Plan_init) 4 = .ok (.aload_n 0, 1) := by decide +kernel
theorem d_Plan_init_5 : decode (m_c m_Plan_init) 5 = .ok (.bipush 8, 2) := by decide +kernel
theorem d_Plan_init_7 : decode (m_c m_Plan_init) 7 = .ok (.anewarray 9, 3) := by decide +kernel
theorem d_Plan_init_10 : decode (m_c m_Plan_init) 10 = .ok (.putfield 11, 3) := by decide +kernel
theorem d_Plan_init_13 : decode (m_c m_Plan_init) 13 = .ok (.aload_n 0, 1) := by decide +kernel
theorem d_Plan_init_14 : decode (m_c m_Plan_init) 14 = .ok (.iconst 4, 1) := by decide +kernel
theorem d_Plan_init_15 : decode (m_c m_Plan_init) 15 = .ok (.anewarray 17, 3) := by decide +kernel
theorem d_Plan_init_18 : decode (m_c m_Plan_init) 18 = .ok (.putfield 19, 3) := by decide +kernel
theorem d_Plan_init_21 : decode (m_c m_Plan_init) 21 = .ok (.aload_n 0, 1) := by decide +kernel
theorem d_Plan_init_22 : decode (m_c m_Plan_init) 22 = .ok (.bipush 8, 2) := by decide +kernel
theorem d_Plan_init_24 : decode (m_c m_Plan_init) 24 = .ok (.anewarray 23, 3) := by decide +kernel
theorem d_Plan_init_27 : decode (m_c m_Plan_init) 27 = .ok (.putfield 25, 3) := by decide +kernel
theorem d_Plan_init_30 : decode (m_c m_Plan_init) 30 = .ok (.aload_n 0, 1) := by decide +kernel
theorem d_Plan_init_31 : decode (m_c m_Plan_init) 31 = .ok (.bipush 18, 2) := by decide +kernel
theorem d_Plan_init_33 : decode (m_c m_Plan_init) 33 = .ok (.anewarray 29, 3) := by decide +kernel
theorem d_Plan_init_36 : decode (m_c m_Plan_init) 36 = .ok (.putfield 31, 3) := by decide +kernel
theorem d_Plan_init_39 : decode (m_c m_Plan_init) 39 = .ok (.aload_n 0, 1) := by decide +kernel
theorem d_Plan_init_40 : decode (m_c m_Plan_init) 40 = .ok (.new 35, 3) := by decide +kernel
theorem d_Plan_init_43 : decode (m_c m_Plan_init) 43 = .ok (.dup, 1) := by decide +kernel
theorem d_Plan_init_44 : decode (m_c m_Plan_init) 44 = .ok (.invokespecial 37, 3) := by decide +kernel
theorem d_Plan_init_47 : decode (m_c m_Plan_init) 47 = .ok (.putfield 38, 3) := by decide +kernel
theorem d_Plan_init_50 : decode (m_c m_Plan_init) 50 = .ok (.aload_n 0, 1) := by decide +kernel
theorem d_Plan_init_51 : decode (m_c m_Plan_init) 51 = .ok (.new 35, 3) := by decide +kernel
theorem d_Plan_init_54 : decode (m_c m_Plan_init) 54 = .ok (.dup, 1) := by decide +kernel
theorem d_Plan_init_55 : decode (m_c m_Plan_init) 55 = .ok (.invokespecial 37, 3) := by decide +kernel
theorem d_Plan_init_58 : decode (m_c m_Plan_init) 58 = .ok (.putfield 42, 3) := by decide +kernel
theorem d_Plan_init_61 : decode (m_c m_Plan_init) 61 = .ok (.aload_n 0, 1) := by decide +kernel
theorem d_Plan_init_62 : decode (m_c m_Plan_init) 62 = .ok (.bipush 8, 2) := by decide +kernel
theorem d_Plan_init_64 : decode (m_c m_Plan_init) 64 = .ok (.newarray .int, 2) := by decide +kernel
theorem d_Plan_init_66 : decode (m_c m_Plan_init) 66 = .ok (.putfield 45, 3) := by decide +kernel
theorem d_Plan_init_69 : decode (m_c m_Plan_init) 69 = .ok (.aload_n 0, 1) := by decide +kernel
theorem d_Plan_init_70 : decode (m_c m_Plan_init) 70 = .ok (.iconst 0, 1) := by decide +kernel
theorem d_Plan_init_71 : decode (m_c m_Plan_init) 71 = .ok (.putfield 49, 3) := by decide +kernel
theorem d_Plan_init_74 : decode (m_c m_Plan_init) 74 = .ok (.aload_n 0, 1) := by decide +kernel
theorem d_Plan_init_75 : decode (m_c m_Plan_init) 75 = .ok (.bipush 8, 2) := by decide +kernel
theorem d_Plan_init_77 : decode (m_c m_Plan_init) 77 = .ok (.newarray .int, 2) := by decide +kernel
theorem d_Plan_init_79 : decode (m_c m_Plan_init) 79 = .ok (.putfield 53, 3) := by decide +kernel
theorem d_Plan_init_82 : decode (m_c m_Plan_init) 82 = .ok (.aload_n 0, 1) := by decide +kernel
theorem d_Plan_init_83 : decode (m_c m_Plan_init) 83 = .ok (.iconst 0, 1) := by decide +kernel
theorem d_Plan_init_84 : decode (m_c m_Plan_init) 84 = .ok (.putfield 56, 3) := by decide +kernel
theorem d_Plan_init_87 : decode (m_c m_Plan_init) 87 = .ok (.iconst 0, 1) := by decide +kernel
theorem d_Plan_init_88 : decode (m_c m_Plan_init) 88 = .ok (.istore_n 1, 1) := by decide +kernel
theorem d_Plan_init_89 : decode (m_c m_Plan_init) 89 = .ok (.iload_n 1, 1) := by decide +kernel
theorem d_Plan_init_90 : decode (m_c m_Plan_init) 90 = .ok (.bipush 8, 2) := by decide +kernel
theorem d_Plan_init_92 : decode (m_c m_Plan_init) 92 = .ok (.if_icmp .ge 22, 3) := by decide +kernel
theorem d_Plan_init_95 : decode (m_c m_Plan_init) 95 = .ok (.aload_n 0, 1) := by decide +kernel
theorem d_Plan_init_96 : decode (m_c m_Plan_init) 96 = .ok (.getfield 11, 3) := by decide +kernel
theorem d_Plan_init_99 : decode (m_c m_Plan_init) 99 = .ok (.iload_n 1, 1) := by decide +kernel
theorem d_Plan_init_100 : decode (m_c m_Plan_init) 100 = .ok (.new 9, 3) := by decide +kernel
theorem d_Plan_init_103 : decode (m_c m_Plan_init) 103 = .ok (.dup, 1) := by decide +kernel
theorem d_Plan_init_104 : decode (m_c m_Plan_init) 104 = .ok (.invokespecial 59, 3) := by decide +kernel
theorem d_Plan_init_107 : decode (m_c m_Plan_init) 107 = .ok (.aastore, 1) := by decide +kernel
theorem d_Plan_init_108 : decode (m_c m_Plan_init) 108 = .ok (.iinc 1 1, 3) := by decide +kernel
theorem d_Plan_init_111 : decode (m_c m_Plan_init) 111 = .ok (.goto (-22), 3) := by decide +kernel
theorem d_Plan_init_114 : decode (m_c m_Plan_init) 114 = .ok (.iconst 0, 1) := by decide +kernel
theorem d_Plan_init_115 : decode (m_c m_Plan_init) 115 = .ok (.istore_n 1, 1) := by decide +kernel
theorem d_Plan_init_116 : decode (m_c m_Plan_init) 116 = .ok (.iload_n 1, 1) := by decide +kernel
theorem d_Plan_init_117 : decode (m_c m_Plan_init) 117 = .ok (.iconst 4, 1) := by decide +kernel
theorem d_Plan_init_118 : decode (m_c m_Plan_init) 118 = .ok (.if_icmp .ge 22, 3) := by decide +kernel
theorem d_Plan_init_121 : decode (m_c m_Plan_init) 121 = .ok (.aload_n 0, 1) := by decide +kernel
theorem d_Plan_init_122 : decode (m_c m_Plan_init) 122 = .ok (.getfield 19, 3) := by decide +kernel
theorem d_Plan_init_125 : decode (m_c m_Plan_init) 125 = .ok (.iload_n 1, 1) := by decide +kernel
theorem d_Plan_init_126 : decode (m_c m_Plan_init) 126 = .ok (.new 17, 3) := by decide +kernel
theorem d_Plan_init_129 : decode (m_c m_Plan_init) 129 = .ok (.dup, 1) := by decide +kernel
theorem d_Plan_init_130 : decode (m_c m_Plan_init) 130 = .ok (.invokespecial 60, 3) := by decide +kernel
theorem d_Plan_init_133 : decode (m_c m_Plan_init) 133 = .ok (.aastore, 1) := by decide +kernel
theorem d_Plan_init_134 : decode (m_c m_Plan_init) 134 = .ok (.iinc 1 1, 3) := by decide +kernel
theorem d_Plan_init_137 : decode (m_c m_Plan_init) 137 = .ok (.goto (-21), 3) := by decide +kernel
theorem d_Plan_init_140 : decode (m_c m_Plan_init) 140 = .ok (.iconst 0, 1) := by decide +kernel
theorem d_Plan_init_141 : decode (m_c m_Plan_init) 141 = .ok (.istore_n 1, 1) := by decide +kernel
theorem d_Plan_init_142 : decode (m_c m_Plan_init) 142 = .ok (.iload_n 1, 1) := by decide +kernel
theorem d_Plan_init_143 : decode (m_c m_Plan_init) 143 = .ok (.bipush 8, 2) := by decide +kernel
theorem d_Plan_init_145 : decode (m_c m_Plan_init) 145 = .ok (.if_icmp .ge 22, 3) := by decide +kernel
theorem d_Plan_init_148 : decode (m_c m_Plan_init) 148 = .ok (.aload_n 0, 1) := by decide +kernel
theorem d_Plan_init_149 : decode (m_c m_Plan_init) 149 = .ok (.getfield 25, 3) := by decide +kernel
theorem d_Plan_init_152 : decode (m_c m_Plan_init) 152 = .ok (.iload_n 1, 1) := by decide +kernel
theorem d_Plan_init_153 : decode (m_c m_Plan_init) 153 = .ok (.new 23, 3) := by decide +kernel
theorem d_Plan_init_156 : decode (m_c m_Plan_init) 156 = .ok (.dup, 1) := by decide +kernel
theorem d_Plan_init_157 : decode (m_c m_Plan_init) 157 = .ok (.invokespecial 61, 3) := by decide +kernel
theorem d_Plan_init_160 : decode (m_c m_Plan_init) 160 = .ok (.aastore, 1) := by decide +kernel
theorem d_Plan_init_161 : decode (m_c m_Plan_init) 161 = .ok (.iinc 1 1, 3) := by decide +kernel
theorem d_Plan_init_164 : decode (m_c m_Plan_init) 164 = .ok (.goto (-22), 3) := by decide +kernel
theorem d_Plan_init_167 : decode (m_c m_Plan_init) 167 = .ok (.iconst 0, 1) := by decide +kernel
theorem d_Plan_init_168 : decode (m_c m_Plan_init) 168 = .ok (.istore_n 1, 1) := by decide +kernel
theorem d_Plan_init_169 : decode (m_c m_Plan_init) 169 = .ok (.iload_n 1, 1) := by decide +kernel
theorem d_Plan_init_170 : decode (m_c m_Plan_init) 170 = .ok (.bipush 18, 2) := by decide +kernel
theorem d_Plan_init_172 : decode (m_c m_Plan_init) 172 = .ok (.if_icmp .ge 22, 3) := by decide +kernel
theorem d_Plan_init_175 : decode (m_c m_Plan_init) 175 = .ok (.aload_n 0, 1) := by decide +kernel
theorem d_Plan_init_176 : decode (m_c m_Plan_init) 176 = .ok (.getfield 31, 3) := by decide +kernel
theorem d_Plan_init_179 : decode (m_c m_Plan_init) 179 = .ok (.iload_n 1, 1) := by decide +kernel
theorem d_Plan_init_180 : decode (m_c m_Plan_init) 180 = .ok (.new 29, 3) := by decide +kernel
theorem d_Plan_init_183 : decode (m_c m_Plan_init) 183 = .ok (.dup, 1) := by decide +kernel
theorem d_Plan_init_184 : decode (m_c m_Plan_init) 184 = .ok (.invokespecial 62, 3) := by decide +kernel
theorem d_Plan_init_187 : decode (m_c m_Plan_init) 187 = .ok (.aastore, 1) := by decide +kernel
theorem d_Plan_init_188 : decode (m_c m_Plan_init) 188 = .ok (.iinc 1 1, 3) := by decide +kernel
theorem d_Plan_init_191 : decode (m_c m_Plan_init) 191 = .ok (.goto (-22), 3) := by decide +kernel
theorem d_Plan_init_194 : decode (m_c m_Plan_init) 194 = .ok (.return_, 1) := by decide +kernel
def cz_f8 : q_F := ma_clr cz_f6 4 0
def cz_R9 : Nat → Nat → Option Nat := ma_clr cz_R7 4 none
def cz_R10 : Nat → Nat → Option Nat := ma_up cz_R9 3 0 (some 4)
def cz_f11 : q_F := ma_clr cz_f8 5 0
def cz_R12 : Nat → Nat → Option Nat := ma_clr cz_R10 5 none
def cz_R13 : Nat → Nat → Option Nat := ma_up cz_R12 3 1 (some 5)
def cz_f14 : q_F := ma_clr cz_f11 6 0
def cz_R15 : Nat → Nat → Option Nat := ma_clr cz_R13 6 none
def cz_R16 : Nat → Nat → Option Nat := ma_up cz_R15 3 2 (some 6)
def cz_f17 : q_F := ma_clr cz_f14 7 0
def cz_R18 : Nat → Nat → Option Nat := ma_clr cz_R16 7 none
def cz_R19 : Nat → Nat → Option Nat := ma_up cz_R18 3 3 (some 7)
def cz_f20 : q_F := ma_clr cz_f17 8 0
def cz_R21 : Nat → Nat → Option Nat := ma_clr cz_R19 8 none
theorem d_Rows_init_0 : decode (m_c m_Rows_init) 0 = .ok (.aload_n 0, 1) := by decide +kernel
theorem d_Rows_init_1 : decode (m_c m_Rows_init) 1 = .ok (.invokespecial 3, 3) := by decide +kernel
theorem d_Rows_init_4 : decode (m_c m_Rows_init) 4 = .ok (.aload_n 0, 1) := by decide +kernel
theorem d_Rows_init_5 : decode (m_c m_Rows_init) 5 = .ok (.sipush 160, 3) := by decide +kernel
theorem d_Rows_init_8 : decode (m_c m_Rows_init) 8 = .ok (.newarray .int, 2) := by decide +kernel
theorem d_Rows_init_10 : decode (m_c m_Rows_init) 10 = .ok (.putfield 9, 3) := by decide +kernel
theorem d_Rows_init_13 : decode (m_c m_Rows_init) 13 = .ok (.aload_n 0, 1) := by decide +kernel
theorem d_Rows_init_14 : decode (m_c m_Rows_init) 14 = .ok (.sipush 160, 3) := by decide +kernel
theorem d_Rows_init_17 : decode (m_c m_Rows_init) 17 = .ok (.newarray .int, 2) := by decide +kernel
theorem d_Rows_init_19 : decode (m_c m_Rows_init) 19 = .ok (.putfield 15, 3) := by decide +kernel
theorem d_Rows_init_22 : decode (m_c m_Rows_init) 22 = .ok (.aload_n 0, 1) := by decide +kernel
theorem d_Rows_init_23 : decode (m_c m_Rows_init) 23 = .ok (.iconst 0, 1) := by decide +kernel
theorem d_Rows_init_24 : decode (m_c m_Rows_init) 24 = .ok (.putfield 18, 3) := by decide +kernel
theorem d_Rows_init_27 : decode (m_c m_Rows_init) 27 = .ok (.return_, 1) := by decide +kernel
theorem t_Rows_init_8 (t : q_V) (ok : ma_ok (q_G t)) (f : q_F) (R : Nat → Nat → Option Nat) : ma_Met (q_G t) true 1 20 2 320 m_Rows_init [q_a t 8] (q_c 9 f R) (q_cQ 11 (ma_up (ma_clr (ma_clr f 9 0) 10 0) 8 2 (0)) (ma_up (ma_clr (ma_up (ma_clr R 9 none) 8 0 (some 9)) 10 none) 8 1 (some 10))) := by
  refine ma_met (by decide +kernel) (q_ble rfl) rfl ?_
  change ma_Ev (q_G t) 1 20 2 320 m_Rows_init 0 [(0, q_a t 8)] [] (q_c 9 f R) (ma_zr (q_G t) true (q_cQ 11 (ma_up (ma_clr (ma_clr f 9 0) 10 0) 8 2 (0)) (ma_up (ma_clr (ma_up (ma_clr R 9 none) 8 0 (some 9)) 10 none) 8 1 (some 10))))
  refine ec_aload_n (pc := 0) d_Rows_init_0 rfl rfl ?_
  refine ec_obj (pc := 1) d_Rows_init_1 (q_in 66 (by decide +kernel) rfl) (by decide) (by decide) (by decide) ?_
  refine ec_aload_n (pc := 4) d_Rows_init_4 rfl rfl ?_
  refine ev_sipush (pc := 5) d_Rows_init_5 rfl ?_
  refine ec_newa (pc := 8) (k := 1) (n := 160) (ma_clr f 9 0) (ma_clr R 9 none) d_Rows_init_8 s_9 rfl (.inl rfl) (by decide) (by decide) (q_in 83 (by decide +kernel) rfl) rfl rfl ?_
  refine ec_putr (pc := 10) ok (ma_up (ma_clr R 9 none) 8 0 (some 9)) (fo_Rows_9 t) k_6 rfl rfl rfl (fun _ => ⟨.array (.int), by decide +kernel, rfl, rfl⟩) d_Rows_init_10 s_8 (by decide) rfl ?_
  refine ec_aload_n (pc := 13) d_Rows_init_13 rfl rfl ?_
  refine ev_sipush (pc := 14) d_Rows_init_14 rfl ?_
  refine ec_newa (pc := 17) (k := 0) (n := 0) (ma_clr (ma_clr f 9 0) 10 0) (ma_clr (ma_up (ma_clr R 9 none) 8 0 (some 9)) 10 none) d_Rows_init_17 s_10 rfl (.inl rfl) (by decide) (by decide) (q_in 83 (by decide +kernel) rfl) rfl rfl ?_
  refine ec_putr (pc := 19) ok (ma_up (ma_clr (ma_up (ma_clr R 9 none) 8 0 (some 9)) 10 none) 8 1 (some 10)) (fo_Rows_15 t) k_6 rfl rfl rfl (fun _ => ⟨.array (.int), by decide +kernel, rfl, rfl⟩) d_Rows_init_19 s_8 (by decide) rfl ?_
  refine ec_aload_n (pc := 22) d_Rows_init_22 rfl rfl ?_
  refine ev_iconst (pc := 23) d_Rows_init_23  ?_
  refine ec_puti (pc := 24) ok (ma_up (ma_clr (ma_clr f 9 0) 10 0) 8 2 (0)) (fl_Rows_18 t) rfl ⟨.int, by decide +kernel, rfl, rfl⟩ d_Rows_init_24 s_8 (by decide) rfl ?_
  exact ec_ret (pc := 27) d_Rows_init_27 rfl
def cz_f22 : q_F := (ma_up (ma_clr (ma_clr cz_f20 9 0) 10 0) 8 2 (0))
def cz_R23 : Nat → Nat → Option Nat := (ma_up (ma_clr (ma_up (ma_clr cz_R21 9 none) 8 0 (some 9)) 10 none) 8 1 (some 10))
def cz_R24 : Nat → Nat → Option Nat := ma_up cz_R23 3 4 (some 8)
def cz_f25 : q_F := ma_clr cz_f22 11 0
def cz_R26 : Nat → Nat → Option Nat := ma_clr cz_R24 11 none
theorem t_Rows_init_11 (t : q_V) (ok : ma_ok (q_G t)) (f : q_F) (R : Nat → Nat → Option Nat) : ma_Met (q_G t) true 1 20 2 320 m_Rows_init [q_a t 11] (q_c 12 f R) (q_cQ 14 (ma_up (ma_clr (ma_clr f 12 0) 13 0) 11 2 (0)) (ma_up (ma_clr (ma_up (ma_clr R 12 none) 11 0 (some 12)) 13 none) 11 1 (some 13))) := by
  refine ma_met (by decide +kernel) (q_ble rfl) rfl ?_
  change ma_Ev (q_G t) 1 20 2 320 m_Rows_init 0 [(0, q_a t 11)] [] (q_c 12 f R) (ma_zr (q_G t) true (q_cQ 14 (ma_up (ma_clr (ma_clr f 12 0) 13 0) 11 2 (0)) (ma_up (ma_clr (ma_up (ma_clr R 12 none) 11 0 (some 12)) 13 none) 11 1 (some 13))))
  refine ec_aload_n (pc := 0) d_Rows_init_0 rfl rfl ?_
  refine ec_obj (pc := 1) d_Rows_init_1 (q_in 66 (by decide +kernel) rfl) (by decide) (by decide) (by decide) ?_
  refine ec_aload_n (pc := 4) d_Rows_init_4 rfl rfl ?_
  refine ev_sipush (pc := 5) d_Rows_init_5 rfl ?_
  refine ec_newa (pc := 8) (k := 1) (n := 160) (ma_clr f 12 0) (ma_clr R 12 none) d_Rows_init_8 s_12 rfl (.inl rfl) (by decide) (by decide) (q_in 83 (by decide +kernel) rfl) rfl rfl ?_
  refine ec_putr (pc := 10) ok (ma_up (ma_clr R 12 none) 11 0 (some 12)) (fo_Rows_9 t) k_6 rfl rfl rfl (fun _ => ⟨.array (.int), by decide +kernel, rfl, rfl⟩) d_Rows_init_10 s_11 (by decide) rfl ?_
  refine ec_aload_n (pc := 13) d_Rows_init_13 rfl rfl ?_
  refine ev_sipush (pc := 14) d_Rows_init_14 rfl ?_
  refine ec_newa (pc := 17) (k := 0) (n := 0) (ma_clr (ma_clr f 12 0) 13 0) (ma_clr (ma_up (ma_clr R 12 none) 11 0 (some 12)) 13 none) d_Rows_init_17 s_13 rfl (.inl rfl) (by decide) (by decide) (q_in 83 (by decide +kernel) rfl) rfl rfl ?_
  refine ec_putr (pc := 19) ok (ma_up (ma_clr (ma_up (ma_clr R 12 none) 11 0 (some 12)) 13 none) 11 1 (some 13)) (fo_Rows_15 t) k_6 rfl rfl rfl (fun _ => ⟨.array (.int), by decide +kernel, rfl, rfl⟩) d_Rows_init_19 s_11 (by decide) rfl ?_
  refine ec_aload_n (pc := 22) d_Rows_init_22 rfl rfl ?_
  refine ev_iconst (pc := 23) d_Rows_init_23  ?_
  refine ec_puti (pc := 24) ok (ma_up (ma_clr (ma_clr f 12 0) 13 0) 11 2 (0)) (fl_Rows_18 t) rfl ⟨.int, by decide +kernel, rfl, rfl⟩ d_Rows_init_24 s_11 (by decide) rfl ?_
  exact ec_ret (pc := 27) d_Rows_init_27 rfl
def cz_f27 : q_F := (ma_up (ma_clr (ma_clr cz_f25 12 0) 13 0) 11 2 (0))
def cz_R28 : Nat → Nat → Option Nat := (ma_up (ma_clr (ma_up (ma_clr cz_R26 12 none) 11 0 (some 12)) 13 none) 11 1 (some 13))
def cz_R29 : Nat → Nat → Option Nat := ma_up cz_R28 3 5 (some 11)
def cz_f30 : q_F := ma_clr cz_f27 14 0
def cz_R31 : Nat → Nat → Option Nat := ma_clr cz_R29 14 none
def cz_R32 : Nat → Nat → Option Nat := ma_up cz_R31 3 6 (some 14)
def cz_f33 : q_F := ma_up cz_f30 3 7 (0)
def cz_f34 : q_F := ma_clr cz_f33 15 0
def cz_R35 : Nat → Nat → Option Nat := ma_clr cz_R32 15 none
def cz_R36 : Nat → Nat → Option Nat := ma_up cz_R35 3 8 (some 15)
def cz_f37 : q_F := ma_up cz_f34 3 9 (0)
def cz_f38 : q_F := ma_clr cz_f37 16 0
def cz_R39 : Nat → Nat → Option Nat := ma_clr cz_R36 16 none
theorem d_Input_init_0 : decode (m_c m_Input_init) 0 = .ok (.aload_n 0, 1) := by decide +kernel
theorem d_Input_init_1 : decode (m_c m_Input_init) 1 = .ok (.invokespecial 3, 3) := by decide +kernel
theorem d_Input_init_4 : decode (m_c m_Input_init) 4 = .ok (.aload_n 0, 1) := by decide +kernel
theorem d_Input_init_5 : decode (m_c m_Input_init) 5 = .ok (.iconst 0, 1) := by decide +kernel
theorem d_Input_init_6 : decode (m_c m_Input_init) 6 = .ok (.putfield 9, 3) := by decide +kernel
theorem d_Input_init_9 : decode (m_c m_Input_init) 9 = .ok (.aload_n 0, 1) := by decide +kernel
theorem d_Input_init_10 : decode (m_c m_Input_init) 10 = .ok (.iconst 1, 1) := by decide +kernel
theorem d_Input_init_11 : decode (m_c m_Input_init) 11 = .ok (.putfield 15, 3) := by decide +kernel
theorem d_Input_init_14 : decode (m_c m_Input_init) 14 = .ok (.aload_n 0, 1) := by decide +kernel
theorem d_Input_init_15 : decode (m_c m_Input_init) 15 = .ok (.iconst 0, 1) := by decide +kernel
theorem d_Input_init_16 : decode (m_c m_Input_init) 16 = .ok (.putfield 18, 3) := by decide +kernel
theorem d_Input_init_19 : decode (m_c m_Input_init) 19 = .ok (.aload_n 0, 1) := by decide +kernel
theorem d_Input_init_20 : decode (m_c m_Input_init) 20 = .ok (.iconst 0, 1) := by decide +kernel
theorem d_Input_init_21 : decode (m_c m_Input_init) 21 = .ok (.putfield 21, 3) := by decide +kernel
theorem d_Input_init_24 : decode (m_c m_Input_init) 24 = .ok (.aload_n 0, 1) := by decide +kernel
theorem d_Input_init_25 : decode (m_c m_Input_init) 25 = .ok (.iconst (-1), 1) := by decide +kernel
theorem d_Input_init_26 : decode (m_c m_Input_init) 26 = .ok (.putfield 25, 3) := by decide +kernel
theorem d_Input_init_29 : decode (m_c m_Input_init) 29 = .ok (.return_, 1) := by decide +kernel
theorem t_Input_init (t : q_V) (ok : ma_ok (q_G t)) {c : Nat} {a : Nat} (ha : q_SH[a]? = some (.inl 2)) (hc : a < c) (f : q_F) (R : Nat → Nat → Option Nat) : ma_Met (q_G t) true 1 20 0 0 m_Input_init [q_a t a] (q_c c f R) (q_cQ c (ma_up (ma_up (ma_up (ma_up (ma_up f a 0 (0)) a 1 (1)) a 2 (0)) a 3 (0)) a 4 (-1)) R) := by
  refine ma_met (by decide +kernel) (q_ble rfl) rfl ?_
  change ma_Ev (q_G t) 1 20 0 0 m_Input_init 0 [(0, q_a t a)] [] (q_c c f R) (ma_zr (q_G t) true (q_cQ c (ma_up (ma_up (ma_up (ma_up (ma_up f a 0 (0)) a 1 (1)) a 2 (0)) a 3 (0)) a 4 (-1)) R))
  refine ec_aload_n (pc := 0) d_Input_init_0 rfl rfl ?_
  refine ec_obj (pc := 1) d_Input_init_1 (q_in 88 (by decide +kernel) rfl) (by decide) (by decide) (by decide) ?_
  refine ec_aload_n (pc := 4) d_Input_init_4 rfl rfl ?_
  refine ev_iconst (pc := 5) d_Input_init_5  ?_
  refine ec_puti (pc := 6) ok (ma_up f a 0 (0)) (fl_Input_9 t) rfl ⟨.int, by decide +kernel, rfl, rfl⟩ d_Input_init_6 ha hc rfl ?_
  refine ec_aload_n (pc := 9) d_Input_init_9 rfl rfl ?_
  refine ev_iconst (pc := 10) d_Input_init_10  ?_
  refine ec_puti (pc := 11) ok (ma_up (ma_up f a 0 (0)) a 1 (1)) (fl_Input_15 t) rfl ⟨.int, by decide +kernel, rfl, rfl⟩ d_Input_init_11 ha hc rfl ?_
  refine ec_aload_n (pc := 14) d_Input_init_14 rfl rfl ?_
  refine ev_iconst (pc := 15) d_Input_init_15  ?_
  refine ec_puti (pc := 16) ok (ma_up (ma_up (ma_up f a 0 (0)) a 1 (1)) a 2 (0)) (fl_Input_18 t) rfl ⟨.int, by decide +kernel, rfl, rfl⟩ d_Input_init_16 ha hc rfl ?_
  refine ec_aload_n (pc := 19) d_Input_init_19 rfl rfl ?_
  refine ev_iconst (pc := 20) d_Input_init_20  ?_
  refine ec_puti (pc := 21) ok (ma_up (ma_up (ma_up (ma_up f a 0 (0)) a 1 (1)) a 2 (0)) a 3 (0)) (fl_Input_21 t) rfl (ma_fit_Z (by decide)) d_Input_init_21 ha hc rfl ?_
  refine ec_aload_n (pc := 24) d_Input_init_24 rfl rfl ?_
  refine ev_iconst (pc := 25) d_Input_init_25  ?_
  refine ec_puti (pc := 26) ok (ma_up (ma_up (ma_up (ma_up (ma_up f a 0 (0)) a 1 (1)) a 2 (0)) a 3 (0)) a 4 (-1)) (fl_Input_25 t) rfl ⟨.int, by decide +kernel, rfl, rfl⟩ d_Input_init_26 ha hc rfl ?_
  exact ec_ret (pc := 29) d_Input_init_29 rfl
def cz_f40 : q_F := (ma_up (ma_up (ma_up (ma_up (ma_up cz_f38 16 0 (0)) 16 1 (1)) 16 2 (0)) 16 3 (0)) 16 4 (-1))
def cz_R41 : Nat → Nat → Option Nat := ma_up cz_R39 4 0 (some 16)
def cz_f42 : q_F := ma_clr cz_f40 17 0
def cz_R43 : Nat → Nat → Option Nat := ma_clr cz_R41 17 none
def cz_f44 : q_F := (ma_up (ma_up (ma_up (ma_up (ma_up cz_f42 17 0 (0)) 17 1 (1)) 17 2 (0)) 17 3 (0)) 17 4 (-1))
def cz_R45 : Nat → Nat → Option Nat := ma_up cz_R43 4 1 (some 17)
def cz_f46 : q_F := ma_clr cz_f44 18 0
def cz_R47 : Nat → Nat → Option Nat := ma_clr cz_R45 18 none
def cz_f48 : q_F := (ma_up (ma_up (ma_up (ma_up (ma_up cz_f46 18 0 (0)) 18 1 (1)) 18 2 (0)) 18 3 (0)) 18 4 (-1))
def cz_R49 : Nat → Nat → Option Nat := ma_up cz_R47 4 2 (some 18)
def cz_f50 : q_F := ma_clr cz_f48 19 0
def cz_R51 : Nat → Nat → Option Nat := ma_clr cz_R49 19 none
def cz_f52 : q_F := (ma_up (ma_up (ma_up (ma_up (ma_up cz_f50 19 0 (0)) 19 1 (1)) 19 2 (0)) 19 3 (0)) 19 4 (-1))
def cz_R53 : Nat → Nat → Option Nat := ma_up cz_R51 4 3 (some 19)
def cz_f54 : q_F := ma_clr cz_f52 20 0
def cz_R55 : Nat → Nat → Option Nat := ma_clr cz_R53 20 none
def cz_f56 : q_F := (ma_up (ma_up (ma_up (ma_up (ma_up cz_f54 20 0 (0)) 20 1 (1)) 20 2 (0)) 20 3 (0)) 20 4 (-1))
def cz_R57 : Nat → Nat → Option Nat := ma_up cz_R55 4 4 (some 20)
def cz_f58 : q_F := ma_clr cz_f56 21 0
def cz_R59 : Nat → Nat → Option Nat := ma_clr cz_R57 21 none
def cz_f60 : q_F := (ma_up (ma_up (ma_up (ma_up (ma_up cz_f58 21 0 (0)) 21 1 (1)) 21 2 (0)) 21 3 (0)) 21 4 (-1))
def cz_R61 : Nat → Nat → Option Nat := ma_up cz_R59 4 5 (some 21)
def cz_f62 : q_F := ma_clr cz_f60 22 0
def cz_R63 : Nat → Nat → Option Nat := ma_clr cz_R61 22 none
def cz_f64 : q_F := (ma_up (ma_up (ma_up (ma_up (ma_up cz_f62 22 0 (0)) 22 1 (1)) 22 2 (0)) 22 3 (0)) 22 4 (-1))
def cz_R65 : Nat → Nat → Option Nat := ma_up cz_R63 4 6 (some 22)
def cz_f66 : q_F := ma_clr cz_f64 23 0
def cz_R67 : Nat → Nat → Option Nat := ma_clr cz_R65 23 none
def cz_f68 : q_F := (ma_up (ma_up (ma_up (ma_up (ma_up cz_f66 23 0 (0)) 23 1 (1)) 23 2 (0)) 23 3 (0)) 23 4 (-1))
def cz_R69 : Nat → Nat → Option Nat := ma_up cz_R67 4 7 (some 23)
def cz_f70 : q_F := ma_clr cz_f68 24 0
def cz_R71 : Nat → Nat → Option Nat := ma_clr cz_R69 24 none
theorem d_Region_init_0 : decode (m_c m_Region_init) 0 = .ok (.aload_n 0, 1) := by decide +kernel
theorem d_Region_init_1 : decode (m_c m_Region_init) 1 = .ok (.invokespecial 1, 3) := by decide +kernel
theorem d_Region_init_4 : decode (m_c m_Region_init) 4 = .ok (.aload_n 0, 1) := by decide +kernel
theorem d_Region_init_5 : decode (m_c m_Region_init) 5 = .ok (.iconst 0, 1) := by decide +kernel
theorem d_Region_init_6 : decode (m_c m_Region_init) 6 = .ok (.putfield 7, 3) := by decide +kernel
theorem d_Region_init_9 : decode (m_c m_Region_init) 9 = .ok (.aload_n 0, 1) := by decide +kernel
theorem d_Region_init_10 : decode (m_c m_Region_init) 10 = .ok (.iconst 0, 1) := by decide +kernel
theorem d_Region_init_11 : decode (m_c m_Region_init) 11 = .ok (.putfield 13, 3) := by decide +kernel
theorem d_Region_init_14 : decode (m_c m_Region_init) 14 = .ok (.aload_n 0, 1) := by decide +kernel
theorem d_Region_init_15 : decode (m_c m_Region_init) 15 = .ok (.iconst 0, 1) := by decide +kernel
theorem d_Region_init_16 : decode (m_c m_Region_init) 16 = .ok (.putfield 17, 3) := by decide +kernel
theorem d_Region_init_19 : decode (m_c m_Region_init) 19 = .ok (.return_, 1) := by decide +kernel
theorem t_Region_init (t : q_V) (ok : ma_ok (q_G t)) {c : Nat} {a : Nat} (ha : q_SH[a]? = some (.inl 3)) (hc : a < c) (f : q_F) (R : Nat → Nat → Option Nat) : ma_Met (q_G t) true 1 20 0 0 m_Region_init [q_a t a] (q_c c f R) (q_cQ c (ma_up (ma_up (ma_up f a 0 (0)) a 1 (0)) a 2 (0)) R) := by
  refine ma_met (by decide +kernel) (q_ble rfl) rfl ?_
  change ma_Ev (q_G t) 1 20 0 0 m_Region_init 0 [(0, q_a t a)] [] (q_c c f R) (ma_zr (q_G t) true (q_cQ c (ma_up (ma_up (ma_up f a 0 (0)) a 1 (0)) a 2 (0)) R))
  refine ec_aload_n (pc := 0) d_Region_init_0 rfl rfl ?_
  refine ec_obj (pc := 1) d_Region_init_1 (q_in 119 (by decide +kernel) rfl) (by decide) (by decide) (by decide) ?_
  refine ec_aload_n (pc := 4) d_Region_init_4 rfl rfl ?_
  refine ev_iconst (pc := 5) d_Region_init_5  ?_
  refine ec_puti (pc := 6) ok (ma_up f a 0 (0)) (fl_Region_7 t) rfl (ma_fit_Z (by decide)) d_Region_init_6 ha hc rfl ?_
  refine ec_aload_n (pc := 9) d_Region_init_9 rfl rfl ?_
  refine ev_iconst (pc := 10) d_Region_init_10  ?_
  refine ec_puti (pc := 11) ok (ma_up (ma_up f a 0 (0)) a 1 (0)) (fl_Region_13 t) rfl ⟨.int, by decide +kernel, rfl, rfl⟩ d_Region_init_11 ha hc rfl ?_
  refine ec_aload_n (pc := 14) d_Region_init_14 rfl rfl ?_
  refine ev_iconst (pc := 15) d_Region_init_15  ?_
  refine ec_puti (pc := 16) ok (ma_up (ma_up (ma_up f a 0 (0)) a 1 (0)) a 2 (0)) (fl_Region_17 t) rfl ⟨.int, by decide +kernel, rfl, rfl⟩ d_Region_init_16 ha hc rfl ?_
  exact ec_ret (pc := 19) d_Region_init_19 rfl
def cz_f72 : q_F := (ma_up (ma_up (ma_up cz_f70 24 0 (0)) 24 1 (0)) 24 2 (0))
def cz_R73 : Nat → Nat → Option Nat := ma_up cz_R71 5 0 (some 24)
def cz_f74 : q_F := ma_clr cz_f72 25 0
def cz_R75 : Nat → Nat → Option Nat := ma_clr cz_R73 25 none
def cz_f76 : q_F := (ma_up (ma_up (ma_up cz_f74 25 0 (0)) 25 1 (0)) 25 2 (0))
def cz_R77 : Nat → Nat → Option Nat := ma_up cz_R75 5 1 (some 25)
def cz_f78 : q_F := ma_clr cz_f76 26 0
def cz_R79 : Nat → Nat → Option Nat := ma_clr cz_R77 26 none
def cz_f80 : q_F := (ma_up (ma_up (ma_up cz_f78 26 0 (0)) 26 1 (0)) 26 2 (0))
def cz_R81 : Nat → Nat → Option Nat := ma_up cz_R79 5 2 (some 26)
def cz_f82 : q_F := ma_clr cz_f80 27 0
def cz_R83 : Nat → Nat → Option Nat := ma_clr cz_R81 27 none
def cz_f84 : q_F := (ma_up (ma_up (ma_up cz_f82 27 0 (0)) 27 1 (0)) 27 2 (0))
def cz_R85 : Nat → Nat → Option Nat := ma_up cz_R83 5 3 (some 27)
def cz_f86 : q_F := ma_clr cz_f84 28 0
def cz_R87 : Nat → Nat → Option Nat := ma_clr cz_R85 28 none
theorem d_Section_init_0 : decode (m_c m_Section_init) 0 = .ok (.aload_n 0, 1) := by decide +kernel
theorem d_Section_init_1 : decode (m_c m_Section_init) 1 = .ok (.invokespecial 3, 3) := by decide +kernel
theorem d_Section_init_4 : decode (m_c m_Section_init) 4 = .ok (.aload_n 0, 1) := by decide +kernel
theorem d_Section_init_5 : decode (m_c m_Section_init) 5 = .ok (.iconst 0, 1) := by decide +kernel
theorem d_Section_init_6 : decode (m_c m_Section_init) 6 = .ok (.putfield 9, 3) := by decide +kernel
theorem d_Section_init_9 : decode (m_c m_Section_init) 9 = .ok (.aload_n 0, 1) := by decide +kernel
theorem d_Section_init_10 : decode (m_c m_Section_init) 10 = .ok (.iconst 0, 1) := by decide +kernel
theorem d_Section_init_11 : decode (m_c m_Section_init) 11 = .ok (.putfield 15, 3) := by decide +kernel
theorem d_Section_init_14 : decode (m_c m_Section_init) 14 = .ok (.aload_n 0, 1) := by decide +kernel
theorem d_Section_init_15 : decode (m_c m_Section_init) 15 = .ok (.iconst 0, 1) := by decide +kernel
theorem d_Section_init_16 : decode (m_c m_Section_init) 16 = .ok (.putfield 18, 3) := by decide +kernel
theorem d_Section_init_19 : decode (m_c m_Section_init) 19 = .ok (.aload_n 0, 1) := by decide +kernel
theorem d_Section_init_20 : decode (m_c m_Section_init) 20 = .ok (.iconst 0, 1) := by decide +kernel
theorem d_Section_init_21 : decode (m_c m_Section_init) 21 = .ok (.putfield 22, 3) := by decide +kernel
theorem d_Section_init_24 : decode (m_c m_Section_init) 24 = .ok (.aload_n 0, 1) := by decide +kernel
theorem d_Section_init_25 : decode (m_c m_Section_init) 25 = .ok (.iconst 0, 1) := by decide +kernel
theorem d_Section_init_26 : decode (m_c m_Section_init) 26 = .ok (.putfield 25, 3) := by decide +kernel
theorem d_Section_init_29 : decode (m_c m_Section_init) 29 = .ok (.aload_n 0, 1) := by decide +kernel
theorem d_Section_init_30 : decode (m_c m_Section_init) 30 = .ok (.iconst 0, 1) := by decide +kernel
theorem d_Section_init_31 : decode (m_c m_Section_init) 31 = .ok (.putfield 28, 3) := by decide +kernel
theorem d_Section_init_34 : decode (m_c m_Section_init) 34 = .ok (.aload_n 0, 1) := by decide +kernel
theorem d_Section_init_35 : decode (m_c m_Section_init) 35 = .ok (.iconst (-1), 1) := by decide +kernel
theorem d_Section_init_36 : decode (m_c m_Section_init) 36 = .ok (.putfield 31, 3) := by decide +kernel
theorem d_Section_init_39 : decode (m_c m_Section_init) 39 = .ok (.aload_n 0, 1) := by decide +kernel
theorem d_Section_init_40 : decode (m_c m_Section_init) 40 = .ok (.iconst 1, 1) := by decide +kernel
theorem d_Section_init_41 : decode (m_c m_Section_init) 41 = .ok (.putfield 34, 3) := by decide +kernel
theorem d_Section_init_44 : decode (m_c m_Section_init) 44 = .ok (.aload_n 0, 1) := by decide +kernel
theorem d_Section_init_45 : decode (m_c m_Section_init) 45 = .ok (.iconst (-1), 1) := by decide +kernel
theorem d_Section_init_46 : decode (m_c m_Section_init) 46 = .ok (.putfield 37, 3) := by decide +kernel
theorem d_Section_init_49 : decode (m_c m_Section_init) 49 = .ok (.aload_n 0, 1) := by decide +kernel
theorem d_Section_init_50 : decode (m_c m_Section_init) 50 = .ok (.ldc 40, 2) := by decide +kernel
theorem d_Section_init_52 : decode (m_c m_Section_init) 52 = .ok (.putfield 41, 3) := by decide +kernel
theorem d_Section_init_55 : decode (m_c m_Section_init) 55 = .ok (.aload_n 0, 1) := by decide +kernel
theorem d_Section_init_56 : decode (m_c m_Section_init) 56 = .ok (.ldc 40, 2) := by decide +kernel
theorem d_Section_init_58 : decode (m_c m_Section_init) 58 = .ok (.putfield 44, 3) := by decide +kernel
theorem d_Section_init_61 : decode (m_c m_Section_init) 61 = .ok (.aload_n 0, 1) := by decide +kernel
theorem d_Section_init_62 : decode (m_c m_Section_init) 62 = .ok (.ldc 40, 2) := by decide +kernel
theorem d_Section_init_64 : decode (m_c m_Section_init) 64 = .ok (.putfield 47, 3) := by decide +kernel
theorem d_Section_init_67 : decode (m_c m_Section_init) 67 = .ok (.return_, 1) := by decide +kernel
theorem t_Section_init (t : q_V) (ok : ma_ok (q_G t)) {c : Nat} {a : Nat} (ha : q_SH[a]? = some (.inl 4)) (hc : a < c) (f : q_F) (R : Nat → Nat → Option Nat) : ma_Met (q_G t) true 1 20 0 0 m_Section_init [q_a t a] (q_c c f R) (q_cQ c (ma_up (ma_up (ma_up (ma_up (ma_up (ma_up (ma_up (ma_up (ma_up (ma_up (ma_up (ma_up f a 0 (0)) a 1 (0)) a 2 (0)) a 3 (0)) a 4 (0)) a 5 (0)) a 6 (-1)) a 7 (1)) a 8 (-1)) a 9 (-1000000000)) a 10 (-1000000000)) a 11 (-1000000000)) R) := by
  refine ma_met (by decide +kernel) (q_ble rfl) rfl ?_
  change ma_Ev (q_G t) 1 20 0 0 m_Section_init 0 [(0, q_a t a)] [] (q_c c f R) (ma_zr (q_G t) true (q_cQ c (ma_up (ma_up (ma_up (ma_up (ma_up (ma_up (ma_up (ma_up (ma_up (ma_up (ma_up (ma_up f a 0 (0)) a 1 (0)) a 2 (0)) a 3 (0)) a 4 (0)) a 5 (0)) a 6 (-1)) a 7 (1)) a 8 (-1)) a 9 (-1000000000)) a 10 (-1000000000)) a 11 (-1000000000)) R))
  refine ec_aload_n (pc := 0) d_Section_init_0 rfl rfl ?_
  refine ec_obj (pc := 1) d_Section_init_1 (q_in 139 (by decide +kernel) rfl) (by decide) (by decide) (by decide) ?_
  refine ec_aload_n (pc := 4) d_Section_init_4 rfl rfl ?_
  refine ev_iconst (pc := 5) d_Section_init_5  ?_
  refine ec_puti (pc := 6) ok (ma_up f a 0 (0)) (fl_Section_9 t) rfl (ma_fit_Z (by decide)) d_Section_init_6 ha hc rfl ?_
  refine ec_aload_n (pc := 9) d_Section_init_9 rfl rfl ?_
  refine ev_iconst (pc := 10) d_Section_init_10  ?_
  refine ec_puti (pc := 11) ok (ma_up (ma_up f a 0 (0)) a 1 (0)) (fl_Section_15 t) rfl (ma_fit_Z (by decide)) d_Section_init_11 ha hc rfl ?_
  refine ec_aload_n (pc := 14) d_Section_init_14 rfl rfl ?_
  refine ev_iconst (pc := 15) d_Section_init_15  ?_
  refine ec_puti (pc := 16) ok (ma_up (ma_up (ma_up f a 0 (0)) a 1 (0)) a 2 (0)) (fl_Section_18 t) rfl ⟨.int, by decide +kernel, rfl, rfl⟩ d_Section_init_16 ha hc rfl ?_
  refine ec_aload_n (pc := 19) d_Section_init_19 rfl rfl ?_
  refine ev_iconst (pc := 20) d_Section_init_20  ?_
  refine ec_puti (pc := 21) ok (ma_up (ma_up (ma_up (ma_up f a 0 (0)) a 1 (0)) a 2 (0)) a 3 (0)) (fl_Section_22 t) rfl ⟨.int, by decide +kernel, rfl, rfl⟩ d_Section_init_21 ha hc rfl ?_
  refine ec_aload_n (pc := 24) d_Section_init_24 rfl rfl ?_
  refine ev_iconst (pc := 25) d_Section_init_25  ?_
  refine ec_puti (pc := 26) ok (ma_up (ma_up (ma_up (ma_up (ma_up f a 0 (0)) a 1 (0)) a 2 (0)) a 3 (0)) a 4 (0)) (fl_Section_25 t) rfl ⟨.int, by decide +kernel, rfl, rfl⟩ d_Section_init_26 ha hc rfl ?_
  refine ec_aload_n (pc := 29) d_Section_init_29 rfl rfl ?_
  refine ev_iconst (pc := 30) d_Section_init_30  ?_
  refine ec_puti (pc := 31) ok (ma_up (ma_up (ma_up (ma_up (ma_up (ma_up f a 0 (0)) a 1 (0)) a 2 (0)) a 3 (0)) a 4 (0)) a 5 (0)) (fl_Section_28 t) rfl ⟨.int, by decide +kernel, rfl, rfl⟩ d_Section_init_31 ha hc rfl ?_
  refine ec_aload_n (pc := 34) d_Section_init_34 rfl rfl ?_
  refine ev_iconst (pc := 35) d_Section_init_35  ?_
  refine ec_puti (pc := 36) ok (ma_up (ma_up (ma_up (ma_up (ma_up (ma_up (ma_up f a 0 (0)) a 1 (0)) a 2 (0)) a 3 (0)) a 4 (0)) a 5 (0)) a 6 (-1)) (fl_Section_31 t) rfl ⟨.int, by decide +kernel, rfl, rfl⟩ d_Section_init_36 ha hc rfl ?_
  refine ec_aload_n (pc := 39) d_Section_init_39 rfl rfl ?_
  refine ev_iconst (pc := 40) d_Section_init_40  ?_
  refine ec_puti (pc := 41) ok (ma_up (ma_up (ma_up (ma_up (ma_up (ma_up (ma_up (ma_up f a 0 (0)) a 1 (0)) a 2 (0)) a 3 (0)) a 4 (0)) a 5 (0)) a 6 (-1)) a 7 (1)) (fl_Section_34 t) rfl (ma_fit_Z (by decide)) d_Section_init_41 ha hc rfl ?_
  refine ec_aload_n (pc := 44) d_Section_init_44 rfl rfl ?_
  refine ev_iconst (pc := 45) d_Section_init_45  ?_
  refine ec_puti (pc := 46) ok (ma_up (ma_up (ma_up (ma_up (ma_up (ma_up (ma_up (ma_up (ma_up f a 0 (0)) a 1 (0)) a 2 (0)) a 3 (0)) a 4 (0)) a 5 (0)) a 6 (-1)) a 7 (1)) a 8 (-1)) (fl_Section_37 t) rfl ⟨.int, by decide +kernel, rfl, rfl⟩ d_Section_init_46 ha hc rfl ?_
  refine ec_aload_n (pc := 49) d_Section_init_49 rfl rfl ?_
  refine ev_ldc (pc := 50) d_Section_init_50 kc_Section_40 ?_
  refine ec_puti (pc := 52) ok (ma_up (ma_up (ma_up (ma_up (ma_up (ma_up (ma_up (ma_up (ma_up (ma_up f a 0 (0)) a 1 (0)) a 2 (0)) a 3 (0)) a 4 (0)) a 5 (0)) a 6 (-1)) a 7 (1)) a 8 (-1)) a 9 (-1000000000)) (fl_Section_41 t) rfl ⟨.int, by decide +kernel, rfl, rfl⟩ d_Section_init_52 ha hc rfl ?_
  refine ec_aload_n (pc := 55) d_Section_init_55 rfl rfl ?_
  refine ev_ldc (pc := 56) d_Section_init_56 kc_Section_40 ?_
  refine ec_puti (pc := 58) ok (ma_up (ma_up (ma_up (ma_up (ma_up (ma_up (ma_up (ma_up (ma_up (ma_up (ma_up f a 0 (0)) a 1 (0)) a 2 (0)) a 3 (0)) a 4 (0)) a 5 (0)) a 6 (-1)) a 7 (1)) a 8 (-1)) a 9 (-1000000000)) a 10 (-1000000000)) (fl_Section_44 t) rfl ⟨.int, by decide +kernel, rfl, rfl⟩ d_Section_init_58 ha hc rfl ?_
  refine ec_aload_n (pc := 61) d_Section_init_61 rfl rfl ?_
  refine ev_ldc (pc := 62) d_Section_init_62 kc_Section_40 ?_
  refine ec_puti (pc := 64) ok (ma_up (ma_up (ma_up (ma_up (ma_up (ma_up (ma_up (ma_up (ma_up (ma_up (ma_up (ma_up f a 0 (0)) a 1 (0)) a 2 (0)) a 3 (0)) a 4 (0)) a 5 (0)) a 6 (-1)) a 7 (1)) a 8 (-1)) a 9 (-1000000000)) a 10 (-1000000000)) a 11 (-1000000000)) (fl_Section_47 t) rfl ⟨.int, by decide +kernel, rfl, rfl⟩ d_Section_init_64 ha hc rfl ?_
  exact ec_ret (pc := 67) d_Section_init_67 rfl
def cz_f88 : q_F := (ma_up (ma_up (ma_up (ma_up (ma_up (ma_up (ma_up (ma_up (ma_up (ma_up (ma_up (ma_up cz_f86 28 0 (0)) 28 1 (0)) 28 2 (0)) 28 3 (0)) 28 4 (0)) 28 5 (0)) 28 6 (-1)) 28 7 (1)) 28 8 (-1)) 28 9 (-1000000000)) 28 10 (-1000000000)) 28 11 (-1000000000))
def cz_R89 : Nat → Nat → Option Nat := ma_up cz_R87 6 0 (some 28)
def cz_f90 : q_F := ma_clr cz_f88 29 0
def cz_R91 : Nat → Nat → Option Nat := ma_clr cz_R89 29 none
def cz_f92 : q_F := (ma_up (ma_up (ma_up (ma_up (ma_up (ma_up (ma_up (ma_up (ma_up (ma_up (ma_up (ma_up cz_f90 29 0 (0)) 29 1 (0)) 29 2 (0)) 29 3 (0)) 29 4 (0)) 29 5 (0)) 29 6 (-1)) 29 7 (1)) 29 8 (-1)) 29 9 (-1000000000)) 29 10 (-1000000000)) 29 11 (-1000000000))
def cz_R93 : Nat → Nat → Option Nat := ma_up cz_R91 6 1 (some 29)
def cz_f94 : q_F := ma_clr cz_f92 30 0
def cz_R95 : Nat → Nat → Option Nat := ma_clr cz_R93 30 none
def cz_f96 : q_F := (ma_up (ma_up (ma_up (ma_up (ma_up (ma_up (ma_up (ma_up (ma_up (ma_up (ma_up (ma_up cz_f94 30 0 (0)) 30 1 (0)) 30 2 (0)) 30 3 (0)) 30 4 (0)) 30 5 (0)) 30 6 (-1)) 30 7 (1)) 30 8 (-1)) 30 9 (-1000000000)) 30 10 (-1000000000)) 30 11 (-1000000000))
def cz_R97 : Nat → Nat → Option Nat := ma_up cz_R95 6 2 (some 30)
def cz_f98 : q_F := ma_clr cz_f96 31 0
def cz_R99 : Nat → Nat → Option Nat := ma_clr cz_R97 31 none
def cz_f100 : q_F := (ma_up (ma_up (ma_up (ma_up (ma_up (ma_up (ma_up (ma_up (ma_up (ma_up (ma_up (ma_up cz_f98 31 0 (0)) 31 1 (0)) 31 2 (0)) 31 3 (0)) 31 4 (0)) 31 5 (0)) 31 6 (-1)) 31 7 (1)) 31 8 (-1)) 31 9 (-1000000000)) 31 10 (-1000000000)) 31 11 (-1000000000))
def cz_R101 : Nat → Nat → Option Nat := ma_up cz_R99 6 3 (some 31)
def cz_f102 : q_F := ma_clr cz_f100 32 0
def cz_R103 : Nat → Nat → Option Nat := ma_clr cz_R101 32 none
def cz_f104 : q_F := (ma_up (ma_up (ma_up (ma_up (ma_up (ma_up (ma_up (ma_up (ma_up (ma_up (ma_up (ma_up cz_f102 32 0 (0)) 32 1 (0)) 32 2 (0)) 32 3 (0)) 32 4 (0)) 32 5 (0)) 32 6 (-1)) 32 7 (1)) 32 8 (-1)) 32 9 (-1000000000)) 32 10 (-1000000000)) 32 11 (-1000000000))
def cz_R105 : Nat → Nat → Option Nat := ma_up cz_R103 6 4 (some 32)
def cz_f106 : q_F := ma_clr cz_f104 33 0
def cz_R107 : Nat → Nat → Option Nat := ma_clr cz_R105 33 none
def cz_f108 : q_F := (ma_up (ma_up (ma_up (ma_up (ma_up (ma_up (ma_up (ma_up (ma_up (ma_up (ma_up (ma_up cz_f106 33 0 (0)) 33 1 (0)) 33 2 (0)) 33 3 (0)) 33 4 (0)) 33 5 (0)) 33 6 (-1)) 33 7 (1)) 33 8 (-1)) 33 9 (-1000000000)) 33 10 (-1000000000)) 33 11 (-1000000000))
def cz_R109 : Nat → Nat → Option Nat := ma_up cz_R107 6 5 (some 33)
def cz_f110 : q_F := ma_clr cz_f108 34 0
def cz_R111 : Nat → Nat → Option Nat := ma_clr cz_R109 34 none
def cz_f112 : q_F := (ma_up (ma_up (ma_up (ma_up (ma_up (ma_up (ma_up (ma_up (ma_up (ma_up (ma_up (ma_up cz_f110 34 0 (0)) 34 1 (0)) 34 2 (0)) 34 3 (0)) 34 4 (0)) 34 5 (0)) 34 6 (-1)) 34 7 (1)) 34 8 (-1)) 34 9 (-1000000000)) 34 10 (-1000000000)) 34 11 (-1000000000))
def cz_R113 : Nat → Nat → Option Nat := ma_up cz_R111 6 6 (some 34)
def cz_f114 : q_F := ma_clr cz_f112 35 0
def cz_R115 : Nat → Nat → Option Nat := ma_clr cz_R113 35 none
def cz_f116 : q_F := (ma_up (ma_up (ma_up (ma_up (ma_up (ma_up (ma_up (ma_up (ma_up (ma_up (ma_up (ma_up cz_f114 35 0 (0)) 35 1 (0)) 35 2 (0)) 35 3 (0)) 35 4 (0)) 35 5 (0)) 35 6 (-1)) 35 7 (1)) 35 8 (-1)) 35 9 (-1000000000)) 35 10 (-1000000000)) 35 11 (-1000000000))
def cz_R117 : Nat → Nat → Option Nat := ma_up cz_R115 6 7 (some 35)
def cz_f118 : q_F := ma_clr cz_f116 36 0
def cz_R119 : Nat → Nat → Option Nat := ma_clr cz_R117 36 none
theorem d_Symbol_init_0 : decode (m_c m_Symbol_init) 0 = .ok (.aload_n 0, 1) := by decide +kernel
theorem d_Symbol_init_1 : decode (m_c m_Symbol_init) 1 = .ok (.invokespecial 3, 3) := by decide +kernel
theorem d_Symbol_init_4 : decode (m_c m_Symbol_init) 4 = .ok (.aload_n 0, 1) := by decide +kernel
theorem d_Symbol_init_5 : decode (m_c m_Symbol_init) 5 = .ok (.iconst 0, 1) := by decide +kernel
theorem d_Symbol_init_6 : decode (m_c m_Symbol_init) 6 = .ok (.putfield 9, 3) := by decide +kernel
theorem d_Symbol_init_9 : decode (m_c m_Symbol_init) 9 = .ok (.aload_n 0, 1) := by decide +kernel
theorem d_Symbol_init_10 : decode (m_c m_Symbol_init) 10 = .ok (.iconst 0, 1) := by decide +kernel
theorem d_Symbol_init_11 : decode (m_c m_Symbol_init) 11 = .ok (.putfield 15, 3) := by decide +kernel
theorem d_Symbol_init_14 : decode (m_c m_Symbol_init) 14 = .ok (.aload_n 0, 1) := by decide +kernel
theorem d_Symbol_init_15 : decode (m_c m_Symbol_init) 15 = .ok (.iconst 0, 1) := by decide +kernel
theorem d_Symbol_init_16 : decode (m_c m_Symbol_init) 16 = .ok (.putfield 18, 3) := by decide +kernel
theorem d_Symbol_init_19 : decode (m_c m_Symbol_init) 19 = .ok (.aload_n 0, 1) := by decide +kernel
theorem d_Symbol_init_20 : decode (m_c m_Symbol_init) 20 = .ok (.iconst 0, 1) := by decide +kernel
theorem d_Symbol_init_21 : decode (m_c m_Symbol_init) 21 = .ok (.putfield 22, 3) := by decide +kernel
theorem d_Symbol_init_24 : decode (m_c m_Symbol_init) 24 = .ok (.aload_n 0, 1) := by decide +kernel
theorem d_Symbol_init_25 : decode (m_c m_Symbol_init) 25 = .ok (.ldc 25, 2) := by decide +kernel
theorem d_Symbol_init_27 : decode (m_c m_Symbol_init) 27 = .ok (.putfield 26, 3) := by decide +kernel
theorem d_Symbol_init_30 : decode (m_c m_Symbol_init) 30 = .ok (.return_, 1) := by decide +kernel
theorem t_Symbol_init (t : q_V) (ok : ma_ok (q_G t)) {c : Nat} {a : Nat} (ha : q_SH[a]? = some (.inl 5)) (hc : a < c) (f : q_F) (R : Nat → Nat → Option Nat) : ma_Met (q_G t) true 1 20 0 0 m_Symbol_init [q_a t a] (q_c c f R) (q_cQ c (ma_up (ma_up (ma_up (ma_up (ma_up f a 0 (0)) a 1 (0)) a 2 (0)) a 3 (0)) a 4 (-1000000000)) R) := by
  refine ma_met (by decide +kernel) (q_ble rfl) rfl ?_
  change ma_Ev (q_G t) 1 20 0 0 m_Symbol_init 0 [(0, q_a t a)] [] (q_c c f R) (ma_zr (q_G t) true (q_cQ c (ma_up (ma_up (ma_up (ma_up (ma_up f a 0 (0)) a 1 (0)) a 2 (0)) a 3 (0)) a 4 (-1000000000)) R))
  refine ec_aload_n (pc := 0) d_Symbol_init_0 rfl rfl ?_
  refine ec_obj (pc := 1) d_Symbol_init_1 (q_in 220 (by decide +kernel) rfl) (by decide) (by decide) (by decide) ?_
  refine ec_aload_n (pc := 4) d_Symbol_init_4 rfl rfl ?_
  refine ev_iconst (pc := 5) d_Symbol_init_5  ?_
  refine ec_puti (pc := 6) ok (ma_up f a 0 (0)) (fl_Symbol_9 t) rfl (ma_fit_Z (by decide)) d_Symbol_init_6 ha hc rfl ?_
  refine ec_aload_n (pc := 9) d_Symbol_init_9 rfl rfl ?_
  refine ev_iconst (pc := 10) d_Symbol_init_10  ?_
  refine ec_puti (pc := 11) ok (ma_up (ma_up f a 0 (0)) a 1 (0)) (fl_Symbol_15 t) rfl (ma_fit_Z (by decide)) d_Symbol_init_11 ha hc rfl ?_
  refine ec_aload_n (pc := 14) d_Symbol_init_14 rfl rfl ?_
  refine ev_iconst (pc := 15) d_Symbol_init_15  ?_
  refine ec_puti (pc := 16) ok (ma_up (ma_up (ma_up f a 0 (0)) a 1 (0)) a 2 (0)) (fl_Symbol_18 t) rfl ⟨.int, by decide +kernel, rfl, rfl⟩ d_Symbol_init_16 ha hc rfl ?_
  refine ec_aload_n (pc := 19) d_Symbol_init_19 rfl rfl ?_
  refine ev_iconst (pc := 20) d_Symbol_init_20  ?_
  refine ec_puti (pc := 21) ok (ma_up (ma_up (ma_up (ma_up f a 0 (0)) a 1 (0)) a 2 (0)) a 3 (0)) (fl_Symbol_22 t) rfl ⟨.int, by decide +kernel, rfl, rfl⟩ d_Symbol_init_21 ha hc rfl ?_
  refine ec_aload_n (pc := 24) d_Symbol_init_24 rfl rfl ?_
  refine ev_ldc (pc := 25) d_Symbol_init_25 kc_Symbol_25 ?_
  refine ec_puti (pc := 27) ok (ma_up (ma_up (ma_up (ma_up (ma_up f a 0 (0)) a 1 (0)) a 2 (0)) a 3 (0)) a 4 (-1000000000)) (fl_Symbol_26 t) rfl ⟨.int, by decide +kernel, rfl, rfl⟩ d_Symbol_init_27 ha hc rfl ?_
  exact ec_ret (pc := 30) d_Symbol_init_30 rfl
def cz_f120 : q_F := (ma_up (ma_up (ma_up (ma_up (ma_up cz_f118 36 0 (0)) 36 1 (0)) 36 2 (0)) 36 3 (0)) 36 4 (-1000000000))
def cz_R121 : Nat → Nat → Option Nat := ma_up cz_R119 7 0 (some 36)
def cz_f122 : q_F := ma_clr cz_f120 37 0
def cz_R123 : Nat → Nat → Option Nat := ma_clr cz_R121 37 none
def cz_f124 : q_F := (ma_up (ma_up (ma_up (ma_up (ma_up cz_f122 37 0 (0)) 37 1 (0)) 37 2 (0)) 37 3 (0)) 37 4 (-1000000000))
def cz_R125 : Nat → Nat → Option Nat := ma_up cz_R123 7 1 (some 37)
def cz_f126 : q_F := ma_clr cz_f124 38 0
def cz_R127 : Nat → Nat → Option Nat := ma_clr cz_R125 38 none
def cz_f128 : q_F := (ma_up (ma_up (ma_up (ma_up (ma_up cz_f126 38 0 (0)) 38 1 (0)) 38 2 (0)) 38 3 (0)) 38 4 (-1000000000))
def cz_R129 : Nat → Nat → Option Nat := ma_up cz_R127 7 2 (some 38)
def cz_f130 : q_F := ma_clr cz_f128 39 0
def cz_R131 : Nat → Nat → Option Nat := ma_clr cz_R129 39 none
def cz_f132 : q_F := (ma_up (ma_up (ma_up (ma_up (ma_up cz_f130 39 0 (0)) 39 1 (0)) 39 2 (0)) 39 3 (0)) 39 4 (-1000000000))
def cz_R133 : Nat → Nat → Option Nat := ma_up cz_R131 7 3 (some 39)
def cz_f134 : q_F := ma_clr cz_f132 40 0
def cz_R135 : Nat → Nat → Option Nat := ma_clr cz_R133 40 none
def cz_f136 : q_F := (ma_up (ma_up (ma_up (ma_up (ma_up cz_f134 40 0 (0)) 40 1 (0)) 40 2 (0)) 40 3 (0)) 40 4 (-1000000000))
def cz_R137 : Nat → Nat → Option Nat := ma_up cz_R135 7 4 (some 40)
def cz_f138 : q_F := ma_clr cz_f136 41 0
def cz_R139 : Nat → Nat → Option Nat := ma_clr cz_R137 41 none
def cz_f140 : q_F := (ma_up (ma_up (ma_up (ma_up (ma_up cz_f138 41 0 (0)) 41 1 (0)) 41 2 (0)) 41 3 (0)) 41 4 (-1000000000))
def cz_R141 : Nat → Nat → Option Nat := ma_up cz_R139 7 5 (some 41)
def cz_f142 : q_F := ma_clr cz_f140 42 0
def cz_R143 : Nat → Nat → Option Nat := ma_clr cz_R141 42 none
def cz_f144 : q_F := (ma_up (ma_up (ma_up (ma_up (ma_up cz_f142 42 0 (0)) 42 1 (0)) 42 2 (0)) 42 3 (0)) 42 4 (-1000000000))
def cz_R145 : Nat → Nat → Option Nat := ma_up cz_R143 7 6 (some 42)
def cz_f146 : q_F := ma_clr cz_f144 43 0
def cz_R147 : Nat → Nat → Option Nat := ma_clr cz_R145 43 none
def cz_f148 : q_F := (ma_up (ma_up (ma_up (ma_up (ma_up cz_f146 43 0 (0)) 43 1 (0)) 43 2 (0)) 43 3 (0)) 43 4 (-1000000000))
def cz_R149 : Nat → Nat → Option Nat := ma_up cz_R147 7 7 (some 43)
def cz_f150 : q_F := ma_clr cz_f148 44 0
def cz_R151 : Nat → Nat → Option Nat := ma_clr cz_R149 44 none
def cz_f152 : q_F := (ma_up (ma_up (ma_up (ma_up (ma_up cz_f150 44 0 (0)) 44 1 (0)) 44 2 (0)) 44 3 (0)) 44 4 (-1000000000))
def cz_R153 : Nat → Nat → Option Nat := ma_up cz_R151 7 8 (some 44)
def cz_f154 : q_F := ma_clr cz_f152 45 0
def cz_R155 : Nat → Nat → Option Nat := ma_clr cz_R153 45 none
def cz_f156 : q_F := (ma_up (ma_up (ma_up (ma_up (ma_up cz_f154 45 0 (0)) 45 1 (0)) 45 2 (0)) 45 3 (0)) 45 4 (-1000000000))
def cz_R157 : Nat → Nat → Option Nat := ma_up cz_R155 7 9 (some 45)
def cz_f158 : q_F := ma_clr cz_f156 46 0
def cz_R159 : Nat → Nat → Option Nat := ma_clr cz_R157 46 none
def cz_f160 : q_F := (ma_up (ma_up (ma_up (ma_up (ma_up cz_f158 46 0 (0)) 46 1 (0)) 46 2 (0)) 46 3 (0)) 46 4 (-1000000000))
def cz_R161 : Nat → Nat → Option Nat := ma_up cz_R159 7 10 (some 46)
def cz_f162 : q_F := ma_clr cz_f160 47 0
def cz_R163 : Nat → Nat → Option Nat := ma_clr cz_R161 47 none
def cz_f164 : q_F := (ma_up (ma_up (ma_up (ma_up (ma_up cz_f162 47 0 (0)) 47 1 (0)) 47 2 (0)) 47 3 (0)) 47 4 (-1000000000))
def cz_R165 : Nat → Nat → Option Nat := ma_up cz_R163 7 11 (some 47)
def cz_f166 : q_F := ma_clr cz_f164 48 0
def cz_R167 : Nat → Nat → Option Nat := ma_clr cz_R165 48 none
def cz_f168 : q_F := (ma_up (ma_up (ma_up (ma_up (ma_up cz_f166 48 0 (0)) 48 1 (0)) 48 2 (0)) 48 3 (0)) 48 4 (-1000000000))
def cz_R169 : Nat → Nat → Option Nat := ma_up cz_R167 7 12 (some 48)
def cz_f170 : q_F := ma_clr cz_f168 49 0
def cz_R171 : Nat → Nat → Option Nat := ma_clr cz_R169 49 none
def cz_f172 : q_F := (ma_up (ma_up (ma_up (ma_up (ma_up cz_f170 49 0 (0)) 49 1 (0)) 49 2 (0)) 49 3 (0)) 49 4 (-1000000000))
def cz_R173 : Nat → Nat → Option Nat := ma_up cz_R171 7 13 (some 49)
def cz_f174 : q_F := ma_clr cz_f172 50 0
def cz_R175 : Nat → Nat → Option Nat := ma_clr cz_R173 50 none
def cz_f176 : q_F := (ma_up (ma_up (ma_up (ma_up (ma_up cz_f174 50 0 (0)) 50 1 (0)) 50 2 (0)) 50 3 (0)) 50 4 (-1000000000))
def cz_R177 : Nat → Nat → Option Nat := ma_up cz_R175 7 14 (some 50)
def cz_f178 : q_F := ma_clr cz_f176 51 0
def cz_R179 : Nat → Nat → Option Nat := ma_clr cz_R177 51 none
def cz_f180 : q_F := (ma_up (ma_up (ma_up (ma_up (ma_up cz_f178 51 0 (0)) 51 1 (0)) 51 2 (0)) 51 3 (0)) 51 4 (-1000000000))
def cz_R181 : Nat → Nat → Option Nat := ma_up cz_R179 7 15 (some 51)
def cz_f182 : q_F := ma_clr cz_f180 52 0
def cz_R183 : Nat → Nat → Option Nat := ma_clr cz_R181 52 none
def cz_f184 : q_F := (ma_up (ma_up (ma_up (ma_up (ma_up cz_f182 52 0 (0)) 52 1 (0)) 52 2 (0)) 52 3 (0)) 52 4 (-1000000000))
def cz_R185 : Nat → Nat → Option Nat := ma_up cz_R183 7 16 (some 52)
def cz_f186 : q_F := ma_clr cz_f184 53 0
def cz_R187 : Nat → Nat → Option Nat := ma_clr cz_R185 53 none
def cz_f188 : q_F := (ma_up (ma_up (ma_up (ma_up (ma_up cz_f186 53 0 (0)) 53 1 (0)) 53 2 (0)) 53 3 (0)) 53 4 (-1000000000))
def cz_R189 : Nat → Nat → Option Nat := ma_up cz_R187 7 17 (some 53)
theorem t_Plan_init (t : q_V) (ok : ma_ok (q_G t)) : ma_Met (q_G t) true 2 40 50 938 m_Plan_init [q_a t 3] (q_c 4 cz_f6 cz_R7) (q_cQ 54 cz_f188 cz_R189) := by
  refine ma_met (by decide +kernel) (q_ble rfl) rfl ?_
  change ma_Ev (q_G t) 2 40 50 938 m_Plan_init 0 [(0, q_a t 3)] [] (q_c 4 cz_f6 cz_R7) (ma_zr (q_G t) true (q_cQ 54 cz_f188 cz_R189))
  refine ec_aload_n (pc := 0) d_Plan_init_0 rfl rfl ?_
  refine ec_obj (pc := 1) d_Plan_init_1 (q_in 52 (by decide +kernel) rfl) (by decide) (by decide) (by decide) ?_
  refine ec_aload_n (pc := 4) d_Plan_init_4 rfl rfl ?_
  refine ev_bipush (pc := 5) d_Plan_init_5 rfl ?_
  refine ec_newq (pc := 7) (k := 49) (n := 930) cz_f8 cz_R9 d_Plan_init_7 s_4 (by decide) (by decide) (q_in 53 (by decide +kernel) rfl) (by decide) rfl rfl ?_
  refine ec_putr (pc := 10) ok cz_R10 (fo_Plan_11 t) k_7 rfl rfl rfl (fun _ => ⟨.array (.object "LayoutDesk$Input"), by decide +kernel, rfl, rfl⟩) d_Plan_init_10 s_3 (by decide) rfl ?_
  refine ec_aload_n (pc := 13) d_Plan_init_13 rfl rfl ?_
  refine ev_iconst (pc := 14) d_Plan_init_14  ?_
  refine ec_newq (pc := 15) (k := 48) (n := 926) cz_f11 cz_R12 d_Plan_init_15 s_5 (by decide) (by decide) (q_in 55 (by decide +kernel) rfl) (by decide) rfl rfl ?_
  refine ec_putr (pc := 18) ok cz_R13 (fo_Plan_19 t) k_7 rfl rfl rfl (fun _ => ⟨.array (.object "LayoutDesk$Region"), by decide +kernel, rfl, rfl⟩) d_Plan_init_18 s_3 (by decide) rfl ?_
  refine ec_aload_n (pc := 21) d_Plan_init_21 rfl rfl ?_
  refine ev_bipush (pc := 22) d_Plan_init_22 rfl ?_
  refine ec_newq (pc := 24) (k := 47) (n := 918) cz_f14 cz_R15 d_Plan_init_24 s_6 (by decide) (by decide) (q_in 57 (by decide +kernel) rfl) (by decide) rfl rfl ?_
  refine ec_putr (pc := 27) ok cz_R16 (fo_Plan_25 t) k_7 rfl rfl rfl (fun _ => ⟨.array (.object "LayoutDesk$Section"), by decide +kernel, rfl, rfl⟩) d_Plan_init_27 s_3 (by decide) rfl ?_
  refine ec_aload_n (pc := 30) d_Plan_init_30 rfl rfl ?_
  refine ev_bipush (pc := 31) d_Plan_init_31 rfl ?_
  refine ec_newq (pc := 33) (k := 46) (n := 900) cz_f17 cz_R18 d_Plan_init_33 s_7 (by decide) (by decide) (q_in 59 (by decide +kernel) rfl) (by decide) rfl rfl ?_
  refine ec_putr (pc := 36) ok cz_R19 (fo_Plan_31 t) k_7 rfl rfl rfl (fun _ => ⟨.array (.object "LayoutDesk$Symbol"), by decide +kernel, rfl, rfl⟩) d_Plan_init_36 s_3 (by decide) rfl ?_
  refine ec_aload_n (pc := 39) d_Plan_init_39 rfl rfl ?_
  refine ec_new (pc := 40) (k := 45) (n := 897) ok cz_f20 cz_R21 d_Plan_init_40 s_8 k_6 rfl q_df6 (q_in 61 (by decide +kernel) rfl) (q_in 62 (by decide +kernel) rfl) (q_in 4 (by decide +kernel) rfl) rfl rfl ?_
  refine ev_dup (pc := 43) d_Plan_init_43 rfl ?_
  refine ec_callI (pc := 44) (k := 43) (n := 577) (c1 := 11) (f1 := cz_f22) (R1 := cz_R23) (mc := 2) (ms := 320) ok [] [q_a t 8, q_a t 3] (cf_Plan_37 t) d_Plan_init_44 (t_Rows_init_8 t ok cz_f20 cz_R21) rfl rfl (by decide) (by decide) (q_ble rfl) ?_
  refine ec_putr (pc := 47) ok cz_R24 (fo_Plan_38 t) k_7 rfl rfl rfl (fun _ => ⟨.object "LayoutDesk$Rows", by decide +kernel, rfl, rfl⟩) d_Plan_init_47 s_3 (by decide) rfl ?_
  refine ec_aload_n (pc := 50) d_Plan_init_50 rfl rfl ?_
  refine ec_new (pc := 51) (k := 42) (n := 574) ok cz_f25 cz_R26 d_Plan_init_51 s_11 k_6 rfl q_df6 (q_in 61 (by decide +kernel) rfl) (q_in 62 (by decide +kernel) rfl) (q_in 4 (by decide +kernel) rfl) rfl rfl ?_
  refine ev_dup (pc := 54) d_Plan_init_54 rfl ?_
  refine ec_callI (pc := 55) (k := 40) (n := 254) (c1 := 14) (f1 := cz_f27) (R1 := cz_R28) (mc := 2) (ms := 320) ok [] [q_a t 11, q_a t 3] (cf_Plan_37 t) d_Plan_init_55 (t_Rows_init_11 t ok cz_f25 cz_R26) rfl rfl (by decide) (by decide) (q_ble rfl) ?_
  refine ec_putr (pc := 58) ok cz_R29 (fo_Plan_42 t) k_7 rfl rfl rfl (fun _ => ⟨.object "LayoutDesk$Rows", by decide +kernel, rfl, rfl⟩) d_Plan_init_58 s_3 (by decide) rfl ?_
  refine ec_aload_n (pc := 61) d_Plan_init_61 rfl rfl ?_
  refine ev_bipush (pc := 62) d_Plan_init_62 rfl ?_
  refine ec_newa (pc := 64) (k := 39) (n := 246) cz_f30 cz_R31 d_Plan_init_64 s_14 rfl (.inl rfl) (by decide) (by decide) (q_in 83 (by decide +kernel) rfl) rfl rfl ?_
  refine ec_putr (pc := 66) ok cz_R32 (fo_Plan_45 t) k_7 rfl rfl rfl (fun _ => ⟨.array (.int), by decide +kernel, rfl, rfl⟩) d_Plan_init_66 s_3 (by decide) rfl ?_
  refine ec_aload_n (pc := 69) d_Plan_init_69 rfl rfl ?_
  refine ev_iconst (pc := 70) d_Plan_init_70  ?_
  refine ec_puti (pc := 71) ok cz_f33 (fl_Plan_49 t) rfl ⟨.int, by decide +kernel, rfl, rfl⟩ d_Plan_init_71 s_3 (by decide) rfl ?_
  refine ec_aload_n (pc := 74) d_Plan_init_74 rfl rfl ?_
  refine ev_bipush (pc := 75) d_Plan_init_75 rfl ?_
  refine ec_newa (pc := 77) (k := 38) (n := 238) cz_f34 cz_R35 d_Plan_init_77 s_15 rfl (.inl rfl) (by decide) (by decide) (q_in 83 (by decide +kernel) rfl) rfl rfl ?_
  refine ec_putr (pc := 79) ok cz_R36 (fo_Plan_53 t) k_7 rfl rfl rfl (fun _ => ⟨.array (.int), by decide +kernel, rfl, rfl⟩) d_Plan_init_79 s_3 (by decide) rfl ?_
  refine ec_aload_n (pc := 82) d_Plan_init_82 rfl rfl ?_
  refine ev_iconst (pc := 83) d_Plan_init_83  ?_
  refine ec_puti (pc := 84) ok cz_f37 (fl_Plan_56 t) rfl ⟨.int, by decide +kernel, rfl, rfl⟩ d_Plan_init_84 s_3 (by decide) rfl ?_
  refine ev_iconst (pc := 87) d_Plan_init_87  ?_
  refine ev_istore_n (pc := 88) d_Plan_init_88 rfl (by decide) [(1, ma_i (0)), (0, q_a t 3)] rfl ?_
  refine ev_iload_n (pc := 89) d_Plan_init_89 rfl rfl ?_
  refine ev_bipush (pc := 90) d_Plan_init_90 rfl ?_
  refine ev_icmp_ge (pc := 92) (tgt := 114) d_Plan_init_92 (by decide) ⟨by decide, by decide⟩ ⟨by decide, by decide⟩ (fun hj => absurd hj (show ¬ (8 : Int) ≤ 0 by decide)) (fun _ => ?_)
  refine ec_aload_n (pc := 95) d_Plan_init_95 rfl rfl ?_
  refine ec_getr (pc := 96) (q := 4) ok (fl_Plan_11 t) rfl d_Plan_init_96 s_3 (by decide) (by decide +kernel) ?_
  refine ev_iload_n (pc := 99) d_Plan_init_99 rfl rfl ?_
  refine ec_new (pc := 100) (k := 37) (n := 233) ok cz_f38 cz_R39 d_Plan_init_100 (s_16 16 (by decide) (by decide)) k_2 rfl q_df2 (q_in 53 (by decide +kernel) rfl) (q_in 84 (by decide +kernel) rfl) (q_in 5 (by decide +kernel) rfl) rfl rfl ?_
  refine ev_dup (pc := 103) d_Plan_init_103 rfl ?_
  refine ec_callI (pc := 104) (k := 37) (n := 233) (c1 := 17) (f1 := cz_f40) (R1 := cz_R39) (mc := 0) (ms := 0) ok [] [q_a t 16, ma_i (0), q_a t 4] (cf_Plan_59 t) d_Plan_init_104 (t_Input_init t ok (s_16 16 (by decide) (by decide)) (by decide) cz_f38 cz_R39) rfl rfl (by decide) (by decide) (q_ble rfl) ?_
  refine ec_aast (pc := 107) cz_R41 d_Plan_init_107 s_4 (by decide) (by decide) (by decide) (by decide) (s_16 16 (by decide) (by decide)) (by decide) k_2 rfl rfl ?_
  refine ev_iinc (pc := 108) d_Plan_init_108 (by decide) rfl [(1, ma_i (1)), (0, q_a t 3)] rfl ?_
  refine ev_goto (pc := 111) (tgt := 89) d_Plan_init_111 (by decide) ?_
  refine ev_iload_n (pc := 89) d_Plan_init_89 rfl rfl ?_
  refine ev_bipush (pc := 90) d_Plan_init_90 rfl ?_
  refine ev_icmp_ge (pc := 92) (tgt := 114) d_Plan_init_92 (by decide) ⟨by decide, by decide⟩ ⟨by decide, by decide⟩ (fun hj => absurd hj (show ¬ (8 : Int) ≤ 1 by decide)) (fun _ => ?_)
  refine ec_aload_n (pc := 95) d_Plan_init_95 rfl rfl ?_
  refine ec_getr (pc := 96) (q := 4) ok (fl_Plan_11 t) rfl d_Plan_init_96 s_3 (by decide) (by decide +kernel) ?_
  refine ev_iload_n (pc := 99) d_Plan_init_99 rfl rfl ?_
  refine ec_new (pc := 100) (k := 36) (n := 228) ok cz_f42 cz_R43 d_Plan_init_100 (s_16 17 (by decide) (by decide)) k_2 rfl q_df2 (q_in 53 (by decide +kernel) rfl) (q_in 84 (by decide +kernel) rfl) (q_in 5 (by decide +kernel) rfl) rfl rfl ?_
  refine ev_dup (pc := 103) d_Plan_init_103 rfl ?_
  refine ec_callI (pc := 104) (k := 36) (n := 228) (c1 := 18) (f1 := cz_f44) (R1 := cz_R43) (mc := 0) (ms := 0) ok [] [q_a t 17, ma_i (1), q_a t 4] (cf_Plan_59 t) d_Plan_init_104 (t_Input_init t ok (s_16 17 (by decide) (by decide)) (by decide) cz_f42 cz_R43) rfl rfl (by decide) (by decide) (q_ble rfl) ?_
  refine ec_aast (pc := 107) cz_R45 d_Plan_init_107 s_4 (by decide) (by decide) (by decide) (by decide) (s_16 17 (by decide) (by decide)) (by decide) k_2 rfl rfl ?_
  refine ev_iinc (pc := 108) d_Plan_init_108 (by decide) rfl [(1, ma_i (2)), (0, q_a t 3)] rfl ?_
  refine ev_goto (pc := 111) (tgt := 89) d_Plan_init_111 (by decide) ?_
  refine ev_iload_n (pc := 89) d_Plan_init_89 rfl rfl ?_
  refine ev_bipush (pc := 90) d_Plan_init_90 rfl ?_
  refine ev_icmp_ge (pc := 92) (tgt := 114) d_Plan_init_92 (by decide) ⟨by decide, by decide⟩ ⟨by decide, by decide⟩ (fun hj => absurd hj (show ¬ (8 : Int) ≤ 2 by decide)) (fun _ => ?_)
  refine ec_aload_n (pc := 95) d_Plan_init_95 rfl rfl ?_
  refine ec_getr (pc := 96) (q := 4) ok (fl_Plan_11 t) rfl d_Plan_init_96 s_3 (by decide) (by decide +kernel) ?_
  refine ev_iload_n (pc := 99) d_Plan_init_99 rfl rfl ?_
  refine ec_new (pc := 100) (k := 35) (n := 223) ok cz_f46 cz_R47 d_Plan_init_100 (s_16 18 (by decide) (by decide)) k_2 rfl q_df2 (q_in 53 (by decide +kernel) rfl) (q_in 84 (by decide +kernel) rfl) (q_in 5 (by decide +kernel) rfl) rfl rfl ?_
  refine ev_dup (pc := 103) d_Plan_init_103 rfl ?_
  refine ec_callI (pc := 104) (k := 35) (n := 223) (c1 := 19) (f1 := cz_f48) (R1 := cz_R47) (mc := 0) (ms := 0) ok [] [q_a t 18, ma_i (2), q_a t 4] (cf_Plan_59 t) d_Plan_init_104 (t_Input_init t ok (s_16 18 (by decide) (by decide)) (by decide) cz_f46 cz_R47) rfl rfl (by decide) (by decide) (q_ble rfl) ?_
  refine ec_aast (pc := 107) cz_R49 d_Plan_init_107 s_4 (by decide) (by decide) (by decide) (by decide) (s_16 18 (by decide) (by decide)) (by decide) k_2 rfl rfl ?_
  refine ev_iinc (pc := 108) d_Plan_init_108 (by decide) rfl [(1, ma_i (3)), (0, q_a t 3)] rfl ?_
  refine ev_goto (pc := 111) (tgt := 89) d_Plan_init_111 (by decide) ?_
  refine ev_iload_n (pc := 89) d_Plan_init_89 rfl rfl ?_
  refine ev_bipush (pc := 90) d_Plan_init_90 rfl ?_
  refine ev_icmp_ge (pc := 92) (tgt := 114) d_Plan_init_92 (by decide) ⟨by decide, by decide⟩ ⟨by decide, by decide⟩ (fun hj => absurd hj (show ¬ (8 : Int) ≤ 3 by decide)) (fun _ => ?_)
  refine ec_aload_n (pc := 95) d_Plan_init_95 rfl rfl ?_
  refine ec_getr (pc := 96) (q := 4) ok (fl_Plan_11 t) rfl d_Plan_init_96 s_3 (by decide) (by decide +kernel) ?_
  refine ev_iload_n (pc := 99) d_Plan_init_99 rfl rfl ?_
  refine ec_new (pc := 100) (k := 34) (n := 218) ok cz_f50 cz_R51 d_Plan_init_100 (s_16 19 (by decide) (by decide)) k_2 rfl q_df2 (q_in 53 (by decide +kernel) rfl) (q_in 84 (by decide +kernel) rfl) (q_in 5 (by decide +kernel) rfl) rfl rfl ?_
  refine ev_dup (pc := 103) d_Plan_init_103 rfl ?_
  refine ec_callI (pc := 104) (k := 34) (n := 218) (c1 := 20) (f1 := cz_f52) (R1 := cz_R51) (mc := 0) (ms := 0) ok [] [q_a t 19, ma_i (3), q_a t 4] (cf_Plan_59 t) d_Plan_init_104 (t_Input_init t ok (s_16 19 (by decide) (by decide)) (by decide) cz_f50 cz_R51) rfl rfl (by decide) (by decide) (q_ble rfl) ?_
  refine ec_aast (pc := 107) cz_R53 d_Plan_init_107 s_4 (by decide) (by decide) (by decide) (by decide) (s_16 19 (by decide) (by decide)) (by decide) k_2 rfl rfl ?_
  refine ev_iinc (pc := 108) d_Plan_init_108 (by decide) rfl [(1, ma_i (4)), (0, q_a t 3)] rfl ?_
  refine ev_goto (pc := 111) (tgt := 89) d_Plan_init_111 (by decide) ?_
  refine ev_iload_n (pc := 89) d_Plan_init_89 rfl rfl ?_
  refine ev_bipush (pc := 90) d_Plan_init_90 rfl ?_
  refine ev_icmp_ge (pc := 92) (tgt := 114) d_Plan_init_92 (by decide) ⟨by decide, by decide⟩ ⟨by decide, by decide⟩ (fun hj => absurd hj (show ¬ (8 : Int) ≤ 4 by decide)) (fun _ => ?_)
  refine ec_aload_n (pc := 95) d_Plan_init_95 rfl rfl ?_
  refine ec_getr (pc := 96) (q := 4) ok (fl_Plan_11 t) rfl d_Plan_init_96 s_3 (by decide) (by decide +kernel) ?_
  refine ev_iload_n (pc := 99) d_Plan_init_99 rfl rfl ?_
  refine ec_new (pc := 100) (k := 33) (n := 213) ok cz_f54 cz_R55 d_Plan_init_100 (s_16 20 (by decide) (by decide)) k_2 rfl q_df2 (q_in 53 (by decide +kernel) rfl) (q_in 84 (by decide +kernel) rfl) (q_in 5 (by decide +kernel) rfl) rfl rfl ?_
  refine ev_dup (pc := 103) d_Plan_init_103 rfl ?_
  refine ec_callI (pc := 104) (k := 33) (n := 213) (c1 := 21) (f1 := cz_f56) (R1 := cz_R55) (mc := 0) (ms := 0) ok [] [q_a t 20, ma_i (4), q_a t 4] (cf_Plan_59 t) d_Plan_init_104 (t_Input_init t ok (s_16 20 (by decide) (by decide)) (by decide) cz_f54 cz_R55) rfl rfl (by decide) (by decide) (q_ble rfl) ?_
  refine ec_aast (pc := 107) cz_R57 d_Plan_init_107 s_4 (by decide) (by decide) (by decide) (by decide) (s_16 20 (by decide) (by decide)) (by decide) k_2 rfl rfl ?_
  refine ev_iinc (pc := 108) d_Plan_init_108 (by decide) rfl [(1, ma_i (5)), (0, q_a t 3)] rfl ?_
  refine ev_goto (pc := 111) (tgt := 89) d_Plan_init_111 (by decide) ?_
  refine ev_iload_n (pc := 89) d_Plan_init_89 rfl rfl ?_
  refine ev_bipush (pc := 90) d_Plan_init_90 rfl ?_
  refine ev_icmp_ge (pc := 92) (tgt := 114) d_Plan_init_92 (by decide) ⟨by decide, by decide⟩ ⟨by decide, by decide⟩ (fun hj => absurd hj (show ¬ (8 : Int) ≤ 5 by decide)) (fun _ => ?_)
  refine ec_aload_n (pc := 95) d_Plan_init_95 rfl rfl ?_
  refine ec_getr (pc := 96) (q := 4) ok (fl_Plan_11 t) rfl d_Plan_init_96 s_3 (by decide) (by decide +kernel) ?_
  refine ev_iload_n (pc := 99) d_Plan_init_99 rfl rfl ?_
  refine ec_new (pc := 100) (k := 32) (n := 208) ok cz_f58 cz_R59 d_Plan_init_100 (s_16 21 (by decide) (by decide)) k_2 rfl q_df2 (q_in 53 (by decide +kernel) rfl) (q_in 84 (by decide +kernel) rfl) (q_in 5 (by decide +kernel) rfl) rfl rfl ?_
  refine ev_dup (pc := 103) d_Plan_init_103 rfl ?_
  refine ec_callI (pc := 104) (k := 32) (n := 208) (c1 := 22) (f1 := cz_f60) (R1 := cz_R59) (mc := 0) (ms := 0) ok [] [q_a t 21, ma_i (5), q_a t 4] (cf_Plan_59 t) d_Plan_init_104 (t_Input_init t ok (s_16 21 (by decide) (by decide)) (by decide) cz_f58 cz_R59) rfl rfl (by decide) (by decide) (q_ble rfl) ?_
  refine ec_aast (pc := 107) cz_R61 d_Plan_init_107 s_4 (by decide) (by decide) (by decide) (by decide) (s_16 21 (by decide) (by decide)) (by decide) k_2 rfl rfl ?_
  refine ev_iinc (pc := 108) d_Plan_init_108 (by decide) rfl [(1, ma_i (6)), (0, q_a t 3)] rfl ?_
  refine ev_goto (pc := 111) (tgt := 89) d_Plan_init_111 (by decide) ?_
  refine ev_iload_n (pc := 89) d_Plan_init_89 rfl rfl ?_
  refine ev_bipush (pc := 90) d_Plan_init_90 rfl ?_
  refine ev_icmp_ge (pc := 92) (tgt := 114) d_Plan_init_92 (by decide) ⟨by decide, by decide⟩ ⟨by decide, by decide⟩ (fun hj => absurd hj (show ¬ (8 : Int) ≤ 6 by decide)) (fun _ => ?_)
  refine ec_aload_n (pc := 95) d_Plan_init_95 rfl rfl ?_
  refine ec_getr (pc := 96) (q := 4) ok (fl_Plan_11 t) rfl d_Plan_init_96 s_3 (by decide) (by decide +kernel) ?_
  refine ev_iload_n (pc := 99) d_Plan_init_99 rfl rfl ?_
  refine ec_new (pc := 100) (k := 31) (n := 203) ok cz_f62 cz_R63 d_Plan_init_100 (s_16 22 (by decide) (by decide)) k_2 rfl q_df2 (q_in 53 (by decide +kernel) rfl) (q_in 84 (by decide +kernel) rfl) (q_in 5 (by decide +kernel) rfl) rfl rfl ?_
  refine ev_dup (pc := 103) d_Plan_init_103 rfl ?_
  refine ec_callI (pc := 104) (k := 31) (n := 203) (c1 := 23) (f1 := cz_f64) (R1 := cz_R63) (mc := 0) (ms := 0) ok [] [q_a t 22, ma_i (6), q_a t 4] (cf_Plan_59 t) d_Plan_init_104 (t_Input_init t ok (s_16 22 (by decide) (by decide)) (by decide) cz_f62 cz_R63) rfl rfl (by decide) (by decide) (q_ble rfl) ?_
  refine ec_aast (pc := 107) cz_R65 d_Plan_init_107 s_4 (by decide) (by decide) (by decide) (by decide) (s_16 22 (by decide) (by decide)) (by decide) k_2 rfl rfl ?_
  refine ev_iinc (pc := 108) d_Plan_init_108 (by decide) rfl [(1, ma_i (7)), (0, q_a t 3)] rfl ?_
  refine ev_goto (pc := 111) (tgt := 89) d_Plan_init_111 (by decide) ?_
  refine ev_iload_n (pc := 89) d_Plan_init_89 rfl rfl ?_
  refine ev_bipush (pc := 90) d_Plan_init_90 rfl ?_
  refine ev_icmp_ge (pc := 92) (tgt := 114) d_Plan_init_92 (by decide) ⟨by decide, by decide⟩ ⟨by decide, by decide⟩ (fun hj => absurd hj (show ¬ (8 : Int) ≤ 7 by decide)) (fun _ => ?_)
  refine ec_aload_n (pc := 95) d_Plan_init_95 rfl rfl ?_
  refine ec_getr (pc := 96) (q := 4) ok (fl_Plan_11 t) rfl d_Plan_init_96 s_3 (by decide) (by decide +kernel) ?_
  refine ev_iload_n (pc := 99) d_Plan_init_99 rfl rfl ?_
  refine ec_new (pc := 100) (k := 30) (n := 198) ok cz_f66 cz_R67 d_Plan_init_100 (s_16 23 (by decide) (by decide)) k_2 rfl q_df2 (q_in 53 (by decide +kernel) rfl) (q_in 84 (by decide +kernel) rfl) (q_in 5 (by decide +kernel) rfl) rfl rfl ?_
  refine ev_dup (pc := 103) d_Plan_init_103 rfl ?_
  refine ec_callI (pc := 104) (k := 30) (n := 198) (c1 := 24) (f1 := cz_f68) (R1 := cz_R67) (mc := 0) (ms := 0) ok [] [q_a t 23, ma_i (7), q_a t 4] (cf_Plan_59 t) d_Plan_init_104 (t_Input_init t ok (s_16 23 (by decide) (by decide)) (by decide) cz_f66 cz_R67) rfl rfl (by decide) (by decide) (q_ble rfl) ?_
  refine ec_aast (pc := 107) cz_R69 d_Plan_init_107 s_4 (by decide) (by decide) (by decide) (by decide) (s_16 23 (by decide) (by decide)) (by decide) k_2 rfl rfl ?_
  refine ev_iinc (pc := 108) d_Plan_init_108 (by decide) rfl [(1, ma_i (8)), (0, q_a t 3)] rfl ?_
  refine ev_goto (pc := 111) (tgt := 89) d_Plan_init_111 (by decide) ?_
  refine ev_iload_n (pc := 89) d_Plan_init_89 rfl rfl ?_
  refine ev_bipush (pc := 90) d_Plan_init_90 rfl ?_
  refine ev_icmp_ge (pc := 92) (tgt := 114) d_Plan_init_92 (by decide) ⟨by decide, by decide⟩ ⟨by decide, by decide⟩ (fun _ => ?_) (fun hj => absurd (show (8 : Int) ≤ 8 by decide) hj)
  refine ev_iconst (pc := 114) d_Plan_init_114  ?_
  refine ev_istore_n (pc := 115) d_Plan_init_115 rfl (by decide) [(1, ma_i (0)), (0, q_a t 3)] rfl ?_
  refine ev_iload_n (pc := 116) d_Plan_init_116 rfl rfl ?_
  refine ev_iconst (pc := 117) d_Plan_init_117  ?_
  refine ev_icmp_ge (pc := 118) (tgt := 140) d_Plan_init_118 (by decide) ⟨by decide, by decide⟩ ⟨by decide, by decide⟩ (fun hj => absurd hj (show ¬ (4 : Int) ≤ 0 by decide)) (fun _ => ?_)
  refine ec_aload_n (pc := 121) d_Plan_init_121 rfl rfl ?_
  refine ec_getr (pc := 122) (q := 5) ok (fl_Plan_19 t) rfl d_Plan_init_122 s_3 (by decide) (by decide +kernel) ?_
  refine ev_iload_n (pc := 125) d_Plan_init_125 rfl rfl ?_
  refine ec_new (pc := 126) (k := 29) (n := 195) ok cz_f70 cz_R71 d_Plan_init_126 (s_24 24 (by decide) (by decide)) k_3 rfl q_df3 (q_in 55 (by decide +kernel) rfl) (q_in 115 (by decide +kernel) rfl) (q_in 6 (by decide +kernel) rfl) rfl rfl ?_
  refine ev_dup (pc := 129) d_Plan_init_129 rfl ?_
  refine ec_callI (pc := 130) (k := 29) (n := 195) (c1 := 25) (f1 := cz_f72) (R1 := cz_R71) (mc := 0) (ms := 0) ok [] [q_a t 24, ma_i (0), q_a t 5] (cf_Plan_60 t) d_Plan_init_130 (t_Region_init t ok (s_24 24 (by decide) (by decide)) (by decide) cz_f70 cz_R71) rfl rfl (by decide) (by decide) (q_ble rfl) ?_
  refine ec_aast (pc := 133) cz_R73 d_Plan_init_133 s_5 (by decide) (by decide) (by decide) (by decide) (s_24 24 (by decide) (by decide)) (by decide) k_3 rfl rfl ?_
  refine ev_iinc (pc := 134) d_Plan_init_134 (by decide) rfl [(1, ma_i (1)), (0, q_a t 3)] rfl ?_
  refine ev_goto (pc := 137) (tgt := 116) d_Plan_init_137 (by decide) ?_
  refine ev_iload_n (pc := 116) d_Plan_init_116 rfl rfl ?_
  refine ev_iconst (pc := 117) d_Plan_init_117  ?_
  refine ev_icmp_ge (pc := 118) (tgt := 140) d_Plan_init_118 (by decide) ⟨by decide, by decide⟩ ⟨by decide, by decide⟩ (fun hj => absurd hj (show ¬ (4 : Int) ≤ 1 by decide)) (fun _ => ?_)
  refine ec_aload_n (pc := 121) d_Plan_init_121 rfl rfl ?_
  refine ec_getr (pc := 122) (q := 5) ok (fl_Plan_19 t) rfl d_Plan_init_122 s_3 (by decide) (by decide +kernel) ?_
  refine ev_iload_n (pc := 125) d_Plan_init_125 rfl rfl ?_
  refine ec_new (pc := 126) (k := 28) (n := 192) ok cz_f74 cz_R75 d_Plan_init_126 (s_24 25 (by decide) (by decide)) k_3 rfl q_df3 (q_in 55 (by decide +kernel) rfl) (q_in 115 (by decide +kernel) rfl) (q_in 6 (by decide +kernel) rfl) rfl rfl ?_
  refine ev_dup (pc := 129) d_Plan_init_129 rfl ?_
  refine ec_callI (pc := 130) (k := 28) (n := 192) (c1 := 26) (f1 := cz_f76) (R1 := cz_R75) (mc := 0) (ms := 0) ok [] [q_a t 25, ma_i (1), q_a t 5] (cf_Plan_60 t) d_Plan_init_130 (t_Region_init t ok (s_24 25 (by decide) (by decide)) (by decide) cz_f74 cz_R75) rfl rfl (by decide) (by decide) (q_ble rfl) ?_
  refine ec_aast (pc := 133) cz_R77 d_Plan_init_133 s_5 (by decide) (by decide) (by decide) (by decide) (s_24 25 (by decide) (by decide)) (by decide) k_3 rfl rfl ?_
  refine ev_iinc (pc := 134) d_Plan_init_134 (by decide) rfl [(1, ma_i (2)), (0, q_a t 3)] rfl ?_
  refine ev_goto (pc := 137) (tgt := 116) d_Plan_init_137 (by decide) ?_
  refine ev_iload_n (pc := 116) d_Plan_init_116 rfl rfl ?_
  refine ev_iconst (pc := 117) d_Plan_init_117  ?_
  refine ev_icmp_ge (pc := 118) (tgt := 140) d_Plan_init_118 (by decide) ⟨by decide, by decide⟩ ⟨by decide, by decide⟩ (fun hj => absurd hj (show ¬ (4 : Int) ≤ 2 by decide)) (fun _ => ?_)
  refine ec_aload_n (pc := 121) d_Plan_init_121 rfl rfl ?_
  refine ec_getr (pc := 122) (q := 5) ok (fl_Plan_19 t) rfl d_Plan_init_122 s_3 (by decide) (by decide +kernel) ?_
  refine ev_iload_n (pc := 125) d_Plan_init_125 rfl rfl ?_
  refine ec_new (pc := 126) (k := 27) (n := 189) ok cz_f78 cz_R79 d_Plan_init_126 (s_24 26 (by decide) (by decide)) k_3 rfl q_df3 (q_in 55 (by decide +kernel) rfl) (q_in 115 (by decide +kernel) rfl) (q_in 6 (by decide +kernel) rfl) rfl rfl ?_
  refine ev_dup (pc := 129) d_Plan_init_129 rfl ?_
  refine ec_callI (pc := 130) (k := 27) (n := 189) (c1 := 27) (f1 := cz_f80) (R1 := cz_R79) (mc := 0) (ms := 0) ok [] [q_a t 26, ma_i (2), q_a t 5] (cf_Plan_60 t) d_Plan_init_130 (t_Region_init t ok (s_24 26 (by decide) (by decide)) (by decide) cz_f78 cz_R79) rfl rfl (by decide) (by decide) (q_ble rfl) ?_
  refine ec_aast (pc := 133) cz_R81 d_Plan_init_133 s_5 (by decide) (by decide) (by decide) (by decide) (s_24 26 (by decide) (by decide)) (by decide) k_3 rfl rfl ?_
  refine ev_iinc (pc := 134) d_Plan_init_134 (by decide) rfl [(1, ma_i (3)), (0, q_a t 3)] rfl ?_
  refine ev_goto (pc := 137) (tgt := 116) d_Plan_init_137 (by decide) ?_
  refine ev_iload_n (pc := 116) d_Plan_init_116 rfl rfl ?_
  refine ev_iconst (pc := 117) d_Plan_init_117  ?_
  refine ev_icmp_ge (pc := 118) (tgt := 140) d_Plan_init_118 (by decide) ⟨by decide, by decide⟩ ⟨by decide, by decide⟩ (fun hj => absurd hj (show ¬ (4 : Int) ≤ 3 by decide)) (fun _ => ?_)
  refine ec_aload_n (pc := 121) d_Plan_init_121 rfl rfl ?_
  refine ec_getr (pc := 122) (q := 5) ok (fl_Plan_19 t) rfl d_Plan_init_122 s_3 (by decide) (by decide +kernel) ?_
  refine ev_iload_n (pc := 125) d_Plan_init_125 rfl rfl ?_
  refine ec_new (pc := 126) (k := 26) (n := 186) ok cz_f82 cz_R83 d_Plan_init_126 (s_24 27 (by decide) (by decide)) k_3 rfl q_df3 (q_in 55 (by decide +kernel) rfl) (q_in 115 (by decide +kernel) rfl) (q_in 6 (by decide +kernel) rfl) rfl rfl ?_
  refine ev_dup (pc := 129) d_Plan_init_129 rfl ?_
  refine ec_callI (pc := 130) (k := 26) (n := 186) (c1 := 28) (f1 := cz_f84) (R1 := cz_R83) (mc := 0) (ms := 0) ok [] [q_a t 27, ma_i (3), q_a t 5] (cf_Plan_60 t) d_Plan_init_130 (t_Region_init t ok (s_24 27 (by decide) (by decide)) (by decide) cz_f82 cz_R83) rfl rfl (by decide) (by decide) (q_ble rfl) ?_
  refine ec_aast (pc := 133) cz_R85 d_Plan_init_133 s_5 (by decide) (by decide) (by decide) (by decide) (s_24 27 (by decide) (by decide)) (by decide) k_3 rfl rfl ?_
  refine ev_iinc (pc := 134) d_Plan_init_134 (by decide) rfl [(1, ma_i (4)), (0, q_a t 3)] rfl ?_
  refine ev_goto (pc := 137) (tgt := 116) d_Plan_init_137 (by decide) ?_
  refine ev_iload_n (pc := 116) d_Plan_init_116 rfl rfl ?_
  refine ev_iconst (pc := 117) d_Plan_init_117  ?_
  refine ev_icmp_ge (pc := 118) (tgt := 140) d_Plan_init_118 (by decide) ⟨by decide, by decide⟩ ⟨by decide, by decide⟩ (fun _ => ?_) (fun hj => absurd (show (4 : Int) ≤ 4 by decide) hj)
  refine ev_iconst (pc := 140) d_Plan_init_140  ?_
  refine ev_istore_n (pc := 141) d_Plan_init_141 rfl (by decide) [(1, ma_i (0)), (0, q_a t 3)] rfl ?_
  refine ev_iload_n (pc := 142) d_Plan_init_142 rfl rfl ?_
  refine ev_bipush (pc := 143) d_Plan_init_143 rfl ?_
  refine ev_icmp_ge (pc := 145) (tgt := 167) d_Plan_init_145 (by decide) ⟨by decide, by decide⟩ ⟨by decide, by decide⟩ (fun hj => absurd hj (show ¬ (8 : Int) ≤ 0 by decide)) (fun _ => ?_)
  refine ec_aload_n (pc := 148) d_Plan_init_148 rfl rfl ?_
  refine ec_getr (pc := 149) (q := 6) ok (fl_Plan_25 t) rfl d_Plan_init_149 s_3 (by decide) (by decide +kernel) ?_
  refine ev_iload_n (pc := 152) d_Plan_init_152 rfl rfl ?_
  refine ec_new (pc := 153) (k := 25) (n := 174) ok cz_f86 cz_R87 d_Plan_init_153 (s_28 28 (by decide) (by decide)) k_4 rfl q_df4 (q_in 57 (by decide +kernel) rfl) (q_in 135 (by decide +kernel) rfl) (q_in 7 (by decide +kernel) rfl) rfl rfl ?_
  refine ev_dup (pc := 156) d_Plan_init_156 rfl ?_
  refine ec_callI (pc := 157) (k := 25) (n := 174) (c1 := 29) (f1 := cz_f88) (R1 := cz_R87) (mc := 0) (ms := 0) ok [] [q_a t 28, ma_i (0), q_a t 6] (cf_Plan_61 t) d_Plan_init_157 (t_Section_init t ok (s_28 28 (by decide) (by decide)) (by decide) cz_f86 cz_R87) rfl rfl (by decide) (by decide) (q_ble rfl) ?_
  refine ec_aast (pc := 160) cz_R89 d_Plan_init_160 s_6 (by decide) (by decide) (by decide) (by decide) (s_28 28 (by decide) (by decide)) (by decide) k_4 rfl rfl ?_
  refine ev_iinc (pc := 161) d_Plan_init_161 (by decide) rfl [(1, ma_i (1)), (0, q_a t 3)] rfl ?_
  refine ev_goto (pc := 164) (tgt := 142) d_Plan_init_164 (by decide) ?_
  refine ev_iload_n (pc := 142) d_Plan_init_142 rfl rfl ?_
  refine ev_bipush (pc := 143) d_Plan_init_143 rfl ?_
  refine ev_icmp_ge (pc := 145) (tgt := 167) d_Plan_init_145 (by decide) ⟨by decide, by decide⟩ ⟨by decide, by decide⟩ (fun hj => absurd hj (show ¬ (8 : Int) ≤ 1 by decide)) (fun _ => ?_)
  refine ec_aload_n (pc := 148) d_Plan_init_148 rfl rfl ?_
  refine ec_getr (pc := 149) (q := 6) ok (fl_Plan_25 t) rfl d_Plan_init_149 s_3 (by decide) (by decide +kernel) ?_
  refine ev_iload_n (pc := 152) d_Plan_init_152 rfl rfl ?_
  refine ec_new (pc := 153) (k := 24) (n := 162) ok cz_f90 cz_R91 d_Plan_init_153 (s_28 29 (by decide) (by decide)) k_4 rfl q_df4 (q_in 57 (by decide +kernel) rfl) (q_in 135 (by decide +kernel) rfl) (q_in 7 (by decide +kernel) rfl) rfl rfl ?_
  refine ev_dup (pc := 156) d_Plan_init_156 rfl ?_
  refine ec_callI (pc := 157) (k := 24) (n := 162) (c1 := 30) (f1 := cz_f92) (R1 := cz_R91) (mc := 0) (ms := 0) ok [] [q_a t 29, ma_i (1), q_a t 6] (cf_Plan_61 t) d_Plan_init_157 (t_Section_init t ok (s_28 29 (by decide) (by decide)) (by decide) cz_f90 cz_R91) rfl rfl (by decide) (by decide) (q_ble rfl) ?_
  refine ec_aast (pc := 160) cz_R93 d_Plan_init_160 s_6 (by decide) (by decide) (by decide) (by decide) (s_28 29 (by decide) (by decide)) (by decide) k_4 rfl rfl ?_
  refine ev_iinc (pc := 161) d_Plan_init_161 (by decide) rfl [(1, ma_i (2)), (0, q_a t 3)] rfl ?_
  refine ev_goto (pc := 164) (tgt := 142) d_Plan_init_164 (by decide) ?_
  refine ev_iload_n (pc := 142) d_Plan_init_142 rfl rfl ?_
  refine ev_bipush (pc := 143) d_Plan_init_143 rfl ?_
  refine ev_icmp_ge (pc := 145) (tgt := 167) d_Plan_init_145 (by decide) ⟨by decide, by decide⟩ ⟨by decide, by decide⟩ (fun hj => absurd hj (show ¬ (8 : Int) ≤ 2 by decide)) (fun _ => ?_)
  refine ec_aload_n (pc := 148) d_Plan_init_148 rfl rfl ?_
  refine ec_getr (pc := 149) (q := 6) ok (fl_Plan_25 t) rfl d_Plan_init_149 s_3 (by decide) (by decide +kernel) ?_
  refine ev_iload_n (pc := 152) d_Plan_init_152 rfl rfl ?_
  refine ec_new (pc := 153) (k := 23) (n := 150) ok cz_f94 cz_R95 d_Plan_init_153 (s_28 30 (by decide) (by decide)) k_4 rfl q_df4 (q_in 57 (by decide +kernel) rfl) (q_in 135 (by decide +kernel) rfl) (q_in 7 (by decide +kernel) rfl) rfl rfl ?_
  refine ev_dup (pc := 156) d_Plan_init_156 rfl ?_
  refine ec_callI (pc := 157) (k := 23) (n := 150) (c1 := 31) (f1 := cz_f96) (R1 := cz_R95) (mc := 0) (ms := 0) ok [] [q_a t 30, ma_i (2), q_a t 6] (cf_Plan_61 t) d_Plan_init_157 (t_Section_init t ok (s_28 30 (by decide) (by decide)) (by decide) cz_f94 cz_R95) rfl rfl (by decide) (by decide) (q_ble rfl) ?_
  refine ec_aast (pc := 160) cz_R97 d_Plan_init_160 s_6 (by decide) (by decide) (by decide) (by decide) (s_28 30 (by decide) (by decide)) (by decide) k_4 rfl rfl ?_
  refine ev_iinc (pc := 161) d_Plan_init_161 (by decide) rfl [(1, ma_i (3)), (0, q_a t 3)] rfl ?_
  refine ev_goto (pc := 164) (tgt := 142) d_Plan_init_164 (by decide) ?_
  refine ev_iload_n (pc := 142) d_Plan_init_142 rfl rfl ?_
  refine ev_bipush (pc := 143) d_Plan_init_143 rfl ?_
  refine ev_icmp_ge (pc := 145) (tgt := 167) d_Plan_init_145 (by decide) ⟨by decide, by decide⟩ ⟨by decide, by decide⟩ (fun hj => absurd hj (show ¬ (8 : Int) ≤ 3 by decide)) (fun _ => ?_)
  refine ec_aload_n (pc := 148) d_Plan_init_148 rfl rfl ?_
  refine ec_getr (pc := 149) (q := 6) ok (fl_Plan_25 t) rfl d_Plan_init_149 s_3 (by decide) (by decide +kernel) ?_
  refine ev_iload_n (pc := 152) d_Plan_init_152 rfl rfl ?_
  refine ec_new (pc := 153) (k := 22) (n := 138) ok cz_f98 cz_R99 d_Plan_init_153 (s_28 31 (by decide) (by decide)) k_4 rfl q_df4 (q_in 57 (by decide +kernel) rfl) (q_in 135 (by decide +kernel) rfl) (q_in 7 (by decide +kernel) rfl) rfl rfl ?_
  refine ev_dup (pc := 156) d_Plan_init_156 rfl ?_
  refine ec_callI (pc := 157) (k := 22) (n := 138) (c1 := 32) (f1 := cz_f100) (R1 := cz_R99) (mc := 0) (ms := 0) ok [] [q_a t 31, ma_i (3), q_a t 6] (cf_Plan_61 t) d_Plan_init_157 (t_Section_init t ok (s_28 31 (by decide) (by decide)) (by decide) cz_f98 cz_R99) rfl rfl (by decide) (by decide) (q_ble rfl) ?_
  refine ec_aast (pc := 160) cz_R101 d_Plan_init_160 s_6 (by decide) (by decide) (by decide) (by decide) (s_28 31 (by decide) (by decide)) (by decide) k_4 rfl rfl ?_
  refine ev_iinc (pc := 161) d_Plan_init_161 (by decide) rfl [(1, ma_i (4)), (0, q_a t 3)] rfl ?_
  refine ev_goto (pc := 164) (tgt := 142) d_Plan_init_164 (by decide) ?_
  refine ev_iload_n (pc := 142) d_Plan_init_142 rfl rfl ?_
  refine ev_bipush (pc := 143) d_Plan_init_143 rfl ?_
  refine ev_icmp_ge (pc := 145) (tgt := 167) d_Plan_init_145 (by decide) ⟨by decide, by decide⟩ ⟨by decide, by decide⟩ (fun hj => absurd hj (show ¬ (8 : Int) ≤ 4 by decide)) (fun _ => ?_)
  refine ec_aload_n (pc := 148) d_Plan_init_148 rfl rfl ?_
  refine ec_getr (pc := 149) (q := 6) ok (fl_Plan_25 t) rfl d_Plan_init_149 s_3 (by decide) (by decide +kernel) ?_
  refine ev_iload_n (pc := 152) d_Plan_init_152 rfl rfl ?_
  refine ec_new (pc := 153) (k := 21) (n := 126) ok cz_f102 cz_R103 d_Plan_init_153 (s_28 32 (by decide) (by decide)) k_4 rfl q_df4 (q_in 57 (by decide +kernel) rfl) (q_in 135 (by decide +kernel) rfl) (q_in 7 (by decide +kernel) rfl) rfl rfl ?_
  refine ev_dup (pc := 156) d_Plan_init_156 rfl ?_
  refine ec_callI (pc := 157) (k := 21) (n := 126) (c1 := 33) (f1 := cz_f104) (R1 := cz_R103) (mc := 0) (ms := 0) ok [] [q_a t 32, ma_i (4), q_a t 6] (cf_Plan_61 t) d_Plan_init_157 (t_Section_init t ok (s_28 32 (by decide) (by decide)) (by decide) cz_f102 cz_R103) rfl rfl (by decide) (by decide) (q_ble rfl) ?_
  refine ec_aast (pc := 160) cz_R105 d_Plan_init_160 s_6 (by decide) (by decide) (by decide) (by decide) (s_28 32 (by decide) (by decide)) (by decide) k_4 rfl rfl ?_
  refine ev_iinc (pc := 161) d_Plan_init_161 (by decide) rfl [(1, ma_i (5)), (0, q_a t 3)] rfl ?_
  refine ev_goto (pc := 164) (tgt := 142) d_Plan_init_164 (by decide) ?_
  refine ev_iload_n (pc := 142) d_Plan_init_142 rfl rfl ?_
  refine ev_bipush (pc := 143) d_Plan_init_143 rfl ?_
  refine ev_icmp_ge (pc := 145) (tgt := 167) d_Plan_init_145 (by decide) ⟨by decide, by decide⟩ ⟨by decide, by decide⟩ (fun hj => absurd hj (show ¬ (8 : Int) ≤ 5 by decide)) (fun _ => ?_)
  refine ec_aload_n (pc := 148) d_Plan_init_148 rfl rfl ?_
  refine ec_getr (pc := 149) (q := 6) ok (fl_Plan_25 t) rfl d_Plan_init_149 s_3 (by decide) (by decide +kernel) ?_
  refine ev_iload_n (pc := 152) d_Plan_init_152 rfl rfl ?_
  refine ec_new (pc := 153) (k := 20) (n := 114) ok cz_f106 cz_R107 d_Plan_init_153 (s_28 33 (by decide) (by decide)) k_4 rfl q_df4 (q_in 57 (by decide +kernel) rfl) (q_in 135 (by decide +kernel) rfl) (q_in 7 (by decide +kernel) rfl) rfl rfl ?_
  refine ev_dup (pc := 156) d_Plan_init_156 rfl ?_
  refine ec_callI (pc := 157) (k := 20) (n := 114) (c1 := 34) (f1 := cz_f108) (R1 := cz_R107) (mc := 0) (ms := 0) ok [] [q_a t 33, ma_i (5), q_a t 6] (cf_Plan_61 t) d_Plan_init_157 (t_Section_init t ok (s_28 33 (by decide) (by decide)) (by decide) cz_f106 cz_R107) rfl rfl (by decide) (by decide) (q_ble rfl) ?_
  refine ec_aast (pc := 160) cz_R109 d_Plan_init_160 s_6 (by decide) (by decide) (by decide) (by decide) (s_28 33 (by decide) (by decide)) (by decide) k_4 rfl rfl ?_
  refine ev_iinc (pc := 161) d_Plan_init_161 (by decide) rfl [(1, ma_i (6)), (0, q_a t 3)] rfl ?_
  refine ev_goto (pc := 164) (tgt := 142) d_Plan_init_164 (by decide) ?_
  refine ev_iload_n (pc := 142) d_Plan_init_142 rfl rfl ?_
  refine ev_bipush (pc := 143) d_Plan_init_143 rfl ?_
  refine ev_icmp_ge (pc := 145) (tgt := 167) d_Plan_init_145 (by decide) ⟨by decide, by decide⟩ ⟨by decide, by decide⟩ (fun hj => absurd hj (show ¬ (8 : Int) ≤ 6 by decide)) (fun _ => ?_)
  refine ec_aload_n (pc := 148) d_Plan_init_148 rfl rfl ?_
  refine ec_getr (pc := 149) (q := 6) ok (fl_Plan_25 t) rfl d_Plan_init_149 s_3 (by decide) (by decide +kernel) ?_
  refine ev_iload_n (pc := 152) d_Plan_init_152 rfl rfl ?_
  refine ec_new (pc := 153) (k := 19) (n := 102) ok cz_f110 cz_R111 d_Plan_init_153 (s_28 34 (by decide) (by decide)) k_4 rfl q_df4 (q_in 57 (by decide +kernel) rfl) (q_in 135 (by decide +kernel) rfl) (q_in 7 (by decide +kernel) rfl) rfl rfl ?_
  refine ev_dup (pc := 156) d_Plan_init_156 rfl ?_
  refine ec_callI (pc := 157) (k := 19) (n := 102) (c1 := 35) (f1 := cz_f112) (R1 := cz_R111) (mc := 0) (ms := 0) ok [] [q_a t 34, ma_i (6), q_a t 6] (cf_Plan_61 t) d_Plan_init_157 (t_Section_init t ok (s_28 34 (by decide) (by decide)) (by decide) cz_f110 cz_R111) rfl rfl (by decide) (by decide) (q_ble rfl) ?_
  refine ec_aast (pc := 160) cz_R113 d_Plan_init_160 s_6 (by decide) (by decide) (by decide) (by decide) (s_28 34 (by decide) (by decide)) (by decide) k_4 rfl rfl ?_
  refine ev_iinc (pc := 161) d_Plan_init_161 (by decide) rfl [(1, ma_i (7)), (0, q_a t 3)] rfl ?_
  refine ev_goto (pc := 164) (tgt := 142) d_Plan_init_164 (by decide) ?_
  refine ev_iload_n (pc := 142) d_Plan_init_142 rfl rfl ?_
  refine ev_bipush (pc := 143) d_Plan_init_143 rfl ?_
  refine ev_icmp_ge (pc := 145) (tgt := 167) d_Plan_init_145 (by decide) ⟨by decide, by decide⟩ ⟨by decide, by decide⟩ (fun hj => absurd hj (show ¬ (8 : Int) ≤ 7 by decide)) (fun _ => ?_)
  refine ec_aload_n (pc := 148) d_Plan_init_148 rfl rfl ?_
  refine ec_getr (pc := 149) (q := 6) ok (fl_Plan_25 t) rfl d_Plan_init_149 s_3 (by decide) (by decide +kernel) ?_
  refine ev_iload_n (pc := 152) d_Plan_init_152 rfl rfl ?_
  refine ec_new (pc := 153) (k := 18) (n := 90) ok cz_f114 cz_R115 d_Plan_init_153 (s_28 35 (by decide) (by decide)) k_4 rfl q_df4 (q_in 57 (by decide +kernel) rfl) (q_in 135 (by decide +kernel) rfl) (q_in 7 (by decide +kernel) rfl) rfl rfl ?_
  refine ev_dup (pc := 156) d_Plan_init_156 rfl ?_
  refine ec_callI (pc := 157) (k := 18) (n := 90) (c1 := 36) (f1 := cz_f116) (R1 := cz_R115) (mc := 0) (ms := 0) ok [] [q_a t 35, ma_i (7), q_a t 6] (cf_Plan_61 t) d_Plan_init_157 (t_Section_init t ok (s_28 35 (by decide) (by decide)) (by decide) cz_f114 cz_R115) rfl rfl (by decide) (by decide) (q_ble rfl) ?_
  refine ec_aast (pc := 160) cz_R117 d_Plan_init_160 s_6 (by decide) (by decide) (by decide) (by decide) (s_28 35 (by decide) (by decide)) (by decide) k_4 rfl rfl ?_
  refine ev_iinc (pc := 161) d_Plan_init_161 (by decide) rfl [(1, ma_i (8)), (0, q_a t 3)] rfl ?_
  refine ev_goto (pc := 164) (tgt := 142) d_Plan_init_164 (by decide) ?_
  refine ev_iload_n (pc := 142) d_Plan_init_142 rfl rfl ?_
  refine ev_bipush (pc := 143) d_Plan_init_143 rfl ?_
  refine ev_icmp_ge (pc := 145) (tgt := 167) d_Plan_init_145 (by decide) ⟨by decide, by decide⟩ ⟨by decide, by decide⟩ (fun _ => ?_) (fun hj => absurd (show (8 : Int) ≤ 8 by decide) hj)
  refine ev_iconst (pc := 167) d_Plan_init_167  ?_
  refine ev_istore_n (pc := 168) d_Plan_init_168 rfl (by decide) [(1, ma_i (0)), (0, q_a t 3)] rfl ?_
  refine ev_iload_n (pc := 169) d_Plan_init_169 rfl rfl ?_
  refine ev_bipush (pc := 170) d_Plan_init_170 rfl ?_
  refine ev_icmp_ge (pc := 172) (tgt := 194) d_Plan_init_172 (by decide) ⟨by decide, by decide⟩ ⟨by decide, by decide⟩ (fun hj => absurd hj (show ¬ (18 : Int) ≤ 0 by decide)) (fun _ => ?_)
  refine ec_aload_n (pc := 175) d_Plan_init_175 rfl rfl ?_
  refine ec_getr (pc := 176) (q := 7) ok (fl_Plan_31 t) rfl d_Plan_init_176 s_3 (by decide) (by decide +kernel) ?_
  refine ev_iload_n (pc := 179) d_Plan_init_179 rfl rfl ?_
  refine ec_new (pc := 180) (k := 17) (n := 85) ok cz_f118 cz_R119 d_Plan_init_180 (s_36 36 (by decide) (by decide)) k_5 rfl q_df5 (q_in 59 (by decide +kernel) rfl) (q_in 216 (by decide +kernel) rfl) (q_in 8 (by decide +kernel) rfl) rfl rfl ?_
  refine ev_dup (pc := 183) d_Plan_init_183 rfl ?_
  refine ec_callI (pc := 184) (k := 17) (n := 85) (c1 := 37) (f1 := cz_f120) (R1 := cz_R119) (mc := 0) (ms := 0) ok [] [q_a t 36, ma_i (0), q_a t 7] (cf_Plan_62 t) d_Plan_init_184 (t_Symbol_init t ok (s_36 36 (by decide) (by decide)) (by decide) cz_f118 cz_R119) rfl rfl (by decide) (by decide) (q_ble rfl) ?_
  refine ec_aast (pc := 187) cz_R121 d_Plan_init_187 s_7 (by decide) (by decide) (by decide) (by decide) (s_36 36 (by decide) (by decide)) (by decide) k_5 rfl rfl ?_
  refine ev_iinc (pc := 188) d_Plan_init_188 (by decide) rfl [(1, ma_i (1)), (0, q_a t 3)] rfl ?_
  refine ev_goto (pc := 191) (tgt := 169) d_Plan_init_191 (by decide) ?_
  refine ev_iload_n (pc := 169) d_Plan_init_169 rfl rfl ?_
  refine ev_bipush (pc := 170) d_Plan_init_170 rfl ?_
  refine ev_icmp_ge (pc := 172) (tgt := 194) d_Plan_init_172 (by decide) ⟨by decide, by decide⟩ ⟨by decide, by decide⟩ (fun hj => absurd hj (show ¬ (18 : Int) ≤ 1 by decide)) (fun _ => ?_)
  refine ec_aload_n (pc := 175) d_Plan_init_175 rfl rfl ?_
  refine ec_getr (pc := 176) (q := 7) ok (fl_Plan_31 t) rfl d_Plan_init_176 s_3 (by decide) (by decide +kernel) ?_
  refine ev_iload_n (pc := 179) d_Plan_init_179 rfl rfl ?_
  refine ec_new (pc := 180) (k := 16) (n := 80) ok cz_f122 cz_R123 d_Plan_init_180 (s_36 37 (by decide) (by decide)) k_5 rfl q_df5 (q_in 59 (by decide +kernel) rfl) (q_in 216 (by decide +kernel) rfl) (q_in 8 (by decide +kernel) rfl) rfl rfl ?_
  refine ev_dup (pc := 183) d_Plan_init_183 rfl ?_
  refine ec_callI (pc := 184) (k := 16) (n := 80) (c1 := 38) (f1 := cz_f124) (R1 := cz_R123) (mc := 0) (ms := 0) ok [] [q_a t 37, ma_i (1), q_a t 7] (cf_Plan_62 t) d_Plan_init_184 (t_Symbol_init t ok (s_36 37 (by decide) (by decide)) (by decide) cz_f122 cz_R123) rfl rfl (by decide) (by decide) (q_ble rfl) ?_
  refine ec_aast (pc := 187) cz_R125 d_Plan_init_187 s_7 (by decide) (by decide) (by decide) (by decide) (s_36 37 (by decide) (by decide)) (by decide) k_5 rfl rfl ?_
  refine ev_iinc (pc := 188) d_Plan_init_188 (by decide) rfl [(1, ma_i (2)), (0, q_a t 3)] rfl ?_
  refine ev_goto (pc := 191) (tgt := 169) d_Plan_init_191 (by decide) ?_
  refine ev_iload_n (pc := 169) d_Plan_init_169 rfl rfl ?_
  refine ev_bipush (pc := 170) d_Plan_init_170 rfl ?_
  refine ev_icmp_ge (pc := 172) (tgt := 194) d_Plan_init_172 (by decide) ⟨by decide, by decide⟩ ⟨by decide, by decide⟩ (fun hj => absurd hj (show ¬ (18 : Int) ≤ 2 by decide)) (fun _ => ?_)
  refine ec_aload_n (pc := 175) d_Plan_init_175 rfl rfl ?_
  refine ec_getr (pc := 176) (q := 7) ok (fl_Plan_31 t) rfl d_Plan_init_176 s_3 (by decide) (by decide +kernel) ?_
  refine ev_iload_n (pc := 179) d_Plan_init_179 rfl rfl ?_
  refine ec_new (pc := 180) (k := 15) (n := 75) ok cz_f126 cz_R127 d_Plan_init_180 (s_36 38 (by decide) (by decide)) k_5 rfl q_df5 (q_in 59 (by decide +kernel) rfl) (q_in 216 (by decide +kernel) rfl) (q_in 8 (by decide +kernel) rfl) rfl rfl ?_
  refine ev_dup (pc := 183) d_Plan_init_183 rfl ?_
  refine ec_callI (pc := 184) (k := 15) (n := 75) (c1 := 39) (f1 := cz_f128) (R1 := cz_R127) (mc := 0) (ms := 0) ok [] [q_a t 38, ma_i (2), q_a t 7] (cf_Plan_62 t) d_Plan_init_184 (t_Symbol_init t ok (s_36 38 (by decide) (by decide)) (by decide) cz_f126 cz_R127) rfl rfl (by decide) (by decide) (q_ble rfl) ?_
  refine ec_aast (pc := 187) cz_R129 d_Plan_init_187 s_7 (by decide) (by decide) (by decide) (by decide) (s_36 38 (by decide) (by decide)) (by decide) k_5 rfl rfl ?_
  refine ev_iinc (pc := 188) d_Plan_init_188 (by decide) rfl [(1, ma_i (3)), (0, q_a t 3)] rfl ?_
  refine ev_goto (pc := 191) (tgt := 169) d_Plan_init_191 (by decide) ?_
  refine ev_iload_n (pc := 169) d_Plan_init_169 rfl rfl ?_
  refine ev_bipush (pc := 170) d_Plan_init_170 rfl ?_
  refine ev_icmp_ge (pc := 172) (tgt := 194) d_Plan_init_172 (by decide) ⟨by decide, by decide⟩ ⟨by decide, by decide⟩ (fun hj => absurd hj (show ¬ (18 : Int) ≤ 3 by decide)) (fun _ => ?_)
  refine ec_aload_n (pc := 175) d_Plan_init_175 rfl rfl ?_
  refine ec_getr (pc := 176) (q := 7) ok (fl_Plan_31 t) rfl d_Plan_init_176 s_3 (by decide) (by decide +kernel) ?_
  refine ev_iload_n (pc := 179) d_Plan_init_179 rfl rfl ?_
  refine ec_new (pc := 180) (k := 14) (n := 70) ok cz_f130 cz_R131 d_Plan_init_180 (s_36 39 (by decide) (by decide)) k_5 rfl q_df5 (q_in 59 (by decide +kernel) rfl) (q_in 216 (by decide +kernel) rfl) (q_in 8 (by decide +kernel) rfl) rfl rfl ?_
  refine ev_dup (pc := 183) d_Plan_init_183 rfl ?_
  refine ec_callI (pc := 184) (k := 14) (n := 70) (c1 := 40) (f1 := cz_f132) (R1 := cz_R131) (mc := 0) (ms := 0) ok [] [q_a t 39, ma_i (3), q_a t 7] (cf_Plan_62 t) d_Plan_init_184 (t_Symbol_init t ok (s_36 39 (by decide) (by decide)) (by decide) cz_f130 cz_R131) rfl rfl (by decide) (by decide) (q_ble rfl) ?_
  refine ec_aast (pc := 187) cz_R133 d_Plan_init_187 s_7 (by decide) (by decide) (by decide) (by decide) (s_36 39 (by decide) (by decide)) (by decide) k_5 rfl rfl ?_
  refine ev_iinc (pc := 188) d_Plan_init_188 (by decide) rfl [(1, ma_i (4)), (0, q_a t 3)] rfl ?_
  refine ev_goto (pc := 191) (tgt := 169) d_Plan_init_191 (by decide) ?_
  refine ev_iload_n (pc := 169) d_Plan_init_169 rfl rfl ?_
  refine ev_bipush (pc := 170) d_Plan_init_170 rfl ?_
  refine ev_icmp_ge (pc := 172) (tgt := 194) d_Plan_init_172 (by decide) ⟨by decide, by decide⟩ ⟨by decide, by decide⟩ (fun hj => absurd hj (show ¬ (18 : Int) ≤ 4 by decide)) (fun _ => ?_)
  refine ec_aload_n (pc := 175) d_Plan_init_175 rfl rfl ?_
  refine ec_getr (pc := 176) (q := 7) ok (fl_Plan_31 t) rfl d_Plan_init_176 s_3 (by decide) (by decide +kernel) ?_
  refine ev_iload_n (pc := 179) d_Plan_init_179 rfl rfl ?_
  refine ec_new (pc := 180) (k := 13) (n := 65) ok cz_f134 cz_R135 d_Plan_init_180 (s_36 40 (by decide) (by decide)) k_5 rfl q_df5 (q_in 59 (by decide +kernel) rfl) (q_in 216 (by decide +kernel) rfl) (q_in 8 (by decide +kernel) rfl) rfl rfl ?_
  refine ev_dup (pc := 183) d_Plan_init_183 rfl ?_
  refine ec_callI (pc := 184) (k := 13) (n := 65) (c1 := 41) (f1 := cz_f136) (R1 := cz_R135) (mc := 0) (ms := 0) ok [] [q_a t 40, ma_i (4), q_a t 7] (cf_Plan_62 t) d_Plan_init_184 (t_Symbol_init t ok (s_36 40 (by decide) (by decide)) (by decide) cz_f134 cz_R135) rfl rfl (by decide) (by decide) (q_ble rfl) ?_
  refine ec_aast (pc := 187) cz_R137 d_Plan_init_187 s_7 (by decide) (by decide) (by decide) (by decide) (s_36 40 (by decide) (by decide)) (by decide) k_5 rfl rfl ?_
  refine ev_iinc (pc := 188) d_Plan_init_188 (by decide) rfl [(1, ma_i (5)), (0, q_a t 3)] rfl ?_
  refine ev_goto (pc := 191) (tgt := 169) d_Plan_init_191 (by decide) ?_
  refine ev_iload_n (pc := 169) d_Plan_init_169 rfl rfl ?_
  refine ev_bipush (pc := 170) d_Plan_init_170 rfl ?_
  refine ev_icmp_ge (pc := 172) (tgt := 194) d_Plan_init_172 (by decide) ⟨by decide, by decide⟩ ⟨by decide, by decide⟩ (fun hj => absurd hj (show ¬ (18 : Int) ≤ 5 by decide)) (fun _ => ?_)
  refine ec_aload_n (pc := 175) d_Plan_init_175 rfl rfl ?_
  refine ec_getr (pc := 176) (q := 7) ok (fl_Plan_31 t) rfl d_Plan_init_176 s_3 (by decide) (by decide +kernel) ?_
  refine ev_iload_n (pc := 179) d_Plan_init_179 rfl rfl ?_
  refine ec_new (pc := 180) (k := 12) (n := 60) ok cz_f138 cz_R139 d_Plan_init_180 (s_36 41 (by decide) (by decide)) k_5 rfl q_df5 (q_in 59 (by decide +kernel) rfl) (q_in 216 (by decide +kernel) rfl) (q_in 8 (by decide +kernel) rfl) rfl rfl ?_
  refine ev_dup (pc := 183) d_Plan_init_183 rfl ?_
  refine ec_callI (pc := 184) (k := 12) (n := 60) (c1 := 42) (f1 := cz_f140) (R1 := cz_R139) (mc := 0) (ms := 0) ok [] [q_a t 41, ma_i (5), q_a t 7] (cf_Plan_62 t) d_Plan_init_184 (t_Symbol_init t ok (s_36 41 (by decide) (by decide)) (by decide) cz_f138 cz_R139) rfl rfl (by decide) (by decide) (q_ble rfl) ?_
  refine ec_aast (pc := 187) cz_R141 d_Plan_init_187 s_7 (by decide) (by decide) (by decide) (by decide) (s_36 41 (by decide) (by decide)) (by decide) k_5 rfl rfl ?_
  refine ev_iinc (pc := 188) d_Plan_init_188 (by decide) rfl [(1, ma_i (6)), (0, q_a t 3)] rfl ?_
  refine ev_goto (pc := 191) (tgt := 169) d_Plan_init_191 (by decide) ?_
  refine ev_iload_n (pc := 169) d_Plan_init_169 rfl rfl ?_
  refine ev_bipush (pc := 170) d_Plan_init_170 rfl ?_
  refine ev_icmp_ge (pc := 172) (tgt := 194) d_Plan_init_172 (by decide) ⟨by decide, by decide⟩ ⟨by decide, by decide⟩ (fun hj => absurd hj (show ¬ (18 : Int) ≤ 6 by decide)) (fun _ => ?_)
  refine ec_aload_n (pc := 175) d_Plan_init_175 rfl rfl ?_
  refine ec_getr (pc := 176) (q := 7) ok (fl_Plan_31 t) rfl d_Plan_init_176 s_3 (by decide) (by decide +kernel) ?_
  refine ev_iload_n (pc := 179) d_Plan_init_179 rfl rfl ?_
  refine ec_new (pc := 180) (k := 11) (n := 55) ok cz_f142 cz_R143 d_Plan_init_180 (s_36 42 (by decide) (by decide)) k_5 rfl q_df5 (q_in 59 (by decide +kernel) rfl) (q_in 216 (by decide +kernel) rfl) (q_in 8 (by decide +kernel) rfl) rfl rfl ?_
  refine ev_dup (pc := 183) d_Plan_init_183 rfl ?_
  refine ec_callI (pc := 184) (k := 11) (n := 55) (c1 := 43) (f1 := cz_f144) (R1 := cz_R143) (mc := 0) (ms := 0) ok [] [q_a t 42, ma_i (6), q_a t 7] (cf_Plan_62 t) d_Plan_init_184 (t_Symbol_init t ok (s_36 42 (by decide) (by decide)) (by decide) cz_f142 cz_R143) rfl rfl (by decide) (by decide) (q_ble rfl) ?_
  refine ec_aast (pc := 187) cz_R145 d_Plan_init_187 s_7 (by decide) (by decide) (by decide) (by decide) (s_36 42 (by decide) (by decide)) (by decide) k_5 rfl rfl ?_
  refine ev_iinc (pc := 188) d_Plan_init_188 (by decide) rfl [(1, ma_i (7)), (0, q_a t 3)] rfl ?_
  refine ev_goto (pc := 191) (tgt := 169) d_Plan_init_191 (by decide) ?_
  refine ev_iload_n (pc := 169) d_Plan_init_169 rfl rfl ?_
  refine ev_bipush (pc := 170) d_Plan_init_170 rfl ?_
  refine ev_icmp_ge (pc := 172) (tgt := 194) d_Plan_init_172 (by decide) ⟨by decide, by decide⟩ ⟨by decide, by decide⟩ (fun hj => absurd hj (show ¬ (18 : Int) ≤ 7 by decide)) (fun _ => ?_)
  refine ec_aload_n (pc := 175) d_Plan_init_175 rfl rfl ?_
  refine ec_getr (pc := 176) (q := 7) ok (fl_Plan_31 t) rfl d_Plan_init_176 s_3 (by decide) (by decide +kernel) ?_
  refine ev_iload_n (pc := 179) d_Plan_init_179 rfl rfl ?_
  refine ec_new (pc := 180) (k := 10) (n := 50) ok cz_f146 cz_R147 d_Plan_init_180 (s_36 43 (by decide) (by decide)) k_5 rfl q_df5 (q_in 59 (by decide +kernel) rfl) (q_in 216 (by decide +kernel) rfl) (q_in 8 (by decide +kernel) rfl) rfl rfl ?_
  refine ev_dup (pc := 183) d_Plan_init_183 rfl ?_
  refine ec_callI (pc := 184) (k := 10) (n := 50) (c1 := 44) (f1 := cz_f148) (R1 := cz_R147) (mc := 0) (ms := 0) ok [] [q_a t 43, ma_i (7), q_a t 7] (cf_Plan_62 t) d_Plan_init_184 (t_Symbol_init t ok (s_36 43 (by decide) (by decide)) (by decide) cz_f146 cz_R147) rfl rfl (by decide) (by decide) (q_ble rfl) ?_
  refine ec_aast (pc := 187) cz_R149 d_Plan_init_187 s_7 (by decide) (by decide) (by decide) (by decide) (s_36 43 (by decide) (by decide)) (by decide) k_5 rfl rfl ?_
  refine ev_iinc (pc := 188) d_Plan_init_188 (by decide) rfl [(1, ma_i (8)), (0, q_a t 3)] rfl ?_
  refine ev_goto (pc := 191) (tgt := 169) d_Plan_init_191 (by decide) ?_
  refine ev_iload_n (pc := 169) d_Plan_init_169 rfl rfl ?_
  refine ev_bipush (pc := 170) d_Plan_init_170 rfl ?_
  refine ev_icmp_ge (pc := 172) (tgt := 194) d_Plan_init_172 (by decide) ⟨by decide, by decide⟩ ⟨by decide, by decide⟩ (fun hj => absurd hj (show ¬ (18 : Int) ≤ 8 by decide)) (fun _ => ?_)
  refine ec_aload_n (pc := 175) d_Plan_init_175 rfl rfl ?_
  refine ec_getr (pc := 176) (q := 7) ok (fl_Plan_31 t) rfl d_Plan_init_176 s_3 (by decide) (by decide +kernel) ?_
  refine ev_iload_n (pc := 179) d_Plan_init_179 rfl rfl ?_
  refine ec_new (pc := 180) (k := 9) (n := 45) ok cz_f150 cz_R151 d_Plan_init_180 (s_36 44 (by decide) (by decide)) k_5 rfl q_df5 (q_in 59 (by decide +kernel) rfl) (q_in 216 (by decide +kernel) rfl) (q_in 8 (by decide +kernel) rfl) rfl rfl ?_
  refine ev_dup (pc := 183) d_Plan_init_183 rfl ?_
  refine ec_callI (pc := 184) (k := 9) (n := 45) (c1 := 45) (f1 := cz_f152) (R1 := cz_R151) (mc := 0) (ms := 0) ok [] [q_a t 44, ma_i (8), q_a t 7] (cf_Plan_62 t) d_Plan_init_184 (t_Symbol_init t ok (s_36 44 (by decide) (by decide)) (by decide) cz_f150 cz_R151) rfl rfl (by decide) (by decide) (q_ble rfl) ?_
  refine ec_aast (pc := 187) cz_R153 d_Plan_init_187 s_7 (by decide) (by decide) (by decide) (by decide) (s_36 44 (by decide) (by decide)) (by decide) k_5 rfl rfl ?_
  refine ev_iinc (pc := 188) d_Plan_init_188 (by decide) rfl [(1, ma_i (9)), (0, q_a t 3)] rfl ?_
  refine ev_goto (pc := 191) (tgt := 169) d_Plan_init_191 (by decide) ?_
  refine ev_iload_n (pc := 169) d_Plan_init_169 rfl rfl ?_
  refine ev_bipush (pc := 170) d_Plan_init_170 rfl ?_
  refine ev_icmp_ge (pc := 172) (tgt := 194) d_Plan_init_172 (by decide) ⟨by decide, by decide⟩ ⟨by decide, by decide⟩ (fun hj => absurd hj (show ¬ (18 : Int) ≤ 9 by decide)) (fun _ => ?_)
  refine ec_aload_n (pc := 175) d_Plan_init_175 rfl rfl ?_
  refine ec_getr (pc := 176) (q := 7) ok (fl_Plan_31 t) rfl d_Plan_init_176 s_3 (by decide) (by decide +kernel) ?_
  refine ev_iload_n (pc := 179) d_Plan_init_179 rfl rfl ?_
  refine ec_new (pc := 180) (k := 8) (n := 40) ok cz_f154 cz_R155 d_Plan_init_180 (s_36 45 (by decide) (by decide)) k_5 rfl q_df5 (q_in 59 (by decide +kernel) rfl) (q_in 216 (by decide +kernel) rfl) (q_in 8 (by decide +kernel) rfl) rfl rfl ?_
  refine ev_dup (pc := 183) d_Plan_init_183 rfl ?_
  refine ec_callI (pc := 184) (k := 8) (n := 40) (c1 := 46) (f1 := cz_f156) (R1 := cz_R155) (mc := 0) (ms := 0) ok [] [q_a t 45, ma_i (9), q_a t 7] (cf_Plan_62 t) d_Plan_init_184 (t_Symbol_init t ok (s_36 45 (by decide) (by decide)) (by decide) cz_f154 cz_R155) rfl rfl (by decide) (by decide) (q_ble rfl) ?_
  refine ec_aast (pc := 187) cz_R157 d_Plan_init_187 s_7 (by decide) (by decide) (by decide) (by decide) (s_36 45 (by decide) (by decide)) (by decide) k_5 rfl rfl ?_
  refine ev_iinc (pc := 188) d_Plan_init_188 (by decide) rfl [(1, ma_i (10)), (0, q_a t 3)] rfl ?_
  refine ev_goto (pc := 191) (tgt := 169) d_Plan_init_191 (by decide) ?_
  refine ev_iload_n (pc := 169) d_Plan_init_169 rfl rfl ?_
  refine ev_bipush (pc := 170) d_Plan_init_170 rfl ?_
  refine ev_icmp_ge (pc := 172) (tgt := 194) d_Plan_init_172 (by decide) ⟨by decide, by decide⟩ ⟨by decide, by decide⟩ (fun hj => absurd hj (show ¬ (18 : Int) ≤ 10 by decide)) (fun _ => ?_)
  refine ec_aload_n (pc := 175) d_Plan_init_175 rfl rfl ?_
  refine ec_getr (pc := 176) (q := 7) ok (fl_Plan_31 t) rfl d_Plan_init_176 s_3 (by decide) (by decide +kernel) ?_
  refine ev_iload_n (pc := 179) d_Plan_init_179 rfl rfl ?_
  refine ec_new (pc := 180) (k := 7) (n := 35) ok cz_f158 cz_R159 d_Plan_init_180 (s_36 46 (by decide) (by decide)) k_5 rfl q_df5 (q_in 59 (by decide +kernel) rfl) (q_in 216 (by decide +kernel) rfl) (q_in 8 (by decide +kernel) rfl) rfl rfl ?_
  refine ev_dup (pc := 183) d_Plan_init_183 rfl ?_
  refine ec_callI (pc := 184) (k := 7) (n := 35) (c1 := 47) (f1 := cz_f160) (R1 := cz_R159) (mc := 0) (ms := 0) ok [] [q_a t 46, ma_i (10), q_a t 7] (cf_Plan_62 t) d_Plan_init_184 (t_Symbol_init t ok (s_36 46 (by decide) (by decide)) (by decide) cz_f158 cz_R159) rfl rfl (by decide) (by decide) (q_ble rfl) ?_
  refine ec_aast (pc := 187) cz_R161 d_Plan_init_187 s_7 (by decide) (by decide) (by decide) (by decide) (s_36 46 (by decide) (by decide)) (by decide) k_5 rfl rfl ?_
  refine ev_iinc (pc := 188) d_Plan_init_188 (by decide) rfl [(1, ma_i (11)), (0, q_a t 3)] rfl ?_
  refine ev_goto (pc := 191) (tgt := 169) d_Plan_init_191 (by decide) ?_
  refine ev_iload_n (pc := 169) d_Plan_init_169 rfl rfl ?_
  refine ev_bipush (pc := 170) d_Plan_init_170 rfl ?_
  refine ev_icmp_ge (pc := 172) (tgt := 194) d_Plan_init_172 (by decide) ⟨by decide, by decide⟩ ⟨by decide, by decide⟩ (fun hj => absurd hj (show ¬ (18 : Int) ≤ 11 by decide)) (fun _ => ?_)
  refine ec_aload_n (pc := 175) d_Plan_init_175 rfl rfl ?_
  refine ec_getr (pc := 176) (q := 7) ok (fl_Plan_31 t) rfl d_Plan_init_176 s_3 (by decide) (by decide +kernel) ?_
  refine ev_iload_n (pc := 179) d_Plan_init_179 rfl rfl ?_
  refine ec_new (pc := 180) (k := 6) (n := 30) ok cz_f162 cz_R163 d_Plan_init_180 (s_36 47 (by decide) (by decide)) k_5 rfl q_df5 (q_in 59 (by decide +kernel) rfl) (q_in 216 (by decide +kernel) rfl) (q_in 8 (by decide +kernel) rfl) rfl rfl ?_
  refine ev_dup (pc := 183) d_Plan_init_183 rfl ?_
  refine ec_callI (pc := 184) (k := 6) (n := 30) (c1 := 48) (f1 := cz_f164) (R1 := cz_R163) (mc := 0) (ms := 0) ok [] [q_a t 47, ma_i (11), q_a t 7] (cf_Plan_62 t) d_Plan_init_184 (t_Symbol_init t ok (s_36 47 (by decide) (by decide)) (by decide) cz_f162 cz_R163) rfl rfl (by decide) (by decide) (q_ble rfl) ?_
  refine ec_aast (pc := 187) cz_R165 d_Plan_init_187 s_7 (by decide) (by decide) (by decide) (by decide) (s_36 47 (by decide) (by decide)) (by decide) k_5 rfl rfl ?_
  refine ev_iinc (pc := 188) d_Plan_init_188 (by decide) rfl [(1, ma_i (12)), (0, q_a t 3)] rfl ?_
  refine ev_goto (pc := 191) (tgt := 169) d_Plan_init_191 (by decide) ?_
  refine ev_iload_n (pc := 169) d_Plan_init_169 rfl rfl ?_
  refine ev_bipush (pc := 170) d_Plan_init_170 rfl ?_
  refine ev_icmp_ge (pc := 172) (tgt := 194) d_Plan_init_172 (by decide) ⟨by decide, by decide⟩ ⟨by decide, by decide⟩ (fun hj => absurd hj (show ¬ (18 : Int) ≤ 12 by decide)) (fun _ => ?_)
  refine ec_aload_n (pc := 175) d_Plan_init_175 rfl rfl ?_
  refine ec_getr (pc := 176) (q := 7) ok (fl_Plan_31 t) rfl d_Plan_init_176 s_3 (by decide) (by decide +kernel) ?_
  refine ev_iload_n (pc := 179) d_Plan_init_179 rfl rfl ?_
  refine ec_new (pc := 180) (k := 5) (n := 25) ok cz_f166 cz_R167 d_Plan_init_180 (s_36 48 (by decide) (by decide)) k_5 rfl q_df5 (q_in 59 (by decide +kernel) rfl) (q_in 216 (by decide +kernel) rfl) (q_in 8 (by decide +kernel) rfl) rfl rfl ?_
  refine ev_dup (pc := 183) d_Plan_init_183 rfl ?_
  refine ec_callI (pc := 184) (k := 5) (n := 25) (c1 := 49) (f1 := cz_f168) (R1 := cz_R167) (mc := 0) (ms := 0) ok [] [q_a t 48, ma_i (12), q_a t 7] (cf_Plan_62 t) d_Plan_init_184 (t_Symbol_init t ok (s_36 48 (by decide) (by decide)) (by decide) cz_f166 cz_R167) rfl rfl (by decide) (by decide) (q_ble rfl) ?_
  refine ec_aast (pc := 187) cz_R169 d_Plan_init_187 s_7 (by decide) (by decide) (by decide) (by decide) (s_36 48 (by decide) (by decide)) (by decide) k_5 rfl rfl ?_
  refine ev_iinc (pc := 188) d_Plan_init_188 (by decide) rfl [(1, ma_i (13)), (0, q_a t 3)] rfl ?_
  refine ev_goto (pc := 191) (tgt := 169) d_Plan_init_191 (by decide) ?_
  refine ev_iload_n (pc := 169) d_Plan_init_169 rfl rfl ?_
  refine ev_bipush (pc := 170) d_Plan_init_170 rfl ?_
  refine ev_icmp_ge (pc := 172) (tgt := 194) d_Plan_init_172 (by decide) ⟨by decide, by decide⟩ ⟨by decide, by decide⟩ (fun hj => absurd hj (show ¬ (18 : Int) ≤ 13 by decide)) (fun _ => ?_)
  refine ec_aload_n (pc := 175) d_Plan_init_175 rfl rfl ?_
  refine ec_getr (pc := 176) (q := 7) ok (fl_Plan_31 t) rfl d_Plan_init_176 s_3 (by decide) (by decide +kernel) ?_
  refine ev_iload_n (pc := 179) d_Plan_init_179 rfl rfl ?_
  refine ec_new (pc := 180) (k := 4) (n := 20) ok cz_f170 cz_R171 d_Plan_init_180 (s_36 49 (by decide) (by decide)) k_5 rfl q_df5 (q_in 59 (by decide +kernel) rfl) (q_in 216 (by decide +kernel) rfl) (q_in 8 (by decide +kernel) rfl) rfl rfl ?_
  refine ev_dup (pc := 183) d_Plan_init_183 rfl ?_
  refine ec_callI (pc := 184) (k := 4) (n := 20) (c1 := 50) (f1 := cz_f172) (R1 := cz_R171) (mc := 0) (ms := 0) ok [] [q_a t 49, ma_i (13), q_a t 7] (cf_Plan_62 t) d_Plan_init_184 (t_Symbol_init t ok (s_36 49 (by decide) (by decide)) (by decide) cz_f170 cz_R171) rfl rfl (by decide) (by decide) (q_ble rfl) ?_
  refine ec_aast (pc := 187) cz_R173 d_Plan_init_187 s_7 (by decide) (by decide) (by decide) (by decide) (s_36 49 (by decide) (by decide)) (by decide) k_5 rfl rfl ?_
  refine ev_iinc (pc := 188) d_Plan_init_188 (by decide) rfl [(1, ma_i (14)), (0, q_a t 3)] rfl ?_
  refine ev_goto (pc := 191) (tgt := 169) d_Plan_init_191 (by decide) ?_
  refine ev_iload_n (pc := 169) d_Plan_init_169 rfl rfl ?_
  refine ev_bipush (pc := 170) d_Plan_init_170 rfl ?_
  refine ev_icmp_ge (pc := 172) (tgt := 194) d_Plan_init_172 (by decide) ⟨by decide, by decide⟩ ⟨by decide, by decide⟩ (fun hj => absurd hj (show ¬ (18 : Int) ≤ 14 by decide)) (fun _ => ?_)
  refine ec_aload_n (pc := 175) d_Plan_init_175 rfl rfl ?_
  refine ec_getr (pc := 176) (q := 7) ok (fl_Plan_31 t) rfl d_Plan_init_176 s_3 (by decide) (by decide +kernel) ?_
  refine ev_iload_n (pc := 179) d_Plan_init_179 rfl rfl ?_
  refine ec_new (pc := 180) (k := 3) (n := 15) ok cz_f174 cz_R175 d_Plan_init_180 (s_36 50 (by decide) (by decide)) k_5 rfl q_df5 (q_in 59 (by decide +kernel) rfl) (q_in 216 (by decide +kernel) rfl) (q_in 8 (by decide +kernel) rfl) rfl rfl ?_
  refine ev_dup (pc := 183) d_Plan_init_183 rfl ?_
  refine ec_callI (pc := 184) (k := 3) (n := 15) (c1 := 51) (f1 := cz_f176) (R1 := cz_R175) (mc := 0) (ms := 0) ok [] [q_a t 50, ma_i (14), q_a t 7] (cf_Plan_62 t) d_Plan_init_184 (t_Symbol_init t ok (s_36 50 (by decide) (by decide)) (by decide) cz_f174 cz_R175) rfl rfl (by decide) (by decide) (q_ble rfl) ?_
  refine ec_aast (pc := 187) cz_R177 d_Plan_init_187 s_7 (by decide) (by decide) (by decide) (by decide) (s_36 50 (by decide) (by decide)) (by decide) k_5 rfl rfl ?_
  refine ev_iinc (pc := 188) d_Plan_init_188 (by decide) rfl [(1, ma_i (15)), (0, q_a t 3)] rfl ?_
  refine ev_goto (pc := 191) (tgt := 169) d_Plan_init_191 (by decide) ?_
  refine ev_iload_n (pc := 169) d_Plan_init_169 rfl rfl ?_
  refine ev_bipush (pc := 170) d_Plan_init_170 rfl ?_
  refine ev_icmp_ge (pc := 172) (tgt := 194) d_Plan_init_172 (by decide) ⟨by decide, by decide⟩ ⟨by decide, by decide⟩ (fun hj => absurd hj (show ¬ (18 : Int) ≤ 15 by decide)) (fun _ => ?_)
  refine ec_aload_n (pc := 175) d_Plan_init_175 rfl rfl ?_
  refine ec_getr (pc := 176) (q := 7) ok (fl_Plan_31 t) rfl d_Plan_init_176 s_3 (by decide) (by decide +kernel) ?_
  refine ev_iload_n (pc := 179) d_Plan_init_179 rfl rfl ?_
  refine ec_new (pc := 180) (k := 2) (n := 10) ok cz_f178 cz_R179 d_Plan_init_180 (s_36 51 (by decide) (by decide)) k_5 rfl q_df5 (q_in 59 (by decide +kernel) rfl) (q_in 216 (by decide +kernel) rfl) (q_in 8 (by decide +kernel) rfl) rfl rfl ?_
  refine ev_dup (pc := 183) d_Plan_init_183 rfl ?_
  refine ec_callI (pc := 184) (k := 2) (n := 10) (c1 := 52) (f1 := cz_f180) (R1 := cz_R179) (mc := 0) (ms := 0) ok [] [q_a t 51, ma_i (15), q_a t 7] (cf_Plan_62 t) d_Plan_init_184 (t_Symbol_init t ok (s_36 51 (by decide) (by decide)) (by decide) cz_f178 cz_R179) rfl rfl (by decide) (by decide) (q_ble rfl) ?_
  refine ec_aast (pc := 187) cz_R181 d_Plan_init_187 s_7 (by decide) (by decide) (by decide) (by decide) (s_36 51 (by decide) (by decide)) (by decide) k_5 rfl rfl ?_
  refine ev_iinc (pc := 188) d_Plan_init_188 (by decide) rfl [(1, ma_i (16)), (0, q_a t 3)] rfl ?_
  refine ev_goto (pc := 191) (tgt := 169) d_Plan_init_191 (by decide) ?_
  refine ev_iload_n (pc := 169) d_Plan_init_169 rfl rfl ?_
  refine ev_bipush (pc := 170) d_Plan_init_170 rfl ?_
  refine ev_icmp_ge (pc := 172) (tgt := 194) d_Plan_init_172 (by decide) ⟨by decide, by decide⟩ ⟨by decide, by decide⟩ (fun hj => absurd hj (show ¬ (18 : Int) ≤ 16 by decide)) (fun _ => ?_)
  refine ec_aload_n (pc := 175) d_Plan_init_175 rfl rfl ?_
  refine ec_getr (pc := 176) (q := 7) ok (fl_Plan_31 t) rfl d_Plan_init_176 s_3 (by decide) (by decide +kernel) ?_
  refine ev_iload_n (pc := 179) d_Plan_init_179 rfl rfl ?_
  refine ec_new (pc := 180) (k := 1) (n := 5) ok cz_f182 cz_R183 d_Plan_init_180 (s_36 52 (by decide) (by decide)) k_5 rfl q_df5 (q_in 59 (by decide +kernel) rfl) (q_in 216 (by decide +kernel) rfl) (q_in 8 (by decide +kernel) rfl) rfl rfl ?_
  refine ev_dup (pc := 183) d_Plan_init_183 rfl ?_
  refine ec_callI (pc := 184) (k := 1) (n := 5) (c1 := 53) (f1 := cz_f184) (R1 := cz_R183) (mc := 0) (ms := 0) ok [] [q_a t 52, ma_i (16), q_a t 7] (cf_Plan_62 t) d_Plan_init_184 (t_Symbol_init t ok (s_36 52 (by decide) (by decide)) (by decide) cz_f182 cz_R183) rfl rfl (by decide) (by decide) (q_ble rfl) ?_
  refine ec_aast (pc := 187) cz_R185 d_Plan_init_187 s_7 (by decide) (by decide) (by decide) (by decide) (s_36 52 (by decide) (by decide)) (by decide) k_5 rfl rfl ?_
  refine ev_iinc (pc := 188) d_Plan_init_188 (by decide) rfl [(1, ma_i (17)), (0, q_a t 3)] rfl ?_
  refine ev_goto (pc := 191) (tgt := 169) d_Plan_init_191 (by decide) ?_
  refine ev_iload_n (pc := 169) d_Plan_init_169 rfl rfl ?_
  refine ev_bipush (pc := 170) d_Plan_init_170 rfl ?_
  refine ev_icmp_ge (pc := 172) (tgt := 194) d_Plan_init_172 (by decide) ⟨by decide, by decide⟩ ⟨by decide, by decide⟩ (fun hj => absurd hj (show ¬ (18 : Int) ≤ 17 by decide)) (fun _ => ?_)
  refine ec_aload_n (pc := 175) d_Plan_init_175 rfl rfl ?_
  refine ec_getr (pc := 176) (q := 7) ok (fl_Plan_31 t) rfl d_Plan_init_176 s_3 (by decide) (by decide +kernel) ?_
  refine ev_iload_n (pc := 179) d_Plan_init_179 rfl rfl ?_
  refine ec_new (pc := 180) (k := 0) (n := 0) ok cz_f186 cz_R187 d_Plan_init_180 (s_36 53 (by decide) (by decide)) k_5 rfl q_df5 (q_in 59 (by decide +kernel) rfl) (q_in 216 (by decide +kernel) rfl) (q_in 8 (by decide +kernel) rfl) rfl rfl ?_
  refine ev_dup (pc := 183) d_Plan_init_183 rfl ?_
  refine ec_callI (pc := 184) (k := 0) (n := 0) (c1 := 54) (f1 := cz_f188) (R1 := cz_R187) (mc := 0) (ms := 0) ok [] [q_a t 53, ma_i (17), q_a t 7] (cf_Plan_62 t) d_Plan_init_184 (t_Symbol_init t ok (s_36 53 (by decide) (by decide)) (by decide) cz_f186 cz_R187) rfl rfl (by decide) (by decide) (q_ble rfl) ?_
  refine ec_aast (pc := 187) cz_R189 d_Plan_init_187 s_7 (by decide) (by decide) (by decide) (by decide) (s_36 53 (by decide) (by decide)) (by decide) k_5 rfl rfl ?_
  refine ev_iinc (pc := 188) d_Plan_init_188 (by decide) rfl [(1, ma_i (18)), (0, q_a t 3)] rfl ?_
  refine ev_goto (pc := 191) (tgt := 169) d_Plan_init_191 (by decide) ?_
  refine ev_iload_n (pc := 169) d_Plan_init_169 rfl rfl ?_
  refine ev_bipush (pc := 170) d_Plan_init_170 rfl ?_
  refine ev_icmp_ge (pc := 172) (tgt := 194) d_Plan_init_172 (by decide) ⟨by decide, by decide⟩ ⟨by decide, by decide⟩ (fun _ => ?_) (fun hj => absurd (show (18 : Int) ≤ 18 by decide) hj)
  exact ec_ret (pc := 194) d_Plan_init_194 rfl
def cz_f190 : q_F := cz_f188
def cz_R191 : Nat → Nat → Option Nat := cz_R189
def cz_R192 : Nat → Nat → Option Nat := ma_up cz_R191 0 1 (some 3)
def cz_f193 : q_F := ma_clr cz_f190 54 0
def cz_R194 : Nat → Nat → Option Nat := ma_clr cz_R192 54 none
theorem d_Reader_init_0 : decode (m_c m_Reader_init) 0 = .ok (.aload_n 0, 1) := by decide +kernel
theorem d_Reader_init_1 : decode (m_c m_Reader_init) 1 = .ok (.invokespecial 3, 3) := by decide +kernel
theorem d_Reader_init_4 : decode (m_c m_Reader_init) 4 = .ok (.aload_n 0, 1) := by decide +kernel
theorem d_Reader_init_5 : decode (m_c m_Reader_init) 5 = .ok (.iconst 0, 1) := by decide +kernel
theorem d_Reader_init_6 : decode (m_c m_Reader_init) 6 = .ok (.putfield 9, 3) := by decide +kernel
theorem d_Reader_init_9 : decode (m_c m_Reader_init) 9 = .ok (.aload_n 0, 1) := by decide +kernel
theorem d_Reader_init_10 : decode (m_c m_Reader_init) 10 = .ok (.iconst 0, 1) := by decide +kernel
theorem d_Reader_init_11 : decode (m_c m_Reader_init) 11 = .ok (.putfield 15, 3) := by decide +kernel
theorem d_Reader_init_14 : decode (m_c m_Reader_init) 14 = .ok (.aload_n 0, 1) := by decide +kernel
theorem d_Reader_init_15 : decode (m_c m_Reader_init) 15 = .ok (.aload_n 1, 1) := by decide +kernel
theorem d_Reader_init_16 : decode (m_c m_Reader_init) 16 = .ok (.putfield 18, 3) := by decide +kernel
theorem d_Reader_init_19 : decode (m_c m_Reader_init) 19 = .ok (.aload_n 0, 1) := by decide +kernel
theorem d_Reader_init_20 : decode (m_c m_Reader_init) 20 = .ok (.aload_n 2, 1) := by decide +kernel
theorem d_Reader_init_21 : decode (m_c m_Reader_init) 21 = .ok (.putfield 22, 3) := by decide +kernel
theorem d_Reader_init_24 : decode (m_c m_Reader_init) 24 = .ok (.return_, 1) := by decide +kernel
theorem t_Reader_init (t : q_V) (ok : ma_ok (q_G t)) (f : q_F) (R : Nat → Nat → Option Nat) : ma_Met (q_G t) true 1 20 0 0 m_Reader_init [q_a t 54, q_a t 1, q_a t 3] (q_c 55 f R) (q_cQ 55 (ma_up (ma_up f 54 2 (0)) 54 3 (0)) (ma_up (ma_up R 54 0 (some 1)) 54 1 (some 3))) := by
  refine ma_met (by decide +kernel) (q_ble rfl) rfl ?_
  change ma_Ev (q_G t) 1 20 0 0 m_Reader_init 0 [(0, q_a t 54), (1, q_a t 1), (2, q_a t 3)] [] (q_c 55 f R) (ma_zr (q_G t) true (q_cQ 55 (ma_up (ma_up f 54 2 (0)) 54 3 (0)) (ma_up (ma_up R 54 0 (some 1)) 54 1 (some 3))))
  refine ec_aload_n (pc := 0) d_Reader_init_0 rfl rfl ?_
  refine ec_obj (pc := 1) d_Reader_init_1 (q_in 307 (by decide +kernel) rfl) (by decide) (by decide) (by decide) ?_
  refine ec_aload_n (pc := 4) d_Reader_init_4 rfl rfl ?_
  refine ev_iconst (pc := 5) d_Reader_init_5  ?_
  refine ec_puti (pc := 6) ok (ma_up f 54 2 (0)) (fl_Reader_9 t) rfl ⟨.int, by decide +kernel, rfl, rfl⟩ d_Reader_init_6 s_54 (by decide) rfl ?_
  refine ec_aload_n (pc := 9) d_Reader_init_9 rfl rfl ?_
  refine ev_iconst (pc := 10) d_Reader_init_10  ?_
  refine ec_puti (pc := 11) ok (ma_up (ma_up f 54 2 (0)) 54 3 (0)) (fl_Reader_15 t) rfl ⟨.int, by decide +kernel, rfl, rfl⟩ d_Reader_init_11 s_54 (by decide) rfl ?_
  refine ec_aload_n (pc := 14) d_Reader_init_14 rfl rfl ?_
  refine ec_aload_n (pc := 15) d_Reader_init_15 rfl rfl ?_
  refine ec_putr (pc := 16) ok (ma_up R 54 0 (some 1)) (fo_Reader_18 t) k_8 rfl rfl rfl (fun _ => ⟨.object "LayoutDesk$Script", by decide +kernel, rfl, rfl⟩) d_Reader_init_16 s_54 (by decide) rfl ?_
  refine ec_aload_n (pc := 19) d_Reader_init_19 rfl rfl ?_
  refine ec_aload_n (pc := 20) d_Reader_init_20 rfl rfl ?_
  refine ec_putr (pc := 21) ok (ma_up (ma_up R 54 0 (some 1)) 54 1 (some 3)) (fo_Reader_22 t) k_8 rfl rfl rfl (fun _ => ⟨.object "LayoutDesk$Plan", by decide +kernel, rfl, rfl⟩) d_Reader_init_21 s_54 (by decide) rfl ?_
  exact ec_ret (pc := 24) d_Reader_init_24 rfl
def cz_f195 : q_F := (ma_up (ma_up cz_f193 54 2 (0)) 54 3 (0))
def cz_R196 : Nat → Nat → Option Nat := (ma_up (ma_up cz_R194 54 0 (some 1)) 54 1 (some 3))
def cz_R197 : Nat → Nat → Option Nat := ma_up cz_R196 0 2 (some 54)
def cz_f198 : q_F := ma_clr cz_f195 55 0
def cz_R199 : Nat → Nat → Option Nat := ma_clr cz_R197 55 none
theorem d_Reckoner_init_0 : decode (m_c m_Reckoner_init) 0 = .ok (.aload_n 0, 1) := by decide +kernel
theorem d_Reckoner_init_1 : decode (m_c m_Reckoner_init) 1 = .ok (.invokespecial 3, 3) := by decide +kernel
theorem d_Reckoner_init_4 : decode (m_c m_Reckoner_init) 4 = .ok (.aload_n 0, 1) := by decide +kernel
theorem d_Reckoner_init_5 : decode (m_c m_Reckoner_init) 5 = .ok (.sipush 160, 3) := by decide +kernel
theorem d_Reckoner_init_8 : decode (m_c m_Reckoner_init) 8 = .ok (.newarray .int, 2) := by decide +kernel
theorem d_Reckoner_init_10 : decode (m_c m_Reckoner_init) 10 = .ok (.putfield 9, 3) := by decide +kernel
theorem d_Reckoner_init_13 : decode (m_c m_Reckoner_init) 13 = .ok (.aload_n 0, 1) := by decide +kernel
theorem d_Reckoner_init_14 : decode (m_c m_Reckoner_init) 14 = .ok (.iconst 0, 1) := by decide +kernel
theorem d_Reckoner_init_15 : decode (m_c m_Reckoner_init) 15 = .ok (.putfield 15, 3) := by decide +kernel
theorem d_Reckoner_init_18 : decode (m_c m_Reckoner_init) 18 = .ok (.aload_n 0, 1) := by decide +kernel
theorem d_Reckoner_init_19 : decode (m_c m_Reckoner_init) 19 = .ok (.aload_n 1, 1) := by decide +kernel
theorem d_Reckoner_init_20 : decode (m_c m_Reckoner_init) 20 = .ok (.putfield 19, 3) := by decide +kernel
theorem d_Reckoner_init_23 : decode (m_c m_Reckoner_init) 23 = .ok (.return_, 1) := by decide +kernel
theorem t_Reckoner_init (t : q_V) (ok : ma_ok (q_G t)) (f : q_F) (R : Nat → Nat → Option Nat) : ma_Met (q_G t) true 1 20 1 160 m_Reckoner_init [q_a t 55, q_a t 3] (q_c 56 f R) (q_cQ 57 (ma_up (ma_clr f 56 0) 55 2 (0)) (ma_up (ma_up (ma_clr R 56 none) 55 1 (some 56)) 55 0 (some 3))) := by
  refine ma_met (by decide +kernel) (q_ble rfl) rfl ?_
  change ma_Ev (q_G t) 1 20 1 160 m_Reckoner_init 0 [(0, q_a t 55), (1, q_a t 3)] [] (q_c 56 f R) (ma_zr (q_G t) true (q_cQ 57 (ma_up (ma_clr f 56 0) 55 2 (0)) (ma_up (ma_up (ma_clr R 56 none) 55 1 (some 56)) 55 0 (some 3))))
  refine ec_aload_n (pc := 0) d_Reckoner_init_0 rfl rfl ?_
  refine ec_obj (pc := 1) d_Reckoner_init_1 (q_in 326 (by decide +kernel) rfl) (by decide) (by decide) (by decide) ?_
  refine ec_aload_n (pc := 4) d_Reckoner_init_4 rfl rfl ?_
  refine ev_sipush (pc := 5) d_Reckoner_init_5 rfl ?_
  refine ec_newa (pc := 8) (k := 0) (n := 0) (ma_clr f 56 0) (ma_clr R 56 none) d_Reckoner_init_8 s_56 rfl (.inl rfl) (by decide) (by decide) (q_in 83 (by decide +kernel) rfl) rfl rfl ?_
  refine ec_putr (pc := 10) ok (ma_up (ma_clr R 56 none) 55 1 (some 56)) (fo_Reckoner_9 t) k_9 rfl rfl rfl (fun _ => ⟨.array (.int), by decide +kernel, rfl, rfl⟩) d_Reckoner_init_10 s_55 (by decide) rfl ?_
  refine ec_aload_n (pc := 13) d_Reckoner_init_13 rfl rfl ?_
  refine ev_iconst (pc := 14) d_Reckoner_init_14  ?_
  refine ec_puti (pc := 15) ok (ma_up (ma_clr f 56 0) 55 2 (0)) (fl_Reckoner_15 t) rfl ⟨.int, by decide +kernel, rfl, rfl⟩ d_Reckoner_init_15 s_55 (by decide) rfl ?_
  refine ec_aload_n (pc := 18) d_Reckoner_init_18 rfl rfl ?_
  refine ec_aload_n (pc := 19) d_Reckoner_init_19 rfl rfl ?_
  refine ec_putr (pc := 20) ok (ma_up (ma_up (ma_clr R 56 none) 55 1 (some 56)) 55 0 (some 3)) (fo_Reckoner_19 t) k_9 rfl rfl rfl (fun _ => ⟨.object "LayoutDesk$Plan", by decide +kernel, rfl, rfl⟩) d_Reckoner_init_20 s_55 (by decide) rfl ?_
  exact ec_ret (pc := 23) d_Reckoner_init_23 rfl
def cz_f200 : q_F := (ma_up (ma_clr cz_f198 56 0) 55 2 (0))
def cz_R201 : Nat → Nat → Option Nat := (ma_up (ma_up (ma_clr cz_R199 56 none) 55 1 (some 56)) 55 0 (some 3))
def cz_R202 : Nat → Nat → Option Nat := ma_up cz_R201 0 3 (some 55)
def cz_f203 : q_F := ma_clr cz_f200 57 0
def cz_R204 : Nat → Nat → Option Nat := ma_clr cz_R202 57 none
theorem d_Judge_init_0 : decode (m_c m_Judge_init) 0 = .ok (.aload_n 0, 1) := by decide +kernel
theorem d_Judge_init_1 : decode (m_c m_Judge_init) 1 = .ok (.invokespecial 3, 3) := by decide +kernel
theorem d_Judge_init_4 : decode (m_c m_Judge_init) 4 = .ok (.aload_n 0, 1) := by decide +kernel
theorem d_Judge_init_5 : decode (m_c m_Judge_init) 5 = .ok (.aload_n 1, 1) := by decide +kernel
theorem d_Judge_init_6 : decode (m_c m_Judge_init) 6 = .ok (.putfield 9, 3) := by decide +kernel
theorem d_Judge_init_9 : decode (m_c m_Judge_init) 9 = .ok (.return_, 1) := by decide +kernel
theorem t_Judge_init (t : q_V) (ok : ma_ok (q_G t)) (f : q_F) (R : Nat → Nat → Option Nat) : ma_Met (q_G t) true 1 20 0 0 m_Judge_init [q_a t 57, q_a t 3] (q_c 58 f R) (q_cQ 58 f (ma_up R 57 0 (some 3))) := by
  refine ma_met (by decide +kernel) (q_ble rfl) rfl ?_
  change ma_Ev (q_G t) 1 20 0 0 m_Judge_init 0 [(0, q_a t 57), (1, q_a t 3)] [] (q_c 58 f R) (ma_zr (q_G t) true (q_cQ 58 f (ma_up R 57 0 (some 3))))
  refine ec_aload_n (pc := 0) d_Judge_init_0 rfl rfl ?_
  refine ec_obj (pc := 1) d_Judge_init_1 (q_in 342 (by decide +kernel) rfl) (by decide) (by decide) (by decide) ?_
  refine ec_aload_n (pc := 4) d_Judge_init_4 rfl rfl ?_
  refine ec_aload_n (pc := 5) d_Judge_init_5 rfl rfl ?_
  refine ec_putr (pc := 6) ok (ma_up R 57 0 (some 3)) (fo_Judge_9 t) k_10 rfl rfl rfl (fun _ => ⟨.object "LayoutDesk$Plan", by decide +kernel, rfl, rfl⟩) d_Judge_init_6 s_57 (by decide) rfl ?_
  exact ec_ret (pc := 9) d_Judge_init_9 rfl
def cz_R205 : Nat → Nat → Option Nat := (ma_up cz_R204 57 0 (some 3))
def cz_R206 : Nat → Nat → Option Nat := ma_up cz_R205 0 4 (some 57)
def cz_f207 : q_F := ma_clr cz_f203 58 0
def cz_R208 : Nat → Nat → Option Nat := ma_clr cz_R206 58 none
theorem d_Memory_init_0 : decode (m_c m_Memory_init) 0 = .ok (.aload_n 0, 1) := by decide +kernel
theorem d_Memory_init_1 : decode (m_c m_Memory_init) 1 = .ok (.invokespecial 3, 3) := by decide +kernel
theorem d_Memory_init_4 : decode (m_c m_Memory_init) 4 = .ok (.aload_n 0, 1) := by decide +kernel
theorem d_Memory_init_5 : decode (m_c m_Memory_init) 5 = .ok (.sipush 512, 3) := by decide +kernel
theorem d_Memory_init_8 : decode (m_c m_Memory_init) 8 = .ok (.newarray .int, 2) := by decide +kernel
theorem d_Memory_init_10 : decode (m_c m_Memory_init) 10 = .ok (.putfield 9, 3) := by decide +kernel
theorem d_Memory_init_13 : decode (m_c m_Memory_init) 13 = .ok (.return_, 1) := by decide +kernel
theorem t_Memory_init (t : q_V) (ok : ma_ok (q_G t)) (f : q_F) (R : Nat → Nat → Option Nat) : ma_Met (q_G t) true 1 20 1 512 m_Memory_init [q_a t 58] (q_c 59 f R) (q_cQ 60 (ma_clr f 59 0) (ma_up (ma_clr R 59 none) 58 0 (some 59))) := by
  refine ma_met (by decide +kernel) (q_ble rfl) rfl ?_
  change ma_Ev (q_G t) 1 20 1 512 m_Memory_init 0 [(0, q_a t 58)] [] (q_c 59 f R) (ma_zr (q_G t) true (q_cQ 60 (ma_clr f 59 0) (ma_up (ma_clr R 59 none) 58 0 (some 59))))
  refine ec_aload_n (pc := 0) d_Memory_init_0 rfl rfl ?_
  refine ec_obj (pc := 1) d_Memory_init_1 (q_in 352 (by decide +kernel) rfl) (by decide) (by decide) (by decide) ?_
  refine ec_aload_n (pc := 4) d_Memory_init_4 rfl rfl ?_
  refine ev_sipush (pc := 5) d_Memory_init_5 rfl ?_
  refine ec_newa (pc := 8) (k := 0) (n := 0) (ma_clr f 59 0) (ma_clr R 59 none) d_Memory_init_8 s_59 rfl (.inl rfl) (by decide) (by decide) (q_in 83 (by decide +kernel) rfl) rfl rfl ?_
  refine ec_putr (pc := 10) ok (ma_up (ma_clr R 59 none) 58 0 (some 59)) (fo_Memory_9 t) k_11 rfl rfl rfl (fun _ => ⟨.array (.int), by decide +kernel, rfl, rfl⟩) d_Memory_init_10 s_58 (by decide) rfl ?_
  exact ec_ret (pc := 13) d_Memory_init_13 rfl
def cz_f209 : q_F := (ma_clr cz_f207 59 0)
def cz_R210 : Nat → Nat → Option Nat := (ma_up (ma_clr cz_R208 59 none) 58 0 (some 59))
def cz_R211 : Nat → Nat → Option Nat := ma_up cz_R210 0 5 (some 58)
def cz_f212 : q_F := ma_up cz_f209 0 6 (0)
def cz_f213 : q_F := ma_up cz_f212 0 7 (-1)
theorem t_Desk_init (t : q_V) (ok : ma_ok (q_G t)) : ma_Met (q_G t) true 3 61 59 1791 m_Desk_init [q_a t 0] (q_c 1 cz_fD cz_RD) (q_cQ 60 cz_f213 cz_R211) := by
  refine ma_met (by decide +kernel) (q_ble rfl) rfl ?_
  change ma_Ev (q_G t) 3 61 59 1791 m_Desk_init 0 [(0, q_a t 0)] [] (q_c 1 cz_fD cz_RD) (ma_zr (q_G t) true (q_cQ 60 cz_f213 cz_R211))
  refine ec_aload_n (pc := 0) d_Desk_init_0 rfl rfl ?_
  refine ec_obj (pc := 1) d_Desk_init_1 (q_in 27 (by decide +kernel) rfl) (by decide) (by decide) (by decide) ?_
  refine ec_aload_n (pc := 4) d_Desk_init_4 rfl rfl ?_
  refine ec_new (pc := 5) (k := 58) (n := 1789) ok cz_f1 cz_R2 d_Desk_init_5 s_1 k_1 rfl q_df1 (q_in 30 (by decide +kernel) rfl) (q_in 31 (by decide +kernel) rfl) (q_in 2 (by decide +kernel) rfl) rfl rfl ?_
  refine ev_dup (pc := 8) d_Desk_init_8 rfl ?_
  refine ec_callI (pc := 9) (k := 57) (n := 1629) (c1 := 3) (f1 := cz_f3) (R1 := cz_R4) (mc := 1) (ms := 160) ok [] [q_a t 1, q_a t 0] (cf_Desk_9 t) d_Desk_init_9 (t_Script_init t ok cz_f1 cz_R2) rfl rfl (by decide) (by decide) (q_ble rfl) ?_
  refine ec_putr (pc := 12) ok cz_R5 (fo_Desk_10 t) k_0 rfl rfl rfl (fun _ => ⟨.object "LayoutDesk$Script", by decide +kernel, rfl, rfl⟩) d_Desk_init_12 s_0 (by decide) rfl ?_
  refine ec_aload_n (pc := 15) d_Desk_init_15 rfl rfl ?_
  refine ec_new (pc := 16) (k := 56) (n := 1619) ok cz_f6 cz_R7 d_Desk_init_16 s_3 k_7 rfl q_df7 (q_in 47 (by decide +kernel) rfl) (q_in 48 (by decide +kernel) rfl) (q_in 3 (by decide +kernel) rfl) rfl rfl ?_
  refine ev_dup (pc := 19) d_Desk_init_19 rfl ?_
  refine ec_callI (pc := 20) (k := 6) (n := 681) (c1 := 54) (f1 := cz_f190) (R1 := cz_R191) (mc := 50) (ms := 938) ok [] [q_a t 3, q_a t 0] (cf_Desk_18 t) d_Desk_init_20 (t_Plan_init t ok) rfl rfl (by decide) (by decide) (q_ble rfl) ?_
  refine ec_putr (pc := 23) ok cz_R192 (fo_Desk_19 t) k_0 rfl rfl rfl (fun _ => ⟨.object "LayoutDesk$Plan", by decide +kernel, rfl, rfl⟩) d_Desk_init_23 s_0 (by decide) rfl ?_
  refine ec_aload_n (pc := 26) d_Desk_init_26 rfl rfl ?_
  refine ec_new (pc := 27) (k := 5) (n := 677) ok cz_f193 cz_R194 d_Desk_init_27 s_54 k_8 rfl q_df8 (q_in 302 (by decide +kernel) rfl) (q_in 303 (by decide +kernel) rfl) (q_in 9 (by decide +kernel) rfl) rfl rfl ?_
  refine ev_dup (pc := 30) d_Desk_init_30 rfl ?_
  refine ec_aload_n (pc := 31) d_Desk_init_31 rfl rfl ?_
  refine ec_getr (pc := 32) (q := 1) ok (fl_Desk_10 t) rfl d_Desk_init_32 s_0 (by decide) (by decide +kernel) ?_
  refine ec_aload_n (pc := 35) d_Desk_init_35 rfl rfl ?_
  refine ec_getr (pc := 36) (q := 3) ok (fl_Desk_19 t) rfl d_Desk_init_36 s_0 (by decide) (by decide +kernel) ?_
  refine ec_callI (pc := 39) (k := 5) (n := 677) (c1 := 55) (f1 := cz_f195) (R1 := cz_R196) (mc := 0) (ms := 0) ok [q_a t 1, q_a t 3] [q_a t 54, q_a t 0] (cf_Desk_25 t) d_Desk_init_39 (t_Reader_init t ok cz_f193 cz_R194) rfl rfl (by decide) (by decide) (q_ble rfl) ?_
  refine ec_putr (pc := 42) ok cz_R197 (fo_Desk_28 t) k_0 rfl rfl rfl (fun _ => ⟨.object "LayoutDesk$Reader", by decide +kernel, rfl, rfl⟩) d_Desk_init_42 s_0 (by decide) rfl ?_
  refine ec_aload_n (pc := 45) d_Desk_init_45 rfl rfl ?_
  refine ec_new (pc := 46) (k := 4) (n := 674) ok cz_f198 cz_R199 d_Desk_init_46 s_55 k_9 rfl q_df9 (q_in 321 (by decide +kernel) rfl) (q_in 322 (by decide +kernel) rfl) (q_in 10 (by decide +kernel) rfl) rfl rfl ?_
  refine ev_dup (pc := 49) d_Desk_init_49 rfl ?_
  refine ec_aload_n (pc := 50) d_Desk_init_50 rfl rfl ?_
  refine ec_getr (pc := 51) (q := 3) ok (fl_Desk_19 t) rfl d_Desk_init_51 s_0 (by decide) (by decide +kernel) ?_
  refine ec_callI (pc := 54) (k := 3) (n := 514) (c1 := 57) (f1 := cz_f200) (R1 := cz_R201) (mc := 1) (ms := 160) ok [q_a t 3] [q_a t 55, q_a t 0] (cf_Desk_34 t) d_Desk_init_54 (t_Reckoner_init t ok cz_f198 cz_R199) rfl rfl (by decide) (by decide) (q_ble rfl) ?_
  refine ec_putr (pc := 57) ok cz_R202 (fo_Desk_37 t) k_0 rfl rfl rfl (fun _ => ⟨.object "LayoutDesk$Reckoner", by decide +kernel, rfl, rfl⟩) d_Desk_init_57 s_0 (by decide) rfl ?_
  refine ec_aload_n (pc := 60) d_Desk_init_60 rfl rfl ?_
  refine ec_new (pc := 61) (k := 2) (n := 513) ok cz_f203 cz_R204 d_Desk_init_61 s_57 k_10 rfl q_df10 (q_in 337 (by decide +kernel) rfl) (q_in 338 (by decide +kernel) rfl) (q_in 11 (by decide +kernel) rfl) rfl rfl ?_
  refine ev_dup (pc := 64) d_Desk_init_64 rfl ?_
  refine ec_aload_n (pc := 65) d_Desk_init_65 rfl rfl ?_
  refine ec_getr (pc := 66) (q := 3) ok (fl_Desk_19 t) rfl d_Desk_init_66 s_0 (by decide) (by decide +kernel) ?_
  refine ec_callI (pc := 69) (k := 2) (n := 513) (c1 := 58) (f1 := cz_f203) (R1 := cz_R205) (mc := 0) (ms := 0) ok [q_a t 3] [q_a t 57, q_a t 0] (cf_Desk_43 t) d_Desk_init_69 (t_Judge_init t ok cz_f203 cz_R204) rfl rfl (by decide) (by decide) (q_ble rfl) ?_
  refine ec_putr (pc := 72) ok cz_R206 (fo_Desk_44 t) k_0 rfl rfl rfl (fun _ => ⟨.object "LayoutDesk$Judge", by decide +kernel, rfl, rfl⟩) d_Desk_init_72 s_0 (by decide) rfl ?_
  refine ec_aload_n (pc := 75) d_Desk_init_75 rfl rfl ?_
  refine ec_new (pc := 76) (k := 1) (n := 512) ok cz_f207 cz_R208 d_Desk_init_76 s_58 k_11 rfl q_df11 (q_in 347 (by decide +kernel) rfl) (q_in 348 (by decide +kernel) rfl) (q_in 12 (by decide +kernel) rfl) rfl rfl ?_
  refine ev_dup (pc := 79) d_Desk_init_79 rfl ?_
  refine ec_callI (pc := 80) (k := 0) (n := 0) (c1 := 60) (f1 := cz_f209) (R1 := cz_R210) (mc := 1) (ms := 512) ok [] [q_a t 58, q_a t 0] (cf_Desk_50 t) d_Desk_init_80 (t_Memory_init t ok cz_f207 cz_R208) rfl rfl (by decide) (by decide) (q_ble rfl) ?_
  refine ec_putr (pc := 83) ok cz_R211 (fo_Desk_51 t) k_0 rfl rfl rfl (fun _ => ⟨.object "LayoutDesk$Memory", by decide +kernel, rfl, rfl⟩) d_Desk_init_83 s_0 (by decide) rfl ?_
  refine ec_aload_n (pc := 86) d_Desk_init_86 rfl rfl ?_
  refine ev_iconst (pc := 87) d_Desk_init_87  ?_
  refine ec_puti (pc := 88) ok cz_f212 (fl_Desk_55 t) rfl (ma_fit_Z (by decide)) d_Desk_init_88 s_0 (by decide) rfl ?_
  refine ec_aload_n (pc := 91) d_Desk_init_91 rfl rfl ?_
  refine ev_iconst (pc := 92) d_Desk_init_92  ?_
  refine ec_puti (pc := 93) ok cz_f213 (fl_Desk_59 t) rfl ⟨.int, by decide +kernel, rfl, rfl⟩ d_Desk_init_93 s_0 (by decide) rfl ?_
  exact ec_ret (pc := 96) d_Desk_init_96 rfl
def cz_fM : q_F := ma_clr cz_f213 60 0
def cz_RM : Nat → Nat → Option Nat := ma_clr cz_R211 60 none
theorem d_Mod_init_0 : decode (m_c m_Mod_init) 0 = .ok (.aload_n 0, 1) := by decide +kernel
theorem d_Mod_init_1 : decode (m_c m_Mod_init) 1 = .ok (.invokespecial 1, 3) := by decide +kernel
theorem d_Mod_init_4 : decode (m_c m_Mod_init) 4 = .ok (.aload_n 0, 1) := by decide +kernel
theorem d_Mod_init_5 : decode (m_c m_Mod_init) 5 = .ok (.bipush 8, 2) := by decide +kernel
theorem d_Mod_init_7 : decode (m_c m_Mod_init) 7 = .ok (.newarray .int, 2) := by decide +kernel
theorem d_Mod_init_9 : decode (m_c m_Mod_init) 9 = .ok (.putfield 7, 3) := by decide +kernel
theorem d_Mod_init_12 : decode (m_c m_Mod_init) 12 = .ok (.aload_n 0, 1) := by decide +kernel
theorem d_Mod_init_13 : decode (m_c m_Mod_init) 13 = .ok (.bipush 8, 2) := by decide +kernel
theorem d_Mod_init_15 : decode (m_c m_Mod_init) 15 = .ok (.newarray .int, 2) := by decide +kernel
theorem d_Mod_init_17 : decode (m_c m_Mod_init) 17 = .ok (.putfield 13, 3) := by decide +kernel
theorem d_Mod_init_20 : decode (m_c m_Mod_init) 20 = .ok (.aload_n 0, 1) := by decide +kernel
theorem d_Mod_init_21 : decode (m_c m_Mod_init) 21 = .ok (.bipush 8, 2) := by decide +kernel
theorem d_Mod_init_23 : decode (m_c m_Mod_init) 23 = .ok (.newarray .int, 2) := by decide +kernel
theorem d_Mod_init_25 : decode (m_c m_Mod_init) 25 = .ok (.putfield 16, 3) := by decide +kernel
theorem d_Mod_init_28 : decode (m_c m_Mod_init) 28 = .ok (.aload_n 0, 1) := by decide +kernel
theorem d_Mod_init_29 : decode (m_c m_Mod_init) 29 = .ok (.bipush 8, 2) := by decide +kernel
theorem d_Mod_init_31 : decode (m_c m_Mod_init) 31 = .ok (.newarray .int, 2) := by decide +kernel
theorem d_Mod_init_33 : decode (m_c m_Mod_init) 33 = .ok (.putfield 19, 3) := by decide +kernel
theorem d_Mod_init_36 : decode (m_c m_Mod_init) 36 = .ok (.aload_n 0, 1) := by decide +kernel
theorem d_Mod_init_37 : decode (m_c m_Mod_init) 37 = .ok (.bipush 8, 2) := by decide +kernel
theorem d_Mod_init_39 : decode (m_c m_Mod_init) 39 = .ok (.newarray .boolean, 2) := by decide +kernel
theorem d_Mod_init_41 : decode (m_c m_Mod_init) 41 = .ok (.putfield 22, 3) := by decide +kernel
theorem d_Mod_init_44 : decode (m_c m_Mod_init) 44 = .ok (.aload_n 0, 1) := by decide +kernel
theorem d_Mod_init_45 : decode (m_c m_Mod_init) 45 = .ok (.sipush 160, 3) := by decide +kernel
theorem d_Mod_init_48 : decode (m_c m_Mod_init) 48 = .ok (.newarray .int, 2) := by decide +kernel
theorem d_Mod_init_50 : decode (m_c m_Mod_init) 50 = .ok (.putfield 26, 3) := by decide +kernel
theorem d_Mod_init_53 : decode (m_c m_Mod_init) 53 = .ok (.aload_n 0, 1) := by decide +kernel
theorem d_Mod_init_54 : decode (m_c m_Mod_init) 54 = .ok (.iconst (-1), 1) := by decide +kernel
theorem d_Mod_init_55 : decode (m_c m_Mod_init) 55 = .ok (.putfield 29, 3) := by decide +kernel
theorem d_Mod_init_58 : decode (m_c m_Mod_init) 58 = .ok (.aload_n 0, 1) := by decide +kernel
theorem d_Mod_init_59 : decode (m_c m_Mod_init) 59 = .ok (.iconst 4, 1) := by decide +kernel
theorem d_Mod_init_60 : decode (m_c m_Mod_init) 60 = .ok (.newarray .boolean, 2) := by decide +kernel
theorem d_Mod_init_62 : decode (m_c m_Mod_init) 62 = .ok (.putfield 33, 3) := by decide +kernel
theorem d_Mod_init_65 : decode (m_c m_Mod_init) 65 = .ok (.aload_n 0, 1) := by decide +kernel
theorem d_Mod_init_66 : decode (m_c m_Mod_init) 66 = .ok (.iconst 4, 1) := by decide +kernel
theorem d_Mod_init_67 : decode (m_c m_Mod_init) 67 = .ok (.newarray .int, 2) := by decide +kernel
theorem d_Mod_init_69 : decode (m_c m_Mod_init) 69 = .ok (.putfield 36, 3) := by decide +kernel
theorem d_Mod_init_72 : decode (m_c m_Mod_init) 72 = .ok (.aload_n 0, 1) := by decide +kernel
theorem d_Mod_init_73 : decode (m_c m_Mod_init) 73 = .ok (.iconst 4, 1) := by decide +kernel
theorem d_Mod_init_74 : decode (m_c m_Mod_init) 74 = .ok (.newarray .int, 2) := by decide +kernel
theorem d_Mod_init_76 : decode (m_c m_Mod_init) 76 = .ok (.putfield 39, 3) := by decide +kernel
theorem d_Mod_init_79 : decode (m_c m_Mod_init) 79 = .ok (.aload_n 0, 1) := by decide +kernel
theorem d_Mod_init_80 : decode (m_c m_Mod_init) 80 = .ok (.sipush 160, 3) := by decide +kernel
theorem d_Mod_init_83 : decode (m_c m_Mod_init) 83 = .ok (.newarray .int, 2) := by decide +kernel
theorem d_Mod_init_85 : decode (m_c m_Mod_init) 85 = .ok (.putfield 42, 3) := by decide +kernel
theorem d_Mod_init_88 : decode (m_c m_Mod_init) 88 = .ok (.aload_n 0, 1) := by decide +kernel
theorem d_Mod_init_89 : decode (m_c m_Mod_init) 89 = .ok (.sipush 160, 3) := by decide +kernel
theorem d_Mod_init_92 : decode (m_c m_Mod_init) 92 = .ok (.newarray .int, 2) := by decide +kernel
theorem d_Mod_init_94 : decode (m_c m_Mod_init) 94 = .ok (.putfield 45, 3) := by decide +kernel
theorem d_Mod_init_97 : decode (m_c m_Mod_init) 97 = .ok (.aload_n 0, 1) := by decide +kernel
theorem d_Mod_init_98 : decode (m_c m_Mod_init) 98 = .ok (.sipush 160, 3) := by decide +kernel
theorem d_Mod_init_101 : decode (m_c m_Mod_init) 101 = .ok (.newarray .long, 2) := by decide +kernel
theorem d_Mod_init_103 : decode (m_c m_Mod_init) 103 = .ok (.putfield 48, 3) := by decide +kernel
theorem d_Mod_init_106 : decode (m_c m_Mod_init) 106 = .ok (.aload_n 0, 1) := by decide +kernel
theorem d_Mod_init_107 : decode (m_c m_Mod_init) 107 = .ok (.bipush 6, 2) := by decide +kernel
theorem d_Mod_init_109 : decode (m_c m_Mod_init) 109 = .ok (.newarray .int, 2) := by decide +kernel
theorem d_Mod_init_111 : decode (m_c m_Mod_init) 111 = .ok (.putfield 52, 3) := by decide +kernel
theorem d_Mod_init_114 : decode (m_c m_Mod_init) 114 = .ok (.aload_n 0, 1) := by decide +kernel
theorem d_Mod_init_115 : decode (m_c m_Mod_init) 115 = .ok (.bipush 6, 2) := by decide +kernel
theorem d_Mod_init_117 : decode (m_c m_Mod_init) 117 = .ok (.newarray .int, 2) := by decide +kernel
theorem d_Mod_init_119 : decode (m_c m_Mod_init) 119 = .ok (.putfield 55, 3) := by decide +kernel
theorem d_Mod_init_122 : decode (m_c m_Mod_init) 122 = .ok (.aload_n 0, 1) := by decide +kernel
theorem d_Mod_init_123 : decode (m_c m_Mod_init) 123 = .ok (.bipush 8, 2) := by decide +kernel
theorem d_Mod_init_125 : decode (m_c m_Mod_init) 125 = .ok (.newarray .int, 2) := by decide +kernel
theorem d_Mod_init_127 : decode (m_c m_Mod_init) 127 = .ok (.putfield 58, 3) := by decide +kernel
theorem d_Mod_init_130 : decode (m_c m_Mod_init) 130 = .ok (.aload_n 0, 1) := by decide +kernel
theorem d_Mod_init_131 : decode (m_c m_Mod_init) 131 = .ok (.bipush 8, 2) := by decide +kernel
theorem d_Mod_init_133 : decode (m_c m_Mod_init) 133 = .ok (.newarray .boolean, 2) := by decide +kernel
theorem d_Mod_init_135 : decode (m_c m_Mod_init) 135 = .ok (.putfield 61, 3) := by decide +kernel
theorem d_Mod_init_138 : decode (m_c m_Mod_init) 138 = .ok (.aload_n 0, 1) := by decide +kernel
theorem d_Mod_init_139 : decode (m_c m_Mod_init) 139 = .ok (.bipush 8, 2) := by decide +kernel
theorem d_Mod_init_141 : decode (m_c m_Mod_init) 141 = .ok (.newarray .boolean, 2) := by decide +kernel
theorem d_Mod_init_143 : decode (m_c m_Mod_init) 143 = .ok (.putfield 64, 3) := by decide +kernel
theorem d_Mod_init_146 : decode (m_c m_Mod_init) 146 = .ok (.aload_n 0, 1) := by decide +kernel
theorem d_Mod_init_147 : decode (m_c m_Mod_init) 147 = .ok (.bipush 8, 2) := by decide +kernel
theorem d_Mod_init_149 : decode (m_c m_Mod_init) 149 = .ok (.newarray .int, 2) := by decide +kernel
theorem d_Mod_init_151 : decode (m_c m_Mod_init) 151 = .ok (.putfield 67, 3) := by decide +kernel
theorem d_Mod_init_154 : decode (m_c m_Mod_init) 154 = .ok (.aload_n 0, 1) := by decide +kernel
theorem d_Mod_init_155 : decode (m_c m_Mod_init) 155 = .ok (.bipush 8, 2) := by decide +kernel
theorem d_Mod_init_157 : decode (m_c m_Mod_init) 157 = .ok (.newarray .int, 2) := by decide +kernel
theorem d_Mod_init_159 : decode (m_c m_Mod_init) 159 = .ok (.putfield 70, 3) := by decide +kernel
theorem d_Mod_init_162 : decode (m_c m_Mod_init) 162 = .ok (.aload_n 0, 1) := by decide +kernel
theorem d_Mod_init_163 : decode (m_c m_Mod_init) 163 = .ok (.bipush 8, 2) := by decide +kernel
theorem d_Mod_init_165 : decode (m_c m_Mod_init) 165 = .ok (.newarray .int, 2) := by decide +kernel
theorem d_Mod_init_167 : decode (m_c m_Mod_init) 167 = .ok (.putfield 73, 3) := by decide +kernel
theorem d_Mod_init_170 : decode (m_c m_Mod_init) 170 = .ok (.aload_n 0, 1) := by decide +kernel
theorem d_Mod_init_171 : decode (m_c m_Mod_init) 171 = .ok (.bipush 8, 2) := by decide +kernel
theorem d_Mod_init_173 : decode (m_c m_Mod_init) 173 = .ok (.newarray .int, 2) := by decide +kernel
theorem d_Mod_init_175 : decode (m_c m_Mod_init) 175 = .ok (.putfield 76, 3) := by decide +kernel
theorem d_Mod_init_178 : decode (m_c m_Mod_init) 178 = .ok (.aload_n 0, 1) := by decide +kernel
theorem d_Mod_init_179 : decode (m_c m_Mod_init) 179 = .ok (.bipush 8, 2) := by decide +kernel
theorem d_Mod_init_181 : decode (m_c m_Mod_init) 181 = .ok (.newarray .int, 2) := by decide +kernel
theorem d_Mod_init_183 : decode (m_c m_Mod_init) 183 = .ok (.putfield 79, 3) := by decide +kernel
theorem d_Mod_init_186 : decode (m_c m_Mod_init) 186 = .ok (.aload_n 0, 1) := by decide +kernel
theorem d_Mod_init_187 : decode (m_c m_Mod_init) 187 = .ok (.bipush 8, 2) := by decide +kernel
theorem d_Mod_init_189 : decode (m_c m_Mod_init) 189 = .ok (.newarray .boolean, 2) := by decide +kernel
theorem d_Mod_init_191 : decode (m_c m_Mod_init) 191 = .ok (.putfield 82, 3) := by decide +kernel
theorem d_Mod_init_194 : decode (m_c m_Mod_init) 194 = .ok (.aload_n 0, 1) := by decide +kernel
theorem d_Mod_init_195 : decode (m_c m_Mod_init) 195 = .ok (.bipush 8, 2) := by decide +kernel
theorem d_Mod_init_197 : decode (m_c m_Mod_init) 197 = .ok (.newarray .int, 2) := by decide +kernel
theorem d_Mod_init_199 : decode (m_c m_Mod_init) 199 = .ok (.putfield 85, 3) := by decide +kernel
theorem d_Mod_init_202 : decode (m_c m_Mod_init) 202 = .ok (.aload_n 0, 1) := by decide +kernel
theorem d_Mod_init_203 : decode (m_c m_Mod_init) 203 = .ok (.bipush 8, 2) := by decide +kernel
theorem d_Mod_init_205 : decode (m_c m_Mod_init) 205 = .ok (.newarray .int, 2) := by decide +kernel
theorem d_Mod_init_207 : decode (m_c m_Mod_init) 207 = .ok (.putfield 88, 3) := by decide +kernel
theorem d_Mod_init_210 : decode (m_c m_Mod_init) 210 = .ok (.aload_n 0, 1) := by decide +kernel
theorem d_Mod_init_211 : decode (m_c m_Mod_init) 211 = .ok (.bipush 8, 2) := by decide +kernel
theorem d_Mod_init_213 : decode (m_c m_Mod_init) 213 = .ok (.newarray .int, 2) := by decide +kernel
theorem d_Mod_init_215 : decode (m_c m_Mod_init) 215 = .ok (.putfield 91, 3) := by decide +kernel
theorem d_Mod_init_218 : decode (m_c m_Mod_init) 218 = .ok (.aload_n 0, 1) := by decide +kernel
theorem d_Mod_init_219 : decode (m_c m_Mod_init) 219 = .ok (.bipush 8, 2) := by decide +kernel
theorem d_Mod_init_221 : decode (m_c m_Mod_init) 221 = .ok (.newarray .int, 2) := by decide +kernel
theorem d_Mod_init_223 : decode (m_c m_Mod_init) 223 = .ok (.putfield 94, 3) := by decide +kernel
theorem d_Mod_init_226 : decode (m_c m_Mod_init) 226 = .ok (.aload_n 0, 1) := by decide +kernel
theorem d_Mod_init_227 : decode (m_c m_Mod_init) 227 = .ok (.bipush 8, 2) := by decide +kernel
theorem d_Mod_init_229 : decode (m_c m_Mod_init) 229 = .ok (.newarray .int, 2) := by decide +kernel
theorem d_Mod_init_231 : decode (m_c m_Mod_init) 231 = .ok (.putfield 97, 3) := by decide +kernel
theorem d_Mod_init_234 : decode (m_c m_Mod_init) 234 = .ok (.aload_n 0, 1) := by decide +kernel
theorem d_Mod_init_235 : decode (m_c m_Mod_init) 235 = .ok (.sipush 160, 3) := by decide +kernel
theorem d_Mod_init_238 : decode (m_c m_Mod_init) 238 = .ok (.newarray .int, 2) := by decide +kernel
theorem d_Mod_init_240 : decode (m_c m_Mod_init) 240 = .ok (.putfield 100, 3) := by decide +kernel
theorem d_Mod_init_243 : decode (m_c m_Mod_init) 243 = .ok (.aload_n 0, 1) := by decide +kernel
theorem d_Mod_init_244 : decode (m_c m_Mod_init) 244 = .ok (.bipush 26, 2) := by decide +kernel
theorem d_Mod_init_246 : decode (m_c m_Mod_init) 246 = .ok (.newarray .boolean, 2) := by decide +kernel
theorem d_Mod_init_248 : decode (m_c m_Mod_init) 248 = .ok (.putfield 103, 3) := by decide +kernel
theorem d_Mod_init_251 : decode (m_c m_Mod_init) 251 = .ok (.aload_n 0, 1) := by decide +kernel
theorem d_Mod_init_252 : decode (m_c m_Mod_init) 252 = .ok (.bipush 26, 2) := by decide +kernel
theorem d_Mod_init_254 : decode (m_c m_Mod_init) 254 = .ok (.newarray .boolean, 2) := by decide +kernel
theorem d_Mod_init_256 : decode (m_c m_Mod_init) 256 = .ok (.putfield 106, 3) := by decide +kernel
theorem d_Mod_init_259 : decode (m_c m_Mod_init) 259 = .ok (.aload_n 0, 1) := by decide +kernel
theorem d_Mod_init_260 : decode (m_c m_Mod_init) 260 = .ok (.bipush 26, 2) := by decide +kernel
theorem d_Mod_init_262 : decode (m_c m_Mod_init) 262 = .ok (.newarray .int, 2) := by decide +kernel
theorem d_Mod_init_264 : decode (m_c m_Mod_init) 264 = .ok (.putfield 109, 3) := by decide +kernel
theorem d_Mod_init_267 : decode (m_c m_Mod_init) 267 = .ok (.aload_n 0, 1) := by decide +kernel
theorem d_Mod_init_268 : decode (m_c m_Mod_init) 268 = .ok (.bipush 26, 2) := by decide +kernel
theorem d_Mod_init_270 : decode (m_c m_Mod_init) 270 = .ok (.newarray .int, 2) := by decide +kernel
theorem d_Mod_init_272 : decode (m_c m_Mod_init) 272 = .ok (.putfield 112, 3) := by decide +kernel
theorem d_Mod_init_275 : decode (m_c m_Mod_init) 275 = .ok (.aload_n 0, 1) := by decide +kernel
theorem d_Mod_init_276 : decode (m_c m_Mod_init) 276 = .ok (.bipush 26, 2) := by decide +kernel
theorem d_Mod_init_278 : decode (m_c m_Mod_init) 278 = .ok (.newarray .int, 2) := by decide +kernel
theorem d_Mod_init_280 : decode (m_c m_Mod_init) 280 = .ok (.putfield 115, 3) := by decide +kernel
theorem d_Mod_init_283 : decode (m_c m_Mod_init) 283 = .ok (.aload_n 0, 1) := by decide +kernel
theorem d_Mod_init_284 : decode (m_c m_Mod_init) 284 = .ok (.bipush 26, 2) := by decide +kernel
theorem d_Mod_init_286 : decode (m_c m_Mod_init) 286 = .ok (.newarray .int, 2) := by decide +kernel
theorem d_Mod_init_288 : decode (m_c m_Mod_init) 288 = .ok (.putfield 118, 3) := by decide +kernel
theorem d_Mod_init_291 : decode (m_c m_Mod_init) 291 = .ok (.aload_n 0, 1) := by decide +kernel
theorem d_Mod_init_292 : decode (m_c m_Mod_init) 292 = .ok (.sipush 512, 3) := by decide +kernel
theorem d_Mod_init_295 : decode (m_c m_Mod_init) 295 = .ok (.newarray .int, 2) := by decide +kernel
theorem d_Mod_init_297 : decode (m_c m_Mod_init) 297 = .ok (.putfield 121, 3) := by decide +kernel
theorem d_Mod_init_300 : decode (m_c m_Mod_init) 300 = .ok (.iconst 0, 1) := by decide +kernel
theorem d_Mod_init_301 : decode (m_c m_Mod_init) 301 = .ok (.istore_n 1, 1) := by decide +kernel
theorem d_Mod_init_302 : decode (m_c m_Mod_init) 302 = .ok (.iload_n 1, 1) := by decide +kernel
theorem d_Mod_init_303 : decode (m_c m_Mod_init) 303 = .ok (.bipush 8, 2) := by decide +kernel
theorem d_Mod_init_305 : decode (m_c m_Mod_init) 305 = .ok (.if_icmp .ge 16, 3) := by decide +kernel
theorem d_Mod_init_308 : decode (m_c m_Mod_init) 308 = .ok (.aload_n 0, 1) := by decide +kernel
theorem d_Mod_init_309 : decode (m_c m_Mod_init) 309 = .ok (.getfield 13, 3) := by decide +kernel
theorem d_Mod_init_312 : decode (m_c m_Mod_init) 312 = .ok (.iload_n 1, 1) := by decide +kernel
theorem d_Mod_init_313 : decode (m_c m_Mod_init) 313 = .ok (.iconst 1, 1) := by decide +kernel
theorem d_Mod_init_314 : decode (m_c m_Mod_init) 314 = .ok (.iastore, 1) := by decide +kernel
theorem d_Mod_init_315 : decode (m_c m_Mod_init) 315 = .ok (.iinc 1 1, 3) := by decide +kernel
theorem d_Mod_init_318 : decode (m_c m_Mod_init) 318 = .ok (.goto (-16), 3) := by decide +kernel
theorem d_Mod_init_321 : decode (m_c m_Mod_init) 321 = .ok (.return_, 1) := by decide +kernel
def cz_f214 : q_F := ma_clr cz_fM 61 0
def cz_R215 : Nat → Nat → Option Nat := ma_clr cz_RM 61 none
def cz_R216 : Nat → Nat → Option Nat := ma_up cz_R215 60 1 (some 61)
def cz_f217 : q_F := ma_clr cz_f214 62 0
def cz_R218 : Nat → Nat → Option Nat := ma_clr cz_R216 62 none
def cz_R219 : Nat → Nat → Option Nat := ma_up cz_R218 60 2 (some 62)
def cz_f220 : q_F := ma_clr cz_f217 63 0
def cz_R221 : Nat → Nat → Option Nat := ma_clr cz_R219 63 none
def cz_R222 : Nat → Nat → Option Nat := ma_up cz_R221 60 3 (some 63)
def cz_f223 : q_F := ma_clr cz_f220 64 0
def cz_R224 : Nat → Nat → Option Nat := ma_clr cz_R222 64 none
def cz_R225 : Nat → Nat → Option Nat := ma_up cz_R224 60 4 (some 64)
def cz_f226 : q_F := ma_clr cz_f223 65 0
def cz_R227 : Nat → Nat → Option Nat := ma_clr cz_R225 65 none
def cz_R228 : Nat → Nat → Option Nat := ma_up cz_R227 60 5 (some 65)
def cz_f229 : q_F := ma_clr cz_f226 66 0
def cz_R230 : Nat → Nat → Option Nat := ma_clr cz_R228 66 none
def cz_R231 : Nat → Nat → Option Nat := ma_up cz_R230 60 7 (some 66)
def cz_f232 : q_F := ma_up cz_f229 60 10 (-1)
def cz_f233 : q_F := ma_clr cz_f232 67 0
def cz_R234 : Nat → Nat → Option Nat := ma_clr cz_R231 67 none
def cz_R235 : Nat → Nat → Option Nat := ma_up cz_R234 60 11 (some 67)
def cz_f236 : q_F := ma_clr cz_f233 68 0
def cz_R237 : Nat → Nat → Option Nat := ma_clr cz_R235 68 none
def cz_R238 : Nat → Nat → Option Nat := ma_up cz_R237 60 12 (some 68)
def cz_f239 : q_F := ma_clr cz_f236 69 0
def cz_R240 : Nat → Nat → Option Nat := ma_clr cz_R238 69 none
def cz_R241 : Nat → Nat → Option Nat := ma_up cz_R240 60 13 (some 69)
def cz_f242 : q_F := ma_clr cz_f239 70 0
def cz_R243 : Nat → Nat → Option Nat := ma_clr cz_R241 70 none
def cz_R244 : Nat → Nat → Option Nat := ma_up cz_R243 60 15 (some 70)
def cz_f245 : q_F := ma_clr cz_f242 71 0
def cz_R246 : Nat → Nat → Option Nat := ma_clr cz_R244 71 none
def cz_R247 : Nat → Nat → Option Nat := ma_up cz_R246 60 16 (some 71)
def cz_f248 : q_F := ma_clr cz_f245 72 0
def cz_R249 : Nat → Nat → Option Nat := ma_clr cz_R247 72 none
def cz_R250 : Nat → Nat → Option Nat := ma_up cz_R249 60 17 (some 72)
def cz_f251 : q_F := ma_clr cz_f248 73 0
def cz_R252 : Nat → Nat → Option Nat := ma_clr cz_R250 73 none
def cz_R253 : Nat → Nat → Option Nat := ma_up cz_R252 60 18 (some 73)
def cz_f254 : q_F := ma_clr cz_f251 74 0
def cz_R255 : Nat → Nat → Option Nat := ma_clr cz_R253 74 none
def cz_R256 : Nat → Nat → Option Nat := ma_up cz_R255 60 19 (some 74)
def cz_f257 : q_F := ma_clr cz_f254 75 0
def cz_R258 : Nat → Nat → Option Nat := ma_clr cz_R256 75 none
def cz_R259 : Nat → Nat → Option Nat := ma_up cz_R258 60 23 (some 75)
def cz_f260 : q_F := ma_clr cz_f257 76 0
def cz_R261 : Nat → Nat → Option Nat := ma_clr cz_R259 76 none
def cz_R262 : Nat → Nat → Option Nat := ma_up cz_R261 60 24 (some 76)
def cz_f263 : q_F := ma_clr cz_f260 77 0
def cz_R264 : Nat → Nat → Option Nat := ma_clr cz_R262 77 none
def cz_R265 : Nat → Nat → Option Nat := ma_up cz_R264 60 25 (some 77)
def cz_f266 : q_F := ma_clr cz_f263 78 0
def cz_R267 : Nat → Nat → Option Nat := ma_clr cz_R265 78 none
def cz_R268 : Nat → Nat → Option Nat := ma_up cz_R267 60 26 (some 78)
def cz_f269 : q_F := ma_clr cz_f266 79 0
def cz_R270 : Nat → Nat → Option Nat := ma_clr cz_R268 79 none
def cz_R271 : Nat → Nat → Option Nat := ma_up cz_R270 60 27 (some 79)
def cz_f272 : q_F := ma_clr cz_f269 80 0
def cz_R273 : Nat → Nat → Option Nat := ma_clr cz_R271 80 none
def cz_R274 : Nat → Nat → Option Nat := ma_up cz_R273 60 28 (some 80)
def cz_f275 : q_F := ma_clr cz_f272 81 0
def cz_R276 : Nat → Nat → Option Nat := ma_clr cz_R274 81 none
def cz_R277 : Nat → Nat → Option Nat := ma_up cz_R276 60 29 (some 81)
def cz_f278 : q_F := ma_clr cz_f275 82 0
def cz_R279 : Nat → Nat → Option Nat := ma_clr cz_R277 82 none
def cz_R280 : Nat → Nat → Option Nat := ma_up cz_R279 60 30 (some 82)
def cz_f281 : q_F := ma_clr cz_f278 83 0
def cz_R282 : Nat → Nat → Option Nat := ma_clr cz_R280 83 none
def cz_R283 : Nat → Nat → Option Nat := ma_up cz_R282 60 31 (some 83)
def cz_f284 : q_F := ma_clr cz_f281 84 0
def cz_R285 : Nat → Nat → Option Nat := ma_clr cz_R283 84 none
def cz_R286 : Nat → Nat → Option Nat := ma_up cz_R285 60 32 (some 84)
def cz_f287 : q_F := ma_clr cz_f284 85 0
def cz_R288 : Nat → Nat → Option Nat := ma_clr cz_R286 85 none
def cz_R289 : Nat → Nat → Option Nat := ma_up cz_R288 60 33 (some 85)
def cz_f290 : q_F := ma_clr cz_f287 86 0
def cz_R291 : Nat → Nat → Option Nat := ma_clr cz_R289 86 none
def cz_R292 : Nat → Nat → Option Nat := ma_up cz_R291 60 34 (some 86)
def cz_f293 : q_F := ma_clr cz_f290 87 0
def cz_R294 : Nat → Nat → Option Nat := ma_clr cz_R292 87 none
def cz_R295 : Nat → Nat → Option Nat := ma_up cz_R294 60 35 (some 87)
def cz_f296 : q_F := ma_clr cz_f293 88 0
def cz_R297 : Nat → Nat → Option Nat := ma_clr cz_R295 88 none
def cz_R298 : Nat → Nat → Option Nat := ma_up cz_R297 60 36 (some 88)
def cz_f299 : q_F := ma_clr cz_f296 89 0
def cz_R300 : Nat → Nat → Option Nat := ma_clr cz_R298 89 none
def cz_R301 : Nat → Nat → Option Nat := ma_up cz_R300 60 38 (some 89)
def cz_f302 : q_F := ma_clr cz_f299 90 0
def cz_R303 : Nat → Nat → Option Nat := ma_clr cz_R301 90 none
def cz_R304 : Nat → Nat → Option Nat := ma_up cz_R303 60 39 (some 90)
def cz_f305 : q_F := ma_clr cz_f302 91 0
def cz_R306 : Nat → Nat → Option Nat := ma_clr cz_R304 91 none
def cz_R307 : Nat → Nat → Option Nat := ma_up cz_R306 60 40 (some 91)
def cz_f308 : q_F := ma_clr cz_f305 92 0
def cz_R309 : Nat → Nat → Option Nat := ma_clr cz_R307 92 none
def cz_R310 : Nat → Nat → Option Nat := ma_up cz_R309 60 41 (some 92)
def cz_f311 : q_F := ma_clr cz_f308 93 0
def cz_R312 : Nat → Nat → Option Nat := ma_clr cz_R310 93 none
def cz_R313 : Nat → Nat → Option Nat := ma_up cz_R312 60 42 (some 93)
def cz_f314 : q_F := ma_clr cz_f311 94 0
def cz_R315 : Nat → Nat → Option Nat := ma_clr cz_R313 94 none
def cz_R316 : Nat → Nat → Option Nat := ma_up cz_R315 60 43 (some 94)
def cz_f317 : q_F := ma_clr cz_f314 95 0
def cz_R318 : Nat → Nat → Option Nat := ma_clr cz_R316 95 none
def cz_R319 : Nat → Nat → Option Nat := ma_up cz_R318 60 44 (some 95)
def cz_f320 : q_F := ma_clr cz_f317 96 0
def cz_R321 : Nat → Nat → Option Nat := ma_clr cz_R319 96 none
def cz_R322 : Nat → Nat → Option Nat := ma_up cz_R321 60 46 (some 96)
def cz_f323 : q_F := ma_up cz_f320 62 0 (1)
def cz_f324 : q_F := ma_up cz_f323 62 1 (1)
def cz_f325 : q_F := ma_up cz_f324 62 2 (1)
def cz_f326 : q_F := ma_up cz_f325 62 3 (1)
def cz_f327 : q_F := ma_up cz_f326 62 4 (1)
def cz_f328 : q_F := ma_up cz_f327 62 5 (1)
def cz_f329 : q_F := ma_up cz_f328 62 6 (1)
def cz_f330 : q_F := ma_up cz_f329 62 7 (1)
theorem t_Mod_init (t : q_V) (ok : ma_ok (q_G t)) : ma_Met (q_G t) true 1 20 36 1644 m_Mod_init [q_a t 60] (q_c 61 cz_fM cz_RM) (q_cQ 97 cz_f330 cz_R322) := by
  refine ma_met (by decide +kernel) (q_ble rfl) rfl ?_
  change ma_Ev (q_G t) 1 20 36 1644 m_Mod_init 0 [(0, q_a t 60)] [] (q_c 61 cz_fM cz_RM) (ma_zr (q_G t) true (q_cQ 97 cz_f330 cz_R322))
  refine ec_aload_n (pc := 0) d_Mod_init_0 rfl rfl ?_
  refine ec_obj (pc := 1) d_Mod_init_1 (q_in 826 (by decide +kernel) rfl) (by decide) (by decide) (by decide) ?_
  refine ec_aload_n (pc := 4) d_Mod_init_4 rfl rfl ?_
  refine ev_bipush (pc := 5) d_Mod_init_5 rfl ?_
  refine ec_newa (pc := 7) (k := 35) (n := 1636) cz_f214 cz_R215 d_Mod_init_7 s_61 rfl (.inl rfl) (by decide) (by decide) (q_in 83 (by decide +kernel) rfl) rfl rfl ?_
  refine ec_putr (pc := 9) ok cz_R216 (fo_Mod_7 t) k_12 rfl rfl rfl (fun _ => ⟨.array (.int), by decide +kernel, rfl, rfl⟩) d_Mod_init_9 s_60 (by decide) rfl ?_
  refine ec_aload_n (pc := 12) d_Mod_init_12 rfl rfl ?_
  refine ev_bipush (pc := 13) d_Mod_init_13 rfl ?_
  refine ec_newa (pc := 15) (k := 34) (n := 1628) cz_f217 cz_R218 d_Mod_init_15 s_62 rfl (.inl rfl) (by decide) (by decide) (q_in 83 (by decide +kernel) rfl) rfl rfl ?_
  refine ec_putr (pc := 17) ok cz_R219 (fo_Mod_13 t) k_12 rfl rfl rfl (fun _ => ⟨.array (.int), by decide +kernel, rfl, rfl⟩) d_Mod_init_17 s_60 (by decide) rfl ?_
  refine ec_aload_n (pc := 20) d_Mod_init_20 rfl rfl ?_
  refine ev_bipush (pc := 21) d_Mod_init_21 rfl ?_
  refine ec_newa (pc := 23) (k := 33) (n := 1620) cz_f220 cz_R221 d_Mod_init_23 s_63 rfl (.inl rfl) (by decide) (by decide) (q_in 83 (by decide +kernel) rfl) rfl rfl ?_
  refine ec_putr (pc := 25) ok cz_R222 (fo_Mod_16 t) k_12 rfl rfl rfl (fun _ => ⟨.array (.int), by decide +kernel, rfl, rfl⟩) d_Mod_init_25 s_60 (by decide) rfl ?_
  refine ec_aload_n (pc := 28) d_Mod_init_28 rfl rfl ?_
  refine ev_bipush (pc := 29) d_Mod_init_29 rfl ?_
  refine ec_newa (pc := 31) (k := 32) (n := 1612) cz_f223 cz_R224 d_Mod_init_31 s_64 rfl (.inl rfl) (by decide) (by decide) (q_in 83 (by decide +kernel) rfl) rfl rfl ?_
  refine ec_putr (pc := 33) ok cz_R225 (fo_Mod_19 t) k_12 rfl rfl rfl (fun _ => ⟨.array (.int), by decide +kernel, rfl, rfl⟩) d_Mod_init_33 s_60 (by decide) rfl ?_
  refine ec_aload_n (pc := 36) d_Mod_init_36 rfl rfl ?_
  refine ev_bipush (pc := 37) d_Mod_init_37 rfl ?_
  refine ec_newa (pc := 39) (k := 31) (n := 1604) cz_f226 cz_R227 d_Mod_init_39 s_65 rfl (.inl rfl) (by decide) (by decide) (q_in 969 (by decide +kernel) rfl) rfl rfl ?_
  refine ec_putr (pc := 41) ok cz_R228 (fo_Mod_22 t) k_12 rfl rfl rfl (fun _ => ⟨.array (.boolean), by decide +kernel, rfl, rfl⟩) d_Mod_init_41 s_60 (by decide) rfl ?_
  refine ec_aload_n (pc := 44) d_Mod_init_44 rfl rfl ?_
  refine ev_sipush (pc := 45) d_Mod_init_45 rfl ?_
  refine ec_newa (pc := 48) (k := 30) (n := 1444) cz_f229 cz_R230 d_Mod_init_48 s_66 rfl (.inl rfl) (by decide) (by decide) (q_in 83 (by decide +kernel) rfl) rfl rfl ?_
  refine ec_putr (pc := 50) ok cz_R231 (fo_Mod_26 t) k_12 rfl rfl rfl (fun _ => ⟨.array (.int), by decide +kernel, rfl, rfl⟩) d_Mod_init_50 s_60 (by decide) rfl ?_
  refine ec_aload_n (pc := 53) d_Mod_init_53 rfl rfl ?_
  refine ev_iconst (pc := 54) d_Mod_init_54  ?_
  refine ec_puti (pc := 55) ok cz_f232 (fl_Mod_29 t) rfl ⟨.int, by decide +kernel, rfl, rfl⟩ d_Mod_init_55 s_60 (by decide) rfl ?_
  refine ec_aload_n (pc := 58) d_Mod_init_58 rfl rfl ?_
  refine ev_iconst (pc := 59) d_Mod_init_59  ?_
  refine ec_newa (pc := 60) (k := 29) (n := 1440) cz_f233 cz_R234 d_Mod_init_60 s_67 rfl (.inl rfl) (by decide) (by decide) (q_in 969 (by decide +kernel) rfl) rfl rfl ?_
  refine ec_putr (pc := 62) ok cz_R235 (fo_Mod_33 t) k_12 rfl rfl rfl (fun _ => ⟨.array (.boolean), by decide +kernel, rfl, rfl⟩) d_Mod_init_62 s_60 (by decide) rfl ?_
  refine ec_aload_n (pc := 65) d_Mod_init_65 rfl rfl ?_
  refine ev_iconst (pc := 66) d_Mod_init_66  ?_
  refine ec_newa (pc := 67) (k := 28) (n := 1436) cz_f236 cz_R237 d_Mod_init_67 s_68 rfl (.inl rfl) (by decide) (by decide) (q_in 83 (by decide +kernel) rfl) rfl rfl ?_
  refine ec_putr (pc := 69) ok cz_R238 (fo_Mod_36 t) k_12 rfl rfl rfl (fun _ => ⟨.array (.int), by decide +kernel, rfl, rfl⟩) d_Mod_init_69 s_60 (by decide) rfl ?_
  refine ec_aload_n (pc := 72) d_Mod_init_72 rfl rfl ?_
  refine ev_iconst (pc := 73) d_Mod_init_73  ?_
  refine ec_newa (pc := 74) (k := 27) (n := 1432) cz_f239 cz_R240 d_Mod_init_74 s_69 rfl (.inl rfl) (by decide) (by decide) (q_in 83 (by decide +kernel) rfl) rfl rfl ?_
  refine ec_putr (pc := 76) ok cz_R241 (fo_Mod_39 t) k_12 rfl rfl rfl (fun _ => ⟨.array (.int), by decide +kernel, rfl, rfl⟩) d_Mod_init_76 s_60 (by decide) rfl ?_
  refine ec_aload_n (pc := 79) d_Mod_init_79 rfl rfl ?_
  refine ev_sipush (pc := 80) d_Mod_init_80 rfl ?_
  refine ec_newa (pc := 83) (k := 26) (n := 1272) cz_f242 cz_R243 d_Mod_init_83 s_70 rfl (.inl rfl) (by decide) (by decide) (q_in 83 (by decide +kernel) rfl) rfl rfl ?_
  refine ec_putr (pc := 85) ok cz_R244 (fo_Mod_42 t) k_12 rfl rfl rfl (fun _ => ⟨.array (.int), by decide +kernel, rfl, rfl⟩) d_Mod_init_85 s_60 (by decide) rfl ?_
  refine ec_aload_n (pc := 88) d_Mod_init_88 rfl rfl ?_
  refine ev_sipush (pc := 89) d_Mod_init_89 rfl ?_
  refine ec_newa (pc := 92) (k := 25) (n := 1112) cz_f245 cz_R246 d_Mod_init_92 s_71 rfl (.inl rfl) (by decide) (by decide) (q_in 83 (by decide +kernel) rfl) rfl rfl ?_
  refine ec_putr (pc := 94) ok cz_R247 (fo_Mod_45 t) k_12 rfl rfl rfl (fun _ => ⟨.array (.int), by decide +kernel, rfl, rfl⟩) d_Mod_init_94 s_60 (by decide) rfl ?_
  refine ec_aload_n (pc := 97) d_Mod_init_97 rfl rfl ?_
  refine ev_sipush (pc := 98) d_Mod_init_98 rfl ?_
  refine ec_newa (pc := 101) (k := 24) (n := 952) cz_f248 cz_R249 d_Mod_init_101 s_72 rfl (.inr rfl) (by decide) (by decide) (q_in 970 (by decide +kernel) rfl) rfl rfl ?_
  refine ec_putr (pc := 103) ok cz_R250 (fo_Mod_48 t) k_12 rfl rfl rfl (fun _ => ⟨.array (.long), by decide +kernel, rfl, rfl⟩) d_Mod_init_103 s_60 (by decide) rfl ?_
  refine ec_aload_n (pc := 106) d_Mod_init_106 rfl rfl ?_
  refine ev_bipush (pc := 107) d_Mod_init_107 rfl ?_
  refine ec_newa (pc := 109) (k := 23) (n := 946) cz_f251 cz_R252 d_Mod_init_109 s_73 rfl (.inl rfl) (by decide) (by decide) (q_in 83 (by decide +kernel) rfl) rfl rfl ?_
  refine ec_putr (pc := 111) ok cz_R253 (fo_Mod_52 t) k_12 rfl rfl rfl (fun _ => ⟨.array (.int), by decide +kernel, rfl, rfl⟩) d_Mod_init_111 s_60 (by decide) rfl ?_
  refine ec_aload_n (pc := 114) d_Mod_init_114 rfl rfl ?_
  refine ev_bipush (pc := 115) d_Mod_init_115 rfl ?_
  refine ec_newa (pc := 117) (k := 22) (n := 940) cz_f254 cz_R255 d_Mod_init_117 s_74 rfl (.inl rfl) (by decide) (by decide) (q_in 83 (by decide +kernel) rfl) rfl rfl ?_
  refine ec_putr (pc := 119) ok cz_R256 (fo_Mod_55 t) k_12 rfl rfl rfl (fun _ => ⟨.array (.int), by decide +kernel, rfl, rfl⟩) d_Mod_init_119 s_60 (by decide) rfl ?_
  refine ec_aload_n (pc := 122) d_Mod_init_122 rfl rfl ?_
  refine ev_bipush (pc := 123) d_Mod_init_123 rfl ?_
  refine ec_newa (pc := 125) (k := 21) (n := 932) cz_f257 cz_R258 d_Mod_init_125 s_75 rfl (.inl rfl) (by decide) (by decide) (q_in 83 (by decide +kernel) rfl) rfl rfl ?_
  refine ec_putr (pc := 127) ok cz_R259 (fo_Mod_58 t) k_12 rfl rfl rfl (fun _ => ⟨.array (.int), by decide +kernel, rfl, rfl⟩) d_Mod_init_127 s_60 (by decide) rfl ?_
  refine ec_aload_n (pc := 130) d_Mod_init_130 rfl rfl ?_
  refine ev_bipush (pc := 131) d_Mod_init_131 rfl ?_
  refine ec_newa (pc := 133) (k := 20) (n := 924) cz_f260 cz_R261 d_Mod_init_133 s_76 rfl (.inl rfl) (by decide) (by decide) (q_in 969 (by decide +kernel) rfl) rfl rfl ?_
  refine ec_putr (pc := 135) ok cz_R262 (fo_Mod_61 t) k_12 rfl rfl rfl (fun _ => ⟨.array (.boolean), by decide +kernel, rfl, rfl⟩) d_Mod_init_135 s_60 (by decide) rfl ?_
  refine ec_aload_n (pc := 138) d_Mod_init_138 rfl rfl ?_
  refine ev_bipush (pc := 139) d_Mod_init_139 rfl ?_
  refine ec_newa (pc := 141) (k := 19) (n := 916) cz_f263 cz_R264 d_Mod_init_141 s_77 rfl (.inl rfl) (by decide) (by decide) (q_in 969 (by decide +kernel) rfl) rfl rfl ?_
  refine ec_putr (pc := 143) ok cz_R265 (fo_Mod_64 t) k_12 rfl rfl rfl (fun _ => ⟨.array (.boolean), by decide +kernel, rfl, rfl⟩) d_Mod_init_143 s_60 (by decide) rfl ?_
  refine ec_aload_n (pc := 146) d_Mod_init_146 rfl rfl ?_
  refine ev_bipush (pc := 147) d_Mod_init_147 rfl ?_
  refine ec_newa (pc := 149) (k := 18) (n := 908) cz_f266 cz_R267 d_Mod_init_149 s_78 rfl (.inl rfl) (by decide) (by decide) (q_in 83 (by decide +kernel) rfl) rfl rfl ?_
  refine ec_putr (pc := 151) ok cz_R268 (fo_Mod_67 t) k_12 rfl rfl rfl (fun _ => ⟨.array (.int), by decide +kernel, rfl, rfl⟩) d_Mod_init_151 s_60 (by decide) rfl ?_
  refine ec_aload_n (pc := 154) d_Mod_init_154 rfl rfl ?_
  refine ev_bipush (pc := 155) d_Mod_init_155 rfl ?_
  refine ec_newa (pc := 157) (k := 17) (n := 900) cz_f269 cz_R270 d_Mod_init_157 s_79 rfl (.inl rfl) (by decide) (by decide) (q_in 83 (by decide +kernel) rfl) rfl rfl ?_
  refine ec_putr (pc := 159) ok cz_R271 (fo_Mod_70 t) k_12 rfl rfl rfl (fun _ => ⟨.array (.int), by decide +kernel, rfl, rfl⟩) d_Mod_init_159 s_60 (by decide) rfl ?_
  refine ec_aload_n (pc := 162) d_Mod_init_162 rfl rfl ?_
  refine ev_bipush (pc := 163) d_Mod_init_163 rfl ?_
  refine ec_newa (pc := 165) (k := 16) (n := 892) cz_f272 cz_R273 d_Mod_init_165 s_80 rfl (.inl rfl) (by decide) (by decide) (q_in 83 (by decide +kernel) rfl) rfl rfl ?_
  refine ec_putr (pc := 167) ok cz_R274 (fo_Mod_73 t) k_12 rfl rfl rfl (fun _ => ⟨.array (.int), by decide +kernel, rfl, rfl⟩) d_Mod_init_167 s_60 (by decide) rfl ?_
  refine ec_aload_n (pc := 170) d_Mod_init_170 rfl rfl ?_
  refine ev_bipush (pc := 171) d_Mod_init_171 rfl ?_
  refine ec_newa (pc := 173) (k := 15) (n := 884) cz_f275 cz_R276 d_Mod_init_173 s_81 rfl (.inl rfl) (by decide) (by decide) (q_in 83 (by decide +kernel) rfl) rfl rfl ?_
  refine ec_putr (pc := 175) ok cz_R277 (fo_Mod_76 t) k_12 rfl rfl rfl (fun _ => ⟨.array (.int), by decide +kernel, rfl, rfl⟩) d_Mod_init_175 s_60 (by decide) rfl ?_
  refine ec_aload_n (pc := 178) d_Mod_init_178 rfl rfl ?_
  refine ev_bipush (pc := 179) d_Mod_init_179 rfl ?_
  refine ec_newa (pc := 181) (k := 14) (n := 876) cz_f278 cz_R279 d_Mod_init_181 s_82 rfl (.inl rfl) (by decide) (by decide) (q_in 83 (by decide +kernel) rfl) rfl rfl ?_
  refine ec_putr (pc := 183) ok cz_R280 (fo_Mod_79 t) k_12 rfl rfl rfl (fun _ => ⟨.array (.int), by decide +kernel, rfl, rfl⟩) d_Mod_init_183 s_60 (by decide) rfl ?_
  refine ec_aload_n (pc := 186) d_Mod_init_186 rfl rfl ?_
  refine ev_bipush (pc := 187) d_Mod_init_187 rfl ?_
  refine ec_newa (pc := 189) (k := 13) (n := 868) cz_f281 cz_R282 d_Mod_init_189 s_83 rfl (.inl rfl) (by decide) (by decide) (q_in 969 (by decide +kernel) rfl) rfl rfl ?_
  refine ec_putr (pc := 191) ok cz_R283 (fo_Mod_82 t) k_12 rfl rfl rfl (fun _ => ⟨.array (.boolean), by decide +kernel, rfl, rfl⟩) d_Mod_init_191 s_60 (by decide) rfl ?_
  refine ec_aload_n (pc := 194) d_Mod_init_194 rfl rfl ?_
  refine ev_bipush (pc := 195) d_Mod_init_195 rfl ?_
  refine ec_newa (pc := 197) (k := 12) (n := 860) cz_f284 cz_R285 d_Mod_init_197 s_84 rfl (.inl rfl) (by decide) (by decide) (q_in 83 (by decide +kernel) rfl) rfl rfl ?_
  refine ec_putr (pc := 199) ok cz_R286 (fo_Mod_85 t) k_12 rfl rfl rfl (fun _ => ⟨.array (.int), by decide +kernel, rfl, rfl⟩) d_Mod_init_199 s_60 (by decide) rfl ?_
  refine ec_aload_n (pc := 202) d_Mod_init_202 rfl rfl ?_
  refine ev_bipush (pc := 203) d_Mod_init_203 rfl ?_
  refine ec_newa (pc := 205) (k := 11) (n := 852) cz_f287 cz_R288 d_Mod_init_205 s_85 rfl (.inl rfl) (by decide) (by decide) (q_in 83 (by decide +kernel) rfl) rfl rfl ?_
  refine ec_putr (pc := 207) ok cz_R289 (fo_Mod_88 t) k_12 rfl rfl rfl (fun _ => ⟨.array (.int), by decide +kernel, rfl, rfl⟩) d_Mod_init_207 s_60 (by decide) rfl ?_
  refine ec_aload_n (pc := 210) d_Mod_init_210 rfl rfl ?_
  refine ev_bipush (pc := 211) d_Mod_init_211 rfl ?_
  refine ec_newa (pc := 213) (k := 10) (n := 844) cz_f290 cz_R291 d_Mod_init_213 s_86 rfl (.inl rfl) (by decide) (by decide) (q_in 83 (by decide +kernel) rfl) rfl rfl ?_
  refine ec_putr (pc := 215) ok cz_R292 (fo_Mod_91 t) k_12 rfl rfl rfl (fun _ => ⟨.array (.int), by decide +kernel, rfl, rfl⟩) d_Mod_init_215 s_60 (by decide) rfl ?_
  refine ec_aload_n (pc := 218) d_Mod_init_218 rfl rfl ?_
  refine ev_bipush (pc := 219) d_Mod_init_219 rfl ?_
  refine ec_newa (pc := 221) (k := 9) (n := 836) cz_f293 cz_R294 d_Mod_init_221 s_87 rfl (.inl rfl) (by decide) (by decide) (q_in 83 (by decide +kernel) rfl) rfl rfl ?_
  refine ec_putr (pc := 223) ok cz_R295 (fo_Mod_94 t) k_12 rfl rfl rfl (fun _ => ⟨.array (.int), by decide +kernel, rfl, rfl⟩) d_Mod_init_223 s_60 (by decide) rfl ?_
  refine ec_aload_n (pc := 226) d_Mod_init_226 rfl rfl ?_
  refine ev_bipush (pc := 227) d_Mod_init_227 rfl ?_
  refine ec_newa (pc := 229) (k := 8) (n := 828) cz_f296 cz_R297 d_Mod_init_229 s_88 rfl (.inl rfl) (by decide) (by decide) (q_in 83 (by decide +kernel) rfl) rfl rfl ?_
  refine ec_putr (pc := 231) ok cz_R298 (fo_Mod_97 t) k_12 rfl rfl rfl (fun _ => ⟨.array (.int), by decide +kernel, rfl, rfl⟩) d_Mod_init_231 s_60 (by decide) rfl ?_
  refine ec_aload_n (pc := 234) d_Mod_init_234 rfl rfl ?_
  refine ev_sipush (pc := 235) d_Mod_init_235 rfl ?_
  refine ec_newa (pc := 238) (k := 7) (n := 668) cz_f299 cz_R300 d_Mod_init_238 s_89 rfl (.inl rfl) (by decide) (by decide) (q_in 83 (by decide +kernel) rfl) rfl rfl ?_
  refine ec_putr (pc := 240) ok cz_R301 (fo_Mod_100 t) k_12 rfl rfl rfl (fun _ => ⟨.array (.int), by decide +kernel, rfl, rfl⟩) d_Mod_init_240 s_60 (by decide) rfl ?_
  refine ec_aload_n (pc := 243) d_Mod_init_243 rfl rfl ?_
  refine ev_bipush (pc := 244) d_Mod_init_244 rfl ?_
  refine ec_newa (pc := 246) (k := 6) (n := 642) cz_f302 cz_R303 d_Mod_init_246 s_90 rfl (.inl rfl) (by decide) (by decide) (q_in 969 (by decide +kernel) rfl) rfl rfl ?_
  refine ec_putr (pc := 248) ok cz_R304 (fo_Mod_103 t) k_12 rfl rfl rfl (fun _ => ⟨.array (.boolean), by decide +kernel, rfl, rfl⟩) d_Mod_init_248 s_60 (by decide) rfl ?_
  refine ec_aload_n (pc := 251) d_Mod_init_251 rfl rfl ?_
  refine ev_bipush (pc := 252) d_Mod_init_252 rfl ?_
  refine ec_newa (pc := 254) (k := 5) (n := 616) cz_f305 cz_R306 d_Mod_init_254 s_91 rfl (.inl rfl) (by decide) (by decide) (q_in 969 (by decide +kernel) rfl) rfl rfl ?_
  refine ec_putr (pc := 256) ok cz_R307 (fo_Mod_106 t) k_12 rfl rfl rfl (fun _ => ⟨.array (.boolean), by decide +kernel, rfl, rfl⟩) d_Mod_init_256 s_60 (by decide) rfl ?_
  refine ec_aload_n (pc := 259) d_Mod_init_259 rfl rfl ?_
  refine ev_bipush (pc := 260) d_Mod_init_260 rfl ?_
  refine ec_newa (pc := 262) (k := 4) (n := 590) cz_f308 cz_R309 d_Mod_init_262 s_92 rfl (.inl rfl) (by decide) (by decide) (q_in 83 (by decide +kernel) rfl) rfl rfl ?_
  refine ec_putr (pc := 264) ok cz_R310 (fo_Mod_109 t) k_12 rfl rfl rfl (fun _ => ⟨.array (.int), by decide +kernel, rfl, rfl⟩) d_Mod_init_264 s_60 (by decide) rfl ?_
  refine ec_aload_n (pc := 267) d_Mod_init_267 rfl rfl ?_
  refine ev_bipush (pc := 268) d_Mod_init_268 rfl ?_
  refine ec_newa (pc := 270) (k := 3) (n := 564) cz_f311 cz_R312 d_Mod_init_270 s_93 rfl (.inl rfl) (by decide) (by decide) (q_in 83 (by decide +kernel) rfl) rfl rfl ?_
  refine ec_putr (pc := 272) ok cz_R313 (fo_Mod_112 t) k_12 rfl rfl rfl (fun _ => ⟨.array (.int), by decide +kernel, rfl, rfl⟩) d_Mod_init_272 s_60 (by decide) rfl ?_
  refine ec_aload_n (pc := 275) d_Mod_init_275 rfl rfl ?_
  refine ev_bipush (pc := 276) d_Mod_init_276 rfl ?_
  refine ec_newa (pc := 278) (k := 2) (n := 538) cz_f314 cz_R315 d_Mod_init_278 s_94 rfl (.inl rfl) (by decide) (by decide) (q_in 83 (by decide +kernel) rfl) rfl rfl ?_
  refine ec_putr (pc := 280) ok cz_R316 (fo_Mod_115 t) k_12 rfl rfl rfl (fun _ => ⟨.array (.int), by decide +kernel, rfl, rfl⟩) d_Mod_init_280 s_60 (by decide) rfl ?_
  refine ec_aload_n (pc := 283) d_Mod_init_283 rfl rfl ?_
  refine ev_bipush (pc := 284) d_Mod_init_284 rfl ?_
  refine ec_newa (pc := 286) (k := 1) (n := 512) cz_f317 cz_R318 d_Mod_init_286 s_95 rfl (.inl rfl) (by decide) (by decide) (q_in 83 (by decide +kernel) rfl) rfl rfl ?_
  refine ec_putr (pc := 288) ok cz_R319 (fo_Mod_118 t) k_12 rfl rfl rfl (fun _ => ⟨.array (.int), by decide +kernel, rfl, rfl⟩) d_Mod_init_288 s_60 (by decide) rfl ?_
  refine ec_aload_n (pc := 291) d_Mod_init_291 rfl rfl ?_
  refine ev_sipush (pc := 292) d_Mod_init_292 rfl ?_
  refine ec_newa (pc := 295) (k := 0) (n := 0) cz_f320 cz_R321 d_Mod_init_295 s_96 rfl (.inl rfl) (by decide) (by decide) (q_in 83 (by decide +kernel) rfl) rfl rfl ?_
  refine ec_putr (pc := 297) ok cz_R322 (fo_Mod_121 t) k_12 rfl rfl rfl (fun _ => ⟨.array (.int), by decide +kernel, rfl, rfl⟩) d_Mod_init_297 s_60 (by decide) rfl ?_
  refine ev_iconst (pc := 300) d_Mod_init_300  ?_
  refine ev_istore_n (pc := 301) d_Mod_init_301 rfl (by decide) [(1, ma_i (0)), (0, q_a t 60)] rfl ?_
  refine ev_iload_n (pc := 302) d_Mod_init_302 rfl rfl ?_
  refine ev_bipush (pc := 303) d_Mod_init_303 rfl ?_
  refine ev_icmp_ge (pc := 305) (tgt := 321) d_Mod_init_305 (by decide) ⟨by decide, by decide⟩ ⟨by decide, by decide⟩ (fun hj => absurd hj (show ¬ (8 : Int) ≤ 0 by decide)) (fun _ => ?_)
  refine ec_aload_n (pc := 308) d_Mod_init_308 rfl rfl ?_
  refine ec_getr (pc := 309) (q := 62) ok (fl_Mod_13 t) rfl d_Mod_init_309 s_60 (by decide) (by decide +kernel) ?_
  refine ev_iload_n (pc := 312) d_Mod_init_312 rfl rfl ?_
  refine ev_iconst (pc := 313) d_Mod_init_313  ?_
  refine ec_iast (pc := 314) cz_f323 d_Mod_init_314 s_62 (by decide) (by decide) (by decide) (by decide) rfl rfl ?_
  refine ev_iinc (pc := 315) d_Mod_init_315 (by decide) rfl [(1, ma_i (1)), (0, q_a t 60)] rfl ?_
  refine ev_goto (pc := 318) (tgt := 302) d_Mod_init_318 (by decide) ?_
  refine ev_iload_n (pc := 302) d_Mod_init_302 rfl rfl ?_
  refine ev_bipush (pc := 303) d_Mod_init_303 rfl ?_
  refine ev_icmp_ge (pc := 305) (tgt := 321) d_Mod_init_305 (by decide) ⟨by decide, by decide⟩ ⟨by decide, by decide⟩ (fun hj => absurd hj (show ¬ (8 : Int) ≤ 1 by decide)) (fun _ => ?_)
  refine ec_aload_n (pc := 308) d_Mod_init_308 rfl rfl ?_
  refine ec_getr (pc := 309) (q := 62) ok (fl_Mod_13 t) rfl d_Mod_init_309 s_60 (by decide) (by decide +kernel) ?_
  refine ev_iload_n (pc := 312) d_Mod_init_312 rfl rfl ?_
  refine ev_iconst (pc := 313) d_Mod_init_313  ?_
  refine ec_iast (pc := 314) cz_f324 d_Mod_init_314 s_62 (by decide) (by decide) (by decide) (by decide) rfl rfl ?_
  refine ev_iinc (pc := 315) d_Mod_init_315 (by decide) rfl [(1, ma_i (2)), (0, q_a t 60)] rfl ?_
  refine ev_goto (pc := 318) (tgt := 302) d_Mod_init_318 (by decide) ?_
  refine ev_iload_n (pc := 302) d_Mod_init_302 rfl rfl ?_
  refine ev_bipush (pc := 303) d_Mod_init_303 rfl ?_
  refine ev_icmp_ge (pc := 305) (tgt := 321) d_Mod_init_305 (by decide) ⟨by decide, by decide⟩ ⟨by decide, by decide⟩ (fun hj => absurd hj (show ¬ (8 : Int) ≤ 2 by decide)) (fun _ => ?_)
  refine ec_aload_n (pc := 308) d_Mod_init_308 rfl rfl ?_
  refine ec_getr (pc := 309) (q := 62) ok (fl_Mod_13 t) rfl d_Mod_init_309 s_60 (by decide) (by decide +kernel) ?_
  refine ev_iload_n (pc := 312) d_Mod_init_312 rfl rfl ?_
  refine ev_iconst (pc := 313) d_Mod_init_313  ?_
  refine ec_iast (pc := 314) cz_f325 d_Mod_init_314 s_62 (by decide) (by decide) (by decide) (by decide) rfl rfl ?_
  refine ev_iinc (pc := 315) d_Mod_init_315 (by decide) rfl [(1, ma_i (3)), (0, q_a t 60)] rfl ?_
  refine ev_goto (pc := 318) (tgt := 302) d_Mod_init_318 (by decide) ?_
  refine ev_iload_n (pc := 302) d_Mod_init_302 rfl rfl ?_
  refine ev_bipush (pc := 303) d_Mod_init_303 rfl ?_
  refine ev_icmp_ge (pc := 305) (tgt := 321) d_Mod_init_305 (by decide) ⟨by decide, by decide⟩ ⟨by decide, by decide⟩ (fun hj => absurd hj (show ¬ (8 : Int) ≤ 3 by decide)) (fun _ => ?_)
  refine ec_aload_n (pc := 308) d_Mod_init_308 rfl rfl ?_
  refine ec_getr (pc := 309) (q := 62) ok (fl_Mod_13 t) rfl d_Mod_init_309 s_60 (by decide) (by decide +kernel) ?_
  refine ev_iload_n (pc := 312) d_Mod_init_312 rfl rfl ?_
  refine ev_iconst (pc := 313) d_Mod_init_313  ?_
  refine ec_iast (pc := 314) cz_f326 d_Mod_init_314 s_62 (by decide) (by decide) (by decide) (by decide) rfl rfl ?_
  refine ev_iinc (pc := 315) d_Mod_init_315 (by decide) rfl [(1, ma_i (4)), (0, q_a t 60)] rfl ?_
  refine ev_goto (pc := 318) (tgt := 302) d_Mod_init_318 (by decide) ?_
  refine ev_iload_n (pc := 302) d_Mod_init_302 rfl rfl ?_
  refine ev_bipush (pc := 303) d_Mod_init_303 rfl ?_
  refine ev_icmp_ge (pc := 305) (tgt := 321) d_Mod_init_305 (by decide) ⟨by decide, by decide⟩ ⟨by decide, by decide⟩ (fun hj => absurd hj (show ¬ (8 : Int) ≤ 4 by decide)) (fun _ => ?_)
  refine ec_aload_n (pc := 308) d_Mod_init_308 rfl rfl ?_
  refine ec_getr (pc := 309) (q := 62) ok (fl_Mod_13 t) rfl d_Mod_init_309 s_60 (by decide) (by decide +kernel) ?_
  refine ev_iload_n (pc := 312) d_Mod_init_312 rfl rfl ?_
  refine ev_iconst (pc := 313) d_Mod_init_313  ?_
  refine ec_iast (pc := 314) cz_f327 d_Mod_init_314 s_62 (by decide) (by decide) (by decide) (by decide) rfl rfl ?_
  refine ev_iinc (pc := 315) d_Mod_init_315 (by decide) rfl [(1, ma_i (5)), (0, q_a t 60)] rfl ?_
  refine ev_goto (pc := 318) (tgt := 302) d_Mod_init_318 (by decide) ?_
  refine ev_iload_n (pc := 302) d_Mod_init_302 rfl rfl ?_
  refine ev_bipush (pc := 303) d_Mod_init_303 rfl ?_
  refine ev_icmp_ge (pc := 305) (tgt := 321) d_Mod_init_305 (by decide) ⟨by decide, by decide⟩ ⟨by decide, by decide⟩ (fun hj => absurd hj (show ¬ (8 : Int) ≤ 5 by decide)) (fun _ => ?_)
  refine ec_aload_n (pc := 308) d_Mod_init_308 rfl rfl ?_
  refine ec_getr (pc := 309) (q := 62) ok (fl_Mod_13 t) rfl d_Mod_init_309 s_60 (by decide) (by decide +kernel) ?_
  refine ev_iload_n (pc := 312) d_Mod_init_312 rfl rfl ?_
  refine ev_iconst (pc := 313) d_Mod_init_313  ?_
  refine ec_iast (pc := 314) cz_f328 d_Mod_init_314 s_62 (by decide) (by decide) (by decide) (by decide) rfl rfl ?_
  refine ev_iinc (pc := 315) d_Mod_init_315 (by decide) rfl [(1, ma_i (6)), (0, q_a t 60)] rfl ?_
  refine ev_goto (pc := 318) (tgt := 302) d_Mod_init_318 (by decide) ?_
  refine ev_iload_n (pc := 302) d_Mod_init_302 rfl rfl ?_
  refine ev_bipush (pc := 303) d_Mod_init_303 rfl ?_
  refine ev_icmp_ge (pc := 305) (tgt := 321) d_Mod_init_305 (by decide) ⟨by decide, by decide⟩ ⟨by decide, by decide⟩ (fun hj => absurd hj (show ¬ (8 : Int) ≤ 6 by decide)) (fun _ => ?_)
  refine ec_aload_n (pc := 308) d_Mod_init_308 rfl rfl ?_
  refine ec_getr (pc := 309) (q := 62) ok (fl_Mod_13 t) rfl d_Mod_init_309 s_60 (by decide) (by decide +kernel) ?_
  refine ev_iload_n (pc := 312) d_Mod_init_312 rfl rfl ?_
  refine ev_iconst (pc := 313) d_Mod_init_313  ?_
  refine ec_iast (pc := 314) cz_f329 d_Mod_init_314 s_62 (by decide) (by decide) (by decide) (by decide) rfl rfl ?_
  refine ev_iinc (pc := 315) d_Mod_init_315 (by decide) rfl [(1, ma_i (7)), (0, q_a t 60)] rfl ?_
  refine ev_goto (pc := 318) (tgt := 302) d_Mod_init_318 (by decide) ?_
  refine ev_iload_n (pc := 302) d_Mod_init_302 rfl rfl ?_
  refine ev_bipush (pc := 303) d_Mod_init_303 rfl ?_
  refine ev_icmp_ge (pc := 305) (tgt := 321) d_Mod_init_305 (by decide) ⟨by decide, by decide⟩ ⟨by decide, by decide⟩ (fun hj => absurd hj (show ¬ (8 : Int) ≤ 7 by decide)) (fun _ => ?_)
  refine ec_aload_n (pc := 308) d_Mod_init_308 rfl rfl ?_
  refine ec_getr (pc := 309) (q := 62) ok (fl_Mod_13 t) rfl d_Mod_init_309 s_60 (by decide) (by decide +kernel) ?_
  refine ev_iload_n (pc := 312) d_Mod_init_312 rfl rfl ?_
  refine ev_iconst (pc := 313) d_Mod_init_313  ?_
  refine ec_iast (pc := 314) cz_f330 d_Mod_init_314 s_62 (by decide) (by decide) (by decide) (by decide) rfl rfl ?_
  refine ev_iinc (pc := 315) d_Mod_init_315 (by decide) rfl [(1, ma_i (8)), (0, q_a t 60)] rfl ?_
  refine ev_goto (pc := 318) (tgt := 302) d_Mod_init_318 (by decide) ?_
  refine ev_iload_n (pc := 302) d_Mod_init_302 rfl rfl ?_
  refine ev_bipush (pc := 303) d_Mod_init_303 rfl ?_
  refine ev_icmp_ge (pc := 305) (tgt := 321) d_Mod_init_305 (by decide) ⟨by decide, by decide⟩ ⟨by decide, by decide⟩ (fun _ => ?_) (fun hj => absurd (show (8 : Int) ≤ 8 by decide) hj)
  exact ec_ret (pc := 321) d_Mod_init_321 rfl
def cz_fE : q_F := ma_clr cz_f330 97 0
def cz_RE : Nat → Nat → Option Nat := ma_clr cz_R322 97 none
