/-! ===== printed by names.py: classes, store, words, methods ===== -/
def q_WS : List Cond := lw_tbl.filter goodWord
theorem q_in {w : Cond} (i : Nat) (h : tables_1[i]? = some w) (hg : goodWord w = true) : w ∈ q_WS := List.mem_filter.mpr ⟨List.mem_append_right _ (List.mem_of_getElem? h), hg⟩
theorem q_inS {w : Cond} (i : Nat) (h : (k2_sels lw_privs)[i]? = some w) (hg : goodWord w = true) : w ∈ q_WS := List.mem_filter.mpr ⟨List.mem_append_left _ (List.mem_of_getElem? h), hg⟩
def q_T0 : u_T := fun k => ([("LayoutDesk", "script", "LLayoutDesk$Script;", true), ("LayoutDesk", "plan", "LLayoutDesk$Plan;", true), ("LayoutDesk", "reader", "LLayoutDesk$Reader;", true), ("LayoutDesk", "reckoner", "LLayoutDesk$Reckoner;", true), ("LayoutDesk", "judge", "LLayoutDesk$Judge;", true), ("LayoutDesk", "memory", "LLayoutDesk$Memory;", true), ("LayoutDesk", "laid", "Z", false), ("LayoutDesk", "badPlace", "I", false)] : List (String × String × String × Bool)).getD k ("", "", "", false)
def q_T1 : u_T := fun k => ([("LayoutDesk$Script", "text", "[C", true), ("LayoutDesk$Script", "length", "I", false)] : List (String × String × String × Bool)).getD k ("", "", "", false)
def q_T2 : u_T := fun k => ([("LayoutDesk$Input", "size", "I", false), ("LayoutDesk$Input", "align", "I", false), ("LayoutDesk$Input", "seed", "I", false), ("LayoutDesk$Input", "stands", "Z", false), ("LayoutDesk$Input", "place", "I", false)] : List (String × String × String × Bool)).getD k ("", "", "", false)
def q_T3 : u_T := fun k => ([("LayoutDesk$Region", "told", "Z", false), ("LayoutDesk$Region", "origin", "I", false), ("LayoutDesk$Region", "length", "I", false)] : List (String × String × String × Bool)).getD k ("", "", "", false)
def q_T4 : u_T := fun k => ([("LayoutDesk$Section", "told", "Z", false), ("LayoutDesk$Section", "hasAddress", "Z", false), ("LayoutDesk$Section", "stepsFrom", "I", false), ("LayoutDesk$Section", "stepsTo", "I", false), ("LayoutDesk$Section", "itemsFrom", "I", false), ("LayoutDesk$Section", "itemsTo", "I", false), ("LayoutDesk$Section", "home", "I", false), ("LayoutDesk$Section", "isLoaded", "Z", false), ("LayoutDesk$Section", "loadHome", "I", false), ("LayoutDesk$Section", "address", "I", false), ("LayoutDesk$Section", "size", "I", false), ("LayoutDesk$Section", "loadedAt", "I", false)] : List (String × String × String × Bool)).getD k ("", "", "", false)
def q_T5 : u_T := fun k => ([("LayoutDesk$Symbol", "told", "Z", false), ("LayoutDesk$Symbol", "hasSteps", "Z", false), ("LayoutDesk$Symbol", "stepsFrom", "I", false), ("LayoutDesk$Symbol", "stepsTo", "I", false), ("LayoutDesk$Symbol", "value", "I", false)] : List (String × String × String × Bool)).getD k ("", "", "", false)
def q_T6 : u_T := fun k => ([("LayoutDesk$Rows", "kinds", "[I", true), ("LayoutDesk$Rows", "values", "[I", true), ("LayoutDesk$Rows", "count", "I", false)] : List (String × String × String × Bool)).getD k ("", "", "", false)
def q_T7 : u_T := fun k => ([("LayoutDesk$Plan", "inputs", "[LLayoutDesk$Input;", true), ("LayoutDesk$Plan", "regions", "[LLayoutDesk$Region;", true), ("LayoutDesk$Plan", "sections", "[LLayoutDesk$Section;", true), ("LayoutDesk$Plan", "symbols", "[LLayoutDesk$Symbol;", true), ("LayoutDesk$Plan", "items", "LLayoutDesk$Rows;", true), ("LayoutDesk$Plan", "steps", "LLayoutDesk$Rows;", true), ("LayoutDesk$Plan", "order", "[I", true), ("LayoutDesk$Plan", "sectionCount", "I", false), ("LayoutDesk$Plan", "copied", "[I", true), ("LayoutDesk$Plan", "copyCount", "I", false)] : List (String × String × String × Bool)).getD k ("", "", "", false)
def q_T8 : u_T := fun k => ([("LayoutDesk$Reader", "script", "LLayoutDesk$Script;", true), ("LayoutDesk$Reader", "plan", "LLayoutDesk$Plan;", true), ("LayoutDesk$Reader", "place", "I", false), ("LayoutDesk$Reader", "number", "I", false)] : List (String × String × String × Bool)).getD k ("", "", "", false)
def q_T9 : u_T := fun k => ([("LayoutDesk$Reckoner", "plan", "LLayoutDesk$Plan;", true), ("LayoutDesk$Reckoner", "stack", "[I", true), ("LayoutDesk$Reckoner", "height", "I", false)] : List (String × String × String × Bool)).getD k ("", "", "", false)
def q_T10 : u_T := fun k => ([("LayoutDesk$Judge", "plan", "LLayoutDesk$Plan;", true)] : List (String × String × String × Bool)).getD k ("", "", "", false)
def q_T11 : u_T := fun k => ([("LayoutDesk$Memory", "bytes", "[I", true)] : List (String × String × String × Bool)).getD k ("", "", "", false)
def q_T12 : u_T := fun k => ([("LayoutDeskModel", "thrown", "I", false), ("LayoutDeskModel", "inputSize", "[I", true), ("LayoutDeskModel", "inputAlign", "[I", true), ("LayoutDeskModel", "seed", "[I", true), ("LayoutDeskModel", "inputPut", "[I", true), ("LayoutDeskModel", "used", "[Z", true), ("LayoutDeskModel", "size", "I", false), ("LayoutDeskModel", "text", "[I", true), ("LayoutDeskModel", "at", "I", false), ("LayoutDeskModel", "wrong", "Z", false), ("LayoutDeskModel", "bad", "I", false), ("LayoutDeskModel", "regionTold", "[Z", true), ("LayoutDeskModel", "origin", "[I", true), ("LayoutDeskModel", "length", "[I", true), ("LayoutDeskModel", "steps", "I", false), ("LayoutDeskModel", "step", "[I", true), ("LayoutDeskModel", "value", "[I", true), ("LayoutDeskModel", "stack", "[J", true), ("LayoutDeskModel", "pending", "[I", true), ("LayoutDeskModel", "bracket", "[I", true), ("LayoutDeskModel", "known", "Z", false), ("LayoutDeskModel", "unsound", "Z", false), ("LayoutDeskModel", "count", "I", false), ("LayoutDeskModel", "order", "[I", true), ("LayoutDeskModel", "told", "[Z", true), ("LayoutDeskModel", "done", "[Z", true), ("LayoutDeskModel", "rank", "[I", true), ("LayoutDeskModel", "from", "[I", true), ("LayoutDeskModel", "to", "[I", true), ("LayoutDeskModel", "run", "[I", true), ("LayoutDeskModel", "home", "[I", true), ("LayoutDeskModel", "loads", "[Z", true), ("LayoutDeskModel", "firstItem", "[I", true), ("LayoutDeskModel", "items", "[I", true), ("LayoutDeskModel", "begin", "[I", true), ("LayoutDeskModel", "sizeOf", "[I", true), ("LayoutDeskModel", "load", "[I", true), ("LayoutDeskModel", "itemCount", "I", false), ("LayoutDeskModel", "item", "[I", true), ("LayoutDeskModel", "symbolTold", "[Z", true), ("LayoutDeskModel", "symbolDone", "[Z", true), ("LayoutDeskModel", "in", "[I", true), ("LayoutDeskModel", "symbolFrom", "[I", true), ("LayoutDeskModel", "symbolTo", "[I", true), ("LayoutDeskModel", "symbolValue", "[I", true), ("LayoutDeskModel", "laid", "Z", false), ("LayoutDeskModel", "memory", "[I", true)] : List (String × String × String × Bool)).getD k ("", "", "", false)
def q_CL : List vw_C := [("LayoutDesk", q_T0, 8), ("LayoutDesk$Script", q_T1, 2), ("LayoutDesk$Input", q_T2, 5), ("LayoutDesk$Region", q_T3, 3), ("LayoutDesk$Section", q_T4, 12), ("LayoutDesk$Symbol", q_T5, 5), ("LayoutDesk$Rows", q_T6, 3), ("LayoutDesk$Plan", q_T7, 10), ("LayoutDesk$Reader", q_T8, 4), ("LayoutDesk$Reckoner", q_T9, 3), ("LayoutDesk$Judge", q_T10, 1), ("LayoutDesk$Memory", q_T11, 1), ("LayoutDeskModel", q_T12, 47)]
def q_SH : List ma_S := [.inl 0, .inl 1, .inr (.char, 160), .inl 7, .inr (.object "LayoutDesk$Input", 8), .inr (.object "LayoutDesk$Region", 4), .inr (.object "LayoutDesk$Section", 8), .inr (.object "LayoutDesk$Symbol", 18), .inl 6, .inr (.int, 160), .inr (.int, 160), .inl 6, .inr (.int, 160), .inr (.int, 160), .inr (.int, 8), .inr (.int, 8), .inl 2, .inl 2, .inl 2, .inl 2, .inl 2, .inl 2, .inl 2, .inl 2, .inl 3, .inl 3, .inl 3, .inl 3, .inl 4, .inl 4, .inl 4, .inl 4, .inl 4, .inl 4, .inl 4, .inl 4, .inl 5, .inl 5, .inl 5, .inl 5, .inl 5, .inl 5, .inl 5, .inl 5, .inl 5, .inl 5, .inl 5, .inl 5, .inl 5, .inl 5, .inl 5, .inl 5, .inl 5, .inl 5, .inl 8, .inl 9, .inr (.int, 160), .inl 10, .inl 11, .inr (.int, 512), .inl 12, .inr (.int, 8), .inr (.int, 8), .inr (.int, 8), .inr (.int, 8), .inr (.boolean, 8), .inr (.int, 160), .inr (.boolean, 4), .inr (.int, 4), .inr (.int, 4), .inr (.int, 160), .inr (.int, 160), .inr (.long, 160), .inr (.int, 6), .inr (.int, 6), .inr (.int, 8), .inr (.boolean, 8), .inr (.boolean, 8), .inr (.int, 8), .inr (.int, 8), .inr (.int, 8), .inr (.int, 8), .inr (.int, 8), .inr (.boolean, 8), .inr (.int, 8), .inr (.int, 8), .inr (.int, 8), .inr (.int, 8), .inr (.int, 8), .inr (.int, 160), .inr (.boolean, 26), .inr (.boolean, 26), .inr (.int, 26), .inr (.int, 26), .inr (.int, 26), .inr (.int, 26), .inr (.int, 512), .inr (.long, 1)]
def q_RL : List (List (Option Nat)) := [[some 1, some 3, some 54, some 55, some 57, some 58], [some 2], [], [some 4, some 5, some 6, some 7, some 8, some 11, some 14, none, some 15], [some 16, some 17, some 18, some 19, some 20, some 21, some 22, some 23], [some 24, some 25, some 26, some 27], [some 28, some 29, some 30, some 31, some 32, some 33, some 34, some 35], [some 36, some 37, some 38, some 39, some 40, some 41, some 42, some 43, some 44, some 45, some 46, some 47, some 48, some 49, some 50, some 51, some 52, some 53], [some 9, some 10], [], [], [some 12, some 13], [], [], [], [], [], [], [], [], [], [], [], [], [], [], [], [], [], [], [], [], [], [], [], [], [], [], [], [], [], [], [], [], [], [], [], [], [], [], [], [], [], [], [some 1, some 3], [some 3, some 56], [], [some 3], [some 59], [], [none, some 61, some 62, some 63, some 64, some 65, none, some 66, none, none, none, some 67, some 68, some 69, none, some 70, some 71, some 72, some 73, some 74, none, none, none, some 75, some 76, some 77, some 78, some 79, some 80, some 81, some 82, some 83, some 84, some 85, some 86, some 87, some 88, none, some 89, some 90, some 91, some 92, some 93, some 94, some 95, none, some 96], [], [], [], [], [], [], [], [], [], [], [], [], [], [], [], [], [], [], [], [], [], [], [], [], [], [], [], [], [], [], [], [], [], [], [], [], []]
def q_R : Nat → Nat → Option Nat := fun a k => (q_RL.getD a []).getD k none
/-- the store behind the constructors: ints and longs vary, shapes and references stay -/
def q_h (f g : Nat → Nat → Int) : ma_H := ((false, q_SH), f, g, q_R)
def q_nest (w : Cond) : Bool := match w with
  | .fieldLinkNest .. => true
  | .methodLinkNest .. => true
  | .declares .. => true
  | _ => false
def q_AO : List String := ["LayoutDesk$Input", "LayoutDesk$Region", "LayoutDesk$Section", "LayoutDesk$Symbol"]
def q_EX : List String := ["java/lang/IllegalArgumentException", "java/lang/IllegalStateException", "java/util/NoSuchElementException", "java/lang/IndexOutOfBoundsException"]
/-- what the tables say beside the good words: links among nest mates, array classes over our own, which exceptions are which -/
def q_N (s : State) : Prop := (∀ w ∈ tables_1.filter q_nest, va_Nw w s) ∧ (∀ C ∈ q_AO, va_AO C s) ∧ (∀ C ∈ q_EX, ∃ c : ClassId, s.vm.findClass C = some c ∧ s.vm.assignable c c = true) ∧ ∀ C ∈ q_EX, ∀ D ∈ q_EX, C ≠ D → va_Nc C D s
theorem q_nw {w : Cond} (i : Nat) (h : tables_1[i]? = some w) (hg : q_nest w = true) : ∀ s : State, q_N s → va_Nw w s := fun s hs => hs.1 w (List.mem_filter.mpr ⟨List.mem_of_getElem? h, hg⟩)
theorem q_nwarm {w : Cond} (hg : q_nest w = true) {s U : State} (hW : s.WarmedH U.vm) (h : va_Nw w s) : va_Nw w U := by
  cases w <;> first | exact va_Nw.warmF hW h | exact va_Nw.warmM hW h | exact va_Nw.warmD hW h | cases hg
theorem q_nsame {w : Cond} (hg : q_nest w = true) {s U : State} (hv : s.vm = U.vm) (h : va_Nw w s) : va_Nw w U := by
  cases w <;> first | (cases hg; done) | exact va_Nw.same rfl hv h
theorem q_N.moved {s U : State} (hn : ∀ w, q_nest w = true → va_Nw w s → va_Nw w U) (hvm : s.vm.Alike U.vm) (h : q_N s) : q_N U := by
  obtain ⟨h1, h2, h3, h4⟩ := h
  refine ⟨fun w hw => hn w (List.mem_filter.mp hw).2 (h1 w hw), fun C hC => (h2 C hC).moved hvm, fun C hC => ?_, fun C hC D hD hne => (h4 C hC D hD hne).moved hvm⟩
  obtain ⟨c, q1, q2⟩ := h3 C hC
  exact ⟨c, by rw [hvm.findClass]; exact q1, by rw [hvm.assignable]; exact q2⟩
abbrev q_V : Type := Launch × (Nat × Nat × Nat × (Nat → Int32)) × va_G × (FieldType → ClassId)
/-- all that a run fixes, out of what varies with it -/
def q_G (t : q_V) : ma_G := ((t.1, q_CL, q_WS, q_N, 98), t.2)

theorem q_u0 : ∀ w ∈ u_ws "LayoutDesk" q_T0 8, w ∈ q_WS := by
  have h : (u_ws "LayoutDesk" q_T0 8).length = 8 := rfl
  intro w hw
  obtain ⟨i, hi⟩ := List.getElem?_of_mem hw
  have hl : i < 8 := by have := (List.getElem?_eq_some_iff.mp hi).1; omega
  have key : ∀ j, j < 8 → ∃ x, (u_ws "LayoutDesk" q_T0 8)[j]? = some x ∧ tables_1[([365, 367, 369, 371, 373, 375, 377, 379] : List Nat).getD j 0]? = some x ∧ goodWord x = true := by
    intro j hj
    have h1 : ∀ j, j < 8 → (((u_ws "LayoutDesk" q_T0 8)[j]? == tables_1[([365, 367, 369, 371, 373, 375, 377, 379] : List Nat).getD j 0]?) && ((u_ws "LayoutDesk" q_T0 8)[j]?.map goodWord == some true)) = true := by decide +kernel
    have h2 := h1 j hj
    rw [Bool.and_eq_true] at h2
    have h3 := eq_of_beq h2.1
    have h4 := eq_of_beq h2.2
    cases hx : (u_ws "LayoutDesk" q_T0 8)[j]? with
    | none => rw [hx] at h4; cases h4
    | some x => rw [hx] at h3 h4; exact ⟨x, rfl, h3.symm, Option.some.inj h4⟩
  obtain ⟨x, h1, h2, h3⟩ := key i hl
  cases Option.some.inj (h1.symm.trans hi)
  exact q_in _ h2 h3
theorem q_u1 : ∀ w ∈ u_ws "LayoutDesk$Script" q_T1 2, w ∈ q_WS := by
  have h : (u_ws "LayoutDesk$Script" q_T1 2).length = 2 := rfl
  intro w hw
  obtain ⟨i, hi⟩ := List.getElem?_of_mem hw
  have hl : i < 2 := by have := (List.getElem?_eq_some_iff.mp hi).1; omega
  have key : ∀ j, j < 2 → ∃ x, (u_ws "LayoutDesk$Script" q_T1 2)[j]? = some x ∧ tables_1[([41, 43] : List Nat).getD j 0]? = some x ∧ goodWord x = true := by
    intro j hj
    have h1 : ∀ j, j < 2 → (((u_ws "LayoutDesk$Script" q_T1 2)[j]? == tables_1[([41, 43] : List Nat).getD j 0]?) && ((u_ws "LayoutDesk$Script" q_T1 2)[j]?.map goodWord == some true)) = true := by decide +kernel
    have h2 := h1 j hj
    rw [Bool.and_eq_true] at h2
    have h3 := eq_of_beq h2.1
    have h4 := eq_of_beq h2.2
    cases hx : (u_ws "LayoutDesk$Script" q_T1 2)[j]? with
    | none => rw [hx] at h4; cases h4
    | some x => rw [hx] at h3 h4; exact ⟨x, rfl, h3.symm, Option.some.inj h4⟩
  obtain ⟨x, h1, h2, h3⟩ := key i hl
  cases Option.some.inj (h1.symm.trans hi)
  exact q_in _ h2 h3
theorem q_u2 : ∀ w ∈ u_ws "LayoutDesk$Input" q_T2 5, w ∈ q_WS := by
  have h : (u_ws "LayoutDesk$Input" q_T2 5).length = 5 := rfl
  intro w hw
  obtain ⟨i, hi⟩ := List.getElem?_of_mem hw
  have hl : i < 5 := by have := (List.getElem?_eq_some_iff.mp hi).1; omega
  have key : ∀ j, j < 5 → ∃ x, (u_ws "LayoutDesk$Input" q_T2 5)[j]? = some x ∧ tables_1[([104, 106, 108, 110, 112] : List Nat).getD j 0]? = some x ∧ goodWord x = true := by
    intro j hj
    have h1 : ∀ j, j < 5 → (((u_ws "LayoutDesk$Input" q_T2 5)[j]? == tables_1[([104, 106, 108, 110, 112] : List Nat).getD j 0]?) && ((u_ws "LayoutDesk$Input" q_T2 5)[j]?.map goodWord == some true)) = true := by decide +kernel
    have h2 := h1 j hj
    rw [Bool.and_eq_true] at h2
    have h3 := eq_of_beq h2.1
    have h4 := eq_of_beq h2.2
    cases hx : (u_ws "LayoutDesk$Input" q_T2 5)[j]? with
    | none => rw [hx] at h4; cases h4
    | some x => rw [hx] at h3 h4; exact ⟨x, rfl, h3.symm, Option.some.inj h4⟩
  obtain ⟨x, h1, h2, h3⟩ := key i hl
  cases Option.some.inj (h1.symm.trans hi)
  exact q_in _ h2 h3
theorem q_u3 : ∀ w ∈ u_ws "LayoutDesk$Region" q_T3 3, w ∈ q_WS := by
  have h : (u_ws "LayoutDesk$Region" q_T3 3).length = 3 := rfl
  intro w hw
  obtain ⟨i, hi⟩ := List.getElem?_of_mem hw
  have hl : i < 3 := by have := (List.getElem?_eq_some_iff.mp hi).1; omega
  have key : ∀ j, j < 3 → ∃ x, (u_ws "LayoutDesk$Region" q_T3 3)[j]? = some x ∧ tables_1[([128, 130, 132] : List Nat).getD j 0]? = some x ∧ goodWord x = true := by
    intro j hj
    have h1 : ∀ j, j < 3 → (((u_ws "LayoutDesk$Region" q_T3 3)[j]? == tables_1[([128, 130, 132] : List Nat).getD j 0]?) && ((u_ws "LayoutDesk$Region" q_T3 3)[j]?.map goodWord == some true)) = true := by decide +kernel
    have h2 := h1 j hj
    rw [Bool.and_eq_true] at h2
    have h3 := eq_of_beq h2.1
    have h4 := eq_of_beq h2.2
    cases hx : (u_ws "LayoutDesk$Region" q_T3 3)[j]? with
    | none => rw [hx] at h4; cases h4
    | some x => rw [hx] at h3 h4; exact ⟨x, rfl, h3.symm, Option.some.inj h4⟩
  obtain ⟨x, h1, h2, h3⟩ := key i hl
  cases Option.some.inj (h1.symm.trans hi)
  exact q_in _ h2 h3
theorem q_u4 : ∀ w ∈ u_ws "LayoutDesk$Section" q_T4 12, w ∈ q_WS := by
  have h : (u_ws "LayoutDesk$Section" q_T4 12).length = 12 := rfl
  intro w hw
  obtain ⟨i, hi⟩ := List.getElem?_of_mem hw
  have hl : i < 12 := by have := (List.getElem?_eq_some_iff.mp hi).1; omega
  have key : ∀ j, j < 12 → ∃ x, (u_ws "LayoutDesk$Section" q_T4 12)[j]? = some x ∧ tables_1[([191, 193, 195, 197, 199, 201, 203, 205, 207, 209, 211, 213] : List Nat).getD j 0]? = some x ∧ goodWord x = true := by
    intro j hj
    have h1 : ∀ j, j < 12 → (((u_ws "LayoutDesk$Section" q_T4 12)[j]? == tables_1[([191, 193, 195, 197, 199, 201, 203, 205, 207, 209, 211, 213] : List Nat).getD j 0]?) && ((u_ws "LayoutDesk$Section" q_T4 12)[j]?.map goodWord == some true)) = true := by decide +kernel
    have h2 := h1 j hj
    rw [Bool.and_eq_true] at h2
    have h3 := eq_of_beq h2.1
    have h4 := eq_of_beq h2.2
    cases hx : (u_ws "LayoutDesk$Section" q_T4 12)[j]? with
    | none => rw [hx] at h4; cases h4
    | some x => rw [hx] at h3 h4; exact ⟨x, rfl, h3.symm, Option.some.inj h4⟩
  obtain ⟨x, h1, h2, h3⟩ := key i hl
  cases Option.some.inj (h1.symm.trans hi)
  exact q_in _ h2 h3
theorem q_u5 : ∀ w ∈ u_ws "LayoutDesk$Symbol" q_T5 5, w ∈ q_WS := by
  have h : (u_ws "LayoutDesk$Symbol" q_T5 5).length = 5 := rfl
  intro w hw
  obtain ⟨i, hi⟩ := List.getElem?_of_mem hw
  have hl : i < 5 := by have := (List.getElem?_eq_some_iff.mp hi).1; omega
  have key : ∀ j, j < 5 → ∃ x, (u_ws "LayoutDesk$Symbol" q_T5 5)[j]? = some x ∧ tables_1[([238, 240, 242, 244, 246] : List Nat).getD j 0]? = some x ∧ goodWord x = true := by
    intro j hj
    have h1 : ∀ j, j < 5 → (((u_ws "LayoutDesk$Symbol" q_T5 5)[j]? == tables_1[([238, 240, 242, 244, 246] : List Nat).getD j 0]?) && ((u_ws "LayoutDesk$Symbol" q_T5 5)[j]?.map goodWord == some true)) = true := by decide +kernel
    have h2 := h1 j hj
    rw [Bool.and_eq_true] at h2
    have h3 := eq_of_beq h2.1
    have h4 := eq_of_beq h2.2
    cases hx : (u_ws "LayoutDesk$Symbol" q_T5 5)[j]? with
    | none => rw [hx] at h4; cases h4
    | some x => rw [hx] at h3 h4; exact ⟨x, rfl, h3.symm, Option.some.inj h4⟩
  obtain ⟨x, h1, h2, h3⟩ := key i hl
  cases Option.some.inj (h1.symm.trans hi)
  exact q_in _ h2 h3
theorem q_u6 : ∀ w ∈ u_ws "LayoutDesk$Rows" q_T6 3, w ∈ q_WS := by
  have h : (u_ws "LayoutDesk$Rows" q_T6 3).length = 3 := rfl
  intro w hw
  obtain ⟨i, hi⟩ := List.getElem?_of_mem hw
  have hl : i < 3 := by have := (List.getElem?_eq_some_iff.mp hi).1; omega
  have key : ∀ j, j < 3 → ∃ x, (u_ws "LayoutDesk$Rows" q_T6 3)[j]? = some x ∧ tables_1[([76, 78, 80] : List Nat).getD j 0]? = some x ∧ goodWord x = true := by
    intro j hj
    have h1 : ∀ j, j < 3 → (((u_ws "LayoutDesk$Rows" q_T6 3)[j]? == tables_1[([76, 78, 80] : List Nat).getD j 0]?) && ((u_ws "LayoutDesk$Rows" q_T6 3)[j]?.map goodWord == some true)) = true := by decide +kernel
    have h2 := h1 j hj
    rw [Bool.and_eq_true] at h2
    have h3 := eq_of_beq h2.1
    have h4 := eq_of_beq h2.2
    cases hx : (u_ws "LayoutDesk$Rows" q_T6 3)[j]? with
    | none => rw [hx] at h4; cases h4
    | some x => rw [hx] at h3 h4; exact ⟨x, rfl, h3.symm, Option.some.inj h4⟩
  obtain ⟨x, h1, h2, h3⟩ := key i hl
  cases Option.some.inj (h1.symm.trans hi)
  exact q_in _ h2 h3
theorem q_u7 : ∀ w ∈ u_ws "LayoutDesk$Plan" q_T7 10, w ∈ q_WS := by
  have h : (u_ws "LayoutDesk$Plan" q_T7 10).length = 10 := rfl
  intro w hw
  obtain ⟨i, hi⟩ := List.getElem?_of_mem hw
  have hl : i < 10 := by have := (List.getElem?_eq_some_iff.mp hi).1; omega
  have key : ∀ j, j < 10 → ∃ x, (u_ws "LayoutDesk$Plan" q_T7 10)[j]? = some x ∧ tables_1[([281, 283, 285, 287, 289, 291, 293, 295, 297, 299] : List Nat).getD j 0]? = some x ∧ goodWord x = true := by
    intro j hj
    have h1 : ∀ j, j < 10 → (((u_ws "LayoutDesk$Plan" q_T7 10)[j]? == tables_1[([281, 283, 285, 287, 289, 291, 293, 295, 297, 299] : List Nat).getD j 0]?) && ((u_ws "LayoutDesk$Plan" q_T7 10)[j]?.map goodWord == some true)) = true := by decide +kernel
    have h2 := h1 j hj
    rw [Bool.and_eq_true] at h2
    have h3 := eq_of_beq h2.1
    have h4 := eq_of_beq h2.2
    cases hx : (u_ws "LayoutDesk$Plan" q_T7 10)[j]? with
    | none => rw [hx] at h4; cases h4
    | some x => rw [hx] at h3 h4; exact ⟨x, rfl, h3.symm, Option.some.inj h4⟩
  obtain ⟨x, h1, h2, h3⟩ := key i hl
  cases Option.some.inj (h1.symm.trans hi)
  exact q_in _ h2 h3
theorem q_u8 : ∀ w ∈ u_ws "LayoutDesk$Reader" q_T8 4, w ∈ q_WS := by
  have h : (u_ws "LayoutDesk$Reader" q_T8 4).length = 4 := rfl
  intro w hw
  obtain ⟨i, hi⟩ := List.getElem?_of_mem hw
  have hl : i < 4 := by have := (List.getElem?_eq_some_iff.mp hi).1; omega
  have key : ∀ j, j < 4 → ∃ x, (u_ws "LayoutDesk$Reader" q_T8 4)[j]? = some x ∧ tables_1[([312, 314, 316, 318] : List Nat).getD j 0]? = some x ∧ goodWord x = true := by
    intro j hj
    have h1 : ∀ j, j < 4 → (((u_ws "LayoutDesk$Reader" q_T8 4)[j]? == tables_1[([312, 314, 316, 318] : List Nat).getD j 0]?) && ((u_ws "LayoutDesk$Reader" q_T8 4)[j]?.map goodWord == some true)) = true := by decide +kernel
    have h2 := h1 j hj
    rw [Bool.and_eq_true] at h2
    have h3 := eq_of_beq h2.1
    have h4 := eq_of_beq h2.2
    cases hx : (u_ws "LayoutDesk$Reader" q_T8 4)[j]? with
    | none => rw [hx] at h4; cases h4
    | some x => rw [hx] at h3 h4; exact ⟨x, rfl, h3.symm, Option.some.inj h4⟩
  obtain ⟨x, h1, h2, h3⟩ := key i hl
  cases Option.some.inj (h1.symm.trans hi)
  exact q_in _ h2 h3
theorem q_u9 : ∀ w ∈ u_ws "LayoutDesk$Reckoner" q_T9 3, w ∈ q_WS := by
  have h : (u_ws "LayoutDesk$Reckoner" q_T9 3).length = 3 := rfl
  intro w hw
  obtain ⟨i, hi⟩ := List.getElem?_of_mem hw
  have hl : i < 3 := by have := (List.getElem?_eq_some_iff.mp hi).1; omega
  have key : ∀ j, j < 3 → ∃ x, (u_ws "LayoutDesk$Reckoner" q_T9 3)[j]? = some x ∧ tables_1[([330, 332, 334] : List Nat).getD j 0]? = some x ∧ goodWord x = true := by
    intro j hj
    have h1 : ∀ j, j < 3 → (((u_ws "LayoutDesk$Reckoner" q_T9 3)[j]? == tables_1[([330, 332, 334] : List Nat).getD j 0]?) && ((u_ws "LayoutDesk$Reckoner" q_T9 3)[j]?.map goodWord == some true)) = true := by decide +kernel
    have h2 := h1 j hj
    rw [Bool.and_eq_true] at h2
    have h3 := eq_of_beq h2.1
    have h4 := eq_of_beq h2.2
    cases hx : (u_ws "LayoutDesk$Reckoner" q_T9 3)[j]? with
    | none => rw [hx] at h4; cases h4
    | some x => rw [hx] at h3 h4; exact ⟨x, rfl, h3.symm, Option.some.inj h4⟩
  obtain ⟨x, h1, h2, h3⟩ := key i hl
  cases Option.some.inj (h1.symm.trans hi)
  exact q_in _ h2 h3
theorem q_u10 : ∀ w ∈ u_ws "LayoutDesk$Judge" q_T10 1, w ∈ q_WS := by
  have h : (u_ws "LayoutDesk$Judge" q_T10 1).length = 1 := rfl
  intro w hw
  obtain ⟨i, hi⟩ := List.getElem?_of_mem hw
  have hl : i < 1 := by have := (List.getElem?_eq_some_iff.mp hi).1; omega
  have key : ∀ j, j < 1 → ∃ x, (u_ws "LayoutDesk$Judge" q_T10 1)[j]? = some x ∧ tables_1[([344] : List Nat).getD j 0]? = some x ∧ goodWord x = true := by
    intro j hj
    have h1 : ∀ j, j < 1 → (((u_ws "LayoutDesk$Judge" q_T10 1)[j]? == tables_1[([344] : List Nat).getD j 0]?) && ((u_ws "LayoutDesk$Judge" q_T10 1)[j]?.map goodWord == some true)) = true := by decide +kernel
    have h2 := h1 j hj
    rw [Bool.and_eq_true] at h2
    have h3 := eq_of_beq h2.1
    have h4 := eq_of_beq h2.2
    cases hx : (u_ws "LayoutDesk$Judge" q_T10 1)[j]? with
    | none => rw [hx] at h4; cases h4
    | some x => rw [hx] at h3 h4; exact ⟨x, rfl, h3.symm, Option.some.inj h4⟩
  obtain ⟨x, h1, h2, h3⟩ := key i hl
  cases Option.some.inj (h1.symm.trans hi)
  exact q_in _ h2 h3
theorem q_u11 : ∀ w ∈ u_ws "LayoutDesk$Memory" q_T11 1, w ∈ q_WS := by
  have h : (u_ws "LayoutDesk$Memory" q_T11 1).length = 1 := rfl
  intro w hw
  obtain ⟨i, hi⟩ := List.getElem?_of_mem hw
  have hl : i < 1 := by have := (List.getElem?_eq_some_iff.mp hi).1; omega
  have key : ∀ j, j < 1 → ∃ x, (u_ws "LayoutDesk$Memory" q_T11 1)[j]? = some x ∧ tables_1[([354] : List Nat).getD j 0]? = some x ∧ goodWord x = true := by
    intro j hj
    have h1 : ∀ j, j < 1 → (((u_ws "LayoutDesk$Memory" q_T11 1)[j]? == tables_1[([354] : List Nat).getD j 0]?) && ((u_ws "LayoutDesk$Memory" q_T11 1)[j]?.map goodWord == some true)) = true := by decide +kernel
    have h2 := h1 j hj
    rw [Bool.and_eq_true] at h2
    have h3 := eq_of_beq h2.1
    have h4 := eq_of_beq h2.2
    cases hx : (u_ws "LayoutDesk$Memory" q_T11 1)[j]? with
    | none => rw [hx] at h4; cases h4
    | some x => rw [hx] at h3 h4; exact ⟨x, rfl, h3.symm, Option.some.inj h4⟩
  obtain ⟨x, h1, h2, h3⟩ := key i hl
  cases Option.some.inj (h1.symm.trans hi)
  exact q_in _ h2 h3
theorem q_u12 : ∀ w ∈ u_ws "LayoutDeskModel" q_T12 47, w ∈ q_WS := by
  have h : (u_ws "LayoutDeskModel" q_T12 47).length = 47 := rfl
  intro w hw
  obtain ⟨i, hi⟩ := List.getElem?_of_mem hw
  have hl : i < 47 := by have := (List.getElem?_eq_some_iff.mp hi).1; omega
  have key : ∀ j, j < 47 → ∃ x, (u_ws "LayoutDeskModel" q_T12 47)[j]? = some x ∧ tables_1[([874, 876, 878, 880, 882, 884, 886, 888, 890, 892, 894, 896, 898, 900, 902, 904, 906, 908, 910, 912, 914, 916, 918, 920, 922, 924, 926, 928, 930, 932, 934, 936, 938, 940, 942, 944, 946, 948, 950, 952, 954, 956, 958, 960, 962, 964, 966] : List Nat).getD j 0]? = some x ∧ goodWord x = true := by
    intro j hj
    have h1 : ∀ j, j < 47 → (((u_ws "LayoutDeskModel" q_T12 47)[j]? == tables_1[([874, 876, 878, 880, 882, 884, 886, 888, 890, 892, 894, 896, 898, 900, 902, 904, 906, 908, 910, 912, 914, 916, 918, 920, 922, 924, 926, 928, 930, 932, 934, 936, 938, 940, 942, 944, 946, 948, 950, 952, 954, 956, 958, 960, 962, 964, 966] : List Nat).getD j 0]?) && ((u_ws "LayoutDeskModel" q_T12 47)[j]?.map goodWord == some true)) = true := by decide +kernel
    have h2 := h1 j hj
    rw [Bool.and_eq_true] at h2
    have h3 := eq_of_beq h2.1
    have h4 := eq_of_beq h2.2
    cases hx : (u_ws "LayoutDeskModel" q_T12 47)[j]? with
    | none => rw [hx] at h4; cases h4
    | some x => rw [hx] at h3 h4; exact ⟨x, rfl, h3.symm, Option.some.inj h4⟩
  obtain ⟨x, h1, h2, h3⟩ := key i hl
  cases Option.some.inj (h1.symm.trans hi)
  exact q_in _ h2 h3
theorem q_ok (t : q_V) (hl : t.1.stackTraces = false) : ma_ok (q_G t) := by
  refine ⟨hl, fun w hw => (List.mem_filter.mp hw).2, ⟨fun s U hW h => q_N.moved (fun w hg hz => q_nwarm hg hW hz) hW.alike h, fun s U hv h => q_N.moved (fun w hg hz => q_nsame hg hv hz) (by rw [hv]; exact Vm.Alike.refl _) h⟩, ?_⟩
  have h1 : ∀ r ∈ q_CL, (∀ k, k < r.2.2 → (parseFieldDescriptor (r.2.1 k).2.2.1).isSome = true) ∧ ∀ a, a < r.2.2 → ∀ b, b < r.2.2 → a ≠ b → (r.2.1 a).2.1 ≠ (r.2.1 b).2.1 := by decide +kernel
  intro r hr
  refine ⟨?_, h1 r hr⟩
  change r ∈ q_CL at hr
  unfold q_CL at hr
  simp only [List.mem_cons, List.not_mem_nil, or_false] at hr
  rcases hr with rfl | rfl | rfl | rfl | rfl | rfl | rfl | rfl | rfl | rfl | rfl | rfl | rfl
  · exact q_u0
  · exact q_u1
  · exact q_u2
  · exact q_u3
  · exact q_u4
  · exact q_u5
  · exact q_u6
  · exact q_u7
  · exact q_u8
  · exact q_u9
  · exact q_u10
  · exact q_u11
  · exact q_u12
theorem s_0 : q_SH[0]? = some (.inl 0) := rfl
theorem s_1 : q_SH[1]? = some (.inl 1) := rfl
theorem s_2 : q_SH[2]? = some (.inr (.char, 160)) := rfl
theorem s_3 : q_SH[3]? = some (.inl 7) := rfl
theorem s_4 : q_SH[4]? = some (.inr (.object "LayoutDesk$Input", 8)) := rfl
theorem s_5 : q_SH[5]? = some (.inr (.object "LayoutDesk$Region", 4)) := rfl
theorem s_6 : q_SH[6]? = some (.inr (.object "LayoutDesk$Section", 8)) := rfl
theorem s_7 : q_SH[7]? = some (.inr (.object "LayoutDesk$Symbol", 18)) := rfl
theorem s_8 : q_SH[8]? = some (.inl 6) := rfl
theorem s_9 : q_SH[9]? = some (.inr (.int, 160)) := rfl
theorem s_10 : q_SH[10]? = some (.inr (.int, 160)) := rfl
theorem s_11 : q_SH[11]? = some (.inl 6) := rfl
theorem s_12 : q_SH[12]? = some (.inr (.int, 160)) := rfl
theorem s_13 : q_SH[13]? = some (.inr (.int, 160)) := rfl
theorem s_14 : q_SH[14]? = some (.inr (.int, 8)) := rfl
theorem s_15 : q_SH[15]? = some (.inr (.int, 8)) := rfl
theorem s_16 : ∀ a, 16 ≤ a → a < 24 → q_SH[a]? = some (.inl 2) := by
  have h : ∀ j, j < 8 → q_SH[16 + j]? = some (.inl 2) := by decide +kernel
  intro a h1 h2
  have h3 := h (a - 16) (by omega)
  rwa [show 16 + (a - 16) = a by omega] at h3
theorem s_24 : ∀ a, 24 ≤ a → a < 28 → q_SH[a]? = some (.inl 3) := by
  have h : ∀ j, j < 4 → q_SH[24 + j]? = some (.inl 3) := by decide +kernel
  intro a h1 h2
  have h3 := h (a - 24) (by omega)
  rwa [show 24 + (a - 24) = a by omega] at h3
theorem s_28 : ∀ a, 28 ≤ a → a < 36 → q_SH[a]? = some (.inl 4) := by
  have h : ∀ j, j < 8 → q_SH[28 + j]? = some (.inl 4) := by decide +kernel
  intro a h1 h2
  have h3 := h (a - 28) (by omega)
  rwa [show 28 + (a - 28) = a by omega] at h3
theorem s_36 : ∀ a, 36 ≤ a → a < 54 → q_SH[a]? = some (.inl 5) := by
  have h : ∀ j, j < 18 → q_SH[36 + j]? = some (.inl 5) := by decide +kernel
  intro a h1 h2
  have h3 := h (a - 36) (by omega)
  rwa [show 36 + (a - 36) = a by omega] at h3
theorem s_54 : q_SH[54]? = some (.inl 8) := rfl
theorem s_55 : q_SH[55]? = some (.inl 9) := rfl
theorem s_56 : q_SH[56]? = some (.inr (.int, 160)) := rfl
theorem s_57 : q_SH[57]? = some (.inl 10) := rfl
theorem s_58 : q_SH[58]? = some (.inl 11) := rfl
theorem s_59 : q_SH[59]? = some (.inr (.int, 512)) := rfl
theorem s_60 : q_SH[60]? = some (.inl 12) := rfl
theorem s_61 : q_SH[61]? = some (.inr (.int, 8)) := rfl
theorem s_62 : q_SH[62]? = some (.inr (.int, 8)) := rfl
theorem s_63 : q_SH[63]? = some (.inr (.int, 8)) := rfl
theorem s_64 : q_SH[64]? = some (.inr (.int, 8)) := rfl
theorem s_65 : q_SH[65]? = some (.inr (.boolean, 8)) := rfl
theorem s_66 : q_SH[66]? = some (.inr (.int, 160)) := rfl
theorem s_67 : q_SH[67]? = some (.inr (.boolean, 4)) := rfl
theorem s_68 : q_SH[68]? = some (.inr (.int, 4)) := rfl
theorem s_69 : q_SH[69]? = some (.inr (.int, 4)) := rfl
theorem s_70 : q_SH[70]? = some (.inr (.int, 160)) := rfl
theorem s_71 : q_SH[71]? = some (.inr (.int, 160)) := rfl
theorem s_72 : q_SH[72]? = some (.inr (.long, 160)) := rfl
theorem s_73 : q_SH[73]? = some (.inr (.int, 6)) := rfl
theorem s_74 : q_SH[74]? = some (.inr (.int, 6)) := rfl
theorem s_75 : q_SH[75]? = some (.inr (.int, 8)) := rfl
theorem s_76 : q_SH[76]? = some (.inr (.boolean, 8)) := rfl
theorem s_77 : q_SH[77]? = some (.inr (.boolean, 8)) := rfl
theorem s_78 : q_SH[78]? = some (.inr (.int, 8)) := rfl
theorem s_79 : q_SH[79]? = some (.inr (.int, 8)) := rfl
theorem s_80 : q_SH[80]? = some (.inr (.int, 8)) := rfl
theorem s_81 : q_SH[81]? = some (.inr (.int, 8)) := rfl
theorem s_82 : q_SH[82]? = some (.inr (.int, 8)) := rfl
theorem s_83 : q_SH[83]? = some (.inr (.boolean, 8)) := rfl
theorem s_84 : q_SH[84]? = some (.inr (.int, 8)) := rfl
theorem s_85 : q_SH[85]? = some (.inr (.int, 8)) := rfl
theorem s_86 : q_SH[86]? = some (.inr (.int, 8)) := rfl
theorem s_87 : q_SH[87]? = some (.inr (.int, 8)) := rfl
theorem s_88 : q_SH[88]? = some (.inr (.int, 8)) := rfl
theorem s_89 : q_SH[89]? = some (.inr (.int, 160)) := rfl
theorem s_90 : q_SH[90]? = some (.inr (.boolean, 26)) := rfl
theorem s_91 : q_SH[91]? = some (.inr (.boolean, 26)) := rfl
theorem s_92 : q_SH[92]? = some (.inr (.int, 26)) := rfl
theorem s_93 : q_SH[93]? = some (.inr (.int, 26)) := rfl
theorem s_94 : q_SH[94]? = some (.inr (.int, 26)) := rfl
theorem s_95 : q_SH[95]? = some (.inr (.int, 26)) := rfl
theorem s_96 : q_SH[96]? = some (.inr (.int, 512)) := rfl
theorem s_97 : q_SH[97]? = some (.inr (.long, 1)) := rfl
theorem r_0_0 : q_R 0 0 = some 1 := rfl
theorem r_0_1 : q_R 0 1 = some 3 := rfl
theorem r_0_2 : q_R 0 2 = some 54 := rfl
theorem r_0_3 : q_R 0 3 = some 55 := rfl
theorem r_0_4 : q_R 0 4 = some 57 := rfl
theorem r_0_5 : q_R 0 5 = some 58 := rfl
theorem r_1_0 : q_R 1 0 = some 2 := rfl
theorem r_3_0 : q_R 3 0 = some 4 := rfl
theorem r_3_1 : q_R 3 1 = some 5 := rfl
theorem r_3_2 : q_R 3 2 = some 6 := rfl
theorem r_3_3 : q_R 3 3 = some 7 := rfl
theorem r_3_4 : q_R 3 4 = some 8 := rfl
theorem r_3_5 : q_R 3 5 = some 11 := rfl
theorem r_3_6 : q_R 3 6 = some 14 := rfl
theorem r_3_8 : q_R 3 8 = some 15 := rfl
theorem r_4 : ∀ j, j < 8 → q_R 4 j = some (16 + j) := by decide +kernel
theorem r_5 : ∀ j, j < 4 → q_R 5 j = some (24 + j) := by decide +kernel
theorem r_6 : ∀ j, j < 8 → q_R 6 j = some (28 + j) := by decide +kernel
theorem r_7 : ∀ j, j < 18 → q_R 7 j = some (36 + j) := by decide +kernel
theorem r_8_0 : q_R 8 0 = some 9 := rfl
theorem r_8_1 : q_R 8 1 = some 10 := rfl
theorem r_11_0 : q_R 11 0 = some 12 := rfl
theorem r_11_1 : q_R 11 1 = some 13 := rfl
theorem r_54_0 : q_R 54 0 = some 1 := rfl
theorem r_54_1 : q_R 54 1 = some 3 := rfl
theorem r_55_0 : q_R 55 0 = some 3 := rfl
theorem r_55_1 : q_R 55 1 = some 56 := rfl
theorem r_57_0 : q_R 57 0 = some 3 := rfl
theorem r_58_0 : q_R 58 0 = some 59 := rfl
theorem r_60_1 : q_R 60 1 = some 61 := rfl
theorem r_60_2 : q_R 60 2 = some 62 := rfl
theorem r_60_3 : q_R 60 3 = some 63 := rfl
theorem r_60_4 : q_R 60 4 = some 64 := rfl
theorem r_60_5 : q_R 60 5 = some 65 := rfl
theorem r_60_7 : q_R 60 7 = some 66 := rfl
theorem r_60_11 : q_R 60 11 = some 67 := rfl
theorem r_60_12 : q_R 60 12 = some 68 := rfl
theorem r_60_13 : q_R 60 13 = some 69 := rfl
theorem r_60_15 : q_R 60 15 = some 70 := rfl
theorem r_60_16 : q_R 60 16 = some 71 := rfl
theorem r_60_17 : q_R 60 17 = some 72 := rfl
theorem r_60_18 : q_R 60 18 = some 73 := rfl
theorem r_60_19 : q_R 60 19 = some 74 := rfl
theorem r_60_23 : q_R 60 23 = some 75 := rfl
theorem r_60_24 : q_R 60 24 = some 76 := rfl
theorem r_60_25 : q_R 60 25 = some 77 := rfl
theorem r_60_26 : q_R 60 26 = some 78 := rfl
theorem r_60_27 : q_R 60 27 = some 79 := rfl
theorem r_60_28 : q_R 60 28 = some 80 := rfl
theorem r_60_29 : q_R 60 29 = some 81 := rfl
theorem r_60_30 : q_R 60 30 = some 82 := rfl
theorem r_60_31 : q_R 60 31 = some 83 := rfl
theorem r_60_32 : q_R 60 32 = some 84 := rfl
theorem r_60_33 : q_R 60 33 = some 85 := rfl
theorem r_60_34 : q_R 60 34 = some 86 := rfl
theorem r_60_35 : q_R 60 35 = some 87 := rfl
theorem r_60_36 : q_R 60 36 = some 88 := rfl
theorem r_60_38 : q_R 60 38 = some 89 := rfl
theorem r_60_39 : q_R 60 39 = some 90 := rfl
theorem r_60_40 : q_R 60 40 = some 91 := rfl
theorem r_60_41 : q_R 60 41 = some 92 := rfl
theorem r_60_42 : q_R 60 42 = some 93 := rfl
theorem r_60_43 : q_R 60 43 = some 94 := rfl
theorem r_60_44 : q_R 60 44 = some 95 := rfl
theorem r_60_46 : q_R 60 46 = some 96 := rfl
theorem k_0 : q_CL[0]? = some ("LayoutDesk", q_T0, 8) := rfl
theorem k_1 : q_CL[1]? = some ("LayoutDesk$Script", q_T1, 2) := rfl
theorem k_2 : q_CL[2]? = some ("LayoutDesk$Input", q_T2, 5) := rfl
theorem k_3 : q_CL[3]? = some ("LayoutDesk$Region", q_T3, 3) := rfl
theorem k_4 : q_CL[4]? = some ("LayoutDesk$Section", q_T4, 12) := rfl
theorem k_5 : q_CL[5]? = some ("LayoutDesk$Symbol", q_T5, 5) := rfl
theorem k_6 : q_CL[6]? = some ("LayoutDesk$Rows", q_T6, 3) := rfl
theorem k_7 : q_CL[7]? = some ("LayoutDesk$Plan", q_T7, 10) := rfl
theorem k_8 : q_CL[8]? = some ("LayoutDesk$Reader", q_T8, 4) := rfl
theorem k_9 : q_CL[9]? = some ("LayoutDesk$Reckoner", q_T9, 3) := rfl
theorem k_10 : q_CL[10]? = some ("LayoutDesk$Judge", q_T10, 1) := rfl
theorem k_11 : q_CL[11]? = some ("LayoutDesk$Memory", q_T11, 1) := rfl
theorem k_12 : q_CL[12]? = some ("LayoutDeskModel", q_T12, 47) := rfl
def m_Desk_init : ma_M := (⟨"LayoutDesk", "<init>", "()V"⟩, prog_1_method_1_code, 1, none, [])
theorem w_Desk_init : ma_word m_Desk_init ∈ q_WS := q_in 26 (by decide +kernel) (by decide +kernel)
def m_Script_init : ma_M := (⟨"LayoutDesk$Script", "<init>", "()V"⟩, prog_10_method_1_code, 1, none, [])
theorem w_Script_init : ma_word m_Script_init ∈ q_WS := q_in 34 (by decide +kernel) (by decide +kernel)
def m_Plan_init : ma_M := (⟨"LayoutDesk$Plan", "<init>", "()V"⟩, prog_5_method_1_code, 2, none, [])
theorem w_Plan_init : ma_word m_Plan_init ∈ q_WS := q_in 51 (by decide +kernel) (by decide +kernel)
def m_Rows_init : ma_M := (⟨"LayoutDesk$Rows", "<init>", "()V"⟩, prog_9_method_1_code, 1, none, [])
theorem w_Rows_init : ma_word m_Rows_init ∈ q_WS := q_in 65 (by decide +kernel) (by decide +kernel)
def m_Input_init : ma_M := (⟨"LayoutDesk$Input", "<init>", "()V"⟩, prog_2_method_1_code, 1, none, [])
theorem w_Input_init : ma_word m_Input_init ∈ q_WS := q_in 87 (by decide +kernel) (by decide +kernel)
def m_Region_init : ma_M := (⟨"LayoutDesk$Region", "<init>", "()V"⟩, prog_8_method_1_code, 1, none, [])
theorem w_Region_init : ma_word m_Region_init ∈ q_WS := q_in 118 (by decide +kernel) (by decide +kernel)
def m_Section_init : ma_M := (⟨"LayoutDesk$Section", "<init>", "()V"⟩, prog_11_method_1_code, 1, none, [])
theorem w_Section_init : ma_word m_Section_init ∈ q_WS := q_in 138 (by decide +kernel) (by decide +kernel)
def m_Symbol_init : ma_M := (⟨"LayoutDesk$Symbol", "<init>", "()V"⟩, prog_12_method_1_code, 1, none, [])
theorem w_Symbol_init : ma_word m_Symbol_init ∈ q_WS := q_in 219 (by decide +kernel) (by decide +kernel)
def m_Reader_init : ma_M := (⟨"LayoutDesk$Reader", "<init>", "(LLayoutDesk$Script;LLayoutDesk$Plan;)V"⟩, prog_6_method_1_code, 3, none, [])
theorem w_Reader_init : ma_word m_Reader_init ∈ q_WS := q_in 306 (by decide +kernel) (by decide +kernel)
def m_Reckoner_init : ma_M := (⟨"LayoutDesk$Reckoner", "<init>", "(LLayoutDesk$Plan;)V"⟩, prog_7_method_1_code, 2, none, [])
theorem w_Reckoner_init : ma_word m_Reckoner_init ∈ q_WS := q_in 325 (by decide +kernel) (by decide +kernel)
def m_Judge_init : ma_M := (⟨"LayoutDesk$Judge", "<init>", "(LLayoutDesk$Plan;)V"⟩, prog_3_method_1_code, 2, none, [])
theorem w_Judge_init : ma_word m_Judge_init ∈ q_WS := q_in 341 (by decide +kernel) (by decide +kernel)
def m_Memory_init : ma_M := (⟨"LayoutDesk$Memory", "<init>", "()V"⟩, prog_4_method_1_code, 1, none, [])
theorem w_Memory_init : ma_word m_Memory_init ∈ q_WS := q_in 351 (by decide +kernel) (by decide +kernel)
def m_Desk_clear : ma_M := (⟨"LayoutDesk", "clear", "()V"⟩, prog_1_method_4_code, 1, none, [])
theorem w_Desk_clear : ma_word m_Desk_clear ∈ q_WS := q_in 385 (by decide +kernel) (by decide +kernel)
def m_Desk_lay : ma_M := (⟨"LayoutDesk", "lay", "()I"⟩, prog_1_method_5_code, 1, some (.int), [])
theorem w_Desk_lay : ma_word m_Desk_lay ∈ q_WS := q_in 389 (by decide +kernel) (by decide +kernel)
def m_Reader_readScript : ma_M := (⟨"LayoutDesk$Reader", "readScript", "()I"⟩, prog_6_method_2_code, 3, some (.int), [])
theorem w_Reader_readScript : ma_word m_Reader_readScript ∈ q_WS := q_in 393 (by decide +kernel) (by decide +kernel)
def m_Plan_forget : ma_M := (⟨"LayoutDesk$Plan", "forget", "()V"⟩, prog_5_method_2_code, 2, none, [])
theorem w_Plan_forget : ma_word m_Plan_forget ∈ q_WS := q_in 397 (by decide +kernel) (by decide +kernel)
def m_Input_forget : ma_M := (⟨"LayoutDesk$Input", "forget", "()V"⟩, prog_2_method_2_code, 1, none, [])
theorem w_Input_forget : ma_word m_Input_forget ∈ q_WS := q_in 401 (by decide +kernel) (by decide +kernel)
def m_Section_forget : ma_M := (⟨"LayoutDesk$Section", "forget", "()V"⟩, prog_11_method_2_code, 1, none, [])
theorem w_Section_forget : ma_word m_Section_forget ∈ q_WS := q_in 405 (by decide +kernel) (by decide +kernel)
def m_Symbol_forget : ma_M := (⟨"LayoutDesk$Symbol", "forget", "()V"⟩, prog_12_method_2_code, 1, none, [])
theorem w_Symbol_forget : ma_word m_Symbol_forget ∈ q_WS := q_in 409 (by decide +kernel) (by decide +kernel)
def m_Reader_skip : ma_M := (⟨"LayoutDesk$Reader", "skip", "(I)Z"⟩, prog_6_method_14_code, 2, some (.boolean), [])
theorem w_Reader_skip : ma_word m_Reader_skip ∈ q_WS := q_in 413 (by decide +kernel) (by decide +kernel)
def m_Reader_here : ma_M := (⟨"LayoutDesk$Reader", "here", "()I"⟩, prog_6_method_16_code, 1, some (.int), [])
theorem w_Reader_here : ma_word m_Reader_here ∈ q_WS := q_in 417 (by decide +kernel) (by decide +kernel)
def m_Reader_readRegion : ma_M := (⟨"LayoutDesk$Reader", "readRegion", "()Z"⟩, prog_6_method_3_code, 4, some (.boolean), [])
theorem w_Reader_readRegion : ma_word m_Reader_readRegion ∈ q_WS := q_in 421 (by decide +kernel) (by decide +kernel)
def m_Reader_letter : ma_M := (⟨"LayoutDesk$Reader", "letter", "(II)I"⟩, prog_6_method_15_code, 4, some (.int), [])
theorem w_Reader_letter : ma_word m_Reader_letter ∈ q_WS := q_in 425 (by decide +kernel) (by decide +kernel)
def m_Reader_readNumber : ma_M := (⟨"LayoutDesk$Reader", "readNumber", "()Z"⟩, prog_6_method_13_code, 2, some (.boolean), [])
theorem w_Reader_readNumber : ma_word m_Reader_readNumber ∈ q_WS := q_in 429 (by decide +kernel) (by decide +kernel)
def m_Reader_readSection : ma_M := (⟨"LayoutDesk$Reader", "readSection", "()Z"⟩, prog_6_method_4_code, 3, some (.boolean), [])
theorem w_Reader_readSection : ma_word m_Reader_readSection ∈ q_WS := q_in 433 (by decide +kernel) (by decide +kernel)
def m_Plan_tellSection : ma_M := (⟨"LayoutDesk$Plan", "tellSection", "(I)V"⟩, prog_5_method_3_code, 2, none, [])
theorem w_Plan_tellSection : ma_word m_Plan_tellSection ∈ q_WS := q_in 437 (by decide +kernel) (by decide +kernel)
def m_Reader_readExpression : ma_M := (⟨"LayoutDesk$Reader", "readExpression", "(I)Z"⟩, prog_6_method_9_code, 4, some (.boolean), [])
theorem w_Reader_readExpression : ma_word m_Reader_readExpression ∈ q_WS := q_in 441 (by decide +kernel) (by decide +kernel)
def m_Reader_readTerm : ma_M := (⟨"LayoutDesk$Reader", "readTerm", "(I)Z"⟩, prog_6_method_10_code, 3, some (.boolean), [])
theorem w_Reader_readTerm : ma_word m_Reader_readTerm ∈ q_WS := q_in 445 (by decide +kernel) (by decide +kernel)
def m_Rows_add : ma_M := (⟨"LayoutDesk$Rows", "add", "(II)V"⟩, prog_9_method_2_code, 3, none, [])
theorem w_Rows_add : ma_word m_Rows_add ∈ q_WS := q_in 449 (by decide +kernel) (by decide +kernel)
def m_Reader_readOfSection : ma_M := (⟨"LayoutDesk$Reader", "readOfSection", "(I)Z"⟩, prog_6_method_11_code, 3, some (.boolean), [])
theorem w_Reader_readOfSection : ma_word m_Reader_readOfSection ∈ q_WS := q_in 453 (by decide +kernel) (by decide +kernel)
def m_Reader_readBracket : ma_M := (⟨"LayoutDesk$Reader", "readBracket", "(I)Z"⟩, prog_6_method_12_code, 3, some (.boolean), [])
theorem w_Reader_readBracket : ma_word m_Reader_readBracket ∈ q_WS := q_in 457 (by decide +kernel) (by decide +kernel)
def m_Desk_isAlignment : ma_M := (⟨"LayoutDesk", "isAlignment", "(II)Z"⟩, prog_1_method_20_code, 2, some (.boolean), [])
theorem w_Desk_isAlignment : ma_word m_Desk_isAlignment ∈ q_WS := q_in 460 (by decide +kernel) (by decide +kernel)
def m_Reader_readItems : ma_M := (⟨"LayoutDesk$Reader", "readItems", "(LLayoutDesk$Section;)Z"⟩, prog_6_method_5_code, 3, some (.boolean), [])
theorem w_Reader_readItems : ma_word m_Reader_readItems ∈ q_WS := q_in 464 (by decide +kernel) (by decide +kernel)
def m_Reader_readItem : ma_M := (⟨"LayoutDesk$Reader", "readItem", "()Z"⟩, prog_6_method_6_code, 2, some (.boolean), [])
theorem w_Reader_readItem : ma_word m_Reader_readItem ∈ q_WS := q_in 468 (by decide +kernel) (by decide +kernel)
def m_Reader_readHomes : ma_M := (⟨"LayoutDesk$Reader", "readHomes", "(LLayoutDesk$Section;)Z"⟩, prog_6_method_7_code, 4, some (.boolean), [])
theorem w_Reader_readHomes : ma_word m_Reader_readHomes ∈ q_WS := q_in 472 (by decide +kernel) (by decide +kernel)
def m_Reader_readSymbol : ma_M := (⟨"LayoutDesk$Reader", "readSymbol", "()Z"⟩, prog_6_method_8_code, 3, some (.boolean), [])
theorem w_Reader_readSymbol : ma_word m_Reader_readSymbol ∈ q_WS := q_in 476 (by decide +kernel) (by decide +kernel)
def m_Reckoner_reckonAll : ma_M := (⟨"LayoutDesk$Reckoner", "reckonAll", "()Z"⟩, prog_7_method_2_code, 4, some (.boolean), [])
theorem w_Reckoner_reckonAll : ma_word m_Reckoner_reckonAll ∈ q_WS := q_in 480 (by decide +kernel) (by decide +kernel)
def m_Reckoner_reckonSection : ma_M := (⟨"LayoutDesk$Reckoner", "reckonSection", "(I)Z"⟩, prog_7_method_5_code, 5, some (.boolean), [])
theorem w_Reckoner_reckonSection : ma_word m_Reckoner_reckonSection ∈ q_WS := q_in 484 (by decide +kernel) (by decide +kernel)
def m_Plan_sectionAt : ma_M := (⟨"LayoutDesk$Plan", "sectionAt", "(I)LLayoutDesk$Section;"⟩, prog_5_method_4_code, 2, some (.object "LayoutDesk$Section"), [])
theorem w_Plan_sectionAt : ma_word m_Plan_sectionAt ∈ q_WS := q_in 488 (by decide +kernel) (by decide +kernel)
def m_Section_isKnown : ma_M := (⟨"LayoutDesk$Section", "isKnown", "()Z"⟩, prog_11_method_3_code, 1, some (.boolean), [])
theorem w_Section_isKnown : ma_word m_Section_isKnown ∈ q_WS := q_in 492 (by decide +kernel) (by decide +kernel)
def m_Reckoner_beginOf : ma_M := (⟨"LayoutDesk$Reckoner", "beginOf", "(LLayoutDesk$Section;I)I"⟩, prog_7_method_6_code, 3, some (.int), [])
theorem w_Reckoner_beginOf : ma_word m_Reckoner_beginOf ∈ q_WS := q_in 496 (by decide +kernel) (by decide +kernel)
def m_Reckoner_valueOf : ma_M := (⟨"LayoutDesk$Reckoner", "valueOf", "(II)I"⟩, prog_7_method_12_code, 5, some (.int), [])
theorem w_Reckoner_valueOf : ma_word m_Reckoner_valueOf ∈ q_WS := q_in 500 (by decide +kernel) (by decide +kernel)
def m_Reckoner_valueOfStep : ma_M := (⟨"LayoutDesk$Reckoner", "valueOfStep", "(II)I"⟩, prog_7_method_13_code, 3, some (.int), [])
theorem w_Reckoner_valueOfStep : ma_word m_Reckoner_valueOfStep ∈ q_WS := q_in 504 (by decide +kernel) (by decide +kernel)
def m_Reckoner_raisedTop : ma_M := (⟨"LayoutDesk$Reckoner", "raisedTop", "(I)I"⟩, prog_7_method_15_code, 3, some (.int), [])
theorem w_Reckoner_raisedTop : ma_word m_Reckoner_raisedTop ∈ q_WS := q_in 508 (by decide +kernel) (by decide +kernel)
def m_Reckoner_pop : ma_M := (⟨"LayoutDesk$Reckoner", "pop", "()I"⟩, prog_7_method_16_code, 1, some (.int), [])
theorem w_Reckoner_pop : ma_word m_Reckoner_pop ∈ q_WS := q_in 512 (by decide +kernel) (by decide +kernel)
def m_Desk_raise : ma_M := (⟨"LayoutDesk", "raise", "(II)I"⟩, prog_1_method_21_code, 2, some (.int), [])
theorem w_Desk_raise : ma_word m_Desk_raise ∈ q_WS := q_in 516 (by decide +kernel) (by decide +kernel)
def m_Reckoner_allowed : ma_M := (⟨"LayoutDesk$Reckoner", "allowed", "(I)I"⟩, prog_7_method_17_code, 1, some (.int), [])
theorem w_Reckoner_allowed : ma_word m_Reckoner_allowed ∈ q_WS := q_in 519 (by decide +kernel) (by decide +kernel)
def m_Reckoner_joinedTop : ma_M := (⟨"LayoutDesk$Reckoner", "joinedTop", "(I)I"⟩, prog_7_method_14_code, 4, some (.int), [])
theorem w_Reckoner_joinedTop : ma_word m_Reckoner_joinedTop ∈ q_WS := q_in 525 (by decide +kernel) (by decide +kernel)
def m_Reckoner_raisedPlaceOf : ma_M := (⟨"LayoutDesk$Reckoner", "raisedPlaceOf", "(ILLayoutDesk$Section;I)I"⟩, prog_7_method_8_code, 5, some (.int), [])
theorem w_Reckoner_raisedPlaceOf : ma_word m_Reckoner_raisedPlaceOf ∈ q_WS := q_in 529 (by decide +kernel) (by decide +kernel)
def m_Reckoner_placeOf : ma_M := (⟨"LayoutDesk$Reckoner", "placeOf", "(II)I"⟩, prog_7_method_9_code, 6, some (.int), [])
theorem w_Reckoner_placeOf : ma_word m_Reckoner_placeOf ∈ q_WS := q_in 533 (by decide +kernel) (by decide +kernel)
def m_Reckoner_greatestAlignment : ma_M := (⟨"LayoutDesk$Reckoner", "greatestAlignment", "(LLayoutDesk$Section;)I"⟩, prog_7_method_10_code, 5, some (.int), [])
theorem w_Reckoner_greatestAlignment : ma_word m_Reckoner_greatestAlignment ∈ q_WS := q_in 537 (by decide +kernel) (by decide +kernel)
def m_Reckoner_loadedAtOf : ma_M := (⟨"LayoutDesk$Reckoner", "loadedAtOf", "(LLayoutDesk$Section;II)I"⟩, prog_7_method_7_code, 4, some (.int), [])
theorem w_Reckoner_loadedAtOf : ma_word m_Reckoner_loadedAtOf ∈ q_WS := q_in 544 (by decide +kernel) (by decide +kernel)
def m_Reckoner_putItems : ma_M := (⟨"LayoutDesk$Reckoner", "putItems", "(LLayoutDesk$Section;)I"⟩, prog_7_method_11_code, 6, some (.int), [])
theorem w_Reckoner_putItems : ma_word m_Reckoner_putItems ∈ q_WS := q_in 548 (by decide +kernel) (by decide +kernel)
def m_Reckoner_reckonSymbol : ma_M := (⟨"LayoutDesk$Reckoner", "reckonSymbol", "(LLayoutDesk$Symbol;)Z"⟩, prog_7_method_4_code, 2, some (.boolean), [])
theorem w_Reckoner_reckonSymbol : ma_word m_Reckoner_reckonSymbol ∈ q_WS := q_in 552 (by decide +kernel) (by decide +kernel)
def m_Reckoner_allKnown : ma_M := (⟨"LayoutDesk$Reckoner", "allKnown", "()Z"⟩, prog_7_method_3_code, 2, some (.boolean), [])
theorem w_Reckoner_allKnown : ma_word m_Reckoner_allKnown ∈ q_WS := q_in 556 (by decide +kernel) (by decide +kernel)
def m_Judge_overflows : ma_M := (⟨"LayoutDesk$Judge", "overflows", "()Z"⟩, prog_3_method_2_code, 3, some (.boolean), [])
theorem w_Judge_overflows : ma_word m_Judge_overflows ∈ q_WS := q_in 560 (by decide +kernel) (by decide +kernel)
def m_Region_holds : ma_M := (⟨"LayoutDesk$Region", "holds", "(II)Z"⟩, prog_8_method_2_code, 3, some (.boolean), [])
theorem w_Region_holds : ma_word m_Region_holds ∈ q_WS := q_in 565 (by decide +kernel) (by decide +kernel)
def m_Judge_overlaps : ma_M := (⟨"LayoutDesk$Judge", "overlaps", "()Z"⟩, prog_3_method_3_code, 3, some (.boolean), [])
theorem w_Judge_overlaps : ma_word m_Judge_overlaps ∈ q_WS := q_in 569 (by decide +kernel) (by decide +kernel)
def m_Judge_overlap : ma_M := (⟨"LayoutDesk$Judge", "overlap", "(LLayoutDesk$Section;LLayoutDesk$Section;)Z"⟩, prog_3_method_4_code, 2, some (.boolean), [])
theorem w_Judge_overlap : ma_word m_Judge_overlap ∈ q_WS := q_in 572 (by decide +kernel) (by decide +kernel)
def m_Judge_meet : ma_M := (⟨"LayoutDesk$Judge", "meet", "(IIII)Z"⟩, prog_3_method_6_code, 4, some (.boolean), [])
theorem w_Judge_meet : ma_word m_Judge_meet ∈ q_WS := q_in 575 (by decide +kernel) (by decide +kernel)
def m_Plan_listCopies : ma_M := (⟨"LayoutDesk$Plan", "listCopies", "()V"⟩, prog_5_method_6_code, 3, none, [])
theorem w_Plan_listCopies : ma_word m_Plan_listCopies ∈ q_WS := q_in 579 (by decide +kernel) (by decide +kernel)
def m_Judge_copiesClash : ma_M := (⟨"LayoutDesk$Judge", "copiesClash", "()Z"⟩, prog_3_method_5_code, 5, some (.boolean), [])
theorem w_Judge_copiesClash : ma_word m_Judge_copiesClash ∈ q_WS := q_in 584 (by decide +kernel) (by decide +kernel)
def m_Plan_copiedAt : ma_M := (⟨"LayoutDesk$Plan", "copiedAt", "(I)LLayoutDesk$Section;"⟩, prog_5_method_5_code, 2, some (.object "LayoutDesk$Section"), [])
theorem w_Plan_copiedAt : ma_word m_Plan_copiedAt ∈ q_WS := q_in 588 (by decide +kernel) (by decide +kernel)
def m_Desk_bad : ma_M := (⟨"LayoutDesk", "bad", "()I"⟩, prog_1_method_6_code, 1, some (.int), [])
theorem w_Desk_bad : ma_word m_Desk_bad ∈ q_WS := q_in 592 (by decide +kernel) (by decide +kernel)
def m_Law_input : ma_M := (⟨"LayoutDeskLaw", "input", "(LLayoutDesk;IIII)I"⟩, method_3_code, 6, some (.int), [(0, 9, 12, 13)])
theorem w_Law_input : ma_word m_Law_input ∈ q_WS := q_in 595 (by decide +kernel) (by decide +kernel)
def m_Desk_input : ma_M := (⟨"LayoutDesk", "input", "(IIII)V"⟩, prog_1_method_2_code, 6, none, [])
theorem w_Desk_input : ma_word m_Desk_input ∈ q_WS := q_in 600 (by decide +kernel) (by decide +kernel)
def m_Law_type : ma_M := (⟨"LayoutDeskLaw", "type", "(LLayoutDesk;JI[J)I"⟩, method_4_code, 6, some (.int), [(0, 11, 14, 13), (0, 11, 18, 19)])
theorem w_Law_type : ma_word m_Law_type ∈ q_WS := q_in 668 (by decide +kernel) (by decide +kernel)
def m_Desk_type : ma_M := (⟨"LayoutDesk", "type", "(JI)I"⟩, prog_1_method_3_code, 5, some (.int), [])
theorem w_Desk_type : ma_word m_Desk_type ∈ q_WS := q_in 673 (by decide +kernel) (by decide +kernel)
def m_Desk_allCanBeTyped : ma_M := (⟨"LayoutDesk", "allCanBeTyped", "(JI)Z"⟩, prog_1_method_18_code, 5, some (.boolean), [])
theorem w_Desk_allCanBeTyped : ma_word m_Desk_allCanBeTyped ∈ q_WS := q_in 676 (by decide +kernel) (by decide +kernel)
def m_Desk_byteOf : ma_M := (⟨"LayoutDesk", "byteOf", "(JI)I"⟩, prog_1_method_19_code, 3, some (.int), [])
theorem w_Desk_byteOf : ma_word m_Desk_byteOf ∈ q_WS := q_in 679 (by decide +kernel) (by decide +kernel)
def m_Script_append : ma_M := (⟨"LayoutDesk$Script", "append", "(I)V"⟩, prog_10_method_2_code, 2, none, [])
theorem w_Script_append : ma_word m_Script_append ∈ q_WS := q_in 698 (by decide +kernel) (by decide +kernel)
def m_Law_section : ma_M := (⟨"LayoutDeskLaw", "section", "(LLayoutDesk;II[J)I"⟩, method_5_code, 5, some (.int), [(0, 10, 13, 13), (0, 10, 17, 19), (0, 10, 21, 25)])
theorem w_Law_section : ma_word m_Law_section ∈ q_WS := q_in 701 (by decide +kernel) (by decide +kernel)
def m_Desk_section : ma_M := (⟨"LayoutDesk", "section", "(II)I"⟩, prog_1_method_7_code, 4, some (.int), [])
theorem w_Desk_section : ma_word m_Desk_section ∈ q_WS := q_in 706 (by decide +kernel) (by decide +kernel)
def m_Desk_needOneOfThree : ma_M := (⟨"LayoutDesk", "needOneOfThree", "(I)V"⟩, prog_1_method_17_code, 1, none, [])
theorem w_Desk_needOneOfThree : ma_word m_Desk_needOneOfThree ∈ q_WS := q_in 709 (by decide +kernel) (by decide +kernel)
def m_Desk_needLayout : ma_M := (⟨"LayoutDesk", "needLayout", "()V"⟩, prog_1_method_15_code, 1, none, [])
theorem w_Desk_needLayout : ma_word m_Desk_needLayout ∈ q_WS := q_in 713 (by decide +kernel) (by decide +kernel)
def m_Law_put : ma_M := (⟨"LayoutDeskLaw", "put", "(LLayoutDesk;I[J)I"⟩, method_6_code, 4, some (.int), [(0, 9, 12, 13), (0, 9, 15, 19)])
theorem w_Law_put : ma_word m_Law_put ∈ q_WS := q_in 731 (by decide +kernel) (by decide +kernel)
def m_Desk_put : ma_M := (⟨"LayoutDesk", "put", "(I)I"⟩, prog_1_method_8_code, 2, some (.int), [])
theorem w_Desk_put : ma_word m_Desk_put ∈ q_WS := q_in 735 (by decide +kernel) (by decide +kernel)
def m_Law_symbol : ma_M := (⟨"LayoutDeskLaw", "symbol", "(LLayoutDesk;I[J)I"⟩, method_7_code, 4, some (.int), [(0, 9, 12, 13), (0, 9, 15, 19), (0, 9, 18, 25)])
theorem w_Law_symbol : ma_word m_Law_symbol ∈ q_WS := q_in 738 (by decide +kernel) (by decide +kernel)
def m_Desk_symbol : ma_M := (⟨"LayoutDesk", "symbol", "(I)I"⟩, prog_1_method_9_code, 3, some (.int), [])
theorem w_Desk_symbol : ma_word m_Desk_symbol ∈ q_WS := q_in 742 (by decide +kernel) (by decide +kernel)
def m_Law_copies : ma_M := (⟨"LayoutDeskLaw", "copies", "(LLayoutDesk;[J)I"⟩, method_8_code, 3, some (.int), [(0, 8, 11, 19)])
theorem w_Law_copies : ma_word m_Law_copies ∈ q_WS := q_in 745 (by decide +kernel) (by decide +kernel)
def m_Desk_copies : ma_M := (⟨"LayoutDesk", "copies", "()I"⟩, prog_1_method_10_code, 1, some (.int), [])
theorem w_Desk_copies : ma_word m_Desk_copies ∈ q_WS := q_in 749 (by decide +kernel) (by decide +kernel)
def m_Law_copy : ma_M := (⟨"LayoutDeskLaw", "copy", "(LLayoutDesk;II[J)I"⟩, method_9_code, 5, some (.int), [(0, 10, 13, 13), (0, 10, 17, 19), (0, 10, 21, 25)])
theorem w_Law_copy : ma_word m_Law_copy ∈ q_WS := q_in 752 (by decide +kernel) (by decide +kernel)
def m_Desk_copy : ma_M := (⟨"LayoutDesk", "copy", "(II)I"⟩, prog_1_method_11_code, 4, some (.int), [])
theorem w_Desk_copy : ma_word m_Desk_copy ∈ q_WS := q_in 756 (by decide +kernel) (by decide +kernel)
def m_Law_load : ma_M := (⟨"LayoutDeskLaw", "load", "(LLayoutDesk;)I"⟩, method_10_code, 2, some (.int), [(0, 4, 7, 19)])
theorem w_Law_load : ma_word m_Law_load ∈ q_WS := q_in 760 (by decide +kernel) (by decide +kernel)
def m_Desk_load : ma_M := (⟨"LayoutDesk", "load", "()V"⟩, prog_1_method_12_code, 3, none, [])
theorem w_Desk_load : ma_word m_Desk_load ∈ q_WS := q_in 764 (by decide +kernel) (by decide +kernel)
def m_Memory_fill : ma_M := (⟨"LayoutDesk$Memory", "fill", "(III)V"⟩, prog_4_method_2_code, 5, none, [])
theorem w_Memory_fill : ma_word m_Memory_fill ∈ q_WS := q_in 768 (by decide +kernel) (by decide +kernel)
def m_Memory_store : ma_M := (⟨"LayoutDesk$Memory", "store", "(II)V"⟩, prog_4_method_6_code, 3, none, [])
theorem w_Memory_store : ma_word m_Memory_store ∈ q_WS := q_in 772 (by decide +kernel) (by decide +kernel)
def m_Desk_bringIn : ma_M := (⟨"LayoutDesk", "bringIn", "(LLayoutDesk$Section;)V"⟩, prog_1_method_16_code, 4, none, [])
theorem w_Desk_bringIn : ma_word m_Desk_bringIn ∈ q_WS := q_in 777 (by decide +kernel) (by decide +kernel)
def m_Memory_bring : ma_M := (⟨"LayoutDesk$Memory", "bring", "(LLayoutDesk$Input;I)V"⟩, prog_4_method_3_code, 4, none, [])
theorem w_Memory_bring : ma_word m_Memory_bring ∈ q_WS := q_in 781 (by decide +kernel) (by decide +kernel)
def m_Law_start : ma_M := (⟨"LayoutDeskLaw", "start", "(LLayoutDesk;)I"⟩, method_11_code, 2, some (.int), [(0, 4, 7, 19)])
theorem w_Law_start : ma_word m_Law_start ∈ q_WS := q_in 784 (by decide +kernel) (by decide +kernel)
def m_Desk_start : ma_M := (⟨"LayoutDesk", "start", "()V"⟩, prog_1_method_13_code, 3, none, [])
theorem w_Desk_start : ma_word m_Desk_start ∈ q_WS := q_in 788 (by decide +kernel) (by decide +kernel)
def m_Memory_move : ma_M := (⟨"LayoutDesk$Memory", "move", "(III)V"⟩, prog_4_method_4_code, 5, none, [])
theorem w_Memory_move : ma_word m_Memory_move ∈ q_WS := q_in 792 (by decide +kernel) (by decide +kernel)
def m_Memory_fetch : ma_M := (⟨"LayoutDesk$Memory", "fetch", "(I)I"⟩, prog_4_method_5_code, 2, some (.int), [])
theorem w_Memory_fetch : ma_word m_Memory_fetch ∈ q_WS := q_in 796 (by decide +kernel) (by decide +kernel)
def m_Law_memory : ma_M := (⟨"LayoutDeskLaw", "memory", "(LLayoutDesk;I[J)I"⟩, method_12_code, 4, some (.int), [(0, 9, 12, 50)])
theorem w_Law_memory : ma_word m_Law_memory ∈ q_WS := q_in 799 (by decide +kernel) (by decide +kernel)
def m_Desk_memory : ma_M := (⟨"LayoutDesk", "memory", "(I)I"⟩, prog_1_method_14_code, 2, some (.int), [])
theorem w_Desk_memory : ma_word m_Desk_memory ∈ q_WS := q_in 804 (by decide +kernel) (by decide +kernel)
def m_Mod_init : ma_M := (⟨"LayoutDeskModel", "<init>", "()V"⟩, prog_14_method_1_code, 2, none, [])
theorem w_Mod_init : ma_word m_Mod_init ∈ q_WS := q_in 825 (by decide +kernel) (by decide +kernel)
def m_Mod_thrown : ma_M := (⟨"LayoutDeskModel", "thrown", "()I"⟩, prog_14_method_2_code, 1, some (.int), [])
theorem w_Mod_thrown : ma_word m_Mod_thrown ∈ q_WS := q_in 974 (by decide +kernel) (by decide +kernel)
def m_Mod_input : ma_M := (⟨"LayoutDeskModel", "input", "(IIII)V"⟩, prog_14_method_6_code, 5, none, [])
theorem w_Mod_input : ma_word m_Mod_input ∈ q_WS := q_in 978 (by decide +kernel) (by decide +kernel)
def m_Mod_within : ma_M := (⟨"LayoutDeskModel", "within", "(III)Z"⟩, prog_14_method_3_code, 3, some (.boolean), [])
theorem w_Mod_within : ma_word m_Mod_within ∈ q_WS := q_in 981 (by decide +kernel) (by decide +kernel)
def m_Mod_power : ma_M := (⟨"LayoutDeskModel", "power", "(II)Z"⟩, prog_14_method_4_code, 4, some (.boolean), [])
theorem w_Mod_power : ma_word m_Mod_power ∈ q_WS := q_in 984 (by decide +kernel) (by decide +kernel)
def m_Mod_type : ma_M := (⟨"LayoutDeskModel", "type", "(JI)I"⟩, prog_14_method_7_code, 6, some (.int), [])
theorem w_Mod_type : ma_word m_Mod_type ∈ q_WS := q_in 988 (by decide +kernel) (by decide +kernel)
def m_Mod_clear : ma_M := (⟨"LayoutDeskModel", "clear", "()V"⟩, prog_14_method_8_code, 1, none, [])
theorem w_Mod_clear : ma_word m_Mod_clear ∈ q_WS := q_in 993 (by decide +kernel) (by decide +kernel)
def m_Mod_lay : ma_M := (⟨"LayoutDeskModel", "lay", "()I"⟩, prog_14_method_40_code, 1, some (.int), [])
theorem w_Mod_lay : ma_word m_Mod_lay ∈ q_WS := q_in 997 (by decide +kernel) (by decide +kernel)
def m_Mod_read : ma_M := (⟨"LayoutDeskModel", "read", "()V"⟩, prog_14_method_26_code, 2, none, [])
theorem w_Mod_read : ma_word m_Mod_read ∈ q_WS := q_in 1001 (by decide +kernel) (by decide +kernel)
def m_Mod_statement : ma_M := (⟨"LayoutDeskModel", "statement", "()V"⟩, prog_14_method_25_code, 2, none, [])
theorem w_Mod_statement : ma_word m_Mod_statement ∈ q_WS := q_in 1005 (by decide +kernel) (by decide +kernel)
def m_Mod_takes : ma_M := (⟨"LayoutDeskModel", "takes", "(I)Z"⟩, prog_14_method_10_code, 2, some (.boolean), [])
theorem w_Mod_takes : ma_word m_Mod_takes ∈ q_WS := q_in 1009 (by decide +kernel) (by decide +kernel)
def m_Mod_see : ma_M := (⟨"LayoutDeskModel", "see", "()I"⟩, prog_14_method_9_code, 1, some (.int), [])
theorem w_Mod_see : ma_word m_Mod_see ∈ q_WS := q_in 1013 (by decide +kernel) (by decide +kernel)
def m_Mod_readRegion : ma_M := (⟨"LayoutDeskModel", "readRegion", "()V"⟩, prog_14_method_24_code, 2, none, [])
theorem w_Mod_readRegion : ma_word m_Mod_readRegion ∈ q_WS := q_in 1017 (by decide +kernel) (by decide +kernel)
def m_Mod_letter : ma_M := (⟨"LayoutDeskModel", "letter", "(II)I"⟩, prog_14_method_12_code, 4, some (.int), [])
theorem w_Mod_letter : ma_word m_Mod_letter ∈ q_WS := q_in 1021 (by decide +kernel) (by decide +kernel)
def m_Mod_fresh : ma_M := (⟨"LayoutDeskModel", "fresh", "(Z)V"⟩, prog_14_method_13_code, 2, none, [])
theorem w_Mod_fresh : ma_word m_Mod_fresh ∈ q_WS := q_in 1025 (by decide +kernel) (by decide +kernel)
def m_Mod_take : ma_M := (⟨"LayoutDeskModel", "take", "(I)V"⟩, prog_14_method_11_code, 2, none, [])
theorem w_Mod_take : ma_word m_Mod_take ∈ q_WS := q_in 1029 (by decide +kernel) (by decide +kernel)
def m_Mod_number : ma_M := (⟨"LayoutDeskModel", "number", "()I"⟩, prog_14_method_14_code, 3, some (.int), [])
theorem w_Mod_number : ma_word m_Mod_number ∈ q_WS := q_in 1033 (by decide +kernel) (by decide +kernel)
def m_Mod_readSection : ma_M := (⟨"LayoutDeskModel", "readSection", "()V"⟩, prog_14_method_23_code, 2, none, [])
theorem w_Mod_readSection : ma_word m_Mod_readSection ∈ q_WS := q_in 1037 (by decide +kernel) (by decide +kernel)
def m_Mod_expression : ma_M := (⟨"LayoutDeskModel", "expression", "()V"⟩, prog_14_method_18_code, 6, none, [])
theorem w_Mod_expression : ma_word m_Mod_expression ∈ q_WS := q_in 1041 (by decide +kernel) (by decide +kernel)
def m_Mod_simple : ma_M := (⟨"LayoutDeskModel", "simple", "()V"⟩, prog_14_method_17_code, 3, none, [])
theorem w_Mod_simple : ma_word m_Mod_simple ∈ q_WS := q_in 1045 (by decide +kernel) (by decide +kernel)
def m_Mod_emit : ma_M := (⟨"LayoutDeskModel", "emit", "(II)V"⟩, prog_14_method_16_code, 3, none, [])
theorem w_Mod_emit : ma_word m_Mod_emit ∈ q_WS := q_in 1049 (by decide +kernel) (by decide +kernel)
def m_Mod_alignment : ma_M := (⟨"LayoutDeskModel", "alignment", "()I"⟩, prog_14_method_15_code, 2, some (.int), [])
theorem w_Mod_alignment : ma_word m_Mod_alignment ∈ q_WS := q_in 1053 (by decide +kernel) (by decide +kernel)
def m_Mod_readItem : ma_M := (⟨"LayoutDeskModel", "readItem", "(I)V"⟩, prog_14_method_21_code, 3, none, [])
theorem w_Mod_readItem : ma_word m_Mod_readItem ∈ q_WS := q_in 1057 (by decide +kernel) (by decide +kernel)
def m_Mod_addItem : ma_M := (⟨"LayoutDeskModel", "addItem", "(I)V"⟩, prog_14_method_20_code, 2, none, [])
theorem w_Mod_addItem : ma_word m_Mod_addItem ∈ q_WS := q_in 1061 (by decide +kernel) (by decide +kernel)
def m_Mod_tell : ma_M := (⟨"LayoutDeskModel", "tell", "(I)I"⟩, prog_14_method_19_code, 3, some (.int), [])
theorem w_Mod_tell : ma_word m_Mod_tell ∈ q_WS := q_in 1065 (by decide +kernel) (by decide +kernel)
def m_Mod_region : ma_M := (⟨"LayoutDeskModel", "region", "(I)I"⟩, prog_14_method_22_code, 3, some (.int), [])
theorem w_Mod_region : ma_word m_Mod_region ∈ q_WS := q_in 1069 (by decide +kernel) (by decide +kernel)
def m_Mod_reckonAll : ma_M := (⟨"LayoutDeskModel", "reckonAll", "()Z"⟩, prog_14_method_33_code, 5, some (.boolean), [])
theorem w_Mod_reckonAll : ma_word m_Mod_reckonAll ∈ q_WS := q_in 1073 (by decide +kernel) (by decide +kernel)
def m_Mod_putSection : ma_M := (⟨"LayoutDeskModel", "putSection", "(I)V"⟩, prog_14_method_32_code, 9, none, [])
theorem w_Mod_putSection : ma_word m_Mod_putSection ∈ q_WS := q_in 1077 (by decide +kernel) (by decide +kernel)
def m_Mod_alignOf : ma_M := (⟨"LayoutDeskModel", "alignOf", "(I)I"⟩, prog_14_method_31_code, 5, some (.int), [])
theorem w_Mod_alignOf : ma_word m_Mod_alignOf ∈ q_WS := q_in 1081 (by decide +kernel) (by decide +kernel)
def m_Mod_reckon : ma_M := (⟨"LayoutDeskModel", "reckon", "(II)J"⟩, prog_14_method_29_code, 6, some (.long), [])
theorem w_Mod_reckon : ma_word m_Mod_reckon ∈ q_WS := q_in 1085 (by decide +kernel) (by decide +kernel)
def m_Mod_push : ma_M := (⟨"LayoutDeskModel", "push", "(IZJ)V"⟩, prog_14_method_28_code, 5, none, [])
theorem w_Mod_push : ma_word m_Mod_push ∈ q_WS := q_in 1089 (by decide +kernel) (by decide +kernel)
def m_Mod_raised : ma_M := (⟨"LayoutDeskModel", "raised", "(JI)J"⟩, prog_14_method_27_code, 5, some (.long), [])
theorem w_Mod_raised : ma_word m_Mod_raised ∈ q_WS := q_in 1092 (by decide +kernel) (by decide +kernel)
def m_Mod_placeOf : ma_M := (⟨"LayoutDeskModel", "placeOf", "(II)J"⟩, prog_14_method_30_code, 5, some (.long), [])
theorem w_Mod_placeOf : ma_word m_Mod_placeOf ∈ q_WS := q_in 1098 (by decide +kernel) (by decide +kernel)
def m_Mod_fits : ma_M := (⟨"LayoutDeskModel", "fits", "()Z"⟩, prog_14_method_35_code, 4, some (.boolean), [])
theorem w_Mod_fits : ma_word m_Mod_fits ∈ q_WS := q_in 1103 (by decide +kernel) (by decide +kernel)
def m_Mod_inRegion : ma_M := (⟨"LayoutDeskModel", "inRegion", "(III)Z"⟩, prog_14_method_34_code, 4, some (.boolean), [])
theorem w_Mod_inRegion : ma_word m_Mod_inRegion ∈ q_WS := q_in 1107 (by decide +kernel) (by decide +kernel)
def m_Mod_apart : ma_M := (⟨"LayoutDeskModel", "apart", "()Z"⟩, prog_14_method_38_code, 6, some (.boolean), [])
theorem w_Mod_apart : ma_word m_Mod_apart ∈ q_WS := q_in 1111 (by decide +kernel) (by decide +kernel)
def m_Mod_meet : ma_M := (⟨"LayoutDeskModel", "meet", "(IIII)Z"⟩, prog_14_method_36_code, 4, some (.boolean), [])
theorem w_Mod_meet : ma_word m_Mod_meet ∈ q_WS := q_in 1114 (by decide +kernel) (by decide +kernel)
def m_Mod_copiesWell : ma_M := (⟨"LayoutDeskModel", "copiesWell", "()Z"⟩, prog_14_method_39_code, 6, some (.boolean), [])
theorem w_Mod_copiesWell : ma_word m_Mod_copiesWell ∈ q_WS := q_in 1118 (by decide +kernel) (by decide +kernel)
def m_Mod_copied : ma_M := (⟨"LayoutDeskModel", "copied", "(I)Z"⟩, prog_14_method_37_code, 2, some (.boolean), [])
theorem w_Mod_copied : ma_word m_Mod_copied ∈ q_WS := q_in 1122 (by decide +kernel) (by decide +kernel)
def m_Mod_bad : ma_M := (⟨"LayoutDeskModel", "bad", "()I"⟩, prog_14_method_41_code, 1, some (.int), [])
theorem w_Mod_bad : ma_word m_Mod_bad ∈ q_WS := q_in 1126 (by decide +kernel) (by decide +kernel)
def m_Mod_section : ma_M := (⟨"LayoutDeskModel", "section", "(II)I"⟩, prog_14_method_42_code, 3, some (.int), [])
theorem w_Mod_section : ma_word m_Mod_section ∈ q_WS := q_in 1130 (by decide +kernel) (by decide +kernel)
def m_Mod_put : ma_M := (⟨"LayoutDeskModel", "put", "(I)I"⟩, prog_14_method_43_code, 2, some (.int), [])
theorem w_Mod_put : ma_word m_Mod_put ∈ q_WS := q_in 1134 (by decide +kernel) (by decide +kernel)
def m_Mod_symbol : ma_M := (⟨"LayoutDeskModel", "symbol", "(I)I"⟩, prog_14_method_44_code, 2, some (.int), [])
theorem w_Mod_symbol : ma_word m_Mod_symbol ∈ q_WS := q_in 1138 (by decide +kernel) (by decide +kernel)
def m_Mod_copies : ma_M := (⟨"LayoutDeskModel", "copies", "()I"⟩, prog_14_method_46_code, 3, some (.int), [])
theorem w_Mod_copies : ma_word m_Mod_copies ∈ q_WS := q_in 1142 (by decide +kernel) (by decide +kernel)
def m_Mod_copy : ma_M := (⟨"LayoutDeskModel", "copy", "(II)I"⟩, prog_14_method_47_code, 4, some (.int), [])
theorem w_Mod_copy : ma_word m_Mod_copy ∈ q_WS := q_in 1146 (by decide +kernel) (by decide +kernel)
def m_Mod_copyAt : ma_M := (⟨"LayoutDeskModel", "copyAt", "(I)I"⟩, prog_14_method_45_code, 4, some (.int), [])
theorem w_Mod_copyAt : ma_word m_Mod_copyAt ∈ q_WS := q_in 1150 (by decide +kernel) (by decide +kernel)
def m_Mod_fail : ma_M := (⟨"LayoutDeskModel", "fail", "(I)I"⟩, prog_14_method_5_code, 2, some (.int), [])
theorem w_Mod_fail : ma_word m_Mod_fail ∈ q_WS := q_in 1154 (by decide +kernel) (by decide +kernel)
def m_Mod_load : ma_M := (⟨"LayoutDeskModel", "load", "()V"⟩, prog_14_method_48_code, 4, none, [])
theorem w_Mod_load : ma_word m_Mod_load ∈ q_WS := q_in 1158 (by decide +kernel) (by decide +kernel)
def m_Mod_byteOf : ma_M := (⟨"LayoutDeskModel", "byteOf", "(II)I"⟩, prog_14_method_49_code, 6, some (.int), [])
theorem w_Mod_byteOf : ma_word m_Mod_byteOf ∈ q_WS := q_in 1162 (by decide +kernel) (by decide +kernel)
def m_Mod_start : ma_M := (⟨"LayoutDeskModel", "start", "()V"⟩, prog_14_method_50_code, 4, none, [])
theorem w_Mod_start : ma_word m_Mod_start ∈ q_WS := q_in 1166 (by decide +kernel) (by decide +kernel)
def m_Mod_memory : ma_M := (⟨"LayoutDeskModel", "memory", "(I)I"⟩, prog_14_method_51_code, 2, some (.int), [])
theorem w_Mod_memory : ma_word m_Mod_memory ∈ q_WS := q_in 1170 (by decide +kernel) (by decide +kernel)
