/-! THE LAYER: the machine is hidden behind XW (a stretch of a method's code) and XM (a method's contract), over a heap that is a function. -/
abbrev xE : Type := (Nat × vp_A) ⊕ (Nat × List Value)
abbrev xH : Type := Nat → Option xE
abbrev xG : Type := va_G × (Nat → ClassId) × (State → (Nat → Prop) → Prop)
/-- nothing more is known of the start -/
abbrev gT (G : xG) : xG := (G.1, G.2.1, fun _ _ => True)
/-- what may be written, and what more is known -/
def xAo (G : xG) (s : State) (A : Nat → Prop) : Prop := (∀ q, s.heap.size ≤ q → A q) ∧ G.2.2 s A
def xe (G : xG) : xE → va_E
  | .inl x => .inl (G.2.1 x.1, x.2)
  | .inr o => .inr o
def xup (h : xH) (a : Nat) (e : xE) : xH := fun q => if q = a then some e else h q
theorem xup_eq (h : xH) (a : Nat) (e : xE) : xup h a e a = some e := by simp [xup]
theorem xup_ne (h : xH) {a q : Nat} (e : xE) (hq : q ≠ a) : xup h a e q = h q := by simp [xup, hq]
def xRep (G : xG) (h : xH) (n : Nat) (H : Heap) : Prop := H.size = n ∧ ∀ (a : Nat) (e : xE), h a = some e → va_at G.1 vwCl (a, xe G e) H
theorem xRep.lt {G : xG} {h : xH} {n : Nat} {H : Heap} (hR : xRep G h n H) {a : Nat} {e : xE} (ha : h a = some e) : a < n := by
  have h1 := (hR.2 a e ha).lt
  rw [hR.1] at h1
  exact h1
theorem xRep.put {G : xG} {h : xH} {n : Nat} {H H1 : Heap} (hR : xRep G h n H) {a : Nat} {e : xE} (hz : H1.size = H.size) (he : va_at G.1 vwCl (a, xe G e) H1) (oq : ∀ q : Nat, q ≠ a → H1[q]? = H[q]?) : xRep G (xup h a e) n H1 := by
  refine ⟨hz.trans hR.1, fun q e' hq => ?_⟩
  by_cases c : q = a
  · subst c
    rw [xup_eq] at hq
    cases hq
    exact he
  · rw [xup_ne h e c] at hq
    exact (hR.2 q e' hq).kept (oq q c)
theorem xRep.new {G : xG} {h : xH} {n : Nat} {H H1 : Heap} (hR : xRep G h n H) {e : xE} (hz : H1.size = n + 1) (he : va_at G.1 vwCl (n, xe G e) H1) (oq : ∀ q : Nat, q < n → H1[q]? = H[q]?) : xRep G (xup h n e) (n + 1) H1 := by
  refine ⟨hz, fun q e' hq => ?_⟩
  by_cases c : q = n
  · subst c
    rw [xup_eq] at hq
    cases hq
    exact he
  · rw [xup_ne h e c] at hq
    exact (hR.2 q e' hq).kept (oq q (hR.lt hq))
/-- the cells that a method may write -/
def xA (h : xH) (n : Nat) : Nat → Prop := fun q => (∃ e, h q = some e) ∨ n ≤ q
def xIn (A : Nat → Prop) (h : xH) : Prop := ∀ (a : Nat) (e : xE), h a = some e → A a
theorem xIn.put {A : Nat → Prop} {h : xH} (hi : xIn A h) {a : Nat} (e : xE) (ha : A a) : xIn A (xup h a e) := by
  intro q e' hq
  by_cases c : q = a
  · subst c; exact ha
  · rw [xup_ne h e c] at hq
    exact hi q e' hq
/-- the kinds of arrays -/
def xTl (G : xG) : List (ClassId × FieldType) := xTys.zipIdx.map (fun q => (G.2.1 q.2, q.1))
theorem xTl_at (G : xG) {t : Nat} {ty : FieldType} (h : xTys[t]? = some ty) : (xTl G)[t]? = some (G.2.1 t, ty) := by
  unfold xTl
  rw [List.getElem?_map, List.getElem?_zipIdx, h]
  simp
theorem xgood_of {w : Cond} (h : w ∈ xws) : (w.onTables && w.keeps) = true ∨ ∃ ty, w = .arrayClass ty := by
  have h1 := (List.mem_filter.mp h).2
  unfold xgood at h1
  rcases Bool.or_eq_true_iff.mp h1 with h2 | h2
  · exact Or.inl h2
  · cases w <;> first | exact Or.inr ⟨_, rfl⟩ | cases h2
def xK (G : xG) (U : State) : Prop := va_K G.1 vwCl (xTl G) U ∧ (∀ q ∈ xNest, va_Nw (.methodLinkNest q.1 q.2.1 q.2.2.1 q.2.2.2) U) ∧ ∀ C ∈ xOver, va_AO C U
theorem xK.warm {G : xG} {s U : State} (hW : s.WarmedH U.vm) (h : xK G s) : xK G U := ⟨h.1.moved hW.alike, fun q hq => (h.2.1 q hq).warmM hW, fun C hC => (h.2.2 C hC).moved hW.alike⟩
theorem xK.same {G : xG} {u U : State} (hv : u.vm = U.vm) (h : xK G u) : xK G U := ⟨h.1.moved (by rw [hv]; exact Vm.Alike.refl _), fun q hq => (h.2.1 q hq).same rfl hv, fun C hC => (h.2.2 C hC).moved (by rw [hv]; exact Vm.Alike.refl _)⟩
theorem xlook {α : Type} {k : Nat} {v : α} : ∀ {D : List (Nat × α)}, D.lookup k = some v → (k, v) ∈ D := by
  intro D h
  induction D with
  | nil => cases h
  | cons q D ih =>
    obtain ⟨a, b⟩ := q
    rw [List.lookup_cons] at h
    by_cases c : k = a
    · subst c
      simp at h
      subst h
      exact List.mem_cons_self
    · have : (k == a) = false := by simpa using c
      rw [this] at h
      exact List.mem_cons_of_mem _ (ih h)
def xat (M : xM) (pc : Nat) : Option (Instr × Nat) := M.2.2.2.2.1.lookup pc
theorem xOK.dec {M : xM} (hM : xOK M) {pc : Nat} {i : Instr × Nat} (h : xat M pc = some i) : decode M.2.1 pc = .ok i := by
  have h1 := hM.2.2.1 (pc, i) (xlook h)
  exact h1
def xC (G : xG) (M : xM) (p : Program) (s : State) (m : MethodId) (args : Array Value) (meth : Method) (c : Code) : Prop :=
  p.tables.exec = Jvm.exec ∧ c.code = M.2.1 ∧ c.maxLocals = M.2.2.1 ∧ s.vm.findClass M.1.cls = some m.cls ∧ (∀ w ∈ xws, w.before args s = true) ∧ meth.sig.returnType = M.2.2.2.1 ∧ meth.locks = false ∧ (M.1.name = "<init>" → meth.name = "<init>") ∧ xK G s
/-- the slots by place -/
def xL (ls : Array Slot) (nL : Nat) (L : List (Option Value)) : Prop := ls.size = nL ∧ lv_wf ls ∧ ∀ (i : Nat) (v : Value), L[i]? = some (some v) → ls[i]? = some (.val v)
def xprs (L : List (Option Value)) : List (Nat × Value) := L.zipIdx.filterMap (fun q => q.1.map (fun v => (q.2, v)))
theorem xprs_mem {L : List (Option Value)} {i : Nat} {v : Value} : (i, v) ∈ xprs L ↔ L[i]? = some (some v) := by
  unfold xprs
  rw [List.mem_filterMap]
  constructor
  · rintro ⟨⟨o, j⟩, hq, he⟩
    cases o with
    | none => cases he
    | some w =>
      simp at he
      obtain ⟨rfl, rfl⟩ := he
      exact List.mem_zipIdx_iff_getElem?.mp hq
  · intro h
    exact ⟨(some v, i), List.mem_zipIdx_iff_getElem?.mpr h, rfl⟩
theorem xL.has {ls : Array Slot} {nL : Nat} {L : List (Option Value)} (h : xL ls nL L) : lv_has ls nL (xprs L) := ⟨h.1, h.2.1, fun q hq => h.2.2 q.1 q.2 (xprs_mem.mp hq)⟩
def xkill (o : Option Value) : Option Value := match o with
  | some (.long _) => none
  | some (.double _) => none
  | o => o
theorem xkill_some {o : Option Value} {v : Value} (h : xkill o = some v) : o = some v ∧ v.category ≠ 2 := by
  cases o with
  | none => cases h
  | some w => cases w <;> simp [xkill] at h <;> subst h <;> simp [Value.category]
/-- storing a value of one slot, of two -/
def xst1 : List (Option Value) → Nat → Value → List (Option Value)
  | [], _, _ => []
  | _ :: t, 0, v => some v :: t
  | o :: t, 1, v => xkill o :: xst1 t 0 v
  | o :: t, i + 2, v => o :: xst1 t (i + 1) v
def xst2 : List (Option Value) → Nat → Value → List (Option Value)
  | [], _, _ => []
  | _ :: t, 0, v => some v :: t.set 0 none
  | o :: t, 1, v => xkill o :: xst2 t 0 v
  | o :: t, i + 2, v => o :: xst2 t (i + 1) v
theorem xst1_at : ∀ (L : List (Option Value)) (i : Nat) (v : Value) (j : Nat) (w : Value), (xst1 L i v)[j]? = some (some w) → (j = i ∧ w = v) ∨ (j ≠ i ∧ L[j]? = some (some w) ∧ (j + 1 = i → w.category ≠ 2))
  | [], _, _, j, w, h => by simp [xst1] at h
  | o :: t, 0, v, j, w, h => by
    cases j with
    | zero => simp [xst1] at h; exact Or.inl ⟨rfl, h.symm⟩
    | succ j => simp [xst1] at h; exact Or.inr ⟨by omega, by simpa using h, by omega⟩
  | o :: t, 1, v, j, w, h => by
    cases j with
    | zero =>
      simp [xst1] at h
      obtain ⟨h1, h2⟩ := xkill_some h
      exact Or.inr ⟨by omega, by simp [h1], fun _ => h2⟩
    | succ j =>
      simp only [xst1, List.getElem?_cons_succ] at h
      rcases xst1_at t 0 v j w h with ⟨h1, h2⟩ | ⟨h1, h2, h3⟩
      · exact Or.inl ⟨by omega, h2⟩
      · exact Or.inr ⟨by omega, by simpa using h2, fun e => h3 (by omega)⟩
  | o :: t, i + 2, v, j, w, h => by
    cases j with
    | zero => simp [xst1] at h; exact Or.inr ⟨by omega, by simp [h], by omega⟩
    | succ j =>
      simp only [xst1, List.getElem?_cons_succ] at h
      rcases xst1_at t (i + 1) v j w h with ⟨h1, h2⟩ | ⟨h1, h2, h3⟩
      · exact Or.inl ⟨by omega, h2⟩
      · exact Or.inr ⟨by omega, by simpa using h2, fun e => h3 (by omega)⟩
theorem xst2_at : ∀ (L : List (Option Value)) (i : Nat) (v : Value) (j : Nat) (w : Value), (xst2 L i v)[j]? = some (some w) → (j = i ∧ w = v) ∨ (j ≠ i ∧ j ≠ i + 1 ∧ L[j]? = some (some w) ∧ (j + 1 = i → w.category ≠ 2))
  | [], _, _, j, w, h => by simp [xst2] at h
  | o :: t, 0, v, j, w, h => by
    cases j with
    | zero => simp [xst2] at h; exact Or.inl ⟨rfl, h.symm⟩
    | succ j =>
      simp only [xst2, List.getElem?_cons_succ] at h
      by_cases c : j = 0
      · subst c
        rw [List.getElem?_set_self'] at h
        cases ht : t[0]? <;> simp [ht] at h
      · rw [List.getElem?_set_ne (by omega)] at h
        exact Or.inr ⟨by omega, by omega, by simpa using h, by omega⟩
  | o :: t, 1, v, j, w, h => by
    cases j with
    | zero =>
      simp [xst2] at h
      obtain ⟨h1, h2⟩ := xkill_some h
      exact Or.inr ⟨by omega, by omega, by simp [h1], fun _ => h2⟩
    | succ j =>
      simp only [xst2, List.getElem?_cons_succ] at h
      rcases xst2_at t 0 v j w h with ⟨h1, h2⟩ | ⟨h1, h2, h3, h4⟩
      · exact Or.inl ⟨by omega, h2⟩
      · exact Or.inr ⟨by omega, by omega, by simpa using h3, fun e => h4 (by omega)⟩
  | o :: t, i + 2, v, j, w, h => by
    cases j with
    | zero => simp [xst2] at h; exact Or.inr ⟨by omega, by omega, by simp [h], by omega⟩
    | succ j =>
      simp only [xst2, List.getElem?_cons_succ] at h
      rcases xst2_at t (i + 1) v j w h with ⟨h1, h2⟩ | ⟨h1, h2, h3, h4⟩
      · exact Or.inl ⟨by omega, h2⟩
      · exact Or.inr ⟨by omega, by omega, by simpa using h3, fun e => h4 (by omega)⟩
theorem xL.st1 {ls : Array Slot} {nL : Nat} {L : List (Option Value)} (h : xL ls nL L) {i : Nat} {v : Value} {lv : List (Nat × Value)} {ls' : Array Slot} (he : lv = (i, v) :: (xprs L).filter (fun q => !(q.1 == i) && !(q.1 + 1 == i && q.2.category == 2))) (h' : lv_has ls' nL lv) : xL ls' nL (xst1 L i v) := by
  subst he
  refine ⟨h'.1, h'.2.1, fun j w hj => ?_⟩
  rcases xst1_at L i v j w hj with ⟨rfl, rfl⟩ | ⟨h1, h2, h3⟩
  · exact h'.2.2 _ List.mem_cons_self
  · refine h'.2.2 (j, w) (List.mem_cons_of_mem _ (List.mem_filter.mpr ⟨xprs_mem.mpr h2, ?_⟩))
    by_cases c : j + 1 = i
    · simp [h1, h3 c]
    · simp [h1, c]
theorem xL.st2 {ls : Array Slot} {nL : Nat} {L : List (Option Value)} (h : xL ls nL L) {i : Nat} {v : Value} {lv : List (Nat × Value)} {ls' : Array Slot} (he : lv = (i, v) :: (xprs L).filter (fun q => !(q.1 == i) && (!(q.1 == i + 1) && !(q.1 + 1 == i && q.2.category == 2)))) (h' : lv_has ls' nL lv) : xL ls' nL (xst2 L i v) := by
  subst he
  refine ⟨h'.1, h'.2.1, fun j w hj => ?_⟩
  rcases xst2_at L i v j w hj with ⟨rfl, rfl⟩ | ⟨h1, h2, h3, h4⟩
  · exact h'.2.2 _ List.mem_cons_self
  · refine h'.2.2 (j, w) (List.mem_cons_of_mem _ (List.mem_filter.mpr ⟨xprs_mem.mpr h3, ?_⟩))
    by_cases c : j + 1 = i
    · simp [h1, h2, h4 c]
    · simp [h1, h2, c]
