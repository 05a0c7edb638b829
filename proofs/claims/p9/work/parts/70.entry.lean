/-! THE CLAIM OUT OF ONE WALK OF THE LAW'S BODY (the skeleton's words); then the layer's entry -/
def R_law : String := "BoxStageLaw"
def lw_P (b : Addr) (xs : List Int32) (args : Array Value) (s : State) : Prop := args = #[.ref b] ∧ s.IntsAt b xs ∧ xs.length ≤ 4096 ∧ (Jvm.Cond.and given_1 narrow_1).before args s = true
def lw_Q (_ : Array Value) (s : State) (o : Outcome) (t : State) : Prop := o = .returned (some (.int 1)) ∧ Framed s o t [] 600000 7302250
def lw_Z (below : List Frame) (a : Array Value) (s : State) : State → Prop := fun t => ∃ o, t.status = .running ∧ Ended t below o ∧ lw_Q a s o t
/-- the law's own end, with 1 on the stack, nothing written that was there before, its room as the claim has it -/
theorem lw_ret {p : Program} {l : Launch} {e : Env} {s : State} {m : MethodId} {below : List Frame} {meth : Method} {c : Code} {b : Nat} (hx : p.tables.exec = Jvm.exec) (hb : c.code = code) (hr : meth.sig.returnType = ret) (hlocks : meth.locks = false) {pc : Nat} {H : Heap} {ls : Array Slot} (hdg : decode code pc = .ok (.ireturn, 1)) : W p l e room_1 s m #[Value.ref b] below meth c H [] 600000 7302250 (lw_Z below #[Value.ref b] s) (F0 m pc ls [.int 1]) := by
  intro T hT X
  obtain ⟨fs, hret, hrun, hended, hW, hframe⟩ := X.leave (v := some (.int 1)) (hlocks := hlocks) (fun h => by rw [hr] at h; cases h)
  have hmeth' : T.vm.method? m = some meth := X.method'
  refine ⟨T.setFrames fs, ?_, .returned (some (.int 1)), hrun, hended, rfl, ⟨_, rfl⟩, hW, hframe⟩
  jvm_step X.here [X.here.top, hx, hb, hdg, hmeth', hr, ret, narrow_b1]
  (try refine ⟨rfl, ?_⟩); (try refine ⟨rfl, ?_⟩)
  first | (intro acts; rw [hret _ acts rfl rfl rfl]) | rw [hret _ _ rfl rfl rfl]
  exact Steps.refl _
/-- what holds at the law's entry: the machine, the code, the tables' words (any of lw_tbl by 'hts w (by decide +kernel)'), the script of L ints xs at the cell b, what the Statement gives of the start (any of its parts by flat_of_before) -/
def lw_At (p : Program) (s : State) (m : MethodId) (meth : Method) (c : Code) (b L : Nat) (xs : Nat → Int32) : Prop :=
  p.tables.exec = Jvm.exec ∧ c.code = code ∧ meth.sig.returnType = ret ∧ c.maxLocals = 4 ∧ s.vm.findClass R_law = some m.cls ∧ (∀ w ∈ lw_tbl, w.before #[Value.ref b] s = true) ∧ va_X b L xs s s.heap ∧ b < s.heap.size ∧ meth.locks = false ∧ (Jvm.Cond.and given_1 narrow_1).before #[Value.ref b] s = true
theorem xG_cls {args : Array Value} {s : State} (hts : ∀ w ∈ xws, w.before args s = true) : ∃ D : va_G, ∀ (c : Nat) (q : vw_C), vwCl[c]? = some q → u_Kn s q.1 q.2.1 q.2.2 (D.1 c) (D.2 c) := by
  have h : ∀ c : Nat, ∃ (cC : ClassId) (iS : Nat → Nat), ∀ q : vw_C, vwCl[c]? = some q → u_Kn s q.1 q.2.1 q.2.2 cC iS := by
    intro c
    cases hc : vwCl[c]? with
    | none => exact ⟨0, fun _ => 0, fun q hq => by cases hq⟩
    | some q =>
      obtain ⟨C, T, N⟩ := q
      obtain ⟨cC, iS, hk⟩ := u_known hts (xcl_in hc) (hts _ (xcl_new hc).1)
      exact ⟨cC, iS, fun q hq => by cases hq; exact hk⟩
  exact ⟨(fun c => Classical.choose (h c), fun c => Classical.choose (Classical.choose_spec (h c))), fun c q hq => Classical.choose_spec (Classical.choose_spec (h c)) q hq⟩
theorem xG_arr {args : Array Value} {s : State} (hts : ∀ w ∈ lw_tbl, w.before args s = true) : ∃ f : Nat → ClassId, ∀ (k : Nat) (ty : FieldType), xTys[k]? = some ty → ArrOfT s (f k) ty ∧ va_RA s (f k) ty := by
  have h : ∀ k : Nat, ∃ c : ClassId, ∀ ty : FieldType, xTys[k]? = some ty → ArrOfT s c ty ∧ va_RA s c ty := by
    intro k
    match k with
    | 0 =>
      obtain ⟨c, k, comp, h1, h2, h3⟩ := Cond.arrayClass_spec (hts (.arrayClass .int) (by decide +kernel))
      exact ⟨c, fun ty e => by cases e; exact ⟨fun N z => ⟨(fun k h => by cases h), k, h2, comp, h3⟩, h1⟩⟩
    | 1 =>
      obtain ⟨c, k, comp, h1, h2, h3⟩ := Cond.arrayClass_spec (hts (.arrayClass .boolean) (by decide +kernel))
      exact ⟨c, fun ty e => by cases e; exact ⟨fun N z => ⟨(fun k h => by cases h), k, h2, comp, h3⟩, h1⟩⟩
    | 2 =>
      obtain ⟨comp, c, k, g1, g2, g3, g4, g5⟩ := Cond.arrayOver_spec (hts (.arrayOver (.object "BoxStage$Scene")) (by decide +kernel))
      exact ⟨c, fun ty e => by cases e; exact ⟨fun N z => ⟨(fun k h => by cases h), k, g3, comp, g4⟩, ⟨k, comp, g3, g4, g1, g5⟩⟩⟩
    | 3 =>
      obtain ⟨comp, c, k, g1, g2, g3, g4, g5⟩ := Cond.arrayOver_spec (hts (.arrayOver (.object "BoxStage$Numbers")) (by decide +kernel))
      exact ⟨c, fun ty e => by cases e; exact ⟨fun N z => ⟨(fun k h => by cases h), k, g3, comp, g4⟩, ⟨k, comp, g3, g4, g1, g5⟩⟩⟩
    | k + 4 => exact ⟨0, fun ty e => by simp [xTys] at e⟩
  exact ⟨fun k => Classical.choose (h k), fun k ty e => Classical.choose_spec (h k) ty e⟩
theorem xTl_of {G : xG} {k : Nat} {q : ClassId × FieldType} (h : (xTl G)[k]? = some q) : xTys[k]? = some q.2 ∧ q.1 = G.2.1 k := by
  unfold xTl at h
  rw [List.getElem?_map, List.getElem?_zipIdx] at h
  cases hk : xTys[k]? with
  | none => rw [hk] at h; cases h
  | some ty =>
    rw [hk] at h
    simp at h
    rw [← h]
    exact ⟨rfl, rfl⟩
theorem xK_of {args : Array Value} {s : State} (hts : ∀ w ∈ lw_tbl, w.before args s = true) : ∃ G : xG, xK G s := by
  obtain ⟨D, hD⟩ := xG_cls (args := args) (s := s) (fun w hw => hts w (List.mem_filter.mp hw).1)
  obtain ⟨f, hf⟩ := xG_arr hts
  refine ⟨(D, f, fun _ _ => True), ⟨hD, fun k q hq => ?_⟩, fun q hq => ?_, fun C hC => ?_⟩
  · obtain ⟨h1, h2⟩ := xTl_of hq
    have := hf k q.2 h1
    rw [h2]
    exact this
  · have hm : Cond.methodLinkNest q.1 q.2.1 q.2.2.1 q.2.2.2 ∈ lw_tbl := by
      have : ∀ q ∈ xNest, Cond.methodLinkNest q.1 q.2.1 q.2.2.1 q.2.2.2 ∈ lw_tbl := by decide +kernel
      exact this q hq
    exact va_Nw.of rfl (hts _ hm)
  · have hm : Cond.arrayOver (.object C) ∈ lw_tbl := by
      have : ∀ C ∈ xOver, Cond.arrayOver (.object C) ∈ lw_tbl := by decide +kernel
      exact this C hC
    exact va_AO.of (hts _ hm)
set_option maxHeartbeats 1000000 in
/-- from a walk of the law over the layer to the claim's start -/
theorem law_entry {p : Program} {e : Env} {s : State} {m : MethodId} {below : List Frame} {meth : Method} {c : Code} (l : Launch) {b L : Nat} {xs : Nat → Int32} (C0 : lw_At p s m meth c b L xs)
    (k : ∀ (G : xG) (n : Nat), YW l (gS G b L xs) mL_law 8 600000 7302250 (fun v _ _ => v = some (vi 1)) 0 [some (vr b), none, none, none] [] (fun _ => none) n) : W p l e room_1 s m #[Value.ref b] below meth c s.heap [] 0 0 (lw_Z below #[Value.ref b] s) (entryFrame m ([Value.ref b] : List Value).toArray 4) := by
  obtain ⟨hx, hb, hr, hml, hown, hts, hX, hbl, hlocks, hgv⟩ := C0
  have hws : ∀ w ∈ xws, w.before #[Value.ref b] s = true := fun w hw => hts w (List.mem_filter.mp hw).1
  obtain ⟨G, hK⟩ := xK_of hts
  have hl := lv_entry ([Value.ref b]) (n := 4) (Nat.le_of_ble_eq_true rfl)
  rw [lg_entry_eq]
  have K := k G s.heap.size p e room_1 s m #[Value.ref b] below meth c s.heap [] 0 0 _ (fun q => s.heap.size ≤ q) ⟨hx, hb, hml, hown, hws, hr, hlocks, fun e => absurd e (by decide +kernel), hK⟩ ⟨rfl, fun a e h => by have h' : (none : Option xE) = some e := h; cases h'⟩ va_S.rf (fun a e h => by have h' : (none : Option xE) = some e := h; cases h') ⟨fun q h => h, hX, hbl, Nat.not_le.mpr hbl⟩ (Nat.le_of_ble_eq_true rfl) (Nat.le_of_ble_eq_true rfl) (Nat.le_of_ble_eq_true rfl) (Nat.le_of_ble_eq_true rfl) ⟨hl.1, hl.2.1, fun i v hi => hl.2.2 (i, v) (xent_at (nL := 4) hi)⟩
  intro T hT X
  obtain ⟨t, st, o, h1, h2, ⟨v, h', n', ho, ⟨u, g, hv, -, hΦ⟩, -⟩, Lc, ⟨-, hW, hsame⟩, hfree⟩ := K T hT X
  subst hΦ
  subst hv
  refine ⟨t, st, o, h1, h2, ho, ⟨_, ho⟩, hW, ?_⟩
  exact State.sameButNew.drop_fresh (L := []) (J := Lc) hsame hfree
