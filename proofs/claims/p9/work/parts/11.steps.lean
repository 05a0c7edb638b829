/-! XW: from this place of the method, with these slots, this stack and this heap, it comes to its end with Φ -/
def xQ (G : xG) (A : Nat → Prop) (Φ : Option Value → xH → Nat → Prop) : Array Value → State → Outcome → State → Prop := fun _ st o t =>
  ∃ (v : Option Value) (h' : xH) (n' : Nat), o = .returned v ∧ Φ v h' n' ∧ xRep G h' n' t.heap ∧ xIn A h' ∧ va_F A st t
def XW (l : Launch) (G : xG) (M : xM) (d kc ks : Nat) (Φ : Option Value → xH → Nat → Prop) (pc : Nat) (L : List (Option Value)) (st : List Value) (h : xH) (n : Nat) : Prop :=
  ∀ (p : Program) (e : Env) (R : Room) (s : State) (m : MethodId) (args : Array Value) (below : List Frame) (meth : Method) (c : Code) (H : Heap) (locs : List Loc) (cells slots : Nat) (ls : Array Slot) (A : Nat → Prop),
    xC G M p s m args meth c → xRep G h n H → va_S A s.heap H locs → xIn A h → xAo G s A → d ≤ R.frames → 37 * d ≤ R.locals → cells + kc ≤ R.cells → slots + ks ≤ R.slots → xL ls M.2.2.1 L →
    W p l e R s m args below meth c H locs cells slots (MQ below (xQ G A Φ) args s R.cells R.slots A) (F0 m pc ls st)
def xrm (d mc ms : Nat) : Room := { frames := d, cells := mc, slots := ms, locals := 37 * d }
def XM (l : Launch) (G : xG) (M : xM) (d mc ms : Nat) (av : List Value) (h : xH) (n : Nat) (Φ : Option Value → xH → Nat → Prop) : Prop :=
  Met l M.1 (.code M.1 M.2.1 M.2.2.1 M.2.2.2.1 :: xws) (xrm d mc ms) (va_Pc av (fun U => xRep G h n U.heap ∧ xK G U)) (xQ G (xA h n) Φ) mc ms (xA h n)
/-- the slots at a method's entry -/
def xarg : List Value → List (Option Value)
  | [] => []
  | v :: vs => match v.category with
    | 2 => some v :: none :: xarg vs
    | _ => some v :: xarg vs
def xent (av : List Value) (nL : Nat) : List (Option Value) := xarg av ++ List.replicate (nL - (xarg av).length) none
theorem xarg_at : ∀ (av : List Value) (k i : Nat) (v : Value), (xarg av)[i]? = some (some v) → (k + i, v) ∈ lv_args k av
  | [], k, i, v, h => by simp [xarg] at h
  | w :: vs, k, i, v, h => by
    unfold xarg at h
    unfold lv_args
    rcases lv_cat w with c | c
    · rw [c] at h
      rw [if_neg (by omega)]
      cases i with
      | zero => simp at h; rw [h]; exact List.mem_cons_self
      | succ i =>
        simp only [List.getElem?_cons_succ] at h
        have := xarg_at vs (k + 1) i v h
        rw [show k + (i + 1) = k + 1 + i by omega]
        exact List.mem_cons_of_mem _ this
    · rw [c] at h
      rw [if_pos c]
      match i, h with
      | 0, h => simp at h; rw [h]; exact List.mem_cons_self
      | 1, h => simp at h
      | i + 2, h =>
        simp only [List.getElem?_cons_succ] at h
        have := xarg_at vs (k + 2) i v h
        rw [show k + (i + 2) = k + 2 + i by omega]
        exact List.mem_cons_of_mem _ this
theorem xent_at {av : List Value} {nL i : Nat} {v : Value} (h : (xent av nL)[i]? = some (some v)) : (i, v) ∈ lv_args 0 av := by
  unfold xent at h
  by_cases c : i < (xarg av).length
  · rw [List.getElem?_append_left c] at h
    have := xarg_at av 0 i v h
    simpa using this
  · rw [List.getElem?_append_right (by omega), List.getElem?_replicate] at h
    split at h <;> simp at h
theorem XM.of {l : Launch} {G : xG} {M : xM} {d mc ms : Nat} {av : List Value} {h : xH} {n : Nat} {Φ : Option Value → xH → Nat → Prop} (hM : xOK M) (hn : (lg_sl av).length ≤ M.2.2.1) (hW : XW l (gT G) M d mc ms Φ 0 (xent av M.2.2.1) [] h n) : XM l G M d mc ms av h n Φ := by
  refine Met.ofW (cc := M.2.1) (maxL := M.2.2.1) (ret := M.2.2.2.1) hM.1 rfl ?_
  intro p e s m args below meth c s₁ B hml hv
  obtain ⟨rfl, hR, hK⟩ := hv
  have hts := atoms_spec (ws := Cond.code M.1 M.2.1 M.2.2.1 M.2.2.2.1 :: xws) B.pre
  have hown : s.vm.findClass M.1.cls = some m.cls := findClass_of_methodNamed B.named
  have hin : meth.name = M.1.name := (name_of_methodNamed B.named B.method).1
  have hl := lv_entry av (n := M.2.2.1) hn
  rw [lg_entry_eq]
  have hsz := hR.1
  refine hW p e (xrm d mc ms) s m av.toArray below meth c s.heap [] 0 0 _ (xA h n) ⟨B.exec, B.bytes, hml, hown, fun w hw => hts w (List.mem_cons_of_mem _ hw), B.returns, B.notSynchronized, fun e => hin.trans e, hK⟩ hR va_S.rf (fun a e ha => Or.inl ⟨e, ha⟩) ⟨fun q hq => Or.inr (by rw [← hsz]; exact hq), trivial⟩ (Nat.le_refl _) (Nat.le_refl _) (by show 0 + mc ≤ mc; omega) (by show 0 + ms ≤ ms; omega) ⟨hl.1, hl.2.1, fun i v hi => hl.2.2 (i, v) (xent_at hi)⟩
section XS
variable {l : Launch} {G : xG} {M : xM} {d kc ks : Nat} {Φ : Option Value → xH → Nat → Prop} {pc : Nat} {L : List (Option Value)} {st : List Value} {h : xH} {n : Nat}
/-- a stretch that only moves the machine's own frame -/
theorem XW.by {pc' : Nat} {L' : List (Option Value)} {st' : List Value}
    (f : ∀ (p : Program) (e : Env) (R : Room) (s : State) (m : MethodId) (args : Array Value) (below : List Frame) (meth : Method) (c : Code) (H : Heap) (locs : List Loc) (cells slots : Nat) (ls : Array Slot) (Q : State → Prop), p.tables.exec = Jvm.exec → c.code = M.2.1 → xL ls M.2.2.1 L →
      (∀ ls' : Array Slot, xL ls' M.2.2.1 L' → W p l e R s m args below meth c H locs cells slots Q (F0 m pc' ls' st')) → W p l e R s m args below meth c H locs cells slots Q (F0 m pc ls st))
    (k : XW l G M d kc ks Φ pc' L' st' h n) : XW l G M d kc ks Φ pc L st h n := by
  intro p e R s m args below meth c H locs cells slots ls A hC hR hS hI hA h1 h2 h3 h4 hL
  exact f p e R s m args below meth c H locs cells slots ls _ hC.1 hC.2.1 hL (fun ls' hL' => k p e R s m args below meth c H locs cells slots ls' A hC hR hS hI hA h1 h2 h3 h4 hL')
end XS
/-- one instruction that needs neither heap nor branch: the new slots and stack -/
def xs (i : Instr) (nL : Nat) (L : List (Option Value)) (st : List Value) : Option (List (Option Value) × List Value) :=
  match i with
  | .iconst z => some (L, .int (iI z) :: st)
  | .bipush z => if (Int8.ofInt z).toInt32 = iI z then some (L, .int (iI z) :: st) else none
  | .sipush z => if (Int16.ofInt z).toInt32 = iI z then some (L, .int (iI z) :: st) else none
  | .lconst z => some (L, .long (Int64.ofNat z) :: st)
  | .aconst_null => some (L, .null :: st)
  | .iload_n k => match L[(k : Nat)]? with | some (some (.int x)) => some (L, .int x :: st) | _ => none
  | .iload k => match L[k]? with | some (some (.int x)) => some (L, .int x :: st) | _ => none
  | .lload_n k => match L[(k : Nat)]? with | some (some (.long x)) => some (L, .long x :: st) | _ => none
  | .lload k => match L[k]? with | some (some (.long x)) => some (L, .long x :: st) | _ => none
  | .aload_n k => match L[(k : Nat)]? with | some (some (.ref x)) => some (L, .ref x :: st) | _ => none
  | .aload k => match L[k]? with | some (some (.ref x)) => some (L, .ref x :: st) | _ => none
  | .istore_n k => match st with | .int x :: st => if (k : Nat) < nL then some (xst1 L k (.int x), st) else none | _ => none
  | .istore k => match st with | .int x :: st => if k < nL then some (xst1 L k (.int x), st) else none | _ => none
  | .astore_n k => match st with | .ref x :: st => if (k : Nat) < nL then some (xst1 L k (.ref x), st) else none | _ => none
  | .astore k => match st with | .ref x :: st => if k < nL then some (xst1 L k (.ref x), st) else none | _ => none
  | .lstore_n k => match st with | .long x :: st => if (k : Nat) + 1 < nL then some (xst2 L k (.long x), st) else none | _ => none
  | .lstore k => match st with | .long x :: st => if k + 1 < nL then some (xst2 L k (.long x), st) else none | _ => none
  | .iinc k z => match L[k]? with | some (some (.int x)) => if k < nL then some (xst1 L k (.int (x + iI z)), st) else none | _ => none
  | .iadd => match st with | .int y :: .int x :: st => some (L, .int (x + y) :: st) | _ => none
  | .isub => match st with | .int y :: .int x :: st => some (L, .int (x - y) :: st) | _ => none
  | .imul => match st with | .int y :: .int x :: st => some (L, .int (x * y) :: st) | _ => none
  | .iand => match st with | .int y :: .int x :: st => some (L, .int (x &&& y) :: st) | _ => none
  | .ior => match st with | .int y :: .int x :: st => some (L, .int (x ||| y) :: st) | _ => none
  | .ixor => match st with | .int y :: .int x :: st => some (L, .int (x ^^^ y) :: st) | _ => none
  | .ishl => match st with | .int y :: .int x :: st => some (L, .int (x <<< (y &&& 31)) :: st) | _ => none
  | .ishr => match st with | .int y :: .int x :: st => some (L, .int (x >>> (y &&& 31)) :: st) | _ => none
  | .iushr => match st with | .int y :: .int x :: st => some (L, .int (x.toUInt32 >>> (y.toUInt32 &&& Int32.toUInt32 31)).toInt32 :: st) | _ => none
  | .ineg => match st with | .int x :: st => some (L, .int (-x) :: st) | _ => none
  | .i2l => match st with | .int x :: st => some (L, .long x.toInt64 :: st) | _ => none
  | .l2i => match st with | .long x :: st => some (L, .int x.toInt32 :: st) | _ => none
  | .ladd => match st with | .long y :: .long x :: st => some (L, .long (x + y) :: st) | _ => none
  | .lsub => match st with | .long y :: .long x :: st => some (L, .long (x - y) :: st) | _ => none
  | .lmul => match st with | .long y :: .long x :: st => some (L, .long (x * y) :: st) | _ => none
  | .land => match st with | .long y :: .long x :: st => some (L, .long (x &&& y) :: st) | _ => none
  | .lor => match st with | .long y :: .long x :: st => some (L, .long (x ||| y) :: st) | _ => none
  | .lxor => match st with | .long y :: .long x :: st => some (L, .long (x ^^^ y) :: st) | _ => none
  | .lneg => match st with | .long x :: st => some (L, .long (-x) :: st) | _ => none
  | .lshl => match st with | .int y :: .long x :: st => some (L, .long (x <<< (y.toInt64 &&& 63)) :: st) | _ => none
  | .lshr => match st with | .int y :: .long x :: st => some (L, .long (x >>> (y.toInt64 &&& 63)) :: st) | _ => none
  | .lushr => match st with | .int y :: .long x :: st => some (L, .long (x.toUInt64 >>> (y.toInt64.toUInt64 &&& Int64.toUInt64 63)).toInt64 :: st) | _ => none
  | .lcmp => match st with | .long y :: .long x :: st => some (L, .int (lg_cmp x y) :: st) | _ => none
  | .dup => match st with
    | .int x :: st => some (L, .int x :: .int x :: st)
    | .ref x :: st => some (L, .ref x :: .ref x :: st)
    | _ => none
  | .dup_x1 => match st with
    | .int x :: .ref y :: st => some (L, .int x :: .ref y :: .int x :: st)
    | .int x :: .int y :: st => some (L, .int x :: .int y :: .int x :: st)
    | _ => none
  | .dup_x2 => match st with
    | .int x :: .int y :: .ref z :: st => some (L, .int x :: .int y :: .ref z :: .int x :: st)
    | _ => none
  | .dup2 => match st with
    | .int x :: .ref y :: st => some (L, .int x :: .ref y :: .int x :: .ref y :: st)
    | .int x :: .int y :: st => some (L, .int x :: .int y :: .int x :: .int y :: st)
    | .long x :: st => some (L, .long x :: .long x :: st)
    | _ => none
  | .pop => match st with
    | .int _ :: st => some (L, st)
    | .ref _ :: st => some (L, st)
    | _ => none
  | _ => none
/-- its length -/
def xlen : Instr → Nat
  | .bipush _ => 2
  | .sipush _ => 3
  | .iload _ => 2
  | .lload _ => 2
  | .aload _ => 2
  | .istore _ => 2
  | .lstore _ => 2
  | .astore _ => 2
  | .iinc _ _ => 3
  | _ => 1
