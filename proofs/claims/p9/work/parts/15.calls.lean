abbrev xLk (M N : xM) (idx na : Nat) : Prop := Cond.methodLink M.1.cls idx N.1 ∈ xws ∧ Cond.initialized N.1.cls ∈ xws ∧ N.1.cls ≠ "java/lang/invoke/MethodHandle" ∧ N.1.cls ≠ "java/lang/invoke/VarHandle" ∧ (parseMethodDescriptor N.1.desc).map (fun q => q.parameters.length) = some na
abbrev xLn (M N : xM) (idx na : Nat) (host : String) : Prop := (M.1.cls, idx, N.1, host) ∈ xNest ∧ Cond.initialized N.1.cls ∈ xws ∧ N.1.cls ≠ "java/lang/invoke/MethodHandle" ∧ N.1.cls ≠ "java/lang/invoke/VarHandle" ∧ (parseMethodDescriptor N.1.desc).map (fun q => q.parameters.length) = some na
/-- the words of a call, as a program decides them -/
def xlb (M N : xM) (idx na : Nat) : Bool := xmem (.methodLink M.1.cls idx N.1) && (xmem (.initialized N.1.cls) && (decide (N.1.cls ≠ "java/lang/invoke/MethodHandle") && (decide (N.1.cls ≠ "java/lang/invoke/VarHandle") && (decide ((parseMethodDescriptor N.1.desc).map (fun q => q.parameters.length) = some na) && (decide (N.2.2.1 ≤ 18) && decide (N.1 ≠ yL_law))))))
def xlnb (M N : xM) (idx na : Nat) (host : String) : Bool := decide ((M.1.cls, idx, N.1, host) ∈ xNest) && (xmem (.initialized N.1.cls) && (decide (N.1.cls ≠ "java/lang/invoke/MethodHandle") && (decide (N.1.cls ≠ "java/lang/invoke/VarHandle") && (decide ((parseMethodDescriptor N.1.desc).map (fun q => q.parameters.length) = some na) && (decide (N.2.2.1 ≤ 18) && decide (N.1 ≠ yL_law))))))
theorem xlb_of {M N : xM} {idx na : Nat} (h : xlb M N idx na = true) : xLk M N idx na ∧ N.2.2.1 ≤ 18 ∧ N.1 ≠ yL_law := by
  unfold xlb at h
  simp only [Bool.and_eq_true] at h
  obtain ⟨h1, h2, h3, h4, h5, h6, h7⟩ := h
  exact ⟨⟨xmem_of h1, xmem_of h2, of_decide_eq_true h3, of_decide_eq_true h4, of_decide_eq_true h5⟩, of_decide_eq_true h6, of_decide_eq_true h7⟩
theorem xlnb_of {M N : xM} {idx na : Nat} {host : String} (h : xlnb M N idx na host = true) : xLn M N idx na host ∧ N.2.2.1 ≤ 18 ∧ N.1 ≠ yL_law := by
  unfold xlnb at h
  simp only [Bool.and_eq_true] at h
  obtain ⟨h1, h2, h3, h4, h5, h6, h7⟩ := h
  exact ⟨⟨of_decide_eq_true h1, xmem_of h2, of_decide_eq_true h3, of_decide_eq_true h4, of_decide_eq_true h5⟩, of_decide_eq_true h6, of_decide_eq_true h7⟩
section XCL
variable {l : Launch} {G : xG} {M : xM} {d kc ks : Nat} {Φ Ψ : Option Value → xH → Nat → Prop} {h : xH} {n : Nat} {pc : Nat} {L : List (Option Value)} {st rest : List Value}
variable {p : Program} {e : Env} {R : Room} {s : State} {m : MethodId} {args : Array Value} {below : List Frame} {meth : Method} {c : Code} {H : Heap} {locs : List Loc} {cells slots : Nat} {ls : Array Slot} {A : Nat → Prop}
/-- behind a call -/
theorem x_back {a : Array Value} {st0 : List Value} {mc ms : Nat} (hr : va_Run p l e R s m args below meth c H locs cells slots mc ms (F0 m pc ls st0) rest (xQ G (xA h n) Ψ a) (xA h n)) (hC : xC G M p s m args meth c) (hR : xRep G h n H) (hS : va_S A s.heap H locs) (hI : xIn A h) (hA : xAo G s A) (h1 : d ≤ R.frames) (h2 : 37 * d ≤ R.locals) (h3 : cells + kc ≤ R.cells) (h4 : slots + ks ≤ R.slots) (hL : xL ls M.2.2.1 L) (hkc : mc ≤ kc) (hks : ms ≤ ks)
    (k : ∀ (v : Option Value) (h' : xH) (n' : Nat), Ψ v h' n' → XW l G M d (kc - mc) (ks - ms) Φ (pc + 3) L (v.toList ++ rest) h' n') : W p l e R s m args below meth c H locs cells slots (MQ below (xQ G A Φ) args s R.cells R.slots A) (F0 m pc ls st0) := by
  have sub : ∀ q, xA h n q → A q := by
    intro q hq
    rcases hq with ⟨e', hq⟩ | hq
    · exact hI q e' hq
    · exact hA.1 q (Nat.le_trans hS.1 (by rw [hR.1]; exact hq))
  intro T hT X
  obtain ⟨v, st₀, t, T', L', g0, X', hL', e1, e2, ⟨v', h', n', hv, hΨ, hR', hI', hF⟩, stp⟩ := hr T hT X
  cases hv
  unfold va_F at hF
  rw [g0] at hF
  obtain ⟨t2, a1, b1⟩ := k v h' n' hΨ p e R s m args below meth c T'.heap (locs ++ L') (cells + mc) (slots + ms) ls A hC (by rw [e1]; exact hR')
    ⟨Nat.le_trans hS.1 (by rw [e1]; exact hF.1), fun q g1 g2 => by rw [e1, hF.2 q (Nat.lt_of_lt_of_le g1 hS.1) (fun z => g2 (sub q z))]; exact hS.2.1 q g1 g2, fun q hq => by
      rcases List.mem_append.mp hq with g | g
      · exact hS.2.2 q g
      · exact sub _ (hL' q g)⟩ (fun a e' ha => sub a (hI' a e' ha)) hA h1 h2 (by omega) (by omega) hL T' rfl X'
  exact ⟨t2, stp t2 a1, b1⟩
theorem x_words {N : xM} (hN : xOK N) (hne : N.1 ≠ yL_law) (hts : ∀ w ∈ xws, w.before args s = true) : ∀ w ∈ (Cond.code N.1 N.2.1 N.2.2.1 N.2.2.2.1 :: xws), ∀ (a' : Array Value) (U : State), s.WarmedH U.vm → w.before a' U = true := by
  intro w hw a' U hW
  have hm : w ∈ xws := by
    rcases List.mem_cons.mp hw with rfl | q
    · exact hN.2.1.resolve_left hne
    · exact q
  exact word_at hW (xgood_of hm) (hts w hm)
theorem x_callB {N : xM} (hN : xOK N) {idx na d' mc ms : Nat} (hts : ∀ w ∈ xws, w.before args s = true) (hl : xLk M N idx na) (hd' : d' + 1 ≤ d) (hnl : N.2.2.1 ≤ 18 ∧ N.1 ≠ yL_law) (h1 : d ≤ R.frames) (h2 : 37 * d ≤ R.locals) : CallB R s args M.1.cls idx N.1 N.2.1 N.2.2.1 N.2.2.2.1 (Cond.code N.1 N.2.1 N.2.2.1 N.2.2.2.1 :: xws) (xrm d' mc ms) mc ms na := by
  obtain ⟨hnl, hne⟩ := hnl
  refine ⟨rfl, rfl, by show d' + 1 ≤ _; omega, by show 8 + (N.2.2.1 + 11) + 37 * d' ≤ _; omega, x_words hN hne hts, List.mem_cons_self, hts _ (hN.2.1.resolve_left hne), hts _ hl.2.1, ⟨hl.2.2.1, hl.2.2.2.1⟩, fun sig hsig => ?_, hts _ hl.1⟩
  have h5 := hl.2.2.2.2
  rw [hsig] at h5
  exact (Option.some.inj h5).symm
theorem x_callN {N : xM} (hN : xOK N) {idx na d' mc ms : Nat} {host : String} (hts : ∀ w ∈ xws, w.before args s = true) (hK : xK G s) (hl : xLn M N idx na host) (hd' : d' + 1 ≤ d) (hnl : N.2.2.1 ≤ 18 ∧ N.1 ≠ yL_law) (h1 : d ≤ R.frames) (h2 : 37 * d ≤ R.locals) : va_CN R s args M.1.cls idx N.1 host N.2.1 N.2.2.1 N.2.2.2.1 (Cond.code N.1 N.2.1 N.2.2.1 N.2.2.2.1 :: xws) (xrm d' mc ms) mc ms na := by
  obtain ⟨hnl, hne⟩ := hnl
  refine ⟨⟨rfl, rfl, by show d' + 1 ≤ _; omega, by show 8 + (N.2.2.1 + 11) + 37 * d' ≤ _; omega, x_words hN hne hts, List.mem_cons_self⟩, hts _ (hN.2.1.resolve_left hne), hts _ hl.2.1, ⟨hl.2.2.1, hl.2.2.2.1⟩, fun sig hsig => ?_, va_Nw.use rfl (hK.2.1 _ hl.1)⟩
  have h5 := hl.2.2.2.2
  rw [hsig] at h5
  exact (Option.some.inj h5).symm
theorem x_blind {av : List Value} : FrameBlind (va_Pc av (fun U => xRep G h n U.heap ∧ xK G U)) := fun _ U g mk q => ⟨q.1, q.2.1, q.2.2.same (u := U) (U := U.calling g mk _) rfl⟩
theorem x_preS {av : List Value} (hR : xRep G h n H) (hK : xK G s) : PreS s H (va_Pc av (fun U => xRep G h n U.heap ∧ xK G U)) av := ⟨x_blind, fun U hU hW => ⟨rfl, by rw [hU]; exact hR, hK.warm hW⟩⟩
theorem x_preV {b : Nat} {As : List Value} {ci : Nat} {fs : List Value} {q : vw_C} (hR : xRep G h n H) (hK : xK G s) (hb : h b = some (.inr (ci, fs))) (hc : vwCl[ci]? = some q) : PreV s H q.1 b (va_Pc (.ref b :: As) (fun U => xRep G h n U.heap ∧ xK G U)) As :=
  ⟨x_blind, va_recv hK.1 (xone hR hb) (ci := ci) (q0 := 0) hc rfl, fun U hU hW => ⟨rfl, by rw [hU]; exact hR, hK.warm hW⟩⟩
theorem x_callS (hM : xOK M) {N : xM} (hN : xOK N) {idx d' mc ms : Nat} {av : List Value} (hd : xat M pc = some (.invokestatic idx, 3)) (hl : xLk M N idx av.length) (hsw : Cond.static N.1 ∈ xws) (hX : XM l G N d' mc ms av h n Ψ) (hst : st = av.reverse ++ rest) (hd' : d' + 1 ≤ d) (hnl : N.2.2.1 ≤ 18 ∧ N.1 ≠ yL_law) (hkc : mc ≤ kc) (hks : ms ≤ ks) (hrest : (rest.map fun v => v.category).sum ≤ 8)
    (k : ∀ (v : Option Value) (h' : xH) (n' : Nat), Ψ v h' n' → XW l G M d (kc - mc) (ks - ms) Φ (pc + 3) L (v.toList ++ rest) h' n') : XW l G M d kc ks Φ pc L st h n := by
  intro p e R s m args below meth c H locs cells slots ls A hC hR hS hI hA h1 h2 h3 h4 hL
  exact x_back (va_runS (Ts := xws) ⟨hC.1, hC.2.1, hC.2.2.1, hC.2.2.2.1, hC.2.2.2.2.1⟩ hX ⟨x_callB hN hC.2.2.2.2.1 hl hd' hnl h1 h2, hC.2.2.2.2.1 _ hsw⟩ (x_preS hR hC.2.2.2.2.2.2.2.2) rfl rfl hL.1 hst (lv_room hrest) (hM.dec hd) ⟨by omega, by omega⟩) hC hR hS hI hA h1 h2 h3 h4 hL hkc hks k
theorem x_callSn (hM : xOK M) {N : xM} (hN : xOK N) {idx d' mc ms : Nat} {host : String} {av : List Value} (hd : xat M pc = some (.invokestatic idx, 3)) (hl : xLn M N idx av.length host) (hsw : Cond.static N.1 ∈ xws) (hX : XM l G N d' mc ms av h n Ψ) (hst : st = av.reverse ++ rest) (hd' : d' + 1 ≤ d) (hnl : N.2.2.1 ≤ 18 ∧ N.1 ≠ yL_law) (hkc : mc ≤ kc) (hks : ms ≤ ks) (hrest : (rest.map fun v => v.category).sum ≤ 8)
    (k : ∀ (v : Option Value) (h' : xH) (n' : Nat), Ψ v h' n' → XW l G M d (kc - mc) (ks - ms) Φ (pc + 3) L (v.toList ++ rest) h' n') : XW l G M d kc ks Φ pc L st h n := by
  intro p e R s m args below meth c H locs cells slots ls A hC hR hS hI hA h1 h2 h3 h4 hL
  exact x_back (va_runSN (Ts := xws) ⟨hC.1, hC.2.1, hC.2.2.1, hC.2.2.2.1, hC.2.2.2.2.1⟩ hX ⟨x_callN hN hC.2.2.2.2.1 hC.2.2.2.2.2.2.2.2 hl hd' hnl h1 h2, hC.2.2.2.2.1 _ hsw, trivial⟩ (x_preS hR hC.2.2.2.2.2.2.2.2) rfl rfl hL.1 hst (lv_room hrest) (hM.dec hd) ⟨by omega, by omega⟩) hC hR hS hI hA h1 h2 h3 h4 hL hkc hks k
theorem x_callV (hM : xOK M) {N : xM} (hN : xOK N) {idx d' mc ms b ci : Nat} {As fs : List Value} {q : vw_C} (hd : xat M pc = some (.invokevirtual idx, 3)) (hb : h b = some (.inr (ci, fs))) (hc : vwCl[ci]? = some q) (hl : xLk M N idx As.length) (hiw : Cond.instanceMethod N.1 ∈ xws) (hsw : Cond.selects q.1 N.1 N.1 ∈ xws) (hX : XM l G N d' mc ms (.ref b :: As) h n Ψ) (hst : st = As.reverse ++ .ref b :: rest) (hd' : d' + 1 ≤ d) (hnl : N.2.2.1 ≤ 18 ∧ N.1 ≠ yL_law) (hkc : mc ≤ kc) (hks : ms ≤ ks) (hrest : (rest.map fun v => v.category).sum ≤ 8)
    (k : ∀ (v : Option Value) (h' : xH) (n' : Nat), Ψ v h' n' → XW l G M d (kc - mc) (ks - ms) Φ (pc + 3) L (v.toList ++ rest) h' n') : XW l G M d kc ks Φ pc L st h n := by
  intro p e R s m args below meth c H locs cells slots ls A hC hR hS hI hA h1 h2 h3 h4 hL
  exact x_back (va_runV (Ts := xws) ⟨hC.1, hC.2.1, hC.2.2.1, hC.2.2.2.1, hC.2.2.2.2.1⟩ hX ⟨x_callB hN hC.2.2.2.2.1 hl hd' hnl h1 h2, hC.2.2.2.2.1 _ hiw, hC.2.2.2.2.1 _ hsw⟩ (x_preV hR hC.2.2.2.2.2.2.2.2 hb hc) rfl rfl hL.1 hst (lv_room hrest) (hM.dec hd) ⟨by omega, by omega⟩) hC hR hS hI hA h1 h2 h3 h4 hL hkc hks k
theorem x_callVn (hM : xOK M) {N : xM} (hN : xOK N) {idx d' mc ms b ci : Nat} {host : String} {As fs : List Value} {q : vw_C} (hd : xat M pc = some (.invokevirtual idx, 3)) (hb : h b = some (.inr (ci, fs))) (hc : vwCl[ci]? = some q) (hl : xLn M N idx As.length host) (hiw : Cond.instanceMethod N.1 ∈ xws) (hsw : Cond.selects q.1 N.1 N.1 ∈ xws) (hX : XM l G N d' mc ms (.ref b :: As) h n Ψ) (hst : st = As.reverse ++ .ref b :: rest) (hd' : d' + 1 ≤ d) (hnl : N.2.2.1 ≤ 18 ∧ N.1 ≠ yL_law) (hkc : mc ≤ kc) (hks : ms ≤ ks) (hrest : (rest.map fun v => v.category).sum ≤ 8)
    (k : ∀ (v : Option Value) (h' : xH) (n' : Nat), Ψ v h' n' → XW l G M d (kc - mc) (ks - ms) Φ (pc + 3) L (v.toList ++ rest) h' n') : XW l G M d kc ks Φ pc L st h n := by
  intro p e R s m args below meth c H locs cells slots ls A hC hR hS hI hA h1 h2 h3 h4 hL
  exact x_back (va_runVN (Ts := xws) ⟨hC.1, hC.2.1, hC.2.2.1, hC.2.2.2.1, hC.2.2.2.2.1⟩ hX ⟨x_callN hN hC.2.2.2.2.1 hC.2.2.2.2.2.2.2.2 hl hd' hnl h1 h2, hC.2.2.2.2.1 _ hiw, hC.2.2.2.2.1 _ hsw⟩ (x_preV hR hC.2.2.2.2.2.2.2.2 hb hc) rfl rfl hL.1 hst (lv_room hrest) (hM.dec hd) ⟨by omega, by omega⟩) hC hR hS hI hA h1 h2 h3 h4 hL hkc hks k
theorem x_callI (hM : xOK M) {N : xM} (hN : xOK N) {idx d' mc ms b : Nat} {As : List Value} (hd : xat M pc = some (.invokespecial idx, 3)) (hl : xLk M N idx As.length) (hiw : Cond.instanceMethod N.1 ∈ xws) (hni : N.1.name = "<init>") (hret : N.2.2.2.1 = none) (hX : XM l G N d' mc ms (.ref b :: As) h n Ψ) (hst : st = As.reverse ++ .ref b :: rest) (hd' : d' + 1 ≤ d) (hnl : N.2.2.1 ≤ 18 ∧ N.1 ≠ yL_law) (hkc : mc ≤ kc) (hks : ms ≤ ks) (hrest : (rest.map fun v => v.category).sum ≤ 8)
    (k : ∀ (v : Option Value) (h' : xH) (n' : Nat), Ψ v h' n' → XW l G M d (kc - mc) (ks - ms) Φ (pc + 3) L (v.toList ++ rest) h' n') : XW l G M d kc ks Φ pc L st h n := by
  intro p e R s m args below meth c H locs cells slots ls A hC hR hS hI hA h1 h2 h3 h4 hL
  have hB : CallB R s args M.1.cls idx N.1 N.2.1 N.2.2.1 none (Cond.code N.1 N.2.1 N.2.2.1 N.2.2.2.1 :: xws) (xrm d' mc ms) mc ms As.length := by
    have := x_callB (R := R) (mc := mc) (ms := ms) hN hC.2.2.2.2.1 hl hd' hnl h1 h2
    rw [← hret]
    exact this
  exact x_back (va_runI (Ts := xws) ⟨hC.1, hC.2.1, hC.2.2.1, hC.2.2.2.1, hC.2.2.2.2.1⟩ hX ⟨hB, hni, hC.2.2.2.2.1 _ hiw⟩ (x_preS hR hC.2.2.2.2.2.2.2.2) rfl rfl hL.1 hst (lv_room hrest) (hM.dec hd) ⟨by omega, by omega⟩) hC hR hS hI hA h1 h2 h3 h4 hL hkc hks k
theorem x_obj (hM : xOK M) {idx a : Nat} (hd : xat M pc = some (.invokespecial idx, 3)) (hw : Cond.methodLink M.1.cls idx Lib.objectInit ∈ xws) (hw2 : Cond.instanceMethod Lib.objectInit ∈ xws) (hw3 : Cond.code Lib.objectInit ⟨#[0xb1]⟩ 1 none ∈ xws) (hd1 : 1 ≤ d) (hrest : (st.map fun v => v.category).sum ≤ 8) (k : XW l G M d kc ks Φ (pc + 3) L st h n) : XW l G M d kc ks Φ pc L (.ref a :: st) h n := by
  intro p e R s m args below meth c H locs cells slots ls A hC hR hS hI hA h1 h2 h3 h4 hL
  exact W.objInit hC.1 hC.2.1 hC.2.2.2.1 (hC.2.2.2.2.1 _ hw) (hC.2.2.2.2.1 _ hw2) (hC.2.2.2.2.1 _ hw3) rfl (by rw [hC.2.2.1]; exact hL.1) rfl (hM.dec hd) (by omega) (by show 2 * 0 + _ + 12 ≤ _; omega) (k p e R s m args below meth c H locs cells slots ls A hC hR hS hI hA h1 h2 h3 h4 hL)
theorem x_max (hM : xOK M) {idx : Nat} {x y : Int32} (hd : xat M pc = some (.invokestatic idx, 3)) (hw : Cond.methodLink M.1.cls idx Lib.Math.max.name ∈ xws) (hw2 : Cond.static Lib.Math.max.name ∈ xws) (hw3 : Cond.initialized "java/lang/Math" ∈ xws) (hw4 : Cond.code Lib.Math.max.name Lib.Math.max.code 2 (some .int) ∈ xws) (hd1 : 1 ≤ d) (hrest : (st.map fun v => v.category).sum ≤ 8) (k : XW l G M d kc ks Φ (pc + 3) L (.int (if x < y then y else x) :: st) h n) : XW l G M d kc ks Φ pc L (.int y :: .int x :: st) h n := by
  intro p e R s m args below meth c H locs cells slots ls A hC hR hS hI hA h1 h2 h3 h4 hL
  exact va_mmax hC.1 hC.2.1 (by rw [hC.2.2.1]; exact hL.1.symm) hC.2.2.2.1 (hC.2.2.2.2.1 _ hw) (hC.2.2.2.2.1 _ hw2) (hC.2.2.2.2.1 _ hw3) (hC.2.2.2.2.1 _ hw4) (by omega) (by omega) (by omega) (by omega) (hM.dec hd) (k p e R s m args below meth c H locs cells slots ls A hC hR hS hI hA h1 h2 h3 h4 hL)
theorem x_min (hM : xOK M) {idx : Nat} {x y : Int32} (hd : xat M pc = some (.invokestatic idx, 3)) (hw : Cond.methodLink M.1.cls idx Lib.Math.min.name ∈ xws) (hw2 : Cond.static Lib.Math.min.name ∈ xws) (hw3 : Cond.initialized "java/lang/Math" ∈ xws) (hw4 : Cond.code Lib.Math.min.name Lib.Math.min.code 2 (some .int) ∈ xws) (hd1 : 1 ≤ d) (hrest : (st.map fun v => v.category).sum ≤ 8) (k : XW l G M d kc ks Φ (pc + 3) L (.int (if y < x then y else x) :: st) h n) : XW l G M d kc ks Φ pc L (.int y :: .int x :: st) h n := by
  intro p e R s m args below meth c H locs cells slots ls A hC hR hS hI hA h1 h2 h3 h4 hL
  exact va_mmin hC.1 hC.2.1 (by rw [hC.2.2.1]; exact hL.1.symm) hC.2.2.2.1 (hC.2.2.2.2.1 _ hw) (hC.2.2.2.2.1 _ hw2) (hC.2.2.2.2.1 _ hw3) (hC.2.2.2.2.1 _ hw4) (by omega) (by omega) (by omega) (by omega) (hM.dec hd) (k p e R s m args below meth c H locs cells slots ls A hC hR hS hI hA h1 h2 h3 h4 hL)
theorem x_cs (hM : xOK M) {N : xM} (hN : xOK N) (na : Nat) {idx d' mc ms : Nat} {av : List Value} (hd : xat M pc = some (.invokestatic idx, 3)) (hl : (xlb M N idx na && xmem (.static N.1)) = true) (hX : XM l G N d' mc ms av h n Ψ) (hst : st = av.reverse ++ rest) (hna : av.length = na)
    (k : ∀ (v : Option Value) (h' : xH) (n' : Nat), Ψ v h' n' → XW l G M d (kc - mc) (ks - ms) Φ (pc + 3) L (v.toList ++ rest) h' n') (hd' : d' + 1 ≤ d := by omega) (hkc : mc ≤ kc := by omega) (hks : ms ≤ ks := by omega) (hrest : (rest.map fun v => v.category).sum ≤ 8 := by exact Nat.le_of_ble_eq_true rfl) : XW l G M d kc ks Φ pc L st h n := by
  subst hna
  rw [Bool.and_eq_true] at hl
  exact x_callS hM hN hd (xlb_of hl.1).1 (xmem_of hl.2) hX hst hd' (xlb_of hl.1).2 hkc hks hrest k
theorem x_csn (hM : xOK M) {N : xM} (hN : xOK N) (host : String) (na : Nat) {idx d' mc ms : Nat} {av : List Value} (hd : xat M pc = some (.invokestatic idx, 3)) (hl : (xlnb M N idx na host && xmem (.static N.1)) = true) (hX : XM l G N d' mc ms av h n Ψ) (hst : st = av.reverse ++ rest) (hna : av.length = na)
    (k : ∀ (v : Option Value) (h' : xH) (n' : Nat), Ψ v h' n' → XW l G M d (kc - mc) (ks - ms) Φ (pc + 3) L (v.toList ++ rest) h' n') (hd' : d' + 1 ≤ d := by omega) (hkc : mc ≤ kc := by omega) (hks : ms ≤ ks := by omega) (hrest : (rest.map fun v => v.category).sum ≤ 8 := by exact Nat.le_of_ble_eq_true rfl) : XW l G M d kc ks Φ pc L st h n := by
  subst hna
  rw [Bool.and_eq_true] at hl
  exact x_callSn hM hN hd (xlnb_of hl.1).1 (xmem_of hl.2) hX hst hd' (xlnb_of hl.1).2 hkc hks hrest k
theorem x_cv (hM : xOK M) {N : xM} (hN : xOK N) (na : Nat) {idx d' mc ms b ci : Nat} {As fs : List Value} (hd : xat M pc = some (.invokevirtual idx, 3)) (hb : h b = some (.inr (ci, fs))) (hl : (xlb M N idx na && (xmem (.instanceMethod N.1) && (match vwCl[ci]? with | some r => xmem (.selects r.1 N.1 N.1) | none => false))) = true) (hX : XM l G N d' mc ms (.ref b :: As) h n Ψ) (hst : st = As.reverse ++ .ref b :: rest) (hna : As.length = na)
    (k : ∀ (v : Option Value) (h' : xH) (n' : Nat), Ψ v h' n' → XW l G M d (kc - mc) (ks - ms) Φ (pc + 3) L (v.toList ++ rest) h' n') (hd' : d' + 1 ≤ d := by omega) (hkc : mc ≤ kc := by omega) (hks : ms ≤ ks := by omega) (hrest : (rest.map fun v => v.category).sum ≤ 8 := by exact Nat.le_of_ble_eq_true rfl) : XW l G M d kc ks Φ pc L st h n := by
  subst hna
  rw [Bool.and_eq_true, Bool.and_eq_true] at hl
  obtain ⟨h1, h2, h3⟩ := hl
  cases hc : vwCl[ci]? with
  | none => rw [hc] at h3; cases h3
  | some q =>
    rw [hc] at h3
    exact x_callV hM hN hd hb hc (xlb_of h1).1 (xmem_of h2) (xmem_of h3) hX hst hd' (xlb_of h1).2 hkc hks hrest k
theorem x_ci (hM : xOK M) {N : xM} (hN : xOK N) (na : Nat) {idx d' mc ms b : Nat} {As : List Value} (hd : xat M pc = some (.invokespecial idx, 3)) (hl : (xlb M N idx na && (xmem (.instanceMethod N.1) && (decide (N.1.name = "<init>") && decide (N.2.2.2.1 = none)))) = true) (hX : XM l G N d' mc ms (.ref b :: As) h n Ψ) (hst : st = As.reverse ++ .ref b :: rest) (hna : As.length = na)
    (k : ∀ (v : Option Value) (h' : xH) (n' : Nat), Ψ v h' n' → XW l G M d (kc - mc) (ks - ms) Φ (pc + 3) L (v.toList ++ rest) h' n') (hd' : d' + 1 ≤ d := by omega) (hkc : mc ≤ kc := by omega) (hks : ms ≤ ks := by omega) (hrest : (rest.map fun v => v.category).sum ≤ 8 := by exact Nat.le_of_ble_eq_true rfl) : XW l G M d kc ks Φ pc L st h n := by
  subst hna
  rw [Bool.and_eq_true, Bool.and_eq_true, Bool.and_eq_true] at hl
  obtain ⟨h1, h2, h3, h4⟩ := hl
  exact x_callI hM hN hd (xlb_of h1).1 (xmem_of h2) (of_decide_eq_true h3) (of_decide_eq_true h4) hX hst hd' (xlb_of h1).2 hkc hks hrest k
theorem x_ob (hM : xOK M) {idx a : Nat} (hd : xat M pc = some (.invokespecial idx, 3)) (hl : (xmem (.methodLink M.1.cls idx Lib.objectInit) && (xmem (.instanceMethod Lib.objectInit) && xmem (.code Lib.objectInit ⟨#[0xb1]⟩ 1 none))) = true) (k : XW l G M d kc ks Φ (pc + 3) L st h n) (hd1 : 1 ≤ d := by omega) (hrest : (st.map fun v => v.category).sum ≤ 8 := by exact Nat.le_of_ble_eq_true rfl) : XW l G M d kc ks Φ pc L (.ref a :: st) h n := by
  rw [Bool.and_eq_true, Bool.and_eq_true] at hl
  exact x_obj hM hd (xmem_of hl.1) (xmem_of hl.2.1) (xmem_of hl.2.2) hd1 hrest k
theorem x_mx (hM : xOK M) {idx : Nat} {x y : Int32} (hd : xat M pc = some (.invokestatic idx, 3)) (hl : (xmem (.methodLink M.1.cls idx Lib.Math.max.name) && (xmem (.static Lib.Math.max.name) && (xmem (.initialized "java/lang/Math") && xmem (.code Lib.Math.max.name Lib.Math.max.code 2 (some .int))))) = true) (k : XW l G M d kc ks Φ (pc + 3) L (.int (if x < y then y else x) :: st) h n) (hd1 : 1 ≤ d := by omega) (hrest : (st.map fun v => v.category).sum ≤ 8 := by exact Nat.le_of_ble_eq_true rfl) : XW l G M d kc ks Φ pc L (.int y :: .int x :: st) h n := by
  rw [Bool.and_eq_true, Bool.and_eq_true, Bool.and_eq_true] at hl
  exact x_max hM hd (xmem_of hl.1) (xmem_of hl.2.1) (xmem_of hl.2.2.1) (xmem_of hl.2.2.2) hd1 hrest k
theorem x_mn (hM : xOK M) {idx : Nat} {x y : Int32} (hd : xat M pc = some (.invokestatic idx, 3)) (hl : (xmem (.methodLink M.1.cls idx Lib.Math.min.name) && (xmem (.static Lib.Math.min.name) && (xmem (.initialized "java/lang/Math") && xmem (.code Lib.Math.min.name Lib.Math.min.code 2 (some .int))))) = true) (k : XW l G M d kc ks Φ (pc + 3) L (.int (if y < x then y else x) :: st) h n) (hd1 : 1 ≤ d := by omega) (hrest : (st.map fun v => v.category).sum ≤ 8 := by exact Nat.le_of_ble_eq_true rfl) : XW l G M d kc ks Φ pc L (.int y :: .int x :: st) h n := by
  rw [Bool.and_eq_true, Bool.and_eq_true, Bool.and_eq_true] at hl
  exact x_min hM hd (xmem_of hl.1) (xmem_of hl.2.1) (xmem_of hl.2.2.1) (xmem_of hl.2.2.2) hd1 hrest k
end XCL
