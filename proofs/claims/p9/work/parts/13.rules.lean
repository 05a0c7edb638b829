/-- a jump's target, out of the rows -/
def xtg (M : xM) (pc : Nat) (off : Int) : Option Nat := (M.2.2.2.2.1.find? (fun q => decide ((q.1 : Int) = (pc : Int) + off))).map (fun q => q.1)
theorem xtg_of {M : xM} {pc : Nat} {off : Int} {tgt : Nat} (h : xtg M pc off = some tgt) : (pc : Int) + off = (tgt : Int) := by
  unfold xtg at h
  cases hf : M.2.2.2.2.1.find? (fun q => decide ((q.1 : Int) = (pc : Int) + off)) with
  | none => rw [hf] at h; cases h
  | some q =>
    rw [hf] at h
    have h1 := List.find?_some hf
    have h2 := of_decide_eq_true h1
    have h3 : q.1 = tgt := Option.some.inj h
    rw [← h3]
    exact h2.symm
/-- the place behind this one, out of the rows -/
def xnx : List (Nat × Instr × Nat) → Nat → Nat
  | [], _ => 0
  | q :: r, pc => match Nat.beq q.1 pc with
    | true => match r with
      | [] => 0
      | q2 :: _ => q2.1
    | false => xnx r pc
/-- runs on to the next instruction that is none of xs, or to a loop's head -/
def xgo (M : xM) : Nat → Bool → Nat → List (Option Value) → List Value → Nat × List (Option Value) × List Value
  | 0, _, pc, L, st => (pc, L, st)
  | f + 1, b, pc, L, st => match !b && M.2.2.2.2.2.1.contains pc with
    | true => (pc, L, st)
    | false => match xat M pc with
      | some (.goto off, 3) => match xtg M pc off with
        | some q => xgo M f false q L st
        | none => (pc, L, st)
      | some (i, len) => match Nat.beq len (xlen i) && Nat.beq (xnx M.2.2.2.2.1 pc) (pc + len) with
        | true => match xs i M.2.2.1 L st with
          | some (L', st') => xgo M f false (xnx M.2.2.2.2.1 pc) L' st'
          | none => (pc, L, st)
        | false => (pc, L, st)
      | none => (pc, L, st)
section XR
variable {l : Launch} {G : xG} {M : xM} {d kc ks : Nat} {Φ : Option Value → xH → Nat → Prop} {h : xH} {n : Nat}
set_option maxHeartbeats 1000000 in
theorem x_go (hM : xOK M) : ∀ (f : Nat) (b : Bool) (pc : Nat) (L : List (Option Value)) (st : List Value), (XW l G M d kc ks Φ (xgo M f b pc L st).1 (xgo M f b pc L st).2.1 (xgo M f b pc L st).2.2 h n) → XW l G M d kc ks Φ pc L st h n := by
  intro f
  induction f with
  | zero => intro b pc L st k; exact k
  | succ f ih =>
    intro b pc L st k
    unfold xgo at k
    split at k
    · exact k
    · split at k
      · rename_i off hat
        split at k
        · rename_i q hq
          have k := ih false q L st k
          exact XW.by (fun p e R s m args below meth c H locs cells slots ls Q hx hb hL kk => lv_goto (tgt := q) hx hb (hM.dec hat) (xtg_of hq) (kk ls hL)) k
        · exact k
      · rename_i i len hno hat
        split at k
        · rename_i hlen
          rw [Bool.and_eq_true] at hlen
          have hnx := Nat.eq_of_beq_eq_true hlen.2
          have hlen := Nat.eq_of_beq_eq_true hlen.1
          subst hlen
          split at k
          · rename_i L' st' hs
            rw [hnx] at k
            have k := ih false (pc + xlen i) L' st' k
            exact XW.by (fun p e R s m args below meth c H locs cells slots ls Q hx hb hL kk => xs_ok hx hb hL (hM.dec hat) hs kk) k
          · exact k
        · exact k
      · exact k
/-- the run to the next stop: 'refine x_run hM rfl ?_' -/
theorem x_run (hM : xOK M) {pc pc' : Nat} {L L' : List (Option Value)} {st st' : List Value} (hr : xgo M 80 true pc L st = (pc', L', st')) (k : XW l G M d kc ks Φ pc' L' st' h n) : XW l G M d kc ks Φ pc L st h n := by
  refine x_go hM 80 true pc L st ?_
  rw [hr]
  exact k
variable {pc : Nat} {L : List (Option Value)} {st : List Value}
theorem x_if_eq (hM : xOK M) {x : Int32} {off : Int} {tgt : Nat} (hd : xat M pc = some (.ifCond .eq off, 3)) (ht : xtg M pc off = some tgt) (kt : x = 0 → XW l G M d kc ks Φ tgt L st h n) (kf : ¬ x = 0 → XW l G M d kc ks Φ (pc + 3) L st h n) : XW l G M d kc ks Φ pc L (.int x :: st) h n := by
  intro p e R s m args below meth c H locs cells slots ls A hC hR hS hI hA h1 h2 h3 h4 hL
  exact lv_if_eq hC.1 hC.2.1 (hM.dec hd) (xtg_of ht) (fun c1 => kt c1 p e R s m args below meth c H locs cells slots ls A hC hR hS hI hA h1 h2 h3 h4 hL) (fun c1 => kf c1 p e R s m args below meth c H locs cells slots ls A hC hR hS hI hA h1 h2 h3 h4 hL)
theorem x_ic_eq (hM : xOK M) {x y : Int32} {off : Int} {tgt : Nat} (hd : xat M pc = some (.if_icmp .eq off, 3)) (ht : xtg M pc off = some tgt) (kt : x = y → XW l G M d kc ks Φ tgt L st h n) (kf : ¬ x = y → XW l G M d kc ks Φ (pc + 3) L st h n) : XW l G M d kc ks Φ pc L (.int y :: .int x :: st) h n := by
  intro p e R s m args below meth c H locs cells slots ls A hC hR hS hI hA h1 h2 h3 h4 hL
  exact lv_icmp_eq hC.1 hC.2.1 (hM.dec hd) (xtg_of ht) (fun c1 => kt c1 p e R s m args below meth c H locs cells slots ls A hC hR hS hI hA h1 h2 h3 h4 hL) (fun c1 => kf c1 p e R s m args below meth c H locs cells slots ls A hC hR hS hI hA h1 h2 h3 h4 hL)
theorem x_if_ne (hM : xOK M) {x : Int32} {off : Int} {tgt : Nat} (hd : xat M pc = some (.ifCond .ne off, 3)) (ht : xtg M pc off = some tgt) (kt : ¬ x = 0 → XW l G M d kc ks Φ tgt L st h n) (kf : x = 0 → XW l G M d kc ks Φ (pc + 3) L st h n) : XW l G M d kc ks Φ pc L (.int x :: st) h n := by
  intro p e R s m args below meth c H locs cells slots ls A hC hR hS hI hA h1 h2 h3 h4 hL
  exact lv_if_ne hC.1 hC.2.1 (hM.dec hd) (xtg_of ht) (fun c1 => kt c1 p e R s m args below meth c H locs cells slots ls A hC hR hS hI hA h1 h2 h3 h4 hL) (fun c1 => kf c1 p e R s m args below meth c H locs cells slots ls A hC hR hS hI hA h1 h2 h3 h4 hL)
theorem x_ic_ne (hM : xOK M) {x y : Int32} {off : Int} {tgt : Nat} (hd : xat M pc = some (.if_icmp .ne off, 3)) (ht : xtg M pc off = some tgt) (kt : ¬ x = y → XW l G M d kc ks Φ tgt L st h n) (kf : x = y → XW l G M d kc ks Φ (pc + 3) L st h n) : XW l G M d kc ks Φ pc L (.int y :: .int x :: st) h n := by
  intro p e R s m args below meth c H locs cells slots ls A hC hR hS hI hA h1 h2 h3 h4 hL
  exact lv_icmp_ne hC.1 hC.2.1 (hM.dec hd) (xtg_of ht) (fun c1 => kt c1 p e R s m args below meth c H locs cells slots ls A hC hR hS hI hA h1 h2 h3 h4 hL) (fun c1 => kf c1 p e R s m args below meth c H locs cells slots ls A hC hR hS hI hA h1 h2 h3 h4 hL)
theorem x_if_lt (hM : xOK M) {x : Int32} {off : Int} {tgt : Nat} (hd : xat M pc = some (.ifCond .lt off, 3)) (ht : xtg M pc off = some tgt) (kt : x < 0 → XW l G M d kc ks Φ tgt L st h n) (kf : ¬ x < 0 → XW l G M d kc ks Φ (pc + 3) L st h n) : XW l G M d kc ks Φ pc L (.int x :: st) h n := by
  intro p e R s m args below meth c H locs cells slots ls A hC hR hS hI hA h1 h2 h3 h4 hL
  exact lv_if_lt hC.1 hC.2.1 (hM.dec hd) (xtg_of ht) (fun c1 => kt c1 p e R s m args below meth c H locs cells slots ls A hC hR hS hI hA h1 h2 h3 h4 hL) (fun c1 => kf c1 p e R s m args below meth c H locs cells slots ls A hC hR hS hI hA h1 h2 h3 h4 hL)
theorem x_ic_lt (hM : xOK M) {x y : Int32} {off : Int} {tgt : Nat} (hd : xat M pc = some (.if_icmp .lt off, 3)) (ht : xtg M pc off = some tgt) (kt : x < y → XW l G M d kc ks Φ tgt L st h n) (kf : ¬ x < y → XW l G M d kc ks Φ (pc + 3) L st h n) : XW l G M d kc ks Φ pc L (.int y :: .int x :: st) h n := by
  intro p e R s m args below meth c H locs cells slots ls A hC hR hS hI hA h1 h2 h3 h4 hL
  exact lv_icmp_lt hC.1 hC.2.1 (hM.dec hd) (xtg_of ht) (fun c1 => kt c1 p e R s m args below meth c H locs cells slots ls A hC hR hS hI hA h1 h2 h3 h4 hL) (fun c1 => kf c1 p e R s m args below meth c H locs cells slots ls A hC hR hS hI hA h1 h2 h3 h4 hL)
theorem x_if_ge (hM : xOK M) {x : Int32} {off : Int} {tgt : Nat} (hd : xat M pc = some (.ifCond .ge off, 3)) (ht : xtg M pc off = some tgt) (kt : 0 ≤ x → XW l G M d kc ks Φ tgt L st h n) (kf : ¬ 0 ≤ x → XW l G M d kc ks Φ (pc + 3) L st h n) : XW l G M d kc ks Φ pc L (.int x :: st) h n := by
  intro p e R s m args below meth c H locs cells slots ls A hC hR hS hI hA h1 h2 h3 h4 hL
  exact lv_if_ge hC.1 hC.2.1 (hM.dec hd) (xtg_of ht) (fun c1 => kt c1 p e R s m args below meth c H locs cells slots ls A hC hR hS hI hA h1 h2 h3 h4 hL) (fun c1 => kf c1 p e R s m args below meth c H locs cells slots ls A hC hR hS hI hA h1 h2 h3 h4 hL)
theorem x_ic_ge (hM : xOK M) {x y : Int32} {off : Int} {tgt : Nat} (hd : xat M pc = some (.if_icmp .ge off, 3)) (ht : xtg M pc off = some tgt) (kt : y ≤ x → XW l G M d kc ks Φ tgt L st h n) (kf : ¬ y ≤ x → XW l G M d kc ks Φ (pc + 3) L st h n) : XW l G M d kc ks Φ pc L (.int y :: .int x :: st) h n := by
  intro p e R s m args below meth c H locs cells slots ls A hC hR hS hI hA h1 h2 h3 h4 hL
  exact lv_icmp_ge hC.1 hC.2.1 (hM.dec hd) (xtg_of ht) (fun c1 => kt c1 p e R s m args below meth c H locs cells slots ls A hC hR hS hI hA h1 h2 h3 h4 hL) (fun c1 => kf c1 p e R s m args below meth c H locs cells slots ls A hC hR hS hI hA h1 h2 h3 h4 hL)
theorem x_if_gt (hM : xOK M) {x : Int32} {off : Int} {tgt : Nat} (hd : xat M pc = some (.ifCond .gt off, 3)) (ht : xtg M pc off = some tgt) (kt : 0 < x → XW l G M d kc ks Φ tgt L st h n) (kf : ¬ 0 < x → XW l G M d kc ks Φ (pc + 3) L st h n) : XW l G M d kc ks Φ pc L (.int x :: st) h n := by
  intro p e R s m args below meth c H locs cells slots ls A hC hR hS hI hA h1 h2 h3 h4 hL
  exact lv_if_gt hC.1 hC.2.1 (hM.dec hd) (xtg_of ht) (fun c1 => kt c1 p e R s m args below meth c H locs cells slots ls A hC hR hS hI hA h1 h2 h3 h4 hL) (fun c1 => kf c1 p e R s m args below meth c H locs cells slots ls A hC hR hS hI hA h1 h2 h3 h4 hL)
theorem x_ic_gt (hM : xOK M) {x y : Int32} {off : Int} {tgt : Nat} (hd : xat M pc = some (.if_icmp .gt off, 3)) (ht : xtg M pc off = some tgt) (kt : y < x → XW l G M d kc ks Φ tgt L st h n) (kf : ¬ y < x → XW l G M d kc ks Φ (pc + 3) L st h n) : XW l G M d kc ks Φ pc L (.int y :: .int x :: st) h n := by
  intro p e R s m args below meth c H locs cells slots ls A hC hR hS hI hA h1 h2 h3 h4 hL
  exact lv_icmp_gt hC.1 hC.2.1 (hM.dec hd) (xtg_of ht) (fun c1 => kt c1 p e R s m args below meth c H locs cells slots ls A hC hR hS hI hA h1 h2 h3 h4 hL) (fun c1 => kf c1 p e R s m args below meth c H locs cells slots ls A hC hR hS hI hA h1 h2 h3 h4 hL)
theorem x_if_le (hM : xOK M) {x : Int32} {off : Int} {tgt : Nat} (hd : xat M pc = some (.ifCond .le off, 3)) (ht : xtg M pc off = some tgt) (kt : x ≤ 0 → XW l G M d kc ks Φ tgt L st h n) (kf : ¬ x ≤ 0 → XW l G M d kc ks Φ (pc + 3) L st h n) : XW l G M d kc ks Φ pc L (.int x :: st) h n := by
  intro p e R s m args below meth c H locs cells slots ls A hC hR hS hI hA h1 h2 h3 h4 hL
  exact lv_if_le hC.1 hC.2.1 (hM.dec hd) (xtg_of ht) (fun c1 => kt c1 p e R s m args below meth c H locs cells slots ls A hC hR hS hI hA h1 h2 h3 h4 hL) (fun c1 => kf c1 p e R s m args below meth c H locs cells slots ls A hC hR hS hI hA h1 h2 h3 h4 hL)
theorem x_ic_le (hM : xOK M) {x y : Int32} {off : Int} {tgt : Nat} (hd : xat M pc = some (.if_icmp .le off, 3)) (ht : xtg M pc off = some tgt) (kt : x ≤ y → XW l G M d kc ks Φ tgt L st h n) (kf : ¬ x ≤ y → XW l G M d kc ks Φ (pc + 3) L st h n) : XW l G M d kc ks Φ pc L (.int y :: .int x :: st) h n := by
  intro p e R s m args below meth c H locs cells slots ls A hC hR hS hI hA h1 h2 h3 h4 hL
  exact lv_icmp_le hC.1 hC.2.1 (hM.dec hd) (xtg_of ht) (fun c1 => kt c1 p e R s m args below meth c H locs cells slots ls A hC hR hS hI hA h1 h2 h3 h4 hL) (fun c1 => kf c1 p e R s m args below meth c H locs cells slots ls A hC hR hS hI hA h1 h2 h3 h4 hL)
/-- the ends -/
theorem x_iret (hM : xOK M) {v : Int32} {ty : FieldType} (hd : xat M pc = some (.ireturn, 1)) (hr : M.2.2.2.1 = some ty) (hn : narrow ty (.int v) = .int v) (hΦ : Φ (some (.int v)) h n) : XW l G M d kc ks Φ pc L [.int v] h n := by
  intro p e R s m args below meth c H locs cells slots ls A hC hR hS hI hA h1 h2 h3 h4 hL
  refine W.widen (k := R.cells) (n := R.slots) (by omega) (by omega) ?_
  exact W.zret (free := A) hC.1 hC.2.1 (hC.2.2.2.2.2.1.trans hr) hn (fun t ht hW => ⟨_, h, n, rfl, hΦ, by rw [ht]; exact hR, hI, hS.F ht⟩) hS.2.2 (hM.dec hd) hC.2.2.2.2.2.2.1
theorem x_lret (hM : xOK M) {v : Int64} (hd : xat M pc = some (.lreturn, 1)) (hr : M.2.2.2.1 = some .long) (hΦ : Φ (some (.long v)) h n) : XW l G M d kc ks Φ pc L [.long v] h n := by
  intro p e R s m args below meth c H locs cells slots ls A hC hR hS hI hA h1 h2 h3 h4 hL
  refine W.widen (k := R.cells) (n := R.slots) (by omega) (by omega) ?_
  exact W.lret (free := A) hC.1 hC.2.1 (hC.2.2.2.2.2.1.trans hr) (fun t ht hW => ⟨_, h, n, rfl, hΦ, by rw [ht]; exact hR, hI, hS.F ht⟩) hS.2.2 (hM.dec hd) hC.2.2.2.2.2.2.1
theorem x_vret (hM : xOK M) (hd : xat M pc = some (.return_, 1)) (hr : M.2.2.2.1 = none) (hΦ : Φ none h n) : XW l G M d kc ks Φ pc L [] h n := by
  intro p e R s m args below meth c H locs cells slots ls A hC hR hS hI hA h1 h2 h3 h4 hL
  refine W.widen (k := R.cells) (n := R.slots) (by omega) (by omega) ?_
  exact W.vret (free := A) hC.1 hC.2.1 (hC.2.2.2.2.2.1.trans hr) (fun t ht hW => ⟨_, h, n, rfl, hΦ, by rw [ht]; exact hR, hI, hS.F ht⟩) hS.2.2 (hM.dec hd) hC.2.2.2.2.2.2.1
end XR
