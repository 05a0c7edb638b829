/-- the rows from a place on -/
def xsuf (D : List (Nat × Instr × Nat)) (pc : Nat) : List (Nat × Instr × Nat) := match D with
  | [] => []
  | q :: r => match Nat.beq q.1 pc with
    | true => q :: r
    | false => xsuf r pc
theorem xsuf_ok : ∀ (D : List (Nat × Instr × Nat)) (pc : Nat), (∀ q ∈ xsuf D pc, q ∈ D) ∧ ∀ q r, xsuf D pc = q :: r → q.1 = pc
  | [], pc => ⟨fun q hq => hq, fun q r e => by cases e⟩
  | a :: D, pc => by
    unfold xsuf
    cases hb : Nat.beq a.1 pc with
    | true => exact ⟨fun q hq => hq, fun q r e => by cases e; exact Nat.eq_of_beq_eq_true hb⟩
    | false =>
      obtain ⟨h1, h2⟩ := xsuf_ok D pc
      exact ⟨fun q hq => List.mem_cons_of_mem _ (h1 q hq), h2⟩
/-- the rows from a jump's target on -/
def xjmp (D : List (Nat × Instr × Nat)) (pc : Nat) (off : Int) : List (Nat × Instr × Nat) := match D with
  | [] => []
  | q :: r => match decide ((q.1 : Int) = (pc : Int) + off) with
    | true => q :: r
    | false => xjmp r pc off
theorem xjmp_ok : ∀ (D : List (Nat × Instr × Nat)) (pc : Nat) (off : Int), (∀ q ∈ xjmp D pc off, q ∈ D) ∧ ∀ q r, xjmp D pc off = q :: r → (pc : Int) + off = (q.1 : Int)
  | [], pc, off => ⟨fun q hq => hq, fun q r e => by cases e⟩
  | a :: D, pc, off => by
    unfold xjmp
    cases hb : decide ((a.1 : Int) = (pc : Int) + off) with
    | true => exact ⟨fun q hq => hq, fun q r e => by cases e; exact (of_decide_eq_true hb).symm⟩
    | false =>
      obtain ⟨h1, h2⟩ := xjmp_ok D pc off
      exact ⟨fun q hq => List.mem_cons_of_mem _ (h1 q hq), h2⟩
def yhd (D : List (Nat × Instr × Nat)) (L : List (Option xV)) (st : List xV) : Option (Nat × List (Option xV) × List xV) := match D with
  | [] => none
  | q :: _ => some (q.1, L, st)
def ygo (M : xM) : Nat → Bool → List (Nat × Instr × Nat) → List (Option xV) → List xV → Option (Nat × List (Option xV) × List xV)
  | 0, _, D, L, st => yhd D L st
  | f + 1, b, D, L, st => match D with
    | [] => none
    | (pc, i, len) :: r => match !b && M.2.2.2.2.2.1.contains pc with
      | true => some (pc, L, st)
      | false => match i with
        | .goto off => match Nat.beq len 3 with
          | true => ygo M f false (xjmp M.2.2.2.2.1 pc off) L st
          | false => some (pc, L, st)
        | i => match ys i M.2.2.1 L st with
          | none => some (pc, L, st)
          | some (L', st') => match r with
            | [] => some (pc, L, st)
            | (pc2, i2) :: r2 => match Nat.beq len (xlen i) && Nat.beq pc2 (pc + len) with
              | true => ygo M f false ((pc2, i2) :: r2) L' st'
              | false => some (pc, L, st)
section YR
variable {l : Launch} {G : xG} {M : xM} {d kc ks : Nat} {Φ Ψ : Option xV → yH → Nat → Prop} {h : yH} {n : Nat}
set_option maxHeartbeats 1000000 in
theorem y_go (hM : xOK M) {pc' : Nat} {L' : List (Option xV)} {st' : List xV} (k : YW l G M d kc ks Φ pc' L' st' h n) : ∀ (f : Nat) (b : Bool) (D : List (Nat × Instr × Nat)) (L : List (Option xV)) (st : List xV), (∀ q ∈ D, q ∈ M.2.2.2.2.1) → ygo M f b D L st = some (pc', L', st') → ∃ q r, D = q :: r ∧ YW l G M d kc ks Φ q.1 L st h n := by
  have stay : ∀ (q : Nat × Instr × Nat) (r : List (Nat × Instr × Nat)) (L : List (Option xV)) (st : List xV), some (q.1, L, st) = some (pc', L', st') → ∃ q' r', q :: r = q' :: r' ∧ YW l G M d kc ks Φ q'.1 L st h n := by
    intro q r L st e
    cases e
    exact ⟨q, r, rfl, k⟩
  intro f
  induction f with
  | zero =>
    intro b D L st hD e
    unfold ygo yhd at e
    cases D with
    | nil => cases e
    | cons q r => exact stay q r L st e
  | succ f ih =>
    intro b D L st hD e
    unfold ygo at e
    cases D with
    | nil => cases e
    | cons q r =>
      obtain ⟨pc, i, len⟩ := q
      have hdec : decode M.2.1 pc = .ok (i, len) := hM.2.2.1 (pc, i, len) (hD _ List.mem_cons_self)
      dsimp only at e
      split at e
      · exact stay (pc, i, len) r L st e
      · split at e
        · rename_i off
          split at e
          · rename_i hlen
            have hlen := Nat.eq_of_beq_eq_true hlen
            subst hlen
            obtain ⟨q, r', e1, k1⟩ := ih false _ L st (xjmp_ok M.2.2.2.2.1 pc off).1 e
            refine ⟨_, _, rfl, ?_⟩
            unfold YW at k1 ⊢
            exact XW.by (fun p e R s m args below meth c H locs cells slots ls Q hx hb hL kk => lv_goto (tgt := q.1) hx hb hdec ((xjmp_ok M.2.2.2.2.1 pc off).2 q r' e1) (kk ls hL)) k1
          · exact stay (pc, .goto off, len) r L st e
        · split at e
          · exact stay (pc, i, len) r L st e
          · rename_i L1 st1 hs
            cases r with
            | nil => exact stay (pc, i, len) [] L st e
            | cons q2 r2 =>
              obtain ⟨pc2, i2⟩ := q2
              dsimp only at e
              split at e
              · rename_i hlen
                rw [Bool.and_eq_true] at hlen
                have hnx := Nat.eq_of_beq_eq_true hlen.2
                have hlen := Nat.eq_of_beq_eq_true hlen.1
                subst hlen
                obtain ⟨q, r', e1, k1⟩ := ih false _ L1 st1 (fun q hq => hD q (List.mem_cons_of_mem _ hq)) e
                cases e1
                refine ⟨_, _, rfl, ?_⟩
                dsimp only at k1 ⊢
                rw [hnx] at k1
                unfold YW at k1 ⊢
                exact XW.by (fun p e R s m args below meth c H locs cells slots ls Q hx hb hL kk => xs_ok hx hb hL hdec (ys_ok hs) kk) k1
              · exact stay (pc, i, len) _ L st e
/-- the run to the next stop: 'refine y_run kM rfl ?_' -/
theorem y_run (hM : xOK M) {pc pc' : Nat} {L L' : List (Option xV)} {st st' : List xV} (hr : ygo M 80 true (xsuf M.2.2.2.2.1 pc) L st = some (pc', L', st')) (k : YW l G M d kc ks Φ pc' L' st' h n) : YW l G M d kc ks Φ pc L st h n := by
  obtain ⟨q, r, e, k1⟩ := y_go hM k 80 true _ L st (xsuf_ok M.2.2.2.2.1 pc).1 hr
  rw [(xsuf_ok M.2.2.2.2.1 pc).2 q r e] at k1
  exact k1
variable {pc : Nat} {L : List (Option xV)} {st rest : List xV}
theorem YW.he {h' : yH} (e : h = h') (k : YW l G M d kc ks Φ pc L st h' n) : YW l G M d kc ks Φ pc L st h n := e ▸ k
theorem YW.se {st' : List xV} (e : st = st') (k : YW l G M d kc ks Φ pc L st' h n) : YW l G M d kc ks Φ pc L st h n := e ▸ k
theorem YW.Le {L' : List (Option xV)} (e : L = L') (k : YW l G M d kc ks Φ pc L' st h n) : YW l G M d kc ks Φ pc L st h n := e ▸ k
theorem y_if_eq (hM : xOK M) {x : Int} {off : Int} {tgt : Nat} (hd : xat M pc = some (.ifCond .eq off, 3)) (ht : xtg M pc off = some tgt) (kt : x = 0 → YW l G M d kc ks Φ tgt L st h n) (kf : x ≠ 0 → YW l G M d kc ks Φ (pc + 3) L st h n) (b1 : -2147483648 ≤ x := by omega) (b2 : x < 2147483648 := by omega) : YW l G M d kc ks Φ pc L (vi x :: st) h n := by
  have e := iI_eq (a := x) (b := 0) b1 b2 (by omega) (by omega)
  rw [iI_0] at e
  exact x_if_eq hM hd ht (fun c1 => kt (e.mp c1)) (fun c1 => kf (fun c2 => c1 (e.mpr c2)))
theorem y_ic_eq (hM : xOK M) {x y : Int} {off : Int} {tgt : Nat} (hd : xat M pc = some (.if_icmp .eq off, 3)) (ht : xtg M pc off = some tgt) (kt : x = y → YW l G M d kc ks Φ tgt L st h n) (kf : x ≠ y → YW l G M d kc ks Φ (pc + 3) L st h n) (b1 : -2147483648 ≤ x := by omega) (b2 : x < 2147483648 := by omega) (b3 : -2147483648 ≤ y := by omega) (b4 : y < 2147483648 := by omega) : YW l G M d kc ks Φ pc L (vi y :: vi x :: st) h n := by
  have e := iI_eq (a := x) (b := y) b1 b2 b3 b4
  exact x_ic_eq hM hd ht (fun c1 => kt (e.mp c1)) (fun c1 => kf (fun c2 => c1 (e.mpr c2)))
theorem y_if_ne (hM : xOK M) {x : Int} {off : Int} {tgt : Nat} (hd : xat M pc = some (.ifCond .ne off, 3)) (ht : xtg M pc off = some tgt) (kt : x ≠ 0 → YW l G M d kc ks Φ tgt L st h n) (kf : x = 0 → YW l G M d kc ks Φ (pc + 3) L st h n) (b1 : -2147483648 ≤ x := by omega) (b2 : x < 2147483648 := by omega) : YW l G M d kc ks Φ pc L (vi x :: st) h n := by
  have e := iI_eq (a := x) (b := 0) b1 b2 (by omega) (by omega)
  rw [iI_0] at e
  exact x_if_ne hM hd ht (fun c1 => kt (fun c2 => c1 (e.mpr c2))) (fun c1 => kf (e.mp c1))
theorem y_ic_ne (hM : xOK M) {x y : Int} {off : Int} {tgt : Nat} (hd : xat M pc = some (.if_icmp .ne off, 3)) (ht : xtg M pc off = some tgt) (kt : x ≠ y → YW l G M d kc ks Φ tgt L st h n) (kf : x = y → YW l G M d kc ks Φ (pc + 3) L st h n) (b1 : -2147483648 ≤ x := by omega) (b2 : x < 2147483648 := by omega) (b3 : -2147483648 ≤ y := by omega) (b4 : y < 2147483648 := by omega) : YW l G M d kc ks Φ pc L (vi y :: vi x :: st) h n := by
  have e := iI_eq (a := x) (b := y) b1 b2 b3 b4
  exact x_ic_ne hM hd ht (fun c1 => kt (fun c2 => c1 (e.mpr c2))) (fun c1 => kf (e.mp c1))
theorem y_if_lt (hM : xOK M) {x : Int} {off : Int} {tgt : Nat} (hd : xat M pc = some (.ifCond .lt off, 3)) (ht : xtg M pc off = some tgt) (kt : x < 0 → YW l G M d kc ks Φ tgt L st h n) (kf : 0 ≤ x → YW l G M d kc ks Φ (pc + 3) L st h n) (b1 : -2147483648 ≤ x := by omega) (b2 : x < 2147483648 := by omega) : YW l G M d kc ks Φ pc L (vi x :: st) h n := by
  have e := iI_lt (a := x) (b := 0) b1 b2 (by omega) (by omega)
  rw [iI_0] at e
  exact x_if_lt hM hd ht (fun c1 => kt (e.mp c1)) (fun c1 => kf (by have c2 : ¬ (x < 0) := fun c3 => c1 (e.mpr c3); omega))
theorem y_ic_lt (hM : xOK M) {x y : Int} {off : Int} {tgt : Nat} (hd : xat M pc = some (.if_icmp .lt off, 3)) (ht : xtg M pc off = some tgt) (kt : x < y → YW l G M d kc ks Φ tgt L st h n) (kf : y ≤ x → YW l G M d kc ks Φ (pc + 3) L st h n) (b1 : -2147483648 ≤ x := by omega) (b2 : x < 2147483648 := by omega) (b3 : -2147483648 ≤ y := by omega) (b4 : y < 2147483648 := by omega) : YW l G M d kc ks Φ pc L (vi y :: vi x :: st) h n := by
  have e := iI_lt (a := x) (b := y) b1 b2 b3 b4
  exact x_ic_lt hM hd ht (fun c1 => kt (e.mp c1)) (fun c1 => kf (by have c2 : ¬ (x < y) := fun c3 => c1 (e.mpr c3); omega))
theorem y_if_ge (hM : xOK M) {x : Int} {off : Int} {tgt : Nat} (hd : xat M pc = some (.ifCond .ge off, 3)) (ht : xtg M pc off = some tgt) (kt : 0 ≤ x → YW l G M d kc ks Φ tgt L st h n) (kf : x < 0 → YW l G M d kc ks Φ (pc + 3) L st h n) (b1 : -2147483648 ≤ x := by omega) (b2 : x < 2147483648 := by omega) : YW l G M d kc ks Φ pc L (vi x :: st) h n := by
  have e := iI_le (a := 0) (b := x) (by omega) (by omega) b1 b2
  rw [iI_0] at e
  exact x_if_ge hM hd ht (fun c1 => kt (e.mp c1)) (fun c1 => kf (by have c2 : ¬ (0 ≤ x) := fun c3 => c1 (e.mpr c3); omega))
theorem y_ic_ge (hM : xOK M) {x y : Int} {off : Int} {tgt : Nat} (hd : xat M pc = some (.if_icmp .ge off, 3)) (ht : xtg M pc off = some tgt) (kt : y ≤ x → YW l G M d kc ks Φ tgt L st h n) (kf : x < y → YW l G M d kc ks Φ (pc + 3) L st h n) (b1 : -2147483648 ≤ x := by omega) (b2 : x < 2147483648 := by omega) (b3 : -2147483648 ≤ y := by omega) (b4 : y < 2147483648 := by omega) : YW l G M d kc ks Φ pc L (vi y :: vi x :: st) h n := by
  have e := iI_le (a := y) (b := x) b3 b4 b1 b2
  exact x_ic_ge hM hd ht (fun c1 => kt (e.mp c1)) (fun c1 => kf (by have c2 : ¬ (y ≤ x) := fun c3 => c1 (e.mpr c3); omega))
theorem y_if_gt (hM : xOK M) {x : Int} {off : Int} {tgt : Nat} (hd : xat M pc = some (.ifCond .gt off, 3)) (ht : xtg M pc off = some tgt) (kt : 0 < x → YW l G M d kc ks Φ tgt L st h n) (kf : x ≤ 0 → YW l G M d kc ks Φ (pc + 3) L st h n) (b1 : -2147483648 ≤ x := by omega) (b2 : x < 2147483648 := by omega) : YW l G M d kc ks Φ pc L (vi x :: st) h n := by
  have e := iI_lt (a := 0) (b := x) (by omega) (by omega) b1 b2
  rw [iI_0] at e
  exact x_if_gt hM hd ht (fun c1 => kt (e.mp c1)) (fun c1 => kf (by have c2 : ¬ (0 < x) := fun c3 => c1 (e.mpr c3); omega))
theorem y_ic_gt (hM : xOK M) {x y : Int} {off : Int} {tgt : Nat} (hd : xat M pc = some (.if_icmp .gt off, 3)) (ht : xtg M pc off = some tgt) (kt : y < x → YW l G M d kc ks Φ tgt L st h n) (kf : x ≤ y → YW l G M d kc ks Φ (pc + 3) L st h n) (b1 : -2147483648 ≤ x := by omega) (b2 : x < 2147483648 := by omega) (b3 : -2147483648 ≤ y := by omega) (b4 : y < 2147483648 := by omega) : YW l G M d kc ks Φ pc L (vi y :: vi x :: st) h n := by
  have e := iI_lt (a := y) (b := x) b3 b4 b1 b2
  exact x_ic_gt hM hd ht (fun c1 => kt (e.mp c1)) (fun c1 => kf (by have c2 : ¬ (y < x) := fun c3 => c1 (e.mpr c3); omega))
theorem y_if_le (hM : xOK M) {x : Int} {off : Int} {tgt : Nat} (hd : xat M pc = some (.ifCond .le off, 3)) (ht : xtg M pc off = some tgt) (kt : x ≤ 0 → YW l G M d kc ks Φ tgt L st h n) (kf : 0 < x → YW l G M d kc ks Φ (pc + 3) L st h n) (b1 : -2147483648 ≤ x := by omega) (b2 : x < 2147483648 := by omega) : YW l G M d kc ks Φ pc L (vi x :: st) h n := by
  have e := iI_le (a := x) (b := 0) b1 b2 (by omega) (by omega)
  rw [iI_0] at e
  exact x_if_le hM hd ht (fun c1 => kt (e.mp c1)) (fun c1 => kf (by have c2 : ¬ (x ≤ 0) := fun c3 => c1 (e.mpr c3); omega))
theorem y_ic_le (hM : xOK M) {x y : Int} {off : Int} {tgt : Nat} (hd : xat M pc = some (.if_icmp .le off, 3)) (ht : xtg M pc off = some tgt) (kt : x ≤ y → YW l G M d kc ks Φ tgt L st h n) (kf : y < x → YW l G M d kc ks Φ (pc + 3) L st h n) (b1 : -2147483648 ≤ x := by omega) (b2 : x < 2147483648 := by omega) (b3 : -2147483648 ≤ y := by omega) (b4 : y < 2147483648 := by omega) : YW l G M d kc ks Φ pc L (vi y :: vi x :: st) h n := by
  have e := iI_le (a := x) (b := y) b1 b2 b3 b4
  exact x_ic_le hM hd ht (fun c1 => kt (e.mp c1)) (fun c1 => kf (by have c2 : ¬ (x ≤ y) := fun c3 => c1 (e.mpr c3); omega))
theorem YM.of {mc ms : Nat} {av : List xV} (hM : xOK M) (hn : (lg_sl (mS av)).length ≤ M.2.2.1) {L0 : List (Option xV)} (hL : xent (mS av) M.2.2.1 = mL L0) (hW : YW l (gT G) M d mc ms Φ 0 L0 [] h n) : YM l G M d mc ms av h n Φ := by
  refine XM.of hM hn ?_
  rw [hL]
  exact hW
theorem y_ir (hM : xOK M) {z : Int} (hd : xat M pc = some (.ireturn, 1)) (hr : M.2.2.2.1 = some .int) (hΦ : Φ (some (vi z)) h n) : YW l G M d kc ks Φ pc L [vi z] h n :=
  x_iret hM hd hr rfl ⟨some (vi z), h, rfl, rfl, hΦ⟩
theorem y_zr (hM : xOK M) {z : Int} (hd : xat M pc = some (.ireturn, 1)) (hr : M.2.2.2.1 = some .boolean) (hz : z = 0 ∨ z = 1) (hΦ : Φ (some (vi z)) h n) : YW l G M d kc ks Φ pc L [vi z] h n :=
  x_iret hM hd hr (by rcases hz with rfl | rfl <;> rfl) ⟨some (vi z), h, rfl, rfl, hΦ⟩
theorem y_vr (hM : xOK M) (hd : xat M pc = some (.return_, 1)) (hr : M.2.2.2.1 = none) (hΦ : Φ none h n) : YW l G M d kc ks Φ pc L [] h n :=
  x_vret hM hd hr ⟨none, h, rfl, rfl, hΦ⟩
theorem y_get (hM : xOK M) {idx a ci k : Nat} {fs : List xV} {v : xV} (hd : xat M pc = some (.getfield idx, 3)) (hf : M.2.2.2.2.2.2.lookup idx = some (ci, k)) (ha : h a = some (ob ci fs)) (hv : fs[k]? = some v) (kk : YW l G M d kc ks Φ (pc + 3) L (v :: st) h n) : YW l G M d kc ks Φ pc L (vr a :: st) h n :=
  x_get hM hd hf (dH_at ha) (show (fs.map den)[k]? = some (den v) by simp [hv]) kk
theorem y_put (hM : xOK M) {idx a ci k : Nat} {fs : List xV} {v : xV} (hd : xat M pc = some (.putfield idx, 3)) (hf : M.2.2.2.2.2.2.lookup idx = some (ci, k)) (ha : h a = some (ob ci fs)) (hfin : xfin ci k = false) (hn : narrow (xty ci k) (den v) = den v) (hfit : fits (xty ci k) (den v) = true) (kk : YW l G M d kc ks Φ (pc + 3) L st (yup h a (ob ci (fs.set k v))) n) (hl : k < fs.length := by exact Nat.le_of_ble_eq_true rfl) : YW l G M d kc ks Φ pc L (v :: vr a :: st) h n := by
  refine x_put hM hd hf (dH_at ha) hfin hn hfit (by simpa using hl) ?_
  have e : (xup (dH h) a (.inr (ci, (fs.map den).set k (den v)))) = dH (yup h a (ob ci (fs.set k v))) := by
    rw [← dH_up]
    simp [dE, List.map_set]
  rw [e]
  exact kk
theorem y_putF (hM : xOK M) {idx a ci k : Nat} {fs : List xV} {v : xV} (hd : xat M pc = some (.putfield idx, 3)) (hf : M.2.2.2.2.2.2.lookup idx = some (ci, k)) (ha : h a = some (ob ci fs)) (hfin : xfin ci k = true) (hi0 : M.1.name = "<init>") (ho : xdec ci k = M.1.cls) (hn : narrow (xty ci k) (den v) = den v) (hfit : fits (xty ci k) (den v) = true) (kk : YW l G M d kc ks Φ (pc + 3) L st (yup h a (ob ci (fs.set k v))) n) (hl : k < fs.length := by exact Nat.le_of_ble_eq_true rfl) : YW l G M d kc ks Φ pc L (v :: vr a :: st) h n := by
  refine x_putF hM hd hf (dH_at ha) hfin hi0 ho hn hfit (by simpa using hl) ?_
  have e : (xup (dH h) a (.inr (ci, (fs.map den).set k (den v)))) = dH (yup h a (ob ci (fs.set k v))) := by
    rw [← dH_up]
    simp [dE, List.map_set]
  rw [e]
  exact kk
def upZ (F : Nat → Int) (k : Nat) (x : Int) : Nat → Int := fun j => if j = k then x else F j
theorem upZ_up (F : Nat → Int) (k : Nat) (x : Int) : upd (fun j => iI (F j)) k (iI x) = fun j => iI (upZ F k x j) := by
  funext j
  by_cases c : j = k <;> simp [upd, upZ, c]
theorem y_ia (hM : xOK M) {a N : Nat} {F : Nat → Int} {z : Int} (hd : xat M pc = some (.iaload, 1)) (ha : h a = some (ai N F)) (h1 : 0 ≤ z) (h2 : z < N) (kk : YW l G M d kc ks Φ (pc + 1) L (vi (F z.toNat) :: st) h n) (h3 : z < 2147483648 := by omega) : YW l G M d kc ks Φ pc L (vi z :: vr a :: st) h n := by
  refine x_iald hM hd (dH_at ha) rfl (iI_in h1 h2 h3) ?_
  rw [iI_nat h1 h3]
  exact kk
theorem y_ie (hM : xOK M) {a N : Nat} {F : Nat → Int} {z v : Int} (hd : xat M pc = some (.iaload, 1)) (ha : h a = some (ai N F)) (h1 : 0 ≤ z) (h2 : z < N) (hv : F z.toNat = v) (kk : YW l G M d kc ks Φ (pc + 1) L (vi v :: st) h n) (h3 : z < 2147483648 := by omega) : YW l G M d kc ks Φ pc L (vi z :: vr a :: st) h n := by
  subst hv
  exact y_ia hM hd ha h1 h2 kk h3
theorem y_za (hM : xOK M) {a N : Nat} {F : Nat → Int} {z : Int} (hd : xat M pc = some (.baload, 1)) (ha : h a = some (az N F)) (h1 : 0 ≤ z) (h2 : z < N) (kk : YW l G M d kc ks Φ (pc + 1) L (vi (F z.toNat) :: st) h n) (h3 : z < 2147483648 := by omega) : YW l G M d kc ks Φ pc L (vi z :: vr a :: st) h n := by
  refine x_zald hM hd (dH_at ha) rfl (iI_in h1 h2 h3) ?_
  rw [iI_nat h1 h3]
  exact kk
theorem y_qa (hM : xOK M) {a t N q : Nat} {C : String} {F : Nat → Option Nat} {z : Int} (hd : xat M pc = some (.aaload, 1)) (ha : h a = some (aq t N F)) (ht : xTys[t]? = some (.object C)) (h1 : 0 ≤ z) (h2 : z < N) (hq : F z.toNat = some q) (kk : YW l G M d kc ks Φ (pc + 1) L (vr q :: st) h n) (h3 : z < 2147483648 := by omega) : YW l G M d kc ks Φ pc L (vi z :: vr a :: st) h n := by
  refine x_aald (q := q) hM hd (dH_at ha) ht (iI_in h1 h2 h3) ?_ kk
  rw [iI_nat h1 h3]
  exact hq
theorem y_al (hM : xOK M) {a N : Nat} {F : Nat → Int} (hd : xat M pc = some (.arraylength, 1)) (ha : h a = some (ai N F)) (kk : YW l G M d kc ks Φ (pc + 1) L (vi (N : Int) :: st) h n) : YW l G M d kc ks Φ pc L (vr a :: st) h n :=
  x_alen hM hd (dH_at ha) rfl kk
theorem y_is (hM : xOK M) {a N : Nat} {F : Nat → Int} {z x : Int} (hd : xat M pc = some (.iastore, 1)) (ha : h a = some (ai N F)) (h1 : 0 ≤ z) (h2 : z < N) (kk : YW l G M d kc ks Φ (pc + 1) L st (yup h a (ai N (upZ F z.toNat x))) n) (h3 : z < 2147483648 := by omega) : YW l G M d kc ks Φ pc L (vi x :: vi z :: vr a :: st) h n := by
  refine x_iast hM hd (dH_at ha) rfl (iI_in h1 h2 h3) ?_
  rw [iI_nat h1 h3, upZ_up]
  exact (dH_up h a (ai N (upZ F z.toNat x))) ▸ kk
theorem yup_yup (h : yH) (a : Nat) (e e' : yE) : yup (yup h a e) a e' = yup h a e' := by
  funext q
  by_cases c : q = a <;> simp [yup, c]
theorem y_put2 (hM : xOK M) {idx a ci k : Nat} {fs : List xV} {v : xV} (hd : xat M pc = some (.putfield idx, 3)) (hf : M.2.2.2.2.2.2.lookup idx = some (ci, k)) (hfin : xfin ci k = false) (hn : narrow (xty ci k) (den v) = den v) (hfit : fits (xty ci k) (den v) = true) (kk : YW l G M d kc ks Φ (pc + 3) L st (yup h a (ob ci (fs.set k v))) n) (hl : k < fs.length := by exact Nat.le_of_ble_eq_true rfl) : YW l G M d kc ks Φ pc L (v :: vr a :: st) (yup h a (ob ci fs)) n := by
  refine y_put hM hd hf (yup_eq _ _ _) hfin hn hfit ?_ hl
  rw [yup_yup]
  exact kk
theorem y_is2 (hM : xOK M) {a N : Nat} {F : Nat → Int} {z x : Int} (hd : xat M pc = some (.iastore, 1)) (h1 : 0 ≤ z) (h2 : z < N) (kk : YW l G M d kc ks Φ (pc + 1) L st (yup h a (ai N (upZ F z.toNat x))) n) (h3 : z < 2147483648 := by omega) : YW l G M d kc ks Φ pc L (vi x :: vi z :: vr a :: st) (yup h a (ai N F)) n := by
  refine y_is hM hd (yup_eq _ _ _) h1 h2 ?_ h3
  rw [yup_yup]
  exact kk
theorem y_zs (hM : xOK M) {a N : Nat} {F : Nat → Int} {z x : Int} (hd : xat M pc = some (.bastore, 1)) (ha : h a = some (az N F)) (h1 : 0 ≤ z) (h2 : z < N) (hx : x = 0 ∨ x = 1) (kk : YW l G M d kc ks Φ (pc + 1) L st (yup h a (az N (upZ F z.toNat x))) n) (h3 : z < 2147483648 := by omega) : YW l G M d kc ks Φ pc L (vi x :: vi z :: vr a :: st) h n := by
  refine x_zast hM hd (dH_at ha) rfl (iI_in h1 h2 h3) ?_
  rw [iI_nat h1 h3, show vp_nar .boolean (iI x) = iI x by rcases hx with rfl | rfl <;> rfl, upZ_up]
  exact (dH_up h a (az N (upZ F z.toNat x))) ▸ kk
theorem y_qs (hM : xOK M) {a t N v ci : Nat} {vs : List xV} {F : Nat → Option Nat} {z : Int} {r : vw_C} (hd : xat M pc = some (.aastore, 1)) (ha : h a = some (aq t N F)) (hv : h v = some (ob ci vs)) (hc : vwCl[ci]? = some r) (ht : xTys[t]? = some (.object r.1)) (h1 : 0 ≤ z) (h2 : z < N) (kk : YW l G M d kc ks Φ (pc + 1) L st (yup h a (aq t N (va_up F z.toNat (some v)))) n) (h3 : z < 2147483648 := by omega) : YW l G M d kc ks Φ pc L (vr v :: vi z :: vr a :: st) h n := by
  refine x_aast hM hd (dH_at ha) (dH_at hv) hc ht (iI_in h1 h2 h3) ?_
  rw [iI_nat h1 h3]
  exact (dH_up h a (aq t N (va_up F z.toNat (some v)))) ▸ kk
theorem y_new (hM : xOK M) {idx ci N : Nat} {C : String} {T : u_T} {fs : List xV} (hd : xat M pc = some (.new idx, 3)) (hc : vwCl[ci]? = some (C, T, N)) (hw : xmem (.classLink M.1.cls idx C) = true) (hfs : ∀ j, j < N → defaultValue (xty ci j) = vp_V (fs.map den) j) (kk : YW l G M d (kc - 1) (ks - N) Φ (pc + 3) L (vr n :: st) (yup h n (ob ci fs)) (n + 1)) (hkc : 1 ≤ kc := by omega) (hks : N ≤ ks := by omega) : YW l G M d kc ks Φ pc L st h n := by
  refine x_new (fs := fs.map den) hM hd hc (xmem_of hw) hfs hkc hks ?_
  exact (dH_up h n (ob ci fs)) ▸ kk
theorem y_newi (hM : xOK M) {N : Nat} {z : Int} (hd : xat M pc = some (.newarray .int, 2)) (hw : xmem (.arrayClass .int) = true) (hz : z = (N : Int)) (hb2 : N * 4 ≤ 536870912) (kk : YW l G M d (kc - 1) (ks - N) Φ (pc + 2) L (vr n :: st) (yup h n (ai N (fun _ => 0))) (n + 1)) (hkc : 1 ≤ kc := by omega) (hks : N ≤ ks := by omega) : YW l G M d kc ks Φ pc L (vi z :: st) h n := by
  subst hz
  refine x_newi (t := 0) (N := N) hM hd rfl (xmem_of hw) (by rw [← iI_0, iI_lt (by omega) (by omega) (by omega) (by omega)]; omega) (by rw [iI_nat (by omega) (by omega)]; omega) hb2 hkc hks ?_
  exact (dH_up h n (ai N (fun _ => 0))) ▸ kk
theorem y_newz (hM : xOK M) {N : Nat} {z : Int} (hd : xat M pc = some (.newarray .boolean, 2)) (hw : xmem (.arrayClass .boolean) = true) (hz : z = (N : Int)) (hb2 : N * 1 ≤ 536870912) (kk : YW l G M d (kc - 1) (ks - N) Φ (pc + 2) L (vr n :: st) (yup h n (az N (fun _ => 0))) (n + 1)) (hkc : 1 ≤ kc := by omega) (hks : N ≤ ks := by omega) : YW l G M d kc ks Φ pc L (vi z :: st) h n := by
  subst hz
  refine x_newz (t := 1) (N := N) hM hd rfl (xmem_of hw) (by rw [← iI_0, iI_lt (by omega) (by omega) (by omega) (by omega)]; omega) (by rw [iI_nat (by omega) (by omega)]; omega) hb2 hkc hks ?_
  exact (dH_up h n (az N (fun _ => 0))) ▸ kk
theorem y_newq (hM : xOK M) {idx t N : Nat} {C : String} {z : Int} (hd : xat M pc = some (.anewarray idx, 3)) (ht : xTys[t]? = some (.object C)) (hw : xmem (.classLink M.1.cls idx C) = true) (ho : C ∈ xOver) (hz : z = (N : Int)) (hb2 : N * 4 ≤ 536870912) (kk : YW l G M d (kc - 1) (ks - N) Φ (pc + 3) L (vr n :: st) (yup h n (aq t N (fun _ => none))) (n + 1)) (hkc : 1 ≤ kc := by omega) (hks : N ≤ ks := by omega) : YW l G M d kc ks Φ pc L (vi z :: st) h n := by
  subst hz
  refine x_newq (t := t) (N := N) hM hd ht (xmem_of hw) ho (by rw [← iI_0, iI_lt (by omega) (by omega) (by omega) (by omega)]; omega) (by rw [iI_nat (by omega) (by omega)]; omega) hb2 hkc hks ?_
  exact (dH_up h n (aq t N (fun _ => none))) ▸ kk
theorem y_cs (hM : xOK M) {N : xM} (hN : xOK N) (na : Nat) {idx d' mc ms : Nat} {av : List xV} (hd : xat M pc = some (.invokestatic idx, 3)) (hl : (xlb M N idx na && xmem (.static N.1)) = true) (hX : YM l G N d' mc ms av h n Ψ) (hst : st = av.reverse ++ rest) (hna : av.length = na)
    (k : ∀ (v : Option xV) (h' : yH) (n' : Nat), Ψ v h' n' → YW l G M d (kc - mc) (ks - ms) Φ (pc + 3) L (v.toList ++ rest) h' n') (hd' : d' + 1 ≤ d := by omega) (hkc : mc ≤ kc := by omega) (hks : ms ≤ ks := by omega) (hrest : ((mS rest).map fun v => v.category).sum ≤ 8 := by exact Nat.le_of_ble_eq_true rfl) : YW l G M d kc ks Φ pc L st h n := by
  subst hst
  refine x_cs (rest := mS rest) hM hN na hd hl hX (by simp [mS, List.map_append, List.map_reverse]) (by simpa [mS] using hna) ?_ hd' hkc hks hrest
  intro v h' n' hv
  obtain ⟨u, g, rfl, rfl, hu⟩ := hv
  have k' := k u g n' hu
  unfold YW mS at k'
  rw [List.map_append] at k'
  cases u <;> exact k'
theorem y_csn (hM : xOK M) {N : xM} (hN : xOK N) (host : String) (na : Nat) {idx d' mc ms : Nat} {av : List xV} (hd : xat M pc = some (.invokestatic idx, 3)) (hl : (xlnb M N idx na host && xmem (.static N.1)) = true) (hX : YM l G N d' mc ms av h n Ψ) (hst : st = av.reverse ++ rest) (hna : av.length = na)
    (k : ∀ (v : Option xV) (h' : yH) (n' : Nat), Ψ v h' n' → YW l G M d (kc - mc) (ks - ms) Φ (pc + 3) L (v.toList ++ rest) h' n') (hd' : d' + 1 ≤ d := by omega) (hkc : mc ≤ kc := by omega) (hks : ms ≤ ks := by omega) (hrest : ((mS rest).map fun v => v.category).sum ≤ 8 := by exact Nat.le_of_ble_eq_true rfl) : YW l G M d kc ks Φ pc L st h n := by
  subst hst
  refine x_csn (rest := mS rest) hM hN host na hd hl hX (by simp [mS, List.map_append, List.map_reverse]) (by simpa [mS] using hna) ?_ hd' hkc hks hrest
  intro v h' n' hv
  obtain ⟨u, g, rfl, rfl, hu⟩ := hv
  have k' := k u g n' hu
  unfold YW mS at k'
  rw [List.map_append] at k'
  cases u <;> exact k'
theorem y_cv (hM : xOK M) {N : xM} (hN : xOK N) (na : Nat) {idx d' mc ms b ci : Nat} {As fs : List xV} (hd : xat M pc = some (.invokevirtual idx, 3)) (hb : h b = some (ob ci fs)) (hl : (xlb M N idx na && (xmem (.instanceMethod N.1) && (match vwCl[ci]? with | some r => xmem (.selects r.1 N.1 N.1) | none => false))) = true) (hX : YM l G N d' mc ms (vr b :: As) h n Ψ) (hst : st = As.reverse ++ vr b :: rest) (hna : As.length = na)
    (k : ∀ (v : Option xV) (h' : yH) (n' : Nat), Ψ v h' n' → YW l G M d (kc - mc) (ks - ms) Φ (pc + 3) L (v.toList ++ rest) h' n') (hd' : d' + 1 ≤ d := by omega) (hkc : mc ≤ kc := by omega) (hks : ms ≤ ks := by omega) (hrest : ((mS rest).map fun v => v.category).sum ≤ 8 := by exact Nat.le_of_ble_eq_true rfl) : YW l G M d kc ks Φ pc L st h n := by
  subst hst
  refine x_cv (As := mS As) (rest := mS rest) hM hN na hd (dH_at hb) hl hX (by simp [mS, List.map_append, List.map_reverse, den]) (by simpa [mS] using hna) ?_ hd' hkc hks hrest
  intro v h' n' hv
  obtain ⟨u, g, rfl, rfl, hu⟩ := hv
  have k' := k u g n' hu
  unfold YW mS at k'
  rw [List.map_append] at k'
  cases u <;> exact k'
theorem y_ci (hM : xOK M) {N : xM} (hN : xOK N) (na : Nat) {idx d' mc ms b : Nat} {As : List xV} (hd : xat M pc = some (.invokespecial idx, 3)) (hl : (xlb M N idx na && (xmem (.instanceMethod N.1) && (decide (N.1.name = "<init>") && decide (N.2.2.2.1 = none)))) = true) (hX : YM l G N d' mc ms (vr b :: As) h n Ψ) (hst : st = As.reverse ++ vr b :: rest) (hna : As.length = na)
    (k : ∀ (v : Option xV) (h' : yH) (n' : Nat), Ψ v h' n' → YW l G M d (kc - mc) (ks - ms) Φ (pc + 3) L (v.toList ++ rest) h' n') (hd' : d' + 1 ≤ d := by omega) (hkc : mc ≤ kc := by omega) (hks : ms ≤ ks := by omega) (hrest : ((mS rest).map fun v => v.category).sum ≤ 8 := by exact Nat.le_of_ble_eq_true rfl) : YW l G M d kc ks Φ pc L st h n := by
  subst hst
  refine x_ci (As := mS As) (rest := mS rest) hM hN na hd hl hX (by simp [mS, List.map_append, List.map_reverse, den]) (by simpa [mS] using hna) ?_ hd' hkc hks hrest
  intro v h' n' hv
  obtain ⟨u, g, rfl, rfl, hu⟩ := hv
  have k' := k u g n' hu
  unfold YW mS at k'
  rw [List.map_append] at k'
  cases u <;> exact k'
theorem y_ob (hM : xOK M) {idx a : Nat} (hd : xat M pc = some (.invokespecial idx, 3)) (hl : (xmem (.methodLink M.1.cls idx Lib.objectInit) && (xmem (.instanceMethod Lib.objectInit) && xmem (.code Lib.objectInit ⟨#[0xb1]⟩ 1 none))) = true) (k : YW l G M d kc ks Φ (pc + 3) L st h n) (hd1 : 1 ≤ d := by omega) (hrest : ((mS st).map fun v => v.category).sum ≤ 8 := by exact Nat.le_of_ble_eq_true rfl) : YW l G M d kc ks Φ pc L (vr a :: st) h n :=
  x_ob hM hd hl k hd1 hrest
theorem y_mx (hM : xOK M) {idx : Nat} {x y : Int} (hd : xat M pc = some (.invokestatic idx, 3)) (hl : (xmem (.methodLink M.1.cls idx Lib.Math.max.name) && (xmem (.static Lib.Math.max.name) && (xmem (.initialized "java/lang/Math") && xmem (.code Lib.Math.max.name Lib.Math.max.code 2 (some .int))))) = true) (k : YW l G M d kc ks Φ (pc + 3) L (vi (max x y) :: st) h n) (hd1 : 1 ≤ d := by omega) (b1 : -2147483648 ≤ x := by omega) (b2 : x < 2147483648 := by omega) (b3 : -2147483648 ≤ y := by omega) (b4 : y < 2147483648 := by omega) (hrest : ((mS st).map fun v => v.category).sum ≤ 8 := by exact Nat.le_of_ble_eq_true rfl) : YW l G M d kc ks Φ pc L (vi y :: vi x :: st) h n := by
  refine x_mx hM hd hl ?_ hd1 hrest
  have e := iI_lt b1 b2 b3 b4
  have e2 : (if iI x < iI y then iI y else iI x) = iI (max x y) := by
    by_cases c : x < y
    · rw [if_pos (e.mpr c)]; congr 1; omega
    · rw [if_neg (fun q => c (e.mp q))]; congr 1; omega
  rw [e2]
  exact k
theorem y_mn (hM : xOK M) {idx : Nat} {x y : Int} (hd : xat M pc = some (.invokestatic idx, 3)) (hl : (xmem (.methodLink M.1.cls idx Lib.Math.min.name) && (xmem (.static Lib.Math.min.name) && (xmem (.initialized "java/lang/Math") && xmem (.code Lib.Math.min.name Lib.Math.min.code 2 (some .int))))) = true) (k : YW l G M d kc ks Φ (pc + 3) L (vi (min x y) :: st) h n) (hd1 : 1 ≤ d := by omega) (b1 : -2147483648 ≤ x := by omega) (b2 : x < 2147483648 := by omega) (b3 : -2147483648 ≤ y := by omega) (b4 : y < 2147483648 := by omega) (hrest : ((mS st).map fun v => v.category).sum ≤ 8 := by exact Nat.le_of_ble_eq_true rfl) : YW l G M d kc ks Φ pc L (vi y :: vi x :: st) h n := by
  refine x_mn hM hd hl ?_ hd1 hrest
  have e := iI_lt b3 b4 b1 b2
  have e2 : (if iI y < iI x then iI y else iI x) = iI (min x y) := by
    by_cases c : y < x
    · rw [if_pos (e.mpr c)]; congr 1; omega
    · rw [if_neg (fun q => c (e.mp q))]; congr 1; omega
  rw [e2]
  exact k
theorem y_ldc (hM : xOK M) {idx : Nat} {z : Int} (hd : xat M pc = some (.ldc idx, 2)) (hl : xmem (.constant M.1.cls idx (iI z)) = true) (k : YW l G M d kc ks Φ (pc + 2) L (vi z :: st) h n) : YW l G M d kc ks Φ pc L st h n := x_ldc hM hd hl k
theorem y_ldc2 (hM : xOK M) {idx : Nat} {v : Int64} (hd : xat M pc = some (.ldc2_w idx, 3)) (hl : xmem (.constantLong M.1.cls idx v) = true) (k : YW l G M d kc ks Φ (pc + 3) L (vl v :: st) h n) : YW l G M d kc ks Φ pc L st h n := x_ldc2 hM hd hl k
theorem iI_div {x y : Int} (h1 : 0 ≤ x) (h2 : x < 2147483648) (h3 : 0 < y) (h4 : y < 2147483648) : iI x / iI y = iI (x / y) := by
  have e : ∀ z : Int, 0 ≤ z → iI z = nI z.toNat := by
    intro z hz
    show Int32.ofInt z = Int32.ofNat z.toNat
    rw [← Int32.ofInt_eq_ofNat, Int.toNat_of_nonneg hz]
  rw [e x h1, e y (by omega), pk_div (by omega) (by omega) (by omega), e (x / y) (Int.ediv_nonneg h1 (by omega))]
  congr 1
  have := Int.natCast_ediv x.toNat y.toNat
  rw [Int.toNat_of_nonneg h1, Int.toNat_of_nonneg (by omega)] at this
  rw [← this, Int.toNat_natCast]
theorem y_idiv (hM : xOK M) {x y : Int} (hd : xat M pc = some (.idiv, 1)) (h1 : 0 ≤ x) (h2 : x < 2147483648) (h3 : 0 < y) (h4 : y < 2147483648) (k : YW l G M d kc ks Φ (pc + 1) L (vi (x / y) :: st) h n) : YW l G M d kc ks Φ pc L (vi y :: vi x :: st) h n := by
  refine x_idiv hM hd (by rw [← iI_0, iI_eq (by omega) (by omega) (by omega) (by omega)]; omega) ?_
  rw [iI_div h1 h2 h3 h4]
  exact k
theorem y_irem (hM : xOK M) {x y : Int} (hd : xat M pc = some (.irem, 1)) (h1 : 0 ≤ x) (h2 : x < 2147483648) (h3 : 0 < y) (h4 : y < 2147483648) (k : YW l G M d kc ks Φ (pc + 1) L (vi (x % y) :: st) h n) : YW l G M d kc ks Φ pc L (vi y :: vi x :: st) h n := by
  refine x_irem hM hd (by rw [← iI_0, iI_eq (by omega) (by omega) (by omega) (by omega)]; omega) ?_
  rw [iI_div h1 h2 h3 h4, iI_mul, iI_sub, show x - x / y * y = x % y by rw [Int.emod_def, Int.mul_comm]]
  exact k
theorem y_tin (hM : xOK M) {x : Int} {dflt lo hi off : Int} {offs : Array Int} {len tgt : Nat} (hd : xat M pc = some (.tableswitch dflt lo hi offs, len)) (ho : offs[(x - lo).toNat]? = some off) (ht : xtg M pc off = some tgt) (k : YW l G M d kc ks Φ tgt L st h n) (g1 : ¬ x < lo := by omega) (g2 : ¬ hi < x := by omega) (b1 : -2147483648 ≤ x := by omega) (b2 : x < 2147483648 := by omega) : YW l G M d kc ks Φ pc L (vi x :: st) h n :=
  x_tin hM hd (iI_toInt b1 b2) g1 g2 ho ht k
theorem y_tout (hM : xOK M) {x : Int} {dflt lo hi : Int} {offs : Array Int} {len tgt : Nat} (hd : xat M pc = some (.tableswitch dflt lo hi offs, len)) (hv : x < lo ∨ hi < x) (ht : xtg M pc dflt = some tgt) (k : YW l G M d kc ks Φ tgt L st h n) (b1 : -2147483648 ≤ x := by omega) (b2 : x < 2147483648 := by omega) : YW l G M d kc ks Φ pc L (vi x :: st) h n :=
  x_tout hM hd (by rw [iI_toInt b1 b2]; exact hv) ht k
def cpZ (f g : Nat → Int) (sp dp n : Nat) : Nat → Int := fun k => if dp ≤ k ∧ k < dp + n then f (sp + (k - dp)) else g k
theorem y_copy (hM : xOK M) {idx a0 a N0 N1 : Nat} {f g : Nat → Int} {sp dp z : Int} (hd : xat M pc = some (.invokestatic idx, 3)) (hl : (xmem (.methodLink M.1.cls idx arraycopyName) && (xmem (.native arraycopyName) && (xmem (.static arraycopyName) && xmem (.initialized "java/lang/System")))) = true) (ha0 : h a0 = some (ai N0 f)) (ha : h a = some (ai N1 g)) (g1 : 0 ≤ sp) (g2 : 0 ≤ dp) (g3 : 0 ≤ z) (g4 : sp + z ≤ N0) (g5 : dp + z ≤ N1) (c4 : (N0 : Int) < 2147483648) (c5 : (N1 : Int) < 2147483648)
    (kk : YW l G M d kc ks Φ (pc + 3) L st (yup h a (ai N1 (cpZ f g sp.toNat dp.toNat z.toNat))) n) (hd1 : 1 ≤ d := by omega) (hrest : ((mS st).map fun v => v.category).sum ≤ 8 := by exact Nat.le_of_ble_eq_true rfl) : YW l G M d kc ks Φ pc L (vi z :: vi dp :: vr a :: vi sp :: vr a0 :: st) h n := by
  have nz : ∀ {q : Int}, 0 ≤ q → q < 2147483648 → ¬ iI q < 0 := fun h1 h2 => by rw [← iI_0, iI_lt (by omega) h2 (by omega) (by omega)]; omega
  refine x_copy hM hd hl (dH_at ha0) (dH_at ha) rfl (nz g1 (by omega)) (nz g2 (by omega)) (nz g3 (by omega)) (by rw [iI_nat g1 (by omega), iI_nat g3 (by omega)]; omega) (by rw [iI_nat g2 (by omega), iI_nat g3 (by omega)]; omega) ?_ hd1 hrest
  rw [iI_nat g1 (by omega), iI_nat g2 (by omega), iI_nat g3 (by omega)]
  have e : (va_cpy (fun k => iI (f k)) (fun k => iI (g k)) sp.toNat dp.toNat z.toNat) = fun k => iI (cpZ f g sp.toNat dp.toNat z.toNat k) := by
    funext k
    simp only [va_cpy, cpZ]
    split <;> rfl
  rw [e]
  exact (dH_up h a (ai N1 (cpZ f g sp.toNat dp.toNat z.toNat))) ▸ kk
end YR
