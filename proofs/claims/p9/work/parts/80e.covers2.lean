/-! sums, and the pixels of two outlines -/
def sig (w : Nat → Int) : Nat → Int
  | 0 => 0
  | m + 1 => sig w m + w m
theorem sig_cg {w w' : Nat → Int} : ∀ m : Nat, (∀ j, j < m → w j = w' j) → sig w m = sig w' m := by
  intro m
  induction m with
  | zero => intro _; rfl
  | succ m ih =>
    intro h
    show sig w m + w m = sig w' m + w' m
    rw [ih (fun j hj => h j (by omega)), h m (by omega)]
theorem sig_0 : ∀ m : Nat, sig (fun _ => 0) m = 0 := by
  intro m
  induction m with
  | zero => rfl
  | succ m ih =>
    show sig (fun _ => 0) m + 0 = 0
    rw [ih]
    rfl
theorem sig_plus (w w' : Nat → Int) : ∀ m : Nat, sig (fun i => w i + w' i) m = sig w m + sig w' m := by
  intro m
  induction m with
  | zero => rfl
  | succ m ih =>
    show sig (fun i => w i + w' i) m + (w m + w' m) = (sig w m + w m) + (sig w' m + w' m)
    rw [ih]
    omega
theorem sig_add (w : Nat → Int) (a : Nat) : ∀ m : Nat, sig w (a + m) = sig w a + sig (fun i => w (a + i)) m := by
  intro m
  induction m with
  | zero => show sig w a = sig w a + 0; omega
  | succ m ih =>
    show sig w (a + m) + w (a + m) = sig w a + (sig (fun i => w (a + i)) m + w (a + m))
    rw [ih]
    omega
theorem sig_grid (w : Nat → Int) : ∀ N : Nat, sig w (64 * N) = sig (fun i => sig (fun j => w (64 * j + i)) N) 64 := by
  intro N
  induction N with
  | zero =>
    show (0 : Int) = sig (fun _ => 0) 64
    rw [sig_0]
  | succ N ih =>
    rw [show 64 * (N + 1) = 64 * N + 64 by omega, sig_add, ih]
    have e := sig_plus (fun i => sig (fun j => w (64 * j + i)) N) (fun i => w (64 * N + i)) 64
    rw [← e]
    exact sig_cg 64 (fun j _ => rfl)
theorem sig_int (lo hi : Int) : ∀ m : Nat, sig (fun j => if lo ≤ (j : Int) ∧ (j : Int) ≤ hi then 1 else 0) m = max 0 (min hi ((m : Int) - 1) - max lo 0 + 1) := by
  intro m
  induction m with
  | zero =>
    show (0 : Int) = _
    omega
  | succ m ih =>
    show sig (fun j => if lo ≤ (j : Int) ∧ (j : Int) ≤ hi then 1 else 0) m + (if lo ≤ (m : Int) ∧ (m : Int) ≤ hi then 1 else 0) = _
    rw [ih]
    split <;> omega
def hmw (o0 o1 o2 o3 o4 o5 : Int) : Nat → Int := fun m => if o4 ≤ (m : Int) - 32 ∧ (m : Int) - 32 ≤ o5 then max 0 (min (2 * o1 - ((m : Int) - 32) - 1) (2 * o3 + ((m : Int) - 32)) - max (2 * o0 - ((m : Int) - 32)) (2 * o2 + ((m : Int) - 32) + 1) + 1) else 0
theorem hmp_sig (o0 o1 o2 o3 o4 o5 : Int) : ∀ m : Nat, hmp o0 o1 o2 o3 o4 o5 m = sig (hmw o0 o1 o2 o3 o4 o5) m := by
  intro m
  induction m with
  | zero => rfl
  | succ m ih =>
    show hmp o0 o1 o2 o3 o4 o5 m + _ = sig (hmw o0 o1 o2 o3 o4 o5) m + _
    rw [ih]
    rfl
/-- a pixel of an outline -/
def olP (o0 o1 o2 o3 o4 o5 i j : Int) : Prop := o4 ≤ i ∧ i ≤ o5 ∧ 2 * o0 - i ≤ j ∧ 2 * o2 + i + 1 ≤ j ∧ j ≤ 2 * o1 - i - 1 ∧ j ≤ 2 * o3 + i
theorem ol_count {o0 o1 o2 o3 o4 o5 : Int} (b0 : -32 ≤ o0) (b2 : -32 ≤ o2) (b1 : o1 ≤ 32) (b3 : o3 ≤ 32) {w : Nat → Int} (hw : ∀ x : Nat, x < 8192 → (olP o0 o1 o2 o3 o4 o5 ((x : Int) % 64 - 32) ((x : Int) / 64 - 64) → w x = 1) ∧ (¬ olP o0 o1 o2 o3 o4 o5 ((x : Int) % 64 - 32) ((x : Int) / 64 - 64) → w x = 0)) : sig w 8192 = hmp o0 o1 o2 o3 o4 o5 64 := by
  rw [show 8192 = 64 * 128 from rfl, sig_grid, hmp_sig]
  refine sig_cg 64 (fun i hi => ?_)
  have ew : ∀ j : Nat, j < 128 → w (64 * j + i) = if (o4 ≤ (i : Int) - 32 ∧ (i : Int) - 32 ≤ o5) ∧ max (2 * o0 - ((i : Int) - 32)) (2 * o2 + ((i : Int) - 32) + 1) + 64 ≤ (j : Int) ∧ (j : Int) ≤ min (2 * o1 - ((i : Int) - 32) - 1) (2 * o3 + ((i : Int) - 32)) + 64 then 1 else 0 := by
    intro j hj
    have e1 : (((64 * j + i : Nat) : Int)) % 64 - 32 = (i : Int) - 32 := by omega
    have e2 : (((64 * j + i : Nat) : Int)) / 64 - 64 = (j : Int) - 64 := by omega
    obtain ⟨h1, h2⟩ := hw (64 * j + i) (by omega)
    rw [e1, e2] at h1 h2
    split
    · rename_i c
      exact h1 ⟨c.1.1, c.1.2, by omega, by omega, by omega, by omega⟩
    · rename_i c
      refine h2 (fun q => c ?_)
      obtain ⟨q1, q2, q3, q4, q5, q6⟩ := q
      exact ⟨⟨q1, q2⟩, by omega, by omega⟩
  rw [sig_cg 128 ew]
  unfold hmw
  by_cases c : o4 ≤ (i : Int) - 32 ∧ (i : Int) - 32 ≤ o5
  · rw [if_pos c]
    have e := sig_int (max (2 * o0 - ((i : Int) - 32)) (2 * o2 + ((i : Int) - 32) + 1) + 64) (min (2 * o1 - ((i : Int) - 32) - 1) (2 * o3 + ((i : Int) - 32)) + 64) 128
    rw [sig_cg (w' := fun j => if max (2 * o0 - ((i : Int) - 32)) (2 * o2 + ((i : Int) - 32) + 1) + 64 ≤ (j : Int) ∧ (j : Int) ≤ min (2 * o1 - ((i : Int) - 32) - 1) (2 * o3 + ((i : Int) - 32)) + 64 then 1 else 0) 128 (fun j _ => by
      by_cases k : max (2 * o0 - ((i : Int) - 32)) (2 * o2 + ((i : Int) - 32) + 1) + 64 ≤ (j : Int) ∧ (j : Int) ≤ min (2 * o1 - ((i : Int) - 32) - 1) (2 * o3 + ((i : Int) - 32)) + 64
      · rw [if_pos k, if_pos ⟨c, k⟩]
      · rw [if_neg k, if_neg (fun q => k q.2)]), e]
    generalize (i : Int) - 32 = i'
    omega
  · rw [if_neg c, sig_cg (w' := fun _ => 0) 128 (fun j _ => by rw [if_neg (fun q => c q.1)]), sig_0]
theorem hit_iff {x0 x1 y0 y1 z0 z1 i j a c : Int} (hx : x0 < x1) (hy : y0 < y1) (hz : z0 < z1) (ea : a = 2 * j + 2 * i + 1) (ec : c = 2 * j - 2 * i - 1) : (max (4 * x0 - a) (max (4 * y0 - c) (4 * z0)) < -max (a - 4 * x1) (max (c - 4 * y1) (-4 * z1))) ↔ olP (x0 - z1) (x1 - z0) (y0 - z1) (y1 - z0) (x0 - y1) (x1 - y0 - 1) i j := by
  unfold olP
  constructor
  · intro h
    exact ⟨by omega, by omega, by omega, by omega, by omega, by omega⟩
  · rintro ⟨h1, h2, h3, h4, h5, h6⟩
    omega
theorem met_iff {a0 a1 a2 a3 a4 a5 c0 c1 c2 c3 c4 c5 i j : Int} : (olP a0 a1 a2 a3 a4 a5 i j ∧ olP c0 c1 c2 c3 c4 c5 i j) ↔ olP (max a0 c0) (min a1 c1) (max a2 c2) (min a3 c3) (max a4 c4) (min a5 c5) i j := by
  unfold olP
  constructor
  · rintro ⟨⟨h1, h2, h3, h4, h5, h6⟩, g1, g2, g3, g4, g5, g6⟩
    exact ⟨by omega, by omega, by omega, by omega, by omega, by omega⟩
  · rintro ⟨h1, h2, h3, h4, h5, h6⟩
    exact ⟨⟨by omega, by omega, by omega, by omega, by omega, by omega⟩, by omega, by omega, by omega, by omega, by omega, by omega⟩
/-- of two boxes that a ray hits, the one that lies beyond is the nearer -/
theorem mex_lt {x0 x1 y0 y1 z0 z1 u1 v1 w1 a c : Int} (h1 : max (4 * x0 - a) (max (4 * y0 - c) (4 * z0)) < -max (a - 4 * x1) (max (c - 4 * y1) (-4 * z1))) (hl : u1 ≤ x0 ∨ v1 ≤ y0 ∨ w1 ≤ z0) : -max (a - 4 * u1) (max (c - 4 * v1) (-4 * w1)) < -max (a - 4 * x1) (max (c - 4 * y1) (-4 * z1)) := by
  rcases hl with q | q | q <;> omega
def cvw (B : Nat → Int) (p q : Int) : Nat → Int := fun x => if 0 < mexO B p (x : Int) ∧ 0 < mexO B q (x : Int) ∧ mexO B q (x : Int) < mexO B p (x : Int) then 1 else 0
section C80e
variable {l : Launch} {G : xG} {h : yH} {n : Nat}
theorem s_mcoversE {b : Nat} {g : yH} {i0 i1 i2 i3 i4 i5 i6 : Int} {B J : Nat → Int} (hf : RF b g B J i0 i1 i2 i3 i4 i5 i6) (hI : MI b g h) {p q : Int} (hp : inI p) (hq : inI q) : ∀ (m : Nat) (r : Int) (u5 : Option xV) (u6 : Option xV), (8192 - r).toNat < m → 0 ≤ r → r ≤ 8192 → YW l G mX7_covers 3 0 0 (fun r h' n' => r = some (vi (sig (cvw B p q) 8192)) ∧ h' = h ∧ n' = n) 28 [some (vr (b + 540)), some (vi p), some (vi q), some (vi (sig (cvw B p q) r.toNat)), some (vi r), u5, u6] [] h n := by
  intro m
  induction m with
  | zero => intro r u5 u6 hm; exact absurd hm (Nat.not_lt_zero _)
  | succ m ih =>
    intro r u5 u6 hmm j0 j1
    obtain ⟨hm, hB, hJ, hBb, hBs, hBc, hJb, hi1, hi2, hi3, hi4⟩ := id hf
    refine y_run kX7_covers rfl ?_
    refine y_ic_ge kX7_covers rfl rfl (fun c1 => ?_) (fun c1 => ?_)
    · refine y_run kX7_covers rfl ?_
      rw [show r.toNat = 8192 by omega]
      exact y_ir kX7_covers rfl rfl ⟨rfl, rfl, rfl⟩
    · obtain ⟨v1a, v1b, -⟩ := mexO_b hBb p r
      obtain ⟨v2a, v2b, -⟩ := mexO_b hBb q r
      have sx : sig (cvw B p q) (r + 1).toNat = sig (cvw B p q) r.toNat + (if 0 < mexO B p r ∧ 0 < mexO B q r ∧ mexO B q r < mexO B p r then 1 else 0) := by
        rw [show (r + 1).toNat = r.toNat + 1 by omega]
        show sig (cvw B p q) r.toNat + cvw B p q r.toNat = _
        unfold cvw
        rw [show ((r.toNat : Nat) : Int) = r by omega]
      refine y_run kX7_covers rfl ?_
      refine y_cv kX7_covers kX7_exitOf 2 rfl (hI.x (k := 540) rfl hm) (by decide +kernel) (c_mexitOf hf hp (by omega) (by omega) hI) rfl rfl ?_
      rintro _ h2 _ ⟨rfl, eh, rfl⟩
      subst eh
      refine y_run kX7_covers rfl ?_
      refine y_cv kX7_covers kX7_exitOf 2 rfl (hI.x (k := 540) rfl hm) (by decide +kernel) (c_mexitOf hf hq (by omega) (by omega) hI) rfl rfl ?_
      rintro _ h2 _ ⟨rfl, eh, rfl⟩
      subst eh
      have k := fun u5 u6 => ih (r + 1) u5 u6 (by omega) (by omega) (by omega)
      rw [sx] at k
      refine y_run kX7_covers rfl ?_
      refine y_if_le kX7_covers rfl rfl (fun c2 => ?_) (fun c2 => ?_)
      · refine y_run kX7_covers rfl ?_
        rw [if_neg (by omega)] at k
        exact k _ _
      · refine y_run kX7_covers rfl ?_
        refine y_if_le kX7_covers rfl rfl (fun c3 => ?_) (fun c3 => ?_)
        · refine y_run kX7_covers rfl ?_
          rw [if_neg (by omega)] at k
          exact k _ _
        · refine y_run kX7_covers rfl ?_
          refine y_ic_le kX7_covers rfl rfl (fun c4 => ?_) (fun c4 => ?_)
          · refine y_run kX7_covers rfl ?_
            rw [if_neg (by omega)] at k
            exact k _ _
          · refine y_run kX7_covers rfl ?_
            rw [if_pos (by omega)] at k
            exact k _ _
theorem e_mcovers {b : Nat} {g : yH} {i0 i1 i2 i3 i4 i5 i6 : Int} {B J : Nat → Int} (hf : RF b g B J i0 i1 i2 i3 i4 i5 i6) {p q : Int} (hp : inI p) (hq : inI q) (hI : MI b g h) : YM l G mX7_covers 3 0 0 [vr (b + 540), vi p, vi q] h n (fun r h' n' => ∃ z, r = some (vi z) ∧ MI b g h' ∧ n' = n ∧ ((¬ (mT B p ∧ mT B q ∧ p ≠ q) ∧ z = -1) ∨ ((mT B p ∧ mT B q ∧ p ≠ q) ∧ z = sig (cvw B p q) 8192))) := by
  refine YM.of kX7_covers (Nat.le_of_ble_eq_true rfl) (L0 := [some (vr (b + 540)), some (vi p), some (vi q), none, none, none, none]) rfl ?_
  obtain ⟨hm, hB, hJ, hBb, hBs, hBc, hJb, hi1, hi2, hi3, hi4⟩ := id hf
  have hsm : ∀ j, sm (B j) := fun j => ⟨by have := hBb j; omega, by have := hBb j; omega⟩
  refine y_run kX7_covers rfl ?_
  refine y_cv kX7_covers kX7_isThere 1 rfl (hI.x (k := 540) rfl hm) (by decide +kernel) (c_isThere (hI.x (k := 540) rfl hm) (hI.x (k := 541) rfl hB) hsm hp) rfl rfl ?_
  rintro _ h2 _ ⟨⟨rfl, t1⟩ | ⟨rfl, t1⟩, eh, rfl⟩
  · subst eh
    refine y_if_eq kX7_covers rfl rfl (fun e => absurd e (by omega)) (fun _ => ?_)
    refine y_run kX7_covers rfl ?_
    refine y_cv kX7_covers kX7_isThere 1 rfl (hI.x (k := 540) rfl hm) (by decide +kernel) (c_isThere (hI.x (k := 540) rfl hm) (hI.x (k := 541) rfl hB) hsm hq) rfl rfl ?_
    rintro _ h2 _ ⟨⟨rfl, t2⟩ | ⟨rfl, t2⟩, eh, rfl⟩
    · subst eh
      refine y_if_eq kX7_covers rfl rfl (fun e => absurd e (by omega)) (fun _ => ?_)
      refine y_run kX7_covers rfl ?_
      unfold inI at hp hq
      refine y_ic_ne kX7_covers rfl rfl (fun c3 => ?_) (fun c3 => ?_)
      · refine y_run kX7_covers rfl ?_
        refine YW.imp (s_mcoversE hf hI hp hq 8193 0 _ _ (by omega) (by omega) (by omega)) (fun r' h' n' w => ?_)
        obtain ⟨rfl, rfl, rfl⟩ := w
        exact ⟨_, rfl, hI, rfl, Or.inr ⟨⟨t1, t2, c3⟩, rfl⟩⟩
      · refine y_run kX7_covers rfl ?_
        exact y_ir kX7_covers rfl rfl ⟨_, rfl, hI, rfl, Or.inl ⟨fun k => k.2.2 c3, rfl⟩⟩
    · subst eh
      refine y_if_eq kX7_covers rfl rfl (fun _ => ?_) (fun e => absurd rfl e)
      refine y_run kX7_covers rfl ?_
      exact y_ir kX7_covers rfl rfl ⟨_, rfl, hI, rfl, Or.inl ⟨fun k => t2 k.2.1, rfl⟩⟩
  · subst eh
    refine y_if_eq kX7_covers rfl rfl (fun _ => ?_) (fun e => absurd rfl e)
    refine y_run kX7_covers rfl ?_
    exact y_ir kX7_covers rfl rfl ⟨_, rfl, hI, rfl, Or.inl ⟨fun k => t1 k.1, rfl⟩⟩
end C80e
/-- what a box's exit at a pixel says, out of the class's ends -/
theorem mexO_ol {t : Int} {E K R B J : Nat → Int} (hr : REL t E K R B J) (ho : okE t E) {v x a c : Int} (x0 : 0 ≤ x) (x1 : x < 8192) (hv : isT t v) (ea : a = 2 * (x / 64 - 64) + 2 * (x % 64 - 32) + 1) (ec : c = 2 * (x / 64 - 64) - 2 * (x % 64 - 32) - 1) : (0 < mexO B v x ↔ max (4 * E (v * 6).toNat - a) (max (4 * E (v * 6 + 2).toNat - c) (4 * E (v * 6 + 4).toNat)) < -max (a - 4 * E (v * 6 + 1).toNat) (max (c - 4 * E (v * 6 + 3).toNat) (-4 * E (v * 6 + 5).toNat))) ∧ (0 < mexO B v x → mexO B v x = -max (a - 4 * E (v * 6 + 1).toNat) (max (c - 4 * E (v * 6 + 3).toNat) (-4 * E (v * 6 + 5).toNat))) ∧ ((max (4 * E (v * 6).toNat - a) (max (4 * E (v * 6 + 2).toNat - c) (4 * E (v * 6 + 4).toNat)) < -max (a - 4 * E (v * 6 + 1).toNat) (max (c - 4 * E (v * 6 + 3).toNat) (-4 * E (v * 6 + 5).toNat))) ↔ olP (E (v * 6).toNat - E (v * 6 + 5).toNat) (E (v * 6 + 1).toNat - E (v * 6 + 4).toNat) (E (v * 6 + 2).toNat - E (v * 6 + 5).toNat) (E (v * 6 + 3).toNat - E (v * 6 + 4).toNat) (E (v * 6).toNat - E (v * 6 + 3).toNat) (E (v * 6 + 1).toNat - E (v * 6 + 2).toNat - 1) (x % 64 - 32) (x / 64 - 64)) := by
  have hv2 : (0 ≤ v ∧ v < 24) ∧ B (11 * v).toNat = 1 := ⟨hv.1, (hr.1 v hv.1.1 hv.1.2).mp hv.2⟩
  have b0 := hr.2.1 v 0 hv.1.1 hv.1.2 (by omega) (by omega)
  have b1 := hr.2.1 v 1 hv.1.1 hv.1.2 (by omega) (by omega)
  have b2 := hr.2.1 v 2 hv.1.1 hv.1.2 (by omega) (by omega)
  have b3 := hr.2.1 v 3 hv.1.1 hv.1.2 (by omega) (by omega)
  have b4 := hr.2.1 v 4 hv.1.1 hv.1.2 (by omega) (by omega)
  have b5 := hr.2.1 v 5 hv.1.1 hv.1.2 (by omega) (by omega)
  rw [Int.add_zero, Int.add_zero] at b0
  have e : mexO B v x = mex (E (v * 6).toNat) (E (v * 6 + 1).toNat) (E (v * 6 + 2).toNat) (E (v * 6 + 3).toNat) (E (v * 6 + 4).toNat) (E (v * 6 + 5).toNat) a c := by
    unfold mexO
    rw [if_pos hv2, ← b0, ← b1, ← b2, ← b3, ← b4, ← b5, ← ea, ← ec]
  rw [e]
  have w0 := ho.2 v hv 0 (by omega) (by omega)
  have w1 := ho.2 v hv 1 (by omega) (by omega)
  have w2 := ho.2 v hv 2 (by omega) (by omega)
  rw [show v * 6 + 2 * 0 = v * 6 by omega] at w0
  rw [show v * 6 + 2 * 1 = v * 6 + 2 by omega, show v * 6 + 2 + 1 = v * 6 + 3 by omega] at w1
  rw [show v * 6 + 2 * 2 = v * 6 + 4 by omega, show v * 6 + 4 + 1 = v * 6 + 5 by omega] at w2
  have z0 := ho.1 (v * 6 + 4).toNat
  unfold mex
  generalize E (v * 6).toNat = p0 at *
  generalize E (v * 6 + 1).toNat = p1 at *
  generalize E (v * 6 + 2).toNat = p2 at *
  generalize E (v * 6 + 3).toNat = p3 at *
  generalize E (v * 6 + 4).toNat = p4 at *
  generalize E (v * 6 + 5).toNat = p5 at *
  refine ⟨?_, ?_, hit_iff w0 w1 w2 (by omega) (by omega)⟩
  · split
    · rename_i k
      exact ⟨fun _ => k, fun _ => by omega⟩
    · rename_i k
      exact ⟨fun q => absurd q (by omega), fun q => absurd q k⟩
  · intro q
    split
    · rfl
    · rename_i k
      rw [if_neg k] at q
      exact absurd q (by omega)
theorem cv_eq {t : Int} {E K R B J : Nat → Int} (hr : REL t E K R B J) (ho : okE t E) (hd : DJ t E) {p q : Int} (hp : isT t p) (hq : isT t q) (hne : p ≠ q) : (¬ lbP E p q → sig (cvw B p q) 8192 = 0) ∧ (lbP E p q → sig (cvw B p q) 8192 = cvN E p q) := by
  have lt : ∀ u v : Int, isT t u → isT t v → (∃ k : Int, 0 ≤ k ∧ k < 3 ∧ E (v * 6 + 2 * k + 1).toNat ≤ E (u * 6 + 2 * k).toNat) → ∀ x : Int, 0 ≤ x → x < 8192 → 0 < mexO B u x → 0 < mexO B v x → mexO B v x < mexO B u x := by
    intro u v hu hv ⟨k, k0, k1, k2⟩ x x0 x1 g1 g2
    obtain ⟨a1, a2, -⟩ := mexO_ol hr ho x0 x1 hu rfl rfl
    obtain ⟨b1, b2, -⟩ := mexO_ol hr ho x0 x1 hv rfl rfl
    rw [a2 g1, b2 g2]
    refine mex_lt (a1.mp g1) ?_
    rcases (show k = 0 ∨ k = 1 ∨ k = 2 by omega) with rfl | rfl | rfl
    · left
      rw [show v * 6 + 2 * 0 + 1 = v * 6 + 1 by omega, show u * 6 + 2 * 0 = u * 6 by omega] at k2
      exact k2
    · right; left
      rw [show v * 6 + 2 * 1 + 1 = v * 6 + 3 by omega, show u * 6 + 2 * 1 = u * 6 + 2 by omega] at k2
      exact k2
    · right; right
      rw [show v * 6 + 2 * 2 + 1 = v * 6 + 5 by omega, show u * 6 + 2 * 2 = u * 6 + 4 by omega] at k2
      exact k2
  constructor
  · intro hl
    have hb : ∃ k : Int, 0 ≤ k ∧ k < 3 ∧ E (p * 6 + 2 * k + 1).toNat ≤ E (q * 6 + 2 * k).toNat := by
      obtain ⟨k, k0, k1, k2⟩ := hd p q hp hq hne
      rcases k2 with k2 | k2
      · exact ⟨k, k0, k1, k2⟩
      · exact absurd ⟨k, k0, k1, k2⟩ hl
    rw [sig_cg (w' := fun _ => 0) 8192 (fun x hx => ?_), sig_0]
    unfold cvw
    rw [if_neg]
    rintro ⟨g1, g2, g3⟩
    have := lt q p hq hp hb (x : Int) (by omega) (by omega) g2 g1
    omega
  · intro hl
    have e0 := ho.1
    unfold cvN
    refine ol_count ?_ ?_ ?_ ?_ (fun x hx => ?_)
    · have := e0 (p * 6).toNat; have := e0 (p * 6 + 5).toNat; omega
    · have := e0 (p * 6 + 2).toNat; have := e0 (p * 6 + 5).toNat; omega
    · have := e0 (p * 6 + 1).toNat; have := e0 (p * 6 + 4).toNat; omega
    · have := e0 (p * 6 + 3).toNat; have := e0 (p * 6 + 4).toNat; omega
    · obtain ⟨a1, -, a3⟩ := mexO_ol hr ho (x := (x : Int)) (by omega) (by omega) hp rfl rfl
      obtain ⟨b1, -, b3⟩ := mexO_ol hr ho (x := (x : Int)) (by omega) (by omega) hq rfl rfl
      have iff1 : (0 < mexO B p (x : Int) ∧ 0 < mexO B q (x : Int) ∧ mexO B q (x : Int) < mexO B p (x : Int)) ↔ _ := Iff.trans ⟨fun z => ⟨a3.mp (a1.mp z.1), b3.mp (b1.mp z.2.1)⟩, fun z => ⟨a1.mpr (a3.mpr z.1), b1.mpr (b3.mpr z.2), lt p q hp hq hl (x : Int) (by omega) (by omega) (a1.mpr (a3.mpr z.1)) (b1.mpr (b3.mpr z.2))⟩⟩ met_iff
      unfold cvw
      exact ⟨fun z => if_pos (iff1.mpr z), fun z => if_neg (fun y => z (iff1.mp y))⟩