/-! the reference: paintAll, exactly -/
def fcM (B : Nat → Int) (v p e : Int) : Int := if e = 4 * B (11 * v + 2).toNat - aX p then 0 else if e = 4 * B (11 * v + 4).toNat - aY p then 1 else 2
def inM (B J : Nat → Int) (v p e f : Int) : Int := yshr (J (8 * B (11 * v + 8 + f).toNat + (if f = 2 then (e + aY p) / 4 % 8 else e / 4 % 8)).toNat) (2 * (if f = 0 then (e + aY p) / 4 % 8 else (e + aX p) / 4 % 8)) % 4
theorem fcM_b (B : Nat → Int) (v p e : Int) : 0 ≤ fcM B v p e ∧ fcM B v p e ≤ 2 := by
  unfold fcM
  split
  · omega
  · split <;> omega
/-- the ink of box v at a pixel, where its ray leaves it -/
def ikM (B J : Nat → Int) (v p : Int) : Int := inM B J v p (mexO B v p) (fcM B v p (mexO B v p))
def vM (B J : Nat → Int) (p : Int) (v : Nat) : Prop := 0 < mexO B (v : Int) p ∧ ikM B J (v : Int) p ≠ 0
def cdM (B J : Nat → Int) (p : Int) (v : Nat) : Int := (v : Int) + 32 * fcM B (v : Int) p (mexO B (v : Int) p) + 128 * (B (11 * (v : Int) + 7).toNat + 16 * ikM B J (v : Int) p)
/-- of the first q boxes the nearest that shows -/
def BCR (B J : Nat → Int) (p : Int) (q : Nat) (x c : Int) : Prop := ((∀ v, v < q → ¬ vM B J p v) ∧ x = 0 ∧ c = -1) ∨ ∃ v, v < q ∧ vM B J p v ∧ x = mexO B (v : Int) p ∧ c = cdM B J p v ∧ ∀ v', v' < q → vM B J p v' → mexO B (v' : Int) p ≤ mexO B (v : Int) p
theorem BCR.no {B J : Nat → Int} {p : Int} {q : Nat} {x c : Int} (h : BCR B J p q x c) (hn : ¬ vM B J p q) : BCR B J p (q + 1) x c := by
  have w : ∀ v, v < q + 1 → vM B J p v → v < q := fun v hv hvm => by
    rcases Nat.lt_or_ge v q with k | k
    · exact k
    · have : v = q := by omega
      rw [this] at hvm; exact absurd hvm hn
  rcases h with ⟨h1, h2⟩ | ⟨v, h1, h2, h3, h4, h5⟩
  · exact Or.inl ⟨fun v hv hvm => h1 v (w v hv hvm) hvm, h2⟩
  · exact Or.inr ⟨v, by omega, h2, h3, h4, fun v' a1 a2 => h5 v' (w v' a1 a2) a2⟩
theorem BCR.lo {B J : Nat → Int} {p : Int} {q : Nat} {x c : Int} (h : BCR B J p q x c) (hv : vM B J p q) (hx : mexO B (q : Int) p < x) : BCR B J p (q + 1) x c := by
  have pos := hv.1
  rcases h with ⟨h1, h2, -⟩ | ⟨v, h1, h2, h3, h4, h5⟩
  · omega
  · refine Or.inr ⟨v, by omega, h2, h3, h4, fun v' a1 a2 => ?_⟩
    rcases Nat.lt_or_ge v' q with k | k
    · exact h5 v' k a2
    · have : v' = q := by omega
      rw [this]; omega
theorem BCR.hi {B J : Nat → Int} {p : Int} {q : Nat} {x c : Int} (h : BCR B J p q x c) (hv : vM B J p q) (hx : ¬ mexO B (q : Int) p < x) : BCR B J p (q + 1) (mexO B (q : Int) p) (cdM B J p q) := by
  refine Or.inr ⟨q, by omega, hv, rfl, rfl, fun v' a1 a2 => ?_⟩
  rcases Nat.lt_or_ge v' q with k | k
  · rcases h with ⟨h1, -⟩ | ⟨v, h1, h2, h3, h4, h5⟩
    · exact absurd a2 (h1 v' k)
    · have := h5 v' k a2
      omega
  · have : v' = q := by omega
    rw [this]; omega
section C80zi
variable {l : Launch} {G : xG} {h h0 : yH} {n : Nat} {b : Nat} {g g0 : yH} {i0 i1 i2 i3 i4 i5 i6 : Int} {B J : Nat → Int}
theorem e_faceOf (hf : RF b g B J i0 i1 i2 i3 i4 i5 i6) {v p e : Int} (n1 : 0 ≤ v) (n2 : v < 24) (p1 : 0 ≤ p) (p2 : p < 8192) (e1 : 0 ≤ e) (e2 : e ≤ 128) (hI : MI b g h) : YM l G mX7_faceOf 1 0 0 [vr (b + 540), vi v, vi p, vi e] h n (fun r h' n' => r = some (vi (fcM B v p e)) ∧ h' = h ∧ n' = n) := by
  refine YM.of kX7_faceOf (Nat.le_of_ble_eq_true rfl) (L0 := [some (vr (b + 540)), some (vi v), some (vi p), some (vi e)]) rfl ?_
  obtain ⟨hm, hB, hJ, hBb, hBs, hBc, hJb, hi1, hi2, hi3, hi4⟩ := id hf
  have b2 := hBb (11 * v + 2).toNat
  have b4 := hBb (11 * v + 4).toNat
  have ax : 2 * (p / 64 - 64) + 2 * (p % 64 - 32) + 1 = aX p := rfl
  have ay : 2 * (p / 64 - 64) - 2 * (p % 64 - 32) - 1 = aY p := rfl
  have axb : -1000 ≤ aX p ∧ aX p ≤ 1000 := by unfold aX; omega
  have ayb : -1000 ≤ aY p ∧ aY p ≤ 1000 := by unfold aY; omega
  refine y_run kX7_faceOf rfl ?_
  refine m_get kX7_faceOf (540) hI hm ?_
  refine y_run kX7_faceOf rfl ?_
  refine y_ia kX7_faceOf rfl (hI.x (k := 541) rfl hB) (by omega) (by omega) ?_
  refine y_run kX7_faceOf rfl ?_
  refine y_cs kX7_faceOf kX7_alongX 1 rfl (by decide +kernel) (c_malongX (by omega) (by omega)) rfl rfl ?_
  rintro _ h2 _ ⟨rfl, eh, rfl⟩
  subst eh
  rw [ax]
  refine y_run kX7_faceOf rfl ?_
  refine y_ic_ne kX7_faceOf rfl rfl (fun c1 => ?_) (fun c1 => ?_)
  · refine y_run kX7_faceOf rfl ?_
    refine m_get kX7_faceOf (540) hI hm ?_
    refine y_run kX7_faceOf rfl ?_
    refine y_ia kX7_faceOf rfl (hI.x (k := 541) rfl hB) (by omega) (by omega) ?_
    refine y_run kX7_faceOf rfl ?_
    refine y_cs kX7_faceOf kX7_alongY 1 rfl (by decide +kernel) (c_malongY (by omega) (by omega)) rfl rfl ?_
    rintro _ h3 _ ⟨rfl, eh, rfl⟩
    subst eh
    rw [ay]
    refine y_run kX7_faceOf rfl ?_
    refine y_ic_ne kX7_faceOf rfl rfl (fun c2 => ?_) (fun c2 => ?_)
    · refine y_run kX7_faceOf rfl ?_
      exact y_ir kX7_faceOf rfl rfl ⟨by unfold fcM; rw [if_neg c1, if_neg c2], rfl, rfl⟩
    · refine y_run kX7_faceOf rfl ?_
      exact y_ir kX7_faceOf rfl rfl ⟨by unfold fcM; rw [if_neg c1, if_pos c2], rfl, rfl⟩
  · refine y_run kX7_faceOf rfl ?_
    exact y_ir kX7_faceOf rfl rfl ⟨by unfold fcM; rw [if_pos c1], rfl, rfl⟩
theorem e_inkOf (hf : RF b g B J i0 i1 i2 i3 i4 i5 i6) {v p e : Int} (n1 : 0 ≤ v) (n2 : v < 24) (p1 : 0 ≤ p) (p2 : p < 8192) (e1 : 0 ≤ e) (e2 : e ≤ 128) (e3 : 0 < e + aX p) (e4 : 0 < e + aY p) (hI : MI b g h) : YM l G mX7_inkOf 2 0 0 [vr (b + 540), vi v, vi p, vi e] h n (fun r h' n' => r = some (vi (inM B J v p e (fcM B v p e))) ∧ h' = h ∧ n' = n) := by
  refine YM.of kX7_inkOf (Nat.le_of_ble_eq_true rfl) (L0 := [some (vr (b + 540)), some (vi v), some (vi p), some (vi e), none, none, none, none, none, none]) rfl ?_
  obtain ⟨hm, hB, hJ, hBb, hBs, hBc, hJb, hi1, hi2, hi3, hi4⟩ := id hf
  have ax : 2 * (p / 64 - 64) + 2 * (p % 64 - 32) + 1 = aX p := rfl
  have ay : 2 * (p / 64 - 64) - 2 * (p % 64 - 32) - 1 = aY p := rfl
  have axb : -1000 ≤ aX p ∧ aX p ≤ 1000 := by unfold aX; omega
  have ayb : -1000 ≤ aY p ∧ aY p ≤ 1000 := by unfold aY; omega
  refine y_run kX7_inkOf rfl ?_
  refine y_cv kX7_inkOf kX7_faceOf 3 rfl (hI.x (k := 540) rfl hm) (by decide +kernel) (e_faceOf hf (by omega) (by omega) (by omega) (by omega) (by omega) (by omega) hI) rfl rfl ?_
  rintro _ h2 _ ⟨rfl, eh, rfl⟩
  subst eh
  obtain ⟨f1, f2⟩ := fcM_b B v p e
  generalize fcM B v p e = f at f1 f2
  have s0 := hBb (11 * v + 8 + f).toNat
  have s8 : B (11 * v + 8 + f).toNat < 8 := by
    have := hBs v (1 + f) n1 n2 (by omega) (by omega)
    rwa [show 11 * v + 7 + (1 + f) = 11 * v + 8 + f by omega] at this
  refine y_run kX7_inkOf rfl ?_
  refine y_cs kX7_inkOf kX7_alongX 1 rfl (by decide +kernel) (c_malongX (by omega) (by omega)) rfl rfl ?_
  rintro _ h3 _ ⟨rfl, eh, rfl⟩
  subst eh
  rw [ax]
  refine y_run kX7_inkOf rfl ?_
  refine y_idiv kX7_inkOf rfl (by omega) (by omega) (by omega) (by omega) ?_
  refine y_run kX7_inkOf rfl ?_
  refine y_irem kX7_inkOf rfl (by omega) (by omega) (by omega) (by omega) ?_
  refine y_run kX7_inkOf rfl ?_
  refine y_cs kX7_inkOf kX7_alongY 1 rfl (by decide +kernel) (c_malongY (by omega) (by omega)) rfl rfl ?_
  rintro _ h4 _ ⟨rfl, eh, rfl⟩
  subst eh
  rw [ay]
  refine y_run kX7_inkOf rfl ?_
  refine y_idiv kX7_inkOf rfl (by omega) (by omega) (by omega) (by omega) ?_
  refine y_run kX7_inkOf rfl ?_
  refine y_irem kX7_inkOf rfl (by omega) (by omega) (by omega) (by omega) ?_
  refine y_run kX7_inkOf rfl ?_
  refine y_idiv kX7_inkOf rfl (by omega) (by omega) (by omega) (by omega) ?_
  refine y_run kX7_inkOf rfl ?_
  refine y_irem kX7_inkOf rfl (by omega) (by omega) (by omega) (by omega) ?_
  refine y_run kX7_inkOf rfl ?_
  refine y_ic_ne kX7_inkOf rfl rfl (fun c1 => ?_) (fun c1 => ?_)
  · refine y_run kX7_inkOf rfl ?_
    refine y_if_ne kX7_inkOf rfl rfl (fun c2 => ?_) (fun c2 => ?_)
    · refine y_run kX7_inkOf rfl ?_
      refine m_get kX7_inkOf (540) hI hm ?_
      refine y_run kX7_inkOf rfl ?_
      refine m_get kX7_inkOf (540) hI hm ?_
      refine y_run kX7_inkOf rfl ?_
      refine y_ia kX7_inkOf rfl (hI.x (k := 541) rfl hB) (by omega) (by omega) ?_
      refine y_run kX7_inkOf rfl ?_
      refine y_ia kX7_inkOf rfl (hI.x (k := 542) rfl hJ) (by omega) (by omega) ?_
      refine y_run kX7_inkOf rfl ?_
      rw [yand_3]
      exact y_ir kX7_inkOf rfl rfl ⟨by unfold inM; rw [if_neg c1, if_neg c2], rfl, rfl⟩
    · refine y_run kX7_inkOf rfl ?_
      refine m_get kX7_inkOf (540) hI hm ?_
      refine y_run kX7_inkOf rfl ?_
      refine m_get kX7_inkOf (540) hI hm ?_
      refine y_run kX7_inkOf rfl ?_
      refine y_ia kX7_inkOf rfl (hI.x (k := 541) rfl hB) (by omega) (by omega) ?_
      refine y_run kX7_inkOf rfl ?_
      refine y_ia kX7_inkOf rfl (hI.x (k := 542) rfl hJ) (by omega) (by omega) ?_
      refine y_run kX7_inkOf rfl ?_
      rw [yand_3]
      exact y_ir kX7_inkOf rfl rfl ⟨by unfold inM; rw [if_neg c1, if_pos c2], rfl, rfl⟩
  · refine y_run kX7_inkOf rfl ?_
    refine y_if_ne kX7_inkOf rfl rfl (fun c3 => ?_) (fun c3 => ?_)
    · refine y_run kX7_inkOf rfl ?_
      refine m_get kX7_inkOf (540) hI hm ?_
      refine y_run kX7_inkOf rfl ?_
      refine m_get kX7_inkOf (540) hI hm ?_
      refine y_run kX7_inkOf rfl ?_
      refine y_ia kX7_inkOf rfl (hI.x (k := 541) rfl hB) (by omega) (by omega) ?_
      refine y_run kX7_inkOf rfl ?_
      refine y_ia kX7_inkOf rfl (hI.x (k := 542) rfl hJ) (by omega) (by omega) ?_
      refine y_run kX7_inkOf rfl ?_
      rw [yand_3]
      exact y_ir kX7_inkOf rfl rfl ⟨by unfold inM; rw [if_pos c1, if_neg c3], rfl, rfl⟩
    · exact absurd c1 (by omega)
theorem s_paint2E (hf : RF b g B J i0 i1 i2 i3 i4 i5 i6) {Φ : Option xV → yH → Nat → Prop} {p : Int} (p1 : 0 ≤ p) (p2 : p < 8192) (kk : ∀ (x : Int) (c : Int) (u4 : Option xV) (u5 : Option xV) (u6 : Option xV) (h : yH), -1 ≤ c → c ≤ 100000 → BCR B J p 24 x c → MI b g h → (∀ q, q ≠ b + 553 → h q = h0 q) → YW l G mX7_paintAll 3 0 0 (Φ) 157 [some (vr (b + 540)), some (vi p), some (vi x), some (vi c), u4, u5, u6] [] h n) : ∀ (m : Nat) (q : Nat) (x : Int) (c : Int) (u5 : Option xV) (u6 : Option xV) (h : yH), 24 - q < m → q ≤ 24 → 0 ≤ x → x ≤ 128 → -1 ≤ c → c ≤ 100000 → BCR B J p q x c → MI b g h → (∀ q, q ≠ b + 553 → h q = h0 q) → YW l G mX7_paintAll 3 0 0 (Φ) 45 [some (vr (b + 540)), some (vi p), some (vi x), some (vi c), some (vi (q : Int)), u5, u6] [] h n := by
  intro m
  induction m with
  | zero => intro q x c u5 u6 h hm; exact absurd hm (Nat.not_lt_zero _)
  | succ m ih =>
    intro q x c u5 u6 h hmm j1 j2 j3 j4 j5 hbc hI fr
    obtain ⟨hm, hB, hJ, hBb, hBs, hBc, hJb, hi1, hi2, hi3, hi4⟩ := id hf
    have nx : ∀ (x : Int) (c : Int) (u5 : Option xV) (u6 : Option xV) (h : yH), 0 ≤ x → x ≤ 128 → -1 ≤ c → c ≤ 100000 → BCR B J p (q + 1) x c → MI b g h → (∀ q, q ≠ b + 553 → h q = h0 q) → q < 24 → YW l G mX7_paintAll 3 0 0 (Φ) 45 [some (vr (b + 540)), some (vi p), some (vi x), some (vi c), some (vi ((q : Int) + 1)), u5, u6] [] h n := fun x c u5 u6 h a1 a2 a3 a4 a5 a6 a7 a8 => by
      refine YW.Le (congrArg (fun z : Int => [some (vr (b + 540)), some (vi p), some (vi x), some (vi c), some (vi z), u5, u6]) (show (q : Int) + 1 = ((q + 1 : Nat) : Int) by omega)) ?_
      exact ih (q + 1) x c u5 u6 h (by omega) (by omega) a1 a2 a3 a4 a5 a6 a7
    refine y_run kX7_paintAll rfl ?_
    refine y_ic_ge kX7_paintAll rfl rfl (fun c1 => ?_) (fun c1 => ?_)
    · have : q = 24 := by omega
      subst this
      exact kk _ _ _ _ _ _ j4 j5 hbc hI fr
    · have hq : q < 24 := by omega
      refine y_run kX7_paintAll rfl ?_
      refine y_cv kX7_paintAll kX7_exitOf 2 rfl (hI.x (k := 540) rfl hm) (by decide +kernel) (c_mexitOf hf ⟨by omega, by omega⟩ (by omega) (by omega) hI) rfl rfl ?_
      rintro _ h2 _ ⟨rfl, eh, rfl⟩
      subst eh
      obtain ⟨v1a, v1b, v1c⟩ := mexO_b hBb (q : Int) p
      refine y_run kX7_paintAll rfl ?_
      refine y_if_le kX7_paintAll rfl rfl (fun c2 => ?_) (fun c2 => ?_)
      · refine y_run kX7_paintAll rfl ?_
        refine y_if_ne kX7_paintAll rfl rfl (fun c3 => absurd c3 (by omega)) (fun c3 => ?_)
        refine y_run kX7_paintAll rfl ?_
        exact nx _ _ _ _ _ j2 j3 j4 j5 (hbc.no (fun z => by have := z.1; omega)) hI fr hq
      · obtain ⟨-, w1, w2, -⟩ := v1c (by omega)
        refine y_run kX7_paintAll rfl ?_
        refine y_cv kX7_paintAll kX7_inkOf 3 rfl (hI.x (k := 540) rfl hm) (by decide +kernel) (e_inkOf hf (by omega) (by omega) (by omega) (by omega) (by omega) (by omega) w1 w2 hI) rfl rfl ?_
        rintro _ h3 _ ⟨rfl, eh, rfl⟩
        subst eh
        have ek : inM B J (q : Int) p (mexO B (q : Int) p) (fcM B (q : Int) p (mexO B (q : Int) p)) = ikM B J (q : Int) p := rfl
        rw [ek]
        have kb : 0 ≤ ikM B J (q : Int) p ∧ ikM B J (q : Int) p ≤ 3 := by unfold ikM inM; omega
        refine y_run kX7_paintAll rfl ?_
        refine y_if_ne kX7_paintAll rfl rfl (fun c4 => ?_) (fun c4 => ?_)
        · have hv : vM B J p q := ⟨by omega, c4⟩
          refine y_run kX7_paintAll rfl ?_
          refine m_get kX7_paintAll (540) hI hm ?_
          refine y_run kX7_paintAll rfl ?_
          obtain ⟨F5, e5, b5⟩ := hI.i (k := 553) (N := 8192) (lo := -2147483648) (hi := 2147483647) rfl
          refine y_ia kX7_paintAll rfl e5 (by omega) (by omega) ?_
          refine y_run kX7_paintAll rfl ?_
          refine YW.nr1 ?_
          refine y_is kX7_paintAll rfl e5 (by omega) (by omega) ?_
          refine YW.genP (P := fun y => MI b g y ∧ ∀ q, q ≠ b + 553 → y q = h0 q) ⟨hI.up (k := 553) rfl ⟨_, rfl, upZ_all (P := fun x => -2147483648 ≤ x ∧ x ≤ 2147483647) b5 _ (nrm_rng _)⟩, fun q hq => (yup_ne _ _ hq).trans (fr q hq)⟩ (fun h4 ⟨hI, fr⟩ => ?_)
          refine y_run kX7_paintAll rfl ?_
          refine y_ic_ge kX7_paintAll rfl rfl (fun c5 => ?_) (fun c5 => ?_)
          · refine y_run kX7_paintAll rfl ?_
            refine y_cv kX7_paintAll kX7_faceOf 3 rfl (hI.x (k := 540) rfl hm) (by decide +kernel) (e_faceOf hf (by omega) (by omega) (by omega) (by omega) (by omega) (by omega) hI) rfl rfl ?_
            rintro _ h5 _ ⟨rfl, eh, rfl⟩
            subst eh
            have fb := fcM_b B (q : Int) p (mexO B (q : Int) p)
            refine y_run kX7_paintAll rfl ?_
            refine m_get kX7_paintAll (540) hI hm ?_
            refine y_run kX7_paintAll rfl ?_
            refine y_ia kX7_paintAll rfl (hI.x (k := 541) rfl hB) (by omega) (by omega) ?_
            have s8 := hBc (q : Int) (by omega) (by omega)
            have s0 := hBb (11 * (q : Int) + 7).toNat
            refine y_run kX7_paintAll rfl ?_
            have ec : (q : Int) + 32 * fcM B (q : Int) p (mexO B (q : Int) p) + 128 * (B (11 * (q : Int) + 7).toNat + 16 * ikM B J (q : Int) p) = cdM B J p q := rfl
            have cb : -1 ≤ cdM B J p q ∧ cdM B J p q ≤ 100000 := by rw [← ec]; omega
            refine YW.Le (congrArg (fun z : Int => [some (vr (b + 540)), some (vi p), some (vi (mexO B (q : Int) p)), some (vi z), some (vi ((q : Int) + 1)), some (vi (mexO B (q : Int) p)), some (vi (ikM B J (q : Int) p))]) ec) ?_
            exact nx _ _ _ _ _ (by omega) (by omega) cb.1 cb.2 (hbc.hi hv (by omega)) hI fr hq
          · refine y_run kX7_paintAll rfl ?_
            exact nx _ _ _ _ _ j2 j3 j4 j5 (hbc.lo hv (by omega)) hI fr hq
        · refine y_run kX7_paintAll rfl ?_
          exact nx _ _ _ _ _ j2 j3 j4 j5 (hbc.no (fun z => z.2 c4)) hI fr hq
/-- while it paints -/
def PNT (b : Nat) (h0 : yH) (B J Pc0 : Nat → Int) (q : Nat) (h : yH) (Pc Pf : Nat → Int) : Prop := h (b + 551) = some (ai 8192 Pc) ∧ h (b + 552) = some (ai 8192 Pf) ∧ (∀ q, q ≠ b + 540 → q ≠ b + 551 → q ≠ b + 552 → q ≠ b + 553 → h q = h0 q) ∧ (∀ k : Nat, k < q → Pf k = Pc0 k ∧ ∃ x, BCR B J (k : Int) 24 x (Pc k)) ∧ ∀ k, q ≤ k → Pc k = Pc0 k
theorem s_paint1E {Pc0 : Nat → Int} (hx1 : pcE (0, 8192, -1, 100000) = true → g0 (b + 551) = none) (hx2 : pcE (0, 8192, -1, 100000) = true → g0 (b + 552) = none) : ∀ (m : Nat) (q : Nat) (g : yH) (i3 : Int) (i4 : Int) (u2 : Option xV) (u3 : Option xV) (u4 : Option xV) (u5 : Option xV) (u6 : Option xV) (h : yH) (Pc Pf : Nat → Int), 8192 - q < m → q ≤ 8192 → SM b g0 g → RF b g B J i0 i1 i2 i3 i4 i5 i6 → MI b g h → PNT b h0 B J Pc0 q h Pc Pf → YW l G mX7_paintAll 3 0 0 (fun r h' n' => ∃ g' i3 i4 Pc Pf, r = none ∧ n' = n ∧ SM b g0 g' ∧ RF b g' B J i0 i1 i2 i3 i4 i5 i6 ∧ MI b g' h' ∧ PNT b h0 B J Pc0 8192 h' Pc Pf) 12 [some (vr (b + 540)), some (vi (q : Int)), u2, u3, u4, u5, u6] [] h n := by
  intro m
  induction m with
  | zero => intro q g i3 i4 u2 u3 u4 u5 u6 h Pc Pf hm; exact absurd hm (Nat.not_lt_zero _)
  | succ m ih =>
    intro q g i3 i4 u2 u3 u4 u5 u6 h Pc Pf hmm j1 hs hf hI hp
    obtain ⟨e51, e52, fr, p1, p2⟩ := id hp
    obtain ⟨hm, hB, hJ, hBb, hBs, hBc, hJb, hi1, hi2, hi3, hi4⟩ := id hf
    have bPc : ∀ j, -1 ≤ Pc j ∧ Pc j ≤ 100000 := by
      obtain ⟨F, e, hF⟩ := hI.i (k := 551) (N := 8192) (lo := -1) (hi := 100000) rfl
      rw [ai_inj e51 e]; exact hF
    have bPf : ∀ j, -1 ≤ Pf j ∧ Pf j ≤ 100000 := by
      obtain ⟨F, e, hF⟩ := hI.i (k := 552) (N := 8192) (lo := -1) (hi := 100000) rfl
      rw [ai_inj e52 e]; exact hF
    refine y_run kX7_paintAll rfl ?_
    refine y_ic_ge kX7_paintAll rfl rfl (fun c1 => ?_) (fun c1 => ?_)
    · have : q = 8192 := by omega
      subst this
      exact y_vr kX7_paintAll rfl rfl ⟨g, i3, i4, Pc, Pf, rfl, rfl, hs, hf, hI, hp⟩
    · have hq : q < 8192 := by omega
      refine y_run kX7_paintAll rfl ?_
      refine m_get kX7_paintAll (540) hI hm ?_
      refine y_run kX7_paintAll rfl ?_
      refine m_get kX7_paintAll (540) hI hm ?_
      refine y_run kX7_paintAll rfl ?_
      refine y_ia kX7_paintAll rfl e51 (by omega) (by omega) ?_
      rw [Int.toNat_natCast]
      refine y_is kX7_paintAll rfl e52 (by omega) (by omega) ?_
      rw [Int.toNat_natCast]
      refine YW.genP (P := fun y => MI b g y ∧ y (b + 551) = some (ai 8192 Pc) ∧ y (b + 552) = some (ai 8192 (upZ Pf q (Pc q))) ∧ ∀ q, q ≠ b + 540 → q ≠ b + 551 → q ≠ b + 552 → q ≠ b + 553 → y q = h0 q) ⟨hI.up (k := 552) rfl ⟨_, rfl, upZ_all (P := fun x => -1 ≤ x ∧ x ≤ 100000) bPf _ (bPc q)⟩ (fun z => (hs _ (by omega)).trans (hx2 z)), (yup_ne _ _ (by omega)).trans e51, yup_eq _ _ _, fun q q1 q2 q3 q4 => (yup_ne _ _ q3).trans (fr q q1 q2 q3 q4)⟩ (fun h2 ⟨hI, e51, e52, fr⟩ => ?_)
      refine y_run kX7_paintAll rfl ?_
      refine m_get kX7_paintAll (540) hI hm ?_
      refine y_run kX7_paintAll rfl ?_
      obtain ⟨F5, e5, b5⟩ := hI.i (k := 553) (N := 8192) (lo := -2147483648) (hi := 2147483647) rfl
      refine y_is kX7_paintAll rfl e5 (by omega) (by omega) ?_
      refine YW.genP (P := fun y => MI b g y ∧ y (b + 551) = some (ai 8192 Pc) ∧ y (b + 552) = some (ai 8192 (upZ Pf q (Pc q))) ∧ ∀ q, q ≠ b + 540 → q ≠ b + 551 → q ≠ b + 552 → q ≠ b + 553 → y q = h0 q) ⟨hI.up (k := 553) rfl ⟨_, rfl, upZ_all (P := fun x => -2147483648 ≤ x ∧ x ≤ 2147483647) b5 _ (by omega)⟩, (yup_ne _ _ (by omega)).trans e51, (yup_ne _ _ (by omega)).trans e52, fun q q1 q2 q3 q4 => (yup_ne _ _ q4).trans (fr q q1 q2 q3 q4)⟩ (fun h3 ⟨hI, e51, e52, fr⟩ => ?_)
      refine y_run kX7_paintAll rfl ?_
      refine YW.Le (congrArg (fun z : Int => [some (vr (b + 540)), some (vi (q : Int)), some (vi 0), some (vi (-1)), some (vi z), u5, u6]) (show (0 : Int) = ((0 : Nat) : Int) by omega)) ?_
      refine s_paint2E (h0 := h3) hf (p := (q : Int)) (by omega) (by omega) (fun x c u4 u5 u6 h4 c0 c2 hbc hI4 fr4 => ?_) 25 0 0 (-1) _ _ h3 (by omega) (by omega) (by omega) (by omega) (by omega) (by omega) (Or.inl ⟨fun v hv => absurd hv (Nat.not_lt_zero _), rfl, rfl⟩) hI (fun _ _ => rfl)
      have f51 := (fr4 (b + 551) (by omega)).trans e51
      have f52 := (fr4 (b + 552) (by omega)).trans e52
      refine y_run kX7_paintAll rfl ?_
      refine m_get kX7_paintAll (540) hI4 hm ?_
      refine y_run kX7_paintAll rfl ?_
      refine y_is kX7_paintAll rfl f51 (by omega) (by omega) ?_
      rw [Int.toNat_natCast]
      refine YW.genP (P := fun y => MI b g y ∧ PNT b h0 B J Pc0 (q + 1) y (upZ Pc q c) (upZ Pf q (Pc q))) ⟨hI4.up (k := 551) rfl ⟨_, rfl, upZ_all (P := fun x => -1 ≤ x ∧ x ≤ 100000) bPc _ ⟨c0, c2⟩⟩ (fun z => (hs _ (by omega)).trans (hx1 z)), yup_eq _ _ _, (yup_ne _ _ (by omega)).trans f52, fun q q1 q2 q3 q4 => (yup_ne _ _ q2).trans ((fr4 q q4).trans (fr q q1 q2 q3 q4)), fun k hk => ?_, fun k hk => ?_⟩ (fun h5 ⟨hI5, hp5⟩ => ?_)
      · by_cases e : k = q
        · subst e
          rw [upZ_eq, upZ_eq]
          exact ⟨p2 k (by omega), x, hbc⟩
        · rw [upZ_ne _ _ e, upZ_ne _ _ e]
          exact p1 k (by omega)
      · rw [upZ_ne _ _ (by omega)]
        exact p2 k (by omega)
      have fin : ∀ (g' : yH) (h' : yH) (k3 k4 : Int) (u2 u3 u4 u5 u6 : Option xV), SM b g0 g' → RF b g' B J i0 i1 i2 k3 k4 i5 i6 → MI b g' h' → (∀ q, q ≠ b + 540 → h' q = h5 q) → YW l G mX7_paintAll 3 0 0 (fun r h' n' => ∃ g' i3 i4 Pc Pf, r = none ∧ n' = n ∧ SM b g0 g' ∧ RF b g' B J i0 i1 i2 i3 i4 i5 i6 ∧ MI b g' h' ∧ PNT b h0 B J Pc0 8192 h' Pc Pf) 12 [some (vr (b + 540)), some (vi ((q : Int) + 1)), u2, u3, u4, u5, u6] [] h' n := fun g' h' k3 k4 u2 u3 u4 u5 u6 a1 a2 a3 a4 => by
        refine YW.Le (congrArg (fun z : Int => [some (vr (b + 540)), some (vi z), u2, u3, u4, u5, u6]) (show (q : Int) + 1 = ((q + 1 : Nat) : Int) by omega)) ?_
        obtain ⟨z1, z2, z3, z4⟩ := hp5
        exact ih (q + 1) g' k3 k4 u2 u3 u4 u5 u6 h' _ _ (by omega) (by omega) a1 a2 a3 ⟨(a4 _ (by omega)).trans z1, (a4 _ (by omega)).trans z2, fun q q1 q2 q3 q4 => (a4 q q1).trans (z3 q q1 q2 q3 q4), z4⟩
      refine y_run kX7_paintAll rfl ?_
      refine m_get kX7_paintAll (540) hI5 hm ?_
      refine y_run kX7_paintAll rfl ?_
      refine y_ic_ne kX7_paintAll rfl rfl (fun c6 => ?_) (fun c6 => ?_)
      · refine y_run kX7_paintAll rfl ?_
        refine m_pMX (k0 := i0) (k1 := i1) (k2 := i2) (k4 := i4) (k5 := i5) (k6 := i6) kX7_paintAll hI5 hf hs (fun g6 h6 hs6 hf6 hI6 fr6 => ?_) ⟨_, rfl, rfl, Nat.le_of_ble_eq_true rfl⟩ hi1 hi2 hi3 hi4
        refine y_run kX7_paintAll rfl ?_
        refine m_get kX7_paintAll (540) hI6 hf6.1 ?_
        refine y_run kX7_paintAll rfl ?_
        refine m_get kX7_paintAll (540) hI6 hf6.1 ?_
        refine y_run kX7_paintAll rfl ?_
        refine m_ia kX7_paintAll (553) hI6 rfl (fun v1 v1a v1b => ?_)
        refine y_run kX7_paintAll rfl ?_
        refine m_pMX (k0 := i0) (k1 := i1) (k2 := i2) (k5 := i5) (k6 := i6) kX7_paintAll hI6 hf6 hs6 (fun g7 h7 hs7 hf7 hI7 fr7 => ?_) ⟨_, rfl, rfl, Nat.le_of_ble_eq_true rfl⟩ hi1 hi2 hi3 hi4
        refine y_run kX7_paintAll rfl ?_
        exact fin _ _ _ _ _ _ _ _ _ hs7 hf7 hI7 (fun q hq => (fr7 q hq).trans (fr6 q hq))
      · refine y_run kX7_paintAll rfl ?_
        refine m_pMX (k0 := i0) (k1 := i1) (k2 := i2) (k4 := i4) (k5 := i5) (k6 := i6) kX7_paintAll hI5 hf hs (fun g6 h6 hs6 hf6 hI6 fr6 => ?_) ⟨_, rfl, rfl, Nat.le_of_ble_eq_true rfl⟩ hi1 hi2 hi3 hi4
        refine y_run kX7_paintAll rfl ?_
        refine m_get kX7_paintAll (540) hI6 hf6.1 ?_
        refine y_run kX7_paintAll rfl ?_
        refine m_get kX7_paintAll (540) hI6 hf6.1 ?_
        refine y_run kX7_paintAll rfl ?_
        refine m_ia kX7_paintAll (553) hI6 rfl (fun v1 v1a v1b => ?_)
        refine y_run kX7_paintAll rfl ?_
        refine m_pMX (k0 := i0) (k1 := i1) (k2 := i2) (k5 := i5) (k6 := i6) kX7_paintAll hI6 hf6 hs6 (fun g7 h7 hs7 hf7 hI7 fr7 => ?_) ⟨_, rfl, rfl, Nat.le_of_ble_eq_true rfl⟩ hi1 hi2 hi3 hi4
        refine y_run kX7_paintAll rfl ?_
        exact fin _ _ _ _ _ _ _ _ _ hs7 hf7 hI7 (fun q hq => (fr7 q hq).trans (fr6 q hq))
theorem e_paintAll {Pc : Nat → Int} (hf : RF b g B J i0 i1 i2 i3 i4 i5 i6) (hx1 : pcE (0, 8192, -1, 100000) = true → g (b + 551) = none) (hx2 : pcE (0, 8192, -1, 100000) = true → g (b + 552) = none) (e51 : h (b + 551) = some (ai 8192 Pc)) (hI : MI b g h) : YM l G mX7_paintAll 3 0 0 [vr (b + 540)] h n (fun r h' n' => ∃ g' i3 i4 Pc' Pf', r = none ∧ n' = n ∧ SM b g g' ∧ RF b g' B J i0 i1 i2 i3 i4 i5 i6 ∧ MI b g' h' ∧ PNT b h B J Pc 8192 h' Pc' Pf') := by
  refine YM.of kX7_paintAll (Nat.le_of_ble_eq_true rfl) (L0 := [some (vr (b + 540)), none, none, none, none, none, none]) rfl ?_
  obtain ⟨hm, hB, hJ, hBb, hBs, hBc, hJb, hi1, hi2, hi3, hi4⟩ := id hf
  have hs := SM.r b g
  obtain ⟨Pf, e52, -⟩ := hI.i (k := 552) (N := 8192) (lo := -1) (hi := 100000) rfl
  refine y_run kX7_paintAll rfl ?_
  refine m_pMX (k0 := i0) (k1 := i1) (k2 := i2) (k4 := i4) (k5 := i5) (k6 := i6) kX7_paintAll hI hf hs (fun g6 h6 hs6 hf6 hI6 fr6 => ?_) ⟨_, rfl, rfl, Nat.le_of_ble_eq_true rfl⟩ hi1 hi2 hi3 hi4
  refine y_run kX7_paintAll rfl ?_
  refine m_pMX (k0 := i0) (k1 := i1) (k2 := i2) (k5 := i5) (k6 := i6) kX7_paintAll hI6 hf6 hs6 (fun g7 h7 hs7 hf7 hI7 fr7 => ?_) ⟨_, rfl, rfl, Nat.le_of_ble_eq_true rfl⟩ hi1 hi2 hi3 hi4
  refine y_run kX7_paintAll rfl ?_
  refine YW.Le (congrArg (fun z : Int => [some (vr (b + 540)), some (vi z), none, none, none, none, none]) (show (0 : Int) = ((0 : Nat) : Int) by omega)) ?_
  exact s_paint1E hx1 hx2 8193 0 g7 _ _ _ _ _ _ _ h7 Pc Pf (by omega) (by omega) hs7 hf7 hI7 ⟨(fr7 _ (by omega)).trans ((fr6 _ (by omega)).trans e51), (fr7 _ (by omega)).trans ((fr6 _ (by omega)).trans e52), fun q q1 _ _ _ => (fr7 q q1).trans (fr6 q q1), fun k hk => absurd hk (Nat.not_lt_zero _), fun k _ => rfl⟩
end C80zi
