/-! the pieces, exactly: their ends P, owners W, order D, what each covers (U) and what covers it (V) -/
def upS (U : Nat → Nat → Bool) (k : Nat) (X : Nat → Bool) : Nat → Nat → Bool := fun i => if i = k then X else U i
theorem upS_eq (U : Nat → Nat → Bool) (k : Nat) (X : Nat → Bool) : upS U k X k = X := by unfold upS; rw [if_pos rfl]
theorem upS_ne (U : Nat → Nat → Bool) {k i : Nat} (X : Nat → Bool) (hi : i ≠ k) : upS U k X i = U i := by unfold upS; rw [if_neg hi]
def PX (b o : Nat) (h : yH) (P W D : Nat → Int) (U V : Nat → Nat → Bool) : Prop := h (b + (o + 1)) = some (ai 720 P) ∧ h (b + (o + 2)) = some (ai 120 W) ∧ h (b + (o + 3)) = some (ai 96 D) ∧ (∀ k, k < 120 → NA h (b + (o + (10 + 2 * k))) (U k)) ∧ ∀ k, k < 120 → NA h (b + (o + (11 + 2 * k))) (V k)
theorem NA.cg {h : yH} {a : Nat} {S S' : Nat → Bool} (hn : NA h a S) (e : ∀ j, j < 128 → S j = S' j) : NA h a S' := by
  obtain ⟨x, y, q, hb⟩ := hn
  exact ⟨x, y, q, fun k hk => ⟨(hb k hk).1.trans (e k (by omega)), (hb k hk).2.trans (e (64 + k) (by omega))⟩⟩
section C80f
variable {l : Launch} {G : xG} {h h' : yH} {n : Nat} {b o : Nat} {g : yH} {S : Nat → Bool} {a c x : Int} {P W D : Nat → Int} {U V : Nat → Nat → Bool}
theorem PX.on (hX : PX b o h P W D U V) (e : ∀ k, k = 1 ∨ k = 2 ∨ k = 3 ∨ (10 ≤ k ∧ k < 250) → h' (b + (o + k)) = h (b + (o + k))) : PX b o h' P W D U V :=
  ⟨(e 1 (by omega)).trans hX.1, (e 2 (by omega)).trans hX.2.1, (e 3 (by omega)).trans hX.2.2.1, fun k hk => (hX.2.2.2.1 k hk).on (e _ (by omega)), fun k hk => (hX.2.2.2.2 k hk).on (e _ (by omega))⟩
theorem PX.cg (hX : PX b o h P W D U V) {U' V' : Nat → Nat → Bool} (e1 : ∀ i j, i < 120 → j < 128 → U i j = U' i j) (e2 : ∀ i j, i < 120 → j < 128 → V i j = V' i j) : PX b o h P W D U' V' :=
  ⟨hX.1, hX.2.1, hX.2.2.1, fun k hk => (hX.2.2.2.1 k hk).cg (fun j hj => e1 k j hk hj), fun k hk => (hX.2.2.2.2 k hk).cg (fun j hj => e2 k j hk hj)⟩
theorem PX.uU (hX : PX b o h P W D U V) {k : Nat} (hk : k < 120) {X : Nat → Bool} (hu : NU h h' (b + (o + (10 + 2 * k))) X) : PX b o h' P W D (upS U k X) V := by
  refine ⟨(hu.ne (by omega)).trans hX.1, (hu.ne (by omega)).trans hX.2.1, (hu.ne (by omega)).trans hX.2.2.1, fun i hi => ?_, fun i hi => (hX.2.2.2.2 i hi).on (hu.ne (by omega))⟩
  by_cases e : i = k
  · subst e; rw [upS_eq]; exact hu.na
  · rw [upS_ne _ _ e]; exact (hX.2.2.2.1 i hi).on (hu.ne (by omega))
theorem PX.uV (hX : PX b o h P W D U V) {k : Nat} (hk : k < 120) {X : Nat → Bool} (hu : NU h h' (b + (o + (11 + 2 * k))) X) : PX b o h' P W D U (upS V k X) := by
  refine ⟨(hu.ne (by omega)).trans hX.1, (hu.ne (by omega)).trans hX.2.1, (hu.ne (by omega)).trans hX.2.2.1, fun i hi => (hX.2.2.2.1 i hi).on (hu.ne (by omega)), fun i hi => ?_⟩
  by_cases e : i = k
  · subst e; rw [upS_eq]; exact hu.na
  · rw [upS_ne _ _ e]; exact (hX.2.2.2.2 i hi).on (hu.ne (by omega))
theorem PX.Pb (hX : PX b o h P W D U V) (ho : o = 20 ∨ o = 270) (hI : MI b g h) : ∀ j, 0 ≤ P j ∧ P j ≤ 32 := by
  obtain ⟨F, e, hF⟩ := hI.i (t1 ho)
  rw [ai_inj hX.1 e]
  exact hF
def lbB (P : Nat → Int) (p q : Int) : Bool := decide (P (q * 6 + 1).toNat ≤ P (p * 6).toNat) || (decide (P (q * 6 + 3).toNat ≤ P (p * 6 + 2).toNat) || decide (P (q * 6 + 5).toNat ≤ P (p * 6 + 4).toNat))
theorem lbB_iff (P : Nat → Int) (p q : Int) : lbB P p q = true ↔ lbP P p q := by
  unfold lbB lbP
  simp only [Bool.or_eq_true, decide_eq_true_eq]
  constructor
  · rintro (k | k | k)
    · exact ⟨0, by omega, by omega, by rw [show q * 6 + 2 * 0 + 1 = q * 6 + 1 by omega, show p * 6 + 2 * 0 = p * 6 by omega]; exact k⟩
    · exact ⟨1, by omega, by omega, by rw [show q * 6 + 2 * 1 + 1 = q * 6 + 3 by omega, show p * 6 + 2 * 1 = p * 6 + 2 by omega]; exact k⟩
    · exact ⟨2, by omega, by omega, by rw [show q * 6 + 2 * 2 + 1 = q * 6 + 5 by omega, show p * 6 + 2 * 2 = p * 6 + 4 by omega]; exact k⟩
  · rintro ⟨k, k0, k1, k2⟩
    rcases (show k = 0 ∨ k = 1 ∨ k = 2 by omega) with rfl | rfl | rfl
    · left; rw [show q * 6 + 2 * 0 + 1 = q * 6 + 1 by omega, show p * 6 + 2 * 0 = p * 6 by omega] at k2; exact k2
    · right; left; rw [show q * 6 + 2 * 1 + 1 = q * 6 + 3 by omega, show p * 6 + 2 * 1 = p * 6 + 2 by omega] at k2; exact k2
    · right; right; rw [show q * 6 + 2 * 2 + 1 = q * 6 + 5 by omega, show p * 6 + 2 * 2 = p * 6 + 4 by omega] at k2; exact k2
def ovB (P : Nat → Int) (u v p q : Int) : Bool := decide (P (p * 6 + u).toNat - P (p * 6 + v + 1).toNat < P (q * 6 + u + 1).toNat - P (q * 6 + v).toNat) && decide (P (q * 6 + u).toNat - P (q * 6 + v + 1).toNat < P (p * 6 + u + 1).toNat - P (p * 6 + v).toNat)
def cmB (P : Nat → Int) (p q : Int) : Bool := ovB P 0 2 p q && (ovB P 0 4 p q && ovB P 2 4 p q)
theorem ovB_sym (P : Nat → Int) (u v p q : Int) : ovB P u v p q = ovB P u v q p := by unfold ovB; rw [Bool.and_comm]
theorem cmB_sym (P : Nat → Int) (p q : Int) : cmB P p q = cmB P q p := by unfold cmB; rw [ovB_sym P 0 2, ovB_sym P 0 4, ovB_sym P 2 4]

theorem e_overlap (hf : PF b o g S a c x) {u v p q : Int} (u1 : 0 ≤ u) (u2 : u ≤ 4) (v1 : 0 ≤ v) (v2 : v ≤ 4) (p1 : 0 ≤ p) (p2 : p < 120) (q1 : 0 ≤ q) (q2 : q < 120) (hI : MI b g h) (hX : PX b o h P W D U V) : YM l G mX3_overlapBetween 0 0 0 [vr (b + o), vi u, vi v, vi p, vi q] h n (fun r h' n' => r = some (vi (if ovB P u v p q = true then 1 else 0)) ∧ h' = h ∧ n' = n) := by
  refine YM.of kX3_overlapBetween (Nat.le_of_ble_eq_true rfl) (L0 := [some (vr (b + o)), some (vi u), some (vi v), some (vi p), some (vi q), none, none, none, none, none, none]) rfl ?_
  obtain ⟨⟨ho, hw1, hw2, hw3⟩, hp, -⟩ := id hf
  have hP := hX.Pb ho hI
  have e1 := hP (p * 6 + u).toNat
  have e2 := hP (p * 6 + v + 1).toNat
  have e3 := hP (p * 6 + u + 1).toNat
  have e4 := hP (p * 6 + v).toNat
  have e5 := hP (q * 6 + u).toNat
  have e6 := hP (q * 6 + v + 1).toNat
  have e7 := hP (q * 6 + u + 1).toNat
  have e8 := hP (q * 6 + v).toNat
  refine y_run kX3_overlapBetween rfl ?_
  refine m_get kX3_overlapBetween (o) hI hp ?_ (t0 ho)
  refine y_run kX3_overlapBetween rfl ?_
  refine y_ia kX3_overlapBetween rfl hX.1 (by omega) (by omega) ?_
  refine y_run kX3_overlapBetween rfl ?_
  refine m_get kX3_overlapBetween (o) hI hp ?_ (t0 ho)
  refine y_run kX3_overlapBetween rfl ?_
  refine y_ia kX3_overlapBetween rfl hX.1 (by omega) (by omega) ?_
  refine y_run kX3_overlapBetween rfl ?_
  refine m_get kX3_overlapBetween (o) hI hp ?_ (t0 ho)
  refine y_run kX3_overlapBetween rfl ?_
  refine y_ia kX3_overlapBetween rfl hX.1 (by omega) (by omega) ?_
  refine y_run kX3_overlapBetween rfl ?_
  refine m_get kX3_overlapBetween (o) hI hp ?_ (t0 ho)
  refine y_run kX3_overlapBetween rfl ?_
  refine y_ia kX3_overlapBetween rfl hX.1 (by omega) (by omega) ?_
  refine y_run kX3_overlapBetween rfl ?_
  refine m_get kX3_overlapBetween (o) hI hp ?_ (t0 ho)
  refine y_run kX3_overlapBetween rfl ?_
  refine y_ia kX3_overlapBetween rfl hX.1 (by omega) (by omega) ?_
  refine y_run kX3_overlapBetween rfl ?_
  refine m_get kX3_overlapBetween (o) hI hp ?_ (t0 ho)
  refine y_run kX3_overlapBetween rfl ?_
  refine y_ia kX3_overlapBetween rfl hX.1 (by omega) (by omega) ?_
  refine y_run kX3_overlapBetween rfl ?_
  refine m_get kX3_overlapBetween (o) hI hp ?_ (t0 ho)
  refine y_run kX3_overlapBetween rfl ?_
  refine y_ia kX3_overlapBetween rfl hX.1 (by omega) (by omega) ?_
  refine y_run kX3_overlapBetween rfl ?_
  refine m_get kX3_overlapBetween (o) hI hp ?_ (t0 ho)
  refine y_run kX3_overlapBetween rfl ?_
  refine y_ia kX3_overlapBetween rfl hX.1 (by omega) (by omega) ?_
  refine y_run kX3_overlapBetween rfl ?_
  refine y_ic_ge kX3_overlapBetween rfl rfl (fun c1 => ?_) (fun c1 => ?_)
  · refine y_run kX3_overlapBetween rfl ?_
    refine y_zr kX3_overlapBetween rfl rfl (by omega) ⟨?_, rfl, rfl⟩
    rw [if_neg]
    unfold ovB
    simp only [Bool.and_eq_true, decide_eq_true_eq]
    omega
  · refine y_run kX3_overlapBetween rfl ?_
    refine y_ic_ge kX3_overlapBetween rfl rfl (fun c2 => ?_) (fun c2 => ?_)
    · refine y_run kX3_overlapBetween rfl ?_
      refine y_zr kX3_overlapBetween rfl rfl (by omega) ⟨?_, rfl, rfl⟩
      rw [if_neg]
      unfold ovB
      simp only [Bool.and_eq_true, decide_eq_true_eq]
      omega
    · refine y_run kX3_overlapBetween rfl ?_
      refine y_zr kX3_overlapBetween rfl rfl (by omega) ⟨?_, rfl, rfl⟩
      rw [if_pos]
      unfold ovB
      simp only [Bool.and_eq_true, decide_eq_true_eq]
      omega
theorem e_common (hf : PF b o g S a c x) {p q : Int} (p1 : 0 ≤ p) (p2 : p < 120) (q1 : 0 ≤ q) (q2 : q < 120) (hI : MI b g h) (hX : PX b o h P W D U V) : YM l G mX3_haveCommonPixel 1 0 0 [vr (b + o), vi p, vi q] h n (fun r h' n' => r = some (vi (if cmB P p q = true then 1 else 0)) ∧ h' = h ∧ n' = n) := by
  refine YM.of kX3_haveCommonPixel (Nat.le_of_ble_eq_true rfl) (L0 := [some (vr (b + o)), some (vi p), some (vi q)]) rfl ?_
  obtain ⟨⟨ho, hw1, hw2, hw3⟩, hp, -⟩ := id hf
  refine y_run kX3_haveCommonPixel rfl ?_
  refine y_cv kX3_haveCommonPixel kX3_overlapBetween 4 rfl (hI.x (k := o) (t0 ho) hp) (by decide +kernel) (e_overlap hf (by omega) (by omega) (by omega) (by omega) p1 p2 q1 q2 hI hX) rfl rfl ?_
  rintro _ h2 _ ⟨rfl, eh, rfl⟩
  subst eh
  refine y_beq kX3_haveCommonPixel rfl rfl (fun c1 => ?_) (fun c1 => ?_)
  · refine y_run kX3_haveCommonPixel rfl ?_
    refine y_zr kX3_haveCommonPixel rfl rfl (by omega) ⟨?_, rfl, rfl⟩
    rw [if_neg (fun q => c1 (by unfold cmB at q; simp only [Bool.and_eq_true] at q; exact q.1))]
  · refine y_run kX3_haveCommonPixel rfl ?_
    refine y_cv kX3_haveCommonPixel kX3_overlapBetween 4 rfl (hI.x (k := o) (t0 ho) hp) (by decide +kernel) (e_overlap hf (by omega) (by omega) (by omega) (by omega) p1 p2 q1 q2 hI hX) rfl rfl ?_
    rintro _ h2 _ ⟨rfl, eh, rfl⟩
    subst eh
    refine y_beq kX3_haveCommonPixel rfl rfl (fun c2 => ?_) (fun c2 => ?_)
    · refine y_run kX3_haveCommonPixel rfl ?_
      refine y_zr kX3_haveCommonPixel rfl rfl (by omega) ⟨?_, rfl, rfl⟩
      rw [if_neg (fun q => c2 (by unfold cmB at q; simp only [Bool.and_eq_true] at q; exact q.2.1))]
    · refine y_run kX3_haveCommonPixel rfl ?_
      refine y_cv kX3_haveCommonPixel kX3_overlapBetween 4 rfl (hI.x (k := o) (t0 ho) hp) (by decide +kernel) (e_overlap hf (by omega) (by omega) (by omega) (by omega) p1 p2 q1 q2 hI hX) rfl rfl ?_
      rintro _ h2 _ ⟨rfl, eh, rfl⟩
      subst eh
      refine y_beq kX3_haveCommonPixel rfl rfl (fun c3 => ?_) (fun c3 => ?_)
      · refine y_run kX3_haveCommonPixel rfl ?_
        refine y_zr kX3_haveCommonPixel rfl rfl (by omega) ⟨?_, rfl, rfl⟩
        rw [if_neg (fun q => c3 (by unfold cmB at q; simp only [Bool.and_eq_true] at q; exact q.2.2))]
      · refine y_run kX3_haveCommonPixel rfl ?_
        refine y_zr kX3_haveCommonPixel rfl rfl (by omega) ⟨?_, rfl, rfl⟩
        rw [if_pos (by unfold cmB; simp only [Bool.and_eq_true]; exact ⟨c1, c2, c3⟩)]
def relU (P : Nat → Int) (U : Nat → Nat → Bool) (p q : Int) : Nat → Nat → Bool := if lbB P p q = true then upS U p.toNat (fun j => U p.toNat j || decide (j = q.toNat)) else upS U q.toNat (fun j => U q.toNat j || decide (j = p.toNat))
def relV (P : Nat → Int) (V : Nat → Nat → Bool) (p q : Int) : Nat → Nat → Bool := if lbB P p q = true then upS V q.toNat (fun j => V q.toNat j || decide (j = p.toNat)) else upS V p.toNat (fun j => V p.toNat j || decide (j = q.toNat))
theorem e_relate (hf : PF b o g S a c x) {p q : Int} (p1 : 0 ≤ p) (p2 : p < 120) (q1 : 0 ≤ q) (q2 : q < 120) (hI : MI b g h) (hX : PX b o h P W D U V) : YM l G mX3_relate 1 0 0 [vr (b + o), vi p, vi q] h n (fun r h' n' => r = none ∧ MI b g h' ∧ PX b o h' P W D (relU P U p q) (relV P V p q) ∧ n' = n) := by
  refine YM.of kX3_relate (Nat.le_of_ble_eq_true rfl) (L0 := [some (vr (b + o)), some (vi p), some (vi q), none, none, none]) rfl ?_
  obtain ⟨⟨ho, hw1, hw2, hw3⟩, hp, ⟨lo, hi, hL, hLb⟩, ⟨Fb, hFb, hFb2⟩, ⟨Fa, hFa, hFa2⟩⟩ := id hf
  have hP := hX.Pb ho hI
  refine y_run kX3_relate rfl ?_
  refine m_get kX3_relate (o) hI hp ?_ (t0 ho)
  refine y_run kX3_relate rfl ?_
  refine y_csn kX3_relate kX6_liesBeyond "BoxStage" 3 rfl (by decide +kernel) (e_lb hX.1 hP p1 (by omega) q1 (by omega) (by omega)) rfl rfl ?_
  rintro _ h1 _ ⟨⟨rfl, hl⟩ | ⟨rfl, hl⟩, eh, rfl⟩
  · subst eh
    refine y_run kX3_relate rfl ?_
    refine y_if_eq kX3_relate rfl rfl (fun e => absurd e (by omega)) (fun _ => ?_)
    refine y_run kX3_relate rfl ?_
    refine y_if_eq kX3_relate rfl rfl (fun e => absurd e (by omega)) (fun _ => ?_)
    refine y_run kX3_relate rfl ?_
    refine m_get kX3_relate (o) hI hp ?_ (t0 ho)
    refine y_run kX3_relate rfl ?_
    refine y_qa kX3_relate rfl (hI.x (k := o + 5) (t5 ho) hFb) rfl (by omega) (by omega) (hFb2 _ (by omega)) ?_
    refine y_run kX3_relate rfl ?_
    obtain ⟨y1, y2, e1⟩ := (hX.2.2.2.1 p.toNat (by omega)).ob
    refine y_cv kX3_relate kX0_add 1 rfl e1 (by decide +kernel) (c_Nadd (hX.2.2.2.1 p.toNat (by omega)) (v := q) (by omega) (by omega)) rfl rfl ?_
    rintro _ h2 _ ⟨rfl, hu, rfl⟩
    replace hI := hu.mi hI (nT ho (by omega) (by omega))
    replace hX := hX.uU (by omega) hu
    refine y_run kX3_relate rfl ?_
    refine m_get kX3_relate (o) hI hp ?_ (t0 ho)
    refine y_run kX3_relate rfl ?_
    refine y_qa kX3_relate rfl (hI.x (k := o + 6) (t6 ho) hFa) rfl (by omega) (by omega) (hFa2 _ (by omega)) ?_
    refine y_run kX3_relate rfl ?_
    obtain ⟨y1, y2, e1⟩ := (hX.2.2.2.2 q.toNat (by omega)).ob
    refine y_cv kX3_relate kX0_add 1 rfl e1 (by decide +kernel) (c_Nadd (hX.2.2.2.2 q.toNat (by omega)) (v := p) (by omega) (by omega)) rfl rfl ?_
    rintro _ h3 _ ⟨rfl, hu, rfl⟩
    replace hI := hu.mi hI (nT ho (by omega) (by omega))
    replace hX := hX.uV (by omega) hu
    exact y_vr kX3_relate rfl rfl ⟨rfl, hI, by unfold relU relV; rw [if_pos ((lbB_iff P p q).mpr hl), if_pos ((lbB_iff P p q).mpr hl)]; exact hX, rfl⟩
  · subst eh
    refine y_run kX3_relate rfl ?_
    refine y_if_eq kX3_relate rfl rfl (fun _ => ?_) (fun e => absurd rfl e)
    refine y_run kX3_relate rfl ?_
    refine y_if_eq kX3_relate rfl rfl (fun _ => ?_) (fun e => absurd rfl e)
    refine y_run kX3_relate rfl ?_
    refine m_get kX3_relate (o) hI hp ?_ (t0 ho)
    refine y_run kX3_relate rfl ?_
    refine y_qa kX3_relate rfl (hI.x (k := o + 5) (t5 ho) hFb) rfl (by omega) (by omega) (hFb2 _ (by omega)) ?_
    refine y_run kX3_relate rfl ?_
    obtain ⟨y1, y2, e1⟩ := (hX.2.2.2.1 q.toNat (by omega)).ob
    refine y_cv kX3_relate kX0_add 1 rfl e1 (by decide +kernel) (c_Nadd (hX.2.2.2.1 q.toNat (by omega)) (v := p) (by omega) (by omega)) rfl rfl ?_
    rintro _ h2 _ ⟨rfl, hu, rfl⟩
    replace hI := hu.mi hI (nT ho (by omega) (by omega))
    replace hX := hX.uU (by omega) hu
    refine y_run kX3_relate rfl ?_
    refine m_get kX3_relate (o) hI hp ?_ (t0 ho)
    refine y_run kX3_relate rfl ?_
    refine y_qa kX3_relate rfl (hI.x (k := o + 6) (t6 ho) hFa) rfl (by omega) (by omega) (hFa2 _ (by omega)) ?_
    refine y_run kX3_relate rfl ?_
    obtain ⟨y1, y2, e1⟩ := (hX.2.2.2.2 p.toNat (by omega)).ob
    refine y_cv kX3_relate kX0_add 1 rfl e1 (by decide +kernel) (c_Nadd (hX.2.2.2.2 p.toNat (by omega)) (v := q) (by omega) (by omega)) rfl rfl ?_
    rintro _ h3 _ ⟨rfl, hu, rfl⟩
    replace hI := hu.mi hI (nT ho (by omega) (by omega))
    replace hX := hX.uV (by omega) hu
    exact y_vr kX3_relate rfl rfl ⟨rfl, hI, by unfold relU relV; rw [if_neg (fun z => hl ((lbB_iff P p q).mp z)), if_neg (fun z => hl ((lbB_iff P p q).mp z))]; exact hX, rfl⟩
/-- the relation behind the first q turns of bringIn(p), S being those that were not drawn, p among them -/
def biU (P : Nat → Int) (S : Nat → Bool) (U : Nat → Nat → Bool) (p q : Nat) : Nat → Nat → Bool := fun i j => if i = p then decide (j < q) && (decide (j ≠ p) && (S j && (cmB P p j && lbB P p j))) else if j = p ∧ i < q ∧ S i = true then cmB P p i && !lbB P p i else U i j
def biV (P : Nat → Int) (S : Nat → Bool) (V : Nat → Nat → Bool) (p q : Nat) : Nat → Nat → Bool := fun i j => if i = p then decide (j < q) && (decide (j ≠ p) && (S j && (cmB P p j && !lbB P p j))) else if j = p ∧ i < q ∧ S i = true then cmB P p i && lbB P p i else V i j
/-- a turn that changes nothing -/
theorem biU_skip {p q : Nat} (hq : q = p ∨ S q = false) (i j : Nat) : biU P S U p q i j = biU P S U p (q + 1) i j := by
  unfold biU
  by_cases e : i = p
  · rw [if_pos e, if_pos e]
    by_cases c : j = q
    · subst c
      rcases hq with hq | hq
      · simp [hq]
      · simp [hq]
    · rw [show decide (j < q + 1) = decide (j < q) from decide_eq_decide.mpr (by omega)]
  · rw [if_neg e, if_neg e]
    by_cases c : j = p ∧ i < q ∧ S i = true
    · rw [if_pos c, if_pos ⟨c.1, by omega, c.2.2⟩]
    · rw [if_neg c, if_neg]
      rintro ⟨c1, c2, c3⟩
      by_cases k : i = q
      · subst k
        rcases hq with hq | hq
        · exact e hq
        · rw [hq] at c3; cases c3
      · exact c ⟨c1, by omega, c3⟩
theorem biV_skip {p q : Nat} (hq : q = p ∨ S q = false) (i j : Nat) : biV P S V p q i j = biV P S V p (q + 1) i j := by
  unfold biV
  by_cases e : i = p
  · rw [if_pos e, if_pos e]
    by_cases c : j = q
    · subst c
      rcases hq with hq | hq
      · simp [hq]
      · simp [hq]
    · rw [show decide (j < q + 1) = decide (j < q) from decide_eq_decide.mpr (by omega)]
  · rw [if_neg e, if_neg e]
    by_cases c : j = p ∧ i < q ∧ S i = true
    · rw [if_pos c, if_pos ⟨c.1, by omega, c.2.2⟩]
    · rw [if_neg c, if_neg]
      rintro ⟨c1, c2, c3⟩
      by_cases k : i = q
      · subst k
        rcases hq with hq | hq
        · exact e hq
        · rw [hq] at c3; cases c3
      · exact c ⟨c1, by omega, c3⟩
/-- what the turn of q leaves: p is taken out of q's row, and comes in where both have a pixel in common -/
def tnU (P : Nat → Int) (U : Nat → Nat → Bool) (p q : Nat) : Nat → Nat → Bool := if cmB P p q = true then relU P (upS U q (fun j => U q j && !decide (j = p))) (p : Int) (q : Int) else upS U q (fun j => U q j && !decide (j = p))
def tnV (P : Nat → Int) (V : Nat → Nat → Bool) (p q : Nat) : Nat → Nat → Bool := if cmB P p q = true then relV P (upS V q (fun j => V q j && !decide (j = p))) (p : Int) (q : Int) else upS V q (fun j => V q j && !decide (j = p))
theorem biU_turn {p q : Nat} (hpq : q ≠ p) (hS : S q = true) (i j : Nat) : tnU P (biU P S U p q) p q i j = biU P S U p (q + 1) i j := by
  have hR : ∀ X : Nat → Nat → Bool, relU P X (p : Int) (q : Int) = if lbB P p q = true then upS X p (fun j => X p j || decide (j = q)) else upS X q (fun j => X q j || decide (j = p)) := fun X => by unfold relU; simp only [Int.toNat_natCast]
  unfold tnU
  by_cases c : cmB P p q = true
  · rw [if_pos c, hR]
    by_cases lb : lbB P p q = true
    · rw [if_pos lb]
      by_cases e : i = p
      · subst e
        rw [upS_eq, upS_ne _ _ (fun z => hpq z.symm)]
        unfold biU
        rw [if_pos rfl, if_pos rfl]
        by_cases k : j = q
        · subst k; simp [hS, c, lb, hpq]
        · rw [show decide (j < q + 1) = decide (j < q) from decide_eq_decide.mpr (by omega)]; simp [k]
      · rw [upS_ne _ _ e]
        by_cases e2 : i = q
        · subst e2
          rw [upS_eq]
          unfold biU
          rw [if_neg e, if_neg e]
          by_cases k : j = p
          · subst k
            rw [if_neg (by omega), if_pos ⟨rfl, by omega, hS⟩]; simp [lb]
          · rw [if_neg (fun z => k z.1), if_neg (fun z => k z.1)]; simp [k]
        · rw [upS_ne _ _ e2]
          unfold biU
          rw [if_neg e, if_neg e]
          by_cases k : j = p ∧ i < q ∧ S i = true
          · rw [if_pos k, if_pos ⟨k.1, by omega, k.2.2⟩]
          · rw [if_neg k, if_neg (fun z => k ⟨z.1, by omega, z.2.2⟩)]
    · rw [if_neg lb]
      by_cases e2 : i = q
      · subst e2
        rw [upS_eq, upS_eq]
        unfold biU
        rw [if_neg hpq, if_neg hpq]
        by_cases k : j = p
        · subst k
          rw [if_neg (by omega), if_pos ⟨rfl, by omega, hS⟩]; simp [lb, c]
        · rw [if_neg (fun z => k z.1), if_neg (fun z => k z.1)]; simp [k]
      · rw [upS_ne _ _ e2, upS_ne _ _ e2]
        by_cases e : i = p
        · subst e
          unfold biU
          rw [if_pos rfl, if_pos rfl]
          by_cases k : j = q
          · subst k; simp [lb]
          · rw [show decide (j < q + 1) = decide (j < q) from decide_eq_decide.mpr (by omega)]
        · unfold biU
          rw [if_neg e, if_neg e]
          by_cases k : j = p ∧ i < q ∧ S i = true
          · rw [if_pos k, if_pos ⟨k.1, by omega, k.2.2⟩]
          · rw [if_neg k, if_neg (fun z => k ⟨z.1, by omega, z.2.2⟩)]
  · rw [if_neg c]
    by_cases e2 : i = q
    · subst e2
      rw [upS_eq]
      unfold biU
      rw [if_neg hpq, if_neg hpq]
      by_cases k : j = p
      · subst k
        rw [if_neg (by omega), if_pos ⟨rfl, by omega, hS⟩]; simp [c]
      · rw [if_neg (fun z => k z.1), if_neg (fun z => k z.1)]; simp [k]
    · rw [upS_ne _ _ e2]
      by_cases e : i = p
      · subst e
        unfold biU
        rw [if_pos rfl, if_pos rfl]
        by_cases k : j = q
        · subst k; simp [c]
        · rw [show decide (j < q + 1) = decide (j < q) from decide_eq_decide.mpr (by omega)]
      · unfold biU
        rw [if_neg e, if_neg e]
        by_cases k : j = p ∧ i < q ∧ S i = true
        · rw [if_pos k, if_pos ⟨k.1, by omega, k.2.2⟩]
        · rw [if_neg k, if_neg (fun z => k ⟨z.1, by omega, z.2.2⟩)]
theorem biV_turn {p q : Nat} (hpq : q ≠ p) (hS : S q = true) (i j : Nat) : tnV P (biV P S V p q) p q i j = biV P S V p (q + 1) i j := by
  have hR : ∀ X : Nat → Nat → Bool, relV P X (p : Int) (q : Int) = if lbB P p q = true then upS X q (fun j => X q j || decide (j = p)) else upS X p (fun j => X p j || decide (j = q)) := fun X => by unfold relV; simp only [Int.toNat_natCast]
  unfold tnV
  by_cases c : cmB P p q = true
  · rw [if_pos c, hR]
    by_cases lb : lbB P p q = true
    · rw [if_pos lb]
      by_cases e2 : i = q
      · subst e2
        rw [upS_eq, upS_eq]
        unfold biV
        rw [if_neg hpq, if_neg hpq]
        by_cases k : j = p
        · subst k
          rw [if_neg (by omega), if_pos ⟨rfl, by omega, hS⟩]; simp [lb, c]
        · rw [if_neg (fun z => k z.1), if_neg (fun z => k z.1)]; simp [k]
      · rw [upS_ne _ _ e2, upS_ne _ _ e2]
        by_cases e : i = p
        · subst e
          unfold biV
          rw [if_pos rfl, if_pos rfl]
          by_cases k : j = q
          · subst k; simp [lb]
          · rw [show decide (j < q + 1) = decide (j < q) from decide_eq_decide.mpr (by omega)]
        · unfold biV
          rw [if_neg e, if_neg e]
          by_cases k : j = p ∧ i < q ∧ S i = true
          · rw [if_pos k, if_pos ⟨k.1, by omega, k.2.2⟩]
          · rw [if_neg k, if_neg (fun z => k ⟨z.1, by omega, z.2.2⟩)]
    · rw [if_neg lb]
      by_cases e : i = p
      · subst e
        rw [upS_eq, upS_ne _ _ (fun z => hpq z.symm)]
        unfold biV
        rw [if_pos rfl, if_pos rfl]
        by_cases k : j = q
        · subst k; simp [hS, c, lb, hpq]
        · rw [show decide (j < q + 1) = decide (j < q) from decide_eq_decide.mpr (by omega)]; simp [k]
      · rw [upS_ne _ _ e]
        by_cases e2 : i = q
        · subst e2
          rw [upS_eq]
          unfold biV
          rw [if_neg e, if_neg e]
          by_cases k : j = p
          · subst k
            rw [if_neg (by omega), if_pos ⟨rfl, by omega, hS⟩]; simp [lb]
          · rw [if_neg (fun z => k z.1), if_neg (fun z => k z.1)]; simp [k]
        · rw [upS_ne _ _ e2]
          unfold biV
          rw [if_neg e, if_neg e]
          by_cases k : j = p ∧ i < q ∧ S i = true
          · rw [if_pos k, if_pos ⟨k.1, by omega, k.2.2⟩]
          · rw [if_neg k, if_neg (fun z => k ⟨z.1, by omega, z.2.2⟩)]
  · rw [if_neg c]
    by_cases e2 : i = q
    · subst e2
      rw [upS_eq]
      unfold biV
      rw [if_neg hpq, if_neg hpq]
      by_cases k : j = p
      · subst k
        rw [if_neg (by omega), if_pos ⟨rfl, by omega, hS⟩]; simp [c]
      · rw [if_neg (fun z => k z.1), if_neg (fun z => k z.1)]; simp [k]
    · rw [upS_ne _ _ e2]
      by_cases e : i = p
      · subst e
        unfold biV
        rw [if_pos rfl, if_pos rfl]
        by_cases k : j = q
        · subst k; simp [c]
        · rw [show decide (j < q + 1) = decide (j < q) from decide_eq_decide.mpr (by omega)]
      · unfold biV
        rw [if_neg e, if_neg e]
        by_cases k : j = p ∧ i < q ∧ S i = true
        · rw [if_pos k, if_pos ⟨k.1, by omega, k.2.2⟩]
        · rw [if_neg k, if_neg (fun z => k ⟨z.1, by omega, z.2.2⟩)]
end C80f
