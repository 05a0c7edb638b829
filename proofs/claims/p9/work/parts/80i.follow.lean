/-! all to which a relation leads -/
def TC (D : Nat → Nat → Prop) (i j : Nat) : Prop := ∀ X : Nat → Prop, (∀ k, D i k → X k) → (∀ k m, X k → D k m → X m) → X j
theorem TC.base {D : Nat → Nat → Prop} {i j : Nat} (h : D i j) : TC D i j := fun _ h1 _ => h1 j h
theorem TC.step {D : Nat → Nat → Prop} {i k j : Nat} (h1 : TC D i k) (h2 : D k j) : TC D i j := fun X x1 x2 => x2 k j (h1 X x1 x2) h2
theorem TC.trans {D : Nat → Nat → Prop} {i k j : Nat} (h1 : TC D i k) (h2 : TC D k j) : TC D i j := h2 (fun m => TC D i m) (fun _ h => h1.step h) (fun _ _ h g => h.step g)
theorem TC.head {D : Nat → Nat → Prop} {i k j : Nat} (h1 : D i k) (h2 : TC D k j) : TC D i j := (TC.base h1).trans h2
/-- the last step -/
theorem TC.last {D : Nat → Nat → Prop} {i j : Nat} (h : TC D i j) : D i j ∨ ∃ k, TC D i k ∧ D k j := by
  have := h (fun m => TC D i m ∧ (D i m ∨ ∃ k, TC D i k ∧ D k m)) (fun k hk => ⟨TC.base hk, Or.inl hk⟩) (fun k m hk hm => ⟨hk.1.step hm, Or.inr ⟨k, hk.1, hm⟩⟩)
  exact this.2
theorem TC.mono {D D' : Nat → Nat → Prop} {i j : Nat} (h : TC D i j) (hD : ∀ k, D i k → D' i k) (hD2 : ∀ k m, TC D' i k → D k m → D' k m) : TC D' i j := by
  have := h (fun m => TC D' i m) (fun k hk => TC.base (hD k hk)) (fun k m hk hm => hk.step (hD2 k m hk hm))
  exact this
theorem TC.rev {D : Nat → Nat → Prop} {i j : Nat} (h : TC (fun p q => D q p) i j) : TC D j i := by
  exact h (fun m => TC D m i) (fun _ hk => TC.base hk) (fun _ _ hk hm => TC.head hm hk)
theorem crd_mono {A B : Nat → Bool} : ∀ m : Nat, (∀ j, j < m → A j = true → B j = true) → crd A m ≤ crd B m := by
  intro m
  induction m with
  | zero => intro _; exact Nat.le_refl _
  | succ m ih =>
    intro h
    have := ih (fun j hj => h j (by omega))
    unfold crd
    cases e : A m with
    | false => simp; split <;> omega
    | true => rw [h m (by omega) e]; simp; exact this
section C80i
variable {l : Launch} {G : xG} {h h' : yH} {n : Nat} {b o : Nat} {g : yH} {S : Nat → Bool} {a c x : Int} {P W D : Nat → Int} {U V : Nat → Nat → Bool}
def PFo (b o φ : Nat) (g h : yH) (n : Nat) (P W D : Nat → Int) (U V : Nat → Nat → Bool) (Q : Nat → Prop) : Option xV → yH → Nat → Prop := fun r h' n' => ∃ X : Nat → Bool, r = none ∧ MI b g h' ∧ PX b o h' P W D U V ∧ NA h' (b + (o + φ)) X ∧ (∀ j, j < 128 → (X j = true ↔ Q j)) ∧ (∀ q, q ≠ b + (o + φ) → q ≠ b + (o + 9) → h' q = h q) ∧ n' = n
theorem s_followE (hf : PF b o g S a c x) (hS : ∀ k, S k = true → k < 120) (hS2 : crd S 128 < 120) {kr ε φ : Nat} {Fr : Nat → Option Nat} {Rr : Nat → Nat → Bool} {p : Nat} (p2 : p < 120) (hk : rTb kr = none) (hr : g (b + kr) = some (aq 3 120 Fr)) (hr2 : ∀ k, k < 120 → Fr k = some (b + (o + (ε + 2 * k)))) (hε : ε = 10 ∨ ε = 11) (hφ : φ = 7 ∨ φ = 8) {h0 : yH} (hR : ∀ h1, PX b o h1 P W D U V → ∀ k, k < 120 → NA h1 (b + (o + (ε + 2 * k))) (Rr k)) : ∀ (m : Nat) (q : Nat) (u5 : Option xV) (X S9 : Nat → Bool) (h : yH), 120 - q < m → q ≤ 120 → MI b g h → PX b o h P W D U V → NA h (b + (o + φ)) X → NA h (b + (o + 9)) S9 → (∀ z, z ≠ b + (o + φ) → z ≠ b + (o + 9) → h z = h0 z) → crd X 128 = q → (∀ k, k < 128 → X k = true → S k = true ∧ TC (fun i j => S j = true ∧ j < 128 ∧ Rr i j = true) p k) → (∀ k, k < 128 → S9 k = true → X k = false ∧ S k = true ∧ TC (fun i j => S j = true ∧ j < 128 ∧ Rr i j = true) p k) → (∀ j, S j = true → j < 128 → Rr p j = true → X j = true ∨ S9 j = true) → (∀ k j, k < 128 → X k = true → S j = true → j < 128 → Rr k j = true → X j = true ∨ S9 j = true) → YW l G mX3_follow 2 0 0 (PFo b o φ g h0 n P W D U V (TC (fun i j => S j = true ∧ j < 128 ∧ Rr i j = true) p)) 28 [some (vr (b + o)), some (vr (b + kr)), some (vi (p : Int)), some (vr (b + (o + φ))), some (vi (q : Int)), u5] [] h n := by
  intro m
  induction m with
  | zero => intro q u5 X S9 h hm; exact absurd hm (Nat.not_lt_zero _)
  | succ m ih =>
    intro q u5 X S9 h hmm j1 hI hX hN7 hN hfr hcr i1 i2 i3 i4
    obtain ⟨⟨ho, hw1, hw2, hw3⟩, hp, -⟩ := id hf
    have hle : crd X 128 ≤ crd S 128 := crd_mono 128 (fun j hj e => (i1 j hj e).1)
    refine y_run kX3_follow rfl ?_
    refine y_ic_ge kX3_follow rfl rfl (fun c1 => absurd c1 (by omega)) (fun c1 => ?_)
    refine y_run kX3_follow rfl ?_
    refine m_get kX3_follow (o) hI hp ?_ (t0 ho)
    obtain ⟨x9, y9, e9⟩ := hN.ob
    refine y_cv kX3_follow kX0_isEmpty 0 rfl e9 (by decide +kernel) (c_NisEmpty hN) rfl rfl ?_
    rintro _ h1 _ ⟨⟨rfl, q1⟩ | ⟨rfl, q1⟩, eh, rfl⟩
    · subst eh
      refine y_if_ne kX3_follow rfl rfl (fun _ => ?_) (fun q => absurd q (by omega))
      refine y_vr kX3_follow rfl rfl ⟨X, rfl, hI, hX, hN7, fun j hj => ⟨fun e => (i1 j hj e).2, fun e => ?_⟩, hfr, rfl⟩
      have := e (fun k => k < 128 ∧ X k = true) (fun k hk => ⟨hk.2.1, ?_⟩) (fun k m hk hm => ⟨hm.2.1, ?_⟩)
      · exact this.2
      · rcases i3 k hk.1 hk.2.1 hk.2.2 with z | z
        · exact z
        · rw [q1 k hk.2.1] at z; cases z
      · rcases i4 k m hk.1 hk.2 hm.1 hm.2.1 hm.2.2 with z | z
        · exact z
        · rw [q1 m hm.2.1] at z; cases z
    · subst eh
      refine y_if_ne kX3_follow rfl rfl (fun q => absurd rfl q) (fun _ => ?_)
      refine y_run kX3_follow rfl ?_
      refine m_get kX3_follow (o) hI hp ?_ (t0 ho)
      refine y_cv kX3_follow kX0_lowest 0 rfl e9 (by decide +kernel) (c_Nlowest hN q1) rfl rfl ?_
      rintro _ h2 _ ⟨⟨k, k1, k2, k3, rfl⟩, eh, rfl⟩
      subst eh
      obtain ⟨s1, s2, s3⟩ := i2 k k1 k2
      have k4 : k < 120 := hS k s2
      refine y_run kX3_follow rfl ?_
      obtain ⟨xf, yf, ef⟩ := hN7.ob
      refine y_cv kX3_follow kX0_add 1 rfl ef (by decide +kernel) (c_Nadd hN7 (v := (k : Int)) (by omega) (by omega)) rfl rfl ?_
      rintro _ h3 _ ⟨rfl, hu, rfl⟩
      replace hI := hu.mi hI (nT ho (by omega) (by omega))
      replace hN := hN.on (hu.ne (by omega))
      replace hX := hX.on (h' := h3) (fun j hj => hu.ne (by omega))
      have hfr3 : ∀ z, z ≠ b + (o + φ) → z ≠ b + (o + 9) → h3 z = h0 z := fun z z1 z2 => (hu.ne z1).trans (hfr z z1 z2)
      have hN7 := hu.na
      rw [Int.toNat_natCast] at hN7
      refine y_run kX3_follow rfl ?_
      refine m_get kX3_follow (o) hI hp ?_ (t0 ho)
      refine y_run kX3_follow rfl ?_
      refine y_qa kX3_follow rfl (hI.x (k := kr) hk hr) rfl (by omega) (by omega) (hr2 _ (by omega)) ?_
      obtain ⟨x9, y9, e9⟩ := hN.ob
      have hNr := hR h3 hX (k : Int).toNat (by omega)
      refine y_cv kX3_follow kX0_addAll 1 rfl e9 (by decide +kernel) (c_NaddAll hN hNr (by omega)) rfl rfl ?_
      rintro _ h4 _ ⟨rfl, hu, rfl⟩
      replace hI := hu.mi hI (nT ho (by omega) (by omega))
      replace hX := hX.on (h' := h4) (fun j hj => hu.ne (by omega))
      have hfr4 : ∀ z, z ≠ b + (o + φ) → z ≠ b + (o + 9) → h4 z = h0 z := fun z z1 z2 => (hu.ne z2).trans (hfr3 z z1 z2)
      replace hN7 := hN7.on (hu.ne (by omega))
      have hN := hu.na
      refine y_run kX3_follow rfl ?_
      refine m_get kX3_follow (o) hI hp ?_ (t0 ho)
      refine y_run kX3_follow rfl ?_
      refine m_get kX3_follow (o) hI hp ?_ (t0 ho)
      obtain ⟨x9, y9, e9⟩ := hN.ob
      refine y_cv kX3_follow kX0_keepThoseIn 1 rfl e9 (by decide +kernel) (c_NkeepThoseIn hN (hf.na hI) (by omega)) rfl rfl ?_
      rintro _ h5 _ ⟨rfl, hu, rfl⟩
      replace hI := hu.mi hI (nT ho (by omega) (by omega))
      replace hX := hX.on (h' := h5) (fun j hj => hu.ne (by omega))
      have hfr5 : ∀ z, z ≠ b + (o + φ) → z ≠ b + (o + 9) → h5 z = h0 z := fun z z1 z2 => (hu.ne z2).trans (hfr4 z z1 z2)
      replace hN7 := hN7.on (hu.ne (by omega))
      have hN := hu.na
      refine y_run kX3_follow rfl ?_
      refine m_get kX3_follow (o) hI hp ?_ (t0 ho)
      refine y_run kX3_follow rfl ?_
      obtain ⟨x9, y9, e9⟩ := hN.ob
      refine y_cv kX3_follow kX0_removeAll 1 rfl e9 (by decide +kernel) (c_NremoveAll hN hN7 (by omega)) rfl rfl ?_
      rintro _ h6 _ ⟨rfl, hu, rfl⟩
      replace hI := hu.mi hI (nT ho (by omega) (by omega))
      replace hX := hX.on (h' := h6) (fun j hj => hu.ne (by omega))
      have hfr6 : ∀ z, z ≠ b + (o + φ) → z ≠ b + (o + 9) → h6 z = h0 z := fun z z1 z2 => (hu.ne z2).trans (hfr5 z z1 z2)
      replace hN7 := hN7.on (hu.ne (by omega))
      have hN := hu.na
      rw [Int.toNat_natCast] at hN
      have hca := crd_add (S := X) (v := k) 128 k1 s1
      refine y_run kX3_follow rfl ?_
      refine YW.Le (congrArg (fun z : Int => [some (vr (b + o)), some (vr (b + kr)), some (vi (p : Int)), some (vr (b + (o + φ))), some (vi z), some (vi (k : Int))]) (show (q : Int) + 1 = ((q + 1 : Nat) : Int) by omega)) ?_
      refine ih (q + 1) _ (fun j => X j || decide (j = k)) (fun j => ((S9 j || Rr k j) && S j) && !(X j || decide (j = k))) h6 (by omega) (by omega) hI hX hN7 hN hfr6 (by rw [hca]; omega) (fun j hj e => ?_) (fun j hj e => ?_) (fun j j1 j2 j3 => ?_) (fun i j hi e j1 j2 j3 => ?_)
      · simp only [Bool.or_eq_true, decide_eq_true_eq] at e
        rcases e with e | e
        · exact i1 j hj e
        · subst e; exact ⟨s2, s3⟩
      · simp only [Bool.and_eq_true, Bool.or_eq_true, Bool.not_eq_true', Bool.or_eq_false_iff] at e
        obtain ⟨⟨e1, e2⟩, e3, e4⟩ := e
        refine ⟨by simp only [Bool.or_eq_false_iff]; exact ⟨e3, e4⟩, e2, ?_⟩
        rcases e1 with e1 | e1
        · exact (i2 j hj e1).2.2
        · exact s3.step ⟨e2, hj, e1⟩
      · rcases i3 j j1 j2 j3 with z | z
        · left; simp [z]
        · by_cases q : X j = true ∨ j = k
          · left; rcases q with q | q <;> simp [q]
          · right
            have q1 : X j = false := by cases w : X j with
              | false => rfl
              | true => exact absurd (Or.inl w) q
            simp [z, j1, q1, show j ≠ k from fun w => q (Or.inr w)]
      · by_cases q : X j = true ∨ j = k
        · left; rcases q with q | q <;> simp [q]
        · have q1 : X j = false := by cases w : X j with
            | false => rfl
            | true => exact absurd (Or.inl w) q
          have q2 : j ≠ k := fun w => q (Or.inr w)
          simp only [Bool.or_eq_true, decide_eq_true_eq] at e
          right
          rcases e with e | e
          · rcases i4 i j hi e j1 j2 j3 with z | z
            · rw [z] at q1; cases q1
            · simp [z, j1, q1, q2]
          · subst e
            simp [j3, j1, q1, q2]
theorem e_follow (hf : PF b o g S a c x) (hS : ∀ k, S k = true → k < 120) (hS2 : crd S 128 < 120) {kr ε φ : Nat} {Fr : Nat → Option Nat} {Rr : Nat → Nat → Bool} {p : Nat} (p2 : p < 120) (hk : rTb kr = none) (hr : g (b + kr) = some (aq 3 120 Fr)) (hr2 : ∀ k, k < 120 → Fr k = some (b + (o + (ε + 2 * k)))) (hε : ε = 10 ∨ ε = 11) (hφ : φ = 7 ∨ φ = 8) (hR : ∀ h1, PX b o h1 P W D U V → ∀ k, k < 120 → NA h1 (b + (o + (ε + 2 * k))) (Rr k)) (hI : MI b g h) (hX : PX b o h P W D U V) : YM l G mX3_follow 2 0 0 [vr (b + o), vr (b + kr), vi (p : Int), vr (b + (o + φ))] h n (PFo b o φ g h n P W D U V (TC (fun i j => S j = true ∧ j < 128 ∧ Rr i j = true) p)) := by
  refine YM.of kX3_follow (Nat.le_of_ble_eq_true rfl) (L0 := [some (vr (b + o)), some (vr (b + kr)), some (vi (p : Int)), some (vr (b + (o + φ))), none, none]) rfl ?_
  obtain ⟨⟨ho, hw1, hw2, hw3⟩, hp, -⟩ := id hf
  refine y_run kX3_follow rfl ?_
  obtain ⟨xf, yf, ef⟩ := hI.n (k := o + φ) (nT ho (by omega) (by omega))
  refine y_cv kX3_follow kX0_clear 0 rfl ef (by decide +kernel) (c_Nclear (NA_any ef)) rfl rfl ?_
  rintro _ h1 _ ⟨rfl, hu, rfl⟩
  replace hI := hu.mi hI (nT ho (by omega) (by omega))
  replace hX := hX.on (h' := h1) (fun j hj => hu.ne (by omega))
  have hfr1 : ∀ z, z ≠ b + (o + φ) → z ≠ b + (o + 9) → h1 z = h z := fun z z1 _ => hu.ne z1
  have hN7 := hu.na
  refine y_run kX3_follow rfl ?_
  refine m_get kX3_follow (o) hI hp ?_ (t0 ho)
  refine y_run kX3_follow rfl ?_
  refine y_qa kX3_follow rfl (hI.x (k := kr) hk hr) rfl (by omega) (by omega) (hr2 _ (by omega)) ?_
  obtain ⟨x9, y9, e9⟩ := hI.n (k := o + 9) (nT ho (by omega) (by omega))
  have hNr := hR h1 hX (p : Int).toNat (by omega)
  refine y_cv kX3_follow kX0_copyFrom 1 rfl e9 (by decide +kernel) (c_NcopyFrom (NA_any e9) hNr (by omega)) rfl rfl ?_
  rintro _ h2 _ ⟨rfl, hu, rfl⟩
  replace hI := hu.mi hI (nT ho (by omega) (by omega))
  replace hX := hX.on (h' := h2) (fun j hj => hu.ne (by omega))
  have hfr2 : ∀ z, z ≠ b + (o + φ) → z ≠ b + (o + 9) → h2 z = h z := fun z z1 z2 => (hu.ne z2).trans (hfr1 z z1 z2)
  replace hN7 := hN7.on (hu.ne (by omega))
  have hN := hu.na
  refine y_run kX3_follow rfl ?_
  refine m_get kX3_follow (o) hI hp ?_ (t0 ho)
  refine y_run kX3_follow rfl ?_
  refine m_get kX3_follow (o) hI hp ?_ (t0 ho)
  obtain ⟨x9, y9, e9⟩ := hN.ob
  refine y_cv kX3_follow kX0_keepThoseIn 1 rfl e9 (by decide +kernel) (c_NkeepThoseIn hN (hf.na hI) (by omega)) rfl rfl ?_
  rintro _ h3 _ ⟨rfl, hu, rfl⟩
  replace hI := hu.mi hI (nT ho (by omega) (by omega))
  replace hX := hX.on (h' := h3) (fun j hj => hu.ne (by omega))
  have hfr3 : ∀ z, z ≠ b + (o + φ) → z ≠ b + (o + 9) → h3 z = h z := fun z z1 z2 => (hu.ne z2).trans (hfr2 z z1 z2)
  replace hN7 := hN7.on (hu.ne (by omega))
  have hN := hu.na
  rw [Int.toNat_natCast] at hN
  refine y_run kX3_follow rfl ?_
  refine YW.Le (congrArg (fun z : Int => [some (vr (b + o)), some (vr (b + kr)), some (vi (p : Int)), some (vr (b + (o + φ))), some (vi z), none]) (show (0 : Int) = ((0 : Nat) : Int) by omega)) ?_
  refine s_followE hf hS hS2 p2 hk hr hr2 hε hφ hR 121 0 _ (fun _ => false) (fun j => Rr p j && S j) h3 (by omega) (by omega) hI hX hN7 hN hfr3 (crd_0 128) (fun j hj e => by cases e) (fun j hj e => ?_) (fun j j1 j2 j3 => ?_) (fun i j hi e => by cases e)
  · simp only [Bool.and_eq_true] at e
    exact ⟨rfl, e.2, TC.base ⟨e.2, hj, e.1⟩⟩
  · right; simp [j1, j3]
theorem e_findTangle (hf : PF b o g S a c x) (hS : ∀ k, S k = true → k < 120) (hS2 : crd S 128 < 120) {p : Nat} (p2 : p < 120) (hI : MI b g h) (hX : PX b o h P W D U V) : YM l G mX3_findTangle 3 0 0 [vr (b + o), vi (p : Int)] h n (fun r h' n' => ∃ X : Nat → Bool, r = none ∧ MI b g h' ∧ PX b o h' P W D U V ∧ NA h' (b + (o + 7)) X ∧ (∀ j, j < 128 → (X j = true ↔ (TC (fun i j => S j = true ∧ j < 128 ∧ U i j = true) p j ∧ TC (fun i j => S j = true ∧ j < 128 ∧ V i j = true) p j))) ∧ n' = n) := by
  refine YM.of kX3_findTangle (Nat.le_of_ble_eq_true rfl) (L0 := [some (vr (b + o)), some (vi (p : Int))]) rfl ?_
  obtain ⟨⟨ho, hw1, hw2, hw3⟩, hp, hLL, ⟨Fb, hFb, hFb2⟩, ⟨Fa, hFa, hFa2⟩⟩ := id hf
  refine y_run kX3_findTangle rfl ?_
  refine m_get kX3_findTangle (o) hI hp ?_ (t0 ho)
  refine y_run kX3_findTangle rfl ?_
  refine m_get kX3_findTangle (o) hI hp ?_ (t0 ho)
  refine y_cv kX3_findTangle kX3_follow 3 rfl (hI.x (k := o) (t0 ho) hp) (by decide +kernel) (e_follow (φ := 7) (Rr := U) hf hS hS2 p2 (t5 ho) hFb hFb2 (Or.inl rfl) (Or.inl rfl) (fun h1 q => q.2.2.2.1) hI hX) rfl rfl ?_
  rintro _ h1 _ ⟨X1, rfl, hI, hX, hN1, hq1, hfr, rfl⟩
  refine y_run kX3_findTangle rfl ?_
  refine m_get kX3_findTangle (o) hI hp ?_ (t0 ho)
  refine y_run kX3_findTangle rfl ?_
  refine m_get kX3_findTangle (o) hI hp ?_ (t0 ho)
  refine y_cv kX3_findTangle kX3_follow 3 rfl (hI.x (k := o) (t0 ho) hp) (by decide +kernel) (e_follow (φ := 8) (Rr := V) hf hS hS2 p2 (t6 ho) hFa hFa2 (Or.inr rfl) (Or.inr rfl) (fun h1 q => q.2.2.2.2) hI hX) rfl rfl ?_
  rintro _ h2 _ ⟨X2, rfl, hI, hX, hN2, hq2, hfr2, rfl⟩
  replace hN1 := hN1.on (hfr2 _ (by omega) (by omega))
  refine y_run kX3_findTangle rfl ?_
  refine m_get kX3_findTangle (o) hI hp ?_ (t0 ho)
  refine y_run kX3_findTangle rfl ?_
  refine m_get kX3_findTangle (o) hI hp ?_ (t0 ho)
  obtain ⟨x7, y7, e7⟩ := hN1.ob
  refine y_cv kX3_findTangle kX0_keepThoseIn 1 rfl e7 (by decide +kernel) (c_NkeepThoseIn hN1 hN2 (by omega)) rfl rfl ?_
  rintro _ h3 _ ⟨rfl, hu, rfl⟩
  replace hI := hu.mi hI (nT ho (by omega) (by omega))
  replace hX := hX.on (h' := h3) (fun j hj => hu.ne (by omega))
  refine y_vr kX3_findTangle rfl rfl ⟨_, rfl, hI, hX, hu.na, fun j hj => ?_, rfl⟩
  simp only [Bool.and_eq_true]
  rw [hq1 j hj, hq2 j hj]
end C80i
