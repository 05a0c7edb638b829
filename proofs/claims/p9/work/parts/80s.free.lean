/-! the class: the lowest piece that is free, and the lowest plane that cuts -/
def FRU (S : Nat → Bool) (U : Nat → Nat → Bool) (f : Nat) : Prop := S f = true ∧ ∀ j, j < 128 → (U f j && S j) = false
def inX (P : Nat → Int) (X : Nat → Bool) (p ax m : Nat) (v : Int) : Prop := (P (6 * p + 2 * ax) < v ∧ v < P (6 * p + 2 * ax + 1)) ∧ ∃ j, j < m ∧ X j = true ∧ (v = P (6 * j + 2 * ax) ∨ v = P (6 * j + 2 * ax + 1))
def zI (P : Nat → Int) (X : Nat → Bool) (p ax m : Nat) (z : Int) : Prop := z ≤ P (6 * p + 2 * ax + 1) ∧ (z = P (6 * p + 2 * ax + 1) ∨ inX P X p ax m z) ∧ ∀ v, inX P X p ax m v → z ≤ v
theorem inX_up {P : Nat → Int} {X : Nat → Bool} {p ax m : Nat} {v : Int} (h : inX P X p ax m v) : inX P X p ax (m + 1) v := by
  obtain ⟨h1, j, j1, j2, j3⟩ := h
  exact ⟨h1, j, by omega, j2, j3⟩
theorem zI_skip {P : Nat → Int} {X : Nat → Bool} {p ax q : Nat} {z : Int} (hz : zI P X p ax q z) (hX : ¬ X q = true) : zI P X p ax (q + 1) z := by
  obtain ⟨h1, h2, h3⟩ := hz
  refine ⟨h1, h2.imp id inX_up, fun v hv => ?_⟩
  obtain ⟨k1, j, j1, j2, j3⟩ := hv
  by_cases e : j = q
  · subst e; exact absurd j2 hX
  · exact h3 v ⟨k1, j, by omega, j2, j3⟩
theorem zI_step {P : Nat → Int} {X : Nat → Bool} {p ax q : Nat} {z z' : Int} (hz : zI P X p ax q z) (hX : X q = true) (h1 : z' = z ∨ (z' = P (6 * q + 2 * ax) ∧ P (6 * p + 2 * ax) < P (6 * q + 2 * ax)) ∨ (z' = P (6 * q + 2 * ax + 1) ∧ P (6 * p + 2 * ax) < P (6 * q + 2 * ax + 1))) (h2 : z' ≤ z) (h3 : P (6 * p + 2 * ax) < P (6 * q + 2 * ax) → z' ≤ P (6 * q + 2 * ax)) (h4 : P (6 * p + 2 * ax) < P (6 * q + 2 * ax + 1) → z' ≤ P (6 * q + 2 * ax + 1)) : zI P X p ax (q + 1) z' := by
  obtain ⟨k1, k2, k3⟩ := hz
  refine ⟨by omega, ?_, fun v hv => ?_⟩
  · rcases h1 with rfl | ⟨e, l⟩ | ⟨e, l⟩
    · exact k2.imp id inX_up
    · by_cases w : z' = P (6 * p + 2 * ax + 1)
      · exact Or.inl w
      · exact Or.inr ⟨⟨by omega, by omega⟩, q, by omega, hX, Or.inl e⟩
    · by_cases w : z' = P (6 * p + 2 * ax + 1)
      · exact Or.inl w
      · exact Or.inr ⟨⟨by omega, by omega⟩, q, by omega, hX, Or.inr e⟩
  · obtain ⟨⟨w1, w2⟩, j, j1, j2, j3⟩ := hv
    by_cases e : j = q
    · subst e
      rcases j3 with j3 | j3
      · have := h3 (by omega); omega
      · have := h4 (by omega); omega
    · have := k3 v ⟨⟨w1, w2⟩, j, by omega, j2, j3⟩
      omega
section C80s
variable {l : Launch} {G : xG} {h h' : yH} {n : Nat} {b o : Nat} {g : yH} {S : Nat → Bool} {a c x : Int} {P W D : Nat → Int} {U V : Nat → Nat → Bool}
def PFr (b o : Nat) (g : yH) (n : Nat) (x : Int) (S : Nat → Bool) (P W D : Nat → Int) (U V : Nat → Nat → Bool) : Option xV → yH → Nat → Prop := fun r h' n' => ((r = some (vi (-1)) ∧ ∀ f : Nat, (f : Int) < x → ¬ FRU S U f) ∨ ∃ f : Nat, r = some (vi (f : Int)) ∧ (f : Int) < x ∧ FRU S U f ∧ ∀ f', f' < f → ¬ FRU S U f') ∧ MI b g h' ∧ PX b o h' P W D U V ∧ n' = n
theorem s_lowestFreeE (hf : PF b o g S a c x) (x1 : 0 ≤ x) (x2 : x ≤ 120) : ∀ (m : Nat) (q : Nat) (h : yH), x.toNat - q < m → (q : Int) ≤ x → MI b g h → PX b o h P W D U V → (∀ f, f < q → ¬ FRU S U f) → YW l G mX3_lowestFree 1 0 0 (PFr b o g n x S P W D U V) 2 [some (vr (b + o)), some (vi (q : Int))] [] h n := by
  intro m
  induction m with
  | zero => intro q h hm; exact absurd hm (Nat.not_lt_zero _)
  | succ m ih =>
    intro q h hmm j1 hI hX hno
    obtain ⟨⟨ho, hw1, hw2, hw3⟩, hp, ⟨lo, hi, hL, hLb⟩, ⟨Fb, hFb, hFb2⟩, ⟨Fa, hFa, hFa2⟩⟩ := id hf
    have nx : ∀ h', MI b g h' → PX b o h' P W D U V → ¬ FRU S U q → (q : Int) < x → YW l G mX3_lowestFree 1 0 0 (PFr b o g n x S P W D U V) 2 [some (vr (b + o)), some (vi ((q : Int) + 1))] [] h' n := fun h' i1 i2 i3 i4 => by
      refine YW.Le (congrArg (fun z : Int => [some (vr (b + o)), some (vi z)]) (show (q : Int) + 1 = ((q + 1 : Nat) : Int) by omega)) ?_
      refine ih (q + 1) h' (by omega) (by omega) i1 i2 (fun f hf' => ?_)
      by_cases e : f = q
      · subst e; exact i3
      · exact hno f (by omega)
    refine y_run kX3_lowestFree rfl ?_
    refine m_get kX3_lowestFree (o) hI hp ?_ (t0 ho)
    refine y_ic_ge kX3_lowestFree rfl rfl (fun c1 => ?_) (fun c1 => ?_)
    · refine y_run kX3_lowestFree rfl ?_
      exact y_ir kX3_lowestFree rfl rfl ⟨Or.inl ⟨rfl, fun f hf' => hno f (by omega)⟩, hI, hX, rfl⟩
    · refine y_run kX3_lowestFree rfl ?_
      refine m_get kX3_lowestFree (o) hI hp ?_ (t0 ho)
      refine y_run kX3_lowestFree rfl ?_
      refine y_cv kX3_lowestFree kX0_has 1 rfl (hI.x (k := o + 4) (t4 ho) hL) (by decide +kernel) (w_Lhas hf hI (by omega) (by omega)) rfl rfl ?_
      rintro _ h2 _ ⟨rfl, eh, rfl⟩
      subst eh
      refine y_beq kX3_lowestFree rfl rfl (fun c2 => ?_) (fun c2 => ?_)
      · refine y_run kX3_lowestFree rfl ?_
        rw [Int.toNat_natCast] at c2
        exact nx _ hI hX (fun z => c2 z.1) (by omega)
      · rw [Int.toNat_natCast] at c2
        refine y_run kX3_lowestFree rfl ?_
        refine m_get kX3_lowestFree (o) hI hp ?_ (t0 ho)
        refine y_run kX3_lowestFree rfl ?_
        refine y_qa kX3_lowestFree rfl (hI.x (k := o + 5) (t5 ho) hFb) rfl (by omega) (by omega) (hFb2 _ (by omega)) ?_
        refine y_run kX3_lowestFree rfl ?_
        refine m_get kX3_lowestFree (o) hI hp ?_ (t0 ho)
        obtain ⟨y1, y2, e1⟩ := (hX.2.2.2.1 (q : Int).toNat (by omega)).ob
        refine y_cv kX3_lowestFree kX0_meets 1 rfl e1 (by decide +kernel) (c_Nmeets (hX.2.2.2.1 (q : Int).toNat (by omega)) (hf.na hI)) rfl rfl ?_
        rintro _ h3 _ ⟨hr, eh, rfl⟩
        subst eh
        rw [Int.toNat_natCast] at hr
        rcases hr with ⟨rfl, hr⟩ | ⟨rfl, hr⟩
        · refine y_if_ne kX3_lowestFree rfl rfl (fun e => absurd rfl e) (fun _ => ?_)
          refine y_run kX3_lowestFree rfl ?_
          exact y_ir kX3_lowestFree rfl rfl ⟨Or.inr ⟨q, rfl, by omega, ⟨c2, hr⟩, hno⟩, hI, hX, rfl⟩
        · refine y_if_ne kX3_lowestFree rfl rfl (fun _ => ?_) (fun e => absurd e (by omega))
          refine y_run kX3_lowestFree rfl ?_
          exact nx _ hI hX (fun z => hr z.2) (by omega)
theorem e_lowestFree (hf : PF b o g S a c x) (x1 : 0 ≤ x) (x2 : x ≤ 120) (hI : MI b g h) (hX : PX b o h P W D U V) : YM l G mX3_lowestFree 1 0 0 [vr (b + o)] h n (PFr b o g n x S P W D U V) := by
  refine YM.of kX3_lowestFree (Nat.le_of_ble_eq_true rfl) (L0 := [some (vr (b + o)), none]) rfl ?_
  refine y_run kX3_lowestFree rfl ?_
  refine YW.Le (congrArg (fun z : Int => [some (vr (b + o)), some (vi z)]) (show (0 : Int) = ((0 : Nat) : Int) by omega)) ?_
  exact s_lowestFreeE hf x1 x2 (x.toNat + 1) 0 _ (by omega) (by omega) hI hX (fun f hf' => absurd hf' (Nat.not_lt_zero _))
def PLp (b o : Nat) (g : yH) (n : Nat) (X : Nat → Bool) (p ax m : Nat) (P W D : Nat → Int) (U V : Nat → Nat → Bool) : Option xV → yH → Nat → Prop := fun r h' n' => ((r = some (vi (-1)) ∧ ∀ v, ¬ inX P X p ax m v) ∨ ∃ v, r = some (vi v) ∧ inX P X p ax m v ∧ ∀ v', inX P X p ax m v' → v ≤ v') ∧ MI b g h' ∧ PX b o h' P W D U V ∧ NA h' (b + (o + 7)) X ∧ n' = n
theorem s_lowestPlaneE (hf : PF b o g S a c x) {p y : Nat} (p2 : p < 120) (y2 : y < 3) (x1 : 0 ≤ x) (x2 : x ≤ 120) {X : Nat → Bool} {e f : Int} (he : e = P (6 * p + 2 * y)) (hfe : f = P (6 * p + 2 * y + 1)) : ∀ (m : Nat) (q : Nat) (z : Int) (u7 : Option xV) (u8 : Option xV) (h : yH), x.toNat - q < m → (q : Int) ≤ x → MI b g h → PX b o h P W D U V → NA h (b + (o + 7)) X → 0 ≤ z → zI P X p y q z → YW l G mX3_lowestPlane 1 0 0 (PLp b o g n X p y x.toNat P W D U V) 38 [some (vr (b + o)), some (vi (p : Int)), some (vi (y : Int)), some (vi e), some (vi f), some (vi z), some (vi (q : Int)), u7, u8] [] h n := by
  intro m
  induction m with
  | zero => intro q z u7 u8 h hm; exact absurd hm (Nat.not_lt_zero _)
  | succ m ih =>
    intro q z u7 u8 h hmm j1 hI hX hN z0 hz
    obtain ⟨⟨ho, hw1, hw2, hw3⟩, hp, ⟨lo, hi, hL, hLb⟩, ⟨Fb, hFb, hFb2⟩, ⟨Fa, hFa, hFa2⟩⟩ := id hf
    have hP := hX.Pb ho hI
    have nx : ∀ h' z' u7 u8, MI b g h' → PX b o h' P W D U V → NA h' (b + (o + 7)) X → 0 ≤ z' → zI P X p y (q + 1) z' → (q : Int) < x → YW l G mX3_lowestPlane 1 0 0 (PLp b o g n X p y x.toNat P W D U V) 38 [some (vr (b + o)), some (vi (p : Int)), some (vi (y : Int)), some (vi e), some (vi f), some (vi z'), some (vi ((q : Int) + 1)), u7, u8] [] h' n := fun h' z' u7 u8 i1 i2 i3 i4 i5 i6 => by
      refine YW.Le (congrArg (fun w : Int => [some (vr (b + o)), some (vi (p : Int)), some (vi (y : Int)), some (vi e), some (vi f), some (vi z'), some (vi w), u7, u8]) (show (q : Int) + 1 = ((q + 1 : Nat) : Int) by omega)) ?_
      exact ih (q + 1) z' u7 u8 h' (by omega) (by omega) i1 i2 i3 i4 i5
    have b1 := hP (6 * p + 2 * y)
    have b2 := hP (6 * p + 2 * y + 1)
    have zf := hz.1
    refine y_run kX3_lowestPlane rfl ?_
    refine m_get kX3_lowestPlane (o) hI hp ?_ (t0 ho)
    refine y_ic_ge kX3_lowestPlane rfl rfl (fun c1 => ?_) (fun c1 => ?_)
    · have eq : q = x.toNat := by omega
      subst eq
      refine y_run kX3_lowestPlane rfl ?_
      refine y_ic_ge kX3_lowestPlane rfl rfl (fun c2 => ?_) (fun c2 => ?_)
      · refine y_run kX3_lowestPlane rfl ?_
        exact y_ir kX3_lowestPlane rfl rfl ⟨Or.inl ⟨rfl, fun v hv => by have := hz.2.2 v hv; have := hv.1.2; omega⟩, hI, hX, hN, rfl⟩
      · refine y_run kX3_lowestPlane rfl ?_
        exact y_ir kX3_lowestPlane rfl rfl ⟨Or.inr ⟨z, rfl, hz.2.1.resolve_left (fun w => absurd w (by omega)), hz.2.2⟩, hI, hX, hN, rfl⟩
    · refine y_run kX3_lowestPlane rfl ?_
      refine m_get kX3_lowestPlane (o) hI hp ?_ (t0 ho)
      refine y_run kX3_lowestPlane rfl ?_
      obtain ⟨y1, y2', e1⟩ := hN.ob
      refine y_cv kX3_lowestPlane kX0_has 1 rfl e1 (by decide +kernel) (c_Nhas hN (v := (q : Int)) (by omega) (by omega)) rfl rfl ?_
      rintro _ h2 _ ⟨rfl, eh, rfl⟩
      subst eh
      refine y_beq kX3_lowestPlane rfl rfl (fun c3 => ?_) (fun c3 => ?_)
      · refine y_run kX3_lowestPlane rfl ?_
        rw [Int.toNat_natCast] at c3
        exact nx _ _ _ _ hI hX hN z0 (zI_skip hz c3) (by omega)
      · rw [Int.toNat_natCast] at c3
        have g2 : P ((q : Int) * 6 + 2 * (y : Int)).toNat = P (6 * q + 2 * y) := congrArg P (by omega)
        have g3 : P ((q : Int) * 6 + 2 * (y : Int) + 1).toNat = P (6 * q + 2 * y + 1) := congrArg P (by omega)
        have b3 := hP (6 * q + 2 * y)
        have b4 := hP (6 * q + 2 * y + 1)
        refine y_run kX3_lowestPlane rfl ?_
        refine m_get kX3_lowestPlane (o) hI hp ?_ (t0 ho)
        refine y_run kX3_lowestPlane rfl ?_
        refine y_ia kX3_lowestPlane rfl hX.1 (by omega) (by omega) ?_
        refine y_run kX3_lowestPlane rfl ?_
        refine m_get kX3_lowestPlane (o) hI hp ?_ (t0 ho)
        refine y_run kX3_lowestPlane rfl ?_
        refine y_ia kX3_lowestPlane rfl hX.1 (by omega) (by omega) ?_
        refine y_run kX3_lowestPlane rfl ?_
        refine y_ic_le kX3_lowestPlane rfl rfl (fun c4 => ?_) (fun c4 => ?_)
        · refine y_run kX3_lowestPlane rfl ?_
          refine y_ic_le kX3_lowestPlane rfl rfl (fun c5 => ?_) (fun c5 => ?_)
          · refine y_run kX3_lowestPlane rfl ?_
            exact nx _ _ _ _ hI hX hN z0 (zI_step hz c3 (Or.inl rfl) (by omega) (by omega) (by omega)) (by omega)
          · refine y_run kX3_lowestPlane rfl ?_
            refine y_mn kX3_lowestPlane rfl (by decide +kernel) ?_
            refine y_run kX3_lowestPlane rfl ?_
            exact nx _ _ _ _ hI hX hN (by omega) (zI_step hz c3 (by omega) (by omega) (by omega) (by omega)) (by omega)
        · refine y_run kX3_lowestPlane rfl ?_
          refine y_mn kX3_lowestPlane rfl (by decide +kernel) ?_
          refine y_run kX3_lowestPlane rfl ?_
          refine y_ic_le kX3_lowestPlane rfl rfl (fun c6 => ?_) (fun c6 => ?_)
          · refine y_run kX3_lowestPlane rfl ?_
            exact nx _ _ _ _ hI hX hN (by omega) (zI_step hz c3 (by omega) (by omega) (by omega) (by omega)) (by omega)
          · refine y_run kX3_lowestPlane rfl ?_
            refine y_mn kX3_lowestPlane rfl (by decide +kernel) ?_
            refine y_run kX3_lowestPlane rfl ?_
            exact nx _ _ _ _ hI hX hN (by omega) (zI_step hz c3 (by omega) (by omega) (by omega) (by omega)) (by omega)
theorem e_lowestPlane (hf : PF b o g S a c x) {p y : Nat} (p2 : p < 120) (y2 : y < 3) (x1 : 0 ≤ x) (x2 : x ≤ 120) {X : Nat → Bool} (hI : MI b g h) (hX : PX b o h P W D U V) (hN : NA h (b + (o + 7)) X) : YM l G mX3_lowestPlane 1 0 0 [vr (b + o), vi (p : Int), vi (y : Int)] h n (PLp b o g n X p y x.toNat P W D U V) := by
  refine YM.of kX3_lowestPlane (Nat.le_of_ble_eq_true rfl) (L0 := [some (vr (b + o)), some (vi (p : Int)), some (vi (y : Int)), none, none, none, none, none, none]) rfl ?_
  obtain ⟨⟨ho, hw1, hw2, hw3⟩, hp, ⟨lo, hi, hL, hLb⟩, ⟨Fb, hFb, hFb2⟩, ⟨Fa, hFa, hFa2⟩⟩ := id hf
  have hP := hX.Pb ho hI
  have g2 : P ((p : Int) * 6 + 2 * (y : Int)).toNat = P (6 * p + 2 * y) := congrArg P (by omega)
  have g3 : P ((p : Int) * 6 + 2 * (y : Int) + 1).toNat = P (6 * p + 2 * y + 1) := congrArg P (by omega)
  have b2 := hP (6 * p + 2 * y + 1)
  refine y_run kX3_lowestPlane rfl ?_
  refine m_get kX3_lowestPlane (o) hI hp ?_ (t0 ho)
  refine y_run kX3_lowestPlane rfl ?_
  refine y_ia kX3_lowestPlane rfl hX.1 (by omega) (by omega) ?_
  refine y_run kX3_lowestPlane rfl ?_
  refine m_get kX3_lowestPlane (o) hI hp ?_ (t0 ho)
  refine y_run kX3_lowestPlane rfl ?_
  refine y_ia kX3_lowestPlane rfl hX.1 (by omega) (by omega) ?_
  refine y_run kX3_lowestPlane rfl ?_
  refine YW.Le (congrArg (fun w : Int => [some (vr (b + o)), some (vi (p : Int)), some (vi (y : Int)), some (vi (P ((p : Int) * 6 + 2 * (y : Int)).toNat)), some (vi (P ((p : Int) * 6 + 2 * (y : Int) + 1).toNat)), some (vi (P ((p : Int) * 6 + 2 * (y : Int) + 1).toNat)), some (vi w), none, none]) (show (0 : Int) = ((0 : Nat) : Int) by omega)) ?_
  refine s_lowestPlaneE hf p2 y2 x1 x2 g2 g3 (x.toNat + 1) 0 _ _ _ _ (by omega) (by omega) hI hX hN (by omega) ⟨by omega, Or.inl g3, fun v hv => ?_⟩
  obtain ⟨-, j, j1, -⟩ := hv
  exact absurd j1 (Nat.not_lt_zero _)
end C80s
