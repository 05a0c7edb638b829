/-! the class: one cut, and the whole order -/
theorem tg_iff {P : Nat → Int} {S : Nat → Bool} {U V : Nat → Nat → Bool} (hl : LEd P S U V) (hS : ∀ k, S k = true → k < 128) {p : Nat} (hp : S p = true) (j : Nat) : (TC (fun i j => S j = true ∧ j < 128 ∧ U i j = true) p j ∧ TC (fun i j => S j = true ∧ j < 128 ∧ V i j = true) p j) ↔ tgP P S p j := by
  have en : ∀ k, TC (cC P S) p k → S k = true := fun k hk => by
    rcases hk.last with q | ⟨m, -, q⟩
    · exact q.2.1
    · exact q.2.1
  have en2 : ∀ k, TC (fun u v => cC P S v u) p k → S k = true := fun k hk => by
    rcases hk.last with q | ⟨m, -, q⟩
    · exact q.1
    · exact q.1
  unfold tgP
  constructor
  · rintro ⟨h1, h2⟩
    refine ⟨h1.mono (fun k hk => ⟨hp, hk.1, by rw [← (hl p k hp hk.1).1]; exact hk.2.2⟩) (fun k m hk hm => ⟨en k hk, hm.1, by rw [← (hl k m (en k hk) hm.1).1]; exact hm.2.2⟩), ?_⟩
    have h3 : TC (fun u v => cC P S v u) p j := h2.mono (fun k hk => ⟨hk.1, hp, by rw [← (hl p k hp hk.1).2]; exact hk.2.2⟩) (fun k m hk hm => ⟨hm.1, en2 k hk, by rw [← (hl k m (en2 k hk) hm.1).2]; exact hm.2.2⟩)
    exact TC.rev h3
  · rintro ⟨h1, h2⟩
    refine ⟨h1.mono (fun k hk => ⟨hk.2.1, hS k hk.2.1, by rw [(hl p k hk.1 hk.2.1).1]; exact hk.2.2⟩) (fun k m _ hm => ⟨hm.2.1, hS m hm.2.1, by rw [(hl k m hm.1 hm.2.1).1]; exact hm.2.2⟩), ?_⟩
    have h3 : TC (fun u v => cC P S v u) p j := TC.rev (D := fun u v => cC P S v u) h2
    exact h3.mono (fun k hk => ⟨hk.1, hS k hk.1, by rw [(hl p k hk.2.1 hk.1).2]; exact hk.2.2⟩) (fun k m _ hm => ⟨hm.1, hS m hm.1, by rw [(hl k m hm.2.1 hm.1).2]; exact hm.2.2⟩)
theorem inX_iff {P : Nat → Int} {S X : Nat → Bool} {p ax x : Nat} (hS : ∀ k, S k = true → k < x) (hx : x ≤ 128) (hX : ∀ j, j < 128 → (X j = true ↔ tgP P S p j)) (v : Int) : inX P X p ax x v ↔ inP P S p ax v := by
  constructor
  · rintro ⟨h1, j, j1, j2, j3⟩
    exact ⟨h1, j, (hX j (by omega)).mp j2, j3⟩
  · rintro ⟨h1, j, j2, j3⟩
    have hj : S j = true := by
      rcases j2.1.last with q | ⟨m, -, q⟩
      · exact q.2.1
      · exact q.2.1
    have := hS j hj
    exact ⟨h1, j, this, (hX j (by omega)).mpr j2, j3⟩
theorem fr_iff {P : Nat → Int} {S : Nat → Bool} {U V : Nat → Nat → Bool} (hl : LEd P S U V) (hS : ∀ k, S k = true → k < 128) (f : Nat) : FRU S U f ↔ frP P S f := by
  unfold FRU frP
  constructor
  · rintro ⟨h1, h2⟩
    refine ⟨h1, fun j hj => ?_⟩
    have := h2 j (hS j hj)
    rw [hj, Bool.and_true, (hl f j h1 hj).1] at this
    exact this
  · rintro ⟨h1, h2⟩
    refine ⟨h1, fun j _ => ?_⟩
    cases hj : S j with
    | false => simp
    | true => rw [(hl f j h1 hj).1, h2 j hj]; rfl
theorem crd_pos {S : Nat → Bool} {k : Nat} (hk : S k = true) : ∀ m : Nat, k < m → 0 < crd S m := by
  intro m
  induction m with
  | zero => intro h; omega
  | succ m ih =>
    intro h
    unfold crd
    by_cases e : k = m
    · subst e; rw [hk]; simp
    · have := ih (by omega); omega
section C80u
variable {l : Launch} {G : xG} {h h' : yH} {n : Nat} {b o : Nat} {g : yH} {S : Nat → Bool} {a c : Int} {P W D : Nat → Int} {U V : Nat → Nat → Bool} {x : Nat}
def PCO (b o : Nat) (g : yH) (n : Nat) (S : Nat → Bool) (a c : Int) (x : Nat) (P W D : Nat → Int) : Option xV → yH → Nat → Prop := fun r h' n' => ∃ g', SP b o g g' ∧ MI b g' h' ∧ n' = n ∧ ((r = some (vi 0) ∧ (96 ≤ c ∨ ∀ i ax v, S i = true → ax < 3 → ¬ inP P S i ax v) ∧ PF b o g' S a c (x : Int) ∧ ∃ U V, PX b o h' P W D U V) ∨ (r = some (vi 1) ∧ c < 96 ∧ ∃ i ax v U V, ctQ P S i ax v ∧ PF b o g' (fun j => S j || decide (j = x)) a (c + 1) ((x + 1 : Nat) : Int) ∧ PX b o h' (ctP P x i ax v) (upZ W x (W i)) D U V ∧ LEd (ctP P x i ax v) (fun j => S j || decide (j = x)) U V))
theorem s_cutOne2E (hf : PF b o g S a c (x : Int)) (hv : PIv S a c (x : Int)) (cm : c < 96) (hl : LEd P S U V) (hin : INs P S x) {p : Nat} (hSp : S p = true) (hlow : ∀ i', i' < p → S i' = true → ∀ ax', ax' < 3 → ∀ v', ¬ inP P S i' ax' v') {X : Nat → Bool} (hXt : ∀ j, j < 128 → (X j = true ↔ tgP P S p j)) (kk : ∀ (u2 : Option xV) (u3 : Option xV) (h : yH), MI b g h → PX b o h P W D U V → (∀ ax', ax' < 3 → ∀ v', ¬ inP P S p ax' v') → YW l G mX3_cutOne 4 0 0 (PCO b o g n S a c x P W D) 71 [some (vr (b + o)), some (vi (p : Int)), u2, u3] [] h n) : ∀ (m : Nat) (y : Nat) (u3 : Option xV) (h : yH), 3 - y < m → y ≤ 3 → MI b g h → PX b o h P W D U V → NA h (b + (o + 7)) X → (∀ ax', ax' < y → ∀ v', ¬ inP P S p ax' v') → YW l G mX3_cutOne 4 0 0 (PCO b o g n S a c x P W D) 39 [some (vr (b + o)), some (vi (p : Int)), some (vi (y : Int)), u3] [] h n := by
  intro m
  induction m with
  | zero => intro y u3 h hm; exact absurd hm (Nat.not_lt_zero _)
  | succ m ih =>
    intro y u3 h hmm j1 hI hX hN hno
    obtain ⟨⟨ho, hw1, hw2, hw3⟩, hp, hFF⟩ := id hf
    have hs := SP.r b o g
    obtain ⟨i1, i2, i3, i4, i5, i6⟩ := id hv
    have px := i6 p hSp
    have hP := hX.Pb ho hI
    have iff := fun v => inX_iff (P := P) (S := S) (X := X) (p := p) (ax := y) (x := x) (fun k hk => by have := i6 k hk; omega) (by omega) hXt v
    refine y_run kX3_cutOne rfl ?_
    refine y_ic_ge kX3_cutOne rfl rfl (fun c1 => ?_) (fun c1 => ?_)
    · exact kk _ _ _ hI hX (fun ax' hax => hno ax' (by omega))
    · refine y_run kX3_cutOne rfl ?_
      refine y_cv kX3_cutOne kX3_lowestPlane 2 rfl (hI.x (k := o) (t0 ho) hp) (by decide +kernel) (e_lowestPlane hf (p := p) (y := y) (by omega) (by omega) (by omega) (by omega) hI hX hN) rfl rfl ?_
      rintro _ h2 _ ⟨hr, hI, hX, hN, rfl⟩
      rw [Int.toNat_natCast] at hr
      rcases hr with ⟨rfl, hr⟩ | ⟨v, rfl, hv1, hv2⟩
      · refine y_run kX3_cutOne rfl ?_
        refine y_ic_eq kX3_cutOne rfl rfl (fun _ => ?_) (fun e => absurd rfl e)
        refine y_run kX3_cutOne rfl ?_
        refine YW.Le (congrArg (fun z : Int => [some (vr (b + o)), some (vi (p : Int)), some (vi z), some (vi (-1))]) (show (y : Int) + 1 = ((y + 1 : Nat) : Int) by omega)) ?_
        refine ih (y + 1) _ h2 (by omega) (by omega) hI hX hN (fun ax' hax v' => ?_)
        by_cases e : ax' = y
        · subst e; exact fun z => hr v' ((iff v').mpr z)
        · exact hno ax' (by omega) v'
      · have w1 := hP (6 * p + 2 * y)
        have w2 := hP (6 * p + 2 * y + 1)
        have w3 := hv1.1
        have hq : ctQ P S p y v := ⟨hSp, by omega, ⟨(iff v).mp hv1, fun v' hv' => hv2 v' ((iff v').mpr hv')⟩, hno, hlow⟩
        refine y_run kX3_cutOne rfl ?_
        refine y_ic_eq kX3_cutOne rfl rfl (fun e => absurd e (by omega)) (fun _ => ?_)
        refine y_run kX3_cutOne rfl ?_
        refine y_cv kX3_cutOne kX3_cut 3 rfl (hI.x (k := o) (t0 ho) hp) (by decide +kernel) (e_Pcut hf (p := p) (y := y) (z := v) hv cm hSp (by omega) (by omega) (by omega) hI hX) rfl rfl ?_
        rintro _ h3 _ ⟨g', rfl, hs2, hf', hI', hX', rfl⟩
        refine y_run kX3_cutOne rfl ?_
        exact y_zr kX3_cutOne rfl rfl (by omega) ⟨g', hs2, hI', rfl, Or.inr ⟨rfl, cm, p, y, v, _, _, hq, hf', hX', LEd_cut hin hl hSp (by omega) w3.1 w3.2⟩⟩
theorem s_cutOne1E (hf : PF b o g S a c (x : Int)) (hv : PIv S a c (x : Int)) (cm : c < 96) (hl : LEd P S U V) (hin : INs P S x) : ∀ (m : Nat) (p : Nat) (u2 : Option xV) (u3 : Option xV) (h : yH), x - p < m → p ≤ x → MI b g h → PX b o h P W D U V → (∀ i', i' < p → S i' = true → ∀ ax', ax' < 3 → ∀ v', ¬ inP P S i' ax' v') → YW l G mX3_cutOne 4 0 0 (PCO b o g n S a c x P W D) 13 [some (vr (b + o)), some (vi (p : Int)), u2, u3] [] h n := by
  intro m
  induction m with
  | zero => intro p u2 u3 h hm; exact absurd hm (Nat.not_lt_zero _)
  | succ m ih =>
    intro p u2 u3 h hmm j1 hI hX hno
    obtain ⟨⟨ho, hw1, hw2, hw3⟩, hp, ⟨lo, hi, hL, hLb⟩, hFF⟩ := id hf
    have hs := SP.r b o g
    obtain ⟨i1, i2, i3, i4, i5, i6⟩ := id hv
    have nx : ∀ (u2 u3 : Option xV) h', MI b g h' → PX b o h' P W D U V → p < x → (S p = true → ∀ ax', ax' < 3 → ∀ v', ¬ inP P S p ax' v') → YW l G mX3_cutOne 4 0 0 (PCO b o g n S a c x P W D) 13 [some (vr (b + o)), some (vi ((p : Int) + 1)), u2, u3] [] h' n := fun u2 u3 h' k1 k2 k3 k4 => by
      refine YW.Le (congrArg (fun z : Int => [some (vr (b + o)), some (vi z), u2, u3]) (show (p : Int) + 1 = ((p + 1 : Nat) : Int) by omega)) ?_
      refine ih (p + 1) u2 u3 h' (by omega) (by omega) k1 k2 (fun i' hi' => ?_)
      by_cases e : i' = p
      · subst e; exact k4
      · exact hno i' (by omega)
    refine y_run kX3_cutOne rfl ?_
    refine m_get kX3_cutOne (o) hI hp ?_ (t0 ho)
    refine y_ic_ge kX3_cutOne rfl rfl (fun c1 => ?_) (fun c1 => ?_)
    · refine y_run kX3_cutOne rfl ?_
      exact y_zr kX3_cutOne rfl rfl (by omega) ⟨g, hs, hI, rfl, Or.inl ⟨rfl, Or.inr (fun i ax v hi' hax => hno i (by have := i6 i hi'; omega) hi' ax hax v), hf, U, V, hX⟩⟩
    · refine y_run kX3_cutOne rfl ?_
      refine m_get kX3_cutOne (o) hI hp ?_ (t0 ho)
      refine y_run kX3_cutOne rfl ?_
      refine y_cv kX3_cutOne kX0_has 1 rfl (hI.x (k := o + 4) (t4 ho) hL) (by decide +kernel) (w_Lhas hf hI (by omega) (by omega)) rfl rfl ?_
      rintro _ h2 _ ⟨rfl, eh, rfl⟩
      subst eh
      refine y_beq kX3_cutOne rfl rfl (fun c2 => ?_) (fun c2 => ?_)
      · refine y_run kX3_cutOne rfl ?_
        rw [Int.toNat_natCast] at c2
        exact nx _ _ _ hI hX (by omega) (fun z => absurd z c2)
      · rw [Int.toNat_natCast] at c2
        have hS : ∀ k, S k = true → k < 128 := fun k hk => by have := i6 k hk; omega
        refine y_run kX3_cutOne rfl ?_
        refine y_cv kX3_cutOne kX3_findTangle 1 rfl (hI.x (k := o) (t0 ho) hp) (by decide +kernel) (e_findTangle hf (fun k hk => by have := i6 k hk; omega) (by omega) (p := p) (by omega) hI hX) rfl rfl ?_
        rintro _ h3 _ ⟨X, rfl, hI, hX, hN, hXt, rfl⟩
        refine y_run kX3_cutOne rfl ?_
        refine YW.Le (congrArg (fun z : Int => [some (vr (b + o)), some (vi (p : Int)), some (vi z), u3]) (show (0 : Int) = ((0 : Nat) : Int) by omega)) ?_
        exact s_cutOne2E hf hv cm hl hin c2 hno (fun j hj => (hXt j hj).trans (tg_iff hl hS c2 j)) (fun u2 u3 h hI hX hz => by
          refine y_run kX3_cutOne rfl ?_
          exact nx _ _ _ hI hX (by omega) (fun _ => hz)) 4 0 _ _ (by omega) (by omega) hI hX hN (fun ax' hax => absurd hax (Nat.not_lt_zero _))
theorem e_cutOne (hf : PF b o g S a c (x : Int)) (hv : PIv S a c (x : Int)) (hl : LEd P S U V) (hin : INs P S x) (hI : MI b g h) (hX : PX b o h P W D U V) : YM l G mX3_cutOne 4 0 0 [vr (b + o)] h n (PCO b o g n S a c x P W D) := by
  refine YM.of kX3_cutOne (Nat.le_of_ble_eq_true rfl) (L0 := [some (vr (b + o)), none, none, none]) rfl ?_
  obtain ⟨⟨ho, hw1, hw2, hw3⟩, hp, hFF⟩ := id hf
  have hs := SP.r b o g
  obtain ⟨i1, i2, i3, i4, i5, i6⟩ := id hv
  refine y_run kX3_cutOne rfl ?_
  refine m_get kX3_cutOne (o) hI hp ?_ (t0 ho)
  refine y_run kX3_cutOne rfl ?_
  refine y_ic_lt kX3_cutOne rfl rfl (fun c1 => ?_) (fun c1 => ?_)
  · refine y_run kX3_cutOne rfl ?_
    refine YW.Le (congrArg (fun z : Int => [some (vr (b + o)), some (vi z), none, none]) (show (0 : Int) = ((0 : Nat) : Int) by omega)) ?_
    exact s_cutOne1E hf hv (by omega) hl hin (x + 1) 0 _ _ _ (by omega) (by omega) hI hX (fun i' hi' => absurd hi' (Nat.not_lt_zero _))
  · refine y_run kX3_cutOne rfl ?_
    exact y_zr kX3_cutOne rfl rfl (by omega) ⟨g, hs, hI, rfl, Or.inl ⟨rfl, Or.inl (by omega), hf, U, V, hX⟩⟩
/-- where the order ends: what RUN says of it -/
def PPO (b o : Nat) (g : yH) (n : Nat) (σ : sT) : Option xV → yH → Nat → Prop := fun r h' n' => ∃ g' S a c x P W D U V, SP b o g g' ∧ PF b o g' S ((a : Nat) : Int) ((c : Nat) : Int) ((x : Nat) : Int) ∧ PIv S (a : Int) (c : Int) (x : Int) ∧ MI b g' h' ∧ PX b o h' P W D U V ∧ RUN σ (P, W, S, x, c, D, a) ∧ n' = n ∧ ((r = some (vi 1) ∧ STOP (P, W, S, x, c, D, a) (c : Int)) ∨ (r = some (vi 0) ∧ STOP (P, W, S, x, c, D, a) (-1)))
theorem s_putInOrderE {g0 : yH} {σ : sT} {c0 : Nat} : ∀ (m : Nat) (q : Nat) (u2 : Option xV) (g : yH) (S : Nat → Bool) (a c x : Nat) (P W D : Nat → Int) (U V : Nat → Nat → Bool) (h : yH), 192 - q < m → q ≤ 192 → q + c0 = a + c → SP b o g0 g → PF b o g S (a : Int) (c : Int) (x : Int) → PIv S (a : Int) (c : Int) (x : Int) → MI b g h → PX b o h P W D U V → LEd P S U V → INs P S x → RUN σ (P, W, S, x, c, D, a) → YW l G mX3_putInOrder 5 0 0 (PPO b o g0 n σ) 2 [some (vr (b + o)), some (vi (q : Int)), u2] [] h n := by
  intro m
  induction m with
  | zero => intro q u2 g S a c x P W D U V h hm; exact absurd hm (Nat.not_lt_zero _)
  | succ m ih =>
    intro q u2 g S a c x P W D U V h hmm j1 jq hs hf hv hI hX hl hin hrun
    obtain ⟨⟨ho, hw1, hw2, hw3⟩, hp, ⟨lo, hi, hL, hLb⟩, hFF⟩ := id hf
    obtain ⟨i1, i2, i3, i4, i5, i6⟩ := id hv
    have hS : ∀ k, S k = true → k < 128 := fun k hk => by have := i6 k hk; omega
    have cast : (q : Int) + 1 = ((q + 1 : Nat) : Int) := by omega
    have fin1 : (∀ k, k < 128 → S k = false) → STOP (P, W, S, x, c, D, a) (c : Int) := fun hz => Or.inl ⟨fun s => by
      cases e : S s with
      | false => exact e
      | true => exact absurd ((hz s (hS s e)).symm.trans e) (by decide), rfl⟩
    refine y_run kX3_putInOrder rfl ?_
    refine y_ic_ge kX3_putInOrder rfl rfl (fun c1 => ?_) (fun c1 => ?_)
    · refine y_run kX3_putInOrder rfl ?_
      refine m_get kX3_putInOrder (o) hI hp ?_ (t0 ho)
      refine y_cv kX3_putInOrder kX0_isEmpty 0 rfl (hI.x (k := o + 4) (t4 ho) hL) (by decide +kernel) (c_NisEmpty (hf.na hI)) rfl rfl ?_
      rintro _ h2 _ ⟨hr, eh, rfl⟩
      subst eh
      rcases hr with ⟨rfl, hz⟩ | ⟨rfl, hz⟩
      · exact y_zr kX3_putInOrder rfl rfl (by omega) ⟨g, S, a, c, x, P, W, D, U, V, hs, hf, hv, hI, hX, hrun, rfl, Or.inl ⟨rfl, fin1 hz⟩⟩
      · refine absurd (fun k hk => ?_) hz
        cases e : S k with
        | false => rfl
        | true => have := crd_pos e 128 hk; omega
    · refine y_run kX3_putInOrder rfl ?_
      refine m_get kX3_putInOrder (o) hI hp ?_ (t0 ho)
      refine y_cv kX3_putInOrder kX0_isEmpty 0 rfl (hI.x (k := o + 4) (t4 ho) hL) (by decide +kernel) (c_NisEmpty (hf.na hI)) rfl rfl ?_
      rintro _ h2 _ ⟨hr, eh, rfl⟩
      subst eh
      rcases hr with ⟨rfl, hz⟩ | ⟨rfl, hz⟩
      · refine y_if_ne kX3_putInOrder rfl rfl (fun _ => ?_) (fun e => absurd e (by omega))
        refine y_run kX3_putInOrder rfl ?_
        refine m_get kX3_putInOrder (o) hI hp ?_ (t0 ho)
        refine y_cv kX3_putInOrder kX0_isEmpty 0 rfl (hI.x (k := o + 4) (t4 ho) hL) (by decide +kernel) (c_NisEmpty (hf.na hI)) rfl rfl ?_
        rintro _ h3 _ ⟨hr, eh, rfl⟩
        subst eh
        rcases hr with ⟨rfl, -⟩ | ⟨rfl, hz2⟩
        · exact y_zr kX3_putInOrder rfl rfl (by omega) ⟨g, S, a, c, x, P, W, D, U, V, hs, hf, hv, hI, hX, hrun, rfl, Or.inl ⟨rfl, fin1 hz⟩⟩
        · exact absurd hz hz2
      · refine y_if_ne kX3_putInOrder rfl rfl (fun e => absurd rfl e) (fun _ => ?_)
        have ex : ∃ s, S s = true := Classical.byContradiction (fun z => hz (fun k _ => by
          cases e : S k with
          | false => rfl
          | true => exact absurd ⟨k, e⟩ z))
        refine y_run kX3_putInOrder rfl ?_
        refine y_cv kX3_putInOrder kX3_lowestFree 0 rfl (hI.x (k := o) (t0 ho) hp) (by decide +kernel) (e_lowestFree hf (by omega) (by omega) hI hX) rfl rfl ?_
        rintro _ h3 _ ⟨hr, hI, hX, rfl⟩
        rcases hr with ⟨rfl, hno⟩ | ⟨f, rfl, fx, hfr, hlow⟩
        · have nofr : ∀ f, ¬ frP P S f := fun f hf' => by
            have := i6 f hf'.1
            exact hno f (by omega) ((fr_iff hl hS f).mpr hf')
          refine y_run kX3_putInOrder rfl ?_
          refine y_ic_eq kX3_putInOrder rfl rfl (fun _ => ?_) (fun e => absurd rfl e)
          refine y_run kX3_putInOrder rfl ?_
          refine y_cv kX3_putInOrder kX3_cutOne 0 rfl (hI.x (k := o) (t0 ho) hp) (by decide +kernel) (e_cutOne hf hv hl hin hI hX) rfl rfl ?_
          rintro _ h4 _ ⟨g', hs2, hI', rfl, hr⟩
          rcases hr with ⟨rfl, hst, hf', U', V', hX'⟩ | ⟨rfl, cm, i, ax, v, U', V', hq, hf', hX', hl'⟩
          · refine y_if_ne kX3_putInOrder rfl rfl (fun e => absurd rfl e) (fun _ => ?_)
            refine y_run kX3_putInOrder rfl ?_
            exact y_zr kX3_putInOrder rfl rfl (by omega) ⟨g', S, a, c, x, P, W, D, U', V', hs.t hs2, hf', hv, hI', hX', hrun, rfl, Or.inr ⟨rfl, Or.inr ⟨ex, nofr, hst.imp (fun z => by show 96 ≤ c; omega) id, rfl⟩⟩⟩
          · refine y_if_ne kX3_putInOrder rfl rfl (fun _ => ?_) (fun e => absurd e (by omega))
            refine y_run kX3_putInOrder rfl ?_
            refine YW.Le (congrArg (fun z : Int => [some (vr (b + o)), some (vi z), some (vi (-1))]) cast) ?_
            have hv' := hv.cut cm
            rw [Int.toNat_natCast] at hv'
            exact ih (q + 1) _ g' _ a (c + 1) (x + 1) _ _ D U' V' h4 (by omega) (by omega) (by omega) (hs.t hs2) hf' hv' hI' hX' hl' (hin.cut hq.1 hq.2.1 hq.2.2.1.1.1.1 hq.2.2.1.1.1.2) (hrun.st (Or.inr ⟨nofr, by show c < 96; omega, i, ax, v, hq, rfl⟩))
        · have hfp := (fr_iff hl hS f).mp hfr
          obtain ⟨hv2, hac⟩ := hv.out (v := (f : Int)) (by omega) (by rw [Int.toNat_natCast]; exact hfr.1)
          rw [Int.toNat_natCast] at hv2
          have hDb : ∀ j, 0 ≤ D j ∧ D j ≤ 119 := by
            obtain ⟨F, e, hF⟩ := hI.i (t3 ho)
            rw [ai_inj hX.2.2.1 e]
            exact hF
          refine y_run kX3_putInOrder rfl ?_
          refine y_ic_eq kX3_putInOrder rfl rfl (fun e => absurd e (by omega)) (fun _ => ?_)
          refine y_run kX3_putInOrder rfl ?_
          refine m_get kX3_putInOrder (o) hI hp ?_ (t0 ho)
          refine y_run kX3_putInOrder rfl ?_
          refine m_get kX3_putInOrder (o) hI hp ?_ (t0 ho)
          refine y_run kX3_putInOrder rfl ?_
          refine y_is kX3_putInOrder rfl hX.2.2.1 (by omega) (by omega) ?_
          refine YW.genP (P := fun y => MI b g y ∧ PX b o y P W (upZ D a (f : Int)) U V) ⟨by rw [Int.toNat_natCast]; exact hI.up (t3 ho) ⟨_, rfl, upZ_all (P := fun z => 0 ≤ z ∧ z ≤ 119) hDb _ (by omega)⟩, by rw [Int.toNat_natCast]; exact hX.uD _⟩ (fun h5 ⟨hI, hX⟩ => ?_)
          refine y_run kX3_putInOrder rfl ?_
          refine m_get kX3_putInOrder (o) hI hp ?_ (t0 ho)
          refine y_run kX3_putInOrder rfl ?_
          refine m_pPX (a' := (a : Int) + 1) (c' := (c : Int)) (x' := (x : Int)) kX3_putInOrder hI hf hs (fun g2 h6 hs hf hI hfr2 => ?_) ⟨_, rfl, rfl, Nat.le_of_ble_eq_true rfl⟩
          replace hX := hX.on (h' := h6) (fun k hk => hfr2 _ (by omega))
          obtain ⟨⟨ho, hw1, hw2, hw3⟩, hp, ⟨lo, hi, hL, hLb⟩, hFF⟩ := id hf
          refine y_run kX3_putInOrder rfl ?_
          refine m_get kX3_putInOrder (o) hI hp ?_ (t0 ho)
          refine y_run kX3_putInOrder rfl ?_
          refine y_cv kX3_putInOrder kX0_remove 1 rfl (hI.x (k := o + 4) (t4 ho) hL) (by decide +kernel) (c_Nremove (hf.na hI) (v := (f : Int)) (by omega) (by omega)) rfl rfl ?_
          rintro _ h7 _ ⟨rfl, hu, rfl⟩
          obtain ⟨g3, hs2, hf, hI⟩ := NU.pl hf hI hu
          replace hX := hX.on (h' := h7) (fun k hk => hu.ne (by omega))
          rw [Int.toNat_natCast] at hf
          refine y_run kX3_putInOrder rfl ?_
          refine YW.Le (congrArg (fun z : Int => [some (vr (b + o)), some (vi z), some (vi (f : Int))]) cast) ?_
          refine ih (q + 1) _ g3 _ (a + 1) c x P W _ U V h7 (by omega) (by omega) (by omega) (hs.t hs2) hf hv2 hI hX (fun i j hi' hj' => ?_) (hin.out f) (hrun.st (Or.inl ⟨f, hfp, fun f' hf' z => hlow f' hf' ((fr_iff hl hS f').mpr z), rfl⟩))
          rw [Bool.and_eq_true] at hi' hj'
          exact hl i j hi'.1 hj'.1
theorem e_putInOrder {a c : Nat} (hf : PF b o g S (a : Int) (c : Int) (x : Int)) (hv : PIv S (a : Int) (c : Int) (x : Int)) (ha : a = 0) (hl : LEd P S U V) (hin : INs P S x) (hI : MI b g h) (hX : PX b o h P W D U V) : YM l G mX3_putInOrder 5 0 0 [vr (b + o)] h n (PPO b o g n (P, W, S, x, c, D, a)) := by
  refine YM.of kX3_putInOrder (Nat.le_of_ble_eq_true rfl) (L0 := [some (vr (b + o)), none, none]) rfl ?_
  refine y_run kX3_putInOrder rfl ?_
  refine YW.Le (congrArg (fun z : Int => [some (vr (b + o)), some (vi z), none]) (show (0 : Int) = ((0 : Nat) : Int) by omega)) ?_
  exact s_putInOrderE (c0 := c) 193 0 _ g S a c x P W D U V h (by omega) (by omega) (by omega) (SP.r b o g) hf hv hI hX hl hin (RUN.rf _)
end C80u
