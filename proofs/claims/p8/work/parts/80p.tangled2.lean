section C80p
variable {l : Launch} {G : xG} {h : yH} {n : Nat} {b : Nat} {g : yH} {i0 i1 i2 i3 i4 i5 i6 : Int} {B J : Nat → Int}
theorem e_mtangled (hf : RF b g B J i0 i1 i2 i3 i4 i5 i6) {p : Int} (hp0 : inI p) (hI : MI b g h) : YM l G mX7_tangled 4 0 0 [vr (b + 540), vi p] h n (fun r h' n' => ∃ z, r = some (vi z) ∧ MI b g h' ∧ n' = n ∧ ((¬ mT B p ∧ z = -1) ∨ (mT B p ∧ ∃ Q C R : Nat → Int, (∀ v, v < 128 → pcQ B Q v) ∧ (∀ i j, i < 128 → j < 128 → (C (128 * i + j) = 1 ↔ ∃ x : Int, 0 ≤ x ∧ x < 8192 ∧ seeP Q x i j)) ∧ (∀ i j, i < 128 → j < 128 → (R (128 * i + j) = 1 ↔ WR (clD Q C) 128 i j)) ∧ z = if crd (tgB R p.toNat) 24 = 0 then 0 else ((crd (tgB R p.toNat) 24 : Nat) : Int) + 1))) := by
  refine YM.of kX7_tangled (Nat.le_of_ble_eq_true rfl) (L0 := [some (vr (b + 540)), some (vi p), none, none]) rfl ?_
  obtain ⟨hm, hB, hJ, hBb, -⟩ := id hf
  refine y_run kX7_tangled rfl ?_
  refine y_cv kX7_tangled kX7_isThere 1 rfl (hI.x (k := 540) rfl hm) (by decide +kernel) (c_isThere (hI.x (k := 540) rfl hm) (hI.x (k := 541) rfl hB) (fun j => ⟨by have := hBb j; omega, by have := hBb j; omega⟩) hp0) rfl rfl ?_
  rintro _ h1 _ ⟨⟨rfl, t1⟩ | ⟨rfl, t1⟩, eh, rfl⟩
  · subst eh
    refine y_if_ne kX7_tangled rfl rfl (fun _ => ?_) (fun e => absurd e (by omega))
    have tp := t1.1
    refine y_run kX7_tangled rfl ?_
    refine y_cv kX7_tangled kX7_begin 0 rfl (hI.x (k := 540) rfl hm) (by decide +kernel) (e_begin hf hI) rfl rfl ?_
    rintro _ h2 _ ⟨Q, C, rfl, hI2, e45, hQ, e46, hC, hfr2, rfl⟩
    refine y_run kX7_tangled rfl ?_
    refine y_cv kX7_tangled kX7_close 0 rfl (hI2.x (k := 540) rfl hm) (by decide +kernel) (e_close hf hI2 e45 e46) rfl rfl ?_
    rintro _ h3 _ ⟨R, rfl, ⟨hI3, e47, hfr3, hR⟩, rfl⟩
    refine y_run kX7_tangled rfl ?_
    have cp : p = ((p.toNat : Nat) : Int) := by omega
    refine YW.Le (L' := [some (vr (b + 540)), some (vi ((p.toNat : Nat) : Int)), some (vi ((crd (tgB R p.toNat) 0 : Nat) : Int)), some (vi ((0 : Nat) : Int))]) ?_ ?_
    · exact congrArg (fun z : Int => [some (vr (b + 540)), some (vi z), some (vi 0), some (vi 0)]) cp
    · refine YW.imp (s_mtangledE hf (p := p.toNat) (by omega) hI3 e47 25 0 (by omega) (by omega)) (fun r' h' n' w => ?_)
      obtain ⟨rfl, rfl, rfl⟩ := w
      exact ⟨_, rfl, hI3, rfl, Or.inr ⟨t1, Q, C, R, hQ, hC, hR, rfl⟩⟩
  · subst eh
    refine y_if_ne kX7_tangled rfl rfl (fun e => absurd rfl e) (fun _ => ?_)
    refine y_run kX7_tangled rfl ?_
    exact y_ir kX7_tangled rfl rfl ⟨_, rfl, hI, rfl, Or.inl ⟨t1, rfl⟩⟩
end C80p
/-- those that lead there and back again -/
theorem tg_count {D : Nat → Nat → Prop} (irr : ∀ i, ¬ D i i) (hD : ∀ i j, D i j → j < 24) {p : Nat} {X Y : Nat → Bool} (hX : ∀ j, j < 128 → (X j = true ↔ TC D p j ∧ TC D j p)) (hY : ∀ j, j < 24 → (Y j = true ↔ p ≠ j ∧ TC D p j ∧ TC D j p)) (p2 : p < 24) : ((crd X 128 : Nat) : Int) = if crd Y 24 = 0 then 0 else ((crd Y 24 : Nat) : Int) + 1 := by
  have hend : ∀ i j, TC D i j → j < 24 := fun i j h => by
    rcases h.last with k | ⟨k, -, k2⟩
    · exact hD i j k
    · exact hD k j k2
  have e1 : crd X 128 = crd X 24 := by
    rw [show 128 = 24 + 104 from rfl, crd_split, crd_off (S := fun k => X (24 + k)) (S' := fun _ => false) 104 (fun j hj => ?_), crd_0]
    · rfl
    · cases z : X (24 + j) with
      | false => rfl
      | true => have := hend p _ ((hX _ (by omega)).mp z).1; omega
  rw [e1]
  by_cases c : X p = true
  · have e2 := crd_rem (S := X) (v := p) 24 p2 c
    have e3 : crd (fun j => X j && !decide (j = p)) 24 = crd Y 24 := crd_off 24 (fun j hj => by
      have a1 := hX j (by omega)
      have a2 := hY j hj
      by_cases k : j = p
      · subst k
        have : Y j = false := by cases z : Y j with
          | false => rfl
          | true => exact absurd rfl (a2.mp z).1
        simp [this]
      · cases z : X j with
        | false =>
          have : Y j = false := by cases y : Y j with
            | false => rfl
            | true => rw [a1.mpr (a2.mp y).2] at z; cases z
          simp [this]
        | true =>
          have : Y j = true := a2.mpr ⟨fun w => k w.symm, a1.mp z⟩
          simp [this, k])
    have pos : crd Y 24 ≠ 0 := by
      intro h0
      have tpp := ((hX p (by omega)).mp c).1
      have hs : ∃ k, D p k ∧ TC D k p := by
        have := tpp (fun m => ∃ k, D p k ∧ (k = m ∨ TC D k m)) (fun k hk => ⟨k, hk, Or.inl rfl⟩) (fun k m hk hm => by
          obtain ⟨w, w1, w2⟩ := hk
          rcases w2 with rfl | w2
          · exact ⟨w, w1, Or.inr (TC.base hm)⟩
          · exact ⟨w, w1, Or.inr (w2.step hm)⟩)
        obtain ⟨k, k1, k2⟩ := this
        rcases k2 with rfl | k2
        · exact absurd k1 (irr k)
        · exact ⟨k, k1, k2⟩
      obtain ⟨k, k1, k2⟩ := hs
      have kl := hD p k k1
      have yk : Y k = true := (hY k kl).mpr ⟨fun w => by subst w; exact irr p k1, TC.base k1, k2⟩
      have := crd_rem (S := Y) (v := k) 24 kl yk
      omega
    rw [if_neg pos]
    omega
  · have all : ∀ j, j < 24 → X j = false := fun j hj => by
      cases z : X j with
      | false => rfl
      | true =>
        have w := (hX j (by omega)).mp z
        exact absurd ((hX p (by omega)).mpr ⟨w.1.trans w.2, w.1.trans w.2⟩) c
    have ally : ∀ j, j < 24 → Y j = false := fun j hj => by
      cases z : Y j with
      | false => rfl
      | true =>
        have w := ((hY j hj).mp z).2
        have := (hX j (by omega)).mpr w
        rw [all j hj] at this
        cases this
    rw [crd_off (S' := fun _ => false) 24 all, crd_0, crd_off (S := Y) (S' := fun _ => false) 24 ally, crd_0]
    rfl
theorem pe_tangled {l : Launch} {G : xG} {h : yH} {n b : Nat} (hi : INV b h) {p : Int} (hp : inI p) : PR l G mX6_tangled mX7_tangled 4 4 [vi p] b h n (fun z z2 => z = z2) := by
  obtain ⟨t, E, K, R, Z, tk, Ek, Kk, Rk, B, J, Kp, hs, ho, hr, hk⟩ := hi
  obtain ⟨T, hc, hT⟩ := hs.cb ho.1
  refine (e_tangled hc hp hs.2.2.2.2.2).imp (fun r' h1 n1 y => ?_)
  obtain ⟨g', z, rfl, q1, q2, q3, rfl, q4⟩ := y
  have hs1 := hs.wc q1 q2 hT q3
  obtain ⟨i0, i1, i2, i3, i4, i5, i6, hf⟩ := hs1.rf ho.1 hr
  refine ⟨rfl, z, rfl, ⟨_, hf.1⟩, (e_mtangled hf hp hs1.2.2.2.2.2).imp (fun r2 h2 n2 w => ?_)⟩
  obtain ⟨z2, rfl, w1, rfl, w2⟩ := w
  refine ⟨rfl, ⟨t, E, K, R, Z, tk, Ek, Kk, Rk, B, J, Kp, hs1.wm (fun _ _ => rfl) hf w1, ho, hr, hk⟩, z2, rfl, ?_⟩
  have it := hr.r_isT p
  rcases q4 with ⟨a1, a2⟩ | ⟨a1, X, P, U, V, a2, a3, a4, a5⟩
  · rcases w2 with ⟨c1, c2⟩ | ⟨c1, -⟩
    · omega
    · exact absurd (it.mpr c1) a1
  · rcases w2 with ⟨c1, c2⟩ | ⟨c1, Q, C, Rr, c2, c3, c4, c5⟩
    · exact absurd (it.mp a1) c1
    · have hBb := hf.2.2.2.1
      have pt := a1.1
      have cl := cl_iff hr ho.1.1 ho.2 hBb c2 c3
      have sp : sN t 24 p.toNat = true := (sN_iff t p.toNat).mpr (by rw [show ((p.toNat : Nat) : Int) = p by omega]; exact a1)
      have s24 : ∀ k, sN t 24 k = true → k < 24 := fun k hk2 => by have := ((sN_iff t k).mp hk2).1; omega
      have irr : ∀ i, ¬ clD Q C i i := fun i k => by
        have := ((cl i i).mp k).2.2
        unfold cvB at this
        simp at this
      have hD : ∀ i j, clD Q C i j → j < 24 := fun i j k => s24 j ((cl i j).mp k).2.1
      have cvE : ∀ i j, sN t 24 i = true → sN t 24 j = true → cvB P i j = cvB E i j := fun i j x1 x2 => cvB_cg a2 (s24 i x1) (s24 j x2)
      have fw : ∀ j, TC (fun i j => sN t 24 j = true ∧ j < 128 ∧ U i j = true) p.toNat j ↔ TC (clD Q C) p.toNat j := fun j => by
        constructor
        · intro k
          have := k (fun m => sN t 24 m = true ∧ TC (clD Q C) p.toNat m) (fun m hm => ⟨hm.1, TC.base ((cl _ _).mpr ⟨sp, hm.1, ?_⟩)⟩) (fun m m' hm hm' => ⟨hm'.1, hm.2.step ((cl _ _).mpr ⟨hm.1, hm'.1, ?_⟩)⟩)
          · exact this.2
          · have := (a3 p.toNat m sp hm.2.1).1
            rw [hm.2.2, hm.1, Bool.true_and] at this
            rw [← cvE _ _ sp hm.1]; exact this.symm
          · have := (a3 m m' hm.1 hm'.2.1).1
            rw [hm'.2.2, hm'.1, Bool.true_and] at this
            rw [← cvE _ _ hm.1 hm'.1]; exact this.symm
        · intro k
          refine k (fun m => TC (fun i j => sN t 24 j = true ∧ j < 128 ∧ U i j = true) p.toNat m) (fun m hm => TC.base ?_) (fun m m' hm hm' => hm.step ?_)
          · obtain ⟨y1, y2, y3⟩ := (cl _ _).mp hm
            have l2 := s24 _ y2
            have := (a3 p.toNat m sp (by omega)).1
            rw [y2, Bool.true_and, cvE _ _ sp y2, y3] at this
            exact ⟨y2, by omega, this⟩
          · obtain ⟨y1, y2, y3⟩ := (cl _ _).mp hm'
            have l2 := s24 _ y2
            have := (a3 m m' y1 (by omega)).1
            rw [y2, Bool.true_and, cvE _ _ y1 y2, y3] at this
            exact ⟨y2, by omega, this⟩
      have bw : ∀ j, TC (fun i j => sN t 24 j = true ∧ j < 128 ∧ V i j = true) p.toNat j ↔ TC (clD Q C) j p.toNat := fun j => by
        constructor
        · intro k
          refine TC.rev ?_
          have := k (fun m => sN t 24 m = true ∧ TC (fun x y => clD Q C y x) p.toNat m) (fun m hm => ⟨hm.1, TC.base ((cl _ _).mpr ⟨hm.1, sp, ?_⟩)⟩) (fun m m' hm hm' => ⟨hm'.1, hm.2.step ((cl _ _).mpr ⟨hm'.1, hm.1, ?_⟩)⟩)
          · exact this.2
          · have := (a3 p.toNat m sp hm.2.1).2
            rw [hm.2.2, hm.1, Bool.true_and] at this
            rw [← cvE _ _ hm.1 sp]; exact this.symm
          · have := (a3 m m' hm.1 hm'.2.1).2
            rw [hm'.2.2, hm'.1, Bool.true_and] at this
            rw [← cvE _ _ hm'.1 hm.1]; exact this.symm
        · intro k
          have k' : TC (fun x y => clD Q C y x) p.toNat j := TC.rev (D := fun x y => clD Q C y x) k
          refine k' (fun m => TC (fun i j => sN t 24 j = true ∧ j < 128 ∧ V i j = true) p.toNat m) (fun m hm => TC.base ?_) (fun m m' hm hm' => hm.step ?_)
          · obtain ⟨y1, y2, y3⟩ := (cl _ _).mp hm
            have l2 := s24 _ y1
            have := (a3 p.toNat m sp (by omega)).2
            rw [y1, Bool.true_and, cvE _ _ y1 sp, y3] at this
            exact ⟨y1, by omega, this⟩
          · obtain ⟨y1, y2, y3⟩ := (cl _ _).mp hm'
            have l2 := s24 _ y1
            have := (a3 m m' y2 (by omega)).2
            rw [y1, Bool.true_and, cvE _ _ y1 y2, y3] at this
            exact ⟨y1, by omega, this⟩
      have wr : ∀ i j, i < 128 → j < 128 → (Rr (128 * i + j) = 1 ↔ TC (clD Q C) i j) := fun i j i1 j1 => by
        rw [c4 i j i1 j1]
        exact WR_TC (fun i j k => ⟨k.1, k.2.1⟩) i j
      rw [a4, c5]
      refine tg_count (D := clD Q C) irr hD (p := p.toNat) (fun j hj => ?_) (fun j hj => ?_) (by omega)
      · rw [a5 j hj, fw j, bw j]
      · rw [tgB_iff, wr _ _ (by omega) (by omega), wr _ _ (by omega) (by omega)]
