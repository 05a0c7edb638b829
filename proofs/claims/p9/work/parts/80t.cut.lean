/-! the class: cutting a piece -/
def LEd (P : Nat → Int) (S : Nat → Bool) (U V : Nat → Nat → Bool) : Prop := ∀ i j, S i = true → S j = true → U i j = cvD P i j ∧ V i j = cvD P j i
theorem cvD_self (P : Nat → Int) (i : Nat) : cvD P i i = false := by unfold cvD; simp
theorem cvD_sym {P : Nat → Int} {S : Nat → Bool} {x p u : Nat} (h : INs P S x) (hp : S p = true) (hu : S u = true) (hne : u ≠ p) : (cmB P (p : Int) (u : Int) && !lbB P (p : Int) (u : Int)) = cvD P u p := by
  unfold cvD
  rw [show decide (u ≠ p) = true from decide_eq_true hne, Bool.true_and, cmB_sym P (u : Int) (p : Int)]
  cases c : cmB P (p : Int) (u : Int) with
  | false => simp
  | true =>
    have := cm_lb h.1 (h.2.1 u hu).2 (h.2.1 p hp).2 (h.2.2 u p hu hp hne) (by rw [cmB_sym]; exact c)
    rw [this]
theorem LEd_in {P : Nat → Int} {S : Nat → Bool} {U V : Nat → Nat → Bool} {p x : Nat} (h : INs P S x) (hp : S p = true) (hl : ∀ i j, S i = true → S j = true → i ≠ p → j ≠ p → U i j = cvD P i j ∧ V i j = cvD P j i) : LEd P S (biU P S U p x) (biV P S V p x) := by
  intro i j hi hj
  have ix := (h.2.1 i hi).1
  have jx := (h.2.1 j hj).1
  have dir : ∀ u, S u = true → u ≠ p → (cmB P (p : Int) (u : Int) && lbB P (p : Int) (u : Int)) = cvD P p u := fun u hu hne => by
    unfold cvD
    rw [show decide (p ≠ u) = true from decide_eq_true (Ne.symm hne), Bool.true_and]
  unfold biU biV
  by_cases e : i = p
  · rw [if_pos e, if_pos e, e]
    by_cases k : j = p
    · rw [k, cvD_self]
      simp
    · rw [show decide (j < x) = true from decide_eq_true jx, show decide (j ≠ p) = true from decide_eq_true k, hj]
      simp only [Bool.true_and]
      exact ⟨dir j hj k, cvD_sym h hp hj k⟩
  · rw [if_neg e, if_neg e]
    by_cases k : j = p
    · rw [if_pos ⟨k, ix, hi⟩, if_pos ⟨k, ix, hi⟩, k]
      exact ⟨cvD_sym h hp hi e, dir i hi e⟩
    · rw [if_neg (fun z => k z.1), if_neg (fun z => k z.1)]
      exact hl i j hi hj e k
theorem ends10 {P P' : Nat → Int} {u : Nat} (h : ∀ k, k < 6 → P (6 * u + k) = P' (6 * u + k)) : ∀ w : Int, (u : Int) * 6 ≤ w → w < (u : Int) * 6 + 6 → P w.toNat = P' w.toNat := by
  intro w h1 h2
  have := h (w.toNat - 6 * u) (by omega)
  rw [show 6 * u + (w.toNat - 6 * u) = w.toNat by omega] at this
  exact this
theorem ovB_cg {P P' : Nat → Int} {i j : Nat} (hi : ∀ k, k < 6 → P (6 * i + k) = P' (6 * i + k)) (hj : ∀ k, k < 6 → P (6 * j + k) = P' (6 * j + k)) {u v : Int} (u1 : 0 ≤ u) (u2 : u ≤ 4) (v1 : 0 ≤ v) (v2 : v ≤ 4) : ovB P u v (i : Int) (j : Int) = ovB P' u v (i : Int) (j : Int) := by
  have a := ends10 hi
  have c := ends10 hj
  unfold ovB
  rw [a ((i : Int) * 6 + u) (by omega) (by omega), a ((i : Int) * 6 + v + 1) (by omega) (by omega), a ((i : Int) * 6 + u + 1) (by omega) (by omega), a ((i : Int) * 6 + v) (by omega) (by omega), c ((j : Int) * 6 + u) (by omega) (by omega), c ((j : Int) * 6 + v + 1) (by omega) (by omega), c ((j : Int) * 6 + u + 1) (by omega) (by omega), c ((j : Int) * 6 + v) (by omega) (by omega)]
theorem lbB_cg {P P' : Nat → Int} {i j : Nat} (hi : ∀ k, k < 6 → P (6 * i + k) = P' (6 * i + k)) (hj : ∀ k, k < 6 → P (6 * j + k) = P' (6 * j + k)) : lbB P (i : Int) (j : Int) = lbB P' (i : Int) (j : Int) := by
  have a := ends10 hi
  have c := ends10 hj
  unfold lbB
  rw [a ((i : Int) * 6) (by omega) (by omega), a ((i : Int) * 6 + 2) (by omega) (by omega), a ((i : Int) * 6 + 4) (by omega) (by omega), c ((j : Int) * 6 + 1) (by omega) (by omega), c ((j : Int) * 6 + 3) (by omega) (by omega), c ((j : Int) * 6 + 5) (by omega) (by omega)]
theorem cvD_cg {P P' : Nat → Int} {i j : Nat} (hi : ∀ k, k < 6 → P (6 * i + k) = P' (6 * i + k)) (hj : ∀ k, k < 6 → P (6 * j + k) = P' (6 * j + k)) : cvD P i j = cvD P' i j := by
  unfold cvD cmB
  rw [ovB_cg hi hj (u := 0) (v := 2) (by omega) (by omega) (by omega) (by omega), ovB_cg hi hj (u := 0) (v := 4) (by omega) (by omega) (by omega) (by omega), ovB_cg hi hj (u := 2) (v := 4) (by omega) (by omega) (by omega) (by omega), lbB_cg hi hj]
theorem or_in {S : Nat → Bool} {p : Nat} (hp : S p = true) : (fun j => S j || decide (j = p)) = S := by
  funext j
  by_cases e : j = p
  · subst e; simp [hp]
  · simp [e]
theorem LEd_cut {P : Nat → Int} {S : Nat → Bool} {U V : Nat → Nat → Bool} {p x ax : Nat} {v : Int} (h : INs P S x) (hl : LEd P S U V) (hp : S p = true) (ha : ax < 3) (hv1 : P (6 * p + 2 * ax) < v) (hv2 : v < P (6 * p + 2 * ax + 1)) : LEd (ctP P x p ax v) (fun j => S j || decide (j = x)) (biU (ctP P x p ax v) (fun j => S j || decide (j = x)) (biU (ctP P x p ax v) S U p (x + 1)) x (x + 1)) (biV (ctP P x p ax v) (fun j => S j || decide (j = x)) (biV (ctP P x p ax v) S V p (x + 1)) x (x + 1)) := by
  have hin := h.cut hp ha hv1 hv2
  have up : ∀ i, S i = true → (S i || decide (i = x)) = true := fun i hi => by rw [hi]; rfl
  have hin1 : INs (ctP P x p ax v) S (x + 1) := ⟨hin.1, fun i hi => hin.2.1 i (up i hi), fun i j hi hj => hin.2.2 i j (up i hi) (up j hj)⟩
  have px := (h.2.1 p hp).1
  have h1 : LEd (ctP P x p ax v) S (biU (ctP P x p ax v) S U p (x + 1)) (biV (ctP P x p ax v) S V p (x + 1)) := LEd_in hin1 hp (fun i j hi hj ei ej => by
    have ix := (h.2.1 i hi).1
    have jx := (h.2.1 j hj).1
    have fi : ∀ k, k < 6 → ctP P x p ax v (6 * i + k) = P (6 * i + k) := fun k hk => ctP_oth px ha ix ei hk
    have fj : ∀ k, k < 6 → ctP P x p ax v (6 * j + k) = P (6 * j + k) := fun k hk => ctP_oth px ha jx ej hk
    rw [cvD_cg fi fj, cvD_cg fj fi]
    exact hl i j hi hj)
  refine LEd_in hin (by simp) (fun i j hi hj ei ej => ?_)
  simp only [Bool.or_eq_true, decide_eq_true_eq] at hi hj
  exact h1 i j (hi.resolve_right ei) (hj.resolve_right ej)
theorem PIv.cut {S : Nat → Bool} {a c x : Int} (hv : PIv S a c x) (cm : c < 96) : PIv (fun j => S j || decide (j = x.toNat)) a (c + 1) (x + 1) := by
  obtain ⟨i1, i2, i3, i4, i5, i6⟩ := hv
  have hxS : S x.toNat = false := by
    cases q : S x.toNat with
    | false => rfl
    | true => have := i6 _ q; omega
  have e1 := crd_add (S := S) (v := x.toNat) 128 (by omega) hxS
  refine ⟨i1, by rw [e1]; omega, by omega, by omega, by omega, fun k hk => ?_⟩
  simp only [Bool.or_eq_true, decide_eq_true_eq] at hk
  rcases hk with hk | hk
  · have := i6 _ hk; omega
  · omega
section C80t
variable {l : Launch} {G : xG} {h h' : yH} {n : Nat} {b o : Nat} {g : yH} {S : Nat → Bool} {a c : Int} {P W D : Nat → Int} {U V : Nat → Nat → Bool} {x : Nat}
def PCu (b o : Nat) (g : yH) (n : Nat) (S : Nat → Bool) (a c : Int) (x : Nat) (P' W' D : Nat → Int) (U' V' : Nat → Nat → Bool) : Option xV → yH → Nat → Prop := fun r h' n' => ∃ g', r = none ∧ SP b o g g' ∧ PF b o g' S a c (x : Int) ∧ MI b g' h' ∧ PX b o h' P' W' D U' V' ∧ n' = n
set_option maxHeartbeats 2000000 in
theorem e_Pcut (hf : PF b o g S a c (x : Int)) {p y : Nat} {z : Int} (hv : PIv S a c (x : Int)) (cm : c < 96) (pS : S p = true) (y2 : y < 3) (z1 : 0 ≤ z) (z2 : z ≤ 32) (hI : MI b g h) (hX : PX b o h P W D U V) : YM l G mX3_cut 3 0 0 [vr (b + o), vi (p : Int), vi (y : Int), vi z] h n (PCu b o g n (fun j => S j || decide (j = x)) a (c + 1) (x + 1) (ctP P x p y z) (upZ W x (W p)) D (biU (ctP P x p y z) (fun j => S j || decide (j = x)) (biU (ctP P x p y z) S U p (x + 1)) x (x + 1)) (biV (ctP P x p y z) (fun j => S j || decide (j = x)) (biV (ctP P x p y z) S V p (x + 1)) x (x + 1))) := by
  refine YM.of kX3_cut (Nat.le_of_ble_eq_true rfl) (L0 := [some (vr (b + o)), some (vi (p : Int)), some (vi (y : Int)), some (vi z), none]) rfl ?_
  obtain ⟨⟨ho, hw1, hw2, hw3⟩, hp, hFF⟩ := id hf
  have hs := SP.r b o g
  obtain ⟨i1, i2, i3, i4, i5, i6⟩ := id hv
  have px := i6 _ pS
  have ex : ((x : Int) + 1).toNat = x + 1 := by omega
  have cx : (x : Int) + 1 = ((x + 1 : Nat) : Int) := by omega
  refine y_run kX3_cut rfl ?_
  refine m_get kX3_cut (o) hI hp ?_ (t0 ho)
  refine y_run kX3_cut rfl ?_
  refine m_get kX3_cut (o) hI hp ?_ (t0 ho)
  refine y_run kX3_cut rfl ?_
  refine m_pPX (a' := a) (c' := c) (x' := (x : Int) + 1) kX3_cut hI hf hs (fun g2 h2 hs hf hI hfr => ?_) ⟨_, rfl, rfl, Nat.le_of_ble_eq_true rfl⟩
  replace hX := hX.on (h' := h2) (fun k hk => hfr _ (by omega))
  obtain ⟨⟨ho, hw1, hw2, hw3⟩, hp, hFF⟩ := id hf
  have hPb := hX.Pb ho hI
  have hWb : ∀ j, 0 ≤ W j ∧ W j ≤ 23 := by
    obtain ⟨F, e, hF⟩ := hI.i (t2 ho)
    rw [ai_inj hX.2.1 e]
    exact hF
  refine y_run kX3_cut rfl ?_
  refine m_get kX3_cut (o) hI hp ?_ (t0 ho)
  refine y_run kX3_cut rfl ?_
  refine m_get kX3_cut (o) hI hp ?_ (t0 ho)
  refine y_run kX3_cut rfl ?_
  refine y_copy kX3_cut rfl (by decide +kernel) hX.1 hX.1 (by omega) (by omega) (by omega) (by omega) (by omega) (by omega) (by omega) ?_
  have ec : cpZ P P ((p : Int) * 6).toNat ((x : Int) * 6).toNat (6 : Int).toNat = cpZ P P (6 * p) (6 * x) 6 := by
    rw [show ((p : Int) * 6).toNat = 6 * p by omega, show ((x : Int) * 6).toNat = 6 * x by omega]
    rfl
  have hPb1 : ∀ j, 0 ≤ cpZ P P (6 * p) (6 * x) 6 j ∧ cpZ P P (6 * p) (6 * x) 6 j ≤ 32 := cpZ_all (P := fun z => 0 ≤ z ∧ z ≤ 32) hPb hPb _ _ _
  refine YW.genP (P := fun y => MI b g2 y ∧ PX b o y (cpZ P P (6 * p) (6 * x) 6) W D U V) ⟨by rw [ec]; exact hI.up (t1 ho) ⟨_, rfl, hPb1⟩, by rw [ec]; exact hX.uP _⟩ (fun h3 ⟨hI, hX⟩ => ?_)
  refine y_run kX3_cut rfl ?_
  refine m_get kX3_cut (o) hI hp ?_ (t0 ho)
  refine y_run kX3_cut rfl ?_
  refine m_get kX3_cut (o) hI hp ?_ (t0 ho)
  refine y_run kX3_cut rfl ?_
  refine y_ia kX3_cut rfl hX.2.1 (by omega) (by omega) ?_
  refine y_is kX3_cut rfl hX.2.1 (by omega) (by omega) ?_
  refine YW.genP (P := fun y => MI b g2 y ∧ PX b o y (cpZ P P (6 * p) (6 * x) 6) (upZ W x (W p)) D U V) ⟨by rw [Int.toNat_natCast, Int.toNat_natCast]; exact hI.up (t2 ho) ⟨_, rfl, upZ_all (P := fun z => 0 ≤ z ∧ z ≤ 23) hWb _ (hWb _)⟩, by rw [Int.toNat_natCast, Int.toNat_natCast]; exact hX.uW _⟩ (fun h4 ⟨hI, hX⟩ => ?_)
  refine y_run kX3_cut rfl ?_
  refine m_get kX3_cut (o) hI hp ?_ (t0 ho)
  refine y_run kX3_cut rfl ?_
  refine y_is kX3_cut rfl hX.1 (by omega) (by omega) ?_
  have ei : ((p : Int) * 6 + 2 * (y : Int) + 1).toNat = 6 * p + 2 * y + 1 := by omega
  have hPb2 : ∀ j, 0 ≤ upZ (cpZ P P (6 * p) (6 * x) 6) (6 * p + 2 * y + 1) z j ∧ upZ (cpZ P P (6 * p) (6 * x) 6) (6 * p + 2 * y + 1) z j ≤ 32 := upZ_all (P := fun z => 0 ≤ z ∧ z ≤ 32) hPb1 _ ⟨z1, z2⟩
  refine YW.genP (P := fun y' => MI b g2 y' ∧ PX b o y' (upZ (cpZ P P (6 * p) (6 * x) 6) (6 * p + 2 * y + 1) z) (upZ W x (W p)) D U V) ⟨by rw [ei]; exact hI.up (t1 ho) ⟨_, rfl, hPb2⟩, by rw [ei]; exact hX.uP _⟩ (fun h5 ⟨hI, hX⟩ => ?_)
  refine y_run kX3_cut rfl ?_
  refine m_get kX3_cut (o) hI hp ?_ (t0 ho)
  refine y_run kX3_cut rfl ?_
  refine y_is kX3_cut rfl hX.1 (by omega) (by omega) ?_
  have ej : ((x : Int) * 6 + 2 * (y : Int)).toNat = 6 * x + 2 * y := by omega
  refine YW.genP (P := fun y' => MI b g2 y' ∧ PX b o y' (ctP P x p y z) (upZ W x (W p)) D U V) ⟨by rw [ej]; exact hI.up (t1 ho) ⟨_, rfl, upZ_all (P := fun z => 0 ≤ z ∧ z ≤ 32) hPb2 _ ⟨z1, z2⟩⟩, by rw [ej]; exact hX.uP _⟩ (fun h6 ⟨hI, hX⟩ => ?_)
  refine y_run kX3_cut rfl ?_
  refine y_cv kX3_cut kX3_bringIn 1 rfl (hI.x (k := o) (t0 ho) hp) (by decide +kernel) (e_bringIn hf (p := p) (by omega) (by omega) (by omega) hI hX) rfl rfl ?_
  rintro _ h7 _ ⟨g3, rfl, hs2, hf, hI, hX, rfl⟩
  rw [or_in pS] at hf hX
  rw [ex] at hX
  replace hs := hs.t hs2
  obtain ⟨⟨ho, hw1, hw2, hw3⟩, hp, hFF⟩ := id hf
  refine y_run kX3_cut rfl ?_
  refine y_cv kX3_cut kX3_bringIn 1 rfl (hI.x (k := o) (t0 ho) hp) (by decide +kernel) (e_bringIn hf (p := x) (by omega) (by omega) (by omega) hI hX) rfl rfl ?_
  rintro _ h8 _ ⟨g4, rfl, hs2, hf, hI, hX, rfl⟩
  rw [ex] at hX
  replace hs := hs.t hs2
  obtain ⟨⟨ho, hw1, hw2, hw3⟩, hp, hFF⟩ := id hf
  refine y_run kX3_cut rfl ?_
  refine m_get kX3_cut (o) hI hp ?_ (t0 ho)
  refine y_run kX3_cut rfl ?_
  refine m_pPX (a' := a) (c' := c + 1) (x' := (x : Int) + 1) kX3_cut hI hf hs (fun g5 h9 hs hf hI hfr => ?_) ⟨_, rfl, rfl, Nat.le_of_ble_eq_true rfl⟩
  replace hX := hX.on (h' := h9) (fun k hk => hfr _ (by omega))
  exact y_vr kX3_cut rfl rfl ⟨_, rfl, hs, cx ▸ hf, hI, hX, rfl⟩
end C80t
