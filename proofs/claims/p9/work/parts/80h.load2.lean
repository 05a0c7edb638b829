/-! load, exactly: behind it the relation is that of the scene's boxes -/
def cvB (P : Nat → Int) (i j : Nat) : Bool := decide (i ≠ j) && (cmB P (i : Int) (j : Int) && (if j < i then lbB P (i : Int) (j : Int) else !lbB P (j : Int) (i : Int)))
def sN (t : Int) (m : Nat) : Nat → Bool := fun j => decide (j < m) && tbt t j
def LD (P : Nat → Int) (S : Nat → Bool) (U V : Nat → Nat → Bool) : Prop := ∀ i j, S i = true → j < 128 → U i j = (S j && cvB P i j) ∧ V i j = (S j && cvB P j i)
theorem sN_yes {t : Int} {q : Nat} (h : tbt t q = true) : (fun j => sN t q j || decide (j = q)) = sN t (q + 1) := by
  funext j
  unfold sN
  by_cases e : j = q
  · subst e; simp [h]
  · rw [show decide (j < q + 1) = decide (j < q) from decide_eq_decide.mpr (by omega)]; simp [e]
theorem sN_no {t : Int} {q : Nat} (h : ¬ tbt t q = true) : sN t q = sN t (q + 1) := by
  funext j
  unfold sN
  by_cases e : j = q
  · subst e; simp [h]
  · rw [show decide (j < q + 1) = decide (j < q) from decide_eq_decide.mpr (by omega)]
theorem LD_in {P : Nat → Int} {S : Nat → Bool} {U V : Nat → Nat → Bool} {p x : Nat} (hl : LD P S U V) (hp : S p = false) (hS : ∀ k, S k = true → k < p) (hx : p < x) : LD P (fun j => S j || decide (j = p)) (biU P (fun j => S j || decide (j = p)) U p x) (biV P (fun j => S j || decide (j = p)) V p x) := by
  intro i j hi hj
  unfold biU biV cvB
  by_cases e : i = p
  · subst e
    rw [if_pos rfl, if_pos rfl]
    by_cases k : j = i
    · subst k; simp
    · have k' : i ≠ j := fun z => k z.symm
      cases z : S j with
      | false => simp [z, k]
      | true =>
        have jl := hS j z
        rw [if_pos jl, if_neg (show ¬ i < j by omega), cmB_sym P (j : Int) (i : Int)]
        simp [z, k, k', show j < x by omega]
  · have hi2 : S i = true := by simpa [e] using hi
    have il := hS i hi2
    rw [if_neg e, if_neg e]
    by_cases k : j = p
    · subst k
      have e' : j ≠ i := fun z => e z.symm
      have cc : j = j ∧ i < x ∧ (fun z => S z || decide (z = j)) i = true := ⟨rfl, by omega, hi⟩
      constructor
      · rw [if_pos cc, if_neg (show ¬ j < i by omega), cmB_sym P (i : Int) (j : Int)]
        simp [e]
      · rw [if_pos cc, if_pos il]
        simp [e']
    · have cc : ¬ (j = p ∧ i < x ∧ (fun z => S z || decide (z = p)) i = true) := fun z => k z.1
      constructor
      · rw [if_neg cc, (hl i j hi2 hj).1]
        unfold cvB
        simp [k]
      · rw [if_neg cc, (hl i j hi2 hj).2]
        unfold cvB
        simp [k]
section C80h
variable {l : Launch} {G : xG} {h h' : yH} {n : Nat} {b o : Nat} {g : yH} {S : Nat → Bool} {a c x : Int} {P W D : Nat → Int} {U V : Nat → Nat → Bool}
theorem PX.uW (hX : PX b o h P W D U V) (W' : Nat → Int) : PX b o (yup h (b + (o + 2)) (ai 120 W')) P W' D U V :=
  ⟨(yup_ne _ _ (by omega)).trans hX.1, yup_eq _ _ _, (yup_ne _ _ (by omega)).trans hX.2.2.1, fun k hk => (hX.2.2.2.1 k hk).on (yup_ne _ _ (by omega)), fun k hk => (hX.2.2.2.2 k hk).on (yup_ne _ _ (by omega))⟩
theorem PX.uP (hX : PX b o h P W D U V) (P' : Nat → Int) : PX b o (yup h (b + (o + 1)) (ai 720 P')) P' W D U V :=
  ⟨yup_eq _ _ _, (yup_ne _ _ (by omega)).trans hX.2.1, (yup_ne _ _ (by omega)).trans hX.2.2.1, fun k hk => (hX.2.2.2.1 k hk).on (yup_ne _ _ (by omega)), fun k hk => (hX.2.2.2.2 k hk).on (yup_ne _ _ (by omega))⟩
theorem PX.uD (hX : PX b o h P W D U V) (D' : Nat → Int) : PX b o (yup h (b + (o + 3)) (ai 96 D')) P W D' U V :=
  ⟨(yup_ne _ _ (by omega)).trans hX.1, (yup_ne _ _ (by omega)).trans hX.2.1, yup_eq _ _ _, fun k hk => (hX.2.2.2.1 k hk).on (yup_ne _ _ (by omega)), fun k hk => (hX.2.2.2.2 k hk).on (yup_ne _ _ (by omega))⟩
/-- whatever they are, they are something -/
theorem MI.px (hI : MI b g h) (ho : o = 20 ∨ o = 270) : ∃ P W D U V, PX b o h P W D U V := by
  obtain ⟨P, e1, -⟩ := hI.i (t1 ho)
  obtain ⟨W, e2, -⟩ := hI.i (t2 ho)
  obtain ⟨D, e3, -⟩ := hI.i (t3 ho)
  have hU : ∀ k : Nat, ∃ X : Nat → Bool, k < 120 → NA h (b + (o + (10 + 2 * k))) X := fun k => by
    by_cases hk : k < 120
    · obtain ⟨x, y, e⟩ := hI.n (k := o + (10 + 2 * k)) (nT ho (by omega) (by omega))
      exact ⟨_, fun _ => NA_any e⟩
    · exact ⟨fun _ => false, fun q => absurd q hk⟩
  have hV : ∀ k : Nat, ∃ X : Nat → Bool, k < 120 → NA h (b + (o + (11 + 2 * k))) X := fun k => by
    by_cases hk : k < 120
    · obtain ⟨x, y, e⟩ := hI.n (k := o + (11 + 2 * k)) (nT ho (by omega) (by omega))
      exact ⟨_, fun _ => NA_any e⟩
    · exact ⟨fun _ => false, fun q => absurd q hk⟩
  exact ⟨P, W, D, fun k => Classical.choose (hU k), fun k => Classical.choose (hV k), e1, e2, e3, fun k hk => Classical.choose_spec (hU k) hk, fun k hk => Classical.choose_spec (hV k) hk⟩
def PLD (b o : Nat) (g : yH) (n : Nat) (t : Int) (E : Nat → Int) : Option xV → yH → Nat → Prop := fun r h' n' => ∃ g' c' P W D U V, r = none ∧ SP b o g g' ∧ PF b o g' (sN t 24) 0 c' 24 ∧ PIv (sN t 24) 0 c' 24 ∧ MI b g' h' ∧ PX b o h' P W D U V ∧ (∀ j, j < 144 → P j = E j) ∧ LD P (sN t 24) U V ∧ (∀ j : Nat, j < 24 → tbt t j = true → W j = (j : Int)) ∧ n' = n
theorem s_loadE {g0 : yH} {t : Int} {E K R T : Nat → Int} (hsc0 : SF b g0 t E K R T) : ∀ (m : Nat) (q : Nat) (g : yH) (c : Int) (W : Nat → Int) (U V : Nat → Nat → Bool) (h : yH), 24 - q < m → q ≤ 24 → SP b o g0 g → PF b o g (sN t q) 0 c 24 → (crd (sN t q) 128 : Int) = c → c ≤ q → MI b g h → PX b o h P W D U V → (∀ j, j < 144 → P j = E j) → LD P (sN t q) U V → (∀ j : Nat, j < q → tbt t j = true → W j = (j : Int)) → YW l G mX3_load 3 0 0 (PLD b o g0 n t E) 43 [some (vr (b + o)), some (vr (b + 1)), some (vi (q : Int))] [] h n := by
  intro m
  induction m with
  | zero => intro q g c W U V h hm; exact absurd hm (Nat.not_lt_zero _)
  | succ m ih =>
    intro q g c W U V h hmm j1 hs hf hc hcq hI hX hPE hLD hW
    obtain ⟨⟨ho, hw1, hw2, hw3⟩, hp, ⟨lo, hi, hL, hLb⟩, hFF⟩ := id hf
    have hsc := hsc0.sp ho hs
    have hSq : ∀ k, sN t q k = true → k < q := fun k hk => by
      unfold sN at hk
      simp only [Bool.and_eq_true, decide_eq_true_eq] at hk
      exact hk.1
    have hqS : sN t q q = false := by
      cases z : sN t q q with
      | false => rfl
      | true => have := hSq q z; omega
    refine y_run kX3_load rfl ?_
    refine y_ic_ge kX3_load rfl rfl (fun c1 => ?_) (fun c1 => ?_)
    · have e : q = 24 := by omega
      subst e
      exact y_vr kX3_load rfl rfl ⟨_, _, P, W, D, U, V, rfl, hs, hf, ⟨by omega, by omega, by omega, by omega, by omega, fun k hk => by have := hSq k hk; omega⟩, hI, hX, hPE, hLD, hW, rfl⟩
    · refine y_run kX3_load rfl ?_
      refine y_cv kX3_load kX5_has 1 rfl (hI.x (k := 1) rfl hsc.1.1) (by decide +kernel) (c_Shas (hI.sc hsc.1) ⟨by omega, by omega⟩) rfl rfl ?_
      rintro _ h2 _ ⟨rfl, eh, rfl⟩
      subst eh
      have cast : (q : Int) + 1 = ((q + 1 : Nat) : Int) := by omega
      refine y_beq kX3_load rfl rfl (fun c2 => ?_) (fun c2 => ?_)
      · have nb : ¬ tbt t q = true := fun z => c2 ⟨⟨by omega, by omega⟩, by rw [Int.toNat_natCast]; exact z⟩
        refine y_run kX3_load rfl ?_
        refine YW.Le (congrArg (fun z : Int => [some (vr (b + o)), some (vr (b + 1)), some (vi z)]) cast) ?_
        have en := sN_no nb
        refine ih (q + 1) g c W U V _ (by omega) (by omega) hs (en ▸ hf) (en ▸ hc) (by omega) hI hX hPE (en ▸ hLD) (fun j hj hb => ?_)
        by_cases e : j = q
        · subst e; exact absurd hb nb
        · exact hW j (by omega) hb
      · have yb : tbt t q = true := by have := c2.2; rw [Int.toNat_natCast] at this; exact this
        have en := sN_yes yb
        have e1 := crd_add (S := sN t q) (v := q) 128 (by omega) hqS
        rw [en] at e1
        refine y_run kX3_load rfl ?_
        refine m_get kX3_load (o) hI hp ?_ (t0 ho)
        refine y_run kX3_load rfl ?_
        refine y_is kX3_load rfl hX.2.1 (by omega) (by omega) ?_
        have hWb : ∀ j, 0 ≤ W j ∧ W j ≤ 23 := by
          obtain ⟨F, e, hF⟩ := hI.i (t2 ho)
          rw [ai_inj hX.2.1 e]
          exact hF
        refine YW.genP (P := fun y => MI b g y ∧ PX b o y P (upZ W q (q : Int)) D U V) ⟨by rw [Int.toNat_natCast]; exact hI.up (t2 ho) ⟨_, rfl, upZ_all (P := fun z => 0 ≤ z ∧ z ≤ 23) hWb _ (by omega)⟩, by rw [Int.toNat_natCast]; exact hX.uW _⟩ (fun h3 ⟨hI, hX⟩ => ?_)
        refine y_run kX3_load rfl ?_
        refine y_cv kX3_load kX3_bringIn 1 rfl (hI.x (k := o) (t0 ho) hp) (by decide +kernel) (e_bringIn hf (p := q) (by omega) (by omega) (by omega) hI hX) rfl rfl ?_
        rintro _ h4 _ ⟨g1, rfl, hs2, hf, hI, hX, rfl⟩
        have hLD2 := LD_in (x := (24 : Int).toNat) hLD hqS hSq (show q < 24 by omega)
        rw [en] at hf hLD2 hX
        replace hs := hs.t hs2
        obtain ⟨⟨ho, hw1, hw2, hw3⟩, hp, ⟨lo, hi, hL, hLb⟩, hFF⟩ := id hf
        refine y_run kX3_load rfl ?_
        refine m_get kX3_load (o) hI hp ?_ (t0 ho)
        refine y_run kX3_load rfl ?_
        refine m_pPX (a' := 0) (c' := c + 1) (x' := 24) kX3_load hI hf hs (fun g2 h5 hs hf hI hfr => ?_) ⟨_, rfl, rfl, Nat.le_of_ble_eq_true rfl⟩
        replace hX := hX.on (h' := h5) (fun k hk => hfr _ (by omega))
        refine y_run kX3_load rfl ?_
        refine YW.Le (congrArg (fun z : Int => [some (vr (b + o)), some (vr (b + 1)), some (vi z)]) cast) ?_
        refine ih (q + 1) g2 (c + 1) _ _ _ h5 (by omega) (by omega) hs hf (by rw [e1]; omega) (by omega) hI hX hPE hLD2 (fun j hj hb => ?_)
        by_cases e : j = q
        · subst e; rw [upZ_eq]
        · rw [upZ_ne _ _ e]; exact hW j (by omega) hb
set_option maxHeartbeats 2000000 in
theorem e_load (hf : PF b o g S a c x) {t : Int} {E K R T : Nat → Int} (hsc : SF b g t E K R T) (hI : MI b g h) : YM l G mX3_load 3 0 0 [vr (b + o), vr (b + 1)] h n (PLD b o g n t E) := by
  refine YM.of kX3_load (Nat.le_of_ble_eq_true rfl) (L0 := [some (vr (b + o)), some (vr (b + 1)), none]) rfl ?_
  obtain ⟨⟨ho, hw1, hw2, hw3⟩, hp, ⟨lo, hi, hL, hLb⟩, hFF⟩ := id hf
  obtain ⟨P, W, D, U, V, hX⟩ := hI.px ho
  have hs := SP.r b o g
  have hPb := hX.Pb ho hI
  refine y_run kX3_load rfl ?_
  refine m_get kX3_load (1) hI hsc.1.1 ?_
  refine y_run kX3_load rfl ?_
  refine m_get kX3_load (o) hI hp ?_ (t0 ho)
  refine y_run kX3_load rfl ?_
  refine m_get kX3_load (1) hI hsc.1.1 ?_
  refine y_al kX3_load rfl (hI.x (k := 2) rfl hsc.1.2.1) ?_
  refine y_copy kX3_load rfl (by decide +kernel) (hI.x (k := 2) rfl hsc.1.2.1) hX.1 (by omega) (by omega) (by omega) (by omega) (by omega) (by omega) (by omega) ?_
  refine YW.genP (P := fun y => MI b g y ∧ PX b o y (cpZ E P 0 0 144) W D U V) ⟨hI.up (t1 ho) ⟨_, rfl, cpZ_all (P := fun z => 0 ≤ z ∧ z ≤ 32) hsc.2.1 hPb _ _ _⟩, hX.uP _⟩ (fun h1 ⟨hI, hX⟩ => ?_)
  refine y_run kX3_load rfl ?_
  refine m_get kX3_load (o) hI hp ?_ (t0 ho)
  refine y_cv kX3_load kX0_clear 0 rfl (hI.x (k := o + 4) (t4 ho) hL) (by decide +kernel) (c_Nclear (hf.na hI)) rfl rfl ?_
  rintro _ h2 _ ⟨rfl, hu, rfl⟩
  obtain ⟨g1, hs2, hf, hI⟩ := NU.pl hf hI hu
  replace hX := hX.on (h' := h2) (fun k hk => hu.ne (by omega))
  replace hs := hs.t hs2
  obtain ⟨⟨ho, hw1, hw2, hw3⟩, hp, -⟩ := id hf
  refine y_run kX3_load rfl ?_
  refine m_pPX (a' := 0) (c' := c) (x' := x) kX3_load hI hf hs (fun g2 h3 hs hf hI hfr => ?_) ⟨_, rfl, rfl, Nat.le_of_ble_eq_true rfl⟩
  replace hX := hX.on (h' := h3) (fun k hk => hfr _ (by omega))
  refine y_run kX3_load rfl ?_
  refine m_pPX (a' := 0) (c' := 0) (x' := x) kX3_load hI hf hs (fun g2 h4 hs hf hI hfr => ?_) ⟨_, rfl, rfl, Nat.le_of_ble_eq_true rfl⟩
  replace hX := hX.on (h' := h4) (fun k hk => hfr _ (by omega))
  refine y_run kX3_load rfl ?_
  refine m_pPX (a' := 0) (c' := 0) (x' := 24) kX3_load hI hf hs (fun g2 h5 hs hf hI hfr => ?_) ⟨_, rfl, rfl, Nat.le_of_ble_eq_true rfl⟩
  replace hX := hX.on (h' := h5) (fun k hk => hfr _ (by omega))
  refine y_run kX3_load rfl ?_
  refine YW.Le (congrArg (fun z : Int => [some (vr (b + o)), some (vr (b + 1)), some (vi z)]) (show (0 : Int) = ((0 : Nat) : Int) by omega)) ?_
  have e0 : (fun _ => false) = sN t 0 := by funext j; unfold sN; simp
  rw [e0] at hf
  exact s_loadE hsc 25 0 g2 0 W U V h5 (by omega) (by omega) hs hf (by rw [← e0, crd_0]; rfl) (by omega) hI hX (fun j hj => cpZ_lt hj) (fun i j hi => absurd hi (by unfold sN; simp)) (fun j hj => absurd hj (by omega))
end C80h
