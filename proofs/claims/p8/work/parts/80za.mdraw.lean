/-! the reference: draw, exactly -/
section C80za
variable {l : Launch} {G : xG} {h h0 : yH} {n : Nat} {b : Nat} {g g0 : yH} {i0 i1 i2 i3 i4 i5 i6 : Int} {B J : Nat → Int} {σ : sT}
def PDr (b : Nat) (g0 : yH) (n : Nat) (B J : Nat → Int) (σ : sT) : Option xV → yH → Nat → Prop := fun r h' n' => ∃ (g' : yH) (z : Int) (i0 i1 i2 i3 i4 i5 i6 : Int), r = some (vi z) ∧ SM b g0 g' ∧ RF b g' B J i0 i1 i2 i3 i4 i5 i6 ∧ MI b g' h' ∧ n' = n ∧ ∃ σ', RUN σ σ' ∧ STOP σ' z
/-- no plane cuts: it counts on until they would be too many -/
theorem s_stuckE {P W D O : Nat → Int} {S : Nat → Bool} {x c a : Nat} {xl : Int} (hin : INs P S x) (hx : x < 120) (hno : ∀ f, ¬ frP P S f) (hnp : ∀ i ax v, S i = true → ax < 3 → ¬ inP P S i ax v) (hrun : RUN σ (P, W, S, x, c, D, a)) (hst : STOP (P, W, S, x, c, D, a) (-1)) : ∀ (m : Nat) (k : Nat) (g : yH) (i0 i1 i2 i3 i4 i5 : Int) (Q C : Nat → Int) (u4 u5 : Option xV) (h : yH), 96 - k < m → k ≤ 96 → a < k → SM b g0 g → RF b g B J i0 i1 i2 i3 i4 i5 (x : Int) → MI b g h → h (b + 545) = some (ai 1024 Q) → h (b + 546) = some (az 16384 C) → AG Q C O P W S x D a → YW l G mX7_draw 4 0 0 (PDr b g0 n B J σ) 46 [some (vr (b + 540)), some (vi xl), some (vi (k : Int)), some (vi (a : Int)), u4, u5] [] h n := by
  intro m
  induction m with
  | zero => intro k g i0 i1 i2 i3 i4 i5 Q C u4 u5 h hm; exact absurd hm (Nat.not_lt_zero _)
  | succ m ih =>
    intro k g i0 i1 i2 i3 i4 i5 Q C u4 u5 h hmm j1 j2 hs hf hI e45 e46 hag
    obtain ⟨hm, -⟩ := id hf
    refine y_run kX7_draw rfl ?_
    refine y_ic_ge kX7_draw rfl rfl (fun c1 => absurd c1 (by omega)) (fun c1 => ?_)
    refine y_run kX7_draw rfl ?_
    refine y_cv kX7_draw kX7_free 0 rfl (hI.x (k := 540) rfl hm) (by decide +kernel) (e_free hf hI e45 e46) rfl rfl ?_
    rintro _ h1 _ ⟨hr, eh, rfl⟩
    subst eh
    rcases hr with ⟨rfl, -⟩ | ⟨f, rfl, f1, f2, -⟩
    · refine y_run kX7_draw rfl ?_
      refine y_ic_eq kX7_draw rfl rfl (fun _ => ?_) (fun e => absurd rfl e)
      refine y_run kX7_draw rfl ?_
      refine y_ic_ne kX7_draw rfl rfl (fun c3 => ?_) (fun c3 => ?_)
      · refine y_run kX7_draw rfl ?_
        refine y_cv kX7_draw kX7_cut 0 rfl (hI.x (k := 540) rfl hm) (by decide +kernel) (e_cut hf hag hin hx hI e45 e46) rfl rfl ?_
        rintro _ h2 _ ⟨g', Q', C', rfl, hs2, hI2, rfl, e45', e46', hfr, hr⟩
        rcases hr with ⟨-, hf', hag'⟩ | ⟨i, ax, v, hq, -⟩
        · refine y_run kX7_draw rfl ?_
          refine YW.Le (congrArg (fun z : Int => [some (vr (b + 540)), some (vi xl), some (vi z), some (vi (a : Int)), some (vi (-1)), u5]) (show (k : Int) + 1 = ((k + 1 : Nat) : Int) by omega)) ?_
          exact ih (k + 1) g' i0 i1 i2 i3 i4 i5 Q' C' _ _ h2 (by omega) (by omega) (by omega) (hs.t hs2) hf' hI2 e45' e46' hag'
        · exact absurd hq.2.2.1.1 (hnp i ax v hq.1 hq.2.1)
      · refine y_run kX7_draw rfl ?_
        exact y_ir kX7_draw rfl rfl ⟨g, -1, i0, i1, i2, i3, i4, i5, _, rfl, hs, hf, hI, rfl, _, hrun, hst⟩
    · exact absurd ((hag.fr f1).mp f2) (hno f)
set_option maxHeartbeats 2000000 in
theorem s_mdraw2E {xl : Int} : ∀ (m : Nat) (P W D : Nat → Int) (S : Nat → Bool) (x c a : Nat) (g : yH) (i0 i1 i2 i3 i4 i5 : Int) (Q C O : Nat → Int) (u4 u5 : Option xV) (h : yH), 192 - c - a < m → SM b g0 g → RF b g B J i0 i1 i2 i3 i4 i5 (x : Int) → MI b g h → h (b + 545) = some (ai 1024 Q) → h (b + 546) = some (az 16384 C) → h (b + 549) = some (ai 96 O) → AG Q C O P W S x D a → INs P S x → PIv S (a : Int) (c : Int) (x : Int) → RUN σ (P, W, S, x, c, D, a) → YW l G mX7_draw 4 0 0 (PDr b g0 n B J σ) 46 [some (vr (b + 540)), some (vi xl), some (vi (c : Int)), some (vi (a : Int)), u4, u5] [] h n := by
  intro m
  induction m with
  | zero => intro P W D S x c a g i0 i1 i2 i3 i4 i5 Q C O u4 u5 h hm; exact absurd hm (Nat.not_lt_zero _)
  | succ m ih =>
    intro P W D S x c a g i0 i1 i2 i3 i4 i5 Q C O u4 u5 h hmm hs hf hI e45 e46 e49 hag hin hv hrun
    obtain ⟨hm, hB, hJ, hBb, hBs, hBc, hJb, hi1, hi2, hi3, hi4⟩ := id hf
    obtain ⟨v1, v2, v3, v4, v5, v6⟩ := id hv
    refine y_run kX7_draw rfl ?_
    refine y_ic_ge kX7_draw rfl rfl (fun c1 => ?_) (fun c1 => ?_)
    · have hst : STOP (P, W, S, x, c, D, a) (c : Int) := Or.inl ⟨fun s => by
        cases e : S s with
        | false => exact e
        | true => have := crd_pos e 128 (hag.sb s e); omega, rfl⟩
      refine y_run kX7_draw rfl ?_
      refine m_pM10 kX7_draw hI hf hs (fun g h hs hf hI => ?_) (by omega) (by omega)
      obtain ⟨hm, hB, hJ, hBb, hBs, hBc, hJb, hi1, hi2, hi3, hi4⟩ := id hf
      refine y_run kX7_draw rfl ?_
      refine m_pM11 kX7_draw hI hf hs (fun g h hs hf hI => ?_)
      obtain ⟨hm, hB, hJ, hBb, hBs, hBc, hJb, hi1, hi2, hi3, hi4⟩ := id hf
      refine y_run kX7_draw rfl ?_
      refine m_pM12 kX7_draw hI hf hs (fun g h hs hf hI => ?_)
      obtain ⟨hm, hB, hJ, hBb, hBs, hBc, hJb, hi1, hi2, hi3, hi4⟩ := id hf
      refine y_run kX7_draw rfl ?_
      exact s_draw3 (y := (c : Int)) (by omega) (by omega) (by omega) (by omega) (fun g i2 u4 u5 h hs hf hI => by
        obtain ⟨hm, hB, hJ, hBb, hBs, hBc, hJb, hi1, hi2, hi3, hi4⟩ := id hf
        refine y_run kX7_draw rfl ?_
        exact s_draw4 hf (y := (c : Int)) (by omega) (by omega) (fun u4 u5 h hI => by
          refine y_run kX7_draw rfl ?_
          refine y_cv kX7_draw kX7_paintAll 0 rfl (hI.x (k := 540) rfl hm) (by decide +kernel) (w_paintAll hf hI) rfl rfl ?_
          rintro _ h _ ⟨g, i0, i1, i2, i3, i4, i5, kv1, rfl, hs2, hf, v1a, v1b, hI, rfl⟩
          replace hs := hs.t hs2
          obtain ⟨hm, hB, hJ, hBb, hBs, hBc, hJb, hi1, hi2, hi3, hi4⟩ := id hf
          refine y_run kX7_draw rfl ?_
          refine m_get kX7_draw (540) hI hm ?_
          refine y_run kX7_draw rfl ?_
          refine YW.nr1 ?_
          refine m_pM15 kX7_draw hI hf hs (fun g h hs hf hI => ?_) (nrm_rng _).1 (nrm_rng _).2
          obtain ⟨hm, hB, hJ, hBb, hBs, hBc, hJb, hi1, hi2, hi3, hi4⟩ := id hf
          refine y_run kX7_draw rfl ?_
          exact y_ir kX7_draw rfl rfl ⟨_, _, _, _, _, _, _, _, _, rfl, hs, hf, hI, rfl, _, hrun, hst⟩) _ 0 _ _ (Nat.lt_succ_self _) (by omega) (by omega) hI) _ 0 _ _ _ _ (Nat.lt_succ_self _) (by omega) (by omega) hs hf hI
    · have ex : ∃ s, S s = true := Classical.byContradiction (fun z => by
        have : crd S 128 = 0 := by
          rw [crd_off (S' := fun _ => false) 128 (fun j _ => by
            cases e : S j with
            | false => rfl
            | true => exact absurd ⟨j, e⟩ z), crd_0]
        omega)
      refine y_run kX7_draw rfl ?_
      refine y_cv kX7_draw kX7_free 0 rfl (hI.x (k := 540) rfl hm) (by decide +kernel) (e_free hf hI e45 e46) rfl rfl ?_
      rintro _ h1 _ ⟨hr, eh, rfl⟩
      subst eh
      rcases hr with ⟨rfl, hno⟩ | ⟨f, rfl, f1, f2, f3⟩
      · have nofr : ∀ f, ¬ frP P S f := fun f hf' => hno f (hag.sb f hf'.1) ((hag.fr (hag.sb f hf'.1)).mpr hf')
        refine y_run kX7_draw rfl ?_
        refine y_ic_eq kX7_draw rfl rfl (fun _ => ?_) (fun e => absurd rfl e)
        refine y_run kX7_draw rfl ?_
        refine y_ic_ne kX7_draw rfl rfl (fun c3 => ?_) (fun c3 => ?_)
        · refine y_run kX7_draw rfl ?_
          refine y_cv kX7_draw kX7_cut 0 rfl (hI.x (k := 540) rfl hm) (by decide +kernel) (e_cut hf hag hin (by omega) hI e45 e46) rfl rfl ?_
          rintro _ h2 _ ⟨g', Q', C', rfl, hs2, hI2, rfl, e45', e46', hfr, hr⟩
          refine y_run kX7_draw rfl ?_
          refine YW.Le (congrArg (fun z : Int => [some (vr (b + 540)), some (vi xl), some (vi z), some (vi (a : Int)), some (vi (-1)), u5]) (show (c : Int) + 1 = ((c + 1 : Nat) : Int) by omega)) ?_
          rcases hr with ⟨hnp, hf', hag'⟩ | ⟨i, ax, v, hq, hf', hag'⟩
          · exact s_stuckE hin (by omega) nofr hnp hrun (Or.inr ⟨ex, nofr, Or.inr hnp, rfl⟩) 97 (c + 1) g' i0 i1 i2 i3 i4 i5 Q' C' _ _ h2 (by omega) (by omega) (by omega) (hs.t hs2) hf' hI2 e45' e46' hag'
          · have hv' := hv.cut (show (c : Int) < 96 by omega)
            rw [Int.toNat_natCast] at hv'
            exact ih _ _ D _ (x + 1) (c + 1) a g' i0 i1 i2 i3 i4 i5 Q' C' O _ _ h2 (by omega) (hs.t hs2) hf' hI2 e45' e46' ((hfr _ (by omega) (by omega) (by omega) (by omega) (by omega)).trans e49) hag' (hin.cut hq.1 hq.2.1 hq.2.2.1.1.1.1 hq.2.2.1.1.1.2) hv' (hrun.st (Or.inr ⟨nofr, by show c < 96; omega, i, ax, v, hq, rfl⟩))
        · refine y_run kX7_draw rfl ?_
          exact y_ir kX7_draw rfl rfl ⟨g, -1, i0, i1, i2, i3, i4, i5, _, rfl, hs, hf, hI, rfl, _, hrun, Or.inr ⟨ex, nofr, Or.inl (by show 96 ≤ c; omega), rfl⟩⟩
      · have hfp := (hag.fr f1).mp f2
        have fx := v6 f hfp.1
        obtain ⟨hv2, hac⟩ := hv.out (v := (f : Int)) (by omega) (by rw [Int.toNat_natCast]; exact hfp.1)
        rw [Int.toNat_natCast] at hv2
        have hQb : ∀ j, -1 ≤ Q j ∧ Q j ≤ 127 := by
          obtain ⟨F, e, hF⟩ := hI.i (k := 545) (N := 1024) (lo := -1) (hi := 127) rfl
          rw [ai_inj e45 e]
          exact hF
        refine y_run kX7_draw rfl ?_
        refine y_ic_eq kX7_draw rfl rfl (fun e => absurd e (by omega)) (fun _ => ?_)
        refine y_run kX7_draw rfl ?_
        refine m_get kX7_draw (540) hI hm ?_
        refine y_run kX7_draw rfl ?_
        refine y_is kX7_draw rfl e45 (by omega) (by omega) ?_
        refine YW.genP (P := fun y => MI b g y ∧ y (b + 545) = some (ai 1024 (upZ Q (8 * f + 7) 1)) ∧ y (b + 546) = some (az 16384 C) ∧ y (b + 549) = some (ai 96 O)) ⟨hI.up (k := 545) rfl ⟨_, rfl, upZ_all (P := fun z => -1 ≤ z ∧ z ≤ 127) hQb _ (by omega)⟩, by rw [show (8 * (f : Int) + 7).toNat = 8 * f + 7 by omega]; exact yup_eq _ _ _, (yup_ne _ _ (by omega)).trans e46, (yup_ne _ _ (by omega)).trans e49⟩ (fun h2 ⟨hI2, k45, k46, k49⟩ => ?_)
        refine y_run kX7_draw rfl ?_
        refine m_get kX7_draw (540) hI2 hm ?_
        refine y_run kX7_draw rfl ?_
        have hOb := hI2.i (k := 549) rfl
        refine y_is kX7_draw rfl k49 (by omega) (by omega) ?_
        refine YW.genP (P := fun y => MI b g y ∧ y (b + 545) = some (ai 1024 (upZ Q (8 * f + 7) 1)) ∧ y (b + 546) = some (az 16384 C) ∧ y (b + 549) = some (ai 96 (upZ O a (f : Int)))) ⟨?_, (yup_ne _ _ (by omega)).trans k45, (yup_ne _ _ (by omega)).trans k46, by rw [Int.toNat_natCast]; exact yup_eq _ _ _⟩ (fun h3 ⟨hI3, m45, m46, m49⟩ => ?_)
        · obtain ⟨F, e, hF⟩ := hOb
          refine hI2.up (k := 549) rfl ⟨_, rfl, fun j => ?_⟩
          rw [ai_inj k49 e]
          unfold upZ
          split
          · exact ⟨by omega, by omega⟩
          · exact hF j
        refine y_run kX7_draw rfl ?_
        refine YW.Le (congrArg (fun z : Int => [some (vr (b + 540)), some (vi xl), some (vi (c : Int)), some (vi z), some (vi (f : Int)), u5]) (show (a : Int) + 1 = ((a + 1 : Nat) : Int) by omega)) ?_
        exact ih P W _ _ x c (a + 1) g i0 i1 i2 i3 i4 i5 _ C _ _ _ h3 (by omega) hs hf hI3 m45 m46 m49 (hag.out hfp.1) (hin.out f) hv2 (hrun.st (Or.inl ⟨f, hfp, fun f' hf' z => f3 f' hf' ((hag.fr (by omega)).mpr z), rfl⟩))
/-- how many boxes there are -/
theorem s_mdraw1E {t : Int} {E K Rr : Nat → Int} (hr : REL t E K Rr B J) (hf : RF b g B J i0 i1 i2 i3 i4 i5 i6) (hI : MI b g h) {Φ : Option xV → yH → Nat → Prop} (kk : ∀ (u2 : Option xV), YW l G mX7_draw 4 0 0 Φ 42 [some (vr (b + 540)), some (vi ((crd (sN t 24) 24 : Nat) : Int)), u2, none, none, none] [] h n) : ∀ (m : Nat) (q : Nat), 24 - q < m → q ≤ 24 → YW l G mX7_draw 4 0 0 Φ 14 [some (vr (b + 540)), some (vi ((crd (sN t 24) q : Nat) : Int)), some (vi (q : Int)), none, none, none] [] h n := by
  intro m
  induction m with
  | zero => intro q hm; exact absurd hm (Nat.not_lt_zero _)
  | succ m ih =>
    intro q hmm j1
    obtain ⟨hm, hB, hJ, hBb, -⟩ := id hf
    have cb := crd_le (sN t 24) q
    refine y_run kX7_draw rfl ?_
    refine y_ic_ge kX7_draw rfl rfl (fun c1 => ?_) (fun c1 => ?_)
    · have e : q = 24 := by omega
      subst e
      exact kk _
    · have k := ih (q + 1) (by omega) (by omega)
      rw [show ((q + 1 : Nat) : Int) = (q : Int) + 1 by omega] at k
      refine y_run kX7_draw rfl ?_
      refine y_cv kX7_draw kX7_isThere 1 rfl (hI.x (k := 540) rfl hm) (by decide +kernel) (c_isThere (hI.x (k := 540) rfl hm) (hI.x (k := 541) rfl hB) (fun j => ⟨by have := hBb j; omega, by have := hBb j; omega⟩) ⟨by omega, by omega⟩) rfl rfl ?_
      rintro _ h2 _ ⟨⟨rfl, hr2⟩ | ⟨rfl, hr2⟩, eh, rfl⟩
      · subst eh
        have s1 : sN t 24 q = true := (sN_iff t q).mpr ((hr.r_isT (q : Int)).mpr hr2)
        have e1 : crd (sN t 24) (q + 1) = crd (sN t 24) q + 1 := by
          show crd (sN t 24) q + (if sN t 24 q then 1 else 0) = _
          rw [s1]; rfl
        rw [e1, show ((crd (sN t 24) q + 1 : Nat) : Int) = ((crd (sN t 24) q : Nat) : Int) + 1 by omega] at k
        refine y_if_eq kX7_draw rfl rfl (fun e => absurd e (by omega)) (fun _ => ?_)
        refine y_run kX7_draw rfl ?_
        exact k
      · subst eh
        have s1 : sN t 24 q = false := by
          cases z : sN t 24 q with
          | false => rfl
          | true => exact absurd ((hr.r_isT (q : Int)).mp ((sN_iff t q).mp z)) hr2
        have e1 : crd (sN t 24) (q + 1) = crd (sN t 24) q := by
          show crd (sN t 24) q + (if sN t 24 q then 1 else 0) = _
          rw [s1]; rfl
        rw [e1] at k
        refine y_if_eq kX7_draw rfl rfl (fun _ => ?_) (fun e => absurd rfl e)
        refine y_run kX7_draw rfl ?_
        refine YW.Le (congrArg (fun z : Int => [some (vr (b + 540)), some (vi z), some (vi ((q : Int) + 1)), none, none, none]) (show ((crd (sN t 24) q : Nat) : Int) + 0 = ((crd (sN t 24) q : Nat) : Int) by omega)) ?_
        exact k
theorem crd_24 (t : Int) : crd (sN t 24) 128 = crd (sN t 24) 24 := by
  rw [show 128 = 24 + 104 from rfl, crd_split, crd_off (S := fun k => sN t 24 (24 + k)) (S' := fun _ => false) 104 (fun j _ => by unfold sN; rw [show decide (24 + j < 24) = false from decide_eq_false (by omega)]; rfl), crd_0]
  rfl
/-- where both begin -/
theorem ag_begin {t : Int} {E K Rr P W D Q C O : Nat → Int} (hr : REL t E K Rr B J) (ho : okE t E) (hd : DJ t E) (hBb : ∀ j, 0 ≤ B j ∧ B j ≤ 32) (hPE : ∀ j, j < 144 → P j = E j) (hW : ∀ j : Nat, j < 24 → tbt t j = true → W j = (j : Int)) (hin : INs P (sN t 24) 24) (hQ : ∀ v, v < 128 → pcQ B Q v) (hC : ∀ i j, i < 128 → j < 128 → (C (128 * i + j) = 1 ↔ ∃ x : Int, 0 ≤ x ∧ x < 8192 ∧ seeP Q x i j)) : AG Q C O P W (sN t 24) 24 D 0 := by
  have s24 : ∀ i, sN t 24 i = true → i < 24 := fun i hi => by have := ((sN_iff t i).mp hi).1; omega
  refine ⟨fun i hi => (lf_iff hr hQ hi).trans (sN_iff t i).symm, fun i hi hq => ?_, fun i j hi hj => ?_, fun i j hi hj hx z => ?_, fun j hj => absurd hj (Nat.not_lt_zero _), fun j hj => absurd hj (Nat.not_lt_zero _), fun i hi => by have := s24 i hi; omega⟩
  · rcases hQ i hi with ⟨t1, q0, q7, qk⟩ | ⟨-, q0, -⟩
    · have ti := (hr.r_isT (i : Int)).mpr t1
      have i24 := ti.1
      refine ⟨by omega, ?_, fun k hk => ?_⟩
      · rw [q0]
        refine hW i (by omega) ?_
        have := ti.2
        rw [Int.toNat_natCast] at this
        exact this
      · rw [hPE _ (by omega), show 8 * i + 1 + k = 8 * i + (1 + k) by omega, qk (1 + k) (by omega) (by omega)]
        have := hr.2.1 (i : Int) (k : Int) (by omega) (by omega) (by omega) (by omega)
        rw [show ((i : Int) * 6 + (k : Int)).toNat = 6 * i + k by omega, show (11 * (i : Int) + 1 + (k : Int)).toNat = 11 * i + (1 + k) by omega] at this
        exact this
    · exact absurd q0 hq
  · have bi := s24 i hi
    have bj := s24 j hj
    have cl := cl_iff hr ho hd hBb hQ hC i j
    have li : lfP Q i := ((lf_iff hr hQ (by omega)).trans (sN_iff t i).symm).mpr hi
    have lj : lfP Q j := ((lf_iff hr hQ (by omega)).trans (sN_iff t j).symm).mpr hj
    rw [← cvB_cvD hin.1 (hin.2.1 i hi).2 (hin.2.1 j hj).2 (fun e => hin.2.2 i j hi hj e), cvB_cg hPE bi bj]
    constructor
    · intro z
      exact (cl.mp ⟨by omega, by omega, z, li, lj⟩).2.2
    · intro z
      exact (cl.mpr ⟨hi, hj, z⟩).2.2.1
  · obtain ⟨y, -, -, s⟩ := (hC i j hi hj).mp z
    obtain ⟨-, s2, s3, -⟩ := (see_iff hBb hQ hi hj y).mp s
    have m1 := ((mexO_b hBb (i : Int) y).2.2 (by omega)).1.1
    have m2 := ((mexO_b hBb (j : Int) y).2.2 (by omega)).1.1
    omega
theorem e_mdraw {t : Int} {E K Rr P W D : Nat → Int} (hf : RF b g B J i0 i1 i2 i3 i4 i5 i6) (hr : REL t E K Rr B J) (ho : okE t E) (hd : DJ t E) (hPE : ∀ j, j < 144 → P j = E j) (hW : ∀ j : Nat, j < 24 → tbt t j = true → W j = (j : Int)) (hin : INs P (sN t 24) 24) (hI : MI b g h) : YM l G mX7_draw 4 0 0 [vr (b + 540)] h n (PDr b g n B J (P, W, sN t 24, 24, crd (sN t 24) 128, D, 0)) := by
  refine YM.of kX7_draw (Nat.le_of_ble_eq_true rfl) (L0 := [some (vr (b + 540)), none, none, none, none, none]) rfl ?_
  obtain ⟨hm, hB, hJ, hBb, hBs, hBc, hJb, hi1, hi2, hi3, hi4⟩ := id hf
  have hs := SM.r b g
  refine y_run kX7_draw rfl ?_
  refine y_cv kX7_draw kX7_begin 0 rfl (hI.x (k := 540) rfl hm) (by decide +kernel) (e_begin hf hI) rfl rfl ?_
  rintro _ h1 _ ⟨Q, C, rfl, hI, e45, hQ, e46, hC, hfr, rfl⟩
  refine y_run kX7_draw rfl ?_
  refine m_pMX (k0 := i0) (k1 := i1) (k2 := i2) (k3 := i3) (k4 := i4) (k5 := i5) (k6 := 24) kX7_draw hI hf hs (fun g1 h2 hs hf hI hfr2 => ?_) ⟨_, rfl, rfl, Nat.le_of_ble_eq_true rfl⟩ hi1 hi2 hi3 hi4
  obtain ⟨O, e49, -⟩ := hI.i (k := 549) rfl
  refine y_run kX7_draw rfl ?_
  refine YW.Le (congrArg (fun z : Int => [some (vr (b + 540)), some (vi z), some (vi z), none, none, none]) (show (0 : Int) = ((0 : Nat) : Int) by omega)) ?_
  refine s_mdraw1E (t := t) hr hf hI (fun u2 => ?_) 25 0 (by omega) (by omega)
  refine y_run kX7_draw rfl ?_
  have ca := crd_24 t
  have cb := crd_le (sN t 24) 24
  refine YW.Le (congrArg (fun z : Int => [some (vr (b + 540)), some (vi ((crd (sN t 24) 24 : Nat) : Int)), some (vi z), some (vi 0), none, none]) (show ((crd (sN t 24) 24 : Nat) : Int) = ((crd (sN t 24) 128 : Nat) : Int) by rw [ca])) ?_
  refine YW.Le (congrArg (fun z : Int => [some (vr (b + 540)), some (vi ((crd (sN t 24) 24 : Nat) : Int)), some (vi ((crd (sN t 24) 128 : Nat) : Int)), some (vi z), none, none]) (show (0 : Int) = ((0 : Nat) : Int) by omega)) ?_
  refine s_mdraw2E 193 P W D (sN t 24) 24 (crd (sN t 24) 128) 0 g1 i0 i1 i2 i3 i4 i5 Q C O _ _ h2 (by omega) hs hf hI ((hfr2 _ (by omega)).trans e45) ((hfr2 _ (by omega)).trans e46) e49 (ag_begin hr ho hd hBb hPE hW hin hQ hC) hin ⟨by omega, by omega, by omega, by omega, by omega, fun k hk => ?_⟩ (RUN.rf _)
  have := ((sN_iff t k).mp hk).1
  omega
end C80za
