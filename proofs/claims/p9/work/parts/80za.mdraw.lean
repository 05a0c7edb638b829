/-! the reference: draw, exactly; what it tells -/
section C80za0
variable {l : Launch} {G : xG} {h : yH} {n : Nat} {b : Nat} {g : yH} {i0 i1 i2 i3 i4 i5 i6 : Int} {B J : Nat → Int}
theorem s_isCutE (hf : RF b g B J i0 i1 i2 i3 i4 i5 i6) {p : Int} (p1 : 0 ≤ p) (p2 : p < 24) (k1 : 24 ≤ i6) (k2 : i6 ≤ 128) (hI : MI b g h) : ∀ (m : Nat) (q : Int), (i6 - q).toNat < m → 24 ≤ q → q ≤ i6 → YW l G mX7_isCut 0 0 0 (fun r h' n' => (∃ v, r = some (vi v) ∧ 0 ≤ v ∧ v ≤ 1) ∧ h' = h ∧ n' = n) 3 [some (vr (b + 540)), some (vi p), some (vi q)] [] h n := by
  intro m
  induction m with
  | zero => intro q hm; exact absurd hm (Nat.not_lt_zero _)
  | succ m ih =>
    intro q hmm j0 j1
    obtain ⟨hm, hB, hJ, hBb, hBs, hBc, hJb, hi1, hi2, hi3, hi4⟩ := id hf
    refine y_run kX7_isCut rfl ?_
    refine m_get kX7_isCut (540) hI hm ?_
    refine y_ic_ge kX7_isCut rfl rfl (fun c1 => ?_) (fun c1 => ?_)
    · refine y_run kX7_isCut rfl ?_
      exact y_zr kX7_isCut rfl rfl (by omega) ⟨⟨_, rfl, by omega, by omega⟩, rfl, rfl⟩
    · refine y_run kX7_isCut rfl ?_
      refine m_get kX7_isCut (540) hI hm ?_
      refine y_run kX7_isCut rfl ?_
      refine m_ia kX7_isCut (545) hI rfl (fun v1 v1a v1b => ?_)
      refine y_run kX7_isCut rfl ?_
      refine y_ic_ne kX7_isCut rfl rfl (fun c2 => ?_) (fun c2 => ?_)
      · refine y_run kX7_isCut rfl ?_
        exact ih _ (by omega) (by omega) (by omega)
      · refine y_run kX7_isCut rfl ?_
        exact y_zr kX7_isCut rfl rfl (by omega) ⟨⟨_, rfl, by omega, by omega⟩, rfl, rfl⟩
theorem e_isCut (hf : RF b g B J i0 i1 i2 i3 i4 i5 i6) {p : Int} (p1 : 0 ≤ p) (p2 : p < 24) (k1 : 24 ≤ i6) (k2 : i6 ≤ 128) (hI : MI b g h) : YM l G mX7_isCut 0 0 0 [vr (b + 540), vi p] h n (fun r h' n' => (∃ v, r = some (vi v) ∧ 0 ≤ v ∧ v ≤ 1) ∧ h' = h ∧ n' = n) := by
  refine YM.of kX7_isCut (Nat.le_of_ble_eq_true rfl) (L0 := [some (vr (b + 540)), some (vi p), none]) rfl ?_
  refine y_run kX7_isCut rfl ?_
  exact s_isCutE hf p1 p2 k1 k2 hI _ 24 (Nat.lt_succ_self _) (by omega) (by omega)
theorem s_draw3E {g0 : yH} {Φ : Option xV → yH → Nat → Prop} {x y z : Int} (y1 : 0 ≤ y) (y2 : y ≤ 96) (k1 : 24 ≤ i6) (k2 : i6 ≤ 128) {Q O : Nat → Int} (kk : ∀ (g : yH) (i2 : Int) (u4 : Option xV) (u5 : Option xV) (h : yH), SM b g0 g → RF b g B J i0 i1 i2 i3 i4 i5 i6 → MI b g h → h (b + 545) = some (ai 1024 Q) → h (b + 549) = some (ai 96 O) → YW l G mX7_draw 4 0 0 (Φ) 165 [some (vr (b + 540)), some (vi x), some (vi y), some (vi z), u4, u5] [] h n) : ∀ (m : Nat) (q : Int) (g : yH) (i2 : Int) (u5 : Option xV) (h : yH), (24 - q).toNat < m → 0 ≤ q → q ≤ 24 → SM b g0 g → RF b g B J i0 i1 i2 i3 i4 i5 i6 → MI b g h → h (b + 545) = some (ai 1024 Q) → h (b + 549) = some (ai 96 O) → YW l G mX7_draw 4 0 0 (Φ) 129 [some (vr (b + 540)), some (vi x), some (vi y), some (vi z), some (vi q), u5] [] h n := by
  intro m
  induction m with
  | zero => intro q g i2 u5 h hm; exact absurd hm (Nat.not_lt_zero _)
  | succ m ih =>
    intro q g i2 u5 h hmm j0 j1 hs hf hI e45 e49
    obtain ⟨hm, hB, hJ, hBb, hBs, hBc, hJb, hi1, hi2, hi3, hi4⟩ := id hf
    refine y_run kX7_draw rfl ?_
    refine y_ic_ge kX7_draw rfl rfl (fun c1 => ?_) (fun c1 => ?_)
    · exact kk _ _ _ _ _ hs hf hI e45 e49
    · refine y_run kX7_draw rfl ?_
      refine m_get kX7_draw (540) hI hm ?_
      refine y_run kX7_draw rfl ?_
      refine y_cv kX7_draw kX7_isCut 1 rfl (hI.x (k := 540) rfl hm) (by decide +kernel) (e_isCut hf (by omega) (by omega) (by omega) (by omega) hI) rfl rfl ?_
      rintro _ h1 _ ⟨⟨v1, rfl, v1a, v1b⟩, eh, rfl⟩
      subst eh
      refine y_if_eq kX7_draw rfl rfl (fun c2 => ?_) (fun c2 => ?_)
      · refine y_run kX7_draw rfl ?_
        refine m_pMX (k0 := i0) (k1 := i1) (k3 := i3) (k4 := i4) (k5 := i5) (k6 := i6) kX7_draw hI hf hs (fun g h hs hf hI hfr => ?_) ⟨_, rfl, rfl, Nat.le_of_ble_eq_true rfl⟩ hi1 hi2 hi3 hi4
        refine y_run kX7_draw rfl ?_
        exact ih _ _ _ _ _ (by omega) (by omega) (by omega) hs hf hI ((hfr _ (by omega)).trans e45) ((hfr _ (by omega)).trans e49)
      · refine y_run kX7_draw rfl ?_
        refine m_pMX (k0 := i0) (k1 := i1) (k3 := i3) (k4 := i4) (k5 := i5) (k6 := i6) kX7_draw hI hf hs (fun g h hs hf hI hfr => ?_) ⟨_, rfl, rfl, Nat.le_of_ble_eq_true rfl⟩ hi1 hi2 hi3 hi4
        refine y_run kX7_draw rfl ?_
        exact ih _ _ _ _ _ (by omega) (by omega) (by omega) hs hf hI ((hfr _ (by omega)).trans e45) ((hfr _ (by omega)).trans e49)
/-- a row of what is told -/
def rwT (Q O T : Nat → Int) (k : Nat) : Prop := T (8 * k) = Q (8 * (O k).toNat) ∧ T (8 * k + 1) = O k ∧ ∀ i : Nat, 1 ≤ i → i < 7 → T (8 * k + 1 + i) = Q (8 * (O k).toNat + i)
theorem s_draw5E (hf : RF b g B J i0 i1 i2 i3 i4 i5 i6) (hg0 : g (b + 550) = none) {Φ : Option xV → yH → Nat → Prop} {x y z : Int} {k : Nat} (k2 : k < 96) {Q O T : Nat → Int} (kk : ∀ (u5 : Option xV) (h : yH) (T' : Nat → Int), MI b g h → h (b + 545) = some (ai 1024 Q) → h (b + 549) = some (ai 96 O) → h (b + 550) = some (ai 768 T') → (∀ j, j < 8 * k + 2 ∨ 8 * k + 8 ≤ j → T' j = T j) → (∀ i : Nat, 1 ≤ i → i < 7 → T' (8 * k + 1 + i) = Q (8 * (O k).toNat + i)) → YW l G mX7_draw 4 0 0 (Φ) 267 [some (vr (b + 540)), some (vi x), some (vi y), some (vi z), some (vi (k : Int)), u5] [] h n) : ∀ (m : Nat) (q : Nat) (h : yH) (T' : Nat → Int), 7 - q < m → 1 ≤ q → q ≤ 7 → MI b g h → h (b + 545) = some (ai 1024 Q) → h (b + 549) = some (ai 96 O) → h (b + 550) = some (ai 768 T') → (∀ j, j < 8 * k + 2 ∨ 8 * k + 8 ≤ j → T' j = T j) → (∀ i : Nat, 1 ≤ i → i < q → T' (8 * k + 1 + i) = Q (8 * (O k).toNat + i)) → YW l G mX7_draw 4 0 0 (Φ) 221 [some (vr (b + 540)), some (vi x), some (vi y), some (vi z), some (vi (k : Int)), some (vi (q : Int))] [] h n := by
  intro m
  induction m with
  | zero => intro q h T' hm; exact absurd hm (Nat.not_lt_zero _)
  | succ m ih =>
    intro q h T' hmm j0 j1 hI e45 e49 e50 t1 t2
    obtain ⟨hm, -⟩ := id hf
    have hOb : ∀ j, 0 ≤ O j ∧ O j ≤ 127 := by
      obtain ⟨F, e, hF⟩ := hI.i (k := 549) (N := 96) (lo := 0) (hi := 127) rfl
      rw [ai_inj e49 e]
      exact hF
    have hQb : ∀ j, -1 ≤ Q j ∧ Q j ≤ 127 := by
      obtain ⟨F, e, hF⟩ := hI.i (k := 545) (N := 1024) (lo := -1) (hi := 127) rfl
      rw [ai_inj e45 e]
      exact hF
    have hTb : ∀ j, -1 ≤ T' j ∧ T' j ≤ 127 := by
      obtain ⟨F, e, hF⟩ := hI.i (k := 550) (N := 768) (lo := -1) (hi := 127) rfl
      rw [ai_inj e50 e]
      exact hF
    have ob := hOb k
    refine y_run kX7_draw rfl ?_
    refine y_ic_ge kX7_draw rfl rfl (fun c1 => ?_) (fun c1 => ?_)
    · exact kk _ _ T' hI e45 e49 e50 t1 (fun i i1 i2 => t2 i i1 (by omega))
    · refine y_run kX7_draw rfl ?_
      refine m_get kX7_draw (540) hI hm ?_
      refine y_run kX7_draw rfl ?_
      refine m_get kX7_draw (540) hI hm ?_
      refine y_run kX7_draw rfl ?_
      refine m_get kX7_draw (540) hI hm ?_
      refine y_run kX7_draw rfl ?_
      refine y_ia kX7_draw rfl e49 (by omega) (by omega) ?_
      rw [Int.toNat_natCast]
      refine y_run kX7_draw rfl ?_
      refine y_ia kX7_draw rfl e45 (by omega) (by omega) ?_
      rw [show (8 * O k + (q : Int)).toNat = 8 * (O k).toNat + q by omega]
      refine y_is kX7_draw rfl e50 (by omega) (by omega) ?_
      have ei : (8 * (k : Int) + 1 + (q : Int)).toNat = 8 * k + 1 + q := by omega
      refine YW.genP (P := fun y' => MI b g y' ∧ y' (b + 545) = some (ai 1024 Q) ∧ y' (b + 549) = some (ai 96 O) ∧ y' (b + 550) = some (ai 768 (upZ T' (8 * k + 1 + q) (Q (8 * (O k).toNat + q))))) ⟨hI.up (k := 550) rfl ⟨_, rfl, upZ_all (P := fun z => -1 ≤ z ∧ z ≤ 127) hTb _ (hQb _)⟩ (fun _ => hg0), (yup_ne _ _ (by omega)).trans e45, (yup_ne _ _ (by omega)).trans e49, by rw [ei]; exact yup_eq _ _ _⟩ (fun h2 ⟨hI2, k45, k49, k50⟩ => ?_)
      refine y_run kX7_draw rfl ?_
      refine YW.Le (congrArg (fun w : Int => [some (vr (b + 540)), some (vi x), some (vi y), some (vi z), some (vi (k : Int)), some (vi w)]) (show (q : Int) + 1 = ((q + 1 : Nat) : Int) by omega)) ?_
      refine ih (q + 1) h2 _ (by omega) (by omega) (by omega) hI2 k45 k49 k50 (fun j hj => ?_) (fun i i1 i2 => ?_)
      · rw [upZ_ne _ _ (by omega)]
        exact t1 j hj
      · by_cases e : i = q
        · subst e
          rw [upZ_eq]
        · rw [upZ_ne _ _ (by omega)]
          exact t2 i i1 (by omega)
theorem s_draw4E (hf : RF b g B J i0 i1 i2 i3 i4 i5 i6) (hg0 : g (b + 550) = none) {Φ : Option xV → yH → Nat → Prop} {x z : Int} {c : Nat} (y2 : c ≤ 96) {Q O : Nat → Int} (kk : ∀ (u4 : Option xV) (u5 : Option xV) (h : yH) (T : Nat → Int), MI b g h → h (b + 550) = some (ai 768 T) → (∀ k, k < c → rwT Q O T k) → YW l G mX7_draw 4 0 0 (Φ) 273 [some (vr (b + 540)), some (vi x), some (vi (c : Int)), some (vi z), u4, u5] [] h n) : ∀ (m : Nat) (k : Nat) (u5 : Option xV) (h : yH) (T : Nat → Int), c - k < m → k ≤ c → MI b g h → h (b + 545) = some (ai 1024 Q) → h (b + 549) = some (ai 96 O) → h (b + 550) = some (ai 768 T) → (∀ k', k' < k → rwT Q O T k') → YW l G mX7_draw 4 0 0 (Φ) 168 [some (vr (b + 540)), some (vi x), some (vi (c : Int)), some (vi z), some (vi (k : Int)), u5] [] h n := by
  intro m
  induction m with
  | zero => intro k u5 h T hm; exact absurd hm (Nat.not_lt_zero _)
  | succ m ih =>
    intro k u5 h T hmm j1 hI e45 e49 e50 t1
    obtain ⟨hm, -⟩ := id hf
    have hOb : ∀ j, 0 ≤ O j ∧ O j ≤ 127 := by
      obtain ⟨F, e, hF⟩ := hI.i (k := 549) (N := 96) (lo := 0) (hi := 127) rfl
      rw [ai_inj e49 e]
      exact hF
    have hQb : ∀ j, -1 ≤ Q j ∧ Q j ≤ 127 := by
      obtain ⟨F, e, hF⟩ := hI.i (k := 545) (N := 1024) (lo := -1) (hi := 127) rfl
      rw [ai_inj e45 e]
      exact hF
    have hTb : ∀ j, -1 ≤ T j ∧ T j ≤ 127 := by
      obtain ⟨F, e, hF⟩ := hI.i (k := 550) (N := 768) (lo := -1) (hi := 127) rfl
      rw [ai_inj e50 e]
      exact hF
    have ob := hOb k
    refine y_run kX7_draw rfl ?_
    refine y_ic_ge kX7_draw rfl rfl (fun c1 => ?_) (fun c1 => ?_)
    · exact kk _ _ _ T hI e50 (fun k' hk' => t1 k' (by omega))
    · refine y_run kX7_draw rfl ?_
      refine m_get kX7_draw (540) hI hm ?_
      refine y_run kX7_draw rfl ?_
      refine m_get kX7_draw (540) hI hm ?_
      refine y_run kX7_draw rfl ?_
      refine m_get kX7_draw (540) hI hm ?_
      refine y_run kX7_draw rfl ?_
      refine y_ia kX7_draw rfl e49 (by omega) (by omega) ?_
      rw [Int.toNat_natCast]
      refine y_run kX7_draw rfl ?_
      refine y_ia kX7_draw rfl e45 (by omega) (by omega) ?_
      rw [show (8 * O k).toNat = 8 * (O k).toNat by omega]
      refine y_is kX7_draw rfl e50 (by omega) (by omega) ?_
      have ei : (8 * (k : Int)).toNat = 8 * k := by omega
      refine YW.genP (P := fun y' => MI b g y' ∧ y' (b + 545) = some (ai 1024 Q) ∧ y' (b + 549) = some (ai 96 O) ∧ y' (b + 550) = some (ai 768 (upZ T (8 * k) (Q (8 * (O k).toNat))))) ⟨hI.up (k := 550) rfl ⟨_, rfl, upZ_all (P := fun z => -1 ≤ z ∧ z ≤ 127) hTb _ (hQb _)⟩ (fun _ => hg0), (yup_ne _ _ (by omega)).trans e45, (yup_ne _ _ (by omega)).trans e49, by rw [ei]; exact yup_eq _ _ _⟩ (fun h2 ⟨hI2, k45, k49, k50⟩ => ?_)
      refine y_run kX7_draw rfl ?_
      refine m_get kX7_draw (540) hI2 hm ?_
      refine y_run kX7_draw rfl ?_
      refine m_get kX7_draw (540) hI2 hm ?_
      refine y_run kX7_draw rfl ?_
      refine y_ia kX7_draw rfl k49 (by omega) (by omega) ?_
      rw [Int.toNat_natCast]
      refine y_is kX7_draw rfl k50 (by omega) (by omega) ?_
      have ej : (8 * (k : Int) + 1).toNat = 8 * k + 1 := by omega
      refine YW.genP (P := fun y' => MI b g y' ∧ y' (b + 545) = some (ai 1024 Q) ∧ y' (b + 549) = some (ai 96 O) ∧ y' (b + 550) = some (ai 768 (upZ (upZ T (8 * k) (Q (8 * (O k).toNat))) (8 * k + 1) (O k)))) ⟨hI2.up (k := 550) rfl ⟨_, rfl, upZ_all (P := fun z => -1 ≤ z ∧ z ≤ 127) (upZ_all (P := fun z => -1 ≤ z ∧ z ≤ 127) hTb _ (hQb _)) _ ⟨by omega, by omega⟩⟩ (fun _ => hg0), (yup_ne _ _ (by omega)).trans k45, (yup_ne _ _ (by omega)).trans k49, by rw [ej]; exact yup_eq _ _ _⟩ (fun h3 ⟨hI3, m45, m49, m50⟩ => ?_)
      refine y_run kX7_draw rfl ?_
      refine YW.Le (congrArg (fun w : Int => [some (vr (b + 540)), some (vi x), some (vi (c : Int)), some (vi z), some (vi (k : Int)), some (vi w)]) (show (1 : Int) = ((1 : Nat) : Int) by omega)) ?_
      refine s_draw5E hf hg0 (k := k) (by omega) (T := upZ (upZ T (8 * k) (Q (8 * (O k).toNat))) (8 * k + 1) (O k)) (fun u5 h4 T' hI4 n45 n49 n50 r1 r2 => ?_) 7 1 h3 _ (by omega) (by omega) (by omega) hI3 m45 m49 m50 (fun _ _ => rfl) (fun i i1 i2 => absurd i2 (by omega))
      refine y_run kX7_draw rfl ?_
      refine YW.Le (congrArg (fun w : Int => [some (vr (b + 540)), some (vi x), some (vi (c : Int)), some (vi z), some (vi w), u5]) (show (k : Int) + 1 = ((k + 1 : Nat) : Int) by omega)) ?_
      refine ih (k + 1) _ h4 T' (by omega) (by omega) hI4 n45 n49 n50 (fun k' hk' => ?_)
      by_cases e : k' = k
      · subst e
        refine ⟨?_, ?_, fun i i1 i2 => r2 i i1 i2⟩
        · rw [r1 _ (by omega), upZ_ne _ _ (by omega), upZ_eq]
        · rw [r1 _ (by omega), upZ_eq]
      · obtain ⟨q1, q2, q3⟩ := t1 k' (by omega)
        refine ⟨?_, ?_, fun i i1 i2 => ?_⟩
        · rw [r1 _ (by omega), upZ_ne _ _ (by omega), upZ_ne _ _ (by omega)]; exact q1
        · rw [r1 _ (by omega), upZ_ne _ _ (by omega), upZ_ne _ _ (by omega)]; exact q2
        · rw [r1 _ (by omega), upZ_ne _ _ (by omega), upZ_ne _ _ (by omega)]; exact q3 i i1 i2
/-- the picture in which what is told is free -/
def gT0 (b : Nat) (g : yH) : yH := fun q => if q = b + 550 then none else g q
theorem gT0_ne {q : Nat} (hq : q ≠ b + 550) : gT0 b g q = g q := if_neg hq
theorem gT0_eq : gT0 b g (b + 550) = none := if_pos rfl
theorem MI.t0 (hI : MI b g h) : MI b (gT0 b g) h := by
  refine hI.cg (fun q hq => (gT0_ne (fun e => ?_)).symm) (fun k c hk hp hz => ?_)
  · have := hq 550 e
    cases this
  · by_cases e : k = 550
    · subst e; exact absurd gT0_eq hz
    · rw [gT0_ne (by omega)] at hz ⊢
      exact (hI.1 k c hk).2 hp hz
theorem RF.t0 (hf : RF b g B J i0 i1 i2 i3 i4 i5 i6) : RF b (gT0 b g) B J i0 i1 i2 i3 i4 i5 i6 := by
  obtain ⟨hm, hB, hJ, hx⟩ := hf
  exact ⟨(gT0_ne (by omega)).trans hm, (gT0_ne (by omega)).trans hB, (gT0_ne (by omega)).trans hJ, hx⟩
theorem MI.t1 {T : Nat → Int} (hI : MI b g h) (e50 : h (b + 550) = some (ai 768 T)) : MI b (yup g (b + 550) (ai 768 T)) h := by
  refine hI.cg (fun q hq => (yup_ne _ _ (fun e => ?_)).symm) (fun k c hk hp hz => ?_)
  · have := hq 550 e
    cases this
  · by_cases e : k = 550
    · subst e; rw [yup_eq]; exact e50
    · rw [yup_ne _ _ (by omega)] at hz ⊢
      exact (hI.1 k c hk).2 hp hz
theorem RF.t1 {T : Nat → Int} (hf : RF b g B J i0 i1 i2 i3 i4 i5 i6) : RF b (yup g (b + 550) (ai 768 T)) B J i0 i1 i2 i3 i4 i5 i6 := by
  obtain ⟨hm, hB, hJ, hx⟩ := hf
  exact ⟨(yup_ne _ _ (by omega)).trans hm, (yup_ne _ _ (by omega)).trans hB, (yup_ne _ _ (by omega)).trans hJ, hx⟩
theorem AG.told {Q C O P W D T : Nat → Int} {S : Nat → Bool} {x a : Nat} (hag : AG Q C O P W S x D a) (hx : x ≤ 120) (ht : ∀ k, k < a → rwT Q O T k) : TLR (a : Int) P W D T := by
  intro k hk
  obtain ⟨d1, d2, d3⟩ := hag.dn k (by omega)
  obtain ⟨p1, p2, p3⟩ := hag.pr (D k).toNat (by omega) d3
  obtain ⟨r1, r2, r3⟩ := ht k (by omega)
  rw [hag.od k (by omega)] at r1 r2 r3
  refine ⟨⟨d1, by omega⟩, by rw [r1, p2], r2, fun i hi => ?_⟩
  rw [p3 i hi, show 8 * k + 2 + i = 8 * k + 1 + (1 + i) by omega, r3 (1 + i) (by omega) (by omega)]
  congr 1
  omega
end C80za0
section C80za
variable {l : Launch} {G : xG} {h h0 : yH} {n : Nat} {b : Nat} {g g0 : yH} {i0 i1 i2 i3 i4 i5 i6 : Int} {B J : Nat → Int} {σ : sT}
def PDr (b : Nat) (g0 : yH) (n : Nat) (B J : Nat → Int) (i0 : Int) (σ : sT) : Option xV → yH → Nat → Prop := fun r h' n' => ∃ (g' : yH) (z : Int) (k0 i1 i2 i3 i4 i5 i6 : Int), r = some (vi z) ∧ RF b g' B J k0 i1 i2 i3 i4 i5 i6 ∧ MI b g' h' ∧ n' = n ∧ ∃ σ', RUN σ σ' ∧ STOP σ' z ∧ ((z = -1 ∧ k0 = i0 ∧ SM b g0 g') ∨ (z = (σ'.2.2.2.2.2.2 : Int) ∧ k0 = z ∧ (∀ q, q ≠ b + 540 → q ≠ b + 550 → g' q = g0 q) ∧ ∃ T, g' (b + 550) = some (ai 768 T) ∧ TLR z σ'.1 σ'.2.1 σ'.2.2.2.2.2.1 T))
/-- no plane cuts: it counts on until they would be too many -/
theorem s_stuckE {P W D O : Nat → Int} {S : Nat → Bool} {x c a : Nat} {xl : Int} (hin : INs P S x) (hx : x < 120) (hno : ∀ f, ¬ frP P S f) (hnp : ∀ i ax v, S i = true → ax < 3 → ¬ inP P S i ax v) (hrun : RUN σ (P, W, S, x, c, D, a)) (hst : STOP (P, W, S, x, c, D, a) (-1)) : ∀ (m : Nat) (k : Nat) (g : yH) (i1 i2 i3 i4 i5 : Int) (Q C : Nat → Int) (u4 u5 : Option xV) (h : yH), 96 - k < m → k ≤ 96 → a < k → SM b g0 g → RF b g B J i0 i1 i2 i3 i4 i5 (x : Int) → MI b g h → h (b + 545) = some (ai 1024 Q) → h (b + 546) = some (az 16384 C) → AG Q C O P W S x D a → YW l G mX7_draw 4 0 0 (PDr b g0 n B J i0 σ) 46 [some (vr (b + 540)), some (vi xl), some (vi (k : Int)), some (vi (a : Int)), u4, u5] [] h n := by
  intro m
  induction m with
  | zero => intro k g i1 i2 i3 i4 i5 Q C u4 u5 h hm; exact absurd hm (Nat.not_lt_zero _)
  | succ m ih =>
    intro k g i1 i2 i3 i4 i5 Q C u4 u5 h hmm j1 j2 hs hf hI e45 e46 hag
    obtain ⟨hm, -⟩ := id hf
    refine y_run kX7_draw rfl ?_
    refine y_ic_ge kX7_draw rfl rfl (fun c1 => absurd c1 (by omega)) (fun c1 => ?_)
    refine y_run kX7_draw rfl ?_
    refine y_cv kX7_draw kX7_free 0 rfl (hI.x (k := 540) rfl hm) (by decide +kernel) (e_free hf hI e45 e46) rfl rfl ?_
    rintro _ h1 _ ⟨hr, eh, rfl⟩
    subst eh
    rcases hr with ⟨rfl, -⟩ | ⟨f, rfl, f1, f2, -⟩
    · refine y_run kX7_draw rfl ?_
      refine y_ic_eq kX7_draw rfl rfl (fun _ => ?_) (fun e => absurd rfl e)
      refine y_run kX7_draw rfl ?_
      refine y_ic_ne kX7_draw rfl rfl (fun c3 => ?_) (fun c3 => ?_)
      · refine y_run kX7_draw rfl ?_
        refine y_cv kX7_draw kX7_cut 0 rfl (hI.x (k := 540) rfl hm) (by decide +kernel) (e_cut hf hag hin hx hI e45 e46) rfl rfl ?_
        rintro _ h2 _ ⟨g', Q', C', rfl, hs2, hI2, rfl, e45', e46', hfr, hr⟩
        rcases hr with ⟨-, hf', hag'⟩ | ⟨i, ax, v, hq, -⟩
        · refine y_run kX7_draw rfl ?_
          refine YW.Le (congrArg (fun z : Int => [some (vr (b + 540)), some (vi xl), some (vi z), some (vi (a : Int)), some (vi (-1)), u5]) (show (k : Int) + 1 = ((k + 1 : Nat) : Int) by omega)) ?_
          exact ih (k + 1) g' i1 i2 i3 i4 i5 Q' C' _ _ h2 (by omega) (by omega) (by omega) (hs.t hs2) hf' hI2 e45' e46' hag'
        · exact absurd hq.2.2.1.1 (hnp i ax v hq.1 hq.2.1)
      · refine y_run kX7_draw rfl ?_
        exact y_ir kX7_draw rfl rfl ⟨g, -1, i0, i1, i2, i3, i4, i5, _, rfl, hf, hI, rfl, _, hrun, hst, Or.inl ⟨rfl, rfl, hs⟩⟩
    · exact absurd ((hag.fr f1).mp f2) (hno f)
set_option maxHeartbeats 2000000 in
theorem s_mdraw2E {xl : Int} : ∀ (m : Nat) (P W D : Nat → Int) (S : Nat → Bool) (x c a : Nat) (g : yH) (i1 i2 i3 i4 i5 : Int) (Q C O : Nat → Int) (u4 u5 : Option xV) (h : yH), 192 - c - a < m → SM b g0 g → RF b g B J i0 i1 i2 i3 i4 i5 (x : Int) → MI b g h → h (b + 545) = some (ai 1024 Q) → h (b + 546) = some (az 16384 C) → h (b + 549) = some (ai 96 O) → AG Q C O P W S x D a → INs P S x → PIv S (a : Int) (c : Int) (x : Int) → RUN σ (P, W, S, x, c, D, a) → YW l G mX7_draw 4 0 0 (PDr b g0 n B J i0 σ) 46 [some (vr (b + 540)), some (vi xl), some (vi (c : Int)), some (vi (a : Int)), u4, u5] [] h n := by
  intro m
  induction m with
  | zero => intro P W D S x c a g i1 i2 i3 i4 i5 Q C O u4 u5 h hm; exact absurd hm (Nat.not_lt_zero _)
  | succ m ih =>
    intro P W D S x c a g i1 i2 i3 i4 i5 Q C O u4 u5 h hmm hs hf hI e45 e46 e49 hag hin hv hrun
    obtain ⟨hm, hB, hJ, hBb, hBs, hBc, hJb, hi1, hi2, hi3, hi4⟩ := id hf
    obtain ⟨v1, v2, v3, v4, v5, v6⟩ := id hv
    refine y_run kX7_draw rfl ?_
    refine y_ic_ge kX7_draw rfl rfl (fun c1 => ?_) (fun c1 => ?_)
    · have hst : STOP (P, W, S, x, c, D, a) (c : Int) := Or.inl ⟨fun s => by
        cases e : S s with
        | false => exact e
        | true => have := crd_pos e 128 (hag.sb s e); omega, rfl⟩
      refine y_run kX7_draw rfl ?_
      refine m_pMX (k0 := (c : Int)) (k1 := i1) (k2 := i2) (k3 := i3) (k4 := i4) (k5 := i5) (k6 := (x : Int)) kX7_draw hI hf hs (fun g h hs hf hI hfr => ?_) ⟨_, rfl, rfl, Nat.le_of_ble_eq_true rfl⟩ (by omega) (by omega) hi3 hi4
      replace e45 := (hfr _ (by omega)).trans e45
      replace e49 := (hfr _ (by omega)).trans e49
      refine y_run kX7_draw rfl ?_
      refine m_pMX (k0 := (c : Int)) (k2 := i2) (k3 := i3) (k4 := i4) (k5 := i5) (k6 := (x : Int)) kX7_draw hI hf hs (fun g h hs hf hI hfr => ?_) ⟨_, rfl, rfl, Nat.le_of_ble_eq_true rfl⟩ (by omega) (by omega) hi3 hi4
      replace e45 := (hfr _ (by omega)).trans e45
      replace e49 := (hfr _ (by omega)).trans e49
      refine y_run kX7_draw rfl ?_
      refine m_pMX (k0 := (c : Int)) (k3 := i3) (k4 := i4) (k5 := i5) (k6 := (x : Int)) kX7_draw hI hf hs (fun g h hs hf hI hfr => ?_) ⟨_, rfl, rfl, Nat.le_of_ble_eq_true rfl⟩ (by omega) (by omega) hi3 hi4
      replace e45 := (hfr _ (by omega)).trans e45
      replace e49 := (hfr _ (by omega)).trans e49
      refine y_run kX7_draw rfl ?_
      refine s_draw3E (y := (c : Int)) (by omega) (by omega) (by omega) (by omega) (fun g i2 u4 u5 h hs hf hI e45 e49 => ?_) _ 0 _ _ _ _ (Nat.lt_succ_self _) (by omega) (by omega) hs hf hI e45 e49
      refine y_run kX7_draw rfl ?_
      obtain ⟨T0, e50, -⟩ := hI.i (k := 550) (N := 768) (lo := -1) (hi := 127) rfl
      refine YW.Le (congrArg (fun w : Int => [some (vr (b + 540)), some (vi xl), some (vi (c : Int)), some (vi (a : Int)), some (vi w), u5]) (show (0 : Int) = ((0 : Nat) : Int) by omega)) ?_
      refine s_draw4E hf.t0 gT0_eq (c := c) (by omega) (fun u4 u5 h T hI2 f50 hrw => ?_) (c + 1) 0 _ _ T0 (by omega) (by omega) hI.t0 e45 e49 e50 (fun k' hk' => absurd hk' (Nat.not_lt_zero _))
      refine y_run kX7_draw rfl ?_
      have hs3 : ∀ q, q ≠ b + 540 → q ≠ b + 550 → yup (gT0 b g) (b + 550) (ai 768 T) q = g0 q := fun q q1 q2 => ((yup_ne _ _ q2).trans (gT0_ne q2)).trans (hs q q1)
      have hI3 := hI2.t1 f50
      have hf3 := hf.t0.t1 (T := T)
      have g50 : yup (gT0 b g) (b + 550) (ai 768 T) (b + 550) = some (ai 768 T) := yup_eq _ _ _
      generalize yup (gT0 b g) (b + 550) (ai 768 T) = g3 at hs3 hI3 hf3 g50
      refine y_cv kX7_draw kX7_paintAll 0 rfl (hI3.x (k := 540) rfl hf3.1) (by decide +kernel) (w_paintAll hf3 hI3) rfl rfl ?_
      rintro _ h4 _ ⟨g4, j1, j2, j3, j4, j5, j6, rfl, hs4, hf4, v1a, v1b, hI4, rfl⟩
      have hs5 : ∀ q, q ≠ b + 540 → q ≠ b + 550 → g4 q = g0 q := fun q q1 q2 => (hs4 q q1).trans (hs3 q q1 q2)
      have g51 : g4 (b + 550) = some (ai 768 T) := (hs4 _ (by omega)).trans g50
      have hac : a = c := by omega
      have htl := hag.told (by omega) (fun k hk => hrw k (by omega))
      rw [hac] at htl
      refine y_run kX7_draw rfl ?_
      refine m_get kX7_draw (540) hI4 hf4.1 ?_
      refine y_run kX7_draw rfl ?_
      refine YW.nr1 ?_
      refine m_pM15 kX7_draw hI4 hf4 (SM.r b g4) (fun g5 h5 hs6 hf5 hI5 => ?_) (nrm_rng _).1 (nrm_rng _).2
      refine y_run kX7_draw rfl ?_
      exact y_ir kX7_draw rfl rfl ⟨g5, _, _, _, _, _, _, _, _, rfl, hf5, hI5, rfl, _, hrun, hst, Or.inr ⟨by show (c : Int) = (a : Int); rw [hac], rfl, fun q q1 q2 => (hs6 q q1).trans (hs5 q q1 q2), T, (hs6 _ (by omega)).trans g51, htl⟩⟩
    · have ex : ∃ s, S s = true := Classical.byContradiction (fun z => by
        have : crd S 128 = 0 := by
          rw [crd_off (S' := fun _ => false) 128 (fun j _ => by
            cases e : S j with
            | false => rfl
            | true => exact absurd ⟨j, e⟩ z), crd_0]
        omega)
      refine y_run kX7_draw rfl ?_
      refine y_cv kX7_draw kX7_free 0 rfl (hI.x (k := 540) rfl hm) (by decide +kernel) (e_free hf hI e45 e46) rfl rfl ?_
      rintro _ h1 _ ⟨hr, eh, rfl⟩
      subst eh
      rcases hr with ⟨rfl, hno⟩ | ⟨f, rfl, f1, f2, f3⟩
      · have nofr : ∀ f, ¬ frP P S f := fun f hf' => hno f (hag.sb f hf'.1) ((hag.fr (hag.sb f hf'.1)).mpr hf')
        refine y_run kX7_draw rfl ?_
        refine y_ic_eq kX7_draw rfl rfl (fun _ => ?_) (fun e => absurd rfl e)
        refine y_run kX7_draw rfl ?_
        refine y_ic_ne kX7_draw rfl rfl (fun c3 => ?_) (fun c3 => ?_)
        · refine y_run kX7_draw rfl ?_
          refine y_cv kX7_draw kX7_cut 0 rfl (hI.x (k := 540) rfl hm) (by decide +kernel) (e_cut hf hag hin (by omega) hI e45 e46) rfl rfl ?_
          rintro _ h2 _ ⟨g', Q', C', rfl, hs2, hI2, rfl, e45', e46', hfr, hr⟩
          refine y_run kX7_draw rfl ?_
          refine YW.Le (congrArg (fun z : Int => [some (vr (b + 540)), some (vi xl), some (vi z), some (vi (a : Int)), some (vi (-1)), u5]) (show (c : Int) + 1 = ((c + 1 : Nat) : Int) by omega)) ?_
          rcases hr with ⟨hnp, hf', hag'⟩ | ⟨i, ax, v, hq, hf', hag'⟩
          · exact s_stuckE hin (by omega) nofr hnp hrun (Or.inr ⟨ex, nofr, Or.inr hnp, rfl⟩) 97 (c + 1) g' i1 i2 i3 i4 i5 Q' C' _ _ h2 (by omega) (by omega) (by omega) (hs.t hs2) hf' hI2 e45' e46' hag'
          · have hv' := hv.cut (show (c : Int) < 96 by omega)
            rw [Int.toNat_natCast] at hv'
            exact ih _ _ D _ (x + 1) (c + 1) a g' i1 i2 i3 i4 i5 Q' C' O _ _ h2 (by omega) (hs.t hs2) hf' hI2 e45' e46' ((hfr _ (by omega) (by omega) (by omega) (by omega) (by omega)).trans e49) hag' (hin.cut hq.1 hq.2.1 hq.2.2.1.1.1.1 hq.2.2.1.1.1.2) hv' (hrun.st (Or.inr ⟨nofr, by show c < 96; omega, i, ax, v, hq, rfl⟩))
        · refine y_run kX7_draw rfl ?_
          exact y_ir kX7_draw rfl rfl ⟨g, -1, i0, i1, i2, i3, i4, i5, _, rfl, hf, hI, rfl, _, hrun, Or.inr ⟨ex, nofr, Or.inl (by show 96 ≤ c; omega), rfl⟩, Or.inl ⟨rfl, rfl, hs⟩⟩
      · have hfp := (hag.fr f1).mp f2
        have fx := v6 f hfp.1
        obtain ⟨hv2, hac⟩ := hv.out (v := (f : Int)) (by omega) (by rw [Int.toNat_natCast]; exact hfp.1)
        rw [Int.toNat_natCast] at hv2
        have hQb : ∀ j, -1 ≤ Q j ∧ Q j ≤ 127 := by
          obtain ⟨F, e, hF⟩ := hI.i (k := 545) (N := 1024) (lo := -1) (hi := 127) rfl
          rw [ai_inj e45 e]
          exact hF
        refine y_run kX7_draw rfl ?_
        refine y_ic_eq kX7_draw rfl rfl (fun e => absurd e (by omega)) (fun _ => ?_)
        refine y_run kX7_draw rfl ?_
        refine m_get kX7_draw (540) hI hm ?_
        refine y_run kX7_draw rfl ?_
        refine y_is kX7_draw rfl e45 (by omega) (by omega) ?_
        refine YW.genP (P := fun y => MI b g y ∧ y (b + 545) = some (ai 1024 (upZ Q (8 * f + 7) 1)) ∧ y (b + 546) = some (az 16384 C) ∧ y (b + 549) = some (ai 96 O)) ⟨hI.up (k := 545) rfl ⟨_, rfl, upZ_all (P := fun z => -1 ≤ z ∧ z ≤ 127) hQb _ (by omega)⟩, by rw [show (8 * (f : Int) + 7).toNat = 8 * f + 7 by omega]; exact yup_eq _ _ _, (yup_ne _ _ (by omega)).trans e46, (yup_ne _ _ (by omega)).trans e49⟩ (fun h2 ⟨hI2, k45, k46, k49⟩ => ?_)
        refine y_run kX7_draw rfl ?_
        refine m_get kX7_draw (540) hI2 hm ?_
        refine y_run kX7_draw rfl ?_
        have hOb := hI2.i (k := 549) rfl
        refine y_is kX7_draw rfl k49 (by omega) (by omega) ?_
        refine YW.genP (P := fun y => MI b g y ∧ y (b + 545) = some (ai 1024 (upZ Q (8 * f + 7) 1)) ∧ y (b + 546) = some (az 16384 C) ∧ y (b + 549) = some (ai 96 (upZ O a (f : Int)))) ⟨?_, (yup_ne _ _ (by omega)).trans k45, (yup_ne _ _ (by omega)).trans k46, by rw [Int.toNat_natCast]; exact yup_eq _ _ _⟩ (fun h3 ⟨hI3, m45, m46, m49⟩ => ?_)
        · obtain ⟨F, e, hF⟩ := hOb
          refine hI2.up (k := 549) rfl ⟨_, rfl, fun j => ?_⟩
          rw [ai_inj k49 e]
          unfold upZ
          split
          · exact ⟨by omega, by omega⟩
          · exact hF j
        refine y_run kX7_draw rfl ?_
        refine YW.Le (congrArg (fun z : Int => [some (vr (b + 540)), some (vi xl), some (vi (c : Int)), some (vi z), some (vi (f : Int)), u5]) (show (a : Int) + 1 = ((a + 1 : Nat) : Int) by omega)) ?_
        exact ih P W _ _ x c (a + 1) g i1 i2 i3 i4 i5 _ C _ _ _ h3 (by omega) hs hf hI3 m45 m46 m49 (hag.out hfp.1) (hin.out f) hv2 (hrun.st (Or.inl ⟨f, hfp, fun f' hf' z => f3 f' hf' ((hag.fr (by omega)).mpr z), rfl⟩))
/-- how many boxes there are -/
theorem s_mdraw1E {t : Int} {E K Rr : Nat → Int} (hr : REL t E K Rr B J) (hf : RF b g B J i0 i1 i2 i3 i4 i5 i6) (hI : MI b g h) {Φ : Option xV → yH → Nat → Prop} (kk : ∀ (u2 : Option xV), YW l G mX7_draw 4 0 0 Φ 42 [some (vr (b + 540)), some (vi ((crd (sN t 24) 24 : Nat) : Int)), u2, none, none, none] [] h n) : ∀ (m : Nat) (q : Nat), 24 - q < m → q ≤ 24 → YW l G mX7_draw 4 0 0 Φ 14 [some (vr (b + 540)), some (vi ((crd (sN t 24) q : Nat) : Int)), some (vi (q : Int)), none, none, none] [] h n := by
  intro m
  induction m with
  | zero => intro q hm; exact absurd hm (Nat.not_lt_zero _)
  | succ m ih =>
    intro q hmm j1
    obtain ⟨hm, hB, hJ, hBb, -⟩ := id hf
    have cb := crd_le (sN t 24) q
    refine y_run kX7_draw rfl ?_
    refine y_ic_ge kX7_draw rfl rfl (fun c1 => ?_) (fun c1 => ?_)
    · have e : q = 24 := by omega
      subst e
      exact kk _
    · have k := ih (q + 1) (by omega) (by omega)
      rw [show ((q + 1 : Nat) : Int) = (q : Int) + 1 by omega] at k
      refine y_run kX7_draw rfl ?_
      refine y_cv kX7_draw kX7_isThere 1 rfl (hI.x (k := 540) rfl hm) (by decide +kernel) (c_isThere (hI.x (k := 540) rfl hm) (hI.x (k := 541) rfl hB) (fun j => ⟨by have := hBb j; omega, by have := hBb j; omega⟩) ⟨by omega, by omega⟩) rfl rfl ?_
      rintro _ h2 _ ⟨⟨rfl, hr2⟩ | ⟨rfl, hr2⟩, eh, rfl⟩
      · subst eh
        have s1 : sN t 24 q = true := (sN_iff t q).mpr ((hr.r_isT (q : Int)).mpr hr2)
        have e1 : crd (sN t 24) (q + 1) = crd (sN t 24) q + 1 := by
          show crd (sN t 24) q + (if sN t 24 q then 1 else 0) = _
          rw [s1]; rfl
        rw [e1, show ((crd (sN t 24) q + 1 : Nat) : Int) = ((crd (sN t 24) q : Nat) : Int) + 1 by omega] at k
        refine y_if_eq kX7_draw rfl rfl (fun e => absurd e (by omega)) (fun _ => ?_)
        refine y_run kX7_draw rfl ?_
        exact k
      · subst eh
        have s1 : sN t 24 q = false := by
          cases z : sN t 24 q with
          | false => rfl
          | true => exact absurd ((hr.r_isT (q : Int)).mp ((sN_iff t q).mp z)) hr2
        have e1 : crd (sN t 24) (q + 1) = crd (sN t 24) q := by
          show crd (sN t 24) q + (if sN t 24 q then 1 else 0) = _
          rw [s1]; rfl
        rw [e1] at k
        refine y_if_eq kX7_draw rfl rfl (fun _ => ?_) (fun e => absurd rfl e)
        refine y_run kX7_draw rfl ?_
        refine YW.Le (congrArg (fun z : Int => [some (vr (b + 540)), some (vi z), some (vi ((q : Int) + 1)), none, none, none]) (show ((crd (sN t 24) q : Nat) : Int) + 0 = ((crd (sN t 24) q : Nat) : Int) by omega)) ?_
        exact k
theorem crd_24 (t : Int) : crd (sN t 24) 128 = crd (sN t 24) 24 := by
  rw [show 128 = 24 + 104 from rfl, crd_split, crd_off (S := fun k => sN t 24 (24 + k)) (S' := fun _ => false) 104 (fun j _ => by unfold sN; rw [show decide (24 + j < 24) = false from decide_eq_false (by omega)]; rfl), crd_0]
  rfl
/-- where both begin -/
theorem ag_begin {t : Int} {E K Rr P W D Q C O : Nat → Int} (hr : REL t E K Rr B J) (ho : okE t E) (hd : DJ t E) (hBb : ∀ j, 0 ≤ B j ∧ B j ≤ 32) (hPE : ∀ j, j < 144 → P j = E j) (hW : ∀ j : Nat, j < 24 → tbt t j = true → W j = (j : Int)) (hin : INs P (sN t 24) 24) (hQ : ∀ v, v < 128 → pcQ B Q v) (hC : ∀ i j, i < 128 → j < 128 → (C (128 * i + j) = 1 ↔ ∃ x : Int, 0 ≤ x ∧ x < 8192 ∧ seeP Q x i j)) : AG Q C O P W (sN t 24) 24 D 0 := by
  have s24 : ∀ i, sN t 24 i = true → i < 24 := fun i hi => by have := ((sN_iff t i).mp hi).1; omega
  refine ⟨fun i hi => (lf_iff hr hQ hi).trans (sN_iff t i).symm, fun i hi hq => ?_, fun i j hi hj => ?_, fun i j hi hj hx z => ?_, fun j hj => absurd hj (Nat.not_lt_zero _), fun j hj => absurd hj (Nat.not_lt_zero _), fun i hi => by have := s24 i hi; omega⟩
  · rcases hQ i hi with ⟨t1, q0, q7, qk⟩ | ⟨-, q0, -⟩
    · have ti := (hr.r_isT (i : Int)).mpr t1
      have i24 := ti.1
      refine ⟨by omega, ?_, fun k hk => ?_⟩
      · rw [q0]
        refine hW i (by omega) ?_
        have := ti.2
        rw [Int.toNat_natCast] at this
        exact this
      · rw [hPE _ (by omega), show 8 * i + 1 + k = 8 * i + (1 + k) by omega, qk (1 + k) (by omega) (by omega)]
        have := hr.2.1 (i : Int) (k : Int) (by omega) (by omega) (by omega) (by omega)
        rw [show ((i : Int) * 6 + (k : Int)).toNat = 6 * i + k by omega, show (11 * (i : Int) + 1 + (k : Int)).toNat = 11 * i + (1 + k) by omega] at this
        exact this
    · exact absurd q0 hq
  · have bi := s24 i hi
    have bj := s24 j hj
    have cl := cl_iff hr ho hd hBb hQ hC i j
    have li : lfP Q i := ((lf_iff hr hQ (by omega)).trans (sN_iff t i).symm).mpr hi
    have lj : lfP Q j := ((lf_iff hr hQ (by omega)).trans (sN_iff t j).symm).mpr hj
    rw [← cvB_cvD hin.1 (hin.2.1 i hi).2 (hin.2.1 j hj).2 (fun e => hin.2.2 i j hi hj e), cvB_cg hPE bi bj]
    constructor
    · intro z
      exact (cl.mp ⟨by omega, by omega, z, li, lj⟩).2.2
    · intro z
      exact (cl.mpr ⟨hi, hj, z⟩).2.2.1
  · obtain ⟨y, -, -, s⟩ := (hC i j hi hj).mp z
    obtain ⟨-, s2, s3, -⟩ := (see_iff hBb hQ hi hj y).mp s
    have m1 := ((mexO_b hBb (i : Int) y).2.2 (by omega)).1.1
    have m2 := ((mexO_b hBb (j : Int) y).2.2 (by omega)).1.1
    omega
theorem e_mdraw {t : Int} {E K Rr P W D : Nat → Int} (hf : RF b g B J i0 i1 i2 i3 i4 i5 i6) (hr : REL t E K Rr B J) (ho : okE t E) (hd : DJ t E) (hPE : ∀ j, j < 144 → P j = E j) (hW : ∀ j : Nat, j < 24 → tbt t j = true → W j = (j : Int)) (hin : INs P (sN t 24) 24) (hI : MI b g h) : YM l G mX7_draw 4 0 0 [vr (b + 540)] h n (PDr b g n B J i0 (P, W, sN t 24, 24, crd (sN t 24) 128, D, 0)) := by
  refine YM.of kX7_draw (Nat.le_of_ble_eq_true rfl) (L0 := [some (vr (b + 540)), none, none, none, none, none]) rfl ?_
  obtain ⟨hm, hB, hJ, hBb, hBs, hBc, hJb, hi1, hi2, hi3, hi4⟩ := id hf
  have hs := SM.r b g
  refine y_run kX7_draw rfl ?_
  refine y_cv kX7_draw kX7_begin 0 rfl (hI.x (k := 540) rfl hm) (by decide +kernel) (e_begin hf hI) rfl rfl ?_
  rintro _ h1 _ ⟨Q, C, rfl, hI, e45, hQ, e46, hC, hfr, rfl⟩
  refine y_run kX7_draw rfl ?_
  refine m_pMX (k0 := i0) (k1 := i1) (k2 := i2) (k3 := i3) (k4 := i4) (k5 := i5) (k6 := 24) kX7_draw hI hf hs (fun g1 h2 hs hf hI hfr2 => ?_) ⟨_, rfl, rfl, Nat.le_of_ble_eq_true rfl⟩ hi1 hi2 hi3 hi4
  obtain ⟨O, e49, -⟩ := hI.i (k := 549) rfl
  refine y_run kX7_draw rfl ?_
  refine YW.Le (congrArg (fun z : Int => [some (vr (b + 540)), some (vi z), some (vi z), none, none, none]) (show (0 : Int) = ((0 : Nat) : Int) by omega)) ?_
  refine s_mdraw1E (t := t) hr hf hI (fun u2 => ?_) 25 0 (by omega) (by omega)
  refine y_run kX7_draw rfl ?_
  have ca := crd_24 t
  have cb := crd_le (sN t 24) 24
  refine YW.Le (congrArg (fun z : Int => [some (vr (b + 540)), some (vi ((crd (sN t 24) 24 : Nat) : Int)), some (vi z), some (vi 0), none, none]) (show ((crd (sN t 24) 24 : Nat) : Int) = ((crd (sN t 24) 128 : Nat) : Int) by rw [ca])) ?_
  refine YW.Le (congrArg (fun z : Int => [some (vr (b + 540)), some (vi ((crd (sN t 24) 24 : Nat) : Int)), some (vi ((crd (sN t 24) 128 : Nat) : Int)), some (vi z), none, none]) (show (0 : Int) = ((0 : Nat) : Int) by omega)) ?_
  refine s_mdraw2E 193 P W D (sN t 24) 24 (crd (sN t 24) 128) 0 g1 i1 i2 i3 i4 i5 Q C O _ _ h2 (by omega) hs hf hI ((hfr2 _ (by omega)).trans e45) ((hfr2 _ (by omega)).trans e46) e49 (ag_begin hr ho hd hBb hPE hW hin hQ hC) hin ⟨by omega, by omega, by omega, by omega, by omega, fun k hk => ?_⟩ (RUN.rf _)
  have := ((sN_iff t k).mp hk).1
  omega
end C80za
