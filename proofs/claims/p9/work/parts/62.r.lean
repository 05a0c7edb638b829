section C74
variable {l : Launch} {G : xG} {h : yH} {n : Nat}
theorem s_lb {N : Nat} {F : Nat → Int} {ad : Nat} {p q : Int} (ha : h ad = some (ai N F)) (hF : ∀ j, 0 ≤ F j ∧ F j ≤ 32) (p1 : 0 ≤ p) (p2 : p * 6 + 6 ≤ N) (q1 : 0 ≤ q) (q2 : q * 6 + 6 ≤ N) (hN : N ≤ 100000) : ∀ (m : Nat) (k : Int), (3 - k).toNat < m → 0 ≤ k → k ≤ 3 → YW l G mX6_liesBeyond 0 0 0 (fun r h' n' => (∃ v, r = some (vi v) ∧ 0 ≤ v ∧ v ≤ 1) ∧ h' = h ∧ n' = n) 2 [some (vr ad), some (vi p), some (vi q), some (vi k)] [] h n := by
  intro m
  induction m with
  | zero => intro k hm; exact absurd hm (Nat.not_lt_zero _)
  | succ m ih =>
    intro k hm k1 k2
    have f1 := hF (p * 6 + 2 * k).toNat
    have f2 := hF (q * 6 + 2 * k + 1).toNat
    refine y_run kX6_liesBeyond rfl ?_
    refine y_ic_ge kX6_liesBeyond rfl rfl (fun c1 => ?_) (fun c1 => ?_)
    · refine y_run kX6_liesBeyond rfl ?_
      exact y_zr kX6_liesBeyond rfl rfl (by omega) ⟨⟨_, rfl, by omega, by omega⟩, rfl, rfl⟩
    · refine y_run kX6_liesBeyond rfl ?_
      refine y_ia kX6_liesBeyond rfl ha (by omega) (by omega) ?_
      refine y_run kX6_liesBeyond rfl ?_
      refine y_ia kX6_liesBeyond rfl ha (by omega) (by omega) ?_
      refine y_ic_lt kX6_liesBeyond rfl rfl (fun c2 => ?_) (fun c2 => ?_)
      · refine y_run kX6_liesBeyond rfl ?_
        exact ih _ (by omega) (by omega) (by omega)
      · refine y_run kX6_liesBeyond rfl ?_
        exact y_zr kX6_liesBeyond rfl rfl (by omega) ⟨⟨_, rfl, by omega, by omega⟩, rfl, rfl⟩
theorem c_lb {N : Nat} {F : Nat → Int} {ad : Nat} {p q : Int} (ha : h ad = some (ai N F)) (hF : ∀ j, 0 ≤ F j ∧ F j ≤ 32) (p1 : 0 ≤ p) (p2 : p * 6 + 6 ≤ N) (q1 : 0 ≤ q) (q2 : q * 6 + 6 ≤ N) (hN : N ≤ 100000) : YM l G mX6_liesBeyond 0 0 0 [vr ad, vi p, vi q] h n (fun r h' n' => (∃ v, r = some (vi v) ∧ 0 ≤ v ∧ v ≤ 1) ∧ h' = h ∧ n' = n) := by
  refine YM.of kX6_liesBeyond (Nat.le_of_ble_eq_true rfl) (L0 := [some (vr ad), some (vi p), some (vi q), none]) rfl ?_
  refine y_run kX6_liesBeyond rfl ?_
  exact s_lb ha hF p1 p2 q1 q2 hN _ 0 (Nat.lt_succ_self _) (by omega) (by omega)
theorem w_overlap {b o : Nat} {g : yH} {S : Nat → Bool} {a c x : Int} (hf : PF b o g S a c x) {u v p q : Int} (u1 : 0 ≤ u) (u2 : u ≤ 4) (v1 : 0 ≤ v) (v2 : v ≤ 4) (p1 : 0 ≤ p) (p2 : p < 120) (q1 : 0 ≤ q) (q2 : q < 120) (hI : MI b g h) : YM l G mX3_overlapBetween 0 0 0 [vr (b + o), vi u, vi v, vi p, vi q] h n (PZ b g n 0 1) := by
  refine YM.of kX3_overlapBetween (Nat.le_of_ble_eq_true rfl) (L0 := [some (vr (b + o)), some (vi u), some (vi v), some (vi p), some (vi q), none, none, none, none, none, none]) rfl ?_
  obtain ⟨⟨ho, hw1, hw2, hw3⟩, hp, ⟨lo, hi, hL, hLb⟩, ⟨Fb, hFb, hFb2⟩, ⟨Fa, hFa, hFa2⟩⟩ := id hf
  refine y_run kX3_overlapBetween rfl ?_
  refine m_get kX3_overlapBetween (o) hI hp ?_ (t0 ho)
  refine y_run kX3_overlapBetween rfl ?_
  refine m_ia kX3_overlapBetween (o + 1) hI (t1 ho) (fun v1 v1a v1b => ?_)
  refine y_run kX3_overlapBetween rfl ?_
  refine m_get kX3_overlapBetween (o) hI hp ?_ (t0 ho)
  refine y_run kX3_overlapBetween rfl ?_
  refine m_ia kX3_overlapBetween (o + 1) hI (t1 ho) (fun v2 v2a v2b => ?_)
  refine y_run kX3_overlapBetween rfl ?_
  refine m_get kX3_overlapBetween (o) hI hp ?_ (t0 ho)
  refine y_run kX3_overlapBetween rfl ?_
  refine m_ia kX3_overlapBetween (o + 1) hI (t1 ho) (fun v3 v3a v3b => ?_)
  refine y_run kX3_overlapBetween rfl ?_
  refine m_get kX3_overlapBetween (o) hI hp ?_ (t0 ho)
  refine y_run kX3_overlapBetween rfl ?_
  refine m_ia kX3_overlapBetween (o + 1) hI (t1 ho) (fun v4 v4a v4b => ?_)
  refine y_run kX3_overlapBetween rfl ?_
  refine m_get kX3_overlapBetween (o) hI hp ?_ (t0 ho)
  refine y_run kX3_overlapBetween rfl ?_
  refine m_ia kX3_overlapBetween (o + 1) hI (t1 ho) (fun v5 v5a v5b => ?_)
  refine y_run kX3_overlapBetween rfl ?_
  refine m_get kX3_overlapBetween (o) hI hp ?_ (t0 ho)
  refine y_run kX3_overlapBetween rfl ?_
  refine m_ia kX3_overlapBetween (o + 1) hI (t1 ho) (fun v6 v6a v6b => ?_)
  refine y_run kX3_overlapBetween rfl ?_
  refine m_get kX3_overlapBetween (o) hI hp ?_ (t0 ho)
  refine y_run kX3_overlapBetween rfl ?_
  refine m_ia kX3_overlapBetween (o + 1) hI (t1 ho) (fun v7 v7a v7b => ?_)
  refine y_run kX3_overlapBetween rfl ?_
  refine m_get kX3_overlapBetween (o) hI hp ?_ (t0 ho)
  refine y_run kX3_overlapBetween rfl ?_
  refine m_ia kX3_overlapBetween (o + 1) hI (t1 ho) (fun v8 v8a v8b => ?_)
  refine y_run kX3_overlapBetween rfl ?_
  refine y_ic_ge kX3_overlapBetween rfl rfl (fun c1 => ?_) (fun c1 => ?_)
  · refine y_run kX3_overlapBetween rfl ?_
    exact y_zr kX3_overlapBetween rfl rfl (by omega) ⟨_, rfl, by omega, by omega, hI, rfl⟩
  · refine y_run kX3_overlapBetween rfl ?_
    refine y_ic_ge kX3_overlapBetween rfl rfl (fun c2 => ?_) (fun c2 => ?_)
    · refine y_run kX3_overlapBetween rfl ?_
      exact y_zr kX3_overlapBetween rfl rfl (by omega) ⟨_, rfl, by omega, by omega, hI, rfl⟩
    · refine y_run kX3_overlapBetween rfl ?_
      exact y_zr kX3_overlapBetween rfl rfl (by omega) ⟨_, rfl, by omega, by omega, hI, rfl⟩
theorem w_common {b o : Nat} {g : yH} {S : Nat → Bool} {a c x : Int} (hf : PF b o g S a c x) {p q : Int} (p1 : 0 ≤ p) (p2 : p < 120) (q1 : 0 ≤ q) (q2 : q < 120) (hI : MI b g h) : YM l G mX3_haveCommonPixel 1 0 0 [vr (b + o), vi p, vi q] h n (PZ b g n 0 1) := by
  refine YM.of kX3_haveCommonPixel (Nat.le_of_ble_eq_true rfl) (L0 := [some (vr (b + o)), some (vi p), some (vi q)]) rfl ?_
  obtain ⟨⟨ho, hw1, hw2, hw3⟩, hp, ⟨lo, hi, hL, hLb⟩, ⟨Fb, hFb, hFb2⟩, ⟨Fa, hFa, hFa2⟩⟩ := id hf
  refine y_run kX3_haveCommonPixel rfl ?_
  refine y_cv kX3_haveCommonPixel kX3_overlapBetween 4 rfl (hI.x (k := o) (t0 ho) hp) (by decide +kernel) (w_overlap hf (by omega) (by omega) (by omega) (by omega) (by omega) (by omega) (by omega) (by omega) hI) rfl rfl ?_
  rintro _ h _ ⟨v1, rfl, v1a, v1b, hI, rfl⟩
  refine y_if_eq kX3_haveCommonPixel rfl rfl (fun c1 => ?_) (fun c1 => ?_)
  · refine y_run kX3_haveCommonPixel rfl ?_
    exact y_zr kX3_haveCommonPixel rfl rfl (by omega) ⟨_, rfl, by omega, by omega, hI, rfl⟩
  · refine y_run kX3_haveCommonPixel rfl ?_
    refine y_cv kX3_haveCommonPixel kX3_overlapBetween 4 rfl (hI.x (k := o) (t0 ho) hp) (by decide +kernel) (w_overlap hf (by omega) (by omega) (by omega) (by omega) (by omega) (by omega) (by omega) (by omega) hI) rfl rfl ?_
    rintro _ h _ ⟨v2, rfl, v2a, v2b, hI, rfl⟩
    refine y_if_eq kX3_haveCommonPixel rfl rfl (fun c2 => ?_) (fun c2 => ?_)
    · refine y_run kX3_haveCommonPixel rfl ?_
      exact y_zr kX3_haveCommonPixel rfl rfl (by omega) ⟨_, rfl, by omega, by omega, hI, rfl⟩
    · refine y_run kX3_haveCommonPixel rfl ?_
      refine y_cv kX3_haveCommonPixel kX3_overlapBetween 4 rfl (hI.x (k := o) (t0 ho) hp) (by decide +kernel) (w_overlap hf (by omega) (by omega) (by omega) (by omega) (by omega) (by omega) (by omega) (by omega) hI) rfl rfl ?_
      rintro _ h _ ⟨v3, rfl, v3a, v3b, hI, rfl⟩
      refine y_if_eq kX3_haveCommonPixel rfl rfl (fun c3 => ?_) (fun c3 => ?_)
      · refine y_run kX3_haveCommonPixel rfl ?_
        exact y_zr kX3_haveCommonPixel rfl rfl (by omega) ⟨_, rfl, by omega, by omega, hI, rfl⟩
      · refine y_run kX3_haveCommonPixel rfl ?_
        exact y_zr kX3_haveCommonPixel rfl rfl (by omega) ⟨_, rfl, by omega, by omega, hI, rfl⟩
theorem w_relate {b o : Nat} {g : yH} {S : Nat → Bool} {a c x : Int} (hf : PF b o g S a c x) {p q : Int} (p1 : 0 ≤ p) (p2 : p < 120) (q1 : 0 ≤ q) (q2 : q < 120) (hI : MI b g h) : YM l G mX3_relate 1 0 0 [vr (b + o), vi p, vi q] h n (PV b g n) := by
  refine YM.of kX3_relate (Nat.le_of_ble_eq_true rfl) (L0 := [some (vr (b + o)), some (vi p), some (vi q), none, none, none]) rfl ?_
  obtain ⟨⟨ho, hw1, hw2, hw3⟩, hp, ⟨lo, hi, hL, hLb⟩, ⟨Fb, hFb, hFb2⟩, ⟨Fa, hFa, hFa2⟩⟩ := id hf
  refine y_run kX3_relate rfl ?_
  refine m_get kX3_relate (o) hI hp ?_ (t0 ho)
  refine y_run kX3_relate rfl ?_
  obtain ⟨Fv1, ev1, fv1⟩ := hI.i (t1 ho)
  refine y_csn kX3_relate kX6_liesBeyond "BoxStage" 3 rfl (by decide +kernel) (c_lb ev1 fv1 (by omega) (by omega) (by omega) (by omega) (by omega)) rfl rfl ?_
  rintro _ _ _ ⟨⟨v1, rfl, v1a, v1b⟩, rfl, rfl⟩
  refine y_run kX3_relate rfl ?_
  refine y_if_eq kX3_relate rfl rfl (fun c1 => ?_) (fun c1 => ?_)
  · refine y_run kX3_relate rfl ?_
    refine y_if_eq kX3_relate rfl rfl (fun c2 => ?_) (fun c2 => ?_)
    · refine y_run kX3_relate rfl ?_
      refine m_get kX3_relate (o) hI hp ?_ (t0 ho)
      refine y_run kX3_relate rfl ?_
      refine y_qa kX3_relate rfl (hI.x (k := o + 5) (t5 ho) hFb) rfl (by omega) (by omega) (hFb2 _ (by omega)) ?_
      refine y_run kX3_relate rfl ?_
      refine m_cvN kX3_relate kX0_add 1 hI (nT ho (by omega) (by omega)) rfl (by decide +kernel) (w_Nadd hI (nT ho (by omega) (by omega)) (by omega) (by omega)) rfl rfl ?_
      rintro _ h _ ⟨rfl, hI, rfl⟩
      refine y_run kX3_relate rfl ?_
      refine m_get kX3_relate (o) hI hp ?_ (t0 ho)
      refine y_run kX3_relate rfl ?_
      refine y_qa kX3_relate rfl (hI.x (k := o + 6) (t6 ho) hFa) rfl (by omega) (by omega) (hFa2 _ (by omega)) ?_
      refine y_run kX3_relate rfl ?_
      refine m_cvN kX3_relate kX0_add 1 hI (nT ho (by omega) (by omega)) rfl (by decide +kernel) (w_Nadd hI (nT ho (by omega) (by omega)) (by omega) (by omega)) rfl rfl ?_
      rintro _ h _ ⟨rfl, hI, rfl⟩
      exact y_vr kX3_relate rfl rfl ⟨rfl, hI, rfl⟩
    · refine y_run kX3_relate rfl ?_
      refine m_get kX3_relate (o) hI hp ?_ (t0 ho)
      refine y_run kX3_relate rfl ?_
      refine y_qa kX3_relate rfl (hI.x (k := o + 5) (t5 ho) hFb) rfl (by omega) (by omega) (hFb2 _ (by omega)) ?_
      refine y_run kX3_relate rfl ?_
      refine m_cvN kX3_relate kX0_add 1 hI (nT ho (by omega) (by omega)) rfl (by decide +kernel) (w_Nadd hI (nT ho (by omega) (by omega)) (by omega) (by omega)) rfl rfl ?_
      rintro _ h _ ⟨rfl, hI, rfl⟩
      refine y_run kX3_relate rfl ?_
      refine m_get kX3_relate (o) hI hp ?_ (t0 ho)
      refine y_run kX3_relate rfl ?_
      refine y_qa kX3_relate rfl (hI.x (k := o + 6) (t6 ho) hFa) rfl (by omega) (by omega) (hFa2 _ (by omega)) ?_
      refine y_run kX3_relate rfl ?_
      refine m_cvN kX3_relate kX0_add 1 hI (nT ho (by omega) (by omega)) rfl (by decide +kernel) (w_Nadd hI (nT ho (by omega) (by omega)) (by omega) (by omega)) rfl rfl ?_
      rintro _ h _ ⟨rfl, hI, rfl⟩
      exact y_vr kX3_relate rfl rfl ⟨rfl, hI, rfl⟩
  · refine y_run kX3_relate rfl ?_
    refine y_if_eq kX3_relate rfl rfl (fun c3 => ?_) (fun c3 => ?_)
    · refine y_run kX3_relate rfl ?_
      refine m_get kX3_relate (o) hI hp ?_ (t0 ho)
      refine y_run kX3_relate rfl ?_
      refine y_qa kX3_relate rfl (hI.x (k := o + 5) (t5 ho) hFb) rfl (by omega) (by omega) (hFb2 _ (by omega)) ?_
      refine y_run kX3_relate rfl ?_
      refine m_cvN kX3_relate kX0_add 1 hI (nT ho (by omega) (by omega)) rfl (by decide +kernel) (w_Nadd hI (nT ho (by omega) (by omega)) (by omega) (by omega)) rfl rfl ?_
      rintro _ h _ ⟨rfl, hI, rfl⟩
      refine y_run kX3_relate rfl ?_
      refine m_get kX3_relate (o) hI hp ?_ (t0 ho)
      refine y_run kX3_relate rfl ?_
      refine y_qa kX3_relate rfl (hI.x (k := o + 6) (t6 ho) hFa) rfl (by omega) (by omega) (hFa2 _ (by omega)) ?_
      refine y_run kX3_relate rfl ?_
      refine m_cvN kX3_relate kX0_add 1 hI (nT ho (by omega) (by omega)) rfl (by decide +kernel) (w_Nadd hI (nT ho (by omega) (by omega)) (by omega) (by omega)) rfl rfl ?_
      rintro _ h _ ⟨rfl, hI, rfl⟩
      exact y_vr kX3_relate rfl rfl ⟨rfl, hI, rfl⟩
    · refine y_run kX3_relate rfl ?_
      refine m_get kX3_relate (o) hI hp ?_ (t0 ho)
      refine y_run kX3_relate rfl ?_
      refine y_qa kX3_relate rfl (hI.x (k := o + 5) (t5 ho) hFb) rfl (by omega) (by omega) (hFb2 _ (by omega)) ?_
      refine y_run kX3_relate rfl ?_
      refine m_cvN kX3_relate kX0_add 1 hI (nT ho (by omega) (by omega)) rfl (by decide +kernel) (w_Nadd hI (nT ho (by omega) (by omega)) (by omega) (by omega)) rfl rfl ?_
      rintro _ h _ ⟨rfl, hI, rfl⟩
      refine y_run kX3_relate rfl ?_
      refine m_get kX3_relate (o) hI hp ?_ (t0 ho)
      refine y_run kX3_relate rfl ?_
      refine y_qa kX3_relate rfl (hI.x (k := o + 6) (t6 ho) hFa) rfl (by omega) (by omega) (hFa2 _ (by omega)) ?_
      refine y_run kX3_relate rfl ?_
      refine m_cvN kX3_relate kX0_add 1 hI (nT ho (by omega) (by omega)) rfl (by decide +kernel) (w_Nadd hI (nT ho (by omega) (by omega)) (by omega) (by omega)) rfl rfl ?_
      rintro _ h _ ⟨rfl, hI, rfl⟩
      exact y_vr kX3_relate rfl rfl ⟨rfl, hI, rfl⟩
theorem s_bringIn {b o : Nat} {g : yH} {S : Nat → Bool} {a c x : Int} (hf : PF b o g S a c x) {p : Int} (p1 : 0 ≤ p) (p2 : p < 120) (x1 : 0 ≤ x) (x2 : x ≤ 120) {g0 : yH} (hs : SP b o g0 g) : ∀ (m : Nat) (q : Int) (h : yH), (x - q).toNat < m → 0 ≤ q → q ≤ x → MI b g h → YW l G mX3_bringIn 2 0 0 (PL b o g0 n S a c x) 28 [some (vr (b + o)), some (vi p), some (vi q)] [] h n := by
  intro m
  induction m with
  | zero => intro q h hm; exact absurd hm (Nat.not_lt_zero _)
  | succ m ih =>
    intro q h hmm j0 j1 hI
    obtain ⟨⟨ho, hw1, hw2, hw3⟩, hp, ⟨lo, hi, hL, hLb⟩, ⟨Fb, hFb, hFb2⟩, ⟨Fa, hFa, hFa2⟩⟩ := id hf
    refine y_run kX3_bringIn rfl ?_
    refine m_get kX3_bringIn (o) hI hp ?_ (t0 ho)
    refine y_ic_ge kX3_bringIn rfl rfl (fun c1 => ?_) (fun c1 => ?_)
    · exact y_vr kX3_bringIn rfl rfl ⟨_, rfl, hs, hf, hI, rfl⟩
    · refine y_run kX3_bringIn rfl ?_
      refine y_ic_eq kX3_bringIn rfl rfl (fun c2 => ?_) (fun c2 => ?_)
      · refine y_run kX3_bringIn rfl ?_
        exact ih _ _ (by omega) (by omega) (by omega) hI
      · refine y_run kX3_bringIn rfl ?_
        refine m_get kX3_bringIn (o) hI hp ?_ (t0 ho)
        refine y_run kX3_bringIn rfl ?_
        refine y_cv kX3_bringIn kX0_has 1 rfl (hI.x (k := o + 4) (t4 ho) hL) (by decide +kernel) (w_Lhas hf hI (by omega) (by omega)) rfl rfl ?_
        rintro _ _ _ ⟨rfl, rfl, rfl⟩
        refine y_beq kX3_bringIn rfl rfl (fun c3 => ?_) (fun c3 => ?_)
        · refine y_run kX3_bringIn rfl ?_
          exact ih _ _ (by omega) (by omega) (by omega) hI
        · refine y_run kX3_bringIn rfl ?_
          refine m_get kX3_bringIn (o) hI hp ?_ (t0 ho)
          refine y_run kX3_bringIn rfl ?_
          refine y_qa kX3_bringIn rfl (hI.x (k := o + 5) (t5 ho) hFb) rfl (by omega) (by omega) (hFb2 _ (by omega)) ?_
          refine y_run kX3_bringIn rfl ?_
          refine m_cvN kX3_bringIn kX0_remove 1 hI (nT ho (by omega) (by omega)) rfl (by decide +kernel) (w_Nremove hI (nT ho (by omega) (by omega)) (by omega) (by omega)) rfl rfl ?_
          rintro _ h _ ⟨rfl, hI, rfl⟩
          refine y_run kX3_bringIn rfl ?_
          refine m_get kX3_bringIn (o) hI hp ?_ (t0 ho)
          refine y_run kX3_bringIn rfl ?_
          refine y_qa kX3_bringIn rfl (hI.x (k := o + 6) (t6 ho) hFa) rfl (by omega) (by omega) (hFa2 _ (by omega)) ?_
          refine y_run kX3_bringIn rfl ?_
          refine m_cvN kX3_bringIn kX0_remove 1 hI (nT ho (by omega) (by omega)) rfl (by decide +kernel) (w_Nremove hI (nT ho (by omega) (by omega)) (by omega) (by omega)) rfl rfl ?_
          rintro _ h _ ⟨rfl, hI, rfl⟩
          refine y_run kX3_bringIn rfl ?_
          refine y_cv kX3_bringIn kX3_haveCommonPixel 2 rfl (hI.x (k := o) (t0 ho) hp) (by decide +kernel) (w_common hf (by omega) (by omega) (by omega) (by omega) hI) rfl rfl ?_
          rintro _ h _ ⟨v4, rfl, v4a, v4b, hI, rfl⟩
          refine y_if_eq kX3_bringIn rfl rfl (fun c4 => ?_) (fun c4 => ?_)
          · refine y_run kX3_bringIn rfl ?_
            exact ih _ _ (by omega) (by omega) (by omega) hI
          · refine y_run kX3_bringIn rfl ?_
            refine y_cv kX3_bringIn kX3_relate 2 rfl (hI.x (k := o) (t0 ho) hp) (by decide +kernel) (w_relate hf (by omega) (by omega) (by omega) (by omega) hI) rfl rfl ?_
            rintro _ h _ ⟨rfl, hI, rfl⟩
            refine y_run kX3_bringIn rfl ?_
            exact ih _ _ (by omega) (by omega) (by omega) hI
theorem w_bringIn {b o : Nat} {g : yH} {S : Nat → Bool} {a c x : Int} (hf : PF b o g S a c x) {p : Int} (p1 : 0 ≤ p) (p2 : p < 120) (x1 : 0 ≤ x) (x2 : x ≤ 120) (hI : MI b g h) : YM l G mX3_bringIn 2 0 0 [vr (b + o), vi p] h n (PL b o g n (fun j => S j || decide (j = p.toNat)) a c x) := by
  refine YM.of kX3_bringIn (Nat.le_of_ble_eq_true rfl) (L0 := [some (vr (b + o)), some (vi p), none]) rfl ?_
  obtain ⟨⟨ho, hw1, hw2, hw3⟩, hp, ⟨lo, hi, hL, hLb⟩, ⟨Fb, hFb, hFb2⟩, ⟨Fa, hFa, hFa2⟩⟩ := id hf
  have hs := SP.r b o g
  refine y_run kX3_bringIn rfl ?_
  refine m_get kX3_bringIn (o) hI hp ?_ (t0 ho)
  refine y_run kX3_bringIn rfl ?_
  refine y_cv kX3_bringIn kX0_add 1 rfl (hI.x (k := o + 4) (t4 ho) hL) (by decide +kernel) (w_Ladd hf hI (by omega) (by omega)) rfl rfl ?_
  rintro _ h _ ⟨g, rfl, hs2, hf, hI, rfl⟩
  replace hs := hs.t hs2
  obtain ⟨⟨ho, hw1, hw2, hw3⟩, hp, ⟨lo, hi, hL, hLb⟩, ⟨Fb, hFb, hFb2⟩, ⟨Fa, hFa, hFa2⟩⟩ := id hf
  refine y_run kX3_bringIn rfl ?_
  refine m_get kX3_bringIn (o) hI hp ?_ (t0 ho)
  refine y_run kX3_bringIn rfl ?_
  refine y_qa kX3_bringIn rfl (hI.x (k := o + 5) (t5 ho) hFb) rfl (by omega) (by omega) (hFb2 _ (by omega)) ?_
  refine m_cvN kX3_bringIn kX0_clear 0 hI (nT ho (by omega) (by omega)) rfl (by decide +kernel) (w_Nclear hI (nT ho (by omega) (by omega))) rfl rfl ?_
  rintro _ h _ ⟨rfl, hI, rfl⟩
  refine y_run kX3_bringIn rfl ?_
  refine m_get kX3_bringIn (o) hI hp ?_ (t0 ho)
  refine y_run kX3_bringIn rfl ?_
  refine y_qa kX3_bringIn rfl (hI.x (k := o + 6) (t6 ho) hFa) rfl (by omega) (by omega) (hFa2 _ (by omega)) ?_
  refine m_cvN kX3_bringIn kX0_clear 0 hI (nT ho (by omega) (by omega)) rfl (by decide +kernel) (w_Nclear hI (nT ho (by omega) (by omega))) rfl rfl ?_
  rintro _ h _ ⟨rfl, hI, rfl⟩
  refine y_run kX3_bringIn rfl ?_
  exact s_bringIn hf p1 p2 x1 x2 hs _ 0 _ (Nat.lt_succ_self _) (by omega) (by omega) hI
theorem s_lowestFree {b o : Nat} {g : yH} {S : Nat → Bool} {a c x : Int} (hf : PF b o g S a c x) (x1 : 0 ≤ x) (x2 : x ≤ 120) : ∀ (m : Nat) (q : Int) (h : yH), (x - q).toNat < m → 0 ≤ q → q ≤ x → MI b g h → YW l G mX3_lowestFree 1 0 0 (fun r h' n' => ∃ v, r = some (vi v) ∧ (v = -1 ∨ (0 ≤ v ∧ v < x ∧ S v.toNat = true)) ∧ MI b g h' ∧ n' = n) 2 [some (vr (b + o)), some (vi q)] [] h n := by
  intro m
  induction m with
  | zero => intro q h hm; exact absurd hm (Nat.not_lt_zero _)
  | succ m ih =>
    intro q h hmm j0 j1 hI
    obtain ⟨⟨ho, hw1, hw2, hw3⟩, hp, ⟨lo, hi, hL, hLb⟩, ⟨Fb, hFb, hFb2⟩, ⟨Fa, hFa, hFa2⟩⟩ := id hf
    refine y_run kX3_lowestFree rfl ?_
    refine m_get kX3_lowestFree (o) hI hp ?_ (t0 ho)
    refine y_ic_ge kX3_lowestFree rfl rfl (fun c1 => ?_) (fun c1 => ?_)
    · refine y_run kX3_lowestFree rfl ?_
      first | exact y_ir kX3_lowestFree rfl rfl ⟨_, rfl, Or.inl rfl, hI, rfl⟩ | exact y_ir kX3_lowestFree rfl rfl ⟨_, rfl, Or.inr ⟨by omega, by omega, c2⟩, hI, rfl⟩
    · refine y_run kX3_lowestFree rfl ?_
      refine m_get kX3_lowestFree (o) hI hp ?_ (t0 ho)
      refine y_run kX3_lowestFree rfl ?_
      refine y_cv kX3_lowestFree kX0_has 1 rfl (hI.x (k := o + 4) (t4 ho) hL) (by decide +kernel) (w_Lhas hf hI (by omega) (by omega)) rfl rfl ?_
      rintro _ _ _ ⟨rfl, rfl, rfl⟩
      refine y_beq kX3_lowestFree rfl rfl (fun c2 => ?_) (fun c2 => ?_)
      · refine y_run kX3_lowestFree rfl ?_
        exact ih _ _ (by omega) (by omega) (by omega) hI
      · refine y_run kX3_lowestFree rfl ?_
        refine m_get kX3_lowestFree (o) hI hp ?_ (t0 ho)
        refine y_run kX3_lowestFree rfl ?_
        refine y_qa kX3_lowestFree rfl (hI.x (k := o + 5) (t5 ho) hFb) rfl (by omega) (by omega) (hFb2 _ (by omega)) ?_
        refine y_run kX3_lowestFree rfl ?_
        refine m_get kX3_lowestFree (o) hI hp ?_ (t0 ho)
        refine m_cvN kX3_lowestFree kX0_meets 1 hI (nT ho (by omega) (by omega)) rfl (by decide +kernel) (w_Nmeets hI (nT ho (by omega) (by omega)) (hf.na hI)) rfl rfl ?_
        rintro _ h _ ⟨v2, rfl, v2a, v2b, hI, rfl⟩
        refine y_if_ne kX3_lowestFree rfl rfl (fun c3 => ?_) (fun c3 => ?_)
        · refine y_run kX3_lowestFree rfl ?_
          exact ih _ _ (by omega) (by omega) (by omega) hI
        · refine y_run kX3_lowestFree rfl ?_
          first | exact y_ir kX3_lowestFree rfl rfl ⟨_, rfl, Or.inl rfl, hI, rfl⟩ | exact y_ir kX3_lowestFree rfl rfl ⟨_, rfl, Or.inr ⟨by omega, by omega, c2⟩, hI, rfl⟩
theorem w_lowestFree {b o : Nat} {g : yH} {S : Nat → Bool} {a c x : Int} (hf : PF b o g S a c x) (x1 : 0 ≤ x) (x2 : x ≤ 120) (hI : MI b g h) : YM l G mX3_lowestFree 1 0 0 [vr (b + o)] h n (fun r h' n' => ∃ v, r = some (vi v) ∧ (v = -1 ∨ (0 ≤ v ∧ v < x ∧ S v.toNat = true)) ∧ MI b g h' ∧ n' = n) := by
  refine YM.of kX3_lowestFree (Nat.le_of_ble_eq_true rfl) (L0 := [some (vr (b + o)), none]) rfl ?_
  obtain ⟨⟨ho, hw1, hw2, hw3⟩, hp, ⟨lo, hi, hL, hLb⟩, ⟨Fb, hFb, hFb2⟩, ⟨Fa, hFa, hFa2⟩⟩ := id hf
  refine y_run kX3_lowestFree rfl ?_
  exact s_lowestFree hf x1 x2 _ 0 _ (Nat.lt_succ_self _) (by omega) (by omega) hI
theorem s_lowestPlane {b o : Nat} {g : yH} {S : Nat → Bool} {a c x : Int} (hf : PF b o g S a c x) {p y : Int} (p1 : 0 ≤ p) (p2 : p < 120) (y1 : 0 ≤ y) (y2 : y < 3) (x1 : 0 ≤ x) (x2 : x ≤ 120) {e f : Int} (e1 : 0 ≤ e) (e2 : e ≤ 32) (f1 : 0 ≤ f) (f2 : f ≤ 32) : ∀ (m : Nat) (q : Int) (z : Int) (u7 : Option xV) (u8 : Option xV) (h : yH), (x - q).toNat < m → 0 ≤ q → q ≤ x → 0 ≤ z → z ≤ 32 → MI b g h → YW l G mX3_lowestPlane 1 0 0 (PZ b g n (-1) 32) 38 [some (vr (b + o)), some (vi p), some (vi y), some (vi e), some (vi f), some (vi z), some (vi q), u7, u8] [] h n := by
  intro m
  induction m with
  | zero => intro q z u7 u8 h hm; exact absurd hm (Nat.not_lt_zero _)
  | succ m ih =>
    intro q z u7 u8 h hmm j0 j1 j2 j3 hI
    obtain ⟨⟨ho, hw1, hw2, hw3⟩, hp, ⟨lo, hi, hL, hLb⟩, ⟨Fb, hFb, hFb2⟩, ⟨Fa, hFa, hFa2⟩⟩ := id hf
    refine y_run kX3_lowestPlane rfl ?_
    refine m_get kX3_lowestPlane (o) hI hp ?_ (t0 ho)
    refine y_ic_ge kX3_lowestPlane rfl rfl (fun c1 => ?_) (fun c1 => ?_)
    · refine y_run kX3_lowestPlane rfl ?_
      refine y_ic_ge kX3_lowestPlane rfl rfl (fun c2 => ?_) (fun c2 => ?_)
      · refine y_run kX3_lowestPlane rfl ?_
        exact y_ir kX3_lowestPlane rfl rfl ⟨_, rfl, by omega, by omega, hI, rfl⟩
      · refine y_run kX3_lowestPlane rfl ?_
        exact y_ir kX3_lowestPlane rfl rfl ⟨_, rfl, by omega, by omega, hI, rfl⟩
    · refine y_run kX3_lowestPlane rfl ?_
      refine m_get kX3_lowestPlane (o) hI hp ?_ (t0 ho)
      refine y_run kX3_lowestPlane rfl ?_
      refine m_cvN kX3_lowestPlane kX0_has 1 hI (nT ho (by omega) (by omega)) rfl (by decide +kernel) (w_Nhas hI (nT ho (by omega) (by omega)) (by omega) (by omega)) rfl rfl ?_
      rintro _ h _ ⟨v1, rfl, v1a, v1b, hI, rfl⟩
      refine y_if_eq kX3_lowestPlane rfl rfl (fun c3 => ?_) (fun c3 => ?_)
      · refine y_run kX3_lowestPlane rfl ?_
        exact ih _ _ _ _ _ (by omega) (by omega) (by omega) (by omega) (by omega) hI
      · refine y_run kX3_lowestPlane rfl ?_
        refine m_get kX3_lowestPlane (o) hI hp ?_ (t0 ho)
        refine y_run kX3_lowestPlane rfl ?_
        refine m_ia kX3_lowestPlane (o + 1) hI (t1 ho) (fun v2 v2a v2b => ?_)
        refine y_run kX3_lowestPlane rfl ?_
        refine m_get kX3_lowestPlane (o) hI hp ?_ (t0 ho)
        refine y_run kX3_lowestPlane rfl ?_
        refine m_ia kX3_lowestPlane (o + 1) hI (t1 ho) (fun v3 v3a v3b => ?_)
        refine y_run kX3_lowestPlane rfl ?_
        refine y_ic_le kX3_lowestPlane rfl rfl (fun c4 => ?_) (fun c4 => ?_)
        · refine y_run kX3_lowestPlane rfl ?_
          refine y_ic_le kX3_lowestPlane rfl rfl (fun c5 => ?_) (fun c5 => ?_)
          · refine y_run kX3_lowestPlane rfl ?_
            exact ih _ _ _ _ _ (by omega) (by omega) (by omega) (by omega) (by omega) hI
          · refine y_run kX3_lowestPlane rfl ?_
            refine y_mn kX3_lowestPlane rfl (by decide +kernel) ?_
            refine y_run kX3_lowestPlane rfl ?_
            exact ih _ _ _ _ _ (by omega) (by omega) (by omega) (by omega) (by omega) hI
        · refine y_run kX3_lowestPlane rfl ?_
          refine y_mn kX3_lowestPlane rfl (by decide +kernel) ?_
          refine y_run kX3_lowestPlane rfl ?_
          refine y_ic_le kX3_lowestPlane rfl rfl (fun c6 => ?_) (fun c6 => ?_)
          · refine y_run kX3_lowestPlane rfl ?_
            exact ih _ _ _ _ _ (by omega) (by omega) (by omega) (by omega) (by omega) hI
          · refine y_run kX3_lowestPlane rfl ?_
            refine y_mn kX3_lowestPlane rfl (by decide +kernel) ?_
            refine y_run kX3_lowestPlane rfl ?_
            exact ih _ _ _ _ _ (by omega) (by omega) (by omega) (by omega) (by omega) hI
theorem w_lowestPlane {b o : Nat} {g : yH} {S : Nat → Bool} {a c x : Int} (hf : PF b o g S a c x) {p y : Int} (p1 : 0 ≤ p) (p2 : p < 120) (y1 : 0 ≤ y) (y2 : y < 3) (x1 : 0 ≤ x) (x2 : x ≤ 120) (hI : MI b g h) : YM l G mX3_lowestPlane 1 0 0 [vr (b + o), vi p, vi y] h n (PZ b g n (-1) 32) := by
  refine YM.of kX3_lowestPlane (Nat.le_of_ble_eq_true rfl) (L0 := [some (vr (b + o)), some (vi p), some (vi y), none, none, none, none, none, none]) rfl ?_
  obtain ⟨⟨ho, hw1, hw2, hw3⟩, hp, ⟨lo, hi, hL, hLb⟩, ⟨Fb, hFb, hFb2⟩, ⟨Fa, hFa, hFa2⟩⟩ := id hf
  refine y_run kX3_lowestPlane rfl ?_
  refine m_get kX3_lowestPlane (o) hI hp ?_ (t0 ho)
  refine y_run kX3_lowestPlane rfl ?_
  refine m_ia kX3_lowestPlane (o + 1) hI (t1 ho) (fun v1 v1a v1b => ?_)
  refine y_run kX3_lowestPlane rfl ?_
  refine m_get kX3_lowestPlane (o) hI hp ?_ (t0 ho)
  refine y_run kX3_lowestPlane rfl ?_
  refine m_ia kX3_lowestPlane (o + 1) hI (t1 ho) (fun v2 v2a v2b => ?_)
  refine y_run kX3_lowestPlane rfl ?_
  exact s_lowestPlane hf p1 p2 y1 y2 x1 x2 (by omega) (by omega) (by omega) (by omega) _ 0 _ _ _ _ (Nat.lt_succ_self _) (by omega) (by omega) (by omega) (by omega) hI
end C74
