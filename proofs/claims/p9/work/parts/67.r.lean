def PQv (b : Nat) (g0 : yH) (n : Nat) : Option xV → yH → Nat → Prop := fun r h' n' => ∃ g' ce1 ce2 pw la, r = none ∧ SQ b g0 g' ∧ QF b g' ce1 ce2 pw la ∧ MI b g' h' ∧ n' = n
section C83
variable {l : Launch} {G : xG} {h : yH} {n : Nat}
theorem w_addDifference {b ce1 ce2 : Nat} {g : yH} {pw la : Int} (hq : QF b g ce1 ce2 pw la) {i j : Int} (i1 : -1000 ≤ i) (i2 : i ≤ 1000) (j1 : -1000 ≤ j) (j2 : j ≤ 1000) (hI : MI b g h) : YM l G mX2_addDifference 1 0 0 [vr (b + 8), vi i, vi j] h n (PV b g n) := by
  refine YM.of kX2_addDifference (Nat.le_of_ble_eq_true rfl) (L0 := [some (vr (b + 8)), some (vi i), some (vi j), none]) rfl ?_
  obtain ⟨h1, h2, hq0⟩ := id hq
  refine y_run kX2_addDifference rfl ?_
  refine m_get kX2_addDifference (8) hI hq0 ?_
  refine y_run kX2_addDifference rfl ?_
  refine m_ia kX2_addDifference (12) hI rfl (fun v1 v1a v1b => ?_)
  refine y_if_ne kX2_addDifference rfl rfl (fun c1 => ?_) (fun c1 => ?_)
  · refine y_run kX2_addDifference rfl ?_
    refine m_get kX2_addDifference (8) hI hq0 ?_
    refine y_run kX2_addDifference rfl ?_
    refine m_ia kX2_addDifference (12) hI rfl (fun v2 v2a v2b => ?_)
    refine y_run kX2_addDifference rfl ?_
    refine m_isn kX2_addDifference (12) hI rfl (fun h hI => ?_)
    refine y_run kX2_addDifference rfl ?_
    refine m_get kX2_addDifference (8) hI hq0 ?_
    refine y_run kX2_addDifference rfl ?_
    refine y_if_eq kX2_addDifference rfl rfl (fun c2 => ?_) (fun c2 => absurd c2 (by omega))
    refine y_run kX2_addDifference rfl ?_
    refine m_get kX2_addDifference (8) hI hq0 ?_
    refine y_run kX2_addDifference rfl ?_
    refine m_ia kX2_addDifference (12) hI rfl (fun v3 v3a v3b => ?_)
    refine y_run kX2_addDifference rfl ?_
    refine y_mn kX2_addDifference rfl (by decide +kernel) ?_
    refine m_isn kX2_addDifference (12) hI rfl (fun h hI => ?_)
    refine y_run kX2_addDifference rfl ?_
    refine m_get kX2_addDifference (8) hI hq0 ?_
    refine y_run kX2_addDifference rfl ?_
    refine y_if_eq kX2_addDifference rfl rfl (fun c3 => ?_) (fun c3 => absurd c3 (by omega))
    refine y_run kX2_addDifference rfl ?_
    refine m_get kX2_addDifference (8) hI hq0 ?_
    refine y_run kX2_addDifference rfl ?_
    refine m_ia kX2_addDifference (12) hI rfl (fun v4 v4a v4b => ?_)
    refine y_run kX2_addDifference rfl ?_
    refine y_mx kX2_addDifference rfl (by decide +kernel) ?_
    refine m_isn kX2_addDifference (12) hI rfl (fun h hI => ?_)
    refine y_run kX2_addDifference rfl ?_
    refine m_get kX2_addDifference (8) hI hq0 ?_
    refine y_run kX2_addDifference rfl ?_
    refine y_if_eq kX2_addDifference rfl rfl (fun c4 => ?_) (fun c4 => absurd c4 (by omega))
    refine y_run kX2_addDifference rfl ?_
    refine m_get kX2_addDifference (8) hI hq0 ?_
    refine y_run kX2_addDifference rfl ?_
    refine m_ia kX2_addDifference (12) hI rfl (fun v5 v5a v5b => ?_)
    refine y_run kX2_addDifference rfl ?_
    refine y_mn kX2_addDifference rfl (by decide +kernel) ?_
    refine m_isn kX2_addDifference (12) hI rfl (fun h hI => ?_)
    refine y_run kX2_addDifference rfl ?_
    refine m_get kX2_addDifference (8) hI hq0 ?_
    refine y_run kX2_addDifference rfl ?_
    refine y_if_eq kX2_addDifference rfl rfl (fun c5 => ?_) (fun c5 => absurd c5 (by omega))
    refine y_run kX2_addDifference rfl ?_
    refine m_get kX2_addDifference (8) hI hq0 ?_
    refine y_run kX2_addDifference rfl ?_
    refine m_ia kX2_addDifference (12) hI rfl (fun v6 v6a v6b => ?_)
    refine y_run kX2_addDifference rfl ?_
    refine y_mx kX2_addDifference rfl (by decide +kernel) ?_
    refine m_isn kX2_addDifference (12) hI rfl (fun h hI => ?_)
    exact y_vr kX2_addDifference rfl rfl ⟨rfl, hI, rfl⟩
  · refine y_run kX2_addDifference rfl ?_
    refine m_get kX2_addDifference (8) hI hq0 ?_
    refine y_run kX2_addDifference rfl ?_
    refine m_ia kX2_addDifference (12) hI rfl (fun v7 v7a v7b => ?_)
    refine y_run kX2_addDifference rfl ?_
    refine m_isn kX2_addDifference (12) hI rfl (fun h hI => ?_)
    refine y_run kX2_addDifference rfl ?_
    refine m_get kX2_addDifference (8) hI hq0 ?_
    refine y_run kX2_addDifference rfl ?_
    refine y_if_eq kX2_addDifference rfl rfl (fun c6 => absurd c6 (by omega)) (fun c6 => ?_)
    refine y_run kX2_addDifference rfl ?_
    refine m_isn kX2_addDifference (12) hI rfl (fun h hI => ?_)
    refine y_run kX2_addDifference rfl ?_
    refine m_get kX2_addDifference (8) hI hq0 ?_
    refine y_run kX2_addDifference rfl ?_
    refine y_if_eq kX2_addDifference rfl rfl (fun c7 => absurd c7 (by omega)) (fun c7 => ?_)
    refine y_run kX2_addDifference rfl ?_
    refine m_isn kX2_addDifference (12) hI rfl (fun h hI => ?_)
    refine y_run kX2_addDifference rfl ?_
    refine m_get kX2_addDifference (8) hI hq0 ?_
    refine y_run kX2_addDifference rfl ?_
    refine y_if_eq kX2_addDifference rfl rfl (fun c8 => absurd c8 (by omega)) (fun c8 => ?_)
    refine y_run kX2_addDifference rfl ?_
    refine m_isn kX2_addDifference (12) hI rfl (fun h hI => ?_)
    refine y_run kX2_addDifference rfl ?_
    refine m_get kX2_addDifference (8) hI hq0 ?_
    refine y_run kX2_addDifference rfl ?_
    refine y_if_eq kX2_addDifference rfl rfl (fun c9 => absurd c9 (by omega)) (fun c9 => ?_)
    refine y_run kX2_addDifference rfl ?_
    refine m_isn kX2_addDifference (12) hI rfl (fun h hI => ?_)
    exact y_vr kX2_addDifference rfl rfl ⟨rfl, hI, rfl⟩
theorem s_countAll {b : Nat} {g0 : yH} : ∀ (m : Nat) (q : Int) (u2 : Option xV) (g : yH) (ce1 ce2 : Nat) (pw la : Int) (h : yH), (8192 - q).toNat < m → 0 ≤ q → q ≤ 8192 → SQ b g0 g → QF b g ce1 ce2 pw la → MI b g h → YW l G mX2_countAll 2 0 0 (PQv b g0 n) 36 [some (vr (b + 8)), some (vi q), u2] [] h n := by
  intro m
  induction m with
  | zero => intro q u2 g ce1 ce2 pw la h hm; exact absurd hm (Nat.not_lt_zero _)
  | succ m ih =>
    intro q u2 g ce1 ce2 pw la h hmm j0 j1 hs hq hI
    obtain ⟨h1, h2, hq0⟩ := id hq
    refine y_run kX2_countAll rfl ?_
    refine m_get kX2_countAll (8) hI hq0 ?_
    obtain ⟨Fc, eFc, _⟩ := hI.c (tc h1)
    refine y_al kX2_countAll rfl eFc ?_
    refine y_ic_ge kX2_countAll rfl rfl (fun c1 => ?_) (fun c1 => ?_)
    · exact y_vr kX2_countAll rfl rfl ⟨_, _, _, _, _, rfl, hs, hq, hI, rfl⟩
    · refine y_run kX2_countAll rfl ?_
      refine m_get kX2_countAll (8) hI hq0 ?_
      refine y_run kX2_countAll rfl ?_
      refine m_iac kX2_countAll (ce1) hI (tc h1) (fun v1 v1a => ?_)
      refine y_run kX2_countAll rfl ?_
      refine m_get kX2_countAll (8) hI hq0 ?_
      refine y_run kX2_countAll rfl ?_
      refine y_cs kX2_countAll kX2_laidOf 1 rfl (by decide +kernel) (w_Plaid) rfl rfl ?_
      rintro _ _ _ ⟨⟨v2, rfl⟩, rfl, rfl⟩
      refine y_run kX2_countAll rfl ?_
      refine m_pQ kX2_countAll hI hq hs (fun g h hs hq hI => ?_) ⟨_, rfl, rfl, Nat.le_of_ble_eq_true rfl⟩ h1 h2
      obtain ⟨h1, h2, hq0⟩ := id hq
      refine y_run kX2_countAll rfl ?_
      refine y_cs kX2_countAll kX2_hasBox 1 rfl (by decide +kernel) (w_hasBox) rfl rfl ?_
      rintro _ _ _ ⟨⟨v3, rfl, v3a, v3b⟩, rfl, rfl⟩
      refine y_if_eq kX2_countAll rfl rfl (fun c2 => ?_) (fun c2 => ?_)
      · refine y_run kX2_countAll rfl ?_
        refine m_get kX2_countAll (8) hI hq0 ?_
        refine y_run kX2_countAll rfl ?_
        refine m_iac kX2_countAll (ce2) hI (tc h2) (fun v4 v4a => ?_)
        refine y_run kX2_countAll rfl ?_
        refine y_ldc (z := 65535) kX2_countAll rfl (by decide +kernel) ?_
        refine y_run kX2_countAll rfl ?_
        rw [yand_65535]
        refine y_if_eq kX2_countAll rfl rfl (fun c3 => ?_) (fun c3 => ?_)
        · refine y_run kX2_countAll rfl ?_
          exact ih _ _ _ _ _ _ _ _ (by omega) (by omega) (by omega) hs hq hI
        · refine y_run kX2_countAll rfl ?_
          refine y_idiv kX2_countAll rfl (by omega) (by omega) (by omega) (by omega) ?_
          refine y_run kX2_countAll rfl ?_
          refine y_irem kX2_countAll rfl (by omega) (by omega) (by omega) (by omega) ?_
          refine y_run kX2_countAll rfl ?_
          refine y_cv kX2_countAll kX2_addDifference 2 rfl (hI.x (k := 8) rfl hq0) (by decide +kernel) (w_addDifference hq (by omega) (by omega) (by omega) (by omega) hI) rfl rfl ?_
          rintro _ h _ ⟨rfl, hI, rfl⟩
          refine y_run kX2_countAll rfl ?_
          exact ih _ _ _ _ _ _ _ _ (by omega) (by omega) (by omega) hs hq hI
      · refine y_run kX2_countAll rfl ?_
        refine m_get kX2_countAll (8) hI hq0 ?_
        refine y_run kX2_countAll rfl ?_
        refine y_cs kX2_countAll kX2_boxOf 1 rfl (by decide +kernel) (c_boxOf) rfl rfl ?_
        rintro _ _ _ ⟨rfl, rfl, rfl⟩
        refine y_run kX2_countAll rfl ?_
        refine m_ia kX2_countAll (11) hI rfl (fun v7 v7a v7b => ?_)
        refine y_run kX2_countAll rfl ?_
        refine m_isn kX2_countAll (11) hI rfl (fun h hI => ?_)
        refine y_run kX2_countAll rfl ?_
        refine m_get kX2_countAll (8) hI hq0 ?_
        refine y_run kX2_countAll rfl ?_
        refine m_pQ kX2_countAll hI hq hs (fun g h hs hq hI => ?_) ⟨_, rfl, rfl, Nat.le_of_ble_eq_true rfl⟩ h1 h2
        obtain ⟨h1, h2, hq0⟩ := id hq
        refine y_run kX2_countAll rfl ?_
        refine m_get kX2_countAll (8) hI hq0 ?_
        refine y_run kX2_countAll rfl ?_
        refine m_iac kX2_countAll (ce2) hI (tc h2) (fun v8 v8a => ?_)
        refine y_run kX2_countAll rfl ?_
        refine y_ldc (z := 65535) kX2_countAll rfl (by decide +kernel) ?_
        refine y_run kX2_countAll rfl ?_
        rw [yand_65535]
        refine y_if_eq kX2_countAll rfl rfl (fun c4 => ?_) (fun c4 => ?_)
        · refine y_run kX2_countAll rfl ?_
          exact ih _ _ _ _ _ _ _ _ (by omega) (by omega) (by omega) hs hq hI
        · refine y_run kX2_countAll rfl ?_
          refine y_idiv kX2_countAll rfl (by omega) (by omega) (by omega) (by omega) ?_
          refine y_run kX2_countAll rfl ?_
          refine y_irem kX2_countAll rfl (by omega) (by omega) (by omega) (by omega) ?_
          refine y_run kX2_countAll rfl ?_
          refine y_cv kX2_countAll kX2_addDifference 2 rfl (hI.x (k := 8) rfl hq0) (by decide +kernel) (w_addDifference hq (by omega) (by omega) (by omega) (by omega) hI) rfl rfl ?_
          rintro _ h _ ⟨rfl, hI, rfl⟩
          refine y_run kX2_countAll rfl ?_
          exact ih _ _ _ _ _ _ _ _ (by omega) (by omega) (by omega) hs hq hI
theorem w_countAll {b ce1 ce2 : Nat} {g : yH} {pw la : Int} (hq : QF b g ce1 ce2 pw la) (hI : MI b g h) : YM l G mX2_countAll 2 0 0 [vr (b + 8)] h n (PQv b g n) := by
  refine YM.of kX2_countAll (Nat.le_of_ble_eq_true rfl) (L0 := [some (vr (b + 8)), none, none]) rfl ?_
  have hs := SQ.r b g
  obtain ⟨h1, h2, hq0⟩ := id hq
  refine y_run kX2_countAll rfl ?_
  refine m_get kX2_countAll (8) hI hq0 ?_
  refine y_run kX2_countAll rfl ?_
  refine y_cs kX2_countAll kJ7_fill_53178 2 rfl (by decide +kernel) (w_fill hI rfl (by omega) (by omega) (by omega)) rfl rfl ?_
  rintro _ h _ ⟨rfl, hI, rfl⟩
  refine y_run kX2_countAll rfl ?_
  refine m_get kX2_countAll (8) hI hq0 ?_
  refine y_run kX2_countAll rfl ?_
  refine y_cs kX2_countAll kJ7_fill_53178 2 rfl (by decide +kernel) (w_fill hI rfl (by omega) (by omega) (by omega)) rfl rfl ?_
  rintro _ h _ ⟨rfl, hI, rfl⟩
  refine y_run kX2_countAll rfl ?_
  refine m_get kX2_countAll (8) hI hq0 ?_
  refine y_run kX2_countAll rfl ?_
  refine m_isn kX2_countAll (12) hI rfl (fun h hI => ?_)
  refine y_run kX2_countAll rfl ?_
  refine m_pQ kX2_countAll hI hq hs (fun g h hs hq hI => ?_) ⟨_, rfl, rfl, Nat.le_of_ble_eq_true rfl⟩ h1 h2
  obtain ⟨h1, h2, hq0⟩ := id hq
  refine y_run kX2_countAll rfl ?_
  refine m_pQ kX2_countAll hI hq hs (fun g h hs hq hI => ?_) ⟨_, rfl, rfl, Nat.le_of_ble_eq_true rfl⟩ h1 h2
  obtain ⟨h1, h2, hq0⟩ := id hq
  refine y_run kX2_countAll rfl ?_
  exact s_countAll _ 0 _ _ _ _ _ _ _ (Nat.lt_succ_self _) (by omega) (by omega) hs hq hI
theorem s_show {b o ce1 ce2 : Nat} {g : yH} {t pw la a c x : Int} {E K R T : Nat → Int} {S : Nat → Bool} (hq : QF b g ce1 ce2 pw la) (hsc : SF b g t E K R T) (hf : PF0 b o g S a c x) {Φ : Option xV → yH → Nat → Prop} (a1 : 0 ≤ a) (a2 : a ≤ 96) {ad : Nat} (kk : ∀ (u4 : Option xV) (h : yH), MI b g h → YW l G mX2_show 4 0 0 (Φ) 57 [some (vr (b + 8)), some (vr (b + 1)), some (vr (b + o)), some (vr ad), u4] [] h n) : ∀ (m : Nat) (q : Int) (h : yH), (96 - q).toNat < m → 0 ≤ q → q ≤ 96 → MI b g h → YW l G mX2_show 4 0 0 (Φ) 29 [some (vr (b + 8)), some (vr (b + 1)), some (vr (b + o)), some (vr ad), some (vi q)] [] h n := by
  intro m
  induction m with
  | zero => intro q h hm; exact absurd hm (Nat.not_lt_zero _)
  | succ m ih =>
    intro q h hmm j0 j1 hI
    obtain ⟨h1, h2, hq0⟩ := id hq
    obtain ⟨ho, hp, ⟨lo, hi, hL, hLb⟩, ⟨Fb, hFb, hFb2⟩, ⟨Fa, hFa, hFa2⟩⟩ := id hf
    refine y_run kX2_show rfl ?_
    refine m_get kX2_show (o) hI hp ?_ (t0 ho)
    refine y_ic_ge kX2_show rfl rfl (fun c1 => ?_) (fun c1 => ?_)
    · exact kk _ _  hI
    · refine y_run kX2_show rfl ?_
      refine m_get kX2_show (o) hI hp ?_ (t0 ho)
      refine y_run kX2_show rfl ?_
      refine m_ia kX2_show (o + 3) hI (t3 ho) (fun v1 v1a v1b => ?_)
      refine y_cv kX2_show kX2_lay 3 rfl (hI.x (k := 8) rfl hq0) (by decide +kernel) (w_lay hq hsc hf (by omega) (by omega) hI) rfl rfl ?_
      rintro _ h _ ⟨rfl, hI, rfl⟩
      refine y_run kX2_show rfl ?_
      exact ih _ _ (by omega) (by omega) (by omega) hI
theorem w_show {b o ce1 ce2 : Nat} {g : yH} {t pw la a c x : Int} {E K R T : Nat → Int} {S : Nat → Bool} (hq : QF b g ce1 ce2 pw la) (hsc : SF b g t E K R T) (hf : PF0 b o g S a c x) (a1 : 0 ≤ a) (a2 : a ≤ 96) (hI : MI b g h) : YM l G mX2_show 4 0 0 [vr (b + 8), vr (b + 1), vr (b + o)] h n (PQv b g n) := by
  refine YM.of kX2_show (Nat.le_of_ble_eq_true rfl) (L0 := [some (vr (b + 8)), some (vr (b + 1)), some (vr (b + o)), none, none]) rfl ?_
  have hs := SQ.r b g
  obtain ⟨h1, h2, hq0⟩ := id hq
  obtain ⟨ho, hp, ⟨lo, hi, hL, hLb⟩, ⟨Fb, hFb, hFb2⟩, ⟨Fa, hFa, hFa2⟩⟩ := id hf
  have hc1 := h1
  refine y_run kX2_show rfl ?_
  refine m_get kX2_show (8) hI hq0 ?_
  refine y_run kX2_show rfl ?_
  refine m_get kX2_show (8) hI hq0 ?_
  refine m_pQ kX2_show hI hq hs (fun g h hs hq hI => ?_) ⟨_, rfl, rfl, Nat.le_of_ble_eq_true rfl⟩ h2 h2
  obtain ⟨h1, h2, hq0⟩ := id hq
  refine y_run kX2_show rfl ?_
  refine m_pQ kX2_show hI hq hs (fun g h hs hq hI => ?_) ⟨_, rfl, rfl, Nat.le_of_ble_eq_true rfl⟩ h1 hc1
  obtain ⟨h1, h2, hq0⟩ := id hq
  refine y_run kX2_show rfl ?_
  refine m_get kX2_show (8) hI hq0 ?_
  refine y_run kX2_show rfl ?_
  refine y_cs kX2_show kJ7_fill_53178 2 rfl (by decide +kernel) (w_fillc hI (tc h1) (by omega) (by omega)) rfl rfl ?_
  rintro _ h _ ⟨rfl, hI, rfl⟩
  refine y_run kX2_show rfl ?_
  have ho' := hf.1
  replace hsc := hsc.on (fun q q1 q2 => hs q (by omega))
  replace hf := hf.on (fun q q1 q2 => hs q (by omega))
  exact s_show hq hsc hf a1 a2 (fun u4 h hI => by
    refine y_run kX2_show rfl ?_
    refine y_cv kX2_show kX2_countAll 0 rfl (hI.x (k := 8) rfl hq0) (by decide +kernel) (w_countAll hq hI) rfl rfl ?_
    rintro _ h _ ⟨g, ce1, ce2, pw, la, rfl, hs2, hq, hI, rfl⟩
    replace hs := hs.t hs2
    obtain ⟨h1, h2, hq0⟩ := id hq
    exact y_vr kX2_show rfl rfl ⟨_, _, _, _, _, rfl, hs, hq, hI, rfl⟩) _ 0 _ (Nat.lt_succ_self _) (by omega) (by omega) hI
theorem w_cuts {b o : Nat} {g : yH} {S : Nat → Bool} {a c x : Int} (hf : PF0 b o g S a c x)  (hI : MI b g h) : YM l G mX3_cuts 0 0 0 [vr (b + o)] h n (PZ b g n (-2147483648) 2147483647) := by
  refine YM.of kX3_cuts (Nat.le_of_ble_eq_true rfl) (L0 := [some (vr (b + o))]) rfl ?_
  obtain ⟨ho, hp, ⟨lo, hi, hL, hLb⟩, ⟨Fb, hFb, hFb2⟩, ⟨Fa, hFa, hFa2⟩⟩ := id hf
  refine y_run kX3_cuts rfl ?_
  refine m_get kX3_cuts (o) hI hp ?_ (t0 ho)
  refine y_run kX3_cuts rfl ?_
  refine YW.nr1 ?_
  exact y_ir kX3_cuts rfl rfl ⟨_, rfl, (nrm_rng _).1, (nrm_rng _).2, hI, rfl⟩
theorem s_boxesCut {b o : Nat} {g : yH} {S : Nat → Bool} {a c x : Int} (hf : PF0 b o g S a c x) (x1 : 24 ≤ x) (x2 : x ≤ 120) : ∀ (m : Nat) (q : Int) (z : Int) (h : yH), (x - q).toNat < m → 24 ≤ q → q ≤ x → MI b g h → YW l G mX3_boxesCut 1 0 0 (PZ b g n (-2147483648) 2147483647) 5 [some (vr (b + o)), some (vi z), some (vi q)] [] h n := by
  intro m
  induction m with
  | zero => intro q z h hm; exact absurd hm (Nat.not_lt_zero _)
  | succ m ih =>
    intro q z h hmm j0 j1 hI
    obtain ⟨ho, hp, ⟨lo, hi, hL, hLb⟩, ⟨Fb, hFb, hFb2⟩, ⟨Fa, hFa, hFa2⟩⟩ := id hf
    refine y_run kX3_boxesCut rfl ?_
    refine m_get kX3_boxesCut (o) hI hp ?_ (t0 ho)
    refine y_ic_ge kX3_boxesCut rfl rfl (fun c1 => ?_) (fun c1 => ?_)
    · refine y_run kX3_boxesCut rfl ?_
      refine y_cs kX3_boxesCut kJ6_bitCount_0f7a4 1 rfl (by decide +kernel) (c_Ibit _) rfl rfl ?_
      rintro _ _ _ ⟨rfl, rfl, rfl⟩
      refine YW.nr1 ?_
      exact y_ir kX3_boxesCut rfl rfl ⟨_, rfl, (nrm_rng _).1, (nrm_rng _).2, hI, rfl⟩
    · refine y_run kX3_boxesCut rfl ?_
      refine m_get kX3_boxesCut (o) hI hp ?_ (t0 ho)
      refine y_run kX3_boxesCut rfl ?_
      refine m_ia kX3_boxesCut (o + 2) hI (t2 ho) (fun v2 v2a v2b => ?_)
      refine y_run kX3_boxesCut rfl ?_
      exact ih _ _ _ (by omega) (by omega) (by omega) hI
theorem w_boxesCut {b o : Nat} {g : yH} {S : Nat → Bool} {a c x : Int} (hf : PF0 b o g S a c x) (x1 : 24 ≤ x) (x2 : x ≤ 120) (hI : MI b g h) : YM l G mX3_boxesCut 1 0 0 [vr (b + o)] h n (PZ b g n (-2147483648) 2147483647) := by
  refine YM.of kX3_boxesCut (Nat.le_of_ble_eq_true rfl) (L0 := [some (vr (b + o)), none, none]) rfl ?_
  obtain ⟨ho, hp, ⟨lo, hi, hL, hLb⟩, ⟨Fb, hFb, hFb2⟩, ⟨Fa, hFa, hFa2⟩⟩ := id hf
  refine y_run kX3_boxesCut rfl ?_
  exact s_boxesCut hf x1 x2 _ 24 0 _ (Nat.lt_succ_self _) (by omega) (by omega) hI
theorem w_howMany {b : Nat} {g : yH} {t : Int} {E K R T : Nat → Int} (hsc : SF b g t E K R T)  (hI : MI b g h) : YM l G mX5_howMany 1 0 0 [vr (b + 1)] h n (PZ b g n (-2147483648) 2147483647) := by
  refine YM.of kX5_howMany (Nat.le_of_ble_eq_true rfl) (L0 := [some (vr (b + 1))]) rfl ?_
  refine y_run kX5_howMany rfl ?_
  refine m_get kX5_howMany (1) hI hsc.1.1 ?_
  refine y_cs kX5_howMany kJ6_bitCount_0f7a4 1 rfl (by decide +kernel) (c_Ibit _) rfl rfl ?_
  rintro _ _ _ ⟨rfl, rfl, rfl⟩
  refine YW.nr1 ?_
  exact y_ir kX5_howMany rfl rfl ⟨_, rfl, (nrm_rng _).1, (nrm_rng _).2, hI, rfl⟩
theorem s_howMany {b : Nat} {g : yH}  : ∀ (m : Nat) (q : Int) (z : Int) (h : yH), (32 - q).toNat < m → -32 ≤ q → q ≤ 32 → 0 ≤ z → z ≤ 200 * (q + 32) → MI b g h → YW l G mX1_howManyPixels 2 0 0 (PZ b g n (-2147483648) 2147483647) 7 [some (vr (b + 16)), some (vi z), some (vi q)] [] h n := by
  intro m
  induction m with
  | zero => intro q z h hm; exact absurd hm (Nat.not_lt_zero _)
  | succ m ih =>
    intro q z h hmm j0 j1 j2 j3 hI
    refine y_run kX1_howManyPixels rfl ?_
    refine m_getO5 kX1_howManyPixels (16) hI rfl (fun v1 v1a v1b => ?_)
    refine y_ic_gt kX1_howManyPixels rfl rfl (fun c1 => ?_) (fun c1 => ?_)
    · refine y_run kX1_howManyPixels rfl ?_
      exact y_ir kX1_howManyPixels rfl rfl ⟨_, rfl, by omega, by omega, hI, rfl⟩
    · refine y_run kX1_howManyPixels rfl ?_
      obtain ⟨_, _, _, _, _, _, ev2, _⟩ := hI.o (k := 16) rfl
      refine y_cv kX1_howManyPixels kX1_lastJ 1 rfl ev2 (by decide +kernel) (w_OlastJ hI rfl (by omega) (by omega)) rfl rfl ?_
      rintro _ h _ ⟨v2, rfl, v2a, v2b, hI, rfl⟩
      refine y_run kX1_howManyPixels rfl ?_
      obtain ⟨_, _, _, _, _, _, ev3, _⟩ := hI.o (k := 16) rfl
      refine y_cv kX1_howManyPixels kX1_firstJ 1 rfl ev3 (by decide +kernel) (w_OfirstJ hI rfl (by omega) (by omega)) rfl rfl ?_
      rintro _ h _ ⟨v3, rfl, v3a, v3b, hI, rfl⟩
      refine y_run kX1_howManyPixels rfl ?_
      refine y_mx kX1_howManyPixels rfl (by decide +kernel) ?_
      refine y_run kX1_howManyPixels rfl ?_
      exact ih _ _ _ (by omega) (by omega) (by omega) (by omega) (by omega) hI
theorem w_howManyPixels {b : Nat} {g : yH}  (hI : MI b g h) : YM l G mX1_howManyPixels 2 0 0 [vr (b + 16)] h n (PZ b g n (-2147483648) 2147483647) := by
  refine YM.of kX1_howManyPixels (Nat.le_of_ble_eq_true rfl) (L0 := [some (vr (b + 16)), none, none]) rfl ?_
  refine y_run kX1_howManyPixels rfl ?_
  refine m_getO4 kX1_howManyPixels (16) hI rfl (fun v1 v1a v1b => ?_)
  refine y_run kX1_howManyPixels rfl ?_
  exact s_howMany _ _ 0 _ (Nat.lt_succ_self _) (by omega) (by omega) (by omega) (by omega) hI
end C83
