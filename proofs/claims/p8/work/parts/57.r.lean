section C68
variable {l : Launch} {G : xG} {h : yH} {n : Nat}
theorem s_draw5 {b : Nat} {g : yH} {i0 i1 i2 i3 i4 i5 i6 : Int} {B J : Nat → Int} (hf : RF b g B J i0 i1 i2 i3 i4 i5 i6) {Φ : Option xV → yH → Nat → Prop} {x y z k : Int} (k1 : 0 ≤ k) (k2 : k < 96) (kk : ∀ (u5 : Option xV) (h : yH), MI b g h → YW l G mX7_draw 4 0 0 (Φ) 267 [some (vr (b + 540)), some (vi x), some (vi y), some (vi z), some (vi k), u5] [] h n) : ∀ (m : Nat) (q : Int) (h : yH), (7 - q).toNat < m → 1 ≤ q → q ≤ 7 → MI b g h → YW l G mX7_draw 4 0 0 (Φ) 221 [some (vr (b + 540)), some (vi x), some (vi y), some (vi z), some (vi k), some (vi q)] [] h n := by
  intro m
  induction m with
  | zero => intro q h hm; exact absurd hm (Nat.not_lt_zero _)
  | succ m ih =>
    intro q h hmm j0 j1 hI
    obtain ⟨hm, hB, hJ, hBb, hBs, hBc, hJb, hi1, hi2, hi3, hi4⟩ := id hf
    refine y_run kX7_draw rfl ?_
    refine y_ic_ge kX7_draw rfl rfl (fun c1 => ?_) (fun c1 => ?_)
    · exact kk _ _  hI
    · refine y_run kX7_draw rfl ?_
      refine m_get kX7_draw (540) hI hm ?_
      refine y_run kX7_draw rfl ?_
      refine m_get kX7_draw (540) hI hm ?_
      refine y_run kX7_draw rfl ?_
      refine m_get kX7_draw (540) hI hm ?_
      refine y_run kX7_draw rfl ?_
      refine m_ia kX7_draw (549) hI rfl (fun v1 v1a v1b => ?_)
      refine y_run kX7_draw rfl ?_
      refine m_ia kX7_draw (545) hI rfl (fun v2 v2a v2b => ?_)
      refine m_is kX7_draw (550) hI rfl (fun h hI => ?_)
      refine y_run kX7_draw rfl ?_
      exact ih _ _ (by omega) (by omega) (by omega) hI
theorem s_draw4 {b : Nat} {g : yH} {i0 i1 i2 i3 i4 i5 i6 : Int} {B J : Nat → Int} (hf : RF b g B J i0 i1 i2 i3 i4 i5 i6) {Φ : Option xV → yH → Nat → Prop} {x y z : Int} (y1 : 0 ≤ y) (y2 : y ≤ 96) (kk : ∀ (u4 : Option xV) (u5 : Option xV) (h : yH), MI b g h → YW l G mX7_draw 4 0 0 (Φ) 273 [some (vr (b + 540)), some (vi x), some (vi y), some (vi z), u4, u5] [] h n) : ∀ (m : Nat) (q : Int) (u5 : Option xV) (h : yH), (y - q).toNat < m → 0 ≤ q → q ≤ y → MI b g h → YW l G mX7_draw 4 0 0 (Φ) 168 [some (vr (b + 540)), some (vi x), some (vi y), some (vi z), some (vi q), u5] [] h n := by
  intro m
  induction m with
  | zero => intro q u5 h hm; exact absurd hm (Nat.not_lt_zero _)
  | succ m ih =>
    intro q u5 h hmm j0 j1 hI
    obtain ⟨hm, hB, hJ, hBb, hBs, hBc, hJb, hi1, hi2, hi3, hi4⟩ := id hf
    refine y_run kX7_draw rfl ?_
    refine y_ic_ge kX7_draw rfl rfl (fun c1 => ?_) (fun c1 => ?_)
    · exact kk _ _ _  hI
    · refine y_run kX7_draw rfl ?_
      refine m_get kX7_draw (540) hI hm ?_
      refine y_run kX7_draw rfl ?_
      refine m_get kX7_draw (540) hI hm ?_
      refine y_run kX7_draw rfl ?_
      refine m_get kX7_draw (540) hI hm ?_
      refine y_run kX7_draw rfl ?_
      refine m_ia kX7_draw (549) hI rfl (fun v1 v1a v1b => ?_)
      refine y_run kX7_draw rfl ?_
      refine m_ia kX7_draw (545) hI rfl (fun v2 v2a v2b => ?_)
      refine m_is kX7_draw (550) hI rfl (fun h hI => ?_)
      refine y_run kX7_draw rfl ?_
      refine m_get kX7_draw (540) hI hm ?_
      refine y_run kX7_draw rfl ?_
      refine m_get kX7_draw (540) hI hm ?_
      refine y_run kX7_draw rfl ?_
      refine m_ia kX7_draw (549) hI rfl (fun v3 v3a v3b => ?_)
      refine m_is kX7_draw (550) hI rfl (fun h hI => ?_)
      refine y_run kX7_draw rfl ?_
      exact s_draw5 hf (by omega) (by omega) (fun u5 h hI => by
        refine y_run kX7_draw rfl ?_
        exact ih _ _ _ (by omega) (by omega) (by omega) hI) _ 1 _ (Nat.lt_succ_self _) (by omega) (by omega) hI
theorem s_draw3 {b : Nat} {g0 : yH} {i0 i1 i3 i4 i5 i6 : Int} {B J : Nat → Int} {Φ : Option xV → yH → Nat → Prop} {x y z : Int} (y1 : 0 ≤ y) (y2 : y ≤ 96) (k1 : 24 ≤ i6) (k2 : i6 ≤ 128) (kk : ∀ (g : yH) (i2 : Int) (u4 : Option xV) (u5 : Option xV) (h : yH), SM b g0 g → RF b g B J i0 i1 i2 i3 i4 i5 i6 → MI b g h → YW l G mX7_draw 4 0 0 (Φ) 165 [some (vr (b + 540)), some (vi x), some (vi y), some (vi z), u4, u5] [] h n) : ∀ (m : Nat) (q : Int) (g : yH) (i2 : Int) (u5 : Option xV) (h : yH), (24 - q).toNat < m → 0 ≤ q → q ≤ 24 → SM b g0 g → RF b g B J i0 i1 i2 i3 i4 i5 i6 → MI b g h → YW l G mX7_draw 4 0 0 (Φ) 129 [some (vr (b + 540)), some (vi x), some (vi y), some (vi z), some (vi q), u5] [] h n := by
  intro m
  induction m with
  | zero => intro q g i2 u5 h hm; exact absurd hm (Nat.not_lt_zero _)
  | succ m ih =>
    intro q g i2 u5 h hmm j0 j1 hs hf hI
    obtain ⟨hm, hB, hJ, hBb, hBs, hBc, hJb, hi1, hi2, hi3, hi4⟩ := id hf
    refine y_run kX7_draw rfl ?_
    refine y_ic_ge kX7_draw rfl rfl (fun c1 => ?_) (fun c1 => ?_)
    · exact kk _ _ _ _ _  hs hf hI
    · refine y_run kX7_draw rfl ?_
      refine m_get kX7_draw (540) hI hm ?_
      refine y_run kX7_draw rfl ?_
      refine y_cv kX7_draw kX7_isCut 1 rfl (hI.x (k := 540) rfl hm) (by decide +kernel) (w_isCut hf (by omega) (by omega) (by omega) (by omega) hI) rfl rfl ?_
      rintro _ h _ ⟨v1, rfl, v1a, v1b, hI, rfl⟩
      refine y_if_eq kX7_draw rfl rfl (fun c2 => ?_) (fun c2 => ?_)
      · refine y_run kX7_draw rfl ?_
        refine m_pM12 kX7_draw hI hf hs (fun g h hs hf hI => ?_)
        obtain ⟨hm, hB, hJ, hBb, hBs, hBc, hJb, hi1, hi2, hi3, hi4⟩ := id hf
        refine y_run kX7_draw rfl ?_
        exact ih _ _ _ _ _ (by omega) (by omega) (by omega) hs hf hI
      · refine y_run kX7_draw rfl ?_
        refine m_pM12 kX7_draw hI hf hs (fun g h hs hf hI => ?_)
        obtain ⟨hm, hB, hJ, hBb, hBs, hBc, hJb, hi1, hi2, hi3, hi4⟩ := id hf
        refine y_run kX7_draw rfl ?_
        exact ih _ _ _ _ _ (by omega) (by omega) (by omega) hs hf hI
theorem s_draw2 {b : Nat} {g0 : yH} {B J : Nat → Int} {x : Int} (x1 : 0 ≤ x) (x2 : x ≤ 24) : ∀ (m : Nat) (c : Int) (e : Int) (g : yH) (i0 : Int) (i1 : Int) (i2 : Int) (i3 : Int) (i4 : Int) (i5 : Int) (i6 : Int) (u4 : Option xV) (u5 : Option xV) (h : yH), (192 - c - e).toNat < m → x ≤ c → c ≤ 96 → 0 ≤ e → e ≤ c → 24 ≤ i6 → i6 ≤ 24 + c → SM b g0 g → RF b g B J i0 i1 i2 i3 i4 i5 i6 → MI b g h → YW l G mX7_draw 4 0 0 (PGz b g0 n B J 24 128) 46 [some (vr (b + 540)), some (vi x), some (vi c), some (vi e), u4, u5] [] h n := by
  intro m
  induction m with
  | zero => intro c e g i0 i1 i2 i3 i4 i5 i6 u4 u5 h hm; exact absurd hm (Nat.not_lt_zero _)
  | succ m ih =>
    intro c e g i0 i1 i2 i3 i4 i5 i6 u4 u5 h hmm j0 j1 j2 j3 j4 j5 hs hf hI
    obtain ⟨hm, hB, hJ, hBb, hBs, hBc, hJb, hi1, hi2, hi3, hi4⟩ := id hf
    refine y_run kX7_draw rfl ?_
    refine y_ic_ge kX7_draw rfl rfl (fun c1 => ?_) (fun c1 => ?_)
    · refine y_run kX7_draw rfl ?_
      refine m_pM10 kX7_draw hI hf hs (fun g h hs hf hI => ?_) (by omega) (by omega)
      obtain ⟨hm, hB, hJ, hBb, hBs, hBc, hJb, hi1, hi2, hi3, hi4⟩ := id hf
      refine y_run kX7_draw rfl ?_
      refine m_pM11 kX7_draw hI hf hs (fun g h hs hf hI => ?_)
      obtain ⟨hm, hB, hJ, hBb, hBs, hBc, hJb, hi1, hi2, hi3, hi4⟩ := id hf
      refine y_run kX7_draw rfl ?_
      refine m_pM12 kX7_draw hI hf hs (fun g h hs hf hI => ?_)
      obtain ⟨hm, hB, hJ, hBb, hBs, hBc, hJb, hi1, hi2, hi3, hi4⟩ := id hf
      refine y_run kX7_draw rfl ?_
      exact s_draw3 (y := c) (by omega) (by omega) (by omega) (by omega) (fun g i2 u4 u5 h hs hf hI => by
        obtain ⟨hm, hB, hJ, hBb, hBs, hBc, hJb, hi1, hi2, hi3, hi4⟩ := id hf
        refine y_run kX7_draw rfl ?_
        exact s_draw4 hf (y := c) (by omega) (by omega) (fun u4 u5 h hI => by
          refine y_run kX7_draw rfl ?_
          refine y_cv kX7_draw kX7_paintAll 0 rfl (hI.x (k := 540) rfl hm) (by decide +kernel) (w_paintAll hf hI) rfl rfl ?_
          rintro _ h _ ⟨g, i0, i1, i2, i3, i4, i5, kv1, rfl, hs2, hf, v1a, v1b, hI, rfl⟩
          replace hs := hs.t hs2
          obtain ⟨hm, hB, hJ, hBb, hBs, hBc, hJb, hi1, hi2, hi3, hi4⟩ := id hf
          refine y_run kX7_draw rfl ?_
          refine m_get kX7_draw (540) hI hm ?_
          refine y_run kX7_draw rfl ?_
          refine YW.nr1 ?_
          refine m_pM15 kX7_draw hI hf hs (fun g h hs hf hI => ?_) (nrm_rng _).1 (nrm_rng _).2
          obtain ⟨hm, hB, hJ, hBb, hBs, hBc, hJb, hi1, hi2, hi3, hi4⟩ := id hf
          refine y_run kX7_draw rfl ?_
          exact y_ir kX7_draw rfl rfl ⟨_, _, _, _, _, _, _, _, ⟨_, rfl⟩, hs, hf, by omega, by omega, hI, rfl⟩) _ 0 _ _ (Nat.lt_succ_self _) (by omega) (by omega) hI) _ 0 _ _ _ _ (Nat.lt_succ_self _) (by omega) (by omega) hs hf hI
    · refine y_run kX7_draw rfl ?_
      refine y_cv kX7_draw kX7_free 0 rfl (hI.x (k := 540) rfl hm) (by decide +kernel) (w_free hf hI) rfl rfl ?_
      rintro _ h _ ⟨v1, rfl, v1a, v1b, hI, rfl⟩
      refine y_run kX7_draw rfl ?_
      refine y_ic_eq kX7_draw rfl rfl (fun c2 => ?_) (fun c2 => ?_)
      · refine y_run kX7_draw rfl ?_
        refine y_ic_ne kX7_draw rfl rfl (fun c3 => ?_) (fun c3 => ?_)
        · refine y_run kX7_draw rfl ?_
          refine y_cv kX7_draw kX7_cut 0 rfl (hI.x (k := 540) rfl hm) (by decide +kernel) (w_cut hf (by omega) (by omega) hI) rfl rfl ?_
          rintro _ h _ ⟨g, i0, i1, i2, i3, i4, i5, i6, rfl, hs2, hf, v2a, v2b, hI, rfl⟩
          replace hs := hs.t hs2
          obtain ⟨hm, hB, hJ, hBb, hBs, hBc, hJb, hi1, hi2, hi3, hi4⟩ := id hf
          refine y_run kX7_draw rfl ?_
          exact ih _ _ _ _ _ _ _ _ _ _ _ _ _ (by omega) (by omega) (by omega) (by omega) (by omega) (by omega) (by omega) hs hf hI
        · refine y_run kX7_draw rfl ?_
          exact y_ir kX7_draw rfl rfl ⟨_, _, _, _, _, _, _, _, ⟨_, rfl⟩, hs, hf, by omega, by omega, hI, rfl⟩
      · refine y_run kX7_draw rfl ?_
        refine m_get kX7_draw (540) hI hm ?_
        refine y_run kX7_draw rfl ?_
        refine m_is kX7_draw (545) hI rfl (fun h hI => ?_)
        refine y_run kX7_draw rfl ?_
        refine m_get kX7_draw (540) hI hm ?_
        refine y_run kX7_draw rfl ?_
        refine m_is kX7_draw (549) hI rfl (fun h hI => ?_)
        refine y_run kX7_draw rfl ?_
        exact ih _ _ _ _ _ _ _ _ _ _ _ _ _ (by omega) (by omega) (by omega) (by omega) (by omega) (by omega) (by omega) hs hf hI
theorem s_draw1 {b : Nat} {g : yH} {i0 i1 i2 i3 i4 i5 i6 : Int} {B J : Nat → Int} (hf : RF b g B J i0 i1 i2 i3 i4 i5 i6) {Φ : Option xV → yH → Nat → Prop} (kk : ∀ (a : Int) (u2 : Option xV) (h : yH), 0 ≤ a → a ≤ (24) → MI b g h → YW l G mX7_draw 4 0 0 (Φ) 42 [some (vr (b + 540)), some (vi a), u2, none, none, none] [] h n) : ∀ (m : Nat) (q : Int) (a : Int) (h : yH), (24 - q).toNat < m → 0 ≤ q → q ≤ 24 → 0 ≤ a → a ≤ q → MI b g h → YW l G mX7_draw 4 0 0 (Φ) 14 [some (vr (b + 540)), some (vi a), some (vi q), none, none, none] [] h n := by
  intro m
  induction m with
  | zero => intro q a h hm; exact absurd hm (Nat.not_lt_zero _)
  | succ m ih =>
    intro q a h hmm j0 j1 j2 j3 hI
    obtain ⟨hm, hB, hJ, hBb, hBs, hBc, hJb, hi1, hi2, hi3, hi4⟩ := id hf
    refine y_run kX7_draw rfl ?_
    refine y_ic_ge kX7_draw rfl rfl (fun c1 => ?_) (fun c1 => ?_)
    · exact kk _ _ _ (by omega) (by omega) hI
    · refine y_run kX7_draw rfl ?_
      refine y_cv kX7_draw kX7_isThere 1 rfl (hI.x (k := 540) rfl hm) (by decide +kernel) (c_isThere (hI.x (k := 540) rfl hm) (hI.x (k := 541) rfl hB) (fun j => ⟨by have := hBb j; omega, by have := hBb j; omega⟩) ⟨by omega, by omega⟩) rfl rfl ?_
      rintro _ _ _ ⟨hr, rfl, rfl⟩
      obtain ⟨v1, rfl, v1a, v1b, v1c⟩ := is01 hr
      refine y_if_eq kX7_draw rfl rfl (fun c2 => ?_) (fun c2 => ?_)
      · refine y_run kX7_draw rfl ?_
        exact ih _ _ _ (by omega) (by omega) (by omega) (by omega) (by omega) hI
      · refine y_run kX7_draw rfl ?_
        exact ih _ _ _ (by omega) (by omega) (by omega) (by omega) (by omega) hI
theorem w_mdraw {b : Nat} {g : yH} {i0 i1 i2 i3 i4 i5 i6 : Int} {B J : Nat → Int} (hf : RF b g B J i0 i1 i2 i3 i4 i5 i6)  (hI : MI b g h) : YM l G mX7_draw 4 0 0 [vr (b + 540)] h n (PGz b g n B J 24 128) := by
  refine YM.of kX7_draw (Nat.le_of_ble_eq_true rfl) (L0 := [some (vr (b + 540)), none, none, none, none, none]) rfl ?_
  obtain ⟨hm, hB, hJ, hBb, hBs, hBc, hJb, hi1, hi2, hi3, hi4⟩ := id hf
  have hs := SM.r b g
  refine y_run kX7_draw rfl ?_
  refine y_cv kX7_draw kX7_begin 0 rfl (hI.x (k := 540) rfl hm) (by decide +kernel) (w_begin hf hI) rfl rfl ?_
  rintro _ h _ ⟨rfl, hI, rfl⟩
  refine y_run kX7_draw rfl ?_
  refine m_pM21 kX7_draw hI hf hs (fun g h hs hf hI => ?_)
  obtain ⟨hm, hB, hJ, hBb, hBs, hBc, hJb, hi1, hi2, hi3, hi4⟩ := id hf
  refine y_run kX7_draw rfl ?_
  exact s_draw1 hf (fun a u2 h y1 y2 hI => by
    refine y_run kX7_draw rfl ?_
    exact s_draw2 (x := a) (by omega) (by omega) _ a 0 _ _ _ _ _ _ _ _ _ _ _ (Nat.lt_succ_self _) (by omega) (by omega) (by omega) (by omega) (by omega) (by omega) hs hf hI) _ 0 0 _ (Nat.lt_succ_self _) (by omega) (by omega) (by omega) (by omega) hI
end C68
