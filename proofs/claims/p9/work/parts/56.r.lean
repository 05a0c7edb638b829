/-- all else is as it was -/
def SM (b : Nat) (g g' : yH) : Prop := ∀ q, q ≠ b + 540 → g' q = g q
theorem SM.r (b : Nat) (g : yH) : SM b g g := fun _ _ => rfl
theorem SM.t {b : Nat} {g g' g'' : yH} (h1 : SM b g g') (h2 : SM b g' g'') : SM b g g'' := fun q hq => (h2 q hq).trans (h1 q hq)
theorem SM.up {b : Nat} {g g' : yH} (h1 : SM b g g') (e : yE) : SM b g (yup g' (b + 540) e) := fun q hq => (yup_ne _ _ hq).trans (h1 q hq)
theorem RF.put {b : Nat} {g : yH} {i0 i1 i2 i3 i4 i5 i6 : Int} {B J : Nat → Int} (hf : RF b g B J i0 i1 i2 i3 i4 i5 i6) {k0 k1 k2 k3 k4 k5 k6 : Int} (h1 : 0 ≤ k0) (h2 : k0 ≤ 96) (h3 : -2147483648 ≤ k5) (h4 : k5 ≤ 2147483647) : RF b (yup g (b + 540) (mo (b + 540) k0 k1 k2 k3 k4 k5 k6)) B J k0 k1 k2 k3 k4 k5 k6 := by
  obtain ⟨hm, hB, hJ, hBb, hBs, hBc, hJb, hi1, hi2, hi3, hi4⟩ := hf
  exact ⟨yup_eq _ _ _, (yup_ne _ _ (by omega)).trans hB, (yup_ne _ _ (by omega)).trans hJ, hBb, hBs, hBc, hJb, h1, h2, h3, h4⟩
def PGv (b : Nat) (g0 : yH) (n : Nat) (B J : Nat → Int) (lo hi : Int) : Option xV → yH → Nat → Prop := fun r h' n' => ∃ (g' : yH) (i0 i1 i2 i3 i4 i5 i6 : Int), r = none ∧ SM b g0 g' ∧ RF b g' B J i0 i1 i2 i3 i4 i5 i6 ∧ lo ≤ i6 ∧ i6 ≤ hi ∧ MI b g' h' ∧ n' = n
def PGw (b : Nat) (g0 : yH) (n : Nat) (B J : Nat → Int) (i0 lo hi : Int) : Option xV → yH → Nat → Prop := fun r h' n' => ∃ (g' : yH) (i1 i2 i3 i4 i5 i6 : Int), r = none ∧ SM b g0 g' ∧ RF b g' B J i0 i1 i2 i3 i4 i5 i6 ∧ lo ≤ i6 ∧ i6 ≤ hi ∧ MI b g' h' ∧ n' = n
def PGz (b : Nat) (g0 : yH) (n : Nat) (B J : Nat → Int) (lo hi : Int) : Option xV → yH → Nat → Prop := fun r h' n' => ∃ (g' : yH) (i0 i1 i2 i3 i4 i5 i6 : Int), (∃ v, r = some (vi v)) ∧ SM b g0 g' ∧ RF b g' B J i0 i1 i2 i3 i4 i5 i6 ∧ lo ≤ i6 ∧ i6 ≤ hi ∧ MI b g' h' ∧ n' = n
section C66
variable {l : Launch} {G : xG} {M : xM} {d kc ks : Nat} {Φ : Option xV → yH → Nat → Prop} {h : yH} {n : Nat} {pc : Nat} {L : List (Option xV)} {st : List xV} {b : Nat} {g g0 : yH} {i0 i1 i2 i3 i4 i5 i6 : Int} {B J : Nat → Int}
theorem m_pM10 (hM : xOK M) {idx a : Nat} {v : Int} (hI : MI b g h) (hf : RF b g B J i0 i1 i2 i3 i4 i5 i6) (hs : SM b g0 g) (kk : ∀ g' h', SM b g0 g' → RF b g' B J v i1 i2 i3 i4 i5 i6 → MI b g' h' → YW l G M d kc ks Φ (pc + 3) L st h' n) (y1 : 0 ≤ v) (y2 : v ≤ 96) (hd : xat M pc = some (.putfield idx, 3) := by rfl) (hl : M.2.2.2.2.2.2.lookup idx = some (7, 10) := by rfl) (ha : a = b + 540 := by rfl) : YW l G M d kc ks Φ pc L (vi v :: vr a :: st) h n := by
  obtain ⟨hm, hB, hJ, hBb, hBs, hBc, hJb, hi1, hi2, hi3, hi4⟩ := id hf
  exact m_put (j := 10) hM 540 hI hm (fun h' hI' => kk (yup g (b + 540) (mo (b + 540) v i1 i2 i3 i4 i5 i6)) h' (hs.up _) (hf.put y1 y2 hi3 hi4) hI') rfl hd hl rfl rfl rfl (Nat.le_of_ble_eq_true rfl) ha
theorem m_pM11 (hM : xOK M) {idx a : Nat} {v : Int} (hI : MI b g h) (hf : RF b g B J i0 i1 i2 i3 i4 i5 i6) (hs : SM b g0 g) (kk : ∀ g' h', SM b g0 g' → RF b g' B J i0 v i2 i3 i4 i5 i6 → MI b g' h' → YW l G M d kc ks Φ (pc + 3) L st h' n) (hd : xat M pc = some (.putfield idx, 3) := by rfl) (hl : M.2.2.2.2.2.2.lookup idx = some (7, 11) := by rfl) (ha : a = b + 540 := by rfl) : YW l G M d kc ks Φ pc L (vi v :: vr a :: st) h n := by
  obtain ⟨hm, hB, hJ, hBb, hBs, hBc, hJb, hi1, hi2, hi3, hi4⟩ := id hf
  exact m_put (j := 11) hM 540 hI hm (fun h' hI' => kk (yup g (b + 540) (mo (b + 540) i0 v i2 i3 i4 i5 i6)) h' (hs.up _) (hf.put hi1 hi2 hi3 hi4) hI') rfl hd hl rfl rfl rfl (Nat.le_of_ble_eq_true rfl) ha
theorem m_pM12 (hM : xOK M) {idx a : Nat} {v : Int} (hI : MI b g h) (hf : RF b g B J i0 i1 i2 i3 i4 i5 i6) (hs : SM b g0 g) (kk : ∀ g' h', SM b g0 g' → RF b g' B J i0 i1 v i3 i4 i5 i6 → MI b g' h' → YW l G M d kc ks Φ (pc + 3) L st h' n) (hd : xat M pc = some (.putfield idx, 3) := by rfl) (hl : M.2.2.2.2.2.2.lookup idx = some (7, 12) := by rfl) (ha : a = b + 540 := by rfl) : YW l G M d kc ks Φ pc L (vi v :: vr a :: st) h n := by
  obtain ⟨hm, hB, hJ, hBb, hBs, hBc, hJb, hi1, hi2, hi3, hi4⟩ := id hf
  exact m_put (j := 12) hM 540 hI hm (fun h' hI' => kk (yup g (b + 540) (mo (b + 540) i0 i1 v i3 i4 i5 i6)) h' (hs.up _) (hf.put hi1 hi2 hi3 hi4) hI') rfl hd hl rfl rfl rfl (Nat.le_of_ble_eq_true rfl) ha
theorem m_pM13 (hM : xOK M) {idx a : Nat} {v : Int} (hI : MI b g h) (hf : RF b g B J i0 i1 i2 i3 i4 i5 i6) (hs : SM b g0 g) (kk : ∀ g' h', SM b g0 g' → RF b g' B J i0 i1 i2 v i4 i5 i6 → MI b g' h' → YW l G M d kc ks Φ (pc + 3) L st h' n) (hd : xat M pc = some (.putfield idx, 3) := by rfl) (hl : M.2.2.2.2.2.2.lookup idx = some (7, 13) := by rfl) (ha : a = b + 540 := by rfl) : YW l G M d kc ks Φ pc L (vi v :: vr a :: st) h n := by
  obtain ⟨hm, hB, hJ, hBb, hBs, hBc, hJb, hi1, hi2, hi3, hi4⟩ := id hf
  exact m_put (j := 13) hM 540 hI hm (fun h' hI' => kk (yup g (b + 540) (mo (b + 540) i0 i1 i2 v i4 i5 i6)) h' (hs.up _) (hf.put hi1 hi2 hi3 hi4) hI') rfl hd hl rfl rfl rfl (Nat.le_of_ble_eq_true rfl) ha
theorem m_pM14 (hM : xOK M) {idx a : Nat} {v : Int} (hI : MI b g h) (hf : RF b g B J i0 i1 i2 i3 i4 i5 i6) (hs : SM b g0 g) (kk : ∀ g' h', SM b g0 g' → RF b g' B J i0 i1 i2 i3 v i5 i6 → MI b g' h' → YW l G M d kc ks Φ (pc + 3) L st h' n) (hd : xat M pc = some (.putfield idx, 3) := by rfl) (hl : M.2.2.2.2.2.2.lookup idx = some (7, 14) := by rfl) (ha : a = b + 540 := by rfl) : YW l G M d kc ks Φ pc L (vi v :: vr a :: st) h n := by
  obtain ⟨hm, hB, hJ, hBb, hBs, hBc, hJb, hi1, hi2, hi3, hi4⟩ := id hf
  exact m_put (j := 14) hM 540 hI hm (fun h' hI' => kk (yup g (b + 540) (mo (b + 540) i0 i1 i2 i3 v i5 i6)) h' (hs.up _) (hf.put hi1 hi2 hi3 hi4) hI') rfl hd hl rfl rfl rfl (Nat.le_of_ble_eq_true rfl) ha
theorem m_pM15 (hM : xOK M) {idx a : Nat} {v : Int} (hI : MI b g h) (hf : RF b g B J i0 i1 i2 i3 i4 i5 i6) (hs : SM b g0 g) (kk : ∀ g' h', SM b g0 g' → RF b g' B J i0 i1 i2 i3 i4 v i6 → MI b g' h' → YW l G M d kc ks Φ (pc + 3) L st h' n) (y1 : -2147483648 ≤ v) (y2 : v ≤ 2147483647) (hd : xat M pc = some (.putfield idx, 3) := by rfl) (hl : M.2.2.2.2.2.2.lookup idx = some (7, 15) := by rfl) (ha : a = b + 540 := by rfl) : YW l G M d kc ks Φ pc L (vi v :: vr a :: st) h n := by
  obtain ⟨hm, hB, hJ, hBb, hBs, hBc, hJb, hi1, hi2, hi3, hi4⟩ := id hf
  exact m_put (j := 15) hM 540 hI hm (fun h' hI' => kk (yup g (b + 540) (mo (b + 540) i0 i1 i2 i3 i4 v i6)) h' (hs.up _) (hf.put hi1 hi2 y1 y2) hI') rfl hd hl rfl rfl rfl (Nat.le_of_ble_eq_true rfl) ha
theorem m_pM21 (hM : xOK M) {idx a : Nat} {v : Int} (hI : MI b g h) (hf : RF b g B J i0 i1 i2 i3 i4 i5 i6) (hs : SM b g0 g) (kk : ∀ g' h', SM b g0 g' → RF b g' B J i0 i1 i2 i3 i4 i5 v → MI b g' h' → YW l G M d kc ks Φ (pc + 3) L st h' n) (hd : xat M pc = some (.putfield idx, 3) := by rfl) (hl : M.2.2.2.2.2.2.lookup idx = some (7, 21) := by rfl) (ha : a = b + 540 := by rfl) : YW l G M d kc ks Φ pc L (vi v :: vr a :: st) h n := by
  obtain ⟨hm, hB, hJ, hBb, hBs, hBc, hJb, hi1, hi2, hi3, hi4⟩ := id hf
  exact m_put (j := 21) hM 540 hI hm (fun h' hI' => kk (yup g (b + 540) (mo (b + 540) i0 i1 i2 i3 i4 i5 v)) h' (hs.up _) (hf.put hi1 hi2 hi3 hi4) hI') rfl hd hl rfl rfl rfl (Nat.le_of_ble_eq_true rfl) ha
end C66
section C67
variable {l : Launch} {G : xG} {h : yH} {n : Nat}
theorem s_paint2 {b : Nat} {g : yH} {i0 i1 i2 i3 i4 i5 i6 : Int} {B J : Nat → Int} (hf : RF b g B J i0 i1 i2 i3 i4 i5 i6) {Φ : Option xV → yH → Nat → Prop} {p : Int} (p1 : 0 ≤ p) (p2 : p < 8192) (kk : ∀ (x : Int) (c : Int) (u4 : Option xV) (u5 : Option xV) (u6 : Option xV) (h : yH), 0 ≤ x → x ≤ 128 → -1 ≤ c → c ≤ 100000 → MI b g h → YW l G mX7_paintAll 3 0 0 (Φ) 157 [some (vr (b + 540)), some (vi p), some (vi x), some (vi c), u4, u5, u6] [] h n) : ∀ (m : Nat) (q : Int) (x : Int) (c : Int) (u5 : Option xV) (u6 : Option xV) (h : yH), (24 - q).toNat < m → 0 ≤ q → q ≤ 24 → 0 ≤ x → x ≤ 128 → -1 ≤ c → c ≤ 100000 → MI b g h → YW l G mX7_paintAll 3 0 0 (Φ) 45 [some (vr (b + 540)), some (vi p), some (vi x), some (vi c), some (vi q), u5, u6] [] h n := by
  intro m
  induction m with
  | zero => intro q x c u5 u6 h hm; exact absurd hm (Nat.not_lt_zero _)
  | succ m ih =>
    intro q x c u5 u6 h hmm j0 j1 j2 j3 j4 j5 hI
    obtain ⟨hm, hB, hJ, hBb, hBs, hBc, hJb, hi1, hi2, hi3, hi4⟩ := id hf
    refine y_run kX7_paintAll rfl ?_
    refine y_ic_ge kX7_paintAll rfl rfl (fun c1 => ?_) (fun c1 => ?_)
    · exact kk _ _ _ _ _ _ (by omega) (by omega) (by omega) (by omega) hI
    · refine y_run kX7_paintAll rfl ?_
      refine y_cv kX7_paintAll kX7_exitOf 2 rfl (hI.x (k := 540) rfl hm) (by decide +kernel) (c_mexitOf hf ⟨by omega, by omega⟩ (by omega) (by omega) hI) rfl rfl ?_
      rintro _ _ _ ⟨rfl, rfl, rfl⟩
      obtain ⟨v1a, v1b, v1c⟩ := mexO_b hBb _ _
      revert v1a v1b v1c
      generalize mexO B _ _ = v1
      intro v1a v1b v1c
      refine y_run kX7_paintAll rfl ?_
      refine y_if_le kX7_paintAll rfl rfl (fun c2 => ?_) (fun c2 => ?_)
      · refine y_run kX7_paintAll rfl ?_
        refine y_if_ne kX7_paintAll rfl rfl (fun c3 => absurd c3 (by omega)) (fun c3 => ?_)
        refine y_run kX7_paintAll rfl ?_
        exact ih _ _ _ _ _ _ (by omega) (by omega) (by omega) (by omega) (by omega) (by omega) (by omega) hI
      · refine y_run kX7_paintAll rfl ?_
        refine y_cv kX7_paintAll kX7_inkOf 3 rfl (hI.x (k := 540) rfl hm) (by decide +kernel) (w_inkOf hf (by omega) (by omega) (by omega) (by omega) (by omega) (by omega) (by omega) (by omega) hI) rfl rfl ?_
        rintro _ h _ ⟨v2, rfl, v2a, v2b, hI, rfl⟩
        refine y_run kX7_paintAll rfl ?_
        refine y_if_ne kX7_paintAll rfl rfl (fun c4 => ?_) (fun c4 => ?_)
        · refine y_run kX7_paintAll rfl ?_
          refine m_get kX7_paintAll (540) hI hm ?_
          refine y_run kX7_paintAll rfl ?_
          refine m_ia kX7_paintAll (553) hI rfl (fun v3 v3a v3b => ?_)
          refine y_run kX7_paintAll rfl ?_
          refine m_isn kX7_paintAll (553) hI rfl (fun h hI => ?_)
          refine y_run kX7_paintAll rfl ?_
          refine y_ic_ge kX7_paintAll rfl rfl (fun c5 => ?_) (fun c5 => ?_)
          · refine y_run kX7_paintAll rfl ?_
            refine y_cv kX7_paintAll kX7_faceOf 3 rfl (hI.x (k := 540) rfl hm) (by decide +kernel) (w_faceOf hf (by omega) (by omega) (by omega) (by omega) (by omega) (by omega) hI) rfl rfl ?_
            rintro _ h _ ⟨v4, rfl, v4a, v4b, hI, rfl⟩
            refine y_run kX7_paintAll rfl ?_
            refine m_get kX7_paintAll (540) hI hm ?_
            refine y_run kX7_paintAll rfl ?_
            refine m_ix kX7_paintAll (hI.x (k := 541) rfl hB) hBb (fun s se sa sb => ?_)
            have s8 : s < 16 := by
              rw [se]
              exact hBc q (by omega) (by omega)
            refine y_run kX7_paintAll rfl ?_
            exact ih _ _ _ _ _ _ (by omega) (by omega) (by omega) (by omega) (by omega) (by omega) (by omega) hI
          · refine y_run kX7_paintAll rfl ?_
            exact ih _ _ _ _ _ _ (by omega) (by omega) (by omega) (by omega) (by omega) (by omega) (by omega) hI
        · refine y_run kX7_paintAll rfl ?_
          exact ih _ _ _ _ _ _ (by omega) (by omega) (by omega) (by omega) (by omega) (by omega) (by omega) hI
theorem s_paint1 {b : Nat} {g0 : yH} {i0 i1 i2 i5 i6 : Int} {B J : Nat → Int} {k6 : Int} : ∀ (m : Nat) (q : Int) (g : yH) (i3 : Int) (i4 : Int) (u2 : Option xV) (u3 : Option xV) (u4 : Option xV) (u5 : Option xV) (u6 : Option xV) (h : yH), (8192 - q).toNat < m → 0 ≤ q → q ≤ 8192 → i6 = k6 → SM b g0 g → RF b g B J i0 i1 i2 i3 i4 i5 i6 → MI b g h → YW l G mX7_paintAll 3 0 0 (PGw b g0 n B J i0 k6 k6) 12 [some (vr (b + 540)), some (vi q), u2, u3, u4, u5, u6] [] h n := by
  intro m
  induction m with
  | zero => intro q g i3 i4 u2 u3 u4 u5 u6 h hm; exact absurd hm (Nat.not_lt_zero _)
  | succ m ih =>
    intro q g i3 i4 u2 u3 u4 u5 u6 h hmm j0 j1 j2 hs hf hI
    obtain ⟨hm, hB, hJ, hBb, hBs, hBc, hJb, hi1, hi2, hi3, hi4⟩ := id hf
    refine y_run kX7_paintAll rfl ?_
    refine y_ic_ge kX7_paintAll rfl rfl (fun c1 => ?_) (fun c1 => ?_)
    · exact y_vr kX7_paintAll rfl rfl ⟨_, _, _, _, _, _, _, rfl, hs, hf, by omega, by omega, hI, rfl⟩
    · refine y_run kX7_paintAll rfl ?_
      refine m_get kX7_paintAll (540) hI hm ?_
      refine y_run kX7_paintAll rfl ?_
      refine m_get kX7_paintAll (540) hI hm ?_
      refine y_run kX7_paintAll rfl ?_
      refine m_ia kX7_paintAll (551) hI rfl (fun v1 v1a v1b => ?_)
      refine m_is kX7_paintAll (552) hI rfl (fun h hI => ?_)
      refine y_run kX7_paintAll rfl ?_
      refine m_get kX7_paintAll (540) hI hm ?_
      refine y_run kX7_paintAll rfl ?_
      refine m_isn kX7_paintAll (553) hI rfl (fun h hI => ?_)
      refine y_run kX7_paintAll rfl ?_
      exact s_paint2 hf (by omega) (by omega) (fun x c u4 u5 u6 h y1 y2 y3 y4 hI => by
        refine y_run kX7_paintAll rfl ?_
        refine m_get kX7_paintAll (540) hI hm ?_
        refine y_run kX7_paintAll rfl ?_
        refine m_is kX7_paintAll (551) hI rfl (fun h hI => ?_)
        refine y_run kX7_paintAll rfl ?_
        refine m_get kX7_paintAll (540) hI hm ?_
        refine y_run kX7_paintAll rfl ?_
        refine y_ic_ne kX7_paintAll rfl rfl (fun c1 => ?_) (fun c1 => ?_)
        · refine y_run kX7_paintAll rfl ?_
          refine m_pM13 kX7_paintAll hI hf hs (fun g h hs hf hI => ?_)
          obtain ⟨hm, hB, hJ, hBb, hBs, hBc, hJb, hi1, hi2, hi3, hi4⟩ := id hf
          refine y_run kX7_paintAll rfl ?_
          refine m_get kX7_paintAll (540) hI hm ?_
          refine y_run kX7_paintAll rfl ?_
          refine m_get kX7_paintAll (540) hI hm ?_
          refine y_run kX7_paintAll rfl ?_
          refine m_ia kX7_paintAll (553) hI rfl (fun v1 v1a v1b => ?_)
          refine y_run kX7_paintAll rfl ?_
          refine m_pM14 kX7_paintAll hI hf hs (fun g h hs hf hI => ?_)
          obtain ⟨hm, hB, hJ, hBb, hBs, hBc, hJb, hi1, hi2, hi3, hi4⟩ := id hf
          refine y_run kX7_paintAll rfl ?_
          exact ih _ _ _ _ _ _ _ _ _ _ (by omega) (by omega) (by omega) (by omega) hs hf hI
        · refine y_run kX7_paintAll rfl ?_
          refine m_pM13 kX7_paintAll hI hf hs (fun g h hs hf hI => ?_)
          obtain ⟨hm, hB, hJ, hBb, hBs, hBc, hJb, hi1, hi2, hi3, hi4⟩ := id hf
          refine y_run kX7_paintAll rfl ?_
          refine m_get kX7_paintAll (540) hI hm ?_
          refine y_run kX7_paintAll rfl ?_
          refine m_get kX7_paintAll (540) hI hm ?_
          refine y_run kX7_paintAll rfl ?_
          refine m_ia kX7_paintAll (553) hI rfl (fun v2 v2a v2b => ?_)
          refine y_run kX7_paintAll rfl ?_
          refine m_pM14 kX7_paintAll hI hf hs (fun g h hs hf hI => ?_)
          obtain ⟨hm, hB, hJ, hBb, hBs, hBc, hJb, hi1, hi2, hi3, hi4⟩ := id hf
          refine y_run kX7_paintAll rfl ?_
          exact ih _ _ _ _ _ _ _ _ _ _ (by omega) (by omega) (by omega) (by omega) hs hf hI) _ 0 0 (-1) _ _ _ (Nat.lt_succ_self _) (by omega) (by omega) (by omega) (by omega) (by omega) (by omega) hI
theorem w_paintAll {b : Nat} {g : yH} {i0 i1 i2 i3 i4 i5 i6 : Int} {B J : Nat → Int} (hf : RF b g B J i0 i1 i2 i3 i4 i5 i6)  (hI : MI b g h) : YM l G mX7_paintAll 3 0 0 [vr (b + 540)] h n (PGw b g n B J i0 i6 i6) := by
  refine YM.of kX7_paintAll (Nat.le_of_ble_eq_true rfl) (L0 := [some (vr (b + 540)), none, none, none, none, none, none]) rfl ?_
  obtain ⟨hm, hB, hJ, hBb, hBs, hBc, hJb, hi1, hi2, hi3, hi4⟩ := id hf
  have hs := SM.r b g
  refine y_run kX7_paintAll rfl ?_
  refine m_pM13 kX7_paintAll hI hf hs (fun g h hs hf hI => ?_)
  obtain ⟨hm, hB, hJ, hBb, hBs, hBc, hJb, hi1, hi2, hi3, hi4⟩ := id hf
  refine y_run kX7_paintAll rfl ?_
  refine m_pM14 kX7_paintAll hI hf hs (fun g h hs hf hI => ?_)
  obtain ⟨hm, hB, hJ, hBb, hBs, hBc, hJb, hi1, hi2, hi3, hi4⟩ := id hf
  refine y_run kX7_paintAll rfl ?_
  exact s_paint1 _ 0 _ _ _ _ _ _ _ _ _ (Nat.lt_succ_self _) (by omega) (by omega) rfl hs hf hI
theorem s_cut4 {b : Nat} {g : yH} {i0 i1 i2 i3 i4 i5 i6 : Int} {B J : Nat → Int} (hf : RF b g B J i0 i1 i2 i3 i4 i5 i6) {Φ : Option xV → yH → Nat → Prop} {p x v y : Int} (p1 : 0 ≤ p) (p2 : p < 128) (y1 : 0 ≤ y) (y2 : y < 128) (kk : ∀ (u5 : Option xV) (h : yH), MI b g h → YW l G mX7_cut 3 0 0 (Φ) 178 [some (vr (b + 540)), some (vi p), some (vi x), some (vi v), some (vi y), u5] [] h n) : ∀ (m : Nat) (q : Int) (h : yH), (128 - q).toNat < m → 0 ≤ q → q ≤ 128 → MI b g h → YW l G mX7_cut 3 0 0 (Φ) 136 [some (vr (b + 540)), some (vi p), some (vi x), some (vi v), some (vi y), some (vi q)] [] h n := by
  intro m
  induction m with
  | zero => intro q h hm; exact absurd hm (Nat.not_lt_zero _)
  | succ m ih =>
    intro q h hmm j0 j1 hI
    obtain ⟨hm, hB, hJ, hBb, hBs, hBc, hJb, hi1, hi2, hi3, hi4⟩ := id hf
    refine y_run kX7_cut rfl ?_
    refine y_ic_ge kX7_cut rfl rfl (fun c1 => ?_) (fun c1 => ?_)
    · exact kk _ _  hI
    · refine y_run kX7_cut rfl ?_
      refine m_get kX7_cut (540) hI hm ?_
      refine y_run kX7_cut rfl ?_
      refine m_zs kX7_cut (546) hI rfl (fun h hI => ?_)
      refine y_run kX7_cut rfl ?_
      refine m_get kX7_cut (540) hI hm ?_
      refine y_run kX7_cut rfl ?_
      refine m_zs kX7_cut (546) hI rfl (fun h hI => ?_)
      refine y_run kX7_cut rfl ?_
      exact ih _ _ (by omega) (by omega) (by omega) hI
theorem s_cut3 {b : Nat} {g : yH} {i0 i1 i2 i3 i4 i5 i6 : Int} {B J : Nat → Int} (hf : RF b g B J i0 i1 i2 i3 i4 i5 i6) {Φ : Option xV → yH → Nat → Prop} {p x v y : Int} (p1 : 0 ≤ p) (p2 : p < 128) (y1 : 0 ≤ y) (y2 : y < 128) (kk : ∀ (u5 : Option xV) (h : yH), MI b g h → YW l G mX7_cut 3 0 0 (Φ) 100 [some (vr (b + 540)), some (vi p), some (vi x), some (vi v), some (vi y), u5] [] h n) : ∀ (m : Nat) (q : Int) (h : yH), (8 - q).toNat < m → 0 ≤ q → q ≤ 8 → MI b g h → YW l G mX7_cut 3 0 0 (Φ) 62 [some (vr (b + 540)), some (vi p), some (vi x), some (vi v), some (vi y), some (vi q)] [] h n := by
  intro m
  induction m with
  | zero => intro q h hm; exact absurd hm (Nat.not_lt_zero _)
  | succ m ih =>
    intro q h hmm j0 j1 hI
    obtain ⟨hm, hB, hJ, hBb, hBs, hBc, hJb, hi1, hi2, hi3, hi4⟩ := id hf
    refine y_run kX7_cut rfl ?_
    refine y_ic_ge kX7_cut rfl rfl (fun c1 => ?_) (fun c1 => ?_)
    · exact kk _ _  hI
    · refine y_run kX7_cut rfl ?_
      refine m_get kX7_cut (540) hI hm ?_
      refine y_run kX7_cut rfl ?_
      refine m_get kX7_cut (540) hI hm ?_
      refine y_run kX7_cut rfl ?_
      refine m_ia kX7_cut (545) hI rfl (fun v1 v1a v1b => ?_)
      refine m_is kX7_cut (545) hI rfl (fun h hI => ?_)
      refine y_run kX7_cut rfl ?_
      exact ih _ _ (by omega) (by omega) (by omega) hI
theorem s_cut2 {b : Nat} {g : yH} {i0 i1 i2 i3 i4 i5 i6 : Int} {B J : Nat → Int} (hf : RF b g B J i0 i1 i2 i3 i4 i5 i6) (k1 : 0 ≤ i6) (k2 : i6 < 128) {p : Int} (p1 : 0 ≤ p) (p2 : p < 128) (kk : ∀ (u2 : Option xV) (u3 : Option xV) (u4 : Option xV) (u5 : Option xV) (h : yH), MI b g h → YW l G mX7_cut 3 0 0 (PGv b g n B J i6 (i6 + 1)) 192 [some (vr (b + 540)), some (vi p), u2, u3, u4, u5] [] h n) : ∀ (m : Nat) (q : Int) (u3 : Option xV) (u4 : Option xV) (u5 : Option xV) (h : yH), (3 - q).toNat < m → 0 ≤ q → q ≤ 3 → MI b g h → YW l G mX7_cut 3 0 0 (PGv b g n B J i6 (i6 + 1)) 15 [some (vr (b + 540)), some (vi p), some (vi q), u3, u4, u5] [] h n := by
  intro m
  induction m with
  | zero => intro q u3 u4 u5 h hm; exact absurd hm (Nat.not_lt_zero _)
  | succ m ih =>
    intro q u3 u4 u5 h hmm j0 j1 hI
    obtain ⟨hm, hB, hJ, hBb, hBs, hBc, hJb, hi1, hi2, hi3, hi4⟩ := id hf
    have hs := SM.r b g
    refine y_run kX7_cut rfl ?_
    refine y_ic_ge kX7_cut rfl rfl (fun c1 => ?_) (fun c1 => ?_)
    · exact kk _ _ _ _ _  hI
    · refine y_run kX7_cut rfl ?_
      refine y_cv kX7_cut kX7_isLeft 1 rfl (hI.x (k := 540) rfl hm) (by decide +kernel) (w_isLeft hf (by omega) (by omega) hI) rfl rfl ?_
      rintro _ h _ ⟨v1, rfl, v1a, v1b, hI, rfl⟩
      refine y_if_eq kX7_cut rfl rfl (fun c2 => ?_) (fun c2 => ?_)
      · exact kk _ _ _ _ _  hI
      · refine y_run kX7_cut rfl ?_
        refine y_cv kX7_cut kX7_plane 2 rfl (hI.x (k := 540) rfl hm) (by decide +kernel) (w_plane hf (by omega) (by omega) (by omega) (by omega) hI) rfl rfl ?_
        rintro _ h _ ⟨v2, rfl, v2a, v2b, hI, rfl⟩
        refine y_run kX7_cut rfl ?_
        refine y_ic_ne kX7_cut rfl rfl (fun c3 => ?_) (fun c3 => ?_)
        · refine y_run kX7_cut rfl ?_
          refine m_get kX7_cut (540) hI hm ?_
          refine y_run kX7_cut rfl ?_
          refine m_get kX7_cut (540) hI hm ?_
          refine y_run kX7_cut rfl ?_
          refine m_pM21 kX7_cut hI hf hs (fun g h hs hf hI => ?_)
          obtain ⟨hm, hB, hJ, hBb, hBs, hBc, hJb, hi1, hi2, hi3, hi4⟩ := id hf
          refine y_run kX7_cut rfl ?_
          exact s_cut3 hf (p := p) (by omega) (by omega) (by omega) (by omega) (fun u5 h hI => by
            refine y_run kX7_cut rfl ?_
            refine m_get kX7_cut (540) hI hm ?_
            refine y_run kX7_cut rfl ?_
            refine m_is kX7_cut (545) hI rfl (fun h hI => ?_)
            refine y_run kX7_cut rfl ?_
            refine m_get kX7_cut (540) hI hm ?_
            refine y_run kX7_cut rfl ?_
            refine m_is kX7_cut (545) hI rfl (fun h hI => ?_)
            refine y_run kX7_cut rfl ?_
            exact s_cut4 hf (p := p) (by omega) (by omega) (by omega) (by omega) (fun u5 h hI => by
              refine y_run kX7_cut rfl ?_
              refine y_cv kX7_cut kX7_gather 2 rfl (hI.x (k := 540) rfl hm) (by decide +kernel) (w_gather hf (by omega) (by omega) (by omega) hI) rfl rfl ?_
              rintro _ h _ ⟨rfl, hI, rfl⟩
              exact y_vr kX7_cut rfl rfl ⟨_, _, _, _, _, _, _, _, rfl, hs, hf, by omega, by omega, hI, rfl⟩) _ 0 _ (Nat.lt_succ_self _) (by omega) (by omega) hI) _ 0 _ (Nat.lt_succ_self _) (by omega) (by omega) hI
        · refine y_run kX7_cut rfl ?_
          exact ih _ _ _ _ _ (by omega) (by omega) (by omega) hI
theorem s_cut1 {b : Nat} {g : yH} {i0 i1 i2 i3 i4 i5 i6 : Int} {B J : Nat → Int} (hf : RF b g B J i0 i1 i2 i3 i4 i5 i6) (k1 : 0 ≤ i6) (k2 : i6 < 128) : ∀ (m : Nat) (p : Int) (u2 : Option xV) (u3 : Option xV) (u4 : Option xV) (u5 : Option xV) (h : yH), (128 - p).toNat < m → 0 ≤ p → p ≤ 128 → MI b g h → YW l G mX7_cut 3 0 0 (PGv b g n B J i6 (i6 + 1)) 6 [some (vr (b + 540)), some (vi p), u2, u3, u4, u5] [] h n := by
  intro m
  induction m with
  | zero => intro p u2 u3 u4 u5 h hm; exact absurd hm (Nat.not_lt_zero _)
  | succ m ih =>
    intro p u2 u3 u4 u5 h hmm j0 j1 hI
    obtain ⟨hm, hB, hJ, hBb, hBs, hBc, hJb, hi1, hi2, hi3, hi4⟩ := id hf
    have hs := SM.r b g
    refine y_run kX7_cut rfl ?_
    refine y_ic_ge kX7_cut rfl rfl (fun c1 => ?_) (fun c1 => ?_)
    · exact y_vr kX7_cut rfl rfl ⟨_, _, _, _, _, _, _, _, rfl, hs, hf, by omega, by omega, hI, rfl⟩
    · refine y_run kX7_cut rfl ?_
      exact s_cut2 hf k1 k2 (by omega) (by omega) (fun u2 u3 u4 u5 h hI => by
        refine y_run kX7_cut rfl ?_
        exact ih _ _ _ _ _ _ (by omega) (by omega) (by omega) hI) _ 0 _ _ _ _ (Nat.lt_succ_self _) (by omega) (by omega) hI
theorem w_cut {b : Nat} {g : yH} {i0 i1 i2 i3 i4 i5 i6 : Int} {B J : Nat → Int} (hf : RF b g B J i0 i1 i2 i3 i4 i5 i6) (k1 : 0 ≤ i6) (k2 : i6 < 128) (hI : MI b g h) : YM l G mX7_cut 3 0 0 [vr (b + 540)] h n (PGv b g n B J i6 (i6 + 1)) := by
  refine YM.of kX7_cut (Nat.le_of_ble_eq_true rfl) (L0 := [some (vr (b + 540)), none, none, none, none, none]) rfl ?_
  obtain ⟨hm, hB, hJ, hBb, hBs, hBc, hJb, hi1, hi2, hi3, hi4⟩ := id hf
  refine y_run kX7_cut rfl ?_
  refine y_cv kX7_cut kX7_close 0 rfl (hI.x (k := 540) rfl hm) (by decide +kernel) (w_close hf hI) rfl rfl ?_
  rintro _ h _ ⟨rfl, hI, rfl⟩
  refine y_run kX7_cut rfl ?_
  exact s_cut1 hf k1 k2 _ 0 _ _ _ _ _ (Nat.lt_succ_self _) (by omega) (by omega) hI
end C67
