section C80ze
variable {l : Launch} {G : xG} {h h0 : yH} {n : Nat} {b o ce1 ce2 : Nat} {g : yH} {t pw la aa cc xx : Int} {E K R T P W F F0 : Nat → Int}
theorem MI.frk {k : Nat} {c : Nat × Nat × Int × Int} {h2 : yH} (hI : MI b g h) (hk : rTb k = some c) (hx : pcE c = true → g (b + k) = none) (ho : okc c (h2 (b + k))) (fr : ∀ q, q ≠ b + k → h2 q = h q) : MI b g h2 := by
  refine ⟨fun j c' hj => ?_, fun q hq => ?_⟩
  · by_cases e : j = k
    · subst e
      rw [hk] at hj
      cases hj
      exact ⟨ho, fun y1 y2 => absurd (hx y1) y2⟩
    · rw [fr _ (by omega)]
      exact hI.1 j c' hj
  · have : q ≠ b + k := fun e => by rw [hq k e] at hk; cases hk
    rw [fr _ this]
    exact hI.2 q hq
theorem LYI.sk {u : Nat} {i j : Int} (h : LYI P W E K R u F0 F (dnZ i j)) {y : Int} (yi : iZ y = i) (yj : jZ y = j) (nc : ¬ cand P W E K R u y) : LYI P W E K R u F0 F (dnZ i (j + 1)) := h.cg (fun z z0 z1 hc => by
  have : ¬ (iZ z = i ∧ jZ z = j) := fun q => by
    have e : z = y := by
      unfold iZ jZ at *
      omega
    rw [e] at hc
    exact nc hc
  unfold dnZ
  omega)
/-- while a piece is laid: the cells, and all else as it was, but the ray -/
def LSy (b : Nat) (g : yH) (ce1 : Nat) (h0 h : yH) (F : Nat → Int) : Prop := MI b g h ∧ h (b + ce1) = some (ai 8192 F) ∧ ∀ q, q ≠ b + ce1 → q ≠ b + 13 → h q = h0 q
theorem s_lay2E (hq : QF b g ce1 ce2 pw la) (hsc : SF b g t E K R T) (ho : o = 20 ∨ o = 270) (hp : g (b + o) = some (pO b o aa cc xx)) (hx : pcE (2, 8192, 0, 0) = true → g (b + ce1) = none) {u : Nat} (u2 : u < 120) (hPb : ∀ j, 0 ≤ P j ∧ P j ≤ 32) (hs : sd P (u : Int)) (w1 : 0 ≤ W u) (w2 : W u < 24) (eP0 : h0 (b + (o + 1)) = some (ai 720 P)) (eW0 : h0 (b + (o + 2)) = some (ai 120 W)) {i y : Int} (i1 : P (6 * u + 0) - P (6 * u + 3) ≤ i) (i2 : i ≤ P (6 * u + 1) - P (6 * u + 2) - 1) (ey : y = min (2 * (P (6 * u + 1) - P (6 * u + 4)) - i - 1) (2 * (P (6 * u + 3) - P (6 * u + 4)) + i)) (kk : ∀ (u6 : Option xV) (u7 : Option xV) (h : yH) (F : Nat → Int) (j : Int), y < j → LSy b g ce1 h0 h F → LYI P W E K R u F0 F (dnZ i j) → YW l G mX2_lay 3 0 0 (fun r h' n' => ∃ F', r = none ∧ n' = n ∧ LSy b g ce1 h0 h' F' ∧ LYI P W E K R u F0 F' (fun _ => True)) 134 [some (vr (b + 8)), some (vr (b + 1)), some (vr (b + o)), some (vi (u : Int)), some (vi i), some (vi y), u6, u7] [] h n) : ∀ (m : Nat) (j : Int) (u7 : Option xV) (h : yH) (F : Nat → Int), (70 - j).toNat < m → 2 * (P (6 * u + 0) - P (6 * u + 5)) - i ≤ j → 2 * (P (6 * u + 2) - P (6 * u + 5)) + i + 1 ≤ j → j ≤ 5000 → LSy b g ce1 h0 h F → LYI P W E K R u F0 F (dnZ i j) → YW l G mX2_lay 3 0 0 (fun r h' n' => ∃ F', r = none ∧ n' = n ∧ LSy b g ce1 h0 h' F' ∧ LYI P W E K R u F0 F' (fun _ => True)) 58 [some (vr (b + 8)), some (vr (b + 1)), some (vr (b + o)), some (vi (u : Int)), some (vi i), some (vi y), some (vi j), u7] [] h n := by
  intro m
  induction m with
  | zero => intro j u7 h F hm; exact absurd hm (Nat.not_lt_zero _)
  | succ m ih =>
    intro j u7 h F hmm j1 j2 j3 hls hly
    obtain ⟨hI, eF, fr⟩ := id hls
    obtain ⟨h1, h2, hq0⟩ := id hq
    have p0 := hPb (6 * u + 0)
    have p1 := hPb (6 * u + 1)
    have p2 := hPb (6 * u + 2)
    have p3 := hPb (6 * u + 3)
    have p4 := hPb (6 * u + 4)
    have p5 := hPb (6 * u + 5)
    have eP : h (b + (o + 1)) = some (ai 720 P) := (fr _ (by omega) (by omega)).trans eP0
    have eW : h (b + (o + 2)) = some (ai 120 W) := (fr _ (by omega) (by omega)).trans eW0
    refine y_run kX2_lay rfl ?_
    refine y_ic_gt kX2_lay rfl rfl (fun c1 => ?_) (fun c1 => ?_)
    · exact kk _ _ _ F j (by omega) hls hly
    · obtain ⟨z, hz⟩ : ∃ z : Int, z = 64 * (j + 64) + (i + 32) := ⟨_, rfl⟩
      have jb : -64 ≤ j ∧ j < 64 := by omega
      have ib : -32 ≤ i ∧ i < 32 := by omega
      have z0 : 0 ≤ z := by omega
      have z1 : z < 8192 := by omega
      have ei : iZ z = i := by unfold iZ; omega
      have ej : jZ z = j := by unfold jZ; omega
      have ea : 2 * j + 2 * i + 1 = aX z := by unfold aX; omega
      have ec : 2 * j - 2 * i - 1 = aY z := by unfold aY; omega
      have hsee : seeB P u z := (see_ol hs z).mpr (by rw [ei, ej]; exact ⟨i1, i2, j1, j2, by omega, by omega⟩)
      refine y_run kX2_lay rfl ?_
      refine m_get kX2_lay (8) hI hq0 ?_
      refine y_run kX2_lay rfl ?_
      obtain ⟨r0, r1, r2, r3, ev1, -⟩ := hI.r (k := 13) rfl
      refine y_cv kX2_lay kX4_aim 2 rfl ev1 (by decide +kernel) (c_Raim ev1) rfl rfl ?_
      rintro _ h4 _ ⟨rfl, eh4, rfl⟩
      have e13 : h4 (b + 13) = some (ob 4 [vi (aX z), vi (aY z), vi r2, vi r3]) := by rw [eh4, yup_eq, ea, ec]
      have fr4 : ∀ q, q ≠ b + 13 → h4 q = h q := fun q hq => by rw [eh4, yup_ne _ _ hq]
      have g4 : ∀ {k : Nat} {e : yE}, k ≠ 13 → rTb k = none → g (b + k) = some e → h4 (b + k) = some e := fun k1 k2 k3 => (fr4 _ (by omega)).trans (hI.x k2 k3)
      have hsm : sm (aX z) ∧ sm (aY z) := ⟨⟨by omega, by omega⟩, ⟨by omega, by omega⟩⟩
      refine y_run kX2_lay rfl ?_
      refine y_get kX2_lay rfl rfl (g4 (by omega) rfl hq0) rfl ?_
      refine y_run kX2_lay rfl ?_
      refine y_get kX2_lay rfl rfl (g4 (by omega) (t0 ho) hp) rfl ?_
      refine y_run kX2_lay rfl ?_
      refine y_cv kX2_lay kX4_leave 2 rfl e13 (by decide +kernel) (c_Rleave e13 ((fr4 _ (by omega)).trans eP) (by omega) (by omega) (by omega) (by omega) ⟨rfl, rfl, rfl, rfl, rfl, rfl⟩ hsm ⟨⟨by have := hPb (((u : Int) * 6) + 1).toNat; omega, by have := hPb (((u : Int) * 6) + 1).toNat; omega⟩, ⟨by have := hPb (((u : Int) * 6) + 3).toNat; omega, by have := hPb (((u : Int) * 6) + 3).toNat; omega⟩, ⟨by have := hPb (((u : Int) * 6) + 5).toNat; omega, by have := hPb (((u : Int) * 6) + 5).toNat; omega⟩⟩) rfl rfl ?_
      rintro _ h5 _ ⟨rfl, eh5, rfl⟩
      have f13 : h5 (b + 13) = some (ob 4 [vi (aX z), vi (aY z), vi (rxU P u z), vi (rfU P u z)]) := by
        rw [eh5, yup_eq, show ((u : Int) * 6 + 1).toNat = 6 * u + 1 by omega, show ((u : Int) * 6 + 3).toNat = 6 * u + 3 by omega, show ((u : Int) * 6 + 5).toNat = 6 * u + 5 by omega]
        rfl
      have fr5 : ∀ q, q ≠ b + 13 → h5 q = h q := fun q hq => by rw [eh5, yup_ne _ _ hq, fr4 q hq]
      have xb : -10000 ≤ rxU P u z ∧ rxU P u z ≤ 10000 := rex_b p5 p1 p3 ⟨by omega, by omega⟩ ⟨by omega, by omega⟩
      have fb := rfU_b P u z
      have hI5 : MI b g h5 := hI.frk (k := 13) rfl (fun q => absurd (show false = true from q) (by decide)) ⟨_, _, _, _, f13, ⟨by omega, by omega⟩, ⟨by omega, by omega⟩, xb, fb.1, fb.2⟩ fr5
      refine y_run kX2_lay rfl ?_
      refine m_get kX2_lay (o) hI5 hp ?_ (t0 ho)
      refine y_run kX2_lay rfl ?_
      refine y_ia kX2_lay rfl ((fr5 _ (by omega)).trans eW) (by omega) (by omega) ?_
      rw [Int.toNat_natCast]
      refine y_run kX2_lay rfl ?_
      refine m_get kX2_lay (8) hI5 hq0 ?_
      refine y_cv kX2_lay kX5_inkAt 2 rfl (hI5.x (k := 1) rfl hsc.1.1) (by decide +kernel) (e_inkAt hsc w1 w2 f13 hsm.1 hsm.2 ⟨by omega, by omega⟩ fb.1 fb.2 hI5) rfl rfl ?_
      rintro _ h6 _ ⟨rfl, eh6, rfl⟩
      subst eh6
      have kb := ikU_b P W K R u z
      refine y_run kX2_lay rfl ?_
      have ek : inkP K R (W u) (aX z) (aY z) (rxU P u z) (rfU P u z) = ikU P W K R u z := rfl
      rw [ek]
      have ls5 : LSy b g ce1 h0 h6 F := ⟨hI5, (fr5 _ (by omega)).trans eF, fun q q1 q2 => (fr5 q q2).trans (fr q q1 q2)⟩
      refine y_if_eq kX2_lay rfl rfl (fun c2 => ?_) (fun c2 => ?_)
      · refine y_run kX2_lay rfl ?_
        exact ih _ _ _ F (by omega) (by omega) (by omega) (by omega) ls5 (hly.sk ei ej (fun q => q.2.1 c2))
      · refine y_run kX2_lay rfl ?_
        refine y_cs kX2_lay kX2_cellOf 2 rfl (by decide +kernel) (c_cellOf) rfl rfl ?_
        rintro _ h7 _ ⟨rfl, eh7, rfl⟩
        subst eh7
        have ecell : ((i - -32) * 128 + j - -64).toNat = cZ z := by unfold cZ; omega
        refine y_cv kX2_lay kX2_layInk 5 rfl (hI5.x (k := 8) rfl hq0) (by decide +kernel) (e_layInk hq hsc ho hp (by omega) (by omega) kb.1 kb.2 (by omega) (by omega) fb.1 fb.2 (by rw [Int.toNat_natCast]; exact w1) (by rw [Int.toNat_natCast]; exact w2) ((fr5 _ (by omega)).trans eP) ((fr5 _ (by omega)).trans eW) f13 ls5.2.1 hI5) rfl rfl ?_
        rintro _ h8 _ ⟨rfl, rfl, V, eh8, v1, v2⟩
        rw [Int.toNat_natCast, ecell] at *
        have eidx : ((u : Int) * 6 + (2 * rfU P u z + 1)).toNat = 6 * u + (2 * rfU P u z + 1).toNat := by omega
        have eidy : (W u * 6 + (2 * rfU P u z + 1)).toNat = 6 * (W u).toNat + (2 * rfU P u z + 1).toNat := by omega
        rw [eidx, eidy] at v1 v2
        have e9 : h8 (b + ce1) = some (ai 8192 (upZ F (cZ z) V)) := by rw [eh8, yup_eq]
        have fr8 : ∀ q, q ≠ b + ce1 → h8 q = h7 q := fun q hq => by rw [eh8, yup_ne _ _ hq]
        refine y_run kX2_lay rfl ?_
        refine ih _ _ _ (upZ F (cZ z) V) (by omega) (by omega) (by omega) (by omega) ⟨hI5.frk (tc h1) hx ⟨_, e9, fun j' => ?_⟩ fr8, e9, fun q q1 q2 => (fr8 q q1).trans (ls5.2.2 q q1 q2)⟩ (hly.up z0 z1 ei ej (fun q => v1 q.2.2) (fun q => v2 (fun w => q ⟨hsee, c2, w⟩)))
        obtain ⟨F9, e10, hF9⟩ := hI.c (tc h1)
        rw [ai_inj eF e10]
        by_cases e : j' = cZ z
        · rw [e, upZ_eq]
          by_cases w : P (6 * u + (2 * rfU P u z + 1).toNat) = E (6 * (W u).toNat + (2 * rfU P u z + 1).toNat)
          · have k1 := v1 w
            have k2 := hsc.2.2.2.1 (W u) w1 w2
            omega
          · have k1 := v2 w
            rw [ai_inj eF e10] at k1
            have k2 := hF9 (cZ z)
            omega
        · rw [upZ_ne _ _ e]
          exact hF9 j'
theorem s_lay1E (hq : QF b g ce1 ce2 pw la) (hsc : SF b g t E K R T) (ho : o = 20 ∨ o = 270) (hp : g (b + o) = some (pO b o aa cc xx)) (hx : pcE (2, 8192, 0, 0) = true → g (b + ce1) = none) {u : Nat} (u2 : u < 120) (hPb : ∀ j, 0 ≤ P j ∧ P j ≤ 32) (hs : sd P (u : Int)) (w1 : 0 ≤ W u) (w2 : W u < 24) (eP0 : h0 (b + (o + 1)) = some (ai 720 P)) (eW0 : h0 (b + (o + 2)) = some (ai 120 W)) (e14 : h0 (b + 14) = some (ob 1 [vi (P (6 * u + 0) - P (6 * u + 5)), vi (P (6 * u + 1) - P (6 * u + 4)), vi (P (6 * u + 2) - P (6 * u + 5)), vi (P (6 * u + 3) - P (6 * u + 4)), vi (P (6 * u + 0) - P (6 * u + 3)), vi (P (6 * u + 1) - P (6 * u + 2) - 1)])) : ∀ (m : Nat) (i : Int) (u5 : Option xV) (u6 : Option xV) (u7 : Option xV) (h : yH) (F : Nat → Int), (32 - i).toNat < m → P (6 * u + 0) - P (6 * u + 3) ≤ i → i ≤ 32 → LSy b g ce1 h0 h F → LYI P W E K R u F0 F (fun z => iZ z < i) → YW l G mX2_lay 3 0 0 (fun r h' n' => ∃ F', r = none ∧ n' = n ∧ LSy b g ce1 h0 h' F' ∧ LYI P W E K R u F0 F' (fun _ => True)) 24 [some (vr (b + 8)), some (vr (b + 1)), some (vr (b + o)), some (vi (u : Int)), some (vi i), u5, u6, u7] [] h n := by
  intro m
  induction m with
  | zero => intro i u5 u6 u7 h F hm; exact absurd hm (Nat.not_lt_zero _)
  | succ m ih =>
    intro i u5 u6 u7 h F hmm j0 j1 hls hly
    obtain ⟨hI, eF, fr⟩ := id hls
    obtain ⟨h1, h2, hq0⟩ := id hq
    have p0 := hPb (6 * u + 0)
    have p1 := hPb (6 * u + 1)
    have p2 := hPb (6 * u + 2)
    have p3 := hPb (6 * u + 3)
    have p4 := hPb (6 * u + 4)
    have p5 := hPb (6 * u + 5)
    have f14 := (fr (b + 14) (by omega) (by omega)).trans e14
    have hsm : sm (P (6 * u + 0) - P (6 * u + 5)) ∧ sm (P (6 * u + 1) - P (6 * u + 4)) ∧ sm (P (6 * u + 2) - P (6 * u + 5)) ∧ sm (P (6 * u + 3) - P (6 * u + 4)) := ⟨⟨by omega, by omega⟩, ⟨by omega, by omega⟩, ⟨by omega, by omega⟩, ⟨by omega, by omega⟩⟩
    refine y_run kX2_lay rfl ?_
    refine m_get kX2_lay (8) hI hq0 ?_
    refine y_get kX2_lay rfl rfl f14 rfl ?_
    refine y_ic_gt kX2_lay rfl rfl (fun c1 => ?_) (fun c1 => ?_)
    · refine y_vr kX2_lay rfl rfl ⟨F, rfl, rfl, hls, hly.cg (fun z _ _ hc => ⟨fun _ => trivial, fun _ => ?_⟩)⟩
      have := ((see_ol hs z).mp hc.1).2.1
      omega
    · refine y_run kX2_lay rfl ?_
      refine m_get kX2_lay (8) hI hq0 ?_
      refine y_run kX2_lay rfl ?_
      refine y_cv kX2_lay kX1_lastJ 1 rfl f14 (by decide +kernel) (c_OlastJ f14 hsm ⟨by omega, by omega⟩) rfl rfl ?_
      rintro _ h3 _ ⟨rfl, eh, rfl⟩
      subst eh
      refine y_run kX2_lay rfl ?_
      refine m_get kX2_lay (8) hI hq0 ?_
      refine y_run kX2_lay rfl ?_
      refine y_cv kX2_lay kX1_firstJ 1 rfl f14 (by decide +kernel) (c_OfirstJ f14 hsm ⟨by omega, by omega⟩) rfl rfl ?_
      rintro _ h3 _ ⟨rfl, eh, rfl⟩
      subst eh
      refine y_run kX2_lay rfl ?_
      refine s_lay2E hq hsc ho hp hx u2 hPb hs w1 w2 eP0 eW0 j0 (by omega) rfl (fun u6 u7 h F j hj hls hly => ?_) _ _ _ _ F (Nat.lt_succ_self _) (by omega) (by omega) (by omega) hls (hly.cg (fun z _ _ hc => ?_))
      · refine y_run kX2_lay rfl ?_
        refine ih _ _ _ _ _ F (by omega) (by omega) (by omega) hls (hly.cg (fun z _ _ hc => ?_))
        have := (see_ol hs z).mp hc.1
        unfold olP at this
        unfold dnZ
        omega
      · have := (see_ol hs z).mp hc.1
        unfold olP at this
        unfold dnZ
        omega
theorem e_lay (hq : QF b g ce1 ce2 pw la) (hsc : SF b g t E K R T) (ho : o = 20 ∨ o = 270) (hp : g (b + o) = some (pO b o aa cc xx)) (hx : pcE (2, 8192, 0, 0) = true → g (b + ce1) = none) {u : Nat} (u2 : u < 120) (hPb : ∀ j, 0 ≤ P j ∧ P j ≤ 32) (hs : sd P (u : Int)) (w1 : 0 ≤ W u) (w2 : W u < 24) (eP : h (b + (o + 1)) = some (ai 720 P)) (eW : h (b + (o + 2)) = some (ai 120 W)) (eF : h (b + ce1) = some (ai 8192 F)) (hI : MI b g h) : YM l G mX2_lay 3 0 0 [vr (b + 8), vr (b + 1), vr (b + o), vi (u : Int)] h n (fun r h' n' => ∃ F', r = none ∧ n' = n ∧ MI b g h' ∧ h' (b + ce1) = some (ai 8192 F') ∧ (∀ q, q ≠ b + ce1 → q ≠ b + 13 → q ≠ b + 14 → h' q = h q) ∧ LYI P W E K R u F F' (fun _ => True)) := by
  refine YM.of kX2_lay (Nat.le_of_ble_eq_true rfl) (L0 := [some (vr (b + 8)), some (vr (b + 1)), some (vr (b + o)), some (vi (u : Int)), none, none, none, none]) rfl ?_
  obtain ⟨h1, h2, hq0⟩ := id hq
  have p0 := hPb (6 * u + 0)
  have p1 := hPb (6 * u + 1)
  have p2 := hPb (6 * u + 2)
  have p3 := hPb (6 * u + 3)
  have p4 := hPb (6 * u + 4)
  have p5 := hPb (6 * u + 5)
  refine y_run kX2_lay rfl ?_
  refine m_get kX2_lay (8) hI hq0 ?_
  refine y_run kX2_lay rfl ?_
  refine m_get kX2_lay (o) hI hp ?_ (t0 ho)
  refine y_run kX2_lay rfl ?_
  obtain ⟨o0, o1, o2, o3, o4, o5, ev1, -⟩ := hI.o (k := 14) rfl
  refine y_cv kX2_lay kX1_setTo 2 rfl ev1 (by decide +kernel) (c_OsetTo ev1 eP (by omega) (by omega) (by omega) (by omega) ⟨rfl, rfl, rfl, rfl, rfl, rfl⟩) rfl rfl ?_
  rintro _ h4 _ ⟨rfl, eh4, rfl⟩
  have e14 : h4 (b + 14) = some (ob 1 [vi (P (6 * u + 0) - P (6 * u + 5)), vi (P (6 * u + 1) - P (6 * u + 4)), vi (P (6 * u + 2) - P (6 * u + 5)), vi (P (6 * u + 3) - P (6 * u + 4)), vi (P (6 * u + 0) - P (6 * u + 3)), vi (P (6 * u + 1) - P (6 * u + 2) - 1)]) := by
    rw [eh4, yup_eq, show ((u : Int) * 6).toNat = 6 * u + 0 by omega, show ((u : Int) * 6 + 1).toNat = 6 * u + 1 by omega, show ((u : Int) * 6 + 2).toNat = 6 * u + 2 by omega, show ((u : Int) * 6 + 3).toNat = 6 * u + 3 by omega, show ((u : Int) * 6 + 4).toNat = 6 * u + 4 by omega, show ((u : Int) * 6 + 5).toNat = 6 * u + 5 by omega]
  have fr4 : ∀ q, q ≠ b + 14 → h4 q = h q := fun q hq => by rw [eh4, yup_ne _ _ hq]
  have hI4 : MI b g h4 := hI.frk (k := 14) rfl (fun q => absurd (show false = true from q) (by decide)) ⟨_, _, _, _, _, _, e14, ⟨by omega, by omega⟩, ⟨by omega, by omega⟩, ⟨by omega, by omega⟩, ⟨by omega, by omega⟩, ⟨by omega, by omega⟩, by omega, by omega⟩ fr4
  refine y_run kX2_lay rfl ?_
  refine m_get kX2_lay (8) hI4 hq0 ?_
  refine y_get kX2_lay rfl rfl e14 rfl ?_
  refine y_run kX2_lay rfl ?_
  have eF4 := (fr4 (b + ce1) (by omega)).trans eF
  refine (s_lay1E (h0 := h4) (F0 := F) hq hsc ho hp hx u2 hPb hs w1 w2 ((fr4 _ (by omega)).trans eP) ((fr4 _ (by omega)).trans eW) e14 _ _ _ _ _ _ F (Nat.lt_succ_self _) (by omega) (by omega) ⟨hI4, eF4, fun _ _ _ => rfl⟩ (fun z _ _ => ⟨fun q => ?_, fun _ => rfl⟩)).imp (fun r h5 n5 w => ?_)
  · have := ((see_ol hs z).mp q.1.1).1
    have := q.2
    omega
  · obtain ⟨F', rfl, rfl, ⟨k1, k2, k3⟩, k4⟩ := w
    exact ⟨F', rfl, rfl, k1, k2, fun q q1 q2 q3 => (k3 q q1 q2).trans (fr4 q q3), k4⟩
end C80ze
