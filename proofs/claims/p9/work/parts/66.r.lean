theorem tc {ce1 : Nat} (h : ce1 = 9 ∨ ce1 = 10) : rTb ce1 = some (2, 8192, 0, 0) := by rcases h with rfl | rfl <;> rfl
def qO (b ce1 ce2 : Nat) (pw la : Int) : yE := ob 2 [vr (b + ce1), vr (b + ce2), vr (b + 11), vr (b + 12), vi pw, vi la, vr (b + 13), vr (b + 14)]
def QF (b : Nat) (g : yH) (ce1 ce2 : Nat) (pw la : Int) : Prop := (ce1 = 9 ∨ ce1 = 10) ∧ (ce2 = 9 ∨ ce2 = 10) ∧ g (b + 8) = some (qO b ce1 ce2 pw la)
def SQ (b : Nat) (g g' : yH) : Prop := ∀ q, q ≠ b + 8 → g' q = g q
theorem SQ.r (b : Nat) (g : yH) : SQ b g g := fun _ _ => rfl
theorem SQ.t {b : Nat} {g g' g'' : yH} (h1 : SQ b g g') (h2 : SQ b g' g'') : SQ b g g'' := fun q hq => (h2 q hq).trans (h1 q hq)
section C81
variable {l : Launch} {G : xG} {M : xM} {d kc ks : Nat} {Φ : Option xV → yH → Nat → Prop} {h : yH} {n : Nat} {pc : Nat} {L : List (Option xV)} {st : List xV} {b ce1 ce2 : Nat} {g : yH} {pw la : Int}
theorem m_pQ (hM : xOK M) {idx ad j ce1' ce2' : Nat} {v : xV} {pw' la' : Int} {g0 : yH} (hI : MI b g h) (hq : QF b g ce1 ce2 pw la) (hs : SQ b g0 g) (kk : ∀ g' h', SQ b g0 g' → QF b g' ce1' ce2' pw' la' → MI b g' h' → YW l G M d kc ks Φ (pc + 3) L st h' n) (he : ∃ fs, qO b ce1 ce2 pw la = ob 2 fs ∧ ob 2 (fs.set j v) = qO b ce1' ce2' pw' la' ∧ j < fs.length) (h1 : ce1' = 9 ∨ ce1' = 10) (h2 : ce2' = 9 ∨ ce2' = 10) (hd : xat M pc = some (.putfield idx, 3) := by rfl) (hl : M.2.2.2.2.2.2.lookup idx = some (2, j) := by rfl) (hfin : xfin 2 j = false := by rfl) (hn : narrow (xty 2 j) (den v) = den v := by rfl) (hfit : fits (xty 2 j) (den v) = true := by rfl) (ha : ad = b + 8 := by rfl) : YW l G M d kc ks Φ pc L (v :: vr ad :: st) h n := by
  obtain ⟨fs, e1, e2, e3⟩ := he
  obtain ⟨_, _, hp⟩ := id hq
  rw [e1] at hp
  refine m_put hM (j := j) 8 hI hp (fun h' hI' => ?_) rfl hd hl hfin hn hfit e3 ha
  rw [e2] at hI'
  exact kk (yup g (b + 8) (qO b ce1' ce2' pw' la')) h' (fun q hq => (yup_ne _ _ hq).trans (hs q hq)) ⟨h1, h2, yup_eq _ _ _⟩ hI'
end C81
section C82
variable {l : Launch} {G : xG} {h : yH} {n : Nat}
theorem c_cellOf {i j : Int} : YM l G mX2_cellOf 0 0 0 [vi i, vi j] h n (fun r h' n' => r = some (vi ((i - -32) * 128 + j - -64)) ∧ h' = h ∧ n' = n) := by
  refine YM.of kX2_cellOf (Nat.le_of_ble_eq_true rfl) (L0 := [some (vi i), some (vi j)]) rfl ?_
  refine y_run kX2_cellOf rfl ?_
  exact y_ir kX2_cellOf rfl rfl ⟨rfl, rfl, rfl⟩
theorem c_boxOf {z : Int} : YM l G mX2_boxOf 0 0 0 [vi z] h n (fun r h' n' => r = some (vi (z / 256 % 32)) ∧ h' = h ∧ n' = n) := by
  refine YM.of kX2_boxOf (Nat.le_of_ble_eq_true rfl) (L0 := [some (vi z)]) rfl ?_
  refine y_run kX2_boxOf rfl ?_
  rw [box_bits]
  exact y_ir kX2_boxOf rfl rfl ⟨rfl, rfl, rfl⟩
theorem w_Pface {z : Int} : YM l G mX2_faceOf 0 0 0 [vi z] h n (fun r h' n' => (∃ v, r = some (vi v)) ∧ h' = h ∧ n' = n) := by
  refine YM.of kX2_faceOf (Nat.le_of_ble_eq_true rfl) (L0 := [some (vi z)]) rfl ?_
  refine y_run kX2_faceOf rfl ?_
  exact y_ir kX2_faceOf rfl rfl ⟨⟨_, rfl⟩, rfl, rfl⟩
theorem w_Ppaint {z : Int} : YM l G mX2_paintOf 0 0 0 [vi z] h n (fun r h' n' => (∃ v, r = some (vi v)) ∧ h' = h ∧ n' = n) := by
  refine YM.of kX2_paintOf (Nat.le_of_ble_eq_true rfl) (L0 := [some (vi z)]) rfl ?_
  refine y_run kX2_paintOf rfl ?_
  exact y_ir kX2_paintOf rfl rfl ⟨⟨_, rfl⟩, rfl, rfl⟩
theorem w_Plaid {z : Int} : YM l G mX2_laidOf 0 0 0 [vi z] h n (fun r h' n' => (∃ v, r = some (vi v)) ∧ h' = h ∧ n' = n) := by
  refine YM.of kX2_laidOf (Nat.le_of_ble_eq_true rfl) (L0 := [some (vi z)]) rfl ?_
  refine y_run kX2_laidOf rfl ?_
  refine y_ldc (z := 65536) kX2_laidOf rfl (by decide +kernel) ?_
  refine m_idiv kX2_laidOf (by omega) (by omega) (fun v va vb => ?_)
  exact y_ir kX2_laidOf rfl rfl ⟨⟨_, rfl⟩, rfl, rfl⟩
theorem w_hasBox {z : Int} : YM l G mX2_hasBox 0 0 0 [vi z] h n (fun r h' n' => (∃ v, r = some (vi v) ∧ 0 ≤ v ∧ v ≤ 1) ∧ h' = h ∧ n' = n) := by
  refine YM.of kX2_hasBox (Nat.le_of_ble_eq_true rfl) (L0 := [some (vi z)]) rfl ?_
  refine y_run kX2_hasBox rfl ?_
  refine y_ldc (z := 65535) kX2_hasBox rfl (by decide +kernel) ?_
  refine y_run kX2_hasBox rfl ?_
  rw [yand_65535]
  refine y_if_eq kX2_hasBox rfl rfl (fun c1 => ?_) (fun c1 => ?_)
  · refine y_run kX2_hasBox rfl ?_
    exact y_zr kX2_hasBox rfl rfl (by omega) ⟨⟨_, rfl, by omega, by omega⟩, rfl, rfl⟩
  · refine y_run kX2_hasBox rfl ?_
    exact y_zr kX2_hasBox rfl rfl (by omega) ⟨⟨_, rfl, by omega, by omega⟩, rfl, rfl⟩
theorem look_b {p f c i : Int} (p1 : 0 ≤ p) (p2 : p < 24) (f1 : 0 ≤ f) (f2 : f < 3) (ce1 : 0 ≤ c) (ce2 : c < 16) (i1 : 0 ≤ i) (i2 : i < 4) : yor (yor (yor (yshl p 8) (yshl f 6)) (yshl i 4)) c = p * 256 + f * 64 + i * 16 + c := by
  have := look_bits p.toNat (by omega) f.toNat (by omega) c.toNat (by omega) i.toNat (by omega)
  rw [Int.toNat_of_nonneg p1, Int.toNat_of_nonneg f1, Int.toNat_of_nonneg ce1, Int.toNat_of_nonneg i1] at this
  exact this
theorem c_lookOf {p f c i : Int} (p1 : 0 ≤ p) (p2 : p < 24) (f1 : 0 ≤ f) (f2 : f < 3) (ce1 : 0 ≤ c) (ce2 : c < 16) (i1 : 0 ≤ i) (i2 : i < 4) : YM l G mX2_lookOf 0 0 0 [vi p, vi f, vi c, vi i] h n (fun r h' n' => r = some (vi (p * 256 + f * 64 + i * 16 + c)) ∧ h' = h ∧ n' = n) := by
  refine YM.of kX2_lookOf (Nat.le_of_ble_eq_true rfl) (L0 := [some (vi p), some (vi f), some (vi c), some (vi i)]) rfl ?_
  refine y_run kX2_lookOf rfl ?_
  rw [look_b p1 p2 f1 f2 ce1 ce2 i1 i2]
  exact y_ir kX2_lookOf rfl rfl ⟨rfl, rfl, rfl⟩
theorem w_inkAt {b : Nat} {g : yH} {t : Int} {E K R T : Nat → Int} (hsc : SF b g t E K R T) {p : Int} (p1 : 0 ≤ p) (p2 : p < 24) (hI : MI b g h) : YM l G mX5_inkAt 2 0 0 [vr (b + 1), vi p, vr (b + 13)] h n (PZ b g n 0 3) := by
  refine YM.of kX5_inkAt (Nat.le_of_ble_eq_true rfl) (L0 := [some (vr (b + 1)), some (vi p), some (vr (b + 13)), none, none]) rfl ?_
  refine y_run kX5_inkAt rfl ?_
  refine m_get kX5_inkAt (1) hI hsc.1.1 ?_
  refine y_run kX5_inkAt rfl ?_
  refine m_getF kX5_inkAt (13) hI rfl (fun v1 v1a v1b => ?_)
  refine y_run kX5_inkAt rfl ?_
  have hk1 := hsc.2.2.1 p (1 + v1) p1 p2 (by omega) (by omega)
  rw [show p * 4 + (1 + v1) = p * 4 + 1 + v1 by omega] at hk1
  refine y_ia kX5_inkAt rfl (hI.x (k := 3) rfl hsc.1.2.2.1) (by omega) (by omega) ?_
  generalize K (p * 4 + 1 + v1).toNat = sp at hk1 ⊢
  obtain ⟨hk1, hk2⟩ := hk1
  refine y_run kX5_inkAt rfl ?_
  refine m_get kX5_inkAt (1) hI hsc.1.1 ?_
  refine y_run kX5_inkAt rfl ?_
  obtain ⟨_, _, _, _, ev2, _⟩ := hI.r (k := 13) rfl
  refine y_cv kX5_inkAt kX4_spotRow 0 rfl ev2 (by decide +kernel) (w_RspotRow hI rfl) rfl rfl ?_
  rintro _ h _ ⟨v2, rfl, v2a, v2b, hI, rfl⟩
  refine y_run kX5_inkAt rfl ?_
  refine m_ix kX5_inkAt (hI.x (k := 4) rfl hsc.1.2.2.2.1) hsc.2.2.2.2 (fun v3 v3e v3a v3b => ?_)
  refine y_run kX5_inkAt rfl ?_
  obtain ⟨_, _, _, _, ev4, _⟩ := hI.r (k := 13) rfl
  refine y_cv kX5_inkAt kX4_spotPlace 0 rfl ev4 (by decide +kernel) (w_RspotPlace hI rfl) rfl rfl ?_
  rintro _ h _ ⟨v4, rfl, v4a, v4b, hI, rfl⟩
  refine y_run kX5_inkAt rfl ?_
  rw [yand_3]
  exact y_ir kX5_inkAt rfl rfl ⟨_, rfl, by omega, by omega, hI, rfl⟩
theorem w_layInk {b o ce1 ce2 : Nat} {g : yH} {t pw la a c x : Int} {E K R T : Nat → Int} {S : Nat → Bool} (hq : QF b g ce1 ce2 pw la) (hsc : SF b g t E K R T) (hf : PF0 b o g S a c x) {p i z : Int} (p1 : 0 ≤ p) (p2 : p < 120) (i1 : 0 ≤ i) (i2 : i ≤ 3) (z1 : 0 ≤ z) (z2 : z < 8192) (hI : MI b g h) : YM l G mX2_layInk 1 0 0 [vr (b + 8), vr (b + 1), vr (b + o), vi p, vi i, vi z] h n (PV b g n) := by
  refine YM.of kX2_layInk (Nat.le_of_ble_eq_true rfl) (L0 := [some (vr (b + 8)), some (vr (b + 1)), some (vr (b + o)), some (vi p), some (vi i), some (vi z), none, none, none]) rfl ?_
  obtain ⟨h1, h2, hq0⟩ := id hq
  obtain ⟨ho, hp, ⟨lo, hi, hL, hLb⟩, ⟨Fb, hFb, hFb2⟩, ⟨Fa, hFa, hFa2⟩⟩ := id hf
  refine y_run kX2_layInk rfl ?_
  refine m_get kX2_layInk (o) hI hp ?_ (t0 ho)
  refine y_run kX2_layInk rfl ?_
  refine m_ia kX2_layInk (o + 2) hI (t2 ho) (fun v1 v1a v1b => ?_)
  refine y_run kX2_layInk rfl ?_
  refine m_get kX2_layInk (8) hI hq0 ?_
  refine m_getF kX2_layInk (13) hI rfl (fun v2 v2a v2b => ?_)
  refine y_run kX2_layInk rfl ?_
  refine m_get kX2_layInk (o) hI hp ?_ (t0 ho)
  refine y_run kX2_layInk rfl ?_
  refine m_ia kX2_layInk (o + 1) hI (t1 ho) (fun v3 v3a v3b => ?_)
  refine y_run kX2_layInk rfl ?_
  refine m_get kX2_layInk (1) hI hsc.1.1 ?_
  refine y_run kX2_layInk rfl ?_
  refine m_ix kX2_layInk (hI.x (k := 2) rfl hsc.1.2.1) hsc.2.1 (fun v4 v4e v4a v4b => ?_)
  refine y_ic_ne kX2_layInk rfl rfl (fun c1 => ?_) (fun c1 => ?_)
  · refine y_run kX2_layInk rfl ?_
    refine m_get kX2_layInk (8) hI hq0 ?_
    refine y_run kX2_layInk rfl ?_
    refine m_iac kX2_layInk (ce1) hI (tc h1) (fun v5 v5a => ?_)
    refine y_ldc (z := 65536) kX2_layInk rfl (by decide +kernel) ?_
    refine y_run kX2_layInk rfl ?_
    refine m_isc kX2_layInk (ce1) hI (tc h1) (fun h hI => ?_)
    exact y_vr kX2_layInk rfl rfl ⟨rfl, hI, rfl⟩
  · refine y_run kX2_layInk rfl ?_
    refine m_get kX2_layInk (8) hI hq0 ?_
    refine m_getF kX2_layInk (13) hI rfl (fun v6 v6a v6b => ?_)
    refine y_run kX2_layInk rfl ?_
    refine m_get kX2_layInk (1) hI hsc.1.1 ?_
    refine y_run kX2_layInk rfl ?_
    have hk1 := hsc.2.2.2.1 v1 (by omega) (by omega)
    refine y_ia kX2_layInk rfl (hI.x (k := 3) rfl hsc.1.2.2.1) (by omega) (by omega) ?_
    generalize K (v1 * 4).toNat = co at hk1 ⊢
    obtain ⟨hk1, hk2⟩ := hk1
    refine y_run kX2_layInk rfl ?_
    refine y_cs kX2_layInk kX2_lookOf 4 rfl (by decide +kernel) (c_lookOf (by omega) (by omega) (by omega) (by omega) (by omega) (by omega) (by omega) (by omega)) rfl rfl ?_
    rintro _ _ _ ⟨rfl, rfl, rfl⟩
    refine y_run kX2_layInk rfl ?_
    refine m_get kX2_layInk (8) hI hq0 ?_
    refine y_run kX2_layInk rfl ?_
    refine m_get kX2_layInk (8) hI hq0 ?_
    refine y_run kX2_layInk rfl ?_
    refine m_iac kX2_layInk (ce1) hI (tc h1) (fun vc vca => ?_)
    have hbits := hi_bits vc
    refine y_ldc (z := -65536) kX2_layInk rfl (by decide +kernel) ?_
    refine y_run kX2_layInk rfl ?_
    refine m_isc kX2_layInk (ce1) hI (tc h1) (fun h hI => ?_)
    refine y_run kX2_layInk rfl ?_
    refine m_get kX2_layInk (8) hI hq0 ?_
    refine y_run kX2_layInk rfl ?_
    refine m_iac kX2_layInk (ce1) hI (tc h1) (fun v8 v8a => ?_)
    refine y_ldc (z := 65536) kX2_layInk rfl (by decide +kernel) ?_
    refine y_run kX2_layInk rfl ?_
    refine m_isc kX2_layInk (ce1) hI (tc h1) (fun h hI => ?_)
    exact y_vr kX2_layInk rfl rfl ⟨rfl, hI, rfl⟩
theorem s_lay2 {b o ce1 ce2 : Nat} {g : yH} {t pw la a c x : Int} {E K R T : Nat → Int} {S : Nat → Bool} (hq : QF b g ce1 ce2 pw la) (hsc : SF b g t E K R T) (hf : PF0 b o g S a c x) {p : Int} (p1 : 0 ≤ p) (p2 : p < 120) {i y : Int} (i1 : -32 ≤ i) (i2 : i ≤ 31) (y1 : -2000 ≤ y) (y2 : y ≤ 63) (kk : ∀ (u6 : Option xV) (u7 : Option xV) (h : yH), MI b g h → YW l G mX2_lay 3 0 0 (PV b g n) 134 [some (vr (b + 8)), some (vr (b + 1)), some (vr (b + o)), some (vi p), some (vi i), some (vi y), u6, u7] [] h n) : ∀ (m : Nat) (j : Int) (u7 : Option xV) (h : yH), (2000 - j).toNat < m → -63 ≤ j → j ≤ 2000 → MI b g h → YW l G mX2_lay 3 0 0 (PV b g n) 58 [some (vr (b + 8)), some (vr (b + 1)), some (vr (b + o)), some (vi p), some (vi i), some (vi y), some (vi j), u7] [] h n := by
  intro m
  induction m with
  | zero => intro j u7 h hm; exact absurd hm (Nat.not_lt_zero _)
  | succ m ih =>
    intro j u7 h hmm j0 j1 hI
    obtain ⟨h1, h2, hq0⟩ := id hq
    obtain ⟨ho, hp, ⟨lo, hi, hL, hLb⟩, ⟨Fb, hFb, hFb2⟩, ⟨Fa, hFa, hFa2⟩⟩ := id hf
    refine y_run kX2_lay rfl ?_
    refine y_ic_gt kX2_lay rfl rfl (fun c1 => ?_) (fun c1 => ?_)
    · exact kk _ _ _  hI
    · refine y_run kX2_lay rfl ?_
      refine m_get kX2_lay (8) hI hq0 ?_
      refine y_run kX2_lay rfl ?_
      obtain ⟨_, _, _, _, ev1, _⟩ := hI.r (k := 13) rfl
      refine y_cv kX2_lay kX4_aim 2 rfl ev1 (by decide +kernel) (w_Raim hI rfl (by omega) (by omega) (by omega) (by omega)) rfl rfl ?_
      rintro _ h _ ⟨rfl, hI, rfl⟩
      refine y_run kX2_lay rfl ?_
      refine m_get kX2_lay (8) hI hq0 ?_
      refine y_run kX2_lay rfl ?_
      refine m_get kX2_lay (o) hI hp ?_ (t0 ho)
      refine y_run kX2_lay rfl ?_
      obtain ⟨Fv2, fv2e, fv2f⟩ := hI.i (t1 ho)
      obtain ⟨_, _, _, _, ev2, _⟩ := hI.r (k := 13) rfl
      refine y_cv kX2_lay kX4_leave 2 rfl ev2 (by decide +kernel) (w_Rleave hI rfl fv2e fv2f (by omega) (by omega) (by omega)) rfl rfl ?_
      rintro _ h _ ⟨rfl, hI, rfl⟩
      refine y_run kX2_lay rfl ?_
      refine m_get kX2_lay (o) hI hp ?_ (t0 ho)
      refine y_run kX2_lay rfl ?_
      refine m_ia kX2_lay (o + 2) hI (t2 ho) (fun v3 v3a v3b => ?_)
      refine y_run kX2_lay rfl ?_
      refine m_get kX2_lay (8) hI hq0 ?_
      refine y_cv kX2_lay kX5_inkAt 2 rfl (hI.x (k := 1) rfl hsc.1.1) (by decide +kernel) (w_inkAt hsc (by omega) (by omega) hI) rfl rfl ?_
      rintro _ h _ ⟨v4, rfl, v4a, v4b, hI, rfl⟩
      refine y_run kX2_lay rfl ?_
      refine y_if_eq kX2_lay rfl rfl (fun c2 => ?_) (fun c2 => ?_)
      · refine y_run kX2_lay rfl ?_
        exact ih _ _ _ (by omega) (by omega) (by omega) hI
      · refine y_run kX2_lay rfl ?_
        refine y_cs kX2_lay kX2_cellOf 2 rfl (by decide +kernel) (c_cellOf) rfl rfl ?_
        rintro _ _ _ ⟨rfl, rfl, rfl⟩
        refine y_cv kX2_lay kX2_layInk 5 rfl (hI.x (k := 8) rfl hq0) (by decide +kernel) (w_layInk hq hsc hf (by omega) (by omega) (by omega) (by omega) (by omega) (by omega) hI) rfl rfl ?_
        rintro _ h _ ⟨rfl, hI, rfl⟩
        refine y_run kX2_lay rfl ?_
        exact ih _ _ _ (by omega) (by omega) (by omega) hI
theorem s_lay1 {b o ce1 ce2 : Nat} {g : yH} {t pw la a c x : Int} {E K R T : Nat → Int} {S : Nat → Bool} (hq : QF b g ce1 ce2 pw la) (hsc : SF b g t E K R T) (hf : PF0 b o g S a c x) {p : Int} (p1 : 0 ≤ p) (p2 : p < 120) : ∀ (m : Nat) (i : Int) (u5 : Option xV) (u6 : Option xV) (u7 : Option xV) (h : yH), (32 - i).toNat < m → -32 ≤ i → i ≤ 32 → MI b g h → YW l G mX2_lay 3 0 0 (PV b g n) 24 [some (vr (b + 8)), some (vr (b + 1)), some (vr (b + o)), some (vi p), some (vi i), u5, u6, u7] [] h n := by
  intro m
  induction m with
  | zero => intro i u5 u6 u7 h hm; exact absurd hm (Nat.not_lt_zero _)
  | succ m ih =>
    intro i u5 u6 u7 h hmm j0 j1 hI
    obtain ⟨h1, h2, hq0⟩ := id hq
    obtain ⟨ho, hp, ⟨lo, hi, hL, hLb⟩, ⟨Fb, hFb, hFb2⟩, ⟨Fa, hFa, hFa2⟩⟩ := id hf
    refine y_run kX2_lay rfl ?_
    refine m_get kX2_lay (8) hI hq0 ?_
    refine m_getO5 kX2_lay (14) hI rfl (fun v1 v1a v1b => ?_)
    refine y_ic_gt kX2_lay rfl rfl (fun c1 => ?_) (fun c1 => ?_)
    · exact y_vr kX2_lay rfl rfl ⟨rfl, hI, rfl⟩
    · refine y_run kX2_lay rfl ?_
      refine m_get kX2_lay (8) hI hq0 ?_
      refine y_run kX2_lay rfl ?_
      obtain ⟨_, _, _, _, _, _, ev2, _⟩ := hI.o (k := 14) rfl
      refine y_cv kX2_lay kX1_lastJ 1 rfl ev2 (by decide +kernel) (w_OlastJ hI rfl (by omega) (by omega)) rfl rfl ?_
      rintro _ h _ ⟨v2, rfl, v2a, v2b, hI, rfl⟩
      refine y_run kX2_lay rfl ?_
      refine m_get kX2_lay (8) hI hq0 ?_
      refine y_run kX2_lay rfl ?_
      obtain ⟨_, _, _, _, _, _, ev3, _⟩ := hI.o (k := 14) rfl
      refine y_cv kX2_lay kX1_firstJ 1 rfl ev3 (by decide +kernel) (w_OfirstJ hI rfl (by omega) (by omega)) rfl rfl ?_
      rintro _ h _ ⟨v3, rfl, v3a, v3b, hI, rfl⟩
      refine y_run kX2_lay rfl ?_
      exact s_lay2 hq hsc hf p1 p2 (by omega) (by omega) (by omega) (by omega) (fun u6 u7 h hI => by
        refine y_run kX2_lay rfl ?_
        exact ih _ _ _ _ _ (by omega) (by omega) (by omega) hI) _ _ _ _ (Nat.lt_succ_self _) (by omega) (by omega) hI
theorem w_lay {b o ce1 ce2 : Nat} {g : yH} {t pw la a c x : Int} {E K R T : Nat → Int} {S : Nat → Bool} (hq : QF b g ce1 ce2 pw la) (hsc : SF b g t E K R T) (hf : PF0 b o g S a c x) {p : Int} (p1 : 0 ≤ p) (p2 : p < 120) (hI : MI b g h) : YM l G mX2_lay 3 0 0 [vr (b + 8), vr (b + 1), vr (b + o), vi p] h n (PV b g n) := by
  refine YM.of kX2_lay (Nat.le_of_ble_eq_true rfl) (L0 := [some (vr (b + 8)), some (vr (b + 1)), some (vr (b + o)), some (vi p), none, none, none, none]) rfl ?_
  obtain ⟨h1, h2, hq0⟩ := id hq
  obtain ⟨ho, hp, ⟨lo, hi, hL, hLb⟩, ⟨Fb, hFb, hFb2⟩, ⟨Fa, hFa, hFa2⟩⟩ := id hf
  refine y_run kX2_lay rfl ?_
  refine m_get kX2_lay (8) hI hq0 ?_
  refine y_run kX2_lay rfl ?_
  refine m_get kX2_lay (o) hI hp ?_ (t0 ho)
  refine y_run kX2_lay rfl ?_
  obtain ⟨Fv1, fv1e, fv1f⟩ := hI.i (t1 ho)
  obtain ⟨_, _, _, _, _, _, ev1, _⟩ := hI.o (k := 14) rfl
  refine y_cv kX2_lay kX1_setTo 2 rfl ev1 (by decide +kernel) (w_OsetTo hI rfl fv1e fv1f (by omega) (by omega) (by omega)) rfl rfl ?_
  rintro _ h _ ⟨rfl, hI, rfl⟩
  refine y_run kX2_lay rfl ?_
  refine m_get kX2_lay (8) hI hq0 ?_
  refine m_getO4 kX2_lay (14) hI rfl (fun v2 v2a v2b => ?_)
  refine y_run kX2_lay rfl ?_
  exact s_lay1 hq hsc hf p1 p2 _ _ _ _ _ _ (Nat.lt_succ_self _) (by omega) (by omega) hI
end C82
