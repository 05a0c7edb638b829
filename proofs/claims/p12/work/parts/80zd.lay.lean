/-! the picture: what a piece leaves at a pixel -/
def iZ (z : Int) : Int := z % 64 - 32
def jZ (z : Int) : Int := z / 64 - 64
def inkP (K R : Nat → Int) (w a c e f : Int) : Int := yshr (R (K (w * 4 + 1 + f).toNat * 8 + (if f = 2 then e + c else e) / 4 % 8).toNat) (2 * ((if f = 0 then e + c else e + a) / 4 % 8)) % 4
def rxU (P : Nat → Int) (u : Nat) (z : Int) : Int := rex (P (6 * u + 1)) (P (6 * u + 3)) (P (6 * u + 5)) (aX z) (aY z)
def rfU (P : Nat → Int) (u : Nat) (z : Int) : Int := rfc (P (6 * u + 1)) (P (6 * u + 3)) (P (6 * u + 5)) (aX z) (aY z)
def ikU (P W K R : Nat → Int) (u : Nat) (z : Int) : Int := inkP K R (W u) (aX z) (aY z) (rxU P u z) (rfU P u z)
def owU (P W E : Nat → Int) (u : Nat) (z : Int) : Prop := P (6 * u + (2 * rfU P u z + 1).toNat) = E (6 * (W u).toNat + (2 * rfU P u z + 1).toNat)
def lkU (P W K R : Nat → Int) (u : Nat) (z : Int) : Int := W u * 256 + rfU P u z * 64 + ikU P W K R u z * 16 + K (W u * 4).toNat
def cand (P W E K R : Nat → Int) (u : Nat) (z : Int) : Prop := seeB P u z ∧ ikU P W K R u z ≠ 0 ∧ owU P W E u z
theorem ikU_b (P W K R : Nat → Int) (u : Nat) (z : Int) : 0 ≤ ikU P W K R u z ∧ ikU P W K R u z ≤ 3 := by
  unfold ikU inkP
  omega
theorem rfU_b (P : Nat → Int) (u : Nat) (z : Int) : 0 ≤ rfU P u z ∧ rfU P u z ≤ 2 := rfc_b _ _ _ _ _
theorem cZ_inj {y z : Int} (y0 : 0 ≤ y) (y1 : y < 8192) (z0 : 0 ≤ z) (z1 : z < 8192) (h : cZ y = cZ z) : y = z := by
  unfold cZ at h
  omega
theorem cZ_lt {z : Int} (z0 : 0 ≤ z) (z1 : z < 8192) : cZ z < 8192 := by
  unfold cZ
  omega
theorem see_ol {P : Nat → Int} {u : Nat} (hs : sd P (u : Int)) (z : Int) : seeB P u z ↔ olP (P (6 * u + 0) - P (6 * u + 5)) (P (6 * u + 1) - P (6 * u + 4)) (P (6 * u + 2) - P (6 * u + 5)) (P (6 * u + 3) - P (6 * u + 4)) (P (6 * u + 0) - P (6 * u + 3)) (P (6 * u + 1) - P (6 * u + 2) - 1) (iZ z) (jZ z) := by
  obtain ⟨s1, s2, s3⟩ := (sd_n P u).mp hs
  have := hit_iff (i := iZ z) (j := jZ z) (a := aX z) (c := aY z) s1 s2 s3 (by unfold aX iZ jZ; omega) (by unfold aY iZ jZ; omega)
  rw [neg_max (aX z - 4 * P (6 * u + 1)) (aY z - 4 * P (6 * u + 3)) (-4 * P (6 * u + 5)) (4 * P (6 * u + 1) - aX z) (4 * P (6 * u + 3) - aY z) (4 * P (6 * u + 5)) (by omega) (by omega) (by omega)] at this
  exact this
theorem upZ_ov (F : Nat → Int) (k : Nat) (u v : Int) : upZ (upZ F k u) k v = upZ F k v := by
  funext j
  by_cases e : j = k
  · rw [e, upZ_eq, upZ_eq]
  · rw [upZ_ne _ _ e, upZ_ne _ _ e, upZ_ne _ _ e]
section C80zd
variable {l : Launch} {G : xG} {h : yH} {n : Nat} {b o ce1 ce2 : Nat} {g : yH} {t pw la aa cc xx : Int} {E K R T P W F : Nat → Int}
theorem e_inkAt (hsc : SF b g t E K R T) {p a c e f : Int} (p1 : 0 ≤ p) (p2 : p < 24) (eR : h (b + 13) = some (ob 4 [vi a, vi c, vi e, vi f])) (s0 : sm a) (s1 : sm c) (s2 : sm e) (f1 : 0 ≤ f) (f2 : f ≤ 2) (hI : MI b g h) : YM l G mX5_inkAt 2 0 0 [vr (b + 1), vi p, vr (b + 13)] h n (fun r h' n' => r = some (vi (inkP K R p a c e f)) ∧ h' = h ∧ n' = n) := by
  refine YM.of kX5_inkAt (Nat.le_of_ble_eq_true rfl) (L0 := [some (vr (b + 1)), some (vi p), some (vr (b + 13)), none, none]) rfl ?_
  refine y_run kX5_inkAt rfl ?_
  refine m_get kX5_inkAt (1) hI hsc.1.1 ?_
  refine y_run kX5_inkAt rfl ?_
  refine y_get kX5_inkAt rfl rfl eR rfl ?_
  refine y_run kX5_inkAt rfl ?_
  have hk1 := hsc.2.2.1 p (1 + f) p1 p2 (by omega) (by omega)
  rw [show p * 4 + (1 + f) = p * 4 + 1 + f by omega] at hk1
  refine y_ia kX5_inkAt rfl (hI.x (k := 3) rfl hsc.1.2.2.1) (by omega) (by omega) ?_
  refine y_run kX5_inkAt rfl ?_
  refine m_get kX5_inkAt (1) hI hsc.1.1 ?_
  refine y_run kX5_inkAt rfl ?_
  refine y_cv kX5_inkAt kX4_spotRow 0 rfl eR (by decide +kernel) (c_RspotRow eR s0 s1 s2 ⟨by omega, by omega⟩) rfl rfl ?_
  rintro _ h2 _ ⟨rfl, eh, rfl⟩
  subst eh
  refine y_run kX5_inkAt rfl ?_
  have hrow : 0 ≤ (if f = 2 then e + c else e) / 4 % 8 ∧ (if f = 2 then e + c else e) / 4 % 8 < 8 := ⟨Int.emod_nonneg _ (by omega), Int.emod_lt_of_pos _ (by omega)⟩
  refine y_ia kX5_inkAt rfl (hI.x (k := 4) rfl hsc.1.2.2.2.1) (by omega) (by omega) ?_
  refine y_run kX5_inkAt rfl ?_
  refine y_cv kX5_inkAt kX4_spotPlace 0 rfl eR (by decide +kernel) (c_RspotPlace eR s0 s1 s2 ⟨by omega, by omega⟩) rfl rfl ?_
  rintro _ h3 _ ⟨rfl, eh, rfl⟩
  subst eh
  refine y_run kX5_inkAt rfl ?_
  rw [yand_3]
  exact y_ir kX5_inkAt rfl rfl ⟨rfl, rfl, rfl⟩
theorem e_layInk (hq : QF b g ce1 ce2 pw la) (hsc : SF b g t E K R T) (ho : o = 20 ∨ o = 270) (hp : g (b + o) = some (pO b o aa cc xx)) {p i z a c e f : Int} (p1 : 0 ≤ p) (p2 : p < 120) (i1 : 0 ≤ i) (i2 : i ≤ 3) (z1 : 0 ≤ z) (z2 : z < 8192) (f1 : 0 ≤ f) (f2 : f ≤ 2) (w1 : 0 ≤ W p.toNat) (w2 : W p.toNat < 24) (eP : h (b + (o + 1)) = some (ai 720 P)) (eW : h (b + (o + 2)) = some (ai 120 W)) (eR : h (b + 13) = some (ob 4 [vi a, vi c, vi e, vi f])) (eF : h (b + ce1) = some (ai 8192 F)) (hI : MI b g h) : YM l G mX2_layInk 1 0 0 [vr (b + 8), vr (b + 1), vr (b + o), vi p, vi i, vi z] h n (fun r h' n' => r = none ∧ n' = n ∧ ∃ V : Int, h' = yup h (b + ce1) (ai 8192 (upZ F z.toNat V)) ∧ (P (p * 6 + (2 * f + 1)).toNat = E (W p.toNat * 6 + (2 * f + 1)).toNat → V % 65536 = W p.toNat * 256 + f * 64 + i * 16 + K (W p.toNat * 4).toNat) ∧ (P (p * 6 + (2 * f + 1)).toNat ≠ E (W p.toNat * 6 + (2 * f + 1)).toNat → V % 65536 = F z.toNat % 65536)) := by
  refine YM.of kX2_layInk (Nat.le_of_ble_eq_true rfl) (L0 := [some (vr (b + 8)), some (vr (b + 1)), some (vr (b + o)), some (vi p), some (vi i), some (vi z), none, none, none]) rfl ?_
  obtain ⟨h1, h2, hq0⟩ := id hq
  have c8 : ∀ (v : Nat → Int), yup h (b + ce1) (ai 8192 v) (b + 8) = some (qO b ce1 ce2 pw la) := fun v => (yup_ne _ _ (by omega)).trans (hI.x (k := 8) rfl hq0)
  refine y_run kX2_layInk rfl ?_
  refine m_get kX2_layInk (o) hI hp ?_ (t0 ho)
  refine y_run kX2_layInk rfl ?_
  refine y_ia kX2_layInk rfl eW (by omega) (by omega) ?_
  refine y_run kX2_layInk rfl ?_
  refine m_get kX2_layInk (8) hI hq0 ?_
  refine y_get kX2_layInk rfl rfl eR rfl ?_
  refine y_run kX2_layInk rfl ?_
  refine m_get kX2_layInk (o) hI hp ?_ (t0 ho)
  refine y_run kX2_layInk rfl ?_
  refine y_ia kX2_layInk rfl eP (by omega) (by omega) ?_
  refine y_run kX2_layInk rfl ?_
  refine m_get kX2_layInk (1) hI hsc.1.1 ?_
  refine y_run kX2_layInk rfl ?_
  refine y_ia kX2_layInk rfl (hI.x (k := 2) rfl hsc.1.2.1) (by omega) (by omega) ?_
  have bP : ∀ j, 0 ≤ P j ∧ P j ≤ 32 := by
    obtain ⟨F', e', hF⟩ := hI.i (t1 ho)
    rw [ai_inj eP e']
    exact hF
  have bp := bP (p * 6 + (2 * f + 1)).toNat
  have bE := hsc.2.1 (W p.toNat * 6 + (2 * f + 1)).toNat
  refine y_ic_ne kX2_layInk rfl rfl (fun c1 => ?_) (fun c1 => ?_)
  · refine y_run kX2_layInk rfl ?_
    refine m_get kX2_layInk (8) hI hq0 ?_
    refine y_run kX2_layInk rfl ?_
    refine y_ia kX2_layInk rfl eF (by omega) (by omega) ?_
    refine y_ldc (z := 65536) kX2_layInk rfl (by decide +kernel) ?_
    refine y_run kX2_layInk rfl ?_
    refine y_is kX2_layInk rfl eF (by omega) (by omega) ?_
    exact y_vr kX2_layInk rfl rfl ⟨rfl, rfl, _, rfl, fun q => absurd q c1, fun _ => by omega⟩
  · refine y_run kX2_layInk rfl ?_
    refine m_get kX2_layInk (8) hI hq0 ?_
    refine y_get kX2_layInk rfl rfl eR rfl ?_
    refine y_run kX2_layInk rfl ?_
    refine m_get kX2_layInk (1) hI hsc.1.1 ?_
    refine y_run kX2_layInk rfl ?_
    have hk1 := hsc.2.2.2.1 (W p.toNat) (by omega) (by omega)
    refine y_ia kX2_layInk rfl (hI.x (k := 3) rfl hsc.1.2.2.1) (by omega) (by omega) ?_
    refine y_run kX2_layInk rfl ?_
    refine y_cs kX2_layInk kX2_lookOf 4 rfl (by decide +kernel) (c_lookOf (by omega) (by omega) (by omega) (by omega) (by omega) (by omega) (by omega) (by omega)) rfl rfl ?_
    rintro _ h3 _ ⟨rfl, eh, rfl⟩
    subst eh
    refine y_run kX2_layInk rfl ?_
    refine m_get kX2_layInk (8) hI hq0 ?_
    refine y_run kX2_layInk rfl ?_
    refine m_get kX2_layInk (8) hI hq0 ?_
    refine y_run kX2_layInk rfl ?_
    refine y_ia kX2_layInk rfl eF (by omega) (by omega) ?_
    have hbits := hi_bits (F z.toNat)
    refine y_ldc (z := -65536) kX2_layInk rfl (by decide +kernel) ?_
    refine y_run kX2_layInk rfl ?_
    refine y_is kX2_layInk rfl eF (by omega) (by omega) ?_
    refine y_run kX2_layInk rfl ?_
    refine y_get kX2_layInk rfl rfl (c8 _) rfl ?_
    refine y_run kX2_layInk rfl ?_
    refine y_ia kX2_layInk rfl (yup_eq _ _ _) (by omega) (by omega) ?_
    rw [upZ_eq]
    refine y_ldc (z := 65536) kX2_layInk rfl (by decide +kernel) ?_
    refine y_run kX2_layInk rfl ?_
    refine y_is2 kX2_layInk rfl (by omega) (by omega) ?_
    rw [upZ_ov]
    exact y_vr kX2_layInk rfl rfl ⟨rfl, rfl, _, rfl, fun _ => by omega, fun q => absurd c1 q⟩
/-- the pixels that were reached -/
def dnZ (i j z : Int) : Prop := iZ z < i ∨ (iZ z = i ∧ jZ z < j)
def LYI (P W E K R : Nat → Int) (u : Nat) (F0 F : Nat → Int) (D : Int → Prop) : Prop := ∀ z, 0 ≤ z → z < 8192 → ((cand P W E K R u z ∧ D z) → F (cZ z) % 65536 = lkU P W K R u z) ∧ (¬ (cand P W E K R u z ∧ D z) → F (cZ z) % 65536 = F0 (cZ z) % 65536)
theorem LYI.cg {u : Nat} {F0 : Nat → Int} {D D' : Int → Prop} (h : LYI P W E K R u F0 F D) (e : ∀ z, 0 ≤ z → z < 8192 → cand P W E K R u z → (D z ↔ D' z)) : LYI P W E K R u F0 F D' := fun z z0 z1 => by
  obtain ⟨k1, k2⟩ := h z z0 z1
  exact ⟨fun q => k1 ⟨q.1, (e z z0 z1 q.1).mpr q.2⟩, fun q => k2 (fun y => q ⟨y.1, (e z z0 z1 y.1).mp y.2⟩)⟩
theorem LYI.up {u : Nat} {F0 : Nat → Int} {i j V : Int} (h : LYI P W E K R u F0 F (dnZ i j)) {y : Int} (y0 : 0 ≤ y) (y1 : y < 8192) (yi : iZ y = i) (yj : jZ y = j) (k1 : cand P W E K R u y → V % 65536 = lkU P W K R u y) (k2 : ¬ cand P W E K R u y → V % 65536 = F (cZ y) % 65536) : LYI P W E K R u F0 (upZ F (cZ y) V) (dnZ i (j + 1)) := fun z z0 z1 => by
  obtain ⟨q1, q2⟩ := h z z0 z1
  by_cases e : z = y
  · subst e
    rw [upZ_eq]
    have dn : dnZ i (j + 1) z := Or.inr ⟨yi, by omega⟩
    have nd : ¬ dnZ i j z := fun q => by unfold dnZ at q; omega
    refine ⟨fun q => k1 q.1, fun q => ?_⟩
    rw [k2 (fun w => q ⟨w, dn⟩)]
    exact q2 (fun w => nd w.2)
  · rw [upZ_ne _ _ (fun w => e (cZ_inj z0 z1 y0 y1 w))]
    have dd : dnZ i (j + 1) z ↔ dnZ i j z := by
      unfold dnZ
      have : ¬ (iZ z = i ∧ jZ z = j) := fun q => e (by unfold iZ jZ at *; omega)
      omega
    exact ⟨fun q => q1 ⟨q.1, dd.mp q.2⟩, fun q => q2 (fun w => q ⟨w.1, dd.mpr w.2⟩)⟩
end C80zd
