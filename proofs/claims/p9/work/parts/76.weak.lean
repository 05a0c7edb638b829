/-! the pairs whose answers no one compares here: they return, and what holds between two calls holds again -/
section C76
variable {l : Launch} {G : xG} {h h' : yH} {n b : Nat}
theorem TL.w (tl : TL b h) {g : yH} (hI : MI b g h') (hb : ∀ o1 o2 dr, CX b h o1 o2 dr → ∀ k, k = 0 ∨ (o1 ≤ k ∧ k < o1 + 4) ∨ k = 540 ∨ k = 550 → g (b + k) = h (b + k)) : TL b h' := by
  obtain ⟨o1, a, P, W, D, Q, ⟨⟨o2, dr, c⟩, ⟨c', x, e1⟩, e2, e3, e4⟩, ⟨⟨i1, i2, i3, i4, i5, i6, e5⟩, e6⟩, tt⟩ := tl
  have ho : o1 = 20 ∨ o1 = 270 := by have := c.1; omega
  have e := hb o1 o2 dr c
  exact ⟨o1, a, P, W, D, Q, ⟨⟨o2, dr, c.on ((hI.kn (k := 0) rfl).trans (e 0 (by omega)))⟩, ⟨c', x, (hI.kn (t0 ho)).trans ((e _ (by omega)).trans e1)⟩, hI.pr (t1 ho) rfl ((e _ (by omega)).trans e2), hI.pr (t2 ho) rfl ((e _ (by omega)).trans e3), hI.pr (t3 ho) rfl ((e _ (by omega)).trans e4)⟩, ⟨⟨i1, i2, i3, i4, i5, i6, (hI.kn (k := 540) rfl).trans ((e 540 (by omega)).trans e5)⟩, hI.pr (k := 550) rfl rfl ((e 550 (by omega)).trans e6)⟩, tt⟩
theorem PR.weak (hi : INV b h) {Mx Mm : xM} {dx dm : Nat} {av : List xV} {lo hi' : Int} (hx : ∀ (t : Int) (E K R T : Nat → Int), CB b h t E K R T → MI b h h → YM l G Mx dx 0 0 (vr b :: av) h n (PB b h n t E K R T)) (hm : ∀ (h1 : yH) (B J : Nat → Int) (i0 i1 i2 i3 i4 i5 i6 : Int), RF b h1 B J i0 i1 i2 i3 i4 i5 i6 → MI b h1 h1 → YM l G Mm dm 0 0 (vr (b + 540) :: av) h1 n (PZ b h1 n lo hi')) : PR l G Mx Mm dx dm av b h n (fun _ _ => True) := by
  obtain ⟨t, E, K, R, Z, tk, Ek, Kk, Rk, B, J, Kp, hs, ho, hr, hk⟩ := hi
  obtain ⟨T, hc, hT⟩ := hs.t0.cb ho.1
  obtain ⟨⟨o1, o2, dr, hcx⟩, -⟩ := id hc
  have ho12 := hcx.1
  refine (hx t E K R T hc hs.2.2.2.2.2.1).imp (fun r h1 n1 q => ?_)
  obtain ⟨g, z, rfl, q1, q2, q3, rfl⟩ := q
  have q0 := q1 o1 o2 dr hcx
  have hs1 := hs.t0.wc (fun k k1 k2 k3 _ => q0 _ (by omega) (by omega)) q2 hT q3
  have tl1 : TL b h1 := hs.2.2.2.2.2.2.w q3 (fun p1 p2 ds hz k hk => by
    obtain ⟨e1, e2⟩ := hcx.eq hz
    exact q0 _ (by omega) (by omega))
  obtain ⟨i0, i1, i2, i3, i4, i5, i6, hf⟩ := hs1.rf ho.1 hr
  refine ⟨rfl, z, rfl, ⟨_, hf.1⟩, (hm h1 B J i0 i1 i2 i3 i4 i5 i6 hf hs1.2.2.2.2.2).imp (fun r2 h2 n2 w => ?_)⟩
  obtain ⟨z2, rfl, -, -, w1, rfl⟩ := w
  exact ⟨rfl, ⟨t, E, K, R, Z, tk, Ek, Kk, Rk, B, J, Kp, (hs1.wm (fun _ _ _ => rfl) hf w1).st (tl1.w w1 (fun _ _ _ _ _ _ => rfl)), ho, hr, hk⟩, z2, rfl, trivial⟩
theorem pr_pixel (hi : INV b h) {p q r : Int} (hp : inI p) (hq : inI q) (hr : inI r) : PR l G mX6_pixel mX7_pixel 1 2 [vi p, vi q, vi r] b h n (fun _ _ => True) := PR.weak hi (fun _ _ _ _ _ hc hI => w_pixel hc hp.1 hp.2 hq.1 hq.2 hr.1 hr.2 hI) (fun _ _ _ _ _ _ _ _ _ _ hf hI => w_mpixel hf hp.1 hp.2 hq.1 hq.2 hr.1 hr.2 hI)
theorem pr_seen (hi : INV b h) {p : Int} (hp : inI p) : PR l G mX6_seen mX7_seen 1 0 [vi p] b h n (fun _ _ => True) := PR.weak hi (fun _ _ _ _ _ hc hI => w_seen hc hp.1 hp.2 hI) (fun _ _ _ _ _ _ _ _ _ _ hf hI => w_mseen hf hp.1 hp.2 hI)
theorem pr_changed (hi : INV b h) {p : Int} (hp : inI p) : PR l G mX6_changed mX7_changed 1 1 [vi p] b h n (fun _ _ => True) := PR.weak hi (fun _ _ _ _ _ hc hI => w_changed hc hp.1 hp.2 hI) (fun _ _ _ _ _ _ _ _ _ _ hf hI => w_mchanged hf hp.1 hp.2 hI)
theorem pr_count (hi : INV b h) {p : Int} (hp : inI p) : PR l G mX6_count mX7_count 2 2 [vi p] b h n (fun _ _ => True) := PR.weak hi (fun _ _ _ _ _ hc hI => w_count hc hp.1 hp.2 hI) (fun _ _ _ _ _ _ _ _ _ _ hf hI => w_mcount hf hp.1 hp.2 hI)
theorem pr_covers (hi : INV b h) {p q : Int} (hp : inI p) (hq : inI q) : PR l G mX6_covers mX7_covers 3 3 [vi p, vi q] b h n (fun _ _ => True) := PR.weak hi (fun _ _ _ _ _ hc hI => w_covers hc hp.1 hp.2 hq.1 hq.2 hI) (fun _ _ _ _ _ _ _ _ _ _ hf hI => w_mcovers hf hp.1 hp.2 hq.1 hq.2 hI)
theorem pr_under (hi : INV b h) {p q r : Int} (hp : inI p) (hq : inI q) (hr : inI r) : PR l G mX6_under mX7_under 3 3 [vi p, vi q, vi r] b h n (fun _ _ => True) := PR.weak hi (fun _ _ _ _ _ hc hI => w_under hc hp.1 hp.2 hq.1 hq.2 hr.1 hr.2 hI) (fun _ _ _ _ _ _ _ _ _ _ hf hI => w_munder hf hp.1 hp.2 hq.1 hq.2 hr.1 hr.2 hI)
/-- the picture in which the rows of the spare pieces are free, all else protected -/
def gC (b o2 : Nat) (h : yH) : yH := fun q => if q = b + (o2 + 1) ∨ q = b + (o2 + 2) ∨ q = b + (o2 + 3) then none else h q
theorem gC_ne {o2 q : Nat} (hq : ¬ (q = b + (o2 + 1) ∨ q = b + (o2 + 2) ∨ q = b + (o2 + 3))) : gC b o2 h q = h q := if_neg hq
theorem gC_fr (b o2 : Nat) (h : yH) : FR b o2 (gC b o2 h) := ⟨if_pos (Or.inl rfl), if_pos (Or.inr (Or.inl rfl)), if_pos (Or.inr (Or.inr rfl))⟩
theorem gC_kn {o2 k : Nat} (ho : o2 = 20 ∨ o2 = 270) (hk : rTb k = none) : gC b o2 h (b + k) = h (b + k) := by
  refine gC_ne (fun z => ?_)
  rcases z with z | z | z
  · rw [show k = o2 + 1 by omega, t1 ho] at hk; cases hk
  · rw [show k = o2 + 2 by omega, t2 ho] at hk; cases hk
  · rw [show k = o2 + 3 by omega, t3 ho] at hk; cases hk
theorem MI.gc {o2 : Nat} (hI : MI b h h) (ho : o2 = 20 ∨ o2 = 270) : MI b (gC b o2 h) h := by
  refine hI.cg (fun q hq => ?_) (fun k c hk _ z => ?_)
  · refine (gC_ne (fun z => ?_)).symm
    rcases z with z | z | z
    · have := hq _ z; rw [t1 ho] at this; cases this
    · have := hq _ z; rw [t2 ho] at this; cases this
    · have := hq _ z; rw [t3 ho] at this; cases this
  · by_cases e : b + k = b + (o2 + 1) ∨ b + k = b + (o2 + 2) ∨ b + k = b + (o2 + 3)
    · exact absurd (if_pos e) z
    · exact (gC_ne e).symm
theorem CB.gc {o2 : Nat} {t : Int} {E K R T : Nat → Int} (hc : CB b h t E K R T) (ho : o2 = 20 ∨ o2 = 270) : CB b (gC b o2 h) t E K R T := by
  obtain ⟨⟨p1, p2, ds, c⟩, c2, c3, c4, c5⟩ := hc
  exact ⟨⟨p1, p2, ds, c.on (gC_kn ho rfl)⟩, c2.on2 (fun k _ _ k3 => gC_kn ho k3), c3.on2 (fun k _ _ k3 => gC_kn ho k3), c4.on (gC_kn ho rfl), c5.on (fun q q1 q2 => gC_ne (by omega))⟩
theorem CX.gc {o1 o2 : Nat} {dr : Int} (hc : CX b h o1 o2 dr) : CX b (gC b o2 h) o1 o2 dr := hc.on (gC_kn (by have := hc.1; omega) rfl)
theorem CX.fr {o1 o2 : Nat} {dr : Int} (hc : CX b h o1 o2 dr) : ∀ p1 p2 ds, CX b (gC b o2 h) p1 p2 ds → FR b p2 (gC b o2 h) := fun p1 p2 ds hz => by
  obtain ⟨-, e⟩ := hc.gc.eq hz
  rw [← e]
  exact gC_fr b o2 h
theorem pr_tangled (hi : INV b h) {p : Int} (hp : inI p) : PR l G mX6_tangled mX7_tangled 4 4 [vi p] b h n (fun _ _ => True) := by
  obtain ⟨t, E, K, R, Z, tk, Ek, Kk, Rk, B, J, Kp, hs, ho, hr, hk⟩ := hi
  obtain ⟨T, hc, hT⟩ := hs.t0.cb ho.1
  obtain ⟨⟨o1, o2, dr, hcx⟩, -⟩ := id hc
  have ho12 := hcx.1
  have ho2 : o2 = 20 ∨ o2 = 270 := by omega
  refine (w_tangled (hc.gc ho2) hcx.fr hp.1 hp.2 (hs.2.2.2.2.2.1.gc ho2)).imp (fun r h1 n1 q => ?_)
  obtain ⟨g, z, rfl, q1, q2, q3, rfl⟩ := q
  have q0 := q1 o1 o2 dr hcx.gc
  have q00 : ∀ k, k < o2 ∨ o2 + 5 ≤ k → g (b + k) = h (b + k) := fun k hk => (q0 _ (by omega) (by omega)).trans (gC_ne (by omega))
  have hs1 := hs.t0.wc (fun k k1 k2 k3 _ => q00 _ (by omega)) q2 hT q3
  have tl1 : TL b h1 := hs.2.2.2.2.2.2.w q3 (fun p1 p2 ds hz k hk => by
    obtain ⟨e1, e2⟩ := hcx.eq hz
    exact q00 _ (by omega))
  obtain ⟨i0, i1, i2, i3, i4, i5, i6, hf⟩ := hs1.rf ho.1 hr
  refine ⟨rfl, z, rfl, ⟨_, hf.1⟩, (w_mtangled hf hp.1 hp.2 hs1.2.2.2.2.2).imp (fun r2 h2 n2 w => ?_)⟩
  obtain ⟨z2, rfl, -, -, w1, rfl⟩ := w
  exact ⟨rfl, ⟨t, E, K, R, Z, tk, Ek, Kk, Rk, B, J, Kp, (hs1.wm (fun _ _ _ => rfl) hf w1).st (tl1.w w1 (fun _ _ _ _ _ _ => rfl)), ho, hr, hk⟩, z2, rfl, trivial⟩
/-! piece: both tell the same -/
def pcA (a : Int) (P W D : Nat → Int) (p q : Int) : Int := if 0 ≤ p ∧ p < a then (if q = 0 then W (D p.toNat).toNat else if q = 1 then D p.toNat else if 2 ≤ q ∧ q < 8 then P (D p.toNat * 6 + q - 2).toNat else -1) else -1
theorem e_piece {o1 : Nat} {a : Int} {P W D : Nat → Int} (tc : SHc b h o1 a P W D) (a1 : 0 ≤ a) (a2 : a ≤ 96) (hD : ∀ k : Nat, (k : Int) < a → 0 ≤ D k ∧ D k < 120) {p q : Int} (p1 : -2147483648 ≤ p) (p2 : p < 2147483648) (q1 : -2147483648 ≤ q) (q2 : q < 2147483648) (hI : MI b h h) : YM l G mX6_piece 1 0 0 [vr b, vi p, vi q] h n (fun r h' n' => r = some (vi (pcA a P W D p q)) ∧ h' = h ∧ n' = n) := by
  refine YM.of kX6_piece (Nat.le_of_ble_eq_true rfl) (L0 := [some (vr b), some (vi p), some (vi q), none]) rfl ?_
  have ho1 := tc.o
  obtain ⟨⟨o2, dr, ho12, hx, d1, d2⟩, ⟨c', x', hp1⟩, e2, e3, e4⟩ := tc
  refine y_run kX6_piece rfl ?_
  refine m_get kX6_piece (0) hI hx ?_
  refine m_get kX6_piece (o1) hI hp1 ?_ (t0 ho1)
  refine y_cs kX6_piece kX6_isBelow 2 rfl (by decide +kernel) (c_isBelow _ _ ⟨by omega, by omega⟩ ⟨by omega, by omega⟩) rfl rfl ?_
  rintro _ _ _ ⟨rfl, rfl, rfl⟩
  refine y_bne kX6_piece rfl rfl (fun c1 => ?_) (fun c1 => ?_)
  · have hd := hD p.toNat (by omega)
    refine y_run kX6_piece rfl ?_
    refine m_get kX6_piece (0) hI hx ?_
    refine m_get kX6_piece (o1) hI hp1 ?_ (t0 ho1)
    refine y_run kX6_piece rfl ?_
    refine y_ia kX6_piece rfl e4 (by omega) (by omega) ?_
    refine y_run kX6_piece rfl ?_
    by_cases tz0 : q = 0
    · subst tz0
      refine y_lsw kX6_piece rfl rfl rfl rfl ?_
      refine y_run kX6_piece rfl ?_
      refine m_get kX6_piece (0) hI hx ?_
      refine m_get kX6_piece (o1) hI hp1 ?_ (t0 ho1)
      refine y_run kX6_piece rfl ?_
      refine y_ia kX6_piece rfl e3 (by omega) (by omega) ?_
      exact y_ir kX6_piece rfl rfl ⟨by unfold pcA; rw [if_pos c1, if_pos rfl], rfl, rfl⟩
    by_cases tz1 : q = 1
    · subst tz1
      refine y_lsw kX6_piece rfl rfl rfl rfl ?_
      refine y_run kX6_piece rfl ?_
      exact y_ir kX6_piece rfl rfl ⟨by unfold pcA; rw [if_pos c1, if_neg (by omega), if_pos rfl], rfl, rfl⟩
    refine y_lsw (off := 37) kX6_piece rfl rfl (by simp [Op.lookupswitch.offset, Ne.symm tz0, Ne.symm tz1]) rfl ?_
    refine y_run kX6_piece rfl ?_
    refine YW.nr2 ?_
    refine y_cs kX6_piece kX6_isBelow 2 rfl (by decide +kernel) (c_isBelow _ _ ⟨(nrm_rng _).1, Int.lt_of_le_of_lt (nrm_rng _).2 (by omega)⟩ ⟨by omega, by omega⟩) rfl rfl ?_
    rintro _ _ _ ⟨rfl, rfl, rfl⟩
    have ee : (0 ≤ nrm (q - 2) ∧ nrm (q - 2) < 6) ↔ (2 ≤ q ∧ q < 8) := by
      by_cases z : -2147483648 ≤ q - 2
      · rw [nrm_id z (by omega)]; omega
      · have := nrm_mod (q - 2)
        omega
    refine y_beq kX6_piece rfl rfl (fun c2 => ?_) (fun c2 => ?_)
    · refine y_run kX6_piece rfl ?_
      exact y_ir kX6_piece rfl rfl ⟨by unfold pcA; rw [if_pos c1, if_neg tz0, if_neg tz1, if_neg (fun z => c2 (ee.mpr z))], rfl, rfl⟩
    · have c3 := ee.mp c2
      refine y_run kX6_piece rfl ?_
      refine m_get kX6_piece (0) hI hx ?_
      refine m_get kX6_piece (o1) hI hp1 ?_ (t0 ho1)
      refine y_run kX6_piece rfl ?_
      refine y_ia kX6_piece rfl e2 (by omega) (by omega) ?_
      refine y_run kX6_piece rfl ?_
      exact y_ir kX6_piece rfl rfl ⟨by unfold pcA; rw [if_pos c1, if_neg tz0, if_neg tz1, if_pos c3], rfl, rfl⟩
  · refine y_run kX6_piece rfl ?_
    exact y_ir kX6_piece rfl rfl ⟨by unfold pcA; rw [if_neg c1], rfl, rfl⟩
theorem e_mpiece {a i1 i2 i3 i4 i5 i6 : Int} {Q : Nat → Int} (hm : h (b + 540) = some (mo (b + 540) a i1 i2 i3 i4 i5 i6)) (hQ : h (b + 550) = some (ai 768 Q)) (a1 : 0 ≤ a) (a2 : a ≤ 96) {p q : Int} (p1 : -2147483648 ≤ p) (p2 : p < 2147483648) (q1 : -2147483648 ≤ q) (q2 : q < 2147483648) (hI : MI b h h) : YM l G mX7_piece 1 0 0 [vr (b + 540), vi p, vi q] h n (fun r h' n' => r = some (vi (if (0 ≤ p ∧ p < a) ∧ 0 ≤ q ∧ q < 8 then Q (8 * p + q).toNat else -1)) ∧ h' = h ∧ n' = n) := by
  refine YM.of kX7_piece (Nat.le_of_ble_eq_true rfl) (L0 := [some (vr (b + 540)), some (vi p), some (vi q)]) rfl ?_
  refine y_run kX7_piece rfl ?_
  refine m_get kX7_piece (540) hI hm ?_
  refine y_cs kX7_piece kX7_in 2 rfl (by decide +kernel) (c_in _ _ ⟨by omega, by omega⟩ ⟨by omega, by omega⟩) rfl rfl ?_
  rintro _ _ _ ⟨rfl, rfl, rfl⟩
  refine y_beq kX7_piece rfl rfl (fun c1 => ?_) (fun c1 => ?_)
  · refine y_run kX7_piece rfl ?_
    exact y_ir kX7_piece rfl rfl ⟨by rw [if_neg (fun z => c1 z.1)], rfl, rfl⟩
  · refine y_run kX7_piece rfl ?_
    refine y_cs kX7_piece kX7_in 2 rfl (by decide +kernel) (c_in _ _ ⟨by omega, by omega⟩ ⟨by omega, by omega⟩) rfl rfl ?_
    rintro _ _ _ ⟨rfl, rfl, rfl⟩
    refine y_beq kX7_piece rfl rfl (fun c2 => ?_) (fun c2 => ?_)
    · refine y_run kX7_piece rfl ?_
      exact y_ir kX7_piece rfl rfl ⟨by rw [if_neg (fun z => c2 z.2)], rfl, rfl⟩
    · refine y_run kX7_piece rfl ?_
      refine m_get kX7_piece (540) hI hm ?_
      refine y_run kX7_piece rfl ?_
      refine y_ia kX7_piece rfl hQ (by omega) (by omega) ?_
      refine y_run kX7_piece rfl ?_
      exact y_ir kX7_piece rfl rfl ⟨by rw [if_pos ⟨c1, c2⟩], rfl, rfl⟩
theorem pcA_eq {a : Int} {P W D Q : Nat → Int} (ht : TLR a P W D Q) (p q : Int) : pcA a P W D p q = if (0 ≤ p ∧ p < a) ∧ 0 ≤ q ∧ q < 8 then Q (8 * p + q).toNat else -1 := by
  unfold pcA
  by_cases c1 : 0 ≤ p ∧ p < a
  · rw [if_pos c1]
    obtain ⟨d, t1, t2, t3⟩ := ht p.toNat (by omega)
    by_cases c2 : q = 0
    · rw [if_pos c2, if_pos ⟨c1, by omega⟩, show (8 * p + q).toNat = 8 * p.toNat by omega, t1]
    · rw [if_neg c2]
      by_cases c3 : q = 1
      · rw [if_pos c3, if_pos ⟨c1, by omega⟩, show (8 * p + q).toNat = 8 * p.toNat + 1 by omega, t2]
      · rw [if_neg c3]
        by_cases c4 : 2 ≤ q ∧ q < 8
        · rw [if_pos c4, if_pos ⟨c1, by omega⟩, show (8 * p + q).toNat = 8 * p.toNat + 2 + (q - 2).toNat by omega, t3 _ (by omega)]
          congr 1
          omega
        · rw [if_neg c4, if_neg (fun z => by have := z.2; omega)]
  · rw [if_neg c1, if_neg (fun z => c1 z.1)]
theorem pe_piece (hi : INV b h) {p q : Int} (hp : inI p) (hq : inI q) : PR l G mX6_piece mX7_piece 1 1 [vi p, vi q] b h n (fun z z2 => z = z2) := by
  obtain ⟨t, E, K, R, Z, tk, Ek, Kk, Rk, B, J, Kp, hs, ho, hr, hk⟩ := hi
  obtain ⟨o1, a, P, W, D, Q, tc, ⟨⟨i1, i2, i3, i4, i5, i6, e5⟩, e6⟩, a1, a2, tr⟩ := hs.2.2.2.2.2.2
  refine (e_piece tc a1 a2 (fun k hk => (tr k hk).1) hp.1 hp.2 hq.1 hq.2 hs.2.2.2.2.2.1).imp (fun r h1 n1 y => ?_)
  obtain ⟨rfl, rfl, rfl⟩ := y
  refine ⟨rfl, _, rfl, ⟨_, e5⟩, (e_mpiece e5 e6 a1 a2 hp.1 hp.2 hq.1 hq.2 hs.2.2.2.2.2.1).imp (fun r2 h2 n2 y => ?_)⟩
  obtain ⟨rfl, rfl, rfl⟩ := y
  exact ⟨rfl, ⟨t, E, K, R, Z, tk, Ek, Kk, Rk, B, J, Kp, hs, ho, hr, hk⟩, _, rfl, pcA_eq tr p q⟩
end C76
