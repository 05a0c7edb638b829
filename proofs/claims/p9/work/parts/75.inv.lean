/-! WHAT HOLDS BETWEEN TWO CALLS: both sides hold the same scene, and the same kept ones -/
def okS (t : Int) (E K R : Nat → Int) : Prop := okE t E ∧ (∀ v k : Int, 0 ≤ v → v < 24 → 1 ≤ k → k < 4 → 0 ≤ K (v * 4 + k).toNat ∧ K (v * 4 + k).toNat < 8) ∧ (∀ v : Int, 0 ≤ v → v < 24 → 0 ≤ K (v * 4).toNat ∧ K (v * 4).toNat < 16) ∧ ∀ j, -2147483648 ≤ R j ∧ R j ≤ 2147483647
def okD (t : Int) (E K R : Nat → Int) : Prop := okS t E K R ∧ DJ t E
def bB (B : Nat → Int) : Prop := ∀ j, 0 ≤ B j ∧ B j ≤ 32
def bJ (J : Nat → Int) : Prop := ∀ j, -2147483648 ≤ J j ∧ J j ≤ 2147483647
def bT (T : Nat → Int) : Prop := ∀ j, -1 ≤ T j ∧ T j ≤ 33
def bH (H : Nat → Int) : Prop := ∀ j, -1 ≤ H j ∧ H j ≤ 32
def CC (b : Nat) (h : yH) : Prop := (∃ o1 o2 dr, CX b h o1 o2 dr) ∧ PJ b 20 h ∧ PJ b 270 h ∧ QJ b h
def CS (b : Nat) (h : yH) (t : Int) (E K R : Nat → Int) : Prop := ∃ T, SC h (b + 1) t E K R T ∧ bT T
def CK (b : Nat) (h : yH) (Z tk : Nat → Int) (Ek Kk Rk : Nat → Nat → Int) : Prop := (∃ F, h (b + 6) = some (aq 2 4 F) ∧ ∀ k, k < 4 → F k = some (b + (520 + 5 * k))) ∧ h (b + 7) = some (az 4 Z) ∧ (∀ j, Z j = 0 ∨ Z j = 1) ∧ ∀ k, k < 4 → ∃ T, SC h (b + (520 + 5 * k)) (tk k) (Ek k) (Kk k) (Rk k) T
def RS (b : Nat) (h : yH) (B J : Nat → Int) : Prop := (∃ i0 i1 i2 i3 i4 i5 i6, h (b + 540) = some (mo (b + 540) i0 i1 i2 i3 i4 i5 i6) ∧ 0 ≤ i0 ∧ i0 ≤ 96 ∧ -2147483648 ≤ i5 ∧ i5 ≤ 2147483647) ∧ h (b + 541) = some (ai 264 B) ∧ h (b + 542) = some (ai 64 J) ∧ bB B ∧ bJ J ∧ (∃ T, h (b + 554) = some (ai 6 T) ∧ bT T) ∧ ∃ H, h (b + 555) = some (ai 24 H) ∧ bH H
def RK (b : Nat) (h : yH) (Z Kp : Nat → Int) : Prop := h (b + 543) = some (ai 1312 Kp) ∧ h (b + 544) = some (az 4 Z)
def KR (Z tk : Nat → Int) (Ek Kk Rk : Nat → Nat → Int) (Kp : Nat → Int) : Prop := ∀ k, k < 4 → okD (tk k) (Ek k) (Kk k) (Rk k) ∧ (Z k = 1 → ∃ Bk Jk, bB Bk ∧ bJ Jk ∧ REL (tk k) (Ek k) (Kk k) (Rk k) Bk Jk ∧ (∀ j, j < 264 → Kp (328 * k + j) = Bk j) ∧ ∀ j, j < 64 → Kp (328 * k + 264 + j) = Jk j)
/-- what was told: the shown pieces of the class are those that the reference tells -/
def TLR (a : Int) (P W D Q : Nat → Int) : Prop := ∀ k : Nat, (k : Int) < a → (0 ≤ D k ∧ D k < 120) ∧ Q (8 * k) = W (D k).toNat ∧ Q (8 * k + 1) = D k ∧ ∀ i : Nat, i < 6 → Q (8 * k + 2 + i) = P (6 * (D k).toNat + i)
def SHc (b : Nat) (h : yH) (o1 : Nat) (a : Int) (P W D : Nat → Int) : Prop := (∃ o2 dr, CX b h o1 o2 dr) ∧ (∃ c x, h (b + o1) = some (pO b o1 a c x)) ∧ h (b + (o1 + 1)) = some (ai 720 P) ∧ h (b + (o1 + 2)) = some (ai 120 W) ∧ h (b + (o1 + 3)) = some (ai 96 D)
def SHm (b : Nat) (h : yH) (a : Int) (Q : Nat → Int) : Prop := (∃ i1 i2 i3 i4 i5 i6, h (b + 540) = some (mo (b + 540) a i1 i2 i3 i4 i5 i6)) ∧ h (b + 550) = some (ai 768 Q)
def TL (b : Nat) (h : yH) : Prop := ∃ o1 a P W D Q, SHc b h o1 a P W D ∧ SHm b h a Q ∧ 0 ≤ a ∧ a ≤ 96 ∧ TLR a P W D Q
def MJ (b : Nat) (h : yH) : Prop := MI b h h ∧ TL b h
/-- the cells, by what they hold -/
def ST0 (b : Nat) (h : yH) (t : Int) (E K R : Nat → Int) (Z tk : Nat → Int) (Ek Kk Rk : Nat → Nat → Int) (B J Zm Kp : Nat → Int) : Prop := CC b h ∧ CS b h t E K R ∧ CK b h Z tk Ek Kk Rk ∧ RS b h B J ∧ RK b h Zm Kp ∧ MI b h h
def ST (b : Nat) (h : yH) (t : Int) (E K R : Nat → Int) (Z tk : Nat → Int) (Ek Kk Rk : Nat → Nat → Int) (B J Zm Kp : Nat → Int) : Prop := CC b h ∧ CS b h t E K R ∧ CK b h Z tk Ek Kk Rk ∧ RS b h B J ∧ RK b h Zm Kp ∧ MJ b h
def INV (b : Nat) (h : yH) : Prop := ∃ t E K R Z tk Ek Kk Rk B J Kp, ST b h t E K R Z tk Ek Kk Rk B J Z Kp ∧ okD t E K R ∧ REL t E K R B J ∧ KR Z tk Ek Kk Rk Kp
theorem MI.kn {b : Nat} {g h : yH} (hI : MI b g h) {k : Nat} (hk : rTb k = none) : h (b + k) = g (b + k) := hI.2 (b + k) (fun j hj => by rw [show j = k by omega]; exact hk)
theorem rTb_lo {k : Nat} (hk : k < 9) : rTb k = none := by
  rcases (show k = 0 ∨ k = 1 ∨ k = 2 ∨ k = 3 ∨ k = 4 ∨ k = 5 ∨ k = 6 ∨ k = 7 ∨ k = 8 by omega) with rfl | rfl | rfl | rfl | rfl | rfl | rfl | rfl | rfl <;> rfl
theorem rTb_kp {k : Nat} (h1 : 520 ≤ k) (h2 : k < 540) : rTb k = none := by unfold rTb; rw [if_neg (by omega), if_neg (by omega), if_neg (by omega), if_pos h2]
theorem rTb_mo {k : Nat} (h1 : 540 ≤ k) : rTb k = mTb (k - 540) := by unfold rTb; rw [if_neg (by omega), if_neg (by omega), if_neg (by omega), if_neg (by omega)]
theorem rTb_m5 {k : Nat} (h1 : 540 ≤ k) (h2 : k < 545 ∨ 554 ≤ k) : rTb k = none := by
  rw [rTb_mo h1]
  rcases (show k - 540 = 0 ∨ k - 540 = 1 ∨ k - 540 = 2 ∨ k - 540 = 3 ∨ k - 540 = 4 ∨ 14 ≤ k - 540 by omega) with e | e | e | e | e | e
  · rw [e]; rfl
  · rw [e]; rfl
  · rw [e]; rfl
  · rw [e]; rfl
  · rw [e]; rfl
  · obtain ⟨j, e⟩ : ∃ j, k - 540 = j + 14 := ⟨k - 540 - 14, by omega⟩
    rw [e]; rfl
section C75
variable {b : Nat} {h h' : yH} {t : Int} {E K R Z tk B J Zm Kp : Nat → Int} {Ek Kk Rk : Nat → Nat → Int}
theorem PJ.on2 {o : Nat} (hp : PJ b o h) (e : ∀ k, 20 ≤ k → k < 520 → rTb k = none → h' (b + k) = h (b + k)) : PJ b o h' := by
  obtain ⟨S, a, c, x, ⟨f1, f2, ⟨lo, hi, f3, f4⟩, ⟨F, f5, f6⟩, F', f7, f8⟩, hr⟩ := hp
  have r0 : rTb (o + 0) = none := by rw [rTb_p f1 (by omega)]; rfl
  have r4 : rTb (o + 4) = none := by rw [rTb_p f1 (by omega)]; rfl
  have r5 : rTb (o + 5) = none := by rw [rTb_p f1 (by omega)]; rfl
  have r6 : rTb (o + 6) = none := by rw [rTb_p f1 (by omega)]; rfl
  exact ⟨S, a, c, x, ⟨f1, (e (o + 0) (by omega) (by omega) r0).trans f2, ⟨lo, hi, (e _ (by omega) (by omega) r4).trans f3, f4⟩, ⟨F, (e _ (by omega) (by omega) r5).trans f5, f6⟩, F', (e _ (by omega) (by omega) r6).trans f7, f8⟩, hr⟩
theorem CC.on (hc : CC b h) (e : ∀ k, k = 0 ∨ k = 8 ∨ (20 ≤ k ∧ k < 520) → rTb k = none → h' (b + k) = h (b + k)) : CC b h' := by
  obtain ⟨⟨o1, o2, dr, c1⟩, c2, c3, c4⟩ := hc
  exact ⟨⟨o1, o2, dr, c1.on (e 0 (by omega) rfl)⟩, c2.on2 (fun k k1 k2 k3 => e k (by omega) k3), c3.on2 (fun k k1 k2 k3 => e k (by omega) k3), c4.on (e 8 (by omega) rfl)⟩
theorem CS.on (hc : CS b h t E K R) (e : ∀ k, 1 ≤ k → k < 6 → h' (b + k) = h (b + k)) : CS b h' t E K R := by
  obtain ⟨T, c1, c2⟩ := hc
  exact ⟨T, c1.cp (fun k hk => by rw [show b + 1 + k = b + (1 + k) by omega]; exact e _ (by omega) (by omega)), c2⟩
theorem CK.on (hc : CK b h Z tk Ek Kk Rk) (e : ∀ k, k = 6 ∨ k = 7 ∨ (520 ≤ k ∧ k < 540) → h' (b + k) = h (b + k)) : CK b h' Z tk Ek Kk Rk := by
  obtain ⟨⟨F, c1, c2⟩, c3, c4, c5⟩ := hc
  refine ⟨⟨F, (e 6 (by omega)).trans c1, c2⟩, (e 7 (by omega)).trans c3, c4, fun k hk => ?_⟩
  obtain ⟨T, q⟩ := c5 k hk
  exact ⟨T, q.cp (fun j hj => by rw [show b + (520 + 5 * k) + j = b + (520 + 5 * k + j) by omega]; exact e _ (by omega))⟩
theorem RS.on (hc : RS b h B J) (e : ∀ k, k = 540 ∨ k = 541 ∨ k = 542 ∨ k = 554 ∨ k = 555 → h' (b + k) = h (b + k)) : RS b h' B J := by
  obtain ⟨⟨i0, i1, i2, i3, i4, i5, i6, c1, c2⟩, c3, c4, c5, c6, ⟨T, c7, c8⟩, H, c9, c10⟩ := hc
  exact ⟨⟨i0, i1, i2, i3, i4, i5, i6, (e 540 (by omega)).trans c1, c2⟩, (e 541 (by omega)).trans c3, (e 542 (by omega)).trans c4, c5, c6, ⟨T, (e 554 (by omega)).trans c7, c8⟩, H, (e 555 (by omega)).trans c9, c10⟩
theorem RK.on (hc : RK b h Zm Kp) (e : ∀ k, k = 543 ∨ k = 544 → h' (b + k) = h (b + k)) : RK b h' Zm Kp := ⟨(e 543 (by omega)).trans hc.1, (e 544 (by omega)).trans hc.2⟩
theorem SHc.on {o1 : Nat} {a : Int} {P W D : Nat → Int} (ht : SHc b h o1 a P W D) (e : ∀ k, k = 0 ∨ k = o1 ∨ k = o1 + 1 ∨ k = o1 + 2 ∨ k = o1 + 3 → h' (b + k) = h (b + k)) : SHc b h' o1 a P W D := by
  obtain ⟨⟨o2, dr, c⟩, ⟨c', x, e1⟩, e2, e3, e4⟩ := ht
  exact ⟨⟨o2, dr, c.on (e 0 (by omega))⟩, ⟨c', x, (e o1 (by omega)).trans e1⟩, (e _ (by omega)).trans e2, (e _ (by omega)).trans e3, (e _ (by omega)).trans e4⟩
theorem SHm.on {a : Int} {Q : Nat → Int} (ht : SHm b h a Q) (e : ∀ k, k = 540 ∨ k = 550 → h' (b + k) = h (b + k)) : SHm b h' a Q := by
  obtain ⟨⟨i1, i2, i3, i4, i5, i6, e1⟩, e2⟩ := ht
  exact ⟨⟨i1, i2, i3, i4, i5, i6, (e _ (by omega)).trans e1⟩, (e _ (by omega)).trans e2⟩
theorem SHc.o {o1 : Nat} {a : Int} {P W D : Nat → Int} (ht : SHc b h o1 a P W D) : o1 = 20 ∨ o1 = 270 := by
  obtain ⟨⟨o2, dr, c, -⟩, -⟩ := ht
  omega
theorem TL.on (ht : TL b h) (e : ∀ k, k = 0 ∨ (20 ≤ k ∧ k < 24) ∨ (270 ≤ k ∧ k < 274) ∨ k = 540 ∨ k = 550 → h' (b + k) = h (b + k)) : TL b h' := by
  obtain ⟨o1, a, P, W, D, Q, t1, t2, t3⟩ := ht
  have := t1.o
  exact ⟨o1, a, P, W, D, Q, t1.on (fun k hk => e k (by omega)), t2.on (fun k hk => e k (by omega)), t3⟩
theorem MJ.on (hm : MJ b h) (hq : ∀ k c, rTb k = some c → h' (b + k) = h (b + k)) (ht : ∀ k, k = 0 ∨ k = 20 ∨ k = 270 ∨ k = 540 → h' (b + k) = h (b + k)) : MJ b h' := by
  refine ⟨hm.1.on hq, hm.2.on (fun k hk => ?_)⟩
  rcases (show (k = 0 ∨ k = 20 ∨ k = 270 ∨ k = 540) ∨ k = 21 ∨ k = 22 ∨ k = 23 ∨ k = 271 ∨ k = 272 ∨ k = 273 ∨ k = 550 by omega) with q | rfl | rfl | rfl | rfl | rfl | rfl | rfl
  · exact ht k q
  · exact hq 21 _ rfl
  · exact hq 22 _ rfl
  · exact hq 23 _ rfl
  · exact hq 271 _ rfl
  · exact hq 272 _ rfl
  · exact hq 273 _ rfl
  · exact hq 550 _ rfl
theorem ST.t0 (hs : ST b h t E K R Z tk Ek Kk Rk B J Zm Kp) : ST0 b h t E K R Z tk Ek Kk Rk B J Zm Kp := ⟨hs.1, hs.2.1, hs.2.2.1, hs.2.2.2.1, hs.2.2.2.2.1, hs.2.2.2.2.2.1⟩
theorem ST0.st (hs : ST0 b h t E K R Z tk Ek Kk Rk B J Zm Kp) (tl : TL b h) : ST b h t E K R Z tk Ek Kk Rk B J Zm Kp := ⟨hs.1, hs.2.1, hs.2.2.1, hs.2.2.2.1, hs.2.2.2.2.1, hs.2.2.2.2.2, tl⟩
theorem ST0.cb (hs : ST0 b h t E K R Z tk Ek Kk Rk B J Zm Kp) (ho : okS t E K R) : ∃ T, CB b h t E K R T ∧ bT T := by
  obtain ⟨⟨c1, c2, c3, c4⟩, ⟨T, s1, s2⟩, -⟩ := hs
  exact ⟨T, ⟨c1, c2, c3, c4, s1, ho.1.1, ho.2.1, ho.2.2.1, ho.2.2.2⟩, s2⟩
theorem ST.hx (hs : ST b h t E K R Z tk Ek Kk Rk B J Zm Kp) : ∃ o1 o2 dr, h b = some (bo b o1 o2 dr) := by
  obtain ⟨⟨⟨o1, o2, dr, c1⟩, -⟩, -⟩ := hs
  exact ⟨_, _, _, c1.2.1⟩
theorem ST.hm (hs : ST b h t E K R Z tk Ek Kk Rk B J Zm Kp) : ∃ i0 i1 i2 i3 i4 i5 i6, h (b + 540) = some (mo (b + 540) i0 i1 i2 i3 i4 i5 i6) := by
  obtain ⟨-, -, -, ⟨⟨i0, i1, i2, i3, i4, i5, i6, c1, -⟩, -⟩, -⟩ := hs
  exact ⟨_, _, _, _, _, _, _, c1⟩
theorem ST0.rf (hs : ST0 b h t E K R Z tk Ek Kk Rk B J Zm Kp) {t0 : Int} {E0 K0 R0 : Nat → Int} (ho : okS t0 E0 K0 R0) (hr : REL t0 E0 K0 R0 B J) : ∃ i0 i1 i2 i3 i4 i5 i6, RF b h B J i0 i1 i2 i3 i4 i5 i6 := by
  obtain ⟨-, -, -, ⟨⟨i0, i1, i2, i3, i4, i5, i6, c1, c2, c3, c4, c5⟩, c6, c7, c8, c9, -⟩, -⟩ := hs
  refine ⟨i0, i1, i2, i3, i4, i5, i6, c1, c6, c7, c8, fun v k v1 v2 k1 k2 => ?_, fun v v1 v2 => ?_, c9, c2, c3, c4, c5⟩
  · rw [← hr.2.2.1 v k v1 v2 (by omega) k2]; exact (ho.2.1 v k v1 v2 k1 k2).2
  · have e := hr.2.2.1 v 0 v1 v2 (by omega) (by omega)
    rw [Int.add_zero, Int.add_zero] at e
    rw [← e]; exact (ho.2.2.1 v v1 v2).2
theorem REL.okB (hr : REL t E K R B J) (hb : bB B) (ho : okE t E) : okB B := by
  refine ⟨hb, fun v hv x x0 x1 => ?_⟩
  have e1 := hr.2.1 v (2 * x) hv.1.1 hv.1.2 (by omega) (by omega)
  have e2 := hr.2.1 v (2 * x + 1) hv.1.1 hv.1.2 (by omega) (by omega)
  rw [show 11 * v + 1 + (2 * x + 1) = 11 * v + 2 + 2 * x by omega, show v * 6 + (2 * x + 1) = v * 6 + 2 * x + 1 by omega] at e2
  rw [← e1, ← e2]
  exact ho.2 v ((hr.r_isT v).mpr hv) x x0 x1
theorem REL.cg (hr : REL t E K R B J) {E' K' R' B' J' : Nat → Int} (h1 : ∀ j, j < 144 → E' j = E j) (h2 : ∀ j, j < 96 → K' j = K j) (h3 : ∀ j, j < 64 → R' j = R j) (h4 : ∀ j, j < 264 → B' j = B j) (h5 : ∀ j, j < 64 → J' j = J j) : REL t E' K' R' B' J' := by
  refine ⟨fun v v0 v1 => ?_, fun v k v0 v1 k0 k1 => ?_, fun v k v0 v1 k0 k1 => ?_, fun j hj => ?_⟩
  · rw [h4 _ (by omega)]; exact hr.1 v v0 v1
  · rw [h1 _ (by omega), h4 _ (by omega)]; exact hr.2.1 v k v0 v1 k0 k1
  · rw [h2 _ (by omega), h4 _ (by omega)]; exact hr.2.2.1 v k v0 v1 k0 k1
  · rw [h3 j hj, h5 j hj]; exact hr.2.2.2 j hj
theorem okS.cg (ho : okS t E K R) {E' K' R' : Nat → Int} (hE : ∀ j, 0 ≤ E' j ∧ E' j ≤ 32) (hR : ∀ j, -2147483648 ≤ R' j ∧ R' j ≤ 2147483647) (h1 : ∀ j, j < 144 → E' j = E j) (h2 : ∀ j, j < 96 → K' j = K j) : okS t E' K' R' := by
  refine ⟨⟨hE, fun v hv x x0 x1 => ?_⟩, fun v k v0 v1 k0 k1 => ?_, fun v v0 v1 => ?_, hR⟩
  · have q := hv.1
    rw [h1 _ (by omega), h1 _ (by omega)]; exact ho.1.2 v hv x x0 x1
  · rw [h2 _ (by omega)]; exact ho.2.1 v k v0 v1 k0 k1
  · rw [h2 _ (by omega)]; exact ho.2.2.1 v v0 v1
/-- a call that changes nothing that is known, but the stage's own cells -/
theorem ST0.wc (hs : ST0 b h t E K R Z tk Ek Kk Rk B J Zm Kp) {g : yH} {T : Nat → Int} (hb : ∀ k, k ≠ 0 → k ≠ 8 → k < 20 ∨ 520 ≤ k → rTb k = none → g (b + k) = h (b + k)) (hc : CB b g t E K R T) (hT : bT T) (hI : MI b g h') : ST0 b h' t E K R Z tk Ek Kk Rk B J Zm Kp := by
  obtain ⟨-, -, s3, s4, s5, s6⟩ := hs
  obtain ⟨c1, c2, c3, c4, c5⟩ := hc
  have cc : CC b g := ⟨c1, c2, c3, c4⟩
  have e : ∀ k, k ≠ 0 → k ≠ 8 → k < 20 ∨ 520 ≤ k → rTb k = none → h' (b + k) = h (b + k) := fun k k1 k2 k3 k4 => (hI.kn k4).trans (hb k k1 k2 k3 k4)
  refine ⟨cc.on (fun k _ k2 => hI.kn k2), CS.on (h := g) ⟨T, c5.1, hT⟩ (fun k k1 k2 => hI.kn (rTb_lo (by omega))), s3.on (fun k hk => ?_), s4.on (fun k hk => ?_), s5.on (fun k hk => ?_), hI.self⟩
  · exact e k (by omega) (by omega) (by omega) (by rcases hk with rfl | rfl | hk; (exact rTb_lo (by omega)); (exact rTb_lo (by omega)); exact rTb_kp hk.1 hk.2)
  · exact e k (by omega) (by omega) (by omega) (rTb_m5 (by omega) (by omega))
  · exact e k (by omega) (by omega) (by omega) (rTb_m5 (by omega) (by omega))
theorem ST0.wm (hs : ST0 b h t E K R Z tk Ek Kk Rk B J Zm Kp) {g : yH} {i0 i1 i2 i3 i4 i5 i6 : Int} (hb : ∀ q, q ≠ b + 540 → q ≠ b + 550 → g q = h q) (hf : RF b g B J i0 i1 i2 i3 i4 i5 i6) (hI : MI b g h') : ST0 b h' t E K R Z tk Ek Kk Rk B J Zm Kp := by
  obtain ⟨s1, s2, s3, ⟨-, r1, r2, r3, r4, ⟨T, r5, r6⟩, H, r7, r8⟩, s5, s6⟩ := hs
  have e : ∀ k, k ≠ 540 → rTb k = none → h' (b + k) = h (b + k) := fun k k1 k2 => (hI.kn k2).trans (hb _ (by omega) (fun z => by rw [show k = 550 by omega] at k2; cases k2))
  refine ⟨s1.on (fun k k1 k2 => e k (by omega) k2), s2.on (fun k k1 k2 => e k (by omega) (rTb_lo (by omega))), s3.on (fun k hk => e k (by omega) (by rcases hk with rfl | rfl | hk; (exact rTb_lo (by omega)); (exact rTb_lo (by omega)); exact rTb_kp hk.1 hk.2)), ⟨⟨i0, i1, i2, i3, i4, i5, i6, (hI.kn (rTb_m5 (by omega) (by omega))).trans hf.1, hf.2.2.2.2.2.2.2⟩, (e _ (by omega) (rTb_m5 (by omega) (by omega))).trans r1, (e _ (by omega) (rTb_m5 (by omega) (by omega))).trans r2, r3, r4, ⟨T, (e _ (by omega) (rTb_m5 (by omega) (by omega))).trans r5, r6⟩, H, (e _ (by omega) (rTb_m5 (by omega) (by omega))).trans r7, r8⟩, s5.on (fun k hk => e k (by omega) (rTb_m5 (by omega) (by omega))), hI.self⟩
/-- the scene of the class has changed -/
theorem ST.sc (hs : ST b h t E K R Z tk Ek Kk Rk B J Zm Kp) {t' : Int} {E' K' R' T' : Nat → Int} (hS : SC h' (b + 1) t' E' K' R' T') (hT : bT T') (hf : ∀ q, q < b + 1 ∨ b + 6 ≤ q → h' q = h q) : ST b h' t' E' K' R' Z tk Ek Kk Rk B J Zm Kp := by
  obtain ⟨s1, s2, s3, s4, s5, s6⟩ := hs
  refine ⟨s1.on (fun k hk _ => hf _ (by omega)), ⟨T', hS, hT⟩, s3.on (fun k hk => hf _ (by omega)), s4.on (fun k hk => hf _ (by omega)), s5.on (fun k hk => hf _ (by omega)), s6.on (fun k c hk => hf _ ?_) (fun k hk => hf _ (by omega))⟩
  have : ¬ k < 9 := fun q => by rw [rTb_lo q] at hk; cases hk
  omega
/-- the rows of the reference have changed -/
theorem ST.rs (hs : ST b h t E K R Z tk Ek Kk Rk B J Zm Kp) {B' J' T' H' : Nat → Int} (h1 : h' (b + 541) = some (ai 264 B')) (b1 : bB B') (h2 : h' (b + 542) = some (ai 64 J')) (b2 : bJ J') (h3 : h' (b + 554) = some (ai 6 T')) (b3 : bT T') (h4 : h' (b + 555) = some (ai 24 H')) (b4 : bH H') (hf : ∀ q, q ≠ b + 541 → q ≠ b + 542 → q ≠ b + 554 → q ≠ b + 555 → h' q = h q) : ST b h' t E K R Z tk Ek Kk Rk B' J' Zm Kp := by
  obtain ⟨s1, s2, s3, ⟨⟨i0, i1, i2, i3, i4, i5, i6, r1, r2⟩, -⟩, s5, s6⟩ := hs
  refine ⟨s1.on (fun k hk _ => hf _ (by omega) (by omega) (by omega) (by omega)), s2.on (fun k k1 k2 => hf _ (by omega) (by omega) (by omega) (by omega)), s3.on (fun k hk => hf _ (by omega) (by omega) (by omega) (by omega)), ⟨⟨i0, i1, i2, i3, i4, i5, i6, (hf _ (by omega) (by omega) (by omega) (by omega)).trans r1, r2⟩, h1, h2, b1, b2, ⟨T', h3, b3⟩, H', h4, b4⟩, s5.on (fun k hk => hf _ (by omega) (by omega) (by omega) (by omega)), s6.on (fun k c hk => ?_) (fun k hk => hf _ (by omega) (by omega) (by omega) (by omega))⟩
  have q : ∀ j, 540 ≤ j → (j < 545 ∨ 554 ≤ j) → k ≠ j := fun j j1 j2 e => by rw [e, rTb_m5 j1 j2] at hk; cases hk
  have q1 := q 541 (by omega) (by omega)
  have q2 := q 542 (by omega) (by omega)
  have q3 := q 554 (by omega) (by omega)
  have q4 := q 555 (by omega) (by omega)
  exact hf _ (by omega) (by omega) (by omega) (by omega)
end C75
/-- a pair of calls: first the class's, then the reference's, with the same arguments; C holds of their answers -/
def PR (l : Launch) (G : xG) (Mx Mm : xM) (dx dm : Nat) (av : List xV) (b : Nat) (h : yH) (n : Nat) (C : Int → Int → Prop) : Prop := YM l G Mx dx 0 0 (vr b :: av) h n (fun r h1 n1 => n1 = n ∧ ∃ z, r = some (vi z) ∧ (∃ fs, h1 (b + 540) = some (ob 7 fs)) ∧ YM l G Mm dm 0 0 (vr (b + 540) :: av) h1 n (fun r2 h2 n2 => n2 = n ∧ INV b h2 ∧ ∃ z2, r2 = some (vi z2) ∧ C z z2))
theorem INV.hx {b : Nat} {h : yH} (hi : INV b h) : ∃ fs, h b = some (ob 6 fs) := by
  obtain ⟨t, E, K, R, Z, tk, Ek, Kk, Rk, B, J, Kp, hs, -⟩ := hi
  obtain ⟨o1, o2, dr, e⟩ := hs.hx
  exact ⟨_, e⟩
