/-! tangled, exactly -/
theorem size_crd {lo hi : Int64} {X : Nat → Bool} (hb : NB lo hi X) : lbc lo + lbc hi = ((crd X 128 : Nat) : Int) := by
  rw [lbc_crd, lbc_crd, show 128 = 64 + 64 from rfl, crd_split, crd_off (S := fun k => gb lo k) (S' := X) 64 (fun j hj => (hb j hj).1), crd_off (S := fun k => gb hi k) (S' := fun k => X (64 + k)) 64 (fun j hj => (hb j hj).2)]
  omega
theorem crd_le (S : Nat → Bool) : ∀ m : Nat, crd S m ≤ m := by
  intro m
  induction m with
  | zero => exact Nat.le_refl _
  | succ m ih =>
    unfold crd
    split <;> omega
section C80o
variable {l : Launch} {G : xG} {h : yH} {n : Nat} {b : Nat} {g : yH}
theorem e_tangled {t : Int} {E K R T : Nat → Int} (hc : CB b g t E K R T) {p : Int} (hp0 : inI p) (hI : MI b g h) : YM l G mX6_tangled 4 0 0 [vr b, vi p] h n (fun r h' n' => ∃ g' z, r = some (vi z) ∧ SB b g g' ∧ CB b g' t E K R T ∧ MI b g' h' ∧ n' = n ∧ ((¬ isT t p ∧ z = -1) ∨ (isT t p ∧ ∃ (X : Nat → Bool) (P : Nat → Int) (U V : Nat → Nat → Bool), (∀ j, j < 144 → P j = E j) ∧ LD P (sN t 24) U V ∧ z = ((crd X 128 : Nat) : Int) ∧ ∀ j, j < 128 → (X j = true ↔ (TC (fun i j => sN t 24 j = true ∧ j < 128 ∧ U i j = true) p.toNat j ∧ TC (fun i j => sN t 24 j = true ∧ j < 128 ∧ V i j = true) p.toNat j))))) := by
  refine YM.of kX6_tangled (Nat.le_of_ble_eq_true rfl) (L0 := [some (vr b), some (vi p)]) rfl ?_
  obtain ⟨⟨o1, o2, dr, ho12, hx, d1, d2⟩, hp20, hp270, hqq, hsc⟩ := id hc
  have hP2 : PJ b o2 g := by rcases ho12 with ⟨rfl, rfl⟩ | ⟨rfl, rfl⟩ <;> assumption
  obtain ⟨S2, a2, k2, x2, hf2, a21, a22, x21, x22⟩ := hP2
  obtain ⟨ho2, hp2, hr2⟩ := id hf2
  refine y_run kX6_tangled rfl ?_
  refine m_get kX6_tangled (0) hI hx ?_
  refine y_run kX6_tangled rfl ?_
  refine y_cv kX6_tangled kX5_has 1 rfl (hI.x (k := 1) rfl hsc.1.1) (by decide +kernel) (c_Shas (hI.sc hsc.1) hp0) rfl rfl ?_
  rintro _ h1 _ ⟨rfl, eh, rfl⟩
  subst eh
  refine y_bne kX6_tangled rfl rfl (fun c1 => ?_) (fun c1 => ?_)
  · have tp : isT t p := c1
    obtain ⟨⟨c2, c3⟩, _⟩ := c1
    refine y_run kX6_tangled rfl ?_
    refine m_get kX6_tangled (0) hI hx ?_
    refine y_run kX6_tangled rfl ?_
    refine m_get kX6_tangled (0) hI hx ?_
    refine y_cv kX6_tangled kX3_load 1 rfl (hI.x (k := o2) (t0 ho2) hp2) (by decide +kernel) (e_load hf2 hsc hI) rfl rfl ?_
    rintro _ h2 _ ⟨g1, c, P, W, D, U, V, rfl, hs, hf, hv, hI, hX, hPE, hLD, hW, rfl⟩
    obtain ⟨_, hp, hr⟩ := id hf
    have hx1 : g1 (b + 0) = some (bo b (b + o1) (b + o2) dr) := (hs _ (by omega) (by omega)).trans hx
    refine y_run kX6_tangled rfl ?_
    refine m_get kX6_tangled (0) hI hx1 ?_
    refine y_run kX6_tangled rfl ?_
    have cp : p = ((p.toNat : Nat) : Int) := by omega
    refine YW.se (congrArg (fun z : Int => [vi z, vr (b + o2)]) cp) ?_
    refine y_cv kX6_tangled kX3_findTangle 1 rfl (hI.x (k := o2) (t0 ho2) hp) (by decide +kernel) (e_findTangle hf (fun k hk => by have := hv.2.2.2.2.2 k hk; have := hv.2.2.1; have := hv.2.2.2.2.1; omega) (by have := hv.2.1; have := hv.2.2.1; omega) (p := p.toNat) (by omega) hI hX) rfl rfl ?_
    rintro _ h3 _ ⟨X, rfl, hI, hX, hN, hXq, rfl⟩
    refine y_run kX6_tangled rfl ?_
    refine m_get kX6_tangled (0) hI hx1 ?_
    refine m_get kX6_tangled (o2) hI hp ?_ (t0 ho2)
    obtain ⟨lo, hi, e7, hb⟩ := hN
    refine y_cv kX6_tangled kX0_size 0 rfl e7 (by decide +kernel) (c_Nsize e7) rfl rfl ?_
    rintro _ h4 _ ⟨rfl, eh, rfl⟩
    subst eh
    exact y_ir kX6_tangled rfl rfl ⟨g1, _, rfl, hs.sb ho2, hc.sp ho2 hs (PIv.pj hf hv), hI, rfl, Or.inr ⟨tp, X, P, U, V, hPE, hLD, size_crd hb, hXq⟩⟩
  · refine y_run kX6_tangled rfl ?_
    exact y_ir kX6_tangled rfl rfl ⟨g, _, rfl, SB.r b g, hc, hI, rfl, Or.inl ⟨c1, rfl⟩⟩
variable {i0 i1 i2 i3 i4 i5 i6 : Int} {B J : Nat → Int}
theorem e_isTangled {R : Nat → Int} (hf : RF b g B J i0 i1 i2 i3 i4 i5 i6) {p q : Nat} (p2 : p < 128) (q2 : q < 128) (hI : MI b g h) (e47 : h (b + 547) = some (az 16384 R)) : YM l G mX7_isTangled 0 0 0 [vr (b + 540), vi (p : Int), vi (q : Int)] h n (fun r h' n' => ((r = some (vi 1) ∧ p ≠ q ∧ R (128 * p + q) = 1 ∧ R (128 * q + p) = 1) ∨ (r = some (vi 0) ∧ ¬ (p ≠ q ∧ R (128 * p + q) = 1 ∧ R (128 * q + p) = 1))) ∧ h' = h ∧ n' = n) := by
  refine YM.of kX7_isTangled (Nat.le_of_ble_eq_true rfl) (L0 := [some (vr (b + 540)), some (vi (p : Int)), some (vi (q : Int))]) rfl ?_
  obtain ⟨hm, -⟩ := id hf
  have hRb : ∀ j, R j = 0 ∨ R j = 1 := by
    obtain ⟨F, e, hF⟩ := hI.z (k := 547) (N := 16384) (lo := 0) (hi := 0) rfl
    rw [az_inj e47 e]
    exact hF
  have r1 := hRb (128 * p + q)
  have r2 := hRb (128 * q + p)
  refine y_run kX7_isTangled rfl ?_
  refine y_ic_eq kX7_isTangled rfl rfl (fun c1 => ?_) (fun c1 => ?_)
  · refine y_run kX7_isTangled rfl ?_
    exact y_zr kX7_isTangled rfl rfl (by omega) ⟨Or.inr ⟨rfl, fun k => k.1 (by omega)⟩, rfl, rfl⟩
  · refine y_run kX7_isTangled rfl ?_
    refine m_get kX7_isTangled (540) hI hm ?_
    refine y_run kX7_isTangled rfl ?_
    refine y_za kX7_isTangled rfl e47 (by omega) (by omega) ?_
    rw [show (128 * (p : Int) + (q : Int)).toNat = 128 * p + q by omega]
    refine y_if_eq kX7_isTangled rfl rfl (fun c2 => ?_) (fun c2 => ?_)
    · refine y_run kX7_isTangled rfl ?_
      exact y_zr kX7_isTangled rfl rfl (by omega) ⟨Or.inr ⟨rfl, fun k => by have := k.2.1; omega⟩, rfl, rfl⟩
    · refine y_run kX7_isTangled rfl ?_
      refine m_get kX7_isTangled (540) hI hm ?_
      refine y_run kX7_isTangled rfl ?_
      refine y_za kX7_isTangled rfl e47 (by omega) (by omega) ?_
      rw [show (128 * (q : Int) + (p : Int)).toNat = 128 * q + p by omega]
      refine y_if_eq kX7_isTangled rfl rfl (fun c3 => ?_) (fun c3 => ?_)
      · refine y_run kX7_isTangled rfl ?_
        exact y_zr kX7_isTangled rfl rfl (by omega) ⟨Or.inr ⟨rfl, fun k => by have := k.2.2; omega⟩, rfl, rfl⟩
      · refine y_run kX7_isTangled rfl ?_
        exact y_zr kX7_isTangled rfl rfl (by omega) ⟨Or.inl ⟨rfl, by omega, by omega, by omega⟩, rfl, rfl⟩
/-- how many of the first m are tangled with p -/
def tgB (R : Nat → Int) (p : Nat) : Nat → Bool := fun q => decide (p ≠ q) && (decide (R (128 * p + q) = 1) && decide (R (128 * q + p) = 1))
theorem tgB_iff (R : Nat → Int) (p q : Nat) : tgB R p q = true ↔ p ≠ q ∧ R (128 * p + q) = 1 ∧ R (128 * q + p) = 1 := by
  unfold tgB
  simp only [Bool.and_eq_true, decide_eq_true_eq]
theorem s_mtangledE {R : Nat → Int} (hf : RF b g B J i0 i1 i2 i3 i4 i5 i6) {p : Nat} (p2 : p < 24) (hI : MI b g h) (e47 : h (b + 547) = some (az 16384 R)) : ∀ (m : Nat) (q : Nat), 24 - q < m → q ≤ 24 → YW l G mX7_tangled 4 0 0 (fun r h' n' => r = some (vi (if crd (tgB R p) 24 = 0 then 0 else ((crd (tgB R p) 24 : Nat) : Int) + 1)) ∧ h' = h ∧ n' = n) 22 [some (vr (b + 540)), some (vi (p : Int)), some (vi ((crd (tgB R p) q : Nat) : Int)), some (vi (q : Int))] [] h n := by
  intro m
  induction m with
  | zero => intro q hm; exact absurd hm (Nat.not_lt_zero _)
  | succ m ih =>
    intro q hmm j1
    obtain ⟨hm, -⟩ := id hf
    refine y_run kX7_tangled rfl ?_
    refine y_ic_ge kX7_tangled rfl rfl (fun c1 => ?_) (fun c1 => ?_)
    · have e : q = 24 := by omega
      subst e
      have bd : crd (tgB R p) 24 ≤ 24 := crd_le _ 24
      refine y_run kX7_tangled rfl ?_
      refine y_if_ne kX7_tangled rfl rfl (fun c2 => ?_) (fun c2 => ?_)
      · refine y_run kX7_tangled rfl ?_
        exact y_ir kX7_tangled rfl rfl ⟨by rw [if_neg (by omega)], rfl, rfl⟩
      · refine y_run kX7_tangled rfl ?_
        exact y_ir kX7_tangled rfl rfl ⟨by rw [if_pos (by omega)], rfl, rfl⟩
    · refine y_run kX7_tangled rfl ?_
      refine y_cv kX7_tangled kX7_isTangled 2 rfl (hI.x (k := 540) rfl hm) (by decide +kernel) (e_isTangled hf (by omega) (q := q) (by omega) hI e47) rfl rfl ?_
      have k := ih (q + 1) (by omega) (by omega)
      rintro _ h2 _ ⟨⟨rfl, t1⟩ | ⟨rfl, t1⟩, eh, rfl⟩
      · subst eh
        refine y_if_eq kX7_tangled rfl rfl (fun e => absurd e (by omega)) (fun _ => ?_)
        refine y_run kX7_tangled rfl ?_
        have e1 : crd (tgB R p) (q + 1) = crd (tgB R p) q + 1 := by
          show crd (tgB R p) q + (if tgB R p q then 1 else 0) = _
          rw [if_pos ((tgB_iff R p q).mpr t1)]
        rw [e1, show ((crd (tgB R p) q + 1 : Nat) : Int) = ((crd (tgB R p) q : Nat) : Int) + 1 by omega, show ((q + 1 : Nat) : Int) = (q : Int) + 1 by omega] at k
        exact k
      · subst eh
        refine y_if_eq kX7_tangled rfl rfl (fun _ => ?_) (fun e => absurd rfl e)
        refine y_run kX7_tangled rfl ?_
        have e1 : crd (tgB R p) (q + 1) = crd (tgB R p) q := by
          show crd (tgB R p) q + (if tgB R p q then 1 else 0) = _
          rw [if_neg (fun z => t1 ((tgB_iff R p q).mp z))]
          rfl
        rw [e1, show ((q + 1 : Nat) : Int) = (q : Int) + 1 by omega] at k
        refine YW.Le (congrArg (fun z : Int => [some (vr (b + 540)), some (vi (p : Int)), some (vi z), some (vi ((q : Int) + 1))]) (show ((crd (tgB R p) q : Nat) : Int) + 0 = ((crd (tgB R p) q : Nat) : Int) by omega)) ?_
        exact k
end C80o
