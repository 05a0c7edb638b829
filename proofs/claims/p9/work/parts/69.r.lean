section C86
variable {l : Launch} {G : xG} {h : yH} {n : Nat}
theorem w_tangled {b : Nat} {g : yH} {t : Int} {E K R T : Nat → Int} (hc : CB b g t E K R T) (hW : ∀ o1 o2 dr, CX b g o1 o2 dr → FR b o2 g) {p : Int} (p1 : -2147483648 ≤ p) (p2 : p < 2147483648) (hI : MI b g h) : YM l G mX6_tangled 4 0 0 [vr b, vi p] h n (PB b g n t E K R T) := by
  refine YM.of kX6_tangled (Nat.le_of_ble_eq_true rfl) (L0 := [some (vr b), some (vi p)]) rfl ?_
  obtain ⟨⟨o1, o2, dr, ho12, hx, d1, d2⟩, hp20, hp270, ⟨ce1, ce2, pw, la, hq⟩, hsc⟩ := id hc
  have hP2 : PJ b o2 g := by rcases ho12 with ⟨rfl, rfl⟩ | ⟨rfl, rfl⟩ <;> assumption
  obtain ⟨S2, a2, k2, x2, hf2, a21, a22, x21, x22⟩ := hP2
  obtain ⟨ho2, hp2, hr2⟩ := id hf2
  have hcx : CX b g o1 o2 dr := ⟨ho12, hx, d1, d2⟩
  have hf2 := hf2.pf (hW _ _ _ hcx)
  refine y_run kX6_tangled rfl ?_
  refine m_get kX6_tangled (0) hI hx ?_
  refine y_run kX6_tangled rfl ?_
  refine y_cv kX6_tangled kX5_has 1 rfl (hI.x (k := 1) rfl hsc.1.1) (by decide +kernel) (c_Shas (hI.sc hsc.1) ⟨by omega, by omega⟩) rfl rfl ?_
  rintro _ _ _ ⟨rfl, rfl, rfl⟩
  refine y_bne kX6_tangled rfl rfl (fun c1 => ?_) (fun c1 => ?_)
  · obtain ⟨⟨c2, c3⟩, _⟩ := c1
    refine y_run kX6_tangled rfl ?_
    refine m_get kX6_tangled (0) hI hx ?_
    refine y_run kX6_tangled rfl ?_
    refine m_get kX6_tangled (0) hI hx ?_
    refine y_cv kX6_tangled kX3_load 1 rfl (hI.x (k := o2) (t0 ho2) hp2) (by decide +kernel) (w_load hf2 hsc hI) rfl rfl ?_
    rintro _ h _ ⟨g1, S, a, c, x, rfl, hs, hf, hv, hI, rfl⟩
    obtain ⟨_, hp, hr⟩ := id hf
    have hx1 : g1 (b + 0) = some (bo b (b + o1) (b + o2) dr) := (hs _ (by omega) (by omega)).trans hx
    refine y_run kX6_tangled rfl ?_
    refine m_get kX6_tangled (0) hI hx1 ?_
    refine y_run kX6_tangled rfl ?_
    refine y_cv kX6_tangled kX3_findTangle 1 rfl (hI.x (k := o2) (t0 ho2) hp) (by decide +kernel) (w_findTangle hf (fun k hk => by have := hv.2.2.2.2.2 k hk; have := hv.2.2.1; have := hv.2.2.2.2.1; omega) (by omega) (by omega) hI) rfl rfl ?_
    rintro _ h _ ⟨rfl, hI, rfl⟩
    refine y_run kX6_tangled rfl ?_
    refine m_get kX6_tangled (0) hI hx1 ?_
    refine m_get kX6_tangled (o2) hI hp ?_ (t0 ho2)
    refine m_cvN kX6_tangled kX0_size 0 hI (nT ho2 (by omega) (by omega)) rfl (by decide +kernel) (w_Nsize hI (nT ho2 (by omega) (by omega))) rfl rfl ?_
    rintro _ h _ ⟨v1, rfl, v1a, v1b, hI, rfl⟩
    exact y_ir kX6_tangled rfl rfl ⟨g1, _, rfl, fun _ _ _ hz => by obtain ⟨-, e⟩ := hcx.eq hz; rw [← e]; exact hs, hc.sp ho2 hs (PIv.pj hf.p0 hv), hI, rfl⟩
  · refine y_run kX6_tangled rfl ?_
    exact y_ir kX6_tangled rfl rfl ⟨g, _, rfl, SB.r b g, hc, hI, rfl⟩
end C86
