section C86
variable {l : Launch} {G : xG} {h : yH} {n : Nat}
theorem w_tangled {b : Nat} {g : yH} {t : Int} {E K R T : Nat → Int} (hc : CB b g t E K R T) {p : Int} (p1 : -2147483648 ≤ p) (p2 : p < 2147483648) (hI : MI b g h) : YM l G mX6_tangled 4 0 0 [vr b, vi p] h n (PB b g n t E K R T) := by
  refine YM.of kX6_tangled (Nat.le_of_ble_eq_true rfl) (L0 := [some (vr b), some (vi p)]) rfl ?_
  obtain ⟨⟨o1, o2, dr, ho12, hx, d1, d2⟩, hp20, hp270, ⟨ce1, ce2, pw, la, hq⟩, hsc⟩ := id hc
  have hP2 : PJ b o2 g := by rcases ho12 with ⟨rfl, rfl⟩ | ⟨rfl, rfl⟩ <;> assumption
  obtain ⟨S2, a2, k2, x2, hf2, a21, a22, x21, x22⟩ := hP2
  obtain ⟨ho2, hp2, hr2⟩ := id hf2
  refine y_run kX6_tangled rfl ?_
  refine m_get kX6_tangled (0) hI hx ?_
  refine y_run kX6_tangled rfl ?_
  refine y_cv kX6_tangled kX5_has 1 rfl (hI.x (k := 1) rfl hsc.1.1) (by decide +kernel) (c_Shas (hI.sc hsc.1) ⟨by omega, by omega⟩) rfl rfl ?_
  rintro _ _ _ ⟨rfl, rfl, rfl⟩
  refine y_bne kX6_tangled rfl rfl (fun c1 => ?_) (fun c1 => ?_)
  · obtain ⟨⟨c2, c3⟩, _⟩ := c1
    refine y_run kX6_tangled rfl ?_
    refine m_get kX6_tangled (0) hI hx ?_
    refine y_run kX6_tangled rfl ?_
    refine m_get kX6_tangled (0) hI hx ?_
    refine y_cv kX6_tangled kX3_load 1 rfl (hI.x (k := o2) (t0 ho2) hp2) (by decide +kernel) (w_load hf2 hsc hI) rfl rfl ?_
    rintro _ h _ ⟨g1, S, a, c, x, rfl, hs, hf, hv, hI, rfl⟩
    obtain ⟨_, hp, hr⟩ := id hf
    have hx1 : g1 (b + 0) = some (bo b (b + o1) (b + o2) dr) := (hs _ (by omega) (by omega)).trans hx
    refine y_run kX6_tangled rfl ?_
    refine m_get kX6_tangled (0) hI hx1 ?_
    refine y_run kX6_tangled rfl ?_
    refine y_cv kX6_tangled kX3_findTangle 1 rfl (hI.x (k := o2) (t0 ho2) hp) (by decide +kernel) (w_findTangle hf (fun k hk => by have := hv.2.2.2.2.2 k hk; have := hv.2.2.1; have := hv.2.2.2.2.1; omega) (by omega) (by omega) hI) rfl rfl ?_
    rintro _ h _ ⟨rfl, hI, rfl⟩
    refine y_run kX6_tangled rfl ?_
    refine m_get kX6_tangled (0) hI hx1 ?_
    refine m_get kX6_tangled (o2) hI hp ?_ (t0 ho2)
    refine m_cvN kX6_tangled kX0_size 0 hI (nT ho2 (by omega) (by omega)) rfl (by decide +kernel) (w_Nsize hI (nT ho2 (by omega) (by omega))) rfl rfl ?_
    rintro _ h _ ⟨v1, rfl, v1a, v1b, hI, rfl⟩
    exact y_ir kX6_tangled rfl rfl ⟨g1, _, rfl, hs.sb ho2, hc.sp ho2 hs (PIv.pj hf hv), hI, rfl⟩
  · refine y_run kX6_tangled rfl ?_
    exact y_ir kX6_tangled rfl rfl ⟨g, _, rfl, SB.r b g, hc, hI, rfl⟩
theorem w_draw {b : Nat} {g : yH} {t : Int} {E K R T : Nat → Int} (hc : CB b g t E K R T) (hI : MI b g h) : YM l G mX6_draw 6 0 0 [vr b] h n (PB b g n t E K R T) := by
  refine YM.of kX6_draw (Nat.le_of_ble_eq_true rfl) (L0 := [some (vr b), none]) rfl ?_
  obtain ⟨⟨o1, o2, dr, ho12, hx, d1, d2⟩, hp20, hp270, ⟨ce1, ce2, pw, la, hq⟩, hsc⟩ := id hc
  have hP1 : PJ b o1 g := by rcases ho12 with ⟨rfl, rfl⟩ | ⟨rfl, rfl⟩ <;> assumption
  have hP2 : PJ b o2 g := by rcases ho12 with ⟨rfl, rfl⟩ | ⟨rfl, rfl⟩ <;> assumption
  obtain ⟨S2, a2, k2, x2, hf2, a21, a22, x21, x22⟩ := hP2
  obtain ⟨ho2, hp2, hr2⟩ := id hf2
  refine y_run kX6_draw rfl ?_
  refine m_get kX6_draw (0) hI hx ?_
  refine y_run kX6_draw rfl ?_
  refine m_get kX6_draw (0) hI hx ?_
  refine y_cv kX6_draw kX3_load 1 rfl (hI.x (k := o2) (t0 ho2) hp2) (by decide +kernel) (w_load hf2 hsc hI) rfl rfl ?_
  rintro _ h _ ⟨g1, S, a, c, x, rfl, hs, hf, hv, hI, rfl⟩
  obtain ⟨_, hp, hr⟩ := id hf
  have hx1 : g1 (b + 0) = some (bo b (b + o1) (b + o2) dr) := (hs _ (by omega) (by omega)).trans hx
  refine y_run kX6_draw rfl ?_
  refine m_get kX6_draw (0) hI hx1 ?_
  refine y_cv kX6_draw kX3_putInOrder 0 rfl (hI.x (k := o2) (t0 ho2) hp) (by decide +kernel) (w_putInOrder hf hv hI) rfl rfl ?_
  rintro _ h _ ⟨g2, S, a, c, x, v1, rfl, v1a, v1b, hs2, hf, hv, hI, rfl⟩
  replace hs := hs.t hs2
  obtain ⟨_, hp, hr⟩ := id hf
  have hx2 : g2 (b + 0) = some (bo b (b + o1) (b + o2) dr) := (hs _ (by omega) (by omega)).trans hx
  refine y_if_ne kX6_draw rfl rfl (fun c1 => ?_) (fun c1 => ?_)
  · refine y_run kX6_draw rfl ?_
    refine m_get kX6_draw (0) hI hx2 ?_
    refine y_run kX6_draw rfl ?_
    refine m_get kX6_draw (0) hI hx2 ?_
    refine m_put kX6_draw 0 hI hx2 (fun h hI => ?_)
    have hx3 : (yup g2 (b + 0) (bo b (b + o1) (b + o1) dr)) (b + 0) = some (bo b (b + o1) (b + o1) dr) := yup_eq _ _ _
    refine y_run kX6_draw rfl ?_
    refine m_put kX6_draw 0 (g := yup g2 (b + 0) (bo b (b + o1) (b + o1) dr)) hI hx3 (fun h hI => ?_)
    generalize hg4 : yup (yup g2 (b + 0) (bo b (b + o1) (b + o1) dr)) (b + 0) (bo b (b + o2) (b + o1) dr) = g4
    replace hI : MI b g4 h := by rw [← hg4]; exact hI
    have hx4 : g4 (b + 0) = some (bo b (b + o2) (b + o1) dr) := by rw [← hg4]; exact yup_eq _ _ _
    have h42 : ∀ q, q ≠ b → g4 q = g2 q := fun q hq => by rw [← hg4, yup_ne _ _ (by omega), yup_ne _ _ (by omega)]
    have hq4 : QF b g4 ce1 ce2 pw la := ⟨hq.1, hq.2.1, ((h42 _ (by omega)).trans (hs _ (by omega) (by omega))).trans hq.2.2⟩
    have hsc4 : SF b g4 t E K R T := (hsc.sp ho2 hs).on (fun q q1 q2 => h42 q (by omega))
    have hf4 : PF b o2 g4 S a c x := hf.on (fun q q1 q2 => h42 q (by omega))
    refine y_run kX6_draw rfl ?_
    refine m_get kX6_draw (0) hI hx4 ?_
    refine y_run kX6_draw rfl ?_
    refine m_get kX6_draw (0) hI hx4 ?_
    refine y_run kX6_draw rfl ?_
    refine m_get kX6_draw (0) hI hx4 ?_
    have ha1 : 0 ≤ a := hv.1
    have ha2 : a ≤ 96 := by have := hv.2.1; have := hv.2.2.1; omega
    refine y_cv kX6_draw kX2_show 2 rfl (hI.x (k := 8) rfl hq4.2.2) (by decide +kernel) (w_show hq4 hsc4 hf4 ha1 ha2 hI) rfl rfl ?_
    rintro _ h _ ⟨g5, c1', c2', pw', la', rfl, hs5, hq5, hI, rfl⟩
    have hx5 : g5 (b + 0) = some (bo b (b + o2) (b + o1) dr) := (hs5 _ (by omega)).trans hx4
    refine y_run kX6_draw rfl ?_
    refine m_get kX6_draw (0) hI hx5 ?_
    refine y_run kX6_draw rfl ?_
    refine YW.nr1 ?_
    refine m_put kX6_draw 0 hI hx5 (fun h hI => ?_)
    generalize hg6 : yup g5 (b + 0) (bo b (b + o2) (b + o1) (nrm (dr + 1))) = g6
    replace hI : MI b g6 h := by rw [← hg6]; exact hI
    have hx6 : g6 (b + 0) = some (bo b (b + o2) (b + o1) (nrm (dr + 1))) := by rw [← hg6]; exact yup_eq _ _ _
    have h62 : ∀ q, q ≠ b → q ≠ b + 8 → g6 q = g2 q := fun q hq hq8 => by rw [← hg6, yup_ne _ _ (by omega), hs5 _ hq8, h42 _ hq]
    have hf6 : PF b o2 g6 S a c x := hf.on (fun q q1 q2 => h62 q (by omega) (by omega))
    obtain ⟨_, hp6, hr6⟩ := id hf6
    refine y_run kX6_draw rfl ?_
    refine m_get kX6_draw (0) hI hx6 ?_
    refine m_get kX6_draw (o2) hI hp6 ?_ (t0 ho2)
    have hPo2 : PJ b o2 g6 := PIv.pj hf6 hv
    have hPo1 : PJ b o1 g6 := hP1.on (fun q q1 q2 => (h62 q (by omega) (by omega)).trans (hs q (by omega) (by omega)))
    refine y_ir kX6_draw rfl rfl ⟨g6, _, rfl, fun q a1 a2 a3 a4 a5 a6 => (h62 q a1 a2).trans (hs q (by omega) (by omega)), ⟨⟨o2, o1, nrm (dr + 1), by omega, hx6, (nrm_rng _).1, (nrm_rng _).2⟩, ?_, ?_, ⟨c1', c2', pw', la', hq5.1, hq5.2.1, ?_⟩, ?_⟩, hI, rfl⟩
    · rcases ho12 with ⟨rfl, rfl⟩ | ⟨rfl, rfl⟩ <;> assumption
    · rcases ho12 with ⟨rfl, rfl⟩ | ⟨rfl, rfl⟩ <;> assumption
    · rw [← hg6, yup_ne _ _ (by omega)]; exact hq5.2.2
    · exact (hsc.sp ho2 hs).on (fun q q1 q2 => h62 q (by omega) (by omega))
  · refine y_run kX6_draw rfl ?_
    exact y_ir kX6_draw rfl rfl ⟨g2, _, rfl, hs.sb ho2, hc.sp ho2 hs (PIv.pj hf hv), hI, rfl⟩
end C86
