/-! the pairs whose answers agree -/
section C77
variable {l : Launch} {G : xG} {h h' : yH} {n b : Nat} {t : Int} {E K R Z tk B J Zm Kp : Nat → Int} {Ek Kk Rk : Nat → Nat → Int}
theorem ST.rr (hs : ST b h t E K R Z tk Ek Kk Rk B J Zm Kp) : ∃ i0 i1 i2 i3 i4 i5 i6 T H, h (b + 540) = some (mo (b + 540) i0 i1 i2 i3 i4 i5 i6) ∧ h (b + 540 + 1) = some (ai 264 B) ∧ h (b + 540 + 2) = some (ai 64 J) ∧ bB B ∧ bJ J ∧ h (b + 540 + 14) = some (ai 6 T) ∧ bT T ∧ h (b + 540 + 15) = some (ai 24 H) ∧ bH H := by
  obtain ⟨-, -, -, ⟨⟨i0, i1, i2, i3, i4, i5, i6, c1, -⟩, c3, c4, c5, c6, ⟨T, c7, c8⟩, H, c9, c10⟩, -⟩ := hs
  exact ⟨i0, i1, i2, i3, i4, i5, i6, T, H, c1, c3, c4, c5, c6, c7, c8, c9, c10⟩
theorem ST.uB (hs : ST b h t E K R Z tk Ek Kk Rk B J Zm Kp) {B' : Nat → Int} (b1 : bB B') : ST b (yup h (b + 540 + 1) (ai 264 B')) t E K R Z tk Ek Kk Rk B' J Zm Kp := by
  obtain ⟨i0, i1, i2, i3, i4, i5, i6, T, H, r1, r2, r3, r4, r5, r6, r7, r8, r9⟩ := hs.rr
  exact hs.rs (yup_eq _ _ _) b1 ((yup_ne _ _ (by omega)).trans r3) r5 ((yup_ne _ _ (by omega)).trans r6) r7 ((yup_ne _ _ (by omega)).trans r8) r9 (fun q q1 _ _ _ => yup_ne _ _ q1)
theorem ST.uJ (hs : ST b h t E K R Z tk Ek Kk Rk B J Zm Kp) {J' : Nat → Int} (b1 : bJ J') : ST b (yup h (b + 540 + 2) (ai 64 J')) t E K R Z tk Ek Kk Rk B J' Zm Kp := by
  obtain ⟨i0, i1, i2, i3, i4, i5, i6, T, H, r1, r2, r3, r4, r5, r6, r7, r8, r9⟩ := hs.rr
  exact hs.rs ((yup_ne _ _ (by omega)).trans r2) r4 (yup_eq _ _ _) b1 ((yup_ne _ _ (by omega)).trans r6) r7 ((yup_ne _ _ (by omega)).trans r8) r9 (fun q _ q1 _ _ => yup_ne _ _ q1)
theorem ST.uT (hs : ST b h t E K R Z tk Ek Kk Rk B J Zm Kp) {T' : Nat → Int} (b1 : bT T') : ST b (yup h (b + 540 + 14) (ai 6 T')) t E K R Z tk Ek Kk Rk B J Zm Kp := by
  obtain ⟨i0, i1, i2, i3, i4, i5, i6, T, H, r1, r2, r3, r4, r5, r6, r7, r8, r9⟩ := hs.rr
  exact hs.rs ((yup_ne _ _ (by omega)).trans r2) r4 ((yup_ne _ _ (by omega)).trans r3) r5 (yup_eq _ _ _) b1 ((yup_ne _ _ (by omega)).trans r8) r9 (fun q _ _ q1 _ => yup_ne _ _ q1)
theorem bB.smm (hb : bB B) : ∀ j, sm (B j) := fun j => by have := hb j; unfold sm; omega
theorem bB.up (hb : bB B) (k : Nat) {x : Int} (h1 : 0 ≤ x) (h2 : x ≤ 32) : bB (upZ B k x) := upZ_all (P := fun x => 0 ≤ x ∧ x ≤ 32) hb k ⟨h1, h2⟩
/-- fewer boxes are there -/
theorem okE.less (ho : okE t E) {t' : Int} (hl : ∀ v, isT t' v → isT t v) : okE t' E := ⟨ho.1, fun v hv => ho.2 v (hl v hv)⟩
theorem pr_lift (hi : INV b h) {v : Int} (hv : inI v) : PR l G mX6_lift mX7_lift 2 2 [vi v] b h n (fun z z2 => z = z2) := by
  obtain ⟨t, E, K, R, Z, tk, Ek, Kk, Rk, B, J, Kp, hs, ⟨ho, hd⟩, hr, hk⟩ := hi
  obtain ⟨o1, o2, dr, hx⟩ := hs.hx
  obtain ⟨T, sc, hT⟩ := hs.2.1
  refine (c_lift hx sc hv).imp (fun r h1 n1 q => ?_)
  obtain ⟨q, rfl⟩ := q
  rcases q with ⟨q1, rfl, rfl⟩ | ⟨q1, rfl, q2, q3⟩
  · obtain ⟨i0, i1, i2, i3, i4, i5, i6, T', H, r1, r2, r3, r4, r5, r6, r7, r8, r9⟩ := hs.rr
    refine ⟨rfl, _, rfl, ⟨_, r1⟩, (c_mlift r1 r2 r4.smm hv).imp (fun r2 h2 n2 w => ?_)⟩
    obtain ⟨w, rfl⟩ := w
    rcases w with ⟨w1, rfl, rfl⟩ | ⟨w1, -⟩
    · exact ⟨rfl, ⟨t, E, K, R, Z, tk, Ek, Kk, Rk, B, J, Kp, hs, ⟨ho, hd⟩, hr, hk⟩, _, rfl, rfl⟩
    · exact absurd ((hr.r_isT v).mpr w1) q1
  · have hs1 := hs.sc q2 hT (fun q hq => q3 q (by omega))
    obtain ⟨i0, i1, i2, i3, i4, i5, i6, T', H, r1, r2, r3, r4, r5, r6, r7, r8, r9⟩ := hs1.rr
    refine ⟨rfl, _, rfl, ⟨_, r1⟩, (c_mlift r1 r2 r4.smm hv).imp (fun r2 h2 n2 w => ?_)⟩
    obtain ⟨w, rfl⟩ := w
    rcases w with ⟨w1, -⟩ | ⟨w1, rfl, rfl⟩
    · exact absurd ((hr.r_isT v).mp q1) w1
    · have ls : ∀ v', isT (yand t (yxor (yshl 1 v) (-1))) v' → isT t v' := fun v' hv' => by
        have q := hv'.2
        rw [tbt_and, Bool.and_eq_true] at q
        exact ⟨hv'.1, q.1⟩
      exact ⟨rfl, ⟨_, E, K, R, Z, tk, Ek, Kk, Rk, _, J, Kp, hs1.uB (r4.up _ (by omega) (by omega)), ⟨⟨ho.1.less ls, ho.2⟩, hd.less ls⟩, hr.r_lift q1.1.1 q1.1.2, hk⟩, _, rfl, rfl⟩
theorem pr_paint (hi : INV b h) {v c p q u : Int} (hv : inI v) (hc : inI c) (hp : inI p) (hq : inI q) (hu : inI u) : PR l G mX6_paint mX7_paint 2 2 [vi v, vi c, vi p, vi q, vi u] b h n (fun z z2 => z = z2) := by
  obtain ⟨t, E, K, R, Z, tk, Ek, Kk, Rk, B, J, Kp, hs, ⟨ho, hd⟩, hr, hk⟩ := hi
  obtain ⟨o1, o2, dr, hx⟩ := hs.hx
  obtain ⟨T, sc, hT⟩ := hs.2.1
  refine (c_paint hx sc hv hc hp hq hu).imp (fun r h1 n1 q => ?_)
  obtain ⟨q, rfl⟩ := q
  rcases q with ⟨q1, rfl, rfl⟩ | ⟨q1, rfl, q2, q3⟩
  · obtain ⟨i0, i1, i2, i3, i4, i5, i6, T', H, r1, r2, r3, r4, r5, r6, r7, r8, r9⟩ := hs.rr
    refine ⟨rfl, _, rfl, ⟨_, r1⟩, (c_mpaint r1 r2 r4.smm hv hc hp hq hu).imp (fun r2 h2 n2 w => ?_)⟩
    obtain ⟨w, rfl⟩ := w
    rcases w with ⟨w1, rfl, rfl⟩ | ⟨w1, -⟩
    · exact ⟨rfl, ⟨t, E, K, R, Z, tk, Ek, Kk, Rk, B, J, Kp, hs, ⟨ho, hd⟩, hr, hk⟩, _, rfl, rfl⟩
    · exact absurd ⟨(hr.r_isT v).mpr w1.1, w1.2⟩ q1
  · have hs1 := hs.sc q2 hT (fun q hq => q3 q (by omega))
    obtain ⟨i0, i1, i2, i3, i4, i5, i6, T', H, r1, r2, r3, r4, r5, r6, r7, r8, r9⟩ := hs1.rr
    refine ⟨rfl, _, rfl, ⟨_, r1⟩, (c_mpaint r1 r2 r4.smm hv hc hp hq hu).imp (fun r2 h2 n2 w => ?_)⟩
    obtain ⟨w, rfl⟩ := w
    rcases w with ⟨w1, -⟩ | ⟨w1, rfl, rfl⟩
    · exact absurd ⟨(hr.r_isT v).mp q1.1, q1.2⟩ w1
    · obtain ⟨p1, p2, p3, p4, p5⟩ := q1
      refine ⟨rfl, ⟨_, E, _, R, Z, tk, Ek, Kk, Rk, _, J, Kp, hs1.uB ((((r4.up _ (by omega) (by omega)).up _ (by omega) (by omega)).up _ (by omega) (by omega)).up _ (by omega) (by omega)), ⟨⟨ho.1, fun v' k v0 v1 k0 k1 => ?_, fun v' v0 v1 => ?_, ho.2.2.2⟩, hd⟩, hr.r_paint p1.1.1 p1.1.2, hk⟩, _, rfl, rfl⟩
      · have o := ho.2.1 v' k v0 v1 k0 k1
        unfold lkS upZ
        repeat' split
        all_goals first | omega | exact o
      · have o := ho.2.2.1 v' v0 v1
        have p6 := p1.1
        unfold lkS upZ
        rw [if_neg (by omega), if_neg (by omega), if_neg (by omega)]
        split
        · omega
        · exact o
theorem pr_ink (hi : INV b h) {p r w : Int} (hp : inI p) (hr0 : inI r) : PR l G mX6_ink mX7_ink 1 1 [vi p, vi r, vi w] b h n (fun z z2 => z = z2) := by
  obtain ⟨t, E, K, R, Z, tk, Ek, Kk, Rk, B, J, Kp, hs, ⟨ho, hd⟩, hr, hk⟩ := hi
  obtain ⟨o1, o2, dr, hx⟩ := hs.hx
  obtain ⟨T, sc, hT⟩ := hs.2.1
  refine (c_ink hx sc hp hr0).imp (fun r h1 n1 q => ?_)
  obtain ⟨q, rfl⟩ := q
  rcases q with ⟨q1, rfl, rfl⟩ | ⟨q1, rfl, q2, q3⟩
  · obtain ⟨i0, i1, i2, i3, i4, i5, i6, T', H, r1, r2, r3, r4, r5, r6, r7, r8, r9⟩ := hs.rr
    refine ⟨rfl, _, rfl, ⟨_, r1⟩, (c_mink r1 r3 hp hr0).imp (fun r2 h2 n2 w => ?_)⟩
    obtain ⟨w, rfl⟩ := w
    rcases w with ⟨w1, rfl, rfl⟩ | ⟨w1, -⟩
    · exact ⟨rfl, ⟨t, E, K, R, Z, tk, Ek, Kk, Rk, B, J, Kp, hs, ⟨ho, hd⟩, hr, hk⟩, _, rfl, rfl⟩
    · exact absurd w1 q1
  · have hs1 := hs.sc q2 hT (fun q hq => q3 q (by omega))
    obtain ⟨i0, i1, i2, i3, i4, i5, i6, T', H, r1, r2, r3, r4, r5, r6, r7, r8, r9⟩ := hs1.rr
    refine ⟨rfl, _, rfl, ⟨_, r1⟩, (c_mink r1 r3 hp hr0).imp (fun r2 h2 n2 w => ?_)⟩
    obtain ⟨w, rfl⟩ := w
    rcases w with ⟨w1, -⟩ | ⟨w1, rfl, rfl⟩
    · exact absurd q1 w1
    · exact ⟨rfl, ⟨_, E, K, _, Z, tk, Ek, Kk, Rk, B, _, Kp, hs1.uJ (upZ_all (P := fun x => -2147483648 ≤ x ∧ x ≤ 2147483647) r5 _ (by omega)), ⟨⟨ho.1, ho.2.1, ho.2.2.1, upZ_all (P := fun x => -2147483648 ≤ x ∧ x ≤ 2147483647) ho.2.2.2 _ (by omega)⟩, hd⟩, hr.r_ink q1.1.1 q1.1.2 q1.2.1 q1.2.2, hk⟩, _, rfl, rfl⟩
theorem pr_box (hi : INV b h) {v wh : Int} (hv : inI v) (hw : inI wh) : PR l G mX6_box mX7_box 2 2 [vi v, vi wh] b h n (fun z z2 => z = z2) := by
  obtain ⟨t, E, K, R, Z, tk, Ek, Kk, Rk, B, J, Kp, hs, ⟨ho, hd⟩, hr, hk⟩ := hi
  obtain ⟨o1, o2, dr, hx⟩ := hs.hx
  obtain ⟨T, sc, hT⟩ := hs.2.1
  refine (c_box hx sc hv hw).imp (fun r h1 n1 q => ?_)
  obtain ⟨q, rfl, rfl⟩ := q
  obtain ⟨i0, i1, i2, i3, i4, i5, i6, T', H, r1, r2, r3, r4, r5, r6, r7, r8, r9⟩ := hs.rr
  have hq : ∃ z, r = some (vi z) ∧ ((mT B v ∧ (0 ≤ wh ∧ wh < 10) ∧ z = B (11 * v + 1 + wh).toNat) ∨ (¬ (mT B v ∧ (0 ≤ wh ∧ wh < 10)) ∧ z = -1)) := by
    rcases q with ⟨q1, q2⟩ | ⟨q1, q2⟩
    · have m1 := (hr.r_isT v).mp q1
      rcases q2 with ⟨p1, p2, p3⟩ | ⟨p1, p2, p3⟩ | ⟨p1, p2⟩
      · exact ⟨_, p3, Or.inl ⟨m1, ⟨p1, by omega⟩, hr.2.1 v wh q1.1.1 q1.1.2 p1 p2⟩⟩
      · have e := hr.2.2.1 v (wh - 6) q1.1.1 q1.1.2 (by omega) (by omega)
        rw [show v * 4 + (wh - 6) = v * 4 + wh - 6 by omega, show 11 * v + 7 + (wh - 6) = 11 * v + 1 + wh by omega] at e
        exact ⟨_, p3, Or.inl ⟨m1, ⟨by omega, p2⟩, e⟩⟩
      · exact ⟨_, p2, Or.inr ⟨fun z => p1 z.2, rfl⟩⟩
    · exact ⟨_, q2, Or.inr ⟨fun z => q1 ((hr.r_isT v).mpr z.1), rfl⟩⟩
  obtain ⟨z, rfl, hz⟩ := hq
  refine ⟨rfl, z, rfl, ⟨_, r1⟩, (c_mbox r1 r2 r4.smm hv hw).imp (fun r2 h2 n2 w => ?_)⟩
  obtain ⟨w, rfl, rfl⟩ := w
  have fin : INV b h2 := ⟨t, E, K, R, Z, tk, Ek, Kk, Rk, B, J, Kp, hs, ⟨ho, hd⟩, hr, hk⟩
  rcases w with ⟨w1, w2, rfl⟩ | ⟨w1, rfl⟩
  · rcases hz with ⟨z1, z2, z3⟩ | ⟨z1, z2⟩
    · exact ⟨rfl, fin, _, rfl, z3⟩
    · exact absurd ⟨w1, w2⟩ z1
  · rcases hz with ⟨z1, z2, z3⟩ | ⟨z1, z2⟩
    · exact absurd ⟨z1, z2⟩ w1
    · exact ⟨rfl, fin, _, rfl, z2⟩
theorem pr_slide (hi : INV b h) {v x M : Int} (hv : inI v) (hx0 : inI x) (hM : inI M) : PR l G mX6_slide mX7_slide 4 4 [vi v, vi x, vi M] b h n (fun z z2 => z = z2) := by
  obtain ⟨t, E, K, R, Z, tk, Ek, Kk, Rk, B, J, Kp, hs, ⟨ho, hd⟩, hr, hk⟩ := hi
  obtain ⟨o1, o2, dr, hx⟩ := hs.hx
  obtain ⟨T, sc, hT⟩ := hs.2.1
  refine (c_slide hx sc hv hx0 hM ho.1.1 hT (fun v hv x h1 h2 => by have := ho.1.2 v hv x h1 h2; omega)).imp (fun r h1 n1 q => ?_)
  obtain ⟨q, rfl⟩ := q
  rcases q with ⟨q1, rfl, rfl⟩ | ⟨q1, w, T1, rfl, q2, q3, q4, q5⟩
  · obtain ⟨i0, i1, i2, i3, i4, i5, i6, T', H, r1, r2, r3, r4, r5, r6, r7, r8, r9⟩ := hs.rr
    have hB := hr.okB r4 ho.1
    refine ⟨rfl, _, rfl, ⟨_, r1⟩, (c_mslide r1 r2 r6 r4 r7 (fun v hv x h1 h2 => by have := hB.2 v hv x h1 h2; omega) hv hx0 hM).imp (fun r2 h2 n2 w => ?_)⟩
    obtain ⟨w, rfl⟩ := w
    rcases w with ⟨w1, rfl, rfl⟩ | ⟨w1, -⟩
    · exact ⟨rfl, ⟨t, E, K, R, Z, tk, Ek, Kk, Rk, B, J, Kp, hs, ⟨ho, hd⟩, hr, hk⟩, _, rfl, rfl⟩
    · exact absurd ⟨(hr.r_isT v).mpr w1.1, w1.2⟩ q1
  · have hs1 := hs.sc q3 q4 q5
    obtain ⟨i0, i1, i2, i3, i4, i5, i6, T', H, r1, r2, r3, r4, r5, r6, r7, r8, r9⟩ := hs1.rr
    have hB := hr.okB r4 ho.1
    refine ⟨rfl, _, rfl, ⟨_, r1⟩, (c_mslide r1 r2 r6 r4 r7 (fun v hv x h1 h2 => by have := hB.2 v hv x h1 h2; omega) hv hx0 hM).imp (fun r2 h2 n2 y => ?_)⟩
    obtain ⟨y, rfl⟩ := y
    rcases y with ⟨w1, -⟩ | ⟨w1, w', T2, rfl, y1, y2, y3, y4, y5⟩
    · exact absurd ⟨(hr.r_isT v).mp q1.1, q1.2⟩ w1
    · obtain ⟨p1, p2, p3⟩ := q1
      have ax : sAx x = x % 3 := by unfold sAx; split <;> omega
      have a0 : 0 ≤ x % 3 := by omega
      have a1 : x % 3 < 3 := by omega
      rw [ax] at q2 hs1
      have e := went_uniq q2 ((hr.r_went p1.1.1 p1.1.2 a0 a1).mpr y1)
      subst e
      refine ⟨rfl, ⟨t, _, K, R, Z, tk, Ek, Kk, Rk, _, J, Kp, hs1.rs y2 (okB_sh hB w1.1 a0 a1 y1).1 ((y5 _ (by omega) (by omega)).trans r3) r5 y3 y4 ((y5 _ (by omega) (by omega)).trans r8) r9 (fun q k1 _ k3 _ => y5 q k1 k3), ⟨⟨okE_sh ho.1 p1 a0 a1 q2, ho.2⟩, hd.wnt p1.1.1 p1.1.2 a0 a1 q2⟩, hr.r_sh p1.1.1 p1.1.2 a0 a1, hk⟩, _, rfl, rfl⟩
end C77
