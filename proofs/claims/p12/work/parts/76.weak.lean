/-! the pairs whose answers no one compares here: they return, and what holds between two calls holds again -/
section C76
variable {l : Launch} {G : xG} {h h' : yH} {n b : Nat}
theorem PCc.mi {g : yH} {ce1 ce2 : Nat} {Fc N D : Nat → Int} (hp : PCc b g ce1 ce2 Fc N D) (hI : MI b g h) : PCc b h ce1 ce2 Fc N D := by
  obtain ⟨⟨pw, la, q1, q2, q3⟩, hne, e1, e2, e3⟩ := hp
  exact ⟨⟨pw, la, q1, q2, (hI.kn (k := 8) rfl).trans q3⟩, hne, hI.pr (tc q1) rfl e1, hI.pr (k := 11) rfl rfl e2, hI.pr (k := 12) rfl rfl e3⟩
theorem TL.w (tl : TL b h) {g : yH} (hI : MI b g h') (hb : ∀ k, (8 ≤ k ∧ k ≤ 12) ∨ k = 551 ∨ k = 552 → g (b + k) = h (b + k)) : TL b h' := by
  obtain ⟨ce1, ce2, Fc, N, D, Pc, Pf, t1, t2, t3⟩ := tl
  exact ⟨ce1, ce2, Fc, N, D, Pc, Pf, (t1.on (fun k k1 k2 => hb k (by omega))).mi hI, ⟨hI.pr (k := 551) rfl rfl ((hb 551 (by omega)).trans t2.1), hI.pr (k := 552) rfl rfl ((hb 552 (by omega)).trans t2.2)⟩, t3⟩
theorem PR.weak (hi : INV b h) {Mx Mm : xM} {dx dm : Nat} {av : List xV} {lo hi' : Int} (hx : ∀ (t : Int) (E K R T : Nat → Int), CB b h t E K R T → MI b h h → YM l G Mx dx 0 0 (vr b :: av) h n (PB b h n t E K R T)) (hm : ∀ (h1 : yH) (B J : Nat → Int) (i0 i1 i2 i3 i4 i5 i6 : Int), RF b h1 B J i0 i1 i2 i3 i4 i5 i6 → MI b h1 h1 → YM l G Mm dm 0 0 (vr (b + 540) :: av) h1 n (PZ b h1 n lo hi')) : PR l G Mx Mm dx dm av b h n (fun _ _ => True) := by
  obtain ⟨t, E, K, R, Z, tk, Ek, Kk, Rk, B, J, Kp, hs, ho, hr, hk⟩ := hi
  obtain ⟨T, hc, hT⟩ := hs.t0.cb ho.1
  obtain ⟨⟨o1, o2, dr, hcx⟩, -⟩ := id hc
  have ho12 := hcx.1
  refine (hx t E K R T hc hs.2.2.2.2.2.1).imp (fun r h1 n1 q => ?_)
  obtain ⟨g, z, rfl, q1, q2, q3, rfl⟩ := q
  have q0 := q1 o1 o2 dr hcx
  have hs1 := hs.t0.wc (fun k k1 k2 k3 _ => q0 _ (by omega) (by omega)) q2 hT q3
  have tl1 : TL b h1 := hs.2.2.2.2.2.2.w q3 (fun k hk => q0 _ (by omega) (by omega))
  obtain ⟨i0, i1, i2, i3, i4, i5, i6, hf⟩ := hs1.rf ho.1 hr
  refine ⟨rfl, z, rfl, ⟨_, hf.1⟩, (hm h1 B J i0 i1 i2 i3 i4 i5 i6 hf hs1.2.2.2.2.2).imp (fun r2 h2 n2 w => ?_)⟩
  obtain ⟨z2, rfl, -, -, w1, rfl⟩ := w
  exact ⟨rfl, ⟨t, E, K, R, Z, tk, Ek, Kk, Rk, B, J, Kp, (hs1.wm (fun _ _ _ _ => rfl) hf w1).st (tl1.w w1 (fun _ _ => rfl)), ho, hr, hk⟩, z2, rfl, trivial⟩
theorem pr_piece (hi : INV b h) {p q : Int} (hp : inI p) (hq : inI q) : PR l G mX6_piece mX7_piece 1 1 [vi p, vi q] b h n (fun _ _ => True) := PR.weak hi (fun _ _ _ _ _ hc hI => w_piece hc hp.1 hp.2 hq.1 hq.2 hI) (fun _ _ _ _ _ _ _ _ _ _ hf hI => w_mpiece hf hp.1 hp.2 hq.1 hq.2 hI)
theorem pr_pixel (hi : INV b h) {p q r : Int} (hp : inI p) (hq : inI q) (hr : inI r) : PR l G mX6_pixel mX7_pixel 1 2 [vi p, vi q, vi r] b h n (fun _ _ => True) := PR.weak hi (fun _ _ _ _ _ hc hI => w_pixel hc hp.1 hp.2 hq.1 hq.2 hr.1 hr.2 hI) (fun _ _ _ _ _ _ _ _ _ _ hf hI => w_mpixel hf hp.1 hp.2 hq.1 hq.2 hr.1 hr.2 hI)
theorem pr_seen (hi : INV b h) {p : Int} (hp : inI p) : PR l G mX6_seen mX7_seen 1 0 [vi p] b h n (fun _ _ => True) := PR.weak hi (fun _ _ _ _ _ hc hI => w_seen hc hp.1 hp.2 hI) (fun _ _ _ _ _ _ _ _ _ _ hf hI => w_mseen hf hp.1 hp.2 hI)
theorem pr_changed (hi : INV b h) {p : Int} (hp : inI p) : PR l G mX6_changed mX7_changed 1 1 [vi p] b h n (fun _ _ => True) := PR.weak hi (fun _ _ _ _ _ hc hI => w_changed hc hp.1 hp.2 hI) (fun _ _ _ _ _ _ _ _ _ _ hf hI => w_mchanged hf hp.1 hp.2 hI)
theorem pr_count (hi : INV b h) {p : Int} (hp : inI p) : PR l G mX6_count mX7_count 2 2 [vi p] b h n (fun _ _ => True) := PR.weak hi (fun _ _ _ _ _ hc hI => w_count hc hp.1 hp.2 hI) (fun _ _ _ _ _ _ _ _ _ _ hf hI => w_mcount hf hp.1 hp.2 hI)
theorem pr_covers (hi : INV b h) {p q : Int} (hp : inI p) (hq : inI q) : PR l G mX6_covers mX7_covers 3 3 [vi p, vi q] b h n (fun _ _ => True) := PR.weak hi (fun _ _ _ _ _ hc hI => w_covers hc hp.1 hp.2 hq.1 hq.2 hI) (fun _ _ _ _ _ _ _ _ _ _ hf hI => w_mcovers hf hp.1 hp.2 hq.1 hq.2 hI)
theorem pr_tangled (hi : INV b h) {p : Int} (hp : inI p) : PR l G mX6_tangled mX7_tangled 4 4 [vi p] b h n (fun _ _ => True) := PR.weak hi (fun _ _ _ _ _ hc hI => w_tangled hc hp.1 hp.2 hI) (fun _ _ _ _ _ _ _ _ _ _ hf hI => w_mtangled hf hp.1 hp.2 hI)
theorem pr_under (hi : INV b h) {p q r : Int} (hp : inI p) (hq : inI q) (hr : inI r) : PR l G mX6_under mX7_under 3 3 [vi p, vi q, vi r] b h n (fun _ _ => True) := PR.weak hi (fun _ _ _ _ _ hc hI => w_under hc hp.1 hp.2 hq.1 hq.2 hr.1 hr.2 hI) (fun _ _ _ _ _ _ _ _ _ _ hf hI => w_munder hf hp.1 hp.2 hq.1 hq.2 hr.1 hr.2 hI)
end C76
