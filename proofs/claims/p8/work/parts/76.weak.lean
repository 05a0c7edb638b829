/-! the pairs whose answers no one compares here: they return, and what holds between two calls holds again -/
section C76
variable {l : Launch} {G : xG} {h : yH} {n b : Nat}
theorem PR.weak (hi : INV b h) {Mx Mm : xM} {dx dm : Nat} {av : List xV} {lo hi' : Int} (hx : ∀ (t : Int) (E K R T : Nat → Int), CB b h t E K R T → MI b h h → YM l G Mx dx 0 0 (vr b :: av) h n (PB b h n t E K R T)) (hm : ∀ (h1 : yH) (B J : Nat → Int) (i0 i1 i2 i3 i4 i5 i6 : Int), RF b h1 B J i0 i1 i2 i3 i4 i5 i6 → MI b h1 h1 → YM l G Mm dm 0 0 (vr (b + 540) :: av) h1 n (PZ b h1 n lo hi')) : PR l G Mx Mm dx dm av b h n (fun _ _ => True) := by
  obtain ⟨t, E, K, R, Z, tk, Ek, Kk, Rk, B, J, Kp, hs, ho, hr, hk⟩ := hi
  obtain ⟨T, hc, hT⟩ := hs.cb ho.1
  refine (hx t E K R T hc hs.2.2.2.2.2).imp (fun r h1 n1 q => ?_)
  obtain ⟨g, z, rfl, q1, q2, q3, rfl⟩ := q
  have hs1 := hs.wc q1 q2 hT q3
  obtain ⟨i0, i1, i2, i3, i4, i5, i6, hf⟩ := hs1.rf ho.1 hr
  refine ⟨rfl, z, rfl, ⟨_, hf.1⟩, (hm h1 B J i0 i1 i2 i3 i4 i5 i6 hf hs1.2.2.2.2.2).imp (fun r2 h2 n2 w => ?_)⟩
  obtain ⟨z2, rfl, -, -, w1, rfl⟩ := w
  exact ⟨rfl, ⟨t, E, K, R, Z, tk, Ek, Kk, Rk, B, J, Kp, hs1.wm (fun _ _ => rfl) hf w1, ho, hr, hk⟩, z2, rfl, trivial⟩
theorem PR.weakD (hi : INV b h) {Mx Mm : xM} {dx dm : Nat} {av : List xV} {lo hi' : Int} (hx : ∀ (t : Int) (E K R T : Nat → Int), CB b h t E K R T → MI b h h → YM l G Mx dx 0 0 (vr b :: av) h n (PB b h n t E K R T)) (hm : ∀ (h1 : yH) (B J : Nat → Int) (i0 i1 i2 i3 i4 i5 i6 : Int), RF b h1 B J i0 i1 i2 i3 i4 i5 i6 → MI b h1 h1 → YM l G Mm dm 0 0 (vr (b + 540) :: av) h1 n (PGz b h1 n B J lo hi')) : PR l G Mx Mm dx dm av b h n (fun _ _ => True) := by
  obtain ⟨t, E, K, R, Z, tk, Ek, Kk, Rk, B, J, Kp, hs, ho, hr, hk⟩ := hi
  obtain ⟨T, hc, hT⟩ := hs.cb ho.1
  refine (hx t E K R T hc hs.2.2.2.2.2).imp (fun r h1 n1 q => ?_)
  obtain ⟨g, z, rfl, q1, q2, q3, rfl⟩ := q
  have hs1 := hs.wc q1 q2 hT q3
  obtain ⟨i0, i1, i2, i3, i4, i5, i6, hf⟩ := hs1.rf ho.1 hr
  refine ⟨rfl, z, rfl, ⟨_, hf.1⟩, (hm h1 B J i0 i1 i2 i3 i4 i5 i6 hf hs1.2.2.2.2.2).imp (fun r2 h2 n2 w => ?_)⟩
  obtain ⟨g', k0, k1, k2, k3, k4, k5, k6, ⟨z2, rfl⟩, w1, w2, -, -, w3, rfl⟩ := w
  exact ⟨rfl, ⟨t, E, K, R, Z, tk, Ek, Kk, Rk, B, J, Kp, hs1.wm w1 w2 w3, ho, hr, hk⟩, z2, rfl, trivial⟩
theorem pr_draw (hi : INV b h) : PR l G mX6_draw mX7_draw 6 4 [] b h n (fun _ _ => True) := PR.weakD hi (fun _ _ _ _ _ hc hI => w_draw hc hI) (fun _ _ _ _ _ _ _ _ _ _ hf hI => w_mdraw hf hI)
theorem pr_piece (hi : INV b h) {p q : Int} (hp : inI p) (hq : inI q) : PR l G mX6_piece mX7_piece 1 1 [vi p, vi q] b h n (fun _ _ => True) := PR.weak hi (fun _ _ _ _ _ hc hI => w_piece hc hp.1 hp.2 hq.1 hq.2 hI) (fun _ _ _ _ _ _ _ _ _ _ hf hI => w_mpiece hf hp.1 hp.2 hq.1 hq.2 hI)
theorem pr_pixel (hi : INV b h) {p q r : Int} (hp : inI p) (hq : inI q) (hr : inI r) : PR l G mX6_pixel mX7_pixel 1 2 [vi p, vi q, vi r] b h n (fun _ _ => True) := PR.weak hi (fun _ _ _ _ _ hc hI => w_pixel hc hp.1 hp.2 hq.1 hq.2 hr.1 hr.2 hI) (fun _ _ _ _ _ _ _ _ _ _ hf hI => w_mpixel hf hp.1 hp.2 hq.1 hq.2 hr.1 hr.2 hI)
theorem pr_seen (hi : INV b h) {p : Int} (hp : inI p) : PR l G mX6_seen mX7_seen 1 0 [vi p] b h n (fun _ _ => True) := PR.weak hi (fun _ _ _ _ _ hc hI => w_seen hc hp.1 hp.2 hI) (fun _ _ _ _ _ _ _ _ _ _ hf hI => w_mseen hf hp.1 hp.2 hI)
theorem pr_changed (hi : INV b h) {p : Int} (hp : inI p) : PR l G mX6_changed mX7_changed 1 1 [vi p] b h n (fun _ _ => True) := PR.weak hi (fun _ _ _ _ _ hc hI => w_changed hc hp.1 hp.2 hI) (fun _ _ _ _ _ _ _ _ _ _ hf hI => w_mchanged hf hp.1 hp.2 hI)
theorem pr_count (hi : INV b h) {p : Int} (hp : inI p) : PR l G mX6_count mX7_count 2 2 [vi p] b h n (fun _ _ => True) := PR.weak hi (fun _ _ _ _ _ hc hI => w_count hc hp.1 hp.2 hI) (fun _ _ _ _ _ _ _ _ _ _ hf hI => w_mcount hf hp.1 hp.2 hI)
theorem pr_covers (hi : INV b h) {p q : Int} (hp : inI p) (hq : inI q) : PR l G mX6_covers mX7_covers 3 3 [vi p, vi q] b h n (fun _ _ => True) := PR.weak hi (fun _ _ _ _ _ hc hI => w_covers hc hp.1 hp.2 hq.1 hq.2 hI) (fun _ _ _ _ _ _ _ _ _ _ hf hI => w_mcovers hf hp.1 hp.2 hq.1 hq.2 hI)
theorem pr_tangled (hi : INV b h) {p : Int} (hp : inI p) : PR l G mX6_tangled mX7_tangled 4 4 [vi p] b h n (fun _ _ => True) := PR.weak hi (fun _ _ _ _ _ hc hI => w_tangled hc hp.1 hp.2 hI) (fun _ _ _ _ _ _ _ _ _ _ hf hI => w_mtangled hf hp.1 hp.2 hI)
theorem pr_under (hi : INV b h) {p q r : Int} (hp : inI p) (hq : inI q) (hr : inI r) : PR l G mX6_under mX7_under 3 3 [vi p, vi q, vi r] b h n (fun _ _ => True) := PR.weak hi (fun _ _ _ _ _ hc hI => w_under hc hp.1 hp.2 hq.1 hq.2 hr.1 hr.2 hI) (fun _ _ _ _ _ _ _ _ _ _ hf hI => w_munder hf hp.1 hp.2 hq.1 hq.2 hr.1 hr.2 hI)
end C76
