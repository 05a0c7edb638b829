/-! both draw alike -/
theorem pe_draw {l : Launch} {G : xG} {h : yH} {n b : Nat} (hi : INV b h) : PR l G mX6_draw mX7_draw 6 4 [] b h n (fun z z2 => z = z2) := by
  obtain ⟨t, E, K, R, Z, tk, Ek, Kk, Rk, B, J, Kp, hs, ho, hr, hk⟩ := hi
  obtain ⟨T, hc, hT⟩ := hs.cb ho.1
  refine (e_draw hc ho.1.1 ho.2 hs.2.2.2.2.2).imp (fun r' h1 n1 y => ?_)
  obtain ⟨g', z, rfl, q1, q2, q3, rfl, P, W, D, σ1, hPE, hW, hin, run1, st1⟩ := y
  have hs1 := hs.wc q1 q2 hT q3
  obtain ⟨i0, i1, i2, i3, i4, i5, i6, hf⟩ := hs1.rf ho.1 hr
  refine ⟨rfl, z, rfl, ⟨_, hf.1⟩, (e_mdraw (D := D) hf hr ho.1.1 ho.2 hPE hW hin hs1.2.2.2.2.2).imp (fun r2 h2 n2 w => ?_)⟩
  obtain ⟨g2, z2, k0, k1, k2, k3, k4, k5, k6, rfl, w1, w2, w3, rfl, σ2, run2, st2⟩ := w
  refine ⟨rfl, ⟨t, E, K, R, Z, tk, Ek, Kk, Rk, B, J, Kp, hs1.wm w1 w2 w3, ho, hr, hk⟩, z2, rfl, ?_⟩
  have e := RUN_det run1 st1 run2 st2
  subst e
  exact STOP_uniq st1 st2
