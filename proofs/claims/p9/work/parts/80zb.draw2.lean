/-! both draw alike, and tell the same -/
section C80zb
variable {l : Launch} {G : xG} {h : yH} {n b : Nat} {g : yH}
theorem SHc.mi {o1 : Nat} {a : Int} {P W D : Nat → Int} (hs : SHc b g o1 a P W D) (hI : MI b g h) : SHc b h o1 a P W D := by
  have ho := hs.o
  obtain ⟨⟨o2, dr, c⟩, ⟨c', x, e1⟩, e2, e3, e4⟩ := hs
  exact ⟨⟨o2, dr, c.on (hI.kn (k := 0) rfl)⟩, ⟨c', x, (hI.kn (t0 ho)).trans e1⟩, hI.pr (t1 ho) rfl e2, hI.pr (t2 ho) rfl e3, hI.pr (t3 ho) rfl e4⟩
theorem mo_i0 {c : Nat} {i0 i1 i2 i3 i4 i5 i6 k0 k1 k2 k3 k4 k5 k6 : Int} (e : some (mo c i0 i1 i2 i3 i4 i5 i6) = some (mo c k0 k1 k2 k3 k4 k5 k6)) : i0 = k0 := by
  unfold mo at e
  simp only [Option.some.injEq, Sum.inr.injEq, Sum.inl.injEq, Prod.mk.injEq, List.cons.injEq, true_and, and_true] at e
  exact e.1
theorem pr_draw (hi : INV b h) : PR l G mX6_draw mX7_draw 6 4 [] b h n (fun _ _ => True) := by
  obtain ⟨t, E, K, R, Z, tk, Ek, Kk, Rk, B, J, Kp, hs, ho, hr, hk⟩ := hi
  obtain ⟨T, hc, hT⟩ := hs.t0.cb ho.1
  obtain ⟨⟨o1, o2, dr, hcx⟩, -⟩ := id hc
  have ho12 := hcx.1
  have ho2 : o2 = 20 ∨ o2 = 270 := by omega
  have tl := hs.2.2.2.2.2.2
  refine (e_draw hcx.gc (gC_fr b o2 h) (hc.gc ho2) ho.1.1 ho.2 (hs.2.2.2.2.2.1.gc ho2)).imp (fun r' h1 n1 y => ?_)
  obtain ⟨g', z, rfl, q2, q3, rfl, P, W, D, σ1, hPE, hW, hin, run1, st1, hend⟩ := y
  have hb0 : ∀ k, k ≠ 0 → k ≠ 8 → k < 20 ∨ 520 ≤ k → g' (b + k) = h (b + k) := by
    intro k k1 k2 k3
    rcases hend with ⟨-, e⟩ | ⟨-, e, -⟩
    · exact (e _ (by omega) (by omega)).trans (gC_ne (by omega))
    · exact (e _ (by omega) (by omega) (by omega)).trans (gC_ne (by omega))
  have hs1 := hs.t0.wc (fun k k1 k2 k3 _ => hb0 k k1 k2 k3) q2 hT q3
  obtain ⟨i0, i1, i2, i3, i4, i5, i6, hf⟩ := hs1.rf ho.1 hr
  refine ⟨rfl, z, rfl, ⟨_, hf.1⟩, (e_mdraw (D := D) hf hr ho.1.1 ho.2 hPE hW hin hs1.2.2.2.2.2).imp (fun r2 h2 n2 w => ?_)⟩
  obtain ⟨g2, z2, k0, k1, k2, k3, k4, k5, k6, rfl, w2, w3, rfl, σ2, run2, st2, wend⟩ := w
  have e := RUN_det run1 st1 run2 st2
  subst e
  have ez := STOP_uniq st1 st2
  subst ez
  have hq : ∀ q, q ≠ b + 540 → q ≠ b + 550 → g2 q = h1 q := by
    intro q x1 x2
    rcases wend with ⟨-, -, e⟩ | ⟨-, -, e, -⟩
    · exact e q x1
    · exact e q x1 x2
  refine ⟨rfl, ⟨t, E, K, R, Z, tk, Ek, Kk, Rk, B, J, Kp, (hs1.wm hq w2 w3).st ?_, ho, hr, hk⟩, z, rfl, trivial⟩
  rcases hend with ⟨zm, e1⟩ | ⟨zv, e1, sh, a96, hDb⟩
  · rcases wend with ⟨-, ke, e2⟩ | ⟨zv, -⟩
    · obtain ⟨p1, a, P1, W1, D1, Q1, tc, ⟨⟨m1, m2, m3, m4, m5, m6, y5⟩, y6⟩, tt⟩ := tl
      have ep : p1 = o1 := by
        obtain ⟨⟨p2, ds, hz⟩, -⟩ := id tc
        exact (hcx.eq hz).1.symm
      subst ep
      have q00 : ∀ k, k < o2 ∨ o2 + 5 ≤ k → g' (b + k) = h (b + k) := fun k hk => (e1 _ (by omega) (by omega)).trans (gC_ne (by omega))
      have tc1 : SHc b h1 p1 a P1 W1 D1 := (tc.on (fun k hk => q00 k (by omega))).mi q3
      have y51 : h1 (b + 540) = some (mo (b + 540) a m1 m2 m3 m4 m5 m6) := (q3.kn (k := 540) rfl).trans ((hb0 540 (by omega) (by omega) (by omega)).trans y5)
      have y61 : h1 (b + 550) = some (ai 768 Q1) := q3.pr (k := 550) rfl rfl ((hb0 550 (by omega) (by omega) (by omega)).trans y6)
      have ea : i0 = a := mo_i0 (hf.1.symm.trans y51)
      have tc2 : SHc b h2 p1 a P1 W1 D1 := (tc1.on (fun k hk => e2 _ (by omega))).mi w3
      have y52 : h2 (b + 540) = some (mo (b + 540) a k1 k2 k3 k4 k5 k6) := by
        rw [← ea, ← ke]
        exact (w3.kn (k := 540) rfl).trans w2.1
      exact ⟨p1, a, P1, W1, D1, Q1, tc2, ⟨⟨k1, k2, k3, k4, k5, k6, y52⟩, w3.pr (k := 550) rfl rfl ((e2 _ (by omega)).trans y61)⟩, tt⟩
    · exact absurd (zm.symm.trans zv) (by omega)
  · rcases wend with ⟨zm, -⟩ | ⟨-, ke, e2, T1, gT, tlr⟩
    · exact absurd (zm.symm.trans zv) (by omega)
    · have sh2 : SHc b h2 o2 _ _ _ _ := ((sh.mi q3).on (fun k hk => hq _ (by omega) (by omega))).mi w3
      rw [← zv] at sh2 a96
      refine ⟨o2, z, _, _, _, T1, sh2, ⟨⟨k1, k2, k3, k4, k5, k6, ?_⟩, w3.pr (k := 550) rfl rfl gT⟩, by omega, a96, tlr⟩
      rw [← ke]
      exact (w3.kn (k := 540) rfl).trans w2.1
end C80zb
