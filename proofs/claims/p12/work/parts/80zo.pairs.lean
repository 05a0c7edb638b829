/-! both draw alike, and show the same -/
section C80zo
variable {l : Launch} {G : xG} {h : yH} {n b : Nat} {g : yH}
theorem pr_draw (hi : INV b h) : PR l G mX6_draw mX7_draw 6 4 [] b h n (fun _ _ => True) := by
  obtain ⟨t, E, K, R, Z, tk, Ek, Kk, Rk, B, J, Kp, hs, ho, hr, hk⟩ := hi
  obtain ⟨T, hc, hT⟩ := hs.t0.cb ho.1
  obtain ⟨⟨o1, o2, dr, hcx⟩, -⟩ := id hc
  have ho12 := hcx.1
  obtain ⟨ce1, ce2, Fo, N0, D0, Pc, Pf, hpc, hpm, tlk, tN, tD⟩ := id hs.2.2.2.2.2.2
  have hce1 : ce1 = 9 ∨ ce1 = 10 := by obtain ⟨⟨pw, la, q⟩, -⟩ := hpc; exact q.1
  refine (e_draw hcx hc ho.1.1 ho.2 hpc hs.2.2.2.2.2.1).imp (fun r' h1 n1 y => ?_)
  obtain ⟨g', z, rfl, q2, q3, rfl, P, W, D, σ1, hPE, hW, hin, run1, st1, hend⟩ := y
  have hb0 : ∀ k, k ≠ 0 → k < 8 ∨ 12 < k → k < 20 ∨ 520 ≤ k → g' (b + k) = h (b + k) := by
    intro k k1 k2 k3
    rcases hend with ⟨-, e⟩ | ⟨-, e, -⟩
    · exact e _ (by omega) (by omega)
    · exact e k k1 k2 k3
  have hs1 := hs.t0.wc (fun k k1 k2 k3 k4 => hb0 k k1 (by
    rcases (show k < 8 ∨ 12 < k ∨ k = 9 ∨ k = 10 ∨ k = 11 ∨ k = 12 by omega) with w | w | rfl | rfl | rfl | rfl
    · exact Or.inl w
    · exact Or.inr w
    · cases k4
    · cases k4
    · cases k4
    · cases k4) k3) q2 hT q3
  obtain ⟨i0, i1, i2, i3, i4, i5, i6, hf⟩ := hs1.rf ho.1 hr
  have e51 : h1 (b + 551) = some (ai 8192 Pc) := q3.pr (k := 551) rfl rfl ((hb0 551 (by omega) (by omega) (by omega)).trans hpm.1)
  have e52 : h1 (b + 552) = some (ai 8192 Pf) := q3.pr (k := 552) rfl rfl ((hb0 552 (by omega) (by omega) (by omega)).trans hpm.2)
  refine ⟨rfl, z, rfl, ⟨_, hf.1⟩, (e_mdraw (D := D) hf hr ho.1.1 ho.2 hPE hW hin e51 hs1.2.2.2.2.2).imp (fun r2 h2 n2 w => ?_)⟩
  obtain ⟨g2, z2, k0, k1, k2, k3, k4, k5, k6, rfl, w2, w3, rfl, σ2, run2, st2, wend⟩ := w
  have e := RUN_det run1 st1 run2 st2
  subst e
  have ez := STOP_uniq st1 st2
  subst ez
  have hq : ∀ q, q ≠ b + 540 → q ≠ b + 551 → q ≠ b + 552 → g2 q = h1 q := by
    intro q x1 x2 x3
    rcases wend with ⟨-, e⟩ | ⟨-, e, -⟩
    · exact e q x1
    · exact e q x1 x2 x3
  refine ⟨rfl, ⟨t, E, K, R, Z, tk, Ek, Kk, Rk, B, J, Kp, (hs1.wm hq w2 w3).st ?_, ho, hr, hk⟩, z, rfl, trivial⟩
  rcases hend with ⟨zm, e1⟩ | ⟨zv, e1, Fc, N, Dd, pc1, hlk, cN, cD, cE1, cE2⟩
  · rcases wend with ⟨-, e2⟩ | ⟨zv, -⟩
    · have tl1 : TL b h1 := hs.2.2.2.2.2.2.w q3 (fun k hk => e1 _ (by omega) (by omega))
      exact tl1.w w3 (fun k hk => e2 _ (by omega))
    · exact absurd (zm.symm.trans zv) (by omega)
  · rcases wend with ⟨zm, -⟩ | ⟨-, e2, Pc', Pf', pm, hP⟩
    · exact absurd (zm.symm.trans zv) (by omega)
    · have pc2 : PCc b h2 ce2 ce1 Fc N Dd := (pc1.on (fun k a1 a2 => hq _ (by omega) (by omega) (by omega))).mi w3
      have hord := (ORD.start (c := crd (sN t 24) 128) (D := D) hPE hW hin).run run1
      obtain ⟨P1, W1, S1, x1, c1, D1, a1⟩ := σ1
      have hS : ∀ s, S1 s = false := by
        rcases st1 with ⟨q, -⟩ | ⟨-, -, -, q⟩
        · exact q
        · have q' : z = -1 := q
          have zv' : z = (a1 : Int) := zv
          omega
      have lk : LK Fc Pc' := fun y y0 y1 => by
        obtain ⟨-, xx, hb⟩ := hP y.toNat (by omega)
        rw [Int.toNat_of_nonneg y0] at hb
        exact look_code hr ho.1 hord hS y0 y1 (hlk y y0 y1) hb
      have lko : LK Fo Pf' := fun y y0 y1 => by
        rw [(hP y.toNat (by omega)).1]
        exact tlk y y0 y1
      refine ⟨ce2, ce1, Fc, N, Dd, Pc', Pf', pc2, pm, lk, fun v hv => ?_, ?_, fun p hp => lk.exi lko hp cE1, fun p hp => lk.exj lko hp cE2⟩
      · rw [cN v hv, lk.seen v]
      · rw [cD, lk.many lko]
theorem e_seen {o1 o2 ce1 ce2 : Nat} {dr pw la : Int} {N : Nat → Int} (hx : h (b + 0) = some (bo b (b + o1) (b + o2) dr)) (hq : QF b h ce1 ce2 pw la) (e11 : h (b + 11) = some (ai 24 N)) {p : Int} (p1 : -2147483648 ≤ p) (p2 : p < 2147483648) (hI : MI b h h) : YM l G mX6_seen 1 0 0 [vr b, vi p] h n (fun r h' n' => r = some (vi (if 0 ≤ p ∧ p < 24 then N p.toNat else 0)) ∧ h' = h ∧ n' = n) := by
  refine YM.of kX6_seen (Nat.le_of_ble_eq_true rfl) (L0 := [some (vr b), some (vi p)]) rfl ?_
  obtain ⟨h1, h2, hq0⟩ := id hq
  refine y_run kX6_seen rfl ?_
  refine y_cs kX6_seen kX6_isBelow 2 rfl (by decide +kernel) (c_isBelow _ _ ⟨by omega, by omega⟩ ⟨by omega, by omega⟩) rfl rfl ?_
  rintro _ h3 _ ⟨rfl, eh, rfl⟩
  subst eh
  refine y_beq kX6_seen rfl rfl (fun c1 => ?_) (fun c1 => ?_)
  · refine y_run kX6_seen rfl ?_
    exact y_ir kX6_seen rfl rfl ⟨by rw [if_neg c1], rfl, rfl⟩
  · refine y_run kX6_seen rfl ?_
    refine m_get kX6_seen (0) hI hx ?_
    refine m_get kX6_seen (8) hI hq0 ?_
    refine y_run kX6_seen rfl ?_
    refine y_ia kX6_seen rfl e11 (by omega) (by omega) ?_
    refine y_run kX6_seen rfl ?_
    exact y_ir kX6_seen rfl rfl ⟨by rw [if_pos c1], rfl, rfl⟩
theorem e_changed {o1 o2 ce1 ce2 : Nat} {dr pw la : Int} {D : Nat → Int} (hx : h (b + 0) = some (bo b (b + o1) (b + o2) dr)) (hq : QF b h ce1 ce2 pw la) (e12 : h (b + 12) = some (ai 5 D)) {p : Int} (p1 : -2147483648 ≤ p) (p2 : p < 2147483648) (hI : MI b h h) : YM l G mX6_changed 1 0 0 [vr b, vi p] h n (fun r h' n' => r = some (vi (if 0 ≤ p ∧ p < 5 then D p.toNat else -1)) ∧ h' = h ∧ n' = n) := by
  refine YM.of kX6_changed (Nat.le_of_ble_eq_true rfl) (L0 := [some (vr b), some (vi p)]) rfl ?_
  obtain ⟨h1, h2, hq0⟩ := id hq
  refine y_run kX6_changed rfl ?_
  refine m_get kX6_changed (0) hI hx ?_
  refine m_get kX6_changed (8) hI hq0 ?_
  refine y_al kX6_changed rfl e12 ?_
  refine y_cs kX6_changed kX6_isBelow 2 rfl (by decide +kernel) (c_isBelow _ _ ⟨by omega, by omega⟩ ⟨by omega, by omega⟩) rfl rfl ?_
  rintro _ h3 _ ⟨rfl, eh, rfl⟩
  subst eh
  refine y_beq kX6_changed rfl rfl (fun c1 => ?_) (fun c1 => ?_)
  · refine y_run kX6_changed rfl ?_
    exact y_ir kX6_changed rfl rfl ⟨by rw [if_neg (show ¬ (0 ≤ p ∧ p < 5) by omega)], rfl, rfl⟩
  · refine y_run kX6_changed rfl ?_
    refine m_get kX6_changed (0) hI hx ?_
    refine m_get kX6_changed (8) hI hq0 ?_
    refine y_run kX6_changed rfl ?_
    refine y_ia kX6_changed rfl e12 (by omega) (by omega) ?_
    refine y_run kX6_changed rfl ?_
    exact y_ir kX6_changed rfl rfl ⟨by rw [if_pos (show 0 ≤ p ∧ p < 5 by omega)], rfl, rfl⟩
theorem seen_eq {Fc N D Pc Pf : Nat → Int} (ht : TLR Fc N D Pc Pf) (p : Int) : (if 0 ≤ p ∧ p < 24 then N p.toNat else 0) = (crd (sR Pc p) 8192 : Int) := by
  obtain ⟨tlk, tN, -⟩ := ht
  by_cases c : 0 ≤ p ∧ p < 24
  · rw [if_pos c, tN p.toNat (by omega), Int.toNat_of_nonneg c.1]
  · rw [if_neg c]
    have : crd (sR Pc p) 8192 = 0 := crd_fs (fun k hk => by
      have q := tlk (k : Int) (by omega) (by omega)
      rw [Int.toNat_natCast] at q
      unfold sR
      by_cases e : Pc k = -1
      · rw [show decide (Pc k ≠ -1) = false from decide_eq_false (fun z => z e)]; rfl
      · obtain ⟨-, w1, w2⟩ := q.box.2 e
        rw [show decide (Pc k % 32 = p) = false from decide_eq_false (fun z => c (by omega)), Bool.and_false])
    rw [this]
    rfl
theorem pe_seen (hi : INV b h) {p : Int} (hp : inI p) : PR l G mX6_seen mX7_seen 1 0 [vi p] b h n (fun z z2 => z = z2) := by
  obtain ⟨t, E, K, R, Z, tk, Ek, Kk, Rk, B, J, Kp, hs, ho, hr, hk⟩ := hi
  obtain ⟨⟨o1, o2, dr, hcx⟩, -⟩ := id hs.1
  obtain ⟨ce1, ce2, Fo, N0, D0, Pc, Pf, ⟨⟨pw, la, hq⟩, hne, eF, e11, e12⟩, hpm, tr⟩ := id hs.2.2.2.2.2.2
  obtain ⟨i0, i1, i2, i3, i4, i5, i6, hf⟩ := hs.t0.rf ho.1 hr
  refine (e_seen hcx.2.1 hq e11 hp.1 hp.2 hs.2.2.2.2.2.1).imp (fun r h1 n1 y => ?_)
  obtain ⟨rfl, rfl, rfl⟩ := y
  refine ⟨rfl, _, rfl, ⟨_, hf.1⟩, (e_mseen hf hp.1 hp.2 hpm.1 hs.2.2.2.2.2.1).imp (fun r2 h2 n2 y => ?_)⟩
  obtain ⟨rfl, rfl, rfl⟩ := y
  exact ⟨rfl, ⟨t, E, K, R, Z, tk, Ek, Kk, Rk, B, J, Kp, hs, ho, hr, hk⟩, _, rfl, seen_eq tr p⟩
theorem pe_changed (hi : INV b h) {p : Int} (hp : inI p) : PR l G mX6_changed mX7_changed 1 1 [vi p] b h n (fun z z2 => z = z2) := by
  obtain ⟨t, E, K, R, Z, tk, Ek, Kk, Rk, B, J, Kp, hs, ho, hr, hk⟩ := hi
  obtain ⟨⟨o1, o2, dr, hcx⟩, -⟩ := id hs.1
  obtain ⟨ce1, ce2, Fo, N0, D0, Pc, Pf, ⟨⟨pw, la, hq⟩, hne, eF, e11, e12⟩, hpm, tr⟩ := id hs.2.2.2.2.2.2
  obtain ⟨i0, i1, i2, i3, i4, i5, i6, hf⟩ := hs.t0.rf ho.1 hr
  refine (e_changed hcx.2.1 hq e12 hp.1 hp.2 hs.2.2.2.2.2.1).imp (fun r h1 n1 y => ?_)
  obtain ⟨rfl, rfl, rfl⟩ := y
  refine ⟨rfl, _, rfl, ⟨_, hf.1⟩, (e_mchanged hf hp.1 hp.2 hpm.1 hpm.2 hs.2.2.2.2.2.1).imp (fun r2 h2 n2 y => ?_)⟩
  obtain ⟨hy, rfl, rfl⟩ := y
  have hinv : INV b h2 := ⟨t, E, K, R, Z, tk, Ek, Kk, Rk, B, J, Kp, hs, ho, hr, hk⟩
  obtain ⟨-, -, c0, c1, c2⟩ := tr
  rcases hy with ⟨w, rfl⟩ | ⟨w, a, x, y, ea, ee, rfl⟩
  · exact ⟨rfl, hinv, _, rfl, by rw [if_neg w]⟩
  · refine ⟨rfl, hinv, _, rfl, ?_⟩
    rw [if_pos w]
    by_cases e0 : p = 0
    · rw [if_pos e0, ea, e0]; exact c0
    · rw [if_neg e0]
      by_cases e3 : p < 3
      · obtain ⟨u1, u2⟩ := (c1 p e3).uniq ee
        by_cases e1 : p % 2 = 1
        · rw [if_pos e1, ← u1, show p.toNat = 1 by omega]
        · rw [if_neg e1, ← u2, show p.toNat = 2 by omega]
      · obtain ⟨u1, u2⟩ := (c2 p e3).uniq ee
        by_cases e1 : p % 2 = 1
        · rw [if_pos e1, ← u1, show p.toNat = 3 by omega]
        · rw [if_neg e1, ← u2, show p.toNat = 4 by omega]
end C80zo
