section C78
variable {l : Launch} {G : xG} {h h' : yH} {n b : Nat} {t : Int} {E K R Z tk B J Zm Kp : Nat → Int} {Ek Kk Rk : Nat → Nat → Int}
theorem tr6_bd {T : Nat → Int} {x y z dx dy dz : Int} (h1 : lies x dx) (h2 : lies y dy) (h3 : lies z dz) (j : Nat) (hj : j < 6) : 0 ≤ tr6 T x y z dx dy dz j ∧ tr6 T x y z dx dy dz j ≤ 32 := by
  unfold lies at h1 h2 h3
  unfold tr6 upZ
  repeat' split
  all_goals omega
theorem tr6_T {T : Nat → Int} (hT : bT T) {x y z dx dy dz : Int} (h1 : lies x dx) (h2 : lies y dy) (h3 : lies z dz) : bT (tr6 T x y z dx dy dz) := by
  intro j
  by_cases c : j < 6
  · have := tr6_bd (T := T) h1 h2 h3 j c
    omega
  · have e : tr6 T x y z dx dy dz j = T j := by
      unfold tr6
      rw [upZ_ne _ _ (by omega), upZ_ne _ _ (by omega), upZ_ne _ _ (by omega), upZ_ne _ _ (by omega), upZ_ne _ _ (by omega), upZ_ne _ _ (by omega)]
    rw [e]
    exact hT j
theorem tr6_w {T : Nat → Int} {x y z dx dy dz : Int} (h1 : lies x dx) (h2 : lies y dy) (h3 : lies z dz) (k : Int) (k0 : 0 ≤ k) (k1 : k < 3) : tr6 T x y z dx dy dz (2 * k).toNat < tr6 T x y z dx dy dz (2 * k + 1).toNat := by
  unfold lies at h1 h2 h3
  rcases (show k = 0 ∨ k = 1 ∨ k = 2 by omega) with rfl | rfl | rfl
  · show tr6 T x y z dx dy dz 0 < tr6 T x y z dx dy dz 1
    have e0 : tr6 T x y z dx dy dz 0 = x := rfl
    have e1 : tr6 T x y z dx dy dz 1 = x + dx := rfl
    omega
  · show tr6 T x y z dx dy dz 2 < tr6 T x y z dx dy dz 3
    have e0 : tr6 T x y z dx dy dz 2 = y := rfl
    have e1 : tr6 T x y z dx dy dz 3 = y + dy := rfl
    omega
  · show tr6 T x y z dx dy dz 4 < tr6 T x y z dx dy dz 5
    have e0 : tr6 T x y z dx dy dz 4 = z := rfl
    have e1 : tr6 T x y z dx dy dz 5 = z + dz := rfl
    omega
/-- box v has the ends of the trial -/
theorem okE.place (ho : okE t E) {T : Nat → Int} {v x y z dx dy dz : Int} (v0 : 0 ≤ v) (v1 : v < 24) (h1 : lies x dx) (h2 : lies y dy) (h3 : lies z dz) {t' : Int} (ht : ∀ u, u ≠ v → isT t' u → isT t u) : okE t' (cpZ (tr6 T x y z dx dy dz) E 0 (v * 6).toNat 6) := by
  refine ⟨fun j => ?_, fun u hu k k0 k1 => ?_⟩
  · unfold cpZ
    split
    · exact tr6_bd h1 h2 h3 _ (by omega)
    · exact ho.1 j
  · have u1 := hu.1
    unfold cpZ
    by_cases c : u = v
    · subst c
      rw [if_pos (by omega), if_pos (by omega), show 0 + ((u * 6 + 2 * k).toNat - (u * 6).toNat) = (2 * k).toNat by omega, show 0 + ((u * 6 + 2 * k + 1).toNat - (u * 6).toNat) = (2 * k + 1).toNat by omega]
      exact tr6_w h1 h2 h3 k k0 k1
    · rw [if_neg (by omega), if_neg (by omega)]
      exact ho.2 u (ht u c hu) k k0 k1
theorem bB.place (hb : bB B) {T : Nat → Int} {v x y z dx dy dz : Int} (v0 : 0 ≤ v) (h1 : lies x dx) (h2 : lies y dy) (h3 : lies z dz) : bB (bcp B (tr6 T x y z dx dy dz) v 6) := by
  intro j
  unfold bcp
  split
  · exact tr6_bd h1 h2 h3 _ (by omega)
  · exact hb j
theorem pr_place (hi : INV b h) {v x y z dx dy dz : Int} (hv : inI v) (h1 : inI x) (h2 : inI y) (h3 : inI z) (h4 : inI dx) (h5 : inI dy) (h6 : inI dz) : PR l G mX6_place mX7_place 3 3 [vi v, vi x, vi y, vi z, vi dx, vi dy, vi dz] b h n (fun z z2 => z = z2) := by
  obtain ⟨t, E, K, R, Z, tk, Ek, Kk, Rk, B, J, Kp, hs, ⟨ho, hd⟩, hr, hk⟩ := hi
  obtain ⟨o1, o2, dr, hx⟩ := hs.hx
  obtain ⟨T, sc, hT⟩ := hs.2.1
  refine (c_place hx sc hv h1 h2 h3 h4 h5 h6 ho.1.1 hT).imp (fun r g1 n1 q => ?_)
  obtain ⟨q, hf, rfl⟩ := q
  rcases q with ⟨q1, rfl, rfl⟩ | ⟨q1, g, q2, q⟩
  · obtain ⟨i0, i1, i2, i3, i4, i5, i6, T', H, r1, r2, r3, r4, r5, r6, r7, r8, r9⟩ := hs.rr
    refine ⟨rfl, _, rfl, ⟨_, r1⟩, (c_mplace r1 r2 r4.smm r6 r7 hv h1 h2 h3 h4 h5 h6).imp (fun r2 g2 n2 w => ?_)⟩
    obtain ⟨w, rfl⟩ := w
    rcases w with ⟨w1, rfl, rfl⟩ | ⟨w1, -⟩
    · exact ⟨rfl, ⟨t, E, K, R, Z, tk, Ek, Kk, Rk, B, J, Kp, hs, ⟨ho, hd⟩, hr, hk⟩, _, rfl, rfl⟩
    · exact absurd w1 q1
  · obtain ⟨⟨v0, v1⟩, l1, l2, l3⟩ := q1
    have uq : ∀ (T' : Nat → Int) (g' : Int), least24 (mway B (tr6 T' x y z dx dy dz) v) g' → g = g' := fun T' g' w => least24_uniq (fun u u0 u1 => hr.r_way (fun j hj => tr6_eq T T' x y z dx dy dz j hj) v u0 u1) q2 w
    rcases q with ⟨q3, rfl, q4⟩ | ⟨q3, rfl, q4⟩
    · have hs1 := hs.sc q4 (tr6_T hT l1 l2 l3) hf
      obtain ⟨i0, i1, i2, i3, i4, i5, i6, T', H, r1, r2, r3, r4, r5, r6, r7, r8, r9⟩ := hs1.rr
      refine ⟨rfl, _, rfl, ⟨_, r1⟩, (c_mplace r1 r2 r4.smm r6 r7 hv h1 h2 h3 h4 h5 h6).imp (fun r2 g2 n2 w => ?_)⟩
      obtain ⟨w, rfl⟩ := w
      rcases w with ⟨w1, -⟩ | ⟨-, g', w2, w⟩
      · exact absurd ⟨⟨v0, v1⟩, l1, l2, l3⟩ w1
      · have e := uq T' g' w2
        subst e
        rcases w with ⟨-, rfl, rfl⟩ | ⟨w3, -⟩
        · exact ⟨rfl, ⟨t, E, K, R, Z, tk, Ek, Kk, Rk, B, J, Kp, hs1.uT (tr6_T r7 l1 l2 l3), ⟨ho, hd⟩, hr, hk⟩, _, rfl, rfl⟩
        · exact absurd w3 q3
    · have hs1 := hs.sc q4 (tr6_T hT l1 l2 l3) hf
      obtain ⟨i0, i1, i2, i3, i4, i5, i6, T', H, r1, r2, r3, r4, r5, r6, r7, r8, r9⟩ := hs1.rr
      refine ⟨rfl, _, rfl, ⟨_, r1⟩, (c_mplace r1 r2 r4.smm r6 r7 hv h1 h2 h3 h4 h5 h6).imp (fun r2 g2 n2 w => ?_)⟩
      obtain ⟨w, rfl⟩ := w
      rcases w with ⟨w1, -⟩ | ⟨-, g', w2, w⟩
      · exact absurd ⟨⟨v0, v1⟩, l1, l2, l3⟩ w1
      · have e := uq T' g' w2
        subst e
        have nw : ∀ u, 0 ≤ u → u < 24 → ¬ wayP t E (tr6 T x y z dx dy dz) v u := by
          rcases q2 with ⟨y0, -⟩ | ⟨-, y1⟩
          · omega
          · exact y1
        have te := fun j (hj : j < 6) => tr6_eq T T' x y z dx dy dz j hj
        rcases w with ⟨w3, -⟩ | ⟨-, rfl, w⟩
        · exact absurd q3 w3
        · rcases w with ⟨w4, rfl⟩ | ⟨w4, rfl⟩
          · have hb : tbt t v.toNat = true := ((hr.r_isT v).mpr w4).2
            rw [if_pos hb, if_pos hb] at hs1
            exact ⟨rfl, ⟨t, _, K, R, Z, tk, Ek, Kk, Rk, _, J, Kp, (hs1.uT (tr6_T r7 l1 l2 l3)).uB ((r4.up _ (by omega) (by omega)).place v0 l1 l2 l3), ⟨⟨ho.1.place v0 v1 l1 l2 l3 (fun u _ hu => hu), ho.2⟩, hd.place v0 v1 (fun u _ hu => hu) nw⟩, hr.r_place1 te v0 v1 hb, hk⟩, _, rfl, rfl⟩
          · have hb : ¬ tbt t v.toNat = true := fun q => w4 ((hr.r_isT v).mp ⟨⟨v0, v1⟩, q⟩)
            rw [if_neg hb, if_neg hb] at hs1
            have ls : ∀ u, u ≠ v → isT (yor t (yshl 1 v)) u → isT t u := fun u hu hu2 => by
              have q := hu2.2
              have u3 := hu2.1
              rw [tbt_or, tbt_bit v0 (by omega), show decide (u.toNat = v.toNat) = false from decide_eq_false (by omega), Bool.or_false] at q
              exact ⟨hu2.1, q⟩
            refine ⟨rfl, ⟨_, _, _, R, Z, tk, Ek, Kk, Rk, _, J, Kp, (hs1.uT (tr6_T r7 l1 l2 l3)).uB (bB.place (bB.up (fun j => ?_) _ (by omega) (by omega)) v0 l1 l2 l3), ⟨⟨ho.1.place v0 v1 l1 l2 l3 ls, fun u k u0 u1 k0 k1 => ?_, fun u u0 u1 => ?_, ho.2.2.2⟩, hd.place v0 v1 ls nw⟩, hr.r_place0 te v0 v1, hk⟩, _, rfl, rfl⟩
            · unfold bz
              split
              · omega
              · exact r4 j
            · have o := ho.2.1 u k u0 u1 k0 k1
              unfold lk0 upZ
              repeat' split
              all_goals first | omega | exact o
            · have o := ho.2.2.1 u u0 u1
              unfold lk0 upZ
              repeat' split
              all_goals first | omega | exact o
/-- drop: the row of heights changes, too -/
theorem ST.sd (hs : ST b h t E K R Z tk Ek Kk Rk B J Zm Kp) {t' : Int} {E' K' R' T' H' : Nat → Int} (hS : SC h' (b + 1) t' E' K' R' T') (hT : bT T') (hH : h' (b + 19) = some (ai 24 H')) (hHb : bH H') (hf : ∀ q, q < b + 1 ∨ b + 6 ≤ q → q ≠ b + 19 → h' q = h q) : ST b h' t' E' K' R' Z tk Ek Kk Rk B J Zm Kp := by
  obtain ⟨s1, s2, s3, s4, s5, s6⟩ := hs
  refine ⟨s1.on (fun k hk _ => hf _ (by omega) (by omega)), ⟨T', hS, hT⟩, s3.on (fun k hk => hf _ (by omega) (by omega)), s4.on (fun k hk => hf _ (by omega) (by omega)), s5.on (fun k hk => hf _ (by omega) (by omega)), ⟨fun k c hk => ⟨?_, fun _ _ => rfl⟩, fun _ _ => rfl⟩, s6.2.on (fun k hk => hf _ (by omega) (by omega))⟩
  by_cases e : k = 19
  · subst e
    have : c = (0, 24, -1, 32) := by
      have : rTb 19 = some (0, 24, -1, 32) := rfl
      rw [this] at hk
      exact (Option.some.inj hk).symm
    subst this
    exact ⟨H', hH, hHb⟩
  · have : ¬ k < 9 := fun q => by rw [rTb_lo q] at hk; cases hk
    rw [hf _ (by omega) (by omega)]
    exact (s6.1.1 k c hk).1
theorem pr_drop (hi : INV b h) : PR l G mX6_drop mX7_drop 4 5 [] b h n (fun z z2 => z = z2) := by
  obtain ⟨t, E, K, R, Z, tk, Ek, Kk, Rk, B, J, Kp, hs, ⟨ho, hd⟩, hr, hk⟩ := hi
  obtain ⟨o1, o2, dr, hx⟩ := hs.hx
  obtain ⟨T, sc, hT⟩ := hs.2.1
  obtain ⟨H, hH, hHb⟩ := hs.2.2.2.2.2.1.i (k := 19) (N := 24) (lo := -1) (hi := 32) rfl
  refine (c_drop hx sc hH hHb ho.1 hT).imp (fun r g1 n1 q => ?_)
  obtain ⟨T1, H1, rfl, q1, q2, q3, q4, q5, q6, rfl⟩ := q
  have hs1 := hs.sd q3 q2 q4 q5 q6
  obtain ⟨i0, i1, i2, i3, i4, i5, i6, T', H', r1, r2, r3, r4, r5, r6, r7, r8, r9⟩ := hs1.rr
  have hB := hr.okB r4 ho.1
  refine ⟨rfl, _, rfl, ⟨_, r1⟩, (c_mdrop r1 r2 r6 r8 r9 hB r7).imp (fun r2 g2 n2 w => ?_)⟩
  obtain ⟨T2, H2, rfl, w1, -, w2, w3, w4, w5, w6, w7, rfl⟩ := w
  obtain ⟨d1, d2⟩ := hr.r_drop
  exact ⟨rfl, ⟨t, _, K, R, Z, tk, Ek, Kk, Rk, _, J, Kp, hs1.rs w3 w1.1 ((w7 _ (by omega) (by omega) (by omega)).trans r3) r5 w4 w2 w5 w6 (fun q k1 _ k3 k4 => w7 q k1 k3 k4), ⟨⟨q1, ho.2⟩, DJ_all 32 E 0 hd⟩, d1, hk⟩, _, rfl, d2⟩
end C78
