/-! under on the reference's side, and the pair -/
def unM (B : Nat → Int) (x k : Int) : Int → Prop := fun u => 0 < mexO B u x ∧ nrr (fun o => mexO B (o : Int) x) (mexO B u x) 24 = k
section C80c
variable {l : Launch} {G : xG} {h : yH} {n : Nat}
theorem s_munder2E {b : Nat} {g : yH} {i0 i1 i2 i3 i4 i5 i6 : Int} {B J : Nat → Int} (hf : RF b g B J i0 i1 i2 i3 i4 i5 i6) (hI : MI b g h) {Φ : Option xV → yH → Nat → Prop} {p q r x y e : Int} (x1 : 0 ≤ x) (x2 : x ≤ 8191) (e1 : 0 ≤ e) (e2 : e ≤ 128) (kk : ∀ (u8 : Option xV), YW l G mX7_under 3 0 0 Φ 81 [some (vr (b + 540)), some (vi p), some (vi q), some (vi r), some (vi x), some (vi y), some (vi e), some (vi (nrr (fun o => mexO B (o : Int) x) e 24)), u8] [] h n) : ∀ (m : Nat) (z : Int), (24 - z).toNat < m → 0 ≤ z → z ≤ 24 → YW l G mX7_under 3 0 0 Φ 45 [some (vr (b + 540)), some (vi p), some (vi q), some (vi r), some (vi x), some (vi y), some (vi e), some (vi (nrr (fun o => mexO B (o : Int) x) e z.toNat)), some (vi z)] [] h n := by
  intro m
  induction m with
  | zero => intro z hm; exact absurd hm (Nat.not_lt_zero _)
  | succ m ih =>
    intro z hmm j0 j1
    obtain ⟨hm, hB, hJ, hBb, hBs, hBc, hJb, hi1, hi2, hi3, hi4⟩ := id hf
    refine y_run kX7_under rfl ?_
    refine y_ic_ge kX7_under rfl rfl (fun c1 => ?_) (fun c1 => ?_)
    · rw [show z.toNat = 24 by omega]
      exact kk _
    · have sx : nrr (fun o => mexO B (o : Int) x) e (z + 1).toNat = nrr (fun o => mexO B (o : Int) x) e z.toNat + (if e < mexO B z x then 1 else 0) := by
        rw [show (z + 1).toNat = z.toNat + 1 by omega]
        show nrr (fun o => mexO B (o : Int) x) e z.toNat + (if e < mexO B ((z.toNat : Nat) : Int) x then 1 else 0) = _
        rw [show ((z.toNat : Nat) : Int) = z by omega]
      refine y_run kX7_under rfl ?_
      refine y_cv kX7_under kX7_exitOf 2 rfl (hI.x (k := 540) rfl hm) (by decide +kernel) (c_mexitOf hf ⟨by omega, by omega⟩ (by omega) (by omega) hI) rfl rfl ?_
      rintro _ h2 _ ⟨rfl, eh, rfl⟩
      subst eh
      obtain ⟨v1a, v1b, v1c⟩ := mexO_b hBb z x
      have k := ih (z + 1) (by omega) (by omega) (by omega)
      rw [sx] at k
      refine y_run kX7_under rfl ?_
      refine y_ic_le kX7_under rfl rfl (fun c2 => ?_) (fun c2 => ?_)
      · refine y_run kX7_under rfl ?_
        rw [if_neg (by omega)] at k
        exact k
      · refine y_run kX7_under rfl ?_
        rw [if_pos (by omega)] at k
        exact k
theorem s_munder1E {b : Nat} {g : yH} {i0 i1 i2 i3 i4 i5 i6 : Int} {B J : Nat → Int} (hf : RF b g B J i0 i1 i2 i3 i4 i5 i6) (hI : MI b g h) {p q r x : Int} (r1 : -2147483648 ≤ r) (r2 : r < 2147483648) (x1 : 0 ≤ x) (x2 : x ≤ 8191) : ∀ (m : Nat) (y : Int) (u6 : Option xV) (u7 : Option xV) (u8 : Option xV), (24 - y).toNat < m → 0 ≤ y → y ≤ 24 → (∀ u : Int, 0 ≤ u → u < y → ¬ unM B x r u) → YW l G mX7_under 3 0 0 (PUn b g n (unM B x r)) 22 [some (vr (b + 540)), some (vi p), some (vi q), some (vi r), some (vi x), some (vi y), u6, u7, u8] [] h n := by
  intro m
  induction m with
  | zero => intro y u6 u7 u8 hm; exact absurd hm (Nat.not_lt_zero _)
  | succ m ih =>
    intro y u6 u7 u8 hmm j0 j1 hn
    obtain ⟨hm, hB, hJ, hBb, hBs, hBc, hJb, hi1, hi2, hi3, hi4⟩ := id hf
    have more : ¬ unM B x r y → ∀ u : Int, 0 ≤ u → u < y + 1 → ¬ unM B x r u := fun k u u0 u1 => by
      by_cases e : u = y
      · subst e; exact k
      · exact hn u u0 (by omega)
    refine y_run kX7_under rfl ?_
    refine y_ic_ge kX7_under rfl rfl (fun c1 => ?_) (fun c1 => ?_)
    · refine y_run kX7_under rfl ?_
      exact y_ir kX7_under rfl rfl ⟨_, rfl, hI, rfl, Or.inr ⟨rfl, fun u u0 u1 => hn u u0 (by omega)⟩⟩
    · refine y_run kX7_under rfl ?_
      refine y_cv kX7_under kX7_exitOf 2 rfl (hI.x (k := 540) rfl hm) (by decide +kernel) (c_mexitOf hf ⟨by omega, by omega⟩ (by omega) (by omega) hI) rfl rfl ?_
      rintro _ h2 _ ⟨rfl, eh, rfl⟩
      subst eh
      obtain ⟨v1a, v1b, v1c⟩ := mexO_b hBb y x
      have nb := nrr_b (fun o => mexO B (o : Int) x) (mexO B y x) 24
      refine y_run kX7_under rfl ?_
      refine s_munder2E hf hI x1 x2 v1a v1b (fun u8 => ?_) 25 0 (by omega) (by omega) (by omega)
      refine y_run kX7_under rfl ?_
      refine y_if_le kX7_under rfl rfl (fun c1 => ?_) (fun c1 => ?_)
      · refine y_run kX7_under rfl ?_
        exact ih _ _ _ _ (by omega) (by omega) (by omega) (more (fun k => by have := k.1; omega))
      · refine y_run kX7_under rfl ?_
        refine y_ic_ne kX7_under rfl rfl (fun c2 => ?_) (fun c2 => ?_)
        · refine y_run kX7_under rfl ?_
          exact ih _ _ _ _ (by omega) (by omega) (by omega) (more (fun k => c2 k.2))
        · refine y_run kX7_under rfl ?_
          exact y_ir kX7_under rfl rfl ⟨_, rfl, hI, rfl, Or.inl ⟨j0, by omega, ⟨by omega, c2⟩, hn⟩⟩
theorem e_munder {b : Nat} {g : yH} {i0 i1 i2 i3 i4 i5 i6 : Int} {B J : Nat → Int} (hf : RF b g B J i0 i1 i2 i3 i4 i5 i6) {p q r : Int} (p1 : inI p) (q1 : inI q) (r1 : inI r) (hI : MI b g h) : YM l G mX7_under 3 0 0 [vr (b + 540), vi p, vi q, vi r] h n (fun r' h' n' => ∃ z, r' = some (vi z) ∧ MI b g h' ∧ n' = n ∧ ((¬ isPx p q ∧ z = -1) ∨ (isPx p q ∧ least24 (unM B (64 * (q + 64) + p + 32) r) z))) := by
  refine YM.of kX7_under (Nat.le_of_ble_eq_true rfl) (L0 := [some (vr (b + 540)), some (vi p), some (vi q), some (vi r), none, none, none, none, none]) rfl ?_
  obtain ⟨hm, hB, hJ, hBb, hBs, hBc, hJb, hi1, hi2, hi3, hi4⟩ := id hf
  refine y_run kX7_under rfl ?_
  refine y_cs kX7_under kX7_pixelOf 2 rfl (by decide +kernel) (c_mpixelOf p1 q1) rfl rfl ?_
  rintro _ h2 _ ⟨rfl, eh, rfl⟩
  subst eh
  by_cases c : -32 ≤ p ∧ p < 32 ∧ -64 ≤ q ∧ q < 64
  · rw [if_pos c]
    obtain ⟨x, ex⟩ : ∃ x, x = 64 * (q + 64) + p + 32 := ⟨_, rfl⟩
    rw [← ex]
    refine y_run kX7_under rfl ?_
    refine y_ic_eq kX7_under rfl rfl (fun c1 => absurd c1 (by omega)) (fun c1 => ?_)
    refine y_run kX7_under rfl ?_
    have rr := r1
    unfold inI at rr
    refine y_if_ge kX7_under rfl rfl (fun c2 => ?_) (fun c2 => ?_)
    · refine y_run kX7_under rfl ?_
      refine YW.imp (s_munder1E hf hI r1.1 r1.2 (by omega) (by omega) 25 0 _ _ _ (by omega) (by omega) (by omega) (fun u u0 u1 => absurd u1 (by omega))) (fun r' h' n' w => ?_)
      obtain ⟨z, rfl, w1, w2, w3⟩ := w
      exact ⟨z, rfl, w1, w2, Or.inr ⟨c, w3⟩⟩
    · refine y_run kX7_under rfl ?_
      refine y_ir kX7_under rfl rfl ⟨_, rfl, hI, rfl, Or.inr ⟨c, Or.inr ⟨rfl, fun u u0 u1 k => ?_⟩⟩⟩
      have := nrr_b (fun o => mexO B (o : Int) x) (mexO B u x) 24
      have := k.2
      omega
  · rw [if_neg c]
    refine y_run kX7_under rfl ?_
    refine y_ic_eq kX7_under rfl rfl (fun c1 => ?_) (fun c1 => absurd rfl c1)
    refine y_run kX7_under rfl ?_
    exact y_ir kX7_under rfl rfl ⟨_, rfl, hI, rfl, Or.inl ⟨c, rfl⟩⟩
end C80c
theorem cx_mx {t : Int} {E K R B J : Nat → Int} (hr : REL t E K R B J) (hE : ∀ j, 0 ≤ E j ∧ E j ≤ 32) {i j a c x : Int} (hp : isPx i j) (ea : a = 2 * j + 2 * i + 1) (ec : c = 2 * j - 2 * i - 1) (ex : x = 64 * (j + 64) + i + 32) (v : Int) : (cxO t E a c v = -1 ∧ mexO B v x = 0) ∨ (cxO t E a c v = mexO B v x ∧ 0 < mexO B v x) := by
  unfold isPx at hp
  have e1 : 2 * (x / 64 - 64) + 2 * (x % 64 - 32) + 1 = a := by omega
  have e2 : 2 * (x / 64 - 64) - 2 * (x % 64 - 32) - 1 = c := by omega
  unfold cxO mexO
  rw [e1, e2]
  by_cases hv : (0 ≤ v ∧ v < 24) ∧ tbt t v.toNat = true
  · have hv2 : (0 ≤ v ∧ v < 24) ∧ B (11 * v).toNat = 1 := ⟨hv.1, (hr.1 v hv.1.1 hv.1.2).mp hv.2⟩
    rw [if_pos hv, if_pos hv2]
    have b0 := hr.2.1 v 0 hv.1.1 hv.1.2 (by omega) (by omega)
    have b1 := hr.2.1 v 1 hv.1.1 hv.1.2 (by omega) (by omega)
    have b2 := hr.2.1 v 2 hv.1.1 hv.1.2 (by omega) (by omega)
    have b3 := hr.2.1 v 3 hv.1.1 hv.1.2 (by omega) (by omega)
    have b4 := hr.2.1 v 4 hv.1.1 hv.1.2 (by omega) (by omega)
    have b5 := hr.2.1 v 5 hv.1.1 hv.1.2 (by omega) (by omega)
    rw [Int.add_zero, Int.add_zero] at b0
    rw [← b0, ← b1, ← b2, ← b3, ← b4, ← b5]
    have z0 := hE (v * 6 + 4).toNat
    rw [rex_min]
    unfold mex
    generalize E (v * 6).toNat = x0
    generalize E (v * 6 + 1).toNat = x1
    generalize E (v * 6 + 2).toNat = y0
    generalize E (v * 6 + 3).toNat = y1
    generalize E (v * 6 + 4).toNat = q0 at *
    generalize E (v * 6 + 5).toNat = q1
    have hm : min (4 * x1 - a) (min (4 * y1 - c) (4 * q1)) = -max (a - 4 * x1) (max (c - 4 * y1) (-4 * q1)) := by omega
    rw [hm]
    by_cases k : max (4 * x0 - a) (max (4 * y0 - c) (4 * q0)) < -max (a - 4 * x1) (max (c - 4 * y1) (-4 * q1))
    · rw [if_pos k, if_pos k]
      exact Or.inr ⟨rfl, by omega⟩
    · rw [if_neg k, if_neg k]
      exact Or.inl ⟨rfl, rfl⟩
  · have hv2 : ¬ ((0 ≤ v ∧ v < 24) ∧ B (11 * v).toNat = 1) := fun q => hv ⟨q.1, (hr.1 v q.1.1 q.1.2).mpr q.2⟩
    rw [if_neg hv, if_neg hv2]
    exact Or.inl ⟨rfl, rfl⟩
theorem un_iff {t : Int} {E K R B J : Nat → Int} (hr : REL t E K R B J) (hE : ∀ j, 0 ≤ E j ∧ E j ≤ 32) {i j k : Int} (hp : isPx i j) (u : Int) : unC t E i j k u ↔ unM B (64 * (j + 64) + i + 32) k u := by
  have hc := fun v => cx_mx hr hE hp rfl rfl rfl v
  unfold unC unM
  rcases hc u with ⟨a1, a2⟩ | ⟨a1, a2⟩
  · constructor
    · intro q; exact absurd a1 q.1
    · intro q; have := q.1; omega
  · have e : nrr (fun o => cxO t E (2 * j + 2 * i + 1) (2 * j - 2 * i - 1) (o : Int)) (cxO t E (2 * j + 2 * i + 1) (2 * j - 2 * i - 1) u) 24 = nrr (fun o => mexO B (o : Int) (64 * (j + 64) + i + 32)) (mexO B u (64 * (j + 64) + i + 32)) 24 := by
      refine nrr_cg 24 (fun o _ => ?_)
      rcases hc (o : Int) with ⟨b1, b2⟩ | ⟨b1, b2⟩ <;> omega
    rw [e]
    constructor
    · intro q; exact ⟨a2, q.2⟩
    · intro q; exact ⟨by omega, q.2⟩
theorem pe_under {l : Launch} {G : xG} {h : yH} {n b : Nat} (hi : INV b h) {p q r : Int} (hp : inI p) (hq : inI q) (hr0 : inI r) : PR l G mX6_under mX7_under 3 3 [vi p, vi q, vi r] b h n (fun z z2 => z = z2) := by
  obtain ⟨t, E, K, R, Z, tk, Ek, Kk, Rk, B, J, Kp, hs, ho, hr, hk⟩ := hi
  obtain ⟨T, hc, hT⟩ := hs.cb ho.1
  refine (e_under hc hp hq hr0 hs.2.2.2.2.2).imp (fun r' h1 n1 y => ?_)
  obtain ⟨z, rfl, q3, rfl, q4⟩ := y
  have hs1 := hs.wc (SB.r b h) hc hT q3
  obtain ⟨i0, i1, i2, i3, i4, i5, i6, hf⟩ := hs1.rf ho.1 hr
  refine ⟨rfl, z, rfl, ⟨_, hf.1⟩, (e_munder hf hp hq hr0 hs1.2.2.2.2.2).imp (fun r2 h2 n2 w => ?_)⟩
  obtain ⟨z2, rfl, w1, rfl, w2⟩ := w
  refine ⟨rfl, ⟨t, E, K, R, Z, tk, Ek, Kk, Rk, B, J, Kp, hs1.wm (fun _ _ => rfl) hf w1, ho, hr, hk⟩, z2, rfl, ?_⟩
  rcases q4 with ⟨a1, a2⟩ | ⟨a1, a2⟩
  · rcases w2 with ⟨c1, c2⟩ | ⟨c1, c2⟩
    · omega
    · exact absurd c1 a1
  · rcases w2 with ⟨c1, c2⟩ | ⟨c1, c2⟩
    · exact absurd a1 c1
    · exact least24_uniq (fun u _ _ => un_iff hr ho.1.1.1 a1 u) a2 c2
