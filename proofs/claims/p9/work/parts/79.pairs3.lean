section C79
variable {l : Launch} {G : xG} {h h' : yH} {n b : Nat} {t : Int} {E K R Z tk B J Zm Kp : Nat → Int} {Ek Kk Rk : Nat → Nat → Int}
def upF (F : Nat → Nat → Int) (k : Nat) (X : Nat → Int) : Nat → Nat → Int := fun i => if i = k then X else F i
theorem upF_eq (F : Nat → Nat → Int) (k : Nat) (X : Nat → Int) : upF F k X k = X := by unfold upF; rw [if_pos rfl]
theorem upF_ne (F : Nat → Nat → Int) {k i : Nat} (X : Nat → Int) (hi : i ≠ k) : upF F k X i = F i := by unfold upF; rw [if_neg hi]
/-- a place of the class's kept scenes has changed -/
theorem ST.ck (hs : ST b h t E K R Z tk Ek Kk Rk B J Zm Kp) {k : Nat} (hk : k < 4) {t' : Int} {E' K' R' T' : Nat → Int} (hS : SC h' (b + (520 + 5 * k)) t' E' K' R' T') (hZ : h' (b + 7) = some (az 4 (upZ Z k 1))) (hf : ∀ q, q ≠ b + 7 → q < b + (520 + 5 * k) ∨ b + (520 + 5 * k) + 5 ≤ q → h' q = h q) : ST b h' t E K R (upZ Z k 1) (upZ tk k t') (upF Ek k E') (upF Kk k K') (upF Rk k R') B J Zm Kp := by
  obtain ⟨s1, s2, ⟨⟨F, c1, c2⟩, c3, c4, c5⟩, s4, s5, s6⟩ := hs
  refine ⟨s1.on (fun j hj _ => hf _ (by omega) (by omega)), s2.on (fun j j1 j2 => hf _ (by omega) (by omega)), ⟨⟨F, (hf _ (by omega) (by omega)).trans c1, c2⟩, hZ, upZ_all (P := fun x => x = 0 ∨ x = 1) c4 _ (Or.inr rfl), fun i hi => ?_⟩, s4.on (fun j hj => hf _ (by omega) (by omega)), s5.on (fun j hj => hf _ (by omega) (by omega)), s6.on (fun j c hj => hf _ ?_ ?_) (fun j hj => hf _ (by omega) (by omega))⟩
  · by_cases c : i = k
    · subst c
      rw [upZ_eq, upF_eq, upF_eq, upF_eq]
      exact ⟨T', hS⟩
    · obtain ⟨T, q⟩ := c5 i hi
      rw [upZ_ne _ _ c, upF_ne _ _ c, upF_ne _ _ c, upF_ne _ _ c]
      exact ⟨T, q.cp (fun j hj => hf _ (by omega) (by omega))⟩
  · have : j ≠ 7 := fun e => by rw [e] at hj; cases hj
    omega
  · have : ¬ (520 ≤ j ∧ j < 540) := fun e => by rw [rTb_kp e.1 e.2] at hj; cases hj
    omega
theorem ST.uK (hs : ST b h t E K R Z tk Ek Kk Rk B J Zm Kp) (Kp' Zm' : Nat → Int) : ST b (yup (yup h (b + 540 + 3) (ai 1312 Kp')) (b + 540 + 4) (az 4 Zm')) t E K R Z tk Ek Kk Rk B J Zm' Kp' := by
  obtain ⟨s1, s2, s3, s4, s5, s6⟩ := hs
  have hf : ∀ q, q ≠ b + 543 → q ≠ b + 544 → yup (yup h (b + 540 + 3) (ai 1312 Kp')) (b + 540 + 4) (az 4 Zm') q = h q := fun q q1 q2 => (yup_ne _ _ (by omega)).trans (yup_ne _ _ (by omega))
  refine ⟨s1.on (fun j hj _ => hf _ (by omega) (by omega)), s2.on (fun j j1 j2 => hf _ (by omega) (by omega)), s3.on (fun j hj => hf _ (by omega) (by omega)), s4.on (fun j hj => hf _ (by omega) (by omega)), ⟨(yup_ne _ _ (by omega)).trans (yup_eq _ _ _), yup_eq _ _ _⟩, s6.on (fun j c hj => hf _ ?_ ?_) (fun j hj => hf _ (by omega) (by omega))⟩
  · have : j ≠ 543 := fun e => by rw [e] at hj; cases hj
    omega
  · have : j ≠ 544 := fun e => by rw [e] at hj; cases hj
    omega
theorem cpZ_lt {f g : Nat → Int} {N j : Nat} (hj : j < N) : cpZ f g 0 0 N j = f j := by
  unfold cpZ
  rw [if_pos (by omega)]
  congr 1
  omega
theorem cpZ_all {P : Int → Prop} {f g : Nat → Int} (hf : ∀ j, P (f j)) (hg : ∀ j, P (g j)) (a c N : Nat) : ∀ j, P (cpZ f g a c N j) := fun j => by
  unfold cpZ
  split
  · exact hf _
  · exact hg _
theorem pr_keep (hi : INV b h) {p : Int} (hp : inI p) : PR l G mX6_keep mX7_keep 2 2 [vi p] b h n (fun z z2 => z = z2) := by
  obtain ⟨t, E, K, R, Z, tk, Ek, Kk, Rk, B, J, Kp, hs, ⟨ho, hd⟩, hr, hk⟩ := hi
  obtain ⟨o1, o2, dr, hx⟩ := hs.hx
  obtain ⟨T, sc, hT⟩ := hs.2.1
  obtain ⟨⟨F, c1, c2⟩, c3, c4, c5⟩ := hs.2.2.1
  obtain ⟨Tk, hTk⟩ : ∃ Tk, 0 ≤ p → p < 4 → SC h (b + (520 + 5 * p.toNat)) (tk p.toNat) (Ek p.toNat) (Kk p.toNat) (Rk p.toNat) Tk := by
    by_cases c : 0 ≤ p ∧ p < 4
    · obtain ⟨Tk, q⟩ := c5 p.toNat (by omega)
      exact ⟨Tk, fun _ _ => q⟩
    · exact ⟨fun _ => 0, fun a1 a2 => absurd ⟨a1, a2⟩ c⟩
  refine (c_keep hx sc c1 c3 hp (fun a1 a2 => c2 p.toNat (by omega)) hTk (by omega)).imp (fun r h1 n1 q => ?_)
  obtain ⟨q, rfl⟩ := q
  rcases q with ⟨q1, rfl, rfl⟩ | ⟨q1, rfl, q2, q3, q4⟩
  · obtain ⟨i0, i1, i2, i3, i4, i5, i6, T', H, r1, r2, r3, r4, r5, r6, r7, r8, r9⟩ := hs.rr
    refine ⟨rfl, _, rfl, ⟨_, r1⟩, (c_mkeep r1 r2 r3 hs.2.2.2.2.1.1 hs.2.2.2.2.1.2 hp).imp (fun r2 h2 n2 w => ?_)⟩
    obtain ⟨w, rfl⟩ := w
    rcases w with ⟨w1, rfl, rfl⟩ | ⟨w1, -⟩
    · exact ⟨rfl, ⟨t, E, K, R, Z, tk, Ek, Kk, Rk, B, J, Kp, hs, ⟨ho, hd⟩, hr, hk⟩, _, rfl, rfl⟩
    · exact absurd w1 q1
  · have hs1 := hs.ck (k := p.toNat) (by omega) q2 q3 q4
    obtain ⟨i0, i1, i2, i3, i4, i5, i6, T', H, r1, r2, r3, r4, r5, r6, r7, r8, r9⟩ := hs1.rr
    refine ⟨rfl, _, rfl, ⟨_, r1⟩, (c_mkeep r1 r2 r3 hs1.2.2.2.2.1.1 hs1.2.2.2.2.1.2 hp).imp (fun r2 h2 n2 w => ?_)⟩
    obtain ⟨w, rfl⟩ := w
    rcases w with ⟨w1, -⟩ | ⟨w1, rfl, rfl⟩
    · exact absurd q1 w1
    · refine ⟨rfl, ⟨t, E, K, R, _, _, _, _, _, B, J, _, hs1.uK _ _, ⟨ho, hd⟩, hr, fun i hi => ?_⟩, _, rfl, rfl⟩
      obtain ⟨k1, k2⟩ := hk i hi
      by_cases c : i = p.toNat
      · subst c
        rw [upZ_eq, upF_eq, upF_eq, upF_eq, upZ_eq]
        refine ⟨⟨ho.cg (cpZ_all (P := fun x => 0 ≤ x ∧ x ≤ 32) ho.1.1 k1.1.1.1 _ _ _) (cpZ_all (P := fun x => -2147483648 ≤ x ∧ x ≤ 2147483647) ho.2.2.2 k1.1.2.2.2 _ _ _) (fun j hj => cpZ_lt hj) (fun j hj => cpZ_lt hj), hd.cg (fun j hj => cpZ_lt hj)⟩, fun _ => ⟨B, J, r4, r5, hr.cg (fun j hj => cpZ_lt hj) (fun j hj => cpZ_lt hj) (fun j hj => cpZ_lt hj) (fun _ _ => rfl) (fun _ _ => rfl), fun j hj => ?_, fun j hj => ?_⟩⟩
        · unfold cpZ
          rw [if_neg (by omega), if_pos (by omega)]
          congr 1
          omega
        · unfold cpZ
          rw [if_pos (by omega)]
          congr 1
          omega
      · rw [upZ_ne _ _ c, upF_ne _ _ c, upF_ne _ _ c, upF_ne _ _ c, upZ_ne _ _ c]
        refine ⟨k1, fun z => ?_⟩
        obtain ⟨Bk, Jk, b1, b2, b3, b4, b5⟩ := k2 z
        refine ⟨Bk, Jk, b1, b2, b3, fun j hj => ?_, fun j hj => ?_⟩
        · unfold cpZ
          rw [if_neg (by omega), if_neg (by omega)]
          exact b4 j hj
        · unfold cpZ
          rw [if_neg (by omega), if_neg (by omega)]
          exact b5 j hj
theorem pr_back (hi : INV b h) {p : Int} (hp : inI p) : PR l G mX6_back mX7_back 2 2 [vi p] b h n (fun z z2 => z = z2) := by
  obtain ⟨t, E, K, R, Z, tk, Ek, Kk, Rk, B, J, Kp, hs, ⟨ho, hd⟩, hr, hk⟩ := hi
  obtain ⟨o1, o2, dr, hx⟩ := hs.hx
  obtain ⟨T, sc, hT⟩ := hs.2.1
  obtain ⟨⟨F, c1, c2⟩, c3, c4, c5⟩ := hs.2.2.1
  obtain ⟨Tk, hTk⟩ : ∃ Tk, 0 ≤ p → p < 4 → SC h (b + (520 + 5 * p.toNat)) (tk p.toNat) (Ek p.toNat) (Kk p.toNat) (Rk p.toNat) Tk := by
    by_cases c : 0 ≤ p ∧ p < 4
    · obtain ⟨Tk, q⟩ := c5 p.toNat (by omega)
      exact ⟨Tk, fun _ _ => q⟩
    · exact ⟨fun _ => 0, fun a1 a2 => absurd ⟨a1, a2⟩ c⟩
  refine (c_back hx sc c1 c3 hp c4 (fun a1 a2 => c2 p.toNat (by omega)) hTk (by omega)).imp (fun r h1 n1 q => ?_)
  obtain ⟨q, rfl⟩ := q
  rcases q with ⟨q1, rfl, rfl⟩ | ⟨q1, rfl, q2, q3⟩
  · obtain ⟨i0, i1, i2, i3, i4, i5, i6, T', H, r1, r2, r3, r4, r5, r6, r7, r8, r9⟩ := hs.rr
    refine ⟨rfl, _, rfl, ⟨_, r1⟩, (c_mback r1 r2 r3 hs.2.2.2.2.1.1 hs.2.2.2.2.1.2 c4 hp).imp (fun r2 h2 n2 w => ?_)⟩
    obtain ⟨w, rfl⟩ := w
    rcases w with ⟨w1, rfl, rfl⟩ | ⟨w1, -⟩
    · exact ⟨rfl, ⟨t, E, K, R, Z, tk, Ek, Kk, Rk, B, J, Kp, hs, ⟨ho, hd⟩, hr, hk⟩, _, rfl, rfl⟩
    · exact absurd w1 q1
  · have hs1 := hs.sc q2 hT q3
    obtain ⟨i0, i1, i2, i3, i4, i5, i6, T', H, r1, r2, r3, r4, r5, r6, r7, r8, r9⟩ := hs1.rr
    refine ⟨rfl, _, rfl, ⟨_, r1⟩, (c_mback r1 r2 r3 hs1.2.2.2.2.1.1 hs1.2.2.2.2.1.2 c4 hp).imp (fun r2 h2 n2 w => ?_)⟩
    obtain ⟨w, rfl⟩ := w
    rcases w with ⟨w1, -⟩ | ⟨w1, rfl, rfl⟩
    · exact absurd q1 w1
    · obtain ⟨k1, k2⟩ := hk p.toNat (by omega)
      obtain ⟨Bk, Jk, b1, b2, b3, b4, b5⟩ := k2 q1.2
      have eB : ∀ j, j < 264 → cpZ Kp B (328 * p).toNat 0 264 j = Bk j := fun j hj => by
        unfold cpZ
        rw [if_pos (by omega), ← b4 j hj]
        congr 1
        omega
      have eJ : ∀ j, j < 64 → cpZ Kp J (328 * p + 264).toNat 0 64 j = Jk j := fun j hj => by
        unfold cpZ
        rw [if_pos (by omega), ← b5 j hj]
        congr 1
        omega
      have bb : bB (cpZ Kp B (328 * p).toNat 0 264) := fun j => by
        by_cases c : j < 264
        · rw [eB j c]; exact b1 j
        · unfold cpZ
          rw [if_neg (by omega)]
          exact r4 j
      have bj : bJ (cpZ Kp J (328 * p + 264).toNat 0 64) := fun j => by
        by_cases c : j < 64
        · rw [eJ j c]; exact b2 j
        · unfold cpZ
          rw [if_neg (by omega)]
          exact r5 j
      exact ⟨rfl, ⟨_, _, _, _, Z, tk, Ek, Kk, Rk, _, _, Kp, (hs1.uB bb).uJ bj, ⟨k1.1.cg (cpZ_all (P := fun x => 0 ≤ x ∧ x ≤ 32) k1.1.1.1 ho.1.1 _ _ _) (cpZ_all (P := fun x => -2147483648 ≤ x ∧ x ≤ 2147483647) k1.1.2.2.2 ho.2.2.2 _ _ _) (fun j hj => cpZ_lt hj) (fun j hj => cpZ_lt hj), k1.2.cg (fun j hj => cpZ_lt hj)⟩, b3.cg (fun j hj => cpZ_lt hj) (fun j hj => cpZ_lt hj) (fun j hj => cpZ_lt hj) eB eJ, hk⟩, _, rfl, rfl⟩
end C79
