/-! both relations are one -/
/-- two outlines that overlap in the three directions have a pixel in common -/
theorem ol_pixel {x0 x1 y0 y1 z0 z1 X0 X1 Y0 Y1 Z0 Z1 : Int} (hx : x0 < x1) (hy : y0 < y1) (hz : z0 < z1) (hX : X0 < X1) (hY : Y0 < Y1) (hZ : Z0 < Z1) (b0 : 0 ≤ x0) (b1 : x1 ≤ 32) (b2 : 0 ≤ y0) (b3 : y1 ≤ 32) (b4 : 0 ≤ z0) (b5 : z1 ≤ 32) (o1 : x0 - y1 < X1 - Y0) (o2 : X0 - Y1 < x1 - y0) (o3 : x0 - z1 < X1 - Z0) (o4 : X0 - Z1 < x1 - z0) (o5 : y0 - z1 < Y1 - Z0) (o6 : Y0 - Z1 < y1 - z0) : ∃ x : Int, 0 ≤ x ∧ x < 8192 ∧ olP (x0 - z1) (x1 - z0) (y0 - z1) (y1 - z0) (x0 - y1) (x1 - y0 - 1) (x % 64 - 32) (x / 64 - 64) ∧ olP (X0 - Z1) (X1 - Z0) (Y0 - Z1) (Y1 - Z0) (X0 - Y1) (X1 - Y0 - 1) (x % 64 - 32) (x / 64 - 64) := by
  obtain ⟨i, i1, i2, i3, i4, i5⟩ : ∃ i : Int, x0 - y1 ≤ i ∧ X0 - Y1 ≤ i ∧ (x0 - z1) - (Y1 - Z0) ≤ i ∧ (X0 - Z1) - (y1 - z0) ≤ i ∧ (i = x0 - y1 ∨ i = X0 - Y1 ∨ i = (x0 - z1) - (Y1 - Z0) ∨ i = (X0 - Z1) - (y1 - z0)) := by
    refine ⟨max (max (x0 - y1) (X0 - Y1)) (max ((x0 - z1) - (Y1 - Z0)) ((X0 - Z1) - (y1 - z0))), by omega, by omega, by omega, by omega, by omega⟩
  obtain ⟨j, j1, j2, j3, j4, j5⟩ : ∃ j : Int, 2 * (x0 - z1) - i ≤ j ∧ 2 * (X0 - Z1) - i ≤ j ∧ 2 * (y0 - z1) + i + 1 ≤ j ∧ 2 * (Y0 - Z1) + i + 1 ≤ j ∧ (j = 2 * (x0 - z1) - i ∨ j = 2 * (X0 - Z1) - i ∨ j = 2 * (y0 - z1) + i + 1 ∨ j = 2 * (Y0 - Z1) + i + 1) := by
    refine ⟨max (max (2 * (x0 - z1) - i) (2 * (X0 - Z1) - i)) (max (2 * (y0 - z1) + i + 1) (2 * (Y0 - Z1) + i + 1)), by omega, by omega, by omega, by omega, by omega⟩
  have k1 : i ≤ x1 - y0 - 1 := by rcases i5 with e | e | e | e <;> omega
  have k2 : i ≤ X1 - Y0 - 1 := by rcases i5 with e | e | e | e <;> omega
  have k3 : i ≤ (x1 - z0) - (y0 - z1) - 1 := by rcases i5 with e | e | e | e <;> omega
  have k4 : i ≤ (x1 - z0) - (Y0 - Z1) - 1 := by rcases i5 with e | e | e | e <;> omega
  have k5 : i ≤ (X1 - Z0) - (y0 - z1) - 1 := by rcases i5 with e | e | e | e <;> omega
  have k6 : i ≤ (X1 - Z0) - (Y0 - Z1) - 1 := by rcases i5 with e | e | e | e <;> omega
  have m1 : j ≤ 2 * (x1 - z0) - i - 1 := by rcases j5 with e | e | e | e <;> omega
  have m2 : j ≤ 2 * (X1 - Z0) - i - 1 := by rcases j5 with e | e | e | e <;> omega
  have m3 : j ≤ 2 * (y1 - z0) + i := by rcases j5 with e | e | e | e <;> omega
  have m4 : j ≤ 2 * (Y1 - Z0) + i := by rcases j5 with e | e | e | e <;> omega
  have e1 : (64 * (j + 64) + i + 32) % 64 - 32 = i := by omega
  have e2 : (64 * (j + 64) + i + 32) / 64 - 64 = j := by omega
  refine ⟨64 * (j + 64) + i + 32, by omega, by omega, ?_, ?_⟩
  · rw [e1, e2]; exact ⟨i1, k1, j1, j3, m1, m3⟩
  · rw [e1, e2]; exact ⟨i2, k2, j2, j4, m2, m4⟩
def oP (E : Nat → Int) (v x : Int) : Prop := olP (E (v * 6).toNat - E (v * 6 + 5).toNat) (E (v * 6 + 1).toNat - E (v * 6 + 4).toNat) (E (v * 6 + 2).toNat - E (v * 6 + 5).toNat) (E (v * 6 + 3).toNat - E (v * 6 + 4).toNat) (E (v * 6).toNat - E (v * 6 + 3).toNat) (E (v * 6 + 1).toNat - E (v * 6 + 2).toNat - 1) (x % 64 - 32) (x / 64 - 64)
theorem cmB_iff (P : Nat → Int) (p q : Int) : cmB P p q = true ↔ (P (p * 6).toNat - P (p * 6 + 3).toNat < P (q * 6 + 1).toNat - P (q * 6 + 2).toNat ∧ P (q * 6).toNat - P (q * 6 + 3).toNat < P (p * 6 + 1).toNat - P (p * 6 + 2).toNat) ∧ (P (p * 6).toNat - P (p * 6 + 5).toNat < P (q * 6 + 1).toNat - P (q * 6 + 4).toNat ∧ P (q * 6).toNat - P (q * 6 + 5).toNat < P (p * 6 + 1).toNat - P (p * 6 + 4).toNat) ∧ (P (p * 6 + 2).toNat - P (p * 6 + 5).toNat < P (q * 6 + 3).toNat - P (q * 6 + 4).toNat ∧ P (q * 6 + 2).toNat - P (q * 6 + 5).toNat < P (p * 6 + 3).toNat - P (p * 6 + 4).toNat) := by
  unfold cmB ovB
  simp only [Bool.and_eq_true, decide_eq_true_eq]
  rw [show p * 6 + 0 = p * 6 by omega, show q * 6 + 0 = q * 6 by omega, show p * 6 + 2 + 1 = p * 6 + 3 by omega, show q * 6 + 2 + 1 = q * 6 + 3 by omega, show p * 6 + 4 + 1 = p * 6 + 5 by omega, show q * 6 + 4 + 1 = q * 6 + 5 by omega]
theorem okE.sides {t : Int} {E : Nat → Int} (ho : okE t E) {v : Int} (hv : isT t v) : (E (v * 6).toNat < E (v * 6 + 1).toNat ∧ E (v * 6 + 2).toNat < E (v * 6 + 3).toNat ∧ E (v * 6 + 4).toNat < E (v * 6 + 5).toNat) := by
  have w0 := ho.2 v hv 0 (by omega) (by omega)
  have w1 := ho.2 v hv 1 (by omega) (by omega)
  have w2 := ho.2 v hv 2 (by omega) (by omega)
  rw [show v * 6 + 2 * 0 = v * 6 by omega] at w0
  rw [show v * 6 + 2 * 1 = v * 6 + 2 by omega, show v * 6 + 2 + 1 = v * 6 + 3 by omega] at w1
  rw [show v * 6 + 2 * 2 = v * 6 + 4 by omega, show v * 6 + 4 + 1 = v * 6 + 5 by omega] at w2
  exact ⟨w0, w1, w2⟩
theorem cm_pix {t : Int} {E : Nat → Int} (ho : okE t E) {p q : Int} (hp : isT t p) (hq : isT t q) : cmB E p q = true ↔ ∃ x : Int, 0 ≤ x ∧ x < 8192 ∧ oP E p x ∧ oP E q x := by
  obtain ⟨p1, p2, p3⟩ := ho.sides hp
  obtain ⟨q1, q2, q3⟩ := ho.sides hq
  have e0 := ho.1 (p * 6).toNat
  have e1 := ho.1 (p * 6 + 1).toNat
  have e2 := ho.1 (p * 6 + 2).toNat
  have e3 := ho.1 (p * 6 + 3).toNat
  have e4 := ho.1 (p * 6 + 4).toNat
  have e5 := ho.1 (p * 6 + 5).toNat
  rw [cmB_iff]
  unfold oP
  constructor
  · rintro ⟨⟨o1, o2⟩, ⟨o3, o4⟩, o5, o6⟩
    exact ol_pixel p1 p2 p3 q1 q2 q3 e0.1 e1.2 e2.1 e3.2 e4.1 e5.2 o1 o2 o3 o4 o5 o6
  · rintro ⟨x, x0, x1, ⟨a1, a2, a3, a4, a5, a6⟩, c1, c2, c3, c4, c5, c6⟩
    exact ⟨⟨by omega, by omega⟩, ⟨by omega, by omega⟩, by omega, by omega⟩
theorem mexO_hit {t : Int} {E K R B J : Nat → Int} (hr : REL t E K R B J) (ho : okE t E) {v x : Int} (x0 : 0 ≤ x) (x1 : x < 8192) (hv : isT t v) : 0 < mexO B v x ↔ oP E v x := by
  obtain ⟨a1, -, a3⟩ := mexO_ol hr ho x0 x1 hv rfl rfl
  exact a1.trans a3
theorem mexO_lt {t : Int} {E K R B J : Nat → Int} (hr : REL t E K R B J) (ho : okE t E) {u v x : Int} (hu : isT t u) (hv : isT t v) (hl : lbP E u v) (x0 : 0 ≤ x) (x1 : x < 8192) (g1 : 0 < mexO B u x) (g2 : 0 < mexO B v x) : mexO B v x < mexO B u x := by
  obtain ⟨k, k0, k1, k2⟩ := hl
  obtain ⟨a1, a2, -⟩ := mexO_ol hr ho x0 x1 hu rfl rfl
  obtain ⟨b1, b2, -⟩ := mexO_ol hr ho x0 x1 hv rfl rfl
  rw [a2 g1, b2 g2]
  refine mex_lt (a1.mp g1) ?_
  rcases (show k = 0 ∨ k = 1 ∨ k = 2 by omega) with rfl | rfl | rfl
  · left
    rw [show v * 6 + 2 * 0 + 1 = v * 6 + 1 by omega, show u * 6 + 2 * 0 = u * 6 by omega] at k2
    exact k2
  · right; left
    rw [show v * 6 + 2 * 1 + 1 = v * 6 + 3 by omega, show u * 6 + 2 * 1 = u * 6 + 2 by omega] at k2
    exact k2
  · right; right
    rw [show v * 6 + 2 * 2 + 1 = v * 6 + 5 by omega, show u * 6 + 2 * 2 = u * 6 + 4 by omega] at k2
    exact k2
theorem exX_eq {B Q : Nat → Int} (hQ : ∀ v, v < 128 → pcQ B Q v) {v : Nat} (hv : v < 128) (x : Int) : exX Q (aX x) (aY x) (v : Int) = mexO B (v : Int) x := by
  unfold exX mexO aX aY
  rcases hQ v hv with ⟨t1, q0, q7, qk⟩ | ⟨t1, q0, q7⟩
  · have t2 : (0 ≤ (v : Int) ∧ (v : Int) < 24) ∧ B (11 * (v : Int)).toNat = 1 := t1
    rw [show (8 * (v : Int)).toNat = 8 * v by omega, q0, if_neg (by omega), if_pos t2]
    rw [show (8 * (v : Int) + 1).toNat = 8 * v + 1 by omega, show (8 * (v : Int) + 1 + 1).toNat = 8 * v + 2 by omega, show (8 * (v : Int) + 1 + 2).toNat = 8 * v + 3 by omega, show (8 * (v : Int) + 1 + 3).toNat = 8 * v + 4 by omega, show (8 * (v : Int) + 1 + 4).toNat = 8 * v + 5 by omega, show (8 * (v : Int) + 1 + 5).toNat = 8 * v + 6 by omega]
    rw [qk 1 (by omega) (by omega), qk 2 (by omega) (by omega), qk 3 (by omega) (by omega), qk 4 (by omega) (by omega), qk 5 (by omega) (by omega), qk 6 (by omega) (by omega)]
    rw [show (11 * (v : Int) + 1).toNat = 11 * v + 1 by omega, show (11 * (v : Int) + 1 + 1).toNat = 11 * v + 2 by omega, show (11 * (v : Int) + 1 + 2).toNat = 11 * v + 3 by omega, show (11 * (v : Int) + 1 + 3).toNat = 11 * v + 4 by omega, show (11 * (v : Int) + 1 + 4).toNat = 11 * v + 5 by omega, show (11 * (v : Int) + 1 + 5).toNat = 11 * v + 6 by omega]
  · have t2 : ¬ ((0 ≤ (v : Int) ∧ (v : Int) < 24) ∧ B (11 * (v : Int)).toNat = 1) := t1
    rw [show (8 * (v : Int)).toNat = 8 * v by omega, q0, if_pos rfl, if_neg t2]
theorem see_iff {B Q : Nat → Int} (hB : ∀ j, 0 ≤ B j ∧ B j ≤ 32) (hQ : ∀ v, v < 128 → pcQ B Q v) {i j : Nat} (hi : i < 128) (hj : j < 128) (x : Int) : seeP Q x i j ↔ i ≠ j ∧ 0 < mexO B (i : Int) x ∧ 0 < mexO B (j : Int) x ∧ mexO B (j : Int) x ≤ mexO B (i : Int) x := by
  have ei := exX_eq hQ hi x
  have ej := exX_eq hQ hj x
  have bi := (mexO_b hB (i : Int) x).1
  have bj := (mexO_b hB (j : Int) x).1
  unfold seeP wiQ
  constructor
  · rintro ⟨p, p1, k1, ⟨k2, k3, k4, k5, k6⟩ | ⟨k2, k3, k4, k5, k6⟩⟩
    · subst k2
      dsimp only at k1 k5 k6
      rw [ei] at k1 k6
      rw [ej] at k5 k6
      exact ⟨fun z => k4 z.symm, by omega, by omega, by omega⟩
    · subst k2
      dsimp only at k1 k5 k6
      rw [ej] at k1 k6
      rw [ei] at k5 k6
      exact ⟨k4, by omega, by omega, by omega⟩
  · rintro ⟨k1, k2, k3, k4⟩
    refine ⟨j, hj, ?_, Or.inr ⟨rfl, hi, k1, ?_, ?_⟩⟩
    · dsimp only; rw [ej]; exact k3
    · dsimp only; rw [ei]; omega
    · dsimp only; rw [ei, ej]; exact k4
theorem sN_iff (t : Int) (v : Nat) : sN t 24 v = true ↔ isT t (v : Int) := by
  unfold sN isT
  rw [Bool.and_eq_true, decide_eq_true_eq, Int.toNat_natCast]
  constructor
  · rintro ⟨a, c⟩; exact ⟨⟨by omega, by omega⟩, c⟩
  · rintro ⟨a, c⟩; exact ⟨by omega, c⟩
theorem cvB_cg {P E : Nat → Int} (h : ∀ j, j < 144 → P j = E j) {i j : Nat} (hi : i < 24) (hj : j < 24) : cvB P i j = cvB E i j := by
  have c : cmB P (i : Int) (j : Int) = cmB E (i : Int) (j : Int) := by
    unfold cmB ovB
    rw [h _ (by omega), h _ (by omega), h _ (by omega), h _ (by omega), h _ (by omega), h _ (by omega), h _ (by omega), h _ (by omega), h _ (by omega), h _ (by omega), h _ (by omega), h _ (by omega)]
  have l1 : lbB P (i : Int) (j : Int) = lbB E (i : Int) (j : Int) := by
    unfold lbB
    rw [h _ (by omega), h _ (by omega), h _ (by omega), h _ (by omega), h _ (by omega), h _ (by omega)]
  have l2 : lbB P (j : Int) (i : Int) = lbB E (j : Int) (i : Int) := by
    unfold lbB
    rw [h _ (by omega), h _ (by omega), h _ (by omega), h _ (by omega), h _ (by omega), h _ (by omega)]
  unfold cvB
  rw [c, l1, l2]
/-- a box covers another: it is the nearer at a pixel that both have -/
theorem cvB_iff {t : Int} {E K R B J : Nat → Int} (hr : REL t E K R B J) (ho : okE t E) (hd : DJ t E) {i j : Nat} (hi : isT t (i : Int)) (hj : isT t (j : Int)) : cvB E i j = true ↔ i ≠ j ∧ ∃ x : Int, 0 ≤ x ∧ x < 8192 ∧ 0 < mexO B (i : Int) x ∧ 0 < mexO B (j : Int) x ∧ mexO B (j : Int) x ≤ mexO B (i : Int) x := by
  have lb : i ≠ j → (∃ x : Int, 0 ≤ x ∧ x < 8192 ∧ 0 < mexO B (i : Int) x ∧ 0 < mexO B (j : Int) x) → ((lbP E (i : Int) (j : Int) ∧ ¬ lbP E (j : Int) (i : Int)) ∨ (lbP E (j : Int) (i : Int) ∧ ¬ lbP E (i : Int) (j : Int))) := by
    rintro hne ⟨x, x0, x1, g1, g2⟩
    have n1 : ¬ (lbP E (i : Int) (j : Int) ∧ lbP E (j : Int) (i : Int)) := fun z => by
      have a := mexO_lt hr ho hi hj z.1 x0 x1 g1 g2
      have c := mexO_lt hr ho hj hi z.2 x0 x1 g2 g1
      omega
    obtain ⟨k, k0, k1, k2⟩ := hd (i : Int) (j : Int) hi hj (by omega)
    rcases k2 with k2 | k2
    · right
      exact ⟨⟨k, k0, k1, k2⟩, fun z => n1 ⟨z, k, k0, k1, k2⟩⟩
    · left
      exact ⟨⟨k, k0, k1, k2⟩, fun z => n1 ⟨⟨k, k0, k1, k2⟩, z⟩⟩
  unfold cvB
  rw [Bool.and_eq_true, Bool.and_eq_true, decide_eq_true_eq]
  constructor
  · rintro ⟨hne, hc, hb⟩
    obtain ⟨x, x0, x1, o1, o2⟩ := (cm_pix ho hi hj).mp hc
    have g1 := (mexO_hit hr ho x0 x1 hi).mpr o1
    have g2 := (mexO_hit hr ho x0 x1 hj).mpr o2
    have hl : lbP E (i : Int) (j : Int) := by
      rcases lb hne ⟨x, x0, x1, g1, g2⟩ with q | q
      · exact q.1
      · split at hb
        · exact (lbB_iff E _ _).mp hb
        · rw [(lbB_iff E _ _).mpr q.1] at hb; cases hb
    have := mexO_lt hr ho hi hj hl x0 x1 g1 g2
    exact ⟨hne, x, x0, x1, g1, g2, by omega⟩
  · rintro ⟨hne, x, x0, x1, g1, g2, g3⟩
    have hl : lbP E (i : Int) (j : Int) ∧ ¬ lbP E (j : Int) (i : Int) := by
      rcases lb hne ⟨x, x0, x1, g1, g2⟩ with q | q
      · exact q
      · have := mexO_lt hr ho hj hi q.1 x0 x1 g2 g1
        omega
    refine ⟨hne, (cm_pix ho hi hj).mpr ⟨x, x0, x1, (mexO_hit hr ho x0 x1 hi).mp g1, (mexO_hit hr ho x0 x1 hj).mp g2⟩, ?_⟩
    split
    · exact (lbB_iff E _ _).mpr hl.1
    · cases z : lbB E (j : Int) (i : Int) with
      | false => rfl
      | true => exact absurd ((lbB_iff E _ _).mp z) hl.2
theorem lf_iff {t : Int} {E K R B J Q : Nat → Int} (hr : REL t E K R B J) (hQ : ∀ v, v < 128 → pcQ B Q v) {v : Nat} (hv : v < 128) : lfP Q v ↔ isT t (v : Int) := by
  rw [hr.r_isT]
  unfold lfP
  rcases hQ v hv with ⟨t1, q0, q7, -⟩ | ⟨t1, q0, q7⟩
  · exact ⟨fun _ => t1, fun _ => ⟨by omega, q7⟩⟩
  · exact ⟨fun k => absurd q0 k.1, fun k => absurd k t1⟩
/-- what the reference calls covers, among those that are left -/
theorem cl_iff {t : Int} {E K R B J Q C : Nat → Int} (hr : REL t E K R B J) (ho : okE t E) (hd : DJ t E) (hB : ∀ j, 0 ≤ B j ∧ B j ≤ 32) (hQ : ∀ v, v < 128 → pcQ B Q v) (hC : ∀ i j, i < 128 → j < 128 → (C (128 * i + j) = 1 ↔ ∃ x : Int, 0 ≤ x ∧ x < 8192 ∧ seeP Q x i j)) (i j : Nat) : clD Q C i j ↔ sN t 24 i = true ∧ sN t 24 j = true ∧ cvB E i j = true := by
  rw [sN_iff, sN_iff]
  constructor
  · rintro ⟨i1, j1, c, l1, l2⟩
    have ti := (lf_iff hr hQ i1).mp l1
    have tj := (lf_iff hr hQ j1).mp l2
    refine ⟨ti, tj, (cvB_iff hr ho hd ti tj).mpr ?_⟩
    obtain ⟨x, x0, x1, s⟩ := (hC i j i1 j1).mp c
    obtain ⟨s1, s2, s3, s4⟩ := (see_iff hB hQ i1 j1 x).mp s
    exact ⟨s1, x, x0, x1, s2, s3, s4⟩
  · rintro ⟨ti, tj, c⟩
    have i1 := ti.1
    have j1 := tj.1
    obtain ⟨s1, x, x0, x1, s2, s3, s4⟩ := (cvB_iff hr ho hd ti tj).mp c
    exact ⟨by omega, by omega, (hC i j (by omega) (by omega)).mpr ⟨x, x0, x1, (see_iff hB hQ (by omega) (by omega) x).mpr ⟨s1, s2, s3, s4⟩⟩, (lf_iff hr hQ (by omega)).mpr ti, (lf_iff hr hQ (by omega)).mpr tj⟩
