/-! pieces: blocks of their own ends -/
def eX (P : Nat → Int) (v x : Int) : Int := mex (P (v * 6).toNat) (P (v * 6 + 1).toNat) (P (v * 6 + 2).toNat) (P (v * 6 + 3).toNat) (P (v * 6 + 4).toNat) (P (v * 6 + 5).toNat) (aX x) (aY x)
def sd (P : Nat → Int) (v : Int) : Prop := P (v * 6).toNat < P (v * 6 + 1).toNat ∧ P (v * 6 + 2).toNat < P (v * 6 + 3).toNat ∧ P (v * 6 + 4).toNat < P (v * 6 + 5).toNat
theorem eX_ol {P : Nat → Int} (hP : ∀ j, 0 ≤ P j ∧ P j ≤ 32) {v x : Int} (hs : sd P v) : (0 < eX P v x ↔ oP P v x) ∧ (0 < eX P v x → max (4 * P (v * 6).toNat - aX x) (max (4 * P (v * 6 + 2).toNat - aY x) (4 * P (v * 6 + 4).toNat)) < -max (aX x - 4 * P (v * 6 + 1).toNat) (max (aY x - 4 * P (v * 6 + 3).toNat) (-4 * P (v * 6 + 5).toNat)) ∧ eX P v x = -max (aX x - 4 * P (v * 6 + 1).toNat) (max (aY x - 4 * P (v * 6 + 3).toNat) (-4 * P (v * 6 + 5).toNat))) := by
  obtain ⟨w0, w1, w2⟩ := hs
  have z0 := hP (v * 6 + 4).toNat
  have hh := hit_iff (i := x % 64 - 32) (j := x / 64 - 64) (a := aX x) (c := aY x) w0 w1 w2 (by unfold aX; omega) (by unfold aY; omega)
  unfold eX oP mex
  rw [← hh]
  constructor
  · split
    · rename_i k
      exact ⟨fun _ => k, fun _ => by omega⟩
    · rename_i k
      exact ⟨fun q => absurd q (by omega), fun q => absurd q k⟩
  · intro q
    split
    · rename_i k
      exact ⟨k, rfl⟩
    · rename_i k
      rw [if_neg k] at q
      exact absurd q (by omega)
theorem eX_nn {P : Nat → Int} (hP : ∀ j, 0 ≤ P j ∧ P j ≤ 32) (v x : Int) : 0 ≤ eX P v x := by
  unfold eX
  exact mex_nn (hP _).1
theorem eX_lt {P : Nat → Int} (hP : ∀ j, 0 ≤ P j ∧ P j ≤ 32) {u v x : Int} (hu : sd P u) (hv : sd P v) (hl : lbP P u v) (g1 : 0 < eX P u x) (g2 : 0 < eX P v x) : eX P v x < eX P u x := by
  obtain ⟨k, k0, k1, k2⟩ := hl
  obtain ⟨a1, a2⟩ := (eX_ol hP hu (x := x)).2 g1
  obtain ⟨b1, b2⟩ := (eX_ol hP hv (x := x)).2 g2
  rw [a2, b2]
  refine mex_lt a1 ?_
  rcases (show k = 0 ∨ k = 1 ∨ k = 2 by omega) with rfl | rfl | rfl
  · left
    rw [show v * 6 + 2 * 0 + 1 = v * 6 + 1 by omega, show u * 6 + 2 * 0 = u * 6 by omega] at k2
    exact k2
  · right; left
    rw [show v * 6 + 2 * 1 + 1 = v * 6 + 3 by omega, show u * 6 + 2 * 1 = u * 6 + 2 by omega] at k2
    exact k2
  · right; right
    rw [show v * 6 + 2 * 2 + 1 = v * 6 + 5 by omega, show u * 6 + 2 * 2 = u * 6 + 4 by omega] at k2
    exact k2
theorem cmB_pix {P : Nat → Int} (hP : ∀ j, 0 ≤ P j ∧ P j ≤ 32) {p q : Int} (hp : sd P p) (hq : sd P q) : cmB P p q = true ↔ ∃ x : Int, 0 ≤ x ∧ x < 8192 ∧ 0 < eX P p x ∧ 0 < eX P q x := by
  obtain ⟨p1, p2, p3⟩ := id hp
  obtain ⟨q1, q2, q3⟩ := id hq
  rw [cmB_iff]
  constructor
  · rintro ⟨⟨o1, o2⟩, ⟨o3, o4⟩, o5, o6⟩
    obtain ⟨x, x0, x1, y1, y2⟩ := ol_pixel p1 p2 p3 q1 q2 q3 (hP _).1 (hP _).2 (hP _).1 (hP _).2 (hP _).1 (hP _).2 o1 o2 o3 o4 o5 o6
    exact ⟨x, x0, x1, (eX_ol hP hp).1.mpr y1, (eX_ol hP hq).1.mpr y2⟩
  · rintro ⟨x, x0, x1, y1, y2⟩
    obtain ⟨a1, a2, a3, a4, a5, a6⟩ := (eX_ol hP hp).1.mp y1
    obtain ⟨c1, c2, c3, c4, c5, c6⟩ := (eX_ol hP hq).1.mp y2
    exact ⟨⟨by omega, by omega⟩, ⟨by omega, by omega⟩, by omega, by omega⟩
/-- of two that have a pixel in common and share no room, just one lies beyond the other -/
theorem cm_lb {P : Nat → Int} (hP : ∀ j, 0 ≤ P j ∧ P j ≤ 32) {p q : Int} (hp : sd P p) (hq : sd P q) (hd : lbP P p q ∨ lbP P q p) (hc : cmB P p q = true) : lbB P p q = !lbB P q p := by
  obtain ⟨x, x0, x1, g1, g2⟩ := (cmB_pix hP hp hq).mp hc
  have no : ¬ (lbP P p q ∧ lbP P q p) := fun z => by
    have a := eX_lt hP hp hq z.1 g1 g2
    have c := eX_lt hP hq hp z.2 g2 g1
    omega
  cases a : lbB P p q with
  | true =>
    cases c : lbB P q p with
    | true => exact absurd ⟨(lbB_iff P p q).mp a, (lbB_iff P q p).mp c⟩ no
    | false => rfl
  | false =>
    cases c : lbB P q p with
    | true => rfl
    | false =>
      rcases hd with z | z
      · rw [(lbB_iff P p q).mpr z] at a; cases a
      · rw [(lbB_iff P q p).mpr z] at c; cases c
/-- p covers q -/
def cvD (P : Nat → Int) (i j : Nat) : Bool := decide (i ≠ j) && (cmB P (i : Int) (j : Int) && lbB P (i : Int) (j : Int))
theorem cvD_iff {P : Nat → Int} (hP : ∀ j, 0 ≤ P j ∧ P j ≤ 32) {i j : Nat} (hi : sd P (i : Int)) (hj : sd P (j : Int)) (hd : i ≠ j → lbP P (i : Int) (j : Int) ∨ lbP P (j : Int) (i : Int)) : cvD P i j = true ↔ i ≠ j ∧ ∃ x : Int, 0 ≤ x ∧ x < 8192 ∧ 0 < eX P (i : Int) x ∧ 0 < eX P (j : Int) x ∧ eX P (j : Int) x ≤ eX P (i : Int) x := by
  unfold cvD
  rw [Bool.and_eq_true, Bool.and_eq_true, decide_eq_true_eq]
  constructor
  · rintro ⟨hne, hc, hb⟩
    obtain ⟨x, x0, x1, g1, g2⟩ := (cmB_pix hP hi hj).mp hc
    have := eX_lt hP hi hj ((lbB_iff P _ _).mp hb) g1 g2
    exact ⟨hne, x, x0, x1, g1, g2, by omega⟩
  · rintro ⟨hne, x, x0, x1, g1, g2, g3⟩
    refine ⟨hne, (cmB_pix hP hi hj).mpr ⟨x, x0, x1, g1, g2⟩, (lbB_iff P _ _).mpr ?_⟩
    rcases hd hne with z | z
    · exact z
    · have := eX_lt hP hj hi z g2 g1
      omega
/-- what the class makes of a pair that shares no room is just that -/
theorem cvB_cvD {P : Nat → Int} (hP : ∀ j, 0 ≤ P j ∧ P j ≤ 32) {i j : Nat} (hi : sd P (i : Int)) (hj : sd P (j : Int)) (hd : i ≠ j → lbP P (i : Int) (j : Int) ∨ lbP P (j : Int) (i : Int)) : cvB P i j = cvD P i j := by
  unfold cvB cvD
  by_cases e : i = j
  · simp [e]
  · by_cases c : cmB P (i : Int) (j : Int) = true
    · have := cm_lb hP hi hj (hd e) c
      split
      · rfl
      · rw [this]
    · have : cmB P (i : Int) (j : Int) = false := by cases z : cmB P (i : Int) (j : Int) with
        | false => rfl
        | true => exact absurd z c
      simp [this]
