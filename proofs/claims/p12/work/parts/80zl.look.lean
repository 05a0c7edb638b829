/-! both pictures show the same -/
theorem rex_mn (x y z a c : Int) : rex x y z a c = min (4 * x - a) (min (4 * y - c) (4 * z)) := by
  unfold rex
  split
  · split at * <;> omega
  · split <;> omega
/-- no ray leaves through an edge -/
theorem rfc_is {x y z I Y : Int} : (rfc x y z (2 * Y + 2 * I + 1) (2 * Y - 2 * I - 1) = 0 ∧ rex x y z (2 * Y + 2 * I + 1) (2 * Y - 2 * I - 1) = 4 * x - (2 * Y + 2 * I + 1)) ∨ (rfc x y z (2 * Y + 2 * I + 1) (2 * Y - 2 * I - 1) = 1 ∧ rex x y z (2 * Y + 2 * I + 1) (2 * Y - 2 * I - 1) = 4 * y - (2 * Y - 2 * I - 1)) ∨ (rfc x y z (2 * Y + 2 * I + 1) (2 * Y - 2 * I - 1) = 2 ∧ rex x y z (2 * Y + 2 * I + 1) (2 * Y - 2 * I - 1) = 4 * z) := by
  unfold rfc rex
  by_cases c1 : 4 * x - (2 * Y + 2 * I + 1) < 4 * z
  · rw [if_pos c1, if_pos c1]
    by_cases c2 : 4 * y - (2 * Y - 2 * I - 1) < 4 * x - (2 * Y + 2 * I + 1)
    · rw [if_pos c2, if_pos c2]; exact Or.inr (Or.inl ⟨rfl, rfl⟩)
    · rw [if_neg c2, if_neg c2]; exact Or.inl ⟨rfl, rfl⟩
  · rw [if_neg c1, if_neg c1]
    by_cases c2 : 4 * y - (2 * Y - 2 * I - 1) < 4 * z
    · rw [if_pos c2, if_pos c2]; exact Or.inr (Or.inl ⟨rfl, rfl⟩)
    · rw [if_neg c2, if_neg c2]; exact Or.inr (Or.inr ⟨rfl, rfl⟩)
theorem aXY (z : Int) : aX z = 2 * jZ z + 2 * iZ z + 1 ∧ aY z = 2 * jZ z - 2 * iZ z - 1 := by
  unfold aX aY iZ jZ
  omega
theorem rf_is (P : Nat → Int) (u : Nat) (z : Int) : (rfU P u z = 0 ∧ rxU P u z = 4 * P (6 * u + 1) - aX z) ∨ (rfU P u z = 1 ∧ rxU P u z = 4 * P (6 * u + 3) - aY z) ∨ (rfU P u z = 2 ∧ rxU P u z = 4 * P (6 * u + 5)) := by
  obtain ⟨e1, e2⟩ := aXY z
  unfold rfU rxU
  rw [e1, e2]
  exact rfc_is
theorem rx_hi (P : Nat → Int) (u : Nat) (z : Int) : rxU P u z = bHi P u z := rex_mn _ _ _ _ _
/-- two blocks that a ray leaves at one point: through the same face, and there they end alike -/
theorem rx_eq {P E : Nat → Int} {u w : Nat} {z : Int} (h : rxU P u z = rxU E w z) : rfU P u z = rfU E w z ∧ P (6 * u + (2 * rfU P u z + 1).toNat) = E (6 * w + (2 * rfU P u z + 1).toNat) := by
  obtain ⟨e1, e2⟩ := aXY z
  rcases rf_is P u z with ⟨a1, a2⟩ | ⟨a1, a2⟩ | ⟨a1, a2⟩ <;> rcases rf_is E w z with ⟨b1, b2⟩ | ⟨b1, b2⟩ | ⟨b1, b2⟩
  · rw [a1, b1]; exact ⟨rfl, by show P (6 * u + 1) = E (6 * w + 1); omega⟩
  · omega
  · omega
  · omega
  · rw [a1, b1]; exact ⟨rfl, by show P (6 * u + 3) = E (6 * w + 3); omega⟩
  · omega
  · omega
  · omega
  · rw [a1, b1]; exact ⟨rfl, by show P (6 * u + 5) = E (6 * w + 5); omega⟩
/-- a piece whose own end the ray meets: there it leaves the box -/
theorem own_rx {P W E : Nat → Int} {u : Nat} {z : Int} (hin : insB E P W u) (ho : owU P W E u z) : rxU P u z = rxU E (W u).toNat z := by
  have i0 := (hin 0 (by omega)).2
  have i1 := (hin 1 (by omega)).2
  have i2 := (hin 2 (by omega)).2
  have k0 : P (6 * u + 1) ≤ E (6 * (W u).toNat + 1) := i0
  have k1 : P (6 * u + 3) ≤ E (6 * (W u).toNat + 3) := i1
  have k2 : P (6 * u + 5) ≤ E (6 * (W u).toNat + 5) := i2
  have eP := rx_hi P u z
  have eE := rx_hi E (W u).toNat z
  unfold owU at ho
  unfold bHi at eP eE
  rcases rf_is P u z with ⟨a1, a2⟩ | ⟨a1, a2⟩ | ⟨a1, a2⟩
  · rw [a1] at ho
    have ho' : P (6 * u + 1) = E (6 * (W u).toNat + 1) := ho
    omega
  · rw [a1] at ho
    have ho' : P (6 * u + 3) = E (6 * (W u).toNat + 3) := ho
    omega
  · rw [a1] at ho
    have ho' : P (6 * u + 5) = E (6 * (W u).toNat + 5) := ho
    omega
theorem ins_see {P W E : Nat → Int} {u : Nat} {z : Int} (hin : insB E P W u) (hs : seeB P u z) : seeB E (W u).toNat z := by
  have i0 := hin 0 (by omega)
  have i1 := hin 1 (by omega)
  have i2 := hin 2 (by omega)
  have l0 : E (6 * (W u).toNat + 0) ≤ P (6 * u + 0) := i0.1
  have l1 : E (6 * (W u).toNat + 2) ≤ P (6 * u + 2) := i1.1
  have l2 : E (6 * (W u).toNat + 4) ≤ P (6 * u + 4) := i2.1
  have k0 : P (6 * u + 1) ≤ E (6 * (W u).toNat + 1) := i0.2
  have k1 : P (6 * u + 3) ≤ E (6 * (W u).toNat + 3) := i1.2
  have k2 : P (6 * u + 5) ≤ E (6 * (W u).toNat + 5) := i2.2
  have a1 : bLo E (W u).toNat z ≤ bLo P u z := by unfold bLo; omega
  have a2 : bHi P u z ≤ bHi E (W u).toNat z := by unfold bHi; omega
  unfold seeB at *
  omega
/-- a box at a pixel, as the class's looks hold it -/
def ikE (E K R : Nat → Int) (w : Nat) (z : Int) : Int := inkP K R (w : Int) (aX z) (aY z) (rxU E w z) (rfU E w z)
def lkE (E K R : Nat → Int) (w : Nat) (z : Int) : Int := (w : Int) * 256 + rfU E w z * 64 + ikE E K R w z * 16 + K ((w : Int) * 4).toNat
section C80zl
variable {t : Int} {E K R B J : Nat → Int}
theorem mexO_E (hr : REL t E K R B J) (ho : okE t E) (hE : ∀ j, 0 ≤ E j ∧ E j ≤ 32) {w : Nat} (hw : w < 24) (z : Int) : (tbt t w = true → mexO B (w : Int) z = if bLo E w z < bHi E w z then bHi E w z else 0) ∧ (tbt t w ≠ true → mexO B (w : Int) z = 0) := by
  have hT : isT t (w : Int) ↔ tbt t w = true := ⟨fun q => by have := q.2; rw [Int.toNat_natCast] at this; exact this, fun q => ⟨⟨by omega, by omega⟩, by rw [Int.toNat_natCast]; exact q⟩⟩
  constructor
  · intro ht
    obtain ⟨hm1, hm2⟩ := (hr.r_isT (w : Int)).mp (hT.mpr ht)
    rw [← eX_b hE w z]
    unfold mexO eX
    rw [if_pos ⟨⟨by omega, by omega⟩, hm2⟩]
    have e : ∀ k : Int, 0 ≤ k → k < 6 → B (11 * (w : Int) + 1 + k).toNat = E ((w : Int) * 6 + k).toNat := fun k k0 k1 => (hr.2.1 (w : Int) k (by omega) (by omega) k0 k1).symm
    rw [e 1 (by omega) (by omega), e 2 (by omega) (by omega), e 3 (by omega) (by omega), e 4 (by omega) (by omega), e 5 (by omega) (by omega), show 11 * (w : Int) + 1 = 11 * (w : Int) + 1 + 0 by omega, e 0 (by omega) (by omega), show (w : Int) * 6 + 0 = (w : Int) * 6 by omega]
    rfl
  · intro ht
    unfold mexO
    rw [if_neg (fun q => ht (hT.mp ((hr.r_isT (w : Int)).mpr ⟨q.1, q.2⟩)))]
theorem face_E (hr : REL t E K R B J) {w : Nat} (hw : w < 24) (z : Int) : fcM B (w : Int) z (rxU E w z) = rfU E w z := by
  have e : ∀ k : Int, 0 ≤ k → k < 6 → B (11 * (w : Int) + 1 + k).toNat = E ((w : Int) * 6 + k).toNat := fun k k0 k1 => (hr.2.1 (w : Int) k (by omega) (by omega) k0 k1).symm
  have e1 := e 1 (by omega) (by omega)
  have e3 := e 3 (by omega) (by omega)
  rw [show 11 * (w : Int) + 1 + 1 = 11 * (w : Int) + 2 by omega, show ((w : Int) * 6 + 1).toNat = 6 * w + 1 by omega] at e1
  rw [show 11 * (w : Int) + 1 + 3 = 11 * (w : Int) + 4 by omega, show ((w : Int) * 6 + 3).toNat = 6 * w + 3 by omega] at e3
  obtain ⟨q1, q2⟩ := aXY z
  unfold fcM
  rw [e1, e3]
  rcases rf_is E w z with ⟨a1, a2⟩ | ⟨a1, a2⟩ | ⟨a1, a2⟩
  · rw [if_pos a2, a1]
  · rw [if_neg (by omega), if_pos a2, a1]
  · rw [if_neg (by omega), if_neg (by omega), a1]
theorem ink_E (hr : REL t E K R B J) (hK : ∀ v k : Int, 0 ≤ v → v < 24 → 1 ≤ k → k < 4 → 0 ≤ K (v * 4 + k).toNat ∧ K (v * 4 + k).toNat < 8) {w : Nat} (hw : w < 24) (z : Int) : inM B J (w : Int) z (rxU E w z) (rfU E w z) = ikE E K R w z := by
  have fb := rfU_b E w z
  unfold inM ikE inkP
  generalize rfU E w z = f at fb ⊢
  generalize rxU E w z = e
  have k1 := hr.2.2.1 (w : Int) (1 + f) (by omega) (by omega) (by omega) (by omega)
  have k2 := hK (w : Int) (1 + f) (by omega) (by omega) (by omega) (by omega)
  rw [show (w : Int) * 4 + (1 + f) = (w : Int) * 4 + 1 + f by omega] at k1 k2
  rw [show 11 * (w : Int) + 7 + (1 + f) = 11 * (w : Int) + 8 + f by omega] at k1
  rw [← k1]
  generalize K ((w : Int) * 4 + 1 + f).toNat = s at k2 ⊢
  have e1 : (if f = 2 then (e + aY z) / 4 % 8 else e / 4 % 8) = (if f = 2 then e + aY z else e) / 4 % 8 := by split <;> rfl
  have e2 : (if f = 0 then (e + aY z) / 4 % 8 else (e + aX z) / 4 % 8) = (if f = 0 then e + aY z else e + aX z) / 4 % 8 := by split <;> rfl
  rw [e1, e2]
  generalize hrow : (if f = 2 then e + aY z else e) / 4 % 8 = row
  have hr0 : 0 ≤ row ∧ row < 8 := by rw [← hrow]; omega
  have e3 := hr.2.2.2 (8 * s + row).toNat (by omega)
  rw [← e3, show 8 * s + row = s * 8 + row by omega]
theorem col_E (hr : REL t E K R B J) {w : Nat} (hw : w < 24) : B (11 * (w : Int) + 7).toNat = K ((w : Int) * 4).toNat := by
  have k1 := hr.2.2.1 (w : Int) 0 (by omega) (by omega) (by omega) (by omega)
  rw [show (w : Int) * 4 + 0 = (w : Int) * 4 by omega, show 11 * (w : Int) + 7 + 0 = 11 * (w : Int) + 7 by omega] at k1
  exact k1.symm
variable {P W D : Nat → Int} {S : Nat → Bool} {x c a : Nat}
/-- the picture after a drawing -/
theorem look_code (hr : REL t E K R B J) (ho : okS t E K R) (hord : ORD t E (P, W, S, x, c, D, a)) (hS : ∀ s, S s = false) {z v y : Int} (z0 : 0 ≤ z) (z1 : z < 8192) (hl : LST (fun j => cand P W E K R (D j).toNat z) (fun j => lkU P W K R (D j).toNat z) a v) {xx : Int} (hb : BCR B J z 24 xx y) : LKR v y := by
  obtain ⟨hin, h1, h2, h3, h4, -⟩ := hord
  have hE := ho.1.1
  have hK := ho.2.1
  have hC := ho.2.2.1
  have dd : ∀ j, j < a → 0 ≤ D j := fun j hj => (h3 j hj).1
  have lvd : ∀ i, liv S D a i → ∃ j, j < a ∧ (D j).toNat = i := fun i hi => by
    rcases hi with q | ⟨j, hj, q⟩
    · rw [hS i] at q; cases q
    · exact ⟨j, hj, by omega⟩
  have lv : ∀ j, j < a → liv S D a (D j).toNat := fun j hj => Or.inr ⟨j, hj, by have := dd j hj; omega⟩
  -- what a piece that counts says of its box
  have cnd : ∀ j, j < a → cand P W E K R (D j).toNat z → ∃ w : Nat, w < 24 ∧ tbt t w = true ∧ W (D j).toNat = (w : Int) ∧ seeB E w z ∧ bHi P (D j).toNat z = bHi E w z ∧ ikE E K R w z ≠ 0 ∧ lkU P W K R (D j).toNat z = lkE E K R w z := by
    intro j hj hc
    obtain ⟨q1, -, ⟨q2, q3, q4⟩, q5⟩ := h1 _ (lv j hj)
    have q2' : 0 ≤ W (D j).toNat := q2
    have q3' : W (D j).toNat < 24 := q3
    have q4' : tbt t (W (D j).toNat).toNat = true := q4
    have q5' : insB E P W (D j).toNat := q5
    obtain ⟨c1, c2, c3⟩ := hc
    have rx := own_rx q5' c3
    obtain ⟨rf, -⟩ := rx_eq rx
    have ik : ikU P W K R (D j).toNat z = ikE E K R (W (D j).toNat).toNat z := by
      unfold ikU ikE
      rw [rx, rf, Int.toNat_of_nonneg q2']
    refine ⟨(W (D j).toNat).toNat, by omega, q4', by omega, ins_see q5' c1, ?_, ?_, ?_⟩
    · rw [← rx_hi, ← rx_hi]; exact rx
    · rw [← ik]; exact c2
    · unfold lkU lkE
      rw [ik, rf, Int.toNat_of_nonneg q2']
  -- a box that shows has such a piece
  have bxp : ∀ w : Nat, w < 24 → tbt t w = true → seeB E w z → ikE E K R w z ≠ 0 → ∃ j, j < a ∧ cand P W E K R (D j).toNat z ∧ W (D j).toNat = (w : Int) ∧ bHi P (D j).toNat z = bHi E w z := by
    intro w hw tw sw kw
    obtain ⟨i, l, q1, q2, q3⟩ := h2 w hw tw z sw
    obtain ⟨j, hj, e⟩ := lvd i l
    have q1' : W i = (w : Int) := q1
    have q2' : seeB P i z := q2
    have q3' : bHi P i z = bHi E w z := q3
    have rx : rxU P i z = rxU E w z := by rw [rx_hi, rx_hi]; exact q3'
    obtain ⟨rf, en⟩ := rx_eq rx
    refine ⟨j, hj, ?_, by rw [e]; exact q1', by rw [e]; exact q3'⟩
    rw [e]
    refine ⟨q2', ?_, ?_⟩
    · unfold ikU
      rw [q1', rx, rf]
      exact kw
    · unfold owU
      rw [q1', Int.toNat_natCast]
      exact en
  have vm : ∀ w : Nat, w < 24 → (vM B J z w ↔ tbt t w = true ∧ seeB E w z ∧ ikE E K R w z ≠ 0) ∧ (tbt t w = true → seeB E w z → mexO B (w : Int) z = bHi E w z ∧ ikM B J (w : Int) z = ikE E K R w z ∧ fcM B (w : Int) z (mexO B (w : Int) z) = rfU E w z) := by
    intro w hw
    obtain ⟨m1, m2⟩ := mexO_E hr ho.1 hE hw z
    have full : tbt t w = true → seeB E w z → mexO B (w : Int) z = bHi E w z ∧ ikM B J (w : Int) z = ikE E K R w z ∧ fcM B (w : Int) z (mexO B (w : Int) z) = rfU E w z := fun tw sw => by
      have e := m1 tw
      rw [if_pos (show bLo E w z < bHi E w z from sw)] at e
      have e2 : mexO B (w : Int) z = rxU E w z := by rw [e, rx_hi]
      refine ⟨e, ?_, by rw [e2]; exact face_E hr hw z⟩
      unfold ikM
      rw [e2, face_E hr hw z]
      exact ink_E hr hK hw z
    refine ⟨⟨fun q => ?_, fun q => ?_⟩, full⟩
    · have pos := q.1
      have tw : tbt t w = true := Classical.byContradiction (fun k => by rw [m2 k] at pos; omega)
      have sw : seeB E w z := Classical.byContradiction (fun k => by rw [m1 tw, if_neg (show ¬ bLo E w z < bHi E w z from k)] at pos; omega)
      exact ⟨tw, sw, by rw [← (full tw sw).2.1]; exact q.2⟩
    · obtain ⟨f1, f2, -⟩ := full q.1 q.2.1
      have := bLo_nn hE w z
      have sw : bLo E w z < bHi E w z := q.2.1
      exact ⟨by rw [f1]; omega, by rw [f2]; exact q.2.2⟩
  rcases hb with ⟨b1, -, b3⟩ | ⟨w, bw, bv, -, bc, bm⟩
  · rcases hl with ⟨-, l2⟩ | ⟨j, l1, l2, -⟩
    · exact Or.inl ⟨l2, b3⟩
    · obtain ⟨w, w1, w2, -, w4, -, w6, -⟩ := cnd j l1 l2
      exact absurd ((vm w w1).1.mpr ⟨w2, w4, w6⟩) (b1 w w1)
  · obtain ⟨tw, sw, kw⟩ := (vm w bw).1.mp bv
    obtain ⟨f1, f2, f3⟩ := (vm w bw).2 tw sw
    obtain ⟨js, s1, s2, s3, s4⟩ := bxp w bw tw sw kw
    rcases hl with ⟨l1, -⟩ | ⟨j, l1, l2, l3, l4⟩
    · exact absurd s2 (l1 js s1)
    · obtain ⟨w', w1, w2, w3, w4, w5, w6, w7⟩ := cnd j l1 l2
      have mx := bm w' w1 ((vm w' w1).1.mpr ⟨w2, w4, w6⟩)
      rw [((vm w' w1).2 w2 w4).1, f1] at mx
      have ej : js = j := by
        rcases Nat.lt_trichotomy js j with k | k | k
        · have k4 : bHi P (D js).toNat z ≤ bLo P (D j).toNat z := h4 js j k l1 z z0 z1 s2.1 l2.1
          have k5 : bLo P (D j).toNat z < bHi P (D j).toNat z := l2.1
          omega
        · exact k
        · exact absurd s2 (l3 js k s1)
      rw [ej] at s3
      have ew : w' = w := by omega
      rw [ew] at w7
      have kb : 0 ≤ ikE E K R w z ∧ ikE E K R w z ≤ 3 := by unfold ikE inkP; omega
      have fb := rfU_b E w z
      have cb := hC (w : Int) (by omega) (by omega)
      refine Or.inr ⟨(w : Int), rfU E w z, ikE E K R w z, K ((w : Int) * 4).toNat, ⟨by omega, by omega⟩, ⟨by omega, by omega⟩, ⟨by omega, by omega⟩, cb, ?_, ?_⟩
      · exact l4.trans w7
      · rw [bc]
        unfold cdM
        rw [f2, f3, col_E hr bw]
end C80zl
