theorem upZ_eq (F : Nat → Int) (k : Nat) (x : Int) : upZ F k x k = x := by unfold upZ; rw [if_pos rfl]
theorem upZ_ne (F : Nat → Int) {k j : Nat} (x : Int) (h : j ≠ k) : upZ F k x j = F j := by unfold upZ; rw [if_neg h]
section C31
variable {t : Int} {E K R B I : Nat → Int}
theorem REL.r_lift (h : REL t E K R B I) {v : Int} (hv : 0 ≤ v) (hv2 : v < 24) : REL (yand t (yxor (yshl 1 v) (-1))) E K R (upZ B (11 * v).toNat 0) I := by
  refine ⟨fun b b0 b1 => ?_, fun b k b0 b1 k0 k1 => ?_, fun b k b0 b1 k0 k1 => ?_, h.2.2.2⟩
  · rw [tbt_and, tbt_xor, tbt_bit hv (by omega), tbt_m1 (by omega)]
    by_cases c : b = v
    · subst c
      rw [upZ_eq]
      simp
    · rw [upZ_ne _ _ (by omega), show decide (b.toNat = v.toNat) = false from decide_eq_false (by omega)]
      have := h.1 b b0 b1
      simpa using this
  · rw [upZ_ne _ _ (by omega)]; exact h.2.1 b k b0 b1 k0 k1
  · rw [upZ_ne _ _ (by omega)]; exact h.2.2.1 b k b0 b1 k0 k1
theorem REL.r_paint (h : REL t E K R B I) {v a p q u : Int} (hv : 0 ≤ v) (hv2 : v < 24) : REL t E (lkS K v a p q u) R (mlk B v a p q u) I := by
  refine ⟨fun b b0 b1 => ?_, fun b k b0 b1 k0 k1 => ?_, fun b k b0 b1 k0 k1 => ?_, h.2.2.2⟩
  · unfold mlk
    rw [upZ_ne _ _ (by omega), upZ_ne _ _ (by omega), upZ_ne _ _ (by omega), upZ_ne _ _ (by omega)]
    exact h.1 b b0 b1
  · unfold mlk
    rw [upZ_ne _ _ (by omega), upZ_ne _ _ (by omega), upZ_ne _ _ (by omega), upZ_ne _ _ (by omega)]
    exact h.2.1 b k b0 b1 k0 k1
  · have o := h.2.2.1 b k b0 b1 k0 k1
    unfold lkS mlk upZ
    by_cases c : b = v
    · subst c
      rcases (show k = 0 ∨ k = 1 ∨ k = 2 ∨ k = 3 by omega) with rfl | rfl | rfl | rfl
      · rw [if_neg (by omega), if_neg (by omega), if_neg (by omega), if_pos (by omega), if_neg (by omega), if_neg (by omega), if_neg (by omega), if_pos (by omega)]
      · rw [if_neg (by omega), if_neg (by omega), if_pos (by omega), if_neg (by omega), if_neg (by omega), if_pos (by omega)]
      · rw [if_neg (by omega), if_pos (by omega), if_neg (by omega), if_pos (by omega)]
      · rw [if_pos (by omega), if_pos (by omega)]
    · rw [if_neg (by omega), if_neg (by omega), if_neg (by omega), if_neg (by omega), if_neg (by omega), if_neg (by omega), if_neg (by omega), if_neg (by omega)]
      exact o
theorem REL.r_ink (h : REL t E K R B I) {p r w : Int} (hp : 0 ≤ p) (hp2 : p < 8) (hr : 0 ≤ r) (hr2 : r < 8) : REL t E K (upZ R (p * 8 + r).toNat w) B (upZ I (8 * p + r).toNat w) := by
  refine ⟨h.1, h.2.1, h.2.2.1, fun j hj => ?_⟩
  unfold upZ
  by_cases c : j = (p * 8 + r).toNat
  · rw [if_pos c, if_pos (by omega)]
  · rw [if_neg c, if_neg (by omega)]
    exact h.2.2.2 j hj
theorem tr6_eq (T T' : Nat → Int) (x y z dx dy dz : Int) (j : Nat) (hj : j < 6) : tr6 T x y z dx dy dz j = tr6 T' x y z dx dy dz j := by
  unfold tr6 upZ
  by_cases c5 : j = 5
  · rw [if_pos c5, if_pos c5]
  · rw [if_neg c5, if_neg c5]
    by_cases c4 : j = 4
    · rw [if_pos c4, if_pos c4]
    · rw [if_neg c4, if_neg c4]
      by_cases c3 : j = 3
      · rw [if_pos c3, if_pos c3]
      · rw [if_neg c3, if_neg c3]
        by_cases c2 : j = 2
        · rw [if_pos c2, if_pos c2]
        · rw [if_neg c2, if_neg c2]
          by_cases c1 : j = 1
          · rw [if_pos c1, if_pos c1]
          · rw [if_neg c1, if_neg c1, if_pos (by omega), if_pos (by omega)]
theorem REL.r_place1 (h : REL t E K R B I) {v : Int} {T T' : Nat → Int} (hT : ∀ j : Nat, j < 6 → T j = T' j) (hv : 0 ≤ v) (hv2 : v < 24) (hb : tbt t v.toNat = true) : REL t (cpZ T E 0 (v * 6).toNat 6) K R (bcp (upZ B (11 * v).toNat 1) T' v 6) I := by
  refine ⟨fun b b0 b1 => ?_, fun b k b0 b1 k0 k1 => ?_, fun b k b0 b1 k0 k1 => ?_, h.2.2.2⟩
  · unfold bcp
    rw [if_neg (by by_cases c : b ≤ v <;> omega)]
    by_cases c : b = v
    · subst c
      rw [upZ_eq]
      exact ⟨fun _ => rfl, fun _ => hb⟩
    · rw [upZ_ne _ _ (by omega)]; exact h.1 b b0 b1
  · unfold cpZ bcp
    by_cases c : b = v
    · subst c
      rw [if_pos (by omega), if_pos (by omega), hT _ (by omega)]
      congr 1
      omega
    · rw [if_neg (by omega), if_neg (by omega), upZ_ne _ _ (by omega)]
      exact h.2.1 b k b0 b1 k0 k1
  · unfold bcp
    rw [if_neg (by by_cases c : b < v <;> omega), upZ_ne _ _ (by omega)]
    exact h.2.2.1 b k b0 b1 k0 k1
theorem REL.r_place0 (h : REL t E K R B I) {v : Int} {T T' : Nat → Int} (hT : ∀ j : Nat, j < 6 → T j = T' j) (hv : 0 ≤ v) (hv2 : v < 24) : REL (yor t (yshl 1 v)) (cpZ T E 0 (v * 6).toNat 6) (lk0 K v) R (bcp (upZ (bz B v 11) (11 * v).toNat 1) T' v 6) I := by
  refine ⟨fun b b0 b1 => ?_, fun b k b0 b1 k0 k1 => ?_, fun b k b0 b1 k0 k1 => ?_, h.2.2.2⟩
  · rw [tbt_or, tbt_bit hv (by omega)]
    unfold bcp
    rw [if_neg (by by_cases c : b ≤ v <;> omega)]
    by_cases c : b = v
    · subst c
      rw [upZ_eq]
      simp
    · rw [upZ_ne _ _ (by omega), show decide (b.toNat = v.toNat) = false from decide_eq_false (by omega)]
      unfold bz
      rw [if_neg (by by_cases c2 : b ≤ v <;> omega)]
      have := h.1 b b0 b1
      simpa using this
  · unfold cpZ bcp
    by_cases c : b = v
    · subst c
      rw [if_pos (by omega), if_pos (by omega), hT _ (by omega)]
      congr 1
      omega
    · rw [if_neg (by omega), if_neg (by omega), upZ_ne _ _ (by omega)]
      unfold bz
      rw [if_neg (by omega)]
      exact h.2.1 b k b0 b1 k0 k1
  · have o := h.2.2.1 b k b0 b1 k0 k1
    unfold bcp
    rw [if_neg (by by_cases c : b < v <;> omega), upZ_ne _ _ (by omega)]
    by_cases c : b = v
    · subst c
      rw [show bz B b 11 (11 * b + 7 + k).toNat = 0 by unfold bz; rw [if_pos (by omega)]]
      unfold lk0 upZ
      rcases (show k = 0 ∨ k = 1 ∨ k = 2 ∨ k = 3 by omega) with rfl | rfl | rfl | rfl
      · rw [if_neg (by omega), if_neg (by omega), if_neg (by omega), if_pos (by omega)]
      · rw [if_neg (by omega), if_neg (by omega), if_pos (by omega)]
      · rw [if_neg (by omega), if_pos (by omega)]
      · rw [if_pos (by omega)]
    · rw [show bz B v 11 (11 * b + 7 + k).toNat = B (11 * b + 7 + k).toNat by unfold bz; rw [if_neg (by omega)]]
      unfold lk0 upZ
      rw [if_neg (by omega), if_neg (by omega), if_neg (by omega), if_neg (by omega)]
      exact o
end C31
