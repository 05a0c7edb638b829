/-! boxes that are there share no room -/
def DJ (t : Int) (E : Nat → Int) : Prop := ∀ u v : Int, isT t u → isT t v → u ≠ v → ∃ k : Int, 0 ≤ k ∧ k < 3 ∧ (E (u * 6 + 2 * k + 1).toNat ≤ E (v * 6 + 2 * k).toNat ∨ E (v * 6 + 2 * k + 1).toNat ≤ E (u * 6 + 2 * k).toNat)
section C74b
variable {t t' : Int} {E E' T : Nat → Int}
theorem DJ.less (hd : DJ t E) (hl : ∀ v, isT t' v → isT t v) : DJ t' E := fun u v hu hv huv => hd u v (hl u hu) (hl v hv) huv
theorem DJ.cg (hd : DJ t E) (he : ∀ j, j < 144 → E' j = E j) : DJ t E' := by
  intro u v hu hv huv
  obtain ⟨k, k0, k1, q⟩ := hd u v hu hv huv
  have u1 := hu.1
  have v1 := hv.1
  refine ⟨k, k0, k1, ?_⟩
  rw [he _ (by omega), he _ (by omega), he _ (by omega), he _ (by omega)]
  exact q
theorem way_not {v b : Int} (h : ¬ wayP t E T v b) (hne : b ≠ v) (ht : tbt t b.toNat = true) : ∃ k : Int, 0 ≤ k ∧ k < 3 ∧ (E (b * 6 + 2 * k + 1).toNat ≤ T (2 * k).toNat ∨ T (2 * k + 1).toNat ≤ E (b * 6 + 2 * k).toNat) := by
  apply Classical.byContradiction
  intro hn
  apply h
  refine ⟨hne, ht, fun j j0 j1 => ?_⟩
  have h1 : ¬ (E (b * 6 + 2 * j + 1).toNat ≤ T (2 * j).toNat ∨ T (2 * j + 1).toNat ≤ E (b * 6 + 2 * j).toNat) := fun q => hn ⟨j, j0, j1, q⟩
  unfold ovl
  omega
/-- box v gets other ends, at which nothing is in its way -/
theorem DJ.ends (hd : DJ t E) {v : Int} (ht : ∀ u, u ≠ v → isT t' u → isT t u) (hT : ∀ k : Int, 0 ≤ k → k < 6 → E' (v * 6 + k).toNat = T k.toNat) (hE : ∀ u k : Int, 0 ≤ u → u < 24 → u ≠ v → 0 ≤ k → k < 6 → E' (u * 6 + k).toNat = E (u * 6 + k).toNat) (hw : ∀ b, 0 ≤ b → b < 24 → ¬ wayP t E T v b) : DJ t' E' := by
  have one : ∀ w, isT t' w → w ≠ v → ∃ k : Int, 0 ≤ k ∧ k < 3 ∧ (E' (w * 6 + 2 * k + 1).toNat ≤ E' (v * 6 + 2 * k).toNat ∨ E' (v * 6 + 2 * k + 1).toNat ≤ E' (w * 6 + 2 * k).toNat) := by
    intro w hw2 hne
    have w1 := hw2.1
    obtain ⟨k, k0, k1, q⟩ := way_not (hw w w1.1 w1.2) hne (ht w hne hw2).2
    refine ⟨k, k0, k1, ?_⟩
    have e1 := hE w (2 * k + 1) w1.1 w1.2 hne (by omega) (by omega)
    have e2 := hE w (2 * k) w1.1 w1.2 hne (by omega) (by omega)
    have e3 := hT (2 * k) (by omega) (by omega)
    have e4 := hT (2 * k + 1) (by omega) (by omega)
    rw [show w * 6 + (2 * k + 1) = w * 6 + 2 * k + 1 by omega] at e1
    rw [show v * 6 + (2 * k + 1) = v * 6 + 2 * k + 1 by omega] at e4
    rw [e1, e2, e3, e4]
    exact q
  intro u w hu hw2 huw
  by_cases c1 : u = v
  · subst c1
    obtain ⟨k, k0, k1, q⟩ := one w hw2 (fun e => huw e.symm)
    exact ⟨k, k0, k1, q.symm⟩
  · by_cases c2 : w = v
    · subst c2
      exact one u hu c1
    · have u1 := hu.1
      have w1 := hw2.1
      obtain ⟨k, k0, k1, q⟩ := hd u w (ht u c1 hu) (ht w c2 hw2) huw
      refine ⟨k, k0, k1, ?_⟩
      have e1 := hE u (2 * k + 1) u1.1 u1.2 c1 (by omega) (by omega)
      have e2 := hE u (2 * k) u1.1 u1.2 c1 (by omega) (by omega)
      have e3 := hE w (2 * k + 1) w1.1 w1.2 c2 (by omega) (by omega)
      have e4 := hE w (2 * k) w1.1 w1.2 c2 (by omega) (by omega)
      rw [show u * 6 + (2 * k + 1) = u * 6 + 2 * k + 1 by omega] at e1
      rw [show w * 6 + (2 * k + 1) = w * 6 + 2 * k + 1 by omega] at e3
      rw [e1, e2, e3, e4]
      exact q
theorem DJ.place (hd : DJ t E) {v : Int} (v0 : 0 ≤ v) (v1 : v < 24) (ht : ∀ u, u ≠ v → isT t' u → isT t u) (hw : ∀ b, 0 ≤ b → b < 24 → ¬ wayP t E T v b) : DJ t' (cpZ T E 0 (v * 6).toNat 6) := by
  refine hd.ends (T := T) ht (fun k k0 k1 => ?_) (fun u k u0 u1 hne k0 k1 => ?_) hw
  · unfold cpZ
    rw [if_pos (by omega)]
    congr 1
    omega
  · unfold cpZ
    rw [if_neg (by omega)]
theorem DJ.sh (hd : DJ t E) {v x e : Int} (v0 : 0 ≤ v) (v1 : v < 24) (x0 : 0 ≤ x) (x1 : x < 3) (hg : goOK t E v x e) : DJ t (shE E v x e) := by
  refine hd.ends (T := shT E v x e) (fun u _ hu => hu) (fun k k0 k1 => ?_) (fun u k u0 u1 hne k0 k1 => ?_) hg.2.2
  · unfold shT
    rw [show (v * 6).toNat + k.toNat = (v * 6 + k).toNat by omega]
  · exact shE_off x0 x1 (by by_cases c : u < v; (left; omega); (right; omega))
theorem DJ.wnt (hd : DJ t E) {v x s M w : Int} (v0 : 0 ≤ v) (v1 : v < 24) (x0 : 0 ≤ x) (x1 : x < 3) (hw : went t E v x s M w) : DJ t (shE E v x (s * w)) := by
  obtain ⟨a1, a2, a3, a4⟩ := hw
  by_cases c : w = 0
  · subst c
    rw [Int.mul_zero, shE_0]
    exact hd
  · exact hd.sh v0 v1 x0 x1 (a3 w (by omega) (by omega))
theorem DJ.step (hd : DJ t E) {H : Nat → Int} {g v a : Int} (v0 : 0 ≤ v) (v1 : v < 24) : DJ t (dstep t H g v (E, a)).1 := by
  unfold dstep
  by_cases c : H v.toNat = g
  · rw [if_pos c]
    dsimp only
    by_cases q : ∃ w, went t E v 2 (-1) 32 w
    · obtain ⟨w, hw⟩ := q
      rw [fall_eq hw]
      exact hd.wnt v0 v1 (by omega) (by omega) hw
    · have e : fall t E v = 0 := by
        unfold fall
        rw [dif_neg q]
      rw [e, Int.mul_zero, shE_0]
      exact hd
  · rw [if_neg c]
    exact hd
end C74b
theorem DJ_row {t g : Int} {H : Nat → Int} : ∀ (m : Nat), m ≤ 24 → ∀ (E : Nat → Int) (a : Int), DJ t E → DJ t (drow t H g m (E, a)).1 := by
  intro m
  induction m with
  | zero => intro _ E a h; exact h
  | succ m ih =>
    intro hm E a h
    have h1 := h.step (H := H) (g := g) (v := 24 - ((m + 1 : Nat) : Int)) (a := a) (by omega) (by omega)
    unfold drow
    generalize dstep t H g (24 - ((m + 1 : Nat) : Int)) (E, a) = A at *
    obtain ⟨A1, A2⟩ := A
    exact ih (by omega) A1 A2 h1
theorem DJ_all {t : Int} {H : Nat → Int} : ∀ (m : Nat) (E : Nat → Int) (a : Int), DJ t E → DJ t (dall t H m (E, a)).1 := by
  intro m
  induction m with
  | zero => intro E a h; exact h
  | succ m ih =>
    intro E a h
    have h1 := DJ_row (H := H) (g := 32 - ((m + 1 : Nat) : Int)) 24 (by omega) E a h
    unfold dall
    generalize drow t H (32 - ((m + 1 : Nat) : Int)) 24 (E, a) = A at *
    obtain ⟨A1, A2⟩ := A
    exact ih A1 A2 h1
