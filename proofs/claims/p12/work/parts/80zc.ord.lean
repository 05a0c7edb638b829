/-! the order of a drawing: where two pieces are seen, the later one is the nearer; each box that is seen is seen by one of its pieces -/
def bLo (P : Nat → Int) (i : Nat) (z : Int) : Int := max (4 * P (6 * i + 0) - aX z) (max (4 * P (6 * i + 2) - aY z) (4 * P (6 * i + 4)))
def bHi (P : Nat → Int) (i : Nat) (z : Int) : Int := min (4 * P (6 * i + 1) - aX z) (min (4 * P (6 * i + 3) - aY z) (4 * P (6 * i + 5)))
def seeB (P : Nat → Int) (i : Nat) (z : Int) : Prop := bLo P i z < bHi P i z
theorem neg_max (a b c : Int) (x y z : Int) (hx : x = -a) (hy : y = -b) (hz : z = -c) : -max a (max b c) = min x (min y z) := by omega
theorem eX_b {P : Nat → Int} (hP : ∀ j, 0 ≤ P j ∧ P j ≤ 32) (i : Nat) (z : Int) : eX P (i : Int) z = if bLo P i z < bHi P i z then bHi P i z else 0 := by
  unfold eX mex bLo bHi
  rw [show ((i : Int) * 6).toNat = 6 * i + 0 by omega, show ((i : Int) * 6 + 1).toNat = 6 * i + 1 by omega, show ((i : Int) * 6 + 2).toNat = 6 * i + 2 by omega, show ((i : Int) * 6 + 3).toNat = 6 * i + 3 by omega, show ((i : Int) * 6 + 4).toNat = 6 * i + 4 by omega, show ((i : Int) * 6 + 5).toNat = 6 * i + 5 by omega]
  rw [neg_max (aX z - 4 * P (6 * i + 1)) (aY z - 4 * P (6 * i + 3)) (-4 * P (6 * i + 5)) (4 * P (6 * i + 1) - aX z) (4 * P (6 * i + 3) - aY z) (4 * P (6 * i + 5)) (by omega) (by omega) (by omega)]
theorem bLo_nn {P : Nat → Int} (hP : ∀ j, 0 ≤ P j ∧ P j ≤ 32) (i : Nat) (z : Int) : 0 ≤ bLo P i z := by
  have := (hP (6 * i + 4)).1
  unfold bLo
  omega
theorem eX_pos {P : Nat → Int} (hP : ∀ j, 0 ≤ P j ∧ P j ≤ 32) (i : Nat) (z : Int) : 0 < eX P (i : Int) z ↔ seeB P i z := by
  rw [eX_b hP]
  have := bLo_nn hP i z
  constructor
  · intro h
    by_cases c : bLo P i z < bHi P i z
    · exact c
    · rw [if_neg c] at h; omega
  · intro h
    have h' : bLo P i z < bHi P i z := h
    rw [if_pos h']
    omega
theorem eX_hi {P : Nat → Int} (hP : ∀ j, 0 ≤ P j ∧ P j ≤ 32) {i : Nat} {z : Int} (h : seeB P i z) : eX P (i : Int) z = bHi P i z := by rw [eX_b hP, if_pos (show bLo P i z < bHi P i z from h)]
/-- a block that begins where another ends is beyond it -/
theorem lb_hi {P : Nat → Int} {u w : Nat} (h : lbP P (u : Int) (w : Int)) (z : Int) : bHi P w z ≤ bLo P u z := by
  obtain ⟨k, hk, e⟩ := (lbP_n P u w).mp h
  unfold bHi bLo
  rcases (show k = 0 ∨ k = 1 ∨ k = 2 by omega) with rfl | rfl | rfl
  · have : P (6 * w + 1) ≤ P (6 * u + 0) := e
    omega
  · have : P (6 * w + 3) ≤ P (6 * u + 2) := e
    omega
  · have : P (6 * w + 5) ≤ P (6 * u + 4) := e
    omega
theorem see_cg {P P' : Nat → Int} {u u' : Nat} (h : ∀ k, k < 6 → P' (6 * u' + k) = P (6 * u + k)) (z : Int) : bLo P' u' z = bLo P u z ∧ bHi P' u' z = bHi P u z := by
  unfold bLo bHi
  rw [h 0 (by omega), h 1 (by omega), h 2 (by omega), h 3 (by omega), h 4 (by omega), h 5 (by omega)]
  exact ⟨rfl, rfl⟩
theorem spl {X Y M m q : Int} (h : max X M < min Y m) (h1 : X < q) (h2 : q < Y) : (max q M < min Y m ∧ True) ∨ (max X M < min q m ∧ min q m = min Y m) := by
  by_cases c : q < m
  · exact Or.inl ⟨by omega, trivial⟩
  · exact Or.inr ⟨by omega, by omega⟩
section C80zc
variable {P : Nat → Int} {x i ax : Nat} {v : Int}
/-- the lower part of a piece that is cut -/
theorem cut_i (hi : i < x) (ha : ax < 3) (hv1 : P (6 * i + 2 * ax) < v) (hv2 : v < P (6 * i + 2 * ax + 1)) (z : Int) : bLo (ctP P x i ax v) i z = bLo P i z ∧ bHi (ctP P x i ax v) i z ≤ bHi P i z := by
  unfold bLo bHi
  rw [ctP_i hi ha (k := 0) (by omega), ctP_i hi ha (k := 1) (by omega), ctP_i hi ha (k := 2) (by omega), ctP_i hi ha (k := 3) (by omega), ctP_i hi ha (k := 4) (by omega), ctP_i hi ha (k := 5) (by omega)]
  rw [if_neg (show ¬ 0 = 2 * ax + 1 by omega), if_neg (show ¬ 2 = 2 * ax + 1 by omega), if_neg (show ¬ 4 = 2 * ax + 1 by omega)]
  refine ⟨rfl, ?_⟩
  rcases (show ax = 0 ∨ ax = 1 ∨ ax = 2 by omega) with rfl | rfl | rfl
  · rw [if_pos (by omega), if_neg (by omega), if_neg (by omega)]
    have : v < P (6 * i + 1) := hv2
    omega
  · rw [if_neg (by omega), if_pos (by omega), if_neg (by omega)]
    have : v < P (6 * i + 3) := hv2
    omega
  · rw [if_neg (by omega), if_neg (by omega), if_pos (by omega)]
    have : v < P (6 * i + 5) := hv2
    omega
/-- the upper part -/
theorem cut_x (hi : i < x) (ha : ax < 3) (hv1 : P (6 * i + 2 * ax) < v) (hv2 : v < P (6 * i + 2 * ax + 1)) (z : Int) : bHi (ctP P x i ax v) x z = bHi P i z ∧ bLo P i z ≤ bLo (ctP P x i ax v) x z := by
  unfold bLo bHi
  rw [ctP_x hi ha (k := 0) (by omega), ctP_x hi ha (k := 1) (by omega), ctP_x hi ha (k := 2) (by omega), ctP_x hi ha (k := 3) (by omega), ctP_x hi ha (k := 4) (by omega), ctP_x hi ha (k := 5) (by omega)]
  rw [if_neg (show ¬ 1 = 2 * ax by omega), if_neg (show ¬ 3 = 2 * ax by omega), if_neg (show ¬ 5 = 2 * ax by omega)]
  refine ⟨rfl, ?_⟩
  rcases (show ax = 0 ∨ ax = 1 ∨ ax = 2 by omega) with rfl | rfl | rfl
  · rw [if_pos (by omega), if_neg (by omega), if_neg (by omega)]
    have : P (6 * i + 0) < v := hv1
    omega
  · rw [if_neg (by omega), if_pos (by omega), if_neg (by omega)]
    have : P (6 * i + 2) < v := hv1
    omega
  · rw [if_neg (by omega), if_neg (by omega), if_pos (by omega)]
    have : P (6 * i + 4) < v := hv1
    omega
/-- where a piece that is cut was seen, one of its parts has the same exit -/
theorem cut_see (hi : i < x) (ha : ax < 3) (hv1 : P (6 * i + 2 * ax) < v) (hv2 : v < P (6 * i + 2 * ax + 1)) {z : Int} (hs : seeB P i z) : seeB (ctP P x i ax v) x z ∨ (seeB (ctP P x i ax v) i z ∧ bHi (ctP P x i ax v) i z = bHi P i z) := by
  unfold seeB bLo bHi at *
  rw [ctP_i hi ha (k := 0) (by omega), ctP_i hi ha (k := 1) (by omega), ctP_i hi ha (k := 2) (by omega), ctP_i hi ha (k := 3) (by omega), ctP_i hi ha (k := 4) (by omega), ctP_i hi ha (k := 5) (by omega), ctP_x hi ha (k := 0) (by omega), ctP_x hi ha (k := 1) (by omega), ctP_x hi ha (k := 2) (by omega), ctP_x hi ha (k := 3) (by omega), ctP_x hi ha (k := 4) (by omega), ctP_x hi ha (k := 5) (by omega)]
  rw [if_neg (show ¬ 0 = 2 * ax + 1 by omega), if_neg (show ¬ 2 = 2 * ax + 1 by omega), if_neg (show ¬ 4 = 2 * ax + 1 by omega), if_neg (show ¬ 1 = 2 * ax by omega), if_neg (show ¬ 3 = 2 * ax by omega), if_neg (show ¬ 5 = 2 * ax by omega)]
  rcases (show ax = 0 ∨ ax = 1 ∨ ax = 2 by omega) with rfl | rfl | rfl
  · rw [if_pos (show 1 = 2 * 0 + 1 by omega), if_neg (show ¬ 3 = 2 * 0 + 1 by omega), if_neg (show ¬ 5 = 2 * 0 + 1 by omega), if_pos (show 0 = 2 * 0 by omega), if_neg (show ¬ 2 = 2 * 0 by omega), if_neg (show ¬ 4 = 2 * 0 by omega)]
    have h1 : P (6 * i + 0) < v := hv1
    have h2 : v < P (6 * i + 1) := hv2
    rcases spl hs (q := 4 * v - aX z) (by omega) (by omega) with ⟨k, -⟩ | k
    · exact Or.inl k
    · exact Or.inr k
  · rw [if_neg (show ¬ 1 = 2 * 1 + 1 by omega), if_pos (show 3 = 2 * 1 + 1 by omega), if_neg (show ¬ 5 = 2 * 1 + 1 by omega), if_neg (show ¬ 0 = 2 * 1 by omega), if_pos (show 2 = 2 * 1 by omega), if_neg (show ¬ 4 = 2 * 1 by omega)]
    have h1 : P (6 * i + 2) < v := hv1
    have h2 : v < P (6 * i + 3) := hv2
    rcases spl (X := 4 * P (6 * i + 2) - aY z) (Y := 4 * P (6 * i + 3) - aY z) (M := max (4 * P (6 * i + 0) - aX z) (4 * P (6 * i + 4))) (m := min (4 * P (6 * i + 1) - aX z) (4 * P (6 * i + 5))) (q := 4 * v - aY z) (by omega) (by omega) (by omega) with ⟨k, -⟩ | k
    · exact Or.inl (by omega)
    · exact Or.inr (by omega)
  · rw [if_neg (show ¬ 1 = 2 * 2 + 1 by omega), if_neg (show ¬ 3 = 2 * 2 + 1 by omega), if_pos (show 5 = 2 * 2 + 1 by omega), if_neg (show ¬ 0 = 2 * 2 by omega), if_neg (show ¬ 2 = 2 * 2 by omega), if_pos (show 4 = 2 * 2 by omega)]
    have h1 : P (6 * i + 4) < v := hv1
    have h2 : v < P (6 * i + 5) := hv2
    rcases spl (X := 4 * P (6 * i + 4)) (Y := 4 * P (6 * i + 5)) (M := max (4 * P (6 * i + 0) - aX z) (4 * P (6 * i + 2) - aY z)) (m := min (4 * P (6 * i + 1) - aX z) (4 * P (6 * i + 3) - aY z)) (q := 4 * v) (by omega) (by omega) (by omega) with ⟨k, -⟩ | k
    · exact Or.inl (by omega)
    · exact Or.inr (by omega)
end C80zc
/-- the pieces that there are: drawn, or not yet -/
def liv (S : Nat → Bool) (D : Nat → Int) (a i : Nat) : Prop := S i = true ∨ ∃ j, j < a ∧ D j = (i : Int)
def insB (E P W : Nat → Int) (i : Nat) : Prop := ∀ ax, ax < 3 → E (6 * (W i).toNat + 2 * ax) ≤ P (6 * i + 2 * ax) ∧ P (6 * i + 2 * ax + 1) ≤ E (6 * (W i).toNat + 2 * ax + 1)
def ORD (t : Int) (E : Nat → Int) (σ : sT) : Prop := INs σ.1 σ.2.2.1 σ.2.2.2.1 ∧ (∀ i, liv σ.2.2.1 σ.2.2.2.2.2.1 σ.2.2.2.2.2.2 i → i < σ.2.2.2.1 ∧ sd σ.1 (i : Int) ∧ (0 ≤ σ.2.1 i ∧ σ.2.1 i < 24 ∧ tbt t (σ.2.1 i).toNat = true) ∧ insB E σ.1 σ.2.1 i) ∧ (∀ w : Nat, w < 24 → tbt t w = true → ∀ z, seeB E w z → ∃ i, liv σ.2.2.1 σ.2.2.2.2.2.1 σ.2.2.2.2.2.2 i ∧ σ.2.1 i = (w : Int) ∧ seeB σ.1 i z ∧ bHi σ.1 i z = bHi E w z) ∧ (∀ j, j < σ.2.2.2.2.2.2 → 0 ≤ σ.2.2.2.2.2.1 j ∧ σ.2.2.1 (σ.2.2.2.2.2.1 j).toNat = false) ∧ (∀ j j', j < j' → j' < σ.2.2.2.2.2.2 → ∀ z, 0 ≤ z → z < 8192 → seeB σ.1 (σ.2.2.2.2.2.1 j).toNat z → seeB σ.1 (σ.2.2.2.2.2.1 j').toNat z → bHi σ.1 (σ.2.2.2.2.2.1 j).toNat z ≤ bLo σ.1 (σ.2.2.2.2.2.1 j').toNat z) ∧ ∀ j i, j < σ.2.2.2.2.2.2 → σ.2.2.1 i = true → ∀ z, 0 ≤ z → z < 8192 → seeB σ.1 (σ.2.2.2.2.2.1 j).toNat z → seeB σ.1 i z → bHi σ.1 (σ.2.2.2.2.2.1 j).toNat z ≤ bLo σ.1 i z
theorem ORD.draw {t : Int} {E P W D : Nat → Int} {S : Nat → Bool} {x c a f : Nat} (h : ORD t E (P, W, S, x, c, D, a)) (hf : frP P S f) : ORD t E (P, W, (fun j => S j && !decide (j = f)), x, c, upZ D a (f : Int), a + 1) := by
  obtain ⟨hin, h1, h2, h3, h4, h5⟩ := h
  have hSf := hf.1
  have lv : ∀ i, liv (fun j => S j && !decide (j = f)) (upZ D a (f : Int)) (a + 1) i ↔ liv S D a i := by
    intro i
    constructor
    · rintro (z | ⟨j, hj, z⟩)
      · rw [Bool.and_eq_true] at z; exact Or.inl z.1
      · by_cases e : j = a
        · rw [e, upZ_eq] at z
          have : i = f := by omega
          rw [this]; exact Or.inl hSf
        · rw [upZ_ne _ _ e] at z
          exact Or.inr ⟨j, by omega, z⟩
    · rintro (z | ⟨j, hj, z⟩)
      · by_cases e : i = f
        · exact Or.inr ⟨a, by omega, by rw [upZ_eq, e]⟩
        · refine Or.inl ?_
          show (S i && !decide (i = f)) = true
          rw [z, show decide (i = f) = false from decide_eq_false e]; rfl
      · exact Or.inr ⟨j, by omega, by rw [upZ_ne _ _ (by omega)]; exact z⟩
  have out : ∀ i, (S i && !decide (i = f)) = true → S i = true ∧ i ≠ f := fun i z => by
    rw [Bool.and_eq_true, Bool.not_eq_true', decide_eq_false_iff_not] at z
    exact z
  refine ⟨hin.out f, fun i hi => h1 i ((lv i).mp hi), fun w hw tw z hz => ?_, fun j hj => ?_, fun j j' hj hj' z z0 z1 s1 s2 => ?_, fun j i hj hi z z0 z1 s1 s2 => ?_⟩
  · obtain ⟨i, l, q⟩ := h2 w hw tw z hz
    exact ⟨i, (lv i).mpr l, q⟩
  · show 0 ≤ upZ D a (f : Int) j ∧ (S (upZ D a (f : Int) j).toNat && !decide ((upZ D a (f : Int) j).toNat = f)) = false
    by_cases e : j = a
    · rw [e, upZ_eq, Int.toNat_natCast]
      exact ⟨by omega, by simp⟩
    · rw [upZ_ne _ _ e]
      obtain ⟨d1, d2⟩ := h3 j (show j < a by have : j < a + 1 := hj; omega)
      have d3 : S (D j).toNat = false := d2
      exact ⟨d1, by rw [d3]; rfl⟩
  · have q1 : j' < a + 1 := hj'
    have e1 : upZ D a (f : Int) j = D j := upZ_ne _ _ (by omega)
    show bHi P (upZ D a (f : Int) j).toNat z ≤ bLo P (upZ D a (f : Int) j').toNat z
    have s1' : seeB P (upZ D a (f : Int) j).toNat z := s1
    have s2' : seeB P (upZ D a (f : Int) j').toNat z := s2
    rw [e1] at s1' ⊢
    by_cases e : j' = a
    · rw [e, upZ_eq, Int.toNat_natCast] at s2' ⊢
      exact h5 j f (show j < a by omega) hSf z z0 z1 s1' s2'
    · rw [upZ_ne _ _ e] at s2' ⊢
      exact h4 j j' hj (show j' < a by omega) z z0 z1 s1' s2'
  · have q1 : j < a + 1 := hj
    obtain ⟨i1, i2⟩ := out i hi
    show bHi P (upZ D a (f : Int) j).toNat z ≤ bLo P i z
    have s1' : seeB P (upZ D a (f : Int) j).toNat z := s1
    have s2' : seeB P i z := s2
    by_cases e : j = a
    · rw [e, upZ_eq, Int.toNat_natCast] at s1' ⊢
      have hP := hin.1
      have sf := (hin.2.1 f hSf).2
      have si := (hin.2.1 i i1).2
      rcases hin.2.2 f i hSf i1 (fun q => i2 q.symm) with k | k
      · have cm : cmB P (f : Int) (i : Int) = true := (cmB_pix hP sf si).mpr ⟨z, z0, z1, (eX_pos hP f z).mpr s1', (eX_pos hP i z).mpr s2'⟩
        have cv := hf.2 i i1
        unfold cvD at cv
        rw [cm, (lbB_iff P _ _).mpr k, show decide (f ≠ i) = true from decide_eq_true (fun q => i2 q.symm)] at cv
        cases cv
      · exact lb_hi k z
    · rw [upZ_ne _ _ e] at s1' ⊢
      exact h5 j i (show j < a by omega) i1 z z0 z1 s1' s2'
theorem ORD.cut {t : Int} {E P W D : Nat → Int} {S : Nat → Bool} {x c a i ax : Nat} {v : Int} (h : ORD t E (P, W, S, x, c, D, a)) (hi : S i = true) (ha : ax < 3) (hv1 : P (6 * i + 2 * ax) < v) (hv2 : v < P (6 * i + 2 * ax + 1)) : ORD t E (ctP P x i ax v, upZ W x (W i), (fun j => S j || decide (j = x)), x + 1, c + 1, D, a) := by
  obtain ⟨hin, h1, h2, h3, h4, h5⟩ := h
  have ix : i < x := (hin.2.1 i hi).1
  have lx : ∀ u, liv S D a u → u < x := fun u hu => (h1 u hu).1
  have oth : ∀ u, u < x → u ≠ i → ∀ k, k < 6 → ctP P x i ax v (6 * u + k) = P (6 * u + k) := fun u hu hne k hk => ctP_oth ix ha hu hne hk
  have lv : ∀ u, liv (fun j => S j || decide (j = x)) D a u ↔ liv S D a u ∨ u = x := by
    intro u
    constructor
    · rintro (z | z)
      · rw [Bool.or_eq_true, decide_eq_true_eq] at z
        exact z.elim (fun q => Or.inl (Or.inl q)) Or.inr
      · exact Or.inl (Or.inr z)
    · rintro ((z | z) | z)
      · refine Or.inl ?_
        show (S u || decide (u = x)) = true
        rw [z]; rfl
      · exact Or.inr z
      · refine Or.inl ?_
        show (S u || decide (u = x)) = true
        rw [decide_eq_true z, Bool.or_true]
  have dn : ∀ j, j < a → (D j).toNat < x ∧ (D j).toNat ≠ i := fun j hj => by
    obtain ⟨d1, d2⟩ := h3 j hj
    have d2' : S (D j).toNat = false := d2
    have d1' : 0 ≤ D j := d1
    exact ⟨lx _ (Or.inr ⟨j, hj, by omega⟩), fun q => by rw [q, hi] at d2'; cases d2'⟩
  have sx : S x = false := by
    cases e : S x with
    | false => rfl
    | true => exact absurd (hin.2.1 x e).1 (Nat.lt_irrefl _)
  refine ⟨hin.cut hi ha hv1 hv2, fun u hu => ?_, fun w hw tw z hz => ?_, fun j hj => ?_, fun j j' hj hj' z z0 z1 s1 s2 => ?_, fun j u hj hu z z0 z1 s1 s2 => ?_⟩
  · show u < x + 1 ∧ sd (ctP P x i ax v) (u : Int) ∧ (0 ≤ upZ W x (W i) u ∧ upZ W x (W i) u < 24 ∧ tbt t (upZ W x (W i) u).toNat = true) ∧ insB E (ctP P x i ax v) (upZ W x (W i)) u
    rcases (lv u).mp hu with l | l
    · have ux := lx u l
      obtain ⟨-, q1, q2, q3⟩ := h1 u l
      have ew : upZ W x (W i) u = W u := upZ_ne _ _ (by omega)
      have hsd : sd (ctP P x i ax v) (u : Int) := by
        by_cases e : u = i
        · rw [e]
          exact ((hin.cut hi ha hv1 hv2).2.1 i (by show (S i || decide (i = x)) = true; rw [hi]; rfl)).2
        · rw [sd_n, oth u ux e 0 (by omega), oth u ux e 1 (by omega), oth u ux e 2 (by omega), oth u ux e 3 (by omega), oth u ux e 4 (by omega), oth u ux e 5 (by omega), ← sd_n]
          exact q1
      refine ⟨by omega, hsd, by rw [ew]; exact q2, fun b hb => ?_⟩
      rw [ew]
      have q3b : E (6 * (W u).toNat + 2 * b) ≤ P (6 * u + 2 * b) ∧ P (6 * u + 2 * b + 1) ≤ E (6 * (W u).toNat + 2 * b + 1) := q3 b hb
      by_cases e : u = i
      · rw [e] at q3b ⊢
        have c1 := ctP_i (P := P) (v := v) ix ha (k := 2 * b) (by omega)
        have c2 := ctP_i (P := P) (v := v) ix ha (k := 2 * b + 1) (by omega)
        rw [c1, show 6 * i + 2 * b + 1 = 6 * i + (2 * b + 1) by omega, c2, if_neg (by omega)]
        rw [show 6 * i + 2 * b + 1 = 6 * i + (2 * b + 1) by omega] at q3b
        refine ⟨q3b.1, ?_⟩
        by_cases e2 : b = ax
        · rw [if_pos (by omega)]
          rw [e2] at q3b ⊢
          rw [show 6 * i + (2 * ax + 1) = 6 * i + 2 * ax + 1 by omega] at q3b
          omega
        · rw [if_neg (by omega)]
          exact q3b.2
      · rw [show 6 * u + 2 * b + 1 = 6 * u + (2 * b + 1) by omega, oth u ux e (2 * b) (by omega), oth u ux e (2 * b + 1) (by omega)]
        exact q3b
    · have li := h1 i (Or.inl hi)
      obtain ⟨-, -, q2, q3⟩ := li
      have ew : upZ W x (W i) u = W i := by rw [l, upZ_eq]
      have hsd : sd (ctP P x i ax v) (u : Int) := by
        rw [l]
        exact ((hin.cut hi ha hv1 hv2).2.1 x (by show (S x || decide (x = x)) = true; rw [decide_eq_true rfl, Bool.or_true])).2
      refine ⟨by omega, hsd, by rw [ew]; exact q2, fun b hb => ?_⟩
      rw [ew, l]
      have q3b : E (6 * (W i).toNat + 2 * b) ≤ P (6 * i + 2 * b) ∧ P (6 * i + 2 * b + 1) ≤ E (6 * (W i).toNat + 2 * b + 1) := q3 b hb
      have c1 := ctP_x (P := P) (v := v) ix ha (k := 2 * b) (by omega)
      have c2 := ctP_x (P := P) (v := v) ix ha (k := 2 * b + 1) (by omega)
      rw [c1, show 6 * x + 2 * b + 1 = 6 * x + (2 * b + 1) by omega, c2, if_neg (show ¬ 2 * b + 1 = 2 * ax by omega)]
      rw [show 6 * i + 2 * b + 1 = 6 * i + (2 * b + 1) by omega] at q3b
      refine ⟨?_, q3b.2⟩
      by_cases e2 : b = ax
      · rw [if_pos (by omega)]
        rw [e2] at q3b ⊢
        omega
      · rw [if_neg (by omega)]
        exact q3b.1
  · obtain ⟨u, l, q1, q2, q3⟩ := h2 w hw tw z hz
    have ux := lx u l
    have q1' : W u = (w : Int) := q1
    have q2' : seeB P u z := q2
    have q3' : bHi P u z = bHi E w z := q3
    show ∃ i', liv (fun j => S j || decide (j = x)) D a i' ∧ upZ W x (W i) i' = (w : Int) ∧ seeB (ctP P x i ax v) i' z ∧ bHi (ctP P x i ax v) i' z = bHi E w z
    by_cases e : u = i
    · rw [e] at q1' q2' q3'
      rcases cut_see ix ha hv1 hv2 q2' with k | ⟨k1, k2⟩
      · exact ⟨x, (lv x).mpr (Or.inr rfl), by rw [upZ_eq]; exact q1', k, (cut_x ix ha hv1 hv2 z).1.trans q3'⟩
      · exact ⟨i, (lv i).mpr (Or.inl (Or.inl hi)), by rw [upZ_ne _ _ (by omega)]; exact q1', k1, k2.trans q3'⟩
    · obtain ⟨k1, k2⟩ := see_cg (oth u ux e) z
      refine ⟨u, (lv u).mpr (Or.inl l), by rw [upZ_ne _ _ (by omega)]; exact q1', ?_, k2.trans q3'⟩
      unfold seeB
      rw [k1, k2]
      exact q2'
  · show 0 ≤ D j ∧ (S (D j).toNat || decide ((D j).toNat = x)) = false
    obtain ⟨d1, d2⟩ := h3 j hj
    have d2' : S (D j).toNat = false := d2
    have := (dn j hj).1
    exact ⟨d1, by rw [d2', show decide ((D j).toNat = x) = false from decide_eq_false (by omega)]; rfl⟩
  · have w1 := dn j (show j < a by have : j' < a := hj'; omega)
    have w2 := dn j' hj'
    obtain ⟨k1, k2⟩ := see_cg (oth _ w1.1 w1.2) z
    obtain ⟨k3, k4⟩ := see_cg (oth _ w2.1 w2.2) z
    have s1' : bLo (ctP P x i ax v) (D j).toNat z < bHi (ctP P x i ax v) (D j).toNat z := s1
    have s2' : bLo (ctP P x i ax v) (D j').toNat z < bHi (ctP P x i ax v) (D j').toNat z := s2
    show bHi (ctP P x i ax v) (D j).toNat z ≤ bLo (ctP P x i ax v) (D j').toNat z
    rw [k1, k2] at s1'
    rw [k3, k4] at s2'
    rw [k2, k3]
    exact h4 j j' hj hj' z z0 z1 s1' s2'
  · have w1 := dn j hj
    obtain ⟨k1, k2⟩ := see_cg (oth _ w1.1 w1.2) z
    have s1' : bLo (ctP P x i ax v) (D j).toNat z < bHi (ctP P x i ax v) (D j).toNat z := s1
    have s2' : bLo (ctP P x i ax v) u z < bHi (ctP P x i ax v) u z := s2
    show bHi (ctP P x i ax v) (D j).toNat z ≤ bLo (ctP P x i ax v) u z
    rw [k1, k2] at s1'
    rw [k2]
    have hu' : (S u || decide (u = x)) = true := hu
    rw [Bool.or_eq_true, decide_eq_true_eq] at hu'
    rcases hu' with l | l
    · have ux := (hin.2.1 u l).1
      by_cases e : u = i
      · rw [e] at s2' ⊢
        obtain ⟨c1, c2⟩ := cut_i (P := P) ix ha hv1 hv2 z
        rw [c1] at s2' ⊢
        exact h5 j i hj hi z z0 z1 s1' (show bLo P i z < bHi P i z by omega)
      · obtain ⟨k3, k4⟩ := see_cg (oth u ux e) z
        rw [k3, k4] at s2'
        rw [k3]
        exact h5 j u hj l z z0 z1 s1' s2'
    · rw [l] at s2' ⊢
      obtain ⟨c1, c2⟩ := cut_x (P := P) ix ha hv1 hv2 z
      rw [c1] at s2'
      have := h5 j i hj hi z z0 z1 s1' (show bLo P i z < bHi P i z by omega)
      have this' : bHi P (D j).toNat z ≤ bLo P i z := this
      omega
theorem ORD.step {t : Int} {E : Nat → Int} {σ σ' : sT} (h : ORD t E σ) (hs : STEP σ σ') : ORD t E σ' := by
  obtain ⟨P, W, S, x, c, D, a⟩ := σ
  rcases hs with ⟨f, h1, -, e⟩ | ⟨-, -, i, ax, v, h1, e⟩
  · subst e
    exact h.draw h1
  · subst e
    exact h.cut h1.1 h1.2.1 h1.2.2.1.1.1.1 h1.2.2.1.1.1.2
theorem ORD.run {t : Int} {E : Nat → Int} {σ σ' : sT} (h : ORD t E σ) (hr : RUN σ σ') : ORD t E σ' := hr (ORD t E) h (fun _ _ h1 h2 => h1.step h2)
theorem ORD.start {t : Int} {E P W D : Nat → Int} {c : Nat} (hPE : ∀ j, j < 144 → P j = E j) (hW : ∀ j : Nat, j < 24 → tbt t j = true → W j = (j : Int)) (hin : INs P (sN t 24) 24) : ORD t E (P, W, sN t 24, 24, c, D, 0) := by
  have lv : ∀ i, liv (sN t 24) D 0 i → i < 24 ∧ tbt t i = true := fun i hi => by
    rcases hi with z | ⟨j, hj, -⟩
    · have := (sN_iff t i).mp z
      refine ⟨by have := this.1; omega, ?_⟩
      have q := this.2
      rw [Int.toNat_natCast] at q
      exact q
    · exact absurd hj (Nat.not_lt_zero _)
  refine ⟨hin, fun i hi => ?_, fun w hw tw z hz => ?_, fun j hj => absurd hj (Nat.not_lt_zero _), fun j j' _ hj' => absurd hj' (Nat.not_lt_zero _), fun j i hj => absurd hj (Nat.not_lt_zero _)⟩
  · obtain ⟨i1, i2⟩ := lv i hi
    have ew : W i = (i : Int) := hW i i1 i2
    show i < 24 ∧ sd P (i : Int) ∧ (0 ≤ W i ∧ W i < 24 ∧ tbt t (W i).toNat = true) ∧ insB E P W i
    unfold insB
    rw [ew, Int.toNat_natCast]
    refine ⟨i1, (hin.2.1 i ((sN_iff t i).mpr ⟨⟨by omega, by omega⟩, by rw [Int.toNat_natCast]; exact i2⟩)).2, ⟨by omega, by omega, i2⟩, fun ax ha => ?_⟩
    rw [hPE _ (by omega), hPE _ (by omega)]
    omega
  · have e : ∀ k, k < 6 → E (6 * w + k) = P (6 * w + k) := fun k hk => (hPE _ (by omega)).symm
    obtain ⟨k1, k2⟩ := see_cg e z
    have sw : sN t 24 w = true := (sN_iff t w).mpr ⟨⟨by omega, by omega⟩, by rw [Int.toNat_natCast]; exact tw⟩
    refine ⟨w, Or.inl sw, hW w hw tw, ?_, k2.symm⟩
    unfold seeB at hz
    rw [k1, k2] at hz
    exact hz
