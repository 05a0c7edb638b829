/-! the reference's pieces are those of the canonical state -/
def AG (Q C O P W : Nat → Int) (S : Nat → Bool) (x : Nat) (D : Nat → Int) (a : Nat) : Prop := (∀ i, i < 128 → (lfP Q i ↔ S i = true)) ∧ (∀ i, i < 128 → Q (8 * i) ≠ -1 → i < x ∧ W i = Q (8 * i) ∧ ∀ k, k < 6 → P (6 * i + k) = Q (8 * i + 1 + k)) ∧ (∀ i j, S i = true → S j = true → (C (128 * i + j) = 1 ↔ cvD P i j = true)) ∧ (∀ i j, i < 128 → j < 128 → (x ≤ i ∨ x ≤ j) → C (128 * i + j) ≠ 1) ∧ (∀ j, j < a → O j = D j) ∧ (∀ j, j < a → 0 ≤ D j ∧ D j < 128 ∧ Q (8 * (D j).toNat) ≠ -1) ∧ ∀ i, S i = true → i < 128
section C80x
variable {Q C O P W : Nat → Int} {S : Nat → Bool} {x : Nat} {D : Nat → Int} {a : Nat}
theorem AG.lf (h : AG Q C O P W S x D a) : ∀ i, i < 128 → (lfP Q i ↔ S i = true) := h.1
theorem AG.pr (h : AG Q C O P W S x D a) : ∀ i, i < 128 → Q (8 * i) ≠ -1 → i < x ∧ W i = Q (8 * i) ∧ ∀ k, k < 6 → P (6 * i + k) = Q (8 * i + 1 + k) := h.2.1
theorem AG.cv (h : AG Q C O P W S x D a) : ∀ i j, S i = true → S j = true → (C (128 * i + j) = 1 ↔ cvD P i j = true) := h.2.2.1
theorem AG.nw (h : AG Q C O P W S x D a) : ∀ i j, i < 128 → j < 128 → (x ≤ i ∨ x ≤ j) → C (128 * i + j) ≠ 1 := h.2.2.2.1
theorem AG.od (h : AG Q C O P W S x D a) : ∀ j, j < a → O j = D j := h.2.2.2.2.1
theorem AG.dn (h : AG Q C O P W S x D a) : ∀ j, j < a → 0 ≤ D j ∧ D j < 128 ∧ Q (8 * (D j).toNat) ≠ -1 := h.2.2.2.2.2.1
theorem AG.sb (h : AG Q C O P W S x D a) : ∀ i, S i = true → i < 128 := h.2.2.2.2.2.2
theorem AG.q0 (h : AG Q C O P W S x D a) {i : Nat} (hi : S i = true) : Q (8 * i) ≠ -1 := ((h.lf i (h.sb i hi)).mpr hi).1
theorem AG.fr (h : AG Q C O P W S x D a) {f : Nat} (hf : f < 128) : frQ Q C f ↔ frP P S f := by
  unfold frQ frP
  constructor
  · rintro ⟨h1, h2⟩
    have s1 := (h.lf f hf).mp h1
    refine ⟨s1, fun j hj => ?_⟩
    have := h2 j (h.sb j hj) ((h.lf j (h.sb j hj)).mpr hj)
    cases e : cvD P f j with
    | false => rfl
    | true => exact absurd ((h.cv f j s1 hj).mpr e) this
  · rintro ⟨h1, h2⟩
    refine ⟨(h.lf f hf).mpr h1, fun q hq lq z => ?_⟩
    have s2 := (h.lf q hq).mp lq
    rw [h.cv f q h1 s2, h2 q s2] at z
    cases z
theorem AG.cl (h : AG Q C O P W S x D a) : clD Q C = cC P S := by
  funext i j
  refine propext ⟨?_, ?_⟩
  · rintro ⟨h1, h2, h3, h4, h5⟩
    have s1 := (h.lf i h1).mp h4
    have s2 := (h.lf j h2).mp h5
    exact ⟨s1, s2, (h.cv i j s1 s2).mp h3⟩
  · rintro ⟨h1, h2, h3⟩
    exact ⟨h.sb i h1, h.sb j h2, (h.cv i j h1 h2).mpr h3, (h.lf i (h.sb i h1)).mpr h1, (h.lf j (h.sb j h2)).mpr h2⟩
theorem AG.e0 (h : AG Q C O P W S x D a) {i ax : Nat} (hi : S i = true) (ha : ax < 3) : Q (8 * i + 1 + 2 * ax) = P (6 * i + 2 * ax) ∧ Q (8 * i + 2 + 2 * ax) = P (6 * i + 2 * ax + 1) := by
  obtain ⟨-, -, k⟩ := h.pr i (h.sb i hi) (h.q0 hi)
  have k1 := k (2 * ax) (by omega)
  have k2 := k (2 * ax + 1) (by omega)
  rw [show 8 * i + 1 + (2 * ax + 1) = 8 * i + 2 + 2 * ax by omega, show 6 * i + (2 * ax + 1) = 6 * i + 2 * ax + 1 by omega] at k2
  exact ⟨k1.symm, k2.symm⟩
theorem AG.inq (h : AG Q C O P W S x D a) {R : Nat → Int} (hR : ∀ i j, i < 128 → j < 128 → (R (128 * i + j) = 1 ↔ TC (cC P S) i j)) {p ax : Nat} (hp : S p = true) (ha : ax < 3) (v : Int) : inQ Q (tgX R p) p ax 128 v ↔ inP P S p ax v := by
  obtain ⟨p1, p2⟩ := h.e0 hp ha
  have en : ∀ k, TC (cC P S) p k → S k = true := fun k hk => by
    rcases hk.last with q | ⟨m, -, q⟩
    · exact q.2.1
    · exact q.2.1
  unfold inQ inP
  rw [p1, p2]
  constructor
  · rintro ⟨h1, j, j1, ⟨j2, j3, j4⟩, j5⟩
    have t1 := (hR p j (h.sb p hp) j1).mp j3
    have t2 := (hR j p j1 (h.sb p hp)).mp j4
    obtain ⟨q1, q2⟩ := h.e0 (en j t1) ha
    rw [q1, q2] at j5
    exact ⟨h1, j, ⟨t1, t2⟩, j5⟩
  · rintro ⟨h1, j, ⟨t1, t2⟩, j5⟩
    have sj := en j t1
    have jb := h.sb j sj
    obtain ⟨q1, q2⟩ := h.e0 sj ha
    refine ⟨h1, j, jb, ⟨fun z => ?_, (hR p j (h.sb p hp) jb).mpr t1, (hR j p jb (h.sb p hp)).mpr t2⟩, by rw [q1, q2]; exact j5⟩
    subst z
    rcases j5 with j5 | j5 <;> omega
theorem exX_eX {Q P : Nat → Int} {i : Nat} (h0 : Q (8 * i) ≠ -1) (hk : ∀ k, k < 6 → P (6 * i + k) = Q (8 * i + 1 + k)) (z : Int) : exX Q (aX z) (aY z) (i : Int) = eX P (i : Int) z := by
  have e0 : Q (8 * (i : Int)).toNat ≠ -1 := by rw [show (8 * (i : Int)).toNat = 8 * i by omega]; exact h0
  have k0 : Q (8 * (i : Int) + 1).toNat = P ((i : Int) * 6).toNat := by
    rw [show (8 * (i : Int) + 1).toNat = 8 * i + 1 + 0 by omega, show ((i : Int) * 6).toNat = 6 * i + 0 by omega]; exact (hk 0 (by omega)).symm
  have k1 : Q (8 * (i : Int) + 1 + 1).toNat = P ((i : Int) * 6 + 1).toNat := by
    rw [show (8 * (i : Int) + 1 + 1).toNat = 8 * i + 1 + 1 by omega, show ((i : Int) * 6 + 1).toNat = 6 * i + 1 by omega]; exact (hk 1 (by omega)).symm
  have k2 : Q (8 * (i : Int) + 1 + 2).toNat = P ((i : Int) * 6 + 2).toNat := by
    rw [show (8 * (i : Int) + 1 + 2).toNat = 8 * i + 1 + 2 by omega, show ((i : Int) * 6 + 2).toNat = 6 * i + 2 by omega]; exact (hk 2 (by omega)).symm
  have k3 : Q (8 * (i : Int) + 1 + 3).toNat = P ((i : Int) * 6 + 3).toNat := by
    rw [show (8 * (i : Int) + 1 + 3).toNat = 8 * i + 1 + 3 by omega, show ((i : Int) * 6 + 3).toNat = 6 * i + 3 by omega]; exact (hk 3 (by omega)).symm
  have k4 : Q (8 * (i : Int) + 1 + 4).toNat = P ((i : Int) * 6 + 4).toNat := by
    rw [show (8 * (i : Int) + 1 + 4).toNat = 8 * i + 1 + 4 by omega, show ((i : Int) * 6 + 4).toNat = 6 * i + 4 by omega]; exact (hk 4 (by omega)).symm
  have k5 : Q (8 * (i : Int) + 1 + 5).toNat = P ((i : Int) * 6 + 5).toNat := by
    rw [show (8 * (i : Int) + 1 + 5).toNat = 8 * i + 1 + 5 by omega, show ((i : Int) * 6 + 5).toNat = 6 * i + 5 by omega]; exact (hk 5 (by omega)).symm
  unfold exX eX
  rw [if_neg e0, k0, k1, k2, k3, k4, k5]
/-- at a pixel where both are seen, the one that covers is strictly nearer -/
theorem cvD_st {P : Nat → Int} {S : Nat → Bool} {x : Nat} (hin : INs P S x) {i j : Nat} (hi : S i = true) (hj : S j = true) (hne : i ≠ j) (z : Int) (g1 : 0 < eX P (i : Int) z) (g2 : 0 < eX P (j : Int) z) : eX P (i : Int) z ≠ eX P (j : Int) z := by
  rcases hin.2.2 i j hi hj hne with w | w
  · have := eX_lt hin.1 (hin.2.1 i hi).2 (hin.2.1 j hj).2 w g1 g2; omega
  · have := eX_lt hin.1 (hin.2.1 j hj).2 (hin.2.1 i hi).2 w g2 g1; omega
theorem cvD_see {P : Nat → Int} {S : Nat → Bool} {x : Nat} (hin : INs P S x) {i j : Nat} (hi : S i = true) (hj : S j = true) : cvD P i j = true ↔ i ≠ j ∧ ∃ z : Int, 0 ≤ z ∧ z < 8192 ∧ 0 < eX P (i : Int) z ∧ 0 < eX P (j : Int) z ∧ eX P (j : Int) z ≤ eX P (i : Int) z := cvD_iff hin.1 (hin.2.1 i hi).2 (hin.2.1 j hj).2 (fun e => hin.2.2 i j hi hj e)
/-- who is seen with p: what gather of p and q adds -/
theorem seeW_iff {Q P : Nat → Int} {S : Nat → Bool} {x : Nat} (hin : INs P S x) (hQ : ∀ i, S i = true → i < 128 ∧ Q (8 * i) ≠ -1 ∧ ∀ k, k < 6 → P (6 * i + k) = Q (8 * i + 1 + k)) {p q i j : Nat} (hi : S i = true) (hj : S j = true) : (∃ z : Int, 0 ≤ z ∧ z < 8192 ∧ seeW Q z p q i j) ↔ (i = p ∨ j = p ∨ i = q ∨ j = q) ∧ cvD P i j = true := by
  obtain ⟨bi, qi, ki⟩ := hQ i hi
  obtain ⟨bj, qj, kj⟩ := hQ j hj
  have ei := fun z => exX_eX qi ki z
  have ej := fun z => exX_eX qj kj z
  have ni := fun z => eX_nn hin.1 (i : Int) z
  have nj := fun z => eX_nn hin.1 (j : Int) z
  rw [cvD_see hin hi hj]
  constructor
  · rintro ⟨z, z0, z1, w⟩
    have one : ∀ r, wiQ (fun y => exX Q (aX z) (aY z) (y : Int)) r 128 i j → (i = r ∨ j = r) ∧ i ≠ j ∧ 0 < eX P (i : Int) z ∧ 0 < eX P (j : Int) z ∧ eX P (j : Int) z ≤ eX P (i : Int) z := by
      intro r w
      have a1 := ni z
      have a2 := nj z
      rcases w with ⟨w0, ⟨w1, w2, w3, w4, w5⟩ | ⟨w1, w2, w3, w4, w5⟩⟩
      · subst w1
        dsimp only at w0 w4 w5
        rw [ei z] at w0 w5
        rw [ej z] at w4 w5
        exact ⟨Or.inl rfl, fun e => w3 e.symm, w0, by omega, by omega⟩
      · subst w1
        dsimp only at w0 w4 w5
        rw [ej z] at w0 w5
        rw [ei z] at w4 w5
        exact ⟨Or.inr rfl, w3, by omega, w0, w5⟩
    rcases w with w | w
    · obtain ⟨c, e1, e2, e3, e4⟩ := one p w
      exact ⟨c.elim Or.inl (fun k => Or.inr (Or.inl k)), e1, z, z0, z1, e2, e3, e4⟩
    · obtain ⟨c, e1, e2, e3, e4⟩ := one q w
      exact ⟨Or.inr (Or.inr c), e1, z, z0, z1, e2, e3, e4⟩
  · rintro ⟨c, e1, z, z0, z1, e2, e3, e4⟩
    have st := cvD_st hin hi hj e1 z e2 e3
    have fst : wiQ (fun y => exX Q (aX z) (aY z) (y : Int)) i 128 i j := by
      unfold wiQ
      dsimp only
      rw [ei z, ej z]
      exact ⟨e2, Or.inl ⟨rfl, bj, fun e => e1 e.symm, by omega, by omega⟩⟩
    have snd : wiQ (fun y => exX Q (aX z) (aY z) (y : Int)) j 128 i j := by
      unfold wiQ
      dsimp only
      rw [ei z, ej z]
      exact ⟨e3, Or.inr ⟨rfl, bi, e1, by omega, by omega⟩⟩
    refine ⟨z, z0, z1, ?_⟩
    unfold seeW
    rcases c with c | c | c | c
    · exact Or.inl (c ▸ fst)
    · exact Or.inl (c ▸ snd)
    · exact Or.inr (c ▸ fst)
    · exact Or.inr (c ▸ snd)
/-- one is drawn -/
theorem AG.out (h : AG Q C O P W S x D a) {f : Nat} (hf : S f = true) : AG (upZ Q (8 * f + 7) 1) C (upZ O a (f : Int)) P W (fun j => S j && !decide (j = f)) x (upZ D a (f : Int)) (a + 1) := by
  have fb := h.sb f hf
  have sub : ∀ i, (S i && !decide (i = f)) = true → S i = true := fun i k => by rw [Bool.and_eq_true] at k; exact k.1
  refine ⟨fun i hi => ?_, fun i hi hq => ?_, fun i j hi hj => h.cv i j (sub i hi) (sub j hj), h.nw, fun j hj => ?_, fun j hj => ?_, fun i hi => h.sb i (sub i hi)⟩
  · have l := h.lf i hi
    unfold lfP at l ⊢
    rw [upZ_ne _ _ (by omega)]
    by_cases e : i = f
    · subst e
      rw [upZ_eq]
      simp
    · rw [upZ_ne _ _ (by omega), l]
      simp [e]
  · rw [upZ_ne _ _ (by omega)] at hq ⊢
    obtain ⟨a1, a2, a3⟩ := h.pr i hi hq
    exact ⟨a1, a2, fun k hk => by rw [upZ_ne _ _ (by omega)]; exact a3 k hk⟩
  · by_cases e : j = a
    · subst e; rw [upZ_eq, upZ_eq]
    · rw [upZ_ne _ _ e, upZ_ne _ _ e]; exact h.od j (by omega)
  · by_cases e : j = a
    · subst e
      rw [upZ_eq]
      refine ⟨by omega, by omega, ?_⟩
      rw [Int.toNat_natCast, upZ_ne _ _ (by omega)]
      exact h.q0 hf
    · rw [upZ_ne _ _ e]
      obtain ⟨d1, d2, d3⟩ := h.dn j (by omega)
      exact ⟨d1, d2, by rw [upZ_ne _ _ (by omega)]; exact d3⟩
/-- one is cut -/
theorem AG.cut (h : AG Q C O P W S x D a) (hin : INs P S x) (hx : x < 128) {Q' C' : Nat → Int} {p ax : Nat} {v : Int} (hp : S p = true) (ha : ax < 3) (hv1 : P (6 * p + 2 * ax) < v) (hv2 : v < P (6 * p + 2 * ax + 1)) (q1 : ∀ i k, i < 128 → k < 8 → i ≠ p → i ≠ x → Q' (8 * i + k) = Q (8 * i + k)) (q2 : ∀ k, k < 8 → Q' (8 * p + k) = if k = 2 + 2 * ax then v else Q (8 * p + k)) (q3 : ∀ k, k < 8 → Q' (8 * x + k) = if k = 1 + 2 * ax then v else Q (8 * p + k)) (hC : ∀ i j, i < 128 → j < 128 → (C' (128 * i + j) = 1 ↔ (i ≠ p ∧ j ≠ p ∧ C (128 * i + j) = 1) ∨ ∃ z : Int, 0 ≤ z ∧ z < 8192 ∧ seeW Q' z p x i j)) : AG Q' C' O (ctP P x p ax v) (upZ W x (W p)) (fun j => S j || decide (j = x)) (x + 1) D a := by
  have px := (hin.2.1 p hp).1
  have pb := h.sb p hp
  have p0 := h.q0 hp
  have hin2 := hin.cut hp ha hv1 hv2
  obtain ⟨-, pW, pK⟩ := h.pr p pb p0
  have l0 := (h.lf p pb).mpr hp
  -- the numbers of each
  have z0 : ∀ i, i < 128 → i ≠ x → Q' (8 * i) = Q (8 * i) := fun i hi hx' => by
    by_cases e : i = p
    · subst e
      have := q2 0 (by omega)
      rw [if_neg (by omega)] at this
      exact this
    · exact q1 i 0 hi (by omega) e hx'
  have z7 : ∀ i, i < 128 → i ≠ x → Q' (8 * i + 7) = Q (8 * i + 7) := fun i hi hx' => by
    by_cases e : i = p
    · subst e
      rw [q2 7 (by omega), if_neg (by omega)]
    · exact q1 i 7 hi (by omega) e hx'
  have y0 : Q' (8 * x) = Q (8 * p) := by
    have := q3 0 (by omega)
    rw [if_neg (by omega)] at this
    exact this
  have y7 : Q' (8 * x + 7) = Q (8 * p + 7) := by rw [q3 7 (by omega), if_neg (by omega)]
  have pr' : ∀ i, i < 128 → Q' (8 * i) ≠ -1 → i < x + 1 ∧ upZ W x (W p) i = Q' (8 * i) ∧ ∀ k, k < 6 → ctP P x p ax v (6 * i + k) = Q' (8 * i + 1 + k) := by
    intro i hi hq
    by_cases e : i = x
    · subst e
      rw [upZ_eq, y0]
      refine ⟨by omega, pW, fun k hk => ?_⟩
      rw [ctP_x px ha hk, show 8 * i + 1 + k = 8 * i + (1 + k) by omega, q3 (1 + k) (by omega)]
      by_cases c : k = 2 * ax
      · rw [if_pos c, if_pos (by omega)]
      · rw [if_neg c, if_neg (by omega), pK k hk, show 8 * p + 1 + k = 8 * p + (1 + k) by omega]
    · rw [z0 i hi e] at hq ⊢
      obtain ⟨a1, a2, a3⟩ := h.pr i hi hq
      rw [upZ_ne _ _ e]
      refine ⟨by omega, a2, fun k hk => ?_⟩
      rw [show 8 * i + 1 + k = 8 * i + (1 + k) by omega]
      by_cases e2 : i = p
      · subst e2
        rw [ctP_i px ha hk, q2 (1 + k) (by omega)]
        by_cases c : k = 2 * ax + 1
        · rw [if_pos c, if_pos (by omega)]
        · rw [if_neg c, if_neg (by omega), pK k hk, show 8 * i + 1 + k = 8 * i + (1 + k) by omega]
      · rw [ctP_oth px ha a1 e2 hk, q1 i (1 + k) hi (by omega) e2 e, a3 k hk, show 8 * i + 1 + k = 8 * i + (1 + k) by omega]
  have lf' : ∀ i, i < 128 → (lfP Q' i ↔ (S i || decide (i = x)) = true) := by
    intro i hi
    unfold lfP
    by_cases e : i = x
    · subst e
      rw [y0, y7]
      simp only [decide_true, Bool.or_true, iff_true]
      exact l0
    · rw [z0 i hi e, z7 i hi e]
      have := h.lf i hi
      unfold lfP at this
      rw [this]
      simp [e]
  have sb' : ∀ i, (S i || decide (i = x)) = true → i < 128 := fun i k => by
    rw [Bool.or_eq_true, decide_eq_true_eq] at k
    rcases k with k | k
    · exact h.sb i k
    · omega
  have hQ' : ∀ i, (S i || decide (i = x)) = true → i < 128 ∧ Q' (8 * i) ≠ -1 ∧ ∀ k, k < 6 → ctP P x p ax v (6 * i + k) = Q' (8 * i + 1 + k) := fun i k => by
    have b := sb' i k
    have q := ((lf' i b).mpr k).1
    exact ⟨b, q, (pr' i b q).2.2⟩
  refine ⟨lf', pr', fun i j hi hj => ?_, fun i j hi hj hxx z => ?_, h.od, fun j hj => ?_, sb'⟩
  · have bi := sb' i hi
    have bj := sb' j hj
    rw [hC i j bi bj, seeW_iff hin2 hQ' hi hj]
    have or1 : ∀ u, (S u || decide (u = x)) = true → u ≠ x → S u = true := fun u k ku => by
      rw [Bool.or_eq_true, decide_eq_true_eq] at k
      exact k.resolve_right ku
    constructor
    · rintro (⟨c1, c2, c3⟩ | ⟨-, c⟩)
      · by_cases e1 : i = x
        · exact absurd c3 (h.nw i j bi bj (Or.inl (by omega)))
        · by_cases e2 : j = x
          · exact absurd c3 (h.nw i j bi bj (Or.inr (by omega)))
          · have si := or1 i hi e1
            have sj := or1 j hj e2
            rw [cvD_cg (P' := P) (fun k hk => ctP_oth px ha (hin.2.1 i si).1 c1 hk) (fun k hk => ctP_oth px ha (hin.2.1 j sj).1 c2 hk)]
            exact (h.cv i j si sj).mp c3
      · exact c
    · intro c
      by_cases k : i = p ∨ j = p ∨ i = x ∨ j = x
      · exact Or.inr ⟨k, c⟩
      · have k1 : i ≠ p := fun e => k (Or.inl e)
        have k2 : j ≠ p := fun e => k (Or.inr (Or.inl e))
        have si := or1 i hi (fun e => k (Or.inr (Or.inr (Or.inl e))))
        have sj := or1 j hj (fun e => k (Or.inr (Or.inr (Or.inr e))))
        rw [cvD_cg (P' := P) (fun k hk => ctP_oth px ha (hin.2.1 i si).1 k1 hk) (fun k hk => ctP_oth px ha (hin.2.1 j sj).1 k2 hk)] at c
        exact Or.inl ⟨k1, k2, (h.cv i j si sj).mpr c⟩
  · rcases (hC i j hi hj).mp z with ⟨-, -, c⟩ | ⟨y, -, -, c⟩
    · exact h.nw i j hi hj (by omega) c
    · -- one that isn't there isn't seen
      have no : ∀ u, u < 128 → x + 1 ≤ u → exX Q' (aX y) (aY y) (u : Int) = 0 := fun u hu hux => by
        unfold exX
        rw [if_pos]
        rw [show (8 * (u : Int)).toNat = 8 * u by omega]
        exact Classical.byContradiction (fun w => by have := (pr' u hu w).1; omega)
      have one : ∀ r, r = p ∨ r = x → wiQ (fun y' => exX Q' (aX y) (aY y) (y' : Int)) r 128 i j → False := by
        intro r hr w
        rcases w with ⟨w0, ⟨w1, w2, w3, w4, w5⟩ | ⟨w1, w2, w3, w4, w5⟩⟩
        · dsimp only at w4
          rcases hxx with k | k
          · omega
          · exact w4 (no j hj k)
        · dsimp only at w4
          rcases hxx with k | k
          · exact w4 (no i hi k)
          · omega
      rcases c with c | c
      · exact one p (Or.inl rfl) c
      · exact one x (Or.inr rfl) c
  · obtain ⟨d1, d2, d3⟩ := h.dn j hj
    refine ⟨d1, d2, ?_⟩
    by_cases e : (D j).toNat = x
    · rw [e, y0]; exact p0
    · rw [z0 _ (by omega) e]; exact d3
end C80x
