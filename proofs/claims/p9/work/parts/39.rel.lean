/-! class and reference hold the same scene -/
def REL (t : Int) (E K R B I : Nat → Int) : Prop := (∀ v : Int, 0 ≤ v → v < 24 → (tbt t v.toNat = true ↔ B (11 * v).toNat = 1)) ∧ (∀ v k : Int, 0 ≤ v → v < 24 → 0 ≤ k → k < 6 → E (v * 6 + k).toNat = B (11 * v + 1 + k).toNat) ∧ (∀ v k : Int, 0 ≤ v → v < 24 → 0 ≤ k → k < 4 → K (v * 4 + k).toNat = B (11 * v + 7 + k).toNat) ∧ ∀ j : Nat, j < 64 → R j = I j
section C30
variable {t : Int} {E K R B I T T' : Nat → Int}
theorem REL.r_isT (h : REL t E K R B I) (v : Int) : isT t v ↔ mT B v := by
  unfold isT mT
  constructor
  · rintro ⟨q1, q2⟩; exact ⟨q1, (h.1 v q1.1 q1.2).mp q2⟩
  · rintro ⟨q1, q2⟩; exact ⟨q1, (h.1 v q1.1 q1.2).mpr q2⟩
theorem REL.r_ovl (h : REL t E K R B I) (hT : ∀ j : Nat, j < 6 → T j = T' j) {b j : Int} (hb : 0 ≤ b) (hb2 : b < 24) (hj : 0 ≤ j) (hj2 : j < 3) : ovl E T b j ↔ movl B T' b (2 * j) := by
  have e1 := h.2.1 b (2 * j) hb hb2 (by omega) (by omega)
  have e2 := h.2.1 b (2 * j + 1) hb hb2 (by omega) (by omega)
  have e3 := hT (2 * j).toNat (by omega)
  have e4 := hT (2 * j + 1).toNat (by omega)
  rw [show b * 6 + (2 * j + 1) = b * 6 + 2 * j + 1 by omega, show 11 * b + 1 + (2 * j + 1) = 11 * b + 2 + 2 * j by omega] at e2
  unfold ovl movl
  rw [e1, e2, e3, e4]
theorem REL.r_way (h : REL t E K R B I) (hT : ∀ j : Nat, j < 6 → T j = T' j) (v : Int) {b : Int} (hb : 0 ≤ b) (hb2 : b < 24) : wayP t E T v b ↔ mway B T' v b := by
  have hi := h.r_isT b
  have o0 := h.r_ovl hT hb hb2 (j := 0) (by omega) (by omega)
  have o1 := h.r_ovl hT hb hb2 (j := 1) (by omega) (by omega)
  have o2 := h.r_ovl hT hb hb2 (j := 2) (by omega) (by omega)
  unfold wayP mway
  constructor
  · rintro ⟨q1, q2, q3⟩
    exact ⟨q1, hi.mp ⟨⟨hb, hb2⟩, q2⟩, o0.mp (q3 0 (by omega) (by omega)), o1.mp (q3 1 (by omega) (by omega)), o2.mp (q3 2 (by omega) (by omega))⟩
  · rintro ⟨q1, q2, q3, q4, q5⟩
    refine ⟨q1, (hi.mpr q2).2, fun j j0 j1 => ?_⟩
    rcases (show j = 0 ∨ j = 1 ∨ j = 2 by omega) with rfl | rfl | rfl
    · exact o0.mpr q3
    · exact o1.mpr q4
    · exact o2.mpr q5
theorem least24_uniq {P Q : Int → Prop} {z z' : Int} (hPQ : ∀ b, 0 ≤ b → b < 24 → (P b ↔ Q b)) (h1 : least24 P z) (h2 : least24 Q z') : z = z' := by
  rcases h1 with ⟨a1, a2, a3, a4⟩ | ⟨a1, a2⟩
  · rcases h2 with ⟨b1, b2, b3, b4⟩ | ⟨b1, b2⟩
    · rcases Int.lt_trichotomy z z' with c | c | c
      · exact absurd ((hPQ z a1 a2).mp a3) (b4 z a1 c)
      · exact c
      · exact absurd ((hPQ z' b1 b2).mpr b3) (a4 z' b1 c)
    · exact absurd ((hPQ z a1 a2).mp a3) (b2 z a1 a2)
  · rcases h2 with ⟨b1, b2, b3, b4⟩ | ⟨b1, b2⟩
    · exact absurd ((hPQ z' b1 b2).mpr b3) (a2 z' b1 b2)
    · omega
theorem REL.r_shT (h : REL t E K R B I) {v x e : Int} (hv : 0 ≤ v) (hv2 : v < 24) (hx : 0 ≤ x) (hx2 : x < 3) (j : Nat) (hj : j < 6) : shT E v x e j = mshT B v x e j := by
  have e1 := h.2.1 v (j : Int) hv hv2 (by omega) (by omega)
  unfold shT mshT shE msh
  rw [show (v * 6).toNat + j = (v * 6 + (j : Int)).toNat by omega, show (11 * v + 1).toNat + j = (11 * v + 1 + (j : Int)).toNat by omega, e1]
  by_cases c : (j : Int) = 2 * x ∨ (j : Int) = 2 * x + 1
  · rw [if_pos (by omega), if_pos (by omega)]
  · rw [if_neg (by omega), if_neg (by omega)]
theorem REL.r_go (h : REL t E K R B I) {v x e : Int} (hv : 0 ≤ v) (hv2 : v < 24) (hx : 0 ≤ x) (hx2 : x < 3) : goOK t E v x e ↔ mgoOK B v x e := by
  have e1 := h.2.1 v (2 * x) hv hv2 (by omega) (by omega)
  have e2 := h.2.1 v (2 * x + 1) hv hv2 (by omega) (by omega)
  rw [show v * 6 + (2 * x + 1) = v * 6 + 2 * x + 1 by omega, show 11 * v + 1 + (2 * x + 1) = 11 * v + 2 + 2 * x by omega] at e2
  have w := fun b (b0 : 0 ≤ b) (b1 : b < 24) => h.r_way (fun j hj => h.r_shT (e := e) hv hv2 hx hx2 j hj) v (b := b) b0 b1
  unfold goOK mgoOK
  rw [e1, e2]
  constructor
  · rintro ⟨q1, q2, q3⟩; exact ⟨q1, q2, fun b b0 b1 q => q3 b b0 b1 ((w b b0 b1).mpr q)⟩
  · rintro ⟨q1, q2, q3⟩; exact ⟨q1, q2, fun b b0 b1 q => q3 b b0 b1 ((w b b0 b1).mp q)⟩
theorem REL.r_went (h : REL t E K R B I) {v x s M w : Int} (hv : 0 ≤ v) (hv2 : v < 24) (hx : 0 ≤ x) (hx2 : x < 3) : went t E v x s M w ↔ mwent B v x s M w := by
  have g := fun e => h.r_go (e := e) hv hv2 hx hx2
  unfold went mwent
  constructor
  · rintro ⟨q1, q2, q3, q4⟩
    exact ⟨q1, q2, fun i i1 i2 => (g _).mp (q3 i i1 i2), q4.imp id (fun z y => z ((g _).mpr y))⟩
  · rintro ⟨q1, q2, q3, q4⟩
    exact ⟨q1, q2, fun i i1 i2 => (g _).mpr (q3 i i1 i2), q4.imp id (fun z y => z ((g _).mp y))⟩
theorem REL.r_sh (h : REL t E K R B I) {v x e : Int} (hv : 0 ≤ v) (hv2 : v < 24) (hx : 0 ≤ x) (hx2 : x < 3) : REL t (shE E v x e) K R (msh B v x e) I := by
  refine ⟨fun b b0 b1 => ?_, fun b k b0 b1 k0 k1 => ?_, fun b k b0 b1 k0 k1 => ?_, h.2.2.2⟩
  · rw [msh_off hx hx2 (by by_cases c : b ≤ v; (left; omega); (right; omega))]
    exact h.1 b b0 b1
  · have e1 := h.2.1 b k b0 b1 k0 k1
    unfold shE msh
    rw [e1]
    by_cases c : b = v ∧ (k = 2 * x ∨ k = 2 * x + 1)
    · rw [if_pos (by omega), if_pos (by omega)]
    · rw [if_neg (by omega), if_neg (by omega)]
  · rw [msh_off hx hx2 (by by_cases c : b < v; (left; omega); (right; omega))]
    exact h.2.2.1 b k b0 b1 k0 k1
theorem REL.r_fall (h : REL t E K R B I) {v : Int} (hv : 0 ≤ v) (hv2 : v < 24) : fall t E v = mfall B v := by
  by_cases q : ∃ w, went t E v 2 (-1) 32 w
  · obtain ⟨w, hw⟩ := q
    rw [fall_eq hw, mfall_eq ((h.r_went hv hv2 (by omega) (by omega)).mp hw)]
  · have q2 : ¬ ∃ w, mwent B v 2 (-1) 32 w := fun ⟨w, hw⟩ => q ⟨w, (h.r_went hv hv2 (by omega) (by omega)).mpr hw⟩
    unfold fall mfall
    rw [dif_neg q, dif_neg q2]
theorem REL.r_step (h : REL t E K R B I) {H : Nat → Int} {g v a : Int} (hv : 0 ≤ v) (hv2 : v < 24) : REL t (dstep t H g v (E, a)).1 K R (mdstep H g v (B, a)).1 I ∧ (dstep t H g v (E, a)).2 = (mdstep H g v (B, a)).2 := by
  unfold dstep mdstep
  by_cases c : H v.toNat = g
  · rw [if_pos c, if_pos c]
    dsimp only
    rw [h.r_fall hv hv2]
    exact ⟨h.r_sh hv hv2 (by omega) (by omega), rfl⟩
  · rw [if_neg c, if_neg c]
    exact ⟨h, rfl⟩
end C30
theorem REL_row {t g : Int} {K R I H : Nat → Int} : ∀ (m : Nat), m ≤ 24 → ∀ (E B : Nat → Int) (a : Int), REL t E K R B I → REL t (drow t H g m (E, a)).1 K R (mdrow H g m (B, a)).1 I ∧ (drow t H g m (E, a)).2 = (mdrow H g m (B, a)).2 := by
  intro m
  induction m with
  | zero => intro _ E B a h; exact ⟨h, rfl⟩
  | succ m ih =>
    intro hm E B a h
    obtain ⟨h1, h2⟩ := h.r_step (H := H) (g := g) (v := 24 - ((m + 1 : Nat) : Int)) (a := a) (by omega) (by omega)
    unfold drow mdrow
    generalize hA : dstep t H g (24 - ((m + 1 : Nat) : Int)) (E, a) = A at *
    generalize hC : mdstep H g (24 - ((m + 1 : Nat) : Int)) (B, a) = C at *
    obtain ⟨A1, A2⟩ := A
    obtain ⟨C1, C2⟩ := C
    dsimp only at h1 h2
    subst h2
    exact ih (by omega) A1 C1 A2 h1
theorem REL_all {t : Int} {K R I H : Nat → Int} : ∀ (m : Nat) (E B : Nat → Int) (a : Int), REL t E K R B I → REL t (dall t H m (E, a)).1 K R (mdall H m (B, a)).1 I ∧ (dall t H m (E, a)).2 = (mdall H m (B, a)).2 := by
  intro m
  induction m with
  | zero => intro E B a h; exact ⟨h, rfl⟩
  | succ m ih =>
    intro E B a h
    obtain ⟨h1, h2⟩ := REL_row (H := H) (g := 32 - ((m + 1 : Nat) : Int)) 24 (by omega) E B a h
    unfold dall mdall
    generalize hA : drow t H (32 - ((m + 1 : Nat) : Int)) 24 (E, a) = A at *
    generalize hC : mdrow H (32 - ((m + 1 : Nat) : Int)) 24 (B, a) = C at *
    obtain ⟨A1, A2⟩ := A
    obtain ⟨C1, C2⟩ := C
    dsimp only at h1 h2
    subst h2
    exact ih A1 C1 A2 h1
theorem REL.r_hgt {t : Int} {E K R B I : Nat → Int} (h : REL t E K R B I) (j : Nat) (hj : j < 24) : hgt t E j = mhgt B j := by
  have e1 := h.1 (j : Int) (by omega) (by omega)
  have e2 := h.2.1 (j : Int) 4 (by omega) (by omega) (by omega) (by omega)
  rw [Int.toNat_natCast, show (11 * (j : Int)).toNat = 11 * j by omega] at e1
  rw [show ((j : Int) * 6 + 4).toNat = j * 6 + 4 by omega, show (11 * (j : Int) + 1 + 4).toNat = 11 * j + 5 by omega] at e2
  unfold hgt mhgt
  by_cases c : tbt t j = true
  · rw [if_pos c, if_pos (e1.mp c), e2]
  · rw [if_neg c, if_neg (fun q => c (e1.mpr q))]
theorem REL.r_drop {t : Int} {E K R B I : Nat → Int} (h : REL t E K R B I) : REL t (dall t (hgt t E) 32 (E, 0)).1 K R (mdall (mhgt B) 32 (B, 0)).1 I ∧ (dall t (hgt t E) 32 (E, 0)).2 = (mdall (mhgt B) 32 (B, 0)).2 := by
  rw [dall_congr (fun j hj => h.r_hgt j hj)]
  exact REL_all 32 E B 0 h
