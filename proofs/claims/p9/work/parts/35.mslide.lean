theorem msh_msh (B : Nat → Int) (v x e e' : Int) : msh (msh B v x e) v x e' = msh B v x (e + e') := by
  funext j
  unfold msh
  by_cases c : (j : Int) = 11 * v + 1 + 2 * x ∨ (j : Int) = 11 * v + 2 + 2 * x
  · rw [if_pos c, if_pos c, if_pos c]; omega
  · rw [if_neg c, if_neg c, if_neg c]
theorem msh_0 (B : Nat → Int) (v x : Int) : msh B v x 0 = B := by
  funext j
  unfold msh
  split <;> omega
theorem msh_off {B : Nat → Int} {v x e : Int} {j : Nat} (hx : 0 ≤ x) (hx2 : x < 3) (hj : (j : Int) ≤ 11 * v ∨ 11 * v + 7 ≤ (j : Int)) : msh B v x e j = B j := by
  unfold msh
  rw [if_neg (by omega)]
theorem msh_mT {B : Nat → Int} {v x e b : Int} (hx : 0 ≤ x) (hx2 : x < 3) (hv : 0 ≤ v) : mT (msh B v x e) b ↔ mT B b := by
  unfold mT
  constructor
  · rintro ⟨q1, q2⟩
    refine ⟨q1, ?_⟩
    rw [← q2, msh_off hx hx2]
    by_cases c : b ≤ v
    · left; omega
    · right; omega
  · rintro ⟨q1, q2⟩
    refine ⟨q1, ?_⟩
    rw [← q2, msh_off hx hx2]
    by_cases c : b ≤ v
    · left; omega
    · right; omega
theorem msh_mway {B T : Nat → Int} {v x e b : Int} (hx : 0 ≤ x) (hx2 : x < 3) (hv : 0 ≤ v) (hb : 0 ≤ b) : mway (msh B v x e) T v b ↔ mway B T v b := by
  unfold mway
  by_cases c : b = v
  · constructor <;> (intro q; exact absurd c q.1)
  · have o : ∀ d : Int, 0 ≤ d → d ≤ 4 → (movl (msh B v x e) T b d ↔ movl B T b d) := fun d d0 d1 => by
      unfold movl
      rw [msh_off hx hx2 (by omega), msh_off hx hx2 (by omega)]
    rw [msh_mT hx hx2 hv, o 0 (by omega) (by omega), o 2 (by omega) (by omega), o 4 (by omega) (by omega)]
theorem msh_go {B : Nat → Int} {v x e e' : Int} (hx : 0 ≤ x) (hx2 : x < 3) (hv : 0 ≤ v) : mgoOK (msh B v x e) v x e' ↔ mgoOK B v x (e + e') := by
  unfold mgoOK
  have a0 : msh B v x e (11 * v + 1 + 2 * x).toNat = B (11 * v + 1 + 2 * x).toNat + e := by unfold msh; rw [if_pos (by omega)]
  have a1 : msh B v x e (11 * v + 2 + 2 * x).toNat = B (11 * v + 2 + 2 * x).toNat + e := by unfold msh; rw [if_pos (by omega)]
  have a2 : mshT (msh B v x e) v x e' = mshT B v x (e + e') := by unfold mshT; rw [msh_msh]
  rw [a0, a1, a2]
  constructor
  · rintro ⟨q1, q2, q3⟩
    exact ⟨by omega, by omega, fun b b0 b1 q => q3 b b0 b1 ((msh_mway hx hx2 hv b0).mpr q)⟩
  · rintro ⟨q1, q2, q3⟩
    exact ⟨by omega, by omega, fun b b0 b1 q => q3 b b0 b1 ((msh_mway hx hx2 hv b0).mp q)⟩
def mwent (B : Nat → Int) (v x s M w : Int) : Prop := 0 ≤ w ∧ w ≤ M ∧ (∀ i, 1 ≤ i → i ≤ w → mgoOK B v x (s * i)) ∧ (w = M ∨ ¬ mgoOK B v x (s * (w + 1)))
def msld (B : Nat → Int) (v x M : Int) : Prop := mT B v ∧ (0 ≤ x ∧ x < 6) ∧ (0 ≤ M ∧ M < 33)
section C24
variable {l : Launch} {G : xG} {n : Nat}
theorem s_mslide {Φ : Option xV → yH → Nat → Prop} {h0 : yH} {c : Nat} {v ax M i0 i1 i2 i3 i4 i5 i6 : Int} {B : Nat → Int} (hm0 : h0 c = some (mo c i0 i1 i2 i3 i4 i5 i6)) (hBb : ∀ j, 0 ≤ B j ∧ B j ≤ 32) (hwd : B (11 * v + 1 + 2 * (ax % 3)).toNat ≤ B (11 * v + 2 + 2 * (ax % 3)).toNat) (hv : 0 ≤ v) (hv2 : v < 24) (ha : 0 ≤ ax) (ha2 : ax < 6) (hM2 : M ≤ 32)
    (hΦ : ∀ (w : Int) (h' : yH) (T' : Nat → Int), mwent B v (ax % 3) (sSt ax) M w → h' (c + 1) = some (ai 264 (msh B v (ax % 3) (sSt ax * w))) → h' (c + 14) = some (ai 6 T') → (∀ j, -1 ≤ T' j ∧ T' j ≤ 33) → (∀ q, q ≠ c + 1 → q ≠ c + 14 → h' q = h0 q) → Φ (some (vi w)) h' n) :
    ∀ (m : Nat) (k : Int) (h : yH) (T : Nat → Int), k = M - (m : Int) → 0 ≤ k → (∀ i, 1 ≤ i → i ≤ k → mgoOK B v (ax % 3) (sSt ax * i)) → (∀ j, 0 ≤ msh B v (ax % 3) (sSt ax * k) j ∧ msh B v (ax % 3) (sSt ax * k) j ≤ 32) → h (c + 1) = some (ai 264 (msh B v (ax % 3) (sSt ax * k))) → h (c + 14) = some (ai 6 T) → (∀ j, -1 ≤ T j ∧ T j ≤ 33) → (∀ q, q ≠ c + 1 → q ≠ c + 14 → h q = h0 q) →
      YW l G mX7_slide 4 0 0 Φ 31 [some (vr c), some (vi v), some (vi ax), some (vi M), some (vi k)] [] h n := by
  have hs1 : sSt ax = 1 ∨ sSt ax = -1 := by unfold sSt; split <;> omega
  intro m
  induction m with
  | zero =>
    intro k h T hk hk0 hok hBk hB hT hTb hfr
    have e : k = M := by omega
    subst e
    refine y_run kX7_slide rfl ?_
    refine y_ic_ge kX7_slide rfl rfl (fun c1 => ?_) (fun c1 => absurd c1 (by omega))
    refine y_run kX7_slide rfl ?_
    exact y_ir kX7_slide rfl rfl (hΦ k h T ⟨hk0, by omega, hok, Or.inl rfl⟩ hB hT hTb hfr)
  | succ m ih =>
    intro k h T hk hk0 hok hBk hB hT hTb hfr
    have hstep : sSt ax * (k + 1) = sSt ax * k + sSt ax := by rw [Int.mul_add, Int.mul_one]
    have hm : h c = some (mo c i0 i1 i2 i3 i4 i5 i6) := (hfr c (by omega) (by omega)).trans hm0
    refine y_run kX7_slide rfl ?_
    refine y_ic_ge kX7_slide rfl rfl (fun c1 => absurd c1 (by omega)) (fun c1 => ?_)
    refine y_run kX7_slide rfl ?_
    refine y_cv kX7_slide kX7_goes 2 (rest := []) rfl hm (by decide +kernel) (c_goes hm hB hT hBk hv hv2 ha ha2 hTb) rfl rfl ?_
    rintro r h' n' ⟨⟨T', hT', hr⟩, rfl⟩
    rw [msh_go (by omega) (by omega) hv, ← hstep, msh_msh, ← hstep] at hr
    rcases hr with ⟨g, rfl, rfl⟩ | ⟨g, rfl, rfl⟩
    · refine y_if_eq kX7_slide rfl rfl (fun _ => ?_) (fun q => absurd rfl q)
      refine y_run kX7_slide rfl ?_
      exact y_ir kX7_slide rfl rfl (hΦ k _ T' ⟨hk0, by omega, hok, Or.inr g⟩ ((yup_ne _ _ (by omega)).trans hB) (yup_eq _ _ _) hT' (fun q q1 q2 => (yup_ne _ _ q2).trans (hfr q q1 q2)))
    · refine y_if_eq kX7_slide rfl rfl (fun q => absurd q (by omega)) (fun _ => ?_)
      refine y_run kX7_slide rfl ?_
      have g0 := g.1
      have g1 := g.2.1
      refine ih (k + 1) _ T' (by omega) (by omega) (fun i i1 i2 => ?_) (fun j => ?_) (yup_eq _ _ _) ((yup_ne _ _ (by omega)).trans (yup_eq _ _ _)) hT' (fun q q1 q2 => (yup_ne _ _ q1).trans ((yup_ne _ _ q2).trans (hfr q q1 q2)))
      · by_cases ci : i = k + 1
        · rw [ci]; exact g
        · exact hok i i1 (by omega)
      · unfold msh
        by_cases cj : (j : Int) = 11 * v + 1 + 2 * (ax % 3) ∨ (j : Int) = 11 * v + 2 + 2 * (ax % 3)
        · rw [if_pos cj]
          rcases cj with cj | cj
          · rw [show j = (11 * v + 1 + 2 * (ax % 3)).toNat by omega]; omega
          · rw [show j = (11 * v + 2 + 2 * (ax % 3)).toNat by omega]; omega
        · rw [if_neg cj]; exact hBb j
theorem c_mslide {h : yH} {c : Nat} {v ax M i0 i1 i2 i3 i4 i5 i6 : Int} {B T : Nat → Int} (hm : h c = some (mo c i0 i1 i2 i3 i4 i5 i6)) (hB : h (c + 1) = some (ai 264 B)) (hT : h (c + 14) = some (ai 6 T)) (hBb : ∀ j, 0 ≤ B j ∧ B j ≤ 32) (hTb : ∀ j, -1 ≤ T j ∧ T j ≤ 33) (hwd : ∀ v, mT B v → ∀ x, 0 ≤ x → x < 3 → B (11 * v + 1 + 2 * x).toNat ≤ B (11 * v + 2 + 2 * x).toNat) (hv : inI v) (hi : inI ax) (hM : inI M) :
    YM l G mX7_slide 4 0 0 [vr c, vi v, vi ax, vi M] h n (fun r h' n' => ((¬ msld B v ax M ∧ r = some (vi (-1)) ∧ h' = h) ∨ (msld B v ax M ∧ ∃ w T', r = some (vi w) ∧ mwent B v (ax % 3) (sSt ax) M w ∧ h' (c + 1) = some (ai 264 (msh B v (ax % 3) (sSt ax * w))) ∧ h' (c + 14) = some (ai 6 T') ∧ (∀ j, -1 ≤ T' j ∧ T' j ≤ 33) ∧ (∀ q, q ≠ c + 1 → q ≠ c + 14 → h' q = h q))) ∧ n' = n) := by
  refine YM.of kX7_slide (Nat.le_of_ble_eq_true rfl) (L0 := [some (vr c), some (vi v), some (vi ax), some (vi M), none]) rfl ?_
  generalize hΦ : (fun (r : Option xV) (h' : yH) (n' : Nat) => ((¬ msld B v ax M ∧ r = some (vi (-1)) ∧ h' = h) ∨ (msld B v ax M ∧ ∃ w T', r = some (vi w) ∧ mwent B v (ax % 3) (sSt ax) M w ∧ h' (c + 1) = some (ai 264 (msh B v (ax % 3) (sSt ax * w))) ∧ h' (c + 14) = some (ai 6 T') ∧ (∀ j, -1 ≤ T' j ∧ T' j ≤ 33) ∧ (∀ q, q ≠ c + 1 → q ≠ c + 14 → h' q = h q))) ∧ n' = n) = Φ
  have hno : ¬ msld B v ax M → YW l (gT G) mX7_slide 4 0 0 Φ 26 [some (vr c), some (vi v), some (vi ax), some (vi M), none] [] h n := fun g => by
    refine y_run kX7_slide rfl ?_
    refine y_ir kX7_slide rfl rfl ?_
    rw [← hΦ]
    exact ⟨Or.inl ⟨g, rfl, rfl⟩, rfl⟩
  refine y_run kX7_slide rfl ?_
  refine y_cv kX7_slide kX7_isThere 1 (rest := []) rfl hm (by decide +kernel) (c_isThere hm hB (fun j => ⟨by have := hBb j; omega, by have := hBb j; omega⟩) hv) rfl rfl ?_
  rintro r h' n' ⟨hr, rfl, rfl⟩
  rcases hr with ⟨rfl, hr⟩ | ⟨rfl, hr⟩
  case inr => exact y_if_eq kX7_slide rfl rfl (fun _ => hno (fun g => hr g.1)) (fun q => absurd rfl q)
  refine y_if_eq kX7_slide rfl rfl (fun q => absurd q (by omega)) (fun _ => ?_)
  refine y_run kX7_slide rfl ?_
  refine y_cs kX7_slide kX7_in 2 (rest := []) rfl (by decide +kernel) (c_in ax 6 hi ⟨by omega, by omega⟩) rfl rfl ?_
  rintro r h' n' ⟨rfl, rfl, rfl⟩
  refine y_beq kX7_slide rfl rfl (fun d => hno (fun g => d g.2.1)) (fun d0 => ?_)
  refine y_run kX7_slide rfl ?_
  refine y_cs kX7_slide kX7_in 2 (rest := []) rfl (by decide +kernel) (c_in M 33 hM ⟨by omega, by omega⟩) rfl rfl ?_
  rintro r h' n' ⟨rfl, rfl, rfl⟩
  refine y_bne kX7_slide rfl rfl (fun d1 => ?_) (fun d => hno (fun g => d g.2.2))
  refine y_run kX7_slide rfl ?_
  refine s_mslide (h0 := h') hm hBb (hwd v hr (ax % 3) (by omega) (by omega)) hr.1.1 hr.1.2 d0.1 d0.2 (by omega) (fun w h2 T' a1 a2 a3 a4 a5 => ?_) M.toNat 0 h' T (by omega) (by omega) (fun i i1 i2 => absurd i2 (by omega)) ?_ ?_ hT hTb (fun q _ _ => rfl)
  · rw [← hΦ]
    exact ⟨Or.inr ⟨⟨hr, d0, d1⟩, w, T', rfl, a1, a2, a3, a4, a5⟩, rfl⟩
  · rw [Int.mul_zero, msh_0]; exact hBb
  · rw [Int.mul_zero, msh_0]; exact hB
end C24
