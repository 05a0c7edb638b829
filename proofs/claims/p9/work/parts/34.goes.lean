/-- the boxes, box v moved by e along axis x; its ends then -/
def msh (B : Nat → Int) (v x e : Int) : Nat → Int := fun j => if (j : Int) = 11 * v + 1 + 2 * x ∨ (j : Int) = 11 * v + 2 + 2 * x then B j + e else B j
def mshT (B : Nat → Int) (v x e : Int) : Nat → Int := fun j => msh B v x e ((11 * v + 1).toNat + j)
def mgoOK (B : Nat → Int) (v x e : Int) : Prop := 0 ≤ B (11 * v + 1 + 2 * x).toNat + e ∧ B (11 * v + 2 + 2 * x).toNat + e ≤ 32 ∧ ∀ b, 0 ≤ b → b < 24 → ¬ mway B (mshT B v x e) v b
def tgk (B T : Nat → Int) (v x e k : Int) : Nat → Int := fun j => if (j : Int) < k then mshT B v x e j else T j
theorem tgk_0 (B T : Nat → Int) (v x e : Int) : tgk B T v x e 0 = T := by
  funext j
  unfold tgk
  rw [if_neg (by omega)]
theorem tgk_s (B T : Nat → Int) {v x e k y : Int} (hk : 0 ≤ k) (hy : y = mshT B v x e k.toNat) : upZ (tgk B T v x e k) k.toNat y = tgk B T v x e (k + 1) := by
  subst hy
  funext j
  unfold upZ tgk
  by_cases c : j = k.toNat
  · rw [if_pos c, if_pos (by omega), c]
  · rw [if_neg c]
    by_cases c2 : (j : Int) < k
    · rw [if_pos c2, if_pos (by omega)]
    · rw [if_neg c2, if_neg (by omega)]
theorem movl_congr {B T T' : Nat → Int} {b d : Int} (hd : 0 ≤ d) (hd2 : d ≤ 4) (hT : ∀ j : Nat, j < 6 → T j = T' j) : movl B T b d ↔ movl B T' b d := by
  unfold movl
  rw [hT d.toNat (by omega), hT (d + 1).toNat (by omega)]
theorem mway_congr {B T T' : Nat → Int} {v b : Int} (hT : ∀ j : Nat, j < 6 → T j = T' j) : mway B T v b ↔ mway B T' v b := by
  unfold mway
  rw [movl_congr (B := B) (b := b) (d := 0) (by omega) (by omega) hT, movl_congr (B := B) (b := b) (d := 2) (by omega) (by omega) hT, movl_congr (B := B) (b := b) (d := 4) (by omega) (by omega) hT]
theorem msh_cp (B T : Nat → Int) {v x e : Int} (hv : 0 ≤ v) (hx : 0 ≤ x) (hx2 : x < 3) (hT : ∀ j : Nat, j < 6 → T j = mshT B v x e j) : bcp B T v 6 = msh B v x e := by
  funext j
  unfold bcp
  by_cases c : 11 * v + 1 ≤ (j : Int) ∧ (j : Int) < 11 * v + 1 + 6
  · rw [if_pos c, hT _ (by omega)]
    unfold mshT
    congr 1
    omega
  · rw [if_neg c]
    unfold msh
    rw [if_neg (by omega)]
section C23
variable {l : Launch} {G : xG} {h : yH} {n : Nat}
theorem s_goes2 {Φ : Option xV → yH → Nat → Prop} {c : Nat} {v ax s u4 u5 i0 i1 i2 i3 i4 i5 i6 : Int} {B T : Nat → Int} {h0 : yH} (hv : 0 ≤ v) (hv2 : v < 24) (hm : h0 c = some (mo c i0 i1 i2 i3 i4 i5 i6)) (hT : h0 (c + 14) = some (ai 6 T)) (hΦ : Φ (some (vi 1)) (yup h0 (c + 1) (ai 264 (bcp B T v 6))) n) :
    ∀ (m : Nat) (k : Int), k = 6 - (m : Int) → 0 ≤ k → YW l G mX7_goes 3 0 0 Φ 120 [some (vr c), some (vi v), some (vi ax), some (vi s), some (vi u4), some (vi u5), some (vi k)] [] (yup h0 (c + 1) (ai 264 (bcp B T v k))) n := by
  intro m
  induction m with
  | zero =>
    intro k hk hk0
    have e : k = 6 := by omega
    subst e
    refine y_run kX7_goes rfl ?_
    refine y_ic_ge kX7_goes rfl rfl (fun c1 => ?_) (fun c1 => absurd c1 (by omega))
    refine y_run kX7_goes rfl ?_
    exact y_zr kX7_goes rfl rfl (Or.inr rfl) hΦ
  | succ m ih =>
    intro k hk hk0
    refine y_run kX7_goes rfl ?_
    refine y_ic_ge kX7_goes rfl rfl (fun c1 => absurd c1 (by omega)) (fun c1 => ?_)
    refine y_run kX7_goes rfl ?_
    refine y_get kX7_goes rfl rfl ((yup_ne _ _ (by omega)).trans hm) rfl ?_
    refine y_run kX7_goes rfl ?_
    refine y_get kX7_goes rfl rfl ((yup_ne _ _ (by omega)).trans hm) rfl ?_
    refine y_run kX7_goes rfl ?_
    refine y_ia kX7_goes rfl ((yup_ne _ _ (by omega)).trans hT) (by omega) (by omega) ?_
    refine y_is2 kX7_goes rfl (by omega) (by omega) ?_
    refine y_run kX7_goes rfl ?_
    rw [bcp_s B T hv hk0]
    exact ih (k + 1) (by omega) (by omega)
theorem s_goes1 {Φ : Option xV → yH → Nat → Prop} {c : Nat} {v ax s i0 i1 i2 i3 i4 i5 i6 : Int} {B T : Nat → Int} {h0 : yH} (hv : 0 ≤ v) (hv2 : v < 24) (ha : 0 ≤ ax) (ha2 : ax < 6) (hm : h0 c = some (mo c i0 i1 i2 i3 i4 i5 i6)) (hB : h0 (c + 1) = some (ai 264 B))
    (kk : YW l G mX7_goes 3 0 0 Φ 64 [some (vr c), some (vi v), some (vi ax), some (vi s), some (vi 6), none, none] [] (yup h0 (c + 14) (ai 6 (tgk B T v (ax % 3) s 6))) n) :
    ∀ (m : Nat) (k : Int), k = 6 - (m : Int) → 0 ≤ k → YW l G mX7_goes 3 0 0 Φ 14 [some (vr c), some (vi v), some (vi ax), some (vi s), some (vi k), none, none] [] (yup h0 (c + 14) (ai 6 (tgk B T v (ax % 3) s k))) n := by
  intro m
  induction m with
  | zero =>
    intro k hk hk0
    have e : k = 6 := by omega
    subst e
    refine y_run kX7_goes rfl ?_
    refine y_ic_ge kX7_goes rfl rfl (fun c1 => kk) (fun c1 => absurd c1 (by omega))
  | succ m ih =>
    intro k hk hk0
    refine y_run kX7_goes rfl ?_
    refine y_ic_ge kX7_goes rfl rfl (fun c1 => absurd c1 (by omega)) (fun c1 => ?_)
    refine y_run kX7_goes rfl ?_
    refine y_get kX7_goes rfl rfl ((yup_ne _ _ (by omega)).trans hm) rfl ?_
    refine y_run kX7_goes rfl ?_
    refine y_get kX7_goes rfl rfl ((yup_ne _ _ (by omega)).trans hm) rfl ?_
    refine y_run kX7_goes rfl ?_
    refine y_ia kX7_goes rfl ((yup_ne _ _ (by omega)).trans hB) (by omega) (by omega) ?_
    refine y_run kX7_goes rfl ?_
    refine y_idiv kX7_goes rfl (by omega) (by omega) (by omega) (by omega) ?_
    refine y_run kX7_goes rfl ?_
    refine y_irem kX7_goes rfl (by omega) (by omega) (by omega) (by omega) ?_
    have e0 : (11 * v + 1).toNat + k.toNat = (11 * v + 1 + k).toNat := by omega
    refine y_ic_ne kX7_goes rfl rfl (fun c2 => ?_) (fun c2 => ?_)
    · refine y_run kX7_goes rfl ?_
      refine y_is2 kX7_goes rfl (by omega) (by omega) ?_
      refine y_run kX7_goes rfl ?_
      rw [tgk_s B T hk0 (by unfold mshT msh; rw [if_neg (by omega), e0]; omega)]
      exact ih (k + 1) (by omega) (by omega)
    · refine y_run kX7_goes rfl ?_
      refine y_is2 kX7_goes rfl (by omega) (by omega) ?_
      refine y_run kX7_goes rfl ?_
      rw [tgk_s B T hk0 (by unfold mshT msh; rw [if_pos (by omega), e0])]
      exact ih (k + 1) (by omega) (by omega)
theorem c_goes {c : Nat} {v ax i0 i1 i2 i3 i4 i5 i6 : Int} {B T : Nat → Int} (hm : h c = some (mo c i0 i1 i2 i3 i4 i5 i6)) (hB : h (c + 1) = some (ai 264 B)) (hT : h (c + 14) = some (ai 6 T)) (hBb : ∀ j, 0 ≤ B j ∧ B j ≤ 32) (hv : 0 ≤ v) (hv2 : v < 24) (ha : 0 ≤ ax) (ha2 : ax < 6) (hTb : ∀ j, -1 ≤ T j ∧ T j ≤ 33) :
    YM l G mX7_goes 3 0 0 [vr c, vi v, vi ax] h n (fun r h' n' => (∃ T', (∀ j, -1 ≤ T' j ∧ T' j ≤ 33) ∧ ((¬ mgoOK B v (ax % 3) (sSt ax) ∧ r = some (vi 0) ∧ h' = yup h (c + 14) (ai 6 T')) ∨ (mgoOK B v (ax % 3) (sSt ax) ∧ r = some (vi 1) ∧ h' = yup (yup h (c + 14) (ai 6 T')) (c + 1) (ai 264 (msh B v (ax % 3) (sSt ax)))))) ∧ n' = n) := by
  have hs1 : sSt ax = 1 ∨ sSt ax = -1 := by unfold sSt; split <;> omega
  have hT6 : ∀ j : Nat, j < 6 → tgk B T v (ax % 3) (sSt ax) 6 j = mshT B v (ax % 3) (sSt ax) j := fun j hj => by
    unfold tgk
    rw [if_pos (by omega)]
  have hTb2 : ∀ j, -1 ≤ tgk B T v (ax % 3) (sSt ax) 6 j ∧ tgk B T v (ax % 3) (sSt ax) 6 j ≤ 33 := fun j => by
    unfold tgk
    split
    · unfold mshT msh
      have := hBb ((11 * v + 1).toNat + j)
      split <;> omega
    · exact hTb j
  have q0 : tgk B T v (ax % 3) (sSt ax) 6 (ax % 3 * 2).toNat = B (11 * v + 1 + 2 * (ax % 3)).toNat + sSt ax := by
    rw [hT6 _ (by omega)]
    unfold mshT msh
    rw [if_pos (by omega)]
    congr 2
    omega
  have q1 : tgk B T v (ax % 3) (sSt ax) 6 (ax % 3 * 2 + 1).toNat = B (11 * v + 2 + 2 * (ax % 3)).toNat + sSt ax := by
    rw [hT6 _ (by omega)]
    unfold mshT msh
    rw [if_pos (by omega)]
    congr 2
    omega
  have w0 := hBb (11 * v + 1 + 2 * (ax % 3)).toNat
  have w1 := hBb (11 * v + 2 + 2 * (ax % 3)).toNat
  refine YM.of kX7_goes (Nat.le_of_ble_eq_true rfl) (L0 := [some (vr c), some (vi v), some (vi ax), none, none, none, none]) rfl ?_
  generalize hΦ : (fun (r : Option xV) (h' : yH) (n' : Nat) => (∃ T', (∀ j, -1 ≤ T' j ∧ T' j ≤ 33) ∧ ((¬ mgoOK B v (ax % 3) (sSt ax) ∧ r = some (vi 0) ∧ h' = yup h (c + 14) (ai 6 T')) ∨ (mgoOK B v (ax % 3) (sSt ax) ∧ r = some (vi 1) ∧ h' = yup (yup h (c + 14) (ai 6 T')) (c + 1) (ai 264 (msh B v (ax % 3) (sSt ax)))))) ∧ n' = n) = Φ
  generalize hh1 : yup h (c + 14) (ai 6 (tgk B T v (ax % 3) (sSt ax) 6)) = h1
  have hm1 : h1 c = some (mo c i0 i1 i2 i3 i4 i5 i6) := by rw [← hh1]; exact (yup_ne _ _ (by omega)).trans hm
  have hB1 : h1 (c + 1) = some (ai 264 B) := by rw [← hh1]; exact (yup_ne _ _ (by omega)).trans hB
  have hT1 : h1 (c + 14) = some (ai 6 (tgk B T v (ax % 3) (sSt ax) 6)) := by rw [← hh1]; exact yup_eq _ _ _
  have hno : ¬ mgoOK B v (ax % 3) (sSt ax) → ∀ L, YW l (gT G) mX7_goes 3 0 0 Φ 115 L [] h1 n := fun g L => by
    refine y_run kX7_goes rfl ?_
    refine y_zr kX7_goes rfl rfl (Or.inl rfl) ?_
    rw [← hΦ, ← hh1]
    exact ⟨⟨_, hTb2, Or.inl ⟨g, rfl, rfl⟩⟩, rfl⟩
  have kk : YW l (gT G) mX7_goes 3 0 0 Φ 64 [some (vr c), some (vi v), some (vi ax), some (vi (sSt ax)), some (vi 6), none, none] [] h1 n := by
    refine y_run kX7_goes rfl ?_
    refine y_get kX7_goes rfl rfl hm1 rfl ?_
    refine y_run kX7_goes rfl ?_
    refine y_irem kX7_goes rfl (by omega) (by omega) (by omega) (by omega) ?_
    refine y_run kX7_goes rfl ?_
    refine y_ie kX7_goes rfl hT1 (by omega) (by omega) q0 ?_
    refine y_run kX7_goes rfl ?_
    refine y_get kX7_goes rfl rfl hm1 rfl ?_
    refine y_run kX7_goes rfl ?_
    refine y_irem kX7_goes rfl (by omega) (by omega) (by omega) (by omega) ?_
    refine y_run kX7_goes rfl ?_
    refine y_ie kX7_goes rfl hT1 (by omega) (by omega) q1 ?_
    refine y_run kX7_goes rfl ?_
    refine y_if_lt kX7_goes rfl rfl (fun c1 => hno (fun g => absurd g.1 (by omega)) _) (fun c1 => ?_)
    refine y_run kX7_goes rfl ?_
    refine y_ic_gt kX7_goes rfl rfl (fun c2 => hno (fun g => absurd g.2.1 (by omega)) _) (fun c2 => ?_)
    refine y_run kX7_goes rfl ?_
    refine y_get kX7_goes rfl rfl hm1 rfl ?_
    refine y_cv kX7_goes kX7_meets 2 (rest := []) rfl hm1 (by decide +kernel) (c_meets hm1 hB1 hT1 (fun j => ⟨by have := hBb j; omega, by have := hBb j; omega⟩) (fun j => ⟨by have := hTb2 j; omega, by have := hTb2 j; omega⟩) ⟨by omega, by omega⟩) rfl rfl ?_
    rintro r h2 n' ⟨⟨g, rfl, hg⟩, rfl, rfl⟩
    have hgb : -1 ≤ g ∧ g < 24 := by rcases hg with ⟨a1, a2, -⟩ | ⟨a1, -⟩ <;> omega
    refine y_run kX7_goes rfl ?_
    refine y_ic_eq kX7_goes rfl rfl (fun cg => ?_) (fun cg => ?_)
    · have hok : mgoOK B v (ax % 3) (sSt ax) := ⟨by omega, by omega, fun b b0 b1 q => by
        rcases hg with ⟨a1, -⟩ | ⟨-, a2⟩
        · omega
        · exact a2 b b0 b1 ((mway_congr hT6).mpr q)⟩
      refine y_run kX7_goes rfl ?_
      have := s_goes2 (l := l) (G := gT G) (n := n') (Φ := Φ) (ax := ax) (s := sSt ax) (u4 := B (11 * v + 1 + 2 * (ax % 3)).toNat + sSt ax) (u5 := B (11 * v + 2 + 2 * (ax % 3)).toNat + sSt ax) (B := B) hv hv2 hm1 hT1 (by
        rw [← hΦ, msh_cp B _ hv (by omega) (by omega) hT6, ← hh1]
        exact ⟨⟨_, hTb2, Or.inr ⟨hok, rfl, rfl⟩⟩, rfl⟩) 6 0 (by omega) (by omega)
      rw [bcp_0] at this
      refine YW.he ?_ this
      funext q
      by_cases cq : q = c + 1
      · subst cq; rw [yup_eq]; exact hB1
      · rw [yup_ne _ _ cq]
    · refine hno (fun q => ?_) _
      rcases hg with ⟨a1, a2, a3, -⟩ | ⟨a1, -⟩
      · exact q.2.2 g a1 a2 ((mway_congr hT6).mp a3)
      · omega
  have k14 := s_goes1 (l := l) (G := gT G) (n := n) (Φ := Φ) (T := T) hv hv2 ha ha2 hm hB (by rw [hh1]; exact kk) 6 0 (by omega) (by omega)
  rw [tgk_0] at k14
  have k14' : YW l (gT G) mX7_goes 3 0 0 Φ 14 [some (vr c), some (vi v), some (vi ax), some (vi (sSt ax)), some (vi 0), none, none] [] h n := by
    refine YW.he ?_ k14
    funext q
    by_cases cq : q = c + 14
    · subst cq; rw [yup_eq]; exact hT
    · rw [yup_ne _ _ cq]
  refine y_run kX7_goes rfl ?_
  refine y_ic_ge kX7_goes rfl rfl (fun c1 => ?_) (fun c1 => ?_)
  · have e : sSt ax = -1 := by unfold sSt; rw [if_neg (by omega)]
    rw [e] at k14'
    refine y_run kX7_goes rfl ?_
    exact k14'
  · have e : sSt ax = 1 := by unfold sSt; rw [if_pos (by omega)]
    rw [e] at k14'
    refine y_run kX7_goes rfl ?_
    exact k14'
end C23
