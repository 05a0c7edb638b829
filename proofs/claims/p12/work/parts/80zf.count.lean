/-! the picture is counted, and held against the earlier one -/
theorem xor_look (x y : Int) : yxor x y % 65536 = 0 ↔ x % 65536 = y % 65536 := by
  rw [← yand_65535 (yxor x y), ← yand_65535 x, ← yand_65535 y]
  have bits : ∀ k, tbt (yand (yxor x y) 65535) k = ((tbt x k ^^ tbt y k) && tbt 65535 k) := fun k => by rw [tbt_and, tbt_xor]
  have e0 : ∀ k, tbt 0 k = false := fun k => by show (0#32).getLsbD k = false; simp
  constructor
  · intro q
    have z : ∀ k, ((tbt x k ^^ tbt y k) && tbt 65535 k) = false := fun k => by rw [← bits, q]; exact e0 k
    show (iI x &&& iI 65535).toInt = (iI y &&& iI 65535).toInt
    congr 1
    apply i32_ext
    intro k _
    have a1 := tbt_and x 65535 k
    unfold yand at a1
    rw [tbt_of] at a1
    have a2 := tbt_and y 65535 k
    unfold yand at a2
    rw [tbt_of] at a2
    rw [a1, a2]
    have := z k
    revert this
    cases tbt x k <;> cases tbt y k <;> cases tbt 65535 k <;> simp
  · intro q
    show (iI (yxor x y) &&& iI 65535).toInt = 0
    have : iI (yxor x y) &&& iI 65535 = iI 0 := by
      apply i32_ext
      intro k _
      have a := bits k
      unfold yand at a
      rw [tbt_of] at a
      rw [a]
      have q2 : tbt (yand x 65535) k = tbt (yand y 65535) k := by rw [q]
      rw [tbt_and, tbt_and] at q2
      have z : (iI 0).toBitVec.getLsbD k = false := e0 k
      rw [z]
      revert q2
      cases tbt x k <;> cases tbt y k <;> cases tbt 65535 k <;> simp
    rw [this]
    rfl
theorem crd_0_iff {df : Nat → Bool} : ∀ {q : Nat}, crd df q = 0 ↔ ∀ k, k < q → df k = false := by
  intro q
  constructor
  · intro h k hk
    cases e : df k with
    | false => rfl
    | true => have := crd_pos e q hk; omega
  · intro h
    rw [crd_off (S' := fun _ => false) q h, crd_0]
theorem EXT.no {df : Nat → Bool} {v : Nat → Int} {q : Nat} {lo hi : Int} (h : EXT df v q lo hi) (hd : df q = false) : EXT df v (q + 1) lo hi := by
  have ne : ∀ k, k < q + 1 → df k = true → k < q := fun k hk hdk => by
    rcases Nat.lt_or_ge k q with c | c
    · exact c
    · have : k = q := by omega
      rw [this, hd] at hdk; cases hdk
  rcases h with ⟨h1, h2⟩ | ⟨⟨k1, a1, a2, a3⟩, ⟨k2, b1, b2, b3⟩, h3⟩
  · refine Or.inl ⟨fun k hk => ?_, h2⟩
    cases e : df k with
    | false => rfl
    | true => have := h1 k (ne k hk e); rw [e] at this; cases this
  · exact Or.inr ⟨⟨k1, by omega, a2, a3⟩, ⟨k2, by omega, b2, b3⟩, fun k hk hdk => h3 k (ne k hk hdk) hdk⟩
theorem EXT.yes {df : Nat → Bool} {v : Nat → Int} {q : Nat} {lo hi : Int} (h : EXT df v q lo hi) (hd : df q = true) : EXT df v (q + 1) (if crd df q = 0 then v q else min lo (v q)) (if crd df q = 0 then v q else max hi (v q)) := by
  by_cases c : crd df q = 0
  · rw [if_pos c, if_pos c]
    have z := crd_0_iff.mp c
    refine Or.inr ⟨⟨q, by omega, hd, rfl⟩, ⟨q, by omega, hd, rfl⟩, fun k hk hdk => ?_⟩
    rcases Nat.lt_or_ge k q with e | e
    · have := z k e; rw [hdk] at this; cases this
    · have : k = q := by omega
      rw [this]; omega
  · rw [if_neg c, if_neg c]
    rcases h with ⟨h1, -⟩ | ⟨⟨k1, a1, a2, a3⟩, ⟨k2, b1, b2, b3⟩, h3⟩
    · exact absurd (crd_0_iff.mpr h1) c
    · refine Or.inr ⟨?_, ?_, fun k hk hdk => ?_⟩
      · by_cases e : lo ≤ v q
        · exact ⟨k1, by omega, a2, by omega⟩
        · exact ⟨q, by omega, hd, by omega⟩
      · by_cases e : v q ≤ hi
        · exact ⟨k2, by omega, b2, by omega⟩
        · exact ⟨q, by omega, hd, by omega⟩
      · rcases Nat.lt_or_ge k q with e | e
        · have := h3 k e hdk; omega
        · have : k = q := by omega
          rw [this]; omega
theorem EXT.uniq {df : Nat → Bool} {v : Nat → Int} {q : Nat} {lo hi lo' hi' : Int} (h : EXT df v q lo hi) (h' : EXT df v q lo' hi') : lo = lo' ∧ hi = hi' := by
  rcases h with ⟨h1, h2, h2'⟩ | ⟨⟨k1, a1, a2, a3⟩, ⟨k2, b1, b2, b3⟩, h3⟩
  · rcases h' with ⟨-, g2, g2'⟩ | ⟨⟨k1, a1, a2, a3⟩, -⟩
    · omega
    · have := h1 k1 a1; rw [a2] at this; cases this
  · rcases h' with ⟨g1, -⟩ | ⟨⟨m1, c1, c2, c3⟩, ⟨m2, d1, d2, d3⟩, g3⟩
    · have := g1 k1 a1; rw [a2] at this; cases this
    · have := h3 m1 c1 c2
      have := h3 m2 d1 d2
      have := g3 k1 a1 a2
      have := g3 k2 b1 b2
      omega
theorem EXT.b {df : Nat → Bool} {v : Nat → Int} {q : Nat} {lo hi A B : Int} (h : EXT df v q lo hi) (hv : ∀ k, k < q → A ≤ v k ∧ v k ≤ B) (hA : A ≤ 100) (hB : 100 ≤ B) : (A ≤ lo ∧ lo ≤ B) ∧ A ≤ hi ∧ hi ≤ B := by
  rcases h with ⟨-, h2, h2'⟩ | ⟨⟨k1, a1, a2, a3⟩, ⟨k2, b1, b2, b3⟩, -⟩
  · omega
  · have := hv k1 a1
    have := hv k2 b1
    omega
section C80zf
variable {l : Launch} {G : xG} {h : yH} {n : Nat} {b ce1 ce2 : Nat} {g : yH} {pw la : Int} {Df : Nat → Int}
/-- a difference more -/
def dfX (Df X : Nat → Int) (i j : Int) : Prop := X 0 = Df 0 + 1 ∧ X 1 = (if Df 0 = 0 then i else min (Df 1) i) ∧ X 2 = (if Df 0 = 0 then i else max (Df 2) i) ∧ X 3 = (if Df 0 = 0 then j else min (Df 3) j) ∧ X 4 = (if Df 0 = 0 then j else max (Df 4) j) ∧ ∀ k, 5 ≤ k → X k = Df k
theorem e_addDifference (hq : QF b g ce1 ce2 pw la) {i j : Int} (i1 : -1000 ≤ i) (i2 : i ≤ 1000) (j1 : -1000 ≤ j) (j2 : j ≤ 1000) (d0 : 0 ≤ Df 0 ∧ Df 0 ≤ 10000) (d1 : -1000 ≤ Df 1 ∧ Df 1 ≤ 1000) (d2 : -1000 ≤ Df 2 ∧ Df 2 ≤ 1000) (d3 : -1000 ≤ Df 3 ∧ Df 3 ≤ 1000) (d4 : -1000 ≤ Df 4 ∧ Df 4 ≤ 1000) (e12 : h (b + 12) = some (ai 5 Df)) (hI : MI b g h) : YM l G mX2_addDifference 1 0 0 [vr (b + 8), vi i, vi j] h n (fun r h' n' => r = none ∧ n' = n ∧ ∃ X, h' = yup h (b + 12) (ai 5 X) ∧ dfX Df X i j) := by
  refine YM.of kX2_addDifference (Nat.le_of_ble_eq_true rfl) (L0 := [some (vr (b + 8)), some (vi i), some (vi j), none]) rfl ?_
  obtain ⟨h1, h2, hq0⟩ := id hq
  have c8 : ∀ (v : Nat → Int), yup h (b + 12) (ai 5 v) (b + 8) = some (qO b ce1 ce2 pw la) := fun v => (yup_ne _ _ (by omega)).trans (hI.x (k := 8) rfl hq0)
  refine y_run kX2_addDifference rfl ?_
  refine m_get kX2_addDifference (8) hI hq0 ?_
  refine y_run kX2_addDifference rfl ?_
  refine y_ie (v := Df 0) kX2_addDifference rfl e12 (by omega) (by omega) rfl ?_
  refine y_if_ne kX2_addDifference rfl rfl (fun c1 => ?_) (fun c1 => ?_)
  · refine y_run kX2_addDifference rfl ?_
    refine m_get kX2_addDifference (8) hI hq0 ?_
    refine y_run kX2_addDifference rfl ?_
    refine y_ie (v := Df 0) kX2_addDifference rfl e12 (by omega) (by omega) rfl ?_
    refine y_run kX2_addDifference rfl ?_
    refine y_is kX2_addDifference rfl e12 (by omega) (by omega) ?_
    refine y_run kX2_addDifference rfl ?_
    refine y_get kX2_addDifference rfl rfl (c8 _) rfl ?_
    refine y_run kX2_addDifference rfl ?_
    refine y_if_eq kX2_addDifference rfl rfl (fun c2 => ?_) (fun c2 => absurd c2 (by omega))
    refine y_run kX2_addDifference rfl ?_
    refine y_get kX2_addDifference rfl rfl (c8 _) rfl ?_
    refine y_run kX2_addDifference rfl ?_
    refine y_ie (v := Df 1) kX2_addDifference rfl (yup_eq _ _ _) (by omega) (by omega) rfl ?_
    refine y_run kX2_addDifference rfl ?_
    refine y_mn kX2_addDifference rfl (by decide +kernel) ?_
    refine y_is2 kX2_addDifference rfl (by omega) (by omega) ?_
    refine y_run kX2_addDifference rfl ?_
    refine y_get kX2_addDifference rfl rfl (c8 _) rfl ?_
    refine y_run kX2_addDifference rfl ?_
    refine y_if_eq kX2_addDifference rfl rfl (fun c3 => ?_) (fun c3 => absurd c3 (by omega))
    refine y_run kX2_addDifference rfl ?_
    refine y_get kX2_addDifference rfl rfl (c8 _) rfl ?_
    refine y_run kX2_addDifference rfl ?_
    refine y_ie (v := Df 2) kX2_addDifference rfl (yup_eq _ _ _) (by omega) (by omega) rfl ?_
    refine y_run kX2_addDifference rfl ?_
    refine y_mx kX2_addDifference rfl (by decide +kernel) ?_
    refine y_is2 kX2_addDifference rfl (by omega) (by omega) ?_
    refine y_run kX2_addDifference rfl ?_
    refine y_get kX2_addDifference rfl rfl (c8 _) rfl ?_
    refine y_run kX2_addDifference rfl ?_
    refine y_if_eq kX2_addDifference rfl rfl (fun c4 => ?_) (fun c4 => absurd c4 (by omega))
    refine y_run kX2_addDifference rfl ?_
    refine y_get kX2_addDifference rfl rfl (c8 _) rfl ?_
    refine y_run kX2_addDifference rfl ?_
    refine y_ie (v := Df 3) kX2_addDifference rfl (yup_eq _ _ _) (by omega) (by omega) rfl ?_
    refine y_run kX2_addDifference rfl ?_
    refine y_mn kX2_addDifference rfl (by decide +kernel) ?_
    refine y_is2 kX2_addDifference rfl (by omega) (by omega) ?_
    refine y_run kX2_addDifference rfl ?_
    refine y_get kX2_addDifference rfl rfl (c8 _) rfl ?_
    refine y_run kX2_addDifference rfl ?_
    refine y_if_eq kX2_addDifference rfl rfl (fun c5 => ?_) (fun c5 => absurd c5 (by omega))
    refine y_run kX2_addDifference rfl ?_
    refine y_get kX2_addDifference rfl rfl (c8 _) rfl ?_
    refine y_run kX2_addDifference rfl ?_
    refine y_ie (v := Df 4) kX2_addDifference rfl (yup_eq _ _ _) (by omega) (by omega) rfl ?_
    refine y_run kX2_addDifference rfl ?_
    refine y_mx kX2_addDifference rfl (by decide +kernel) ?_
    refine y_is2 kX2_addDifference rfl (by omega) (by omega) ?_
    refine y_vr kX2_addDifference rfl rfl ⟨rfl, rfl, _, rfl, ?_⟩
    unfold dfX
    rw [if_neg c1, if_neg c1, if_neg c1, if_neg c1]
    exact ⟨rfl, rfl, rfl, rfl, rfl, fun k hk => (upZ_ne _ _ (show k ≠ 4 by omega)).trans ((upZ_ne _ _ (show k ≠ 3 by omega)).trans ((upZ_ne _ _ (show k ≠ 2 by omega)).trans ((upZ_ne _ _ (show k ≠ 1 by omega)).trans (upZ_ne _ _ (show k ≠ 0 by omega)))))⟩
  · refine y_run kX2_addDifference rfl ?_
    refine m_get kX2_addDifference (8) hI hq0 ?_
    refine y_run kX2_addDifference rfl ?_
    refine y_ie (v := Df 0) kX2_addDifference rfl e12 (by omega) (by omega) rfl ?_
    refine y_run kX2_addDifference rfl ?_
    refine y_is kX2_addDifference rfl e12 (by omega) (by omega) ?_
    refine y_run kX2_addDifference rfl ?_
    refine y_get kX2_addDifference rfl rfl (c8 _) rfl ?_
    refine y_run kX2_addDifference rfl ?_
    refine y_if_eq kX2_addDifference rfl rfl (fun c6 => absurd c6 (by omega)) (fun c6 => ?_)
    refine y_run kX2_addDifference rfl ?_
    refine y_is2 kX2_addDifference rfl (by omega) (by omega) ?_
    refine y_run kX2_addDifference rfl ?_
    refine y_get kX2_addDifference rfl rfl (c8 _) rfl ?_
    refine y_run kX2_addDifference rfl ?_
    refine y_if_eq kX2_addDifference rfl rfl (fun c7 => absurd c7 (by omega)) (fun c7 => ?_)
    refine y_run kX2_addDifference rfl ?_
    refine y_is2 kX2_addDifference rfl (by omega) (by omega) ?_
    refine y_run kX2_addDifference rfl ?_
    refine y_get kX2_addDifference rfl rfl (c8 _) rfl ?_
    refine y_run kX2_addDifference rfl ?_
    refine y_if_eq kX2_addDifference rfl rfl (fun c8' => absurd c8' (by omega)) (fun c8' => ?_)
    refine y_run kX2_addDifference rfl ?_
    refine y_is2 kX2_addDifference rfl (by omega) (by omega) ?_
    refine y_run kX2_addDifference rfl ?_
    refine y_get kX2_addDifference rfl rfl (c8 _) rfl ?_
    refine y_run kX2_addDifference rfl ?_
    refine y_if_eq kX2_addDifference rfl rfl (fun c9 => absurd c9 (by omega)) (fun c9 => ?_)
    refine y_run kX2_addDifference rfl ?_
    refine y_is2 kX2_addDifference rfl (by omega) (by omega) ?_
    refine y_vr kX2_addDifference rfl rfl ⟨rfl, rfl, _, rfl, ?_⟩
    unfold dfX
    rw [if_pos c1, if_pos c1, if_pos c1, if_pos c1]
    exact ⟨rfl, rfl, rfl, rfl, rfl, fun k hk => (upZ_ne _ _ (show k ≠ 4 by omega)).trans ((upZ_ne _ _ (show k ≠ 3 by omega)).trans ((upZ_ne _ _ (show k ≠ 2 by omega)).trans ((upZ_ne _ _ (show k ≠ 1 by omega)).trans (upZ_ne _ _ (show k ≠ 0 by omega)))))⟩
end C80zf
