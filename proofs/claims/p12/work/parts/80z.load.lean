/-! the class: draw, exactly -/
theorem ins_load {t : Int} {E P : Nat → Int} (ho : okE t E) (hd : DJ t E) (hPE : ∀ j, j < 144 → P j = E j) (hPb : ∀ j, 0 ≤ P j ∧ P j ≤ 32) : INs P (sN t 24) 24 := by
  have cg : ∀ (i : Nat) (w : Int), i < 24 → (i : Int) * 6 ≤ w → w < (i : Int) * 6 + 6 → P w.toNat = E w.toNat := fun i w h1 h2 h3 => hPE _ (by omega)
  have lb : ∀ i j : Nat, i < 24 → j < 24 → lbP E (i : Int) (j : Int) → lbP P (i : Int) (j : Int) := by
    rintro i j hi hj ⟨k, k0, k1, k2⟩
    refine ⟨k, k0, k1, ?_⟩
    rw [cg j _ hj (by omega) (by omega), cg i _ hi (by omega) (by omega)]
    exact k2
  refine ⟨hPb, fun i hi => ?_, fun i j hi hj hne => ?_⟩
  · have ti := (sN_iff t i).mp hi
    have i1 := ti.1
    obtain ⟨s1, s2, s3⟩ := ho.sides ti
    refine ⟨by omega, ?_, ?_, ?_⟩
    · rw [cg i _ (by omega) (by omega) (by omega), cg i _ (by omega) (by omega) (by omega)]; exact s1
    · rw [cg i _ (by omega) (by omega) (by omega), cg i _ (by omega) (by omega) (by omega)]; exact s2
    · rw [cg i _ (by omega) (by omega) (by omega), cg i _ (by omega) (by omega) (by omega)]; exact s3
  · have ti := (sN_iff t i).mp hi
    have tj := (sN_iff t j).mp hj
    have i1 := ti.1
    have j1 := tj.1
    obtain ⟨k, k0, k1, k2⟩ := hd (i : Int) (j : Int) ti tj (by omega)
    rcases k2 with k2 | k2
    · exact Or.inr (lb j i (by omega) (by omega) ⟨k, k0, k1, k2⟩)
    · exact Or.inl (lb i j (by omega) (by omega) ⟨k, k0, k1, k2⟩)
theorem led_load {P : Nat → Int} {S : Nat → Bool} {U V : Nat → Nat → Bool} {x : Nat} (hin : INs P S x) (hx : x ≤ 128) (hl : LD P S U V) : LEd P S U V := by
  intro i j hi hj
  have jx := (hin.2.1 j hj).1
  obtain ⟨h1, h2⟩ := hl i j hi (by omega)
  rw [h1, h2, hj, Bool.true_and, Bool.true_and, cvB_cvD hin.1 (hin.2.1 i hi).2 (hin.2.1 j hj).2 (fun e => hin.2.2 i j hi hj e), cvB_cvD hin.1 (hin.2.1 j hj).2 (hin.2.1 i hi).2 (fun e => hin.2.2 j i hj hi e)]
  exact ⟨rfl, rfl⟩
