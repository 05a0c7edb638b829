/-! the reference's relation, exactly: with, pairs, gather over all -/
def wiQ (X : Nat → Int) (p q i j : Nat) : Prop := 0 < X p ∧ ((i = p ∧ j < q ∧ j ≠ p ∧ X j ≠ 0 ∧ X j < X p) ∨ (j = p ∧ i < q ∧ i ≠ p ∧ X i ≠ 0 ∧ X p ≤ X i))
def exX (Q : Nat → Int) (A C q : Int) : Int := if Q (8 * q).toNat = -1 then 0 else mex (Q (8 * q + 1).toNat) (Q (8 * q + 1 + 1).toNat) (Q (8 * q + 1 + 2).toNat) (Q (8 * q + 1 + 3).toNat) (Q (8 * q + 1 + 4).toNat) (Q (8 * q + 1 + 5).toNat) A C
theorem az_inj {e : Option yE} {N : Nat} {F F' : Nat → Int} (h1 : e = some (az N F)) (h2 : e = some (az N F')) : F = F' := by
  rw [h1] at h2
  injection h2 with h2
  injection h2 with h2
  injection h2 with _ h2
  injection h2 with _ h2
  injection h2
section C80j
variable {l : Launch} {G : xG} {h h0 : yH} {n : Nat} {b : Nat} {g : yH} {i0 i1 i2 i3 i4 i5 i6 : Int} {B J : Nat → Int} {X C Q : Nat → Int}
/-- only the row of covers has changed: there is more in it by R -/
def PCo (b : Nat) (g h0 : yH) (n : Nat) (C : Nat → Int) (R : Nat → Nat → Prop) : Option xV → yH → Nat → Prop := fun r h' n' => ∃ C', r = none ∧ MI b g h' ∧ h' (b + 546) = some (az 16384 C') ∧ (∀ z, z ≠ b + 546 → h' z = h0 z) ∧ (∀ i j, i < 128 → j < 128 → (C' (128 * i + j) = 1 ↔ C (128 * i + j) = 1 ∨ R i j)) ∧ n' = n
theorem s_withE (hf : RF b g B J i0 i1 i2 i3 i4 i5 i6) {p : Nat} (p2 : p < 128) (e48 : h0 (b + 548) = some (ai 128 X)) (hXb : ∀ j, -100000 ≤ X j ∧ X j ≤ 100000) : ∀ (m : Nat) (q : Nat) (C' : Nat → Int) (h : yH), 128 - q < m → q ≤ 128 → MI b g h → h (b + 546) = some (az 16384 C') → (∀ z, z ≠ b + 546 → h z = h0 z) → (∀ i j, i < 128 → j < 128 → (C' (128 * i + j) = 1 ↔ C (128 * i + j) = 1 ∨ wiQ X p q i j)) → YW l G mX7_with 0 0 0 (PCo b g h0 n C (wiQ X p 128)) 2 [some (vr (b + 540)), some (vi (p : Int)), some (vi (q : Int))] [] h n := by
  intro m
  induction m with
  | zero => intro q C' h hm; exact absurd hm (Nat.not_lt_zero _)
  | succ m ih =>
    intro q C' h hmm j1 hI e46 hfr hC
    obtain ⟨hm, -⟩ := id hf
    have f48 : h (b + 548) = some (ai 128 X) := (hfr _ (by omega)).trans e48
    have cast : (q : Int) + 1 = ((q + 1 : Nat) : Int) := by omega
    have hp := hXb p
    have hq := hXb q
    have skip : (∀ i j, i < 128 → j < 128 → (wiQ X p (q + 1) i j → wiQ X p q i j)) → q < 128 → YW l G mX7_with 0 0 0 (PCo b g h0 n C (wiQ X p 128)) 2 [some (vr (b + 540)), some (vi (p : Int)), some (vi ((q : Int) + 1))] [] h n := fun w hq2 => by
      refine YW.Le (congrArg (fun z : Int => [some (vr (b + 540)), some (vi (p : Int)), some (vi z)]) cast) ?_
      refine ih (q + 1) C' h (by omega) (by omega) hI e46 hfr (fun i j hi hj => ?_)
      rw [hC i j hi hj]
      constructor
      · rintro (k | k)
        · exact Or.inl k
        · exact Or.inr ⟨k.1, k.2.imp (fun y => ⟨y.1, by omega, y.2.2⟩) (fun y => ⟨y.1, by omega, y.2.2⟩)⟩
      · rintro (k | k)
        · exact Or.inl k
        · exact Or.inr (w i j hi hj k)
    refine y_run kX7_with rfl ?_
    refine y_ic_ge kX7_with rfl rfl (fun c1 => ?_) (fun c1 => ?_)
    · have e : q = 128 := by omega
      subst e
      exact y_vr kX7_with rfl rfl ⟨C', rfl, hI, e46, hfr, hC, rfl⟩
    · refine y_run kX7_with rfl ?_
      refine m_get kX7_with (540) hI hm ?_
      refine y_run kX7_with rfl ?_
      refine y_ia kX7_with rfl f48 (by omega) (by omega) ?_
      rw [Int.toNat_natCast]
      refine y_if_le kX7_with rfl rfl (fun c2 => ?_) (fun c2 => ?_)
      · refine y_vr kX7_with rfl rfl ⟨C', rfl, hI, e46, hfr, fun i j hi hj => ?_, rfl⟩
        rw [hC i j hi hj]
        constructor
        · rintro (k | k)
          · exact Or.inl k
          · have := k.1; omega
        · rintro (k | k)
          · exact Or.inl k
          · have := k.1; omega
      · refine y_run kX7_with rfl ?_
        refine m_get kX7_with (540) hI hm ?_
        refine y_run kX7_with rfl ?_
        refine y_ia kX7_with rfl f48 (by omega) (by omega) ?_
        rw [Int.toNat_natCast]
        refine y_if_eq kX7_with rfl rfl (fun c3 => ?_) (fun c3 => ?_)
        · refine y_run kX7_with rfl ?_
          refine skip (fun i j hi hj k => ⟨k.1, k.2.imp (fun y => ⟨y.1, ?_, y.2.2⟩) (fun y => ⟨y.1, ?_, y.2.2⟩)⟩) (by omega)
          · have y1 := y.2.1
            have y2 := y.2.2.2.1
            by_cases z : j = q
            · subst z; exact absurd c3 y2
            · omega
          · have y1 := y.2.1
            have y2 := y.2.2.2.1
            by_cases z : i = q
            · subst z; exact absurd c3 y2
            · omega
        · refine y_run kX7_with rfl ?_
          refine y_ic_ne kX7_with rfl rfl (fun c4 => ?_) (fun c4 => ?_)
          · refine y_run kX7_with rfl ?_
            refine m_get kX7_with (540) hI hm ?_
            refine y_run kX7_with rfl ?_
            refine y_ia kX7_with rfl f48 (by omega) (by omega) ?_
            refine y_run kX7_with rfl ?_
            refine m_get kX7_with (540) hI hm ?_
            refine y_run kX7_with rfl ?_
            refine y_ia kX7_with rfl f48 (by omega) (by omega) ?_
            rw [Int.toNat_natCast, Int.toNat_natCast]
            have hCb : ∀ j, C' j = 0 ∨ C' j = 1 := by
              obtain ⟨F, e, hF⟩ := hI.z (k := 546) (N := 16384) (lo := 0) (hi := 0) rfl
              rw [az_inj e46 e]
              exact hF
            refine y_ic_le kX7_with rfl rfl (fun c5 => ?_) (fun c5 => ?_)
            · refine y_run kX7_with rfl ?_
              refine m_get kX7_with (540) hI hm ?_
              refine y_run kX7_with rfl ?_
              refine y_zs kX7_with rfl e46 (by omega) (by omega) (Or.inr rfl) ?_
              refine YW.genP (P := fun y => MI b g y ∧ y (b + 546) = some (az 16384 (upZ C' (128 * q + p) 1)) ∧ ∀ z, z ≠ b + 546 → y z = h0 z) ⟨hI.up (k := 546) rfl ⟨_, rfl, upZ_all (P := fun x => x = 0 ∨ x = 1) hCb _ (Or.inr rfl)⟩, by rw [show (128 * (q : Int) + (p : Int)).toNat = 128 * q + p by omega]; exact yup_eq _ _ _, fun z hz => (yup_ne _ _ hz).trans (hfr z hz)⟩ (fun h1 ⟨hI1, e1, hfr1⟩ => ?_)
              refine y_run kX7_with rfl ?_
              refine YW.Le (congrArg (fun z : Int => [some (vr (b + 540)), some (vi (p : Int)), some (vi z)]) cast) ?_
              refine ih (q + 1) _ h1 (by omega) (by omega) hI1 e1 hfr1 (fun i j hi hj => ?_)
              unfold upZ
              by_cases z : 128 * i + j = 128 * q + p
              · rw [if_pos z]
                have z1 : i = q := by omega
                have z2 : j = p := by omega
                subst z1 z2
                exact ⟨fun _ => Or.inr ⟨by omega, Or.inr ⟨rfl, by omega, by omega, c3, by omega⟩⟩, fun _ => rfl⟩
              · rw [if_neg z, hC i j hi hj]
                constructor
                · rintro (k | k)
                  · exact Or.inl k
                  · exact Or.inr ⟨k.1, k.2.imp (fun y => ⟨y.1, by omega, y.2.2⟩) (fun y => ⟨y.1, by omega, y.2.2⟩)⟩
                · rintro (k | k)
                  · exact Or.inl k
                  · refine Or.inr ⟨k.1, k.2.imp (fun y => ⟨y.1, ?_, y.2.2⟩) (fun y => ⟨y.1, ?_, y.2.2⟩)⟩
                    · have y1 := y.2.1
                      have y2 := y.2.2.2.2
                      by_cases w : j = q
                      · subst w; omega
                      · omega
                    · have y1 := y.2.1
                      have y2 := y.1
                      by_cases w : i = q
                      · subst w; omega
                      · omega
            · refine y_run kX7_with rfl ?_
              refine m_get kX7_with (540) hI hm ?_
              refine y_run kX7_with rfl ?_
              refine y_zs kX7_with rfl e46 (by omega) (by omega) (Or.inr rfl) ?_
              refine YW.genP (P := fun y => MI b g y ∧ y (b + 546) = some (az 16384 (upZ C' (128 * p + q) 1)) ∧ ∀ z, z ≠ b + 546 → y z = h0 z) ⟨hI.up (k := 546) rfl ⟨_, rfl, upZ_all (P := fun x => x = 0 ∨ x = 1) hCb _ (Or.inr rfl)⟩, by rw [show (128 * (p : Int) + (q : Int)).toNat = 128 * p + q by omega]; exact yup_eq _ _ _, fun z hz => (yup_ne _ _ hz).trans (hfr z hz)⟩ (fun h1 ⟨hI1, e1, hfr1⟩ => ?_)
              refine y_run kX7_with rfl ?_
              refine YW.Le (congrArg (fun z : Int => [some (vr (b + 540)), some (vi (p : Int)), some (vi z)]) cast) ?_
              refine ih (q + 1) _ h1 (by omega) (by omega) hI1 e1 hfr1 (fun i j hi hj => ?_)
              unfold upZ
              by_cases z : 128 * i + j = 128 * p + q
              · rw [if_pos z]
                have z1 : i = p := by omega
                have z2 : j = q := by omega
                subst z1 z2
                exact ⟨fun _ => Or.inr ⟨by omega, Or.inl ⟨rfl, by omega, by omega, c3, by omega⟩⟩, fun _ => rfl⟩
              · rw [if_neg z, hC i j hi hj]
                constructor
                · rintro (k | k)
                  · exact Or.inl k
                  · exact Or.inr ⟨k.1, k.2.imp (fun y => ⟨y.1, by omega, y.2.2⟩) (fun y => ⟨y.1, by omega, y.2.2⟩)⟩
                · rintro (k | k)
                  · exact Or.inl k
                  · refine Or.inr ⟨k.1, k.2.imp (fun y => ⟨y.1, ?_, y.2.2⟩) (fun y => ⟨y.1, ?_, y.2.2⟩)⟩
                    · have y1 := y.2.1
                      have y2 := y.1
                      by_cases w : j = q
                      · subst w; omega
                      · omega
                    · have y1 := y.2.1
                      have y2 := y.2.2.2.2
                      by_cases w : i = q
                      · subst w; omega
                      · omega
          · refine y_run kX7_with rfl ?_
            refine skip (fun i j hi hj k => ⟨k.1, k.2.imp (fun y => ⟨y.1, ?_, y.2.2⟩) (fun y => ⟨y.1, ?_, y.2.2⟩)⟩) (by omega)
            · have y1 := y.2.1
              have y2 := y.2.2.1
              omega
            · have y1 := y.2.1
              have y2 := y.2.2.1
              omega
theorem e_with (hf : RF b g B J i0 i1 i2 i3 i4 i5 i6) {p : Nat} (p2 : p < 128) (hI : MI b g h) (e48 : h (b + 548) = some (ai 128 X)) (e46 : h (b + 546) = some (az 16384 C)) : YM l G mX7_with 0 0 0 [vr (b + 540), vi (p : Int)] h n (PCo b g h n C (wiQ X p 128)) := by
  refine YM.of kX7_with (Nat.le_of_ble_eq_true rfl) (L0 := [some (vr (b + 540)), some (vi (p : Int)), none]) rfl ?_
  have hXb : ∀ j, -100000 ≤ X j ∧ X j ≤ 100000 := by
    obtain ⟨F, e, hF⟩ := hI.i (k := 548) (N := 128) (lo := -100000) (hi := 100000) rfl
    rw [ai_inj e48 e]
    exact hF
  refine y_run kX7_with rfl ?_
  refine YW.Le (congrArg (fun z : Int => [some (vr (b + 540)), some (vi (p : Int)), some (vi z)]) (show (0 : Int) = ((0 : Nat) : Int) by omega)) ?_
  refine s_withE hf p2 e48 hXb 129 0 C h (by omega) (by omega) hI e46 (fun _ _ => rfl) (fun i j _ _ => ⟨Or.inl, fun k => ?_⟩)
  rcases k with k | k
  · exact k
  · rcases k.2 with y | y
    · have := y.2.1; omega
    · have := y.2.1; omega
theorem s_pairsE (hf : RF b g B J i0 i1 i2 i3 i4 i5 i6) (e48 : h0 (b + 548) = some (ai 128 X)) (hXb : ∀ j, -100000 ≤ X j ∧ X j ≤ 100000) : ∀ (m : Nat) (q : Nat) (C' : Nat → Int) (h : yH), 128 - q < m → q ≤ 128 → MI b g h → h (b + 546) = some (az 16384 C') → (∀ z, z ≠ b + 546 → h z = h0 z) → (∀ i j, i < 128 → j < 128 → (C' (128 * i + j) = 1 ↔ C (128 * i + j) = 1 ∨ ∃ p, p < q ∧ wiQ X p 128 i j)) → YW l G mX7_pairs 1 0 0 (PCo b g h0 n C (fun i j => ∃ p, p < 128 ∧ wiQ X p 128 i j)) 2 [some (vr (b + 540)), some (vi (q : Int))] [] h n := by
  intro m
  induction m with
  | zero => intro q C' h hm; exact absurd hm (Nat.not_lt_zero _)
  | succ m ih =>
    intro q C' h hmm j1 hI e46 hfr hC
    obtain ⟨hm, -⟩ := id hf
    have f48 : h (b + 548) = some (ai 128 X) := (hfr _ (by omega)).trans e48
    have cast : (q : Int) + 1 = ((q + 1 : Nat) : Int) := by omega
    have hq := hXb q
    refine y_run kX7_pairs rfl ?_
    refine y_ic_ge kX7_pairs rfl rfl (fun c1 => ?_) (fun c1 => ?_)
    · have e : q = 128 := by omega
      subst e
      exact y_vr kX7_pairs rfl rfl ⟨C', rfl, hI, e46, hfr, hC, rfl⟩
    · refine y_run kX7_pairs rfl ?_
      refine m_get kX7_pairs (540) hI hm ?_
      refine y_run kX7_pairs rfl ?_
      refine y_ia kX7_pairs rfl f48 (by omega) (by omega) ?_
      rw [Int.toNat_natCast]
      refine y_if_le kX7_pairs rfl rfl (fun c2 => ?_) (fun c2 => ?_)
      · refine y_run kX7_pairs rfl ?_
        refine YW.Le (congrArg (fun z : Int => [some (vr (b + 540)), some (vi z)]) cast) ?_
        refine ih (q + 1) C' h (by omega) (by omega) hI e46 hfr (fun i j hi hj => ?_)
        rw [hC i j hi hj]
        constructor
        · rintro (k | ⟨p, p1, k⟩)
          · exact Or.inl k
          · exact Or.inr ⟨p, by omega, k⟩
        · rintro (k | ⟨p, p1, k⟩)
          · exact Or.inl k
          · by_cases z : p = q
            · subst z; have := k.1; omega
            · exact Or.inr ⟨p, by omega, k⟩
      · refine y_run kX7_pairs rfl ?_
        refine y_cv kX7_pairs kX7_with 1 rfl (hI.x (k := 540) rfl hm) (by decide +kernel) (e_with hf (p := q) (by omega) hI f48 e46) rfl rfl ?_
        rintro _ h1 _ ⟨C1, rfl, hI1, e1, hfr1, hC1, rfl⟩
        refine y_run kX7_pairs rfl ?_
        refine YW.Le (congrArg (fun z : Int => [some (vr (b + 540)), some (vi z)]) cast) ?_
        refine ih (q + 1) C1 h1 (by omega) (by omega) hI1 e1 (fun z hz => (hfr1 z hz).trans (hfr z hz)) (fun i j hi hj => ?_)
        rw [hC1 i j hi hj, hC i j hi hj]
        constructor
        · rintro ((k | ⟨p, p1, k⟩) | k)
          · exact Or.inl k
          · exact Or.inr ⟨p, by omega, k⟩
          · exact Or.inr ⟨q, by omega, k⟩
        · rintro (k | ⟨p, p1, k⟩)
          · exact Or.inl (Or.inl k)
          · by_cases z : p = q
            · subst z; exact Or.inr k
            · exact Or.inl (Or.inr ⟨p, by omega, k⟩)
theorem e_pairs (hf : RF b g B J i0 i1 i2 i3 i4 i5 i6) (hI : MI b g h) (e48 : h (b + 548) = some (ai 128 X)) (e46 : h (b + 546) = some (az 16384 C)) : YM l G mX7_pairs 1 0 0 [vr (b + 540)] h n (PCo b g h n C (fun i j => ∃ p, p < 128 ∧ wiQ X p 128 i j)) := by
  refine YM.of kX7_pairs (Nat.le_of_ble_eq_true rfl) (L0 := [some (vr (b + 540)), none]) rfl ?_
  have hXb : ∀ j, -100000 ≤ X j ∧ X j ≤ 100000 := by
    obtain ⟨F, e, hF⟩ := hI.i (k := 548) (N := 128) (lo := -100000) (hi := 100000) rfl
    rw [ai_inj e48 e]
    exact hF
  refine y_run kX7_pairs rfl ?_
  refine YW.Le (congrArg (fun z : Int => [some (vr (b + 540)), some (vi z)]) (show (0 : Int) = ((0 : Nat) : Int) by omega)) ?_
  refine s_pairsE hf e48 hXb 129 0 C h (by omega) (by omega) hI e46 (fun _ _ => rfl) (fun i j _ _ => ⟨Or.inl, fun k => ?_⟩)
  rcases k with k | ⟨p, p1, k⟩
  · exact k
  · omega
end C80j
