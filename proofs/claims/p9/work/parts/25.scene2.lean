def wayP (t : Int) (E T : Nat → Int) (v b : Int) : Prop := b ≠ v ∧ tbt t b.toNat = true ∧ ∀ j, 0 ≤ j → j < 3 → ovl E T b j
/-- the least number below 24 with P, or -1 -/
def least24 (P : Int → Prop) (z : Int) : Prop := (0 ≤ z ∧ z < 24 ∧ P z ∧ ∀ b, 0 ≤ b → b < z → ¬ P b) ∨ (z = -1 ∧ ∀ b, 0 ≤ b → b < 24 → ¬ P b)
theorem SC.frame1 {h h' : yH} {a : Nat} {t : Int} {E K R T : Nat → Int} (hs : SC h a t E K R T) (hq : ∀ q, a ≤ q → q < a + 5 → h' q = h q) : SC h' a t E K R T := by
  obtain ⟨h0, h1, h2, h3, h4⟩ := hs
  exact ⟨(hq _ (by omega) (by omega)).trans h0, (hq _ (by omega) (by omega)).trans h1, (hq _ (by omega) (by omega)).trans h2, (hq _ (by omega) (by omega)).trans h3, (hq _ (by omega) (by omega)).trans h4⟩
theorem SC.up0 {h : yH} {a : Nat} {t : Int} {E K R T : Nat → Int} (hs : SC h a t E K R T) (t' : Int) : SC (yup h a (ob 5 [vi t', vr (a + 1), vr (a + 2), vr (a + 3), vr (a + 4)])) a t' E K R T := by
  obtain ⟨h0, h1, h2, h3, h4⟩ := hs
  exact ⟨yup_eq _ _ _, (yup_ne _ _ (by omega)).trans h1, (yup_ne _ _ (by omega)).trans h2, (yup_ne _ _ (by omega)).trans h3, (yup_ne _ _ (by omega)).trans h4⟩
theorem SC.up1 {h : yH} {a : Nat} {t : Int} {E K R T : Nat → Int} (hs : SC h a t E K R T) (E' : Nat → Int) : SC (yup h (a + 1) (ai 144 E')) a t E' K R T := by
  obtain ⟨h0, h1, h2, h3, h4⟩ := hs
  exact ⟨(yup_ne _ _ (by omega)).trans h0, yup_eq _ _ _, (yup_ne _ _ (by omega)).trans h2, (yup_ne _ _ (by omega)).trans h3, (yup_ne _ _ (by omega)).trans h4⟩
theorem SC.up2 {h : yH} {a : Nat} {t : Int} {E K R T : Nat → Int} (hs : SC h a t E K R T) (K' : Nat → Int) : SC (yup h (a + 2) (ai 96 K')) a t E K' R T := by
  obtain ⟨h0, h1, h2, h3, h4⟩ := hs
  exact ⟨(yup_ne _ _ (by omega)).trans h0, (yup_ne _ _ (by omega)).trans h1, yup_eq _ _ _, (yup_ne _ _ (by omega)).trans h3, (yup_ne _ _ (by omega)).trans h4⟩
theorem SC.up3 {h : yH} {a : Nat} {t : Int} {E K R T : Nat → Int} (hs : SC h a t E K R T) (R' : Nat → Int) : SC (yup h (a + 3) (ai 64 R')) a t E K R' T := by
  obtain ⟨h0, h1, h2, h3, h4⟩ := hs
  exact ⟨(yup_ne _ _ (by omega)).trans h0, (yup_ne _ _ (by omega)).trans h1, (yup_ne _ _ (by omega)).trans h2, yup_eq _ _ _, (yup_ne _ _ (by omega)).trans h4⟩
theorem SC.up4 {h : yH} {a : Nat} {t : Int} {E K R T : Nat → Int} (hs : SC h a t E K R T) (T' : Nat → Int) : SC (yup h (a + 4) (ai 6 T')) a t E K R T' := by
  obtain ⟨h0, h1, h2, h3, h4⟩ := hs
  exact ⟨(yup_ne _ _ (by omega)).trans h0, (yup_ne _ _ (by omega)).trans h1, (yup_ne _ _ (by omega)).trans h2, (yup_ne _ _ (by omega)).trans h3, yup_eq _ _ _⟩
section C6
variable {l : Launch} {G : xG} {h : yH} {n : Nat}
theorem s_way {Φ : Option xV → yH → Nat → Prop} {a : Nat} {t v : Int} {E K R T : Nat → Int} (hs : SC h a t E K R T) (hv : inI v) (hE : ∀ k, sm (E k)) (hT : ∀ k, sm (T k)) (hΦ : ∀ z, least24 (wayP t E T v) z → Φ (some (vi z)) h n) :
    ∀ (m : Nat) (x : Int), x = 24 - (m : Int) → 0 ≤ x → (∀ b, 0 ≤ b → b < x → ¬ wayP t E T v b) → YW l G mX5_lowestInTheWay 2 0 0 Φ 2 [some (vr a), some (vi v), some (vi x)] [] h n := by
  obtain ⟨hv1, hv2⟩ := hv
  intro m
  induction m with
  | zero =>
    intro x hx h0 hi
    have e : x = 24 := by omega
    subst e
    refine y_run kX5_lowestInTheWay rfl ?_
    refine y_ic_ge kX5_lowestInTheWay rfl rfl (fun c1 => ?_) (fun c1 => absurd c1 (by omega))
    refine y_run kX5_lowestInTheWay rfl ?_
    exact y_ir kX5_lowestInTheWay rfl rfl (hΦ _ (Or.inr ⟨rfl, hi⟩))
  | succ m ih =>
    intro x hx h0 hi
    have nxt : ¬ wayP t E T v x → YW l G mX5_lowestInTheWay 2 0 0 Φ 2 [some (vr a), some (vi v), some (vi (x + 1))] [] h n := fun q => ih (x + 1) (by omega) (by omega) (fun b b0 b1 => by
      by_cases c : b = x
      · subst c; exact q
      · exact hi b b0 (by omega))
    refine y_run kX5_lowestInTheWay rfl ?_
    refine y_ic_ge kX5_lowestInTheWay rfl rfl (fun c1 => absurd c1 (by omega)) (fun c1 => ?_)
    refine y_run kX5_lowestInTheWay rfl ?_
    refine y_ic_eq kX5_lowestInTheWay rfl rfl (fun c2 => ?_) (fun c2 => ?_)
    · refine y_run kX5_lowestInTheWay rfl ?_
      exact nxt (fun q => q.1 c2)
    · refine y_run kX5_lowestInTheWay rfl ?_
      refine y_cv kX5_lowestInTheWay kX5_has 1 (rest := []) rfl hs.1 (by decide +kernel) (c_Shas hs (v := x) ⟨by omega, by omega⟩) rfl rfl ?_
      rintro r h' n' ⟨rfl, rfl, rfl⟩
      refine y_if_eq kX5_lowestInTheWay rfl rfl (fun c3 => ?_) (fun c3 => ?_) (by split <;> omega) (by split <;> omega)
      · refine y_run kX5_lowestInTheWay rfl ?_
        refine nxt (fun q => ?_)
        rw [if_pos ⟨⟨h0, by omega⟩, q.2.1⟩] at c3
        omega
      · have hb : tbt t x.toNat = true := by
          by_cases c : (0 ≤ x ∧ x < 24) ∧ tbt t x.toNat = true
          · exact c.2
          · rw [if_neg c] at c3; omega
        refine y_run kX5_lowestInTheWay rfl ?_
        refine y_cv kX5_lowestInTheWay kX5_sharesRoom 1 (rest := []) rfl hs.1 (by decide +kernel) (c_SsharesRoom hs (b := x) (by omega) (by omega) hE hT) rfl rfl ?_
        rintro r h' n' ⟨hr, rfl, rfl⟩
        rcases hr with ⟨rfl, hr⟩ | ⟨rfl, hr⟩
        · refine y_if_eq kX5_lowestInTheWay rfl rfl (fun c4 => absurd c4 (by omega)) (fun c4 => ?_)
          refine y_run kX5_lowestInTheWay rfl ?_
          exact y_ir kX5_lowestInTheWay rfl rfl (hΦ _ (Or.inl ⟨h0, by omega, ⟨c2, hb, hr⟩, hi⟩))
        · refine y_if_eq kX5_lowestInTheWay rfl rfl (fun c4 => ?_) (fun c4 => absurd rfl c4)
          refine y_run kX5_lowestInTheWay rfl ?_
          exact nxt (fun q => hr q.2.2)
theorem c_Slowest {a : Nat} {t v : Int} {E K R T : Nat → Int} (hs : SC h a t E K R T) (hv : inI v) (hE : ∀ k, sm (E k)) (hT : ∀ k, sm (T k)) : YM l G mX5_lowestInTheWay 2 0 0 [vr a, vi v] h n (fun r h' n' => (∃ z, r = some (vi z) ∧ least24 (wayP t E T v) z) ∧ h' = h ∧ n' = n) := by
  refine YM.of kX5_lowestInTheWay (Nat.le_of_ble_eq_true rfl) (L0 := [some (vr a), some (vi v), none]) rfl ?_
  refine y_run kX5_lowestInTheWay rfl ?_
  exact s_way hs hv hE hT (fun z hz => ⟨⟨z, rfl, hz⟩, rfl, rfl⟩) 24 0 (by omega) (by omega) (fun b b0 b1 => absurd b1 (by omega))
/-- the looks of a box all 0 -/
def lk0 (K : Nat → Int) (v : Int) : Nat → Int := upZ (upZ (upZ (upZ K (v * 4).toNat 0) (v * 4 + 1).toNat 0) (v * 4 + 2).toNat 0) (v * 4 + 3).toNat 0
theorem c_Ssettle {a : Nat} {t v : Int} {E K R T : Nat → Int} (hs : SC h a t E K R T) (h1 : 0 ≤ v) (h2 : v < 24) : YM l G mX5_settle 2 0 0 [vr a, vi v] h n (fun r h' n' => r = none ∧ SC h' a (if tbt t v.toNat then t else yor t (yshl 1 v)) (cpZ T E 0 (v * 6).toNat 6) (if tbt t v.toNat then K else lk0 K v) R T ∧ (∀ q, q < a ∨ a + 5 ≤ q → h' q = h q) ∧ n' = n) := by
  refine YM.of kX5_settle (Nat.le_of_ble_eq_true rfl) (L0 := [some (vr a), some (vi v)]) rfl ?_
  refine y_run kX5_settle rfl ?_
  refine y_cv kX5_settle kX5_has 1 (rest := []) rfl hs.1 (by decide +kernel) (c_Shas hs (v := v) ⟨by omega, by omega⟩) rfl rfl ?_
  rintro r h' n' ⟨rfl, rfl, rfl⟩
  refine y_if_ne kX5_settle rfl rfl (fun c1 => ?_) (fun c1 => ?_) (by split <;> omega) (by split <;> omega)
  · have hb : tbt t v.toNat = true := by
      by_cases c : (0 ≤ v ∧ v < 24) ∧ tbt t v.toNat = true
      · exact c.2
      · rw [if_neg c] at c1; omega
    refine y_run kX5_settle rfl ?_
    refine y_get kX5_settle rfl rfl hs.1 rfl ?_
    refine y_run kX5_settle rfl ?_
    refine y_get kX5_settle rfl rfl hs.1 rfl ?_
    refine y_run kX5_settle rfl ?_
    refine y_copy kX5_settle rfl (by decide +kernel) hs.2.2.2.2 hs.2.1 (by omega) (by omega) (by omega) (by omega) (by omega) (by omega) (by omega) ?_
    refine y_vr kX5_settle rfl rfl ⟨rfl, ?_, fun q hq => yup_ne _ _ (by omega), rfl⟩
    rw [if_pos hb, if_pos hb]
    exact hs.up1 _
  · have hb : ¬ tbt t v.toNat = true := fun q => by
      rw [if_pos ⟨⟨h1, h2⟩, q⟩] at c1
      omega
    refine y_run kX5_settle rfl ?_
    refine y_cv kX5_settle kX5_setLooks 5 (rest := []) rfl hs.1 (by decide +kernel) (c_SsetLooks hs (v := v) (c := 0) (p := 0) (q := 0) (u := 0) h1 h2) rfl rfl ?_
    rintro r h' n' ⟨rfl, rfl, rfl⟩
    have hs2 := hs.up2 (lk0 K v)
    refine y_run kX5_settle rfl ?_
    refine y_get kX5_settle rfl rfl hs2.1 rfl ?_
    refine y_run kX5_settle rfl ?_
    refine y_put kX5_settle rfl rfl hs2.1 rfl rfl rfl ?_
    have hs3 := hs2.up0 (yor t (yshl 1 v))
    refine y_run kX5_settle rfl ?_
    refine y_get kX5_settle rfl rfl hs3.1 rfl ?_
    refine y_run kX5_settle rfl ?_
    refine y_get kX5_settle rfl rfl hs3.1 rfl ?_
    refine y_run kX5_settle rfl ?_
    refine y_copy kX5_settle rfl (by decide +kernel) hs3.2.2.2.2 hs3.2.1 (by omega) (by omega) (by omega) (by omega) (by omega) (by omega) (by omega) ?_
    refine y_vr kX5_settle rfl rfl ⟨rfl, ?_, fun q hq => ?_, rfl⟩
    · rw [if_neg hb, if_neg hb]
      exact hs3.up1 _
    · exact (yup_ne _ _ (by omega)).trans ((yup_ne _ _ (by omega)).trans (yup_ne _ _ (by omega)))
end C6
