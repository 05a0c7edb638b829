/-! the reference -/
/-- its object: where its rows lie, and its numbers -/
def mo (c : Nat) (i0 i1 i2 i3 i4 i5 i6 : Int) : yE := ob 7 [vr (c + 1), vr (c + 2), vr (c + 3), vr (c + 4), vr (c + 5), vr (c + 6), vr (c + 7), vr (c + 8), vr (c + 9), vr (c + 10), vi i0, vi i1, vi i2, vi i3, vi i4, vi i5, vr (c + 11), vr (c + 12), vr (c + 13), vr (c + 14), vr (c + 15), vi i6]
section C20
variable {l : Launch} {G : xG} {h : yH} {n : Nat}
theorem c_in (v b : Int) (hv : inI v) (hb : inI b) : YM l G mX7_in 0 0 0 [vi v, vi b] h n (fun r h' n' => r = some (vi (if 0 ≤ v ∧ v < b then 1 else 0)) ∧ h' = h ∧ n' = n) := by
  refine YM.of kX7_in (Nat.le_of_ble_eq_true rfl) (L0 := [some (vi v), some (vi b)]) rfl ?_
  obtain ⟨_, _⟩ := hv
  obtain ⟨_, _⟩ := hb
  refine y_run kX7_in rfl ?_
  refine y_if_lt kX7_in rfl rfl (fun c1 => ?_) (fun c1 => ?_)
  · refine y_run kX7_in rfl ?_
    refine y_zr kX7_in rfl rfl (Or.inl rfl) ?_
    exact ⟨by rw [if_neg (by omega)], rfl, rfl⟩
  · refine y_run kX7_in rfl ?_
    refine y_ic_ge kX7_in rfl rfl (fun c2 => ?_) (fun c2 => ?_)
    · refine y_run kX7_in rfl ?_
      refine y_zr kX7_in rfl rfl (Or.inl rfl) ?_
      exact ⟨by rw [if_neg (by omega)], rfl, rfl⟩
    · refine y_run kX7_in rfl ?_
      refine y_zr kX7_in rfl rfl (Or.inr rfl) ?_
      exact ⟨by rw [if_pos (by omega)], rfl, rfl⟩
theorem c_mlies {f s : Int} (hf : inI f) (hs : inI s) : YM l G mX7_lies 0 0 0 [vi f, vi s] h n (fun r h' n' => ((r = some (vi 1) ∧ lies f s) ∨ (r = some (vi 0) ∧ ¬ lies f s)) ∧ h' = h ∧ n' = n) := by
  refine YM.of kX7_lies (Nat.le_of_ble_eq_true rfl) (L0 := [some (vi f), some (vi s)]) rfl ?_
  obtain ⟨_, _⟩ := hf
  obtain ⟨_, _⟩ := hs
  refine y_run kX7_lies rfl ?_
  refine y_if_lt kX7_lies rfl rfl (fun c1 => ?_) (fun c1 => ?_)
  · refine y_run kX7_lies rfl ?_
    refine y_zr kX7_lies rfl rfl (Or.inl rfl) ?_
    exact ⟨Or.inr ⟨rfl, fun q => by unfold lies at q; omega⟩, rfl, rfl⟩
  · refine y_run kX7_lies rfl ?_
    refine y_ic_ge kX7_lies rfl rfl (fun c2 => ?_) (fun c2 => ?_)
    · refine y_run kX7_lies rfl ?_
      refine y_zr kX7_lies rfl rfl (Or.inl rfl) ?_
      exact ⟨Or.inr ⟨rfl, fun q => by unfold lies at q; omega⟩, rfl, rfl⟩
    · refine y_run kX7_lies rfl ?_
      refine y_if_le kX7_lies rfl rfl (fun c3 => ?_) (fun c3 => ?_)
      · refine y_run kX7_lies rfl ?_
        refine y_zr kX7_lies rfl rfl (Or.inl rfl) ?_
        exact ⟨Or.inr ⟨rfl, fun q => by unfold lies at q; omega⟩, rfl, rfl⟩
      · refine y_run kX7_lies rfl ?_
        refine y_ic_gt kX7_lies rfl rfl (fun c4 => ?_) (fun c4 => ?_)
        · refine y_run kX7_lies rfl ?_
          refine y_zr kX7_lies rfl rfl (Or.inl rfl) ?_
          exact ⟨Or.inr ⟨rfl, fun q => by unfold lies at q; omega⟩, rfl, rfl⟩
        · refine y_run kX7_lies rfl ?_
          refine y_zr kX7_lies rfl rfl (Or.inr rfl) ?_
          exact ⟨Or.inl ⟨rfl, by omega, by omega, by omega, by omega⟩, rfl, rfl⟩
/-- box n is there, in the reference -/
def mT (B : Nat → Int) (v : Int) : Prop := (0 ≤ v ∧ v < 24) ∧ B (11 * v).toNat = 1
theorem c_isThere {c : Nat} {v i0 i1 i2 i3 i4 i5 i6 : Int} {B : Nat → Int} (hm : h c = some (mo c i0 i1 i2 i3 i4 i5 i6)) (hB : h (c + 1) = some (ai 264 B)) (hsm : ∀ j, sm (B j)) (hv : inI v) : YM l G mX7_isThere 1 0 0 [vr c, vi v] h n (fun r h' n' => ((r = some (vi 1) ∧ mT B v) ∨ (r = some (vi 0) ∧ ¬ mT B v)) ∧ h' = h ∧ n' = n) := by
  refine YM.of kX7_isThere (Nat.le_of_ble_eq_true rfl) (L0 := [some (vr c), some (vi v)]) rfl ?_
  refine y_run kX7_isThere rfl ?_
  refine y_cs kX7_isThere kX7_in 2 (rest := []) rfl (by decide +kernel) (c_in v 24 hv ⟨by omega, by omega⟩) rfl rfl ?_
  rintro r h' n' ⟨rfl, rfl, rfl⟩
  refine y_beq kX7_isThere rfl rfl (fun c1 => ?_) (fun c1 => ?_)
  · refine y_run kX7_isThere rfl ?_
    exact y_zr kX7_isThere rfl rfl (Or.inl rfl) ⟨Or.inr ⟨rfl, fun q => c1 q.1⟩, rfl, rfl⟩
  · obtain ⟨s1, s2⟩ := hsm (11 * v).toNat
    refine y_run kX7_isThere rfl ?_
    refine y_get kX7_isThere rfl rfl hm rfl ?_
    refine y_run kX7_isThere rfl ?_
    refine y_ia kX7_isThere rfl hB (by omega) (by omega) ?_
    refine y_run kX7_isThere rfl ?_
    refine y_ic_ne kX7_isThere rfl rfl (fun c2 => ?_) (fun c2 => ?_)
    · refine y_run kX7_isThere rfl ?_
      exact y_zr kX7_isThere rfl rfl (Or.inl rfl) ⟨Or.inr ⟨rfl, fun q => c2 q.2⟩, rfl, rfl⟩
    · refine y_run kX7_isThere rfl ?_
      exact y_zr kX7_isThere rfl rfl (Or.inr rfl) ⟨Or.inl ⟨rfl, c1, c2⟩, rfl, rfl⟩
def movl (B T : Nat → Int) (b d : Int) : Prop := T d.toNat < B (11 * b + 2 + d).toNat ∧ B (11 * b + 1 + d).toNat < T (d + 1).toNat
def mway (B T : Nat → Int) (v b : Int) : Prop := b ≠ v ∧ mT B b ∧ movl B T b 0 ∧ movl B T b 2 ∧ movl B T b 4
theorem s_mstep {Φ : Option xV → yH → Nat → Prop} {c e : Nat} {v q z d i0 i1 i2 i3 i4 i5 i6 : Int} {B T : Nat → Int} (hm : h c = some (mo c i0 i1 i2 i3 i4 i5 i6)) (hB : h (c + 1) = some (ai 264 B)) (hT : h e = some (ai 6 T)) (hsm : ∀ j, sm (B j)) (hsT : ∀ j, sm (T j)) (hq : 0 ≤ q) (hq2 : q < 24) (hd : d = 0 ∨ d = 2 ∨ d = 4) (hz : z = 0 ∨ z = 1)
    (k1 : z = 1 → movl B T q d → YW l G mX7_meets 2 0 0 Φ 30 [some (vr c), some (vi v), some (vr e), some (vi q), some (vi 1), some (vi (d + 2))] [] h n)
    (k0 : ¬ (z = 1 ∧ movl B T q d) → YW l G mX7_meets 2 0 0 Φ 30 [some (vr c), some (vi v), some (vr e), some (vi q), some (vi 0), some (vi (d + 2))] [] h n) :
    YW l G mX7_meets 2 0 0 Φ 30 [some (vr c), some (vi v), some (vr e), some (vi q), some (vi z), some (vi d)] [] h n := by
  obtain ⟨_, _⟩ := hsm (11 * q + 2 + d).toNat
  obtain ⟨_, _⟩ := hsm (11 * q + 1 + d).toNat
  obtain ⟨_, _⟩ := hsT d.toNat
  obtain ⟨_, _⟩ := hsT (d + 1).toNat
  refine y_run kX7_meets rfl ?_
  refine y_ic_ge kX7_meets rfl rfl (fun c1 => absurd c1 (by omega)) (fun c1 => ?_)
  refine y_run kX7_meets rfl ?_
  refine y_if_eq kX7_meets rfl rfl (fun c2 => ?_) (fun c2 => ?_)
  · refine y_run kX7_meets rfl ?_
    exact k0 (fun g => by omega)
  · refine y_run kX7_meets rfl ?_
    refine y_ia kX7_meets rfl hT (by omega) (by omega) ?_
    refine y_run kX7_meets rfl ?_
    refine y_get kX7_meets rfl rfl hm rfl ?_
    refine y_run kX7_meets rfl ?_
    refine y_ia kX7_meets rfl hB (by omega) (by omega) ?_
    refine y_ic_ge kX7_meets rfl rfl (fun c3 => ?_) (fun c3 => ?_)
    · refine y_run kX7_meets rfl ?_
      exact k0 (fun g => absurd g.2.1 (by omega))
    · refine y_run kX7_meets rfl ?_
      refine y_get kX7_meets rfl rfl hm rfl ?_
      refine y_run kX7_meets rfl ?_
      refine y_ia kX7_meets rfl hB (by omega) (by omega) ?_
      refine y_run kX7_meets rfl ?_
      refine y_ia kX7_meets rfl hT (by omega) (by omega) ?_
      refine y_ic_ge kX7_meets rfl rfl (fun c4 => ?_) (fun c4 => ?_)
      · refine y_run kX7_meets rfl ?_
        exact k0 (fun g => absurd g.2.2 (by omega))
      · refine y_run kX7_meets rfl ?_
        exact k1 (by omega) ⟨c3, c4⟩
theorem s_meets {Φ : Option xV → yH → Nat → Prop} {c e : Nat} {v i0 i1 i2 i3 i4 i5 i6 : Int} {B T : Nat → Int} (hm : h c = some (mo c i0 i1 i2 i3 i4 i5 i6)) (hB : h (c + 1) = some (ai 264 B)) (hT : h e = some (ai 6 T)) (hsm : ∀ j, sm (B j)) (hsT : ∀ j, sm (T j)) (hv : inI v) (hΦ : ∀ z, least24 (mway B T v) z → Φ (some (vi z)) h n) :
    ∀ (m : Nat) (x : Int) (u4 u5 : Option xV), x = 24 - (m : Int) → 0 ≤ x → (∀ b, 0 ≤ b → b < x → ¬ mway B T v b) → YW l G mX7_meets 2 0 0 Φ 2 [some (vr c), some (vi v), some (vr e), some (vi x), u4, u5] [] h n := by
  obtain ⟨hv1, hv2⟩ := hv
  intro m
  induction m with
  | zero =>
    intro x u4 u5 hx h0 hi
    have ex : x = 24 := by omega
    subst ex
    refine y_run kX7_meets rfl ?_
    refine y_ic_ge kX7_meets rfl rfl (fun c1 => ?_) (fun c1 => absurd c1 (by omega))
    refine y_run kX7_meets rfl ?_
    exact y_ir kX7_meets rfl rfl (hΦ _ (Or.inr ⟨rfl, hi⟩))
  | succ m ih =>
    intro x u4 u5 hx h0 hi
    have nxt : ¬ mway B T v x → ∀ u4 u5, YW l G mX7_meets 2 0 0 Φ 2 [some (vr c), some (vi v), some (vr e), some (vi (x + 1)), u4, u5] [] h n := fun q u4 u5 => ih (x + 1) u4 u5 (by omega) (by omega) (fun b b0 b1 => by
      by_cases cb : b = x
      · subst cb; exact q
      · exact hi b b0 (by omega))
    refine y_run kX7_meets rfl ?_
    refine y_ic_ge kX7_meets rfl rfl (fun c1 => absurd c1 (by omega)) (fun c1 => ?_)
    refine y_run kX7_meets rfl ?_
    refine y_ic_eq kX7_meets rfl rfl (fun c2 => ?_) (fun c2 => ?_)
    · refine y_run kX7_meets rfl ?_
      exact nxt (fun q => q.1 c2) _ _
    · refine y_run kX7_meets rfl ?_
      refine y_cv kX7_meets kX7_isThere 1 (rest := []) rfl hm (by decide +kernel) (c_isThere hm hB hsm (v := x) ⟨by omega, by omega⟩) rfl rfl ?_
      rintro r h' n' ⟨hr, rfl, rfl⟩
      rcases hr with ⟨rfl, hr⟩ | ⟨rfl, hr⟩
      · refine y_if_ne kX7_meets rfl rfl (fun _ => ?_) (fun q => absurd q (by omega))
        refine y_run kX7_meets rfl ?_
        have fin1 : movl B T x 0 ∧ movl B T x 2 ∧ movl B T x 4 → YW l G mX7_meets 2 0 0 Φ 30 [some (vr c), some (vi v), some (vr e), some (vi x), some (vi 1), some (vi 6)] [] h' n' := fun g => by
          refine y_run kX7_meets rfl ?_
          refine y_ic_ge kX7_meets rfl rfl (fun _ => ?_) (fun c3 => absurd c3 (by omega))
          refine y_run kX7_meets rfl ?_
          refine y_if_eq kX7_meets rfl rfl (fun q => absurd q (by omega)) (fun _ => ?_)
          refine y_run kX7_meets rfl ?_
          exact y_ir kX7_meets rfl rfl (hΦ _ (Or.inl ⟨h0, by omega, ⟨c2, hr, g⟩, hi⟩))
        have fin0 : ¬ (movl B T x 0 ∧ movl B T x 2 ∧ movl B T x 4) → YW l G mX7_meets 2 0 0 Φ 30 [some (vr c), some (vi v), some (vr e), some (vi x), some (vi 0), some (vi 6)] [] h' n' := fun g => by
          refine y_run kX7_meets rfl ?_
          refine y_ic_ge kX7_meets rfl rfl (fun _ => ?_) (fun c3 => absurd c3 (by omega))
          refine y_run kX7_meets rfl ?_
          refine y_if_eq kX7_meets rfl rfl (fun _ => ?_) (fun q => absurd rfl q)
          refine y_run kX7_meets rfl ?_
          exact nxt (fun q => g q.2.2) _ _
        have st := fun {z d : Int} (hd : d = 0 ∨ d = 2 ∨ d = 4) (hz : z = 0 ∨ z = 1) => s_mstep (l := l) (G := G) (n := n') (Φ := Φ) (v := v) (q := x) (z := z) (d := d) hm hB hT hsm hsT h0 (by omega) hd hz
        refine st (Or.inl rfl) (Or.inr rfl) (fun _ m0 => ?_) (fun m0 => ?_)
        · refine st (Or.inr (Or.inl rfl)) (Or.inr rfl) (fun _ m2 => ?_) (fun m2 => ?_)
          · refine st (Or.inr (Or.inr rfl)) (Or.inr rfl) (fun _ m4 => fin1 ⟨m0, m2, m4⟩) (fun m4 => fin0 (fun g => m4 ⟨rfl, g.2.2⟩))
          · exact st (Or.inr (Or.inr rfl)) (Or.inl rfl) (fun q => absurd q (by omega)) (fun _ => fin0 (fun g => m2 ⟨rfl, g.2.1⟩))
        · refine st (Or.inr (Or.inl rfl)) (Or.inl rfl) (fun q => absurd q (by omega)) (fun _ => ?_)
          exact st (Or.inr (Or.inr rfl)) (Or.inl rfl) (fun q => absurd q (by omega)) (fun _ => fin0 (fun g => m0 ⟨rfl, g.1⟩))
      · refine y_if_ne kX7_meets rfl rfl (fun q => absurd rfl q) (fun _ => ?_)
        refine y_run kX7_meets rfl ?_
        exact nxt (fun q => hr q.2.1) _ _
theorem c_meets {c e : Nat} {v i0 i1 i2 i3 i4 i5 i6 : Int} {B T : Nat → Int} (hm : h c = some (mo c i0 i1 i2 i3 i4 i5 i6)) (hB : h (c + 1) = some (ai 264 B)) (hT : h e = some (ai 6 T)) (hsm : ∀ j, sm (B j)) (hsT : ∀ j, sm (T j)) (hv : inI v) : YM l G mX7_meets 2 0 0 [vr c, vi v, vr e] h n (fun r h' n' => (∃ z, r = some (vi z) ∧ least24 (mway B T v) z) ∧ h' = h ∧ n' = n) := by
  refine YM.of kX7_meets (Nat.le_of_ble_eq_true rfl) (L0 := [some (vr c), some (vi v), some (vr e), none, none, none]) rfl ?_
  refine y_run kX7_meets rfl ?_
  exact s_meets hm hB hT hsm hsT hv (fun z hz => ⟨⟨z, rfl, hz⟩, rfl, rfl⟩) 24 0 none none (by omega) (by omega) (fun b b0 b1 => absurd b1 (by omega))
end C20
