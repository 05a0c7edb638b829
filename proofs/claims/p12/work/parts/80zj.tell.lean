theorem vR_b (p : Int) {k : Nat} (hk : k < 8192) : -1000 ≤ vR p k ∧ vR p k ≤ 1000 := by
  unfold vR
  split <;> omega
section C80zj
variable {l : Launch} {G : xG} {h : yH} {n : Nat} {b : Nat} {g : yH} {i0 i1 i2 i3 i4 i5 i6 : Int} {B J Pc Pf : Nat → Int}
theorem s_mchangedE (hf : RF b g B J i0 i1 i2 i3 i4 i5 i6) {p : Int} (p3 : 0 ≤ p) (p4 : p < 5) (e51 : h (b + 551) = some (ai 8192 Pc)) (e52 : h (b + 552) = some (ai 8192 Pf)) (hI : MI b g h) : ∀ (m : Nat) (q : Nat) (a : Int) (x : Int) (y : Int) (u6 : Option xV), 8192 - q < m → q ≤ 8192 → a = (crd (dR Pc Pf) q : Int) → EXT (dR Pc Pf) (vR p) q x y → YW l G mX7_changed 1 0 0 (fun r h' n' => (∃ a x y, a = (crd (dR Pc Pf) 8192 : Int) ∧ EXT (dR Pc Pf) (vR p) 8192 x y ∧ r = some (vi (if p = 0 then a else if p % 2 = 1 then x else y))) ∧ h' = h ∧ n' = n) 22 [some (vr (b + 540)), some (vi p), some (vi a), some (vi x), some (vi y), some (vi (q : Int)), u6] [] h n := by
  intro m
  induction m with
  | zero => intro q a x y u6 hm; exact absurd hm (Nat.not_lt_zero _)
  | succ m ih =>
    intro q a x y u6 hmm j1 ha hE
    obtain ⟨hm, hB, hJ, hBb, hBs, hBc, hJb, hi1, hi2, hi3, hi4⟩ := id hf
    have eb := hE.b (A := -1000) (B := 1000) (fun k hk => vR_b p (by omega)) (by omega) (by omega)
    have cb := crd_le (dR Pc Pf) q
    have bPc : ∀ j, -1 ≤ Pc j ∧ Pc j ≤ 100000 := by
      obtain ⟨F, e, hF⟩ := hI.i (k := 551) (N := 8192) (lo := -1) (hi := 100000) rfl
      rw [ai_inj e51 e]; exact hF
    have bPf : ∀ j, -1 ≤ Pf j ∧ Pf j ≤ 100000 := by
      obtain ⟨F, e, hF⟩ := hI.i (k := 552) (N := 8192) (lo := -1) (hi := 100000) rfl
      rw [ai_inj e52 e]; exact hF
    have b1 := bPc q
    have b2 := bPf q
    have nc : ∀ (u6 : Option xV), dR Pc Pf q = false → q < 8192 → YW l G mX7_changed 1 0 0 (fun r h' n' => (∃ a x y, a = (crd (dR Pc Pf) 8192 : Int) ∧ EXT (dR Pc Pf) (vR p) 8192 x y ∧ r = some (vi (if p = 0 then a else if p % 2 = 1 then x else y))) ∧ h' = h ∧ n' = n) 22 [some (vr (b + 540)), some (vi p), some (vi a), some (vi x), some (vi y), some (vi ((q : Int) + 1)), u6] [] h n := fun u6 hd hq => by
      refine YW.Le (congrArg (fun z : Int => [some (vr (b + 540)), some (vi p), some (vi a), some (vi x), some (vi y), some (vi z), u6]) (show (q : Int) + 1 = ((q + 1 : Nat) : Int) by omega)) ?_
      exact ih (q + 1) a x y u6 (by omega) (by omega) (by rw [crd_n _ hd]; exact ha) (hE.no hd)
    have cl : ∀ (u6 : Option xV) (x' y' : Int), dR Pc Pf q = true → x' = (if crd (dR Pc Pf) q = 0 then vR p q else min x (vR p q)) → y' = (if crd (dR Pc Pf) q = 0 then vR p q else max y (vR p q)) → q < 8192 → YW l G mX7_changed 1 0 0 (fun r h' n' => (∃ a x y, a = (crd (dR Pc Pf) 8192 : Int) ∧ EXT (dR Pc Pf) (vR p) 8192 x y ∧ r = some (vi (if p = 0 then a else if p % 2 = 1 then x else y))) ∧ h' = h ∧ n' = n) 22 [some (vr (b + 540)), some (vi p), some (vi (a + 1)), some (vi x'), some (vi y'), some (vi ((q : Int) + 1)), u6] [] h n := fun u6 x' y' hd ex ey hq => by
      refine YW.Le (congrArg (fun z : Int => [some (vr (b + 540)), some (vi p), some (vi (a + 1)), some (vi x'), some (vi y'), some (vi z), u6]) (show (q : Int) + 1 = ((q + 1 : Nat) : Int) by omega)) ?_
      refine ih (q + 1) (a + 1) x' y' u6 (by omega) (by omega) (by rw [crd_y _ hd]; omega) ?_
      rw [ex, ey]
      exact hE.yes hd
    refine y_run kX7_changed rfl ?_
    refine y_ic_ge kX7_changed rfl rfl (fun c1 => ?_) (fun c1 => ?_)
    · have eq8 : q = 8192 := by omega
      have ha' : a = (crd (dR Pc Pf) 8192 : Int) := by rw [← eq8]; exact ha
      have hE' : EXT (dR Pc Pf) (vR p) 8192 x y := by rw [← eq8]; exact hE
      refine y_run kX7_changed rfl ?_
      refine y_if_ne kX7_changed rfl rfl (fun c2 => ?_) (fun c2 => ?_)
      · refine y_run kX7_changed rfl ?_
        refine y_irem kX7_changed rfl (by omega) (by omega) (by omega) (by omega) ?_
        refine y_run kX7_changed rfl ?_
        refine y_ic_ne kX7_changed rfl rfl (fun c3 => ?_) (fun c3 => ?_)
        · refine y_run kX7_changed rfl ?_
          exact y_ir kX7_changed rfl rfl ⟨⟨a, x, y, ha', hE', by rw [if_neg c2, if_neg c3]⟩, rfl, rfl⟩
        · refine y_run kX7_changed rfl ?_
          exact y_ir kX7_changed rfl rfl ⟨⟨a, x, y, ha', hE', by rw [if_neg c2, if_pos c3]⟩, rfl, rfl⟩
      · refine y_run kX7_changed rfl ?_
        exact y_ir kX7_changed rfl rfl ⟨⟨a, x, y, ha', hE', by rw [if_pos c2]⟩, rfl, rfl⟩
    · refine y_run kX7_changed rfl ?_
      refine m_get kX7_changed (540) hI hm ?_
      refine y_run kX7_changed rfl ?_
      refine y_ia kX7_changed rfl e51 (by omega) (by omega) ?_
      rw [Int.toNat_natCast]
      refine y_run kX7_changed rfl ?_
      refine m_get kX7_changed (540) hI hm ?_
      refine y_run kX7_changed rfl ?_
      refine y_ia kX7_changed rfl e52 (by omega) (by omega) ?_
      rw [Int.toNat_natCast]
      refine y_ic_ne kX7_changed rfl rfl (fun c4 => ?_) (fun c4 => ?_)
      · refine y_run kX7_changed rfl ?_
        refine y_ic_ge kX7_changed rfl rfl (fun c5 => ?_) (fun c5 => ?_)
        · refine y_run kX7_changed rfl ?_
          refine y_idiv kX7_changed rfl (by omega) (by omega) (by omega) (by omega) ?_
          have ev : vR p q = (q : Int) / 64 - 64 := by unfold vR; rw [if_neg (by omega)]
          refine y_run kX7_changed rfl ?_
          refine y_if_eq kX7_changed rfl rfl (fun c6 => ?_) (fun c6 => ?_)
          · refine y_run kX7_changed rfl ?_
            refine y_if_eq kX7_changed rfl rfl (fun c7 => ?_) (fun c7 => ?_)
            · refine y_run kX7_changed rfl ?_
              exact cl _ _ _ (decide_eq_true c4) (by rw [ev]; split <;> omega) (by rw [ev]; split <;> omega) (by omega)
            · refine y_run kX7_changed rfl ?_
              refine y_ic_le kX7_changed rfl rfl (fun c8 => ?_) (fun c8 => ?_)
              · refine y_run kX7_changed rfl ?_
                exact cl _ _ _ (decide_eq_true c4) (by rw [ev]; split <;> omega) (by rw [ev]; split <;> omega) (by omega)
              · refine y_run kX7_changed rfl ?_
                exact cl _ _ _ (decide_eq_true c4) (by rw [ev]; split <;> omega) (by rw [ev]; split <;> omega) (by omega)
          · refine y_run kX7_changed rfl ?_
            refine y_ic_ge kX7_changed rfl rfl (fun c9 => ?_) (fun c9 => ?_)
            · refine y_run kX7_changed rfl ?_
              refine y_if_eq kX7_changed rfl rfl (fun c10 => ?_) (fun c10 => ?_)
              · refine y_run kX7_changed rfl ?_
                exact cl _ _ _ (decide_eq_true c4) (by rw [ev]; split <;> omega) (by rw [ev]; split <;> omega) (by omega)
              · refine y_run kX7_changed rfl ?_
                refine y_ic_le kX7_changed rfl rfl (fun c11 => ?_) (fun c11 => ?_)
                · refine y_run kX7_changed rfl ?_
                  exact cl _ _ _ (decide_eq_true c4) (by rw [ev]; split <;> omega) (by rw [ev]; split <;> omega) (by omega)
                · refine y_run kX7_changed rfl ?_
                  exact cl _ _ _ (decide_eq_true c4) (by rw [ev]; split <;> omega) (by rw [ev]; split <;> omega) (by omega)
            · refine y_run kX7_changed rfl ?_
              refine y_if_eq kX7_changed rfl rfl (fun c12 => ?_) (fun c12 => ?_)
              · refine y_run kX7_changed rfl ?_
                exact cl _ _ _ (decide_eq_true c4) (by rw [ev]; split <;> omega) (by rw [ev]; split <;> omega) (by omega)
              · refine y_run kX7_changed rfl ?_
                refine y_ic_le kX7_changed rfl rfl (fun c13 => ?_) (fun c13 => ?_)
                · refine y_run kX7_changed rfl ?_
                  exact cl _ _ _ (decide_eq_true c4) (by rw [ev]; split <;> omega) (by rw [ev]; split <;> omega) (by omega)
                · refine y_run kX7_changed rfl ?_
                  exact cl _ _ _ (decide_eq_true c4) (by rw [ev]; split <;> omega) (by rw [ev]; split <;> omega) (by omega)
        · refine y_run kX7_changed rfl ?_
          refine y_irem kX7_changed rfl (by omega) (by omega) (by omega) (by omega) ?_
          have ev : vR p q = (q : Int) % 64 - 32 := by unfold vR; rw [if_pos (by omega)]
          refine y_run kX7_changed rfl ?_
          refine y_if_eq kX7_changed rfl rfl (fun c14 => ?_) (fun c14 => ?_)
          · refine y_run kX7_changed rfl ?_
            refine y_if_eq kX7_changed rfl rfl (fun c15 => ?_) (fun c15 => ?_)
            · refine y_run kX7_changed rfl ?_
              exact cl _ _ _ (decide_eq_true c4) (by rw [ev]; split <;> omega) (by rw [ev]; split <;> omega) (by omega)
            · refine y_run kX7_changed rfl ?_
              refine y_ic_le kX7_changed rfl rfl (fun c16 => ?_) (fun c16 => ?_)
              · refine y_run kX7_changed rfl ?_
                exact cl _ _ _ (decide_eq_true c4) (by rw [ev]; split <;> omega) (by rw [ev]; split <;> omega) (by omega)
              · refine y_run kX7_changed rfl ?_
                exact cl _ _ _ (decide_eq_true c4) (by rw [ev]; split <;> omega) (by rw [ev]; split <;> omega) (by omega)
          · refine y_run kX7_changed rfl ?_
            refine y_ic_ge kX7_changed rfl rfl (fun c17 => ?_) (fun c17 => ?_)
            · refine y_run kX7_changed rfl ?_
              refine y_if_eq kX7_changed rfl rfl (fun c18 => ?_) (fun c18 => ?_)
              · refine y_run kX7_changed rfl ?_
                exact cl _ _ _ (decide_eq_true c4) (by rw [ev]; split <;> omega) (by rw [ev]; split <;> omega) (by omega)
              · refine y_run kX7_changed rfl ?_
                refine y_ic_le kX7_changed rfl rfl (fun c19 => ?_) (fun c19 => ?_)
                · refine y_run kX7_changed rfl ?_
                  exact cl _ _ _ (decide_eq_true c4) (by rw [ev]; split <;> omega) (by rw [ev]; split <;> omega) (by omega)
                · refine y_run kX7_changed rfl ?_
                  exact cl _ _ _ (decide_eq_true c4) (by rw [ev]; split <;> omega) (by rw [ev]; split <;> omega) (by omega)
            · refine y_run kX7_changed rfl ?_
              refine y_if_eq kX7_changed rfl rfl (fun c20 => ?_) (fun c20 => ?_)
              · refine y_run kX7_changed rfl ?_
                exact cl _ _ _ (decide_eq_true c4) (by rw [ev]; split <;> omega) (by rw [ev]; split <;> omega) (by omega)
              · refine y_run kX7_changed rfl ?_
                refine y_ic_le kX7_changed rfl rfl (fun c21 => ?_) (fun c21 => ?_)
                · refine y_run kX7_changed rfl ?_
                  exact cl _ _ _ (decide_eq_true c4) (by rw [ev]; split <;> omega) (by rw [ev]; split <;> omega) (by omega)
                · refine y_run kX7_changed rfl ?_
                  exact cl _ _ _ (decide_eq_true c4) (by rw [ev]; split <;> omega) (by rw [ev]; split <;> omega) (by omega)
      · refine y_run kX7_changed rfl ?_
        exact nc _ (decide_eq_false (fun z => z c4)) (by omega)
theorem e_mchanged (hf : RF b g B J i0 i1 i2 i3 i4 i5 i6) {p : Int} (p1 : -2147483648 ≤ p) (p2 : p < 2147483648) (e51 : h (b + 551) = some (ai 8192 Pc)) (e52 : h (b + 552) = some (ai 8192 Pf)) (hI : MI b g h) : YM l G mX7_changed 1 0 0 [vr (b + 540), vi p] h n (fun r h' n' => ((¬ (0 ≤ p ∧ p < 5) ∧ r = some (vi (-1))) ∨ ((0 ≤ p ∧ p < 5) ∧ ∃ a x y, a = (crd (dR Pc Pf) 8192 : Int) ∧ EXT (dR Pc Pf) (vR p) 8192 x y ∧ r = some (vi (if p = 0 then a else if p % 2 = 1 then x else y)))) ∧ h' = h ∧ n' = n) := by
  refine YM.of kX7_changed (Nat.le_of_ble_eq_true rfl) (L0 := [some (vr (b + 540)), some (vi p), none, none, none, none, none]) rfl ?_
  refine y_run kX7_changed rfl ?_
  refine y_cs kX7_changed kX7_in 2 rfl (by decide +kernel) (c_in _ _ ⟨by omega, by omega⟩ ⟨by omega, by omega⟩) rfl rfl ?_
  rintro _ h2 _ ⟨rfl, eh, rfl⟩
  subst eh
  refine y_bne kX7_changed rfl rfl (fun c1 => ?_) (fun c1 => ?_)
  · refine y_run kX7_changed rfl ?_
    refine YW.Le (congrArg (fun z : Int => [some (vr (b + 540)), some (vi p), some (vi 0), some (vi 100), some (vi 100), some (vi z), none]) (show (0 : Int) = ((0 : Nat) : Int) by omega)) ?_
    exact (s_mchangedE hf c1.1 c1.2 e51 e52 hI 8193 0 0 100 100 _ (by omega) (by omega) rfl (Or.inl ⟨fun k hk => absurd hk (Nat.not_lt_zero _), rfl, rfl⟩)).imp (fun r h' n' w => ⟨Or.inr ⟨c1, w.1⟩, w.2⟩)
  · refine y_run kX7_changed rfl ?_
    exact y_ir kX7_changed rfl rfl ⟨Or.inl ⟨c1, rfl⟩, rfl, rfl⟩
theorem s_mseenE (hf : RF b g B J i0 i1 i2 i3 i4 i5 i6) {p : Int} (p1 : -2147483648 ≤ p) (p2 : p < 2147483648) (e51 : h (b + 551) = some (ai 8192 Pc)) (hI : MI b g h) : ∀ (m : Nat) (q : Nat) (a : Int), 8192 - q < m → q ≤ 8192 → a = (crd (sR Pc p) q : Int) → YW l G mX7_seen 0 0 0 (fun r h' n' => r = some (vi (crd (sR Pc p) 8192 : Int)) ∧ h' = h ∧ n' = n) 4 [some (vr (b + 540)), some (vi p), some (vi a), some (vi (q : Int))] [] h n := by
  intro m
  induction m with
  | zero => intro q a hm; exact absurd hm (Nat.not_lt_zero _)
  | succ m ih =>
    intro q a hmm j1 ha
    obtain ⟨hm, hB, hJ, hBb, hBs, hBc, hJb, hi1, hi2, hi3, hi4⟩ := id hf
    have bPc : ∀ j, -1 ≤ Pc j ∧ Pc j ≤ 100000 := by
      obtain ⟨F, e, hF⟩ := hI.i (k := 551) (N := 8192) (lo := -1) (hi := 100000) rfl
      rw [ai_inj e51 e]; exact hF
    have b1 := bPc q
    have cb := crd_le (sR Pc p) q
    have nc : sR Pc p q = false → q < 8192 → YW l G mX7_seen 0 0 0 (fun r h' n' => r = some (vi (crd (sR Pc p) 8192 : Int)) ∧ h' = h ∧ n' = n) 4 [some (vr (b + 540)), some (vi p), some (vi a), some (vi ((q : Int) + 1))] [] h n := fun hd hq => by
      refine YW.Le (congrArg (fun z : Int => [some (vr (b + 540)), some (vi p), some (vi a), some (vi z)]) (show (q : Int) + 1 = ((q + 1 : Nat) : Int) by omega)) ?_
      exact ih (q + 1) a (by omega) (by omega) (by rw [crd_n _ hd]; exact ha)
    have cy : sR Pc p q = true → q < 8192 → YW l G mX7_seen 0 0 0 (fun r h' n' => r = some (vi (crd (sR Pc p) 8192 : Int)) ∧ h' = h ∧ n' = n) 4 [some (vr (b + 540)), some (vi p), some (vi (a + 1)), some (vi ((q : Int) + 1))] [] h n := fun hd hq => by
      refine YW.Le (congrArg (fun z : Int => [some (vr (b + 540)), some (vi p), some (vi (a + 1)), some (vi z)]) (show (q : Int) + 1 = ((q + 1 : Nat) : Int) by omega)) ?_
      exact ih (q + 1) (a + 1) (by omega) (by omega) (by rw [crd_y _ hd]; omega)
    refine y_run kX7_seen rfl ?_
    refine y_ic_ge kX7_seen rfl rfl (fun c1 => ?_) (fun c1 => ?_)
    · have eq8 : q = 8192 := by omega
      refine y_run kX7_seen rfl ?_
      exact y_ir kX7_seen rfl rfl ⟨by rw [ha, eq8], rfl, rfl⟩
    · refine y_run kX7_seen rfl ?_
      refine m_get kX7_seen (540) hI hm ?_
      refine y_run kX7_seen rfl ?_
      refine y_ia kX7_seen rfl e51 (by omega) (by omega) ?_
      rw [Int.toNat_natCast]
      refine y_run kX7_seen rfl ?_
      refine y_ic_eq kX7_seen rfl rfl (fun c2 => ?_) (fun c2 => ?_)
      · refine y_run kX7_seen rfl ?_
        refine YW.Le (congrArg (fun z : Int => [some (vr (b + 540)), some (vi p), some (vi z), some (vi ((q : Int) + 1))]) (show a + 0 = a by omega)) ?_
        exact nc (by unfold sR; rw [show decide (Pc q ≠ -1) = false from decide_eq_false (fun z => z c2)]; rfl) (by omega)
      · refine y_run kX7_seen rfl ?_
        refine m_get kX7_seen (540) hI hm ?_
        refine y_run kX7_seen rfl ?_
        refine y_ia kX7_seen rfl e51 (by omega) (by omega) ?_
        rw [Int.toNat_natCast]
        refine y_run kX7_seen rfl ?_
        refine y_irem kX7_seen rfl (by omega) (by omega) (by omega) (by omega) ?_
        refine y_run kX7_seen rfl ?_
        refine y_ic_ne kX7_seen rfl rfl (fun c3 => ?_) (fun c3 => ?_)
        · refine y_run kX7_seen rfl ?_
          refine YW.Le (congrArg (fun z : Int => [some (vr (b + 540)), some (vi p), some (vi z), some (vi ((q : Int) + 1))]) (show a + 0 = a by omega)) ?_
          exact nc (by unfold sR; rw [show decide (Pc q % 32 = p) = false from decide_eq_false c3, Bool.and_false]) (by omega)
        · refine y_run kX7_seen rfl ?_
          exact cy (by unfold sR; rw [decide_eq_true c2, decide_eq_true c3]; rfl) (by omega)
theorem e_mseen (hf : RF b g B J i0 i1 i2 i3 i4 i5 i6) {p : Int} (p1 : -2147483648 ≤ p) (p2 : p < 2147483648) (e51 : h (b + 551) = some (ai 8192 Pc)) (hI : MI b g h) : YM l G mX7_seen 0 0 0 [vr (b + 540), vi p] h n (fun r h' n' => r = some (vi (crd (sR Pc p) 8192 : Int)) ∧ h' = h ∧ n' = n) := by
  refine YM.of kX7_seen (Nat.le_of_ble_eq_true rfl) (L0 := [some (vr (b + 540)), some (vi p), none, none]) rfl ?_
  refine y_run kX7_seen rfl ?_
  refine YW.Le (congrArg (fun z : Int => [some (vr (b + 540)), some (vi p), some (vi 0), some (vi z)]) (show (0 : Int) = ((0 : Nat) : Int) by omega)) ?_
  exact s_mseenE hf p1 p2 e51 hI 8193 0 0 (by omega) (by omega) rfl
end C80zj
