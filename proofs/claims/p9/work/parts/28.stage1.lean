section C10
variable {l : Launch} {G : xG} {M : xM} {d kc ks : Nat} {Φ Ψ : Option xV → yH → Nat → Prop} {h : yH} {n : Nat} {pc : Nat} {L : List (Option xV)} {st rest : List xV}
/-- branches on the answer of a test -/
theorem y_beq (hM : xOK M) {P : Prop} {hP : Decidable P} {off : Int} {tgt : Nat} (hd : xat M pc = some (.ifCond .eq off, 3)) (ht : xtg M pc off = some tgt) (kt : ¬ P → YW l G M d kc ks Φ tgt L st h n) (kf : P → YW l G M d kc ks Φ (pc + 3) L st h n) : YW l G M d kc ks Φ pc L (vi (@ite _ P hP 1 0) :: st) h n := by
  by_cases c : P
  · rw [if_pos c]
    exact y_if_eq hM hd ht (fun q => absurd q (by omega)) (fun _ => kf c)
  · rw [if_neg c]
    exact y_if_eq hM hd ht (fun _ => kt c) (fun q => absurd rfl q)
theorem y_bne (hM : xOK M) {P : Prop} {hP : Decidable P} {off : Int} {tgt : Nat} (hd : xat M pc = some (.ifCond .ne off, 3)) (ht : xtg M pc off = some tgt) (kt : P → YW l G M d kc ks Φ tgt L st h n) (kf : ¬ P → YW l G M d kc ks Φ (pc + 3) L st h n) : YW l G M d kc ks Φ pc L (vi (@ite _ P hP 1 0) :: st) h n := by
  by_cases c : P
  · rw [if_pos c]
    exact y_if_ne hM hd ht (fun _ => kt c) (fun q => absurd q (by omega))
  · rw [if_neg c]
    exact y_if_ne hM hd ht (fun q => absurd rfl q) (fun _ => kf c)
end C10
def lies (f s : Int) : Prop := 0 ≤ f ∧ 0 < s ∧ s ≤ 32 ∧ f ≤ 32 - s
section C11
variable {l : Launch} {G : xG} {h : yH} {n : Nat}
theorem c_liesInRoom {f s : Int} (hf : inI f) (hs : inI s) : YM l G mX6_liesInRoom 0 0 0 [vi f, vi s] h n (fun r h' n' => ((r = some (vi 1) ∧ lies f s) ∨ (r = some (vi 0) ∧ ¬ lies f s)) ∧ h' = h ∧ n' = n) := by
  refine YM.of kX6_liesInRoom (Nat.le_of_ble_eq_true rfl) (L0 := [some (vi f), some (vi s)]) rfl ?_
  obtain ⟨_, _⟩ := hf
  obtain ⟨_, _⟩ := hs
  refine y_run kX6_liesInRoom rfl ?_
  refine y_if_lt kX6_liesInRoom rfl rfl (fun c1 => ?_) (fun c1 => ?_)
  · refine y_run kX6_liesInRoom rfl ?_
    refine y_zr kX6_liesInRoom rfl rfl (Or.inl rfl) ?_
    exact ⟨Or.inr ⟨rfl, fun q => by unfold lies at q; omega⟩, rfl, rfl⟩
  · refine y_run kX6_liesInRoom rfl ?_
    refine y_if_le kX6_liesInRoom rfl rfl (fun c2 => ?_) (fun c2 => ?_)
    · refine y_run kX6_liesInRoom rfl ?_
      refine y_zr kX6_liesInRoom rfl rfl (Or.inl rfl) ?_
      exact ⟨Or.inr ⟨rfl, fun q => by unfold lies at q; omega⟩, rfl, rfl⟩
    · refine y_run kX6_liesInRoom rfl ?_
      refine y_ic_gt kX6_liesInRoom rfl rfl (fun c3 => ?_) (fun c3 => ?_)
      · refine y_run kX6_liesInRoom rfl ?_
        refine y_zr kX6_liesInRoom rfl rfl (Or.inl rfl) ?_
        exact ⟨Or.inr ⟨rfl, fun q => by unfold lies at q; omega⟩, rfl, rfl⟩
      · refine y_run kX6_liesInRoom rfl ?_
        refine y_ic_gt kX6_liesInRoom rfl rfl (fun c4 => ?_) (fun c4 => ?_)
        · refine y_run kX6_liesInRoom rfl ?_
          refine y_zr kX6_liesInRoom rfl rfl (Or.inl rfl) ?_
          exact ⟨Or.inr ⟨rfl, fun q => by unfold lies at q; omega⟩, rfl, rfl⟩
        · refine y_run kX6_liesInRoom rfl ?_
          refine y_zr kX6_liesInRoom rfl rfl (Or.inr rfl) ?_
          exact ⟨Or.inl ⟨rfl, by omega, by omega, by omega, by omega⟩, rfl, rfl⟩
def isPx (i j : Int) : Prop := -32 ≤ i ∧ i < 32 ∧ -64 ≤ j ∧ j < 64
theorem c_isPixel {i j : Int} (hf : inI i) (hs : inI j) : YM l G mX6_isPixel 0 0 0 [vi i, vi j] h n (fun r h' n' => ((r = some (vi 1) ∧ isPx i j) ∨ (r = some (vi 0) ∧ ¬ isPx i j)) ∧ h' = h ∧ n' = n) := by
  refine YM.of kX6_isPixel (Nat.le_of_ble_eq_true rfl) (L0 := [some (vi i), some (vi j)]) rfl ?_
  obtain ⟨_, _⟩ := hf
  obtain ⟨_, _⟩ := hs
  refine y_run kX6_isPixel rfl ?_
  refine y_ic_lt kX6_isPixel rfl rfl (fun c1 => ?_) (fun c1 => ?_)
  · refine y_run kX6_isPixel rfl ?_
    refine y_zr kX6_isPixel rfl rfl (Or.inl rfl) ?_
    exact ⟨Or.inr ⟨rfl, fun q => by unfold isPx at q; omega⟩, rfl, rfl⟩
  · refine y_run kX6_isPixel rfl ?_
    refine y_ic_ge kX6_isPixel rfl rfl (fun c2 => ?_) (fun c2 => ?_)
    · refine y_run kX6_isPixel rfl ?_
      refine y_zr kX6_isPixel rfl rfl (Or.inl rfl) ?_
      exact ⟨Or.inr ⟨rfl, fun q => by unfold isPx at q; omega⟩, rfl, rfl⟩
    · refine y_run kX6_isPixel rfl ?_
      refine y_ic_lt kX6_isPixel rfl rfl (fun c3 => ?_) (fun c3 => ?_)
      · refine y_run kX6_isPixel rfl ?_
        refine y_zr kX6_isPixel rfl rfl (Or.inl rfl) ?_
        exact ⟨Or.inr ⟨rfl, fun q => by unfold isPx at q; omega⟩, rfl, rfl⟩
      · refine y_run kX6_isPixel rfl ?_
        refine y_ic_ge kX6_isPixel rfl rfl (fun c4 => ?_) (fun c4 => ?_)
        · refine y_run kX6_isPixel rfl ?_
          refine y_zr kX6_isPixel rfl rfl (Or.inl rfl) ?_
          exact ⟨Or.inr ⟨rfl, fun q => by unfold isPx at q; omega⟩, rfl, rfl⟩
        · refine y_run kX6_isPixel rfl ?_
          refine y_zr kX6_isPixel rfl rfl (Or.inr rfl) ?_
          exact ⟨Or.inl ⟨rfl, by omega, by omega, by omega, by omega⟩, rfl, rfl⟩
/-- box n is there -/
def isT (t v : Int) : Prop := (0 ≤ v ∧ v < 24) ∧ tbt t v.toNat = true
theorem c_lift {b : Nat} {t v : Int} {E K R T : Nat → Int} {fs : List xV} (hx : h b = some (ob 6 (vr (b + 1) :: fs))) (hs : SC h (b + 1) t E K R T) (hv : inI v) : YM l G mX6_lift 2 0 0 [vr b, vi v] h n (fun r h' n' => ((¬ isT t v ∧ r = some (vi 0) ∧ h' = h) ∨ (isT t v ∧ r = some (vi 1) ∧ SC h' (b + 1) (yand t (yxor (yshl 1 v) (-1))) E K R T ∧ ∀ q, q ≠ b + 1 → h' q = h q)) ∧ n' = n) := by
  refine YM.of kX6_lift (Nat.le_of_ble_eq_true rfl) (L0 := [some (vr b), some (vi v)]) rfl ?_
  refine y_run kX6_lift rfl ?_
  refine y_get kX6_lift rfl rfl hx rfl ?_
  refine y_run kX6_lift rfl ?_
  refine y_cv kX6_lift kX5_has 1 (rest := []) rfl hs.1 (by decide +kernel) (c_Shas hs hv) rfl rfl ?_
  rintro r h' n' ⟨rfl, rfl, rfl⟩
  refine y_bne kX6_lift rfl rfl (fun c => ?_) (fun c => ?_)
  · refine y_run kX6_lift rfl ?_
    refine y_get kX6_lift rfl rfl hx rfl ?_
    refine y_run kX6_lift rfl ?_
    refine y_cv kX6_lift kX5_takeAway 1 (rest := []) rfl hs.1 (by decide +kernel) (c_StakeAway hs (v := v)) rfl rfl ?_
    rintro r h' n' ⟨rfl, rfl, rfl⟩
    refine y_run kX6_lift rfl ?_
    exact y_zr kX6_lift rfl rfl (Or.inr rfl) ⟨Or.inr ⟨c, rfl, hs.up0 _, fun q hq => yup_ne _ _ hq⟩, rfl⟩
  · refine y_run kX6_lift rfl ?_
    exact y_zr kX6_lift rfl rfl (Or.inl rfl) ⟨Or.inl ⟨c, rfl, rfl⟩, rfl⟩
theorem c_ink {b : Nat} {t p r0 wd : Int} {E K R T : Nat → Int} {fs : List xV} (hx : h b = some (ob 6 (vr (b + 1) :: fs))) (hs : SC h (b + 1) t E K R T) (hp : inI p) (hr : inI r0) : YM l G mX6_ink 1 0 0 [vr b, vi p, vi r0, vi wd] h n (fun r h' n' => ((¬ ((0 ≤ p ∧ p < 8) ∧ (0 ≤ r0 ∧ r0 < 8)) ∧ r = some (vi 0) ∧ h' = h) ∨ (((0 ≤ p ∧ p < 8) ∧ (0 ≤ r0 ∧ r0 < 8)) ∧ r = some (vi 1) ∧ SC h' (b + 1) t E K (upZ R (p * 8 + r0).toNat (wd % 65536)) T ∧ ∀ q, q ≠ b + 4 → h' q = h q)) ∧ n' = n) := by
  refine YM.of kX6_ink (Nat.le_of_ble_eq_true rfl) (L0 := [some (vr b), some (vi p), some (vi r0), some (vi wd)]) rfl ?_
  have hno : ¬ ((0 ≤ p ∧ p < 8) ∧ (0 ≤ r0 ∧ r0 < 8)) → YW l (gT G) mX6_ink 1 0 0 (fun r h' n' => ((¬ ((0 ≤ p ∧ p < 8) ∧ (0 ≤ r0 ∧ r0 < 8)) ∧ r = some (vi 0) ∧ h' = h) ∨ (((0 ≤ p ∧ p < 8) ∧ (0 ≤ r0 ∧ r0 < 8)) ∧ r = some (vi 1) ∧ SC h' (b + 1) t E K (upZ R (p * 8 + r0).toNat (wd % 65536)) T ∧ ∀ q, q ≠ b + 4 → h' q = h q)) ∧ n' = n) 18 [some (vr b), some (vi p), some (vi r0), some (vi wd)] [] h n := fun c => by
    refine y_run kX6_ink rfl ?_
    exact y_zr kX6_ink rfl rfl (Or.inl rfl) ⟨Or.inl ⟨c, rfl, rfl⟩, rfl⟩
  refine y_run kX6_ink rfl ?_
  refine y_cs kX6_ink kX6_isBelow 2 (rest := []) rfl (by decide +kernel) (c_isBelow p 8 hp ⟨by omega, by omega⟩) rfl rfl ?_
  rintro r h' n' ⟨rfl, rfl, rfl⟩
  refine y_beq kX6_ink rfl rfl (fun c => hno (fun q => c q.1)) (fun c => ?_)
  refine y_run kX6_ink rfl ?_
  refine y_cs kX6_ink kX6_isBelow 2 (rest := []) rfl (by decide +kernel) (c_isBelow r0 8 hr ⟨by omega, by omega⟩) rfl rfl ?_
  rintro r h' n' ⟨rfl, rfl, rfl⟩
  refine y_bne kX6_ink rfl rfl (fun c2 => ?_) (fun c2 => hno (fun q => c2 q.2))
  refine y_run kX6_ink rfl ?_
  refine y_get kX6_ink rfl rfl hx rfl ?_
  refine y_get kX6_ink rfl rfl hs.1 rfl ?_
  refine y_run kX6_ink rfl ?_
  refine y_ldc (z := 65535) kX6_ink rfl (by decide +kernel) ?_
  refine y_run kX6_ink rfl ?_
  refine y_is kX6_ink rfl hs.2.2.2.1 (by omega) (by omega) ?_
  refine y_run kX6_ink rfl ?_
  rw [yand_65535]
  exact y_zr kX6_ink rfl rfl (Or.inr rfl) ⟨Or.inr ⟨⟨c, c2⟩, rfl, hs.up3 _, fun q hq => yup_ne _ _ (by omega)⟩, rfl⟩
theorem c_box {b : Nat} {t v wh : Int} {E K R T : Nat → Int} {fs : List xV} (hx : h b = some (ob 6 (vr (b + 1) :: fs))) (hs : SC h (b + 1) t E K R T) (hv : inI v) (hw : inI wh) : YM l G mX6_box 2 0 0 [vr b, vi v, vi wh] h n (fun r h' n' => ((isT t v ∧ ((0 ≤ wh ∧ wh < 6 ∧ r = some (vi (E (v * 6 + wh).toNat))) ∨ (6 ≤ wh ∧ wh < 10 ∧ r = some (vi (K (v * 4 + wh - 6).toNat))) ∨ (¬ (0 ≤ wh ∧ wh < 10) ∧ r = some (vi (-1))))) ∨ (¬ isT t v ∧ r = some (vi (-1)))) ∧ h' = h ∧ n' = n) := by
  obtain ⟨hw1, hw2⟩ := hw
  refine YM.of kX6_box (Nat.le_of_ble_eq_true rfl) (L0 := [some (vr b), some (vi v), some (vi wh)]) rfl ?_
  refine y_run kX6_box rfl ?_
  refine y_get kX6_box rfl rfl hx rfl ?_
  refine y_run kX6_box rfl ?_
  refine y_cv kX6_box kX5_has 1 (rest := []) rfl hs.1 (by decide +kernel) (c_Shas hs hv) rfl rfl ?_
  rintro r h' n' ⟨rfl, rfl, rfl⟩
  refine y_bne kX6_box rfl rfl (fun c => ?_) (fun c => ?_)
  · refine y_run kX6_box rfl ?_
    refine y_cs kX6_box kX6_isBelow 2 (rest := []) rfl (by decide +kernel) (c_isBelow wh 6 ⟨hw1, hw2⟩ ⟨by omega, by omega⟩) rfl rfl ?_
    rintro r h' n' ⟨rfl, rfl, rfl⟩
    refine y_beq kX6_box rfl rfl (fun c2 => ?_) (fun c2 => ?_)
    · refine y_run kX6_box rfl ?_
      by_cases cw : wh < -2147483648 + 6
      · have e : iI (wh - 6) = iI (wh - 6 + 4294967296) := by
          show Int32.ofInt _ = Int32.ofInt _
          apply Int32.toBitVec_inj.mp
          show BitVec.ofInt 32 _ = BitVec.ofInt 32 _
          apply BitVec.eq_of_toNat_eq
          rw [BitVec.toNat_ofInt, BitVec.toNat_ofInt]
          congr 1
          omega
        have hX := c_isBelow (l := l) (G := gT G) (h := h') (n := n') (wh - 6 + 4294967296) 4 ⟨by omega, by omega⟩ ⟨by omega, by omega⟩
        have hX2 : YM l (gT G) mX6_isBelow 0 0 0 [vi (wh - 6), vi 4] h' n' (fun r g m => r = some (vi 0) ∧ g = h' ∧ m = n') := by
          unfold YM mS at hX ⊢
          simp only [List.map_cons, List.map_nil, den] at hX ⊢
          rw [e]
          rw [if_neg (by omega)] at hX
          exact hX
        refine y_cs kX6_box kX6_isBelow 2 (rest := []) rfl (by decide +kernel) hX2 rfl rfl ?_
        rintro r g m ⟨rfl, rfl, rfl⟩
        refine y_if_eq kX6_box rfl rfl (fun _ => ?_) (fun q => absurd rfl q)
        refine y_run kX6_box rfl ?_
        exact y_ir kX6_box rfl rfl ⟨Or.inl ⟨c, Or.inr (Or.inr ⟨by omega, rfl⟩)⟩, rfl, rfl⟩
      · refine y_cs kX6_box kX6_isBelow 2 (rest := []) rfl (by decide +kernel) (c_isBelow (wh - 6) 4 ⟨by omega, by omega⟩ ⟨by omega, by omega⟩) rfl rfl ?_
        rintro r g m ⟨rfl, rfl, rfl⟩
        refine y_beq kX6_box rfl rfl (fun c3 => ?_) (fun c3 => ?_)
        · refine y_run kX6_box rfl ?_
          exact y_ir kX6_box rfl rfl ⟨Or.inl ⟨c, Or.inr (Or.inr ⟨by omega, rfl⟩)⟩, rfl, rfl⟩
        · have c1 := c.1
          refine y_run kX6_box rfl ?_
          refine y_get kX6_box rfl rfl hx rfl ?_
          refine y_get kX6_box rfl rfl hs.1 rfl ?_
          refine y_run kX6_box rfl ?_
          refine y_ia kX6_box rfl hs.2.2.1 (by omega) (by omega) ?_
          refine y_run kX6_box rfl ?_
          exact y_ir kX6_box rfl rfl ⟨Or.inl ⟨c, Or.inr (Or.inl ⟨by omega, by omega, rfl⟩)⟩, rfl, rfl⟩
    · have c1 := c.1
      refine y_run kX6_box rfl ?_
      refine y_get kX6_box rfl rfl hx rfl ?_
      refine y_get kX6_box rfl rfl hs.1 rfl ?_
      refine y_run kX6_box rfl ?_
      refine y_ia kX6_box rfl hs.2.1 (by omega) (by omega) ?_
      exact y_ir kX6_box rfl rfl ⟨Or.inl ⟨c, Or.inl ⟨by omega, by omega, rfl⟩⟩, rfl, rfl⟩
  · refine y_run kX6_box rfl ?_
    exact y_ir kX6_box rfl rfl ⟨Or.inr ⟨c, rfl⟩, rfl, rfl⟩
end C11
