/-! the reference: gather of two pieces -/
def seeW (Q : Nat → Int) (x : Int) (p q i j : Nat) : Prop := wiQ (fun z => exX Q (aX x) (aY x) (z : Int)) p 128 i j ∨ wiQ (fun z => exX Q (aX x) (aY x) (z : Int)) q 128 i j
section C80v
variable {l : Launch} {G : xG} {h h0 : yH} {n : Nat} {b : Nat} {g : yH} {i0 i1 i2 i3 i4 i5 i6 : Int} {B J : Nat → Int} {C Q : Nat → Int}
set_option maxHeartbeats 2000000 in
theorem s_gather1W (hf : RF b g B J i0 i1 i2 i3 i4 i5 i6) {p q : Nat} (p2 : p < 128) (q2 : q < 128) (hp : Q (8 * p) ≠ -1) (hq : Q (8 * q) ≠ -1) (e45 : h0 (b + 545) = some (ai 1024 Q)) (hQb : ∀ j, -1 ≤ Q j ∧ Q j ≤ 127) : ∀ (m : Nat) (k : Int) (u4 : Option xV) (u5 : Option xV) (u6 : Option xV) (u7 : Option xV) (u8 : Option xV) (u9 : Option xV) (C' : Nat → Int) (h : yH), (8192 - k).toNat < m → 0 ≤ k → k ≤ 8192 → MI b g h → h (b + 546) = some (az 16384 C') → (∀ z, z ≠ b + 546 → z ≠ b + 548 → h z = h0 z) → (∀ i j, i < 128 → j < 128 → (C' (128 * i + j) = 1 ↔ C (128 * i + j) = 1 ∨ ∃ x : Int, 0 ≤ x ∧ x < k ∧ seeW Q x p q i j)) → YW l G mX7_gather 2 0 0 (PGa b g h0 n C (fun i j => ∃ x : Int, 0 ≤ x ∧ x < 8192 ∧ seeW Q x p q i j)) 2 [some (vr (b + 540)), some (vi (p : Int)), some (vi (q : Int)), some (vi k), u4, u5, u6, u7, u8, u9] [] h n := by
  intro m
  induction m with
  | zero => intro k u4 u5 u6 u7 u8 u9 C' h hm; exact absurd hm (Nat.not_lt_zero _)
  | succ m ih =>
    intro k u4 u5 u6 u7 u8 u9 C' h hmm j0 j1 hI e46 hfr hC
    obtain ⟨hm, -⟩ := id hf
    have f45 : h (b + 545) = some (ai 1024 Q) := (hfr _ (by omega) (by omega)).trans e45
    have hp' : Q (8 * (p : Int)).toNat ≠ -1 := by rw [show (8 * (p : Int)).toNat = 8 * p by omega]; exact hp
    have hq' : Q (8 * (q : Int)).toNat ≠ -1 := by rw [show (8 * (q : Int)).toNat = 8 * q by omega]; exact hq
    refine y_run kX7_gather rfl ?_
    refine y_ic_ge kX7_gather rfl rfl (fun c1 => ?_) (fun c1 => ?_)
    · have e : k = 8192 := by omega
      subst e
      exact y_vr kX7_gather rfl rfl ⟨C', rfl, hI, e46, hfr, hC, rfl⟩
    · have xr : -1000 ≤ aX k ∧ aX k ≤ 1000 := by unfold aX; omega
      have yr : -1000 ≤ aY k ∧ aY k ≤ 1000 := by unfold aY; omega
      have nx : ∀ (u4 u5 u6 u7 u8 u9 : Option xV) C4 h4, MI b g h4 → h4 (b + 546) = some (az 16384 C4) → (∀ z, z ≠ b + 546 → z ≠ b + 548 → h4 z = h0 z) → (∀ i j, i < 128 → j < 128 → (C4 (128 * i + j) = 1 ↔ C' (128 * i + j) = 1 ∨ seeW Q k p q i j)) → YW l G mX7_gather 2 0 0 (PGa b g h0 n C (fun i j => ∃ x : Int, 0 ≤ x ∧ x < 8192 ∧ seeW Q x p q i j)) 2 [some (vr (b + 540)), some (vi (p : Int)), some (vi (q : Int)), some (vi (k + 1)), u4, u5, u6, u7, u8, u9] [] h4 n := fun u4 u5 u6 u7 u8 u9 C4 h4 r1 r2 r3 r4 => by
        refine ih _ _ _ _ _ _ _ C4 h4 (by omega) (by omega) (by omega) r1 r2 r3 (fun i j hi hj => ?_)
        rw [r4 i j hi hj, hC i j hi hj]
        constructor
        · rintro ((w | ⟨x, x0, x1, w⟩) | w)
          · exact Or.inl w
          · exact Or.inr ⟨x, x0, by omega, w⟩
          · exact Or.inr ⟨k, j0, by omega, w⟩
        · rintro (w | ⟨x, x0, x1, w⟩)
          · exact Or.inl (Or.inl w)
          · by_cases z : x = k
            · subst z; exact Or.inr w
            · exact Or.inl (Or.inr ⟨x, x0, by omega, w⟩)
      obtain ⟨X0, e48, -⟩ := hI.i (k := 548) (N := 128) (lo := -100000) (hi := 100000) rfl
      have A : ∀ (e f : Int), YW l G mX7_gather 2 0 0 (PGa b g h0 n C (fun i j => ∃ x : Int, 0 ≤ x ∧ x < 8192 ∧ seeW Q x p q i j)) 110 [some (vr (b + 540)), some (vi (p : Int)), some (vi (q : Int)), some (vi k), some (vi (aX k)), some (vi (aY k)), some (vi 0), some (vi e), some (vi f), some (vi 0)] [] h n := fun e f => by
        refine s_gather2E (h0 := h) hf xr.1 xr.2 yr.1 yr.2 f45 hQb (fun u9 X h3 hI3 e3 hX3 hfr3 => ?_) 129 0 X0 _ (by omega) (by omega) (by omega) hI e48 (fun j hj => absurd hj (by omega)) (fun _ _ => rfl)
        refine y_run kX7_gather rfl ?_
        refine y_if_eq kX7_gather rfl rfl (fun c1 => ?_) (fun c1 => absurd rfl c1)
        refine y_run kX7_gather rfl ?_
        refine y_cv kX7_gather kX7_with 1 rfl (hI3.x (k := 540) rfl hm) (by decide +kernel) (e_with hf p2 hI3 e3 ((hfr3 _ (by omega)).trans e46)) rfl rfl ?_
        rintro _ h4 _ ⟨C4, rfl, hI4, e4, hfr4, hC4, rfl⟩
        refine y_run kX7_gather rfl ?_
        refine y_cv kX7_gather kX7_with 1 rfl (hI4.x (k := 540) rfl hm) (by decide +kernel) (e_with hf q2 hI4 ((hfr4 _ (by omega)).trans e3) e4) rfl rfl ?_
        rintro _ h5 _ ⟨C5, rfl, hI5, e5, hfr5, hC5, rfl⟩
        refine y_run kX7_gather rfl ?_
        refine nx _ _ _ _ _ _ C5 h5 hI5 e5 (fun z z1 z2 => (hfr5 z z1).trans ((hfr4 z z1).trans ((hfr3 z z2).trans (hfr z z1 z2)))) (fun i j hi hj => ?_)
        rw [hC5 i j hi hj, hC4 i j hi hj, wiQ_cg hX3 p2 hi hj, wiQ_cg hX3 q2 hi hj]
        unfold seeW
        constructor
        · rintro ((w | w) | w)
          · exact Or.inl w
          · exact Or.inr (Or.inl w)
          · exact Or.inr (Or.inr w)
        · rintro (w | w | w)
          · exact Or.inl (Or.inl w)
          · exact Or.inl (Or.inr w)
          · exact Or.inr w
      have mbp := mex_small (hQb (8 * (p : Int) + 1).toNat) (hQb (8 * (p : Int) + 1 + 1).toNat) (hQb (8 * (p : Int) + 1 + 2).toNat) (hQb (8 * (p : Int) + 1 + 3).toNat) (hQb (8 * (p : Int) + 1 + 4).toNat) (hQb (8 * (p : Int) + 1 + 5).toNat) (a := aX k) (b := aY k) xr yr
      have mbq := mex_small (hQb (8 * (q : Int) + 1).toNat) (hQb (8 * (q : Int) + 1 + 1).toNat) (hQb (8 * (q : Int) + 1 + 2).toNat) (hQb (8 * (q : Int) + 1 + 3).toNat) (hQb (8 * (q : Int) + 1 + 4).toNat) (hQb (8 * (q : Int) + 1 + 5).toNat) (a := aX k) (b := aY k) xr yr
      have evp : mex (Q (8 * (p : Int) + 1).toNat) (Q (8 * (p : Int) + 1 + 1).toNat) (Q (8 * (p : Int) + 1 + 2).toNat) (Q (8 * (p : Int) + 1 + 3).toNat) (Q (8 * (p : Int) + 1 + 4).toNat) (Q (8 * (p : Int) + 1 + 5).toNat) (aX k) (aY k) = exX Q (aX k) (aY k) (p : Int) := by
        unfold exX
        rw [if_neg hp']
      have evq : mex (Q (8 * (q : Int) + 1).toNat) (Q (8 * (q : Int) + 1 + 1).toNat) (Q (8 * (q : Int) + 1 + 2).toNat) (Q (8 * (q : Int) + 1 + 3).toNat) (Q (8 * (q : Int) + 1 + 4).toNat) (Q (8 * (q : Int) + 1 + 5).toNat) (aX k) (aY k) = exX Q (aX k) (aY k) (q : Int) := by
        unfold exX
        rw [if_neg hq']
      refine y_run kX7_gather rfl ?_
      refine y_cs kX7_gather kX7_alongX 1 rfl (by decide +kernel) (c_malongX (by omega) (by omega)) rfl rfl ?_
      rintro _ h2 _ ⟨rfl, eh, rfl⟩
      subst eh
      change YW _ _ _ _ _ _ _ _ _ [vi (aX k)] _ _
      refine y_run kX7_gather rfl ?_
      refine y_cs kX7_gather kX7_alongY 1 rfl (by decide +kernel) (c_malongY (by omega) (by omega)) rfl rfl ?_
      rintro _ h2 _ ⟨rfl, eh, rfl⟩
      subst eh
      change YW _ _ _ _ _ _ _ _ _ [vi (aY k)] _ _
      refine y_run kX7_gather rfl ?_
      refine y_ic_ne kX7_gather rfl rfl (fun c2 => ?_) (fun c2 => absurd c2 (by omega))
      refine y_run kX7_gather rfl ?_
      refine y_if_eq kX7_gather rfl rfl (fun c3 => ?_) (fun c3 => absurd rfl c3)
      refine y_run kX7_gather rfl ?_
      refine m_get kX7_gather (540) hI hm ?_
      refine y_run kX7_gather rfl ?_
      refine y_cs kX7_gather kX7_exit 4 rfl (by decide +kernel) (c_mexit f45 (by omega) (by omega) (by omega) (fun j => ⟨by have := hQb j; omega, by have := hQb j; omega⟩) ⟨by omega, by omega⟩ ⟨by omega, by omega⟩) rfl rfl ?_
      rintro _ h2 _ ⟨rfl, eh, rfl⟩
      subst eh
      refine y_run kX7_gather rfl ?_
      refine y_if_eq kX7_gather rfl rfl (fun c4 => ?_) (fun c4 => absurd rfl c4)
      refine y_run kX7_gather rfl ?_
      refine m_get kX7_gather (540) hI hm ?_
      refine y_run kX7_gather rfl ?_
      refine y_cs kX7_gather kX7_exit 4 rfl (by decide +kernel) (c_mexit f45 (by omega) (by omega) (by omega) (fun j => ⟨by have := hQb j; omega, by have := hQb j; omega⟩) ⟨by omega, by omega⟩ ⟨by omega, by omega⟩) rfl rfl ?_
      rintro _ h2 _ ⟨rfl, eh, rfl⟩
      subst eh
      refine y_run kX7_gather rfl ?_
      refine y_if_ne kX7_gather rfl rfl (fun c5 => absurd c5 (by omega)) (fun c5 => ?_)
      refine y_run kX7_gather rfl ?_
      refine y_if_ne kX7_gather rfl rfl (fun c6 => ?_) (fun c6 => ?_)
      · refine y_run kX7_gather rfl ?_
        exact A _ _
      · refine y_run kX7_gather rfl ?_
        refine y_if_ne kX7_gather rfl rfl (fun c7 => ?_) (fun c7 => ?_)
        · refine y_run kX7_gather rfl ?_
          exact A _ _
        · refine y_run kX7_gather rfl ?_
          refine nx _ _ _ _ _ _ C' _ hI e46 hfr (fun i j hi hj => ⟨Or.inl, fun w => ?_⟩)
          rcases w with w | w
          · exact w
          · exfalso
            rcases w with w | w
            · have := w.1
              dsimp only at this
              rw [← evp] at this
              omega
            · have := w.1
              dsimp only at this
              rw [← evq] at this
              omega
theorem e_gatherW (hf : RF b g B J i0 i1 i2 i3 i4 i5 i6) {p q : Nat} (p2 : p < 128) (q2 : q < 128) (hp : Q (8 * p) ≠ -1) (hq : Q (8 * q) ≠ -1) (hI : MI b g h) (e45 : h (b + 545) = some (ai 1024 Q)) (e46 : h (b + 546) = some (az 16384 C)) : YM l G mX7_gather 2 0 0 [vr (b + 540), vi (p : Int), vi (q : Int)] h n (PGa b g h n C (fun i j => ∃ x : Int, 0 ≤ x ∧ x < 8192 ∧ seeW Q x p q i j)) := by
  refine YM.of kX7_gather (Nat.le_of_ble_eq_true rfl) (L0 := [some (vr (b + 540)), some (vi (p : Int)), some (vi (q : Int)), none, none, none, none, none, none, none]) rfl ?_
  have hQb : ∀ j, -1 ≤ Q j ∧ Q j ≤ 127 := by
    obtain ⟨F, e, hF⟩ := hI.i (k := 545) (N := 1024) (lo := -1) (hi := 127) rfl
    rw [ai_inj e45 e]
    exact hF
  refine y_run kX7_gather rfl ?_
  refine s_gather1W hf p2 q2 hp hq e45 hQb 8193 0 _ _ _ _ _ _ C h (by omega) (by omega) (by omega) hI e46 (fun _ _ _ => rfl) (fun i j _ _ => ⟨Or.inl, fun k => ?_⟩)
  rcases k with k | ⟨x, x0, x1, k⟩
  · exact k
  · omega
end C80v
