/-! the scene: which boxes are there (a bit each), their ends, looks, the rows of the sprites, and the trial -/
def SC (h : yH) (a : Nat) (t : Int) (E K R T : Nat → Int) : Prop := h a = some (ob 5 [vi t, vr (a + 1), vr (a + 2), vr (a + 3), vr (a + 4)]) ∧ h (a + 1) = some (ai 144 E) ∧ h (a + 2) = some (ai 96 K) ∧ h (a + 3) = some (ai 64 R) ∧ h (a + 4) = some (ai 6 T)
def tbt (t : Int) (k : Nat) : Bool := (iI t).toBitVec.getLsbD k
theorem s32 : ∀ k : Nat, k < 32 → ((iI (k : Int) &&& 31).toBitVec.smod 32).toNat = k := by decide +kernel
theorem o32 : ∀ k : Nat, k < 32 → (iI 1 <<< (iI (k : Int) &&& 31)).toBitVec = BitVec.twoPow 32 k := by decide +kernel
theorem m32 : ∀ k : Nat, k < 32 → (iI (-1)).toBitVec.getLsbD k = true := by decide +kernel
theorem i32_ext {a b : Int32} (h : ∀ k, k < 32 → a.toBitVec.getLsbD k = b.toBitVec.getLsbD k) : a = b := by
  apply Int32.toBitVec_inj.mp
  apply BitVec.eq_of_getLsbD_eq
  intro i hi
  exact h i hi
theorem tbt_of (x : Int32) (k : Nat) : tbt x.toInt k = x.toBitVec.getLsbD k := by unfold tbt; rw [← iI_of]
theorem tbt_and (x y : Int) (k : Nat) : tbt (yand x y) k = (tbt x k && tbt y k) := by unfold yand; rw [tbt_of]; simp [tbt]
theorem tbt_or (x y : Int) (k : Nat) : tbt (yor x y) k = (tbt x k || tbt y k) := by unfold yor; rw [tbt_of]; simp [tbt]
theorem tbt_xor (x y : Int) (k : Nat) : tbt (yxor x y) k = (tbt x k ^^ tbt y k) := by unfold yxor; rw [tbt_of]; simp [tbt]
theorem tbt_bit {v : Int} (h1 : 0 ≤ v) (h2 : v < 32) (j : Nat) : tbt (yshl 1 v) j = decide (j = v.toNat) := by
  obtain ⟨k, hk, rfl⟩ := nat_of h1 h2
  unfold yshl
  rw [tbt_of, o32 k hk, BitVec.getLsbD_twoPow, Int.toNat_natCast]
  by_cases c : j = k
  · subst c; simp [hk]
  · have : k ≠ j := fun q => c q.symm
    simp [c, this]
theorem tbt_m1 {k : Nat} (hk : k < 32) : tbt (-1) k = true := m32 k hk
theorem tbt_has (t : Int) {v : Int} (h1 : 0 ≤ v) (h2 : v < 32) : yand (yshr t v) 1 ≠ 0 ↔ tbt t v.toNat = true := by
  obtain ⟨k, hk, rfl⟩ := nat_of h1 h2
  rw [Int.toNat_natCast]
  have e : tbt (yshr t (k : Int)) 0 = tbt t k := by
    unfold yshr
    rw [tbt_of, Int32.toBitVec_shiftRight]
    simp only [BitVec.sshiftRight', s32 k hk, BitVec.getLsbD_sshiftRight]
    simp [tbt, hk]
  have e1 : ∀ j, tbt 1 j = decide (j = 0) := fun j => by
    have := tbt_bit (v := 0) (by omega) (by omega) j
    exact this
  have e0 : ∀ j, tbt 0 j = false := fun j => by show (0#32).getLsbD j = false; simp
  constructor
  · intro q
    cases c : tbt t k with
    | true => rfl
    | false =>
      exfalso
      apply q
      unfold yand
      have : iI (yshr t (k : Int)) &&& iI 1 = 0 := by
        apply i32_ext
        intro j hj
        have h3 := tbt_and (yshr t (k : Int)) 1 j
        unfold yand at h3
        rw [tbt_of] at h3
        rw [h3, e1]
        by_cases cj : j = 0
        · subst cj; rw [e, c]; simp
        · simp [cj]
      rw [this]
      rfl
  · intro q c
    have h3 := tbt_and (yshr t (k : Int)) 1 0
    rw [c, e0, e, q, e1] at h3
    simp at h3
section C5
variable {l : Launch} {G : xG} {h : yH} {n : Nat}
theorem c_Shas {a : Nat} {t v : Int} {E K R T : Nat → Int} (hs : SC h a t E K R T) (hv : inI v) : YM l G mX5_has 1 0 0 [vr a, vi v] h n (fun r h' n' => r = some (vi (if (0 ≤ v ∧ v < 24) ∧ tbt t v.toNat = true then 1 else 0)) ∧ h' = h ∧ n' = n) := by
  have e : (if (0 ≤ v ∧ v < 24) ∧ yand (yshr t v) 1 ≠ 0 then (1 : Int) else 0) = (if (0 ≤ v ∧ v < 24) ∧ tbt t v.toNat = true then 1 else 0) := by
    by_cases c : 0 ≤ v ∧ v < 24
    · have := tbt_has t (v := v) c.1 (by omega)
      by_cases c2 : tbt t v.toNat = true
      · rw [if_pos ⟨c, this.mpr c2⟩, if_pos ⟨c, c2⟩]
      · rw [if_neg (fun q => c2 (this.mp q.2)), if_neg (fun q => c2 q.2)]
    · rw [if_neg (fun q => c q.1), if_neg (fun q => c q.1)]
  rw [← e]
  exact c_has v hv hs.1
theorem c_StakeAway {a : Nat} {t v : Int} {E K R T : Nat → Int} (hs : SC h a t E K R T) : YM l G mX5_takeAway 0 0 0 [vr a, vi v] h n (fun r h' n' => r = none ∧ h' = yup h a (ob 5 [vi (yand t (yxor (yshl 1 v) (-1))), vr (a + 1), vr (a + 2), vr (a + 3), vr (a + 4)]) ∧ n' = n) := by
  refine YM.of kX5_takeAway (Nat.le_of_ble_eq_true rfl) (L0 := [some (vr a), some (vi v)]) rfl ?_
  obtain ⟨hs, he, hk, hr, ht⟩ := hs
  refine y_run kX5_takeAway rfl ?_
  refine y_get kX5_takeAway rfl rfl hs rfl ?_
  refine y_run kX5_takeAway rfl ?_
  refine y_put kX5_takeAway rfl rfl hs rfl rfl rfl ?_
  refine y_vr kX5_takeAway rfl rfl ?_
  exact ⟨rfl, rfl, rfl⟩
theorem c_SsetLooks {a : Nat} {t v c p q u : Int} {E K R T : Nat → Int} (hs : SC h a t E K R T) (h1 : 0 ≤ v) (h2 : v < 24) : YM l G mX5_setLooks 0 0 0 [vr a, vi v, vi c, vi p, vi q, vi u] h n (fun r h' n' => r = none ∧ h' = yup h (a + 2) (ai 96 (upZ (upZ (upZ (upZ K (v * 4).toNat c) (v * 4 + 1).toNat p) (v * 4 + 2).toNat q) (v * 4 + 3).toNat u)) ∧ n' = n) := by
  refine YM.of kX5_setLooks (Nat.le_of_ble_eq_true rfl) (L0 := [some (vr a), some (vi v), some (vi c), some (vi p), some (vi q), some (vi u)]) rfl ?_
  obtain ⟨hs, he, hk, hr, ht⟩ := hs
  refine y_run kX5_setLooks rfl ?_
  refine y_get kX5_setLooks rfl rfl hs rfl ?_
  refine y_run kX5_setLooks rfl ?_
  refine y_is kX5_setLooks rfl hk (by omega) (by omega) ?_
  refine y_run kX5_setLooks rfl ?_
  refine y_get kX5_setLooks rfl rfl ((yup_ne _ _ (by omega)).trans hs) rfl ?_
  refine y_run kX5_setLooks rfl ?_
  refine y_is2 kX5_setLooks rfl (by omega) (by omega) ?_
  refine y_run kX5_setLooks rfl ?_
  refine y_get kX5_setLooks rfl rfl ((yup_ne _ _ (by omega)).trans hs) rfl ?_
  refine y_run kX5_setLooks rfl ?_
  refine y_is2 kX5_setLooks rfl (by omega) (by omega) ?_
  refine y_run kX5_setLooks rfl ?_
  refine y_get kX5_setLooks rfl rfl ((yup_ne _ _ (by omega)).trans hs) rfl ?_
  refine y_run kX5_setLooks rfl ?_
  refine y_is2 kX5_setLooks rfl (by omega) (by omega) ?_
  refine y_vr kX5_setLooks rfl rfl ?_
  exact ⟨rfl, rfl, rfl⟩
theorem c_StryAlong {a : Nat} {t x f s : Int} {E K R T : Nat → Int} (hs : SC h a t E K R T) (h1 : 0 ≤ x) (h2 : x < 3) : YM l G mX5_tryAlong 0 0 0 [vr a, vi x, vi f, vi s] h n (fun r h' n' => r = none ∧ h' = yup h (a + 4) (ai 6 (upZ (upZ T (2 * x).toNat f) (2 * x + 1).toNat (f + s))) ∧ n' = n) := by
  refine YM.of kX5_tryAlong (Nat.le_of_ble_eq_true rfl) (L0 := [some (vr a), some (vi x), some (vi f), some (vi s)]) rfl ?_
  obtain ⟨hs, he, hk, hr, ht⟩ := hs
  refine y_run kX5_tryAlong rfl ?_
  refine y_get kX5_tryAlong rfl rfl hs rfl ?_
  refine y_run kX5_tryAlong rfl ?_
  refine y_is kX5_tryAlong rfl ht (by omega) (by omega) ?_
  refine y_run kX5_tryAlong rfl ?_
  refine y_get kX5_tryAlong rfl rfl ((yup_ne _ _ (by omega)).trans hs) rfl ?_
  refine y_run kX5_tryAlong rfl ?_
  refine y_is2 kX5_tryAlong rfl (by omega) (by omega) ?_
  refine y_vr kX5_tryAlong rfl rfl ?_
  exact ⟨rfl, rfl, rfl⟩
/-- the trial and box o overlap along axis j -/
def ovl (E T : Nat → Int) (b j : Int) : Prop := T (2 * j).toNat < E (b * 6 + 2 * j + 1).toNat ∧ E (b * 6 + 2 * j).toNat < T (2 * j + 1).toNat
theorem s_shares {Φ : Option xV → yH → Nat → Prop} {a : Nat} {t b : Int} {E K R T : Nat → Int} (hs : SC h a t E K R T) (h1 : 0 ≤ b) (h2 : b < 24) (hE : ∀ k, sm (E k)) (hT : ∀ k, sm (T k)) (hy : (∀ j, 0 ≤ j → j < 3 → ovl E T b j) → Φ (some (vi 1)) h n) (hn : (¬ ∀ j, 0 ≤ j → j < 3 → ovl E T b j) → Φ (some (vi 0)) h n) :
    ∀ (m : Nat) (x : Int) (u : Option xV), x = 3 - (m : Int) → 0 ≤ x → (∀ j, 0 ≤ j → j < x → ovl E T b j) → YW l G mX5_sharesRoom 0 0 0 Φ 2 [some (vr a), some (vi b), some (vi x), u] [] h n := by
  obtain ⟨hs, he, hk, hr, ht⟩ := hs
  intro m
  induction m with
  | zero =>
    intro x u hx h0 hi
    have e : x = 3 := by omega
    subst e
    refine y_run kX5_sharesRoom rfl ?_
    refine y_ic_ge kX5_sharesRoom rfl rfl (fun c1 => ?_) (fun c1 => absurd c1 (by omega))
    refine y_run kX5_sharesRoom rfl ?_
    exact y_zr kX5_sharesRoom rfl rfl (Or.inr rfl) (hy hi)
  | succ m ih =>
    intro x u hx h0 hi
    obtain ⟨g1, g2⟩ := hT (2 * x).toNat
    obtain ⟨g3, g4⟩ := hT (2 * x + 1).toNat
    obtain ⟨g5, g6⟩ := hE (b * 6 + 2 * x).toNat
    obtain ⟨g7, g8⟩ := hE (b * 6 + 2 * x + 1).toNat
    refine y_run kX5_sharesRoom rfl ?_
    refine y_ic_ge kX5_sharesRoom rfl rfl (fun c1 => ?_) (fun c1 => ?_)
    · refine y_run kX5_sharesRoom rfl ?_
      refine y_zr kX5_sharesRoom rfl rfl (Or.inr rfl) ?_
      exact absurd c1 (by omega)
    · refine y_run kX5_sharesRoom rfl ?_
      refine y_get kX5_sharesRoom rfl rfl hs rfl ?_
      refine y_run kX5_sharesRoom rfl ?_
      refine y_ia kX5_sharesRoom rfl ht (by omega) (by omega) ?_
      refine y_run kX5_sharesRoom rfl ?_
      refine y_get kX5_sharesRoom rfl rfl hs rfl ?_
      refine y_run kX5_sharesRoom rfl ?_
      refine y_ia kX5_sharesRoom rfl he (by omega) (by omega) ?_
      refine y_ic_ge kX5_sharesRoom rfl rfl (fun c2 => ?_) (fun c2 => ?_)
      · refine y_run kX5_sharesRoom rfl ?_
        refine y_zr kX5_sharesRoom rfl rfl (Or.inl rfl) ?_
        exact hn (fun q => absurd (q x h0 (by omega)).1 (by omega))
      · refine y_run kX5_sharesRoom rfl ?_
        refine y_get kX5_sharesRoom rfl rfl hs rfl ?_
        refine y_run kX5_sharesRoom rfl ?_
        refine y_ia kX5_sharesRoom rfl he (by omega) (by omega) ?_
        refine y_run kX5_sharesRoom rfl ?_
        refine y_get kX5_sharesRoom rfl rfl hs rfl ?_
        refine y_run kX5_sharesRoom rfl ?_
        refine y_ia kX5_sharesRoom rfl ht (by omega) (by omega) ?_
        refine y_ic_lt kX5_sharesRoom rfl rfl (fun c3 => ?_) (fun c3 => ?_)
        · refine y_run kX5_sharesRoom rfl ?_
          refine ih (x + 1) _ (by omega) (by omega) (fun j j0 j1 => ?_)
          by_cases c : j = x
          · subst c; exact ⟨c2, c3⟩
          · exact hi j j0 (by omega)
        · refine y_run kX5_sharesRoom rfl ?_
          refine y_zr kX5_sharesRoom rfl rfl (Or.inl rfl) ?_
          exact hn (fun q => absurd (q x h0 (by omega)).2 (by omega))
theorem c_SsharesRoom {a : Nat} {t b : Int} {E K R T : Nat → Int} (hs : SC h a t E K R T) (h1 : 0 ≤ b) (h2 : b < 24) (hE : ∀ k, sm (E k)) (hT : ∀ k, sm (T k)) : YM l G mX5_sharesRoom 0 0 0 [vr a, vi b] h n (fun r h' n' => ((r = some (vi 1) ∧ ∀ j, 0 ≤ j → j < 3 → ovl E T b j) ∨ (r = some (vi 0) ∧ ¬ ∀ j, 0 ≤ j → j < 3 → ovl E T b j)) ∧ h' = h ∧ n' = n) := by
  refine YM.of kX5_sharesRoom (Nat.le_of_ble_eq_true rfl) (L0 := [some (vr a), some (vi b), none, none]) rfl ?_
  refine y_run kX5_sharesRoom rfl ?_
  exact s_shares hs h1 h2 hE hT (fun q => ⟨Or.inl ⟨rfl, q⟩, rfl, rfl⟩) (fun q => ⟨Or.inr ⟨rfl, q⟩, rfl, rfl⟩) 3 0 none (by omega) (by omega) (fun j j0 j1 => absurd j1 (by omega))
end C5
