/-- the ends, box v moved by e along axis x -/
def shE (E : Nat → Int) (v x e : Int) : Nat → Int := fun j => if (j : Int) = v * 6 + 2 * x ∨ (j : Int) = v * 6 + 2 * x + 1 then E j + e else E j
def shT (E : Nat → Int) (v x e : Int) : Nat → Int := fun j => shE E v x e ((v * 6).toNat + j)
/-- box v, moved by e along axis x, lies in the room and shares room with none -/
def goOK (t : Int) (E : Nat → Int) (v x e : Int) : Prop := 0 ≤ E (v * 6 + 2 * x).toNat + e ∧ E (v * 6 + 2 * x + 1).toNat + e ≤ 32 ∧ ∀ b, 0 ≤ b → b < 24 → ¬ wayP t E (shT E v x e) v b
theorem ovl_congr {E E' T T' : Nat → Int} {b j : Int} (hb : 0 ≤ b) (hb2 : b < 24) (hj : 0 ≤ j) (hj2 : j < 3) (hE : ∀ k : Nat, b * 6 ≤ k → (k : Int) < b * 6 + 6 → E k = E' k) (hT : ∀ k : Nat, k < 6 → T k = T' k) : ovl E T b j ↔ ovl E' T' b j := by
  unfold ovl
  rw [hT (2 * j).toNat (by omega), hT (2 * j + 1).toNat (by omega), hE (b * 6 + 2 * j).toNat (by omega) (by omega), hE (b * 6 + 2 * j + 1).toNat (by omega) (by omega)]
theorem wayP_congr {t v b : Int} {E E' T T' : Nat → Int} (hb : 0 ≤ b) (hb2 : b < 24) (hE : b ≠ v → ∀ k : Nat, b * 6 ≤ k → (k : Int) < b * 6 + 6 → E k = E' k) (hT : ∀ k : Nat, k < 6 → T k = T' k) : wayP t E T v b ↔ wayP t E' T' v b := by
  unfold wayP
  constructor
  · rintro ⟨q1, q2, q3⟩
    exact ⟨q1, q2, fun j j0 j1 => (ovl_congr hb hb2 j0 j1 (hE q1) hT).mp (q3 j j0 j1)⟩
  · rintro ⟨q1, q2, q3⟩
    exact ⟨q1, q2, fun j j0 j1 => (ovl_congr hb hb2 j0 j1 (hE q1) hT).mpr (q3 j j0 j1)⟩
theorem shE_off {E : Nat → Int} {v x e : Int} {k : Nat} (h0 : 0 ≤ x) (h1 : x < 3) (hk : (k : Int) < v * 6 ∨ v * 6 + 6 ≤ k) : shE E v x e k = E k := by
  unfold shE
  rw [if_neg (by omega)]
theorem shE_cp {E T : Nat → Int} {v x e e' : Int} (hv : 0 ≤ v) (h0 : 0 ≤ x) (h1 : x < 3) (hT : ∀ k : Nat, k < 6 → T k = shT E v x e' k) : cpZ T (shE E v x e) 0 (v * 6).toNat 6 = shE E v x e' := by
  funext j
  unfold cpZ
  by_cases c : (v * 6).toNat ≤ j ∧ j < (v * 6).toNat + 6
  · rw [if_pos c, hT _ (by omega)]
    unfold shT
    rw [show (v * 6).toNat + (0 + (j - (v * 6).toNat)) = j by omega]
  · rw [if_neg c, shE_off h0 h1 (by omega), shE_off h0 h1 (by omega)]
section C7
variable {l : Launch} {G : xG} {n : Nat}
set_option maxHeartbeats 1000000 in
theorem s_go {Φ : Option xV → yH → Nat → Prop} {h0 : yH} {a : Nat} {t v x s M : Int} {E K R : Nat → Int} (hv1 : 0 ≤ v) (hv2 : v < 24) (hx1 : 0 ≤ x) (hx2 : x < 3) (hs : s = 1 ∨ s = -1) (hM2 : M ≤ 32) (hb : tbt t v.toNat = true) (hE : ∀ j, 0 ≤ E j ∧ E j ≤ 32) (hwd : E (v * 6 + 2 * x).toNat ≤ E (v * 6 + 2 * x + 1).toNat)
    (hΦ : ∀ (w : Int) (h' : yH) (T' : Nat → Int), 0 ≤ w → w ≤ M → (∀ i, 1 ≤ i → i ≤ w → goOK t E v x (s * i)) → (w = M ∨ ¬ goOK t E v x (s * (w + 1))) → SC h' a t (shE E v x (s * w)) K R T' → (∀ j, -1 ≤ T' j ∧ T' j ≤ 33) → (∀ q, q < a ∨ a + 5 ≤ q → h' q = h0 q) → Φ (some (vi w)) h' n) :
    ∀ (m : Nat) (k : Int) (T : Nat → Int) (h : yH) (u : Option xV), k = M - (m : Int) → 0 ≤ k → (∀ i, 1 ≤ i → i ≤ k → goOK t E v x (s * i)) → (∀ j, 0 ≤ shE E v x (s * k) j ∧ shE E v x (s * k) j ≤ 32) → (∀ j : Nat, j < 6 → T j = shT E v x (s * k) j) → (∀ j, -1 ≤ T j ∧ T j ≤ 33) → SC h a t (shE E v x (s * k)) K R T → (∀ q, q < a ∨ a + 5 ≤ q → h q = h0 q) →
      YW l G mX5_go 3 0 0 Φ 21 [some (vr a), some (vi v), some (vi x), some (vi s), some (vi M), some (vi k), u] [] h n := by
  intro m
  induction m with
  | zero =>
    intro k T h u hk hk0 hok hEk hTk hT hsc hfr
    have e : k = M := by omega
    subst e
    refine y_run kX5_go rfl ?_
    refine y_ic_ge kX5_go rfl rfl (fun c1 => ?_) (fun c1 => absurd c1 (by omega))
    refine y_run kX5_go rfl ?_
    exact y_ir kX5_go rfl rfl (hΦ k h T hk0 (by omega) hok (Or.inl rfl) hsc hT hfr)
  | succ m ih =>
    intro k T h u hk hk0 hok hEk hTk hT hsc hfr
    have hstep : s * (k + 1) = s * k + s := by rw [Int.mul_add, Int.mul_one]
    generalize he : s * k = e at *
    have hs1 : -1 ≤ s ∧ s ≤ 1 := by rcases hs with rfl | rfl <;> omega
    have q0 : T (2 * x).toNat = E (v * 6 + 2 * x).toNat + e := by
      rw [hTk _ (by omega)]
      unfold shT shE
      rw [if_pos (by omega), show (v * 6).toNat + (2 * x).toNat = (v * 6 + 2 * x).toNat by omega]
    have q1 : T (2 * x + 1).toNat = E (v * 6 + 2 * x + 1).toNat + e := by
      rw [hTk _ (by omega)]
      unfold shT shE
      rw [if_pos (by omega), show (v * 6).toNat + (2 * x + 1).toNat = (v * 6 + 2 * x + 1).toNat by omega]
    obtain ⟨b1, b2⟩ := hT (2 * x).toNat
    obtain ⟨b3, b4⟩ := hT (2 * x + 1).toNat
    have hE1 := hEk (v * 6 + 2 * x).toNat
    have hE2 := hEk (v * 6 + 2 * x + 1).toNat
    have f1 : shE E v x e (v * 6 + 2 * x).toNat = E (v * 6 + 2 * x).toNat + e := by unfold shE; rw [if_pos (by omega)]
    have f2 : shE E v x e (v * 6 + 2 * x + 1).toNat = E (v * 6 + 2 * x + 1).toNat + e := by unfold shE; rw [if_pos (by omega)]
    rw [f1] at hE1
    rw [f2] at hE2
    obtain ⟨T2, hT2⟩ : ∃ T2 : Nat → Int, T2 = upZ (upZ T (2 * x).toNat (T (2 * x).toNat + s)) (2 * x + 1).toNat (upZ T (2 * x).toNat (T (2 * x).toNat + s) (2 * x + 1).toNat + s) := ⟨_, rfl⟩
    have g0 : T2 (2 * x).toNat = E (v * 6 + 2 * x).toNat + (e + s) := by
      rw [hT2]
      unfold upZ
      rw [if_neg (by omega), if_pos rfl]
      omega
    have g1 : T2 (2 * x + 1).toNat = E (v * 6 + 2 * x + 1).toNat + (e + s) := by
      rw [hT2]
      unfold upZ
      rw [if_pos rfl, if_neg (by omega)]
      omega
    have g2 : ∀ j, j ≠ (2 * x).toNat → j ≠ (2 * x + 1).toNat → T2 j = T j := fun j j1 j2 => by
      rw [hT2]
      unfold upZ
      rw [if_neg j2, if_neg j1]
    have hT2b : ∀ j, -1 ≤ T2 j ∧ T2 j ≤ 33 := fun j => by
      by_cases c1 : j = (2 * x).toNat
      · rw [c1, g0]; omega
      · by_cases c2 : j = (2 * x + 1).toNat
        · rw [c2, g1]; omega
        · rw [g2 j c1 c2]; exact hT j
    have hT2k : ∀ j : Nat, j < 6 → T2 j = shT E v x (e + s) j := fun j hj => by
      by_cases c1 : j = (2 * x).toNat
      · rw [c1, g0]
        unfold shT shE
        rw [if_pos (by omega), show (v * 6).toNat + (2 * x).toNat = (v * 6 + 2 * x).toNat by omega]
      · by_cases c2 : j = (2 * x + 1).toNat
        · rw [c2, g1]
          unfold shT shE
          rw [if_pos (by omega), show (v * 6).toNat + (2 * x + 1).toNat = (v * 6 + 2 * x + 1).toNat by omega]
        · rw [g2 j c1 c2, hTk j hj]
          unfold shT shE
          rw [if_neg (by omega), if_neg (by omega)]
    have hsc2 : SC (yup h (a + 4) (ai 6 T2)) a t (shE E v x e) K R T2 := hsc.up4 T2
    have hfr2 : ∀ q, q < a ∨ a + 5 ≤ q → yup h (a + 4) (ai 6 T2) q = h0 q := fun q hq => (yup_ne _ _ (by omega)).trans (hfr q hq)
    have hway : ∀ b, 0 ≤ b → b < 24 → (wayP t (shE E v x e) T2 v b ↔ wayP t E (shT E v x (e + s)) v b) := fun b b0 b1 => wayP_congr b0 b1 (fun hne k k0 k1 => shE_off hx1 hx2 (by omega)) hT2k
    have stop : ¬ goOK t E v x (e + s) → Φ (some (vi k)) (yup h (a + 4) (ai 6 T2)) n := fun q => hΦ k _ T2 hk0 (by omega) hok (Or.inr (by rw [hstep]; exact q)) (by rw [he]; exact hsc2) hT2b hfr2
    obtain ⟨hs0, hse, hsk, hsr, hst⟩ := hsc
    refine y_run kX5_go rfl ?_
    refine y_ic_ge kX5_go rfl rfl (fun c1 => absurd c1 (by omega)) (fun c1 => ?_)
    refine y_run kX5_go rfl ?_
    refine y_get kX5_go rfl rfl hs0 rfl ?_
    refine y_run kX5_go rfl ?_
    refine y_ia kX5_go rfl hst (by omega) (by omega) ?_
    refine y_run kX5_go rfl ?_
    refine y_is kX5_go rfl hst (by omega) (by omega) ?_
    refine y_run kX5_go rfl ?_
    refine y_get kX5_go rfl rfl ((yup_ne _ _ (by omega)).trans hs0) rfl ?_
    refine y_run kX5_go rfl ?_
    refine y_ia kX5_go rfl (yup_eq _ _ _) (by omega) (by omega) ?_
    refine y_run kX5_go rfl ?_
    refine y_is2 kX5_go rfl (by omega) (by omega) ?_
    rw [← hT2]
    refine y_run kX5_go rfl ?_
    refine y_get kX5_go rfl rfl hsc2.1 rfl ?_
    refine y_run kX5_go rfl ?_
    refine y_ie kX5_go rfl (yup_eq _ _ _) (by omega) (by omega) g0 ?_
    refine y_if_lt kX5_go rfl rfl (fun c2 => ?_) (fun c2 => ?_)
    · refine y_run kX5_go rfl ?_
      refine y_if_eq kX5_go rfl rfl (fun c3 => ?_) (fun c3 => absurd rfl c3)
      refine y_run kX5_go rfl ?_
      exact y_ir kX5_go rfl rfl (stop (fun q => absurd q.1 (by omega)))
    · refine y_run kX5_go rfl ?_
      refine y_get kX5_go rfl rfl hsc2.1 rfl ?_
      refine y_run kX5_go rfl ?_
      refine y_ie kX5_go rfl (yup_eq _ _ _) (by omega) (by omega) g1 ?_
      refine y_run kX5_go rfl ?_
      refine y_ic_gt kX5_go rfl rfl (fun c4 => ?_) (fun c4 => ?_)
      · refine y_run kX5_go rfl ?_
        refine y_if_eq kX5_go rfl rfl (fun c5 => ?_) (fun c5 => absurd rfl c5)
        refine y_run kX5_go rfl ?_
        exact y_ir kX5_go rfl rfl (stop (fun q => absurd q.2.1 (by omega)))
      · refine y_run kX5_go rfl ?_
        refine y_if_eq kX5_go rfl rfl (fun c6 => absurd c6 (by omega)) (fun c6 => ?_)
        refine y_run kX5_go rfl ?_
        refine y_cv kX5_go kX5_lowestInTheWay 1 (rest := []) rfl hsc2.1 (by decide +kernel) (c_Slowest hsc2 (v := v) ⟨by omega, by omega⟩ (fun j => ⟨by have := hEk j; omega, by have := hEk j; omega⟩) (fun j => ⟨by have := hT2b j; omega, by have := hT2b j; omega⟩)) rfl rfl ?_
        rintro r h' n' ⟨⟨z, rfl, hz⟩, rfl, rfl⟩
        refine y_run kX5_go rfl ?_
        have hzb : -1 ≤ z ∧ z < 24 := by rcases hz with ⟨a1, a2, -⟩ | ⟨a1, -⟩ <;> omega
        refine y_ic_eq kX5_go rfl rfl (fun c7 => ?_) (fun c7 => ?_)
        · have hnone : ∀ b, 0 ≤ b → b < 24 → ¬ wayP t (shE E v x e) T2 v b := by
            rcases hz with ⟨a1, -⟩ | ⟨-, a2⟩
            · omega
            · exact a2
          have hgo : goOK t E v x (e + s) := ⟨by omega, by omega, fun b b0 b1 q => hnone b b0 b1 ((hway b b0 b1).mpr q)⟩
          refine y_run kX5_go rfl ?_
          refine y_cv kX5_go kX5_settle 1 (rest := []) rfl hsc2.1 (by decide +kernel) (c_Ssettle hsc2 hv1 hv2) rfl rfl ?_
          rintro r h' n' ⟨rfl, hsc3, hfr3, rfl⟩
          rw [if_pos hb, if_pos hb, shE_cp hv1 hx1 hx2 hT2k] at hsc3
          refine y_run kX5_go rfl ?_
          refine ih (k + 1) T2 h' _ (by omega) (by omega) (fun i i1 i2 => ?_) ?_ ?_ hT2b ?_ (fun q hq => (hfr3 q hq).trans (hfr2 q hq))
          · by_cases c : i = k + 1
            · rw [c, hstep]; exact hgo
            · exact hok i i1 (by omega)
          · intro j
            rw [hstep]
            unfold shE
            by_cases c : (j : Int) = v * 6 + 2 * x ∨ (j : Int) = v * 6 + 2 * x + 1
            · rw [if_pos c]
              rcases c with c | c
              · rw [show j = (v * 6 + 2 * x).toNat by omega]; omega
              · rw [show j = (v * 6 + 2 * x + 1).toNat by omega]; omega
            · rw [if_neg c]; exact hE j
          · rw [hstep]; exact hT2k
          · rw [hstep]; exact hsc3
        · have hsome : ¬ goOK t E v x (e + s) := fun q => by
            rcases hz with ⟨a1, a2, a3, -⟩ | ⟨a1, -⟩
            · exact q.2.2 z a1 a2 ((hway z a1 a2).mp a3)
            · omega
          refine y_run kX5_go rfl ?_
          exact y_ir kX5_go rfl rfl (stop hsome)
end C7
section C8
variable {l : Launch} {G : xG} {h : yH} {n : Nat}
theorem shE_0 (E : Nat → Int) (v x : Int) : shE E v x 0 = E := by
  funext j
  unfold shE
  split <;> omega
theorem c_Sgo {a : Nat} {t v x s M : Int} {E K R T : Nat → Int} (hsc : SC h a t E K R T) (hv1 : 0 ≤ v) (hv2 : v < 24) (hx1 : 0 ≤ x) (hx2 : x < 3) (hs : s = 1 ∨ s = -1) (hM1 : 0 ≤ M) (hM2 : M ≤ 32) (hb : tbt t v.toNat = true) (hE : ∀ j, 0 ≤ E j ∧ E j ≤ 32) (hwd : E (v * 6 + 2 * x).toNat ≤ E (v * 6 + 2 * x + 1).toNat) (hT : ∀ j, -1 ≤ T j ∧ T j ≤ 33) :
    YM l G mX5_go 3 0 0 [vr a, vi v, vi x, vi s, vi M] h n (fun r h' n' => ∃ (w : Int) (T' : Nat → Int), r = some (vi w) ∧ 0 ≤ w ∧ w ≤ M ∧ (∀ i, 1 ≤ i → i ≤ w → goOK t E v x (s * i)) ∧ (w = M ∨ ¬ goOK t E v x (s * (w + 1))) ∧ SC h' a t (shE E v x (s * w)) K R T' ∧ (∀ j, -1 ≤ T' j ∧ T' j ≤ 33) ∧ (∀ q, q < a ∨ a + 5 ≤ q → h' q = h q) ∧ n' = n) := by
  refine YM.of kX5_go (Nat.le_of_ble_eq_true rfl) (L0 := [some (vr a), some (vi v), some (vi x), some (vi s), some (vi M), none, none]) rfl ?_
  refine y_run kX5_go rfl ?_
  refine y_get kX5_go rfl rfl hsc.1 rfl ?_
  refine y_run kX5_go rfl ?_
  refine y_get kX5_go rfl rfl hsc.1 rfl ?_
  refine y_run kX5_go rfl ?_
  refine y_copy kX5_go rfl (by decide +kernel) hsc.2.1 hsc.2.2.2.2 (by omega) (by omega) (by omega) (by omega) (by omega) (by omega) (by omega) ?_
  refine y_run kX5_go rfl ?_
  have hcp : ∀ j : Nat, j < 6 → cpZ E T (v * 6).toNat 0 6 j = E ((v * 6).toNat + j) := fun j hj => by
    unfold cpZ
    rw [if_pos (by omega)]
    congr 1
  refine s_go (h0 := h) hv1 hv2 hx1 hx2 hs hM2 hb hE hwd (fun w h' T' a1 a2 a3 a4 a5 a6 a7 => ⟨w, T', rfl, a1, a2, a3, a4, a5, a6, a7, rfl⟩) M.toNat 0 (cpZ E T (v * 6).toNat 0 6) _ none (by omega) (by omega) (fun i i1 i2 => absurd i2 (by omega)) ?_ ?_ ?_ ?_ (fun q hq => yup_ne _ _ (by omega))
  · rw [Int.mul_zero, shE_0]; exact hE
  · intro j hj
    rw [hcp j hj, Int.mul_zero]
    unfold shT
    rw [shE_0]
  · intro j
    by_cases c : j < 6
    · rw [hcp j c]; have := hE ((v * 6).toNat + j); omega
    · unfold cpZ
      rw [if_neg (by omega)]
      exact hT j
  · rw [Int.mul_zero, shE_0]
    exact hsc.up4 _
end C8
