/-! gather over all, begin -/
section C80k
variable {l : Launch} {G : xG} {h h0 : yH} {n : Nat} {b : Nat} {g : yH} {i0 i1 i2 i3 i4 i5 i6 : Int} {B J : Nat → Int} {C Q : Nat → Int}
theorem s_gather2E (hf : RF b g B J i0 i1 i2 i3 i4 i5 i6) {Φ : Option xV → yH → Nat → Prop} {y1 y2 y3 y6 y7 : Option xV} {xa xb yf : Int} (a1 : -1000 ≤ xa) (a2 : xa ≤ 1000) (a3 : -1000 ≤ xb) (a4 : xb ≤ 1000) (e45 : h0 (b + 545) = some (ai 1024 Q)) (hQb : ∀ j, -1 ≤ Q j ∧ Q j ≤ 127) (kk : ∀ (u9 : Option xV) (X : Nat → Int) (h : yH), MI b g h → h (b + 548) = some (ai 128 X) → (∀ j : Nat, j < 128 → X j = exX Q xa xb (j : Int)) → (∀ z, z ≠ b + 548 → h z = h0 z) → YW l G mX7_gather 2 0 0 Φ 167 [some (vr (b + 540)), y1, y2, y3, some (vi xa), some (vi xb), y6, y7, some (vi yf), u9] [] h n) : ∀ (m : Nat) (q : Int) (X : Nat → Int) (h : yH), (128 - q).toNat < m → 0 ≤ q → q ≤ 128 → MI b g h → h (b + 548) = some (ai 128 X) → (∀ j : Nat, (j : Int) < q → X j = exX Q xa xb (j : Int)) → (∀ z, z ≠ b + 548 → h z = h0 z) → YW l G mX7_gather 2 0 0 Φ 110 [some (vr (b + 540)), y1, y2, y3, some (vi xa), some (vi xb), y6, y7, some (vi yf), some (vi q)] [] h n := by
  intro m
  induction m with
  | zero => intro q X h hm; exact absurd hm (Nat.not_lt_zero _)
  | succ m ih =>
    intro q X h hmm j0 j1 hI e48 hX hfr
    obtain ⟨hm, -⟩ := id hf
    have f45 : h (b + 545) = some (ai 1024 Q) := (hfr _ (by omega)).trans e45
    have hXb : ∀ j, -100000 ≤ X j ∧ X j ≤ 100000 := by
      obtain ⟨F, e, hF⟩ := hI.i (k := 548) (N := 128) (lo := -100000) (hi := 100000) rfl
      rw [ai_inj e48 e]
      exact hF
    have hq := hQb (8 * q).toNat
    have up : ∀ v : Int, v = exX Q xa xb q → ∀ j : Nat, (j : Int) < q + 1 → upZ X q.toNat v j = exX Q xa xb (j : Int) := fun v ev j hj => by
      unfold upZ
      by_cases k : j = q.toNat
      · rw [if_pos k, show ((j : Nat) : Int) = q by omega, ev]
      · rw [if_neg k]; exact hX j (by omega)
    refine y_run kX7_gather rfl ?_
    refine y_ic_ge kX7_gather rfl rfl (fun c1 => ?_) (fun c1 => ?_)
    · exact kk _ X h hI e48 (fun j hj => hX j (by omega)) hfr
    · refine y_run kX7_gather rfl ?_
      refine m_get kX7_gather (540) hI hm ?_
      refine y_run kX7_gather rfl ?_
      refine m_get kX7_gather (540) hI hm ?_
      refine y_run kX7_gather rfl ?_
      refine y_ia kX7_gather rfl f45 (by omega) (by omega) ?_
      refine y_run kX7_gather rfl ?_
      refine y_ic_ne kX7_gather rfl rfl (fun c2 => ?_) (fun c2 => ?_)
      · refine y_run kX7_gather rfl ?_
        refine m_get kX7_gather (540) hI hm ?_
        refine y_run kX7_gather rfl ?_
        refine y_cs kX7_gather kX7_exit 4 rfl (by decide +kernel) (c_mexit f45 (by omega) (by omega) (by omega) (fun j => ⟨by have := hQb j; omega, by have := hQb j; omega⟩) ⟨by omega, by omega⟩ ⟨by omega, by omega⟩) rfl rfl ?_
        rintro _ h2 _ ⟨rfl, eh, rfl⟩
        subst eh
        have mb := mex_small (hQb (8 * q + 1).toNat) (hQb (8 * q + 1 + 1).toNat) (hQb (8 * q + 1 + 2).toNat) (hQb (8 * q + 1 + 3).toNat) (hQb (8 * q + 1 + 4).toNat) (hQb (8 * q + 1 + 5).toNat) (a := xa) (b := xb) ⟨a1, a2⟩ ⟨a3, a4⟩
        have ev : mex (Q (8 * q + 1).toNat) (Q (8 * q + 1 + 1).toNat) (Q (8 * q + 1 + 2).toNat) (Q (8 * q + 1 + 3).toNat) (Q (8 * q + 1 + 4).toNat) (Q (8 * q + 1 + 5).toNat) xa xb = exX Q xa xb q := by
          unfold exX
          rw [if_neg c2]
        rw [ev] at mb
        rw [ev]
        refine y_is kX7_gather rfl e48 (by omega) (by omega) ?_
        refine y_run kX7_gather rfl ?_
        exact ih _ _ _ (by omega) (by omega) (by omega) (hI.up (k := 548) rfl ⟨_, rfl, upZ_all (P := fun x => -100000 ≤ x ∧ x ≤ 100000) hXb _ mb⟩) (yup_eq _ _ _) (up _ rfl) (fun z hz => (yup_ne _ _ hz).trans (hfr z hz))
      · refine y_run kX7_gather rfl ?_
        refine y_is kX7_gather rfl e48 (by omega) (by omega) ?_
        refine y_run kX7_gather rfl ?_
        refine ih _ _ _ (by omega) (by omega) (by omega) (hI.up (k := 548) rfl ⟨_, rfl, upZ_all (P := fun x => -100000 ≤ x ∧ x ≤ 100000) hXb _ (by omega)⟩) (yup_eq _ _ _) (up _ ?_) (fun z hz => (yup_ne _ _ hz).trans (hfr z hz))
        unfold exX
        rw [if_pos c2]
/-- the rays of a pixel -/
def aX (x : Int) : Int := 2 * (x / 64 - 64) + 2 * (x % 64 - 32) + 1
def aY (x : Int) : Int := 2 * (x / 64 - 64) - 2 * (x % 64 - 32) - 1
/-- at the pixel x: i before j -/
def seeP (Q : Nat → Int) (x : Int) (i j : Nat) : Prop := ∃ p, p < 128 ∧ wiQ (fun q => exX Q (aX x) (aY x) (q : Int)) p 128 i j
def PGa (b : Nat) (g h0 : yH) (n : Nat) (C : Nat → Int) (R : Nat → Nat → Prop) : Option xV → yH → Nat → Prop := fun r h' n' => ∃ C', r = none ∧ MI b g h' ∧ h' (b + 546) = some (az 16384 C') ∧ (∀ z, z ≠ b + 546 → z ≠ b + 548 → h' z = h0 z) ∧ (∀ i j, i < 128 → j < 128 → (C' (128 * i + j) = 1 ↔ C (128 * i + j) = 1 ∨ R i j)) ∧ n' = n
theorem wiQ_cg {X X' : Nat → Int} (e : ∀ j, j < 128 → X j = X' j) {p i j : Nat} (hp : p < 128) (hi : i < 128) (hj : j < 128) : wiQ X p 128 i j ↔ wiQ X' p 128 i j := by
  unfold wiQ
  rw [e p hp, e i hi, e j hj]
theorem s_gather1E (hf : RF b g B J i0 i1 i2 i3 i4 i5 i6) {x2 : Int} (e45 : h0 (b + 545) = some (ai 1024 Q)) (hQb : ∀ j, -1 ≤ Q j ∧ Q j ≤ 127) : ∀ (m : Nat) (q : Int) (u4 : Option xV) (u5 : Option xV) (u6 : Option xV) (u7 : Option xV) (u8 : Option xV) (u9 : Option xV) (C' : Nat → Int) (h : yH), (8192 - q).toNat < m → 0 ≤ q → q ≤ 8192 → MI b g h → h (b + 546) = some (az 16384 C') → (∀ z, z ≠ b + 546 → z ≠ b + 548 → h z = h0 z) → (∀ i j, i < 128 → j < 128 → (C' (128 * i + j) = 1 ↔ C (128 * i + j) = 1 ∨ ∃ x : Int, 0 ≤ x ∧ x < q ∧ seeP Q x i j)) → YW l G mX7_gather 2 0 0 (PGa b g h0 n C (fun i j => ∃ x : Int, 0 ≤ x ∧ x < 8192 ∧ seeP Q x i j)) 2 [some (vr (b + 540)), some (vi (-1)), some (vi x2), some (vi q), u4, u5, u6, u7, u8, u9] [] h n := by
  intro m
  induction m with
  | zero => intro q u4 u5 u6 u7 u8 u9 C' h hm; exact absurd hm (Nat.not_lt_zero _)
  | succ m ih =>
    intro q u4 u5 u6 u7 u8 u9 C' h hmm j0 j1 hI e46 hfr hC
    obtain ⟨hm, -⟩ := id hf
    refine y_run kX7_gather rfl ?_
    refine y_ic_ge kX7_gather rfl rfl (fun c1 => ?_) (fun c1 => ?_)
    · have e : q = 8192 := by omega
      subst e
      exact y_vr kX7_gather rfl rfl ⟨C', rfl, hI, e46, hfr, hC, rfl⟩
    · refine y_run kX7_gather rfl ?_
      refine y_cs kX7_gather kX7_alongX 1 rfl (by decide +kernel) (c_malongX (by omega) (by omega)) rfl rfl ?_
      rintro _ h2 _ ⟨rfl, eh, rfl⟩
      subst eh
      refine y_run kX7_gather rfl ?_
      refine y_cs kX7_gather kX7_alongY 1 rfl (by decide +kernel) (c_malongY (by omega) (by omega)) rfl rfl ?_
      rintro _ h2 _ ⟨rfl, eh, rfl⟩
      subst eh
      refine y_run kX7_gather rfl ?_
      refine y_ic_ne kX7_gather rfl rfl (fun c2 => absurd rfl c2) (fun c2 => ?_)
      refine y_run kX7_gather rfl ?_
      refine y_if_eq kX7_gather rfl rfl (fun c8 => absurd c8 (by omega)) (fun c8 => ?_)
      refine y_run kX7_gather rfl ?_
      refine y_if_eq kX7_gather rfl rfl (fun c9 => absurd c9 (by omega)) (fun c9 => ?_)
      refine y_run kX7_gather rfl ?_
      refine y_if_ne kX7_gather rfl rfl (fun c10 => ?_) (fun c10 => absurd c10 (by omega))
      refine y_run kX7_gather rfl ?_
      obtain ⟨X0, e48, -⟩ := hI.i (k := 548) (N := 128) (lo := -100000) (hi := 100000) rfl
      refine s_gather2E (h0 := _) hf (by omega) (by omega) (by omega) (by omega) ((hfr _ (by omega) (by omega)).trans e45) hQb (fun u9 X h3 hI3 e3 hX3 hfr3 => ?_) 129 0 X0 _ (by omega) (by omega) (by omega) hI e48 (fun j hj => absurd hj (by omega)) (fun _ _ => rfl)
      refine y_run kX7_gather rfl ?_
      refine y_if_eq kX7_gather rfl rfl (fun c1 => absurd c1 (by omega)) (fun c1 => ?_)
      refine y_run kX7_gather rfl ?_
      refine y_cv kX7_gather kX7_pairs 0 rfl (hI3.x (k := 540) rfl hm) (by decide +kernel) (e_pairs hf hI3 e3 ((hfr3 _ (by omega)).trans e46)) rfl rfl ?_
      rintro _ h4 _ ⟨C4, rfl, hI4, e4, hfr4, hC4, rfl⟩
      refine y_run kX7_gather rfl ?_
      refine ih _ _ _ _ _ _ _ C4 h4 (by omega) (by omega) (by omega) hI4 e4 (fun z z1 z2 => (hfr4 z z1).trans ((hfr3 z z2).trans (hfr z z1 z2))) (fun i j hi hj => ?_)
      have hs : (∃ p, p < 128 ∧ wiQ X p 128 i j) ↔ seeP Q q i j := by
        unfold seeP
        constructor
        · rintro ⟨p, p1, k⟩; exact ⟨p, p1, (wiQ_cg hX3 p1 hi hj).mp k⟩
        · rintro ⟨p, p1, k⟩; exact ⟨p, p1, (wiQ_cg hX3 p1 hi hj).mpr k⟩
      have h9 := hC4 i j hi hj
      dsimp only at h9
      rw [h9, hC i j hi hj, hs]
      constructor
      · rintro ((k | ⟨x, x0, x1, k⟩) | k)
        · exact Or.inl k
        · exact Or.inr ⟨x, x0, by omega, k⟩
        · exact Or.inr ⟨q, j0, by omega, k⟩
      · rintro (k | ⟨x, x0, x1, k⟩)
        · exact Or.inl (Or.inl k)
        · by_cases z : x = q
          · subst z; exact Or.inr k
          · exact Or.inl (Or.inr ⟨x, x0, by omega, k⟩)
theorem e_gather (hf : RF b g B J i0 i1 i2 i3 i4 i5 i6) {x2 : Int} (hI : MI b g h) (e45 : h (b + 545) = some (ai 1024 Q)) (e46 : h (b + 546) = some (az 16384 C)) : YM l G mX7_gather 2 0 0 [vr (b + 540), vi (-1), vi x2] h n (PGa b g h n C (fun i j => ∃ x : Int, 0 ≤ x ∧ x < 8192 ∧ seeP Q x i j)) := by
  refine YM.of kX7_gather (Nat.le_of_ble_eq_true rfl) (L0 := [some (vr (b + 540)), some (vi (-1)), some (vi x2), none, none, none, none, none, none, none]) rfl ?_
  have hQb : ∀ j, -1 ≤ Q j ∧ Q j ≤ 127 := by
    obtain ⟨F, e, hF⟩ := hI.i (k := 545) (N := 1024) (lo := -1) (hi := 127) rfl
    rw [ai_inj e45 e]
    exact hF
  refine y_run kX7_gather rfl ?_
  refine s_gather1E hf e45 hQb 8193 0 _ _ _ _ _ _ C h (by omega) (by omega) (by omega) hI e46 (fun _ _ _ => rfl) (fun i j _ _ => ⟨Or.inl, fun k => ?_⟩)
  rcases k with k | ⟨x, x0, x1, k⟩
  · exact k
  · omega
/-- what begin makes of box v -/
def pcQ (B Q : Nat → Int) (v : Nat) : Prop := (mT B (v : Int) ∧ Q (8 * v) = (v : Int) ∧ Q (8 * v + 7) = 0 ∧ ∀ k, 1 ≤ k → k < 7 → Q (8 * v + k) = B (11 * v + k)) ∨ (¬ mT B (v : Int) ∧ Q (8 * v) = -1 ∧ Q (8 * v + 7) = 0)
theorem s_begin2E (hf : RF b g B J i0 i1 i2 i3 i4 i5 i6) {Φ : Option xV → yH → Nat → Prop} {p : Nat} (p2 : p < 128) (kk : ∀ (u2 : Option xV) (Q' : Nat → Int) (h : yH), MI b g h → h (b + 545) = some (ai 1024 Q') → (∀ j, (j < 8 * p + 1 ∨ 8 * p + 7 ≤ j) → Q' j = Q j) → (mT B (p : Int) → ∀ k, 1 ≤ k → k < 7 → Q' (8 * p + k) = B (11 * p + k)) → (∀ z, z ≠ b + 545 → h z = h0 z) → YW l G mX7_begin 3 0 0 Φ 92 [some (vr (b + 540)), some (vi (p : Int)), u2] [] h n) : ∀ (m : Nat) (q : Nat) (Q' : Nat → Int) (h : yH), 7 - q < m → 1 ≤ q → q ≤ 7 → MI b g h → h (b + 545) = some (ai 1024 Q') → (∀ j, (j < 8 * p + 1 ∨ 8 * p + 7 ≤ j) → Q' j = Q j) → (mT B (p : Int) → ∀ k, 1 ≤ k → k < q → Q' (8 * p + k) = B (11 * p + k)) → (∀ z, z ≠ b + 545 → h z = h0 z) → YW l G mX7_begin 3 0 0 Φ 46 [some (vr (b + 540)), some (vi (p : Int)), some (vi (q : Int))] [] h n := by
  intro m
  induction m with
  | zero => intro q Q' h hm; exact absurd hm (Nat.not_lt_zero _)
  | succ m ih =>
    intro q Q' h hmm j0 j1 hI e45 hQ1 hQ2 hfr
    obtain ⟨hm, hB, hJ, hBb, -⟩ := id hf
    have hQb : ∀ j, -1 ≤ Q' j ∧ Q' j ≤ 127 := by
      obtain ⟨F, e, hF⟩ := hI.i (k := 545) (N := 1024) (lo := -1) (hi := 127) rfl
      rw [ai_inj e45 e]
      exact hF
    have cast : (q : Int) + 1 = ((q + 1 : Nat) : Int) := by omega
    have go : ∀ v : Int, 0 ≤ v → v ≤ 32 → q < 7 → (mT B (p : Int) → v = B (11 * p + q)) → YW l G mX7_begin 3 0 0 Φ 46 [some (vr (b + 540)), some (vi (p : Int)), some (vi ((q : Int) + 1))] [] (yup h (b + 545) (ai 1024 (upZ Q' (8 * (p : Int) + (q : Int)).toNat v))) n := fun v v0 v1 q7 hv => by
      refine YW.Le (congrArg (fun z : Int => [some (vr (b + 540)), some (vi (p : Int)), some (vi z)]) cast) ?_
      rw [show (8 * (p : Int) + (q : Int)).toNat = 8 * p + q by omega]
      refine ih (q + 1) _ _ (by omega) (by omega) (by omega) (hI.up (k := 545) rfl ⟨_, rfl, upZ_all (P := fun x => -1 ≤ x ∧ x ≤ 127) hQb _ (by omega)⟩) (yup_eq _ _ _) (fun j hj => ?_) (fun ht k k0 k1 => ?_) (fun z hz => (yup_ne _ _ hz).trans (hfr z hz))
      · rw [upZ_ne _ _ (by omega)]; exact hQ1 j hj
      · by_cases e : k = q
        · subst e; rw [upZ_eq, hv ht]
        · rw [upZ_ne _ _ (by omega)]; exact hQ2 ht k k0 (by omega)
    refine y_run kX7_begin rfl ?_
    refine y_ic_ge kX7_begin rfl rfl (fun c1 => ?_) (fun c1 => ?_)
    · have e : q = 7 := by omega
      subst e
      exact kk _ Q' h hI e45 hQ1 hQ2 hfr
    · refine y_run kX7_begin rfl ?_
      refine m_get kX7_begin (540) hI hm ?_
      refine y_run kX7_begin rfl ?_
      refine y_cv kX7_begin kX7_isThere 1 rfl (hI.x (k := 540) rfl hm) (by decide +kernel) (c_isThere (hI.x (k := 540) rfl hm) (hI.x (k := 541) rfl hB) (fun j => ⟨by have := hBb j; omega, by have := hBb j; omega⟩) ⟨by omega, by omega⟩) rfl rfl ?_
      rintro _ h2 _ ⟨⟨rfl, t1⟩ | ⟨rfl, t1⟩, eh, rfl⟩
      · subst eh
        refine y_if_eq kX7_begin rfl rfl (fun e => absurd e (by omega)) (fun _ => ?_)
        refine y_run kX7_begin rfl ?_
        refine m_get kX7_begin (540) hI hm ?_
        refine y_run kX7_begin rfl ?_
        have t2 := t1.1
        refine y_ia kX7_begin rfl (hI.x (k := 541) rfl hB) (by omega) (by omega) ?_
        refine y_run kX7_begin rfl ?_
        refine y_is kX7_begin rfl e45 (by omega) (by omega) ?_
        refine y_run kX7_begin rfl ?_
        have bb := hBb (11 * (p : Int) + (q : Int)).toNat
        exact go _ bb.1 bb.2 (by omega) (fun _ => by rw [show (11 * (p : Int) + (q : Int)).toNat = 11 * p + q by omega])
      · subst eh
        refine y_if_eq kX7_begin rfl rfl (fun _ => ?_) (fun e => absurd rfl e)
        refine y_run kX7_begin rfl ?_
        refine y_is kX7_begin rfl e45 (by omega) (by omega) ?_
        refine y_run kX7_begin rfl ?_
        exact go 0 (by omega) (by omega) (by omega) (fun z => absurd z t1)
theorem s_begin3E (hf : RF b g B J i0 i1 i2 i3 i4 i5 i6) (e45 : h0 (b + 545) = some (ai 1024 Q)) : ∀ (m : Nat) (q : Nat) (u2 : Option xV) (C' : Nat → Int) (h : yH), 16384 - q < m → q ≤ 16384 → MI b g h → h (b + 546) = some (az 16384 C') → (∀ j, j < q → C' j = 0) → (∀ z, z ≠ b + 546 → h z = h0 z) → YW l G mX7_begin 3 0 0 (PGa b g h0 n (fun _ => 0) (fun i j => ∃ x : Int, 0 ≤ x ∧ x < 8192 ∧ seeP Q x i j)) 100 [some (vr (b + 540)), some (vi (q : Int)), u2] [] h n := by
  intro m
  induction m with
  | zero => intro q u2 C' h hm; exact absurd hm (Nat.not_lt_zero _)
  | succ m ih =>
    intro q u2 C' h hmm j1 hI e46 hC hfr
    obtain ⟨hm, -⟩ := id hf
    refine y_run kX7_begin rfl ?_
    refine y_ic_ge kX7_begin rfl rfl (fun c1 => ?_) (fun c1 => ?_)
    · refine y_run kX7_begin rfl ?_
      refine y_cv kX7_begin kX7_gather 2 rfl (hI.x (k := 540) rfl hm) (by decide +kernel) (e_gather hf hI ((hfr _ (by omega)).trans e45) e46) rfl rfl ?_
      rintro _ h1 _ ⟨C1, rfl, hI1, e1, hfr1, hC1, rfl⟩
      refine y_vr kX7_begin rfl rfl ⟨C1, rfl, hI1, e1, fun z z1 z2 => (hfr1 z z1 z2).trans (hfr z z1), fun i j hi hj => ?_, rfl⟩
      rw [hC1 i j hi hj, hC _ (by omega)]
    · have hCb : ∀ j, C' j = 0 ∨ C' j = 1 := by
        obtain ⟨F, e, hF⟩ := hI.z (k := 546) (N := 16384) (lo := 0) (hi := 0) rfl
        rw [az_inj e46 e]
        exact hF
      refine y_run kX7_begin rfl ?_
      refine m_get kX7_begin (540) hI hm ?_
      refine y_run kX7_begin rfl ?_
      refine y_zs kX7_begin rfl e46 (by omega) (by omega) (Or.inl rfl) ?_
      refine y_run kX7_begin rfl ?_
      refine YW.Le (congrArg (fun z : Int => [some (vr (b + 540)), some (vi z), u2]) (show (q : Int) + 1 = ((q + 1 : Nat) : Int) by omega)) ?_
      refine ih (q + 1) _ _ _ (by omega) (by omega) (hI.up (k := 546) rfl ⟨_, rfl, upZ_all (P := fun x => x = 0 ∨ x = 1) hCb _ (Or.inl rfl)⟩) (yup_eq _ _ _) (fun j hj => ?_) (fun z hz => (yup_ne _ _ hz).trans (hfr z hz))
      unfold upZ
      rw [Int.toNat_natCast]
      split
      · rfl
      · exact hC j (by omega)
theorem s_begin1E (hf : RF b g B J i0 i1 i2 i3 i4 i5 i6) {Φ : Option xV → yH → Nat → Prop} (kk : ∀ (u1 u2 : Option xV) (Q : Nat → Int) (h : yH), MI b g h → h (b + 545) = some (ai 1024 Q) → (∀ v, v < 128 → pcQ B Q v) → (∀ z, z ≠ b + 545 → h z = h0 z) → YW l G mX7_begin 3 0 0 Φ 98 [some (vr (b + 540)), u1, u2] [] h n) : ∀ (m : Nat) (p : Nat) (u2 : Option xV) (Q : Nat → Int) (h : yH), 128 - p < m → p ≤ 128 → MI b g h → h (b + 545) = some (ai 1024 Q) → (∀ v, v < p → pcQ B Q v) → (∀ z, z ≠ b + 545 → h z = h0 z) → YW l G mX7_begin 3 0 0 Φ 2 [some (vr (b + 540)), some (vi (p : Int)), u2] [] h n := by
  intro m
  induction m with
  | zero => intro p u2 Q h hm; exact absurd hm (Nat.not_lt_zero _)
  | succ m ih =>
    intro p u2 Q h hmm j1 hI e45 hQ hfr
    obtain ⟨hm, hB, hJ, hBb, -⟩ := id hf
    have hQb : ∀ j, -1 ≤ Q j ∧ Q j ≤ 127 := by
      obtain ⟨F, e, hF⟩ := hI.i (k := 545) (N := 1024) (lo := -1) (hi := 127) rfl
      rw [ai_inj e45 e]
      exact hF
    refine y_run kX7_begin rfl ?_
    refine y_ic_ge kX7_begin rfl rfl (fun c1 => ?_) (fun c1 => ?_)
    · have e : p = 128 := by omega
      subst e
      exact kk _ _ Q h hI e45 hQ hfr
    · have go : ∀ (v : Int) (h1 : yH), -1 ≤ v → v ≤ 127 → (mT B (p : Int) → v = p) → (¬ mT B (p : Int) → v = -1) → MI b g h1 → h1 (b + 545) = some (ai 1024 (upZ (upZ Q (8 * (p : Int)).toNat v) (8 * (p : Int) + 7).toNat 0)) → (∀ z, z ≠ b + 545 → h1 z = h0 z) → YW l G mX7_begin 3 0 0 Φ 46 [some (vr (b + 540)), some (vi (p : Int)), some (vi 1)] [] h1 n := fun v h1 v0 v1 va vb hI1 e1 hfr1 => by
        rw [show (8 * (p : Int)).toNat = 8 * p by omega, show (8 * (p : Int) + 7).toNat = 8 * p + 7 by omega] at e1
        refine YW.Le (congrArg (fun z : Int => [some (vr (b + 540)), some (vi (p : Int)), some (vi z)]) (show (1 : Int) = ((1 : Nat) : Int) by omega)) ?_
        refine s_begin2E hf (by omega) (fun u2 Q2 h2 hI2 e2 q1 q2 hfr2 => ?_) 8 1 _ h1 (by omega) (by omega) (by omega) hI1 e1 (fun _ _ => rfl) (fun _ k k0 k1 => absurd k1 (by omega)) hfr1
        refine y_run kX7_begin rfl ?_
        refine YW.Le (congrArg (fun z : Int => [some (vr (b + 540)), some (vi z), u2]) (show (p : Int) + 1 = ((p + 1 : Nat) : Int) by omega)) ?_
        refine ih (p + 1) _ Q2 h2 (by omega) (by omega) hI2 e2 (fun w hw => ?_) hfr2
        by_cases e : w = p
        · subst e
          have z0 : Q2 (8 * w) = v := by rw [q1 _ (by omega), upZ_ne _ _ (by omega), upZ_eq]
          have z7 : Q2 (8 * w + 7) = 0 := by rw [q1 _ (by omega), upZ_eq]
          by_cases t : mT B (w : Int)
          · exact Or.inl ⟨t, z0.trans (va t), z7, q2 t⟩
          · exact Or.inr ⟨t, z0.trans (vb t), z7⟩
        · have same : ∀ j, j < 8 * w + 8 → 8 * w ≤ j → Q2 j = Q j := fun j j1 j2 => by rw [q1 _ (by omega), upZ_ne _ _ (by omega), upZ_ne _ _ (by omega)]
          rcases hQ w (by omega) with ⟨t, y0, y7, yk⟩ | ⟨t, y0, y7⟩
          · exact Or.inl ⟨t, (same _ (by omega) (by omega)).trans y0, (same _ (by omega) (by omega)).trans y7, fun k k0 k1 => (same _ (by omega) (by omega)).trans (yk k k0 k1)⟩
          · exact Or.inr ⟨t, (same _ (by omega) (by omega)).trans y0, (same _ (by omega) (by omega)).trans y7⟩
      refine y_run kX7_begin rfl ?_
      refine m_get kX7_begin (540) hI hm ?_
      refine y_run kX7_begin rfl ?_
      refine y_cv kX7_begin kX7_isThere 1 rfl (hI.x (k := 540) rfl hm) (by decide +kernel) (c_isThere (hI.x (k := 540) rfl hm) (hI.x (k := 541) rfl hB) (fun j => ⟨by have := hBb j; omega, by have := hBb j; omega⟩) ⟨by omega, by omega⟩) rfl rfl ?_
      rintro _ h2 _ ⟨⟨rfl, t1⟩ | ⟨rfl, t1⟩, eh, rfl⟩
      · subst eh
        refine y_if_eq kX7_begin rfl rfl (fun e => absurd e (by omega)) (fun _ => ?_)
        refine y_run kX7_begin rfl ?_
        refine y_is kX7_begin rfl e45 (by omega) (by omega) ?_
        have hI3 := hI.up (k := 545) rfl (e := ai 1024 (upZ Q (8 * (p : Int)).toNat (p : Int))) ⟨_, rfl, upZ_all (P := fun x => -1 ≤ x ∧ x ≤ 127) hQb _ (by omega)⟩
        refine y_run kX7_begin rfl ?_
        refine m_get kX7_begin (540) hI3 hm ?_
        refine y_run kX7_begin rfl ?_
        refine y_is kX7_begin rfl (yup_eq _ _ _) (by omega) (by omega) ?_
        refine y_run kX7_begin rfl ?_
        exact go (p : Int) _ (by omega) (by omega) (fun _ => rfl) (fun z => absurd t1 z) (hI3.up (k := 545) rfl ⟨_, rfl, upZ_all (P := fun x => -1 ≤ x ∧ x ≤ 127) (upZ_all (P := fun x => -1 ≤ x ∧ x ≤ 127) hQb _ (by omega)) _ (by omega)⟩) (yup_eq _ _ _) (fun z hz => (yup_ne _ _ hz).trans ((yup_ne _ _ hz).trans (hfr z hz)))
      · subst eh
        refine y_if_eq kX7_begin rfl rfl (fun _ => ?_) (fun e => absurd rfl e)
        refine y_run kX7_begin rfl ?_
        refine y_is kX7_begin rfl e45 (by omega) (by omega) ?_
        have hI3 := hI.up (k := 545) rfl (e := ai 1024 (upZ Q (8 * (p : Int)).toNat (-1))) ⟨_, rfl, upZ_all (P := fun x => -1 ≤ x ∧ x ≤ 127) hQb _ (by omega)⟩
        refine y_run kX7_begin rfl ?_
        refine m_get kX7_begin (540) hI3 hm ?_
        refine y_run kX7_begin rfl ?_
        refine y_is kX7_begin rfl (yup_eq _ _ _) (by omega) (by omega) ?_
        refine y_run kX7_begin rfl ?_
        exact go (-1) _ (by omega) (by omega) (fun z => absurd z t1) (fun _ => rfl) (hI3.up (k := 545) rfl ⟨_, rfl, upZ_all (P := fun x => -1 ≤ x ∧ x ≤ 127) (upZ_all (P := fun x => -1 ≤ x ∧ x ≤ 127) hQb _ (by omega)) _ (by omega)⟩) (yup_eq _ _ _) (fun z hz => (yup_ne _ _ hz).trans ((yup_ne _ _ hz).trans (hfr z hz)))
/-- begin: the pieces are the boxes, and covers says who is before whom -/
def PBe (b : Nat) (g h0 : yH) (n : Nat) (B : Nat → Int) : Option xV → yH → Nat → Prop := fun r h' n' => ∃ Q C, r = none ∧ MI b g h' ∧ h' (b + 545) = some (ai 1024 Q) ∧ (∀ v, v < 128 → pcQ B Q v) ∧ h' (b + 546) = some (az 16384 C) ∧ (∀ i j, i < 128 → j < 128 → (C (128 * i + j) = 1 ↔ ∃ x : Int, 0 ≤ x ∧ x < 8192 ∧ seeP Q x i j)) ∧ (∀ z, z ≠ b + 545 → z ≠ b + 546 → z ≠ b + 548 → h' z = h0 z) ∧ n' = n
theorem e_begin (hf : RF b g B J i0 i1 i2 i3 i4 i5 i6) (hI : MI b g h) : YM l G mX7_begin 3 0 0 [vr (b + 540)] h n (PBe b g h n B) := by
  refine YM.of kX7_begin (Nat.le_of_ble_eq_true rfl) (L0 := [some (vr (b + 540)), none, none]) rfl ?_
  obtain ⟨Q0, e45, -⟩ := hI.i (k := 545) (N := 1024) (lo := -1) (hi := 127) rfl
  refine y_run kX7_begin rfl ?_
  refine YW.Le (congrArg (fun z : Int => [some (vr (b + 540)), some (vi z), none]) (show (0 : Int) = ((0 : Nat) : Int) by omega)) ?_
  refine s_begin1E (h0 := h) hf (fun u1 u2 Q h1 hI1 e1 hQ hfr1 => ?_) 129 0 _ Q0 h (by omega) (by omega) hI e45 (fun v hv => absurd hv (by omega)) (fun _ _ => rfl)
  obtain ⟨C0, e46, -⟩ := hI1.z (k := 546) (N := 16384) (lo := 0) (hi := 0) rfl
  refine y_run kX7_begin rfl ?_
  refine YW.Le (congrArg (fun z : Int => [some (vr (b + 540)), some (vi z), u2]) (show (0 : Int) = ((0 : Nat) : Int) by omega)) ?_
  refine YW.imp (s_begin3E (h0 := h1) hf e1 16385 0 _ C0 h1 (by omega) (by omega) hI1 e46 (fun j hj => absurd hj (by omega)) (fun _ _ => rfl)) (fun r h' n' w => ?_)
  obtain ⟨C, rfl, w1, w2, w3, w4, rfl⟩ := w
  refine ⟨Q, C, rfl, w1, (w3 _ (by omega) (by omega)).trans e1, hQ, w2, fun i j hi hj => ?_, fun z z1 z2 z3 => (w3 z z2 z3).trans (hfr1 z z1), rfl⟩
  rw [w4 i j hi hj]
  constructor
  · rintro (k | k)
    · exact absurd (show (0 : Int) = 1 from k) (by omega)
    · exact k
  · exact Or.inr
end C80k
