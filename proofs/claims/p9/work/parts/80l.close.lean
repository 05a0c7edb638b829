/-! close, exactly -/
def WR (D : Nat → Nat → Prop) : Nat → Nat → Nat → Prop
  | 0, i, j => D i j
  | m + 1, i, j => WR D m i j ∨ (WR D m i m ∧ WR D m m j)
theorem WR_end {D : Nat → Nat → Prop} {L : Nat → Prop} (hD : ∀ i j, D i j → L j) : ∀ m i j, WR D m i j → L j := by
  intro m
  induction m with
  | zero => intro i j h; exact hD i j h
  | succ m ih =>
    intro i j h
    rcases h with h | h
    · exact ih i j h
    · exact ih m j h.2
theorem WR_up {D : Nat → Nat → Prop} {m i j : Nat} (h : WR D m i j) : WR D (m + 1) i j := Or.inl h
theorem WR_0 {D : Nat → Nat → Prop} {i j : Nat} (h : D i j) : ∀ m, WR D m i j := by
  intro m
  induction m with
  | zero => exact h
  | succ m ih => exact Or.inl ih
/-- over what lies below m it is closed -/
theorem WR_tr {D : Nat → Nat → Prop} : ∀ m i k j, k < m → WR D m i k → WR D m k j → WR D m i j := by
  intro m
  induction m with
  | zero => intro i k j hk; exact absurd hk (Nat.not_lt_zero _)
  | succ m ih =>
    intro i k j hk h1 h2
    by_cases e : k = m
    · subst e
      have a1 : WR D k i k := by
        rcases h1 with h1 | h1
        · exact h1
        · exact h1.1
      have a2 : WR D k k j := by
        rcases h2 with h2 | h2
        · exact h2
        · exact h2.2
      exact Or.inr ⟨a1, a2⟩
    · have hk2 : k < m := by omega
      rcases h1 with h1 | ⟨h1, h1'⟩
      · rcases h2 with h2 | ⟨h2, h2'⟩
        · exact Or.inl (ih i k j hk2 h1 h2)
        · exact Or.inr ⟨ih i k m hk2 h1 h2, h2'⟩
      · rcases h2 with h2 | ⟨h2, h2'⟩
        · exact Or.inr ⟨h1, ih m k j hk2 h1' h2⟩
        · exact Or.inr ⟨h1, h2'⟩
theorem WR_TC {D : Nat → Nat → Prop} {N : Nat} (hN : ∀ i j, D i j → i < N ∧ j < N) (i j : Nat) : WR D N i j ↔ TC D i j := by
  constructor
  · have : ∀ m i j, WR D m i j → TC D i j := by
      intro m
      induction m with
      | zero => intro i j h; exact TC.base h
      | succ m ih =>
        intro i j h
        rcases h with h | h
        · exact ih i j h
        · exact (ih i m h.1).trans (ih m j h.2)
    exact this N i j
  · intro h
    have := h (fun k => k < N ∧ WR D N i k) (fun k hk => ⟨(hN i k hk).2, WR_0 hk N⟩) (fun k m hk hm => ⟨(hN k m hm).2, WR_tr N i k m hk.1 hk.2 (WR_0 hm N)⟩)
    exact this.2
/-- not drawn yet -/
def lfP (Q : Nat → Int) (v : Nat) : Prop := Q (8 * v) ≠ -1 ∧ Q (8 * v + 7) = 0
section C80l
variable {l : Launch} {G : xG} {h h0 : yH} {n : Nat} {b : Nat} {g : yH} {i0 i1 i2 i3 i4 i5 i6 : Int} {B J : Nat → Int} {C Q : Nat → Int}
theorem e_isLeft (hf : RF b g B J i0 i1 i2 i3 i4 i5 i6) {p : Nat} (p2 : p < 128) (hI : MI b g h) (e45 : h (b + 545) = some (ai 1024 Q)) : YM l G mX7_isLeft 0 0 0 [vr (b + 540), vi (p : Int)] h n (fun r h' n' => ((r = some (vi 1) ∧ lfP Q p) ∨ (r = some (vi 0) ∧ ¬ lfP Q p)) ∧ h' = h ∧ n' = n) := by
  refine YM.of kX7_isLeft (Nat.le_of_ble_eq_true rfl) (L0 := [some (vr (b + 540)), some (vi (p : Int))]) rfl ?_
  obtain ⟨hm, -⟩ := id hf
  have hQb : ∀ j, -1 ≤ Q j ∧ Q j ≤ 127 := by
    obtain ⟨F, e, hF⟩ := hI.i (k := 545) (N := 1024) (lo := -1) (hi := 127) rfl
    rw [ai_inj e45 e]
    exact hF
  have q0 := hQb (8 * p)
  have q7 := hQb (8 * p + 7)
  refine y_run kX7_isLeft rfl ?_
  refine m_get kX7_isLeft (540) hI hm ?_
  refine y_run kX7_isLeft rfl ?_
  refine y_ia kX7_isLeft rfl e45 (by omega) (by omega) ?_
  rw [show (8 * (p : Int)).toNat = 8 * p by omega]
  refine y_run kX7_isLeft rfl ?_
  refine y_ic_eq kX7_isLeft rfl rfl (fun c1 => ?_) (fun c1 => ?_)
  · refine y_run kX7_isLeft rfl ?_
    exact y_zr kX7_isLeft rfl rfl (by omega) ⟨Or.inr ⟨rfl, fun k => k.1 c1⟩, rfl, rfl⟩
  · refine y_run kX7_isLeft rfl ?_
    refine m_get kX7_isLeft (540) hI hm ?_
    refine y_run kX7_isLeft rfl ?_
    refine y_ia kX7_isLeft rfl e45 (by omega) (by omega) ?_
    rw [show (8 * (p : Int) + 7).toNat = 8 * p + 7 by omega]
    refine y_if_ne kX7_isLeft rfl rfl (fun c2 => ?_) (fun c2 => ?_)
    · refine y_run kX7_isLeft rfl ?_
      exact y_zr kX7_isLeft rfl rfl (by omega) ⟨Or.inr ⟨rfl, fun k => c2 k.2⟩, rfl, rfl⟩
    · refine y_run kX7_isLeft rfl ?_
      exact y_zr kX7_isLeft rfl rfl (by omega) ⟨Or.inl ⟨rfl, c1, c2⟩, rfl, rfl⟩
/-- who reaches whom at the start -/
def clD (Q C : Nat → Int) (i j : Nat) : Prop := i < 128 ∧ j < 128 ∧ C (128 * i + j) = 1 ∧ lfP Q i ∧ lfP Q j
def cRow (b : Nat) (g h0 h : yH) (R : Nat → Int) (T : Nat → Nat → Prop) : Prop := MI b g h ∧ h (b + 547) = some (az 16384 R) ∧ (∀ z, z ≠ b + 547 → h z = h0 z) ∧ ∀ i j, i < 128 → j < 128 → (R (128 * i + j) = 1 ↔ T i j)
theorem cRow.Rb {R : Nat → Int} {T : Nat → Nat → Prop} (hc : cRow b g h0 h R T) : ∀ j, R j = 0 ∨ R j = 1 := by
  obtain ⟨F, e, hF⟩ := hc.1.z (k := 547) (N := 16384) (lo := 0) (hi := 0) rfl
  rw [az_inj hc.2.1 e]
  exact hF
theorem cRow.put {R : Nat → Int} {T T' : Nat → Nat → Prop} (hc : cRow b g h0 h R T) {p q : Nat} {v : Int} (hp : p < 128) (hq : q < 128) (hv : v = 0 ∨ v = 1) (h1 : v = 1 ↔ T' p q) (h2 : ∀ i j, i < 128 → j < 128 → ¬ (i = p ∧ j = q) → (T i j ↔ T' i j)) : cRow b g h0 (yup h (b + 547) (az 16384 (upZ R (128 * p + q) v))) (upZ R (128 * p + q) v) T' := by
  refine ⟨hc.1.up (k := 547) rfl ⟨_, rfl, upZ_all (P := fun x => x = 0 ∨ x = 1) hc.Rb _ hv⟩, yup_eq _ _ _, fun z hz => (yup_ne _ _ hz).trans (hc.2.2.1 z hz), fun i j hi hj => ?_⟩
  unfold upZ
  by_cases e : 128 * i + j = 128 * p + q
  · have e1 : i = p := by omega
    have e2 : j = q := by omega
    subst e1 e2
    rw [if_pos rfl]
    exact h1
  · rw [if_neg e, hc.2.2.2 i j hi hj]
    exact h2 i j hi hj (fun z => e (by rw [z.1, z.2]))
theorem s_close2E (hf : RF b g B J i0 i1 i2 i3 i4 i5 i6) (e45 : h0 (b + 545) = some (ai 1024 Q)) (e46 : h0 (b + 546) = some (az 16384 C)) {Φ : Option xV → yH → Nat → Prop} {p : Nat} (p2 : p < 128) {R0 : Nat → Nat → Prop} (kk : ∀ (u2 u3 : Option xV) (R : Nat → Int) (h : yH), cRow b g h0 h R (fun i j => (i < p + 1 ∧ clD Q C i j) ∨ (p < i ∧ R0 i j)) → YW l G mX7_close 1 0 0 Φ 72 [some (vr (b + 540)), some (vi (p : Int)), u2, u3] [] h n) : ∀ (m : Nat) (q : Nat) (u3 : Option xV) (R : Nat → Int) (h : yH), 128 - q < m → q ≤ 128 → cRow b g h0 h R (fun i j => (((i < p) ∨ (i = p ∧ j < q)) ∧ clD Q C i j) ∨ ((p < i ∨ (i = p ∧ q ≤ j)) ∧ R0 i j)) → YW l G mX7_close 1 0 0 Φ 11 [some (vr (b + 540)), some (vi (p : Int)), some (vi (q : Int)), u3] [] h n := by
  intro m
  induction m with
  | zero => intro q u3 R h hm; exact absurd hm (Nat.not_lt_zero _)
  | succ m ih =>
    intro q u3 R h hmm j1 hc
    obtain ⟨hI, e47, hfr, hR⟩ := id hc
    obtain ⟨hm, -⟩ := id hf
    have f45 := (hfr (b + 545) (by omega)).trans e45
    have f46 := (hfr (b + 546) (by omega)).trans e46
    have nx : ∀ (v : Int), q < 128 → (v = 0 ∨ v = 1) → (v = 1 ↔ clD Q C p q) → YW l G mX7_close 1 0 0 Φ 11 [some (vr (b + 540)), some (vi (p : Int)), some (vi ((q : Int) + 1)), u3] [] (yup h (b + 547) (az 16384 (upZ R (128 * (p : Int) + (q : Int)).toNat v))) n := fun v q2 v1 v2 => by
      refine YW.Le (congrArg (fun z : Int => [some (vr (b + 540)), some (vi (p : Int)), some (vi z), u3]) (show (q : Int) + 1 = ((q + 1 : Nat) : Int) by omega)) ?_
      rw [show (128 * (p : Int) + (q : Int)).toNat = 128 * p + q by omega]
      refine ih (q + 1) _ _ _ (by omega) (by omega) (hc.put p2 q2 v1 ?_ (fun i j hi hj hne => ?_))
      · rw [v2]
        constructor
        · intro k; exact Or.inl ⟨Or.inr ⟨rfl, by omega⟩, k⟩
        · rintro (k | k)
          · exact k.2
          · have := k.1; omega
      · constructor
        · rintro (⟨k, k2⟩ | ⟨k, k2⟩)
          · exact Or.inl ⟨by omega, k2⟩
          · exact Or.inr ⟨by omega, k2⟩
        · rintro (⟨k, k2⟩ | ⟨k, k2⟩)
          · exact Or.inl ⟨by omega, k2⟩
          · exact Or.inr ⟨by omega, k2⟩
    refine y_run kX7_close rfl ?_
    refine y_ic_ge kX7_close rfl rfl (fun c1 => ?_) (fun c1 => ?_)
    · refine kk _ _ R h ⟨hI, e47, hfr, fun i j hi hj => ?_⟩
      rw [hR i j hi hj]
      constructor
      · rintro (⟨k, k2⟩ | ⟨k, k2⟩)
        · exact Or.inl ⟨by omega, k2⟩
        · exact Or.inr ⟨by omega, k2⟩
      · rintro (⟨k, k2⟩ | ⟨k, k2⟩)
        · exact Or.inl ⟨by omega, k2⟩
        · exact Or.inr ⟨by omega, k2⟩
    · have hCb : ∀ j, C j = 0 ∨ C j = 1 := by
        obtain ⟨F, e, hF⟩ := hI.z (k := 546) (N := 16384) (lo := 0) (hi := 0) rfl
        rw [az_inj f46 e]
        exact hF
      have hc0 := hCb (128 * p + q)
      refine y_run kX7_close rfl ?_
      refine m_get kX7_close (540) hI hm ?_
      refine y_run kX7_close rfl ?_
      refine m_get kX7_close (540) hI hm ?_
      refine y_run kX7_close rfl ?_
      refine y_za kX7_close rfl f46 (by omega) (by omega) ?_
      rw [show (128 * (p : Int) + (q : Int)).toNat = 128 * p + q by omega]
      refine y_if_eq kX7_close rfl rfl (fun c2 => ?_) (fun c2 => ?_)
      · refine y_run kX7_close rfl ?_
        refine y_zs kX7_close rfl e47 (by omega) (by omega) (Or.inl rfl) ?_
        refine y_run kX7_close rfl ?_
        exact nx 0 (by omega) (Or.inl rfl) ⟨fun k => absurd k (by omega), fun k => absurd k.2.2.1 (by omega)⟩
      · refine y_run kX7_close rfl ?_
        refine y_cv kX7_close kX7_isLeft 1 rfl (hI.x (k := 540) rfl hm) (by decide +kernel) (e_isLeft hf p2 hI f45) rfl rfl ?_
        rintro _ h2 _ ⟨⟨rfl, t1⟩ | ⟨rfl, t1⟩, eh, rfl⟩
        · subst eh
          refine y_if_eq kX7_close rfl rfl (fun e => absurd e (by omega)) (fun _ => ?_)
          refine y_run kX7_close rfl ?_
          refine y_cv kX7_close kX7_isLeft 1 rfl (hI.x (k := 540) rfl hm) (by decide +kernel) (e_isLeft hf (p := q) (by omega) hI f45) rfl rfl ?_
          rintro _ h3 _ ⟨⟨rfl, t2⟩ | ⟨rfl, t2⟩, eh, rfl⟩
          · subst eh
            refine y_if_eq kX7_close rfl rfl (fun e => absurd e (by omega)) (fun _ => ?_)
            refine y_run kX7_close rfl ?_
            refine y_zs kX7_close rfl e47 (by omega) (by omega) (Or.inr rfl) ?_
            refine y_run kX7_close rfl ?_
            exact nx 1 (by omega) (Or.inr rfl) ⟨fun _ => ⟨p2, by omega, by omega, t1, t2⟩, fun _ => rfl⟩
          · subst eh
            refine y_if_eq kX7_close rfl rfl (fun _ => ?_) (fun e => absurd rfl e)
            refine y_run kX7_close rfl ?_
            refine y_zs kX7_close rfl e47 (by omega) (by omega) (Or.inl rfl) ?_
            refine y_run kX7_close rfl ?_
            exact nx 0 (by omega) (Or.inl rfl) ⟨fun k => absurd k (by omega), fun k => absurd k.2.2.2.2 t2⟩
        · subst eh
          refine y_if_eq kX7_close rfl rfl (fun _ => ?_) (fun e => absurd rfl e)
          refine y_run kX7_close rfl ?_
          refine y_zs kX7_close rfl e47 (by omega) (by omega) (Or.inl rfl) ?_
          refine y_run kX7_close rfl ?_
          exact nx 0 (by omega) (Or.inl rfl) ⟨fun k => absurd k (by omega), fun k => absurd k.2.2.2.1 t1⟩
theorem s_close1E (hf : RF b g B J i0 i1 i2 i3 i4 i5 i6) (e45 : h0 (b + 545) = some (ai 1024 Q)) (e46 : h0 (b + 546) = some (az 16384 C)) {Φ : Option xV → yH → Nat → Prop} {R0 : Nat → Nat → Prop} (kk : ∀ (u1 u2 u3 : Option xV) (R : Nat → Int) (h : yH), cRow b g h0 h R (clD Q C) → YW l G mX7_close 1 0 0 Φ 78 [some (vr (b + 540)), u1, u2, u3] [] h n) : ∀ (m : Nat) (p : Nat) (u2 u3 : Option xV) (R : Nat → Int) (h : yH), 128 - p < m → p ≤ 128 → cRow b g h0 h R (fun i j => (i < p ∧ clD Q C i j) ∨ (p ≤ i ∧ R0 i j)) → YW l G mX7_close 1 0 0 Φ 2 [some (vr (b + 540)), some (vi (p : Int)), u2, u3] [] h n := by
  intro m
  induction m with
  | zero => intro p u2 u3 R h hm; exact absurd hm (Nat.not_lt_zero _)
  | succ m ih =>
    intro p u2 u3 R h hmm j1 hc
    obtain ⟨hI, e47, hfr, hR⟩ := id hc
    refine y_run kX7_close rfl ?_
    refine y_ic_ge kX7_close rfl rfl (fun c1 => ?_) (fun c1 => ?_)
    · refine kk _ _ _ R h ⟨hI, e47, hfr, fun i j hi hj => ?_⟩
      rw [hR i j hi hj]
      constructor
      · rintro (⟨k, k2⟩ | ⟨k, k2⟩)
        · exact k2
        · omega
      · intro k; exact Or.inl ⟨by omega, k⟩
    · refine y_run kX7_close rfl ?_
      refine YW.Le (congrArg (fun z : Int => [some (vr (b + 540)), some (vi (p : Int)), some (vi z), u3]) (show (0 : Int) = ((0 : Nat) : Int) by omega)) ?_
      refine s_close2E (R0 := R0) hf e45 e46 (by omega) (fun u2 u3 R1 h1 hc1 => ?_) 129 0 _ R h (by omega) (by omega) ⟨hI, e47, hfr, fun i j hi hj => ?_⟩
      · refine y_run kX7_close rfl ?_
        refine YW.Le (congrArg (fun z : Int => [some (vr (b + 540)), some (vi z), u2, u3]) (show (p : Int) + 1 = ((p + 1 : Nat) : Int) by omega)) ?_
        refine ih (p + 1) _ _ R1 h1 (by omega) (by omega) ⟨hc1.1, hc1.2.1, hc1.2.2.1, fun i j hi hj => ?_⟩
        rw [hc1.2.2.2 i j hi hj]
        constructor
        · rintro (⟨k, k2⟩ | ⟨k, k2⟩)
          · exact Or.inl ⟨k, k2⟩
          · exact Or.inr ⟨by omega, k2⟩
        · rintro (⟨k, k2⟩ | ⟨k, k2⟩)
          · exact Or.inl ⟨k, k2⟩
          · exact Or.inr ⟨by omega, k2⟩
      · rw [hR i j hi hj]
        constructor
        · rintro (⟨k, k2⟩ | ⟨k, k2⟩)
          · exact Or.inl ⟨by omega, k2⟩
          · exact Or.inr ⟨by omega, k2⟩
        · rintro (⟨k, k2⟩ | ⟨k, k2⟩)
          · exact Or.inl ⟨by omega, k2⟩
          · exact Or.inr ⟨by omega, k2⟩
/-- the row of q takes in that of p -/
theorem s_close5E (hf : RF b g B J i0 i1 i2 i3 i4 i5 i6) {Φ : Option xV → yH → Nat → Prop} {p q : Nat} (p2 : p < 128) (q2 : q < 128) {T : Nat → Nat → Prop} (kk : ∀ (u3 : Option xV) (R : Nat → Int) (h : yH), cRow b g h0 h R (fun i j => T i j ∨ (i = q ∧ T p j)) → YW l G mX7_close 1 0 0 Φ 187 [some (vr (b + 540)), some (vi (p : Int)), some (vi (q : Int)), u3] [] h n) : ∀ (m : Nat) (r : Nat) (R : Nat → Int) (h : yH), 128 - r < m → r ≤ 128 → cRow b g h0 h R (fun i j => T i j ∨ (i = q ∧ j < r ∧ T p j)) → YW l G mX7_close 1 0 0 Φ 127 [some (vr (b + 540)), some (vi (p : Int)), some (vi (q : Int)), some (vi (r : Int))] [] h n := by
  intro m
  induction m with
  | zero => intro r R h hm; exact absurd hm (Nat.not_lt_zero _)
  | succ m ih =>
    intro r R h hmm j1 hc
    obtain ⟨hI, e47, hfr, hR⟩ := id hc
    obtain ⟨hm, -⟩ := id hf
    have nx : ∀ (v : Int), r < 128 → (v = 0 ∨ v = 1) → (v = 1 ↔ T q r ∨ T p r) → YW l G mX7_close 1 0 0 Φ 127 [some (vr (b + 540)), some (vi (p : Int)), some (vi (q : Int)), some (vi ((r : Int) + 1))] [] (yup h (b + 547) (az 16384 (upZ R (128 * (q : Int) + (r : Int)).toNat v))) n := fun v r2 v1 v2 => by
      refine YW.Le (congrArg (fun z : Int => [some (vr (b + 540)), some (vi (p : Int)), some (vi (q : Int)), some (vi z)]) (show (r : Int) + 1 = ((r + 1 : Nat) : Int) by omega)) ?_
      rw [show (128 * (q : Int) + (r : Int)).toNat = 128 * q + r by omega]
      refine ih (r + 1) _ _ (by omega) (by omega) (hc.put q2 r2 v1 ?_ (fun i j hi hj hne => ?_))
      · rw [v2]
        constructor
        · exact fun k => k.imp id (fun y => ⟨rfl, by omega, y⟩)
        · exact fun k => k.imp id (fun y => y.2.2)
      · constructor
        · exact fun k => k.imp id (fun y => ⟨y.1, by omega, y.2.2⟩)
        · refine fun k => k.imp id (fun y => ⟨y.1, ?_, y.2.2⟩)
          have y1 := y.1
          have y2 := y.2.1
          by_cases w : j = r
          · exact absurd ⟨y1, w⟩ hne
          · omega
    have hRb := hc.Rb
    have r1 := hRb (128 * q + r)
    have r2 := hRb (128 * p + r)
    refine y_run kX7_close rfl ?_
    refine y_ic_ge kX7_close rfl rfl (fun c1 => ?_) (fun c1 => ?_)
    · refine kk _ R h ⟨hI, e47, hfr, fun i j hi hj => ?_⟩
      rw [hR i j hi hj]
      constructor
      · exact fun k => k.imp id (fun y => ⟨y.1, y.2.2⟩)
      · exact fun k => k.imp id (fun y => ⟨y.1, by omega, y.2⟩)
    · have hq := hR q r q2 (by omega)
      have hp := hR p r p2 (by omega)
      refine y_run kX7_close rfl ?_
      refine m_get kX7_close (540) hI hm ?_
      refine y_run kX7_close rfl ?_
      refine m_get kX7_close (540) hI hm ?_
      refine y_run kX7_close rfl ?_
      refine y_za kX7_close rfl e47 (by omega) (by omega) ?_
      rw [show (128 * (q : Int) + (r : Int)).toNat = 128 * q + r by omega]
      refine y_if_ne kX7_close rfl rfl (fun c2 => ?_) (fun c2 => ?_)
      · refine y_run kX7_close rfl ?_
        refine y_zs kX7_close rfl e47 (by omega) (by omega) (Or.inr rfl) ?_
        refine y_run kX7_close rfl ?_
        refine nx 1 (by omega) (Or.inr rfl) ⟨fun _ => ?_, fun _ => rfl⟩
        rcases hq.mp (by omega) with k | k
        · exact Or.inl k
        · exact Or.inr k.2.2
      · refine y_run kX7_close rfl ?_
        refine m_get kX7_close (540) hI hm ?_
        refine y_run kX7_close rfl ?_
        refine y_za kX7_close rfl e47 (by omega) (by omega) ?_
        rw [show (128 * (p : Int) + (r : Int)).toNat = 128 * p + r by omega]
        refine y_if_eq kX7_close rfl rfl (fun c3 => ?_) (fun c3 => ?_)
        · refine y_run kX7_close rfl ?_
          refine y_zs kX7_close rfl e47 (by omega) (by omega) (Or.inl rfl) ?_
          refine y_run kX7_close rfl ?_
          refine nx 0 (by omega) (Or.inl rfl) ⟨fun k => absurd k (by omega), fun k => ?_⟩
          rcases k with k | k
          · have := hq.mpr (Or.inl k); omega
          · have := hp.mpr (Or.inl k); omega
        · refine y_run kX7_close rfl ?_
          refine y_zs kX7_close rfl e47 (by omega) (by omega) (Or.inr rfl) ?_
          refine y_run kX7_close rfl ?_
          refine nx 1 (by omega) (Or.inr rfl) ⟨fun _ => ?_, fun _ => rfl⟩
          rcases hp.mp (by omega) with k | k
          · exact Or.inr k
          · exact Or.inr k.2.2
theorem s_close4E (hf : RF b g B J i0 i1 i2 i3 i4 i5 i6) {Φ : Option xV → yH → Nat → Prop} {p : Nat} (p2 : p < 128) {T : Nat → Nat → Prop} (kk : ∀ (u2 u3 : Option xV) (R : Nat → Int) (h : yH), cRow b g h0 h R (fun i j => T i j ∨ (T i p ∧ T p j)) → YW l G mX7_close 1 0 0 Φ 193 [some (vr (b + 540)), some (vi (p : Int)), u2, u3] [] h n) : ∀ (m : Nat) (q : Nat) (u3 : Option xV) (R : Nat → Int) (h : yH), 128 - q < m → q ≤ 128 → cRow b g h0 h R (fun i j => T i j ∨ (i < q ∧ T i p ∧ T p j)) → YW l G mX7_close 1 0 0 Φ 100 [some (vr (b + 540)), some (vi (p : Int)), some (vi (q : Int)), u3] [] h n := by
  intro m
  induction m with
  | zero => intro q u3 R h hm; exact absurd hm (Nat.not_lt_zero _)
  | succ m ih =>
    intro q u3 R h hmm j1 hc
    obtain ⟨hI, e47, hfr, hR⟩ := id hc
    obtain ⟨hm, -⟩ := id hf
    have hRb := hc.Rb
    have r1 := hRb (128 * q + p)
    refine y_run kX7_close rfl ?_
    refine y_ic_ge kX7_close rfl rfl (fun c1 => ?_) (fun c1 => ?_)
    · refine kk _ _ R h ⟨hI, e47, hfr, fun i j hi hj => ?_⟩
      rw [hR i j hi hj]
      constructor
      · exact fun k => k.imp id (fun y => y.2)
      · exact fun k => k.imp id (fun y => ⟨by omega, y⟩)
    · have hq := hR q p (by omega) p2
      have hq2 : R (128 * q + p) = 1 ↔ T q p := by
        rw [hq]
        constructor
        · rintro (k | k)
          · exact k
          · have := k.1; omega
        · exact Or.inl
      refine y_run kX7_close rfl ?_
      refine m_get kX7_close (540) hI hm ?_
      refine y_run kX7_close rfl ?_
      refine y_za kX7_close rfl e47 (by omega) (by omega) ?_
      rw [show (128 * (q : Int) + (p : Int)).toNat = 128 * q + p by omega]
      have nx : ∀ (u3 : Option xV) (R : Nat → Int) (h : yH), q < 128 → cRow b g h0 h R (fun i j => T i j ∨ (i < q + 1 ∧ T i p ∧ T p j)) → YW l G mX7_close 1 0 0 Φ 100 [some (vr (b + 540)), some (vi (p : Int)), some (vi ((q : Int) + 1)), u3] [] h n := fun u3 R h q2 hc => by
        refine YW.Le (congrArg (fun z : Int => [some (vr (b + 540)), some (vi (p : Int)), some (vi z), u3]) (show (q : Int) + 1 = ((q + 1 : Nat) : Int) by omega)) ?_
        exact ih (q + 1) _ R h (by omega) (by omega) hc
      refine y_if_ne kX7_close rfl rfl (fun c2 => ?_) (fun c2 => ?_)
      · have tq := hq2.mp (by omega)
        refine y_run kX7_close rfl ?_
        refine YW.Le (congrArg (fun z : Int => [some (vr (b + 540)), some (vi (p : Int)), some (vi (q : Int)), some (vi z)]) (show (0 : Int) = ((0 : Nat) : Int) by omega)) ?_
        refine s_close5E (T := fun i j => T i j ∨ (i < q ∧ T i p ∧ T p j)) hf p2 (by omega) (fun u3 R1 h1 hc1 => ?_) 129 0 R h (by omega) (by omega) ⟨hI, e47, hfr, fun i j hi hj => ?_⟩
        · refine y_run kX7_close rfl ?_
          refine nx _ R1 h1 (by omega) ⟨hc1.1, hc1.2.1, hc1.2.2.1, fun i j hi hj => ?_⟩
          rw [hc1.2.2.2 i j hi hj]
          constructor
          · rintro ((k | k) | ⟨k1, k | k⟩)
            · exact Or.inl k
            · exact Or.inr ⟨by omega, k.2⟩
            · subst k1; exact Or.inr ⟨by omega, tq, k⟩
            · subst k1; exact Or.inr ⟨by omega, tq, k.2.2⟩
          · rintro (k | ⟨k1, k2, k3⟩)
            · exact Or.inl (Or.inl k)
            · by_cases w : i = q
              · exact Or.inr ⟨w, Or.inl k3⟩
              · exact Or.inl (Or.inr ⟨by omega, k2, k3⟩)
        · rw [hR i j hi hj]
          constructor
          · exact Or.inl
          · rintro (k | k)
            · exact k
            · have := k.2.1; omega
      · have tq : ¬ T q p := fun z => absurd (hq2.mpr z) (by omega)
        refine y_run kX7_close rfl ?_
        refine nx _ R h (by omega) ⟨hI, e47, hfr, fun i j hi hj => ?_⟩
        rw [hR i j hi hj]
        constructor
        · exact fun k => k.imp id (fun y => ⟨by omega, y.2⟩)
        · rintro (k | ⟨k1, k2, k3⟩)
          · exact Or.inl k
          · by_cases w : i = q
            · subst w; exact absurd k2 tq
            · exact Or.inr ⟨by omega, k2, k3⟩
def PCl (b : Nat) (g h0 : yH) (n : Nat) (T : Nat → Nat → Prop) : Option xV → yH → Nat → Prop := fun r h' n' => ∃ R, r = none ∧ cRow b g h0 h' R T ∧ n' = n
theorem s_close3E (hf : RF b g B J i0 i1 i2 i3 i4 i5 i6) (e45 : h0 (b + 545) = some (ai 1024 Q)) : ∀ (m : Nat) (p : Nat) (u2 u3 : Option xV) (R : Nat → Int) (h : yH), 128 - p < m → p ≤ 128 → cRow b g h0 h R (WR (clD Q C) p) → YW l G mX7_close 1 0 0 (PCl b g h0 n (WR (clD Q C) 128)) 80 [some (vr (b + 540)), some (vi (p : Int)), u2, u3] [] h n := by
  intro m
  induction m with
  | zero => intro p u2 u3 R h hm; exact absurd hm (Nat.not_lt_zero _)
  | succ m ih =>
    intro p u2 u3 R h hmm j1 hc
    obtain ⟨hI, e47, hfr, hR⟩ := id hc
    obtain ⟨hm, -⟩ := id hf
    have f45 := (hfr (b + 545) (by omega)).trans e45
    refine y_run kX7_close rfl ?_
    refine y_ic_ge kX7_close rfl rfl (fun c1 => ?_) (fun c1 => ?_)
    · have e : p = 128 := by omega
      subst e
      exact y_vr kX7_close rfl rfl ⟨R, rfl, hc, rfl⟩
    · have nx : ∀ (u2 u3 : Option xV) (R : Nat → Int) (h : yH), p < 128 → cRow b g h0 h R (WR (clD Q C) (p + 1)) → YW l G mX7_close 1 0 0 (PCl b g h0 n (WR (clD Q C) 128)) 80 [some (vr (b + 540)), some (vi ((p : Int) + 1)), u2, u3] [] h n := fun u2 u3 R h p2 hc => by
        refine YW.Le (congrArg (fun z : Int => [some (vr (b + 540)), some (vi z), u2, u3]) (show (p : Int) + 1 = ((p + 1 : Nat) : Int) by omega)) ?_
        exact ih (p + 1) _ _ R h (by omega) (by omega) hc
      refine y_run kX7_close rfl ?_
      refine y_cv kX7_close kX7_isLeft 1 rfl (hI.x (k := 540) rfl hm) (by decide +kernel) (e_isLeft hf (p := p) (by omega) hI f45) rfl rfl ?_
      rintro _ h2 _ ⟨⟨rfl, t1⟩ | ⟨rfl, t1⟩, eh, rfl⟩
      · subst eh
        refine y_if_ne kX7_close rfl rfl (fun _ => ?_) (fun e => absurd e (by omega))
        refine y_run kX7_close rfl ?_
        refine YW.Le (congrArg (fun z : Int => [some (vr (b + 540)), some (vi (p : Int)), some (vi z), u3]) (show (0 : Int) = ((0 : Nat) : Int) by omega)) ?_
        refine s_close4E (T := WR (clD Q C) p) hf (by omega) (fun u2 u3 R1 h1 hc1 => ?_) 129 0 _ R _ (by omega) (by omega) ⟨hI, e47, hfr, fun i j hi hj => ?_⟩
        · refine y_run kX7_close rfl ?_
          exact nx _ _ R1 h1 (by omega) hc1
        · rw [hR i j hi hj]
          constructor
          · exact Or.inl
          · rintro (k | k)
            · exact k
            · have := k.1; omega
      · subst eh
        refine y_if_ne kX7_close rfl rfl (fun e => absurd rfl e) (fun _ => ?_)
        refine y_run kX7_close rfl ?_
        refine nx _ _ R _ (by omega) ⟨hI, e47, hfr, fun i j hi hj => ?_⟩
        rw [hR i j hi hj]
        constructor
        · exact Or.inl
        · rintro (k | k)
          · exact k
          · exact absurd (WR_end (L := lfP Q) (fun i j y => y.2.2.2.2) p i p k.1) t1
theorem e_close (hf : RF b g B J i0 i1 i2 i3 i4 i5 i6) (hI : MI b g h) (e45 : h (b + 545) = some (ai 1024 Q)) (e46 : h (b + 546) = some (az 16384 C)) : YM l G mX7_close 1 0 0 [vr (b + 540)] h n (PCl b g h n (WR (clD Q C) 128)) := by
  refine YM.of kX7_close (Nat.le_of_ble_eq_true rfl) (L0 := [some (vr (b + 540)), none, none, none]) rfl ?_
  obtain ⟨R0, e47, -⟩ := hI.z (k := 547) (N := 16384) (lo := 0) (hi := 0) rfl
  refine y_run kX7_close rfl ?_
  refine YW.Le (congrArg (fun z : Int => [some (vr (b + 540)), some (vi z), none, none]) (show (0 : Int) = ((0 : Nat) : Int) by omega)) ?_
  refine s_close1E (h0 := h) (R0 := fun i j => R0 (128 * i + j) = 1) hf e45 e46 (fun u1 u2 u3 R h1 hc => ?_) 129 0 _ _ R0 h (by omega) (by omega) ⟨hI, e47, fun _ _ => rfl, fun i j _ _ => ⟨fun k => Or.inr ⟨by omega, k⟩, fun k => ?_⟩⟩
  · refine y_run kX7_close rfl ?_
    refine YW.Le (congrArg (fun z : Int => [some (vr (b + 540)), some (vi z), u2, u3]) (show (0 : Int) = ((0 : Nat) : Int) by omega)) ?_
    exact s_close3E (h0 := h) hf e45 129 0 _ _ R h1 (by omega) (by omega) hc
  · rcases k with k | k
    · have := k.1; omega
    · exact k.2
end C80l
