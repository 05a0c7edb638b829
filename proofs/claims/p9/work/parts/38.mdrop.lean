theorem mwent_uniq {B : Nat → Int} {v x s M w w' : Int} (h1 : mwent B v x s M w) (h2 : mwent B v x s M w') : w = w' := by
  obtain ⟨a1, a2, a3, a4⟩ := h1
  obtain ⟨b1, b2, b3, b4⟩ := h2
  rcases Int.lt_trichotomy w w' with c | c | c
  · rcases a4 with q | q
    · omega
    · exact absurd (b3 (w + 1) (by omega) (by omega)) q
  · exact c
  · rcases b4 with q | q
    · omega
    · exact absurd (a3 (w' + 1) (by omega) (by omega)) q
noncomputable def mfall (B : Nat → Int) (v : Int) : Int := @dite _ (∃ w, mwent B v 2 (-1) 32 w) (Classical.propDecidable _) (fun h => Classical.choose h) (fun _ => 0)
theorem mfall_eq {B : Nat → Int} {v w : Int} (h : mwent B v 2 (-1) 32 w) : mfall B v = w := by
  unfold mfall
  have h' : ∃ w, mwent B v 2 (-1) 32 w := ⟨w, h⟩
  rw [dif_pos h']
  exact mwent_uniq (Classical.choose_spec h') h
noncomputable def mdstep (H : Nat → Int) (g v : Int) (s : (Nat → Int) × Int) : (Nat → Int) × Int := if H v.toNat = g then (msh s.1 v 2 (-1 * mfall s.1 v), s.2 + mfall s.1 v) else s
noncomputable def mdrow (H : Nat → Int) (g : Int) : Nat → (Nat → Int) × Int → (Nat → Int) × Int
  | 0, s => s
  | m + 1, s => mdrow H g m (mdstep H g (24 - ((m + 1 : Nat) : Int)) s)
noncomputable def mdall (H : Nat → Int) : Nat → (Nat → Int) × Int → (Nat → Int) × Int
  | 0, s => s
  | m + 1, s => mdall H m (mdrow H (32 - ((m + 1 : Nat) : Int)) 24 s)
def mhgt (B : Nat → Int) : Nat → Int := fun j => if B (11 * j) = 1 then B (11 * j + 5) else -1
def mhgk (B H : Nat → Int) (k : Nat) : Nat → Int := fun j => if j < k then mhgt B j else H j
theorem mhgk_s (B H : Nat → Int) (k : Nat) {y : Int} (hy : y = mhgt B k) : upZ (mhgk B H k) k y = mhgk B H (k + 1) := by
  subst hy
  funext j
  unfold upZ mhgk
  by_cases c : j = k
  · rw [if_pos c, if_pos (by omega), c]
  · rw [if_neg c]
    by_cases c2 : j < k
    · rw [if_pos c2, if_pos (by omega)]
    · rw [if_neg c2, if_neg (by omega)]
def okB (B : Nat → Int) : Prop := (∀ j, 0 ≤ B j ∧ B j ≤ 32) ∧ ∀ v, mT B v → ∀ x, 0 ≤ x → x < 3 → B (11 * v + 1 + 2 * x).toNat < B (11 * v + 2 + 2 * x).toNat
theorem okB_sh {B : Nat → Int} {v x s M w : Int} (hB : okB B) (hv : mT B v) (hx : 0 ≤ x) (hx2 : x < 3) (hw : mwent B v x s M w) : okB (msh B v x (s * w)) := by
  have hw0 := hB.2 v hv x hx hx2
  have hb0 := hB.1 (11 * v + 1 + 2 * x).toNat
  have hb1 := hB.1 (11 * v + 2 + 2 * x).toNat
  have hv1 := hv.1
  have hin : 0 ≤ B (11 * v + 1 + 2 * x).toNat + s * w ∧ B (11 * v + 2 + 2 * x).toNat + s * w ≤ 32 := by
    obtain ⟨a1, a2, a3, a4⟩ := hw
    by_cases c : w = 0
    · subst c; rw [Int.mul_zero]; omega
    · have := a3 w (by omega) (by omega)
      exact ⟨this.1, this.2.1⟩
  refine ⟨fun j => ?_, fun v' hv' x' h0 h1 => ?_⟩
  · unfold msh
    by_cases c : (j : Int) = 11 * v + 1 + 2 * x ∨ (j : Int) = 11 * v + 2 + 2 * x
    · rw [if_pos c]
      rcases c with c | c
      · rw [show j = (11 * v + 1 + 2 * x).toNat by omega]; omega
      · rw [show j = (11 * v + 2 + 2 * x).toNat by omega]; omega
    · rw [if_neg c]; exact hB.1 j
  · have hv3 := (msh_mT hx hx2 hv1.1).mp hv'
    have hv2 := hv3.1
    have o := hB.2 v' hv3 x' h0 h1
    unfold msh
    by_cases c : v' = v ∧ x' = x
    · obtain ⟨rfl, rfl⟩ := c
      rw [if_pos (by omega), if_pos (by omega)]
      omega
    · rw [if_neg (by omega), if_neg (by omega)]
      exact o
section C27
variable {l : Launch} {G : xG} {n : Nat}
theorem s_mdrop3 {Φ : Option xV → yH → Nat → Prop} {h0 : yH} {c : Nat} {g i0 i1 i2 i3 i4 i5 i6 : Int} {B0 H : Nat → Int} (hm0 : h0 c = some (mo c i0 i1 i2 i3 i4 i5 i6)) (hH0 : h0 (c + 15) = some (ai 24 H)) (hg : 0 ≤ g) (hg2 : g < 32) (hH : ∀ v : Int, 0 ≤ v → v < 24 → ¬ mT B0 v → H v.toNat = -1) (hHb : ∀ j, -1 ≤ H j ∧ H j ≤ 32) :
    ∀ (m : Nat), m ≤ 24 → ∀ (B T : Nat → Int) (a : Int) (h : yH), okB B → (∀ v, mT B v ↔ mT B0 v) → (∀ j, -1 ≤ T j ∧ T j ≤ 33) → h (c + 1) = some (ai 264 B) → h (c + 14) = some (ai 6 T) → (∀ q, q ≠ c + 1 → q ≠ c + 14 → h q = h0 q) →
      (∀ (T' : Nat → Int) (h' : yH) (u : Option xV), okB (mdrow H g m (B, a)).1 → (∀ v, mT (mdrow H g m (B, a)).1 v ↔ mT B0 v) → (∀ j, -1 ≤ T' j ∧ T' j ≤ 33) → h' (c + 1) = some (ai 264 (mdrow H g m (B, a)).1) → h' (c + 14) = some (ai 6 T') → (∀ q, q ≠ c + 1 → q ≠ c + 14 → h' q = h0 q) → YW l G mX7_drop 5 0 0 Φ 92 [some (vr c), some (vi (mdrow H g m (B, a)).2), some (vi g), u] [] h' n) →
      YW l G mX7_drop 5 0 0 Φ 55 [some (vr c), some (vi a), some (vi g), some (vi (24 - (m : Int)))] [] h n := by
  intro m
  induction m with
  | zero =>
    intro hm B T a h hB hB0 hT hb ht hf kk
    refine y_run kX7_drop rfl ?_
    refine y_ic_ge kX7_drop rfl rfl (fun c1 => ?_) (fun c1 => absurd c1 (by omega))
    exact kk T h _ hB hB0 hT hb ht hf
  | succ m ih =>
    intro hm B T a h hB hB0 hT hb ht hf kk
    have hmh : h c = some (mo c i0 i1 i2 i3 i4 i5 i6) := (hf c (by omega) (by omega)).trans hm0
    have hHh : h (c + 15) = some (ai 24 H) := (hf (c + 15) (by omega) (by omega)).trans hH0
    generalize hv : (24 - ((m + 1 : Nat) : Int)) = v
    have e1 : v + 1 = 24 - (m : Int) := by omega
    have hbv := hHb v.toNat
    unfold mdrow at kk
    rw [hv] at kk
    refine y_run kX7_drop rfl ?_
    refine y_ic_ge kX7_drop rfl rfl (fun c1 => absurd c1 (by omega)) (fun c1 => ?_)
    refine y_run kX7_drop rfl ?_
    refine y_get kX7_drop rfl rfl hmh rfl ?_
    refine y_run kX7_drop rfl ?_
    refine y_ia kX7_drop rfl hHh (by omega) (by omega) ?_
    refine y_run kX7_drop rfl ?_
    refine y_ic_ne kX7_drop rfl rfl (fun c2 => ?_) (fun c2 => ?_)
    · refine y_run kX7_drop rfl ?_
      have e2 : mdstep H g v (B, a) = (B, a) := by unfold mdstep; rw [if_neg c2]
      rw [e2] at kk
      rw [e1, Int.add_zero]
      exact ih (by omega) B T a h hB hB0 hT hb ht hf kk
    · have hisT : mT B v := by
        rcases Classical.em (mT B v) with q | q
        · exact q
        · have := hH v (by omega) (by omega) (fun z => q ((hB0 v).mpr z))
          omega
      refine y_run kX7_drop rfl ?_
      refine y_cv kX7_drop kX7_slide 3 (rest := [vi a]) rfl hmh (by decide +kernel) (c_mslide hmh hb ht (v := v) (ax := 5) (M := 32) hB.1 hT (fun v' hv' x' x0 x1 => Int.le_of_lt (hB.2 v' hv' x' x0 x1)) ⟨by omega, by omega⟩ ⟨by omega, by omega⟩ ⟨by omega, by omega⟩) rfl rfl ?_
      rintro r h' n' ⟨hr, rfl⟩
      rcases hr with ⟨hno, -⟩ | ⟨-, w, T', rfl, a1, a2, a3, a4, a5⟩
      · exact absurd ⟨hisT, ⟨by omega, by omega⟩, by omega, by omega⟩ hno
      · have hw : mwent B v 2 (-1) 32 w := a1
        have a2 : h' (c + 1) = some (ai 264 (msh B v 2 (-1 * w))) := a2
        have e3 : mdstep H g v (B, a) = (msh B v 2 (-1 * w), a + w) := by
          unfold mdstep
          rw [if_pos c2]
          dsimp only
          rw [mfall_eq hw]
        rw [e3] at kk
        refine y_run kX7_drop rfl ?_
        rw [e1]
        exact ih (by omega) _ T' _ h' (okB_sh hB hisT (by omega) (by omega) hw) (fun v' => (msh_mT (by omega) (by omega) (by omega)).trans (hB0 v')) a4 a2 a3 (fun q q1 q2 => (a5 q q1 q2).trans (hf q q1 q2)) kk
theorem s_mdrop2 {Φ : Option xV → yH → Nat → Prop} {h0 : yH} {c : Nat} {i0 i1 i2 i3 i4 i5 i6 : Int} {B0 H : Nat → Int} (hm0 : h0 c = some (mo c i0 i1 i2 i3 i4 i5 i6)) (hH0 : h0 (c + 15) = some (ai 24 H)) (hH : ∀ v : Int, 0 ≤ v → v < 24 → ¬ mT B0 v → H v.toNat = -1) (hHb : ∀ j, -1 ≤ H j ∧ H j ≤ 32) :
    ∀ (m : Nat), m ≤ 32 → ∀ (B T : Nat → Int) (a : Int) (h : yH) (u : Option xV), okB B → (∀ v, mT B v ↔ mT B0 v) → (∀ j, -1 ≤ T j ∧ T j ≤ 33) → h (c + 1) = some (ai 264 B) → h (c + 14) = some (ai 6 T) → (∀ q, q ≠ c + 1 → q ≠ c + 14 → h q = h0 q) →
      (∀ (T' : Nat → Int) (h' : yH), okB (mdall H m (B, a)).1 → (∀ v, mT (mdall H m (B, a)).1 v ↔ mT B0 v) → (∀ j, -1 ≤ T' j ∧ T' j ≤ 33) → h' (c + 1) = some (ai 264 (mdall H m (B, a)).1) → h' (c + 14) = some (ai 6 T') → (∀ q, q ≠ c + 1 → q ≠ c + 14 → h' q = h0 q) → Φ (some (vi (mdall H m (B, a)).2)) h' n) →
      YW l G mX7_drop 5 0 0 Φ 47 [some (vr c), some (vi a), some (vi (32 - (m : Int))), u] [] h n := by
  intro m
  induction m with
  | zero =>
    intro hm B T a h u hB hB0 hT hb ht hf kk
    refine y_run kX7_drop rfl ?_
    refine y_ic_ge kX7_drop rfl rfl (fun c1 => ?_) (fun c1 => absurd c1 (by omega))
    refine y_run kX7_drop rfl ?_
    exact y_ir kX7_drop rfl rfl (kk T h hB hB0 hT hb ht hf)
  | succ m ih =>
    intro hm B T a h u hB hB0 hT hb ht hf kk
    generalize hg : (32 - ((m + 1 : Nat) : Int)) = g
    have e1 : g + 1 = 32 - (m : Int) := by omega
    refine y_run kX7_drop rfl ?_
    refine y_ic_ge kX7_drop rfl rfl (fun c1 => absurd c1 (by omega)) (fun c1 => ?_)
    refine y_run kX7_drop rfl ?_
    refine s_mdrop3 hm0 hH0 (by omega) (by omega) hH hHb 24 (by omega) B T a h hB hB0 hT hb ht hf (fun T' h' u' b1 b2 b3 b4 b5 b6 => ?_)
    refine y_run kX7_drop rfl ?_
    rw [e1]
    refine ih (by omega) _ T' _ h' _ b1 b2 b3 b4 b5 b6 ?_
    unfold mdall at kk
    rw [hg] at kk
    exact kk
theorem s_mdrop1 {Φ : Option xV → yH → Nat → Prop} {h0 : yH} {c : Nat} {i0 i1 i2 i3 i4 i5 i6 : Int} {B H : Nat → Int} (hm0 : h0 c = some (mo c i0 i1 i2 i3 i4 i5 i6)) (hb0 : h0 (c + 1) = some (ai 264 B)) (hB : okB B)
    (kk : YW l G mX7_drop 5 0 0 Φ 45 [some (vr c), some (vi 0), some (vi 24), none] [] (yup h0 (c + 15) (ai 24 (mhgk B H 24))) n) :
    ∀ (m k : Nat), k = 24 - m → m ≤ 24 → YW l G mX7_drop 5 0 0 Φ 4 [some (vr c), some (vi 0), some (vi (k : Int)), none] [] (yup h0 (c + 15) (ai 24 (mhgk B H k))) n := by
  intro m
  induction m with
  | zero =>
    intro k hk hk0
    have e : k = 24 := by omega
    subst e
    refine y_run kX7_drop rfl ?_
    refine y_ic_ge kX7_drop rfl rfl (fun c1 => kk) (fun c1 => absurd c1 (by omega))
  | succ m ih =>
    intro k hk hk0
    have hm : yup h0 (c + 15) (ai 24 (mhgk B H k)) c = some (mo c i0 i1 i2 i3 i4 i5 i6) := (yup_ne _ _ (by omega)).trans hm0
    have hb : yup h0 (c + 15) (ai 24 (mhgk B H k)) (c + 1) = some (ai 264 B) := (yup_ne _ _ (by omega)).trans hb0
    refine y_run kX7_drop rfl ?_
    refine y_ic_ge kX7_drop rfl rfl (fun c1 => absurd c1 (by omega)) (fun c1 => ?_)
    refine y_run kX7_drop rfl ?_
    refine y_get kX7_drop rfl rfl hm rfl ?_
    refine y_run kX7_drop rfl ?_
    refine y_cv kX7_drop kX7_isThere 1 (rest := [vi (k : Int), vr (c + 15)]) rfl hm (by decide +kernel) (c_isThere hm hb (fun j => ⟨by have := hB.1 j; omega, by have := hB.1 j; omega⟩) (v := (k : Int)) ⟨by omega, by omega⟩) rfl rfl ?_
    rintro r h' n' ⟨hr, rfl, rfl⟩
    rcases hr with ⟨rfl, hr⟩ | ⟨rfl, hr⟩
    · refine y_if_eq kX7_drop rfl rfl (fun q => absurd q (by omega)) (fun _ => ?_)
      refine y_run kX7_drop rfl ?_
      refine y_get kX7_drop rfl rfl hm rfl ?_
      refine y_run kX7_drop rfl ?_
      refine y_ia kX7_drop rfl hb (by omega) (by omega) ?_
      refine y_run kX7_drop rfl ?_
      refine y_is2 kX7_drop rfl (by omega) (by omega) ?_
      refine y_run kX7_drop rfl ?_
      rw [Int.toNat_natCast, mhgk_s B H k (by
        unfold mhgt
        rw [if_pos (by rw [← hr.2]; congr 1)]
        congr 1)]
      exact ih (k + 1) (by omega) (by omega)
    · refine y_if_eq kX7_drop rfl rfl (fun _ => ?_) (fun q => absurd rfl q)
      refine y_run kX7_drop rfl ?_
      refine y_is2 kX7_drop rfl (by omega) (by omega) ?_
      refine y_run kX7_drop rfl ?_
      rw [Int.toNat_natCast, mhgk_s B H k (by
        unfold mhgt
        rw [if_neg]
        intro q
        exact hr ⟨⟨by omega, by omega⟩, by rw [← q]; congr 1⟩)]
      exact ih (k + 1) (by omega) (by omega)
theorem mdrow_congr {g : Int} {H H' : Nat → Int} (hH : ∀ j : Nat, j < 24 → H j = H' j) : ∀ (m : Nat), m ≤ 24 → ∀ s, mdrow H g m s = mdrow H' g m s := by
  intro m
  induction m with
  | zero => intro _ s; rfl
  | succ m ih =>
    intro hm s
    unfold mdrow
    rw [ih (by omega)]
    congr 1
    unfold mdstep
    rw [hH _ (by omega)]
theorem mdall_congr {H H' : Nat → Int} (hH : ∀ j : Nat, j < 24 → H j = H' j) : ∀ (m : Nat) (s : (Nat → Int) × Int), mdall H m s = mdall H' m s := by
  intro m
  induction m with
  | zero => intro s; rfl
  | succ m ih =>
    intro s
    unfold mdall
    rw [ih, mdrow_congr hH 24 (by omega)]
theorem c_mdrop {h : yH} {c : Nat} {i0 i1 i2 i3 i4 i5 i6 : Int} {B T H : Nat → Int} (hm : h c = some (mo c i0 i1 i2 i3 i4 i5 i6)) (hb : h (c + 1) = some (ai 264 B)) (ht : h (c + 14) = some (ai 6 T)) (hH : h (c + 15) = some (ai 24 H)) (hHb : ∀ j, -1 ≤ H j ∧ H j ≤ 32) (hB : okB B) (hT : ∀ j, -1 ≤ T j ∧ T j ≤ 33) :
    YM l G mX7_drop 5 0 0 [vr c] h n (fun r h' n' => ∃ T' H', r = some (vi (mdall (mhgt B) 32 (B, 0)).2) ∧ okB (mdall (mhgt B) 32 (B, 0)).1 ∧ (∀ v, mT (mdall (mhgt B) 32 (B, 0)).1 v ↔ mT B v) ∧ (∀ j, -1 ≤ T' j ∧ T' j ≤ 33) ∧ h' (c + 1) = some (ai 264 (mdall (mhgt B) 32 (B, 0)).1) ∧ h' (c + 14) = some (ai 6 T') ∧ h' (c + 15) = some (ai 24 H') ∧ (∀ j, -1 ≤ H' j ∧ H' j ≤ 32) ∧ (∀ q, q ≠ c + 1 → q ≠ c + 14 → q ≠ c + 15 → h' q = h q) ∧ n' = n) := by
  have hk : ∀ j : Nat, j < 24 → mhgk B H 24 j = mhgt B j := fun j hj => by unfold mhgk; rw [if_pos hj]
  have hgb : ∀ j, -1 ≤ mhgt B j ∧ mhgt B j ≤ 32 := fun j => by
    unfold mhgt
    have := hB.1 (11 * j + 5)
    split <;> omega
  have hkb : ∀ j, -1 ≤ mhgk B H 24 j ∧ mhgk B H 24 j ≤ 32 := fun j => by
    unfold mhgk
    split
    · exact hgb j
    · exact hHb j
  refine YM.of kX7_drop (Nat.le_of_ble_eq_true rfl) (L0 := [some (vr c), none, none, none]) rfl ?_
  generalize hΦ : (fun (r : Option xV) (h' : yH) (n' : Nat) => ∃ T' H', r = some (vi (mdall (mhgt B) 32 (B, 0)).2) ∧ okB (mdall (mhgt B) 32 (B, 0)).1 ∧ (∀ v, mT (mdall (mhgt B) 32 (B, 0)).1 v ↔ mT B v) ∧ (∀ j, -1 ≤ T' j ∧ T' j ≤ 33) ∧ h' (c + 1) = some (ai 264 (mdall (mhgt B) 32 (B, 0)).1) ∧ h' (c + 14) = some (ai 6 T') ∧ h' (c + 15) = some (ai 24 H') ∧ (∀ j, -1 ≤ H' j ∧ H' j ≤ 32) ∧ (∀ q, q ≠ c + 1 → q ≠ c + 14 → q ≠ c + 15 → h' q = h q) ∧ n' = n) = Φ
  refine y_run kX7_drop rfl ?_
  refine YW.he (yup_self hH) ?_
  have k1 := s_mdrop1 (l := l) (G := gT G) (n := n) (Φ := Φ) (H := H) hm hb hB (by
    refine y_run kX7_drop rfl ?_
    refine s_mdrop2 (h0 := yup h (c + 15) (ai 24 (mhgk B H 24))) (B0 := B) ((yup_ne _ _ (by omega)).trans hm) (yup_eq _ _ _) (fun v v0 v1 q => ?_) hkb 32 (by omega) B T 0 _ _ hB (fun v => Iff.rfl) hT ((yup_ne _ _ (by omega)).trans hb) ((yup_ne _ _ (by omega)).trans ht) (fun q _ _ => rfl) (fun T' h' a1 a2 a3 a4 a5 a6 => ?_)
    · rw [hk _ (by omega)]
      unfold mhgt
      rw [if_neg]
      intro z
      exact q ⟨⟨v0, v1⟩, by rw [← z]; congr 1; omega⟩
    · rw [mdall_congr hk] at a1 a2 a4 ⊢
      rw [← hΦ]
      exact ⟨T', _, rfl, a1, a2, a3, a4, a5, (a6 (c + 15) (by omega) (by omega)).trans (yup_eq _ _ _), hkb, fun q q1 q2 q3 => (a6 q q1 q2).trans (yup_ne _ _ q3), rfl⟩) 24 0 (by omega) (by omega)
  have e0 : mhgk B H 0 = H := by
    funext j
    unfold mhgk
    rw [if_neg (by omega)]
  rw [e0] at k1
  exact k1
end C27
