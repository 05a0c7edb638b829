/-- the stage's object -/
def bo (b sh sp : Nat) (dr : Int) : yE := ob 6 [vr (b + 1), vr (b + 6), vr (b + 7), vr (b + 8), vr (b + 15), vr (b + 16), vr (b + 17), vr (b + 18), vr (b + 19), vr sh, vr sp, vi dr]
theorem went_uniq {t : Int} {E : Nat → Int} {v x s M w w' : Int} (h1 : went t E v x s M w) (h2 : went t E v x s M w') : w = w' := by
  obtain ⟨a1, a2, a3, a4⟩ := h1
  obtain ⟨b1, b2, b3, b4⟩ := h2
  rcases Int.lt_trichotomy w w' with c | c | c
  · rcases a4 with q | q
    · omega
    · exact absurd (b3 (w + 1) (by omega) (by omega)) q
  · exact c
  · rcases b4 with q | q
    · omega
    · exact absurd (a3 (w' + 1) (by omega) (by omega)) q
/-- how far box v falls -/
noncomputable def fall (t : Int) (E : Nat → Int) (v : Int) : Int := @dite _ (∃ w, went t E v 2 (-1) 32 w) (Classical.propDecidable _) (fun h => Classical.choose h) (fun _ => 0)
theorem fall_eq {t : Int} {E : Nat → Int} {v w : Int} (h : went t E v 2 (-1) 32 w) : fall t E v = w := by
  unfold fall
  have h' : ∃ w, went t E v 2 (-1) 32 w := ⟨w, h⟩
  rw [dif_pos h']
  exact went_uniq (Classical.choose_spec h') h
/-- one turn of drop: box v, if its height was g -/
noncomputable def dstep (t : Int) (H : Nat → Int) (g v : Int) (s : (Nat → Int) × Int) : (Nat → Int) × Int := if H v.toNat = g then (shE s.1 v 2 (-1 * fall t s.1 v), s.2 + fall t s.1 v) else s
/-- the turns v .. of a height -/
noncomputable def drow (t : Int) (H : Nat → Int) (g : Int) : Nat → (Nat → Int) × Int → (Nat → Int) × Int
  | 0, s => s
  | m + 1, s => drow t H g m (dstep t H g (24 - ((m + 1 : Nat) : Int)) s)
noncomputable def dall (t : Int) (H : Nat → Int) : Nat → (Nat → Int) × Int → (Nat → Int) × Int
  | 0, s => s
  | m + 1, s => dall t H m (drow t H (32 - ((m + 1 : Nat) : Int)) 24 s)
def hgt (t : Int) (E : Nat → Int) : Nat → Int := fun j => if tbt t j then E (j * 6 + 4) else -1
def hgk (t : Int) (E H : Nat → Int) (k : Nat) : Nat → Int := fun j => if j < k then hgt t E j else H j
theorem hgk_s (t : Int) (E H : Nat → Int) (k : Nat) {y : Int} (hy : y = hgt t E k) : upZ (hgk t E H k) k y = hgk t E H (k + 1) := by
  subst hy
  funext j
  unfold upZ hgk
  by_cases c : j = k
  · rw [if_pos c, if_pos (by omega), c]
  · rw [if_neg c]
    by_cases c2 : j < k
    · rw [if_pos c2, if_pos (by omega)]
    · rw [if_neg c2, if_neg (by omega)]
/-- what is right of a scene's numbers: ends in the room, each box that is there is no thinner than 1 -/
def okE (t : Int) (E : Nat → Int) : Prop := (∀ j, 0 ≤ E j ∧ E j ≤ 32) ∧ ∀ v, isT t v → ∀ x, 0 ≤ x → x < 3 → E (v * 6 + 2 * x).toNat < E (v * 6 + 2 * x + 1).toNat
theorem okE_sh {t : Int} {E : Nat → Int} {v x s M w : Int} (hE : okE t E) (hv : isT t v) (hx : 0 ≤ x) (hx2 : x < 3) (hw : went t E v x s M w) : okE t (shE E v x (s * w)) := by
  have hw0 := hE.2 v hv x hx hx2
  have hb0 := hE.1 (v * 6 + 2 * x).toNat
  have hb1 := hE.1 (v * 6 + 2 * x + 1).toNat
  have hv1 := hv.1
  have hin : 0 ≤ E (v * 6 + 2 * x).toNat + s * w ∧ E (v * 6 + 2 * x + 1).toNat + s * w ≤ 32 := by
    obtain ⟨a1, a2, a3, a4⟩ := hw
    by_cases c : w = 0
    · subst c; rw [Int.mul_zero]; omega
    · have := a3 w (by omega) (by omega)
      exact ⟨this.1, this.2.1⟩
  refine ⟨fun j => ?_, fun v' hv' x' h0 h1 => ?_⟩
  · unfold shE
    by_cases c : (j : Int) = v * 6 + 2 * x ∨ (j : Int) = v * 6 + 2 * x + 1
    · rw [if_pos c]
      rcases c with c | c
      · rw [show j = (v * 6 + 2 * x).toNat by omega]; omega
      · rw [show j = (v * 6 + 2 * x + 1).toNat by omega]; omega
    · rw [if_neg c]; exact hE.1 j
  · have hv2 := hv'.1
    have o := hE.2 v' hv' x' h0 h1
    unfold shE
    by_cases c : v' = v ∧ x' = x
    · obtain ⟨rfl, rfl⟩ := c
      rw [if_pos (by omega), if_pos (by omega)]
      omega
    · rw [if_neg (by omega), if_neg (by omega)]
      exact o
section C26
variable {l : Launch} {G : xG} {n : Nat}
theorem s_drop3 {Φ : Option xV → yH → Nat → Prop} {h0 : yH} {b sh sp : Nat} {t g dr : Int} {H K R : Nat → Int} (hx0 : h0 b = some (bo b sh sp dr)) (hH0 : h0 (b + 19) = some (ai 24 H)) (hg : 0 ≤ g) (hg2 : g < 32) (hH : ∀ j : Nat, j < 24 → tbt t j = false → H j = -1) (hHb : ∀ j, -1 ≤ H j ∧ H j ≤ 32) :
    ∀ (m : Nat), m ≤ 24 → ∀ (E T : Nat → Int) (a : Int) (h : yH), okE t E → (∀ j, -1 ≤ T j ∧ T j ≤ 33) → SC h (b + 1) t E K R T → (∀ q, q < b + 1 ∨ b + 6 ≤ q → h q = h0 q) →
      (∀ (T' : Nat → Int) (h' : yH) (u : Option xV), okE t (drow t H g m (E, a)).1 → (∀ j, -1 ≤ T' j ∧ T' j ≤ 33) → SC h' (b + 1) t (drow t H g m (E, a)).1 K R T' → (∀ q, q < b + 1 ∨ b + 6 ≤ q → h' q = h0 q) → YW l G mX6_drop 4 0 0 Φ 98 [some (vr b), some (vi (drow t H g m (E, a)).2), some (vi g), u] [] h' n) →
      YW l G mX6_drop 4 0 0 Φ 61 [some (vr b), some (vi a), some (vi g), some (vi (24 - (m : Int)))] [] h n := by
  intro m
  induction m with
  | zero =>
    intro hm E T a h hE hT hs hf kk
    refine y_run kX6_drop rfl ?_
    refine y_ic_ge kX6_drop rfl rfl (fun c1 => ?_) (fun c1 => absurd c1 (by omega))
    exact kk T h _ hE hT hs hf
  | succ m ih =>
    intro hm E T a h hE hT hs hf kk
    have hx : h b = some (bo b sh sp dr) := (hf b (by omega)).trans hx0
    have hHh : h (b + 19) = some (ai 24 H) := (hf (b + 19) (by omega)).trans hH0
    generalize hv : (24 - ((m + 1 : Nat) : Int)) = v
    have e1 : v + 1 = 24 - (m : Int) := by omega
    have hb := hHb v.toNat
    have kk2 : ∀ (T' : Nat → Int) (h' : yH) (u : Option xV), okE t (drow t H g m (dstep t H g v (E, a))).1 → (∀ j, -1 ≤ T' j ∧ T' j ≤ 33) → SC h' (b + 1) t (drow t H g m (dstep t H g v (E, a))).1 K R T' → (∀ q, q < b + 1 ∨ b + 6 ≤ q → h' q = h0 q) → YW l G mX6_drop 4 0 0 Φ 98 [some (vr b), some (vi (drow t H g m (dstep t H g v (E, a))).2), some (vi g), u] [] h' n := by
      have := kk
      unfold drow at this
      rw [hv] at this
      exact this
    refine y_run kX6_drop rfl ?_
    refine y_ic_ge kX6_drop rfl rfl (fun c1 => absurd c1 (by omega)) (fun c1 => ?_)
    refine y_run kX6_drop rfl ?_
    refine y_get kX6_drop rfl rfl hx rfl ?_
    refine y_run kX6_drop rfl ?_
    refine y_ia kX6_drop rfl hHh (by omega) (by omega) ?_
    refine y_run kX6_drop rfl ?_
    refine y_ic_ne kX6_drop rfl rfl (fun c2 => ?_) (fun c2 => ?_)
    · refine y_run kX6_drop rfl ?_
      have e2 : dstep t H g v (E, a) = (E, a) := by unfold dstep; rw [if_neg c2]
      rw [e2] at kk2
      rw [e1]
      exact ih (by omega) E T a h hE hT hs hf kk2
    · have hbit : tbt t v.toNat = true := by
        cases q : tbt t v.toNat with
        | true => rfl
        | false =>
          have := hH v.toNat (by omega) q
          omega
      have hisT : isT t v := ⟨⟨by omega, by omega⟩, hbit⟩
      refine y_run kX6_drop rfl ?_
      refine y_get kX6_drop rfl rfl hx rfl ?_
      refine y_run kX6_drop rfl ?_
      refine y_cv kX6_drop kX5_go 4 (rest := [vi a]) rfl hs.1 (by decide +kernel) (c_Sgo hs (v := v) (x := 2) (s := -1) (M := 32) (by omega) (by omega) (by omega) (by omega) (Or.inr rfl) (by omega) (by omega) hbit hE.1 (Int.le_of_lt (hE.2 v hisT 2 (by omega) (by omega))) hT) rfl rfl ?_
      rintro r h' n' ⟨w, T', rfl, a1, a2, a3, a4, a5, a6, a7, rfl⟩
      have hw : went t E v 2 (-1) 32 w := ⟨a1, a2, a3, a4⟩
      have e3 : dstep t H g v (E, a) = (shE E v 2 (-1 * w), a + w) := by
        unfold dstep
        rw [if_pos c2]
        dsimp only
        rw [fall_eq hw]
      rw [e3] at kk2
      refine y_run kX6_drop rfl ?_
      rw [e1]
      exact ih (by omega) _ T' _ h' (okE_sh hE hisT (by omega) (by omega) hw) a6 a5 (fun q hq => (a7 q (by omega)).trans (hf q hq)) kk2
theorem s_drop2 {Φ : Option xV → yH → Nat → Prop} {h0 : yH} {b sh sp : Nat} {t dr : Int} {H K R : Nat → Int} (hx0 : h0 b = some (bo b sh sp dr)) (hH0 : h0 (b + 19) = some (ai 24 H)) (hH : ∀ j : Nat, j < 24 → tbt t j = false → H j = -1) (hHb : ∀ j, -1 ≤ H j ∧ H j ≤ 32) :
    ∀ (m : Nat), m ≤ 32 → ∀ (E T : Nat → Int) (a : Int) (h : yH) (u : Option xV), okE t E → (∀ j, -1 ≤ T j ∧ T j ≤ 33) → SC h (b + 1) t E K R T → (∀ q, q < b + 1 ∨ b + 6 ≤ q → h q = h0 q) →
      (∀ (T' : Nat → Int) (h' : yH), okE t (dall t H m (E, a)).1 → (∀ j, -1 ≤ T' j ∧ T' j ≤ 33) → SC h' (b + 1) t (dall t H m (E, a)).1 K R T' → (∀ q, q < b + 1 ∨ b + 6 ≤ q → h' q = h0 q) → Φ (some (vi (dall t H m (E, a)).2)) h' n) →
      YW l G mX6_drop 4 0 0 Φ 53 [some (vr b), some (vi a), some (vi (32 - (m : Int))), u] [] h n := by
  intro m
  induction m with
  | zero =>
    intro hm E T a h u hE hT hs hf kk
    refine y_run kX6_drop rfl ?_
    refine y_ic_ge kX6_drop rfl rfl (fun c1 => ?_) (fun c1 => absurd c1 (by omega))
    refine y_run kX6_drop rfl ?_
    exact y_ir kX6_drop rfl rfl (kk T h hE hT hs hf)
  | succ m ih =>
    intro hm E T a h u hE hT hs hf kk
    generalize hg : (32 - ((m + 1 : Nat) : Int)) = g
    have e1 : g + 1 = 32 - (m : Int) := by omega
    refine y_run kX6_drop rfl ?_
    refine y_ic_ge kX6_drop rfl rfl (fun c1 => absurd c1 (by omega)) (fun c1 => ?_)
    refine y_run kX6_drop rfl ?_
    refine s_drop3 hx0 hH0 (by omega) (by omega) hH hHb 24 (by omega) E T a h hE hT hs hf (fun T' h' u' b1 b2 b3 b4 => ?_)
    refine y_run kX6_drop rfl ?_
    rw [e1]
    refine ih (by omega) _ T' _ h' _ b1 b2 b3 b4 ?_
    unfold dall at kk
    rw [hg] at kk
    exact kk
theorem s_drop1 {Φ : Option xV → yH → Nat → Prop} {h0 : yH} {b sh sp : Nat} {t dr : Int} {E K R T H : Nat → Int} (hx0 : h0 b = some (bo b sh sp dr)) (hs0 : SC h0 (b + 1) t E K R T) (hE : okE t E)
    (kk : YW l G mX6_drop 4 0 0 Φ 49 [some (vr b), some (vi 24), none, none] [] (yup h0 (b + 19) (ai 24 (hgk t E H 24))) n) :
    ∀ (m k : Nat), k = 24 - m → m ≤ 24 → YW l G mX6_drop 4 0 0 Φ 2 [some (vr b), some (vi (k : Int)), none, none] [] (yup h0 (b + 19) (ai 24 (hgk t E H k))) n := by
  intro m
  induction m with
  | zero =>
    intro k hk hk0
    have e : k = 24 := by omega
    subst e
    refine y_run kX6_drop rfl ?_
    refine y_ic_ge kX6_drop rfl rfl (fun c1 => kk) (fun c1 => absurd c1 (by omega))
  | succ m ih =>
    intro k hk hk0
    have hx : yup h0 (b + 19) (ai 24 (hgk t E H k)) b = some (bo b sh sp dr) := (yup_ne _ _ (by omega)).trans hx0
    have hs : SC (yup h0 (b + 19) (ai 24 (hgk t E H k))) (b + 1) t E K R T := hs0.frame1 (fun q _ _ => yup_ne _ _ (by omega))
    refine y_run kX6_drop rfl ?_
    refine y_ic_ge kX6_drop rfl rfl (fun c1 => absurd c1 (by omega)) (fun c1 => ?_)
    refine y_run kX6_drop rfl ?_
    refine y_get kX6_drop rfl rfl hx rfl ?_
    refine y_run kX6_drop rfl ?_
    refine y_get kX6_drop rfl rfl hx rfl ?_
    refine y_run kX6_drop rfl ?_
    refine y_cv kX6_drop kX5_has 1 (rest := [vi (k : Int), vr (b + 19)]) rfl hs.1 (by decide +kernel) (c_Shas hs (v := (k : Int)) ⟨by omega, by omega⟩) rfl rfl ?_
    rintro r h' n' ⟨rfl, rfl, rfl⟩
    refine y_beq kX6_drop rfl rfl (fun c2 => ?_) (fun c2 => ?_)
    · refine y_run kX6_drop rfl ?_
      refine y_is2 kX6_drop rfl (by omega) (by omega) ?_
      refine y_run kX6_drop rfl ?_
      rw [Int.toNat_natCast, hgk_s t E H k (by
        unfold hgt
        rw [if_neg]
        intro q
        exact c2 ⟨⟨by omega, by omega⟩, by rw [Int.toNat_natCast]; exact q⟩)]
      exact ih (k + 1) (by omega) (by omega)
    · refine y_run kX6_drop rfl ?_
      refine y_get kX6_drop rfl rfl hx rfl ?_
      refine y_get kX6_drop rfl rfl hs.1 rfl ?_
      refine y_run kX6_drop rfl ?_
      refine y_ia kX6_drop rfl hs.2.1 (by omega) (by omega) ?_
      refine y_run kX6_drop rfl ?_
      refine y_is2 kX6_drop rfl (by omega) (by omega) ?_
      refine y_run kX6_drop rfl ?_
      rw [Int.toNat_natCast, hgk_s t E H k (by
        unfold hgt
        rw [Int.toNat_natCast] at c2
        rw [if_pos c2.2]
        congr 1)]
      exact ih (k + 1) (by omega) (by omega)
theorem drow_congr {t g : Int} {H H' : Nat → Int} (hH : ∀ j : Nat, j < 24 → H j = H' j) : ∀ (m : Nat), m ≤ 24 → ∀ s, drow t H g m s = drow t H' g m s := by
  intro m
  induction m with
  | zero => intro _ s; rfl
  | succ m ih =>
    intro hm s
    unfold drow
    rw [ih (by omega)]
    congr 1
    unfold dstep
    rw [hH _ (by omega)]
theorem dall_congr {t : Int} {H H' : Nat → Int} (hH : ∀ j : Nat, j < 24 → H j = H' j) : ∀ (m : Nat) (s : (Nat → Int) × Int), dall t H m s = dall t H' m s := by
  intro m
  induction m with
  | zero => intro s; rfl
  | succ m ih =>
    intro s
    unfold dall
    rw [ih, drow_congr hH 24 (by omega)]
theorem c_drop {h : yH} {b sh sp : Nat} {t dr : Int} {E K R T H : Nat → Int} (hx : h b = some (bo b sh sp dr)) (hs : SC h (b + 1) t E K R T) (hH : h (b + 19) = some (ai 24 H)) (hHb : ∀ j, -1 ≤ H j ∧ H j ≤ 32) (hE : okE t E) (hT : ∀ j, -1 ≤ T j ∧ T j ≤ 33) :
    YM l G mX6_drop 4 0 0 [vr b] h n (fun r h' n' => ∃ T' H', r = some (vi (dall t (hgt t E) 32 (E, 0)).2) ∧ okE t (dall t (hgt t E) 32 (E, 0)).1 ∧ (∀ j, -1 ≤ T' j ∧ T' j ≤ 33) ∧ SC h' (b + 1) t (dall t (hgt t E) 32 (E, 0)).1 K R T' ∧ h' (b + 19) = some (ai 24 H') ∧ (∀ j, -1 ≤ H' j ∧ H' j ≤ 32) ∧ (∀ q, q < b + 1 ∨ b + 6 ≤ q → q ≠ b + 19 → h' q = h q) ∧ n' = n) := by
  have hk : ∀ j : Nat, j < 24 → hgk t E H 24 j = hgt t E j := fun j hj => by unfold hgk; rw [if_pos hj]
  have hgb : ∀ j, -1 ≤ hgt t E j ∧ hgt t E j ≤ 32 := fun j => by
    unfold hgt
    have := hE.1 (j * 6 + 4)
    split <;> omega
  have hkb : ∀ j, -1 ≤ hgk t E H 24 j ∧ hgk t E H 24 j ≤ 32 := fun j => by
    unfold hgk
    split
    · exact hgb j
    · exact hHb j
  refine YM.of kX6_drop (Nat.le_of_ble_eq_true rfl) (L0 := [some (vr b), none, none, none]) rfl ?_
  generalize hΦ : (fun (r : Option xV) (h' : yH) (n' : Nat) => ∃ T' H', r = some (vi (dall t (hgt t E) 32 (E, 0)).2) ∧ okE t (dall t (hgt t E) 32 (E, 0)).1 ∧ (∀ j, -1 ≤ T' j ∧ T' j ≤ 33) ∧ SC h' (b + 1) t (dall t (hgt t E) 32 (E, 0)).1 K R T' ∧ h' (b + 19) = some (ai 24 H') ∧ (∀ j, -1 ≤ H' j ∧ H' j ≤ 32) ∧ (∀ q, q < b + 1 ∨ b + 6 ≤ q → q ≠ b + 19 → h' q = h q) ∧ n' = n) = Φ
  refine y_run kX6_drop rfl ?_
  refine YW.he (yup_self hH) ?_
  have k1 := s_drop1 (l := l) (G := gT G) (n := n) (Φ := Φ) (H := H) hx hs hE (by
    refine y_run kX6_drop rfl ?_
    refine s_drop2 (h0 := yup h (b + 19) (ai 24 (hgk t E H 24))) (K := K) (R := R) ((yup_ne _ _ (by omega)).trans hx) (yup_eq _ _ _) (fun j hj q => ?_) hkb 32 (by omega) E T 0 _ _ hE hT (hs.frame1 (fun q _ _ => yup_ne _ _ (by omega))) (fun q _ => rfl) (fun T' h' a1 a2 a3 a4 => ?_)
    · rw [hk j hj]
      unfold hgt
      rw [if_neg (by rw [q]; decide)]
    · rw [dall_congr hk] at a1 a3 ⊢
      rw [← hΦ]
      exact ⟨T', _, rfl, a1, a2, a3, (a4 (b + 19) (by omega)).trans (yup_eq _ _ _), hkb, fun q q1 q2 => (a4 q q1).trans (yup_ne _ _ q2), rfl⟩) 24 0 (by omega) (by omega)
  have e0 : hgk t E H 0 = H := by
    funext j
    unfold hgk
    rw [if_neg (by omega)]
  rw [e0] at k1
  exact k1
end C26
