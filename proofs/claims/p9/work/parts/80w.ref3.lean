/-! the reference: free, plane -/
def frQ (Q C : Nat → Int) (p : Nat) : Prop := lfP Q p ∧ ∀ q, q < 128 → lfP Q q → C (128 * p + q) ≠ 1
/-- v is an end, inside of p along the axis, of one of the first m that X holds -/
def inQ (Q : Nat → Int) (X : Nat → Prop) (p ax m : Nat) (v : Int) : Prop := (Q (8 * p + 1 + 2 * ax) < v ∧ v < Q (8 * p + 2 + 2 * ax)) ∧ ∃ j, j < m ∧ X j ∧ (v = Q (8 * j + 1 + 2 * ax) ∨ v = Q (8 * j + 2 + 2 * ax))
/-- the lowest of them, or -1 -/
def bsI (Y : Int → Prop) (a : Int) : Prop := (a = -1 ∧ ∀ v, ¬ Y v) ∨ (Y a ∧ ∀ v, Y v → a ≤ v)
theorem bsI_cg {Y Y' : Int → Prop} (h : ∀ v, Y v ↔ Y' v) {a : Int} (ha : bsI Y a) : bsI Y' a := by
  rcases ha with ⟨h1, h2⟩ | ⟨h1, h2⟩
  · exact Or.inl ⟨h1, fun v hv => h2 v ((h v).mpr hv)⟩
  · exact Or.inr ⟨(h a).mp h1, fun v hv => h2 v ((h v).mpr hv)⟩
/-- one more that may be one -/
theorem bsI_no {Y : Int → Prop} {w : Int} {a : Int} (ha : bsI Y a) {Z : Prop} (hz : ¬ Z) : bsI (fun v => Y v ∨ (v = w ∧ Z)) a :=
  bsI_cg (fun v => ⟨Or.inl, fun k => k.elim id (fun z => absurd z.2 hz)⟩) ha
theorem bsI_keep {Y : Int → Prop} {w : Int} {a : Int} (ha : bsI Y a) {Z : Prop} (h1 : a ≠ -1) (h2 : a ≤ w) : bsI (fun v => Y v ∨ (v = w ∧ Z)) a := by
  rcases ha with ⟨k1, -⟩ | ⟨k1, k2⟩
  · exact absurd k1 h1
  · refine Or.inr ⟨Or.inl k1, fun v hv => ?_⟩
    rcases hv with hv | ⟨hv, -⟩
    · exact k2 v hv
    · omega
theorem bsI_new {Y : Int → Prop} {w : Int} {a : Int} (ha : bsI Y a) {Z : Prop} (hz : Z) (h1 : a = -1 ∨ w < a) (hneg : ∀ v, Y v → 0 ≤ v) : bsI (fun v => Y v ∨ (v = w ∧ Z)) w := by
  refine Or.inr ⟨Or.inr ⟨rfl, hz⟩, fun v hv => ?_⟩
  rcases hv with hv | ⟨hv, -⟩
  · rcases ha with ⟨k1, k2⟩ | ⟨k1, k2⟩
    · exact absurd hv (k2 v)
    · have := k2 v hv
      rcases h1 with h1 | h1
      · have k3 := hneg v hv
        have k4 := hneg a k1
        omega
      · omega
  · omega
section C80w
variable {l : Launch} {G : xG} {h : yH} {n : Nat} {b : Nat} {g : yH} {i0 i1 i2 i3 i4 i5 i6 : Int} {B J : Nat → Int} {C Q R : Nat → Int}
theorem s_isFreeE (hf : RF b g B J i0 i1 i2 i3 i4 i5 i6) {p : Nat} (p2 : p < 128) (hI : MI b g h) (e45 : h (b + 545) = some (ai 1024 Q)) (e46 : h (b + 546) = some (az 16384 C)) (hCb : ∀ j, C j = 0 ∨ C j = 1) (hl : lfP Q p) : ∀ (m : Nat) (q : Nat), 128 - q < m → q ≤ 128 → (∀ q', q' < q → lfP Q q' → C (128 * p + q') ≠ 1) → YW l G mX7_isFree 1 0 0 (fun r h' n' => ((r = some (vi 1) ∧ frQ Q C p) ∨ (r = some (vi 0) ∧ ¬ frQ Q C p)) ∧ h' = h ∧ n' = n) 12 [some (vr (b + 540)), some (vi (p : Int)), some (vi (q : Int))] [] h n := by
  intro m
  induction m with
  | zero => intro q hm; exact absurd hm (Nat.not_lt_zero _)
  | succ m ih =>
    intro q hmm j1 hno
    obtain ⟨hm, -⟩ := id hf
    have hc := hCb (128 * p + q)
    have nx : q < 128 → (lfP Q q → C (128 * p + q) ≠ 1) → YW l G mX7_isFree 1 0 0 (fun r h' n' => ((r = some (vi 1) ∧ frQ Q C p) ∨ (r = some (vi 0) ∧ ¬ frQ Q C p)) ∧ h' = h ∧ n' = n) 12 [some (vr (b + 540)), some (vi (p : Int)), some (vi ((q : Int) + 1))] [] h n := fun k1 k2 => by
      refine YW.Le (congrArg (fun z : Int => [some (vr (b + 540)), some (vi (p : Int)), some (vi z)]) (show (q : Int) + 1 = ((q + 1 : Nat) : Int) by omega)) ?_
      refine ih (q + 1) (by omega) (by omega) (fun q' hq' => ?_)
      by_cases e : q' = q
      · subst e; exact k2
      · exact hno q' (by omega)
    refine y_run kX7_isFree rfl ?_
    refine y_ic_ge kX7_isFree rfl rfl (fun c1 => ?_) (fun c1 => ?_)
    · refine y_run kX7_isFree rfl ?_
      exact y_zr kX7_isFree rfl rfl (by omega) ⟨Or.inl ⟨rfl, hl, fun q' hq' => hno q' (by omega)⟩, rfl, rfl⟩
    · refine y_run kX7_isFree rfl ?_
      refine y_cv kX7_isFree kX7_isLeft 1 rfl (hI.x (k := 540) rfl hm) (by decide +kernel) (e_isLeft hf (p := q) (by omega) hI e45) rfl rfl ?_
      rintro _ h2 _ ⟨⟨rfl, lq⟩ | ⟨rfl, lq⟩, eh, rfl⟩
      · subst eh
        refine y_if_eq kX7_isFree rfl rfl (fun e => absurd e (by omega)) (fun _ => ?_)
        refine y_run kX7_isFree rfl ?_
        refine m_get kX7_isFree (540) hI hm ?_
        refine y_run kX7_isFree rfl ?_
        refine y_za kX7_isFree rfl e46 (by omega) (by omega) ?_
        rw [show (128 * (p : Int) + (q : Int)).toNat = 128 * p + q by omega]
        refine y_if_eq kX7_isFree rfl rfl (fun c3 => ?_) (fun c3 => ?_)
        · refine y_run kX7_isFree rfl ?_
          exact nx (by omega) (fun _ => by omega)
        · refine y_run kX7_isFree rfl ?_
          exact y_zr kX7_isFree rfl rfl (by omega) ⟨Or.inr ⟨rfl, fun z => z.2 q (by omega) lq (by omega)⟩, rfl, rfl⟩
      · subst eh
        refine y_if_eq kX7_isFree rfl rfl (fun _ => ?_) (fun e => absurd rfl e)
        refine y_run kX7_isFree rfl ?_
        exact nx (by omega) (fun z => absurd z lq)
theorem e_isFree (hf : RF b g B J i0 i1 i2 i3 i4 i5 i6) {p : Nat} (p2 : p < 128) (hI : MI b g h) (e45 : h (b + 545) = some (ai 1024 Q)) (e46 : h (b + 546) = some (az 16384 C)) : YM l G mX7_isFree 1 0 0 [vr (b + 540), vi (p : Int)] h n (fun r h' n' => ((r = some (vi 1) ∧ frQ Q C p) ∨ (r = some (vi 0) ∧ ¬ frQ Q C p)) ∧ h' = h ∧ n' = n) := by
  refine YM.of kX7_isFree (Nat.le_of_ble_eq_true rfl) (L0 := [some (vr (b + 540)), some (vi (p : Int)), none]) rfl ?_
  obtain ⟨hm, -⟩ := id hf
  have hCb : ∀ j, C j = 0 ∨ C j = 1 := by
    obtain ⟨F, e, hF⟩ := hI.z (k := 546) (N := 16384) (lo := 0) (hi := 0) rfl
    rw [az_inj e46 e]
    exact hF
  refine y_run kX7_isFree rfl ?_
  refine y_cv kX7_isFree kX7_isLeft 1 rfl (hI.x (k := 540) rfl hm) (by decide +kernel) (e_isLeft hf (p := p) (by omega) hI e45) rfl rfl ?_
  rintro _ h2 _ ⟨⟨rfl, lq⟩ | ⟨rfl, lq⟩, eh, rfl⟩
  · subst eh
    refine y_if_ne kX7_isFree rfl rfl (fun _ => ?_) (fun e => absurd e (by omega))
    refine y_run kX7_isFree rfl ?_
    refine YW.Le (congrArg (fun z : Int => [some (vr (b + 540)), some (vi (p : Int)), some (vi z)]) (show (0 : Int) = ((0 : Nat) : Int) by omega)) ?_
    exact s_isFreeE hf p2 hI e45 e46 hCb lq 129 0 (by omega) (by omega) (fun q' hq' => absurd hq' (Nat.not_lt_zero _))
  · subst eh
    refine y_if_ne kX7_isFree rfl rfl (fun e => absurd rfl e) (fun _ => ?_)
    refine y_run kX7_isFree rfl ?_
    exact y_zr kX7_isFree rfl rfl (by omega) ⟨Or.inr ⟨rfl, fun z => lq z.1⟩, rfl, rfl⟩
def PFq (h : yH) (n : Nat) (Q C : Nat → Int) : Option xV → yH → Nat → Prop := fun r h' n' => ((r = some (vi (-1)) ∧ ∀ f, f < 128 → ¬ frQ Q C f) ∨ ∃ f : Nat, r = some (vi (f : Int)) ∧ f < 128 ∧ frQ Q C f ∧ ∀ f', f' < f → ¬ frQ Q C f') ∧ h' = h ∧ n' = n
theorem s_freeE (hf : RF b g B J i0 i1 i2 i3 i4 i5 i6) (hI : MI b g h) (e45 : h (b + 545) = some (ai 1024 Q)) (e46 : h (b + 546) = some (az 16384 C)) : ∀ (m : Nat) (q : Nat), 128 - q < m → q ≤ 128 → (∀ f', f' < q → ¬ frQ Q C f') → YW l G mX7_free 2 0 0 (PFq h n Q C) 2 [some (vr (b + 540)), some (vi (q : Int))] [] h n := by
  intro m
  induction m with
  | zero => intro q hm; exact absurd hm (Nat.not_lt_zero _)
  | succ m ih =>
    intro q hmm j1 hno
    obtain ⟨hm, -⟩ := id hf
    refine y_run kX7_free rfl ?_
    refine y_ic_ge kX7_free rfl rfl (fun c1 => ?_) (fun c1 => ?_)
    · refine y_run kX7_free rfl ?_
      exact y_ir kX7_free rfl rfl ⟨Or.inl ⟨rfl, fun f hf' => hno f (by omega)⟩, rfl, rfl⟩
    · refine y_run kX7_free rfl ?_
      refine y_cv kX7_free kX7_isFree 1 rfl (hI.x (k := 540) rfl hm) (by decide +kernel) (e_isFree hf (p := q) (by omega) hI e45 e46) rfl rfl ?_
      have k := ih (q + 1) (by omega) (by omega)
      rintro _ h2 _ ⟨⟨rfl, fq⟩ | ⟨rfl, fq⟩, eh, rfl⟩
      · subst eh
        refine y_if_eq kX7_free rfl rfl (fun e => absurd e (by omega)) (fun _ => ?_)
        refine y_run kX7_free rfl ?_
        exact y_ir kX7_free rfl rfl ⟨Or.inr ⟨q, rfl, by omega, fq, hno⟩, rfl, rfl⟩
      · subst eh
        refine y_if_eq kX7_free rfl rfl (fun _ => ?_) (fun e => absurd rfl e)
        refine y_run kX7_free rfl ?_
        refine YW.Le (congrArg (fun z : Int => [some (vr (b + 540)), some (vi z)]) (show (q : Int) + 1 = ((q + 1 : Nat) : Int) by omega)) ?_
        refine k (fun f' hf' => ?_)
        by_cases e : f' = q
        · subst e; exact fq
        · exact hno f' (by omega)
theorem e_free (hf : RF b g B J i0 i1 i2 i3 i4 i5 i6) (hI : MI b g h) (e45 : h (b + 545) = some (ai 1024 Q)) (e46 : h (b + 546) = some (az 16384 C)) : YM l G mX7_free 2 0 0 [vr (b + 540)] h n (PFq h n Q C) := by
  refine YM.of kX7_free (Nat.le_of_ble_eq_true rfl) (L0 := [some (vr (b + 540)), none]) rfl ?_
  refine y_run kX7_free rfl ?_
  refine YW.Le (congrArg (fun z : Int => [some (vr (b + 540)), some (vi z)]) (show (0 : Int) = ((0 : Nat) : Int) by omega)) ?_
  exact s_freeE hf hI e45 e46 129 0 (by omega) (by omega) (fun f' hf' => absurd hf' (Nat.not_lt_zero _))
def tgX (R : Nat → Int) (p : Nat) (q : Nat) : Prop := p ≠ q ∧ R (128 * p + q) = 1 ∧ R (128 * q + p) = 1
def PPl (h : yH) (n : Nat) (Q R : Nat → Int) (p ax : Nat) : Option xV → yH → Nat → Prop := fun r h' n' => (∃ a, r = some (vi a) ∧ bsI (inQ Q (tgX R p) p ax 128) a) ∧ h' = h ∧ n' = n
/-- of the ends of q the first r -/
def inQ2 (Q : Nat → Int) (X : Nat → Prop) (p ax q r : Nat) (v : Int) : Prop := inQ Q X p ax q v ∨ ((Q (8 * p + 1 + 2 * ax) < v ∧ v < Q (8 * p + 2 + 2 * ax)) ∧ ((0 < r ∧ v = Q (8 * q + 1 + 2 * ax)) ∨ (1 < r ∧ v = Q (8 * q + 2 + 2 * ax))))
theorem s_plane2E (hf : RF b g B J i0 i1 i2 i3 i4 i5 i6) {p y : Nat} (p2 : p < 128) (y2 : y < 3) (hI : MI b g h) (e45 : h (b + 545) = some (ai 1024 Q)) (hQb : ∀ j, -1 ≤ Q j ∧ Q j ≤ 127) (hQ0 : 0 ≤ Q (8 * p + 1 + 2 * y)) {Φ : Option xV → yH → Nat → Prop} {X : Nat → Prop} {q : Nat} (q2 : q < 128) (kk : ∀ (a : Int) (u5 : Option xV) (u6 : Option xV), -1 ≤ a → a ≤ 127 → bsI (inQ2 Q X p y q 2) a → YW l G mX7_plane 1 0 0 Φ 116 [some (vr (b + 540)), some (vi (p : Int)), some (vi (y : Int)), some (vi a), some (vi (q : Int)), u5, u6] [] h n) : ∀ (m : Nat) (r : Nat) (a : Int) (u6 : Option xV), 2 - r < m → r ≤ 2 → -1 ≤ a → a ≤ 127 → bsI (inQ2 Q X p y q r) a → YW l G mX7_plane 1 0 0 Φ 29 [some (vr (b + 540)), some (vi (p : Int)), some (vi (y : Int)), some (vi a), some (vi (q : Int)), some (vi (r : Int)), u6] [] h n := by
  intro m
  induction m with
  | zero => intro r a u6 hm; exact absurd hm (Nat.not_lt_zero _)
  | succ m ih =>
    intro r a u6 hmm j1 a1 a2 ha
    obtain ⟨hm, -⟩ := id hf
    refine y_run kX7_plane rfl ?_
    refine y_ic_ge kX7_plane rfl rfl (fun c1 => ?_) (fun c1 => ?_)
    · have e : r = 2 := by omega
      subst e
      exact kk _ _ _ a1 a2 ha
    · have gv : Q (8 * (q : Int) + 1 + 2 * (y : Int) + (r : Int)).toNat = Q (8 * q + 1 + 2 * y + r) := congrArg Q (by omega)
      have gp : Q (8 * (p : Int) + 1 + 2 * (y : Int)).toNat = Q (8 * p + 1 + 2 * y) := congrArg Q (by omega)
      have gp2 : Q (8 * (p : Int) + 2 + 2 * (y : Int)).toNat = Q (8 * p + 2 + 2 * y) := congrArg Q (by omega)
      have b1 := hQb (8 * q + 1 + 2 * y + r)
      have b2 := hQb (8 * p + 1 + 2 * y)
      have b3 := hQb (8 * p + 2 + 2 * y)
      have hneg : ∀ v, inQ2 Q X p y q r v → 0 ≤ v := fun v hv => by
        rcases hv with w | w
        · have := w.1.1; omega
        · have := w.1.1; omega
      have nx : ∀ (a' : Int) (u6 : Option xV), -1 ≤ a' → a' ≤ 127 → bsI (fun v => inQ2 Q X p y q r v ∨ (v = Q (8 * q + 1 + 2 * y + r) ∧ (Q (8 * p + 1 + 2 * y) < Q (8 * q + 1 + 2 * y + r) ∧ Q (8 * q + 1 + 2 * y + r) < Q (8 * p + 2 + 2 * y)))) a' → YW l G mX7_plane 1 0 0 Φ 29 [some (vr (b + 540)), some (vi (p : Int)), some (vi (y : Int)), some (vi a'), some (vi (q : Int)), some (vi ((r : Int) + 1)), u6] [] h n := fun a' u6 k1 k2 k3 => by
        refine YW.Le (congrArg (fun z : Int => [some (vr (b + 540)), some (vi (p : Int)), some (vi (y : Int)), some (vi a'), some (vi (q : Int)), some (vi z), u6]) (show (r : Int) + 1 = ((r + 1 : Nat) : Int) by omega)) ?_
        refine ih (r + 1) a' u6 (by omega) (by omega) k1 k2 (bsI_cg (fun v => ?_) k3)
        unfold inQ2
        rcases (show r = 0 ∨ r = 1 by omega) with rfl | rfl
        · rw [show 8 * q + 1 + 2 * y + 0 = 8 * q + 1 + 2 * y by omega]
          constructor
          · rintro ((w | ⟨w, ⟨w1, -⟩ | ⟨w1, -⟩⟩) | ⟨w1, w2⟩)
            · exact Or.inl w
            · omega
            · omega
            · exact Or.inr ⟨by omega, Or.inl ⟨by omega, w1⟩⟩
          · rintro (w | ⟨w, ⟨-, w1⟩ | ⟨w1, -⟩⟩)
            · exact Or.inl (Or.inl w)
            · exact Or.inr ⟨w1, by omega⟩
            · omega
        · rw [show 8 * q + 1 + 2 * y + 1 = 8 * q + 2 + 2 * y by omega]
          constructor
          · rintro ((w | ⟨w, ⟨w1, w2⟩ | ⟨w1, -⟩⟩) | ⟨w1, w2⟩)
            · exact Or.inl w
            · exact Or.inr ⟨w, Or.inl ⟨by omega, w2⟩⟩
            · omega
            · exact Or.inr ⟨by omega, Or.inr ⟨by omega, w1⟩⟩
          · rintro (w | ⟨w, ⟨-, w1⟩ | ⟨-, w1⟩⟩)
            · exact Or.inl (Or.inl w)
            · exact Or.inl (Or.inr ⟨w, Or.inl ⟨by omega, w1⟩⟩)
            · exact Or.inr ⟨w1, by omega⟩
      refine y_run kX7_plane rfl ?_
      refine m_get kX7_plane (540) hI hm ?_
      refine y_run kX7_plane rfl ?_
      refine y_ia kX7_plane rfl e45 (by omega) (by omega) ?_
      rw [gv]
      refine y_run kX7_plane rfl ?_
      refine m_get kX7_plane (540) hI hm ?_
      refine y_run kX7_plane rfl ?_
      refine y_ia kX7_plane rfl e45 (by omega) (by omega) ?_
      rw [gp]
      refine y_ic_le kX7_plane rfl rfl (fun c2 => ?_) (fun c2 => ?_)
      · refine y_run kX7_plane rfl ?_
        exact nx _ _ a1 a2 (bsI_no ha (fun z => by omega))
      · refine y_run kX7_plane rfl ?_
        refine m_get kX7_plane (540) hI hm ?_
        refine y_run kX7_plane rfl ?_
        refine y_ia kX7_plane rfl e45 (by omega) (by omega) ?_
        rw [gp2]
        refine y_ic_ge kX7_plane rfl rfl (fun c3 => ?_) (fun c3 => ?_)
        · refine y_run kX7_plane rfl ?_
          exact nx _ _ a1 a2 (bsI_no ha (fun z => by omega))
        · refine y_run kX7_plane rfl ?_
          refine y_ic_eq kX7_plane rfl rfl (fun c4 => ?_) (fun c4 => ?_)
          · refine y_run kX7_plane rfl ?_
            exact nx _ _ (by omega) (by omega) (bsI_new ha ⟨by omega, by omega⟩ (Or.inl c4) hneg)
          · refine y_run kX7_plane rfl ?_
            refine y_ic_ge kX7_plane rfl rfl (fun c5 => ?_) (fun c5 => ?_)
            · refine y_run kX7_plane rfl ?_
              exact nx _ _ a1 a2 (bsI_keep ha c4 (by omega))
            · refine y_run kX7_plane rfl ?_
              exact nx _ _ (by omega) (by omega) (bsI_new ha ⟨by omega, by omega⟩ (Or.inr (by omega)) hneg)
theorem s_plane1E (hf : RF b g B J i0 i1 i2 i3 i4 i5 i6) {p y : Nat} (p2 : p < 128) (y2 : y < 3) (hI : MI b g h) (e45 : h (b + 545) = some (ai 1024 Q)) (e47 : h (b + 547) = some (az 16384 R)) (hQb : ∀ j, -1 ≤ Q j ∧ Q j ≤ 127) (hQ0 : 0 ≤ Q (8 * p + 1 + 2 * y)) : ∀ (m : Nat) (q : Nat) (a : Int) (u5 : Option xV) (u6 : Option xV), 128 - q < m → q ≤ 128 → -1 ≤ a → a ≤ 127 → bsI (inQ Q (tgX R p) p y q) a → YW l G mX7_plane 1 0 0 (PPl h n Q R p y) 5 [some (vr (b + 540)), some (vi (p : Int)), some (vi (y : Int)), some (vi a), some (vi (q : Int)), u5, u6] [] h n := by
  intro m
  induction m with
  | zero => intro q a u5 u6 hm; exact absurd hm (Nat.not_lt_zero _)
  | succ m ih =>
    intro q a u5 u6 hmm j1 a1 a2 ha
    obtain ⟨hm, -⟩ := id hf
    have nx : ∀ (a' : Int) (u5 u6 : Option xV), q < 128 → -1 ≤ a' → a' ≤ 127 → bsI (inQ Q (tgX R p) p y (q + 1)) a' → YW l G mX7_plane 1 0 0 (PPl h n Q R p y) 5 [some (vr (b + 540)), some (vi (p : Int)), some (vi (y : Int)), some (vi a'), some (vi ((q : Int) + 1)), u5, u6] [] h n := fun a' u5 u6 k0 k1 k2 k3 => by
      refine YW.Le (congrArg (fun z : Int => [some (vr (b + 540)), some (vi (p : Int)), some (vi (y : Int)), some (vi a'), some (vi z), u5, u6]) (show (q : Int) + 1 = ((q + 1 : Nat) : Int) by omega)) ?_
      exact ih (q + 1) a' u5 u6 (by omega) (by omega) k1 k2 k3
    refine y_run kX7_plane rfl ?_
    refine y_ic_ge kX7_plane rfl rfl (fun c1 => ?_) (fun c1 => ?_)
    · have e : q = 128 := by omega
      subst e
      refine y_run kX7_plane rfl ?_
      exact y_ir kX7_plane rfl rfl ⟨⟨a, rfl, ha⟩, rfl, rfl⟩
    · refine y_run kX7_plane rfl ?_
      refine y_cv kX7_plane kX7_isTangled 2 rfl (hI.x (k := 540) rfl hm) (by decide +kernel) (e_isTangled hf p2 (q := q) (by omega) hI e47) rfl rfl ?_
      rintro _ h2 _ ⟨⟨rfl, tq⟩ | ⟨rfl, tq⟩, eh, rfl⟩
      · subst eh
        refine y_if_ne kX7_plane rfl rfl (fun _ => ?_) (fun e => absurd e (by omega))
        refine y_run kX7_plane rfl ?_
        refine YW.Le (congrArg (fun z : Int => [some (vr (b + 540)), some (vi (p : Int)), some (vi (y : Int)), some (vi a), some (vi (q : Int)), some (vi z), u6]) (show (0 : Int) = ((0 : Nat) : Int) by omega)) ?_
        refine s_plane2E (X := tgX R p) hf p2 y2 hI e45 hQb hQ0 (q := q) (by omega) (fun a' u5 u6 k1 k2 k3 => ?_) 3 0 a u6 (by omega) (by omega) a1 a2 (bsI_cg (fun v => ?_) ha)
        · refine y_run kX7_plane rfl ?_
          refine nx a' _ _ (by omega) k1 k2 (bsI_cg (fun v => ?_) k3)
          unfold inQ2 inQ
          constructor
          · rintro (⟨w, j, w1, w2, w3⟩ | ⟨w, ⟨-, w1⟩ | ⟨-, w1⟩⟩)
            · exact ⟨w, j, by omega, w2, w3⟩
            · exact ⟨w, q, by omega, tq, Or.inl w1⟩
            · exact ⟨w, q, by omega, tq, Or.inr w1⟩
          · rintro ⟨w, j, w1, w2, w3⟩
            by_cases e : j = q
            · subst e
              rcases w3 with w3 | w3
              · exact Or.inr ⟨w, Or.inl ⟨by omega, w3⟩⟩
              · exact Or.inr ⟨w, Or.inr ⟨by omega, w3⟩⟩
            · exact Or.inl ⟨w, j, by omega, w2, w3⟩
        · unfold inQ2
          constructor
          · exact Or.inl
          · rintro (w | ⟨-, ⟨w1, -⟩ | ⟨w1, -⟩⟩)
            · exact w
            · omega
            · omega
      · subst eh
        refine y_if_ne kX7_plane rfl rfl (fun e => absurd rfl e) (fun _ => ?_)
        refine y_run kX7_plane rfl ?_
        refine nx a _ _ (by omega) a1 a2 (bsI_cg (fun v => ?_) ha)
        unfold inQ
        constructor
        · rintro ⟨w, j, w1, w2, w3⟩
          exact ⟨w, j, by omega, w2, w3⟩
        · rintro ⟨w, j, w1, w2, w3⟩
          by_cases e : j = q
          · subst e; exact absurd w2 tq
          · exact ⟨w, j, by omega, w2, w3⟩
theorem e_plane (hf : RF b g B J i0 i1 i2 i3 i4 i5 i6) {p y : Nat} (p2 : p < 128) (y2 : y < 3) (hI : MI b g h) (e45 : h (b + 545) = some (ai 1024 Q)) (e47 : h (b + 547) = some (az 16384 R)) (hQ0 : 0 ≤ Q (8 * p + 1 + 2 * y)) : YM l G mX7_plane 1 0 0 [vr (b + 540), vi (p : Int), vi (y : Int)] h n (PPl h n Q R p y) := by
  refine YM.of kX7_plane (Nat.le_of_ble_eq_true rfl) (L0 := [some (vr (b + 540)), some (vi (p : Int)), some (vi (y : Int)), none, none, none, none]) rfl ?_
  have hQb : ∀ j, -1 ≤ Q j ∧ Q j ≤ 127 := by
    obtain ⟨F, e, hF⟩ := hI.i (k := 545) (N := 1024) (lo := -1) (hi := 127) rfl
    rw [ai_inj e45 e]
    exact hF
  refine y_run kX7_plane rfl ?_
  refine YW.Le (congrArg (fun z : Int => [some (vr (b + 540)), some (vi (p : Int)), some (vi (y : Int)), some (vi (-1)), some (vi z), none, none]) (show (0 : Int) = ((0 : Nat) : Int) by omega)) ?_
  refine s_plane1E hf p2 y2 hI e45 e47 hQb hQ0 129 0 (-1) _ _ (by omega) (by omega) (by omega) (by omega) (Or.inl ⟨rfl, fun v hv => ?_⟩)
  obtain ⟨-, j, j1, -⟩ := hv
  exact absurd j1 (Nat.not_lt_zero _)
end C80w
