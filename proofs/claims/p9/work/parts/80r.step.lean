/-! the order in which pieces are drawn, and how they are cut: what both sides do, step by step -/
def frP (P : Nat → Int) (S : Nat → Bool) (i : Nat) : Prop := S i = true ∧ ∀ j, S j = true → cvD P i j = false
def cC (P : Nat → Int) (S : Nat → Bool) (u v : Nat) : Prop := S u = true ∧ S v = true ∧ cvD P u v = true
def tgP (P : Nat → Int) (S : Nat → Bool) (i j : Nat) : Prop := TC (cC P S) i j ∧ TC (cC P S) j i
/-- v lies inside of i along the axis, and is an end of one that is tangled with it -/
def inP (P : Nat → Int) (S : Nat → Bool) (i ax : Nat) (v : Int) : Prop := (P (6 * i + 2 * ax) < v ∧ v < P (6 * i + 2 * ax + 1)) ∧ ∃ j, tgP P S i j ∧ (v = P (6 * j + 2 * ax) ∨ v = P (6 * j + 2 * ax + 1))
def plP (P : Nat → Int) (S : Nat → Bool) (i ax : Nat) (v : Int) : Prop := inP P S i ax v ∧ ∀ v', inP P S i ax v' → v ≤ v'
def ctP (P : Nat → Int) (x i ax : Nat) (v : Int) : Nat → Int := upZ (upZ (cpZ P P (6 * i) (6 * x) 6) (6 * i + 2 * ax + 1) v) (6 * x + 2 * ax) v
/-- ends, owners, who is left, the next number, how many, the order, how many are drawn -/
abbrev sT : Type := (Nat → Int) × (Nat → Int) × (Nat → Bool) × Nat × Nat × (Nat → Int) × Nat
/-- the piece that is cut, and where -/
def ctQ (P : Nat → Int) (S : Nat → Bool) (i ax : Nat) (v : Int) : Prop := S i = true ∧ ax < 3 ∧ plP P S i ax v ∧ (∀ ax', ax' < ax → ∀ v', ¬ inP P S i ax' v') ∧ ∀ i', i' < i → S i' = true → ∀ ax', ax' < 3 → ∀ v', ¬ inP P S i' ax' v'
def STEP (σ σ' : sT) : Prop := (∃ f, frP σ.1 σ.2.2.1 f ∧ (∀ f', f' < f → ¬ frP σ.1 σ.2.2.1 f') ∧ σ' = (σ.1, σ.2.1, (fun j => σ.2.2.1 j && !decide (j = f)), σ.2.2.2.1, σ.2.2.2.2.1, upZ σ.2.2.2.2.2.1 σ.2.2.2.2.2.2 (f : Int), σ.2.2.2.2.2.2 + 1)) ∨ ((∀ f, ¬ frP σ.1 σ.2.2.1 f) ∧ σ.2.2.2.2.1 < 96 ∧ ∃ i ax v, ctQ σ.1 σ.2.2.1 i ax v ∧ σ' = (ctP σ.1 σ.2.2.2.1 i ax v, upZ σ.2.1 σ.2.2.2.1 (σ.2.1 i), (fun j => σ.2.2.1 j || decide (j = σ.2.2.2.1)), σ.2.2.2.1 + 1, σ.2.2.2.2.1 + 1, σ.2.2.2.2.2.1, σ.2.2.2.2.2.2))
def STOP (σ : sT) (r : Int) : Prop := ((∀ s, σ.2.2.1 s = false) ∧ r = (σ.2.2.2.2.1 : Int)) ∨ ((∃ s, σ.2.2.1 s = true) ∧ (∀ f, ¬ frP σ.1 σ.2.2.1 f) ∧ (96 ≤ σ.2.2.2.2.1 ∨ ∀ i ax v, σ.2.2.1 i = true → ax < 3 → ¬ inP σ.1 σ.2.2.1 i ax v) ∧ r = -1)
def RUN (σ σ' : sT) : Prop := ∀ X : sT → Prop, X σ → (∀ τ τ', X τ → STEP τ τ' → X τ') → X σ'
theorem RUN.rf (σ : sT) : RUN σ σ := fun _ h _ => h
theorem RUN.st {σ τ τ' : sT} (h : RUN σ τ) (hs : STEP τ τ') : RUN σ τ' := fun X h1 h2 => h2 τ τ' (h X h1 h2) hs
theorem RUN.hd {σ τ : sT} (h : RUN σ τ) : σ = τ ∨ ∃ ρ, STEP σ ρ ∧ RUN ρ τ := by
  refine h (fun τ => σ = τ ∨ ∃ ρ, STEP σ ρ ∧ RUN ρ τ) (Or.inl rfl) (fun τ τ' hx hs => ?_)
  rcases hx with rfl | ⟨ρ, r1, r2⟩
  · exact Or.inr ⟨τ', hs, RUN.rf τ'⟩
  · exact Or.inr ⟨ρ, r1, r2.st hs⟩
theorem low_uniq {p : Nat → Prop} {a b : Nat} (ha : p a) (hb : p b) (la : ∀ k, k < a → ¬ p k) (lb : ∀ k, k < b → ¬ p k) : a = b := by
  rcases Nat.lt_trichotomy a b with h | h | h
  · exact absurd ha (lb a h)
  · exact h
  · exact absurd hb (la b h)
theorem ctQ_uniq {P : Nat → Int} {S : Nat → Bool} {i ax i' ax' : Nat} {v v' : Int} (h : ctQ P S i ax v) (h' : ctQ P S i' ax' v') : i = i' ∧ ax = ax' ∧ v = v' := by
  obtain ⟨a1, a2, a3, a4, a5⟩ := h
  obtain ⟨b1, b2, b3, b4, b5⟩ := h'
  have e : i = i' := by
    rcases Nat.lt_trichotomy i i' with k | k | k
    · exact absurd a3.1 (b5 i k a1 ax a2 v)
    · exact k
    · exact absurd b3.1 (a5 i' k b1 ax' b2 v')
  subst e
  have e : ax = ax' := by
    rcases Nat.lt_trichotomy ax ax' with k | k | k
    · exact absurd a3.1 (b4 ax k v)
    · exact k
    · exact absurd b3.1 (a4 ax' k v')
  subst e
  have k1 := a3.2 v' b3.1
  have k2 := b3.2 v a3.1
  exact ⟨rfl, rfl, by omega⟩
theorem STEP_det {σ σ1 σ2 : sT} (h1 : STEP σ σ1) (h2 : STEP σ σ2) : σ1 = σ2 := by
  rcases h1 with ⟨f, f1, f2, rfl⟩ | ⟨n1, c1, i, ax, v, q1, rfl⟩
  · rcases h2 with ⟨f', g1, g2, rfl⟩ | ⟨n2, -⟩
    · have e := low_uniq f1 g1 f2 g2
      rw [e]
    · exact absurd f1 (n2 f)
  · rcases h2 with ⟨f', g1, -⟩ | ⟨n2, c2, i', ax', v', q2, rfl⟩
    · exact absurd g1 (n1 f')
    · obtain ⟨rfl, rfl, rfl⟩ := ctQ_uniq q1 q2
      rfl
theorem STOP_end {σ σ' : sT} {r : Int} (h : STOP σ r) : ¬ STEP σ σ' := by
  intro hs
  rcases h with ⟨h1, -⟩ | ⟨h1, h2, h3, -⟩
  · rcases hs with ⟨f, f1, -⟩ | ⟨-, -, i, ax, v, q, -⟩
    · have := f1.1; rw [h1 f] at this; cases this
    · have := q.1; rw [h1 i] at this; cases this
  · rcases hs with ⟨f, f1, -⟩ | ⟨-, c1, i, ax, v, q, -⟩
    · exact h2 f f1
    · rcases h3 with h3 | h3
      · omega
      · exact h3 i ax v q.1 q.2.1 q.2.2.1.1
theorem RUN_det {σ σ1 σ2 : sT} {r1 r2 : Int} (h1 : RUN σ σ1) (s1 : STOP σ1 r1) (h2 : RUN σ σ2) (s2 : STOP σ2 r2) : σ1 = σ2 := by
  have h : RUN σ2 σ1 := h2 (fun ρ => RUN ρ σ1) h1 (fun ρ ρ' hr hs => by
    rcases hr.hd with rfl | ⟨τ, t1, t2⟩
    · exact absurd hs (STOP_end s1)
    · rw [STEP_det hs t1]; exact t2)
  rcases h.hd with e | ⟨τ, t1, -⟩
  · exact e.symm
  · exact absurd t1 (STOP_end s2)
theorem STOP_uniq {σ : sT} {r1 r2 : Int} (h1 : STOP σ r1) (h2 : STOP σ r2) : r1 = r2 := by
  rcases h1 with ⟨a1, a2⟩ | ⟨⟨s, a1⟩, -, -, a2⟩
  · rcases h2 with ⟨b1, b2⟩ | ⟨⟨s, b1⟩, -⟩
    · omega
    · rw [a1 s] at b1; cases b1
  · rcases h2 with ⟨b1, b2⟩ | ⟨-, -, -, b2⟩
    · rw [b1 s] at a1; cases a1
    · omega
/-- what holds of the ends on the way -/
def INs (P : Nat → Int) (S : Nat → Bool) (x : Nat) : Prop := (∀ j, 0 ≤ P j ∧ P j ≤ 32) ∧ (∀ i, S i = true → i < x ∧ sd P (i : Int)) ∧ ∀ i j, S i = true → S j = true → i ≠ j → lbP P (i : Int) (j : Int) ∨ lbP P (j : Int) (i : Int)
theorem INs.out {P : Nat → Int} {S : Nat → Bool} {x : Nat} (h : INs P S x) (f : Nat) : INs P (fun j => S j && !decide (j = f)) x := by
  have s : ∀ i, (S i && !decide (i = f)) = true → S i = true := fun i k => by
    rw [Bool.and_eq_true] at k; exact k.1
  exact ⟨h.1, fun i k => h.2.1 i (s i k), fun i j k1 k2 k3 => h.2.2 i j (s i k1) (s j k2) k3⟩
theorem ctP_oth {P : Nat → Int} {x i ax : Nat} {v : Int} {u k : Nat} (hi : i < x) (ha : ax < 3) (hu : u < x) (hui : u ≠ i) (hk : k < 6) : ctP P x i ax v (6 * u + k) = P (6 * u + k) := by
  unfold ctP
  rw [upZ_ne _ _ (by omega), upZ_ne _ _ (by omega)]
  unfold cpZ
  rw [if_neg (by omega)]
theorem ctP_i {P : Nat → Int} {x i ax : Nat} {v : Int} {k : Nat} (hi : i < x) (ha : ax < 3) (hk : k < 6) : ctP P x i ax v (6 * i + k) = if k = 2 * ax + 1 then v else P (6 * i + k) := by
  unfold ctP
  rw [upZ_ne _ _ (by omega)]
  by_cases e : k = 2 * ax + 1
  · rw [if_pos e, show 6 * i + k = 6 * i + 2 * ax + 1 by omega, upZ_eq]
  · rw [if_neg e, upZ_ne _ _ (by omega)]
    unfold cpZ
    rw [if_neg (by omega)]
theorem ctP_x {P : Nat → Int} {x i ax : Nat} {v : Int} {k : Nat} (hi : i < x) (ha : ax < 3) (hk : k < 6) : ctP P x i ax v (6 * x + k) = if k = 2 * ax then v else P (6 * i + k) := by
  unfold ctP
  by_cases e : k = 2 * ax
  · rw [if_pos e, show 6 * x + k = 6 * x + 2 * ax by omega, upZ_eq]
  · rw [if_neg e, upZ_ne _ _ (by omega), upZ_ne _ _ (by omega)]
    unfold cpZ
    rw [if_pos (by omega)]
    congr 1
    omega
/-- ends by number -/
theorem ix (u k : Nat) (z : Int) (hz : z = (k : Int)) : ((u : Int) * 6 + z).toNat = 6 * u + k := by omega
theorem sd_n (P : Nat → Int) (u : Nat) : sd P (u : Int) ↔ P (6 * u + 0) < P (6 * u + 1) ∧ P (6 * u + 2) < P (6 * u + 3) ∧ P (6 * u + 4) < P (6 * u + 5) := by
  unfold sd
  rw [show ((u : Int) * 6).toNat = 6 * u + 0 by omega, ix u 1 1 rfl, ix u 2 2 rfl, ix u 3 3 rfl, ix u 4 4 rfl, ix u 5 5 rfl]
theorem lbP_n (P : Nat → Int) (u w : Nat) : lbP P (u : Int) (w : Int) ↔ ∃ k : Nat, k < 3 ∧ P (6 * w + (2 * k + 1)) ≤ P (6 * u + 2 * k) := by
  unfold lbP
  constructor
  · rintro ⟨k, k0, k1, k2⟩
    refine ⟨k.toNat, by omega, ?_⟩
    rw [show ((w : Int) * 6 + 2 * k + 1).toNat = 6 * w + (2 * k.toNat + 1) by omega, show ((u : Int) * 6 + 2 * k).toNat = 6 * u + 2 * k.toNat by omega] at k2
    exact k2
  · rintro ⟨k, k1, k2⟩
    refine ⟨(k : Int), by omega, by omega, ?_⟩
    rw [show ((w : Int) * 6 + 2 * (k : Int) + 1).toNat = 6 * w + (2 * k + 1) by omega, show ((u : Int) * 6 + 2 * (k : Int)).toNat = 6 * u + 2 * k by omega]
    exact k2
theorem INs.cut {P : Nat → Int} {S : Nat → Bool} {x i ax : Nat} {v : Int} (h : INs P S x) (hi : S i = true) (ha : ax < 3) (hv1 : P (6 * i + 2 * ax) < v) (hv2 : v < P (6 * i + 2 * ax + 1)) : INs (ctP P x i ax v) (fun j => S j || decide (j = x)) (x + 1) := by
  obtain ⟨h1, h2, h3⟩ := h
  have ix' := (h2 i hi).1
  have b1 := h1 (6 * i + 2 * ax)
  have b2 := h1 (6 * i + 2 * ax + 1)
  have mem : ∀ u, (S u || decide (u = x)) = true → (u = x ∨ (u ≠ i ∧ S u = true ∧ u < x) ∨ u = i) := fun u k => by
    rw [Bool.or_eq_true, decide_eq_true_eq] at k
    rcases k with k | k
    · by_cases e : u = i
      · exact Or.inr (Or.inr e)
      · exact Or.inr (Or.inl ⟨e, k, (h2 u k).1⟩)
    · exact Or.inl k
  have pi := fun k (hk : k < 6) => ctP_i (P := P) (v := v) ix' ha hk
  have px := fun k (hk : k < 6) => ctP_x (P := P) (v := v) ix' ha hk
  have po := fun u k (hu : u ≠ i) (hu2 : u < x) (hk : k < 6) => ctP_oth (P := P) (v := v) ix' ha hu2 hu hk
  have old := (sd_n P i).mp (h2 i hi).2
  -- what lay beyond i, or i beyond it, still does, of both parts
  have keep : ∀ u, u ≠ i → S u = true → ∀ w, (w = i ∨ w = x) → lbP (ctP P x i ax v) (u : Int) (w : Int) ∨ lbP (ctP P x i ax v) (w : Int) (u : Int) := by
    intro u hu su w hw
    have ux := (h2 u su).1
    rcases h3 u i su hi hu with kb | kb
    · left
      obtain ⟨k, k1, k2⟩ := (lbP_n P u i).mp kb
      refine (lbP_n _ u w).mpr ⟨k, k1, ?_⟩
      rw [po u (2 * k) hu ux (by omega)]
      rcases hw with rfl | rfl
      · rw [pi (2 * k + 1) (by omega)]
        split
        · rename_i e
          have e' : k = ax := by omega
          subst e'
          rw [show 6 * w + (2 * k + 1) = 6 * w + 2 * k + 1 by omega] at k2
          omega
        · exact k2
      · rw [px (2 * k + 1) (by omega), if_neg (by omega)]
        exact k2
    · right
      obtain ⟨k, k1, k2⟩ := (lbP_n P i u).mp kb
      refine (lbP_n _ w u).mpr ⟨k, k1, ?_⟩
      rw [po u (2 * k + 1) hu ux (by omega)]
      rcases hw with rfl | rfl
      · rw [pi (2 * k) (by omega), if_neg (by omega)]
        exact k2
      · rw [px (2 * k) (by omega)]
        split
        · rename_i e
          have e' : k = ax := by omega
          subst e'
          omega
        · exact k2
  have new : lbP (ctP P x i ax v) (x : Int) (i : Int) := by
    refine (lbP_n _ x i).mpr ⟨ax, ha, ?_⟩
    rw [pi (2 * ax + 1) (by omega), if_pos rfl, px (2 * ax) (by omega), if_pos rfl]
    exact Int.le_refl _
  refine ⟨fun j => ?_, fun u hu => ?_, fun u w hu hw huw => ?_⟩
  · unfold ctP
    refine upZ_all (P := fun y => 0 ≤ y ∧ y ≤ 32) (upZ_all (P := fun y => 0 ≤ y ∧ y ≤ 32) (cpZ_all (P := fun y => 0 ≤ y ∧ y ≤ 32) h1 h1 _ _ _) _ (by omega)) _ (by omega) j
  · rcases mem u hu with rfl | ⟨u1, u2, u3⟩ | rfl
    · refine ⟨by omega, (sd_n _ u).mpr ?_⟩
      rw [px 0 (by omega), px 1 (by omega), px 2 (by omega), px 3 (by omega), px 4 (by omega), px 5 (by omega)]
      rcases (show ax = 0 ∨ ax = 1 ∨ ax = 2 by omega) with rfl | rfl | rfl
      · simp only [show (0 = 2 * 0) = True by simp, show (1 = 2 * 0) = False by simp, show (2 = 2 * 0) = False by simp, show (3 = 2 * 0) = False by simp, show (4 = 2 * 0) = False by simp, show (5 = 2 * 0) = False by simp, if_true, if_false]
        exact ⟨hv2, old.2⟩
      · simp only [show (0 = 2 * 1) = False by simp, show (1 = 2 * 1) = False by simp, show (2 = 2 * 1) = True by simp, show (3 = 2 * 1) = False by simp, show (4 = 2 * 1) = False by simp, show (5 = 2 * 1) = False by simp, if_true, if_false]
        exact ⟨old.1, hv2, old.2.2⟩
      · simp only [show (0 = 2 * 2) = False by simp, show (1 = 2 * 2) = False by simp, show (2 = 2 * 2) = False by simp, show (3 = 2 * 2) = False by simp, show (4 = 2 * 2) = True by simp, show (5 = 2 * 2) = False by simp, if_true, if_false]
        exact ⟨old.1, old.2.1, hv2⟩
    · refine ⟨by omega, (sd_n _ u).mpr ?_⟩
      rw [po u 0 u1 u3 (by omega), po u 1 u1 u3 (by omega), po u 2 u1 u3 (by omega), po u 3 u1 u3 (by omega), po u 4 u1 u3 (by omega), po u 5 u1 u3 (by omega)]
      exact (sd_n P u).mp (h2 u u2).2
    · refine ⟨by omega, (sd_n _ u).mpr ?_⟩
      rw [pi 0 (by omega), pi 1 (by omega), pi 2 (by omega), pi 3 (by omega), pi 4 (by omega), pi 5 (by omega)]
      rcases (show ax = 0 ∨ ax = 1 ∨ ax = 2 by omega) with rfl | rfl | rfl
      · simp only [show (0 = 2 * 0 + 1) = False by simp, show (1 = 2 * 0 + 1) = True by simp, show (2 = 2 * 0 + 1) = False by simp, show (3 = 2 * 0 + 1) = False by simp, show (4 = 2 * 0 + 1) = False by simp, show (5 = 2 * 0 + 1) = False by simp, if_true, if_false]
        exact ⟨hv1, old.2⟩
      · simp only [show (0 = 2 * 1 + 1) = False by simp, show (1 = 2 * 1 + 1) = False by simp, show (2 = 2 * 1 + 1) = False by simp, show (3 = 2 * 1 + 1) = True by simp, show (4 = 2 * 1 + 1) = False by simp, show (5 = 2 * 1 + 1) = False by simp, if_true, if_false]
        exact ⟨old.1, hv1, old.2.2⟩
      · simp only [show (0 = 2 * 2 + 1) = False by simp, show (1 = 2 * 2 + 1) = False by simp, show (2 = 2 * 2 + 1) = False by simp, show (3 = 2 * 2 + 1) = False by simp, show (4 = 2 * 2 + 1) = False by simp, show (5 = 2 * 2 + 1) = True by simp, if_true, if_false]
        exact ⟨old.1, old.2.1, hv1⟩
  · rcases mem u hu with rfl | ⟨u1, u2, u3⟩ | rfl
    · rcases mem w hw with rfl | ⟨w1, w2, w3⟩ | rfl
      · exact absurd rfl huw
      · exact (keep w w1 w2 u (Or.inr rfl)).symm
      · exact Or.inl new
    · rcases mem w hw with rfl | ⟨w1, w2, w3⟩ | rfl
      · exact keep u u1 u2 w (Or.inr rfl)
      · rcases h3 u w u2 w2 huw with k | k
        · left
          obtain ⟨k, k1, k2⟩ := (lbP_n P u w).mp k
          refine (lbP_n _ u w).mpr ⟨k, k1, ?_⟩
          rw [po u _ u1 u3 (by omega), po w _ w1 w3 (by omega)]
          exact k2
        · right
          obtain ⟨k, k1, k2⟩ := (lbP_n P w u).mp k
          refine (lbP_n _ w u).mpr ⟨k, k1, ?_⟩
          rw [po u _ u1 u3 (by omega), po w _ w1 w3 (by omega)]
          exact k2
      · exact keep u u1 u2 w (Or.inl rfl)
    · rcases mem w hw with rfl | ⟨w1, w2, w3⟩ | rfl
      · exact Or.inr new
      · exact (keep w w1 w2 u (Or.inl rfl)).symm
      · exact absurd rfl huw
