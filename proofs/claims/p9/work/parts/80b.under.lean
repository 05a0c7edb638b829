/-! under, exactly: the exits of all boxes at a pixel, and how many are nearer -/
def cxO (t : Int) (E : Nat → Int) (a c v : Int) : Int := if (0 ≤ v ∧ v < 24) ∧ tbt t v.toNat = true then (if max (4 * E (v * 6).toNat - a) (max (4 * E (v * 6 + 2).toNat - c) (4 * E (v * 6 + 4).toNat)) < min (4 * E (v * 6 + 1).toNat - a) (min (4 * E (v * 6 + 3).toNat - c) (4 * E (v * 6 + 5).toNat)) then rex (E (v * 6 + 1).toNat) (E (v * 6 + 3).toNat) (E (v * 6 + 5).toNat) a c else -1) else -1
def nrr (F : Nat → Int) (x : Int) : Nat → Int
  | 0 => 0
  | m + 1 => nrr F x m + (if x < F m then 1 else 0)
theorem nrr_b (F : Nat → Int) (x : Int) : ∀ m : Nat, 0 ≤ nrr F x m ∧ nrr F x m ≤ m := by
  intro m
  induction m with
  | zero => exact ⟨Int.le_refl 0, Int.le_refl 0⟩
  | succ m ih =>
    unfold nrr
    split <;> omega
theorem nrr_cg {F F' : Nat → Int} {x x' : Int} : ∀ m : Nat, (∀ j, j < m → (x < F j ↔ x' < F' j)) → nrr F x m = nrr F' x' m := by
  intro m
  induction m with
  | zero => intro _; rfl
  | succ m ih =>
    intro h
    unfold nrr
    rw [ih (fun j hj => h j (by omega))]
    by_cases c : x < F m
    · rw [if_pos c, if_pos ((h m (by omega)).mp c)]
    · rw [if_neg c, if_neg (fun q => c ((h m (by omega)).mpr q))]
theorem rex_min (x1 y1 z1 a c : Int) : rex x1 y1 z1 a c = min (4 * x1 - a) (min (4 * y1 - c) (4 * z1)) := by
  unfold rex
  split
  · split at * <;> omega
  · split at * <;> omega
section C80b
variable {l : Launch} {G : xG} {M : xM} {d kc ks : Nat} {Φ : Option xV → yH → Nat → Prop} {h : yH} {n : Nat} {pc : Nat} {L : List (Option xV)} {st : List xV}
theorem YW.genP {P : yH → Prop} (hP : P h) (k : ∀ g, P g → YW l G M d kc ks Φ pc L st g n) : YW l G M d kc ks Φ pc L st h n := k h hP
theorem ai_inj {e : Option yE} {N : Nat} {F F' : Nat → Int} (h1 : e = some (ai N F)) (h2 : e = some (ai N F')) : F = F' := by
  rw [h1] at h2
  injection h2 with h2
  injection h2 with h2
  injection h2 with _ h2
  injection h2 with _ h2
  injection h2
theorem YW.imp {Ψ : Option xV → yH → Nat → Prop} (k : YW l G M d kc ks Φ pc L st h n) (hi : ∀ r h' n', Φ r h' n' → Ψ r h' n') : YW l G M d kc ks Ψ pc L st h n := by
  intro p e R s m args below meth c H locs cells slots ls A hC hR hS hI hA h1 h2 h3 h4 hL T hT X
  obtain ⟨t, st', o, g1, g2, ⟨v, h', n', ho, ⟨u, g, hv, hg, hΦ⟩, hq⟩, hL'⟩ := k p e R s m args below meth c H locs cells slots ls A hC hR hS hI hA h1 h2 h3 h4 hL T hT X
  exact ⟨t, st', o, g1, g2, ⟨v, h', n', ho, ⟨u, g, hv, hg, hi _ _ _ hΦ⟩, hq⟩, hL'⟩
theorem least24_imp {P Q : Int → Prop} {z : Int} (hPQ : ∀ u, 0 ≤ u → u < 24 → (P u ↔ Q u)) (h : least24 P z) : least24 Q z := by
  rcases h with ⟨a1, a2, a3, a4⟩ | ⟨a1, a2⟩
  · exact Or.inl ⟨a1, a2, (hPQ z a1 a2).mp a3, fun u u0 u1 q => a4 u u0 u1 ((hPQ u u0 (by omega)).mpr q)⟩
  · exact Or.inr ⟨a1, fun u u0 u1 q => a2 u u0 u1 ((hPQ u u0 u1).mpr q)⟩
def PEx (b : Nat) (g : yH) (n : Nat) (t : Int) (E : Nat → Int) (a c : Int) : Option xV → yH → Nat → Prop := fun r h' n' => ∃ F, r = none ∧ MI b g h' ∧ h' (b + 18) = some (ai 24 F) ∧ (∀ j : Nat, j < 24 → F j = cxO t E a c j) ∧ n' = n
theorem s_findExitsE {b : Nat} {g : yH} {t : Int} {E K R T : Nat → Int} (hc : CB b g t E K R T) {p y : Int} (p1 : -32 ≤ p) (p2 : p < 32) (y1 : -64 ≤ y) (y2 : y < 64) {a c : Int} (ea : a = 2 * y + 2 * p + 1) (ec : c = 2 * y - 2 * p - 1) : ∀ (m : Nat) (q : Int) (F : Nat → Int) (r2 r3 : Int) (h : yH), (24 - q).toNat < m → 0 ≤ q → q ≤ 24 → MI b g h → h (b + 15) = some (ob 4 [vi a, vi c, vi r2, vi r3]) → h (b + 18) = some (ai 24 F) → (∀ j : Nat, (j : Int) < q → F j = cxO t E a c j) → YW l G mX6_findExits 2 0 0 (PEx b g n t E a c) 11 [some (vr b), some (vi p), some (vi y), some (vi q)] [] h n := by
  intro m
  induction m with
  | zero => intro q F r2 r3 h hm; exact absurd hm (Nat.not_lt_zero _)
  | succ m ih =>
    intro q F r2 r3 h hmm j0 j1 hI e15 e18 hF
    obtain ⟨⟨o1, o2, dr, ho12, hx, d1, d2⟩, hp20, hp270, hq, hsc⟩ := id hc
    have hFb : ∀ j, -100000 ≤ F j ∧ F j ≤ 100000 := by
      obtain ⟨F', e, hb⟩ := hI.i (k := 18) (N := 24) (lo := -100000) (hi := 100000) rfl
      rw [ai_inj e18 e]
      exact hb
    have hE := hsc.2.1
    refine y_run kX6_findExits rfl ?_
    refine y_ic_ge kX6_findExits rfl rfl (fun c1 => ?_) (fun c1 => ?_)
    · exact y_vr kX6_findExits rfl rfl ⟨F, rfl, hI, e18, fun j hj => hF j (by omega), rfl⟩
    · refine y_run kX6_findExits rfl ?_
      refine m_get kX6_findExits (0) hI hx ?_
      refine y_run kX6_findExits rfl ?_
      refine y_is kX6_findExits rfl e18 (by omega) (by omega) ?_
      refine YW.genP (P := fun x => MI b g x ∧ x (b + 15) = some (ob 4 [vi a, vi c, vi r2, vi r3]) ∧ x (b + 18) = some (ai 24 (upZ F q.toNat (-1)))) ⟨hI.up (k := 18) rfl ⟨_, rfl, upZ_all (P := fun x => -100000 ≤ x ∧ x ≤ 100000) hFb _ (by omega)⟩, (yup_ne _ _ (by omega)).trans e15, yup_eq _ _ _⟩ (fun h1 ⟨hI1, f15, f18⟩ => ?_)
      have sc1 := hI1.sc hsc.1
      refine y_run kX6_findExits rfl ?_
      refine m_get kX6_findExits (0) hI1 hx ?_
      refine y_run kX6_findExits rfl ?_
      refine y_cv kX6_findExits kX5_has 1 rfl sc1.1 (by decide +kernel) (c_Shas sc1 ⟨by omega, by omega⟩) rfl rfl ?_
      rintro _ h2 _ ⟨rfl, eh, rfl⟩
      subst eh
      have stay : cxO t E a c q = -1 → ∀ j : Nat, (j : Int) < q + 1 → upZ F q.toNat (-1) j = cxO t E a c j := fun e j hj => by
        unfold upZ
        by_cases k : j = q.toNat
        · rw [if_pos k, show ((j : Nat) : Int) = q by omega, e]
        · rw [if_neg k]; exact hF j (by omega)
      refine y_beq kX6_findExits rfl rfl (fun c2 => ?_) (fun c2 => ?_)
      · refine y_run kX6_findExits rfl ?_
        exact ih _ _ _ _ _ (by omega) (by omega) (by omega) hI1 f15 f18 (stay (by unfold cxO; rw [if_neg c2]))
      · refine y_run kX6_findExits rfl ?_
        refine m_get kX6_findExits (0) hI1 hx ?_
        refine y_run kX6_findExits rfl ?_
        refine m_get kX6_findExits (0) hI1 hx ?_
        refine m_get kX6_findExits (1) hI1 hsc.1.1 ?_
        refine y_run kX6_findExits rfl ?_
        have eb : ∀ j, sm (E j) := fun j => ⟨by have := hE j; omega, by have := hE j; omega⟩
        refine y_cv kX6_findExits kX4_hits 2 rfl f15 (by decide +kernel) (c_Rhits f15 sc1.2.1 (by omega) (by omega) (by omega) ⟨rfl, rfl, rfl, rfl, rfl, rfl⟩ ⟨⟨by omega, by omega⟩, ⟨by omega, by omega⟩⟩ ⟨eb _, eb _, eb _, eb _, eb _, eb _⟩) rfl rfl ?_
        rintro _ h3 _ ⟨rfl, eh, rfl⟩
        subst eh
        refine y_beq kX6_findExits rfl rfl (fun c3 => ?_) (fun c3 => ?_)
        · refine y_run kX6_findExits rfl ?_
          exact ih _ _ _ _ _ (by omega) (by omega) (by omega) hI1 f15 f18 (stay (by unfold cxO; rw [if_pos c2, if_neg c3]))
        · refine y_run kX6_findExits rfl ?_
          refine m_get kX6_findExits (0) hI1 hx ?_
          refine y_run kX6_findExits rfl ?_
          refine m_get kX6_findExits (0) hI1 hx ?_
          refine m_get kX6_findExits (1) hI1 hsc.1.1 ?_
          refine y_run kX6_findExits rfl ?_
          refine y_cv kX6_findExits kX4_leave 2 rfl f15 (by decide +kernel) (c_Rleave f15 sc1.2.1 (by omega) (by omega) (by omega) (by omega) ⟨rfl, rfl, rfl, rfl, rfl, rfl⟩ ⟨⟨by omega, by omega⟩, ⟨by omega, by omega⟩⟩ ⟨eb _, eb _, eb _⟩) rfl rfl ?_
          rintro _ h4 _ ⟨rfl, eh, rfl⟩
          subst eh
          have ex := rex_b (hE (q * 6 + 5).toNat) (hE (q * 6 + 1).toNat) (hE (q * 6 + 3).toNat) (a := a) (b := c) (by omega) (by omega)
          have fc := rfc_b (E (q * 6 + 1).toNat) (E (q * 6 + 3).toNat) (E (q * 6 + 5).toNat) a c
          obtain ⟨X, eX⟩ : ∃ X, X = rex (E (q * 6 + 1).toNat) (E (q * 6 + 3).toNat) (E (q * 6 + 5).toNat) a c := ⟨_, rfl⟩
          rw [← eX] at ex ⊢
          refine YW.genP (P := fun x => MI b g x ∧ x (b + 15) = some (ob 4 [vi a, vi c, vi X, vi (rfc (E (q * 6 + 1).toNat) (E (q * 6 + 3).toNat) (E (q * 6 + 5).toNat) a c)]) ∧ x (b + 18) = some (ai 24 (upZ F q.toNat (-1)))) ⟨hI1.up (k := 15) rfl ⟨_, _, _, _, rfl, by omega, by omega, by omega, fc⟩, yup_eq _ _ _, (yup_ne _ _ (by omega)).trans f18⟩ (fun h5 ⟨hI5, g15, g18⟩ => ?_)
          refine y_run kX6_findExits rfl ?_
          refine m_get kX6_findExits (0) hI5 hx ?_
          refine y_run kX6_findExits rfl ?_
          refine m_get kX6_findExits (0) hI5 hx ?_
          refine y_get kX6_findExits rfl rfl g15 rfl ?_
          refine y_is kX6_findExits rfl g18 (by omega) (by omega) ?_
          refine y_run kX6_findExits rfl ?_
          refine ih _ (upZ (upZ F q.toNat (-1)) q.toNat X) _ _ _ (by omega) (by omega) (by omega) (hI5.up (k := 18) rfl ⟨_, rfl, upZ_all (P := fun x => -100000 ≤ x ∧ x ≤ 100000) (upZ_all (P := fun x => -100000 ≤ x ∧ x ≤ 100000) hFb _ (by omega)) _ (by omega)⟩) ((yup_ne _ _ (by omega)).trans g15) (yup_eq _ _ _) (fun j hj => ?_)
          unfold upZ
          by_cases k : j = q.toNat
          · rw [if_pos k, show ((j : Nat) : Int) = q by omega]
            unfold cxO
            rw [if_pos c2, if_pos c3, eX]
          · rw [if_neg k, if_neg k]; exact hF j (by omega)
theorem e_findExits {b : Nat} {g : yH} {t : Int} {E K R T : Nat → Int} (hc : CB b g t E K R T) {p y : Int} (p1 : -32 ≤ p) (p2 : p < 32) (y1 : -64 ≤ y) (y2 : y < 64) (hI : MI b g h) : YM l G mX6_findExits 2 0 0 [vr b, vi p, vi y] h n (PEx b g n t E (2 * y + 2 * p + 1) (2 * y - 2 * p - 1)) := by
  refine YM.of kX6_findExits (Nat.le_of_ble_eq_true rfl) (L0 := [some (vr b), some (vi p), some (vi y), none]) rfl ?_
  obtain ⟨⟨o1, o2, dr, ho12, hx, d1, d2⟩, hp20, hp270, hq, hsc⟩ := id hc
  refine y_run kX6_findExits rfl ?_
  refine m_get kX6_findExits (0) hI hx ?_
  refine y_run kX6_findExits rfl ?_
  obtain ⟨r0, r1, r2, r3, e15, b0, b1, b2, b3⟩ := hI.r (k := 15) rfl
  obtain ⟨F, e18, hFb⟩ := hI.i (k := 18) (N := 24) (lo := -100000) (hi := 100000) rfl
  refine y_cv kX6_findExits kX4_aim 2 rfl e15 (by decide +kernel) (c_Raim e15) rfl rfl ?_
  rintro _ h1 _ ⟨rfl, eh, rfl⟩
  subst eh
  refine y_run kX6_findExits rfl ?_
  exact s_findExitsE hc p1 p2 y1 y2 rfl rfl _ 0 F r2 r3 _ (Nat.lt_succ_self _) (by omega) (by omega) (hI.up (k := 15) rfl ⟨_, _, _, _, rfl, by omega, by omega, b2, b3⟩) (yup_eq _ _ _) ((yup_ne _ _ (by omega)).trans e18) (fun j hj => absurd hj (by omega))
theorem s_nearerE {b : Nat} {g : yH} {t : Int} {E K R T F : Nat → Int} (hc : CB b g t E K R T) (hI : MI b g h) (e18 : h (b + 18) = some (ai 24 F)) {p : Int} (p1 : 0 ≤ p) (p2 : p < 24) : ∀ (m : Nat) (q : Int), (24 - q).toNat < m → 0 ≤ q → q ≤ 24 → YW l G mX6_howManyNearer 0 0 0 (fun r h' n' => r = some (vi (nrr F (F p.toNat) 24)) ∧ h' = h ∧ n' = n) 4 [some (vr b), some (vi p), some (vi (nrr F (F p.toNat) q.toNat)), some (vi q)] [] h n := by
  intro m
  induction m with
  | zero => intro q hm; exact absurd hm (Nat.not_lt_zero _)
  | succ m ih =>
    intro q hmm j0 j1
    obtain ⟨⟨o1, o2, dr, ho12, hx, d1, d2⟩, hp20, hp270, hq, hsc⟩ := id hc
    have hFb : ∀ j, -100000 ≤ F j ∧ F j ≤ 100000 := by
      obtain ⟨F', e, hb⟩ := hI.i (k := 18) (N := 24) (lo := -100000) (hi := 100000) rfl
      rw [ai_inj e18 e]
      exact hb
    refine y_run kX6_howManyNearer rfl ?_
    refine y_ic_ge kX6_howManyNearer rfl rfl (fun c1 => ?_) (fun c1 => ?_)
    · refine y_run kX6_howManyNearer rfl ?_
      rw [show q.toNat = 24 by omega]
      exact y_ir kX6_howManyNearer rfl rfl ⟨rfl, rfl, rfl⟩
    · have f1 := hFb q.toNat
      have f2 := hFb p.toNat
      have sx : nrr F (F p.toNat) (q + 1).toNat = nrr F (F p.toNat) q.toNat + (if F p.toNat < F q.toNat then 1 else 0) := by
        rw [show (q + 1).toNat = q.toNat + 1 by omega]
        rfl
      refine y_run kX6_howManyNearer rfl ?_
      refine m_get kX6_howManyNearer (0) hI hx ?_
      refine y_run kX6_howManyNearer rfl ?_
      refine y_ia kX6_howManyNearer rfl e18 (by omega) (by omega) ?_
      refine y_run kX6_howManyNearer rfl ?_
      refine m_get kX6_howManyNearer (0) hI hx ?_
      refine y_run kX6_howManyNearer rfl ?_
      refine y_ia kX6_howManyNearer rfl e18 (by omega) (by omega) ?_
      refine y_ic_le kX6_howManyNearer rfl rfl (fun c2 => ?_) (fun c2 => ?_)
      · refine y_run kX6_howManyNearer rfl ?_
        have k := ih (q + 1) (by omega) (by omega) (by omega)
        rw [sx, if_neg (by omega), Int.add_zero] at k
        exact k
      · refine y_run kX6_howManyNearer rfl ?_
        have k := ih (q + 1) (by omega) (by omega) (by omega)
        rw [sx, if_pos (by omega)] at k
        exact k
theorem e_nearer {b : Nat} {g : yH} {t : Int} {E K R T F : Nat → Int} (hc : CB b g t E K R T) (hI : MI b g h) (e18 : h (b + 18) = some (ai 24 F)) {p : Int} (p1 : 0 ≤ p) (p2 : p < 24) : YM l G mX6_howManyNearer 0 0 0 [vr b, vi p] h n (fun r h' n' => r = some (vi (nrr F (F p.toNat) 24)) ∧ h' = h ∧ n' = n) := by
  refine YM.of kX6_howManyNearer (Nat.le_of_ble_eq_true rfl) (L0 := [some (vr b), some (vi p), none, none]) rfl ?_
  refine y_run kX6_howManyNearer rfl ?_
  exact s_nearerE hc hI e18 p1 p2 _ 0 (Nat.lt_succ_self _) (by omega) (by omega)
def PUn (b : Nat) (g : yH) (n : Nat) (P : Int → Prop) : Option xV → yH → Nat → Prop := fun r h' n' => ∃ z, r = some (vi z) ∧ MI b g h' ∧ n' = n ∧ least24 P z
theorem s_underE {b : Nat} {g : yH} {t : Int} {E K R T F : Nat → Int} (hc : CB b g t E K R T) (hI : MI b g h) (e18 : h (b + 18) = some (ai 24 F)) {p q r : Int} (r1 : -2147483648 ≤ r) (r2 : r < 2147483648) : ∀ (m : Nat) (y : Int), (24 - y).toNat < m → 0 ≤ y → y ≤ 24 → (∀ u : Int, 0 ≤ u → u < y → ¬ (F u.toNat ≠ -1 ∧ nrr F (F u.toNat) 24 = r)) → YW l G mX6_under 3 0 0 (PUn b g n (fun u => F u.toNat ≠ -1 ∧ nrr F (F u.toNat) 24 = r)) 19 [some (vr b), some (vi p), some (vi q), some (vi r), some (vi y)] [] h n := by
  intro m
  induction m with
  | zero => intro y hm; exact absurd hm (Nat.not_lt_zero _)
  | succ m ih =>
    intro y hmm j0 j1 hn
    obtain ⟨⟨o1, o2, dr, ho12, hx, d1, d2⟩, hp20, hp270, hq, hsc⟩ := id hc
    have hFb : ∀ j, -100000 ≤ F j ∧ F j ≤ 100000 := by
      obtain ⟨F', e, hb⟩ := hI.i (k := 18) (N := 24) (lo := -100000) (hi := 100000) rfl
      rw [ai_inj e18 e]
      exact hb
    have f1 := hFb y.toNat
    have nb := nrr_b F (F y.toNat) 24
    have more : ¬ (F y.toNat ≠ -1 ∧ nrr F (F y.toNat) 24 = r) → ∀ u : Int, 0 ≤ u → u < y + 1 → ¬ (F u.toNat ≠ -1 ∧ nrr F (F u.toNat) 24 = r) := fun k u u0 u1 => by
      by_cases e : u = y
      · subst e; exact k
      · exact hn u u0 (by omega)
    refine y_run kX6_under rfl ?_
    refine y_ic_ge kX6_under rfl rfl (fun c1 => ?_) (fun c1 => ?_)
    · refine y_run kX6_under rfl ?_
      exact y_ir kX6_under rfl rfl ⟨_, rfl, hI, rfl, Or.inr ⟨rfl, fun u u0 u1 => hn u u0 (by omega)⟩⟩
    · refine y_run kX6_under rfl ?_
      refine m_get kX6_under (0) hI hx ?_
      refine y_run kX6_under rfl ?_
      refine y_ia kX6_under rfl e18 (by omega) (by omega) ?_
      refine y_run kX6_under rfl ?_
      refine y_ic_eq kX6_under rfl rfl (fun c2 => ?_) (fun c2 => ?_)
      · refine y_run kX6_under rfl ?_
        exact ih _ (by omega) (by omega) (by omega) (more (fun k => k.1 c2))
      · refine y_run kX6_under rfl ?_
        refine y_cv kX6_under kX6_howManyNearer 1 rfl (hI.x (k := 0) rfl hx) (by decide +kernel) (e_nearer hc hI e18 (by omega) (by omega)) rfl rfl ?_
        rintro _ h2 _ ⟨rfl, eh, rfl⟩
        subst eh
        refine y_run kX6_under rfl ?_
        refine y_ic_ne kX6_under rfl rfl (fun c3 => ?_) (fun c3 => ?_)
        · refine y_run kX6_under rfl ?_
          exact ih _ (by omega) (by omega) (by omega) (more (fun k => c3 k.2))
        · refine y_run kX6_under rfl ?_
          exact y_ir kX6_under rfl rfl ⟨_, rfl, hI, rfl, Or.inl ⟨j0, by omega, ⟨c2, c3⟩, hn⟩⟩
/-- the class's answer -/
def unC (t : Int) (E : Nat → Int) (i j k : Int) : Int → Prop := fun u => cxO t E (2 * j + 2 * i + 1) (2 * j - 2 * i - 1) u ≠ -1 ∧ nrr (fun o => cxO t E (2 * j + 2 * i + 1) (2 * j - 2 * i - 1) (o : Int)) (cxO t E (2 * j + 2 * i + 1) (2 * j - 2 * i - 1) u) 24 = k
theorem e_under {b : Nat} {g : yH} {t : Int} {E K R T : Nat → Int} (hc : CB b g t E K R T) {p q r : Int} (p1 : inI p) (q1 : inI q) (r1 : inI r) (hI : MI b g h) : YM l G mX6_under 3 0 0 [vr b, vi p, vi q, vi r] h n (fun r' h' n' => ∃ z, r' = some (vi z) ∧ MI b g h' ∧ n' = n ∧ ((¬ isPx p q ∧ z = -1) ∨ (isPx p q ∧ least24 (unC t E p q r) z))) := by
  refine YM.of kX6_under (Nat.le_of_ble_eq_true rfl) (L0 := [some (vr b), some (vi p), some (vi q), some (vi r), none]) rfl ?_
  obtain ⟨⟨o1, o2, dr, ho12, hx, d1, d2⟩, hp20, hp270, hq, hsc⟩ := id hc
  refine y_run kX6_under rfl ?_
  refine y_cs kX6_under kX6_isPixel 2 rfl (by decide +kernel) (c_isPixel p1 q1) rfl rfl ?_
  rintro _ h1 _ ⟨⟨rfl, hr⟩ | ⟨rfl, hr⟩, eh, rfl⟩
  · subst eh
    refine y_if_ne kX6_under rfl rfl (fun _ => ?_) (fun e => absurd e (by omega))
    obtain ⟨s1, s2, s3, s4⟩ := id hr
    refine y_run kX6_under rfl ?_
    refine y_cv kX6_under kX6_findExits 2 rfl (hI.x (k := 0) rfl hx) (by decide +kernel) (e_findExits hc s1 s2 s3 s4 hI) rfl rfl ?_
    rintro _ h2 _ ⟨F, rfl, hI2, e18, hF, rfl⟩
    refine y_run kX6_under rfl ?_
    refine YW.imp (s_underE hc hI2 e18 r1.1 r1.2 25 0 (by omega) (by omega) (by omega) (fun u u0 u1 => absurd u1 (by omega))) (fun r' h' n' w => ?_)
    obtain ⟨z, rfl, w1, w2, w3⟩ := w
    refine ⟨z, rfl, w1, w2, Or.inr ⟨hr, least24_imp (fun u u0 u1 => ?_) w3⟩⟩
    have e1 : F u.toNat = cxO t E (2 * q + 2 * p + 1) (2 * q - 2 * p - 1) u := by
      rw [hF u.toNat (by omega), show ((u.toNat : Nat) : Int) = u by omega]
    unfold unC
    rw [e1, nrr_cg (F := F) (F' := fun o => cxO t E (2 * q + 2 * p + 1) (2 * q - 2 * p - 1) (o : Int)) 24 (fun j hj => by rw [hF j hj])]
  · subst eh
    refine y_if_ne kX6_under rfl rfl (fun e => absurd rfl e) (fun _ => ?_)
    refine y_run kX6_under rfl ?_
    exact y_ir kX6_under rfl rfl ⟨_, rfl, hI, rfl, Or.inl ⟨hr, rfl⟩⟩
end C80b
