/-! the class: show, exactly -/
/-- the last of the first k that hold, or 0 -/
def LST (C : Nat → Prop) (V : Nat → Int) (k : Nat) (x : Int) : Prop := ((∀ j, j < k → ¬ C j) ∧ x = 0) ∨ ∃ j, j < k ∧ C j ∧ (∀ j', j < j' → j' < k → ¬ C j') ∧ x = V j
theorem LST.no {C : Nat → Prop} {V : Nat → Int} {k : Nat} {x : Int} (h : LST C V k x) (hc : ¬ C k) : LST C V (k + 1) x := by
  have w : ∀ j, j < k + 1 → C j → j < k := fun j hj hcj => by
    rcases Nat.lt_or_ge j k with c | c
    · exact c
    · have : j = k := by omega
      rw [this] at hcj; exact absurd hcj hc
  rcases h with ⟨h1, h2⟩ | ⟨j, h1, h2, h3, h4⟩
  · exact Or.inl ⟨fun j hj hcj => h1 j (w j hj hcj) hcj, h2⟩
  · exact Or.inr ⟨j, by omega, h2, fun j' a1 a2 a3 => h3 j' a1 (w j' a2 a3) a3, h4⟩
theorem LST.yes {C : Nat → Prop} {V : Nat → Int} {k : Nat} (hc : C k) : LST C V (k + 1) (V k) := Or.inr ⟨k, by omega, hc, fun j' a1 a2 => absurd a2 (by omega), rfl⟩
/-- the looks of the first k pieces in their order -/
def LKs (P W D E K R F : Nat → Int) (k : Nat) : Prop := ∀ z, 0 ≤ z → z < 8192 → LST (fun j => cand P W E K R (D j).toNat z) (fun j => lkU P W K R (D j).toNat z) k (F (cZ z) % 65536)
theorem LKs.lay {P W D E K R F F' : Nat → Int} {k : Nat} (h : LKs P W D E K R F k) (hl : LYI P W E K R (D k).toNat F F' (fun _ => True)) : LKs P W D E K R F' (k + 1) := fun z z0 z1 => by
  obtain ⟨l1, l2⟩ := hl z z0 z1
  by_cases c : cand P W E K R (D k).toNat z
  · rw [l1 ⟨c, trivial⟩]
    exact LST.yes (C := fun j => cand P W E K R (D j).toNat z) (V := fun j => lkU P W K R (D j).toNat z) c
  · rw [l2 (fun q => c q.1)]
    exact (h z z0 z1).no c
section C80zh
variable {l : Launch} {G : xG} {h h0 : yH} {n : Nat} {b o ce1 ce2 : Nat} {g : yH} {t pw la cc xx : Int} {E K R T P W D F : Nat → Int} {a : Nat}
/-- what the pieces hold that are laid -/
def PCs (P W D : Nat → Int) (a : Nat) : Prop := (∀ j, 0 ≤ P j ∧ P j ≤ 32) ∧ ∀ k, k < a → (0 ≤ D k ∧ D k < 120) ∧ sd P (((D k).toNat : Nat) : Int) ∧ 0 ≤ W (D k).toNat ∧ W (D k).toNat < 24
def SSh (b : Nat) (g : yH) (ce1 : Nat) (h0 h : yH) (F : Nat → Int) : Prop := MI b g h ∧ h (b + ce1) = some (ai 8192 F) ∧ ∀ q, q ≠ b + ce1 → q ≠ b + 13 → q ≠ b + 14 → h q = h0 q
theorem s_showE (hq : QF b g ce1 ce2 pw la) (hsc : SF b g t E K R T) (ho : o = 20 ∨ o = 270) (hp : g (b + o) = some (pO b o (a : Int) cc xx)) (hx : pcE (2, 8192, 0, 0) = true → g (b + ce1) = none) (a2 : a ≤ 96) (hpc : PCs P W D a) (eP0 : h0 (b + (o + 1)) = some (ai 720 P)) (eW0 : h0 (b + (o + 2)) = some (ai 120 W)) (eD0 : h0 (b + (o + 3)) = some (ai 96 D)) {Φ : Option xV → yH → Nat → Prop} {ad : Nat} (kk : ∀ (u4 : Option xV) (h : yH) (F : Nat → Int), SSh b g ce1 h0 h F → LKs P W D E K R F a → YW l G mX2_show 4 0 0 (Φ) 57 [some (vr (b + 8)), some (vr (b + 1)), some (vr (b + o)), some (vr ad), u4] [] h n) : ∀ (m : Nat) (k : Nat) (h : yH) (F : Nat → Int), a - k < m → k ≤ a → SSh b g ce1 h0 h F → LKs P W D E K R F k → YW l G mX2_show 4 0 0 (Φ) 29 [some (vr (b + 8)), some (vr (b + 1)), some (vr (b + o)), some (vr ad), some (vi (k : Int))] [] h n := by
  intro m
  induction m with
  | zero => intro k h F hm; exact absurd hm (Nat.not_lt_zero _)
  | succ m ih =>
    intro k h F hmm j1 hss hlk
    obtain ⟨hI, eF, fr⟩ := id hss
    obtain ⟨h1, h2, hq0⟩ := id hq
    have eP : h (b + (o + 1)) = some (ai 720 P) := (fr _ (by omega) (by omega) (by omega)).trans eP0
    have eW : h (b + (o + 2)) = some (ai 120 W) := (fr _ (by omega) (by omega) (by omega)).trans eW0
    have eD : h (b + (o + 3)) = some (ai 96 D) := (fr _ (by omega) (by omega) (by omega)).trans eD0
    refine y_run kX2_show rfl ?_
    refine m_get kX2_show (o) hI hp ?_ (t0 ho)
    refine y_ic_ge kX2_show rfl rfl (fun c1 => ?_) (fun c1 => ?_)
    · have : k = a := by omega
      subst this
      exact kk _ _ F hss hlk
    · obtain ⟨d1, d2, d3, d4⟩ := hpc.2 k (by omega)
      refine y_run kX2_show rfl ?_
      refine m_get kX2_show (o) hI hp ?_ (t0 ho)
      refine y_run kX2_show rfl ?_
      refine y_ia kX2_show rfl eD (by omega) (by omega) ?_
      rw [Int.toNat_natCast]
      obtain ⟨u, hu⟩ : ∃ u : Nat, (u : Int) = D k := ⟨(D k).toNat, by omega⟩
      have hu2 : (D k).toNat = u := by omega
      rw [hu2] at d2 d3 d4
      rw [← hu]
      refine y_cv kX2_show kX2_lay 3 rfl (hI.x (k := 8) rfl hq0) (by decide +kernel) (e_lay hq hsc ho hp hx (u := u) (by omega) hpc.1 d2 d3 d4 eP eW eF hI) rfl rfl ?_
      rintro _ h3 _ ⟨F', rfl, rfl, hI3, eF3, fr3, hly⟩
      refine y_run kX2_show rfl ?_
      refine YW.Le (congrArg (fun z : Int => [some (vr (b + 8)), some (vr (b + 1)), some (vr (b + o)), some (vr ad), some (vi z)]) (show (k : Int) + 1 = ((k + 1 : Nat) : Int) by omega)) ?_
      exact ih (k + 1) h3 F' (by omega) (by omega) ⟨hI3, eF3, fun q q1 q2 q3 => (fr3 q q1 q2 q3).trans (fr q q1 q2 q3)⟩ (hlk.lay (by rw [hu2]; exact hly))
theorem e_show (hq : QF b g ce1 ce2 pw la) (hne : ce1 ≠ ce2) (hsc : SF b g t E K R T) (ho : o = 20 ∨ o = 270) (hp : g (b + o) = some (pO b o (a : Int) cc xx)) (hx : pcE (2, 8192, 0, 0) = true → g (b + ce2) = none) (hx11 : pcE (0, 24, -2147483648, 2147483647) = true → g (b + 11) = none) (hx12 : pcE (0, 5, -2147483648, 2147483647) = true → g (b + 12) = none) (a2 : a ≤ 96) (hpc : PCs P W D a) (eP : h (b + (o + 1)) = some (ai 720 P)) (eW : h (b + (o + 2)) = some (ai 120 W)) (eD : h (b + (o + 3)) = some (ai 96 D)) (eF : h (b + ce1) = some (ai 8192 F)) (hI : MI b g h) : YM l G mX2_show 4 0 0 [vr (b + 8), vr (b + 1), vr (b + o)] h n (fun r h' n' => ∃ g' h4 Fc N Dd, r = none ∧ n' = n ∧ SQ b g g' ∧ CST b g' ce2 ce1 h4 Fc F 8192 g' h' N Dd ∧ h' (b + ce2) = some (ai 8192 Fc) ∧ LKs P W D E K R Fc a ∧ ∀ q, q ≠ b + 8 → q ≠ b + 11 → q ≠ b + 12 → q ≠ b + 13 → q ≠ b + 14 → q ≠ b + ce2 → h' q = h q) := by
  refine YM.of kX2_show (Nat.le_of_ble_eq_true rfl) (L0 := [some (vr (b + 8)), some (vr (b + 1)), some (vr (b + o)), none, none]) rfl ?_
  have hs := SQ.r b g
  obtain ⟨h1, h2, hq0⟩ := id hq
  have hc1 := h1
  have hc2 := h2
  refine y_run kX2_show rfl ?_
  refine m_get kX2_show (8) hI hq0 ?_
  refine y_run kX2_show rfl ?_
  refine m_get kX2_show (8) hI hq0 ?_
  refine m_pQX kX2_show hI hq hs (fun g3 h3 hs3 hq3 hI3 fr3 => ?_) ⟨_, rfl, rfl, Nat.le_of_ble_eq_true rfl⟩ h2 h2
  refine y_run kX2_show rfl ?_
  refine m_pQX kX2_show hI3 hq3 hs3 (fun g4 h4 hs4 hq4 hI4 fr4 => ?_) ⟨_, rfl, rfl, Nat.le_of_ble_eq_true rfl⟩ h2 hc1
  obtain ⟨-, -, hq40⟩ := id hq4
  refine y_run kX2_show rfl ?_
  refine m_get kX2_show (8) hI4 hq40 ?_
  refine y_run kX2_show rfl ?_
  obtain ⟨F2, e2, b2⟩ := hI4.c (tc hc2)
  refine y_cs kX2_show kJ7_fill_53178 2 rfl (by decide +kernel) (c_fill e2 (by omega)) rfl rfl ?_
  rintro _ h5 _ ⟨rfl, eh5, rfl⟩
  have f5 : h5 (b + ce2) = some (ai 8192 (flF F2 0 8192)) := by rw [eh5, yup_eq]
  have fr5 : ∀ q, q ≠ b + ce2 → h5 q = h4 q := fun q hq => by rw [eh5, yup_ne _ _ hq]
  have hx4 : pcE (2, 8192, 0, 0) = true → g4 (b + ce2) = none := fun z => (hs4 _ (by omega)).trans (hx z)
  have hI5 : MI b g4 h5 := hI4.frk (tc hc2) hx4 ⟨_, f5, fun j => by unfold flF; split; (omega); exact b2 j⟩ fr5
  have fr0 : ∀ q, q ≠ b + 8 → q ≠ b + ce2 → h5 q = h q := fun q q1 q2 => (fr5 q q2).trans ((fr4 q q1).trans (fr3 q q1))
  refine y_run kX2_show rfl ?_
  refine YW.Le (congrArg (fun z : Int => [some (vr (b + 8)), some (vr (b + 1)), some (vr (b + o)), some (vr (b + ce1)), some (vi z)]) (show (0 : Int) = ((0 : Nat) : Int) by omega)) ?_
  refine s_showE (h0 := h5) (D := D) hq4 (hsc.on (fun q q1 q2 => hs4 q (by omega))) ho ((hs4 _ (by omega)).trans hp) hx4 a2 hpc ((fr0 _ (by omega) (by omega)).trans eP) ((fr0 _ (by omega) (by omega)).trans eW) ((fr0 _ (by omega) (by omega)).trans eD) (fun u4 h6 Fc hss hlk => ?_) (a + 1) 0 h5 _ (by omega) (by omega) ⟨hI5, f5, fun _ _ _ _ => rfl⟩ (fun z z0 z1 => Or.inl ⟨fun j hj => absurd hj (Nat.not_lt_zero _), ?_⟩)
  · obtain ⟨hI6, e6, fr6⟩ := id hss
    refine y_run kX2_show rfl ?_
    have eO : h6 (b + ce1) = some (ai 8192 F) := (fr6 _ (by omega) (by omega) (by omega)).trans ((fr0 _ (by omega) (by omega)).trans eF)
    refine y_cv kX2_show kX2_countAll 0 rfl (hI6.x (k := 8) rfl hq40) (by decide +kernel) (e_countAll hq4 (fun z => hne z.symm) (fun z => (hs4 _ (by omega)).trans (hx11 z)) (fun z => (hs4 _ (by omega)).trans (hx12 z)) e6 eO hI6) rfl rfl ?_
    rintro _ h7 _ ⟨g7, N, Dd, rfl, rfl, hcs⟩
    obtain ⟨pw', la', k1, k2, k3, k4, k5, k6, k7⟩ := id hcs
    exact y_vr kX2_show rfl rfl ⟨g7, h6, Fc, N, Dd, rfl, rfl, hs4.t k1, ⟨pw', la', SQ.r b g7, k2, k3, k4, k5, k6, k7⟩, (k6 _ (by omega) (by omega) (by omega)).trans e6, hlk, fun q q1 q2 q3 q4 q5 q6 => (k6 q q1 q2 q3).trans ((fr6 q q6 q4 q5).trans (fr0 q q1 q6))⟩
  · unfold flF
    rw [if_pos (cZ_lt z0 z1)]
    rfl
end C80zh
