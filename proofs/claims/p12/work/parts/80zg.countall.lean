/-! counting the whole picture -/
section C80zg0
variable {l : Launch} {G : xG} {M : xM} {d kc ks : Nat} {Φ : Option xV → yH → Nat → Prop} {h : yH} {n : Nat} {pc : Nat} {L : List (Option xV)} {st : List xV} {b ce1 ce2 : Nat} {g : yH} {pw la : Int}
theorem m_pQX (hM : xOK M) {idx ad j ce1' ce2' : Nat} {v : xV} {pw' la' : Int} {g0 : yH} (hI : MI b g h) (hq : QF b g ce1 ce2 pw la) (hs : SQ b g0 g) (kk : ∀ g' h', SQ b g0 g' → QF b g' ce1' ce2' pw' la' → MI b g' h' → (∀ q, q ≠ b + 8 → h' q = h q) → YW l G M d kc ks Φ (pc + 3) L st h' n) (he : ∃ fs, qO b ce1 ce2 pw la = ob 2 fs ∧ ob 2 (fs.set j v) = qO b ce1' ce2' pw' la' ∧ j < fs.length) (h1 : ce1' = 9 ∨ ce1' = 10) (h2 : ce2' = 9 ∨ ce2' = 10) (hd : xat M pc = some (.putfield idx, 3) := by rfl) (hl : M.2.2.2.2.2.2.lookup idx = some (2, j) := by rfl) (hfin : xfin 2 j = false := by rfl) (hn : narrow (xty 2 j) (den v) = den v := by rfl) (hfit : fits (xty 2 j) (den v) = true := by rfl) (ha : ad = b + 8 := by rfl) : YW l G M d kc ks Φ pc L (v :: vr ad :: st) h n := by
  obtain ⟨fs, e1, e2, e3⟩ := he
  obtain ⟨_, _, hp⟩ := id hq
  rw [e1] at hp
  subst ha
  refine y_put hM hd hl (hI.x (k := 8) rfl hp) hfin hn hfit ?_ e3
  rw [e2]
  exact kk (yup g (b + 8) (qO b ce1' ce2' pw' la')) _ (fun q hq => (yup_ne _ _ hq).trans (hs q hq)) ⟨h1, h2, yup_eq _ _ _⟩ (hI.upx _ rfl) (fun q hq => yup_ne _ _ hq)
theorem c_hasBox {z : Int} : YM l G mX2_hasBox 0 0 0 [vi z] h n (fun r h' n' => ((r = some (vi 0) ∧ z % 65536 = 0) ∨ (r = some (vi 1) ∧ z % 65536 ≠ 0)) ∧ h' = h ∧ n' = n) := by
  refine YM.of kX2_hasBox (Nat.le_of_ble_eq_true rfl) (L0 := [some (vi z)]) rfl ?_
  refine y_run kX2_hasBox rfl ?_
  refine y_ldc (z := 65535) kX2_hasBox rfl (by decide +kernel) ?_
  refine y_run kX2_hasBox rfl ?_
  rw [yand_65535]
  refine y_if_eq kX2_hasBox rfl rfl (fun c1 => ?_) (fun c1 => ?_)
  · refine y_run kX2_hasBox rfl ?_
    exact y_zr kX2_hasBox rfl rfl (by omega) ⟨Or.inl ⟨rfl, c1⟩, rfl, rfl⟩
  · refine y_run kX2_hasBox rfl ?_
    exact y_zr kX2_hasBox rfl rfl (by omega) ⟨Or.inr ⟨rfl, c1⟩, rfl, rfl⟩
end C80zg0
def bxF (Fc : Nat → Int) (v : Nat) : Nat → Bool := fun k => decide (Fc k % 65536 ≠ 0) && decide (Fc k / 256 % 32 = (v : Int))
def dfF (Fc Fe : Nat → Int) : Nat → Bool := fun k => decide (Fc k % 65536 ≠ Fe k % 65536)
def viC (k : Nat) : Int := (k : Int) / 128 + -32
def vjC (k : Nat) : Int := (k : Int) % 128 + -64
theorem crd_n (S : Nat → Bool) {q : Nat} (h : S q = false) : crd S (q + 1) = crd S q := by
  show crd S q + (if S q then 1 else 0) = _
  rw [h]; rfl
theorem crd_y (S : Nat → Bool) {q : Nat} (h : S q = true) : crd S (q + 1) = crd S q + 1 := by
  show crd S q + (if S q then 1 else 0) = _
  rw [h]; rfl
section C80zg
variable {l : Launch} {G : xG} {h h0 : yH} {n : Nat} {b ce1 ce2 : Nat} {g g0 : yH} {pw la : Int} {Fc Fe : Nat → Int}
/-- while it counts -/
def CST (b : Nat) (g0 : yH) (ce1 ce2 : Nat) (h0 : yH) (Fc Fe : Nat → Int) (q : Nat) (g h : yH) (N D : Nat → Int) : Prop := ∃ pw la, SQ b g0 g ∧ QF b g ce1 ce2 pw la ∧ MI b g h ∧ h (b + 11) = some (ai 24 N) ∧ h (b + 12) = some (ai 5 D) ∧ (∀ q, q ≠ b + 8 → q ≠ b + 11 → q ≠ b + 12 → h q = h0 q) ∧ (∀ v : Nat, v < 24 → N v = (crd (bxF Fc v) q : Int)) ∧ D 0 = (crd (dfF Fc Fe) q : Int) ∧ EXT (dfF Fc Fe) viC q (D 1) (D 2) ∧ EXT (dfF Fc Fe) vjC q (D 3) (D 4)
theorem s_countAllE (hne : ce1 ≠ ce2) (hx11 : pcE (0, 24, -2147483648, 2147483647) = true → g0 (b + 11) = none) (hx12 : pcE (0, 5, -2147483648, 2147483647) = true → g0 (b + 12) = none) (eFc : h0 (b + ce1) = some (ai 8192 Fc)) (eFe : h0 (b + ce2) = some (ai 8192 Fe)) : ∀ (m : Nat) (q : Nat) (u2 : Option xV) (g h : yH) (N D : Nat → Int), 8192 - q < m → q ≤ 8192 → CST b g0 ce1 ce2 h0 Fc Fe q g h N D → YW l G mX2_countAll 2 0 0 (fun r h' n' => ∃ g' N D, r = none ∧ n' = n ∧ CST b g0 ce1 ce2 h0 Fc Fe 8192 g' h' N D) 36 [some (vr (b + 8)), some (vi (q : Int)), u2] [] h n := by
  intro m
  induction m with
  | zero => intro q u2 g h N D hm; exact absurd hm (Nat.not_lt_zero _)
  | succ m ih =>
    intro q u2 g h N D hmm j1 hst
    obtain ⟨pw, la, hs, hq, hI, e11, e12, fr, hN, hD0, hE1, hE2⟩ := id hst
    obtain ⟨h1, h2, hq0⟩ := id hq
    have hFc := (fr (b + ce1) (by omega) (by omega) (by omega)).trans eFc
    have cl := crd_le (dfF Fc Fe) q
    have db0 : 0 ≤ D 0 ∧ D 0 ≤ 10000 := by omega
    have db1 := hE1.b (A := -1000) (B := 1000) (fun k hk => by unfold viC; omega) (by omega) (by omega)
    have db2 := hE2.b (A := -1000) (B := 1000) (fun k hk => by unfold vjC; omega) (by omega) (by omega)
    refine y_run kX2_countAll rfl ?_
    refine m_get kX2_countAll (8) hI hq0 ?_
    refine y_al kX2_countAll rfl hFc ?_
    refine y_ic_ge kX2_countAll rfl rfl (fun c1 => ?_) (fun c1 => ?_)
    · have : q = 8192 := by omega
      subst this
      exact y_vr kX2_countAll rfl rfl ⟨g, N, D, rfl, rfl, hst⟩
    · have nx : ∀ (u2 : Option xV) (g h : yH) (N D : Nat → Int), CST b g0 ce1 ce2 h0 Fc Fe (q + 1) g h N D → YW l G mX2_countAll 2 0 0 (fun r h' n' => ∃ g' N D, r = none ∧ n' = n ∧ CST b g0 ce1 ce2 h0 Fc Fe 8192 g' h' N D) 36 [some (vr (b + 8)), some (vi ((q : Int) + 1)), u2] [] h n := fun u2 g h N D hst => by
        refine YW.Le (congrArg (fun z : Int => [some (vr (b + 8)), some (vi z), u2]) (show (q : Int) + 1 = ((q + 1 : Nat) : Int) by omega)) ?_
        exact ih (q + 1) u2 g h N D (by omega) (by omega) hst
      have hcb : ∀ j, Fc j / 256 % 32 < 24 := by
        obtain ⟨F9, e10, hF9⟩ := hI.c (tc h1)
        rw [ai_inj hFc e10]
        exact hF9
      refine y_run kX2_countAll rfl ?_
      refine m_get kX2_countAll (8) hI hq0 ?_
      refine y_run kX2_countAll rfl ?_
      refine y_ia kX2_countAll rfl hFc (by omega) (by omega) ?_
      rw [Int.toNat_natCast]
      refine y_run kX2_countAll rfl ?_
      refine m_get kX2_countAll (8) hI hq0 ?_
      refine y_run kX2_countAll rfl ?_
      refine y_cs kX2_countAll kX2_laidOf 1 rfl (by decide +kernel) (w_Plaid) rfl rfl ?_
      rintro _ h3 _ ⟨⟨v2, rfl⟩, eh, rfl⟩
      subst eh
      refine y_run kX2_countAll rfl ?_
      refine m_pQX kX2_countAll hI hq hs (fun g h hs hq hI fr8 => ?_) ⟨_, rfl, rfl, Nat.le_of_ble_eq_true rfl⟩ h1 h2
      replace e11 := (fr8 _ (by omega)).trans e11
      replace e12 := (fr8 _ (by omega)).trans e12
      replace fr : ∀ q, q ≠ b + 8 → q ≠ b + 11 → q ≠ b + 12 → h q = h0 q := fun q q1 q2 q3 => (fr8 q q1).trans (fr q q1 q2 q3)
      obtain ⟨h1, h2, hq0⟩ := id hq
      refine y_run kX2_countAll rfl ?_
      refine y_cs kX2_countAll kX2_hasBox 1 rfl (by decide +kernel) (c_hasBox) rfl rfl ?_
      rintro _ h3 _ ⟨hr, eh, rfl⟩
      subst eh
      rcases hr with ⟨rfl, cz⟩ | ⟨rfl, cz⟩
      · refine y_if_eq kX2_countAll rfl rfl (fun _ => ?_) (fun e => absurd rfl e)
        have hN : ∀ v : Nat, v < 24 → N v = (crd (bxF Fc v) (q + 1) : Int) := fun v hv => by
          rw [crd_n _ (show bxF Fc v q = false by unfold bxF; rw [decide_eq_false (fun z => z cz)]; rfl)]
          exact hN v hv
        refine y_run kX2_countAll rfl ?_
        refine m_get kX2_countAll (8) hI hq0 ?_
        refine y_run kX2_countAll rfl ?_
        refine y_ia kX2_countAll rfl ((fr _ (by omega) (by omega) (by omega)).trans eFe) (by omega) (by omega) ?_
        rw [Int.toNat_natCast]
        refine y_run kX2_countAll rfl ?_
        refine y_ldc (z := 65535) kX2_countAll rfl (by decide +kernel) ?_
        refine y_run kX2_countAll rfl ?_
        rw [yand_65535]
        refine y_if_eq kX2_countAll rfl rfl (fun c3 => ?_) (fun c3 => ?_)
        · have hd : dfF Fc Fe q = false := decide_eq_false (fun z => z ((xor_look _ _).mp c3))
          refine y_run kX2_countAll rfl ?_
          exact nx _ _ h3 N D ⟨_, _, hs, hq, hI, e11, e12, fr, hN, by rw [hD0, crd_n _ hd], hE1.no hd, hE2.no hd⟩
        · have hd : dfF Fc Fe q = true := decide_eq_true (fun z => c3 ((xor_look _ _).mpr z))
          refine y_run kX2_countAll rfl ?_
          refine y_idiv kX2_countAll rfl (by omega) (by omega) (by omega) (by omega) ?_
          refine y_run kX2_countAll rfl ?_
          refine y_irem kX2_countAll rfl (by omega) (by omega) (by omega) (by omega) ?_
          refine y_run kX2_countAll rfl ?_
          refine y_cv kX2_countAll kX2_addDifference 2 rfl (hI.x (k := 8) rfl hq0) (by decide +kernel) (e_addDifference hq (by omega) (by omega) (by omega) (by omega) db0 db1.1 db1.2 db2.1 db2.2 e12 hI) rfl rfl ?_
          rintro _ h9 _ ⟨rfl, rfl, X, eh9, x0, x1, x2, x3, x4, x5⟩
          have f12 : h9 (b + 12) = some (ai 5 X) := by rw [eh9, yup_eq]
          have fr9 : ∀ q, q ≠ b + 12 → h9 q = h3 q := fun q hq => by rw [eh9, yup_ne _ _ hq]
          have hz : (D 0 = 0) = (crd (dfF Fc Fe) q = 0) := propext ⟨fun z => by omega, fun z => by omega⟩
          have v1 : (q : Int) / 128 + -32 = viC q := rfl
          have v2 : (q : Int) % 128 + -64 = vjC q := rfl
          rw [v1] at x1 x2
          rw [v2] at x3 x4
          have y1 := hE1.yes hd
          have y2 := hE2.yes hd
          have hI9 : MI b g h9 := by
            obtain ⟨F5, e5, b5⟩ := hI.i (k := 12) (N := 5) (lo := -2147483648) (hi := 2147483647) rfl
            rw [← ai_inj e12 e5] at b5
            refine hI.frk (k := 12) rfl (fun z => (hs _ (by omega)).trans (hx12 z)) ⟨X, f12, fun k => ?_⟩ fr9
            by_cases k5 : 5 ≤ k
            · rw [x5 k k5]; exact b5 k
            · have w1 : -32 ≤ viC q ∧ viC q ≤ 1000 := by unfold viC; omega
              have w2 : -64 ≤ vjC q ∧ vjC q ≤ 1000 := by unfold vjC; omega
              rcases (show k = 0 ∨ k = 1 ∨ k = 2 ∨ k = 3 ∨ k = 4 by omega) with rfl | rfl | rfl | rfl | rfl
              · rw [x0]; omega
              · rw [x1]; split <;> omega
              · rw [x2]; split <;> omega
              · rw [x3]; split <;> omega
              · rw [x4]; split <;> omega
          refine y_run kX2_countAll rfl ?_
          refine nx _ _ h9 N X ⟨_, _, hs, hq, hI9, (fr9 _ (by omega)).trans e11, f12, fun q q1 q2 q3 => (fr9 q q3).trans (fr q q1 q2 q3), hN, by rw [x0, hD0, crd_y _ hd]; omega, ?_, ?_⟩
          · rw [x1, x2]
            simp only [hz]
            exact y1
          · rw [x3, x4]
            simp only [hz]
            exact y2
      · refine y_if_eq kX2_countAll rfl rfl (fun e => absurd e (by omega)) (fun _ => ?_)
        refine y_run kX2_countAll rfl ?_
        refine m_get kX2_countAll (8) hI hq0 ?_
        refine y_run kX2_countAll rfl ?_
        refine y_cs kX2_countAll kX2_boxOf 1 rfl (by decide +kernel) (c_boxOf) rfl rfl ?_
        rintro _ h4 _ ⟨rfl, eh, rfl⟩
        subst eh
        have bx := hcb q
        have bx0 : 0 ≤ Fc q / 256 % 32 := by omega
        obtain ⟨w, hw⟩ : ∃ w : Nat, (w : Int) = Fc q / 256 % 32 := ⟨(Fc q / 256 % 32).toNat, by omega⟩
        rw [← hw] at bx ⊢
        refine y_run kX2_countAll rfl ?_
        refine y_ia kX2_countAll rfl e11 (by omega) (by omega) ?_
        rw [Int.toNat_natCast]
        refine y_run kX2_countAll rfl ?_
        refine y_is kX2_countAll rfl e11 (by omega) (by omega) ?_
        rw [Int.toNat_natCast]
        have cN := crd_le (bxF Fc w) q
        have nW := hN w (by omega)
        have hIN : MI b g (yup h4 (b + 11) (ai 24 (upZ N w (N w + 1)))) := by
          obtain ⟨F5, e5, b5⟩ := hI.i (k := 11) (N := 24) (lo := -2147483648) (hi := 2147483647) rfl
          rw [← ai_inj e11 e5] at b5
          exact hI.up (k := 11) rfl ⟨_, rfl, upZ_all (P := fun x => -2147483648 ≤ x ∧ x ≤ 2147483647) b5 _ (by omega)⟩ (fun z => (hs _ (by omega)).trans (hx11 z))
        replace hN : ∀ v : Nat, v < 24 → upZ N w (N w + 1) v = (crd (bxF Fc v) (q + 1) : Int) := fun v hv => by
          by_cases e : v = w
          · subst e
            rw [upZ_eq, crd_y _ (show bxF Fc v q = true by unfold bxF; rw [decide_eq_true cz, decide_eq_true hw.symm]; rfl), nW]
            omega
          · rw [upZ_ne _ _ e, crd_n _ (show bxF Fc v q = false by unfold bxF; rw [show decide (Fc q / 256 % 32 = (v : Int)) = false from decide_eq_false (by omega), Bool.and_false])]
            exact hN v hv
        refine YW.genP (P := fun y => MI b g y ∧ y (b + 11) = some (ai 24 (upZ N w (N w + 1))) ∧ y (b + 12) = some (ai 5 D) ∧ ∀ q, q ≠ b + 8 → q ≠ b + 11 → q ≠ b + 12 → y q = h0 q) ⟨hIN, yup_eq _ _ _, (yup_ne _ _ (by omega)).trans e12, fun q q1 q2 q3 => (yup_ne _ _ q2).trans (fr q q1 q2 q3)⟩ (fun h5 ⟨hI, e11, e12, fr⟩ => ?_)
        generalize upZ N w (N w + 1) = N at e11 hN
        refine y_run kX2_countAll rfl ?_
        refine m_get kX2_countAll (8) hI hq0 ?_
        refine y_run kX2_countAll rfl ?_
        refine m_pQX kX2_countAll hI hq hs (fun g h hs hq hI fr8 => ?_) ⟨_, rfl, rfl, Nat.le_of_ble_eq_true rfl⟩ h1 h2
        replace e11 := (fr8 _ (by omega)).trans e11
        replace e12 := (fr8 _ (by omega)).trans e12
        replace fr : ∀ q, q ≠ b + 8 → q ≠ b + 11 → q ≠ b + 12 → h q = h0 q := fun q q1 q2 q3 => (fr8 q q1).trans (fr q q1 q2 q3)
        obtain ⟨h1, h2, hq0⟩ := id hq
        refine y_run kX2_countAll rfl ?_
        refine m_get kX2_countAll (8) hI hq0 ?_
        refine y_run kX2_countAll rfl ?_
        refine y_ia kX2_countAll rfl ((fr _ (by omega) (by omega) (by omega)).trans eFe) (by omega) (by omega) ?_
        rw [Int.toNat_natCast]
        refine y_run kX2_countAll rfl ?_
        refine y_ldc (z := 65535) kX2_countAll rfl (by decide +kernel) ?_
        refine y_run kX2_countAll rfl ?_
        rw [yand_65535]
        refine y_if_eq kX2_countAll rfl rfl (fun c3 => ?_) (fun c3 => ?_)
        · have hd : dfF Fc Fe q = false := decide_eq_false (fun z => z ((xor_look _ _).mp c3))
          refine y_run kX2_countAll rfl ?_
          exact nx _ _ h N D ⟨_, _, hs, hq, hI, e11, e12, fr, hN, by rw [hD0, crd_n _ hd], hE1.no hd, hE2.no hd⟩
        · have hd : dfF Fc Fe q = true := decide_eq_true (fun z => c3 ((xor_look _ _).mpr z))
          refine y_run kX2_countAll rfl ?_
          refine y_idiv kX2_countAll rfl (by omega) (by omega) (by omega) (by omega) ?_
          refine y_run kX2_countAll rfl ?_
          refine y_irem kX2_countAll rfl (by omega) (by omega) (by omega) (by omega) ?_
          refine y_run kX2_countAll rfl ?_
          refine y_cv kX2_countAll kX2_addDifference 2 rfl (hI.x (k := 8) rfl hq0) (by decide +kernel) (e_addDifference hq (by omega) (by omega) (by omega) (by omega) db0 db1.1 db1.2 db2.1 db2.2 e12 hI) rfl rfl ?_
          rintro _ h9 _ ⟨rfl, rfl, X, eh9, x0, x1, x2, x3, x4, x5⟩
          have f12 : h9 (b + 12) = some (ai 5 X) := by rw [eh9, yup_eq]
          have fr9 : ∀ q, q ≠ b + 12 → h9 q = h q := fun q hq => by rw [eh9, yup_ne _ _ hq]
          have hz : (D 0 = 0) = (crd (dfF Fc Fe) q = 0) := propext ⟨fun z => by omega, fun z => by omega⟩
          have v1 : (q : Int) / 128 + -32 = viC q := rfl
          have v2 : (q : Int) % 128 + -64 = vjC q := rfl
          rw [v1] at x1 x2
          rw [v2] at x3 x4
          have y1 := hE1.yes hd
          have y2 := hE2.yes hd
          have hI9 : MI b g h9 := by
            obtain ⟨F5, e5, b5⟩ := hI.i (k := 12) (N := 5) (lo := -2147483648) (hi := 2147483647) rfl
            rw [← ai_inj e12 e5] at b5
            refine hI.frk (k := 12) rfl (fun z => (hs _ (by omega)).trans (hx12 z)) ⟨X, f12, fun k => ?_⟩ fr9
            by_cases k5 : 5 ≤ k
            · rw [x5 k k5]; exact b5 k
            · have w1 : -32 ≤ viC q ∧ viC q ≤ 1000 := by unfold viC; omega
              have w2 : -64 ≤ vjC q ∧ vjC q ≤ 1000 := by unfold vjC; omega
              rcases (show k = 0 ∨ k = 1 ∨ k = 2 ∨ k = 3 ∨ k = 4 by omega) with rfl | rfl | rfl | rfl | rfl
              · rw [x0]; omega
              · rw [x1]; split <;> omega
              · rw [x2]; split <;> omega
              · rw [x3]; split <;> omega
              · rw [x4]; split <;> omega
          refine y_run kX2_countAll rfl ?_
          refine nx _ _ h9 N X ⟨_, _, hs, hq, hI9, (fr9 _ (by omega)).trans e11, f12, fun q q1 q2 q3 => (fr9 q q3).trans (fr q q1 q2 q3), hN, by rw [x0, hD0, crd_y _ hd]; omega, ?_, ?_⟩
          · rw [x1, x2]
            simp only [hz]
            exact y1
          · rw [x3, x4]
            simp only [hz]
            exact y2
theorem e_countAll (hq : QF b g ce1 ce2 pw la) (hne : ce1 ≠ ce2) (hx11 : pcE (0, 24, -2147483648, 2147483647) = true → g (b + 11) = none) (hx12 : pcE (0, 5, -2147483648, 2147483647) = true → g (b + 12) = none) (eFc : h (b + ce1) = some (ai 8192 Fc)) (eFe : h (b + ce2) = some (ai 8192 Fe)) (hI : MI b g h) : YM l G mX2_countAll 2 0 0 [vr (b + 8)] h n (fun r h' n' => ∃ g' N D, r = none ∧ n' = n ∧ CST b g ce1 ce2 h Fc Fe 8192 g' h' N D) := by
  refine YM.of kX2_countAll (Nat.le_of_ble_eq_true rfl) (L0 := [some (vr (b + 8)), none, none]) rfl ?_
  have hs := SQ.r b g
  obtain ⟨h1, h2, hq0⟩ := id hq
  obtain ⟨N0, e11, b11⟩ := hI.i (k := 11) (N := 24) (lo := -2147483648) (hi := 2147483647) rfl
  obtain ⟨D0, e12, b12⟩ := hI.i (k := 12) (N := 5) (lo := -2147483648) (hi := 2147483647) rfl
  refine y_run kX2_countAll rfl ?_
  refine m_get kX2_countAll (8) hI hq0 ?_
  refine y_run kX2_countAll rfl ?_
  refine y_cs kX2_countAll kJ7_fill_53178 2 rfl (by decide +kernel) (c_fill e11 (by omega)) rfl rfl ?_
  rintro _ h3 _ ⟨rfl, eh3, rfl⟩
  have f11 : h3 (b + 11) = some (ai 24 (flF N0 0 24)) := by rw [eh3, yup_eq]
  have fr3 : ∀ q, q ≠ b + 11 → h3 q = h q := fun q hq => by rw [eh3, yup_ne _ _ hq]
  have hI3 : MI b g h3 := hI.frk (k := 11) rfl hx11 ⟨_, f11, fun j => by unfold flF; split; (omega); exact b11 j⟩ fr3
  refine y_run kX2_countAll rfl ?_
  refine m_get kX2_countAll (8) hI3 hq0 ?_
  refine y_run kX2_countAll rfl ?_
  refine y_cs kX2_countAll kJ7_fill_53178 2 rfl (by decide +kernel) (c_fill ((fr3 _ (by omega)).trans e12) (by omega)) rfl rfl ?_
  rintro _ h4 _ ⟨rfl, eh4, rfl⟩
  have f12 : h4 (b + 12) = some (ai 5 (flF D0 100 5)) := by rw [eh4, yup_eq]
  have fr4 : ∀ q, q ≠ b + 12 → h4 q = h3 q := fun q hq => by rw [eh4, yup_ne _ _ hq]
  have b12' : ∀ j, -2147483648 ≤ flF D0 100 5 j ∧ flF D0 100 5 j ≤ 2147483647 := fun j => by unfold flF; split; (omega); exact b12 j
  have hI4 : MI b g h4 := hI3.frk (k := 12) rfl hx12 ⟨_, f12, b12'⟩ fr4
  refine y_run kX2_countAll rfl ?_
  refine m_get kX2_countAll (8) hI4 hq0 ?_
  refine y_run kX2_countAll rfl ?_
  refine y_is kX2_countAll rfl f12 (by omega) (by omega) ?_
  refine YW.genP (P := fun y => MI b g y ∧ y (b + 11) = some (ai 24 (flF N0 0 24)) ∧ y (b + 12) = some (ai 5 (upZ (flF D0 100 5) 0 0)) ∧ ∀ q, q ≠ b + 11 → q ≠ b + 12 → y q = h q) ⟨hI4.up (k := 12) rfl ⟨_, rfl, upZ_all (P := fun x => -2147483648 ≤ x ∧ x ≤ 2147483647) b12' _ (by omega)⟩ hx12, (yup_ne _ _ (by omega)).trans ((fr4 _ (by omega)).trans f11), yup_eq _ _ _, fun q q1 q2 => (yup_ne _ _ q2).trans ((fr4 q q2).trans (fr3 q q1))⟩ (fun h5 ⟨hI, e11, e12, fr⟩ => ?_)
  refine y_run kX2_countAll rfl ?_
  refine m_pQX kX2_countAll hI hq hs (fun g h hs hq hI fr8 => ?_) ⟨_, rfl, rfl, Nat.le_of_ble_eq_true rfl⟩ h1 h2
  replace e11 := (fr8 _ (by omega)).trans e11
  replace e12 := (fr8 _ (by omega)).trans e12
  replace fr : ∀ q, q ≠ b + 8 → q ≠ b + 11 → q ≠ b + 12 → h q = _ := fun q q1 q2 q3 => (fr8 q q1).trans (fr q q2 q3)
  refine y_run kX2_countAll rfl ?_
  refine m_pQX kX2_countAll hI hq hs (fun g h hs hq hI fr8 => ?_) ⟨_, rfl, rfl, Nat.le_of_ble_eq_true rfl⟩ h1 h2
  replace e11 := (fr8 _ (by omega)).trans e11
  replace e12 := (fr8 _ (by omega)).trans e12
  replace fr : ∀ q, q ≠ b + 8 → q ≠ b + 11 → q ≠ b + 12 → h q = _ := fun q q1 q2 q3 => (fr8 q q1).trans (fr q q1 q2 q3)
  refine y_run kX2_countAll rfl ?_
  refine YW.Le (congrArg (fun z : Int => [some (vr (b + 8)), some (vi z), none]) (show (0 : Int) = ((0 : Nat) : Int) by omega)) ?_
  refine s_countAllE hne hx11 hx12 eFc eFe 8193 0 _ g h _ _ (by omega) (by omega) ⟨_, _, hs, hq, hI, e11, e12, fr, fun v hv => ?_, rfl, Or.inl ⟨fun k hk => absurd hk (Nat.not_lt_zero _), rfl, rfl⟩, Or.inl ⟨fun k hk => absurd hk (Nat.not_lt_zero _), rfl, rfl⟩⟩
  unfold flF
  rw [if_pos hv]
  rfl
end C80zg
