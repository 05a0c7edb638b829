/-! the class: draw, exactly; its picture -/
section C80z0
variable {l : Launch} {G : xG} {M : xM} {d kc ks : Nat} {Φ : Option xV → yH → Nat → Prop} {h : yH} {n : Nat} {pc : Nat} {L : List (Option xV)} {st : List xV} {b : Nat} {g : yH}
theorem m_putX (hM : xOK M) {idx a ci j : Nat} {fs : List xV} {v : xV} (k : Nat) (hI : MI b g h) (e : g (b + k) = some (ob ci fs)) (kk : ∀ h', MI b (yup g (b + k) (ob ci (fs.set j v))) h' → (∀ q, q ≠ b + k → h' q = h q) → YW l G M d kc ks Φ (pc + 3) L st h' n) (hk : rTb k = none := by rfl) (hd : xat M pc = some (.putfield idx, 3) := by rfl) (hf : M.2.2.2.2.2.2.lookup idx = some (ci, j) := by rfl) (hfin : xfin ci j = false := by rfl) (hn : narrow (xty ci j) (den v) = den v := by rfl) (hfit : fits (xty ci j) (den v) = true := by rfl) (hl : j < fs.length := by exact Nat.le_of_ble_eq_true rfl) (ha : a = b + k := by rfl) : YW l G M d kc ks Φ pc L (v :: vr a :: st) h n := by
  subst ha
  exact y_put hM hd hf (hI.x hk e) hfin hn hfit (kk _ (hI.upx _ hk) (fun q hq => yup_ne _ _ hq)) hl
end C80z0
section C80z
variable {l : Launch} {G : xG} {h : yH} {n : Nat} {b : Nat} {g : yH}
/-- the picture in which the class's pictures are free -/
def gQ (b : Nat) (g : yH) : yH := fun q => if q = b + 9 ∨ q = b + 10 ∨ q = b + 11 ∨ q = b + 12 then none else g q
theorem gQ_ne {q : Nat} (hq : ¬ (q = b + 9 ∨ q = b + 10 ∨ q = b + 11 ∨ q = b + 12)) : gQ b g q = g q := if_neg hq
theorem gQ_no {k : Nat} (hk : k = 9 ∨ k = 10 ∨ k = 11 ∨ k = 12) : gQ b g (b + k) = none := if_pos (by omega)
theorem MI.q0 (hI : MI b g h) : MI b (gQ b g) h := by
  refine hI.cg (fun q hq => (gQ_ne (fun e => ?_)).symm) (fun k c hk hp hz => ?_)
  · rcases e with e | e | e | e
    · have := hq 9 e; cases this
    · have := hq 10 e; cases this
    · have := hq 11 e; cases this
    · have := hq 12 e; cases this
  · by_cases e : k = 9 ∨ k = 10 ∨ k = 11 ∨ k = 12
    · exact absurd (gQ_no e) hz
    · rw [gQ_ne (by omega)] at hz ⊢
      exact (hI.1 k c hk).2 hp hz
theorem ORD.pcs {t : Int} {E P W D : Nat → Int} {S : Nat → Bool} {x c a : Nat} (h : ORD t E (P, W, S, x, c, D, a)) (hD : ∀ j, 0 ≤ D j ∧ D j < 120) : PCs P W D a := by
  obtain ⟨hin, h1, -, -, -, -⟩ := h
  refine ⟨hin.1, fun k hk => ?_⟩
  have hd := hD k
  obtain ⟨-, q1, ⟨q2, q3, -⟩, -⟩ := h1 (D k).toNat (Or.inr ⟨k, hk, by show D k = (((D k).toNat : Nat) : Int); omega⟩)
  exact ⟨hd, q1, q2, q3⟩
/-- how a drawing ends: the picture is that of the order, or nothing else has changed -/
def DRW (b o2 : Nat) (h g' h' : yH) (t : Int) (E K R : Nat → Int) (ce1 ce2 : Nat) (Fo : Nat → Int) (v : Int) : Prop := ∃ (P W D : Nat → Int) (σ : sT), (∀ j, j < 144 → P j = E j) ∧ (∀ j : Nat, j < 24 → tbt t j = true → W j = (j : Int)) ∧ INs P (sN t 24) 24 ∧ RUN (P, W, sN t 24, 24, crd (sN t 24) 128, D, 0) σ ∧ STOP σ v ∧ ((v = -1 ∧ SP b o2 h g') ∨ (v = (σ.2.2.2.2.2.2 : Int) ∧ (∀ k, k ≠ 0 → k < 8 ∨ 12 < k → k < 20 ∨ 520 ≤ k → g' (b + k) = h (b + k)) ∧ ∃ Fc N Dd, PCc b h' ce2 ce1 Fc N Dd ∧ LKs σ.1 σ.2.1 σ.2.2.2.2.2.1 E K R Fc σ.2.2.2.2.2.2 ∧ (∀ v : Nat, v < 24 → N v = (crd (bxF Fc v) 8192 : Int)) ∧ Dd 0 = (crd (dfF Fc Fo) 8192 : Int) ∧ EXT (dfF Fc Fo) viC 8192 (Dd 1) (Dd 2) ∧ EXT (dfF Fc Fo) vjC 8192 (Dd 3) (Dd 4)))
theorem e_draw {o1 o2 : Nat} {dr : Int} {t : Int} {E K R T : Nat → Int} {ce1 ce2 : Nat} {Fo N0 D0 : Nat → Int} (hcx : CX b h o1 o2 dr) (hc : CB b h t E K R T) (ho : okE t E) (hd : DJ t E) (hpc : PCc b h ce1 ce2 Fo N0 D0) (hI : MI b h h) : YM l G mX6_draw 6 0 0 [vr b] h n (fun r h' n' => ∃ g' v, r = some (vi v) ∧ CB b g' t E K R T ∧ MI b g' h' ∧ n' = n ∧ DRW b o2 h g' h' t E K R ce1 ce2 Fo v) := by
  refine YM.of kX6_draw (Nat.le_of_ble_eq_true rfl) (L0 := [some (vr b), none]) rfl ?_
  obtain ⟨ho12, hx, d1, d2⟩ := id hcx
  obtain ⟨-, hp20, hp270, -, hsc⟩ := id hc
  obtain ⟨⟨pw, la, hq⟩, hne, eFo, -, -⟩ := id hpc
  have hc1 := hq.1
  have hc2 := hq.2.1
  obtain ⟨g, hg⟩ : ∃ g, g = h := ⟨h, rfl⟩
  rw [← hg] at hx hp20 hp270 hsc hq
  replace hI : MI b g h := by rw [hg]; exact hI
  have hP1 : PJ b o1 g := by rcases ho12 with ⟨rfl, rfl⟩ | ⟨rfl, rfl⟩ <;> assumption
  have hP2 : PJ b o2 g := by rcases ho12 with ⟨rfl, rfl⟩ | ⟨rfl, rfl⟩ <;> assumption
  obtain ⟨S2, a2, k2, x2, hf2, a21, a22, x21, x22⟩ := hP2
  obtain ⟨ho2, hp2, hr2⟩ := id hf2
  refine y_run kX6_draw rfl ?_
  refine m_get kX6_draw (0) hI hx ?_
  refine y_run kX6_draw rfl ?_
  refine m_get kX6_draw (0) hI hx ?_
  refine y_cv kX6_draw kX3_load 1 rfl (hI.x (k := o2) (t0 ho2) hp2) (by decide +kernel) (e_load hf2 hsc hI) rfl rfl ?_
  rintro _ h1 _ ⟨g1, c, P, W, D, U, V, rfl, hs, hf, hv, hI, hX, hPE, hLD, hW, rfl⟩
  obtain ⟨_, hp, hr⟩ := id hf
  have hPb := hX.Pb ho2 hI
  have hin := ins_load ho hd hPE hPb
  have hle := led_load hin (by omega) hLD
  have ec : c = ((crd (sN t 24) 128 : Nat) : Int) := by have := hv.2.1; omega
  subst ec
  have hx1 : g1 (b + 0) = some (bo b (b + o1) (b + o2) dr) := (hs _ (by omega) (by omega)).trans hx
  refine y_run kX6_draw rfl ?_
  refine m_get kX6_draw (0) hI hx1 ?_
  refine y_cv kX6_draw kX3_putInOrder 0 rfl (hI.x (k := o2) (t0 ho2) hp) (by decide +kernel) (e_putInOrder (a := 0) (c := crd (sN t 24) 128) (x := 24) hf hv rfl hle hin hI hX) rfl rfl ?_
  rintro _ h2 _ ⟨g2, S, a, c, x, P', W', D', U', V', hs2, hf, hv, hI, hX, hrun, rfl, hst⟩
  replace hs := hs.t hs2
  obtain ⟨_, hp, hr⟩ := id hf
  have hx2 : g2 (b + 0) = some (bo b (b + o1) (b + o2) dr) := (hs _ (by omega) (by omega)).trans hx
  rcases hst with ⟨rfl, hst⟩ | ⟨rfl, hst⟩
  · refine y_if_ne kX6_draw rfl rfl (fun _ => ?_) (fun e => absurd e (by omega))
    refine y_run kX6_draw rfl ?_
    refine m_get kX6_draw (0) hI hx2 ?_
    refine y_run kX6_draw rfl ?_
    refine m_get kX6_draw (0) hI hx2 ?_
    refine m_putX kX6_draw 0 hI hx2 (fun h hI hh1 => ?_)
    have hx3 : (yup g2 (b + 0) (bo b (b + o1) (b + o1) dr)) (b + 0) = some (bo b (b + o1) (b + o1) dr) := yup_eq _ _ _
    refine y_run kX6_draw rfl ?_
    refine m_putX kX6_draw 0 (g := yup g2 (b + 0) (bo b (b + o1) (b + o1) dr)) hI hx3 (fun h hI hh2 => ?_)
    have hhc : ∀ q, q ≠ b + 0 → h q = h2 q := fun q hq => (hh2 q hq).trans (hh1 q hq)
    generalize hg4 : yup (yup g2 (b + 0) (bo b (b + o1) (b + o1) dr)) (b + 0) (bo b (b + o2) (b + o1) dr) = g4
    replace hI : MI b g4 h := by rw [← hg4]; exact hI
    have hx4 : g4 (b + 0) = some (bo b (b + o2) (b + o1) dr) := by rw [← hg4]; exact yup_eq _ _ _
    have h42 : ∀ q, q ≠ b → g4 q = g2 q := fun q hq => by rw [← hg4, yup_ne _ _ (by omega), yup_ne _ _ (by omega)]
    have hX4 : PX b o2 h P' W' D' U' V' := hX.on (fun k hk => by rw [hhc _ (by omega)])
    obtain ⟨x1, x2, x3, -⟩ := id hX4
    have hDb : ∀ j, 0 ≤ D' j ∧ D' j < 120 := fun j => by
      obtain ⟨F, e, hF⟩ := hI.i (t3 ho2)
      rw [ai_inj x3 e]
      have := hF j
      omega
    have hord := (ORD.start (c := crd (sN t 24) 128) (D := D) hPE hW hin).run hrun
    have hpcs := hord.pcs hDb
    have eF4 : h (b + ce1) = some (ai 8192 Fo) := hI.pr (tc hc1) rfl (((h42 _ (by omega)).trans (hs _ (by omega) (by omega))).trans (by rw [hg]; exact eFo))
    replace hI : MI b (gQ b g4) h := hI.q0
    generalize hg7 : gQ b g4 = g7 at hI
    have h74 : ∀ q, ¬ (q = b + 9 ∨ q = b + 10 ∨ q = b + 11 ∨ q = b + 12) → g7 q = g4 q := fun q hq => by rw [← hg7]; exact gQ_ne hq
    have n7 : ∀ k, k = 9 ∨ k = 10 ∨ k = 11 ∨ k = 12 → g7 (b + k) = none := fun k hk => by rw [← hg7]; exact gQ_no hk
    replace hx4 : g7 (b + 0) = some (bo b (b + o2) (b + o1) dr) := (h74 _ (by omega)).trans hx4
    replace h42 : ∀ q, q ≠ b → ¬ (q = b + 9 ∨ q = b + 10 ∨ q = b + 11 ∨ q = b + 12) → g7 q = g2 q := fun q a0 a1 => (h74 q a1).trans (h42 q a0)
    have hq4 : QF b g7 ce1 ce2 pw la := ⟨hq.1, hq.2.1, ((h42 _ (by omega) (by omega)).trans (hs _ (by omega) (by omega))).trans hq.2.2⟩
    have hsc4 : SF b g7 t E K R T := (hsc.sp ho2 hs).on (fun q q1 q2 => h42 q (by omega) (by omega))
    have hf4 : PF b o2 g7 S (a : Int) (c : Int) (x : Int) := hf.on (fun q q1 q2 => h42 q (by omega) (by omega))
    refine y_run kX6_draw rfl ?_
    refine m_get kX6_draw (0) hI hx4 ?_
    refine y_run kX6_draw rfl ?_
    refine m_get kX6_draw (0) hI hx4 ?_
    refine y_run kX6_draw rfl ?_
    refine m_get kX6_draw (0) hI hx4 ?_
    have ha1 : 0 ≤ (a : Int) := hv.1
    have ha2 : (a : Int) ≤ 96 := by have := hv.2.1; have := hv.2.2.1; omega
    refine y_cv kX6_draw kX2_show 2 rfl (hI.x (k := 8) rfl hq4.2.2) (by decide +kernel) (e_show hq4 hne hsc4 ho2 hf4.2.1 (fun _ => n7 _ (by omega)) (fun _ => n7 11 (by omega)) (fun _ => n7 12 (by omega)) (by omega) hpcs x1 x2 x3 eF4 hI) rfl rfl ?_
    rintro _ h5 _ ⟨g5, h4x, Fc, N, Dd, rfl, rfl, hs5, ⟨pw', la', -, hq5, hI, e11, e12, -, cN, cD, cE1, cE2⟩, eFc, hlk, fr5⟩
    have hx5 : g5 (b + 0) = some (bo b (b + o2) (b + o1) dr) := (hs5 _ (by omega)).trans hx4
    refine y_run kX6_draw rfl ?_
    refine m_get kX6_draw (0) hI hx5 ?_
    refine y_run kX6_draw rfl ?_
    refine YW.nr1 ?_
    refine m_putX kX6_draw 0 hI hx5 (fun h hI hh6 => ?_)
    generalize hg6 : yup g5 (b + 0) (bo b (b + o2) (b + o1) (nrm (dr + 1))) = g6
    replace hI : MI b g6 h := by rw [← hg6]; exact hI
    have hx6 : g6 (b + 0) = some (bo b (b + o2) (b + o1) (nrm (dr + 1))) := by rw [← hg6]; exact yup_eq _ _ _
    have h62 : ∀ q, q ≠ b → q ≠ b + 8 → ¬ (q = b + 9 ∨ q = b + 10 ∨ q = b + 11 ∨ q = b + 12) → g6 q = g2 q := fun q hq hq8 hz => by rw [← hg6, yup_ne _ _ (by omega), hs5 _ hq8, h42 _ hq hz]
    have hf6 : PF b o2 g6 S (a : Int) (c : Int) (x : Int) := hf.on (fun q q1 q2 => h62 q (by omega) (by omega) (by omega))
    obtain ⟨_, hp6, hr6⟩ := id hf6
    refine y_run kX6_draw rfl ?_
    refine m_get kX6_draw (0) hI hx6 ?_
    refine m_get kX6_draw (o2) hI hp6 ?_ (t0 ho2)
    have hPo2 : PJ b o2 g6 := PIv.pj hf6 hv
    have hPo1 : PJ b o1 g6 := hP1.on (fun q q1 q2 => (h62 q (by omega) (by omega) (by omega)).trans (hs q (by omega) (by omega)))
    have hac : a = c := by
      rcases hst with ⟨z, -⟩ | ⟨-, -, -, z⟩
      · have : crd S 128 = 0 := by rw [crd_off (S' := fun _ => false) 128 (fun j _ => z j), crd_0]
        have := hv.2.1
        omega
      · exact absurd z (by omega)
    have hcx6 : CX b g6 o2 o1 (nrm (dr + 1)) := ⟨by omega, hx6, (nrm_rng _).1, (nrm_rng _).2⟩
    have hq6 : QF b g6 ce2 ce1 pw' la' := ⟨hq5.1, hq5.2.1, by rw [← hg6, yup_ne _ _ (by omega)]; exact hq5.2.2⟩
    have hq7 : QF b h ce2 ce1 pw' la' := ⟨hq5.1, hq5.2.1, (hI.kn (k := 8) rfl).trans hq6.2.2⟩
    refine y_ir kX6_draw rfl rfl ⟨g6, _, rfl, ⟨⟨o2, o1, nrm (dr + 1), hcx6⟩, ?_, ?_, ⟨ce2, ce1, pw', la', hq6⟩, ?_⟩, hI, rfl, P, W, D, _, hPE, hW, hin, hrun, hst, Or.inr ⟨by rw [hac], fun k a1 a2 a3 => by rw [← hg]; exact (h62 _ (by omega) (by omega) (by omega)).trans (hs _ (by omega) (by omega)), Fc, N, Dd, ⟨⟨pw', la', hq7⟩, fun e => hne e.symm, (hh6 _ (by omega)).trans eFc, (hh6 _ (by omega)).trans e11, (hh6 _ (by omega)).trans e12⟩, hlk, cN, cD, cE1, cE2⟩⟩
    · rcases ho12 with ⟨rfl, rfl⟩ | ⟨rfl, rfl⟩ <;> assumption
    · rcases ho12 with ⟨rfl, rfl⟩ | ⟨rfl, rfl⟩ <;> assumption
    · exact (hsc.sp ho2 hs).on (fun q q1 q2 => h62 q (by omega) (by omega) (by omega))
  · refine y_if_ne kX6_draw rfl rfl (fun e => absurd rfl e) (fun _ => ?_)
    refine y_run kX6_draw rfl ?_
    exact y_ir kX6_draw rfl rfl ⟨g2, _, rfl, hc.sp ho2 (by rw [hg] at hs; exact hs) (PIv.pj hf hv), hI, rfl, P, W, D, _, hPE, hW, hin, hrun, hst, Or.inl ⟨rfl, by rw [hg] at hs; exact hs⟩⟩
end C80z
