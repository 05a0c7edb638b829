/-! the class: draw, exactly -/
theorem ins_load {t : Int} {E P : Nat → Int} (ho : okE t E) (hd : DJ t E) (hPE : ∀ j, j < 144 → P j = E j) (hPb : ∀ j, 0 ≤ P j ∧ P j ≤ 32) : INs P (sN t 24) 24 := by
  have cg : ∀ (i : Nat) (w : Int), i < 24 → (i : Int) * 6 ≤ w → w < (i : Int) * 6 + 6 → P w.toNat = E w.toNat := fun i w h1 h2 h3 => hPE _ (by omega)
  have lb : ∀ i j : Nat, i < 24 → j < 24 → lbP E (i : Int) (j : Int) → lbP P (i : Int) (j : Int) := by
    rintro i j hi hj ⟨k, k0, k1, k2⟩
    refine ⟨k, k0, k1, ?_⟩
    rw [cg j _ hj (by omega) (by omega), cg i _ hi (by omega) (by omega)]
    exact k2
  refine ⟨hPb, fun i hi => ?_, fun i j hi hj hne => ?_⟩
  · have ti := (sN_iff t i).mp hi
    have i1 := ti.1
    obtain ⟨s1, s2, s3⟩ := ho.sides ti
    refine ⟨by omega, ?_, ?_, ?_⟩
    · rw [cg i _ (by omega) (by omega) (by omega), cg i _ (by omega) (by omega) (by omega)]; exact s1
    · rw [cg i _ (by omega) (by omega) (by omega), cg i _ (by omega) (by omega) (by omega)]; exact s2
    · rw [cg i _ (by omega) (by omega) (by omega), cg i _ (by omega) (by omega) (by omega)]; exact s3
  · have ti := (sN_iff t i).mp hi
    have tj := (sN_iff t j).mp hj
    have i1 := ti.1
    have j1 := tj.1
    obtain ⟨k, k0, k1, k2⟩ := hd (i : Int) (j : Int) ti tj (by omega)
    rcases k2 with k2 | k2
    · exact Or.inr (lb j i (by omega) (by omega) ⟨k, k0, k1, k2⟩)
    · exact Or.inl (lb i j (by omega) (by omega) ⟨k, k0, k1, k2⟩)
theorem led_load {P : Nat → Int} {S : Nat → Bool} {U V : Nat → Nat → Bool} {x : Nat} (hin : INs P S x) (hx : x ≤ 128) (hl : LD P S U V) : LEd P S U V := by
  intro i j hi hj
  have jx := (hin.2.1 j hj).1
  obtain ⟨h1, h2⟩ := hl i j hi (by omega)
  rw [h1, h2, hj, Bool.true_and, Bool.true_and, cvB_cvD hin.1 (hin.2.1 i hi).2 (hin.2.1 j hj).2 (fun e => hin.2.2 i j hi hj e), cvB_cvD hin.1 (hin.2.1 j hj).2 (hin.2.1 i hi).2 (fun e => hin.2.2 j i hj hi e)]
  exact ⟨rfl, rfl⟩
section C80z0
variable {l : Launch} {G : xG} {M : xM} {d kc ks : Nat} {Φ : Option xV → yH → Nat → Prop} {h : yH} {n : Nat} {pc : Nat} {L : List (Option xV)} {st : List xV} {b : Nat} {g : yH}
theorem m_putX (hM : xOK M) {idx a ci j : Nat} {fs : List xV} {v : xV} (k : Nat) (hI : MI b g h) (e : g (b + k) = some (ob ci fs)) (kk : ∀ h', MI b (yup g (b + k) (ob ci (fs.set j v))) h' → (∀ q, q ≠ b + k → h' q = h q) → YW l G M d kc ks Φ (pc + 3) L st h' n) (hk : rTb k = none := by rfl) (hd : xat M pc = some (.putfield idx, 3) := by rfl) (hf : M.2.2.2.2.2.2.lookup idx = some (ci, j) := by rfl) (hfin : xfin ci j = false := by rfl) (hn : narrow (xty ci j) (den v) = den v := by rfl) (hfit : fits (xty ci j) (den v) = true := by rfl) (hl : j < fs.length := by exact Nat.le_of_ble_eq_true rfl) (ha : a = b + k := by rfl) : YW l G M d kc ks Φ pc L (v :: vr a :: st) h n := by
  subst ha
  exact y_put hM hd hf (hI.x hk e) hfin hn hfit (kk _ (hI.upx _ hk) (fun q hq => yup_ne _ _ hq)) hl
end C80z0
section C80z
variable {l : Launch} {G : xG} {h : yH} {n : Nat} {b : Nat} {g : yH}
/-- how a drawing ends: what the spare pieces hold then is shown, or nothing else has changed -/
def DRW (b o2 : Nat) (g g' : yH) (t : Int) (E : Nat → Int) (v : Int) : Prop := ∃ (P W D : Nat → Int) (σ : sT), (∀ j, j < 144 → P j = E j) ∧ (∀ j : Nat, j < 24 → tbt t j = true → W j = (j : Int)) ∧ INs P (sN t 24) 24 ∧ RUN (P, W, sN t 24, 24, crd (sN t 24) 128, D, 0) σ ∧ STOP σ v ∧ ((v = -1 ∧ SP b o2 g g') ∨ (v = (σ.2.2.2.2.2.2 : Int) ∧ (∀ q, q ≠ b → q ≠ b + 8 → q < b + o2 ∨ b + (o2 + 5) ≤ q → g' q = g q) ∧ SHc b g' o2 (σ.2.2.2.2.2.2 : Int) σ.1 σ.2.1 σ.2.2.2.2.2.1 ∧ (σ.2.2.2.2.2.2 : Int) ≤ 96 ∧ ∀ j, 0 ≤ σ.2.2.2.2.2.1 j ∧ σ.2.2.2.2.2.1 j < 120))
theorem e_draw {o1 o2 : Nat} {dr : Int} {t : Int} {E K R T : Nat → Int} (hcx : CX b g o1 o2 dr) (hfr : FR b o2 g) (hc : CB b g t E K R T) (ho : okE t E) (hd : DJ t E) (hI : MI b g h) : YM l G mX6_draw 6 0 0 [vr b] h n (fun r h' n' => ∃ g' v, r = some (vi v) ∧ CB b g' t E K R T ∧ MI b g' h' ∧ n' = n ∧ DRW b o2 g g' t E v) := by
  refine YM.of kX6_draw (Nat.le_of_ble_eq_true rfl) (L0 := [some (vr b), none]) rfl ?_
  obtain ⟨ho12, hx, d1, d2⟩ := id hcx
  obtain ⟨-, hp20, hp270, ⟨ce1, ce2, pw, la, hq⟩, hsc⟩ := id hc
  have hP1 : PJ b o1 g := by rcases ho12 with ⟨rfl, rfl⟩ | ⟨rfl, rfl⟩ <;> assumption
  have hP2 : PJ b o2 g := by rcases ho12 with ⟨rfl, rfl⟩ | ⟨rfl, rfl⟩ <;> assumption
  obtain ⟨S2, a2, k2, x2, hf2, a21, a22, x21, x22⟩ := hP2
  obtain ⟨ho2, hp2, hr2⟩ := id hf2
  have hf2 := hf2.pf hfr
  refine y_run kX6_draw rfl ?_
  refine m_get kX6_draw (0) hI hx ?_
  refine y_run kX6_draw rfl ?_
  refine m_get kX6_draw (0) hI hx ?_
  refine y_cv kX6_draw kX3_load 1 rfl (hI.x (k := o2) (t0 ho2) hp2) (by decide +kernel) (e_load hf2 hsc hI) rfl rfl ?_
  rintro _ h1 _ ⟨g1, c, P, W, D, U, V, rfl, hs, hf, hv, hI, hX, hPE, hLD, hW, rfl⟩
  obtain ⟨_, hp, hr⟩ := id hf
  have hPb := hX.Pb ho2 hI
  have hin := ins_load ho hd hPE hPb
  have hle := led_load hin (by omega) hLD
  have ec : c = ((crd (sN t 24) 128 : Nat) : Int) := by have := hv.2.1; omega
  subst ec
  have hx1 : g1 (b + 0) = some (bo b (b + o1) (b + o2) dr) := (hs _ (by omega) (by omega)).trans hx
  refine y_run kX6_draw rfl ?_
  refine m_get kX6_draw (0) hI hx1 ?_
  refine y_cv kX6_draw kX3_putInOrder 0 rfl (hI.x (k := o2) (t0 ho2) hp) (by decide +kernel) (e_putInOrder (a := 0) (c := crd (sN t 24) 128) (x := 24) hf hv rfl hle hin hI hX) rfl rfl ?_
  rintro _ h2 _ ⟨g2, S, a, c, x, P', W', D', U', V', hs2, hf, hv, hI, hX, hrun, rfl, hst⟩
  replace hs := hs.t hs2
  obtain ⟨_, hp, hr⟩ := id hf
  have hx2 : g2 (b + 0) = some (bo b (b + o1) (b + o2) dr) := (hs _ (by omega) (by omega)).trans hx
  rcases hst with ⟨rfl, hst⟩ | ⟨rfl, hst⟩
  · refine y_if_ne kX6_draw rfl rfl (fun _ => ?_) (fun e => absurd e (by omega))
    refine y_run kX6_draw rfl ?_
    refine m_get kX6_draw (0) hI hx2 ?_
    refine y_run kX6_draw rfl ?_
    refine m_get kX6_draw (0) hI hx2 ?_
    refine m_putX kX6_draw 0 hI hx2 (fun h hI hh1 => ?_)
    have hx3 : (yup g2 (b + 0) (bo b (b + o1) (b + o1) dr)) (b + 0) = some (bo b (b + o1) (b + o1) dr) := yup_eq _ _ _
    refine y_run kX6_draw rfl ?_
    refine m_putX kX6_draw 0 (g := yup g2 (b + 0) (bo b (b + o1) (b + o1) dr)) hI hx3 (fun h hI hh2 => ?_)
    have hhc : ∀ q, q ≠ b + 0 → h q = h2 q := fun q hq => (hh2 q hq).trans (hh1 q hq)
    generalize hg4 : yup (yup g2 (b + 0) (bo b (b + o1) (b + o1) dr)) (b + 0) (bo b (b + o2) (b + o1) dr) = g4
    replace hI : MI b g4 h := by rw [← hg4]; exact hI
    have hx4 : g4 (b + 0) = some (bo b (b + o2) (b + o1) dr) := by rw [← hg4]; exact yup_eq _ _ _
    have h42 : ∀ q, q ≠ b → g4 q = g2 q := fun q hq => by rw [← hg4, yup_ne _ _ (by omega), yup_ne _ _ (by omega)]
    have hf4 : PF0 b o2 g4 S (a : Int) (c : Int) (x : Int) := hf.p0.on (fun q q1 q2 => h42 q (by omega))
    have hX4 : PX b o2 h P' W' D' U' V' := hX.on (fun k hk => by rw [hhc _ (by omega)])
    obtain ⟨x1, x2, x3, -⟩ := id hX4
    generalize hg7 : yup (yup (yup g4 (b + (o2 + 1)) (ai 720 P')) (b + (o2 + 2)) (ai 120 W')) (b + (o2 + 3)) (ai 96 D') = g7
    have h74 : ∀ q, q ≠ b + (o2 + 1) → q ≠ b + (o2 + 2) → q ≠ b + (o2 + 3) → g7 q = g4 q := fun q a1 a2 a3 => by rw [← hg7, yup_ne _ _ a3, yup_ne _ _ a2, yup_ne _ _ a1]
    have y1 : g7 (b + (o2 + 1)) = some (ai 720 P') := by rw [← hg7, yup_ne _ _ (by omega), yup_ne _ _ (by omega)]; exact yup_eq _ _ _
    have y2 : g7 (b + (o2 + 2)) = some (ai 120 W') := by rw [← hg7, yup_ne _ _ (by omega)]; exact yup_eq _ _ _
    have y3 : g7 (b + (o2 + 3)) = some (ai 96 D') := by rw [← hg7]; exact yup_eq _ _ _
    have hDb : ∀ j, 0 ≤ D' j ∧ D' j < 120 := fun j => by
      obtain ⟨F, e, hF⟩ := hI.i (t3 ho2)
      rw [ai_inj x3 e]
      have := hF j
      omega
    replace hI : MI b g7 h := by
      refine hI.cg (fun q hq => ?_) (fun k cc hk hpc hz => ?_)
      · refine (h74 q ?_ ?_ ?_).symm
        · intro e; have := hq _ e; rw [t1 ho2] at this; cases this
        · intro e; have := hq _ e; rw [t2 ho2] at this; cases this
        · intro e; have := hq _ e; rw [t3 ho2] at this; cases this
      · by_cases k1 : k = o2 + 1
        · rw [k1, y1]; exact x1
        · by_cases k2 : k = o2 + 2
          · rw [k2, y2]; exact x2
          · by_cases k3 : k = o2 + 3
            · rw [k3, y3]; exact x3
            · have e := h74 (b + k) (by omega) (by omega) (by omega)
              rw [e] at hz ⊢
              exact (hI.1 k cc hk).2 hpc hz
    replace hx4 : g7 (b + 0) = some (bo b (b + o2) (b + o1) dr) := (h74 _ (by omega) (by omega) (by omega)).trans hx4
    replace hf4 : PF0 b o2 g7 S (a : Int) (c : Int) (x : Int) := by
      obtain ⟨f1, f2, ⟨lo, hi, f3, f3b⟩, ⟨Fb, f4, f4b⟩, Fa, f5, f5b⟩ := hf4
      exact ⟨f1, (h74 _ (by omega) (by omega) (by omega)).trans f2, ⟨lo, hi, (h74 _ (by omega) (by omega) (by omega)).trans f3, f3b⟩, ⟨Fb, (h74 _ (by omega) (by omega) (by omega)).trans f4, f4b⟩, Fa, (h74 _ (by omega) (by omega) (by omega)).trans f5, f5b⟩
    replace h42 : ∀ q, q ≠ b → q ≠ b + (o2 + 1) → q ≠ b + (o2 + 2) → q ≠ b + (o2 + 3) → g7 q = g2 q := fun q a0 a1 a2 a3 => (h74 q a1 a2 a3).trans (h42 q a0)
    have hq4 : QF b g7 ce1 ce2 pw la := ⟨hq.1, hq.2.1, ((h42 _ (by omega) (by omega) (by omega) (by omega)).trans (hs _ (by omega) (by omega))).trans hq.2.2⟩
    have hsc4 : SF b g7 t E K R T := (hsc.sp ho2 hs).on (fun q q1 q2 => h42 q (by omega) (by omega) (by omega) (by omega))
    refine y_run kX6_draw rfl ?_
    refine m_get kX6_draw (0) hI hx4 ?_
    refine y_run kX6_draw rfl ?_
    refine m_get kX6_draw (0) hI hx4 ?_
    refine y_run kX6_draw rfl ?_
    refine m_get kX6_draw (0) hI hx4 ?_
    have ha1 : 0 ≤ (a : Int) := hv.1
    have ha2 : (a : Int) ≤ 96 := by have := hv.2.1; have := hv.2.2.1; omega
    refine y_cv kX6_draw kX2_show 2 rfl (hI.x (k := 8) rfl hq4.2.2) (by decide +kernel) (w_show hq4 hsc4 hf4 ha1 ha2 hI) rfl rfl ?_
    rintro _ h _ ⟨g5, c1', c2', pw', la', rfl, hs5, hq5, hI, rfl⟩
    have hx5 : g5 (b + 0) = some (bo b (b + o2) (b + o1) dr) := (hs5 _ (by omega)).trans hx4
    refine y_run kX6_draw rfl ?_
    refine m_get kX6_draw (0) hI hx5 ?_
    refine y_run kX6_draw rfl ?_
    refine YW.nr1 ?_
    refine m_put kX6_draw 0 hI hx5 (fun h hI => ?_)
    generalize hg6 : yup g5 (b + 0) (bo b (b + o2) (b + o1) (nrm (dr + 1))) = g6
    replace hI : MI b g6 h := by rw [← hg6]; exact hI
    have hx6 : g6 (b + 0) = some (bo b (b + o2) (b + o1) (nrm (dr + 1))) := by rw [← hg6]; exact yup_eq _ _ _
    have h67 : ∀ q, q ≠ b → q ≠ b + 8 → g6 q = g7 q := fun q hq hq8 => by rw [← hg6, yup_ne _ _ (by omega), hs5 _ hq8]
    have h62 : ∀ q, q ≠ b → q ≠ b + 8 → q ≠ b + (o2 + 1) → q ≠ b + (o2 + 2) → q ≠ b + (o2 + 3) → g6 q = g2 q := fun q hq hq8 a1 a2 a3 => (h67 q hq hq8).trans (h42 _ hq a1 a2 a3)
    have hf6 : PF0 b o2 g6 S (a : Int) (c : Int) (x : Int) := hf4.on (fun q q1 q2 => h67 q (by omega) (by omega))
    obtain ⟨_, hp6, hr6⟩ := id hf6
    refine y_run kX6_draw rfl ?_
    refine m_get kX6_draw (0) hI hx6 ?_
    refine m_get kX6_draw (o2) hI hp6 ?_ (t0 ho2)
    have hPo2 : PJ b o2 g6 := PIv.pj hf6 hv
    have hPo1 : PJ b o1 g6 := hP1.on (fun q q1 q2 => (h62 q (by omega) (by omega) (by omega) (by omega) (by omega)).trans (hs q (by omega) (by omega)))
    have hac : a = c := by
      rcases hst with ⟨z, -⟩ | ⟨-, -, -, z⟩
      · have : crd S 128 = 0 := by rw [crd_off (S' := fun _ => false) 128 (fun j _ => z j), crd_0]
        have := hv.2.1
        omega
      · exact absurd z (by omega)
    have hcx6 : CX b g6 o2 o1 (nrm (dr + 1)) := ⟨by omega, hx6, (nrm_rng _).1, (nrm_rng _).2⟩
    refine y_ir kX6_draw rfl rfl ⟨g6, _, rfl, ⟨⟨o2, o1, nrm (dr + 1), hcx6⟩, ?_, ?_, ⟨c1', c2', pw', la', hq5.1, hq5.2.1, ?_⟩, ?_⟩, hI, rfl, P, W, D, _, hPE, hW, hin, hrun, hst, Or.inr ⟨by rw [hac], fun q a1 a2 a3 => (h62 q a1 a2 (by omega) (by omega) (by omega)).trans (hs q (by omega) (by omega)), ⟨⟨o1, _, hcx6⟩, ⟨_, _, hp6⟩, (h67 _ (by omega) (by omega)).trans y1, (h67 _ (by omega) (by omega)).trans y2, (h67 _ (by omega) (by omega)).trans y3⟩, ha2, hDb⟩⟩
    · rcases ho12 with ⟨rfl, rfl⟩ | ⟨rfl, rfl⟩ <;> assumption
    · rcases ho12 with ⟨rfl, rfl⟩ | ⟨rfl, rfl⟩ <;> assumption
    · rw [← hg6, yup_ne _ _ (by omega)]; exact hq5.2.2
    · exact hsc4.on (fun q q1 q2 => h67 q (by omega) (by omega))
  · refine y_if_ne kX6_draw rfl rfl (fun e => absurd rfl e) (fun _ => ?_)
    refine y_run kX6_draw rfl ?_
    exact y_ir kX6_draw rfl rfl ⟨g2, _, rfl, hc.sp ho2 hs (PIv.pj hf.p0 hv), hI, rfl, P, W, D, _, hPE, hW, hin, hrun, hst, Or.inl ⟨rfl, hs⟩⟩
end C80z
