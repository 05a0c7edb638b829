/-! the class: draw, exactly -/
theorem ins_load {t : Int} {E P : Nat → Int} (ho : okE t E) (hd : DJ t E) (hPE : ∀ j, j < 144 → P j = E j) (hPb : ∀ j, 0 ≤ P j ∧ P j ≤ 32) : INs P (sN t 24) 24 := by
  have cg : ∀ (i : Nat) (w : Int), i < 24 → (i : Int) * 6 ≤ w → w < (i : Int) * 6 + 6 → P w.toNat = E w.toNat := fun i w h1 h2 h3 => hPE _ (by omega)
  have lb : ∀ i j : Nat, i < 24 → j < 24 → lbP E (i : Int) (j : Int) → lbP P (i : Int) (j : Int) := by
    rintro i j hi hj ⟨k, k0, k1, k2⟩
    refine ⟨k, k0, k1, ?_⟩
    rw [cg j _ hj (by omega) (by omega), cg i _ hi (by omega) (by omega)]
    exact k2
  refine ⟨hPb, fun i hi => ?_, fun i j hi hj hne => ?_⟩
  · have ti := (sN_iff t i).mp hi
    have i1 := ti.1
    obtain ⟨s1, s2, s3⟩ := ho.sides ti
    refine ⟨by omega, ?_, ?_, ?_⟩
    · rw [cg i _ (by omega) (by omega) (by omega), cg i _ (by omega) (by omega) (by omega)]; exact s1
    · rw [cg i _ (by omega) (by omega) (by omega), cg i _ (by omega) (by omega) (by omega)]; exact s2
    · rw [cg i _ (by omega) (by omega) (by omega), cg i _ (by omega) (by omega) (by omega)]; exact s3
  · have ti := (sN_iff t i).mp hi
    have tj := (sN_iff t j).mp hj
    have i1 := ti.1
    have j1 := tj.1
    obtain ⟨k, k0, k1, k2⟩ := hd (i : Int) (j : Int) ti tj (by omega)
    rcases k2 with k2 | k2
    · exact Or.inr (lb j i (by omega) (by omega) ⟨k, k0, k1, k2⟩)
    · exact Or.inl (lb i j (by omega) (by omega) ⟨k, k0, k1, k2⟩)
theorem led_load {P : Nat → Int} {S : Nat → Bool} {U V : Nat → Nat → Bool} {x : Nat} (hin : INs P S x) (hx : x ≤ 128) (hl : LD P S U V) : LEd P S U V := by
  intro i j hi hj
  have jx := (hin.2.1 j hj).1
  obtain ⟨h1, h2⟩ := hl i j hi (by omega)
  rw [h1, h2, hj, Bool.true_and, Bool.true_and, cvB_cvD hin.1 (hin.2.1 i hi).2 (hin.2.1 j hj).2 (fun e => hin.2.2 i j hi hj e), cvB_cvD hin.1 (hin.2.1 j hj).2 (hin.2.1 i hi).2 (fun e => hin.2.2 j i hj hi e)]
  exact ⟨rfl, rfl⟩
section C80z
variable {l : Launch} {G : xG} {h : yH} {n : Nat} {b : Nat} {g : yH}
/-- what draw answers: the order's end, from the scene's boxes on -/
def ANS (t : Int) (E : Nat → Int) (v : Int) : Prop := ∃ (P W D : Nat → Int) (σ : sT), (∀ j, j < 144 → P j = E j) ∧ (∀ j : Nat, j < 24 → tbt t j = true → W j = (j : Int)) ∧ INs P (sN t 24) 24 ∧ RUN (P, W, sN t 24, 24, crd (sN t 24) 128, D, 0) σ ∧ STOP σ v
theorem e_draw {t : Int} {E K R T : Nat → Int} (hc : CB b g t E K R T) (ho : okE t E) (hd : DJ t E) (hI : MI b g h) : YM l G mX6_draw 6 0 0 [vr b] h n (fun r h' n' => ∃ g' v, r = some (vi v) ∧ SB b g g' ∧ CB b g' t E K R T ∧ MI b g' h' ∧ n' = n ∧ ANS t E v) := by
  refine YM.of kX6_draw (Nat.le_of_ble_eq_true rfl) (L0 := [some (vr b), none]) rfl ?_
  obtain ⟨⟨o1, o2, dr, ho12, hx, d1, d2⟩, hp20, hp270, ⟨ce1, ce2, pw, la, hq⟩, hsc⟩ := id hc
  have hP1 : PJ b o1 g := by rcases ho12 with ⟨rfl, rfl⟩ | ⟨rfl, rfl⟩ <;> assumption
  have hP2 : PJ b o2 g := by rcases ho12 with ⟨rfl, rfl⟩ | ⟨rfl, rfl⟩ <;> assumption
  obtain ⟨S2, a2, k2, x2, hf2, a21, a22, x21, x22⟩ := hP2
  obtain ⟨ho2, hp2, hr2⟩ := id hf2
  refine y_run kX6_draw rfl ?_
  refine m_get kX6_draw (0) hI hx ?_
  refine y_run kX6_draw rfl ?_
  refine m_get kX6_draw (0) hI hx ?_
  refine y_cv kX6_draw kX3_load 1 rfl (hI.x (k := o2) (t0 ho2) hp2) (by decide +kernel) (e_load hf2 hsc hI) rfl rfl ?_
  rintro _ h1 _ ⟨g1, c, P, W, D, U, V, rfl, hs, hf, hv, hI, hX, hPE, hLD, hW, rfl⟩
  obtain ⟨_, hp, hr⟩ := id hf
  have hPb := hX.Pb ho2 hI
  have hin := ins_load ho hd hPE hPb
  have hle := led_load hin (by omega) hLD
  have ec : c = ((crd (sN t 24) 128 : Nat) : Int) := by have := hv.2.1; omega
  subst ec
  have hx1 : g1 (b + 0) = some (bo b (b + o1) (b + o2) dr) := (hs _ (by omega) (by omega)).trans hx
  refine y_run kX6_draw rfl ?_
  refine m_get kX6_draw (0) hI hx1 ?_
  refine y_cv kX6_draw kX3_putInOrder 0 rfl (hI.x (k := o2) (t0 ho2) hp) (by decide +kernel) (e_putInOrder (a := 0) (c := crd (sN t 24) 128) (x := 24) hf hv rfl hle hin hI hX) rfl rfl ?_
  rintro _ h2 _ ⟨g2, S, a, c, x, P', W', D', U', V', hs2, hf, hv, hI, hX, hrun, rfl, hst⟩
  replace hs := hs.t hs2
  obtain ⟨_, hp, hr⟩ := id hf
  have hx2 : g2 (b + 0) = some (bo b (b + o1) (b + o2) dr) := (hs _ (by omega) (by omega)).trans hx
  rcases hst with ⟨rfl, hst⟩ | ⟨rfl, hst⟩
  · refine y_if_ne kX6_draw rfl rfl (fun _ => ?_) (fun e => absurd e (by omega))
    refine y_run kX6_draw rfl ?_
    refine m_get kX6_draw (0) hI hx2 ?_
    refine y_run kX6_draw rfl ?_
    refine m_get kX6_draw (0) hI hx2 ?_
    refine m_put kX6_draw 0 hI hx2 (fun h hI => ?_)
    have hx3 : (yup g2 (b + 0) (bo b (b + o1) (b + o1) dr)) (b + 0) = some (bo b (b + o1) (b + o1) dr) := yup_eq _ _ _
    refine y_run kX6_draw rfl ?_
    refine m_put kX6_draw 0 (g := yup g2 (b + 0) (bo b (b + o1) (b + o1) dr)) hI hx3 (fun h hI => ?_)
    generalize hg4 : yup (yup g2 (b + 0) (bo b (b + o1) (b + o1) dr)) (b + 0) (bo b (b + o2) (b + o1) dr) = g4
    replace hI : MI b g4 h := by rw [← hg4]; exact hI
    have hx4 : g4 (b + 0) = some (bo b (b + o2) (b + o1) dr) := by rw [← hg4]; exact yup_eq _ _ _
    have h42 : ∀ q, q ≠ b → g4 q = g2 q := fun q hq => by rw [← hg4, yup_ne _ _ (by omega), yup_ne _ _ (by omega)]
    have hq4 : QF b g4 ce1 ce2 pw la := ⟨hq.1, hq.2.1, ((h42 _ (by omega)).trans (hs _ (by omega) (by omega))).trans hq.2.2⟩
    have hsc4 : SF b g4 t E K R T := (hsc.sp ho2 hs).on (fun q q1 q2 => h42 q (by omega))
    have hf4 : PF b o2 g4 S (a : Int) (c : Int) (x : Int) := hf.on (fun q q1 q2 => h42 q (by omega))
    refine y_run kX6_draw rfl ?_
    refine m_get kX6_draw (0) hI hx4 ?_
    refine y_run kX6_draw rfl ?_
    refine m_get kX6_draw (0) hI hx4 ?_
    refine y_run kX6_draw rfl ?_
    refine m_get kX6_draw (0) hI hx4 ?_
    have ha1 : 0 ≤ (a : Int) := hv.1
    have ha2 : (a : Int) ≤ 96 := by have := hv.2.1; have := hv.2.2.1; omega
    refine y_cv kX6_draw kX2_show 2 rfl (hI.x (k := 8) rfl hq4.2.2) (by decide +kernel) (w_show hq4 hsc4 hf4 ha1 ha2 hI) rfl rfl ?_
    rintro _ h _ ⟨g5, c1', c2', pw', la', rfl, hs5, hq5, hI, rfl⟩
    have hx5 : g5 (b + 0) = some (bo b (b + o2) (b + o1) dr) := (hs5 _ (by omega)).trans hx4
    refine y_run kX6_draw rfl ?_
    refine m_get kX6_draw (0) hI hx5 ?_
    refine y_run kX6_draw rfl ?_
    refine YW.nr1 ?_
    refine m_put kX6_draw 0 hI hx5 (fun h hI => ?_)
    generalize hg6 : yup g5 (b + 0) (bo b (b + o2) (b + o1) (nrm (dr + 1))) = g6
    replace hI : MI b g6 h := by rw [← hg6]; exact hI
    have hx6 : g6 (b + 0) = some (bo b (b + o2) (b + o1) (nrm (dr + 1))) := by rw [← hg6]; exact yup_eq _ _ _
    have h62 : ∀ q, q ≠ b → q ≠ b + 8 → g6 q = g2 q := fun q hq hq8 => by rw [← hg6, yup_ne _ _ (by omega), hs5 _ hq8, h42 _ hq]
    have hf6 : PF b o2 g6 S (a : Int) (c : Int) (x : Int) := hf.on (fun q q1 q2 => h62 q (by omega) (by omega))
    obtain ⟨_, hp6, hr6⟩ := id hf6
    refine y_run kX6_draw rfl ?_
    refine m_get kX6_draw (0) hI hx6 ?_
    refine m_get kX6_draw (o2) hI hp6 ?_ (t0 ho2)
    have hPo2 : PJ b o2 g6 := PIv.pj hf6 hv
    have hPo1 : PJ b o1 g6 := hP1.on (fun q q1 q2 => (h62 q (by omega) (by omega)).trans (hs q (by omega) (by omega)))
    refine y_ir kX6_draw rfl rfl ⟨g6, _, rfl, fun q a1 a2 a3 a4 a5 a6 => (h62 q a1 a2).trans (hs q (by omega) (by omega)), ⟨⟨o2, o1, nrm (dr + 1), by omega, hx6, (nrm_rng _).1, (nrm_rng _).2⟩, ?_, ?_, ⟨c1', c2', pw', la', hq5.1, hq5.2.1, ?_⟩, ?_⟩, hI, rfl, P, W, D, _, hPE, hW, hin, hrun, hst⟩
    · rcases ho12 with ⟨rfl, rfl⟩ | ⟨rfl, rfl⟩ <;> assumption
    · rcases ho12 with ⟨rfl, rfl⟩ | ⟨rfl, rfl⟩ <;> assumption
    · rw [← hg6, yup_ne _ _ (by omega)]; exact hq5.2.2
    · exact (hsc.sp ho2 hs).on (fun q q1 q2 => h62 q (by omega) (by omega))
  · refine y_if_ne kX6_draw rfl rfl (fun e => absurd rfl e) (fun _ => ?_)
    refine y_run kX6_draw rfl ?_
    exact y_ir kX6_draw rfl rfl ⟨g2, _, rfl, hs.sb ho2, hc.sp ho2 hs (PIv.pj hf hv), hI, rfl, P, W, D, _, hPE, hW, hin, hrun, hst⟩
end C80z
