section C80g
variable {l : Launch} {G : xG} {M : xM} {d kc ks : Nat} {Φ : Option xV → yH → Nat → Prop} {h h' : yH} {n : Nat} {pc : Nat} {L : List (Option xV)} {st : List xV} {b o : Nat} {g : yH} {S : Nat → Bool} {a c x : Int} {P W D : Nat → Int} {U V : Nat → Nat → Bool}
theorem m_pPX (hM : xOK M) {idx ad j : Nat} {v a' c' x' : Int} {g0 : yH} (hI : MI b g h) (hf : PF b o g S a c x) (hs : SP b o g0 g) (kk : ∀ g' h', SP b o g0 g' → PF b o g' S a' c' x' → MI b g' h' → (∀ q, q ≠ b + o → h' q = h q) → YW l G M d kc ks Φ (pc + 3) L st h' n) (he : ∃ fs, pO b o a c x = ob 3 fs ∧ ob 3 (fs.set j (vi v)) = pO b o a' c' x' ∧ j < fs.length) (hd : xat M pc = some (.putfield idx, 3) := by rfl) (hl : M.2.2.2.2.2.2.lookup idx = some (3, j) := by rfl) (hfin : xfin 3 j = false := by rfl) (hn : narrow (xty 3 j) (den (vi v)) = den (vi v) := by rfl) (hfit : fits (xty 3 j) (den (vi v)) = true := by rfl) (ha : ad = b + o := by rfl) : YW l G M d kc ks Φ pc L (vi v :: vr ad :: st) h n := by
  obtain ⟨fs, e1, e2, e3⟩ := he
  obtain ⟨⟨ho, hw1, hw2, hw3⟩, hp, hx⟩ := id hf
  rw [e1] at hp
  subst ha
  refine y_put hM hd hl (hI.x (t0 ho) hp) hfin hn hfit ?_ e3
  rw [e2]
  exact kk (yup g (b + o) (pO b o a' c' x')) _ (hs.upO _) (hf.upO _ _ _) (hI.upx _ (t0 ho)) (fun q hq => yup_ne _ _ hq)
def PLX (b o : Nat) (g : yH) (n : Nat) (S : Nat → Bool) (a c x : Int) (P W D : Nat → Int) (U V : Nat → Nat → Bool) : Option xV → yH → Nat → Prop := fun r h' n' => ∃ g', r = none ∧ SP b o g g' ∧ PF b o g' S a c x ∧ MI b g' h' ∧ PX b o h' P W D U V ∧ n' = n
theorem s_bringInE (hf : PF b o g S a c x) {p : Nat} (p2 : p < 120) (x1 : 0 ≤ x) (x2 : x ≤ 120) {g0 : yH} (hs : SP b o g0 g) : ∀ (m : Nat) (q : Nat) (h : yH), x.toNat - q < m → (q : Int) ≤ x → MI b g h → PX b o h P W D (biU P S U p q) (biV P S V p q) → YW l G mX3_bringIn 2 0 0 (PLX b o g0 n S a c x P W D (biU P S U p x.toNat) (biV P S V p x.toNat)) 28 [some (vr (b + o)), some (vi (p : Int)), some (vi (q : Int))] [] h n := by
  intro m
  induction m with
  | zero => intro q h hm; exact absurd hm (Nat.not_lt_zero _)
  | succ m ih =>
    intro q h hmm j1 hI hX
    obtain ⟨⟨ho, hw1, hw2, hw3⟩, hp, ⟨lo, hi, hL, hLb⟩, ⟨Fb, hFb, hFb2⟩, ⟨Fa, hFa, hFa2⟩⟩ := id hf
    have nx : ∀ h', MI b g h' → PX b o h' P W D (biU P S U p (q + 1)) (biV P S V p (q + 1)) → (q : Int) < x → YW l G mX3_bringIn 2 0 0 (PLX b o g0 n S a c x P W D (biU P S U p x.toNat) (biV P S V p x.toNat)) 28 [some (vr (b + o)), some (vi (p : Int)), some (vi ((q : Int) + 1))] [] h' n := fun h' i1 i2 i3 => by
      refine YW.Le (congrArg (fun z : Int => [some (vr (b + o)), some (vi (p : Int)), some (vi z)]) (show (q : Int) + 1 = ((q + 1 : Nat) : Int) by omega)) ?_
      exact ih (q + 1) h' (by omega) (by omega) i1 i2
    refine y_run kX3_bringIn rfl ?_
    refine m_get kX3_bringIn (o) hI hp ?_ (t0 ho)
    refine y_ic_ge kX3_bringIn rfl rfl (fun c1 => ?_) (fun c1 => ?_)
    · have e : q = x.toNat := by omega
      subst e
      exact y_vr kX3_bringIn rfl rfl ⟨_, rfl, hs, hf, hI, hX, rfl⟩
    · refine y_run kX3_bringIn rfl ?_
      refine y_ic_eq kX3_bringIn rfl rfl (fun c2 => ?_) (fun c2 => ?_)
      · refine y_run kX3_bringIn rfl ?_
        exact nx _ hI (hX.cg (fun i j _ _ => biU_skip (Or.inl (by omega)) i j) (fun i j _ _ => biV_skip (Or.inl (by omega)) i j)) (by omega)
      · refine y_run kX3_bringIn rfl ?_
        refine m_get kX3_bringIn (o) hI hp ?_ (t0 ho)
        refine y_run kX3_bringIn rfl ?_
        refine y_cv kX3_bringIn kX0_has 1 rfl (hI.x (k := o + 4) (t4 ho) hL) (by decide +kernel) (w_Lhas hf hI (by omega) (by omega)) rfl rfl ?_
        rintro _ h2 _ ⟨rfl, eh, rfl⟩
        subst eh
        refine y_beq kX3_bringIn rfl rfl (fun c3 => ?_) (fun c3 => ?_)
        · refine y_run kX3_bringIn rfl ?_
          rw [Int.toNat_natCast] at c3
          have c4 : S q = false := by cases z : S q with
            | false => rfl
            | true => exact absurd z c3
          exact nx _ hI (hX.cg (fun i j _ _ => biU_skip (Or.inr c4) i j) (fun i j _ _ => biV_skip (Or.inr c4) i j)) (by omega)
        · rw [Int.toNat_natCast] at c3
          refine y_run kX3_bringIn rfl ?_
          refine m_get kX3_bringIn (o) hI hp ?_ (t0 ho)
          refine y_run kX3_bringIn rfl ?_
          refine y_qa kX3_bringIn rfl (hI.x (k := o + 5) (t5 ho) hFb) rfl (by omega) (by omega) (hFb2 _ (by omega)) ?_
          refine y_run kX3_bringIn rfl ?_
          obtain ⟨y1, y2, e1⟩ := (hX.2.2.2.1 (q : Int).toNat (by omega)).ob
          refine y_cv kX3_bringIn kX0_remove 1 rfl e1 (by decide +kernel) (c_Nremove (hX.2.2.2.1 (q : Int).toNat (by omega)) (v := (p : Int)) (by omega) (by omega)) rfl rfl ?_
          rintro _ h3 _ ⟨rfl, hu, rfl⟩
          replace hI := hu.mi hI (nT ho (by omega) (by omega))
          replace hX := hX.uU (by omega) hu
          refine y_run kX3_bringIn rfl ?_
          refine m_get kX3_bringIn (o) hI hp ?_ (t0 ho)
          refine y_run kX3_bringIn rfl ?_
          refine y_qa kX3_bringIn rfl (hI.x (k := o + 6) (t6 ho) hFa) rfl (by omega) (by omega) (hFa2 _ (by omega)) ?_
          refine y_run kX3_bringIn rfl ?_
          obtain ⟨y1, y2, e1⟩ := (hX.2.2.2.2 (q : Int).toNat (by omega)).ob
          refine y_cv kX3_bringIn kX0_remove 1 rfl e1 (by decide +kernel) (c_Nremove (hX.2.2.2.2 (q : Int).toNat (by omega)) (v := (p : Int)) (by omega) (by omega)) rfl rfl ?_
          rintro _ h4 _ ⟨rfl, hu, rfl⟩
          replace hI := hu.mi hI (nT ho (by omega) (by omega))
          replace hX := hX.uV (by omega) hu
          refine y_run kX3_bringIn rfl ?_
          refine y_cv kX3_bringIn kX3_haveCommonPixel 2 rfl (hI.x (k := o) (t0 ho) hp) (by decide +kernel) (e_common hf (by omega) (by omega) (by omega) (by omega) hI hX) rfl rfl ?_
          rintro _ h5 _ ⟨rfl, eh, rfl⟩
          subst eh
          refine y_beq kX3_bringIn rfl rfl (fun c5 => ?_) (fun c5 => ?_)
          · refine y_run kX3_bringIn rfl ?_
            refine nx _ hI (hX.cg (fun i j _ _ => ?_) (fun i j _ _ => ?_)) (by omega)
            · rw [← biU_turn (by omega) c3]
              unfold tnU
              rw [if_neg c5]
              simp only [Int.toNat_natCast]
            · rw [← biV_turn (by omega) c3]
              unfold tnV
              rw [if_neg c5]
              simp only [Int.toNat_natCast]
          · refine y_run kX3_bringIn rfl ?_
            refine y_cv kX3_bringIn kX3_relate 2 rfl (hI.x (k := o) (t0 ho) hp) (by decide +kernel) (e_relate hf (by omega) (by omega) (by omega) (by omega) hI hX) rfl rfl ?_
            rintro _ h6 _ ⟨rfl, hI, hX, rfl⟩
            refine y_run kX3_bringIn rfl ?_
            refine nx _ hI (hX.cg (fun i j _ _ => ?_) (fun i j _ _ => ?_)) (by omega)
            · rw [← biU_turn (by omega) c3]
              unfold tnU
              rw [if_pos c5]
              simp only [Int.toNat_natCast]
            · rw [← biV_turn (by omega) c3]
              unfold tnV
              rw [if_pos c5]
              simp only [Int.toNat_natCast]
theorem e_bringIn (hf : PF b o g S a c x) {p : Nat} (p2 : p < 120) (x1 : 0 ≤ x) (x2 : x ≤ 120) (hI : MI b g h) (hX : PX b o h P W D U V) : YM l G mX3_bringIn 2 0 0 [vr (b + o), vi (p : Int)] h n (PLX b o g n (fun j => S j || decide (j = p)) a c x P W D (biU P (fun j => S j || decide (j = p)) U p x.toNat) (biV P (fun j => S j || decide (j = p)) V p x.toNat)) := by
  refine YM.of kX3_bringIn (Nat.le_of_ble_eq_true rfl) (L0 := [some (vr (b + o)), some (vi (p : Int)), none]) rfl ?_
  obtain ⟨⟨ho, hw1, hw2, hw3⟩, hp, ⟨lo, hi, hL, hLb⟩, hFF⟩ := id hf
  refine y_run kX3_bringIn rfl ?_
  refine m_get kX3_bringIn (o) hI hp ?_ (t0 ho)
  refine y_run kX3_bringIn rfl ?_
  refine y_cv kX3_bringIn kX0_add 1 rfl (hI.x (k := o + 4) (t4 ho) hL) (by decide +kernel) (c_Nadd (hf.na hI) (v := (p : Int)) (by omega) (by omega)) rfl rfl ?_
  rintro _ h1 _ ⟨rfl, hu, rfl⟩
  obtain ⟨g1, hs, hf, hI⟩ := NU.pl hf hI hu
  replace hX := hX.on (h' := h1) (fun k hk => hu.ne (by omega))
  obtain ⟨⟨ho, hw1, hw2, hw3⟩, hp, ⟨lo, hi, hL, hLb⟩, ⟨Fb, hFb, hFb2⟩, ⟨Fa, hFa, hFa2⟩⟩ := id hf
  refine y_run kX3_bringIn rfl ?_
  refine m_get kX3_bringIn (o) hI hp ?_ (t0 ho)
  refine y_run kX3_bringIn rfl ?_
  refine y_qa kX3_bringIn rfl (hI.x (k := o + 5) (t5 ho) hFb) rfl (by omega) (by omega) (hFb2 _ (by omega)) ?_
  obtain ⟨y1, y2, e1⟩ := (hX.2.2.2.1 (p : Int).toNat (by omega)).ob
  refine y_cv kX3_bringIn kX0_clear 0 rfl e1 (by decide +kernel) (c_Nclear (hX.2.2.2.1 (p : Int).toNat (by omega))) rfl rfl ?_
  rintro _ h2 _ ⟨rfl, hu, rfl⟩
  replace hI := hu.mi hI (nT ho (by omega) (by omega))
  replace hX := hX.uU (by omega) hu
  refine y_run kX3_bringIn rfl ?_
  refine m_get kX3_bringIn (o) hI hp ?_ (t0 ho)
  refine y_run kX3_bringIn rfl ?_
  refine y_qa kX3_bringIn rfl (hI.x (k := o + 6) (t6 ho) hFa) rfl (by omega) (by omega) (hFa2 _ (by omega)) ?_
  obtain ⟨y1, y2, e1⟩ := (hX.2.2.2.2 (p : Int).toNat (by omega)).ob
  refine y_cv kX3_bringIn kX0_clear 0 rfl e1 (by decide +kernel) (c_Nclear (hX.2.2.2.2 (p : Int).toNat (by omega))) rfl rfl ?_
  rintro _ h3 _ ⟨rfl, hu, rfl⟩
  replace hI := hu.mi hI (nT ho (by omega) (by omega))
  replace hX := hX.uV (by omega) hu
  refine y_run kX3_bringIn rfl ?_
  have es : (fun j => S j || decide (j = (p : Int).toNat)) = (fun j => S j || decide (j = p)) := by rw [Int.toNat_natCast]
  rw [es] at hf
  refine YW.Le (congrArg (fun z : Int => [some (vr (b + o)), some (vi (p : Int)), some (vi z)]) (show (0 : Int) = ((0 : Nat) : Int) by omega)) ?_
  refine s_bringInE hf p2 x1 x2 hs (x.toNat + 1) 0 _ (by omega) (by omega) hI (hX.cg (fun i j _ _ => ?_) (fun i j _ _ => ?_))
  · unfold biU
    by_cases e : i = p
    · subst e
      rw [Int.toNat_natCast, upS_eq, if_pos rfl]
      simp
    · rw [Int.toNat_natCast, upS_ne _ _ e, if_neg e, if_neg (by omega)]
  · unfold biV
    by_cases e : i = p
    · subst e
      rw [Int.toNat_natCast, upS_eq, if_pos rfl]
      simp
    · rw [Int.toNat_natCast, upS_ne _ _ e, if_neg e, if_neg (by omega)]
end C80g
