section C76
variable {l : Launch} {G : xG} {M : xM} {d kc ks : Nat} {Φ Ψ : Option xV → yH → Nat → Prop} {h : yH} {n : Nat} {pc : Nat} {L : List (Option xV)} {st rest : List xV} {b : Nat} {g : yH}
theorem m_copy (hM : xOK M) {idx a0 a N0 N : Nat} {f : Nat → Int} {lo hi sp dp z : Int} (k : Nat) (hI : MI b g h) (hk : rTb k = some (0, N, lo, hi)) (e0 : h a0 = some (ai N0 f)) (f0 : ∀ j, lo ≤ f j ∧ f j ≤ hi) (kk : ∀ h', MI b g h' → YW l G M d kc ks Φ (pc + 3) L st h' n) (g1 : 0 ≤ sp := by omega) (g2 : 0 ≤ dp := by omega) (g3 : 0 ≤ z := by omega) (g4 : sp + z ≤ N0 := by omega) (g5 : dp + z ≤ N := by omega) (c4 : (N0 : Int) < 2147483648 := by omega) (c5 : (N : Int) < 2147483648 := by omega) (hd : xat M pc = some (.invokestatic idx, 3) := by rfl) (hl : (xmem (.methodLink M.1.cls idx arraycopyName) && (xmem (.native arraycopyName) && (xmem (.static arraycopyName) && xmem (.initialized "java/lang/System")))) = true := by decide +kernel) (ha : a = b + k := by rfl) (hd1 : 1 ≤ d := by omega) (hrest : ((mS st).map fun v => v.category).sum ≤ 8 := by exact Nat.le_of_ble_eq_true rfl) (hx : pcE (0, N, lo, hi) = true → g (b + k) = none := by first | exact fun q => absurd (show false = true from q) (by decide) | exact fun _ => (by assumption)) : YW l G M d kc ks Φ pc L (vi z :: vi dp :: vr a :: vi sp :: vr a0 :: st) h n := by
  subst ha
  obtain ⟨F, e, hF⟩ := hI.i hk
  refine y_copy hM hd hl e0 e g1 g2 g3 g4 g5 c4 c5 (kk _ (hI.up hk ⟨_, rfl, fun j => ?_⟩ hx)) hd1 hrest
  unfold cpZ
  split
  · exact f0 _
  · exact hF j
end C76
def PIv (S : Nat → Bool) (a c x : Int) : Prop := 0 ≤ a ∧ a + (crd S 128 : Int) = c ∧ c ≤ 96 ∧ 24 ≤ x ∧ x ≤ 24 + c ∧ ∀ k, S k = true → (k : Int) < x
def PPv (b o : Nat) (g : yH) (n : Nat) : Option xV → yH → Nat → Prop := fun r h' n' => ∃ g' S' a' c' x', r = none ∧ SP b o g g' ∧ PF b o g' S' a' c' x' ∧ PIv S' a' c' x' ∧ MI b g' h' ∧ n' = n
def PPz (b o : Nat) (g : yH) (n : Nat) : Option xV → yH → Nat → Prop := fun r h' n' => ∃ g' S' a' c' x' v, r = some (vi v) ∧ 0 ≤ v ∧ v ≤ 1 ∧ SP b o g g' ∧ PF b o g' S' a' c' x' ∧ PIv S' a' c' x' ∧ MI b g' h' ∧ n' = n
def SF (b : Nat) (g : yH) (t : Int) (E K R T : Nat → Int) : Prop := SC g (b + 1) t E K R T ∧ (∀ j, 0 ≤ E j ∧ E j ≤ 32) ∧ (∀ v k : Int, 0 ≤ v → v < 24 → 1 ≤ k → k < 4 → 0 ≤ K (v * 4 + k).toNat ∧ K (v * 4 + k).toNat < 8) ∧ (∀ v : Int, 0 ≤ v → v < 24 → 0 ≤ K (v * 4).toNat ∧ K (v * 4).toNat < 16) ∧ ∀ j, -2147483648 ≤ R j ∧ R j ≤ 2147483647
theorem SF.on {b : Nat} {g g' : yH} {t : Int} {E K R T : Nat → Int} (h : SF b g t E K R T) (hq : ∀ q, b + 1 ≤ q → q < b + 6 → g' q = g q) : SF b g' t E K R T := ⟨h.1.frame1 (fun q q1 q2 => hq q q1 (by omega)), h.2⟩
theorem SF.sp {b o : Nat} {g g' : yH} {t : Int} {E K R T : Nat → Int} (h : SF b g t E K R T) (ho : o = 20 ∨ o = 270) (hs : SP b o g g') : SF b g' t E K R T := h.on (fun q q1 q2 => hs q (by omega) (by omega))
theorem MI.sc {b : Nat} {g h : yH} {t : Int} {E K R T : Nat → Int} (hI : MI b g h) (hs : SC g (b + 1) t E K R T) : SC h (b + 1) t E K R T := hs.frame1 (fun q q1 q2 => hI.2 q (fun k hk => by
  rcases (show k = 1 ∨ k = 2 ∨ k = 3 ∨ k = 4 ∨ k = 5 by omega) with rfl | rfl | rfl | rfl | rfl <;> rfl))
section C77
variable {l : Launch} {G : xG} {h : yH} {n : Nat}
theorem w_Pcut {b o : Nat} {g : yH} {S : Nat → Bool} {a c x : Int} (hf : PF b o g S a c x) {p y z : Int} (hv : PIv S a c x) (cm : c < 96) (p1 : 0 ≤ p) (pS : S p.toNat = true) (y1 : 0 ≤ y) (y2 : y < 3) (z1 : 0 ≤ z) (z2 : z ≤ 32) (hI : MI b g h) : YM l G mX3_cut 3 0 0 [vr (b + o), vi p, vi y, vi z] h n (PPv b o g n) := by
  refine YM.of kX3_cut (Nat.le_of_ble_eq_true rfl) (L0 := [some (vr (b + o)), some (vi p), some (vi y), some (vi z), none]) rfl ?_
  obtain ⟨⟨ho, hw1, hw2, hw3⟩, hp, ⟨lo, hi, hL, hLb⟩, ⟨Fb, hFb, hFb2⟩, ⟨Fa, hFa, hFa2⟩⟩ := id hf
  have hs := SP.r b o g
  obtain ⟨i1, i2, i3, i4, i5, i6⟩ := id hv
  have px := i6 _ pS
  have hxS : S x.toNat = false := by
    cases q : S x.toNat with
    | false => rfl
    | true => have := i6 _ q; omega
  have hend : PIv (fun j => (S j || decide (j = p.toNat)) || decide (j = x.toNat)) a (c + 1) (x + 1) := by
    have e1 : crd (fun j => (S j || decide (j = p.toNat)) || decide (j = x.toNat)) 128 = crd S 128 + 1 := by
      rw [crd_add (S := fun j => S j || decide (j = p.toNat)) 128 (by omega) (by rw [hxS]; simp; omega), crd_same 128 pS]
    refine ⟨i1, by rw [e1]; omega, by omega, by omega, by omega, fun k hk => ?_⟩
    simp only [Bool.or_eq_true, decide_eq_true_eq] at hk
    rcases hk with (hk | hk) | hk
    · have := i6 _ hk; omega
    · omega
    · omega
  refine y_run kX3_cut rfl ?_
  refine m_get kX3_cut (o) hI hp ?_ (t0 ho)
  refine y_run kX3_cut rfl ?_
  refine m_get kX3_cut (o) hI hp ?_ (t0 ho)
  refine y_run kX3_cut rfl ?_
  refine m_pP (a' := _) (c' := _) (x' := _) kX3_cut hI hf hs (fun g h hs hf hI => ?_) ⟨_, rfl, rfl, Nat.le_of_ble_eq_true rfl⟩
  obtain ⟨⟨ho, hw1, hw2, hw3⟩, hp, ⟨lo, hi, hL, hLb⟩, ⟨Fb, hFb, hFb2⟩, ⟨Fa, hFa, hFa2⟩⟩ := id hf
  refine y_run kX3_cut rfl ?_
  refine m_get kX3_cut (o) hI hp ?_ (t0 ho)
  refine y_run kX3_cut rfl ?_
  refine m_get kX3_cut (o) hI hp ?_ (t0 ho)
  refine y_run kX3_cut rfl ?_
  obtain ⟨Fs, eS, fS⟩ := hI.i (t1 ho)
  refine m_copy kX3_cut (o + 1) hI (t1 ho) eS fS (fun h hI => ?_)
  refine y_run kX3_cut rfl ?_
  refine m_get kX3_cut (o) hI hp ?_ (t0 ho)
  refine y_run kX3_cut rfl ?_
  refine m_get kX3_cut (o) hI hp ?_ (t0 ho)
  refine y_run kX3_cut rfl ?_
  refine m_ia kX3_cut (o + 2) hI (t2 ho) (fun v1 v1a v1b => ?_)
  refine m_is kX3_cut (o + 2) hI (t2 ho) (fun h hI => ?_)
  refine y_run kX3_cut rfl ?_
  refine m_get kX3_cut (o) hI hp ?_ (t0 ho)
  refine y_run kX3_cut rfl ?_
  refine m_is kX3_cut (o + 1) hI (t1 ho) (fun h hI => ?_)
  refine y_run kX3_cut rfl ?_
  refine m_get kX3_cut (o) hI hp ?_ (t0 ho)
  refine y_run kX3_cut rfl ?_
  refine m_is kX3_cut (o + 1) hI (t1 ho) (fun h hI => ?_)
  refine y_run kX3_cut rfl ?_
  refine y_cv kX3_cut kX3_bringIn 1 rfl (hI.x (k := o) (t0 ho) hp) (by decide +kernel) (w_bringIn hf (by omega) (by omega) (by omega) (by omega) hI) rfl rfl ?_
  rintro _ h _ ⟨g, rfl, hs2, hf, hI, rfl⟩
  replace hs := hs.t hs2
  obtain ⟨⟨ho, hw1, hw2, hw3⟩, hp, ⟨lo, hi, hL, hLb⟩, ⟨Fb, hFb, hFb2⟩, ⟨Fa, hFa, hFa2⟩⟩ := id hf
  refine y_run kX3_cut rfl ?_
  refine y_cv kX3_cut kX3_bringIn 1 rfl (hI.x (k := o) (t0 ho) hp) (by decide +kernel) (w_bringIn hf (by omega) (by omega) (by omega) (by omega) hI) rfl rfl ?_
  rintro _ h _ ⟨g, rfl, hs2, hf, hI, rfl⟩
  replace hs := hs.t hs2
  obtain ⟨⟨ho, hw1, hw2, hw3⟩, hp, ⟨lo, hi, hL, hLb⟩, ⟨Fb, hFb, hFb2⟩, ⟨Fa, hFa, hFa2⟩⟩ := id hf
  refine y_run kX3_cut rfl ?_
  refine m_get kX3_cut (o) hI hp ?_ (t0 ho)
  refine y_run kX3_cut rfl ?_
  refine m_pP (a' := _) (c' := _) (x' := _) kX3_cut hI hf hs (fun g h hs hf hI => ?_) ⟨_, rfl, rfl, Nat.le_of_ble_eq_true rfl⟩
  obtain ⟨⟨ho, hw1, hw2, hw3⟩, hp, ⟨lo, hi, hL, hLb⟩, ⟨Fb, hFb, hFb2⟩, ⟨Fa, hFa, hFa2⟩⟩ := id hf
  exact y_vr kX3_cut rfl rfl ⟨_, _, _, _, _, rfl, hs, hf, hend, hI, rfl⟩
theorem s_cutOne2 {b o : Nat} {g : yH} {S : Nat → Bool} {a c x : Int} (hf : PF b o g S a c x) (hv : PIv S a c x) (cm : c < 96) {p : Int} (p1 : 0 ≤ p) (p2 : p < x) (hSp : S p.toNat = true) (kk : ∀ (u2 : Option xV) (u3 : Option xV) (h : yH), MI b g h → YW l G mX3_cutOne 4 0 0 (PPz b o g n) 71 [some (vr (b + o)), some (vi p), u2, u3] [] h n) : ∀ (m : Nat) (q : Int) (u3 : Option xV) (h : yH), (3 - q).toNat < m → 0 ≤ q → q ≤ 3 → MI b g h → YW l G mX3_cutOne 4 0 0 (PPz b o g n) 39 [some (vr (b + o)), some (vi p), some (vi q), u3] [] h n := by
  intro m
  induction m with
  | zero => intro q u3 h hm; exact absurd hm (Nat.not_lt_zero _)
  | succ m ih =>
    intro q u3 h hmm j0 j1 hI
    obtain ⟨⟨ho, hw1, hw2, hw3⟩, hp, ⟨lo, hi, hL, hLb⟩, ⟨Fb, hFb, hFb2⟩, ⟨Fa, hFa, hFa2⟩⟩ := id hf
    have hs := SP.r b o g
    obtain ⟨i1, i2, i3, i4, i5, i6⟩ := id hv
    refine y_run kX3_cutOne rfl ?_
    refine y_ic_ge kX3_cutOne rfl rfl (fun c1 => ?_) (fun c1 => ?_)
    · exact kk _ _ _  hI
    · refine y_run kX3_cutOne rfl ?_
      refine y_cv kX3_cutOne kX3_lowestPlane 2 rfl (hI.x (k := o) (t0 ho) hp) (by decide +kernel) (w_lowestPlane hf (by omega) (by omega) (by omega) (by omega) (by omega) (by omega) hI) rfl rfl ?_
      rintro _ h _ ⟨v1, rfl, v1a, v1b, hI, rfl⟩
      refine y_run kX3_cutOne rfl ?_
      refine y_ic_eq kX3_cutOne rfl rfl (fun c2 => ?_) (fun c2 => ?_)
      · refine y_run kX3_cutOne rfl ?_
        exact ih _ _ _ (by omega) (by omega) (by omega) hI
      · refine y_run kX3_cutOne rfl ?_
        refine y_cv kX3_cutOne kX3_cut 3 rfl (hI.x (k := o) (t0 ho) hp) (by decide +kernel) (w_Pcut hf hv (by omega) (by omega) hSp (by omega) (by omega) (by omega) (by omega) hI) rfl rfl ?_
        rintro _ h _ ⟨g, S, a, c, x, rfl, hs2, hf, hv, hI, rfl⟩
        replace hs := hs.t hs2
        obtain ⟨⟨ho, hw1, hw2, hw3⟩, hp, ⟨lo, hi, hL, hLb⟩, ⟨Fb, hFb, hFb2⟩, ⟨Fa, hFa, hFa2⟩⟩ := id hf
        refine y_run kX3_cutOne rfl ?_
        exact y_zr kX3_cutOne rfl rfl (by omega) ⟨_, _, _, _, _, _, rfl, by omega, by omega, hs, hf, hv, hI, rfl⟩
theorem s_cutOne1 {b o : Nat} {g : yH} {S : Nat → Bool} {a c x : Int} (hf : PF b o g S a c x) (hv : PIv S a c x) (cm : c < 96) : ∀ (m : Nat) (p : Int) (u2 : Option xV) (u3 : Option xV) (h : yH), (x - p).toNat < m → 0 ≤ p → p ≤ x → MI b g h → YW l G mX3_cutOne 4 0 0 (PPz b o g n) 13 [some (vr (b + o)), some (vi p), u2, u3] [] h n := by
  intro m
  induction m with
  | zero => intro p u2 u3 h hm; exact absurd hm (Nat.not_lt_zero _)
  | succ m ih =>
    intro p u2 u3 h hmm j0 j1 hI
    obtain ⟨⟨ho, hw1, hw2, hw3⟩, hp, ⟨lo, hi, hL, hLb⟩, ⟨Fb, hFb, hFb2⟩, ⟨Fa, hFa, hFa2⟩⟩ := id hf
    have hs := SP.r b o g
    obtain ⟨i1, i2, i3, i4, i5, i6⟩ := id hv
    refine y_run kX3_cutOne rfl ?_
    refine m_get kX3_cutOne (o) hI hp ?_ (t0 ho)
    refine y_ic_ge kX3_cutOne rfl rfl (fun c1 => ?_) (fun c1 => ?_)
    · refine y_run kX3_cutOne rfl ?_
      exact y_zr kX3_cutOne rfl rfl (by omega) ⟨_, _, _, _, _, _, rfl, by omega, by omega, hs, hf, hv, hI, rfl⟩
    · refine y_run kX3_cutOne rfl ?_
      refine m_get kX3_cutOne (o) hI hp ?_ (t0 ho)
      refine y_run kX3_cutOne rfl ?_
      refine y_cv kX3_cutOne kX0_has 1 rfl (hI.x (k := o + 4) (t4 ho) hL) (by decide +kernel) (w_Lhas hf hI (by omega) (by omega)) rfl rfl ?_
      rintro _ _ _ ⟨rfl, rfl, rfl⟩
      refine y_beq kX3_cutOne rfl rfl (fun c2 => ?_) (fun c2 => ?_)
      · refine y_run kX3_cutOne rfl ?_
        exact ih _ _ _ _ (by omega) (by omega) (by omega) hI
      · refine y_run kX3_cutOne rfl ?_
        refine y_cv kX3_cutOne kX3_findTangle 1 rfl (hI.x (k := o) (t0 ho) hp) (by decide +kernel) (w_findTangle hf (fun k hk => by have := hv.2.2.2.2.2 k hk; have := hv.2.2.1; have := hv.2.2.2.2.1; omega) (by omega) (by omega) hI) rfl rfl ?_
        rintro _ h _ ⟨rfl, hI, rfl⟩
        refine y_run kX3_cutOne rfl ?_
        exact s_cutOne2 hf hv cm (by omega) (by omega) c2 (fun u2 u3 h hI => by
          refine y_run kX3_cutOne rfl ?_
          exact ih _ _ _ _ (by omega) (by omega) (by omega) hI) _ 0 _ _ (Nat.lt_succ_self _) (by omega) (by omega) hI
theorem w_cutOne {b o : Nat} {g : yH} {S : Nat → Bool} {a c x : Int} (hf : PF b o g S a c x) (hv : PIv S a c x) (hI : MI b g h) : YM l G mX3_cutOne 4 0 0 [vr (b + o)] h n (PPz b o g n) := by
  refine YM.of kX3_cutOne (Nat.le_of_ble_eq_true rfl) (L0 := [some (vr (b + o)), none, none, none]) rfl ?_
  obtain ⟨⟨ho, hw1, hw2, hw3⟩, hp, ⟨lo, hi, hL, hLb⟩, ⟨Fb, hFb, hFb2⟩, ⟨Fa, hFa, hFa2⟩⟩ := id hf
  have hs := SP.r b o g
  obtain ⟨i1, i2, i3, i4, i5, i6⟩ := id hv
  refine y_run kX3_cutOne rfl ?_
  refine m_get kX3_cutOne (o) hI hp ?_ (t0 ho)
  refine y_run kX3_cutOne rfl ?_
  refine y_ic_lt kX3_cutOne rfl rfl (fun c1 => ?_) (fun c1 => ?_)
  · refine y_run kX3_cutOne rfl ?_
    exact s_cutOne1 hf hv (by omega) _ 0 _ _ _ (Nat.lt_succ_self _) (by omega) (by omega) hI
  · refine y_run kX3_cutOne rfl ?_
    exact y_zr kX3_cutOne rfl rfl (by omega) ⟨_, _, _, _, _, _, rfl, by omega, by omega, hs, hf, hv, hI, rfl⟩
theorem is01e {P : Prop} {r : Option xV} (hr : (r = some (vi 1) ∧ P) ∨ (r = some (vi 0) ∧ ¬ P)) : ∃ v : Int, r = some (vi v) ∧ 0 ≤ v ∧ v ≤ 1 := by
  rcases hr with ⟨rfl, _⟩ | ⟨rfl, _⟩
  · exact ⟨1, rfl, by omega, by omega⟩
  · exact ⟨0, rfl, by omega, by omega⟩
theorem PIv.out {S : Nat → Bool} {a c x : Int} (hv : PIv S a c x) {v : Int} (v1 : 0 ≤ v) (vS : S v.toNat = true) : PIv (fun j => S j && !decide (j = v.toNat)) (a + 1) c x ∧ a < c := by
  obtain ⟨i1, i2, i3, i4, i5, i6⟩ := hv
  have px := i6 _ vS
  have e := crd_rem (S := S) (v := v.toNat) 128 (by omega) vS
  refine ⟨⟨by omega, by omega, i3, i4, i5, fun k hk => ?_⟩, by omega⟩
  simp only [Bool.and_eq_true] at hk
  exact i6 k hk.1
theorem s_putInOrder {b o : Nat} {g0 : yH} : ∀ (m : Nat) (q : Int) (u2 : Option xV) (g : yH) (S : Nat → Bool) (a c x : Int) (h : yH), (192 - q).toNat < m → 0 ≤ q → q ≤ 192 → SP b o g0 g → PF b o g S a c x → PIv S a c x → MI b g h → YW l G mX3_putInOrder 5 0 0 (PPz b o g0 n) 2 [some (vr (b + o)), some (vi q), u2] [] h n := by
  intro m
  induction m with
  | zero => intro q u2 g S a c x h hm; exact absurd hm (Nat.not_lt_zero _)
  | succ m ih =>
    intro q u2 g S a c x h hmm j0 j1 hs hf hv hI
    obtain ⟨⟨ho, hw1, hw2, hw3⟩, hp, ⟨lo, hi, hL, hLb⟩, ⟨Fb, hFb, hFb2⟩, ⟨Fa, hFa, hFa2⟩⟩ := id hf
    obtain ⟨i1, i2, i3, i4, i5, i6⟩ := id hv
    refine y_run kX3_putInOrder rfl ?_
    refine y_ic_ge kX3_putInOrder rfl rfl (fun c1 => ?_) (fun c1 => ?_)
    · refine y_run kX3_putInOrder rfl ?_
      refine m_get kX3_putInOrder (o) hI hp ?_ (t0 ho)
      refine y_cv kX3_putInOrder kX0_isEmpty 0 rfl (hI.x (k := o + 4) (t4 ho) hL) (by decide +kernel) (c_NisEmpty (hf.na hI)) rfl rfl ?_
      rintro _ _ _ ⟨hr, rfl, rfl⟩
      obtain ⟨v1, rfl, v1a, v1b⟩ := is01e hr
      exact y_zr kX3_putInOrder rfl rfl (by omega) ⟨_, _, _, _, _, _, rfl, by omega, by omega, hs, hf, hv, hI, rfl⟩
    · refine y_run kX3_putInOrder rfl ?_
      refine m_get kX3_putInOrder (o) hI hp ?_ (t0 ho)
      refine y_cv kX3_putInOrder kX0_isEmpty 0 rfl (hI.x (k := o + 4) (t4 ho) hL) (by decide +kernel) (c_NisEmpty (hf.na hI)) rfl rfl ?_
      rintro _ _ _ ⟨hr, rfl, rfl⟩
      obtain ⟨v2, rfl, v2a, v2b⟩ := is01e hr
      refine y_if_ne kX3_putInOrder rfl rfl (fun c2 => ?_) (fun c2 => ?_)
      · refine y_run kX3_putInOrder rfl ?_
        refine m_get kX3_putInOrder (o) hI hp ?_ (t0 ho)
        refine y_cv kX3_putInOrder kX0_isEmpty 0 rfl (hI.x (k := o + 4) (t4 ho) hL) (by decide +kernel) (c_NisEmpty (hf.na hI)) rfl rfl ?_
        rintro _ _ _ ⟨hr, rfl, rfl⟩
        obtain ⟨v3, rfl, v3a, v3b⟩ := is01e hr
        exact y_zr kX3_putInOrder rfl rfl (by omega) ⟨_, _, _, _, _, _, rfl, by omega, by omega, hs, hf, hv, hI, rfl⟩
      · refine y_run kX3_putInOrder rfl ?_
        refine y_cv kX3_putInOrder kX3_lowestFree 0 rfl (hI.x (k := o) (t0 ho) hp) (by decide +kernel) (w_lowestFree hf (by omega) (by omega) hI) rfl rfl ?_
        rintro _ h _ ⟨v9, rfl, v9a, hI, rfl⟩
        refine y_run kX3_putInOrder rfl ?_
        refine y_ic_eq kX3_putInOrder rfl rfl (fun c3 => ?_) (fun c3 => ?_)
        · refine y_run kX3_putInOrder rfl ?_
          refine y_cv kX3_putInOrder kX3_cutOne 0 rfl (hI.x (k := o) (t0 ho) hp) (by decide +kernel) (w_cutOne hf hv hI) rfl rfl ?_
          rintro _ h _ ⟨g, S, a, c, x, v5, rfl, v5a, v5b, hs2, hf, hv, hI, rfl⟩
          replace hs := hs.t hs2
          obtain ⟨i1, i2, i3, i4, i5, i6⟩ := id hv
          obtain ⟨⟨ho, hw1, hw2, hw3⟩, hp, ⟨lo, hi, hL, hLb⟩, ⟨Fb, hFb, hFb2⟩, ⟨Fa, hFa, hFa2⟩⟩ := id hf
          refine y_if_ne kX3_putInOrder rfl rfl (fun c4 => ?_) (fun c4 => ?_)
          · refine y_run kX3_putInOrder rfl ?_
            exact ih _ _ _ _ _ _ _ _ (by omega) (by omega) (by omega) hs hf hv hI
          · refine y_run kX3_putInOrder rfl ?_
            exact y_zr kX3_putInOrder rfl rfl (by omega) ⟨_, _, _, _, _, _, rfl, by omega, by omega, hs, hf, hv, hI, rfl⟩
        · have w1 : 0 ≤ v9 ∧ v9 < x ∧ S v9.toNat = true := by
            rcases v9a with q | q
            · exact absurd q c3
            · exact q
          obtain ⟨w1, w2, w3⟩ := w1
          obtain ⟨hv, hac⟩ := hv.out w1 w3
          refine y_run kX3_putInOrder rfl ?_
          refine m_get kX3_putInOrder (o) hI hp ?_ (t0 ho)
          refine y_run kX3_putInOrder rfl ?_
          refine m_get kX3_putInOrder (o) hI hp ?_ (t0 ho)
          refine y_run kX3_putInOrder rfl ?_
          refine m_is kX3_putInOrder (o + 3) hI (t3 ho) (fun h hI => ?_)
          refine y_run kX3_putInOrder rfl ?_
          refine m_get kX3_putInOrder (o) hI hp ?_ (t0 ho)
          refine y_run kX3_putInOrder rfl ?_
          refine m_pP (a' := _) (c' := _) (x' := _) kX3_putInOrder hI hf hs (fun g h hs hf hI => ?_) ⟨_, rfl, rfl, Nat.le_of_ble_eq_true rfl⟩
          obtain ⟨⟨ho, hw1, hw2, hw3⟩, hp, ⟨lo, hi, hL, hLb⟩, ⟨Fb, hFb, hFb2⟩, ⟨Fa, hFa, hFa2⟩⟩ := id hf
          refine y_run kX3_putInOrder rfl ?_
          refine m_get kX3_putInOrder (o) hI hp ?_ (t0 ho)
          refine y_run kX3_putInOrder rfl ?_
          refine y_cv kX3_putInOrder kX0_remove 1 rfl (hI.x (k := o + 4) (t4 ho) hL) (by decide +kernel) (w_Lremove hf hI (by omega) (by omega)) rfl rfl ?_
          rintro _ h _ ⟨g, rfl, hs2, hf, hI, rfl⟩
          replace hs := hs.t hs2
          obtain ⟨⟨ho, hw1, hw2, hw3⟩, hp, ⟨lo, hi, hL, hLb⟩, ⟨Fb, hFb, hFb2⟩, ⟨Fa, hFa, hFa2⟩⟩ := id hf
          refine y_run kX3_putInOrder rfl ?_
          exact ih _ _ _ _ _ _ _ _ (by omega) (by omega) (by omega) hs hf hv hI
theorem w_putInOrder {b o : Nat} {g : yH} {S : Nat → Bool} {a c x : Int} (hf : PF b o g S a c x) (hv : PIv S a c x) (hI : MI b g h) : YM l G mX3_putInOrder 5 0 0 [vr (b + o)] h n (PPz b o g n) := by
  refine YM.of kX3_putInOrder (Nat.le_of_ble_eq_true rfl) (L0 := [some (vr (b + o)), none, none]) rfl ?_
  obtain ⟨⟨ho, hw1, hw2, hw3⟩, hp, ⟨lo, hi, hL, hLb⟩, ⟨Fb, hFb, hFb2⟩, ⟨Fa, hFa, hFa2⟩⟩ := id hf
  have hs := SP.r b o g
  refine y_run kX3_putInOrder rfl ?_
  exact s_putInOrder _ 0 _ _ _ _ _ _ _ (Nat.lt_succ_self _) (by omega) (by omega) hs hf hv hI
theorem s_load {b o : Nat} {g0 : yH} {t : Int} {E K R T : Nat → Int} (hsc0 : SF b g0 t E K R T) : ∀ (m : Nat) (q : Int) (g : yH) (S : Nat → Bool) (c : Int) (h : yH), (24 - q).toNat < m → 0 ≤ q → q ≤ 24 → SP b o g0 g → PF b o g S 0 c 24 → (crd S 128 : Int) = c → c ≤ q → (∀ k, S k = true → (k : Int) < q) → MI b g h → YW l G mX3_load 3 0 0 (PPv b o g0 n) 43 [some (vr (b + o)), some (vr (b + 1)), some (vi q)] [] h n := by
  intro m
  induction m with
  | zero => intro q g S c h hm; exact absurd hm (Nat.not_lt_zero _)
  | succ m ih =>
    intro q g S c h hmm j0 j1 hs hf hc hcq hSq hI
    obtain ⟨⟨ho, hw1, hw2, hw3⟩, hp, ⟨lo, hi, hL, hLb⟩, ⟨Fb, hFb, hFb2⟩, ⟨Fa, hFa, hFa2⟩⟩ := id hf
    have hsc := hsc0.sp ho hs
    have hqS : S q.toNat = false := by
      cases z : S q.toNat with
      | false => rfl
      | true => have := hSq _ z; omega
    have e1 := crd_add (S := S) (v := q.toNat) 128 (by omega) hqS
    have hS2 : ∀ k, (S k || decide (k = q.toNat)) = true → (k : Int) < q + 1 := fun k hk => by
      simp only [Bool.or_eq_true, decide_eq_true_eq] at hk
      rcases hk with hk | hk
      · have := hSq _ hk; omega
      · omega
    refine y_run kX3_load rfl ?_
    refine y_ic_ge kX3_load rfl rfl (fun c1 => ?_) (fun c1 => ?_)
    · exact y_vr kX3_load rfl rfl ⟨_, _, _, _, _, rfl, hs, hf, ⟨by omega, by omega, by omega, by omega, by omega, fun k hk => by have := hSq k hk; omega⟩, hI, rfl⟩
    · refine y_run kX3_load rfl ?_
      refine y_cv kX3_load kX5_has 1 rfl (hI.x (k := 1) rfl hsc.1.1) (by decide +kernel) (c_Shas (hI.sc hsc.1) ⟨by omega, by omega⟩) rfl rfl ?_
      rintro _ _ _ ⟨rfl, rfl, rfl⟩
      refine y_beq kX3_load rfl rfl (fun c2 => ?_) (fun c2 => ?_)
      · refine y_run kX3_load rfl ?_
        exact ih _ _ _ _ _ (by omega) (by omega) (by omega) hs hf hc (by omega) (fun k hk => by have := hSq k hk; omega) hI
      · refine y_run kX3_load rfl ?_
        refine m_get kX3_load (o) hI hp ?_ (t0 ho)
        refine y_run kX3_load rfl ?_
        refine m_is kX3_load (o + 2) hI (t2 ho) (fun h hI => ?_)
        refine y_run kX3_load rfl ?_
        refine y_cv kX3_load kX3_bringIn 1 rfl (hI.x (k := o) (t0 ho) hp) (by decide +kernel) (w_bringIn hf (by omega) (by omega) (by omega) (by omega) hI) rfl rfl ?_
        rintro _ h _ ⟨g, rfl, hs2, hf, hI, rfl⟩
        replace hs := hs.t hs2
        replace hsc := hsc.sp ho hs2
        obtain ⟨⟨ho, hw1, hw2, hw3⟩, hp, ⟨lo, hi, hL, hLb⟩, ⟨Fb, hFb, hFb2⟩, ⟨Fa, hFa, hFa2⟩⟩ := id hf
        refine y_run kX3_load rfl ?_
        refine m_get kX3_load (o) hI hp ?_ (t0 ho)
        refine y_run kX3_load rfl ?_
        refine m_pP (a' := _) (c' := _) (x' := _) kX3_load hI hf hs (fun g h hs hf hI => ?_) ⟨_, rfl, rfl, Nat.le_of_ble_eq_true rfl⟩
        obtain ⟨⟨ho, hw1, hw2, hw3⟩, hp, ⟨lo, hi, hL, hLb⟩, ⟨Fb, hFb, hFb2⟩, ⟨Fa, hFa, hFa2⟩⟩ := id hf
        refine y_run kX3_load rfl ?_
        exact ih _ _ _ _ _ (by omega) (by omega) (by omega) hs hf (by rw [e1]; omega) (by omega) hS2 hI
theorem w_load {b o : Nat} {g : yH} {S : Nat → Bool} {a c x : Int} (hf : PF b o g S a c x) {t : Int} {E K R T : Nat → Int} (hsc : SF b g t E K R T) (hI : MI b g h) : YM l G mX3_load 3 0 0 [vr (b + o), vr (b + 1)] h n (PPv b o g n) := by
  refine YM.of kX3_load (Nat.le_of_ble_eq_true rfl) (L0 := [some (vr (b + o)), some (vr (b + 1)), none]) rfl ?_
  obtain ⟨⟨ho, hw1, hw2, hw3⟩, hp, ⟨lo, hi, hL, hLb⟩, ⟨Fb, hFb, hFb2⟩, ⟨Fa, hFa, hFa2⟩⟩ := id hf
  have hs := SP.r b o g
  refine y_run kX3_load rfl ?_
  refine m_get kX3_load (1) hI hsc.1.1 ?_
  refine y_run kX3_load rfl ?_
  refine m_get kX3_load (o) hI hp ?_ (t0 ho)
  refine y_run kX3_load rfl ?_
  refine m_get kX3_load (1) hI hsc.1.1 ?_
  refine y_al kX3_load rfl (hI.x (k := 2) rfl hsc.1.2.1) ?_
  refine m_copy kX3_load (o + 1) hI (t1 ho) (hI.x (k := 2) rfl hsc.1.2.1) hsc.2.1 (fun h hI => ?_)
  refine y_run kX3_load rfl ?_
  refine m_get kX3_load (o) hI hp ?_ (t0 ho)
  refine y_cv kX3_load kX0_clear 0 rfl (hI.x (k := o + 4) (t4 ho) hL) (by decide +kernel) (w_Lclear hf hI) rfl rfl ?_
  rintro _ h _ ⟨g, rfl, hs2, hf, hI, rfl⟩
  replace hs := hs.t hs2
  obtain ⟨⟨ho, hw1, hw2, hw3⟩, hp, ⟨lo, hi, hL, hLb⟩, ⟨Fb, hFb, hFb2⟩, ⟨Fa, hFa, hFa2⟩⟩ := id hf
  refine y_run kX3_load rfl ?_
  refine m_pP (a' := _) (c' := _) (x' := _) kX3_load hI hf hs (fun g2 h hs hf hI => ?_) ⟨_, rfl, rfl, Nat.le_of_ble_eq_true rfl⟩
  obtain ⟨⟨ho, hw1, hw2, hw3⟩, hp, ⟨lo, hi, hL, hLb⟩, ⟨Fb, hFb, hFb2⟩, ⟨Fa, hFa, hFa2⟩⟩ := id hf
  refine y_run kX3_load rfl ?_
  refine m_pP (a' := _) (c' := _) (x' := _) kX3_load hI hf hs (fun g2 h hs hf hI => ?_) ⟨_, rfl, rfl, Nat.le_of_ble_eq_true rfl⟩
  obtain ⟨⟨ho, hw1, hw2, hw3⟩, hp, ⟨lo, hi, hL, hLb⟩, ⟨Fb, hFb, hFb2⟩, ⟨Fa, hFa, hFa2⟩⟩ := id hf
  refine y_run kX3_load rfl ?_
  refine m_pP (a' := _) (c' := _) (x' := _) kX3_load hI hf hs (fun g2 h hs hf hI => ?_) ⟨_, rfl, rfl, Nat.le_of_ble_eq_true rfl⟩
  obtain ⟨⟨ho, hw1, hw2, hw3⟩, hp, ⟨lo, hi, hL, hLb⟩, ⟨Fb, hFb, hFb2⟩, ⟨Fa, hFa, hFa2⟩⟩ := id hf
  refine y_run kX3_load rfl ?_
  exact s_load hsc _ 0 _ _ _ _ (Nat.lt_succ_self _) (by omega) (by omega) hs hf (by rw [crd_0]; rfl) (by omega) (fun k hk => by cases hk) hI
end C77
