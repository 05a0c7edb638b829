def PQv (b : Nat) (g0 : yH) (n : Nat) : Option xV → yH → Nat → Prop := fun r h' n' => ∃ g' ce1 ce2 pw la, r = none ∧ SQ b g0 g' ∧ QF b g' ce1 ce2 pw la ∧ MI b g' h' ∧ n' = n
section C83
variable {l : Launch} {G : xG} {h : yH} {n : Nat}
theorem w_cuts {b o : Nat} {g : yH} {S : Nat → Bool} {a c x : Int} (hf : PF b o g S a c x)  (hI : MI b g h) : YM l G mX3_cuts 0 0 0 [vr (b + o)] h n (PZ b g n (-2147483648) 2147483647) := by
  refine YM.of kX3_cuts (Nat.le_of_ble_eq_true rfl) (L0 := [some (vr (b + o))]) rfl ?_
  obtain ⟨ho, hp, ⟨lo, hi, hL, hLb⟩, ⟨Fb, hFb, hFb2⟩, ⟨Fa, hFa, hFa2⟩⟩ := id hf
  refine y_run kX3_cuts rfl ?_
  refine m_get kX3_cuts (o) hI hp ?_ (t0 ho)
  refine y_run kX3_cuts rfl ?_
  refine YW.nr1 ?_
  exact y_ir kX3_cuts rfl rfl ⟨_, rfl, (nrm_rng _).1, (nrm_rng _).2, hI, rfl⟩
theorem s_boxesCut {b o : Nat} {g : yH} {S : Nat → Bool} {a c x : Int} (hf : PF b o g S a c x) (x1 : 24 ≤ x) (x2 : x ≤ 120) : ∀ (m : Nat) (q : Int) (z : Int) (h : yH), (x - q).toNat < m → 24 ≤ q → q ≤ x → MI b g h → YW l G mX3_boxesCut 1 0 0 (PZ b g n (-2147483648) 2147483647) 5 [some (vr (b + o)), some (vi z), some (vi q)] [] h n := by
  intro m
  induction m with
  | zero => intro q z h hm; exact absurd hm (Nat.not_lt_zero _)
  | succ m ih =>
    intro q z h hmm j0 j1 hI
    obtain ⟨ho, hp, ⟨lo, hi, hL, hLb⟩, ⟨Fb, hFb, hFb2⟩, ⟨Fa, hFa, hFa2⟩⟩ := id hf
    refine y_run kX3_boxesCut rfl ?_
    refine m_get kX3_boxesCut (o) hI hp ?_ (t0 ho)
    refine y_ic_ge kX3_boxesCut rfl rfl (fun c1 => ?_) (fun c1 => ?_)
    · refine y_run kX3_boxesCut rfl ?_
      refine y_cs kX3_boxesCut kJ6_bitCount_0f7a4 1 rfl (by decide +kernel) (c_Ibit _) rfl rfl ?_
      rintro _ _ _ ⟨rfl, rfl, rfl⟩
      refine YW.nr1 ?_
      exact y_ir kX3_boxesCut rfl rfl ⟨_, rfl, (nrm_rng _).1, (nrm_rng _).2, hI, rfl⟩
    · refine y_run kX3_boxesCut rfl ?_
      refine m_get kX3_boxesCut (o) hI hp ?_ (t0 ho)
      refine y_run kX3_boxesCut rfl ?_
      refine m_ia kX3_boxesCut (o + 2) hI (t2 ho) (fun v2 v2a v2b => ?_)
      refine y_run kX3_boxesCut rfl ?_
      exact ih _ _ _ (by omega) (by omega) (by omega) hI
theorem w_boxesCut {b o : Nat} {g : yH} {S : Nat → Bool} {a c x : Int} (hf : PF b o g S a c x) (x1 : 24 ≤ x) (x2 : x ≤ 120) (hI : MI b g h) : YM l G mX3_boxesCut 1 0 0 [vr (b + o)] h n (PZ b g n (-2147483648) 2147483647) := by
  refine YM.of kX3_boxesCut (Nat.le_of_ble_eq_true rfl) (L0 := [some (vr (b + o)), none, none]) rfl ?_
  obtain ⟨ho, hp, ⟨lo, hi, hL, hLb⟩, ⟨Fb, hFb, hFb2⟩, ⟨Fa, hFa, hFa2⟩⟩ := id hf
  refine y_run kX3_boxesCut rfl ?_
  exact s_boxesCut hf x1 x2 _ 24 0 _ (Nat.lt_succ_self _) (by omega) (by omega) hI
theorem w_howMany {b : Nat} {g : yH} {t : Int} {E K R T : Nat → Int} (hsc : SF b g t E K R T)  (hI : MI b g h) : YM l G mX5_howMany 1 0 0 [vr (b + 1)] h n (PZ b g n (-2147483648) 2147483647) := by
  refine YM.of kX5_howMany (Nat.le_of_ble_eq_true rfl) (L0 := [some (vr (b + 1))]) rfl ?_
  refine y_run kX5_howMany rfl ?_
  refine m_get kX5_howMany (1) hI hsc.1.1 ?_
  refine y_cs kX5_howMany kJ6_bitCount_0f7a4 1 rfl (by decide +kernel) (c_Ibit _) rfl rfl ?_
  rintro _ _ _ ⟨rfl, rfl, rfl⟩
  refine YW.nr1 ?_
  exact y_ir kX5_howMany rfl rfl ⟨_, rfl, (nrm_rng _).1, (nrm_rng _).2, hI, rfl⟩
theorem s_howMany {b : Nat} {g : yH}  : ∀ (m : Nat) (q : Int) (z : Int) (h : yH), (32 - q).toNat < m → -32 ≤ q → q ≤ 32 → 0 ≤ z → z ≤ 200 * (q + 32) → MI b g h → YW l G mX1_howManyPixels 2 0 0 (PZ b g n (-2147483648) 2147483647) 7 [some (vr (b + 16)), some (vi z), some (vi q)] [] h n := by
  intro m
  induction m with
  | zero => intro q z h hm; exact absurd hm (Nat.not_lt_zero _)
  | succ m ih =>
    intro q z h hmm j0 j1 j2 j3 hI
    refine y_run kX1_howManyPixels rfl ?_
    refine m_getO5 kX1_howManyPixels (16) hI rfl (fun v1 v1a v1b => ?_)
    refine y_ic_gt kX1_howManyPixels rfl rfl (fun c1 => ?_) (fun c1 => ?_)
    · refine y_run kX1_howManyPixels rfl ?_
      exact y_ir kX1_howManyPixels rfl rfl ⟨_, rfl, by omega, by omega, hI, rfl⟩
    · refine y_run kX1_howManyPixels rfl ?_
      obtain ⟨_, _, _, _, _, _, ev2, _⟩ := hI.o (k := 16) rfl
      refine y_cv kX1_howManyPixels kX1_lastJ 1 rfl ev2 (by decide +kernel) (w_OlastJ hI rfl (by omega) (by omega)) rfl rfl ?_
      rintro _ h _ ⟨v2, rfl, v2a, v2b, hI, rfl⟩
      refine y_run kX1_howManyPixels rfl ?_
      obtain ⟨_, _, _, _, _, _, ev3, _⟩ := hI.o (k := 16) rfl
      refine y_cv kX1_howManyPixels kX1_firstJ 1 rfl ev3 (by decide +kernel) (w_OfirstJ hI rfl (by omega) (by omega)) rfl rfl ?_
      rintro _ h _ ⟨v3, rfl, v3a, v3b, hI, rfl⟩
      refine y_run kX1_howManyPixels rfl ?_
      refine y_mx kX1_howManyPixels rfl (by decide +kernel) ?_
      refine y_run kX1_howManyPixels rfl ?_
      exact ih _ _ _ (by omega) (by omega) (by omega) (by omega) (by omega) hI
theorem w_howManyPixels {b : Nat} {g : yH}  (hI : MI b g h) : YM l G mX1_howManyPixels 2 0 0 [vr (b + 16)] h n (PZ b g n (-2147483648) 2147483647) := by
  refine YM.of kX1_howManyPixels (Nat.le_of_ble_eq_true rfl) (L0 := [some (vr (b + 16)), none, none]) rfl ?_
  refine y_run kX1_howManyPixels rfl ?_
  refine m_getO4 kX1_howManyPixels (16) hI rfl (fun v1 v1a v1b => ?_)
  refine y_run kX1_howManyPixels rfl ?_
  exact s_howMany _ _ 0 _ (Nat.lt_succ_self _) (by omega) (by omega) (by omega) (by omega) hI
end C83
