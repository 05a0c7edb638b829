theorem NU.na {h h' : yH} {a : Nat} {S : Nat → Bool} (hu : NU h h' a S) : NA h' a S := by
  obtain ⟨x, y, rfl, hb⟩ := hu
  exact ⟨x, y, yup_eq _ _ _, hb⟩
theorem NU.ne {h h' : yH} {a q : Nat} {S : Nat → Bool} (hu : NU h h' a S) (hq : q ≠ a) : h' q = h q := by
  obtain ⟨x, y, rfl, hb⟩ := hu
  exact yup_ne _ _ hq
theorem NA.on {h h' : yH} {a : Nat} {S : Nat → Bool} (hn : NA h a S) (hq : h' a = h a) : NA h' a S := by
  obtain ⟨x, y, e, hb⟩ := hn
  exact ⟨x, y, hq.trans e, hb⟩
theorem NA.ob {h : yH} {a : Nat} {S : Nat → Bool} (hn : NA h a S) : ∃ x y : Int64, h a = some (ob 0 [vl x, vl y]) := by
  obtain ⟨x, y, e, _⟩ := hn
  exact ⟨x, y, e⟩
section C75
variable {l : Launch} {G : xG} {h : yH} {n : Nat}
theorem s_follow {b o : Nat} {g : yH} {S : Nat → Bool} {a c x : Int} (hf : PF b o g S a c x) (hS : ∀ k, S k = true → k < 120) {kr ε φ : Nat} {Fr : Nat → Option Nat} {p : Int} (hk : rTb kr = none) (hr : g (b + kr) = some (aq 3 120 Fr)) (hr2 : ∀ k, k < 120 → Fr k = some (b + (o + (ε + 2 * k)))) (hε : ε = 10 ∨ ε = 11) (hφ : φ = 7 ∨ φ = 8) : ∀ (m : Nat) (q : Int) (u5 : Option xV) (S9 : Nat → Bool) (h : yH), (120 - q).toNat < m → 0 ≤ q → q ≤ 120 → NA h (b + (o + 9)) S9 → (∀ k, k < 128 → S9 k = true → S k = true) → MI b g h → YW l G mX3_follow 2 0 0 (PV b g n) 28 [some (vr (b + o)), some (vr (b + kr)), some (vi p), some (vr (b + (o + φ))), some (vi q), u5] [] h n := by
  intro m
  induction m with
  | zero => intro q u5 S9 h hm; exact absurd hm (Nat.not_lt_zero _)
  | succ m ih =>
    intro q u5 S9 h hmm j0 j1 hN hsub hI
    obtain ⟨⟨ho, hw1, hw2, hw3⟩, hp, ⟨lo, hi, hL, hLb⟩, ⟨Fb, hFb, hFb2⟩, ⟨Fa, hFa, hFa2⟩⟩ := id hf
    refine y_run kX3_follow rfl ?_
    refine y_ic_ge kX3_follow rfl rfl (fun c1 => ?_) (fun c1 => ?_)
    · exact y_vr kX3_follow rfl rfl ⟨rfl, hI, rfl⟩
    · refine y_run kX3_follow rfl ?_
      refine m_get kX3_follow (o) hI hp ?_ (t0 ho)
      obtain ⟨x9, y9, e9⟩ := hN.ob
      refine y_cv kX3_follow kX0_isEmpty 0 rfl e9 (by decide +kernel) (c_NisEmpty hN) rfl rfl ?_
      rintro _ _ _ ⟨⟨rfl, q1⟩ | ⟨rfl, q1⟩, rfl, rfl⟩
      · refine y_if_ne kX3_follow rfl rfl (fun _ => ?_) (fun q => absurd q (by omega))
        exact y_vr kX3_follow rfl rfl ⟨rfl, hI, rfl⟩
      · refine y_if_ne kX3_follow rfl rfl (fun q => absurd rfl q) (fun _ => ?_)
        refine y_run kX3_follow rfl ?_
        refine m_get kX3_follow (o) hI hp ?_ (t0 ho)
        refine y_cv kX3_follow kX0_lowest 0 rfl e9 (by decide +kernel) (c_Nlowest hN q1) rfl rfl ?_
        rintro _ _ _ ⟨⟨k, k1, k2, k3, rfl⟩, rfl, rfl⟩
        have k4 : k < 120 := hS k (hsub k k1 k2)
        refine y_run kX3_follow rfl ?_
        obtain ⟨xf, yf, ef⟩ := hI.n (k := o + φ) (nT ho (by omega) (by omega))
        refine y_cv kX3_follow kX0_add 1 rfl ef (by decide +kernel) (c_Nadd (NA_any ef) (v := (k : Int)) (by omega) (by omega)) rfl rfl ?_
        rintro _ h1 _ ⟨rfl, hu, rfl⟩
        replace hI := hu.mi hI (nT ho (by omega) (by omega))
        replace hN := hN.on (hu.ne (by omega))
        refine y_run kX3_follow rfl ?_
        refine m_get kX3_follow (o) hI hp ?_ (t0 ho)
        refine y_run kX3_follow rfl ?_
        refine y_qa kX3_follow rfl (hI.x (k := kr) hk hr) rfl (by omega) (by omega) (hr2 _ (by omega)) ?_
        obtain ⟨x9, y9, e9⟩ := hN.ob
        obtain ⟨xr, yr, er⟩ := hI.n (k := o + (ε + 2 * (k : Int).toNat)) (nT ho (by omega) (by omega))
        refine y_cv kX3_follow kX0_addAll 1 rfl e9 (by decide +kernel) (c_NaddAll hN (NA_any er) (by omega)) rfl rfl ?_
        rintro _ h2 _ ⟨rfl, hu, rfl⟩
        replace hI := hu.mi hI (nT ho (by omega) (by omega))
        have hN := hu.na
        refine y_run kX3_follow rfl ?_
        refine m_get kX3_follow (o) hI hp ?_ (t0 ho)
        refine y_run kX3_follow rfl ?_
        refine m_get kX3_follow (o) hI hp ?_ (t0 ho)
        obtain ⟨x9, y9, e9⟩ := hN.ob
        refine y_cv kX3_follow kX0_keepThoseIn 1 rfl e9 (by decide +kernel) (c_NkeepThoseIn hN (hf.na hI) (by omega)) rfl rfl ?_
        rintro _ h3 _ ⟨rfl, hu, rfl⟩
        replace hI := hu.mi hI (nT ho (by omega) (by omega))
        have hN := hu.na
        refine y_run kX3_follow rfl ?_
        refine m_get kX3_follow (o) hI hp ?_ (t0 ho)
        refine y_run kX3_follow rfl ?_
        obtain ⟨x9, y9, e9⟩ := hN.ob
        obtain ⟨xf, yf, ef⟩ := hI.n (k := o + φ) (nT ho (by omega) (by omega))
        refine y_cv kX3_follow kX0_removeAll 1 rfl e9 (by decide +kernel) (c_NremoveAll hN (NA_any ef) (by omega)) rfl rfl ?_
        rintro _ h4 _ ⟨rfl, hu, rfl⟩
        replace hI := hu.mi hI (nT ho (by omega) (by omega))
        have hN := hu.na
        refine y_run kX3_follow rfl ?_
        refine ih _ _ _ _ (by omega) (by omega) (by omega) hN (fun k' _ hk' => ?_) hI
        simp only [Bool.and_eq_true] at hk'
        exact hk'.1.2
theorem w_follow {b o : Nat} {g : yH} {S : Nat → Bool} {a c x : Int} (hf : PF b o g S a c x) (hS : ∀ k, S k = true → k < 120) {kr ε φ : Nat} {Fr : Nat → Option Nat} {p : Int} (hk : rTb kr = none) (hr : g (b + kr) = some (aq 3 120 Fr)) (hr2 : ∀ k, k < 120 → Fr k = some (b + (o + (ε + 2 * k)))) (hε : ε = 10 ∨ ε = 11) (hφ : φ = 7 ∨ φ = 8) (p1 : 0 ≤ p) (p2 : p < 120) (hI : MI b g h) : YM l G mX3_follow 2 0 0 [vr (b + o), vr (b + kr), vi p, vr (b + (o + φ))] h n (PV b g n) := by
  refine YM.of kX3_follow (Nat.le_of_ble_eq_true rfl) (L0 := [some (vr (b + o)), some (vr (b + kr)), some (vi p), some (vr (b + (o + φ))), none, none]) rfl ?_
  obtain ⟨⟨ho, hw1, hw2, hw3⟩, hp, ⟨lo, hi, hL, hLb⟩, ⟨Fb, hFb, hFb2⟩, ⟨Fa, hFa, hFa2⟩⟩ := id hf
  refine y_run kX3_follow rfl ?_
  refine m_cvN kX3_follow kX0_clear 0 hI (nT ho (by omega) (by omega)) rfl (by decide +kernel) (w_Nclear hI (nT ho (by omega) (by omega))) rfl rfl ?_
  rintro _ h _ ⟨rfl, hI, rfl⟩
  refine y_run kX3_follow rfl ?_
  refine m_get kX3_follow (o) hI hp ?_ (t0 ho)
  refine y_run kX3_follow rfl ?_
  refine y_qa kX3_follow rfl (hI.x (k := kr) hk hr) rfl (by omega) (by omega) (hr2 _ (by omega)) ?_
  obtain ⟨x9, y9, e9⟩ := hI.n (k := o + 9) (nT ho (by omega) (by omega))
  obtain ⟨xr, yr, er⟩ := hI.n (k := o + (ε + 2 * p.toNat)) (nT ho (by omega) (by omega))
  refine y_cv kX3_follow kX0_copyFrom 1 rfl e9 (by decide +kernel) (c_NcopyFrom (NA_any e9) (NA_any er) (by omega)) rfl rfl ?_
  rintro _ h2 _ ⟨rfl, hu, rfl⟩
  replace hI := hu.mi hI (nT ho (by omega) (by omega))
  have hN := hu.na
  refine y_run kX3_follow rfl ?_
  refine m_get kX3_follow (o) hI hp ?_ (t0 ho)
  refine y_run kX3_follow rfl ?_
  refine m_get kX3_follow (o) hI hp ?_ (t0 ho)
  obtain ⟨x9, y9, e9⟩ := hN.ob
  refine y_cv kX3_follow kX0_keepThoseIn 1 rfl e9 (by decide +kernel) (c_NkeepThoseIn hN (hf.na hI) (by omega)) rfl rfl ?_
  rintro _ h3 _ ⟨rfl, hu, rfl⟩
  replace hI := hu.mi hI (nT ho (by omega) (by omega))
  have hN := hu.na
  refine y_run kX3_follow rfl ?_
  refine s_follow hf hS hk hr hr2 hε hφ _ 0 _ _ _ (Nat.lt_succ_self _) (by omega) (by omega) hN (fun k' _ hk' => ?_) hI
  simp only [Bool.and_eq_true] at hk'
  exact hk'.2
theorem w_findTangle {b o : Nat} {g : yH} {S : Nat → Bool} {a c x : Int} (hf : PF b o g S a c x) (hS : ∀ k, S k = true → k < 120) {p : Int} (p1 : 0 ≤ p) (p2 : p < 120) (hI : MI b g h) : YM l G mX3_findTangle 3 0 0 [vr (b + o), vi p] h n (PV b g n) := by
  refine YM.of kX3_findTangle (Nat.le_of_ble_eq_true rfl) (L0 := [some (vr (b + o)), some (vi p)]) rfl ?_
  obtain ⟨⟨ho, hw1, hw2, hw3⟩, hp, ⟨lo, hi, hL, hLb⟩, ⟨Fb, hFb, hFb2⟩, ⟨Fa, hFa, hFa2⟩⟩ := id hf
  refine y_run kX3_findTangle rfl ?_
  refine m_get kX3_findTangle (o) hI hp ?_ (t0 ho)
  refine y_run kX3_findTangle rfl ?_
  refine m_get kX3_findTangle (o) hI hp ?_ (t0 ho)
  refine y_cv kX3_findTangle kX3_follow 3 rfl (hI.x (k := o) (t0 ho) hp) (by decide +kernel) (w_follow (φ := 7) hf hS (t5 ho) hFb hFb2 (Or.inl rfl) (Or.inl rfl) p1 p2 hI) rfl rfl ?_
  rintro _ h _ ⟨rfl, hI, rfl⟩
  refine y_run kX3_findTangle rfl ?_
  refine m_get kX3_findTangle (o) hI hp ?_ (t0 ho)
  refine y_run kX3_findTangle rfl ?_
  refine m_get kX3_findTangle (o) hI hp ?_ (t0 ho)
  refine y_cv kX3_findTangle kX3_follow 3 rfl (hI.x (k := o) (t0 ho) hp) (by decide +kernel) (w_follow (φ := 8) hf hS (t6 ho) hFa hFa2 (Or.inr rfl) (Or.inr rfl) p1 p2 hI) rfl rfl ?_
  rintro _ h _ ⟨rfl, hI, rfl⟩
  refine y_run kX3_findTangle rfl ?_
  refine m_get kX3_findTangle (o) hI hp ?_ (t0 ho)
  refine y_run kX3_findTangle rfl ?_
  refine m_get kX3_findTangle (o) hI hp ?_ (t0 ho)
  refine m_cvN kX3_findTangle kX0_keepThoseIn 1 hI (nT ho (by omega) (by omega)) rfl (by decide +kernel) (w_Nkeep hI (nT ho (by omega) (by omega)) (nT ho (by omega) (by omega)) (by omega)) rfl rfl ?_
  rintro _ h _ ⟨rfl, hI, rfl⟩
  exact y_vr kX3_findTangle rfl rfl ⟨rfl, hI, rfl⟩
end C75
