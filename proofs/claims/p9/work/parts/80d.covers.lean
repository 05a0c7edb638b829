/-! covers, exactly -/
def lbP (F : Nat → Int) (p q : Int) : Prop := ∃ k : Int, 0 ≤ k ∧ k < 3 ∧ F (q * 6 + 2 * k + 1).toNat ≤ F (p * 6 + 2 * k).toNat
def hmp (o0 o1 o2 o3 o4 o5 : Int) : Nat → Int
  | 0 => 0
  | m + 1 => hmp o0 o1 o2 o3 o4 o5 m + (if o4 ≤ (m : Int) - 32 ∧ (m : Int) - 32 ≤ o5 then max 0 (min (2 * o1 - ((m : Int) - 32) - 1) (2 * o3 + ((m : Int) - 32)) - max (2 * o0 - ((m : Int) - 32)) (2 * o2 + ((m : Int) - 32) + 1) + 1) else 0)
theorem hmp_s (o0 o1 o2 o3 o4 o5 : Int) (m : Nat) : hmp o0 o1 o2 o3 o4 o5 (m + 1) = hmp o0 o1 o2 o3 o4 o5 m + (if o4 ≤ (m : Int) - 32 ∧ (m : Int) - 32 ≤ o5 then max 0 (min (2 * o1 - ((m : Int) - 32) - 1) (2 * o3 + ((m : Int) - 32)) - max (2 * o0 - ((m : Int) - 32)) (2 * o2 + ((m : Int) - 32) + 1) + 1) else 0) := rfl
theorem hmp_lo {o0 o1 o2 o3 o4 o5 : Int} : ∀ m : Nat, (m : Int) - 32 ≤ o4 → hmp o0 o1 o2 o3 o4 o5 m = 0 := by
  intro m
  induction m with
  | zero => intro _; rfl
  | succ m ih =>
    intro h
    unfold hmp
    rw [ih (by omega), if_neg (by omega)]
    rfl
theorem hmp_hi {o0 o1 o2 o3 o4 o5 : Int} {m0 : Nat} (h0 : o5 < (m0 : Int) - 32) : ∀ d : Nat, hmp o0 o1 o2 o3 o4 o5 (m0 + d) = hmp o0 o1 o2 o3 o4 o5 m0 := by
  intro d
  induction d with
  | zero => rfl
  | succ d ih =>
    rw [show m0 + (d + 1) = (m0 + d) + 1 by omega, hmp_s, ih, if_neg (by omega), Int.add_zero]
section C80d
variable {l : Launch} {G : xG} {h : yH} {n : Nat}
theorem s_lbE {N : Nat} {F : Nat → Int} {ad : Nat} {p q : Int} (ha : h ad = some (ai N F)) (hF : ∀ j, 0 ≤ F j ∧ F j ≤ 32) (p1 : 0 ≤ p) (p2 : p * 6 + 6 ≤ N) (q1 : 0 ≤ q) (q2 : q * 6 + 6 ≤ N) (hN : N ≤ 100000) : ∀ (m : Nat) (k : Int), (3 - k).toNat < m → 0 ≤ k → k ≤ 3 → (∀ j : Int, 0 ≤ j → j < k → ¬ F (q * 6 + 2 * j + 1).toNat ≤ F (p * 6 + 2 * j).toNat) → YW l G mX6_liesBeyond 0 0 0 (fun r h' n' => ((r = some (vi 1) ∧ lbP F p q) ∨ (r = some (vi 0) ∧ ¬ lbP F p q)) ∧ h' = h ∧ n' = n) 2 [some (vr ad), some (vi p), some (vi q), some (vi k)] [] h n := by
  intro m
  induction m with
  | zero => intro k hm; exact absurd hm (Nat.not_lt_zero _)
  | succ m ih =>
    intro k hm k1 k2 hn
    have f1 := hF (p * 6 + 2 * k).toNat
    have f2 := hF (q * 6 + 2 * k + 1).toNat
    refine y_run kX6_liesBeyond rfl ?_
    refine y_ic_ge kX6_liesBeyond rfl rfl (fun c1 => ?_) (fun c1 => ?_)
    · refine y_run kX6_liesBeyond rfl ?_
      exact y_zr kX6_liesBeyond rfl rfl (by omega) ⟨Or.inr ⟨rfl, fun ⟨j, j0, j1, j2⟩ => hn j j0 (by omega) j2⟩, rfl, rfl⟩
    · refine y_run kX6_liesBeyond rfl ?_
      refine y_ia kX6_liesBeyond rfl ha (by omega) (by omega) ?_
      refine y_run kX6_liesBeyond rfl ?_
      refine y_ia kX6_liesBeyond rfl ha (by omega) (by omega) ?_
      refine y_ic_lt kX6_liesBeyond rfl rfl (fun c2 => ?_) (fun c2 => ?_)
      · refine y_run kX6_liesBeyond rfl ?_
        refine ih _ (by omega) (by omega) (by omega) (fun j j0 j1 => ?_)
        by_cases e : j = k
        · subst e; omega
        · exact hn j j0 (by omega)
      · refine y_run kX6_liesBeyond rfl ?_
        exact y_zr kX6_liesBeyond rfl rfl (by omega) ⟨Or.inl ⟨rfl, k, k1, by omega, by omega⟩, rfl, rfl⟩
theorem e_lb {N : Nat} {F : Nat → Int} {ad : Nat} {p q : Int} (ha : h ad = some (ai N F)) (hF : ∀ j, 0 ≤ F j ∧ F j ≤ 32) (p1 : 0 ≤ p) (p2 : p * 6 + 6 ≤ N) (q1 : 0 ≤ q) (q2 : q * 6 + 6 ≤ N) (hN : N ≤ 100000) : YM l G mX6_liesBeyond 0 0 0 [vr ad, vi p, vi q] h n (fun r h' n' => ((r = some (vi 1) ∧ lbP F p q) ∨ (r = some (vi 0) ∧ ¬ lbP F p q)) ∧ h' = h ∧ n' = n) := by
  refine YM.of kX6_liesBeyond (Nat.le_of_ble_eq_true rfl) (L0 := [some (vr ad), some (vi p), some (vi q), none]) rfl ?_
  refine y_run kX6_liesBeyond rfl ?_
  exact s_lbE ha hF p1 p2 q1 q2 hN _ 0 (Nat.lt_succ_self _) (by omega) (by omega) (fun j j0 j1 => absurd j1 (by omega))
theorem s_hmpE {a : Nat} {o0 o1 o2 o3 o4 o5 : Int} (ha : h a = some (ob 1 [vi o0, vi o1, vi o2, vi o3, vi o4, vi o5])) (b0 : -32 ≤ o0 ∧ o0 ≤ 32) (b1 : -32 ≤ o1 ∧ o1 ≤ 32) (b2 : -32 ≤ o2 ∧ o2 ≤ 32) (b3 : -32 ≤ o3 ∧ o3 ≤ 32) (b4 : -32 ≤ o4 ∧ o4 ≤ 32) (b5 : -33 ≤ o5 ∧ o5 ≤ 31) : ∀ (m : Nat) (q : Int), (32 - q).toNat < m → o4 ≤ q → q ≤ 32 → YW l G mX1_howManyPixels 2 0 0 (fun r h' n' => r = some (vi (hmp o0 o1 o2 o3 o4 o5 64)) ∧ h' = h ∧ n' = n) 7 [some (vr a), some (vi (hmp o0 o1 o2 o3 o4 o5 (q + 32).toNat)), some (vi q)] [] h n := by
  intro m
  induction m with
  | zero => intro q hm; exact absurd hm (Nat.not_lt_zero _)
  | succ m ih =>
    intro q hmm j0 j1
    have s0 : sm o0 := ⟨by omega, by omega⟩
    have s1 : sm o1 := ⟨by omega, by omega⟩
    have s2 : sm o2 := ⟨by omega, by omega⟩
    have s3 : sm o3 := ⟨by omega, by omega⟩
    have sq : sm q := ⟨by omega, by omega⟩
    refine y_run kX1_howManyPixels rfl ?_
    refine y_get kX1_howManyPixels rfl rfl ha rfl ?_
    refine y_ic_gt kX1_howManyPixels rfl rfl (fun c1 => ?_) (fun c1 => ?_)
    · refine y_run kX1_howManyPixels rfl ?_
      have e := hmp_hi (o0 := o0) (o1 := o1) (o2 := o2) (o3 := o3) (o4 := o4) (o5 := o5) (m0 := (q + 32).toNat) (by omega) (64 - (q + 32).toNat)
      rw [show (q + 32).toNat + (64 - (q + 32).toNat) = 64 by omega] at e
      rw [← e]
      exact y_ir kX1_howManyPixels rfl rfl ⟨rfl, rfl, rfl⟩
    · have sx : hmp o0 o1 o2 o3 o4 o5 (q + 1 + 32).toNat = hmp o0 o1 o2 o3 o4 o5 (q + 32).toNat + max 0 (min (2 * o1 - q - 1) (2 * o3 + q) - max (2 * o0 - q) (2 * o2 + q + 1) + 1) := by
        rw [show (q + 1 + 32).toNat = (q + 32).toNat + 1 by omega]
        rw [hmp_s, show (((q + 32).toNat : Nat) : Int) - 32 = q by omega, if_pos (by omega)]
      have k := ih (q + 1) (by omega) (by omega) (by omega)
      rw [sx] at k
      refine y_run kX1_howManyPixels rfl ?_
      refine y_cv kX1_howManyPixels kX1_lastJ 1 rfl ha (by decide +kernel) (c_OlastJ ha ⟨s0, s1, s2, s3⟩ sq) rfl rfl ?_
      rintro _ h2 _ ⟨rfl, eh, rfl⟩
      subst eh
      refine y_run kX1_howManyPixels rfl ?_
      refine y_cv kX1_howManyPixels kX1_firstJ 1 rfl ha (by decide +kernel) (c_OfirstJ ha ⟨s0, s1, s2, s3⟩ sq) rfl rfl ?_
      rintro _ h2 _ ⟨rfl, eh, rfl⟩
      subst eh
      refine y_run kX1_howManyPixels rfl ?_
      refine y_mx kX1_howManyPixels rfl (by decide +kernel) ?_
      refine y_run kX1_howManyPixels rfl ?_
      exact k
theorem e_hmp {a : Nat} {o0 o1 o2 o3 o4 o5 : Int} (ha : h a = some (ob 1 [vi o0, vi o1, vi o2, vi o3, vi o4, vi o5])) (b0 : -32 ≤ o0 ∧ o0 ≤ 32) (b1 : -32 ≤ o1 ∧ o1 ≤ 32) (b2 : -32 ≤ o2 ∧ o2 ≤ 32) (b3 : -32 ≤ o3 ∧ o3 ≤ 32) (b4 : -32 ≤ o4 ∧ o4 ≤ 32) (b5 : -33 ≤ o5 ∧ o5 ≤ 31) : YM l G mX1_howManyPixels 2 0 0 [vr a] h n (fun r h' n' => r = some (vi (hmp o0 o1 o2 o3 o4 o5 64)) ∧ h' = h ∧ n' = n) := by
  refine YM.of kX1_howManyPixels (Nat.le_of_ble_eq_true rfl) (L0 := [some (vr a), none, none]) rfl ?_
  refine y_run kX1_howManyPixels rfl ?_
  refine y_get kX1_howManyPixels rfl rfl ha rfl ?_
  refine y_run kX1_howManyPixels rfl ?_
  have k := s_hmpE (l := l) (G := gT G) (n := n) ha b0 b1 b2 b3 b4 b5 65 o4 (by omega) (by omega) (by omega)
  rw [hmp_lo (o4 + 32).toNat (by omega)] at k
  exact k
/-- how many pixels both outlines have -/
def cvN (E : Nat → Int) (p q : Int) : Int := hmp (max (E (p * 6).toNat - E (p * 6 + 5).toNat) (E (q * 6).toNat - E (q * 6 + 5).toNat)) (min (E (p * 6 + 1).toNat - E (p * 6 + 4).toNat) (E (q * 6 + 1).toNat - E (q * 6 + 4).toNat)) (max (E (p * 6 + 2).toNat - E (p * 6 + 5).toNat) (E (q * 6 + 2).toNat - E (q * 6 + 5).toNat)) (min (E (p * 6 + 3).toNat - E (p * 6 + 4).toNat) (E (q * 6 + 3).toNat - E (q * 6 + 4).toNat)) (max (E (p * 6).toNat - E (p * 6 + 3).toNat) (E (q * 6).toNat - E (q * 6 + 3).toNat)) (min (E (p * 6 + 1).toNat - E (p * 6 + 2).toNat - 1) (E (q * 6 + 1).toNat - E (q * 6 + 2).toNat - 1)) 64
set_option maxHeartbeats 2000000 in
theorem e_covers {b : Nat} {g : yH} {t : Int} {E K R T : Nat → Int} (hc : CB b g t E K R T) {p q : Int} (hp : inI p) (hq0 : inI q) (hI : MI b g h) : YM l G mX6_covers 3 0 0 [vr b, vi p, vi q] h n (fun r h' n' => ∃ z, r = some (vi z) ∧ MI b g h' ∧ n' = n ∧ ((¬ (isT t p ∧ isT t q ∧ p ≠ q) ∧ z = -1) ∨ ((isT t p ∧ isT t q ∧ p ≠ q) ∧ ((¬ lbP E p q ∧ z = 0) ∨ (lbP E p q ∧ z = cvN E p q))))) := by
  refine YM.of kX6_covers (Nat.le_of_ble_eq_true rfl) (L0 := [some (vr b), some (vi p), some (vi q)]) rfl ?_
  obtain ⟨⟨o1, o2, dr, ho12, hx, d1, d2⟩, hp20, hp270, hqq, hsc⟩ := id hc
  have hE := hsc.2.1
  have sc := hI.sc hsc.1
  unfold inI at hp hq0
  refine y_run kX6_covers rfl ?_
  refine m_get kX6_covers (0) hI hx ?_
  refine y_run kX6_covers rfl ?_
  refine y_cv kX6_covers kX5_has 1 rfl sc.1 (by decide +kernel) (c_Shas sc hp) rfl rfl ?_
  rintro _ h2 _ ⟨rfl, eh, rfl⟩
  subst eh
  refine y_beq kX6_covers rfl rfl (fun c1 => ?_) (fun c1 => ?_)
  · refine y_run kX6_covers rfl ?_
    exact y_ir kX6_covers rfl rfl ⟨_, rfl, hI, rfl, Or.inl ⟨fun k => c1 k.1, rfl⟩⟩
  · refine y_run kX6_covers rfl ?_
    refine m_get kX6_covers (0) hI hx ?_
    refine y_run kX6_covers rfl ?_
    refine y_cv kX6_covers kX5_has 1 rfl sc.1 (by decide +kernel) (c_Shas sc hq0) rfl rfl ?_
    rintro _ h2 _ ⟨rfl, eh, rfl⟩
    subst eh
    refine y_beq kX6_covers rfl rfl (fun c2 => ?_) (fun c2 => ?_)
    · refine y_run kX6_covers rfl ?_
      exact y_ir kX6_covers rfl rfl ⟨_, rfl, hI, rfl, Or.inl ⟨fun k => c2 k.2.1, rfl⟩⟩
    · refine y_run kX6_covers rfl ?_
      refine y_ic_ne kX6_covers rfl rfl (fun c3 => ?_) (fun c3 => ?_)
      · have all : isT t p ∧ isT t q ∧ p ≠ q := ⟨c1, c2, c3⟩
        refine y_run kX6_covers rfl ?_
        refine m_get kX6_covers (0) hI hx ?_
        refine m_get kX6_covers (1) hI hsc.1.1 ?_
        refine y_run kX6_covers rfl ?_
        refine y_cs kX6_covers kX6_liesBeyond 3 rfl (by decide +kernel) (e_lb sc.2.1 hE (by omega) (by omega) (by omega) (by omega) (by omega)) rfl rfl ?_
        rintro _ h2 _ ⟨⟨rfl, hl⟩ | ⟨rfl, hl⟩, eh, rfl⟩
        · subst eh
          refine y_if_ne kX6_covers rfl rfl (fun _ => ?_) (fun e => absurd e (by omega))
          have p0 := hE (p * 6).toNat
          have p1 := hE (p * 6 + 1).toNat
          have p2 := hE (p * 6 + 2).toNat
          have p3 := hE (p * 6 + 3).toNat
          have p4 := hE (p * 6 + 4).toNat
          have p5 := hE (p * 6 + 5).toNat
          have q0 := hE (q * 6).toNat
          have q1 := hE (q * 6 + 1).toNat
          have q2 := hE (q * 6 + 2).toNat
          have q3 := hE (q * 6 + 3).toNat
          have q4 := hE (q * 6 + 4).toNat
          have q5 := hE (q * 6 + 5).toNat
          refine y_run kX6_covers rfl ?_
          refine m_get kX6_covers (0) hI hx ?_
          refine y_run kX6_covers rfl ?_
          refine m_get kX6_covers (0) hI hx ?_
          refine m_get kX6_covers (1) hI hsc.1.1 ?_
          refine y_run kX6_covers rfl ?_
          obtain ⟨_, _, _, _, _, _, ev4, _⟩ := hI.o (k := 16) rfl
          refine y_cv kX6_covers kX1_setTo 2 rfl ev4 (by decide +kernel) (c_OsetTo ev4 sc.2.1 (by omega) (by omega) (by omega) (by omega) ⟨rfl, rfl, rfl, rfl, rfl, rfl⟩) rfl rfl ?_
          rintro _ h2 _ ⟨rfl, eh, rfl⟩
          subst eh
          refine YW.genP (P := fun x => MI b g x ∧ x (b + 16) = some (ob 1 [vi (E (p * 6).toNat - E (p * 6 + 5).toNat), vi (E (p * 6 + 1).toNat - E (p * 6 + 4).toNat), vi (E (p * 6 + 2).toNat - E (p * 6 + 5).toNat), vi (E (p * 6 + 3).toNat - E (p * 6 + 4).toNat), vi (E (p * 6).toNat - E (p * 6 + 3).toNat), vi (E (p * 6 + 1).toNat - E (p * 6 + 2).toNat - 1)])) ⟨hI.up (k := 16) rfl ⟨_, _, _, _, _, _, rfl, by omega, by omega, by omega, by omega, by omega, by omega, by omega⟩, yup_eq _ _ _⟩ (fun h3 ⟨hI3, e16⟩ => ?_)
          have sc3 := hI3.sc hsc.1
          refine y_run kX6_covers rfl ?_
          refine m_get kX6_covers (0) hI3 hx ?_
          refine y_run kX6_covers rfl ?_
          refine m_get kX6_covers (0) hI3 hx ?_
          refine m_get kX6_covers (1) hI3 hsc.1.1 ?_
          refine y_run kX6_covers rfl ?_
          obtain ⟨_, _, _, _, _, _, ev5, _⟩ := hI3.o (k := 17) rfl
          refine y_cv kX6_covers kX1_setTo 2 rfl ev5 (by decide +kernel) (c_OsetTo ev5 sc3.2.1 (by omega) (by omega) (by omega) (by omega) ⟨rfl, rfl, rfl, rfl, rfl, rfl⟩) rfl rfl ?_
          rintro _ h2 _ ⟨rfl, eh, rfl⟩
          subst eh
          refine YW.genP (P := fun x => MI b g x ∧ x (b + 16) = some (ob 1 [vi (E (p * 6).toNat - E (p * 6 + 5).toNat), vi (E (p * 6 + 1).toNat - E (p * 6 + 4).toNat), vi (E (p * 6 + 2).toNat - E (p * 6 + 5).toNat), vi (E (p * 6 + 3).toNat - E (p * 6 + 4).toNat), vi (E (p * 6).toNat - E (p * 6 + 3).toNat), vi (E (p * 6 + 1).toNat - E (p * 6 + 2).toNat - 1)]) ∧ x (b + 17) = some (ob 1 [vi (E (q * 6).toNat - E (q * 6 + 5).toNat), vi (E (q * 6 + 1).toNat - E (q * 6 + 4).toNat), vi (E (q * 6 + 2).toNat - E (q * 6 + 5).toNat), vi (E (q * 6 + 3).toNat - E (q * 6 + 4).toNat), vi (E (q * 6).toNat - E (q * 6 + 3).toNat), vi (E (q * 6 + 1).toNat - E (q * 6 + 2).toNat - 1)])) ⟨hI3.up (k := 17) rfl ⟨_, _, _, _, _, _, rfl, by omega, by omega, by omega, by omega, by omega, by omega, by omega⟩, (yup_ne _ _ (by omega)).trans e16, yup_eq _ _ _⟩ (fun h4 ⟨hI4, f16, f17⟩ => ?_)
          refine y_run kX6_covers rfl ?_
          refine m_get kX6_covers (0) hI4 hx ?_
          refine y_run kX6_covers rfl ?_
          refine m_get kX6_covers (0) hI4 hx ?_
          refine y_cv kX6_covers kX1_meet 1 rfl f16 (by decide +kernel) (c_Omeet f16 f17 (by omega) ⟨⟨by omega, by omega⟩, ⟨by omega, by omega⟩, ⟨by omega, by omega⟩, ⟨by omega, by omega⟩, ⟨by omega, by omega⟩, ⟨by omega, by omega⟩⟩ ⟨⟨by omega, by omega⟩, ⟨by omega, by omega⟩, ⟨by omega, by omega⟩, ⟨by omega, by omega⟩, ⟨by omega, by omega⟩, ⟨by omega, by omega⟩⟩) rfl rfl ?_
          rintro _ h2 _ ⟨rfl, eh, rfl⟩
          subst eh
          have hI5 := hI4.up (k := 16) rfl (e := ob 1 [vi (max (E (p * 6).toNat - E (p * 6 + 5).toNat) (E (q * 6).toNat - E (q * 6 + 5).toNat)), vi (min (E (p * 6 + 1).toNat - E (p * 6 + 4).toNat) (E (q * 6 + 1).toNat - E (q * 6 + 4).toNat)), vi (max (E (p * 6 + 2).toNat - E (p * 6 + 5).toNat) (E (q * 6 + 2).toNat - E (q * 6 + 5).toNat)), vi (min (E (p * 6 + 3).toNat - E (p * 6 + 4).toNat) (E (q * 6 + 3).toNat - E (q * 6 + 4).toNat)), vi (max (E (p * 6).toNat - E (p * 6 + 3).toNat) (E (q * 6).toNat - E (q * 6 + 3).toNat)), vi (min (E (p * 6 + 1).toNat - E (p * 6 + 2).toNat - 1) (E (q * 6 + 1).toNat - E (q * 6 + 2).toNat - 1))]) ⟨_, _, _, _, _, _, rfl, by omega, by omega, by omega, by omega, by omega, by omega, by omega⟩
          refine y_run kX6_covers rfl ?_
          refine m_get kX6_covers (0) hI5 hx ?_
          refine y_cv kX6_covers kX1_howManyPixels 0 rfl (yup_eq _ _ _) (by decide +kernel) (e_hmp (yup_eq _ _ _) (by omega) (by omega) (by omega) (by omega) (by omega) (by omega)) rfl rfl ?_
          rintro _ h2 _ ⟨rfl, eh, rfl⟩
          subst eh
          exact y_ir kX6_covers rfl rfl ⟨_, rfl, hI5, rfl, Or.inr ⟨all, Or.inr ⟨hl, rfl⟩⟩⟩
        · subst eh
          refine y_if_ne kX6_covers rfl rfl (fun e => absurd rfl e) (fun _ => ?_)
          refine y_run kX6_covers rfl ?_
          exact y_ir kX6_covers rfl rfl ⟨_, rfl, hI, rfl, Or.inr ⟨all, Or.inl ⟨hl, rfl⟩⟩⟩
      · refine y_run kX6_covers rfl ?_
        exact y_ir kX6_covers rfl rfl ⟨_, rfl, hI, rfl, Or.inl ⟨fun k => k.2.2 c3, rfl⟩⟩
end C80d
