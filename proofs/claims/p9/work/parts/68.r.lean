/-! the stage itself, as far as bounds go -/
def CX (b : Nat) (g : yH) (o1 o2 : Nat) (dr : Int) : Prop := ((o1 = 20 ∧ o2 = 270) ∨ (o1 = 270 ∧ o2 = 20)) ∧ g (b + 0) = some (bo b (b + o1) (b + o2) dr) ∧ -2147483648 ≤ dr ∧ dr ≤ 2147483647
def PJ (b o : Nat) (g : yH) : Prop := ∃ S a c x, PF0 b o g S a c x ∧ 0 ≤ a ∧ a ≤ 96 ∧ 24 ≤ x ∧ x ≤ 120
def QJ (b : Nat) (g : yH) : Prop := ∃ c1 c2 pw la, QF b g c1 c2 pw la
def CB (b : Nat) (g : yH) (t : Int) (E K R T : Nat → Int) : Prop := (∃ o1 o2 dr, CX b g o1 o2 dr) ∧ PJ b 20 g ∧ PJ b 270 g ∧ QJ b g ∧ SF b g t E K R T
/-- all is as it was, but the spare pieces -/
def SB (b : Nat) (g g' : yH) : Prop := ∀ o1 o2 dr, CX b g o1 o2 dr → SP b o2 g g'
theorem SB.r (b : Nat) (g : yH) : SB b g g := fun _ _ _ _ _ _ _ => rfl
theorem CX.eq {b : Nat} {g : yH} {o1 o2 p1 p2 : Nat} {dr ds : Int} (h1 : CX b g o1 o2 dr) (h2 : CX b g p1 p2 ds) : o1 = p1 ∧ o2 = p2 := by
  have e := h1.2.1.symm.trans h2.2.1
  unfold bo at e
  simp only [Option.some.injEq, Sum.inr.injEq, Sum.inl.injEq, Prod.mk.injEq, List.cons.injEq, true_and, and_true] at e
  have := h1.1
  have := h2.1
  omega
theorem CX.on {b : Nat} {g g' : yH} {o1 o2 : Nat} {dr : Int} (h : CX b g o1 o2 dr) (hq : g' (b + 0) = g (b + 0)) : CX b g' o1 o2 dr := ⟨h.1, hq.trans h.2.1, h.2.2⟩
theorem PJ.on {b o : Nat} {g g' : yH} (h : PJ b o g) (hq : ∀ q, b + o ≤ q → q < b + (o + 7) → g' q = g q) : PJ b o g' := by
  obtain ⟨S, a, c, x, hf, h2⟩ := h
  exact ⟨S, a, c, x, hf.on hq, h2⟩
theorem QJ.on {b : Nat} {g g' : yH} (h : QJ b g) (hq : g' (b + 8) = g (b + 8)) : QJ b g' := by
  obtain ⟨c1, c2, pw, la, h1, h2, h3⟩ := h
  exact ⟨c1, c2, pw, la, h1, h2, hq.trans h3⟩
theorem CB.sp {b o : Nat} {g g' : yH} {t : Int} {E K R T : Nat → Int} (hc : CB b g t E K R T) (ho : o = 20 ∨ o = 270) (hs : SP b o g g') (hp : PJ b o g') : CB b g' t E K R T := by
  obtain ⟨⟨o1, o2, dr, hx⟩, h20, h270, hq, hsc⟩ := hc
  refine ⟨⟨o1, o2, dr, hx.on (hs _ (by omega) (by omega))⟩, ?_, ?_, hq.on (hs _ (by omega) (by omega)), hsc.sp ho hs⟩
  · rcases ho with rfl | rfl
    · exact hp
    · exact h20.on (fun q q1 q2 => hs q (by omega) (by omega))
  · rcases ho with rfl | rfl
    · exact h270.on (fun q q1 q2 => hs q (by omega) (by omega))
    · exact hp
theorem PIv.pj {b o : Nat} {g : yH} {S : Nat → Bool} {a c x : Int} (hf : PF0 b o g S a c x) (hv : PIv S a c x) : PJ b o g := ⟨S, a, c, x, hf, hv.1, by have := hv.2.1; have := hv.2.2.1; omega, hv.2.2.2.1, by have := hv.2.2.2.2.1; have := hv.2.2.1; omega⟩
def PB (b : Nat) (g : yH) (n : Nat) (t : Int) (E K R T : Nat → Int) : Option xV → yH → Nat → Prop := fun r h' n' => ∃ g' v, r = some (vi v) ∧ SB b g g' ∧ CB b g' t E K R T ∧ MI b g' h' ∧ n' = n
theorem is01p {i j : Int} {r : Option xV} (hr : (r = some (vi 1) ∧ isPx i j) ∨ (r = some (vi 0) ∧ ¬ isPx i j)) : ∃ v : Int, r = some (vi v) ∧ 0 ≤ v ∧ v ≤ 1 ∧ (v ≠ 0 → -32 ≤ i ∧ i < 32 ∧ -64 ≤ j ∧ j < 64) := by
  rcases hr with ⟨rfl, h⟩ | ⟨rfl, _⟩
  · exact ⟨1, rfl, by omega, by omega, fun _ => h⟩
  · exact ⟨0, rfl, by omega, by omega, fun q => absurd rfl q⟩
section C84
variable {l : Launch} {G : xG} {M : xM} {d kc ks : Nat} {Φ : Option xV → yH → Nat → Prop} {h : yH} {n : Nat} {pc : Nat} {L : List (Option xV)} {st : List xV}
theorem y_lsw (hM : xOK M) {x dflt off : Int} {ps : Array (Int × Int)} {len tgt : Nat} (hd : xat M pc = some (.lookupswitch dflt ps, len)) (hp : (ps.toList.zip (ps.toList.drop 1)).all (fun (a, next) => a.1 < next.1) = true) (ho : Op.lookupswitch.offset ps.toList dflt x = off) (ht : xtg M pc off = some tgt) (k : YW l G M d kc ks Φ tgt L st h n) (b1 : -2147483648 ≤ x := by omega) (b2 : x < 2147483648 := by omega) : YW l G M d kc ks Φ pc L (vi x :: st) h n :=
  x_lsw hM hd hp (by rw [iI_toInt b1 b2]; exact ho) ht k
theorem m_getR2 (hM : xOK M) {idx a j N b : Nat} {g : yH} {lo hi : Int} (k : Nat) (hI : MI b g h) (hk : rTb k = some (4, N, lo, hi)) (kk : ∀ v, -100000 ≤ v → v ≤ 100000 → YW l G M d kc ks Φ (pc + 3) L (vi v :: st) h n) (hd : xat M pc = some (.getfield idx, 3) := by rfl) (hf : M.2.2.2.2.2.2.lookup idx = some (4, j) := by rfl) (hj : j < 4 := by exact Nat.le_of_ble_eq_true rfl) (ha : a = b + k := by rfl) : YW l G M d kc ks Φ pc L (vr a :: st) h n := m_getR hM k hI hk hj kk hd hf ha
end C84
section C85
variable {l : Launch} {G : xG} {h : yH} {n : Nat}
theorem s_nearer {b : Nat} {g : yH} {t : Int} {E K R T : Nat → Int} (hc : CB b g t E K R T) {p : Int} (p1 : 0 ≤ p) (p2 : p < 24) : ∀ (m : Nat) (q : Int) (z : Int) (h : yH), (24 - q).toNat < m → 0 ≤ q → q ≤ 24 → 0 ≤ z → z ≤ q → MI b g h → YW l G mX6_howManyNearer 0 0 0 (PZ b g n 0 24) 4 [some (vr b), some (vi p), some (vi z), some (vi q)] [] h n := by
  intro m
  induction m with
  | zero => intro q z h hm; exact absurd hm (Nat.not_lt_zero _)
  | succ m ih =>
    intro q z h hmm j0 j1 j2 j3 hI
    obtain ⟨⟨o1, o2, dr, ho12, hx, d1, d2⟩, hp20, hp270, ⟨ce1, ce2, pw, la, hq⟩, hsc⟩ := id hc
    have hP1 : PJ b o1 g := by rcases ho12 with ⟨rfl, rfl⟩ | ⟨rfl, rfl⟩ <;> assumption
    have hP2 : PJ b o2 g := by rcases ho12 with ⟨rfl, rfl⟩ | ⟨rfl, rfl⟩ <;> assumption
    obtain ⟨S1, a1, k1, x1, hf1, a11, a12, x11, x12⟩ := hP1
    obtain ⟨S2, a2, k2, x2, hf2, a21, a22, x21, x22⟩ := hP2
    obtain ⟨ho1, hp1, hr1⟩ := id hf1
    obtain ⟨ho2, hp2, hr2⟩ := id hf2
    obtain ⟨h1, h2, hq0⟩ := id hq
    refine y_run kX6_howManyNearer rfl ?_
    refine y_ic_ge kX6_howManyNearer rfl rfl (fun c1 => ?_) (fun c1 => ?_)
    · refine y_run kX6_howManyNearer rfl ?_
      exact y_ir kX6_howManyNearer rfl rfl ⟨_, rfl, by omega, by omega, hI, rfl⟩
    · refine y_run kX6_howManyNearer rfl ?_
      refine m_get kX6_howManyNearer (0) hI hx ?_
      refine y_run kX6_howManyNearer rfl ?_
      refine m_ia kX6_howManyNearer (18) hI rfl (fun v1 v1a v1b => ?_)
      refine y_run kX6_howManyNearer rfl ?_
      refine m_get kX6_howManyNearer (0) hI hx ?_
      refine y_run kX6_howManyNearer rfl ?_
      refine m_ia kX6_howManyNearer (18) hI rfl (fun v2 v2a v2b => ?_)
      refine y_ic_le kX6_howManyNearer rfl rfl (fun c2 => ?_) (fun c2 => ?_)
      · refine y_run kX6_howManyNearer rfl ?_
        exact ih _ _ _ (by omega) (by omega) (by omega) (by omega) (by omega) hI
      · refine y_run kX6_howManyNearer rfl ?_
        exact ih _ _ _ (by omega) (by omega) (by omega) (by omega) (by omega) hI
theorem w_nearer {b : Nat} {g : yH} {t : Int} {E K R T : Nat → Int} (hc : CB b g t E K R T) {p : Int} (p1 : 0 ≤ p) (p2 : p < 24) (hI : MI b g h) : YM l G mX6_howManyNearer 0 0 0 [vr b, vi p] h n (PZ b g n 0 24) := by
  refine YM.of kX6_howManyNearer (Nat.le_of_ble_eq_true rfl) (L0 := [some (vr b), some (vi p), none, none]) rfl ?_
  obtain ⟨⟨o1, o2, dr, ho12, hx, d1, d2⟩, hp20, hp270, ⟨ce1, ce2, pw, la, hq⟩, hsc⟩ := id hc
  have hP1 : PJ b o1 g := by rcases ho12 with ⟨rfl, rfl⟩ | ⟨rfl, rfl⟩ <;> assumption
  have hP2 : PJ b o2 g := by rcases ho12 with ⟨rfl, rfl⟩ | ⟨rfl, rfl⟩ <;> assumption
  obtain ⟨S1, a1, k1, x1, hf1, a11, a12, x11, x12⟩ := hP1
  obtain ⟨S2, a2, k2, x2, hf2, a21, a22, x21, x22⟩ := hP2
  obtain ⟨ho1, hp1, hr1⟩ := id hf1
  obtain ⟨ho2, hp2, hr2⟩ := id hf2
  obtain ⟨h1, h2, hq0⟩ := id hq
  refine y_run kX6_howManyNearer rfl ?_
  exact s_nearer hc p1 p2 _ 0 0 _ (Nat.lt_succ_self _) (by omega) (by omega) (by omega) (by omega) hI
theorem s_findExits {b : Nat} {g : yH} {t : Int} {E K R T : Nat → Int} (hc : CB b g t E K R T) {p y : Int} (p1 : -32 ≤ p) (p2 : p < 32) (y1 : -64 ≤ y) (y2 : y < 64) : ∀ (m : Nat) (q : Int) (h : yH), (24 - q).toNat < m → 0 ≤ q → q ≤ 24 → MI b g h → YW l G mX6_findExits 2 0 0 (PV b g n) 11 [some (vr b), some (vi p), some (vi y), some (vi q)] [] h n := by
  intro m
  induction m with
  | zero => intro q h hm; exact absurd hm (Nat.not_lt_zero _)
  | succ m ih =>
    intro q h hmm j0 j1 hI
    obtain ⟨⟨o1, o2, dr, ho12, hx, d1, d2⟩, hp20, hp270, ⟨ce1, ce2, pw, la, hq⟩, hsc⟩ := id hc
    have hP1 : PJ b o1 g := by rcases ho12 with ⟨rfl, rfl⟩ | ⟨rfl, rfl⟩ <;> assumption
    have hP2 : PJ b o2 g := by rcases ho12 with ⟨rfl, rfl⟩ | ⟨rfl, rfl⟩ <;> assumption
    obtain ⟨S1, a1, k1, x1, hf1, a11, a12, x11, x12⟩ := hP1
    obtain ⟨S2, a2, k2, x2, hf2, a21, a22, x21, x22⟩ := hP2
    obtain ⟨ho1, hp1, hr1⟩ := id hf1
    obtain ⟨ho2, hp2, hr2⟩ := id hf2
    obtain ⟨h1, h2, hq0⟩ := id hq
    refine y_run kX6_findExits rfl ?_
    refine y_ic_ge kX6_findExits rfl rfl (fun c1 => ?_) (fun c1 => ?_)
    · exact y_vr kX6_findExits rfl rfl ⟨rfl, hI, rfl⟩
    · refine y_run kX6_findExits rfl ?_
      refine m_get kX6_findExits (0) hI hx ?_
      refine y_run kX6_findExits rfl ?_
      refine m_is kX6_findExits (18) hI rfl (fun h hI => ?_)
      refine y_run kX6_findExits rfl ?_
      refine m_get kX6_findExits (0) hI hx ?_
      refine y_run kX6_findExits rfl ?_
      refine y_cv kX6_findExits kX5_has 1 rfl (hI.x (k := 1) rfl hsc.1.1) (by decide +kernel) (c_Shas (hI.sc hsc.1) ⟨by omega, by omega⟩) rfl rfl ?_
      rintro _ _ _ ⟨rfl, rfl, rfl⟩
      refine y_beq kX6_findExits rfl rfl (fun c2 => ?_) (fun c2 => ?_)
      · refine y_run kX6_findExits rfl ?_
        exact ih _ _ (by omega) (by omega) (by omega) hI
      · refine y_run kX6_findExits rfl ?_
        refine m_get kX6_findExits (0) hI hx ?_
        refine y_run kX6_findExits rfl ?_
        refine m_get kX6_findExits (0) hI hx ?_
        refine m_get kX6_findExits (1) hI hsc.1.1 ?_
        refine y_run kX6_findExits rfl ?_
        obtain ⟨_, _, _, _, ev2, _⟩ := hI.r (k := 15) rfl
        refine y_cv kX6_findExits kX4_hits 2 rfl ev2 (by decide +kernel) (w_Rhits hI rfl (hI.x (k := 2) rfl hsc.1.2.1) hsc.2.1 (by omega) (by omega) (by omega)) rfl rfl ?_
        rintro _ h _ ⟨v2, rfl, v2a, v2b, hI, rfl⟩
        refine y_if_eq kX6_findExits rfl rfl (fun c3 => ?_) (fun c3 => ?_)
        · refine y_run kX6_findExits rfl ?_
          exact ih _ _ (by omega) (by omega) (by omega) hI
        · refine y_run kX6_findExits rfl ?_
          refine m_get kX6_findExits (0) hI hx ?_
          refine y_run kX6_findExits rfl ?_
          refine m_get kX6_findExits (0) hI hx ?_
          refine m_get kX6_findExits (1) hI hsc.1.1 ?_
          refine y_run kX6_findExits rfl ?_
          obtain ⟨_, _, _, _, ev3, _⟩ := hI.r (k := 15) rfl
          refine y_cv kX6_findExits kX4_leave 2 rfl ev3 (by decide +kernel) (w_Rleave hI rfl (hI.x (k := 2) rfl hsc.1.2.1) hsc.2.1 (by omega) (by omega) (by omega)) rfl rfl ?_
          rintro _ h _ ⟨rfl, hI, rfl⟩
          refine y_run kX6_findExits rfl ?_
          refine m_get kX6_findExits (0) hI hx ?_
          refine y_run kX6_findExits rfl ?_
          refine m_get kX6_findExits (0) hI hx ?_
          refine m_getR2 kX6_findExits (15) hI rfl (fun v4 v4a v4b => ?_)
          refine m_is kX6_findExits (18) hI rfl (fun h hI => ?_)
          refine y_run kX6_findExits rfl ?_
          exact ih _ _ (by omega) (by omega) (by omega) hI
theorem w_findExits {b : Nat} {g : yH} {t : Int} {E K R T : Nat → Int} (hc : CB b g t E K R T) {p y : Int} (p1 : -32 ≤ p) (p2 : p < 32) (y1 : -64 ≤ y) (y2 : y < 64) (hI : MI b g h) : YM l G mX6_findExits 2 0 0 [vr b, vi p, vi y] h n (PV b g n) := by
  refine YM.of kX6_findExits (Nat.le_of_ble_eq_true rfl) (L0 := [some (vr b), some (vi p), some (vi y), none]) rfl ?_
  obtain ⟨⟨o1, o2, dr, ho12, hx, d1, d2⟩, hp20, hp270, ⟨ce1, ce2, pw, la, hq⟩, hsc⟩ := id hc
  have hP1 : PJ b o1 g := by rcases ho12 with ⟨rfl, rfl⟩ | ⟨rfl, rfl⟩ <;> assumption
  have hP2 : PJ b o2 g := by rcases ho12 with ⟨rfl, rfl⟩ | ⟨rfl, rfl⟩ <;> assumption
  obtain ⟨S1, a1, k1, x1, hf1, a11, a12, x11, x12⟩ := hP1
  obtain ⟨S2, a2, k2, x2, hf2, a21, a22, x21, x22⟩ := hP2
  obtain ⟨ho1, hp1, hr1⟩ := id hf1
  obtain ⟨ho2, hp2, hr2⟩ := id hf2
  obtain ⟨h1, h2, hq0⟩ := id hq
  refine y_run kX6_findExits rfl ?_
  refine m_get kX6_findExits (0) hI hx ?_
  refine y_run kX6_findExits rfl ?_
  obtain ⟨_, _, _, _, ev1, _⟩ := hI.r (k := 15) rfl
  refine y_cv kX6_findExits kX4_aim 2 rfl ev1 (by decide +kernel) (w_Raim hI rfl (by omega) (by omega) (by omega) (by omega)) rfl rfl ?_
  rintro _ h _ ⟨rfl, hI, rfl⟩
  refine y_run kX6_findExits rfl ?_
  exact s_findExits hc p1 p2 y1 y2 _ 0 _ (Nat.lt_succ_self _) (by omega) (by omega) hI
theorem s_under {b : Nat} {g : yH} {t : Int} {E K R T : Nat → Int} (hc : CB b g t E K R T) {p q r : Int} (p1 : -2147483648 ≤ p) (p2 : p < 2147483648) (q1 : -2147483648 ≤ q) (q2 : q < 2147483648) (r1 : -2147483648 ≤ r) (r2 : r < 2147483648) : ∀ (m : Nat) (y : Int) (h : yH), (24 - y).toNat < m → 0 ≤ y → y ≤ 24 → MI b g h → YW l G mX6_under 3 0 0 (PB b g n t E K R T) 19 [some (vr b), some (vi p), some (vi q), some (vi r), some (vi y)] [] h n := by
  intro m
  induction m with
  | zero => intro y h hm; exact absurd hm (Nat.not_lt_zero _)
  | succ m ih =>
    intro y h hmm j0 j1 hI
    obtain ⟨⟨o1, o2, dr, ho12, hx, d1, d2⟩, hp20, hp270, ⟨ce1, ce2, pw, la, hq⟩, hsc⟩ := id hc
    have hP1 : PJ b o1 g := by rcases ho12 with ⟨rfl, rfl⟩ | ⟨rfl, rfl⟩ <;> assumption
    have hP2 : PJ b o2 g := by rcases ho12 with ⟨rfl, rfl⟩ | ⟨rfl, rfl⟩ <;> assumption
    obtain ⟨S1, a1, k1, x1, hf1, a11, a12, x11, x12⟩ := hP1
    obtain ⟨S2, a2, k2, x2, hf2, a21, a22, x21, x22⟩ := hP2
    obtain ⟨ho1, hp1, hr1⟩ := id hf1
    obtain ⟨ho2, hp2, hr2⟩ := id hf2
    obtain ⟨h1, h2, hq0⟩ := id hq
    refine y_run kX6_under rfl ?_
    refine y_ic_ge kX6_under rfl rfl (fun c1 => ?_) (fun c1 => ?_)
    · refine y_run kX6_under rfl ?_
      exact y_ir kX6_under rfl rfl ⟨g, _, rfl, SB.r b g, hc, hI, rfl⟩
    · refine y_run kX6_under rfl ?_
      refine m_get kX6_under (0) hI hx ?_
      refine y_run kX6_under rfl ?_
      refine m_ia kX6_under (18) hI rfl (fun v1 v1a v1b => ?_)
      refine y_run kX6_under rfl ?_
      refine y_ic_eq kX6_under rfl rfl (fun c2 => ?_) (fun c2 => ?_)
      · refine y_run kX6_under rfl ?_
        exact ih _ _ (by omega) (by omega) (by omega) hI
      · refine y_run kX6_under rfl ?_
        refine y_cv kX6_under kX6_howManyNearer 1 rfl (hI.x (k := 0) rfl hx) (by decide +kernel) (w_nearer hc (by omega) (by omega) hI) rfl rfl ?_
        rintro _ h _ ⟨v2, rfl, v2a, v2b, hI, rfl⟩
        refine y_run kX6_under rfl ?_
        refine y_ic_ne kX6_under rfl rfl (fun c3 => ?_) (fun c3 => ?_)
        · refine y_run kX6_under rfl ?_
          exact ih _ _ (by omega) (by omega) (by omega) hI
        · refine y_run kX6_under rfl ?_
          exact y_ir kX6_under rfl rfl ⟨g, _, rfl, SB.r b g, hc, hI, rfl⟩
theorem w_under {b : Nat} {g : yH} {t : Int} {E K R T : Nat → Int} (hc : CB b g t E K R T) {p q r : Int} (p1 : -2147483648 ≤ p) (p2 : p < 2147483648) (q1 : -2147483648 ≤ q) (q2 : q < 2147483648) (r1 : -2147483648 ≤ r) (r2 : r < 2147483648) (hI : MI b g h) : YM l G mX6_under 3 0 0 [vr b, vi p, vi q, vi r] h n (PB b g n t E K R T) := by
  refine YM.of kX6_under (Nat.le_of_ble_eq_true rfl) (L0 := [some (vr b), some (vi p), some (vi q), some (vi r), none]) rfl ?_
  obtain ⟨⟨o1, o2, dr, ho12, hx, d1, d2⟩, hp20, hp270, ⟨ce1, ce2, pw, la, hq⟩, hsc⟩ := id hc
  have hP1 : PJ b o1 g := by rcases ho12 with ⟨rfl, rfl⟩ | ⟨rfl, rfl⟩ <;> assumption
  have hP2 : PJ b o2 g := by rcases ho12 with ⟨rfl, rfl⟩ | ⟨rfl, rfl⟩ <;> assumption
  obtain ⟨S1, a1, k1, x1, hf1, a11, a12, x11, x12⟩ := hP1
  obtain ⟨S2, a2, k2, x2, hf2, a21, a22, x21, x22⟩ := hP2
  obtain ⟨ho1, hp1, hr1⟩ := id hf1
  obtain ⟨ho2, hp2, hr2⟩ := id hf2
  obtain ⟨h1, h2, hq0⟩ := id hq
  refine y_run kX6_under rfl ?_
  refine y_cs kX6_under kX6_isPixel 2 rfl (by decide +kernel) (c_isPixel ⟨by omega, by omega⟩ ⟨by omega, by omega⟩) rfl rfl ?_
  rintro _ _ _ ⟨hr, rfl, rfl⟩
  obtain ⟨v1, rfl, v1a, v1b, v1c⟩ := is01p hr
  refine y_if_ne kX6_under rfl rfl (fun c1 => ?_) (fun c1 => ?_)
  · refine y_run kX6_under rfl ?_
    refine y_cv kX6_under kX6_findExits 2 rfl (hI.x (k := 0) rfl hx) (by decide +kernel) (w_findExits hc (by omega) (by omega) (by omega) (by omega) hI) rfl rfl ?_
    rintro _ h _ ⟨rfl, hI, rfl⟩
    refine y_run kX6_under rfl ?_
    exact s_under hc p1 p2 q1 q2 r1 r2 _ 0 _ (Nat.lt_succ_self _) (by omega) (by omega) hI
  · refine y_run kX6_under rfl ?_
    exact y_ir kX6_under rfl rfl ⟨g, _, rfl, SB.r b g, hc, hI, rfl⟩
theorem w_covers {b : Nat} {g : yH} {t : Int} {E K R T : Nat → Int} (hc : CB b g t E K R T) {p q : Int} (p1 : -2147483648 ≤ p) (p2 : p < 2147483648) (q1 : -2147483648 ≤ q) (q2 : q < 2147483648) (hI : MI b g h) : YM l G mX6_covers 3 0 0 [vr b, vi p, vi q] h n (PB b g n t E K R T) := by
  refine YM.of kX6_covers (Nat.le_of_ble_eq_true rfl) (L0 := [some (vr b), some (vi p), some (vi q)]) rfl ?_
  obtain ⟨⟨o1, o2, dr, ho12, hx, d1, d2⟩, hp20, hp270, ⟨ce1, ce2, pw, la, hq⟩, hsc⟩ := id hc
  have hP1 : PJ b o1 g := by rcases ho12 with ⟨rfl, rfl⟩ | ⟨rfl, rfl⟩ <;> assumption
  have hP2 : PJ b o2 g := by rcases ho12 with ⟨rfl, rfl⟩ | ⟨rfl, rfl⟩ <;> assumption
  obtain ⟨S1, a1, k1, x1, hf1, a11, a12, x11, x12⟩ := hP1
  obtain ⟨S2, a2, k2, x2, hf2, a21, a22, x21, x22⟩ := hP2
  obtain ⟨ho1, hp1, hr1⟩ := id hf1
  obtain ⟨ho2, hp2, hr2⟩ := id hf2
  obtain ⟨h1, h2, hq0⟩ := id hq
  refine y_run kX6_covers rfl ?_
  refine m_get kX6_covers (0) hI hx ?_
  refine y_run kX6_covers rfl ?_
  refine y_cv kX6_covers kX5_has 1 rfl (hI.x (k := 1) rfl hsc.1.1) (by decide +kernel) (c_Shas (hI.sc hsc.1) ⟨by omega, by omega⟩) rfl rfl ?_
  rintro _ _ _ ⟨rfl, rfl, rfl⟩
  refine y_beq kX6_covers rfl rfl (fun c1 => ?_) (fun c1 => ?_)
  · refine y_run kX6_covers rfl ?_
    exact y_ir kX6_covers rfl rfl ⟨g, _, rfl, SB.r b g, hc, hI, rfl⟩
  · refine y_run kX6_covers rfl ?_
    refine m_get kX6_covers (0) hI hx ?_
    refine y_run kX6_covers rfl ?_
    refine y_cv kX6_covers kX5_has 1 rfl (hI.x (k := 1) rfl hsc.1.1) (by decide +kernel) (c_Shas (hI.sc hsc.1) ⟨by omega, by omega⟩) rfl rfl ?_
    rintro _ _ _ ⟨rfl, rfl, rfl⟩
    refine y_beq kX6_covers rfl rfl (fun c2 => ?_) (fun c2 => ?_)
    · refine y_run kX6_covers rfl ?_
      exact y_ir kX6_covers rfl rfl ⟨g, _, rfl, SB.r b g, hc, hI, rfl⟩
    · refine y_run kX6_covers rfl ?_
      refine y_ic_ne kX6_covers rfl rfl (fun c3 => ?_) (fun c3 => ?_)
      · refine y_run kX6_covers rfl ?_
        refine m_get kX6_covers (0) hI hx ?_
        refine m_get kX6_covers (1) hI hsc.1.1 ?_
        refine y_run kX6_covers rfl ?_
        refine y_cs kX6_covers kX6_liesBeyond 3 rfl (by decide +kernel) (c_lb (hI.x (k := 2) rfl hsc.1.2.1) hsc.2.1 (by omega) (by omega) (by omega) (by omega) (by omega)) rfl rfl ?_
        rintro _ _ _ ⟨⟨v3, rfl, v3a, v3b⟩, rfl, rfl⟩
        refine y_if_ne kX6_covers rfl rfl (fun c4 => ?_) (fun c4 => ?_)
        · refine y_run kX6_covers rfl ?_
          refine m_get kX6_covers (0) hI hx ?_
          refine y_run kX6_covers rfl ?_
          refine m_get kX6_covers (0) hI hx ?_
          refine m_get kX6_covers (1) hI hsc.1.1 ?_
          refine y_run kX6_covers rfl ?_
          obtain ⟨_, _, _, _, _, _, ev4, _⟩ := hI.o (k := 16) rfl
          refine y_cv kX6_covers kX1_setTo 2 rfl ev4 (by decide +kernel) (w_OsetTo hI rfl (hI.x (k := 2) rfl hsc.1.2.1) hsc.2.1 (by omega) (by omega) (by omega)) rfl rfl ?_
          rintro _ h _ ⟨rfl, hI, rfl⟩
          refine y_run kX6_covers rfl ?_
          refine m_get kX6_covers (0) hI hx ?_
          refine y_run kX6_covers rfl ?_
          refine m_get kX6_covers (0) hI hx ?_
          refine m_get kX6_covers (1) hI hsc.1.1 ?_
          refine y_run kX6_covers rfl ?_
          obtain ⟨_, _, _, _, _, _, ev5, _⟩ := hI.o (k := 17) rfl
          refine y_cv kX6_covers kX1_setTo 2 rfl ev5 (by decide +kernel) (w_OsetTo hI rfl (hI.x (k := 2) rfl hsc.1.2.1) hsc.2.1 (by omega) (by omega) (by omega)) rfl rfl ?_
          rintro _ h _ ⟨rfl, hI, rfl⟩
          refine y_run kX6_covers rfl ?_
          refine m_get kX6_covers (0) hI hx ?_
          refine y_run kX6_covers rfl ?_
          refine m_get kX6_covers (0) hI hx ?_
          obtain ⟨_, _, _, _, _, _, ev6, _⟩ := hI.o (k := 16) rfl
          refine y_cv kX6_covers kX1_meet 1 rfl ev6 (by decide +kernel) (w_Omeet hI rfl rfl (by omega)) rfl rfl ?_
          rintro _ h _ ⟨rfl, hI, rfl⟩
          refine y_run kX6_covers rfl ?_
          refine m_get kX6_covers (0) hI hx ?_
          obtain ⟨_, _, _, _, _, _, ev7, _⟩ := hI.o (k := 16) rfl
          refine y_cv kX6_covers kX1_howManyPixels 0 rfl ev7 (by decide +kernel) (w_howManyPixels hI) rfl rfl ?_
          rintro _ h _ ⟨v7, rfl, v7a, v7b, hI, rfl⟩
          exact y_ir kX6_covers rfl rfl ⟨g, _, rfl, SB.r b g, hc, hI, rfl⟩
        · refine y_run kX6_covers rfl ?_
          exact y_ir kX6_covers rfl rfl ⟨g, _, rfl, SB.r b g, hc, hI, rfl⟩
      · refine y_run kX6_covers rfl ?_
        exact y_ir kX6_covers rfl rfl ⟨g, _, rfl, SB.r b g, hc, hI, rfl⟩
theorem w_seen {b : Nat} {g : yH} {t : Int} {E K R T : Nat → Int} (hc : CB b g t E K R T) {p : Int} (p1 : -2147483648 ≤ p) (p2 : p < 2147483648) (hI : MI b g h) : YM l G mX6_seen 1 0 0 [vr b, vi p] h n (PB b g n t E K R T) := by
  refine YM.of kX6_seen (Nat.le_of_ble_eq_true rfl) (L0 := [some (vr b), some (vi p)]) rfl ?_
  obtain ⟨⟨o1, o2, dr, ho12, hx, d1, d2⟩, hp20, hp270, ⟨ce1, ce2, pw, la, hq⟩, hsc⟩ := id hc
  have hP1 : PJ b o1 g := by rcases ho12 with ⟨rfl, rfl⟩ | ⟨rfl, rfl⟩ <;> assumption
  have hP2 : PJ b o2 g := by rcases ho12 with ⟨rfl, rfl⟩ | ⟨rfl, rfl⟩ <;> assumption
  obtain ⟨S1, a1, k1, x1, hf1, a11, a12, x11, x12⟩ := hP1
  obtain ⟨S2, a2, k2, x2, hf2, a21, a22, x21, x22⟩ := hP2
  obtain ⟨ho1, hp1, hr1⟩ := id hf1
  obtain ⟨ho2, hp2, hr2⟩ := id hf2
  obtain ⟨h1, h2, hq0⟩ := id hq
  refine y_run kX6_seen rfl ?_
  refine y_cs kX6_seen kX6_isBelow 2 rfl (by decide +kernel) (c_isBelow _ _ ⟨by omega, by omega⟩ ⟨by omega, by omega⟩) rfl rfl ?_
  rintro _ _ _ ⟨rfl, rfl, rfl⟩
  refine y_beq kX6_seen rfl rfl (fun c1 => ?_) (fun c1 => ?_)
  · refine y_run kX6_seen rfl ?_
    exact y_ir kX6_seen rfl rfl ⟨g, _, rfl, SB.r b g, hc, hI, rfl⟩
  · refine y_run kX6_seen rfl ?_
    refine m_get kX6_seen (0) hI hx ?_
    refine m_get kX6_seen (8) hI hq0 ?_
    refine y_run kX6_seen rfl ?_
    refine m_ia kX6_seen (11) hI rfl (fun v2 v2a v2b => ?_)
    refine y_run kX6_seen rfl ?_
    exact y_ir kX6_seen rfl rfl ⟨g, _, rfl, SB.r b g, hc, hI, rfl⟩
theorem w_changed {b : Nat} {g : yH} {t : Int} {E K R T : Nat → Int} (hc : CB b g t E K R T) {p : Int} (p1 : -2147483648 ≤ p) (p2 : p < 2147483648) (hI : MI b g h) : YM l G mX6_changed 1 0 0 [vr b, vi p] h n (PB b g n t E K R T) := by
  refine YM.of kX6_changed (Nat.le_of_ble_eq_true rfl) (L0 := [some (vr b), some (vi p)]) rfl ?_
  obtain ⟨⟨o1, o2, dr, ho12, hx, d1, d2⟩, hp20, hp270, ⟨ce1, ce2, pw, la, hq⟩, hsc⟩ := id hc
  have hP1 : PJ b o1 g := by rcases ho12 with ⟨rfl, rfl⟩ | ⟨rfl, rfl⟩ <;> assumption
  have hP2 : PJ b o2 g := by rcases ho12 with ⟨rfl, rfl⟩ | ⟨rfl, rfl⟩ <;> assumption
  obtain ⟨S1, a1, k1, x1, hf1, a11, a12, x11, x12⟩ := hP1
  obtain ⟨S2, a2, k2, x2, hf2, a21, a22, x21, x22⟩ := hP2
  obtain ⟨ho1, hp1, hr1⟩ := id hf1
  obtain ⟨ho2, hp2, hr2⟩ := id hf2
  obtain ⟨h1, h2, hq0⟩ := id hq
  refine y_run kX6_changed rfl ?_
  refine m_get kX6_changed (0) hI hx ?_
  refine m_get kX6_changed (8) hI hq0 ?_
  obtain ⟨Fd, eFd, _⟩ := hI.i (k := 12) rfl
  refine y_al kX6_changed rfl eFd ?_
  refine y_cs kX6_changed kX6_isBelow 2 rfl (by decide +kernel) (c_isBelow _ _ ⟨by omega, by omega⟩ ⟨by omega, by omega⟩) rfl rfl ?_
  rintro _ _ _ ⟨rfl, rfl, rfl⟩
  refine y_beq kX6_changed rfl rfl (fun c1 => ?_) (fun c1 => ?_)
  · refine y_run kX6_changed rfl ?_
    exact y_ir kX6_changed rfl rfl ⟨g, _, rfl, SB.r b g, hc, hI, rfl⟩
  · refine y_run kX6_changed rfl ?_
    refine m_get kX6_changed (0) hI hx ?_
    refine m_get kX6_changed (8) hI hq0 ?_
    refine y_run kX6_changed rfl ?_
    refine m_ia kX6_changed (12) hI rfl (fun v2 v2a v2b => ?_)
    refine y_run kX6_changed rfl ?_
    exact y_ir kX6_changed rfl rfl ⟨g, _, rfl, SB.r b g, hc, hI, rfl⟩
theorem w_count {b : Nat} {g : yH} {t : Int} {E K R T : Nat → Int} (hc : CB b g t E K R T) {p : Int} (p1 : -2147483648 ≤ p) (p2 : p < 2147483648) (hI : MI b g h) : YM l G mX6_count 2 0 0 [vr b, vi p] h n (PB b g n t E K R T) := by
  refine YM.of kX6_count (Nat.le_of_ble_eq_true rfl) (L0 := [some (vr b), some (vi p)]) rfl ?_
  obtain ⟨⟨o1, o2, dr, ho12, hx, d1, d2⟩, hp20, hp270, ⟨ce1, ce2, pw, la, hq⟩, hsc⟩ := id hc
  have hP1 : PJ b o1 g := by rcases ho12 with ⟨rfl, rfl⟩ | ⟨rfl, rfl⟩ <;> assumption
  have hP2 : PJ b o2 g := by rcases ho12 with ⟨rfl, rfl⟩ | ⟨rfl, rfl⟩ <;> assumption
  obtain ⟨S1, a1, k1, x1, hf1, a11, a12, x11, x12⟩ := hP1
  obtain ⟨S2, a2, k2, x2, hf2, a21, a22, x21, x22⟩ := hP2
  obtain ⟨ho1, hp1, hr1⟩ := id hf1
  obtain ⟨ho2, hp2, hr2⟩ := id hf2
  obtain ⟨h1, h2, hq0⟩ := id hq
  refine y_run kX6_count rfl ?_
  by_cases tz : p < 0 ∨ 6 < p
  · refine y_tout kX6_count rfl tz rfl ?_
    refine y_run kX6_count rfl ?_
    exact y_ir kX6_count rfl rfl ⟨g, _, rfl, SB.r b g, hc, hI, rfl⟩
  rcases (show p = 0 ∨ p = 1 ∨ p = 2 ∨ p = 3 ∨ p = 4 ∨ p = 5 ∨ p = 6 by omega) with rfl | rfl | rfl | rfl | rfl | rfl | rfl
  · refine y_tin kX6_count rfl rfl rfl ?_
    refine y_run kX6_count rfl ?_
    refine m_get kX6_count (0) hI hx ?_
    refine m_get kX6_count (o1) hI hp1 ?_ (t0 ho1)
    exact y_ir kX6_count rfl rfl ⟨g, _, rfl, SB.r b g, hc, hI, rfl⟩
  · refine y_tin kX6_count rfl rfl rfl ?_
    refine y_run kX6_count rfl ?_
    refine m_get kX6_count (0) hI hx ?_
    refine y_cv kX6_count kX3_cuts 0 rfl (hI.x (k := o1) (t0 ho1) hp1) (by decide +kernel) (w_cuts hf1 hI) rfl rfl ?_
    rintro _ h _ ⟨v1, rfl, v1a, v1b, hI, rfl⟩
    exact y_ir kX6_count rfl rfl ⟨g, _, rfl, SB.r b g, hc, hI, rfl⟩
  · refine y_tin kX6_count rfl rfl rfl ?_
    refine y_run kX6_count rfl ?_
    refine m_get kX6_count (0) hI hx ?_
    refine y_cv kX6_count kX3_boxesCut 0 rfl (hI.x (k := o1) (t0 ho1) hp1) (by decide +kernel) (w_boxesCut hf1 (by omega) (by omega) hI) rfl rfl ?_
    rintro _ h _ ⟨v1, rfl, v1a, v1b, hI, rfl⟩
    exact y_ir kX6_count rfl rfl ⟨g, _, rfl, SB.r b g, hc, hI, rfl⟩
  · refine y_tin kX6_count rfl rfl rfl ?_
    refine y_run kX6_count rfl ?_
    refine m_get kX6_count (0) hI hx ?_
    refine m_get kX6_count (8) hI hq0 ?_
    exact y_ir kX6_count rfl rfl ⟨g, _, rfl, SB.r b g, hc, hI, rfl⟩
  · refine y_tin kX6_count rfl rfl rfl ?_
    refine y_run kX6_count rfl ?_
    refine m_get kX6_count (0) hI hx ?_
    refine m_get kX6_count (8) hI hq0 ?_
    exact y_ir kX6_count rfl rfl ⟨g, _, rfl, SB.r b g, hc, hI, rfl⟩
  · refine y_tin kX6_count rfl rfl rfl ?_
    refine y_run kX6_count rfl ?_
    refine m_get kX6_count (0) hI hx ?_
    refine y_cv kX6_count kX5_howMany 0 rfl (hI.x (k := 1) rfl hsc.1.1) (by decide +kernel) (w_howMany hsc hI) rfl rfl ?_
    rintro _ h _ ⟨v1, rfl, v1a, v1b, hI, rfl⟩
    exact y_ir kX6_count rfl rfl ⟨g, _, rfl, SB.r b g, hc, hI, rfl⟩
  · refine y_tin kX6_count rfl rfl rfl ?_
    refine y_run kX6_count rfl ?_
    refine m_get kX6_count (0) hI hx ?_
    exact y_ir kX6_count rfl rfl ⟨g, _, rfl, SB.r b g, hc, hI, rfl⟩
theorem w_pixel {b : Nat} {g : yH} {t : Int} {E K R T : Nat → Int} (hc : CB b g t E K R T) {p q r : Int} (p1 : -2147483648 ≤ p) (p2 : p < 2147483648) (q1 : -2147483648 ≤ q) (q2 : q < 2147483648) (r1 : -2147483648 ≤ r) (r2 : r < 2147483648) (hI : MI b g h) : YM l G mX6_pixel 1 0 0 [vr b, vi p, vi q, vi r] h n (PB b g n t E K R T) := by
  refine YM.of kX6_pixel (Nat.le_of_ble_eq_true rfl) (L0 := [some (vr b), some (vi p), some (vi q), some (vi r), none]) rfl ?_
  obtain ⟨⟨o1, o2, dr, ho12, hx, d1, d2⟩, hp20, hp270, ⟨ce1, ce2, pw, la, hq⟩, hsc⟩ := id hc
  have hP1 : PJ b o1 g := by rcases ho12 with ⟨rfl, rfl⟩ | ⟨rfl, rfl⟩ <;> assumption
  have hP2 : PJ b o2 g := by rcases ho12 with ⟨rfl, rfl⟩ | ⟨rfl, rfl⟩ <;> assumption
  obtain ⟨S1, a1, k1, x1, hf1, a11, a12, x11, x12⟩ := hP1
  obtain ⟨S2, a2, k2, x2, hf2, a21, a22, x21, x22⟩ := hP2
  obtain ⟨ho1, hp1, hr1⟩ := id hf1
  obtain ⟨ho2, hp2, hr2⟩ := id hf2
  obtain ⟨h1, h2, hq0⟩ := id hq
  refine y_run kX6_pixel rfl ?_
  refine m_get kX6_pixel (0) hI hx ?_
  refine y_if_eq kX6_pixel rfl rfl (fun c1 => ?_) (fun c1 => ?_)
  · refine y_run kX6_pixel rfl ?_
    exact y_ir kX6_pixel rfl rfl ⟨g, _, rfl, SB.r b g, hc, hI, rfl⟩
  · refine y_run kX6_pixel rfl ?_
    refine y_cs kX6_pixel kX6_isPixel 2 rfl (by decide +kernel) (c_isPixel ⟨by omega, by omega⟩ ⟨by omega, by omega⟩) rfl rfl ?_
    rintro _ _ _ ⟨hr, rfl, rfl⟩
    obtain ⟨v1, rfl, v1a, v1b, v1c⟩ := is01p hr
    refine y_if_ne kX6_pixel rfl rfl (fun c2 => ?_) (fun c2 => ?_)
    · refine y_run kX6_pixel rfl ?_
      refine m_get kX6_pixel (0) hI hx ?_
      refine m_get kX6_pixel (8) hI hq0 ?_
      refine y_run kX6_pixel rfl ?_
      refine y_cs kX6_pixel kX2_cellOf 2 rfl (by decide +kernel) (c_cellOf) rfl rfl ?_
      rintro _ _ _ ⟨rfl, rfl, rfl⟩
      refine m_iac kX6_pixel (ce1) hI (tc h1) (fun v3 v3a => ?_)
      refine y_run kX6_pixel rfl ?_
      refine y_ic_ne kX6_pixel rfl rfl (fun c3 => ?_) (fun c3 => ?_)
      · refine y_run kX6_pixel rfl ?_
        refine y_cs kX6_pixel kX2_hasBox 1 rfl (by decide +kernel) (w_hasBox) rfl rfl ?_
        rintro _ _ _ ⟨⟨v4, rfl, v4a, v4b⟩, rfl, rfl⟩
        refine y_if_ne kX6_pixel rfl rfl (fun c4 => ?_) (fun c4 => ?_)
        · refine y_run kX6_pixel rfl ?_
          by_cases tz : r < 0 ∨ 2 < r
          · refine y_tout kX6_pixel rfl tz rfl ?_
            refine y_run kX6_pixel rfl ?_
            exact y_ir kX6_pixel rfl rfl ⟨g, _, rfl, SB.r b g, hc, hI, rfl⟩
          rcases (show r = 0 ∨ r = 1 ∨ r = 2 by omega) with rfl | rfl | rfl
          · refine y_tin kX6_pixel rfl rfl rfl ?_
            refine y_run kX6_pixel rfl ?_
            refine y_cs kX6_pixel kX2_boxOf 1 rfl (by decide +kernel) (c_boxOf) rfl rfl ?_
            rintro _ _ _ ⟨rfl, rfl, rfl⟩
            exact y_ir kX6_pixel rfl rfl ⟨g, _, rfl, SB.r b g, hc, hI, rfl⟩
          · refine y_tin kX6_pixel rfl rfl rfl ?_
            refine y_run kX6_pixel rfl ?_
            refine y_cs kX6_pixel kX2_faceOf 1 rfl (by decide +kernel) (w_Pface) rfl rfl ?_
            rintro _ _ _ ⟨⟨v1, rfl⟩, rfl, rfl⟩
            exact y_ir kX6_pixel rfl rfl ⟨g, _, rfl, SB.r b g, hc, hI, rfl⟩
          · refine y_tin kX6_pixel rfl rfl rfl ?_
            refine y_run kX6_pixel rfl ?_
            refine y_cs kX6_pixel kX2_paintOf 1 rfl (by decide +kernel) (w_Ppaint) rfl rfl ?_
            rintro _ _ _ ⟨⟨v1, rfl⟩, rfl, rfl⟩
            exact y_ir kX6_pixel rfl rfl ⟨g, _, rfl, SB.r b g, hc, hI, rfl⟩
        · refine y_run kX6_pixel rfl ?_
          exact y_ir kX6_pixel rfl rfl ⟨g, _, rfl, SB.r b g, hc, hI, rfl⟩
      · refine y_run kX6_pixel rfl ?_
        refine y_cs kX6_pixel kX2_laidOf 1 rfl (by decide +kernel) (w_Plaid) rfl rfl ?_
        rintro _ _ _ ⟨⟨v5, rfl⟩, rfl, rfl⟩
        exact y_ir kX6_pixel rfl rfl ⟨g, _, rfl, SB.r b g, hc, hI, rfl⟩
    · refine y_run kX6_pixel rfl ?_
      exact y_ir kX6_pixel rfl rfl ⟨g, _, rfl, SB.r b g, hc, hI, rfl⟩
theorem w_piece {b : Nat} {g : yH} {t : Int} {E K R T : Nat → Int} (hc : CB b g t E K R T) {p q : Int} (p1 : -2147483648 ≤ p) (p2 : p < 2147483648) (q1 : -2147483648 ≤ q) (q2 : q < 2147483648) (hI : MI b g h) : YM l G mX6_piece 1 0 0 [vr b, vi p, vi q] h n (PB b g n t E K R T) := by
  refine YM.of kX6_piece (Nat.le_of_ble_eq_true rfl) (L0 := [some (vr b), some (vi p), some (vi q), none]) rfl ?_
  obtain ⟨⟨o1, o2, dr, ho12, hx, d1, d2⟩, hp20, hp270, ⟨ce1, ce2, pw, la, hq⟩, hsc⟩ := id hc
  have hP1 : PJ b o1 g := by rcases ho12 with ⟨rfl, rfl⟩ | ⟨rfl, rfl⟩ <;> assumption
  have hP2 : PJ b o2 g := by rcases ho12 with ⟨rfl, rfl⟩ | ⟨rfl, rfl⟩ <;> assumption
  obtain ⟨S1, a1, k1, x1, hf1, a11, a12, x11, x12⟩ := hP1
  obtain ⟨S2, a2, k2, x2, hf2, a21, a22, x21, x22⟩ := hP2
  obtain ⟨ho1, hp1, hr1⟩ := id hf1
  obtain ⟨ho2, hp2, hr2⟩ := id hf2
  obtain ⟨h1, h2, hq0⟩ := id hq
  refine y_run kX6_piece rfl ?_
  refine m_get kX6_piece (0) hI hx ?_
  refine m_get kX6_piece (o1) hI hp1 ?_ (t0 ho1)
  refine y_cs kX6_piece kX6_isBelow 2 rfl (by decide +kernel) (c_isBelow _ _ ⟨by omega, by omega⟩ ⟨by omega, by omega⟩) rfl rfl ?_
  rintro _ _ _ ⟨rfl, rfl, rfl⟩
  refine y_bne kX6_piece rfl rfl (fun c1 => ?_) (fun c1 => ?_)
  · refine y_run kX6_piece rfl ?_
    refine m_get kX6_piece (0) hI hx ?_
    refine m_get kX6_piece (o1) hI hp1 ?_ (t0 ho1)
    refine y_run kX6_piece rfl ?_
    refine m_ia kX6_piece (o1 + 3) hI (t3 ho1) (fun v2 v2a v2b => ?_)
    refine y_run kX6_piece rfl ?_
    by_cases tz0 : q = 0
    · subst tz0
      refine y_lsw kX6_piece rfl rfl rfl rfl ?_
      refine y_run kX6_piece rfl ?_
      refine m_get kX6_piece (0) hI hx ?_
      refine m_get kX6_piece (o1) hI hp1 ?_ (t0 ho1)
      refine y_run kX6_piece rfl ?_
      refine m_ia kX6_piece (o1 + 2) hI (t2 ho1) (fun v1 v1a v1b => ?_)
      exact y_ir kX6_piece rfl rfl ⟨g, _, rfl, SB.r b g, hc, hI, rfl⟩
    by_cases tz1 : q = 1
    · subst tz1
      refine y_lsw kX6_piece rfl rfl rfl rfl ?_
      refine y_run kX6_piece rfl ?_
      exact y_ir kX6_piece rfl rfl ⟨g, _, rfl, SB.r b g, hc, hI, rfl⟩
    refine y_lsw (off := 37) kX6_piece rfl rfl (by simp [Op.lookupswitch.offset, Ne.symm tz0, Ne.symm tz1]) rfl ?_
    refine y_run kX6_piece rfl ?_
    refine YW.nr2 ?_
    refine y_cs kX6_piece kX6_isBelow 2 rfl (by decide +kernel) (c_isBelow _ _ ⟨(nrm_rng _).1, Int.lt_of_le_of_lt (nrm_rng _).2 (by omega)⟩ ⟨by omega, by omega⟩) rfl rfl ?_
    rintro _ _ _ ⟨rfl, rfl, rfl⟩
    have e1 : (0 ≤ nrm (q - 2) ∧ nrm (q - 2) < 6) → (2 ≤ q ∧ q < 8) := by
      by_cases z : -2147483648 ≤ q - 2
      · rw [nrm_id z (by omega)]; omega
      · intro y
        have := nrm_mod (q - 2)
        omega
    refine y_beq kX6_piece rfl rfl (fun c1 => ?_) (fun c1 => ?_)
    · refine y_run kX6_piece rfl ?_
      exact y_ir kX6_piece rfl rfl ⟨g, _, rfl, SB.r b g, hc, hI, rfl⟩
    · refine y_run kX6_piece rfl ?_
      refine m_get kX6_piece (0) hI hx ?_
      refine m_get kX6_piece (o1) hI hp1 ?_ (t0 ho1)
      refine y_run kX6_piece rfl ?_
      refine m_ia kX6_piece (o1 + 1) hI (t1 ho1) (fun v1 v1a v1b => ?_)
      refine y_run kX6_piece rfl ?_
      exact y_ir kX6_piece rfl rfl ⟨g, _, rfl, SB.r b g, hc, hI, rfl⟩
  · refine y_run kX6_piece rfl ?_
    exact y_ir kX6_piece rfl rfl ⟨g, _, rfl, SB.r b g, hc, hI, rfl⟩
end C85
