/-! the reference: cut -/
section C80y0
variable {l : Launch} {G : xG} {M : xM} {d kc ks : Nat} {Φ : Option xV → yH → Nat → Prop} {h : yH} {n : Nat} {pc : Nat} {L : List (Option xV)} {st : List xV} {b : Nat} {g : yH} {i0 i1 i2 i3 i4 i5 i6 : Int} {B J : Nat → Int}
theorem m_pMX (hM : xOK M) {idx a j : Nat} {v k0 k1 k2 k3 k4 k5 k6 : Int} {g0 : yH} (hI : MI b g h) (hf : RF b g B J i0 i1 i2 i3 i4 i5 i6) (hs : SM b g0 g) (kk : ∀ g' h', SM b g0 g' → RF b g' B J k0 k1 k2 k3 k4 k5 k6 → MI b g' h' → (∀ q, q ≠ b + 540 → h' q = h q) → YW l G M d kc ks Φ (pc + 3) L st h' n) (he : ∃ fs, mo (b + 540) i0 i1 i2 i3 i4 i5 i6 = ob 7 fs ∧ ob 7 (fs.set j (vi v)) = mo (b + 540) k0 k1 k2 k3 k4 k5 k6 ∧ j < fs.length) (y1 : 0 ≤ k0) (y2 : k0 ≤ 96) (y3 : -2147483648 ≤ k5) (y4 : k5 ≤ 2147483647) (hd : xat M pc = some (.putfield idx, 3) := by rfl) (hl : M.2.2.2.2.2.2.lookup idx = some (7, j) := by rfl) (hfin : xfin 7 j = false := by rfl) (hn : narrow (xty 7 j) (den (vi v)) = den (vi v) := by rfl) (hfit : fits (xty 7 j) (den (vi v)) = true := by rfl) (ha : a = b + 540 := by rfl) : YW l G M d kc ks Φ pc L (vi v :: vr a :: st) h n := by
  obtain ⟨fs, e1, e2, e3⟩ := he
  have hm := hf.1
  rw [e1] at hm
  subst ha
  refine y_put hM hd hl (hI.x (k := 540) rfl hm) hfin hn hfit ?_ e3
  rw [e2]
  exact kk (yup g (b + 540) (mo (b + 540) k0 k1 k2 k3 k4 k5 k6)) _ (hs.up _) (hf.put y1 y2 y3 y4) (hI.upx _ rfl) (fun q hq => yup_ne _ _ hq)
end C80y0
section C80y
variable {l : Launch} {G : xG} {h h0 : yH} {n : Nat} {b : Nat} {g : yH} {i0 i1 i2 i3 i4 i5 i6 : Int} {B J : Nat → Int} {C Q R O P W D : Nat → Int} {S : Nat → Bool} {x a : Nat}
theorem s_cut4E (hf : RF b g B J i0 i1 i2 i3 i4 i5 i6) {Φ : Option xV → yH → Nat → Prop} {p : Nat} {w2 w3 : Option xV} {w4 : Int} (p2 : p < 128) (kk : ∀ (u5 : Option xV) (C' : Nat → Int) (h : yH), MI b g h → h (b + 546) = some (az 16384 C') → (∀ z, z ≠ b + 546 → h z = h0 z) → (∀ i j, i < 128 → j < 128 → (C' (128 * i + j) = 1 ↔ i ≠ p ∧ j ≠ p ∧ C (128 * i + j) = 1)) → YW l G mX7_cut 3 0 0 Φ 178 [some (vr (b + 540)), some (vi (p : Int)), w2, w3, some (vi w4), u5] [] h n) : ∀ (m : Nat) (q : Nat) (C' : Nat → Int) (h : yH), 128 - q < m → q ≤ 128 → MI b g h → h (b + 546) = some (az 16384 C') → (∀ z, z ≠ b + 546 → h z = h0 z) → (∀ i j, i < 128 → j < 128 → (C' (128 * i + j) = 1 ↔ ¬ (i = p ∧ j < q) ∧ ¬ (j = p ∧ i < q) ∧ C (128 * i + j) = 1)) → YW l G mX7_cut 3 0 0 Φ 136 [some (vr (b + 540)), some (vi (p : Int)), w2, w3, some (vi w4), some (vi (q : Int))] [] h n := by
  intro m
  induction m with
  | zero => intro q C' h hm; exact absurd hm (Nat.not_lt_zero _)
  | succ m ih =>
    intro q C' h hmm j1 hI e46 hfr hC
    obtain ⟨hm, -⟩ := id hf
    have hCb : ∀ j, C' j = 0 ∨ C' j = 1 := by
      obtain ⟨F, e, hF⟩ := hI.z (k := 546) (N := 16384) (lo := 0) (hi := 0) rfl
      rw [az_inj e46 e]
      exact hF
    refine y_run kX7_cut rfl ?_
    refine y_ic_ge kX7_cut rfl rfl (fun c1 => ?_) (fun c1 => ?_)
    · refine kk _ C' h hI e46 hfr (fun i j hi hj => ?_)
      rw [hC i j hi hj]
      constructor
      · rintro ⟨k1, k2, k3⟩
        exact ⟨fun e => k1 ⟨e, by omega⟩, fun e => k2 ⟨e, by omega⟩, k3⟩
      · rintro ⟨k1, k2, k3⟩
        exact ⟨fun e => k1 e.1, fun e => k2 e.1, k3⟩
    · refine y_run kX7_cut rfl ?_
      refine m_get kX7_cut (540) hI hm ?_
      refine y_run kX7_cut rfl ?_
      refine y_zs kX7_cut rfl e46 (by omega) (by omega) (Or.inl rfl) ?_
      refine YW.genP (P := fun y => MI b g y ∧ y (b + 546) = some (az 16384 (upZ C' (128 * p + q) 0)) ∧ ∀ z, z ≠ b + 546 → y z = h0 z) ⟨hI.up (k := 546) rfl ⟨_, rfl, upZ_all (P := fun x => x = 0 ∨ x = 1) hCb _ (Or.inl rfl)⟩, by rw [show (128 * (p : Int) + (q : Int)).toNat = 128 * p + q by omega]; exact yup_eq _ _ _, fun z hz => (yup_ne _ _ hz).trans (hfr z hz)⟩ (fun h1 ⟨hI1, e1, hfr1⟩ => ?_)
      refine y_run kX7_cut rfl ?_
      refine m_get kX7_cut (540) hI1 hm ?_
      refine y_run kX7_cut rfl ?_
      refine y_zs kX7_cut rfl e1 (by omega) (by omega) (Or.inl rfl) ?_
      refine YW.genP (P := fun y => MI b g y ∧ y (b + 546) = some (az 16384 (upZ (upZ C' (128 * p + q) 0) (128 * q + p) 0)) ∧ ∀ z, z ≠ b + 546 → y z = h0 z) ⟨hI1.up (k := 546) rfl ⟨_, rfl, upZ_all (P := fun x => x = 0 ∨ x = 1) (upZ_all (P := fun x => x = 0 ∨ x = 1) hCb _ (Or.inl rfl)) _ (Or.inl rfl)⟩, by rw [show (128 * (q : Int) + (p : Int)).toNat = 128 * q + p by omega]; exact yup_eq _ _ _, fun z hz => (yup_ne _ _ hz).trans (hfr1 z hz)⟩ (fun h2 ⟨hI2, e2, hfr2⟩ => ?_)
      refine y_run kX7_cut rfl ?_
      refine YW.Le (congrArg (fun z : Int => [some (vr (b + 540)), some (vi (p : Int)), w2, w3, some (vi w4), some (vi z)]) (show (q : Int) + 1 = ((q + 1 : Nat) : Int) by omega)) ?_
      refine ih (q + 1) _ h2 (by omega) (by omega) hI2 e2 hfr2 (fun i j hi hj => ?_)
      by_cases k2 : i = q ∧ j = p
      · rw [show 128 * i + j = 128 * q + p by omega, upZ_eq]
        exact ⟨fun z => absurd z (by omega), fun z => absurd ⟨k2.2, by omega⟩ z.2.1⟩
      · rw [upZ_ne _ _ (by omega)]
        by_cases k1 : i = p ∧ j = q
        · rw [show 128 * i + j = 128 * p + q by omega, upZ_eq]
          exact ⟨fun z => absurd z (by omega), fun z => absurd ⟨k1.1, by omega⟩ z.1⟩
        · rw [upZ_ne _ _ (by omega), hC i j hi hj]
          constructor
          · rintro ⟨a1, a2, a3⟩
            exact ⟨fun z => a1 ⟨z.1, by omega⟩, fun z => a2 ⟨z.1, by omega⟩, a3⟩
          · rintro ⟨a1, a2, a3⟩
            exact ⟨fun z => a1 ⟨z.1, by omega⟩, fun z => a2 ⟨z.1, by omega⟩, a3⟩
theorem s_cut3E (hf : RF b g B J i0 i1 i2 i3 i4 i5 i6) {Φ : Option xV → yH → Nat → Prop} {p y : Nat} {w2 w3 : Option xV} (p2 : p < 128) (y2 : y < 128) (hne : y ≠ p) (hQb : ∀ j, -1 ≤ Q j ∧ Q j ≤ 127) (kk : ∀ (u5 : Option xV) (Q' : Nat → Int) (h : yH), MI b g h → h (b + 545) = some (ai 1024 Q') → (∀ z, z ≠ b + 545 → h z = h0 z) → (∀ j, Q' j = if 8 * y ≤ j ∧ j < 8 * y + 8 then Q (8 * p + (j - 8 * y)) else Q j) → YW l G mX7_cut 3 0 0 Φ 100 [some (vr (b + 540)), some (vi (p : Int)), w2, w3, some (vi (y : Int)), u5] [] h n) : ∀ (m : Nat) (q : Nat) (Q' : Nat → Int) (h : yH), 8 - q < m → q ≤ 8 → MI b g h → h (b + 545) = some (ai 1024 Q') → (∀ z, z ≠ b + 545 → h z = h0 z) → (∀ j, Q' j = if 8 * y ≤ j ∧ j < 8 * y + q then Q (8 * p + (j - 8 * y)) else Q j) → YW l G mX7_cut 3 0 0 Φ 62 [some (vr (b + 540)), some (vi (p : Int)), w2, w3, some (vi (y : Int)), some (vi (q : Int))] [] h n := by
  intro m
  induction m with
  | zero => intro q Q' h hm; exact absurd hm (Nat.not_lt_zero _)
  | succ m ih =>
    intro q Q' h hmm j1 hI e45 hfr hQ
    obtain ⟨hm, -⟩ := id hf
    refine y_run kX7_cut rfl ?_
    refine y_ic_ge kX7_cut rfl rfl (fun c1 => ?_) (fun c1 => ?_)
    · have e : q = 8 := by omega
      subst e
      exact kk _ Q' h hI e45 hfr hQ
    · have rd : Q' (8 * (p : Int) + (q : Int)).toNat = Q (8 * p + q) := by
        rw [show (8 * (p : Int) + (q : Int)).toNat = 8 * p + q by omega, hQ, if_neg (by omega)]
      have hQb' : ∀ j, -1 ≤ Q' j ∧ Q' j ≤ 127 := fun j => by
        rw [hQ j]
        split
        · exact hQb _
        · exact hQb _
      refine y_run kX7_cut rfl ?_
      refine m_get kX7_cut (540) hI hm ?_
      refine y_run kX7_cut rfl ?_
      refine m_get kX7_cut (540) hI hm ?_
      refine y_run kX7_cut rfl ?_
      refine y_ia kX7_cut rfl e45 (by omega) (by omega) ?_
      refine y_is kX7_cut rfl e45 (by omega) (by omega) ?_
      refine YW.genP (P := fun y' => MI b g y' ∧ y' (b + 545) = some (ai 1024 (upZ Q' (8 * y + q) (Q (8 * p + q)))) ∧ ∀ z, z ≠ b + 545 → y' z = h0 z) ⟨hI.up (k := 545) rfl ⟨_, rfl, upZ_all (P := fun z => -1 ≤ z ∧ z ≤ 127) hQb' _ (hQb' _)⟩, by rw [rd, show (8 * (y : Int) + (q : Int)).toNat = 8 * y + q by omega]; exact yup_eq _ _ _, fun z hz => (yup_ne _ _ hz).trans (hfr z hz)⟩ (fun h1 ⟨hI1, e1, hfr1⟩ => ?_)
      refine y_run kX7_cut rfl ?_
      refine YW.Le (congrArg (fun z : Int => [some (vr (b + 540)), some (vi (p : Int)), w2, w3, some (vi (y : Int)), some (vi z)]) (show (q : Int) + 1 = ((q + 1 : Nat) : Int) by omega)) ?_
      refine ih (q + 1) _ h1 (by omega) (by omega) hI1 e1 hfr1 (fun j => ?_)
      by_cases e : j = 8 * y + q
      · subst e
        rw [upZ_eq, if_pos (by omega)]
        congr 1
        omega
      · rw [upZ_ne _ _ e, hQ j]
        by_cases c : 8 * y ≤ j ∧ j < 8 * y + q
        · rw [if_pos c, if_pos (by omega)]
        · rw [if_neg c, if_neg (by omega)]
/-- what cut leaves -/
def PCt (b : Nat) (g h0 : yH) (n : Nat) (B J : Nat → Int) (i0 i1 i2 i3 i4 i5 : Int) (O P W : Nat → Int) (S : Nat → Bool) (x : Nat) (D : Nat → Int) (a : Nat) : Option xV → yH → Nat → Prop := fun r h' n' => ∃ g' Q' C', r = none ∧ SM b g g' ∧ MI b g' h' ∧ n' = n ∧ h' (b + 545) = some (ai 1024 Q') ∧ h' (b + 546) = some (az 16384 C') ∧ (∀ z, z ≠ b + 540 → z ≠ b + 545 → z ≠ b + 546 → z ≠ b + 547 → z ≠ b + 548 → h' z = h0 z) ∧ (((∀ i ax v, S i = true → ax < 3 → ¬ inP P S i ax v) ∧ RF b g' B J i0 i1 i2 i3 i4 i5 (x : Int) ∧ AG Q' C' O P W S x D a) ∨ ∃ i ax v, ctQ P S i ax v ∧ RF b g' B J i0 i1 i2 i3 i4 i5 ((x + 1 : Nat) : Int) ∧ AG Q' C' O (ctP P x i ax v) (upZ W x (W i)) (fun j => S j || decide (j = x)) (x + 1) D a)
set_option maxHeartbeats 2000000 in
theorem s_cut2E (hf : RF b g B J i0 i1 i2 i3 i4 i5 (x : Int)) (hag : AG Q C O P W S x D a) (hin : INs P S x) (hx : x < 120) (hQb : ∀ j, -1 ≤ Q j ∧ Q j ≤ 127) (hR : ∀ i j, i < 128 → j < 128 → (R (128 * i + j) = 1 ↔ TC (cC P S) i j)) {p : Nat} (p2 : p < 128) (hI : MI b g h) (e45 : h (b + 545) = some (ai 1024 Q)) (e46 : h (b + 546) = some (az 16384 C)) (e47 : h (b + 547) = some (az 16384 R)) (hfr : ∀ z, z ≠ b + 547 → h z = h0 z) (hlow : ∀ i', i' < p → S i' = true → ∀ ax', ax' < 3 → ∀ v', ¬ inP P S i' ax' v') (kk : ∀ (u2 : Option xV) (u3 : Option xV) (u4 : Option xV) (u5 : Option xV), (S p = true → ∀ ax', ax' < 3 → ∀ v', ¬ inP P S p ax' v') → YW l G mX7_cut 3 0 0 (PCt b g h0 n B J i0 i1 i2 i3 i4 i5 O P W S x D a) 192 [some (vr (b + 540)), some (vi (p : Int)), u2, u3, u4, u5] [] h n) : ∀ (m : Nat) (y : Nat) (u3 : Option xV) (u4 : Option xV) (u5 : Option xV), 3 - y < m → y ≤ 3 → (∀ ax', ax' < y → ∀ v', ¬ inP P S p ax' v') → YW l G mX7_cut 3 0 0 (PCt b g h0 n B J i0 i1 i2 i3 i4 i5 O P W S x D a) 15 [some (vr (b + 540)), some (vi (p : Int)), some (vi (y : Int)), u3, u4, u5] [] h n := by
  intro m
  induction m with
  | zero => intro y u3 u4 u5 hm; exact absurd hm (Nat.not_lt_zero _)
  | succ m ih =>
    intro y u3 u4 u5 hmm j1 hno
    obtain ⟨hm, -, -, -, -, -, -, hi1, hi2, hi3, hi4⟩ := id hf
    have hs := SM.r b g
    refine y_run kX7_cut rfl ?_
    refine y_ic_ge kX7_cut rfl rfl (fun c1 => ?_) (fun c1 => ?_)
    · exact kk _ _ _ _ (fun _ ax' hax => hno ax' (by omega))
    · have nx := ih (y + 1)
      refine y_run kX7_cut rfl ?_
      refine y_cv kX7_cut kX7_isLeft 1 rfl (hI.x (k := 540) rfl hm) (by decide +kernel) (e_isLeft hf (p := p) p2 hI e45) rfl rfl ?_
      rintro _ h2 _ ⟨⟨rfl, lp⟩ | ⟨rfl, lp⟩, eh, rfl⟩
      · subst eh
        have sp := (hag.lf p p2).mp lp
        have px := (hin.2.1 p sp).1
        obtain ⟨g1, g2⟩ := hag.e0 sp (show y < 3 by omega)
        have b1 := hin.1 (6 * p + 2 * y)
        have b2 := hin.1 (6 * p + 2 * y + 1)
        refine y_if_eq kX7_cut rfl rfl (fun e => absurd e (by omega)) (fun _ => ?_)
        refine y_run kX7_cut rfl ?_
        refine y_cv kX7_cut kX7_plane 2 rfl (hI.x (k := 540) rfl hm) (by decide +kernel) (e_plane hf p2 (y := y) (by omega) hI e45 e47 (by omega)) rfl rfl ?_
        rintro _ h3 _ ⟨⟨v, rfl, hv⟩, eh, rfl⟩
        subst eh
        replace hv := bsI_cg (fun w => hag.inq hR sp (show y < 3 by omega) w) hv
        rcases hv with ⟨rfl, hv⟩ | ⟨hv1, hv2⟩
        · refine y_run kX7_cut rfl ?_
          refine y_ic_ne kX7_cut rfl rfl (fun e => absurd rfl e) (fun _ => ?_)
          refine y_run kX7_cut rfl ?_
          refine YW.Le (congrArg (fun z : Int => [some (vr (b + 540)), some (vi (p : Int)), some (vi z), some (vi (-1)), u4, u5]) (show (y : Int) + 1 = ((y + 1 : Nat) : Int) by omega)) ?_
          refine nx _ _ _ (by omega) (by omega) (fun ax' hax v' => ?_)
          by_cases e : ax' = y
          · subst e; exact hv v'
          · exact hno ax' (by omega) v'
        · have w := hv1.1
          have hq : ctQ P S p y v := ⟨sp, by omega, ⟨hv1, hv2⟩, hno, hlow⟩
          refine y_run kX7_cut rfl ?_
          refine y_ic_ne kX7_cut rfl rfl (fun _ => ?_) (fun e => absurd e (by omega))
          refine y_run kX7_cut rfl ?_
          refine m_get kX7_cut (540) hI hm ?_
          refine y_run kX7_cut rfl ?_
          refine m_get kX7_cut (540) hI hm ?_
          refine y_run kX7_cut rfl ?_
          refine m_pMX (k0 := i0) (k1 := i1) (k2 := i2) (k3 := i3) (k4 := i4) (k5 := i5) (k6 := (x : Int) + 1) kX7_cut hI hf hs (fun gA hA hs hfA hI hfrA => ?_) ⟨_, rfl, rfl, Nat.le_of_ble_eq_true rfl⟩ hi1 hi2 hi3 hi4
          obtain ⟨hm, -⟩ := id hfA
          refine y_run kX7_cut rfl ?_
          refine YW.Le (congrArg (fun z : Int => [some (vr (b + 540)), some (vi (p : Int)), some (vi (y : Int)), some (vi v), some (vi (x : Int)), some (vi z)]) (show (0 : Int) = ((0 : Nat) : Int) by omega)) ?_
          refine s_cut3E (h0 := hA) (Q := Q) hfA p2 (y := x) (by omega) (by omega) hQb (fun u5 Q1 hB hIB eB hfrB hQ1 => ?_) 9 0 Q hA (by omega) (by omega) hI ((hfrA _ (by omega)).trans e45) (fun _ _ => rfl) (fun j => by rw [if_neg (by omega)])
          have hQb1 : ∀ j, -1 ≤ Q1 j ∧ Q1 j ≤ 127 := fun j => by
            rw [hQ1 j]
            split
            · exact hQb _
            · exact hQb _
          refine y_run kX7_cut rfl ?_
          refine m_get kX7_cut (540) hIB hm ?_
          refine y_run kX7_cut rfl ?_
          refine y_is kX7_cut rfl eB (by omega) (by omega) ?_
          refine YW.genP (P := fun y' => MI b gA y' ∧ y' (b + 545) = some (ai 1024 (upZ Q1 (8 * p + 2 + 2 * y) v)) ∧ ∀ z, z ≠ b + 545 → y' z = hA z) ⟨hIB.up (k := 545) rfl ⟨_, rfl, upZ_all (P := fun z => -1 ≤ z ∧ z ≤ 127) hQb1 _ (by omega)⟩, by rw [show (8 * (p : Int) + 2 + 2 * (y : Int)).toNat = 8 * p + 2 + 2 * y by omega]; exact yup_eq _ _ _, fun z hz => (yup_ne _ _ hz).trans (hfrB z hz)⟩ (fun hD ⟨hID, eD, hfrD⟩ => ?_)
          refine y_run kX7_cut rfl ?_
          refine m_get kX7_cut (540) hID hm ?_
          refine y_run kX7_cut rfl ?_
          refine y_is kX7_cut rfl eD (by omega) (by omega) ?_
          refine YW.genP (P := fun y' => MI b gA y' ∧ y' (b + 545) = some (ai 1024 (upZ (upZ Q1 (8 * p + 2 + 2 * y) v) (8 * x + 1 + 2 * y) v)) ∧ ∀ z, z ≠ b + 545 → y' z = hA z) ⟨hID.up (k := 545) rfl ⟨_, rfl, upZ_all (P := fun z => -1 ≤ z ∧ z ≤ 127) (upZ_all (P := fun z => -1 ≤ z ∧ z ≤ 127) hQb1 _ (by omega)) _ (by omega)⟩, by rw [show (8 * (x : Int) + 1 + 2 * (y : Int)).toNat = 8 * x + 1 + 2 * y by omega]; exact yup_eq _ _ _, fun z hz => (yup_ne _ _ hz).trans (hfrD z hz)⟩ (fun hE ⟨hIE, eE, hfrE⟩ => ?_)
          have q1 : ∀ i k, i < 128 → k < 8 → i ≠ p → i ≠ x → upZ (upZ Q1 (8 * p + 2 + 2 * y) v) (8 * x + 1 + 2 * y) v (8 * i + k) = Q (8 * i + k) := fun i k hi hk hip hix => by
            rw [upZ_ne _ _ (by omega), upZ_ne _ _ (by omega), hQ1, if_neg (by omega)]
          have q2 : ∀ k, k < 8 → upZ (upZ Q1 (8 * p + 2 + 2 * y) v) (8 * x + 1 + 2 * y) v (8 * p + k) = if k = 2 + 2 * y then v else Q (8 * p + k) := fun k hk => by
            rw [upZ_ne _ _ (by omega)]
            by_cases e : k = 2 + 2 * y
            · rw [if_pos e, show 8 * p + k = 8 * p + 2 + 2 * y by omega, upZ_eq]
            · rw [if_neg e, upZ_ne _ _ (by omega), hQ1, if_neg (by omega)]
          have q3 : ∀ k, k < 8 → upZ (upZ Q1 (8 * p + 2 + 2 * y) v) (8 * x + 1 + 2 * y) v (8 * x + k) = if k = 1 + 2 * y then v else Q (8 * p + k) := fun k hk => by
            by_cases e : k = 1 + 2 * y
            · rw [if_pos e, show 8 * x + k = 8 * x + 1 + 2 * y by omega, upZ_eq]
            · rw [if_neg e, upZ_ne _ _ (by omega), upZ_ne _ _ (by omega), hQ1, if_pos (by omega)]
              congr 1
              omega
          have f46 : hE (b + 546) = some (az 16384 C) := (hfrE _ (by omega)).trans ((hfrA _ (by omega)).trans e46)
          refine y_run kX7_cut rfl ?_
          refine YW.Le (congrArg (fun z : Int => [some (vr (b + 540)), some (vi (p : Int)), some (vi (y : Int)), some (vi v), some (vi (x : Int)), some (vi z)]) (show (0 : Int) = ((0 : Nat) : Int) by omega)) ?_
          refine s_cut4E (h0 := hE) (C := C) hfA p2 (fun u5 C1 hF hIF eF hfrF hC1 => ?_) 129 0 C hE (by omega) (by omega) hIE f46 (fun _ _ => rfl) (fun i j _ _ => ⟨fun z => ⟨by omega, by omega, z⟩, fun z => z.2.2⟩)
          have p0 := hag.q0 sp
          refine y_run kX7_cut rfl ?_
          refine y_cv kX7_cut kX7_gather 2 rfl (hIF.x (k := 540) rfl hm) (by decide +kernel) (e_gatherW hfA p2 (q := x) (by omega) (by have := q2 0 (by omega); rw [if_neg (by omega)] at this; exact fun z => p0 (this.symm.trans z)) (by have := q3 0 (by omega); rw [if_neg (by omega)] at this; exact fun z => p0 (this.symm.trans z)) hIF ((hfrF _ (by omega)).trans eE) eF) rfl rfl ?_
          rintro _ hH _ ⟨C2, rfl, hIH, eH, hfrH, hC2, rfl⟩
          refine y_vr kX7_cut rfl rfl ⟨gA, _, C2, rfl, hs, hIH, rfl, (hfrH _ (by omega) (by omega)).trans ((hfrF _ (by omega)).trans eE), eH, fun z z0 z1 z2 z3 z4 => (hfrH z z2 z4).trans ((hfrF z z2).trans ((hfrE z z1).trans ((hfrA z z0).trans (hfr z z3)))), Or.inr ⟨p, y, v, hq, hfA, ?_⟩⟩
          refine hag.cut hin (by omega) sp (by omega) w.1 w.2 q1 q2 q3 (fun i j hi hj => ?_)
          have k := hC2 i j hi hj
          dsimp only at k
          rw [k, hC1 i j hi hj]
      · subst eh
        refine y_if_eq kX7_cut rfl rfl (fun _ => ?_) (fun e => absurd rfl e)
        exact kk _ _ _ _ (fun z => absurd ((hag.lf p p2).mpr z) lp)
theorem s_cut1E (hf : RF b g B J i0 i1 i2 i3 i4 i5 (x : Int)) (hag : AG Q C O P W S x D a) (hin : INs P S x) (hx : x < 120) (hQb : ∀ j, -1 ≤ Q j ∧ Q j ≤ 127) (hR : ∀ i j, i < 128 → j < 128 → (R (128 * i + j) = 1 ↔ TC (cC P S) i j)) (hI : MI b g h) (e45 : h (b + 545) = some (ai 1024 Q)) (e46 : h (b + 546) = some (az 16384 C)) (e47 : h (b + 547) = some (az 16384 R)) (hfr : ∀ z, z ≠ b + 547 → h z = h0 z) : ∀ (m : Nat) (p : Nat) (u2 : Option xV) (u3 : Option xV) (u4 : Option xV) (u5 : Option xV), 128 - p < m → p ≤ 128 → (∀ i', i' < p → S i' = true → ∀ ax', ax' < 3 → ∀ v', ¬ inP P S i' ax' v') → YW l G mX7_cut 3 0 0 (PCt b g h0 n B J i0 i1 i2 i3 i4 i5 O P W S x D a) 6 [some (vr (b + 540)), some (vi (p : Int)), u2, u3, u4, u5] [] h n := by
  intro m
  induction m with
  | zero => intro p u2 u3 u4 u5 hm; exact absurd hm (Nat.not_lt_zero _)
  | succ m ih =>
    intro p u2 u3 u4 u5 hmm j1 hno
    obtain ⟨hm, -⟩ := id hf
    refine y_run kX7_cut rfl ?_
    refine y_ic_ge kX7_cut rfl rfl (fun c1 => ?_) (fun c1 => ?_)
    · exact y_vr kX7_cut rfl rfl ⟨g, Q, C, rfl, SM.r b g, hI, rfl, e45, e46, fun z _ _ _ z3 _ => hfr z z3, Or.inl ⟨fun i ax v hi ha => hno i (by have := hag.sb i hi; omega) hi ax ha v, hf, hag⟩⟩
    · refine y_run kX7_cut rfl ?_
      refine YW.Le (congrArg (fun z : Int => [some (vr (b + 540)), some (vi (p : Int)), some (vi z), u3, u4, u5]) (show (0 : Int) = ((0 : Nat) : Int) by omega)) ?_
      refine s_cut2E hf hag hin hx hQb hR (p := p) (by omega) hI e45 e46 e47 hfr hno (fun u2 u3 u4 u5 hz => ?_) 4 0 _ _ _ (by omega) (by omega) (fun ax' hax => absurd hax (Nat.not_lt_zero _))
      refine y_run kX7_cut rfl ?_
      refine YW.Le (congrArg (fun z : Int => [some (vr (b + 540)), some (vi z), u2, u3, u4, u5]) (show (p : Int) + 1 = ((p + 1 : Nat) : Int) by omega)) ?_
      refine ih (p + 1) _ _ _ _ (by omega) (by omega) (fun i' hi' => ?_)
      by_cases e : i' = p
      · subst e; exact hz
      · exact hno i' (by omega)
theorem e_cut (hf : RF b g B J i0 i1 i2 i3 i4 i5 (x : Int)) (hag : AG Q C O P W S x D a) (hin : INs P S x) (hx : x < 120) (hI : MI b g h) (e45 : h (b + 545) = some (ai 1024 Q)) (e46 : h (b + 546) = some (az 16384 C)) : YM l G mX7_cut 3 0 0 [vr (b + 540)] h n (PCt b g h n B J i0 i1 i2 i3 i4 i5 O P W S x D a) := by
  refine YM.of kX7_cut (Nat.le_of_ble_eq_true rfl) (L0 := [some (vr (b + 540)), none, none, none, none, none]) rfl ?_
  obtain ⟨hm, -⟩ := id hf
  have hQb : ∀ j, -1 ≤ Q j ∧ Q j ≤ 127 := by
    obtain ⟨F, e, hF⟩ := hI.i (k := 545) (N := 1024) (lo := -1) (hi := 127) rfl
    rw [ai_inj e45 e]
    exact hF
  refine y_run kX7_cut rfl ?_
  refine y_cv kX7_cut kX7_close 0 rfl (hI.x (k := 540) rfl hm) (by decide +kernel) (e_close hf hI e45 e46) rfl rfl ?_
  rintro _ h1 _ ⟨R, rfl, ⟨hI1, e47, hfr, hR⟩, rfl⟩
  refine y_run kX7_cut rfl ?_
  refine YW.Le (congrArg (fun z : Int => [some (vr (b + 540)), some (vi z), none, none, none, none]) (show (0 : Int) = ((0 : Nat) : Int) by omega)) ?_
  refine s_cut1E hf hag hin hx hQb (fun i j hi hj => ?_) hI1 ((hfr _ (by omega)).trans e45) ((hfr _ (by omega)).trans e46) e47 hfr 129 0 _ _ _ _ (by omega) (by omega) (fun i' hi' => absurd hi' (Nat.not_lt_zero _))
  rw [hR i j hi hj, WR_TC (fun i j k => ⟨k.1, k.2.1⟩) i j, hag.cl]
end C80y
