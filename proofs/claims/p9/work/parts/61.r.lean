/-! the pieces of a drawing, as far as bounds go -/
theorem nT {o j : Nat} (ho : o = 20 ∨ o = 270) (h7 : 7 ≤ j) (hj : j < 250) : rTb (o + j) = some (3, 0, 0, 0) := by rw [rTb_p ho hj, pTb_n h7]
theorem t0 {o : Nat} (ho : o = 20 ∨ o = 270) : rTb o = none := rTb_p (j := 0) ho (by omega)
theorem t1 {o : Nat} (ho : o = 20 ∨ o = 270) : rTb (o + 1) = some (0, 720, 0, 32) := rTb_p ho (by omega)
theorem t2 {o : Nat} (ho : o = 20 ∨ o = 270) : rTb (o + 2) = some (0, 120, 0, 23) := rTb_p ho (by omega)
theorem t3 {o : Nat} (ho : o = 20 ∨ o = 270) : rTb (o + 3) = some (0, 96, 0, 119) := rTb_p ho (by omega)
theorem t4 {o : Nat} (ho : o = 20 ∨ o = 270) : rTb (o + 4) = none := rTb_p ho (by omega)
theorem t5 {o : Nat} (ho : o = 20 ∨ o = 270) : rTb (o + 5) = none := rTb_p ho (by omega)
theorem t6 {o : Nat} (ho : o = 20 ∨ o = 270) : rTb (o + 6) = none := rTb_p ho (by omega)
def pO (b o : Nat) (a c x : Int) : yE := ob 3 [vr (b + (o + 1)), vr (b + (o + 2)), vr (b + (o + 3)), vi a, vi c, vi x, vr (b + (o + 4)), vr (b + (o + 5)), vr (b + (o + 6)), vr (b + (o + 7)), vr (b + (o + 8)), vr (b + (o + 9))]
def PF0 (b o : Nat) (g : yH) (S : Nat → Bool) (a c x : Int) : Prop := (o = 20 ∨ o = 270) ∧ g (b + o) = some (pO b o a c x) ∧ NA g (b + (o + 4)) S ∧ (∃ F, g (b + (o + 5)) = some (aq 3 120 F) ∧ ∀ k, k < 120 → F k = some (b + (o + (10 + 2 * k)))) ∧ ∃ F, g (b + (o + 6)) = some (aq 3 120 F) ∧ ∀ k, k < 120 → F k = some (b + (o + (11 + 2 * k)))
/-- the rows of these pieces are free -/
def FR (b o : Nat) (g : yH) : Prop := g (b + (o + 1)) = none ∧ g (b + (o + 2)) = none ∧ g (b + (o + 3)) = none
def PF (b o : Nat) (g : yH) (S : Nat → Bool) (a c x : Int) : Prop := ((o = 20 ∨ o = 270) ∧ g (b + (o + 1)) = none ∧ g (b + (o + 2)) = none ∧ g (b + (o + 3)) = none) ∧ g (b + o) = some (pO b o a c x) ∧ NA g (b + (o + 4)) S ∧ (∃ F, g (b + (o + 5)) = some (aq 3 120 F) ∧ ∀ k, k < 120 → F k = some (b + (o + (10 + 2 * k)))) ∧ ∃ F, g (b + (o + 6)) = some (aq 3 120 F) ∧ ∀ k, k < 120 → F k = some (b + (o + (11 + 2 * k)))
theorem PF.p0 {b o : Nat} {g : yH} {S : Nat → Bool} {a c x : Int} (hf : PF b o g S a c x) : PF0 b o g S a c x := ⟨hf.1.1, hf.2⟩
theorem PF.fr {b o : Nat} {g : yH} {S : Nat → Bool} {a c x : Int} (hf : PF b o g S a c x) : FR b o g := hf.1.2
theorem PF0.pf {b o : Nat} {g : yH} {S : Nat → Bool} {a c x : Int} (hf : PF0 b o g S a c x) (hr : FR b o g) : PF b o g S a c x := ⟨⟨hf.1, hr⟩, hf.2⟩
def SP (b o : Nat) (g g' : yH) : Prop := ∀ q, q ≠ b + o → q ≠ b + (o + 4) → g' q = g q
theorem SP.r (b o : Nat) (g : yH) : SP b o g g := fun _ _ _ => rfl
theorem SP.t {b o : Nat} {g g' g'' : yH} (h1 : SP b o g g') (h2 : SP b o g' g'') : SP b o g g'' := fun q q1 q2 => (h2 q q1 q2).trans (h1 q q1 q2)
theorem PF.upO {b o : Nat} {g : yH} {S : Nat → Bool} {a c x : Int} (hf : PF b o g S a c x) (a' c' x' : Int) : PF b o (yup g (b + o) (pO b o a' c' x')) S a' c' x' := by
  obtain ⟨⟨ho, hw1, hw2, hw3⟩, hp, ⟨lo, hi, hL, hLb⟩, ⟨Fb, hFb, hFb2⟩, ⟨Fa, hFa, hFa2⟩⟩ := hf
  exact ⟨⟨ho, (yup_ne _ _ (by omega)).trans hw1, (yup_ne _ _ (by omega)).trans hw2, (yup_ne _ _ (by omega)).trans hw3⟩, yup_eq _ _ _, ⟨lo, hi, (yup_ne _ _ (by omega)).trans hL, hLb⟩, ⟨Fb, (yup_ne _ _ (by omega)).trans hFb, hFb2⟩, ⟨Fa, (yup_ne _ _ (by omega)).trans hFa, hFa2⟩⟩
theorem PF.upL {b o : Nat} {g : yH} {S S' : Nat → Bool} {a c x : Int} (hf : PF b o g S a c x) {lo' hi' : Int64} (hb : NB lo' hi' S') : PF b o (yup g (b + (o + 4)) (ob 0 [vl lo', vl hi'])) S' a c x := by
  obtain ⟨⟨ho, hw1, hw2, hw3⟩, hp, ⟨lo, hi, hL, hLb⟩, ⟨Fb, hFb, hFb2⟩, ⟨Fa, hFa, hFa2⟩⟩ := hf
  exact ⟨⟨ho, (yup_ne _ _ (by omega)).trans hw1, (yup_ne _ _ (by omega)).trans hw2, (yup_ne _ _ (by omega)).trans hw3⟩, (yup_ne _ _ (by omega)).trans hp, ⟨lo', hi', yup_eq _ _ _, hb⟩, ⟨Fb, (yup_ne _ _ (by omega)).trans hFb, hFb2⟩, ⟨Fa, (yup_ne _ _ (by omega)).trans hFa, hFa2⟩⟩
theorem SP.upO {b o : Nat} {g g' : yH} (h1 : SP b o g g') (e : yE) : SP b o g (yup g' (b + o) e) := fun q q1 q2 => (yup_ne _ _ q1).trans (h1 q q1 q2)
theorem SP.upL {b o : Nat} {g g' : yH} (h1 : SP b o g g') (e : yE) : SP b o g (yup g' (b + (o + 4)) e) := fun q q1 q2 => (yup_ne _ _ q2).trans (h1 q q1 q2)
/-- another heap that has the same cells there -/
theorem PF.on {b o : Nat} {g g' : yH} {S : Nat → Bool} {a c x : Int} (hf : PF b o g S a c x) (hq : ∀ q, b + o ≤ q → q < b + (o + 7) → g' q = g q) : PF b o g' S a c x := by
  obtain ⟨⟨ho, hw1, hw2, hw3⟩, hp, ⟨lo, hi, hL, hLb⟩, ⟨Fb, hFb, hFb2⟩, ⟨Fa, hFa, hFa2⟩⟩ := hf
  exact ⟨⟨ho, (hq _ (by omega) (by omega)).trans hw1, (hq _ (by omega) (by omega)).trans hw2, (hq _ (by omega) (by omega)).trans hw3⟩, (hq _ (by omega) (by omega)).trans hp, ⟨lo, hi, (hq _ (by omega) (by omega)).trans hL, hLb⟩, ⟨Fb, (hq _ (by omega) (by omega)).trans hFb, hFb2⟩, ⟨Fa, (hq _ (by omega) (by omega)).trans hFa, hFa2⟩⟩
/-- another heap that has the same cells there -/
theorem PF0.on {b o : Nat} {g g' : yH} {S : Nat → Bool} {a c x : Int} (hf : PF0 b o g S a c x) (hq : ∀ q, b + o ≤ q → q < b + (o + 7) → g' q = g q) : PF0 b o g' S a c x := by
  obtain ⟨ho, hp, ⟨lo, hi, hL, hLb⟩, ⟨Fb, hFb, hFb2⟩, ⟨Fa, hFa, hFa2⟩⟩ := hf
  exact ⟨ho, (hq _ (by omega) (by omega)).trans hp, ⟨lo, hi, (hq _ (by omega) (by omega)).trans hL, hLb⟩, ⟨Fb, (hq _ (by omega) (by omega)).trans hFb, hFb2⟩, ⟨Fa, (hq _ (by omega) (by omega)).trans hFa, hFa2⟩⟩
/-- how many -/
def crd (S : Nat → Bool) : Nat → Nat
  | 0 => 0
  | k + 1 => crd S k + (if S k then 1 else 0)
theorem crd_off {S S' : Nat → Bool} : ∀ m : Nat, (∀ j, j < m → S j = S' j) → crd S m = crd S' m := by
  intro m
  induction m with
  | zero => intro _; rfl
  | succ m ih =>
    intro h
    unfold crd
    rw [ih (fun j hj => h j (by omega)), h m (by omega)]
theorem crd_add {S : Nat → Bool} {v : Nat} : ∀ m : Nat, v < m → S v = false → crd (fun j => S j || decide (j = v)) m = crd S m + 1 := by
  intro m
  induction m with
  | zero => intro h; omega
  | succ m ih =>
    intro hv hs
    unfold crd
    by_cases c : v = m
    · subst c
      rw [crd_off (S := fun j => S j || decide (j = v)) (S' := S) v (fun j hj => by simp [show j ≠ v from Nat.ne_of_lt hj])]
      simp [hs]
    · rw [ih (by omega) hs]
      have : m ≠ v := by omega
      simp [this]
      omega
theorem crd_same {S : Nat → Bool} {v : Nat} (m : Nat) (hs : S v = true) : crd (fun j => S j || decide (j = v)) m = crd S m := by
  apply crd_off
  intro j hj
  by_cases c : j = v
  · subst c; simp [hs]
  · simp [c]
theorem crd_rem {S : Nat → Bool} {v : Nat} : ∀ m : Nat, v < m → S v = true → crd (fun j => S j && !decide (j = v)) m + 1 = crd S m := by
  intro m
  induction m with
  | zero => intro h; omega
  | succ m ih =>
    intro hv hs
    unfold crd
    by_cases c : v = m
    · subst c
      rw [crd_off (S := fun j => S j && !decide (j = v)) (S' := S) v (fun j hj => by simp [show j ≠ v from Nat.ne_of_lt hj])]
      simp [hs]
    · have := ih (by omega) hs
      have h2 : m ≠ v := by omega
      simp [h2]
      omega
theorem crd_0 : ∀ m : Nat, crd (fun _ => false) m = 0 := by
  intro m
  induction m with
  | zero => rfl
  | succ m ih => unfold crd; rw [ih]; rfl
def nbits (lo hi : Int64) : Nat → Bool := fun k => if k < 64 then gb lo k else gb hi (k - 64)
theorem NA_any {h : yH} {a : Nat} {lo hi : Int64} (e : h a = some (ob 0 [vl lo, vl hi])) : NA h a (nbits lo hi) := ⟨lo, hi, e, fun k hk => ⟨by unfold nbits; rw [if_pos hk], by unfold nbits; rw [if_neg (by omega), show 64 + k - 64 = k by omega]⟩⟩
theorem NU.mi {b k N : Nat} {g h h' : yH} {lo hi : Int} {S : Nat → Bool} (hI : MI b g h) (hk : rTb k = some (3, N, lo, hi)) (hu : NU h h' (b + k) S) : MI b g h' := by
  obtain ⟨x, y, rfl, _⟩ := hu
  exact hI.up hk ⟨x, y, rfl⟩
section C73
variable {l : Launch} {G : xG} {M : xM} {d kc ks : Nat} {Φ Ψ : Option xV → yH → Nat → Prop} {h : yH} {n : Nat} {pc : Nat} {L : List (Option xV)} {st rest : List xV} {b : Nat} {g : yH}
theorem m_cvN (hM : xOK M) {N : xM} (hN : xOK N) (na : Nat) {idx d' mc ms k NN : Nat} {lo hi : Int} {As : List xV} (hI : MI b g h) (hk : rTb k = some (3, NN, lo, hi)) (hd : xat M pc = some (.invokevirtual idx, 3)) (hl : (xlb M N idx na && (xmem (.instanceMethod N.1) && (match vwCl[0]? with | some r => xmem (.selects r.1 N.1 N.1) | none => false))) = true) (hX : YM l G N d' mc ms (vr (b + k) :: As) h n Ψ) (hst : st = As.reverse ++ vr (b + k) :: rest) (hna : As.length = na)
    (kk : ∀ (v : Option xV) (h' : yH) (n' : Nat), Ψ v h' n' → YW l G M d (kc - mc) (ks - ms) Φ (pc + 3) L (v.toList ++ rest) h' n') (hd' : d' + 1 ≤ d := by omega) (hkc : mc ≤ kc := by omega) (hks : ms ≤ ks := by omega) (hrest : ((mS rest).map fun v => v.category).sum ≤ 8 := by exact Nat.le_of_ble_eq_true rfl) : YW l G M d kc ks Φ pc L st h n := by
  obtain ⟨x, y, e⟩ := hI.n hk
  exact y_cv hM hN na hd e hl hX hst hna kk hd' hkc hks hrest
variable {k : Nat} {v : Int}
theorem w_Nclear (hI : MI b g h) (hk : rTb k = some (3, 0, 0, 0)) : YM l G mX0_clear 0 0 0 [vr (b + k)] h n (PV b g n) := by
  obtain ⟨x, y, e⟩ := hI.n hk
  exact (c_Nclear (NA_any e)).imp (fun r h' n' q => ⟨q.1, q.2.1.mi hI hk, q.2.2⟩)
theorem w_Nadd (hI : MI b g h) (hk : rTb k = some (3, 0, 0, 0)) (h1 : 0 ≤ v) (h2 : v < 128) : YM l G mX0_add 0 0 0 [vr (b + k), vi v] h n (PV b g n) := by
  obtain ⟨x, y, e⟩ := hI.n hk
  exact (c_Nadd (NA_any e) h1 h2).imp (fun r h' n' q => ⟨q.1, q.2.1.mi hI hk, q.2.2⟩)
theorem w_Nremove (hI : MI b g h) (hk : rTb k = some (3, 0, 0, 0)) (h1 : 0 ≤ v) (h2 : v < 128) : YM l G mX0_remove 0 0 0 [vr (b + k), vi v] h n (PV b g n) := by
  obtain ⟨x, y, e⟩ := hI.n hk
  exact (c_Nremove (NA_any e) h1 h2).imp (fun r h' n' q => ⟨q.1, q.2.1.mi hI hk, q.2.2⟩)
theorem w_Nhas (hI : MI b g h) (hk : rTb k = some (3, 0, 0, 0)) (h1 : 0 ≤ v) (h2 : v < 128) : YM l G mX0_has 0 0 0 [vr (b + k), vi v] h n (PZ b g n 0 1) := by
  obtain ⟨x, y, e⟩ := hI.n hk
  refine (c_Nhas (NA_any e) h1 h2).imp (fun r h' n' q => ?_)
  obtain ⟨q1, rfl, q3⟩ := q
  exact ⟨_, q1, by split <;> omega, by split <;> omega, hI, q3⟩
theorem w_Nmeets {a2 : Nat} {S2 : Nat → Bool} (hI : MI b g h) (hk : rTb k = some (3, 0, 0, 0)) (h2 : NA h a2 S2) : YM l G mX0_meets 0 0 0 [vr (b + k), vr a2] h n (PZ b g n 0 1) := by
  obtain ⟨x, y, e⟩ := hI.n hk
  refine (c_Nmeets (NA_any e) h2).imp (fun r h' n' q => ?_)
  obtain ⟨⟨rfl, _⟩ | ⟨rfl, _⟩, rfl, q3⟩ := q
  · exact ⟨0, rfl, by omega, by omega, hI, q3⟩
  · exact ⟨1, rfl, by omega, by omega, hI, q3⟩
theorem w_Nkeep {k2 : Nat} (hI : MI b g h) (hk : rTb k = some (3, 0, 0, 0)) (hk2 : rTb k2 = some (3, 0, 0, 0)) (hne : b + k2 ≠ b + k) : YM l G mX0_keepThoseIn 0 0 0 [vr (b + k), vr (b + k2)] h n (PV b g n) := by
  obtain ⟨x, y, e⟩ := hI.n hk
  obtain ⟨x2, y2, e2⟩ := hI.n hk2
  exact (c_NkeepThoseIn (NA_any e) (NA_any e2) hne).imp (fun r h' n' q => ⟨q.1, q.2.1.mi hI hk, q.2.2⟩)
theorem w_Nsize (hI : MI b g h) (hk : rTb k = some (3, 0, 0, 0)) : YM l G mX0_size 1 0 0 [vr (b + k)] h n (PZ b g n 0 1000) := by
  obtain ⟨x, y, e⟩ := hI.n hk
  refine (c_Nsize e).imp (fun r h' n' q => ?_)
  obtain ⟨q1, rfl, q3⟩ := q
  have := lbc_b x
  have := lbc_b y
  exact ⟨_, q1, by omega, by omega, hI, q3⟩
variable {o : Nat} {S : Nat → Bool} {a c x : Int}
def PL (b o : Nat) (g : yH) (n : Nat) (S : Nat → Bool) (a c x : Int) : Option xV → yH → Nat → Prop := fun r h' n' => ∃ g', r = none ∧ SP b o g g' ∧ PF b o g' S a c x ∧ MI b g' h' ∧ n' = n
theorem NU.pl {h h' : yH} {S' : Nat → Bool} (hf : PF b o g S a c x) (hI : MI b g h) (hu : NU h h' (b + (o + 4)) S') : ∃ g', SP b o g g' ∧ PF b o g' S' a c x ∧ MI b g' h' := by
  obtain ⟨x, y, rfl, hb⟩ := hu
  exact ⟨_, (SP.r b o g).upL _, hf.upL hb, hI.upx _ (t4 hf.1.1)⟩
theorem PF.na (hf : PF b o g S a c x) (hI : MI b g h) : NA h (b + (o + 4)) S := by
  obtain ⟨⟨ho, hw1, hw2, hw3⟩, hp, ⟨lo, hi, hL, hLb⟩, hx⟩ := hf
  exact ⟨lo, hi, hI.x (t4 ho) hL, hLb⟩
theorem w_Lclear (hf : PF b o g S a c x) (hI : MI b g h) : YM l G mX0_clear 0 0 0 [vr (b + (o + 4))] h n (PL b o g n (fun _ => false) a c x) :=
  (c_Nclear (hf.na hI)).imp (fun r h' n' q => by
    obtain ⟨g', q1, q2, q3⟩ := NU.pl hf hI q.2.1
    exact ⟨g', q.1, q1, q2, q3, q.2.2⟩)
theorem w_Ladd (hf : PF b o g S a c x) (hI : MI b g h) (h1 : 0 ≤ v) (h2 : v < 128) : YM l G mX0_add 0 0 0 [vr (b + (o + 4)), vi v] h n (PL b o g n (fun j => S j || decide (j = v.toNat)) a c x) :=
  (c_Nadd (hf.na hI) h1 h2).imp (fun r h' n' q => by
    obtain ⟨g', q1, q2, q3⟩ := NU.pl hf hI q.2.1
    exact ⟨g', q.1, q1, q2, q3, q.2.2⟩)
theorem w_Lremove (hf : PF b o g S a c x) (hI : MI b g h) (h1 : 0 ≤ v) (h2 : v < 128) : YM l G mX0_remove 0 0 0 [vr (b + (o + 4)), vi v] h n (PL b o g n (fun j => S j && !decide (j = v.toNat)) a c x) :=
  (c_Nremove (hf.na hI) h1 h2).imp (fun r h' n' q => by
    obtain ⟨g', q1, q2, q3⟩ := NU.pl hf hI q.2.1
    exact ⟨g', q.1, q1, q2, q3, q.2.2⟩)
theorem w_Lhas (hf : PF b o g S a c x) (hI : MI b g h) (h1 : 0 ≤ v) (h2 : v < 128) : YM l G mX0_has 0 0 0 [vr (b + (o + 4)), vi v] h n (fun r h' n' => r = some (vi (if S v.toNat then 1 else 0)) ∧ h' = h ∧ n' = n) := c_Nhas (hf.na hI) h1 h2
theorem m_pP (hM : xOK M) {idx ad j : Nat} {v a' c' x' : Int} {g0 : yH} (hI : MI b g h) (hf : PF b o g S a c x) (hs : SP b o g0 g) (kk : ∀ g' h', SP b o g0 g' → PF b o g' S a' c' x' → MI b g' h' → YW l G M d kc ks Φ (pc + 3) L st h' n) (he : ∃ fs, pO b o a c x = ob 3 fs ∧ ob 3 (fs.set j (vi v)) = pO b o a' c' x' ∧ j < fs.length) (hd : xat M pc = some (.putfield idx, 3) := by rfl) (hl : M.2.2.2.2.2.2.lookup idx = some (3, j) := by rfl) (hfin : xfin 3 j = false := by rfl) (hn : narrow (xty 3 j) (den (vi v)) = den (vi v) := by rfl) (hfit : fits (xty 3 j) (den (vi v)) = true := by rfl) (ha : ad = b + o := by rfl) : YW l G M d kc ks Φ pc L (vi v :: vr ad :: st) h n := by
  obtain ⟨fs, e1, e2, e3⟩ := he
  obtain ⟨⟨ho, hw1, hw2, hw3⟩, hp, hx⟩ := id hf
  rw [e1] at hp
  refine m_put hM (j := j) o hI hp (fun h' hI' => ?_) (t0 ho) hd hl hfin hn hfit e3 ha
  rw [e2] at hI'
  exact kk (yup g (b + o) (pO b o a' c' x')) h' (hs.upO _) (hf.upO _ _ _) hI'
end C73
