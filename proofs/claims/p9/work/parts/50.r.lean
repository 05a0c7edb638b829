/-! THE REGION: all that both sides hold lies from b on; cells that a table names are known by kind and bounds alone, all others are as in g -/
def pTb (j : Nat) : Option (Nat × Nat × Int × Int) := match j with
  | 0 => none
  | 1 => some (0, 720, 0, 32)
  | 2 => some (0, 120, 0, 23)
  | 3 => some (0, 96, 0, 119)
  | 4 => none
  | 5 => none
  | 6 => none
  | _ => some (3, 0, 0, 0)
def fTb (k : Nat) : Option (Nat × Nat × Int × Int) := match k with
  | 9 => some (2, 8192, 0, 0)
  | 10 => some (2, 8192, 0, 0)
  | 11 => some (0, 24, -2147483648, 2147483647)
  | 12 => some (0, 5, -2147483648, 2147483647)
  | 13 => some (4, 0, 0, 0)
  | 14 => some (5, 0, 0, 0)
  | 15 => some (4, 0, 0, 0)
  | 16 => some (5, 0, 0, 0)
  | 17 => some (5, 0, 0, 0)
  | 18 => some (0, 24, -100000, 100000)
  | 19 => some (0, 24, -1, 32)
  | _ => none
def mTb (k : Nat) : Option (Nat × Nat × Int × Int) := match k with
  | 5 => some (0, 1024, -1, 127)
  | 6 => some (1, 16384, 0, 0)
  | 7 => some (1, 16384, 0, 0)
  | 8 => some (0, 128, -100000, 100000)
  | 9 => some (0, 96, 0, 127)
  | 10 => some (0, 768, -1, 127)
  | 11 => some (0, 8192, -1, 100000)
  | 12 => some (0, 8192, -1, 100000)
  | 13 => some (0, 8192, -2147483648, 2147483647)
  | _ => none
def rTb (k : Nat) : Option (Nat × Nat × Int × Int) := if k < 20 then fTb k else if k < 270 then pTb (k - 20) else if k < 520 then pTb (k - 270) else if k < 540 then none else mTb (k - 540)
set_option maxRecDepth 10000 in
theorem rTb_p {o j : Nat} (ho : o = 20 ∨ o = 270) (hj : j < 250) : rTb (o + j) = pTb j := by
  rcases ho with rfl | rfl
  · unfold rTb; rw [if_neg (by omega), if_pos (by omega)]; congr 1; omega
  · unfold rTb; rw [if_neg (by omega), if_neg (by omega), if_pos (by omega)]; congr 1; omega
theorem pTb_n {j : Nat} (hj : 7 ≤ j) : pTb j = some (3, 0, 0, 0) := by
  obtain ⟨k, rfl⟩ : ∃ k, j = k + 7 := ⟨j - 7, by omega⟩
  rfl
def okc (c : Nat × Nat × Int × Int) (e : Option yE) : Prop := match c with
  | (0, N, lo, hi) => ∃ F, e = some (ai N F) ∧ ∀ j, lo ≤ F j ∧ F j ≤ hi
  | (1, N, _, _) => ∃ F, e = some (az N F) ∧ ∀ j, F j = 0 ∨ F j = 1
  | (2, N, _, _) => ∃ F, e = some (ai N F) ∧ ∀ j, F j / 256 % 32 < 24
  | (3, _, _, _) => ∃ x y : Int64, e = some (ob 0 [vl x, vl y])
  | (4, _, _, _) => ∃ r0 r1 r2 r3 : Int, e = some (ob 4 [vi r0, vi r1, vi r2, vi r3]) ∧ (-1000 ≤ r0 ∧ r0 ≤ 1000) ∧ (-1000 ≤ r1 ∧ r1 ≤ 1000) ∧ (-10000 ≤ r2 ∧ r2 ≤ 10000) ∧ 0 ≤ r3 ∧ r3 ≤ 2
  | (_, _, _, _) => ∃ r0 r1 r2 r3 r4 r5 : Int, e = some (ob 1 [vi r0, vi r1, vi r2, vi r3, vi r4, vi r5]) ∧ (-32 ≤ r0 ∧ r0 ≤ 32) ∧ (-32 ≤ r1 ∧ r1 ≤ 32) ∧ (-32 ≤ r2 ∧ r2 ≤ 32) ∧ (-32 ≤ r3 ∧ r3 ≤ 32) ∧ (-32 ≤ r4 ∧ r4 ≤ 32) ∧ -33 ≤ r5 ∧ r5 ≤ 31
/-- which entries may be protected: what a drawing leaves -/
def pcE (c : Nat × Nat × Int × Int) : Bool := match c with
  | (0, N, _, hi) => N == 720 || N == 120 || (N == 96 && hi == 119) || N == 768
  | _ => false
def MI (b : Nat) (g h : yH) : Prop := (∀ k c, rTb k = some c → okc c (h (b + k)) ∧ (pcE c = true → g (b + k) ≠ none → h (b + k) = g (b + k))) ∧ ∀ q, (∀ k, q = b + k → rTb k = none) → h q = g q
section C50
variable {b : Nat} {g h : yH}
theorem MI.x (hI : MI b g h) {k : Nat} {e : yE} (hk : rTb k = none) (hq : g (b + k) = some e) : h (b + k) = some e := (hI.2 (b + k) (fun j hj => by rw [show j = k by omega]; exact hk)).trans hq
theorem MI.i (hI : MI b g h) {k N : Nat} {lo hi : Int} (hk : rTb k = some (0, N, lo, hi)) : ∃ F, h (b + k) = some (ai N F) ∧ ∀ j, lo ≤ F j ∧ F j ≤ hi := (hI.1 k _ hk).1
theorem MI.z (hI : MI b g h) {k N : Nat} {lo hi : Int} (hk : rTb k = some (1, N, lo, hi)) : ∃ F, h (b + k) = some (az N F) ∧ ∀ j, F j = 0 ∨ F j = 1 := (hI.1 k _ hk).1
theorem MI.c (hI : MI b g h) {k N : Nat} {lo hi : Int} (hk : rTb k = some (2, N, lo, hi)) : ∃ F, h (b + k) = some (ai N F) ∧ ∀ j, F j / 256 % 32 < 24 := (hI.1 k _ hk).1
theorem MI.n (hI : MI b g h) {k N : Nat} {lo hi : Int} (hk : rTb k = some (3, N, lo, hi)) : ∃ x y : Int64, h (b + k) = some (ob 0 [vl x, vl y]) := (hI.1 k _ hk).1
theorem MI.r (hI : MI b g h) {k N : Nat} {lo hi : Int} (hk : rTb k = some (4, N, lo, hi)) : ∃ r0 r1 r2 r3 : Int, h (b + k) = some (ob 4 [vi r0, vi r1, vi r2, vi r3]) ∧ (-1000 ≤ r0 ∧ r0 ≤ 1000) ∧ (-1000 ≤ r1 ∧ r1 ≤ 1000) ∧ (-10000 ≤ r2 ∧ r2 ≤ 10000) ∧ 0 ≤ r3 ∧ r3 ≤ 2 := (hI.1 k _ hk).1
theorem MI.o (hI : MI b g h) {k N : Nat} {lo hi : Int} (hk : rTb k = some (5, N, lo, hi)) : ∃ r0 r1 r2 r3 r4 r5 : Int, h (b + k) = some (ob 1 [vi r0, vi r1, vi r2, vi r3, vi r4, vi r5]) ∧ (-32 ≤ r0 ∧ r0 ≤ 32) ∧ (-32 ≤ r1 ∧ r1 ≤ 32) ∧ (-32 ≤ r2 ∧ r2 ≤ 32) ∧ (-32 ≤ r3 ∧ r3 ≤ 32) ∧ (-32 ≤ r4 ∧ r4 ≤ 32) ∧ -33 ≤ r5 ∧ r5 ≤ 31 := (hI.1 k _ hk).1
theorem MI.up (hI : MI b g h) {k : Nat} {c : Nat × Nat × Int × Int} {e : yE} (hk : rTb k = some c) (ho : okc c (some e)) (hx : pcE c = true → g (b + k) = none := by first | exact fun q => absurd (show false = true from q) (by decide) | exact fun _ => (by assumption)) : MI b g (yup h (b + k) e) := by
  refine ⟨fun j c' hj => ?_, fun q hq => ?_⟩
  · by_cases q : j = k
    · subst q
      rw [hk] at hj
      cases hj
      rw [yup_eq]
      exact ⟨ho, fun y1 y2 => absurd (hx y1) y2⟩
    · rw [yup_ne _ _ (by omega)]
      exact hI.1 j c' hj
  · have : q ≠ b + k := fun e => by rw [hq k e] at hk; cases hk
    rw [yup_ne _ _ this]
    exact hI.2 q hq
/-- a cell that is known: both change -/
theorem MI.upx (hI : MI b g h) {k : Nat} (e : yE) (hk : rTb k = none) : MI b (yup g (b + k) e) (yup h (b + k) e) := by
  refine ⟨fun j c' hj => ?_, fun q hq => ?_⟩
  · have : j ≠ k := fun e => by rw [e, hk] at hj; cases hj
    rw [yup_ne _ _ (by omega), yup_ne _ _ (by omega)]
    exact hI.1 j c' hj
  · by_cases e : q = b + k
    · subst e; rw [yup_eq, yup_eq]
    · rw [yup_ne _ _ e, yup_ne _ _ e]; exact hI.2 q hq
theorem MI.self (hI : MI b g h) : MI b h h := ⟨fun k c hk => ⟨(hI.1 k c hk).1, fun _ _ => rfl⟩, fun _ _ => rfl⟩
/-- a picture that protects less, or what h holds -/
theorem MI.cg {g' : yH} (hI : MI b g h) (hg : ∀ q, (∀ k, q = b + k → rTb k = none) → g q = g' q) (hp : ∀ k c, rTb k = some c → pcE c = true → g' (b + k) ≠ none → h (b + k) = g' (b + k)) : MI b g' h := ⟨fun k c hk => ⟨(hI.1 k c hk).1, hp k c hk⟩, fun q hq => (hI.2 q hq).trans (hg q hq)⟩
theorem MI.pr (hI : MI b g h) {k : Nat} {c : Nat × Nat × Int × Int} (hk : rTb k = some c) (hp : pcE c = true) {e : yE} (hg : g (b + k) = some e) : h (b + k) = some e := ((hI.1 k c hk).2 hp (by rw [hg]; exact fun z => nomatch z)).trans hg
/-- another heap that agrees where the table says something -/
theorem MI.on (hI : MI b g h) {h' : yH} (hq : ∀ k c, rTb k = some c → h' (b + k) = h (b + k)) : MI b h' h' := ⟨fun k c hk => ⟨by rw [hq k c hk]; exact (hI.1 k c hk).1, fun _ _ => rfl⟩, fun _ _ => rfl⟩
end C50
def nrm (z : Int) : Int := (iI z).toInt
theorem nrm_den (z : Int) : den (vi (nrm z)) = den (vi z) := by
  show Value.int (iI (nrm z)) = Value.int (iI z)
  unfold nrm
  rw [← iI_of]
theorem nrm_rng (z : Int) : -2147483648 ≤ nrm z ∧ nrm z ≤ 2147483647 := by
  have := iI_rng (iI z)
  unfold nrm
  omega
theorem nrm_id {z : Int} (h1 : -2147483648 ≤ z) (h2 : z < 2147483648) : nrm z = z := iI_toInt h1 h2
theorem nrm_hi {z : Int} (h1 : 2147483648 ≤ z) (h2 : z < 6442450944) : nrm z = z - 4294967296 := by
  have e : iI z = iI (z - 4294967296) := by
    rw [← iI_sub, show iI 4294967296 = 0 from by decide +kernel]
    simp
  show (iI z).toInt = _
  rw [e]
  exact iI_toInt (by omega) (by omega)
section C51
variable {l : Launch} {G : xG} {M : xM} {d kc ks : Nat} {Φ Ψ : Option xV → yH → Nat → Prop} {h : yH} {n : Nat} {pc : Nat} {L : List (Option xV)} {st rest : List xV} {b : Nat} {g : yH}
theorem YW.nr1 {z : Int} (k : YW l G M d kc ks Φ pc L (vi (nrm z) :: st) h n) : YW l G M d kc ks Φ pc L (vi z :: st) h n := by
  unfold YW mS at k ⊢
  rw [List.map_cons, nrm_den] at k
  exact k
theorem YW.nr2 {z : Int} {x : xV} (k : YW l G M d kc ks Φ pc L (x :: vi (nrm z) :: st) h n) : YW l G M d kc ks Φ pc L (x :: vi z :: st) h n := by
  unfold YW mS at k ⊢
  rw [List.map_cons, List.map_cons, nrm_den] at k
  exact k
theorem m_ia (hM : xOK M) {a N : Nat} {lo hi z : Int} (k : Nat) (hI : MI b g h) (hk : rTb k = some (0, N, lo, hi)) (kk : ∀ v, lo ≤ v → v ≤ hi → YW l G M d kc ks Φ (pc + 1) L (vi v :: st) h n) (hd : xat M pc = some (.iaload, 1) := by rfl) (ha : a = b + k := by rfl) (h1 : 0 ≤ z := by omega) (h2 : z < N := by omega) (h3 : z < 2147483648 := by omega) : YW l G M d kc ks Φ pc L (vi z :: vr a :: st) h n := by
  subst ha
  obtain ⟨F, e, hF⟩ := hI.i hk
  exact y_ia hM hd e h1 h2 (kk _ (hF _).1 (hF _).2) h3
theorem m_iac (hM : xOK M) {a N : Nat} {lo hi z : Int} (k : Nat) (hI : MI b g h) (hk : rTb k = some (2, N, lo, hi)) (kk : ∀ v : Int, v / 256 % 32 < 24 → YW l G M d kc ks Φ (pc + 1) L (vi v :: st) h n) (hd : xat M pc = some (.iaload, 1) := by rfl) (ha : a = b + k := by rfl) (h1 : 0 ≤ z := by omega) (h2 : z < N := by omega) (h3 : z < 2147483648 := by omega) : YW l G M d kc ks Φ pc L (vi z :: vr a :: st) h n := by
  subst ha
  obtain ⟨F, e, hF⟩ := hI.c hk
  exact y_ia hM hd e h1 h2 (kk _ (hF _)) h3
/-- a row that is known -/
theorem m_ix (hM : xOK M) {a N : Nat} {F : Nat → Int} {lo hi z : Int} (e : h a = some (ai N F)) (hF : ∀ j, lo ≤ F j ∧ F j ≤ hi) (kk : ∀ v, v = F z.toNat → lo ≤ v → v ≤ hi → YW l G M d kc ks Φ (pc + 1) L (vi v :: st) h n) (hd : xat M pc = some (.iaload, 1) := by rfl) (h1 : 0 ≤ z := by omega) (h2 : z < N := by omega) (h3 : z < 2147483648 := by omega) : YW l G M d kc ks Φ pc L (vi z :: vr a :: st) h n :=
  y_ia hM hd e h1 h2 (kk _ rfl (hF _).1 (hF _).2) h3
theorem m_za (hM : xOK M) {a N : Nat} {lo hi z : Int} (k : Nat) (hI : MI b g h) (hk : rTb k = some (1, N, lo, hi)) (kk : ∀ v : Int, v = 0 ∨ v = 1 → YW l G M d kc ks Φ (pc + 1) L (vi v :: st) h n) (hd : xat M pc = some (.baload, 1) := by rfl) (ha : a = b + k := by rfl) (h1 : 0 ≤ z := by omega) (h2 : z < N := by omega) (h3 : z < 2147483648 := by omega) : YW l G M d kc ks Φ pc L (vi z :: vr a :: st) h n := by
  subst ha
  obtain ⟨F, e, hF⟩ := hI.z hk
  exact y_za hM hd e h1 h2 (kk _ (hF _)) h3
theorem upZ_all {P : Int → Prop} {F : Nat → Int} (hF : ∀ j, P (F j)) (k : Nat) {x : Int} (hx : P x) : ∀ j, P (upZ F k x j) := fun j => by
  unfold upZ
  split
  · exact hx
  · exact hF j
theorem m_is (hM : xOK M) {a N : Nat} {lo hi z x : Int} (k : Nat) (hI : MI b g h) (hk : rTb k = some (0, N, lo, hi)) (kk : ∀ h', MI b g h' → YW l G M d kc ks Φ (pc + 1) L st h' n) (hd : xat M pc = some (.iastore, 1) := by rfl) (ha : a = b + k := by rfl) (h1 : 0 ≤ z := by omega) (h2 : z < N := by omega) (h3 : z < 2147483648 := by omega) (x1 : lo ≤ x := by omega) (x2 : x ≤ hi := by omega) (hx : pcE (0, N, lo, hi) = true → g (b + k) = none := by first | exact fun q => absurd (show false = true from q) (by decide) | exact fun _ => (by assumption)) : YW l G M d kc ks Φ pc L (vi x :: vi z :: vr a :: st) h n := by
  subst ha
  obtain ⟨F, e, hF⟩ := hI.i hk
  exact y_is hM hd e h1 h2 (kk _ (hI.up hk ⟨_, rfl, upZ_all (P := fun x => lo ≤ x ∧ x ≤ hi) hF _ ⟨x1, x2⟩⟩ hx)) h3
theorem m_isn (hM : xOK M) {a N : Nat} {z x : Int} (k : Nat) (hI : MI b g h) (hk : rTb k = some (0, N, -2147483648, 2147483647)) (kk : ∀ h', MI b g h' → YW l G M d kc ks Φ (pc + 1) L st h' n) (hd : xat M pc = some (.iastore, 1) := by rfl) (ha : a = b + k := by rfl) (h1 : 0 ≤ z := by omega) (h2 : z < N := by omega) (h3 : z < 2147483648 := by omega) (hx : pcE (0, N, -2147483648, 2147483647) = true → g (b + k) = none := by first | exact fun q => absurd (show false = true from q) (by decide) | exact fun _ => (by assumption)) : YW l G M d kc ks Φ pc L (vi x :: vi z :: vr a :: st) h n :=
  YW.nr1 (m_is hM k hI hk kk hd ha h1 h2 h3 (nrm_rng x).1 (nrm_rng x).2 hx)
theorem m_isc (hM : xOK M) {a N : Nat} {lo hi z x : Int} (k : Nat) (hI : MI b g h) (hk : rTb k = some (2, N, lo, hi)) (kk : ∀ h', MI b g h' → YW l G M d kc ks Φ (pc + 1) L st h' n) (hd : xat M pc = some (.iastore, 1) := by rfl) (ha : a = b + k := by rfl) (h1 : 0 ≤ z := by omega) (h2 : z < N := by omega) (h3 : z < 2147483648 := by omega) (x1 : x / 256 % 32 < 24 := by omega) : YW l G M d kc ks Φ pc L (vi x :: vi z :: vr a :: st) h n := by
  subst ha
  obtain ⟨F, e, hF⟩ := hI.c hk
  exact y_is hM hd e h1 h2 (kk _ (hI.up hk ⟨_, rfl, upZ_all (P := fun x => x / 256 % 32 < 24) hF _ x1⟩)) h3
theorem m_zs (hM : xOK M) {a N : Nat} {lo hi z x : Int} (k : Nat) (hI : MI b g h) (hk : rTb k = some (1, N, lo, hi)) (kk : ∀ h', MI b g h' → YW l G M d kc ks Φ (pc + 1) L st h' n) (hd : xat M pc = some (.bastore, 1) := by rfl) (ha : a = b + k := by rfl) (h1 : 0 ≤ z := by omega) (h2 : z < N := by omega) (h3 : z < 2147483648 := by omega) (x1 : x = 0 ∨ x = 1 := by omega) : YW l G M d kc ks Φ pc L (vi x :: vi z :: vr a :: st) h n := by
  subst ha
  obtain ⟨F, e, hF⟩ := hI.z hk
  exact y_zs hM hd e h1 h2 x1 (kk _ (hI.up hk ⟨_, rfl, upZ_all (P := fun x => x = 0 ∨ x = 1) hF _ x1⟩)) h3
/-- a field of an object that is known -/
theorem m_get (hM : xOK M) {idx a ci j : Nat} {fs : List xV} {v : xV} (k : Nat) (hI : MI b g h) (e : g (b + k) = some (ob ci fs)) (kk : YW l G M d kc ks Φ (pc + 3) L (v :: st) h n) (hk : rTb k = none := by rfl) (hd : xat M pc = some (.getfield idx, 3) := by rfl) (hf : M.2.2.2.2.2.2.lookup idx = some (ci, j) := by rfl) (hv : fs[j]? = some v := by rfl) (ha : a = b + k := by rfl) : YW l G M d kc ks Φ pc L (vr a :: st) h n := by
  subst ha
  exact y_get hM hd hf (hI.x hk e) hv kk
theorem m_put (hM : xOK M) {idx a ci j : Nat} {fs : List xV} {v : xV} (k : Nat) (hI : MI b g h) (e : g (b + k) = some (ob ci fs)) (kk : ∀ h', MI b (yup g (b + k) (ob ci (fs.set j v))) h' → YW l G M d kc ks Φ (pc + 3) L st h' n) (hk : rTb k = none := by rfl) (hd : xat M pc = some (.putfield idx, 3) := by rfl) (hf : M.2.2.2.2.2.2.lookup idx = some (ci, j) := by rfl) (hfin : xfin ci j = false := by rfl) (hn : narrow (xty ci j) (den v) = den v := by rfl) (hfit : fits (xty ci j) (den v) = true := by rfl) (hl : j < fs.length := by exact Nat.le_of_ble_eq_true rfl) (ha : a = b + k := by rfl) : YW l G M d kc ks Φ pc L (v :: vr a :: st) h n := by
  subst ha
  exact y_put hM hd hf (hI.x hk e) hfin hn hfit (kk _ (hI.upx _ hk)) hl
/-- int division by a constant, over any int -/
theorem m_idiv (hM : xOK M) {x y : Int} (h3 : 0 < y) (h4 : y < 2147483648) (k : ∀ v, -2147483648 ≤ v → v ≤ 2147483647 → YW l G M d kc ks Φ (pc + 1) L (vi v :: st) h n) (hd : xat M pc = some (.idiv, 1) := by rfl) : YW l G M d kc ks Φ pc L (vi y :: vi x :: st) h n := by
  refine x_idiv hM hd (by rw [← iI_0, iI_eq (by omega) (by omega) (by omega) (by omega)]; omega) ?_
  have r := iI_rng (iI x / iI y)
  have k' := k (iI x / iI y).toInt (by omega) (by omega)
  have e : mS (vi (iI x / iI y).toInt :: st) = .int (iI x / iI y) :: mS st := by
    show Value.int (iI (iI x / iI y).toInt) :: mS st = _
    rw [← iI_of]
  unfold YW at k'
  rw [e] at k'
  exact k'
theorem m_getR (hM : xOK M) {idx a j N : Nat} {lo hi : Int} (k : Nat) (hI : MI b g h) (hk : rTb k = some (4, N, lo, hi)) (hj : j < 4) (kk : ∀ v, -100000 ≤ v → v ≤ 100000 → YW l G M d kc ks Φ (pc + 3) L (vi v :: st) h n) (hd : xat M pc = some (.getfield idx, 3) := by rfl) (hf : M.2.2.2.2.2.2.lookup idx = some (4, j) := by rfl) (ha : a = b + k := by rfl) : YW l G M d kc ks Φ pc L (vr a :: st) h n := by
  subst ha
  obtain ⟨r0, r1, r2, r3, e, s0, s1, s2, s3⟩ := hI.r hk
  rcases (show j = 0 ∨ j = 1 ∨ j = 2 ∨ j = 3 by omega) with rfl | rfl | rfl | rfl
  · exact y_get hM hd hf e rfl (kk _ (by omega) (by omega))
  · exact y_get hM hd hf e rfl (kk _ (by omega) (by omega))
  · exact y_get hM hd hf e rfl (kk _ (by omega) (by omega))
  · exact y_get hM hd hf e rfl (kk _ (by omega) (by omega))
theorem m_getF (hM : xOK M) {idx a N : Nat} {lo hi : Int} (k : Nat) (hI : MI b g h) (hk : rTb k = some (4, N, lo, hi)) (kk : ∀ v, 0 ≤ v → v ≤ 2 → YW l G M d kc ks Φ (pc + 3) L (vi v :: st) h n) (hd : xat M pc = some (.getfield idx, 3) := by rfl) (hf : M.2.2.2.2.2.2.lookup idx = some (4, 3) := by rfl) (ha : a = b + k := by rfl) : YW l G M d kc ks Φ pc L (vr a :: st) h n := by
  subst ha
  obtain ⟨r0, r1, r2, r3, e, s0, s1, s2, s3⟩ := hI.r hk
  exact y_get hM hd hf e rfl (kk _ s3.1 s3.2)
theorem m_getO4 (hM : xOK M) {idx a N : Nat} {lo hi : Int} (k : Nat) (hI : MI b g h) (hk : rTb k = some (5, N, lo, hi)) (kk : ∀ v, -32 ≤ v → v ≤ 32 → YW l G M d kc ks Φ (pc + 3) L (vi v :: st) h n) (hd : xat M pc = some (.getfield idx, 3) := by rfl) (hf : M.2.2.2.2.2.2.lookup idx = some (1, 4) := by rfl) (ha : a = b + k := by rfl) : YW l G M d kc ks Φ pc L (vr a :: st) h n := by
  subst ha
  obtain ⟨r0, r1, r2, r3, r4, r5, e, s0, s1, s2, s3, s4, s5⟩ := hI.o hk
  exact y_get hM hd hf e rfl (kk _ s4.1 s4.2)
theorem m_getO5 (hM : xOK M) {idx a N : Nat} {lo hi : Int} (k : Nat) (hI : MI b g h) (hk : rTb k = some (5, N, lo, hi)) (kk : ∀ v, -33 ≤ v → v ≤ 31 → YW l G M d kc ks Φ (pc + 3) L (vi v :: st) h n) (hd : xat M pc = some (.getfield idx, 3) := by rfl) (hf : M.2.2.2.2.2.2.lookup idx = some (1, 5) := by rfl) (ha : a = b + k := by rfl) : YW l G M d kc ks Φ pc L (vr a :: st) h n := by
  subst ha
  obtain ⟨r0, r1, r2, r3, r4, r5, e, s0, s1, s2, s3, s4, s5⟩ := hI.o hk
  exact y_get hM hd hf e rfl (kk _ s5.1 s5.2)
end C51
/-- what a method's end says where only bounds are wanted -/
def PZ (b : Nat) (g : yH) (n : Nat) (lo hi : Int) : Option xV → yH → Nat → Prop := fun r h' n' => ∃ v, r = some (vi v) ∧ lo ≤ v ∧ v ≤ hi ∧ MI b g h' ∧ n' = n
def PV (b : Nat) (g : yH) (n : Nat) : Option xV → yH → Nat → Prop := fun r h' n' => r = none ∧ MI b g h' ∧ n' = n
