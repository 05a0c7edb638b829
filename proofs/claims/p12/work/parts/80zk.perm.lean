/-! the cells of the class and the pixels of the reference, in another order -/
def sm1 (f : Nat → Nat) : Nat → Nat
  | 0 => 0
  | k + 1 => sm1 f k + f k
theorem sm1_cg {f g : Nat → Nat} : ∀ m : Nat, (∀ k, k < m → f k = g k) → sm1 f m = sm1 g m := by
  intro m
  induction m with
  | zero => intro _; rfl
  | succ m ih =>
    intro h
    show sm1 f m + f m = sm1 g m + g m
    rw [ih (fun k hk => h k (by omega)), h m (by omega)]
theorem sm1_0 : ∀ m : Nat, sm1 (fun _ => 0) m = 0 := by
  intro m
  induction m with
  | zero => rfl
  | succ m ih => show sm1 (fun _ => 0) m + 0 = 0; rw [ih]
theorem sm1_add (f g : Nat → Nat) : ∀ m : Nat, sm1 (fun k => f k + g k) m = sm1 f m + sm1 g m := by
  intro m
  induction m with
  | zero => rfl
  | succ m ih =>
    show sm1 (fun k => f k + g k) m + (f m + g m) = (sm1 f m + f m) + (sm1 g m + g m)
    rw [ih]
    omega
theorem sm1_crd (S : Nat → Bool) : ∀ m : Nat, sm1 (fun k => if S k then 1 else 0) m = crd S m := by
  intro m
  induction m with
  | zero => rfl
  | succ m ih =>
    show sm1 (fun k => if S k then 1 else 0) m + (if S m then 1 else 0) = crd S m + (if S m then 1 else 0)
    rw [ih]
theorem crd_rows (S : Nat → Bool) (n : Nat) : ∀ m : Nat, crd S (n * m) = sm1 (fun i => crd (fun j => S (n * i + j)) n) m := by
  intro m
  induction m with
  | zero => rfl
  | succ m ih =>
    rw [Nat.mul_succ, crd_split, ih]
    rfl
theorem rows_swap (f : Nat → Nat → Bool) (n : Nat) : ∀ m : Nat, sm1 (fun i => crd (fun j => f i j) n) m = sm1 (fun j => crd (fun i => f i j) m) n := by
  intro m
  induction m with
  | zero => exact (sm1_0 n).symm
  | succ m ih =>
    show sm1 (fun i => crd (fun j => f i j) n) m + crd (fun j => f m j) n = sm1 (fun j => crd (fun i => f i j) m + (if f m j then 1 else 0)) n
    rw [ih, sm1_add, sm1_crd]
theorem crd_perm (S S' : Nat → Bool) (h : ∀ i j, i < 64 → j < 128 → S' (128 * i + j) = S (64 * j + i)) : crd S' 8192 = crd S 8192 := by
  have e1 := crd_rows S' 128 64
  have e2 := crd_rows S 64 128
  rw [show 128 * 64 = 8192 from rfl] at e1
  rw [show 64 * 128 = 8192 from rfl] at e2
  rw [e1, e2, rows_swap (fun j i => S (64 * j + i)) 64 128]
  refine sm1_cg 64 (fun i hi => ?_)
  exact crd_off 128 (fun j hj => h i j hi hj)
theorem EXT.map {df df' : Nat → Bool} {v v' : Nat → Int} {lo hi : Int} (h : EXT df' v' 8192 lo hi) (e : ∀ i j, i < 64 → j < 128 → df' (128 * i + j) = df (64 * j + i) ∧ v' (128 * i + j) = v (64 * j + i)) : EXT df v 8192 lo hi := by
  have fw : ∀ k, k < 8192 → ∃ k', k' < 8192 ∧ df' k = df k' ∧ v' k = v k' := fun k hk => by
    have := e (k / 128) (k % 128) (by omega) (by omega)
    rw [show 128 * (k / 128) + k % 128 = k by omega] at this
    exact ⟨64 * (k % 128) + k / 128, by omega, this.1, this.2⟩
  have bw : ∀ k, k < 8192 → ∃ k', k' < 8192 ∧ df' k' = df k ∧ v' k' = v k := fun k hk => by
    have := e (k % 64) (k / 64) (by omega) (by omega)
    rw [show 64 * (k / 64) + k % 64 = k by omega] at this
    exact ⟨128 * (k % 64) + k / 64, by omega, this.1, this.2⟩
  rcases h with ⟨h1, h2⟩ | ⟨⟨k1, a1, a2, a3⟩, ⟨k2, b1, b2, b3⟩, h3⟩
  · refine Or.inl ⟨fun k hk => ?_, h2⟩
    obtain ⟨k', c1, c2, -⟩ := bw k hk
    rw [← c2]
    exact h1 k' c1
  · refine Or.inr ⟨?_, ?_, fun k hk hd => ?_⟩
    · obtain ⟨k', c1, c2, c3⟩ := fw k1 a1
      exact ⟨k', c1, by rw [← c2]; exact a2, by rw [← c3]; exact a3⟩
    · obtain ⟨k', c1, c2, c3⟩ := fw k2 b1
      exact ⟨k', c1, by rw [← c2]; exact b2, by rw [← c3]; exact b3⟩
    · obtain ⟨k', c1, c2, c3⟩ := bw k hk
      rw [← c3]
      exact h3 k' c1 (by rw [c2]; exact hd)
theorem LKR.box {x y : Int} (h : LKR x y) : (x ≠ 0 ↔ y ≠ -1) ∧ (y ≠ -1 → x / 256 % 32 = y % 32 ∧ 0 ≤ y % 32 ∧ y % 32 < 24) := by
  rcases h with ⟨h1, h2⟩ | ⟨n, f, k, c, a1, a2, a3, a4, a5, a6⟩
  · exact ⟨⟨fun q => absurd h1 q, fun q => absurd h2 q⟩, fun q => absurd h2 q⟩
  · refine ⟨⟨fun _ => by omega, fun _ => by omega⟩, fun _ => ?_⟩
    have e1 : x / 256 = n := by omega
    have e2 : y % 32 = n := by omega
    rw [e1, e2]
    omega
theorem LKR.eq {x y x' y' : Int} (h : LKR x y) (h' : LKR x' y') : x = x' ↔ y = y' := by
  rcases h with ⟨h1, h2⟩ | ⟨n, f, k, c, a1, a2, a3, a4, a5, a6⟩
  · rcases h' with ⟨g1, g2⟩ | ⟨n', f', k', c', b1, b2, b3, b4, b5, b6⟩
    · omega
    · constructor <;> (intro q; omega)
  · rcases h' with ⟨g1, g2⟩ | ⟨n', f', k', c', b1, b2, b3, b4, b5, b6⟩
    · constructor <;> (intro q; omega)
    · constructor
      · intro q
        have e1 : n = n' := by omega
        have e2 : f = f' := by omega
        have e3 : k = k' := by omega
        have e4 : c = c' := by omega
        rw [a6, b6, e1, e2, e3, e4]
      · intro q
        have e1 : n = n' := by omega
        have e2 : f = f' := by omega
        have e3 : c = c' := by omega
        have e4 : k = k' := by omega
        rw [a5, b5, e1, e2, e3, e4]
theorem LK.ij {Fc Pc : Nat → Int} (h : LK Fc Pc) {i j : Nat} (hi : i < 64) (hj : j < 128) : LKR (Fc (128 * i + j) % 65536) (Pc (64 * j + i)) := by
  have := h ((64 * j + i : Nat) : Int) (by omega) (by omega)
  rw [Int.toNat_natCast, show cZ ((64 * j + i : Nat) : Int) = 128 * i + j by unfold cZ; omega] at this
  exact this
theorem LK.seen {Fc Pc : Nat → Int} (h : LK Fc Pc) (v : Nat) : crd (bxF Fc v) 8192 = crd (sR Pc (v : Int)) 8192 := by
  refine crd_perm _ _ (fun i j hi hj => ?_)
  obtain ⟨k1, k2⟩ := (h.ij hi hj).box
  unfold bxF sR
  by_cases c : Pc (64 * j + i) = -1
  · have c' : Fc (128 * i + j) % 65536 = 0 := Classical.byContradiction (fun q => (k1.mp q) c)
    rw [show decide (Pc (64 * j + i) ≠ -1) = false from decide_eq_false (fun q => q c), show decide (Fc (128 * i + j) % 65536 ≠ 0) = false from decide_eq_false (fun q => q c')]
    rfl
  · obtain ⟨e, -⟩ := k2 c
    have e2 : Fc (128 * i + j) / 256 % 32 = Pc (64 * j + i) % 32 := by rw [← e]; omega
    rw [decide_eq_true c, decide_eq_true (k1.mpr c), e2]
theorem LK.df {Fc Pc Fe Pf : Nat → Int} (h : LK Fc Pc) (h' : LK Fe Pf) {i j : Nat} (hi : i < 64) (hj : j < 128) : dfF Fc Fe (128 * i + j) = dR Pc Pf (64 * j + i) := by
  have e := (h.ij hi hj).eq (h'.ij hi hj)
  unfold dfF dR
  by_cases c : Pc (64 * j + i) = Pf (64 * j + i)
  · rw [show decide (Fc (128 * i + j) % 65536 ≠ Fe (128 * i + j) % 65536) = false from decide_eq_false (fun q => q (e.mpr c)), show decide (Pc (64 * j + i) ≠ Pf (64 * j + i)) = false from decide_eq_false (fun q => q c)]
  · rw [show decide (Fc (128 * i + j) % 65536 ≠ Fe (128 * i + j) % 65536) = true from decide_eq_true (fun q => c (e.mp q)), show decide (Pc (64 * j + i) ≠ Pf (64 * j + i)) = true from decide_eq_true c]
theorem LK.many {Fc Pc Fe Pf : Nat → Int} (h : LK Fc Pc) (h' : LK Fe Pf) : crd (dfF Fc Fe) 8192 = crd (dR Pc Pf) 8192 := crd_perm _ _ (fun i j hi hj => h.df h' hi hj)
theorem LK.exi {Fc Pc Fe Pf : Nat → Int} (h : LK Fc Pc) (h' : LK Fe Pf) {lo hi p : Int} (hp : p < 3) (he : EXT (dfF Fc Fe) viC 8192 lo hi) : EXT (dR Pc Pf) (vR p) 8192 lo hi := he.map (fun i j hi hj => ⟨h.df h' hi hj, by
  have e1 : ((128 * i + j : Nat) : Int) / 128 = (i : Int) := by omega
  have e2 : ((64 * j + i : Nat) : Int) % 64 = (i : Int) := by omega
  unfold viC vR
  rw [if_pos hp, e1, e2]
  omega⟩)
theorem LK.exj {Fc Pc Fe Pf : Nat → Int} (h : LK Fc Pc) (h' : LK Fe Pf) {lo hi p : Int} (hp : ¬ p < 3) (he : EXT (dfF Fc Fe) vjC 8192 lo hi) : EXT (dR Pc Pf) (vR p) 8192 lo hi := he.map (fun i j hi hj => ⟨h.df h' hi hj, by
  have e1 : ((128 * i + j : Nat) : Int) % 128 = (j : Int) := by omega
  have e2 : ((64 * j + i : Nat) : Int) / 64 = (j : Int) := by omega
  unfold vjC vR
  rw [if_neg hp, e1, e2]
  omega⟩)
