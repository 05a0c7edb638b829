/-! how many bits are set: the bytes one by one -/
def apB (f : Nat → Nat) : Nat → Nat → Nat
  | 0, _ => 0
  | n + 1, x => f (x % 256) + 256 * apB f n (x / 256)
def mkB (m : Nat) : Nat → Nat
  | 0 => 0
  | n + 1 => m + 256 * mkB m n
theorem mkB_mod {m : Nat} (hm : m < 256) (n : Nat) : mkB m (n + 1) % 256 = m := by show (m + 256 * mkB m n) % 256 = m; omega
theorem mkB_div {m : Nat} (hm : m < 256) (n : Nat) : mkB m (n + 1) / 256 = mkB m n := by show (m + 256 * mkB m n) / 256 = mkB m n; omega
theorem and_split (x y : Nat) : x &&& y = ((x % 256) &&& (y % 256)) + 256 * ((x / 256) &&& (y / 256)) := by
  have h1 : (x &&& y) % 2 ^ 8 = (x % 2 ^ 8) &&& (y % 2 ^ 8) := Nat.and_mod_two_pow
  have h2 : (x &&& y) / 2 ^ 8 = (x / 2 ^ 8) &&& (y / 2 ^ 8) := Nat.and_div_two_pow
  rw [show (2 : Nat) ^ 8 = 256 from rfl] at h1 h2
  rw [← h1, ← h2]
  omega
/-- a mask, over a shift by s that brings in only what the mask takes out -/
theorem and_ap {f : Nat → Nat} {m s : Nat} (hm : m < 256) (hs : 0 < s) (hf : ∀ x : Nat, ((x / s) % 256) &&& m = f (x % 256)) : ∀ n x : Nat, (x / s) &&& mkB m n = apB f n x := by
  intro n
  induction n with
  | zero => intro x; show (x / s) &&& 0 = 0; exact Nat.and_zero _
  | succ n ih =>
    intro x
    rw [and_split, mkB_mod hm, mkB_div hm, hf x]
    show _ = f (x % 256) + 256 * apB f n (x / 256)
    rw [← ih (x / 256), Nat.div_div_eq_div_mul, Nat.div_div_eq_div_mul, Nat.mul_comm s 256]
theorem apB_b {f : Nat → Nat} (hf : ∀ b, b < 256 → f b < 256) : ∀ n x : Nat, apB f n x < 256 ^ n := by
  intro n
  induction n with
  | zero => intro x; show 0 < 1; omega
  | succ n ih =>
    intro x
    have h1 := hf (x % 256) (Nat.mod_lt _ (by omega))
    have h2 := ih (x / 256)
    show f (x % 256) + 256 * apB f n (x / 256) < 256 ^ (n + 1)
    rw [Nat.pow_succ]
    omega
theorem apB_comp {f k : Nat → Nat} (hf : ∀ b, b < 256 → f b < 256) : ∀ n x : Nat, apB k n (apB f n x) = apB (fun b => k (f b)) n x := by
  intro n
  induction n with
  | zero => intro x; rfl
  | succ n ih =>
    intro x
    have h1 := hf (x % 256) (Nat.mod_lt _ (by omega))
    show k ((f (x % 256) + 256 * apB f n (x / 256)) % 256) + 256 * apB k n ((f (x % 256) + 256 * apB f n (x / 256)) / 256) = k (f (x % 256)) + 256 * apB (fun b => k (f b)) n (x / 256)
    rw [show (f (x % 256) + 256 * apB f n (x / 256)) % 256 = f (x % 256) by omega, show (f (x % 256) + 256 * apB f n (x / 256)) / 256 = apB f n (x / 256) by omega, ih]
theorem apB_cg {f k : Nat → Nat} (h : ∀ b, f b = k b) (n x : Nat) : apB f n x = apB k n x := congrArg (fun f => apB f n x) (funext h)
theorem apB_id : ∀ n x : Nat, x < 256 ^ n → apB (fun b => b) n x = x := by
  intro n
  induction n with
  | zero => intro x h; show 0 = x; simp at h; omega
  | succ n ih =>
    intro x h
    rw [Nat.pow_succ] at h
    show x % 256 + 256 * apB (fun b => b) n (x / 256) = x
    rw [ih (x / 256) (by omega)]
    omega
theorem apB_add (f k : Nat → Nat) : ∀ n x : Nat, apB f n x + apB k n x = apB (fun b => f b + k b) n x := by
  intro n
  induction n with
  | zero => intro x; rfl
  | succ n ih =>
    intro x
    show f (x % 256) + 256 * apB f n (x / 256) + (k (x % 256) + 256 * apB k n (x / 256)) = f (x % 256) + k (x % 256) + 256 * apB (fun b => f b + k b) n (x / 256)
    rw [← ih (x / 256)]
    omega
theorem apB_sub (f : Nat → Nat) (hf : ∀ b, b < 256 → f b ≤ b) : ∀ n x : Nat, x < 256 ^ n → apB f n x ≤ x ∧ x - apB f n x = apB (fun b => b - f b) n x := by
  intro n
  induction n with
  | zero => intro x h; simp at h; subst h; exact ⟨Nat.le_refl _, rfl⟩
  | succ n ih =>
    intro x h
    rw [Nat.pow_succ] at h
    obtain ⟨h1, h2⟩ := ih (x / 256) (by omega)
    have h3 := hf (x % 256) (Nat.mod_lt _ (by omega))
    constructor
    · show f (x % 256) + 256 * apB f n (x / 256) ≤ x
      omega
    · show x - (f (x % 256) + 256 * apB f n (x / 256)) = (x % 256 - f (x % 256)) + 256 * apB (fun b => b - f b) n (x / 256)
      rw [← h2]
      omega
def bp1 (b : Nat) : Nat := (b / 2) &&& 85
def bp2 (b : Nat) : Nat := b - bp1 b
def bp3 (b : Nat) : Nat := (b &&& 51) + ((b / 4) &&& 51)
def bp4 (b : Nat) : Nat := (b + b / 16) % 16
def pop8 (b : Nat) : Nat := bp4 (bp3 (bp2 b))
theorem bp_all : ∀ b : Nat, b < 256 → bp1 b ≤ b ∧ bp3 b < 256 ∧ bp3 (bp2 b) < 128 ∧ bp3 (bp2 b) % 16 ≤ 4 ∧ pop8 b ≤ 8 := by decide +kernel
theorem bp1_in : ∀ b : Nat, b < 256 → ∀ e : Nat, e < 2 → (b / 2 + 128 * e) &&& 85 = bp1 b := by decide +kernel
theorem bp3_in : ∀ b : Nat, b < 256 → ∀ e : Nat, e < 4 → (b / 4 + 64 * e) &&& 51 = (b / 4) &&& 51 := by decide +kernel
theorem bp4_in : ∀ b : Nat, b < 256 → b &&& 15 = b % 16 := by decide +kernel
theorem st1 (x : Nat) : (x / 2) &&& mkB 85 8 = apB bp1 8 x := by
  refine and_ap (by omega) (by omega) (fun x => ?_) 8 x
  rw [show (x / 2) % 256 = (x % 256) / 2 + 128 * ((x / 256) % 2) by omega]
  exact bp1_in _ (Nat.mod_lt _ (by omega)) _ (Nat.mod_lt _ (by omega))
theorem st2 (x : Nat) : (x / 4) &&& mkB 51 8 = apB (fun b => (b / 4) &&& 51) 8 x := by
  refine and_ap (by omega) (by omega) (fun x => ?_) 8 x
  rw [show (x / 4) % 256 = (x % 256) / 4 + 64 * ((x / 256) % 4) by omega]
  exact bp3_in _ (Nat.mod_lt _ (by omega)) _ (Nat.mod_lt _ (by omega))
theorem st3 (x : Nat) : x &&& mkB 51 8 = apB (fun b => b &&& 51) 8 x := by
  have := and_ap (f := fun b => b &&& 51) (m := 51) (s := 1) (by omega) (by omega) (fun x => by rw [Nat.div_one]) 8 x
  rw [Nat.div_one] at this
  exact this
theorem apB_lo {q : Nat → Nat} (hq : ∀ b, b < 256 → q b < 128 ∧ q b % 16 ≤ 4) : ∀ n x : Nat, apB q n x % 16 ≤ 4 := by
  intro n x
  cases n with
  | zero => show 0 % 16 ≤ 4; omega
  | succ n =>
    have := hq (x % 256) (Nat.mod_lt _ (by omega))
    show (q (x % 256) + 256 * apB q n (x / 256)) % 16 ≤ 4
    omega
theorem st4 {q : Nat → Nat} (hq : ∀ b, b < 256 → q b < 128 ∧ q b % 16 ≤ 4) : ∀ n x : Nat, (apB q n x + apB q n x / 16) &&& mkB 15 n = apB (fun b => bp4 (q b)) n x := by
  intro n
  induction n with
  | zero => intro x; exact Nat.and_zero _
  | succ n ih =>
    intro x
    have h1 := hq (x % 256) (Nat.mod_lt _ (by omega))
    have h2 := apB_lo hq n (x / 256)
    have e : apB q (n + 1) x = q (x % 256) + 256 * apB q n (x / 256) := rfl
    rw [and_split, mkB_mod (m := 15) (by omega), mkB_div (m := 15) (by omega), bp4_in _ (Nat.mod_lt _ (by omega))]
    show _ = bp4 (q (x % 256)) + 256 * apB (fun b => bp4 (q b)) n (x / 256)
    rw [← ih (x / 256), e]
    clear e
    unfold bp4
    generalize apB q n (x / 256) = z at *
    generalize q (x % 256) = y at *
    rw [show (y + 256 * z + (y + 256 * z) / 16) / 256 = z + z / 16 by omega]
    generalize ((z + z / 16) &&& mkB 15 n) = w
    omega
theorem apB_b2 {q : Nat → Nat} (hq : ∀ b, b < 256 → q b < 128 ∧ q b % 16 ≤ 4) : ∀ n x : Nat, 2 * apB q n x + 1 ≤ 256 ^ n := by
  intro n
  induction n with
  | zero => intro x; show 2 * 0 + 1 ≤ 1; omega
  | succ n ih =>
    intro x
    have h1 := (hq (x % 256) (Nat.mod_lt _ (by omega))).1
    have h2 := ih (x / 256)
    show 2 * (q (x % 256) + 256 * apB q n (x / 256)) + 1 ≤ 256 ^ (n + 1)
    rw [Nat.pow_succ]
    omega
