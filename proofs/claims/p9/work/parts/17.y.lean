/-! THE SECOND LAYER: ints are whole numbers (z stands for the Java int of z), arrays are functions into whole numbers -/
abbrev xV : Type := Int ⊕ Int64 ⊕ Option Nat
abbrev vi (z : Int) : xV := .inl z
abbrev vl (w : Int64) : xV := .inr (.inl w)
abbrev vr (a : Nat) : xV := .inr (.inr (some a))
abbrev vn : xV := .inr (.inr none)
def den : xV → Value
  | .inl z => .int (iI z)
  | .inr (.inl w) => .long w
  | .inr (.inr (some a)) => .ref a
  | .inr (.inr none) => .null
/-- cells: kind and length and contents, or which of vwCl and the fields -/
abbrev yE : Type := (Nat × Nat × ((Nat → Int) ⊕ (Nat → Option Nat))) ⊕ (Nat × List xV)
abbrev yH : Type := Nat → Option yE
abbrev ai (N : Nat) (F : Nat → Int) : yE := .inl (0, N, .inl F)
abbrev az (N : Nat) (F : Nat → Int) : yE := .inl (1, N, .inl F)
abbrev aq (t N : Nat) (F : Nat → Option Nat) : yE := .inl (t, N, .inr F)
abbrev ob (ci : Nat) (fs : List xV) : yE := .inr (ci, fs)
def dE : yE → xE
  | .inl (t, N, .inl F) => .inl (t, N, .inl (fun k => iI (F k)))
  | .inl (t, N, .inr F) => .inl (t, N, .inr (.inr (.inr (.inr F))))
  | .inr (ci, fs) => .inr (ci, fs.map den)
def dH (h : yH) : xH := fun a => (h a).map dE
def yup (h : yH) (a : Nat) (e : yE) : yH := fun q => if q = a then some e else h q
theorem yup_eq (h : yH) (a : Nat) (e : yE) : yup h a e a = some e := by simp [yup]
theorem yup_ne (h : yH) {a q : Nat} (e : yE) (hq : q ≠ a) : yup h a e q = h q := by simp [yup, hq]
theorem dH_up (h : yH) (a : Nat) (e : yE) : xup (dH h) a (dE e) = dH (yup h a e) := by
  funext q
  by_cases c : q = a
  · subst c; rw [xup_eq]; simp [dH, yup]
  · rw [xup_ne _ _ c]; simp [dH, yup, c]
theorem dH_at {h : yH} {a : Nat} {e : yE} (ha : h a = some e) : dH h a = some (dE e) := by simp [dH, ha]
def mL (L : List (Option xV)) : List (Option Value) := L.map (fun o => o.map den)
def mS (st : List xV) : List Value := st.map den
def yPost (Φ : Option xV → yH → Nat → Prop) : Option Value → xH → Nat → Prop := fun v h n => ∃ (u : Option xV) (g : yH), v = u.map den ∧ h = dH g ∧ Φ u g n
def YW (l : Launch) (G : xG) (M : xM) (d kc ks : Nat) (Φ : Option xV → yH → Nat → Prop) (pc : Nat) (L : List (Option xV)) (st : List xV) (h : yH) (n : Nat) : Prop :=
  XW l G M d kc ks (yPost Φ) pc (mL L) (mS st) (dH h) n
def YM (l : Launch) (G : xG) (M : xM) (d mc ms : Nat) (av : List xV) (h : yH) (n : Nat) (Φ : Option xV → yH → Nat → Prop) : Prop :=
  XM l G M d mc ms (mS av) (dH h) n (yPost Φ)
def yand (x y : Int) : Int := (iI x &&& iI y).toInt
def yor (x y : Int) : Int := (iI x ||| iI y).toInt
def yxor (x y : Int) : Int := (iI x ^^^ iI y).toInt
def yshl (x y : Int) : Int := (iI x <<< (iI y &&& 31)).toInt
def yshr (x y : Int) : Int := (iI x >>> (iI y &&& 31)).toInt
def yushr (x y : Int) : Int := ((iI x).toUInt32 >>> ((iI y).toUInt32 &&& Int32.toUInt32 31)).toInt32.toInt
def ykill (o : Option xV) : Option xV := match o with
  | some (.inr (.inl _)) => none
  | o => o
def yst1 : List (Option xV) → Nat → xV → List (Option xV)
  | [], _, _ => []
  | _ :: t, 0, v => some v :: t
  | o :: t, 1, v => ykill o :: yst1 t 0 v
  | o :: t, i + 2, v => o :: yst1 t (i + 1) v
def yst2 : List (Option xV) → Nat → xV → List (Option xV)
  | [], _, _ => []
  | _ :: t, 0, v => some v :: t.set 0 none
  | o :: t, 1, v => ykill o :: yst2 t 0 v
  | o :: t, i + 2, v => o :: yst2 t (i + 1) v
theorem ykill_ok (o : Option xV) : xkill (o.map den) = (ykill o).map den := by
  match o with
  | none => rfl
  | some (.inl z) => rfl
  | some (.inr (.inl w)) => rfl
  | some (.inr (.inr (some a))) => rfl
  | some (.inr (.inr none)) => rfl
theorem yst1_ok : ∀ (L : List (Option xV)) (i : Nat) (v : xV), xst1 (mL L) i (den v) = mL (yst1 L i v)
  | [], i, v => by simp [mL, xst1, yst1]
  | o :: t, 0, v => by simp [mL, xst1, yst1]
  | o :: t, 1, v => by
    have := yst1_ok t 0 v
    simp only [mL, List.map_cons, xst1, yst1, ykill_ok] at this ⊢
    rw [this]
  | o :: t, i + 2, v => by
    have := yst1_ok t (i + 1) v
    simp only [mL, List.map_cons, xst1, yst1] at this ⊢
    rw [this]
theorem yst2_ok : ∀ (L : List (Option xV)) (i : Nat) (v : xV), xst2 (mL L) i (den v) = mL (yst2 L i v)
  | [], i, v => by simp [mL, xst2, yst2]
  | o :: t, 0, v => by simp [mL, xst2, yst2, List.map_set]
  | o :: t, 1, v => by
    have := yst2_ok t 0 v
    simp only [mL, List.map_cons, xst2, yst2, ykill_ok] at this ⊢
    rw [this]
  | o :: t, i + 2, v => by
    have := yst2_ok t (i + 1) v
    simp only [mL, List.map_cons, xst2, yst2] at this ⊢
    rw [this]
theorem mL_at {L : List (Option xV)} {k : Nat} {v : xV} (h : L[k]? = some (some v)) : (mL L)[k]? = some (some (den v)) := by simp [mL, h]
