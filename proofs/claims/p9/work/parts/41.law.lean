/-! the law's own body: the script is known beside the heap -/
abbrev gS (G : xG) (b N : Nat) (xs : Nat → Int32) : xG := (G.1, G.2.1, fun s A => va_X b N xs s s.heap ∧ b < s.heap.size ∧ ¬ A b)
section C40
variable {l : Launch} {G : xG} {M : xM} {d kc ks : Nat} {Φ : Option xV → yH → Nat → Prop} {h : yH} {n : Nat} {pc : Nat} {L : List (Option xV)} {st : List xV} {b N : Nat} {xs : Nat → Int32}
theorem y_sld (hM : xOK M) {z : Int} (hd : xat M pc = some (.iaload, 1)) (h1 : 0 ≤ z) (h2 : z < N) (h3 : z < 2147483648) (kk : YW l (gS G b N xs) M d kc ks Φ (pc + 1) L (vi (xs z.toNat).toInt :: st) h n) : YW l (gS G b N xs) M d kc ks Φ pc L (vi z :: vr b :: st) h n := by
  intro p e R s m args below meth c H locs cells slots ls A hC hR hS hI hA g1 g2 g3 g4 hL
  obtain ⟨hX, hbl, hbA⟩ := hA.2
  refine va_sld hC.1 hC.2.1 hX hbl hbA hS (iI_in h1 h2 h3) (hM.dec hd) ?_
  rw [iI_nat h1 h3]
  have k := kk p e R s m args below meth c H locs cells slots ls A hC hR hS hI hA g1 g2 g3 g4 hL
  have e : mS (vi (xs z.toNat).toInt :: st) = .int (xs z.toNat) :: mS st := by
    show Value.int (iI (xs z.toNat).toInt) :: mS st = _
    rw [← iI_of]
  rw [e] at k
  exact k
theorem y_slen (hM : xOK M) (hd : xat M pc = some (.arraylength, 1)) (kk : YW l (gS G b N xs) M d kc ks Φ (pc + 1) L (vi (N : Int) :: st) h n) : YW l (gS G b N xs) M d kc ks Φ pc L (vr b :: st) h n := by
  intro p e R s m args below meth c H locs cells slots ls A hC hR hS hI hA g1 g2 g3 g4 hL
  obtain ⟨hX, hbl, hbA⟩ := hA.2
  exact va_slen hC.1 hC.2.1 hX hbl hbA hS (hM.dec hd) (kk p e R s m args below meth c H locs cells slots ls A hC hR hS hI hA g1 g2 g3 g4 hL)
end C40
