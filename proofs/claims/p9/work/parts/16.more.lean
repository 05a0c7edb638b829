section XMO
variable {l : Launch} {G : xG} {M : xM} {d kc ks : Nat} {Φ Ψ : Option Value → xH → Nat → Prop} {h : xH} {n : Nat} {pc : Nat} {L : List (Option Value)} {st rest : List Value}
theorem x_ldc (hM : xOK M) {idx : Nat} {v : Int32} (hd : xat M pc = some (.ldc idx, 2)) (hl : xmem (.constant M.1.cls idx v) = true) (k : XW l G M d kc ks Φ (pc + 2) L (.int v :: st) h n) : XW l G M d kc ks Φ pc L st h n := by
  intro p e R s m args below meth c H locs cells slots ls A hC hR hS hI hA h1 h2 h3 h4 hL
  exact lv_ldc hC.1 hC.2.1 hC.2.2.2.1 (hC.2.2.2.2.1 _ (xmem_of hl)) (hM.dec hd) (k p e R s m args below meth c H locs cells slots ls A hC hR hS hI hA h1 h2 h3 h4 hL)
theorem x_ldc2 (hM : xOK M) {idx : Nat} {v : Int64} (hd : xat M pc = some (.ldc2_w idx, 3)) (hl : xmem (.constantLong M.1.cls idx v) = true) (k : XW l G M d kc ks Φ (pc + 3) L (.long v :: st) h n) : XW l G M d kc ks Φ pc L st h n := by
  intro p e R s m args below meth c H locs cells slots ls A hC hR hS hI hA h1 h2 h3 h4 hL
  exact lv_ldc2 hC.1 hC.2.1 hC.2.2.2.1 (hC.2.2.2.2.1 _ (xmem_of hl)) (hM.dec hd) (k p e R s m args below meth c H locs cells slots ls A hC hR hS hI hA h1 h2 h3 h4 hL)
theorem x_idiv (hM : xOK M) {x y : Int32} (hd : xat M pc = some (.idiv, 1)) (hy : ¬ y = 0) (k : XW l G M d kc ks Φ (pc + 1) L (.int (x / y) :: st) h n) : XW l G M d kc ks Φ pc L (.int y :: .int x :: st) h n := by
  intro p e R s m args below meth c H locs cells slots ls A hC hR hS hI hA h1 h2 h3 h4 hL
  exact lv_idiv hC.1 hC.2.1 (hM.dec hd) hy (k p e R s m args below meth c H locs cells slots ls A hC hR hS hI hA h1 h2 h3 h4 hL)
theorem x_irem (hM : xOK M) {x y : Int32} (hd : xat M pc = some (.irem, 1)) (hy : ¬ y = 0) (k : XW l G M d kc ks Φ (pc + 1) L (.int (x - x / y * y) :: st) h n) : XW l G M d kc ks Φ pc L (.int y :: .int x :: st) h n := by
  intro p e R s m args below meth c H locs cells slots ls A hC hR hS hI hA h1 h2 h3 h4 hL
  exact lv_irem hC.1 hC.2.1 (hM.dec hd) hy (k p e R s m args below meth c H locs cells slots ls A hC hR hS hI hA h1 h2 h3 h4 hL)
theorem x_tin (hM : xOK M) {x : Int32} {dflt lo hi off v : Int} {offs : Array Int} {len tgt : Nat} (hd : xat M pc = some (.tableswitch dflt lo hi offs, len)) (hv : x.toInt = v) (g1 : ¬ v < lo) (g2 : ¬ hi < v) (ho : offs[(v - lo).toNat]? = some off) (ht : xtg M pc off = some tgt) (k : XW l G M d kc ks Φ tgt L st h n) : XW l G M d kc ks Φ pc L (.int x :: st) h n := by
  subst hv
  intro p e R s m args below meth c H locs cells slots ls A hC hR hS hI hA h1 h2 h3 h4 hL
  exact lv_tableIn hC.1 hC.2.1 (hM.dec hd) g1 g2 ho (xtg_of ht) (k p e R s m args below meth c H locs cells slots ls A hC hR hS hI hA h1 h2 h3 h4 hL)
theorem x_tout (hM : xOK M) {x : Int32} {dflt lo hi : Int} {offs : Array Int} {len tgt : Nat} (hd : xat M pc = some (.tableswitch dflt lo hi offs, len)) (hv : x.toInt < lo ∨ hi < x.toInt) (ht : xtg M pc dflt = some tgt) (k : XW l G M d kc ks Φ tgt L st h n) : XW l G M d kc ks Φ pc L (.int x :: st) h n := by
  intro p e R s m args below meth c H locs cells slots ls A hC hR hS hI hA h1 h2 h3 h4 hL
  exact lv_tableOut hC.1 hC.2.1 (hM.dec hd) hv (xtg_of ht) (k p e R s m args below meth c H locs cells slots ls A hC hR hS hI hA h1 h2 h3 h4 hL)
theorem x_lsw (hM : xOK M) {x : Int32} {dflt off : Int} {ps : Array (Int × Int)} {len tgt : Nat} (hd : xat M pc = some (.lookupswitch dflt ps, len)) (hp : (ps.toList.zip (ps.toList.drop 1)).all (fun (a, next) => a.1 < next.1) = true) (ho : Op.lookupswitch.offset ps.toList dflt x.toInt = off) (ht : xtg M pc off = some tgt) (k : XW l G M d kc ks Φ tgt L st h n) : XW l G M d kc ks Φ pc L (.int x :: st) h n := by
  intro p e R s m args below meth c H locs cells slots ls A hC hR hS hI hA h1 h2 h3 h4 hL
  exact lv_lookup hC.1 hC.2.1 (hM.dec hd) hp ho (xtg_of ht) (k p e R s m args below meth c H locs cells slots ls A hC hR hS hI hA h1 h2 h3 h4 hL)
/-- System.arraycopy of ints -/
theorem x_copy (hM : xOK M) {idx a0 a t N0 N1 : Nat} {f g : Nat → Int32} {sp dp z : Int32} (hd : xat M pc = some (.invokestatic idx, 3)) (hl : (xmem (.methodLink M.1.cls idx arraycopyName) && (xmem (.native arraycopyName) && (xmem (.static arraycopyName) && xmem (.initialized "java/lang/System")))) = true) (ha0 : h a0 = some (.inl (t, N0, .inl f))) (ha : h a = some (.inl (t, N1, .inl g))) (ht : xTys[t]? = some .int) (g1 : ¬ sp < 0) (g2 : ¬ dp < 0) (g3 : ¬ z < 0) (g4 : sp.toNatClampNeg + z.toNatClampNeg ≤ N0) (g5 : dp.toNatClampNeg + z.toNatClampNeg ≤ N1)
    (kk : XW l G M d kc ks Φ (pc + 3) L st (xup h a (.inl (t, N1, .inl (va_cpy f g sp.toNatClampNeg dp.toNatClampNeg z.toNatClampNeg)))) n) (hd1 : 1 ≤ d := by omega) (hrest : (st.map fun v => v.category).sum ≤ 8 := by exact Nat.le_of_ble_eq_true rfl) : XW l G M d kc ks Φ pc L (.int z :: .int dp :: .ref a :: .int sp :: .ref a0 :: st) h n := by
  rw [Bool.and_eq_true, Bool.and_eq_true, Bool.and_eq_true] at hl
  obtain ⟨w1, w2, w3, w4⟩ := hl
  intro p e R s m args below meth c H locs cells slots ls A hC hR hS hI hA h1 h2 h3 h4 hL
  obtain ⟨hx, hb, hml, hown, hts, hr, hlk, hnm, hK⟩ := id hC
  have hnw : nativeFrameWords "java/lang/System" "arraycopy" 5 ≤ 18 := by decide +kernel
  have nn : ∀ z : Int32, ¬ z < 0 → z.toInt = (z.toNatClampNeg : Int) := by
    intro z hz
    have hz0 : (0 : Int) ≤ z.toInt := by
      have := Int32.not_lt.mp hz
      simpa using Int32.le_iff_toInt_le.mp this
    show z.toInt = ((z.toInt.toNat : Nat) : Int)
    omega
  intro T hT X
  have hc0 : H[a0]? = some (vp_cell (G.2.1 t) (N0, .inl f)) := hR.2 a0 _ ha0
  have hc1 : H[a]? = some (vp_cell (G.2.1 t) (N1, .inl g)) := hR.2 a _ ha
  obtain ⟨-, k0, hk0, cm0, hkk0⟩ := (hK.1.2 t _ (xTl_at G ht)).1 N0 (fun j => .int (f j))
  obtain ⟨-, k1, hk1, cm1, hkk1⟩ := (hK.1.2 t _ (xTl_at G ht)).1 N1 (fun j => .int (g j))
  obtain ⟨vm', X', step⟩ := X.arraycopy hx hown (hts _ (xmem_of w1)) (hts _ (xmem_of w2)) (hts _ (xmem_of w3)) (hts _ (xmem_of w4)) (src := a0) (dst := a) (cs := vp_cell (G.2.1 t) (N0, .inl f)) (cd := vp_cell (G.2.1 t) (N1, .inl g)) (srcPos := sp) (destPos := dp) (n := z) (by rw [hT]; exact hc0) (by rw [hT]; exact hc1)
    (fun _ h => by cases h) (fun _ h => by cases h) (fun h => by cases h) (fun h => by cases h) hk0 hk1 hkk0 hkk1 (by simp [refKind]) g1 g2 g3
    (by rw [nn sp g1, nn z g3]; show ¬ _ > ((arrV (G.2.1 t) N0 (fun j => .int (f j))).slots.size : Int); rw [arrV_size]; omega)
    (by rw [nn dp g2, nn z g3]; show ¬ _ > ((arrV (G.2.1 t) N1 (fun j => .int (g j))).slots.size : Int); rw [arrV_size]; omega)
    (fun vm₁ _ i hi => by
      have e : (vp_cell (G.2.1 t) (N0, .inl f)).slots.getD (sp.toNatClampNeg + i) .null = .int (f (sp.toNatClampNeg + i)) := by
        show (arrV (G.2.1 t) N0 (fun j => .int (f j))).slots.getD _ _ = _
        rw [Array.getD_eq_getD_getElem?, arrV_read _ _ (by omega)]
        rfl
      refine ⟨?_, ?_⟩
      · rw [e]
        rfl
      · rw [e]
        exact trivial)
    (g := F0 m pc ls (.int z :: .int dp :: .ref a :: .int sp :: .ref a0 :: st)) rfl (by rw [hml]; exact hL.1) (rest := st) rfl (by rw [hb]; exact hM.dec hd) (by omega) (by show 2 * 0 + _ + _ ≤ _; omega)
  have e1 : copied (vp_cell (G.2.1 t) (N0, .inl f)) (vp_cell (G.2.1 t) (N1, .inl g)) sp dp z = vp_cell (G.2.1 t) (N1, .inl (va_cpy f g sp.toNatClampNeg dp.toNatClampNeg z.toNatClampNeg)) := va_copied (fun z => .int z) (G.2.1 t) (G.2.1 t) f g g4
  rw [e1] at X' step
  have hlt : a < H.size := (Array.getElem?_eq_some_iff.mp hc1).1
  have hheap : ((T.setVm vm').setCell a (vp_cell (G.2.1 t) (N1, .inl (va_cpy f g sp.toNatClampNeg dp.toNatClampNeg z.toNatClampNeg)))).heap = H.setIfInBounds a (vp_cell (G.2.1 t) (N1, .inl (va_cpy f g sp.toNatClampNeg dp.toNatClampNeg z.toNatClampNeg))) := by rw [← hT]; rfl
  have oq : ∀ q : Nat, q ≠ a → (H.setIfInBounds a (vp_cell (G.2.1 t) (N1, .inl (va_cpy f g sp.toNatClampNeg dp.toNatClampNeg z.toNatClampNeg))))[q]? = H[q]? := fun q hq => by simp [Array.getElem?_setIfInBounds, Ne.symm hq]
  obtain ⟨t', a1, b1⟩ := kk p e R s m args below meth c _ _ cells slots ls A hC (hR.put (by simp) (show (H.setIfInBounds a _)[a]? = some _ by simp [Array.getElem?_setIfInBounds, hlt]) oq) ⟨by simp; exact hS.1, fun q q1 q2 => by
      rw [oq q (fun e => q2 (by rw [e]; exact hI a _ ha))]
      exact hS.2.1 q q1 q2, fun q hq => by
      rcases List.mem_append.mp hq with h | h
      · exact hS.2.2 q h
      · obtain ⟨z, -, hz⟩ := List.mem_map.mp h
        rw [← hz]
        exact hI a _ ha⟩ (hI.put _ (hI a _ ha)) hA h1 h2 h3 h4 hL _ hheap X'
  exact ⟨t', step t' a1, b1⟩
end XMO
