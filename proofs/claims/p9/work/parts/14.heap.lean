section XHP
variable {l : Launch} {G : xG} {M : xM} {d kc ks : Nat} {Φ : Option Value → xH → Nat → Prop} {h : xH} {n : Nat} {pc : Nat} {L : List (Option Value)} {st : List Value}
theorem xone {G : xG} {h : xH} {n : Nat} {H : Heap} (hR : xRep G h n H) {a : Nat} {e : xE} (ha : h a = some e) : va_P G.1 vwCl [(a, xe G e)] H := by
  intro k q hq
  match k, hq with
  | 0, hq => cases hq; exact hR.2 a e ha
  | k + 1, hq => simp at hq
theorem x_get (hM : xOK M) {idx a ci k : Nat} {fs : List Value} {v : Value} (hd : xat M pc = some (.getfield idx, 3)) (hf : M.2.2.2.2.2.2.lookup idx = some (ci, k)) (ha : h a = some (.inr (ci, fs))) (hv : fs[k]? = some v) (kk : XW l G M d kc ks Φ (pc + 3) L (v :: st) h n) : XW l G M d kc ks Φ pc L (.ref a :: st) h n := by
  intro p e R s m args below meth c H locs cells slots ls A hC hR hS hI hA h1 h2 h3 h4 hL
  obtain ⟨C, T, N, hc, hk, hw⟩ := hM.2.2.2 _ (xlook hf)
  exact va_get (D := G.1) (cl := vwCl) (ws := [(a, .inr (ci, fs))]) hC.1 hC.2.1 hC.2.2.2.2.1 (xcl_in hc) hC.2.2.2.1 hC.2.2.2.2.2.2.2.2.1 (xone hR ha) 0 rfl hc k hk (hC.2.2.2.2.1 _ hw) (fun _ q => q) hv (hM.dec hd) (kk p e R s m args below meth c H locs cells slots ls A hC hR hS hI hA h1 h2 h3 h4 hL)
theorem x_put (hM : xOK M) {idx a ci k : Nat} {fs : List Value} {v : Value} (hd : xat M pc = some (.putfield idx, 3)) (hf : M.2.2.2.2.2.2.lookup idx = some (ci, k)) (ha : h a = some (.inr (ci, fs))) (hfin : xfin ci k = false) (hn : narrow (xty ci k) v = v) (hfit : fits (xty ci k) v = true) (hl : k < fs.length) (kk : XW l G M d kc ks Φ (pc + 3) L st (xup h a (.inr (ci, fs.set k v))) n) : XW l G M d kc ks Φ pc L (v :: .ref a :: st) h n := by
  intro p e R s m args below meth c H locs cells slots ls A hC hR hS hI hA h1 h2 h3 h4 hL
  obtain ⟨hx, hb, hml, hown, hts, hr, hlk, hnm, hK⟩ := id hC
  obtain ⟨C, T, N, hc, hk, hw⟩ := hM.2.2.2 _ (xlook hf)
  have hin := xcl_in hc
  have hap := va_apart (own := M.1.cls) hts hin (xty ci) (xcl_ty hc) (xcl_nm hc) hK.1 hc
  obtain ⟨r, e1, cell, q1, q2, q3, q4⟩ := hR.2 a _ ha
  have hr' : r = (C, T, N) := Option.some.inj (e1.symm.trans hc)
  subst hr'
  obtain ⟨hSl, hfc, kC, hkC, hkind⟩ := hK.1.1 ci _ hc
  obtain ⟨cf, kf, fi, f, hi, hsl⟩ := hSl k hk
  have hlay := hts _ (hin _ (u_in_lay hk))
  unfold u_lay at hlay
  have hfin' : (T k).2.2.2 = false := by
    have := hfin
    unfold xfin at this
    rw [hc] at this
    exact this
  rw [if_neg (by rw [hfin']; decide)] at hlay
  have hst := (u_facts hfc hkC (u_lays hts hin hk) hi).1
  have h6 := u_store hfc hkC hkind hlay hi (xcl_ty hc k hk) hn hfit
  refine W.putK hx hb (f := f) ⟨hown, hts _ hw, ⟨_, _, _, hi⟩, hst⟩ (by rw [q2]; exact h6) q1 q3 (by rw [hsl]; exact k2_hasslot (q4 k hk)) rfl rfl (hM.dec hd) fun H' g1 g2 g3 => ?_
  rw [hsl] at g1 ⊢
  exact kk p e R s m args below meth c H' _ cells slots ls A hC (hR.put g2 ⟨_, hc, t_OB.to (V := updV (vp_V fs) k v) ⟨_, g1, q2, q3, t_set q4 hap hk v⟩ (fun j _ => vp_updV_set hl v j)⟩ g3) (hS.put g2 g3 (hI a _ ha)) (hI.put _ (hI a _ ha)) hA h1 h2 h3 h4 hL
theorem x_putF (hM : xOK M) {idx a ci k : Nat} {fs : List Value} {v : Value} (hd : xat M pc = some (.putfield idx, 3)) (hf : M.2.2.2.2.2.2.lookup idx = some (ci, k)) (ha : h a = some (.inr (ci, fs))) (hfin : xfin ci k = true) (hi0 : M.1.name = "<init>") (ho : xdec ci k = M.1.cls) (hn : narrow (xty ci k) v = v) (hfit : fits (xty ci k) v = true) (hl : k < fs.length) (kk : XW l G M d kc ks Φ (pc + 3) L st (xup h a (.inr (ci, fs.set k v))) n) : XW l G M d kc ks Φ pc L (v :: .ref a :: st) h n := by
  intro p e R s m args below meth c H locs cells slots ls A hC hR hS hI hA h1 h2 h3 h4 hL
  obtain ⟨hx, hb, hml, hown, hts, hr, hlk, hnm, hK⟩ := id hC
  obtain ⟨C, T, N, hc, hk, hw⟩ := hM.2.2.2 _ (xlook hf)
  have hin := xcl_in hc
  have hap := va_apart (own := M.1.cls) hts hin (xty ci) (xcl_ty hc) (xcl_nm hc) hK.1 hc
  obtain ⟨r, e1, cell, q1, q2, q3, q4⟩ := hR.2 a _ ha
  have hr' : r = (C, T, N) := Option.some.inj (e1.symm.trans hc)
  subst hr'
  obtain ⟨hSl, hfc, kC, hkC, hkind⟩ := hK.1.1 ci _ hc
  obtain ⟨cf, kf, fi, f, hi, hsl⟩ := hSl k hk
  have hlay := hts _ (hin _ (u_in_lay hk))
  unfold u_lay at hlay
  have hfin' : (T k).2.2.2 = true := by
    have := hfin
    unfold xfin at this
    rw [hc] at this
    exact this
  have hdecl : (T k).1 = M.1.cls := by
    have := ho
    unfold xdec at this
    rw [hc] at this
    exact this
  rw [if_pos hfin'] at hlay
  have hst := (u_facts hfc hkC (u_lays hts hin hk) hi).1
  have hcf : m.cls = cf := by
    obtain ⟨_, _, c', _, _, _, -, -, hf', -, -, -, hown2, -⟩ := Cond.laysFinal_spec hlay
    have e1 : c' = cf := by have := hi.symm.trans hf'; simp at this; exact this.1.symm
    rw [hdecl] at hown2
    rw [← e1]; exact Option.some.inj (hown.symm.trans hown2)
  have h6 := u_fits hfc hkC hkind (Or.inr hlay) hi (xcl_ty hc k hk) hn hfit
  refine W.putFinK hx hb hown (hts _ hw) hi hst hcf (hnm hi0) (by rw [q2]; exact h6) q1 q3 (by rw [hsl]; exact k2_hasslot (q4 k hk)) rfl rfl (hM.dec hd) fun H' g1 g2 g3 => ?_
  rw [hsl] at g1 ⊢
  exact kk p e R s m args below meth c H' _ cells slots ls A hC (hR.put g2 ⟨_, hc, t_OB.to (V := updV (vp_V fs) k v) ⟨_, g1, q2, q3, t_set q4 hap hk v⟩ (fun j _ => vp_updV_set hl v j)⟩ g3) (hS.put g2 g3 (hI a _ ha)) (hI.put _ (hI a _ ha)) hA h1 h2 h3 h4 hL
/-- arrays -/
theorem x_iald (hM : xOK M) {a t N : Nat} {f : Nat → Int32} {i : Int32} (hd : xat M pc = some (.iaload, 1)) (ha : h a = some (.inl (t, N, .inl f))) (ht : xTys[t]? = some .int) (hin : vp_in i N) (kk : XW l G M d kc ks Φ (pc + 1) L (.int (f i.toNatClampNeg) :: st) h n) : XW l G M d kc ks Φ pc L (.int i :: .ref a :: st) h n := by
  intro p e R s m args below meth c H locs cells slots ls A hC hR hS hI hA h1 h2 h3 h4 hL
  exact va_iald (D := G.1) (cl := vwCl) (ws := [(a, .inl (G.2.1 t, N, .inl f))]) hC.1 hC.2.1 hC.2.2.2.2.2.2.2.2.1 (xone hR ha) 0 t rfl (xTl_at G ht) hin (hM.dec hd) (kk p e R s m args below meth c H locs cells slots ls A hC hR hS hI hA h1 h2 h3 h4 hL)
theorem x_zald (hM : xOK M) {a t N : Nat} {f : Nat → Int32} {i : Int32} (hd : xat M pc = some (.baload, 1)) (ha : h a = some (.inl (t, N, .inl f))) (ht : xTys[t]? = some .boolean) (hin : vp_in i N) (kk : XW l G M d kc ks Φ (pc + 1) L (.int (f i.toNatClampNeg) :: st) h n) : XW l G M d kc ks Φ pc L (.int i :: .ref a :: st) h n := by
  intro p e R s m args below meth c H locs cells slots ls A hC hR hS hI hA h1 h2 h3 h4 hL
  exact va_zald (D := G.1) (cl := vwCl) (ws := [(a, .inl (G.2.1 t, N, .inl f))]) hC.1 hC.2.1 hC.2.2.2.2.2.2.2.2.1 (xone hR ha) 0 t rfl (xTl_at G ht) hin (hM.dec hd) (kk p e R s m args below meth c H locs cells slots ls A hC hR hS hI hA h1 h2 h3 h4 hL)
theorem x_lald (hM : xOK M) {a t N : Nat} {f : Nat → Int64} {i : Int32} (hd : xat M pc = some (.laload, 1)) (ha : h a = some (.inl (t, N, .inr (.inl f)))) (ht : xTys[t]? = some .long) (hin : vp_in i N) (kk : XW l G M d kc ks Φ (pc + 1) L (.long (f i.toNatClampNeg) :: st) h n) : XW l G M d kc ks Φ pc L (.int i :: .ref a :: st) h n := by
  intro p e R s m args below meth c H locs cells slots ls A hC hR hS hI hA h1 h2 h3 h4 hL
  exact va_lald (D := G.1) (cl := vwCl) (ws := [(a, .inl (G.2.1 t, N, .inr (.inl f)))]) hC.1 hC.2.1 hC.2.2.2.2.2.2.2.2.1 (xone hR ha) 0 t rfl (xTl_at G ht) hin (hM.dec hd) (kk p e R s m args below meth c H locs cells slots ls A hC hR hS hI hA h1 h2 h3 h4 hL)
theorem x_aald (hM : xOK M) {a t N q : Nat} {C : String} {f : Nat → Option Nat} {i : Int32} (hd : xat M pc = some (.aaload, 1)) (ha : h a = some (.inl (t, N, .inr (.inr (.inr (.inr f)))))) (ht : xTys[t]? = some (.object C)) (hin : vp_in i N) (hq : f i.toNatClampNeg = some q) (kk : XW l G M d kc ks Φ (pc + 1) L (.ref q :: st) h n) : XW l G M d kc ks Φ pc L (.int i :: .ref a :: st) h n := by
  intro p e R s m args below meth c H locs cells slots ls A hC hR hS hI hA h1 h2 h3 h4 hL
  refine va_aldq (D := G.1) (cl := vwCl) (ws := [(a, .inl (G.2.1 t, N, .inr (.inr (.inr (.inr f)))))]) hC.1 hC.2.1 hC.2.2.2.2.2.2.2.2.1 (xone hR ha) 0 t rfl (xTl_at G ht) hin (hM.dec hd) ?_
  rw [hq]
  exact kk p e R s m args below meth c H locs cells slots ls A hC hR hS hI hA h1 h2 h3 h4 hL
theorem x_alen (hM : xOK M) {a t : Nat} {A0 : vp_A} {ty : FieldType} (hd : xat M pc = some (.arraylength, 1)) (ha : h a = some (.inl (t, A0))) (ht : xTys[t]? = some ty) (kk : XW l G M d kc ks Φ (pc + 1) L (.int (iI (A0.1 : Int)) :: st) h n) : XW l G M d kc ks Φ pc L (.ref a :: st) h n := by
  intro p e R s m args below meth c H locs cells slots ls A hC hR hS hI hA h1 h2 h3 h4 hL
  have hc : H[a]? = some (vp_cell (G.2.1 t) A0) := hR.2 a _ ha
  obtain ⟨N, fn⟩ := A0
  have hsz : (vp_cell (G.2.1 t) (N, fn)).slots.size = N := by
    unfold vp_cell
    rcases fn with f | f | f | f | f <;> exact arrV_size _ _ _
  have harr : s.isArrayOf (vp_cell (G.2.1 t) (N, fn)) ty := by
    have := (hC.2.2.2.2.2.2.2.2.1.2 t _ (xTl_at G ht)).1 N
    unfold vp_cell
    rcases fn with f | f | f | f | f <;> exact this _
  refine W.alen hC.1 hC.2.1 hc harr (n := iI (N : Int)) (by rw [hsz]; rfl) rfl rfl (hM.dec hd) ?_
  exact kk p e R s m args below meth c H locs cells slots ls A hC hR hS hI hA h1 h2 h3 h4 hL
theorem x_iast (hM : xOK M) {a t N : Nat} {f : Nat → Int32} {i x : Int32} (hd : xat M pc = some (.iastore, 1)) (ha : h a = some (.inl (t, N, .inl f))) (ht : xTys[t]? = some .int) (hin : vp_in i N) (kk : XW l G M d kc ks Φ (pc + 1) L st (xup h a (.inl (t, N, .inl (upd f i.toNatClampNeg x)))) n) : XW l G M d kc ks Φ pc L (.int x :: .int i :: .ref a :: st) h n := by
  intro p e R s m args below meth c H locs cells slots ls A hC hR hS hI hA h1 h2 h3 h4 hL
  refine W.iast hC.1 hC.2.1 (hR.2 a _ ha) ((hC.2.2.2.2.2.2.2.2.1.2 t _ (xTl_at G ht)).1 N (fun j => .int (f j))) (fun q => by cases q) (by show ¬ (i < 0 ∨ (arrV _ _ _).slots.size ≤ _); rw [arrV_size]; exact hin) rfl rfl (hM.dec hd) fun H1 g1 g2 g3 => ?_
  refine kk p e R s m args below meth c H1 _ cells slots ls A hC (hR.put g2 ?_ g3) (hS.put g2 g3 (hI a _ ha)) (hI.put _ (hI a _ ha)) hA h1 h2 h3 h4 hL
  have g1' : H1[a]? = some ((arrV (G.2.1 t) N (fun j => .int (f j))).setSlot i.toNatClampNeg (.int x)) := g1
  show H1[a]? = some (vp_cell (G.2.1 t) (N, .inl (upd f i.toNatClampNeg x)))
  rw [g1', arrV_store, vp_cell_i]
  congr 2
  funext q
  by_cases hq : q = i.toNatClampNeg
  · subst hq
    simp [updV, upd]
  · simp [updV, upd, hq]
theorem x_zast (hM : xOK M) {a t N : Nat} {f : Nat → Int32} {i x : Int32} (hd : xat M pc = some (.bastore, 1)) (ha : h a = some (.inl (t, N, .inl f))) (ht : xTys[t]? = some .boolean) (hin : vp_in i N) (kk : XW l G M d kc ks Φ (pc + 1) L st (xup h a (.inl (t, N, .inl (upd f i.toNatClampNeg (vp_nar .boolean x))))) n) : XW l G M d kc ks Φ pc L (.int x :: .int i :: .ref a :: st) h n := by
  intro p e R s m args below meth c H locs cells slots ls A hC hR hS hI hA h1 h2 h3 h4 hL
  refine W.zast hC.1 hC.2.1 (hR.2 a _ ha) ((hC.2.2.2.2.2.2.2.2.1.2 t _ (xTl_at G ht)).1 N (fun j => .int (f j))) (fun q => by cases q) (by show ¬ (i < 0 ∨ (arrV _ _ _).slots.size ≤ _); rw [arrV_size]; exact hin) rfl rfl (hM.dec hd) fun H1 g1 g2 g3 => ?_
  refine kk p e R s m args below meth c H1 _ cells slots ls A hC (hR.put g2 ?_ g3) (hS.put g2 g3 (hI a _ ha)) (hI.put _ (hI a _ ha)) hA h1 h2 h3 h4 hL
  show H1[a]? = some (vp_cell _ _)
  rw [g1]
  rw [vp_cell_i, vp_cell_i, arrV_store]
  congr 2
  funext q
  by_cases hq : q = i.toNatClampNeg
  · subst hq
    simp [updV, upd, vp_nar]
    try rfl
  · simp [updV, upd, hq]
theorem x_aast (hM : xOK M) {a t N v ci : Nat} {vs : List Value} {f : Nat → Option Nat} {i : Int32} {r : vw_C} (hd : xat M pc = some (.aastore, 1)) (ha : h a = some (.inl (t, N, .inr (.inr (.inr (.inr f)))))) (hv : h v = some (.inr (ci, vs))) (hc : vwCl[ci]? = some r) (ht : xTys[t]? = some (.object r.1)) (hin : vp_in i N) (kk : XW l G M d kc ks Φ (pc + 1) L st (xup h a (.inl (t, N, .inr (.inr (.inr (.inr (va_up f i.toNatClampNeg (some v)))))))) n) : XW l G M d kc ks Φ pc L (.ref v :: .int i :: .ref a :: st) h n := by
  intro p e R s m args below meth c H locs cells slots ls A hC hR hS hI hA h1 h2 h3 h4 hL
  have hK := hC.2.2.2.2.2.2.2.2.1
  have hlt : i.toNatClampNeg < N := Nat.not_le.mp fun q => hin (Or.inr q)
  have h0 : ¬ i < 0 := fun q => hin (Or.inl q)
  obtain ⟨r', hr', cellV, g1, g2, g3, -⟩ := hR.2 v _ hv
  have hcls := (hK.1 ci r hc).2
  obtain ⟨kA, comp, k1, k2, k3, -⟩ := (hK.2 t _ (xTl_at G ht)).2
  have hcomp : comp = G.1.1 ci := Option.some.inj (k3.symm.trans hcls.1)
  subst hcomp
  obtain ⟨kC, hkC, -⟩ := hcls.2
  refine W.aast hC.1 hC.2.1 (hR.2 a _ ha) (fun q h => by cases h) (fun h => by cases h) k1 k2 rfl hkC ⟨h0, by show _ < (arrV _ _ _).slots.size; rw [arrV_size]; exact hlt⟩ g1 (fun q h => by rw [g3] at h; cases h) (by rw [g2]; exact hkC) (by rw [g2]; exact va_assign hcls) rfl rfl (hM.dec hd) fun H1 f1 f2 f3 => ?_
  refine kk p e R s m args below meth c H1 _ cells slots ls A hC (hR.put f2 ?_ f3) (hS.put f2 f3 (hI a _ ha)) (hI.put _ (hI a _ ha)) hA h1 h2 h3 h4 hL
  have f1' : H1[a]? = some ((arrV (G.2.1 t) N (fun j => va_rf (f j))).setSlot i.toNatClampNeg (.ref v)) := f1
  show H1[a]? = some (vp_cell (G.2.1 t) (N, .inr (.inr (.inr (.inr (va_up f i.toNatClampNeg (some v)))))))
  rw [f1', arrV_store, vp_cell_q]
  congr 2
  funext q
  by_cases hq : q = i.toNatClampNeg
  · subst hq
    simp [updV, va_up, va_rf]
  · simp [updV, va_up, hq]
theorem va_S.grow {A : Nat → Prop} {H0 H H1 : Heap} {locs : List Loc} (hS : va_S A H0 H locs) (z : H1.size = H.size + 1) (o1 : ∀ q : Nat, q < H.size → H1[q]? = H[q]?) : va_S A H0 H1 locs :=
  ⟨Nat.le_trans hS.1 (by omega), fun x g1 g2 => (o1 x (Nat.lt_of_lt_of_le g1 hS.1)).trans (hS.2.1 x g1 g2), hS.2.2⟩
theorem x_new (hM : xOK M) {idx ci N : Nat} {C : String} {T : u_T} {fs : List Value} (hd : xat M pc = some (.new idx, 3)) (hc : vwCl[ci]? = some (C, T, N)) (hw : Cond.classLink M.1.cls idx C ∈ xws) (hfs : ∀ j, j < N → defaultValue (xty ci j) = vp_V fs j) (hkc : 1 ≤ kc) (hks : N ≤ ks) (kk : XW l G M d (kc - 1) (ks - N) Φ (pc + 3) L (.ref n :: st) (xup h n (.inr (ci, fs))) (n + 1)) : XW l G M d kc ks Φ pc L st h n := by
  intro p e R s m args below meth c H locs cells slots ls A hC hR hS hI hA h1 h2 h3 h4 hL
  obtain ⟨hx, hb, hml, hown, hts, hr, hlk, hnm, hK⟩ := id hC
  have hin := xcl_in hc
  have hKn := hK.1.1 ci _ hc
  have hwn := xcl_new hc
  refine W.newcK hx hb hown (hts _ hw) (hts _ hwn.1) (hts _ hwn.2) rfl (hM.dec hd) (by omega) (by omega) hKn.2.1 hR.1 fun H1 kC hkC e1 z1 o1 => ?_
  refine kk p e R s m args below meth c H1 locs (cells + 1) (slots + N) ls A hC (hR.new z1 ⟨_, hc, (u_born (xty ci) hts hin hKn hkC e1 (xcl_ty hc)).to hfs⟩ o1) (hS.grow (by rw [z1, hR.1]) (by rw [hR.1]; exact o1)) (hI.put _ (hA.1 n (by rw [← hR.1]; exact hS.1))) hA h1 h2 (by omega) (by omega) hL
theorem x_newi (hM : xOK M) {t N : Nat} {z : Int32} (hd : xat M pc = some (.newarray .int, 2)) (ht : xTys[t]? = some .int) (hw : Cond.arrayClass .int ∈ xws) (hz : ¬ z < 0) (hN : z.toNatClampNeg = N) (hb2 : N * 4 ≤ 536870912) (hkc : 1 ≤ kc) (hks : N ≤ ks) (kk : XW l G M d (kc - 1) (ks - N) Φ (pc + 2) L (.ref n :: st) (xup h n (.inl (t, N, .inl (fun _ => 0)))) (n + 1)) : XW l G M d kc ks Φ pc L (.int z :: st) h n := by
  intro p e R s m args below meth c H locs cells slots ls A hC hR hS hI hA h1 h2 h3 h4 hL
  obtain ⟨hx, hb, hml, hown, hts, hr, hlk, hnm, hK⟩ := id hC
  refine va_newaK (atype := .int) hx hb (hts _ hw) rfl (hM.dec hd) rfl hz hN hb2 (by omega) (by omega) hR.1 fun H1 cA e1 z1 o1 hAr hNm => ?_
  have hcA : cA = G.2.1 t := Option.some.inj (hNm.symm.trans (hK.1.2 t _ (xTl_at G ht)).2)
  subst hcA
  exact kk p e R s m args below meth c H1 locs (cells + 1) (slots + N) ls A hC (hR.new z1 e1 o1) (hS.grow (by rw [z1, hR.1]) (by rw [hR.1]; exact o1)) (hI.put _ (hA.1 n (by rw [← hR.1]; exact hS.1))) hA h1 h2 (by omega) (by omega) hL
theorem x_newz (hM : xOK M) {t N : Nat} {z : Int32} (hd : xat M pc = some (.newarray .boolean, 2)) (ht : xTys[t]? = some .boolean) (hw : Cond.arrayClass .boolean ∈ xws) (hz : ¬ z < 0) (hN : z.toNatClampNeg = N) (hb2 : N * 1 ≤ 536870912) (hkc : 1 ≤ kc) (hks : N ≤ ks) (kk : XW l G M d (kc - 1) (ks - N) Φ (pc + 2) L (.ref n :: st) (xup h n (.inl (t, N, .inl (fun _ => 0)))) (n + 1)) : XW l G M d kc ks Φ pc L (.int z :: st) h n := by
  intro p e R s m args below meth c H locs cells slots ls A hC hR hS hI hA h1 h2 h3 h4 hL
  obtain ⟨hx, hb, hml, hown, hts, hr, hlk, hnm, hK⟩ := id hC
  refine va_newaK (atype := .boolean) hx hb (hts _ hw) rfl (hM.dec hd) rfl hz hN hb2 (by omega) (by omega) hR.1 fun H1 cA e1 z1 o1 hAr hNm => ?_
  have hcA : cA = G.2.1 t := Option.some.inj (hNm.symm.trans (hK.1.2 t _ (xTl_at G ht)).2)
  subst hcA
  exact kk p e R s m args below meth c H1 locs (cells + 1) (slots + N) ls A hC (hR.new z1 e1 o1) (hS.grow (by rw [z1, hR.1]) (by rw [hR.1]; exact o1)) (hI.put _ (hA.1 n (by rw [← hR.1]; exact hS.1))) hA h1 h2 (by omega) (by omega) hL
theorem x_newq (hM : xOK M) {idx t N : Nat} {C : String} {z : Int32} (hd : xat M pc = some (.anewarray idx, 3)) (ht : xTys[t]? = some (.object C)) (hw : Cond.classLink M.1.cls idx C ∈ xws) (ho : C ∈ xOver) (hz : ¬ z < 0) (hN : z.toNatClampNeg = N) (hb2 : N * 4 ≤ 536870912) (hkc : 1 ≤ kc) (hks : N ≤ ks) (kk : XW l G M d (kc - 1) (ks - N) Φ (pc + 3) L (.ref n :: st) (xup h n (.inl (t, N, .inr (.inr (.inr (.inr (fun _ => none))))))) (n + 1)) : XW l G M d kc ks Φ pc L (.int z :: st) h n := by
  intro p e R s m args below meth c H locs cells slots ls A hC hR hS hI hA h1 h2 h3 h4 hL
  obtain ⟨hx, hb, hml, hown, hts, hr, hlk, hnm, hK⟩ := id hC
  subst hN
  refine W.anew hx hb hown (hts _ hw) (va_AO.use (hK.2.2 C ho)) rfl (hM.dec hd) rfl hz hb2 (by omega) (by omega) fun cA kA comp f1 f2 f3 f4 => ?_
  obtain ⟨kA', comp', -, -, -, f5⟩ := (hK.1.2 t _ (xTl_at G ht)).2
  have hcA : cA = G.2.1 t := Option.some.inj (f1.symm.trans f5)
  subst hcA
  generalize hH1 : H.push ({ cls := G.2.1 t, slots := Array.replicate z.toNatClampNeg .null, vm := .none } : Cell) = H1
  have z1 : H1.size = H.size + 1 := by rw [← hH1, Array.size_push]
  have e1 : H1[H.size]? = some (arrV (G.2.1 t) z.toNatClampNeg (fun _ => .null)) := by rw [← hH1, Array.getElem?_push_size, ← arrV_new]
  have o1 : ∀ q : Nat, q < H.size → H1[q]? = H[q]? := fun q hq => by rw [← hH1, Array.getElem?_push, if_neg (Nat.ne_of_lt hq)]
  have hz0 := hR.1
  refine W.eq (g2 := F0 m (pc + 3) ls (.ref n :: st)) (by rw [← hz0]) ?_
  exact kk p e R s m args below meth c H1 locs (cells + 1) (slots + z.toNatClampNeg) ls A hC (hR.new (by rw [z1, hz0]) (by rw [← hz0]; exact e1) (by rw [← hz0]; exact o1)) (hS.grow z1 o1) (hI.put _ (hA.1 n (by rw [← hz0]; exact hS.1))) hA h1 h2 (by omega) (by omega) hL
end XHP
