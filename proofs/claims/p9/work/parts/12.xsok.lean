section XSOK
variable {p : Program} {l : Launch} {e : Env} {R : Room} {s : State} {m : MethodId} {args : Array Value} {below : List Frame} {meth : Method} {c : Code} {H : Heap} {locs : List Loc} {cells slots : Nat} {Q : State → Prop}
set_option maxHeartbeats 4000000 in
theorem xs_ok {cc : ByteArray} {nL pc : Nat} {ls : Array Slot} {L L' : List (Option Value)} {st st' : List Value} {i : Instr} (hx : p.tables.exec = Jvm.exec) (hb : c.code = cc) (hL : xL ls nL L) (hd : decode cc pc = .ok (i, xlen i)) (hs : xs i nL L st = some (L', st')) (k : ∀ ls' : Array Slot, xL ls' nL L' → W p l e R s m args below meth c H locs cells slots Q (F0 m (pc + xlen i) ls' st')) : W p l e R s m args below meth c H locs cells slots Q (F0 m pc ls st) := by
  cases i
  case iconst z =>
    simp only [xs] at hs
    cases hs
    exact lv_iconst hx hb hd rfl (k ls hL)
  case bipush z =>
    simp only [xs] at hs
    split at hs
    · rename_i hz
      cases hs
      exact lv_bipush hx hb hd hz (k ls hL)
    · cases hs
  case sipush z =>
    simp only [xs] at hs
    split at hs
    · rename_i hz
      cases hs
      exact lv_sipush hx hb hd hz (k ls hL)
    · cases hs
  case lconst z =>
    simp only [xs] at hs
    cases hs
    exact lv_lconst hx hb hd rfl (k ls hL)
  case aconst_null =>
    simp only [xs] at hs
    cases hs
    exact lv_null hx hb hd (k ls hL)
  case iload_n q =>
    simp only [xs] at hs
    split at hs
    · rename_i x hq
      cases hs
      exact lv_iload_n hx hb hd rfl (hL.2.2 _ _ hq) (k ls hL)
    · cases hs
  case iload q =>
    simp only [xs] at hs
    split at hs
    · rename_i x hq
      cases hs
      exact lv_iload hx hb hd (hL.2.2 _ _ hq) (k ls hL)
    · cases hs
  case lload_n q =>
    simp only [xs] at hs
    split at hs
    · rename_i x hq
      cases hs
      exact lv_lload_n hx hb hd rfl (hL.2.2 _ _ hq) (k ls hL)
    · cases hs
  case lload q =>
    simp only [xs] at hs
    split at hs
    · rename_i x hq
      cases hs
      exact lv_lload hx hb hd (hL.2.2 _ _ hq) (k ls hL)
    · cases hs
  case aload_n q =>
    simp only [xs] at hs
    split at hs
    · rename_i x hq
      cases hs
      exact lv_aload_n hx hb hd rfl (hL.2.2 _ _ hq) (k ls hL)
    · cases hs
  case aload q =>
    simp only [xs] at hs
    split at hs
    · rename_i x hq
      cases hs
      exact lv_aload hx hb hd (hL.2.2 _ _ hq) (k ls hL)
    · cases hs
  case istore_n q =>
    simp only [xs] at hs
    split at hs
    · split at hs
      · rename_i hq
        cases hs
        exact lv_istore_n hx hb hd rfl hL.has hq rfl (fun ls' h' => k ls' (hL.st1 rfl h'))
      · cases hs
    · cases hs
  case istore q =>
    simp only [xs] at hs
    split at hs
    · split at hs
      · rename_i hq
        cases hs
        exact lv_istore hx hb hd hL.has hq rfl (fun ls' h' => k ls' (hL.st1 rfl h'))
      · cases hs
    · cases hs
  case astore_n q =>
    simp only [xs] at hs
    split at hs
    · split at hs
      · rename_i hq
        cases hs
        exact lv_astore_n hx hb hd rfl hL.has hq rfl (fun ls' h' => k ls' (hL.st1 rfl h'))
      · cases hs
    · cases hs
  case astore q =>
    simp only [xs] at hs
    split at hs
    · split at hs
      · rename_i hq
        cases hs
        exact lv_astore hx hb hd hL.has hq rfl (fun ls' h' => k ls' (hL.st1 rfl h'))
      · cases hs
    · cases hs
  case lstore_n q =>
    simp only [xs] at hs
    split at hs
    · split at hs
      · rename_i hq
        cases hs
        exact lv_lstore_n hx hb hd rfl hL.has hq rfl (fun ls' h' => k ls' (hL.st2 rfl h'))
      · cases hs
    · cases hs
  case lstore q =>
    simp only [xs] at hs
    split at hs
    · split at hs
      · rename_i hq
        cases hs
        exact lv_lstore hx hb hd hL.has hq rfl (fun ls' h' => k ls' (hL.st2 rfl h'))
      · cases hs
    · cases hs
  case iinc q z =>
    simp only [xs] at hs
    split at hs
    · split at hs
      · rename_i x hq hn
        cases hs
        obtain ⟨j, hj⟩ := List.getElem?_of_mem (xprs_mem.mpr hq)
        exact lv_iinc hx hb hd hL.has hj rfl hn rfl (fun ls' h' => k ls' (hL.st1 rfl h'))
      · cases hs
    · cases hs
  case iadd =>
    simp only [xs] at hs
    split at hs
    · cases hs
      exact lv_iadd hx hb hd (k ls hL)
    · cases hs
  case isub =>
    simp only [xs] at hs
    split at hs
    · cases hs
      exact lv_isub hx hb hd (k ls hL)
    · cases hs
  case imul =>
    simp only [xs] at hs
    split at hs
    · cases hs
      exact lv_imul hx hb hd (k ls hL)
    · cases hs
  case iand =>
    simp only [xs] at hs
    split at hs
    · cases hs
      exact lv_iand hx hb hd (k ls hL)
    · cases hs
  case ior =>
    simp only [xs] at hs
    split at hs
    · cases hs
      exact lv_ior hx hb hd (k ls hL)
    · cases hs
  case ixor =>
    simp only [xs] at hs
    split at hs
    · cases hs
      exact lv_ixor hx hb hd (k ls hL)
    · cases hs
  case ishl =>
    simp only [xs] at hs
    split at hs
    · cases hs
      exact lv_ishl hx hb hd (k ls hL)
    · cases hs
  case ishr =>
    simp only [xs] at hs
    split at hs
    · cases hs
      exact lv_ishr hx hb hd (k ls hL)
    · cases hs
  case ineg =>
    simp only [xs] at hs
    split at hs
    · cases hs
      exact lv_ineg hx hb hd (k ls hL)
    · cases hs
  case ladd =>
    simp only [xs] at hs
    split at hs
    · cases hs
      exact lv_ladd hx hb hd (k ls hL)
    · cases hs
  case lsub =>
    simp only [xs] at hs
    split at hs
    · cases hs
      exact lv_lsub hx hb hd (k ls hL)
    · cases hs
  case lmul =>
    simp only [xs] at hs
    split at hs
    · cases hs
      exact lv_lmul hx hb hd (k ls hL)
    · cases hs
  case land =>
    simp only [xs] at hs
    split at hs
    · cases hs
      exact lv_land hx hb hd (k ls hL)
    · cases hs
  case lor =>
    simp only [xs] at hs
    split at hs
    · cases hs
      exact lv_lor hx hb hd (k ls hL)
    · cases hs
  case lxor =>
    simp only [xs] at hs
    split at hs
    · cases hs
      exact lv_lxor hx hb hd (k ls hL)
    · cases hs
  case lneg =>
    simp only [xs] at hs
    split at hs
    · cases hs
      exact lv_lneg hx hb hd (k ls hL)
    · cases hs
  case iushr =>
    simp only [xs] at hs
    split at hs
    · cases hs
      exact lv_iushr hx hb hd rfl (k ls hL)
    · cases hs
  case i2l =>
    simp only [xs] at hs
    split at hs
    · cases hs
      exact lv_i2l hx hb hd rfl (k ls hL)
    · cases hs
  case l2i =>
    simp only [xs] at hs
    split at hs
    · cases hs
      exact lv_l2i hx hb hd rfl (k ls hL)
    · cases hs
  case lshl =>
    simp only [xs] at hs
    split at hs
    · cases hs
      exact lv_lshl hx hb hd rfl (k ls hL)
    · cases hs
  case lshr =>
    simp only [xs] at hs
    split at hs
    · cases hs
      exact lv_lshr hx hb hd rfl (k ls hL)
    · cases hs
  case lushr =>
    simp only [xs] at hs
    split at hs
    · cases hs
      exact lv_lushr hx hb hd rfl (k ls hL)
    · cases hs
  case lcmp =>
    simp only [xs] at hs
    split at hs
    · cases hs
      exact W.lcmp hx hb hd (k ls hL)
    · cases hs
  case dup =>
    simp only [xs] at hs
    split at hs
    · cases hs
      exact lv_dup hx hb hd rfl (k ls hL)
    · cases hs
      exact lv_dup hx hb hd rfl (k ls hL)
    · cases hs
  case dup_x1 =>
    simp only [xs] at hs
    split at hs
    · cases hs
      exact lv_dup_x1 hx hb hd rfl rfl (k ls hL)
    · cases hs
      exact lv_dup_x1 hx hb hd rfl rfl (k ls hL)
    · cases hs
  case dup_x2 =>
    simp only [xs] at hs
    split at hs
    · cases hs
      exact lv_dup_x2 hx hb hd rfl rfl rfl (k ls hL)
    · cases hs
  case dup2 =>
    simp only [xs] at hs
    split at hs
    · cases hs
      exact lv_dup2_11 hx hb hd rfl rfl (k ls hL)
    · cases hs
      exact lv_dup2_11 hx hb hd rfl rfl (k ls hL)
    · cases hs
      exact lv_dup2_2 hx hb hd rfl (k ls hL)
    · cases hs
  case pop =>
    simp only [xs] at hs
    split at hs
    · cases hs
      exact lv_pop hx hb hd rfl (k ls hL)
    · cases hs
      exact lv_pop hx hb hd rfl (k ls hL)
    · cases hs
  all_goals (simp [xs] at hs)
end XSOK
