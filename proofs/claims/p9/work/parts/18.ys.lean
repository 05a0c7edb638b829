def ys (i : Instr) (nL : Nat) (L : List (Option xV)) (st : List xV) : Option (List (Option xV) × List xV) :=
  match i with
  | .iconst z => some (L, vi z :: st)
  | .bipush z => if (Int8.ofInt z).toInt32 = iI z then some (L, vi z :: st) else none
  | .sipush z => if (Int16.ofInt z).toInt32 = iI z then some (L, vi z :: st) else none
  | .lconst z => some (L, vl (Int64.ofNat z) :: st)
  | .aconst_null => some (L, vn :: st)
  | .iload_n k => match L[(k : Nat)]? with | some (some (.inl x)) => some (L, vi x :: st) | _ => none
  | .iload k => match L[k]? with | some (some (.inl x)) => some (L, vi x :: st) | _ => none
  | .lload_n k => match L[(k : Nat)]? with | some (some (.inr (.inl x))) => some (L, vl x :: st) | _ => none
  | .lload k => match L[k]? with | some (some (.inr (.inl x))) => some (L, vl x :: st) | _ => none
  | .aload_n k => match L[(k : Nat)]? with | some (some (.inr (.inr (some x)))) => some (L, vr x :: st) | _ => none
  | .aload k => match L[k]? with | some (some (.inr (.inr (some x)))) => some (L, vr x :: st) | _ => none
  | .istore_n k => match st with | .inl x :: st => if (k : Nat) < nL then some (yst1 L k (vi x), st) else none | _ => none
  | .istore k => match st with | .inl x :: st => if k < nL then some (yst1 L k (vi x), st) else none | _ => none
  | .astore_n k => match st with | .inr (.inr (some x)) :: st => if (k : Nat) < nL then some (yst1 L k (vr x), st) else none | _ => none
  | .astore k => match st with | .inr (.inr (some x)) :: st => if k < nL then some (yst1 L k (vr x), st) else none | _ => none
  | .lstore_n k => match st with | .inr (.inl x) :: st => if (k : Nat) + 1 < nL then some (yst2 L k (vl x), st) else none | _ => none
  | .lstore k => match st with | .inr (.inl x) :: st => if k + 1 < nL then some (yst2 L k (vl x), st) else none | _ => none
  | .iinc k z => match L[k]? with | some (some (.inl x)) => if k < nL then some (yst1 L k (vi (x + z)), st) else none | _ => none
  | .iadd => match st with | .inl y :: .inl x :: st => some (L, vi (x + y) :: st) | _ => none
  | .isub => match st with | .inl y :: .inl x :: st => some (L, vi (x - y) :: st) | _ => none
  | .imul => match st with | .inl y :: .inl x :: st => some (L, vi (x * y) :: st) | _ => none
  | .ineg => match st with | .inl x :: st => some (L, vi (-x) :: st) | _ => none
  | .iand => match st with | .inl y :: .inl x :: st => some (L, vi (yand x y) :: st) | _ => none
  | .ior => match st with | .inl y :: .inl x :: st => some (L, vi (yor x y) :: st) | _ => none
  | .ixor => match st with | .inl y :: .inl x :: st => some (L, vi (yxor x y) :: st) | _ => none
  | .ishl => match st with | .inl y :: .inl x :: st => some (L, vi (yshl x y) :: st) | _ => none
  | .ishr => match st with | .inl y :: .inl x :: st => some (L, vi (yshr x y) :: st) | _ => none
  | .iushr => match st with | .inl y :: .inl x :: st => some (L, vi (yushr x y) :: st) | _ => none
  | .i2l => match st with | .inl x :: st => some (L, vl (iI x).toInt64 :: st) | _ => none
  | .l2i => match st with | .inr (.inl x) :: st => some (L, vi x.toInt32.toInt :: st) | _ => none
  | .ladd => match st with | .inr (.inl y) :: .inr (.inl x) :: st => some (L, vl (x + y) :: st) | _ => none
  | .lsub => match st with | .inr (.inl y) :: .inr (.inl x) :: st => some (L, vl (x - y) :: st) | _ => none
  | .lmul => match st with | .inr (.inl y) :: .inr (.inl x) :: st => some (L, vl (x * y) :: st) | _ => none
  | .land => match st with | .inr (.inl y) :: .inr (.inl x) :: st => some (L, vl (x &&& y) :: st) | _ => none
  | .lor => match st with | .inr (.inl y) :: .inr (.inl x) :: st => some (L, vl (x ||| y) :: st) | _ => none
  | .lxor => match st with | .inr (.inl y) :: .inr (.inl x) :: st => some (L, vl (x ^^^ y) :: st) | _ => none
  | .lneg => match st with | .inr (.inl x) :: st => some (L, vl (-x) :: st) | _ => none
  | .lshl => match st with | .inl y :: .inr (.inl x) :: st => some (L, vl (x <<< ((iI y).toInt64 &&& 63)) :: st) | _ => none
  | .lshr => match st with | .inl y :: .inr (.inl x) :: st => some (L, vl (x >>> ((iI y).toInt64 &&& 63)) :: st) | _ => none
  | .lushr => match st with | .inl y :: .inr (.inl x) :: st => some (L, vl ((x.toUInt64 >>> ((iI y).toInt64.toUInt64 &&& Int64.toUInt64 63)).toInt64) :: st) | _ => none
  | .lcmp => match st with | .inr (.inl y) :: .inr (.inl x) :: st => some (L, vi (lg_cmp x y).toInt :: st) | _ => none
  | .dup => match st with | .inl x :: st => some (L, vi x :: vi x :: st) | .inr (.inr (some x)) :: st => some (L, vr x :: vr x :: st) | _ => none
  | .dup_x1 => match st with | .inl x :: .inr (.inr (some y)) :: st => some (L, vi x :: vr y :: vi x :: st) | .inl x :: .inl y :: st => some (L, vi x :: vi y :: vi x :: st) | _ => none
  | .dup_x2 => match st with | .inl x :: .inl y :: .inr (.inr (some z)) :: st => some (L, vi x :: vi y :: vr z :: vi x :: st) | _ => none
  | .dup2 => match st with | .inl x :: .inr (.inr (some y)) :: st => some (L, vi x :: vr y :: vi x :: vr y :: st) | .inl x :: .inl y :: st => some (L, vi x :: vi y :: vi x :: vi y :: st) | .inr (.inl x) :: st => some (L, vl x :: vl x :: st) | _ => none
  | .pop => match st with | .inl _ :: st => some (L, st) | .inr (.inr (some _)) :: st => some (L, st) | _ => none
  | _ => none
set_option maxHeartbeats 4000000 in
theorem ys_ok {i : Instr} {nL : Nat} {L L' : List (Option xV)} {st st' : List xV} (hs : ys i nL L st = some (L', st')) : xs i nL (mL L) (mS st) = some (mL L', mS st') := by
  cases i
  case iconst z =>
    simp only [ys] at hs
    cases hs
    rfl
  case bipush z =>
    simp only [ys] at hs
    split at hs
    · rename_i hz
      cases hs
      simp only [xs, if_pos hz]
      rfl
    · cases hs
  case sipush z =>
    simp only [ys] at hs
    split at hs
    · rename_i hz
      cases hs
      simp only [xs, if_pos hz]
      rfl
    · cases hs
  case lconst z =>
    simp only [ys] at hs
    cases hs
    rfl
  case aconst_null =>
    simp only [ys] at hs
    cases hs
    rfl
  case iload_n k =>
    simp only [ys] at hs
    split at hs
    · rename_i x hq
      cases hs
      have hq' := mL_at hq
      simp only [den] at hq'
      simp only [xs, hq']
      rfl
    · cases hs
  case iload k =>
    simp only [ys] at hs
    split at hs
    · rename_i x hq
      cases hs
      have hq' := mL_at hq
      simp only [den] at hq'
      simp only [xs, hq']
      rfl
    · cases hs
  case lload_n k =>
    simp only [ys] at hs
    split at hs
    · rename_i x hq
      cases hs
      have hq' := mL_at hq
      simp only [den] at hq'
      simp only [xs, hq']
      rfl
    · cases hs
  case lload k =>
    simp only [ys] at hs
    split at hs
    · rename_i x hq
      cases hs
      have hq' := mL_at hq
      simp only [den] at hq'
      simp only [xs, hq']
      rfl
    · cases hs
  case aload_n k =>
    simp only [ys] at hs
    split at hs
    · rename_i x hq
      cases hs
      have hq' := mL_at hq
      simp only [den] at hq'
      simp only [xs, hq']
      rfl
    · cases hs
  case aload k =>
    simp only [ys] at hs
    split at hs
    · rename_i x hq
      cases hs
      have hq' := mL_at hq
      simp only [den] at hq'
      simp only [xs, hq']
      rfl
    · cases hs
  case istore_n k =>
    simp only [ys] at hs
    split at hs
    · split at hs
      · rename_i x st' hq
        cases hs
        have e := yst1_ok L k (vi x)
        simp only [den] at e
        simp only [xs, mS, List.map_cons, den, if_pos hq, e]
      · cases hs
    · cases hs
  case istore k =>
    simp only [ys] at hs
    split at hs
    · split at hs
      · rename_i x st' hq
        cases hs
        have e := yst1_ok L k (vi x)
        simp only [den] at e
        simp only [xs, mS, List.map_cons, den, if_pos hq, e]
      · cases hs
    · cases hs
  case astore_n k =>
    simp only [ys] at hs
    split at hs
    · split at hs
      · rename_i x st' hq
        cases hs
        have e := yst1_ok L k (vr x)
        simp only [den] at e
        simp only [xs, mS, List.map_cons, den, if_pos hq, e]
      · cases hs
    · cases hs
  case astore k =>
    simp only [ys] at hs
    split at hs
    · split at hs
      · rename_i x st' hq
        cases hs
        have e := yst1_ok L k (vr x)
        simp only [den] at e
        simp only [xs, mS, List.map_cons, den, if_pos hq, e]
      · cases hs
    · cases hs
  case lstore_n k =>
    simp only [ys] at hs
    split at hs
    · split at hs
      · rename_i x st' hq
        cases hs
        have e := yst2_ok L k (vl x)
        simp only [den] at e
        simp only [xs, mS, List.map_cons, den, if_pos hq, e]
      · cases hs
    · cases hs
  case lstore k =>
    simp only [ys] at hs
    split at hs
    · split at hs
      · rename_i x st' hq
        cases hs
        have e := yst2_ok L k (vl x)
        simp only [den] at e
        simp only [xs, mS, List.map_cons, den, if_pos hq, e]
      · cases hs
    · cases hs
  case iinc k z =>
    simp only [ys] at hs
    split at hs
    · split at hs
      · rename_i x hq hn
        cases hs
        have hq' := mL_at hq
        have e := yst1_ok L k (vi (x + z))
        simp only [den] at hq' e
        simp only [xs, hq', if_pos hn, iI_add, e]
      · cases hs
    · cases hs
  case iadd =>
    simp only [ys] at hs
    split at hs
    · cases hs
      simp only [xs, mS, List.map_cons, den, iI_add]
    · cases hs
  case isub =>
    simp only [ys] at hs
    split at hs
    · cases hs
      simp only [xs, mS, List.map_cons, den, iI_sub]
    · cases hs
  case imul =>
    simp only [ys] at hs
    split at hs
    · cases hs
      simp only [xs, mS, List.map_cons, den, iI_mul]
    · cases hs
  case ineg =>
    simp only [ys] at hs
    split at hs
    · cases hs
      simp only [xs, mS, List.map_cons, den, iI_neg]
    · cases hs
  case iand =>
    simp only [ys] at hs
    split at hs
    · cases hs
      simp only [xs, mS, List.map_cons, den, yand, ← iI_of]
    · cases hs
  case ior =>
    simp only [ys] at hs
    split at hs
    · cases hs
      simp only [xs, mS, List.map_cons, den, yor, ← iI_of]
    · cases hs
  case ixor =>
    simp only [ys] at hs
    split at hs
    · cases hs
      simp only [xs, mS, List.map_cons, den, yxor, ← iI_of]
    · cases hs
  case ishl =>
    simp only [ys] at hs
    split at hs
    · cases hs
      simp only [xs, mS, List.map_cons, den, yshl, ← iI_of]
    · cases hs
  case ishr =>
    simp only [ys] at hs
    split at hs
    · cases hs
      simp only [xs, mS, List.map_cons, den, yshr, ← iI_of]
    · cases hs
  case iushr =>
    simp only [ys] at hs
    split at hs
    · cases hs
      simp only [xs, mS, List.map_cons, den, yushr, ← iI_of]
    · cases hs
  case i2l =>
    simp only [ys] at hs
    split at hs
    · cases hs
      rfl
    · cases hs
  case l2i =>
    simp only [ys] at hs
    split at hs
    · cases hs
      simp only [xs, mS, List.map_cons, den, ← iI_of]
    · cases hs
  case ladd =>
    simp only [ys] at hs
    split at hs
    · cases hs
      rfl
    · cases hs
  case lsub =>
    simp only [ys] at hs
    split at hs
    · cases hs
      rfl
    · cases hs
  case lmul =>
    simp only [ys] at hs
    split at hs
    · cases hs
      rfl
    · cases hs
  case land =>
    simp only [ys] at hs
    split at hs
    · cases hs
      rfl
    · cases hs
  case lor =>
    simp only [ys] at hs
    split at hs
    · cases hs
      rfl
    · cases hs
  case lxor =>
    simp only [ys] at hs
    split at hs
    · cases hs
      rfl
    · cases hs
  case lneg =>
    simp only [ys] at hs
    split at hs
    · cases hs
      rfl
    · cases hs
  case lshl =>
    simp only [ys] at hs
    split at hs
    · cases hs
      rfl
    · cases hs
  case lshr =>
    simp only [ys] at hs
    split at hs
    · cases hs
      rfl
    · cases hs
  case lushr =>
    simp only [ys] at hs
    split at hs
    · cases hs
      rfl
    · cases hs
  case lcmp =>
    simp only [ys] at hs
    split at hs
    · cases hs
      simp only [xs, mS, List.map_cons, den, ← iI_of]
    · cases hs
  case dup =>
    simp only [ys] at hs
    split at hs
    · cases hs
      rfl
    · cases hs
      rfl
    · cases hs
  case dup_x1 =>
    simp only [ys] at hs
    split at hs
    · cases hs
      rfl
    · cases hs
      rfl
    · cases hs
  case dup_x2 =>
    simp only [ys] at hs
    split at hs
    · cases hs
      rfl
    · cases hs
  case dup2 =>
    simp only [ys] at hs
    split at hs
    · cases hs
      rfl
    · cases hs
      rfl
    · cases hs
      rfl
    · cases hs
  case pop =>
    simp only [ys] at hs
    split at hs
    · cases hs
      rfl
    · cases hs
      rfl
    · cases hs
  all_goals (simp [ys] at hs)
