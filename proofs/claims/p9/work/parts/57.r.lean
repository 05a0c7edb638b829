section C68
variable {l : Launch} {G : xG} {h : yH} {n : Nat}
theorem s_draw3 {b : Nat} {g0 : yH} {i0 i1 i3 i4 i5 i6 : Int} {B J : Nat → Int} {Φ : Option xV → yH → Nat → Prop} {x y z : Int} (y1 : 0 ≤ y) (y2 : y ≤ 96) (k1 : 24 ≤ i6) (k2 : i6 ≤ 128) (kk : ∀ (g : yH) (i2 : Int) (u4 : Option xV) (u5 : Option xV) (h : yH), SM b g0 g → RF b g B J i0 i1 i2 i3 i4 i5 i6 → MI b g h → YW l G mX7_draw 4 0 0 (Φ) 165 [some (vr (b + 540)), some (vi x), some (vi y), some (vi z), u4, u5] [] h n) : ∀ (m : Nat) (q : Int) (g : yH) (i2 : Int) (u5 : Option xV) (h : yH), (24 - q).toNat < m → 0 ≤ q → q ≤ 24 → SM b g0 g → RF b g B J i0 i1 i2 i3 i4 i5 i6 → MI b g h → YW l G mX7_draw 4 0 0 (Φ) 129 [some (vr (b + 540)), some (vi x), some (vi y), some (vi z), some (vi q), u5] [] h n := by
  intro m
  induction m with
  | zero => intro q g i2 u5 h hm; exact absurd hm (Nat.not_lt_zero _)
  | succ m ih =>
    intro q g i2 u5 h hmm j0 j1 hs hf hI
    obtain ⟨hm, hB, hJ, hBb, hBs, hBc, hJb, hi1, hi2, hi3, hi4⟩ := id hf
    refine y_run kX7_draw rfl ?_
    refine y_ic_ge kX7_draw rfl rfl (fun c1 => ?_) (fun c1 => ?_)
    · exact kk _ _ _ _ _  hs hf hI
    · refine y_run kX7_draw rfl ?_
      refine m_get kX7_draw (540) hI hm ?_
      refine y_run kX7_draw rfl ?_
      refine y_cv kX7_draw kX7_isCut 1 rfl (hI.x (k := 540) rfl hm) (by decide +kernel) (w_isCut hf (by omega) (by omega) (by omega) (by omega) hI) rfl rfl ?_
      rintro _ h _ ⟨v1, rfl, v1a, v1b, hI, rfl⟩
      refine y_if_eq kX7_draw rfl rfl (fun c2 => ?_) (fun c2 => ?_)
      · refine y_run kX7_draw rfl ?_
        refine m_pM12 kX7_draw hI hf hs (fun g h hs hf hI => ?_)
        obtain ⟨hm, hB, hJ, hBb, hBs, hBc, hJb, hi1, hi2, hi3, hi4⟩ := id hf
        refine y_run kX7_draw rfl ?_
        exact ih _ _ _ _ _ (by omega) (by omega) (by omega) hs hf hI
      · refine y_run kX7_draw rfl ?_
        refine m_pM12 kX7_draw hI hf hs (fun g h hs hf hI => ?_)
        obtain ⟨hm, hB, hJ, hBb, hBs, hBc, hJb, hi1, hi2, hi3, hi4⟩ := id hf
        refine y_run kX7_draw rfl ?_
        exact ih _ _ _ _ _ (by omega) (by omega) (by omega) hs hf hI
end C68
