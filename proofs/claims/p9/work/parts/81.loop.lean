section C81
variable {l : Launch} {G : xG} {M : xM} {d kc ks : Nat} {Φ : Option xV → yH → Nat → Prop} {h : yH} {n : Nat} {pc : Nat} {L : List (Option xV)} {st : List xV}
theorem y_ic_same (hM : xOK M) {z off : Int} {tgt : Nat} (hd : xat M pc = some (.if_icmp .eq off, 3)) (ht : xtg M pc off = some tgt) (kt : YW l G M d kc ks Φ tgt L st h n) : YW l G M d kc ks Φ pc L (vi z :: vi z :: st) h n := x_ic_eq hM hd ht (fun _ => kt) (fun c => absurd rfl c)
set_option maxHeartbeats 4000000 in
set_option maxRecDepth 10000 in
theorem law_loop {a N b : Nat} {xs : Nat → Int32} (hN : N ≤ 4096) : ∀ (m i : Nat) (n : Nat) (h : yH), N + 8 - i < m → i ≤ N → INV b h → YW l (gS G a N xs) mL_law 8 kc ks (fun v _ _ => v = some (vi 1)) 18 [some (vr a), some (vr b), some (vr (b + 540)), some (vi (i : Int))] [] h n := by
  intro m
  induction m with
  | zero => intro i n h h1; exact absurd h1 (by omega)
  | succ m ih =>
    intro i n h h1 h2 hi
    have r : ∀ k, inI (xs k).toInt := fun k => iI_rng _
    obtain ⟨fs, hx⟩ := hi.hx
    refine y_run kL_law rfl ?_
    refine y_slen kL_law rfl ?_
    refine y_run kL_law rfl ?_
    refine y_ic_gt kL_law rfl rfl (fun c => ?_) (fun c => ?_)
    · refine y_run kL_law rfl ?_
      exact y_zr kL_law rfl rfl (Or.inr rfl) rfl
    · have nx : ∀ (n : Nat) (h2 : yH), INV b h2 → YW l (gS G a N xs) mL_law 8 kc ks (fun v _ _ => v = some (vi 1)) 18 [some (vr a), some (vr b), some (vr (b + 540)), some (vi ((i : Int) + 8))] [] h2 n := by
        intro n h2 hi2
        refine YW.Le (congrArg (fun z : Int => [some (vr a), some (vr b), some (vr (b + 540)), some (vi z)]) (show (i : Int) + 8 = ((i + 8 : Nat) : Int) by omega)) ?_
        exact ih (i + 8) n h2 (by omega) (by omega) hi2
      refine y_run kL_law rfl ?_
      refine y_sld kL_law rfl (by omega) (by omega) (by omega) ?_
      refine y_run kL_law rfl ?_
      rw [yand_31]
      obtain ⟨w, hw⟩ : ∃ w : Int, w = (xs (i : Int).toNat).toInt % 32 := ⟨_, rfl⟩
      rw [← hw]
      have w0 : 0 ≤ w := by omega
      have w1 : w < 32 := by omega
      clear hw
      rcases (show w = 0 ∨ w = 1 ∨ w = 2 ∨ w = 3 ∨ w = 4 ∨ w = 5 ∨ w = 6 ∨ w = 7 ∨ w = 8 ∨ w = 9 ∨ w = 10 ∨ w = 11 ∨ w = 12 ∨ w = 13 ∨ w = 14 ∨ w = 15 ∨ w = 16 ∨ w = 17 ∨ 17 < w by omega) with rfl | rfl | rfl | rfl | rfl | rfl | rfl | rfl | rfl | rfl | rfl | rfl | rfl | rfl | rfl | rfl | rfl | rfl | hw
      · refine y_tin kL_law rfl rfl rfl ?_
        refine y_run kL_law rfl ?_
        refine y_sld kL_law rfl (by omega) (by omega) (by omega) ?_
        refine y_run kL_law rfl ?_
        refine y_sld kL_law rfl (by omega) (by omega) (by omega) ?_
        refine y_run kL_law rfl ?_
        refine y_sld kL_law rfl (by omega) (by omega) (by omega) ?_
        refine y_run kL_law rfl ?_
        refine y_sld kL_law rfl (by omega) (by omega) (by omega) ?_
        refine y_run kL_law rfl ?_
        refine y_sld kL_law rfl (by omega) (by omega) (by omega) ?_
        refine y_run kL_law rfl ?_
        refine y_sld kL_law rfl (by omega) (by omega) (by omega) ?_
        refine y_run kL_law rfl ?_
        refine y_sld kL_law rfl (by omega) (by omega) (by omega) ?_
        refine y_cv kL_law kX6_place 7 rfl hx (by decide +kernel) (pr_place hi (r _) (r _) (r _) (r _) (r _) (r _) (r _)) rfl rfl ?_
        rintro _ h1 _ ⟨rfl, z, rfl, ⟨fs1, hm⟩, hX⟩
        refine y_run kL_law rfl ?_
        refine y_sld kL_law rfl (by omega) (by omega) (by omega) ?_
        refine y_run kL_law rfl ?_
        refine y_sld kL_law rfl (by omega) (by omega) (by omega) ?_
        refine y_run kL_law rfl ?_
        refine y_sld kL_law rfl (by omega) (by omega) (by omega) ?_
        refine y_run kL_law rfl ?_
        refine y_sld kL_law rfl (by omega) (by omega) (by omega) ?_
        refine y_run kL_law rfl ?_
        refine y_sld kL_law rfl (by omega) (by omega) (by omega) ?_
        refine y_run kL_law rfl ?_
        refine y_sld kL_law rfl (by omega) (by omega) (by omega) ?_
        refine y_run kL_law rfl ?_
        refine y_sld kL_law rfl (by omega) (by omega) (by omega) ?_
        refine y_cv kL_law kX7_place 7 rfl hm (by decide +kernel) hX rfl rfl ?_
        rintro _ h2 _ ⟨rfl, hi2, z2, rfl, hz⟩
        refine y_run kL_law rfl ?_
        exact nx _ h2 hi2
      · refine y_tin kL_law rfl rfl rfl ?_
        refine y_run kL_law rfl ?_
        refine y_sld kL_law rfl (by omega) (by omega) (by omega) ?_
        refine y_cv kL_law kX6_lift 1 rfl hx (by decide +kernel) (pr_lift hi (r _)) rfl rfl ?_
        rintro _ h1 _ ⟨rfl, z, rfl, ⟨fs1, hm⟩, hX⟩
        refine y_run kL_law rfl ?_
        refine y_sld kL_law rfl (by omega) (by omega) (by omega) ?_
        refine y_cv kL_law kX7_lift 1 rfl hm (by decide +kernel) hX rfl rfl ?_
        rintro _ h2 _ ⟨rfl, hi2, z2, rfl, hz⟩
        refine y_run kL_law rfl ?_
        exact nx _ h2 hi2
      · refine y_tin kL_law rfl rfl rfl ?_
        refine y_run kL_law rfl ?_
        refine y_sld kL_law rfl (by omega) (by omega) (by omega) ?_
        refine y_run kL_law rfl ?_
        refine y_sld kL_law rfl (by omega) (by omega) (by omega) ?_
        refine y_run kL_law rfl ?_
        refine y_sld kL_law rfl (by omega) (by omega) (by omega) ?_
        refine y_run kL_law rfl ?_
        refine y_sld kL_law rfl (by omega) (by omega) (by omega) ?_
        refine y_run kL_law rfl ?_
        refine y_sld kL_law rfl (by omega) (by omega) (by omega) ?_
        refine y_cv kL_law kX6_paint 5 rfl hx (by decide +kernel) (pr_paint hi (r _) (r _) (r _) (r _) (r _)) rfl rfl ?_
        rintro _ h1 _ ⟨rfl, z, rfl, ⟨fs1, hm⟩, hX⟩
        refine y_run kL_law rfl ?_
        refine y_sld kL_law rfl (by omega) (by omega) (by omega) ?_
        refine y_run kL_law rfl ?_
        refine y_sld kL_law rfl (by omega) (by omega) (by omega) ?_
        refine y_run kL_law rfl ?_
        refine y_sld kL_law rfl (by omega) (by omega) (by omega) ?_
        refine y_run kL_law rfl ?_
        refine y_sld kL_law rfl (by omega) (by omega) (by omega) ?_
        refine y_run kL_law rfl ?_
        refine y_sld kL_law rfl (by omega) (by omega) (by omega) ?_
        refine y_cv kL_law kX7_paint 5 rfl hm (by decide +kernel) hX rfl rfl ?_
        rintro _ h2 _ ⟨rfl, hi2, z2, rfl, hz⟩
        refine y_run kL_law rfl ?_
        exact nx _ h2 hi2
      · refine y_tin kL_law rfl rfl rfl ?_
        refine y_run kL_law rfl ?_
        refine y_sld kL_law rfl (by omega) (by omega) (by omega) ?_
        refine y_run kL_law rfl ?_
        refine y_sld kL_law rfl (by omega) (by omega) (by omega) ?_
        refine y_run kL_law rfl ?_
        refine y_sld kL_law rfl (by omega) (by omega) (by omega) ?_
        refine y_cv kL_law kX6_ink 3 rfl hx (by decide +kernel) (pr_ink hi (r _) (r _)) rfl rfl ?_
        rintro _ h1 _ ⟨rfl, z, rfl, ⟨fs1, hm⟩, hX⟩
        refine y_run kL_law rfl ?_
        refine y_sld kL_law rfl (by omega) (by omega) (by omega) ?_
        refine y_run kL_law rfl ?_
        refine y_sld kL_law rfl (by omega) (by omega) (by omega) ?_
        refine y_run kL_law rfl ?_
        refine y_sld kL_law rfl (by omega) (by omega) (by omega) ?_
        refine y_cv kL_law kX7_ink 3 rfl hm (by decide +kernel) hX rfl rfl ?_
        rintro _ h2 _ ⟨rfl, hi2, z2, rfl, hz⟩
        refine y_run kL_law rfl ?_
        exact nx _ h2 hi2
      · refine y_tin kL_law rfl rfl rfl ?_
        refine y_run kL_law rfl ?_
        refine y_sld kL_law rfl (by omega) (by omega) (by omega) ?_
        refine y_run kL_law rfl ?_
        refine y_sld kL_law rfl (by omega) (by omega) (by omega) ?_
        refine y_run kL_law rfl ?_
        refine y_sld kL_law rfl (by omega) (by omega) (by omega) ?_
        refine y_cv kL_law kX6_slide 3 rfl hx (by decide +kernel) (pr_slide hi (r _) (r _) (r _)) rfl rfl ?_
        rintro _ h1 _ ⟨rfl, z, rfl, ⟨fs1, hm⟩, hX⟩
        refine y_run kL_law rfl ?_
        refine y_sld kL_law rfl (by omega) (by omega) (by omega) ?_
        refine y_run kL_law rfl ?_
        refine y_sld kL_law rfl (by omega) (by omega) (by omega) ?_
        refine y_run kL_law rfl ?_
        refine y_sld kL_law rfl (by omega) (by omega) (by omega) ?_
        refine y_cv kL_law kX7_slide 3 rfl hm (by decide +kernel) hX rfl rfl ?_
        rintro _ h2 _ ⟨rfl, hi2, z2, rfl, hz⟩
        refine y_run kL_law rfl ?_
        exact nx _ h2 hi2
      · refine y_tin kL_law rfl rfl rfl ?_
        refine y_run kL_law rfl ?_
        refine y_cv kL_law kX6_drop 0 rfl hx (by decide +kernel) (pr_drop hi) rfl rfl ?_
        rintro _ h1 _ ⟨rfl, z, rfl, ⟨fs1, hm⟩, hX⟩
        refine y_run kL_law rfl ?_
        refine y_cv kL_law kX7_drop 0 rfl hm (by decide +kernel) hX rfl rfl ?_
        rintro _ h2 _ ⟨rfl, hi2, z2, rfl, hz⟩
        refine y_run kL_law rfl ?_
        exact nx _ h2 hi2
      · refine y_tin kL_law rfl rfl rfl ?_
        refine y_run kL_law rfl ?_
        refine y_cv kL_law kX6_draw 0 rfl hx (by decide +kernel) (pr_draw hi) rfl rfl ?_
        rintro _ h1 _ ⟨rfl, z, rfl, ⟨fs1, hm⟩, hX⟩
        refine y_run kL_law rfl ?_
        refine y_cv kL_law kX7_draw 0 rfl hm (by decide +kernel) hX rfl rfl ?_
        rintro _ h2 _ ⟨rfl, hi2, z2, rfl, hz⟩
        refine y_run kL_law rfl ?_
        exact nx _ h2 hi2
      · refine y_tin kL_law rfl rfl rfl ?_
        refine y_run kL_law rfl ?_
        refine y_sld kL_law rfl (by omega) (by omega) (by omega) ?_
        refine y_run kL_law rfl ?_
        refine y_sld kL_law rfl (by omega) (by omega) (by omega) ?_
        refine y_cv kL_law kX6_piece 2 rfl hx (by decide +kernel) (pe_piece hi (r _) (r _)) rfl rfl ?_
        rintro _ h1 _ ⟨rfl, z, rfl, ⟨fs1, hm⟩, hX⟩
        refine y_run kL_law rfl ?_
        refine y_sld kL_law rfl (by omega) (by omega) (by omega) ?_
        refine y_run kL_law rfl ?_
        refine y_sld kL_law rfl (by omega) (by omega) (by omega) ?_
        refine y_cv kL_law kX7_piece 2 rfl hm (by decide +kernel) hX rfl rfl ?_
        rintro _ h2 _ ⟨rfl, hi2, z2, rfl, hz⟩
        subst hz
        refine y_ic_same kL_law rfl rfl ?_
        refine y_run kL_law rfl ?_
        exact nx _ h2 hi2
      · refine y_tin kL_law rfl rfl rfl ?_
        refine y_run kL_law rfl ?_
        refine y_sld kL_law rfl (by omega) (by omega) (by omega) ?_
        refine y_run kL_law rfl ?_
        refine y_sld kL_law rfl (by omega) (by omega) (by omega) ?_
        refine y_run kL_law rfl ?_
        refine y_sld kL_law rfl (by omega) (by omega) (by omega) ?_
        refine y_cv kL_law kX6_pixel 3 rfl hx (by decide +kernel) (pr_pixel hi (r _) (r _) (r _)) rfl rfl ?_
        rintro _ h1 _ ⟨rfl, z, rfl, ⟨fs1, hm⟩, hX⟩
        refine y_run kL_law rfl ?_
        refine y_sld kL_law rfl (by omega) (by omega) (by omega) ?_
        refine y_run kL_law rfl ?_
        refine y_sld kL_law rfl (by omega) (by omega) (by omega) ?_
        refine y_run kL_law rfl ?_
        refine y_sld kL_law rfl (by omega) (by omega) (by omega) ?_
        refine y_cv kL_law kX7_pixel 3 rfl hm (by decide +kernel) hX rfl rfl ?_
        rintro _ h2 _ ⟨rfl, hi2, z2, rfl, hz⟩
        refine y_run kL_law rfl ?_
        exact nx _ h2 hi2
      · refine y_tin kL_law rfl rfl rfl ?_
        refine y_run kL_law rfl ?_
        refine y_sld kL_law rfl (by omega) (by omega) (by omega) ?_
        refine y_cv kL_law kX6_seen 1 rfl hx (by decide +kernel) (pr_seen hi (r _)) rfl rfl ?_
        rintro _ h1 _ ⟨rfl, z, rfl, ⟨fs1, hm⟩, hX⟩
        refine y_run kL_law rfl ?_
        refine y_sld kL_law rfl (by omega) (by omega) (by omega) ?_
        refine y_cv kL_law kX7_seen 1 rfl hm (by decide +kernel) hX rfl rfl ?_
        rintro _ h2 _ ⟨rfl, hi2, z2, rfl, hz⟩
        refine y_run kL_law rfl ?_
        exact nx _ h2 hi2
      · refine y_tin kL_law rfl rfl rfl ?_
        refine y_run kL_law rfl ?_
        refine y_sld kL_law rfl (by omega) (by omega) (by omega) ?_
        refine y_cv kL_law kX6_changed 1 rfl hx (by decide +kernel) (pr_changed hi (r _)) rfl rfl ?_
        rintro _ h1 _ ⟨rfl, z, rfl, ⟨fs1, hm⟩, hX⟩
        refine y_run kL_law rfl ?_
        refine y_sld kL_law rfl (by omega) (by omega) (by omega) ?_
        refine y_cv kL_law kX7_changed 1 rfl hm (by decide +kernel) hX rfl rfl ?_
        rintro _ h2 _ ⟨rfl, hi2, z2, rfl, hz⟩
        refine y_run kL_law rfl ?_
        exact nx _ h2 hi2
      · refine y_tin kL_law rfl rfl rfl ?_
        refine y_run kL_law rfl ?_
        refine y_sld kL_law rfl (by omega) (by omega) (by omega) ?_
        refine y_cv kL_law kX6_count 1 rfl hx (by decide +kernel) (pr_count hi (r _)) rfl rfl ?_
        rintro _ h1 _ ⟨rfl, z, rfl, ⟨fs1, hm⟩, hX⟩
        refine y_run kL_law rfl ?_
        refine y_sld kL_law rfl (by omega) (by omega) (by omega) ?_
        refine y_cv kL_law kX7_count 1 rfl hm (by decide +kernel) hX rfl rfl ?_
        rintro _ h2 _ ⟨rfl, hi2, z2, rfl, hz⟩
        refine y_run kL_law rfl ?_
        exact nx _ h2 hi2
      · refine y_tin kL_law rfl rfl rfl ?_
        refine y_run kL_law rfl ?_
        refine y_sld kL_law rfl (by omega) (by omega) (by omega) ?_
        refine y_run kL_law rfl ?_
        refine y_sld kL_law rfl (by omega) (by omega) (by omega) ?_
        refine y_cv kL_law kX6_covers 2 rfl hx (by decide +kernel) (pr_covers hi (r _) (r _)) rfl rfl ?_
        rintro _ h1 _ ⟨rfl, z, rfl, ⟨fs1, hm⟩, hX⟩
        refine y_run kL_law rfl ?_
        refine y_sld kL_law rfl (by omega) (by omega) (by omega) ?_
        refine y_run kL_law rfl ?_
        refine y_sld kL_law rfl (by omega) (by omega) (by omega) ?_
        refine y_cv kL_law kX7_covers 2 rfl hm (by decide +kernel) hX rfl rfl ?_
        rintro _ h2 _ ⟨rfl, hi2, z2, rfl, hz⟩
        refine y_run kL_law rfl ?_
        exact nx _ h2 hi2
      · refine y_tin kL_law rfl rfl rfl ?_
        refine y_run kL_law rfl ?_
        refine y_sld kL_law rfl (by omega) (by omega) (by omega) ?_
        refine y_cv kL_law kX6_tangled 1 rfl hx (by decide +kernel) (pr_tangled hi (r _)) rfl rfl ?_
        rintro _ h1 _ ⟨rfl, z, rfl, ⟨fs1, hm⟩, hX⟩
        refine y_run kL_law rfl ?_
        refine y_sld kL_law rfl (by omega) (by omega) (by omega) ?_
        refine y_cv kL_law kX7_tangled 1 rfl hm (by decide +kernel) hX rfl rfl ?_
        rintro _ h2 _ ⟨rfl, hi2, z2, rfl, hz⟩
        refine y_run kL_law rfl ?_
        exact nx _ h2 hi2
      · refine y_tin kL_law rfl rfl rfl ?_
        refine y_run kL_law rfl ?_
        refine y_sld kL_law rfl (by omega) (by omega) (by omega) ?_
        refine y_run kL_law rfl ?_
        refine y_sld kL_law rfl (by omega) (by omega) (by omega) ?_
        refine y_run kL_law rfl ?_
        refine y_sld kL_law rfl (by omega) (by omega) (by omega) ?_
        refine y_cv kL_law kX6_under 3 rfl hx (by decide +kernel) (pr_under hi (r _) (r _) (r _)) rfl rfl ?_
        rintro _ h1 _ ⟨rfl, z, rfl, ⟨fs1, hm⟩, hX⟩
        refine y_run kL_law rfl ?_
        refine y_sld kL_law rfl (by omega) (by omega) (by omega) ?_
        refine y_run kL_law rfl ?_
        refine y_sld kL_law rfl (by omega) (by omega) (by omega) ?_
        refine y_run kL_law rfl ?_
        refine y_sld kL_law rfl (by omega) (by omega) (by omega) ?_
        refine y_cv kL_law kX7_under 3 rfl hm (by decide +kernel) hX rfl rfl ?_
        rintro _ h2 _ ⟨rfl, hi2, z2, rfl, hz⟩
        refine y_run kL_law rfl ?_
        exact nx _ h2 hi2
      · refine y_tin kL_law rfl rfl rfl ?_
        refine y_run kL_law rfl ?_
        refine y_sld kL_law rfl (by omega) (by omega) (by omega) ?_
        refine y_run kL_law rfl ?_
        refine y_sld kL_law rfl (by omega) (by omega) (by omega) ?_
        refine y_cv kL_law kX6_box 2 rfl hx (by decide +kernel) (pr_box hi (r _) (r _)) rfl rfl ?_
        rintro _ h1 _ ⟨rfl, z, rfl, ⟨fs1, hm⟩, hX⟩
        refine y_run kL_law rfl ?_
        refine y_sld kL_law rfl (by omega) (by omega) (by omega) ?_
        refine y_run kL_law rfl ?_
        refine y_sld kL_law rfl (by omega) (by omega) (by omega) ?_
        refine y_cv kL_law kX7_box 2 rfl hm (by decide +kernel) hX rfl rfl ?_
        rintro _ h2 _ ⟨rfl, hi2, z2, rfl, hz⟩
        refine y_run kL_law rfl ?_
        exact nx _ h2 hi2
      · refine y_tin kL_law rfl rfl rfl ?_
        refine y_run kL_law rfl ?_
        refine y_sld kL_law rfl (by omega) (by omega) (by omega) ?_
        refine y_cv kL_law kX6_keep 1 rfl hx (by decide +kernel) (pr_keep hi (r _)) rfl rfl ?_
        rintro _ h1 _ ⟨rfl, z, rfl, ⟨fs1, hm⟩, hX⟩
        refine y_run kL_law rfl ?_
        refine y_sld kL_law rfl (by omega) (by omega) (by omega) ?_
        refine y_cv kL_law kX7_keep 1 rfl hm (by decide +kernel) hX rfl rfl ?_
        rintro _ h2 _ ⟨rfl, hi2, z2, rfl, hz⟩
        refine y_run kL_law rfl ?_
        exact nx _ h2 hi2
      · refine y_tin kL_law rfl rfl rfl ?_
        refine y_run kL_law rfl ?_
        refine y_sld kL_law rfl (by omega) (by omega) (by omega) ?_
        refine y_cv kL_law kX6_back 1 rfl hx (by decide +kernel) (pr_back hi (r _)) rfl rfl ?_
        rintro _ h1 _ ⟨rfl, z, rfl, ⟨fs1, hm⟩, hX⟩
        refine y_run kL_law rfl ?_
        refine y_sld kL_law rfl (by omega) (by omega) (by omega) ?_
        refine y_cv kL_law kX7_back 1 rfl hm (by decide +kernel) hX rfl rfl ?_
        rintro _ h2 _ ⟨rfl, hi2, z2, rfl, hz⟩
        refine y_run kL_law rfl ?_
        exact nx _ h2 hi2
      · refine y_tout kL_law rfl (Or.inr hw) rfl ?_
        refine y_run kL_law rfl ?_
        exact nx _ h hi
set_option maxHeartbeats 4000000 in
theorem law_all {a N : Nat} {xs : Nat → Int32} (hN : N ≤ 4096) (n : Nat) : YW l (gS G a N xs) mL_law 8 600000 7302250 (fun v _ _ => v = some (vi 1)) 0 [some (vr a), none, none, none] [] (fun _ => none) n := by
  refine y_new kL_law (ci := 6) rfl rfl (by decide +kernel) nw6_ok ?_
  refine y_run kL_law rfl ?_
  refine y_ci kL_law kX6_init 0 rfl (by decide +kernel) (c_Binit (b := n) (yup_eq _ _ _) rfl) rfl rfl ?_
  rintro _ h1 _ ⟨rfl, hn, -, rfl⟩
  refine y_run kL_law rfl ?_
  refine y_new kL_law (ci := 7) rfl rfl (by decide +kernel) nw7_ok ?_
  refine y_run kL_law rfl ?_
  refine y_ci kL_law kX7_init 0 rfl (by decide +kernel) (c_Minit (c := n + 540) (yup_eq _ _ _) rfl) rfl rfl ?_
  rintro _ h2 _ ⟨rfl, hm, hf, rfl⟩
  refine y_run kL_law rfl ?_
  refine YW.Le (congrArg (fun z : Int => [some (vr a), some (vr n), some (vr (n + 540)), some (vi z)]) (show (0 : Int) = ((0 : Nat) : Int) by omega)) ?_
  exact law_loop hN (N + 9) 0 _ h2 (by omega) (by omega) (INV_new (hn.on (fun q hq => (hf q hq).trans (yup_ne _ _ (by omega)))) hm)
end C81
