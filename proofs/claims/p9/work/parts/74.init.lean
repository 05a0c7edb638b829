section C74
variable {l : Launch} {G : xG} {M : xM} {d kc ks : Nat} {Φ : Option xV → yH → Nat → Prop} {h : yH} {n : Nat} {pc : Nat} {L : List (Option xV)} {st : List xV}
theorem YW.gen {a : Nat} {e : yE} (k : ∀ g : yH, g a = some e → (∀ q, q ≠ a → g q = h q) → YW l G M d kc ks Φ pc L st g n) : YW l G M d kc ks Φ pc L st (yup h a e) n := k _ (yup_eq _ _ _) (fun q hq => yup_ne _ _ hq)
theorem SC.cp {h h' : yH} {a : Nat} {t : Int} {E K R T : Nat → Int} (q : SC h a t E K R T) (e : ∀ k, k < 5 → h' (a + k) = h (a + k)) : SC h' a t E K R T := ⟨(e 0 (by omega)).trans q.1, (e 1 (by omega)).trans q.2.1, (e 2 (by omega)).trans q.2.2.1, (e 3 (by omega)).trans q.2.2.2.1, (e 4 (by omega)).trans q.2.2.2.2⟩
def KP (h : yH) (b i : Nat) : Prop := (∃ F, h (b + 6) = some (aq 2 4 F) ∧ ∀ k, k < i → F k = some (b + (520 + 5 * k))) ∧ ∀ k, k < i → SC h (b + (520 + 5 * k)) 0 (fun _ => 0) (fun _ => 0) (flF (fun _ => 0) 21845 64) (fun _ => 0)
set_option maxHeartbeats 2000000 in
theorem s_Binit {b : Nat} : ∀ (m : Nat) (i : Nat) (h : yH), 4 - i < m → i ≤ 4 → h b = some (bo b (b + 20) (b + 270) 0) → KP h b i → (∀ h', KP h' b 4 → (∀ q, q < b + 520 → q ≠ b + 6 → h' q = h q) → Φ none h' (b + 540)) → YW l G mX6_init 3 (20 - 5 * i) (1260 - 315 * i) Φ 119 [some (vr b), some (vi (i : Int))] [] h (b + (520 + 5 * i)) := by
  intro m
  induction m with
  | zero => intro i h h1; exact absurd h1 (by omega)
  | succ m ih =>
    intro i h h1 h2 hx hP kk
    refine y_run kX6_init rfl ?_
    refine y_ic_ge kX6_init rfl rfl (fun c => ?_) (fun c => ?_)
    · have hi : i = 4 := by omega
      subst hi
      exact y_vr kX6_init rfl rfl (kk h hP (fun q _ _ => rfl))
    · obtain ⟨⟨F, p1, p2⟩, p3⟩ := hP
      refine y_run kX6_init rfl ?_
      refine y_get kX6_init rfl rfl hx rfl ?_
      refine y_run kX6_init rfl ?_
      refine y_new kX6_init (ci := 5) rfl rfl (by decide +kernel) nw5_ok ?_
      refine y_run kX6_init rfl ?_
      refine y_ci kX6_init kX5_init 0 rfl (by decide +kernel) (c_Sinit (a := b + (520 + 5 * i)) (yup_eq _ _ _) rfl) rfl rfl ?_
      rintro _ t _ ⟨rfl, hS, hf, rfl⟩
      have hf' : ∀ q, q < b + (520 + 5 * i) → t q = h q := fun q hq => (hf q hq).trans (yup_ne _ _ (by omega))
      refine y_qs kX6_init rfl ((hf' _ (by omega)).trans p1) hS.1 rfl rfl (by omega) (by omega) ?_
      refine YW.gen (fun g x1 e1 => ?_)
      refine y_run kX6_init rfl ?_
      refine YW.ke (kc' := 20 - 5 * (i + 1)) (ks' := 1260 - 315 * (i + 1)) (n' := b + (520 + 5 * (i + 1))) (by omega) (by omega) (by omega) ?_
      refine YW.Le (L' := [some (vr b), some (vi ((i + 1 : Nat) : Int))]) (congrArg (fun z : Int => [some (vr b), some (vi z)]) (show (i : Int) + 1 = ((i + 1 : Nat) : Int) by omega)) ?_
      refine ih (i + 1) g (by omega) (by omega) ((e1 b (by omega)).trans ((hf' b (by omega)).trans hx)) ⟨⟨_, x1, fun k hk => ?_⟩, fun k hk => ?_⟩ (fun h' hP' hf2 => kk h' hP' (fun q q1 q2 => (hf2 q q1 q2).trans ((e1 q q2).trans (hf' q (by omega)))))
      · unfold va_up
        by_cases c : k = i
        · subst c; simp
        · rw [if_neg (by omega)]; exact p2 k (by omega)
      · by_cases c : k = i
        · subst c
          exact hS.cp (fun j hj => e1 _ (by omega))
        · exact (p3 k (by omega)).cp (fun j hj => (e1 _ (by omega)).trans (hf' _ (by omega)))
def NEW (h : yH) (b : Nat) : Prop := h b = some (bo b (b + 20) (b + 270) 0) ∧ SC h (b + 1) 0 (fun _ => 0) (fun _ => 0) (flF (fun _ => 0) 21845 64) (fun _ => 0) ∧ KP h b 4 ∧ h (b + 7) = some (az 4 (fun _ => 0)) ∧ QI h (b + 8) ∧ h (b + 15) = some (ob 4 nw4) ∧ h (b + 16) = some (ob 1 nw1) ∧ h (b + 17) = some (ob 1 nw1) ∧ h (b + 18) = some (ai 24 (fun _ => 0)) ∧ h (b + 19) = some (ai 24 (fun _ => 0)) ∧ PI h (b + 20) ∧ PI h (b + 270)
set_option maxHeartbeats 8000000 in
theorem c_Binit {b : Nat} (ha : h b = some (ob 6 nw6)) (hn : n = b + 1) : YM l G mX6_init 3 539 21430 [vr b] h n (fun r h' n' => r = none ∧ NEW h' b ∧ (∀ q, q < b → h' q = h q) ∧ n' = b + 540) := by
  subst hn
  refine YM.of kX6_init (Nat.le_of_ble_eq_true rfl) (L0 := [some (vr b), none]) rfl ?_
  refine y_run kX6_init rfl ?_
  refine y_ob kX6_init rfl (by decide +kernel) ?_
  refine y_run kX6_init rfl ?_
  refine y_new kX6_init (ci := 5) rfl rfl (by decide +kernel) nw5_ok ?_
  refine y_run kX6_init rfl ?_
  refine y_ci kX6_init kX5_init 0 rfl (by decide +kernel) (c_Sinit (a := b + 1) (yup_eq _ _ _) rfl) rfl rfl ?_
  rintro _ t1 _ ⟨rfl, w1, v1, rfl⟩
  refine y_putF kX6_init rfl rfl ((v1 b (by omega)).trans ((yup_ne _ _ (by omega)).trans ha)) rfl rfl rfl rfl rfl ?_
  refine YW.gen (fun g1 x1 e1 => ?_)
  have f1 : ∀ q, q < b + 1 → q ≠ b → g1 q = h q := fun q q1 q2 => (e1 q q2).trans ((v1 q q1).trans (yup_ne _ _ (by omega)))
  refine YW.ke (n' := b + 6) rfl rfl (by omega) ?_
  refine y_run kX6_init rfl ?_
  refine y_newq kX6_init (t := 2) (N := 4) rfl rfl (by decide +kernel) (by decide) rfl (by omega) ?_
  refine y_putF kX6_init rfl rfl ((yup_ne _ _ (by omega)).trans x1) rfl rfl rfl rfl rfl ?_
  refine YW.gen (fun g2 x2 e2 => ?_)
  have f2 : ∀ q, q < b + 6 → q ≠ b → g2 q = g1 q := fun q q1 q2 => (e2 q q2).trans (yup_ne _ _ (by omega))
  have w2 : g2 (b + 6) = some (aq 2 4 (fun _ => none)) := (e2 _ (by omega)).trans (yup_eq _ _ _)
  refine YW.ke (n' := b + 7) rfl rfl (by omega) ?_
  refine y_run kX6_init rfl ?_
  refine y_newz kX6_init rfl (by decide +kernel) (N := 4) rfl (by omega) ?_
  refine y_putF kX6_init rfl rfl ((yup_ne _ _ (by omega)).trans x2) rfl rfl rfl rfl rfl ?_
  refine YW.gen (fun g3 x3 e3 => ?_)
  have f3 : ∀ q, q < b + 7 → q ≠ b → g3 q = g2 q := fun q q1 q2 => (e3 q q2).trans (yup_ne _ _ (by omega))
  have w3 : g3 (b + 7) = some (az 4 (fun _ => 0)) := (e3 _ (by omega)).trans (yup_eq _ _ _)
  refine YW.ke (n' := b + 8) rfl rfl (by omega) ?_
  refine y_run kX6_init rfl ?_
  refine y_new kX6_init (ci := 2) rfl rfl (by decide +kernel) nw2_ok ?_
  refine y_run kX6_init rfl ?_
  refine y_ci kX6_init kX2_init 0 rfl (by decide +kernel) (c_Qinit (a := b + 8) (yup_eq _ _ _) rfl) rfl rfl ?_
  rintro _ t4 _ ⟨rfl, w4, v4, rfl⟩
  refine y_putF kX6_init rfl rfl ((v4 b (by omega)).trans ((yup_ne _ _ (by omega)).trans x3)) rfl rfl rfl rfl rfl ?_
  refine YW.gen (fun g4 x4 e4 => ?_)
  have f4 : ∀ q, q < b + 8 → q ≠ b → g4 q = g3 q := fun q q1 q2 => (e4 q q2).trans ((v4 q q1).trans (yup_ne _ _ (by omega)))
  refine YW.ke (n' := b + 15) rfl rfl (by omega) ?_
  refine y_run kX6_init rfl ?_
  refine y_new kX6_init (ci := 4) rfl rfl (by decide +kernel) nw4_ok ?_
  refine y_run kX6_init rfl ?_
  refine y_ci kX6_init kX4_init 0 rfl (by decide +kernel) (n_Rinit (a := b + 15)) rfl rfl ?_
  rintro _ _ _ ⟨rfl, rfl, rfl⟩
  refine y_putF kX6_init rfl rfl ((yup_ne _ _ (by omega)).trans x4) rfl rfl rfl rfl rfl ?_
  refine YW.gen (fun g5 x5 e5 => ?_)
  have f5 : ∀ q, q < b + 15 → q ≠ b → g5 q = g4 q := fun q q1 q2 => (e5 q q2).trans (yup_ne _ _ (by omega))
  have w5 : g5 (b + 15) = some (ob 4 nw4) := (e5 _ (by omega)).trans (yup_eq _ _ _)
  refine YW.ke (n' := b + 16) rfl rfl (by omega) ?_
  refine y_run kX6_init rfl ?_
  refine y_new kX6_init (ci := 1) rfl rfl (by decide +kernel) nw1_ok ?_
  refine y_run kX6_init rfl ?_
  refine y_ci kX6_init kX1_init 0 rfl (by decide +kernel) (n_Oinit (a := b + 16)) rfl rfl ?_
  rintro _ _ _ ⟨rfl, rfl, rfl⟩
  refine y_putF kX6_init rfl rfl ((yup_ne _ _ (by omega)).trans x5) rfl rfl rfl rfl rfl ?_
  refine YW.gen (fun g6 x6 e6 => ?_)
  have f6 : ∀ q, q < b + 16 → q ≠ b → g6 q = g5 q := fun q q1 q2 => (e6 q q2).trans (yup_ne _ _ (by omega))
  have w6 : g6 (b + 16) = some (ob 1 nw1) := (e6 _ (by omega)).trans (yup_eq _ _ _)
  refine YW.ke (n' := b + 17) rfl rfl (by omega) ?_
  refine y_run kX6_init rfl ?_
  refine y_new kX6_init (ci := 1) rfl rfl (by decide +kernel) nw1_ok ?_
  refine y_run kX6_init rfl ?_
  refine y_ci kX6_init kX1_init 0 rfl (by decide +kernel) (n_Oinit (a := b + 17)) rfl rfl ?_
  rintro _ _ _ ⟨rfl, rfl, rfl⟩
  refine y_putF kX6_init rfl rfl ((yup_ne _ _ (by omega)).trans x6) rfl rfl rfl rfl rfl ?_
  refine YW.gen (fun g7 x7 e7 => ?_)
  have f7 : ∀ q, q < b + 17 → q ≠ b → g7 q = g6 q := fun q q1 q2 => (e7 q q2).trans (yup_ne _ _ (by omega))
  have w7 : g7 (b + 17) = some (ob 1 nw1) := (e7 _ (by omega)).trans (yup_eq _ _ _)
  refine YW.ke (n' := b + 18) rfl rfl (by omega) ?_
  refine y_run kX6_init rfl ?_
  refine y_newi kX6_init rfl (by decide +kernel) (N := 24) rfl (by omega) ?_
  refine y_putF kX6_init rfl rfl ((yup_ne _ _ (by omega)).trans x7) rfl rfl rfl rfl rfl ?_
  refine YW.gen (fun g8 x8 e8 => ?_)
  have f8 : ∀ q, q < b + 18 → q ≠ b → g8 q = g7 q := fun q q1 q2 => (e8 q q2).trans (yup_ne _ _ (by omega))
  have w8 : g8 (b + 18) = some (ai 24 (fun _ => 0)) := (e8 _ (by omega)).trans (yup_eq _ _ _)
  refine YW.ke (n' := b + 19) rfl rfl (by omega) ?_
  refine y_run kX6_init rfl ?_
  refine y_newi kX6_init rfl (by decide +kernel) (N := 24) rfl (by omega) ?_
  refine y_putF kX6_init rfl rfl ((yup_ne _ _ (by omega)).trans x8) rfl rfl rfl rfl rfl ?_
  refine YW.gen (fun g9 x9 e9 => ?_)
  have f9 : ∀ q, q < b + 19 → q ≠ b → g9 q = g8 q := fun q q1 q2 => (e9 q q2).trans (yup_ne _ _ (by omega))
  have w9 : g9 (b + 19) = some (ai 24 (fun _ => 0)) := (e9 _ (by omega)).trans (yup_eq _ _ _)
  refine YW.ke (n' := b + 20) rfl rfl (by omega) ?_
  refine y_run kX6_init rfl ?_
  refine y_new kX6_init (ci := 3) rfl rfl (by decide +kernel) nw3_ok ?_
  refine y_run kX6_init rfl ?_
  refine y_ci kX6_init kX3_init 0 rfl (by decide +kernel) (c_Pinit (a := b + 20) (yup_eq _ _ _) rfl) rfl rfl ?_
  rintro _ t10 _ ⟨rfl, w10, v10, rfl⟩
  refine y_put kX6_init rfl rfl ((v10 b (by omega)).trans ((yup_ne _ _ (by omega)).trans x9)) rfl rfl rfl ?_
  refine YW.gen (fun g10 x10 e10 => ?_)
  have f10 : ∀ q, q < b + 20 → q ≠ b → g10 q = g9 q := fun q q1 q2 => (e10 q q2).trans ((v10 q q1).trans (yup_ne _ _ (by omega)))
  refine YW.ke (n' := b + 270) rfl rfl (by omega) ?_
  refine y_run kX6_init rfl ?_
  refine y_new kX6_init (ci := 3) rfl rfl (by decide +kernel) nw3_ok ?_
  refine y_run kX6_init rfl ?_
  refine y_ci kX6_init kX3_init 0 rfl (by decide +kernel) (c_Pinit (a := b + 270) (yup_eq _ _ _) rfl) rfl rfl ?_
  rintro _ t11 _ ⟨rfl, w11, v11, rfl⟩
  refine y_put kX6_init rfl rfl ((v11 b (by omega)).trans ((yup_ne _ _ (by omega)).trans x10)) rfl rfl rfl ?_
  refine YW.gen (fun g11 x11 e11 => ?_)
  have f11 : ∀ q, q < b + 270 → q ≠ b → g11 q = g10 q := fun q q1 q2 => (e11 q q2).trans ((v11 q q1).trans (yup_ne _ _ (by omega)))
  refine YW.ke (n' := b + 520) rfl rfl (by omega) ?_
  refine y_run kX6_init rfl ?_
  refine y_put kX6_init rfl rfl x11 rfl rfl rfl ?_
  refine YW.gen (fun g12 x12 e12 => ?_)
  refine y_run kX6_init rfl ?_
  refine YW.ke (kc' := 20 - 5 * 0) (ks' := 1260 - 315 * 0) (n' := b + (520 + 5 * 0)) (by omega) (by omega) (by omega) ?_
  have D11 : ∀ q, q ≠ b → g12 q = g11 q := e12
  have D10 : ∀ q, q < b + 270 → q ≠ b → g12 q = g10 q := fun q q1 q2 => (D11 q q2).trans (f11 q q1 q2)
  have D9 : ∀ q, q < b + 20 → q ≠ b → g12 q = g9 q := fun q q1 q2 => (D10 q (by omega) q2).trans (f10 q q1 q2)
  have D8 : ∀ q, q < b + 19 → q ≠ b → g12 q = g8 q := fun q q1 q2 => (D9 q (by omega) q2).trans (f9 q q1 q2)
  have D7 : ∀ q, q < b + 18 → q ≠ b → g12 q = g7 q := fun q q1 q2 => (D8 q (by omega) q2).trans (f8 q q1 q2)
  have D6 : ∀ q, q < b + 17 → q ≠ b → g12 q = g6 q := fun q q1 q2 => (D7 q (by omega) q2).trans (f7 q q1 q2)
  have D5 : ∀ q, q < b + 16 → q ≠ b → g12 q = g5 q := fun q q1 q2 => (D6 q (by omega) q2).trans (f6 q q1 q2)
  have D4 : ∀ q, q < b + 15 → q ≠ b → g12 q = g4 q := fun q q1 q2 => (D5 q (by omega) q2).trans (f5 q q1 q2)
  have D3 : ∀ q, q < b + 8 → q ≠ b → g12 q = g3 q := fun q q1 q2 => (D4 q (by omega) q2).trans (f4 q q1 q2)
  have D2 : ∀ q, q < b + 7 → q ≠ b → g12 q = g2 q := fun q q1 q2 => (D3 q (by omega) q2).trans (f3 q q1 q2)
  have D1 : ∀ q, q < b + 6 → q ≠ b → g12 q = g1 q := fun q q1 q2 => (D2 q (by omega) q2).trans (f2 q q1 q2)
  have D0 : ∀ q, q < b → g12 q = h q := fun q q1 => (D1 q (by omega) (by omega)).trans (f1 q (by omega) (by omega))
  refine s_Binit 5 0 g12 (by omega) (by omega) x12 ⟨⟨_, (D2 _ (by omega) (by omega)).trans w2, fun k hk => absurd hk (by omega)⟩, fun k hk => absurd hk (by omega)⟩ (fun h' hP hf => ⟨rfl, ⟨(hf b (by omega) (by omega)).trans x12, w1.cp (fun k hk => ?_), hP, ?_, w4.on (fun k hk => ?_), ?_, ?_, ?_, ?_, ?_, w10.on (fun k hk => ?_), w11.on (fun k hk => ?_)⟩, fun q hq => (hf q (by omega) (by omega)).trans (D0 q hq), rfl⟩)
  all_goals rw [hf _ (by omega) (by omega)]
  · exact (D1 _ (by omega) (by omega)).trans (e1 _ (by omega))
  · exact (D3 _ (by omega) (by omega)).trans w3
  · exact (D4 _ (by omega) (by omega)).trans (e4 _ (by omega))
  · exact (D5 _ (by omega) (by omega)).trans w5
  · exact (D6 _ (by omega) (by omega)).trans w6
  · exact (D7 _ (by omega) (by omega)).trans w7
  · exact (D8 _ (by omega) (by omega)).trans w8
  · exact (D9 _ (by omega) (by omega)).trans w9
  · exact (D10 _ (by omega) (by omega)).trans (e10 _ (by omega))
  · exact (D11 _ (by omega)).trans (e11 _ (by omega))
end C74
