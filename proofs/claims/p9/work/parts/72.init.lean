section C72
variable {l : Launch} {G : xG} {M : xM} {d kc ks : Nat} {Φ : Option xV → yH → Nat → Prop} {h : yH} {n : Nat} {pc : Nat} {L : List (Option xV)} {st : List xV}
theorem YW.ke {kc' ks' n' : Nat} (e1 : kc = kc') (e2 : ks = ks') (e3 : n = n') (k : YW l G M d kc' ks' Φ pc L st h n') : YW l G M d kc ks Φ pc L st h n := by subst e1 e2 e3; exact k
def QI (h : yH) (a : Nat) : Prop := h a = some (ob 2 [vr (a + 1), vr (a + 2), vr (a + 3), vr (a + 4), vi 0, vi 0, vr (a + 5), vr (a + 6)]) ∧ h (a + 1) = some (ai 8192 (fun _ => 0)) ∧ h (a + 2) = some (ai 8192 (fun _ => 0)) ∧ h (a + 3) = some (ai 24 (fun _ => 0)) ∧ (∃ D, h (a + 4) = some (ai 5 D) ∧ ∀ j, 0 ≤ D j ∧ D j ≤ 100) ∧ h (a + 5) = some (ob 4 nw4) ∧ h (a + 6) = some (ob 1 nw1)
theorem QI.on {a : Nat} {h' : yH} (q : QI h a) (e : ∀ k, k < 7 → h' (a + k) = h (a + k)) : QI h' a := by
  obtain ⟨q0, q1, q2, q3, ⟨D, q4, q5⟩, q6, q7⟩ := q
  exact ⟨(e 0 (by omega)).trans q0, (e 1 (by omega)).trans q1, (e 2 (by omega)).trans q2, (e 3 (by omega)).trans q3, ⟨D, (e 4 (by omega)).trans q4, q5⟩, (e 5 (by omega)).trans q6, (e 6 (by omega)).trans q7⟩
set_option maxHeartbeats 4000000 in
theorem c_Qinit {a : Nat} (ha : h a = some (ob 2 nw2)) (hn : n = a + 1) : YM l G mX2_init 2 6 16423 [vr a] h n (fun r h' n' => r = none ∧ QI h' a ∧ (∀ q, q < a → h' q = h q) ∧ n' = a + 7) := by
  subst hn
  refine YM.of kX2_init (Nat.le_of_ble_eq_true rfl) (L0 := [some (vr a)]) rfl ?_
  refine y_run kX2_init rfl ?_
  refine y_ob kX2_init rfl (by decide +kernel) ?_
  refine y_run kX2_init rfl ?_
  refine y_newi kX2_init rfl (by decide +kernel) (N := 8192) rfl (by omega) ?_
  refine y_put kX2_init rfl rfl ((yup_ne _ _ (by omega)).trans ha) rfl rfl rfl ?_
  refine y_run kX2_init rfl ?_
  refine y_newi kX2_init rfl (by decide +kernel) (N := 8192) rfl (by omega) ?_
  refine y_put kX2_init rfl rfl (by repeat (first | exact yup_eq _ _ _ | rw [yup_ne _ _ (by omega)])) rfl rfl rfl ?_
  refine y_run kX2_init rfl ?_
  refine y_newi kX2_init rfl (by decide +kernel) (N := 24) rfl (by omega) ?_
  refine y_putF kX2_init rfl rfl (by repeat (first | exact yup_eq _ _ _ | rw [yup_ne _ _ (by omega)])) rfl rfl rfl rfl rfl ?_
  refine y_run kX2_init rfl ?_
  refine y_newi kX2_init rfl (by decide +kernel) (N := 5) rfl (by omega) ?_
  refine y_run kX2_init rfl ?_
  refine y_is kX2_init rfl (by repeat (first | exact yup_eq _ _ _ | rw [yup_ne _ _ (by omega)])) (by omega) (by omega) ?_
  refine y_run kX2_init rfl ?_
  refine y_is kX2_init rfl (by repeat (first | exact yup_eq _ _ _ | rw [yup_ne _ _ (by omega)])) (by omega) (by omega) ?_
  refine y_run kX2_init rfl ?_
  refine y_is kX2_init rfl (by repeat (first | exact yup_eq _ _ _ | rw [yup_ne _ _ (by omega)])) (by omega) (by omega) ?_
  refine y_run kX2_init rfl ?_
  refine y_is kX2_init rfl (by repeat (first | exact yup_eq _ _ _ | rw [yup_ne _ _ (by omega)])) (by omega) (by omega) ?_
  refine y_run kX2_init rfl ?_
  refine y_is kX2_init rfl (by repeat (first | exact yup_eq _ _ _ | rw [yup_ne _ _ (by omega)])) (by omega) (by omega) ?_
  refine y_putF kX2_init rfl rfl (by repeat (first | exact yup_eq _ _ _ | rw [yup_ne _ _ (by omega)])) rfl rfl rfl rfl rfl ?_
  refine y_run kX2_init rfl ?_
  refine y_put kX2_init rfl rfl (by repeat (first | exact yup_eq _ _ _ | rw [yup_ne _ _ (by omega)])) rfl rfl rfl ?_
  refine y_run kX2_init rfl ?_
  refine y_put kX2_init rfl rfl (by repeat (first | exact yup_eq _ _ _ | rw [yup_ne _ _ (by omega)])) rfl rfl rfl ?_
  refine y_run kX2_init rfl ?_
  refine y_new kX2_init (ci := 4) rfl rfl (by decide +kernel) nw4_ok ?_
  refine y_run kX2_init rfl ?_
  refine y_ci kX2_init kX4_init 0 rfl (by decide +kernel) (n_Rinit (a := a + 5)) rfl rfl ?_
  rintro _ _ _ ⟨rfl, rfl, rfl⟩
  refine y_putF kX2_init rfl rfl (by repeat (first | exact yup_eq _ _ _ | rw [yup_ne _ _ (by omega)])) rfl rfl rfl rfl rfl ?_
  refine y_run kX2_init rfl ?_
  refine y_new kX2_init (ci := 1) rfl rfl (by decide +kernel) nw1_ok ?_
  refine y_run kX2_init rfl ?_
  refine y_ci kX2_init kX1_init 0 rfl (by decide +kernel) (n_Oinit (a := a + 6)) rfl rfl ?_
  rintro _ _ _ ⟨rfl, rfl, rfl⟩
  refine y_putF kX2_init rfl rfl (by repeat (first | exact yup_eq _ _ _ | rw [yup_ne _ _ (by omega)])) rfl rfl rfl rfl rfl ?_
  refine y_vr kX2_init rfl rfl ⟨rfl, ⟨(by repeat (first | exact yup_eq _ _ _ | rw [yup_ne _ _ (by omega)])), (by repeat (first | exact yup_eq _ _ _ | rw [yup_ne _ _ (by omega)])), (by repeat (first | exact yup_eq _ _ _ | rw [yup_ne _ _ (by omega)])), (by repeat (first | exact yup_eq _ _ _ | rw [yup_ne _ _ (by omega)])), ⟨_, (by repeat (first | exact yup_eq _ _ _ | rw [yup_ne _ _ (by omega)])), fun j => ?_⟩, (by repeat (first | exact yup_eq _ _ _ | rw [yup_ne _ _ (by omega)])), (by repeat (first | exact yup_eq _ _ _ | rw [yup_ne _ _ (by omega)]))⟩, fun q hq => ?_, rfl⟩
  · unfold upZ
    repeat' split
    all_goals (first | omega | (dsimp only; omega))
  · repeat rw [yup_ne _ _ (by omega)]
def PI0 (a : Nat) : yE := ob 3 [vr (a + 1), vr (a + 2), vr (a + 3), vi 0, vi 0, vi 24, vr (a + 4), vr (a + 5), vr (a + 6), vr (a + 7), vr (a + 8), vr (a + 9)]
/-- what its loop has made so far -/
def PIn (h : yH) (a i : Nat) : Prop := h a = some (PI0 a) ∧ (∃ F, h (a + 5) = some (aq 3 120 F) ∧ ∀ k, k < i → F k = some (a + (10 + 2 * k))) ∧ (∃ F, h (a + 6) = some (aq 3 120 F) ∧ ∀ k, k < i → F k = some (a + (11 + 2 * k))) ∧ ∀ k, 10 ≤ k → k < 10 + 2 * i → h (a + k) = some (ob 0 nw0)
set_option maxHeartbeats 2000000 in
theorem s_Pinit {a : Nat} : ∀ (m : Nat) (i : Nat) (h : yH), 120 - i < m → i ≤ 120 → PIn h a i → (∀ h', PIn h' a 120 → (∀ q, q < a + 10 → q ≠ a + 5 → q ≠ a + 6 → h' q = h q) → Φ none h' (a + 250)) → YW l G mX3_init 2 (240 - 2 * i) (480 - 4 * i) Φ 109 [some (vr a), some (vi (i : Int))] [] h (a + (10 + 2 * i)) := by
  intro m
  induction m with
  | zero => intro i h h1; exact absurd h1 (by omega)
  | succ m ih =>
    intro i h h1 h2 hP kk
    obtain ⟨p0, ⟨F1, p1, p2⟩, ⟨F2, p3, p4⟩, p5⟩ := hP
    refine y_run kX3_init rfl ?_
    refine y_ic_ge kX3_init rfl rfl (fun c => ?_) (fun c => ?_)
    · have hi : i = 120 := by omega
      subst hi
      exact y_vr kX3_init rfl rfl (kk h ⟨p0, ⟨F1, p1, p2⟩, ⟨F2, p3, p4⟩, p5⟩ (fun q _ _ _ => rfl))
    · refine y_run kX3_init rfl ?_
      refine y_get kX3_init rfl rfl p0 rfl ?_
      refine y_run kX3_init rfl ?_
      refine y_new kX3_init (ci := 0) rfl rfl (by decide +kernel) nw0_ok ?_
      refine y_run kX3_init rfl ?_
      refine y_ci kX3_init kX0_init 0 rfl (by decide +kernel) (n_Ninit (a := a + (10 + 2 * i))) rfl rfl ?_
      rintro _ _ _ ⟨rfl, rfl, rfl⟩
      refine y_qs kX3_init rfl ((yup_ne _ _ (by omega)).trans p1) (yup_eq _ _ _) rfl rfl (by omega) (by omega) ?_
      refine y_run kX3_init rfl ?_
      refine y_get kX3_init rfl rfl ((yup_ne _ _ (by omega)).trans ((yup_ne _ _ (by omega)).trans p0)) rfl ?_
      refine y_run kX3_init rfl ?_
      refine y_new kX3_init (ci := 0) rfl rfl (by decide +kernel) nw0_ok ?_
      refine y_run kX3_init rfl ?_
      refine y_ci kX3_init kX0_init 0 rfl (by decide +kernel) (n_Ninit (a := a + (10 + 2 * i) + 1)) rfl rfl ?_
      rintro _ _ _ ⟨rfl, rfl, rfl⟩
      refine y_qs kX3_init rfl ((yup_ne _ _ (by omega)).trans ((yup_ne _ _ (by omega)).trans ((yup_ne _ _ (by omega)).trans p3))) (yup_eq _ _ _) rfl rfl (by omega) (by omega) ?_
      refine y_run kX3_init rfl ?_
      refine YW.ke (kc' := 240 - 2 * (i + 1)) (ks' := 480 - 4 * (i + 1)) (n' := a + (10 + 2 * (i + 1))) (by omega) (by omega) (by omega) ?_
      refine YW.Le (L' := [some (vr a), some (vi ((i + 1 : Nat) : Int))]) (congrArg (fun z : Int => [some (vr a), some (vi z)]) (show (i : Int) + 1 = ((i + 1 : Nat) : Int) by omega)) ?_
      refine ih (i + 1) _ (by omega) (by omega) ⟨?_, ⟨va_up F1 (i : Int).toNat (some (a + (10 + 2 * i))), ?_, fun k hk => ?_⟩, ⟨va_up F2 (i : Int).toNat (some (a + (10 + 2 * i) + 1)), ?_, fun k hk => ?_⟩, fun k k1 k2 => ?_⟩ (fun h' hP' hf => kk h' hP' (fun q q1 q2 q3 => ?_))
      · rw [yup_ne _ _ (by omega), yup_ne _ _ (by omega), yup_ne _ _ (by omega), yup_ne _ _ (by omega)]; exact p0
      · rw [yup_ne _ _ (by omega), yup_ne _ _ (by omega)]; exact yup_eq _ _ _
      · unfold va_up
        by_cases c : k = i
        · subst c; simp
        · rw [if_neg (by omega)]; exact p2 k (by omega)
      · exact yup_eq _ _ _
      · unfold va_up
        by_cases c : k = i
        · subst c; simp; omega
        · rw [if_neg (by omega)]; exact p4 k (by omega)
      · rw [yup_ne _ _ (by omega)]
        by_cases c1 : k = 11 + 2 * i
        · subst c1
          rw [show a + (11 + 2 * i) = a + (10 + 2 * i) + 1 by omega]
          exact yup_eq _ _ _
        · rw [yup_ne _ _ (by omega), yup_ne _ _ (by omega)]
          by_cases c2 : k = 10 + 2 * i
          · subst c2; exact yup_eq _ _ _
          · rw [yup_ne _ _ (by omega)]; exact p5 k k1 (by omega)
      · rw [hf q q1 q2 q3, yup_ne _ _ (by omega), yup_ne _ _ (by omega), yup_ne _ _ (by omega), yup_ne _ _ (by omega)]
def PI (h : yH) (a : Nat) : Prop := PIn h a 120 ∧ h (a + 1) = some (ai 720 (fun _ => 0)) ∧ h (a + 2) = some (ai 120 (fun _ => 0)) ∧ h (a + 3) = some (ai 96 (fun _ => 0)) ∧ h (a + 4) = some (ob 0 nw0) ∧ h (a + 7) = some (ob 0 nw0) ∧ h (a + 8) = some (ob 0 nw0) ∧ h (a + 9) = some (ob 0 nw0)
theorem PI.on {a : Nat} {h' : yH} (q : PI h a) (e : ∀ k, k < 250 → h' (a + k) = h (a + k)) : PI h' a := by
  obtain ⟨⟨q0, ⟨F1, q1, q2⟩, ⟨F2, q3, q4⟩, q5⟩, r1, r2, r3, r4, r7, r8, r9⟩ := q
  exact ⟨⟨(e 0 (by omega)).trans q0, ⟨F1, (e 5 (by omega)).trans q1, q2⟩, ⟨F2, (e 6 (by omega)).trans q3, q4⟩, fun k k1 k2 => (e k (by omega)).trans (q5 k k1 k2)⟩, (e 1 (by omega)).trans r1, (e 2 (by omega)).trans r2, (e 3 (by omega)).trans r3, (e 4 (by omega)).trans r4, (e 7 (by omega)).trans r7, (e 8 (by omega)).trans r8, (e 9 (by omega)).trans r9⟩
set_option maxHeartbeats 4000000 in
theorem c_Pinit {a : Nat} (ha : h a = some (ob 3 nw3)) (hn : n = a + 1) : YM l G mX3_init 2 249 1664 [vr a] h n (fun r h' n' => r = none ∧ PI h' a ∧ (∀ q, q < a → h' q = h q) ∧ n' = a + 250) := by
  subst hn
  refine YM.of kX3_init (Nat.le_of_ble_eq_true rfl) (L0 := [some (vr a), none]) rfl ?_
  refine y_run kX3_init rfl ?_
  refine y_ob kX3_init rfl (by decide +kernel) ?_
  refine y_run kX3_init rfl ?_
  refine y_newi kX3_init rfl (by decide +kernel) (N := 720) rfl (by omega) ?_
  refine y_putF kX3_init rfl rfl ((yup_ne _ _ (by omega)).trans ha) rfl rfl rfl rfl rfl ?_
  refine y_run kX3_init rfl ?_
  refine y_newi kX3_init rfl (by decide +kernel) (N := 120) rfl (by omega) ?_
  refine y_putF kX3_init rfl rfl (by repeat (first | exact yup_eq _ _ _ | rw [yup_ne _ _ (by omega)])) rfl rfl rfl rfl rfl ?_
  refine y_run kX3_init rfl ?_
  refine y_newi kX3_init rfl (by decide +kernel) (N := 96) rfl (by omega) ?_
  refine y_putF kX3_init rfl rfl (by repeat (first | exact yup_eq _ _ _ | rw [yup_ne _ _ (by omega)])) rfl rfl rfl rfl rfl ?_
  refine y_run kX3_init rfl ?_
  refine y_put kX3_init rfl rfl (by repeat (first | exact yup_eq _ _ _ | rw [yup_ne _ _ (by omega)])) rfl rfl rfl ?_
  refine y_run kX3_init rfl ?_
  refine y_put kX3_init rfl rfl (by repeat (first | exact yup_eq _ _ _ | rw [yup_ne _ _ (by omega)])) rfl rfl rfl ?_
  refine y_run kX3_init rfl ?_
  refine y_put kX3_init rfl rfl (by repeat (first | exact yup_eq _ _ _ | rw [yup_ne _ _ (by omega)])) rfl rfl rfl ?_
  refine y_run kX3_init rfl ?_
  refine y_new kX3_init (ci := 0) rfl rfl (by decide +kernel) nw0_ok ?_
  refine y_run kX3_init rfl ?_
  refine y_ci kX3_init kX0_init 0 rfl (by decide +kernel) (n_Ninit (a := a + 4)) rfl rfl ?_
  rintro _ _ _ ⟨rfl, rfl, rfl⟩
  refine y_putF kX3_init rfl rfl (by repeat (first | exact yup_eq _ _ _ | rw [yup_ne _ _ (by omega)])) rfl rfl rfl rfl rfl ?_
  refine y_run kX3_init rfl ?_
  refine y_newq kX3_init (t := 3) (N := 120) rfl rfl (by decide +kernel) (by decide) rfl (by omega) ?_
  refine y_putF kX3_init rfl rfl (by repeat (first | exact yup_eq _ _ _ | rw [yup_ne _ _ (by omega)])) rfl rfl rfl rfl rfl ?_
  refine y_run kX3_init rfl ?_
  refine y_newq kX3_init (t := 3) (N := 120) rfl rfl (by decide +kernel) (by decide) rfl (by omega) ?_
  refine y_putF kX3_init rfl rfl (by repeat (first | exact yup_eq _ _ _ | rw [yup_ne _ _ (by omega)])) rfl rfl rfl rfl rfl ?_
  refine y_run kX3_init rfl ?_
  refine y_new kX3_init (ci := 0) rfl rfl (by decide +kernel) nw0_ok ?_
  refine y_run kX3_init rfl ?_
  refine y_ci kX3_init kX0_init 0 rfl (by decide +kernel) (n_Ninit (a := a + 7)) rfl rfl ?_
  rintro _ _ _ ⟨rfl, rfl, rfl⟩
  refine y_putF kX3_init rfl rfl (by repeat (first | exact yup_eq _ _ _ | rw [yup_ne _ _ (by omega)])) rfl rfl rfl rfl rfl ?_
  refine y_run kX3_init rfl ?_
  refine y_new kX3_init (ci := 0) rfl rfl (by decide +kernel) nw0_ok ?_
  refine y_run kX3_init rfl ?_
  refine y_ci kX3_init kX0_init 0 rfl (by decide +kernel) (n_Ninit (a := a + 8)) rfl rfl ?_
  rintro _ _ _ ⟨rfl, rfl, rfl⟩
  refine y_putF kX3_init rfl rfl (by repeat (first | exact yup_eq _ _ _ | rw [yup_ne _ _ (by omega)])) rfl rfl rfl rfl rfl ?_
  refine y_run kX3_init rfl ?_
  refine y_new kX3_init (ci := 0) rfl rfl (by decide +kernel) nw0_ok ?_
  refine y_run kX3_init rfl ?_
  refine y_ci kX3_init kX0_init 0 rfl (by decide +kernel) (n_Ninit (a := a + 9)) rfl rfl ?_
  rintro _ _ _ ⟨rfl, rfl, rfl⟩
  refine y_putF kX3_init rfl rfl (by repeat (first | exact yup_eq _ _ _ | rw [yup_ne _ _ (by omega)])) rfl rfl rfl rfl rfl ?_
  refine y_run kX3_init rfl ?_
  refine YW.ke (kc' := 240 - 2 * 0) (ks' := 480 - 4 * 0) (n' := a + (10 + 2 * 0)) (by omega) (by omega) (by omega) ?_
  refine s_Pinit 121 0 _ (by omega) (by omega) ⟨(by repeat (first | exact yup_eq _ _ _ | rw [yup_ne _ _ (by omega)])), ⟨_, (by repeat (first | exact yup_eq _ _ _ | rw [yup_ne _ _ (by omega)])), fun k hk => absurd hk (by omega)⟩, ⟨_, (by repeat (first | exact yup_eq _ _ _ | rw [yup_ne _ _ (by omega)])), fun k hk => absurd hk (by omega)⟩, fun k k1 k2 => absurd k2 (by omega)⟩ (fun h' hP hf => ⟨rfl, ⟨hP, ?_, ?_, ?_, ?_, ?_, ?_, ?_⟩, fun q hq => ?_, rfl⟩)
  all_goals rw [hf _ (by omega) (by omega) (by omega)]
  all_goals (repeat (first | exact yup_eq _ _ _ | rw [yup_ne _ _ (by omega)]))
end C72
