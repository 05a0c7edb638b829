section C73
variable {l : Launch} {G : xG} {d kc ks : Nat} {Φ : Option xV → yH → Nat → Prop} {h : yH} {n : Nat}
theorem s_Minit1 {c : Nat} {u1 : Option xV} : ∀ (m : Nat) (i : Nat) (F : Nat → Int) (h : yH), 64 - i < m → i ≤ 64 → h c = some (mo c 0 0 0 0 0 0 0) → h (c + 2) = some (ai 64 F) → (∀ j, j < i → F j = 21845) → (∀ j, F j = 0 ∨ F j = 21845) → (∀ h' F', h' (c + 2) = some (ai 64 F') → (∀ j, j < 64 → F' j = 21845) → (∀ j, F' j = 0 ∨ F' j = 21845) → (∀ q, q ≠ c + 2 → h' q = h q) → YW l G mX7_init d kc ks Φ 156 [some (vr c), some (vi ((64 : Nat) : Int))] [] h' n) → YW l G mX7_init d kc ks Φ 135 [some (vr c), some (vi (i : Int))] [] h n := by
  intro m
  induction m with
  | zero => intro i F h h1; exact absurd h1 (by omega)
  | succ m ih =>
    intro i F h h1 h2 hm hF f1 f2 kk
    refine y_run kX7_init rfl ?_
    refine y_ic_ge kX7_init rfl rfl (fun c => ?_) (fun c => ?_)
    · have hi : i = 64 := by omega
      subst hi
      exact kk h F hF f1 f2 (fun _ _ => rfl)
    · refine y_run kX7_init rfl ?_
      refine y_get kX7_init rfl rfl hm rfl ?_
      refine y_run kX7_init rfl ?_
      refine y_is kX7_init rfl hF (by omega) (by omega) ?_
      refine y_run kX7_init rfl ?_
      refine YW.Le (congrArg (fun z : Int => [some (vr _), some (vi z)]) (show (i : Int) + 1 = ((i + 1 : Nat) : Int) by omega)) ?_
      refine ih (i + 1) _ _ (by omega) (by omega) ((yup_ne _ _ (by omega)).trans hm) (yup_eq _ _ _) (fun j hj => ?_) (fun j => ?_) (fun h' F' g1 g2 g3 g4 => kk h' F' g1 g2 g3 (fun q hq => (g4 q hq).trans (yup_ne _ _ hq)))
      · unfold upZ
        by_cases e : j = (i : Int).toNat
        · rw [if_pos e]
        · rw [if_neg e]; exact f1 j (by omega)
      · unfold upZ
        split
        · exact Or.inr rfl
        · exact f2 j
theorem s_Minit2 {c : Nat} : ∀ (m : Nat) (i : Nat) (F F2 : Nat → Int) (h : yH), 8192 - i < m → i ≤ 8192 → h c = some (mo c 0 0 0 0 0 0 0) → h (c + 11) = some (ai 8192 F) → h (c + 12) = some (ai 8192 F2) → (∀ j, F j = 0 ∨ F j = -1) → (∀ j, F2 j = 0 ∨ F2 j = -1) → (∀ h' F' F2', h' (c + 11) = some (ai 8192 F') → h' (c + 12) = some (ai 8192 F2') → (∀ j, F' j = 0 ∨ F' j = -1) → (∀ j, F2' j = 0 ∨ F2' j = -1) → (∀ q, q ≠ c + 11 → q ≠ c + 12 → h' q = h q) → Φ none h' n) → YW l G mX7_init d kc ks Φ 158 [some (vr c), some (vi (i : Int))] [] h n := by
  intro m
  induction m with
  | zero => intro i F F2 h h1; exact absurd h1 (by omega)
  | succ m ih =>
    intro i F F2 h h1 h2 hm hF hF2 f1 f2 kk
    refine y_run kX7_init rfl ?_
    refine y_ic_ge kX7_init rfl rfl (fun c => ?_) (fun c => ?_)
    · exact y_vr kX7_init rfl rfl (kk h F F2 hF hF2 f1 f2 (fun _ _ _ => rfl))
    · refine y_run kX7_init rfl ?_
      refine y_get kX7_init rfl rfl hm rfl ?_
      refine y_run kX7_init rfl ?_
      refine y_is kX7_init rfl hF (by omega) (by omega) ?_
      refine y_run kX7_init rfl ?_
      refine y_get kX7_init rfl rfl ((yup_ne _ _ (by omega)).trans hm) rfl ?_
      refine y_run kX7_init rfl ?_
      refine y_is kX7_init rfl ((yup_ne _ _ (by omega)).trans hF2) (by omega) (by omega) ?_
      refine y_run kX7_init rfl ?_
      refine YW.Le (congrArg (fun z : Int => [some (vr _), some (vi z)]) (show (i : Int) + 1 = ((i + 1 : Nat) : Int) by omega)) ?_
      refine ih (i + 1) _ _ _ (by omega) (by omega) ((yup_ne _ _ (by omega)).trans ((yup_ne _ _ (by omega)).trans hm)) ((yup_ne _ _ (by omega)).trans (yup_eq _ _ _)) (yup_eq _ _ _) (fun j => ?_) (fun j => ?_) (fun h' F' F2' g1 g2 g3 g4 g5 => kk h' F' F2' g1 g2 g3 g4 (fun q q1 q2 => (g5 q q1 q2).trans ((yup_ne _ _ q2).trans (yup_ne _ _ q1))))
      · unfold upZ
        split
        · exact Or.inr rfl
        · exact f1 j
      · unfold upZ
        split
        · exact Or.inr rfl
        · exact f2 j
def MN (h : yH) (c : Nat) : Prop := h c = some (mo c 0 0 0 0 0 0 0) ∧ h (c + 1) = some (ai 264 (fun _ => 0)) ∧ (∃ J, h (c + 2) = some (ai 64 J) ∧ (∀ j, j < 64 → J j = 21845) ∧ ∀ j, J j = 0 ∨ J j = 21845) ∧ h (c + 3) = some (ai 1312 (fun _ => 0)) ∧ h (c + 4) = some (az 4 (fun _ => 0)) ∧ (∀ k e, mTb k = some e → okc e (h (c + k))) ∧ h (c + 14) = some (ai 6 (fun _ => 0)) ∧ h (c + 15) = some (ai 24 (fun _ => 0))
theorem mTb_5 {h : yH} {c : Nat} (h5 : h (c + 5) = some (ai 1024 (fun _ => 0))) (h6 : h (c + 6) = some (az 16384 (fun _ => 0))) (h7 : h (c + 7) = some (az 16384 (fun _ => 0))) (h8 : h (c + 8) = some (ai 128 (fun _ => 0))) (h9 : h (c + 9) = some (ai 96 (fun _ => 0))) (h10 : h (c + 10) = some (ai 768 (fun _ => 0))) {F F2 : Nat → Int} (h11 : h (c + 11) = some (ai 8192 F)) (h12 : h (c + 12) = some (ai 8192 F2)) (f1 : ∀ j, F j = 0 ∨ F j = -1) (f2 : ∀ j, F2 j = 0 ∨ F2 j = -1) (h13 : h (c + 13) = some (ai 8192 (fun _ => 0))) : ∀ k e, mTb k = some e → okc e (h (c + k))
  | 0, e, q => by cases q
  | 1, e, q => by cases q
  | 2, e, q => by cases q
  | 3, e, q => by cases q
  | 4, e, q => by cases q
  | 5, e, q => by cases q; exact ⟨_, h5, fun _ => by omega⟩
  | 6, e, q => by cases q; exact ⟨_, h6, fun _ => Or.inl rfl⟩
  | 7, e, q => by cases q; exact ⟨_, h7, fun _ => Or.inl rfl⟩
  | 8, e, q => by cases q; exact ⟨_, h8, fun _ => by omega⟩
  | 9, e, q => by cases q; exact ⟨_, h9, fun _ => by omega⟩
  | 10, e, q => by cases q; exact ⟨_, h10, fun _ => by omega⟩
  | 11, e, q => by cases q; exact ⟨_, h11, fun j => by have := f1 j; omega⟩
  | 12, e, q => by cases q; exact ⟨_, h12, fun j => by have := f2 j; omega⟩
  | 13, e, q => by cases q; exact ⟨_, h13, fun _ => by omega⟩
  | k + 14, e, q => by cases q
set_option maxHeartbeats 8000000 in
theorem c_Minit {c : Nat} (ha : h c = some (ob 7 nw7)) (hn : n = c + 1) : YM l G mX7_init 1 15 61034 [vr c] h n (fun r h' n' => r = none ∧ MN h' c ∧ (∀ q, q < c → h' q = h q) ∧ n' = c + 16) := by
  subst hn
  refine YM.of kX7_init (Nat.le_of_ble_eq_true rfl) (L0 := [some (vr c), none]) rfl ?_
  refine y_run kX7_init rfl ?_
  refine y_ob kX7_init rfl (by decide +kernel) ?_
  refine y_run kX7_init rfl ?_
  refine y_newi kX7_init rfl (by decide +kernel) (N := 264) rfl (by omega) ?_
  refine y_putF kX7_init rfl rfl ((yup_ne _ _ (by omega)).trans ha) rfl rfl rfl rfl rfl ?_
  refine y_run kX7_init rfl ?_
  refine y_newi kX7_init rfl (by decide +kernel) (N := 64) rfl (by omega) ?_
  refine y_putF kX7_init rfl rfl (by repeat (first | exact yup_eq _ _ _ | rw [yup_ne _ _ (by omega)])) rfl rfl rfl rfl rfl ?_
  refine y_run kX7_init rfl ?_
  refine y_newi kX7_init rfl (by decide +kernel) (N := 1312) rfl (by omega) ?_
  refine y_putF kX7_init rfl rfl (by repeat (first | exact yup_eq _ _ _ | rw [yup_ne _ _ (by omega)])) rfl rfl rfl rfl rfl ?_
  refine y_run kX7_init rfl ?_
  refine y_newz kX7_init rfl (by decide +kernel) (N := 4) rfl (by omega) ?_
  refine y_putF kX7_init rfl rfl (by repeat (first | exact yup_eq _ _ _ | rw [yup_ne _ _ (by omega)])) rfl rfl rfl rfl rfl ?_
  refine y_run kX7_init rfl ?_
  refine y_newi kX7_init rfl (by decide +kernel) (N := 1024) rfl (by omega) ?_
  refine y_putF kX7_init rfl rfl (by repeat (first | exact yup_eq _ _ _ | rw [yup_ne _ _ (by omega)])) rfl rfl rfl rfl rfl ?_
  refine y_run kX7_init rfl ?_
  refine y_newz kX7_init rfl (by decide +kernel) (N := 16384) rfl (by omega) ?_
  refine y_putF kX7_init rfl rfl (by repeat (first | exact yup_eq _ _ _ | rw [yup_ne _ _ (by omega)])) rfl rfl rfl rfl rfl ?_
  refine y_run kX7_init rfl ?_
  refine y_newz kX7_init rfl (by decide +kernel) (N := 16384) rfl (by omega) ?_
  refine y_putF kX7_init rfl rfl (by repeat (first | exact yup_eq _ _ _ | rw [yup_ne _ _ (by omega)])) rfl rfl rfl rfl rfl ?_
  refine y_run kX7_init rfl ?_
  refine y_newi kX7_init rfl (by decide +kernel) (N := 128) rfl (by omega) ?_
  refine y_putF kX7_init rfl rfl (by repeat (first | exact yup_eq _ _ _ | rw [yup_ne _ _ (by omega)])) rfl rfl rfl rfl rfl ?_
  refine y_run kX7_init rfl ?_
  refine y_newi kX7_init rfl (by decide +kernel) (N := 96) rfl (by omega) ?_
  refine y_putF kX7_init rfl rfl (by repeat (first | exact yup_eq _ _ _ | rw [yup_ne _ _ (by omega)])) rfl rfl rfl rfl rfl ?_
  refine y_run kX7_init rfl ?_
  refine y_newi kX7_init rfl (by decide +kernel) (N := 768) rfl (by omega) ?_
  refine y_putF kX7_init rfl rfl (by repeat (first | exact yup_eq _ _ _ | rw [yup_ne _ _ (by omega)])) rfl rfl rfl rfl rfl ?_
  refine y_run kX7_init rfl ?_
  refine y_newi kX7_init rfl (by decide +kernel) (N := 8192) rfl (by omega) ?_
  refine y_putF kX7_init rfl rfl (by repeat (first | exact yup_eq _ _ _ | rw [yup_ne _ _ (by omega)])) rfl rfl rfl rfl rfl ?_
  refine y_run kX7_init rfl ?_
  refine y_newi kX7_init rfl (by decide +kernel) (N := 8192) rfl (by omega) ?_
  refine y_putF kX7_init rfl rfl (by repeat (first | exact yup_eq _ _ _ | rw [yup_ne _ _ (by omega)])) rfl rfl rfl rfl rfl ?_
  refine y_run kX7_init rfl ?_
  refine y_newi kX7_init rfl (by decide +kernel) (N := 8192) rfl (by omega) ?_
  refine y_putF kX7_init rfl rfl (by repeat (first | exact yup_eq _ _ _ | rw [yup_ne _ _ (by omega)])) rfl rfl rfl rfl rfl ?_
  refine y_run kX7_init rfl ?_
  refine y_newi kX7_init rfl (by decide +kernel) (N := 6) rfl (by omega) ?_
  refine y_putF kX7_init rfl rfl (by repeat (first | exact yup_eq _ _ _ | rw [yup_ne _ _ (by omega)])) rfl rfl rfl rfl rfl ?_
  refine y_run kX7_init rfl ?_
  refine y_newi kX7_init rfl (by decide +kernel) (N := 24) rfl (by omega) ?_
  refine y_putF kX7_init rfl rfl (by repeat (first | exact yup_eq _ _ _ | rw [yup_ne _ _ (by omega)])) rfl rfl rfl rfl rfl ?_
  refine y_run kX7_init rfl ?_
  refine s_Minit1 (u1 := none) 65 0 (fun _ => 0) _ (by omega) (by omega) (by repeat (first | exact yup_eq _ _ _ | rw [yup_ne _ _ (by omega)])) (by repeat (first | exact yup_eq _ _ _ | rw [yup_ne _ _ (by omega)])) (fun j hj => absurd hj (by omega)) (fun _ => Or.inl rfl) (fun g J g1 g2 g3 g4 => ?_)
  refine y_run kX7_init rfl ?_
  refine s_Minit2 8193 0 (fun _ => 0) (fun _ => 0) _ (by omega) (by omega) ?_ ?_ ?_ (fun _ => Or.inl rfl) (fun _ => Or.inl rfl) (fun g' F F2 k1 k2 k3 k4 k5 => ⟨rfl, ⟨?_, ?_, ⟨J, ?_, g2, g3⟩, ?_, ?_, mTb_5 ?_ ?_ ?_ ?_ ?_ ?_ k1 k2 k3 k4 ?_, ?_, ?_⟩, fun q hq => ?_, rfl⟩)
  all_goals (try rw [k5 _ (by omega) (by omega)])
  all_goals (first | exact g1 | rw [g4 _ (by omega)])
  all_goals (repeat (first | exact yup_eq _ _ _ | rw [yup_ne _ _ (by omega)]))
end C73
