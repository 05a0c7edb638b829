/-! behind both constructors: what holds between two calls holds -/
section C80
variable {h h' : yH} {b : Nat}
theorem NEW.on (hn : NEW h b) (e : ∀ q, q < b + 540 → h' q = h q) : NEW h' b := by
  obtain ⟨n0, n1, ⟨⟨F, k1, k2⟩, k3⟩, n3, n4, n5, n6, n7, n8, n9, n10, n11⟩ := hn
  exact ⟨(e _ (by omega)).trans n0, n1.cp (fun k hk => e _ (by omega)), ⟨⟨F, (e _ (by omega)).trans k1, k2⟩, fun k hk => (k3 k hk).cp (fun j hj => e _ (by omega))⟩, (e _ (by omega)).trans n3, n4.on (fun k hk => e _ (by omega)), (e _ (by omega)).trans n5, (e _ (by omega)).trans n6, (e _ (by omega)).trans n7, (e _ (by omega)).trans n8, (e _ (by omega)).trans n9, n10.on (fun k hk => e _ (by omega)), n11.on (fun k hk => e _ (by omega))⟩
theorem pTb_ok {a : Nat} (hp : PI h a) : ∀ j c, j < 250 → pTb j = some c → okc c (h (a + j)) := by
  obtain ⟨⟨q0, ⟨F1, q1, q2⟩, ⟨F2, q3, q4⟩, q5⟩, r1, r2, r3, r4, r7, r8, r9⟩ := hp
  intro j c hj hc
  by_cases j7 : 7 ≤ j
  · rw [pTb_n j7] at hc
    cases hc
    refine ⟨0, 0, ?_⟩
    rcases (show j = 7 ∨ j = 8 ∨ j = 9 ∨ 10 ≤ j by omega) with rfl | rfl | rfl | q
    · exact r7
    · exact r8
    · exact r9
    · exact q5 j q (by omega)
  · rcases (show j = 0 ∨ j = 1 ∨ j = 2 ∨ j = 3 ∨ j = 4 ∨ j = 5 ∨ j = 6 by omega) with rfl | rfl | rfl | rfl | rfl | rfl | rfl
    · cases hc
    · cases hc; exact ⟨_, r1, fun _ => by omega⟩
    · cases hc; exact ⟨_, r2, fun _ => by omega⟩
    · cases hc; exact ⟨_, r3, fun _ => by omega⟩
    · cases hc
    · cases hc
    · cases hc
theorem fTb_ok (hn : NEW h b) : ∀ k c, k < 20 → fTb k = some c → okc c (h (b + k)) := by
  obtain ⟨n0, n1, -, n3, ⟨p0, p1, p2, p3, ⟨D, p4, p5⟩, p6, p7⟩, n5, n6, n7, n8, n9, -, -⟩ := hn
  intro k c hk hc
  rcases (show k < 9 ∨ k = 9 ∨ k = 10 ∨ k = 11 ∨ k = 12 ∨ k = 13 ∨ k = 14 ∨ k = 15 ∨ k = 16 ∨ k = 17 ∨ k = 18 ∨ k = 19 by omega) with q | rfl | rfl | rfl | rfl | rfl | rfl | rfl | rfl | rfl | rfl | rfl
  · have : rTb k = none := rTb_lo q
    unfold rTb at this
    rw [if_pos hk, hc] at this
    cases this
  · cases hc; exact ⟨_, p1, fun _ => by omega⟩
  · cases hc; exact ⟨_, p2, fun _ => by omega⟩
  · cases hc; exact ⟨_, p3, fun _ => by omega⟩
  · cases hc; exact ⟨_, p4, fun j => by have := p5 j; omega⟩
  · cases hc; exact ⟨0, 0, 0, 0, p6, by omega, by omega, by omega, by omega, by omega⟩
  · cases hc; exact ⟨0, 0, 0, 0, 0, 0, p7, by omega, by omega, by omega, by omega, by omega, by omega, by omega⟩
  · cases hc; exact ⟨0, 0, 0, 0, n5, by omega, by omega, by omega, by omega, by omega⟩
  · cases hc; exact ⟨0, 0, 0, 0, 0, 0, n6, by omega, by omega, by omega, by omega, by omega, by omega, by omega⟩
  · cases hc; exact ⟨0, 0, 0, 0, 0, 0, n7, by omega, by omega, by omega, by omega, by omega, by omega, by omega⟩
  · cases hc; exact ⟨_, n8, fun _ => by omega⟩
  · cases hc; exact ⟨_, n9, fun _ => by omega⟩
theorem MI_new (hn : NEW h b) (hm : MN h (b + 540)) : MI b h h := by
  refine ⟨fun k c hk => ⟨?_, fun _ _ => rfl⟩, fun _ _ => rfl⟩
  by_cases c1 : k < 20
  · unfold rTb at hk
    rw [if_pos c1] at hk
    exact fTb_ok hn k c c1 hk
  · by_cases c2 : k < 270
    · unfold rTb at hk
      rw [if_neg c1, if_pos c2] at hk
      have := pTb_ok hn.2.2.2.2.2.2.2.2.2.2.1 (k - 20) c (by omega) hk
      rw [show b + 20 + (k - 20) = b + k by omega] at this
      exact this
    · by_cases c3 : k < 520
      · unfold rTb at hk
        rw [if_neg c1, if_neg c2, if_pos c3] at hk
        have := pTb_ok hn.2.2.2.2.2.2.2.2.2.2.2 (k - 270) c (by omega) hk
        rw [show b + 270 + (k - 270) = b + k by omega] at this
        exact this
      · by_cases c4 : k < 540
        · rw [rTb_kp (by omega) c4] at hk; cases hk
        · rw [rTb_mo (by omega)] at hk
          have := hm.2.2.2.2.2.1 (k - 540) c hk
          rw [show b + 540 + (k - 540) = b + k by omega] at this
          exact this
theorem PJ_new {o : Nat} (ho : o = 20 ∨ o = 270) (hp : PI h (b + o)) : PJ b o h := by
  obtain ⟨⟨q0, ⟨F1, q1, q2⟩, ⟨F2, q3, q4⟩, q5⟩, r1, r2, r3, r4, r7, r8, r9⟩ := hp
  refine ⟨fun _ => false, 0, 0, 24, ⟨ho, ?_, ⟨0, 0, ?_, fun k _ => ⟨gb_0 k, gb_0 k⟩⟩, ⟨F1, ?_, fun k hk => ?_⟩, F2, ?_, fun k hk => ?_⟩, by omega, by omega, by omega, by omega⟩
  · rw [q0]
    unfold PI0 pO
    rw [show b + o + 1 = b + (o + 1) by omega, show b + o + 2 = b + (o + 2) by omega, show b + o + 3 = b + (o + 3) by omega, show b + o + 4 = b + (o + 4) by omega, show b + o + 5 = b + (o + 5) by omega, show b + o + 6 = b + (o + 6) by omega, show b + o + 7 = b + (o + 7) by omega, show b + o + 8 = b + (o + 8) by omega, show b + o + 9 = b + (o + 9) by omega]
  · rw [show b + (o + 4) = b + o + 4 by omega]; exact r4
  · rw [show b + (o + 5) = b + o + 5 by omega]; exact q1
  · rw [q2 k hk]; congr 1; omega
  · rw [show b + (o + 6) = b + o + 6 by omega]; exact q3
  · rw [q4 k hk]; congr 1; omega
theorem pO_new {o : Nat} (hp : PI h (b + o)) : h (b + o) = some (pO b o 0 0 24) := by
  obtain ⟨⟨q0, -⟩, -⟩ := hp
  rw [q0]
  unfold PI0 pO
  rw [show b + o + 1 = b + (o + 1) by omega, show b + o + 2 = b + (o + 2) by omega, show b + o + 3 = b + (o + 3) by omega, show b + o + 4 = b + (o + 4) by omega, show b + o + 5 = b + (o + 5) by omega, show b + o + 6 = b + (o + 6) by omega, show b + o + 7 = b + (o + 7) by omega, show b + o + 8 = b + (o + 8) by omega, show b + o + 9 = b + (o + 9) by omega]
theorem TL_new (hI : MI b h h) (n0 : h (b + 0) = some (bo b (b + 20) (b + 270) 0)) (n10 : PI h (b + 20)) (m0 : h (b + 540) = some (mo (b + 540) 0 0 0 0 0 0 0)) : TL b h := by
  obtain ⟨P, e1, -⟩ := hI.i (k := 21) (N := 720) (lo := 0) (hi := 32) rfl
  obtain ⟨W, e2, -⟩ := hI.i (k := 22) (N := 120) (lo := 0) (hi := 23) rfl
  obtain ⟨D, e3, -⟩ := hI.i (k := 23) (N := 96) (lo := 0) (hi := 119) rfl
  obtain ⟨Q, e4, -⟩ := hI.i (k := 550) (N := 768) (lo := -1) (hi := 127) rfl
  exact ⟨20, 0, P, W, D, Q, ⟨⟨270, 0, Or.inl ⟨rfl, rfl⟩, n0, by omega, by omega⟩, ⟨0, 24, pO_new n10⟩, e1, e2, e3⟩, ⟨⟨0, 0, 0, 0, 0, 0, m0⟩, e4⟩, by omega, by omega, fun k hk => absurd hk (by omega)⟩
theorem tbt_z (k : Nat) : tbt 0 k = false := by show (0#32).getLsbD k = false; simp
theorem INV_new (hn : NEW h b) (hm : MN h (b + 540)) : INV b h := by
  have hI := MI_new hn hm
  obtain ⟨n0, n1, ⟨⟨F, k1, k2⟩, k3⟩, n3, ⟨p0, -⟩, n5, n6, n7, n8, n9, n10, n11⟩ := hn
  obtain ⟨m0, m1, ⟨J, m2, m3, m4⟩, m5, m6, m7, m8, m9⟩ := hm
  have nt : ∀ v, ¬ isT 0 v := fun v q => by have := q.2; rw [tbt_z] at this; cases this
  have rr : ∀ j, -2147483648 ≤ flF (fun _ => 0) 21845 64 j ∧ flF (fun _ => 0) 21845 64 j ≤ 2147483647 := fun j => by
    unfold flF
    split
    · omega
    · dsimp only; omega
  have ok : okD 0 (fun _ => 0) (fun _ => 0) (flF (fun _ => 0) 21845 64) := ⟨⟨⟨fun _ => (show (0 : Int) ≤ 0 ∧ (0 : Int) ≤ 32 by omega), fun v hv => absurd hv (nt v)⟩, fun _ _ _ _ _ _ => (show (0 : Int) ≤ 0 ∧ (0 : Int) < 8 by omega), fun _ _ _ => (show (0 : Int) ≤ 0 ∧ (0 : Int) < 16 by omega), rr⟩, fun u v hu => absurd hu (nt u)⟩
  refine ⟨0, _, _, _, _, fun _ => 0, fun _ _ => 0, fun _ _ => 0, fun _ => flF (fun _ => 0) 21845 64, _, J, _, ⟨⟨⟨20, 270, 0, Or.inl ⟨rfl, rfl⟩, n0, by omega, by omega⟩, PJ_new (Or.inl rfl) n10, PJ_new (Or.inr rfl) n11, ⟨9, 10, 0, 0, Or.inl rfl, Or.inr rfl, p0⟩⟩, ⟨_, n1, fun _ => (show (-1 : Int) ≤ 0 ∧ (0 : Int) ≤ 33 by omega)⟩, ⟨⟨F, k1, k2⟩, n3, fun _ => Or.inl rfl, fun k hk => ⟨_, k3 k hk⟩⟩, ⟨⟨0, 0, 0, 0, 0, 0, 0, m0, by omega, by omega, by omega, by omega⟩, m1, m2, fun _ => (show (0 : Int) ≤ 0 ∧ (0 : Int) ≤ 32 by omega), fun j => by have := m4 j; omega, ⟨_, m8, fun _ => (show (-1 : Int) ≤ 0 ∧ (0 : Int) ≤ 33 by omega)⟩, _, m9, fun _ => (show (-1 : Int) ≤ 0 ∧ (0 : Int) ≤ 32 by omega)⟩, ⟨m5, m6⟩, hI, TL_new hI n0 n10 m0⟩, ok, ⟨fun v _ _ => ?_, fun _ _ _ _ _ _ => rfl, fun _ _ _ _ _ _ => rfl, fun j hj => ?_⟩, fun k hk => ⟨ok, fun z => absurd (show (0 : Int) = 1 from z) (by omega)⟩⟩
  · rw [tbt_z]
    exact ⟨fun q => (by cases q), fun q => absurd (show (0 : Int) = 1 from q) (by omega)⟩
  · rw [m3 j hj]
    unfold flF
    rw [if_pos hj]
end C80
