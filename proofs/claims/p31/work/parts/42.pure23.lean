/-! PURE 23: quickest -/
theorem rs_down {N A b : Nat} : rs N 0 A b = layS (min A (N - 1)) := by
  unfold rs
  rw [if_neg (by decide), if_neg (by omega)]
theorem eS_down_fix {N A : Nat} (h : A < N - 1) : ∀ k, eS N 0 A k (N - 1) = N - 1
  | 0 => rfl
  | k + 1 => by
    show eS N 0 A k (rs N 0 A k (N - 1)) = N - 1
    rw [rs_down]
    unfold layS
    rw [if_neg (by omega), if_neg (by omega)]
    exact eS_down_fix h k
theorem eS_down_all {N : Nat} (h : 2 ≤ N) : ∀ k p, p < N → eS N 0 (N - 1) k p = (p + k) % N
  | 0, p, hp => (Nat.mod_eq_of_lt hp).symm
  | k + 1, p, hp => by
    have e : rs N 0 (N - 1) k p = (p + 1) % N := by
      rw [rs_down, Nat.min_self]
      unfold layS
      by_cases c : p < N - 1
      · rw [if_pos c, Nat.mod_eq_of_lt (by omega)]
      · rw [if_neg c, if_pos (by omega), show p + 1 = N by omega, Nat.mod_self]
    show eS N 0 (N - 1) k (rs N 0 (N - 1) k p) = _
    rw [e, eS_down_all h k _ (Nat.mod_lt _ (by omega)), Nat.mod_add_mod]
    congr 1
    omega
theorem SR_down_no {N A : Nat} {r : Int32} (h2 : 2 ≤ N) (h : A < N - 1) (s : SR N 0 A r) : r = -4 := by
  rcases s with ⟨n, n1, n2, n3, n4⟩ | ⟨a, b⟩
  · obtain ⟨k, u1, u2⟩ := n1 (N - 1) (by omega)
    have := (eS_pm (N := N) (K := 0) (A := A) (by omega) k).2 0 (N - 1) (by omega) (by omega) (u2.trans (eS_down_fix h k).symm)
    omega
  · exact b
theorem SR_down_all {N : Nat} {r : Int32} (h2 : 2 ≤ N) (s : SR N 0 (N - 1) r) : r = nI N := by
  refine SR_uniq s (SR_of (by omega) (fun v hv => ⟨v, hv, ?_⟩) fun k hk c => ?_)
  · rw [eS_down_all h2 v 0 (by omega), Nat.zero_add, Nat.mod_eq_of_lt hv]
  · have := CV_ge c
    omega
theorem SR_any {N K A : Nat} {r : Int32} (s : SR N K A r) : r = -4 ∨ ∃ n, N ≤ n ∧ n ≤ 2 * N ∧ r = nI n := by
  rcases s with ⟨n, n1, n2, n3, n4⟩ | ⟨a, b⟩
  · exact Or.inr ⟨n, CV_ge n1, n3, n4⟩
  · exact Or.inl b
theorem m4_le : (-4 : Int32) ≤ 0 := by decide
theorem s8_quick {M : Mem} {t N Rr K A nt : Nat} {ta F : Nat → Nat} {x1 : Int32} {Q : Int32 → Mem → Prop} (hB : BK M t N Rr K A nt ta F) (h : ∀ M1, QF M M1 → Q (if x1 = 0 then 0 else if x1 = 1 then nI (N - 1) else nI N) M1) : ∃ n, wX8_quickest_27 x1 Q n (-4 : Int32) (-4 : Int32) (-4 : Int32) (0 : Int32) M := by
  obtain ⟨b1, b2, b3, b4, -⟩ := TL_N hB.2.1
  refine loop_0 (fun n i (s : Int32 × Int32 × Int32 × Mem) => wX8_quickest_27 x1 Q n s.1 s.2.1 s.2.2.1 (nI i) s.2.2.2) (fun i s => QF M s.2.2.2 ∧ (i = 0 ∧ s.1 = -4 ∧ s.2.1 = -4 ∧ s.2.2.1 = -4 ∨ 1 ≤ i ∧ s.1 = 0 ∧ s.2.1 = nI (N - 1) ∧ s.2.2.1 = nI N)) 4 (-4, -4, -4, M) ⟨QF_refl _, Or.inl ⟨rfl, rfl, rfl, rfl⟩⟩ ?_ ?_
  · intro n s ⟨f, p⟩
    rcases p with ⟨p0, -⟩ | ⟨-, p1, p2, p3⟩
    · omega
    · unfold wX8_quickest_27
      rw [p1, p2, p3]
      refine b_le (a := 4) (b := 4) (by omega) (by omega) (fun _ => ⟨fun q => ⟨fun q1 => ?_, fun q1 => ?_⟩, fun q => ?_⟩) (fun q => by omega)
      · have hh := h _ f
        rw [if_neg q, if_neg q1] at hh
        exact hh
      · have hh := h _ f
        rw [if_neg q, if_pos q1] at hh
        exact hh
      · have hh := h _ f
        rw [if_pos q] at hh
        exact hh
  · intro n i s hi ⟨f, p⟩ hk
    unfold wX8_quickest_27
    refine b_le (a := 4) (b := i) (by omega) (by omega) (fun q => by omega) (fun _ => ?_)
    refine loop_0 (fun m j (s : Int32 × Int32 × Int32 × Mem) => wX8_quickest_36 x1 (wX8_quickest_27 x1 Q n) Q m s.1 s.2.1 s.2.2.1 (nI i) (nI j) s.2.2.2) (fun j s => QF M s.2.2.2 ∧ (i = 0 ∧ j ≤ N - 1 ∧ s.1 = -4 ∧ s.2.1 = -4 ∧ s.2.2.1 = -4 ∨ (1 ≤ i ∨ N ≤ j) ∧ s.1 = 0 ∧ s.2.1 = nI (N - 1) ∧ s.2.2.1 = nI N)) N s ⟨f, ?_⟩ ?_ ?_
    · rcases p with ⟨p0, p1⟩ | ⟨p0, p1⟩
      · exact Or.inl ⟨p0, Nat.zero_le _, p1⟩
      · exact Or.inr ⟨Or.inl p0, p1⟩
    · intro m s ⟨f, p⟩
      have hBm := QF_BK hB f
      unfold wX8_quickest_36
      rw [cl0, hBm.2.2.1.1]
      refine ⟨vz (by decide), b_le (by omega) (by omega) (fun _ => ?_) (fun q => by omega)⟩
      rcases p with ⟨-, p0, -⟩ | ⟨-, p1⟩
      · omega
      · rw [nI_1]
        exact hk s ⟨f, Or.inr ⟨by omega, p1⟩⟩
    · intro m j s hj ⟨f, p⟩ hk2
      have hBm := QF_BK hB f
      unfold wX8_quickest_36
      rw [cl0, hBm.2.2.1.1]
      refine ⟨vz (by decide), b_le (by omega) (by omega) (fun q => by omega) (fun _ => ?_)⟩
      refine s8_showsBy hBm.2.2.1 (by omega) (by omega) fun r M1 f1 c1 => ?_
      have f2 := QF_trans f f1
      rcases p with ⟨p0, p1, p2, p3, p4⟩ | ⟨p0, p1, p2, p3⟩
      · subst p0
        by_cases c : j = N - 1
        · subst c
          have er := SR_down_all b1 c1
          rw [er, p4]
          refine ⟨fun q => absurd q (nI_nle (by omega) (by omega)), fun _ => ⟨fun _ => ?_, fun q => absurd m4_lt q⟩⟩
          unfold wX8_quickest_74 wX8_quickest_84
          rw [nI_1]
          exact hk2 (nI 0, nI (N - 1), nI N, M1) ⟨f2, Or.inr ⟨Or.inr (by omega), rfl, rfl, rfl⟩⟩
        · have er := SR_down_no b1 (by omega) c1
          rw [er]
          refine ⟨fun _ => ?_, fun q => absurd m4_le q⟩
          unfold wX8_quickest_84
          rw [nI_1]
          exact hk2 (s.1, s.2.1, s.2.2.1, M1) ⟨f2, Or.inl ⟨rfl, by omega, p2, p3, p4⟩⟩
      · have stay : wX8_quickest_84 x1 (wX8_quickest_27 x1 Q n) (wX8_quickest_36 x1 (wX8_quickest_27 x1 Q n) Q m) Q s.1 s.2.1 s.2.2.1 (nI i) (nI j) M1 := by
          unfold wX8_quickest_84
          rw [nI_1]
          exact hk2 (s.1, s.2.1, s.2.2.1, M1) ⟨f2, Or.inr ⟨by omega, p1, p2, p3⟩⟩
        rcases SR_any c1 with er | ⟨u, u1, u2, er⟩
        · exact ⟨fun _ => stay, fun q => absurd (by rw [er]; exact m4_le) q⟩
        · refine ⟨fun _ => stay, fun _ => ⟨fun q => absurd q (by rw [p3]; exact nI_pos (by omega)), fun _ => ⟨fun _ => stay, fun q => absurd ?_ q⟩⟩⟩
          rw [p3, er]
          exact nI_le u1 (by omega)
theorem k_quickest {x : Int32} {M : Mem} {Q : Int32 → Int32 → Mem → Prop} (hI : INV M) (h : GQ Q) : wX7_quickest x M (fun r1 M1 => wX8_quickest x M1 (fun r2 M2 => Q r1 r2 M2)) := by
  have hI' := hI
  obtain ⟨t, N, Rr, K, A, nt, ta, F, hB, hT, hP, hK, hS⟩ := hI
  obtain ⟨b1, b2, b3, b4, -⟩ := TL_N hB.2.1
  obtain ⟨ht, e2, e1, k2, k1⟩ := BK_t hB
  refine s7_within (a := 0) (b := 2) (by omega) (by omega) (fun g => i_t ?_) (fun g => i_f (r8_in_f (a := 0) (b := 2) (by omega) (by omega) g (i_f (h _ _ hI'))))
  have fin : ∀ r, r = (if x = 0 then 0 else if x = 1 then nI (N - 1) else nI N) → wX8_quickest x M (fun r2 M2 => Q r r2 M2) := fun r e => by
    refine r8_in_t (a := 0) (b := 2) (by omega) (by omega) g (i_t ?_)
    refine s8_quick hB fun M1 f1 => ?_
    rw [← e]
    exact h _ _ (QF_INV hI' f1)
  unfold wX7_quickest_41
  refine ⟨fun q => ⟨fun q1 => ⟨k2, fin _ ?_⟩, fun q1 => ⟨k2, fin _ ?_⟩⟩, fun q => fin _ ?_⟩
  · rw [if_neg q, if_neg q1, e2, hB.2.1.1]
  · rw [if_neg q, if_pos q1, e2, hB.2.1.1, nI_sub1 (by omega)]
  · rw [if_pos q]
