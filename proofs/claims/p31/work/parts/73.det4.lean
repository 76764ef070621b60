set_option maxHeartbeats 4000000 in
theorem u_wX8_in_18 (x0 : Int64) (x2 : Int64) (x4 : Int64) {Qa Qb : Int32 → Mem → Prop} (s0 : Int32) (M : Mem) (h1 : wX8_in_18 x0 x2 x4 Qa s0 M) (h2 : wX8_in_18 x0 x2 x4 Qb s0 M) : (∃ (a0 : Int32) (M' : Mem), Fr (fun i k => False) M M' ∧ Qa a0 M' ∧ Qb a0 M' ∧ ∀ (Q' : Int32 → Mem → Prop), Q' a0 M' → wX8_in_18 x0 x2 x4 Q' s0 M) := by
  have h1 : ((s0 = 0 ∨ s0 = 1) ∧ Qa s0 M) := h1
  have h2 : ((s0 = 0 ∨ s0 = 1) ∧ Qb s0 M) := h2
  have s1 := h1.1
  have h1 := h1.2
  have h2 := h2.2
  exact ⟨s0, M, (Fr_refl (fun i k => False) M), h1, h2, fun Q' hq => ⟨s1, hq⟩⟩
set_option maxHeartbeats 4000000 in
theorem u_wX8_in_17 (x0 : Int64) (x2 : Int64) (x4 : Int64) {Qa Qb : Int32 → Mem → Prop} (M : Mem) (h1 : wX8_in_17 x0 x2 x4 Qa M) (h2 : wX8_in_17 x0 x2 x4 Qb M) : (∃ (a0 : Int32) (M' : Mem), Fr (fun i k => False) M M' ∧ Qa a0 M' ∧ Qb a0 M' ∧ ∀ (Q' : Int32 → Mem → Prop), Q' a0 M' → wX8_in_17 x0 x2 x4 Q' M) := by
  have h1 : wX8_in_18 x0 x2 x4 Qa (0 : Int32) M := h1
  have h2 : wX8_in_18 x0 x2 x4 Qb (0 : Int32) M := h2
  obtain ⟨c5, N6, f3, h1, h2, b4⟩ := u_wX8_in_18 x0 x2 x4 (0 : Int32) M h1 h2
  have hf := Fr_ts (Fr_refl (fun i k => False) M) f3
  exact ⟨c5, N6, hf, h1, h2, fun Q' hq => b4 _ hq⟩
set_option maxHeartbeats 4000000 in
theorem u_wX8_in (x0 : Int64) (x2 : Int64) (x4 : Int64) {Qa Qb : Int32 → Mem → Prop} (M : Mem) (h1 : wX8_in x0 x2 x4 M Qa) (h2 : wX8_in x0 x2 x4 M Qb) : (∃ (a0 : Int32) (M' : Mem), Fr (fun i k => False) M M' ∧ Qa a0 M' ∧ Qb a0 M' ∧ ∀ (Q' : Int32 → Mem → Prop), Q' a0 M' → wX8_in x0 x2 x4 M Q') := by
  have h1 : (((lg_cmp x0 x2) < 0 → wX8_in_17 x0 x2 x4 Qa M) ∧ (¬ (lg_cmp x0 x2) < 0 → ((0 < (lg_cmp x0 x4) → wX8_in_17 x0 x2 x4 Qa M) ∧ (¬ 0 < (lg_cmp x0 x4) → wX8_in_18 x0 x2 x4 Qa (1 : Int32) M)))) := h1
  have h2 : (((lg_cmp x0 x2) < 0 → wX8_in_17 x0 x2 x4 Qb M) ∧ (¬ (lg_cmp x0 x2) < 0 → ((0 < (lg_cmp x0 x4) → wX8_in_17 x0 x2 x4 Qb M) ∧ (¬ 0 < (lg_cmp x0 x4) → wX8_in_18 x0 x2 x4 Qb (1 : Int32) M)))) := h2
  by_cases hc1 : (lg_cmp x0 x2) < 0
  · have h1 := h1.1 hc1
    have h2 := h2.1 hc1
    obtain ⟨c6, N7, f4, h1, h2, b5⟩ := u_wX8_in_17 x0 x2 x4 M h1 h2
    have hf := Fr_ts (Fr_refl (fun i k => False) M) f4
    exact ⟨c6, N7, hf, h1, h2, fun Q' hq => ⟨fun _ => b5 _ hq, fun z => absurd hc1 z⟩⟩
  · have h1 := h1.2 hc1
    have h2 := h2.2 hc1
    by_cases hc8 : 0 < (lg_cmp x0 x4)
    · have h1 := h1.1 hc8
      have h2 := h2.1 hc8
      obtain ⟨c13, N14, f11, h1, h2, b12⟩ := u_wX8_in_17 x0 x2 x4 M h1 h2
      have hf := Fr_ts (Fr_refl (fun i k => False) M) f11
      exact ⟨c13, N14, hf, h1, h2, fun Q' hq => ⟨fun z => absurd z hc1, fun _ => ⟨fun _ => b12 _ hq, fun z => absurd hc8 z⟩⟩⟩
    · have h1 := h1.2 hc8
      have h2 := h2.2 hc8
      obtain ⟨c19, N20, f17, h1, h2, b18⟩ := u_wX8_in_18 x0 x2 x4 (1 : Int32) M h1 h2
      have hf := Fr_ts (Fr_refl (fun i k => False) M) f17
      exact ⟨c19, N20, hf, h1, h2, fun Q' hq => ⟨fun z => absurd z hc1, fun _ => ⟨fun z => absurd z hc8, fun _ => b18 _ hq⟩⟩⟩
set_option maxHeartbeats 4000000 in
theorem u_wX8_noBook (x1 : Int32) {Qa Qb : Mem → Prop} (M : Mem) (h1 : wX8_noBook x1 M Qa) (h2 : wX8_noBook x1 M Qb) : (∃ (M' : Mem), Fr (fun i k => 79 ≤ i) M M' ∧ Qa M' ∧ Qb M' ∧ ∀ (Q' : Mem → Prop), Q' M' → wX8_noBook x1 M Q') := by
  have h1 : (vp_in x1 (ln 81) ∧ (vp_in x1 (ln 82) ∧ (vp_in x1 (ln 83) ∧ (vp_in x1 (ln 84) ∧ (vp_in x1 (ln 85) ∧ (vp_in x1 (ln 87) ∧ Qa (mu (mu (mu (mu (mu (mu M 81 x1.toNatClampNeg (10 : Int32)) 82 x1.toNatClampNeg (9 : Int32)) 83 x1.toNatClampNeg (0 : Int32)) 84 x1.toNatClampNeg (2 : Int32)) 85 x1.toNatClampNeg (0 : Int32)) 87 x1.toNatClampNeg (0 : Int32)))))))) := h1
  have h2 : (vp_in x1 (ln 81) ∧ (vp_in x1 (ln 82) ∧ (vp_in x1 (ln 83) ∧ (vp_in x1 (ln 84) ∧ (vp_in x1 (ln 85) ∧ (vp_in x1 (ln 87) ∧ Qb (mu (mu (mu (mu (mu (mu M 81 x1.toNatClampNeg (10 : Int32)) 82 x1.toNatClampNeg (9 : Int32)) 83 x1.toNatClampNeg (0 : Int32)) 84 x1.toNatClampNeg (2 : Int32)) 85 x1.toNatClampNeg (0 : Int32)) 87 x1.toNatClampNeg (0 : Int32)))))))) := h2
  have s1 := h1.1
  have h1 := h1.2
  have h2 := h2.2
  have s2 := h1.1
  have h1 := h1.2
  have h2 := h2.2
  have s3 := h1.1
  have h1 := h1.2
  have h2 := h2.2
  have s4 := h1.1
  have h1 := h1.2
  have h2 := h2.2
  have s5 := h1.1
  have h1 := h1.2
  have h2 := h2.2
  have s6 := h1.1
  have h1 := h1.2
  have h2 := h2.2
  exact ⟨(mu (mu (mu (mu (mu (mu M 81 x1.toNatClampNeg (10 : Int32)) 82 x1.toNatClampNeg (9 : Int32)) 83 x1.toNatClampNeg (0 : Int32)) 84 x1.toNatClampNeg (2 : Int32)) 85 x1.toNatClampNeg (0 : Int32)) 87 x1.toNatClampNeg (0 : Int32)), (Fr_mu (Fr_mu (Fr_mu (Fr_mu (Fr_mu (Fr_mu (Fr_refl (fun i k => 79 ≤ i) M) (show 79 ≤ 81 from by omega)) (show 79 ≤ 82 from by omega)) (show 79 ≤ 83 from by omega)) (show 79 ≤ 84 from by omega)) (show 79 ≤ 85 from by omega)) (show 79 ≤ 87 from by omega)), h1, h2, fun Q' hq => ⟨s1, ⟨s2, ⟨s3, ⟨s4, ⟨s5, ⟨s6, hq⟩⟩⟩⟩⟩⟩⟩
set_option maxHeartbeats 4000000 in
theorem u_wX8_write_34 (x1 : Int32) (x2 : Int64) {Qa Qb : Int32 → Mem → Prop} : ∀ (n1 n2 : Nat) (v4 : Int32) (M : Mem), wX8_write_34 x1 x2 Qa n1 v4 M → wX8_write_34 x1 x2 Qb n2 v4 M → (∃ (a0 : Int32) (M' : Mem), Fr (fun i k => 79 ≤ i) M M' ∧ Qa a0 M' ∧ Qb a0 M' ∧ ∀ (Q' : Int32 → Mem → Prop), Q' a0 M' → wX8_write_34 x1 x2 Q' n1 v4 M) := by
  intro n1
  induction n1 with
  | zero => intro _ _ _ h1 _; exact h1.elim
  | succ n ih =>
    intro n2 v4 M h1 h2
    cases n2 with
    | zero => exact h2.elim
    | succ m =>
      have h1 : ((v4 < 0 → Qa (M 79 0) M) ∧ (¬ v4 < 0 → (vp_in (M 79 0) (ln 80) ∧ wX8_write_34 x1 x2 Qa n (v4 + (-1)) (mu (mu M 80 (M 79 0).toNatClampNeg (((x2 >>> (((8 : Int32) * v4).toInt64 &&& 63)) &&& (255 : Int64)).toInt32)) 79 0 (((mu M 80 (M 79 0).toNatClampNeg (((x2 >>> (((8 : Int32) * v4).toInt64 &&& 63)) &&& (255 : Int64)).toInt32)) 79 0) + (1 : Int32)))))) := h1
      have h2 : ((v4 < 0 → Qb (M 79 0) M) ∧ (¬ v4 < 0 → (vp_in (M 79 0) (ln 80) ∧ wX8_write_34 x1 x2 Qb m (v4 + (-1)) (mu (mu M 80 (M 79 0).toNatClampNeg (((x2 >>> (((8 : Int32) * v4).toInt64 &&& 63)) &&& (255 : Int64)).toInt32)) 79 0 (((mu M 80 (M 79 0).toNatClampNeg (((x2 >>> (((8 : Int32) * v4).toInt64 &&& 63)) &&& (255 : Int64)).toInt32)) 79 0) + (1 : Int32)))))) := h2
      by_cases hc1 : v4 < 0
      · have h1 := h1.1 hc1
        have h2 := h2.1 hc1
        exact ⟨(M 79 0), M, (Fr_refl (fun i k => 79 ≤ i) M), h1, h2, fun Q' hq => ⟨fun _ => hq, fun z => absurd hc1 z⟩⟩
      · have h1 := h1.2 hc1
        have h2 := h2.2 hc1
        have s2 := h1.1
        have h1 := h1.2
        have h2 := h2.2
        obtain ⟨c7, N8, f5, h1, h2, b6⟩ := ih m (v4 + (-1)) (mu (mu M 80 (M 79 0).toNatClampNeg (((x2 >>> (((8 : Int32) * v4).toInt64 &&& 63)) &&& (255 : Int64)).toInt32)) 79 0 (((mu M 80 (M 79 0).toNatClampNeg (((x2 >>> (((8 : Int32) * v4).toInt64 &&& 63)) &&& (255 : Int64)).toInt32)) 79 0) + (1 : Int32))) h1 h2
        have hf := Fr_ts (Fr_mu (Fr_mu (Fr_refl (fun i k => 79 ≤ i) M) (show 79 ≤ 80 from by omega)) (show 79 ≤ 79 from by omega)) f5
        exact ⟨c7, N8, hf, h1, h2, fun Q' hq => ⟨fun z => absurd z hc1, fun _ => ⟨s2, b6 _ hq⟩⟩⟩
set_option maxHeartbeats 4000000 in
theorem u_wX8_write (x1 : Int32) (x2 : Int64) {Qa Qb : Int32 → Mem → Prop} (M : Mem) (h1 : wX8_write x1 x2 M Qa) (h2 : wX8_write x1 x2 M Qb) : (∃ (a0 : Int32) (M' : Mem), Fr (fun i k => 79 ≤ i) M M' ∧ Qa a0 M' ∧ Qb a0 M' ∧ ∀ (Q' : Int32 → Mem → Prop), Q' a0 M' → wX8_write x1 x2 M Q') := by
  have h1 : (wX8_in x1.toInt64 (1 : Int64) (8 : Int64) M (fun r2 M1 => ((¬ r2 = 0 → ((((M1 79 0) + x1) ≤ (300 : Int32) → (∃ n3, wX8_write_34 x1 x2 Qa n3 (x1 - (1 : Int32)) M1)) ∧ (¬ ((M1 79 0) + x1) ≤ (300 : Int32) → Qa (-3 : Int32) M1))) ∧ (r2 = 0 → Qa (-1 : Int32) M1)))) := h1
  have h2 : (wX8_in x1.toInt64 (1 : Int64) (8 : Int64) M (fun r2 M1 => ((¬ r2 = 0 → ((((M1 79 0) + x1) ≤ (300 : Int32) → (∃ n3, wX8_write_34 x1 x2 Qb n3 (x1 - (1 : Int32)) M1)) ∧ (¬ ((M1 79 0) + x1) ≤ (300 : Int32) → Qb (-3 : Int32) M1))) ∧ (r2 = 0 → Qb (-1 : Int32) M1)))) := h2
  obtain ⟨r2, M1, f1, h1, h2, b2⟩ := u_wX8_in x1.toInt64 (1 : Int64) (8 : Int64) M h1 h2
  have g3 := Fr_tr (Fr_refl (fun i k => 79 ≤ i) M) f1 (fun i k (h : False) => h.elim)
  by_cases hc4 : r2 = 0
  · have h1 := h1.2 hc4
    have h2 := h2.2 hc4
    exact ⟨(-1 : Int32), M1, g3, h1, h2, fun Q' hq => b2 _ ⟨fun z => absurd hc4 z, fun _ => hq⟩⟩
  · have h1 := h1.1 hc4
    have h2 := h2.1 hc4
    by_cases hc5 : ((M1 79 0) + x1) ≤ (300 : Int32)
    · have h1 := h1.1 hc5
      have h2 := h2.1 hc5
      obtain ⟨n3_a, h1⟩ := h1
      obtain ⟨n3_b, h2⟩ := h2
      obtain ⟨c10, N11, f8, h1, h2, b9⟩ := u_wX8_write_34 x1 x2 n3_a n3_b (x1 - (1 : Int32)) M1 h1 h2
      have hf := Fr_ts g3 f8
      exact ⟨c10, N11, hf, h1, h2, fun Q' hq => b2 _ ⟨fun _ => ⟨fun _ => ⟨n3_a, b9 _ hq⟩, fun z => absurd hc5 z⟩, fun z => absurd z hc4⟩⟩
    · have h1 := h1.2 hc5
      have h2 := h2.2 hc5
      exact ⟨(-3 : Int32), M1, g3, h1, h2, fun Q' hq => b2 _ ⟨fun _ => ⟨fun z => absurd z hc5, fun _ => hq⟩, fun z => absurd z hc4⟩⟩
set_option maxHeartbeats 4000000 in
theorem u_wX8_wipe {Qa Qb : Int32 → Mem → Prop} (M : Mem) (h1 : wX8_wipe M Qa) (h2 : wX8_wipe M Qb) : (∃ (a0 : Int32) (M' : Mem), Fr (fun i k => 79 ≤ i) M M' ∧ Qa a0 M' ∧ Qb a0 M' ∧ ∀ (Q' : Int32 → Mem → Prop), Q' a0 M' → wX8_wipe M Q') := by
  have h1 : Qa (M 79 0) (mu M 79 0 (0 : Int32)) := h1
  have h2 : Qb (M 79 0) (mu M 79 0 (0 : Int32)) := h2
  exact ⟨(M 79 0), (mu M 79 0 (0 : Int32)), (Fr_mu (Fr_refl (fun i k => 79 ≤ i) M) (show 79 ≤ 79 from by omega)), h1, h2, fun Q' hq => hq⟩
set_option maxHeartbeats 4000000 in
theorem u_wX8_byteAt_18 (x1 : Int32) {Qa Qb : Int32 → Mem → Prop} (s0 : Int32) (M : Mem) (h1 : wX8_byteAt_18 x1 Qa s0 M) (h2 : wX8_byteAt_18 x1 Qb s0 M) : (∃ (a0 : Int32) (M' : Mem), Fr (fun i k => False) M M' ∧ Qa a0 M' ∧ Qb a0 M' ∧ ∀ (Q' : Int32 → Mem → Prop), Q' a0 M' → wX8_byteAt_18 x1 Q' s0 M) := by
  have h1 : Qa s0 M := h1
  have h2 : Qb s0 M := h2
  exact ⟨s0, M, (Fr_refl (fun i k => False) M), h1, h2, fun Q' hq => hq⟩
set_option maxHeartbeats 4000000 in
theorem u_wX8_byteAt (x1 : Int32) {Qa Qb : Int32 → Mem → Prop} (M : Mem) (h1 : wX8_byteAt x1 M Qa) (h2 : wX8_byteAt x1 M Qb) : (∃ (a0 : Int32) (M' : Mem), Fr (fun i k => False) M M' ∧ Qa a0 M' ∧ Qb a0 M' ∧ ∀ (Q' : Int32 → Mem → Prop), Q' a0 M' → wX8_byteAt x1 M Q') := by
  have h1 : (((M 79 0) ≤ x1 → wX8_byteAt_18 x1 Qa (0 : Int32) M) ∧ (¬ (M 79 0) ≤ x1 → (vp_in x1 (ln 80) ∧ wX8_byteAt_18 x1 Qa (M 80 x1.toNatClampNeg) M))) := h1
  have h2 : (((M 79 0) ≤ x1 → wX8_byteAt_18 x1 Qb (0 : Int32) M) ∧ (¬ (M 79 0) ≤ x1 → (vp_in x1 (ln 80) ∧ wX8_byteAt_18 x1 Qb (M 80 x1.toNatClampNeg) M))) := h2
  by_cases hc1 : (M 79 0) ≤ x1
  · have h1 := h1.1 hc1
    have h2 := h2.1 hc1
    obtain ⟨c6, N7, f4, h1, h2, b5⟩ := u_wX8_byteAt_18 x1 (0 : Int32) M h1 h2
    have hf := Fr_ts (Fr_refl (fun i k => False) M) f4
    exact ⟨c6, N7, hf, h1, h2, fun Q' hq => ⟨fun _ => b5 _ hq, fun z => absurd hc1 z⟩⟩
  · have h1 := h1.2 hc1
    have h2 := h2.2 hc1
    have s8 := h1.1
    have h1 := h1.2
    have h2 := h2.2
    obtain ⟨c13, N14, f11, h1, h2, b12⟩ := u_wX8_byteAt_18 x1 (M 80 x1.toNatClampNeg) M h1 h2
    have hf := Fr_ts (Fr_refl (fun i k => False) M) f11
    exact ⟨c13, N14, hf, h1, h2, fun Q' hq => ⟨fun z => absurd z hc1, fun _ => ⟨s8, b12 _ hq⟩⟩⟩
set_option maxHeartbeats 4000000 in
theorem u_wX8_figures_110 (x1 : Int32) {Qa Qb : Int32 → Mem → Prop} (M : Mem) (h1 : wX8_figures_110 x1 Qa M) (h2 : wX8_figures_110 x1 Qb M) : (∃ (a0 : Int32) (M' : Mem), Fr (fun i k => 79 ≤ i) M M' ∧ Qa a0 M' ∧ Qb a0 M' ∧ ∀ (Q' : Int32 → Mem → Prop), Q' a0 M' → wX8_figures_110 x1 Q' M) := by
  have h1 : (((0 : Int32) = 0 ∨ (0 : Int32) = 1) ∧ Qa (0 : Int32) M) := h1
  have h2 : (((0 : Int32) = 0 ∨ (0 : Int32) = 1) ∧ Qb (0 : Int32) M) := h2
  have s1 := h1.1
  have h1 := h1.2
  have h2 := h2.2
  exact ⟨(0 : Int32), M, (Fr_refl (fun i k => 79 ≤ i) M), h1, h2, fun Q' hq => ⟨s1, hq⟩⟩
set_option maxHeartbeats 4000000 in
theorem u_wX8_figures_107 (x1 : Int32) {k_2a k_2b : Int32 → Mem → Prop} {Qa Qb : Int32 → Mem → Prop} (v2 : Int32) (v4 : Int32) (s0 : Int32) (s1 : Int32) (M : Mem) (h1 : wX8_figures_107 x1 k_2a Qa v2 v4 s0 s1 M) (h2 : wX8_figures_107 x1 k_2b Qb v2 v4 s0 s1 M) : (∃ (a0 : Int32) (M' : Mem), Fr (fun i k => 79 ≤ i) M M' ∧ Qa a0 M' ∧ Qb a0 M' ∧ ∀ (k'0 : Int32 → Mem → Prop) (Q' : Int32 → Mem → Prop), Q' a0 M' → wX8_figures_107 x1 k'0 Q' v2 v4 s0 s1 M) ∨ (∃ (a0 : Int32) (M' : Mem), Fr (fun i k => 79 ≤ i) M M' ∧ k_2a a0 M' ∧ k_2b a0 M' ∧ ∀ (k'0 : Int32 → Mem → Prop) (Q' : Int32 → Mem → Prop), k'0 a0 M' → wX8_figures_107 x1 k'0 Q' v2 v4 s0 s1 M) := by
  have h1 : ((s1 = s0 → (vp_in v2 (ln 96) ∧ k_2a (v2 + (1 : Int32)) (mu (mu M 96 v2.toNatClampNeg v4) 79 19 (((mu M 96 v2.toNatClampNeg v4) 79 19) + (1 : Int32))))) ∧ (¬ s1 = s0 → wX8_figures_110 x1 Qa M)) := h1
  have h2 : ((s1 = s0 → (vp_in v2 (ln 96) ∧ k_2b (v2 + (1 : Int32)) (mu (mu M 96 v2.toNatClampNeg v4) 79 19 (((mu M 96 v2.toNatClampNeg v4) 79 19) + (1 : Int32))))) ∧ (¬ s1 = s0 → wX8_figures_110 x1 Qb M)) := h2
  by_cases hc1 : s1 = s0
  · have h1 := h1.1 hc1
    have h2 := h2.1 hc1
    have s2 := h1.1
    have h1 := h1.2
    have h2 := h2.2
    exact Or.inr ⟨(v2 + (1 : Int32)), (mu (mu M 96 v2.toNatClampNeg v4) 79 19 (((mu M 96 v2.toNatClampNeg v4) 79 19) + (1 : Int32))), (Fr_mu (Fr_mu (Fr_refl (fun i k => 79 ≤ i) M) (show 79 ≤ 96 from by omega)) (show 79 ≤ 79 from by omega)), h1, h2, fun k'0 Q' hq => ⟨fun _ => ⟨s2, hq⟩, fun z => absurd hc1 z⟩⟩
  · have h1 := h1.2 hc1
    have h2 := h2.2 hc1
    obtain ⟨c7, N8, f5, h1, h2, b6⟩ := u_wX8_figures_110 x1 M h1 h2
    have hf := Fr_ts (Fr_refl (fun i k => 79 ≤ i) M) f5
    exact Or.inl ⟨c7, N8, hf, h1, h2, fun k'0 Q' hq => ⟨fun z => absurd z hc1, fun _ => b6 _ hq⟩⟩
set_option maxHeartbeats 4000000 in
theorem u_wX8_figures_73 (x1 : Int32) {k_2a k_2b : Int32 → Mem → Prop} {Qa Qb : Int32 → Mem → Prop} (v2 : Int32) (v3 : Int32) (v4 : Int32) (M : Mem) (h1 : wX8_figures_73 x1 k_2a Qa v2 v3 v4 M) (h2 : wX8_figures_73 x1 k_2b Qb v2 v3 v4 M) : (∃ (a0 : Int32) (M' : Mem), Fr (fun i k => 79 ≤ i) M M' ∧ Qa a0 M' ∧ Qb a0 M' ∧ ∀ (k'0 : Int32 → Mem → Prop) (Q' : Int32 → Mem → Prop), Q' a0 M' → wX8_figures_73 x1 k'0 Q' v2 v3 v4 M) ∨ (∃ (a0 : Int32) (M' : Mem), Fr (fun i k => 79 ≤ i) M M' ∧ k_2a a0 M' ∧ k_2b a0 M' ∧ ∀ (k'0 : Int32 → Mem → Prop) (Q' : Int32 → Mem → Prop), k'0 a0 M' → wX8_figures_73 x1 k'0 Q' v2 v3 v4 M) := by
  have h1 : (wX8_in v3.toInt64 (1 : Int64) (2 : Int64) M (fun r10 M9 => ((r10 = 0 → wX8_figures_110 x1 Qa M9) ∧ (¬ r10 = 0 → (wX8_byteAt (M9 79 19) M9 (fun r12 M11 => (((x1 - (1 : Int32)) ≤ v2 → wX8_figures_107 x1 (k_2a) Qa v2 v4 (59 : Int32) r12 M11) ∧ (¬ (x1 - (1 : Int32)) ≤ v2 → wX8_figures_107 x1 (k_2a) Qa v2 v4 (44 : Int32) r12 M11)))))))) := h1
  have h2 : (wX8_in v3.toInt64 (1 : Int64) (2 : Int64) M (fun r10 M9 => ((r10 = 0 → wX8_figures_110 x1 Qb M9) ∧ (¬ r10 = 0 → (wX8_byteAt (M9 79 19) M9 (fun r12 M11 => (((x1 - (1 : Int32)) ≤ v2 → wX8_figures_107 x1 (k_2b) Qb v2 v4 (59 : Int32) r12 M11) ∧ (¬ (x1 - (1 : Int32)) ≤ v2 → wX8_figures_107 x1 (k_2b) Qb v2 v4 (44 : Int32) r12 M11)))))))) := h2
  obtain ⟨r10, M9, f1, h1, h2, b2⟩ := u_wX8_in v3.toInt64 (1 : Int64) (2 : Int64) M h1 h2
  have g3 := Fr_tr (Fr_refl (fun i k => 79 ≤ i) M) f1 (fun i k (h : False) => h.elim)
  by_cases hc4 : r10 = 0
  · have h1 := h1.1 hc4
    have h2 := h2.1 hc4
    obtain ⟨c9, N10, f7, h1, h2, b8⟩ := u_wX8_figures_110 x1 M9 h1 h2
    have hf := Fr_ts g3 f7
    exact Or.inl ⟨c9, N10, hf, h1, h2, fun k'0 Q' hq => b2 _ ⟨fun _ => b8 _ hq, fun z => absurd hc4 z⟩⟩
  · have h1 := h1.2 hc4
    have h2 := h2.2 hc4
    obtain ⟨r12, M11, f11, h1, h2, b12⟩ := u_wX8_byteAt (M9 79 19) M9 h1 h2
    have g13 := Fr_tr g3 f11 (fun i k (h : False) => h.elim)
    by_cases hc14 : (x1 - (1 : Int32)) ≤ v2
    · have h1 := h1.1 hc14
      have h2 := h2.1 hc14
      rcases u_wX8_figures_107 x1 v2 v4 (59 : Int32) r12 M11 h1 h2 with ⟨c19, N20, f17, h1, h2, b18⟩ | ⟨c21, N22, f17, h1, h2, b18⟩
      · have hf := Fr_ts g13 f17
        exact Or.inl ⟨c19, N20, hf, h1, h2, fun k'0 Q' hq => b2 _ ⟨fun z => absurd z hc4, fun _ => b12 _ ⟨fun _ => b18 _ _ hq, fun z => absurd hc14 z⟩⟩⟩
      · have hf := Fr_ts g13 f17
        exact Or.inr ⟨c21, N22, hf, h1, h2, fun k'0 Q' hq => b2 _ ⟨fun z => absurd z hc4, fun _ => b12 _ ⟨fun _ => b18 _ _ hq, fun z => absurd hc14 z⟩⟩⟩
    · have h1 := h1.2 hc14
      have h2 := h2.2 hc14
      rcases u_wX8_figures_107 x1 v2 v4 (44 : Int32) r12 M11 h1 h2 with ⟨c27, N28, f25, h1, h2, b26⟩ | ⟨c29, N30, f25, h1, h2, b26⟩
      · have hf := Fr_ts g13 f25
        exact Or.inl ⟨c27, N28, hf, h1, h2, fun k'0 Q' hq => b2 _ ⟨fun z => absurd z hc4, fun _ => b12 _ ⟨fun z => absurd z hc14, fun _ => b26 _ _ hq⟩⟩⟩
      · have hf := Fr_ts g13 f25
        exact Or.inr ⟨c29, N30, hf, h1, h2, fun k'0 Q' hq => b2 _ ⟨fun z => absurd z hc4, fun _ => b12 _ ⟨fun z => absurd z hc14, fun _ => b26 _ _ hq⟩⟩⟩
set_option maxHeartbeats 4000000 in
theorem u_wX8_figures_12 (x1 : Int32) {k_2a k_2b : Int32 → Mem → Prop} {Qa Qb : Int32 → Mem → Prop} : ∀ (n1 n2 : Nat) (v2 : Int32) (v3 : Int32) (v4 : Int32) (M : Mem), wX8_figures_12 x1 k_2a Qa n1 v2 v3 v4 M → wX8_figures_12 x1 k_2b Qb n2 v2 v3 v4 M → (∃ (a0 : Int32) (M' : Mem), Fr (fun i k => 79 ≤ i) M M' ∧ Qa a0 M' ∧ Qb a0 M' ∧ ∀ (k'0 : Int32 → Mem → Prop) (Q' : Int32 → Mem → Prop), Q' a0 M' → wX8_figures_12 x1 k'0 Q' n1 v2 v3 v4 M) ∨ (∃ (a0 : Int32) (M' : Mem), Fr (fun i k => 79 ≤ i) M M' ∧ k_2a a0 M' ∧ k_2b a0 M' ∧ ∀ (k'0 : Int32 → Mem → Prop) (Q' : Int32 → Mem → Prop), k'0 a0 M' → wX8_figures_12 x1 k'0 Q' n1 v2 v3 v4 M) := by
  intro n1
  induction n1 with
  | zero => intro _ _ _ _ _ h1 _; exact h1.elim
  | succ n ih =>
    intro n2 v2 v3 v4 M h1 h2
    cases n2 with
    | zero => exact h2.elim
    | succ m =>
      have h1 : (wX8_byteAt (M 79 19) M (fun r4 M3 => (wX8_in r4.toInt64 (48 : Int64) (57 : Int64) M3 (fun r6 M5 => ((r6 = 0 → wX8_figures_73 x1 (k_2a) Qa v2 v3 v4 M5) ∧ (¬ r6 = 0 → (((3 : Int32) ≤ v3 → wX8_figures_73 x1 (k_2a) Qa v2 v3 v4 M5) ∧ (¬ (3 : Int32) ≤ v3 → (wX8_byteAt (M5 79 19) M5 (fun r8 M7 => wX8_figures_12 x1 k_2a Qa n v2 (v3 + (1 : Int32)) ((((10 : Int32) * v4) + r8) - (48 : Int32)) (mu M7 79 19 ((M7 79 19) + (1 : Int32))))))))))))) := h1
      have h2 : (wX8_byteAt (M 79 19) M (fun r4 M3 => (wX8_in r4.toInt64 (48 : Int64) (57 : Int64) M3 (fun r6 M5 => ((r6 = 0 → wX8_figures_73 x1 (k_2b) Qb v2 v3 v4 M5) ∧ (¬ r6 = 0 → (((3 : Int32) ≤ v3 → wX8_figures_73 x1 (k_2b) Qb v2 v3 v4 M5) ∧ (¬ (3 : Int32) ≤ v3 → (wX8_byteAt (M5 79 19) M5 (fun r8 M7 => wX8_figures_12 x1 k_2b Qb m v2 (v3 + (1 : Int32)) ((((10 : Int32) * v4) + r8) - (48 : Int32)) (mu M7 79 19 ((M7 79 19) + (1 : Int32))))))))))))) := h2
      obtain ⟨r4, M3, f1, h1, h2, b2⟩ := u_wX8_byteAt (M 79 19) M h1 h2
      have g3 := Fr_tr (Fr_refl (fun i k => 79 ≤ i) M) f1 (fun i k (h : False) => h.elim)
      obtain ⟨r6, M5, f4, h1, h2, b5⟩ := u_wX8_in r4.toInt64 (48 : Int64) (57 : Int64) M3 h1 h2
      have g6 := Fr_tr g3 f4 (fun i k (h : False) => h.elim)
      by_cases hc7 : r6 = 0
      · have h1 := h1.1 hc7
        have h2 := h2.1 hc7
        rcases u_wX8_figures_73 x1 v2 v3 v4 M5 h1 h2 with ⟨c12, N13, f10, h1, h2, b11⟩ | ⟨c14, N15, f10, h1, h2, b11⟩
        · have hf := Fr_ts g6 f10
          exact Or.inl ⟨c12, N13, hf, h1, h2, fun k'0 Q' hq => b2 _ (b5 _ ⟨fun _ => b11 _ _ hq, fun z => absurd hc7 z⟩)⟩
        · have hf := Fr_ts g6 f10
          exact Or.inr ⟨c14, N15, hf, h1, h2, fun k'0 Q' hq => b2 _ (b5 _ ⟨fun _ => b11 _ _ hq, fun z => absurd hc7 z⟩)⟩
      · have h1 := h1.2 hc7
        have h2 := h2.2 hc7
        by_cases hc16 : (3 : Int32) ≤ v3
        · have h1 := h1.1 hc16
          have h2 := h2.1 hc16
          rcases u_wX8_figures_73 x1 v2 v3 v4 M5 h1 h2 with ⟨c21, N22, f19, h1, h2, b20⟩ | ⟨c23, N24, f19, h1, h2, b20⟩
          · have hf := Fr_ts g6 f19
            exact Or.inl ⟨c21, N22, hf, h1, h2, fun k'0 Q' hq => b2 _ (b5 _ ⟨fun z => absurd z hc7, fun _ => ⟨fun _ => b20 _ _ hq, fun z => absurd hc16 z⟩⟩)⟩
          · have hf := Fr_ts g6 f19
            exact Or.inr ⟨c23, N24, hf, h1, h2, fun k'0 Q' hq => b2 _ (b5 _ ⟨fun z => absurd z hc7, fun _ => ⟨fun _ => b20 _ _ hq, fun z => absurd hc16 z⟩⟩)⟩
        · have h1 := h1.2 hc16
          have h2 := h2.2 hc16
          obtain ⟨r8, M7, f25, h1, h2, b26⟩ := u_wX8_byteAt (M5 79 19) M5 h1 h2
          have g27 := Fr_tr g6 f25 (fun i k (h : False) => h.elim)
          rcases ih m v2 (v3 + (1 : Int32)) ((((10 : Int32) * v4) + r8) - (48 : Int32)) (mu M7 79 19 ((M7 79 19) + (1 : Int32))) h1 h2 with ⟨c32, N33, f30, h1, h2, b31⟩ | ⟨c34, N35, f30, h1, h2, b31⟩
          · have hf := Fr_ts (Fr_mu g27 (show 79 ≤ 79 from by omega)) f30
            exact Or.inl ⟨c32, N33, hf, h1, h2, fun k'0 Q' hq => b2 _ (b5 _ ⟨fun z => absurd z hc7, fun _ => ⟨fun z => absurd z hc16, fun _ => b26 _ (b31 _ _ hq)⟩⟩)⟩
          · have hf := Fr_ts (Fr_mu g27 (show 79 ≤ 79 from by omega)) f30
            exact Or.inr ⟨c34, N35, hf, h1, h2, fun k'0 Q' hq => b2 _ (b5 _ ⟨fun z => absurd z hc7, fun _ => ⟨fun z => absurd z hc16, fun _ => b26 _ (b31 _ _ hq)⟩⟩)⟩
set_option maxHeartbeats 4000000 in
theorem u_wX8_figures_2 (x1 : Int32) {Qa Qb : Int32 → Mem → Prop} : ∀ (n1 n2 : Nat) (v2 : Int32) (M : Mem), wX8_figures_2 x1 Qa n1 v2 M → wX8_figures_2 x1 Qb n2 v2 M → (∃ (a0 : Int32) (M' : Mem), Fr (fun i k => 79 ≤ i) M M' ∧ Qa a0 M' ∧ Qb a0 M' ∧ ∀ (Q' : Int32 → Mem → Prop), Q' a0 M' → wX8_figures_2 x1 Q' n1 v2 M) := by
  intro n1
  induction n1 with
  | zero => intro _ _ _ h1 _; exact h1.elim
  | succ n ih =>
    intro n2 v2 M h1 h2
    cases n2 with
    | zero => exact h2.elim
    | succ m =>
      have h1 : ((x1 ≤ v2 → (((1 : Int32) = 0 ∨ (1 : Int32) = 1) ∧ Qa (1 : Int32) M)) ∧ (¬ x1 ≤ v2 → (∃ n2, wX8_figures_12 x1 (wX8_figures_2 x1 Qa n) Qa n2 v2 (0 : Int32) (0 : Int32) M))) := h1
      have h2 : ((x1 ≤ v2 → (((1 : Int32) = 0 ∨ (1 : Int32) = 1) ∧ Qb (1 : Int32) M)) ∧ (¬ x1 ≤ v2 → (∃ n2, wX8_figures_12 x1 (wX8_figures_2 x1 Qb m) Qb n2 v2 (0 : Int32) (0 : Int32) M))) := h2
      by_cases hc1 : x1 ≤ v2
      · have h1 := h1.1 hc1
        have h2 := h2.1 hc1
        have s2 := h1.1
        have h1 := h1.2
        have h2 := h2.2
        exact ⟨(1 : Int32), M, (Fr_refl (fun i k => 79 ≤ i) M), h1, h2, fun Q' hq => ⟨fun _ => ⟨s2, hq⟩, fun z => absurd hc1 z⟩⟩
      · have h1 := h1.2 hc1
        have h2 := h2.2 hc1
        obtain ⟨n2_a, h1⟩ := h1
        obtain ⟨n2_b, h2⟩ := h2
        rcases u_wX8_figures_12 x1 n2_a n2_b v2 (0 : Int32) (0 : Int32) M h1 h2 with ⟨c7, N8, f5, h1, h2, b6⟩ | ⟨c9, N10, f5, h1, h2, b6⟩
        · have hf := Fr_ts (Fr_refl (fun i k => 79 ≤ i) M) f5
          exact ⟨c7, N8, hf, h1, h2, fun Q' hq => ⟨fun z => absurd z hc1, fun _ => ⟨n2_a, b6 _ _ hq⟩⟩⟩
        · have hf := Fr_ts (Fr_refl (fun i k => 79 ≤ i) M) f5
          obtain ⟨c13, N14, f11, h1, h2, b12⟩ := ih m c9 N10 h1 h2
          have hf := Fr_ts hf f11
          exact ⟨c13, N14, hf, h1, h2, fun Q' hq => ⟨fun z => absurd z hc1, fun _ => ⟨n2_a, b6 _ _ (b12 _ hq)⟩⟩⟩
set_option maxHeartbeats 4000000 in
theorem u_wX8_figures (x1 : Int32) {Qa Qb : Int32 → Mem → Prop} (M : Mem) (h1 : wX8_figures x1 M Qa) (h2 : wX8_figures x1 M Qb) : (∃ (a0 : Int32) (M' : Mem), Fr (fun i k => 79 ≤ i) M M' ∧ Qa a0 M' ∧ Qb a0 M' ∧ ∀ (Q' : Int32 → Mem → Prop), Q' a0 M' → wX8_figures x1 M Q') := by
  have h1 : (∃ n1, wX8_figures_2 x1 Qa n1 (0 : Int32) M) := h1
  have h2 : (∃ n1, wX8_figures_2 x1 Qb n1 (0 : Int32) M) := h2
  obtain ⟨n1_a, h1⟩ := h1
  obtain ⟨n1_b, h2⟩ := h2
  obtain ⟨c5, N6, f3, h1, h2, b4⟩ := u_wX8_figures_2 x1 n1_a n1_b (0 : Int32) M h1 h2
  have hf := Fr_ts (Fr_refl (fun i k => 79 ≤ i) M) f3
  exact ⟨c5, N6, hf, h1, h2, fun Q' hq => ⟨n1_a, b4 _ hq⟩⟩
set_option maxHeartbeats 4000000 in
theorem u_wX8_item_99 {Qa Qb : Int32 → Mem → Prop} (M : Mem) (h1 : wX8_item_99 Qa M) (h2 : wX8_item_99 Qb M) : (∃ (a0 : Int32) (M' : Mem), Fr (fun i k => 79 ≤ i) M M' ∧ Qa a0 M' ∧ Qb a0 M' ∧ ∀ (Q' : Int32 → Mem → Prop), Q' a0 M' → wX8_item_99 Q' M) := by
  have h1 : (((0 : Int32) = 0 ∨ (0 : Int32) = 1) ∧ Qa (0 : Int32) M) := h1
  have h2 : (((0 : Int32) = 0 ∨ (0 : Int32) = 1) ∧ Qb (0 : Int32) M) := h2
  have s1 := h1.1
  have h1 := h1.2
  have h2 := h2.2
  exact ⟨(0 : Int32), M, (Fr_refl (fun i k => 79 ≤ i) M), h1, h2, fun Q' hq => ⟨s1, hq⟩⟩
set_option maxHeartbeats 4000000 in
theorem u_wX8_item_140 {Qa Qb : Int32 → Mem → Prop} (M : Mem) (h1 : wX8_item_140 Qa M) (h2 : wX8_item_140 Qb M) : (∃ (a0 : Int32) (M' : Mem), Fr (fun i k => 79 ≤ i) M M' ∧ Qa a0 M' ∧ Qb a0 M' ∧ ∀ (Q' : Int32 → Mem → Prop), Q' a0 M' → wX8_item_140 Q' M) := by
  have h1 : (((0 : Int32) = 0 ∨ (0 : Int32) = 1) ∧ Qa (0 : Int32) M) := h1
  have h2 : (((0 : Int32) = 0 ∨ (0 : Int32) = 1) ∧ Qb (0 : Int32) M) := h2
  have s1 := h1.1
  have h1 := h1.2
  have h2 := h2.2
  exact ⟨(0 : Int32), M, (Fr_refl (fun i k => 79 ≤ i) M), h1, h2, fun Q' hq => ⟨s1, hq⟩⟩
set_option maxHeartbeats 4000000 in
theorem u_wX8_item_185 {Qa Qb : Int32 → Mem → Prop} (M : Mem) (h1 : wX8_item_185 Qa M) (h2 : wX8_item_185 Qb M) : (∃ (a0 : Int32) (M' : Mem), Fr (fun i k => 79 ≤ i) M M' ∧ Qa a0 M' ∧ Qb a0 M' ∧ ∀ (Q' : Int32 → Mem → Prop), Q' a0 M' → wX8_item_185 Q' M) := by
  have h1 : (((0 : Int32) = 0 ∨ (0 : Int32) = 1) ∧ Qa (0 : Int32) M) := h1
  have h2 : (((0 : Int32) = 0 ∨ (0 : Int32) = 1) ∧ Qb (0 : Int32) M) := h2
  have s1 := h1.1
  have h1 := h1.2
  have h2 := h2.2
  exact ⟨(0 : Int32), M, (Fr_refl (fun i k => 79 ≤ i) M), h1, h2, fun Q' hq => ⟨s1, hq⟩⟩
set_option maxHeartbeats 4000000 in
theorem u_wX8_item_254 {Qa Qb : Int32 → Mem → Prop} (M : Mem) (h1 : wX8_item_254 Qa M) (h2 : wX8_item_254 Qb M) : (∃ (a0 : Int32) (M' : Mem), Fr (fun i k => 79 ≤ i) M M' ∧ Qa a0 M' ∧ Qb a0 M' ∧ ∀ (Q' : Int32 → Mem → Prop), Q' a0 M' → wX8_item_254 Q' M) := by
  have h1 : (((0 : Int32) = 0 ∨ (0 : Int32) = 1) ∧ Qa (0 : Int32) M) := h1
  have h2 : (((0 : Int32) = 0 ∨ (0 : Int32) = 1) ∧ Qb (0 : Int32) M) := h2
  have s1 := h1.1
  have h1 := h1.2
  have h2 := h2.2
  exact ⟨(0 : Int32), M, (Fr_refl (fun i k => 79 ≤ i) M), h1, h2, fun Q' hq => ⟨s1, hq⟩⟩
set_option maxHeartbeats 4000000 in
theorem u_wX8_item_342 {Qa Qb : Int32 → Mem → Prop} (M : Mem) (h1 : wX8_item_342 Qa M) (h2 : wX8_item_342 Qb M) : (∃ (a0 : Int32) (M' : Mem), Fr (fun i k => 79 ≤ i) M M' ∧ Qa a0 M' ∧ Qb a0 M' ∧ ∀ (Q' : Int32 → Mem → Prop), Q' a0 M' → wX8_item_342 Q' M) := by
  have h1 : (((0 : Int32) = 0 ∨ (0 : Int32) = 1) ∧ Qa (0 : Int32) M) := h1
  have h2 : (((0 : Int32) = 0 ∨ (0 : Int32) = 1) ∧ Qb (0 : Int32) M) := h2
  have s1 := h1.1
  have h1 := h1.2
  have h2 := h2.2
  exact ⟨(0 : Int32), M, (Fr_refl (fun i k => 79 ≤ i) M), h1, h2, fun Q' hq => ⟨s1, hq⟩⟩
set_option maxHeartbeats 4000000 in
theorem u_wX8_item {Qa Qb : Int32 → Mem → Prop} (M : Mem) (h1 : wX8_item M Qa) (h2 : wX8_item M Qb) : (∃ (a0 : Int32) (M' : Mem), Fr (fun i k => 79 ≤ i) M M' ∧ Qa a0 M' ∧ Qb a0 M' ∧ ∀ (Q' : Int32 → Mem → Prop), Q' a0 M' → wX8_item M Q') := by
  have h1 : (wX8_byteAt (M 79 19) M (fun r2 M1 => ((r2 = (108 : Int32) → (wX8_figures (2 : Int32) (mu M1 79 19 ((M1 79 19) + (1 : Int32))) (fun r4 M3 => ((r4 = 0 → wX8_item_185 Qa M3) ∧ (¬ r4 = 0 → (vp_in (0 : Int32) (ln 96) ∧ (((3 : Int32) < (M3 96 (0 : Int32).toNatClampNeg) → wX8_item_185 Qa M3) ∧ (¬ (3 : Int32) < (M3 96 (0 : Int32).toNatClampNeg) → (vp_in (1 : Int32) (ln 96) ∧ (((M3 96 (1 : Int32).toNatClampNeg) ≤ (39 : Int32) → (vp_in (0 : Int32) (ln 96) ∧ (vp_in (1 : Int32) (ln 83) ∧ (vp_in (1 : Int32) (ln 96) ∧ (vp_in (1 : Int32) (ln 84) ∧ (((1 : Int32) = 0 ∨ (1 : Int32) = 1) ∧ Qa (1 : Int32) (mu (mu M3 83 (1 : Int32).toNatClampNeg (M3 96 (0 : Int32).toNatClampNeg)) 84 (1 : Int32).toNatClampNeg ((mu M3 83 (1 : Int32).toNatClampNeg (M3 96 (0 : Int32).toNatClampNeg)) 96 (1 : Int32).toNatClampNeg)))))))) ∧ (¬ (M3 96 (1 : Int32).toNatClampNeg) ≤ (39 : Int32) → wX8_item_185 Qa M3))))))))))) ∧ (¬ r2 = (108 : Int32) → ((r2 = (109 : Int32) → (((0 : Int32) = 0 ∨ (0 : Int32) = 1) ∧ Qa (0 : Int32) (mu M1 79 19 ((M1 79 19) + (1 : Int32))))) ∧ (¬ r2 = (109 : Int32) → ((r2 = (110 : Int32) → (wX8_figures (1 : Int32) (mu M1 79 19 ((M1 79 19) + (1 : Int32))) (fun r6 M5 => ((r6 = 0 → wX8_item_99 Qa M5) ∧ (¬ r6 = 0 → (vp_in (0 : Int32) (ln 96) ∧ (wX8_in ((M5 96 (0 : Int32).toNatClampNeg).toInt64) (2 : Int64) (40 : Int64) M5 (fun r8 M7 => ((¬ r8 = 0 → (vp_in (0 : Int32) (ln 96) ∧ (vp_in (1 : Int32) (ln 81) ∧ (((1 : Int32) = 0 ∨ (1 : Int32) = 1) ∧ Qa (1 : Int32) (mu M7 81 (1 : Int32).toNatClampNeg (M7 96 (0 : Int32).toNatClampNeg)))))) ∧ (r8 = 0 → wX8_item_99 Qa M7)))))))))) ∧ (¬ r2 = (110 : Int32) → ((r2 = (111 : Int32) → (((0 : Int32) = 0 ∨ (0 : Int32) = 1) ∧ Qa (0 : Int32) (mu M1 79 19 ((M1 79 19) + (1 : Int32))))) ∧ (¬ r2 = (111 : Int32) → ((r2 = (112 : Int32) → (((0 : Int32) = 0 ∨ (0 : Int32) = 1) ∧ Qa (0 : Int32) (mu M1 79 19 ((M1 79 19) + (1 : Int32))))) ∧ (¬ r2 = (112 : Int32) → ((r2 = (113 : Int32) → (((0 : Int32) = 0 ∨ (0 : Int32) = 1) ∧ Qa (0 : Int32) (mu M1 79 19 ((M1 79 19) + (1 : Int32))))) ∧ (¬ r2 = (113 : Int32) → ((r2 = (114 : Int32) → (wX8_figures (1 : Int32) (mu M1 79 19 ((M1 79 19) + (1 : Int32))) (fun r10 M9 => ((r10 = 0 → wX8_item_140 Qa M9) ∧ (¬ r10 = 0 → (vp_in (0 : Int32) (ln 96) ∧ (wX8_in ((M9 96 (0 : Int32).toNatClampNeg).toInt64) (1 : Int64) (40 : Int64) M9 (fun r12 M11 => ((¬ r12 = 0 → (vp_in (0 : Int32) (ln 96) ∧ (vp_in (1 : Int32) (ln 82) ∧ (((1 : Int32) = 0 ∨ (1 : Int32) = 1) ∧ Qa (1 : Int32) (mu M11 82 (1 : Int32).toNatClampNeg (M11 96 (0 : Int32).toNatClampNeg)))))) ∧ (r12 = 0 → wX8_item_140 Qa M11)))))))))) ∧ (¬ r2 = (114 : Int32) → ((r2 = (115 : Int32) → (wX8_figures (2 : Int32) (mu M1 79 19 ((M1 79 19) + (1 : Int32))) (fun r14 M13 => ((r14 = 0 → wX8_item_254 Qa M13) ∧ (¬ r14 = 0 → (vp_in (0 : Int32) (ln 96) ∧ (((39 : Int32) < (M13 96 (0 : Int32).toNatClampNeg) → wX8_item_254 Qa M13) ∧ (¬ (39 : Int32) < (M13 96 (0 : Int32).toNatClampNeg) → (vp_in (1 : Int32) (ln 96) ∧ (((39 : Int32) < (M13 96 (1 : Int32).toNatClampNeg) → wX8_item_254 Qa M13) ∧ (¬ (39 : Int32) < (M13 96 (1 : Int32).toNatClampNeg) → (vp_in (1 : Int32) (ln 85) ∧ ((¬ (M13 85 (1 : Int32).toNatClampNeg) = (20 : Int32) → (vp_in (1 : Int32) (ln 85) ∧ (vp_in (0 : Int32) (ln 96) ∧ (vp_in ((40 : Int32) + ((2 : Int32) * (M13 85 (1 : Int32).toNatClampNeg))) (ln 86) ∧ (vp_in (1 : Int32) (ln 85) ∧ (vp_in (1 : Int32) (ln 96) ∧ (vp_in ((41 : Int32) + ((2 : Int32) * ((mu M13 86 ((40 : Int32) + ((2 : Int32) * (M13 85 (1 : Int32).toNatClampNeg))).toNatClampNeg (M13 96 (0 : Int32).toNatClampNeg)) 85 (1 : Int32).toNatClampNeg))) (ln 86) ∧ (vp_in (1 : Int32) (ln 85) ∧ (vp_in (1 : Int32) (ln 85) ∧ (((1 : Int32) = 0 ∨ (1 : Int32) = 1) ∧ Qa (1 : Int32) (mu (mu (mu M13 86 ((40 : Int32) + ((2 : Int32) * (M13 85 (1 : Int32).toNatClampNeg))).toNatClampNeg (M13 96 (0 : Int32).toNatClampNeg)) 86 ((41 : Int32) + ((2 : Int32) * ((mu M13 86 ((40 : Int32) + ((2 : Int32) * (M13 85 (1 : Int32).toNatClampNeg))).toNatClampNeg (M13 96 (0 : Int32).toNatClampNeg)) 85 (1 : Int32).toNatClampNeg))).toNatClampNeg ((mu M13 86 ((40 : Int32) + ((2 : Int32) * (M13 85 (1 : Int32).toNatClampNeg))).toNatClampNeg (M13 96 (0 : Int32).toNatClampNeg)) 96 (1 : Int32).toNatClampNeg)) 85 (1 : Int32).toNatClampNeg (((mu (mu M13 86 ((40 : Int32) + ((2 : Int32) * (M13 85 (1 : Int32).toNatClampNeg))).toNatClampNeg (M13 96 (0 : Int32).toNatClampNeg)) 86 ((41 : Int32) + ((2 : Int32) * ((mu M13 86 ((40 : Int32) + ((2 : Int32) * (M13 85 (1 : Int32).toNatClampNeg))).toNatClampNeg (M13 96 (0 : Int32).toNatClampNeg)) 85 (1 : Int32).toNatClampNeg))).toNatClampNeg ((mu M13 86 ((40 : Int32) + ((2 : Int32) * (M13 85 (1 : Int32).toNatClampNeg))).toNatClampNeg (M13 96 (0 : Int32).toNatClampNeg)) 96 (1 : Int32).toNatClampNeg)) 85 (1 : Int32).toNatClampNeg) + (1 : Int32))))))))))))) ∧ ((M13 85 (1 : Int32).toNatClampNeg) = (20 : Int32) → wX8_item_254 Qa M13)))))))))))))) ∧ (¬ r2 = (115 : Int32) → ((r2 = (116 : Int32) → (wX8_figures (1 : Int32) (mu M1 79 19 ((M1 79 19) + (1 : Int32))) (fun r16 M15 => ((r16 = 0 → wX8_item_342 Qa M15) ∧ (¬ r16 = 0 → (vp_in (0 : Int32) (ln 96) ∧ (((39 : Int32) < (M15 96 (0 : Int32).toNatClampNeg) → wX8_item_342 Qa M15) ∧ (¬ (39 : Int32) < (M15 96 (0 : Int32).toNatClampNeg) → (vp_in (1 : Int32) (ln 87) ∧ ((¬ (M15 87 (1 : Int32).toNatClampNeg) = (20 : Int32) → (vp_in (1 : Int32) (ln 87) ∧ (vp_in (0 : Int32) (ln 96) ∧ (vp_in ((20 : Int32) + (M15 87 (1 : Int32).toNatClampNeg)) (ln 88) ∧ (vp_in (1 : Int32) (ln 87) ∧ (vp_in (1 : Int32) (ln 87) ∧ (((1 : Int32) = 0 ∨ (1 : Int32) = 1) ∧ Qa (1 : Int32) (mu (mu M15 88 ((20 : Int32) + (M15 87 (1 : Int32).toNatClampNeg)).toNatClampNeg (M15 96 (0 : Int32).toNatClampNeg)) 87 (1 : Int32).toNatClampNeg (((mu M15 88 ((20 : Int32) + (M15 87 (1 : Int32).toNatClampNeg)).toNatClampNeg (M15 96 (0 : Int32).toNatClampNeg)) 87 (1 : Int32).toNatClampNeg) + (1 : Int32)))))))))) ∧ ((M15 87 (1 : Int32).toNatClampNeg) = (20 : Int32) → wX8_item_342 Qa M15))))))))))) ∧ (¬ r2 = (116 : Int32) → (((0 : Int32) = 0 ∨ (0 : Int32) = 1) ∧ Qa (0 : Int32) (mu M1 79 19 ((M1 79 19) + (1 : Int32)))))))))))))))))))))))) := h1
  have h2 : (wX8_byteAt (M 79 19) M (fun r2 M1 => ((r2 = (108 : Int32) → (wX8_figures (2 : Int32) (mu M1 79 19 ((M1 79 19) + (1 : Int32))) (fun r4 M3 => ((r4 = 0 → wX8_item_185 Qb M3) ∧ (¬ r4 = 0 → (vp_in (0 : Int32) (ln 96) ∧ (((3 : Int32) < (M3 96 (0 : Int32).toNatClampNeg) → wX8_item_185 Qb M3) ∧ (¬ (3 : Int32) < (M3 96 (0 : Int32).toNatClampNeg) → (vp_in (1 : Int32) (ln 96) ∧ (((M3 96 (1 : Int32).toNatClampNeg) ≤ (39 : Int32) → (vp_in (0 : Int32) (ln 96) ∧ (vp_in (1 : Int32) (ln 83) ∧ (vp_in (1 : Int32) (ln 96) ∧ (vp_in (1 : Int32) (ln 84) ∧ (((1 : Int32) = 0 ∨ (1 : Int32) = 1) ∧ Qb (1 : Int32) (mu (mu M3 83 (1 : Int32).toNatClampNeg (M3 96 (0 : Int32).toNatClampNeg)) 84 (1 : Int32).toNatClampNeg ((mu M3 83 (1 : Int32).toNatClampNeg (M3 96 (0 : Int32).toNatClampNeg)) 96 (1 : Int32).toNatClampNeg)))))))) ∧ (¬ (M3 96 (1 : Int32).toNatClampNeg) ≤ (39 : Int32) → wX8_item_185 Qb M3))))))))))) ∧ (¬ r2 = (108 : Int32) → ((r2 = (109 : Int32) → (((0 : Int32) = 0 ∨ (0 : Int32) = 1) ∧ Qb (0 : Int32) (mu M1 79 19 ((M1 79 19) + (1 : Int32))))) ∧ (¬ r2 = (109 : Int32) → ((r2 = (110 : Int32) → (wX8_figures (1 : Int32) (mu M1 79 19 ((M1 79 19) + (1 : Int32))) (fun r6 M5 => ((r6 = 0 → wX8_item_99 Qb M5) ∧ (¬ r6 = 0 → (vp_in (0 : Int32) (ln 96) ∧ (wX8_in ((M5 96 (0 : Int32).toNatClampNeg).toInt64) (2 : Int64) (40 : Int64) M5 (fun r8 M7 => ((¬ r8 = 0 → (vp_in (0 : Int32) (ln 96) ∧ (vp_in (1 : Int32) (ln 81) ∧ (((1 : Int32) = 0 ∨ (1 : Int32) = 1) ∧ Qb (1 : Int32) (mu M7 81 (1 : Int32).toNatClampNeg (M7 96 (0 : Int32).toNatClampNeg)))))) ∧ (r8 = 0 → wX8_item_99 Qb M7)))))))))) ∧ (¬ r2 = (110 : Int32) → ((r2 = (111 : Int32) → (((0 : Int32) = 0 ∨ (0 : Int32) = 1) ∧ Qb (0 : Int32) (mu M1 79 19 ((M1 79 19) + (1 : Int32))))) ∧ (¬ r2 = (111 : Int32) → ((r2 = (112 : Int32) → (((0 : Int32) = 0 ∨ (0 : Int32) = 1) ∧ Qb (0 : Int32) (mu M1 79 19 ((M1 79 19) + (1 : Int32))))) ∧ (¬ r2 = (112 : Int32) → ((r2 = (113 : Int32) → (((0 : Int32) = 0 ∨ (0 : Int32) = 1) ∧ Qb (0 : Int32) (mu M1 79 19 ((M1 79 19) + (1 : Int32))))) ∧ (¬ r2 = (113 : Int32) → ((r2 = (114 : Int32) → (wX8_figures (1 : Int32) (mu M1 79 19 ((M1 79 19) + (1 : Int32))) (fun r10 M9 => ((r10 = 0 → wX8_item_140 Qb M9) ∧ (¬ r10 = 0 → (vp_in (0 : Int32) (ln 96) ∧ (wX8_in ((M9 96 (0 : Int32).toNatClampNeg).toInt64) (1 : Int64) (40 : Int64) M9 (fun r12 M11 => ((¬ r12 = 0 → (vp_in (0 : Int32) (ln 96) ∧ (vp_in (1 : Int32) (ln 82) ∧ (((1 : Int32) = 0 ∨ (1 : Int32) = 1) ∧ Qb (1 : Int32) (mu M11 82 (1 : Int32).toNatClampNeg (M11 96 (0 : Int32).toNatClampNeg)))))) ∧ (r12 = 0 → wX8_item_140 Qb M11)))))))))) ∧ (¬ r2 = (114 : Int32) → ((r2 = (115 : Int32) → (wX8_figures (2 : Int32) (mu M1 79 19 ((M1 79 19) + (1 : Int32))) (fun r14 M13 => ((r14 = 0 → wX8_item_254 Qb M13) ∧ (¬ r14 = 0 → (vp_in (0 : Int32) (ln 96) ∧ (((39 : Int32) < (M13 96 (0 : Int32).toNatClampNeg) → wX8_item_254 Qb M13) ∧ (¬ (39 : Int32) < (M13 96 (0 : Int32).toNatClampNeg) → (vp_in (1 : Int32) (ln 96) ∧ (((39 : Int32) < (M13 96 (1 : Int32).toNatClampNeg) → wX8_item_254 Qb M13) ∧ (¬ (39 : Int32) < (M13 96 (1 : Int32).toNatClampNeg) → (vp_in (1 : Int32) (ln 85) ∧ ((¬ (M13 85 (1 : Int32).toNatClampNeg) = (20 : Int32) → (vp_in (1 : Int32) (ln 85) ∧ (vp_in (0 : Int32) (ln 96) ∧ (vp_in ((40 : Int32) + ((2 : Int32) * (M13 85 (1 : Int32).toNatClampNeg))) (ln 86) ∧ (vp_in (1 : Int32) (ln 85) ∧ (vp_in (1 : Int32) (ln 96) ∧ (vp_in ((41 : Int32) + ((2 : Int32) * ((mu M13 86 ((40 : Int32) + ((2 : Int32) * (M13 85 (1 : Int32).toNatClampNeg))).toNatClampNeg (M13 96 (0 : Int32).toNatClampNeg)) 85 (1 : Int32).toNatClampNeg))) (ln 86) ∧ (vp_in (1 : Int32) (ln 85) ∧ (vp_in (1 : Int32) (ln 85) ∧ (((1 : Int32) = 0 ∨ (1 : Int32) = 1) ∧ Qb (1 : Int32) (mu (mu (mu M13 86 ((40 : Int32) + ((2 : Int32) * (M13 85 (1 : Int32).toNatClampNeg))).toNatClampNeg (M13 96 (0 : Int32).toNatClampNeg)) 86 ((41 : Int32) + ((2 : Int32) * ((mu M13 86 ((40 : Int32) + ((2 : Int32) * (M13 85 (1 : Int32).toNatClampNeg))).toNatClampNeg (M13 96 (0 : Int32).toNatClampNeg)) 85 (1 : Int32).toNatClampNeg))).toNatClampNeg ((mu M13 86 ((40 : Int32) + ((2 : Int32) * (M13 85 (1 : Int32).toNatClampNeg))).toNatClampNeg (M13 96 (0 : Int32).toNatClampNeg)) 96 (1 : Int32).toNatClampNeg)) 85 (1 : Int32).toNatClampNeg (((mu (mu M13 86 ((40 : Int32) + ((2 : Int32) * (M13 85 (1 : Int32).toNatClampNeg))).toNatClampNeg (M13 96 (0 : Int32).toNatClampNeg)) 86 ((41 : Int32) + ((2 : Int32) * ((mu M13 86 ((40 : Int32) + ((2 : Int32) * (M13 85 (1 : Int32).toNatClampNeg))).toNatClampNeg (M13 96 (0 : Int32).toNatClampNeg)) 85 (1 : Int32).toNatClampNeg))).toNatClampNeg ((mu M13 86 ((40 : Int32) + ((2 : Int32) * (M13 85 (1 : Int32).toNatClampNeg))).toNatClampNeg (M13 96 (0 : Int32).toNatClampNeg)) 96 (1 : Int32).toNatClampNeg)) 85 (1 : Int32).toNatClampNeg) + (1 : Int32))))))))))))) ∧ ((M13 85 (1 : Int32).toNatClampNeg) = (20 : Int32) → wX8_item_254 Qb M13)))))))))))))) ∧ (¬ r2 = (115 : Int32) → ((r2 = (116 : Int32) → (wX8_figures (1 : Int32) (mu M1 79 19 ((M1 79 19) + (1 : Int32))) (fun r16 M15 => ((r16 = 0 → wX8_item_342 Qb M15) ∧ (¬ r16 = 0 → (vp_in (0 : Int32) (ln 96) ∧ (((39 : Int32) < (M15 96 (0 : Int32).toNatClampNeg) → wX8_item_342 Qb M15) ∧ (¬ (39 : Int32) < (M15 96 (0 : Int32).toNatClampNeg) → (vp_in (1 : Int32) (ln 87) ∧ ((¬ (M15 87 (1 : Int32).toNatClampNeg) = (20 : Int32) → (vp_in (1 : Int32) (ln 87) ∧ (vp_in (0 : Int32) (ln 96) ∧ (vp_in ((20 : Int32) + (M15 87 (1 : Int32).toNatClampNeg)) (ln 88) ∧ (vp_in (1 : Int32) (ln 87) ∧ (vp_in (1 : Int32) (ln 87) ∧ (((1 : Int32) = 0 ∨ (1 : Int32) = 1) ∧ Qb (1 : Int32) (mu (mu M15 88 ((20 : Int32) + (M15 87 (1 : Int32).toNatClampNeg)).toNatClampNeg (M15 96 (0 : Int32).toNatClampNeg)) 87 (1 : Int32).toNatClampNeg (((mu M15 88 ((20 : Int32) + (M15 87 (1 : Int32).toNatClampNeg)).toNatClampNeg (M15 96 (0 : Int32).toNatClampNeg)) 87 (1 : Int32).toNatClampNeg) + (1 : Int32)))))))))) ∧ ((M15 87 (1 : Int32).toNatClampNeg) = (20 : Int32) → wX8_item_342 Qb M15))))))))))) ∧ (¬ r2 = (116 : Int32) → (((0 : Int32) = 0 ∨ (0 : Int32) = 1) ∧ Qb (0 : Int32) (mu M1 79 19 ((M1 79 19) + (1 : Int32)))))))))))))))))))))))) := h2
  obtain ⟨r2, M1, f1, h1, h2, b2⟩ := u_wX8_byteAt (M 79 19) M h1 h2
  have g3 := Fr_tr (Fr_refl (fun i k => 79 ≤ i) M) f1 (fun i k (h : False) => h.elim)
  by_cases hc4 : r2 = (108 : Int32)
  · have h1 := h1.1 hc4
    have h2 := h2.1 hc4
    obtain ⟨r4, M3, f5, h1, h2, b6⟩ := u_wX8_figures (2 : Int32) (mu M1 79 19 ((M1 79 19) + (1 : Int32))) h1 h2
    have g7 := Fr_tr (Fr_mu g3 (show 79 ≤ 79 from by omega)) f5 (fun i k (h : 79 ≤ i) => (show 79 ≤ i from by omega))
    by_cases hc8 : r4 = 0
    · have h1 := h1.1 hc8
      have h2 := h2.1 hc8
      obtain ⟨c13, N14, f11, h1, h2, b12⟩ := u_wX8_item_185 M3 h1 h2
      have hf := Fr_ts g7 f11
      exact ⟨c13, N14, hf, h1, h2, fun Q' hq => b2 _ ⟨fun _ => b6 _ ⟨fun _ => b12 _ hq, fun z => absurd hc8 z⟩, fun z => absurd hc4 z⟩⟩
    · have h1 := h1.2 hc8
      have h2 := h2.2 hc8
      have s15 := h1.1
      have h1 := h1.2
      have h2 := h2.2
      by_cases hc16 : (3 : Int32) < (M3 96 (0 : Int32).toNatClampNeg)
      · have h1 := h1.1 hc16
        have h2 := h2.1 hc16
        obtain ⟨c21, N22, f19, h1, h2, b20⟩ := u_wX8_item_185 M3 h1 h2
        have hf := Fr_ts g7 f19
        exact ⟨c21, N22, hf, h1, h2, fun Q' hq => b2 _ ⟨fun _ => b6 _ ⟨fun z => absurd z hc8, fun _ => ⟨s15, ⟨fun _ => b20 _ hq, fun z => absurd hc16 z⟩⟩⟩, fun z => absurd hc4 z⟩⟩
      · have h1 := h1.2 hc16
        have h2 := h2.2 hc16
        have s23 := h1.1
        have h1 := h1.2
        have h2 := h2.2
        by_cases hc24 : (M3 96 (1 : Int32).toNatClampNeg) ≤ (39 : Int32)
        · have h1 := h1.1 hc24
          have h2 := h2.1 hc24
          have s25 := h1.1
          have h1 := h1.2
          have h2 := h2.2
          have s26 := h1.1
          have h1 := h1.2
          have h2 := h2.2
          have s27 := h1.1
          have h1 := h1.2
          have h2 := h2.2
          have s28 := h1.1
          have h1 := h1.2
          have h2 := h2.2
          have s29 := h1.1
          have h1 := h1.2
          have h2 := h2.2
          exact ⟨(1 : Int32), (mu (mu M3 83 (1 : Int32).toNatClampNeg (M3 96 (0 : Int32).toNatClampNeg)) 84 (1 : Int32).toNatClampNeg ((mu M3 83 (1 : Int32).toNatClampNeg (M3 96 (0 : Int32).toNatClampNeg)) 96 (1 : Int32).toNatClampNeg)), (Fr_mu (Fr_mu g7 (show 79 ≤ 83 from by omega)) (show 79 ≤ 84 from by omega)), h1, h2, fun Q' hq => b2 _ ⟨fun _ => b6 _ ⟨fun z => absurd z hc8, fun _ => ⟨s15, ⟨fun z => absurd z hc16, fun _ => ⟨s23, ⟨fun _ => ⟨s25, ⟨s26, ⟨s27, ⟨s28, ⟨s29, hq⟩⟩⟩⟩⟩, fun z => absurd hc24 z⟩⟩⟩⟩⟩, fun z => absurd hc4 z⟩⟩
        · have h1 := h1.2 hc24
          have h2 := h2.2 hc24
          obtain ⟨c34, N35, f32, h1, h2, b33⟩ := u_wX8_item_185 M3 h1 h2
          have hf := Fr_ts g7 f32
          exact ⟨c34, N35, hf, h1, h2, fun Q' hq => b2 _ ⟨fun _ => b6 _ ⟨fun z => absurd z hc8, fun _ => ⟨s15, ⟨fun z => absurd z hc16, fun _ => ⟨s23, ⟨fun z => absurd z hc24, fun _ => b33 _ hq⟩⟩⟩⟩⟩, fun z => absurd hc4 z⟩⟩
  · have h1 := h1.2 hc4
    have h2 := h2.2 hc4
    by_cases hc36 : r2 = (109 : Int32)
    · have h1 := h1.1 hc36
      have h2 := h2.1 hc36
      have s37 := h1.1
      have h1 := h1.2
      have h2 := h2.2
      exact ⟨(0 : Int32), (mu M1 79 19 ((M1 79 19) + (1 : Int32))), (Fr_mu g3 (show 79 ≤ 79 from by omega)), h1, h2, fun Q' hq => b2 _ ⟨fun z => absurd z hc4, fun _ => ⟨fun _ => ⟨s37, hq⟩, fun z => absurd hc36 z⟩⟩⟩
    · have h1 := h1.2 hc36
      have h2 := h2.2 hc36
      by_cases hc38 : r2 = (110 : Int32)
      · have h1 := h1.1 hc38
        have h2 := h2.1 hc38
        obtain ⟨r6, M5, f39, h1, h2, b40⟩ := u_wX8_figures (1 : Int32) (mu M1 79 19 ((M1 79 19) + (1 : Int32))) h1 h2
        have g41 := Fr_tr (Fr_mu g3 (show 79 ≤ 79 from by omega)) f39 (fun i k (h : 79 ≤ i) => (show 79 ≤ i from by omega))
        by_cases hc42 : r6 = 0
        · have h1 := h1.1 hc42
          have h2 := h2.1 hc42
          obtain ⟨c47, N48, f45, h1, h2, b46⟩ := u_wX8_item_99 M5 h1 h2
          have hf := Fr_ts g41 f45
          exact ⟨c47, N48, hf, h1, h2, fun Q' hq => b2 _ ⟨fun z => absurd z hc4, fun _ => ⟨fun z => absurd z hc36, fun _ => ⟨fun _ => b40 _ ⟨fun _ => b46 _ hq, fun z => absurd hc42 z⟩, fun z => absurd hc38 z⟩⟩⟩⟩
        · have h1 := h1.2 hc42
          have h2 := h2.2 hc42
          have s49 := h1.1
          have h1 := h1.2
          have h2 := h2.2
          obtain ⟨r8, M7, f50, h1, h2, b51⟩ := u_wX8_in ((M5 96 (0 : Int32).toNatClampNeg).toInt64) (2 : Int64) (40 : Int64) M5 h1 h2
          have g52 := Fr_tr g41 f50 (fun i k (h : False) => h.elim)
          by_cases hc53 : r8 = 0
          · have h1 := h1.2 hc53
            have h2 := h2.2 hc53
            obtain ⟨c58, N59, f56, h1, h2, b57⟩ := u_wX8_item_99 M7 h1 h2
            have hf := Fr_ts g52 f56
            exact ⟨c58, N59, hf, h1, h2, fun Q' hq => b2 _ ⟨fun z => absurd z hc4, fun _ => ⟨fun z => absurd z hc36, fun _ => ⟨fun _ => b40 _ ⟨fun z => absurd z hc42, fun _ => ⟨s49, b51 _ ⟨fun z => absurd hc53 z, fun _ => b57 _ hq⟩⟩⟩, fun z => absurd hc38 z⟩⟩⟩⟩
          · have h1 := h1.1 hc53
            have h2 := h2.1 hc53
            have s60 := h1.1
            have h1 := h1.2
            have h2 := h2.2
            have s61 := h1.1
            have h1 := h1.2
            have h2 := h2.2
            have s62 := h1.1
            have h1 := h1.2
            have h2 := h2.2
            exact ⟨(1 : Int32), (mu M7 81 (1 : Int32).toNatClampNeg (M7 96 (0 : Int32).toNatClampNeg)), (Fr_mu g52 (show 79 ≤ 81 from by omega)), h1, h2, fun Q' hq => b2 _ ⟨fun z => absurd z hc4, fun _ => ⟨fun z => absurd z hc36, fun _ => ⟨fun _ => b40 _ ⟨fun z => absurd z hc42, fun _ => ⟨s49, b51 _ ⟨fun _ => ⟨s60, ⟨s61, ⟨s62, hq⟩⟩⟩, fun z => absurd z hc53⟩⟩⟩, fun z => absurd hc38 z⟩⟩⟩⟩
      · have h1 := h1.2 hc38
        have h2 := h2.2 hc38
        by_cases hc63 : r2 = (111 : Int32)
        · have h1 := h1.1 hc63
          have h2 := h2.1 hc63
          have s64 := h1.1
          have h1 := h1.2
          have h2 := h2.2
          exact ⟨(0 : Int32), (mu M1 79 19 ((M1 79 19) + (1 : Int32))), (Fr_mu g3 (show 79 ≤ 79 from by omega)), h1, h2, fun Q' hq => b2 _ ⟨fun z => absurd z hc4, fun _ => ⟨fun z => absurd z hc36, fun _ => ⟨fun z => absurd z hc38, fun _ => ⟨fun _ => ⟨s64, hq⟩, fun z => absurd hc63 z⟩⟩⟩⟩⟩
        · have h1 := h1.2 hc63
          have h2 := h2.2 hc63
          by_cases hc65 : r2 = (112 : Int32)
          · have h1 := h1.1 hc65
            have h2 := h2.1 hc65
            have s66 := h1.1
            have h1 := h1.2
            have h2 := h2.2
            exact ⟨(0 : Int32), (mu M1 79 19 ((M1 79 19) + (1 : Int32))), (Fr_mu g3 (show 79 ≤ 79 from by omega)), h1, h2, fun Q' hq => b2 _ ⟨fun z => absurd z hc4, fun _ => ⟨fun z => absurd z hc36, fun _ => ⟨fun z => absurd z hc38, fun _ => ⟨fun z => absurd z hc63, fun _ => ⟨fun _ => ⟨s66, hq⟩, fun z => absurd hc65 z⟩⟩⟩⟩⟩⟩
          · have h1 := h1.2 hc65
            have h2 := h2.2 hc65
            by_cases hc67 : r2 = (113 : Int32)
            · have h1 := h1.1 hc67
              have h2 := h2.1 hc67
              have s68 := h1.1
              have h1 := h1.2
              have h2 := h2.2
              exact ⟨(0 : Int32), (mu M1 79 19 ((M1 79 19) + (1 : Int32))), (Fr_mu g3 (show 79 ≤ 79 from by omega)), h1, h2, fun Q' hq => b2 _ ⟨fun z => absurd z hc4, fun _ => ⟨fun z => absurd z hc36, fun _ => ⟨fun z => absurd z hc38, fun _ => ⟨fun z => absurd z hc63, fun _ => ⟨fun z => absurd z hc65, fun _ => ⟨fun _ => ⟨s68, hq⟩, fun z => absurd hc67 z⟩⟩⟩⟩⟩⟩⟩
            · have h1 := h1.2 hc67
              have h2 := h2.2 hc67
              by_cases hc69 : r2 = (114 : Int32)
              · have h1 := h1.1 hc69
                have h2 := h2.1 hc69
                obtain ⟨r10, M9, f70, h1, h2, b71⟩ := u_wX8_figures (1 : Int32) (mu M1 79 19 ((M1 79 19) + (1 : Int32))) h1 h2
                have g72 := Fr_tr (Fr_mu g3 (show 79 ≤ 79 from by omega)) f70 (fun i k (h : 79 ≤ i) => (show 79 ≤ i from by omega))
                by_cases hc73 : r10 = 0
                · have h1 := h1.1 hc73
                  have h2 := h2.1 hc73
                  obtain ⟨c78, N79, f76, h1, h2, b77⟩ := u_wX8_item_140 M9 h1 h2
                  have hf := Fr_ts g72 f76
                  exact ⟨c78, N79, hf, h1, h2, fun Q' hq => b2 _ ⟨fun z => absurd z hc4, fun _ => ⟨fun z => absurd z hc36, fun _ => ⟨fun z => absurd z hc38, fun _ => ⟨fun z => absurd z hc63, fun _ => ⟨fun z => absurd z hc65, fun _ => ⟨fun z => absurd z hc67, fun _ => ⟨fun _ => b71 _ ⟨fun _ => b77 _ hq, fun z => absurd hc73 z⟩, fun z => absurd hc69 z⟩⟩⟩⟩⟩⟩⟩⟩
                · have h1 := h1.2 hc73
                  have h2 := h2.2 hc73
                  have s80 := h1.1
                  have h1 := h1.2
                  have h2 := h2.2
                  obtain ⟨r12, M11, f81, h1, h2, b82⟩ := u_wX8_in ((M9 96 (0 : Int32).toNatClampNeg).toInt64) (1 : Int64) (40 : Int64) M9 h1 h2
                  have g83 := Fr_tr g72 f81 (fun i k (h : False) => h.elim)
                  by_cases hc84 : r12 = 0
                  · have h1 := h1.2 hc84
                    have h2 := h2.2 hc84
                    obtain ⟨c89, N90, f87, h1, h2, b88⟩ := u_wX8_item_140 M11 h1 h2
                    have hf := Fr_ts g83 f87
                    exact ⟨c89, N90, hf, h1, h2, fun Q' hq => b2 _ ⟨fun z => absurd z hc4, fun _ => ⟨fun z => absurd z hc36, fun _ => ⟨fun z => absurd z hc38, fun _ => ⟨fun z => absurd z hc63, fun _ => ⟨fun z => absurd z hc65, fun _ => ⟨fun z => absurd z hc67, fun _ => ⟨fun _ => b71 _ ⟨fun z => absurd z hc73, fun _ => ⟨s80, b82 _ ⟨fun z => absurd hc84 z, fun _ => b88 _ hq⟩⟩⟩, fun z => absurd hc69 z⟩⟩⟩⟩⟩⟩⟩⟩
                  · have h1 := h1.1 hc84
                    have h2 := h2.1 hc84
                    have s91 := h1.1
                    have h1 := h1.2
                    have h2 := h2.2
                    have s92 := h1.1
                    have h1 := h1.2
                    have h2 := h2.2
                    have s93 := h1.1
                    have h1 := h1.2
                    have h2 := h2.2
                    exact ⟨(1 : Int32), (mu M11 82 (1 : Int32).toNatClampNeg (M11 96 (0 : Int32).toNatClampNeg)), (Fr_mu g83 (show 79 ≤ 82 from by omega)), h1, h2, fun Q' hq => b2 _ ⟨fun z => absurd z hc4, fun _ => ⟨fun z => absurd z hc36, fun _ => ⟨fun z => absurd z hc38, fun _ => ⟨fun z => absurd z hc63, fun _ => ⟨fun z => absurd z hc65, fun _ => ⟨fun z => absurd z hc67, fun _ => ⟨fun _ => b71 _ ⟨fun z => absurd z hc73, fun _ => ⟨s80, b82 _ ⟨fun _ => ⟨s91, ⟨s92, ⟨s93, hq⟩⟩⟩, fun z => absurd z hc84⟩⟩⟩, fun z => absurd hc69 z⟩⟩⟩⟩⟩⟩⟩⟩
              · have h1 := h1.2 hc69
                have h2 := h2.2 hc69
                by_cases hc94 : r2 = (115 : Int32)
                · have h1 := h1.1 hc94
                  have h2 := h2.1 hc94
                  obtain ⟨r14, M13, f95, h1, h2, b96⟩ := u_wX8_figures (2 : Int32) (mu M1 79 19 ((M1 79 19) + (1 : Int32))) h1 h2
                  have g97 := Fr_tr (Fr_mu g3 (show 79 ≤ 79 from by omega)) f95 (fun i k (h : 79 ≤ i) => (show 79 ≤ i from by omega))
                  by_cases hc98 : r14 = 0
                  · have h1 := h1.1 hc98
                    have h2 := h2.1 hc98
                    obtain ⟨c103, N104, f101, h1, h2, b102⟩ := u_wX8_item_254 M13 h1 h2
                    have hf := Fr_ts g97 f101
                    exact ⟨c103, N104, hf, h1, h2, fun Q' hq => b2 _ ⟨fun z => absurd z hc4, fun _ => ⟨fun z => absurd z hc36, fun _ => ⟨fun z => absurd z hc38, fun _ => ⟨fun z => absurd z hc63, fun _ => ⟨fun z => absurd z hc65, fun _ => ⟨fun z => absurd z hc67, fun _ => ⟨fun z => absurd z hc69, fun _ => ⟨fun _ => b96 _ ⟨fun _ => b102 _ hq, fun z => absurd hc98 z⟩, fun z => absurd hc94 z⟩⟩⟩⟩⟩⟩⟩⟩⟩
                  · have h1 := h1.2 hc98
                    have h2 := h2.2 hc98
                    have s105 := h1.1
                    have h1 := h1.2
                    have h2 := h2.2
                    by_cases hc106 : (39 : Int32) < (M13 96 (0 : Int32).toNatClampNeg)
                    · have h1 := h1.1 hc106
                      have h2 := h2.1 hc106
                      obtain ⟨c111, N112, f109, h1, h2, b110⟩ := u_wX8_item_254 M13 h1 h2
                      have hf := Fr_ts g97 f109
                      exact ⟨c111, N112, hf, h1, h2, fun Q' hq => b2 _ ⟨fun z => absurd z hc4, fun _ => ⟨fun z => absurd z hc36, fun _ => ⟨fun z => absurd z hc38, fun _ => ⟨fun z => absurd z hc63, fun _ => ⟨fun z => absurd z hc65, fun _ => ⟨fun z => absurd z hc67, fun _ => ⟨fun z => absurd z hc69, fun _ => ⟨fun _ => b96 _ ⟨fun z => absurd z hc98, fun _ => ⟨s105, ⟨fun _ => b110 _ hq, fun z => absurd hc106 z⟩⟩⟩, fun z => absurd hc94 z⟩⟩⟩⟩⟩⟩⟩⟩⟩
                    · have h1 := h1.2 hc106
                      have h2 := h2.2 hc106
                      have s113 := h1.1
                      have h1 := h1.2
                      have h2 := h2.2
                      by_cases hc114 : (39 : Int32) < (M13 96 (1 : Int32).toNatClampNeg)
                      · have h1 := h1.1 hc114
                        have h2 := h2.1 hc114
                        obtain ⟨c119, N120, f117, h1, h2, b118⟩ := u_wX8_item_254 M13 h1 h2
                        have hf := Fr_ts g97 f117
                        exact ⟨c119, N120, hf, h1, h2, fun Q' hq => b2 _ ⟨fun z => absurd z hc4, fun _ => ⟨fun z => absurd z hc36, fun _ => ⟨fun z => absurd z hc38, fun _ => ⟨fun z => absurd z hc63, fun _ => ⟨fun z => absurd z hc65, fun _ => ⟨fun z => absurd z hc67, fun _ => ⟨fun z => absurd z hc69, fun _ => ⟨fun _ => b96 _ ⟨fun z => absurd z hc98, fun _ => ⟨s105, ⟨fun z => absurd z hc106, fun _ => ⟨s113, ⟨fun _ => b118 _ hq, fun z => absurd hc114 z⟩⟩⟩⟩⟩, fun z => absurd hc94 z⟩⟩⟩⟩⟩⟩⟩⟩⟩
                      · have h1 := h1.2 hc114
                        have h2 := h2.2 hc114
                        have s121 := h1.1
                        have h1 := h1.2
                        have h2 := h2.2
                        by_cases hc122 : (M13 85 (1 : Int32).toNatClampNeg) = (20 : Int32)
                        · have h1 := h1.2 hc122
                          have h2 := h2.2 hc122
                          obtain ⟨c127, N128, f125, h1, h2, b126⟩ := u_wX8_item_254 M13 h1 h2
                          have hf := Fr_ts g97 f125
                          exact ⟨c127, N128, hf, h1, h2, fun Q' hq => b2 _ ⟨fun z => absurd z hc4, fun _ => ⟨fun z => absurd z hc36, fun _ => ⟨fun z => absurd z hc38, fun _ => ⟨fun z => absurd z hc63, fun _ => ⟨fun z => absurd z hc65, fun _ => ⟨fun z => absurd z hc67, fun _ => ⟨fun z => absurd z hc69, fun _ => ⟨fun _ => b96 _ ⟨fun z => absurd z hc98, fun _ => ⟨s105, ⟨fun z => absurd z hc106, fun _ => ⟨s113, ⟨fun z => absurd z hc114, fun _ => ⟨s121, ⟨fun z => absurd hc122 z, fun _ => b126 _ hq⟩⟩⟩⟩⟩⟩⟩, fun z => absurd hc94 z⟩⟩⟩⟩⟩⟩⟩⟩⟩
                        · have h1 := h1.1 hc122
                          have h2 := h2.1 hc122
                          have s129 := h1.1
                          have h1 := h1.2
                          have h2 := h2.2
                          have s130 := h1.1
                          have h1 := h1.2
                          have h2 := h2.2
                          have s131 := h1.1
                          have h1 := h1.2
                          have h2 := h2.2
                          have s132 := h1.1
                          have h1 := h1.2
                          have h2 := h2.2
                          have s133 := h1.1
                          have h1 := h1.2
                          have h2 := h2.2
                          have s134 := h1.1
                          have h1 := h1.2
                          have h2 := h2.2
                          have s135 := h1.1
                          have h1 := h1.2
                          have h2 := h2.2
                          have s136 := h1.1
                          have h1 := h1.2
                          have h2 := h2.2
                          have s137 := h1.1
                          have h1 := h1.2
                          have h2 := h2.2
                          exact ⟨(1 : Int32), (mu (mu (mu M13 86 ((40 : Int32) + ((2 : Int32) * (M13 85 (1 : Int32).toNatClampNeg))).toNatClampNeg (M13 96 (0 : Int32).toNatClampNeg)) 86 ((41 : Int32) + ((2 : Int32) * ((mu M13 86 ((40 : Int32) + ((2 : Int32) * (M13 85 (1 : Int32).toNatClampNeg))).toNatClampNeg (M13 96 (0 : Int32).toNatClampNeg)) 85 (1 : Int32).toNatClampNeg))).toNatClampNeg ((mu M13 86 ((40 : Int32) + ((2 : Int32) * (M13 85 (1 : Int32).toNatClampNeg))).toNatClampNeg (M13 96 (0 : Int32).toNatClampNeg)) 96 (1 : Int32).toNatClampNeg)) 85 (1 : Int32).toNatClampNeg (((mu (mu M13 86 ((40 : Int32) + ((2 : Int32) * (M13 85 (1 : Int32).toNatClampNeg))).toNatClampNeg (M13 96 (0 : Int32).toNatClampNeg)) 86 ((41 : Int32) + ((2 : Int32) * ((mu M13 86 ((40 : Int32) + ((2 : Int32) * (M13 85 (1 : Int32).toNatClampNeg))).toNatClampNeg (M13 96 (0 : Int32).toNatClampNeg)) 85 (1 : Int32).toNatClampNeg))).toNatClampNeg ((mu M13 86 ((40 : Int32) + ((2 : Int32) * (M13 85 (1 : Int32).toNatClampNeg))).toNatClampNeg (M13 96 (0 : Int32).toNatClampNeg)) 96 (1 : Int32).toNatClampNeg)) 85 (1 : Int32).toNatClampNeg) + (1 : Int32))), (Fr_mu (Fr_mu (Fr_mu g97 (show 79 ≤ 86 from by omega)) (show 79 ≤ 86 from by omega)) (show 79 ≤ 85 from by omega)), h1, h2, fun Q' hq => b2 _ ⟨fun z => absurd z hc4, fun _ => ⟨fun z => absurd z hc36, fun _ => ⟨fun z => absurd z hc38, fun _ => ⟨fun z => absurd z hc63, fun _ => ⟨fun z => absurd z hc65, fun _ => ⟨fun z => absurd z hc67, fun _ => ⟨fun z => absurd z hc69, fun _ => ⟨fun _ => b96 _ ⟨fun z => absurd z hc98, fun _ => ⟨s105, ⟨fun z => absurd z hc106, fun _ => ⟨s113, ⟨fun z => absurd z hc114, fun _ => ⟨s121, ⟨fun _ => ⟨s129, ⟨s130, ⟨s131, ⟨s132, ⟨s133, ⟨s134, ⟨s135, ⟨s136, ⟨s137, hq⟩⟩⟩⟩⟩⟩⟩⟩⟩, fun z => absurd z hc122⟩⟩⟩⟩⟩⟩⟩, fun z => absurd hc94 z⟩⟩⟩⟩⟩⟩⟩⟩⟩
                · have h1 := h1.2 hc94
                  have h2 := h2.2 hc94
                  by_cases hc138 : r2 = (116 : Int32)
                  · have h1 := h1.1 hc138
                    have h2 := h2.1 hc138
                    obtain ⟨r16, M15, f139, h1, h2, b140⟩ := u_wX8_figures (1 : Int32) (mu M1 79 19 ((M1 79 19) + (1 : Int32))) h1 h2
                    have g141 := Fr_tr (Fr_mu g3 (show 79 ≤ 79 from by omega)) f139 (fun i k (h : 79 ≤ i) => (show 79 ≤ i from by omega))
                    by_cases hc142 : r16 = 0
                    · have h1 := h1.1 hc142
                      have h2 := h2.1 hc142
                      obtain ⟨c147, N148, f145, h1, h2, b146⟩ := u_wX8_item_342 M15 h1 h2
                      have hf := Fr_ts g141 f145
                      exact ⟨c147, N148, hf, h1, h2, fun Q' hq => b2 _ ⟨fun z => absurd z hc4, fun _ => ⟨fun z => absurd z hc36, fun _ => ⟨fun z => absurd z hc38, fun _ => ⟨fun z => absurd z hc63, fun _ => ⟨fun z => absurd z hc65, fun _ => ⟨fun z => absurd z hc67, fun _ => ⟨fun z => absurd z hc69, fun _ => ⟨fun z => absurd z hc94, fun _ => ⟨fun _ => b140 _ ⟨fun _ => b146 _ hq, fun z => absurd hc142 z⟩, fun z => absurd hc138 z⟩⟩⟩⟩⟩⟩⟩⟩⟩⟩
                    · have h1 := h1.2 hc142
                      have h2 := h2.2 hc142
                      have s149 := h1.1
                      have h1 := h1.2
                      have h2 := h2.2
                      by_cases hc150 : (39 : Int32) < (M15 96 (0 : Int32).toNatClampNeg)
                      · have h1 := h1.1 hc150
                        have h2 := h2.1 hc150
                        obtain ⟨c155, N156, f153, h1, h2, b154⟩ := u_wX8_item_342 M15 h1 h2
                        have hf := Fr_ts g141 f153
                        exact ⟨c155, N156, hf, h1, h2, fun Q' hq => b2 _ ⟨fun z => absurd z hc4, fun _ => ⟨fun z => absurd z hc36, fun _ => ⟨fun z => absurd z hc38, fun _ => ⟨fun z => absurd z hc63, fun _ => ⟨fun z => absurd z hc65, fun _ => ⟨fun z => absurd z hc67, fun _ => ⟨fun z => absurd z hc69, fun _ => ⟨fun z => absurd z hc94, fun _ => ⟨fun _ => b140 _ ⟨fun z => absurd z hc142, fun _ => ⟨s149, ⟨fun _ => b154 _ hq, fun z => absurd hc150 z⟩⟩⟩, fun z => absurd hc138 z⟩⟩⟩⟩⟩⟩⟩⟩⟩⟩
                      · have h1 := h1.2 hc150
                        have h2 := h2.2 hc150
                        have s157 := h1.1
                        have h1 := h1.2
                        have h2 := h2.2
                        by_cases hc158 : (M15 87 (1 : Int32).toNatClampNeg) = (20 : Int32)
                        · have h1 := h1.2 hc158
                          have h2 := h2.2 hc158
                          obtain ⟨c163, N164, f161, h1, h2, b162⟩ := u_wX8_item_342 M15 h1 h2
                          have hf := Fr_ts g141 f161
                          exact ⟨c163, N164, hf, h1, h2, fun Q' hq => b2 _ ⟨fun z => absurd z hc4, fun _ => ⟨fun z => absurd z hc36, fun _ => ⟨fun z => absurd z hc38, fun _ => ⟨fun z => absurd z hc63, fun _ => ⟨fun z => absurd z hc65, fun _ => ⟨fun z => absurd z hc67, fun _ => ⟨fun z => absurd z hc69, fun _ => ⟨fun z => absurd z hc94, fun _ => ⟨fun _ => b140 _ ⟨fun z => absurd z hc142, fun _ => ⟨s149, ⟨fun z => absurd z hc150, fun _ => ⟨s157, ⟨fun z => absurd hc158 z, fun _ => b162 _ hq⟩⟩⟩⟩⟩, fun z => absurd hc138 z⟩⟩⟩⟩⟩⟩⟩⟩⟩⟩
                        · have h1 := h1.1 hc158
                          have h2 := h2.1 hc158
                          have s165 := h1.1
                          have h1 := h1.2
                          have h2 := h2.2
                          have s166 := h1.1
                          have h1 := h1.2
                          have h2 := h2.2
                          have s167 := h1.1
                          have h1 := h1.2
                          have h2 := h2.2
                          have s168 := h1.1
                          have h1 := h1.2
                          have h2 := h2.2
                          have s169 := h1.1
                          have h1 := h1.2
                          have h2 := h2.2
                          have s170 := h1.1
                          have h1 := h1.2
                          have h2 := h2.2
                          exact ⟨(1 : Int32), (mu (mu M15 88 ((20 : Int32) + (M15 87 (1 : Int32).toNatClampNeg)).toNatClampNeg (M15 96 (0 : Int32).toNatClampNeg)) 87 (1 : Int32).toNatClampNeg (((mu M15 88 ((20 : Int32) + (M15 87 (1 : Int32).toNatClampNeg)).toNatClampNeg (M15 96 (0 : Int32).toNatClampNeg)) 87 (1 : Int32).toNatClampNeg) + (1 : Int32))), (Fr_mu (Fr_mu g141 (show 79 ≤ 88 from by omega)) (show 79 ≤ 87 from by omega)), h1, h2, fun Q' hq => b2 _ ⟨fun z => absurd z hc4, fun _ => ⟨fun z => absurd z hc36, fun _ => ⟨fun z => absurd z hc38, fun _ => ⟨fun z => absurd z hc63, fun _ => ⟨fun z => absurd z hc65, fun _ => ⟨fun z => absurd z hc67, fun _ => ⟨fun z => absurd z hc69, fun _ => ⟨fun z => absurd z hc94, fun _ => ⟨fun _ => b140 _ ⟨fun z => absurd z hc142, fun _ => ⟨s149, ⟨fun z => absurd z hc150, fun _ => ⟨s157, ⟨fun _ => ⟨s165, ⟨s166, ⟨s167, ⟨s168, ⟨s169, ⟨s170, hq⟩⟩⟩⟩⟩⟩, fun z => absurd z hc158⟩⟩⟩⟩⟩, fun z => absurd hc138 z⟩⟩⟩⟩⟩⟩⟩⟩⟩⟩
                  · have h1 := h1.2 hc138
                    have h2 := h2.2 hc138
                    have s171 := h1.1
                    have h1 := h1.2
                    have h2 := h2.2
                    exact ⟨(0 : Int32), (mu M1 79 19 ((M1 79 19) + (1 : Int32))), (Fr_mu g3 (show 79 ≤ 79 from by omega)), h1, h2, fun Q' hq => b2 _ ⟨fun z => absurd z hc4, fun _ => ⟨fun z => absurd z hc36, fun _ => ⟨fun z => absurd z hc38, fun _ => ⟨fun z => absurd z hc63, fun _ => ⟨fun z => absurd z hc65, fun _ => ⟨fun z => absurd z hc67, fun _ => ⟨fun z => absurd z hc69, fun _ => ⟨fun z => absurd z hc94, fun _ => ⟨fun z => absurd z hc138, fun _ => ⟨s171, hq⟩⟩⟩⟩⟩⟩⟩⟩⟩⟩⟩
set_option maxHeartbeats 4000000 in
theorem u_wX8_readAll_10 {Qa Qb : Int32 → Mem → Prop} : ∀ (n1 n2 : Nat) (M : Mem), wX8_readAll_10 Qa n1 M → wX8_readAll_10 Qb n2 M → (∃ (a0 : Int32) (M' : Mem), Fr (fun i k => 79 ≤ i) M M' ∧ Qa a0 M' ∧ Qb a0 M' ∧ ∀ (Q' : Int32 → Mem → Prop), Q' a0 M' → wX8_readAll_10 Q' n1 M) := by
  intro n1
  induction n1 with
  | zero => intro _ _ h1 _; exact h1.elim
  | succ n ih =>
    intro n2 M h1 h2
    cases n2 with
    | zero => exact h2.elim
    | succ m =>
      have h1 : (((M 79 0) ≤ (M 79 19) → Qa (-4 : Int32) M) ∧ (¬ (M 79 0) ≤ (M 79 19) → (wX8_item M (fun r4 M3 => ((¬ r4 = 0 → wX8_readAll_10 Qa n M3) ∧ (r4 = 0 → Qa (M 79 19) M3)))))) := h1
      have h2 : (((M 79 0) ≤ (M 79 19) → Qb (-4 : Int32) M) ∧ (¬ (M 79 0) ≤ (M 79 19) → (wX8_item M (fun r4 M3 => ((¬ r4 = 0 → wX8_readAll_10 Qb m M3) ∧ (r4 = 0 → Qb (M 79 19) M3)))))) := h2
      by_cases hc1 : (M 79 0) ≤ (M 79 19)
      · have h1 := h1.1 hc1
        have h2 := h2.1 hc1
        exact ⟨(-4 : Int32), M, (Fr_refl (fun i k => 79 ≤ i) M), h1, h2, fun Q' hq => ⟨fun _ => hq, fun z => absurd hc1 z⟩⟩
      · have h1 := h1.2 hc1
        have h2 := h2.2 hc1
        obtain ⟨r4, M3, f2, h1, h2, b3⟩ := u_wX8_item M h1 h2
        have g4 := Fr_tr (Fr_refl (fun i k => 79 ≤ i) M) f2 (fun i k (h : 79 ≤ i) => (show 79 ≤ i from by omega))
        by_cases hc5 : r4 = 0
        · have h1 := h1.2 hc5
          have h2 := h2.2 hc5
          exact ⟨(M 79 19), M3, g4, h1, h2, fun Q' hq => ⟨fun z => absurd z hc1, fun _ => b3 _ ⟨fun z => absurd hc5 z, fun _ => hq⟩⟩⟩
        · have h1 := h1.1 hc5
          have h2 := h2.1 hc5
          obtain ⟨c10, N11, f8, h1, h2, b9⟩ := ih m M3 h1 h2
          have hf := Fr_ts g4 f8
          exact ⟨c10, N11, hf, h1, h2, fun Q' hq => ⟨fun z => absurd z hc1, fun _ => b3 _ ⟨fun _ => b9 _ hq, fun z => absurd z hc5⟩⟩⟩
set_option maxHeartbeats 4000000 in
theorem u_wX8_readAll {Qa Qb : Int32 → Mem → Prop} (M : Mem) (h1 : wX8_readAll M Qa) (h2 : wX8_readAll M Qb) : (∃ (a0 : Int32) (M' : Mem), Fr (fun i k => 79 ≤ i) M M' ∧ Qa a0 M' ∧ Qb a0 M' ∧ ∀ (Q' : Int32 → Mem → Prop), Q' a0 M' → wX8_readAll M Q') := by
  have h1 : (wX8_noBook (1 : Int32) M (fun M1 => (∃ n2, wX8_readAll_10 Qa n2 (mu M1 79 19 (0 : Int32))))) := h1
  have h2 : (wX8_noBook (1 : Int32) M (fun M1 => (∃ n2, wX8_readAll_10 Qb n2 (mu M1 79 19 (0 : Int32))))) := h2
  obtain ⟨M1, f1, h1, h2, b2⟩ := u_wX8_noBook (1 : Int32) M h1 h2
  have g3 := Fr_tr (Fr_refl (fun i k => 79 ≤ i) M) f1 (fun i k (h : 79 ≤ i) => (show 79 ≤ i from by omega))
  obtain ⟨n2_a, h1⟩ := h1
  obtain ⟨n2_b, h2⟩ := h2
  obtain ⟨c8, N9, f6, h1, h2, b7⟩ := u_wX8_readAll_10 n2_a n2_b (mu M1 79 19 (0 : Int32)) h1 h2
  have hf := Fr_ts (Fr_mu g3 (show 79 ≤ 79 from by omega)) f6
  exact ⟨c8, N9, hf, h1, h2, fun Q' hq => b2 _ ⟨n2_a, b7 _ hq⟩⟩
set_option maxHeartbeats 4000000 in
theorem u_wX8_fault {Qa Qb : Int32 → Mem → Prop} (M : Mem) (h1 : wX8_fault M Qa) (h2 : wX8_fault M Qb) : (∃ (a0 : Int32) (M' : Mem), Fr (fun i k => 79 ≤ i) M M' ∧ Qa a0 M' ∧ Qb a0 M' ∧ ∀ (Q' : Int32 → Mem → Prop), Q' a0 M' → wX8_fault M Q') := by
  have h1 : (wX8_readAll M (fun r2 M1 => Qa r2 M1)) := h1
  have h2 : (wX8_readAll M (fun r2 M1 => Qb r2 M1)) := h2
  obtain ⟨r2, M1, f1, h1, h2, b2⟩ := u_wX8_readAll M h1 h2
  have g3 := Fr_tr (Fr_refl (fun i k => 79 ≤ i) M) f1 (fun i k (h : 79 ≤ i) => (show 79 ≤ i from by omega))
  exact ⟨r2, M1, g3, h1, h2, fun Q' hq => b2 _ hq⟩
set_option maxHeartbeats 4000000 in
theorem u_wX8_areBelow_43 {k_4a k_4b : Int32 → Int32 → Mem → Prop} {Qa Qb : Int32 → Mem → Prop} (v2 : Int32) (s0 : Int32) (M : Mem) (h1 : wX8_areBelow_43 k_4a Qa v2 s0 M) (h2 : wX8_areBelow_43 k_4b Qb v2 s0 M) : (∃ (a0 : Int32) (M' : Mem), Fr (fun i k => False) M M' ∧ Qa a0 M' ∧ Qb a0 M' ∧ ∀ (k'0 : Int32 → Int32 → Mem → Prop) (Q' : Int32 → Mem → Prop), Q' a0 M' → wX8_areBelow_43 k'0 Q' v2 s0 M) ∨ (∃ (a0 : Int32) (a1 : Int32) (M' : Mem), Fr (fun i k => False) M M' ∧ k_4a a0 a1 M' ∧ k_4b a0 a1 M' ∧ ∀ (k'0 : Int32 → Int32 → Mem → Prop) (Q' : Int32 → Mem → Prop), k'0 a0 a1 M' → wX8_areBelow_43 k'0 Q' v2 s0 M) := by
  have h1 : k_4a s0 (v2 + (1 : Int32)) M := h1
  have h2 : k_4b s0 (v2 + (1 : Int32)) M := h2
  exact Or.inr ⟨s0, (v2 + (1 : Int32)), M, (Fr_refl (fun i k => False) M), h1, h2, fun k'0 Q' hq => hq⟩
set_option maxHeartbeats 4000000 in
theorem u_wX8_areBelow_42 {k_4a k_4b : Int32 → Int32 → Mem → Prop} {Qa Qb : Int32 → Mem → Prop} (v2 : Int32) (M : Mem) (h1 : wX8_areBelow_42 k_4a Qa v2 M) (h2 : wX8_areBelow_42 k_4b Qb v2 M) : (∃ (a0 : Int32) (M' : Mem), Fr (fun i k => False) M M' ∧ Qa a0 M' ∧ Qb a0 M' ∧ ∀ (k'0 : Int32 → Int32 → Mem → Prop) (Q' : Int32 → Mem → Prop), Q' a0 M' → wX8_areBelow_42 k'0 Q' v2 M) ∨ (∃ (a0 : Int32) (a1 : Int32) (M' : Mem), Fr (fun i k => False) M M' ∧ k_4a a0 a1 M' ∧ k_4b a0 a1 M' ∧ ∀ (k'0 : Int32 → Int32 → Mem → Prop) (Q' : Int32 → Mem → Prop), k'0 a0 a1 M' → wX8_areBelow_42 k'0 Q' v2 M) := by
  have h1 : wX8_areBelow_43 (k_4a) Qa v2 (0 : Int32) M := h1
  have h2 : wX8_areBelow_43 (k_4b) Qb v2 (0 : Int32) M := h2
  rcases u_wX8_areBelow_43 v2 (0 : Int32) M h1 h2 with ⟨c5, N6, f3, h1, h2, b4⟩ | ⟨c7, c8, N9, f3, h1, h2, b4⟩
  · have hf := Fr_ts (Fr_refl (fun i k => False) M) f3
    exact Or.inl ⟨c5, N6, hf, h1, h2, fun k'0 Q' hq => b4 _ _ hq⟩
  · have hf := Fr_ts (Fr_refl (fun i k => False) M) f3
    exact Or.inr ⟨c7, c8, N9, hf, h1, h2, fun k'0 Q' hq => b4 _ _ hq⟩
set_option maxHeartbeats 4000000 in
theorem u_wX8_areBelow_89 {k_52a k_52b : Int32 → Int32 → Mem → Prop} {Qa Qb : Int32 → Mem → Prop} (v2 : Int32) (s0 : Int32) (M : Mem) (h1 : wX8_areBelow_89 k_52a Qa v2 s0 M) (h2 : wX8_areBelow_89 k_52b Qb v2 s0 M) : (∃ (a0 : Int32) (M' : Mem), Fr (fun i k => False) M M' ∧ Qa a0 M' ∧ Qb a0 M' ∧ ∀ (k'0 : Int32 → Int32 → Mem → Prop) (Q' : Int32 → Mem → Prop), Q' a0 M' → wX8_areBelow_89 k'0 Q' v2 s0 M) ∨ (∃ (a0 : Int32) (a1 : Int32) (M' : Mem), Fr (fun i k => False) M M' ∧ k_52a a0 a1 M' ∧ k_52b a0 a1 M' ∧ ∀ (k'0 : Int32 → Int32 → Mem → Prop) (Q' : Int32 → Mem → Prop), k'0 a0 a1 M' → wX8_areBelow_89 k'0 Q' v2 s0 M) := by
  have h1 : k_52a s0 (v2 + (1 : Int32)) M := h1
  have h2 : k_52b s0 (v2 + (1 : Int32)) M := h2
  exact Or.inr ⟨s0, (v2 + (1 : Int32)), M, (Fr_refl (fun i k => False) M), h1, h2, fun k'0 Q' hq => hq⟩
set_option maxHeartbeats 4000000 in
theorem u_wX8_areBelow_88 {k_52a k_52b : Int32 → Int32 → Mem → Prop} {Qa Qb : Int32 → Mem → Prop} (v2 : Int32) (M : Mem) (h1 : wX8_areBelow_88 k_52a Qa v2 M) (h2 : wX8_areBelow_88 k_52b Qb v2 M) : (∃ (a0 : Int32) (M' : Mem), Fr (fun i k => False) M M' ∧ Qa a0 M' ∧ Qb a0 M' ∧ ∀ (k'0 : Int32 → Int32 → Mem → Prop) (Q' : Int32 → Mem → Prop), Q' a0 M' → wX8_areBelow_88 k'0 Q' v2 M) ∨ (∃ (a0 : Int32) (a1 : Int32) (M' : Mem), Fr (fun i k => False) M M' ∧ k_52a a0 a1 M' ∧ k_52b a0 a1 M' ∧ ∀ (k'0 : Int32 → Int32 → Mem → Prop) (Q' : Int32 → Mem → Prop), k'0 a0 a1 M' → wX8_areBelow_88 k'0 Q' v2 M) := by
  have h1 : wX8_areBelow_89 (k_52a) Qa v2 (0 : Int32) M := h1
  have h2 : wX8_areBelow_89 (k_52b) Qb v2 (0 : Int32) M := h2
  rcases u_wX8_areBelow_89 v2 (0 : Int32) M h1 h2 with ⟨c5, N6, f3, h1, h2, b4⟩ | ⟨c7, c8, N9, f3, h1, h2, b4⟩
  · have hf := Fr_ts (Fr_refl (fun i k => False) M) f3
    exact Or.inl ⟨c5, N6, hf, h1, h2, fun k'0 Q' hq => b4 _ _ hq⟩
  · have hf := Fr_ts (Fr_refl (fun i k => False) M) f3
    exact Or.inr ⟨c7, c8, N9, hf, h1, h2, fun k'0 Q' hq => b4 _ _ hq⟩
set_option maxHeartbeats 4000000 in
theorem u_wX8_areBelow_52 {Qa Qb : Int32 → Mem → Prop} : ∀ (n1 n2 : Nat) (v1 : Int32) (v2 : Int32) (M : Mem), wX8_areBelow_52 Qa n1 v1 v2 M → wX8_areBelow_52 Qb n2 v1 v2 M → (∃ (a0 : Int32) (M' : Mem), Fr (fun i k => False) M M' ∧ Qa a0 M' ∧ Qb a0 M' ∧ ∀ (Q' : Int32 → Mem → Prop), Q' a0 M' → wX8_areBelow_52 Q' n1 v1 v2 M) := by
  intro n1
  induction n1 with
  | zero => intro _ _ _ _ h1 _; exact h1.elim
  | succ n ih =>
    intro n2 v1 v2 M h1 h2
    cases n2 with
    | zero => exact h2.elim
    | succ m =>
      have h1 : (vp_in (1 : Int32) (ln 87) ∧ (((M 87 (1 : Int32).toNatClampNeg) ≤ v2 → ((v1 = 0 ∨ v1 = 1) ∧ Qa v1 M)) ∧ (¬ (M 87 (1 : Int32).toNatClampNeg) ≤ v2 → ((v1 = 0 → wX8_areBelow_88 (wX8_areBelow_52 Qa n) Qa v2 M) ∧ (¬ v1 = 0 → (vp_in ((20 : Int32) + v2) (ln 88) ∧ (vp_in (1 : Int32) (ln 81) ∧ (((M 81 (1 : Int32).toNatClampNeg) ≤ (M 88 ((20 : Int32) + v2).toNatClampNeg) → wX8_areBelow_88 (wX8_areBelow_52 Qa n) Qa v2 M) ∧ (¬ (M 81 (1 : Int32).toNatClampNeg) ≤ (M 88 ((20 : Int32) + v2).toNatClampNeg) → wX8_areBelow_89 (wX8_areBelow_52 Qa n) Qa v2 (1 : Int32) M))))))))) := h1
      have h2 : (vp_in (1 : Int32) (ln 87) ∧ (((M 87 (1 : Int32).toNatClampNeg) ≤ v2 → ((v1 = 0 ∨ v1 = 1) ∧ Qb v1 M)) ∧ (¬ (M 87 (1 : Int32).toNatClampNeg) ≤ v2 → ((v1 = 0 → wX8_areBelow_88 (wX8_areBelow_52 Qb m) Qb v2 M) ∧ (¬ v1 = 0 → (vp_in ((20 : Int32) + v2) (ln 88) ∧ (vp_in (1 : Int32) (ln 81) ∧ (((M 81 (1 : Int32).toNatClampNeg) ≤ (M 88 ((20 : Int32) + v2).toNatClampNeg) → wX8_areBelow_88 (wX8_areBelow_52 Qb m) Qb v2 M) ∧ (¬ (M 81 (1 : Int32).toNatClampNeg) ≤ (M 88 ((20 : Int32) + v2).toNatClampNeg) → wX8_areBelow_89 (wX8_areBelow_52 Qb m) Qb v2 (1 : Int32) M))))))))) := h2
      have s1 := h1.1
      have h1 := h1.2
      have h2 := h2.2
      by_cases hc2 : (M 87 (1 : Int32).toNatClampNeg) ≤ v2
      · have h1 := h1.1 hc2
        have h2 := h2.1 hc2
        have s3 := h1.1
        have h1 := h1.2
        have h2 := h2.2
        exact ⟨v1, M, (Fr_refl (fun i k => False) M), h1, h2, fun Q' hq => ⟨s1, ⟨fun _ => ⟨s3, hq⟩, fun z => absurd hc2 z⟩⟩⟩
      · have h1 := h1.2 hc2
        have h2 := h2.2 hc2
        by_cases hc4 : v1 = 0
        · have h1 := h1.1 hc4
          have h2 := h2.1 hc4
          rcases u_wX8_areBelow_88 v2 M h1 h2 with ⟨c9, N10, f7, h1, h2, b8⟩ | ⟨c11, c12, N13, f7, h1, h2, b8⟩
          · have hf := Fr_ts (Fr_refl (fun i k => False) M) f7
            exact ⟨c9, N10, hf, h1, h2, fun Q' hq => ⟨s1, ⟨fun z => absurd z hc2, fun _ => ⟨fun _ => b8 _ _ hq, fun z => absurd hc4 z⟩⟩⟩⟩
          · have hf := Fr_ts (Fr_refl (fun i k => False) M) f7
            obtain ⟨c16, N17, f14, h1, h2, b15⟩ := ih m c11 c12 N13 h1 h2
            have hf := Fr_ts hf f14
            exact ⟨c16, N17, hf, h1, h2, fun Q' hq => ⟨s1, ⟨fun z => absurd z hc2, fun _ => ⟨fun _ => b8 _ _ (b15 _ hq), fun z => absurd hc4 z⟩⟩⟩⟩
        · have h1 := h1.2 hc4
          have h2 := h2.2 hc4
          have s18 := h1.1
          have h1 := h1.2
          have h2 := h2.2
          have s19 := h1.1
          have h1 := h1.2
          have h2 := h2.2
          by_cases hc20 : (M 81 (1 : Int32).toNatClampNeg) ≤ (M 88 ((20 : Int32) + v2).toNatClampNeg)
          · have h1 := h1.1 hc20
            have h2 := h2.1 hc20
            rcases u_wX8_areBelow_88 v2 M h1 h2 with ⟨c25, N26, f23, h1, h2, b24⟩ | ⟨c27, c28, N29, f23, h1, h2, b24⟩
            · have hf := Fr_ts (Fr_refl (fun i k => False) M) f23
              exact ⟨c25, N26, hf, h1, h2, fun Q' hq => ⟨s1, ⟨fun z => absurd z hc2, fun _ => ⟨fun z => absurd z hc4, fun _ => ⟨s18, ⟨s19, ⟨fun _ => b24 _ _ hq, fun z => absurd hc20 z⟩⟩⟩⟩⟩⟩⟩
            · have hf := Fr_ts (Fr_refl (fun i k => False) M) f23
              obtain ⟨c32, N33, f30, h1, h2, b31⟩ := ih m c27 c28 N29 h1 h2
              have hf := Fr_ts hf f30
              exact ⟨c32, N33, hf, h1, h2, fun Q' hq => ⟨s1, ⟨fun z => absurd z hc2, fun _ => ⟨fun z => absurd z hc4, fun _ => ⟨s18, ⟨s19, ⟨fun _ => b24 _ _ (b31 _ hq), fun z => absurd hc20 z⟩⟩⟩⟩⟩⟩⟩
          · have h1 := h1.2 hc20
            have h2 := h2.2 hc20
            rcases u_wX8_areBelow_89 v2 (1 : Int32) M h1 h2 with ⟨c38, N39, f36, h1, h2, b37⟩ | ⟨c40, c41, N42, f36, h1, h2, b37⟩
            · have hf := Fr_ts (Fr_refl (fun i k => False) M) f36
              exact ⟨c38, N39, hf, h1, h2, fun Q' hq => ⟨s1, ⟨fun z => absurd z hc2, fun _ => ⟨fun z => absurd z hc4, fun _ => ⟨s18, ⟨s19, ⟨fun z => absurd z hc20, fun _ => b37 _ _ hq⟩⟩⟩⟩⟩⟩⟩
            · have hf := Fr_ts (Fr_refl (fun i k => False) M) f36
              obtain ⟨c45, N46, f43, h1, h2, b44⟩ := ih m c40 c41 N42 h1 h2
              have hf := Fr_ts hf f43
              exact ⟨c45, N46, hf, h1, h2, fun Q' hq => ⟨s1, ⟨fun z => absurd z hc2, fun _ => ⟨fun z => absurd z hc4, fun _ => ⟨s18, ⟨s19, ⟨fun z => absurd z hc20, fun _ => b37 _ _ (b44 _ hq)⟩⟩⟩⟩⟩⟩⟩
set_option maxHeartbeats 4000000 in
theorem u_wX8_areBelow_4 {Qa Qb : Int32 → Mem → Prop} : ∀ (n1 n2 : Nat) (v1 : Int32) (v2 : Int32) (M : Mem), wX8_areBelow_4 Qa n1 v1 v2 M → wX8_areBelow_4 Qb n2 v1 v2 M → (∃ (a0 : Int32) (M' : Mem), Fr (fun i k => False) M M' ∧ Qa a0 M' ∧ Qb a0 M' ∧ ∀ (Q' : Int32 → Mem → Prop), Q' a0 M' → wX8_areBelow_4 Q' n1 v1 v2 M) := by
  intro n1
  induction n1 with
  | zero => intro _ _ _ _ h1 _; exact h1.elim
  | succ n ih =>
    intro n2 v1 v2 M h1 h2
    cases n2 with
    | zero => exact h2.elim
    | succ m =>
      have h1 : (vp_in (1 : Int32) (ln 85) ∧ ((((2 : Int32) * (M 85 (1 : Int32).toNatClampNeg)) ≤ v2 → (∃ n2, wX8_areBelow_52 Qa n2 v1 (0 : Int32) M)) ∧ (¬ ((2 : Int32) * (M 85 (1 : Int32).toNatClampNeg)) ≤ v2 → ((v1 = 0 → wX8_areBelow_42 (wX8_areBelow_4 Qa n) Qa v2 M) ∧ (¬ v1 = 0 → (vp_in ((40 : Int32) + v2) (ln 86) ∧ (vp_in (1 : Int32) (ln 81) ∧ (((M 81 (1 : Int32).toNatClampNeg) ≤ (M 86 ((40 : Int32) + v2).toNatClampNeg) → wX8_areBelow_42 (wX8_areBelow_4 Qa n) Qa v2 M) ∧ (¬ (M 81 (1 : Int32).toNatClampNeg) ≤ (M 86 ((40 : Int32) + v2).toNatClampNeg) → wX8_areBelow_43 (wX8_areBelow_4 Qa n) Qa v2 (1 : Int32) M))))))))) := h1
      have h2 : (vp_in (1 : Int32) (ln 85) ∧ ((((2 : Int32) * (M 85 (1 : Int32).toNatClampNeg)) ≤ v2 → (∃ n2, wX8_areBelow_52 Qb n2 v1 (0 : Int32) M)) ∧ (¬ ((2 : Int32) * (M 85 (1 : Int32).toNatClampNeg)) ≤ v2 → ((v1 = 0 → wX8_areBelow_42 (wX8_areBelow_4 Qb m) Qb v2 M) ∧ (¬ v1 = 0 → (vp_in ((40 : Int32) + v2) (ln 86) ∧ (vp_in (1 : Int32) (ln 81) ∧ (((M 81 (1 : Int32).toNatClampNeg) ≤ (M 86 ((40 : Int32) + v2).toNatClampNeg) → wX8_areBelow_42 (wX8_areBelow_4 Qb m) Qb v2 M) ∧ (¬ (M 81 (1 : Int32).toNatClampNeg) ≤ (M 86 ((40 : Int32) + v2).toNatClampNeg) → wX8_areBelow_43 (wX8_areBelow_4 Qb m) Qb v2 (1 : Int32) M))))))))) := h2
      have s1 := h1.1
      have h1 := h1.2
      have h2 := h2.2
      by_cases hc2 : ((2 : Int32) * (M 85 (1 : Int32).toNatClampNeg)) ≤ v2
      · have h1 := h1.1 hc2
        have h2 := h2.1 hc2
        obtain ⟨n2_a, h1⟩ := h1
        obtain ⟨n2_b, h2⟩ := h2
        obtain ⟨c7, N8, f5, h1, h2, b6⟩ := u_wX8_areBelow_52 n2_a n2_b v1 (0 : Int32) M h1 h2
        have hf := Fr_ts (Fr_refl (fun i k => False) M) f5
        exact ⟨c7, N8, hf, h1, h2, fun Q' hq => ⟨s1, ⟨fun _ => ⟨n2_a, b6 _ hq⟩, fun z => absurd hc2 z⟩⟩⟩
      · have h1 := h1.2 hc2
        have h2 := h2.2 hc2
        by_cases hc9 : v1 = 0
        · have h1 := h1.1 hc9
          have h2 := h2.1 hc9
          rcases u_wX8_areBelow_42 v2 M h1 h2 with ⟨c14, N15, f12, h1, h2, b13⟩ | ⟨c16, c17, N18, f12, h1, h2, b13⟩
          · have hf := Fr_ts (Fr_refl (fun i k => False) M) f12
            exact ⟨c14, N15, hf, h1, h2, fun Q' hq => ⟨s1, ⟨fun z => absurd z hc2, fun _ => ⟨fun _ => b13 _ _ hq, fun z => absurd hc9 z⟩⟩⟩⟩
          · have hf := Fr_ts (Fr_refl (fun i k => False) M) f12
            obtain ⟨c21, N22, f19, h1, h2, b20⟩ := ih m c16 c17 N18 h1 h2
            have hf := Fr_ts hf f19
            exact ⟨c21, N22, hf, h1, h2, fun Q' hq => ⟨s1, ⟨fun z => absurd z hc2, fun _ => ⟨fun _ => b13 _ _ (b20 _ hq), fun z => absurd hc9 z⟩⟩⟩⟩
        · have h1 := h1.2 hc9
          have h2 := h2.2 hc9
          have s23 := h1.1
          have h1 := h1.2
          have h2 := h2.2
          have s24 := h1.1
          have h1 := h1.2
          have h2 := h2.2
          by_cases hc25 : (M 81 (1 : Int32).toNatClampNeg) ≤ (M 86 ((40 : Int32) + v2).toNatClampNeg)
          · have h1 := h1.1 hc25
            have h2 := h2.1 hc25
            rcases u_wX8_areBelow_42 v2 M h1 h2 with ⟨c30, N31, f28, h1, h2, b29⟩ | ⟨c32, c33, N34, f28, h1, h2, b29⟩
            · have hf := Fr_ts (Fr_refl (fun i k => False) M) f28
              exact ⟨c30, N31, hf, h1, h2, fun Q' hq => ⟨s1, ⟨fun z => absurd z hc2, fun _ => ⟨fun z => absurd z hc9, fun _ => ⟨s23, ⟨s24, ⟨fun _ => b29 _ _ hq, fun z => absurd hc25 z⟩⟩⟩⟩⟩⟩⟩
            · have hf := Fr_ts (Fr_refl (fun i k => False) M) f28
              obtain ⟨c37, N38, f35, h1, h2, b36⟩ := ih m c32 c33 N34 h1 h2
              have hf := Fr_ts hf f35
              exact ⟨c37, N38, hf, h1, h2, fun Q' hq => ⟨s1, ⟨fun z => absurd z hc2, fun _ => ⟨fun z => absurd z hc9, fun _ => ⟨s23, ⟨s24, ⟨fun _ => b29 _ _ (b36 _ hq), fun z => absurd hc25 z⟩⟩⟩⟩⟩⟩⟩
          · have h1 := h1.2 hc25
            have h2 := h2.2 hc25
            rcases u_wX8_areBelow_43 v2 (1 : Int32) M h1 h2 with ⟨c43, N44, f41, h1, h2, b42⟩ | ⟨c45, c46, N47, f41, h1, h2, b42⟩
            · have hf := Fr_ts (Fr_refl (fun i k => False) M) f41
              exact ⟨c43, N44, hf, h1, h2, fun Q' hq => ⟨s1, ⟨fun z => absurd z hc2, fun _ => ⟨fun z => absurd z hc9, fun _ => ⟨s23, ⟨s24, ⟨fun z => absurd z hc25, fun _ => b42 _ _ hq⟩⟩⟩⟩⟩⟩⟩
            · have hf := Fr_ts (Fr_refl (fun i k => False) M) f41
              obtain ⟨c50, N51, f48, h1, h2, b49⟩ := ih m c45 c46 N47 h1 h2
              have hf := Fr_ts hf f48
              exact ⟨c50, N51, hf, h1, h2, fun Q' hq => ⟨s1, ⟨fun z => absurd z hc2, fun _ => ⟨fun z => absurd z hc9, fun _ => ⟨s23, ⟨s24, ⟨fun z => absurd z hc25, fun _ => b42 _ _ (b49 _ hq)⟩⟩⟩⟩⟩⟩⟩
set_option maxHeartbeats 4000000 in
theorem u_wX8_areBelow {Qa Qb : Int32 → Mem → Prop} (M : Mem) (h1 : wX8_areBelow M Qa) (h2 : wX8_areBelow M Qb) : (∃ (a0 : Int32) (M' : Mem), Fr (fun i k => False) M M' ∧ Qa a0 M' ∧ Qb a0 M' ∧ ∀ (Q' : Int32 → Mem → Prop), Q' a0 M' → wX8_areBelow M Q') := by
  have h1 : (∃ n1, wX8_areBelow_4 Qa n1 (1 : Int32) (0 : Int32) M) := h1
  have h2 : (∃ n1, wX8_areBelow_4 Qb n1 (1 : Int32) (0 : Int32) M) := h2
  obtain ⟨n1_a, h1⟩ := h1
  obtain ⟨n1_b, h2⟩ := h2
  obtain ⟨c5, N6, f3, h1, h2, b4⟩ := u_wX8_areBelow_4 n1_a n1_b (1 : Int32) (0 : Int32) M h1 h2
  have hf := Fr_ts (Fr_refl (fun i k => False) M) f3
  exact ⟨c5, N6, hf, h1, h2, fun Q' hq => ⟨n1_a, b4 _ hq⟩⟩
set_option maxHeartbeats 4000000 in
theorem u_wX8_cut_48 (x1 : Nat) (x2 : Int32) {Qa Qb : Mem → Prop} : ∀ (n1 n2 : Nat) (v3 : Int32) (v5 : Int32) (M : Mem), wX8_cut_48 x1 x2 Qa n1 v3 v5 M → wX8_cut_48 x1 x2 Qb n2 v3 v5 M → (∃ (M' : Mem), Fr (fun i k => 79 ≤ i ∨ i = x1) M M' ∧ Qa M' ∧ Qb M' ∧ ∀ (Q' : Mem → Prop), Q' M' → wX8_cut_48 x1 x2 Q' n1 v3 v5 M) := by
  intro n1
  induction n1 with
  | zero => intro _ _ _ _ h1 _; exact h1.elim
  | succ n ih =>
    intro n2 v3 v5 M h1 h2
    cases n2 with
    | zero => exact h2.elim
    | succ m =>
      have h1 : ((v3 ≤ v5 → Qa M) ∧ (¬ v3 ≤ v5 → (vp_in v5 (ln 97) ∧ (vp_in (x2 + v5) (ln x1) ∧ wX8_cut_48 x1 x2 Qa n v3 (v5 + (1 : Int32)) (mu M x1 (x2 + v5).toNatClampNeg (M 97 v5.toNatClampNeg)))))) := h1
      have h2 : ((v3 ≤ v5 → Qb M) ∧ (¬ v3 ≤ v5 → (vp_in v5 (ln 97) ∧ (vp_in (x2 + v5) (ln x1) ∧ wX8_cut_48 x1 x2 Qb m v3 (v5 + (1 : Int32)) (mu M x1 (x2 + v5).toNatClampNeg (M 97 v5.toNatClampNeg)))))) := h2
      by_cases hc1 : v3 ≤ v5
      · have h1 := h1.1 hc1
        have h2 := h2.1 hc1
        exact ⟨M, (Fr_refl (fun i k => 79 ≤ i ∨ i = x1) M), h1, h2, fun Q' hq => ⟨fun _ => hq, fun z => absurd hc1 z⟩⟩
      · have h1 := h1.2 hc1
        have h2 := h2.2 hc1
        have s2 := h1.1
        have h1 := h1.2
        have h2 := h2.2
        have s3 := h1.1
        have h1 := h1.2
        have h2 := h2.2
        obtain ⟨N8, f6, h1, h2, b7⟩ := ih m v3 (v5 + (1 : Int32)) (mu M x1 (x2 + v5).toNatClampNeg (M 97 v5.toNatClampNeg)) h1 h2
        have hf := Fr_ts (Fr_mu (Fr_refl (fun i k => 79 ≤ i ∨ i = x1) M) (show 79 ≤ x1 ∨ x1 = x1 from by omega)) f6
        exact ⟨N8, hf, h1, h2, fun Q' hq => ⟨fun z => absurd z hc1, fun _ => ⟨s2, ⟨s3, b7 _ hq⟩⟩⟩⟩
set_option maxHeartbeats 4000000 in
theorem u_wX8_cut_15 (x1 : Nat) (x2 : Int32) {Qa Qb : Mem → Prop} : ∀ (n1 n2 : Nat) (v3 : Int32) (v4 : Int32) (v5 : Int32) (M : Mem), wX8_cut_15 x1 x2 Qa n1 v3 v4 v5 M → wX8_cut_15 x1 x2 Qb n2 v3 v4 v5 M → (∃ (M' : Mem), Fr (fun i k => 79 ≤ i ∨ i = x1) M M' ∧ Qa M' ∧ Qb M' ∧ ∀ (Q' : Mem → Prop), Q' M' → wX8_cut_15 x1 x2 Q' n1 v3 v4 v5 M) := by
  intro n1
  induction n1 with
  | zero => intro _ _ _ _ _ h1 _; exact h1.elim
  | succ n ih =>
    intro n2 v3 v4 v5 M h1 h2
    cases n2 with
    | zero => exact h2.elim
    | succ m =>
      have h1 : ((v3 ≤ v5 → (∃ n2, wX8_cut_48 x1 x2 Qa n2 v3 (0 : Int32) M)) ∧ (¬ v3 ≤ v5 → (¬ v3 = 0 ∧ (vp_in (x2 + ((v5 + v4) - ((v5 + v4) / v3) * v3)) (ln x1) ∧ (vp_in v5 (ln 97) ∧ wX8_cut_15 x1 x2 Qa n v3 v4 (v5 + (1 : Int32)) (mu M 97 v5.toNatClampNeg (M x1 (x2 + ((v5 + v4) - ((v5 + v4) / v3) * v3)).toNatClampNeg))))))) := h1
      have h2 : ((v3 ≤ v5 → (∃ n2, wX8_cut_48 x1 x2 Qb n2 v3 (0 : Int32) M)) ∧ (¬ v3 ≤ v5 → (¬ v3 = 0 ∧ (vp_in (x2 + ((v5 + v4) - ((v5 + v4) / v3) * v3)) (ln x1) ∧ (vp_in v5 (ln 97) ∧ wX8_cut_15 x1 x2 Qb m v3 v4 (v5 + (1 : Int32)) (mu M 97 v5.toNatClampNeg (M x1 (x2 + ((v5 + v4) - ((v5 + v4) / v3) * v3)).toNatClampNeg))))))) := h2
      by_cases hc1 : v3 ≤ v5
      · have h1 := h1.1 hc1
        have h2 := h2.1 hc1
        obtain ⟨n2_a, h1⟩ := h1
        obtain ⟨n2_b, h2⟩ := h2
        obtain ⟨N6, f4, h1, h2, b5⟩ := u_wX8_cut_48 x1 x2 n2_a n2_b v3 (0 : Int32) M h1 h2
        have hf := Fr_ts (Fr_refl (fun i k => 79 ≤ i ∨ i = x1) M) f4
        exact ⟨N6, hf, h1, h2, fun Q' hq => ⟨fun _ => ⟨n2_a, b5 _ hq⟩, fun z => absurd hc1 z⟩⟩
      · have h1 := h1.2 hc1
        have h2 := h2.2 hc1
        have s7 := h1.1
        have h1 := h1.2
        have h2 := h2.2
        have s8 := h1.1
        have h1 := h1.2
        have h2 := h2.2
        have s9 := h1.1
        have h1 := h1.2
        have h2 := h2.2
        obtain ⟨N14, f12, h1, h2, b13⟩ := ih m v3 v4 (v5 + (1 : Int32)) (mu M 97 v5.toNatClampNeg (M x1 (x2 + ((v5 + v4) - ((v5 + v4) / v3) * v3)).toNatClampNeg)) h1 h2
        have hf := Fr_ts (Fr_mu (Fr_refl (fun i k => 79 ≤ i ∨ i = x1) M) (show 79 ≤ 97 ∨ 97 = x1 from by omega)) f12
        exact ⟨N14, hf, h1, h2, fun Q' hq => ⟨fun z => absurd z hc1, fun _ => ⟨s7, ⟨s8, ⟨s9, b13 _ hq⟩⟩⟩⟩⟩
set_option maxHeartbeats 4000000 in
theorem u_wX8_cut (x1 : Nat) (x2 : Int32) {Qa Qb : Mem → Prop} (M : Mem) (h1 : wX8_cut x1 x2 M Qa) (h2 : wX8_cut x1 x2 M Qb) : (∃ (M' : Mem), Fr (fun i k => 79 ≤ i ∨ i = x1) M M' ∧ Qa M' ∧ Qb M' ∧ ∀ (Q' : Mem → Prop), Q' M' → wX8_cut x1 x2 M Q') := by
  have h1 : (vp_in (0 : Int32) (ln 81) ∧ (¬ (2 : Int32) = 0 ∧ (∃ n1, wX8_cut_15 x1 x2 Qa n1 (M 81 (0 : Int32).toNatClampNeg) ((M 81 (0 : Int32).toNatClampNeg) / (2 : Int32)) (0 : Int32) M))) := h1
  have h2 : (vp_in (0 : Int32) (ln 81) ∧ (¬ (2 : Int32) = 0 ∧ (∃ n1, wX8_cut_15 x1 x2 Qb n1 (M 81 (0 : Int32).toNatClampNeg) ((M 81 (0 : Int32).toNatClampNeg) / (2 : Int32)) (0 : Int32) M))) := h2
  have s1 := h1.1
  have h1 := h1.2
  have h2 := h2.2
  have s2 := h1.1
  have h1 := h1.2
  have h2 := h2.2
  obtain ⟨n1_a, h1⟩ := h1
  obtain ⟨n1_b, h2⟩ := h2
  obtain ⟨N7, f5, h1, h2, b6⟩ := u_wX8_cut_15 x1 x2 n1_a n1_b (M 81 (0 : Int32).toNatClampNeg) ((M 81 (0 : Int32).toNatClampNeg) / (2 : Int32)) (0 : Int32) M h1 h2
  have hf := Fr_ts (Fr_refl (fun i k => 79 ≤ i ∨ i = x1) M) f5
  exact ⟨N7, hf, h1, h2, fun Q' hq => ⟨s1, ⟨s2, ⟨n1_a, b6 _ hq⟩⟩⟩⟩
set_option maxHeartbeats 4000000 in
theorem u_wX8_layBelow_8 (x1 : Nat) (x2 : Int32) (x3 : Int32) {Qa Qb : Mem → Prop} : ∀ (n1 n2 : Nat) (v4 : Int32) (v5 : Int32) (M : Mem), wX8_layBelow_8 x1 x2 x3 Qa n1 v4 v5 M → wX8_layBelow_8 x1 x2 x3 Qb n2 v4 v5 M → (∃ (M' : Mem), Fr (fun i k => 79 ≤ i ∨ i = x1) M M' ∧ Qa M' ∧ Qb M' ∧ ∀ (Q' : Mem → Prop), Q' M' → wX8_layBelow_8 x1 x2 x3 Q' n1 v4 v5 M) := by
  intro n1
  induction n1 with
  | zero => intro _ _ _ _ h1 _; exact h1.elim
  | succ n ih =>
    intro n2 v4 v5 M h1 h2
    cases n2 with
    | zero => exact h2.elim
    | succ m =>
      have h1 : ((x3 ≤ v5 → (vp_in (x2 + x3) (ln x1) ∧ Qa (mu M x1 (x2 + x3).toNatClampNeg v4))) ∧ (¬ x3 ≤ v5 → (vp_in ((x2 + v5) + (1 : Int32)) (ln x1) ∧ (vp_in (x2 + v5) (ln x1) ∧ wX8_layBelow_8 x1 x2 x3 Qa n v4 (v5 + (1 : Int32)) (mu M x1 (x2 + v5).toNatClampNeg (M x1 ((x2 + v5) + (1 : Int32)).toNatClampNeg)))))) := h1
      have h2 : ((x3 ≤ v5 → (vp_in (x2 + x3) (ln x1) ∧ Qb (mu M x1 (x2 + x3).toNatClampNeg v4))) ∧ (¬ x3 ≤ v5 → (vp_in ((x2 + v5) + (1 : Int32)) (ln x1) ∧ (vp_in (x2 + v5) (ln x1) ∧ wX8_layBelow_8 x1 x2 x3 Qb m v4 (v5 + (1 : Int32)) (mu M x1 (x2 + v5).toNatClampNeg (M x1 ((x2 + v5) + (1 : Int32)).toNatClampNeg)))))) := h2
      by_cases hc1 : x3 ≤ v5
      · have h1 := h1.1 hc1
        have h2 := h2.1 hc1
        have s2 := h1.1
        have h1 := h1.2
        have h2 := h2.2
        exact ⟨(mu M x1 (x2 + x3).toNatClampNeg v4), (Fr_mu (Fr_refl (fun i k => 79 ≤ i ∨ i = x1) M) (show 79 ≤ x1 ∨ x1 = x1 from by omega)), h1, h2, fun Q' hq => ⟨fun _ => ⟨s2, hq⟩, fun z => absurd hc1 z⟩⟩
      · have h1 := h1.2 hc1
        have h2 := h2.2 hc1
        have s3 := h1.1
        have h1 := h1.2
        have h2 := h2.2
        have s4 := h1.1
        have h1 := h1.2
        have h2 := h2.2
        obtain ⟨N9, f7, h1, h2, b8⟩ := ih m v4 (v5 + (1 : Int32)) (mu M x1 (x2 + v5).toNatClampNeg (M x1 ((x2 + v5) + (1 : Int32)).toNatClampNeg)) h1 h2
        have hf := Fr_ts (Fr_mu (Fr_refl (fun i k => 79 ≤ i ∨ i = x1) M) (show 79 ≤ x1 ∨ x1 = x1 from by omega)) f7
        exact ⟨N9, hf, h1, h2, fun Q' hq => ⟨fun z => absurd z hc1, fun _ => ⟨s3, ⟨s4, b8 _ hq⟩⟩⟩⟩
set_option maxHeartbeats 4000000 in
theorem u_wX8_layBelow (x1 : Nat) (x2 : Int32) (x3 : Int32) {Qa Qb : Mem → Prop} (M : Mem) (h1 : wX8_layBelow x1 x2 x3 M Qa) (h2 : wX8_layBelow x1 x2 x3 M Qb) : (∃ (M' : Mem), Fr (fun i k => 79 ≤ i ∨ i = x1) M M' ∧ Qa M' ∧ Qb M' ∧ ∀ (Q' : Mem → Prop), Q' M' → wX8_layBelow x1 x2 x3 M Q') := by
  have h1 : (vp_in x2 (ln x1) ∧ (∃ n1, wX8_layBelow_8 x1 x2 x3 Qa n1 (M x1 x2.toNatClampNeg) (0 : Int32) M)) := h1
  have h2 : (vp_in x2 (ln x1) ∧ (∃ n1, wX8_layBelow_8 x1 x2 x3 Qb n1 (M x1 x2.toNatClampNeg) (0 : Int32) M)) := h2
  have s1 := h1.1
  have h1 := h1.2
  have h2 := h2.2
  obtain ⟨n1_a, h1⟩ := h1
  obtain ⟨n1_b, h2⟩ := h2
  obtain ⟨N6, f4, h1, h2, b5⟩ := u_wX8_layBelow_8 x1 x2 x3 n1_a n1_b (M x1 x2.toNatClampNeg) (0 : Int32) M h1 h2
  have hf := Fr_ts (Fr_refl (fun i k => 79 ≤ i ∨ i = x1) M) f4
  exact ⟨N6, hf, h1, h2, fun Q' hq => ⟨s1, ⟨n1_a, b5 _ hq⟩⟩⟩
set_option maxHeartbeats 4000000 in
theorem u_wX8_goRead_69 (x1 : Nat) (x2 : Int32) (x3 : Int32) (x4 : Int32) (x5 : Int32) {Qa Qb : Mem → Prop} (M : Mem) (h1 : wX8_goRead_69 x1 x2 x3 x4 x5 Qa M) (h2 : wX8_goRead_69 x1 x2 x3 x4 x5 Qb M) : (∃ (M' : Mem), Fr (fun i k => 79 ≤ i ∨ i = x1) M M' ∧ Qa M' ∧ Qb M' ∧ ∀ (Q' : Mem → Prop), Q' M' → wX8_goRead_69 x1 x2 x3 x4 x5 Q' M) := by
  have h1 : Qa M := h1
  have h2 : Qb M := h2
  exact ⟨M, (Fr_refl (fun i k => 79 ≤ i ∨ i = x1) M), h1, h2, fun Q' hq => hq⟩
set_option maxHeartbeats 4000000 in
theorem u_wX8_goRead_66 (x1 : Nat) (x2 : Int32) (x3 : Int32) (x4 : Int32) (x5 : Int32) {Qa Qb : Mem → Prop} (s0 : Int32) (s1 : Int32) (M : Mem) (h1 : wX8_goRead_66 x1 x2 x3 x4 x5 Qa s0 s1 M) (h2 : wX8_goRead_66 x1 x2 x3 x4 x5 Qb s0 s1 M) : (∃ (M' : Mem), Fr (fun i k => 79 ≤ i ∨ i = x1) M M' ∧ Qa M' ∧ Qb M' ∧ ∀ (Q' : Mem → Prop), Q' M' → wX8_goRead_66 x1 x2 x3 x4 x5 Q' s0 s1 M) := by
  have h1 : (wX8_layBelow x1 s1 s0 M (fun M2 => wX8_goRead_69 x1 x2 x3 x4 x5 Qa M2)) := h1
  have h2 : (wX8_layBelow x1 s1 s0 M (fun M2 => wX8_goRead_69 x1 x2 x3 x4 x5 Qb M2)) := h2
  obtain ⟨M2, f1, h1, h2, b2⟩ := u_wX8_layBelow x1 s1 s0 M h1 h2
  have g3 := Fr_tr (Fr_refl (fun i k => 79 ≤ i ∨ i = x1) M) f1 (fun i k (h : 79 ≤ i ∨ i = x1) => (show 79 ≤ i ∨ i = x1 from by omega))
  obtain ⟨N8, f6, h1, h2, b7⟩ := u_wX8_goRead_69 x1 x2 x3 x4 x5 M2 h1 h2
  have hf := Fr_ts g3 f6
  exact ⟨N8, hf, h1, h2, fun Q' hq => b2 _ (b7 _ hq)⟩
set_option maxHeartbeats 4000000 in
theorem u_wX8_goRead_59 (x1 : Nat) (x2 : Int32) (x3 : Int32) (x4 : Int32) (x5 : Int32) {Qa Qb : Mem → Prop} (v7 : Int32) (s0 : Int32) (M : Mem) (h1 : wX8_goRead_59 x1 x2 x3 x4 x5 Qa v7 s0 M) (h2 : wX8_goRead_59 x1 x2 x3 x4 x5 Qb v7 s0 M) : (∃ (M' : Mem), Fr (fun i k => 79 ≤ i ∨ i = x1) M M' ∧ Qa M' ∧ Qb M' ∧ ∀ (Q' : Mem → Prop), Q' M' → wX8_goRead_59 x1 x2 x3 x4 x5 Q' v7 s0 M) := by
  have h1 : wX8_goRead_66 x1 x2 x3 x4 x5 Qa v7 s0 M := h1
  have h2 : wX8_goRead_66 x1 x2 x3 x4 x5 Qb v7 s0 M := h2
  obtain ⟨N5, f3, h1, h2, b4⟩ := u_wX8_goRead_66 x1 x2 x3 x4 x5 v7 s0 M h1 h2
  have hf := Fr_ts (Fr_refl (fun i k => 79 ≤ i ∨ i = x1) M) f3
  exact ⟨N5, hf, h1, h2, fun Q' hq => b4 _ hq⟩
set_option maxHeartbeats 4000000 in
theorem u_wX8_goRead_64 (x1 : Nat) (x2 : Int32) (x3 : Int32) (x4 : Int32) (x5 : Int32) {Qa Qb : Mem → Prop} (v6 : Int32) (s0 : Int32) (M : Mem) (h1 : wX8_goRead_64 x1 x2 x3 x4 x5 Qa v6 s0 M) (h2 : wX8_goRead_64 x1 x2 x3 x4 x5 Qb v6 s0 M) : (∃ (M' : Mem), Fr (fun i k => 79 ≤ i ∨ i = x1) M M' ∧ Qa M' ∧ Qb M' ∧ ∀ (Q' : Mem → Prop), Q' M' → wX8_goRead_64 x1 x2 x3 x4 x5 Q' v6 s0 M) := by
  have h1 : wX8_goRead_66 x1 x2 x3 x4 x5 Qa v6 s0 M := h1
  have h2 : wX8_goRead_66 x1 x2 x3 x4 x5 Qb v6 s0 M := h2
  obtain ⟨N5, f3, h1, h2, b4⟩ := u_wX8_goRead_66 x1 x2 x3 x4 x5 v6 s0 M h1 h2
  have hf := Fr_ts (Fr_refl (fun i k => 79 ≤ i ∨ i = x1) M) f3
  exact ⟨N5, hf, h1, h2, fun Q' hq => b4 _ hq⟩
set_option maxHeartbeats 4000000 in
theorem u_wX8_goRead_24 (x1 : Nat) (x2 : Int32) (x3 : Int32) (x4 : Int32) (x5 : Int32) {Qa Qb : Mem → Prop} (v6 : Int32) (s0 : Int32) (M : Mem) (h1 : wX8_goRead_24 x1 x2 x3 x4 x5 Qa v6 s0 M) (h2 : wX8_goRead_24 x1 x2 x3 x4 x5 Qb v6 s0 M) : (∃ (M' : Mem), Fr (fun i k => 79 ≤ i ∨ i = x1) M M' ∧ Qa M' ∧ Qb M' ∧ ∀ (Q' : Mem → Prop), Q' M' → wX8_goRead_24 x1 x2 x3 x4 x5 Q' v6 s0 M) := by
  have h1 : ((¬ x3 = (3 : Int32) → ((x3 = 0 → wX8_goRead_59 x1 x2 x3 x4 x5 Qa s0 x2 M) ∧ (¬ x3 = 0 → ((¬ x3 = (2 : Int32) → wX8_goRead_64 x1 x2 x3 x4 x5 Qa v6 x2 M) ∧ (x3 = (2 : Int32) → (¬ (2 : Int32) = 0 ∧ ((¬ (x5 - (x5 / (2 : Int32)) * (2 : Int32)) = 0 → wX8_goRead_64 x1 x2 x3 x4 x5 Qa v6 x2 M) ∧ ((x5 - (x5 / (2 : Int32)) * (2 : Int32)) = 0 → wX8_goRead_59 x1 x2 x3 x4 x5 Qa s0 x2 M)))))))) ∧ (x3 = (3 : Int32) → (wX8_cut x1 x2 M (fun M1 => wX8_goRead_69 x1 x2 x3 x4 x5 Qa M1)))) := h1
  have h2 : ((¬ x3 = (3 : Int32) → ((x3 = 0 → wX8_goRead_59 x1 x2 x3 x4 x5 Qb s0 x2 M) ∧ (¬ x3 = 0 → ((¬ x3 = (2 : Int32) → wX8_goRead_64 x1 x2 x3 x4 x5 Qb v6 x2 M) ∧ (x3 = (2 : Int32) → (¬ (2 : Int32) = 0 ∧ ((¬ (x5 - (x5 / (2 : Int32)) * (2 : Int32)) = 0 → wX8_goRead_64 x1 x2 x3 x4 x5 Qb v6 x2 M) ∧ ((x5 - (x5 / (2 : Int32)) * (2 : Int32)) = 0 → wX8_goRead_59 x1 x2 x3 x4 x5 Qb s0 x2 M)))))))) ∧ (x3 = (3 : Int32) → (wX8_cut x1 x2 M (fun M1 => wX8_goRead_69 x1 x2 x3 x4 x5 Qb M1)))) := h2
  by_cases hc1 : x3 = (3 : Int32)
  · have h1 := h1.2 hc1
    have h2 := h2.2 hc1
    obtain ⟨M1, f2, h1, h2, b3⟩ := u_wX8_cut x1 x2 M h1 h2
    have g4 := Fr_tr (Fr_refl (fun i k => 79 ≤ i ∨ i = x1) M) f2 (fun i k (h : 79 ≤ i ∨ i = x1) => (show 79 ≤ i ∨ i = x1 from by omega))
    obtain ⟨N9, f7, h1, h2, b8⟩ := u_wX8_goRead_69 x1 x2 x3 x4 x5 M1 h1 h2
    have hf := Fr_ts g4 f7
    exact ⟨N9, hf, h1, h2, fun Q' hq => ⟨fun z => absurd hc1 z, fun _ => b3 _ (b8 _ hq)⟩⟩
  · have h1 := h1.1 hc1
    have h2 := h2.1 hc1
    by_cases hc10 : x3 = 0
    · have h1 := h1.1 hc10
      have h2 := h2.1 hc10
      obtain ⟨N15, f13, h1, h2, b14⟩ := u_wX8_goRead_59 x1 x2 x3 x4 x5 s0 x2 M h1 h2
      have hf := Fr_ts (Fr_refl (fun i k => 79 ≤ i ∨ i = x1) M) f13
      exact ⟨N15, hf, h1, h2, fun Q' hq => ⟨fun _ => ⟨fun _ => b14 _ hq, fun z => absurd hc10 z⟩, fun z => absurd z hc1⟩⟩
    · have h1 := h1.2 hc10
      have h2 := h2.2 hc10
      by_cases hc16 : x3 = (2 : Int32)
      · have h1 := h1.2 hc16
        have h2 := h2.2 hc16
        have s17 := h1.1
        have h1 := h1.2
        have h2 := h2.2
        by_cases hc18 : (x5 - (x5 / (2 : Int32)) * (2 : Int32)) = 0
        · have h1 := h1.2 hc18
          have h2 := h2.2 hc18
          obtain ⟨N23, f21, h1, h2, b22⟩ := u_wX8_goRead_59 x1 x2 x3 x4 x5 s0 x2 M h1 h2
          have hf := Fr_ts (Fr_refl (fun i k => 79 ≤ i ∨ i = x1) M) f21
          exact ⟨N23, hf, h1, h2, fun Q' hq => ⟨fun _ => ⟨fun z => absurd z hc10, fun _ => ⟨fun z => absurd hc16 z, fun _ => ⟨s17, ⟨fun z => absurd hc18 z, fun _ => b22 _ hq⟩⟩⟩⟩, fun z => absurd z hc1⟩⟩
        · have h1 := h1.1 hc18
          have h2 := h2.1 hc18
          obtain ⟨N28, f26, h1, h2, b27⟩ := u_wX8_goRead_64 x1 x2 x3 x4 x5 v6 x2 M h1 h2
          have hf := Fr_ts (Fr_refl (fun i k => 79 ≤ i ∨ i = x1) M) f26
          exact ⟨N28, hf, h1, h2, fun Q' hq => ⟨fun _ => ⟨fun z => absurd z hc10, fun _ => ⟨fun z => absurd hc16 z, fun _ => ⟨s17, ⟨fun _ => b27 _ hq, fun z => absurd z hc18⟩⟩⟩⟩, fun z => absurd z hc1⟩⟩
      · have h1 := h1.1 hc16
        have h2 := h2.1 hc16
        obtain ⟨N33, f31, h1, h2, b32⟩ := u_wX8_goRead_64 x1 x2 x3 x4 x5 v6 x2 M h1 h2
        have hf := Fr_ts (Fr_refl (fun i k => 79 ≤ i ∨ i = x1) M) f31
        exact ⟨N33, hf, h1, h2, fun Q' hq => ⟨fun _ => ⟨fun z => absurd z hc10, fun _ => ⟨fun _ => b32 _ hq, fun z => absurd z hc16⟩⟩, fun z => absurd z hc1⟩⟩
set_option maxHeartbeats 4000000 in
theorem u_wX8_goRead (x1 : Nat) (x2 : Int32) (x3 : Int32) (x4 : Int32) (x5 : Int32) {Qa Qb : Mem → Prop} (M : Mem) (h1 : wX8_goRead x1 x2 x3 x4 x5 M Qa) (h2 : wX8_goRead x1 x2 x3 x4 x5 M Qb) : (∃ (M' : Mem), Fr (fun i k => 79 ≤ i ∨ i = x1) M M' ∧ Qa M' ∧ Qb M' ∧ ∀ (Q' : Mem → Prop), Q' M' → wX8_goRead x1 x2 x3 x4 x5 M Q') := by
  have h1 : (vp_in (0 : Int32) (ln 81) ∧ ((((M 81 (0 : Int32).toNatClampNeg) - (1 : Int32)) ≤ x4 → wX8_goRead_24 x1 x2 x3 x4 x5 Qa ((M 81 (0 : Int32).toNatClampNeg) - (1 : Int32)) ((M 81 (0 : Int32).toNatClampNeg) - (1 : Int32)) M) ∧ (¬ ((M 81 (0 : Int32).toNatClampNeg) - (1 : Int32)) ≤ x4 → wX8_goRead_24 x1 x2 x3 x4 x5 Qa ((M 81 (0 : Int32).toNatClampNeg) - (1 : Int32)) x4 M))) := h1
  have h2 : (vp_in (0 : Int32) (ln 81) ∧ ((((M 81 (0 : Int32).toNatClampNeg) - (1 : Int32)) ≤ x4 → wX8_goRead_24 x1 x2 x3 x4 x5 Qb ((M 81 (0 : Int32).toNatClampNeg) - (1 : Int32)) ((M 81 (0 : Int32).toNatClampNeg) - (1 : Int32)) M) ∧ (¬ ((M 81 (0 : Int32).toNatClampNeg) - (1 : Int32)) ≤ x4 → wX8_goRead_24 x1 x2 x3 x4 x5 Qb ((M 81 (0 : Int32).toNatClampNeg) - (1 : Int32)) x4 M))) := h2
  have s1 := h1.1
  have h1 := h1.2
  have h2 := h2.2
  by_cases hc2 : ((M 81 (0 : Int32).toNatClampNeg) - (1 : Int32)) ≤ x4
  · have h1 := h1.1 hc2
    have h2 := h2.1 hc2
    obtain ⟨N7, f5, h1, h2, b6⟩ := u_wX8_goRead_24 x1 x2 x3 x4 x5 ((M 81 (0 : Int32).toNatClampNeg) - (1 : Int32)) ((M 81 (0 : Int32).toNatClampNeg) - (1 : Int32)) M h1 h2
    have hf := Fr_ts (Fr_refl (fun i k => 79 ≤ i ∨ i = x1) M) f5
    exact ⟨N7, hf, h1, h2, fun Q' hq => ⟨s1, ⟨fun _ => b6 _ hq, fun z => absurd hc2 z⟩⟩⟩
  · have h1 := h1.2 hc2
    have h2 := h2.2 hc2
    obtain ⟨N12, f10, h1, h2, b11⟩ := u_wX8_goRead_24 x1 x2 x3 x4 x5 ((M 81 (0 : Int32).toNatClampNeg) - (1 : Int32)) x4 M h1 h2
    have hf := Fr_ts (Fr_refl (fun i k => 79 ≤ i ∨ i = x1) M) f10
    exact ⟨N12, hf, h1, h2, fun Q' hq => ⟨s1, ⟨fun z => absurd z hc2, fun _ => b11 _ hq⟩⟩⟩
set_option maxHeartbeats 4000000 in
theorem u_wX8_layOne_23 {Qa Qb : Mem → Prop} : ∀ (n1 n2 : Nat) (v1 : Int32) (M : Mem), wX8_layOne_23 Qa n1 v1 M → wX8_layOne_23 Qb n2 v1 M → (∃ (M' : Mem), Fr (fun i k => 79 ≤ i) M M' ∧ Qa M' ∧ Qb M' ∧ ∀ (Q' : Mem → Prop), Q' M' → wX8_layOne_23 Q' n1 v1 M) := by
  intro n1
  induction n1 with
  | zero => intro _ _ _ h1 _; exact h1.elim
  | succ n ih =>
    intro n2 v1 M h1 h2
    cases n2 with
    | zero => exact h2.elim
    | succ m =>
      have h1 : (vp_in (0 : Int32) (ln 82) ∧ (((M 82 (0 : Int32).toNatClampNeg) ≤ v1 → Qa M) ∧ (¬ (M 82 (0 : Int32).toNatClampNeg) ≤ v1 → (vp_in (0 : Int32) (ln 99) ∧ (vp_in v1 (ln 98) ∧ (vp_in (0 : Int32) (ln 83) ∧ (vp_in (0 : Int32) (ln 84) ∧ (wX8_goRead 99 (0 : Int32) ((mu M 98 v1.toNatClampNeg (M 99 (0 : Int32).toNatClampNeg)) 83 (0 : Int32).toNatClampNeg) ((mu M 98 v1.toNatClampNeg (M 99 (0 : Int32).toNatClampNeg)) 84 (0 : Int32).toNatClampNeg) v1 (mu M 98 v1.toNatClampNeg (M 99 (0 : Int32).toNatClampNeg)) (fun M3 => wX8_layOne_23 Qa n (v1 + (1 : Int32)) M3))))))))) := h1
      have h2 : (vp_in (0 : Int32) (ln 82) ∧ (((M 82 (0 : Int32).toNatClampNeg) ≤ v1 → Qb M) ∧ (¬ (M 82 (0 : Int32).toNatClampNeg) ≤ v1 → (vp_in (0 : Int32) (ln 99) ∧ (vp_in v1 (ln 98) ∧ (vp_in (0 : Int32) (ln 83) ∧ (vp_in (0 : Int32) (ln 84) ∧ (wX8_goRead 99 (0 : Int32) ((mu M 98 v1.toNatClampNeg (M 99 (0 : Int32).toNatClampNeg)) 83 (0 : Int32).toNatClampNeg) ((mu M 98 v1.toNatClampNeg (M 99 (0 : Int32).toNatClampNeg)) 84 (0 : Int32).toNatClampNeg) v1 (mu M 98 v1.toNatClampNeg (M 99 (0 : Int32).toNatClampNeg)) (fun M3 => wX8_layOne_23 Qb m (v1 + (1 : Int32)) M3))))))))) := h2
      have s1 := h1.1
      have h1 := h1.2
      have h2 := h2.2
      by_cases hc2 : (M 82 (0 : Int32).toNatClampNeg) ≤ v1
      · have h1 := h1.1 hc2
        have h2 := h2.1 hc2
        exact ⟨M, (Fr_refl (fun i k => 79 ≤ i) M), h1, h2, fun Q' hq => ⟨s1, ⟨fun _ => hq, fun z => absurd hc2 z⟩⟩⟩
      · have h1 := h1.2 hc2
        have h2 := h2.2 hc2
        have s3 := h1.1
        have h1 := h1.2
        have h2 := h2.2
        have s4 := h1.1
        have h1 := h1.2
        have h2 := h2.2
        have s5 := h1.1
        have h1 := h1.2
        have h2 := h2.2
        have s6 := h1.1
        have h1 := h1.2
        have h2 := h2.2
        obtain ⟨M3, f7, h1, h2, b8⟩ := u_wX8_goRead 99 (0 : Int32) ((mu M 98 v1.toNatClampNeg (M 99 (0 : Int32).toNatClampNeg)) 83 (0 : Int32).toNatClampNeg) ((mu M 98 v1.toNatClampNeg (M 99 (0 : Int32).toNatClampNeg)) 84 (0 : Int32).toNatClampNeg) v1 (mu M 98 v1.toNatClampNeg (M 99 (0 : Int32).toNatClampNeg)) h1 h2
        have g9 := Fr_tr (Fr_mu (Fr_refl (fun i k => 79 ≤ i) M) (show 79 ≤ 98 from by omega)) f7 (fun i k (h : 79 ≤ i ∨ i = 99) => (show 79 ≤ i from by omega))
        obtain ⟨N14, f12, h1, h2, b13⟩ := ih m (v1 + (1 : Int32)) M3 h1 h2
        have hf := Fr_ts g9 f12
        exact ⟨N14, hf, h1, h2, fun Q' hq => ⟨s1, ⟨fun z => absurd z hc2, fun _ => ⟨s3, ⟨s4, ⟨s5, ⟨s6, b8 _ (b13 _ hq)⟩⟩⟩⟩⟩⟩⟩
set_option maxHeartbeats 4000000 in
theorem u_wX8_layOne_2 {Qa Qb : Mem → Prop} : ∀ (n1 n2 : Nat) (v1 : Int32) (M : Mem), wX8_layOne_2 Qa n1 v1 M → wX8_layOne_2 Qb n2 v1 M → (∃ (M' : Mem), Fr (fun i k => 79 ≤ i) M M' ∧ Qa M' ∧ Qb M' ∧ ∀ (Q' : Mem → Prop), Q' M' → wX8_layOne_2 Q' n1 v1 M) := by
  intro n1
  induction n1 with
  | zero => intro _ _ _ h1 _; exact h1.elim
  | succ n ih =>
    intro n2 v1 M h1 h2
    cases n2 with
    | zero => exact h2.elim
    | succ m =>
      have h1 : (((40 : Int32) ≤ v1 → (∃ n2, wX8_layOne_23 Qa n2 (0 : Int32) M)) ∧ (¬ (40 : Int32) ≤ v1 → (vp_in v1 (ln 99) ∧ wX8_layOne_2 Qa n (v1 + (1 : Int32)) (mu M 99 v1.toNatClampNeg v1)))) := h1
      have h2 : (((40 : Int32) ≤ v1 → (∃ n2, wX8_layOne_23 Qb n2 (0 : Int32) M)) ∧ (¬ (40 : Int32) ≤ v1 → (vp_in v1 (ln 99) ∧ wX8_layOne_2 Qb m (v1 + (1 : Int32)) (mu M 99 v1.toNatClampNeg v1)))) := h2
      by_cases hc1 : (40 : Int32) ≤ v1
      · have h1 := h1.1 hc1
        have h2 := h2.1 hc1
        obtain ⟨n2_a, h1⟩ := h1
        obtain ⟨n2_b, h2⟩ := h2
        obtain ⟨N6, f4, h1, h2, b5⟩ := u_wX8_layOne_23 n2_a n2_b (0 : Int32) M h1 h2
        have hf := Fr_ts (Fr_refl (fun i k => 79 ≤ i) M) f4
        exact ⟨N6, hf, h1, h2, fun Q' hq => ⟨fun _ => ⟨n2_a, b5 _ hq⟩, fun z => absurd hc1 z⟩⟩
      · have h1 := h1.2 hc1
        have h2 := h2.2 hc1
        have s7 := h1.1
        have h1 := h1.2
        have h2 := h2.2
        obtain ⟨N12, f10, h1, h2, b11⟩ := ih m (v1 + (1 : Int32)) (mu M 99 v1.toNatClampNeg v1) h1 h2
        have hf := Fr_ts (Fr_mu (Fr_refl (fun i k => 79 ≤ i) M) (show 79 ≤ 99 from by omega)) f10
        exact ⟨N12, hf, h1, h2, fun Q' hq => ⟨fun z => absurd z hc1, fun _ => ⟨s7, b11 _ hq⟩⟩⟩
set_option maxHeartbeats 4000000 in
theorem u_wX8_layOne {Qa Qb : Mem → Prop} (M : Mem) (h1 : wX8_layOne M Qa) (h2 : wX8_layOne M Qb) : (∃ (M' : Mem), Fr (fun i k => 79 ≤ i) M M' ∧ Qa M' ∧ Qb M' ∧ ∀ (Q' : Mem → Prop), Q' M' → wX8_layOne M Q') := by
  have h1 : (∃ n1, wX8_layOne_2 Qa n1 (0 : Int32) M) := h1
  have h2 : (∃ n1, wX8_layOne_2 Qb n1 (0 : Int32) M) := h2
  obtain ⟨n1_a, h1⟩ := h1
  obtain ⟨n1_b, h2⟩ := h2
  obtain ⟨N5, f3, h1, h2, b4⟩ := u_wX8_layOne_2 n1_a n1_b (0 : Int32) M h1 h2
  have hf := Fr_ts (Fr_refl (fun i k => 79 ≤ i) M) f3
  exact ⟨N5, hf, h1, h2, fun Q' hq => ⟨n1_a, b4 _ hq⟩⟩
set_option maxHeartbeats 4000000 in
theorem u_wX8_layBook_99 {Qa Qb : Mem → Prop} : ∀ (n1 n2 : Nat) (v1 : Int32) (M : Mem), wX8_layBook_99 Qa n1 v1 M → wX8_layBook_99 Qb n2 v1 M → (∃ (M' : Mem), Fr (fun i k => 79 ≤ i) M M' ∧ Qa M' ∧ Qb M' ∧ ∀ (Q' : Mem → Prop), Q' M' → wX8_layBook_99 Q' n1 v1 M) := by
  intro n1
  induction n1 with
  | zero => intro _ _ _ h1 _; exact h1.elim
  | succ n ih =>
    intro n2 v1 M h1 h2
    cases n2 with
    | zero => exact h2.elim
    | succ m =>
      have h1 : (((40 : Int32) ≤ v1 → (vp_in (0 : Int32) (ln 91) ∧ (vp_in (0 : Int32) (ln 92) ∧ (wX8_layOne (mu (mu (mu (mu M 91 (0 : Int32).toNatClampNeg (0 : Int32)) 92 (0 : Int32).toNatClampNeg (0 : Int32)) 79 14 (0 : Int32)) 79 15 (0 : Int32)) (fun M4 => Qa M4))))) ∧ (¬ (40 : Int32) ≤ v1 → (vp_in v1 (ln 89) ∧ (vp_in v1 (ln 90) ∧ wX8_layBook_99 Qa n (v1 + (1 : Int32)) (mu M 90 v1.toNatClampNeg (M 89 v1.toNatClampNeg)))))) := h1
      have h2 : (((40 : Int32) ≤ v1 → (vp_in (0 : Int32) (ln 91) ∧ (vp_in (0 : Int32) (ln 92) ∧ (wX8_layOne (mu (mu (mu (mu M 91 (0 : Int32).toNatClampNeg (0 : Int32)) 92 (0 : Int32).toNatClampNeg (0 : Int32)) 79 14 (0 : Int32)) 79 15 (0 : Int32)) (fun M4 => Qb M4))))) ∧ (¬ (40 : Int32) ≤ v1 → (vp_in v1 (ln 89) ∧ (vp_in v1 (ln 90) ∧ wX8_layBook_99 Qb m (v1 + (1 : Int32)) (mu M 90 v1.toNatClampNeg (M 89 v1.toNatClampNeg)))))) := h2
      by_cases hc1 : (40 : Int32) ≤ v1
      · have h1 := h1.1 hc1
        have h2 := h2.1 hc1
        have s2 := h1.1
        have h1 := h1.2
        have h2 := h2.2
        have s3 := h1.1
        have h1 := h1.2
        have h2 := h2.2
        obtain ⟨M4, f4, h1, h2, b5⟩ := u_wX8_layOne (mu (mu (mu (mu M 91 (0 : Int32).toNatClampNeg (0 : Int32)) 92 (0 : Int32).toNatClampNeg (0 : Int32)) 79 14 (0 : Int32)) 79 15 (0 : Int32)) h1 h2
        have g6 := Fr_tr (Fr_mu (Fr_mu (Fr_mu (Fr_mu (Fr_refl (fun i k => 79 ≤ i) M) (show 79 ≤ 91 from by omega)) (show 79 ≤ 92 from by omega)) (show 79 ≤ 79 from by omega)) (show 79 ≤ 79 from by omega)) f4 (fun i k (h : 79 ≤ i) => (show 79 ≤ i from by omega))
        exact ⟨M4, g6, h1, h2, fun Q' hq => ⟨fun _ => ⟨s2, ⟨s3, b5 _ hq⟩⟩, fun z => absurd hc1 z⟩⟩
      · have h1 := h1.2 hc1
        have h2 := h2.2 hc1
        have s7 := h1.1
        have h1 := h1.2
        have h2 := h2.2
        have s8 := h1.1
        have h1 := h1.2
        have h2 := h2.2
        obtain ⟨N13, f11, h1, h2, b12⟩ := ih m (v1 + (1 : Int32)) (mu M 90 v1.toNatClampNeg (M 89 v1.toNatClampNeg)) h1 h2
        have hf := Fr_ts (Fr_mu (Fr_refl (fun i k => 79 ≤ i) M) (show 79 ≤ 90 from by omega)) f11
        exact ⟨N13, hf, h1, h2, fun Q' hq => ⟨fun z => absurd z hc1, fun _ => ⟨s7, ⟨s8, b12 _ hq⟩⟩⟩⟩
set_option maxHeartbeats 4000000 in
theorem u_wX8_layBook_23 {Qa Qb : Mem → Prop} : ∀ (n1 n2 : Nat) (v1 : Int32) (M : Mem), wX8_layBook_23 Qa n1 v1 M → wX8_layBook_23 Qb n2 v1 M → (∃ (M' : Mem), Fr (fun i k => 79 ≤ i) M M' ∧ Qa M' ∧ Qb M' ∧ ∀ (Q' : Mem → Prop), Q' M' → wX8_layBook_23 Q' n1 v1 M) := by
  intro n1
  induction n1 with
  | zero => intro _ _ _ h1 _; exact h1.elim
  | succ n ih =>
    intro n2 v1 M h1 h2
    cases n2 with
    | zero => exact h2.elim
    | succ m =>
      have h1 : (vp_in (0 : Int32) (ln 85) ∧ (((M 85 (0 : Int32).toNatClampNeg) ≤ v1 → (∃ n3, wX8_layBook_99 Qa n3 (0 : Int32) M)) ∧ (¬ (M 85 (0 : Int32).toNatClampNeg) ≤ v1 → (vp_in ((2 : Int32) * v1) (ln 86) ∧ (vp_in (M 86 ((2 : Int32) * v1).toNatClampNeg) (ln 89) ∧ (vp_in ((2 : Int32) * v1) (ln 86) ∧ (vp_in (((2 : Int32) * v1) + (1 : Int32)) (ln 86) ∧ (vp_in (M 86 (((2 : Int32) * v1) + (1 : Int32)).toNatClampNeg) (ln 89) ∧ (vp_in (M 86 ((2 : Int32) * v1).toNatClampNeg) (ln 89) ∧ (vp_in (((2 : Int32) * v1) + (1 : Int32)) (ln 86) ∧ (vp_in ((mu M 89 (M 86 ((2 : Int32) * v1).toNatClampNeg).toNatClampNeg (M 89 (M 86 (((2 : Int32) * v1) + (1 : Int32)).toNatClampNeg).toNatClampNeg)) 86 (((2 : Int32) * v1) + (1 : Int32)).toNatClampNeg) (ln 89) ∧ wX8_layBook_23 Qa n (v1 + (1 : Int32)) (mu (mu M 89 (M 86 ((2 : Int32) * v1).toNatClampNeg).toNatClampNeg (M 89 (M 86 (((2 : Int32) * v1) + (1 : Int32)).toNatClampNeg).toNatClampNeg)) 89 ((mu M 89 (M 86 ((2 : Int32) * v1).toNatClampNeg).toNatClampNeg (M 89 (M 86 (((2 : Int32) * v1) + (1 : Int32)).toNatClampNeg).toNatClampNeg)) 86 (((2 : Int32) * v1) + (1 : Int32)).toNatClampNeg).toNatClampNeg (M 89 (M 86 ((2 : Int32) * v1).toNatClampNeg).toNatClampNeg))))))))))))) := h1
      have h2 : (vp_in (0 : Int32) (ln 85) ∧ (((M 85 (0 : Int32).toNatClampNeg) ≤ v1 → (∃ n3, wX8_layBook_99 Qb n3 (0 : Int32) M)) ∧ (¬ (M 85 (0 : Int32).toNatClampNeg) ≤ v1 → (vp_in ((2 : Int32) * v1) (ln 86) ∧ (vp_in (M 86 ((2 : Int32) * v1).toNatClampNeg) (ln 89) ∧ (vp_in ((2 : Int32) * v1) (ln 86) ∧ (vp_in (((2 : Int32) * v1) + (1 : Int32)) (ln 86) ∧ (vp_in (M 86 (((2 : Int32) * v1) + (1 : Int32)).toNatClampNeg) (ln 89) ∧ (vp_in (M 86 ((2 : Int32) * v1).toNatClampNeg) (ln 89) ∧ (vp_in (((2 : Int32) * v1) + (1 : Int32)) (ln 86) ∧ (vp_in ((mu M 89 (M 86 ((2 : Int32) * v1).toNatClampNeg).toNatClampNeg (M 89 (M 86 (((2 : Int32) * v1) + (1 : Int32)).toNatClampNeg).toNatClampNeg)) 86 (((2 : Int32) * v1) + (1 : Int32)).toNatClampNeg) (ln 89) ∧ wX8_layBook_23 Qb m (v1 + (1 : Int32)) (mu (mu M 89 (M 86 ((2 : Int32) * v1).toNatClampNeg).toNatClampNeg (M 89 (M 86 (((2 : Int32) * v1) + (1 : Int32)).toNatClampNeg).toNatClampNeg)) 89 ((mu M 89 (M 86 ((2 : Int32) * v1).toNatClampNeg).toNatClampNeg (M 89 (M 86 (((2 : Int32) * v1) + (1 : Int32)).toNatClampNeg).toNatClampNeg)) 86 (((2 : Int32) * v1) + (1 : Int32)).toNatClampNeg).toNatClampNeg (M 89 (M 86 ((2 : Int32) * v1).toNatClampNeg).toNatClampNeg))))))))))))) := h2
      have s1 := h1.1
      have h1 := h1.2
      have h2 := h2.2
      by_cases hc2 : (M 85 (0 : Int32).toNatClampNeg) ≤ v1
      · have h1 := h1.1 hc2
        have h2 := h2.1 hc2
        obtain ⟨n3_a, h1⟩ := h1
        obtain ⟨n3_b, h2⟩ := h2
        obtain ⟨N7, f5, h1, h2, b6⟩ := u_wX8_layBook_99 n3_a n3_b (0 : Int32) M h1 h2
        have hf := Fr_ts (Fr_refl (fun i k => 79 ≤ i) M) f5
        exact ⟨N7, hf, h1, h2, fun Q' hq => ⟨s1, ⟨fun _ => ⟨n3_a, b6 _ hq⟩, fun z => absurd hc2 z⟩⟩⟩
      · have h1 := h1.2 hc2
        have h2 := h2.2 hc2
        have s8 := h1.1
        have h1 := h1.2
        have h2 := h2.2
        have s9 := h1.1
        have h1 := h1.2
        have h2 := h2.2
        have s10 := h1.1
        have h1 := h1.2
        have h2 := h2.2
        have s11 := h1.1
        have h1 := h1.2
        have h2 := h2.2
        have s12 := h1.1
        have h1 := h1.2
        have h2 := h2.2
        have s13 := h1.1
        have h1 := h1.2
        have h2 := h2.2
        have s14 := h1.1
        have h1 := h1.2
        have h2 := h2.2
        have s15 := h1.1
        have h1 := h1.2
        have h2 := h2.2
        obtain ⟨N20, f18, h1, h2, b19⟩ := ih m (v1 + (1 : Int32)) (mu (mu M 89 (M 86 ((2 : Int32) * v1).toNatClampNeg).toNatClampNeg (M 89 (M 86 (((2 : Int32) * v1) + (1 : Int32)).toNatClampNeg).toNatClampNeg)) 89 ((mu M 89 (M 86 ((2 : Int32) * v1).toNatClampNeg).toNatClampNeg (M 89 (M 86 (((2 : Int32) * v1) + (1 : Int32)).toNatClampNeg).toNatClampNeg)) 86 (((2 : Int32) * v1) + (1 : Int32)).toNatClampNeg).toNatClampNeg (M 89 (M 86 ((2 : Int32) * v1).toNatClampNeg).toNatClampNeg)) h1 h2
        have hf := Fr_ts (Fr_mu (Fr_mu (Fr_refl (fun i k => 79 ≤ i) M) (show 79 ≤ 89 from by omega)) (show 79 ≤ 89 from by omega)) f18
        exact ⟨N20, hf, h1, h2, fun Q' hq => ⟨s1, ⟨fun z => absurd z hc2, fun _ => ⟨s8, ⟨s9, ⟨s10, ⟨s11, ⟨s12, ⟨s13, ⟨s14, ⟨s15, b19 _ hq⟩⟩⟩⟩⟩⟩⟩⟩⟩⟩⟩
set_option maxHeartbeats 4000000 in
theorem u_wX8_layBook_2 {Qa Qb : Mem → Prop} : ∀ (n1 n2 : Nat) (v1 : Int32) (M : Mem), wX8_layBook_2 Qa n1 v1 M → wX8_layBook_2 Qb n2 v1 M → (∃ (M' : Mem), Fr (fun i k => 79 ≤ i) M M' ∧ Qa M' ∧ Qb M' ∧ ∀ (Q' : Mem → Prop), Q' M' → wX8_layBook_2 Q' n1 v1 M) := by
  intro n1
  induction n1 with
  | zero => intro _ _ _ h1 _; exact h1.elim
  | succ n ih =>
    intro n2 v1 M h1 h2
    cases n2 with
    | zero => exact h2.elim
    | succ m =>
      have h1 : (((40 : Int32) ≤ v1 → (∃ n2, wX8_layBook_23 Qa n2 (0 : Int32) M)) ∧ (¬ (40 : Int32) ≤ v1 → (vp_in v1 (ln 89) ∧ wX8_layBook_2 Qa n (v1 + (1 : Int32)) (mu M 89 v1.toNatClampNeg v1)))) := h1
      have h2 : (((40 : Int32) ≤ v1 → (∃ n2, wX8_layBook_23 Qb n2 (0 : Int32) M)) ∧ (¬ (40 : Int32) ≤ v1 → (vp_in v1 (ln 89) ∧ wX8_layBook_2 Qb m (v1 + (1 : Int32)) (mu M 89 v1.toNatClampNeg v1)))) := h2
      by_cases hc1 : (40 : Int32) ≤ v1
      · have h1 := h1.1 hc1
        have h2 := h2.1 hc1
        obtain ⟨n2_a, h1⟩ := h1
        obtain ⟨n2_b, h2⟩ := h2
        obtain ⟨N6, f4, h1, h2, b5⟩ := u_wX8_layBook_23 n2_a n2_b (0 : Int32) M h1 h2
        have hf := Fr_ts (Fr_refl (fun i k => 79 ≤ i) M) f4
        exact ⟨N6, hf, h1, h2, fun Q' hq => ⟨fun _ => ⟨n2_a, b5 _ hq⟩, fun z => absurd hc1 z⟩⟩
      · have h1 := h1.2 hc1
        have h2 := h2.2 hc1
        have s7 := h1.1
        have h1 := h1.2
        have h2 := h2.2
        obtain ⟨N12, f10, h1, h2, b11⟩ := ih m (v1 + (1 : Int32)) (mu M 89 v1.toNatClampNeg v1) h1 h2
        have hf := Fr_ts (Fr_mu (Fr_refl (fun i k => 79 ≤ i) M) (show 79 ≤ 89 from by omega)) f10
        exact ⟨N12, hf, h1, h2, fun Q' hq => ⟨fun z => absurd z hc1, fun _ => ⟨s7, b11 _ hq⟩⟩⟩
set_option maxHeartbeats 4000000 in
theorem u_wX8_layBook {Qa Qb : Mem → Prop} (M : Mem) (h1 : wX8_layBook M Qa) (h2 : wX8_layBook M Qb) : (∃ (M' : Mem), Fr (fun i k => 79 ≤ i) M M' ∧ Qa M' ∧ Qb M' ∧ ∀ (Q' : Mem → Prop), Q' M' → wX8_layBook M Q') := by
  have h1 : (∃ n1, wX8_layBook_2 Qa n1 (0 : Int32) M) := h1
  have h2 : (∃ n1, wX8_layBook_2 Qb n1 (0 : Int32) M) := h2
  obtain ⟨n1_a, h1⟩ := h1
  obtain ⟨n1_b, h2⟩ := h2
  obtain ⟨N5, f3, h1, h2, b4⟩ := u_wX8_layBook_2 n1_a n1_b (0 : Int32) M h1 h2
  have hf := Fr_ts (Fr_refl (fun i k => 79 ≤ i) M) f3
  exact ⟨N5, hf, h1, h2, fun Q' hq => ⟨n1_a, b4 _ hq⟩⟩
set_option maxHeartbeats 4000000 in
theorem u_wX8_lay_16 {Qa Qb : Int32 → Mem → Prop} (M : Mem) (h1 : wX8_lay_16 Qa M) (h2 : wX8_lay_16 Qb M) : (∃ (a0 : Int32) (M' : Mem), Fr (fun i k => 79 ≤ i) M M' ∧ Qa a0 M' ∧ Qb a0 M' ∧ ∀ (Q' : Int32 → Mem → Prop), Q' a0 M' → wX8_lay_16 Q' M) := by
  have h1 : Qa (-2 : Int32) M := h1
  have h2 : Qb (-2 : Int32) M := h2
  exact ⟨(-2 : Int32), M, (Fr_refl (fun i k => 79 ≤ i) M), h1, h2, fun Q' hq => hq⟩
set_option maxHeartbeats 4000000 in
theorem u_wX8_lay_122 {Qa Qb : Int32 → Mem → Prop} : ∀ (n1 n2 : Nat) (v1 : Int32) (M : Mem), wX8_lay_122 Qa n1 v1 M → wX8_lay_122 Qb n2 v1 M → (∃ (a0 : Int32) (M' : Mem), Fr (fun i k => 79 ≤ i) M M' ∧ Qa a0 M' ∧ Qb a0 M' ∧ ∀ (Q' : Int32 → Mem → Prop), Q' a0 M' → wX8_lay_122 Q' n1 v1 M) := by
  intro n1
  induction n1 with
  | zero => intro _ _ _ h1 _; exact h1.elim
  | succ n ih =>
    intro n2 v1 M h1 h2
    cases n2 with
    | zero => exact h2.elim
    | succ m =>
      have h1 : (((20 : Int32) ≤ v1 → (wX8_layBook M (fun M7 => (vp_in (0 : Int32) (ln 81) ∧ Qa (M7 81 (0 : Int32).toNatClampNeg) M7)))) ∧ (¬ (20 : Int32) ≤ v1 → (vp_in ((20 : Int32) + v1) (ln 88) ∧ (vp_in v1 (ln 88) ∧ wX8_lay_122 Qa n (v1 + (1 : Int32)) (mu M 88 v1.toNatClampNeg (M 88 ((20 : Int32) + v1).toNatClampNeg)))))) := h1
      have h2 : (((20 : Int32) ≤ v1 → (wX8_layBook M (fun M7 => (vp_in (0 : Int32) (ln 81) ∧ Qb (M7 81 (0 : Int32).toNatClampNeg) M7)))) ∧ (¬ (20 : Int32) ≤ v1 → (vp_in ((20 : Int32) + v1) (ln 88) ∧ (vp_in v1 (ln 88) ∧ wX8_lay_122 Qb m (v1 + (1 : Int32)) (mu M 88 v1.toNatClampNeg (M 88 ((20 : Int32) + v1).toNatClampNeg)))))) := h2
      by_cases hc1 : (20 : Int32) ≤ v1
      · have h1 := h1.1 hc1
        have h2 := h2.1 hc1
        obtain ⟨M7, f2, h1, h2, b3⟩ := u_wX8_layBook M h1 h2
        have g4 := Fr_tr (Fr_refl (fun i k => 79 ≤ i) M) f2 (fun i k (h : 79 ≤ i) => (show 79 ≤ i from by omega))
        have s5 := h1.1
        have h1 := h1.2
        have h2 := h2.2
        exact ⟨(M7 81 (0 : Int32).toNatClampNeg), M7, g4, h1, h2, fun Q' hq => ⟨fun _ => b3 _ ⟨s5, hq⟩, fun z => absurd hc1 z⟩⟩
      · have h1 := h1.2 hc1
        have h2 := h2.2 hc1
        have s6 := h1.1
        have h1 := h1.2
        have h2 := h2.2
        have s7 := h1.1
        have h1 := h1.2
        have h2 := h2.2
        obtain ⟨c12, N13, f10, h1, h2, b11⟩ := ih m (v1 + (1 : Int32)) (mu M 88 v1.toNatClampNeg (M 88 ((20 : Int32) + v1).toNatClampNeg)) h1 h2
        have hf := Fr_ts (Fr_mu (Fr_refl (fun i k => 79 ≤ i) M) (show 79 ≤ 88 from by omega)) f10
        exact ⟨c12, N13, hf, h1, h2, fun Q' hq => ⟨fun z => absurd z hc1, fun _ => ⟨s6, ⟨s7, b11 _ hq⟩⟩⟩⟩
set_option maxHeartbeats 4000000 in
theorem u_wX8_lay_93 {Qa Qb : Int32 → Mem → Prop} : ∀ (n1 n2 : Nat) (v1 : Int32) (M : Mem), wX8_lay_93 Qa n1 v1 M → wX8_lay_93 Qb n2 v1 M → (∃ (a0 : Int32) (M' : Mem), Fr (fun i k => 79 ≤ i) M M' ∧ Qa a0 M' ∧ Qb a0 M' ∧ ∀ (Q' : Int32 → Mem → Prop), Q' a0 M' → wX8_lay_93 Q' n1 v1 M) := by
  intro n1
  induction n1 with
  | zero => intro _ _ _ h1 _; exact h1.elim
  | succ n ih =>
    intro n2 v1 M h1 h2
    cases n2 with
    | zero => exact h2.elim
    | succ m =>
      have h1 : (((40 : Int32) ≤ v1 → (∃ n6, wX8_lay_122 Qa n6 (0 : Int32) M)) ∧ (¬ (40 : Int32) ≤ v1 → (vp_in ((40 : Int32) + v1) (ln 86) ∧ (vp_in v1 (ln 86) ∧ wX8_lay_93 Qa n (v1 + (1 : Int32)) (mu M 86 v1.toNatClampNeg (M 86 ((40 : Int32) + v1).toNatClampNeg)))))) := h1
      have h2 : (((40 : Int32) ≤ v1 → (∃ n6, wX8_lay_122 Qb n6 (0 : Int32) M)) ∧ (¬ (40 : Int32) ≤ v1 → (vp_in ((40 : Int32) + v1) (ln 86) ∧ (vp_in v1 (ln 86) ∧ wX8_lay_93 Qb m (v1 + (1 : Int32)) (mu M 86 v1.toNatClampNeg (M 86 ((40 : Int32) + v1).toNatClampNeg)))))) := h2
      by_cases hc1 : (40 : Int32) ≤ v1
      · have h1 := h1.1 hc1
        have h2 := h2.1 hc1
        obtain ⟨n6_a, h1⟩ := h1
        obtain ⟨n6_b, h2⟩ := h2
        obtain ⟨c6, N7, f4, h1, h2, b5⟩ := u_wX8_lay_122 n6_a n6_b (0 : Int32) M h1 h2
        have hf := Fr_ts (Fr_refl (fun i k => 79 ≤ i) M) f4
        exact ⟨c6, N7, hf, h1, h2, fun Q' hq => ⟨fun _ => ⟨n6_a, b5 _ hq⟩, fun z => absurd hc1 z⟩⟩
      · have h1 := h1.2 hc1
        have h2 := h2.2 hc1
        have s8 := h1.1
        have h1 := h1.2
        have h2 := h2.2
        have s9 := h1.1
        have h1 := h1.2
        have h2 := h2.2
        obtain ⟨c14, N15, f12, h1, h2, b13⟩ := ih m (v1 + (1 : Int32)) (mu M 86 v1.toNatClampNeg (M 86 ((40 : Int32) + v1).toNatClampNeg)) h1 h2
        have hf := Fr_ts (Fr_mu (Fr_refl (fun i k => 79 ≤ i) M) (show 79 ≤ 86 from by omega)) f12
        exact ⟨c14, N15, hf, h1, h2, fun Q' hq => ⟨fun z => absurd z hc1, fun _ => ⟨s8, ⟨s9, b13 _ hq⟩⟩⟩⟩
set_option maxHeartbeats 4000000 in
theorem u_wX8_lay {Qa Qb : Int32 → Mem → Prop} (M : Mem) (h1 : wX8_lay M Qa) (h2 : wX8_lay M Qb) : (∃ (a0 : Int32) (M' : Mem), Fr (fun i k => 79 ≤ i) M M' ∧ Qa a0 M' ∧ Qb a0 M' ∧ ∀ (Q' : Int32 → Mem → Prop), Q' a0 M' → wX8_lay M Q') := by
  have h1 : (wX8_readAll M (fun r2 M1 => ((¬ r2 = (-4 : Int32) → wX8_lay_16 Qa M1) ∧ (r2 = (-4 : Int32) → (wX8_areBelow M1 (fun r4 M3 => ((¬ r4 = 0 → (vp_in (1 : Int32) (ln 81) ∧ (vp_in (0 : Int32) (ln 81) ∧ (vp_in (1 : Int32) (ln 82) ∧ (vp_in (0 : Int32) (ln 82) ∧ (vp_in (1 : Int32) (ln 83) ∧ (vp_in (0 : Int32) (ln 83) ∧ (vp_in (1 : Int32) (ln 84) ∧ (vp_in (0 : Int32) (ln 84) ∧ (vp_in (1 : Int32) (ln 85) ∧ (vp_in (0 : Int32) (ln 85) ∧ (vp_in (1 : Int32) (ln 87) ∧ (vp_in (0 : Int32) (ln 87) ∧ (∃ n5, wX8_lay_93 Qa n5 (0 : Int32) (mu (mu (mu (mu (mu (mu M3 81 (0 : Int32).toNatClampNeg (M3 81 (1 : Int32).toNatClampNeg)) 82 (0 : Int32).toNatClampNeg ((mu M3 81 (0 : Int32).toNatClampNeg (M3 81 (1 : Int32).toNatClampNeg)) 82 (1 : Int32).toNatClampNeg)) 83 (0 : Int32).toNatClampNeg ((mu (mu M3 81 (0 : Int32).toNatClampNeg (M3 81 (1 : Int32).toNatClampNeg)) 82 (0 : Int32).toNatClampNeg ((mu M3 81 (0 : Int32).toNatClampNeg (M3 81 (1 : Int32).toNatClampNeg)) 82 (1 : Int32).toNatClampNeg)) 83 (1 : Int32).toNatClampNeg)) 84 (0 : Int32).toNatClampNeg ((mu (mu (mu M3 81 (0 : Int32).toNatClampNeg (M3 81 (1 : Int32).toNatClampNeg)) 82 (0 : Int32).toNatClampNeg ((mu M3 81 (0 : Int32).toNatClampNeg (M3 81 (1 : Int32).toNatClampNeg)) 82 (1 : Int32).toNatClampNeg)) 83 (0 : Int32).toNatClampNeg ((mu (mu M3 81 (0 : Int32).toNatClampNeg (M3 81 (1 : Int32).toNatClampNeg)) 82 (0 : Int32).toNatClampNeg ((mu M3 81 (0 : Int32).toNatClampNeg (M3 81 (1 : Int32).toNatClampNeg)) 82 (1 : Int32).toNatClampNeg)) 83 (1 : Int32).toNatClampNeg)) 84 (1 : Int32).toNatClampNeg)) 85 (0 : Int32).toNatClampNeg ((mu (mu (mu (mu M3 81 (0 : Int32).toNatClampNeg (M3 81 (1 : Int32).toNatClampNeg)) 82 (0 : Int32).toNatClampNeg ((mu M3 81 (0 : Int32).toNatClampNeg (M3 81 (1 : Int32).toNatClampNeg)) 82 (1 : Int32).toNatClampNeg)) 83 (0 : Int32).toNatClampNeg ((mu (mu M3 81 (0 : Int32).toNatClampNeg (M3 81 (1 : Int32).toNatClampNeg)) 82 (0 : Int32).toNatClampNeg ((mu M3 81 (0 : Int32).toNatClampNeg (M3 81 (1 : Int32).toNatClampNeg)) 82 (1 : Int32).toNatClampNeg)) 83 (1 : Int32).toNatClampNeg)) 84 (0 : Int32).toNatClampNeg ((mu (mu (mu M3 81 (0 : Int32).toNatClampNeg (M3 81 (1 : Int32).toNatClampNeg)) 82 (0 : Int32).toNatClampNeg ((mu M3 81 (0 : Int32).toNatClampNeg (M3 81 (1 : Int32).toNatClampNeg)) 82 (1 : Int32).toNatClampNeg)) 83 (0 : Int32).toNatClampNeg ((mu (mu M3 81 (0 : Int32).toNatClampNeg (M3 81 (1 : Int32).toNatClampNeg)) 82 (0 : Int32).toNatClampNeg ((mu M3 81 (0 : Int32).toNatClampNeg (M3 81 (1 : Int32).toNatClampNeg)) 82 (1 : Int32).toNatClampNeg)) 83 (1 : Int32).toNatClampNeg)) 84 (1 : Int32).toNatClampNeg)) 85 (1 : Int32).toNatClampNeg)) 87 (0 : Int32).toNatClampNeg ((mu (mu (mu (mu (mu M3 81 (0 : Int32).toNatClampNeg (M3 81 (1 : Int32).toNatClampNeg)) 82 (0 : Int32).toNatClampNeg ((mu M3 81 (0 : Int32).toNatClampNeg (M3 81 (1 : Int32).toNatClampNeg)) 82 (1 : Int32).toNatClampNeg)) 83 (0 : Int32).toNatClampNeg ((mu (mu M3 81 (0 : Int32).toNatClampNeg (M3 81 (1 : Int32).toNatClampNeg)) 82 (0 : Int32).toNatClampNeg ((mu M3 81 (0 : Int32).toNatClampNeg (M3 81 (1 : Int32).toNatClampNeg)) 82 (1 : Int32).toNatClampNeg)) 83 (1 : Int32).toNatClampNeg)) 84 (0 : Int32).toNatClampNeg ((mu (mu (mu M3 81 (0 : Int32).toNatClampNeg (M3 81 (1 : Int32).toNatClampNeg)) 82 (0 : Int32).toNatClampNeg ((mu M3 81 (0 : Int32).toNatClampNeg (M3 81 (1 : Int32).toNatClampNeg)) 82 (1 : Int32).toNatClampNeg)) 83 (0 : Int32).toNatClampNeg ((mu (mu M3 81 (0 : Int32).toNatClampNeg (M3 81 (1 : Int32).toNatClampNeg)) 82 (0 : Int32).toNatClampNeg ((mu M3 81 (0 : Int32).toNatClampNeg (M3 81 (1 : Int32).toNatClampNeg)) 82 (1 : Int32).toNatClampNeg)) 83 (1 : Int32).toNatClampNeg)) 84 (1 : Int32).toNatClampNeg)) 85 (0 : Int32).toNatClampNeg ((mu (mu (mu (mu M3 81 (0 : Int32).toNatClampNeg (M3 81 (1 : Int32).toNatClampNeg)) 82 (0 : Int32).toNatClampNeg ((mu M3 81 (0 : Int32).toNatClampNeg (M3 81 (1 : Int32).toNatClampNeg)) 82 (1 : Int32).toNatClampNeg)) 83 (0 : Int32).toNatClampNeg ((mu (mu M3 81 (0 : Int32).toNatClampNeg (M3 81 (1 : Int32).toNatClampNeg)) 82 (0 : Int32).toNatClampNeg ((mu M3 81 (0 : Int32).toNatClampNeg (M3 81 (1 : Int32).toNatClampNeg)) 82 (1 : Int32).toNatClampNeg)) 83 (1 : Int32).toNatClampNeg)) 84 (0 : Int32).toNatClampNeg ((mu (mu (mu M3 81 (0 : Int32).toNatClampNeg (M3 81 (1 : Int32).toNatClampNeg)) 82 (0 : Int32).toNatClampNeg ((mu M3 81 (0 : Int32).toNatClampNeg (M3 81 (1 : Int32).toNatClampNeg)) 82 (1 : Int32).toNatClampNeg)) 83 (0 : Int32).toNatClampNeg ((mu (mu M3 81 (0 : Int32).toNatClampNeg (M3 81 (1 : Int32).toNatClampNeg)) 82 (0 : Int32).toNatClampNeg ((mu M3 81 (0 : Int32).toNatClampNeg (M3 81 (1 : Int32).toNatClampNeg)) 82 (1 : Int32).toNatClampNeg)) 83 (1 : Int32).toNatClampNeg)) 84 (1 : Int32).toNatClampNeg)) 85 (1 : Int32).toNatClampNeg)) 87 (1 : Int32).toNatClampNeg)))))))))))))))) ∧ (r4 = 0 → wX8_lay_16 Qa M3)))))))) := h1
  have h2 : (wX8_readAll M (fun r2 M1 => ((¬ r2 = (-4 : Int32) → wX8_lay_16 Qb M1) ∧ (r2 = (-4 : Int32) → (wX8_areBelow M1 (fun r4 M3 => ((¬ r4 = 0 → (vp_in (1 : Int32) (ln 81) ∧ (vp_in (0 : Int32) (ln 81) ∧ (vp_in (1 : Int32) (ln 82) ∧ (vp_in (0 : Int32) (ln 82) ∧ (vp_in (1 : Int32) (ln 83) ∧ (vp_in (0 : Int32) (ln 83) ∧ (vp_in (1 : Int32) (ln 84) ∧ (vp_in (0 : Int32) (ln 84) ∧ (vp_in (1 : Int32) (ln 85) ∧ (vp_in (0 : Int32) (ln 85) ∧ (vp_in (1 : Int32) (ln 87) ∧ (vp_in (0 : Int32) (ln 87) ∧ (∃ n5, wX8_lay_93 Qb n5 (0 : Int32) (mu (mu (mu (mu (mu (mu M3 81 (0 : Int32).toNatClampNeg (M3 81 (1 : Int32).toNatClampNeg)) 82 (0 : Int32).toNatClampNeg ((mu M3 81 (0 : Int32).toNatClampNeg (M3 81 (1 : Int32).toNatClampNeg)) 82 (1 : Int32).toNatClampNeg)) 83 (0 : Int32).toNatClampNeg ((mu (mu M3 81 (0 : Int32).toNatClampNeg (M3 81 (1 : Int32).toNatClampNeg)) 82 (0 : Int32).toNatClampNeg ((mu M3 81 (0 : Int32).toNatClampNeg (M3 81 (1 : Int32).toNatClampNeg)) 82 (1 : Int32).toNatClampNeg)) 83 (1 : Int32).toNatClampNeg)) 84 (0 : Int32).toNatClampNeg ((mu (mu (mu M3 81 (0 : Int32).toNatClampNeg (M3 81 (1 : Int32).toNatClampNeg)) 82 (0 : Int32).toNatClampNeg ((mu M3 81 (0 : Int32).toNatClampNeg (M3 81 (1 : Int32).toNatClampNeg)) 82 (1 : Int32).toNatClampNeg)) 83 (0 : Int32).toNatClampNeg ((mu (mu M3 81 (0 : Int32).toNatClampNeg (M3 81 (1 : Int32).toNatClampNeg)) 82 (0 : Int32).toNatClampNeg ((mu M3 81 (0 : Int32).toNatClampNeg (M3 81 (1 : Int32).toNatClampNeg)) 82 (1 : Int32).toNatClampNeg)) 83 (1 : Int32).toNatClampNeg)) 84 (1 : Int32).toNatClampNeg)) 85 (0 : Int32).toNatClampNeg ((mu (mu (mu (mu M3 81 (0 : Int32).toNatClampNeg (M3 81 (1 : Int32).toNatClampNeg)) 82 (0 : Int32).toNatClampNeg ((mu M3 81 (0 : Int32).toNatClampNeg (M3 81 (1 : Int32).toNatClampNeg)) 82 (1 : Int32).toNatClampNeg)) 83 (0 : Int32).toNatClampNeg ((mu (mu M3 81 (0 : Int32).toNatClampNeg (M3 81 (1 : Int32).toNatClampNeg)) 82 (0 : Int32).toNatClampNeg ((mu M3 81 (0 : Int32).toNatClampNeg (M3 81 (1 : Int32).toNatClampNeg)) 82 (1 : Int32).toNatClampNeg)) 83 (1 : Int32).toNatClampNeg)) 84 (0 : Int32).toNatClampNeg ((mu (mu (mu M3 81 (0 : Int32).toNatClampNeg (M3 81 (1 : Int32).toNatClampNeg)) 82 (0 : Int32).toNatClampNeg ((mu M3 81 (0 : Int32).toNatClampNeg (M3 81 (1 : Int32).toNatClampNeg)) 82 (1 : Int32).toNatClampNeg)) 83 (0 : Int32).toNatClampNeg ((mu (mu M3 81 (0 : Int32).toNatClampNeg (M3 81 (1 : Int32).toNatClampNeg)) 82 (0 : Int32).toNatClampNeg ((mu M3 81 (0 : Int32).toNatClampNeg (M3 81 (1 : Int32).toNatClampNeg)) 82 (1 : Int32).toNatClampNeg)) 83 (1 : Int32).toNatClampNeg)) 84 (1 : Int32).toNatClampNeg)) 85 (1 : Int32).toNatClampNeg)) 87 (0 : Int32).toNatClampNeg ((mu (mu (mu (mu (mu M3 81 (0 : Int32).toNatClampNeg (M3 81 (1 : Int32).toNatClampNeg)) 82 (0 : Int32).toNatClampNeg ((mu M3 81 (0 : Int32).toNatClampNeg (M3 81 (1 : Int32).toNatClampNeg)) 82 (1 : Int32).toNatClampNeg)) 83 (0 : Int32).toNatClampNeg ((mu (mu M3 81 (0 : Int32).toNatClampNeg (M3 81 (1 : Int32).toNatClampNeg)) 82 (0 : Int32).toNatClampNeg ((mu M3 81 (0 : Int32).toNatClampNeg (M3 81 (1 : Int32).toNatClampNeg)) 82 (1 : Int32).toNatClampNeg)) 83 (1 : Int32).toNatClampNeg)) 84 (0 : Int32).toNatClampNeg ((mu (mu (mu M3 81 (0 : Int32).toNatClampNeg (M3 81 (1 : Int32).toNatClampNeg)) 82 (0 : Int32).toNatClampNeg ((mu M3 81 (0 : Int32).toNatClampNeg (M3 81 (1 : Int32).toNatClampNeg)) 82 (1 : Int32).toNatClampNeg)) 83 (0 : Int32).toNatClampNeg ((mu (mu M3 81 (0 : Int32).toNatClampNeg (M3 81 (1 : Int32).toNatClampNeg)) 82 (0 : Int32).toNatClampNeg ((mu M3 81 (0 : Int32).toNatClampNeg (M3 81 (1 : Int32).toNatClampNeg)) 82 (1 : Int32).toNatClampNeg)) 83 (1 : Int32).toNatClampNeg)) 84 (1 : Int32).toNatClampNeg)) 85 (0 : Int32).toNatClampNeg ((mu (mu (mu (mu M3 81 (0 : Int32).toNatClampNeg (M3 81 (1 : Int32).toNatClampNeg)) 82 (0 : Int32).toNatClampNeg ((mu M3 81 (0 : Int32).toNatClampNeg (M3 81 (1 : Int32).toNatClampNeg)) 82 (1 : Int32).toNatClampNeg)) 83 (0 : Int32).toNatClampNeg ((mu (mu M3 81 (0 : Int32).toNatClampNeg (M3 81 (1 : Int32).toNatClampNeg)) 82 (0 : Int32).toNatClampNeg ((mu M3 81 (0 : Int32).toNatClampNeg (M3 81 (1 : Int32).toNatClampNeg)) 82 (1 : Int32).toNatClampNeg)) 83 (1 : Int32).toNatClampNeg)) 84 (0 : Int32).toNatClampNeg ((mu (mu (mu M3 81 (0 : Int32).toNatClampNeg (M3 81 (1 : Int32).toNatClampNeg)) 82 (0 : Int32).toNatClampNeg ((mu M3 81 (0 : Int32).toNatClampNeg (M3 81 (1 : Int32).toNatClampNeg)) 82 (1 : Int32).toNatClampNeg)) 83 (0 : Int32).toNatClampNeg ((mu (mu M3 81 (0 : Int32).toNatClampNeg (M3 81 (1 : Int32).toNatClampNeg)) 82 (0 : Int32).toNatClampNeg ((mu M3 81 (0 : Int32).toNatClampNeg (M3 81 (1 : Int32).toNatClampNeg)) 82 (1 : Int32).toNatClampNeg)) 83 (1 : Int32).toNatClampNeg)) 84 (1 : Int32).toNatClampNeg)) 85 (1 : Int32).toNatClampNeg)) 87 (1 : Int32).toNatClampNeg)))))))))))))))) ∧ (r4 = 0 → wX8_lay_16 Qb M3)))))))) := h2
  obtain ⟨r2, M1, f1, h1, h2, b2⟩ := u_wX8_readAll M h1 h2
  have g3 := Fr_tr (Fr_refl (fun i k => 79 ≤ i) M) f1 (fun i k (h : 79 ≤ i) => (show 79 ≤ i from by omega))
  by_cases hc4 : r2 = (-4 : Int32)
  · have h1 := h1.2 hc4
    have h2 := h2.2 hc4
    obtain ⟨r4, M3, f5, h1, h2, b6⟩ := u_wX8_areBelow M1 h1 h2
    have g7 := Fr_tr g3 f5 (fun i k (h : False) => h.elim)
    by_cases hc8 : r4 = 0
    · have h1 := h1.2 hc8
      have h2 := h2.2 hc8
      obtain ⟨c13, N14, f11, h1, h2, b12⟩ := u_wX8_lay_16 M3 h1 h2
      have hf := Fr_ts g7 f11
      exact ⟨c13, N14, hf, h1, h2, fun Q' hq => b2 _ ⟨fun z => absurd hc4 z, fun _ => b6 _ ⟨fun z => absurd hc8 z, fun _ => b12 _ hq⟩⟩⟩
    · have h1 := h1.1 hc8
      have h2 := h2.1 hc8
      have s15 := h1.1
      have h1 := h1.2
      have h2 := h2.2
      have s16 := h1.1
      have h1 := h1.2
      have h2 := h2.2
      have s17 := h1.1
      have h1 := h1.2
      have h2 := h2.2
      have s18 := h1.1
      have h1 := h1.2
      have h2 := h2.2
      have s19 := h1.1
      have h1 := h1.2
      have h2 := h2.2
      have s20 := h1.1
      have h1 := h1.2
      have h2 := h2.2
      have s21 := h1.1
      have h1 := h1.2
      have h2 := h2.2
      have s22 := h1.1
      have h1 := h1.2
      have h2 := h2.2
      have s23 := h1.1
      have h1 := h1.2
      have h2 := h2.2
      have s24 := h1.1
      have h1 := h1.2
      have h2 := h2.2
      have s25 := h1.1
      have h1 := h1.2
      have h2 := h2.2
      have s26 := h1.1
      have h1 := h1.2
      have h2 := h2.2
      obtain ⟨n5_a, h1⟩ := h1
      obtain ⟨n5_b, h2⟩ := h2
      obtain ⟨c31, N32, f29, h1, h2, b30⟩ := u_wX8_lay_93 n5_a n5_b (0 : Int32) (mu (mu (mu (mu (mu (mu M3 81 (0 : Int32).toNatClampNeg (M3 81 (1 : Int32).toNatClampNeg)) 82 (0 : Int32).toNatClampNeg ((mu M3 81 (0 : Int32).toNatClampNeg (M3 81 (1 : Int32).toNatClampNeg)) 82 (1 : Int32).toNatClampNeg)) 83 (0 : Int32).toNatClampNeg ((mu (mu M3 81 (0 : Int32).toNatClampNeg (M3 81 (1 : Int32).toNatClampNeg)) 82 (0 : Int32).toNatClampNeg ((mu M3 81 (0 : Int32).toNatClampNeg (M3 81 (1 : Int32).toNatClampNeg)) 82 (1 : Int32).toNatClampNeg)) 83 (1 : Int32).toNatClampNeg)) 84 (0 : Int32).toNatClampNeg ((mu (mu (mu M3 81 (0 : Int32).toNatClampNeg (M3 81 (1 : Int32).toNatClampNeg)) 82 (0 : Int32).toNatClampNeg ((mu M3 81 (0 : Int32).toNatClampNeg (M3 81 (1 : Int32).toNatClampNeg)) 82 (1 : Int32).toNatClampNeg)) 83 (0 : Int32).toNatClampNeg ((mu (mu M3 81 (0 : Int32).toNatClampNeg (M3 81 (1 : Int32).toNatClampNeg)) 82 (0 : Int32).toNatClampNeg ((mu M3 81 (0 : Int32).toNatClampNeg (M3 81 (1 : Int32).toNatClampNeg)) 82 (1 : Int32).toNatClampNeg)) 83 (1 : Int32).toNatClampNeg)) 84 (1 : Int32).toNatClampNeg)) 85 (0 : Int32).toNatClampNeg ((mu (mu (mu (mu M3 81 (0 : Int32).toNatClampNeg (M3 81 (1 : Int32).toNatClampNeg)) 82 (0 : Int32).toNatClampNeg ((mu M3 81 (0 : Int32).toNatClampNeg (M3 81 (1 : Int32).toNatClampNeg)) 82 (1 : Int32).toNatClampNeg)) 83 (0 : Int32).toNatClampNeg ((mu (mu M3 81 (0 : Int32).toNatClampNeg (M3 81 (1 : Int32).toNatClampNeg)) 82 (0 : Int32).toNatClampNeg ((mu M3 81 (0 : Int32).toNatClampNeg (M3 81 (1 : Int32).toNatClampNeg)) 82 (1 : Int32).toNatClampNeg)) 83 (1 : Int32).toNatClampNeg)) 84 (0 : Int32).toNatClampNeg ((mu (mu (mu M3 81 (0 : Int32).toNatClampNeg (M3 81 (1 : Int32).toNatClampNeg)) 82 (0 : Int32).toNatClampNeg ((mu M3 81 (0 : Int32).toNatClampNeg (M3 81 (1 : Int32).toNatClampNeg)) 82 (1 : Int32).toNatClampNeg)) 83 (0 : Int32).toNatClampNeg ((mu (mu M3 81 (0 : Int32).toNatClampNeg (M3 81 (1 : Int32).toNatClampNeg)) 82 (0 : Int32).toNatClampNeg ((mu M3 81 (0 : Int32).toNatClampNeg (M3 81 (1 : Int32).toNatClampNeg)) 82 (1 : Int32).toNatClampNeg)) 83 (1 : Int32).toNatClampNeg)) 84 (1 : Int32).toNatClampNeg)) 85 (1 : Int32).toNatClampNeg)) 87 (0 : Int32).toNatClampNeg ((mu (mu (mu (mu (mu M3 81 (0 : Int32).toNatClampNeg (M3 81 (1 : Int32).toNatClampNeg)) 82 (0 : Int32).toNatClampNeg ((mu M3 81 (0 : Int32).toNatClampNeg (M3 81 (1 : Int32).toNatClampNeg)) 82 (1 : Int32).toNatClampNeg)) 83 (0 : Int32).toNatClampNeg ((mu (mu M3 81 (0 : Int32).toNatClampNeg (M3 81 (1 : Int32).toNatClampNeg)) 82 (0 : Int32).toNatClampNeg ((mu M3 81 (0 : Int32).toNatClampNeg (M3 81 (1 : Int32).toNatClampNeg)) 82 (1 : Int32).toNatClampNeg)) 83 (1 : Int32).toNatClampNeg)) 84 (0 : Int32).toNatClampNeg ((mu (mu (mu M3 81 (0 : Int32).toNatClampNeg (M3 81 (1 : Int32).toNatClampNeg)) 82 (0 : Int32).toNatClampNeg ((mu M3 81 (0 : Int32).toNatClampNeg (M3 81 (1 : Int32).toNatClampNeg)) 82 (1 : Int32).toNatClampNeg)) 83 (0 : Int32).toNatClampNeg ((mu (mu M3 81 (0 : Int32).toNatClampNeg (M3 81 (1 : Int32).toNatClampNeg)) 82 (0 : Int32).toNatClampNeg ((mu M3 81 (0 : Int32).toNatClampNeg (M3 81 (1 : Int32).toNatClampNeg)) 82 (1 : Int32).toNatClampNeg)) 83 (1 : Int32).toNatClampNeg)) 84 (1 : Int32).toNatClampNeg)) 85 (0 : Int32).toNatClampNeg ((mu (mu (mu (mu M3 81 (0 : Int32).toNatClampNeg (M3 81 (1 : Int32).toNatClampNeg)) 82 (0 : Int32).toNatClampNeg ((mu M3 81 (0 : Int32).toNatClampNeg (M3 81 (1 : Int32).toNatClampNeg)) 82 (1 : Int32).toNatClampNeg)) 83 (0 : Int32).toNatClampNeg ((mu (mu M3 81 (0 : Int32).toNatClampNeg (M3 81 (1 : Int32).toNatClampNeg)) 82 (0 : Int32).toNatClampNeg ((mu M3 81 (0 : Int32).toNatClampNeg (M3 81 (1 : Int32).toNatClampNeg)) 82 (1 : Int32).toNatClampNeg)) 83 (1 : Int32).toNatClampNeg)) 84 (0 : Int32).toNatClampNeg ((mu (mu (mu M3 81 (0 : Int32).toNatClampNeg (M3 81 (1 : Int32).toNatClampNeg)) 82 (0 : Int32).toNatClampNeg ((mu M3 81 (0 : Int32).toNatClampNeg (M3 81 (1 : Int32).toNatClampNeg)) 82 (1 : Int32).toNatClampNeg)) 83 (0 : Int32).toNatClampNeg ((mu (mu M3 81 (0 : Int32).toNatClampNeg (M3 81 (1 : Int32).toNatClampNeg)) 82 (0 : Int32).toNatClampNeg ((mu M3 81 (0 : Int32).toNatClampNeg (M3 81 (1 : Int32).toNatClampNeg)) 82 (1 : Int32).toNatClampNeg)) 83 (1 : Int32).toNatClampNeg)) 84 (1 : Int32).toNatClampNeg)) 85 (1 : Int32).toNatClampNeg)) 87 (1 : Int32).toNatClampNeg)) h1 h2
      have hf := Fr_ts (Fr_mu (Fr_mu (Fr_mu (Fr_mu (Fr_mu (Fr_mu g7 (show 79 ≤ 81 from by omega)) (show 79 ≤ 82 from by omega)) (show 79 ≤ 83 from by omega)) (show 79 ≤ 84 from by omega)) (show 79 ≤ 85 from by omega)) (show 79 ≤ 87 from by omega)) f29
      exact ⟨c31, N32, hf, h1, h2, fun Q' hq => b2 _ ⟨fun z => absurd hc4 z, fun _ => b6 _ ⟨fun _ => ⟨s15, ⟨s16, ⟨s17, ⟨s18, ⟨s19, ⟨s20, ⟨s21, ⟨s22, ⟨s23, ⟨s24, ⟨s25, ⟨s26, ⟨n5_a, b30 _ hq⟩⟩⟩⟩⟩⟩⟩⟩⟩⟩⟩⟩⟩, fun z => absurd z hc8⟩⟩⟩
  · have h1 := h1.1 hc4
    have h2 := h2.1 hc4
    obtain ⟨c37, N38, f35, h1, h2, b36⟩ := u_wX8_lay_16 M1 h1 h2
    have hf := Fr_ts g3 f35
    exact ⟨c37, N38, hf, h1, h2, fun Q' hq => b2 _ ⟨fun _ => b36 _ hq, fun z => absurd z hc4⟩⟩
set_option maxHeartbeats 4000000 in
theorem u_wX8_isLeaf (x1 : Int32) {Qa Qb : Int32 → Mem → Prop} (M : Mem) (h1 : wX8_isLeaf x1 M Qa) (h2 : wX8_isLeaf x1 M Qb) : (∃ (a0 : Int32) (M' : Mem), Fr (fun i k => False) M M' ∧ Qa a0 M' ∧ Qb a0 M' ∧ ∀ (Q' : Int32 → Mem → Prop), Q' a0 M' → wX8_isLeaf x1 M Q') := by
  have h1 : (vp_in (0 : Int32) (ln 81) ∧ (wX8_in x1.toInt64 (0 : Int64) (((M 81 (0 : Int32).toNatClampNeg) - (1 : Int32)).toInt64) M (fun r2 M1 => ((r2 = 0 ∨ r2 = 1) ∧ Qa r2 M1)))) := h1
  have h2 : (vp_in (0 : Int32) (ln 81) ∧ (wX8_in x1.toInt64 (0 : Int64) (((M 81 (0 : Int32).toNatClampNeg) - (1 : Int32)).toInt64) M (fun r2 M1 => ((r2 = 0 ∨ r2 = 1) ∧ Qb r2 M1)))) := h2
  have s1 := h1.1
  have h1 := h1.2
  have h2 := h2.2
  obtain ⟨r2, M1, f2, h1, h2, b3⟩ := u_wX8_in x1.toInt64 (0 : Int64) (((M 81 (0 : Int32).toNatClampNeg) - (1 : Int32)).toInt64) M h1 h2
  have g4 := Fr_tr (Fr_refl (fun i k => False) M) f2 (fun i k (h : False) => h.elim)
  have s5 := h1.1
  have h1 := h1.2
  have h2 := h2.2
  exact ⟨r2, M1, g4, h1, h2, fun Q' hq => ⟨s1, b3 _ ⟨s5, hq⟩⟩⟩
set_option maxHeartbeats 4000000 in
theorem u_wX8_leaf_18 (x1 : Int32) (x2 : Int32) {Qa Qb : Int32 → Mem → Prop} (M : Mem) (h1 : wX8_leaf_18 x1 x2 Qa M) (h2 : wX8_leaf_18 x1 x2 Qb M) : (∃ (a0 : Int32) (M' : Mem), Fr (fun i k => False) M M' ∧ Qa a0 M' ∧ Qb a0 M' ∧ ∀ (Q' : Int32 → Mem → Prop), Q' a0 M' → wX8_leaf_18 x1 x2 Q' M) := by
  have h1 : Qa (-1 : Int32) M := h1
  have h2 : Qb (-1 : Int32) M := h2
  exact ⟨(-1 : Int32), M, (Fr_refl (fun i k => False) M), h1, h2, fun Q' hq => hq⟩
set_option maxHeartbeats 4000000 in
theorem u_wX8_leaf_39 (x1 : Int32) (x2 : Int32) {Qa Qb : Int32 → Mem → Prop} (s0 : Int32) (M : Mem) (h1 : wX8_leaf_39 x1 x2 Qa s0 M) (h2 : wX8_leaf_39 x1 x2 Qb s0 M) : (∃ (a0 : Int32) (M' : Mem), Fr (fun i k => False) M M' ∧ Qa a0 M' ∧ Qb a0 M' ∧ ∀ (Q' : Int32 → Mem → Prop), Q' a0 M' → wX8_leaf_39 x1 x2 Q' s0 M) := by
  have h1 : Qa s0 M := h1
  have h2 : Qb s0 M := h2
  exact ⟨s0, M, (Fr_refl (fun i k => False) M), h1, h2, fun Q' hq => hq⟩
set_option maxHeartbeats 4000000 in
theorem u_wX8_leaf (x1 : Int32) (x2 : Int32) {Qa Qb : Int32 → Mem → Prop} (M : Mem) (h1 : wX8_leaf x1 x2 M Qa) (h2 : wX8_leaf x1 x2 M Qb) : (∃ (a0 : Int32) (M' : Mem), Fr (fun i k => False) M M' ∧ Qa a0 M' ∧ Qb a0 M' ∧ ∀ (Q' : Int32 → Mem → Prop), Q' a0 M' → wX8_leaf x1 x2 M Q') := by
  have h1 : (wX8_isLeaf x1 M (fun r2 M1 => ((r2 = 0 → wX8_leaf_18 x1 x2 Qa M1) ∧ (¬ r2 = 0 → (wX8_in x2.toInt64 (0 : Int64) (1 : Int64) M1 (fun r4 M3 => ((¬ r4 = 0 → ((¬ x2 = 0 → (vp_in x1 (ln 89) ∧ wX8_leaf_39 x1 x2 Qa (M3 89 x1.toNatClampNeg) M3)) ∧ (x2 = 0 → (vp_in x1 (ln 90) ∧ wX8_leaf_39 x1 x2 Qa (M3 90 x1.toNatClampNeg) M3)))) ∧ (r4 = 0 → wX8_leaf_18 x1 x2 Qa M3)))))))) := h1
  have h2 : (wX8_isLeaf x1 M (fun r2 M1 => ((r2 = 0 → wX8_leaf_18 x1 x2 Qb M1) ∧ (¬ r2 = 0 → (wX8_in x2.toInt64 (0 : Int64) (1 : Int64) M1 (fun r4 M3 => ((¬ r4 = 0 → ((¬ x2 = 0 → (vp_in x1 (ln 89) ∧ wX8_leaf_39 x1 x2 Qb (M3 89 x1.toNatClampNeg) M3)) ∧ (x2 = 0 → (vp_in x1 (ln 90) ∧ wX8_leaf_39 x1 x2 Qb (M3 90 x1.toNatClampNeg) M3)))) ∧ (r4 = 0 → wX8_leaf_18 x1 x2 Qb M3)))))))) := h2
  obtain ⟨r2, M1, f1, h1, h2, b2⟩ := u_wX8_isLeaf x1 M h1 h2
  have g3 := Fr_tr (Fr_refl (fun i k => False) M) f1 (fun i k (h : False) => h.elim)
  by_cases hc4 : r2 = 0
  · have h1 := h1.1 hc4
    have h2 := h2.1 hc4
    obtain ⟨c9, N10, f7, h1, h2, b8⟩ := u_wX8_leaf_18 x1 x2 M1 h1 h2
    have hf := Fr_ts g3 f7
    exact ⟨c9, N10, hf, h1, h2, fun Q' hq => b2 _ ⟨fun _ => b8 _ hq, fun z => absurd hc4 z⟩⟩
  · have h1 := h1.2 hc4
    have h2 := h2.2 hc4
    obtain ⟨r4, M3, f11, h1, h2, b12⟩ := u_wX8_in x2.toInt64 (0 : Int64) (1 : Int64) M1 h1 h2
    have g13 := Fr_tr g3 f11 (fun i k (h : False) => h.elim)
    by_cases hc14 : r4 = 0
    · have h1 := h1.2 hc14
      have h2 := h2.2 hc14
      obtain ⟨c19, N20, f17, h1, h2, b18⟩ := u_wX8_leaf_18 x1 x2 M3 h1 h2
      have hf := Fr_ts g13 f17
      exact ⟨c19, N20, hf, h1, h2, fun Q' hq => b2 _ ⟨fun z => absurd z hc4, fun _ => b12 _ ⟨fun z => absurd hc14 z, fun _ => b18 _ hq⟩⟩⟩
    · have h1 := h1.1 hc14
      have h2 := h2.1 hc14
      by_cases hc21 : x2 = 0
      · have h1 := h1.2 hc21
        have h2 := h2.2 hc21
        have s22 := h1.1
        have h1 := h1.2
        have h2 := h2.2
        obtain ⟨c27, N28, f25, h1, h2, b26⟩ := u_wX8_leaf_39 x1 x2 (M3 90 x1.toNatClampNeg) M3 h1 h2
        have hf := Fr_ts g13 f25
        exact ⟨c27, N28, hf, h1, h2, fun Q' hq => b2 _ ⟨fun z => absurd z hc4, fun _ => b12 _ ⟨fun _ => ⟨fun z => absurd hc21 z, fun _ => ⟨s22, b26 _ hq⟩⟩, fun z => absurd z hc14⟩⟩⟩
      · have h1 := h1.1 hc21
        have h2 := h2.1 hc21
        have s29 := h1.1
        have h1 := h1.2
        have h2 := h2.2
        obtain ⟨c34, N35, f32, h1, h2, b33⟩ := u_wX8_leaf_39 x1 x2 (M3 89 x1.toNatClampNeg) M3 h1 h2
        have hf := Fr_ts g13 f32
        exact ⟨c34, N35, hf, h1, h2, fun Q' hq => b2 _ ⟨fun z => absurd z hc4, fun _ => b12 _ ⟨fun _ => ⟨fun _ => ⟨s29, b33 _ hq⟩, fun z => absurd z hc21⟩, fun z => absurd z hc14⟩⟩⟩
set_option maxHeartbeats 4000000 in
theorem u_wX8_where_12 (x1 : Int32) {Qa Qb : Int32 → Mem → Prop} : ∀ (n1 n2 : Nat) (v2 : Int32) (M : Mem), wX8_where_12 x1 Qa n1 v2 M → wX8_where_12 x1 Qb n2 v2 M → (∃ (a0 : Int32) (M' : Mem), Fr (fun i k => False) M M' ∧ Qa a0 M' ∧ Qb a0 M' ∧ ∀ (Q' : Int32 → Mem → Prop), Q' a0 M' → wX8_where_12 x1 Q' n1 v2 M) := by
  intro n1
  induction n1 with
  | zero => intro _ _ _ h1 _; exact h1.elim
  | succ n ih =>
    intro n2 v2 M h1 h2
    cases n2 with
    | zero => exact h2.elim
    | succ m =>
      have h1 : (vp_in v2 (ln 90) ∧ (((M 90 v2.toNatClampNeg) = x1 → Qa v2 M) ∧ (¬ (M 90 v2.toNatClampNeg) = x1 → wX8_where_12 x1 Qa n (v2 + (1 : Int32)) M))) := h1
      have h2 : (vp_in v2 (ln 90) ∧ (((M 90 v2.toNatClampNeg) = x1 → Qb v2 M) ∧ (¬ (M 90 v2.toNatClampNeg) = x1 → wX8_where_12 x1 Qb m (v2 + (1 : Int32)) M))) := h2
      have s1 := h1.1
      have h1 := h1.2
      have h2 := h2.2
      by_cases hc2 : (M 90 v2.toNatClampNeg) = x1
      · have h1 := h1.1 hc2
        have h2 := h2.1 hc2
        exact ⟨v2, M, (Fr_refl (fun i k => False) M), h1, h2, fun Q' hq => ⟨s1, ⟨fun _ => hq, fun z => absurd hc2 z⟩⟩⟩
      · have h1 := h1.2 hc2
        have h2 := h2.2 hc2
        obtain ⟨c7, N8, f5, h1, h2, b6⟩ := ih m (v2 + (1 : Int32)) M h1 h2
        have hf := Fr_ts (Fr_refl (fun i k => False) M) f5
        exact ⟨c7, N8, hf, h1, h2, fun Q' hq => ⟨s1, ⟨fun z => absurd z hc2, fun _ => b6 _ hq⟩⟩⟩
set_option maxHeartbeats 4000000 in
theorem u_wX8_where (x1 : Int32) {Qa Qb : Int32 → Mem → Prop} (M : Mem) (h1 : wX8_where x1 M Qa) (h2 : wX8_where x1 M Qb) : (∃ (a0 : Int32) (M' : Mem), Fr (fun i k => False) M M' ∧ Qa a0 M' ∧ Qb a0 M' ∧ ∀ (Q' : Int32 → Mem → Prop), Q' a0 M' → wX8_where x1 M Q') := by
  have h1 : (wX8_isLeaf x1 M (fun r2 M1 => ((¬ r2 = 0 → (∃ n3, wX8_where_12 x1 Qa n3 (0 : Int32) M1)) ∧ (r2 = 0 → Qa (-1 : Int32) M1)))) := h1
  have h2 : (wX8_isLeaf x1 M (fun r2 M1 => ((¬ r2 = 0 → (∃ n3, wX8_where_12 x1 Qb n3 (0 : Int32) M1)) ∧ (r2 = 0 → Qb (-1 : Int32) M1)))) := h2
  obtain ⟨r2, M1, f1, h1, h2, b2⟩ := u_wX8_isLeaf x1 M h1 h2
  have g3 := Fr_tr (Fr_refl (fun i k => False) M) f1 (fun i k (h : False) => h.elim)
  by_cases hc4 : r2 = 0
  · have h1 := h1.2 hc4
    have h2 := h2.2 hc4
    exact ⟨(-1 : Int32), M1, g3, h1, h2, fun Q' hq => b2 _ ⟨fun z => absurd hc4 z, fun _ => hq⟩⟩
  · have h1 := h1.1 hc4
    have h2 := h2.1 hc4
    obtain ⟨n3_a, h1⟩ := h1
    obtain ⟨n3_b, h2⟩ := h2
    obtain ⟨c9, N10, f7, h1, h2, b8⟩ := u_wX8_where_12 x1 n3_a n3_b (0 : Int32) M1 h1 h2
    have hf := Fr_ts g3 f7
    exact ⟨c9, N10, hf, h1, h2, fun Q' hq => b2 _ ⟨fun _ => ⟨n3_a, b8 _ hq⟩, fun z => absurd z hc4⟩⟩
set_option maxHeartbeats 4000000 in
theorem u_wX8_read_76 {Qa Qb : Int32 → Mem → Prop} (v1 : Int32) (M : Mem) (h1 : wX8_read_76 Qa v1 M) (h2 : wX8_read_76 Qb v1 M) : (∃ (a0 : Int32) (M' : Mem), Fr (fun i k => 79 ≤ i) M M' ∧ Qa a0 M' ∧ Qb a0 M' ∧ ∀ (Q' : Int32 → Mem → Prop), Q' a0 M' → wX8_read_76 Q' v1 M) := by
  have h1 : Qa v1 M := h1
  have h2 : Qb v1 M := h2
  exact ⟨v1, M, (Fr_refl (fun i k => 79 ≤ i) M), h1, h2, fun Q' hq => hq⟩
set_option maxHeartbeats 4000000 in
theorem u_wX8_read {Qa Qb : Int32 → Mem → Prop} (M : Mem) (h1 : wX8_read M Qa) (h2 : wX8_read M Qb) : (∃ (a0 : Int32) (M' : Mem), Fr (fun i k => 79 ≤ i) M M' ∧ Qa a0 M' ∧ Qb a0 M' ∧ ∀ (Q' : Int32 → Mem → Prop), Q' a0 M' → wX8_read M Q') := by
  have h1 : (vp_in (0 : Int32) (ln 90) ∧ (vp_in (0 : Int32) (ln 83) ∧ (vp_in (0 : Int32) (ln 84) ∧ (vp_in (0 : Int32) (ln 91) ∧ (wX8_goRead 90 (0 : Int32) (M 83 (0 : Int32).toNatClampNeg) (M 84 (0 : Int32).toNatClampNeg) (M 91 (0 : Int32).toNatClampNeg) M (fun M1 => (vp_in (0 : Int32) (ln 91) ∧ (vp_in (0 : Int32) (ln 91) ∧ (vp_in (0 : Int32) (ln 91) ∧ (vp_in (0 : Int32) (ln 82) ∧ ((¬ ((mu M1 91 (0 : Int32).toNatClampNeg ((M1 91 (0 : Int32).toNatClampNeg) + (1 : Int32))) 91 (0 : Int32).toNatClampNeg) = ((mu M1 91 (0 : Int32).toNatClampNeg ((M1 91 (0 : Int32).toNatClampNeg) + (1 : Int32))) 82 (0 : Int32).toNatClampNeg) → wX8_read_76 Qa (M 90 (0 : Int32).toNatClampNeg) (mu M1 91 (0 : Int32).toNatClampNeg ((M1 91 (0 : Int32).toNatClampNeg) + (1 : Int32)))) ∧ (((mu M1 91 (0 : Int32).toNatClampNeg ((M1 91 (0 : Int32).toNatClampNeg) + (1 : Int32))) 91 (0 : Int32).toNatClampNeg) = ((mu M1 91 (0 : Int32).toNatClampNeg ((M1 91 (0 : Int32).toNatClampNeg) + (1 : Int32))) 82 (0 : Int32).toNatClampNeg) → (vp_in (0 : Int32) (ln 91) ∧ (vp_in (0 : Int32) (ln 92) ∧ (vp_in (0 : Int32) (ln 92) ∧ wX8_read_76 Qa (M 90 (0 : Int32).toNatClampNeg) (mu (mu (mu M1 91 (0 : Int32).toNatClampNeg ((M1 91 (0 : Int32).toNatClampNeg) + (1 : Int32))) 91 (0 : Int32).toNatClampNeg (0 : Int32)) 92 (0 : Int32).toNatClampNeg (((mu (mu M1 91 (0 : Int32).toNatClampNeg ((M1 91 (0 : Int32).toNatClampNeg) + (1 : Int32))) 91 (0 : Int32).toNatClampNeg (0 : Int32)) 92 (0 : Int32).toNatClampNeg) + (1 : Int32)))))))))))))))))) := h1
  have h2 : (vp_in (0 : Int32) (ln 90) ∧ (vp_in (0 : Int32) (ln 83) ∧ (vp_in (0 : Int32) (ln 84) ∧ (vp_in (0 : Int32) (ln 91) ∧ (wX8_goRead 90 (0 : Int32) (M 83 (0 : Int32).toNatClampNeg) (M 84 (0 : Int32).toNatClampNeg) (M 91 (0 : Int32).toNatClampNeg) M (fun M1 => (vp_in (0 : Int32) (ln 91) ∧ (vp_in (0 : Int32) (ln 91) ∧ (vp_in (0 : Int32) (ln 91) ∧ (vp_in (0 : Int32) (ln 82) ∧ ((¬ ((mu M1 91 (0 : Int32).toNatClampNeg ((M1 91 (0 : Int32).toNatClampNeg) + (1 : Int32))) 91 (0 : Int32).toNatClampNeg) = ((mu M1 91 (0 : Int32).toNatClampNeg ((M1 91 (0 : Int32).toNatClampNeg) + (1 : Int32))) 82 (0 : Int32).toNatClampNeg) → wX8_read_76 Qb (M 90 (0 : Int32).toNatClampNeg) (mu M1 91 (0 : Int32).toNatClampNeg ((M1 91 (0 : Int32).toNatClampNeg) + (1 : Int32)))) ∧ (((mu M1 91 (0 : Int32).toNatClampNeg ((M1 91 (0 : Int32).toNatClampNeg) + (1 : Int32))) 91 (0 : Int32).toNatClampNeg) = ((mu M1 91 (0 : Int32).toNatClampNeg ((M1 91 (0 : Int32).toNatClampNeg) + (1 : Int32))) 82 (0 : Int32).toNatClampNeg) → (vp_in (0 : Int32) (ln 91) ∧ (vp_in (0 : Int32) (ln 92) ∧ (vp_in (0 : Int32) (ln 92) ∧ wX8_read_76 Qb (M 90 (0 : Int32).toNatClampNeg) (mu (mu (mu M1 91 (0 : Int32).toNatClampNeg ((M1 91 (0 : Int32).toNatClampNeg) + (1 : Int32))) 91 (0 : Int32).toNatClampNeg (0 : Int32)) 92 (0 : Int32).toNatClampNeg (((mu (mu M1 91 (0 : Int32).toNatClampNeg ((M1 91 (0 : Int32).toNatClampNeg) + (1 : Int32))) 91 (0 : Int32).toNatClampNeg (0 : Int32)) 92 (0 : Int32).toNatClampNeg) + (1 : Int32)))))))))))))))))) := h2
  have s1 := h1.1
  have h1 := h1.2
  have h2 := h2.2
  have s2 := h1.1
  have h1 := h1.2
  have h2 := h2.2
  have s3 := h1.1
  have h1 := h1.2
  have h2 := h2.2
  have s4 := h1.1
  have h1 := h1.2
  have h2 := h2.2
  obtain ⟨M1, f5, h1, h2, b6⟩ := u_wX8_goRead 90 (0 : Int32) (M 83 (0 : Int32).toNatClampNeg) (M 84 (0 : Int32).toNatClampNeg) (M 91 (0 : Int32).toNatClampNeg) M h1 h2
  have g7 := Fr_tr (Fr_refl (fun i k => 79 ≤ i) M) f5 (fun i k (h : 79 ≤ i ∨ i = 90) => (show 79 ≤ i from by omega))
  have s8 := h1.1
  have h1 := h1.2
  have h2 := h2.2
  have s9 := h1.1
  have h1 := h1.2
  have h2 := h2.2
  have s10 := h1.1
  have h1 := h1.2
  have h2 := h2.2
  have s11 := h1.1
  have h1 := h1.2
  have h2 := h2.2
  by_cases hc12 : ((mu M1 91 (0 : Int32).toNatClampNeg ((M1 91 (0 : Int32).toNatClampNeg) + (1 : Int32))) 91 (0 : Int32).toNatClampNeg) = ((mu M1 91 (0 : Int32).toNatClampNeg ((M1 91 (0 : Int32).toNatClampNeg) + (1 : Int32))) 82 (0 : Int32).toNatClampNeg)
  · have h1 := h1.2 hc12
    have h2 := h2.2 hc12
    have s13 := h1.1
    have h1 := h1.2
    have h2 := h2.2
    have s14 := h1.1
    have h1 := h1.2
    have h2 := h2.2
    have s15 := h1.1
    have h1 := h1.2
    have h2 := h2.2
    obtain ⟨c20, N21, f18, h1, h2, b19⟩ := u_wX8_read_76 (M 90 (0 : Int32).toNatClampNeg) (mu (mu (mu M1 91 (0 : Int32).toNatClampNeg ((M1 91 (0 : Int32).toNatClampNeg) + (1 : Int32))) 91 (0 : Int32).toNatClampNeg (0 : Int32)) 92 (0 : Int32).toNatClampNeg (((mu (mu M1 91 (0 : Int32).toNatClampNeg ((M1 91 (0 : Int32).toNatClampNeg) + (1 : Int32))) 91 (0 : Int32).toNatClampNeg (0 : Int32)) 92 (0 : Int32).toNatClampNeg) + (1 : Int32))) h1 h2
    have hf := Fr_ts (Fr_mu (Fr_mu (Fr_mu g7 (show 79 ≤ 91 from by omega)) (show 79 ≤ 91 from by omega)) (show 79 ≤ 92 from by omega)) f18
    exact ⟨c20, N21, hf, h1, h2, fun Q' hq => ⟨s1, ⟨s2, ⟨s3, ⟨s4, b6 _ ⟨s8, ⟨s9, ⟨s10, ⟨s11, ⟨fun z => absurd hc12 z, fun _ => ⟨s13, ⟨s14, ⟨s15, b19 _ hq⟩⟩⟩⟩⟩⟩⟩⟩⟩⟩⟩⟩⟩
  · have h1 := h1.1 hc12
    have h2 := h2.1 hc12
    obtain ⟨c26, N27, f24, h1, h2, b25⟩ := u_wX8_read_76 (M 90 (0 : Int32).toNatClampNeg) (mu M1 91 (0 : Int32).toNatClampNeg ((M1 91 (0 : Int32).toNatClampNeg) + (1 : Int32))) h1 h2
    have hf := Fr_ts (Fr_mu g7 (show 79 ≤ 91 from by omega)) f24
    exact ⟨c26, N27, hf, h1, h2, fun Q' hq => ⟨s1, ⟨s2, ⟨s3, ⟨s4, b6 _ ⟨s8, ⟨s9, ⟨s10, ⟨s11, ⟨fun _ => b25 _ hq, fun z => absurd z hc12⟩⟩⟩⟩⟩⟩⟩⟩⟩⟩
set_option maxHeartbeats 4000000 in
theorem u_wX8_finish_16 {Qa Qb : Int32 → Mem → Prop} : ∀ (n1 n2 : Nat) (v1 : Int32) (v2 : Int32) (M : Mem), wX8_finish_16 Qa n1 v1 v2 M → wX8_finish_16 Qb n2 v1 v2 M → (∃ (a0 : Int32) (M' : Mem), Fr (fun i k => 79 ≤ i) M M' ∧ Qa a0 M' ∧ Qb a0 M' ∧ ∀ (Q' : Int32 → Mem → Prop), Q' a0 M' → wX8_finish_16 Q' n1 v1 v2 M) := by
  intro n1
  induction n1 with
  | zero => intro _ _ _ _ h1 _; exact h1.elim
  | succ n ih =>
    intro n2 v1 v2 M h1 h2
    cases n2 with
    | zero => exact h2.elim
    | succ m =>
      have h1 : ((v1 ≤ v2 → Qa v1 M) ∧ (¬ v1 ≤ v2 → (wX8_read M (fun r3 M2 => wX8_finish_16 Qa n v1 (v2 + (1 : Int32)) M2)))) := h1
      have h2 : ((v1 ≤ v2 → Qb v1 M) ∧ (¬ v1 ≤ v2 → (wX8_read M (fun r3 M2 => wX8_finish_16 Qb m v1 (v2 + (1 : Int32)) M2)))) := h2
      by_cases hc1 : v1 ≤ v2
      · have h1 := h1.1 hc1
        have h2 := h2.1 hc1
        exact ⟨v1, M, (Fr_refl (fun i k => 79 ≤ i) M), h1, h2, fun Q' hq => ⟨fun _ => hq, fun z => absurd hc1 z⟩⟩
      · have h1 := h1.2 hc1
        have h2 := h2.2 hc1
        obtain ⟨r3, M2, f2, h1, h2, b3⟩ := u_wX8_read M h1 h2
        have g4 := Fr_tr (Fr_refl (fun i k => 79 ≤ i) M) f2 (fun i k (h : 79 ≤ i) => (show 79 ≤ i from by omega))
        obtain ⟨c9, N10, f7, h1, h2, b8⟩ := ih m v1 (v2 + (1 : Int32)) M2 h1 h2
        have hf := Fr_ts g4 f7
        exact ⟨c9, N10, hf, h1, h2, fun Q' hq => ⟨fun z => absurd z hc1, fun _ => b3 _ (b8 _ hq)⟩⟩
set_option maxHeartbeats 4000000 in
theorem u_wX8_finish {Qa Qb : Int32 → Mem → Prop} (M : Mem) (h1 : wX8_finish M Qa) (h2 : wX8_finish M Qb) : (∃ (a0 : Int32) (M' : Mem), Fr (fun i k => 79 ≤ i) M M' ∧ Qa a0 M' ∧ Qb a0 M' ∧ ∀ (Q' : Int32 → Mem → Prop), Q' a0 M' → wX8_finish M Q') := by
  have h1 : (vp_in (0 : Int32) (ln 82) ∧ (vp_in (0 : Int32) (ln 91) ∧ (∃ n1, wX8_finish_16 Qa n1 ((M 82 (0 : Int32).toNatClampNeg) - (M 91 (0 : Int32).toNatClampNeg)) (0 : Int32) M))) := h1
  have h2 : (vp_in (0 : Int32) (ln 82) ∧ (vp_in (0 : Int32) (ln 91) ∧ (∃ n1, wX8_finish_16 Qb n1 ((M 82 (0 : Int32).toNatClampNeg) - (M 91 (0 : Int32).toNatClampNeg)) (0 : Int32) M))) := h2
  have s1 := h1.1
  have h1 := h1.2
  have h2 := h2.2
  have s2 := h1.1
  have h1 := h1.2
  have h2 := h2.2
  obtain ⟨n1_a, h1⟩ := h1
  obtain ⟨n1_b, h2⟩ := h2
  obtain ⟨c7, N8, f5, h1, h2, b6⟩ := u_wX8_finish_16 n1_a n1_b ((M 82 (0 : Int32).toNatClampNeg) - (M 91 (0 : Int32).toNatClampNeg)) (0 : Int32) M h1 h2
  have hf := Fr_ts (Fr_refl (fun i k => 79 ≤ i) M) f5
  exact ⟨c7, N8, hf, h1, h2, fun Q' hq => ⟨s1, ⟨s2, ⟨n1_a, b6 _ hq⟩⟩⟩⟩
set_option maxHeartbeats 4000000 in
theorem u_wX8_change_16 (x1 : Int32) (x2 : Int32) {Qa Qb : Int32 → Mem → Prop} (M : Mem) (h1 : wX8_change_16 x1 x2 Qa M) (h2 : wX8_change_16 x1 x2 Qb M) : (∃ (a0 : Int32) (M' : Mem), Fr (fun i k => 79 ≤ i) M M' ∧ Qa a0 M' ∧ Qb a0 M' ∧ ∀ (Q' : Int32 → Mem → Prop), Q' a0 M' → wX8_change_16 x1 x2 Q' M) := by
  have h1 : Qa (-1 : Int32) M := h1
  have h2 : Qb (-1 : Int32) M := h2
  exact ⟨(-1 : Int32), M, (Fr_refl (fun i k => 79 ≤ i) M), h1, h2, fun Q' hq => hq⟩
set_option maxHeartbeats 4000000 in
theorem u_wX8_change (x1 : Int32) (x2 : Int32) {Qa Qb : Int32 → Mem → Prop} (M : Mem) (h1 : wX8_change x1 x2 M Qa) (h2 : wX8_change x1 x2 M Qb) : (∃ (a0 : Int32) (M' : Mem), Fr (fun i k => 79 ≤ i) M M' ∧ Qa a0 M' ∧ Qb a0 M' ∧ ∀ (Q' : Int32 → Mem → Prop), Q' a0 M' → wX8_change x1 x2 M Q') := by
  have h1 : (wX8_isLeaf x1 M (fun r2 M1 => ((r2 = 0 → wX8_change_16 x1 x2 Qa M1) ∧ (¬ r2 = 0 → (wX8_isLeaf x2 M1 (fun r4 M3 => ((¬ r4 = 0 → (vp_in x1 (ln 90) ∧ (vp_in x2 (ln 90) ∧ (vp_in x1 (ln 90) ∧ (vp_in x2 (ln 90) ∧ (vp_in x1 (ln 90) ∧ Qa ((mu (mu M3 90 x1.toNatClampNeg (M3 90 x2.toNatClampNeg)) 90 x2.toNatClampNeg (M3 90 x1.toNatClampNeg)) 90 x1.toNatClampNeg) (mu (mu M3 90 x1.toNatClampNeg (M3 90 x2.toNatClampNeg)) 90 x2.toNatClampNeg (M3 90 x1.toNatClampNeg)))))))) ∧ (r4 = 0 → wX8_change_16 x1 x2 Qa M3)))))))) := h1
  have h2 : (wX8_isLeaf x1 M (fun r2 M1 => ((r2 = 0 → wX8_change_16 x1 x2 Qb M1) ∧ (¬ r2 = 0 → (wX8_isLeaf x2 M1 (fun r4 M3 => ((¬ r4 = 0 → (vp_in x1 (ln 90) ∧ (vp_in x2 (ln 90) ∧ (vp_in x1 (ln 90) ∧ (vp_in x2 (ln 90) ∧ (vp_in x1 (ln 90) ∧ Qb ((mu (mu M3 90 x1.toNatClampNeg (M3 90 x2.toNatClampNeg)) 90 x2.toNatClampNeg (M3 90 x1.toNatClampNeg)) 90 x1.toNatClampNeg) (mu (mu M3 90 x1.toNatClampNeg (M3 90 x2.toNatClampNeg)) 90 x2.toNatClampNeg (M3 90 x1.toNatClampNeg)))))))) ∧ (r4 = 0 → wX8_change_16 x1 x2 Qb M3)))))))) := h2
  obtain ⟨r2, M1, f1, h1, h2, b2⟩ := u_wX8_isLeaf x1 M h1 h2
  have g3 := Fr_tr (Fr_refl (fun i k => 79 ≤ i) M) f1 (fun i k (h : False) => h.elim)
  by_cases hc4 : r2 = 0
  · have h1 := h1.1 hc4
    have h2 := h2.1 hc4
    obtain ⟨c9, N10, f7, h1, h2, b8⟩ := u_wX8_change_16 x1 x2 M1 h1 h2
    have hf := Fr_ts g3 f7
    exact ⟨c9, N10, hf, h1, h2, fun Q' hq => b2 _ ⟨fun _ => b8 _ hq, fun z => absurd hc4 z⟩⟩
  · have h1 := h1.2 hc4
    have h2 := h2.2 hc4
    obtain ⟨r4, M3, f11, h1, h2, b12⟩ := u_wX8_isLeaf x2 M1 h1 h2
    have g13 := Fr_tr g3 f11 (fun i k (h : False) => h.elim)
    by_cases hc14 : r4 = 0
    · have h1 := h1.2 hc14
      have h2 := h2.2 hc14
      obtain ⟨c19, N20, f17, h1, h2, b18⟩ := u_wX8_change_16 x1 x2 M3 h1 h2
      have hf := Fr_ts g13 f17
      exact ⟨c19, N20, hf, h1, h2, fun Q' hq => b2 _ ⟨fun z => absurd z hc4, fun _ => b12 _ ⟨fun z => absurd hc14 z, fun _ => b18 _ hq⟩⟩⟩
    · have h1 := h1.1 hc14
      have h2 := h2.1 hc14
      have s21 := h1.1
      have h1 := h1.2
      have h2 := h2.2
      have s22 := h1.1
      have h1 := h1.2
      have h2 := h2.2
      have s23 := h1.1
      have h1 := h1.2
      have h2 := h2.2
      have s24 := h1.1
      have h1 := h1.2
      have h2 := h2.2
      have s25 := h1.1
      have h1 := h1.2
      have h2 := h2.2
      exact ⟨((mu (mu M3 90 x1.toNatClampNeg (M3 90 x2.toNatClampNeg)) 90 x2.toNatClampNeg (M3 90 x1.toNatClampNeg)) 90 x1.toNatClampNeg), (mu (mu M3 90 x1.toNatClampNeg (M3 90 x2.toNatClampNeg)) 90 x2.toNatClampNeg (M3 90 x1.toNatClampNeg)), (Fr_mu (Fr_mu g13 (show 79 ≤ 90 from by omega)) (show 79 ≤ 90 from by omega)), h1, h2, fun Q' hq => b2 _ ⟨fun z => absurd z hc4, fun _ => b12 _ ⟨fun _ => ⟨s21, ⟨s22, ⟨s23, ⟨s24, ⟨s25, hq⟩⟩⟩⟩⟩, fun z => absurd z hc14⟩⟩⟩
set_option maxHeartbeats 4000000 in
theorem u_wX8_drop_23 (x1 : Int32) {Qa Qb : Int32 → Mem → Prop} : ∀ (n1 n2 : Nat) (v2 : Int32) (M : Mem), wX8_drop_23 x1 Qa n1 v2 M → wX8_drop_23 x1 Qb n2 v2 M → (∃ (a0 : Int32) (M' : Mem), Fr (fun i k => 79 ≤ i) M M' ∧ Qa a0 M' ∧ Qb a0 M' ∧ ∀ (Q' : Int32 → Mem → Prop), Q' a0 M' → wX8_drop_23 x1 Q' n1 v2 M) := by
  intro n1
  induction n1 with
  | zero => intro _ _ _ h1 _; exact h1.elim
  | succ n ih =>
    intro n2 v2 M h1 h2
    cases n2 with
    | zero => exact h2.elim
    | succ m =>
      have h1 : ((v2 ≤ 0 → (vp_in (0 : Int32) (ln 91) ∧ (vp_in (0 : Int32) (ln 90) ∧ Qa ((mu M 91 (0 : Int32).toNatClampNeg (0 : Int32)) 90 (0 : Int32).toNatClampNeg) (mu M 91 (0 : Int32).toNatClampNeg (0 : Int32))))) ∧ (¬ v2 ≤ 0 → (¬ (65521 : Int64) = 0 ∧ (¬ (v2 + (1 : Int32)).toInt64 = 0 ∧ (wX8_change v2 ((((((((7919 : Int64) * x1.toInt64) + ((6151 : Int64) * v2.toInt64)) + (1 : Int64)) * ((((7919 : Int64) * x1.toInt64) + ((6151 : Int64) * v2.toInt64)) + (1 : Int64))) - ((((((7919 : Int64) * x1.toInt64) + ((6151 : Int64) * v2.toInt64)) + (1 : Int64)) * ((((7919 : Int64) * x1.toInt64) + ((6151 : Int64) * v2.toInt64)) + (1 : Int64))) / (65521 : Int64)) * (65521 : Int64)) - (((((((7919 : Int64) * x1.toInt64) + ((6151 : Int64) * v2.toInt64)) + (1 : Int64)) * ((((7919 : Int64) * x1.toInt64) + ((6151 : Int64) * v2.toInt64)) + (1 : Int64))) - ((((((7919 : Int64) * x1.toInt64) + ((6151 : Int64) * v2.toInt64)) + (1 : Int64)) * ((((7919 : Int64) * x1.toInt64) + ((6151 : Int64) * v2.toInt64)) + (1 : Int64))) / (65521 : Int64)) * (65521 : Int64)) / (v2 + (1 : Int32)).toInt64) * (v2 + (1 : Int32)).toInt64).toInt32) M (fun r5 M4 => wX8_drop_23 x1 Qa n (v2 + (-1)) M4)))))) := h1
      have h2 : ((v2 ≤ 0 → (vp_in (0 : Int32) (ln 91) ∧ (vp_in (0 : Int32) (ln 90) ∧ Qb ((mu M 91 (0 : Int32).toNatClampNeg (0 : Int32)) 90 (0 : Int32).toNatClampNeg) (mu M 91 (0 : Int32).toNatClampNeg (0 : Int32))))) ∧ (¬ v2 ≤ 0 → (¬ (65521 : Int64) = 0 ∧ (¬ (v2 + (1 : Int32)).toInt64 = 0 ∧ (wX8_change v2 ((((((((7919 : Int64) * x1.toInt64) + ((6151 : Int64) * v2.toInt64)) + (1 : Int64)) * ((((7919 : Int64) * x1.toInt64) + ((6151 : Int64) * v2.toInt64)) + (1 : Int64))) - ((((((7919 : Int64) * x1.toInt64) + ((6151 : Int64) * v2.toInt64)) + (1 : Int64)) * ((((7919 : Int64) * x1.toInt64) + ((6151 : Int64) * v2.toInt64)) + (1 : Int64))) / (65521 : Int64)) * (65521 : Int64)) - (((((((7919 : Int64) * x1.toInt64) + ((6151 : Int64) * v2.toInt64)) + (1 : Int64)) * ((((7919 : Int64) * x1.toInt64) + ((6151 : Int64) * v2.toInt64)) + (1 : Int64))) - ((((((7919 : Int64) * x1.toInt64) + ((6151 : Int64) * v2.toInt64)) + (1 : Int64)) * ((((7919 : Int64) * x1.toInt64) + ((6151 : Int64) * v2.toInt64)) + (1 : Int64))) / (65521 : Int64)) * (65521 : Int64)) / (v2 + (1 : Int32)).toInt64) * (v2 + (1 : Int32)).toInt64).toInt32) M (fun r5 M4 => wX8_drop_23 x1 Qb m (v2 + (-1)) M4)))))) := h2
      by_cases hc1 : v2 ≤ 0
      · have h1 := h1.1 hc1
        have h2 := h2.1 hc1
        have s2 := h1.1
        have h1 := h1.2
        have h2 := h2.2
        have s3 := h1.1
        have h1 := h1.2
        have h2 := h2.2
        exact ⟨((mu M 91 (0 : Int32).toNatClampNeg (0 : Int32)) 90 (0 : Int32).toNatClampNeg), (mu M 91 (0 : Int32).toNatClampNeg (0 : Int32)), (Fr_mu (Fr_refl (fun i k => 79 ≤ i) M) (show 79 ≤ 91 from by omega)), h1, h2, fun Q' hq => ⟨fun _ => ⟨s2, ⟨s3, hq⟩⟩, fun z => absurd hc1 z⟩⟩
      · have h1 := h1.2 hc1
        have h2 := h2.2 hc1
        have s4 := h1.1
        have h1 := h1.2
        have h2 := h2.2
        have s5 := h1.1
        have h1 := h1.2
        have h2 := h2.2
        obtain ⟨r5, M4, f6, h1, h2, b7⟩ := u_wX8_change v2 ((((((((7919 : Int64) * x1.toInt64) + ((6151 : Int64) * v2.toInt64)) + (1 : Int64)) * ((((7919 : Int64) * x1.toInt64) + ((6151 : Int64) * v2.toInt64)) + (1 : Int64))) - ((((((7919 : Int64) * x1.toInt64) + ((6151 : Int64) * v2.toInt64)) + (1 : Int64)) * ((((7919 : Int64) * x1.toInt64) + ((6151 : Int64) * v2.toInt64)) + (1 : Int64))) / (65521 : Int64)) * (65521 : Int64)) - (((((((7919 : Int64) * x1.toInt64) + ((6151 : Int64) * v2.toInt64)) + (1 : Int64)) * ((((7919 : Int64) * x1.toInt64) + ((6151 : Int64) * v2.toInt64)) + (1 : Int64))) - ((((((7919 : Int64) * x1.toInt64) + ((6151 : Int64) * v2.toInt64)) + (1 : Int64)) * ((((7919 : Int64) * x1.toInt64) + ((6151 : Int64) * v2.toInt64)) + (1 : Int64))) / (65521 : Int64)) * (65521 : Int64)) / (v2 + (1 : Int32)).toInt64) * (v2 + (1 : Int32)).toInt64).toInt32) M h1 h2
        have g8 := Fr_tr (Fr_refl (fun i k => 79 ≤ i) M) f6 (fun i k (h : 79 ≤ i) => (show 79 ≤ i from by omega))
        obtain ⟨c13, N14, f11, h1, h2, b12⟩ := ih m (v2 + (-1)) M4 h1 h2
        have hf := Fr_ts g8 f11
        exact ⟨c13, N14, hf, h1, h2, fun Q' hq => ⟨fun z => absurd z hc1, fun _ => ⟨s4, ⟨s5, b7 _ (b12 _ hq)⟩⟩⟩⟩
set_option maxHeartbeats 4000000 in
theorem u_wX8_drop (x1 : Int32) {Qa Qb : Int32 → Mem → Prop} (M : Mem) (h1 : wX8_drop x1 M Qa) (h2 : wX8_drop x1 M Qb) : (∃ (a0 : Int32) (M' : Mem), Fr (fun i k => 79 ≤ i) M M' ∧ Qa a0 M' ∧ Qb a0 M' ∧ ∀ (Q' : Int32 → Mem → Prop), Q' a0 M' → wX8_drop x1 M Q') := by
  have h1 : (wX8_in x1.toInt64 (0 : Int64) (9999 : Int64) M (fun r2 M1 => ((¬ r2 = 0 → (vp_in (0 : Int32) (ln 81) ∧ (∃ n3, wX8_drop_23 x1 Qa n3 ((M1 81 (0 : Int32).toNatClampNeg) - (1 : Int32)) M1))) ∧ (r2 = 0 → Qa (-1 : Int32) M1)))) := h1
  have h2 : (wX8_in x1.toInt64 (0 : Int64) (9999 : Int64) M (fun r2 M1 => ((¬ r2 = 0 → (vp_in (0 : Int32) (ln 81) ∧ (∃ n3, wX8_drop_23 x1 Qb n3 ((M1 81 (0 : Int32).toNatClampNeg) - (1 : Int32)) M1))) ∧ (r2 = 0 → Qb (-1 : Int32) M1)))) := h2
  obtain ⟨r2, M1, f1, h1, h2, b2⟩ := u_wX8_in x1.toInt64 (0 : Int64) (9999 : Int64) M h1 h2
  have g3 := Fr_tr (Fr_refl (fun i k => 79 ≤ i) M) f1 (fun i k (h : False) => h.elim)
  by_cases hc4 : r2 = 0
  · have h1 := h1.2 hc4
    have h2 := h2.2 hc4
    exact ⟨(-1 : Int32), M1, g3, h1, h2, fun Q' hq => b2 _ ⟨fun z => absurd hc4 z, fun _ => hq⟩⟩
  · have h1 := h1.1 hc4
    have h2 := h2.1 hc4
    have s5 := h1.1
    have h1 := h1.2
    have h2 := h2.2
    obtain ⟨n3_a, h1⟩ := h1
    obtain ⟨n3_b, h2⟩ := h2
    obtain ⟨c10, N11, f8, h1, h2, b9⟩ := u_wX8_drop_23 x1 n3_a n3_b ((M1 81 (0 : Int32).toNatClampNeg) - (1 : Int32)) M1 h1 h2
    have hf := Fr_ts g3 f8
    exact ⟨c10, N11, hf, h1, h2, fun Q' hq => b2 _ ⟨fun _ => ⟨s5, ⟨n3_a, b9 _ hq⟩⟩, fun z => absurd z hc4⟩⟩
set_option maxHeartbeats 4000000 in
theorem u_wX8_put_31 (x1 : Nat) (x2 : Nat) {Qa Qb : Mem → Prop} : ∀ (n1 n2 : Nat) (v3 : Int32) (M : Mem), wX8_put_31 x1 x2 Qa n1 v3 M → wX8_put_31 x1 x2 Qb n2 v3 M → (∃ (M' : Mem), Fr (fun i k => 79 ≤ i ∨ i = x1 ∨ i = x2) M M' ∧ Qa M' ∧ Qb M' ∧ ∀ (Q' : Mem → Prop), Q' M' → wX8_put_31 x1 x2 Q' n1 v3 M) := by
  intro n1
  induction n1 with
  | zero => intro _ _ _ h1 _; exact h1.elim
  | succ n ih =>
    intro n2 v3 M h1 h2
    cases n2 with
    | zero => exact h2.elim
    | succ m =>
      have h1 : (vp_in (0 : Int32) (ln 81) ∧ (((M 81 (0 : Int32).toNatClampNeg) ≤ v3 → Qa M) ∧ (¬ (M 81 (0 : Int32).toNatClampNeg) ≤ v3 → (vp_in v3 (ln 102) ∧ (vp_in v3 (ln x1) ∧ wX8_put_31 x1 x2 Qa n (v3 + (1 : Int32)) (mu M x1 v3.toNatClampNeg (M 102 v3.toNatClampNeg))))))) := h1
      have h2 : (vp_in (0 : Int32) (ln 81) ∧ (((M 81 (0 : Int32).toNatClampNeg) ≤ v3 → Qb M) ∧ (¬ (M 81 (0 : Int32).toNatClampNeg) ≤ v3 → (vp_in v3 (ln 102) ∧ (vp_in v3 (ln x1) ∧ wX8_put_31 x1 x2 Qb m (v3 + (1 : Int32)) (mu M x1 v3.toNatClampNeg (M 102 v3.toNatClampNeg))))))) := h2
      have s1 := h1.1
      have h1 := h1.2
      have h2 := h2.2
      by_cases hc2 : (M 81 (0 : Int32).toNatClampNeg) ≤ v3
      · have h1 := h1.1 hc2
        have h2 := h2.1 hc2
        exact ⟨M, (Fr_refl (fun i k => 79 ≤ i ∨ i = x1 ∨ i = x2) M), h1, h2, fun Q' hq => ⟨s1, ⟨fun _ => hq, fun z => absurd hc2 z⟩⟩⟩
      · have h1 := h1.2 hc2
        have h2 := h2.2 hc2
        have s3 := h1.1
        have h1 := h1.2
        have h2 := h2.2
        have s4 := h1.1
        have h1 := h1.2
        have h2 := h2.2
        obtain ⟨N9, f7, h1, h2, b8⟩ := ih m (v3 + (1 : Int32)) (mu M x1 v3.toNatClampNeg (M 102 v3.toNatClampNeg)) h1 h2
        have hf := Fr_ts (Fr_mu (Fr_refl (fun i k => 79 ≤ i ∨ i = x1 ∨ i = x2) M) (show 79 ≤ x1 ∨ x1 = x1 ∨ x1 = x2 from by omega)) f7
        exact ⟨N9, hf, h1, h2, fun Q' hq => ⟨s1, ⟨fun z => absurd z hc2, fun _ => ⟨s3, ⟨s4, b8 _ hq⟩⟩⟩⟩⟩
set_option maxHeartbeats 4000000 in
theorem u_wX8_put_2 (x1 : Nat) (x2 : Nat) {Qa Qb : Mem → Prop} : ∀ (n1 n2 : Nat) (v3 : Int32) (M : Mem), wX8_put_2 x1 x2 Qa n1 v3 M → wX8_put_2 x1 x2 Qb n2 v3 M → (∃ (M' : Mem), Fr (fun i k => 79 ≤ i ∨ i = x1 ∨ i = x2) M M' ∧ Qa M' ∧ Qb M' ∧ ∀ (Q' : Mem → Prop), Q' M' → wX8_put_2 x1 x2 Q' n1 v3 M) := by
  intro n1
  induction n1 with
  | zero => intro _ _ _ h1 _; exact h1.elim
  | succ n ih =>
    intro n2 v3 M h1 h2
    cases n2 with
    | zero => exact h2.elim
    | succ m =>
      have h1 : (vp_in (0 : Int32) (ln 81) ∧ (((M 81 (0 : Int32).toNatClampNeg) ≤ v3 → (∃ n2, wX8_put_31 x1 x2 Qa n2 (0 : Int32) M)) ∧ (¬ (M 81 (0 : Int32).toNatClampNeg) ≤ v3 → (vp_in v3 (ln x2) ∧ (vp_in (M x2 v3.toNatClampNeg) (ln x1) ∧ (vp_in v3 (ln 102) ∧ wX8_put_2 x1 x2 Qa n (v3 + (1 : Int32)) (mu M 102 v3.toNatClampNeg (M x1 (M x2 v3.toNatClampNeg).toNatClampNeg)))))))) := h1
      have h2 : (vp_in (0 : Int32) (ln 81) ∧ (((M 81 (0 : Int32).toNatClampNeg) ≤ v3 → (∃ n2, wX8_put_31 x1 x2 Qb n2 (0 : Int32) M)) ∧ (¬ (M 81 (0 : Int32).toNatClampNeg) ≤ v3 → (vp_in v3 (ln x2) ∧ (vp_in (M x2 v3.toNatClampNeg) (ln x1) ∧ (vp_in v3 (ln 102) ∧ wX8_put_2 x1 x2 Qb m (v3 + (1 : Int32)) (mu M 102 v3.toNatClampNeg (M x1 (M x2 v3.toNatClampNeg).toNatClampNeg)))))))) := h2
      have s1 := h1.1
      have h1 := h1.2
      have h2 := h2.2
      by_cases hc2 : (M 81 (0 : Int32).toNatClampNeg) ≤ v3
      · have h1 := h1.1 hc2
        have h2 := h2.1 hc2
        obtain ⟨n2_a, h1⟩ := h1
        obtain ⟨n2_b, h2⟩ := h2
        obtain ⟨N7, f5, h1, h2, b6⟩ := u_wX8_put_31 x1 x2 n2_a n2_b (0 : Int32) M h1 h2
        have hf := Fr_ts (Fr_refl (fun i k => 79 ≤ i ∨ i = x1 ∨ i = x2) M) f5
        exact ⟨N7, hf, h1, h2, fun Q' hq => ⟨s1, ⟨fun _ => ⟨n2_a, b6 _ hq⟩, fun z => absurd hc2 z⟩⟩⟩
      · have h1 := h1.2 hc2
        have h2 := h2.2 hc2
        have s8 := h1.1
        have h1 := h1.2
        have h2 := h2.2
        have s9 := h1.1
        have h1 := h1.2
        have h2 := h2.2
        have s10 := h1.1
        have h1 := h1.2
        have h2 := h2.2
        obtain ⟨N15, f13, h1, h2, b14⟩ := ih m (v3 + (1 : Int32)) (mu M 102 v3.toNatClampNeg (M x1 (M x2 v3.toNatClampNeg).toNatClampNeg)) h1 h2
        have hf := Fr_ts (Fr_mu (Fr_refl (fun i k => 79 ≤ i ∨ i = x1 ∨ i = x2) M) (show 79 ≤ 102 ∨ 102 = x1 ∨ 102 = x2 from by omega)) f13
        exact ⟨N15, hf, h1, h2, fun Q' hq => ⟨s1, ⟨fun z => absurd z hc2, fun _ => ⟨s8, ⟨s9, ⟨s10, b14 _ hq⟩⟩⟩⟩⟩⟩
set_option maxHeartbeats 4000000 in
theorem u_wX8_put (x1 : Nat) (x2 : Nat) {Qa Qb : Mem → Prop} (M : Mem) (h1 : wX8_put x1 x2 M Qa) (h2 : wX8_put x1 x2 M Qb) : (∃ (M' : Mem), Fr (fun i k => 79 ≤ i ∨ i = x1 ∨ i = x2) M M' ∧ Qa M' ∧ Qb M' ∧ ∀ (Q' : Mem → Prop), Q' M' → wX8_put x1 x2 M Q') := by
  have h1 : (∃ n1, wX8_put_2 x1 x2 Qa n1 (0 : Int32) M) := h1
  have h2 : (∃ n1, wX8_put_2 x1 x2 Qb n1 (0 : Int32) M) := h2
  obtain ⟨n1_a, h1⟩ := h1
  obtain ⟨n1_b, h2⟩ := h2
  obtain ⟨N5, f3, h1, h2, b4⟩ := u_wX8_put_2 x1 x2 n1_a n1_b (0 : Int32) M h1 h2
  have hf := Fr_ts (Fr_refl (fun i k => 79 ≤ i ∨ i = x1 ∨ i = x2) M) f3
  exact ⟨N5, hf, h1, h2, fun Q' hq => ⟨n1_a, b4 _ hq⟩⟩
set_option maxHeartbeats 4000000 in
theorem u_wX8_layPower_63 (x1 : Int64) {k_35a k_35b : Int64 → Mem → Prop} {Qa Qb : Mem → Prop} (v3 : Int64) (M : Mem) (h1 : wX8_layPower_63 x1 k_35a Qa v3 M) (h2 : wX8_layPower_63 x1 k_35b Qb v3 M) : (∃ (M' : Mem), Fr (fun i k => 79 ≤ i) M M' ∧ Qa M' ∧ Qb M' ∧ ∀ (k'0 : Int64 → Mem → Prop) (Q' : Mem → Prop), Q' M' → wX8_layPower_63 x1 k'0 Q' v3 M) ∨ (∃ (a0 : Int64) (M' : Mem), Fr (fun i k => 79 ≤ i) M M' ∧ k_35a a0 M' ∧ k_35b a0 M' ∧ ∀ (k'0 : Int64 → Mem → Prop) (Q' : Mem → Prop), k'0 a0 M' → wX8_layPower_63 x1 k'0 Q' v3 M) := by
  have h1 : (wX8_put 101 101 M (fun M4 => (¬ (2 : Int64) = 0 ∧ k_35a (v3 / (2 : Int64)) M4))) := h1
  have h2 : (wX8_put 101 101 M (fun M4 => (¬ (2 : Int64) = 0 ∧ k_35b (v3 / (2 : Int64)) M4))) := h2
  obtain ⟨M4, f1, h1, h2, b2⟩ := u_wX8_put 101 101 M h1 h2
  have g3 := Fr_tr (Fr_refl (fun i k => 79 ≤ i) M) f1 (fun i k (h : 79 ≤ i ∨ i = 101 ∨ i = 101) => (show 79 ≤ i from by omega))
  have s4 := h1.1
  have h1 := h1.2
  have h2 := h2.2
  exact Or.inr ⟨(v3 / (2 : Int64)), M4, g3, h1, h2, fun k'0 Q' hq => b2 _ ⟨s4, hq⟩⟩
set_option maxHeartbeats 4000000 in
theorem u_wX8_layPower_35 (x1 : Int64) {Qa Qb : Mem → Prop} : ∀ (n1 n2 : Nat) (v3 : Int64) (M : Mem), wX8_layPower_35 x1 Qa n1 v3 M → wX8_layPower_35 x1 Qb n2 v3 M → (∃ (M' : Mem), Fr (fun i k => 79 ≤ i) M M' ∧ Qa M' ∧ Qb M' ∧ ∀ (Q' : Mem → Prop), Q' M' → wX8_layPower_35 x1 Q' n1 v3 M) := by
  intro n1
  induction n1 with
  | zero => intro _ _ _ h1 _; exact h1.elim
  | succ n ih =>
    intro n2 v3 M h1 h2
    cases n2 with
    | zero => exact h2.elim
    | succ m =>
      have h1 : (((lg_cmp v3 (0 : Int64)) ≤ 0 → Qa M) ∧ (¬ (lg_cmp v3 (0 : Int64)) ≤ 0 → (¬ (2 : Int64) = 0 ∧ ((¬ (lg_cmp (v3 - (v3 / (2 : Int64)) * (2 : Int64)) (1 : Int64)) = 0 → wX8_layPower_63 x1 (wX8_layPower_35 x1 Qa n) Qa v3 M) ∧ ((lg_cmp (v3 - (v3 / (2 : Int64)) * (2 : Int64)) (1 : Int64)) = 0 → (wX8_put 100 101 M (fun M3 => wX8_layPower_63 x1 (wX8_layPower_35 x1 Qa n) Qa v3 M3))))))) := h1
      have h2 : (((lg_cmp v3 (0 : Int64)) ≤ 0 → Qb M) ∧ (¬ (lg_cmp v3 (0 : Int64)) ≤ 0 → (¬ (2 : Int64) = 0 ∧ ((¬ (lg_cmp (v3 - (v3 / (2 : Int64)) * (2 : Int64)) (1 : Int64)) = 0 → wX8_layPower_63 x1 (wX8_layPower_35 x1 Qb m) Qb v3 M) ∧ ((lg_cmp (v3 - (v3 / (2 : Int64)) * (2 : Int64)) (1 : Int64)) = 0 → (wX8_put 100 101 M (fun M3 => wX8_layPower_63 x1 (wX8_layPower_35 x1 Qb m) Qb v3 M3))))))) := h2
      by_cases hc1 : (lg_cmp v3 (0 : Int64)) ≤ 0
      · have h1 := h1.1 hc1
        have h2 := h2.1 hc1
        exact ⟨M, (Fr_refl (fun i k => 79 ≤ i) M), h1, h2, fun Q' hq => ⟨fun _ => hq, fun z => absurd hc1 z⟩⟩
      · have h1 := h1.2 hc1
        have h2 := h2.2 hc1
        have s2 := h1.1
        have h1 := h1.2
        have h2 := h2.2
        by_cases hc3 : (lg_cmp (v3 - (v3 / (2 : Int64)) * (2 : Int64)) (1 : Int64)) = 0
        · have h1 := h1.2 hc3
          have h2 := h2.2 hc3
          obtain ⟨M3, f4, h1, h2, b5⟩ := u_wX8_put 100 101 M h1 h2
          have g6 := Fr_tr (Fr_refl (fun i k => 79 ≤ i) M) f4 (fun i k (h : 79 ≤ i ∨ i = 100 ∨ i = 101) => (show 79 ≤ i from by omega))
          rcases u_wX8_layPower_63 x1 v3 M3 h1 h2 with ⟨N11, f9, h1, h2, b10⟩ | ⟨c12, N13, f9, h1, h2, b10⟩
          · have hf := Fr_ts g6 f9
            exact ⟨N11, hf, h1, h2, fun Q' hq => ⟨fun z => absurd z hc1, fun _ => ⟨s2, ⟨fun z => absurd hc3 z, fun _ => b5 _ (b10 _ _ hq)⟩⟩⟩⟩
          · have hf := Fr_ts g6 f9
            obtain ⟨N16, f14, h1, h2, b15⟩ := ih m c12 N13 h1 h2
            have hf := Fr_ts hf f14
            exact ⟨N16, hf, h1, h2, fun Q' hq => ⟨fun z => absurd z hc1, fun _ => ⟨s2, ⟨fun z => absurd hc3 z, fun _ => b5 _ (b10 _ _ (b15 _ hq))⟩⟩⟩⟩
        · have h1 := h1.1 hc3
          have h2 := h2.1 hc3
          rcases u_wX8_layPower_63 x1 v3 M h1 h2 with ⟨N21, f19, h1, h2, b20⟩ | ⟨c22, N23, f19, h1, h2, b20⟩
          · have hf := Fr_ts (Fr_refl (fun i k => 79 ≤ i) M) f19
            exact ⟨N21, hf, h1, h2, fun Q' hq => ⟨fun z => absurd z hc1, fun _ => ⟨s2, ⟨fun _ => b20 _ _ hq, fun z => absurd z hc3⟩⟩⟩⟩
          · have hf := Fr_ts (Fr_refl (fun i k => 79 ≤ i) M) f19
            obtain ⟨N26, f24, h1, h2, b25⟩ := ih m c22 N23 h1 h2
            have hf := Fr_ts hf f24
            exact ⟨N26, hf, h1, h2, fun Q' hq => ⟨fun z => absurd z hc1, fun _ => ⟨s2, ⟨fun _ => b20 _ _ (b25 _ hq), fun z => absurd z hc3⟩⟩⟩⟩
set_option maxHeartbeats 4000000 in
theorem u_wX8_layPower_2 (x1 : Int64) {Qa Qb : Mem → Prop} : ∀ (n1 n2 : Nat) (v3 : Int32) (M : Mem), wX8_layPower_2 x1 Qa n1 v3 M → wX8_layPower_2 x1 Qb n2 v3 M → (∃ (M' : Mem), Fr (fun i k => 79 ≤ i) M M' ∧ Qa M' ∧ Qb M' ∧ ∀ (Q' : Mem → Prop), Q' M' → wX8_layPower_2 x1 Q' n1 v3 M) := by
  intro n1
  induction n1 with
  | zero => intro _ _ _ h1 _; exact h1.elim
  | succ n ih =>
    intro n2 v3 M h1 h2
    cases n2 with
    | zero => exact h2.elim
    | succ m =>
      have h1 : (((40 : Int32) ≤ v3 → (∃ n2, wX8_layPower_35 x1 Qa n2 x1 M)) ∧ (¬ (40 : Int32) ≤ v3 → (vp_in v3 (ln 100) ∧ (vp_in v3 (ln 99) ∧ (vp_in v3 (ln 101) ∧ wX8_layPower_2 x1 Qa n (v3 + (1 : Int32)) (mu (mu M 100 v3.toNatClampNeg v3) 101 v3.toNatClampNeg ((mu M 100 v3.toNatClampNeg v3) 99 v3.toNatClampNeg))))))) := h1
      have h2 : (((40 : Int32) ≤ v3 → (∃ n2, wX8_layPower_35 x1 Qb n2 x1 M)) ∧ (¬ (40 : Int32) ≤ v3 → (vp_in v3 (ln 100) ∧ (vp_in v3 (ln 99) ∧ (vp_in v3 (ln 101) ∧ wX8_layPower_2 x1 Qb m (v3 + (1 : Int32)) (mu (mu M 100 v3.toNatClampNeg v3) 101 v3.toNatClampNeg ((mu M 100 v3.toNatClampNeg v3) 99 v3.toNatClampNeg))))))) := h2
      by_cases hc1 : (40 : Int32) ≤ v3
      · have h1 := h1.1 hc1
        have h2 := h2.1 hc1
        obtain ⟨n2_a, h1⟩ := h1
        obtain ⟨n2_b, h2⟩ := h2
        obtain ⟨N6, f4, h1, h2, b5⟩ := u_wX8_layPower_35 x1 n2_a n2_b x1 M h1 h2
        have hf := Fr_ts (Fr_refl (fun i k => 79 ≤ i) M) f4
        exact ⟨N6, hf, h1, h2, fun Q' hq => ⟨fun _ => ⟨n2_a, b5 _ hq⟩, fun z => absurd hc1 z⟩⟩
      · have h1 := h1.2 hc1
        have h2 := h2.2 hc1
        have s7 := h1.1
        have h1 := h1.2
        have h2 := h2.2
        have s8 := h1.1
        have h1 := h1.2
        have h2 := h2.2
        have s9 := h1.1
        have h1 := h1.2
        have h2 := h2.2
        obtain ⟨N14, f12, h1, h2, b13⟩ := ih m (v3 + (1 : Int32)) (mu (mu M 100 v3.toNatClampNeg v3) 101 v3.toNatClampNeg ((mu M 100 v3.toNatClampNeg v3) 99 v3.toNatClampNeg)) h1 h2
        have hf := Fr_ts (Fr_mu (Fr_mu (Fr_refl (fun i k => 79 ≤ i) M) (show 79 ≤ 100 from by omega)) (show 79 ≤ 101 from by omega)) f12
        exact ⟨N14, hf, h1, h2, fun Q' hq => ⟨fun z => absurd z hc1, fun _ => ⟨s7, ⟨s8, ⟨s9, b13 _ hq⟩⟩⟩⟩⟩
set_option maxHeartbeats 4000000 in
theorem u_wX8_layPower (x1 : Int64) {Qa Qb : Mem → Prop} (M : Mem) (h1 : wX8_layPower x1 M Qa) (h2 : wX8_layPower x1 M Qb) : (∃ (M' : Mem), Fr (fun i k => 79 ≤ i) M M' ∧ Qa M' ∧ Qb M' ∧ ∀ (Q' : Mem → Prop), Q' M' → wX8_layPower x1 M Q') := by
  have h1 : (∃ n1, wX8_layPower_2 x1 Qa n1 (0 : Int32) M) := h1
  have h2 : (∃ n1, wX8_layPower_2 x1 Qb n1 (0 : Int32) M) := h2
  obtain ⟨n1_a, h1⟩ := h1
  obtain ⟨n1_b, h2⟩ := h2
  obtain ⟨N5, f3, h1, h2, b4⟩ := u_wX8_layPower_2 x1 n1_a n1_b (0 : Int32) M h1 h2
  have hf := Fr_ts (Fr_refl (fun i k => 79 ≤ i) M) f3
  exact ⟨N5, hf, h1, h2, fun Q' hq => ⟨n1_a, b4 _ hq⟩⟩
set_option maxHeartbeats 4000000 in
theorem u_wX8_placeOf (x1 : Int32) {Qa Qb : Int32 → Mem → Prop} (M : Mem) (h1 : wX8_placeOf x1 M Qa) (h2 : wX8_placeOf x1 M Qb) : (∃ (a0 : Int32) (M' : Mem), Fr (fun i k => False) M M' ∧ Qa a0 M' ∧ Qb a0 M' ∧ ∀ (Q' : Int32 → Mem → Prop), Q' a0 M' → wX8_placeOf x1 M Q') := by
  have h1 : (vp_in x1 (ln 98) ∧ (vp_in (M 98 x1.toNatClampNeg) (ln 100) ∧ Qa (M 100 (M 98 x1.toNatClampNeg).toNatClampNeg) M)) := h1
  have h2 : (vp_in x1 (ln 98) ∧ (vp_in (M 98 x1.toNatClampNeg) (ln 100) ∧ Qb (M 100 (M 98 x1.toNatClampNeg).toNatClampNeg) M)) := h2
  have s1 := h1.1
  have h1 := h1.2
  have h2 := h2.2
  have s2 := h1.1
  have h1 := h1.2
  have h2 := h2.2
  exact ⟨(M 100 (M 98 x1.toNatClampNeg).toNatClampNeg), M, (Fr_refl (fun i k => False) M), h1, h2, fun Q' hq => ⟨s1, ⟨s2, hq⟩⟩⟩
set_option maxHeartbeats 4000000 in
theorem u_wX8_isReader (x0 : Int64) {Qa Qb : Int32 → Mem → Prop} (M : Mem) (h1 : wX8_isReader x0 M Qa) (h2 : wX8_isReader x0 M Qb) : (∃ (a0 : Int32) (M' : Mem), Fr (fun i k => False) M M' ∧ Qa a0 M' ∧ Qb a0 M' ∧ ∀ (Q' : Int32 → Mem → Prop), Q' a0 M' → wX8_isReader x0 M Q') := by
  have h1 : (wX8_in x0 (0 : Int64) (1000000000000 : Int64) M (fun r2 M1 => ((r2 = 0 ∨ r2 = 1) ∧ Qa r2 M1))) := h1
  have h2 : (wX8_in x0 (0 : Int64) (1000000000000 : Int64) M (fun r2 M1 => ((r2 = 0 ∨ r2 = 1) ∧ Qb r2 M1))) := h2
  obtain ⟨r2, M1, f1, h1, h2, b2⟩ := u_wX8_in x0 (0 : Int64) (1000000000000 : Int64) M h1 h2
  have g3 := Fr_tr (Fr_refl (fun i k => False) M) f1 (fun i k (h : False) => h.elim)
  have s4 := h1.1
  have h1 := h1.2
  have h2 := h2.2
  exact ⟨r2, M1, g3, h1, h2, fun Q' hq => b2 _ ⟨s4, hq⟩⟩
set_option maxHeartbeats 4000000 in
theorem u_wX8_has_25 (x1 : Int64) (x3 : Int32) {Qa Qb : Int32 → Mem → Prop} (M : Mem) (h1 : wX8_has_25 x1 x3 Qa M) (h2 : wX8_has_25 x1 x3 Qb M) : (∃ (a0 : Int32) (M' : Mem), Fr (fun i k => 79 ≤ i) M M' ∧ Qa a0 M' ∧ Qb a0 M' ∧ ∀ (Q' : Int32 → Mem → Prop), Q' a0 M' → wX8_has_25 x1 x3 Q' M) := by
  have h1 : Qa (-1 : Int32) M := h1
  have h2 : Qb (-1 : Int32) M := h2
  exact ⟨(-1 : Int32), M, (Fr_refl (fun i k => 79 ≤ i) M), h1, h2, fun Q' hq => hq⟩
set_option maxHeartbeats 4000000 in
theorem u_wX8_has (x1 : Int64) (x3 : Int32) {Qa Qb : Int32 → Mem → Prop} (M : Mem) (h1 : wX8_has x1 x3 M Qa) (h2 : wX8_has x1 x3 M Qb) : (∃ (a0 : Int32) (M' : Mem), Fr (fun i k => 79 ≤ i) M M' ∧ Qa a0 M' ∧ Qb a0 M' ∧ ∀ (Q' : Int32 → Mem → Prop), Q' a0 M' → wX8_has x1 x3 M Q') := by
  have h1 : (wX8_isReader x1 M (fun r2 M1 => ((r2 = 0 → wX8_has_25 x1 x3 Qa M1) ∧ (¬ r2 = 0 → (vp_in (0 : Int32) (ln 82) ∧ (wX8_in x3.toInt64 (0 : Int64) (((M1 82 (0 : Int32).toNatClampNeg) - (1 : Int32)).toInt64) M1 (fun r4 M3 => ((¬ r4 = 0 → (wX8_layPower x1 M3 (fun M5 => (wX8_placeOf x3 M5 (fun r7 M6 => (vp_in r7 (ln 89) ∧ Qa (M6 89 r7.toNatClampNeg) M6)))))) ∧ (r4 = 0 → wX8_has_25 x1 x3 Qa M3))))))))) := h1
  have h2 : (wX8_isReader x1 M (fun r2 M1 => ((r2 = 0 → wX8_has_25 x1 x3 Qb M1) ∧ (¬ r2 = 0 → (vp_in (0 : Int32) (ln 82) ∧ (wX8_in x3.toInt64 (0 : Int64) (((M1 82 (0 : Int32).toNatClampNeg) - (1 : Int32)).toInt64) M1 (fun r4 M3 => ((¬ r4 = 0 → (wX8_layPower x1 M3 (fun M5 => (wX8_placeOf x3 M5 (fun r7 M6 => (vp_in r7 (ln 89) ∧ Qb (M6 89 r7.toNatClampNeg) M6)))))) ∧ (r4 = 0 → wX8_has_25 x1 x3 Qb M3))))))))) := h2
  obtain ⟨r2, M1, f1, h1, h2, b2⟩ := u_wX8_isReader x1 M h1 h2
  have g3 := Fr_tr (Fr_refl (fun i k => 79 ≤ i) M) f1 (fun i k (h : False) => h.elim)
  by_cases hc4 : r2 = 0
  · have h1 := h1.1 hc4
    have h2 := h2.1 hc4
    obtain ⟨c9, N10, f7, h1, h2, b8⟩ := u_wX8_has_25 x1 x3 M1 h1 h2
    have hf := Fr_ts g3 f7
    exact ⟨c9, N10, hf, h1, h2, fun Q' hq => b2 _ ⟨fun _ => b8 _ hq, fun z => absurd hc4 z⟩⟩
  · have h1 := h1.2 hc4
    have h2 := h2.2 hc4
    have s11 := h1.1
    have h1 := h1.2
    have h2 := h2.2
    obtain ⟨r4, M3, f12, h1, h2, b13⟩ := u_wX8_in x3.toInt64 (0 : Int64) (((M1 82 (0 : Int32).toNatClampNeg) - (1 : Int32)).toInt64) M1 h1 h2
    have g14 := Fr_tr g3 f12 (fun i k (h : False) => h.elim)
    by_cases hc15 : r4 = 0
    · have h1 := h1.2 hc15
      have h2 := h2.2 hc15
      obtain ⟨c20, N21, f18, h1, h2, b19⟩ := u_wX8_has_25 x1 x3 M3 h1 h2
      have hf := Fr_ts g14 f18
      exact ⟨c20, N21, hf, h1, h2, fun Q' hq => b2 _ ⟨fun z => absurd z hc4, fun _ => ⟨s11, b13 _ ⟨fun z => absurd hc15 z, fun _ => b19 _ hq⟩⟩⟩⟩
    · have h1 := h1.1 hc15
      have h2 := h2.1 hc15
      obtain ⟨M5, f22, h1, h2, b23⟩ := u_wX8_layPower x1 M3 h1 h2
      have g24 := Fr_tr g14 f22 (fun i k (h : 79 ≤ i) => (show 79 ≤ i from by omega))
      obtain ⟨r7, M6, f25, h1, h2, b26⟩ := u_wX8_placeOf x3 M5 h1 h2
      have g27 := Fr_tr g24 f25 (fun i k (h : False) => h.elim)
      have s28 := h1.1
      have h1 := h1.2
      have h2 := h2.2
      exact ⟨(M6 89 r7.toNatClampNeg), M6, g27, h1, h2, fun Q' hq => b2 _ ⟨fun z => absurd z hc4, fun _ => ⟨s11, b13 _ ⟨fun _ => b23 _ (b26 _ ⟨s28, hq⟩), fun z => absurd z hc15⟩⟩⟩⟩
set_option maxHeartbeats 4000000 in
theorem u_wX8_leavesNow_4 {Qa Qb : Int64 → Mem → Prop} : ∀ (n1 n2 : Nat) (v1 : Int64) (v3 : Int32) (M : Mem), wX8_leavesNow_4 Qa n1 v1 v3 M → wX8_leavesNow_4 Qb n2 v1 v3 M → (∃ (a0 : Int64) (M' : Mem), Fr (fun i k => False) M M' ∧ Qa a0 M' ∧ Qb a0 M' ∧ ∀ (Q' : Int64 → Mem → Prop), Q' a0 M' → wX8_leavesNow_4 Q' n1 v1 v3 M) := by
  intro n1
  induction n1 with
  | zero => intro _ _ _ _ h1 _; exact h1.elim
  | succ n ih =>
    intro n2 v1 v3 M h1 h2
    cases n2 with
    | zero => exact h2.elim
    | succ m =>
      have h1 : (vp_in (0 : Int32) (ln 82) ∧ (((M 82 (0 : Int32).toNatClampNeg) ≤ v3 → Qa v1 M) ∧ (¬ (M 82 (0 : Int32).toNatClampNeg) ≤ v3 → (wX8_placeOf v3 M (fun r3 M2 => (vp_in r3 (ln 89) ∧ wX8_leavesNow_4 Qa n (v1 ||| ((1 : Int64) <<< ((M2 89 r3.toNatClampNeg).toInt64 &&& 63))) (v3 + (1 : Int32)) M2)))))) := h1
      have h2 : (vp_in (0 : Int32) (ln 82) ∧ (((M 82 (0 : Int32).toNatClampNeg) ≤ v3 → Qb v1 M) ∧ (¬ (M 82 (0 : Int32).toNatClampNeg) ≤ v3 → (wX8_placeOf v3 M (fun r3 M2 => (vp_in r3 (ln 89) ∧ wX8_leavesNow_4 Qb m (v1 ||| ((1 : Int64) <<< ((M2 89 r3.toNatClampNeg).toInt64 &&& 63))) (v3 + (1 : Int32)) M2)))))) := h2
      have s1 := h1.1
      have h1 := h1.2
      have h2 := h2.2
      by_cases hc2 : (M 82 (0 : Int32).toNatClampNeg) ≤ v3
      · have h1 := h1.1 hc2
        have h2 := h2.1 hc2
        exact ⟨v1, M, (Fr_refl (fun i k => False) M), h1, h2, fun Q' hq => ⟨s1, ⟨fun _ => hq, fun z => absurd hc2 z⟩⟩⟩
      · have h1 := h1.2 hc2
        have h2 := h2.2 hc2
        obtain ⟨r3, M2, f3, h1, h2, b4⟩ := u_wX8_placeOf v3 M h1 h2
        have g5 := Fr_tr (Fr_refl (fun i k => False) M) f3 (fun i k (h : False) => h.elim)
        have s6 := h1.1
        have h1 := h1.2
        have h2 := h2.2
        obtain ⟨c11, N12, f9, h1, h2, b10⟩ := ih m (v1 ||| ((1 : Int64) <<< ((M2 89 r3.toNatClampNeg).toInt64 &&& 63))) (v3 + (1 : Int32)) M2 h1 h2
        have hf := Fr_ts g5 f9
        exact ⟨c11, N12, hf, h1, h2, fun Q' hq => ⟨s1, ⟨fun z => absurd z hc2, fun _ => b4 _ ⟨s6, b10 _ hq⟩⟩⟩⟩
set_option maxHeartbeats 4000000 in
theorem u_wX8_leavesNow {Qa Qb : Int64 → Mem → Prop} (M : Mem) (h1 : wX8_leavesNow M Qa) (h2 : wX8_leavesNow M Qb) : (∃ (a0 : Int64) (M' : Mem), Fr (fun i k => False) M M' ∧ Qa a0 M' ∧ Qb a0 M' ∧ ∀ (Q' : Int64 → Mem → Prop), Q' a0 M' → wX8_leavesNow M Q') := by
  have h1 : (∃ n1, wX8_leavesNow_4 Qa n1 (0 : Int64) (0 : Int32) M) := h1
  have h2 : (∃ n1, wX8_leavesNow_4 Qb n1 (0 : Int64) (0 : Int32) M) := h2
  obtain ⟨n1_a, h1⟩ := h1
  obtain ⟨n1_b, h2⟩ := h2
  obtain ⟨c5, N6, f3, h1, h2, b4⟩ := u_wX8_leavesNow_4 n1_a n1_b (0 : Int64) (0 : Int32) M h1 h2
  have hf := Fr_ts (Fr_refl (fun i k => False) M) f3
  exact ⟨c5, N6, hf, h1, h2, fun Q' hq => ⟨n1_a, b4 _ hq⟩⟩
set_option maxHeartbeats 4000000 in
theorem u_wX8_leaves (x1 : Int64) {Qa Qb : Int64 → Mem → Prop} (M : Mem) (h1 : wX8_leaves x1 M Qa) (h2 : wX8_leaves x1 M Qb) : (∃ (a0 : Int64) (M' : Mem), Fr (fun i k => 79 ≤ i) M M' ∧ Qa a0 M' ∧ Qb a0 M' ∧ ∀ (Q' : Int64 → Mem → Prop), Q' a0 M' → wX8_leaves x1 M Q') := by
  have h1 : (wX8_isReader x1 M (fun r2 M1 => ((¬ r2 = 0 → (wX8_layPower x1 M1 (fun M3 => (wX8_leavesNow M3 (fun r5 M4 => Qa r5 M4))))) ∧ (r2 = 0 → Qa (-1 : Int64) M1)))) := h1
  have h2 : (wX8_isReader x1 M (fun r2 M1 => ((¬ r2 = 0 → (wX8_layPower x1 M1 (fun M3 => (wX8_leavesNow M3 (fun r5 M4 => Qb r5 M4))))) ∧ (r2 = 0 → Qb (-1 : Int64) M1)))) := h2
  obtain ⟨r2, M1, f1, h1, h2, b2⟩ := u_wX8_isReader x1 M h1 h2
  have g3 := Fr_tr (Fr_refl (fun i k => 79 ≤ i) M) f1 (fun i k (h : False) => h.elim)
  by_cases hc4 : r2 = 0
  · have h1 := h1.2 hc4
    have h2 := h2.2 hc4
    exact ⟨(-1 : Int64), M1, g3, h1, h2, fun Q' hq => b2 _ ⟨fun z => absurd hc4 z, fun _ => hq⟩⟩
  · have h1 := h1.1 hc4
    have h2 := h2.1 hc4
    obtain ⟨M3, f5, h1, h2, b6⟩ := u_wX8_layPower x1 M1 h1 h2
    have g7 := Fr_tr g3 f5 (fun i k (h : 79 ≤ i) => (show 79 ≤ i from by omega))
    obtain ⟨r5, M4, f8, h1, h2, b9⟩ := u_wX8_leavesNow M3 h1 h2
    have g10 := Fr_tr g7 f8 (fun i k (h : False) => h.elim)
    exact ⟨r5, M4, g10, h1, h2, fun Q' hq => b2 _ ⟨fun _ => b6 _ (b9 _ hq), fun z => absurd z hc4⟩⟩
set_option maxHeartbeats 4000000 in
theorem u_wX8_isAtFirst_33 {k_4a k_4b : Int32 → Int32 → Mem → Prop} {Qa Qb : Int32 → Mem → Prop} (v2 : Int32) (s0 : Int32) (M : Mem) (h1 : wX8_isAtFirst_33 k_4a Qa v2 s0 M) (h2 : wX8_isAtFirst_33 k_4b Qb v2 s0 M) : (∃ (a0 : Int32) (M' : Mem), Fr (fun i k => False) M M' ∧ Qa a0 M' ∧ Qb a0 M' ∧ ∀ (k'0 : Int32 → Int32 → Mem → Prop) (Q' : Int32 → Mem → Prop), Q' a0 M' → wX8_isAtFirst_33 k'0 Q' v2 s0 M) ∨ (∃ (a0 : Int32) (a1 : Int32) (M' : Mem), Fr (fun i k => False) M M' ∧ k_4a a0 a1 M' ∧ k_4b a0 a1 M' ∧ ∀ (k'0 : Int32 → Int32 → Mem → Prop) (Q' : Int32 → Mem → Prop), k'0 a0 a1 M' → wX8_isAtFirst_33 k'0 Q' v2 s0 M) := by
  have h1 : k_4a s0 (v2 + (1 : Int32)) M := h1
  have h2 : k_4b s0 (v2 + (1 : Int32)) M := h2
  exact Or.inr ⟨s0, (v2 + (1 : Int32)), M, (Fr_refl (fun i k => False) M), h1, h2, fun k'0 Q' hq => hq⟩
set_option maxHeartbeats 4000000 in
theorem u_wX8_isAtFirst_32 {k_4a k_4b : Int32 → Int32 → Mem → Prop} {Qa Qb : Int32 → Mem → Prop} (v2 : Int32) (M : Mem) (h1 : wX8_isAtFirst_32 k_4a Qa v2 M) (h2 : wX8_isAtFirst_32 k_4b Qb v2 M) : (∃ (a0 : Int32) (M' : Mem), Fr (fun i k => False) M M' ∧ Qa a0 M' ∧ Qb a0 M' ∧ ∀ (k'0 : Int32 → Int32 → Mem → Prop) (Q' : Int32 → Mem → Prop), Q' a0 M' → wX8_isAtFirst_32 k'0 Q' v2 M) ∨ (∃ (a0 : Int32) (a1 : Int32) (M' : Mem), Fr (fun i k => False) M M' ∧ k_4a a0 a1 M' ∧ k_4b a0 a1 M' ∧ ∀ (k'0 : Int32 → Int32 → Mem → Prop) (Q' : Int32 → Mem → Prop), k'0 a0 a1 M' → wX8_isAtFirst_32 k'0 Q' v2 M) := by
  have h1 : wX8_isAtFirst_33 (k_4a) Qa v2 (0 : Int32) M := h1
  have h2 : wX8_isAtFirst_33 (k_4b) Qb v2 (0 : Int32) M := h2
  rcases u_wX8_isAtFirst_33 v2 (0 : Int32) M h1 h2 with ⟨c5, N6, f3, h1, h2, b4⟩ | ⟨c7, c8, N9, f3, h1, h2, b4⟩
  · have hf := Fr_ts (Fr_refl (fun i k => False) M) f3
    exact Or.inl ⟨c5, N6, hf, h1, h2, fun k'0 Q' hq => b4 _ _ hq⟩
  · have hf := Fr_ts (Fr_refl (fun i k => False) M) f3
    exact Or.inr ⟨c7, c8, N9, hf, h1, h2, fun k'0 Q' hq => b4 _ _ hq⟩
set_option maxHeartbeats 4000000 in
theorem u_wX8_isAtFirst_4 {Qa Qb : Int32 → Mem → Prop} : ∀ (n1 n2 : Nat) (v1 : Int32) (v2 : Int32) (M : Mem), wX8_isAtFirst_4 Qa n1 v1 v2 M → wX8_isAtFirst_4 Qb n2 v1 v2 M → (∃ (a0 : Int32) (M' : Mem), Fr (fun i k => False) M M' ∧ Qa a0 M' ∧ Qb a0 M' ∧ ∀ (Q' : Int32 → Mem → Prop), Q' a0 M' → wX8_isAtFirst_4 Q' n1 v1 v2 M) := by
  intro n1
  induction n1 with
  | zero => intro _ _ _ _ h1 _; exact h1.elim
  | succ n ih =>
    intro n2 v1 v2 M h1 h2
    cases n2 with
    | zero => exact h2.elim
    | succ m =>
      have h1 : (vp_in (0 : Int32) (ln 81) ∧ (((M 81 (0 : Int32).toNatClampNeg) ≤ v2 → ((v1 = 0 ∨ v1 = 1) ∧ Qa v1 M)) ∧ (¬ (M 81 (0 : Int32).toNatClampNeg) ≤ v2 → ((v1 = 0 → wX8_isAtFirst_32 (wX8_isAtFirst_4 Qa n) Qa v2 M) ∧ (¬ v1 = 0 → (vp_in v2 (ln 100) ∧ ((¬ (M 100 v2.toNatClampNeg) = v2 → wX8_isAtFirst_32 (wX8_isAtFirst_4 Qa n) Qa v2 M) ∧ ((M 100 v2.toNatClampNeg) = v2 → wX8_isAtFirst_33 (wX8_isAtFirst_4 Qa n) Qa v2 (1 : Int32) M)))))))) := h1
      have h2 : (vp_in (0 : Int32) (ln 81) ∧ (((M 81 (0 : Int32).toNatClampNeg) ≤ v2 → ((v1 = 0 ∨ v1 = 1) ∧ Qb v1 M)) ∧ (¬ (M 81 (0 : Int32).toNatClampNeg) ≤ v2 → ((v1 = 0 → wX8_isAtFirst_32 (wX8_isAtFirst_4 Qb m) Qb v2 M) ∧ (¬ v1 = 0 → (vp_in v2 (ln 100) ∧ ((¬ (M 100 v2.toNatClampNeg) = v2 → wX8_isAtFirst_32 (wX8_isAtFirst_4 Qb m) Qb v2 M) ∧ ((M 100 v2.toNatClampNeg) = v2 → wX8_isAtFirst_33 (wX8_isAtFirst_4 Qb m) Qb v2 (1 : Int32) M)))))))) := h2
      have s1 := h1.1
      have h1 := h1.2
      have h2 := h2.2
      by_cases hc2 : (M 81 (0 : Int32).toNatClampNeg) ≤ v2
      · have h1 := h1.1 hc2
        have h2 := h2.1 hc2
        have s3 := h1.1
        have h1 := h1.2
        have h2 := h2.2
        exact ⟨v1, M, (Fr_refl (fun i k => False) M), h1, h2, fun Q' hq => ⟨s1, ⟨fun _ => ⟨s3, hq⟩, fun z => absurd hc2 z⟩⟩⟩
      · have h1 := h1.2 hc2
        have h2 := h2.2 hc2
        by_cases hc4 : v1 = 0
        · have h1 := h1.1 hc4
          have h2 := h2.1 hc4
          rcases u_wX8_isAtFirst_32 v2 M h1 h2 with ⟨c9, N10, f7, h1, h2, b8⟩ | ⟨c11, c12, N13, f7, h1, h2, b8⟩
          · have hf := Fr_ts (Fr_refl (fun i k => False) M) f7
            exact ⟨c9, N10, hf, h1, h2, fun Q' hq => ⟨s1, ⟨fun z => absurd z hc2, fun _ => ⟨fun _ => b8 _ _ hq, fun z => absurd hc4 z⟩⟩⟩⟩
          · have hf := Fr_ts (Fr_refl (fun i k => False) M) f7
            obtain ⟨c16, N17, f14, h1, h2, b15⟩ := ih m c11 c12 N13 h1 h2
            have hf := Fr_ts hf f14
            exact ⟨c16, N17, hf, h1, h2, fun Q' hq => ⟨s1, ⟨fun z => absurd z hc2, fun _ => ⟨fun _ => b8 _ _ (b15 _ hq), fun z => absurd hc4 z⟩⟩⟩⟩
        · have h1 := h1.2 hc4
          have h2 := h2.2 hc4
          have s18 := h1.1
          have h1 := h1.2
          have h2 := h2.2
          by_cases hc19 : (M 100 v2.toNatClampNeg) = v2
          · have h1 := h1.2 hc19
            have h2 := h2.2 hc19
            rcases u_wX8_isAtFirst_33 v2 (1 : Int32) M h1 h2 with ⟨c24, N25, f22, h1, h2, b23⟩ | ⟨c26, c27, N28, f22, h1, h2, b23⟩
            · have hf := Fr_ts (Fr_refl (fun i k => False) M) f22
              exact ⟨c24, N25, hf, h1, h2, fun Q' hq => ⟨s1, ⟨fun z => absurd z hc2, fun _ => ⟨fun z => absurd z hc4, fun _ => ⟨s18, ⟨fun z => absurd hc19 z, fun _ => b23 _ _ hq⟩⟩⟩⟩⟩⟩
            · have hf := Fr_ts (Fr_refl (fun i k => False) M) f22
              obtain ⟨c31, N32, f29, h1, h2, b30⟩ := ih m c26 c27 N28 h1 h2
              have hf := Fr_ts hf f29
              exact ⟨c31, N32, hf, h1, h2, fun Q' hq => ⟨s1, ⟨fun z => absurd z hc2, fun _ => ⟨fun z => absurd z hc4, fun _ => ⟨s18, ⟨fun z => absurd hc19 z, fun _ => b23 _ _ (b30 _ hq)⟩⟩⟩⟩⟩⟩
          · have h1 := h1.1 hc19
            have h2 := h2.1 hc19
            rcases u_wX8_isAtFirst_32 v2 M h1 h2 with ⟨c37, N38, f35, h1, h2, b36⟩ | ⟨c39, c40, N41, f35, h1, h2, b36⟩
            · have hf := Fr_ts (Fr_refl (fun i k => False) M) f35
              exact ⟨c37, N38, hf, h1, h2, fun Q' hq => ⟨s1, ⟨fun z => absurd z hc2, fun _ => ⟨fun z => absurd z hc4, fun _ => ⟨s18, ⟨fun _ => b36 _ _ hq, fun z => absurd z hc19⟩⟩⟩⟩⟩⟩
            · have hf := Fr_ts (Fr_refl (fun i k => False) M) f35
              obtain ⟨c44, N45, f42, h1, h2, b43⟩ := ih m c39 c40 N41 h1 h2
              have hf := Fr_ts hf f42
              exact ⟨c44, N45, hf, h1, h2, fun Q' hq => ⟨s1, ⟨fun z => absurd z hc2, fun _ => ⟨fun z => absurd z hc4, fun _ => ⟨s18, ⟨fun _ => b36 _ _ (b43 _ hq), fun z => absurd z hc19⟩⟩⟩⟩⟩⟩
set_option maxHeartbeats 4000000 in
theorem u_wX8_isAtFirst {Qa Qb : Int32 → Mem → Prop} (M : Mem) (h1 : wX8_isAtFirst M Qa) (h2 : wX8_isAtFirst M Qb) : (∃ (a0 : Int32) (M' : Mem), Fr (fun i k => False) M M' ∧ Qa a0 M' ∧ Qb a0 M' ∧ ∀ (Q' : Int32 → Mem → Prop), Q' a0 M' → wX8_isAtFirst M Q') := by
  have h1 : (∃ n1, wX8_isAtFirst_4 Qa n1 (1 : Int32) (0 : Int32) M) := h1
  have h2 : (∃ n1, wX8_isAtFirst_4 Qb n1 (1 : Int32) (0 : Int32) M) := h2
  obtain ⟨n1_a, h1⟩ := h1
  obtain ⟨n1_b, h2⟩ := h2
  obtain ⟨c5, N6, f3, h1, h2, b4⟩ := u_wX8_isAtFirst_4 n1_a n1_b (1 : Int32) (0 : Int32) M h1 h2
  have hf := Fr_ts (Fr_refl (fun i k => False) M) f3
  exact ⟨c5, N6, hf, h1, h2, fun Q' hq => ⟨n1_a, b4 _ hq⟩⟩
set_option maxHeartbeats 4000000 in
theorem u_wX8_period_7 {Qa Qb : Int32 → Mem → Prop} : ∀ (n1 n2 : Nat) (v1 : Int32) (M : Mem), wX8_period_7 Qa n1 v1 M → wX8_period_7 Qb n2 v1 M → (∃ (a0 : Int32) (M' : Mem), Fr (fun i k => 79 ≤ i) M M' ∧ Qa a0 M' ∧ Qb a0 M' ∧ ∀ (Q' : Int32 → Mem → Prop), Q' a0 M' → wX8_period_7 Q' n1 v1 M) := by
  intro n1
  induction n1 with
  | zero => intro _ _ _ h1 _; exact h1.elim
  | succ n ih =>
    intro n2 v1 M h1 h2
    cases n2 with
    | zero => exact h2.elim
    | succ m =>
      have h1 : (wX8_isAtFirst M (fun r4 M3 => ((¬ r4 = 0 → Qa v1 M3) ∧ (r4 = 0 → (wX8_put 100 99 M3 (fun M5 => wX8_period_7 Qa n (v1 + (1 : Int32)) M5)))))) := h1
      have h2 : (wX8_isAtFirst M (fun r4 M3 => ((¬ r4 = 0 → Qb v1 M3) ∧ (r4 = 0 → (wX8_put 100 99 M3 (fun M5 => wX8_period_7 Qb m (v1 + (1 : Int32)) M5)))))) := h2
      obtain ⟨r4, M3, f1, h1, h2, b2⟩ := u_wX8_isAtFirst M h1 h2
      have g3 := Fr_tr (Fr_refl (fun i k => 79 ≤ i) M) f1 (fun i k (h : False) => h.elim)
      by_cases hc4 : r4 = 0
      · have h1 := h1.2 hc4
        have h2 := h2.2 hc4
        obtain ⟨M5, f5, h1, h2, b6⟩ := u_wX8_put 100 99 M3 h1 h2
        have g7 := Fr_tr g3 f5 (fun i k (h : 79 ≤ i ∨ i = 100 ∨ i = 99) => (show 79 ≤ i from by omega))
        obtain ⟨c12, N13, f10, h1, h2, b11⟩ := ih m (v1 + (1 : Int32)) M5 h1 h2
        have hf := Fr_ts g7 f10
        exact ⟨c12, N13, hf, h1, h2, fun Q' hq => b2 _ ⟨fun z => absurd hc4 z, fun _ => b6 _ (b11 _ hq)⟩⟩
      · have h1 := h1.1 hc4
        have h2 := h2.1 hc4
        exact ⟨v1, M3, g3, h1, h2, fun Q' hq => b2 _ ⟨fun _ => hq, fun z => absurd z hc4⟩⟩
set_option maxHeartbeats 4000000 in
theorem u_wX8_period {Qa Qb : Int32 → Mem → Prop} (M : Mem) (h1 : wX8_period M Qa) (h2 : wX8_period M Qb) : (∃ (a0 : Int32) (M' : Mem), Fr (fun i k => 79 ≤ i) M M' ∧ Qa a0 M' ∧ Qb a0 M' ∧ ∀ (Q' : Int32 → Mem → Prop), Q' a0 M' → wX8_period M Q') := by
  have h1 : (wX8_layPower (1 : Int64) M (fun M1 => (∃ n2, wX8_period_7 Qa n2 (1 : Int32) M1))) := h1
  have h2 : (wX8_layPower (1 : Int64) M (fun M1 => (∃ n2, wX8_period_7 Qb n2 (1 : Int32) M1))) := h2
  obtain ⟨M1, f1, h1, h2, b2⟩ := u_wX8_layPower (1 : Int64) M h1 h2
  have g3 := Fr_tr (Fr_refl (fun i k => 79 ≤ i) M) f1 (fun i k (h : 79 ≤ i) => (show 79 ≤ i from by omega))
  obtain ⟨n2_a, h1⟩ := h1
  obtain ⟨n2_b, h2⟩ := h2
  obtain ⟨c8, N9, f6, h1, h2, b7⟩ := u_wX8_period_7 n2_a n2_b (1 : Int32) M1 h1 h2
  have hf := Fr_ts g3 f6
  exact ⟨c8, N9, hf, h1, h2, fun Q' hq => b2 _ ⟨n2_a, b7 _ hq⟩⟩
set_option maxHeartbeats 4000000 in
theorem u_wX8_ever_103 (x1 : Int32) {Qa Qb : Int64 → Mem → Prop} (s0 : Int64) (M : Mem) (h1 : wX8_ever_103 x1 Qa s0 M) (h2 : wX8_ever_103 x1 Qb s0 M) : (∃ (a0 : Int64) (M' : Mem), Fr (fun i k => 79 ≤ i) M M' ∧ Qa a0 M' ∧ Qb a0 M' ∧ ∀ (Q' : Int64 → Mem → Prop), Q' a0 M' → wX8_ever_103 x1 Q' s0 M) := by
  have h1 : Qa s0 M := h1
  have h2 : Qb s0 M := h2
  exact ⟨s0, M, (Fr_refl (fun i k => 79 ≤ i) M), h1, h2, fun Q' hq => hq⟩
set_option maxHeartbeats 4000000 in
theorem u_wX8_ever_44 (x1 : Int32) {Qa Qb : Int64 → Mem → Prop} : ∀ (n1 n2 : Nat) (v2 : Int32) (v3 : Int64) (v5 : Int64) (v7 : Int64) (v9 : Int32) (M : Mem), wX8_ever_44 x1 Qa n1 v2 v3 v5 v7 v9 M → wX8_ever_44 x1 Qb n2 v2 v3 v5 v7 v9 M → (∃ (a0 : Int64) (M' : Mem), Fr (fun i k => 79 ≤ i) M M' ∧ Qa a0 M' ∧ Qb a0 M' ∧ ∀ (Q' : Int64 → Mem → Prop), Q' a0 M' → wX8_ever_44 x1 Q' n1 v2 v3 v5 v7 v9 M) := by
  intro n1
  induction n1 with
  | zero => intro _ _ _ _ _ _ _ h1 _; exact h1.elim
  | succ n ih =>
    intro n2 v2 v3 v5 v7 v9 M h1 h2
    cases n2 with
    | zero => exact h2.elim
    | succ m =>
      have h1 : ((v2 ≤ v9 → ((¬ x1 = 0 → wX8_ever_103 x1 Qa v7 M) ∧ (x1 = 0 → wX8_ever_103 x1 Qa (v3 &&& (v5 ^^^ (-1 : Int64))) M))) ∧ (¬ v2 ≤ v9 → (wX8_leavesNow M (fun r8 M7 => (wX8_leavesNow M7 (fun r10 M9 => (wX8_put 100 99 M9 (fun M11 => wX8_ever_44 x1 Qa n v2 v3 (v5 ||| r8) (v7 &&& r10) (v9 + (1 : Int32)) M11)))))))) := h1
      have h2 : ((v2 ≤ v9 → ((¬ x1 = 0 → wX8_ever_103 x1 Qb v7 M) ∧ (x1 = 0 → wX8_ever_103 x1 Qb (v3 &&& (v5 ^^^ (-1 : Int64))) M))) ∧ (¬ v2 ≤ v9 → (wX8_leavesNow M (fun r8 M7 => (wX8_leavesNow M7 (fun r10 M9 => (wX8_put 100 99 M9 (fun M11 => wX8_ever_44 x1 Qb m v2 v3 (v5 ||| r8) (v7 &&& r10) (v9 + (1 : Int32)) M11)))))))) := h2
      by_cases hc1 : v2 ≤ v9
      · have h1 := h1.1 hc1
        have h2 := h2.1 hc1
        by_cases hc2 : x1 = 0
        · have h1 := h1.2 hc2
          have h2 := h2.2 hc2
          obtain ⟨c7, N8, f5, h1, h2, b6⟩ := u_wX8_ever_103 x1 (v3 &&& (v5 ^^^ (-1 : Int64))) M h1 h2
          have hf := Fr_ts (Fr_refl (fun i k => 79 ≤ i) M) f5
          exact ⟨c7, N8, hf, h1, h2, fun Q' hq => ⟨fun _ => ⟨fun z => absurd hc2 z, fun _ => b6 _ hq⟩, fun z => absurd hc1 z⟩⟩
        · have h1 := h1.1 hc2
          have h2 := h2.1 hc2
          obtain ⟨c13, N14, f11, h1, h2, b12⟩ := u_wX8_ever_103 x1 v7 M h1 h2
          have hf := Fr_ts (Fr_refl (fun i k => 79 ≤ i) M) f11
          exact ⟨c13, N14, hf, h1, h2, fun Q' hq => ⟨fun _ => ⟨fun _ => b12 _ hq, fun z => absurd z hc2⟩, fun z => absurd hc1 z⟩⟩
      · have h1 := h1.2 hc1
        have h2 := h2.2 hc1
        obtain ⟨r8, M7, f15, h1, h2, b16⟩ := u_wX8_leavesNow M h1 h2
        have g17 := Fr_tr (Fr_refl (fun i k => 79 ≤ i) M) f15 (fun i k (h : False) => h.elim)
        obtain ⟨r10, M9, f18, h1, h2, b19⟩ := u_wX8_leavesNow M7 h1 h2
        have g20 := Fr_tr g17 f18 (fun i k (h : False) => h.elim)
        obtain ⟨M11, f21, h1, h2, b22⟩ := u_wX8_put 100 99 M9 h1 h2
        have g23 := Fr_tr g20 f21 (fun i k (h : 79 ≤ i ∨ i = 100 ∨ i = 99) => (show 79 ≤ i from by omega))
        obtain ⟨c28, N29, f26, h1, h2, b27⟩ := ih m v2 v3 (v5 ||| r8) (v7 &&& r10) (v9 + (1 : Int32)) M11 h1 h2
        have hf := Fr_ts g23 f26
        exact ⟨c28, N29, hf, h1, h2, fun Q' hq => ⟨fun z => absurd z hc1, fun _ => b16 _ (b19 _ (b22 _ (b27 _ hq)))⟩⟩
set_option maxHeartbeats 4000000 in
theorem u_wX8_ever (x1 : Int32) {Qa Qb : Int64 → Mem → Prop} (M : Mem) (h1 : wX8_ever x1 M Qa) (h2 : wX8_ever x1 M Qb) : (∃ (a0 : Int64) (M' : Mem), Fr (fun i k => 79 ≤ i) M M' ∧ Qa a0 M' ∧ Qb a0 M' ∧ ∀ (Q' : Int64 → Mem → Prop), Q' a0 M' → wX8_ever x1 M Q') := by
  have h1 : (wX8_in x1.toInt64 (0 : Int64) (1 : Int64) M (fun r2 M1 => ((¬ r2 = 0 → (wX8_period M1 (fun r4 M3 => (vp_in (0 : Int32) (ln 81) ∧ (wX8_layPower (0 : Int64) M3 (fun M5 => (∃ n6, wX8_ever_44 x1 Qa n6 r4 (((1 : Int64) <<< ((M3 81 (0 : Int32).toNatClampNeg).toInt64 &&& 63)) - (1 : Int64)) (0 : Int64) (((1 : Int64) <<< ((M3 81 (0 : Int32).toNatClampNeg).toInt64 &&& 63)) - (1 : Int64)) (0 : Int32) M5))))))) ∧ (r2 = 0 → Qa (-1 : Int64) M1)))) := h1
  have h2 : (wX8_in x1.toInt64 (0 : Int64) (1 : Int64) M (fun r2 M1 => ((¬ r2 = 0 → (wX8_period M1 (fun r4 M3 => (vp_in (0 : Int32) (ln 81) ∧ (wX8_layPower (0 : Int64) M3 (fun M5 => (∃ n6, wX8_ever_44 x1 Qb n6 r4 (((1 : Int64) <<< ((M3 81 (0 : Int32).toNatClampNeg).toInt64 &&& 63)) - (1 : Int64)) (0 : Int64) (((1 : Int64) <<< ((M3 81 (0 : Int32).toNatClampNeg).toInt64 &&& 63)) - (1 : Int64)) (0 : Int32) M5))))))) ∧ (r2 = 0 → Qb (-1 : Int64) M1)))) := h2
  obtain ⟨r2, M1, f1, h1, h2, b2⟩ := u_wX8_in x1.toInt64 (0 : Int64) (1 : Int64) M h1 h2
  have g3 := Fr_tr (Fr_refl (fun i k => 79 ≤ i) M) f1 (fun i k (h : False) => h.elim)
  by_cases hc4 : r2 = 0
  · have h1 := h1.2 hc4
    have h2 := h2.2 hc4
    exact ⟨(-1 : Int64), M1, g3, h1, h2, fun Q' hq => b2 _ ⟨fun z => absurd hc4 z, fun _ => hq⟩⟩
  · have h1 := h1.1 hc4
    have h2 := h2.1 hc4
    obtain ⟨r4, M3, f5, h1, h2, b6⟩ := u_wX8_period M1 h1 h2
    have g7 := Fr_tr g3 f5 (fun i k (h : 79 ≤ i) => (show 79 ≤ i from by omega))
    have s8 := h1.1
    have h1 := h1.2
    have h2 := h2.2
    obtain ⟨M5, f9, h1, h2, b10⟩ := u_wX8_layPower (0 : Int64) M3 h1 h2
    have g11 := Fr_tr g7 f9 (fun i k (h : 79 ≤ i) => (show 79 ≤ i from by omega))
    obtain ⟨n6_a, h1⟩ := h1
    obtain ⟨n6_b, h2⟩ := h2
    obtain ⟨c16, N17, f14, h1, h2, b15⟩ := u_wX8_ever_44 x1 n6_a n6_b r4 (((1 : Int64) <<< ((M3 81 (0 : Int32).toNatClampNeg).toInt64 &&& 63)) - (1 : Int64)) (0 : Int64) (((1 : Int64) <<< ((M3 81 (0 : Int32).toNatClampNeg).toInt64 &&& 63)) - (1 : Int64)) (0 : Int32) M5 h1 h2
    have hf := Fr_ts g11 f14
    exact ⟨c16, N17, hf, h1, h2, fun Q' hq => b2 _ ⟨fun _ => b6 _ ⟨s8, b10 _ ⟨n6_a, b15 _ hq⟩⟩, fun z => absurd z hc4⟩⟩
set_option maxHeartbeats 4000000 in
theorem u_wX8_lesser_30 {Qa Qb : Int32 → Mem → Prop} (s0 : Int32) (M : Mem) (h1 : wX8_lesser_30 Qa s0 M) (h2 : wX8_lesser_30 Qb s0 M) : (∃ (a0 : Int32) (M' : Mem), Fr (fun i k => False) M M' ∧ Qa a0 M' ∧ Qb a0 M' ∧ ∀ (Q' : Int32 → Mem → Prop), Q' a0 M' → wX8_lesser_30 Q' s0 M) := by
  have h1 : Qa s0 M := h1
  have h2 : Qb s0 M := h2
  exact ⟨s0, M, (Fr_refl (fun i k => False) M), h1, h2, fun Q' hq => hq⟩
set_option maxHeartbeats 4000000 in
theorem u_wX8_lesser {Qa Qb : Int32 → Mem → Prop} (M : Mem) (h1 : wX8_lesser M Qa) (h2 : wX8_lesser M Qb) : (∃ (a0 : Int32) (M' : Mem), Fr (fun i k => False) M M' ∧ Qa a0 M' ∧ Qb a0 M' ∧ ∀ (Q' : Int32 → Mem → Prop), Q' a0 M' → wX8_lesser M Q') := by
  have h1 : (vp_in (0 : Int32) (ln 82) ∧ (vp_in (0 : Int32) (ln 87) ∧ (((M 87 (0 : Int32).toNatClampNeg) ≤ (M 82 (0 : Int32).toNatClampNeg) → (vp_in (0 : Int32) (ln 87) ∧ wX8_lesser_30 Qa (M 87 (0 : Int32).toNatClampNeg) M)) ∧ (¬ (M 87 (0 : Int32).toNatClampNeg) ≤ (M 82 (0 : Int32).toNatClampNeg) → (vp_in (0 : Int32) (ln 82) ∧ wX8_lesser_30 Qa (M 82 (0 : Int32).toNatClampNeg) M))))) := h1
  have h2 : (vp_in (0 : Int32) (ln 82) ∧ (vp_in (0 : Int32) (ln 87) ∧ (((M 87 (0 : Int32).toNatClampNeg) ≤ (M 82 (0 : Int32).toNatClampNeg) → (vp_in (0 : Int32) (ln 87) ∧ wX8_lesser_30 Qb (M 87 (0 : Int32).toNatClampNeg) M)) ∧ (¬ (M 87 (0 : Int32).toNatClampNeg) ≤ (M 82 (0 : Int32).toNatClampNeg) → (vp_in (0 : Int32) (ln 82) ∧ wX8_lesser_30 Qb (M 82 (0 : Int32).toNatClampNeg) M))))) := h2
  have s1 := h1.1
  have h1 := h1.2
  have h2 := h2.2
  have s2 := h1.1
  have h1 := h1.2
  have h2 := h2.2
  by_cases hc3 : (M 87 (0 : Int32).toNatClampNeg) ≤ (M 82 (0 : Int32).toNatClampNeg)
  · have h1 := h1.1 hc3
    have h2 := h2.1 hc3
    have s4 := h1.1
    have h1 := h1.2
    have h2 := h2.2
    obtain ⟨c9, N10, f7, h1, h2, b8⟩ := u_wX8_lesser_30 (M 87 (0 : Int32).toNatClampNeg) M h1 h2
    have hf := Fr_ts (Fr_refl (fun i k => False) M) f7
    exact ⟨c9, N10, hf, h1, h2, fun Q' hq => ⟨s1, ⟨s2, ⟨fun _ => ⟨s4, b8 _ hq⟩, fun z => absurd hc3 z⟩⟩⟩⟩
  · have h1 := h1.2 hc3
    have h2 := h2.2 hc3
    have s11 := h1.1
    have h1 := h1.2
    have h2 := h2.2
    obtain ⟨c16, N17, f14, h1, h2, b15⟩ := u_wX8_lesser_30 (M 82 (0 : Int32).toNatClampNeg) M h1 h2
    have hf := Fr_ts (Fr_refl (fun i k => False) M) f14
    exact ⟨c16, N17, hf, h1, h2, fun Q' hq => ⟨s1, ⟨s2, ⟨fun z => absurd z hc3, fun _ => ⟨s11, b15 _ hq⟩⟩⟩⟩⟩
set_option maxHeartbeats 4000000 in
theorem u_wX8_right_55 (x1 : Int64) {k_19a k_19b : Int32 → Int32 → Mem → Prop} {Qa Qb : Int32 → Mem → Prop} (v4 : Int32) (s0 : Int32) (s1 : Int32) (M : Mem) (h1 : wX8_right_55 x1 k_19a Qa v4 s0 s1 M) (h2 : wX8_right_55 x1 k_19b Qb v4 s0 s1 M) : (∃ (a0 : Int32) (M' : Mem), Fr (fun i k => 79 ≤ i) M M' ∧ Qa a0 M' ∧ Qb a0 M' ∧ ∀ (k'0 : Int32 → Int32 → Mem → Prop) (Q' : Int32 → Mem → Prop), Q' a0 M' → wX8_right_55 x1 k'0 Q' v4 s0 s1 M) ∨ (∃ (a0 : Int32) (a1 : Int32) (M' : Mem), Fr (fun i k => 79 ≤ i) M M' ∧ k_19a a0 a1 M' ∧ k_19b a0 a1 M' ∧ ∀ (k'0 : Int32 → Int32 → Mem → Prop) (Q' : Int32 → Mem → Prop), k'0 a0 a1 M' → wX8_right_55 x1 k'0 Q' v4 s0 s1 M) := by
  have h1 : k_19a (s1 + s0) (v4 + (1 : Int32)) M := h1
  have h2 : k_19b (s1 + s0) (v4 + (1 : Int32)) M := h2
  exact Or.inr ⟨(s1 + s0), (v4 + (1 : Int32)), M, (Fr_refl (fun i k => 79 ≤ i) M), h1, h2, fun k'0 Q' hq => hq⟩
set_option maxHeartbeats 4000000 in
theorem u_wX8_right_19 (x1 : Int64) {Qa Qb : Int32 → Mem → Prop} : ∀ (n1 n2 : Nat) (v3 : Int32) (v4 : Int32) (M : Mem), wX8_right_19 x1 Qa n1 v3 v4 M → wX8_right_19 x1 Qb n2 v3 v4 M → (∃ (a0 : Int32) (M' : Mem), Fr (fun i k => 79 ≤ i) M M' ∧ Qa a0 M' ∧ Qb a0 M' ∧ ∀ (Q' : Int32 → Mem → Prop), Q' a0 M' → wX8_right_19 x1 Q' n1 v3 v4 M) := by
  intro n1
  induction n1 with
  | zero => intro _ _ _ _ h1 _; exact h1.elim
  | succ n ih =>
    intro n2 v3 v4 M h1 h2
    cases n2 with
    | zero => exact h2.elim
    | succ m =>
      have h1 : (wX8_lesser M (fun r6 M5 => ((r6 ≤ v4 → Qa v3 M5) ∧ (¬ r6 ≤ v4 → (wX8_placeOf v4 M5 (fun r8 M7 => (vp_in r8 (ln 89) ∧ (vp_in v4 (ln 88) ∧ ((¬ (M7 89 r8.toNatClampNeg) = (M7 88 v4.toNatClampNeg) → wX8_right_55 x1 (wX8_right_19 x1 Qa n) Qa v4 (0 : Int32) v3 M7) ∧ ((M7 89 r8.toNatClampNeg) = (M7 88 v4.toNatClampNeg) → wX8_right_55 x1 (wX8_right_19 x1 Qa n) Qa v4 (1 : Int32) v3 M7)))))))))) := h1
      have h2 : (wX8_lesser M (fun r6 M5 => ((r6 ≤ v4 → Qb v3 M5) ∧ (¬ r6 ≤ v4 → (wX8_placeOf v4 M5 (fun r8 M7 => (vp_in r8 (ln 89) ∧ (vp_in v4 (ln 88) ∧ ((¬ (M7 89 r8.toNatClampNeg) = (M7 88 v4.toNatClampNeg) → wX8_right_55 x1 (wX8_right_19 x1 Qb m) Qb v4 (0 : Int32) v3 M7) ∧ ((M7 89 r8.toNatClampNeg) = (M7 88 v4.toNatClampNeg) → wX8_right_55 x1 (wX8_right_19 x1 Qb m) Qb v4 (1 : Int32) v3 M7)))))))))) := h2
      obtain ⟨r6, M5, f1, h1, h2, b2⟩ := u_wX8_lesser M h1 h2
      have g3 := Fr_tr (Fr_refl (fun i k => 79 ≤ i) M) f1 (fun i k (h : False) => h.elim)
      by_cases hc4 : r6 ≤ v4
      · have h1 := h1.1 hc4
        have h2 := h2.1 hc4
        exact ⟨v3, M5, g3, h1, h2, fun Q' hq => b2 _ ⟨fun _ => hq, fun z => absurd hc4 z⟩⟩
      · have h1 := h1.2 hc4
        have h2 := h2.2 hc4
        obtain ⟨r8, M7, f5, h1, h2, b6⟩ := u_wX8_placeOf v4 M5 h1 h2
        have g7 := Fr_tr g3 f5 (fun i k (h : False) => h.elim)
        have s8 := h1.1
        have h1 := h1.2
        have h2 := h2.2
        have s9 := h1.1
        have h1 := h1.2
        have h2 := h2.2
        by_cases hc10 : (M7 89 r8.toNatClampNeg) = (M7 88 v4.toNatClampNeg)
        · have h1 := h1.2 hc10
          have h2 := h2.2 hc10
          rcases u_wX8_right_55 x1 v4 (1 : Int32) v3 M7 h1 h2 with ⟨c15, N16, f13, h1, h2, b14⟩ | ⟨c17, c18, N19, f13, h1, h2, b14⟩
          · have hf := Fr_ts g7 f13
            exact ⟨c15, N16, hf, h1, h2, fun Q' hq => b2 _ ⟨fun z => absurd z hc4, fun _ => b6 _ ⟨s8, ⟨s9, ⟨fun z => absurd hc10 z, fun _ => b14 _ _ hq⟩⟩⟩⟩⟩
          · have hf := Fr_ts g7 f13
            obtain ⟨c22, N23, f20, h1, h2, b21⟩ := ih m c17 c18 N19 h1 h2
            have hf := Fr_ts hf f20
            exact ⟨c22, N23, hf, h1, h2, fun Q' hq => b2 _ ⟨fun z => absurd z hc4, fun _ => b6 _ ⟨s8, ⟨s9, ⟨fun z => absurd hc10 z, fun _ => b14 _ _ (b21 _ hq)⟩⟩⟩⟩⟩
        · have h1 := h1.1 hc10
          have h2 := h2.1 hc10
          rcases u_wX8_right_55 x1 v4 (0 : Int32) v3 M7 h1 h2 with ⟨c28, N29, f26, h1, h2, b27⟩ | ⟨c30, c31, N32, f26, h1, h2, b27⟩
          · have hf := Fr_ts g7 f26
            exact ⟨c28, N29, hf, h1, h2, fun Q' hq => b2 _ ⟨fun z => absurd z hc4, fun _ => b6 _ ⟨s8, ⟨s9, ⟨fun _ => b27 _ _ hq, fun z => absurd z hc10⟩⟩⟩⟩⟩
          · have hf := Fr_ts g7 f26
            obtain ⟨c35, N36, f33, h1, h2, b34⟩ := ih m c30 c31 N32 h1 h2
            have hf := Fr_ts hf f33
            exact ⟨c35, N36, hf, h1, h2, fun Q' hq => b2 _ ⟨fun z => absurd z hc4, fun _ => b6 _ ⟨s8, ⟨s9, ⟨fun _ => b27 _ _ (b34 _ hq), fun z => absurd z hc10⟩⟩⟩⟩⟩
set_option maxHeartbeats 4000000 in
theorem u_wX8_right (x1 : Int64) {Qa Qb : Int32 → Mem → Prop} (M : Mem) (h1 : wX8_right x1 M Qa) (h2 : wX8_right x1 M Qb) : (∃ (a0 : Int32) (M' : Mem), Fr (fun i k => 79 ≤ i) M M' ∧ Qa a0 M' ∧ Qb a0 M' ∧ ∀ (Q' : Int32 → Mem → Prop), Q' a0 M' → wX8_right x1 M Q') := by
  have h1 : (wX8_isReader x1 M (fun r2 M1 => ((¬ r2 = 0 → (wX8_layPower x1 M1 (fun M3 => (∃ n4, wX8_right_19 x1 Qa n4 (0 : Int32) (0 : Int32) M3)))) ∧ (r2 = 0 → Qa (-1 : Int32) M1)))) := h1
  have h2 : (wX8_isReader x1 M (fun r2 M1 => ((¬ r2 = 0 → (wX8_layPower x1 M1 (fun M3 => (∃ n4, wX8_right_19 x1 Qb n4 (0 : Int32) (0 : Int32) M3)))) ∧ (r2 = 0 → Qb (-1 : Int32) M1)))) := h2
  obtain ⟨r2, M1, f1, h1, h2, b2⟩ := u_wX8_isReader x1 M h1 h2
  have g3 := Fr_tr (Fr_refl (fun i k => 79 ≤ i) M) f1 (fun i k (h : False) => h.elim)
  by_cases hc4 : r2 = 0
  · have h1 := h1.2 hc4
    have h2 := h2.2 hc4
    exact ⟨(-1 : Int32), M1, g3, h1, h2, fun Q' hq => b2 _ ⟨fun z => absurd hc4 z, fun _ => hq⟩⟩
  · have h1 := h1.1 hc4
    have h2 := h2.1 hc4
    obtain ⟨M3, f5, h1, h2, b6⟩ := u_wX8_layPower x1 M1 h1 h2
    have g7 := Fr_tr g3 f5 (fun i k (h : 79 ≤ i) => (show 79 ≤ i from by omega))
    obtain ⟨n4_a, h1⟩ := h1
    obtain ⟨n4_b, h2⟩ := h2
    obtain ⟨c12, N13, f10, h1, h2, b11⟩ := u_wX8_right_19 x1 n4_a n4_b (0 : Int32) (0 : Int32) M3 h1 h2
    have hf := Fr_ts g7 f10
    exact ⟨c12, N13, hf, h1, h2, fun Q' hq => b2 _ ⟨fun _ => b6 _ ⟨n4_a, b11 _ hq⟩, fun z => absurd z hc4⟩⟩
set_option maxHeartbeats 4000000 in
theorem u_wX8_noOrder_7 {Qa Qb : Mem → Prop} : ∀ (n1 n2 : Nat) (v1 : Int32) (M : Mem), wX8_noOrder_7 Qa n1 v1 M → wX8_noOrder_7 Qb n2 v1 M → (∃ (M' : Mem), Fr (fun i k => 79 ≤ i) M M' ∧ Qa M' ∧ Qb M' ∧ ∀ (Q' : Mem → Prop), Q' M' → wX8_noOrder_7 Q' n1 v1 M) := by
  intro n1
  induction n1 with
  | zero => intro _ _ _ h1 _; exact h1.elim
  | succ n ih =>
    intro n2 v1 M h1 h2
    cases n2 with
    | zero => exact h2.elim
    | succ m =>
      have h1 : (((40 : Int32) ≤ v1 → Qa M) ∧ (¬ (40 : Int32) ≤ v1 → (vp_in v1 (ln 103) ∧ (vp_in v1 (ln 104) ∧ wX8_noOrder_7 Qa n (v1 + (1 : Int32)) (mu (mu M 103 v1.toNatClampNeg (-4 : Int32)) 104 v1.toNatClampNeg (-4 : Int32)))))) := h1
      have h2 : (((40 : Int32) ≤ v1 → Qb M) ∧ (¬ (40 : Int32) ≤ v1 → (vp_in v1 (ln 103) ∧ (vp_in v1 (ln 104) ∧ wX8_noOrder_7 Qb m (v1 + (1 : Int32)) (mu (mu M 103 v1.toNatClampNeg (-4 : Int32)) 104 v1.toNatClampNeg (-4 : Int32)))))) := h2
      by_cases hc1 : (40 : Int32) ≤ v1
      · have h1 := h1.1 hc1
        have h2 := h2.1 hc1
        exact ⟨M, (Fr_refl (fun i k => 79 ≤ i) M), h1, h2, fun Q' hq => ⟨fun _ => hq, fun z => absurd hc1 z⟩⟩
      · have h1 := h1.2 hc1
        have h2 := h2.2 hc1
        have s2 := h1.1
        have h1 := h1.2
        have h2 := h2.2
        have s3 := h1.1
        have h1 := h1.2
        have h2 := h2.2
        obtain ⟨N8, f6, h1, h2, b7⟩ := ih m (v1 + (1 : Int32)) (mu (mu M 103 v1.toNatClampNeg (-4 : Int32)) 104 v1.toNatClampNeg (-4 : Int32)) h1 h2
        have hf := Fr_ts (Fr_mu (Fr_mu (Fr_refl (fun i k => 79 ≤ i) M) (show 79 ≤ 103 from by omega)) (show 79 ≤ 104 from by omega)) f6
        exact ⟨N8, hf, h1, h2, fun Q' hq => ⟨fun z => absurd z hc1, fun _ => ⟨s2, ⟨s3, b7 _ hq⟩⟩⟩⟩
set_option maxHeartbeats 4000000 in
theorem u_wX8_noOrder {Qa Qb : Mem → Prop} (M : Mem) (h1 : wX8_noOrder M Qa) (h2 : wX8_noOrder M Qb) : (∃ (M' : Mem), Fr (fun i k => 79 ≤ i) M M' ∧ Qa M' ∧ Qb M' ∧ ∀ (Q' : Mem → Prop), Q' M' → wX8_noOrder M Q') := by
  have h1 : (∃ n1, wX8_noOrder_7 Qa n1 (0 : Int32) (mu M 79 29 (0 : Int32))) := h1
  have h2 : (∃ n1, wX8_noOrder_7 Qb n1 (0 : Int32) (mu M 79 29 (0 : Int32))) := h2
  obtain ⟨n1_a, h1⟩ := h1
  obtain ⟨n1_b, h2⟩ := h2
  obtain ⟨N5, f3, h1, h2, b4⟩ := u_wX8_noOrder_7 n1_a n1_b (0 : Int32) (mu M 79 29 (0 : Int32)) h1 h2
  have hf := Fr_ts (Fr_mu (Fr_refl (fun i k => 79 ≤ i) M) (show 79 ≤ 79 from by omega)) f3
  exact ⟨N5, hf, h1, h2, fun Q' hq => ⟨n1_a, b4 _ hq⟩⟩
set_option maxHeartbeats 4000000 in
theorem u_wX8_know_30 (x1 : Int32) (x2 : Int32) {Qa Qb : Int32 → Mem → Prop} (M : Mem) (h1 : wX8_know_30 x1 x2 Qa M) (h2 : wX8_know_30 x1 x2 Qb M) : (∃ (a0 : Int32) (M' : Mem), Fr (fun i k => 79 ≤ i) M M' ∧ Qa a0 M' ∧ Qb a0 M' ∧ ∀ (Q' : Int32 → Mem → Prop), Q' a0 M' → wX8_know_30 x1 x2 Q' M) := by
  have h1 : (((0 : Int32) = 0 ∨ (0 : Int32) = 1) ∧ Qa (0 : Int32) M) := h1
  have h2 : (((0 : Int32) = 0 ∨ (0 : Int32) = 1) ∧ Qb (0 : Int32) M) := h2
  have s1 := h1.1
  have h1 := h1.2
  have h2 := h2.2
  exact ⟨(0 : Int32), M, (Fr_refl (fun i k => 79 ≤ i) M), h1, h2, fun Q' hq => ⟨s1, hq⟩⟩
set_option maxHeartbeats 4000000 in
theorem u_wX8_know (x1 : Int32) (x2 : Int32) {Qa Qb : Int32 → Mem → Prop} (M : Mem) (h1 : wX8_know x1 x2 M Qa) (h2 : wX8_know x1 x2 M Qb) : (∃ (a0 : Int32) (M' : Mem), Fr (fun i k => 79 ≤ i) M M' ∧ Qa a0 M' ∧ Qb a0 M' ∧ ∀ (Q' : Int32 → Mem → Prop), Q' a0 M' → wX8_know x1 x2 M Q') := by
  have h1 : (vp_in x1 (ln 103) ∧ ((¬ (M 103 x1.toNatClampNeg) = x2 → (vp_in x1 (ln 103) ∧ ((0 ≤ (M 103 x1.toNatClampNeg) → wX8_know_30 x1 x2 Qa M) ∧ (¬ 0 ≤ (M 103 x1.toNatClampNeg) → (vp_in x2 (ln 104) ∧ (((M 104 x2.toNatClampNeg) < 0 → (vp_in x1 (ln 103) ∧ (vp_in x2 (ln 104) ∧ (((1 : Int32) = 0 ∨ (1 : Int32) = 1) ∧ Qa (1 : Int32) (mu (mu (mu M 103 x1.toNatClampNeg x2) 104 x2.toNatClampNeg x1) 79 29 (((mu (mu M 103 x1.toNatClampNeg x2) 104 x2.toNatClampNeg x1) 79 29) + (1 : Int32))))))) ∧ (¬ (M 104 x2.toNatClampNeg) < 0 → wX8_know_30 x1 x2 Qa M))))))) ∧ ((M 103 x1.toNatClampNeg) = x2 → (((1 : Int32) = 0 ∨ (1 : Int32) = 1) ∧ Qa (1 : Int32) M)))) := h1
  have h2 : (vp_in x1 (ln 103) ∧ ((¬ (M 103 x1.toNatClampNeg) = x2 → (vp_in x1 (ln 103) ∧ ((0 ≤ (M 103 x1.toNatClampNeg) → wX8_know_30 x1 x2 Qb M) ∧ (¬ 0 ≤ (M 103 x1.toNatClampNeg) → (vp_in x2 (ln 104) ∧ (((M 104 x2.toNatClampNeg) < 0 → (vp_in x1 (ln 103) ∧ (vp_in x2 (ln 104) ∧ (((1 : Int32) = 0 ∨ (1 : Int32) = 1) ∧ Qb (1 : Int32) (mu (mu (mu M 103 x1.toNatClampNeg x2) 104 x2.toNatClampNeg x1) 79 29 (((mu (mu M 103 x1.toNatClampNeg x2) 104 x2.toNatClampNeg x1) 79 29) + (1 : Int32))))))) ∧ (¬ (M 104 x2.toNatClampNeg) < 0 → wX8_know_30 x1 x2 Qb M))))))) ∧ ((M 103 x1.toNatClampNeg) = x2 → (((1 : Int32) = 0 ∨ (1 : Int32) = 1) ∧ Qb (1 : Int32) M)))) := h2
  have s1 := h1.1
  have h1 := h1.2
  have h2 := h2.2
  by_cases hc2 : (M 103 x1.toNatClampNeg) = x2
  · have h1 := h1.2 hc2
    have h2 := h2.2 hc2
    have s3 := h1.1
    have h1 := h1.2
    have h2 := h2.2
    exact ⟨(1 : Int32), M, (Fr_refl (fun i k => 79 ≤ i) M), h1, h2, fun Q' hq => ⟨s1, ⟨fun z => absurd hc2 z, fun _ => ⟨s3, hq⟩⟩⟩⟩
  · have h1 := h1.1 hc2
    have h2 := h2.1 hc2
    have s4 := h1.1
    have h1 := h1.2
    have h2 := h2.2
    by_cases hc5 : 0 ≤ (M 103 x1.toNatClampNeg)
    · have h1 := h1.1 hc5
      have h2 := h2.1 hc5
      obtain ⟨c10, N11, f8, h1, h2, b9⟩ := u_wX8_know_30 x1 x2 M h1 h2
      have hf := Fr_ts (Fr_refl (fun i k => 79 ≤ i) M) f8
      exact ⟨c10, N11, hf, h1, h2, fun Q' hq => ⟨s1, ⟨fun _ => ⟨s4, ⟨fun _ => b9 _ hq, fun z => absurd hc5 z⟩⟩, fun z => absurd z hc2⟩⟩⟩
    · have h1 := h1.2 hc5
      have h2 := h2.2 hc5
      have s12 := h1.1
      have h1 := h1.2
      have h2 := h2.2
      by_cases hc13 : (M 104 x2.toNatClampNeg) < 0
      · have h1 := h1.1 hc13
        have h2 := h2.1 hc13
        have s14 := h1.1
        have h1 := h1.2
        have h2 := h2.2
        have s15 := h1.1
        have h1 := h1.2
        have h2 := h2.2
        have s16 := h1.1
        have h1 := h1.2
        have h2 := h2.2
        exact ⟨(1 : Int32), (mu (mu (mu M 103 x1.toNatClampNeg x2) 104 x2.toNatClampNeg x1) 79 29 (((mu (mu M 103 x1.toNatClampNeg x2) 104 x2.toNatClampNeg x1) 79 29) + (1 : Int32))), (Fr_mu (Fr_mu (Fr_mu (Fr_refl (fun i k => 79 ≤ i) M) (show 79 ≤ 103 from by omega)) (show 79 ≤ 104 from by omega)) (show 79 ≤ 79 from by omega)), h1, h2, fun Q' hq => ⟨s1, ⟨fun _ => ⟨s4, ⟨fun z => absurd z hc5, fun _ => ⟨s12, ⟨fun _ => ⟨s14, ⟨s15, ⟨s16, hq⟩⟩⟩, fun z => absurd hc13 z⟩⟩⟩⟩, fun z => absurd z hc2⟩⟩⟩
      · have h1 := h1.2 hc13
        have h2 := h2.2 hc13
        obtain ⟨c21, N22, f19, h1, h2, b20⟩ := u_wX8_know_30 x1 x2 M h1 h2
        have hf := Fr_ts (Fr_refl (fun i k => 79 ≤ i) M) f19
        exact ⟨c21, N22, hf, h1, h2, fun Q' hq => ⟨s1, ⟨fun _ => ⟨s4, ⟨fun z => absurd z hc5, fun _ => ⟨s12, ⟨fun z => absurd z hc13, fun _ => b20 _ hq⟩⟩⟩⟩, fun z => absurd z hc2⟩⟩⟩
set_option maxHeartbeats 4000000 in
theorem u_wX8_order_15 (x1 : Int64) (x3 : Int32) {Qa Qb : Int32 → Mem → Prop} (M : Mem) (h1 : wX8_order_15 x1 x3 Qa M) (h2 : wX8_order_15 x1 x3 Qb M) : (∃ (a0 : Int32) (M' : Mem), Fr (fun i k => 79 ≤ i) M M' ∧ Qa a0 M' ∧ Qb a0 M' ∧ ∀ (Q' : Int32 → Mem → Prop), Q' a0 M' → wX8_order_15 x1 x3 Q' M) := by
  have h1 : Qa (-1 : Int32) M := h1
  have h2 : Qb (-1 : Int32) M := h2
  exact ⟨(-1 : Int32), M, (Fr_refl (fun i k => 79 ≤ i) M), h1, h2, fun Q' hq => hq⟩
set_option maxHeartbeats 4000000 in
theorem u_wX8_order_71 (x1 : Int64) (x3 : Int32) {k_32a k_32b : Int32 → Int32 → Mem → Prop} {Qa Qb : Int32 → Mem → Prop} (v5 : Int32) (s0 : Int32) (M : Mem) (h1 : wX8_order_71 x1 x3 k_32a Qa v5 s0 M) (h2 : wX8_order_71 x1 x3 k_32b Qb v5 s0 M) : (∃ (a0 : Int32) (M' : Mem), Fr (fun i k => 79 ≤ i) M M' ∧ Qa a0 M' ∧ Qb a0 M' ∧ ∀ (k'0 : Int32 → Int32 → Mem → Prop) (Q' : Int32 → Mem → Prop), Q' a0 M' → wX8_order_71 x1 x3 k'0 Q' v5 s0 M) ∨ (∃ (a0 : Int32) (a1 : Int32) (M' : Mem), Fr (fun i k => 79 ≤ i) M M' ∧ k_32a a0 a1 M' ∧ k_32b a0 a1 M' ∧ ∀ (k'0 : Int32 → Int32 → Mem → Prop) (Q' : Int32 → Mem → Prop), k'0 a0 a1 M' → wX8_order_71 x1 x3 k'0 Q' v5 s0 M) := by
  have h1 : k_32a s0 (v5 + (1 : Int32)) M := h1
  have h2 : k_32b s0 (v5 + (1 : Int32)) M := h2
  exact Or.inr ⟨s0, (v5 + (1 : Int32)), M, (Fr_refl (fun i k => 79 ≤ i) M), h1, h2, fun k'0 Q' hq => hq⟩
set_option maxHeartbeats 4000000 in
theorem u_wX8_order_70 (x1 : Int64) (x3 : Int32) {k_32a k_32b : Int32 → Int32 → Mem → Prop} {Qa Qb : Int32 → Mem → Prop} (v5 : Int32) (M : Mem) (h1 : wX8_order_70 x1 x3 k_32a Qa v5 M) (h2 : wX8_order_70 x1 x3 k_32b Qb v5 M) : (∃ (a0 : Int32) (M' : Mem), Fr (fun i k => 79 ≤ i) M M' ∧ Qa a0 M' ∧ Qb a0 M' ∧ ∀ (k'0 : Int32 → Int32 → Mem → Prop) (Q' : Int32 → Mem → Prop), Q' a0 M' → wX8_order_70 x1 x3 k'0 Q' v5 M) ∨ (∃ (a0 : Int32) (a1 : Int32) (M' : Mem), Fr (fun i k => 79 ≤ i) M M' ∧ k_32a a0 a1 M' ∧ k_32b a0 a1 M' ∧ ∀ (k'0 : Int32 → Int32 → Mem → Prop) (Q' : Int32 → Mem → Prop), k'0 a0 a1 M' → wX8_order_70 x1 x3 k'0 Q' v5 M) := by
  have h1 : wX8_order_71 x1 x3 (k_32a) Qa v5 (0 : Int32) M := h1
  have h2 : wX8_order_71 x1 x3 (k_32b) Qb v5 (0 : Int32) M := h2
  rcases u_wX8_order_71 x1 x3 v5 (0 : Int32) M h1 h2 with ⟨c5, N6, f3, h1, h2, b4⟩ | ⟨c7, c8, N9, f3, h1, h2, b4⟩
  · have hf := Fr_ts (Fr_refl (fun i k => 79 ≤ i) M) f3
    exact Or.inl ⟨c5, N6, hf, h1, h2, fun k'0 Q' hq => b4 _ _ hq⟩
  · have hf := Fr_ts (Fr_refl (fun i k => 79 ≤ i) M) f3
    exact Or.inr ⟨c7, c8, N9, hf, h1, h2, fun k'0 Q' hq => b4 _ _ hq⟩
set_option maxHeartbeats 4000000 in
theorem u_wX8_order_139 (x1 : Int64) (x3 : Int32) {k_93a k_93b : Int32 → Int32 → Mem → Prop} {Qa Qb : Int32 → Mem → Prop} (v5 : Int32) (v6 : Int32) (M : Mem) (h1 : wX8_order_139 x1 x3 k_93a Qa v5 v6 M) (h2 : wX8_order_139 x1 x3 k_93b Qb v5 v6 M) : (∃ (a0 : Int32) (M' : Mem), Fr (fun i k => 79 ≤ i) M M' ∧ Qa a0 M' ∧ Qb a0 M' ∧ ∀ (k'0 : Int32 → Int32 → Mem → Prop) (Q' : Int32 → Mem → Prop), Q' a0 M' → wX8_order_139 x1 x3 k'0 Q' v5 v6 M) ∨ (∃ (a0 : Int32) (a1 : Int32) (M' : Mem), Fr (fun i k => 79 ≤ i) M M' ∧ k_93a a0 a1 M' ∧ k_93b a0 a1 M' ∧ ∀ (k'0 : Int32 → Int32 → Mem → Prop) (Q' : Int32 → Mem → Prop), k'0 a0 a1 M' → wX8_order_139 x1 x3 k'0 Q' v5 v6 M) := by
  have h1 : k_93a v5 (v6 + (1 : Int32)) M := h1
  have h2 : k_93b v5 (v6 + (1 : Int32)) M := h2
  exact Or.inr ⟨v5, (v6 + (1 : Int32)), M, (Fr_refl (fun i k => 79 ≤ i) M), h1, h2, fun k'0 Q' hq => hq⟩
set_option maxHeartbeats 4000000 in
theorem u_wX8_order_114 (x1 : Int64) (x3 : Int32) {k_93a k_93b : Int32 → Int32 → Mem → Prop} {Qa Qb : Int32 → Mem → Prop} : ∀ (n1 n2 : Nat) (v5 : Int32) (v6 : Int32) (M : Mem), wX8_order_114 x1 x3 k_93a Qa n1 v5 v6 M → wX8_order_114 x1 x3 k_93b Qb n2 v5 v6 M → (∃ (a0 : Int32) (M' : Mem), Fr (fun i k => 79 ≤ i) M M' ∧ Qa a0 M' ∧ Qb a0 M' ∧ ∀ (k'0 : Int32 → Int32 → Mem → Prop) (Q' : Int32 → Mem → Prop), Q' a0 M' → wX8_order_114 x1 x3 k'0 Q' n1 v5 v6 M) ∨ (∃ (a0 : Int32) (a1 : Int32) (M' : Mem), Fr (fun i k => 79 ≤ i) M M' ∧ k_93a a0 a1 M' ∧ k_93b a0 a1 M' ∧ ∀ (k'0 : Int32 → Int32 → Mem → Prop) (Q' : Int32 → Mem → Prop), k'0 a0 a1 M' → wX8_order_114 x1 x3 k'0 Q' n1 v5 v6 M) := by
  intro n1
  induction n1 with
  | zero => intro _ _ _ _ h1 _; exact h1.elim
  | succ n ih =>
    intro n2 v5 v6 M h1 h2
    cases n2 with
    | zero => exact h2.elim
    | succ m =>
      have h1 : (vp_in v5 (ln 104) ∧ (((M 104 v5.toNatClampNeg) < 0 → (wX8_know v6 v5 M (fun r17 M16 => wX8_order_139 x1 x3 (k_93a) Qa v5 v6 M16))) ∧ (¬ (M 104 v5.toNatClampNeg) < 0 → wX8_order_114 x1 x3 k_93a Qa n (v5 + (1 : Int32)) v6 M))) := h1
      have h2 : (vp_in v5 (ln 104) ∧ (((M 104 v5.toNatClampNeg) < 0 → (wX8_know v6 v5 M (fun r17 M16 => wX8_order_139 x1 x3 (k_93b) Qb v5 v6 M16))) ∧ (¬ (M 104 v5.toNatClampNeg) < 0 → wX8_order_114 x1 x3 k_93b Qb m (v5 + (1 : Int32)) v6 M))) := h2
      have s1 := h1.1
      have h1 := h1.2
      have h2 := h2.2
      by_cases hc2 : (M 104 v5.toNatClampNeg) < 0
      · have h1 := h1.1 hc2
        have h2 := h2.1 hc2
        obtain ⟨r17, M16, f3, h1, h2, b4⟩ := u_wX8_know v6 v5 M h1 h2
        have g5 := Fr_tr (Fr_refl (fun i k => 79 ≤ i) M) f3 (fun i k (h : 79 ≤ i) => (show 79 ≤ i from by omega))
        rcases u_wX8_order_139 x1 x3 v5 v6 M16 h1 h2 with ⟨c10, N11, f8, h1, h2, b9⟩ | ⟨c12, c13, N14, f8, h1, h2, b9⟩
        · have hf := Fr_ts g5 f8
          exact Or.inl ⟨c10, N11, hf, h1, h2, fun k'0 Q' hq => ⟨s1, ⟨fun _ => b4 _ (b9 _ _ hq), fun z => absurd hc2 z⟩⟩⟩
        · have hf := Fr_ts g5 f8
          exact Or.inr ⟨c12, c13, N14, hf, h1, h2, fun k'0 Q' hq => ⟨s1, ⟨fun _ => b4 _ (b9 _ _ hq), fun z => absurd hc2 z⟩⟩⟩
      · have h1 := h1.2 hc2
        have h2 := h2.2 hc2
        rcases ih m (v5 + (1 : Int32)) v6 M h1 h2 with ⟨c19, N20, f17, h1, h2, b18⟩ | ⟨c21, c22, N23, f17, h1, h2, b18⟩
        · have hf := Fr_ts (Fr_refl (fun i k => 79 ≤ i) M) f17
          exact Or.inl ⟨c19, N20, hf, h1, h2, fun k'0 Q' hq => ⟨s1, ⟨fun z => absurd z hc2, fun _ => b18 _ _ hq⟩⟩⟩
        · have hf := Fr_ts (Fr_refl (fun i k => 79 ≤ i) M) f17
          exact Or.inr ⟨c21, c22, N23, hf, h1, h2, fun k'0 Q' hq => ⟨s1, ⟨fun z => absurd z hc2, fun _ => b18 _ _ hq⟩⟩⟩
set_option maxHeartbeats 4000000 in
theorem u_wX8_order_93 (x1 : Int64) (x3 : Int32) {Qa Qb : Int32 → Mem → Prop} : ∀ (n1 n2 : Nat) (v5 : Int32) (v6 : Int32) (M : Mem), wX8_order_93 x1 x3 Qa n1 v5 v6 M → wX8_order_93 x1 x3 Qb n2 v5 v6 M → (∃ (a0 : Int32) (M' : Mem), Fr (fun i k => 79 ≤ i) M M' ∧ Qa a0 M' ∧ Qb a0 M' ∧ ∀ (Q' : Int32 → Mem → Prop), Q' a0 M' → wX8_order_93 x1 x3 Q' n1 v5 v6 M) := by
  intro n1
  induction n1 with
  | zero => intro _ _ _ _ h1 _; exact h1.elim
  | succ n ih =>
    intro n2 v5 v6 M h1 h2
    cases n2 with
    | zero => exact h2.elim
    | succ m =>
      have h1 : (vp_in (0 : Int32) (ln 81) ∧ (((M 81 (0 : Int32).toNatClampNeg) ≤ v6 → (vp_in x3 (ln 103) ∧ Qa (M 103 x3.toNatClampNeg) M)) ∧ (¬ (M 81 (0 : Int32).toNatClampNeg) ≤ v6 → (vp_in v6 (ln 103) ∧ ((0 ≤ (M 103 v6.toNatClampNeg) → wX8_order_139 x1 x3 (wX8_order_93 x1 x3 Qa n) Qa v5 v6 M) ∧ (¬ 0 ≤ (M 103 v6.toNatClampNeg) → (∃ n15, wX8_order_114 x1 x3 (wX8_order_93 x1 x3 Qa n) Qa n15 v5 v6 M))))))) := h1
      have h2 : (vp_in (0 : Int32) (ln 81) ∧ (((M 81 (0 : Int32).toNatClampNeg) ≤ v6 → (vp_in x3 (ln 103) ∧ Qb (M 103 x3.toNatClampNeg) M)) ∧ (¬ (M 81 (0 : Int32).toNatClampNeg) ≤ v6 → (vp_in v6 (ln 103) ∧ ((0 ≤ (M 103 v6.toNatClampNeg) → wX8_order_139 x1 x3 (wX8_order_93 x1 x3 Qb m) Qb v5 v6 M) ∧ (¬ 0 ≤ (M 103 v6.toNatClampNeg) → (∃ n15, wX8_order_114 x1 x3 (wX8_order_93 x1 x3 Qb m) Qb n15 v5 v6 M))))))) := h2
      have s1 := h1.1
      have h1 := h1.2
      have h2 := h2.2
      by_cases hc2 : (M 81 (0 : Int32).toNatClampNeg) ≤ v6
      · have h1 := h1.1 hc2
        have h2 := h2.1 hc2
        have s3 := h1.1
        have h1 := h1.2
        have h2 := h2.2
        exact ⟨(M 103 x3.toNatClampNeg), M, (Fr_refl (fun i k => 79 ≤ i) M), h1, h2, fun Q' hq => ⟨s1, ⟨fun _ => ⟨s3, hq⟩, fun z => absurd hc2 z⟩⟩⟩
      · have h1 := h1.2 hc2
        have h2 := h2.2 hc2
        have s4 := h1.1
        have h1 := h1.2
        have h2 := h2.2
        by_cases hc5 : 0 ≤ (M 103 v6.toNatClampNeg)
        · have h1 := h1.1 hc5
          have h2 := h2.1 hc5
          rcases u_wX8_order_139 x1 x3 v5 v6 M h1 h2 with ⟨c10, N11, f8, h1, h2, b9⟩ | ⟨c12, c13, N14, f8, h1, h2, b9⟩
          · have hf := Fr_ts (Fr_refl (fun i k => 79 ≤ i) M) f8
            exact ⟨c10, N11, hf, h1, h2, fun Q' hq => ⟨s1, ⟨fun z => absurd z hc2, fun _ => ⟨s4, ⟨fun _ => b9 _ _ hq, fun z => absurd hc5 z⟩⟩⟩⟩⟩
          · have hf := Fr_ts (Fr_refl (fun i k => 79 ≤ i) M) f8
            obtain ⟨c17, N18, f15, h1, h2, b16⟩ := ih m c12 c13 N14 h1 h2
            have hf := Fr_ts hf f15
            exact ⟨c17, N18, hf, h1, h2, fun Q' hq => ⟨s1, ⟨fun z => absurd z hc2, fun _ => ⟨s4, ⟨fun _ => b9 _ _ (b16 _ hq), fun z => absurd hc5 z⟩⟩⟩⟩⟩
        · have h1 := h1.2 hc5
          have h2 := h2.2 hc5
          obtain ⟨n15_a, h1⟩ := h1
          obtain ⟨n15_b, h2⟩ := h2
          rcases u_wX8_order_114 x1 x3 n15_a n15_b v5 v6 M h1 h2 with ⟨c23, N24, f21, h1, h2, b22⟩ | ⟨c25, c26, N27, f21, h1, h2, b22⟩
          · have hf := Fr_ts (Fr_refl (fun i k => 79 ≤ i) M) f21
            exact ⟨c23, N24, hf, h1, h2, fun Q' hq => ⟨s1, ⟨fun z => absurd z hc2, fun _ => ⟨s4, ⟨fun z => absurd z hc5, fun _ => ⟨n15_a, b22 _ _ hq⟩⟩⟩⟩⟩⟩
          · have hf := Fr_ts (Fr_refl (fun i k => 79 ≤ i) M) f21
            obtain ⟨c30, N31, f28, h1, h2, b29⟩ := ih m c25 c26 N27 h1 h2
            have hf := Fr_ts hf f28
            exact ⟨c30, N31, hf, h1, h2, fun Q' hq => ⟨s1, ⟨fun z => absurd z hc2, fun _ => ⟨s4, ⟨fun z => absurd z hc5, fun _ => ⟨n15_a, b22 _ _ (b29 _ hq)⟩⟩⟩⟩⟩⟩
set_option maxHeartbeats 4000000 in
theorem u_wX8_order_32 (x1 : Int64) (x3 : Int32) {Qa Qb : Int32 → Mem → Prop} : ∀ (n1 n2 : Nat) (v4 : Int32) (v5 : Int32) (M : Mem), wX8_order_32 x1 x3 Qa n1 v4 v5 M → wX8_order_32 x1 x3 Qb n2 v4 v5 M → (∃ (a0 : Int32) (M' : Mem), Fr (fun i k => 79 ≤ i) M M' ∧ Qa a0 M' ∧ Qb a0 M' ∧ ∀ (Q' : Int32 → Mem → Prop), Q' a0 M' → wX8_order_32 x1 x3 Q' n1 v4 v5 M) := by
  intro n1
  induction n1 with
  | zero => intro _ _ _ _ h1 _; exact h1.elim
  | succ n ih =>
    intro n2 v4 v5 M h1 h2
    cases n2 with
    | zero => exact h2.elim
    | succ m =>
      have h1 : (wX8_lesser M (fun r9 M8 => ((r9 ≤ v5 → ((¬ v4 = 0 → (∃ n10, wX8_order_93 x1 x3 Qa n10 (0 : Int32) (0 : Int32) M8)) ∧ (v4 = 0 → Qa (-4 : Int32) M8))) ∧ (¬ r9 ≤ v5 → (wX8_placeOf v5 M8 (fun r12 M11 => (vp_in v5 (ln 88) ∧ (wX8_know r12 (M11 88 v5.toNatClampNeg) M11 (fun r14 M13 => ((r14 = 0 → wX8_order_70 x1 x3 (wX8_order_32 x1 x3 Qa n) Qa v5 M13) ∧ (¬ r14 = 0 → ((v4 = 0 → wX8_order_70 x1 x3 (wX8_order_32 x1 x3 Qa n) Qa v5 M13) ∧ (¬ v4 = 0 → wX8_order_71 x1 x3 (wX8_order_32 x1 x3 Qa n) Qa v5 (1 : Int32) M13))))))))))))) := h1
      have h2 : (wX8_lesser M (fun r9 M8 => ((r9 ≤ v5 → ((¬ v4 = 0 → (∃ n10, wX8_order_93 x1 x3 Qb n10 (0 : Int32) (0 : Int32) M8)) ∧ (v4 = 0 → Qb (-4 : Int32) M8))) ∧ (¬ r9 ≤ v5 → (wX8_placeOf v5 M8 (fun r12 M11 => (vp_in v5 (ln 88) ∧ (wX8_know r12 (M11 88 v5.toNatClampNeg) M11 (fun r14 M13 => ((r14 = 0 → wX8_order_70 x1 x3 (wX8_order_32 x1 x3 Qb m) Qb v5 M13) ∧ (¬ r14 = 0 → ((v4 = 0 → wX8_order_70 x1 x3 (wX8_order_32 x1 x3 Qb m) Qb v5 M13) ∧ (¬ v4 = 0 → wX8_order_71 x1 x3 (wX8_order_32 x1 x3 Qb m) Qb v5 (1 : Int32) M13))))))))))))) := h2
      obtain ⟨r9, M8, f1, h1, h2, b2⟩ := u_wX8_lesser M h1 h2
      have g3 := Fr_tr (Fr_refl (fun i k => 79 ≤ i) M) f1 (fun i k (h : False) => h.elim)
      by_cases hc4 : r9 ≤ v5
      · have h1 := h1.1 hc4
        have h2 := h2.1 hc4
        by_cases hc5 : v4 = 0
        · have h1 := h1.2 hc5
          have h2 := h2.2 hc5
          exact ⟨(-4 : Int32), M8, g3, h1, h2, fun Q' hq => b2 _ ⟨fun _ => ⟨fun z => absurd hc5 z, fun _ => hq⟩, fun z => absurd hc4 z⟩⟩
        · have h1 := h1.1 hc5
          have h2 := h2.1 hc5
          obtain ⟨n10_a, h1⟩ := h1
          obtain ⟨n10_b, h2⟩ := h2
          obtain ⟨c10, N11, f8, h1, h2, b9⟩ := u_wX8_order_93 x1 x3 n10_a n10_b (0 : Int32) (0 : Int32) M8 h1 h2
          have hf := Fr_ts g3 f8
          exact ⟨c10, N11, hf, h1, h2, fun Q' hq => b2 _ ⟨fun _ => ⟨fun _ => ⟨n10_a, b9 _ hq⟩, fun z => absurd z hc5⟩, fun z => absurd hc4 z⟩⟩
      · have h1 := h1.2 hc4
        have h2 := h2.2 hc4
        obtain ⟨r12, M11, f12, h1, h2, b13⟩ := u_wX8_placeOf v5 M8 h1 h2
        have g14 := Fr_tr g3 f12 (fun i k (h : False) => h.elim)
        have s15 := h1.1
        have h1 := h1.2
        have h2 := h2.2
        obtain ⟨r14, M13, f16, h1, h2, b17⟩ := u_wX8_know r12 (M11 88 v5.toNatClampNeg) M11 h1 h2
        have g18 := Fr_tr g14 f16 (fun i k (h : 79 ≤ i) => (show 79 ≤ i from by omega))
        by_cases hc19 : r14 = 0
        · have h1 := h1.1 hc19
          have h2 := h2.1 hc19
          rcases u_wX8_order_70 x1 x3 v5 M13 h1 h2 with ⟨c24, N25, f22, h1, h2, b23⟩ | ⟨c26, c27, N28, f22, h1, h2, b23⟩
          · have hf := Fr_ts g18 f22
            exact ⟨c24, N25, hf, h1, h2, fun Q' hq => b2 _ ⟨fun z => absurd z hc4, fun _ => b13 _ ⟨s15, b17 _ ⟨fun _ => b23 _ _ hq, fun z => absurd hc19 z⟩⟩⟩⟩
          · have hf := Fr_ts g18 f22
            obtain ⟨c31, N32, f29, h1, h2, b30⟩ := ih m c26 c27 N28 h1 h2
            have hf := Fr_ts hf f29
            exact ⟨c31, N32, hf, h1, h2, fun Q' hq => b2 _ ⟨fun z => absurd z hc4, fun _ => b13 _ ⟨s15, b17 _ ⟨fun _ => b23 _ _ (b30 _ hq), fun z => absurd hc19 z⟩⟩⟩⟩
        · have h1 := h1.2 hc19
          have h2 := h2.2 hc19
          by_cases hc33 : v4 = 0
          · have h1 := h1.1 hc33
            have h2 := h2.1 hc33
            rcases u_wX8_order_70 x1 x3 v5 M13 h1 h2 with ⟨c38, N39, f36, h1, h2, b37⟩ | ⟨c40, c41, N42, f36, h1, h2, b37⟩
            · have hf := Fr_ts g18 f36
              exact ⟨c38, N39, hf, h1, h2, fun Q' hq => b2 _ ⟨fun z => absurd z hc4, fun _ => b13 _ ⟨s15, b17 _ ⟨fun z => absurd z hc19, fun _ => ⟨fun _ => b37 _ _ hq, fun z => absurd hc33 z⟩⟩⟩⟩⟩
            · have hf := Fr_ts g18 f36
              obtain ⟨c45, N46, f43, h1, h2, b44⟩ := ih m c40 c41 N42 h1 h2
              have hf := Fr_ts hf f43
              exact ⟨c45, N46, hf, h1, h2, fun Q' hq => b2 _ ⟨fun z => absurd z hc4, fun _ => b13 _ ⟨s15, b17 _ ⟨fun z => absurd z hc19, fun _ => ⟨fun _ => b37 _ _ (b44 _ hq), fun z => absurd hc33 z⟩⟩⟩⟩⟩
          · have h1 := h1.2 hc33
            have h2 := h2.2 hc33
            rcases u_wX8_order_71 x1 x3 v5 (1 : Int32) M13 h1 h2 with ⟨c51, N52, f49, h1, h2, b50⟩ | ⟨c53, c54, N55, f49, h1, h2, b50⟩
            · have hf := Fr_ts g18 f49
              exact ⟨c51, N52, hf, h1, h2, fun Q' hq => b2 _ ⟨fun z => absurd z hc4, fun _ => b13 _ ⟨s15, b17 _ ⟨fun z => absurd z hc19, fun _ => ⟨fun z => absurd z hc33, fun _ => b50 _ _ hq⟩⟩⟩⟩⟩
            · have hf := Fr_ts g18 f49
              obtain ⟨c58, N59, f56, h1, h2, b57⟩ := ih m c53 c54 N55 h1 h2
              have hf := Fr_ts hf f56
              exact ⟨c58, N59, hf, h1, h2, fun Q' hq => b2 _ ⟨fun z => absurd z hc4, fun _ => b13 _ ⟨s15, b17 _ ⟨fun z => absurd z hc19, fun _ => ⟨fun z => absurd z hc33, fun _ => b50 _ _ (b57 _ hq)⟩⟩⟩⟩⟩
set_option maxHeartbeats 4000000 in
theorem u_wX8_order (x1 : Int64) (x3 : Int32) {Qa Qb : Int32 → Mem → Prop} (M : Mem) (h1 : wX8_order x1 x3 M Qa) (h2 : wX8_order x1 x3 M Qb) : (∃ (a0 : Int32) (M' : Mem), Fr (fun i k => 79 ≤ i) M M' ∧ Qa a0 M' ∧ Qb a0 M' ∧ ∀ (Q' : Int32 → Mem → Prop), Q' a0 M' → wX8_order x1 x3 M Q') := by
  have h1 : (wX8_isReader x1 M (fun r2 M1 => ((r2 = 0 → wX8_order_15 x1 x3 Qa M1) ∧ (¬ r2 = 0 → (wX8_isLeaf x3 M1 (fun r4 M3 => ((¬ r4 = 0 → (wX8_noOrder M3 (fun M5 => (wX8_layPower x1 M5 (fun M6 => (∃ n7, wX8_order_32 x1 x3 Qa n7 (1 : Int32) (0 : Int32) M6)))))) ∧ (r4 = 0 → wX8_order_15 x1 x3 Qa M3)))))))) := h1
  have h2 : (wX8_isReader x1 M (fun r2 M1 => ((r2 = 0 → wX8_order_15 x1 x3 Qb M1) ∧ (¬ r2 = 0 → (wX8_isLeaf x3 M1 (fun r4 M3 => ((¬ r4 = 0 → (wX8_noOrder M3 (fun M5 => (wX8_layPower x1 M5 (fun M6 => (∃ n7, wX8_order_32 x1 x3 Qb n7 (1 : Int32) (0 : Int32) M6)))))) ∧ (r4 = 0 → wX8_order_15 x1 x3 Qb M3)))))))) := h2
  obtain ⟨r2, M1, f1, h1, h2, b2⟩ := u_wX8_isReader x1 M h1 h2
  have g3 := Fr_tr (Fr_refl (fun i k => 79 ≤ i) M) f1 (fun i k (h : False) => h.elim)
  by_cases hc4 : r2 = 0
  · have h1 := h1.1 hc4
    have h2 := h2.1 hc4
    obtain ⟨c9, N10, f7, h1, h2, b8⟩ := u_wX8_order_15 x1 x3 M1 h1 h2
    have hf := Fr_ts g3 f7
    exact ⟨c9, N10, hf, h1, h2, fun Q' hq => b2 _ ⟨fun _ => b8 _ hq, fun z => absurd hc4 z⟩⟩
  · have h1 := h1.2 hc4
    have h2 := h2.2 hc4
    obtain ⟨r4, M3, f11, h1, h2, b12⟩ := u_wX8_isLeaf x3 M1 h1 h2
    have g13 := Fr_tr g3 f11 (fun i k (h : False) => h.elim)
    by_cases hc14 : r4 = 0
    · have h1 := h1.2 hc14
      have h2 := h2.2 hc14
      obtain ⟨c19, N20, f17, h1, h2, b18⟩ := u_wX8_order_15 x1 x3 M3 h1 h2
      have hf := Fr_ts g13 f17
      exact ⟨c19, N20, hf, h1, h2, fun Q' hq => b2 _ ⟨fun z => absurd z hc4, fun _ => b12 _ ⟨fun z => absurd hc14 z, fun _ => b18 _ hq⟩⟩⟩
    · have h1 := h1.1 hc14
      have h2 := h2.1 hc14
      obtain ⟨M5, f21, h1, h2, b22⟩ := u_wX8_noOrder M3 h1 h2
      have g23 := Fr_tr g13 f21 (fun i k (h : 79 ≤ i) => (show 79 ≤ i from by omega))
      obtain ⟨M6, f24, h1, h2, b25⟩ := u_wX8_layPower x1 M5 h1 h2
      have g26 := Fr_tr g23 f24 (fun i k (h : 79 ≤ i) => (show 79 ≤ i from by omega))
      obtain ⟨n7_a, h1⟩ := h1
      obtain ⟨n7_b, h2⟩ := h2
      obtain ⟨c31, N32, f29, h1, h2, b30⟩ := u_wX8_order_32 x1 x3 n7_a n7_b (1 : Int32) (0 : Int32) M6 h1 h2
      have hf := Fr_ts g26 f29
      exact ⟨c31, N32, hf, h1, h2, fun Q' hq => b2 _ ⟨fun z => absurd z hc4, fun _ => b12 _ ⟨fun _ => b22 _ (b25 _ ⟨n7_a, b30 _ hq⟩), fun z => absurd z hc14⟩⟩⟩
set_option maxHeartbeats 4000000 in
theorem u_wX8_showsBy_38 (x1 : Int32) (x2 : Int32) {Qa Qb : Int32 → Mem → Prop} : ∀ (n1 n2 : Nat) (v3 : Int64) (v5 : Int64) (v7 : Int32) (M : Mem), wX8_showsBy_38 x1 x2 Qa n1 v3 v5 v7 M → wX8_showsBy_38 x1 x2 Qb n2 v3 v5 v7 M → (∃ (a0 : Int32) (M' : Mem), Fr (fun i k => 79 ≤ i) M M' ∧ Qa a0 M' ∧ Qb a0 M' ∧ ∀ (Q' : Int32 → Mem → Prop), Q' a0 M' → wX8_showsBy_38 x1 x2 Q' n1 v3 v5 v7 M) := by
  intro n1
  induction n1 with
  | zero => intro _ _ _ _ _ h1 _; exact h1.elim
  | succ n ih =>
    intro n2 v3 v5 v7 M h1 h2
    cases n2 with
    | zero => exact h2.elim
    | succ m =>
      have h1 : (((2000 : Int32) ≤ v7 → Qa (-4 : Int32) M) ∧ (¬ (2000 : Int32) ≤ v7 → (vp_in (0 : Int32) (ln 105) ∧ ((¬ (lg_cmp (v5 ||| ((1 : Int64) <<< ((M 105 (0 : Int32).toNatClampNeg).toInt64 &&& 63))) v3) = 0 → (wX8_goRead 105 (0 : Int32) x1 x2 v7 M (fun M3 => wX8_showsBy_38 x1 x2 Qa n v3 (v5 ||| ((1 : Int64) <<< ((M 105 (0 : Int32).toNatClampNeg).toInt64 &&& 63))) (v7 + (1 : Int32)) M3))) ∧ ((lg_cmp (v5 ||| ((1 : Int64) <<< ((M 105 (0 : Int32).toNatClampNeg).toInt64 &&& 63))) v3) = 0 → Qa (v7 + (1 : Int32)) M))))) := h1
      have h2 : (((2000 : Int32) ≤ v7 → Qb (-4 : Int32) M) ∧ (¬ (2000 : Int32) ≤ v7 → (vp_in (0 : Int32) (ln 105) ∧ ((¬ (lg_cmp (v5 ||| ((1 : Int64) <<< ((M 105 (0 : Int32).toNatClampNeg).toInt64 &&& 63))) v3) = 0 → (wX8_goRead 105 (0 : Int32) x1 x2 v7 M (fun M3 => wX8_showsBy_38 x1 x2 Qb m v3 (v5 ||| ((1 : Int64) <<< ((M 105 (0 : Int32).toNatClampNeg).toInt64 &&& 63))) (v7 + (1 : Int32)) M3))) ∧ ((lg_cmp (v5 ||| ((1 : Int64) <<< ((M 105 (0 : Int32).toNatClampNeg).toInt64 &&& 63))) v3) = 0 → Qb (v7 + (1 : Int32)) M))))) := h2
      by_cases hc1 : (2000 : Int32) ≤ v7
      · have h1 := h1.1 hc1
        have h2 := h2.1 hc1
        exact ⟨(-4 : Int32), M, (Fr_refl (fun i k => 79 ≤ i) M), h1, h2, fun Q' hq => ⟨fun _ => hq, fun z => absurd hc1 z⟩⟩
      · have h1 := h1.2 hc1
        have h2 := h2.2 hc1
        have s2 := h1.1
        have h1 := h1.2
        have h2 := h2.2
        by_cases hc3 : (lg_cmp (v5 ||| ((1 : Int64) <<< ((M 105 (0 : Int32).toNatClampNeg).toInt64 &&& 63))) v3) = 0
        · have h1 := h1.2 hc3
          have h2 := h2.2 hc3
          exact ⟨(v7 + (1 : Int32)), M, (Fr_refl (fun i k => 79 ≤ i) M), h1, h2, fun Q' hq => ⟨fun z => absurd z hc1, fun _ => ⟨s2, ⟨fun z => absurd hc3 z, fun _ => hq⟩⟩⟩⟩
        · have h1 := h1.1 hc3
          have h2 := h2.1 hc3
          obtain ⟨M3, f4, h1, h2, b5⟩ := u_wX8_goRead 105 (0 : Int32) x1 x2 v7 M h1 h2
          have g6 := Fr_tr (Fr_refl (fun i k => 79 ≤ i) M) f4 (fun i k (h : 79 ≤ i ∨ i = 105) => (show 79 ≤ i from by omega))
          obtain ⟨c11, N12, f9, h1, h2, b10⟩ := ih m v3 (v5 ||| ((1 : Int64) <<< ((M 105 (0 : Int32).toNatClampNeg).toInt64 &&& 63))) (v7 + (1 : Int32)) M3 h1 h2
          have hf := Fr_ts g6 f9
          exact ⟨c11, N12, hf, h1, h2, fun Q' hq => ⟨fun z => absurd z hc1, fun _ => ⟨s2, ⟨fun _ => b5 _ (b10 _ hq), fun z => absurd z hc3⟩⟩⟩⟩
set_option maxHeartbeats 4000000 in
theorem u_wX8_showsBy_2 (x1 : Int32) (x2 : Int32) {Qa Qb : Int32 → Mem → Prop} : ∀ (n1 n2 : Nat) (v3 : Int32) (M : Mem), wX8_showsBy_2 x1 x2 Qa n1 v3 M → wX8_showsBy_2 x1 x2 Qb n2 v3 M → (∃ (a0 : Int32) (M' : Mem), Fr (fun i k => 79 ≤ i) M M' ∧ Qa a0 M' ∧ Qb a0 M' ∧ ∀ (Q' : Int32 → Mem → Prop), Q' a0 M' → wX8_showsBy_2 x1 x2 Q' n1 v3 M) := by
  intro n1
  induction n1 with
  | zero => intro _ _ _ h1 _; exact h1.elim
  | succ n ih =>
    intro n2 v3 M h1 h2
    cases n2 with
    | zero => exact h2.elim
    | succ m =>
      have h1 : (((40 : Int32) ≤ v3 → (vp_in (0 : Int32) (ln 81) ∧ (∃ n2, wX8_showsBy_38 x1 x2 Qa n2 (((1 : Int64) <<< ((M 81 (0 : Int32).toNatClampNeg).toInt64 &&& 63)) - (1 : Int64)) (0 : Int64) (0 : Int32) M))) ∧ (¬ (40 : Int32) ≤ v3 → (vp_in v3 (ln 105) ∧ wX8_showsBy_2 x1 x2 Qa n (v3 + (1 : Int32)) (mu M 105 v3.toNatClampNeg v3)))) := h1
      have h2 : (((40 : Int32) ≤ v3 → (vp_in (0 : Int32) (ln 81) ∧ (∃ n2, wX8_showsBy_38 x1 x2 Qb n2 (((1 : Int64) <<< ((M 81 (0 : Int32).toNatClampNeg).toInt64 &&& 63)) - (1 : Int64)) (0 : Int64) (0 : Int32) M))) ∧ (¬ (40 : Int32) ≤ v3 → (vp_in v3 (ln 105) ∧ wX8_showsBy_2 x1 x2 Qb m (v3 + (1 : Int32)) (mu M 105 v3.toNatClampNeg v3)))) := h2
      by_cases hc1 : (40 : Int32) ≤ v3
      · have h1 := h1.1 hc1
        have h2 := h2.1 hc1
        have s2 := h1.1
        have h1 := h1.2
        have h2 := h2.2
        obtain ⟨n2_a, h1⟩ := h1
        obtain ⟨n2_b, h2⟩ := h2
        obtain ⟨c7, N8, f5, h1, h2, b6⟩ := u_wX8_showsBy_38 x1 x2 n2_a n2_b (((1 : Int64) <<< ((M 81 (0 : Int32).toNatClampNeg).toInt64 &&& 63)) - (1 : Int64)) (0 : Int64) (0 : Int32) M h1 h2
        have hf := Fr_ts (Fr_refl (fun i k => 79 ≤ i) M) f5
        exact ⟨c7, N8, hf, h1, h2, fun Q' hq => ⟨fun _ => ⟨s2, ⟨n2_a, b6 _ hq⟩⟩, fun z => absurd hc1 z⟩⟩
      · have h1 := h1.2 hc1
        have h2 := h2.2 hc1
        have s9 := h1.1
        have h1 := h1.2
        have h2 := h2.2
        obtain ⟨c14, N15, f12, h1, h2, b13⟩ := ih m (v3 + (1 : Int32)) (mu M 105 v3.toNatClampNeg v3) h1 h2
        have hf := Fr_ts (Fr_mu (Fr_refl (fun i k => 79 ≤ i) M) (show 79 ≤ 105 from by omega)) f12
        exact ⟨c14, N15, hf, h1, h2, fun Q' hq => ⟨fun z => absurd z hc1, fun _ => ⟨s9, b13 _ hq⟩⟩⟩
set_option maxHeartbeats 4000000 in
theorem u_wX8_showsBy (x1 : Int32) (x2 : Int32) {Qa Qb : Int32 → Mem → Prop} (M : Mem) (h1 : wX8_showsBy x1 x2 M Qa) (h2 : wX8_showsBy x1 x2 M Qb) : (∃ (a0 : Int32) (M' : Mem), Fr (fun i k => 79 ≤ i) M M' ∧ Qa a0 M' ∧ Qb a0 M' ∧ ∀ (Q' : Int32 → Mem → Prop), Q' a0 M' → wX8_showsBy x1 x2 M Q') := by
  have h1 : (∃ n1, wX8_showsBy_2 x1 x2 Qa n1 (0 : Int32) M) := h1
  have h2 : (∃ n1, wX8_showsBy_2 x1 x2 Qb n1 (0 : Int32) M) := h2
  obtain ⟨n1_a, h1⟩ := h1
  obtain ⟨n1_b, h2⟩ := h2
  obtain ⟨c5, N6, f3, h1, h2, b4⟩ := u_wX8_showsBy_2 x1 x2 n1_a n1_b (0 : Int32) M h1 h2
  have hf := Fr_ts (Fr_refl (fun i k => 79 ≤ i) M) f3
  exact ⟨c5, N6, hf, h1, h2, fun Q' hq => ⟨n1_a, b4 _ hq⟩⟩
set_option maxHeartbeats 4000000 in
theorem u_wX8_shows_30 (x1 : Int32) (x2 : Int32) {Qa Qb : Int32 → Mem → Prop} (s0 : Int32) (M : Mem) (h1 : wX8_shows_30 x1 x2 Qa s0 M) (h2 : wX8_shows_30 x1 x2 Qb s0 M) : (∃ (a0 : Int32) (M' : Mem), Fr (fun i k => 79 ≤ i) M M' ∧ Qa a0 M' ∧ Qb a0 M' ∧ ∀ (Q' : Int32 → Mem → Prop), Q' a0 M' → wX8_shows_30 x1 x2 Q' s0 M) := by
  have h1 : Qa s0 M := h1
  have h2 : Qb s0 M := h2
  exact ⟨s0, M, (Fr_refl (fun i k => 79 ≤ i) M), h1, h2, fun Q' hq => hq⟩
set_option maxHeartbeats 4000000 in
theorem u_wX8_shows_29 (x1 : Int32) (x2 : Int32) {Qa Qb : Int32 → Mem → Prop} (M : Mem) (h1 : wX8_shows_29 x1 x2 Qa M) (h2 : wX8_shows_29 x1 x2 Qb M) : (∃ (a0 : Int32) (M' : Mem), Fr (fun i k => 79 ≤ i) M M' ∧ Qa a0 M' ∧ Qb a0 M' ∧ ∀ (Q' : Int32 → Mem → Prop), Q' a0 M' → wX8_shows_29 x1 x2 Q' M) := by
  have h1 : wX8_shows_30 x1 x2 Qa (-1 : Int32) M := h1
  have h2 : wX8_shows_30 x1 x2 Qb (-1 : Int32) M := h2
  obtain ⟨c5, N6, f3, h1, h2, b4⟩ := u_wX8_shows_30 x1 x2 (-1 : Int32) M h1 h2
  have hf := Fr_ts (Fr_refl (fun i k => 79 ≤ i) M) f3
  exact ⟨c5, N6, hf, h1, h2, fun Q' hq => b4 _ hq⟩
set_option maxHeartbeats 4000000 in
theorem u_wX8_shows (x1 : Int32) (x2 : Int32) {Qa Qb : Int32 → Mem → Prop} (M : Mem) (h1 : wX8_shows x1 x2 M Qa) (h2 : wX8_shows x1 x2 M Qb) : (∃ (a0 : Int32) (M' : Mem), Fr (fun i k => 79 ≤ i) M M' ∧ Qa a0 M' ∧ Qb a0 M' ∧ ∀ (Q' : Int32 → Mem → Prop), Q' a0 M' → wX8_shows x1 x2 M Q') := by
  have h1 : (wX8_in x1.toInt64 (0 : Int64) (3 : Int64) M (fun r2 M1 => ((r2 = 0 → wX8_shows_29 x1 x2 Qa M1) ∧ (¬ r2 = 0 → (wX8_isLeaf x2 M1 (fun r4 M3 => ((r4 = 0 → wX8_shows_29 x1 x2 Qa M3) ∧ (¬ r4 = 0 → (wX8_showsBy x1 x2 M3 (fun r6 M5 => wX8_shows_30 x1 x2 Qa r6 M5)))))))))) := h1
  have h2 : (wX8_in x1.toInt64 (0 : Int64) (3 : Int64) M (fun r2 M1 => ((r2 = 0 → wX8_shows_29 x1 x2 Qb M1) ∧ (¬ r2 = 0 → (wX8_isLeaf x2 M1 (fun r4 M3 => ((r4 = 0 → wX8_shows_29 x1 x2 Qb M3) ∧ (¬ r4 = 0 → (wX8_showsBy x1 x2 M3 (fun r6 M5 => wX8_shows_30 x1 x2 Qb r6 M5)))))))))) := h2
  obtain ⟨r2, M1, f1, h1, h2, b2⟩ := u_wX8_in x1.toInt64 (0 : Int64) (3 : Int64) M h1 h2
  have g3 := Fr_tr (Fr_refl (fun i k => 79 ≤ i) M) f1 (fun i k (h : False) => h.elim)
  by_cases hc4 : r2 = 0
  · have h1 := h1.1 hc4
    have h2 := h2.1 hc4
    obtain ⟨c9, N10, f7, h1, h2, b8⟩ := u_wX8_shows_29 x1 x2 M1 h1 h2
    have hf := Fr_ts g3 f7
    exact ⟨c9, N10, hf, h1, h2, fun Q' hq => b2 _ ⟨fun _ => b8 _ hq, fun z => absurd hc4 z⟩⟩
  · have h1 := h1.2 hc4
    have h2 := h2.2 hc4
    obtain ⟨r4, M3, f11, h1, h2, b12⟩ := u_wX8_isLeaf x2 M1 h1 h2
    have g13 := Fr_tr g3 f11 (fun i k (h : False) => h.elim)
    by_cases hc14 : r4 = 0
    · have h1 := h1.1 hc14
      have h2 := h2.1 hc14
      obtain ⟨c19, N20, f17, h1, h2, b18⟩ := u_wX8_shows_29 x1 x2 M3 h1 h2
      have hf := Fr_ts g13 f17
      exact ⟨c19, N20, hf, h1, h2, fun Q' hq => b2 _ ⟨fun z => absurd z hc4, fun _ => b12 _ ⟨fun _ => b18 _ hq, fun z => absurd hc14 z⟩⟩⟩
    · have h1 := h1.2 hc14
      have h2 := h2.2 hc14
      obtain ⟨r6, M5, f21, h1, h2, b22⟩ := u_wX8_showsBy x1 x2 M3 h1 h2
      have g23 := Fr_tr g13 f21 (fun i k (h : 79 ≤ i) => (show 79 ≤ i from by omega))
      obtain ⟨c28, N29, f26, h1, h2, b27⟩ := u_wX8_shows_30 x1 x2 r6 M5 h1 h2
      have hf := Fr_ts g23 f26
      exact ⟨c28, N29, hf, h1, h2, fun Q' hq => b2 _ ⟨fun z => absurd z hc4, fun _ => b12 _ ⟨fun z => absurd z hc14, fun _ => b22 _ (b27 _ hq)⟩⟩⟩
set_option maxHeartbeats 4000000 in
theorem u_wX8_quickest_84 (x1 : Int32) {k_27a k_27b : Int32 → Int32 → Int32 → Int32 → Mem → Prop} {k_36a k_36b : Int32 → Int32 → Int32 → Int32 → Int32 → Mem → Prop} {Qa Qb : Int32 → Mem → Prop} (v2 : Int32) (v3 : Int32) (v4 : Int32) (v5 : Int32) (v6 : Int32) (M : Mem) (h1 : wX8_quickest_84 x1 k_27a k_36a Qa v2 v3 v4 v5 v6 M) (h2 : wX8_quickest_84 x1 k_27b k_36b Qb v2 v3 v4 v5 v6 M) : (∃ (a0 : Int32) (M' : Mem), Fr (fun i k => 79 ≤ i) M M' ∧ Qa a0 M' ∧ Qb a0 M' ∧ ∀ (k'0 : Int32 → Int32 → Int32 → Int32 → Mem → Prop) (k'1 : Int32 → Int32 → Int32 → Int32 → Int32 → Mem → Prop) (Q' : Int32 → Mem → Prop), Q' a0 M' → wX8_quickest_84 x1 k'0 k'1 Q' v2 v3 v4 v5 v6 M) ∨ (∃ (a0 : Int32) (a1 : Int32) (a2 : Int32) (a3 : Int32) (M' : Mem), Fr (fun i k => 79 ≤ i) M M' ∧ k_27a a0 a1 a2 a3 M' ∧ k_27b a0 a1 a2 a3 M' ∧ ∀ (k'0 : Int32 → Int32 → Int32 → Int32 → Mem → Prop) (k'1 : Int32 → Int32 → Int32 → Int32 → Int32 → Mem → Prop) (Q' : Int32 → Mem → Prop), k'0 a0 a1 a2 a3 M' → wX8_quickest_84 x1 k'0 k'1 Q' v2 v3 v4 v5 v6 M) ∨ (∃ (a0 : Int32) (a1 : Int32) (a2 : Int32) (a3 : Int32) (a4 : Int32) (M' : Mem), Fr (fun i k => 79 ≤ i) M M' ∧ k_36a a0 a1 a2 a3 a4 M' ∧ k_36b a0 a1 a2 a3 a4 M' ∧ ∀ (k'0 : Int32 → Int32 → Int32 → Int32 → Mem → Prop) (k'1 : Int32 → Int32 → Int32 → Int32 → Int32 → Mem → Prop) (Q' : Int32 → Mem → Prop), k'1 a0 a1 a2 a3 a4 M' → wX8_quickest_84 x1 k'0 k'1 Q' v2 v3 v4 v5 v6 M) := by
  have h1 : k_36a v2 v3 v4 v5 (v6 + (1 : Int32)) M := h1
  have h2 : k_36b v2 v3 v4 v5 (v6 + (1 : Int32)) M := h2
  exact Or.inr (Or.inr ⟨v2, v3, v4, v5, (v6 + (1 : Int32)), M, (Fr_refl (fun i k => 79 ≤ i) M), h1, h2, fun k'0 k'1 Q' hq => hq⟩)
set_option maxHeartbeats 4000000 in
theorem u_wX8_quickest_74 (x1 : Int32) {k_27a k_27b : Int32 → Int32 → Int32 → Int32 → Mem → Prop} {k_36a k_36b : Int32 → Int32 → Int32 → Int32 → Int32 → Mem → Prop} {Qa Qb : Int32 → Mem → Prop} (v5 : Int32) (v6 : Int32) (v7 : Int32) (M : Mem) (h1 : wX8_quickest_74 x1 k_27a k_36a Qa v5 v6 v7 M) (h2 : wX8_quickest_74 x1 k_27b k_36b Qb v5 v6 v7 M) : (∃ (a0 : Int32) (M' : Mem), Fr (fun i k => 79 ≤ i) M M' ∧ Qa a0 M' ∧ Qb a0 M' ∧ ∀ (k'0 : Int32 → Int32 → Int32 → Int32 → Mem → Prop) (k'1 : Int32 → Int32 → Int32 → Int32 → Int32 → Mem → Prop) (Q' : Int32 → Mem → Prop), Q' a0 M' → wX8_quickest_74 x1 k'0 k'1 Q' v5 v6 v7 M) ∨ (∃ (a0 : Int32) (a1 : Int32) (a2 : Int32) (a3 : Int32) (M' : Mem), Fr (fun i k => 79 ≤ i) M M' ∧ k_27a a0 a1 a2 a3 M' ∧ k_27b a0 a1 a2 a3 M' ∧ ∀ (k'0 : Int32 → Int32 → Int32 → Int32 → Mem → Prop) (k'1 : Int32 → Int32 → Int32 → Int32 → Int32 → Mem → Prop) (Q' : Int32 → Mem → Prop), k'0 a0 a1 a2 a3 M' → wX8_quickest_74 x1 k'0 k'1 Q' v5 v6 v7 M) ∨ (∃ (a0 : Int32) (a1 : Int32) (a2 : Int32) (a3 : Int32) (a4 : Int32) (M' : Mem), Fr (fun i k => 79 ≤ i) M M' ∧ k_36a a0 a1 a2 a3 a4 M' ∧ k_36b a0 a1 a2 a3 a4 M' ∧ ∀ (k'0 : Int32 → Int32 → Int32 → Int32 → Mem → Prop) (k'1 : Int32 → Int32 → Int32 → Int32 → Int32 → Mem → Prop) (Q' : Int32 → Mem → Prop), k'1 a0 a1 a2 a3 a4 M' → wX8_quickest_74 x1 k'0 k'1 Q' v5 v6 v7 M) := by
  have h1 : wX8_quickest_84 x1 (k_27a) (k_36a) Qa v5 v6 v7 v5 v6 M := h1
  have h2 : wX8_quickest_84 x1 (k_27b) (k_36b) Qb v5 v6 v7 v5 v6 M := h2
  rcases u_wX8_quickest_84 x1 v5 v6 v7 v5 v6 M h1 h2 with ⟨c5, N6, f3, h1, h2, b4⟩ | ⟨c7, c8, c9, c10, N11, f3, h1, h2, b4⟩ | ⟨c12, c13, c14, c15, c16, N17, f3, h1, h2, b4⟩
  · have hf := Fr_ts (Fr_refl (fun i k => 79 ≤ i) M) f3
    exact Or.inl ⟨c5, N6, hf, h1, h2, fun k'0 k'1 Q' hq => b4 _ _ _ hq⟩
  · have hf := Fr_ts (Fr_refl (fun i k => 79 ≤ i) M) f3
    exact Or.inr (Or.inl ⟨c7, c8, c9, c10, N11, hf, h1, h2, fun k'0 k'1 Q' hq => b4 _ _ _ hq⟩)
  · have hf := Fr_ts (Fr_refl (fun i k => 79 ≤ i) M) f3
    exact Or.inr (Or.inr ⟨c12, c13, c14, c15, c16, N17, hf, h1, h2, fun k'0 k'1 Q' hq => b4 _ _ _ hq⟩)
set_option maxHeartbeats 4000000 in
theorem u_wX8_quickest_36 (x1 : Int32) {k_27a k_27b : Int32 → Int32 → Int32 → Int32 → Mem → Prop} {Qa Qb : Int32 → Mem → Prop} : ∀ (n1 n2 : Nat) (v2 : Int32) (v3 : Int32) (v4 : Int32) (v5 : Int32) (v6 : Int32) (M : Mem), wX8_quickest_36 x1 k_27a Qa n1 v2 v3 v4 v5 v6 M → wX8_quickest_36 x1 k_27b Qb n2 v2 v3 v4 v5 v6 M → (∃ (a0 : Int32) (M' : Mem), Fr (fun i k => 79 ≤ i) M M' ∧ Qa a0 M' ∧ Qb a0 M' ∧ ∀ (k'0 : Int32 → Int32 → Int32 → Int32 → Mem → Prop) (Q' : Int32 → Mem → Prop), Q' a0 M' → wX8_quickest_36 x1 k'0 Q' n1 v2 v3 v4 v5 v6 M) ∨ (∃ (a0 : Int32) (a1 : Int32) (a2 : Int32) (a3 : Int32) (M' : Mem), Fr (fun i k => 79 ≤ i) M M' ∧ k_27a a0 a1 a2 a3 M' ∧ k_27b a0 a1 a2 a3 M' ∧ ∀ (k'0 : Int32 → Int32 → Int32 → Int32 → Mem → Prop) (Q' : Int32 → Mem → Prop), k'0 a0 a1 a2 a3 M' → wX8_quickest_36 x1 k'0 Q' n1 v2 v3 v4 v5 v6 M) := by
  intro n1
  induction n1 with
  | zero => intro _ _ _ _ _ _ _ h1 _; exact h1.elim
  | succ n ih =>
    intro n2 v2 v3 v4 v5 v6 M h1 h2
    cases n2 with
    | zero => exact h2.elim
    | succ m =>
      have h1 : (vp_in (0 : Int32) (ln 81) ∧ (((M 81 (0 : Int32).toNatClampNeg) ≤ v6 → k_27a v2 v3 v4 (v5 + (1 : Int32)) M) ∧ (¬ (M 81 (0 : Int32).toNatClampNeg) ≤ v6 → (wX8_showsBy v5 v6 M (fun r6 M5 => ((r6 ≤ 0 → wX8_quickest_84 x1 (k_27a) (wX8_quickest_36 x1 k_27a Qa n) Qa v2 v3 v4 v5 v6 M5) ∧ (¬ r6 ≤ 0 → ((v4 < 0 → wX8_quickest_74 x1 (k_27a) (wX8_quickest_36 x1 k_27a Qa n) Qa v5 v6 r6 M5) ∧ (¬ v4 < 0 → ((v4 ≤ r6 → wX8_quickest_84 x1 (k_27a) (wX8_quickest_36 x1 k_27a Qa n) Qa v2 v3 v4 v5 v6 M5) ∧ (¬ v4 ≤ r6 → wX8_quickest_74 x1 (k_27a) (wX8_quickest_36 x1 k_27a Qa n) Qa v5 v6 r6 M5))))))))))) := h1
      have h2 : (vp_in (0 : Int32) (ln 81) ∧ (((M 81 (0 : Int32).toNatClampNeg) ≤ v6 → k_27b v2 v3 v4 (v5 + (1 : Int32)) M) ∧ (¬ (M 81 (0 : Int32).toNatClampNeg) ≤ v6 → (wX8_showsBy v5 v6 M (fun r6 M5 => ((r6 ≤ 0 → wX8_quickest_84 x1 (k_27b) (wX8_quickest_36 x1 k_27b Qb m) Qb v2 v3 v4 v5 v6 M5) ∧ (¬ r6 ≤ 0 → ((v4 < 0 → wX8_quickest_74 x1 (k_27b) (wX8_quickest_36 x1 k_27b Qb m) Qb v5 v6 r6 M5) ∧ (¬ v4 < 0 → ((v4 ≤ r6 → wX8_quickest_84 x1 (k_27b) (wX8_quickest_36 x1 k_27b Qb m) Qb v2 v3 v4 v5 v6 M5) ∧ (¬ v4 ≤ r6 → wX8_quickest_74 x1 (k_27b) (wX8_quickest_36 x1 k_27b Qb m) Qb v5 v6 r6 M5))))))))))) := h2
      have s1 := h1.1
      have h1 := h1.2
      have h2 := h2.2
      by_cases hc2 : (M 81 (0 : Int32).toNatClampNeg) ≤ v6
      · have h1 := h1.1 hc2
        have h2 := h2.1 hc2
        exact Or.inr ⟨v2, v3, v4, (v5 + (1 : Int32)), M, (Fr_refl (fun i k => 79 ≤ i) M), h1, h2, fun k'0 Q' hq => ⟨s1, ⟨fun _ => hq, fun z => absurd hc2 z⟩⟩⟩
      · have h1 := h1.2 hc2
        have h2 := h2.2 hc2
        obtain ⟨r6, M5, f3, h1, h2, b4⟩ := u_wX8_showsBy v5 v6 M h1 h2
        have g5 := Fr_tr (Fr_refl (fun i k => 79 ≤ i) M) f3 (fun i k (h : 79 ≤ i) => (show 79 ≤ i from by omega))
        by_cases hc6 : r6 ≤ 0
        · have h1 := h1.1 hc6
          have h2 := h2.1 hc6
          rcases u_wX8_quickest_84 x1 v2 v3 v4 v5 v6 M5 h1 h2 with ⟨c11, N12, f9, h1, h2, b10⟩ | ⟨c13, c14, c15, c16, N17, f9, h1, h2, b10⟩ | ⟨c18, c19, c20, c21, c22, N23, f9, h1, h2, b10⟩
          · have hf := Fr_ts g5 f9
            exact Or.inl ⟨c11, N12, hf, h1, h2, fun k'0 Q' hq => ⟨s1, ⟨fun z => absurd z hc2, fun _ => b4 _ ⟨fun _ => b10 _ _ _ hq, fun z => absurd hc6 z⟩⟩⟩⟩
          · have hf := Fr_ts g5 f9
            exact Or.inr ⟨c13, c14, c15, c16, N17, hf, h1, h2, fun k'0 Q' hq => ⟨s1, ⟨fun z => absurd z hc2, fun _ => b4 _ ⟨fun _ => b10 _ _ _ hq, fun z => absurd hc6 z⟩⟩⟩⟩
          · have hf := Fr_ts g5 f9
            rcases ih m c18 c19 c20 c21 c22 N23 h1 h2 with ⟨c26, N27, f24, h1, h2, b25⟩ | ⟨c28, c29, c30, c31, N32, f24, h1, h2, b25⟩
            · have hf := Fr_ts hf f24
              exact Or.inl ⟨c26, N27, hf, h1, h2, fun k'0 Q' hq => ⟨s1, ⟨fun z => absurd z hc2, fun _ => b4 _ ⟨fun _ => b10 _ _ _ (b25 _ _ hq), fun z => absurd hc6 z⟩⟩⟩⟩
            · have hf := Fr_ts hf f24
              exact Or.inr ⟨c28, c29, c30, c31, N32, hf, h1, h2, fun k'0 Q' hq => ⟨s1, ⟨fun z => absurd z hc2, fun _ => b4 _ ⟨fun _ => b10 _ _ _ (b25 _ _ hq), fun z => absurd hc6 z⟩⟩⟩⟩
        · have h1 := h1.2 hc6
          have h2 := h2.2 hc6
          by_cases hc33 : v4 < 0
          · have h1 := h1.1 hc33
            have h2 := h2.1 hc33
            rcases u_wX8_quickest_74 x1 v5 v6 r6 M5 h1 h2 with ⟨c38, N39, f36, h1, h2, b37⟩ | ⟨c40, c41, c42, c43, N44, f36, h1, h2, b37⟩ | ⟨c45, c46, c47, c48, c49, N50, f36, h1, h2, b37⟩
            · have hf := Fr_ts g5 f36
              exact Or.inl ⟨c38, N39, hf, h1, h2, fun k'0 Q' hq => ⟨s1, ⟨fun z => absurd z hc2, fun _ => b4 _ ⟨fun z => absurd z hc6, fun _ => ⟨fun _ => b37 _ _ _ hq, fun z => absurd hc33 z⟩⟩⟩⟩⟩
            · have hf := Fr_ts g5 f36
              exact Or.inr ⟨c40, c41, c42, c43, N44, hf, h1, h2, fun k'0 Q' hq => ⟨s1, ⟨fun z => absurd z hc2, fun _ => b4 _ ⟨fun z => absurd z hc6, fun _ => ⟨fun _ => b37 _ _ _ hq, fun z => absurd hc33 z⟩⟩⟩⟩⟩
            · have hf := Fr_ts g5 f36
              rcases ih m c45 c46 c47 c48 c49 N50 h1 h2 with ⟨c53, N54, f51, h1, h2, b52⟩ | ⟨c55, c56, c57, c58, N59, f51, h1, h2, b52⟩
              · have hf := Fr_ts hf f51
                exact Or.inl ⟨c53, N54, hf, h1, h2, fun k'0 Q' hq => ⟨s1, ⟨fun z => absurd z hc2, fun _ => b4 _ ⟨fun z => absurd z hc6, fun _ => ⟨fun _ => b37 _ _ _ (b52 _ _ hq), fun z => absurd hc33 z⟩⟩⟩⟩⟩
              · have hf := Fr_ts hf f51
                exact Or.inr ⟨c55, c56, c57, c58, N59, hf, h1, h2, fun k'0 Q' hq => ⟨s1, ⟨fun z => absurd z hc2, fun _ => b4 _ ⟨fun z => absurd z hc6, fun _ => ⟨fun _ => b37 _ _ _ (b52 _ _ hq), fun z => absurd hc33 z⟩⟩⟩⟩⟩
          · have h1 := h1.2 hc33
            have h2 := h2.2 hc33
            by_cases hc60 : v4 ≤ r6
            · have h1 := h1.1 hc60
              have h2 := h2.1 hc60
              rcases u_wX8_quickest_84 x1 v2 v3 v4 v5 v6 M5 h1 h2 with ⟨c65, N66, f63, h1, h2, b64⟩ | ⟨c67, c68, c69, c70, N71, f63, h1, h2, b64⟩ | ⟨c72, c73, c74, c75, c76, N77, f63, h1, h2, b64⟩
              · have hf := Fr_ts g5 f63
                exact Or.inl ⟨c65, N66, hf, h1, h2, fun k'0 Q' hq => ⟨s1, ⟨fun z => absurd z hc2, fun _ => b4 _ ⟨fun z => absurd z hc6, fun _ => ⟨fun z => absurd z hc33, fun _ => ⟨fun _ => b64 _ _ _ hq, fun z => absurd hc60 z⟩⟩⟩⟩⟩⟩
              · have hf := Fr_ts g5 f63
                exact Or.inr ⟨c67, c68, c69, c70, N71, hf, h1, h2, fun k'0 Q' hq => ⟨s1, ⟨fun z => absurd z hc2, fun _ => b4 _ ⟨fun z => absurd z hc6, fun _ => ⟨fun z => absurd z hc33, fun _ => ⟨fun _ => b64 _ _ _ hq, fun z => absurd hc60 z⟩⟩⟩⟩⟩⟩
              · have hf := Fr_ts g5 f63
                rcases ih m c72 c73 c74 c75 c76 N77 h1 h2 with ⟨c80, N81, f78, h1, h2, b79⟩ | ⟨c82, c83, c84, c85, N86, f78, h1, h2, b79⟩
                · have hf := Fr_ts hf f78
                  exact Or.inl ⟨c80, N81, hf, h1, h2, fun k'0 Q' hq => ⟨s1, ⟨fun z => absurd z hc2, fun _ => b4 _ ⟨fun z => absurd z hc6, fun _ => ⟨fun z => absurd z hc33, fun _ => ⟨fun _ => b64 _ _ _ (b79 _ _ hq), fun z => absurd hc60 z⟩⟩⟩⟩⟩⟩
                · have hf := Fr_ts hf f78
                  exact Or.inr ⟨c82, c83, c84, c85, N86, hf, h1, h2, fun k'0 Q' hq => ⟨s1, ⟨fun z => absurd z hc2, fun _ => b4 _ ⟨fun z => absurd z hc6, fun _ => ⟨fun z => absurd z hc33, fun _ => ⟨fun _ => b64 _ _ _ (b79 _ _ hq), fun z => absurd hc60 z⟩⟩⟩⟩⟩⟩
            · have h1 := h1.2 hc60
              have h2 := h2.2 hc60
              rcases u_wX8_quickest_74 x1 v5 v6 r6 M5 h1 h2 with ⟨c91, N92, f89, h1, h2, b90⟩ | ⟨c93, c94, c95, c96, N97, f89, h1, h2, b90⟩ | ⟨c98, c99, c100, c101, c102, N103, f89, h1, h2, b90⟩
              · have hf := Fr_ts g5 f89
                exact Or.inl ⟨c91, N92, hf, h1, h2, fun k'0 Q' hq => ⟨s1, ⟨fun z => absurd z hc2, fun _ => b4 _ ⟨fun z => absurd z hc6, fun _ => ⟨fun z => absurd z hc33, fun _ => ⟨fun z => absurd z hc60, fun _ => b90 _ _ _ hq⟩⟩⟩⟩⟩⟩
              · have hf := Fr_ts g5 f89
                exact Or.inr ⟨c93, c94, c95, c96, N97, hf, h1, h2, fun k'0 Q' hq => ⟨s1, ⟨fun z => absurd z hc2, fun _ => b4 _ ⟨fun z => absurd z hc6, fun _ => ⟨fun z => absurd z hc33, fun _ => ⟨fun z => absurd z hc60, fun _ => b90 _ _ _ hq⟩⟩⟩⟩⟩⟩
              · have hf := Fr_ts g5 f89
                rcases ih m c98 c99 c100 c101 c102 N103 h1 h2 with ⟨c106, N107, f104, h1, h2, b105⟩ | ⟨c108, c109, c110, c111, N112, f104, h1, h2, b105⟩
                · have hf := Fr_ts hf f104
                  exact Or.inl ⟨c106, N107, hf, h1, h2, fun k'0 Q' hq => ⟨s1, ⟨fun z => absurd z hc2, fun _ => b4 _ ⟨fun z => absurd z hc6, fun _ => ⟨fun z => absurd z hc33, fun _ => ⟨fun z => absurd z hc60, fun _ => b90 _ _ _ (b105 _ _ hq)⟩⟩⟩⟩⟩⟩
                · have hf := Fr_ts hf f104
                  exact Or.inr ⟨c108, c109, c110, c111, N112, hf, h1, h2, fun k'0 Q' hq => ⟨s1, ⟨fun z => absurd z hc2, fun _ => b4 _ ⟨fun z => absurd z hc6, fun _ => ⟨fun z => absurd z hc33, fun _ => ⟨fun z => absurd z hc60, fun _ => b90 _ _ _ (b105 _ _ hq)⟩⟩⟩⟩⟩⟩
set_option maxHeartbeats 4000000 in
theorem u_wX8_quickest_115 (x1 : Int32) {Qa Qb : Int32 → Mem → Prop} (s0 : Int32) (M : Mem) (h1 : wX8_quickest_115 x1 Qa s0 M) (h2 : wX8_quickest_115 x1 Qb s0 M) : (∃ (a0 : Int32) (M' : Mem), Fr (fun i k => 79 ≤ i) M M' ∧ Qa a0 M' ∧ Qb a0 M' ∧ ∀ (Q' : Int32 → Mem → Prop), Q' a0 M' → wX8_quickest_115 x1 Q' s0 M) := by
  have h1 : Qa s0 M := h1
  have h2 : Qb s0 M := h2
  exact ⟨s0, M, (Fr_refl (fun i k => 79 ≤ i) M), h1, h2, fun Q' hq => hq⟩
set_option maxHeartbeats 4000000 in
theorem u_wX8_quickest_27 (x1 : Int32) {Qa Qb : Int32 → Mem → Prop} : ∀ (n1 n2 : Nat) (v2 : Int32) (v3 : Int32) (v4 : Int32) (v5 : Int32) (M : Mem), wX8_quickest_27 x1 Qa n1 v2 v3 v4 v5 M → wX8_quickest_27 x1 Qb n2 v2 v3 v4 v5 M → (∃ (a0 : Int32) (M' : Mem), Fr (fun i k => 79 ≤ i) M M' ∧ Qa a0 M' ∧ Qb a0 M' ∧ ∀ (Q' : Int32 → Mem → Prop), Q' a0 M' → wX8_quickest_27 x1 Q' n1 v2 v3 v4 v5 M) := by
  intro n1
  induction n1 with
  | zero => intro _ _ _ _ _ _ h1 _; exact h1.elim
  | succ n ih =>
    intro n2 v2 v3 v4 v5 M h1 h2
    cases n2 with
    | zero => exact h2.elim
    | succ m =>
      have h1 : (((4 : Int32) ≤ v5 → ((¬ x1 = 0 → ((¬ x1 = (1 : Int32) → wX8_quickest_115 x1 Qa v4 M) ∧ (x1 = (1 : Int32) → wX8_quickest_115 x1 Qa v3 M))) ∧ (x1 = 0 → wX8_quickest_115 x1 Qa v2 M))) ∧ (¬ (4 : Int32) ≤ v5 → (∃ n4, wX8_quickest_36 x1 (wX8_quickest_27 x1 Qa n) Qa n4 v2 v3 v4 v5 (0 : Int32) M))) := h1
      have h2 : (((4 : Int32) ≤ v5 → ((¬ x1 = 0 → ((¬ x1 = (1 : Int32) → wX8_quickest_115 x1 Qb v4 M) ∧ (x1 = (1 : Int32) → wX8_quickest_115 x1 Qb v3 M))) ∧ (x1 = 0 → wX8_quickest_115 x1 Qb v2 M))) ∧ (¬ (4 : Int32) ≤ v5 → (∃ n4, wX8_quickest_36 x1 (wX8_quickest_27 x1 Qb m) Qb n4 v2 v3 v4 v5 (0 : Int32) M))) := h2
      by_cases hc1 : (4 : Int32) ≤ v5
      · have h1 := h1.1 hc1
        have h2 := h2.1 hc1
        by_cases hc2 : x1 = 0
        · have h1 := h1.2 hc2
          have h2 := h2.2 hc2
          obtain ⟨c7, N8, f5, h1, h2, b6⟩ := u_wX8_quickest_115 x1 v2 M h1 h2
          have hf := Fr_ts (Fr_refl (fun i k => 79 ≤ i) M) f5
          exact ⟨c7, N8, hf, h1, h2, fun Q' hq => ⟨fun _ => ⟨fun z => absurd hc2 z, fun _ => b6 _ hq⟩, fun z => absurd hc1 z⟩⟩
        · have h1 := h1.1 hc2
          have h2 := h2.1 hc2
          by_cases hc9 : x1 = (1 : Int32)
          · have h1 := h1.2 hc9
            have h2 := h2.2 hc9
            obtain ⟨c14, N15, f12, h1, h2, b13⟩ := u_wX8_quickest_115 x1 v3 M h1 h2
            have hf := Fr_ts (Fr_refl (fun i k => 79 ≤ i) M) f12
            exact ⟨c14, N15, hf, h1, h2, fun Q' hq => ⟨fun _ => ⟨fun _ => ⟨fun z => absurd hc9 z, fun _ => b13 _ hq⟩, fun z => absurd z hc2⟩, fun z => absurd hc1 z⟩⟩
          · have h1 := h1.1 hc9
            have h2 := h2.1 hc9
            obtain ⟨c20, N21, f18, h1, h2, b19⟩ := u_wX8_quickest_115 x1 v4 M h1 h2
            have hf := Fr_ts (Fr_refl (fun i k => 79 ≤ i) M) f18
            exact ⟨c20, N21, hf, h1, h2, fun Q' hq => ⟨fun _ => ⟨fun _ => ⟨fun _ => b19 _ hq, fun z => absurd z hc9⟩, fun z => absurd z hc2⟩, fun z => absurd hc1 z⟩⟩
      · have h1 := h1.2 hc1
        have h2 := h2.2 hc1
        obtain ⟨n4_a, h1⟩ := h1
        obtain ⟨n4_b, h2⟩ := h2
        rcases u_wX8_quickest_36 x1 n4_a n4_b v2 v3 v4 v5 (0 : Int32) M h1 h2 with ⟨c26, N27, f24, h1, h2, b25⟩ | ⟨c28, c29, c30, c31, N32, f24, h1, h2, b25⟩
        · have hf := Fr_ts (Fr_refl (fun i k => 79 ≤ i) M) f24
          exact ⟨c26, N27, hf, h1, h2, fun Q' hq => ⟨fun z => absurd z hc1, fun _ => ⟨n4_a, b25 _ _ hq⟩⟩⟩
        · have hf := Fr_ts (Fr_refl (fun i k => 79 ≤ i) M) f24
          obtain ⟨c35, N36, f33, h1, h2, b34⟩ := ih m c28 c29 c30 c31 N32 h1 h2
          have hf := Fr_ts hf f33
          exact ⟨c35, N36, hf, h1, h2, fun Q' hq => ⟨fun z => absurd z hc1, fun _ => ⟨n4_a, b25 _ _ (b34 _ hq)⟩⟩⟩
set_option maxHeartbeats 4000000 in
theorem u_wX8_quickest (x1 : Int32) {Qa Qb : Int32 → Mem → Prop} (M : Mem) (h1 : wX8_quickest x1 M Qa) (h2 : wX8_quickest x1 M Qb) : (∃ (a0 : Int32) (M' : Mem), Fr (fun i k => 79 ≤ i) M M' ∧ Qa a0 M' ∧ Qb a0 M' ∧ ∀ (Q' : Int32 → Mem → Prop), Q' a0 M' → wX8_quickest x1 M Q') := by
  have h1 : (wX8_in x1.toInt64 (0 : Int64) (2 : Int64) M (fun r2 M1 => ((¬ r2 = 0 → (∃ n3, wX8_quickest_27 x1 Qa n3 (-4 : Int32) (-4 : Int32) (-4 : Int32) (0 : Int32) M1)) ∧ (r2 = 0 → Qa (-1 : Int32) M1)))) := h1
  have h2 : (wX8_in x1.toInt64 (0 : Int64) (2 : Int64) M (fun r2 M1 => ((¬ r2 = 0 → (∃ n3, wX8_quickest_27 x1 Qb n3 (-4 : Int32) (-4 : Int32) (-4 : Int32) (0 : Int32) M1)) ∧ (r2 = 0 → Qb (-1 : Int32) M1)))) := h2
  obtain ⟨r2, M1, f1, h1, h2, b2⟩ := u_wX8_in x1.toInt64 (0 : Int64) (2 : Int64) M h1 h2
  have g3 := Fr_tr (Fr_refl (fun i k => 79 ≤ i) M) f1 (fun i k (h : False) => h.elim)
  by_cases hc4 : r2 = 0
  · have h1 := h1.2 hc4
    have h2 := h2.2 hc4
    exact ⟨(-1 : Int32), M1, g3, h1, h2, fun Q' hq => b2 _ ⟨fun z => absurd hc4 z, fun _ => hq⟩⟩
  · have h1 := h1.1 hc4
    have h2 := h2.1 hc4
    obtain ⟨n3_a, h1⟩ := h1
    obtain ⟨n3_b, h2⟩ := h2
    obtain ⟨c9, N10, f7, h1, h2, b8⟩ := u_wX8_quickest_27 x1 n3_a n3_b (-4 : Int32) (-4 : Int32) (-4 : Int32) (0 : Int32) M1 h1 h2
    have hf := Fr_ts g3 f7
    exact ⟨c9, N10, hf, h1, h2, fun Q' hq => b2 _ ⟨fun _ => ⟨n3_a, b8 _ hq⟩, fun z => absurd z hc4⟩⟩
set_option maxHeartbeats 4000000 in
theorem u_wX8_seen_34 (x1 : Int64) (x3 : Int32) (x4 : Int32) {Qa Qb : Int32 → Mem → Prop} (M : Mem) (h1 : wX8_seen_34 x1 x3 x4 Qa M) (h2 : wX8_seen_34 x1 x3 x4 Qb M) : (∃ (a0 : Int32) (M' : Mem), Fr (fun i k => 79 ≤ i) M M' ∧ Qa a0 M' ∧ Qb a0 M' ∧ ∀ (Q' : Int32 → Mem → Prop), Q' a0 M' → wX8_seen_34 x1 x3 x4 Q' M) := by
  have h1 : Qa (-1 : Int32) M := h1
  have h2 : Qb (-1 : Int32) M := h2
  exact ⟨(-1 : Int32), M, (Fr_refl (fun i k => 79 ≤ i) M), h1, h2, fun Q' hq => hq⟩
set_option maxHeartbeats 4000000 in
theorem u_wX8_seen (x1 : Int64) (x3 : Int32) (x4 : Int32) {Qa Qb : Int32 → Mem → Prop} (M : Mem) (h1 : wX8_seen x1 x3 x4 M Qa) (h2 : wX8_seen x1 x3 x4 M Qb) : (∃ (a0 : Int32) (M' : Mem), Fr (fun i k => 79 ≤ i) M M' ∧ Qa a0 M' ∧ Qb a0 M' ∧ ∀ (Q' : Int32 → Mem → Prop), Q' a0 M' → wX8_seen x1 x3 x4 M Q') := by
  have h1 : (wX8_isReader x1 M (fun r2 M1 => ((r2 = 0 → wX8_seen_34 x1 x3 x4 Qa M1) ∧ (¬ r2 = 0 → (vp_in (0 : Int32) (ln 82) ∧ (wX8_in x3.toInt64 (0 : Int64) (((M1 82 (0 : Int32).toNatClampNeg) - (1 : Int32)).toInt64) M1 (fun r4 M3 => ((r4 = 0 → wX8_seen_34 x1 x3 x4 Qa M3) ∧ (¬ r4 = 0 → (wX8_isLeaf x4 M3 (fun r6 M5 => ((¬ r6 = 0 → ((¬ (M5 79 15) = (12 : Int32) → (vp_in (M5 79 15) (ln 93) ∧ (vp_in ((muL M5 93 (M5 79 15).toNatClampNeg x1) 79 15) (ln 94) ∧ (vp_in ((mu (muL M5 93 (M5 79 15).toNatClampNeg x1) 94 ((muL M5 93 (M5 79 15).toNatClampNeg x1) 79 15).toNatClampNeg x3) 79 15) (ln 95) ∧ Qa ((mu (mu (mu (muL M5 93 (M5 79 15).toNatClampNeg x1) 94 ((muL M5 93 (M5 79 15).toNatClampNeg x1) 79 15).toNatClampNeg x3) 95 ((mu (muL M5 93 (M5 79 15).toNatClampNeg x1) 94 ((muL M5 93 (M5 79 15).toNatClampNeg x1) 79 15).toNatClampNeg x3) 79 15).toNatClampNeg x4) 79 15 (((mu (mu (muL M5 93 (M5 79 15).toNatClampNeg x1) 94 ((muL M5 93 (M5 79 15).toNatClampNeg x1) 79 15).toNatClampNeg x3) 95 ((mu (muL M5 93 (M5 79 15).toNatClampNeg x1) 94 ((muL M5 93 (M5 79 15).toNatClampNeg x1) 79 15).toNatClampNeg x3) 79 15).toNatClampNeg x4) 79 15) + (1 : Int32))) 79 15) (mu (mu (mu (muL M5 93 (M5 79 15).toNatClampNeg x1) 94 ((muL M5 93 (M5 79 15).toNatClampNeg x1) 79 15).toNatClampNeg x3) 95 ((mu (muL M5 93 (M5 79 15).toNatClampNeg x1) 94 ((muL M5 93 (M5 79 15).toNatClampNeg x1) 79 15).toNatClampNeg x3) 79 15).toNatClampNeg x4) 79 15 (((mu (mu (muL M5 93 (M5 79 15).toNatClampNeg x1) 94 ((muL M5 93 (M5 79 15).toNatClampNeg x1) 79 15).toNatClampNeg x3) 95 ((mu (muL M5 93 (M5 79 15).toNatClampNeg x1) 94 ((muL M5 93 (M5 79 15).toNatClampNeg x1) 79 15).toNatClampNeg x3) 79 15).toNatClampNeg x4) 79 15) + (1 : Int32))))))) ∧ ((M5 79 15) = (12 : Int32) → Qa (-3 : Int32) M5))) ∧ (r6 = 0 → wX8_seen_34 x1 x3 x4 Qa M5))))))))))))) := h1
  have h2 : (wX8_isReader x1 M (fun r2 M1 => ((r2 = 0 → wX8_seen_34 x1 x3 x4 Qb M1) ∧ (¬ r2 = 0 → (vp_in (0 : Int32) (ln 82) ∧ (wX8_in x3.toInt64 (0 : Int64) (((M1 82 (0 : Int32).toNatClampNeg) - (1 : Int32)).toInt64) M1 (fun r4 M3 => ((r4 = 0 → wX8_seen_34 x1 x3 x4 Qb M3) ∧ (¬ r4 = 0 → (wX8_isLeaf x4 M3 (fun r6 M5 => ((¬ r6 = 0 → ((¬ (M5 79 15) = (12 : Int32) → (vp_in (M5 79 15) (ln 93) ∧ (vp_in ((muL M5 93 (M5 79 15).toNatClampNeg x1) 79 15) (ln 94) ∧ (vp_in ((mu (muL M5 93 (M5 79 15).toNatClampNeg x1) 94 ((muL M5 93 (M5 79 15).toNatClampNeg x1) 79 15).toNatClampNeg x3) 79 15) (ln 95) ∧ Qb ((mu (mu (mu (muL M5 93 (M5 79 15).toNatClampNeg x1) 94 ((muL M5 93 (M5 79 15).toNatClampNeg x1) 79 15).toNatClampNeg x3) 95 ((mu (muL M5 93 (M5 79 15).toNatClampNeg x1) 94 ((muL M5 93 (M5 79 15).toNatClampNeg x1) 79 15).toNatClampNeg x3) 79 15).toNatClampNeg x4) 79 15 (((mu (mu (muL M5 93 (M5 79 15).toNatClampNeg x1) 94 ((muL M5 93 (M5 79 15).toNatClampNeg x1) 79 15).toNatClampNeg x3) 95 ((mu (muL M5 93 (M5 79 15).toNatClampNeg x1) 94 ((muL M5 93 (M5 79 15).toNatClampNeg x1) 79 15).toNatClampNeg x3) 79 15).toNatClampNeg x4) 79 15) + (1 : Int32))) 79 15) (mu (mu (mu (muL M5 93 (M5 79 15).toNatClampNeg x1) 94 ((muL M5 93 (M5 79 15).toNatClampNeg x1) 79 15).toNatClampNeg x3) 95 ((mu (muL M5 93 (M5 79 15).toNatClampNeg x1) 94 ((muL M5 93 (M5 79 15).toNatClampNeg x1) 79 15).toNatClampNeg x3) 79 15).toNatClampNeg x4) 79 15 (((mu (mu (muL M5 93 (M5 79 15).toNatClampNeg x1) 94 ((muL M5 93 (M5 79 15).toNatClampNeg x1) 79 15).toNatClampNeg x3) 95 ((mu (muL M5 93 (M5 79 15).toNatClampNeg x1) 94 ((muL M5 93 (M5 79 15).toNatClampNeg x1) 79 15).toNatClampNeg x3) 79 15).toNatClampNeg x4) 79 15) + (1 : Int32))))))) ∧ ((M5 79 15) = (12 : Int32) → Qb (-3 : Int32) M5))) ∧ (r6 = 0 → wX8_seen_34 x1 x3 x4 Qb M5))))))))))))) := h2
  obtain ⟨r2, M1, f1, h1, h2, b2⟩ := u_wX8_isReader x1 M h1 h2
  have g3 := Fr_tr (Fr_refl (fun i k => 79 ≤ i) M) f1 (fun i k (h : False) => h.elim)
  by_cases hc4 : r2 = 0
  · have h1 := h1.1 hc4
    have h2 := h2.1 hc4
    obtain ⟨c9, N10, f7, h1, h2, b8⟩ := u_wX8_seen_34 x1 x3 x4 M1 h1 h2
    have hf := Fr_ts g3 f7
    exact ⟨c9, N10, hf, h1, h2, fun Q' hq => b2 _ ⟨fun _ => b8 _ hq, fun z => absurd hc4 z⟩⟩
  · have h1 := h1.2 hc4
    have h2 := h2.2 hc4
    have s11 := h1.1
    have h1 := h1.2
    have h2 := h2.2
    obtain ⟨r4, M3, f12, h1, h2, b13⟩ := u_wX8_in x3.toInt64 (0 : Int64) (((M1 82 (0 : Int32).toNatClampNeg) - (1 : Int32)).toInt64) M1 h1 h2
    have g14 := Fr_tr g3 f12 (fun i k (h : False) => h.elim)
    by_cases hc15 : r4 = 0
    · have h1 := h1.1 hc15
      have h2 := h2.1 hc15
      obtain ⟨c20, N21, f18, h1, h2, b19⟩ := u_wX8_seen_34 x1 x3 x4 M3 h1 h2
      have hf := Fr_ts g14 f18
      exact ⟨c20, N21, hf, h1, h2, fun Q' hq => b2 _ ⟨fun z => absurd z hc4, fun _ => ⟨s11, b13 _ ⟨fun _ => b19 _ hq, fun z => absurd hc15 z⟩⟩⟩⟩
    · have h1 := h1.2 hc15
      have h2 := h2.2 hc15
      obtain ⟨r6, M5, f22, h1, h2, b23⟩ := u_wX8_isLeaf x4 M3 h1 h2
      have g24 := Fr_tr g14 f22 (fun i k (h : False) => h.elim)
      by_cases hc25 : r6 = 0
      · have h1 := h1.2 hc25
        have h2 := h2.2 hc25
        obtain ⟨c30, N31, f28, h1, h2, b29⟩ := u_wX8_seen_34 x1 x3 x4 M5 h1 h2
        have hf := Fr_ts g24 f28
        exact ⟨c30, N31, hf, h1, h2, fun Q' hq => b2 _ ⟨fun z => absurd z hc4, fun _ => ⟨s11, b13 _ ⟨fun z => absurd z hc15, fun _ => b23 _ ⟨fun z => absurd hc25 z, fun _ => b29 _ hq⟩⟩⟩⟩⟩
      · have h1 := h1.1 hc25
        have h2 := h2.1 hc25
        by_cases hc32 : (M5 79 15) = (12 : Int32)
        · have h1 := h1.2 hc32
          have h2 := h2.2 hc32
          exact ⟨(-3 : Int32), M5, g24, h1, h2, fun Q' hq => b2 _ ⟨fun z => absurd z hc4, fun _ => ⟨s11, b13 _ ⟨fun z => absurd z hc15, fun _ => b23 _ ⟨fun _ => ⟨fun z => absurd hc32 z, fun _ => hq⟩, fun z => absurd z hc25⟩⟩⟩⟩⟩
        · have h1 := h1.1 hc32
          have h2 := h2.1 hc32
          have s33 := h1.1
          have h1 := h1.2
          have h2 := h2.2
          have s34 := h1.1
          have h1 := h1.2
          have h2 := h2.2
          have s35 := h1.1
          have h1 := h1.2
          have h2 := h2.2
          exact ⟨((mu (mu (mu (muL M5 93 (M5 79 15).toNatClampNeg x1) 94 ((muL M5 93 (M5 79 15).toNatClampNeg x1) 79 15).toNatClampNeg x3) 95 ((mu (muL M5 93 (M5 79 15).toNatClampNeg x1) 94 ((muL M5 93 (M5 79 15).toNatClampNeg x1) 79 15).toNatClampNeg x3) 79 15).toNatClampNeg x4) 79 15 (((mu (mu (muL M5 93 (M5 79 15).toNatClampNeg x1) 94 ((muL M5 93 (M5 79 15).toNatClampNeg x1) 79 15).toNatClampNeg x3) 95 ((mu (muL M5 93 (M5 79 15).toNatClampNeg x1) 94 ((muL M5 93 (M5 79 15).toNatClampNeg x1) 79 15).toNatClampNeg x3) 79 15).toNatClampNeg x4) 79 15) + (1 : Int32))) 79 15), (mu (mu (mu (muL M5 93 (M5 79 15).toNatClampNeg x1) 94 ((muL M5 93 (M5 79 15).toNatClampNeg x1) 79 15).toNatClampNeg x3) 95 ((mu (muL M5 93 (M5 79 15).toNatClampNeg x1) 94 ((muL M5 93 (M5 79 15).toNatClampNeg x1) 79 15).toNatClampNeg x3) 79 15).toNatClampNeg x4) 79 15 (((mu (mu (muL M5 93 (M5 79 15).toNatClampNeg x1) 94 ((muL M5 93 (M5 79 15).toNatClampNeg x1) 79 15).toNatClampNeg x3) 95 ((mu (muL M5 93 (M5 79 15).toNatClampNeg x1) 94 ((muL M5 93 (M5 79 15).toNatClampNeg x1) 79 15).toNatClampNeg x3) 79 15).toNatClampNeg x4) 79 15) + (1 : Int32))), (Fr_mu (Fr_mu (Fr_mu (Fr_muL g24 (fun k => show 79 ≤ 93 from by omega)) (show 79 ≤ 94 from by omega)) (show 79 ≤ 95 from by omega)) (show 79 ≤ 79 from by omega)), h1, h2, fun Q' hq => b2 _ ⟨fun z => absurd z hc4, fun _ => ⟨s11, b13 _ ⟨fun z => absurd z hc15, fun _ => b23 _ ⟨fun _ => ⟨fun _ => ⟨s33, ⟨s34, ⟨s35, hq⟩⟩⟩, fun z => absurd z hc32⟩, fun z => absurd z hc25⟩⟩⟩⟩⟩
set_option maxHeartbeats 4000000 in
theorem u_wX8_forget {Qa Qb : Int32 → Mem → Prop} (M : Mem) (h1 : wX8_forget M Qa) (h2 : wX8_forget M Qb) : (∃ (a0 : Int32) (M' : Mem), Fr (fun i k => 79 ≤ i) M M' ∧ Qa a0 M' ∧ Qb a0 M' ∧ ∀ (Q' : Int32 → Mem → Prop), Q' a0 M' → wX8_forget M Q') := by
  have h1 : Qa (M 79 15) (mu M 79 15 (0 : Int32)) := h1
  have h2 : Qb (M 79 15) (mu M 79 15 (0 : Int32)) := h2
  exact ⟨(M 79 15), (mu M 79 15 (0 : Int32)), (Fr_mu (Fr_refl (fun i k => 79 ≤ i) M) (show 79 ≤ 79 from by omega)), h1, h2, fun Q' hq => hq⟩
set_option maxHeartbeats 4000000 in
theorem u_wX8_isSo_58 {k_8a k_8b : Int32 → Int32 → Mem → Prop} {Qa Qb : Int32 → Mem → Prop} (v2 : Int32) (s0 : Int32) (M : Mem) (h1 : wX8_isSo_58 k_8a Qa v2 s0 M) (h2 : wX8_isSo_58 k_8b Qb v2 s0 M) : (∃ (a0 : Int32) (M' : Mem), Fr (fun i k => 79 ≤ i) M M' ∧ Qa a0 M' ∧ Qb a0 M' ∧ ∀ (k'0 : Int32 → Int32 → Mem → Prop) (Q' : Int32 → Mem → Prop), Q' a0 M' → wX8_isSo_58 k'0 Q' v2 s0 M) ∨ (∃ (a0 : Int32) (a1 : Int32) (M' : Mem), Fr (fun i k => 79 ≤ i) M M' ∧ k_8a a0 a1 M' ∧ k_8b a0 a1 M' ∧ ∀ (k'0 : Int32 → Int32 → Mem → Prop) (Q' : Int32 → Mem → Prop), k'0 a0 a1 M' → wX8_isSo_58 k'0 Q' v2 s0 M) := by
  have h1 : k_8a s0 (v2 + (1 : Int32)) M := h1
  have h2 : k_8b s0 (v2 + (1 : Int32)) M := h2
  exact Or.inr ⟨s0, (v2 + (1 : Int32)), M, (Fr_refl (fun i k => 79 ≤ i) M), h1, h2, fun k'0 Q' hq => hq⟩
set_option maxHeartbeats 4000000 in
theorem u_wX8_isSo_57 {k_8a k_8b : Int32 → Int32 → Mem → Prop} {Qa Qb : Int32 → Mem → Prop} (v2 : Int32) (M : Mem) (h1 : wX8_isSo_57 k_8a Qa v2 M) (h2 : wX8_isSo_57 k_8b Qb v2 M) : (∃ (a0 : Int32) (M' : Mem), Fr (fun i k => 79 ≤ i) M M' ∧ Qa a0 M' ∧ Qb a0 M' ∧ ∀ (k'0 : Int32 → Int32 → Mem → Prop) (Q' : Int32 → Mem → Prop), Q' a0 M' → wX8_isSo_57 k'0 Q' v2 M) ∨ (∃ (a0 : Int32) (a1 : Int32) (M' : Mem), Fr (fun i k => 79 ≤ i) M M' ∧ k_8a a0 a1 M' ∧ k_8b a0 a1 M' ∧ ∀ (k'0 : Int32 → Int32 → Mem → Prop) (Q' : Int32 → Mem → Prop), k'0 a0 a1 M' → wX8_isSo_57 k'0 Q' v2 M) := by
  have h1 : wX8_isSo_58 (k_8a) Qa v2 (0 : Int32) M := h1
  have h2 : wX8_isSo_58 (k_8b) Qb v2 (0 : Int32) M := h2
  rcases u_wX8_isSo_58 v2 (0 : Int32) M h1 h2 with ⟨c5, N6, f3, h1, h2, b4⟩ | ⟨c7, c8, N9, f3, h1, h2, b4⟩
  · have hf := Fr_ts (Fr_refl (fun i k => 79 ≤ i) M) f3
    exact Or.inl ⟨c5, N6, hf, h1, h2, fun k'0 Q' hq => b4 _ _ hq⟩
  · have hf := Fr_ts (Fr_refl (fun i k => 79 ≤ i) M) f3
    exact Or.inr ⟨c7, c8, N9, hf, h1, h2, fun k'0 Q' hq => b4 _ _ hq⟩
set_option maxHeartbeats 4000000 in
theorem u_wX8_isSo_8 {Qa Qb : Int32 → Mem → Prop} : ∀ (n1 n2 : Nat) (v1 : Int32) (v2 : Int32) (M : Mem), wX8_isSo_8 Qa n1 v1 v2 M → wX8_isSo_8 Qb n2 v1 v2 M → (∃ (a0 : Int32) (M' : Mem), Fr (fun i k => 79 ≤ i) M M' ∧ Qa a0 M' ∧ Qb a0 M' ∧ ∀ (Q' : Int32 → Mem → Prop), Q' a0 M' → wX8_isSo_8 Q' n1 v1 v2 M) := by
  intro n1
  induction n1 with
  | zero => intro _ _ _ _ h1 _; exact h1.elim
  | succ n ih =>
    intro n2 v1 v2 M h1 h2
    cases n2 with
    | zero => exact h2.elim
    | succ m =>
      have h1 : (((M 79 15) ≤ v2 → ((v1 = 0 ∨ v1 = 1) ∧ Qa v1 M)) ∧ (¬ (M 79 15) ≤ v2 → (vp_in v2 (ln 93) ∧ (wX8_layPower (rdL M 93 v2.toNatClampNeg) M (fun M3 => (vp_in v2 (ln 94) ∧ (wX8_placeOf (M3 94 v2.toNatClampNeg) M3 (fun r5 M4 => (vp_in v2 (ln 95) ∧ (wX8_know r5 (M4 95 v2.toNatClampNeg) M4 (fun r7 M6 => ((r7 = 0 → wX8_isSo_57 (wX8_isSo_8 Qa n) Qa v2 M6) ∧ (¬ r7 = 0 → ((v1 = 0 → wX8_isSo_57 (wX8_isSo_8 Qa n) Qa v2 M6) ∧ (¬ v1 = 0 → wX8_isSo_58 (wX8_isSo_8 Qa n) Qa v2 (1 : Int32) M6))))))))))))))) := h1
      have h2 : (((M 79 15) ≤ v2 → ((v1 = 0 ∨ v1 = 1) ∧ Qb v1 M)) ∧ (¬ (M 79 15) ≤ v2 → (vp_in v2 (ln 93) ∧ (wX8_layPower (rdL M 93 v2.toNatClampNeg) M (fun M3 => (vp_in v2 (ln 94) ∧ (wX8_placeOf (M3 94 v2.toNatClampNeg) M3 (fun r5 M4 => (vp_in v2 (ln 95) ∧ (wX8_know r5 (M4 95 v2.toNatClampNeg) M4 (fun r7 M6 => ((r7 = 0 → wX8_isSo_57 (wX8_isSo_8 Qb m) Qb v2 M6) ∧ (¬ r7 = 0 → ((v1 = 0 → wX8_isSo_57 (wX8_isSo_8 Qb m) Qb v2 M6) ∧ (¬ v1 = 0 → wX8_isSo_58 (wX8_isSo_8 Qb m) Qb v2 (1 : Int32) M6))))))))))))))) := h2
      by_cases hc1 : (M 79 15) ≤ v2
      · have h1 := h1.1 hc1
        have h2 := h2.1 hc1
        have s2 := h1.1
        have h1 := h1.2
        have h2 := h2.2
        exact ⟨v1, M, (Fr_refl (fun i k => 79 ≤ i) M), h1, h2, fun Q' hq => ⟨fun _ => ⟨s2, hq⟩, fun z => absurd hc1 z⟩⟩
      · have h1 := h1.2 hc1
        have h2 := h2.2 hc1
        have s3 := h1.1
        have h1 := h1.2
        have h2 := h2.2
        obtain ⟨M3, f4, h1, h2, b5⟩ := u_wX8_layPower (rdL M 93 v2.toNatClampNeg) M h1 h2
        have g6 := Fr_tr (Fr_refl (fun i k => 79 ≤ i) M) f4 (fun i k (h : 79 ≤ i) => (show 79 ≤ i from by omega))
        have s7 := h1.1
        have h1 := h1.2
        have h2 := h2.2
        obtain ⟨r5, M4, f8, h1, h2, b9⟩ := u_wX8_placeOf (M3 94 v2.toNatClampNeg) M3 h1 h2
        have g10 := Fr_tr g6 f8 (fun i k (h : False) => h.elim)
        have s11 := h1.1
        have h1 := h1.2
        have h2 := h2.2
        obtain ⟨r7, M6, f12, h1, h2, b13⟩ := u_wX8_know r5 (M4 95 v2.toNatClampNeg) M4 h1 h2
        have g14 := Fr_tr g10 f12 (fun i k (h : 79 ≤ i) => (show 79 ≤ i from by omega))
        by_cases hc15 : r7 = 0
        · have h1 := h1.1 hc15
          have h2 := h2.1 hc15
          rcases u_wX8_isSo_57 v2 M6 h1 h2 with ⟨c20, N21, f18, h1, h2, b19⟩ | ⟨c22, c23, N24, f18, h1, h2, b19⟩
          · have hf := Fr_ts g14 f18
            exact ⟨c20, N21, hf, h1, h2, fun Q' hq => ⟨fun z => absurd z hc1, fun _ => ⟨s3, b5 _ ⟨s7, b9 _ ⟨s11, b13 _ ⟨fun _ => b19 _ _ hq, fun z => absurd hc15 z⟩⟩⟩⟩⟩⟩
          · have hf := Fr_ts g14 f18
            obtain ⟨c27, N28, f25, h1, h2, b26⟩ := ih m c22 c23 N24 h1 h2
            have hf := Fr_ts hf f25
            exact ⟨c27, N28, hf, h1, h2, fun Q' hq => ⟨fun z => absurd z hc1, fun _ => ⟨s3, b5 _ ⟨s7, b9 _ ⟨s11, b13 _ ⟨fun _ => b19 _ _ (b26 _ hq), fun z => absurd hc15 z⟩⟩⟩⟩⟩⟩
        · have h1 := h1.2 hc15
          have h2 := h2.2 hc15
          by_cases hc29 : v1 = 0
          · have h1 := h1.1 hc29
            have h2 := h2.1 hc29
            rcases u_wX8_isSo_57 v2 M6 h1 h2 with ⟨c34, N35, f32, h1, h2, b33⟩ | ⟨c36, c37, N38, f32, h1, h2, b33⟩
            · have hf := Fr_ts g14 f32
              exact ⟨c34, N35, hf, h1, h2, fun Q' hq => ⟨fun z => absurd z hc1, fun _ => ⟨s3, b5 _ ⟨s7, b9 _ ⟨s11, b13 _ ⟨fun z => absurd z hc15, fun _ => ⟨fun _ => b33 _ _ hq, fun z => absurd hc29 z⟩⟩⟩⟩⟩⟩⟩
            · have hf := Fr_ts g14 f32
              obtain ⟨c41, N42, f39, h1, h2, b40⟩ := ih m c36 c37 N38 h1 h2
              have hf := Fr_ts hf f39
              exact ⟨c41, N42, hf, h1, h2, fun Q' hq => ⟨fun z => absurd z hc1, fun _ => ⟨s3, b5 _ ⟨s7, b9 _ ⟨s11, b13 _ ⟨fun z => absurd z hc15, fun _ => ⟨fun _ => b33 _ _ (b40 _ hq), fun z => absurd hc29 z⟩⟩⟩⟩⟩⟩⟩
          · have h1 := h1.2 hc29
            have h2 := h2.2 hc29
            rcases u_wX8_isSo_58 v2 (1 : Int32) M6 h1 h2 with ⟨c47, N48, f45, h1, h2, b46⟩ | ⟨c49, c50, N51, f45, h1, h2, b46⟩
            · have hf := Fr_ts g14 f45
              exact ⟨c47, N48, hf, h1, h2, fun Q' hq => ⟨fun z => absurd z hc1, fun _ => ⟨s3, b5 _ ⟨s7, b9 _ ⟨s11, b13 _ ⟨fun z => absurd z hc15, fun _ => ⟨fun z => absurd z hc29, fun _ => b46 _ _ hq⟩⟩⟩⟩⟩⟩⟩
            · have hf := Fr_ts g14 f45
              obtain ⟨c54, N55, f52, h1, h2, b53⟩ := ih m c49 c50 N51 h1 h2
              have hf := Fr_ts hf f52
              exact ⟨c54, N55, hf, h1, h2, fun Q' hq => ⟨fun z => absurd z hc1, fun _ => ⟨s3, b5 _ ⟨s7, b9 _ ⟨s11, b13 _ ⟨fun z => absurd z hc15, fun _ => ⟨fun z => absurd z hc29, fun _ => b46 _ _ (b53 _ hq)⟩⟩⟩⟩⟩⟩⟩
set_option maxHeartbeats 4000000 in
theorem u_wX8_isSo {Qa Qb : Int32 → Mem → Prop} (M : Mem) (h1 : wX8_isSo M Qa) (h2 : wX8_isSo M Qb) : (∃ (a0 : Int32) (M' : Mem), Fr (fun i k => 79 ≤ i) M M' ∧ Qa a0 M' ∧ Qb a0 M' ∧ ∀ (Q' : Int32 → Mem → Prop), Q' a0 M' → wX8_isSo M Q') := by
  have h1 : (wX8_noOrder M (fun M1 => (∃ n2, wX8_isSo_8 Qa n2 (1 : Int32) (0 : Int32) M1))) := h1
  have h2 : (wX8_noOrder M (fun M1 => (∃ n2, wX8_isSo_8 Qb n2 (1 : Int32) (0 : Int32) M1))) := h2
  obtain ⟨M1, f1, h1, h2, b2⟩ := u_wX8_noOrder M h1 h2
  have g3 := Fr_tr (Fr_refl (fun i k => 79 ≤ i) M) f1 (fun i k (h : 79 ≤ i) => (show 79 ≤ i from by omega))
  obtain ⟨n2_a, h1⟩ := h1
  obtain ⟨n2_b, h2⟩ := h2
  obtain ⟨c8, N9, f6, h1, h2, b7⟩ := u_wX8_isSo_8 n2_a n2_b (1 : Int32) (0 : Int32) M1 h1 h2
  have hf := Fr_ts g3 f6
  exact ⟨c8, N9, hf, h1, h2, fun Q' hq => b2 _ ⟨n2_a, b7 _ hq⟩⟩
set_option maxHeartbeats 4000000 in
theorem u_wX8_so_12 {Qa Qb : Int32 → Mem → Prop} (s0 : Int32) (M : Mem) (h1 : wX8_so_12 Qa s0 M) (h2 : wX8_so_12 Qb s0 M) : (∃ (a0 : Int32) (M' : Mem), Fr (fun i k => 79 ≤ i) M M' ∧ Qa a0 M' ∧ Qb a0 M' ∧ ∀ (Q' : Int32 → Mem → Prop), Q' a0 M' → wX8_so_12 Q' s0 M) := by
  have h1 : Qa s0 M := h1
  have h2 : Qb s0 M := h2
  exact ⟨s0, M, (Fr_refl (fun i k => 79 ≤ i) M), h1, h2, fun Q' hq => hq⟩
set_option maxHeartbeats 4000000 in
theorem u_wX8_so {Qa Qb : Int32 → Mem → Prop} (M : Mem) (h1 : wX8_so M Qa) (h2 : wX8_so M Qb) : (∃ (a0 : Int32) (M' : Mem), Fr (fun i k => 79 ≤ i) M M' ∧ Qa a0 M' ∧ Qb a0 M' ∧ ∀ (Q' : Int32 → Mem → Prop), Q' a0 M' → wX8_so M Q') := by
  have h1 : (wX8_isSo M (fun r2 M1 => ((r2 = 0 → wX8_so_12 Qa (0 : Int32) M1) ∧ (¬ r2 = 0 → wX8_so_12 Qa (1 : Int32) M1)))) := h1
  have h2 : (wX8_isSo M (fun r2 M1 => ((r2 = 0 → wX8_so_12 Qb (0 : Int32) M1) ∧ (¬ r2 = 0 → wX8_so_12 Qb (1 : Int32) M1)))) := h2
  obtain ⟨r2, M1, f1, h1, h2, b2⟩ := u_wX8_isSo M h1 h2
  have g3 := Fr_tr (Fr_refl (fun i k => 79 ≤ i) M) f1 (fun i k (h : 79 ≤ i) => (show 79 ≤ i from by omega))
  by_cases hc4 : r2 = 0
  · have h1 := h1.1 hc4
    have h2 := h2.1 hc4
    obtain ⟨c9, N10, f7, h1, h2, b8⟩ := u_wX8_so_12 (0 : Int32) M1 h1 h2
    have hf := Fr_ts g3 f7
    exact ⟨c9, N10, hf, h1, h2, fun Q' hq => b2 _ ⟨fun _ => b8 _ hq, fun z => absurd hc4 z⟩⟩
  · have h1 := h1.2 hc4
    have h2 := h2.2 hc4
    obtain ⟨c15, N16, f13, h1, h2, b14⟩ := u_wX8_so_12 (1 : Int32) M1 h1 h2
    have hf := Fr_ts g3 f13
    exact ⟨c15, N16, hf, h1, h2, fun Q' hq => b2 _ ⟨fun z => absurd z hc4, fun _ => b14 _ hq⟩⟩
set_option maxHeartbeats 4000000 in
theorem u_wX8_sure_44 (x1 : Int32) {Qa Qb : Int32 → Mem → Prop} (M : Mem) (h1 : wX8_sure_44 x1 Qa M) (h2 : wX8_sure_44 x1 Qb M) : (∃ (a0 : Int32) (M' : Mem), Fr (fun i k => 79 ≤ i) M M' ∧ Qa a0 M' ∧ Qb a0 M' ∧ ∀ (Q' : Int32 → Mem → Prop), Q' a0 M' → wX8_sure_44 x1 Q' M) := by
  have h1 : (vp_in x1 (ln 103) ∧ Qa (M 103 x1.toNatClampNeg) M) := h1
  have h2 : (vp_in x1 (ln 103) ∧ Qb (M 103 x1.toNatClampNeg) M) := h2
  have s1 := h1.1
  have h1 := h1.2
  have h2 := h2.2
  exact ⟨(M 103 x1.toNatClampNeg), M, (Fr_refl (fun i k => 79 ≤ i) M), h1, h2, fun Q' hq => ⟨s1, hq⟩⟩
set_option maxHeartbeats 4000000 in
theorem u_wX8_sure_53 (x1 : Int32) {Qa Qb : Int32 → Mem → Prop} : ∀ (n1 n2 : Nat) (v2 : Int32) (M : Mem), wX8_sure_53 x1 Qa n1 v2 M → wX8_sure_53 x1 Qb n2 v2 M → (∃ (a0 : Int32) (M' : Mem), Fr (fun i k => 79 ≤ i) M M' ∧ Qa a0 M' ∧ Qb a0 M' ∧ ∀ (Q' : Int32 → Mem → Prop), Q' a0 M' → wX8_sure_53 x1 Q' n1 v2 M) := by
  intro n1
  induction n1 with
  | zero => intro _ _ _ h1 _; exact h1.elim
  | succ n ih =>
    intro n2 v2 M h1 h2
    cases n2 with
    | zero => exact h2.elim
    | succ m =>
      have h1 : (vp_in v2 (ln 104) ∧ (((M 104 v2.toNatClampNeg) < 0 → Qa v2 M) ∧ (¬ (M 104 v2.toNatClampNeg) < 0 → wX8_sure_53 x1 Qa n (v2 + (1 : Int32)) M))) := h1
      have h2 : (vp_in v2 (ln 104) ∧ (((M 104 v2.toNatClampNeg) < 0 → Qb v2 M) ∧ (¬ (M 104 v2.toNatClampNeg) < 0 → wX8_sure_53 x1 Qb m (v2 + (1 : Int32)) M))) := h2
      have s1 := h1.1
      have h1 := h1.2
      have h2 := h2.2
      by_cases hc2 : (M 104 v2.toNatClampNeg) < 0
      · have h1 := h1.1 hc2
        have h2 := h2.1 hc2
        exact ⟨v2, M, (Fr_refl (fun i k => 79 ≤ i) M), h1, h2, fun Q' hq => ⟨s1, ⟨fun _ => hq, fun z => absurd hc2 z⟩⟩⟩
      · have h1 := h1.2 hc2
        have h2 := h2.2 hc2
        obtain ⟨c7, N8, f5, h1, h2, b6⟩ := ih m (v2 + (1 : Int32)) M h1 h2
        have hf := Fr_ts (Fr_refl (fun i k => 79 ≤ i) M) f5
        exact ⟨c7, N8, hf, h1, h2, fun Q' hq => ⟨s1, ⟨fun z => absurd z hc2, fun _ => b6 _ hq⟩⟩⟩
set_option maxHeartbeats 4000000 in
theorem u_wX8_sure (x1 : Int32) {Qa Qb : Int32 → Mem → Prop} (M : Mem) (h1 : wX8_sure x1 M Qa) (h2 : wX8_sure x1 M Qb) : (∃ (a0 : Int32) (M' : Mem), Fr (fun i k => 79 ≤ i) M M' ∧ Qa a0 M' ∧ Qb a0 M' ∧ ∀ (Q' : Int32 → Mem → Prop), Q' a0 M' → wX8_sure x1 M Q') := by
  have h1 : (wX8_isLeaf x1 M (fun r2 M1 => ((¬ r2 = 0 → (wX8_isSo M1 (fun r4 M3 => ((¬ r4 = 0 → (vp_in x1 (ln 103) ∧ ((0 ≤ (M3 103 x1.toNatClampNeg) → wX8_sure_44 x1 Qa M3) ∧ (¬ 0 ≤ (M3 103 x1.toNatClampNeg) → (vp_in (0 : Int32) (ln 81) ∧ ((((M3 81 (0 : Int32).toNatClampNeg) - (1 : Int32)) ≤ (M3 79 29) → (∃ n5, wX8_sure_53 x1 Qa n5 (0 : Int32) M3)) ∧ (¬ ((M3 81 (0 : Int32).toNatClampNeg) - (1 : Int32)) ≤ (M3 79 29) → wX8_sure_44 x1 Qa M3))))))) ∧ (r4 = 0 → Qa (-4 : Int32) M3))))) ∧ (r2 = 0 → Qa (-1 : Int32) M1)))) := h1
  have h2 : (wX8_isLeaf x1 M (fun r2 M1 => ((¬ r2 = 0 → (wX8_isSo M1 (fun r4 M3 => ((¬ r4 = 0 → (vp_in x1 (ln 103) ∧ ((0 ≤ (M3 103 x1.toNatClampNeg) → wX8_sure_44 x1 Qb M3) ∧ (¬ 0 ≤ (M3 103 x1.toNatClampNeg) → (vp_in (0 : Int32) (ln 81) ∧ ((((M3 81 (0 : Int32).toNatClampNeg) - (1 : Int32)) ≤ (M3 79 29) → (∃ n5, wX8_sure_53 x1 Qb n5 (0 : Int32) M3)) ∧ (¬ ((M3 81 (0 : Int32).toNatClampNeg) - (1 : Int32)) ≤ (M3 79 29) → wX8_sure_44 x1 Qb M3))))))) ∧ (r4 = 0 → Qb (-4 : Int32) M3))))) ∧ (r2 = 0 → Qb (-1 : Int32) M1)))) := h2
  obtain ⟨r2, M1, f1, h1, h2, b2⟩ := u_wX8_isLeaf x1 M h1 h2
  have g3 := Fr_tr (Fr_refl (fun i k => 79 ≤ i) M) f1 (fun i k (h : False) => h.elim)
  by_cases hc4 : r2 = 0
  · have h1 := h1.2 hc4
    have h2 := h2.2 hc4
    exact ⟨(-1 : Int32), M1, g3, h1, h2, fun Q' hq => b2 _ ⟨fun z => absurd hc4 z, fun _ => hq⟩⟩
  · have h1 := h1.1 hc4
    have h2 := h2.1 hc4
    obtain ⟨r4, M3, f5, h1, h2, b6⟩ := u_wX8_isSo M1 h1 h2
    have g7 := Fr_tr g3 f5 (fun i k (h : 79 ≤ i) => (show 79 ≤ i from by omega))
    by_cases hc8 : r4 = 0
    · have h1 := h1.2 hc8
      have h2 := h2.2 hc8
      exact ⟨(-4 : Int32), M3, g7, h1, h2, fun Q' hq => b2 _ ⟨fun _ => b6 _ ⟨fun z => absurd hc8 z, fun _ => hq⟩, fun z => absurd z hc4⟩⟩
    · have h1 := h1.1 hc8
      have h2 := h2.1 hc8
      have s9 := h1.1
      have h1 := h1.2
      have h2 := h2.2
      by_cases hc10 : 0 ≤ (M3 103 x1.toNatClampNeg)
      · have h1 := h1.1 hc10
        have h2 := h2.1 hc10
        obtain ⟨c15, N16, f13, h1, h2, b14⟩ := u_wX8_sure_44 x1 M3 h1 h2
        have hf := Fr_ts g7 f13
        exact ⟨c15, N16, hf, h1, h2, fun Q' hq => b2 _ ⟨fun _ => b6 _ ⟨fun _ => ⟨s9, ⟨fun _ => b14 _ hq, fun z => absurd hc10 z⟩⟩, fun z => absurd z hc8⟩, fun z => absurd z hc4⟩⟩
      · have h1 := h1.2 hc10
        have h2 := h2.2 hc10
        have s17 := h1.1
        have h1 := h1.2
        have h2 := h2.2
        by_cases hc18 : ((M3 81 (0 : Int32).toNatClampNeg) - (1 : Int32)) ≤ (M3 79 29)
        · have h1 := h1.1 hc18
          have h2 := h2.1 hc18
          obtain ⟨n5_a, h1⟩ := h1
          obtain ⟨n5_b, h2⟩ := h2
          obtain ⟨c23, N24, f21, h1, h2, b22⟩ := u_wX8_sure_53 x1 n5_a n5_b (0 : Int32) M3 h1 h2
          have hf := Fr_ts g7 f21
          exact ⟨c23, N24, hf, h1, h2, fun Q' hq => b2 _ ⟨fun _ => b6 _ ⟨fun _ => ⟨s9, ⟨fun z => absurd z hc10, fun _ => ⟨s17, ⟨fun _ => ⟨n5_a, b22 _ hq⟩, fun z => absurd hc18 z⟩⟩⟩⟩, fun z => absurd z hc8⟩, fun z => absurd z hc4⟩⟩
        · have h1 := h1.2 hc18
          have h2 := h2.2 hc18
          obtain ⟨c29, N30, f27, h1, h2, b28⟩ := u_wX8_sure_44 x1 M3 h1 h2
          have hf := Fr_ts g7 f27
          exact ⟨c29, N30, hf, h1, h2, fun Q' hq => b2 _ ⟨fun _ => b6 _ ⟨fun _ => ⟨s9, ⟨fun z => absurd z hc10, fun _ => ⟨s17, ⟨fun z => absurd z hc18, fun _ => b28 _ hq⟩⟩⟩⟩, fun z => absurd z hc8⟩, fun z => absurd z hc4⟩⟩
set_option maxHeartbeats 4000000 in
theorem u_wX8_lacks_18 (x1 : Int32) (x2 : Int32) {Qa Qb : Int32 → Mem → Prop} (M : Mem) (h1 : wX8_lacks_18 x1 x2 Qa M) (h2 : wX8_lacks_18 x1 x2 Qb M) : (∃ (a0 : Int32) (M' : Mem), Fr (fun i k => 79 ≤ i) M M' ∧ Qa a0 M' ∧ Qb a0 M' ∧ ∀ (Q' : Int32 → Mem → Prop), Q' a0 M' → wX8_lacks_18 x1 x2 Q' M) := by
  have h1 : Qa (-1 : Int32) M := h1
  have h2 : Qb (-1 : Int32) M := h2
  exact ⟨(-1 : Int32), M, (Fr_refl (fun i k => 79 ≤ i) M), h1, h2, fun Q' hq => hq⟩
set_option maxHeartbeats 4000000 in
theorem u_wX8_lacks_79 (x1 : Int32) (x2 : Int32) {Qa Qb : Int32 → Mem → Prop} (s0 : Int32) (M : Mem) (h1 : wX8_lacks_79 x1 x2 Qa s0 M) (h2 : wX8_lacks_79 x1 x2 Qb s0 M) : (∃ (a0 : Int32) (M' : Mem), Fr (fun i k => 79 ≤ i) M M' ∧ Qa a0 M' ∧ Qb a0 M' ∧ ∀ (Q' : Int32 → Mem → Prop), Q' a0 M' → wX8_lacks_79 x1 x2 Q' s0 M) := by
  have h1 : Qa s0 M := h1
  have h2 : Qb s0 M := h2
  exact ⟨s0, M, (Fr_refl (fun i k => 79 ≤ i) M), h1, h2, fun Q' hq => hq⟩
set_option maxHeartbeats 4000000 in
theorem u_wX8_lacks_42 (x1 : Int32) (x2 : Int32) {k_33a k_33b : Int32 → Int32 → Mem → Prop} {Qa Qb : Int32 → Mem → Prop} : ∀ (n1 n2 : Nat) (v3 : Int32) (v4 : Int32) (v5 : Int32) (M : Mem), wX8_lacks_42 x1 x2 k_33a Qa n1 v3 v4 v5 M → wX8_lacks_42 x1 x2 k_33b Qb n2 v3 v4 v5 M → (∃ (a0 : Int32) (M' : Mem), Fr (fun i k => 79 ≤ i) M M' ∧ Qa a0 M' ∧ Qb a0 M' ∧ ∀ (k'0 : Int32 → Int32 → Mem → Prop) (Q' : Int32 → Mem → Prop), Q' a0 M' → wX8_lacks_42 x1 x2 k'0 Q' n1 v3 v4 v5 M) ∨ (∃ (a0 : Int32) (a1 : Int32) (M' : Mem), Fr (fun i k => 79 ≤ i) M M' ∧ k_33a a0 a1 M' ∧ k_33b a0 a1 M' ∧ ∀ (k'0 : Int32 → Int32 → Mem → Prop) (Q' : Int32 → Mem → Prop), k'0 a0 a1 M' → wX8_lacks_42 x1 x2 k'0 Q' n1 v3 v4 v5 M) := by
  intro n1
  induction n1 with
  | zero => intro _ _ _ _ _ h1 _; exact h1.elim
  | succ n ih =>
    intro n2 v3 v4 v5 M h1 h2
    cases n2 with
    | zero => exact h2.elim
    | succ m =>
      have h1 : (vp_in (0 : Int32) (ln 82) ∧ (((M 82 (0 : Int32).toNatClampNeg) ≤ v5 → (wX8_put 100 99 M (fun M10 => k_33a v3 (v4 + (1 : Int32)) M10))) ∧ (¬ (M 82 (0 : Int32).toNatClampNeg) ≤ v5 → (wX8_placeOf v5 M (fun r12 M11 => (vp_in r12 (ln 89) ∧ ((¬ (M11 89 r12.toNatClampNeg) = x1 → wX8_lacks_42 x1 x2 k_33a Qa n v3 v4 (v5 + (1 : Int32)) M11) ∧ ((M11 89 r12.toNatClampNeg) = x1 → ((¬ x2 = 0 → wX8_lacks_79 x1 x2 Qa v5 M11) ∧ (x2 = 0 → wX8_lacks_79 x1 x2 Qa v4 M11)))))))))) := h1
      have h2 : (vp_in (0 : Int32) (ln 82) ∧ (((M 82 (0 : Int32).toNatClampNeg) ≤ v5 → (wX8_put 100 99 M (fun M10 => k_33b v3 (v4 + (1 : Int32)) M10))) ∧ (¬ (M 82 (0 : Int32).toNatClampNeg) ≤ v5 → (wX8_placeOf v5 M (fun r12 M11 => (vp_in r12 (ln 89) ∧ ((¬ (M11 89 r12.toNatClampNeg) = x1 → wX8_lacks_42 x1 x2 k_33b Qb m v3 v4 (v5 + (1 : Int32)) M11) ∧ ((M11 89 r12.toNatClampNeg) = x1 → ((¬ x2 = 0 → wX8_lacks_79 x1 x2 Qb v5 M11) ∧ (x2 = 0 → wX8_lacks_79 x1 x2 Qb v4 M11)))))))))) := h2
      have s1 := h1.1
      have h1 := h1.2
      have h2 := h2.2
      by_cases hc2 : (M 82 (0 : Int32).toNatClampNeg) ≤ v5
      · have h1 := h1.1 hc2
        have h2 := h2.1 hc2
        obtain ⟨M10, f3, h1, h2, b4⟩ := u_wX8_put 100 99 M h1 h2
        have g5 := Fr_tr (Fr_refl (fun i k => 79 ≤ i) M) f3 (fun i k (h : 79 ≤ i ∨ i = 100 ∨ i = 99) => (show 79 ≤ i from by omega))
        exact Or.inr ⟨v3, (v4 + (1 : Int32)), M10, g5, h1, h2, fun k'0 Q' hq => ⟨s1, ⟨fun _ => b4 _ hq, fun z => absurd hc2 z⟩⟩⟩
      · have h1 := h1.2 hc2
        have h2 := h2.2 hc2
        obtain ⟨r12, M11, f6, h1, h2, b7⟩ := u_wX8_placeOf v5 M h1 h2
        have g8 := Fr_tr (Fr_refl (fun i k => 79 ≤ i) M) f6 (fun i k (h : False) => h.elim)
        have s9 := h1.1
        have h1 := h1.2
        have h2 := h2.2
        by_cases hc10 : (M11 89 r12.toNatClampNeg) = x1
        · have h1 := h1.2 hc10
          have h2 := h2.2 hc10
          by_cases hc11 : x2 = 0
          · have h1 := h1.2 hc11
            have h2 := h2.2 hc11
            obtain ⟨c16, N17, f14, h1, h2, b15⟩ := u_wX8_lacks_79 x1 x2 v4 M11 h1 h2
            have hf := Fr_ts g8 f14
            exact Or.inl ⟨c16, N17, hf, h1, h2, fun k'0 Q' hq => ⟨s1, ⟨fun z => absurd z hc2, fun _ => b7 _ ⟨s9, ⟨fun z => absurd hc10 z, fun _ => ⟨fun z => absurd hc11 z, fun _ => b15 _ hq⟩⟩⟩⟩⟩⟩
          · have h1 := h1.1 hc11
            have h2 := h2.1 hc11
            obtain ⟨c22, N23, f20, h1, h2, b21⟩ := u_wX8_lacks_79 x1 x2 v5 M11 h1 h2
            have hf := Fr_ts g8 f20
            exact Or.inl ⟨c22, N23, hf, h1, h2, fun k'0 Q' hq => ⟨s1, ⟨fun z => absurd z hc2, fun _ => b7 _ ⟨s9, ⟨fun z => absurd hc10 z, fun _ => ⟨fun _ => b21 _ hq, fun z => absurd z hc11⟩⟩⟩⟩⟩⟩
        · have h1 := h1.1 hc10
          have h2 := h2.1 hc10
          rcases ih m v3 v4 (v5 + (1 : Int32)) M11 h1 h2 with ⟨c28, N29, f26, h1, h2, b27⟩ | ⟨c30, c31, N32, f26, h1, h2, b27⟩
          · have hf := Fr_ts g8 f26
            exact Or.inl ⟨c28, N29, hf, h1, h2, fun k'0 Q' hq => ⟨s1, ⟨fun z => absurd z hc2, fun _ => b7 _ ⟨s9, ⟨fun _ => b27 _ _ hq, fun z => absurd z hc10⟩⟩⟩⟩⟩
          · have hf := Fr_ts g8 f26
            exact Or.inr ⟨c30, c31, N32, hf, h1, h2, fun k'0 Q' hq => ⟨s1, ⟨fun z => absurd z hc2, fun _ => b7 _ ⟨s9, ⟨fun _ => b27 _ _ hq, fun z => absurd z hc10⟩⟩⟩⟩⟩
set_option maxHeartbeats 4000000 in
theorem u_wX8_lacks_33 (x1 : Int32) (x2 : Int32) {Qa Qb : Int32 → Mem → Prop} : ∀ (n1 n2 : Nat) (v3 : Int32) (v4 : Int32) (M : Mem), wX8_lacks_33 x1 x2 Qa n1 v3 v4 M → wX8_lacks_33 x1 x2 Qb n2 v3 v4 M → (∃ (a0 : Int32) (M' : Mem), Fr (fun i k => 79 ≤ i) M M' ∧ Qa a0 M' ∧ Qb a0 M' ∧ ∀ (Q' : Int32 → Mem → Prop), Q' a0 M' → wX8_lacks_33 x1 x2 Q' n1 v3 v4 M) := by
  intro n1
  induction n1 with
  | zero => intro _ _ _ _ h1 _; exact h1.elim
  | succ n ih =>
    intro n2 v3 v4 M h1 h2
    cases n2 with
    | zero => exact h2.elim
    | succ m =>
      have h1 : ((v3 ≤ v4 → Qa (-4 : Int32) M) ∧ (¬ v3 ≤ v4 → (∃ n9, wX8_lacks_42 x1 x2 (wX8_lacks_33 x1 x2 Qa n) Qa n9 v3 v4 (0 : Int32) M))) := h1
      have h2 : ((v3 ≤ v4 → Qb (-4 : Int32) M) ∧ (¬ v3 ≤ v4 → (∃ n9, wX8_lacks_42 x1 x2 (wX8_lacks_33 x1 x2 Qb m) Qb n9 v3 v4 (0 : Int32) M))) := h2
      by_cases hc1 : v3 ≤ v4
      · have h1 := h1.1 hc1
        have h2 := h2.1 hc1
        exact ⟨(-4 : Int32), M, (Fr_refl (fun i k => 79 ≤ i) M), h1, h2, fun Q' hq => ⟨fun _ => hq, fun z => absurd hc1 z⟩⟩
      · have h1 := h1.2 hc1
        have h2 := h2.2 hc1
        obtain ⟨n9_a, h1⟩ := h1
        obtain ⟨n9_b, h2⟩ := h2
        rcases u_wX8_lacks_42 x1 x2 n9_a n9_b v3 v4 (0 : Int32) M h1 h2 with ⟨c6, N7, f4, h1, h2, b5⟩ | ⟨c8, c9, N10, f4, h1, h2, b5⟩
        · have hf := Fr_ts (Fr_refl (fun i k => 79 ≤ i) M) f4
          exact ⟨c6, N7, hf, h1, h2, fun Q' hq => ⟨fun z => absurd z hc1, fun _ => ⟨n9_a, b5 _ _ hq⟩⟩⟩
        · have hf := Fr_ts (Fr_refl (fun i k => 79 ≤ i) M) f4
          obtain ⟨c13, N14, f11, h1, h2, b12⟩ := ih m c8 c9 N10 h1 h2
          have hf := Fr_ts hf f11
          exact ⟨c13, N14, hf, h1, h2, fun Q' hq => ⟨fun z => absurd z hc1, fun _ => ⟨n9_a, b5 _ _ (b12 _ hq)⟩⟩⟩
set_option maxHeartbeats 4000000 in
theorem u_wX8_lacks (x1 : Int32) (x2 : Int32) {Qa Qb : Int32 → Mem → Prop} (M : Mem) (h1 : wX8_lacks x1 x2 M Qa) (h2 : wX8_lacks x1 x2 M Qb) : (∃ (a0 : Int32) (M' : Mem), Fr (fun i k => 79 ≤ i) M M' ∧ Qa a0 M' ∧ Qb a0 M' ∧ ∀ (Q' : Int32 → Mem → Prop), Q' a0 M' → wX8_lacks x1 x2 M Q') := by
  have h1 : (wX8_isLeaf x1 M (fun r2 M1 => ((r2 = 0 → wX8_lacks_18 x1 x2 Qa M1) ∧ (¬ r2 = 0 → (wX8_in x2.toInt64 (0 : Int64) (1 : Int64) M1 (fun r4 M3 => ((¬ r4 = 0 → (wX8_period M3 (fun r6 M5 => (wX8_layPower (0 : Int64) M5 (fun M7 => (∃ n8, wX8_lacks_33 x1 x2 Qa n8 r6 (0 : Int32) M7)))))) ∧ (r4 = 0 → wX8_lacks_18 x1 x2 Qa M3)))))))) := h1
  have h2 : (wX8_isLeaf x1 M (fun r2 M1 => ((r2 = 0 → wX8_lacks_18 x1 x2 Qb M1) ∧ (¬ r2 = 0 → (wX8_in x2.toInt64 (0 : Int64) (1 : Int64) M1 (fun r4 M3 => ((¬ r4 = 0 → (wX8_period M3 (fun r6 M5 => (wX8_layPower (0 : Int64) M5 (fun M7 => (∃ n8, wX8_lacks_33 x1 x2 Qb n8 r6 (0 : Int32) M7)))))) ∧ (r4 = 0 → wX8_lacks_18 x1 x2 Qb M3)))))))) := h2
  obtain ⟨r2, M1, f1, h1, h2, b2⟩ := u_wX8_isLeaf x1 M h1 h2
  have g3 := Fr_tr (Fr_refl (fun i k => 79 ≤ i) M) f1 (fun i k (h : False) => h.elim)
  by_cases hc4 : r2 = 0
  · have h1 := h1.1 hc4
    have h2 := h2.1 hc4
    obtain ⟨c9, N10, f7, h1, h2, b8⟩ := u_wX8_lacks_18 x1 x2 M1 h1 h2
    have hf := Fr_ts g3 f7
    exact ⟨c9, N10, hf, h1, h2, fun Q' hq => b2 _ ⟨fun _ => b8 _ hq, fun z => absurd hc4 z⟩⟩
  · have h1 := h1.2 hc4
    have h2 := h2.2 hc4
    obtain ⟨r4, M3, f11, h1, h2, b12⟩ := u_wX8_in x2.toInt64 (0 : Int64) (1 : Int64) M1 h1 h2
    have g13 := Fr_tr g3 f11 (fun i k (h : False) => h.elim)
    by_cases hc14 : r4 = 0
    · have h1 := h1.2 hc14
      have h2 := h2.2 hc14
      obtain ⟨c19, N20, f17, h1, h2, b18⟩ := u_wX8_lacks_18 x1 x2 M3 h1 h2
      have hf := Fr_ts g13 f17
      exact ⟨c19, N20, hf, h1, h2, fun Q' hq => b2 _ ⟨fun z => absurd z hc4, fun _ => b12 _ ⟨fun z => absurd hc14 z, fun _ => b18 _ hq⟩⟩⟩
    · have h1 := h1.1 hc14
      have h2 := h2.1 hc14
      obtain ⟨r6, M5, f21, h1, h2, b22⟩ := u_wX8_period M3 h1 h2
      have g23 := Fr_tr g13 f21 (fun i k (h : 79 ≤ i) => (show 79 ≤ i from by omega))
      obtain ⟨M7, f24, h1, h2, b25⟩ := u_wX8_layPower (0 : Int64) M5 h1 h2
      have g26 := Fr_tr g23 f24 (fun i k (h : 79 ≤ i) => (show 79 ≤ i from by omega))
      obtain ⟨n8_a, h1⟩ := h1
      obtain ⟨n8_b, h2⟩ := h2
      obtain ⟨c31, N32, f29, h1, h2, b30⟩ := u_wX8_lacks_33 x1 x2 n8_a n8_b r6 (0 : Int32) M7 h1 h2
      have hf := Fr_ts g26 f29
      exact ⟨c31, N32, hf, h1, h2, fun Q' hq => b2 _ ⟨fun z => absurd z hc4, fun _ => b12 _ ⟨fun _ => b22 _ (b25 _ ⟨n8_a, b30 _ hq⟩), fun z => absurd z hc14⟩⟩⟩
set_option maxHeartbeats 4000000 in
theorem u_wX8_notice_28 (x1 : Int32) (x2 : Int32) (x3 : Int32) {Qa Qb : Int32 → Mem → Prop} (M : Mem) (h1 : wX8_notice_28 x1 x2 x3 Qa M) (h2 : wX8_notice_28 x1 x2 x3 Qb M) : (∃ (a0 : Int32) (M' : Mem), Fr (fun i k => 79 ≤ i) M M' ∧ Qa a0 M' ∧ Qb a0 M' ∧ ∀ (Q' : Int32 → Mem → Prop), Q' a0 M' → wX8_notice_28 x1 x2 x3 Q' M) := by
  have h1 : Qa (-1 : Int32) M := h1
  have h2 : Qb (-1 : Int32) M := h2
  exact ⟨(-1 : Int32), M, (Fr_refl (fun i k => 79 ≤ i) M), h1, h2, fun Q' hq => hq⟩
set_option maxHeartbeats 4000000 in
theorem u_wX8_notice_80 (x1 : Int32) (x2 : Int32) (x3 : Int32) {k_50a k_50b : Int64 → Int32 → Int32 → Mem → Prop} {Qa Qb : Int32 → Mem → Prop} (v4 : Int64) (v7 : Int32) (s0 : Int32) (s1 : Int32) (M : Mem) (h1 : wX8_notice_80 x1 x2 x3 k_50a Qa v4 v7 s0 s1 M) (h2 : wX8_notice_80 x1 x2 x3 k_50b Qb v4 v7 s0 s1 M) : (∃ (a0 : Int32) (M' : Mem), Fr (fun i k => 79 ≤ i) M M' ∧ Qa a0 M' ∧ Qb a0 M' ∧ ∀ (k'0 : Int64 → Int32 → Int32 → Mem → Prop) (Q' : Int32 → Mem → Prop), Q' a0 M' → wX8_notice_80 x1 x2 x3 k'0 Q' v4 v7 s0 s1 M) ∨ (∃ (a0 : Int64) (a1 : Int32) (a2 : Int32) (M' : Mem), Fr (fun i k => 79 ≤ i) M M' ∧ k_50a a0 a1 a2 M' ∧ k_50b a0 a1 a2 M' ∧ ∀ (k'0 : Int64 → Int32 → Int32 → Mem → Prop) (Q' : Int32 → Mem → Prop), k'0 a0 a1 a2 M' → wX8_notice_80 x1 x2 x3 k'0 Q' v4 v7 s0 s1 M) := by
  have h1 : (wX8_put 100 99 M (fun M11 => k_50a v4 (s1 + s0) (v7 + (1 : Int32)) M11)) := h1
  have h2 : (wX8_put 100 99 M (fun M11 => k_50b v4 (s1 + s0) (v7 + (1 : Int32)) M11)) := h2
  obtain ⟨M11, f1, h1, h2, b2⟩ := u_wX8_put 100 99 M h1 h2
  have g3 := Fr_tr (Fr_refl (fun i k => 79 ≤ i) M) f1 (fun i k (h : 79 ≤ i ∨ i = 100 ∨ i = 99) => (show 79 ≤ i from by omega))
  exact Or.inr ⟨v4, (s1 + s0), (v7 + (1 : Int32)), M11, g3, h1, h2, fun k'0 Q' hq => b2 _ hq⟩
set_option maxHeartbeats 4000000 in
theorem u_wX8_notice_79 (x1 : Int32) (x2 : Int32) (x3 : Int32) {k_50a k_50b : Int64 → Int32 → Int32 → Mem → Prop} {Qa Qb : Int32 → Mem → Prop} (v4 : Int64) (v7 : Int32) (s0 : Int32) (M : Mem) (h1 : wX8_notice_79 x1 x2 x3 k_50a Qa v4 v7 s0 M) (h2 : wX8_notice_79 x1 x2 x3 k_50b Qb v4 v7 s0 M) : (∃ (a0 : Int32) (M' : Mem), Fr (fun i k => 79 ≤ i) M M' ∧ Qa a0 M' ∧ Qb a0 M' ∧ ∀ (k'0 : Int64 → Int32 → Int32 → Mem → Prop) (Q' : Int32 → Mem → Prop), Q' a0 M' → wX8_notice_79 x1 x2 x3 k'0 Q' v4 v7 s0 M) ∨ (∃ (a0 : Int64) (a1 : Int32) (a2 : Int32) (M' : Mem), Fr (fun i k => 79 ≤ i) M M' ∧ k_50a a0 a1 a2 M' ∧ k_50b a0 a1 a2 M' ∧ ∀ (k'0 : Int64 → Int32 → Int32 → Mem → Prop) (Q' : Int32 → Mem → Prop), k'0 a0 a1 a2 M' → wX8_notice_79 x1 x2 x3 k'0 Q' v4 v7 s0 M) := by
  have h1 : wX8_notice_80 x1 x2 x3 (k_50a) Qa v4 v7 (0 : Int32) s0 M := h1
  have h2 : wX8_notice_80 x1 x2 x3 (k_50b) Qb v4 v7 (0 : Int32) s0 M := h2
  rcases u_wX8_notice_80 x1 x2 x3 v4 v7 (0 : Int32) s0 M h1 h2 with ⟨c5, N6, f3, h1, h2, b4⟩ | ⟨c7, c8, c9, N10, f3, h1, h2, b4⟩
  · have hf := Fr_ts (Fr_refl (fun i k => 79 ≤ i) M) f3
    exact Or.inl ⟨c5, N6, hf, h1, h2, fun k'0 Q' hq => b4 _ _ hq⟩
  · have hf := Fr_ts (Fr_refl (fun i k => 79 ≤ i) M) f3
    exact Or.inr ⟨c7, c8, c9, N10, hf, h1, h2, fun k'0 Q' hq => b4 _ _ hq⟩
set_option maxHeartbeats 4000000 in
theorem u_wX8_notice_50 (x1 : Int32) (x2 : Int32) (x3 : Int32) {Qa Qb : Int32 → Mem → Prop} : ∀ (n1 n2 : Nat) (v4 : Int64) (v6 : Int32) (v7 : Int32) (M : Mem), wX8_notice_50 x1 x2 x3 Qa n1 v4 v6 v7 M → wX8_notice_50 x1 x2 x3 Qb n2 v4 v6 v7 M → (∃ (a0 : Int32) (M' : Mem), Fr (fun i k => 79 ≤ i) M M' ∧ Qa a0 M' ∧ Qb a0 M' ∧ ∀ (Q' : Int32 → Mem → Prop), Q' a0 M' → wX8_notice_50 x1 x2 x3 Q' n1 v4 v6 v7 M) := by
  intro n1
  induction n1 with
  | zero => intro _ _ _ _ _ h1 _; exact h1.elim
  | succ n ih =>
    intro n2 v4 v6 v7 M h1 h2
    cases n2 with
    | zero => exact h2.elim
    | succ m =>
      have h1 : ((x3 ≤ v7 → Qa v6 M) ∧ (¬ x3 ≤ v7 → ((x1 = x2 → wX8_notice_79 x1 x2 x3 (wX8_notice_50 x1 x2 x3 Qa n) Qa v4 v7 v6 M) ∧ (¬ x1 = x2 → (wX8_leavesNow M (fun r10 M9 => (((lg_cmp (r10 &&& v4) (0 : Int64)) = 0 → wX8_notice_79 x1 x2 x3 (wX8_notice_50 x1 x2 x3 Qa n) Qa v4 v7 v6 M9) ∧ (¬ (lg_cmp (r10 &&& v4) (0 : Int64)) = 0 → wX8_notice_80 x1 x2 x3 (wX8_notice_50 x1 x2 x3 Qa n) Qa v4 v7 (1 : Int32) v6 M9)))))))) := h1
      have h2 : ((x3 ≤ v7 → Qb v6 M) ∧ (¬ x3 ≤ v7 → ((x1 = x2 → wX8_notice_79 x1 x2 x3 (wX8_notice_50 x1 x2 x3 Qb m) Qb v4 v7 v6 M) ∧ (¬ x1 = x2 → (wX8_leavesNow M (fun r10 M9 => (((lg_cmp (r10 &&& v4) (0 : Int64)) = 0 → wX8_notice_79 x1 x2 x3 (wX8_notice_50 x1 x2 x3 Qb m) Qb v4 v7 v6 M9) ∧ (¬ (lg_cmp (r10 &&& v4) (0 : Int64)) = 0 → wX8_notice_80 x1 x2 x3 (wX8_notice_50 x1 x2 x3 Qb m) Qb v4 v7 (1 : Int32) v6 M9)))))))) := h2
      by_cases hc1 : x3 ≤ v7
      · have h1 := h1.1 hc1
        have h2 := h2.1 hc1
        exact ⟨v6, M, (Fr_refl (fun i k => 79 ≤ i) M), h1, h2, fun Q' hq => ⟨fun _ => hq, fun z => absurd hc1 z⟩⟩
      · have h1 := h1.2 hc1
        have h2 := h2.2 hc1
        by_cases hc2 : x1 = x2
        · have h1 := h1.1 hc2
          have h2 := h2.1 hc2
          rcases u_wX8_notice_79 x1 x2 x3 v4 v7 v6 M h1 h2 with ⟨c7, N8, f5, h1, h2, b6⟩ | ⟨c9, c10, c11, N12, f5, h1, h2, b6⟩
          · have hf := Fr_ts (Fr_refl (fun i k => 79 ≤ i) M) f5
            exact ⟨c7, N8, hf, h1, h2, fun Q' hq => ⟨fun z => absurd z hc1, fun _ => ⟨fun _ => b6 _ _ hq, fun z => absurd hc2 z⟩⟩⟩
          · have hf := Fr_ts (Fr_refl (fun i k => 79 ≤ i) M) f5
            obtain ⟨c15, N16, f13, h1, h2, b14⟩ := ih m c9 c10 c11 N12 h1 h2
            have hf := Fr_ts hf f13
            exact ⟨c15, N16, hf, h1, h2, fun Q' hq => ⟨fun z => absurd z hc1, fun _ => ⟨fun _ => b6 _ _ (b14 _ hq), fun z => absurd hc2 z⟩⟩⟩
        · have h1 := h1.2 hc2
          have h2 := h2.2 hc2
          obtain ⟨r10, M9, f17, h1, h2, b18⟩ := u_wX8_leavesNow M h1 h2
          have g19 := Fr_tr (Fr_refl (fun i k => 79 ≤ i) M) f17 (fun i k (h : False) => h.elim)
          by_cases hc20 : (lg_cmp (r10 &&& v4) (0 : Int64)) = 0
          · have h1 := h1.1 hc20
            have h2 := h2.1 hc20
            rcases u_wX8_notice_79 x1 x2 x3 v4 v7 v6 M9 h1 h2 with ⟨c25, N26, f23, h1, h2, b24⟩ | ⟨c27, c28, c29, N30, f23, h1, h2, b24⟩
            · have hf := Fr_ts g19 f23
              exact ⟨c25, N26, hf, h1, h2, fun Q' hq => ⟨fun z => absurd z hc1, fun _ => ⟨fun z => absurd z hc2, fun _ => b18 _ ⟨fun _ => b24 _ _ hq, fun z => absurd hc20 z⟩⟩⟩⟩
            · have hf := Fr_ts g19 f23
              obtain ⟨c33, N34, f31, h1, h2, b32⟩ := ih m c27 c28 c29 N30 h1 h2
              have hf := Fr_ts hf f31
              exact ⟨c33, N34, hf, h1, h2, fun Q' hq => ⟨fun z => absurd z hc1, fun _ => ⟨fun z => absurd z hc2, fun _ => b18 _ ⟨fun _ => b24 _ _ (b32 _ hq), fun z => absurd hc20 z⟩⟩⟩⟩
          · have h1 := h1.2 hc20
            have h2 := h2.2 hc20
            rcases u_wX8_notice_80 x1 x2 x3 v4 v7 (1 : Int32) v6 M9 h1 h2 with ⟨c39, N40, f37, h1, h2, b38⟩ | ⟨c41, c42, c43, N44, f37, h1, h2, b38⟩
            · have hf := Fr_ts g19 f37
              exact ⟨c39, N40, hf, h1, h2, fun Q' hq => ⟨fun z => absurd z hc1, fun _ => ⟨fun z => absurd z hc2, fun _ => b18 _ ⟨fun z => absurd z hc20, fun _ => b38 _ _ hq⟩⟩⟩⟩
            · have hf := Fr_ts g19 f37
              obtain ⟨c47, N48, f45, h1, h2, b46⟩ := ih m c41 c42 c43 N44 h1 h2
              have hf := Fr_ts hf f45
              exact ⟨c47, N48, hf, h1, h2, fun Q' hq => ⟨fun z => absurd z hc1, fun _ => ⟨fun z => absurd z hc2, fun _ => b18 _ ⟨fun z => absurd z hc20, fun _ => b38 _ _ (b46 _ hq)⟩⟩⟩⟩
set_option maxHeartbeats 4000000 in
theorem u_wX8_notice (x1 : Int32) (x2 : Int32) (x3 : Int32) {Qa Qb : Int32 → Mem → Prop} (M : Mem) (h1 : wX8_notice x1 x2 x3 M Qa) (h2 : wX8_notice x1 x2 x3 M Qb) : (∃ (a0 : Int32) (M' : Mem), Fr (fun i k => 79 ≤ i) M M' ∧ Qa a0 M' ∧ Qb a0 M' ∧ ∀ (Q' : Int32 → Mem → Prop), Q' a0 M' → wX8_notice x1 x2 x3 M Q') := by
  have h1 : (wX8_isLeaf x1 M (fun r2 M1 => ((r2 = 0 → wX8_notice_28 x1 x2 x3 Qa M1) ∧ (¬ r2 = 0 → (wX8_isLeaf x2 M1 (fun r4 M3 => ((r4 = 0 → wX8_notice_28 x1 x2 x3 Qa M3) ∧ (¬ r4 = 0 → (wX8_in x3.toInt64 (0 : Int64) (1000 : Int64) M3 (fun r6 M5 => ((¬ r6 = 0 → (wX8_layPower (0 : Int64) M5 (fun M7 => (∃ n8, wX8_notice_50 x1 x2 x3 Qa n8 (((1 : Int64) <<< (x1.toInt64 &&& 63)) ||| ((1 : Int64) <<< (x2.toInt64 &&& 63))) (0 : Int32) (0 : Int32) M7)))) ∧ (r6 = 0 → wX8_notice_28 x1 x2 x3 Qa M5)))))))))))) := h1
  have h2 : (wX8_isLeaf x1 M (fun r2 M1 => ((r2 = 0 → wX8_notice_28 x1 x2 x3 Qb M1) ∧ (¬ r2 = 0 → (wX8_isLeaf x2 M1 (fun r4 M3 => ((r4 = 0 → wX8_notice_28 x1 x2 x3 Qb M3) ∧ (¬ r4 = 0 → (wX8_in x3.toInt64 (0 : Int64) (1000 : Int64) M3 (fun r6 M5 => ((¬ r6 = 0 → (wX8_layPower (0 : Int64) M5 (fun M7 => (∃ n8, wX8_notice_50 x1 x2 x3 Qb n8 (((1 : Int64) <<< (x1.toInt64 &&& 63)) ||| ((1 : Int64) <<< (x2.toInt64 &&& 63))) (0 : Int32) (0 : Int32) M7)))) ∧ (r6 = 0 → wX8_notice_28 x1 x2 x3 Qb M5)))))))))))) := h2
  obtain ⟨r2, M1, f1, h1, h2, b2⟩ := u_wX8_isLeaf x1 M h1 h2
  have g3 := Fr_tr (Fr_refl (fun i k => 79 ≤ i) M) f1 (fun i k (h : False) => h.elim)
  by_cases hc4 : r2 = 0
  · have h1 := h1.1 hc4
    have h2 := h2.1 hc4
    obtain ⟨c9, N10, f7, h1, h2, b8⟩ := u_wX8_notice_28 x1 x2 x3 M1 h1 h2
    have hf := Fr_ts g3 f7
    exact ⟨c9, N10, hf, h1, h2, fun Q' hq => b2 _ ⟨fun _ => b8 _ hq, fun z => absurd hc4 z⟩⟩
  · have h1 := h1.2 hc4
    have h2 := h2.2 hc4
    obtain ⟨r4, M3, f11, h1, h2, b12⟩ := u_wX8_isLeaf x2 M1 h1 h2
    have g13 := Fr_tr g3 f11 (fun i k (h : False) => h.elim)
    by_cases hc14 : r4 = 0
    · have h1 := h1.1 hc14
      have h2 := h2.1 hc14
      obtain ⟨c19, N20, f17, h1, h2, b18⟩ := u_wX8_notice_28 x1 x2 x3 M3 h1 h2
      have hf := Fr_ts g13 f17
      exact ⟨c19, N20, hf, h1, h2, fun Q' hq => b2 _ ⟨fun z => absurd z hc4, fun _ => b12 _ ⟨fun _ => b18 _ hq, fun z => absurd hc14 z⟩⟩⟩
    · have h1 := h1.2 hc14
      have h2 := h2.2 hc14
      obtain ⟨r6, M5, f21, h1, h2, b22⟩ := u_wX8_in x3.toInt64 (0 : Int64) (1000 : Int64) M3 h1 h2
      have g23 := Fr_tr g13 f21 (fun i k (h : False) => h.elim)
      by_cases hc24 : r6 = 0
      · have h1 := h1.2 hc24
        have h2 := h2.2 hc24
        obtain ⟨c29, N30, f27, h1, h2, b28⟩ := u_wX8_notice_28 x1 x2 x3 M5 h1 h2
        have hf := Fr_ts g23 f27
        exact ⟨c29, N30, hf, h1, h2, fun Q' hq => b2 _ ⟨fun z => absurd z hc4, fun _ => b12 _ ⟨fun z => absurd z hc14, fun _ => b22 _ ⟨fun z => absurd hc24 z, fun _ => b28 _ hq⟩⟩⟩⟩
      · have h1 := h1.1 hc24
        have h2 := h2.1 hc24
        obtain ⟨M7, f31, h1, h2, b32⟩ := u_wX8_layPower (0 : Int64) M5 h1 h2
        have g33 := Fr_tr g23 f31 (fun i k (h : 79 ≤ i) => (show 79 ≤ i from by omega))
        obtain ⟨n8_a, h1⟩ := h1
        obtain ⟨n8_b, h2⟩ := h2
        obtain ⟨c38, N39, f36, h1, h2, b37⟩ := u_wX8_notice_50 x1 x2 x3 n8_a n8_b (((1 : Int64) <<< (x1.toInt64 &&& 63)) ||| ((1 : Int64) <<< (x2.toInt64 &&& 63))) (0 : Int32) (0 : Int32) M7 h1 h2
        have hf := Fr_ts g33 f36
        exact ⟨c38, N39, hf, h1, h2, fun Q' hq => b2 _ ⟨fun z => absurd z hc4, fun _ => b12 _ ⟨fun z => absurd z hc14, fun _ => b22 _ ⟨fun _ => b32 _ ⟨n8_a, b37 _ hq⟩, fun z => absurd z hc24⟩⟩⟩⟩
set_option maxHeartbeats 4000000 in
theorem u_wX8_pleasedBy_143 (x1 : Int32) (x2 : Int32) {k_106a k_106b : Int32 → Int32 → Mem → Prop} {Qa Qb : Int32 → Mem → Prop} (v4 : Int32) (s0 : Int32) (s1 : Int32) (M : Mem) (h1 : wX8_pleasedBy_143 x1 x2 k_106a Qa v4 s0 s1 M) (h2 : wX8_pleasedBy_143 x1 x2 k_106b Qb v4 s0 s1 M) : (∃ (a0 : Int32) (M' : Mem), Fr (fun i k => 79 ≤ i) M M' ∧ Qa a0 M' ∧ Qb a0 M' ∧ ∀ (k'0 : Int32 → Int32 → Mem → Prop) (Q' : Int32 → Mem → Prop), Q' a0 M' → wX8_pleasedBy_143 x1 x2 k'0 Q' v4 s0 s1 M) ∨ (∃ (a0 : Int32) (a1 : Int32) (M' : Mem), Fr (fun i k => 79 ≤ i) M M' ∧ k_106a a0 a1 M' ∧ k_106b a0 a1 M' ∧ ∀ (k'0 : Int32 → Int32 → Mem → Prop) (Q' : Int32 → Mem → Prop), k'0 a0 a1 M' → wX8_pleasedBy_143 x1 x2 k'0 Q' v4 s0 s1 M) := by
  have h1 : k_106a (s1 + s0) (v4 + (1 : Int32)) M := h1
  have h2 : k_106b (s1 + s0) (v4 + (1 : Int32)) M := h2
  exact Or.inr ⟨(s1 + s0), (v4 + (1 : Int32)), M, (Fr_refl (fun i k => 79 ≤ i) M), h1, h2, fun k'0 Q' hq => hq⟩
set_option maxHeartbeats 4000000 in
theorem u_wX8_pleasedBy_106 (x1 : Int32) (x2 : Int32) {Qa Qb : Int32 → Mem → Prop} : ∀ (n1 n2 : Nat) (v3 : Int32) (v4 : Int32) (M : Mem), wX8_pleasedBy_106 x1 x2 Qa n1 v3 v4 M → wX8_pleasedBy_106 x1 x2 Qb n2 v3 v4 M → (∃ (a0 : Int32) (M' : Mem), Fr (fun i k => 79 ≤ i) M M' ∧ Qa a0 M' ∧ Qb a0 M' ∧ ∀ (Q' : Int32 → Mem → Prop), Q' a0 M' → wX8_pleasedBy_106 x1 x2 Q' n1 v3 v4 M) := by
  intro n1
  induction n1 with
  | zero => intro _ _ _ _ h1 _; exact h1.elim
  | succ n ih =>
    intro n2 v3 v4 M h1 h2
    cases n2 with
    | zero => exact h2.elim
    | succ m =>
      have h1 : (wX8_lesser M (fun r9 M8 => ((r9 ≤ v4 → Qa v3 M8) ∧ (¬ r9 ≤ v4 → (vp_in v4 (ln 98) ∧ (vp_in (M8 98 v4.toNatClampNeg) (ln 105) ∧ (vp_in v4 (ln 88) ∧ ((¬ (M8 105 (M8 98 v4.toNatClampNeg).toNatClampNeg) = (M8 88 v4.toNatClampNeg) → wX8_pleasedBy_143 x1 x2 (wX8_pleasedBy_106 x1 x2 Qa n) Qa v4 (0 : Int32) v3 M8) ∧ ((M8 105 (M8 98 v4.toNatClampNeg).toNatClampNeg) = (M8 88 v4.toNatClampNeg) → wX8_pleasedBy_143 x1 x2 (wX8_pleasedBy_106 x1 x2 Qa n) Qa v4 (1 : Int32) v3 M8))))))))) := h1
      have h2 : (wX8_lesser M (fun r9 M8 => ((r9 ≤ v4 → Qb v3 M8) ∧ (¬ r9 ≤ v4 → (vp_in v4 (ln 98) ∧ (vp_in (M8 98 v4.toNatClampNeg) (ln 105) ∧ (vp_in v4 (ln 88) ∧ ((¬ (M8 105 (M8 98 v4.toNatClampNeg).toNatClampNeg) = (M8 88 v4.toNatClampNeg) → wX8_pleasedBy_143 x1 x2 (wX8_pleasedBy_106 x1 x2 Qb m) Qb v4 (0 : Int32) v3 M8) ∧ ((M8 105 (M8 98 v4.toNatClampNeg).toNatClampNeg) = (M8 88 v4.toNatClampNeg) → wX8_pleasedBy_143 x1 x2 (wX8_pleasedBy_106 x1 x2 Qb m) Qb v4 (1 : Int32) v3 M8))))))))) := h2
      obtain ⟨r9, M8, f1, h1, h2, b2⟩ := u_wX8_lesser M h1 h2
      have g3 := Fr_tr (Fr_refl (fun i k => 79 ≤ i) M) f1 (fun i k (h : False) => h.elim)
      by_cases hc4 : r9 ≤ v4
      · have h1 := h1.1 hc4
        have h2 := h2.1 hc4
        exact ⟨v3, M8, g3, h1, h2, fun Q' hq => b2 _ ⟨fun _ => hq, fun z => absurd hc4 z⟩⟩
      · have h1 := h1.2 hc4
        have h2 := h2.2 hc4
        have s5 := h1.1
        have h1 := h1.2
        have h2 := h2.2
        have s6 := h1.1
        have h1 := h1.2
        have h2 := h2.2
        have s7 := h1.1
        have h1 := h1.2
        have h2 := h2.2
        by_cases hc8 : (M8 105 (M8 98 v4.toNatClampNeg).toNatClampNeg) = (M8 88 v4.toNatClampNeg)
        · have h1 := h1.2 hc8
          have h2 := h2.2 hc8
          rcases u_wX8_pleasedBy_143 x1 x2 v4 (1 : Int32) v3 M8 h1 h2 with ⟨c13, N14, f11, h1, h2, b12⟩ | ⟨c15, c16, N17, f11, h1, h2, b12⟩
          · have hf := Fr_ts g3 f11
            exact ⟨c13, N14, hf, h1, h2, fun Q' hq => b2 _ ⟨fun z => absurd z hc4, fun _ => ⟨s5, ⟨s6, ⟨s7, ⟨fun z => absurd hc8 z, fun _ => b12 _ _ hq⟩⟩⟩⟩⟩⟩
          · have hf := Fr_ts g3 f11
            obtain ⟨c20, N21, f18, h1, h2, b19⟩ := ih m c15 c16 N17 h1 h2
            have hf := Fr_ts hf f18
            exact ⟨c20, N21, hf, h1, h2, fun Q' hq => b2 _ ⟨fun z => absurd z hc4, fun _ => ⟨s5, ⟨s6, ⟨s7, ⟨fun z => absurd hc8 z, fun _ => b12 _ _ (b19 _ hq)⟩⟩⟩⟩⟩⟩
        · have h1 := h1.1 hc8
          have h2 := h2.1 hc8
          rcases u_wX8_pleasedBy_143 x1 x2 v4 (0 : Int32) v3 M8 h1 h2 with ⟨c26, N27, f24, h1, h2, b25⟩ | ⟨c28, c29, N30, f24, h1, h2, b25⟩
          · have hf := Fr_ts g3 f24
            exact ⟨c26, N27, hf, h1, h2, fun Q' hq => b2 _ ⟨fun z => absurd z hc4, fun _ => ⟨s5, ⟨s6, ⟨s7, ⟨fun _ => b25 _ _ hq, fun z => absurd z hc8⟩⟩⟩⟩⟩⟩
          · have hf := Fr_ts g3 f24
            obtain ⟨c33, N34, f31, h1, h2, b32⟩ := ih m c28 c29 N30 h1 h2
            have hf := Fr_ts hf f31
            exact ⟨c33, N34, hf, h1, h2, fun Q' hq => b2 _ ⟨fun z => absurd z hc4, fun _ => ⟨s5, ⟨s6, ⟨s7, ⟨fun _ => b25 _ _ (b32 _ hq), fun z => absurd z hc8⟩⟩⟩⟩⟩⟩
set_option maxHeartbeats 4000000 in
theorem u_wX8_pleasedBy_78 (x1 : Int32) (x2 : Int32) {Qa Qb : Int32 → Mem → Prop} : ∀ (n1 n2 : Nat) (v3 : Int32) (M : Mem), wX8_pleasedBy_78 x1 x2 Qa n1 v3 M → wX8_pleasedBy_78 x1 x2 Qb n2 v3 M → (∃ (a0 : Int32) (M' : Mem), Fr (fun i k => 79 ≤ i) M M' ∧ Qa a0 M' ∧ Qb a0 M' ∧ ∀ (Q' : Int32 → Mem → Prop), Q' a0 M' → wX8_pleasedBy_78 x1 x2 Q' n1 v3 M) := by
  intro n1
  induction n1 with
  | zero => intro _ _ _ h1 _; exact h1.elim
  | succ n ih =>
    intro n2 v3 M h1 h2
    cases n2 with
    | zero => exact h2.elim
    | succ m =>
      have h1 : ((x1 ≤ v3 → (∃ n6, wX8_pleasedBy_106 x1 x2 Qa n6 (0 : Int32) (0 : Int32) M)) ∧ (¬ x1 ≤ v3 → (wX8_put 105 99 M (fun M7 => wX8_pleasedBy_78 x1 x2 Qa n (v3 + (1 : Int32)) M7)))) := h1
      have h2 : ((x1 ≤ v3 → (∃ n6, wX8_pleasedBy_106 x1 x2 Qb n6 (0 : Int32) (0 : Int32) M)) ∧ (¬ x1 ≤ v3 → (wX8_put 105 99 M (fun M7 => wX8_pleasedBy_78 x1 x2 Qb m (v3 + (1 : Int32)) M7)))) := h2
      by_cases hc1 : x1 ≤ v3
      · have h1 := h1.1 hc1
        have h2 := h2.1 hc1
        obtain ⟨n6_a, h1⟩ := h1
        obtain ⟨n6_b, h2⟩ := h2
        obtain ⟨c6, N7, f4, h1, h2, b5⟩ := u_wX8_pleasedBy_106 x1 x2 n6_a n6_b (0 : Int32) (0 : Int32) M h1 h2
        have hf := Fr_ts (Fr_refl (fun i k => 79 ≤ i) M) f4
        exact ⟨c6, N7, hf, h1, h2, fun Q' hq => ⟨fun _ => ⟨n6_a, b5 _ hq⟩, fun z => absurd hc1 z⟩⟩
      · have h1 := h1.2 hc1
        have h2 := h2.2 hc1
        obtain ⟨M7, f8, h1, h2, b9⟩ := u_wX8_put 105 99 M h1 h2
        have g10 := Fr_tr (Fr_refl (fun i k => 79 ≤ i) M) f8 (fun i k (h : 79 ≤ i ∨ i = 105 ∨ i = 99) => (show 79 ≤ i from by omega))
        obtain ⟨c15, N16, f13, h1, h2, b14⟩ := ih m (v3 + (1 : Int32)) M7 h1 h2
        have hf := Fr_ts g10 f13
        exact ⟨c15, N16, hf, h1, h2, fun Q' hq => ⟨fun z => absurd z hc1, fun _ => b9 _ (b14 _ hq)⟩⟩
set_option maxHeartbeats 4000000 in
theorem u_wX8_pleasedBy_38 (x1 : Int32) (x2 : Int32) {Qa Qb : Int32 → Mem → Prop} : ∀ (n1 n2 : Nat) (v3 : Int32) (M : Mem), wX8_pleasedBy_38 x1 x2 Qa n1 v3 M → wX8_pleasedBy_38 x1 x2 Qb n2 v3 M → (∃ (a0 : Int32) (M' : Mem), Fr (fun i k => 79 ≤ i) M M' ∧ Qa a0 M' ∧ Qb a0 M' ∧ ∀ (Q' : Int32 → Mem → Prop), Q' a0 M' → wX8_pleasedBy_38 x1 x2 Q' n1 v3 M) := by
  intro n1
  induction n1 with
  | zero => intro _ _ _ h1 _; exact h1.elim
  | succ n ih =>
    intro n2 v3 M h1 h2
    cases n2 with
    | zero => exact h2.elim
    | succ m =>
      have h1 : (vp_in (0 : Int32) (ln 82) ∧ (((M 82 (0 : Int32).toNatClampNeg) ≤ v3 → (∃ n4, wX8_pleasedBy_78 x1 x2 Qa n4 (1 : Int32) M)) ∧ (¬ (M 82 (0 : Int32).toNatClampNeg) ≤ v3 → (vp_in (0 : Int32) (ln 83) ∧ (vp_in (0 : Int32) (ln 84) ∧ (wX8_goRead 105 (0 : Int32) (M 83 (0 : Int32).toNatClampNeg) (M 84 (0 : Int32).toNatClampNeg) v3 M (fun M5 => wX8_pleasedBy_38 x1 x2 Qa n (v3 + (1 : Int32)) M5))))))) := h1
      have h2 : (vp_in (0 : Int32) (ln 82) ∧ (((M 82 (0 : Int32).toNatClampNeg) ≤ v3 → (∃ n4, wX8_pleasedBy_78 x1 x2 Qb n4 (1 : Int32) M)) ∧ (¬ (M 82 (0 : Int32).toNatClampNeg) ≤ v3 → (vp_in (0 : Int32) (ln 83) ∧ (vp_in (0 : Int32) (ln 84) ∧ (wX8_goRead 105 (0 : Int32) (M 83 (0 : Int32).toNatClampNeg) (M 84 (0 : Int32).toNatClampNeg) v3 M (fun M5 => wX8_pleasedBy_38 x1 x2 Qb m (v3 + (1 : Int32)) M5))))))) := h2
      have s1 := h1.1
      have h1 := h1.2
      have h2 := h2.2
      by_cases hc2 : (M 82 (0 : Int32).toNatClampNeg) ≤ v3
      · have h1 := h1.1 hc2
        have h2 := h2.1 hc2
        obtain ⟨n4_a, h1⟩ := h1
        obtain ⟨n4_b, h2⟩ := h2
        obtain ⟨c7, N8, f5, h1, h2, b6⟩ := u_wX8_pleasedBy_78 x1 x2 n4_a n4_b (1 : Int32) M h1 h2
        have hf := Fr_ts (Fr_refl (fun i k => 79 ≤ i) M) f5
        exact ⟨c7, N8, hf, h1, h2, fun Q' hq => ⟨s1, ⟨fun _ => ⟨n4_a, b6 _ hq⟩, fun z => absurd hc2 z⟩⟩⟩
      · have h1 := h1.2 hc2
        have h2 := h2.2 hc2
        have s9 := h1.1
        have h1 := h1.2
        have h2 := h2.2
        have s10 := h1.1
        have h1 := h1.2
        have h2 := h2.2
        obtain ⟨M5, f11, h1, h2, b12⟩ := u_wX8_goRead 105 (0 : Int32) (M 83 (0 : Int32).toNatClampNeg) (M 84 (0 : Int32).toNatClampNeg) v3 M h1 h2
        have g13 := Fr_tr (Fr_refl (fun i k => 79 ≤ i) M) f11 (fun i k (h : 79 ≤ i ∨ i = 105) => (show 79 ≤ i from by omega))
        obtain ⟨c18, N19, f16, h1, h2, b17⟩ := ih m (v3 + (1 : Int32)) M5 h1 h2
        have hf := Fr_ts g13 f16
        exact ⟨c18, N19, hf, h1, h2, fun Q' hq => ⟨s1, ⟨fun z => absurd z hc2, fun _ => ⟨s9, ⟨s10, b12 _ (b17 _ hq)⟩⟩⟩⟩⟩
set_option maxHeartbeats 4000000 in
theorem u_wX8_pleasedBy_2 (x1 : Int32) (x2 : Int32) {Qa Qb : Int32 → Mem → Prop} : ∀ (n1 n2 : Nat) (v3 : Int32) (M : Mem), wX8_pleasedBy_2 x1 x2 Qa n1 v3 M → wX8_pleasedBy_2 x1 x2 Qb n2 v3 M → (∃ (a0 : Int32) (M' : Mem), Fr (fun i k => 79 ≤ i) M M' ∧ Qa a0 M' ∧ Qb a0 M' ∧ ∀ (Q' : Int32 → Mem → Prop), Q' a0 M' → wX8_pleasedBy_2 x1 x2 Q' n1 v3 M) := by
  intro n1
  induction n1 with
  | zero => intro _ _ _ h1 _; exact h1.elim
  | succ n ih =>
    intro n2 v3 M h1 h2
    cases n2 with
    | zero => exact h2.elim
    | succ m =>
      have h1 : (((40 : Int32) ≤ v3 → (wX8_layBelow 105 (0 : Int32) x2 M (fun M2 => (∃ n3, wX8_pleasedBy_38 x1 x2 Qa n3 (1 : Int32) M2)))) ∧ (¬ (40 : Int32) ≤ v3 → (vp_in v3 (ln 89) ∧ (vp_in v3 (ln 105) ∧ wX8_pleasedBy_2 x1 x2 Qa n (v3 + (1 : Int32)) (mu M 105 v3.toNatClampNeg (M 89 v3.toNatClampNeg)))))) := h1
      have h2 : (((40 : Int32) ≤ v3 → (wX8_layBelow 105 (0 : Int32) x2 M (fun M2 => (∃ n3, wX8_pleasedBy_38 x1 x2 Qb n3 (1 : Int32) M2)))) ∧ (¬ (40 : Int32) ≤ v3 → (vp_in v3 (ln 89) ∧ (vp_in v3 (ln 105) ∧ wX8_pleasedBy_2 x1 x2 Qb m (v3 + (1 : Int32)) (mu M 105 v3.toNatClampNeg (M 89 v3.toNatClampNeg)))))) := h2
      by_cases hc1 : (40 : Int32) ≤ v3
      · have h1 := h1.1 hc1
        have h2 := h2.1 hc1
        obtain ⟨M2, f2, h1, h2, b3⟩ := u_wX8_layBelow 105 (0 : Int32) x2 M h1 h2
        have g4 := Fr_tr (Fr_refl (fun i k => 79 ≤ i) M) f2 (fun i k (h : 79 ≤ i ∨ i = 105) => (show 79 ≤ i from by omega))
        obtain ⟨n3_a, h1⟩ := h1
        obtain ⟨n3_b, h2⟩ := h2
        obtain ⟨c9, N10, f7, h1, h2, b8⟩ := u_wX8_pleasedBy_38 x1 x2 n3_a n3_b (1 : Int32) M2 h1 h2
        have hf := Fr_ts g4 f7
        exact ⟨c9, N10, hf, h1, h2, fun Q' hq => ⟨fun _ => b3 _ ⟨n3_a, b8 _ hq⟩, fun z => absurd hc1 z⟩⟩
      · have h1 := h1.2 hc1
        have h2 := h2.2 hc1
        have s11 := h1.1
        have h1 := h1.2
        have h2 := h2.2
        have s12 := h1.1
        have h1 := h1.2
        have h2 := h2.2
        obtain ⟨c17, N18, f15, h1, h2, b16⟩ := ih m (v3 + (1 : Int32)) (mu M 105 v3.toNatClampNeg (M 89 v3.toNatClampNeg)) h1 h2
        have hf := Fr_ts (Fr_mu (Fr_refl (fun i k => 79 ≤ i) M) (show 79 ≤ 105 from by omega)) f15
        exact ⟨c17, N18, hf, h1, h2, fun Q' hq => ⟨fun z => absurd z hc1, fun _ => ⟨s11, ⟨s12, b16 _ hq⟩⟩⟩⟩
set_option maxHeartbeats 4000000 in
theorem u_wX8_pleasedBy (x1 : Int32) (x2 : Int32) {Qa Qb : Int32 → Mem → Prop} (M : Mem) (h1 : wX8_pleasedBy x1 x2 M Qa) (h2 : wX8_pleasedBy x1 x2 M Qb) : (∃ (a0 : Int32) (M' : Mem), Fr (fun i k => 79 ≤ i) M M' ∧ Qa a0 M' ∧ Qb a0 M' ∧ ∀ (Q' : Int32 → Mem → Prop), Q' a0 M' → wX8_pleasedBy x1 x2 M Q') := by
  have h1 : (∃ n1, wX8_pleasedBy_2 x1 x2 Qa n1 (0 : Int32) M) := h1
  have h2 : (∃ n1, wX8_pleasedBy_2 x1 x2 Qb n1 (0 : Int32) M) := h2
  obtain ⟨n1_a, h1⟩ := h1
  obtain ⟨n1_b, h2⟩ := h2
  obtain ⟨c5, N6, f3, h1, h2, b4⟩ := u_wX8_pleasedBy_2 x1 x2 n1_a n1_b (0 : Int32) M h1 h2
  have hf := Fr_ts (Fr_refl (fun i k => 79 ≤ i) M) f3
  exact ⟨c5, N6, hf, h1, h2, fun Q' hq => ⟨n1_a, b4 _ hq⟩⟩
set_option maxHeartbeats 4000000 in
theorem u_wX8_pleased_22 (x1 : Int32) (x2 : Int32) {Qa Qb : Int32 → Mem → Prop} (M : Mem) (h1 : wX8_pleased_22 x1 x2 Qa M) (h2 : wX8_pleased_22 x1 x2 Qb M) : (∃ (a0 : Int32) (M' : Mem), Fr (fun i k => 79 ≤ i) M M' ∧ Qa a0 M' ∧ Qb a0 M' ∧ ∀ (Q' : Int32 → Mem → Prop), Q' a0 M' → wX8_pleased_22 x1 x2 Q' M) := by
  have h1 : Qa (-1 : Int32) M := h1
  have h2 : Qb (-1 : Int32) M := h2
  exact ⟨(-1 : Int32), M, (Fr_refl (fun i k => 79 ≤ i) M), h1, h2, fun Q' hq => hq⟩
set_option maxHeartbeats 4000000 in
theorem u_wX8_pleased_81 (x1 : Int32) (x2 : Int32) {k_33a k_33b : Int32 → Int32 → Int32 → Mem → Prop} {Qa Qb : Int32 → Mem → Prop} (v3 : Int32) (v5 : Int32) (s0 : Int32) (M : Mem) (h1 : wX8_pleased_81 x1 x2 k_33a Qa v3 v5 s0 M) (h2 : wX8_pleased_81 x1 x2 k_33b Qb v3 v5 s0 M) : (∃ (a0 : Int32) (M' : Mem), Fr (fun i k => 79 ≤ i) M M' ∧ Qa a0 M' ∧ Qb a0 M' ∧ ∀ (k'0 : Int32 → Int32 → Int32 → Mem → Prop) (Q' : Int32 → Mem → Prop), Q' a0 M' → wX8_pleased_81 x1 x2 k'0 Q' v3 v5 s0 M) ∨ (∃ (a0 : Int32) (a1 : Int32) (a2 : Int32) (M' : Mem), Fr (fun i k => 79 ≤ i) M M' ∧ k_33a a0 a1 a2 M' ∧ k_33b a0 a1 a2 M' ∧ ∀ (k'0 : Int32 → Int32 → Int32 → Mem → Prop) (Q' : Int32 → Mem → Prop), k'0 a0 a1 a2 M' → wX8_pleased_81 x1 x2 k'0 Q' v3 v5 s0 M) := by
  have h1 : k_33a v3 s0 (v5 + (1 : Int32)) M := h1
  have h2 : k_33b v3 s0 (v5 + (1 : Int32)) M := h2
  exact Or.inr ⟨v3, s0, (v5 + (1 : Int32)), M, (Fr_refl (fun i k => 79 ≤ i) M), h1, h2, fun k'0 Q' hq => hq⟩
set_option maxHeartbeats 4000000 in
theorem u_wX8_pleased_66 (x1 : Int32) (x2 : Int32) {k_33a k_33b : Int32 → Int32 → Int32 → Mem → Prop} {Qa Qb : Int32 → Mem → Prop} (v4 : Int32) (v5 : Int32) (v6 : Int32) (s0 : Int32) (M : Mem) (h1 : wX8_pleased_66 x1 x2 k_33a Qa v4 v5 v6 s0 M) (h2 : wX8_pleased_66 x1 x2 k_33b Qb v4 v5 v6 s0 M) : (∃ (a0 : Int32) (M' : Mem), Fr (fun i k => 79 ≤ i) M M' ∧ Qa a0 M' ∧ Qb a0 M' ∧ ∀ (k'0 : Int32 → Int32 → Int32 → Mem → Prop) (Q' : Int32 → Mem → Prop), Q' a0 M' → wX8_pleased_66 x1 x2 k'0 Q' v4 v5 v6 s0 M) ∨ (∃ (a0 : Int32) (a1 : Int32) (a2 : Int32) (M' : Mem), Fr (fun i k => 79 ≤ i) M M' ∧ k_33a a0 a1 a2 M' ∧ k_33b a0 a1 a2 M' ∧ ∀ (k'0 : Int32 → Int32 → Int32 → Mem → Prop) (Q' : Int32 → Mem → Prop), k'0 a0 a1 a2 M' → wX8_pleased_66 x1 x2 k'0 Q' v4 v5 v6 s0 M) := by
  have h1 : ((v6 ≤ v4 → wX8_pleased_81 x1 x2 (k_33a) Qa s0 v5 v4 M) ∧ (¬ v6 ≤ v4 → wX8_pleased_81 x1 x2 (k_33a) Qa s0 v5 v6 M)) := h1
  have h2 : ((v6 ≤ v4 → wX8_pleased_81 x1 x2 (k_33b) Qb s0 v5 v4 M) ∧ (¬ v6 ≤ v4 → wX8_pleased_81 x1 x2 (k_33b) Qb s0 v5 v6 M)) := h2
  by_cases hc1 : v6 ≤ v4
  · have h1 := h1.1 hc1
    have h2 := h2.1 hc1
    rcases u_wX8_pleased_81 x1 x2 s0 v5 v4 M h1 h2 with ⟨c6, N7, f4, h1, h2, b5⟩ | ⟨c8, c9, c10, N11, f4, h1, h2, b5⟩
    · have hf := Fr_ts (Fr_refl (fun i k => 79 ≤ i) M) f4
      exact Or.inl ⟨c6, N7, hf, h1, h2, fun k'0 Q' hq => ⟨fun _ => b5 _ _ hq, fun z => absurd hc1 z⟩⟩
    · have hf := Fr_ts (Fr_refl (fun i k => 79 ≤ i) M) f4
      exact Or.inr ⟨c8, c9, c10, N11, hf, h1, h2, fun k'0 Q' hq => ⟨fun _ => b5 _ _ hq, fun z => absurd hc1 z⟩⟩
  · have h1 := h1.2 hc1
    have h2 := h2.2 hc1
    rcases u_wX8_pleased_81 x1 x2 s0 v5 v6 M h1 h2 with ⟨c16, N17, f14, h1, h2, b15⟩ | ⟨c18, c19, c20, N21, f14, h1, h2, b15⟩
    · have hf := Fr_ts (Fr_refl (fun i k => 79 ≤ i) M) f14
      exact Or.inl ⟨c16, N17, hf, h1, h2, fun k'0 Q' hq => ⟨fun z => absurd z hc1, fun _ => b15 _ _ hq⟩⟩
    · have hf := Fr_ts (Fr_refl (fun i k => 79 ≤ i) M) f14
      exact Or.inr ⟨c18, c19, c20, N21, hf, h1, h2, fun k'0 Q' hq => ⟨fun z => absurd z hc1, fun _ => b15 _ _ hq⟩⟩
set_option maxHeartbeats 4000000 in
theorem u_wX8_pleased_99 (x1 : Int32) (x2 : Int32) {Qa Qb : Int32 → Mem → Prop} (s0 : Int32) (M : Mem) (h1 : wX8_pleased_99 x1 x2 Qa s0 M) (h2 : wX8_pleased_99 x1 x2 Qb s0 M) : (∃ (a0 : Int32) (M' : Mem), Fr (fun i k => 79 ≤ i) M M' ∧ Qa a0 M' ∧ Qb a0 M' ∧ ∀ (Q' : Int32 → Mem → Prop), Q' a0 M' → wX8_pleased_99 x1 x2 Q' s0 M) := by
  have h1 : Qa s0 M := h1
  have h2 : Qb s0 M := h2
  exact ⟨s0, M, (Fr_refl (fun i k => 79 ≤ i) M), h1, h2, fun Q' hq => hq⟩
set_option maxHeartbeats 4000000 in
theorem u_wX8_pleased_33 (x1 : Int32) (x2 : Int32) {Qa Qb : Int32 → Mem → Prop} : ∀ (n1 n2 : Nat) (v3 : Int32) (v4 : Int32) (v5 : Int32) (M : Mem), wX8_pleased_33 x1 x2 Qa n1 v3 v4 v5 M → wX8_pleased_33 x1 x2 Qb n2 v3 v4 v5 M → (∃ (a0 : Int32) (M' : Mem), Fr (fun i k => 79 ≤ i) M M' ∧ Qa a0 M' ∧ Qb a0 M' ∧ ∀ (Q' : Int32 → Mem → Prop), Q' a0 M' → wX8_pleased_33 x1 x2 Q' n1 v3 v4 v5 M) := by
  intro n1
  induction n1 with
  | zero => intro _ _ _ _ _ h1 _; exact h1.elim
  | succ n ih =>
    intro n2 v3 v4 v5 M h1 h2
    cases n2 with
    | zero => exact h2.elim
    | succ m =>
      have h1 : (vp_in (0 : Int32) (ln 81) ∧ (((M 81 (0 : Int32).toNatClampNeg) ≤ v5 → ((¬ x2 = 0 → wX8_pleased_99 x1 x2 Qa v4 M) ∧ (x2 = 0 → wX8_pleased_99 x1 x2 Qa v3 M))) ∧ (¬ (M 81 (0 : Int32).toNatClampNeg) ≤ v5 → (wX8_pleasedBy x1 v5 M (fun r7 M6 => ((r7 ≤ v4 → wX8_pleased_66 x1 x2 (wX8_pleased_33 x1 x2 Qa n) Qa v4 v5 r7 v3 M6) ∧ (¬ r7 ≤ v4 → wX8_pleased_66 x1 x2 (wX8_pleased_33 x1 x2 Qa n) Qa v4 v5 r7 v5 M6))))))) := h1
      have h2 : (vp_in (0 : Int32) (ln 81) ∧ (((M 81 (0 : Int32).toNatClampNeg) ≤ v5 → ((¬ x2 = 0 → wX8_pleased_99 x1 x2 Qb v4 M) ∧ (x2 = 0 → wX8_pleased_99 x1 x2 Qb v3 M))) ∧ (¬ (M 81 (0 : Int32).toNatClampNeg) ≤ v5 → (wX8_pleasedBy x1 v5 M (fun r7 M6 => ((r7 ≤ v4 → wX8_pleased_66 x1 x2 (wX8_pleased_33 x1 x2 Qb m) Qb v4 v5 r7 v3 M6) ∧ (¬ r7 ≤ v4 → wX8_pleased_66 x1 x2 (wX8_pleased_33 x1 x2 Qb m) Qb v4 v5 r7 v5 M6))))))) := h2
      have s1 := h1.1
      have h1 := h1.2
      have h2 := h2.2
      by_cases hc2 : (M 81 (0 : Int32).toNatClampNeg) ≤ v5
      · have h1 := h1.1 hc2
        have h2 := h2.1 hc2
        by_cases hc3 : x2 = 0
        · have h1 := h1.2 hc3
          have h2 := h2.2 hc3
          obtain ⟨c8, N9, f6, h1, h2, b7⟩ := u_wX8_pleased_99 x1 x2 v3 M h1 h2
          have hf := Fr_ts (Fr_refl (fun i k => 79 ≤ i) M) f6
          exact ⟨c8, N9, hf, h1, h2, fun Q' hq => ⟨s1, ⟨fun _ => ⟨fun z => absurd hc3 z, fun _ => b7 _ hq⟩, fun z => absurd hc2 z⟩⟩⟩
        · have h1 := h1.1 hc3
          have h2 := h2.1 hc3
          obtain ⟨c14, N15, f12, h1, h2, b13⟩ := u_wX8_pleased_99 x1 x2 v4 M h1 h2
          have hf := Fr_ts (Fr_refl (fun i k => 79 ≤ i) M) f12
          exact ⟨c14, N15, hf, h1, h2, fun Q' hq => ⟨s1, ⟨fun _ => ⟨fun _ => b13 _ hq, fun z => absurd z hc3⟩, fun z => absurd hc2 z⟩⟩⟩
      · have h1 := h1.2 hc2
        have h2 := h2.2 hc2
        obtain ⟨r7, M6, f16, h1, h2, b17⟩ := u_wX8_pleasedBy x1 v5 M h1 h2
        have g18 := Fr_tr (Fr_refl (fun i k => 79 ≤ i) M) f16 (fun i k (h : 79 ≤ i) => (show 79 ≤ i from by omega))
        by_cases hc19 : r7 ≤ v4
        · have h1 := h1.1 hc19
          have h2 := h2.1 hc19
          rcases u_wX8_pleased_66 x1 x2 v4 v5 r7 v3 M6 h1 h2 with ⟨c24, N25, f22, h1, h2, b23⟩ | ⟨c26, c27, c28, N29, f22, h1, h2, b23⟩
          · have hf := Fr_ts g18 f22
            exact ⟨c24, N25, hf, h1, h2, fun Q' hq => ⟨s1, ⟨fun z => absurd z hc2, fun _ => b17 _ ⟨fun _ => b23 _ _ hq, fun z => absurd hc19 z⟩⟩⟩⟩
          · have hf := Fr_ts g18 f22
            obtain ⟨c32, N33, f30, h1, h2, b31⟩ := ih m c26 c27 c28 N29 h1 h2
            have hf := Fr_ts hf f30
            exact ⟨c32, N33, hf, h1, h2, fun Q' hq => ⟨s1, ⟨fun z => absurd z hc2, fun _ => b17 _ ⟨fun _ => b23 _ _ (b31 _ hq), fun z => absurd hc19 z⟩⟩⟩⟩
        · have h1 := h1.2 hc19
          have h2 := h2.2 hc19
          rcases u_wX8_pleased_66 x1 x2 v4 v5 r7 v5 M6 h1 h2 with ⟨c38, N39, f36, h1, h2, b37⟩ | ⟨c40, c41, c42, N43, f36, h1, h2, b37⟩
          · have hf := Fr_ts g18 f36
            exact ⟨c38, N39, hf, h1, h2, fun Q' hq => ⟨s1, ⟨fun z => absurd z hc2, fun _ => b17 _ ⟨fun z => absurd z hc19, fun _ => b37 _ _ hq⟩⟩⟩⟩
          · have hf := Fr_ts g18 f36
            obtain ⟨c46, N47, f44, h1, h2, b45⟩ := ih m c40 c41 c42 N43 h1 h2
            have hf := Fr_ts hf f44
            exact ⟨c46, N47, hf, h1, h2, fun Q' hq => ⟨s1, ⟨fun z => absurd z hc2, fun _ => b17 _ ⟨fun z => absurd z hc19, fun _ => b37 _ _ (b45 _ hq)⟩⟩⟩⟩
set_option maxHeartbeats 4000000 in
theorem u_wX8_pleased (x1 : Int32) (x2 : Int32) {Qa Qb : Int32 → Mem → Prop} (M : Mem) (h1 : wX8_pleased x1 x2 M Qa) (h2 : wX8_pleased x1 x2 M Qb) : (∃ (a0 : Int32) (M' : Mem), Fr (fun i k => 79 ≤ i) M M' ∧ Qa a0 M' ∧ Qb a0 M' ∧ ∀ (Q' : Int32 → Mem → Prop), Q' a0 M' → wX8_pleased x1 x2 M Q') := by
  have h1 : (wX8_in x1.toInt64 (1 : Int64) (100 : Int64) M (fun r2 M1 => ((r2 = 0 → wX8_pleased_22 x1 x2 Qa M1) ∧ (¬ r2 = 0 → (wX8_in x2.toInt64 (0 : Int64) (1 : Int64) M1 (fun r4 M3 => ((¬ r4 = 0 → (∃ n5, wX8_pleased_33 x1 x2 Qa n5 (0 : Int32) (-4 : Int32) (0 : Int32) M3)) ∧ (r4 = 0 → wX8_pleased_22 x1 x2 Qa M3)))))))) := h1
  have h2 : (wX8_in x1.toInt64 (1 : Int64) (100 : Int64) M (fun r2 M1 => ((r2 = 0 → wX8_pleased_22 x1 x2 Qb M1) ∧ (¬ r2 = 0 → (wX8_in x2.toInt64 (0 : Int64) (1 : Int64) M1 (fun r4 M3 => ((¬ r4 = 0 → (∃ n5, wX8_pleased_33 x1 x2 Qb n5 (0 : Int32) (-4 : Int32) (0 : Int32) M3)) ∧ (r4 = 0 → wX8_pleased_22 x1 x2 Qb M3)))))))) := h2
  obtain ⟨r2, M1, f1, h1, h2, b2⟩ := u_wX8_in x1.toInt64 (1 : Int64) (100 : Int64) M h1 h2
  have g3 := Fr_tr (Fr_refl (fun i k => 79 ≤ i) M) f1 (fun i k (h : False) => h.elim)
  by_cases hc4 : r2 = 0
  · have h1 := h1.1 hc4
    have h2 := h2.1 hc4
    obtain ⟨c9, N10, f7, h1, h2, b8⟩ := u_wX8_pleased_22 x1 x2 M1 h1 h2
    have hf := Fr_ts g3 f7
    exact ⟨c9, N10, hf, h1, h2, fun Q' hq => b2 _ ⟨fun _ => b8 _ hq, fun z => absurd hc4 z⟩⟩
  · have h1 := h1.2 hc4
    have h2 := h2.2 hc4
    obtain ⟨r4, M3, f11, h1, h2, b12⟩ := u_wX8_in x2.toInt64 (0 : Int64) (1 : Int64) M1 h1 h2
    have g13 := Fr_tr g3 f11 (fun i k (h : False) => h.elim)
    by_cases hc14 : r4 = 0
    · have h1 := h1.2 hc14
      have h2 := h2.2 hc14
      obtain ⟨c19, N20, f17, h1, h2, b18⟩ := u_wX8_pleased_22 x1 x2 M3 h1 h2
      have hf := Fr_ts g13 f17
      exact ⟨c19, N20, hf, h1, h2, fun Q' hq => b2 _ ⟨fun z => absurd z hc4, fun _ => b12 _ ⟨fun z => absurd hc14 z, fun _ => b18 _ hq⟩⟩⟩
    · have h1 := h1.1 hc14
      have h2 := h2.1 hc14
      obtain ⟨n5_a, h1⟩ := h1
      obtain ⟨n5_b, h2⟩ := h2
      obtain ⟨c25, N26, f23, h1, h2, b24⟩ := u_wX8_pleased_33 x1 x2 n5_a n5_b (0 : Int32) (-4 : Int32) (0 : Int32) M3 h1 h2
      have hf := Fr_ts g13 f23
      exact ⟨c25, N26, hf, h1, h2, fun Q' hq => b2 _ ⟨fun z => absurd z hc4, fun _ => b12 _ ⟨fun _ => ⟨n5_a, b24 _ hq⟩, fun z => absurd z hc14⟩⟩⟩
set_option maxHeartbeats 4000000 in
theorem u_wX8_copy_2 (x1 : Int32) (x2 : Int32) {Qa Qb : Mem → Prop} : ∀ (n1 n2 : Nat) (v3 : Int32) (M : Mem), wX8_copy_2 x1 x2 Qa n1 v3 M → wX8_copy_2 x1 x2 Qb n2 v3 M → (∃ (M' : Mem), Fr (fun i k => 79 ≤ i) M M' ∧ Qa M' ∧ Qb M' ∧ ∀ (Q' : Mem → Prop), Q' M' → wX8_copy_2 x1 x2 Q' n1 v3 M) := by
  intro n1
  induction n1 with
  | zero => intro _ _ _ h1 _; exact h1.elim
  | succ n ih =>
    intro n2 v3 M h1 h2
    cases n2 with
    | zero => exact h2.elim
    | succ m =>
      have h1 : (((40 : Int32) ≤ v3 → (vp_in x1 (ln 91) ∧ (vp_in x2 (ln 91) ∧ (vp_in x1 (ln 92) ∧ (vp_in x2 (ln 92) ∧ Qa (mu (mu M 91 x2.toNatClampNeg (M 91 x1.toNatClampNeg)) 92 x2.toNatClampNeg ((mu M 91 x2.toNatClampNeg (M 91 x1.toNatClampNeg)) 92 x1.toNatClampNeg))))))) ∧ (¬ (40 : Int32) ≤ v3 → (vp_in (((40 : Int32) * x1) + v3) (ln 90) ∧ (vp_in (((40 : Int32) * x2) + v3) (ln 90) ∧ wX8_copy_2 x1 x2 Qa n (v3 + (1 : Int32)) (mu M 90 (((40 : Int32) * x2) + v3).toNatClampNeg (M 90 (((40 : Int32) * x1) + v3).toNatClampNeg)))))) := h1
      have h2 : (((40 : Int32) ≤ v3 → (vp_in x1 (ln 91) ∧ (vp_in x2 (ln 91) ∧ (vp_in x1 (ln 92) ∧ (vp_in x2 (ln 92) ∧ Qb (mu (mu M 91 x2.toNatClampNeg (M 91 x1.toNatClampNeg)) 92 x2.toNatClampNeg ((mu M 91 x2.toNatClampNeg (M 91 x1.toNatClampNeg)) 92 x1.toNatClampNeg))))))) ∧ (¬ (40 : Int32) ≤ v3 → (vp_in (((40 : Int32) * x1) + v3) (ln 90) ∧ (vp_in (((40 : Int32) * x2) + v3) (ln 90) ∧ wX8_copy_2 x1 x2 Qb m (v3 + (1 : Int32)) (mu M 90 (((40 : Int32) * x2) + v3).toNatClampNeg (M 90 (((40 : Int32) * x1) + v3).toNatClampNeg)))))) := h2
      by_cases hc1 : (40 : Int32) ≤ v3
      · have h1 := h1.1 hc1
        have h2 := h2.1 hc1
        have s2 := h1.1
        have h1 := h1.2
        have h2 := h2.2
        have s3 := h1.1
        have h1 := h1.2
        have h2 := h2.2
        have s4 := h1.1
        have h1 := h1.2
        have h2 := h2.2
        have s5 := h1.1
        have h1 := h1.2
        have h2 := h2.2
        exact ⟨(mu (mu M 91 x2.toNatClampNeg (M 91 x1.toNatClampNeg)) 92 x2.toNatClampNeg ((mu M 91 x2.toNatClampNeg (M 91 x1.toNatClampNeg)) 92 x1.toNatClampNeg)), (Fr_mu (Fr_mu (Fr_refl (fun i k => 79 ≤ i) M) (show 79 ≤ 91 from by omega)) (show 79 ≤ 92 from by omega)), h1, h2, fun Q' hq => ⟨fun _ => ⟨s2, ⟨s3, ⟨s4, ⟨s5, hq⟩⟩⟩⟩, fun z => absurd hc1 z⟩⟩
      · have h1 := h1.2 hc1
        have h2 := h2.2 hc1
        have s6 := h1.1
        have h1 := h1.2
        have h2 := h2.2
        have s7 := h1.1
        have h1 := h1.2
        have h2 := h2.2
        obtain ⟨N12, f10, h1, h2, b11⟩ := ih m (v3 + (1 : Int32)) (mu M 90 (((40 : Int32) * x2) + v3).toNatClampNeg (M 90 (((40 : Int32) * x1) + v3).toNatClampNeg)) h1 h2
        have hf := Fr_ts (Fr_mu (Fr_refl (fun i k => 79 ≤ i) M) (show 79 ≤ 90 from by omega)) f10
        exact ⟨N12, hf, h1, h2, fun Q' hq => ⟨fun z => absurd z hc1, fun _ => ⟨s6, ⟨s7, b11 _ hq⟩⟩⟩⟩
set_option maxHeartbeats 4000000 in
theorem u_wX8_copy (x1 : Int32) (x2 : Int32) {Qa Qb : Mem → Prop} (M : Mem) (h1 : wX8_copy x1 x2 M Qa) (h2 : wX8_copy x1 x2 M Qb) : (∃ (M' : Mem), Fr (fun i k => 79 ≤ i) M M' ∧ Qa M' ∧ Qb M' ∧ ∀ (Q' : Mem → Prop), Q' M' → wX8_copy x1 x2 M Q') := by
  have h1 : (∃ n1, wX8_copy_2 x1 x2 Qa n1 (0 : Int32) M) := h1
  have h2 : (∃ n1, wX8_copy_2 x1 x2 Qb n1 (0 : Int32) M) := h2
  obtain ⟨n1_a, h1⟩ := h1
  obtain ⟨n1_b, h2⟩ := h2
  obtain ⟨N5, f3, h1, h2, b4⟩ := u_wX8_copy_2 x1 x2 n1_a n1_b (0 : Int32) M h1 h2
  have hf := Fr_ts (Fr_refl (fun i k => 79 ≤ i) M) f3
  exact ⟨N5, hf, h1, h2, fun Q' hq => ⟨n1_a, b4 _ hq⟩⟩
set_option maxHeartbeats 4000000 in
theorem u_wX8_keep {Qa Qb : Int32 → Mem → Prop} (M : Mem) (h1 : wX8_keep M Qa) (h2 : wX8_keep M Qb) : (∃ (a0 : Int32) (M' : Mem), Fr (fun i k => 79 ≤ i) M M' ∧ Qa a0 M' ∧ Qb a0 M' ∧ ∀ (Q' : Int32 → Mem → Prop), Q' a0 M' → wX8_keep M Q') := by
  have h1 : ((¬ (M 79 14) = (2 : Int32) → (wX8_copy (0 : Int32) ((mu M 79 14 ((M 79 14) + (1 : Int32))) 79 14) (mu M 79 14 ((M 79 14) + (1 : Int32))) (fun M1 => Qa (M1 79 14) M1))) ∧ ((M 79 14) = (2 : Int32) → Qa (-3 : Int32) M)) := h1
  have h2 : ((¬ (M 79 14) = (2 : Int32) → (wX8_copy (0 : Int32) ((mu M 79 14 ((M 79 14) + (1 : Int32))) 79 14) (mu M 79 14 ((M 79 14) + (1 : Int32))) (fun M1 => Qb (M1 79 14) M1))) ∧ ((M 79 14) = (2 : Int32) → Qb (-3 : Int32) M)) := h2
  by_cases hc1 : (M 79 14) = (2 : Int32)
  · have h1 := h1.2 hc1
    have h2 := h2.2 hc1
    exact ⟨(-3 : Int32), M, (Fr_refl (fun i k => 79 ≤ i) M), h1, h2, fun Q' hq => ⟨fun z => absurd hc1 z, fun _ => hq⟩⟩
  · have h1 := h1.1 hc1
    have h2 := h2.1 hc1
    obtain ⟨M1, f2, h1, h2, b3⟩ := u_wX8_copy (0 : Int32) ((mu M 79 14 ((M 79 14) + (1 : Int32))) 79 14) (mu M 79 14 ((M 79 14) + (1 : Int32))) h1 h2
    have g4 := Fr_tr (Fr_mu (Fr_refl (fun i k => 79 ≤ i) M) (show 79 ≤ 79 from by omega)) f2 (fun i k (h : 79 ≤ i) => (show 79 ≤ i from by omega))
    exact ⟨(M1 79 14), M1, g4, h1, h2, fun Q' hq => ⟨fun _ => b3 _ hq, fun z => absurd z hc1⟩⟩
set_option maxHeartbeats 4000000 in
theorem u_wX8_back {Qa Qb : Int32 → Mem → Prop} (M : Mem) (h1 : wX8_back M Qa) (h2 : wX8_back M Qb) : (∃ (a0 : Int32) (M' : Mem), Fr (fun i k => 79 ≤ i) M M' ∧ Qa a0 M' ∧ Qb a0 M' ∧ ∀ (Q' : Int32 → Mem → Prop), Q' a0 M' → wX8_back M Q') := by
  have h1 : ((¬ (M 79 14) = 0 → (wX8_copy (M 79 14) (0 : Int32) M (fun M1 => Qa ((mu M1 79 14 ((M1 79 14) - (1 : Int32))) 79 14) (mu M1 79 14 ((M1 79 14) - (1 : Int32)))))) ∧ ((M 79 14) = 0 → Qa (-2 : Int32) M)) := h1
  have h2 : ((¬ (M 79 14) = 0 → (wX8_copy (M 79 14) (0 : Int32) M (fun M1 => Qb ((mu M1 79 14 ((M1 79 14) - (1 : Int32))) 79 14) (mu M1 79 14 ((M1 79 14) - (1 : Int32)))))) ∧ ((M 79 14) = 0 → Qb (-2 : Int32) M)) := h2
  by_cases hc1 : (M 79 14) = 0
  · have h1 := h1.2 hc1
    have h2 := h2.2 hc1
    exact ⟨(-2 : Int32), M, (Fr_refl (fun i k => 79 ≤ i) M), h1, h2, fun Q' hq => ⟨fun z => absurd hc1 z, fun _ => hq⟩⟩
  · have h1 := h1.1 hc1
    have h2 := h2.1 hc1
    obtain ⟨M1, f2, h1, h2, b3⟩ := u_wX8_copy (M 79 14) (0 : Int32) M h1 h2
    have g4 := Fr_tr (Fr_refl (fun i k => 79 ≤ i) M) f2 (fun i k (h : 79 ≤ i) => (show 79 ≤ i from by omega))
    exact ⟨((mu M1 79 14 ((M1 79 14) - (1 : Int32))) 79 14), (mu M1 79 14 ((M1 79 14) - (1 : Int32))), (Fr_mu g4 (show 79 ≤ 79 from by omega)), h1, h2, fun Q' hq => ⟨fun _ => b3 _ hq, fun z => absurd z hc1⟩⟩
set_option maxHeartbeats 4000000 in
theorem u_wX8_count (x1 : Int32) {Qa Qb : Int32 → Mem → Prop} (M : Mem) (h1 : wX8_count x1 M Qa) (h2 : wX8_count x1 M Qb) : (∃ (a0 : Int32) (M' : Mem), Fr (fun i k => False) M M' ∧ Qa a0 M' ∧ Qb a0 M' ∧ ∀ (Q' : Int32 → Mem → Prop), Q' a0 M' → wX8_count x1 M Q') := by
  have h1 : ((x1 = (0 : Int32) → (vp_in (0 : Int32) (ln 81) ∧ Qa (M 81 (0 : Int32).toNatClampNeg) M)) ∧ (¬ x1 = (0 : Int32) → ((x1 = (1 : Int32) → (vp_in (0 : Int32) (ln 82) ∧ Qa (M 82 (0 : Int32).toNatClampNeg) M)) ∧ (¬ x1 = (1 : Int32) → ((x1 = (2 : Int32) → (vp_in (0 : Int32) (ln 87) ∧ Qa (M 87 (0 : Int32).toNatClampNeg) M)) ∧ (¬ x1 = (2 : Int32) → ((x1 = (3 : Int32) → (vp_in (0 : Int32) (ln 91) ∧ Qa (M 91 (0 : Int32).toNatClampNeg) M)) ∧ (¬ x1 = (3 : Int32) → ((x1 = (4 : Int32) → (vp_in (0 : Int32) (ln 92) ∧ Qa (M 92 (0 : Int32).toNatClampNeg) M)) ∧ (¬ x1 = (4 : Int32) → ((x1 = (5 : Int32) → Qa (M 79 15) M) ∧ (¬ x1 = (5 : Int32) → ((x1 = (6 : Int32) → Qa (M 79 14) M) ∧ (¬ x1 = (6 : Int32) → ((x1 = (7 : Int32) → Qa (M 79 0) M) ∧ (¬ x1 = (7 : Int32) → Qa (-1 : Int32) M)))))))))))))))) := h1
  have h2 : ((x1 = (0 : Int32) → (vp_in (0 : Int32) (ln 81) ∧ Qb (M 81 (0 : Int32).toNatClampNeg) M)) ∧ (¬ x1 = (0 : Int32) → ((x1 = (1 : Int32) → (vp_in (0 : Int32) (ln 82) ∧ Qb (M 82 (0 : Int32).toNatClampNeg) M)) ∧ (¬ x1 = (1 : Int32) → ((x1 = (2 : Int32) → (vp_in (0 : Int32) (ln 87) ∧ Qb (M 87 (0 : Int32).toNatClampNeg) M)) ∧ (¬ x1 = (2 : Int32) → ((x1 = (3 : Int32) → (vp_in (0 : Int32) (ln 91) ∧ Qb (M 91 (0 : Int32).toNatClampNeg) M)) ∧ (¬ x1 = (3 : Int32) → ((x1 = (4 : Int32) → (vp_in (0 : Int32) (ln 92) ∧ Qb (M 92 (0 : Int32).toNatClampNeg) M)) ∧ (¬ x1 = (4 : Int32) → ((x1 = (5 : Int32) → Qb (M 79 15) M) ∧ (¬ x1 = (5 : Int32) → ((x1 = (6 : Int32) → Qb (M 79 14) M) ∧ (¬ x1 = (6 : Int32) → ((x1 = (7 : Int32) → Qb (M 79 0) M) ∧ (¬ x1 = (7 : Int32) → Qb (-1 : Int32) M)))))))))))))))) := h2
  by_cases hc1 : x1 = (0 : Int32)
  · have h1 := h1.1 hc1
    have h2 := h2.1 hc1
    have s2 := h1.1
    have h1 := h1.2
    have h2 := h2.2
    exact ⟨(M 81 (0 : Int32).toNatClampNeg), M, (Fr_refl (fun i k => False) M), h1, h2, fun Q' hq => ⟨fun _ => ⟨s2, hq⟩, fun z => absurd hc1 z⟩⟩
  · have h1 := h1.2 hc1
    have h2 := h2.2 hc1
    by_cases hc3 : x1 = (1 : Int32)
    · have h1 := h1.1 hc3
      have h2 := h2.1 hc3
      have s4 := h1.1
      have h1 := h1.2
      have h2 := h2.2
      exact ⟨(M 82 (0 : Int32).toNatClampNeg), M, (Fr_refl (fun i k => False) M), h1, h2, fun Q' hq => ⟨fun z => absurd z hc1, fun _ => ⟨fun _ => ⟨s4, hq⟩, fun z => absurd hc3 z⟩⟩⟩
    · have h1 := h1.2 hc3
      have h2 := h2.2 hc3
      by_cases hc5 : x1 = (2 : Int32)
      · have h1 := h1.1 hc5
        have h2 := h2.1 hc5
        have s6 := h1.1
        have h1 := h1.2
        have h2 := h2.2
        exact ⟨(M 87 (0 : Int32).toNatClampNeg), M, (Fr_refl (fun i k => False) M), h1, h2, fun Q' hq => ⟨fun z => absurd z hc1, fun _ => ⟨fun z => absurd z hc3, fun _ => ⟨fun _ => ⟨s6, hq⟩, fun z => absurd hc5 z⟩⟩⟩⟩
      · have h1 := h1.2 hc5
        have h2 := h2.2 hc5
        by_cases hc7 : x1 = (3 : Int32)
        · have h1 := h1.1 hc7
          have h2 := h2.1 hc7
          have s8 := h1.1
          have h1 := h1.2
          have h2 := h2.2
          exact ⟨(M 91 (0 : Int32).toNatClampNeg), M, (Fr_refl (fun i k => False) M), h1, h2, fun Q' hq => ⟨fun z => absurd z hc1, fun _ => ⟨fun z => absurd z hc3, fun _ => ⟨fun z => absurd z hc5, fun _ => ⟨fun _ => ⟨s8, hq⟩, fun z => absurd hc7 z⟩⟩⟩⟩⟩
        · have h1 := h1.2 hc7
          have h2 := h2.2 hc7
          by_cases hc9 : x1 = (4 : Int32)
          · have h1 := h1.1 hc9
            have h2 := h2.1 hc9
            have s10 := h1.1
            have h1 := h1.2
            have h2 := h2.2
            exact ⟨(M 92 (0 : Int32).toNatClampNeg), M, (Fr_refl (fun i k => False) M), h1, h2, fun Q' hq => ⟨fun z => absurd z hc1, fun _ => ⟨fun z => absurd z hc3, fun _ => ⟨fun z => absurd z hc5, fun _ => ⟨fun z => absurd z hc7, fun _ => ⟨fun _ => ⟨s10, hq⟩, fun z => absurd hc9 z⟩⟩⟩⟩⟩⟩
          · have h1 := h1.2 hc9
            have h2 := h2.2 hc9
            by_cases hc11 : x1 = (5 : Int32)
            · have h1 := h1.1 hc11
              have h2 := h2.1 hc11
              exact ⟨(M 79 15), M, (Fr_refl (fun i k => False) M), h1, h2, fun Q' hq => ⟨fun z => absurd z hc1, fun _ => ⟨fun z => absurd z hc3, fun _ => ⟨fun z => absurd z hc5, fun _ => ⟨fun z => absurd z hc7, fun _ => ⟨fun z => absurd z hc9, fun _ => ⟨fun _ => hq, fun z => absurd hc11 z⟩⟩⟩⟩⟩⟩⟩
            · have h1 := h1.2 hc11
              have h2 := h2.2 hc11
              by_cases hc12 : x1 = (6 : Int32)
              · have h1 := h1.1 hc12
                have h2 := h2.1 hc12
                exact ⟨(M 79 14), M, (Fr_refl (fun i k => False) M), h1, h2, fun Q' hq => ⟨fun z => absurd z hc1, fun _ => ⟨fun z => absurd z hc3, fun _ => ⟨fun z => absurd z hc5, fun _ => ⟨fun z => absurd z hc7, fun _ => ⟨fun z => absurd z hc9, fun _ => ⟨fun z => absurd z hc11, fun _ => ⟨fun _ => hq, fun z => absurd hc12 z⟩⟩⟩⟩⟩⟩⟩⟩
              · have h1 := h1.2 hc12
                have h2 := h2.2 hc12
                by_cases hc13 : x1 = (7 : Int32)
                · have h1 := h1.1 hc13
                  have h2 := h2.1 hc13
                  exact ⟨(M 79 0), M, (Fr_refl (fun i k => False) M), h1, h2, fun Q' hq => ⟨fun z => absurd z hc1, fun _ => ⟨fun z => absurd z hc3, fun _ => ⟨fun z => absurd z hc5, fun _ => ⟨fun z => absurd z hc7, fun _ => ⟨fun z => absurd z hc9, fun _ => ⟨fun z => absurd z hc11, fun _ => ⟨fun z => absurd z hc12, fun _ => ⟨fun _ => hq, fun z => absurd hc13 z⟩⟩⟩⟩⟩⟩⟩⟩⟩
                · have h1 := h1.2 hc13
                  have h2 := h2.2 hc13
                  exact ⟨(-1 : Int32), M, (Fr_refl (fun i k => False) M), h1, h2, fun Q' hq => ⟨fun z => absurd z hc1, fun _ => ⟨fun z => absurd z hc3, fun _ => ⟨fun z => absurd z hc5, fun _ => ⟨fun z => absurd z hc7, fun _ => ⟨fun z => absurd z hc9, fun _ => ⟨fun z => absurd z hc11, fun _ => ⟨fun z => absurd z hc12, fun _ => ⟨fun z => absurd z hc13, fun _ => hq⟩⟩⟩⟩⟩⟩⟩⟩⟩
