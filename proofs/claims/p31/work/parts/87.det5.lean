set_option maxHeartbeats 4000000 in
theorem u_wL_number_53 (x1 : Int32) (x2 : Int32) {Qa Qb : Int32 → Mem → Prop} (s0 : Int32) (M : Mem) (h1 : wL_number_53 x1 x2 Qa s0 M) (h2 : wL_number_53 x1 x2 Qb s0 M) : (∃ (a0 : Int32) (M' : Mem), Fr (fun i k => i ≤ 78) M M' ∧ Qa a0 M' ∧ Qb a0 M' ∧ ∀ (Q' : Int32 → Mem → Prop), Q' a0 M' → wL_number_53 x1 x2 Q' s0 M) := by
  have h1 : ((s0 = 0 ∨ s0 = 1) ∧ Qa s0 M) := h1
  have h2 : ((s0 = 0 ∨ s0 = 1) ∧ Qb s0 M) := h2
  have s1 := h1.1
  have h1 := h1.2
  have h2 := h2.2
  exact ⟨s0, M, (Fr_refl (fun i k => i ≤ 78) M), h1, h2, fun Q' hq => ⟨s1, hq⟩⟩
set_option maxHeartbeats 4000000 in
theorem u_wL_number_52 (x1 : Int32) (x2 : Int32) {Qa Qb : Int32 → Mem → Prop} (M : Mem) (h1 : wL_number_52 x1 x2 Qa M) (h2 : wL_number_52 x1 x2 Qb M) : (∃ (a0 : Int32) (M' : Mem), Fr (fun i k => i ≤ 78) M M' ∧ Qa a0 M' ∧ Qb a0 M' ∧ ∀ (Q' : Int32 → Mem → Prop), Q' a0 M' → wL_number_52 x1 x2 Q' M) := by
  have h1 : wL_number_53 x1 x2 Qa (0 : Int32) M := h1
  have h2 : wL_number_53 x1 x2 Qb (0 : Int32) M := h2
  obtain ⟨c5, N6, f3, h1, h2, b4⟩ := u_wL_number_53 x1 x2 (0 : Int32) M h1 h2
  have hf := Fr_ts (Fr_refl (fun i k => i ≤ 78) M) f3
  exact ⟨c5, N6, hf, h1, h2, fun Q' hq => b4 _ hq⟩
set_option maxHeartbeats 4000000 in
theorem u_wL_number_22 (x1 : Int32) (x2 : Int32) {Qa Qb : Int32 → Mem → Prop} (M : Mem) (h1 : wL_number_22 x1 x2 Qa M) (h2 : wL_number_22 x1 x2 Qb M) : (∃ (a0 : Int32) (M' : Mem), Fr (fun i k => i ≤ 78) M M' ∧ Qa a0 M' ∧ Qb a0 M' ∧ ∀ (Q' : Int32 → Mem → Prop), Q' a0 M' → wL_number_22 x1 x2 Q' M) := by
  have h1 : (¬ (10 : Int32) = 0 ∧ (wX7_write (1 : Int32) (((48 : Int32) + (x1 - (x1 / (10 : Int32)) * (10 : Int32))).toInt64) M (fun r4 M3 => ((r4 ≤ 0 → wL_number_52 x1 x2 Qa M3) ∧ (¬ r4 ≤ 0 → (wX7_write (1 : Int32) x2.toInt64 M3 (fun r6 M5 => ((r6 ≤ 0 → wL_number_52 x1 x2 Qa M5) ∧ (¬ r6 ≤ 0 → wL_number_53 x1 x2 Qa (1 : Int32) M5))))))))) := h1
  have h2 : (¬ (10 : Int32) = 0 ∧ (wX7_write (1 : Int32) (((48 : Int32) + (x1 - (x1 / (10 : Int32)) * (10 : Int32))).toInt64) M (fun r4 M3 => ((r4 ≤ 0 → wL_number_52 x1 x2 Qb M3) ∧ (¬ r4 ≤ 0 → (wX7_write (1 : Int32) x2.toInt64 M3 (fun r6 M5 => ((r6 ≤ 0 → wL_number_52 x1 x2 Qb M5) ∧ (¬ r6 ≤ 0 → wL_number_53 x1 x2 Qb (1 : Int32) M5))))))))) := h2
  have s1 := h1.1
  have h1 := h1.2
  have h2 := h2.2
  obtain ⟨r4, M3, f2, h1, h2, b3⟩ := u_wX7_write (1 : Int32) (((48 : Int32) + (x1 - (x1 / (10 : Int32)) * (10 : Int32))).toInt64) M h1 h2
  have g4 := Fr_tr (Fr_refl (fun i k => i ≤ 78) M) f2 (fun i k (h : i ≤ 78) => (show i ≤ 78 from by omega))
  by_cases hc5 : r4 ≤ 0
  · have h1 := h1.1 hc5
    have h2 := h2.1 hc5
    obtain ⟨c10, N11, f8, h1, h2, b9⟩ := u_wL_number_52 x1 x2 M3 h1 h2
    have hf := Fr_ts g4 f8
    exact ⟨c10, N11, hf, h1, h2, fun Q' hq => ⟨s1, b3 _ ⟨fun _ => b9 _ hq, fun z => absurd hc5 z⟩⟩⟩
  · have h1 := h1.2 hc5
    have h2 := h2.2 hc5
    obtain ⟨r6, M5, f12, h1, h2, b13⟩ := u_wX7_write (1 : Int32) x2.toInt64 M3 h1 h2
    have g14 := Fr_tr g4 f12 (fun i k (h : i ≤ 78) => (show i ≤ 78 from by omega))
    by_cases hc15 : r6 ≤ 0
    · have h1 := h1.1 hc15
      have h2 := h2.1 hc15
      obtain ⟨c20, N21, f18, h1, h2, b19⟩ := u_wL_number_52 x1 x2 M5 h1 h2
      have hf := Fr_ts g14 f18
      exact ⟨c20, N21, hf, h1, h2, fun Q' hq => ⟨s1, b3 _ ⟨fun z => absurd z hc5, fun _ => b13 _ ⟨fun _ => b19 _ hq, fun z => absurd hc15 z⟩⟩⟩⟩
    · have h1 := h1.2 hc15
      have h2 := h2.2 hc15
      obtain ⟨c26, N27, f24, h1, h2, b25⟩ := u_wL_number_53 x1 x2 (1 : Int32) M5 h1 h2
      have hf := Fr_ts g14 f24
      exact ⟨c26, N27, hf, h1, h2, fun Q' hq => ⟨s1, b3 _ ⟨fun z => absurd z hc5, fun _ => b13 _ ⟨fun z => absurd z hc15, fun _ => b25 _ hq⟩⟩⟩⟩
set_option maxHeartbeats 4000000 in
theorem u_wL_number (x1 : Int32) (x2 : Int32) {Qa Qb : Int32 → Mem → Prop} (M : Mem) (h1 : wL_number x1 x2 M Qa) (h2 : wL_number x1 x2 M Qb) : (∃ (a0 : Int32) (M' : Mem), Fr (fun i k => i ≤ 78) M M' ∧ Qa a0 M' ∧ Qb a0 M' ∧ ∀ (Q' : Int32 → Mem → Prop), Q' a0 M' → wL_number x1 x2 M Q') := by
  have h1 : ((x1 < (10 : Int32) → wL_number_22 x1 x2 Qa M) ∧ (¬ x1 < (10 : Int32) → (¬ (10 : Int32) = 0 ∧ (wX7_write (1 : Int32) (((48 : Int32) + (x1 / (10 : Int32))).toInt64) M (fun r2 M1 => ((r2 ≤ 0 → wL_number_52 x1 x2 Qa M1) ∧ (¬ r2 ≤ 0 → wL_number_22 x1 x2 Qa M1))))))) := h1
  have h2 : ((x1 < (10 : Int32) → wL_number_22 x1 x2 Qb M) ∧ (¬ x1 < (10 : Int32) → (¬ (10 : Int32) = 0 ∧ (wX7_write (1 : Int32) (((48 : Int32) + (x1 / (10 : Int32))).toInt64) M (fun r2 M1 => ((r2 ≤ 0 → wL_number_52 x1 x2 Qb M1) ∧ (¬ r2 ≤ 0 → wL_number_22 x1 x2 Qb M1))))))) := h2
  by_cases hc1 : x1 < (10 : Int32)
  · have h1 := h1.1 hc1
    have h2 := h2.1 hc1
    obtain ⟨c6, N7, f4, h1, h2, b5⟩ := u_wL_number_22 x1 x2 M h1 h2
    have hf := Fr_ts (Fr_refl (fun i k => i ≤ 78) M) f4
    exact ⟨c6, N7, hf, h1, h2, fun Q' hq => ⟨fun _ => b5 _ hq, fun z => absurd hc1 z⟩⟩
  · have h1 := h1.2 hc1
    have h2 := h2.2 hc1
    have s8 := h1.1
    have h1 := h1.2
    have h2 := h2.2
    obtain ⟨r2, M1, f9, h1, h2, b10⟩ := u_wX7_write (1 : Int32) (((48 : Int32) + (x1 / (10 : Int32))).toInt64) M h1 h2
    have g11 := Fr_tr (Fr_refl (fun i k => i ≤ 78) M) f9 (fun i k (h : i ≤ 78) => (show i ≤ 78 from by omega))
    by_cases hc12 : r2 ≤ 0
    · have h1 := h1.1 hc12
      have h2 := h2.1 hc12
      obtain ⟨c17, N18, f15, h1, h2, b16⟩ := u_wL_number_52 x1 x2 M1 h1 h2
      have hf := Fr_ts g11 f15
      exact ⟨c17, N18, hf, h1, h2, fun Q' hq => ⟨fun z => absurd z hc1, fun _ => ⟨s8, b10 _ ⟨fun _ => b16 _ hq, fun z => absurd hc12 z⟩⟩⟩⟩
    · have h1 := h1.2 hc12
      have h2 := h2.2 hc12
      obtain ⟨c23, N24, f21, h1, h2, b22⟩ := u_wL_number_22 x1 x2 M1 h1 h2
      have hf := Fr_ts g11 f21
      exact ⟨c23, N24, hf, h1, h2, fun Q' hq => ⟨fun z => absurd z hc1, fun _ => ⟨s8, b10 _ ⟨fun z => absurd z hc12, fun _ => b22 _ hq⟩⟩⟩⟩
set_option maxHeartbeats 4000000 in
theorem u_wL_one_25 (x1 : Int32) (x2 : Int32) {Qa Qb : Int32 → Mem → Prop} (s0 : Int32) (M : Mem) (h1 : wL_one_25 x1 x2 Qa s0 M) (h2 : wL_one_25 x1 x2 Qb s0 M) : (∃ (a0 : Int32) (M' : Mem), Fr (fun i k => i ≤ 78) M M' ∧ Qa a0 M' ∧ Qb a0 M' ∧ ∀ (Q' : Int32 → Mem → Prop), Q' a0 M' → wL_one_25 x1 x2 Q' s0 M) := by
  have h1 : ((s0 = 0 ∨ s0 = 1) ∧ Qa s0 M) := h1
  have h2 : ((s0 = 0 ∨ s0 = 1) ∧ Qb s0 M) := h2
  have s1 := h1.1
  have h1 := h1.2
  have h2 := h2.2
  exact ⟨s0, M, (Fr_refl (fun i k => i ≤ 78) M), h1, h2, fun Q' hq => ⟨s1, hq⟩⟩
set_option maxHeartbeats 4000000 in
theorem u_wL_one_24 (x1 : Int32) (x2 : Int32) {Qa Qb : Int32 → Mem → Prop} (M : Mem) (h1 : wL_one_24 x1 x2 Qa M) (h2 : wL_one_24 x1 x2 Qb M) : (∃ (a0 : Int32) (M' : Mem), Fr (fun i k => i ≤ 78) M M' ∧ Qa a0 M' ∧ Qb a0 M' ∧ ∀ (Q' : Int32 → Mem → Prop), Q' a0 M' → wL_one_24 x1 x2 Q' M) := by
  have h1 : wL_one_25 x1 x2 Qa (0 : Int32) M := h1
  have h2 : wL_one_25 x1 x2 Qb (0 : Int32) M := h2
  obtain ⟨c5, N6, f3, h1, h2, b4⟩ := u_wL_one_25 x1 x2 (0 : Int32) M h1 h2
  have hf := Fr_ts (Fr_refl (fun i k => i ≤ 78) M) f3
  exact ⟨c5, N6, hf, h1, h2, fun Q' hq => b4 _ hq⟩
set_option maxHeartbeats 4000000 in
theorem u_wL_one (x1 : Int32) (x2 : Int32) {Qa Qb : Int32 → Mem → Prop} (M : Mem) (h1 : wL_one x1 x2 M Qa) (h2 : wL_one x1 x2 M Qb) : (∃ (a0 : Int32) (M' : Mem), Fr (fun i k => i ≤ 78) M M' ∧ Qa a0 M' ∧ Qb a0 M' ∧ ∀ (Q' : Int32 → Mem → Prop), Q' a0 M' → wL_one x1 x2 M Q') := by
  have h1 : (wX7_write (1 : Int32) x1.toInt64 M (fun r2 M1 => ((r2 ≤ 0 → wL_one_24 x1 x2 Qa M1) ∧ (¬ r2 ≤ 0 → (wL_number x2 (59 : Int32) M1 (fun r4 M3 => ((r4 = 0 → wL_one_24 x1 x2 Qa M3) ∧ (¬ r4 = 0 → wL_one_25 x1 x2 Qa (1 : Int32) M3)))))))) := h1
  have h2 : (wX7_write (1 : Int32) x1.toInt64 M (fun r2 M1 => ((r2 ≤ 0 → wL_one_24 x1 x2 Qb M1) ∧ (¬ r2 ≤ 0 → (wL_number x2 (59 : Int32) M1 (fun r4 M3 => ((r4 = 0 → wL_one_24 x1 x2 Qb M3) ∧ (¬ r4 = 0 → wL_one_25 x1 x2 Qb (1 : Int32) M3)))))))) := h2
  obtain ⟨r2, M1, f1, h1, h2, b2⟩ := u_wX7_write (1 : Int32) x1.toInt64 M h1 h2
  have g3 := Fr_tr (Fr_refl (fun i k => i ≤ 78) M) f1 (fun i k (h : i ≤ 78) => (show i ≤ 78 from by omega))
  by_cases hc4 : r2 ≤ 0
  · have h1 := h1.1 hc4
    have h2 := h2.1 hc4
    obtain ⟨c9, N10, f7, h1, h2, b8⟩ := u_wL_one_24 x1 x2 M1 h1 h2
    have hf := Fr_ts g3 f7
    exact ⟨c9, N10, hf, h1, h2, fun Q' hq => b2 _ ⟨fun _ => b8 _ hq, fun z => absurd hc4 z⟩⟩
  · have h1 := h1.2 hc4
    have h2 := h2.2 hc4
    obtain ⟨r4, M3, f11, h1, h2, b12⟩ := u_wL_number x2 (59 : Int32) M1 h1 h2
    have g13 := Fr_tr g3 f11 (fun i k (h : i ≤ 78) => (show i ≤ 78 from by omega))
    by_cases hc14 : r4 = 0
    · have h1 := h1.1 hc14
      have h2 := h2.1 hc14
      obtain ⟨c19, N20, f17, h1, h2, b18⟩ := u_wL_one_24 x1 x2 M3 h1 h2
      have hf := Fr_ts g13 f17
      exact ⟨c19, N20, hf, h1, h2, fun Q' hq => b2 _ ⟨fun z => absurd z hc4, fun _ => b12 _ ⟨fun _ => b18 _ hq, fun z => absurd hc14 z⟩⟩⟩
    · have h1 := h1.2 hc14
      have h2 := h2.2 hc14
      obtain ⟨c25, N26, f23, h1, h2, b24⟩ := u_wL_one_25 x1 x2 (1 : Int32) M3 h1 h2
      have hf := Fr_ts g13 f23
      exact ⟨c25, N26, hf, h1, h2, fun Q' hq => b2 _ ⟨fun z => absurd z hc4, fun _ => b12 _ ⟨fun z => absurd z hc14, fun _ => b24 _ hq⟩⟩⟩
set_option maxHeartbeats 4000000 in
theorem u_wL_two_35 (x1 : Int32) (x2 : Int32) (x3 : Int32) {Qa Qb : Int32 → Mem → Prop} (s0 : Int32) (M : Mem) (h1 : wL_two_35 x1 x2 x3 Qa s0 M) (h2 : wL_two_35 x1 x2 x3 Qb s0 M) : (∃ (a0 : Int32) (M' : Mem), Fr (fun i k => i ≤ 78) M M' ∧ Qa a0 M' ∧ Qb a0 M' ∧ ∀ (Q' : Int32 → Mem → Prop), Q' a0 M' → wL_two_35 x1 x2 x3 Q' s0 M) := by
  have h1 : ((s0 = 0 ∨ s0 = 1) ∧ Qa s0 M) := h1
  have h2 : ((s0 = 0 ∨ s0 = 1) ∧ Qb s0 M) := h2
  have s1 := h1.1
  have h1 := h1.2
  have h2 := h2.2
  exact ⟨s0, M, (Fr_refl (fun i k => i ≤ 78) M), h1, h2, fun Q' hq => ⟨s1, hq⟩⟩
set_option maxHeartbeats 4000000 in
theorem u_wL_two_34 (x1 : Int32) (x2 : Int32) (x3 : Int32) {Qa Qb : Int32 → Mem → Prop} (M : Mem) (h1 : wL_two_34 x1 x2 x3 Qa M) (h2 : wL_two_34 x1 x2 x3 Qb M) : (∃ (a0 : Int32) (M' : Mem), Fr (fun i k => i ≤ 78) M M' ∧ Qa a0 M' ∧ Qb a0 M' ∧ ∀ (Q' : Int32 → Mem → Prop), Q' a0 M' → wL_two_34 x1 x2 x3 Q' M) := by
  have h1 : wL_two_35 x1 x2 x3 Qa (0 : Int32) M := h1
  have h2 : wL_two_35 x1 x2 x3 Qb (0 : Int32) M := h2
  obtain ⟨c5, N6, f3, h1, h2, b4⟩ := u_wL_two_35 x1 x2 x3 (0 : Int32) M h1 h2
  have hf := Fr_ts (Fr_refl (fun i k => i ≤ 78) M) f3
  exact ⟨c5, N6, hf, h1, h2, fun Q' hq => b4 _ hq⟩
set_option maxHeartbeats 4000000 in
theorem u_wL_two (x1 : Int32) (x2 : Int32) (x3 : Int32) {Qa Qb : Int32 → Mem → Prop} (M : Mem) (h1 : wL_two x1 x2 x3 M Qa) (h2 : wL_two x1 x2 x3 M Qb) : (∃ (a0 : Int32) (M' : Mem), Fr (fun i k => i ≤ 78) M M' ∧ Qa a0 M' ∧ Qb a0 M' ∧ ∀ (Q' : Int32 → Mem → Prop), Q' a0 M' → wL_two x1 x2 x3 M Q') := by
  have h1 : (wX7_write (1 : Int32) x1.toInt64 M (fun r2 M1 => ((r2 ≤ 0 → wL_two_34 x1 x2 x3 Qa M1) ∧ (¬ r2 ≤ 0 → (wL_number x2 (44 : Int32) M1 (fun r4 M3 => ((r4 = 0 → wL_two_34 x1 x2 x3 Qa M3) ∧ (¬ r4 = 0 → (wL_number x3 (59 : Int32) M3 (fun r6 M5 => ((r6 = 0 → wL_two_34 x1 x2 x3 Qa M5) ∧ (¬ r6 = 0 → wL_two_35 x1 x2 x3 Qa (1 : Int32) M5)))))))))))) := h1
  have h2 : (wX7_write (1 : Int32) x1.toInt64 M (fun r2 M1 => ((r2 ≤ 0 → wL_two_34 x1 x2 x3 Qb M1) ∧ (¬ r2 ≤ 0 → (wL_number x2 (44 : Int32) M1 (fun r4 M3 => ((r4 = 0 → wL_two_34 x1 x2 x3 Qb M3) ∧ (¬ r4 = 0 → (wL_number x3 (59 : Int32) M3 (fun r6 M5 => ((r6 = 0 → wL_two_34 x1 x2 x3 Qb M5) ∧ (¬ r6 = 0 → wL_two_35 x1 x2 x3 Qb (1 : Int32) M5)))))))))))) := h2
  obtain ⟨r2, M1, f1, h1, h2, b2⟩ := u_wX7_write (1 : Int32) x1.toInt64 M h1 h2
  have g3 := Fr_tr (Fr_refl (fun i k => i ≤ 78) M) f1 (fun i k (h : i ≤ 78) => (show i ≤ 78 from by omega))
  by_cases hc4 : r2 ≤ 0
  · have h1 := h1.1 hc4
    have h2 := h2.1 hc4
    obtain ⟨c9, N10, f7, h1, h2, b8⟩ := u_wL_two_34 x1 x2 x3 M1 h1 h2
    have hf := Fr_ts g3 f7
    exact ⟨c9, N10, hf, h1, h2, fun Q' hq => b2 _ ⟨fun _ => b8 _ hq, fun z => absurd hc4 z⟩⟩
  · have h1 := h1.2 hc4
    have h2 := h2.2 hc4
    obtain ⟨r4, M3, f11, h1, h2, b12⟩ := u_wL_number x2 (44 : Int32) M1 h1 h2
    have g13 := Fr_tr g3 f11 (fun i k (h : i ≤ 78) => (show i ≤ 78 from by omega))
    by_cases hc14 : r4 = 0
    · have h1 := h1.1 hc14
      have h2 := h2.1 hc14
      obtain ⟨c19, N20, f17, h1, h2, b18⟩ := u_wL_two_34 x1 x2 x3 M3 h1 h2
      have hf := Fr_ts g13 f17
      exact ⟨c19, N20, hf, h1, h2, fun Q' hq => b2 _ ⟨fun z => absurd z hc4, fun _ => b12 _ ⟨fun _ => b18 _ hq, fun z => absurd hc14 z⟩⟩⟩
    · have h1 := h1.2 hc14
      have h2 := h2.2 hc14
      obtain ⟨r6, M5, f21, h1, h2, b22⟩ := u_wL_number x3 (59 : Int32) M3 h1 h2
      have g23 := Fr_tr g13 f21 (fun i k (h : i ≤ 78) => (show i ≤ 78 from by omega))
      by_cases hc24 : r6 = 0
      · have h1 := h1.1 hc24
        have h2 := h2.1 hc24
        obtain ⟨c29, N30, f27, h1, h2, b28⟩ := u_wL_two_34 x1 x2 x3 M5 h1 h2
        have hf := Fr_ts g23 f27
        exact ⟨c29, N30, hf, h1, h2, fun Q' hq => b2 _ ⟨fun z => absurd z hc4, fun _ => b12 _ ⟨fun z => absurd z hc14, fun _ => b22 _ ⟨fun _ => b28 _ hq, fun z => absurd hc24 z⟩⟩⟩⟩
      · have h1 := h1.2 hc24
        have h2 := h2.2 hc24
        obtain ⟨c35, N36, f33, h1, h2, b34⟩ := u_wL_two_35 x1 x2 x3 (1 : Int32) M5 h1 h2
        have hf := Fr_ts g23 f33
        exact ⟨c35, N36, hf, h1, h2, fun Q' hq => b2 _ ⟨fun z => absurd z hc4, fun _ => b12 _ ⟨fun z => absurd z hc14, fun _ => b22 _ ⟨fun z => absurd z hc24, fun _ => b34 _ hq⟩⟩⟩⟩
