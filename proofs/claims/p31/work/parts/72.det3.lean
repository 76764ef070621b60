set_option maxHeartbeats 4000000 in
theorem u_wX7_write (x1 : Int32) (x2 : Int64) {Qa Qb : Int32 → Mem → Prop} (M : Mem) (h1 : wX7_write x1 x2 M Qa) (h2 : wX7_write x1 x2 M Qb) : (∃ (a0 : Int32) (M' : Mem), Fr (fun i k => i ≤ 78) M M' ∧ Qa a0 M' ∧ Qb a0 M' ∧ ∀ (Q' : Int32 → Mem → Prop), Q' a0 M' → wX7_write x1 x2 M Q') := by
  have h1 : (wX7_within x1 (1 : Int32) (8 : Int32) M (fun r2 M1 => ((¬ r2 = 0 → (wX5_size 1 M1 (fun r4 M3 => (((r4 + x1) ≤ (300 : Int32) → (wX5_append 1 x1 x2 M3 (fun M5 => (wX5_size 1 M5 (fun r7 M6 => Qa r7 M6))))) ∧ (¬ (r4 + x1) ≤ (300 : Int32) → Qa (-3 : Int32) M3))))) ∧ (r2 = 0 → Qa (-1 : Int32) M1)))) := h1
  have h2 : (wX7_within x1 (1 : Int32) (8 : Int32) M (fun r2 M1 => ((¬ r2 = 0 → (wX5_size 1 M1 (fun r4 M3 => (((r4 + x1) ≤ (300 : Int32) → (wX5_append 1 x1 x2 M3 (fun M5 => (wX5_size 1 M5 (fun r7 M6 => Qb r7 M6))))) ∧ (¬ (r4 + x1) ≤ (300 : Int32) → Qb (-3 : Int32) M3))))) ∧ (r2 = 0 → Qb (-1 : Int32) M1)))) := h2
  obtain ⟨r2, M1, f1, h1, h2, b2⟩ := u_wX7_within x1 (1 : Int32) (8 : Int32) M h1 h2
  have g3 := Fr_tr (Fr_refl (fun i k => i ≤ 78) M) f1 (fun i k (h : False) => h.elim)
  by_cases hc4 : r2 = 0
  · have h1 := h1.2 hc4
    have h2 := h2.2 hc4
    exact ⟨(-1 : Int32), M1, g3, h1, h2, fun Q' hq => b2 _ ⟨fun z => absurd hc4 z, fun _ => hq⟩⟩
  · have h1 := h1.1 hc4
    have h2 := h2.1 hc4
    obtain ⟨r4, M3, f5, h1, h2, b6⟩ := u_wX5_size 1 M1 h1 h2
    have g7 := Fr_tr g3 f5 (fun i k (h : False) => h.elim)
    by_cases hc8 : (r4 + x1) ≤ (300 : Int32)
    · have h1 := h1.1 hc8
      have h2 := h2.1 hc8
      obtain ⟨M5, f9, h1, h2, b10⟩ := u_wX5_append 1 x1 x2 M3 h1 h2
      have g11 := Fr_tr g7 f9 (fun i k (h : 1 ≤ i ∧ i ≤ 1 + 2) => (show i ≤ 78 from by omega))
      obtain ⟨r7, M6, f12, h1, h2, b13⟩ := u_wX5_size 1 M5 h1 h2
      have g14 := Fr_tr g11 f12 (fun i k (h : False) => h.elim)
      exact ⟨r7, M6, g14, h1, h2, fun Q' hq => b2 _ ⟨fun _ => b6 _ ⟨fun _ => b10 _ (b13 _ hq), fun z => absurd hc8 z⟩, fun z => absurd z hc4⟩⟩
    · have h1 := h1.2 hc8
      have h2 := h2.2 hc8
      exact ⟨(-3 : Int32), M3, g7, h1, h2, fun Q' hq => b2 _ ⟨fun _ => b6 _ ⟨fun z => absurd z hc8, fun _ => hq⟩, fun z => absurd z hc4⟩⟩
set_option maxHeartbeats 4000000 in
theorem u_wX7_wipe {Qa Qb : Int32 → Mem → Prop} (M : Mem) (h1 : wX7_wipe M Qa) (h2 : wX7_wipe M Qb) : (∃ (a0 : Int32) (M' : Mem), Fr (fun i k => i ≤ 78) M M' ∧ Qa a0 M' ∧ Qb a0 M' ∧ ∀ (Q' : Int32 → Mem → Prop), Q' a0 M' → wX7_wipe M Q') := by
  have h1 : (wX5_clear 1 M (fun r2 M1 => Qa r2 M1)) := h1
  have h2 : (wX5_clear 1 M (fun r2 M1 => Qb r2 M1)) := h2
  obtain ⟨r2, M1, f1, h1, h2, b2⟩ := u_wX5_clear 1 M h1 h2
  have g3 := Fr_tr (Fr_refl (fun i k => i ≤ 78) M) f1 (fun i k (h : 1 ≤ i ∧ i ≤ 1 + 2) => (show i ≤ 78 from by omega))
  exact ⟨r2, M1, g3, h1, h2, fun Q' hq => b2 _ hq⟩
set_option maxHeartbeats 4000000 in
theorem u_wX7_fault {Qa Qb : Int32 → Mem → Prop} (M : Mem) (h1 : wX7_fault M Qa) (h2 : wX7_fault M Qb) : (∃ (a0 : Int32) (M' : Mem), Fr (fun i k => i ≤ 78) M M' ∧ Qa a0 M' ∧ Qb a0 M' ∧ ∀ (Q' : Int32 → Mem → Prop), Q' a0 M' → wX7_fault M Q') := by
  have h1 : (kd (rid (M 0 1)) = 6 ∧ (wX6_scan (rid (M 0 1)) 1 M (fun r3 M2 => Qa r3 M2))) := h1
  have h2 : (kd (rid (M 0 1)) = 6 ∧ (wX6_scan (rid (M 0 1)) 1 M (fun r3 M2 => Qb r3 M2))) := h2
  have s1 := h1.1
  have h1 := h1.2
  have h2 := h2.2
  have kbs1 := kdB_6 s1
  obtain ⟨r3, M2, f2, h1, h2, b3⟩ := u_wX6_scan (rid (M 0 1)) 1 M h1 h2
  have g4 := Fr_tr (Fr_refl (fun i k => i ≤ 78) M) f2 (fun i k (h : (rid (M 0 1)) ≤ i ∧ i ≤ (rid (M 0 1)) + 8) => (show i ≤ 78 from by omega))
  exact ⟨r3, M2, g4, h1, h2, fun Q' hq => ⟨s1, b3 _ hq⟩⟩
set_option maxHeartbeats 4000000 in
theorem u_wX7_startAnew {Qa Qb : Mem → Prop} (M : Mem) (h1 : wX7_startAnew M Qa) (h2 : wX7_startAnew M Qb) : (∃ (M' : Mem), Fr (fun i k => i ≤ 78) M M' ∧ Qa M' ∧ Qb M' ∧ ∀ (Q' : Mem → Prop), Q' M' → wX7_startAnew M Q') := by
  have h1 : (kd (rid (M 0 2)) = 6 ∧ (wX6_orderFirst (rid (M 0 2)) 22 M (fun M2 => (kd (rid (M2 0 2)) = 6 ∧ (wX3_follow 32 (rid (M2 0 2)) M2 (fun M4 => (wX2_startWith 61 22 M4 (fun M5 => Qa (mu (mu M5 0 9 (0 : Int32)) 0 13 (0 : Int32)))))))))) := h1
  have h2 : (kd (rid (M 0 2)) = 6 ∧ (wX6_orderFirst (rid (M 0 2)) 22 M (fun M2 => (kd (rid (M2 0 2)) = 6 ∧ (wX3_follow 32 (rid (M2 0 2)) M2 (fun M4 => (wX2_startWith 61 22 M4 (fun M5 => Qb (mu (mu M5 0 9 (0 : Int32)) 0 13 (0 : Int32)))))))))) := h2
  have s1 := h1.1
  have h1 := h1.2
  have h2 := h2.2
  have kbs1 := kdB_6 s1
  obtain ⟨M2, f2, h1, h2, b3⟩ := u_wX6_orderFirst (rid (M 0 2)) 22 M h1 h2
  have g4 := Fr_tr (Fr_refl (fun i k => i ≤ 78) M) f2 (fun i k (h : 22 ≤ i ∧ i ≤ 22 + 4) => (show i ≤ 78 from by omega))
  have s5 := h1.1
  have h1 := h1.2
  have h2 := h2.2
  have kbs5 := kdB_6 s5
  obtain ⟨M4, f6, h1, h2, b7⟩ := u_wX3_follow 32 (rid (M2 0 2)) M2 h1 h2
  have g8 := Fr_tr g4 f6 (fun i k (h : 32 ≤ i ∧ i ≤ 32 + 19) => (show i ≤ 78 from by omega))
  obtain ⟨M5, f9, h1, h2, b10⟩ := u_wX2_startWith 61 22 M4 h1 h2
  have g11 := Fr_tr g8 f9 (fun i k (h : 61 ≤ i ∧ i ≤ 61 + 5) => (show i ≤ 78 from by omega))
  exact ⟨(mu (mu M5 0 9 (0 : Int32)) 0 13 (0 : Int32)), (Fr_mu (Fr_mu g11 (show 0 ≤ 78 from by omega)) (show 0 ≤ 78 from by omega)), h1, h2, fun Q' hq => ⟨s1, b3 _ ⟨s5, b7 _ (b10 _ hq)⟩⟩⟩
set_option maxHeartbeats 4000000 in
theorem u_wX7_lay_26 {Qa Qb : Int32 → Mem → Prop} (M : Mem) (h1 : wX7_lay_26 Qa M) (h2 : wX7_lay_26 Qb M) : (∃ (a0 : Int32) (M' : Mem), Fr (fun i k => i ≤ 78) M M' ∧ Qa a0 M' ∧ Qb a0 M' ∧ ∀ (Q' : Int32 → Mem → Prop), Q' a0 M' → wX7_lay_26 Q' M) := by
  have h1 : Qa (-2 : Int32) M := h1
  have h2 : Qb (-2 : Int32) M := h2
  exact ⟨(-2 : Int32), M, (Fr_refl (fun i k => i ≤ 78) M), h1, h2, fun Q' hq => hq⟩
set_option maxHeartbeats 4000000 in
theorem u_wX7_lay {Qa Qb : Int32 → Mem → Prop} (M : Mem) (h1 : wX7_lay M Qa) (h2 : wX7_lay M Qb) : (∃ (a0 : Int32) (M' : Mem), Fr (fun i k => i ≤ 78) M M' ∧ Qa a0 M' ∧ Qb a0 M' ∧ ∀ (Q' : Int32 → Mem → Prop), Q' a0 M' → wX7_lay M Q') := by
  have h1 : (kd (rid (M 0 1)) = 6 ∧ (wX6_scan (rid (M 0 1)) 1 M (fun r3 M2 => ((¬ r3 = (-4 : Int32) → wX7_lay_26 Qa M2) ∧ (r3 = (-4 : Int32) → (kd (rid (M2 0 1)) = 6 ∧ (wX6_fitsItsLeaves (rid (M2 0 1)) M2 (fun r6 M5 => ((¬ r6 = 0 → (kd (rid (M5 0 2)) = 6 ∧ (kd (rid (M5 0 1)) = 6 ∧ (rid (Int32.ofNat (rid (M5 0 1))) = (rid (M5 0 1)) ∧ (rid (Int32.ofNat (rid (M5 0 2))) = (rid (M5 0 2)) ∧ (wX7_startAnew (mu (mu M5 0 2 (Int32.ofNat (rid (M5 0 1)))) 0 1 (Int32.ofNat (rid (M5 0 2)))) (fun M9 => (kd (rid (M9 0 2)) = 6 ∧ Qa (M9 (rid (M9 0 2)) 0) M9)))))))) ∧ (r6 = 0 → wX7_lay_26 Qa M5)))))))))) := h1
  have h2 : (kd (rid (M 0 1)) = 6 ∧ (wX6_scan (rid (M 0 1)) 1 M (fun r3 M2 => ((¬ r3 = (-4 : Int32) → wX7_lay_26 Qb M2) ∧ (r3 = (-4 : Int32) → (kd (rid (M2 0 1)) = 6 ∧ (wX6_fitsItsLeaves (rid (M2 0 1)) M2 (fun r6 M5 => ((¬ r6 = 0 → (kd (rid (M5 0 2)) = 6 ∧ (kd (rid (M5 0 1)) = 6 ∧ (rid (Int32.ofNat (rid (M5 0 1))) = (rid (M5 0 1)) ∧ (rid (Int32.ofNat (rid (M5 0 2))) = (rid (M5 0 2)) ∧ (wX7_startAnew (mu (mu M5 0 2 (Int32.ofNat (rid (M5 0 1)))) 0 1 (Int32.ofNat (rid (M5 0 2)))) (fun M9 => (kd (rid (M9 0 2)) = 6 ∧ Qb (M9 (rid (M9 0 2)) 0) M9)))))))) ∧ (r6 = 0 → wX7_lay_26 Qb M5)))))))))) := h2
  have s1 := h1.1
  have h1 := h1.2
  have h2 := h2.2
  have kbs1 := kdB_6 s1
  obtain ⟨r3, M2, f2, h1, h2, b3⟩ := u_wX6_scan (rid (M 0 1)) 1 M h1 h2
  have g4 := Fr_tr (Fr_refl (fun i k => i ≤ 78) M) f2 (fun i k (h : (rid (M 0 1)) ≤ i ∧ i ≤ (rid (M 0 1)) + 8) => (show i ≤ 78 from by omega))
  by_cases hc5 : r3 = (-4 : Int32)
  · have h1 := h1.2 hc5
    have h2 := h2.2 hc5
    have s6 := h1.1
    have h1 := h1.2
    have h2 := h2.2
    have kbs6 := kdB_6 s6
    obtain ⟨r6, M5, f7, h1, h2, b8⟩ := u_wX6_fitsItsLeaves (rid (M2 0 1)) M2 h1 h2
    have g9 := Fr_tr g4 f7 (fun i k (h : False) => h.elim)
    by_cases hc10 : r6 = 0
    · have h1 := h1.2 hc10
      have h2 := h2.2 hc10
      obtain ⟨c15, N16, f13, h1, h2, b14⟩ := u_wX7_lay_26 M5 h1 h2
      have hf := Fr_ts g9 f13
      exact ⟨c15, N16, hf, h1, h2, fun Q' hq => ⟨s1, b3 _ ⟨fun z => absurd hc5 z, fun _ => ⟨s6, b8 _ ⟨fun z => absurd hc10 z, fun _ => b14 _ hq⟩⟩⟩⟩⟩
    · have h1 := h1.1 hc10
      have h2 := h2.1 hc10
      have s17 := h1.1
      have h1 := h1.2
      have h2 := h2.2
      have kbs17 := kdB_6 s17
      have s18 := h1.1
      have h1 := h1.2
      have h2 := h2.2
      have kbs18 := kdB_6 s18
      have s19 := h1.1
      have h1 := h1.2
      have h2 := h2.2
      have s20 := h1.1
      have h1 := h1.2
      have h2 := h2.2
      obtain ⟨M9, f21, h1, h2, b22⟩ := u_wX7_startAnew (mu (mu M5 0 2 (Int32.ofNat (rid (M5 0 1)))) 0 1 (Int32.ofNat (rid (M5 0 2)))) h1 h2
      have g23 := Fr_tr (Fr_mu (Fr_mu g9 (show 0 ≤ 78 from by omega)) (show 0 ≤ 78 from by omega)) f21 (fun i k (h : i ≤ 78) => (show i ≤ 78 from by omega))
      have s24 := h1.1
      have h1 := h1.2
      have h2 := h2.2
      have kbs24 := kdB_6 s24
      exact ⟨(M9 (rid (M9 0 2)) 0), M9, g23, h1, h2, fun Q' hq => ⟨s1, b3 _ ⟨fun z => absurd hc5 z, fun _ => ⟨s6, b8 _ ⟨fun _ => ⟨s17, ⟨s18, ⟨s19, ⟨s20, b22 _ ⟨s24, hq⟩⟩⟩⟩⟩, fun z => absurd z hc10⟩⟩⟩⟩⟩
  · have h1 := h1.1 hc5
    have h2 := h2.1 hc5
    obtain ⟨c29, N30, f27, h1, h2, b28⟩ := u_wX7_lay_26 M2 h1 h2
    have hf := Fr_ts g4 f27
    exact ⟨c29, N30, hf, h1, h2, fun Q' hq => ⟨s1, b3 _ ⟨fun _ => b28 _ hq, fun z => absurd z hc5⟩⟩⟩
set_option maxHeartbeats 4000000 in
theorem u_wX7_isBelowCount (x1 : Int32) {Qa Qb : Int32 → Mem → Prop} (M : Mem) (h1 : wX7_isBelowCount x1 M Qa) (h2 : wX7_isBelowCount x1 M Qb) : (∃ (a0 : Int32) (M' : Mem), Fr (fun i k => False) M M' ∧ Qa a0 M' ∧ Qb a0 M' ∧ ∀ (Q' : Int32 → Mem → Prop), Q' a0 M' → wX7_isBelowCount x1 M Q') := by
  have h1 : (kd (rid (M 0 2)) = 6 ∧ (wX7_within x1 (0 : Int32) ((M (rid (M 0 2)) 0) - (1 : Int32)) M (fun r3 M2 => ((r3 = 0 ∨ r3 = 1) ∧ Qa r3 M2)))) := h1
  have h2 : (kd (rid (M 0 2)) = 6 ∧ (wX7_within x1 (0 : Int32) ((M (rid (M 0 2)) 0) - (1 : Int32)) M (fun r3 M2 => ((r3 = 0 ∨ r3 = 1) ∧ Qb r3 M2)))) := h2
  have s1 := h1.1
  have h1 := h1.2
  have h2 := h2.2
  have kbs1 := kdB_6 s1
  obtain ⟨r3, M2, f2, h1, h2, b3⟩ := u_wX7_within x1 (0 : Int32) ((M (rid (M 0 2)) 0) - (1 : Int32)) M h1 h2
  have g4 := Fr_tr (Fr_refl (fun i k => False) M) f2 (fun i k (h : False) => h.elim)
  have s5 := h1.1
  have h1 := h1.2
  have h2 := h2.2
  exact ⟨r3, M2, g4, h1, h2, fun Q' hq => ⟨s1, b3 _ ⟨s5, hq⟩⟩⟩
set_option maxHeartbeats 4000000 in
theorem u_wX7_leaf_17 (x1 : Int32) (x2 : Int32) {Qa Qb : Int32 → Mem → Prop} (M : Mem) (h1 : wX7_leaf_17 x1 x2 Qa M) (h2 : wX7_leaf_17 x1 x2 Qb M) : (∃ (a0 : Int32) (M' : Mem), Fr (fun i k => False) M M' ∧ Qa a0 M' ∧ Qb a0 M' ∧ ∀ (Q' : Int32 → Mem → Prop), Q' a0 M' → wX7_leaf_17 x1 x2 Q' M) := by
  have h1 : Qa (-1 : Int32) M := h1
  have h2 : Qb (-1 : Int32) M := h2
  exact ⟨(-1 : Int32), M, (Fr_refl (fun i k => False) M), h1, h2, fun Q' hq => hq⟩
set_option maxHeartbeats 4000000 in
theorem u_wX7_leaf_45 (x1 : Int32) (x2 : Int32) {Qa Qb : Int32 → Mem → Prop} (s0 : Int32) (M : Mem) (h1 : wX7_leaf_45 x1 x2 Qa s0 M) (h2 : wX7_leaf_45 x1 x2 Qb s0 M) : (∃ (a0 : Int32) (M' : Mem), Fr (fun i k => False) M M' ∧ Qa a0 M' ∧ Qb a0 M' ∧ ∀ (Q' : Int32 → Mem → Prop), Q' a0 M' → wX7_leaf_45 x1 x2 Q' s0 M) := by
  have h1 : Qa s0 M := h1
  have h2 : Qb s0 M := h2
  exact ⟨s0, M, (Fr_refl (fun i k => False) M), h1, h2, fun Q' hq => hq⟩
set_option maxHeartbeats 4000000 in
theorem u_wX7_leaf (x1 : Int32) (x2 : Int32) {Qa Qb : Int32 → Mem → Prop} (M : Mem) (h1 : wX7_leaf x1 x2 M Qa) (h2 : wX7_leaf x1 x2 M Qb) : (∃ (a0 : Int32) (M' : Mem), Fr (fun i k => False) M M' ∧ Qa a0 M' ∧ Qb a0 M' ∧ ∀ (Q' : Int32 → Mem → Prop), Q' a0 M' → wX7_leaf x1 x2 M Q') := by
  have h1 : (wX7_isBelowCount x1 M (fun r2 M1 => ((r2 = 0 → wX7_leaf_17 x1 x2 Qa M1) ∧ (¬ r2 = 0 → (wX7_within x2 (0 : Int32) (1 : Int32) M1 (fun r4 M3 => ((¬ r4 = 0 → ((¬ x2 = 0 → (wX1_leafAt 22 x1 M3 (fun r6 M5 => wX7_leaf_45 x1 x2 Qa r6 M5))) ∧ (x2 = 0 → (wX1_leafAt 62 x1 M3 (fun r8 M7 => wX7_leaf_45 x1 x2 Qa r8 M7))))) ∧ (r4 = 0 → wX7_leaf_17 x1 x2 Qa M3)))))))) := h1
  have h2 : (wX7_isBelowCount x1 M (fun r2 M1 => ((r2 = 0 → wX7_leaf_17 x1 x2 Qb M1) ∧ (¬ r2 = 0 → (wX7_within x2 (0 : Int32) (1 : Int32) M1 (fun r4 M3 => ((¬ r4 = 0 → ((¬ x2 = 0 → (wX1_leafAt 22 x1 M3 (fun r6 M5 => wX7_leaf_45 x1 x2 Qb r6 M5))) ∧ (x2 = 0 → (wX1_leafAt 62 x1 M3 (fun r8 M7 => wX7_leaf_45 x1 x2 Qb r8 M7))))) ∧ (r4 = 0 → wX7_leaf_17 x1 x2 Qb M3)))))))) := h2
  obtain ⟨r2, M1, f1, h1, h2, b2⟩ := u_wX7_isBelowCount x1 M h1 h2
  have g3 := Fr_tr (Fr_refl (fun i k => False) M) f1 (fun i k (h : False) => h.elim)
  by_cases hc4 : r2 = 0
  · have h1 := h1.1 hc4
    have h2 := h2.1 hc4
    obtain ⟨c9, N10, f7, h1, h2, b8⟩ := u_wX7_leaf_17 x1 x2 M1 h1 h2
    have hf := Fr_ts g3 f7
    exact ⟨c9, N10, hf, h1, h2, fun Q' hq => b2 _ ⟨fun _ => b8 _ hq, fun z => absurd hc4 z⟩⟩
  · have h1 := h1.2 hc4
    have h2 := h2.2 hc4
    obtain ⟨r4, M3, f11, h1, h2, b12⟩ := u_wX7_within x2 (0 : Int32) (1 : Int32) M1 h1 h2
    have g13 := Fr_tr g3 f11 (fun i k (h : False) => h.elim)
    by_cases hc14 : r4 = 0
    · have h1 := h1.2 hc14
      have h2 := h2.2 hc14
      obtain ⟨c19, N20, f17, h1, h2, b18⟩ := u_wX7_leaf_17 x1 x2 M3 h1 h2
      have hf := Fr_ts g13 f17
      exact ⟨c19, N20, hf, h1, h2, fun Q' hq => b2 _ ⟨fun z => absurd z hc4, fun _ => b12 _ ⟨fun z => absurd hc14 z, fun _ => b18 _ hq⟩⟩⟩
    · have h1 := h1.1 hc14
      have h2 := h2.1 hc14
      by_cases hc21 : x2 = 0
      · have h1 := h1.2 hc21
        have h2 := h2.2 hc21
        obtain ⟨r8, M7, f22, h1, h2, b23⟩ := u_wX1_leafAt 62 x1 M3 h1 h2
        have g24 := Fr_tr g13 f22 (fun i k (h : False) => h.elim)
        obtain ⟨c29, N30, f27, h1, h2, b28⟩ := u_wX7_leaf_45 x1 x2 r8 M7 h1 h2
        have hf := Fr_ts g24 f27
        exact ⟨c29, N30, hf, h1, h2, fun Q' hq => b2 _ ⟨fun z => absurd z hc4, fun _ => b12 _ ⟨fun _ => ⟨fun z => absurd hc21 z, fun _ => b23 _ (b28 _ hq)⟩, fun z => absurd z hc14⟩⟩⟩
      · have h1 := h1.1 hc21
        have h2 := h2.1 hc21
        obtain ⟨r6, M5, f31, h1, h2, b32⟩ := u_wX1_leafAt 22 x1 M3 h1 h2
        have g33 := Fr_tr g13 f31 (fun i k (h : False) => h.elim)
        obtain ⟨c38, N39, f36, h1, h2, b37⟩ := u_wX7_leaf_45 x1 x2 r6 M5 h1 h2
        have hf := Fr_ts g33 f36
        exact ⟨c38, N39, hf, h1, h2, fun Q' hq => b2 _ ⟨fun z => absurd z hc4, fun _ => b12 _ ⟨fun _ => ⟨fun _ => b32 _ (b37 _ hq), fun z => absurd z hc21⟩, fun z => absurd z hc14⟩⟩⟩
set_option maxHeartbeats 4000000 in
theorem u_wX7_where_23 (x1 : Int32) {Qa Qb : Int32 → Mem → Prop} (s0 : Int32) (M : Mem) (h1 : wX7_where_23 x1 Qa s0 M) (h2 : wX7_where_23 x1 Qb s0 M) : (∃ (a0 : Int32) (M' : Mem), Fr (fun i k => False) M M' ∧ Qa a0 M' ∧ Qb a0 M' ∧ ∀ (Q' : Int32 → Mem → Prop), Q' a0 M' → wX7_where_23 x1 Q' s0 M) := by
  have h1 : Qa s0 M := h1
  have h2 : Qb s0 M := h2
  exact ⟨s0, M, (Fr_refl (fun i k => False) M), h1, h2, fun Q' hq => hq⟩
set_option maxHeartbeats 4000000 in
theorem u_wX7_where (x1 : Int32) {Qa Qb : Int32 → Mem → Prop} (M : Mem) (h1 : wX7_where x1 M Qa) (h2 : wX7_where x1 M Qb) : (∃ (a0 : Int32) (M' : Mem), Fr (fun i k => False) M M' ∧ Qa a0 M' ∧ Qb a0 M' ∧ ∀ (Q' : Int32 → Mem → Prop), Q' a0 M' → wX7_where x1 M Q') := by
  have h1 : (wX7_isBelowCount x1 M (fun r2 M1 => ((r2 = 0 → wX7_where_23 x1 Qa (-1 : Int32) M1) ∧ (¬ r2 = 0 → (wX1_placeOf 62 x1 M1 (fun r4 M3 => wX7_where_23 x1 Qa r4 M3)))))) := h1
  have h2 : (wX7_isBelowCount x1 M (fun r2 M1 => ((r2 = 0 → wX7_where_23 x1 Qb (-1 : Int32) M1) ∧ (¬ r2 = 0 → (wX1_placeOf 62 x1 M1 (fun r4 M3 => wX7_where_23 x1 Qb r4 M3)))))) := h2
  obtain ⟨r2, M1, f1, h1, h2, b2⟩ := u_wX7_isBelowCount x1 M h1 h2
  have g3 := Fr_tr (Fr_refl (fun i k => False) M) f1 (fun i k (h : False) => h.elim)
  by_cases hc4 : r2 = 0
  · have h1 := h1.1 hc4
    have h2 := h2.1 hc4
    obtain ⟨c9, N10, f7, h1, h2, b8⟩ := u_wX7_where_23 x1 (-1 : Int32) M1 h1 h2
    have hf := Fr_ts g3 f7
    exact ⟨c9, N10, hf, h1, h2, fun Q' hq => b2 _ ⟨fun _ => b8 _ hq, fun z => absurd hc4 z⟩⟩
  · have h1 := h1.2 hc4
    have h2 := h2.2 hc4
    obtain ⟨r4, M3, f11, h1, h2, b12⟩ := u_wX1_placeOf 62 x1 M1 h1 h2
    have g13 := Fr_tr g3 f11 (fun i k (h : False) => h.elim)
    obtain ⟨c18, N19, f16, h1, h2, b17⟩ := u_wX7_where_23 x1 r4 M3 h1 h2
    have hf := Fr_ts g13 f16
    exact ⟨c18, N19, hf, h1, h2, fun Q' hq => b2 _ ⟨fun z => absurd z hc4, fun _ => b12 _ (b17 _ hq)⟩⟩
set_option maxHeartbeats 4000000 in
theorem u_wX7_read {Qa Qb : Int32 → Mem → Prop} (M : Mem) (h1 : wX7_read M Qa) (h2 : wX7_read M Qb) : (∃ (a0 : Int32) (M' : Mem), Fr (fun i k => 61 ≤ i ∧ i ≤ 66) M M' ∧ Qa a0 M' ∧ Qb a0 M' ∧ ∀ (Q' : Int32 → Mem → Prop), Q' a0 M' → wX7_read M Q') := by
  have h1 : (kd (rid (M 0 2)) = 6 ∧ (wX2_readOne 61 (rid (M 0 2)) M (fun r3 M2 => Qa r3 M2))) := h1
  have h2 : (kd (rid (M 0 2)) = 6 ∧ (wX2_readOne 61 (rid (M 0 2)) M (fun r3 M2 => Qb r3 M2))) := h2
  have s1 := h1.1
  have h1 := h1.2
  have h2 := h2.2
  have kbs1 := kdB_6 s1
  obtain ⟨r3, M2, f2, h1, h2, b3⟩ := u_wX2_readOne 61 (rid (M 0 2)) M h1 h2
  have g4 := Fr_tr (Fr_refl (fun i k => 61 ≤ i ∧ i ≤ 66) M) f2 (fun i k (h : 61 ≤ i ∧ i ≤ 61 + 5) => (show 61 ≤ i ∧ i ≤ 66 from by omega))
  exact ⟨r3, M2, g4, h1, h2, fun Q' hq => ⟨s1, b3 _ hq⟩⟩
set_option maxHeartbeats 4000000 in
theorem u_wX7_finish_18 {Qa Qb : Int32 → Mem → Prop} : ∀ (n1 n2 : Nat) (v1 : Int32) (v2 : Int32) (M : Mem), wX7_finish_18 Qa n1 v1 v2 M → wX7_finish_18 Qb n2 v1 v2 M → (∃ (a0 : Int32) (M' : Mem), Fr (fun i k => 61 ≤ i ∧ i ≤ 66) M M' ∧ Qa a0 M' ∧ Qb a0 M' ∧ ∀ (Q' : Int32 → Mem → Prop), Q' a0 M' → wX7_finish_18 Q' n1 v1 v2 M) := by
  intro n1
  induction n1 with
  | zero => intro _ _ _ _ h1 _; exact h1.elim
  | succ n ih =>
    intro n2 v1 v2 M h1 h2
    cases n2 with
    | zero => exact h2.elim
    | succ m =>
      have h1 : ((v1 ≤ v2 → Qa v1 M) ∧ (¬ v1 ≤ v2 → (kd (rid (M 0 2)) = 6 ∧ (wX2_readOne 61 (rid (M 0 2)) M (fun r5 M4 => wX7_finish_18 Qa n v1 (v2 + (1 : Int32)) M4))))) := h1
      have h2 : ((v1 ≤ v2 → Qb v1 M) ∧ (¬ v1 ≤ v2 → (kd (rid (M 0 2)) = 6 ∧ (wX2_readOne 61 (rid (M 0 2)) M (fun r5 M4 => wX7_finish_18 Qb m v1 (v2 + (1 : Int32)) M4))))) := h2
      by_cases hc1 : v1 ≤ v2
      · have h1 := h1.1 hc1
        have h2 := h2.1 hc1
        exact ⟨v1, M, (Fr_refl (fun i k => 61 ≤ i ∧ i ≤ 66) M), h1, h2, fun Q' hq => ⟨fun _ => hq, fun z => absurd hc1 z⟩⟩
      · have h1 := h1.2 hc1
        have h2 := h2.2 hc1
        have s2 := h1.1
        have h1 := h1.2
        have h2 := h2.2
        have kbs2 := kdB_6 s2
        obtain ⟨r5, M4, f3, h1, h2, b4⟩ := u_wX2_readOne 61 (rid (M 0 2)) M h1 h2
        have g5 := Fr_tr (Fr_refl (fun i k => 61 ≤ i ∧ i ≤ 66) M) f3 (fun i k (h : 61 ≤ i ∧ i ≤ 61 + 5) => (show 61 ≤ i ∧ i ≤ 66 from by omega))
        obtain ⟨c10, N11, f8, h1, h2, b9⟩ := ih m v1 (v2 + (1 : Int32)) M4 h1 h2
        have hf := Fr_ts g5 f8
        exact ⟨c10, N11, hf, h1, h2, fun Q' hq => ⟨fun z => absurd z hc1, fun _ => ⟨s2, b4 _ (b9 _ hq)⟩⟩⟩
set_option maxHeartbeats 4000000 in
theorem u_wX7_finish {Qa Qb : Int32 → Mem → Prop} (M : Mem) (h1 : wX7_finish M Qa) (h2 : wX7_finish M Qb) : (∃ (a0 : Int32) (M' : Mem), Fr (fun i k => 61 ≤ i ∧ i ≤ 66) M M' ∧ Qa a0 M' ∧ Qb a0 M' ∧ ∀ (Q' : Int32 → Mem → Prop), Q' a0 M' → wX7_finish M Q') := by
  have h1 : (kd (rid (M 0 2)) = 6 ∧ (∃ n2, wX7_finish_18 Qa n2 ((M (rid (M 0 2)) 1) - (M 61 1)) (0 : Int32) M)) := h1
  have h2 : (kd (rid (M 0 2)) = 6 ∧ (∃ n2, wX7_finish_18 Qb n2 ((M (rid (M 0 2)) 1) - (M 61 1)) (0 : Int32) M)) := h2
  have s1 := h1.1
  have h1 := h1.2
  have h2 := h2.2
  have kbs1 := kdB_6 s1
  obtain ⟨n2_a, h1⟩ := h1
  obtain ⟨n2_b, h2⟩ := h2
  obtain ⟨c6, N7, f4, h1, h2, b5⟩ := u_wX7_finish_18 n2_a n2_b ((M (rid (M 0 2)) 1) - (M 61 1)) (0 : Int32) M h1 h2
  have hf := Fr_ts (Fr_refl (fun i k => 61 ≤ i ∧ i ≤ 66) M) f4
  exact ⟨c6, N7, hf, h1, h2, fun Q' hq => ⟨s1, ⟨n2_a, b5 _ hq⟩⟩⟩
set_option maxHeartbeats 4000000 in
theorem u_wX7_change_16 (x1 : Int32) (x2 : Int32) {Qa Qb : Int32 → Mem → Prop} (M : Mem) (h1 : wX7_change_16 x1 x2 Qa M) (h2 : wX7_change_16 x1 x2 Qb M) : (∃ (a0 : Int32) (M' : Mem), Fr (fun i k => 62 ≤ i ∧ i ≤ 66) M M' ∧ Qa a0 M' ∧ Qb a0 M' ∧ ∀ (Q' : Int32 → Mem → Prop), Q' a0 M' → wX7_change_16 x1 x2 Q' M) := by
  have h1 : Qa (-1 : Int32) M := h1
  have h2 : Qb (-1 : Int32) M := h2
  exact ⟨(-1 : Int32), M, (Fr_refl (fun i k => 62 ≤ i ∧ i ≤ 66) M), h1, h2, fun Q' hq => hq⟩
set_option maxHeartbeats 4000000 in
theorem u_wX7_change (x1 : Int32) (x2 : Int32) {Qa Qb : Int32 → Mem → Prop} (M : Mem) (h1 : wX7_change x1 x2 M Qa) (h2 : wX7_change x1 x2 M Qb) : (∃ (a0 : Int32) (M' : Mem), Fr (fun i k => 62 ≤ i ∧ i ≤ 66) M M' ∧ Qa a0 M' ∧ Qb a0 M' ∧ ∀ (Q' : Int32 → Mem → Prop), Q' a0 M' → wX7_change x1 x2 M Q') := by
  have h1 : (wX7_isBelowCount x1 M (fun r2 M1 => ((r2 = 0 → wX7_change_16 x1 x2 Qa M1) ∧ (¬ r2 = 0 → (wX7_isBelowCount x2 M1 (fun r4 M3 => ((¬ r4 = 0 → (wX1_swap 62 x1 x2 M3 (fun M5 => (wX1_leafAt 62 x1 M5 (fun r7 M6 => Qa r7 M6))))) ∧ (r4 = 0 → wX7_change_16 x1 x2 Qa M3)))))))) := h1
  have h2 : (wX7_isBelowCount x1 M (fun r2 M1 => ((r2 = 0 → wX7_change_16 x1 x2 Qb M1) ∧ (¬ r2 = 0 → (wX7_isBelowCount x2 M1 (fun r4 M3 => ((¬ r4 = 0 → (wX1_swap 62 x1 x2 M3 (fun M5 => (wX1_leafAt 62 x1 M5 (fun r7 M6 => Qb r7 M6))))) ∧ (r4 = 0 → wX7_change_16 x1 x2 Qb M3)))))))) := h2
  obtain ⟨r2, M1, f1, h1, h2, b2⟩ := u_wX7_isBelowCount x1 M h1 h2
  have g3 := Fr_tr (Fr_refl (fun i k => 62 ≤ i ∧ i ≤ 66) M) f1 (fun i k (h : False) => h.elim)
  by_cases hc4 : r2 = 0
  · have h1 := h1.1 hc4
    have h2 := h2.1 hc4
    obtain ⟨c9, N10, f7, h1, h2, b8⟩ := u_wX7_change_16 x1 x2 M1 h1 h2
    have hf := Fr_ts g3 f7
    exact ⟨c9, N10, hf, h1, h2, fun Q' hq => b2 _ ⟨fun _ => b8 _ hq, fun z => absurd hc4 z⟩⟩
  · have h1 := h1.2 hc4
    have h2 := h2.2 hc4
    obtain ⟨r4, M3, f11, h1, h2, b12⟩ := u_wX7_isBelowCount x2 M1 h1 h2
    have g13 := Fr_tr g3 f11 (fun i k (h : False) => h.elim)
    by_cases hc14 : r4 = 0
    · have h1 := h1.2 hc14
      have h2 := h2.2 hc14
      obtain ⟨c19, N20, f17, h1, h2, b18⟩ := u_wX7_change_16 x1 x2 M3 h1 h2
      have hf := Fr_ts g13 f17
      exact ⟨c19, N20, hf, h1, h2, fun Q' hq => b2 _ ⟨fun z => absurd z hc4, fun _ => b12 _ ⟨fun z => absurd hc14 z, fun _ => b18 _ hq⟩⟩⟩
    · have h1 := h1.1 hc14
      have h2 := h2.1 hc14
      obtain ⟨M5, f21, h1, h2, b22⟩ := u_wX1_swap 62 x1 x2 M3 h1 h2
      have g23 := Fr_tr g13 f21 (fun i k (h : 62 ≤ i ∧ i ≤ 62 + 4) => (show 62 ≤ i ∧ i ≤ 66 from by omega))
      obtain ⟨r7, M6, f24, h1, h2, b25⟩ := u_wX1_leafAt 62 x1 M5 h1 h2
      have g26 := Fr_tr g23 f24 (fun i k (h : False) => h.elim)
      exact ⟨r7, M6, g26, h1, h2, fun Q' hq => b2 _ ⟨fun z => absurd z hc4, fun _ => b12 _ ⟨fun _ => b22 _ (b25 _ hq), fun z => absurd z hc14⟩⟩⟩
set_option maxHeartbeats 4000000 in
theorem u_wX7_drop (x1 : Int32) {Qa Qb : Int32 → Mem → Prop} (M : Mem) (h1 : wX7_drop x1 M Qa) (h2 : wX7_drop x1 M Qb) : (∃ (a0 : Int32) (M' : Mem), Fr (fun i k => (i = 61 ∧ k = 1) ∨ (62 ≤ i ∧ i ≤ 66)) M M' ∧ Qa a0 M' ∧ Qb a0 M' ∧ ∀ (Q' : Int32 → Mem → Prop), Q' a0 M' → wX7_drop x1 M Q') := by
  have h1 : (wX7_within x1 (0 : Int32) (9999 : Int32) M (fun r2 M1 => ((¬ r2 = 0 → (wX2_fall 61 x1 M1 (fun M3 => (wX1_leafAt 62 (0 : Int32) M3 (fun r5 M4 => Qa r5 M4))))) ∧ (r2 = 0 → Qa (-1 : Int32) M1)))) := h1
  have h2 : (wX7_within x1 (0 : Int32) (9999 : Int32) M (fun r2 M1 => ((¬ r2 = 0 → (wX2_fall 61 x1 M1 (fun M3 => (wX1_leafAt 62 (0 : Int32) M3 (fun r5 M4 => Qb r5 M4))))) ∧ (r2 = 0 → Qb (-1 : Int32) M1)))) := h2
  obtain ⟨r2, M1, f1, h1, h2, b2⟩ := u_wX7_within x1 (0 : Int32) (9999 : Int32) M h1 h2
  have g3 := Fr_tr (Fr_refl (fun i k => (i = 61 ∧ k = 1) ∨ (62 ≤ i ∧ i ≤ 66)) M) f1 (fun i k (h : False) => h.elim)
  by_cases hc4 : r2 = 0
  · have h1 := h1.2 hc4
    have h2 := h2.2 hc4
    exact ⟨(-1 : Int32), M1, g3, h1, h2, fun Q' hq => b2 _ ⟨fun z => absurd hc4 z, fun _ => hq⟩⟩
  · have h1 := h1.1 hc4
    have h2 := h2.1 hc4
    obtain ⟨M3, f5, h1, h2, b6⟩ := u_wX2_fall 61 x1 M1 h1 h2
    have g7 := Fr_tr g3 f5 (fun i k (h : (i = 61 ∧ k = 1) ∨ (61 + 1 ≤ i ∧ i ≤ 61 + 5)) => (show (i = 61 ∧ k = 1) ∨ (62 ≤ i ∧ i ≤ 66) from by omega))
    obtain ⟨r5, M4, f8, h1, h2, b9⟩ := u_wX1_leafAt 62 (0 : Int32) M3 h1 h2
    have g10 := Fr_tr g7 f8 (fun i k (h : False) => h.elim)
    exact ⟨r5, M4, g10, h1, h2, fun Q' hq => b2 _ ⟨fun _ => b6 _ (b9 _ hq), fun z => absurd z hc4⟩⟩
set_option maxHeartbeats 4000000 in
theorem u_wX7_isReader_19 (x0 : Int64) {Qa Qb : Int32 → Mem → Prop} (s0 : Int32) (M : Mem) (h1 : wX7_isReader_19 x0 Qa s0 M) (h2 : wX7_isReader_19 x0 Qb s0 M) : (∃ (a0 : Int32) (M' : Mem), Fr (fun i k => False) M M' ∧ Qa a0 M' ∧ Qb a0 M' ∧ ∀ (Q' : Int32 → Mem → Prop), Q' a0 M' → wX7_isReader_19 x0 Q' s0 M) := by
  have h1 : ((s0 = 0 ∨ s0 = 1) ∧ Qa s0 M) := h1
  have h2 : ((s0 = 0 ∨ s0 = 1) ∧ Qb s0 M) := h2
  have s1 := h1.1
  have h1 := h1.2
  have h2 := h2.2
  exact ⟨s0, M, (Fr_refl (fun i k => False) M), h1, h2, fun Q' hq => ⟨s1, hq⟩⟩
set_option maxHeartbeats 4000000 in
theorem u_wX7_isReader_18 (x0 : Int64) {Qa Qb : Int32 → Mem → Prop} (M : Mem) (h1 : wX7_isReader_18 x0 Qa M) (h2 : wX7_isReader_18 x0 Qb M) : (∃ (a0 : Int32) (M' : Mem), Fr (fun i k => False) M M' ∧ Qa a0 M' ∧ Qb a0 M' ∧ ∀ (Q' : Int32 → Mem → Prop), Q' a0 M' → wX7_isReader_18 x0 Q' M) := by
  have h1 : wX7_isReader_19 x0 Qa (0 : Int32) M := h1
  have h2 : wX7_isReader_19 x0 Qb (0 : Int32) M := h2
  obtain ⟨c5, N6, f3, h1, h2, b4⟩ := u_wX7_isReader_19 x0 (0 : Int32) M h1 h2
  have hf := Fr_ts (Fr_refl (fun i k => False) M) f3
  exact ⟨c5, N6, hf, h1, h2, fun Q' hq => b4 _ hq⟩
set_option maxHeartbeats 4000000 in
theorem u_wX7_isReader (x0 : Int64) {Qa Qb : Int32 → Mem → Prop} (M : Mem) (h1 : wX7_isReader x0 M Qa) (h2 : wX7_isReader x0 M Qb) : (∃ (a0 : Int32) (M' : Mem), Fr (fun i k => False) M M' ∧ Qa a0 M' ∧ Qb a0 M' ∧ ∀ (Q' : Int32 → Mem → Prop), Q' a0 M' → wX7_isReader x0 M Q') := by
  have h1 : (((lg_cmp x0 (0 : Int64)) < 0 → wX7_isReader_18 x0 Qa M) ∧ (¬ (lg_cmp x0 (0 : Int64)) < 0 → ((0 < (lg_cmp x0 (1000000000000 : Int64)) → wX7_isReader_18 x0 Qa M) ∧ (¬ 0 < (lg_cmp x0 (1000000000000 : Int64)) → wX7_isReader_19 x0 Qa (1 : Int32) M)))) := h1
  have h2 : (((lg_cmp x0 (0 : Int64)) < 0 → wX7_isReader_18 x0 Qb M) ∧ (¬ (lg_cmp x0 (0 : Int64)) < 0 → ((0 < (lg_cmp x0 (1000000000000 : Int64)) → wX7_isReader_18 x0 Qb M) ∧ (¬ 0 < (lg_cmp x0 (1000000000000 : Int64)) → wX7_isReader_19 x0 Qb (1 : Int32) M)))) := h2
  by_cases hc1 : (lg_cmp x0 (0 : Int64)) < 0
  · have h1 := h1.1 hc1
    have h2 := h2.1 hc1
    obtain ⟨c6, N7, f4, h1, h2, b5⟩ := u_wX7_isReader_18 x0 M h1 h2
    have hf := Fr_ts (Fr_refl (fun i k => False) M) f4
    exact ⟨c6, N7, hf, h1, h2, fun Q' hq => ⟨fun _ => b5 _ hq, fun z => absurd hc1 z⟩⟩
  · have h1 := h1.2 hc1
    have h2 := h2.2 hc1
    by_cases hc8 : 0 < (lg_cmp x0 (1000000000000 : Int64))
    · have h1 := h1.1 hc8
      have h2 := h2.1 hc8
      obtain ⟨c13, N14, f11, h1, h2, b12⟩ := u_wX7_isReader_18 x0 M h1 h2
      have hf := Fr_ts (Fr_refl (fun i k => False) M) f11
      exact ⟨c13, N14, hf, h1, h2, fun Q' hq => ⟨fun z => absurd z hc1, fun _ => ⟨fun _ => b12 _ hq, fun z => absurd hc8 z⟩⟩⟩
    · have h1 := h1.2 hc8
      have h2 := h2.2 hc8
      obtain ⟨c19, N20, f17, h1, h2, b18⟩ := u_wX7_isReader_19 x0 (1 : Int32) M h1 h2
      have hf := Fr_ts (Fr_refl (fun i k => False) M) f17
      exact ⟨c19, N20, hf, h1, h2, fun Q' hq => ⟨fun z => absurd z hc1, fun _ => ⟨fun z => absurd z hc8, fun _ => b18 _ hq⟩⟩⟩
set_option maxHeartbeats 4000000 in
theorem u_wX7_isTurn (x1 : Int32) {Qa Qb : Int32 → Mem → Prop} (M : Mem) (h1 : wX7_isTurn x1 M Qa) (h2 : wX7_isTurn x1 M Qb) : (∃ (a0 : Int32) (M' : Mem), Fr (fun i k => False) M M' ∧ Qa a0 M' ∧ Qb a0 M' ∧ ∀ (Q' : Int32 → Mem → Prop), Q' a0 M' → wX7_isTurn x1 M Q') := by
  have h1 : (kd (rid (M 0 2)) = 6 ∧ (wX7_within x1 (0 : Int32) ((M (rid (M 0 2)) 1) - (1 : Int32)) M (fun r3 M2 => ((r3 = 0 ∨ r3 = 1) ∧ Qa r3 M2)))) := h1
  have h2 : (kd (rid (M 0 2)) = 6 ∧ (wX7_within x1 (0 : Int32) ((M (rid (M 0 2)) 1) - (1 : Int32)) M (fun r3 M2 => ((r3 = 0 ∨ r3 = 1) ∧ Qb r3 M2)))) := h2
  have s1 := h1.1
  have h1 := h1.2
  have h2 := h2.2
  have kbs1 := kdB_6 s1
  obtain ⟨r3, M2, f2, h1, h2, b3⟩ := u_wX7_within x1 (0 : Int32) ((M (rid (M 0 2)) 1) - (1 : Int32)) M h1 h2
  have g4 := Fr_tr (Fr_refl (fun i k => False) M) f2 (fun i k (h : False) => h.elim)
  have s5 := h1.1
  have h1 := h1.2
  have h2 := h2.2
  exact ⟨r3, M2, g4, h1, h2, fun Q' hq => ⟨s1, b3 _ ⟨s5, hq⟩⟩⟩
set_option maxHeartbeats 4000000 in
theorem u_wX7_leafHad (x1 : Int64) (x3 : Int32) {Qa Qb : Int32 → Mem → Prop} (M : Mem) (h1 : wX7_leafHad x1 x3 M Qa) (h2 : wX7_leafHad x1 x3 M Qb) : (∃ (a0 : Int32) (M' : Mem), Fr (fun i k => False) M M' ∧ Qa a0 M' ∧ Qb a0 M' ∧ ∀ (Q' : Int32 → Mem → Prop), Q' a0 M' → wX7_leafHad x1 x3 M Q') := by
  have h1 : (wX3_placeRead 32 x1 x3 M (fun r2 M1 => (wX1_leafAt 22 r2 M1 (fun r4 M3 => Qa r4 M3)))) := h1
  have h2 : (wX3_placeRead 32 x1 x3 M (fun r2 M1 => (wX1_leafAt 22 r2 M1 (fun r4 M3 => Qb r4 M3)))) := h2
  obtain ⟨r2, M1, f1, h1, h2, b2⟩ := u_wX3_placeRead 32 x1 x3 M h1 h2
  have g3 := Fr_tr (Fr_refl (fun i k => False) M) f1 (fun i k (h : False) => h.elim)
  obtain ⟨r4, M3, f4, h1, h2, b5⟩ := u_wX1_leafAt 22 r2 M1 h1 h2
  have g6 := Fr_tr g3 f4 (fun i k (h : False) => h.elim)
  exact ⟨r4, M3, g6, h1, h2, fun Q' hq => b2 _ (b5 _ hq)⟩
set_option maxHeartbeats 4000000 in
theorem u_wX7_has_15 (x1 : Int64) (x3 : Int32) {Qa Qb : Int32 → Mem → Prop} (M : Mem) (h1 : wX7_has_15 x1 x3 Qa M) (h2 : wX7_has_15 x1 x3 Qb M) : (∃ (a0 : Int32) (M' : Mem), Fr (fun i k => False) M M' ∧ Qa a0 M' ∧ Qb a0 M' ∧ ∀ (Q' : Int32 → Mem → Prop), Q' a0 M' → wX7_has_15 x1 x3 Q' M) := by
  have h1 : Qa (-1 : Int32) M := h1
  have h2 : Qb (-1 : Int32) M := h2
  exact ⟨(-1 : Int32), M, (Fr_refl (fun i k => False) M), h1, h2, fun Q' hq => hq⟩
set_option maxHeartbeats 4000000 in
theorem u_wX7_has (x1 : Int64) (x3 : Int32) {Qa Qb : Int32 → Mem → Prop} (M : Mem) (h1 : wX7_has x1 x3 M Qa) (h2 : wX7_has x1 x3 M Qb) : (∃ (a0 : Int32) (M' : Mem), Fr (fun i k => False) M M' ∧ Qa a0 M' ∧ Qb a0 M' ∧ ∀ (Q' : Int32 → Mem → Prop), Q' a0 M' → wX7_has x1 x3 M Q') := by
  have h1 : (wX7_isReader x1 M (fun r2 M1 => ((r2 = 0 → wX7_has_15 x1 x3 Qa M1) ∧ (¬ r2 = 0 → (wX7_isTurn x3 M1 (fun r4 M3 => ((¬ r4 = 0 → (wX7_leafHad x1 x3 M3 (fun r6 M5 => Qa r6 M5))) ∧ (r4 = 0 → wX7_has_15 x1 x3 Qa M3)))))))) := h1
  have h2 : (wX7_isReader x1 M (fun r2 M1 => ((r2 = 0 → wX7_has_15 x1 x3 Qb M1) ∧ (¬ r2 = 0 → (wX7_isTurn x3 M1 (fun r4 M3 => ((¬ r4 = 0 → (wX7_leafHad x1 x3 M3 (fun r6 M5 => Qb r6 M5))) ∧ (r4 = 0 → wX7_has_15 x1 x3 Qb M3)))))))) := h2
  obtain ⟨r2, M1, f1, h1, h2, b2⟩ := u_wX7_isReader x1 M h1 h2
  have g3 := Fr_tr (Fr_refl (fun i k => False) M) f1 (fun i k (h : False) => h.elim)
  by_cases hc4 : r2 = 0
  · have h1 := h1.1 hc4
    have h2 := h2.1 hc4
    obtain ⟨c9, N10, f7, h1, h2, b8⟩ := u_wX7_has_15 x1 x3 M1 h1 h2
    have hf := Fr_ts g3 f7
    exact ⟨c9, N10, hf, h1, h2, fun Q' hq => b2 _ ⟨fun _ => b8 _ hq, fun z => absurd hc4 z⟩⟩
  · have h1 := h1.2 hc4
    have h2 := h2.2 hc4
    obtain ⟨r4, M3, f11, h1, h2, b12⟩ := u_wX7_isTurn x3 M1 h1 h2
    have g13 := Fr_tr g3 f11 (fun i k (h : False) => h.elim)
    by_cases hc14 : r4 = 0
    · have h1 := h1.2 hc14
      have h2 := h2.2 hc14
      obtain ⟨c19, N20, f17, h1, h2, b18⟩ := u_wX7_has_15 x1 x3 M3 h1 h2
      have hf := Fr_ts g13 f17
      exact ⟨c19, N20, hf, h1, h2, fun Q' hq => b2 _ ⟨fun z => absurd z hc4, fun _ => b12 _ ⟨fun z => absurd hc14 z, fun _ => b18 _ hq⟩⟩⟩
    · have h1 := h1.1 hc14
      have h2 := h2.1 hc14
      obtain ⟨r6, M5, f21, h1, h2, b22⟩ := u_wX7_leafHad x1 x3 M3 h1 h2
      have g23 := Fr_tr g13 f21 (fun i k (h : False) => h.elim)
      exact ⟨r6, M5, g23, h1, h2, fun Q' hq => b2 _ ⟨fun z => absurd z hc4, fun _ => b12 _ ⟨fun _ => b22 _ hq, fun z => absurd z hc14⟩⟩⟩
set_option maxHeartbeats 4000000 in
theorem u_wX7_bit (x0 : Int32) {Qa Qb : Int64 → Mem → Prop} (M : Mem) (h1 : wX7_bit x0 M Qa) (h2 : wX7_bit x0 M Qb) : (∃ (a0 : Int64) (M' : Mem), Fr (fun i k => False) M M' ∧ Qa a0 M' ∧ Qb a0 M' ∧ ∀ (Q' : Int64 → Mem → Prop), Q' a0 M' → wX7_bit x0 M Q') := by
  have h1 : Qa ((1 : Int64) <<< (x0.toInt64 &&& 63)) M := h1
  have h2 : Qb ((1 : Int64) <<< (x0.toInt64 &&& 63)) M := h2
  exact ⟨((1 : Int64) <<< (x0.toInt64 &&& 63)), M, (Fr_refl (fun i k => False) M), h1, h2, fun Q' hq => hq⟩
set_option maxHeartbeats 4000000 in
theorem u_wX7_leavesHad_5 (x1 : Int64) {Qa Qb : Int64 → Mem → Prop} : ∀ (n1 n2 : Nat) (v3 : Int64) (v5 : Int32) (M : Mem), wX7_leavesHad_5 x1 Qa n1 v3 v5 M → wX7_leavesHad_5 x1 Qb n2 v3 v5 M → (∃ (a0 : Int64) (M' : Mem), Fr (fun i k => False) M M' ∧ Qa a0 M' ∧ Qb a0 M' ∧ ∀ (Q' : Int64 → Mem → Prop), Q' a0 M' → wX7_leavesHad_5 x1 Q' n1 v3 v5 M) := by
  intro n1
  induction n1 with
  | zero => intro _ _ _ _ h1 _; exact h1.elim
  | succ n ih =>
    intro n2 v3 v5 M h1 h2
    cases n2 with
    | zero => exact h2.elim
    | succ m =>
      have h1 : (kd (rid (M 0 2)) = 6 ∧ (((M (rid (M 0 2)) 1) ≤ v5 → Qa v3 M) ∧ (¬ (M (rid (M 0 2)) 1) ≤ v5 → (wX7_leafHad x1 v5 M (fun r4 M3 => (wX7_bit r4 M3 (fun r6 M5 => wX7_leavesHad_5 x1 Qa n (v3 ||| r6) (v5 + (1 : Int32)) M5))))))) := h1
      have h2 : (kd (rid (M 0 2)) = 6 ∧ (((M (rid (M 0 2)) 1) ≤ v5 → Qb v3 M) ∧ (¬ (M (rid (M 0 2)) 1) ≤ v5 → (wX7_leafHad x1 v5 M (fun r4 M3 => (wX7_bit r4 M3 (fun r6 M5 => wX7_leavesHad_5 x1 Qb m (v3 ||| r6) (v5 + (1 : Int32)) M5))))))) := h2
      have s1 := h1.1
      have h1 := h1.2
      have h2 := h2.2
      have kbs1 := kdB_6 s1
      by_cases hc2 : (M (rid (M 0 2)) 1) ≤ v5
      · have h1 := h1.1 hc2
        have h2 := h2.1 hc2
        exact ⟨v3, M, (Fr_refl (fun i k => False) M), h1, h2, fun Q' hq => ⟨s1, ⟨fun _ => hq, fun z => absurd hc2 z⟩⟩⟩
      · have h1 := h1.2 hc2
        have h2 := h2.2 hc2
        obtain ⟨r4, M3, f3, h1, h2, b4⟩ := u_wX7_leafHad x1 v5 M h1 h2
        have g5 := Fr_tr (Fr_refl (fun i k => False) M) f3 (fun i k (h : False) => h.elim)
        obtain ⟨r6, M5, f6, h1, h2, b7⟩ := u_wX7_bit r4 M3 h1 h2
        have g8 := Fr_tr g5 f6 (fun i k (h : False) => h.elim)
        obtain ⟨c13, N14, f11, h1, h2, b12⟩ := ih m (v3 ||| r6) (v5 + (1 : Int32)) M5 h1 h2
        have hf := Fr_ts g8 f11
        exact ⟨c13, N14, hf, h1, h2, fun Q' hq => ⟨s1, ⟨fun z => absurd z hc2, fun _ => b4 _ (b7 _ (b12 _ hq))⟩⟩⟩
set_option maxHeartbeats 4000000 in
theorem u_wX7_leavesHad (x1 : Int64) {Qa Qb : Int64 → Mem → Prop} (M : Mem) (h1 : wX7_leavesHad x1 M Qa) (h2 : wX7_leavesHad x1 M Qb) : (∃ (a0 : Int64) (M' : Mem), Fr (fun i k => False) M M' ∧ Qa a0 M' ∧ Qb a0 M' ∧ ∀ (Q' : Int64 → Mem → Prop), Q' a0 M' → wX7_leavesHad x1 M Q') := by
  have h1 : (∃ n1, wX7_leavesHad_5 x1 Qa n1 (0 : Int64) (0 : Int32) M) := h1
  have h2 : (∃ n1, wX7_leavesHad_5 x1 Qb n1 (0 : Int64) (0 : Int32) M) := h2
  obtain ⟨n1_a, h1⟩ := h1
  obtain ⟨n1_b, h2⟩ := h2
  obtain ⟨c5, N6, f3, h1, h2, b4⟩ := u_wX7_leavesHad_5 x1 n1_a n1_b (0 : Int64) (0 : Int32) M h1 h2
  have hf := Fr_ts (Fr_refl (fun i k => False) M) f3
  exact ⟨c5, N6, hf, h1, h2, fun Q' hq => ⟨n1_a, b4 _ hq⟩⟩
set_option maxHeartbeats 4000000 in
theorem u_wX7_leaves_18 (x1 : Int64) {Qa Qb : Int64 → Mem → Prop} (s0 : Int64) (M : Mem) (h1 : wX7_leaves_18 x1 Qa s0 M) (h2 : wX7_leaves_18 x1 Qb s0 M) : (∃ (a0 : Int64) (M' : Mem), Fr (fun i k => False) M M' ∧ Qa a0 M' ∧ Qb a0 M' ∧ ∀ (Q' : Int64 → Mem → Prop), Q' a0 M' → wX7_leaves_18 x1 Q' s0 M) := by
  have h1 : Qa s0 M := h1
  have h2 : Qb s0 M := h2
  exact ⟨s0, M, (Fr_refl (fun i k => False) M), h1, h2, fun Q' hq => hq⟩
set_option maxHeartbeats 4000000 in
theorem u_wX7_leaves (x1 : Int64) {Qa Qb : Int64 → Mem → Prop} (M : Mem) (h1 : wX7_leaves x1 M Qa) (h2 : wX7_leaves x1 M Qb) : (∃ (a0 : Int64) (M' : Mem), Fr (fun i k => False) M M' ∧ Qa a0 M' ∧ Qb a0 M' ∧ ∀ (Q' : Int64 → Mem → Prop), Q' a0 M' → wX7_leaves x1 M Q') := by
  have h1 : (wX7_isReader x1 M (fun r2 M1 => ((r2 = 0 → wX7_leaves_18 x1 Qa (-1 : Int64) M1) ∧ (¬ r2 = 0 → (wX7_leavesHad x1 M1 (fun r4 M3 => wX7_leaves_18 x1 Qa r4 M3)))))) := h1
  have h2 : (wX7_isReader x1 M (fun r2 M1 => ((r2 = 0 → wX7_leaves_18 x1 Qb (-1 : Int64) M1) ∧ (¬ r2 = 0 → (wX7_leavesHad x1 M1 (fun r4 M3 => wX7_leaves_18 x1 Qb r4 M3)))))) := h2
  obtain ⟨r2, M1, f1, h1, h2, b2⟩ := u_wX7_isReader x1 M h1 h2
  have g3 := Fr_tr (Fr_refl (fun i k => False) M) f1 (fun i k (h : False) => h.elim)
  by_cases hc4 : r2 = 0
  · have h1 := h1.1 hc4
    have h2 := h2.1 hc4
    obtain ⟨c9, N10, f7, h1, h2, b8⟩ := u_wX7_leaves_18 x1 (-1 : Int64) M1 h1 h2
    have hf := Fr_ts g3 f7
    exact ⟨c9, N10, hf, h1, h2, fun Q' hq => b2 _ ⟨fun _ => b8 _ hq, fun z => absurd hc4 z⟩⟩
  · have h1 := h1.2 hc4
    have h2 := h2.2 hc4
    obtain ⟨r4, M3, f11, h1, h2, b12⟩ := u_wX7_leavesHad x1 M1 h1 h2
    have g13 := Fr_tr g3 f11 (fun i k (h : False) => h.elim)
    obtain ⟨c18, N19, f16, h1, h2, b17⟩ := u_wX7_leaves_18 x1 r4 M3 h1 h2
    have hf := Fr_ts g13 f16
    exact ⟨c18, N19, hf, h1, h2, fun Q' hq => b2 _ ⟨fun z => absurd z hc4, fun _ => b12 _ (b17 _ hq)⟩⟩
set_option maxHeartbeats 4000000 in
theorem u_wX7_period {Qa Qb : Int32 → Mem → Prop} (M : Mem) (h1 : wX7_period M Qa) (h2 : wX7_period M Qb) : (∃ (a0 : Int32) (M' : Mem), Fr (fun i k => False) M M' ∧ Qa a0 M' ∧ Qb a0 M' ∧ ∀ (Q' : Int32 → Mem → Prop), Q' a0 M' → wX7_period M Q') := by
  have h1 : (wX3_roundsTogether 32 M (fun r2 M1 => Qa r2 M1)) := h1
  have h2 : (wX3_roundsTogether 32 M (fun r2 M1 => Qb r2 M1)) := h2
  obtain ⟨r2, M1, f1, h1, h2, b2⟩ := u_wX3_roundsTogether 32 M h1 h2
  have g3 := Fr_tr (Fr_refl (fun i k => False) M) f1 (fun i k (h : False) => h.elim)
  exact ⟨r2, M1, g3, h1, h2, fun Q' hq => b2 _ hq⟩
set_option maxHeartbeats 4000000 in
theorem u_wX7_ever_77 (x1 : Int32) {k_18a k_18b : Int64 → Int32 → Mem → Prop} {Qa Qb : Int64 → Mem → Prop} (v2 : Int64) (v4 : Int32) (M : Mem) (h1 : wX7_ever_77 x1 k_18a Qa v2 v4 M) (h2 : wX7_ever_77 x1 k_18b Qb v2 v4 M) : (∃ (a0 : Int64) (M' : Mem), Fr (fun i k => False) M M' ∧ Qa a0 M' ∧ Qb a0 M' ∧ ∀ (k'0 : Int64 → Int32 → Mem → Prop) (Q' : Int64 → Mem → Prop), Q' a0 M' → wX7_ever_77 x1 k'0 Q' v2 v4 M) ∨ (∃ (a0 : Int64) (a1 : Int32) (M' : Mem), Fr (fun i k => False) M M' ∧ k_18a a0 a1 M' ∧ k_18b a0 a1 M' ∧ ∀ (k'0 : Int64 → Int32 → Mem → Prop) (Q' : Int64 → Mem → Prop), k'0 a0 a1 M' → wX7_ever_77 x1 k'0 Q' v2 v4 M) := by
  have h1 : k_18a v2 (v4 + (1 : Int32)) M := h1
  have h2 : k_18b v2 (v4 + (1 : Int32)) M := h2
  exact Or.inr ⟨v2, (v4 + (1 : Int32)), M, (Fr_refl (fun i k => False) M), h1, h2, fun k'0 Q' hq => hq⟩
set_option maxHeartbeats 4000000 in
theorem u_wX7_ever_55 (x1 : Int32) {k_18a k_18b : Int64 → Int32 → Mem → Prop} {Qa Qb : Int64 → Mem → Prop} (v2 : Int64) (v4 : Int32) (s0 : Int32) (M : Mem) (h1 : wX7_ever_55 x1 k_18a Qa v2 v4 s0 M) (h2 : wX7_ever_55 x1 k_18b Qb v2 v4 s0 M) : (∃ (a0 : Int64) (M' : Mem), Fr (fun i k => False) M M' ∧ Qa a0 M' ∧ Qb a0 M' ∧ ∀ (k'0 : Int64 → Int32 → Mem → Prop) (Q' : Int64 → Mem → Prop), Q' a0 M' → wX7_ever_55 x1 k'0 Q' v2 v4 s0 M) ∨ (∃ (a0 : Int64) (a1 : Int32) (M' : Mem), Fr (fun i k => False) M M' ∧ k_18a a0 a1 M' ∧ k_18b a0 a1 M' ∧ ∀ (k'0 : Int64 → Int32 → Mem → Prop) (Q' : Int64 → Mem → Prop), k'0 a0 a1 M' → wX7_ever_55 x1 k'0 Q' v2 v4 s0 M) := by
  have h1 : ((s0 = 0 → wX7_ever_77 x1 (k_18a) Qa v2 v4 M) ∧ (¬ s0 = 0 → (wX1_leafAt 22 v4 M (fun r10 M9 => (wX7_bit r10 M9 (fun r12 M11 => wX7_ever_77 x1 (k_18a) Qa (v2 ||| r12) v4 M11)))))) := h1
  have h2 : ((s0 = 0 → wX7_ever_77 x1 (k_18b) Qb v2 v4 M) ∧ (¬ s0 = 0 → (wX1_leafAt 22 v4 M (fun r10 M9 => (wX7_bit r10 M9 (fun r12 M11 => wX7_ever_77 x1 (k_18b) Qb (v2 ||| r12) v4 M11)))))) := h2
  by_cases hc1 : s0 = 0
  · have h1 := h1.1 hc1
    have h2 := h2.1 hc1
    rcases u_wX7_ever_77 x1 v2 v4 M h1 h2 with ⟨c6, N7, f4, h1, h2, b5⟩ | ⟨c8, c9, N10, f4, h1, h2, b5⟩
    · have hf := Fr_ts (Fr_refl (fun i k => False) M) f4
      exact Or.inl ⟨c6, N7, hf, h1, h2, fun k'0 Q' hq => ⟨fun _ => b5 _ _ hq, fun z => absurd hc1 z⟩⟩
    · have hf := Fr_ts (Fr_refl (fun i k => False) M) f4
      exact Or.inr ⟨c8, c9, N10, hf, h1, h2, fun k'0 Q' hq => ⟨fun _ => b5 _ _ hq, fun z => absurd hc1 z⟩⟩
  · have h1 := h1.2 hc1
    have h2 := h2.2 hc1
    obtain ⟨r10, M9, f11, h1, h2, b12⟩ := u_wX1_leafAt 22 v4 M h1 h2
    have g13 := Fr_tr (Fr_refl (fun i k => False) M) f11 (fun i k (h : False) => h.elim)
    obtain ⟨r12, M11, f14, h1, h2, b15⟩ := u_wX7_bit r10 M9 h1 h2
    have g16 := Fr_tr g13 f14 (fun i k (h : False) => h.elim)
    rcases u_wX7_ever_77 x1 (v2 ||| r12) v4 M11 h1 h2 with ⟨c21, N22, f19, h1, h2, b20⟩ | ⟨c23, c24, N25, f19, h1, h2, b20⟩
    · have hf := Fr_ts g16 f19
      exact Or.inl ⟨c21, N22, hf, h1, h2, fun k'0 Q' hq => ⟨fun z => absurd z hc1, fun _ => b12 _ (b15 _ (b20 _ _ hq))⟩⟩
    · have hf := Fr_ts g16 f19
      exact Or.inr ⟨c23, c24, N25, hf, h1, h2, fun k'0 Q' hq => ⟨fun z => absurd z hc1, fun _ => b12 _ (b15 _ (b20 _ _ hq))⟩⟩
set_option maxHeartbeats 4000000 in
theorem u_wX7_ever_18 (x1 : Int32) {Qa Qb : Int64 → Mem → Prop} : ∀ (n1 n2 : Nat) (v2 : Int64) (v4 : Int32) (M : Mem), wX7_ever_18 x1 Qa n1 v2 v4 M → wX7_ever_18 x1 Qb n2 v2 v4 M → (∃ (a0 : Int64) (M' : Mem), Fr (fun i k => False) M M' ∧ Qa a0 M' ∧ Qb a0 M' ∧ ∀ (Q' : Int64 → Mem → Prop), Q' a0 M' → wX7_ever_18 x1 Q' n1 v2 v4 M) := by
  intro n1
  induction n1 with
  | zero => intro _ _ _ _ h1 _; exact h1.elim
  | succ n ih =>
    intro n2 v2 v4 M h1 h2
    cases n2 with
    | zero => exact h2.elim
    | succ m =>
      have h1 : (kd (rid (M 0 2)) = 6 ∧ (((M (rid (M 0 2)) 0) ≤ v4 → Qa v2 M) ∧ (¬ (M (rid (M 0 2)) 0) ≤ v4 → ((¬ x1 = 0 → (wX3_isAlwaysRead 32 v4 M (fun r6 M5 => wX7_ever_55 x1 (wX7_ever_18 x1 Qa n) Qa v2 v4 r6 M5))) ∧ (x1 = 0 → (wX3_isNeverRead 32 v4 M (fun r8 M7 => wX7_ever_55 x1 (wX7_ever_18 x1 Qa n) Qa v2 v4 r8 M7))))))) := h1
      have h2 : (kd (rid (M 0 2)) = 6 ∧ (((M (rid (M 0 2)) 0) ≤ v4 → Qb v2 M) ∧ (¬ (M (rid (M 0 2)) 0) ≤ v4 → ((¬ x1 = 0 → (wX3_isAlwaysRead 32 v4 M (fun r6 M5 => wX7_ever_55 x1 (wX7_ever_18 x1 Qb m) Qb v2 v4 r6 M5))) ∧ (x1 = 0 → (wX3_isNeverRead 32 v4 M (fun r8 M7 => wX7_ever_55 x1 (wX7_ever_18 x1 Qb m) Qb v2 v4 r8 M7))))))) := h2
      have s1 := h1.1
      have h1 := h1.2
      have h2 := h2.2
      have kbs1 := kdB_6 s1
      by_cases hc2 : (M (rid (M 0 2)) 0) ≤ v4
      · have h1 := h1.1 hc2
        have h2 := h2.1 hc2
        exact ⟨v2, M, (Fr_refl (fun i k => False) M), h1, h2, fun Q' hq => ⟨s1, ⟨fun _ => hq, fun z => absurd hc2 z⟩⟩⟩
      · have h1 := h1.2 hc2
        have h2 := h2.2 hc2
        by_cases hc3 : x1 = 0
        · have h1 := h1.2 hc3
          have h2 := h2.2 hc3
          obtain ⟨r8, M7, f4, h1, h2, b5⟩ := u_wX3_isNeverRead 32 v4 M h1 h2
          have g6 := Fr_tr (Fr_refl (fun i k => False) M) f4 (fun i k (h : False) => h.elim)
          rcases u_wX7_ever_55 x1 v2 v4 r8 M7 h1 h2 with ⟨c11, N12, f9, h1, h2, b10⟩ | ⟨c13, c14, N15, f9, h1, h2, b10⟩
          · have hf := Fr_ts g6 f9
            exact ⟨c11, N12, hf, h1, h2, fun Q' hq => ⟨s1, ⟨fun z => absurd z hc2, fun _ => ⟨fun z => absurd hc3 z, fun _ => b5 _ (b10 _ _ hq)⟩⟩⟩⟩
          · have hf := Fr_ts g6 f9
            obtain ⟨c18, N19, f16, h1, h2, b17⟩ := ih m c13 c14 N15 h1 h2
            have hf := Fr_ts hf f16
            exact ⟨c18, N19, hf, h1, h2, fun Q' hq => ⟨s1, ⟨fun z => absurd z hc2, fun _ => ⟨fun z => absurd hc3 z, fun _ => b5 _ (b10 _ _ (b17 _ hq))⟩⟩⟩⟩
        · have h1 := h1.1 hc3
          have h2 := h2.1 hc3
          obtain ⟨r6, M5, f20, h1, h2, b21⟩ := u_wX3_isAlwaysRead 32 v4 M h1 h2
          have g22 := Fr_tr (Fr_refl (fun i k => False) M) f20 (fun i k (h : False) => h.elim)
          rcases u_wX7_ever_55 x1 v2 v4 r6 M5 h1 h2 with ⟨c27, N28, f25, h1, h2, b26⟩ | ⟨c29, c30, N31, f25, h1, h2, b26⟩
          · have hf := Fr_ts g22 f25
            exact ⟨c27, N28, hf, h1, h2, fun Q' hq => ⟨s1, ⟨fun z => absurd z hc2, fun _ => ⟨fun _ => b21 _ (b26 _ _ hq), fun z => absurd z hc3⟩⟩⟩⟩
          · have hf := Fr_ts g22 f25
            obtain ⟨c34, N35, f32, h1, h2, b33⟩ := ih m c29 c30 N31 h1 h2
            have hf := Fr_ts hf f32
            exact ⟨c34, N35, hf, h1, h2, fun Q' hq => ⟨s1, ⟨fun z => absurd z hc2, fun _ => ⟨fun _ => b21 _ (b26 _ _ (b33 _ hq)), fun z => absurd z hc3⟩⟩⟩⟩
set_option maxHeartbeats 4000000 in
theorem u_wX7_ever (x1 : Int32) {Qa Qb : Int64 → Mem → Prop} (M : Mem) (h1 : wX7_ever x1 M Qa) (h2 : wX7_ever x1 M Qb) : (∃ (a0 : Int64) (M' : Mem), Fr (fun i k => False) M M' ∧ Qa a0 M' ∧ Qb a0 M' ∧ ∀ (Q' : Int64 → Mem → Prop), Q' a0 M' → wX7_ever x1 M Q') := by
  have h1 : (wX7_within x1 (0 : Int32) (1 : Int32) M (fun r2 M1 => ((¬ r2 = 0 → (∃ n3, wX7_ever_18 x1 Qa n3 (0 : Int64) (0 : Int32) M1)) ∧ (r2 = 0 → Qa (-1 : Int64) M1)))) := h1
  have h2 : (wX7_within x1 (0 : Int32) (1 : Int32) M (fun r2 M1 => ((¬ r2 = 0 → (∃ n3, wX7_ever_18 x1 Qb n3 (0 : Int64) (0 : Int32) M1)) ∧ (r2 = 0 → Qb (-1 : Int64) M1)))) := h2
  obtain ⟨r2, M1, f1, h1, h2, b2⟩ := u_wX7_within x1 (0 : Int32) (1 : Int32) M h1 h2
  have g3 := Fr_tr (Fr_refl (fun i k => False) M) f1 (fun i k (h : False) => h.elim)
  by_cases hc4 : r2 = 0
  · have h1 := h1.2 hc4
    have h2 := h2.2 hc4
    exact ⟨(-1 : Int64), M1, g3, h1, h2, fun Q' hq => b2 _ ⟨fun z => absurd hc4 z, fun _ => hq⟩⟩
  · have h1 := h1.1 hc4
    have h2 := h2.1 hc4
    obtain ⟨n3_a, h1⟩ := h1
    obtain ⟨n3_b, h2⟩ := h2
    obtain ⟨c9, N10, f7, h1, h2, b8⟩ := u_wX7_ever_18 x1 n3_a n3_b (0 : Int64) (0 : Int32) M1 h1 h2
    have hf := Fr_ts g3 f7
    exact ⟨c9, N10, hf, h1, h2, fun Q' hq => b2 _ ⟨fun _ => ⟨n3_a, b8 _ hq⟩, fun z => absurd z hc4⟩⟩
set_option maxHeartbeats 4000000 in
theorem u_wX7_right_48 (x1 : Int64) {k_14a k_14b : Int32 → Int32 → Mem → Prop} {Qa Qb : Int32 → Mem → Prop} (v3 : Int32) (v4 : Int32) (M : Mem) (h1 : wX7_right_48 x1 k_14a Qa v3 v4 M) (h2 : wX7_right_48 x1 k_14b Qb v3 v4 M) : (∃ (a0 : Int32) (M' : Mem), Fr (fun i k => False) M M' ∧ Qa a0 M' ∧ Qb a0 M' ∧ ∀ (k'0 : Int32 → Int32 → Mem → Prop) (Q' : Int32 → Mem → Prop), Q' a0 M' → wX7_right_48 x1 k'0 Q' v3 v4 M) ∨ (∃ (a0 : Int32) (a1 : Int32) (M' : Mem), Fr (fun i k => False) M M' ∧ k_14a a0 a1 M' ∧ k_14b a0 a1 M' ∧ ∀ (k'0 : Int32 → Int32 → Mem → Prop) (Q' : Int32 → Mem → Prop), k'0 a0 a1 M' → wX7_right_48 x1 k'0 Q' v3 v4 M) := by
  have h1 : k_14a v3 (v4 + (1 : Int32)) M := h1
  have h2 : k_14b v3 (v4 + (1 : Int32)) M := h2
  exact Or.inr ⟨v3, (v4 + (1 : Int32)), M, (Fr_refl (fun i k => False) M), h1, h2, fun k'0 Q' hq => hq⟩
set_option maxHeartbeats 4000000 in
theorem u_wX7_right_14 (x1 : Int64) {Qa Qb : Int32 → Mem → Prop} : ∀ (n1 n2 : Nat) (v3 : Int32) (v4 : Int32) (M : Mem), wX7_right_14 x1 Qa n1 v3 v4 M → wX7_right_14 x1 Qb n2 v3 v4 M → (∃ (a0 : Int32) (M' : Mem), Fr (fun i k => False) M M' ∧ Qa a0 M' ∧ Qb a0 M' ∧ ∀ (Q' : Int32 → Mem → Prop), Q' a0 M' → wX7_right_14 x1 Q' n1 v3 v4 M) := by
  intro n1
  induction n1 with
  | zero => intro _ _ _ _ h1 _; exact h1.elim
  | succ n ih =>
    intro n2 v3 v4 M h1 h2
    cases n2 with
    | zero => exact h2.elim
    | succ m =>
      have h1 : (kd (rid (M 0 2)) = 6 ∧ (wX6_toldTurns (rid (M 0 2)) M (fun r6 M5 => ((r6 ≤ v4 → Qa v3 M5) ∧ (¬ r6 ≤ v4 → (wX7_leafHad x1 v4 M5 (fun r8 M7 => (kd (rid (M7 0 2)) = 6 ∧ (wX6_taleLeaf (rid (M7 0 2)) v4 M7 (fun r11 M10 => ((¬ r8 = r11 → wX7_right_48 x1 (wX7_right_14 x1 Qa n) Qa v3 v4 M10) ∧ (r8 = r11 → wX7_right_48 x1 (wX7_right_14 x1 Qa n) Qa (v3 + (1 : Int32)) v4 M10)))))))))))) := h1
      have h2 : (kd (rid (M 0 2)) = 6 ∧ (wX6_toldTurns (rid (M 0 2)) M (fun r6 M5 => ((r6 ≤ v4 → Qb v3 M5) ∧ (¬ r6 ≤ v4 → (wX7_leafHad x1 v4 M5 (fun r8 M7 => (kd (rid (M7 0 2)) = 6 ∧ (wX6_taleLeaf (rid (M7 0 2)) v4 M7 (fun r11 M10 => ((¬ r8 = r11 → wX7_right_48 x1 (wX7_right_14 x1 Qb m) Qb v3 v4 M10) ∧ (r8 = r11 → wX7_right_48 x1 (wX7_right_14 x1 Qb m) Qb (v3 + (1 : Int32)) v4 M10)))))))))))) := h2
      have s1 := h1.1
      have h1 := h1.2
      have h2 := h2.2
      have kbs1 := kdB_6 s1
      obtain ⟨r6, M5, f2, h1, h2, b3⟩ := u_wX6_toldTurns (rid (M 0 2)) M h1 h2
      have g4 := Fr_tr (Fr_refl (fun i k => False) M) f2 (fun i k (h : False) => h.elim)
      by_cases hc5 : r6 ≤ v4
      · have h1 := h1.1 hc5
        have h2 := h2.1 hc5
        exact ⟨v3, M5, g4, h1, h2, fun Q' hq => ⟨s1, b3 _ ⟨fun _ => hq, fun z => absurd hc5 z⟩⟩⟩
      · have h1 := h1.2 hc5
        have h2 := h2.2 hc5
        obtain ⟨r8, M7, f6, h1, h2, b7⟩ := u_wX7_leafHad x1 v4 M5 h1 h2
        have g8 := Fr_tr g4 f6 (fun i k (h : False) => h.elim)
        have s9 := h1.1
        have h1 := h1.2
        have h2 := h2.2
        have kbs9 := kdB_6 s9
        obtain ⟨r11, M10, f10, h1, h2, b11⟩ := u_wX6_taleLeaf (rid (M7 0 2)) v4 M7 h1 h2
        have g12 := Fr_tr g8 f10 (fun i k (h : False) => h.elim)
        by_cases hc13 : r8 = r11
        · have h1 := h1.2 hc13
          have h2 := h2.2 hc13
          rcases u_wX7_right_48 x1 (v3 + (1 : Int32)) v4 M10 h1 h2 with ⟨c18, N19, f16, h1, h2, b17⟩ | ⟨c20, c21, N22, f16, h1, h2, b17⟩
          · have hf := Fr_ts g12 f16
            exact ⟨c18, N19, hf, h1, h2, fun Q' hq => ⟨s1, b3 _ ⟨fun z => absurd z hc5, fun _ => b7 _ ⟨s9, b11 _ ⟨fun z => absurd hc13 z, fun _ => b17 _ _ hq⟩⟩⟩⟩⟩
          · have hf := Fr_ts g12 f16
            obtain ⟨c25, N26, f23, h1, h2, b24⟩ := ih m c20 c21 N22 h1 h2
            have hf := Fr_ts hf f23
            exact ⟨c25, N26, hf, h1, h2, fun Q' hq => ⟨s1, b3 _ ⟨fun z => absurd z hc5, fun _ => b7 _ ⟨s9, b11 _ ⟨fun z => absurd hc13 z, fun _ => b17 _ _ (b24 _ hq)⟩⟩⟩⟩⟩
        · have h1 := h1.1 hc13
          have h2 := h2.1 hc13
          rcases u_wX7_right_48 x1 v3 v4 M10 h1 h2 with ⟨c31, N32, f29, h1, h2, b30⟩ | ⟨c33, c34, N35, f29, h1, h2, b30⟩
          · have hf := Fr_ts g12 f29
            exact ⟨c31, N32, hf, h1, h2, fun Q' hq => ⟨s1, b3 _ ⟨fun z => absurd z hc5, fun _ => b7 _ ⟨s9, b11 _ ⟨fun _ => b30 _ _ hq, fun z => absurd z hc13⟩⟩⟩⟩⟩
          · have hf := Fr_ts g12 f29
            obtain ⟨c38, N39, f36, h1, h2, b37⟩ := ih m c33 c34 N35 h1 h2
            have hf := Fr_ts hf f36
            exact ⟨c38, N39, hf, h1, h2, fun Q' hq => ⟨s1, b3 _ ⟨fun z => absurd z hc5, fun _ => b7 _ ⟨s9, b11 _ ⟨fun _ => b30 _ _ (b37 _ hq), fun z => absurd z hc13⟩⟩⟩⟩⟩
set_option maxHeartbeats 4000000 in
theorem u_wX7_right (x1 : Int64) {Qa Qb : Int32 → Mem → Prop} (M : Mem) (h1 : wX7_right x1 M Qa) (h2 : wX7_right x1 M Qb) : (∃ (a0 : Int32) (M' : Mem), Fr (fun i k => False) M M' ∧ Qa a0 M' ∧ Qb a0 M' ∧ ∀ (Q' : Int32 → Mem → Prop), Q' a0 M' → wX7_right x1 M Q') := by
  have h1 : (wX7_isReader x1 M (fun r2 M1 => ((¬ r2 = 0 → (∃ n3, wX7_right_14 x1 Qa n3 (0 : Int32) (0 : Int32) M1)) ∧ (r2 = 0 → Qa (-1 : Int32) M1)))) := h1
  have h2 : (wX7_isReader x1 M (fun r2 M1 => ((¬ r2 = 0 → (∃ n3, wX7_right_14 x1 Qb n3 (0 : Int32) (0 : Int32) M1)) ∧ (r2 = 0 → Qb (-1 : Int32) M1)))) := h2
  obtain ⟨r2, M1, f1, h1, h2, b2⟩ := u_wX7_isReader x1 M h1 h2
  have g3 := Fr_tr (Fr_refl (fun i k => False) M) f1 (fun i k (h : False) => h.elim)
  by_cases hc4 : r2 = 0
  · have h1 := h1.2 hc4
    have h2 := h2.2 hc4
    exact ⟨(-1 : Int32), M1, g3, h1, h2, fun Q' hq => b2 _ ⟨fun z => absurd hc4 z, fun _ => hq⟩⟩
  · have h1 := h1.1 hc4
    have h2 := h2.1 hc4
    obtain ⟨n3_a, h1⟩ := h1
    obtain ⟨n3_b, h2⟩ := h2
    obtain ⟨c9, N10, f7, h1, h2, b8⟩ := u_wX7_right_14 x1 n3_a n3_b (0 : Int32) (0 : Int32) M1 h1 h2
    have hf := Fr_ts g3 f7
    exact ⟨c9, N10, hf, h1, h2, fun Q' hq => b2 _ ⟨fun _ => ⟨n3_a, b8 _ hq⟩, fun z => absurd z hc4⟩⟩
set_option maxHeartbeats 4000000 in
theorem u_wX7_order_15 (x1 : Int64) (x3 : Int32) {Qa Qb : Int32 → Mem → Prop} (M : Mem) (h1 : wX7_order_15 x1 x3 Qa M) (h2 : wX7_order_15 x1 x3 Qb M) : (∃ (a0 : Int32) (M' : Mem), Fr (fun i k => (i = 0 ∧ k = 9) ∨ (27 ≤ i ∧ i ≤ 60)) M M' ∧ Qa a0 M' ∧ Qb a0 M' ∧ ∀ (Q' : Int32 → Mem → Prop), Q' a0 M' → wX7_order_15 x1 x3 Q' M) := by
  have h1 : Qa (-1 : Int32) M := h1
  have h2 : Qb (-1 : Int32) M := h2
  exact ⟨(-1 : Int32), M, (Fr_refl (fun i k => (i = 0 ∧ k = 9) ∨ (27 ≤ i ∧ i ≤ 60)) M), h1, h2, fun Q' hq => hq⟩
set_option maxHeartbeats 4000000 in
theorem u_wX7_order_34 (x1 : Int64) (x3 : Int32) {Qa Qb : Int32 → Mem → Prop} : ∀ (n1 n2 : Nat) (v4 : Int32) (M : Mem), wX7_order_34 x1 x3 Qa n1 v4 M → wX7_order_34 x1 x3 Qb n2 v4 M → (∃ (a0 : Int32) (M' : Mem), Fr (fun i k => (i = 0 ∧ k = 9) ∨ (27 ≤ i ∧ i ≤ 60)) M M' ∧ Qa a0 M' ∧ Qb a0 M' ∧ ∀ (Q' : Int32 → Mem → Prop), Q' a0 M' → wX7_order_34 x1 x3 Q' n1 v4 M) := by
  intro n1
  induction n1 with
  | zero => intro _ _ _ h1 _; exact h1.elim
  | succ n ih =>
    intro n2 v4 M h1 h2
    cases n2 with
    | zero => exact h2.elim
    | succ m =>
      have h1 : (kd (rid (M 0 2)) = 6 ∧ (wX6_toldTurns (rid (M 0 2)) M (fun r10 M9 => ((r10 ≤ v4 → (wX0_holds 52 M9 (fun r12 M11 => ((¬ r12 = 0 → (wX0_fillUp 52 M11 (fun M13 => (wX0_leafAt 52 x3 M13 (fun r15 M14 => Qa r15 M14))))) ∧ (r12 = 0 → Qa (-4 : Int32) M11))))) ∧ (¬ r10 ≤ v4 → (wX3_placeRead 32 x1 v4 M9 (fun r17 M16 => (kd (rid (M16 0 2)) = 6 ∧ (wX6_taleLeaf (rid (M16 0 2)) v4 M16 (fun r20 M19 => (wX0_bind 52 r17 r20 M19 (fun M21 => wX7_order_34 x1 x3 Qa n (v4 + (1 : Int32)) M21)))))))))))) := h1
      have h2 : (kd (rid (M 0 2)) = 6 ∧ (wX6_toldTurns (rid (M 0 2)) M (fun r10 M9 => ((r10 ≤ v4 → (wX0_holds 52 M9 (fun r12 M11 => ((¬ r12 = 0 → (wX0_fillUp 52 M11 (fun M13 => (wX0_leafAt 52 x3 M13 (fun r15 M14 => Qb r15 M14))))) ∧ (r12 = 0 → Qb (-4 : Int32) M11))))) ∧ (¬ r10 ≤ v4 → (wX3_placeRead 32 x1 v4 M9 (fun r17 M16 => (kd (rid (M16 0 2)) = 6 ∧ (wX6_taleLeaf (rid (M16 0 2)) v4 M16 (fun r20 M19 => (wX0_bind 52 r17 r20 M19 (fun M21 => wX7_order_34 x1 x3 Qb m (v4 + (1 : Int32)) M21)))))))))))) := h2
      have s1 := h1.1
      have h1 := h1.2
      have h2 := h2.2
      have kbs1 := kdB_6 s1
      obtain ⟨r10, M9, f2, h1, h2, b3⟩ := u_wX6_toldTurns (rid (M 0 2)) M h1 h2
      have g4 := Fr_tr (Fr_refl (fun i k => (i = 0 ∧ k = 9) ∨ (27 ≤ i ∧ i ≤ 60)) M) f2 (fun i k (h : False) => h.elim)
      by_cases hc5 : r10 ≤ v4
      · have h1 := h1.1 hc5
        have h2 := h2.1 hc5
        obtain ⟨r12, M11, f6, h1, h2, b7⟩ := u_wX0_holds 52 M9 h1 h2
        have g8 := Fr_tr g4 f6 (fun i k (h : False) => h.elim)
        by_cases hc9 : r12 = 0
        · have h1 := h1.2 hc9
          have h2 := h2.2 hc9
          exact ⟨(-4 : Int32), M11, g8, h1, h2, fun Q' hq => ⟨s1, b3 _ ⟨fun _ => b7 _ ⟨fun z => absurd hc9 z, fun _ => hq⟩, fun z => absurd hc5 z⟩⟩⟩
        · have h1 := h1.1 hc9
          have h2 := h2.1 hc9
          obtain ⟨M13, f10, h1, h2, b11⟩ := u_wX0_fillUp 52 M11 h1 h2
          have g12 := Fr_tr g8 f10 (fun i k (h : 52 ≤ i ∧ i ≤ 52 + 4) => (show (i = 0 ∧ k = 9) ∨ (27 ≤ i ∧ i ≤ 60) from by omega))
          obtain ⟨r15, M14, f13, h1, h2, b14⟩ := u_wX0_leafAt 52 x3 M13 h1 h2
          have g15 := Fr_tr g12 f13 (fun i k (h : False) => h.elim)
          exact ⟨r15, M14, g15, h1, h2, fun Q' hq => ⟨s1, b3 _ ⟨fun _ => b7 _ ⟨fun _ => b11 _ (b14 _ hq), fun z => absurd z hc9⟩, fun z => absurd hc5 z⟩⟩⟩
      · have h1 := h1.2 hc5
        have h2 := h2.2 hc5
        obtain ⟨r17, M16, f16, h1, h2, b17⟩ := u_wX3_placeRead 32 x1 v4 M9 h1 h2
        have g18 := Fr_tr g4 f16 (fun i k (h : False) => h.elim)
        have s19 := h1.1
        have h1 := h1.2
        have h2 := h2.2
        have kbs19 := kdB_6 s19
        obtain ⟨r20, M19, f20, h1, h2, b21⟩ := u_wX6_taleLeaf (rid (M16 0 2)) v4 M16 h1 h2
        have g22 := Fr_tr g18 f20 (fun i k (h : False) => h.elim)
        obtain ⟨M21, f23, h1, h2, b24⟩ := u_wX0_bind 52 r17 r20 M19 h1 h2
        have g25 := Fr_tr g22 f23 (fun i k (h : 52 ≤ i ∧ i ≤ 52 + 4) => (show (i = 0 ∧ k = 9) ∨ (27 ≤ i ∧ i ≤ 60) from by omega))
        obtain ⟨c30, N31, f28, h1, h2, b29⟩ := ih m (v4 + (1 : Int32)) M21 h1 h2
        have hf := Fr_ts g25 f28
        exact ⟨c30, N31, hf, h1, h2, fun Q' hq => ⟨s1, b3 _ ⟨fun z => absurd z hc5, fun _ => b17 _ ⟨s19, b21 _ (b24 _ (b29 _ hq))⟩⟩⟩⟩
set_option maxHeartbeats 4000000 in
theorem u_wX7_order (x1 : Int64) (x3 : Int32) {Qa Qb : Int32 → Mem → Prop} (M : Mem) (h1 : wX7_order x1 x3 M Qa) (h2 : wX7_order x1 x3 M Qb) : (∃ (a0 : Int32) (M' : Mem), Fr (fun i k => (i = 0 ∧ k = 9) ∨ (27 ≤ i ∧ i ≤ 60)) M M' ∧ Qa a0 M' ∧ Qb a0 M' ∧ ∀ (Q' : Int32 → Mem → Prop), Q' a0 M' → wX7_order x1 x3 M Q') := by
  have h1 : (wX7_isReader x1 M (fun r2 M1 => ((r2 = 0 → wX7_order_15 x1 x3 Qa M1) ∧ (¬ r2 = 0 → (wX7_isBelowCount x3 M1 (fun r4 M3 => ((¬ r4 = 0 → (kd (rid (M3 0 2)) = 6 ∧ (wX0_begin 52 (M3 (rid (M3 0 2)) 0) M3 (fun M6 => (∃ n7, wX7_order_34 x1 x3 Qa n7 (0 : Int32) M6))))) ∧ (r4 = 0 → wX7_order_15 x1 x3 Qa M3)))))))) := h1
  have h2 : (wX7_isReader x1 M (fun r2 M1 => ((r2 = 0 → wX7_order_15 x1 x3 Qb M1) ∧ (¬ r2 = 0 → (wX7_isBelowCount x3 M1 (fun r4 M3 => ((¬ r4 = 0 → (kd (rid (M3 0 2)) = 6 ∧ (wX0_begin 52 (M3 (rid (M3 0 2)) 0) M3 (fun M6 => (∃ n7, wX7_order_34 x1 x3 Qb n7 (0 : Int32) M6))))) ∧ (r4 = 0 → wX7_order_15 x1 x3 Qb M3)))))))) := h2
  obtain ⟨r2, M1, f1, h1, h2, b2⟩ := u_wX7_isReader x1 M h1 h2
  have g3 := Fr_tr (Fr_refl (fun i k => (i = 0 ∧ k = 9) ∨ (27 ≤ i ∧ i ≤ 60)) M) f1 (fun i k (h : False) => h.elim)
  by_cases hc4 : r2 = 0
  · have h1 := h1.1 hc4
    have h2 := h2.1 hc4
    obtain ⟨c9, N10, f7, h1, h2, b8⟩ := u_wX7_order_15 x1 x3 M1 h1 h2
    have hf := Fr_ts g3 f7
    exact ⟨c9, N10, hf, h1, h2, fun Q' hq => b2 _ ⟨fun _ => b8 _ hq, fun z => absurd hc4 z⟩⟩
  · have h1 := h1.2 hc4
    have h2 := h2.2 hc4
    obtain ⟨r4, M3, f11, h1, h2, b12⟩ := u_wX7_isBelowCount x3 M1 h1 h2
    have g13 := Fr_tr g3 f11 (fun i k (h : False) => h.elim)
    by_cases hc14 : r4 = 0
    · have h1 := h1.2 hc14
      have h2 := h2.2 hc14
      obtain ⟨c19, N20, f17, h1, h2, b18⟩ := u_wX7_order_15 x1 x3 M3 h1 h2
      have hf := Fr_ts g13 f17
      exact ⟨c19, N20, hf, h1, h2, fun Q' hq => b2 _ ⟨fun z => absurd z hc4, fun _ => b12 _ ⟨fun z => absurd hc14 z, fun _ => b18 _ hq⟩⟩⟩
    · have h1 := h1.1 hc14
      have h2 := h2.1 hc14
      have s21 := h1.1
      have h1 := h1.2
      have h2 := h2.2
      have kbs21 := kdB_6 s21
      obtain ⟨M6, f22, h1, h2, b23⟩ := u_wX0_begin 52 (M3 (rid (M3 0 2)) 0) M3 h1 h2
      have g24 := Fr_tr g13 f22 (fun i k (h : 52 ≤ i ∧ i ≤ 52 + 4) => (show (i = 0 ∧ k = 9) ∨ (27 ≤ i ∧ i ≤ 60) from by omega))
      obtain ⟨n7_a, h1⟩ := h1
      obtain ⟨n7_b, h2⟩ := h2
      obtain ⟨c29, N30, f27, h1, h2, b28⟩ := u_wX7_order_34 x1 x3 n7_a n7_b (0 : Int32) M6 h1 h2
      have hf := Fr_ts g24 f27
      exact ⟨c29, N30, hf, h1, h2, fun Q' hq => b2 _ ⟨fun z => absurd z hc4, fun _ => b12 _ ⟨fun _ => ⟨s21, b23 _ ⟨n7_a, b28 _ hq⟩⟩, fun z => absurd z hc14⟩⟩⟩
set_option maxHeartbeats 4000000 in
theorem u_wX7_readingsToShowAll_30 (x1 : Int32) (x2 : Int32) {Qa Qb : Int32 → Mem → Prop} : ∀ (n1 n2 : Nat) (v3 : Int64) (v5 : Int32) (M : Mem), wX7_readingsToShowAll_30 x1 x2 Qa n1 v3 v5 M → wX7_readingsToShowAll_30 x1 x2 Qb n2 v3 v5 M → (∃ (a0 : Int32) (M' : Mem), Fr (fun i k => (i = 0 ∧ k = 9) ∨ (27 ≤ i ∧ i ≤ 60)) M M' ∧ Qa a0 M' ∧ Qb a0 M' ∧ ∀ (Q' : Int32 → Mem → Prop), Q' a0 M' → wX7_readingsToShowAll_30 x1 x2 Q' n1 v3 v5 M) := by
  intro n1
  induction n1 with
  | zero => intro _ _ _ _ h1 _; exact h1.elim
  | succ n ih =>
    intro n2 v3 v5 M h1 h2
    cases n2 with
    | zero => exact h2.elim
    | succ m =>
      have h1 : (kd (rid (M 0 2)) = 6 ∧ ((((2 : Int32) * (M (rid (M 0 2)) 0)) ≤ v5 → Qa (-4 : Int32) M) ∧ (¬ ((2 : Int32) * (M (rid (M 0 2)) 0)) ≤ v5 → (wX1_readTop 27 x1 x2 v5 M (fun r9 M8 => (wX7_bit r9 M8 (fun r11 M10 => ((¬ (lg_cmp (v3 &&& (r11 ^^^ (-1 : Int64))) (0 : Int64)) = 0 → wX7_readingsToShowAll_30 x1 x2 Qa n (v3 &&& (r11 ^^^ (-1 : Int64))) (v5 + (1 : Int32)) M10) ∧ ((lg_cmp (v3 &&& (r11 ^^^ (-1 : Int64))) (0 : Int64)) = 0 → Qa (v5 + (1 : Int32)) M10))))))))) := h1
      have h2 : (kd (rid (M 0 2)) = 6 ∧ ((((2 : Int32) * (M (rid (M 0 2)) 0)) ≤ v5 → Qb (-4 : Int32) M) ∧ (¬ ((2 : Int32) * (M (rid (M 0 2)) 0)) ≤ v5 → (wX1_readTop 27 x1 x2 v5 M (fun r9 M8 => (wX7_bit r9 M8 (fun r11 M10 => ((¬ (lg_cmp (v3 &&& (r11 ^^^ (-1 : Int64))) (0 : Int64)) = 0 → wX7_readingsToShowAll_30 x1 x2 Qb m (v3 &&& (r11 ^^^ (-1 : Int64))) (v5 + (1 : Int32)) M10) ∧ ((lg_cmp (v3 &&& (r11 ^^^ (-1 : Int64))) (0 : Int64)) = 0 → Qb (v5 + (1 : Int32)) M10))))))))) := h2
      have s1 := h1.1
      have h1 := h1.2
      have h2 := h2.2
      have kbs1 := kdB_6 s1
      by_cases hc2 : ((2 : Int32) * (M (rid (M 0 2)) 0)) ≤ v5
      · have h1 := h1.1 hc2
        have h2 := h2.1 hc2
        exact ⟨(-4 : Int32), M, (Fr_refl (fun i k => (i = 0 ∧ k = 9) ∨ (27 ≤ i ∧ i ≤ 60)) M), h1, h2, fun Q' hq => ⟨s1, ⟨fun _ => hq, fun z => absurd hc2 z⟩⟩⟩
      · have h1 := h1.2 hc2
        have h2 := h2.2 hc2
        obtain ⟨r9, M8, f3, h1, h2, b4⟩ := u_wX1_readTop 27 x1 x2 v5 M h1 h2
        have g5 := Fr_tr (Fr_refl (fun i k => (i = 0 ∧ k = 9) ∨ (27 ≤ i ∧ i ≤ 60)) M) f3 (fun i k (h : 27 ≤ i ∧ i ≤ 27 + 4) => (show (i = 0 ∧ k = 9) ∨ (27 ≤ i ∧ i ≤ 60) from by omega))
        obtain ⟨r11, M10, f6, h1, h2, b7⟩ := u_wX7_bit r9 M8 h1 h2
        have g8 := Fr_tr g5 f6 (fun i k (h : False) => h.elim)
        by_cases hc9 : (lg_cmp (v3 &&& (r11 ^^^ (-1 : Int64))) (0 : Int64)) = 0
        · have h1 := h1.2 hc9
          have h2 := h2.2 hc9
          exact ⟨(v5 + (1 : Int32)), M10, g8, h1, h2, fun Q' hq => ⟨s1, ⟨fun z => absurd z hc2, fun _ => b4 _ (b7 _ ⟨fun z => absurd hc9 z, fun _ => hq⟩)⟩⟩⟩
        · have h1 := h1.1 hc9
          have h2 := h2.1 hc9
          obtain ⟨c14, N15, f12, h1, h2, b13⟩ := ih m (v3 &&& (r11 ^^^ (-1 : Int64))) (v5 + (1 : Int32)) M10 h1 h2
          have hf := Fr_ts g8 f12
          exact ⟨c14, N15, hf, h1, h2, fun Q' hq => ⟨s1, ⟨fun z => absurd z hc2, fun _ => b4 _ (b7 _ ⟨fun _ => b13 _ hq, fun z => absurd z hc9⟩)⟩⟩⟩
set_option maxHeartbeats 4000000 in
theorem u_wX7_readingsToShowAll (x1 : Int32) (x2 : Int32) {Qa Qb : Int32 → Mem → Prop} (M : Mem) (h1 : wX7_readingsToShowAll x1 x2 M Qa) (h2 : wX7_readingsToShowAll x1 x2 M Qb) : (∃ (a0 : Int32) (M' : Mem), Fr (fun i k => (i = 0 ∧ k = 9) ∨ (27 ≤ i ∧ i ≤ 60)) M M' ∧ Qa a0 M' ∧ Qb a0 M' ∧ ∀ (Q' : Int32 → Mem → Prop), Q' a0 M' → wX7_readingsToShowAll x1 x2 M Q') := by
  have h1 : (kd (rid (M 0 2)) = 6 ∧ (wX7_bit (M (rid (M 0 2)) 0) M (fun r3 M2 => (kd (rid (M2 0 2)) = 6 ∧ (wX1_number 27 (M2 (rid (M2 0 2)) 0) M2 (fun M5 => (∃ n6, wX7_readingsToShowAll_30 x1 x2 Qa n6 (r3 - (1 : Int64)) (0 : Int32) M5))))))) := h1
  have h2 : (kd (rid (M 0 2)) = 6 ∧ (wX7_bit (M (rid (M 0 2)) 0) M (fun r3 M2 => (kd (rid (M2 0 2)) = 6 ∧ (wX1_number 27 (M2 (rid (M2 0 2)) 0) M2 (fun M5 => (∃ n6, wX7_readingsToShowAll_30 x1 x2 Qb n6 (r3 - (1 : Int64)) (0 : Int32) M5))))))) := h2
  have s1 := h1.1
  have h1 := h1.2
  have h2 := h2.2
  have kbs1 := kdB_6 s1
  obtain ⟨r3, M2, f2, h1, h2, b3⟩ := u_wX7_bit (M (rid (M 0 2)) 0) M h1 h2
  have g4 := Fr_tr (Fr_refl (fun i k => (i = 0 ∧ k = 9) ∨ (27 ≤ i ∧ i ≤ 60)) M) f2 (fun i k (h : False) => h.elim)
  have s5 := h1.1
  have h1 := h1.2
  have h2 := h2.2
  have kbs5 := kdB_6 s5
  obtain ⟨M5, f6, h1, h2, b7⟩ := u_wX1_number 27 (M2 (rid (M2 0 2)) 0) M2 h1 h2
  have g8 := Fr_tr g4 f6 (fun i k (h : 27 ≤ i ∧ i ≤ 27 + 4) => (show (i = 0 ∧ k = 9) ∨ (27 ≤ i ∧ i ≤ 60) from by omega))
  obtain ⟨n6_a, h1⟩ := h1
  obtain ⟨n6_b, h2⟩ := h2
  obtain ⟨c13, N14, f11, h1, h2, b12⟩ := u_wX7_readingsToShowAll_30 x1 x2 n6_a n6_b (r3 - (1 : Int64)) (0 : Int32) M5 h1 h2
  have hf := Fr_ts g8 f11
  exact ⟨c13, N14, hf, h1, h2, fun Q' hq => ⟨s1, b3 _ ⟨s5, b7 _ ⟨n6_a, b12 _ hq⟩⟩⟩⟩
set_option maxHeartbeats 4000000 in
theorem u_wX7_shows_17 (x1 : Int32) (x2 : Int32) {Qa Qb : Int32 → Mem → Prop} (M : Mem) (h1 : wX7_shows_17 x1 x2 Qa M) (h2 : wX7_shows_17 x1 x2 Qb M) : (∃ (a0 : Int32) (M' : Mem), Fr (fun i k => (i = 0 ∧ k = 9) ∨ (27 ≤ i ∧ i ≤ 60)) M M' ∧ Qa a0 M' ∧ Qb a0 M' ∧ ∀ (Q' : Int32 → Mem → Prop), Q' a0 M' → wX7_shows_17 x1 x2 Q' M) := by
  have h1 : Qa (-1 : Int32) M := h1
  have h2 : Qb (-1 : Int32) M := h2
  exact ⟨(-1 : Int32), M, (Fr_refl (fun i k => (i = 0 ∧ k = 9) ∨ (27 ≤ i ∧ i ≤ 60)) M), h1, h2, fun Q' hq => hq⟩
set_option maxHeartbeats 4000000 in
theorem u_wX7_shows (x1 : Int32) (x2 : Int32) {Qa Qb : Int32 → Mem → Prop} (M : Mem) (h1 : wX7_shows x1 x2 M Qa) (h2 : wX7_shows x1 x2 M Qb) : (∃ (a0 : Int32) (M' : Mem), Fr (fun i k => (i = 0 ∧ k = 9) ∨ (27 ≤ i ∧ i ≤ 60)) M M' ∧ Qa a0 M' ∧ Qb a0 M' ∧ ∀ (Q' : Int32 → Mem → Prop), Q' a0 M' → wX7_shows x1 x2 M Q') := by
  have h1 : (wX7_within x1 (0 : Int32) (3 : Int32) M (fun r2 M1 => ((r2 = 0 → wX7_shows_17 x1 x2 Qa M1) ∧ (¬ r2 = 0 → (wX7_isBelowCount x2 M1 (fun r4 M3 => ((¬ r4 = 0 → (wX7_readingsToShowAll x1 x2 M3 (fun r6 M5 => Qa r6 M5))) ∧ (r4 = 0 → wX7_shows_17 x1 x2 Qa M3)))))))) := h1
  have h2 : (wX7_within x1 (0 : Int32) (3 : Int32) M (fun r2 M1 => ((r2 = 0 → wX7_shows_17 x1 x2 Qb M1) ∧ (¬ r2 = 0 → (wX7_isBelowCount x2 M1 (fun r4 M3 => ((¬ r4 = 0 → (wX7_readingsToShowAll x1 x2 M3 (fun r6 M5 => Qb r6 M5))) ∧ (r4 = 0 → wX7_shows_17 x1 x2 Qb M3)))))))) := h2
  obtain ⟨r2, M1, f1, h1, h2, b2⟩ := u_wX7_within x1 (0 : Int32) (3 : Int32) M h1 h2
  have g3 := Fr_tr (Fr_refl (fun i k => (i = 0 ∧ k = 9) ∨ (27 ≤ i ∧ i ≤ 60)) M) f1 (fun i k (h : False) => h.elim)
  by_cases hc4 : r2 = 0
  · have h1 := h1.1 hc4
    have h2 := h2.1 hc4
    obtain ⟨c9, N10, f7, h1, h2, b8⟩ := u_wX7_shows_17 x1 x2 M1 h1 h2
    have hf := Fr_ts g3 f7
    exact ⟨c9, N10, hf, h1, h2, fun Q' hq => b2 _ ⟨fun _ => b8 _ hq, fun z => absurd hc4 z⟩⟩
  · have h1 := h1.2 hc4
    have h2 := h2.2 hc4
    obtain ⟨r4, M3, f11, h1, h2, b12⟩ := u_wX7_isBelowCount x2 M1 h1 h2
    have g13 := Fr_tr g3 f11 (fun i k (h : False) => h.elim)
    by_cases hc14 : r4 = 0
    · have h1 := h1.2 hc14
      have h2 := h2.2 hc14
      obtain ⟨c19, N20, f17, h1, h2, b18⟩ := u_wX7_shows_17 x1 x2 M3 h1 h2
      have hf := Fr_ts g13 f17
      exact ⟨c19, N20, hf, h1, h2, fun Q' hq => b2 _ ⟨fun z => absurd z hc4, fun _ => b12 _ ⟨fun z => absurd hc14 z, fun _ => b18 _ hq⟩⟩⟩
    · have h1 := h1.1 hc14
      have h2 := h2.1 hc14
      obtain ⟨r6, M5, f21, h1, h2, b22⟩ := u_wX7_readingsToShowAll x1 x2 M3 h1 h2
      have g23 := Fr_tr g13 f21 (fun i k (h : (i = 0 ∧ k = 9) ∨ (27 ≤ i ∧ i ≤ 60)) => (show (i = 0 ∧ k = 9) ∨ (27 ≤ i ∧ i ≤ 60) from by omega))
      exact ⟨r6, M5, g23, h1, h2, fun Q' hq => b2 _ ⟨fun z => absurd z hc4, fun _ => b12 _ ⟨fun _ => b22 _ hq, fun z => absurd z hc14⟩⟩⟩
set_option maxHeartbeats 4000000 in
theorem u_wX7_quickest_41 (x1 : Int32) {Qa Qb : Int32 → Mem → Prop} (s0 : Int32) (M : Mem) (h1 : wX7_quickest_41 x1 Qa s0 M) (h2 : wX7_quickest_41 x1 Qb s0 M) : (∃ (a0 : Int32) (M' : Mem), Fr (fun i k => False) M M' ∧ Qa a0 M' ∧ Qb a0 M' ∧ ∀ (Q' : Int32 → Mem → Prop), Q' a0 M' → wX7_quickest_41 x1 Q' s0 M) := by
  have h1 : Qa s0 M := h1
  have h2 : Qb s0 M := h2
  exact ⟨s0, M, (Fr_refl (fun i k => False) M), h1, h2, fun Q' hq => hq⟩
set_option maxHeartbeats 4000000 in
theorem u_wX7_quickest (x1 : Int32) {Qa Qb : Int32 → Mem → Prop} (M : Mem) (h1 : wX7_quickest x1 M Qa) (h2 : wX7_quickest x1 M Qb) : (∃ (a0 : Int32) (M' : Mem), Fr (fun i k => False) M M' ∧ Qa a0 M' ∧ Qb a0 M' ∧ ∀ (Q' : Int32 → Mem → Prop), Q' a0 M' → wX7_quickest x1 M Q') := by
  have h1 : (wX7_within x1 (0 : Int32) (2 : Int32) M (fun r2 M1 => ((¬ r2 = 0 → ((¬ x1 = 0 → ((¬ x1 = (1 : Int32) → (kd (rid (M1 0 2)) = 6 ∧ wX7_quickest_41 x1 Qa (M1 (rid (M1 0 2)) 0) M1)) ∧ (x1 = (1 : Int32) → (kd (rid (M1 0 2)) = 6 ∧ wX7_quickest_41 x1 Qa ((M1 (rid (M1 0 2)) 0) - (1 : Int32)) M1)))) ∧ (x1 = 0 → Qa (0 : Int32) M1))) ∧ (r2 = 0 → Qa (-1 : Int32) M1)))) := h1
  have h2 : (wX7_within x1 (0 : Int32) (2 : Int32) M (fun r2 M1 => ((¬ r2 = 0 → ((¬ x1 = 0 → ((¬ x1 = (1 : Int32) → (kd (rid (M1 0 2)) = 6 ∧ wX7_quickest_41 x1 Qb (M1 (rid (M1 0 2)) 0) M1)) ∧ (x1 = (1 : Int32) → (kd (rid (M1 0 2)) = 6 ∧ wX7_quickest_41 x1 Qb ((M1 (rid (M1 0 2)) 0) - (1 : Int32)) M1)))) ∧ (x1 = 0 → Qb (0 : Int32) M1))) ∧ (r2 = 0 → Qb (-1 : Int32) M1)))) := h2
  obtain ⟨r2, M1, f1, h1, h2, b2⟩ := u_wX7_within x1 (0 : Int32) (2 : Int32) M h1 h2
  have g3 := Fr_tr (Fr_refl (fun i k => False) M) f1 (fun i k (h : False) => h.elim)
  by_cases hc4 : r2 = 0
  · have h1 := h1.2 hc4
    have h2 := h2.2 hc4
    exact ⟨(-1 : Int32), M1, g3, h1, h2, fun Q' hq => b2 _ ⟨fun z => absurd hc4 z, fun _ => hq⟩⟩
  · have h1 := h1.1 hc4
    have h2 := h2.1 hc4
    by_cases hc5 : x1 = 0
    · have h1 := h1.2 hc5
      have h2 := h2.2 hc5
      exact ⟨(0 : Int32), M1, g3, h1, h2, fun Q' hq => b2 _ ⟨fun _ => ⟨fun z => absurd hc5 z, fun _ => hq⟩, fun z => absurd z hc4⟩⟩
    · have h1 := h1.1 hc5
      have h2 := h2.1 hc5
      by_cases hc6 : x1 = (1 : Int32)
      · have h1 := h1.2 hc6
        have h2 := h2.2 hc6
        have s7 := h1.1
        have h1 := h1.2
        have h2 := h2.2
        have kbs7 := kdB_6 s7
        obtain ⟨c12, N13, f10, h1, h2, b11⟩ := u_wX7_quickest_41 x1 ((M1 (rid (M1 0 2)) 0) - (1 : Int32)) M1 h1 h2
        have hf := Fr_ts g3 f10
        exact ⟨c12, N13, hf, h1, h2, fun Q' hq => b2 _ ⟨fun _ => ⟨fun _ => ⟨fun z => absurd hc6 z, fun _ => ⟨s7, b11 _ hq⟩⟩, fun z => absurd z hc5⟩, fun z => absurd z hc4⟩⟩
      · have h1 := h1.1 hc6
        have h2 := h2.1 hc6
        have s14 := h1.1
        have h1 := h1.2
        have h2 := h2.2
        have kbs14 := kdB_6 s14
        obtain ⟨c19, N20, f17, h1, h2, b18⟩ := u_wX7_quickest_41 x1 (M1 (rid (M1 0 2)) 0) M1 h1 h2
        have hf := Fr_ts g3 f17
        exact ⟨c19, N20, hf, h1, h2, fun Q' hq => b2 _ ⟨fun _ => ⟨fun _ => ⟨fun _ => ⟨s14, b18 _ hq⟩, fun z => absurd z hc6⟩, fun z => absurd z hc5⟩, fun z => absurd z hc4⟩⟩
set_option maxHeartbeats 4000000 in
theorem u_wX7_seen_24 (x1 : Int64) (x3 : Int32) (x4 : Int32) {Qa Qb : Int32 → Mem → Prop} (M : Mem) (h1 : wX7_seen_24 x1 x3 x4 Qa M) (h2 : wX7_seen_24 x1 x3 x4 Qb M) : (∃ (a0 : Int32) (M' : Mem), Fr (fun i k => (i = 0 ∧ k = 9) ∨ (27 ≤ i ∧ i ≤ 60)) M M' ∧ Qa a0 M' ∧ Qb a0 M' ∧ ∀ (Q' : Int32 → Mem → Prop), Q' a0 M' → wX7_seen_24 x1 x3 x4 Q' M) := by
  have h1 : Qa (-1 : Int32) M := h1
  have h2 : Qb (-1 : Int32) M := h2
  exact ⟨(-1 : Int32), M, (Fr_refl (fun i k => (i = 0 ∧ k = 9) ∨ (27 ≤ i ∧ i ≤ 60)) M), h1, h2, fun Q' hq => hq⟩
set_option maxHeartbeats 4000000 in
theorem u_wX7_seen (x1 : Int64) (x3 : Int32) (x4 : Int32) {Qa Qb : Int32 → Mem → Prop} (M : Mem) (h1 : wX7_seen x1 x3 x4 M Qa) (h2 : wX7_seen x1 x3 x4 M Qb) : (∃ (a0 : Int32) (M' : Mem), Fr (fun i k => (i = 0 ∧ k = 9) ∨ (27 ≤ i ∧ i ≤ 60)) M M' ∧ Qa a0 M' ∧ Qb a0 M' ∧ ∀ (Q' : Int32 → Mem → Prop), Q' a0 M' → wX7_seen x1 x3 x4 M Q') := by
  have h1 : (wX7_isReader x1 M (fun r2 M1 => ((r2 = 0 → wX7_seen_24 x1 x3 x4 Qa M1) ∧ (¬ r2 = 0 → (wX7_isTurn x3 M1 (fun r4 M3 => ((r4 = 0 → wX7_seen_24 x1 x3 x4 Qa M3) ∧ (¬ r4 = 0 → (wX7_isBelowCount x4 M3 (fun r6 M5 => ((¬ r6 = 0 → (((M5 0 9) < (12 : Int32) → (wX3_placeRead 32 x1 x3 M5 (fun r8 M7 => (wX4_put 57 (M5 0 9) r8 M7 (fun M9 => (wX4_put 59 (M9 0 9) x4 M9 (fun M10 => Qa ((mu M10 0 9 ((M10 0 9) + (1 : Int32))) 0 9) (mu M10 0 9 ((M10 0 9) + (1 : Int32)))))))))) ∧ (¬ (M5 0 9) < (12 : Int32) → Qa (-3 : Int32) M5))) ∧ (r6 = 0 → wX7_seen_24 x1 x3 x4 Qa M5)))))))))))) := h1
  have h2 : (wX7_isReader x1 M (fun r2 M1 => ((r2 = 0 → wX7_seen_24 x1 x3 x4 Qb M1) ∧ (¬ r2 = 0 → (wX7_isTurn x3 M1 (fun r4 M3 => ((r4 = 0 → wX7_seen_24 x1 x3 x4 Qb M3) ∧ (¬ r4 = 0 → (wX7_isBelowCount x4 M3 (fun r6 M5 => ((¬ r6 = 0 → (((M5 0 9) < (12 : Int32) → (wX3_placeRead 32 x1 x3 M5 (fun r8 M7 => (wX4_put 57 (M5 0 9) r8 M7 (fun M9 => (wX4_put 59 (M9 0 9) x4 M9 (fun M10 => Qb ((mu M10 0 9 ((M10 0 9) + (1 : Int32))) 0 9) (mu M10 0 9 ((M10 0 9) + (1 : Int32)))))))))) ∧ (¬ (M5 0 9) < (12 : Int32) → Qb (-3 : Int32) M5))) ∧ (r6 = 0 → wX7_seen_24 x1 x3 x4 Qb M5)))))))))))) := h2
  obtain ⟨r2, M1, f1, h1, h2, b2⟩ := u_wX7_isReader x1 M h1 h2
  have g3 := Fr_tr (Fr_refl (fun i k => (i = 0 ∧ k = 9) ∨ (27 ≤ i ∧ i ≤ 60)) M) f1 (fun i k (h : False) => h.elim)
  by_cases hc4 : r2 = 0
  · have h1 := h1.1 hc4
    have h2 := h2.1 hc4
    obtain ⟨c9, N10, f7, h1, h2, b8⟩ := u_wX7_seen_24 x1 x3 x4 M1 h1 h2
    have hf := Fr_ts g3 f7
    exact ⟨c9, N10, hf, h1, h2, fun Q' hq => b2 _ ⟨fun _ => b8 _ hq, fun z => absurd hc4 z⟩⟩
  · have h1 := h1.2 hc4
    have h2 := h2.2 hc4
    obtain ⟨r4, M3, f11, h1, h2, b12⟩ := u_wX7_isTurn x3 M1 h1 h2
    have g13 := Fr_tr g3 f11 (fun i k (h : False) => h.elim)
    by_cases hc14 : r4 = 0
    · have h1 := h1.1 hc14
      have h2 := h2.1 hc14
      obtain ⟨c19, N20, f17, h1, h2, b18⟩ := u_wX7_seen_24 x1 x3 x4 M3 h1 h2
      have hf := Fr_ts g13 f17
      exact ⟨c19, N20, hf, h1, h2, fun Q' hq => b2 _ ⟨fun z => absurd z hc4, fun _ => b12 _ ⟨fun _ => b18 _ hq, fun z => absurd hc14 z⟩⟩⟩
    · have h1 := h1.2 hc14
      have h2 := h2.2 hc14
      obtain ⟨r6, M5, f21, h1, h2, b22⟩ := u_wX7_isBelowCount x4 M3 h1 h2
      have g23 := Fr_tr g13 f21 (fun i k (h : False) => h.elim)
      by_cases hc24 : r6 = 0
      · have h1 := h1.2 hc24
        have h2 := h2.2 hc24
        obtain ⟨c29, N30, f27, h1, h2, b28⟩ := u_wX7_seen_24 x1 x3 x4 M5 h1 h2
        have hf := Fr_ts g23 f27
        exact ⟨c29, N30, hf, h1, h2, fun Q' hq => b2 _ ⟨fun z => absurd z hc4, fun _ => b12 _ ⟨fun z => absurd z hc14, fun _ => b22 _ ⟨fun z => absurd hc24 z, fun _ => b28 _ hq⟩⟩⟩⟩
      · have h1 := h1.1 hc24
        have h2 := h2.1 hc24
        by_cases hc31 : (M5 0 9) < (12 : Int32)
        · have h1 := h1.1 hc31
          have h2 := h2.1 hc31
          obtain ⟨r8, M7, f32, h1, h2, b33⟩ := u_wX3_placeRead 32 x1 x3 M5 h1 h2
          have g34 := Fr_tr g23 f32 (fun i k (h : False) => h.elim)
          obtain ⟨M9, f35, h1, h2, b36⟩ := u_wX4_put 57 (M5 0 9) r8 M7 h1 h2
          have g37 := Fr_tr g34 f35 (fun i k (h : i = 57 + 1) => (show (i = 0 ∧ k = 9) ∨ (27 ≤ i ∧ i ≤ 60) from by omega))
          obtain ⟨M10, f38, h1, h2, b39⟩ := u_wX4_put 59 (M9 0 9) x4 M9 h1 h2
          have g40 := Fr_tr g37 f38 (fun i k (h : i = 59 + 1) => (show (i = 0 ∧ k = 9) ∨ (27 ≤ i ∧ i ≤ 60) from by omega))
          exact ⟨((mu M10 0 9 ((M10 0 9) + (1 : Int32))) 0 9), (mu M10 0 9 ((M10 0 9) + (1 : Int32))), (Fr_mu g40 (show (0 = 0 ∧ 9 = 9) ∨ (27 ≤ 0 ∧ 0 ≤ 60) from by omega)), h1, h2, fun Q' hq => b2 _ ⟨fun z => absurd z hc4, fun _ => b12 _ ⟨fun z => absurd z hc14, fun _ => b22 _ ⟨fun _ => ⟨fun _ => b33 _ (b36 _ (b39 _ hq)), fun z => absurd hc31 z⟩, fun z => absurd z hc24⟩⟩⟩⟩
        · have h1 := h1.2 hc31
          have h2 := h2.2 hc31
          exact ⟨(-3 : Int32), M5, g23, h1, h2, fun Q' hq => b2 _ ⟨fun z => absurd z hc4, fun _ => b12 _ ⟨fun z => absurd z hc14, fun _ => b22 _ ⟨fun _ => ⟨fun z => absurd z hc31, fun _ => hq⟩, fun z => absurd z hc24⟩⟩⟩⟩
set_option maxHeartbeats 4000000 in
theorem u_wX7_forget {Qa Qb : Int32 → Mem → Prop} (M : Mem) (h1 : wX7_forget M Qa) (h2 : wX7_forget M Qb) : (∃ (a0 : Int32) (M' : Mem), Fr (fun i k => (i = 0 ∧ k = 9) ∨ (27 ≤ i ∧ i ≤ 60)) M M' ∧ Qa a0 M' ∧ Qb a0 M' ∧ ∀ (Q' : Int32 → Mem → Prop), Q' a0 M' → wX7_forget M Q') := by
  have h1 : Qa (M 0 9) (mu M 0 9 (0 : Int32)) := h1
  have h2 : Qb (M 0 9) (mu M 0 9 (0 : Int32)) := h2
  exact ⟨(M 0 9), (mu M 0 9 (0 : Int32)), (Fr_mu (Fr_refl (fun i k => (i = 0 ∧ k = 9) ∨ (27 ≤ i ∧ i ≤ 60)) M) (show (0 = 0 ∧ 9 = 9) ∨ (27 ≤ 0 ∧ 0 ≤ 60) from by omega)), h1, h2, fun Q' hq => hq⟩
set_option maxHeartbeats 4000000 in
theorem u_wX7_guessFromSeen_16 {Qa Qb : Mem → Prop} : ∀ (n1 n2 : Nat) (v1 : Int32) (M : Mem), wX7_guessFromSeen_16 Qa n1 v1 M → wX7_guessFromSeen_16 Qb n2 v1 M → (∃ (M' : Mem), Fr (fun i k => (i = 0 ∧ k = 9) ∨ (27 ≤ i ∧ i ≤ 60)) M M' ∧ Qa M' ∧ Qb M' ∧ ∀ (Q' : Mem → Prop), Q' M' → wX7_guessFromSeen_16 Q' n1 v1 M) := by
  intro n1
  induction n1 with
  | zero => intro _ _ _ h1 _; exact h1.elim
  | succ n ih =>
    intro n2 v1 M h1 h2
    cases n2 with
    | zero => exact h2.elim
    | succ m =>
      have h1 : (((M 0 9) ≤ v1 → Qa M) ∧ (¬ (M 0 9) ≤ v1 → (wX4_at 57 v1 M (fun r5 M4 => (wX4_at 59 v1 M4 (fun r7 M6 => (wX0_bind 52 r5 r7 M6 (fun M8 => wX7_guessFromSeen_16 Qa n (v1 + (1 : Int32)) M8)))))))) := h1
      have h2 : (((M 0 9) ≤ v1 → Qb M) ∧ (¬ (M 0 9) ≤ v1 → (wX4_at 57 v1 M (fun r5 M4 => (wX4_at 59 v1 M4 (fun r7 M6 => (wX0_bind 52 r5 r7 M6 (fun M8 => wX7_guessFromSeen_16 Qb m (v1 + (1 : Int32)) M8)))))))) := h2
      by_cases hc1 : (M 0 9) ≤ v1
      · have h1 := h1.1 hc1
        have h2 := h2.1 hc1
        exact ⟨M, (Fr_refl (fun i k => (i = 0 ∧ k = 9) ∨ (27 ≤ i ∧ i ≤ 60)) M), h1, h2, fun Q' hq => ⟨fun _ => hq, fun z => absurd hc1 z⟩⟩
      · have h1 := h1.2 hc1
        have h2 := h2.2 hc1
        obtain ⟨r5, M4, f2, h1, h2, b3⟩ := u_wX4_at 57 v1 M h1 h2
        have g4 := Fr_tr (Fr_refl (fun i k => (i = 0 ∧ k = 9) ∨ (27 ≤ i ∧ i ≤ 60)) M) f2 (fun i k (h : False) => h.elim)
        obtain ⟨r7, M6, f5, h1, h2, b6⟩ := u_wX4_at 59 v1 M4 h1 h2
        have g7 := Fr_tr g4 f5 (fun i k (h : False) => h.elim)
        obtain ⟨M8, f8, h1, h2, b9⟩ := u_wX0_bind 52 r5 r7 M6 h1 h2
        have g10 := Fr_tr g7 f8 (fun i k (h : 52 ≤ i ∧ i ≤ 52 + 4) => (show (i = 0 ∧ k = 9) ∨ (27 ≤ i ∧ i ≤ 60) from by omega))
        obtain ⟨N15, f13, h1, h2, b14⟩ := ih m (v1 + (1 : Int32)) M8 h1 h2
        have hf := Fr_ts g10 f13
        exact ⟨N15, hf, h1, h2, fun Q' hq => ⟨fun z => absurd z hc1, fun _ => b3 _ (b6 _ (b9 _ (b14 _ hq)))⟩⟩
set_option maxHeartbeats 4000000 in
theorem u_wX7_guessFromSeen {Qa Qb : Mem → Prop} (M : Mem) (h1 : wX7_guessFromSeen M Qa) (h2 : wX7_guessFromSeen M Qb) : (∃ (M' : Mem), Fr (fun i k => (i = 0 ∧ k = 9) ∨ (27 ≤ i ∧ i ≤ 60)) M M' ∧ Qa M' ∧ Qb M' ∧ ∀ (Q' : Mem → Prop), Q' M' → wX7_guessFromSeen M Q') := by
  have h1 : (kd (rid (M 0 2)) = 6 ∧ (wX0_begin 52 (M (rid (M 0 2)) 0) M (fun M2 => (∃ n3, wX7_guessFromSeen_16 Qa n3 (0 : Int32) M2)))) := h1
  have h2 : (kd (rid (M 0 2)) = 6 ∧ (wX0_begin 52 (M (rid (M 0 2)) 0) M (fun M2 => (∃ n3, wX7_guessFromSeen_16 Qb n3 (0 : Int32) M2)))) := h2
  have s1 := h1.1
  have h1 := h1.2
  have h2 := h2.2
  have kbs1 := kdB_6 s1
  obtain ⟨M2, f2, h1, h2, b3⟩ := u_wX0_begin 52 (M (rid (M 0 2)) 0) M h1 h2
  have g4 := Fr_tr (Fr_refl (fun i k => (i = 0 ∧ k = 9) ∨ (27 ≤ i ∧ i ≤ 60)) M) f2 (fun i k (h : 52 ≤ i ∧ i ≤ 52 + 4) => (show (i = 0 ∧ k = 9) ∨ (27 ≤ i ∧ i ≤ 60) from by omega))
  obtain ⟨n3_a, h1⟩ := h1
  obtain ⟨n3_b, h2⟩ := h2
  obtain ⟨N9, f7, h1, h2, b8⟩ := u_wX7_guessFromSeen_16 n3_a n3_b (0 : Int32) M2 h1 h2
  have hf := Fr_ts g4 f7
  exact ⟨N9, hf, h1, h2, fun Q' hq => ⟨s1, b3 _ ⟨n3_a, b8 _ hq⟩⟩⟩
set_option maxHeartbeats 4000000 in
theorem u_wX7_so_19 {Qa Qb : Int32 → Mem → Prop} (s0 : Int32) (M : Mem) (h1 : wX7_so_19 Qa s0 M) (h2 : wX7_so_19 Qb s0 M) : (∃ (a0 : Int32) (M' : Mem), Fr (fun i k => (i = 0 ∧ k = 9) ∨ (27 ≤ i ∧ i ≤ 60)) M M' ∧ Qa a0 M' ∧ Qb a0 M' ∧ ∀ (Q' : Int32 → Mem → Prop), Q' a0 M' → wX7_so_19 Q' s0 M) := by
  have h1 : Qa s0 M := h1
  have h2 : Qb s0 M := h2
  exact ⟨s0, M, (Fr_refl (fun i k => (i = 0 ∧ k = 9) ∨ (27 ≤ i ∧ i ≤ 60)) M), h1, h2, fun Q' hq => hq⟩
set_option maxHeartbeats 4000000 in
theorem u_wX7_so {Qa Qb : Int32 → Mem → Prop} (M : Mem) (h1 : wX7_so M Qa) (h2 : wX7_so M Qb) : (∃ (a0 : Int32) (M' : Mem), Fr (fun i k => (i = 0 ∧ k = 9) ∨ (27 ≤ i ∧ i ≤ 60)) M M' ∧ Qa a0 M' ∧ Qb a0 M' ∧ ∀ (Q' : Int32 → Mem → Prop), Q' a0 M' → wX7_so M Q') := by
  have h1 : (wX7_guessFromSeen M (fun M1 => (wX0_holds 52 M1 (fun r3 M2 => ((r3 = 0 → wX7_so_19 Qa (0 : Int32) M2) ∧ (¬ r3 = 0 → wX7_so_19 Qa (1 : Int32) M2)))))) := h1
  have h2 : (wX7_guessFromSeen M (fun M1 => (wX0_holds 52 M1 (fun r3 M2 => ((r3 = 0 → wX7_so_19 Qb (0 : Int32) M2) ∧ (¬ r3 = 0 → wX7_so_19 Qb (1 : Int32) M2)))))) := h2
  obtain ⟨M1, f1, h1, h2, b2⟩ := u_wX7_guessFromSeen M h1 h2
  have g3 := Fr_tr (Fr_refl (fun i k => (i = 0 ∧ k = 9) ∨ (27 ≤ i ∧ i ≤ 60)) M) f1 (fun i k (h : (i = 0 ∧ k = 9) ∨ (27 ≤ i ∧ i ≤ 60)) => (show (i = 0 ∧ k = 9) ∨ (27 ≤ i ∧ i ≤ 60) from by omega))
  obtain ⟨r3, M2, f4, h1, h2, b5⟩ := u_wX0_holds 52 M1 h1 h2
  have g6 := Fr_tr g3 f4 (fun i k (h : False) => h.elim)
  by_cases hc7 : r3 = 0
  · have h1 := h1.1 hc7
    have h2 := h2.1 hc7
    obtain ⟨c12, N13, f10, h1, h2, b11⟩ := u_wX7_so_19 (0 : Int32) M2 h1 h2
    have hf := Fr_ts g6 f10
    exact ⟨c12, N13, hf, h1, h2, fun Q' hq => b2 _ (b5 _ ⟨fun _ => b11 _ hq, fun z => absurd hc7 z⟩)⟩
  · have h1 := h1.2 hc7
    have h2 := h2.2 hc7
    obtain ⟨c18, N19, f16, h1, h2, b17⟩ := u_wX7_so_19 (1 : Int32) M2 h1 h2
    have hf := Fr_ts g6 f16
    exact ⟨c18, N19, hf, h1, h2, fun Q' hq => b2 _ (b5 _ ⟨fun z => absurd z hc7, fun _ => b17 _ hq⟩)⟩
set_option maxHeartbeats 4000000 in
theorem u_wX7_sure_44 (x1 : Int32) {Qa Qb : Int32 → Mem → Prop} (M : Mem) (h1 : wX7_sure_44 x1 Qa M) (h2 : wX7_sure_44 x1 Qb M) : (∃ (a0 : Int32) (M' : Mem), Fr (fun i k => (i = 0 ∧ k = 9) ∨ (27 ≤ i ∧ i ≤ 60)) M M' ∧ Qa a0 M' ∧ Qb a0 M' ∧ ∀ (Q' : Int32 → Mem → Prop), Q' a0 M' → wX7_sure_44 x1 Q' M) := by
  have h1 : (wX0_leafAt 52 x1 M (fun r10 M9 => Qa r10 M9)) := h1
  have h2 : (wX0_leafAt 52 x1 M (fun r10 M9 => Qb r10 M9)) := h2
  obtain ⟨r10, M9, f1, h1, h2, b2⟩ := u_wX0_leafAt 52 x1 M h1 h2
  have g3 := Fr_tr (Fr_refl (fun i k => (i = 0 ∧ k = 9) ∨ (27 ≤ i ∧ i ≤ 60)) M) f1 (fun i k (h : False) => h.elim)
  exact ⟨r10, M9, g3, h1, h2, fun Q' hq => b2 _ hq⟩
set_option maxHeartbeats 4000000 in
theorem u_wX7_sure (x1 : Int32) {Qa Qb : Int32 → Mem → Prop} (M : Mem) (h1 : wX7_sure x1 M Qa) (h2 : wX7_sure x1 M Qb) : (∃ (a0 : Int32) (M' : Mem), Fr (fun i k => (i = 0 ∧ k = 9) ∨ (27 ≤ i ∧ i ≤ 60)) M M' ∧ Qa a0 M' ∧ Qb a0 M' ∧ ∀ (Q' : Int32 → Mem → Prop), Q' a0 M' → wX7_sure x1 M Q') := by
  have h1 : (wX7_isBelowCount x1 M (fun r2 M1 => ((¬ r2 = 0 → (wX7_guessFromSeen M1 (fun M3 => (wX0_holds 52 M3 (fun r5 M4 => ((¬ r5 = 0 → (wX0_isAllButOne 52 M4 (fun r7 M6 => ((r7 = 0 → wX7_sure_44 x1 Qa M6) ∧ (¬ r7 = 0 → (wX0_fillUp 52 M6 (fun M8 => wX7_sure_44 x1 Qa M8))))))) ∧ (r5 = 0 → Qa (-4 : Int32) M4))))))) ∧ (r2 = 0 → Qa (-1 : Int32) M1)))) := h1
  have h2 : (wX7_isBelowCount x1 M (fun r2 M1 => ((¬ r2 = 0 → (wX7_guessFromSeen M1 (fun M3 => (wX0_holds 52 M3 (fun r5 M4 => ((¬ r5 = 0 → (wX0_isAllButOne 52 M4 (fun r7 M6 => ((r7 = 0 → wX7_sure_44 x1 Qb M6) ∧ (¬ r7 = 0 → (wX0_fillUp 52 M6 (fun M8 => wX7_sure_44 x1 Qb M8))))))) ∧ (r5 = 0 → Qb (-4 : Int32) M4))))))) ∧ (r2 = 0 → Qb (-1 : Int32) M1)))) := h2
  obtain ⟨r2, M1, f1, h1, h2, b2⟩ := u_wX7_isBelowCount x1 M h1 h2
  have g3 := Fr_tr (Fr_refl (fun i k => (i = 0 ∧ k = 9) ∨ (27 ≤ i ∧ i ≤ 60)) M) f1 (fun i k (h : False) => h.elim)
  by_cases hc4 : r2 = 0
  · have h1 := h1.2 hc4
    have h2 := h2.2 hc4
    exact ⟨(-1 : Int32), M1, g3, h1, h2, fun Q' hq => b2 _ ⟨fun z => absurd hc4 z, fun _ => hq⟩⟩
  · have h1 := h1.1 hc4
    have h2 := h2.1 hc4
    obtain ⟨M3, f5, h1, h2, b6⟩ := u_wX7_guessFromSeen M1 h1 h2
    have g7 := Fr_tr g3 f5 (fun i k (h : (i = 0 ∧ k = 9) ∨ (27 ≤ i ∧ i ≤ 60)) => (show (i = 0 ∧ k = 9) ∨ (27 ≤ i ∧ i ≤ 60) from by omega))
    obtain ⟨r5, M4, f8, h1, h2, b9⟩ := u_wX0_holds 52 M3 h1 h2
    have g10 := Fr_tr g7 f8 (fun i k (h : False) => h.elim)
    by_cases hc11 : r5 = 0
    · have h1 := h1.2 hc11
      have h2 := h2.2 hc11
      exact ⟨(-4 : Int32), M4, g10, h1, h2, fun Q' hq => b2 _ ⟨fun _ => b6 _ (b9 _ ⟨fun z => absurd hc11 z, fun _ => hq⟩), fun z => absurd z hc4⟩⟩
    · have h1 := h1.1 hc11
      have h2 := h2.1 hc11
      obtain ⟨r7, M6, f12, h1, h2, b13⟩ := u_wX0_isAllButOne 52 M4 h1 h2
      have g14 := Fr_tr g10 f12 (fun i k (h : False) => h.elim)
      by_cases hc15 : r7 = 0
      · have h1 := h1.1 hc15
        have h2 := h2.1 hc15
        obtain ⟨c20, N21, f18, h1, h2, b19⟩ := u_wX7_sure_44 x1 M6 h1 h2
        have hf := Fr_ts g14 f18
        exact ⟨c20, N21, hf, h1, h2, fun Q' hq => b2 _ ⟨fun _ => b6 _ (b9 _ ⟨fun _ => b13 _ ⟨fun _ => b19 _ hq, fun z => absurd hc15 z⟩, fun z => absurd z hc11⟩), fun z => absurd z hc4⟩⟩
      · have h1 := h1.2 hc15
        have h2 := h2.2 hc15
        obtain ⟨M8, f22, h1, h2, b23⟩ := u_wX0_fillUp 52 M6 h1 h2
        have g24 := Fr_tr g14 f22 (fun i k (h : 52 ≤ i ∧ i ≤ 52 + 4) => (show (i = 0 ∧ k = 9) ∨ (27 ≤ i ∧ i ≤ 60) from by omega))
        obtain ⟨c29, N30, f27, h1, h2, b28⟩ := u_wX7_sure_44 x1 M8 h1 h2
        have hf := Fr_ts g24 f27
        exact ⟨c29, N30, hf, h1, h2, fun Q' hq => b2 _ ⟨fun _ => b6 _ (b9 _ ⟨fun _ => b13 _ ⟨fun z => absurd z hc15, fun _ => b23 _ (b28 _ hq)⟩, fun z => absurd z hc11⟩), fun z => absurd z hc4⟩⟩
set_option maxHeartbeats 4000000 in
theorem u_wX7_lacks_17 (x1 : Int32) (x2 : Int32) {Qa Qb : Int32 → Mem → Prop} (M : Mem) (h1 : wX7_lacks_17 x1 x2 Qa M) (h2 : wX7_lacks_17 x1 x2 Qb M) : (∃ (a0 : Int32) (M' : Mem), Fr (fun i k => False) M M' ∧ Qa a0 M' ∧ Qb a0 M' ∧ ∀ (Q' : Int32 → Mem → Prop), Q' a0 M' → wX7_lacks_17 x1 x2 Q' M) := by
  have h1 : Qa (-1 : Int32) M := h1
  have h2 : Qb (-1 : Int32) M := h2
  exact ⟨(-1 : Int32), M, (Fr_refl (fun i k => False) M), h1, h2, fun Q' hq => hq⟩
set_option maxHeartbeats 4000000 in
theorem u_wX7_lacks_76 (x1 : Int32) (x2 : Int32) {Qa Qb : Int32 → Mem → Prop} (s0 : Int32) (M : Mem) (h1 : wX7_lacks_76 x1 x2 Qa s0 M) (h2 : wX7_lacks_76 x1 x2 Qb s0 M) : (∃ (a0 : Int32) (M' : Mem), Fr (fun i k => False) M M' ∧ Qa a0 M' ∧ Qb a0 M' ∧ ∀ (Q' : Int32 → Mem → Prop), Q' a0 M' → wX7_lacks_76 x1 x2 Q' s0 M) := by
  have h1 : Qa s0 M := h1
  have h2 : Qb s0 M := h2
  exact ⟨s0, M, (Fr_refl (fun i k => False) M), h1, h2, fun Q' hq => hq⟩
set_option maxHeartbeats 4000000 in
theorem u_wX7_lacks_31 (x1 : Int32) (x2 : Int32) {Qa Qb : Int32 → Mem → Prop} : ∀ (n1 n2 : Nat) (v3 : Int32) (v4 : Int32) (M : Mem), wX7_lacks_31 x1 x2 Qa n1 v3 v4 M → wX7_lacks_31 x1 x2 Qb n2 v3 v4 M → (∃ (a0 : Int32) (M' : Mem), Fr (fun i k => False) M M' ∧ Qa a0 M' ∧ Qb a0 M' ∧ ∀ (Q' : Int32 → Mem → Prop), Q' a0 M' → wX7_lacks_31 x1 x2 Q' n1 v3 v4 M) := by
  intro n1
  induction n1 with
  | zero => intro _ _ _ _ h1 _; exact h1.elim
  | succ n ih =>
    intro n2 v3 v4 M h1 h2
    cases n2 with
    | zero => exact h2.elim
    | succ m =>
      have h1 : (((40 : Int32) ≤ v4 → Qa (-4 : Int32) M) ∧ (¬ (40 : Int32) ≤ v4 → (wX3_placeFoundBy 32 v4.toInt64 v3 M (fun r9 M8 => (wX3_turnAt 32 r9 M8 (fun r11 M10 => ((r11 = (-4 : Int32) → wX7_lacks_31 x1 x2 Qa n v3 (v4 + (1 : Int32)) M10) ∧ (¬ r11 = (-4 : Int32) → ((¬ x2 = 0 → wX7_lacks_76 x1 x2 Qa r11 M10) ∧ (x2 = 0 → wX7_lacks_76 x1 x2 Qa v4 M10)))))))))) := h1
      have h2 : (((40 : Int32) ≤ v4 → Qb (-4 : Int32) M) ∧ (¬ (40 : Int32) ≤ v4 → (wX3_placeFoundBy 32 v4.toInt64 v3 M (fun r9 M8 => (wX3_turnAt 32 r9 M8 (fun r11 M10 => ((r11 = (-4 : Int32) → wX7_lacks_31 x1 x2 Qb m v3 (v4 + (1 : Int32)) M10) ∧ (¬ r11 = (-4 : Int32) → ((¬ x2 = 0 → wX7_lacks_76 x1 x2 Qb r11 M10) ∧ (x2 = 0 → wX7_lacks_76 x1 x2 Qb v4 M10)))))))))) := h2
      by_cases hc1 : (40 : Int32) ≤ v4
      · have h1 := h1.1 hc1
        have h2 := h2.1 hc1
        exact ⟨(-4 : Int32), M, (Fr_refl (fun i k => False) M), h1, h2, fun Q' hq => ⟨fun _ => hq, fun z => absurd hc1 z⟩⟩
      · have h1 := h1.2 hc1
        have h2 := h2.2 hc1
        obtain ⟨r9, M8, f2, h1, h2, b3⟩ := u_wX3_placeFoundBy 32 v4.toInt64 v3 M h1 h2
        have g4 := Fr_tr (Fr_refl (fun i k => False) M) f2 (fun i k (h : False) => h.elim)
        obtain ⟨r11, M10, f5, h1, h2, b6⟩ := u_wX3_turnAt 32 r9 M8 h1 h2
        have g7 := Fr_tr g4 f5 (fun i k (h : False) => h.elim)
        by_cases hc8 : r11 = (-4 : Int32)
        · have h1 := h1.1 hc8
          have h2 := h2.1 hc8
          obtain ⟨c13, N14, f11, h1, h2, b12⟩ := ih m v3 (v4 + (1 : Int32)) M10 h1 h2
          have hf := Fr_ts g7 f11
          exact ⟨c13, N14, hf, h1, h2, fun Q' hq => ⟨fun z => absurd z hc1, fun _ => b3 _ (b6 _ ⟨fun _ => b12 _ hq, fun z => absurd hc8 z⟩)⟩⟩
        · have h1 := h1.2 hc8
          have h2 := h2.2 hc8
          by_cases hc15 : x2 = 0
          · have h1 := h1.2 hc15
            have h2 := h2.2 hc15
            obtain ⟨c20, N21, f18, h1, h2, b19⟩ := u_wX7_lacks_76 x1 x2 v4 M10 h1 h2
            have hf := Fr_ts g7 f18
            exact ⟨c20, N21, hf, h1, h2, fun Q' hq => ⟨fun z => absurd z hc1, fun _ => b3 _ (b6 _ ⟨fun z => absurd z hc8, fun _ => ⟨fun z => absurd hc15 z, fun _ => b19 _ hq⟩⟩)⟩⟩
          · have h1 := h1.1 hc15
            have h2 := h2.1 hc15
            obtain ⟨c26, N27, f24, h1, h2, b25⟩ := u_wX7_lacks_76 x1 x2 r11 M10 h1 h2
            have hf := Fr_ts g7 f24
            exact ⟨c26, N27, hf, h1, h2, fun Q' hq => ⟨fun z => absurd z hc1, fun _ => b3 _ (b6 _ ⟨fun z => absurd z hc8, fun _ => ⟨fun _ => b25 _ hq, fun z => absurd z hc15⟩⟩)⟩⟩
set_option maxHeartbeats 4000000 in
theorem u_wX7_lacks (x1 : Int32) (x2 : Int32) {Qa Qb : Int32 → Mem → Prop} (M : Mem) (h1 : wX7_lacks x1 x2 M Qa) (h2 : wX7_lacks x1 x2 M Qb) : (∃ (a0 : Int32) (M' : Mem), Fr (fun i k => False) M M' ∧ Qa a0 M' ∧ Qb a0 M' ∧ ∀ (Q' : Int32 → Mem → Prop), Q' a0 M' → wX7_lacks x1 x2 M Q') := by
  have h1 : (wX7_isBelowCount x1 M (fun r2 M1 => ((r2 = 0 → wX7_lacks_17 x1 x2 Qa M1) ∧ (¬ r2 = 0 → (wX7_within x2 (0 : Int32) (1 : Int32) M1 (fun r4 M3 => ((¬ r4 = 0 → (wX1_placeOf 22 x1 M3 (fun r6 M5 => (∃ n7, wX7_lacks_31 x1 x2 Qa n7 r6 (0 : Int32) M5)))) ∧ (r4 = 0 → wX7_lacks_17 x1 x2 Qa M3)))))))) := h1
  have h2 : (wX7_isBelowCount x1 M (fun r2 M1 => ((r2 = 0 → wX7_lacks_17 x1 x2 Qb M1) ∧ (¬ r2 = 0 → (wX7_within x2 (0 : Int32) (1 : Int32) M1 (fun r4 M3 => ((¬ r4 = 0 → (wX1_placeOf 22 x1 M3 (fun r6 M5 => (∃ n7, wX7_lacks_31 x1 x2 Qb n7 r6 (0 : Int32) M5)))) ∧ (r4 = 0 → wX7_lacks_17 x1 x2 Qb M3)))))))) := h2
  obtain ⟨r2, M1, f1, h1, h2, b2⟩ := u_wX7_isBelowCount x1 M h1 h2
  have g3 := Fr_tr (Fr_refl (fun i k => False) M) f1 (fun i k (h : False) => h.elim)
  by_cases hc4 : r2 = 0
  · have h1 := h1.1 hc4
    have h2 := h2.1 hc4
    obtain ⟨c9, N10, f7, h1, h2, b8⟩ := u_wX7_lacks_17 x1 x2 M1 h1 h2
    have hf := Fr_ts g3 f7
    exact ⟨c9, N10, hf, h1, h2, fun Q' hq => b2 _ ⟨fun _ => b8 _ hq, fun z => absurd hc4 z⟩⟩
  · have h1 := h1.2 hc4
    have h2 := h2.2 hc4
    obtain ⟨r4, M3, f11, h1, h2, b12⟩ := u_wX7_within x2 (0 : Int32) (1 : Int32) M1 h1 h2
    have g13 := Fr_tr g3 f11 (fun i k (h : False) => h.elim)
    by_cases hc14 : r4 = 0
    · have h1 := h1.2 hc14
      have h2 := h2.2 hc14
      obtain ⟨c19, N20, f17, h1, h2, b18⟩ := u_wX7_lacks_17 x1 x2 M3 h1 h2
      have hf := Fr_ts g13 f17
      exact ⟨c19, N20, hf, h1, h2, fun Q' hq => b2 _ ⟨fun z => absurd z hc4, fun _ => b12 _ ⟨fun z => absurd hc14 z, fun _ => b18 _ hq⟩⟩⟩
    · have h1 := h1.1 hc14
      have h2 := h2.1 hc14
      obtain ⟨r6, M5, f21, h1, h2, b22⟩ := u_wX1_placeOf 22 x1 M3 h1 h2
      have g23 := Fr_tr g13 f21 (fun i k (h : False) => h.elim)
      obtain ⟨n7_a, h1⟩ := h1
      obtain ⟨n7_b, h2⟩ := h2
      obtain ⟨c28, N29, f26, h1, h2, b27⟩ := u_wX7_lacks_31 x1 x2 n7_a n7_b r6 (0 : Int32) M5 h1 h2
      have hf := Fr_ts g23 f26
      exact ⟨c28, N29, hf, h1, h2, fun Q' hq => b2 _ ⟨fun z => absurd z hc4, fun _ => b12 _ ⟨fun _ => b22 _ ⟨n7_a, b27 _ hq⟩, fun z => absurd z hc14⟩⟩⟩
set_option maxHeartbeats 4000000 in
theorem u_wX7_isReadBy_27 (x1 : Int32) (x2 : Int32) {Qa Qb : Int32 → Mem → Prop} (s0 : Int32) (M : Mem) (h1 : wX7_isReadBy_27 x1 x2 Qa s0 M) (h2 : wX7_isReadBy_27 x1 x2 Qb s0 M) : (∃ (a0 : Int32) (M' : Mem), Fr (fun i k => False) M M' ∧ Qa a0 M' ∧ Qb a0 M' ∧ ∀ (Q' : Int32 → Mem → Prop), Q' a0 M' → wX7_isReadBy_27 x1 x2 Q' s0 M) := by
  have h1 : ((s0 = 0 ∨ s0 = 1) ∧ Qa s0 M) := h1
  have h2 : ((s0 = 0 ∨ s0 = 1) ∧ Qb s0 M) := h2
  have s1 := h1.1
  have h1 := h1.2
  have h2 := h2.2
  exact ⟨s0, M, (Fr_refl (fun i k => False) M), h1, h2, fun Q' hq => ⟨s1, hq⟩⟩
set_option maxHeartbeats 4000000 in
theorem u_wX7_isReadBy (x1 : Int32) (x2 : Int32) {Qa Qb : Int32 → Mem → Prop} (M : Mem) (h1 : wX7_isReadBy x1 x2 M Qa) (h2 : wX7_isReadBy x1 x2 M Qb) : (∃ (a0 : Int32) (M' : Mem), Fr (fun i k => False) M M' ∧ Qa a0 M' ∧ Qb a0 M' ∧ ∀ (Q' : Int32 → Mem → Prop), Q' a0 M' → wX7_isReadBy x1 x2 M Q') := by
  have h1 : (wX3_placeFoundBy 32 x1.toInt64 x2 M (fun r2 M1 => (wX3_turnAt 32 r2 M1 (fun r4 M3 => ((r4 = (-4 : Int32) → wX7_isReadBy_27 x1 x2 Qa (0 : Int32) M3) ∧ (¬ r4 = (-4 : Int32) → wX7_isReadBy_27 x1 x2 Qa (1 : Int32) M3)))))) := h1
  have h2 : (wX3_placeFoundBy 32 x1.toInt64 x2 M (fun r2 M1 => (wX3_turnAt 32 r2 M1 (fun r4 M3 => ((r4 = (-4 : Int32) → wX7_isReadBy_27 x1 x2 Qb (0 : Int32) M3) ∧ (¬ r4 = (-4 : Int32) → wX7_isReadBy_27 x1 x2 Qb (1 : Int32) M3)))))) := h2
  obtain ⟨r2, M1, f1, h1, h2, b2⟩ := u_wX3_placeFoundBy 32 x1.toInt64 x2 M h1 h2
  have g3 := Fr_tr (Fr_refl (fun i k => False) M) f1 (fun i k (h : False) => h.elim)
  obtain ⟨r4, M3, f4, h1, h2, b5⟩ := u_wX3_turnAt 32 r2 M1 h1 h2
  have g6 := Fr_tr g3 f4 (fun i k (h : False) => h.elim)
  by_cases hc7 : r4 = (-4 : Int32)
  · have h1 := h1.1 hc7
    have h2 := h2.1 hc7
    obtain ⟨c12, N13, f10, h1, h2, b11⟩ := u_wX7_isReadBy_27 x1 x2 (0 : Int32) M3 h1 h2
    have hf := Fr_ts g6 f10
    exact ⟨c12, N13, hf, h1, h2, fun Q' hq => b2 _ (b5 _ ⟨fun _ => b11 _ hq, fun z => absurd hc7 z⟩)⟩
  · have h1 := h1.2 hc7
    have h2 := h2.2 hc7
    obtain ⟨c18, N19, f16, h1, h2, b17⟩ := u_wX7_isReadBy_27 x1 x2 (1 : Int32) M3 h1 h2
    have hf := Fr_ts g6 f16
    exact ⟨c18, N19, hf, h1, h2, fun Q' hq => b2 _ (b5 _ ⟨fun z => absurd z hc7, fun _ => b17 _ hq⟩)⟩
set_option maxHeartbeats 4000000 in
theorem u_wX7_notice_27 (x1 : Int32) (x2 : Int32) (x3 : Int32) {Qa Qb : Int32 → Mem → Prop} (M : Mem) (h1 : wX7_notice_27 x1 x2 x3 Qa M) (h2 : wX7_notice_27 x1 x2 x3 Qb M) : (∃ (a0 : Int32) (M' : Mem), Fr (fun i k => False) M M' ∧ Qa a0 M' ∧ Qb a0 M' ∧ ∀ (Q' : Int32 → Mem → Prop), Q' a0 M' → wX7_notice_27 x1 x2 x3 Q' M) := by
  have h1 : Qa (-1 : Int32) M := h1
  have h2 : Qb (-1 : Int32) M := h2
  exact ⟨(-1 : Int32), M, (Fr_refl (fun i k => False) M), h1, h2, fun Q' hq => hq⟩
set_option maxHeartbeats 4000000 in
theorem u_wX7_notice_93 (x1 : Int32) (x2 : Int32) (x3 : Int32) {k_62a k_62b : Int32 → Int32 → Int32 → Int32 → Mem → Prop} {Qa Qb : Int32 → Mem → Prop} (v4 : Int32) (v5 : Int32) (v6 : Int32) (v7 : Int32) (M : Mem) (h1 : wX7_notice_93 x1 x2 x3 k_62a Qa v4 v5 v6 v7 M) (h2 : wX7_notice_93 x1 x2 x3 k_62b Qb v4 v5 v6 v7 M) : (∃ (a0 : Int32) (M' : Mem), Fr (fun i k => False) M M' ∧ Qa a0 M' ∧ Qb a0 M' ∧ ∀ (k'0 : Int32 → Int32 → Int32 → Int32 → Mem → Prop) (Q' : Int32 → Mem → Prop), Q' a0 M' → wX7_notice_93 x1 x2 x3 k'0 Q' v4 v5 v6 v7 M) ∨ (∃ (a0 : Int32) (a1 : Int32) (a2 : Int32) (a3 : Int32) (M' : Mem), Fr (fun i k => False) M M' ∧ k_62a a0 a1 a2 a3 M' ∧ k_62b a0 a1 a2 a3 M' ∧ ∀ (k'0 : Int32 → Int32 → Int32 → Int32 → Mem → Prop) (Q' : Int32 → Mem → Prop), k'0 a0 a1 a2 a3 M' → wX7_notice_93 x1 x2 x3 k'0 Q' v4 v5 v6 v7 M) := by
  have h1 : k_62a v4 v5 v6 (v7 + (1 : Int32)) M := h1
  have h2 : k_62b v4 v5 v6 (v7 + (1 : Int32)) M := h2
  exact Or.inr ⟨v4, v5, v6, (v7 + (1 : Int32)), M, (Fr_refl (fun i k => False) M), h1, h2, fun k'0 Q' hq => hq⟩
set_option maxHeartbeats 4000000 in
theorem u_wX7_notice_90 (x1 : Int32) (x2 : Int32) (x3 : Int32) {k_62a k_62b : Int32 → Int32 → Int32 → Int32 → Mem → Prop} {Qa Qb : Int32 → Mem → Prop} (v4 : Int32) (v5 : Int32) (v6 : Int32) (v7 : Int32) (M : Mem) (h1 : wX7_notice_90 x1 x2 x3 k_62a Qa v4 v5 v6 v7 M) (h2 : wX7_notice_90 x1 x2 x3 k_62b Qb v4 v5 v6 v7 M) : (∃ (a0 : Int32) (M' : Mem), Fr (fun i k => False) M M' ∧ Qa a0 M' ∧ Qb a0 M' ∧ ∀ (k'0 : Int32 → Int32 → Int32 → Int32 → Mem → Prop) (Q' : Int32 → Mem → Prop), Q' a0 M' → wX7_notice_90 x1 x2 x3 k'0 Q' v4 v5 v6 v7 M) ∨ (∃ (a0 : Int32) (a1 : Int32) (a2 : Int32) (a3 : Int32) (M' : Mem), Fr (fun i k => False) M M' ∧ k_62a a0 a1 a2 a3 M' ∧ k_62b a0 a1 a2 a3 M' ∧ ∀ (k'0 : Int32 → Int32 → Int32 → Int32 → Mem → Prop) (Q' : Int32 → Mem → Prop), k'0 a0 a1 a2 a3 M' → wX7_notice_90 x1 x2 x3 k'0 Q' v4 v5 v6 v7 M) := by
  have h1 : wX7_notice_93 x1 x2 x3 (k_62a) Qa v4 v5 (v6 + (1 : Int32)) v7 M := h1
  have h2 : wX7_notice_93 x1 x2 x3 (k_62b) Qb v4 v5 (v6 + (1 : Int32)) v7 M := h2
  rcases u_wX7_notice_93 x1 x2 x3 v4 v5 (v6 + (1 : Int32)) v7 M h1 h2 with ⟨c5, N6, f3, h1, h2, b4⟩ | ⟨c7, c8, c9, c10, N11, f3, h1, h2, b4⟩
  · have hf := Fr_ts (Fr_refl (fun i k => False) M) f3
    exact Or.inl ⟨c5, N6, hf, h1, h2, fun k'0 Q' hq => b4 _ _ hq⟩
  · have hf := Fr_ts (Fr_refl (fun i k => False) M) f3
    exact Or.inr ⟨c7, c8, c9, c10, N11, hf, h1, h2, fun k'0 Q' hq => b4 _ _ hq⟩
set_option maxHeartbeats 4000000 in
theorem u_wX7_notice_62 (x1 : Int32) (x2 : Int32) (x3 : Int32) {Qa Qb : Int32 → Mem → Prop} : ∀ (n1 n2 : Nat) (v4 : Int32) (v5 : Int32) (v6 : Int32) (v7 : Int32) (M : Mem), wX7_notice_62 x1 x2 x3 Qa n1 v4 v5 v6 v7 M → wX7_notice_62 x1 x2 x3 Qb n2 v4 v5 v6 v7 M → (∃ (a0 : Int32) (M' : Mem), Fr (fun i k => False) M M' ∧ Qa a0 M' ∧ Qb a0 M' ∧ ∀ (Q' : Int32 → Mem → Prop), Q' a0 M' → wX7_notice_62 x1 x2 x3 Q' n1 v4 v5 v6 v7 M) := by
  intro n1
  induction n1 with
  | zero => intro _ _ _ _ _ _ h1 _; exact h1.elim
  | succ n ih =>
    intro n2 v4 v5 v6 v7 M h1 h2
    cases n2 with
    | zero => exact h2.elim
    | succ m =>
      have h1 : ((x3 ≤ v7 → Qa v6 M) ∧ (¬ x3 ≤ v7 → (wX7_isReadBy v7 v4 M (fun r13 M12 => ((¬ r13 = 0 → wX7_notice_90 x1 x2 x3 (wX7_notice_62 x1 x2 x3 Qa n) Qa v4 v5 v6 v7 M12) ∧ (r13 = 0 → (wX7_isReadBy v7 v5 M12 (fun r15 M14 => ((r15 = 0 → wX7_notice_93 x1 x2 x3 (wX7_notice_62 x1 x2 x3 Qa n) Qa v4 v5 v6 v7 M14) ∧ (¬ r15 = 0 → wX7_notice_90 x1 x2 x3 (wX7_notice_62 x1 x2 x3 Qa n) Qa v4 v5 v6 v7 M14)))))))))) := h1
      have h2 : ((x3 ≤ v7 → Qb v6 M) ∧ (¬ x3 ≤ v7 → (wX7_isReadBy v7 v4 M (fun r13 M12 => ((¬ r13 = 0 → wX7_notice_90 x1 x2 x3 (wX7_notice_62 x1 x2 x3 Qb m) Qb v4 v5 v6 v7 M12) ∧ (r13 = 0 → (wX7_isReadBy v7 v5 M12 (fun r15 M14 => ((r15 = 0 → wX7_notice_93 x1 x2 x3 (wX7_notice_62 x1 x2 x3 Qb m) Qb v4 v5 v6 v7 M14) ∧ (¬ r15 = 0 → wX7_notice_90 x1 x2 x3 (wX7_notice_62 x1 x2 x3 Qb m) Qb v4 v5 v6 v7 M14)))))))))) := h2
      by_cases hc1 : x3 ≤ v7
      · have h1 := h1.1 hc1
        have h2 := h2.1 hc1
        exact ⟨v6, M, (Fr_refl (fun i k => False) M), h1, h2, fun Q' hq => ⟨fun _ => hq, fun z => absurd hc1 z⟩⟩
      · have h1 := h1.2 hc1
        have h2 := h2.2 hc1
        obtain ⟨r13, M12, f2, h1, h2, b3⟩ := u_wX7_isReadBy v7 v4 M h1 h2
        have g4 := Fr_tr (Fr_refl (fun i k => False) M) f2 (fun i k (h : False) => h.elim)
        by_cases hc5 : r13 = 0
        · have h1 := h1.2 hc5
          have h2 := h2.2 hc5
          obtain ⟨r15, M14, f6, h1, h2, b7⟩ := u_wX7_isReadBy v7 v5 M12 h1 h2
          have g8 := Fr_tr g4 f6 (fun i k (h : False) => h.elim)
          by_cases hc9 : r15 = 0
          · have h1 := h1.1 hc9
            have h2 := h2.1 hc9
            rcases u_wX7_notice_93 x1 x2 x3 v4 v5 v6 v7 M14 h1 h2 with ⟨c14, N15, f12, h1, h2, b13⟩ | ⟨c16, c17, c18, c19, N20, f12, h1, h2, b13⟩
            · have hf := Fr_ts g8 f12
              exact ⟨c14, N15, hf, h1, h2, fun Q' hq => ⟨fun z => absurd z hc1, fun _ => b3 _ ⟨fun z => absurd hc5 z, fun _ => b7 _ ⟨fun _ => b13 _ _ hq, fun z => absurd hc9 z⟩⟩⟩⟩
            · have hf := Fr_ts g8 f12
              obtain ⟨c23, N24, f21, h1, h2, b22⟩ := ih m c16 c17 c18 c19 N20 h1 h2
              have hf := Fr_ts hf f21
              exact ⟨c23, N24, hf, h1, h2, fun Q' hq => ⟨fun z => absurd z hc1, fun _ => b3 _ ⟨fun z => absurd hc5 z, fun _ => b7 _ ⟨fun _ => b13 _ _ (b22 _ hq), fun z => absurd hc9 z⟩⟩⟩⟩
          · have h1 := h1.2 hc9
            have h2 := h2.2 hc9
            rcases u_wX7_notice_90 x1 x2 x3 v4 v5 v6 v7 M14 h1 h2 with ⟨c29, N30, f27, h1, h2, b28⟩ | ⟨c31, c32, c33, c34, N35, f27, h1, h2, b28⟩
            · have hf := Fr_ts g8 f27
              exact ⟨c29, N30, hf, h1, h2, fun Q' hq => ⟨fun z => absurd z hc1, fun _ => b3 _ ⟨fun z => absurd hc5 z, fun _ => b7 _ ⟨fun z => absurd z hc9, fun _ => b28 _ _ hq⟩⟩⟩⟩
            · have hf := Fr_ts g8 f27
              obtain ⟨c38, N39, f36, h1, h2, b37⟩ := ih m c31 c32 c33 c34 N35 h1 h2
              have hf := Fr_ts hf f36
              exact ⟨c38, N39, hf, h1, h2, fun Q' hq => ⟨fun z => absurd z hc1, fun _ => b3 _ ⟨fun z => absurd hc5 z, fun _ => b7 _ ⟨fun z => absurd z hc9, fun _ => b28 _ _ (b37 _ hq)⟩⟩⟩⟩
        · have h1 := h1.1 hc5
          have h2 := h2.1 hc5
          rcases u_wX7_notice_90 x1 x2 x3 v4 v5 v6 v7 M12 h1 h2 with ⟨c44, N45, f42, h1, h2, b43⟩ | ⟨c46, c47, c48, c49, N50, f42, h1, h2, b43⟩
          · have hf := Fr_ts g4 f42
            exact ⟨c44, N45, hf, h1, h2, fun Q' hq => ⟨fun z => absurd z hc1, fun _ => b3 _ ⟨fun _ => b43 _ _ hq, fun z => absurd z hc5⟩⟩⟩
          · have hf := Fr_ts g4 f42
            obtain ⟨c53, N54, f51, h1, h2, b52⟩ := ih m c46 c47 c48 c49 N50 h1 h2
            have hf := Fr_ts hf f51
            exact ⟨c53, N54, hf, h1, h2, fun Q' hq => ⟨fun z => absurd z hc1, fun _ => b3 _ ⟨fun _ => b43 _ _ (b52 _ hq), fun z => absurd z hc5⟩⟩⟩
set_option maxHeartbeats 4000000 in
theorem u_wX7_notice (x1 : Int32) (x2 : Int32) (x3 : Int32) {Qa Qb : Int32 → Mem → Prop} (M : Mem) (h1 : wX7_notice x1 x2 x3 M Qa) (h2 : wX7_notice x1 x2 x3 M Qb) : (∃ (a0 : Int32) (M' : Mem), Fr (fun i k => False) M M' ∧ Qa a0 M' ∧ Qb a0 M' ∧ ∀ (Q' : Int32 → Mem → Prop), Q' a0 M' → wX7_notice x1 x2 x3 M Q') := by
  have h1 : (wX7_isBelowCount x1 M (fun r2 M1 => ((r2 = 0 → wX7_notice_27 x1 x2 x3 Qa M1) ∧ (¬ r2 = 0 → (wX7_isBelowCount x2 M1 (fun r4 M3 => ((r4 = 0 → wX7_notice_27 x1 x2 x3 Qa M3) ∧ (¬ r4 = 0 → (wX7_within x3 (0 : Int32) (1000 : Int32) M3 (fun r6 M5 => ((¬ r6 = 0 → ((¬ x1 = x2 → (wX1_placeOf 22 x1 M5 (fun r8 M7 => (wX1_placeOf 22 x2 M7 (fun r10 M9 => (∃ n11, wX7_notice_62 x1 x2 x3 Qa n11 r8 r10 (0 : Int32) (0 : Int32) M9)))))) ∧ (x1 = x2 → Qa (0 : Int32) M5))) ∧ (r6 = 0 → wX7_notice_27 x1 x2 x3 Qa M5)))))))))))) := h1
  have h2 : (wX7_isBelowCount x1 M (fun r2 M1 => ((r2 = 0 → wX7_notice_27 x1 x2 x3 Qb M1) ∧ (¬ r2 = 0 → (wX7_isBelowCount x2 M1 (fun r4 M3 => ((r4 = 0 → wX7_notice_27 x1 x2 x3 Qb M3) ∧ (¬ r4 = 0 → (wX7_within x3 (0 : Int32) (1000 : Int32) M3 (fun r6 M5 => ((¬ r6 = 0 → ((¬ x1 = x2 → (wX1_placeOf 22 x1 M5 (fun r8 M7 => (wX1_placeOf 22 x2 M7 (fun r10 M9 => (∃ n11, wX7_notice_62 x1 x2 x3 Qb n11 r8 r10 (0 : Int32) (0 : Int32) M9)))))) ∧ (x1 = x2 → Qb (0 : Int32) M5))) ∧ (r6 = 0 → wX7_notice_27 x1 x2 x3 Qb M5)))))))))))) := h2
  obtain ⟨r2, M1, f1, h1, h2, b2⟩ := u_wX7_isBelowCount x1 M h1 h2
  have g3 := Fr_tr (Fr_refl (fun i k => False) M) f1 (fun i k (h : False) => h.elim)
  by_cases hc4 : r2 = 0
  · have h1 := h1.1 hc4
    have h2 := h2.1 hc4
    obtain ⟨c9, N10, f7, h1, h2, b8⟩ := u_wX7_notice_27 x1 x2 x3 M1 h1 h2
    have hf := Fr_ts g3 f7
    exact ⟨c9, N10, hf, h1, h2, fun Q' hq => b2 _ ⟨fun _ => b8 _ hq, fun z => absurd hc4 z⟩⟩
  · have h1 := h1.2 hc4
    have h2 := h2.2 hc4
    obtain ⟨r4, M3, f11, h1, h2, b12⟩ := u_wX7_isBelowCount x2 M1 h1 h2
    have g13 := Fr_tr g3 f11 (fun i k (h : False) => h.elim)
    by_cases hc14 : r4 = 0
    · have h1 := h1.1 hc14
      have h2 := h2.1 hc14
      obtain ⟨c19, N20, f17, h1, h2, b18⟩ := u_wX7_notice_27 x1 x2 x3 M3 h1 h2
      have hf := Fr_ts g13 f17
      exact ⟨c19, N20, hf, h1, h2, fun Q' hq => b2 _ ⟨fun z => absurd z hc4, fun _ => b12 _ ⟨fun _ => b18 _ hq, fun z => absurd hc14 z⟩⟩⟩
    · have h1 := h1.2 hc14
      have h2 := h2.2 hc14
      obtain ⟨r6, M5, f21, h1, h2, b22⟩ := u_wX7_within x3 (0 : Int32) (1000 : Int32) M3 h1 h2
      have g23 := Fr_tr g13 f21 (fun i k (h : False) => h.elim)
      by_cases hc24 : r6 = 0
      · have h1 := h1.2 hc24
        have h2 := h2.2 hc24
        obtain ⟨c29, N30, f27, h1, h2, b28⟩ := u_wX7_notice_27 x1 x2 x3 M5 h1 h2
        have hf := Fr_ts g23 f27
        exact ⟨c29, N30, hf, h1, h2, fun Q' hq => b2 _ ⟨fun z => absurd z hc4, fun _ => b12 _ ⟨fun z => absurd z hc14, fun _ => b22 _ ⟨fun z => absurd hc24 z, fun _ => b28 _ hq⟩⟩⟩⟩
      · have h1 := h1.1 hc24
        have h2 := h2.1 hc24
        by_cases hc31 : x1 = x2
        · have h1 := h1.2 hc31
          have h2 := h2.2 hc31
          exact ⟨(0 : Int32), M5, g23, h1, h2, fun Q' hq => b2 _ ⟨fun z => absurd z hc4, fun _ => b12 _ ⟨fun z => absurd z hc14, fun _ => b22 _ ⟨fun _ => ⟨fun z => absurd hc31 z, fun _ => hq⟩, fun z => absurd z hc24⟩⟩⟩⟩
        · have h1 := h1.1 hc31
          have h2 := h2.1 hc31
          obtain ⟨r8, M7, f32, h1, h2, b33⟩ := u_wX1_placeOf 22 x1 M5 h1 h2
          have g34 := Fr_tr g23 f32 (fun i k (h : False) => h.elim)
          obtain ⟨r10, M9, f35, h1, h2, b36⟩ := u_wX1_placeOf 22 x2 M7 h1 h2
          have g37 := Fr_tr g34 f35 (fun i k (h : False) => h.elim)
          obtain ⟨n11_a, h1⟩ := h1
          obtain ⟨n11_b, h2⟩ := h2
          obtain ⟨c42, N43, f40, h1, h2, b41⟩ := u_wX7_notice_62 x1 x2 x3 n11_a n11_b r8 r10 (0 : Int32) (0 : Int32) M9 h1 h2
          have hf := Fr_ts g37 f40
          exact ⟨c42, N43, hf, h1, h2, fun Q' hq => b2 _ ⟨fun z => absurd z hc4, fun _ => b12 _ ⟨fun z => absurd z hc14, fun _ => b22 _ ⟨fun _ => ⟨fun _ => b33 _ (b36 _ ⟨n11_a, b41 _ hq⟩), fun z => absurd z hc31⟩, fun z => absurd z hc24⟩⟩⟩⟩
set_option maxHeartbeats 4000000 in
theorem u_wX7_placeBeforeLaying_19 (x0 : Int32) (x1 : Int32) {Qa Qb : Int32 → Mem → Prop} (s0 : Int32) (M : Mem) (h1 : wX7_placeBeforeLaying_19 x0 x1 Qa s0 M) (h2 : wX7_placeBeforeLaying_19 x0 x1 Qb s0 M) : (∃ (a0 : Int32) (M' : Mem), Fr (fun i k => False) M M' ∧ Qa a0 M' ∧ Qb a0 M' ∧ ∀ (Q' : Int32 → Mem → Prop), Q' a0 M' → wX7_placeBeforeLaying_19 x0 x1 Q' s0 M) := by
  have h1 : Qa s0 M := h1
  have h2 : Qb s0 M := h2
  exact ⟨s0, M, (Fr_refl (fun i k => False) M), h1, h2, fun Q' hq => hq⟩
set_option maxHeartbeats 4000000 in
theorem u_wX7_placeBeforeLaying (x0 : Int32) (x1 : Int32) {Qa Qb : Int32 → Mem → Prop} (M : Mem) (h1 : wX7_placeBeforeLaying x0 x1 M Qa) (h2 : wX7_placeBeforeLaying x0 x1 M Qb) : (∃ (a0 : Int32) (M' : Mem), Fr (fun i k => False) M M' ∧ Qa a0 M' ∧ Qb a0 M' ∧ ∀ (Q' : Int32 → Mem → Prop), Q' a0 M' → wX7_placeBeforeLaying x0 x1 M Q') := by
  have h1 : ((¬ x0 = x1 → ((x1 ≤ x0 → wX7_placeBeforeLaying_19 x0 x1 Qa x0 M) ∧ (¬ x1 ≤ x0 → wX7_placeBeforeLaying_19 x0 x1 Qa (x0 + (1 : Int32)) M))) ∧ (x0 = x1 → Qa (0 : Int32) M)) := h1
  have h2 : ((¬ x0 = x1 → ((x1 ≤ x0 → wX7_placeBeforeLaying_19 x0 x1 Qb x0 M) ∧ (¬ x1 ≤ x0 → wX7_placeBeforeLaying_19 x0 x1 Qb (x0 + (1 : Int32)) M))) ∧ (x0 = x1 → Qb (0 : Int32) M)) := h2
  by_cases hc1 : x0 = x1
  · have h1 := h1.2 hc1
    have h2 := h2.2 hc1
    exact ⟨(0 : Int32), M, (Fr_refl (fun i k => False) M), h1, h2, fun Q' hq => ⟨fun z => absurd hc1 z, fun _ => hq⟩⟩
  · have h1 := h1.1 hc1
    have h2 := h2.1 hc1
    by_cases hc2 : x1 ≤ x0
    · have h1 := h1.1 hc2
      have h2 := h2.1 hc2
      obtain ⟨c7, N8, f5, h1, h2, b6⟩ := u_wX7_placeBeforeLaying_19 x0 x1 x0 M h1 h2
      have hf := Fr_ts (Fr_refl (fun i k => False) M) f5
      exact ⟨c7, N8, hf, h1, h2, fun Q' hq => ⟨fun _ => ⟨fun _ => b6 _ hq, fun z => absurd hc2 z⟩, fun z => absurd z hc1⟩⟩
    · have h1 := h1.2 hc2
      have h2 := h2.2 hc2
      obtain ⟨c13, N14, f11, h1, h2, b12⟩ := u_wX7_placeBeforeLaying_19 x0 x1 (x0 + (1 : Int32)) M h1 h2
      have hf := Fr_ts (Fr_refl (fun i k => False) M) f11
      exact ⟨c13, N14, hf, h1, h2, fun Q' hq => ⟨fun _ => ⟨fun z => absurd z hc2, fun _ => b12 _ hq⟩, fun z => absurd z hc1⟩⟩
set_option maxHeartbeats 4000000 in
theorem u_wX7_rightWhenLaidAt_58 (x1 : Int32) (x2 : Int32) {k_5a k_5b : Int32 → Int32 → Mem → Prop} {Qa Qb : Int32 → Mem → Prop} (v3 : Int32) (v4 : Int32) (M : Mem) (h1 : wX7_rightWhenLaidAt_58 x1 x2 k_5a Qa v3 v4 M) (h2 : wX7_rightWhenLaidAt_58 x1 x2 k_5b Qb v3 v4 M) : (∃ (a0 : Int32) (M' : Mem), Fr (fun i k => False) M M' ∧ Qa a0 M' ∧ Qb a0 M' ∧ ∀ (k'0 : Int32 → Int32 → Mem → Prop) (Q' : Int32 → Mem → Prop), Q' a0 M' → wX7_rightWhenLaidAt_58 x1 x2 k'0 Q' v3 v4 M) ∨ (∃ (a0 : Int32) (a1 : Int32) (M' : Mem), Fr (fun i k => False) M M' ∧ k_5a a0 a1 M' ∧ k_5b a0 a1 M' ∧ ∀ (k'0 : Int32 → Int32 → Mem → Prop) (Q' : Int32 → Mem → Prop), k'0 a0 a1 M' → wX7_rightWhenLaidAt_58 x1 x2 k'0 Q' v3 v4 M) := by
  have h1 : k_5a v3 (v4 + (1 : Int32)) M := h1
  have h2 : k_5b v3 (v4 + (1 : Int32)) M := h2
  exact Or.inr ⟨v3, (v4 + (1 : Int32)), M, (Fr_refl (fun i k => False) M), h1, h2, fun k'0 Q' hq => hq⟩
set_option maxHeartbeats 4000000 in
theorem u_wX7_rightWhenLaidAt_5 (x1 : Int32) (x2 : Int32) {Qa Qb : Int32 → Mem → Prop} : ∀ (n1 n2 : Nat) (v3 : Int32) (v4 : Int32) (M : Mem), wX7_rightWhenLaidAt_5 x1 x2 Qa n1 v3 v4 M → wX7_rightWhenLaidAt_5 x1 x2 Qb n2 v3 v4 M → (∃ (a0 : Int32) (M' : Mem), Fr (fun i k => False) M M' ∧ Qa a0 M' ∧ Qb a0 M' ∧ ∀ (Q' : Int32 → Mem → Prop), Q' a0 M' → wX7_rightWhenLaidAt_5 x1 x2 Q' n1 v3 v4 M) := by
  intro n1
  induction n1 with
  | zero => intro _ _ _ _ h1 _; exact h1.elim
  | succ n ih =>
    intro n2 v3 v4 M h1 h2
    cases n2 with
    | zero => exact h2.elim
    | succ m =>
      have h1 : (kd (rid (M 0 2)) = 6 ∧ (wX6_toldTurns (rid (M 0 2)) M (fun r4 M3 => ((r4 ≤ v4 → Qa v3 M3) ∧ (¬ r4 ≤ v4 → (wX3_placeAfterFirstReading 32 x2.toInt64 v4 M3 (fun r6 M5 => (wX7_placeBeforeLaying r6 x1 M5 (fun r8 M7 => (wX1_leafAt 22 r8 M7 (fun r10 M9 => (kd (rid (M9 0 2)) = 6 ∧ (wX6_taleLeaf (rid (M9 0 2)) v4 M9 (fun r13 M12 => ((¬ r10 = r13 → wX7_rightWhenLaidAt_58 x1 x2 (wX7_rightWhenLaidAt_5 x1 x2 Qa n) Qa v3 v4 M12) ∧ (r10 = r13 → wX7_rightWhenLaidAt_58 x1 x2 (wX7_rightWhenLaidAt_5 x1 x2 Qa n) Qa (v3 + (1 : Int32)) v4 M12)))))))))))))))) := h1
      have h2 : (kd (rid (M 0 2)) = 6 ∧ (wX6_toldTurns (rid (M 0 2)) M (fun r4 M3 => ((r4 ≤ v4 → Qb v3 M3) ∧ (¬ r4 ≤ v4 → (wX3_placeAfterFirstReading 32 x2.toInt64 v4 M3 (fun r6 M5 => (wX7_placeBeforeLaying r6 x1 M5 (fun r8 M7 => (wX1_leafAt 22 r8 M7 (fun r10 M9 => (kd (rid (M9 0 2)) = 6 ∧ (wX6_taleLeaf (rid (M9 0 2)) v4 M9 (fun r13 M12 => ((¬ r10 = r13 → wX7_rightWhenLaidAt_58 x1 x2 (wX7_rightWhenLaidAt_5 x1 x2 Qb m) Qb v3 v4 M12) ∧ (r10 = r13 → wX7_rightWhenLaidAt_58 x1 x2 (wX7_rightWhenLaidAt_5 x1 x2 Qb m) Qb (v3 + (1 : Int32)) v4 M12)))))))))))))))) := h2
      have s1 := h1.1
      have h1 := h1.2
      have h2 := h2.2
      have kbs1 := kdB_6 s1
      obtain ⟨r4, M3, f2, h1, h2, b3⟩ := u_wX6_toldTurns (rid (M 0 2)) M h1 h2
      have g4 := Fr_tr (Fr_refl (fun i k => False) M) f2 (fun i k (h : False) => h.elim)
      by_cases hc5 : r4 ≤ v4
      · have h1 := h1.1 hc5
        have h2 := h2.1 hc5
        exact ⟨v3, M3, g4, h1, h2, fun Q' hq => ⟨s1, b3 _ ⟨fun _ => hq, fun z => absurd hc5 z⟩⟩⟩
      · have h1 := h1.2 hc5
        have h2 := h2.2 hc5
        obtain ⟨r6, M5, f6, h1, h2, b7⟩ := u_wX3_placeAfterFirstReading 32 x2.toInt64 v4 M3 h1 h2
        have g8 := Fr_tr g4 f6 (fun i k (h : False) => h.elim)
        obtain ⟨r8, M7, f9, h1, h2, b10⟩ := u_wX7_placeBeforeLaying r6 x1 M5 h1 h2
        have g11 := Fr_tr g8 f9 (fun i k (h : False) => h.elim)
        obtain ⟨r10, M9, f12, h1, h2, b13⟩ := u_wX1_leafAt 22 r8 M7 h1 h2
        have g14 := Fr_tr g11 f12 (fun i k (h : False) => h.elim)
        have s15 := h1.1
        have h1 := h1.2
        have h2 := h2.2
        have kbs15 := kdB_6 s15
        obtain ⟨r13, M12, f16, h1, h2, b17⟩ := u_wX6_taleLeaf (rid (M9 0 2)) v4 M9 h1 h2
        have g18 := Fr_tr g14 f16 (fun i k (h : False) => h.elim)
        by_cases hc19 : r10 = r13
        · have h1 := h1.2 hc19
          have h2 := h2.2 hc19
          rcases u_wX7_rightWhenLaidAt_58 x1 x2 (v3 + (1 : Int32)) v4 M12 h1 h2 with ⟨c24, N25, f22, h1, h2, b23⟩ | ⟨c26, c27, N28, f22, h1, h2, b23⟩
          · have hf := Fr_ts g18 f22
            exact ⟨c24, N25, hf, h1, h2, fun Q' hq => ⟨s1, b3 _ ⟨fun z => absurd z hc5, fun _ => b7 _ (b10 _ (b13 _ ⟨s15, b17 _ ⟨fun z => absurd hc19 z, fun _ => b23 _ _ hq⟩⟩))⟩⟩⟩
          · have hf := Fr_ts g18 f22
            obtain ⟨c31, N32, f29, h1, h2, b30⟩ := ih m c26 c27 N28 h1 h2
            have hf := Fr_ts hf f29
            exact ⟨c31, N32, hf, h1, h2, fun Q' hq => ⟨s1, b3 _ ⟨fun z => absurd z hc5, fun _ => b7 _ (b10 _ (b13 _ ⟨s15, b17 _ ⟨fun z => absurd hc19 z, fun _ => b23 _ _ (b30 _ hq)⟩⟩))⟩⟩⟩
        · have h1 := h1.1 hc19
          have h2 := h2.1 hc19
          rcases u_wX7_rightWhenLaidAt_58 x1 x2 v3 v4 M12 h1 h2 with ⟨c37, N38, f35, h1, h2, b36⟩ | ⟨c39, c40, N41, f35, h1, h2, b36⟩
          · have hf := Fr_ts g18 f35
            exact ⟨c37, N38, hf, h1, h2, fun Q' hq => ⟨s1, b3 _ ⟨fun z => absurd z hc5, fun _ => b7 _ (b10 _ (b13 _ ⟨s15, b17 _ ⟨fun _ => b36 _ _ hq, fun z => absurd z hc19⟩⟩))⟩⟩⟩
          · have hf := Fr_ts g18 f35
            obtain ⟨c44, N45, f42, h1, h2, b43⟩ := ih m c39 c40 N41 h1 h2
            have hf := Fr_ts hf f42
            exact ⟨c44, N45, hf, h1, h2, fun Q' hq => ⟨s1, b3 _ ⟨fun z => absurd z hc5, fun _ => b7 _ (b10 _ (b13 _ ⟨s15, b17 _ ⟨fun _ => b36 _ _ (b43 _ hq), fun z => absurd z hc19⟩⟩))⟩⟩⟩
set_option maxHeartbeats 4000000 in
theorem u_wX7_rightWhenLaidAt (x1 : Int32) (x2 : Int32) {Qa Qb : Int32 → Mem → Prop} (M : Mem) (h1 : wX7_rightWhenLaidAt x1 x2 M Qa) (h2 : wX7_rightWhenLaidAt x1 x2 M Qb) : (∃ (a0 : Int32) (M' : Mem), Fr (fun i k => False) M M' ∧ Qa a0 M' ∧ Qb a0 M' ∧ ∀ (Q' : Int32 → Mem → Prop), Q' a0 M' → wX7_rightWhenLaidAt x1 x2 M Q') := by
  have h1 : (∃ n1, wX7_rightWhenLaidAt_5 x1 x2 Qa n1 (0 : Int32) (0 : Int32) M) := h1
  have h2 : (∃ n1, wX7_rightWhenLaidAt_5 x1 x2 Qb n1 (0 : Int32) (0 : Int32) M) := h2
  obtain ⟨n1_a, h1⟩ := h1
  obtain ⟨n1_b, h2⟩ := h2
  obtain ⟨c5, N6, f3, h1, h2, b4⟩ := u_wX7_rightWhenLaidAt_5 x1 x2 n1_a n1_b (0 : Int32) (0 : Int32) M h1 h2
  have hf := Fr_ts (Fr_refl (fun i k => False) M) f3
  exact ⟨c5, N6, hf, h1, h2, fun Q' hq => ⟨n1_a, b4 _ hq⟩⟩
set_option maxHeartbeats 4000000 in
theorem u_wX7_pleased_19 (x1 : Int32) (x2 : Int32) {Qa Qb : Int32 → Mem → Prop} (M : Mem) (h1 : wX7_pleased_19 x1 x2 Qa M) (h2 : wX7_pleased_19 x1 x2 Qb M) : (∃ (a0 : Int32) (M' : Mem), Fr (fun i k => False) M M' ∧ Qa a0 M' ∧ Qb a0 M' ∧ ∀ (Q' : Int32 → Mem → Prop), Q' a0 M' → wX7_pleased_19 x1 x2 Q' M) := by
  have h1 : Qa (-1 : Int32) M := h1
  have h2 : Qb (-1 : Int32) M := h2
  exact ⟨(-1 : Int32), M, (Fr_refl (fun i k => False) M), h1, h2, fun Q' hq => hq⟩
set_option maxHeartbeats 4000000 in
theorem u_wX7_pleased_65 (x1 : Int32) (x2 : Int32) {k_30a k_30b : Int32 → Int32 → Int32 → Mem → Prop} {Qa Qb : Int32 → Mem → Prop} (v3 : Int32) (v4 : Int32) (v5 : Int32) (M : Mem) (h1 : wX7_pleased_65 x1 x2 k_30a Qa v3 v4 v5 M) (h2 : wX7_pleased_65 x1 x2 k_30b Qb v3 v4 v5 M) : (∃ (a0 : Int32) (M' : Mem), Fr (fun i k => False) M M' ∧ Qa a0 M' ∧ Qb a0 M' ∧ ∀ (k'0 : Int32 → Int32 → Int32 → Mem → Prop) (Q' : Int32 → Mem → Prop), Q' a0 M' → wX7_pleased_65 x1 x2 k'0 Q' v3 v4 v5 M) ∨ (∃ (a0 : Int32) (a1 : Int32) (a2 : Int32) (M' : Mem), Fr (fun i k => False) M M' ∧ k_30a a0 a1 a2 M' ∧ k_30b a0 a1 a2 M' ∧ ∀ (k'0 : Int32 → Int32 → Int32 → Mem → Prop) (Q' : Int32 → Mem → Prop), k'0 a0 a1 a2 M' → wX7_pleased_65 x1 x2 k'0 Q' v3 v4 v5 M) := by
  have h1 : k_30a v3 v4 (v5 + (1 : Int32)) M := h1
  have h2 : k_30b v3 v4 (v5 + (1 : Int32)) M := h2
  exact Or.inr ⟨v3, v4, (v5 + (1 : Int32)), M, (Fr_refl (fun i k => False) M), h1, h2, fun k'0 Q' hq => hq⟩
set_option maxHeartbeats 4000000 in
theorem u_wX7_pleased_81 (x1 : Int32) (x2 : Int32) {Qa Qb : Int32 → Mem → Prop} (s0 : Int32) (M : Mem) (h1 : wX7_pleased_81 x1 x2 Qa s0 M) (h2 : wX7_pleased_81 x1 x2 Qb s0 M) : (∃ (a0 : Int32) (M' : Mem), Fr (fun i k => False) M M' ∧ Qa a0 M' ∧ Qb a0 M' ∧ ∀ (Q' : Int32 → Mem → Prop), Q' a0 M' → wX7_pleased_81 x1 x2 Q' s0 M) := by
  have h1 : Qa s0 M := h1
  have h2 : Qb s0 M := h2
  exact ⟨s0, M, (Fr_refl (fun i k => False) M), h1, h2, fun Q' hq => hq⟩
set_option maxHeartbeats 4000000 in
theorem u_wX7_pleased_30 (x1 : Int32) (x2 : Int32) {Qa Qb : Int32 → Mem → Prop} : ∀ (n1 n2 : Nat) (v3 : Int32) (v4 : Int32) (v5 : Int32) (M : Mem), wX7_pleased_30 x1 x2 Qa n1 v3 v4 v5 M → wX7_pleased_30 x1 x2 Qb n2 v3 v4 v5 M → (∃ (a0 : Int32) (M' : Mem), Fr (fun i k => False) M M' ∧ Qa a0 M' ∧ Qb a0 M' ∧ ∀ (Q' : Int32 → Mem → Prop), Q' a0 M' → wX7_pleased_30 x1 x2 Q' n1 v3 v4 v5 M) := by
  intro n1
  induction n1 with
  | zero => intro _ _ _ _ _ h1 _; exact h1.elim
  | succ n ih =>
    intro n2 v3 v4 v5 M h1 h2
    cases n2 with
    | zero => exact h2.elim
    | succ m =>
      have h1 : (kd (rid (M 0 2)) = 6 ∧ (((M (rid (M 0 2)) 0) ≤ v5 → ((¬ x2 = 0 → wX7_pleased_81 x1 x2 Qa v4 M) ∧ (x2 = 0 → wX7_pleased_81 x1 x2 Qa v3 M))) ∧ (¬ (M (rid (M 0 2)) 0) ≤ v5 → (wX7_rightWhenLaidAt v5 x1 M (fun r8 M7 => ((r8 ≤ v4 → wX7_pleased_65 x1 x2 (wX7_pleased_30 x1 x2 Qa n) Qa v3 v4 v5 M7) ∧ (¬ r8 ≤ v4 → wX7_pleased_65 x1 x2 (wX7_pleased_30 x1 x2 Qa n) Qa v5 r8 v5 M7))))))) := h1
      have h2 : (kd (rid (M 0 2)) = 6 ∧ (((M (rid (M 0 2)) 0) ≤ v5 → ((¬ x2 = 0 → wX7_pleased_81 x1 x2 Qb v4 M) ∧ (x2 = 0 → wX7_pleased_81 x1 x2 Qb v3 M))) ∧ (¬ (M (rid (M 0 2)) 0) ≤ v5 → (wX7_rightWhenLaidAt v5 x1 M (fun r8 M7 => ((r8 ≤ v4 → wX7_pleased_65 x1 x2 (wX7_pleased_30 x1 x2 Qb m) Qb v3 v4 v5 M7) ∧ (¬ r8 ≤ v4 → wX7_pleased_65 x1 x2 (wX7_pleased_30 x1 x2 Qb m) Qb v5 r8 v5 M7))))))) := h2
      have s1 := h1.1
      have h1 := h1.2
      have h2 := h2.2
      have kbs1 := kdB_6 s1
      by_cases hc2 : (M (rid (M 0 2)) 0) ≤ v5
      · have h1 := h1.1 hc2
        have h2 := h2.1 hc2
        by_cases hc3 : x2 = 0
        · have h1 := h1.2 hc3
          have h2 := h2.2 hc3
          obtain ⟨c8, N9, f6, h1, h2, b7⟩ := u_wX7_pleased_81 x1 x2 v3 M h1 h2
          have hf := Fr_ts (Fr_refl (fun i k => False) M) f6
          exact ⟨c8, N9, hf, h1, h2, fun Q' hq => ⟨s1, ⟨fun _ => ⟨fun z => absurd hc3 z, fun _ => b7 _ hq⟩, fun z => absurd hc2 z⟩⟩⟩
        · have h1 := h1.1 hc3
          have h2 := h2.1 hc3
          obtain ⟨c14, N15, f12, h1, h2, b13⟩ := u_wX7_pleased_81 x1 x2 v4 M h1 h2
          have hf := Fr_ts (Fr_refl (fun i k => False) M) f12
          exact ⟨c14, N15, hf, h1, h2, fun Q' hq => ⟨s1, ⟨fun _ => ⟨fun _ => b13 _ hq, fun z => absurd z hc3⟩, fun z => absurd hc2 z⟩⟩⟩
      · have h1 := h1.2 hc2
        have h2 := h2.2 hc2
        obtain ⟨r8, M7, f16, h1, h2, b17⟩ := u_wX7_rightWhenLaidAt v5 x1 M h1 h2
        have g18 := Fr_tr (Fr_refl (fun i k => False) M) f16 (fun i k (h : False) => h.elim)
        by_cases hc19 : r8 ≤ v4
        · have h1 := h1.1 hc19
          have h2 := h2.1 hc19
          rcases u_wX7_pleased_65 x1 x2 v3 v4 v5 M7 h1 h2 with ⟨c24, N25, f22, h1, h2, b23⟩ | ⟨c26, c27, c28, N29, f22, h1, h2, b23⟩
          · have hf := Fr_ts g18 f22
            exact ⟨c24, N25, hf, h1, h2, fun Q' hq => ⟨s1, ⟨fun z => absurd z hc2, fun _ => b17 _ ⟨fun _ => b23 _ _ hq, fun z => absurd hc19 z⟩⟩⟩⟩
          · have hf := Fr_ts g18 f22
            obtain ⟨c32, N33, f30, h1, h2, b31⟩ := ih m c26 c27 c28 N29 h1 h2
            have hf := Fr_ts hf f30
            exact ⟨c32, N33, hf, h1, h2, fun Q' hq => ⟨s1, ⟨fun z => absurd z hc2, fun _ => b17 _ ⟨fun _ => b23 _ _ (b31 _ hq), fun z => absurd hc19 z⟩⟩⟩⟩
        · have h1 := h1.2 hc19
          have h2 := h2.2 hc19
          rcases u_wX7_pleased_65 x1 x2 v5 r8 v5 M7 h1 h2 with ⟨c38, N39, f36, h1, h2, b37⟩ | ⟨c40, c41, c42, N43, f36, h1, h2, b37⟩
          · have hf := Fr_ts g18 f36
            exact ⟨c38, N39, hf, h1, h2, fun Q' hq => ⟨s1, ⟨fun z => absurd z hc2, fun _ => b17 _ ⟨fun z => absurd z hc19, fun _ => b37 _ _ hq⟩⟩⟩⟩
          · have hf := Fr_ts g18 f36
            obtain ⟨c46, N47, f44, h1, h2, b45⟩ := ih m c40 c41 c42 N43 h1 h2
            have hf := Fr_ts hf f44
            exact ⟨c46, N47, hf, h1, h2, fun Q' hq => ⟨s1, ⟨fun z => absurd z hc2, fun _ => b17 _ ⟨fun z => absurd z hc19, fun _ => b37 _ _ (b45 _ hq)⟩⟩⟩⟩
set_option maxHeartbeats 4000000 in
theorem u_wX7_pleased (x1 : Int32) (x2 : Int32) {Qa Qb : Int32 → Mem → Prop} (M : Mem) (h1 : wX7_pleased x1 x2 M Qa) (h2 : wX7_pleased x1 x2 M Qb) : (∃ (a0 : Int32) (M' : Mem), Fr (fun i k => False) M M' ∧ Qa a0 M' ∧ Qb a0 M' ∧ ∀ (Q' : Int32 → Mem → Prop), Q' a0 M' → wX7_pleased x1 x2 M Q') := by
  have h1 : (wX7_within x1 (1 : Int32) (100 : Int32) M (fun r2 M1 => ((r2 = 0 → wX7_pleased_19 x1 x2 Qa M1) ∧ (¬ r2 = 0 → (wX7_within x2 (0 : Int32) (1 : Int32) M1 (fun r4 M3 => ((¬ r4 = 0 → (∃ n5, wX7_pleased_30 x1 x2 Qa n5 (0 : Int32) (-4 : Int32) (0 : Int32) M3)) ∧ (r4 = 0 → wX7_pleased_19 x1 x2 Qa M3)))))))) := h1
  have h2 : (wX7_within x1 (1 : Int32) (100 : Int32) M (fun r2 M1 => ((r2 = 0 → wX7_pleased_19 x1 x2 Qb M1) ∧ (¬ r2 = 0 → (wX7_within x2 (0 : Int32) (1 : Int32) M1 (fun r4 M3 => ((¬ r4 = 0 → (∃ n5, wX7_pleased_30 x1 x2 Qb n5 (0 : Int32) (-4 : Int32) (0 : Int32) M3)) ∧ (r4 = 0 → wX7_pleased_19 x1 x2 Qb M3)))))))) := h2
  obtain ⟨r2, M1, f1, h1, h2, b2⟩ := u_wX7_within x1 (1 : Int32) (100 : Int32) M h1 h2
  have g3 := Fr_tr (Fr_refl (fun i k => False) M) f1 (fun i k (h : False) => h.elim)
  by_cases hc4 : r2 = 0
  · have h1 := h1.1 hc4
    have h2 := h2.1 hc4
    obtain ⟨c9, N10, f7, h1, h2, b8⟩ := u_wX7_pleased_19 x1 x2 M1 h1 h2
    have hf := Fr_ts g3 f7
    exact ⟨c9, N10, hf, h1, h2, fun Q' hq => b2 _ ⟨fun _ => b8 _ hq, fun z => absurd hc4 z⟩⟩
  · have h1 := h1.2 hc4
    have h2 := h2.2 hc4
    obtain ⟨r4, M3, f11, h1, h2, b12⟩ := u_wX7_within x2 (0 : Int32) (1 : Int32) M1 h1 h2
    have g13 := Fr_tr g3 f11 (fun i k (h : False) => h.elim)
    by_cases hc14 : r4 = 0
    · have h1 := h1.2 hc14
      have h2 := h2.2 hc14
      obtain ⟨c19, N20, f17, h1, h2, b18⟩ := u_wX7_pleased_19 x1 x2 M3 h1 h2
      have hf := Fr_ts g13 f17
      exact ⟨c19, N20, hf, h1, h2, fun Q' hq => b2 _ ⟨fun z => absurd z hc4, fun _ => b12 _ ⟨fun z => absurd hc14 z, fun _ => b18 _ hq⟩⟩⟩
    · have h1 := h1.1 hc14
      have h2 := h2.1 hc14
      obtain ⟨n5_a, h1⟩ := h1
      obtain ⟨n5_b, h2⟩ := h2
      obtain ⟨c25, N26, f23, h1, h2, b24⟩ := u_wX7_pleased_30 x1 x2 n5_a n5_b (0 : Int32) (-4 : Int32) (0 : Int32) M3 h1 h2
      have hf := Fr_ts g13 f23
      exact ⟨c25, N26, hf, h1, h2, fun Q' hq => b2 _ ⟨fun z => absurd z hc4, fun _ => b12 _ ⟨fun _ => ⟨n5_a, b24 _ hq⟩, fun z => absurd z hc14⟩⟩⟩
set_option maxHeartbeats 4000000 in
theorem u_wX7_keptPack_15 (x1 : Int32) {Qa Qb : Nat → Mem → Prop} (s0 : Nat) (M : Mem) (h1 : wX7_keptPack_15 x1 Qa s0 M) (h2 : wX7_keptPack_15 x1 Qb s0 M) : (∃ (a0 : Nat) (M' : Mem), Fr (fun i k => False) M M' ∧ Qa a0 M' ∧ Qb a0 M' ∧ ∀ (Q' : Nat → Mem → Prop), Q' a0 M' → wX7_keptPack_15 x1 Q' s0 M) := by
  have h1 : Qa s0 M := h1
  have h2 : Qb s0 M := h2
  exact ⟨s0, M, (Fr_refl (fun i k => False) M), h1, h2, fun Q' hq => hq⟩
set_option maxHeartbeats 4000000 in
theorem u_wX7_keptPack (x1 : Int32) {Qa Qb : Nat → Mem → Prop} (M : Mem) (h1 : wX7_keptPack x1 M Qa) (h2 : wX7_keptPack x1 M Qb) : (∃ (a0 : Nat) (M' : Mem), Fr (fun i k => False) M M' ∧ Qa a0 M' ∧ Qb a0 M' ∧ ∀ (Q' : Nat → Mem → Prop), Q' a0 M' → wX7_keptPack x1 M Q') := by
  have h1 : ((¬ x1 = 0 → wX7_keptPack_15 x1 Qa 73 M) ∧ (x1 = 0 → wX7_keptPack_15 x1 Qa 67 M)) := h1
  have h2 : ((¬ x1 = 0 → wX7_keptPack_15 x1 Qb 73 M) ∧ (x1 = 0 → wX7_keptPack_15 x1 Qb 67 M)) := h2
  by_cases hc1 : x1 = 0
  · have h1 := h1.2 hc1
    have h2 := h2.2 hc1
    obtain ⟨c6, N7, f4, h1, h2, b5⟩ := u_wX7_keptPack_15 x1 67 M h1 h2
    have hf := Fr_ts (Fr_refl (fun i k => False) M) f4
    exact ⟨c6, N7, hf, h1, h2, fun Q' hq => ⟨fun z => absurd hc1 z, fun _ => b5 _ hq⟩⟩
  · have h1 := h1.1 hc1
    have h2 := h2.1 hc1
    obtain ⟨c12, N13, f10, h1, h2, b11⟩ := u_wX7_keptPack_15 x1 73 M h1 h2
    have hf := Fr_ts (Fr_refl (fun i k => False) M) f10
    exact ⟨c12, N13, hf, h1, h2, fun Q' hq => ⟨fun _ => b11 _ hq, fun z => absurd z hc1⟩⟩
set_option maxHeartbeats 4000000 in
theorem u_wX7_keep {Qa Qb : Int32 → Mem → Prop} (M : Mem) (h1 : wX7_keep M Qa) (h2 : wX7_keep M Qb) : (∃ (a0 : Int32) (M' : Mem), Fr (fun i k => (i = 0 ∧ k = 13) ∨ (61 ≤ i ∧ i ≤ 78)) M M' ∧ Qa a0 M' ∧ Qb a0 M' ∧ ∀ (Q' : Int32 → Mem → Prop), Q' a0 M' → wX7_keep M Q') := by
  have h1 : (((M 0 13) < (2 : Int32) → (wX7_keptPack (M 0 13) M (fun r2 M1 => (kd r2 = 2 ∧ (wX2_copyFrom r2 61 M1 (fun M4 => Qa ((mu M4 0 13 ((M4 0 13) + (1 : Int32))) 0 13) (mu M4 0 13 ((M4 0 13) + (1 : Int32))))))))) ∧ (¬ (M 0 13) < (2 : Int32) → Qa (-3 : Int32) M)) := h1
  have h2 : (((M 0 13) < (2 : Int32) → (wX7_keptPack (M 0 13) M (fun r2 M1 => (kd r2 = 2 ∧ (wX2_copyFrom r2 61 M1 (fun M4 => Qb ((mu M4 0 13 ((M4 0 13) + (1 : Int32))) 0 13) (mu M4 0 13 ((M4 0 13) + (1 : Int32))))))))) ∧ (¬ (M 0 13) < (2 : Int32) → Qb (-3 : Int32) M)) := h2
  by_cases hc1 : (M 0 13) < (2 : Int32)
  · have h1 := h1.1 hc1
    have h2 := h2.1 hc1
    obtain ⟨r2, M1, f2, h1, h2, b3⟩ := u_wX7_keptPack (M 0 13) M h1 h2
    have g4 := Fr_tr (Fr_refl (fun i k => (i = 0 ∧ k = 13) ∨ (61 ≤ i ∧ i ≤ 78)) M) f2 (fun i k (h : False) => h.elim)
    have s5 := h1.1
    have h1 := h1.2
    have h2 := h2.2
    have kbs5 := kdB_2 s5
    obtain ⟨M4, f6, h1, h2, b7⟩ := u_wX2_copyFrom r2 61 M1 h1 h2
    have g8 := Fr_tr g4 f6 (fun i k (h : r2 ≤ i ∧ i ≤ r2 + 5) => (show (i = 0 ∧ k = 13) ∨ (61 ≤ i ∧ i ≤ 78) from by omega))
    exact ⟨((mu M4 0 13 ((M4 0 13) + (1 : Int32))) 0 13), (mu M4 0 13 ((M4 0 13) + (1 : Int32))), (Fr_mu g8 (show (0 = 0 ∧ 13 = 13) ∨ (61 ≤ 0 ∧ 0 ≤ 78) from by omega)), h1, h2, fun Q' hq => ⟨fun _ => b3 _ ⟨s5, b7 _ hq⟩, fun z => absurd hc1 z⟩⟩
  · have h1 := h1.2 hc1
    have h2 := h2.2 hc1
    exact ⟨(-3 : Int32), M, (Fr_refl (fun i k => (i = 0 ∧ k = 13) ∨ (61 ≤ i ∧ i ≤ 78)) M), h1, h2, fun Q' hq => ⟨fun z => absurd z hc1, fun _ => hq⟩⟩
set_option maxHeartbeats 4000000 in
theorem u_wX7_back {Qa Qb : Int32 → Mem → Prop} (M : Mem) (h1 : wX7_back M Qa) (h2 : wX7_back M Qb) : (∃ (a0 : Int32) (M' : Mem), Fr (fun i k => (i = 0 ∧ k = 13) ∨ (61 ≤ i ∧ i ≤ 78)) M M' ∧ Qa a0 M' ∧ Qb a0 M' ∧ ∀ (Q' : Int32 → Mem → Prop), Q' a0 M' → wX7_back M Q') := by
  have h1 : ((0 < (M 0 13) → (wX7_keptPack ((mu M 0 13 ((M 0 13) - (1 : Int32))) 0 13) (mu M 0 13 ((M 0 13) - (1 : Int32))) (fun r2 M1 => (kd r2 = 2 ∧ (wX2_copyFrom 61 r2 M1 (fun M4 => Qa (M4 0 13) M4)))))) ∧ (¬ 0 < (M 0 13) → Qa (-2 : Int32) M)) := h1
  have h2 : ((0 < (M 0 13) → (wX7_keptPack ((mu M 0 13 ((M 0 13) - (1 : Int32))) 0 13) (mu M 0 13 ((M 0 13) - (1 : Int32))) (fun r2 M1 => (kd r2 = 2 ∧ (wX2_copyFrom 61 r2 M1 (fun M4 => Qb (M4 0 13) M4)))))) ∧ (¬ 0 < (M 0 13) → Qb (-2 : Int32) M)) := h2
  by_cases hc1 : 0 < (M 0 13)
  · have h1 := h1.1 hc1
    have h2 := h2.1 hc1
    obtain ⟨r2, M1, f2, h1, h2, b3⟩ := u_wX7_keptPack ((mu M 0 13 ((M 0 13) - (1 : Int32))) 0 13) (mu M 0 13 ((M 0 13) - (1 : Int32))) h1 h2
    have g4 := Fr_tr (Fr_mu (Fr_refl (fun i k => (i = 0 ∧ k = 13) ∨ (61 ≤ i ∧ i ≤ 78)) M) (show (0 = 0 ∧ 13 = 13) ∨ (61 ≤ 0 ∧ 0 ≤ 78) from by omega)) f2 (fun i k (h : False) => h.elim)
    have s5 := h1.1
    have h1 := h1.2
    have h2 := h2.2
    have kbs5 := kdB_2 s5
    obtain ⟨M4, f6, h1, h2, b7⟩ := u_wX2_copyFrom 61 r2 M1 h1 h2
    have g8 := Fr_tr g4 f6 (fun i k (h : 61 ≤ i ∧ i ≤ 61 + 5) => (show (i = 0 ∧ k = 13) ∨ (61 ≤ i ∧ i ≤ 78) from by omega))
    exact ⟨(M4 0 13), M4, g8, h1, h2, fun Q' hq => ⟨fun _ => b3 _ ⟨s5, b7 _ hq⟩, fun z => absurd hc1 z⟩⟩
  · have h1 := h1.2 hc1
    have h2 := h2.2 hc1
    exact ⟨(-2 : Int32), M, (Fr_refl (fun i k => (i = 0 ∧ k = 13) ∨ (61 ≤ i ∧ i ≤ 78)) M), h1, h2, fun Q' hq => ⟨fun z => absurd z hc1, fun _ => hq⟩⟩
set_option maxHeartbeats 4000000 in
theorem u_wX7_count (x1 : Int32) {Qa Qb : Int32 → Mem → Prop} (M : Mem) (h1 : wX7_count x1 M Qa) (h2 : wX7_count x1 M Qb) : (∃ (a0 : Int32) (M' : Mem), Fr (fun i k => False) M M' ∧ Qa a0 M' ∧ Qb a0 M' ∧ ∀ (Q' : Int32 → Mem → Prop), Q' a0 M' → wX7_count x1 M Q') := by
  have h1 : (wX7_within x1 (0 : Int32) (7 : Int32) M (fun r2 M1 => ((¬ r2 = 0 → ((x1 = (0 : Int32) → (kd (rid (M1 0 2)) = 6 ∧ Qa (M1 (rid (M1 0 2)) 0) M1)) ∧ (¬ x1 = (0 : Int32) → ((x1 = (1 : Int32) → (kd (rid (M1 0 2)) = 6 ∧ Qa (M1 (rid (M1 0 2)) 1) M1)) ∧ (¬ x1 = (1 : Int32) → ((x1 = (2 : Int32) → (kd (rid (M1 0 2)) = 6 ∧ Qa (M1 (rid (M1 0 2)) 8) M1)) ∧ (¬ x1 = (2 : Int32) → ((x1 = (3 : Int32) → Qa (M1 61 1) M1) ∧ (¬ x1 = (3 : Int32) → ((x1 = (4 : Int32) → Qa (M1 61 2) M1) ∧ (¬ x1 = (4 : Int32) → ((x1 = (5 : Int32) → Qa (M1 0 9) M1) ∧ (¬ x1 = (5 : Int32) → ((x1 = (6 : Int32) → Qa (M1 0 13) M1) ∧ (¬ x1 = (6 : Int32) → (wX5_size 1 M1 (fun r4 M3 => Qa r4 M3))))))))))))))))) ∧ (r2 = 0 → Qa (-1 : Int32) M1)))) := h1
  have h2 : (wX7_within x1 (0 : Int32) (7 : Int32) M (fun r2 M1 => ((¬ r2 = 0 → ((x1 = (0 : Int32) → (kd (rid (M1 0 2)) = 6 ∧ Qb (M1 (rid (M1 0 2)) 0) M1)) ∧ (¬ x1 = (0 : Int32) → ((x1 = (1 : Int32) → (kd (rid (M1 0 2)) = 6 ∧ Qb (M1 (rid (M1 0 2)) 1) M1)) ∧ (¬ x1 = (1 : Int32) → ((x1 = (2 : Int32) → (kd (rid (M1 0 2)) = 6 ∧ Qb (M1 (rid (M1 0 2)) 8) M1)) ∧ (¬ x1 = (2 : Int32) → ((x1 = (3 : Int32) → Qb (M1 61 1) M1) ∧ (¬ x1 = (3 : Int32) → ((x1 = (4 : Int32) → Qb (M1 61 2) M1) ∧ (¬ x1 = (4 : Int32) → ((x1 = (5 : Int32) → Qb (M1 0 9) M1) ∧ (¬ x1 = (5 : Int32) → ((x1 = (6 : Int32) → Qb (M1 0 13) M1) ∧ (¬ x1 = (6 : Int32) → (wX5_size 1 M1 (fun r4 M3 => Qb r4 M3))))))))))))))))) ∧ (r2 = 0 → Qb (-1 : Int32) M1)))) := h2
  obtain ⟨r2, M1, f1, h1, h2, b2⟩ := u_wX7_within x1 (0 : Int32) (7 : Int32) M h1 h2
  have g3 := Fr_tr (Fr_refl (fun i k => False) M) f1 (fun i k (h : False) => h.elim)
  by_cases hc4 : r2 = 0
  · have h1 := h1.2 hc4
    have h2 := h2.2 hc4
    exact ⟨(-1 : Int32), M1, g3, h1, h2, fun Q' hq => b2 _ ⟨fun z => absurd hc4 z, fun _ => hq⟩⟩
  · have h1 := h1.1 hc4
    have h2 := h2.1 hc4
    by_cases hc5 : x1 = (0 : Int32)
    · have h1 := h1.1 hc5
      have h2 := h2.1 hc5
      have s6 := h1.1
      have h1 := h1.2
      have h2 := h2.2
      have kbs6 := kdB_6 s6
      exact ⟨(M1 (rid (M1 0 2)) 0), M1, g3, h1, h2, fun Q' hq => b2 _ ⟨fun _ => ⟨fun _ => ⟨s6, hq⟩, fun z => absurd hc5 z⟩, fun z => absurd z hc4⟩⟩
    · have h1 := h1.2 hc5
      have h2 := h2.2 hc5
      by_cases hc7 : x1 = (1 : Int32)
      · have h1 := h1.1 hc7
        have h2 := h2.1 hc7
        have s8 := h1.1
        have h1 := h1.2
        have h2 := h2.2
        have kbs8 := kdB_6 s8
        exact ⟨(M1 (rid (M1 0 2)) 1), M1, g3, h1, h2, fun Q' hq => b2 _ ⟨fun _ => ⟨fun z => absurd z hc5, fun _ => ⟨fun _ => ⟨s8, hq⟩, fun z => absurd hc7 z⟩⟩, fun z => absurd z hc4⟩⟩
      · have h1 := h1.2 hc7
        have h2 := h2.2 hc7
        by_cases hc9 : x1 = (2 : Int32)
        · have h1 := h1.1 hc9
          have h2 := h2.1 hc9
          have s10 := h1.1
          have h1 := h1.2
          have h2 := h2.2
          have kbs10 := kdB_6 s10
          exact ⟨(M1 (rid (M1 0 2)) 8), M1, g3, h1, h2, fun Q' hq => b2 _ ⟨fun _ => ⟨fun z => absurd z hc5, fun _ => ⟨fun z => absurd z hc7, fun _ => ⟨fun _ => ⟨s10, hq⟩, fun z => absurd hc9 z⟩⟩⟩, fun z => absurd z hc4⟩⟩
        · have h1 := h1.2 hc9
          have h2 := h2.2 hc9
          by_cases hc11 : x1 = (3 : Int32)
          · have h1 := h1.1 hc11
            have h2 := h2.1 hc11
            exact ⟨(M1 61 1), M1, g3, h1, h2, fun Q' hq => b2 _ ⟨fun _ => ⟨fun z => absurd z hc5, fun _ => ⟨fun z => absurd z hc7, fun _ => ⟨fun z => absurd z hc9, fun _ => ⟨fun _ => hq, fun z => absurd hc11 z⟩⟩⟩⟩, fun z => absurd z hc4⟩⟩
          · have h1 := h1.2 hc11
            have h2 := h2.2 hc11
            by_cases hc12 : x1 = (4 : Int32)
            · have h1 := h1.1 hc12
              have h2 := h2.1 hc12
              exact ⟨(M1 61 2), M1, g3, h1, h2, fun Q' hq => b2 _ ⟨fun _ => ⟨fun z => absurd z hc5, fun _ => ⟨fun z => absurd z hc7, fun _ => ⟨fun z => absurd z hc9, fun _ => ⟨fun z => absurd z hc11, fun _ => ⟨fun _ => hq, fun z => absurd hc12 z⟩⟩⟩⟩⟩, fun z => absurd z hc4⟩⟩
            · have h1 := h1.2 hc12
              have h2 := h2.2 hc12
              by_cases hc13 : x1 = (5 : Int32)
              · have h1 := h1.1 hc13
                have h2 := h2.1 hc13
                exact ⟨(M1 0 9), M1, g3, h1, h2, fun Q' hq => b2 _ ⟨fun _ => ⟨fun z => absurd z hc5, fun _ => ⟨fun z => absurd z hc7, fun _ => ⟨fun z => absurd z hc9, fun _ => ⟨fun z => absurd z hc11, fun _ => ⟨fun z => absurd z hc12, fun _ => ⟨fun _ => hq, fun z => absurd hc13 z⟩⟩⟩⟩⟩⟩, fun z => absurd z hc4⟩⟩
              · have h1 := h1.2 hc13
                have h2 := h2.2 hc13
                by_cases hc14 : x1 = (6 : Int32)
                · have h1 := h1.1 hc14
                  have h2 := h2.1 hc14
                  exact ⟨(M1 0 13), M1, g3, h1, h2, fun Q' hq => b2 _ ⟨fun _ => ⟨fun z => absurd z hc5, fun _ => ⟨fun z => absurd z hc7, fun _ => ⟨fun z => absurd z hc9, fun _ => ⟨fun z => absurd z hc11, fun _ => ⟨fun z => absurd z hc12, fun _ => ⟨fun z => absurd z hc13, fun _ => ⟨fun _ => hq, fun z => absurd hc14 z⟩⟩⟩⟩⟩⟩⟩, fun z => absurd z hc4⟩⟩
                · have h1 := h1.2 hc14
                  have h2 := h2.2 hc14
                  obtain ⟨r4, M3, f15, h1, h2, b16⟩ := u_wX5_size 1 M1 h1 h2
                  have g17 := Fr_tr g3 f15 (fun i k (h : False) => h.elim)
                  exact ⟨r4, M3, g17, h1, h2, fun Q' hq => b2 _ ⟨fun _ => ⟨fun z => absurd z hc5, fun _ => ⟨fun z => absurd z hc7, fun _ => ⟨fun z => absurd z hc9, fun _ => ⟨fun z => absurd z hc11, fun _ => ⟨fun z => absurd z hc12, fun _ => ⟨fun z => absurd z hc13, fun _ => ⟨fun z => absurd z hc14, fun _ => b16 _ hq⟩⟩⟩⟩⟩⟩⟩, fun z => absurd z hc4⟩⟩
