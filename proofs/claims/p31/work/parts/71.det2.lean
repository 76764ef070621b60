set_option maxHeartbeats 4000000 in
theorem u_wX3_readOneReader_78 (r : Nat) (x1 : Nat) {k_22a k_22b : Int32 → Mem → Prop} {Qa Qb : Mem → Prop} (v2 : Int32) (M : Mem) (h1 : wX3_readOneReader_78 r x1 k_22a Qa v2 M) (h2 : wX3_readOneReader_78 r x1 k_22b Qb v2 M) : (∃ (M' : Mem), Fr (fun i k => r ≤ i ∧ i ≤ r + 19) M M' ∧ Qa M' ∧ Qb M' ∧ ∀ (k'0 : Int32 → Mem → Prop) (Q' : Mem → Prop), Q' M' → wX3_readOneReader_78 r x1 k'0 Q' v2 M) ∨ (∃ (a0 : Int32) (M' : Mem), Fr (fun i k => r ≤ i ∧ i ≤ r + 19) M M' ∧ k_22a a0 M' ∧ k_22b a0 M' ∧ ∀ (k'0 : Int32 → Mem → Prop) (Q' : Mem → Prop), k'0 a0 M' → wX3_readOneReader_78 r x1 k'0 Q' v2 M) := by
  have h1 : k_22a (v2 + (1 : Int32)) M := h1
  have h2 : k_22b (v2 + (1 : Int32)) M := h2
  exact Or.inr ⟨(v2 + (1 : Int32)), M, (Fr_refl (fun i k => r ≤ i ∧ i ≤ r + 19) M), h1, h2, fun k'0 Q' hq => hq⟩
set_option maxHeartbeats 4000000 in
theorem u_wX3_readOneReader_22 (r : Nat) (x1 : Nat) {Qa Qb : Mem → Prop} : ∀ (n1 n2 : Nat) (v2 : Int32) (M : Mem), wX3_readOneReader_22 r x1 Qa n1 v2 M → wX3_readOneReader_22 r x1 Qb n2 v2 M → (∃ (M' : Mem), Fr (fun i k => r ≤ i ∧ i ≤ r + 19) M M' ∧ Qa M' ∧ Qb M' ∧ ∀ (Q' : Mem → Prop), Q' M' → wX3_readOneReader_22 r x1 Q' n1 v2 M) := by
  intro n1
  induction n1 with
  | zero => intro _ _ _ h1 _; exact h1.elim
  | succ n ih =>
    intro n2 v2 M h1 h2
    cases n2 with
    | zero => exact h2.elim
    | succ m =>
      have h1 : (((M x1 1) ≤ v2 → Qa M) ∧ (¬ (M x1 1) ≤ v2 → (wX1_readTop (r + 1) (M x1 2) (M x1 3) v2 M (fun r5 M4 => (wX4_put (r + 6) v2 r5 M4 (fun M6 => (wX4_at (r + 8) r5 M6 (fun r8 M7 => ((¬ r8 = (-4 : Int32) → wX3_readOneReader_78 r x1 (wX3_readOneReader_22 r x1 Qa n) Qa v2 M7) ∧ (r8 = (-4 : Int32) → (wX4_put (r + 8) r5 v2 M7 (fun M9 => wX3_readOneReader_78 r x1 (wX3_readOneReader_22 r x1 Qa n) Qa v2 M9)))))))))))) := h1
      have h2 : (((M x1 1) ≤ v2 → Qb M) ∧ (¬ (M x1 1) ≤ v2 → (wX1_readTop (r + 1) (M x1 2) (M x1 3) v2 M (fun r5 M4 => (wX4_put (r + 6) v2 r5 M4 (fun M6 => (wX4_at (r + 8) r5 M6 (fun r8 M7 => ((¬ r8 = (-4 : Int32) → wX3_readOneReader_78 r x1 (wX3_readOneReader_22 r x1 Qb m) Qb v2 M7) ∧ (r8 = (-4 : Int32) → (wX4_put (r + 8) r5 v2 M7 (fun M9 => wX3_readOneReader_78 r x1 (wX3_readOneReader_22 r x1 Qb m) Qb v2 M9)))))))))))) := h2
      by_cases hc1 : (M x1 1) ≤ v2
      · have h1 := h1.1 hc1
        have h2 := h2.1 hc1
        exact ⟨M, (Fr_refl (fun i k => r ≤ i ∧ i ≤ r + 19) M), h1, h2, fun Q' hq => ⟨fun _ => hq, fun z => absurd hc1 z⟩⟩
      · have h1 := h1.2 hc1
        have h2 := h2.2 hc1
        obtain ⟨r5, M4, f2, h1, h2, b3⟩ := u_wX1_readTop (r + 1) (M x1 2) (M x1 3) v2 M h1 h2
        have g4 := Fr_tr (Fr_refl (fun i k => r ≤ i ∧ i ≤ r + 19) M) f2 (fun i k (h : (r + 1) ≤ i ∧ i ≤ (r + 1) + 4) => (show r ≤ i ∧ i ≤ r + 19 from by omega))
        obtain ⟨M6, f5, h1, h2, b6⟩ := u_wX4_put (r + 6) v2 r5 M4 h1 h2
        have g7 := Fr_tr g4 f5 (fun i k (h : i = (r + 6) + 1) => (show r ≤ i ∧ i ≤ r + 19 from by omega))
        obtain ⟨r8, M7, f8, h1, h2, b9⟩ := u_wX4_at (r + 8) r5 M6 h1 h2
        have g10 := Fr_tr g7 f8 (fun i k (h : False) => h.elim)
        by_cases hc11 : r8 = (-4 : Int32)
        · have h1 := h1.2 hc11
          have h2 := h2.2 hc11
          obtain ⟨M9, f12, h1, h2, b13⟩ := u_wX4_put (r + 8) r5 v2 M7 h1 h2
          have g14 := Fr_tr g10 f12 (fun i k (h : i = (r + 8) + 1) => (show r ≤ i ∧ i ≤ r + 19 from by omega))
          rcases u_wX3_readOneReader_78 r x1 v2 M9 h1 h2 with ⟨N19, f17, h1, h2, b18⟩ | ⟨c20, N21, f17, h1, h2, b18⟩
          · have hf := Fr_ts g14 f17
            exact ⟨N19, hf, h1, h2, fun Q' hq => ⟨fun z => absurd z hc1, fun _ => b3 _ (b6 _ (b9 _ ⟨fun z => absurd hc11 z, fun _ => b13 _ (b18 _ _ hq)⟩))⟩⟩
          · have hf := Fr_ts g14 f17
            obtain ⟨N24, f22, h1, h2, b23⟩ := ih m c20 N21 h1 h2
            have hf := Fr_ts hf f22
            exact ⟨N24, hf, h1, h2, fun Q' hq => ⟨fun z => absurd z hc1, fun _ => b3 _ (b6 _ (b9 _ ⟨fun z => absurd hc11 z, fun _ => b13 _ (b18 _ _ (b23 _ hq))⟩))⟩⟩
        · have h1 := h1.1 hc11
          have h2 := h2.1 hc11
          rcases u_wX3_readOneReader_78 r x1 v2 M7 h1 h2 with ⟨N29, f27, h1, h2, b28⟩ | ⟨c30, N31, f27, h1, h2, b28⟩
          · have hf := Fr_ts g10 f27
            exact ⟨N29, hf, h1, h2, fun Q' hq => ⟨fun z => absurd z hc1, fun _ => b3 _ (b6 _ (b9 _ ⟨fun _ => b28 _ _ hq, fun z => absurd z hc11⟩))⟩⟩
          · have hf := Fr_ts g10 f27
            obtain ⟨N34, f32, h1, h2, b33⟩ := ih m c30 N31 h1 h2
            have hf := Fr_ts hf f32
            exact ⟨N34, hf, h1, h2, fun Q' hq => ⟨fun z => absurd z hc1, fun _ => b3 _ (b6 _ (b9 _ ⟨fun _ => b28 _ _ (b33 _ hq), fun z => absurd z hc11⟩))⟩⟩
set_option maxHeartbeats 4000000 in
theorem u_wX3_readOneReader (r : Nat) (x1 : Nat) {Qa Qb : Mem → Prop} (M : Mem) (h1 : wX3_readOneReader r x1 M Qa) (h2 : wX3_readOneReader r x1 M Qb) : (∃ (M' : Mem), Fr (fun i k => r ≤ i ∧ i ≤ r + 19) M M' ∧ Qa M' ∧ Qb M' ∧ ∀ (Q' : Mem → Prop), Q' M' → wX3_readOneReader r x1 M Q') := by
  have h1 : (wX1_number (r + 1) (M r 1) M (fun M1 => (wX4_fill (r + 8) (-4 : Int32) M1 (fun M2 => (∃ n3, wX3_readOneReader_22 r x1 Qa n3 (0 : Int32) M2))))) := h1
  have h2 : (wX1_number (r + 1) (M r 1) M (fun M1 => (wX4_fill (r + 8) (-4 : Int32) M1 (fun M2 => (∃ n3, wX3_readOneReader_22 r x1 Qb n3 (0 : Int32) M2))))) := h2
  obtain ⟨M1, f1, h1, h2, b2⟩ := u_wX1_number (r + 1) (M r 1) M h1 h2
  have g3 := Fr_tr (Fr_refl (fun i k => r ≤ i ∧ i ≤ r + 19) M) f1 (fun i k (h : (r + 1) ≤ i ∧ i ≤ (r + 1) + 4) => (show r ≤ i ∧ i ≤ r + 19 from by omega))
  obtain ⟨M2, f4, h1, h2, b5⟩ := u_wX4_fill (r + 8) (-4 : Int32) M1 h1 h2
  have g6 := Fr_tr g3 f4 (fun i k (h : i = (r + 8) + 1) => (show r ≤ i ∧ i ≤ r + 19 from by omega))
  obtain ⟨n3_a, h1⟩ := h1
  obtain ⟨n3_b, h2⟩ := h2
  obtain ⟨N11, f9, h1, h2, b10⟩ := u_wX3_readOneReader_22 r x1 n3_a n3_b (0 : Int32) M2 h1 h2
  have hf := Fr_ts g6 f9
  exact ⟨N11, hf, h1, h2, fun Q' hq => b2 _ (b5 _ ⟨n3_a, b10 _ hq⟩)⟩
set_option maxHeartbeats 4000000 in
theorem u_wX3_layRing_68 (r : Nat) (x1 : Int32) (x2 : Int32) {Qa Qb : Int32 → Mem → Prop} : ∀ (n1 n2 : Nat) (v3 : Int32) (v5 : Int32) (M : Mem), wX3_layRing_68 r x1 x2 Qa n1 v3 v5 M → wX3_layRing_68 r x1 x2 Qb n2 v3 v5 M → (∃ (a0 : Int32) (M' : Mem), Fr (fun i k => r ≤ i ∧ i ≤ r + 19) M M' ∧ Qa a0 M' ∧ Qb a0 M' ∧ ∀ (Q' : Int32 → Mem → Prop), Q' a0 M' → wX3_layRing_68 r x1 x2 Q' n1 v3 v5 M) := by
  intro n1
  induction n1 with
  | zero => intro _ _ _ _ h1 _; exact h1.elim
  | succ n ih =>
    intro n2 v3 v5 M h1 h2
    cases n2 with
    | zero => exact h2.elim
    | succ m =>
      have h1 : ((v3 ≤ v5 → Qa v3 M) ∧ (¬ v3 ≤ v5 → (wX4_at (r + 12) (x2 + v5) M (fun r9 M8 => (wX4_put (r + 16) r9 v3 M8 (fun M10 => wX3_layRing_68 r x1 x2 Qa n v3 (v5 + (1 : Int32)) M10)))))) := h1
      have h2 : ((v3 ≤ v5 → Qb v3 M) ∧ (¬ v3 ≤ v5 → (wX4_at (r + 12) (x2 + v5) M (fun r9 M8 => (wX4_put (r + 16) r9 v3 M8 (fun M10 => wX3_layRing_68 r x1 x2 Qb m v3 (v5 + (1 : Int32)) M10)))))) := h2
      by_cases hc1 : v3 ≤ v5
      · have h1 := h1.1 hc1
        have h2 := h2.1 hc1
        exact ⟨v3, M, (Fr_refl (fun i k => r ≤ i ∧ i ≤ r + 19) M), h1, h2, fun Q' hq => ⟨fun _ => hq, fun z => absurd hc1 z⟩⟩
      · have h1 := h1.2 hc1
        have h2 := h2.2 hc1
        obtain ⟨r9, M8, f2, h1, h2, b3⟩ := u_wX4_at (r + 12) (x2 + v5) M h1 h2
        have g4 := Fr_tr (Fr_refl (fun i k => r ≤ i ∧ i ≤ r + 19) M) f2 (fun i k (h : False) => h.elim)
        obtain ⟨M10, f5, h1, h2, b6⟩ := u_wX4_put (r + 16) r9 v3 M8 h1 h2
        have g7 := Fr_tr g4 f5 (fun i k (h : i = (r + 16) + 1) => (show r ≤ i ∧ i ≤ r + 19 from by omega))
        obtain ⟨c12, N13, f10, h1, h2, b11⟩ := ih m v3 (v5 + (1 : Int32)) M10 h1 h2
        have hf := Fr_ts g7 f10
        exact ⟨c12, N13, hf, h1, h2, fun Q' hq => ⟨fun z => absurd z hc1, fun _ => b3 _ (b6 _ (b11 _ hq))⟩⟩
set_option maxHeartbeats 4000000 in
theorem u_wX3_layRing_65 (r : Nat) (x1 : Int32) (x2 : Int32) {Qa Qb : Int32 → Mem → Prop} (v3 : Int32) (M : Mem) (h1 : wX3_layRing_65 r x1 x2 Qa v3 M) (h2 : wX3_layRing_65 r x1 x2 Qb v3 M) : (∃ (a0 : Int32) (M' : Mem), Fr (fun i k => r ≤ i ∧ i ≤ r + 19) M M' ∧ Qa a0 M' ∧ Qb a0 M' ∧ ∀ (Q' : Int32 → Mem → Prop), Q' a0 M' → wX3_layRing_65 r x1 x2 Q' v3 M) := by
  have h1 : (∃ n7, wX3_layRing_68 r x1 x2 Qa n7 v3 (0 : Int32) M) := h1
  have h2 : (∃ n7, wX3_layRing_68 r x1 x2 Qb n7 v3 (0 : Int32) M) := h2
  obtain ⟨n7_a, h1⟩ := h1
  obtain ⟨n7_b, h2⟩ := h2
  obtain ⟨c5, N6, f3, h1, h2, b4⟩ := u_wX3_layRing_68 r x1 x2 n7_a n7_b v3 (0 : Int32) M h1 h2
  have hf := Fr_ts (Fr_refl (fun i k => r ≤ i ∧ i ≤ r + 19) M) f3
  exact ⟨c5, N6, hf, h1, h2, fun Q' hq => ⟨n7_a, b4 _ hq⟩⟩
set_option maxHeartbeats 4000000 in
theorem u_wX3_layRing_5 (r : Nat) (x1 : Int32) (x2 : Int32) {Qa Qb : Int32 → Mem → Prop} : ∀ (n1 n2 : Nat) (v3 : Int32) (v4 : Int32) (M : Mem), wX3_layRing_5 r x1 x2 Qa n1 v3 v4 M → wX3_layRing_5 r x1 x2 Qb n2 v3 v4 M → (∃ (a0 : Int32) (M' : Mem), Fr (fun i k => r ≤ i ∧ i ≤ r + 19) M M' ∧ Qa a0 M' ∧ Qb a0 M' ∧ ∀ (Q' : Int32 → Mem → Prop), Q' a0 M' → wX3_layRing_5 r x1 x2 Q' n1 v3 v4 M) := by
  intro n1
  induction n1 with
  | zero => intro _ _ _ _ h1 _; exact h1.elim
  | succ n ih =>
    intro n2 v3 v4 M h1 h2
    cases n2 with
    | zero => exact h2.elim
    | succ m =>
      have h1 : (wX4_put (r + 12) (x2 + v3) v4 M (fun M2 => (wX4_put (r + 14) v4 x2 M2 (fun M3 => (wX4_put (r + 18) v4 v3 M3 (fun M4 => (wX1_leafAt (r + 1) v4 M4 (fun r6 M5 => ((r6 = x1 → wX3_layRing_65 r x1 x2 Qa (v3 + (1 : Int32)) M5) ∧ (¬ r6 = x1 → (((v3 + (1 : Int32)) < (M5 r 1) → wX3_layRing_5 r x1 x2 Qa n (v3 + (1 : Int32)) r6 M5) ∧ (¬ (v3 + (1 : Int32)) < (M5 r 1) → wX3_layRing_65 r x1 x2 Qa (v3 + (1 : Int32)) M5)))))))))))) := h1
      have h2 : (wX4_put (r + 12) (x2 + v3) v4 M (fun M2 => (wX4_put (r + 14) v4 x2 M2 (fun M3 => (wX4_put (r + 18) v4 v3 M3 (fun M4 => (wX1_leafAt (r + 1) v4 M4 (fun r6 M5 => ((r6 = x1 → wX3_layRing_65 r x1 x2 Qb (v3 + (1 : Int32)) M5) ∧ (¬ r6 = x1 → (((v3 + (1 : Int32)) < (M5 r 1) → wX3_layRing_5 r x1 x2 Qb m (v3 + (1 : Int32)) r6 M5) ∧ (¬ (v3 + (1 : Int32)) < (M5 r 1) → wX3_layRing_65 r x1 x2 Qb (v3 + (1 : Int32)) M5)))))))))))) := h2
      obtain ⟨M2, f1, h1, h2, b2⟩ := u_wX4_put (r + 12) (x2 + v3) v4 M h1 h2
      have g3 := Fr_tr (Fr_refl (fun i k => r ≤ i ∧ i ≤ r + 19) M) f1 (fun i k (h : i = (r + 12) + 1) => (show r ≤ i ∧ i ≤ r + 19 from by omega))
      obtain ⟨M3, f4, h1, h2, b5⟩ := u_wX4_put (r + 14) v4 x2 M2 h1 h2
      have g6 := Fr_tr g3 f4 (fun i k (h : i = (r + 14) + 1) => (show r ≤ i ∧ i ≤ r + 19 from by omega))
      obtain ⟨M4, f7, h1, h2, b8⟩ := u_wX4_put (r + 18) v4 v3 M3 h1 h2
      have g9 := Fr_tr g6 f7 (fun i k (h : i = (r + 18) + 1) => (show r ≤ i ∧ i ≤ r + 19 from by omega))
      obtain ⟨r6, M5, f10, h1, h2, b11⟩ := u_wX1_leafAt (r + 1) v4 M4 h1 h2
      have g12 := Fr_tr g9 f10 (fun i k (h : False) => h.elim)
      by_cases hc13 : r6 = x1
      · have h1 := h1.1 hc13
        have h2 := h2.1 hc13
        obtain ⟨c18, N19, f16, h1, h2, b17⟩ := u_wX3_layRing_65 r x1 x2 (v3 + (1 : Int32)) M5 h1 h2
        have hf := Fr_ts g12 f16
        exact ⟨c18, N19, hf, h1, h2, fun Q' hq => b2 _ (b5 _ (b8 _ (b11 _ ⟨fun _ => b17 _ hq, fun z => absurd hc13 z⟩)))⟩
      · have h1 := h1.2 hc13
        have h2 := h2.2 hc13
        by_cases hc20 : (v3 + (1 : Int32)) < (M5 r 1)
        · have h1 := h1.1 hc20
          have h2 := h2.1 hc20
          obtain ⟨c25, N26, f23, h1, h2, b24⟩ := ih m (v3 + (1 : Int32)) r6 M5 h1 h2
          have hf := Fr_ts g12 f23
          exact ⟨c25, N26, hf, h1, h2, fun Q' hq => b2 _ (b5 _ (b8 _ (b11 _ ⟨fun z => absurd z hc13, fun _ => ⟨fun _ => b24 _ hq, fun z => absurd hc20 z⟩⟩)))⟩
        · have h1 := h1.2 hc20
          have h2 := h2.2 hc20
          obtain ⟨c31, N32, f29, h1, h2, b30⟩ := u_wX3_layRing_65 r x1 x2 (v3 + (1 : Int32)) M5 h1 h2
          have hf := Fr_ts g12 f29
          exact ⟨c31, N32, hf, h1, h2, fun Q' hq => b2 _ (b5 _ (b8 _ (b11 _ ⟨fun z => absurd z hc13, fun _ => ⟨fun z => absurd z hc20, fun _ => b30 _ hq⟩⟩)))⟩
set_option maxHeartbeats 4000000 in
theorem u_wX3_layRing (r : Nat) (x1 : Int32) (x2 : Int32) {Qa Qb : Int32 → Mem → Prop} (M : Mem) (h1 : wX3_layRing r x1 x2 M Qa) (h2 : wX3_layRing r x1 x2 M Qb) : (∃ (a0 : Int32) (M' : Mem), Fr (fun i k => r ≤ i ∧ i ≤ r + 19) M M' ∧ Qa a0 M' ∧ Qb a0 M' ∧ ∀ (Q' : Int32 → Mem → Prop), Q' a0 M' → wX3_layRing r x1 x2 M Q') := by
  have h1 : (∃ n1, wX3_layRing_5 r x1 x2 Qa n1 (0 : Int32) x1 M) := h1
  have h2 : (∃ n1, wX3_layRing_5 r x1 x2 Qb n1 (0 : Int32) x1 M) := h2
  obtain ⟨n1_a, h1⟩ := h1
  obtain ⟨n1_b, h2⟩ := h2
  obtain ⟨c5, N6, f3, h1, h2, b4⟩ := u_wX3_layRing_5 r x1 x2 n1_a n1_b (0 : Int32) x1 M h1 h2
  have hf := Fr_ts (Fr_refl (fun i k => r ≤ i ∧ i ≤ r + 19) M) f3
  exact ⟨c5, N6, hf, h1, h2, fun Q' hq => ⟨n1_a, b4 _ hq⟩⟩
set_option maxHeartbeats 4000000 in
theorem u_wX3_layRings_40 (r : Nat) {k_12a k_12b : Int32 → Int32 → Mem → Prop} {Qa Qb : Mem → Prop} (v1 : Int32) (v2 : Int32) (M : Mem) (h1 : wX3_layRings_40 r k_12a Qa v1 v2 M) (h2 : wX3_layRings_40 r k_12b Qb v1 v2 M) : (∃ (M' : Mem), Fr (fun i k => r ≤ i ∧ i ≤ r + 19) M M' ∧ Qa M' ∧ Qb M' ∧ ∀ (k'0 : Int32 → Int32 → Mem → Prop) (Q' : Mem → Prop), Q' M' → wX3_layRings_40 r k'0 Q' v1 v2 M) ∨ (∃ (a0 : Int32) (a1 : Int32) (M' : Mem), Fr (fun i k => r ≤ i ∧ i ≤ r + 19) M M' ∧ k_12a a0 a1 M' ∧ k_12b a0 a1 M' ∧ ∀ (k'0 : Int32 → Int32 → Mem → Prop) (Q' : Mem → Prop), k'0 a0 a1 M' → wX3_layRings_40 r k'0 Q' v1 v2 M) := by
  have h1 : k_12a v1 (v2 + (1 : Int32)) M := h1
  have h2 : k_12b v1 (v2 + (1 : Int32)) M := h2
  exact Or.inr ⟨v1, (v2 + (1 : Int32)), M, (Fr_refl (fun i k => r ≤ i ∧ i ≤ r + 19) M), h1, h2, fun k'0 Q' hq => hq⟩
set_option maxHeartbeats 4000000 in
theorem u_wX3_layRings_12 (r : Nat) {Qa Qb : Mem → Prop} : ∀ (n1 n2 : Nat) (v1 : Int32) (v2 : Int32) (M : Mem), wX3_layRings_12 r Qa n1 v1 v2 M → wX3_layRings_12 r Qb n2 v1 v2 M → (∃ (M' : Mem), Fr (fun i k => r ≤ i ∧ i ≤ r + 19) M M' ∧ Qa M' ∧ Qb M' ∧ ∀ (Q' : Mem → Prop), Q' M' → wX3_layRings_12 r Q' n1 v1 v2 M) := by
  intro n1
  induction n1 with
  | zero => intro _ _ _ _ h1 _; exact h1.elim
  | succ n ih =>
    intro n2 v1 v2 M h1 h2
    cases n2 with
    | zero => exact h2.elim
    | succ m =>
      have h1 : (((M r 1) ≤ v2 → Qa M) ∧ (¬ (M r 1) ≤ v2 → (wX4_at (r + 16) v2 M (fun r4 M3 => ((¬ r4 = 0 → wX3_layRings_40 r (wX3_layRings_12 r Qa n) Qa v1 v2 M3) ∧ (r4 = 0 → (wX3_layRing r v2 v1 M3 (fun r6 M5 => wX3_layRings_40 r (wX3_layRings_12 r Qa n) Qa (v1 + r6) v2 M5)))))))) := h1
      have h2 : (((M r 1) ≤ v2 → Qb M) ∧ (¬ (M r 1) ≤ v2 → (wX4_at (r + 16) v2 M (fun r4 M3 => ((¬ r4 = 0 → wX3_layRings_40 r (wX3_layRings_12 r Qb m) Qb v1 v2 M3) ∧ (r4 = 0 → (wX3_layRing r v2 v1 M3 (fun r6 M5 => wX3_layRings_40 r (wX3_layRings_12 r Qb m) Qb (v1 + r6) v2 M5)))))))) := h2
      by_cases hc1 : (M r 1) ≤ v2
      · have h1 := h1.1 hc1
        have h2 := h2.1 hc1
        exact ⟨M, (Fr_refl (fun i k => r ≤ i ∧ i ≤ r + 19) M), h1, h2, fun Q' hq => ⟨fun _ => hq, fun z => absurd hc1 z⟩⟩
      · have h1 := h1.2 hc1
        have h2 := h2.2 hc1
        obtain ⟨r4, M3, f2, h1, h2, b3⟩ := u_wX4_at (r + 16) v2 M h1 h2
        have g4 := Fr_tr (Fr_refl (fun i k => r ≤ i ∧ i ≤ r + 19) M) f2 (fun i k (h : False) => h.elim)
        by_cases hc5 : r4 = 0
        · have h1 := h1.2 hc5
          have h2 := h2.2 hc5
          obtain ⟨r6, M5, f6, h1, h2, b7⟩ := u_wX3_layRing r v2 v1 M3 h1 h2
          have g8 := Fr_tr g4 f6 (fun i k (h : r ≤ i ∧ i ≤ r + 19) => (show r ≤ i ∧ i ≤ r + 19 from by omega))
          rcases u_wX3_layRings_40 r (v1 + r6) v2 M5 h1 h2 with ⟨N13, f11, h1, h2, b12⟩ | ⟨c14, c15, N16, f11, h1, h2, b12⟩
          · have hf := Fr_ts g8 f11
            exact ⟨N13, hf, h1, h2, fun Q' hq => ⟨fun z => absurd z hc1, fun _ => b3 _ ⟨fun z => absurd hc5 z, fun _ => b7 _ (b12 _ _ hq)⟩⟩⟩
          · have hf := Fr_ts g8 f11
            obtain ⟨N19, f17, h1, h2, b18⟩ := ih m c14 c15 N16 h1 h2
            have hf := Fr_ts hf f17
            exact ⟨N19, hf, h1, h2, fun Q' hq => ⟨fun z => absurd z hc1, fun _ => b3 _ ⟨fun z => absurd hc5 z, fun _ => b7 _ (b12 _ _ (b18 _ hq))⟩⟩⟩
        · have h1 := h1.1 hc5
          have h2 := h2.1 hc5
          rcases u_wX3_layRings_40 r v1 v2 M3 h1 h2 with ⟨N24, f22, h1, h2, b23⟩ | ⟨c25, c26, N27, f22, h1, h2, b23⟩
          · have hf := Fr_ts g4 f22
            exact ⟨N24, hf, h1, h2, fun Q' hq => ⟨fun z => absurd z hc1, fun _ => b3 _ ⟨fun _ => b23 _ _ hq, fun z => absurd z hc5⟩⟩⟩
          · have hf := Fr_ts g4 f22
            obtain ⟨N30, f28, h1, h2, b29⟩ := ih m c25 c26 N27 h1 h2
            have hf := Fr_ts hf f28
            exact ⟨N30, hf, h1, h2, fun Q' hq => ⟨fun z => absurd z hc1, fun _ => b3 _ ⟨fun _ => b23 _ _ (b29 _ hq), fun z => absurd z hc5⟩⟩⟩
set_option maxHeartbeats 4000000 in
theorem u_wX3_layRings (r : Nat) {Qa Qb : Mem → Prop} (M : Mem) (h1 : wX3_layRings r M Qa) (h2 : wX3_layRings r M Qb) : (∃ (M' : Mem), Fr (fun i k => r ≤ i ∧ i ≤ r + 19) M M' ∧ Qa M' ∧ Qb M' ∧ ∀ (Q' : Mem → Prop), Q' M' → wX3_layRings r M Q') := by
  have h1 : (wX4_fill (r + 16) (0 : Int32) M (fun M1 => (∃ n2, wX3_layRings_12 r Qa n2 (0 : Int32) (0 : Int32) M1))) := h1
  have h2 : (wX4_fill (r + 16) (0 : Int32) M (fun M1 => (∃ n2, wX3_layRings_12 r Qb n2 (0 : Int32) (0 : Int32) M1))) := h2
  obtain ⟨M1, f1, h1, h2, b2⟩ := u_wX4_fill (r + 16) (0 : Int32) M h1 h2
  have g3 := Fr_tr (Fr_refl (fun i k => r ≤ i ∧ i ≤ r + 19) M) f1 (fun i k (h : i = (r + 16) + 1) => (show r ≤ i ∧ i ≤ r + 19 from by omega))
  obtain ⟨n2_a, h1⟩ := h1
  obtain ⟨n2_b, h2⟩ := h2
  obtain ⟨N8, f6, h1, h2, b7⟩ := u_wX3_layRings_12 r n2_a n2_b (0 : Int32) (0 : Int32) M1 h1 h2
  have hf := Fr_ts g3 f6
  exact ⟨N8, hf, h1, h2, fun Q' hq => b2 _ ⟨n2_a, b7 _ hq⟩⟩
set_option maxHeartbeats 4000000 in
theorem u_wX3_readWithoutFirst_46 (r : Nat) (x1 : Nat) {Qa Qb : Mem → Prop} : ∀ (n1 n2 : Nat) (v2 : Int32) (M : Mem), wX3_readWithoutFirst_46 r x1 Qa n1 v2 M → wX3_readWithoutFirst_46 r x1 Qb n2 v2 M → (∃ (M' : Mem), Fr (fun i k => r ≤ i ∧ i ≤ r + 19) M M' ∧ Qa M' ∧ Qb M' ∧ ∀ (Q' : Mem → Prop), Q' M' → wX3_readWithoutFirst_46 r x1 Q' n1 v2 M) := by
  intro n1
  induction n1 with
  | zero => intro _ _ _ h1 _; exact h1.elim
  | succ n ih =>
    intro n2 v2 M h1 h2
    cases n2 with
    | zero => exact h2.elim
    | succ m =>
      have h1 : (((M r 1) ≤ v2 → Qa M) ∧ (¬ (M r 1) ≤ v2 → (wX1_leafAt (r + 1) v2 M (fun r7 M6 => (wX4_put (r + 10) v2 r7 M6 (fun M8 => wX3_readWithoutFirst_46 r x1 Qa n (v2 + (1 : Int32)) M8)))))) := h1
      have h2 : (((M r 1) ≤ v2 → Qb M) ∧ (¬ (M r 1) ≤ v2 → (wX1_leafAt (r + 1) v2 M (fun r7 M6 => (wX4_put (r + 10) v2 r7 M6 (fun M8 => wX3_readWithoutFirst_46 r x1 Qb m (v2 + (1 : Int32)) M8)))))) := h2
      by_cases hc1 : (M r 1) ≤ v2
      · have h1 := h1.1 hc1
        have h2 := h2.1 hc1
        exact ⟨M, (Fr_refl (fun i k => r ≤ i ∧ i ≤ r + 19) M), h1, h2, fun Q' hq => ⟨fun _ => hq, fun z => absurd hc1 z⟩⟩
      · have h1 := h1.2 hc1
        have h2 := h2.2 hc1
        obtain ⟨r7, M6, f2, h1, h2, b3⟩ := u_wX1_leafAt (r + 1) v2 M h1 h2
        have g4 := Fr_tr (Fr_refl (fun i k => r ≤ i ∧ i ≤ r + 19) M) f2 (fun i k (h : False) => h.elim)
        obtain ⟨M8, f5, h1, h2, b6⟩ := u_wX4_put (r + 10) v2 r7 M6 h1 h2
        have g7 := Fr_tr g4 f5 (fun i k (h : i = (r + 10) + 1) => (show r ≤ i ∧ i ≤ r + 19 from by omega))
        obtain ⟨N12, f10, h1, h2, b11⟩ := ih m (v2 + (1 : Int32)) M8 h1 h2
        have hf := Fr_ts g7 f10
        exact ⟨N12, hf, h1, h2, fun Q' hq => ⟨fun z => absurd z hc1, fun _ => b3 _ (b6 _ (b11 _ hq))⟩⟩
set_option maxHeartbeats 4000000 in
theorem u_wX3_readWithoutFirst_13 (r : Nat) (x1 : Nat) {Qa Qb : Mem → Prop} : ∀ (n1 n2 : Nat) (v2 : Int32) (M : Mem), wX3_readWithoutFirst_13 r x1 Qa n1 v2 M → wX3_readWithoutFirst_13 r x1 Qb n2 v2 M → (∃ (M' : Mem), Fr (fun i k => r ≤ i ∧ i ≤ r + 19) M M' ∧ Qa M' ∧ Qb M' ∧ ∀ (Q' : Mem → Prop), Q' M' → wX3_readWithoutFirst_13 r x1 Q' n1 v2 M) := by
  intro n1
  induction n1 with
  | zero => intro _ _ _ h1 _; exact h1.elim
  | succ n ih =>
    intro n2 v2 M h1 h2
    cases n2 with
    | zero => exact h2.elim
    | succ m =>
      have h1 : (((M x1 1) ≤ v2 → (∃ n3, wX3_readWithoutFirst_46 r x1 Qa n3 (0 : Int32) M)) ∧ (¬ (M x1 1) ≤ v2 → (wX1_readTop (r + 1) (M x1 2) (M x1 3) v2 M (fun r5 M4 => wX3_readWithoutFirst_13 r x1 Qa n (v2 + (1 : Int32)) M4)))) := h1
      have h2 : (((M x1 1) ≤ v2 → (∃ n3, wX3_readWithoutFirst_46 r x1 Qb n3 (0 : Int32) M)) ∧ (¬ (M x1 1) ≤ v2 → (wX1_readTop (r + 1) (M x1 2) (M x1 3) v2 M (fun r5 M4 => wX3_readWithoutFirst_13 r x1 Qb m (v2 + (1 : Int32)) M4)))) := h2
      by_cases hc1 : (M x1 1) ≤ v2
      · have h1 := h1.1 hc1
        have h2 := h2.1 hc1
        obtain ⟨n3_a, h1⟩ := h1
        obtain ⟨n3_b, h2⟩ := h2
        obtain ⟨N6, f4, h1, h2, b5⟩ := u_wX3_readWithoutFirst_46 r x1 n3_a n3_b (0 : Int32) M h1 h2
        have hf := Fr_ts (Fr_refl (fun i k => r ≤ i ∧ i ≤ r + 19) M) f4
        exact ⟨N6, hf, h1, h2, fun Q' hq => ⟨fun _ => ⟨n3_a, b5 _ hq⟩, fun z => absurd hc1 z⟩⟩
      · have h1 := h1.2 hc1
        have h2 := h2.2 hc1
        obtain ⟨r5, M4, f7, h1, h2, b8⟩ := u_wX1_readTop (r + 1) (M x1 2) (M x1 3) v2 M h1 h2
        have g9 := Fr_tr (Fr_refl (fun i k => r ≤ i ∧ i ≤ r + 19) M) f7 (fun i k (h : (r + 1) ≤ i ∧ i ≤ (r + 1) + 4) => (show r ≤ i ∧ i ≤ r + 19 from by omega))
        obtain ⟨N14, f12, h1, h2, b13⟩ := ih m (v2 + (1 : Int32)) M4 h1 h2
        have hf := Fr_ts g9 f12
        exact ⟨N14, hf, h1, h2, fun Q' hq => ⟨fun z => absurd z hc1, fun _ => b8 _ (b13 _ hq)⟩⟩
set_option maxHeartbeats 4000000 in
theorem u_wX3_readWithoutFirst (r : Nat) (x1 : Nat) {Qa Qb : Mem → Prop} (M : Mem) (h1 : wX3_readWithoutFirst r x1 M Qa) (h2 : wX3_readWithoutFirst r x1 M Qb) : (∃ (M' : Mem), Fr (fun i k => r ≤ i ∧ i ≤ r + 19) M M' ∧ Qa M' ∧ Qb M' ∧ ∀ (Q' : Mem → Prop), Q' M' → wX3_readWithoutFirst r x1 M Q') := by
  have h1 : (wX1_number (r + 1) (M r 1) M (fun M1 => (∃ n2, wX3_readWithoutFirst_13 r x1 Qa n2 (1 : Int32) M1))) := h1
  have h2 : (wX1_number (r + 1) (M r 1) M (fun M1 => (∃ n2, wX3_readWithoutFirst_13 r x1 Qb n2 (1 : Int32) M1))) := h2
  obtain ⟨M1, f1, h1, h2, b2⟩ := u_wX1_number (r + 1) (M r 1) M h1 h2
  have g3 := Fr_tr (Fr_refl (fun i k => r ≤ i ∧ i ≤ r + 19) M) f1 (fun i k (h : (r + 1) ≤ i ∧ i ≤ (r + 1) + 4) => (show r ≤ i ∧ i ≤ r + 19 from by omega))
  obtain ⟨n2_a, h1⟩ := h1
  obtain ⟨n2_b, h2⟩ := h2
  obtain ⟨N8, f6, h1, h2, b7⟩ := u_wX3_readWithoutFirst_13 r x1 n2_a n2_b (1 : Int32) M1 h1 h2
  have hf := Fr_ts g3 f6
  exact ⟨N8, hf, h1, h2, fun Q' hq => b2 _ ⟨n2_a, b7 _ hq⟩⟩
set_option maxHeartbeats 4000000 in
theorem u_wX3_follow (r : Nat) (x1 : Nat) {Qa Qb : Mem → Prop} (M : Mem) (h1 : wX3_follow r x1 M Qa) (h2 : wX3_follow r x1 M Qb) : (∃ (M' : Mem), Fr (fun i k => r ≤ i ∧ i ≤ r + 19) M M' ∧ Qa M' ∧ Qb M' ∧ ∀ (Q' : Mem → Prop), Q' M' → wX3_follow r x1 M Q') := by
  have h1 : (wX3_readOneReader r x1 (mu M r 1 (M x1 0)) (fun M1 => (wX3_layRings r M1 (fun M2 => (wX3_readWithoutFirst r x1 M2 (fun M3 => Qa M3)))))) := h1
  have h2 : (wX3_readOneReader r x1 (mu M r 1 (M x1 0)) (fun M1 => (wX3_layRings r M1 (fun M2 => (wX3_readWithoutFirst r x1 M2 (fun M3 => Qb M3)))))) := h2
  obtain ⟨M1, f1, h1, h2, b2⟩ := u_wX3_readOneReader r x1 (mu M r 1 (M x1 0)) h1 h2
  have g3 := Fr_tr (Fr_mu (Fr_refl (fun i k => r ≤ i ∧ i ≤ r + 19) M) (show r ≤ r ∧ r ≤ r + 19 from by omega)) f1 (fun i k (h : r ≤ i ∧ i ≤ r + 19) => (show r ≤ i ∧ i ≤ r + 19 from by omega))
  obtain ⟨M2, f4, h1, h2, b5⟩ := u_wX3_layRings r M1 h1 h2
  have g6 := Fr_tr g3 f4 (fun i k (h : r ≤ i ∧ i ≤ r + 19) => (show r ≤ i ∧ i ≤ r + 19 from by omega))
  obtain ⟨M3, f7, h1, h2, b8⟩ := u_wX3_readWithoutFirst r x1 M2 h1 h2
  have g9 := Fr_tr g6 f7 (fun i k (h : r ≤ i ∧ i ≤ r + 19) => (show r ≤ i ∧ i ≤ r + 19 from by omega))
  exact ⟨M3, g9, h1, h2, fun Q' hq => b2 _ (b5 _ (b8 _ hq))⟩
set_option maxHeartbeats 4000000 in
theorem u_wX3_placeInRing (r : Nat) (x1 : Int32) (x2 : Int64) {Qa Qb : Int32 → Mem → Prop} (M : Mem) (h1 : wX3_placeInRing r x1 x2 M Qa) (h2 : wX3_placeInRing r x1 x2 M Qb) : (∃ (a0 : Int32) (M' : Mem), Fr (fun i k => False) M M' ∧ Qa a0 M' ∧ Qb a0 M' ∧ ∀ (Q' : Int32 → Mem → Prop), Q' a0 M' → wX3_placeInRing r x1 x2 M Q') := by
  have h1 : (wX4_at (r + 16) x1 M (fun r2 M1 => ((0 < r2 → (wX4_at (r + 18) x1 M1 (fun r4 M3 => (wJ9_floorMod_f86c9 (r4.toInt64 + x2) r2.toInt64 M3 (fun r6 M5 => (wX4_at (r + 14) x1 M5 (fun r8 M7 => (wX4_at (r + 12) (r8 + r6.toInt32) M7 (fun r10 M9 => Qa r10 M9))))))))) ∧ (¬ 0 < r2 → Qa x1 M1)))) := h1
  have h2 : (wX4_at (r + 16) x1 M (fun r2 M1 => ((0 < r2 → (wX4_at (r + 18) x1 M1 (fun r4 M3 => (wJ9_floorMod_f86c9 (r4.toInt64 + x2) r2.toInt64 M3 (fun r6 M5 => (wX4_at (r + 14) x1 M5 (fun r8 M7 => (wX4_at (r + 12) (r8 + r6.toInt32) M7 (fun r10 M9 => Qb r10 M9))))))))) ∧ (¬ 0 < r2 → Qb x1 M1)))) := h2
  obtain ⟨r2, M1, f1, h1, h2, b2⟩ := u_wX4_at (r + 16) x1 M h1 h2
  have g3 := Fr_tr (Fr_refl (fun i k => False) M) f1 (fun i k (h : False) => h.elim)
  by_cases hc4 : 0 < r2
  · have h1 := h1.1 hc4
    have h2 := h2.1 hc4
    obtain ⟨r4, M3, f5, h1, h2, b6⟩ := u_wX4_at (r + 18) x1 M1 h1 h2
    have g7 := Fr_tr g3 f5 (fun i k (h : False) => h.elim)
    obtain ⟨r6, M5, f8, h1, h2, b9⟩ := u_wJ9_floorMod_f86c9 (r4.toInt64 + x2) r2.toInt64 M3 h1 h2
    have g10 := Fr_tr g7 f8 (fun i k (h : False) => h.elim)
    obtain ⟨r8, M7, f11, h1, h2, b12⟩ := u_wX4_at (r + 14) x1 M5 h1 h2
    have g13 := Fr_tr g10 f11 (fun i k (h : False) => h.elim)
    obtain ⟨r10, M9, f14, h1, h2, b15⟩ := u_wX4_at (r + 12) (r8 + r6.toInt32) M7 h1 h2
    have g16 := Fr_tr g13 f14 (fun i k (h : False) => h.elim)
    exact ⟨r10, M9, g16, h1, h2, fun Q' hq => b2 _ ⟨fun _ => b6 _ (b9 _ (b12 _ (b15 _ hq))), fun z => absurd hc4 z⟩⟩
  · have h1 := h1.2 hc4
    have h2 := h2.2 hc4
    exact ⟨x1, M1, g3, h1, h2, fun Q' hq => b2 _ ⟨fun z => absurd z hc4, fun _ => hq⟩⟩
set_option maxHeartbeats 4000000 in
theorem u_wX3_placeRead (r : Nat) (x1 : Int64) (x3 : Int32) {Qa Qb : Int32 → Mem → Prop} (M : Mem) (h1 : wX3_placeRead r x1 x3 M Qa) (h2 : wX3_placeRead r x1 x3 M Qb) : (∃ (a0 : Int32) (M' : Mem), Fr (fun i k => False) M M' ∧ Qa a0 M' ∧ Qb a0 M' ∧ ∀ (Q' : Int32 → Mem → Prop), Q' a0 M' → wX3_placeRead r x1 x3 M Q') := by
  have h1 : (wX4_at (r + 6) x3 M (fun r2 M1 => (wX3_placeInRing r r2 x1 M1 (fun r4 M3 => Qa r4 M3)))) := h1
  have h2 : (wX4_at (r + 6) x3 M (fun r2 M1 => (wX3_placeInRing r r2 x1 M1 (fun r4 M3 => Qb r4 M3)))) := h2
  obtain ⟨r2, M1, f1, h1, h2, b2⟩ := u_wX4_at (r + 6) x3 M h1 h2
  have g3 := Fr_tr (Fr_refl (fun i k => False) M) f1 (fun i k (h : False) => h.elim)
  obtain ⟨r4, M3, f4, h1, h2, b5⟩ := u_wX3_placeInRing r r2 x1 M1 h1 h2
  have g6 := Fr_tr g3 f4 (fun i k (h : False) => h.elim)
  exact ⟨r4, M3, g6, h1, h2, fun Q' hq => b2 _ (b5 _ hq)⟩
set_option maxHeartbeats 4000000 in
theorem u_wX3_placeFoundBy (r : Nat) (x1 : Int64) (x3 : Int32) {Qa Qb : Int32 → Mem → Prop} (M : Mem) (h1 : wX3_placeFoundBy r x1 x3 M Qa) (h2 : wX3_placeFoundBy r x1 x3 M Qb) : (∃ (a0 : Int32) (M' : Mem), Fr (fun i k => False) M M' ∧ Qa a0 M' ∧ Qb a0 M' ∧ ∀ (Q' : Int32 → Mem → Prop), Q' a0 M' → wX3_placeFoundBy r x1 x3 M Q') := by
  have h1 : (wX3_placeInRing r x3 (-x1) M (fun r2 M1 => Qa r2 M1)) := h1
  have h2 : (wX3_placeInRing r x3 (-x1) M (fun r2 M1 => Qb r2 M1)) := h2
  obtain ⟨r2, M1, f1, h1, h2, b2⟩ := u_wX3_placeInRing r x3 (-x1) M h1 h2
  have g3 := Fr_tr (Fr_refl (fun i k => False) M) f1 (fun i k (h : False) => h.elim)
  exact ⟨r2, M1, g3, h1, h2, fun Q' hq => b2 _ hq⟩
set_option maxHeartbeats 4000000 in
theorem u_wX3_placeAfterFirstReading (r : Nat) (x1 : Int64) (x3 : Int32) {Qa Qb : Int32 → Mem → Prop} (M : Mem) (h1 : wX3_placeAfterFirstReading r x1 x3 M Qa) (h2 : wX3_placeAfterFirstReading r x1 x3 M Qb) : (∃ (a0 : Int32) (M' : Mem), Fr (fun i k => False) M M' ∧ Qa a0 M' ∧ Qb a0 M' ∧ ∀ (Q' : Int32 → Mem → Prop), Q' a0 M' → wX3_placeAfterFirstReading r x1 x3 M Q') := by
  have h1 : (wX4_at (r + 6) x3 M (fun r2 M1 => (wX3_placeInRing r r2 (x1 - (1 : Int64)) M1 (fun r4 M3 => (wX4_at (r + 10) r4 M3 (fun r6 M5 => Qa r6 M5)))))) := h1
  have h2 : (wX4_at (r + 6) x3 M (fun r2 M1 => (wX3_placeInRing r r2 (x1 - (1 : Int64)) M1 (fun r4 M3 => (wX4_at (r + 10) r4 M3 (fun r6 M5 => Qb r6 M5)))))) := h2
  obtain ⟨r2, M1, f1, h1, h2, b2⟩ := u_wX4_at (r + 6) x3 M h1 h2
  have g3 := Fr_tr (Fr_refl (fun i k => False) M) f1 (fun i k (h : False) => h.elim)
  obtain ⟨r4, M3, f4, h1, h2, b5⟩ := u_wX3_placeInRing r r2 (x1 - (1 : Int64)) M1 h1 h2
  have g6 := Fr_tr g3 f4 (fun i k (h : False) => h.elim)
  obtain ⟨r6, M5, f7, h1, h2, b8⟩ := u_wX4_at (r + 10) r4 M3 h1 h2
  have g9 := Fr_tr g6 f7 (fun i k (h : False) => h.elim)
  exact ⟨r6, M5, g9, h1, h2, fun Q' hq => b2 _ (b5 _ (b8 _ hq))⟩
set_option maxHeartbeats 4000000 in
theorem u_wX3_turnAt (r : Nat) (x1 : Int32) {Qa Qb : Int32 → Mem → Prop} (M : Mem) (h1 : wX3_turnAt r x1 M Qa) (h2 : wX3_turnAt r x1 M Qb) : (∃ (a0 : Int32) (M' : Mem), Fr (fun i k => False) M M' ∧ Qa a0 M' ∧ Qb a0 M' ∧ ∀ (Q' : Int32 → Mem → Prop), Q' a0 M' → wX3_turnAt r x1 M Q') := by
  have h1 : (wX4_at (r + 8) x1 M (fun r2 M1 => Qa r2 M1)) := h1
  have h2 : (wX4_at (r + 8) x1 M (fun r2 M1 => Qb r2 M1)) := h2
  obtain ⟨r2, M1, f1, h1, h2, b2⟩ := u_wX4_at (r + 8) x1 M h1 h2
  have g3 := Fr_tr (Fr_refl (fun i k => False) M) f1 (fun i k (h : False) => h.elim)
  exact ⟨r2, M1, g3, h1, h2, fun Q' hq => b2 _ hq⟩
set_option maxHeartbeats 4000000 in
theorem u_wX3_readInRing_45 (r : Nat) (x1 : Int32) {k_4a k_4b : Int32 → Int32 → Mem → Prop} {Qa Qb : Int32 → Mem → Prop} (v2 : Int32) (v3 : Int32) (M : Mem) (h1 : wX3_readInRing_45 r x1 k_4a Qa v2 v3 M) (h2 : wX3_readInRing_45 r x1 k_4b Qb v2 v3 M) : (∃ (a0 : Int32) (M' : Mem), Fr (fun i k => False) M M' ∧ Qa a0 M' ∧ Qb a0 M' ∧ ∀ (k'0 : Int32 → Int32 → Mem → Prop) (Q' : Int32 → Mem → Prop), Q' a0 M' → wX3_readInRing_45 r x1 k'0 Q' v2 v3 M) ∨ (∃ (a0 : Int32) (a1 : Int32) (M' : Mem), Fr (fun i k => False) M M' ∧ k_4a a0 a1 M' ∧ k_4b a0 a1 M' ∧ ∀ (k'0 : Int32 → Int32 → Mem → Prop) (Q' : Int32 → Mem → Prop), k'0 a0 a1 M' → wX3_readInRing_45 r x1 k'0 Q' v2 v3 M) := by
  have h1 : k_4a v2 (v3 + (1 : Int32)) M := h1
  have h2 : k_4b v2 (v3 + (1 : Int32)) M := h2
  exact Or.inr ⟨v2, (v3 + (1 : Int32)), M, (Fr_refl (fun i k => False) M), h1, h2, fun k'0 Q' hq => hq⟩
set_option maxHeartbeats 4000000 in
theorem u_wX3_readInRing_4 (r : Nat) (x1 : Int32) {Qa Qb : Int32 → Mem → Prop} : ∀ (n1 n2 : Nat) (v2 : Int32) (v3 : Int32) (M : Mem), wX3_readInRing_4 r x1 Qa n1 v2 v3 M → wX3_readInRing_4 r x1 Qb n2 v2 v3 M → (∃ (a0 : Int32) (M' : Mem), Fr (fun i k => False) M M' ∧ Qa a0 M' ∧ Qb a0 M' ∧ ∀ (Q' : Int32 → Mem → Prop), Q' a0 M' → wX3_readInRing_4 r x1 Q' n1 v2 v3 M) := by
  intro n1
  induction n1 with
  | zero => intro _ _ _ _ h1 _; exact h1.elim
  | succ n ih =>
    intro n2 v2 v3 M h1 h2
    cases n2 with
    | zero => exact h2.elim
    | succ m =>
      have h1 : (wX4_at (r + 16) x1 M (fun r3 M2 => ((r3 ≤ v3 → Qa v2 M2) ∧ (¬ r3 ≤ v3 → (wX4_at (r + 14) x1 M2 (fun r5 M4 => (wX4_at (r + 12) (r5 + v3) M4 (fun r7 M6 => (wX3_turnAt r r7 M6 (fun r9 M8 => ((r9 = (-4 : Int32) → wX3_readInRing_45 r x1 (wX3_readInRing_4 r x1 Qa n) Qa v2 v3 M8) ∧ (¬ r9 = (-4 : Int32) → wX3_readInRing_45 r x1 (wX3_readInRing_4 r x1 Qa n) Qa (v2 + (1 : Int32)) v3 M8)))))))))))) := h1
      have h2 : (wX4_at (r + 16) x1 M (fun r3 M2 => ((r3 ≤ v3 → Qb v2 M2) ∧ (¬ r3 ≤ v3 → (wX4_at (r + 14) x1 M2 (fun r5 M4 => (wX4_at (r + 12) (r5 + v3) M4 (fun r7 M6 => (wX3_turnAt r r7 M6 (fun r9 M8 => ((r9 = (-4 : Int32) → wX3_readInRing_45 r x1 (wX3_readInRing_4 r x1 Qb m) Qb v2 v3 M8) ∧ (¬ r9 = (-4 : Int32) → wX3_readInRing_45 r x1 (wX3_readInRing_4 r x1 Qb m) Qb (v2 + (1 : Int32)) v3 M8)))))))))))) := h2
      obtain ⟨r3, M2, f1, h1, h2, b2⟩ := u_wX4_at (r + 16) x1 M h1 h2
      have g3 := Fr_tr (Fr_refl (fun i k => False) M) f1 (fun i k (h : False) => h.elim)
      by_cases hc4 : r3 ≤ v3
      · have h1 := h1.1 hc4
        have h2 := h2.1 hc4
        exact ⟨v2, M2, g3, h1, h2, fun Q' hq => b2 _ ⟨fun _ => hq, fun z => absurd hc4 z⟩⟩
      · have h1 := h1.2 hc4
        have h2 := h2.2 hc4
        obtain ⟨r5, M4, f5, h1, h2, b6⟩ := u_wX4_at (r + 14) x1 M2 h1 h2
        have g7 := Fr_tr g3 f5 (fun i k (h : False) => h.elim)
        obtain ⟨r7, M6, f8, h1, h2, b9⟩ := u_wX4_at (r + 12) (r5 + v3) M4 h1 h2
        have g10 := Fr_tr g7 f8 (fun i k (h : False) => h.elim)
        obtain ⟨r9, M8, f11, h1, h2, b12⟩ := u_wX3_turnAt r r7 M6 h1 h2
        have g13 := Fr_tr g10 f11 (fun i k (h : False) => h.elim)
        by_cases hc14 : r9 = (-4 : Int32)
        · have h1 := h1.1 hc14
          have h2 := h2.1 hc14
          rcases u_wX3_readInRing_45 r x1 v2 v3 M8 h1 h2 with ⟨c19, N20, f17, h1, h2, b18⟩ | ⟨c21, c22, N23, f17, h1, h2, b18⟩
          · have hf := Fr_ts g13 f17
            exact ⟨c19, N20, hf, h1, h2, fun Q' hq => b2 _ ⟨fun z => absurd z hc4, fun _ => b6 _ (b9 _ (b12 _ ⟨fun _ => b18 _ _ hq, fun z => absurd hc14 z⟩))⟩⟩
          · have hf := Fr_ts g13 f17
            obtain ⟨c26, N27, f24, h1, h2, b25⟩ := ih m c21 c22 N23 h1 h2
            have hf := Fr_ts hf f24
            exact ⟨c26, N27, hf, h1, h2, fun Q' hq => b2 _ ⟨fun z => absurd z hc4, fun _ => b6 _ (b9 _ (b12 _ ⟨fun _ => b18 _ _ (b25 _ hq), fun z => absurd hc14 z⟩))⟩⟩
        · have h1 := h1.2 hc14
          have h2 := h2.2 hc14
          rcases u_wX3_readInRing_45 r x1 (v2 + (1 : Int32)) v3 M8 h1 h2 with ⟨c32, N33, f30, h1, h2, b31⟩ | ⟨c34, c35, N36, f30, h1, h2, b31⟩
          · have hf := Fr_ts g13 f30
            exact ⟨c32, N33, hf, h1, h2, fun Q' hq => b2 _ ⟨fun z => absurd z hc4, fun _ => b6 _ (b9 _ (b12 _ ⟨fun z => absurd z hc14, fun _ => b31 _ _ hq⟩))⟩⟩
          · have hf := Fr_ts g13 f30
            obtain ⟨c39, N40, f37, h1, h2, b38⟩ := ih m c34 c35 N36 h1 h2
            have hf := Fr_ts hf f37
            exact ⟨c39, N40, hf, h1, h2, fun Q' hq => b2 _ ⟨fun z => absurd z hc4, fun _ => b6 _ (b9 _ (b12 _ ⟨fun z => absurd z hc14, fun _ => b31 _ _ (b38 _ hq)⟩))⟩⟩
set_option maxHeartbeats 4000000 in
theorem u_wX3_readInRing (r : Nat) (x1 : Int32) {Qa Qb : Int32 → Mem → Prop} (M : Mem) (h1 : wX3_readInRing r x1 M Qa) (h2 : wX3_readInRing r x1 M Qb) : (∃ (a0 : Int32) (M' : Mem), Fr (fun i k => False) M M' ∧ Qa a0 M' ∧ Qb a0 M' ∧ ∀ (Q' : Int32 → Mem → Prop), Q' a0 M' → wX3_readInRing r x1 M Q') := by
  have h1 : (∃ n1, wX3_readInRing_4 r x1 Qa n1 (0 : Int32) (0 : Int32) M) := h1
  have h2 : (∃ n1, wX3_readInRing_4 r x1 Qb n1 (0 : Int32) (0 : Int32) M) := h2
  obtain ⟨n1_a, h1⟩ := h1
  obtain ⟨n1_b, h2⟩ := h2
  obtain ⟨c5, N6, f3, h1, h2, b4⟩ := u_wX3_readInRing_4 r x1 n1_a n1_b (0 : Int32) (0 : Int32) M h1 h2
  have hf := Fr_ts (Fr_refl (fun i k => False) M) f3
  exact ⟨c5, N6, hf, h1, h2, fun Q' hq => ⟨n1_a, b4 _ hq⟩⟩
set_option maxHeartbeats 4000000 in
theorem u_wX3_isNeverRead_13 (r : Nat) (x1 : Int32) {Qa Qb : Int32 → Mem → Prop} (s0 : Int32) (M : Mem) (h1 : wX3_isNeverRead_13 r x1 Qa s0 M) (h2 : wX3_isNeverRead_13 r x1 Qb s0 M) : (∃ (a0 : Int32) (M' : Mem), Fr (fun i k => False) M M' ∧ Qa a0 M' ∧ Qb a0 M' ∧ ∀ (Q' : Int32 → Mem → Prop), Q' a0 M' → wX3_isNeverRead_13 r x1 Q' s0 M) := by
  have h1 : ((s0 = 0 ∨ s0 = 1) ∧ Qa s0 M) := h1
  have h2 : ((s0 = 0 ∨ s0 = 1) ∧ Qb s0 M) := h2
  have s1 := h1.1
  have h1 := h1.2
  have h2 := h2.2
  exact ⟨s0, M, (Fr_refl (fun i k => False) M), h1, h2, fun Q' hq => ⟨s1, hq⟩⟩
set_option maxHeartbeats 4000000 in
theorem u_wX3_isNeverRead (r : Nat) (x1 : Int32) {Qa Qb : Int32 → Mem → Prop} (M : Mem) (h1 : wX3_isNeverRead r x1 M Qa) (h2 : wX3_isNeverRead r x1 M Qb) : (∃ (a0 : Int32) (M' : Mem), Fr (fun i k => False) M M' ∧ Qa a0 M' ∧ Qb a0 M' ∧ ∀ (Q' : Int32 → Mem → Prop), Q' a0 M' → wX3_isNeverRead r x1 M Q') := by
  have h1 : (wX3_readInRing r x1 M (fun r2 M1 => ((¬ r2 = 0 → wX3_isNeverRead_13 r x1 Qa (0 : Int32) M1) ∧ (r2 = 0 → wX3_isNeverRead_13 r x1 Qa (1 : Int32) M1)))) := h1
  have h2 : (wX3_readInRing r x1 M (fun r2 M1 => ((¬ r2 = 0 → wX3_isNeverRead_13 r x1 Qb (0 : Int32) M1) ∧ (r2 = 0 → wX3_isNeverRead_13 r x1 Qb (1 : Int32) M1)))) := h2
  obtain ⟨r2, M1, f1, h1, h2, b2⟩ := u_wX3_readInRing r x1 M h1 h2
  have g3 := Fr_tr (Fr_refl (fun i k => False) M) f1 (fun i k (h : False) => h.elim)
  by_cases hc4 : r2 = 0
  · have h1 := h1.2 hc4
    have h2 := h2.2 hc4
    obtain ⟨c9, N10, f7, h1, h2, b8⟩ := u_wX3_isNeverRead_13 r x1 (1 : Int32) M1 h1 h2
    have hf := Fr_ts g3 f7
    exact ⟨c9, N10, hf, h1, h2, fun Q' hq => b2 _ ⟨fun z => absurd hc4 z, fun _ => b8 _ hq⟩⟩
  · have h1 := h1.1 hc4
    have h2 := h2.1 hc4
    obtain ⟨c15, N16, f13, h1, h2, b14⟩ := u_wX3_isNeverRead_13 r x1 (0 : Int32) M1 h1 h2
    have hf := Fr_ts g3 f13
    exact ⟨c15, N16, hf, h1, h2, fun Q' hq => b2 _ ⟨fun _ => b14 _ hq, fun z => absurd z hc4⟩⟩
set_option maxHeartbeats 4000000 in
theorem u_wX3_isAlwaysRead_21 (r : Nat) (x1 : Int32) {Qa Qb : Int32 → Mem → Prop} (s0 : Int32) (M : Mem) (h1 : wX3_isAlwaysRead_21 r x1 Qa s0 M) (h2 : wX3_isAlwaysRead_21 r x1 Qb s0 M) : (∃ (a0 : Int32) (M' : Mem), Fr (fun i k => False) M M' ∧ Qa a0 M' ∧ Qb a0 M' ∧ ∀ (Q' : Int32 → Mem → Prop), Q' a0 M' → wX3_isAlwaysRead_21 r x1 Q' s0 M) := by
  have h1 : ((s0 = 0 ∨ s0 = 1) ∧ Qa s0 M) := h1
  have h2 : ((s0 = 0 ∨ s0 = 1) ∧ Qb s0 M) := h2
  have s1 := h1.1
  have h1 := h1.2
  have h2 := h2.2
  exact ⟨s0, M, (Fr_refl (fun i k => False) M), h1, h2, fun Q' hq => ⟨s1, hq⟩⟩
set_option maxHeartbeats 4000000 in
theorem u_wX3_isAlwaysRead (r : Nat) (x1 : Int32) {Qa Qb : Int32 → Mem → Prop} (M : Mem) (h1 : wX3_isAlwaysRead r x1 M Qa) (h2 : wX3_isAlwaysRead r x1 M Qb) : (∃ (a0 : Int32) (M' : Mem), Fr (fun i k => False) M M' ∧ Qa a0 M' ∧ Qb a0 M' ∧ ∀ (Q' : Int32 → Mem → Prop), Q' a0 M' → wX3_isAlwaysRead r x1 M Q') := by
  have h1 : (wX3_readInRing r x1 M (fun r2 M1 => (wX4_at (r + 16) x1 M1 (fun r4 M3 => ((¬ r2 = r4 → wX3_isAlwaysRead_21 r x1 Qa (0 : Int32) M3) ∧ (r2 = r4 → wX3_isAlwaysRead_21 r x1 Qa (1 : Int32) M3)))))) := h1
  have h2 : (wX3_readInRing r x1 M (fun r2 M1 => (wX4_at (r + 16) x1 M1 (fun r4 M3 => ((¬ r2 = r4 → wX3_isAlwaysRead_21 r x1 Qb (0 : Int32) M3) ∧ (r2 = r4 → wX3_isAlwaysRead_21 r x1 Qb (1 : Int32) M3)))))) := h2
  obtain ⟨r2, M1, f1, h1, h2, b2⟩ := u_wX3_readInRing r x1 M h1 h2
  have g3 := Fr_tr (Fr_refl (fun i k => False) M) f1 (fun i k (h : False) => h.elim)
  obtain ⟨r4, M3, f4, h1, h2, b5⟩ := u_wX4_at (r + 16) x1 M1 h1 h2
  have g6 := Fr_tr g3 f4 (fun i k (h : False) => h.elim)
  by_cases hc7 : r2 = r4
  · have h1 := h1.2 hc7
    have h2 := h2.2 hc7
    obtain ⟨c12, N13, f10, h1, h2, b11⟩ := u_wX3_isAlwaysRead_21 r x1 (1 : Int32) M3 h1 h2
    have hf := Fr_ts g6 f10
    exact ⟨c12, N13, hf, h1, h2, fun Q' hq => b2 _ (b5 _ ⟨fun z => absurd hc7 z, fun _ => b11 _ hq⟩)⟩
  · have h1 := h1.1 hc7
    have h2 := h2.1 hc7
    obtain ⟨c18, N19, f16, h1, h2, b17⟩ := u_wX3_isAlwaysRead_21 r x1 (0 : Int32) M3 h1 h2
    have hf := Fr_ts g6 f16
    exact ⟨c18, N19, hf, h1, h2, fun Q' hq => b2 _ (b5 _ ⟨fun _ => b17 _ hq, fun z => absurd z hc7⟩)⟩
set_option maxHeartbeats 4000000 in
theorem u_wX3_commonMultiple_2 (x0 : Int32) (x1 : Int32) {Qa Qb : Int32 → Mem → Prop} : ∀ (n1 n2 : Nat) (v2 : Int32) (M : Mem), wX3_commonMultiple_2 x0 x1 Qa n1 v2 M → wX3_commonMultiple_2 x0 x1 Qb n2 v2 M → (∃ (a0 : Int32) (M' : Mem), Fr (fun i k => False) M M' ∧ Qa a0 M' ∧ Qb a0 M' ∧ ∀ (Q' : Int32 → Mem → Prop), Q' a0 M' → wX3_commonMultiple_2 x0 x1 Q' n1 v2 M) := by
  intro n1
  induction n1 with
  | zero => intro _ _ _ h1 _; exact h1.elim
  | succ n ih =>
    intro n2 v2 M h1 h2
    cases n2 with
    | zero => exact h2.elim
    | succ m =>
      have h1 : ((x1 ≤ v2 → Qa (x0 * x1) M) ∧ (¬ x1 ≤ v2 → (¬ x1 = 0 ∧ ((¬ ((x0 * v2) - ((x0 * v2) / x1) * x1) = 0 → wX3_commonMultiple_2 x0 x1 Qa n (v2 + (1 : Int32)) M) ∧ (((x0 * v2) - ((x0 * v2) / x1) * x1) = 0 → Qa (x0 * v2) M))))) := h1
      have h2 : ((x1 ≤ v2 → Qb (x0 * x1) M) ∧ (¬ x1 ≤ v2 → (¬ x1 = 0 ∧ ((¬ ((x0 * v2) - ((x0 * v2) / x1) * x1) = 0 → wX3_commonMultiple_2 x0 x1 Qb m (v2 + (1 : Int32)) M) ∧ (((x0 * v2) - ((x0 * v2) / x1) * x1) = 0 → Qb (x0 * v2) M))))) := h2
      by_cases hc1 : x1 ≤ v2
      · have h1 := h1.1 hc1
        have h2 := h2.1 hc1
        exact ⟨(x0 * x1), M, (Fr_refl (fun i k => False) M), h1, h2, fun Q' hq => ⟨fun _ => hq, fun z => absurd hc1 z⟩⟩
      · have h1 := h1.2 hc1
        have h2 := h2.2 hc1
        have s2 := h1.1
        have h1 := h1.2
        have h2 := h2.2
        by_cases hc3 : ((x0 * v2) - ((x0 * v2) / x1) * x1) = 0
        · have h1 := h1.2 hc3
          have h2 := h2.2 hc3
          exact ⟨(x0 * v2), M, (Fr_refl (fun i k => False) M), h1, h2, fun Q' hq => ⟨fun z => absurd z hc1, fun _ => ⟨s2, ⟨fun z => absurd hc3 z, fun _ => hq⟩⟩⟩⟩
        · have h1 := h1.1 hc3
          have h2 := h2.1 hc3
          obtain ⟨c8, N9, f6, h1, h2, b7⟩ := ih m (v2 + (1 : Int32)) M h1 h2
          have hf := Fr_ts (Fr_refl (fun i k => False) M) f6
          exact ⟨c8, N9, hf, h1, h2, fun Q' hq => ⟨fun z => absurd z hc1, fun _ => ⟨s2, ⟨fun _ => b7 _ hq, fun z => absurd z hc3⟩⟩⟩⟩
set_option maxHeartbeats 4000000 in
theorem u_wX3_commonMultiple (x0 : Int32) (x1 : Int32) {Qa Qb : Int32 → Mem → Prop} (M : Mem) (h1 : wX3_commonMultiple x0 x1 M Qa) (h2 : wX3_commonMultiple x0 x1 M Qb) : (∃ (a0 : Int32) (M' : Mem), Fr (fun i k => False) M M' ∧ Qa a0 M' ∧ Qb a0 M' ∧ ∀ (Q' : Int32 → Mem → Prop), Q' a0 M' → wX3_commonMultiple x0 x1 M Q') := by
  have h1 : (∃ n1, wX3_commonMultiple_2 x0 x1 Qa n1 (1 : Int32) M) := h1
  have h2 : (∃ n1, wX3_commonMultiple_2 x0 x1 Qb n1 (1 : Int32) M) := h2
  obtain ⟨n1_a, h1⟩ := h1
  obtain ⟨n1_b, h2⟩ := h2
  obtain ⟨c5, N6, f3, h1, h2, b4⟩ := u_wX3_commonMultiple_2 x0 x1 n1_a n1_b (1 : Int32) M h1 h2
  have hf := Fr_ts (Fr_refl (fun i k => False) M) f3
  exact ⟨c5, N6, hf, h1, h2, fun Q' hq => ⟨n1_a, b4 _ hq⟩⟩
set_option maxHeartbeats 4000000 in
theorem u_wX3_roundsTogether_4 (r : Nat) {Qa Qb : Int32 → Mem → Prop} : ∀ (n1 n2 : Nat) (v1 : Int32) (v2 : Int32) (M : Mem), wX3_roundsTogether_4 r Qa n1 v1 v2 M → wX3_roundsTogether_4 r Qb n2 v1 v2 M → (∃ (a0 : Int32) (M' : Mem), Fr (fun i k => False) M M' ∧ Qa a0 M' ∧ Qb a0 M' ∧ ∀ (Q' : Int32 → Mem → Prop), Q' a0 M' → wX3_roundsTogether_4 r Q' n1 v1 v2 M) := by
  intro n1
  induction n1 with
  | zero => intro _ _ _ _ h1 _; exact h1.elim
  | succ n ih =>
    intro n2 v1 v2 M h1 h2
    cases n2 with
    | zero => exact h2.elim
    | succ m =>
      have h1 : (((M r 1) ≤ v2 → Qa v1 M) ∧ (¬ (M r 1) ≤ v2 → (wX4_at (r + 16) v2 M (fun r3 M2 => (wX3_commonMultiple v1 r3 M2 (fun r5 M4 => wX3_roundsTogether_4 r Qa n r5 (v2 + (1 : Int32)) M4)))))) := h1
      have h2 : (((M r 1) ≤ v2 → Qb v1 M) ∧ (¬ (M r 1) ≤ v2 → (wX4_at (r + 16) v2 M (fun r3 M2 => (wX3_commonMultiple v1 r3 M2 (fun r5 M4 => wX3_roundsTogether_4 r Qb m r5 (v2 + (1 : Int32)) M4)))))) := h2
      by_cases hc1 : (M r 1) ≤ v2
      · have h1 := h1.1 hc1
        have h2 := h2.1 hc1
        exact ⟨v1, M, (Fr_refl (fun i k => False) M), h1, h2, fun Q' hq => ⟨fun _ => hq, fun z => absurd hc1 z⟩⟩
      · have h1 := h1.2 hc1
        have h2 := h2.2 hc1
        obtain ⟨r3, M2, f2, h1, h2, b3⟩ := u_wX4_at (r + 16) v2 M h1 h2
        have g4 := Fr_tr (Fr_refl (fun i k => False) M) f2 (fun i k (h : False) => h.elim)
        obtain ⟨r5, M4, f5, h1, h2, b6⟩ := u_wX3_commonMultiple v1 r3 M2 h1 h2
        have g7 := Fr_tr g4 f5 (fun i k (h : False) => h.elim)
        obtain ⟨c12, N13, f10, h1, h2, b11⟩ := ih m r5 (v2 + (1 : Int32)) M4 h1 h2
        have hf := Fr_ts g7 f10
        exact ⟨c12, N13, hf, h1, h2, fun Q' hq => ⟨fun z => absurd z hc1, fun _ => b3 _ (b6 _ (b11 _ hq))⟩⟩
set_option maxHeartbeats 4000000 in
theorem u_wX3_roundsTogether (r : Nat) {Qa Qb : Int32 → Mem → Prop} (M : Mem) (h1 : wX3_roundsTogether r M Qa) (h2 : wX3_roundsTogether r M Qb) : (∃ (a0 : Int32) (M' : Mem), Fr (fun i k => False) M M' ∧ Qa a0 M' ∧ Qb a0 M' ∧ ∀ (Q' : Int32 → Mem → Prop), Q' a0 M' → wX3_roundsTogether r M Q') := by
  have h1 : (∃ n1, wX3_roundsTogether_4 r Qa n1 (1 : Int32) (0 : Int32) M) := h1
  have h2 : (∃ n1, wX3_roundsTogether_4 r Qb n1 (1 : Int32) (0 : Int32) M) := h2
  obtain ⟨n1_a, h1⟩ := h1
  obtain ⟨n1_b, h2⟩ := h2
  obtain ⟨c5, N6, f3, h1, h2, b4⟩ := u_wX3_roundsTogether_4 r n1_a n1_b (1 : Int32) (0 : Int32) M h1 h2
  have hf := Fr_ts (Fr_refl (fun i k => False) M) f3
  exact ⟨c5, N6, hf, h1, h2, fun Q' hq => ⟨n1_a, b4 _ hq⟩⟩
set_option maxHeartbeats 4000000 in
theorem u_wX6_tellNothing (r : Nat) {Qa Qb : Mem → Prop} (M : Mem) (h1 : wX6_tellNothing r M Qa) (h2 : wX6_tellNothing r M Qb) : (∃ (M' : Mem), Fr (fun i k => r ≤ i ∧ i ≤ r + 8) M M' ∧ Qa M' ∧ Qb M' ∧ ∀ (Q' : Mem → Prop), Q' M' → wX6_tellNothing r M Q') := by
  have h1 : Qa (mu (mu (mu (mu (mu (mu M r 0 (10 : Int32)) r 1 (9 : Int32)) r 2 (0 : Int32)) r 3 (2 : Int32)) r 6 (0 : Int32)) r 8 (0 : Int32)) := h1
  have h2 : Qb (mu (mu (mu (mu (mu (mu M r 0 (10 : Int32)) r 1 (9 : Int32)) r 2 (0 : Int32)) r 3 (2 : Int32)) r 6 (0 : Int32)) r 8 (0 : Int32)) := h2
  exact ⟨(mu (mu (mu (mu (mu (mu M r 0 (10 : Int32)) r 1 (9 : Int32)) r 2 (0 : Int32)) r 3 (2 : Int32)) r 6 (0 : Int32)) r 8 (0 : Int32)), (Fr_mu (Fr_mu (Fr_mu (Fr_mu (Fr_mu (Fr_mu (Fr_refl (fun i k => r ≤ i ∧ i ≤ r + 8) M) (show r ≤ r ∧ r ≤ r + 8 from by omega)) (show r ≤ r ∧ r ≤ r + 8 from by omega)) (show r ≤ r ∧ r ≤ r + 8 from by omega)) (show r ≤ r ∧ r ≤ r + 8 from by omega)) (show r ≤ r ∧ r ≤ r + 8 from by omega)) (show r ≤ r ∧ r ≤ r + 8 from by omega)), h1, h2, fun Q' hq => hq⟩
set_option maxHeartbeats 4000000 in
theorem u_wX6_numbersWanted (x0 : Int32) {Qa Qb : Int32 → Mem → Prop} (M : Mem) (h1 : wX6_numbersWanted x0 M Qa) (h2 : wX6_numbersWanted x0 M Qb) : (∃ (a0 : Int32) (M' : Mem), Fr (fun i k => False) M M' ∧ Qa a0 M' ∧ Qb a0 M' ∧ ∀ (Q' : Int32 → Mem → Prop), Q' a0 M' → wX6_numbersWanted x0 M Q') := by
  have h1 : ((x0 = (108 : Int32) → Qa (2 : Int32) M) ∧ (¬ x0 = (108 : Int32) → ((x0 = (109 : Int32) → Qa (0 : Int32) M) ∧ (¬ x0 = (109 : Int32) → ((x0 = (110 : Int32) → Qa (1 : Int32) M) ∧ (¬ x0 = (110 : Int32) → ((x0 = (111 : Int32) → Qa (0 : Int32) M) ∧ (¬ x0 = (111 : Int32) → ((x0 = (112 : Int32) → Qa (0 : Int32) M) ∧ (¬ x0 = (112 : Int32) → ((x0 = (113 : Int32) → Qa (0 : Int32) M) ∧ (¬ x0 = (113 : Int32) → ((x0 = (114 : Int32) → Qa (1 : Int32) M) ∧ (¬ x0 = (114 : Int32) → ((x0 = (115 : Int32) → Qa (2 : Int32) M) ∧ (¬ x0 = (115 : Int32) → ((x0 = (116 : Int32) → Qa (1 : Int32) M) ∧ (¬ x0 = (116 : Int32) → Qa (0 : Int32) M)))))))))))))))))) := h1
  have h2 : ((x0 = (108 : Int32) → Qb (2 : Int32) M) ∧ (¬ x0 = (108 : Int32) → ((x0 = (109 : Int32) → Qb (0 : Int32) M) ∧ (¬ x0 = (109 : Int32) → ((x0 = (110 : Int32) → Qb (1 : Int32) M) ∧ (¬ x0 = (110 : Int32) → ((x0 = (111 : Int32) → Qb (0 : Int32) M) ∧ (¬ x0 = (111 : Int32) → ((x0 = (112 : Int32) → Qb (0 : Int32) M) ∧ (¬ x0 = (112 : Int32) → ((x0 = (113 : Int32) → Qb (0 : Int32) M) ∧ (¬ x0 = (113 : Int32) → ((x0 = (114 : Int32) → Qb (1 : Int32) M) ∧ (¬ x0 = (114 : Int32) → ((x0 = (115 : Int32) → Qb (2 : Int32) M) ∧ (¬ x0 = (115 : Int32) → ((x0 = (116 : Int32) → Qb (1 : Int32) M) ∧ (¬ x0 = (116 : Int32) → Qb (0 : Int32) M)))))))))))))))))) := h2
  by_cases hc1 : x0 = (108 : Int32)
  · have h1 := h1.1 hc1
    have h2 := h2.1 hc1
    exact ⟨(2 : Int32), M, (Fr_refl (fun i k => False) M), h1, h2, fun Q' hq => ⟨fun _ => hq, fun z => absurd hc1 z⟩⟩
  · have h1 := h1.2 hc1
    have h2 := h2.2 hc1
    by_cases hc2 : x0 = (109 : Int32)
    · have h1 := h1.1 hc2
      have h2 := h2.1 hc2
      exact ⟨(0 : Int32), M, (Fr_refl (fun i k => False) M), h1, h2, fun Q' hq => ⟨fun z => absurd z hc1, fun _ => ⟨fun _ => hq, fun z => absurd hc2 z⟩⟩⟩
    · have h1 := h1.2 hc2
      have h2 := h2.2 hc2
      by_cases hc3 : x0 = (110 : Int32)
      · have h1 := h1.1 hc3
        have h2 := h2.1 hc3
        exact ⟨(1 : Int32), M, (Fr_refl (fun i k => False) M), h1, h2, fun Q' hq => ⟨fun z => absurd z hc1, fun _ => ⟨fun z => absurd z hc2, fun _ => ⟨fun _ => hq, fun z => absurd hc3 z⟩⟩⟩⟩
      · have h1 := h1.2 hc3
        have h2 := h2.2 hc3
        by_cases hc4 : x0 = (111 : Int32)
        · have h1 := h1.1 hc4
          have h2 := h2.1 hc4
          exact ⟨(0 : Int32), M, (Fr_refl (fun i k => False) M), h1, h2, fun Q' hq => ⟨fun z => absurd z hc1, fun _ => ⟨fun z => absurd z hc2, fun _ => ⟨fun z => absurd z hc3, fun _ => ⟨fun _ => hq, fun z => absurd hc4 z⟩⟩⟩⟩⟩
        · have h1 := h1.2 hc4
          have h2 := h2.2 hc4
          by_cases hc5 : x0 = (112 : Int32)
          · have h1 := h1.1 hc5
            have h2 := h2.1 hc5
            exact ⟨(0 : Int32), M, (Fr_refl (fun i k => False) M), h1, h2, fun Q' hq => ⟨fun z => absurd z hc1, fun _ => ⟨fun z => absurd z hc2, fun _ => ⟨fun z => absurd z hc3, fun _ => ⟨fun z => absurd z hc4, fun _ => ⟨fun _ => hq, fun z => absurd hc5 z⟩⟩⟩⟩⟩⟩
          · have h1 := h1.2 hc5
            have h2 := h2.2 hc5
            by_cases hc6 : x0 = (113 : Int32)
            · have h1 := h1.1 hc6
              have h2 := h2.1 hc6
              exact ⟨(0 : Int32), M, (Fr_refl (fun i k => False) M), h1, h2, fun Q' hq => ⟨fun z => absurd z hc1, fun _ => ⟨fun z => absurd z hc2, fun _ => ⟨fun z => absurd z hc3, fun _ => ⟨fun z => absurd z hc4, fun _ => ⟨fun z => absurd z hc5, fun _ => ⟨fun _ => hq, fun z => absurd hc6 z⟩⟩⟩⟩⟩⟩⟩
            · have h1 := h1.2 hc6
              have h2 := h2.2 hc6
              by_cases hc7 : x0 = (114 : Int32)
              · have h1 := h1.1 hc7
                have h2 := h2.1 hc7
                exact ⟨(1 : Int32), M, (Fr_refl (fun i k => False) M), h1, h2, fun Q' hq => ⟨fun z => absurd z hc1, fun _ => ⟨fun z => absurd z hc2, fun _ => ⟨fun z => absurd z hc3, fun _ => ⟨fun z => absurd z hc4, fun _ => ⟨fun z => absurd z hc5, fun _ => ⟨fun z => absurd z hc6, fun _ => ⟨fun _ => hq, fun z => absurd hc7 z⟩⟩⟩⟩⟩⟩⟩⟩
              · have h1 := h1.2 hc7
                have h2 := h2.2 hc7
                by_cases hc8 : x0 = (115 : Int32)
                · have h1 := h1.1 hc8
                  have h2 := h2.1 hc8
                  exact ⟨(2 : Int32), M, (Fr_refl (fun i k => False) M), h1, h2, fun Q' hq => ⟨fun z => absurd z hc1, fun _ => ⟨fun z => absurd z hc2, fun _ => ⟨fun z => absurd z hc3, fun _ => ⟨fun z => absurd z hc4, fun _ => ⟨fun z => absurd z hc5, fun _ => ⟨fun z => absurd z hc6, fun _ => ⟨fun z => absurd z hc7, fun _ => ⟨fun _ => hq, fun z => absurd hc8 z⟩⟩⟩⟩⟩⟩⟩⟩⟩
                · have h1 := h1.2 hc8
                  have h2 := h2.2 hc8
                  by_cases hc9 : x0 = (116 : Int32)
                  · have h1 := h1.1 hc9
                    have h2 := h2.1 hc9
                    exact ⟨(1 : Int32), M, (Fr_refl (fun i k => False) M), h1, h2, fun Q' hq => ⟨fun z => absurd z hc1, fun _ => ⟨fun z => absurd z hc2, fun _ => ⟨fun z => absurd z hc3, fun _ => ⟨fun z => absurd z hc4, fun _ => ⟨fun z => absurd z hc5, fun _ => ⟨fun z => absurd z hc6, fun _ => ⟨fun z => absurd z hc7, fun _ => ⟨fun z => absurd z hc8, fun _ => ⟨fun _ => hq, fun z => absurd hc9 z⟩⟩⟩⟩⟩⟩⟩⟩⟩⟩
                  · have h1 := h1.2 hc9
                    have h2 := h2.2 hc9
                    exact ⟨(0 : Int32), M, (Fr_refl (fun i k => False) M), h1, h2, fun Q' hq => ⟨fun z => absurd z hc1, fun _ => ⟨fun z => absurd z hc2, fun _ => ⟨fun z => absurd z hc3, fun _ => ⟨fun z => absurd z hc4, fun _ => ⟨fun z => absurd z hc5, fun _ => ⟨fun z => absurd z hc6, fun _ => ⟨fun z => absurd z hc7, fun _ => ⟨fun z => absurd z hc8, fun _ => ⟨fun z => absurd z hc9, fun _ => hq⟩⟩⟩⟩⟩⟩⟩⟩⟩⟩
set_option maxHeartbeats 4000000 in
theorem u_wX6_takeLeafCount (r : Nat) (x1 : Int32) {Qa Qb : Int32 → Mem → Prop} (M : Mem) (h1 : wX6_takeLeafCount r x1 M Qa) (h2 : wX6_takeLeafCount r x1 M Qb) : (∃ (a0 : Int32) (M' : Mem), Fr (fun i k => r ≤ i ∧ i ≤ r + 8) M M' ∧ Qa a0 M' ∧ Qb a0 M' ∧ ∀ (Q' : Int32 → Mem → Prop), Q' a0 M' → wX6_takeLeafCount r x1 M Q') := by
  have h1 : (wX7_within x1 (2 : Int32) (40 : Int32) (mu M r 0 x1) (fun r2 M1 => ((r2 = 0 ∨ r2 = 1) ∧ Qa r2 M1))) := h1
  have h2 : (wX7_within x1 (2 : Int32) (40 : Int32) (mu M r 0 x1) (fun r2 M1 => ((r2 = 0 ∨ r2 = 1) ∧ Qb r2 M1))) := h2
  obtain ⟨r2, M1, f1, h1, h2, b2⟩ := u_wX7_within x1 (2 : Int32) (40 : Int32) (mu M r 0 x1) h1 h2
  have g3 := Fr_tr (Fr_mu (Fr_refl (fun i k => r ≤ i ∧ i ≤ r + 8) M) (show r ≤ r ∧ r ≤ r + 8 from by omega)) f1 (fun i k (h : False) => h.elim)
  have s4 := h1.1
  have h1 := h1.2
  have h2 := h2.2
  exact ⟨r2, M1, g3, h1, h2, fun Q' hq => b2 _ ⟨s4, hq⟩⟩
set_option maxHeartbeats 4000000 in
theorem u_wX6_takePerReader (r : Nat) (x1 : Int32) {Qa Qb : Int32 → Mem → Prop} (M : Mem) (h1 : wX6_takePerReader r x1 M Qa) (h2 : wX6_takePerReader r x1 M Qb) : (∃ (a0 : Int32) (M' : Mem), Fr (fun i k => r ≤ i ∧ i ≤ r + 8) M M' ∧ Qa a0 M' ∧ Qb a0 M' ∧ ∀ (Q' : Int32 → Mem → Prop), Q' a0 M' → wX6_takePerReader r x1 M Q') := by
  have h1 : (wX7_within x1 (1 : Int32) (40 : Int32) (mu M r 1 x1) (fun r2 M1 => ((r2 = 0 ∨ r2 = 1) ∧ Qa r2 M1))) := h1
  have h2 : (wX7_within x1 (1 : Int32) (40 : Int32) (mu M r 1 x1) (fun r2 M1 => ((r2 = 0 ∨ r2 = 1) ∧ Qb r2 M1))) := h2
  obtain ⟨r2, M1, f1, h1, h2, b2⟩ := u_wX7_within x1 (1 : Int32) (40 : Int32) (mu M r 1 x1) h1 h2
  have g3 := Fr_tr (Fr_mu (Fr_refl (fun i k => r ≤ i ∧ i ≤ r + 8) M) (show r ≤ r ∧ r ≤ r + 8 from by omega)) f1 (fun i k (h : False) => h.elim)
  have s4 := h1.1
  have h1 := h1.2
  have h2 := h2.2
  exact ⟨r2, M1, g3, h1, h2, fun Q' hq => b2 _ ⟨s4, hq⟩⟩
set_option maxHeartbeats 4000000 in
theorem u_wX6_takeLaw_34 (r : Nat) (x1 : Int32) (x2 : Int32) {Qa Qb : Int32 → Mem → Prop} (s0 : Int32) (M : Mem) (h1 : wX6_takeLaw_34 r x1 x2 Qa s0 M) (h2 : wX6_takeLaw_34 r x1 x2 Qb s0 M) : (∃ (a0 : Int32) (M' : Mem), Fr (fun i k => r ≤ i ∧ i ≤ r + 8) M M' ∧ Qa a0 M' ∧ Qb a0 M' ∧ ∀ (Q' : Int32 → Mem → Prop), Q' a0 M' → wX6_takeLaw_34 r x1 x2 Q' s0 M) := by
  have h1 : ((s0 = 0 ∨ s0 = 1) ∧ Qa s0 M) := h1
  have h2 : ((s0 = 0 ∨ s0 = 1) ∧ Qb s0 M) := h2
  have s1 := h1.1
  have h1 := h1.2
  have h2 := h2.2
  exact ⟨s0, M, (Fr_refl (fun i k => r ≤ i ∧ i ≤ r + 8) M), h1, h2, fun Q' hq => ⟨s1, hq⟩⟩
set_option maxHeartbeats 4000000 in
theorem u_wX6_takeLaw_33 (r : Nat) (x1 : Int32) (x2 : Int32) {Qa Qb : Int32 → Mem → Prop} (M : Mem) (h1 : wX6_takeLaw_33 r x1 x2 Qa M) (h2 : wX6_takeLaw_33 r x1 x2 Qb M) : (∃ (a0 : Int32) (M' : Mem), Fr (fun i k => r ≤ i ∧ i ≤ r + 8) M M' ∧ Qa a0 M' ∧ Qb a0 M' ∧ ∀ (Q' : Int32 → Mem → Prop), Q' a0 M' → wX6_takeLaw_33 r x1 x2 Q' M) := by
  have h1 : wX6_takeLaw_34 r x1 x2 Qa (0 : Int32) M := h1
  have h2 : wX6_takeLaw_34 r x1 x2 Qb (0 : Int32) M := h2
  obtain ⟨c5, N6, f3, h1, h2, b4⟩ := u_wX6_takeLaw_34 r x1 x2 (0 : Int32) M h1 h2
  have hf := Fr_ts (Fr_refl (fun i k => r ≤ i ∧ i ≤ r + 8) M) f3
  exact ⟨c5, N6, hf, h1, h2, fun Q' hq => b4 _ hq⟩
set_option maxHeartbeats 4000000 in
theorem u_wX6_takeLaw (r : Nat) (x1 : Int32) (x2 : Int32) {Qa Qb : Int32 → Mem → Prop} (M : Mem) (h1 : wX6_takeLaw r x1 x2 M Qa) (h2 : wX6_takeLaw r x1 x2 M Qb) : (∃ (a0 : Int32) (M' : Mem), Fr (fun i k => r ≤ i ∧ i ≤ r + 8) M M' ∧ Qa a0 M' ∧ Qb a0 M' ∧ ∀ (Q' : Int32 → Mem → Prop), Q' a0 M' → wX6_takeLaw r x1 x2 M Q') := by
  have h1 : (wX7_within x1 (0 : Int32) (3 : Int32) (mu (mu M r 2 x1) r 3 x2) (fun r2 M1 => ((r2 = 0 → wX6_takeLaw_33 r x1 x2 Qa M1) ∧ (¬ r2 = 0 → (wX7_within x2 (0 : Int32) (39 : Int32) M1 (fun r4 M3 => ((r4 = 0 → wX6_takeLaw_33 r x1 x2 Qa M3) ∧ (¬ r4 = 0 → wX6_takeLaw_34 r x1 x2 Qa (1 : Int32) M3)))))))) := h1
  have h2 : (wX7_within x1 (0 : Int32) (3 : Int32) (mu (mu M r 2 x1) r 3 x2) (fun r2 M1 => ((r2 = 0 → wX6_takeLaw_33 r x1 x2 Qb M1) ∧ (¬ r2 = 0 → (wX7_within x2 (0 : Int32) (39 : Int32) M1 (fun r4 M3 => ((r4 = 0 → wX6_takeLaw_33 r x1 x2 Qb M3) ∧ (¬ r4 = 0 → wX6_takeLaw_34 r x1 x2 Qb (1 : Int32) M3)))))))) := h2
  obtain ⟨r2, M1, f1, h1, h2, b2⟩ := u_wX7_within x1 (0 : Int32) (3 : Int32) (mu (mu M r 2 x1) r 3 x2) h1 h2
  have g3 := Fr_tr (Fr_mu (Fr_mu (Fr_refl (fun i k => r ≤ i ∧ i ≤ r + 8) M) (show r ≤ r ∧ r ≤ r + 8 from by omega)) (show r ≤ r ∧ r ≤ r + 8 from by omega)) f1 (fun i k (h : False) => h.elim)
  by_cases hc4 : r2 = 0
  · have h1 := h1.1 hc4
    have h2 := h2.1 hc4
    obtain ⟨c9, N10, f7, h1, h2, b8⟩ := u_wX6_takeLaw_33 r x1 x2 M1 h1 h2
    have hf := Fr_ts g3 f7
    exact ⟨c9, N10, hf, h1, h2, fun Q' hq => b2 _ ⟨fun _ => b8 _ hq, fun z => absurd hc4 z⟩⟩
  · have h1 := h1.2 hc4
    have h2 := h2.2 hc4
    obtain ⟨r4, M3, f11, h1, h2, b12⟩ := u_wX7_within x2 (0 : Int32) (39 : Int32) M1 h1 h2
    have g13 := Fr_tr g3 f11 (fun i k (h : False) => h.elim)
    by_cases hc14 : r4 = 0
    · have h1 := h1.1 hc14
      have h2 := h2.1 hc14
      obtain ⟨c19, N20, f17, h1, h2, b18⟩ := u_wX6_takeLaw_33 r x1 x2 M3 h1 h2
      have hf := Fr_ts g13 f17
      exact ⟨c19, N20, hf, h1, h2, fun Q' hq => b2 _ ⟨fun z => absurd z hc4, fun _ => b12 _ ⟨fun _ => b18 _ hq, fun z => absurd hc14 z⟩⟩⟩
    · have h1 := h1.2 hc14
      have h2 := h2.2 hc14
      obtain ⟨c25, N26, f23, h1, h2, b24⟩ := u_wX6_takeLaw_34 r x1 x2 (1 : Int32) M3 h1 h2
      have hf := Fr_ts g13 f23
      exact ⟨c25, N26, hf, h1, h2, fun Q' hq => b2 _ ⟨fun z => absurd z hc4, fun _ => b12 _ ⟨fun z => absurd z hc14, fun _ => b24 _ hq⟩⟩⟩
set_option maxHeartbeats 4000000 in
theorem u_wX6_takeSwap_70 (r : Nat) (x1 : Int32) (x2 : Int32) {Qa Qb : Int32 → Mem → Prop} (s0 : Int32) (M : Mem) (h1 : wX6_takeSwap_70 r x1 x2 Qa s0 M) (h2 : wX6_takeSwap_70 r x1 x2 Qb s0 M) : (∃ (a0 : Int32) (M' : Mem), Fr (fun i k => r ≤ i ∧ i ≤ r + 8) M M' ∧ Qa a0 M' ∧ Qb a0 M' ∧ ∀ (Q' : Int32 → Mem → Prop), Q' a0 M' → wX6_takeSwap_70 r x1 x2 Q' s0 M) := by
  have h1 : ((s0 = 0 ∨ s0 = 1) ∧ Qa s0 M) := h1
  have h2 : ((s0 = 0 ∨ s0 = 1) ∧ Qb s0 M) := h2
  have s1 := h1.1
  have h1 := h1.2
  have h2 := h2.2
  exact ⟨s0, M, (Fr_refl (fun i k => r ≤ i ∧ i ≤ r + 8) M), h1, h2, fun Q' hq => ⟨s1, hq⟩⟩
set_option maxHeartbeats 4000000 in
theorem u_wX6_takeSwap_69 (r : Nat) (x1 : Int32) (x2 : Int32) {Qa Qb : Int32 → Mem → Prop} (M : Mem) (h1 : wX6_takeSwap_69 r x1 x2 Qa M) (h2 : wX6_takeSwap_69 r x1 x2 Qb M) : (∃ (a0 : Int32) (M' : Mem), Fr (fun i k => r ≤ i ∧ i ≤ r + 8) M M' ∧ Qa a0 M' ∧ Qb a0 M' ∧ ∀ (Q' : Int32 → Mem → Prop), Q' a0 M' → wX6_takeSwap_69 r x1 x2 Q' M) := by
  have h1 : wX6_takeSwap_70 r x1 x2 Qa (0 : Int32) M := h1
  have h2 : wX6_takeSwap_70 r x1 x2 Qb (0 : Int32) M := h2
  obtain ⟨c5, N6, f3, h1, h2, b4⟩ := u_wX6_takeSwap_70 r x1 x2 (0 : Int32) M h1 h2
  have hf := Fr_ts (Fr_refl (fun i k => r ≤ i ∧ i ≤ r + 8) M) f3
  exact ⟨c5, N6, hf, h1, h2, fun Q' hq => b4 _ hq⟩
set_option maxHeartbeats 4000000 in
theorem u_wX6_takeSwap (r : Nat) (x1 : Int32) (x2 : Int32) {Qa Qb : Int32 → Mem → Prop} (M : Mem) (h1 : wX6_takeSwap r x1 x2 M Qa) (h2 : wX6_takeSwap r x1 x2 M Qb) : (∃ (a0 : Int32) (M' : Mem), Fr (fun i k => r ≤ i ∧ i ≤ r + 8) M M' ∧ Qa a0 M' ∧ Qb a0 M' ∧ ∀ (Q' : Int32 → Mem → Prop), Q' a0 M' → wX6_takeSwap r x1 x2 M Q') := by
  have h1 : (((M r 6) < (20 : Int32) → (wX4_put (r + 1) (M r 6) x1 M (fun M1 => (wX4_put (r + 3) (M1 r 6) x2 M1 (fun M2 => (wX7_within x1 (0 : Int32) (39 : Int32) (mu M2 r 6 ((M2 r 6) + (1 : Int32))) (fun r4 M3 => ((r4 = 0 → wX6_takeSwap_69 r x1 x2 Qa M3) ∧ (¬ r4 = 0 → (wX7_within x2 (0 : Int32) (39 : Int32) M3 (fun r6 M5 => ((r6 = 0 → wX6_takeSwap_69 r x1 x2 Qa M5) ∧ (¬ r6 = 0 → wX6_takeSwap_70 r x1 x2 Qa (1 : Int32) M5))))))))))))) ∧ (¬ (M r 6) < (20 : Int32) → (((0 : Int32) = 0 ∨ (0 : Int32) = 1) ∧ Qa (0 : Int32) M))) := h1
  have h2 : (((M r 6) < (20 : Int32) → (wX4_put (r + 1) (M r 6) x1 M (fun M1 => (wX4_put (r + 3) (M1 r 6) x2 M1 (fun M2 => (wX7_within x1 (0 : Int32) (39 : Int32) (mu M2 r 6 ((M2 r 6) + (1 : Int32))) (fun r4 M3 => ((r4 = 0 → wX6_takeSwap_69 r x1 x2 Qb M3) ∧ (¬ r4 = 0 → (wX7_within x2 (0 : Int32) (39 : Int32) M3 (fun r6 M5 => ((r6 = 0 → wX6_takeSwap_69 r x1 x2 Qb M5) ∧ (¬ r6 = 0 → wX6_takeSwap_70 r x1 x2 Qb (1 : Int32) M5))))))))))))) ∧ (¬ (M r 6) < (20 : Int32) → (((0 : Int32) = 0 ∨ (0 : Int32) = 1) ∧ Qb (0 : Int32) M))) := h2
  by_cases hc1 : (M r 6) < (20 : Int32)
  · have h1 := h1.1 hc1
    have h2 := h2.1 hc1
    obtain ⟨M1, f2, h1, h2, b3⟩ := u_wX4_put (r + 1) (M r 6) x1 M h1 h2
    have g4 := Fr_tr (Fr_refl (fun i k => r ≤ i ∧ i ≤ r + 8) M) f2 (fun i k (h : i = (r + 1) + 1) => (show r ≤ i ∧ i ≤ r + 8 from by omega))
    obtain ⟨M2, f5, h1, h2, b6⟩ := u_wX4_put (r + 3) (M1 r 6) x2 M1 h1 h2
    have g7 := Fr_tr g4 f5 (fun i k (h : i = (r + 3) + 1) => (show r ≤ i ∧ i ≤ r + 8 from by omega))
    obtain ⟨r4, M3, f8, h1, h2, b9⟩ := u_wX7_within x1 (0 : Int32) (39 : Int32) (mu M2 r 6 ((M2 r 6) + (1 : Int32))) h1 h2
    have g10 := Fr_tr (Fr_mu g7 (show r ≤ r ∧ r ≤ r + 8 from by omega)) f8 (fun i k (h : False) => h.elim)
    by_cases hc11 : r4 = 0
    · have h1 := h1.1 hc11
      have h2 := h2.1 hc11
      obtain ⟨c16, N17, f14, h1, h2, b15⟩ := u_wX6_takeSwap_69 r x1 x2 M3 h1 h2
      have hf := Fr_ts g10 f14
      exact ⟨c16, N17, hf, h1, h2, fun Q' hq => ⟨fun _ => b3 _ (b6 _ (b9 _ ⟨fun _ => b15 _ hq, fun z => absurd hc11 z⟩)), fun z => absurd hc1 z⟩⟩
    · have h1 := h1.2 hc11
      have h2 := h2.2 hc11
      obtain ⟨r6, M5, f18, h1, h2, b19⟩ := u_wX7_within x2 (0 : Int32) (39 : Int32) M3 h1 h2
      have g20 := Fr_tr g10 f18 (fun i k (h : False) => h.elim)
      by_cases hc21 : r6 = 0
      · have h1 := h1.1 hc21
        have h2 := h2.1 hc21
        obtain ⟨c26, N27, f24, h1, h2, b25⟩ := u_wX6_takeSwap_69 r x1 x2 M5 h1 h2
        have hf := Fr_ts g20 f24
        exact ⟨c26, N27, hf, h1, h2, fun Q' hq => ⟨fun _ => b3 _ (b6 _ (b9 _ ⟨fun z => absurd z hc11, fun _ => b19 _ ⟨fun _ => b25 _ hq, fun z => absurd hc21 z⟩⟩)), fun z => absurd hc1 z⟩⟩
      · have h1 := h1.2 hc21
        have h2 := h2.2 hc21
        obtain ⟨c32, N33, f30, h1, h2, b31⟩ := u_wX6_takeSwap_70 r x1 x2 (1 : Int32) M5 h1 h2
        have hf := Fr_ts g20 f30
        exact ⟨c32, N33, hf, h1, h2, fun Q' hq => ⟨fun _ => b3 _ (b6 _ (b9 _ ⟨fun z => absurd z hc11, fun _ => b19 _ ⟨fun z => absurd z hc21, fun _ => b31 _ hq⟩⟩)), fun z => absurd hc1 z⟩⟩
  · have h1 := h1.2 hc1
    have h2 := h2.2 hc1
    have s34 := h1.1
    have h1 := h1.2
    have h2 := h2.2
    exact ⟨(0 : Int32), M, (Fr_refl (fun i k => r ≤ i ∧ i ≤ r + 8) M), h1, h2, fun Q' hq => ⟨fun z => absurd z hc1, fun _ => ⟨s34, hq⟩⟩⟩
set_option maxHeartbeats 4000000 in
theorem u_wX6_takeTaleLeaf (r : Nat) (x1 : Int32) {Qa Qb : Int32 → Mem → Prop} (M : Mem) (h1 : wX6_takeTaleLeaf r x1 M Qa) (h2 : wX6_takeTaleLeaf r x1 M Qb) : (∃ (a0 : Int32) (M' : Mem), Fr (fun i k => r ≤ i ∧ i ≤ r + 8) M M' ∧ Qa a0 M' ∧ Qb a0 M' ∧ ∀ (Q' : Int32 → Mem → Prop), Q' a0 M' → wX6_takeTaleLeaf r x1 M Q') := by
  have h1 : (((M r 8) < (20 : Int32) → (wX4_put (r + 5) (M r 8) x1 M (fun M1 => (wX7_within x1 (0 : Int32) (39 : Int32) (mu M1 r 8 ((M1 r 8) + (1 : Int32))) (fun r3 M2 => ((r3 = 0 ∨ r3 = 1) ∧ Qa r3 M2)))))) ∧ (¬ (M r 8) < (20 : Int32) → (((0 : Int32) = 0 ∨ (0 : Int32) = 1) ∧ Qa (0 : Int32) M))) := h1
  have h2 : (((M r 8) < (20 : Int32) → (wX4_put (r + 5) (M r 8) x1 M (fun M1 => (wX7_within x1 (0 : Int32) (39 : Int32) (mu M1 r 8 ((M1 r 8) + (1 : Int32))) (fun r3 M2 => ((r3 = 0 ∨ r3 = 1) ∧ Qb r3 M2)))))) ∧ (¬ (M r 8) < (20 : Int32) → (((0 : Int32) = 0 ∨ (0 : Int32) = 1) ∧ Qb (0 : Int32) M))) := h2
  by_cases hc1 : (M r 8) < (20 : Int32)
  · have h1 := h1.1 hc1
    have h2 := h2.1 hc1
    obtain ⟨M1, f2, h1, h2, b3⟩ := u_wX4_put (r + 5) (M r 8) x1 M h1 h2
    have g4 := Fr_tr (Fr_refl (fun i k => r ≤ i ∧ i ≤ r + 8) M) f2 (fun i k (h : i = (r + 5) + 1) => (show r ≤ i ∧ i ≤ r + 8 from by omega))
    obtain ⟨r3, M2, f5, h1, h2, b6⟩ := u_wX7_within x1 (0 : Int32) (39 : Int32) (mu M1 r 8 ((M1 r 8) + (1 : Int32))) h1 h2
    have g7 := Fr_tr (Fr_mu g4 (show r ≤ r ∧ r ≤ r + 8 from by omega)) f5 (fun i k (h : False) => h.elim)
    have s8 := h1.1
    have h1 := h1.2
    have h2 := h2.2
    exact ⟨r3, M2, g7, h1, h2, fun Q' hq => ⟨fun _ => b3 _ (b6 _ ⟨s8, hq⟩), fun z => absurd hc1 z⟩⟩
  · have h1 := h1.2 hc1
    have h2 := h2.2 hc1
    have s9 := h1.1
    have h1 := h1.2
    have h2 := h2.2
    exact ⟨(0 : Int32), M, (Fr_refl (fun i k => r ≤ i ∧ i ≤ r + 8) M), h1, h2, fun Q' hq => ⟨fun z => absurd z hc1, fun _ => ⟨s9, hq⟩⟩⟩
set_option maxHeartbeats 4000000 in
theorem u_wX6_takeIn (r : Nat) (x1 : Int32) (x2 : Int32) (x3 : Int32) {Qa Qb : Int32 → Mem → Prop} (M : Mem) (h1 : wX6_takeIn r x1 x2 x3 M Qa) (h2 : wX6_takeIn r x1 x2 x3 M Qb) : (∃ (a0 : Int32) (M' : Mem), Fr (fun i k => r ≤ i ∧ i ≤ r + 8) M M' ∧ Qa a0 M' ∧ Qb a0 M' ∧ ∀ (Q' : Int32 → Mem → Prop), Q' a0 M' → wX6_takeIn r x1 x2 x3 M Q') := by
  have h1 : ((x1 = (108 : Int32) → (wX6_takeLaw r x2 x3 M (fun r2 M1 => ((r2 = 0 ∨ r2 = 1) ∧ Qa r2 M1)))) ∧ (¬ x1 = (108 : Int32) → ((x1 = (109 : Int32) → (((0 : Int32) = 0 ∨ (0 : Int32) = 1) ∧ Qa (0 : Int32) M)) ∧ (¬ x1 = (109 : Int32) → ((x1 = (110 : Int32) → (wX6_takeLeafCount r x2 M (fun r4 M3 => ((r4 = 0 ∨ r4 = 1) ∧ Qa r4 M3)))) ∧ (¬ x1 = (110 : Int32) → ((x1 = (111 : Int32) → (((0 : Int32) = 0 ∨ (0 : Int32) = 1) ∧ Qa (0 : Int32) M)) ∧ (¬ x1 = (111 : Int32) → ((x1 = (112 : Int32) → (((0 : Int32) = 0 ∨ (0 : Int32) = 1) ∧ Qa (0 : Int32) M)) ∧ (¬ x1 = (112 : Int32) → ((x1 = (113 : Int32) → (((0 : Int32) = 0 ∨ (0 : Int32) = 1) ∧ Qa (0 : Int32) M)) ∧ (¬ x1 = (113 : Int32) → ((x1 = (114 : Int32) → (wX6_takePerReader r x2 M (fun r6 M5 => ((r6 = 0 ∨ r6 = 1) ∧ Qa r6 M5)))) ∧ (¬ x1 = (114 : Int32) → ((x1 = (115 : Int32) → (wX6_takeSwap r x2 x3 M (fun r8 M7 => ((r8 = 0 ∨ r8 = 1) ∧ Qa r8 M7)))) ∧ (¬ x1 = (115 : Int32) → ((x1 = (116 : Int32) → (wX6_takeTaleLeaf r x2 M (fun r10 M9 => ((r10 = 0 ∨ r10 = 1) ∧ Qa r10 M9)))) ∧ (¬ x1 = (116 : Int32) → (((0 : Int32) = 0 ∨ (0 : Int32) = 1) ∧ Qa (0 : Int32) M))))))))))))))))))) := h1
  have h2 : ((x1 = (108 : Int32) → (wX6_takeLaw r x2 x3 M (fun r2 M1 => ((r2 = 0 ∨ r2 = 1) ∧ Qb r2 M1)))) ∧ (¬ x1 = (108 : Int32) → ((x1 = (109 : Int32) → (((0 : Int32) = 0 ∨ (0 : Int32) = 1) ∧ Qb (0 : Int32) M)) ∧ (¬ x1 = (109 : Int32) → ((x1 = (110 : Int32) → (wX6_takeLeafCount r x2 M (fun r4 M3 => ((r4 = 0 ∨ r4 = 1) ∧ Qb r4 M3)))) ∧ (¬ x1 = (110 : Int32) → ((x1 = (111 : Int32) → (((0 : Int32) = 0 ∨ (0 : Int32) = 1) ∧ Qb (0 : Int32) M)) ∧ (¬ x1 = (111 : Int32) → ((x1 = (112 : Int32) → (((0 : Int32) = 0 ∨ (0 : Int32) = 1) ∧ Qb (0 : Int32) M)) ∧ (¬ x1 = (112 : Int32) → ((x1 = (113 : Int32) → (((0 : Int32) = 0 ∨ (0 : Int32) = 1) ∧ Qb (0 : Int32) M)) ∧ (¬ x1 = (113 : Int32) → ((x1 = (114 : Int32) → (wX6_takePerReader r x2 M (fun r6 M5 => ((r6 = 0 ∨ r6 = 1) ∧ Qb r6 M5)))) ∧ (¬ x1 = (114 : Int32) → ((x1 = (115 : Int32) → (wX6_takeSwap r x2 x3 M (fun r8 M7 => ((r8 = 0 ∨ r8 = 1) ∧ Qb r8 M7)))) ∧ (¬ x1 = (115 : Int32) → ((x1 = (116 : Int32) → (wX6_takeTaleLeaf r x2 M (fun r10 M9 => ((r10 = 0 ∨ r10 = 1) ∧ Qb r10 M9)))) ∧ (¬ x1 = (116 : Int32) → (((0 : Int32) = 0 ∨ (0 : Int32) = 1) ∧ Qb (0 : Int32) M))))))))))))))))))) := h2
  by_cases hc1 : x1 = (108 : Int32)
  · have h1 := h1.1 hc1
    have h2 := h2.1 hc1
    obtain ⟨r2, M1, f2, h1, h2, b3⟩ := u_wX6_takeLaw r x2 x3 M h1 h2
    have g4 := Fr_tr (Fr_refl (fun i k => r ≤ i ∧ i ≤ r + 8) M) f2 (fun i k (h : r ≤ i ∧ i ≤ r + 8) => (show r ≤ i ∧ i ≤ r + 8 from by omega))
    have s5 := h1.1
    have h1 := h1.2
    have h2 := h2.2
    exact ⟨r2, M1, g4, h1, h2, fun Q' hq => ⟨fun _ => b3 _ ⟨s5, hq⟩, fun z => absurd hc1 z⟩⟩
  · have h1 := h1.2 hc1
    have h2 := h2.2 hc1
    by_cases hc6 : x1 = (109 : Int32)
    · have h1 := h1.1 hc6
      have h2 := h2.1 hc6
      have s7 := h1.1
      have h1 := h1.2
      have h2 := h2.2
      exact ⟨(0 : Int32), M, (Fr_refl (fun i k => r ≤ i ∧ i ≤ r + 8) M), h1, h2, fun Q' hq => ⟨fun z => absurd z hc1, fun _ => ⟨fun _ => ⟨s7, hq⟩, fun z => absurd hc6 z⟩⟩⟩
    · have h1 := h1.2 hc6
      have h2 := h2.2 hc6
      by_cases hc8 : x1 = (110 : Int32)
      · have h1 := h1.1 hc8
        have h2 := h2.1 hc8
        obtain ⟨r4, M3, f9, h1, h2, b10⟩ := u_wX6_takeLeafCount r x2 M h1 h2
        have g11 := Fr_tr (Fr_refl (fun i k => r ≤ i ∧ i ≤ r + 8) M) f9 (fun i k (h : r ≤ i ∧ i ≤ r + 8) => (show r ≤ i ∧ i ≤ r + 8 from by omega))
        have s12 := h1.1
        have h1 := h1.2
        have h2 := h2.2
        exact ⟨r4, M3, g11, h1, h2, fun Q' hq => ⟨fun z => absurd z hc1, fun _ => ⟨fun z => absurd z hc6, fun _ => ⟨fun _ => b10 _ ⟨s12, hq⟩, fun z => absurd hc8 z⟩⟩⟩⟩
      · have h1 := h1.2 hc8
        have h2 := h2.2 hc8
        by_cases hc13 : x1 = (111 : Int32)
        · have h1 := h1.1 hc13
          have h2 := h2.1 hc13
          have s14 := h1.1
          have h1 := h1.2
          have h2 := h2.2
          exact ⟨(0 : Int32), M, (Fr_refl (fun i k => r ≤ i ∧ i ≤ r + 8) M), h1, h2, fun Q' hq => ⟨fun z => absurd z hc1, fun _ => ⟨fun z => absurd z hc6, fun _ => ⟨fun z => absurd z hc8, fun _ => ⟨fun _ => ⟨s14, hq⟩, fun z => absurd hc13 z⟩⟩⟩⟩⟩
        · have h1 := h1.2 hc13
          have h2 := h2.2 hc13
          by_cases hc15 : x1 = (112 : Int32)
          · have h1 := h1.1 hc15
            have h2 := h2.1 hc15
            have s16 := h1.1
            have h1 := h1.2
            have h2 := h2.2
            exact ⟨(0 : Int32), M, (Fr_refl (fun i k => r ≤ i ∧ i ≤ r + 8) M), h1, h2, fun Q' hq => ⟨fun z => absurd z hc1, fun _ => ⟨fun z => absurd z hc6, fun _ => ⟨fun z => absurd z hc8, fun _ => ⟨fun z => absurd z hc13, fun _ => ⟨fun _ => ⟨s16, hq⟩, fun z => absurd hc15 z⟩⟩⟩⟩⟩⟩
          · have h1 := h1.2 hc15
            have h2 := h2.2 hc15
            by_cases hc17 : x1 = (113 : Int32)
            · have h1 := h1.1 hc17
              have h2 := h2.1 hc17
              have s18 := h1.1
              have h1 := h1.2
              have h2 := h2.2
              exact ⟨(0 : Int32), M, (Fr_refl (fun i k => r ≤ i ∧ i ≤ r + 8) M), h1, h2, fun Q' hq => ⟨fun z => absurd z hc1, fun _ => ⟨fun z => absurd z hc6, fun _ => ⟨fun z => absurd z hc8, fun _ => ⟨fun z => absurd z hc13, fun _ => ⟨fun z => absurd z hc15, fun _ => ⟨fun _ => ⟨s18, hq⟩, fun z => absurd hc17 z⟩⟩⟩⟩⟩⟩⟩
            · have h1 := h1.2 hc17
              have h2 := h2.2 hc17
              by_cases hc19 : x1 = (114 : Int32)
              · have h1 := h1.1 hc19
                have h2 := h2.1 hc19
                obtain ⟨r6, M5, f20, h1, h2, b21⟩ := u_wX6_takePerReader r x2 M h1 h2
                have g22 := Fr_tr (Fr_refl (fun i k => r ≤ i ∧ i ≤ r + 8) M) f20 (fun i k (h : r ≤ i ∧ i ≤ r + 8) => (show r ≤ i ∧ i ≤ r + 8 from by omega))
                have s23 := h1.1
                have h1 := h1.2
                have h2 := h2.2
                exact ⟨r6, M5, g22, h1, h2, fun Q' hq => ⟨fun z => absurd z hc1, fun _ => ⟨fun z => absurd z hc6, fun _ => ⟨fun z => absurd z hc8, fun _ => ⟨fun z => absurd z hc13, fun _ => ⟨fun z => absurd z hc15, fun _ => ⟨fun z => absurd z hc17, fun _ => ⟨fun _ => b21 _ ⟨s23, hq⟩, fun z => absurd hc19 z⟩⟩⟩⟩⟩⟩⟩⟩
              · have h1 := h1.2 hc19
                have h2 := h2.2 hc19
                by_cases hc24 : x1 = (115 : Int32)
                · have h1 := h1.1 hc24
                  have h2 := h2.1 hc24
                  obtain ⟨r8, M7, f25, h1, h2, b26⟩ := u_wX6_takeSwap r x2 x3 M h1 h2
                  have g27 := Fr_tr (Fr_refl (fun i k => r ≤ i ∧ i ≤ r + 8) M) f25 (fun i k (h : r ≤ i ∧ i ≤ r + 8) => (show r ≤ i ∧ i ≤ r + 8 from by omega))
                  have s28 := h1.1
                  have h1 := h1.2
                  have h2 := h2.2
                  exact ⟨r8, M7, g27, h1, h2, fun Q' hq => ⟨fun z => absurd z hc1, fun _ => ⟨fun z => absurd z hc6, fun _ => ⟨fun z => absurd z hc8, fun _ => ⟨fun z => absurd z hc13, fun _ => ⟨fun z => absurd z hc15, fun _ => ⟨fun z => absurd z hc17, fun _ => ⟨fun z => absurd z hc19, fun _ => ⟨fun _ => b26 _ ⟨s28, hq⟩, fun z => absurd hc24 z⟩⟩⟩⟩⟩⟩⟩⟩⟩
                · have h1 := h1.2 hc24
                  have h2 := h2.2 hc24
                  by_cases hc29 : x1 = (116 : Int32)
                  · have h1 := h1.1 hc29
                    have h2 := h2.1 hc29
                    obtain ⟨r10, M9, f30, h1, h2, b31⟩ := u_wX6_takeTaleLeaf r x2 M h1 h2
                    have g32 := Fr_tr (Fr_refl (fun i k => r ≤ i ∧ i ≤ r + 8) M) f30 (fun i k (h : r ≤ i ∧ i ≤ r + 8) => (show r ≤ i ∧ i ≤ r + 8 from by omega))
                    have s33 := h1.1
                    have h1 := h1.2
                    have h2 := h2.2
                    exact ⟨r10, M9, g32, h1, h2, fun Q' hq => ⟨fun z => absurd z hc1, fun _ => ⟨fun z => absurd z hc6, fun _ => ⟨fun z => absurd z hc8, fun _ => ⟨fun z => absurd z hc13, fun _ => ⟨fun z => absurd z hc15, fun _ => ⟨fun z => absurd z hc17, fun _ => ⟨fun z => absurd z hc19, fun _ => ⟨fun z => absurd z hc24, fun _ => ⟨fun _ => b31 _ ⟨s33, hq⟩, fun z => absurd hc29 z⟩⟩⟩⟩⟩⟩⟩⟩⟩⟩
                  · have h1 := h1.2 hc29
                    have h2 := h2.2 hc29
                    have s34 := h1.1
                    have h1 := h1.2
                    have h2 := h2.2
                    exact ⟨(0 : Int32), M, (Fr_refl (fun i k => r ≤ i ∧ i ≤ r + 8) M), h1, h2, fun Q' hq => ⟨fun z => absurd z hc1, fun _ => ⟨fun z => absurd z hc6, fun _ => ⟨fun z => absurd z hc8, fun _ => ⟨fun z => absurd z hc13, fun _ => ⟨fun z => absurd z hc15, fun _ => ⟨fun z => absurd z hc17, fun _ => ⟨fun z => absurd z hc19, fun _ => ⟨fun z => absurd z hc24, fun _ => ⟨fun z => absurd z hc29, fun _ => ⟨s34, hq⟩⟩⟩⟩⟩⟩⟩⟩⟩⟩⟩
set_option maxHeartbeats 4000000 in
theorem u_wX6_scanItem_89 (r : Nat) (x1 : Nat) (x2 : Int32) {k_20a k_20b : Int32 → Int32 → Int32 → Int32 → Mem → Prop} {Qa Qb : Int32 → Mem → Prop} (v3 : Int32) (v4 : Int32) (v5 : Int32) (v6 : Int32) (s0 : Int32) (s1 : Int32) (M : Mem) (h1 : wX6_scanItem_89 r x1 x2 k_20a Qa v3 v4 v5 v6 s0 s1 M) (h2 : wX6_scanItem_89 r x1 x2 k_20b Qb v3 v4 v5 v6 s0 s1 M) : (∃ (a0 : Int32) (M' : Mem), Fr (fun i k => r ≤ i ∧ i ≤ r + 8) M M' ∧ Qa a0 M' ∧ Qb a0 M' ∧ ∀ (k'0 : Int32 → Int32 → Int32 → Int32 → Mem → Prop) (Q' : Int32 → Mem → Prop), Q' a0 M' → wX6_scanItem_89 r x1 x2 k'0 Q' v3 v4 v5 v6 s0 s1 M) ∨ (∃ (a0 : Int32) (a1 : Int32) (a2 : Int32) (a3 : Int32) (M' : Mem), Fr (fun i k => r ≤ i ∧ i ≤ r + 8) M M' ∧ k_20a a0 a1 a2 a3 M' ∧ k_20b a0 a1 a2 a3 M' ∧ ∀ (k'0 : Int32 → Int32 → Int32 → Int32 → Mem → Prop) (Q' : Int32 → Mem → Prop), k'0 a0 a1 a2 a3 M' → wX6_scanItem_89 r x1 x2 k'0 Q' v3 v4 v5 v6 s0 s1 M) := by
  have h1 : ((s1 = s0 → k_20a v3 v4 (v5 + (1 : Int32)) (v6 + (1 : Int32)) M) ∧ (¬ s1 = s0 → Qa (-4 : Int32) M)) := h1
  have h2 : ((s1 = s0 → k_20b v3 v4 (v5 + (1 : Int32)) (v6 + (1 : Int32)) M) ∧ (¬ s1 = s0 → Qb (-4 : Int32) M)) := h2
  by_cases hc1 : s1 = s0
  · have h1 := h1.1 hc1
    have h2 := h2.1 hc1
    exact Or.inr ⟨v3, v4, (v5 + (1 : Int32)), (v6 + (1 : Int32)), M, (Fr_refl (fun i k => r ≤ i ∧ i ≤ r + 8) M), h1, h2, fun k'0 Q' hq => ⟨fun _ => hq, fun z => absurd hc1 z⟩⟩
  · have h1 := h1.2 hc1
    have h2 := h2.2 hc1
    exact Or.inl ⟨(-4 : Int32), M, (Fr_refl (fun i k => r ≤ i ∧ i ≤ r + 8) M), h1, h2, fun k'0 Q' hq => ⟨fun z => absurd z hc1, fun _ => hq⟩⟩
set_option maxHeartbeats 4000000 in
theorem u_wX6_scanItem_135 (r : Nat) (x1 : Nat) (x2 : Int32) {Qa Qb : Int32 → Mem → Prop} (s0 : Int32) (M : Mem) (h1 : wX6_scanItem_135 r x1 x2 Qa s0 M) (h2 : wX6_scanItem_135 r x1 x2 Qb s0 M) : (∃ (a0 : Int32) (M' : Mem), Fr (fun i k => r ≤ i ∧ i ≤ r + 8) M M' ∧ Qa a0 M' ∧ Qb a0 M' ∧ ∀ (Q' : Int32 → Mem → Prop), Q' a0 M' → wX6_scanItem_135 r x1 x2 Q' s0 M) := by
  have h1 : Qa s0 M := h1
  have h2 : Qb s0 M := h2
  exact ⟨s0, M, (Fr_refl (fun i k => r ≤ i ∧ i ≤ r + 8) M), h1, h2, fun Q' hq => hq⟩
set_option maxHeartbeats 4000000 in
theorem u_wX6_scanItem_20 (r : Nat) (x1 : Nat) (x2 : Int32) {Qa Qb : Int32 → Mem → Prop} : ∀ (n1 n2 : Nat) (v3 : Int32) (v4 : Int32) (v5 : Int32) (v6 : Int32) (M : Mem), wX6_scanItem_20 r x1 x2 Qa n1 v3 v4 v5 v6 M → wX6_scanItem_20 r x1 x2 Qb n2 v3 v4 v5 v6 M → (∃ (a0 : Int32) (M' : Mem), Fr (fun i k => r ≤ i ∧ i ≤ r + 8) M M' ∧ Qa a0 M' ∧ Qb a0 M' ∧ ∀ (Q' : Int32 → Mem → Prop), Q' a0 M' → wX6_scanItem_20 r x1 x2 Q' n1 v3 v4 v5 v6 M) := by
  intro n1
  induction n1 with
  | zero => intro _ _ _ _ _ _ h1 _; exact h1.elim
  | succ n ih =>
    intro n2 v3 v4 v5 v6 M h1 h2
    cases n2 with
    | zero => exact h2.elim
    | succ m =>
      have h1 : ((v4 ≤ v6 → (wX4_at (r + 7) (0 : Int32) M (fun r7 M6 => (wX4_at (r + 7) (1 : Int32) M6 (fun r9 M8 => (wX6_takeIn r v3 r7 r9 M8 (fun r11 M10 => ((r11 = 0 → wX6_scanItem_135 r x1 x2 Qa (-4 : Int32) M10) ∧ (¬ r11 = 0 → wX6_scanItem_135 r x1 x2 Qa v5 M10))))))))) ∧ (¬ v4 ≤ v6 → (wX5_figuresFrom x1 v5 M (fun r13 M12 => ((¬ r13 = 0 → (wX5_numberAt x1 v5 r13 M12 (fun r15 M14 => (wX4_put (r + 7) v6 r15 M14 (fun M16 => (wX5_byteAt x1 (v5 + r13) M16 (fun r18 M17 => ((v4 ≤ (v6 + (1 : Int32)) → wX6_scanItem_89 r x1 x2 (wX6_scanItem_20 r x1 x2 Qa n) Qa v3 v4 (v5 + r13) v6 (59 : Int32) r18 M17) ∧ (¬ v4 ≤ (v6 + (1 : Int32)) → wX6_scanItem_89 r x1 x2 (wX6_scanItem_20 r x1 x2 Qa n) Qa v3 v4 (v5 + r13) v6 (44 : Int32) r18 M17))))))))) ∧ (r13 = 0 → Qa (-4 : Int32) M12)))))) := h1
      have h2 : ((v4 ≤ v6 → (wX4_at (r + 7) (0 : Int32) M (fun r7 M6 => (wX4_at (r + 7) (1 : Int32) M6 (fun r9 M8 => (wX6_takeIn r v3 r7 r9 M8 (fun r11 M10 => ((r11 = 0 → wX6_scanItem_135 r x1 x2 Qb (-4 : Int32) M10) ∧ (¬ r11 = 0 → wX6_scanItem_135 r x1 x2 Qb v5 M10))))))))) ∧ (¬ v4 ≤ v6 → (wX5_figuresFrom x1 v5 M (fun r13 M12 => ((¬ r13 = 0 → (wX5_numberAt x1 v5 r13 M12 (fun r15 M14 => (wX4_put (r + 7) v6 r15 M14 (fun M16 => (wX5_byteAt x1 (v5 + r13) M16 (fun r18 M17 => ((v4 ≤ (v6 + (1 : Int32)) → wX6_scanItem_89 r x1 x2 (wX6_scanItem_20 r x1 x2 Qb m) Qb v3 v4 (v5 + r13) v6 (59 : Int32) r18 M17) ∧ (¬ v4 ≤ (v6 + (1 : Int32)) → wX6_scanItem_89 r x1 x2 (wX6_scanItem_20 r x1 x2 Qb m) Qb v3 v4 (v5 + r13) v6 (44 : Int32) r18 M17))))))))) ∧ (r13 = 0 → Qb (-4 : Int32) M12)))))) := h2
      by_cases hc1 : v4 ≤ v6
      · have h1 := h1.1 hc1
        have h2 := h2.1 hc1
        obtain ⟨r7, M6, f2, h1, h2, b3⟩ := u_wX4_at (r + 7) (0 : Int32) M h1 h2
        have g4 := Fr_tr (Fr_refl (fun i k => r ≤ i ∧ i ≤ r + 8) M) f2 (fun i k (h : False) => h.elim)
        obtain ⟨r9, M8, f5, h1, h2, b6⟩ := u_wX4_at (r + 7) (1 : Int32) M6 h1 h2
        have g7 := Fr_tr g4 f5 (fun i k (h : False) => h.elim)
        obtain ⟨r11, M10, f8, h1, h2, b9⟩ := u_wX6_takeIn r v3 r7 r9 M8 h1 h2
        have g10 := Fr_tr g7 f8 (fun i k (h : r ≤ i ∧ i ≤ r + 8) => (show r ≤ i ∧ i ≤ r + 8 from by omega))
        by_cases hc11 : r11 = 0
        · have h1 := h1.1 hc11
          have h2 := h2.1 hc11
          obtain ⟨c16, N17, f14, h1, h2, b15⟩ := u_wX6_scanItem_135 r x1 x2 (-4 : Int32) M10 h1 h2
          have hf := Fr_ts g10 f14
          exact ⟨c16, N17, hf, h1, h2, fun Q' hq => ⟨fun _ => b3 _ (b6 _ (b9 _ ⟨fun _ => b15 _ hq, fun z => absurd hc11 z⟩)), fun z => absurd hc1 z⟩⟩
        · have h1 := h1.2 hc11
          have h2 := h2.2 hc11
          obtain ⟨c22, N23, f20, h1, h2, b21⟩ := u_wX6_scanItem_135 r x1 x2 v5 M10 h1 h2
          have hf := Fr_ts g10 f20
          exact ⟨c22, N23, hf, h1, h2, fun Q' hq => ⟨fun _ => b3 _ (b6 _ (b9 _ ⟨fun z => absurd z hc11, fun _ => b21 _ hq⟩)), fun z => absurd hc1 z⟩⟩
      · have h1 := h1.2 hc1
        have h2 := h2.2 hc1
        obtain ⟨r13, M12, f24, h1, h2, b25⟩ := u_wX5_figuresFrom x1 v5 M h1 h2
        have g26 := Fr_tr (Fr_refl (fun i k => r ≤ i ∧ i ≤ r + 8) M) f24 (fun i k (h : False) => h.elim)
        by_cases hc27 : r13 = 0
        · have h1 := h1.2 hc27
          have h2 := h2.2 hc27
          exact ⟨(-4 : Int32), M12, g26, h1, h2, fun Q' hq => ⟨fun z => absurd z hc1, fun _ => b25 _ ⟨fun z => absurd hc27 z, fun _ => hq⟩⟩⟩
        · have h1 := h1.1 hc27
          have h2 := h2.1 hc27
          obtain ⟨r15, M14, f28, h1, h2, b29⟩ := u_wX5_numberAt x1 v5 r13 M12 h1 h2
          have g30 := Fr_tr g26 f28 (fun i k (h : False) => h.elim)
          obtain ⟨M16, f31, h1, h2, b32⟩ := u_wX4_put (r + 7) v6 r15 M14 h1 h2
          have g33 := Fr_tr g30 f31 (fun i k (h : i = (r + 7) + 1) => (show r ≤ i ∧ i ≤ r + 8 from by omega))
          obtain ⟨r18, M17, f34, h1, h2, b35⟩ := u_wX5_byteAt x1 (v5 + r13) M16 h1 h2
          have g36 := Fr_tr g33 f34 (fun i k (h : False) => h.elim)
          by_cases hc37 : v4 ≤ (v6 + (1 : Int32))
          · have h1 := h1.1 hc37
            have h2 := h2.1 hc37
            rcases u_wX6_scanItem_89 r x1 x2 v3 v4 (v5 + r13) v6 (59 : Int32) r18 M17 h1 h2 with ⟨c42, N43, f40, h1, h2, b41⟩ | ⟨c44, c45, c46, c47, N48, f40, h1, h2, b41⟩
            · have hf := Fr_ts g36 f40
              exact ⟨c42, N43, hf, h1, h2, fun Q' hq => ⟨fun z => absurd z hc1, fun _ => b25 _ ⟨fun _ => b29 _ (b32 _ (b35 _ ⟨fun _ => b41 _ _ hq, fun z => absurd hc37 z⟩)), fun z => absurd z hc27⟩⟩⟩
            · have hf := Fr_ts g36 f40
              obtain ⟨c51, N52, f49, h1, h2, b50⟩ := ih m c44 c45 c46 c47 N48 h1 h2
              have hf := Fr_ts hf f49
              exact ⟨c51, N52, hf, h1, h2, fun Q' hq => ⟨fun z => absurd z hc1, fun _ => b25 _ ⟨fun _ => b29 _ (b32 _ (b35 _ ⟨fun _ => b41 _ _ (b50 _ hq), fun z => absurd hc37 z⟩)), fun z => absurd z hc27⟩⟩⟩
          · have h1 := h1.2 hc37
            have h2 := h2.2 hc37
            rcases u_wX6_scanItem_89 r x1 x2 v3 v4 (v5 + r13) v6 (44 : Int32) r18 M17 h1 h2 with ⟨c57, N58, f55, h1, h2, b56⟩ | ⟨c59, c60, c61, c62, N63, f55, h1, h2, b56⟩
            · have hf := Fr_ts g36 f55
              exact ⟨c57, N58, hf, h1, h2, fun Q' hq => ⟨fun z => absurd z hc1, fun _ => b25 _ ⟨fun _ => b29 _ (b32 _ (b35 _ ⟨fun z => absurd z hc37, fun _ => b56 _ _ hq⟩)), fun z => absurd z hc27⟩⟩⟩
            · have hf := Fr_ts g36 f55
              obtain ⟨c66, N67, f64, h1, h2, b65⟩ := ih m c59 c60 c61 c62 N63 h1 h2
              have hf := Fr_ts hf f64
              exact ⟨c66, N67, hf, h1, h2, fun Q' hq => ⟨fun z => absurd z hc1, fun _ => b25 _ ⟨fun _ => b29 _ (b32 _ (b35 _ ⟨fun z => absurd z hc37, fun _ => b56 _ _ (b65 _ hq)⟩)), fun z => absurd z hc27⟩⟩⟩
set_option maxHeartbeats 4000000 in
theorem u_wX6_scanItem (r : Nat) (x1 : Nat) (x2 : Int32) {Qa Qb : Int32 → Mem → Prop} (M : Mem) (h1 : wX6_scanItem r x1 x2 M Qa) (h2 : wX6_scanItem r x1 x2 M Qb) : (∃ (a0 : Int32) (M' : Mem), Fr (fun i k => r ≤ i ∧ i ≤ r + 8) M M' ∧ Qa a0 M' ∧ Qb a0 M' ∧ ∀ (Q' : Int32 → Mem → Prop), Q' a0 M' → wX6_scanItem r x1 x2 M Q') := by
  have h1 : (wX5_byteAt x1 x2 M (fun r2 M1 => (wX6_numbersWanted r2 M1 (fun r4 M3 => (∃ n5, wX6_scanItem_20 r x1 x2 Qa n5 r2 r4 (x2 + (1 : Int32)) (0 : Int32) M3))))) := h1
  have h2 : (wX5_byteAt x1 x2 M (fun r2 M1 => (wX6_numbersWanted r2 M1 (fun r4 M3 => (∃ n5, wX6_scanItem_20 r x1 x2 Qb n5 r2 r4 (x2 + (1 : Int32)) (0 : Int32) M3))))) := h2
  obtain ⟨r2, M1, f1, h1, h2, b2⟩ := u_wX5_byteAt x1 x2 M h1 h2
  have g3 := Fr_tr (Fr_refl (fun i k => r ≤ i ∧ i ≤ r + 8) M) f1 (fun i k (h : False) => h.elim)
  obtain ⟨r4, M3, f4, h1, h2, b5⟩ := u_wX6_numbersWanted r2 M1 h1 h2
  have g6 := Fr_tr g3 f4 (fun i k (h : False) => h.elim)
  obtain ⟨n5_a, h1⟩ := h1
  obtain ⟨n5_b, h2⟩ := h2
  obtain ⟨c11, N12, f9, h1, h2, b10⟩ := u_wX6_scanItem_20 r x1 x2 n5_a n5_b r2 r4 (x2 + (1 : Int32)) (0 : Int32) M3 h1 h2
  have hf := Fr_ts g6 f9
  exact ⟨c11, N12, hf, h1, h2, fun Q' hq => b2 _ (b5 _ ⟨n5_a, b10 _ hq⟩)⟩
set_option maxHeartbeats 4000000 in
theorem u_wX6_scan_6 (r : Nat) (x1 : Nat) {Qa Qb : Int32 → Mem → Prop} : ∀ (n1 n2 : Nat) (v2 : Int32) (M : Mem), wX6_scan_6 r x1 Qa n1 v2 M → wX6_scan_6 r x1 Qb n2 v2 M → (∃ (a0 : Int32) (M' : Mem), Fr (fun i k => r ≤ i ∧ i ≤ r + 8) M M' ∧ Qa a0 M' ∧ Qb a0 M' ∧ ∀ (Q' : Int32 → Mem → Prop), Q' a0 M' → wX6_scan_6 r x1 Q' n1 v2 M) := by
  intro n1
  induction n1 with
  | zero => intro _ _ _ h1 _; exact h1.elim
  | succ n ih =>
    intro n2 v2 M h1 h2
    cases n2 with
    | zero => exact h2.elim
    | succ m =>
      have h1 : (wX5_size x1 M (fun r4 M3 => ((r4 ≤ v2 → Qa (-4 : Int32) M3) ∧ (¬ r4 ≤ v2 → (wX6_scanItem r x1 v2 M3 (fun r6 M5 => ((v2 < r6 → wX6_scan_6 r x1 Qa n r6 M5) ∧ (¬ v2 < r6 → Qa v2 M5)))))))) := h1
      have h2 : (wX5_size x1 M (fun r4 M3 => ((r4 ≤ v2 → Qb (-4 : Int32) M3) ∧ (¬ r4 ≤ v2 → (wX6_scanItem r x1 v2 M3 (fun r6 M5 => ((v2 < r6 → wX6_scan_6 r x1 Qb m r6 M5) ∧ (¬ v2 < r6 → Qb v2 M5)))))))) := h2
      obtain ⟨r4, M3, f1, h1, h2, b2⟩ := u_wX5_size x1 M h1 h2
      have g3 := Fr_tr (Fr_refl (fun i k => r ≤ i ∧ i ≤ r + 8) M) f1 (fun i k (h : False) => h.elim)
      by_cases hc4 : r4 ≤ v2
      · have h1 := h1.1 hc4
        have h2 := h2.1 hc4
        exact ⟨(-4 : Int32), M3, g3, h1, h2, fun Q' hq => b2 _ ⟨fun _ => hq, fun z => absurd hc4 z⟩⟩
      · have h1 := h1.2 hc4
        have h2 := h2.2 hc4
        obtain ⟨r6, M5, f5, h1, h2, b6⟩ := u_wX6_scanItem r x1 v2 M3 h1 h2
        have g7 := Fr_tr g3 f5 (fun i k (h : r ≤ i ∧ i ≤ r + 8) => (show r ≤ i ∧ i ≤ r + 8 from by omega))
        by_cases hc8 : v2 < r6
        · have h1 := h1.1 hc8
          have h2 := h2.1 hc8
          obtain ⟨c13, N14, f11, h1, h2, b12⟩ := ih m r6 M5 h1 h2
          have hf := Fr_ts g7 f11
          exact ⟨c13, N14, hf, h1, h2, fun Q' hq => b2 _ ⟨fun z => absurd z hc4, fun _ => b6 _ ⟨fun _ => b12 _ hq, fun z => absurd hc8 z⟩⟩⟩
        · have h1 := h1.2 hc8
          have h2 := h2.2 hc8
          exact ⟨v2, M5, g7, h1, h2, fun Q' hq => b2 _ ⟨fun z => absurd z hc4, fun _ => b6 _ ⟨fun z => absurd z hc8, fun _ => hq⟩⟩⟩
set_option maxHeartbeats 4000000 in
theorem u_wX6_scan (r : Nat) (x1 : Nat) {Qa Qb : Int32 → Mem → Prop} (M : Mem) (h1 : wX6_scan r x1 M Qa) (h2 : wX6_scan r x1 M Qb) : (∃ (a0 : Int32) (M' : Mem), Fr (fun i k => r ≤ i ∧ i ≤ r + 8) M M' ∧ Qa a0 M' ∧ Qb a0 M' ∧ ∀ (Q' : Int32 → Mem → Prop), Q' a0 M' → wX6_scan r x1 M Q') := by
  have h1 : (wX6_tellNothing r M (fun M1 => (∃ n2, wX6_scan_6 r x1 Qa n2 (0 : Int32) M1))) := h1
  have h2 : (wX6_tellNothing r M (fun M1 => (∃ n2, wX6_scan_6 r x1 Qb n2 (0 : Int32) M1))) := h2
  obtain ⟨M1, f1, h1, h2, b2⟩ := u_wX6_tellNothing r M h1 h2
  have g3 := Fr_tr (Fr_refl (fun i k => r ≤ i ∧ i ≤ r + 8) M) f1 (fun i k (h : r ≤ i ∧ i ≤ r + 8) => (show r ≤ i ∧ i ≤ r + 8 from by omega))
  obtain ⟨n2_a, h1⟩ := h1
  obtain ⟨n2_b, h2⟩ := h2
  obtain ⟨c8, N9, f6, h1, h2, b7⟩ := u_wX6_scan_6 r x1 n2_a n2_b (0 : Int32) M1 h1 h2
  have hf := Fr_ts g3 f6
  exact ⟨c8, N9, hf, h1, h2, fun Q' hq => b2 _ ⟨n2_a, b7 _ hq⟩⟩
set_option maxHeartbeats 4000000 in
theorem u_wX6_fitsItsLeaves_40 (r : Nat) {Qa Qb : Int32 → Mem → Prop} (M : Mem) (h1 : wX6_fitsItsLeaves_40 r Qa M) (h2 : wX6_fitsItsLeaves_40 r Qb M) : (∃ (a0 : Int32) (M' : Mem), Fr (fun i k => False) M M' ∧ Qa a0 M' ∧ Qb a0 M' ∧ ∀ (Q' : Int32 → Mem → Prop), Q' a0 M' → wX6_fitsItsLeaves_40 r Q' M) := by
  have h1 : (((0 : Int32) = 0 ∨ (0 : Int32) = 1) ∧ Qa (0 : Int32) M) := h1
  have h2 : (((0 : Int32) = 0 ∨ (0 : Int32) = 1) ∧ Qb (0 : Int32) M) := h2
  have s1 := h1.1
  have h1 := h1.2
  have h2 := h2.2
  exact ⟨(0 : Int32), M, (Fr_refl (fun i k => False) M), h1, h2, fun Q' hq => ⟨s1, hq⟩⟩
set_option maxHeartbeats 4000000 in
theorem u_wX6_fitsItsLeaves_50 (r : Nat) {Qa Qb : Int32 → Mem → Prop} : ∀ (n1 n2 : Nat) (v1 : Int32) (M : Mem), wX6_fitsItsLeaves_50 r Qa n1 v1 M → wX6_fitsItsLeaves_50 r Qb n2 v1 M → (∃ (a0 : Int32) (M' : Mem), Fr (fun i k => False) M M' ∧ Qa a0 M' ∧ Qb a0 M' ∧ ∀ (Q' : Int32 → Mem → Prop), Q' a0 M' → wX6_fitsItsLeaves_50 r Q' n1 v1 M) := by
  intro n1
  induction n1 with
  | zero => intro _ _ _ h1 _; exact h1.elim
  | succ n ih =>
    intro n2 v1 M h1 h2
    cases n2 with
    | zero => exact h2.elim
    | succ m =>
      have h1 : (((M r 8) ≤ v1 → (((1 : Int32) = 0 ∨ (1 : Int32) = 1) ∧ Qa (1 : Int32) M)) ∧ (¬ (M r 8) ≤ v1 → (wX4_at (r + 5) v1 M (fun r8 M7 => ((r8 < (M7 r 0) → wX6_fitsItsLeaves_50 r Qa n (v1 + (1 : Int32)) M7) ∧ (¬ r8 < (M7 r 0) → (((0 : Int32) = 0 ∨ (0 : Int32) = 1) ∧ Qa (0 : Int32) M7))))))) := h1
      have h2 : (((M r 8) ≤ v1 → (((1 : Int32) = 0 ∨ (1 : Int32) = 1) ∧ Qb (1 : Int32) M)) ∧ (¬ (M r 8) ≤ v1 → (wX4_at (r + 5) v1 M (fun r8 M7 => ((r8 < (M7 r 0) → wX6_fitsItsLeaves_50 r Qb m (v1 + (1 : Int32)) M7) ∧ (¬ r8 < (M7 r 0) → (((0 : Int32) = 0 ∨ (0 : Int32) = 1) ∧ Qb (0 : Int32) M7))))))) := h2
      by_cases hc1 : (M r 8) ≤ v1
      · have h1 := h1.1 hc1
        have h2 := h2.1 hc1
        have s2 := h1.1
        have h1 := h1.2
        have h2 := h2.2
        exact ⟨(1 : Int32), M, (Fr_refl (fun i k => False) M), h1, h2, fun Q' hq => ⟨fun _ => ⟨s2, hq⟩, fun z => absurd hc1 z⟩⟩
      · have h1 := h1.2 hc1
        have h2 := h2.2 hc1
        obtain ⟨r8, M7, f3, h1, h2, b4⟩ := u_wX4_at (r + 5) v1 M h1 h2
        have g5 := Fr_tr (Fr_refl (fun i k => False) M) f3 (fun i k (h : False) => h.elim)
        by_cases hc6 : r8 < (M7 r 0)
        · have h1 := h1.1 hc6
          have h2 := h2.1 hc6
          obtain ⟨c11, N12, f9, h1, h2, b10⟩ := ih m (v1 + (1 : Int32)) M7 h1 h2
          have hf := Fr_ts g5 f9
          exact ⟨c11, N12, hf, h1, h2, fun Q' hq => ⟨fun z => absurd z hc1, fun _ => b4 _ ⟨fun _ => b10 _ hq, fun z => absurd hc6 z⟩⟩⟩
        · have h1 := h1.2 hc6
          have h2 := h2.2 hc6
          have s13 := h1.1
          have h1 := h1.2
          have h2 := h2.2
          exact ⟨(0 : Int32), M7, g5, h1, h2, fun Q' hq => ⟨fun z => absurd z hc1, fun _ => b4 _ ⟨fun z => absurd z hc6, fun _ => ⟨s13, hq⟩⟩⟩⟩
set_option maxHeartbeats 4000000 in
theorem u_wX6_fitsItsLeaves_2 (r : Nat) {Qa Qb : Int32 → Mem → Prop} : ∀ (n1 n2 : Nat) (v1 : Int32) (M : Mem), wX6_fitsItsLeaves_2 r Qa n1 v1 M → wX6_fitsItsLeaves_2 r Qb n2 v1 M → (∃ (a0 : Int32) (M' : Mem), Fr (fun i k => False) M M' ∧ Qa a0 M' ∧ Qb a0 M' ∧ ∀ (Q' : Int32 → Mem → Prop), Q' a0 M' → wX6_fitsItsLeaves_2 r Q' n1 v1 M) := by
  intro n1
  induction n1 with
  | zero => intro _ _ _ h1 _; exact h1.elim
  | succ n ih =>
    intro n2 v1 M h1 h2
    cases n2 with
    | zero => exact h2.elim
    | succ m =>
      have h1 : (((M r 6) ≤ v1 → (∃ n2, wX6_fitsItsLeaves_50 r Qa n2 (0 : Int32) M)) ∧ (¬ (M r 6) ≤ v1 → (wX4_at (r + 1) v1 M (fun r4 M3 => (((M3 r 0) ≤ r4 → wX6_fitsItsLeaves_40 r Qa M3) ∧ (¬ (M3 r 0) ≤ r4 → (wX4_at (r + 3) v1 M3 (fun r6 M5 => ((r6 < (M5 r 0) → wX6_fitsItsLeaves_2 r Qa n (v1 + (1 : Int32)) M5) ∧ (¬ r6 < (M5 r 0) → wX6_fitsItsLeaves_40 r Qa M5)))))))))) := h1
      have h2 : (((M r 6) ≤ v1 → (∃ n2, wX6_fitsItsLeaves_50 r Qb n2 (0 : Int32) M)) ∧ (¬ (M r 6) ≤ v1 → (wX4_at (r + 1) v1 M (fun r4 M3 => (((M3 r 0) ≤ r4 → wX6_fitsItsLeaves_40 r Qb M3) ∧ (¬ (M3 r 0) ≤ r4 → (wX4_at (r + 3) v1 M3 (fun r6 M5 => ((r6 < (M5 r 0) → wX6_fitsItsLeaves_2 r Qb m (v1 + (1 : Int32)) M5) ∧ (¬ r6 < (M5 r 0) → wX6_fitsItsLeaves_40 r Qb M5)))))))))) := h2
      by_cases hc1 : (M r 6) ≤ v1
      · have h1 := h1.1 hc1
        have h2 := h2.1 hc1
        obtain ⟨n2_a, h1⟩ := h1
        obtain ⟨n2_b, h2⟩ := h2
        obtain ⟨c6, N7, f4, h1, h2, b5⟩ := u_wX6_fitsItsLeaves_50 r n2_a n2_b (0 : Int32) M h1 h2
        have hf := Fr_ts (Fr_refl (fun i k => False) M) f4
        exact ⟨c6, N7, hf, h1, h2, fun Q' hq => ⟨fun _ => ⟨n2_a, b5 _ hq⟩, fun z => absurd hc1 z⟩⟩
      · have h1 := h1.2 hc1
        have h2 := h2.2 hc1
        obtain ⟨r4, M3, f8, h1, h2, b9⟩ := u_wX4_at (r + 1) v1 M h1 h2
        have g10 := Fr_tr (Fr_refl (fun i k => False) M) f8 (fun i k (h : False) => h.elim)
        by_cases hc11 : (M3 r 0) ≤ r4
        · have h1 := h1.1 hc11
          have h2 := h2.1 hc11
          obtain ⟨c16, N17, f14, h1, h2, b15⟩ := u_wX6_fitsItsLeaves_40 r M3 h1 h2
          have hf := Fr_ts g10 f14
          exact ⟨c16, N17, hf, h1, h2, fun Q' hq => ⟨fun z => absurd z hc1, fun _ => b9 _ ⟨fun _ => b15 _ hq, fun z => absurd hc11 z⟩⟩⟩
        · have h1 := h1.2 hc11
          have h2 := h2.2 hc11
          obtain ⟨r6, M5, f18, h1, h2, b19⟩ := u_wX4_at (r + 3) v1 M3 h1 h2
          have g20 := Fr_tr g10 f18 (fun i k (h : False) => h.elim)
          by_cases hc21 : r6 < (M5 r 0)
          · have h1 := h1.1 hc21
            have h2 := h2.1 hc21
            obtain ⟨c26, N27, f24, h1, h2, b25⟩ := ih m (v1 + (1 : Int32)) M5 h1 h2
            have hf := Fr_ts g20 f24
            exact ⟨c26, N27, hf, h1, h2, fun Q' hq => ⟨fun z => absurd z hc1, fun _ => b9 _ ⟨fun z => absurd z hc11, fun _ => b19 _ ⟨fun _ => b25 _ hq, fun z => absurd hc21 z⟩⟩⟩⟩
          · have h1 := h1.2 hc21
            have h2 := h2.2 hc21
            obtain ⟨c32, N33, f30, h1, h2, b31⟩ := u_wX6_fitsItsLeaves_40 r M5 h1 h2
            have hf := Fr_ts g20 f30
            exact ⟨c32, N33, hf, h1, h2, fun Q' hq => ⟨fun z => absurd z hc1, fun _ => b9 _ ⟨fun z => absurd z hc11, fun _ => b19 _ ⟨fun z => absurd z hc21, fun _ => b31 _ hq⟩⟩⟩⟩
set_option maxHeartbeats 4000000 in
theorem u_wX6_fitsItsLeaves (r : Nat) {Qa Qb : Int32 → Mem → Prop} (M : Mem) (h1 : wX6_fitsItsLeaves r M Qa) (h2 : wX6_fitsItsLeaves r M Qb) : (∃ (a0 : Int32) (M' : Mem), Fr (fun i k => False) M M' ∧ Qa a0 M' ∧ Qb a0 M' ∧ ∀ (Q' : Int32 → Mem → Prop), Q' a0 M' → wX6_fitsItsLeaves r M Q') := by
  have h1 : (∃ n1, wX6_fitsItsLeaves_2 r Qa n1 (0 : Int32) M) := h1
  have h2 : (∃ n1, wX6_fitsItsLeaves_2 r Qb n1 (0 : Int32) M) := h2
  obtain ⟨n1_a, h1⟩ := h1
  obtain ⟨n1_b, h2⟩ := h2
  obtain ⟨c5, N6, f3, h1, h2, b4⟩ := u_wX6_fitsItsLeaves_2 r n1_a n1_b (0 : Int32) M h1 h2
  have hf := Fr_ts (Fr_refl (fun i k => False) M) f3
  exact ⟨c5, N6, hf, h1, h2, fun Q' hq => ⟨n1_a, b4 _ hq⟩⟩
set_option maxHeartbeats 4000000 in
theorem u_wX6_orderFirst_10 (r : Nat) (x1 : Nat) {Qa Qb : Mem → Prop} : ∀ (n1 n2 : Nat) (v2 : Int32) (M : Mem), wX6_orderFirst_10 r x1 Qa n1 v2 M → wX6_orderFirst_10 r x1 Qb n2 v2 M → (∃ (M' : Mem), Fr (fun i k => x1 ≤ i ∧ i ≤ x1 + 4) M M' ∧ Qa M' ∧ Qb M' ∧ ∀ (Q' : Mem → Prop), Q' M' → wX6_orderFirst_10 r x1 Q' n1 v2 M) := by
  intro n1
  induction n1 with
  | zero => intro _ _ _ h1 _; exact h1.elim
  | succ n ih =>
    intro n2 v2 M h1 h2
    cases n2 with
    | zero => exact h2.elim
    | succ m =>
      have h1 : (((M r 6) ≤ v2 → Qa M) ∧ (¬ (M r 6) ≤ v2 → (wX4_at (r + 1) v2 M (fun r4 M3 => (wX4_at (r + 3) v2 M3 (fun r6 M5 => (wX1_swap x1 r4 r6 M5 (fun M7 => wX6_orderFirst_10 r x1 Qa n (v2 + (1 : Int32)) M7)))))))) := h1
      have h2 : (((M r 6) ≤ v2 → Qb M) ∧ (¬ (M r 6) ≤ v2 → (wX4_at (r + 1) v2 M (fun r4 M3 => (wX4_at (r + 3) v2 M3 (fun r6 M5 => (wX1_swap x1 r4 r6 M5 (fun M7 => wX6_orderFirst_10 r x1 Qb m (v2 + (1 : Int32)) M7)))))))) := h2
      by_cases hc1 : (M r 6) ≤ v2
      · have h1 := h1.1 hc1
        have h2 := h2.1 hc1
        exact ⟨M, (Fr_refl (fun i k => x1 ≤ i ∧ i ≤ x1 + 4) M), h1, h2, fun Q' hq => ⟨fun _ => hq, fun z => absurd hc1 z⟩⟩
      · have h1 := h1.2 hc1
        have h2 := h2.2 hc1
        obtain ⟨r4, M3, f2, h1, h2, b3⟩ := u_wX4_at (r + 1) v2 M h1 h2
        have g4 := Fr_tr (Fr_refl (fun i k => x1 ≤ i ∧ i ≤ x1 + 4) M) f2 (fun i k (h : False) => h.elim)
        obtain ⟨r6, M5, f5, h1, h2, b6⟩ := u_wX4_at (r + 3) v2 M3 h1 h2
        have g7 := Fr_tr g4 f5 (fun i k (h : False) => h.elim)
        obtain ⟨M7, f8, h1, h2, b9⟩ := u_wX1_swap x1 r4 r6 M5 h1 h2
        have g10 := Fr_tr g7 f8 (fun i k (h : x1 ≤ i ∧ i ≤ x1 + 4) => (show x1 ≤ i ∧ i ≤ x1 + 4 from by omega))
        obtain ⟨N15, f13, h1, h2, b14⟩ := ih m (v2 + (1 : Int32)) M7 h1 h2
        have hf := Fr_ts g10 f13
        exact ⟨N15, hf, h1, h2, fun Q' hq => ⟨fun z => absurd z hc1, fun _ => b3 _ (b6 _ (b9 _ (b14 _ hq)))⟩⟩
set_option maxHeartbeats 4000000 in
theorem u_wX6_orderFirst (r : Nat) (x1 : Nat) {Qa Qb : Mem → Prop} (M : Mem) (h1 : wX6_orderFirst r x1 M Qa) (h2 : wX6_orderFirst r x1 M Qb) : (∃ (M' : Mem), Fr (fun i k => x1 ≤ i ∧ i ≤ x1 + 4) M M' ∧ Qa M' ∧ Qb M' ∧ ∀ (Q' : Mem → Prop), Q' M' → wX6_orderFirst r x1 M Q') := by
  have h1 : (wX1_number x1 (M r 0) M (fun M1 => (∃ n2, wX6_orderFirst_10 r x1 Qa n2 (0 : Int32) M1))) := h1
  have h2 : (wX1_number x1 (M r 0) M (fun M1 => (∃ n2, wX6_orderFirst_10 r x1 Qb n2 (0 : Int32) M1))) := h2
  obtain ⟨M1, f1, h1, h2, b2⟩ := u_wX1_number x1 (M r 0) M h1 h2
  have g3 := Fr_tr (Fr_refl (fun i k => x1 ≤ i ∧ i ≤ x1 + 4) M) f1 (fun i k (h : x1 ≤ i ∧ i ≤ x1 + 4) => (show x1 ≤ i ∧ i ≤ x1 + 4 from by omega))
  obtain ⟨n2_a, h1⟩ := h1
  obtain ⟨n2_b, h2⟩ := h2
  obtain ⟨N8, f6, h1, h2, b7⟩ := u_wX6_orderFirst_10 r x1 n2_a n2_b (0 : Int32) M1 h1 h2
  have hf := Fr_ts g3 f6
  exact ⟨N8, hf, h1, h2, fun Q' hq => b2 _ ⟨n2_a, b7 _ hq⟩⟩
set_option maxHeartbeats 4000000 in
theorem u_wX6_toldTurns (r : Nat) {Qa Qb : Int32 → Mem → Prop} (M : Mem) (h1 : wX6_toldTurns r M Qa) (h2 : wX6_toldTurns r M Qb) : (∃ (a0 : Int32) (M' : Mem), Fr (fun i k => False) M M' ∧ Qa a0 M' ∧ Qb a0 M' ∧ ∀ (Q' : Int32 → Mem → Prop), Q' a0 M' → wX6_toldTurns r M Q') := by
  have h1 : Qa (if (M r 8) < (M r 1) then (M r 8) else (M r 1)) M := h1
  have h2 : Qb (if (M r 8) < (M r 1) then (M r 8) else (M r 1)) M := h2
  exact ⟨(if (M r 8) < (M r 1) then (M r 8) else (M r 1)), M, (Fr_refl (fun i k => False) M), h1, h2, fun Q' hq => hq⟩
set_option maxHeartbeats 4000000 in
theorem u_wX6_taleLeaf (r : Nat) (x1 : Int32) {Qa Qb : Int32 → Mem → Prop} (M : Mem) (h1 : wX6_taleLeaf r x1 M Qa) (h2 : wX6_taleLeaf r x1 M Qb) : (∃ (a0 : Int32) (M' : Mem), Fr (fun i k => False) M M' ∧ Qa a0 M' ∧ Qb a0 M' ∧ ∀ (Q' : Int32 → Mem → Prop), Q' a0 M' → wX6_taleLeaf r x1 M Q') := by
  have h1 : (wX4_at (r + 5) x1 M (fun r2 M1 => Qa r2 M1)) := h1
  have h2 : (wX4_at (r + 5) x1 M (fun r2 M1 => Qb r2 M1)) := h2
  obtain ⟨r2, M1, f1, h1, h2, b2⟩ := u_wX4_at (r + 5) x1 M h1 h2
  have g3 := Fr_tr (Fr_refl (fun i k => False) M) f1 (fun i k (h : False) => h.elim)
  exact ⟨r2, M1, g3, h1, h2, fun Q' hq => b2 _ hq⟩
