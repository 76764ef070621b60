/-! two runs of one walk come to one end; what a walk leaves as it was -/
def Fr (S : Nat → Nat → Prop) (M M' : Mem) : Prop := ∀ i k, ¬ S i k → M' i k = M i k
theorem Fr_refl (S : Nat → Nat → Prop) (M : Mem) : Fr S M M := fun _ _ _ => rfl
theorem Fr_mu {S : Nat → Nat → Prop} {M M1 : Mem} {i k : Nat} {v : Int32} (h : Fr S M M1) (hs : S i k) : Fr S M (mu M1 i k v) := fun a b hn => by
  rw [mu_no, h a b hn]
  by_cases h1 : a = i
  · refine Or.inr fun h2 => hn ?_
    rw [h1, h2]; exact hs
  · exact Or.inl h1
theorem Fr_muL {S : Nat → Nat → Prop} {M M1 : Mem} {i k : Nat} {v : Int64} (h : Fr S M M1) (hs : ∀ k, S i k) : Fr S M (muL M1 i k v) := Fr_mu (Fr_mu h (hs _)) (hs _)
theorem Fr_tr {S T : Nat → Nat → Prop} {M M1 M2 : Mem} (h1 : Fr S M M1) (h2 : Fr T M1 M2) (hs : ∀ i k, T i k → S i k) : Fr S M M2 := fun i k hn => (h2 i k fun h => hn (hs i k h)).trans (h1 i k hn)
theorem Fr_ts {S : Nat → Nat → Prop} {M M1 M2 : Mem} (h1 : Fr S M M1) (h2 : Fr S M1 M2) : Fr S M M2 := Fr_tr h1 h2 fun _ _ h => h
theorem kdB_2 {i : Nat} (h : kd i = 2) : 61 ≤ i ∧ i + 5 ≤ 78 := by
  by_cases hi : i < 106
  · have : ∀ j, j < 106 → kd j = 2 → 61 ≤ j ∧ j + 5 ≤ 78 := by decide +kernel
    exact this i hi h
  · rw [kd_big (by omega)] at h; exact absurd h (by decide)
theorem kdB_6 {i : Nat} (h : kd i = 6) : 4 ≤ i ∧ i + 8 ≤ 26 := by
  by_cases hi : i < 106
  · have : ∀ j, j < 106 → kd j = 6 → 4 ≤ j ∧ j + 8 ≤ 26 := by decide +kernel
    exact this i hi h
  · rw [kd_big (by omega)] at h; exact absurd h (by decide)
set_option maxHeartbeats 4000000 in
theorem u_wX4_fill_2 (r : Nat) (x1 : Int32) {Qa Qb : Mem → Prop} : ∀ (n1 n2 : Nat) (v2 : Int32) (M : Mem), wX4_fill_2 r x1 Qa n1 v2 M → wX4_fill_2 r x1 Qb n2 v2 M → (∃ (M' : Mem), Fr (fun i k => i = r + 1) M M' ∧ Qa M' ∧ Qb M' ∧ ∀ (Q' : Mem → Prop), Q' M' → wX4_fill_2 r x1 Q' n1 v2 M) := by
  intro n1
  induction n1 with
  | zero => intro _ _ _ h1 _; exact h1.elim
  | succ n ih =>
    intro n2 v2 M h1 h2
    cases n2 with
    | zero => exact h2.elim
    | succ m =>
      have h1 : (((Int32.ofNat (ln (r + 1))) ≤ v2 → Qa M) ∧ (¬ (Int32.ofNat (ln (r + 1))) ≤ v2 → (vp_in v2 (ln (r + 1)) ∧ wX4_fill_2 r x1 Qa n (v2 + (1 : Int32)) (mu M (r + 1) v2.toNatClampNeg x1)))) := h1
      have h2 : (((Int32.ofNat (ln (r + 1))) ≤ v2 → Qb M) ∧ (¬ (Int32.ofNat (ln (r + 1))) ≤ v2 → (vp_in v2 (ln (r + 1)) ∧ wX4_fill_2 r x1 Qb m (v2 + (1 : Int32)) (mu M (r + 1) v2.toNatClampNeg x1)))) := h2
      by_cases hc1 : (Int32.ofNat (ln (r + 1))) ≤ v2
      · have h1 := h1.1 hc1
        have h2 := h2.1 hc1
        exact ⟨M, (Fr_refl (fun i k => i = r + 1) M), h1, h2, fun Q' hq => ⟨fun _ => hq, fun z => absurd hc1 z⟩⟩
      · have h1 := h1.2 hc1
        have h2 := h2.2 hc1
        have s2 := h1.1
        have h1 := h1.2
        have h2 := h2.2
        obtain ⟨N7, f5, h1, h2, b6⟩ := ih m (v2 + (1 : Int32)) (mu M (r + 1) v2.toNatClampNeg x1) h1 h2
        have hf := Fr_ts (Fr_mu (Fr_refl (fun i k => i = r + 1) M) (show (r + 1) = r + 1 from by omega)) f5
        exact ⟨N7, hf, h1, h2, fun Q' hq => ⟨fun z => absurd z hc1, fun _ => ⟨s2, b6 _ hq⟩⟩⟩
set_option maxHeartbeats 4000000 in
theorem u_wX4_fill (r : Nat) (x1 : Int32) {Qa Qb : Mem → Prop} (M : Mem) (h1 : wX4_fill r x1 M Qa) (h2 : wX4_fill r x1 M Qb) : (∃ (M' : Mem), Fr (fun i k => i = r + 1) M M' ∧ Qa M' ∧ Qb M' ∧ ∀ (Q' : Mem → Prop), Q' M' → wX4_fill r x1 M Q') := by
  have h1 : (∃ n1, wX4_fill_2 r x1 Qa n1 (0 : Int32) M) := h1
  have h2 : (∃ n1, wX4_fill_2 r x1 Qb n1 (0 : Int32) M) := h2
  obtain ⟨n1_a, h1⟩ := h1
  obtain ⟨n1_b, h2⟩ := h2
  obtain ⟨N5, f3, h1, h2, b4⟩ := u_wX4_fill_2 r x1 n1_a n1_b (0 : Int32) M h1 h2
  have hf := Fr_ts (Fr_refl (fun i k => i = r + 1) M) f3
  exact ⟨N5, hf, h1, h2, fun Q' hq => ⟨n1_a, b4 _ hq⟩⟩
set_option maxHeartbeats 4000000 in
theorem u_wX0_begin (r : Nat) (x1 : Int32) {Qa Qb : Mem → Prop} (M : Mem) (h1 : wX0_begin r x1 M Qa) (h2 : wX0_begin r x1 M Qb) : (∃ (M' : Mem), Fr (fun i k => r ≤ i ∧ i ≤ r + 4) M M' ∧ Qa M' ∧ Qb M' ∧ ∀ (Q' : Mem → Prop), Q' M' → wX0_begin r x1 M Q') := by
  have h1 : (((1 : Int32) = 0 ∨ (1 : Int32) = 1) ∧ (wX4_fill (r + 1) (-4 : Int32) (mu (mu (mu M r 2 x1) r 3 (0 : Int32)) r 4 (1 : Int32)) (fun M1 => (wX4_fill (r + 3) (-4 : Int32) M1 (fun M2 => Qa M2))))) := h1
  have h2 : (((1 : Int32) = 0 ∨ (1 : Int32) = 1) ∧ (wX4_fill (r + 1) (-4 : Int32) (mu (mu (mu M r 2 x1) r 3 (0 : Int32)) r 4 (1 : Int32)) (fun M1 => (wX4_fill (r + 3) (-4 : Int32) M1 (fun M2 => Qb M2))))) := h2
  have s1 := h1.1
  have h1 := h1.2
  have h2 := h2.2
  obtain ⟨M1, f2, h1, h2, b3⟩ := u_wX4_fill (r + 1) (-4 : Int32) (mu (mu (mu M r 2 x1) r 3 (0 : Int32)) r 4 (1 : Int32)) h1 h2
  have g4 := Fr_tr (Fr_mu (Fr_mu (Fr_mu (Fr_refl (fun i k => r ≤ i ∧ i ≤ r + 4) M) (show r ≤ r ∧ r ≤ r + 4 from by omega)) (show r ≤ r ∧ r ≤ r + 4 from by omega)) (show r ≤ r ∧ r ≤ r + 4 from by omega)) f2 (fun i k (h : i = (r + 1) + 1) => (show r ≤ i ∧ i ≤ r + 4 from by omega))
  obtain ⟨M2, f5, h1, h2, b6⟩ := u_wX4_fill (r + 3) (-4 : Int32) M1 h1 h2
  have g7 := Fr_tr g4 f5 (fun i k (h : i = (r + 3) + 1) => (show r ≤ i ∧ i ≤ r + 4 from by omega))
  exact ⟨M2, g7, h1, h2, fun Q' hq => ⟨s1, b3 _ (b6 _ hq)⟩⟩
set_option maxHeartbeats 4000000 in
theorem u_wX4_at_24 (r : Nat) (x1 : Int32) {Qa Qb : Int32 → Mem → Prop} (s0 : Int32) (M : Mem) (h1 : wX4_at_24 r x1 Qa s0 M) (h2 : wX4_at_24 r x1 Qb s0 M) : (∃ (a0 : Int32) (M' : Mem), Fr (fun i k => False) M M' ∧ Qa a0 M' ∧ Qb a0 M' ∧ ∀ (Q' : Int32 → Mem → Prop), Q' a0 M' → wX4_at_24 r x1 Q' s0 M) := by
  have h1 : Qa s0 M := h1
  have h2 : Qb s0 M := h2
  exact ⟨s0, M, (Fr_refl (fun i k => False) M), h1, h2, fun Q' hq => hq⟩
set_option maxHeartbeats 4000000 in
theorem u_wX4_at_22 (r : Nat) (x1 : Int32) {Qa Qb : Int32 → Mem → Prop} (M : Mem) (h1 : wX4_at_22 r x1 Qa M) (h2 : wX4_at_22 r x1 Qb M) : (∃ (a0 : Int32) (M' : Mem), Fr (fun i k => False) M M' ∧ Qa a0 M' ∧ Qb a0 M' ∧ ∀ (Q' : Int32 → Mem → Prop), Q' a0 M' → wX4_at_22 r x1 Q' M) := by
  have h1 : wX4_at_24 r x1 Qa (-4 : Int32) M := h1
  have h2 : wX4_at_24 r x1 Qb (-4 : Int32) M := h2
  obtain ⟨c5, N6, f3, h1, h2, b4⟩ := u_wX4_at_24 r x1 (-4 : Int32) M h1 h2
  have hf := Fr_ts (Fr_refl (fun i k => False) M) f3
  exact ⟨c5, N6, hf, h1, h2, fun Q' hq => b4 _ hq⟩
set_option maxHeartbeats 4000000 in
theorem u_wX4_at (r : Nat) (x1 : Int32) {Qa Qb : Int32 → Mem → Prop} (M : Mem) (h1 : wX4_at r x1 M Qa) (h2 : wX4_at r x1 M Qb) : (∃ (a0 : Int32) (M' : Mem), Fr (fun i k => False) M M' ∧ Qa a0 M' ∧ Qb a0 M' ∧ ∀ (Q' : Int32 → Mem → Prop), Q' a0 M' → wX4_at r x1 M Q') := by
  have h1 : ((x1 < 0 → wX4_at_22 r x1 Qa M) ∧ (¬ x1 < 0 → (((Int32.ofNat (ln (r + 1))) ≤ x1 → wX4_at_22 r x1 Qa M) ∧ (¬ (Int32.ofNat (ln (r + 1))) ≤ x1 → (vp_in x1 (ln (r + 1)) ∧ wX4_at_24 r x1 Qa (M (r + 1) x1.toNatClampNeg) M))))) := h1
  have h2 : ((x1 < 0 → wX4_at_22 r x1 Qb M) ∧ (¬ x1 < 0 → (((Int32.ofNat (ln (r + 1))) ≤ x1 → wX4_at_22 r x1 Qb M) ∧ (¬ (Int32.ofNat (ln (r + 1))) ≤ x1 → (vp_in x1 (ln (r + 1)) ∧ wX4_at_24 r x1 Qb (M (r + 1) x1.toNatClampNeg) M))))) := h2
  by_cases hc1 : x1 < 0
  · have h1 := h1.1 hc1
    have h2 := h2.1 hc1
    obtain ⟨c6, N7, f4, h1, h2, b5⟩ := u_wX4_at_22 r x1 M h1 h2
    have hf := Fr_ts (Fr_refl (fun i k => False) M) f4
    exact ⟨c6, N7, hf, h1, h2, fun Q' hq => ⟨fun _ => b5 _ hq, fun z => absurd hc1 z⟩⟩
  · have h1 := h1.2 hc1
    have h2 := h2.2 hc1
    by_cases hc8 : (Int32.ofNat (ln (r + 1))) ≤ x1
    · have h1 := h1.1 hc8
      have h2 := h2.1 hc8
      obtain ⟨c13, N14, f11, h1, h2, b12⟩ := u_wX4_at_22 r x1 M h1 h2
      have hf := Fr_ts (Fr_refl (fun i k => False) M) f11
      exact ⟨c13, N14, hf, h1, h2, fun Q' hq => ⟨fun z => absurd z hc1, fun _ => ⟨fun _ => b12 _ hq, fun z => absurd hc8 z⟩⟩⟩
    · have h1 := h1.2 hc8
      have h2 := h2.2 hc8
      have s15 := h1.1
      have h1 := h1.2
      have h2 := h2.2
      obtain ⟨c20, N21, f18, h1, h2, b19⟩ := u_wX4_at_24 r x1 (M (r + 1) x1.toNatClampNeg) M h1 h2
      have hf := Fr_ts (Fr_refl (fun i k => False) M) f18
      exact ⟨c20, N21, hf, h1, h2, fun Q' hq => ⟨fun z => absurd z hc1, fun _ => ⟨fun z => absurd z hc8, fun _ => ⟨s15, b19 _ hq⟩⟩⟩⟩
set_option maxHeartbeats 4000000 in
theorem u_wX4_put_20 (r : Nat) (x1 : Int32) (x2 : Int32) {Qa Qb : Mem → Prop} (M : Mem) (h1 : wX4_put_20 r x1 x2 Qa M) (h2 : wX4_put_20 r x1 x2 Qb M) : (∃ (M' : Mem), Fr (fun i k => i = r + 1) M M' ∧ Qa M' ∧ Qb M' ∧ ∀ (Q' : Mem → Prop), Q' M' → wX4_put_20 r x1 x2 Q' M) := by
  have h1 : Qa M := h1
  have h2 : Qb M := h2
  exact ⟨M, (Fr_refl (fun i k => i = r + 1) M), h1, h2, fun Q' hq => hq⟩
set_option maxHeartbeats 4000000 in
theorem u_wX4_put (r : Nat) (x1 : Int32) (x2 : Int32) {Qa Qb : Mem → Prop} (M : Mem) (h1 : wX4_put r x1 x2 M Qa) (h2 : wX4_put r x1 x2 M Qb) : (∃ (M' : Mem), Fr (fun i k => i = r + 1) M M' ∧ Qa M' ∧ Qb M' ∧ ∀ (Q' : Mem → Prop), Q' M' → wX4_put r x1 x2 M Q') := by
  have h1 : ((x1 < 0 → wX4_put_20 r x1 x2 Qa M) ∧ (¬ x1 < 0 → (((Int32.ofNat (ln (r + 1))) ≤ x1 → wX4_put_20 r x1 x2 Qa M) ∧ (¬ (Int32.ofNat (ln (r + 1))) ≤ x1 → (vp_in x1 (ln (r + 1)) ∧ wX4_put_20 r x1 x2 Qa (mu M (r + 1) x1.toNatClampNeg x2)))))) := h1
  have h2 : ((x1 < 0 → wX4_put_20 r x1 x2 Qb M) ∧ (¬ x1 < 0 → (((Int32.ofNat (ln (r + 1))) ≤ x1 → wX4_put_20 r x1 x2 Qb M) ∧ (¬ (Int32.ofNat (ln (r + 1))) ≤ x1 → (vp_in x1 (ln (r + 1)) ∧ wX4_put_20 r x1 x2 Qb (mu M (r + 1) x1.toNatClampNeg x2)))))) := h2
  by_cases hc1 : x1 < 0
  · have h1 := h1.1 hc1
    have h2 := h2.1 hc1
    obtain ⟨N6, f4, h1, h2, b5⟩ := u_wX4_put_20 r x1 x2 M h1 h2
    have hf := Fr_ts (Fr_refl (fun i k => i = r + 1) M) f4
    exact ⟨N6, hf, h1, h2, fun Q' hq => ⟨fun _ => b5 _ hq, fun z => absurd hc1 z⟩⟩
  · have h1 := h1.2 hc1
    have h2 := h2.2 hc1
    by_cases hc7 : (Int32.ofNat (ln (r + 1))) ≤ x1
    · have h1 := h1.1 hc7
      have h2 := h2.1 hc7
      obtain ⟨N12, f10, h1, h2, b11⟩ := u_wX4_put_20 r x1 x2 M h1 h2
      have hf := Fr_ts (Fr_refl (fun i k => i = r + 1) M) f10
      exact ⟨N12, hf, h1, h2, fun Q' hq => ⟨fun z => absurd z hc1, fun _ => ⟨fun _ => b11 _ hq, fun z => absurd hc7 z⟩⟩⟩
    · have h1 := h1.2 hc7
      have h2 := h2.2 hc7
      have s13 := h1.1
      have h1 := h1.2
      have h2 := h2.2
      obtain ⟨N18, f16, h1, h2, b17⟩ := u_wX4_put_20 r x1 x2 (mu M (r + 1) x1.toNatClampNeg x2) h1 h2
      have hf := Fr_ts (Fr_mu (Fr_refl (fun i k => i = r + 1) M) (show (r + 1) = r + 1 from by omega)) f16
      exact ⟨N18, hf, h1, h2, fun Q' hq => ⟨fun z => absurd z hc1, fun _ => ⟨fun z => absurd z hc7, fun _ => ⟨s13, b17 _ hq⟩⟩⟩⟩
set_option maxHeartbeats 4000000 in
theorem u_wX0_bind_73 (r : Nat) (x1 : Int32) (x2 : Int32) {Qa Qb : Mem → Prop} (M : Mem) (h1 : wX0_bind_73 r x1 x2 Qa M) (h2 : wX0_bind_73 r x1 x2 Qb M) : (∃ (M' : Mem), Fr (fun i k => r ≤ i ∧ i ≤ r + 4) M M' ∧ Qa M' ∧ Qb M' ∧ ∀ (Q' : Mem → Prop), Q' M' → wX0_bind_73 r x1 x2 Q' M) := by
  have h1 : Qa M := h1
  have h2 : Qb M := h2
  exact ⟨M, (Fr_refl (fun i k => r ≤ i ∧ i ≤ r + 4) M), h1, h2, fun Q' hq => hq⟩
set_option maxHeartbeats 4000000 in
theorem u_wX0_bind_63 (r : Nat) (x1 : Int32) (x2 : Int32) {Qa Qb : Mem → Prop} (v3 : Int32) (M : Mem) (h1 : wX0_bind_63 r x1 x2 Qa v3 M) (h2 : wX0_bind_63 r x1 x2 Qb v3 M) : (∃ (M' : Mem), Fr (fun i k => r ≤ i ∧ i ≤ r + 4) M M' ∧ Qa M' ∧ Qb M' ∧ ∀ (Q' : Mem → Prop), Q' M' → wX0_bind_63 r x1 x2 Q' v3 M) := by
  have h1 : ((v3 = x2 → wX0_bind_73 r x1 x2 Qa M) ∧ (¬ v3 = x2 → (((0 : Int32) = 0 ∨ (0 : Int32) = 1) ∧ wX0_bind_73 r x1 x2 Qa (mu M r 4 (0 : Int32))))) := h1
  have h2 : ((v3 = x2 → wX0_bind_73 r x1 x2 Qb M) ∧ (¬ v3 = x2 → (((0 : Int32) = 0 ∨ (0 : Int32) = 1) ∧ wX0_bind_73 r x1 x2 Qb (mu M r 4 (0 : Int32))))) := h2
  by_cases hc1 : v3 = x2
  · have h1 := h1.1 hc1
    have h2 := h2.1 hc1
    obtain ⟨N6, f4, h1, h2, b5⟩ := u_wX0_bind_73 r x1 x2 M h1 h2
    have hf := Fr_ts (Fr_refl (fun i k => r ≤ i ∧ i ≤ r + 4) M) f4
    exact ⟨N6, hf, h1, h2, fun Q' hq => ⟨fun _ => b5 _ hq, fun z => absurd hc1 z⟩⟩
  · have h1 := h1.2 hc1
    have h2 := h2.2 hc1
    have s7 := h1.1
    have h1 := h1.2
    have h2 := h2.2
    obtain ⟨N12, f10, h1, h2, b11⟩ := u_wX0_bind_73 r x1 x2 (mu M r 4 (0 : Int32)) h1 h2
    have hf := Fr_ts (Fr_mu (Fr_refl (fun i k => r ≤ i ∧ i ≤ r + 4) M) (show r ≤ r ∧ r ≤ r + 4 from by omega)) f10
    exact ⟨N12, hf, h1, h2, fun Q' hq => ⟨fun z => absurd z hc1, fun _ => ⟨s7, b11 _ hq⟩⟩⟩
set_option maxHeartbeats 4000000 in
theorem u_wX0_bind (r : Nat) (x1 : Int32) (x2 : Int32) {Qa Qb : Mem → Prop} (M : Mem) (h1 : wX0_bind r x1 x2 M Qa) (h2 : wX0_bind r x1 x2 M Qb) : (∃ (M' : Mem), Fr (fun i k => r ≤ i ∧ i ≤ r + 4) M M' ∧ Qa M' ∧ Qb M' ∧ ∀ (Q' : Mem → Prop), Q' M' → wX0_bind r x1 x2 M Q') := by
  have h1 : (wX4_at (r + 1) x1 M (fun r2 M1 => (wX4_at (r + 3) x2 M1 (fun r4 M3 => ((¬ r2 = (-4 : Int32) → wX0_bind_63 r x1 x2 Qa r2 M3) ∧ (r2 = (-4 : Int32) → ((¬ r4 = (-4 : Int32) → wX0_bind_63 r x1 x2 Qa r2 M3) ∧ (r4 = (-4 : Int32) → (wX4_put (r + 1) x1 x2 M3 (fun M5 => (wX4_put (r + 3) x2 x1 M5 (fun M6 => wX0_bind_73 r x1 x2 Qa (mu M6 r 3 ((M6 r 3) + (1 : Int32))))))))))))))) := h1
  have h2 : (wX4_at (r + 1) x1 M (fun r2 M1 => (wX4_at (r + 3) x2 M1 (fun r4 M3 => ((¬ r2 = (-4 : Int32) → wX0_bind_63 r x1 x2 Qb r2 M3) ∧ (r2 = (-4 : Int32) → ((¬ r4 = (-4 : Int32) → wX0_bind_63 r x1 x2 Qb r2 M3) ∧ (r4 = (-4 : Int32) → (wX4_put (r + 1) x1 x2 M3 (fun M5 => (wX4_put (r + 3) x2 x1 M5 (fun M6 => wX0_bind_73 r x1 x2 Qb (mu M6 r 3 ((M6 r 3) + (1 : Int32))))))))))))))) := h2
  obtain ⟨r2, M1, f1, h1, h2, b2⟩ := u_wX4_at (r + 1) x1 M h1 h2
  have g3 := Fr_tr (Fr_refl (fun i k => r ≤ i ∧ i ≤ r + 4) M) f1 (fun i k (h : False) => h.elim)
  obtain ⟨r4, M3, f4, h1, h2, b5⟩ := u_wX4_at (r + 3) x2 M1 h1 h2
  have g6 := Fr_tr g3 f4 (fun i k (h : False) => h.elim)
  by_cases hc7 : r2 = (-4 : Int32)
  · have h1 := h1.2 hc7
    have h2 := h2.2 hc7
    by_cases hc8 : r4 = (-4 : Int32)
    · have h1 := h1.2 hc8
      have h2 := h2.2 hc8
      obtain ⟨M5, f9, h1, h2, b10⟩ := u_wX4_put (r + 1) x1 x2 M3 h1 h2
      have g11 := Fr_tr g6 f9 (fun i k (h : i = (r + 1) + 1) => (show r ≤ i ∧ i ≤ r + 4 from by omega))
      obtain ⟨M6, f12, h1, h2, b13⟩ := u_wX4_put (r + 3) x2 x1 M5 h1 h2
      have g14 := Fr_tr g11 f12 (fun i k (h : i = (r + 3) + 1) => (show r ≤ i ∧ i ≤ r + 4 from by omega))
      obtain ⟨N19, f17, h1, h2, b18⟩ := u_wX0_bind_73 r x1 x2 (mu M6 r 3 ((M6 r 3) + (1 : Int32))) h1 h2
      have hf := Fr_ts (Fr_mu g14 (show r ≤ r ∧ r ≤ r + 4 from by omega)) f17
      exact ⟨N19, hf, h1, h2, fun Q' hq => b2 _ (b5 _ ⟨fun z => absurd hc7 z, fun _ => ⟨fun z => absurd hc8 z, fun _ => b10 _ (b13 _ (b18 _ hq))⟩⟩)⟩
    · have h1 := h1.1 hc8
      have h2 := h2.1 hc8
      obtain ⟨N24, f22, h1, h2, b23⟩ := u_wX0_bind_63 r x1 x2 r2 M3 h1 h2
      have hf := Fr_ts g6 f22
      exact ⟨N24, hf, h1, h2, fun Q' hq => b2 _ (b5 _ ⟨fun z => absurd hc7 z, fun _ => ⟨fun _ => b23 _ hq, fun z => absurd z hc8⟩⟩)⟩
  · have h1 := h1.1 hc7
    have h2 := h2.1 hc7
    obtain ⟨N29, f27, h1, h2, b28⟩ := u_wX0_bind_63 r x1 x2 r2 M3 h1 h2
    have hf := Fr_ts g6 f27
    exact ⟨N29, hf, h1, h2, fun Q' hq => b2 _ (b5 _ ⟨fun _ => b28 _ hq, fun z => absurd z hc7⟩)⟩
set_option maxHeartbeats 4000000 in
theorem u_wX0_holds (r : Nat) {Qa Qb : Int32 → Mem → Prop} (M : Mem) (h1 : wX0_holds r M Qa) (h2 : wX0_holds r M Qb) : (∃ (a0 : Int32) (M' : Mem), Fr (fun i k => False) M M' ∧ Qa a0 M' ∧ Qb a0 M' ∧ ∀ (Q' : Int32 → Mem → Prop), Q' a0 M' → wX0_holds r M Q') := by
  have h1 : (((M r 4) = 0 ∨ (M r 4) = 1) ∧ Qa (M r 4) M) := h1
  have h2 : (((M r 4) = 0 ∨ (M r 4) = 1) ∧ Qb (M r 4) M) := h2
  have s1 := h1.1
  have h1 := h1.2
  have h2 := h2.2
  exact ⟨(M r 4), M, (Fr_refl (fun i k => False) M), h1, h2, fun Q' hq => ⟨s1, hq⟩⟩
set_option maxHeartbeats 4000000 in
theorem u_wX0_isAllButOne_18 (r : Nat) {Qa Qb : Int32 → Mem → Prop} (s0 : Int32) (M : Mem) (h1 : wX0_isAllButOne_18 r Qa s0 M) (h2 : wX0_isAllButOne_18 r Qb s0 M) : (∃ (a0 : Int32) (M' : Mem), Fr (fun i k => False) M M' ∧ Qa a0 M' ∧ Qb a0 M' ∧ ∀ (Q' : Int32 → Mem → Prop), Q' a0 M' → wX0_isAllButOne_18 r Q' s0 M) := by
  have h1 : ((s0 = 0 ∨ s0 = 1) ∧ Qa s0 M) := h1
  have h2 : ((s0 = 0 ∨ s0 = 1) ∧ Qb s0 M) := h2
  have s1 := h1.1
  have h1 := h1.2
  have h2 := h2.2
  exact ⟨s0, M, (Fr_refl (fun i k => False) M), h1, h2, fun Q' hq => ⟨s1, hq⟩⟩
set_option maxHeartbeats 4000000 in
theorem u_wX0_isAllButOne (r : Nat) {Qa Qb : Int32 → Mem → Prop} (M : Mem) (h1 : wX0_isAllButOne r M Qa) (h2 : wX0_isAllButOne r M Qb) : (∃ (a0 : Int32) (M' : Mem), Fr (fun i k => False) M M' ∧ Qa a0 M' ∧ Qb a0 M' ∧ ∀ (Q' : Int32 → Mem → Prop), Q' a0 M' → wX0_isAllButOne r M Q') := by
  have h1 : ((¬ (M r 3) = ((M r 2) - (1 : Int32)) → wX0_isAllButOne_18 r Qa (0 : Int32) M) ∧ ((M r 3) = ((M r 2) - (1 : Int32)) → wX0_isAllButOne_18 r Qa (1 : Int32) M)) := h1
  have h2 : ((¬ (M r 3) = ((M r 2) - (1 : Int32)) → wX0_isAllButOne_18 r Qb (0 : Int32) M) ∧ ((M r 3) = ((M r 2) - (1 : Int32)) → wX0_isAllButOne_18 r Qb (1 : Int32) M)) := h2
  by_cases hc1 : (M r 3) = ((M r 2) - (1 : Int32))
  · have h1 := h1.2 hc1
    have h2 := h2.2 hc1
    obtain ⟨c6, N7, f4, h1, h2, b5⟩ := u_wX0_isAllButOne_18 r (1 : Int32) M h1 h2
    have hf := Fr_ts (Fr_refl (fun i k => False) M) f4
    exact ⟨c6, N7, hf, h1, h2, fun Q' hq => ⟨fun z => absurd hc1 z, fun _ => b5 _ hq⟩⟩
  · have h1 := h1.1 hc1
    have h2 := h2.1 hc1
    obtain ⟨c12, N13, f10, h1, h2, b11⟩ := u_wX0_isAllButOne_18 r (0 : Int32) M h1 h2
    have hf := Fr_ts (Fr_refl (fun i k => False) M) f10
    exact ⟨c12, N13, hf, h1, h2, fun Q' hq => ⟨fun _ => b11 _ hq, fun z => absurd z hc1⟩⟩
set_option maxHeartbeats 4000000 in
theorem u_wX0_leafAt (r : Nat) (x1 : Int32) {Qa Qb : Int32 → Mem → Prop} (M : Mem) (h1 : wX0_leafAt r x1 M Qa) (h2 : wX0_leafAt r x1 M Qb) : (∃ (a0 : Int32) (M' : Mem), Fr (fun i k => False) M M' ∧ Qa a0 M' ∧ Qb a0 M' ∧ ∀ (Q' : Int32 → Mem → Prop), Q' a0 M' → wX0_leafAt r x1 M Q') := by
  have h1 : (wX4_at (r + 1) x1 M (fun r2 M1 => Qa r2 M1)) := h1
  have h2 : (wX4_at (r + 1) x1 M (fun r2 M1 => Qb r2 M1)) := h2
  obtain ⟨r2, M1, f1, h1, h2, b2⟩ := u_wX4_at (r + 1) x1 M h1 h2
  have g3 := Fr_tr (Fr_refl (fun i k => False) M) f1 (fun i k (h : False) => h.elim)
  exact ⟨r2, M1, g3, h1, h2, fun Q' hq => b2 _ hq⟩
set_option maxHeartbeats 4000000 in
theorem u_wX0_fillUp_58 (r : Nat) {k_4a k_4b : Int32 → Int32 → Mem → Prop} {Qa Qb : Mem → Prop} (v1 : Int32) (v2 : Int32) (M : Mem) (h1 : wX0_fillUp_58 r k_4a Qa v1 v2 M) (h2 : wX0_fillUp_58 r k_4b Qb v1 v2 M) : (∃ (M' : Mem), Fr (fun i k => r ≤ i ∧ i ≤ r + 4) M M' ∧ Qa M' ∧ Qb M' ∧ ∀ (k'0 : Int32 → Int32 → Mem → Prop) (Q' : Mem → Prop), Q' M' → wX0_fillUp_58 r k'0 Q' v1 v2 M) ∨ (∃ (a0 : Int32) (a1 : Int32) (M' : Mem), Fr (fun i k => r ≤ i ∧ i ≤ r + 4) M M' ∧ k_4a a0 a1 M' ∧ k_4b a0 a1 M' ∧ ∀ (k'0 : Int32 → Int32 → Mem → Prop) (Q' : Mem → Prop), k'0 a0 a1 M' → wX0_fillUp_58 r k'0 Q' v1 v2 M) := by
  have h1 : k_4a v1 (v2 + (1 : Int32)) M := h1
  have h2 : k_4b v1 (v2 + (1 : Int32)) M := h2
  exact Or.inr ⟨v1, (v2 + (1 : Int32)), M, (Fr_refl (fun i k => r ≤ i ∧ i ≤ r + 4) M), h1, h2, fun k'0 Q' hq => hq⟩
set_option maxHeartbeats 4000000 in
theorem u_wX0_fillUp_52 (r : Nat) {k_4a k_4b : Int32 → Int32 → Mem → Prop} {Qa Qb : Mem → Prop} (v1 : Int32) (v2 : Int32) (M : Mem) (h1 : wX0_fillUp_52 r k_4a Qa v1 v2 M) (h2 : wX0_fillUp_52 r k_4b Qb v1 v2 M) : (∃ (M' : Mem), Fr (fun i k => r ≤ i ∧ i ≤ r + 4) M M' ∧ Qa M' ∧ Qb M' ∧ ∀ (k'0 : Int32 → Int32 → Mem → Prop) (Q' : Mem → Prop), Q' M' → wX0_fillUp_52 r k'0 Q' v1 v2 M) ∨ (∃ (a0 : Int32) (a1 : Int32) (M' : Mem), Fr (fun i k => r ≤ i ∧ i ≤ r + 4) M M' ∧ k_4a a0 a1 M' ∧ k_4b a0 a1 M' ∧ ∀ (k'0 : Int32 → Int32 → Mem → Prop) (Q' : Mem → Prop), k'0 a0 a1 M' → wX0_fillUp_52 r k'0 Q' v1 v2 M) := by
  have h1 : (wX0_bind r v1 v2 M (fun M7 => wX0_fillUp_58 r (k_4a) Qa v1 v2 M7)) := h1
  have h2 : (wX0_bind r v1 v2 M (fun M7 => wX0_fillUp_58 r (k_4b) Qb v1 v2 M7)) := h2
  obtain ⟨M7, f1, h1, h2, b2⟩ := u_wX0_bind r v1 v2 M h1 h2
  have g3 := Fr_tr (Fr_refl (fun i k => r ≤ i ∧ i ≤ r + 4) M) f1 (fun i k (h : r ≤ i ∧ i ≤ r + 4) => (show r ≤ i ∧ i ≤ r + 4 from by omega))
  rcases u_wX0_fillUp_58 r v1 v2 M7 h1 h2 with ⟨N8, f6, h1, h2, b7⟩ | ⟨c9, c10, N11, f6, h1, h2, b7⟩
  · have hf := Fr_ts g3 f6
    exact Or.inl ⟨N8, hf, h1, h2, fun k'0 Q' hq => b2 _ (b7 _ _ hq)⟩
  · have hf := Fr_ts g3 f6
    exact Or.inr ⟨c9, c10, N11, hf, h1, h2, fun k'0 Q' hq => b2 _ (b7 _ _ hq)⟩
set_option maxHeartbeats 4000000 in
theorem u_wX0_fillUp_25 (r : Nat) {k_4a k_4b : Int32 → Int32 → Mem → Prop} {Qa Qb : Mem → Prop} : ∀ (n1 n2 : Nat) (v1 : Int32) (v2 : Int32) (M : Mem), wX0_fillUp_25 r k_4a Qa n1 v1 v2 M → wX0_fillUp_25 r k_4b Qb n2 v1 v2 M → (∃ (M' : Mem), Fr (fun i k => r ≤ i ∧ i ≤ r + 4) M M' ∧ Qa M' ∧ Qb M' ∧ ∀ (k'0 : Int32 → Int32 → Mem → Prop) (Q' : Mem → Prop), Q' M' → wX0_fillUp_25 r k'0 Q' n1 v1 v2 M) ∨ (∃ (a0 : Int32) (a1 : Int32) (M' : Mem), Fr (fun i k => r ≤ i ∧ i ≤ r + 4) M M' ∧ k_4a a0 a1 M' ∧ k_4b a0 a1 M' ∧ ∀ (k'0 : Int32 → Int32 → Mem → Prop) (Q' : Mem → Prop), k'0 a0 a1 M' → wX0_fillUp_25 r k'0 Q' n1 v1 v2 M) := by
  intro n1
  induction n1 with
  | zero => intro _ _ _ _ h1 _; exact h1.elim
  | succ n ih =>
    intro n2 v1 v2 M h1 h2
    cases n2 with
    | zero => exact h2.elim
    | succ m =>
      have h1 : (((M r 2) ≤ v1 → wX0_fillUp_52 r (k_4a) Qa v1 v2 M) ∧ (¬ (M r 2) ≤ v1 → (wX4_at (r + 1) v1 M (fun r6 M5 => ((r6 = (-4 : Int32) → wX0_fillUp_52 r (k_4a) Qa v1 v2 M5) ∧ (¬ r6 = (-4 : Int32) → wX0_fillUp_25 r k_4a Qa n (v1 + (1 : Int32)) v2 M5)))))) := h1
      have h2 : (((M r 2) ≤ v1 → wX0_fillUp_52 r (k_4b) Qb v1 v2 M) ∧ (¬ (M r 2) ≤ v1 → (wX4_at (r + 1) v1 M (fun r6 M5 => ((r6 = (-4 : Int32) → wX0_fillUp_52 r (k_4b) Qb v1 v2 M5) ∧ (¬ r6 = (-4 : Int32) → wX0_fillUp_25 r k_4b Qb m (v1 + (1 : Int32)) v2 M5)))))) := h2
      by_cases hc1 : (M r 2) ≤ v1
      · have h1 := h1.1 hc1
        have h2 := h2.1 hc1
        rcases u_wX0_fillUp_52 r v1 v2 M h1 h2 with ⟨N6, f4, h1, h2, b5⟩ | ⟨c7, c8, N9, f4, h1, h2, b5⟩
        · have hf := Fr_ts (Fr_refl (fun i k => r ≤ i ∧ i ≤ r + 4) M) f4
          exact Or.inl ⟨N6, hf, h1, h2, fun k'0 Q' hq => ⟨fun _ => b5 _ _ hq, fun z => absurd hc1 z⟩⟩
        · have hf := Fr_ts (Fr_refl (fun i k => r ≤ i ∧ i ≤ r + 4) M) f4
          exact Or.inr ⟨c7, c8, N9, hf, h1, h2, fun k'0 Q' hq => ⟨fun _ => b5 _ _ hq, fun z => absurd hc1 z⟩⟩
      · have h1 := h1.2 hc1
        have h2 := h2.2 hc1
        obtain ⟨r6, M5, f10, h1, h2, b11⟩ := u_wX4_at (r + 1) v1 M h1 h2
        have g12 := Fr_tr (Fr_refl (fun i k => r ≤ i ∧ i ≤ r + 4) M) f10 (fun i k (h : False) => h.elim)
        by_cases hc13 : r6 = (-4 : Int32)
        · have h1 := h1.1 hc13
          have h2 := h2.1 hc13
          rcases u_wX0_fillUp_52 r v1 v2 M5 h1 h2 with ⟨N18, f16, h1, h2, b17⟩ | ⟨c19, c20, N21, f16, h1, h2, b17⟩
          · have hf := Fr_ts g12 f16
            exact Or.inl ⟨N18, hf, h1, h2, fun k'0 Q' hq => ⟨fun z => absurd z hc1, fun _ => b11 _ ⟨fun _ => b17 _ _ hq, fun z => absurd hc13 z⟩⟩⟩
          · have hf := Fr_ts g12 f16
            exact Or.inr ⟨c19, c20, N21, hf, h1, h2, fun k'0 Q' hq => ⟨fun z => absurd z hc1, fun _ => b11 _ ⟨fun _ => b17 _ _ hq, fun z => absurd hc13 z⟩⟩⟩
        · have h1 := h1.2 hc13
          have h2 := h2.2 hc13
          rcases ih m (v1 + (1 : Int32)) v2 M5 h1 h2 with ⟨N26, f24, h1, h2, b25⟩ | ⟨c27, c28, N29, f24, h1, h2, b25⟩
          · have hf := Fr_ts g12 f24
            exact Or.inl ⟨N26, hf, h1, h2, fun k'0 Q' hq => ⟨fun z => absurd z hc1, fun _ => b11 _ ⟨fun z => absurd z hc13, fun _ => b25 _ _ hq⟩⟩⟩
          · have hf := Fr_ts g12 f24
            exact Or.inr ⟨c27, c28, N29, hf, h1, h2, fun k'0 Q' hq => ⟨fun z => absurd z hc1, fun _ => b11 _ ⟨fun z => absurd z hc13, fun _ => b25 _ _ hq⟩⟩⟩
set_option maxHeartbeats 4000000 in
theorem u_wX0_fillUp_4 (r : Nat) {Qa Qb : Mem → Prop} : ∀ (n1 n2 : Nat) (v1 : Int32) (v2 : Int32) (M : Mem), wX0_fillUp_4 r Qa n1 v1 v2 M → wX0_fillUp_4 r Qb n2 v1 v2 M → (∃ (M' : Mem), Fr (fun i k => r ≤ i ∧ i ≤ r + 4) M M' ∧ Qa M' ∧ Qb M' ∧ ∀ (Q' : Mem → Prop), Q' M' → wX0_fillUp_4 r Q' n1 v1 v2 M) := by
  intro n1
  induction n1 with
  | zero => intro _ _ _ _ h1 _; exact h1.elim
  | succ n ih =>
    intro n2 v1 v2 M h1 h2
    cases n2 with
    | zero => exact h2.elim
    | succ m =>
      have h1 : (((M r 2) ≤ v2 → Qa M) ∧ (¬ (M r 2) ≤ v2 → (wX4_at (r + 3) v2 M (fun r3 M2 => ((¬ r3 = (-4 : Int32) → wX0_fillUp_58 r (wX0_fillUp_4 r Qa n) Qa v1 v2 M2) ∧ (r3 = (-4 : Int32) → (∃ n4, wX0_fillUp_25 r (wX0_fillUp_4 r Qa n) Qa n4 v1 v2 M2))))))) := h1
      have h2 : (((M r 2) ≤ v2 → Qb M) ∧ (¬ (M r 2) ≤ v2 → (wX4_at (r + 3) v2 M (fun r3 M2 => ((¬ r3 = (-4 : Int32) → wX0_fillUp_58 r (wX0_fillUp_4 r Qb m) Qb v1 v2 M2) ∧ (r3 = (-4 : Int32) → (∃ n4, wX0_fillUp_25 r (wX0_fillUp_4 r Qb m) Qb n4 v1 v2 M2))))))) := h2
      by_cases hc1 : (M r 2) ≤ v2
      · have h1 := h1.1 hc1
        have h2 := h2.1 hc1
        exact ⟨M, (Fr_refl (fun i k => r ≤ i ∧ i ≤ r + 4) M), h1, h2, fun Q' hq => ⟨fun _ => hq, fun z => absurd hc1 z⟩⟩
      · have h1 := h1.2 hc1
        have h2 := h2.2 hc1
        obtain ⟨r3, M2, f2, h1, h2, b3⟩ := u_wX4_at (r + 3) v2 M h1 h2
        have g4 := Fr_tr (Fr_refl (fun i k => r ≤ i ∧ i ≤ r + 4) M) f2 (fun i k (h : False) => h.elim)
        by_cases hc5 : r3 = (-4 : Int32)
        · have h1 := h1.2 hc5
          have h2 := h2.2 hc5
          obtain ⟨n4_a, h1⟩ := h1
          obtain ⟨n4_b, h2⟩ := h2
          rcases u_wX0_fillUp_25 r n4_a n4_b v1 v2 M2 h1 h2 with ⟨N10, f8, h1, h2, b9⟩ | ⟨c11, c12, N13, f8, h1, h2, b9⟩
          · have hf := Fr_ts g4 f8
            exact ⟨N10, hf, h1, h2, fun Q' hq => ⟨fun z => absurd z hc1, fun _ => b3 _ ⟨fun z => absurd hc5 z, fun _ => ⟨n4_a, b9 _ _ hq⟩⟩⟩⟩
          · have hf := Fr_ts g4 f8
            obtain ⟨N16, f14, h1, h2, b15⟩ := ih m c11 c12 N13 h1 h2
            have hf := Fr_ts hf f14
            exact ⟨N16, hf, h1, h2, fun Q' hq => ⟨fun z => absurd z hc1, fun _ => b3 _ ⟨fun z => absurd hc5 z, fun _ => ⟨n4_a, b9 _ _ (b15 _ hq)⟩⟩⟩⟩
        · have h1 := h1.1 hc5
          have h2 := h2.1 hc5
          rcases u_wX0_fillUp_58 r v1 v2 M2 h1 h2 with ⟨N21, f19, h1, h2, b20⟩ | ⟨c22, c23, N24, f19, h1, h2, b20⟩
          · have hf := Fr_ts g4 f19
            exact ⟨N21, hf, h1, h2, fun Q' hq => ⟨fun z => absurd z hc1, fun _ => b3 _ ⟨fun _ => b20 _ _ hq, fun z => absurd z hc5⟩⟩⟩
          · have hf := Fr_ts g4 f19
            obtain ⟨N27, f25, h1, h2, b26⟩ := ih m c22 c23 N24 h1 h2
            have hf := Fr_ts hf f25
            exact ⟨N27, hf, h1, h2, fun Q' hq => ⟨fun z => absurd z hc1, fun _ => b3 _ ⟨fun _ => b20 _ _ (b26 _ hq), fun z => absurd z hc5⟩⟩⟩
set_option maxHeartbeats 4000000 in
theorem u_wX0_fillUp (r : Nat) {Qa Qb : Mem → Prop} (M : Mem) (h1 : wX0_fillUp r M Qa) (h2 : wX0_fillUp r M Qb) : (∃ (M' : Mem), Fr (fun i k => r ≤ i ∧ i ≤ r + 4) M M' ∧ Qa M' ∧ Qb M' ∧ ∀ (Q' : Mem → Prop), Q' M' → wX0_fillUp r M Q') := by
  have h1 : (∃ n1, wX0_fillUp_4 r Qa n1 (0 : Int32) (0 : Int32) M) := h1
  have h2 : (∃ n1, wX0_fillUp_4 r Qb n1 (0 : Int32) (0 : Int32) M) := h2
  obtain ⟨n1_a, h1⟩ := h1
  obtain ⟨n1_b, h2⟩ := h2
  obtain ⟨N5, f3, h1, h2, b4⟩ := u_wX0_fillUp_4 r n1_a n1_b (0 : Int32) (0 : Int32) M h1 h2
  have hf := Fr_ts (Fr_refl (fun i k => r ≤ i ∧ i ≤ r + 4) M) f3
  exact ⟨N5, hf, h1, h2, fun Q' hq => ⟨n1_a, b4 _ hq⟩⟩
set_option maxHeartbeats 4000000 in
theorem u_wX1_number_7 (r : Nat) (x1 : Int32) {Qa Qb : Mem → Prop} : ∀ (n1 n2 : Nat) (v2 : Int32) (M : Mem), wX1_number_7 r x1 Qa n1 v2 M → wX1_number_7 r x1 Qb n2 v2 M → (∃ (M' : Mem), Fr (fun i k => r ≤ i ∧ i ≤ r + 4) M M' ∧ Qa M' ∧ Qb M' ∧ ∀ (Q' : Mem → Prop), Q' M' → wX1_number_7 r x1 Q' n1 v2 M) := by
  intro n1
  induction n1 with
  | zero => intro _ _ _ h1 _; exact h1.elim
  | succ n ih =>
    intro n2 v2 M h1 h2
    cases n2 with
    | zero => exact h2.elim
    | succ m =>
      have h1 : ((x1 ≤ v2 → Qa M) ∧ (¬ x1 ≤ v2 → (wX4_put (r + 1) v2 v2 M (fun M2 => wX1_number_7 r x1 Qa n (v2 + (1 : Int32)) M2)))) := h1
      have h2 : ((x1 ≤ v2 → Qb M) ∧ (¬ x1 ≤ v2 → (wX4_put (r + 1) v2 v2 M (fun M2 => wX1_number_7 r x1 Qb m (v2 + (1 : Int32)) M2)))) := h2
      by_cases hc1 : x1 ≤ v2
      · have h1 := h1.1 hc1
        have h2 := h2.1 hc1
        exact ⟨M, (Fr_refl (fun i k => r ≤ i ∧ i ≤ r + 4) M), h1, h2, fun Q' hq => ⟨fun _ => hq, fun z => absurd hc1 z⟩⟩
      · have h1 := h1.2 hc1
        have h2 := h2.2 hc1
        obtain ⟨M2, f2, h1, h2, b3⟩ := u_wX4_put (r + 1) v2 v2 M h1 h2
        have g4 := Fr_tr (Fr_refl (fun i k => r ≤ i ∧ i ≤ r + 4) M) f2 (fun i k (h : i = (r + 1) + 1) => (show r ≤ i ∧ i ≤ r + 4 from by omega))
        obtain ⟨N9, f7, h1, h2, b8⟩ := ih m (v2 + (1 : Int32)) M2 h1 h2
        have hf := Fr_ts g4 f7
        exact ⟨N9, hf, h1, h2, fun Q' hq => ⟨fun z => absurd z hc1, fun _ => b3 _ (b8 _ hq)⟩⟩
set_option maxHeartbeats 4000000 in
theorem u_wX1_number (r : Nat) (x1 : Int32) {Qa Qb : Mem → Prop} (M : Mem) (h1 : wX1_number r x1 M Qa) (h2 : wX1_number r x1 M Qb) : (∃ (M' : Mem), Fr (fun i k => r ≤ i ∧ i ≤ r + 4) M M' ∧ Qa M' ∧ Qb M' ∧ ∀ (Q' : Mem → Prop), Q' M' → wX1_number r x1 M Q') := by
  have h1 : (∃ n1, wX1_number_7 r x1 Qa n1 (0 : Int32) (mu M r 2 x1)) := h1
  have h2 : (∃ n1, wX1_number_7 r x1 Qb n1 (0 : Int32) (mu M r 2 x1)) := h2
  obtain ⟨n1_a, h1⟩ := h1
  obtain ⟨n1_b, h2⟩ := h2
  obtain ⟨N5, f3, h1, h2, b4⟩ := u_wX1_number_7 r x1 n1_a n1_b (0 : Int32) (mu M r 2 x1) h1 h2
  have hf := Fr_ts (Fr_mu (Fr_refl (fun i k => r ≤ i ∧ i ≤ r + 4) M) (show r ≤ r ∧ r ≤ r + 4 from by omega)) f3
  exact ⟨N5, hf, h1, h2, fun Q' hq => ⟨n1_a, b4 _ hq⟩⟩
set_option maxHeartbeats 4000000 in
theorem u_wX1_leafAt (r : Nat) (x1 : Int32) {Qa Qb : Int32 → Mem → Prop} (M : Mem) (h1 : wX1_leafAt r x1 M Qa) (h2 : wX1_leafAt r x1 M Qb) : (∃ (a0 : Int32) (M' : Mem), Fr (fun i k => False) M M' ∧ Qa a0 M' ∧ Qb a0 M' ∧ ∀ (Q' : Int32 → Mem → Prop), Q' a0 M' → wX1_leafAt r x1 M Q') := by
  have h1 : (wX4_at (r + 1) x1 M (fun r2 M1 => Qa r2 M1)) := h1
  have h2 : (wX4_at (r + 1) x1 M (fun r2 M1 => Qb r2 M1)) := h2
  obtain ⟨r2, M1, f1, h1, h2, b2⟩ := u_wX4_at (r + 1) x1 M h1 h2
  have g3 := Fr_tr (Fr_refl (fun i k => False) M) f1 (fun i k (h : False) => h.elim)
  exact ⟨r2, M1, g3, h1, h2, fun Q' hq => b2 _ hq⟩
set_option maxHeartbeats 4000000 in
theorem u_wX1_placeOf_2 (r : Nat) (x1 : Int32) {Qa Qb : Int32 → Mem → Prop} : ∀ (n1 n2 : Nat) (v2 : Int32) (M : Mem), wX1_placeOf_2 r x1 Qa n1 v2 M → wX1_placeOf_2 r x1 Qb n2 v2 M → (∃ (a0 : Int32) (M' : Mem), Fr (fun i k => False) M M' ∧ Qa a0 M' ∧ Qb a0 M' ∧ ∀ (Q' : Int32 → Mem → Prop), Q' a0 M' → wX1_placeOf_2 r x1 Q' n1 v2 M) := by
  intro n1
  induction n1 with
  | zero => intro _ _ _ h1 _; exact h1.elim
  | succ n ih =>
    intro n2 v2 M h1 h2
    cases n2 with
    | zero => exact h2.elim
    | succ m =>
      have h1 : (((M r 2) ≤ v2 → Qa (-4 : Int32) M) ∧ (¬ (M r 2) ≤ v2 → (wX4_at (r + 1) v2 M (fun r3 M2 => ((¬ r3 = x1 → wX1_placeOf_2 r x1 Qa n (v2 + (1 : Int32)) M2) ∧ (r3 = x1 → Qa v2 M2)))))) := h1
      have h2 : (((M r 2) ≤ v2 → Qb (-4 : Int32) M) ∧ (¬ (M r 2) ≤ v2 → (wX4_at (r + 1) v2 M (fun r3 M2 => ((¬ r3 = x1 → wX1_placeOf_2 r x1 Qb m (v2 + (1 : Int32)) M2) ∧ (r3 = x1 → Qb v2 M2)))))) := h2
      by_cases hc1 : (M r 2) ≤ v2
      · have h1 := h1.1 hc1
        have h2 := h2.1 hc1
        exact ⟨(-4 : Int32), M, (Fr_refl (fun i k => False) M), h1, h2, fun Q' hq => ⟨fun _ => hq, fun z => absurd hc1 z⟩⟩
      · have h1 := h1.2 hc1
        have h2 := h2.2 hc1
        obtain ⟨r3, M2, f2, h1, h2, b3⟩ := u_wX4_at (r + 1) v2 M h1 h2
        have g4 := Fr_tr (Fr_refl (fun i k => False) M) f2 (fun i k (h : False) => h.elim)
        by_cases hc5 : r3 = x1
        · have h1 := h1.2 hc5
          have h2 := h2.2 hc5
          exact ⟨v2, M2, g4, h1, h2, fun Q' hq => ⟨fun z => absurd z hc1, fun _ => b3 _ ⟨fun z => absurd hc5 z, fun _ => hq⟩⟩⟩
        · have h1 := h1.1 hc5
          have h2 := h2.1 hc5
          obtain ⟨c10, N11, f8, h1, h2, b9⟩ := ih m (v2 + (1 : Int32)) M2 h1 h2
          have hf := Fr_ts g4 f8
          exact ⟨c10, N11, hf, h1, h2, fun Q' hq => ⟨fun z => absurd z hc1, fun _ => b3 _ ⟨fun _ => b9 _ hq, fun z => absurd z hc5⟩⟩⟩
set_option maxHeartbeats 4000000 in
theorem u_wX1_placeOf (r : Nat) (x1 : Int32) {Qa Qb : Int32 → Mem → Prop} (M : Mem) (h1 : wX1_placeOf r x1 M Qa) (h2 : wX1_placeOf r x1 M Qb) : (∃ (a0 : Int32) (M' : Mem), Fr (fun i k => False) M M' ∧ Qa a0 M' ∧ Qb a0 M' ∧ ∀ (Q' : Int32 → Mem → Prop), Q' a0 M' → wX1_placeOf r x1 M Q') := by
  have h1 : (∃ n1, wX1_placeOf_2 r x1 Qa n1 (0 : Int32) M) := h1
  have h2 : (∃ n1, wX1_placeOf_2 r x1 Qb n1 (0 : Int32) M) := h2
  obtain ⟨n1_a, h1⟩ := h1
  obtain ⟨n1_b, h2⟩ := h2
  obtain ⟨c5, N6, f3, h1, h2, b4⟩ := u_wX1_placeOf_2 r x1 n1_a n1_b (0 : Int32) M h1 h2
  have hf := Fr_ts (Fr_refl (fun i k => False) M) f3
  exact ⟨c5, N6, hf, h1, h2, fun Q' hq => ⟨n1_a, b4 _ hq⟩⟩
set_option maxHeartbeats 4000000 in
theorem u_wX1_swap (r : Nat) (x1 : Int32) (x2 : Int32) {Qa Qb : Mem → Prop} (M : Mem) (h1 : wX1_swap r x1 x2 M Qa) (h2 : wX1_swap r x1 x2 M Qb) : (∃ (M' : Mem), Fr (fun i k => r ≤ i ∧ i ≤ r + 4) M M' ∧ Qa M' ∧ Qb M' ∧ ∀ (Q' : Mem → Prop), Q' M' → wX1_swap r x1 x2 M Q') := by
  have h1 : (wX4_at (r + 1) x1 M (fun r2 M1 => (wX4_at (r + 1) x2 M1 (fun r4 M3 => (wX4_put (r + 1) x1 r4 M3 (fun M5 => (wX4_put (r + 1) x2 r2 M5 (fun M6 => Qa M6)))))))) := h1
  have h2 : (wX4_at (r + 1) x1 M (fun r2 M1 => (wX4_at (r + 1) x2 M1 (fun r4 M3 => (wX4_put (r + 1) x1 r4 M3 (fun M5 => (wX4_put (r + 1) x2 r2 M5 (fun M6 => Qb M6)))))))) := h2
  obtain ⟨r2, M1, f1, h1, h2, b2⟩ := u_wX4_at (r + 1) x1 M h1 h2
  have g3 := Fr_tr (Fr_refl (fun i k => r ≤ i ∧ i ≤ r + 4) M) f1 (fun i k (h : False) => h.elim)
  obtain ⟨r4, M3, f4, h1, h2, b5⟩ := u_wX4_at (r + 1) x2 M1 h1 h2
  have g6 := Fr_tr g3 f4 (fun i k (h : False) => h.elim)
  obtain ⟨M5, f7, h1, h2, b8⟩ := u_wX4_put (r + 1) x1 r4 M3 h1 h2
  have g9 := Fr_tr g6 f7 (fun i k (h : i = (r + 1) + 1) => (show r ≤ i ∧ i ≤ r + 4 from by omega))
  obtain ⟨M6, f10, h1, h2, b11⟩ := u_wX4_put (r + 1) x2 r2 M5 h1 h2
  have g12 := Fr_tr g9 f10 (fun i k (h : i = (r + 1) + 1) => (show r ≤ i ∧ i ≤ r + 4 from by omega))
  exact ⟨M6, g12, h1, h2, fun Q' hq => b2 _ (b5 _ (b8 _ (b11 _ hq)))⟩
set_option maxHeartbeats 4000000 in
theorem u_wX4_copyFrom_2 (r : Nat) (x1 : Nat) {Qa Qb : Mem → Prop} : ∀ (n1 n2 : Nat) (v2 : Int32) (M : Mem), wX4_copyFrom_2 r x1 Qa n1 v2 M → wX4_copyFrom_2 r x1 Qb n2 v2 M → (∃ (M' : Mem), Fr (fun i k => i = r + 1) M M' ∧ Qa M' ∧ Qb M' ∧ ∀ (Q' : Mem → Prop), Q' M' → wX4_copyFrom_2 r x1 Q' n1 v2 M) := by
  intro n1
  induction n1 with
  | zero => intro _ _ _ h1 _; exact h1.elim
  | succ n ih =>
    intro n2 v2 M h1 h2
    cases n2 with
    | zero => exact h2.elim
    | succ m =>
      have h1 : (((Int32.ofNat (ln (r + 1))) ≤ v2 → Qa M) ∧ (¬ (Int32.ofNat (ln (r + 1))) ≤ v2 → (wX4_at x1 v2 M (fun r3 M2 => (vp_in v2 (ln (r + 1)) ∧ wX4_copyFrom_2 r x1 Qa n (v2 + (1 : Int32)) (mu M2 (r + 1) v2.toNatClampNeg r3)))))) := h1
      have h2 : (((Int32.ofNat (ln (r + 1))) ≤ v2 → Qb M) ∧ (¬ (Int32.ofNat (ln (r + 1))) ≤ v2 → (wX4_at x1 v2 M (fun r3 M2 => (vp_in v2 (ln (r + 1)) ∧ wX4_copyFrom_2 r x1 Qb m (v2 + (1 : Int32)) (mu M2 (r + 1) v2.toNatClampNeg r3)))))) := h2
      by_cases hc1 : (Int32.ofNat (ln (r + 1))) ≤ v2
      · have h1 := h1.1 hc1
        have h2 := h2.1 hc1
        exact ⟨M, (Fr_refl (fun i k => i = r + 1) M), h1, h2, fun Q' hq => ⟨fun _ => hq, fun z => absurd hc1 z⟩⟩
      · have h1 := h1.2 hc1
        have h2 := h2.2 hc1
        obtain ⟨r3, M2, f2, h1, h2, b3⟩ := u_wX4_at x1 v2 M h1 h2
        have g4 := Fr_tr (Fr_refl (fun i k => i = r + 1) M) f2 (fun i k (h : False) => h.elim)
        have s5 := h1.1
        have h1 := h1.2
        have h2 := h2.2
        obtain ⟨N10, f8, h1, h2, b9⟩ := ih m (v2 + (1 : Int32)) (mu M2 (r + 1) v2.toNatClampNeg r3) h1 h2
        have hf := Fr_ts (Fr_mu g4 (show (r + 1) = r + 1 from by omega)) f8
        exact ⟨N10, hf, h1, h2, fun Q' hq => ⟨fun z => absurd z hc1, fun _ => b3 _ ⟨s5, b9 _ hq⟩⟩⟩
set_option maxHeartbeats 4000000 in
theorem u_wX4_copyFrom (r : Nat) (x1 : Nat) {Qa Qb : Mem → Prop} (M : Mem) (h1 : wX4_copyFrom r x1 M Qa) (h2 : wX4_copyFrom r x1 M Qb) : (∃ (M' : Mem), Fr (fun i k => i = r + 1) M M' ∧ Qa M' ∧ Qb M' ∧ ∀ (Q' : Mem → Prop), Q' M' → wX4_copyFrom r x1 M Q') := by
  have h1 : (∃ n1, wX4_copyFrom_2 r x1 Qa n1 (0 : Int32) M) := h1
  have h2 : (∃ n1, wX4_copyFrom_2 r x1 Qb n1 (0 : Int32) M) := h2
  obtain ⟨n1_a, h1⟩ := h1
  obtain ⟨n1_b, h2⟩ := h2
  obtain ⟨N5, f3, h1, h2, b4⟩ := u_wX4_copyFrom_2 r x1 n1_a n1_b (0 : Int32) M h1 h2
  have hf := Fr_ts (Fr_refl (fun i k => i = r + 1) M) f3
  exact ⟨N5, hf, h1, h2, fun Q' hq => ⟨n1_a, b4 _ hq⟩⟩
set_option maxHeartbeats 4000000 in
theorem u_wX1_copyFrom (r : Nat) (x1 : Nat) {Qa Qb : Mem → Prop} (M : Mem) (h1 : wX1_copyFrom r x1 M Qa) (h2 : wX1_copyFrom r x1 M Qb) : (∃ (M' : Mem), Fr (fun i k => r ≤ i ∧ i ≤ r + 4) M M' ∧ Qa M' ∧ Qb M' ∧ ∀ (Q' : Mem → Prop), Q' M' → wX1_copyFrom r x1 M Q') := by
  have h1 : (wX4_copyFrom (r + 1) (x1 + 1) (mu M r 2 (M x1 2)) (fun M1 => Qa M1)) := h1
  have h2 : (wX4_copyFrom (r + 1) (x1 + 1) (mu M r 2 (M x1 2)) (fun M1 => Qb M1)) := h2
  obtain ⟨M1, f1, h1, h2, b2⟩ := u_wX4_copyFrom (r + 1) (x1 + 1) (mu M r 2 (M x1 2)) h1 h2
  have g3 := Fr_tr (Fr_mu (Fr_refl (fun i k => r ≤ i ∧ i ≤ r + 4) M) (show r ≤ r ∧ r ≤ r + 4 from by omega)) f1 (fun i k (h : i = (r + 1) + 1) => (show r ≤ i ∧ i ≤ r + 4 from by omega))
  exact ⟨M1, g3, h1, h2, fun Q' hq => b2 _ hq⟩
set_option maxHeartbeats 4000000 in
theorem u_wX1_cut_59 (r : Nat) {k_20a k_20b : Int32 → Int32 → Mem → Prop} {Qa Qb : Mem → Prop} (v1 : Int32) (v2 : Int32) (s0 : Int32) (s1 : Nat) (s2 : Int32) (s3 : Nat) (M : Mem) (h1 : wX1_cut_59 r k_20a Qa v1 v2 s0 s1 s2 s3 M) (h2 : wX1_cut_59 r k_20b Qb v1 v2 s0 s1 s2 s3 M) : (∃ (M' : Mem), Fr (fun i k => (r ≤ i ∧ i ≤ r + 4) ∨ i = s1 + 1 ∨ i = s3 + 1) M M' ∧ Qa M' ∧ Qb M' ∧ ∀ (k'0 : Int32 → Int32 → Mem → Prop) (Q' : Mem → Prop), Q' M' → wX1_cut_59 r k'0 Q' v1 v2 s0 s1 s2 s3 M) ∨ (∃ (a0 : Int32) (a1 : Int32) (M' : Mem), Fr (fun i k => (r ≤ i ∧ i ≤ r + 4) ∨ i = s1 + 1 ∨ i = s3 + 1) M M' ∧ k_20a a0 a1 M' ∧ k_20b a0 a1 M' ∧ ∀ (k'0 : Int32 → Int32 → Mem → Prop) (Q' : Mem → Prop), k'0 a0 a1 M' → wX1_cut_59 r k'0 Q' v1 v2 s0 s1 s2 s3 M) := by
  have h1 : (wX4_at s1 s0 M (fun r4 M3 => (wX4_put s3 s2 r4 M3 (fun M5 => k_20a v1 (v2 + (1 : Int32)) M5)))) := h1
  have h2 : (wX4_at s1 s0 M (fun r4 M3 => (wX4_put s3 s2 r4 M3 (fun M5 => k_20b v1 (v2 + (1 : Int32)) M5)))) := h2
  obtain ⟨r4, M3, f1, h1, h2, b2⟩ := u_wX4_at s1 s0 M h1 h2
  have g3 := Fr_tr (Fr_refl (fun i k => (r ≤ i ∧ i ≤ r + 4) ∨ i = s1 + 1 ∨ i = s3 + 1) M) f1 (fun i k (h : False) => h.elim)
  obtain ⟨M5, f4, h1, h2, b5⟩ := u_wX4_put s3 s2 r4 M3 h1 h2
  have g6 := Fr_tr g3 f4 (fun i k (h : i = s3 + 1) => (show (r ≤ i ∧ i ≤ r + 4) ∨ i = s1 + 1 ∨ i = s3 + 1 from by omega))
  exact Or.inr ⟨v1, (v2 + (1 : Int32)), M5, g6, h1, h2, fun k'0 Q' hq => b2 _ (b5 _ hq)⟩
set_option maxHeartbeats 4000000 in
theorem u_wX1_cut_20 (r : Nat) {Qa Qb : Mem → Prop} : ∀ (n1 n2 : Nat) (v1 : Int32) (v2 : Int32) (M : Mem), wX1_cut_20 r Qa n1 v1 v2 M → wX1_cut_20 r Qb n2 v1 v2 M → (∃ (M' : Mem), Fr (fun i k => r ≤ i ∧ i ≤ r + 4) M M' ∧ Qa M' ∧ Qb M' ∧ ∀ (Q' : Mem → Prop), Q' M' → wX1_cut_20 r Q' n1 v1 v2 M) := by
  intro n1
  induction n1 with
  | zero => intro _ _ _ _ h1 _; exact h1.elim
  | succ n ih =>
    intro n2 v1 v2 M h1 h2
    cases n2 with
    | zero => exact h2.elim
    | succ m =>
      have h1 : (((M r 2) ≤ v2 → Qa M) ∧ (¬ (M r 2) ≤ v2 → (((M r 2) ≤ (v2 + v1) → wX1_cut_59 r (wX1_cut_20 r Qa n) Qa v1 v2 ((v2 + v1) - (M r 2)) (r + 3) v2 (r + 1) M) ∧ (¬ (M r 2) ≤ (v2 + v1) → wX1_cut_59 r (wX1_cut_20 r Qa n) Qa v1 v2 (v2 + v1) (r + 3) v2 (r + 1) M)))) := h1
      have h2 : (((M r 2) ≤ v2 → Qb M) ∧ (¬ (M r 2) ≤ v2 → (((M r 2) ≤ (v2 + v1) → wX1_cut_59 r (wX1_cut_20 r Qb m) Qb v1 v2 ((v2 + v1) - (M r 2)) (r + 3) v2 (r + 1) M) ∧ (¬ (M r 2) ≤ (v2 + v1) → wX1_cut_59 r (wX1_cut_20 r Qb m) Qb v1 v2 (v2 + v1) (r + 3) v2 (r + 1) M)))) := h2
      by_cases hc1 : (M r 2) ≤ v2
      · have h1 := h1.1 hc1
        have h2 := h2.1 hc1
        exact ⟨M, (Fr_refl (fun i k => r ≤ i ∧ i ≤ r + 4) M), h1, h2, fun Q' hq => ⟨fun _ => hq, fun z => absurd hc1 z⟩⟩
      · have h1 := h1.2 hc1
        have h2 := h2.2 hc1
        by_cases hc2 : (M r 2) ≤ (v2 + v1)
        · have h1 := h1.1 hc2
          have h2 := h2.1 hc2
          rcases u_wX1_cut_59 r v1 v2 ((v2 + v1) - (M r 2)) (r + 3) v2 (r + 1) M h1 h2 with ⟨N7, f5, h1, h2, b6⟩ | ⟨c8, c9, N10, f5, h1, h2, b6⟩
          · have hf := Fr_tr (Fr_refl (fun i k => r ≤ i ∧ i ≤ r + 4) M) f5 (fun i k (h : (r ≤ i ∧ i ≤ r + 4) ∨ i = (r + 3) + 1 ∨ i = (r + 1) + 1) => (show r ≤ i ∧ i ≤ r + 4 from by omega))
            exact ⟨N7, hf, h1, h2, fun Q' hq => ⟨fun z => absurd z hc1, fun _ => ⟨fun _ => b6 _ _ hq, fun z => absurd hc2 z⟩⟩⟩
          · have hf := Fr_tr (Fr_refl (fun i k => r ≤ i ∧ i ≤ r + 4) M) f5 (fun i k (h : (r ≤ i ∧ i ≤ r + 4) ∨ i = (r + 3) + 1 ∨ i = (r + 1) + 1) => (show r ≤ i ∧ i ≤ r + 4 from by omega))
            obtain ⟨N13, f11, h1, h2, b12⟩ := ih m c8 c9 N10 h1 h2
            have hf := Fr_ts hf f11
            exact ⟨N13, hf, h1, h2, fun Q' hq => ⟨fun z => absurd z hc1, fun _ => ⟨fun _ => b6 _ _ (b12 _ hq), fun z => absurd hc2 z⟩⟩⟩
        · have h1 := h1.2 hc2
          have h2 := h2.2 hc2
          rcases u_wX1_cut_59 r v1 v2 (v2 + v1) (r + 3) v2 (r + 1) M h1 h2 with ⟨N18, f16, h1, h2, b17⟩ | ⟨c19, c20, N21, f16, h1, h2, b17⟩
          · have hf := Fr_tr (Fr_refl (fun i k => r ≤ i ∧ i ≤ r + 4) M) f16 (fun i k (h : (r ≤ i ∧ i ≤ r + 4) ∨ i = (r + 3) + 1 ∨ i = (r + 1) + 1) => (show r ≤ i ∧ i ≤ r + 4 from by omega))
            exact ⟨N18, hf, h1, h2, fun Q' hq => ⟨fun z => absurd z hc1, fun _ => ⟨fun z => absurd z hc2, fun _ => b17 _ _ hq⟩⟩⟩
          · have hf := Fr_tr (Fr_refl (fun i k => r ≤ i ∧ i ≤ r + 4) M) f16 (fun i k (h : (r ≤ i ∧ i ≤ r + 4) ∨ i = (r + 3) + 1 ∨ i = (r + 1) + 1) => (show r ≤ i ∧ i ≤ r + 4 from by omega))
            obtain ⟨N24, f22, h1, h2, b23⟩ := ih m c19 c20 N21 h1 h2
            have hf := Fr_ts hf f22
            exact ⟨N24, hf, h1, h2, fun Q' hq => ⟨fun z => absurd z hc1, fun _ => ⟨fun z => absurd z hc2, fun _ => b17 _ _ (b23 _ hq)⟩⟩⟩
set_option maxHeartbeats 4000000 in
theorem u_wX1_cut (r : Nat) {Qa Qb : Mem → Prop} (M : Mem) (h1 : wX1_cut r M Qa) (h2 : wX1_cut r M Qb) : (∃ (M' : Mem), Fr (fun i k => r ≤ i ∧ i ≤ r + 4) M M' ∧ Qa M' ∧ Qb M' ∧ ∀ (Q' : Mem → Prop), Q' M' → wX1_cut r M Q') := by
  have h1 : (¬ (2 : Int32) = 0 ∧ (wX4_copyFrom (r + 3) (r + 1) M (fun M1 => (∃ n2, wX1_cut_20 r Qa n2 ((M r 2) / (2 : Int32)) (0 : Int32) M1)))) := h1
  have h2 : (¬ (2 : Int32) = 0 ∧ (wX4_copyFrom (r + 3) (r + 1) M (fun M1 => (∃ n2, wX1_cut_20 r Qb n2 ((M r 2) / (2 : Int32)) (0 : Int32) M1)))) := h2
  have s1 := h1.1
  have h1 := h1.2
  have h2 := h2.2
  obtain ⟨M1, f2, h1, h2, b3⟩ := u_wX4_copyFrom (r + 3) (r + 1) M h1 h2
  have g4 := Fr_tr (Fr_refl (fun i k => r ≤ i ∧ i ≤ r + 4) M) f2 (fun i k (h : i = (r + 3) + 1) => (show r ≤ i ∧ i ≤ r + 4 from by omega))
  obtain ⟨n2_a, h1⟩ := h1
  obtain ⟨n2_b, h2⟩ := h2
  obtain ⟨N9, f7, h1, h2, b8⟩ := u_wX1_cut_20 r n2_a n2_b ((M r 2) / (2 : Int32)) (0 : Int32) M1 h1 h2
  have hf := Fr_ts g4 f7
  exact ⟨N9, hf, h1, h2, fun Q' hq => ⟨s1, b3 _ ⟨n2_a, b8 _ hq⟩⟩⟩
set_option maxHeartbeats 4000000 in
theorem u_wX1_layTop_11 (r : Nat) (x1 : Int32) {Qa Qb : Mem → Prop} : ∀ (n1 n2 : Nat) (v2 : Int32) (v3 : Int32) (M : Mem), wX1_layTop_11 r x1 Qa n1 v2 v3 M → wX1_layTop_11 r x1 Qb n2 v2 v3 M → (∃ (M' : Mem), Fr (fun i k => r ≤ i ∧ i ≤ r + 4) M M' ∧ Qa M' ∧ Qb M' ∧ ∀ (Q' : Mem → Prop), Q' M' → wX1_layTop_11 r x1 Q' n1 v2 v3 M) := by
  intro n1
  induction n1 with
  | zero => intro _ _ _ _ h1 _; exact h1.elim
  | succ n ih =>
    intro n2 v2 v3 M h1 h2
    cases n2 with
    | zero => exact h2.elim
    | succ m =>
      have h1 : ((x1 ≤ v3 → (wX4_put (r + 1) x1 v2 M (fun M4 => Qa M4))) ∧ (¬ x1 ≤ v3 → (wX4_at (r + 1) (v3 + (1 : Int32)) M (fun r6 M5 => (wX4_put (r + 1) v3 r6 M5 (fun M7 => wX1_layTop_11 r x1 Qa n v2 (v3 + (1 : Int32)) M7)))))) := h1
      have h2 : ((x1 ≤ v3 → (wX4_put (r + 1) x1 v2 M (fun M4 => Qb M4))) ∧ (¬ x1 ≤ v3 → (wX4_at (r + 1) (v3 + (1 : Int32)) M (fun r6 M5 => (wX4_put (r + 1) v3 r6 M5 (fun M7 => wX1_layTop_11 r x1 Qb m v2 (v3 + (1 : Int32)) M7)))))) := h2
      by_cases hc1 : x1 ≤ v3
      · have h1 := h1.1 hc1
        have h2 := h2.1 hc1
        obtain ⟨M4, f2, h1, h2, b3⟩ := u_wX4_put (r + 1) x1 v2 M h1 h2
        have g4 := Fr_tr (Fr_refl (fun i k => r ≤ i ∧ i ≤ r + 4) M) f2 (fun i k (h : i = (r + 1) + 1) => (show r ≤ i ∧ i ≤ r + 4 from by omega))
        exact ⟨M4, g4, h1, h2, fun Q' hq => ⟨fun _ => b3 _ hq, fun z => absurd hc1 z⟩⟩
      · have h1 := h1.2 hc1
        have h2 := h2.2 hc1
        obtain ⟨r6, M5, f5, h1, h2, b6⟩ := u_wX4_at (r + 1) (v3 + (1 : Int32)) M h1 h2
        have g7 := Fr_tr (Fr_refl (fun i k => r ≤ i ∧ i ≤ r + 4) M) f5 (fun i k (h : False) => h.elim)
        obtain ⟨M7, f8, h1, h2, b9⟩ := u_wX4_put (r + 1) v3 r6 M5 h1 h2
        have g10 := Fr_tr g7 f8 (fun i k (h : i = (r + 1) + 1) => (show r ≤ i ∧ i ≤ r + 4 from by omega))
        obtain ⟨N15, f13, h1, h2, b14⟩ := ih m v2 (v3 + (1 : Int32)) M7 h1 h2
        have hf := Fr_ts g10 f13
        exact ⟨N15, hf, h1, h2, fun Q' hq => ⟨fun z => absurd z hc1, fun _ => b6 _ (b9 _ (b14 _ hq))⟩⟩
set_option maxHeartbeats 4000000 in
theorem u_wX1_layTop (r : Nat) (x1 : Int32) {Qa Qb : Mem → Prop} (M : Mem) (h1 : wX1_layTop r x1 M Qa) (h2 : wX1_layTop r x1 M Qb) : (∃ (M' : Mem), Fr (fun i k => r ≤ i ∧ i ≤ r + 4) M M' ∧ Qa M' ∧ Qb M' ∧ ∀ (Q' : Mem → Prop), Q' M' → wX1_layTop r x1 M Q') := by
  have h1 : (wX4_at (r + 1) (0 : Int32) M (fun r2 M1 => (∃ n3, wX1_layTop_11 r x1 Qa n3 r2 (0 : Int32) M1))) := h1
  have h2 : (wX4_at (r + 1) (0 : Int32) M (fun r2 M1 => (∃ n3, wX1_layTop_11 r x1 Qb n3 r2 (0 : Int32) M1))) := h2
  obtain ⟨r2, M1, f1, h1, h2, b2⟩ := u_wX4_at (r + 1) (0 : Int32) M h1 h2
  have g3 := Fr_tr (Fr_refl (fun i k => r ≤ i ∧ i ≤ r + 4) M) f1 (fun i k (h : False) => h.elim)
  obtain ⟨n3_a, h1⟩ := h1
  obtain ⟨n3_b, h2⟩ := h2
  obtain ⟨N8, f6, h1, h2, b7⟩ := u_wX1_layTop_11 r x1 n3_a n3_b r2 (0 : Int32) M1 h1 h2
  have hf := Fr_ts g3 f6
  exact ⟨N8, hf, h1, h2, fun Q' hq => b2 _ ⟨n3_a, b7 _ hq⟩⟩
set_option maxHeartbeats 4000000 in
theorem u_wX1_readTop_65 (r : Nat) (x1 : Int32) (x2 : Int32) (x3 : Int32) {Qa Qb : Int32 → Mem → Prop} (v4 : Int32) (M : Mem) (h1 : wX1_readTop_65 r x1 x2 x3 Qa v4 M) (h2 : wX1_readTop_65 r x1 x2 x3 Qb v4 M) : (∃ (a0 : Int32) (M' : Mem), Fr (fun i k => r ≤ i ∧ i ≤ r + 4) M M' ∧ Qa a0 M' ∧ Qb a0 M' ∧ ∀ (Q' : Int32 → Mem → Prop), Q' a0 M' → wX1_readTop_65 r x1 x2 x3 Q' v4 M) := by
  have h1 : Qa v4 M := h1
  have h2 : Qb v4 M := h2
  exact ⟨v4, M, (Fr_refl (fun i k => r ≤ i ∧ i ≤ r + 4) M), h1, h2, fun Q' hq => hq⟩
set_option maxHeartbeats 4000000 in
theorem u_wX1_readTop_38 (r : Nat) (x1 : Int32) (x2 : Int32) (x3 : Int32) {Qa Qb : Int32 → Mem → Prop} (v4 : Int32) (M : Mem) (h1 : wX1_readTop_38 r x1 x2 x3 Qa v4 M) (h2 : wX1_readTop_38 r x1 x2 x3 Qb v4 M) : (∃ (a0 : Int32) (M' : Mem), Fr (fun i k => r ≤ i ∧ i ≤ r + 4) M M' ∧ Qa a0 M' ∧ Qb a0 M' ∧ ∀ (Q' : Int32 → Mem → Prop), Q' a0 M' → wX1_readTop_38 r x1 x2 x3 Q' v4 M) := by
  have h1 : (wX1_layTop r ((M r 2) - (1 : Int32)) M (fun M4 => wX1_readTop_65 r x1 x2 x3 Qa v4 M4)) := h1
  have h2 : (wX1_layTop r ((M r 2) - (1 : Int32)) M (fun M4 => wX1_readTop_65 r x1 x2 x3 Qb v4 M4)) := h2
  obtain ⟨M4, f1, h1, h2, b2⟩ := u_wX1_layTop r ((M r 2) - (1 : Int32)) M h1 h2
  have g3 := Fr_tr (Fr_refl (fun i k => r ≤ i ∧ i ≤ r + 4) M) f1 (fun i k (h : r ≤ i ∧ i ≤ r + 4) => (show r ≤ i ∧ i ≤ r + 4 from by omega))
  obtain ⟨c8, N9, f6, h1, h2, b7⟩ := u_wX1_readTop_65 r x1 x2 x3 v4 M4 h1 h2
  have hf := Fr_ts g3 f6
  exact ⟨c8, N9, hf, h1, h2, fun Q' hq => b2 _ (b7 _ hq)⟩
set_option maxHeartbeats 4000000 in
theorem u_wX1_readTop_51 (r : Nat) (x1 : Int32) (x2 : Int32) (x3 : Int32) {Qa Qb : Int32 → Mem → Prop} (v4 : Int32) (M : Mem) (h1 : wX1_readTop_51 r x1 x2 x3 Qa v4 M) (h2 : wX1_readTop_51 r x1 x2 x3 Qb v4 M) : (∃ (a0 : Int32) (M' : Mem), Fr (fun i k => r ≤ i ∧ i ≤ r + 4) M M' ∧ Qa a0 M' ∧ Qb a0 M' ∧ ∀ (Q' : Int32 → Mem → Prop), Q' a0 M' → wX1_readTop_51 r x1 x2 x3 Q' v4 M) := by
  have h1 : (wX1_layTop r (if ((M r 2) - (1 : Int32)) < x2 then ((M r 2) - (1 : Int32)) else x2) M (fun M5 => wX1_readTop_65 r x1 x2 x3 Qa v4 M5)) := h1
  have h2 : (wX1_layTop r (if ((M r 2) - (1 : Int32)) < x2 then ((M r 2) - (1 : Int32)) else x2) M (fun M5 => wX1_readTop_65 r x1 x2 x3 Qb v4 M5)) := h2
  obtain ⟨M5, f1, h1, h2, b2⟩ := u_wX1_layTop r (if ((M r 2) - (1 : Int32)) < x2 then ((M r 2) - (1 : Int32)) else x2) M h1 h2
  have g3 := Fr_tr (Fr_refl (fun i k => r ≤ i ∧ i ≤ r + 4) M) f1 (fun i k (h : r ≤ i ∧ i ≤ r + 4) => (show r ≤ i ∧ i ≤ r + 4 from by omega))
  obtain ⟨c8, N9, f6, h1, h2, b7⟩ := u_wX1_readTop_65 r x1 x2 x3 v4 M5 h1 h2
  have hf := Fr_ts g3 f6
  exact ⟨c8, N9, hf, h1, h2, fun Q' hq => b2 _ (b7 _ hq)⟩
set_option maxHeartbeats 4000000 in
theorem u_wX1_readTop (r : Nat) (x1 : Int32) (x2 : Int32) (x3 : Int32) {Qa Qb : Int32 → Mem → Prop} (M : Mem) (h1 : wX1_readTop r x1 x2 x3 M Qa) (h2 : wX1_readTop r x1 x2 x3 M Qb) : (∃ (a0 : Int32) (M' : Mem), Fr (fun i k => r ≤ i ∧ i ≤ r + 4) M M' ∧ Qa a0 M' ∧ Qb a0 M' ∧ ∀ (Q' : Int32 → Mem → Prop), Q' a0 M' → wX1_readTop r x1 x2 x3 M Q') := by
  have h1 : (wX4_at (r + 1) (0 : Int32) M (fun r2 M1 => ((¬ x1 = (3 : Int32) → ((x1 = (1 : Int32) → wX1_readTop_38 r x1 x2 x3 Qa r2 M1) ∧ (¬ x1 = (1 : Int32) → ((¬ x1 = (2 : Int32) → wX1_readTop_51 r x1 x2 x3 Qa r2 M1) ∧ (x1 = (2 : Int32) → (¬ (2 : Int32) = 0 ∧ (((x3 - (x3 / (2 : Int32)) * (2 : Int32)) = 0 → wX1_readTop_51 r x1 x2 x3 Qa r2 M1) ∧ (¬ (x3 - (x3 / (2 : Int32)) * (2 : Int32)) = 0 → wX1_readTop_38 r x1 x2 x3 Qa r2 M1)))))))) ∧ (x1 = (3 : Int32) → (wX1_cut r M1 (fun M3 => wX1_readTop_65 r x1 x2 x3 Qa r2 M3)))))) := h1
  have h2 : (wX4_at (r + 1) (0 : Int32) M (fun r2 M1 => ((¬ x1 = (3 : Int32) → ((x1 = (1 : Int32) → wX1_readTop_38 r x1 x2 x3 Qb r2 M1) ∧ (¬ x1 = (1 : Int32) → ((¬ x1 = (2 : Int32) → wX1_readTop_51 r x1 x2 x3 Qb r2 M1) ∧ (x1 = (2 : Int32) → (¬ (2 : Int32) = 0 ∧ (((x3 - (x3 / (2 : Int32)) * (2 : Int32)) = 0 → wX1_readTop_51 r x1 x2 x3 Qb r2 M1) ∧ (¬ (x3 - (x3 / (2 : Int32)) * (2 : Int32)) = 0 → wX1_readTop_38 r x1 x2 x3 Qb r2 M1)))))))) ∧ (x1 = (3 : Int32) → (wX1_cut r M1 (fun M3 => wX1_readTop_65 r x1 x2 x3 Qb r2 M3)))))) := h2
  obtain ⟨r2, M1, f1, h1, h2, b2⟩ := u_wX4_at (r + 1) (0 : Int32) M h1 h2
  have g3 := Fr_tr (Fr_refl (fun i k => r ≤ i ∧ i ≤ r + 4) M) f1 (fun i k (h : False) => h.elim)
  by_cases hc4 : x1 = (3 : Int32)
  · have h1 := h1.2 hc4
    have h2 := h2.2 hc4
    obtain ⟨M3, f5, h1, h2, b6⟩ := u_wX1_cut r M1 h1 h2
    have g7 := Fr_tr g3 f5 (fun i k (h : r ≤ i ∧ i ≤ r + 4) => (show r ≤ i ∧ i ≤ r + 4 from by omega))
    obtain ⟨c12, N13, f10, h1, h2, b11⟩ := u_wX1_readTop_65 r x1 x2 x3 r2 M3 h1 h2
    have hf := Fr_ts g7 f10
    exact ⟨c12, N13, hf, h1, h2, fun Q' hq => b2 _ ⟨fun z => absurd hc4 z, fun _ => b6 _ (b11 _ hq)⟩⟩
  · have h1 := h1.1 hc4
    have h2 := h2.1 hc4
    by_cases hc14 : x1 = (1 : Int32)
    · have h1 := h1.1 hc14
      have h2 := h2.1 hc14
      obtain ⟨c19, N20, f17, h1, h2, b18⟩ := u_wX1_readTop_38 r x1 x2 x3 r2 M1 h1 h2
      have hf := Fr_ts g3 f17
      exact ⟨c19, N20, hf, h1, h2, fun Q' hq => b2 _ ⟨fun _ => ⟨fun _ => b18 _ hq, fun z => absurd hc14 z⟩, fun z => absurd z hc4⟩⟩
    · have h1 := h1.2 hc14
      have h2 := h2.2 hc14
      by_cases hc21 : x1 = (2 : Int32)
      · have h1 := h1.2 hc21
        have h2 := h2.2 hc21
        have s22 := h1.1
        have h1 := h1.2
        have h2 := h2.2
        by_cases hc23 : (x3 - (x3 / (2 : Int32)) * (2 : Int32)) = 0
        · have h1 := h1.1 hc23
          have h2 := h2.1 hc23
          obtain ⟨c28, N29, f26, h1, h2, b27⟩ := u_wX1_readTop_51 r x1 x2 x3 r2 M1 h1 h2
          have hf := Fr_ts g3 f26
          exact ⟨c28, N29, hf, h1, h2, fun Q' hq => b2 _ ⟨fun _ => ⟨fun z => absurd z hc14, fun _ => ⟨fun z => absurd hc21 z, fun _ => ⟨s22, ⟨fun _ => b27 _ hq, fun z => absurd hc23 z⟩⟩⟩⟩, fun z => absurd z hc4⟩⟩
        · have h1 := h1.2 hc23
          have h2 := h2.2 hc23
          obtain ⟨c34, N35, f32, h1, h2, b33⟩ := u_wX1_readTop_38 r x1 x2 x3 r2 M1 h1 h2
          have hf := Fr_ts g3 f32
          exact ⟨c34, N35, hf, h1, h2, fun Q' hq => b2 _ ⟨fun _ => ⟨fun z => absurd z hc14, fun _ => ⟨fun z => absurd hc21 z, fun _ => ⟨s22, ⟨fun z => absurd z hc23, fun _ => b33 _ hq⟩⟩⟩⟩, fun z => absurd z hc4⟩⟩
      · have h1 := h1.1 hc21
        have h2 := h2.1 hc21
        obtain ⟨c40, N41, f38, h1, h2, b39⟩ := u_wX1_readTop_51 r x1 x2 x3 r2 M1 h1 h2
        have hf := Fr_ts g3 f38
        exact ⟨c40, N41, hf, h1, h2, fun Q' hq => b2 _ ⟨fun _ => ⟨fun z => absurd z hc14, fun _ => ⟨fun _ => b39 _ hq, fun z => absurd z hc21⟩⟩, fun z => absurd z hc4⟩⟩
set_option maxHeartbeats 4000000 in
theorem u_wX2_startWith (r : Nat) (x1 : Nat) {Qa Qb : Mem → Prop} (M : Mem) (h1 : wX2_startWith r x1 M Qa) (h2 : wX2_startWith r x1 M Qb) : (∃ (M' : Mem), Fr (fun i k => r ≤ i ∧ i ≤ r + 5) M M' ∧ Qa M' ∧ Qb M' ∧ ∀ (Q' : Mem → Prop), Q' M' → wX2_startWith r x1 M Q') := by
  have h1 : (wX1_copyFrom (r + 1) x1 M (fun M1 => Qa (mu (mu M1 r 1 (0 : Int32)) r 2 (0 : Int32)))) := h1
  have h2 : (wX1_copyFrom (r + 1) x1 M (fun M1 => Qb (mu (mu M1 r 1 (0 : Int32)) r 2 (0 : Int32)))) := h2
  obtain ⟨M1, f1, h1, h2, b2⟩ := u_wX1_copyFrom (r + 1) x1 M h1 h2
  have g3 := Fr_tr (Fr_refl (fun i k => r ≤ i ∧ i ≤ r + 5) M) f1 (fun i k (h : (r + 1) ≤ i ∧ i ≤ (r + 1) + 4) => (show r ≤ i ∧ i ≤ r + 5 from by omega))
  exact ⟨(mu (mu M1 r 1 (0 : Int32)) r 2 (0 : Int32)), (Fr_mu (Fr_mu g3 (show r ≤ r ∧ r ≤ r + 5 from by omega)) (show r ≤ r ∧ r ≤ r + 5 from by omega)), h1, h2, fun Q' hq => b2 _ hq⟩
set_option maxHeartbeats 4000000 in
theorem u_wX2_copyFrom (r : Nat) (x1 : Nat) {Qa Qb : Mem → Prop} (M : Mem) (h1 : wX2_copyFrom r x1 M Qa) (h2 : wX2_copyFrom r x1 M Qb) : (∃ (M' : Mem), Fr (fun i k => r ≤ i ∧ i ≤ r + 5) M M' ∧ Qa M' ∧ Qb M' ∧ ∀ (Q' : Mem → Prop), Q' M' → wX2_copyFrom r x1 M Q') := by
  have h1 : (wX1_copyFrom (r + 1) (x1 + 1) M (fun M1 => Qa (mu (mu M1 r 1 (M1 x1 1)) r 2 ((mu M1 r 1 (M1 x1 1)) x1 2)))) := h1
  have h2 : (wX1_copyFrom (r + 1) (x1 + 1) M (fun M1 => Qb (mu (mu M1 r 1 (M1 x1 1)) r 2 ((mu M1 r 1 (M1 x1 1)) x1 2)))) := h2
  obtain ⟨M1, f1, h1, h2, b2⟩ := u_wX1_copyFrom (r + 1) (x1 + 1) M h1 h2
  have g3 := Fr_tr (Fr_refl (fun i k => r ≤ i ∧ i ≤ r + 5) M) f1 (fun i k (h : (r + 1) ≤ i ∧ i ≤ (r + 1) + 4) => (show r ≤ i ∧ i ≤ r + 5 from by omega))
  exact ⟨(mu (mu M1 r 1 (M1 x1 1)) r 2 ((mu M1 r 1 (M1 x1 1)) x1 2)), (Fr_mu (Fr_mu g3 (show r ≤ r ∧ r ≤ r + 5 from by omega)) (show r ≤ r ∧ r ≤ r + 5 from by omega)), h1, h2, fun Q' hq => b2 _ hq⟩
set_option maxHeartbeats 4000000 in
theorem u_wX2_readOne_56 (r : Nat) (x1 : Nat) {Qa Qb : Int32 → Mem → Prop} (v2 : Int32) (M : Mem) (h1 : wX2_readOne_56 r x1 Qa v2 M) (h2 : wX2_readOne_56 r x1 Qb v2 M) : (∃ (a0 : Int32) (M' : Mem), Fr (fun i k => r ≤ i ∧ i ≤ r + 5) M M' ∧ Qa a0 M' ∧ Qb a0 M' ∧ ∀ (Q' : Int32 → Mem → Prop), Q' a0 M' → wX2_readOne_56 r x1 Q' v2 M) := by
  have h1 : Qa v2 M := h1
  have h2 : Qb v2 M := h2
  exact ⟨v2, M, (Fr_refl (fun i k => r ≤ i ∧ i ≤ r + 5) M), h1, h2, fun Q' hq => hq⟩
set_option maxHeartbeats 4000000 in
theorem u_wX2_readOne (r : Nat) (x1 : Nat) {Qa Qb : Int32 → Mem → Prop} (M : Mem) (h1 : wX2_readOne r x1 M Qa) (h2 : wX2_readOne r x1 M Qb) : (∃ (a0 : Int32) (M' : Mem), Fr (fun i k => r ≤ i ∧ i ≤ r + 5) M M' ∧ Qa a0 M' ∧ Qb a0 M' ∧ ∀ (Q' : Int32 → Mem → Prop), Q' a0 M' → wX2_readOne r x1 M Q') := by
  have h1 : (wX1_readTop (r + 1) (M x1 2) (M x1 3) (M r 1) M (fun r2 M1 => ((((mu M1 r 1 ((M1 r 1) + (1 : Int32))) r 1) < ((mu M1 r 1 ((M1 r 1) + (1 : Int32))) x1 1) → wX2_readOne_56 r x1 Qa r2 (mu M1 r 1 ((M1 r 1) + (1 : Int32)))) ∧ (¬ ((mu M1 r 1 ((M1 r 1) + (1 : Int32))) r 1) < ((mu M1 r 1 ((M1 r 1) + (1 : Int32))) x1 1) → wX2_readOne_56 r x1 Qa r2 (mu (mu (mu M1 r 1 ((M1 r 1) + (1 : Int32))) r 1 (0 : Int32)) r 2 (((mu (mu M1 r 1 ((M1 r 1) + (1 : Int32))) r 1 (0 : Int32)) r 2) + (1 : Int32))))))) := h1
  have h2 : (wX1_readTop (r + 1) (M x1 2) (M x1 3) (M r 1) M (fun r2 M1 => ((((mu M1 r 1 ((M1 r 1) + (1 : Int32))) r 1) < ((mu M1 r 1 ((M1 r 1) + (1 : Int32))) x1 1) → wX2_readOne_56 r x1 Qb r2 (mu M1 r 1 ((M1 r 1) + (1 : Int32)))) ∧ (¬ ((mu M1 r 1 ((M1 r 1) + (1 : Int32))) r 1) < ((mu M1 r 1 ((M1 r 1) + (1 : Int32))) x1 1) → wX2_readOne_56 r x1 Qb r2 (mu (mu (mu M1 r 1 ((M1 r 1) + (1 : Int32))) r 1 (0 : Int32)) r 2 (((mu (mu M1 r 1 ((M1 r 1) + (1 : Int32))) r 1 (0 : Int32)) r 2) + (1 : Int32))))))) := h2
  obtain ⟨r2, M1, f1, h1, h2, b2⟩ := u_wX1_readTop (r + 1) (M x1 2) (M x1 3) (M r 1) M h1 h2
  have g3 := Fr_tr (Fr_refl (fun i k => r ≤ i ∧ i ≤ r + 5) M) f1 (fun i k (h : (r + 1) ≤ i ∧ i ≤ (r + 1) + 4) => (show r ≤ i ∧ i ≤ r + 5 from by omega))
  by_cases hc4 : ((mu M1 r 1 ((M1 r 1) + (1 : Int32))) r 1) < ((mu M1 r 1 ((M1 r 1) + (1 : Int32))) x1 1)
  · have h1 := h1.1 hc4
    have h2 := h2.1 hc4
    obtain ⟨c9, N10, f7, h1, h2, b8⟩ := u_wX2_readOne_56 r x1 r2 (mu M1 r 1 ((M1 r 1) + (1 : Int32))) h1 h2
    have hf := Fr_ts (Fr_mu g3 (show r ≤ r ∧ r ≤ r + 5 from by omega)) f7
    exact ⟨c9, N10, hf, h1, h2, fun Q' hq => b2 _ ⟨fun _ => b8 _ hq, fun z => absurd hc4 z⟩⟩
  · have h1 := h1.2 hc4
    have h2 := h2.2 hc4
    obtain ⟨c15, N16, f13, h1, h2, b14⟩ := u_wX2_readOne_56 r x1 r2 (mu (mu (mu M1 r 1 ((M1 r 1) + (1 : Int32))) r 1 (0 : Int32)) r 2 (((mu (mu M1 r 1 ((M1 r 1) + (1 : Int32))) r 1 (0 : Int32)) r 2) + (1 : Int32))) h1 h2
    have hf := Fr_ts (Fr_mu (Fr_mu (Fr_mu g3 (show r ≤ r ∧ r ≤ r + 5 from by omega)) (show r ≤ r ∧ r ≤ r + 5 from by omega)) (show r ≤ r ∧ r ≤ r + 5 from by omega)) f13
    exact ⟨c15, N16, hf, h1, h2, fun Q' hq => b2 _ ⟨fun z => absurd z hc4, fun _ => b14 _ hq⟩⟩
set_option maxHeartbeats 4000000 in
theorem u_wX2_fall_10 (r : Nat) (x1 : Int32) {Qa Qb : Mem → Prop} : ∀ (n1 n2 : Nat) (v2 : Int32) (M : Mem), wX2_fall_10 r x1 Qa n1 v2 M → wX2_fall_10 r x1 Qb n2 v2 M → (∃ (M' : Mem), Fr (fun i k => (i = r ∧ k = 1) ∨ (r + 1 ≤ i ∧ i ≤ r + 5)) M M' ∧ Qa M' ∧ Qb M' ∧ ∀ (Q' : Mem → Prop), Q' M' → wX2_fall_10 r x1 Q' n1 v2 M) := by
  intro n1
  induction n1 with
  | zero => intro _ _ _ h1 _; exact h1.elim
  | succ n ih =>
    intro n2 v2 M h1 h2
    cases n2 with
    | zero => exact h2.elim
    | succ m =>
      have h1 : ((v2 < (1 : Int32) → Qa (mu M r 1 (0 : Int32))) ∧ (¬ v2 < (1 : Int32) → (¬ (65521 : Int64) = 0 ∧ (¬ (v2 + (1 : Int32)).toInt64 = 0 ∧ (wX1_swap (r + 1) v2 ((((((((7919 : Int64) * x1.toInt64) + ((6151 : Int64) * v2.toInt64)) + (1 : Int64)) * ((((7919 : Int64) * x1.toInt64) + ((6151 : Int64) * v2.toInt64)) + (1 : Int64))) - ((((((7919 : Int64) * x1.toInt64) + ((6151 : Int64) * v2.toInt64)) + (1 : Int64)) * ((((7919 : Int64) * x1.toInt64) + ((6151 : Int64) * v2.toInt64)) + (1 : Int64))) / (65521 : Int64)) * (65521 : Int64)) - (((((((7919 : Int64) * x1.toInt64) + ((6151 : Int64) * v2.toInt64)) + (1 : Int64)) * ((((7919 : Int64) * x1.toInt64) + ((6151 : Int64) * v2.toInt64)) + (1 : Int64))) - ((((((7919 : Int64) * x1.toInt64) + ((6151 : Int64) * v2.toInt64)) + (1 : Int64)) * ((((7919 : Int64) * x1.toInt64) + ((6151 : Int64) * v2.toInt64)) + (1 : Int64))) / (65521 : Int64)) * (65521 : Int64)) / (v2 + (1 : Int32)).toInt64) * (v2 + (1 : Int32)).toInt64).toInt32) M (fun M2 => wX2_fall_10 r x1 Qa n (v2 + (-1)) M2)))))) := h1
      have h2 : ((v2 < (1 : Int32) → Qb (mu M r 1 (0 : Int32))) ∧ (¬ v2 < (1 : Int32) → (¬ (65521 : Int64) = 0 ∧ (¬ (v2 + (1 : Int32)).toInt64 = 0 ∧ (wX1_swap (r + 1) v2 ((((((((7919 : Int64) * x1.toInt64) + ((6151 : Int64) * v2.toInt64)) + (1 : Int64)) * ((((7919 : Int64) * x1.toInt64) + ((6151 : Int64) * v2.toInt64)) + (1 : Int64))) - ((((((7919 : Int64) * x1.toInt64) + ((6151 : Int64) * v2.toInt64)) + (1 : Int64)) * ((((7919 : Int64) * x1.toInt64) + ((6151 : Int64) * v2.toInt64)) + (1 : Int64))) / (65521 : Int64)) * (65521 : Int64)) - (((((((7919 : Int64) * x1.toInt64) + ((6151 : Int64) * v2.toInt64)) + (1 : Int64)) * ((((7919 : Int64) * x1.toInt64) + ((6151 : Int64) * v2.toInt64)) + (1 : Int64))) - ((((((7919 : Int64) * x1.toInt64) + ((6151 : Int64) * v2.toInt64)) + (1 : Int64)) * ((((7919 : Int64) * x1.toInt64) + ((6151 : Int64) * v2.toInt64)) + (1 : Int64))) / (65521 : Int64)) * (65521 : Int64)) / (v2 + (1 : Int32)).toInt64) * (v2 + (1 : Int32)).toInt64).toInt32) M (fun M2 => wX2_fall_10 r x1 Qb m (v2 + (-1)) M2)))))) := h2
      by_cases hc1 : v2 < (1 : Int32)
      · have h1 := h1.1 hc1
        have h2 := h2.1 hc1
        exact ⟨(mu M r 1 (0 : Int32)), (Fr_mu (Fr_refl (fun i k => (i = r ∧ k = 1) ∨ (r + 1 ≤ i ∧ i ≤ r + 5)) M) (show (r = r ∧ 1 = 1) ∨ (r + 1 ≤ r ∧ r ≤ r + 5) from by omega)), h1, h2, fun Q' hq => ⟨fun _ => hq, fun z => absurd hc1 z⟩⟩
      · have h1 := h1.2 hc1
        have h2 := h2.2 hc1
        have s2 := h1.1
        have h1 := h1.2
        have h2 := h2.2
        have s3 := h1.1
        have h1 := h1.2
        have h2 := h2.2
        obtain ⟨M2, f4, h1, h2, b5⟩ := u_wX1_swap (r + 1) v2 ((((((((7919 : Int64) * x1.toInt64) + ((6151 : Int64) * v2.toInt64)) + (1 : Int64)) * ((((7919 : Int64) * x1.toInt64) + ((6151 : Int64) * v2.toInt64)) + (1 : Int64))) - ((((((7919 : Int64) * x1.toInt64) + ((6151 : Int64) * v2.toInt64)) + (1 : Int64)) * ((((7919 : Int64) * x1.toInt64) + ((6151 : Int64) * v2.toInt64)) + (1 : Int64))) / (65521 : Int64)) * (65521 : Int64)) - (((((((7919 : Int64) * x1.toInt64) + ((6151 : Int64) * v2.toInt64)) + (1 : Int64)) * ((((7919 : Int64) * x1.toInt64) + ((6151 : Int64) * v2.toInt64)) + (1 : Int64))) - ((((((7919 : Int64) * x1.toInt64) + ((6151 : Int64) * v2.toInt64)) + (1 : Int64)) * ((((7919 : Int64) * x1.toInt64) + ((6151 : Int64) * v2.toInt64)) + (1 : Int64))) / (65521 : Int64)) * (65521 : Int64)) / (v2 + (1 : Int32)).toInt64) * (v2 + (1 : Int32)).toInt64).toInt32) M h1 h2
        have g6 := Fr_tr (Fr_refl (fun i k => (i = r ∧ k = 1) ∨ (r + 1 ≤ i ∧ i ≤ r + 5)) M) f4 (fun i k (h : (r + 1) ≤ i ∧ i ≤ (r + 1) + 4) => (show (i = r ∧ k = 1) ∨ (r + 1 ≤ i ∧ i ≤ r + 5) from by omega))
        obtain ⟨N11, f9, h1, h2, b10⟩ := ih m (v2 + (-1)) M2 h1 h2
        have hf := Fr_ts g6 f9
        exact ⟨N11, hf, h1, h2, fun Q' hq => ⟨fun z => absurd z hc1, fun _ => ⟨s2, ⟨s3, b5 _ (b10 _ hq)⟩⟩⟩⟩
set_option maxHeartbeats 4000000 in
theorem u_wX2_fall (r : Nat) (x1 : Int32) {Qa Qb : Mem → Prop} (M : Mem) (h1 : wX2_fall r x1 M Qa) (h2 : wX2_fall r x1 M Qb) : (∃ (M' : Mem), Fr (fun i k => (i = r ∧ k = 1) ∨ (r + 1 ≤ i ∧ i ≤ r + 5)) M M' ∧ Qa M' ∧ Qb M' ∧ ∀ (Q' : Mem → Prop), Q' M' → wX2_fall r x1 M Q') := by
  have h1 : (∃ n1, wX2_fall_10 r x1 Qa n1 ((M (r + 1) 2) - (1 : Int32)) M) := h1
  have h2 : (∃ n1, wX2_fall_10 r x1 Qb n1 ((M (r + 1) 2) - (1 : Int32)) M) := h2
  obtain ⟨n1_a, h1⟩ := h1
  obtain ⟨n1_b, h2⟩ := h2
  obtain ⟨N5, f3, h1, h2, b4⟩ := u_wX2_fall_10 r x1 n1_a n1_b ((M (r + 1) 2) - (1 : Int32)) M h1 h2
  have hf := Fr_ts (Fr_refl (fun i k => (i = r ∧ k = 1) ∨ (r + 1 ≤ i ∧ i ≤ r + 5)) M) f3
  exact ⟨N5, hf, h1, h2, fun Q' hq => ⟨n1_a, b4 _ hq⟩⟩
set_option maxHeartbeats 4000000 in
theorem u_wJ9_floorMod_f86c9_25 (x0 : Int64) (x2 : Int64) {Qa Qb : Int64 → Mem → Prop} (v4 : Int64) (M : Mem) (h1 : wJ9_floorMod_f86c9_25 x0 x2 Qa v4 M) (h2 : wJ9_floorMod_f86c9_25 x0 x2 Qb v4 M) : (∃ (a0 : Int64) (M' : Mem), Fr (fun i k => False) M M' ∧ Qa a0 M' ∧ Qb a0 M' ∧ ∀ (Q' : Int64 → Mem → Prop), Q' a0 M' → wJ9_floorMod_f86c9_25 x0 x2 Q' v4 M) := by
  have h1 : Qa v4 M := h1
  have h2 : Qb v4 M := h2
  exact ⟨v4, M, (Fr_refl (fun i k => False) M), h1, h2, fun Q' hq => hq⟩
set_option maxHeartbeats 4000000 in
theorem u_wJ9_floorMod_f86c9 (x0 : Int64) (x2 : Int64) {Qa Qb : Int64 → Mem → Prop} (M : Mem) (h1 : wJ9_floorMod_f86c9 x0 x2 M Qa) (h2 : wJ9_floorMod_f86c9 x0 x2 M Qb) : (∃ (a0 : Int64) (M' : Mem), Fr (fun i k => False) M M' ∧ Qa a0 M' ∧ Qb a0 M' ∧ ∀ (Q' : Int64 → Mem → Prop), Q' a0 M' → wJ9_floorMod_f86c9 x0 x2 M Q') := by
  have h1 : (¬ x2 = 0 ∧ ((0 ≤ (lg_cmp (x0 ^^^ x2) (0 : Int64)) → wJ9_floorMod_f86c9_25 x0 x2 Qa (x0 - (x0 / x2) * x2) M) ∧ (¬ 0 ≤ (lg_cmp (x0 ^^^ x2) (0 : Int64)) → (((lg_cmp (x0 - (x0 / x2) * x2) (0 : Int64)) = 0 → wJ9_floorMod_f86c9_25 x0 x2 Qa (x0 - (x0 / x2) * x2) M) ∧ (¬ (lg_cmp (x0 - (x0 / x2) * x2) (0 : Int64)) = 0 → Qa ((x0 - (x0 / x2) * x2) + x2) M))))) := h1
  have h2 : (¬ x2 = 0 ∧ ((0 ≤ (lg_cmp (x0 ^^^ x2) (0 : Int64)) → wJ9_floorMod_f86c9_25 x0 x2 Qb (x0 - (x0 / x2) * x2) M) ∧ (¬ 0 ≤ (lg_cmp (x0 ^^^ x2) (0 : Int64)) → (((lg_cmp (x0 - (x0 / x2) * x2) (0 : Int64)) = 0 → wJ9_floorMod_f86c9_25 x0 x2 Qb (x0 - (x0 / x2) * x2) M) ∧ (¬ (lg_cmp (x0 - (x0 / x2) * x2) (0 : Int64)) = 0 → Qb ((x0 - (x0 / x2) * x2) + x2) M))))) := h2
  have s1 := h1.1
  have h1 := h1.2
  have h2 := h2.2
  by_cases hc2 : 0 ≤ (lg_cmp (x0 ^^^ x2) (0 : Int64))
  · have h1 := h1.1 hc2
    have h2 := h2.1 hc2
    obtain ⟨c7, N8, f5, h1, h2, b6⟩ := u_wJ9_floorMod_f86c9_25 x0 x2 (x0 - (x0 / x2) * x2) M h1 h2
    have hf := Fr_ts (Fr_refl (fun i k => False) M) f5
    exact ⟨c7, N8, hf, h1, h2, fun Q' hq => ⟨s1, ⟨fun _ => b6 _ hq, fun z => absurd hc2 z⟩⟩⟩
  · have h1 := h1.2 hc2
    have h2 := h2.2 hc2
    by_cases hc9 : (lg_cmp (x0 - (x0 / x2) * x2) (0 : Int64)) = 0
    · have h1 := h1.1 hc9
      have h2 := h2.1 hc9
      obtain ⟨c14, N15, f12, h1, h2, b13⟩ := u_wJ9_floorMod_f86c9_25 x0 x2 (x0 - (x0 / x2) * x2) M h1 h2
      have hf := Fr_ts (Fr_refl (fun i k => False) M) f12
      exact ⟨c14, N15, hf, h1, h2, fun Q' hq => ⟨s1, ⟨fun z => absurd z hc2, fun _ => ⟨fun _ => b13 _ hq, fun z => absurd hc9 z⟩⟩⟩⟩
    · have h1 := h1.2 hc9
      have h2 := h2.2 hc9
      exact ⟨((x0 - (x0 / x2) * x2) + x2), M, (Fr_refl (fun i k => False) M), h1, h2, fun Q' hq => ⟨s1, ⟨fun z => absurd z hc2, fun _ => ⟨fun z => absurd z hc9, fun _ => hq⟩⟩⟩⟩
set_option maxHeartbeats 4000000 in
theorem u_wX5_size (r : Nat) {Qa Qb : Int32 → Mem → Prop} (M : Mem) (h1 : wX5_size r M Qa) (h2 : wX5_size r M Qb) : (∃ (a0 : Int32) (M' : Mem), Fr (fun i k => False) M M' ∧ Qa a0 M' ∧ Qb a0 M' ∧ ∀ (Q' : Int32 → Mem → Prop), Q' a0 M' → wX5_size r M Q') := by
  have h1 : Qa (M r 1) M := h1
  have h2 : Qb (M r 1) M := h2
  exact ⟨(M r 1), M, (Fr_refl (fun i k => False) M), h1, h2, fun Q' hq => hq⟩
set_option maxHeartbeats 4000000 in
theorem u_wX5_byteAt_21 (r : Nat) (x1 : Int32) {Qa Qb : Int32 → Mem → Prop} (s0 : Int32) (M : Mem) (h1 : wX5_byteAt_21 r x1 Qa s0 M) (h2 : wX5_byteAt_21 r x1 Qb s0 M) : (∃ (a0 : Int32) (M' : Mem), Fr (fun i k => False) M M' ∧ Qa a0 M' ∧ Qb a0 M' ∧ ∀ (Q' : Int32 → Mem → Prop), Q' a0 M' → wX5_byteAt_21 r x1 Q' s0 M) := by
  have h1 : Qa s0 M := h1
  have h2 : Qb s0 M := h2
  exact ⟨s0, M, (Fr_refl (fun i k => False) M), h1, h2, fun Q' hq => hq⟩
set_option maxHeartbeats 4000000 in
theorem u_wX5_byteAt (r : Nat) (x1 : Int32) {Qa Qb : Int32 → Mem → Prop} (M : Mem) (h1 : wX5_byteAt r x1 M Qa) (h2 : wX5_byteAt r x1 M Qb) : (∃ (a0 : Int32) (M' : Mem), Fr (fun i k => False) M M' ∧ Qa a0 M' ∧ Qb a0 M' ∧ ∀ (Q' : Int32 → Mem → Prop), Q' a0 M' → wX5_byteAt r x1 M Q') := by
  have h1 : (((M r 1) ≤ x1 → wX5_byteAt_21 r x1 Qa (-4 : Int32) M) ∧ (¬ (M r 1) ≤ x1 → (wX4_at (r + 1) x1 M (fun r2 M1 => wX5_byteAt_21 r x1 Qa r2 M1)))) := h1
  have h2 : (((M r 1) ≤ x1 → wX5_byteAt_21 r x1 Qb (-4 : Int32) M) ∧ (¬ (M r 1) ≤ x1 → (wX4_at (r + 1) x1 M (fun r2 M1 => wX5_byteAt_21 r x1 Qb r2 M1)))) := h2
  by_cases hc1 : (M r 1) ≤ x1
  · have h1 := h1.1 hc1
    have h2 := h2.1 hc1
    obtain ⟨c6, N7, f4, h1, h2, b5⟩ := u_wX5_byteAt_21 r x1 (-4 : Int32) M h1 h2
    have hf := Fr_ts (Fr_refl (fun i k => False) M) f4
    exact ⟨c6, N7, hf, h1, h2, fun Q' hq => ⟨fun _ => b5 _ hq, fun z => absurd hc1 z⟩⟩
  · have h1 := h1.2 hc1
    have h2 := h2.2 hc1
    obtain ⟨r2, M1, f8, h1, h2, b9⟩ := u_wX4_at (r + 1) x1 M h1 h2
    have g10 := Fr_tr (Fr_refl (fun i k => False) M) f8 (fun i k (h : False) => h.elim)
    obtain ⟨c15, N16, f13, h1, h2, b14⟩ := u_wX5_byteAt_21 r x1 r2 M1 h1 h2
    have hf := Fr_ts g10 f13
    exact ⟨c15, N16, hf, h1, h2, fun Q' hq => ⟨fun z => absurd z hc1, fun _ => b9 _ (b14 _ hq)⟩⟩
set_option maxHeartbeats 4000000 in
theorem u_wX5_append_5 (r : Nat) (x1 : Int32) (x2 : Int64) {Qa Qb : Mem → Prop} : ∀ (n1 n2 : Nat) (v4 : Int32) (M : Mem), wX5_append_5 r x1 x2 Qa n1 v4 M → wX5_append_5 r x1 x2 Qb n2 v4 M → (∃ (M' : Mem), Fr (fun i k => r ≤ i ∧ i ≤ r + 2) M M' ∧ Qa M' ∧ Qb M' ∧ ∀ (Q' : Mem → Prop), Q' M' → wX5_append_5 r x1 x2 Q' n1 v4 M) := by
  intro n1
  induction n1 with
  | zero => intro _ _ _ h1 _; exact h1.elim
  | succ n ih =>
    intro n2 v4 M h1 h2
    cases n2 with
    | zero => exact h2.elim
    | succ m =>
      have h1 : ((v4 < 0 → Qa M) ∧ (¬ v4 < 0 → (wX4_put (r + 1) (M r 1) (((x2.toUInt64 >>> (((8 : Int32) * v4).toInt64.toUInt64 &&& Int64.toUInt64 63)).toInt64 &&& (255 : Int64)).toInt32) M (fun M2 => wX5_append_5 r x1 x2 Qa n (v4 + (-1)) (mu M2 r 1 ((M2 r 1) + (1 : Int32))))))) := h1
      have h2 : ((v4 < 0 → Qb M) ∧ (¬ v4 < 0 → (wX4_put (r + 1) (M r 1) (((x2.toUInt64 >>> (((8 : Int32) * v4).toInt64.toUInt64 &&& Int64.toUInt64 63)).toInt64 &&& (255 : Int64)).toInt32) M (fun M2 => wX5_append_5 r x1 x2 Qb m (v4 + (-1)) (mu M2 r 1 ((M2 r 1) + (1 : Int32))))))) := h2
      by_cases hc1 : v4 < 0
      · have h1 := h1.1 hc1
        have h2 := h2.1 hc1
        exact ⟨M, (Fr_refl (fun i k => r ≤ i ∧ i ≤ r + 2) M), h1, h2, fun Q' hq => ⟨fun _ => hq, fun z => absurd hc1 z⟩⟩
      · have h1 := h1.2 hc1
        have h2 := h2.2 hc1
        obtain ⟨M2, f2, h1, h2, b3⟩ := u_wX4_put (r + 1) (M r 1) (((x2.toUInt64 >>> (((8 : Int32) * v4).toInt64.toUInt64 &&& Int64.toUInt64 63)).toInt64 &&& (255 : Int64)).toInt32) M h1 h2
        have g4 := Fr_tr (Fr_refl (fun i k => r ≤ i ∧ i ≤ r + 2) M) f2 (fun i k (h : i = (r + 1) + 1) => (show r ≤ i ∧ i ≤ r + 2 from by omega))
        obtain ⟨N9, f7, h1, h2, b8⟩ := ih m (v4 + (-1)) (mu M2 r 1 ((M2 r 1) + (1 : Int32))) h1 h2
        have hf := Fr_ts (Fr_mu g4 (show r ≤ r ∧ r ≤ r + 2 from by omega)) f7
        exact ⟨N9, hf, h1, h2, fun Q' hq => ⟨fun z => absurd z hc1, fun _ => b3 _ (b8 _ hq)⟩⟩
set_option maxHeartbeats 4000000 in
theorem u_wX5_append (r : Nat) (x1 : Int32) (x2 : Int64) {Qa Qb : Mem → Prop} (M : Mem) (h1 : wX5_append r x1 x2 M Qa) (h2 : wX5_append r x1 x2 M Qb) : (∃ (M' : Mem), Fr (fun i k => r ≤ i ∧ i ≤ r + 2) M M' ∧ Qa M' ∧ Qb M' ∧ ∀ (Q' : Mem → Prop), Q' M' → wX5_append r x1 x2 M Q') := by
  have h1 : (∃ n1, wX5_append_5 r x1 x2 Qa n1 (x1 - (1 : Int32)) M) := h1
  have h2 : (∃ n1, wX5_append_5 r x1 x2 Qb n1 (x1 - (1 : Int32)) M) := h2
  obtain ⟨n1_a, h1⟩ := h1
  obtain ⟨n1_b, h2⟩ := h2
  obtain ⟨N5, f3, h1, h2, b4⟩ := u_wX5_append_5 r x1 x2 n1_a n1_b (x1 - (1 : Int32)) M h1 h2
  have hf := Fr_ts (Fr_refl (fun i k => r ≤ i ∧ i ≤ r + 2) M) f3
  exact ⟨N5, hf, h1, h2, fun Q' hq => ⟨n1_a, b4 _ hq⟩⟩
set_option maxHeartbeats 4000000 in
theorem u_wX5_clear (r : Nat) {Qa Qb : Int32 → Mem → Prop} (M : Mem) (h1 : wX5_clear r M Qa) (h2 : wX5_clear r M Qb) : (∃ (a0 : Int32) (M' : Mem), Fr (fun i k => r ≤ i ∧ i ≤ r + 2) M M' ∧ Qa a0 M' ∧ Qb a0 M' ∧ ∀ (Q' : Int32 → Mem → Prop), Q' a0 M' → wX5_clear r M Q') := by
  have h1 : Qa (M r 1) (mu M r 1 (0 : Int32)) := h1
  have h2 : Qb (M r 1) (mu M r 1 (0 : Int32)) := h2
  exact ⟨(M r 1), (mu M r 1 (0 : Int32)), (Fr_mu (Fr_refl (fun i k => r ≤ i ∧ i ≤ r + 2) M) (show r ≤ r ∧ r ≤ r + 2 from by omega)), h1, h2, fun Q' hq => hq⟩
set_option maxHeartbeats 4000000 in
theorem u_wX7_within_15 (x0 : Int32) (x1 : Int32) (x2 : Int32) {Qa Qb : Int32 → Mem → Prop} (s0 : Int32) (M : Mem) (h1 : wX7_within_15 x0 x1 x2 Qa s0 M) (h2 : wX7_within_15 x0 x1 x2 Qb s0 M) : (∃ (a0 : Int32) (M' : Mem), Fr (fun i k => False) M M' ∧ Qa a0 M' ∧ Qb a0 M' ∧ ∀ (Q' : Int32 → Mem → Prop), Q' a0 M' → wX7_within_15 x0 x1 x2 Q' s0 M) := by
  have h1 : ((s0 = 0 ∨ s0 = 1) ∧ Qa s0 M) := h1
  have h2 : ((s0 = 0 ∨ s0 = 1) ∧ Qb s0 M) := h2
  have s1 := h1.1
  have h1 := h1.2
  have h2 := h2.2
  exact ⟨s0, M, (Fr_refl (fun i k => False) M), h1, h2, fun Q' hq => ⟨s1, hq⟩⟩
set_option maxHeartbeats 4000000 in
theorem u_wX7_within_14 (x0 : Int32) (x1 : Int32) (x2 : Int32) {Qa Qb : Int32 → Mem → Prop} (M : Mem) (h1 : wX7_within_14 x0 x1 x2 Qa M) (h2 : wX7_within_14 x0 x1 x2 Qb M) : (∃ (a0 : Int32) (M' : Mem), Fr (fun i k => False) M M' ∧ Qa a0 M' ∧ Qb a0 M' ∧ ∀ (Q' : Int32 → Mem → Prop), Q' a0 M' → wX7_within_14 x0 x1 x2 Q' M) := by
  have h1 : wX7_within_15 x0 x1 x2 Qa (0 : Int32) M := h1
  have h2 : wX7_within_15 x0 x1 x2 Qb (0 : Int32) M := h2
  obtain ⟨c5, N6, f3, h1, h2, b4⟩ := u_wX7_within_15 x0 x1 x2 (0 : Int32) M h1 h2
  have hf := Fr_ts (Fr_refl (fun i k => False) M) f3
  exact ⟨c5, N6, hf, h1, h2, fun Q' hq => b4 _ hq⟩
set_option maxHeartbeats 4000000 in
theorem u_wX7_within (x0 : Int32) (x1 : Int32) (x2 : Int32) {Qa Qb : Int32 → Mem → Prop} (M : Mem) (h1 : wX7_within x0 x1 x2 M Qa) (h2 : wX7_within x0 x1 x2 M Qb) : (∃ (a0 : Int32) (M' : Mem), Fr (fun i k => False) M M' ∧ Qa a0 M' ∧ Qb a0 M' ∧ ∀ (Q' : Int32 → Mem → Prop), Q' a0 M' → wX7_within x0 x1 x2 M Q') := by
  have h1 : ((x0 < x1 → wX7_within_14 x0 x1 x2 Qa M) ∧ (¬ x0 < x1 → ((x2 < x0 → wX7_within_14 x0 x1 x2 Qa M) ∧ (¬ x2 < x0 → wX7_within_15 x0 x1 x2 Qa (1 : Int32) M)))) := h1
  have h2 : ((x0 < x1 → wX7_within_14 x0 x1 x2 Qb M) ∧ (¬ x0 < x1 → ((x2 < x0 → wX7_within_14 x0 x1 x2 Qb M) ∧ (¬ x2 < x0 → wX7_within_15 x0 x1 x2 Qb (1 : Int32) M)))) := h2
  by_cases hc1 : x0 < x1
  · have h1 := h1.1 hc1
    have h2 := h2.1 hc1
    obtain ⟨c6, N7, f4, h1, h2, b5⟩ := u_wX7_within_14 x0 x1 x2 M h1 h2
    have hf := Fr_ts (Fr_refl (fun i k => False) M) f4
    exact ⟨c6, N7, hf, h1, h2, fun Q' hq => ⟨fun _ => b5 _ hq, fun z => absurd hc1 z⟩⟩
  · have h1 := h1.2 hc1
    have h2 := h2.2 hc1
    by_cases hc8 : x2 < x0
    · have h1 := h1.1 hc8
      have h2 := h2.1 hc8
      obtain ⟨c13, N14, f11, h1, h2, b12⟩ := u_wX7_within_14 x0 x1 x2 M h1 h2
      have hf := Fr_ts (Fr_refl (fun i k => False) M) f11
      exact ⟨c13, N14, hf, h1, h2, fun Q' hq => ⟨fun z => absurd z hc1, fun _ => ⟨fun _ => b12 _ hq, fun z => absurd hc8 z⟩⟩⟩
    · have h1 := h1.2 hc8
      have h2 := h2.2 hc8
      obtain ⟨c19, N20, f17, h1, h2, b18⟩ := u_wX7_within_15 x0 x1 x2 (1 : Int32) M h1 h2
      have hf := Fr_ts (Fr_refl (fun i k => False) M) f17
      exact ⟨c19, N20, hf, h1, h2, fun Q' hq => ⟨fun z => absurd z hc1, fun _ => ⟨fun z => absurd z hc8, fun _ => b18 _ hq⟩⟩⟩
set_option maxHeartbeats 4000000 in
theorem u_wX5_isFigure (x0 : Int32) {Qa Qb : Int32 → Mem → Prop} (M : Mem) (h1 : wX5_isFigure x0 M Qa) (h2 : wX5_isFigure x0 M Qb) : (∃ (a0 : Int32) (M' : Mem), Fr (fun i k => False) M M' ∧ Qa a0 M' ∧ Qb a0 M' ∧ ∀ (Q' : Int32 → Mem → Prop), Q' a0 M' → wX5_isFigure x0 M Q') := by
  have h1 : (wX7_within x0 (48 : Int32) (57 : Int32) M (fun r2 M1 => ((r2 = 0 ∨ r2 = 1) ∧ Qa r2 M1))) := h1
  have h2 : (wX7_within x0 (48 : Int32) (57 : Int32) M (fun r2 M1 => ((r2 = 0 ∨ r2 = 1) ∧ Qb r2 M1))) := h2
  obtain ⟨r2, M1, f1, h1, h2, b2⟩ := u_wX7_within x0 (48 : Int32) (57 : Int32) M h1 h2
  have g3 := Fr_tr (Fr_refl (fun i k => False) M) f1 (fun i k (h : False) => h.elim)
  have s4 := h1.1
  have h1 := h1.2
  have h2 := h2.2
  exact ⟨r2, M1, g3, h1, h2, fun Q' hq => b2 _ ⟨s4, hq⟩⟩
set_option maxHeartbeats 4000000 in
theorem u_wX5_figuresFrom_31 (r : Nat) (x1 : Int32) {Qa Qb : Int32 → Mem → Prop} (s0 : Int32) (M : Mem) (h1 : wX5_figuresFrom_31 r x1 Qa s0 M) (h2 : wX5_figuresFrom_31 r x1 Qb s0 M) : (∃ (a0 : Int32) (M' : Mem), Fr (fun i k => False) M M' ∧ Qa a0 M' ∧ Qb a0 M' ∧ ∀ (Q' : Int32 → Mem → Prop), Q' a0 M' → wX5_figuresFrom_31 r x1 Q' s0 M) := by
  have h1 : Qa s0 M := h1
  have h2 : Qb s0 M := h2
  exact ⟨s0, M, (Fr_refl (fun i k => False) M), h1, h2, fun Q' hq => hq⟩
set_option maxHeartbeats 4000000 in
theorem u_wX5_figuresFrom (r : Nat) (x1 : Int32) {Qa Qb : Int32 → Mem → Prop} (M : Mem) (h1 : wX5_figuresFrom r x1 M Qa) (h2 : wX5_figuresFrom r x1 M Qb) : (∃ (a0 : Int32) (M' : Mem), Fr (fun i k => False) M M' ∧ Qa a0 M' ∧ Qb a0 M' ∧ ∀ (Q' : Int32 → Mem → Prop), Q' a0 M' → wX5_figuresFrom r x1 M Q') := by
  have h1 : (wX5_byteAt r x1 M (fun r2 M1 => (wX5_isFigure r2 M1 (fun r4 M3 => ((¬ r4 = 0 → (wX5_byteAt r (x1 + (1 : Int32)) M3 (fun r6 M5 => (wX5_isFigure r6 M5 (fun r8 M7 => ((r8 = 0 → wX5_figuresFrom_31 r x1 Qa (1 : Int32) M7) ∧ (¬ r8 = 0 → wX5_figuresFrom_31 r x1 Qa (2 : Int32) M7))))))) ∧ (r4 = 0 → Qa (0 : Int32) M3)))))) := h1
  have h2 : (wX5_byteAt r x1 M (fun r2 M1 => (wX5_isFigure r2 M1 (fun r4 M3 => ((¬ r4 = 0 → (wX5_byteAt r (x1 + (1 : Int32)) M3 (fun r6 M5 => (wX5_isFigure r6 M5 (fun r8 M7 => ((r8 = 0 → wX5_figuresFrom_31 r x1 Qb (1 : Int32) M7) ∧ (¬ r8 = 0 → wX5_figuresFrom_31 r x1 Qb (2 : Int32) M7))))))) ∧ (r4 = 0 → Qb (0 : Int32) M3)))))) := h2
  obtain ⟨r2, M1, f1, h1, h2, b2⟩ := u_wX5_byteAt r x1 M h1 h2
  have g3 := Fr_tr (Fr_refl (fun i k => False) M) f1 (fun i k (h : False) => h.elim)
  obtain ⟨r4, M3, f4, h1, h2, b5⟩ := u_wX5_isFigure r2 M1 h1 h2
  have g6 := Fr_tr g3 f4 (fun i k (h : False) => h.elim)
  by_cases hc7 : r4 = 0
  · have h1 := h1.2 hc7
    have h2 := h2.2 hc7
    exact ⟨(0 : Int32), M3, g6, h1, h2, fun Q' hq => b2 _ (b5 _ ⟨fun z => absurd hc7 z, fun _ => hq⟩)⟩
  · have h1 := h1.1 hc7
    have h2 := h2.1 hc7
    obtain ⟨r6, M5, f8, h1, h2, b9⟩ := u_wX5_byteAt r (x1 + (1 : Int32)) M3 h1 h2
    have g10 := Fr_tr g6 f8 (fun i k (h : False) => h.elim)
    obtain ⟨r8, M7, f11, h1, h2, b12⟩ := u_wX5_isFigure r6 M5 h1 h2
    have g13 := Fr_tr g10 f11 (fun i k (h : False) => h.elim)
    by_cases hc14 : r8 = 0
    · have h1 := h1.1 hc14
      have h2 := h2.1 hc14
      obtain ⟨c19, N20, f17, h1, h2, b18⟩ := u_wX5_figuresFrom_31 r x1 (1 : Int32) M7 h1 h2
      have hf := Fr_ts g13 f17
      exact ⟨c19, N20, hf, h1, h2, fun Q' hq => b2 _ (b5 _ ⟨fun _ => b9 _ (b12 _ ⟨fun _ => b18 _ hq, fun z => absurd hc14 z⟩), fun z => absurd z hc7⟩)⟩
    · have h1 := h1.2 hc14
      have h2 := h2.2 hc14
      obtain ⟨c25, N26, f23, h1, h2, b24⟩ := u_wX5_figuresFrom_31 r x1 (2 : Int32) M7 h1 h2
      have hf := Fr_ts g13 f23
      exact ⟨c25, N26, hf, h1, h2, fun Q' hq => b2 _ (b5 _ ⟨fun _ => b9 _ (b12 _ ⟨fun z => absurd z hc14, fun _ => b24 _ hq⟩), fun z => absurd z hc7⟩)⟩
set_option maxHeartbeats 4000000 in
theorem u_wX5_numberAt_5 (r : Nat) (x1 : Int32) (x2 : Int32) {Qa Qb : Int32 → Mem → Prop} : ∀ (n1 n2 : Nat) (v3 : Int32) (v4 : Int32) (M : Mem), wX5_numberAt_5 r x1 x2 Qa n1 v3 v4 M → wX5_numberAt_5 r x1 x2 Qb n2 v3 v4 M → (∃ (a0 : Int32) (M' : Mem), Fr (fun i k => False) M M' ∧ Qa a0 M' ∧ Qb a0 M' ∧ ∀ (Q' : Int32 → Mem → Prop), Q' a0 M' → wX5_numberAt_5 r x1 x2 Q' n1 v3 v4 M) := by
  intro n1
  induction n1 with
  | zero => intro _ _ _ _ h1 _; exact h1.elim
  | succ n ih =>
    intro n2 v3 v4 M h1 h2
    cases n2 with
    | zero => exact h2.elim
    | succ m =>
      have h1 : ((x2 ≤ v4 → Qa v3 M) ∧ (¬ x2 ≤ v4 → (wX5_byteAt r (x1 + v4) M (fun r3 M2 => wX5_numberAt_5 r x1 x2 Qa n ((((10 : Int32) * v3) + r3) - (48 : Int32)) (v4 + (1 : Int32)) M2)))) := h1
      have h2 : ((x2 ≤ v4 → Qb v3 M) ∧ (¬ x2 ≤ v4 → (wX5_byteAt r (x1 + v4) M (fun r3 M2 => wX5_numberAt_5 r x1 x2 Qb m ((((10 : Int32) * v3) + r3) - (48 : Int32)) (v4 + (1 : Int32)) M2)))) := h2
      by_cases hc1 : x2 ≤ v4
      · have h1 := h1.1 hc1
        have h2 := h2.1 hc1
        exact ⟨v3, M, (Fr_refl (fun i k => False) M), h1, h2, fun Q' hq => ⟨fun _ => hq, fun z => absurd hc1 z⟩⟩
      · have h1 := h1.2 hc1
        have h2 := h2.2 hc1
        obtain ⟨r3, M2, f2, h1, h2, b3⟩ := u_wX5_byteAt r (x1 + v4) M h1 h2
        have g4 := Fr_tr (Fr_refl (fun i k => False) M) f2 (fun i k (h : False) => h.elim)
        obtain ⟨c9, N10, f7, h1, h2, b8⟩ := ih m ((((10 : Int32) * v3) + r3) - (48 : Int32)) (v4 + (1 : Int32)) M2 h1 h2
        have hf := Fr_ts g4 f7
        exact ⟨c9, N10, hf, h1, h2, fun Q' hq => ⟨fun z => absurd z hc1, fun _ => b3 _ (b8 _ hq)⟩⟩
set_option maxHeartbeats 4000000 in
theorem u_wX5_numberAt (r : Nat) (x1 : Int32) (x2 : Int32) {Qa Qb : Int32 → Mem → Prop} (M : Mem) (h1 : wX5_numberAt r x1 x2 M Qa) (h2 : wX5_numberAt r x1 x2 M Qb) : (∃ (a0 : Int32) (M' : Mem), Fr (fun i k => False) M M' ∧ Qa a0 M' ∧ Qb a0 M' ∧ ∀ (Q' : Int32 → Mem → Prop), Q' a0 M' → wX5_numberAt r x1 x2 M Q') := by
  have h1 : (∃ n1, wX5_numberAt_5 r x1 x2 Qa n1 (0 : Int32) (0 : Int32) M) := h1
  have h2 : (∃ n1, wX5_numberAt_5 r x1 x2 Qb n1 (0 : Int32) (0 : Int32) M) := h2
  obtain ⟨n1_a, h1⟩ := h1
  obtain ⟨n1_b, h2⟩ := h2
  obtain ⟨c5, N6, f3, h1, h2, b4⟩ := u_wX5_numberAt_5 r x1 x2 n1_a n1_b (0 : Int32) (0 : Int32) M h1 h2
  have hf := Fr_ts (Fr_refl (fun i k => False) M) f3
  exact ⟨c5, N6, hf, h1, h2, fun Q' hq => ⟨n1_a, b4 _ hq⟩⟩
