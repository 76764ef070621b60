/-! ONE ACT, from INV: one answer, one memory, whoever asks -/
def ACT (P : (Int64 → Mem → Prop) → Prop) (M0 : Mem) (m : Nat) : Prop := ∃ (r : Int64) (M2 : Mem), INV M2 ∧ KS M0 M2 ∧ DB m M2 ∧ ∀ K : Int64 → Mem → Prop, K r M2 → P K
theorem a_ret {M0 M : Mem} {m : Nat} {v : Int64} (hI : INV M) (hk : KS M0 M) (hd : DB m M) : ACT (fun Q => Q v M) M0 m := ⟨v, M, hI, hk, hd, fun _ h => h⟩
theorem a_if {c : Prop} {A B : (Int64 → Mem → Prop) → Prop} {M0 : Mem} {m : Nat} (h1 : c → ACT A M0 m) (h2 : ¬ c → ACT B M0 m) : ACT (fun Q => (c → A Q) ∧ (¬ c → B Q)) M0 m := by
  by_cases h : c
  · obtain ⟨r, M2, a, b, d, e⟩ := h1 h
    exact ⟨r, M2, a, b, d, fun K hK => ⟨fun _ => e K hK, fun q => absurd h q⟩⟩
  · obtain ⟨r, M2, a, b, d, e⟩ := h2 h
    exact ⟨r, M2, a, b, d, fun K hK => ⟨fun q => absurd q h, fun _ => e K hK⟩⟩
theorem a_nf {c : Prop} {A B : (Int64 → Mem → Prop) → Prop} {M0 : Mem} {m : Nat} (h1 : ¬ c → ACT A M0 m) (h2 : c → ACT B M0 m) : ACT (fun Q => (¬ c → A Q) ∧ (c → B Q)) M0 m := by
  by_cases h : c
  · obtain ⟨r, M2, a, b, d, e⟩ := h2 h
    exact ⟨r, M2, a, b, d, fun K hK => ⟨fun q => absurd h q, fun _ => e K hK⟩⟩
  · obtain ⟨r, M2, a, b, d, e⟩ := h1 h
    exact ⟨r, M2, a, b, d, fun K hK => ⟨fun _ => e K hK, fun q => absurd q h⟩⟩
theorem a_side {c : Prop} {A : (Int64 → Mem → Prop) → Prop} {M0 : Mem} {m : Nat} (hc : c) (h : ACT A M0 m) : ACT (fun Q => c ∧ A Q) M0 m := by
  obtain ⟨r, M2, a, b, d, e⟩ := h
  exact ⟨r, M2, a, b, d, fun K hK => ⟨hc, e K hK⟩⟩
theorem a_step {ρ : Type} {P : (ρ → Mem → Prop) → Prop} {A : (Int64 → Mem → Prop) → ρ → Mem → Prop} {M0 M : Mem} {n m : Nat} (h : STP P n M) (hk : KS M0 M) (kk : ∀ r M2, INV M2 → KS M0 M2 → DB n M2 → ACT (fun Q => A Q r M2) M0 m) : ACT (fun Q => P (fun r1 M1 => ∃ M2, AG M1 M2 ∧ A Q r1 M2)) M0 m := by
  obtain ⟨r, M2, i, s, d, b⟩ := h
  obtain ⟨v, M3, i3, s3, d3, b3⟩ := kk r M2 i (KS_trans hk s) d
  exact ⟨v, M3, i3, s3, d3, fun K hK => b (A K) (b3 K hK)⟩
theorem w20 {k : Nat} (h : k < 20) : vp_in (nI k) 20 := vp_in_nI h (by omega)
set_option maxHeartbeats 4000000 in
theorem st_act {B : Nat → Int32} {x1 x2 : Int32} {M : Mem} {n : Nat} (hI : INV M) (hd : DB n M) (h0 : ¬ B (0 : Int32).toNatClampNeg = 0) (h1 : ¬ B (1 : Int32).toNatClampNeg = 0) : ACT (fun Q => wL_act B x1 x2 M Q) M (n + 40) := by
  have hk := KS_refl M
  have hd' : DB (n + 40) M := DB_le hd (by omega)
  have key : ∀ v4 v5 s0, ACT (fun Q => wL_act_55 B x1 x2 Q v4 v5 s0 M) M (n + 40) := by
    intro v4 v5 s0
    unfold wL_act_55
    refine a_if (fun _ => a_step (st_read hI hd) hk fun r M2 i s d => a_ret i s d) (fun _ => ?_)
    refine a_if (fun _ => a_step (st_read hI hd) hk fun r M2 i s d => a_ret i s d) (fun _ => ?_)
    refine a_if (fun _ => a_step (st_read hI hd) hk fun r M2 i s d => a_ret i s d) (fun _ => ?_)
    refine a_if (fun _ => a_step (st_finish hI hd) hk fun r M2 i s d => a_ret i s d) (fun _ => ?_)
    refine a_if (fun _ => a_step (st_change hI hd') hk fun r M2 i s d => a_ret i s d) (fun _ => ?_)
    refine a_if (fun _ => a_side (by decide) (a_step (st_drop hI hd') hk fun r M2 i s d => a_ret i s d)) (fun _ => ?_)
    refine a_if (fun _ => a_side (w20 (k := 1) (by omega)) (a_side h1 (a_step (st_has hI hd') hk fun r M2 i s d => a_step (st_leaves i d) s fun r M2 i s d => a_ret i s d))) (fun _ => ?_)
    refine a_if (fun _ => a_step (st_period hI hd') hk fun r M2 i s d => a_step (st_ever i d) s fun r M2 i s d => a_ret i s d) (fun _ => ?_)
    refine a_if (fun _ => a_step (st_right hI hd') hk fun r M2 i s d => a_step (st_order i d) s fun r M2 i s d => a_ret i s d) (fun _ => ?_)
    refine a_if (fun _ => a_step (st_shows hI hd') hk fun r M2 i s d => a_side (by decide) (a_step (st_quickest i d) s fun r M2 i s d => a_ret i s d)) (fun _ => ?_)
    refine a_if (fun _ => a_side (by decide) (a_side (w20 (k := 1) (by omega)) (a_side h1 (a_step (st_seen hI hd') hk fun r M2 i s d => a_step (st_so i d) s fun r M2 i s d => a_step (st_sure i d) s fun r M2 i s d => a_ret i s d)))) (fun _ => ?_)
    refine a_if (fun _ => a_side (by decide) (a_side (w20 (k := 1) (by omega)) (a_side h1 (a_step (st_seen hI hd') hk fun r M2 i s d => a_step (st_so i d) s fun r M2 i s d => a_step (st_sure i d) s fun r M2 i s d => a_ret i s d)))) (fun _ => ?_)
    refine a_if (fun _ => a_step (st_lacks hI hd') hk fun r M2 i s d => a_side (by decide) (a_step (st_notice i d) s fun r M2 i s d => a_ret i s d)) (fun _ => ?_)
    refine a_if (fun _ => a_side (by decide) (a_step (st_pleased hI hd') hk fun r M2 i s d => a_ret i s d)) (fun _ => ?_)
    refine a_if (fun _ => a_nf (fun _ => a_step (st_where hI hd') hk fun r M2 i s d => a_ret i s d) (fun _ => a_step (st_forget hI hd') hk fun r M2 i s d => a_ret i s d)) (fun _ => ?_)
    exact a_if (fun _ => a_step (st_back hI hd) hk fun r M2 i s d => a_ret i s d) (fun _ => a_step (st_keep hI hd) hk fun r M2 i s d => a_ret i s d)
  unfold wL_act
  refine a_side (w20 (k := 0) (by omega)) (a_side h0 (a_side (w20 (k := 0) (by omega)) (a_side h0 (a_nf (fun _ => a_side (by decide) (key _ _ _)) (fun _ => a_side (by decide) (key _ _ _))))))
/-! THE LAW'S LOOP -/
/-- the array b is as the laid book -/
def FB (M : Mem) (B : Nat → Int32) : Prop := ∃ N Rr : Nat, (2 ≤ N ∧ N ≤ 9 ∧ 1 ≤ Rr ∧ Rr ≤ 40) ∧ B 0 = nI N ∧ B 1 = nI Rr ∧ M (rid (M 0 2)) 0 = nI N ∧ M (rid (M 0 2)) 1 = nI Rr ∧ ∀ p, p < N → M 24 p = B (9 + p)
theorem FB_ks {M M2 : Mem} {B : Nat → Int32} (hI : INV M) (hk : KS M M2) (h : FB M B) : FB M2 B := by
  obtain ⟨t, N', Rr', K, A, nt, ta, F, hB, -⟩ := hI
  obtain ⟨ht, e2, -⟩ := BK_t hB
  obtain ⟨N, Rr, h1, h2, h3, h4, h5, h6⟩ := h
  have e : rid (M2 0 2) = rid (M 0 2) := by rw [hk.1 2 (by omega) (by omega)]
  refine ⟨N, Rr, h1, h2, h3, ?_, ?_, fun p hp => ?_⟩
  · rw [e, hk.2 _ (by rw [e2]; omega) (by rw [e2]; omega)]; exact h4
  · rw [e, hk.2 _ (by rw [e2]; omega) (by rw [e2]; omega)]; exact h5
  · rw [hk.2 24 (by omega) (by omega)]; exact h6 p hp
theorem cellok {L k : Nat} (hL : L ≤ 260) (hk : k < 1000) : ¬ Int32.ofNat L ≤ nI k → vp_in (nI k) L := fun h => vp_in_nI (Nat.not_le.mp fun q => h ((nI_leI (a := L) (b := k) (by omega) (by omega)).mpr q)) (by omega)
theorem law_391 {L : Nat} {xs : Nat → Int32} {k53 : Int32 → Mem → Mem → (Nat → Int32) → (Nat → Int32) → Prop} {v5 : Int32} {M : Mem} {B Z : Nat → Int32} (hI : INV M) (hF : FB M B) (hn : k53 (v5 + (1 : Int32)) M M B Z) {N : Nat} (h9 : N ≤ 9) (hN : B 0 = nI N) : ∀ m p, p + m = N → wL_law_391 L xs k53 (m + 1) v5 (1 : Int32) (nI p) M M B Z := by
  obtain ⟨N', Rr, f1, f2, f3, f4, f5, f6⟩ := hF
  have hI' := hI
  obtain ⟨t, N0, Rr0, K, A, nt, ta, F, hB, -, ⟨P, b, p1, p2, p3, p4, p5, p6, p7⟩, ⟨kc, c1, c2, c3, -⟩, ⟨sc, jj, ii, vv, s1, s2, s3, s4⟩⟩ := hI
  obtain ⟨ht, e2, e1, k2, k1⟩ := BK_t hB
  obtain ⟨b1, b2, b3, b4, -⟩ := TL_N hB.2.1
  have eN : N' = N := nI_inj (by omega) (by omega) (f2.symm.trans hN)
  subst eN
  have eN0 : N0 = N' := by
    rw [e2, hB.2.1.1] at f4
    exact nI_inj (by omega) (by omega) f4
  subst eN0
  have B0 : B (0 : Int32).toNatClampNeg = nI N0 := by rw [cl0]; exact f2
  have B1 : B (1 : Int32).toNatClampNeg = nI Rr0 := by
    rw [cl1, f3]
    rw [e2, hB.2.1.2.1] at f5
    exact f5.symm
  intro m
  induction m with
  | zero =>
    intro p hp
    have hp : p = N0 := by omega
    subst hp
    unfold wL_law_391
    refine ⟨w20 (k := 0) (by omega), ?_⟩
    rw [B0]
    refine b_le (a := p) (b := p) (by omega) (by omega) (fun _ => ⟨fun q => absurd q one_ne, fun _ => ?_⟩) (fun q => by omega)
    refine ct_all (w := 0) hI' (by omega) ⟨M, AG_refl M, w20 (k := 0) (by omega), bn_t f4 ?_⟩
    refine ct_all (w := 3) hI' (by omega) ⟨M, AG_refl M, w20 (k := 1) (by omega), ?_⟩
    rw [B1]
    show (nI Rr0 ≤ M 61 1 → _) ∧ (¬ nI Rr0 ≤ M 61 1 → _)
    rw [p4]
    refine b_le (a := Rr0) (b := b) (by omega) (by omega) (fun q => by omega) (fun _ => ?_)
    refine ct_all (w := 5) hI' (by omega) ⟨M, AG_refl M, ?_⟩
    show (nI 12 < M 0 9 → _) ∧ (¬ nI 12 < M 0 9 → _)
    rw [s1]
    refine b_lt (a := 12) (b := sc) (by omega) (by omega) (fun q => by omega) (fun _ => ?_)
    refine ct_all (w := 6) hI' (by omega) ⟨M, AG_refl M, ?_⟩
    show (M 0 13 ≤ nI 2 → _) ∧ (¬ M 0 13 ≤ nI 2 → _)
    rw [c1]
    exact b_le (a := kc) (b := 2) (by omega) (by omega) (fun _ => hn) (fun q => by omega)
  | succ m ih =>
    intro p hp
    unfold wL_law_391
    refine ⟨w20 (k := 0) (by omega), ?_⟩
    rw [B0]
    refine b_le (a := N0) (b := p) (by omega) (by omega) (fun q => by omega) (fun _ => ⟨fun q => absurd q one_ne, fun _ => ?_⟩)
    have e9 : (9 : Int32) + nI p = nI (9 + p) := nI_add 9 p
    have f6' : M 24 p = B ((9 : Int32) + nI p).toNatClampNeg := by rw [e9, nI_clamp (by omega)]; exact f6 p (by omega)
    have v9 : vp_in ((9 : Int32) + nI p) 20 := by rw [e9]; exact w20 (by omega)
    refine lf_0 hB (by omega) ⟨M, AG_refl M, lf_0 hB (by omega) ⟨M, AG_refl M, bn_t rfl ?_⟩⟩
    refine lf_1 hB (by omega) ⟨M, AG_refl M, v9, bn_t f6' ?_⟩
    refine lf_1 hB (by omega) ⟨M, AG_refl M, v9, bn_t f6' ?_⟩
    show wL_law_391 L xs k53 (m + 1) v5 (1 : Int32) (nI p + (1 : Int32)) M M B Z
    rw [nI_1]
    exact ih (p + 1) (by omega)
theorem law_339 {L : Nat} {xs : Nat → Int32} {k53 : Int32 → Mem → Mem → (Nat → Int32) → (Nat → Int32) → Prop} {v5 : Int32} {M : Mem} {B Z : Nat → Int32} {n : Nat} (hI : INV M) (hd : DB n M) (hn : n < 2 ^ 31) (hk : ∃ n1, wL_law_391 L xs k53 n1 v5 (1 : Int32) (0 : Int32) M M B Z) : ∀ m w, w + m = 8 → wL_law_339 L xs k53 (m + 1) v5 (1 : Int32) (nI w) M M B Z := by
  intro m
  induction m with
  | zero =>
    intro w hw
    have hw : w = 8 := by omega
    subst hw
    unfold wL_law_339
    exact b_le (a := 8) (b := 8) (by omega) (by omega) (fun _ => hk) (fun q => by omega)
  | succ m ih =>
    intro w hw
    unfold wL_law_339
    refine b_le (a := 8) (b := w) (by omega) (by omega) (fun q => by omega) (fun _ => ⟨fun q => absurd q one_ne, fun _ => ?_⟩)
    refine ct_all hI (by omega) ⟨M, AG_refl M, ct_all hI (by omega) ⟨M, AG_refl M, bn_t rfl ?_⟩⟩
    refine ct_all hI (by omega) ⟨M, AG_refl M, fun q => absurd q (ct_pos hI hd hn), fun _ => ?_⟩
    show wL_law_339 L xs k53 (m + 1) v5 (1 : Int32) (nI w + (1 : Int32)) M M B Z
    rw [nI_1]
    exact ih (w + 1) (by omega)
set_option maxHeartbeats 4000000 in
theorem law_53 {L : Nat} {xs : Nat → Int32} (hL : L ≤ 260) {B Z : Nat → Int32} : ∀ m i M, i + m = 40 → INV M → DB (40 * i) M → FB M B → wL_law_53 L xs (m + 1) (nI i) M M B Z := by
  intro m
  induction m with
  | zero =>
    intro i M hi hI hd hF
    have hi : i = 40 := by omega
    subst hi
    unfold wL_law_53
    exact b_le (a := 40) (b := 40) (by omega) (by omega) (fun _ => trivial) (fun q => by omega)
  | succ m ih =>
    intro i M hi hI hd hF
    unfold wL_law_53
    refine b_le (a := 40) (b := i) (by omega) (by omega) (fun q => by omega) (fun _ => ?_)
    have c5 : (5 : Int32) + (2 : Int32) * nI i = nI (5 + 2 * i) := by rw [show (2 : Int32) * nI i = nI (2 * i) from pk_mul 2 i]; exact nI_add 5 (2 * i)
    have c6 : (6 : Int32) + (2 : Int32) * nI i = nI (6 + 2 * i) := by rw [show (2 : Int32) * nI i = nI (2 * i) from pk_mul 2 i]; exact nI_add 6 (2 * i)
    refine ⟨by rw [c5]; exact cellok hL (by omega), by rw [c6]; exact cellok hL (by omega), ?_⟩
    generalize cellV L xs ((5 : Int32) + (2 : Int32) * nI i) = x
    generalize cellV L xs ((6 : Int32) + (2 : Int32) * nI i) = y
    have lz : lg_cmp (-1 : Int64) (-1 : Int64) = 0 := (lg_cmp_eq _ _).mpr rfl
    refine rf_write ⟨M, AG_refl M, bn_t rfl ?_⟩
    refine rf_leaf hI ⟨M, AG_refl M, bn_t rfl ?_⟩
    refine rf_where hI ⟨M, AG_refl M, bn_t rfl ?_⟩
    refine rf_change hI ⟨M, AG_refl M, bn_t rfl ?_⟩
    refine rf_drop ⟨M, AG_refl M, bn_t rfl ?_⟩
    refine rf_has hI ⟨M, AG_refl M, bn_t rfl ?_⟩
    refine rf_leaves ⟨M, AG_refl M, bn_t lz ?_⟩
    refine rf_ever ⟨M, AG_refl M, bn_t lz ?_⟩
    refine rf_right ⟨M, AG_refl M, bn_t rfl ?_⟩
    refine rf_order hI ⟨M, AG_refl M, bn_t rfl ?_⟩
    refine rf_shows ⟨M, AG_refl M, bn_t rfl ?_⟩
    refine rf_quickest ⟨M, AG_refl M, bn_t rfl ?_⟩
    refine rf_seen hI ⟨M, AG_refl M, bn_t rfl ?_⟩
    refine rf_sure hI ⟨M, AG_refl M, bn_t rfl ?_⟩
    refine rf_lacks hI ⟨M, AG_refl M, bn_t rfl ?_⟩
    refine rf_notice hI ⟨M, AG_refl M, bn_t rfl ?_⟩
    refine rf_pleased ⟨M, AG_refl M, bn_t rfl ?_⟩
    refine rf_count ⟨M, AG_refl M, bn_t rfl ?_⟩
    refine ⟨fun q => absurd q one_ne, fun _ => ?_⟩
    have hF' := hF
    obtain ⟨N, Rr, f1, f2, f3, f4, f5, f6⟩ := hF
    have h0 : ¬ B (0 : Int32).toNatClampNeg = 0 := by
      rw [cl0, f2]
      intro q
      have := nI_inj (a := N) (b := 0) (by omega) (by omega) q
      omega
    have h1 : ¬ B (1 : Int32).toNatClampNeg = 0 := by
      rw [cl1, f3]
      intro q
      have := nI_inj (a := Rr) (b := 0) (by omega) (by omega) q
      omega
    obtain ⟨r, M2, i2, s2, d2, b⟩ := st_act (B := B) (x1 := x) (x2 := y) hI hd h0 h1
    refine b _ (b _ ⟨fun _ => ?_, fun q => absurd ((lg_cmp_eq _ _).mpr rfl) q⟩)
    obtain ⟨r3, M3, i3, s3, d3, b3⟩ := st_so i2 d2
    refine b3 _ (b3 _ (bn_t rfl ?_))
    have F3 := FB_ks i2 s3 (FB_ks hI s2 hF')
    refine ⟨9, law_339 i3 d3 (by omega) ⟨N + 1, law_391 i3 F3 ?_ f1.2.1 f2 N 0 (by omega)⟩ 8 0 (by omega)⟩
    show wL_law_53 L xs (m + 1) (nI i + (1 : Int32)) M3 M3 B Z
    rw [nI_1]
    exact ih (i + 1) M3 (by omega) i3 (DB_le d3 (by omega)) F3
