/-! PURE 13: keep, back, write, wipe -/
theorem INV_q {M M' : Mem} {t N Rr K A nt : Nat} {ta F : Nat → Nat} (hB : BK M t N Rr K A nt ta F) (hT : ∃ tl tx, TXT M' tl tx) (hS : SN M N Rr K A) (e0 : ∀ k, k ≠ 13 → M' 0 k = M 0 k) (e79 : ∀ k, k ≠ 14 → k ≠ 0 → M' 79 k = M 79 k) (s : ∀ x, (4 ≤ x ∧ x < 61) ∨ (79 < x ∧ x < 90 ∧ x ≠ 80) ∨ 92 < x → M' x = M x) (hP : PKI M' N Rr 61 0) (hK : KPT M' N Rr) : INV M' := by
  obtain ⟨ht, -⟩ := BK_t hB
  refine ⟨t, N, Rr, K, A, nt, ta, F, ?_, hT, hP, hK, ?_⟩
  · exact BK_congr hB ⟨e0 1 (by omega), e0 2 (by omega)⟩ (s t (by omega)) (s (t + 6) (by omega)) (by rw [s 22 (by omega)]) (s 24 (by omega)) (fun x hx => s x (by omega)) ⟨by rw [s 81 (by omega)], by rw [s 82 (by omega)], by rw [s 83 (by omega)], by rw [s 84 (by omega)], by rw [s 87 (by omega)]⟩ (fun k _ => by rw [s 88 (by omega)]) (s 89 (by omega)) (s 98 (by omega)) (s 99 (by omega))
  · exact SN_congr hS (e0 9 (by omega)) (e79 15 (by omega) (by omega)) (s 58 (by omega)) (s 60 (by omega)) (s 93 (by omega)) (s 94 (by omega)) (s 95 (by omega))
theorem s2_copyFrom {c c' : Nat} {M : Mem} {Q : Mem → Prop} (hc : c = 61 ∨ c = 67 ∨ c = 73) (hc' : c' = 61 ∨ c' = 67 ∨ c' = 73) (hne : c ≠ c') (h : ∀ M1 : Mem, M1 (c + 1) 2 = M (c' + 1) 2 → (∀ p, p < 40 → M1 (c + 3) p = M (c' + 3) p) → M1 c 1 = M c' 1 → M1 c 2 = M c' 2 → (∀ x, x ≠ c → x ≠ c + 1 → x ≠ c + 3 → M1 x = M x) → Q M1) : wX2_copyFrom c c' M Q := by
  have l : ∀ d, d = 61 ∨ d = 67 ∨ d = 73 → ln (d + 1 + 2) = 40 := fun d hd => by rcases hd with r | r | r <;> subst r <;> rfl
  refine s1_copyFrom (o := c + 1) (o' := c' + 1) (l c hc) (l c' hc') (by omega) ?_ (by omega)
  generalize hM0 : sr (mu M (c + 1) 2 (M (c' + 1) 2)) (c + 1 + 2) (fun p => if p < 40 then M (c' + 1 + 2) p else M (c + 1 + 2) p) = M0
  have e1 : M0 (c + 1) 2 = M (c' + 1) 2 := by rw [← hM0, sr_ne (by omega)]; exact mu_at _ _ _ _
  have e2 : ∀ p, p < 40 → M0 (c + 3) p = M (c' + 3) p := fun p hp => by rw [← hM0, show c + 1 + 2 = c + 3 from rfl, sr_self]; exact if_pos hp
  have e3 : ∀ x, x ≠ c + 1 → x ≠ c + 3 → M0 x = M x := fun x a b => by rw [← hM0, sr_ne (by omega), mu_ne a]
  refine h _ ?_ (fun p hp => ?_) ?_ ?_ (fun x a b d => ?_)
  · rw [mu_no (by omega), mu_no (by omega)]; exact e1
  · rw [mu_no (by omega), mu_no (by omega)]; exact e2 p hp
  · rw [mu_no (by omega), mu_at, e3 c' (by omega) (by omega)]
  · rw [mu_at, mu_no (by omega), e3 c' (by omega) (by omega)]
  · rw [mu_ne a, mu_ne a]; exact e3 x b d
theorem s8_copy {a b : Nat} {M : Mem} {Q : Mem → Prop} (ha : a ≤ 2) (hb : b ≤ 2) (hne : a ≠ b) (h : ∀ M1 : Mem, (∀ p, p < 40 → M1 90 (40 * b + p) = M 90 (40 * a + p)) → (∀ p, ¬ (40 * b ≤ p ∧ p < 40 * b + 40) → M1 90 p = M 90 p) → (∀ w, M1 91 w = if w = b then M 91 a else M 91 w) → (∀ w, M1 92 w = if w = b then M 92 a else M 92 w) → (∀ x, x ≠ 90 → x ≠ 91 → x ≠ 92 → M1 x = M x) → Q M1) : wX8_copy (nI a) (nI b) M Q := by
  refine loop_0 (fun n i M' => wX8_copy_2 (nI a) (nI b) Q n (nI i) M') (fun i M' => (∀ p, p < i → M' 90 (40 * b + p) = M 90 (40 * a + p)) ∧ (∀ p, ¬ (40 * b ≤ p ∧ p < 40 * b + 40) → M' 90 p = M 90 p) ∧ ∀ x, x ≠ 90 → M' x = M x) 40 M ⟨fun p hp => by omega, fun _ _ => rfl, fun _ _ => rfl⟩ ?_ ?_
  · intro n M' ⟨p1, p2, p3⟩
    unfold wX8_copy_2
    refine b_le (a := 40) (b := 40) (by omega) (by omega) (fun _ => ?_) (fun q => by omega)
    rw [nI_clamp (by omega), nI_clamp (by omega)]
    refine ⟨vi (show a < 3 by omega), vi (show b < 3 by omega), vi (show a < 3 by omega), vi (show b < 3 by omega), ?_⟩
    refine h _ (fun p hp => ?_) (fun p hp => ?_) (fun w => ?_) (fun w => ?_) (fun x c d e => ?_)
    · rw [mu_no (by omega), mu_no (by omega)]; exact p1 p hp
    · rw [mu_no (by omega), mu_no (by omega)]; exact p2 p hp
    · rw [mu_no (by omega)]
      by_cases e : w = b
      · rw [if_pos e, e, mu_at, p3 91 (by omega)]
      · rw [if_neg e, mu_no (by omega), p3 91 (by omega)]
    · by_cases e : w = b
      · rw [if_pos e, e, mu_at, mu_no (by omega), p3 92 (by omega)]
      · rw [if_neg e, mu_no (by omega), mu_no (by omega), p3 92 (by omega)]
    · rw [mu_ne e, mu_ne d]; exact p3 x c
  · intro n i M' hi ⟨p1, p2, p3⟩ hk
    unfold wX8_copy_2
    refine b_le (a := 40) (b := i) (by omega) (by omega) (fun q => by omega) (fun _ => ?_)
    rw [show (40 : Int32) = nI 40 from rfl, pk_mul, pk_mul, nI_add, nI_add, nI_1, nI_clamp (by omega), nI_clamp (by omega)]
    refine ⟨vi (show _ < 120 by omega), vi (show _ < 120 by omega), hk _ ⟨fun p hp => ?_, fun p hp => ?_, fun x hx => ?_⟩⟩
    · by_cases e : p = i
      · rw [e, mu_at]
        exact p2 _ (by omega)
      · rw [mu_no (by omega)]; exact p1 p (by omega)
    · rw [mu_no (by omega)]; exact p2 p hp
    · rw [mu_ne hx]; exact p3 x hx
theorem PKI_copy {M M1 : Mem} {N Rr c c' w w' : Nat} (h40 : N ≤ 40) (h : PKI M N Rr c' w') (e1 : M1 (c + 1) 2 = M (c' + 1) 2) (e3 : ∀ p, p < 40 → M1 (c + 3) p = M (c' + 3) p) (e4 : M1 c 1 = M c' 1) (e5 : M1 c 2 = M c' 2) (e6 : ∀ p, p < 40 → M1 90 (40 * w + p) = M 90 (40 * w' + p)) (e7 : M1 91 w = M 91 w') (e8 : M1 92 w = M 92 w') : PKI M1 N Rr c w := by
  obtain ⟨P, b, p1, p2, p3, p4, p5, p6, p7⟩ := h
  exact ⟨P, b, e1.trans p1, p2, fun p hp => ⟨(e3 p (by omega)).trans (p3 p hp).1, (e6 p (by omega)).trans (p3 p hp).2⟩, e4.trans p4, e7.trans p5, p6, (e5.trans p7).trans e8.symm⟩
theorem k_keep {M : Mem} {Q : Int32 → Int32 → Mem → Prop} (hI : INV M) (h : GQ Q) : wX7_keep M (fun r1 M1 => wX8_keep M1 (fun r2 M2 => Q r1 r2 M2)) := by
  have hI' := hI
  obtain ⟨t, N, Rr, K, A, nt, ta, F, hB, ⟨tl, tx, hT⟩, hP, ⟨kc, c1, c2, c3, c4, c5⟩, hS⟩ := hI
  obtain ⟨b1, b2, b3, b4, -⟩ := TL_N hB.2.1
  unfold wX7_keep
  rw [c1]
  refine b_lt (a := kc) (b := 2) (by omega) (by omega) (fun q => ?_) (fun q => ?_)
  · have main : ∀ c, (kc = 0 ∧ c = 67 ∨ kc = 1 ∧ c = 73) → wX2_copyFrom c 61 M (fun M4 => (fun r1 M1 => wX8_keep M1 (fun r2 M2 => Q r1 r2 M2)) ((mu M4 0 13 ((M4 0 13) + (1 : Int32))) 0 13) (mu M4 0 13 ((M4 0 13) + (1 : Int32)))) := by
      intro c hc
      refine s2_copyFrom (by omega) (by omega) (by omega) fun M1 f1 f2 f3 f4 f5 => ?_
      show wX8_keep _ _
      rw [mu_at, f5 0 (by omega) (by omega) (by omega), c1, nI_1]
      have z79 : mu M1 0 13 (nI (kc + 1)) 79 = M 79 := by rw [mu_ne (by omega)]; exact f5 79 (by omega) (by omega) (by omega)
      generalize hM2 : mu M1 0 13 (nI (kc + 1)) = M2 at z79 ⊢
      have g1 : ∀ x, x ≠ 0 → M2 x = M1 x := fun x hx => by rw [← hM2, mu_ne hx]
      unfold wX8_keep
      rw [z79, c2]
      refine b_ne (a := kc) (b := 2) (by omega) (by omega) (fun _ => ?_) (fun q2 => by omega)
      rw [nI_1, mu_at]
      refine s8_copy (a := 0) (b := kc + 1) (by omega) (by omega) (by omega) fun M3 d1 d2 d3 d4 d5 => ?_
      generalize hM4 : mu M2 79 14 (nI (kc + 1)) = M4 at d1 d2 d3 d4 d5
      have g2 : ∀ x, x ≠ 79 → M4 x = M2 x := fun x hx => by rw [← hM4, mu_ne hx]
      have s : ∀ x, x ≠ 0 → x ≠ 79 → x ≠ c → x ≠ c + 1 → x ≠ c + 3 → x ≠ 90 → x ≠ 91 → x ≠ 92 → M3 x = M x := fun x h0 h1 h2 h3 h4 h5 h6 h7 => by rw [d5 x h5 h6 h7, g2 x h1, g1 x h0, f5 x h2 h3 h4]
      have r0 : M3 0 = M2 0 := by rw [d5 0 (by omega) (by omega) (by omega), g2 0 (by omega)]
      have r79 : M3 79 = M4 79 := d5 79 (by omega) (by omega) (by omega)
      have rc : ∀ x, x = c ∨ x = c + 1 ∨ x = c + 3 → M3 x = M1 x := fun x hx => by rw [d5 x (by omega) (by omega) (by omega), g2 x (by omega), g1 x (by omega)]
      have r90 : ∀ x, x = 90 ∨ x = 91 ∨ x = 92 → M4 x = M x := fun x hx => by rw [g2 x (by omega), g1 x (by omega), f5 x (by omega) (by omega) (by omega)]
      rw [r90 90 (by omega)] at d1 d2
      rw [r90 91 (by omega)] at d3
      rw [r90 92 (by omega)] at d4
      have e79 : ∀ k, k ≠ 14 → M3 79 k = M 79 k := fun k hk => by rw [r79, ← hM4, mu_no (by omega), z79]
      have v79 : M3 79 14 = nI (kc + 1) := by rw [r79, ← hM4, mu_at]
      rw [v79]
      have nk : PKI M3 N Rr c (kc + 1) := PKI_copy b2 hP (by rw [rc _ (by omega)]; exact f1) (fun p hp => by rw [rc _ (by omega)]; exact f2 p hp) (by rw [rc _ (by omega)]; exact f3) (by rw [rc _ (by omega)]; exact f4) (fun p hp => by rw [d1 p hp]) (by rw [d3, if_pos rfl]) (by rw [d4, if_pos rfl])
      have oP : ∀ c' w, c' = 61 ∨ c' = 67 ∨ c' = 73 → c' ≠ c → w ≤ 2 → w ≠ kc + 1 → PKI M N Rr c' w → PKI M3 N Rr c' w := fun c' w h1 h2 h3 h4 hp => PKI_congr hp (s _ (by omega) (by omega) (by omega) (by omega) (by omega) (by omega) (by omega) (by omega)) (by rw [s (c' + 1) (by omega) (by omega) (by omega) (by omega) (by omega) (by omega) (by omega) (by omega)]) (s _ (by omega) (by omega) (by omega) (by omega) (by omega) (by omega) (by omega) (by omega)) (fun p hp => d2 _ (by omega)) (by rw [d3, if_neg h4]) (by rw [d4, if_neg h4])
      refine h _ _ (INV_q hB ⟨tl, tx, TXT_congr hT (by rw [s 1 (by omega) (by omega) (by omega) (by omega) (by omega) (by omega) (by omega) (by omega)]) (s 3 (by omega) (by omega) (by omega) (by omega) (by omega) (by omega) (by omega) (by omega)) (e79 0 (by omega)) (s 80 (by omega) (by omega) (by omega) (by omega) (by omega) (by omega) (by omega) (by omega))⟩ hS (fun k hk => by rw [r0, ← hM2, mu_no (by omega), f5 0 (by omega) (by omega) (by omega)]) (fun k hk _ => e79 k hk) (fun x hx => s x (by omega) (by omega) (by omega) (by omega) (by omega) (by omega) (by omega) (by omega)) (oP 61 0 (by omega) (by omega) (by omega) (by omega) hP) ⟨kc + 1, by rw [r0, ← hM2, mu_at], v79, by omega, fun _ => ?_, fun hk => ?_⟩)
      · rcases hc with ⟨k0, k1⟩ | ⟨k0, k1⟩
        · subst k0; subst k1; exact nk
        · exact oP 67 1 (by omega) (by omega) (by omega) (by omega) (c4 (by omega))
      · rcases hc with ⟨k0, k1⟩ | ⟨k0, k1⟩
        · omega
        · subst k0; subst k1; exact nk
    have hk : kc = 0 ∨ kc = 1 := by omega
    rcases hk with k0 | k0
    · subst k0
      exact i_f ⟨rfl, main 67 (by omega)⟩
    · subst k0
      exact i_t ⟨rfl, main 73 (by omega)⟩
  · unfold wX8_keep
    dsimp only
    rw [c2]
    exact b_ne (a := kc) (b := 2) (by omega) (by omega) (fun q2 => by omega) (fun _ => h _ _ hI')
theorem k_back {M : Mem} {Q : Int32 → Int32 → Mem → Prop} (hI : INV M) (h : GQ Q) : wX7_back M (fun r1 M1 => wX8_back M1 (fun r2 M2 => Q r1 r2 M2)) := by
  have hI' := hI
  obtain ⟨t, N, Rr, K, A, nt, ta, F, hB, ⟨tl, tx, hT⟩, hP, ⟨kc, c1, c2, c3, c4, c5⟩, hS⟩ := hI
  obtain ⟨b1, b2, b3, b4, -⟩ := TL_N hB.2.1
  unfold wX7_back
  rw [c1]
  refine b_lt (a := 0) (b := kc) (by omega) (by omega) (fun q => ?_) (fun q => ?_)
  · rw [nI_sub1 (by omega), mu_at]
    generalize hM1 : mu M 0 13 (nI (kc - 1)) = M1
    have g1 : ∀ x, x ≠ 0 → M1 x = M x := fun x hx => by rw [← hM1, mu_ne hx]
    have z0 : M1 0 13 = nI (kc - 1) := by rw [← hM1, mu_at]
    have main : ∀ c, (kc = 1 ∧ c = 67 ∨ kc = 2 ∧ c = 73) → PKI M N Rr c kc → wX2_copyFrom 61 c M1 (fun M4 => (fun r1 M1 => wX8_back M1 (fun r2 M2 => Q r1 r2 M2)) (M4 0 13) M4) := by
      intro c hc hPc
      refine s2_copyFrom (by omega) (by omega) (by omega) fun M2 f1 f2 f3 f4 f5 => ?_
      show wX8_back _ _
      rw [f5 0 (by omega) (by omega) (by omega), z0]
      have z79 : M2 79 = M 79 := by rw [f5 79 (by omega) (by omega) (by omega), g1 79 (by omega)]
      unfold wX8_back
      rw [z79, c2]
      refine b_ne (a := kc) (b := 0) (by omega) (by omega) (fun _ => ?_) (fun q2 => by omega)
      refine s8_copy (a := kc) (b := 0) (by omega) (by omega) (by omega) fun M3 d1 d2 d3 d4 d5 => ?_
      have r90 : ∀ x, x = 90 ∨ x = 91 ∨ x = 92 → M2 x = M x := fun x hx => by rw [f5 x (by omega) (by omega) (by omega), g1 x (by omega)]
      rw [r90 90 (by omega)] at d1 d2
      rw [r90 91 (by omega)] at d3
      rw [r90 92 (by omega)] at d4
      have v79 : M3 79 = M 79 := by rw [d5 79 (by omega) (by omega) (by omega)]; exact z79
      rw [v79, c2, nI_sub1 (by omega), mu_at]
      generalize hM4 : mu M3 79 14 (nI (kc - 1)) = M4
      have g4 : ∀ x, x ≠ 79 → M4 x = M3 x := fun x hx => by rw [← hM4, mu_ne hx]
      have s : ∀ x, x ≠ 0 → x ≠ 79 → x ≠ 61 → x ≠ 62 → x ≠ 64 → x ≠ 90 → x ≠ 91 → x ≠ 92 → M4 x = M x := fun x h0 h1 h2 h3 h4 h5 h6 h7 => by rw [g4 x h1, d5 x h5 h6 h7, f5 x h2 h3 h4, g1 x h0]
      have r0 : M4 0 = M1 0 := by rw [g4 0 (by omega), d5 0 (by omega) (by omega) (by omega), f5 0 (by omega) (by omega) (by omega)]
      have e79 : ∀ k, k ≠ 14 → M4 79 k = M 79 k := fun k hk => by rw [← hM4, mu_no (by omega), v79]
      have rc : ∀ x, x = 61 ∨ x = 62 ∨ x = 64 → M4 x = M2 x := fun x hx => by rw [g4 x (by omega), d5 x (by omega) (by omega) (by omega)]
      have y : ∀ x, x = c ∨ x = c + 1 ∨ x = c + 3 → M1 x = M x := fun x hx => g1 x (by omega)
      have nk : PKI M4 N Rr 61 0 := PKI_copy b2 hPc (by rw [rc _ (by omega), ← y (c + 1) (by omega)]; exact f1) (fun p hp => by rw [rc _ (by omega), ← y (c + 3) (by omega)]; exact f2 p hp) (by rw [rc _ (by omega), ← y c (by omega)]; exact f3) (by rw [rc _ (by omega), ← y c (by omega)]; exact f4) (fun p hp => by rw [g4 90 (by omega)]; exact d1 p hp) (by rw [g4 91 (by omega), d3, if_pos rfl]) (by rw [g4 92 (by omega), d4, if_pos rfl])
      have oP : ∀ c' w, c' = 67 ∨ c' = 73 → 1 ≤ w → PKI M N Rr c' w → PKI M4 N Rr c' w := fun c' w h1 h3 hp => PKI_congr hp (s _ (by omega) (by omega) (by omega) (by omega) (by omega) (by omega) (by omega) (by omega)) (by rw [s (c' + 1) (by omega) (by omega) (by omega) (by omega) (by omega) (by omega) (by omega) (by omega)]) (s _ (by omega) (by omega) (by omega) (by omega) (by omega) (by omega) (by omega) (by omega)) (fun p hp => by rw [g4 90 (by omega)]; exact d2 _ (by omega)) (by rw [g4 91 (by omega), d3, if_neg (by omega)]) (by rw [g4 92 (by omega), d4, if_neg (by omega)])
      refine h _ _ (INV_q hB ⟨tl, tx, TXT_congr hT (by rw [s 1 (by omega) (by omega) (by omega) (by omega) (by omega) (by omega) (by omega) (by omega)]) (s 3 (by omega) (by omega) (by omega) (by omega) (by omega) (by omega) (by omega) (by omega)) (e79 0 (by omega)) (s 80 (by omega) (by omega) (by omega) (by omega) (by omega) (by omega) (by omega) (by omega))⟩ hS (fun k hk => by rw [r0, ← hM1, mu_no (by omega)]) (fun k hk _ => e79 k hk) (fun x hx => s x (by omega) (by omega) (by omega) (by omega) (by omega) (by omega) (by omega) (by omega)) nk ⟨kc - 1, by rw [r0]; exact z0, by rw [← hM4, mu_at], by omega, fun hk => oP 67 1 (by omega) (by omega) (c4 (by omega)), fun hk => oP 73 2 (by omega) (by omega) (c5 (by omega))⟩)
    have hk : kc = 1 ∨ kc = 2 := by omega
    rcases hk with k0 | k0
    · subst k0
      exact i_f ⟨rfl, main 67 (by omega) (c4 (by omega))⟩
    · subst k0
      exact i_t ⟨rfl, main 73 (by omega) (c5 (by omega))⟩
  · unfold wX8_back
    dsimp only
    rw [c2]
    exact b_ne (a := kc) (b := 0) (by omega) (by omega) (fun q2 => by omega) (fun _ => h _ _ hI')
theorem k_wipe {M : Mem} {Q : Int32 → Int32 → Mem → Prop} (hI : INV M) (h : GQ Q) : wX7_wipe M (fun r1 M1 => wX8_wipe M1 (fun r2 M2 => Q r1 r2 M2)) := by
  obtain ⟨t, N, Rr, K, A, nt, ta, F, hB, ⟨tl, tx, hT⟩, hP, hK, hS⟩ := hI
  show Q (M 1 1) (mu M 1 1 (0 : Int32) 79 0) (mu (mu M 1 1 (0 : Int32)) 79 0 (0 : Int32))
  rw [mu_no (by omega), hT.1, hT.2.1]
  generalize hM1 : mu (mu M 1 1 (0 : Int32)) 79 0 (0 : Int32) = M1
  have s : ∀ x, x ≠ 1 → x ≠ 79 → M1 x = M x := fun x a b => by rw [← hM1, mu_ne b, mu_ne a]
  have s79 : ∀ k, k ≠ 0 → M1 79 k = M 79 k := fun k hk => by rw [← hM1, mu_no (by omega), mu_no (by omega)]
  refine h _ _ (INV_q hB ⟨0, tx, ?_, ?_, by omega, fun k hk => by omega⟩ hS (fun k _ => by rw [s 0 (by omega) (by omega)]) (fun k _ hk => s79 k hk) (fun x hx => s x (by omega) (by omega)) ?_ ?_)
  · rw [← hM1, mu_no (by omega), mu_at]; rfl
  · rw [← hM1, mu_at]; rfl
  · exact PKI_congr hP (s 61 (by omega) (by omega)) (by rw [s (61 + 1) (by omega) (by omega)]) (s (61 + 3) (by omega) (by omega)) (fun p _ => by rw [s 90 (by omega) (by omega)]) (by rw [s 91 (by omega) (by omega)]) (by rw [s 92 (by omega) (by omega)])
  · exact KPT_congr hK (by rw [s 0 (by omega) (by omega)]) (s79 14 (by omega)) (fun x hx => s x (by omega) (by omega)) (fun p hp => by rw [s 90 (by omega) (by omega)]) (fun w hw => by rw [s 91 (by omega) (by omega), s 92 (by omega) (by omega)]; exact ⟨rfl, rfl⟩)
theorem bte_cl (x : Int64) : ∀ c, c < 8 → ∃ b : Nat, b < 256 ∧ (((x.toUInt64 >>> (((8 : Int32) * nI c).toInt64.toUInt64 &&& Int64.toUInt64 63)).toInt64 &&& (255 : Int64)).toInt32) = nI b ∧ (((x >>> (((8 : Int32) * nI c).toInt64 &&& 63)) &&& (255 : Int64)).toInt32) = nI b := by
  intro c hc
  have hs1 : ∀ c, c < 8 → ((((8 : Int32) * nI c).toInt64.toUInt64 &&& Int64.toUInt64 63).toBitVec % 64).toNat = 8 * c := by decide +kernel
  have hs2 : ∀ c, c < 8 → ((((8 : Int32) * nI c).toInt64 &&& 63).toBitVec.smod 64).toNat = 8 * c := by decide +kernel
  have h1 := hs1 c hc
  have h2 := hs2 c hc
  generalize ((8 : Int32) * nI c).toInt64.toUInt64 &&& Int64.toUInt64 63 = u at h1 ⊢
  generalize ((8 : Int32) * nI c).toInt64 &&& 63 = w at h2 ⊢
  have e : (x.toUInt64 >>> u).toInt64.toInt32 &&& (255 : Int32) = (x >>> w).toInt32 &&& (255 : Int32) := by
    apply Int32.toBitVec_inj.mp
    apply BitVec.eq_of_getLsbD_eq
    intro i hi
    rw [Int32.toBitVec_and, Int32.toBitVec_and, BitVec.getLsbD_and, BitVec.getLsbD_and]
    rcases Nat.lt_or_ge i 8 with g | g
    · have a1 : (x.toUInt64 >>> u).toInt64.toInt32.toBitVec.getLsbD i = x.toBitVec.getLsbD (8 * c + i) := by
        show ((x.toUInt64 >>> u).toBitVec.signExtend 32).getLsbD i = _
        rw [UInt64.toBitVec_shiftRight]
        show ((x.toBitVec >>> (u.toBitVec % 64).toNat).signExtend 32).getLsbD i = _
        rw [h1, BitVec.getLsbD_signExtend, BitVec.getLsbD_ushiftRight]
        simp [hi, show i < 64 by omega]
      have a2 : (x >>> w).toInt32.toBitVec.getLsbD i = x.toBitVec.getLsbD (8 * c + i) := by
        show ((x >>> w).toBitVec.signExtend 32).getLsbD i = _
        rw [Int64.toBitVec_shiftRight]
        show ((x.toBitVec.sshiftRight (w.toBitVec.smod 64).toNat).signExtend 32).getLsbD i = _
        rw [h2, BitVec.getLsbD_signExtend, BitVec.getLsbD_sshiftRight]
        simp [hi, show i < 64 by omega, show 8 * c + i < 64 by omega]
      rw [a1, a2]
    · have z : ∀ i, i < 32 → 8 ≤ i → (255 : Int32).toBitVec.getLsbD i = false := by decide +kernel
      rw [z i hi g, Bool.and_false, Bool.and_false]
  obtain ⟨b, hb, eb⟩ := pk_andE (x >>> w).toInt32 (m := 255) 8 (by decide)
  refine ⟨b, hb, ?_, ?_⟩
  · rw [Int64.toInt32_and]
    exact e.trans eb
  · rw [Int64.toInt32_and]
    exact eb
