/-! PURE 22: shows and quickest -/
def CV (N K A n : Nat) : Prop := ∀ v, v < N → ∃ k, k < n ∧ eS N K A k 0 = v
theorem CV_mono {N K A n m : Nat} (h : n ≤ m) (c : CV N K A n) : CV N K A m := fun v hv => by
  obtain ⟨k, k1, k2⟩ := c v hv
  exact ⟨k, by omega, k2⟩
theorem rs_par {N K A b : Nat} (m : Nat) : rs N K A (2 * m + b) = rs N K A b := by
  unfold rs
  rw [show (2 * m + b) % 2 = b % 2 by omega]
def WW (N K A : Nat) (p : Nat) : Nat := rs N K A 0 (rs N K A 1 p)
theorem eS_WW {N K A : Nat} : ∀ m p, eS N K A (2 * m) p = itE (WW N K A) m p
  | 0, _ => rfl
  | m + 1, p => by
    rw [show 2 * (m + 1) = 2 * m + 1 + 1 by omega]
    show eS N K A (2 * m) (rs N K A (2 * m) (rs N K A (2 * m + 1) p)) = itE (WW N K A) m (WW N K A p)
    rw [eS_WW m, rs_par (b := 1), show rs N K A (2 * m) = rs N K A 0 from rs_par (b := 0) m]
    rfl
theorem CV_2N {N K A n : Nat} (h1 : 1 ≤ N) (c : CV N K A n) : CV N K A (2 * N) := fun v hv => by
  obtain ⟨k, k1, k2⟩ := c v hv
  have hW : Pm N (WW N K A) := ⟨fun p hp => (rs_pm h1).1 _ ((rs_pm h1).1 p hp), fun p q hp hq e => (rs_pm h1).2 p q hp hq ((rs_pm h1).2 _ _ ((rs_pm h1).1 p hp) ((rs_pm h1).1 q hq) e)⟩
  have red : ∀ m p, p < N → ∃ m', m' < N ∧ itE (WW N K A) m' p = itE (WW N K A) m p := fun m p hp => by
    obtain ⟨l, l1, l2⟩ := len_ex hW hp
    have := Nat.mod_lt m (show l > 0 from l2.1)
    exact ⟨m % l, by omega, itE_mod l2.2.1 m⟩
  rcases Nat.mod_two_eq_zero_or_one k with e | e
  · obtain ⟨m', u1, u2⟩ := red (k / 2) 0 (by omega)
    refine ⟨2 * m', by omega, ?_⟩
    rw [eS_WW, u2, ← eS_WW, show 2 * (k / 2) = k by omega]
    exact k2
  · obtain ⟨m', u1, u2⟩ := red (k / 2) (rs N K A 0 0) ((rs_pm h1).1 0 (by omega))
    have odd : ∀ m, eS N K A (2 * m + 1) 0 = itE (WW N K A) m (rs N K A 0 0) := fun m => by
      show eS N K A (2 * m) (rs N K A (2 * m) 0) = _
      rw [eS_WW, show rs N K A (2 * m) = rs N K A 0 from rs_par (b := 0) m]
    refine ⟨2 * m' + 1, by omega, ?_⟩
    rw [odd, u2, ← odd, show 2 * (k / 2) + 1 = k by omega]
    exact k2
theorem CV_ge {N K A n : Nat} (c : CV N K A n) : N ≤ n := by
  have c' : ∀ v, ∃ k, v < N → k < n ∧ eS N K A k 0 = v := fun v => by
    rcases Classical.em (v < N) with q | q
    · obtain ⟨k, e⟩ := c v q
      exact ⟨k, fun _ => e⟩
    · exact ⟨0, fun z => absurd z q⟩
  exact pigeon n N (fun v => Classical.choose (c' v)) (fun i hi => (Classical.choose_spec (c' i) hi).1) fun i j hi hj e => by
    have a := (Classical.choose_spec (c' i) hi).2
    have b := (Classical.choose_spec (c' j) hj).2
    have e' : Classical.choose (c' i) = Classical.choose (c' j) := e
    rw [e', b] at a
    exact a.symm
def SR (N K A : Nat) (r : Int32) : Prop := (∃ n, CV N K A n ∧ (∀ k, k < n → ¬ CV N K A k) ∧ n ≤ 2 * N ∧ r = nI n) ∨ (¬ CV N K A (2 * N) ∧ r = -4)
theorem SR_uniq {N K A : Nat} {r r' : Int32} (h : SR N K A r) (h' : SR N K A r') : r = r' := by
  rcases h with ⟨n, n1, n2, n3, n4⟩ | ⟨a, b⟩
  · rcases h' with ⟨m, m1, m2, m3, m4⟩ | ⟨a, b⟩
    · rw [n4, m4]
      rcases Nat.lt_trichotomy n m with q | q | q
      · exact absurd n1 (m2 n q)
      · rw [q]
      · exact absurd m1 (n2 m q)
    · exact absurd (CV_mono n3 n1) a
  · rcases h' with ⟨m, m1, m2, m3, m4⟩ | ⟨a', b'⟩
    · exact absurd (CV_mono m3 m1) a
    · rw [b, b']
theorem SR_of {N K A n : Nat} (h1 : 1 ≤ N) (c : CV N K A n) (m : ∀ k, k < n → ¬ CV N K A k) : SR N K A (nI n) := by
  refine Or.inl ⟨n, c, m, ?_, rfl⟩
  rcases Nat.lt_or_ge (2 * N) n with q | q
  · exact absurd (CV_2N h1 c) (m _ q)
  · exact q
theorem BS_emp {x : Int64} {S : Nat → Prop} (h : BS x S) : x = 0 ↔ ∀ i, i < 64 → ¬ S i := by
  constructor
  · intro e i hi s
    have := (h i hi).mpr s
    rw [e, lb_0] at this
    exact Bool.noConfusion this
  · intro e
    exact BS_uniq h BS_0 fun i hi => ⟨fun s => absurd s (e i hi), fun q : False => q.elim⟩
theorem s7_showAll {M : Mem} {t N Rr K A nt K' A' : Nat} {ta F : Nat → Nat} {Q : Int32 → Mem → Prop} (hB : BK M t N Rr K A nt ta F) (hK : K' ≤ 3) (hA : A' ≤ 39) (h : ∀ r M1, QF M M1 → SR N K' A' r → Q r M1) : wX7_readingsToShowAll (nI K') (nI A') M Q := by
  obtain ⟨ht, e2, e1, k2, k1⟩ := BK_t hB
  obtain ⟨b1, b2, b3, b4, -⟩ := TL_N hB.2.1
  refine ⟨k2, ?_⟩
  rw [e2, hB.2.1.1]
  unfold wX7_bit
  refine ⟨k2, ?_⟩
  rw [e2, hB.2.1.1]
  refine s1_number (o := 27) rfl b2 ?_
  generalize hM0 : sr (mu M 27 2 (nI N)) (27 + 2) (fun p => if p < N then nI p else M (27 + 2) p) = M0
  have z29 : ∀ p, p < N → M0 29 p = nI p := fun p hp => by rw [← hM0, show (27 + 2 : Nat) = 29 from rfl, sr_self]; exact if_pos hp
  have z27 : M0 27 2 = nI N := by rw [← hM0, sr_ne (by decide), mu_at]
  have q0 : QF M M0 := QF_of fun x a b c d => by rw [← hM0, sr_ne (by omega), mu_ne (by omega)]
  have ba := BS_all (N := N) (by omega)
  generalize ((1 : Int64) <<< ((nI N).toInt64 &&& 63)) - (1 : Int64) = al at ba ⊢
  refine loop_0 (fun n i (s : Int64 × Mem) => wX7_readingsToShowAll_30 (nI K') (nI A') Q n s.1 (nI i) s.2) (fun i s => BS s.1 (fun v => v < N ∧ ∀ k, k < i → eS N K' A' k 0 ≠ v) ∧ (∀ k, k ≤ i → ¬ CV N K' A' k) ∧ s.2 27 2 = nI N ∧ (∀ p, p < N → s.2 29 p = nI (eS N K' A' i p)) ∧ QF M s.2) (2 * N) (al, M0) ⟨BS_cg ba fun v _ => ⟨fun q => ⟨q, fun k hk => absurd hk (Nat.not_lt_zero _)⟩, fun q => q.1⟩, fun k hk c => by have := CV_ge c; omega, z27, z29, q0⟩ ?_ ?_
  · intro n s ⟨p1, p2, p3, p4, p5⟩
    have hBm := QF_BK hB p5
    obtain ⟨-, e2', -, k2', -⟩ := BK_t hBm
    unfold wX7_readingsToShowAll_30
    refine ⟨k2', ?_⟩
    rw [e2', hBm.2.1.1, show (2 : Int32) = nI 2 from rfl, pk_mul]
    exact b_le (by omega) (by omega) (fun _ => h _ _ p5 (Or.inr ⟨p2 _ (Nat.le_refl _), rfl⟩)) (fun q => by omega)
  · intro n i s hi ⟨p1, p2, p3, p4, p5⟩ hk
    have hBm := QF_BK hB p5
    obtain ⟨-, e2', -, k2', -⟩ := BK_t hBm
    have h0 := (eS_pm (N := N) (K := K') (A := A') (by omega) i).1 0 (by omega)
    unfold wX7_readingsToShowAll_30
    refine ⟨k2', ?_⟩
    rw [e2', hBm.2.1.1, show (2 : Int32) = nI 2 from rfl, pk_mul]
    refine b_le (by omega) (by omega) (fun q => by omega) (fun _ => ?_)
    refine s1_readTop (o := 27) (N := N) rfl rfl p3 (by omega) b2 hK hA (by omega) fun M1 r1 r2 => ?_
    rw [show (27 + 2 : Nat) = 29 from rfl, p4 0 (by omega)]
    rw [show (27 + 2 : Nat) = 29 from rfl] at r1
    unfold wX7_bit
    have nb : BS (s.1 &&& (((1 : Int64) <<< ((nI (eS N K' A' i 0)).toInt64 &&& 63)) ^^^ (-1 : Int64))) (fun v => v < N ∧ ∀ k, k < i + 1 → eS N K' A' k 0 ≠ v) := BS_cg (BS_and p1 (BS_not (BS_bit (show eS N K' A' i 0 < 41 by omega)))) fun v _ => ⟨fun q => ⟨q.1.1, fun k hk' e => ?_⟩, fun q => ⟨⟨q.1, fun k hk' => q.2 k (by omega)⟩, fun e => q.2 i (by omega) e.symm⟩⟩
    · have emp := BS_emp nb
      have cvi : (s.1 &&& (((1 : Int64) <<< ((nI (eS N K' A' i 0)).toInt64 &&& 63)) ^^^ (-1 : Int64))) = 0 ↔ CV N K' A' (i + 1) := emp.trans ⟨fun q v hv => Classical.byContradiction fun c => q v (by omega) ⟨hv, fun k hk' e => c ⟨k, hk', e⟩⟩, fun q v hv c => by
        obtain ⟨k, u1, u2⟩ := q v c.1
        exact c.2 k u1 u2⟩
      have q5 : QF M M1 := QF_trans p5 (QF_of fun x a b c d => r2 x (by omega) (by omega))
      rw [nI_1]
      refine ⟨fun q => ?_, fun q => ?_⟩
      · have nc : ¬ CV N K' A' (i + 1) := fun c => q ((lg_cmp_eq _ _).mpr (cvi.mpr c))
        refine hk (_, M1) ⟨nb, fun k hk' => ?_, ?_, fun p hp => ?_, q5⟩
        · by_cases d : k = i + 1
          · rw [d]; exact nc
          · exact p2 k (by omega)
        · show M1 27 2 = _
          rw [r2 27 (by omega) (by omega)]
          exact p3
        · show M1 29 p = _
          rw [r1]
          exact p4 _ ((rs_pm (by omega)).1 p hp)
      · exact h _ _ q5 (SR_of (by omega) (cvi.mp ((lg_cmp_eq _ _).mp q)) fun k hk' => p2 k (by omega))
    · by_cases d : k = i
      · exact q.2 (by rw [← e, d])
      · exact q.1.2 k (by omega) e
theorem s8_showsBy {N Rr K A K' A' : Nat} {M : Mem} {Q : Int32 → Mem → Prop} (hT : TLR M N Rr K A) (hK : K' ≤ 3) (hA : A' ≤ 39) (h : ∀ r M1, QF M M1 → SR N K' A' r → Q r M1) : wX8_showsBy (nI K') (nI A') M Q := by
  obtain ⟨t0, t1, t2, t3, b1, b2, b3, b4, b5, b6⟩ := hT
  refine loop_0 (fun n i m => wX8_showsBy_2 (nI K') (nI A') Q n (nI i) m) (fun i m => (∀ p, p < i → m 105 p = nI p) ∧ ∀ x, x ≠ 105 → m x = M x) 40 M ⟨fun p hp => absurd hp (Nat.not_lt_zero _), fun _ _ => rfl⟩ ?_ ?_
  · intro n m ⟨z1, z2⟩
    unfold wX8_showsBy_2
    rw [cl0, z2 81 (by omega), t0]
    refine b_le (a := 40) (b := 40) (by omega) (by omega) (fun _ => ⟨vz (by decide), ?_⟩) (fun q => by omega)
    have ba := BS_all (N := N) (by omega)
    generalize ((1 : Int64) <<< ((nI N).toInt64 &&& 63)) - (1 : Int64) = al at ba ⊢
    refine loop_0 (fun n i (s : Int64 × Mem) => wX8_showsBy_38 (nI K') (nI A') Q n al s.1 (nI i) s.2) (fun i s => BS s.1 (fun v => ∃ k, k < i ∧ eS N K' A' k 0 = v) ∧ (∀ k, k ≤ i → ¬ CV N K' A' k) ∧ s.2 81 0 = nI N ∧ (∀ p, p < N → s.2 105 p = nI (eS N K' A' i p)) ∧ QF M s.2) 2000 (0, m) ⟨BS_cg BS_0 fun v _ => ⟨fun q : False => q.elim, fun ⟨k, hk, _⟩ => absurd hk (Nat.not_lt_zero _)⟩, fun k hk c => by have := CV_ge c; omega, by show m 81 0 = _; rw [z2 81 (by omega)]; exact t0, fun p hp => z1 p (by omega), QF_of fun x a b c d => z2 x (by omega)⟩ ?_ ?_
    · intro n s ⟨p1, p2, p3, p4, p5⟩
      unfold wX8_showsBy_38
      exact b_le (a := 2000) (b := 2000) (by omega) (by omega) (fun _ => h _ _ p5 (Or.inr ⟨p2 _ (by omega), rfl⟩)) (fun q => by omega)
    · intro n i s hi ⟨p1, p2, p3, p4, p5⟩ hk
      have h0 := (eS_pm (N := N) (K := K') (A := A') (by omega) i).1 0 (by omega)
      unfold wX8_showsBy_38
      rw [cl0, p4 0 (by omega)]
      refine b_le (a := 2000) (b := i) (by omega) (by omega) (fun q => by omega) (fun _ => ⟨vz (by decide), ?_⟩)
      have nb : BS (s.1 ||| ((1 : Int64) <<< ((nI (eS N K' A' i 0)).toInt64 &&& 63))) (fun v => ∃ k, k < i + 1 ∧ eS N K' A' k 0 = v) := BS_cg (BS_or p1 (BS_bit (show eS N K' A' i 0 < 41 by omega))) fun v _ => ⟨fun q => ?_, fun ⟨k, u1, u2⟩ => ?_⟩
      · have cvi : (s.1 ||| ((1 : Int64) <<< ((nI (eS N K' A' i 0)).toInt64 &&& 63))) = al ↔ CV N K' A' (i + 1) := ⟨fun e v hv => (nb v (by omega)).mp (by rw [e]; exact (ba v (by omega)).mpr hv), fun c => BS_uniq nb ba fun v _ => ⟨fun ⟨k, u1, u2⟩ => by rw [← u2]; exact (eS_pm (by omega) k).1 0 (by omega), fun hv => c v hv⟩⟩
        rw [nI_1]
        refine ⟨fun q => ?_, fun q => ?_⟩
        · have nc : ¬ CV N K' A' (i + 1) := fun c => q ((lg_cmp_eq _ _).mpr (cvi.mpr c))
          refine s8_goRead (N := N) (by decide) (by decide) (by decide) p3 (by omega) b2 hK hA (by omega) fun M1 r1 r2 => ?_
          refine hk (_, M1) ⟨nb, fun k hk' => ?_, ?_, fun p hp => ?_, QF_trans p5 (QF_of fun x a b c d => r2 x (by omega) (by omega))⟩
          · by_cases d : k = i + 1
            · rw [d]; exact nc
            · exact p2 k (by omega)
          · show M1 81 0 = _
            rw [r2 81 (by omega) (by omega)]
            exact p3
          · show M1 105 p = _
            rw [r1]
            exact p4 _ ((rs_pm (by omega)).1 p hp)
        · exact h _ _ p5 (SR_of (by omega) (cvi.mp ((lg_cmp_eq _ _).mp q)) fun k hk' => p2 k (by omega))
      · rcases q with ⟨k, u1, u2⟩ | q
        · exact ⟨k, by omega, u2⟩
        · exact ⟨i, by omega, q.symm⟩
      · by_cases d : k = i
        · subst d
          exact Or.inr u2.symm
        · exact Or.inl ⟨k, by omega, u2⟩
  · intro n i m hi ⟨z1, z2⟩ hk
    unfold wX8_showsBy_2
    refine b_le (a := 40) (b := i) (by omega) (by omega) (fun q => by omega) (fun _ => ⟨vi (show i < 40 by omega), ?_⟩)
    rw [nI_1, nI_clamp (by omega)]
    refine hk _ ⟨fun p hp => ?_, fun x hx => by rw [mu_ne hx]; exact z2 x hx⟩
    by_cases d : p = i
    · rw [d, mu_at]
    · rw [mu_no (by omega)]; exact z1 p (by omega)
theorem k_shows {x y : Int32} {M : Mem} {Q : Int32 → Int32 → Mem → Prop} (hI : INV M) (h : GQ Q) : wX7_shows x y M (fun r1 M1 => wX8_shows x y M1 (fun r2 M2 => Q r1 r2 M2)) := by
  have hI' := hI
  obtain ⟨t, N, Rr, K, A, nt, ta, F, hB, hT, hP, hK, hS⟩ := hI
  obtain ⟨b1, b2, b3, b4, -⟩ := TL_N hB.2.1
  have hR := hB.2.2.1
  refine s7_within (a := 0) (b := 3) (by omega) (by omega) (fun g => i_t' ?_) (fun g => i_f' (r8_in_f (a := 0) (b := 3) (by omega) (by omega) g (i_f' (h _ _ hI'))))
  refine s7_isBelow hB (fun g2 => i_t ?_) (fun g2 => i_f (r8_in_t (a := 0) (b := 3) (by omega) (by omega) g (i_t' (r8_leaf_f hR g2 (i_f' (h _ _ hI'))))))
  have g' := g
  have g2' := g2
  obtain ⟨k, k0, k1, e⟩ := g
  obtain ⟨a, a0, a1, e'⟩ := g2
  subst e
  subst e'
  refine s7_showAll hB k1 (by omega) fun r M1 f1 c1 => ?_
  have hB1 := QF_BK hB f1
  refine r8_in_t (a := 0) (b := 3) (by omega) (by omega) g' (i_t' (r8_leaf_t hB1.2.2.1 g2' (i_t' ?_)))
  refine s8_showsBy hB1.2.2.1 k1 (by omega) fun r' M2 f2 c2 => ?_
  rw [SR_uniq c1 c2]
  exact h _ _ (QF_INV hI' (QF_trans f1 f2))
