/-! PURE 7: one reader, and the reference's layOne -/
def TN (N K A i : Nat) (M : Mem) (q : Nat) : Prop := (∃ k, k < i ∧ eS N K A k 0 = q ∧ (∀ j, j < k → eS N K A j 0 ≠ q) ∧ M 41 q = nI k) ∨ ((∀ k, k < i → eS N K A k 0 ≠ q) ∧ M 41 q = -4)
/-- the order behind the readings 1 to i, without the first -/
def woS (N K A : Nat) : Nat → Nat → Nat
  | 0, p => p
  | i + 1, p => woS N K A i (rs N K A (i + 1) p)
theorem woS_pm {N K A : Nat} (h1 : 1 ≤ N) : ∀ i, Pm N (woS N K A i)
  | 0 => ⟨fun _ h => h, fun _ _ _ _ h => h⟩
  | i + 1 => ⟨fun p hp => (woS_pm h1 i).1 _ ((rs_pm h1).1 p hp), fun p q hp hq h => (rs_pm h1).2 p q hp hq ((woS_pm h1 i).2 _ _ ((rs_pm h1).1 p hp) ((rs_pm h1).1 q hq) h)⟩
/-- what a Told tells of N, R and the law -/
def TL (M : Mem) (t N Rr K A : Nat) : Prop := M t 0 = nI N ∧ M t 1 = nI Rr ∧ M t 2 = nI K ∧ M t 3 = nI A ∧ 2 ≤ N ∧ N ≤ 40 ∧ 1 ≤ Rr ∧ Rr ≤ 40 ∧ K ≤ 3 ∧ A ≤ 39
theorem TL_congr {M M' : Mem} {t N Rr K A : Nat} (h : TL M t N Rr K A) (e : M' t = M t) : TL M' t N Rr K A := by
  unfold TL
  rw [e]
  exact h
theorem s3_readOne {N Rr K A t : Nat} {M : Mem} {Q : Mem → Prop} (ht : t = 4 ∨ t = 13) (hT : TL M t N Rr K A) (hs : M 32 1 = nI N) (h : ∀ M1 : Mem, (∀ p, p < N → M1 35 p = nI (eS N K A Rr p)) → (∀ k, k < Rr → M1 39 k = nI (eS N K A k 0)) → (∀ q, q < N → TN N K A Rr M1 q) → M1 33 2 = nI N → (∀ x, x ≠ 33 → x ≠ 35 → x ≠ 37 → x ≠ 39 → x ≠ 41 → M1 x = M x) → Q M1) : wX3_readOneReader 32 t M Q := by
  obtain ⟨t0, t1, t2, t3, b1, b2, b3, b4, b5, b6⟩ := hT
  unfold wX3_readOneReader
  rw [hs]
  refine s1_number (o := 33) rfl b2 (s4_fill (r := 40) ?_)
  generalize hM0 : sr (sr (mu M 33 2 (nI N)) (33 + 2) (fun p => if p < N then nI p else M (33 + 2) p)) (40 + 1) (fun p => if p < ln (40 + 1) then (-4 : Int32) else sr (mu M 33 2 (nI N)) (33 + 2) (fun p => if p < N then nI p else M (33 + 2) p) (40 + 1) p) = M0
  have z35 : ∀ p, p < N → M0 35 p = nI p := fun p hp => by
    rw [← hM0, sr_ne (by decide), show (33 + 2 : Nat) = 35 from rfl, sr_self]; exact if_pos hp
  have z41 : ∀ q, q < N → M0 41 q = -4 := fun q hq => by
    rw [← hM0, show (40 + 1 : Nat) = 41 from rfl, sr_self]; exact if_pos (by show q < 40; omega)
  have z33 : M0 33 2 = nI N := by rw [← hM0, sr_ne (by decide), sr_ne (by decide)]; exact mu_at _ _ _ _
  have oth : ∀ x, x ≠ 33 → x ≠ 35 → x ≠ 41 → M0 x = M x := fun x h1 h2 h3 => by rw [← hM0, sr_ne h3, sr_ne h2, mu_ne h1]
  refine loop_0 (fun n i M' => wX3_readOneReader_22 32 t Q n (nI i) M') (fun i M' => (∀ p, p < N → M' 35 p = nI (eS N K A i p)) ∧ (∀ k, k < i → M' 39 k = nI (eS N K A k 0)) ∧ (∀ q, q < N → TN N K A i M' q) ∧ M' 33 2 = nI N ∧ ∀ x, x ≠ 33 → x ≠ 35 → x ≠ 37 → x ≠ 39 → x ≠ 41 → M' x = M x) Rr M0 ⟨z35, fun k hk => by omega, fun q hq => Or.inr ⟨fun k hk => by omega, z41 q hq⟩, z33, fun x h1 h2 _ _ h5 => oth x h1 h2 h5⟩ ?_ ?_
  · intro n M' ⟨p1, p2, p3, p4, p5⟩
    unfold wX3_readOneReader_22
    rw [p5 t (by omega) (by omega) (by omega) (by omega) (by omega), t1]
    exact b_le (a := Rr) (b := Rr) (by omega) (by omega) (fun _ => h M' p1 p2 p3 p4 p5) (fun q => by omega)
  · intro n i M' hi ⟨p1, p2, p3, p4, p5⟩ ih
    unfold wX3_readOneReader_22
    rw [p5 t (by omega) (by omega) (by omega) (by omega) (by omega), t1, t2, t3]
    refine b_le (a := Rr) (b := i) (by omega) (by omega) (fun q => by omega) (fun _ => ?_)
    refine s1_readTop (o := 33) (N := N) rfl rfl p4 (by omega) b2 b5 b6 (by omega) (fun M1 e1 e2 => ?_)
    have hfi : eS N K A i 0 < N := (eS_pm (by omega) i).1 0 (by omega)
    rw [show M' (33 + 2) 0 = nI (eS N K A i 0) from p1 0 (by omega)]
    refine s4_put (r := 38) (by show i < 40; omega) (s4_at (r := 40) (by show _ < 40; omega) ?_)
    have f35 : ∀ p, p < N → M1 35 p = nI (eS N K A (i + 1) p) := fun p hp => by
      rw [show (35 : Nat) = 33 + 2 from rfl, e1]
      exact p1 _ ((rs_pm (by omega)).1 p hp)
    have f41 : M1 41 = M' 41 := e2 41 (by decide) (by decide)
    have f39 : M1 39 = M' 39 := e2 39 (by decide) (by decide)
    have f33 : M1 33 = M' 33 := e2 33 (by decide) (by decide)
    have fo : ∀ x, x ≠ 33 → x ≠ 35 → x ≠ 37 → x ≠ 39 → x ≠ 41 → M1 x = M x := fun x h1 h2 h3 h4 h5 => by rw [e2 x h2 h3]; exact p5 x h1 h2 h3 h4 h5
    rw [show mu M1 (38 + 1) i (nI (eS N K A i 0)) (40 + 1) (eS N K A i 0) = M' 41 (eS N K A i 0) by rw [mu_ne (by decide)]; rw [show (40 + 1 : Nat) = 41 from rfl, f41]]
    have row39 : ∀ M2 : Mem, M2 39 = mu M1 (38 + 1) i (nI (eS N K A i 0)) 39 → ∀ k, k < i + 1 → M2 39 k = nI (eS N K A k 0) := fun M2 em k hk => by
      rw [em]
      by_cases hki : k = i
      · rw [hki]; exact mu_at _ _ _ _
      · rw [mu_no (Or.inr hki), f39]; exact p2 k (by omega)
    rcases p3 _ hfi with ⟨k, g1, g2, g3, g4⟩ | ⟨g1, g2⟩
    · rw [g4]
      refine bn_f (nI_neg (by omega)) ?_
      show wX3_readOneReader_22 32 t Q n (nI i + 1) _
      rw [nI_1]
      apply ih
      refine ⟨fun p hp => by rw [mu_ne (by decide)]; exact f35 p hp, row39 _ rfl, fun q hq => ?_, by rw [mu_ne (by decide), f33]; exact p4, fun x h1 h2 h3 h4 h5 => by rw [mu_ne h4]; exact fo x h1 h2 h3 h4 h5⟩
      have e41 : ∀ q, mu M1 (38 + 1) i (nI (eS N K A i 0)) 41 q = M' 41 q := fun q => by rw [mu_ne (by decide), f41]
      rcases p3 q hq with ⟨k', a1, a2, a3, a4⟩ | ⟨a1, a2⟩
      · exact Or.inl ⟨k', by omega, a2, a3, by rw [e41]; exact a4⟩
      · refine Or.inr ⟨fun j hj => ?_, by rw [e41]; exact a2⟩
        by_cases hji : j = i
        · rw [hji]; intro e; exact a1 k g1 (g2.trans e)
        · exact a1 j (by omega)
    · rw [g2]
      refine bn_t rfl (s4_put (r := 40) (by show _ < 40; omega) ?_)
      show wX3_readOneReader_22 32 t Q n (nI i + 1) _
      rw [nI_1]
      apply ih
      refine ⟨fun p hp => by rw [mu_ne (by decide), mu_ne (by decide)]; exact f35 p hp, row39 _ (mu_ne (by decide)), fun q hq => ?_, by rw [mu_ne (by decide), mu_ne (by decide), f33]; exact p4, fun x h1 h2 h3 h4 h5 => by rw [mu_ne h5, mu_ne h4]; exact fo x h1 h2 h3 h4 h5⟩
      by_cases hqi : q = eS N K A i 0
      · rw [hqi]
        exact Or.inl ⟨i, by omega, rfl, fun j hj => g1 j hj, mu_at _ _ _ _⟩
      · have e41 : mu (mu M1 (38 + 1) i (nI (eS N K A i 0))) (40 + 1) (eS N K A i 0) (nI i) 41 q = M' 41 q := by rw [mu_no (Or.inr hqi), mu_ne (by decide), f41]
        rcases p3 q hq with ⟨k', a1, a2, a3, a4⟩ | ⟨a1, a2⟩
        · exact Or.inl ⟨k', by omega, a2, a3, by rw [e41]; exact a4⟩
        · refine Or.inr ⟨fun j hj => ?_, by rw [e41]; exact a2⟩
          by_cases hji : j = i
          · rw [hji]; exact fun e => hqi e.symm
          · exact a1 j (by omega)
theorem s3_without {N Rr K A t : Nat} {M : Mem} {Q : Mem → Prop} (ht : t = 4 ∨ t = 13) (hT : TL M t N Rr K A) (hs : M 32 1 = nI N) (h : ∀ M1 : Mem, (∀ p, p < N → M1 43 p = nI (woS N K A (Rr - 1) p)) → (∀ x, x ≠ 33 → x ≠ 35 → x ≠ 37 → x ≠ 43 → M1 x = M x) → Q M1) : wX3_readWithoutFirst 32 t M Q := by
  obtain ⟨t0, t1, t2, t3, b1, b2, b3, b4, b5, b6⟩ := hT
  unfold wX3_readWithoutFirst
  rw [hs]
  refine s1_number (o := 33) rfl b2 ?_
  generalize hM0 : sr (mu M 33 2 (nI N)) (33 + 2) (fun p => if p < N then nI p else M (33 + 2) p) = M0
  have z35 : ∀ p, p < N → M0 35 p = nI p := fun p hp => by rw [← hM0, show (33 + 2 : Nat) = 35 from rfl, sr_self]; exact if_pos hp
  have z33 : M0 33 2 = nI N := by rw [← hM0, sr_ne (by decide)]; exact mu_at _ _ _ _
  have oth : ∀ x, x ≠ 33 → x ≠ 35 → M0 x = M x := fun x h1 h2 => by rw [← hM0, sr_ne h2, mu_ne h1]
  refine pk_loop (fun n i M' => wX3_readWithoutFirst_13 32 t Q n (nI i) M') (fun i M' => (∃ j, i = j + 1 ∧ ∀ p, p < N → M' 35 p = nI (woS N K A j p)) ∧ M' 33 2 = nI N ∧ ∀ x, x ≠ 33 → x ≠ 35 → x ≠ 37 → M' x = M x) Rr 1 M0 b3 ⟨⟨0, rfl, z35⟩, z33, fun x h1 h2 _ => oth x h1 h2⟩ ?_ ?_
  · intro n M' ⟨⟨j, hj, p1⟩, p2, p3⟩
    unfold wX3_readWithoutFirst_13
    rw [p3 t (by omega) (by omega) (by omega), t1]
    refine b_le (a := Rr) (b := Rr) (by omega) (by omega) (fun _ => ?_) (fun q => by omega)
    refine loop_0 (fun n i M2 => wX3_readWithoutFirst_46 32 t Q n (nI i) M2) (fun i M2 => (∀ p, p < i → M2 43 p = nI (woS N K A (Rr - 1) p)) ∧ ∀ x, x ≠ 43 → M2 x = M' x) N M' ⟨fun p hp => by omega, fun _ _ => rfl⟩ ?_ ?_
    · intro n M2 ⟨q1, q2⟩
      unfold wX3_readWithoutFirst_46
      rw [q2 32 (by decide), p3 32 (by decide) (by decide) (by decide), hs]
      exact b_le (a := N) (b := N) (by omega) (by omega) (fun _ => h M2 q1 (fun x h1 h2 h3 h4 => by rw [q2 x h4]; exact p3 x h1 h2 h3)) (fun q => by omega)
    · intro n i M2 hi ⟨q1, q2⟩ ih
      unfold wX3_readWithoutFirst_46
      rw [q2 32 (by decide), p3 32 (by decide) (by decide) (by decide), hs]
      refine b_le (a := N) (b := i) (by omega) (by omega) (fun q => by omega) (fun _ => s1_leafAt (o := 33) rfl (by omega) (s4_put (r := 42) (by show i < 40; omega) ?_))
      rw [nI_1]
      apply ih
      refine ⟨fun p hp => ?_, fun x hx => by rw [mu_ne hx]; exact q2 x hx⟩
      by_cases hpi : p = i
      · rw [hpi, show (42 + 1 : Nat) = 43 from rfl, mu_at, q2 (33 + 2) (by decide), show Rr - 1 = j by omega]
        exact p1 i hi
      · rw [mu_no (Or.inr hpi)]; exact q1 p (by omega)
  · intro n i M' hi ⟨⟨j, hj, p1⟩, p2, p3⟩ ih
    unfold wX3_readWithoutFirst_13
    rw [p3 t (by omega) (by omega) (by omega), t1, t2, t3]
    refine b_le (a := Rr) (b := i) (by omega) (by omega) (fun q => by omega) (fun _ => ?_)
    refine s1_readTop (o := 33) (N := N) rfl rfl p2 (by omega) b2 b5 b6 (by omega) (fun M1 e1 e2 => ?_)
    rw [nI_1]
    apply ih
    refine ⟨⟨i, rfl, fun p hp => ?_⟩, by rw [e2 33 (by decide) (by decide)]; exact p2, fun x h1 h2 h3 => by rw [e2 x h2 h3]; exact p3 x h1 h2 h3⟩
    rw [show (35 : Nat) = 33 + 2 from rfl, e1, hj]
    exact p1 _ ((rs_pm (by omega)).1 p hp)
/-- what Readers holds of a book -/
def RDS (M : Mem) (N Rr K A : Nat) : Prop := RG N (eS N K A Rr) M ∧ (∀ k, k < Rr → M 39 k = nI (eS N K A k 0)) ∧ (∀ q, q < N → TN N K A Rr M q) ∧ (∀ p, p < N → M 43 p = nI (woS N K A (Rr - 1) p)) ∧ M 32 1 = nI N
theorem RDS_congr {M M' : Mem} {N Rr K A : Nat} (h : RDS M N Rr K A) (e : ∀ x, x = 32 ∨ x = 39 ∨ x = 41 ∨ x = 43 ∨ x = 45 ∨ x = 47 ∨ x = 49 ∨ x = 51 → M' x = M x) : RDS M' N Rr K A := by
  obtain ⟨h1, h2, h3, h4, h5⟩ := h
  refine ⟨RG_congr h1 (e 45 (by omega)) (e 47 (by omega)) (e 49 (by omega)) (e 51 (by omega)), by rw [e 39 (by omega)]; exact h2, fun q hq => ?_, by rw [e 43 (by omega)]; exact h4, by rw [e 32 (by omega)]; exact h5⟩
  unfold TN
  rw [e 41 (by omega)]
  exact h3 q hq
theorem s3_follow {N Rr K A t : Nat} {M : Mem} {Q : Mem → Prop} (ht : t = 4 ∨ t = 13) (hT : TL M t N Rr K A) (h : ∀ M1 : Mem, RDS M1 N Rr K A → (∀ x, ¬ (32 ≤ x ∧ x ≤ 51) → M1 x = M x) → Q M1) : wX3_follow 32 t M Q := by
  unfold wX3_follow
  have hb := hT
  obtain ⟨t0, t1, t2, t3, b1, b2, b3, b4, b5, b6⟩ := hb
  rw [t0]
  have hpm : Pm N (eS N K A Rr) := eS_pm (by omega) Rr
  refine s3_readOne ht (TL_congr hT (mu_ne (by omega))) (mu_at _ _ _ _) (fun M1 p1 p2 p3 p4 p5 => ?_)
  have f32 : M1 32 1 = nI N := by rw [p5 32 (by decide) (by decide) (by decide) (by decide) (by decide)]; exact mu_at _ _ _ _
  refine s3_layRings hpm b2 f32 p1 (fun M2 q1 q2 => ?_)
  have g32 : M2 32 1 = nI N := by rw [q2 32 (by decide) (by decide) (by decide) (by decide)]; exact f32
  have gt : M2 t = M t := by rw [q2 t (by omega) (by omega) (by omega) (by omega), p5 t (by omega) (by omega) (by omega) (by omega) (by omega), mu_ne (by omega)]
  refine s3_without ht (TL_congr hT gt) g32 (fun M3 r1 r2 => h M3 ?_ ?_)
  · have e : ∀ x, x ≠ 33 → x ≠ 35 → x ≠ 37 → x ≠ 43 → M3 x = M2 x := r2
    refine ⟨RG_congr q1 (e 45 (by decide) (by decide) (by decide) (by decide)) (e 47 (by decide) (by decide) (by decide) (by decide)) (e 49 (by decide) (by decide) (by decide) (by decide)) (e 51 (by decide) (by decide) (by decide) (by decide)), fun k hk => ?_, fun q hq => ?_, r1, ?_⟩
    · rw [e 39 (by decide) (by decide) (by decide) (by decide), q2 39 (by decide) (by decide) (by decide) (by decide)]; exact p2 k hk
    · have h41 : M3 41 = M1 41 := by rw [e 41 (by decide) (by decide) (by decide) (by decide), q2 41 (by decide) (by decide) (by decide) (by decide)]
      unfold TN
      rw [h41]
      exact p3 q hq
    · rw [e 32 (by decide) (by decide) (by decide) (by decide)]; exact g32
  · intro x hx
    rw [r2 x (by omega) (by omega) (by omega) (by omega), q2 x (by omega) (by omega) (by omega) (by omega), p5 x (by omega) (by omega) (by omega) (by omega) (by omega), mu_ne (by omega)]
/-- the reference: from (98) and ends (99) -/
def RFR (M : Mem) (N Rr K A : Nat) : Prop := (∀ p, p < N → M 99 p = nI (eS N K A Rr p)) ∧ ∀ k, k < Rr → M 98 k = nI (eS N K A k 0)
/-- what the reference holds of N, R and the law (in the books' place 0) -/
def TLR (M : Mem) (N Rr K A : Nat) : Prop := M 81 0 = nI N ∧ M 82 0 = nI Rr ∧ M 83 0 = nI K ∧ M 84 0 = nI A ∧ 2 ≤ N ∧ N ≤ 40 ∧ 1 ≤ Rr ∧ Rr ≤ 40 ∧ K ≤ 3 ∧ A ≤ 39
theorem TLR_congr {M M' : Mem} {N Rr K A : Nat} (h : TLR M N Rr K A) (e1 : M' 81 = M 81) (e2 : M' 82 = M 82) (e3 : M' 83 = M 83) (e4 : M' 84 = M 84) : TLR M' N Rr K A := by
  unfold TLR
  rw [e1, e2, e3, e4]
  exact h
theorem s8_layOne {N Rr K A : Nat} {M : Mem} {Q : Mem → Prop} (hT : TLR M N Rr K A) (h : ∀ M1 : Mem, RFR M1 N Rr K A → (∀ x, x ≠ 97 → x ≠ 98 → x ≠ 99 → M1 x = M x) → Q M1) : wX8_layOne M Q := by
  obtain ⟨t0, t1, t2, t3, b1, b2, b3, b4, b5, b6⟩ := hT
  refine loop_0 (fun n i M' => wX8_layOne_2 Q n (nI i) M') (fun i M' => (∀ p, p < i → M' 99 p = nI p) ∧ ∀ x, x ≠ 99 → M' x = M x) 40 M ⟨fun p hp => by omega, fun _ _ => rfl⟩ ?_ ?_
  · intro n M0 ⟨m1, m2⟩
    refine b_le (a := 40) (b := 40) (by omega) (by omega) (fun _ => ?_) (fun q => by omega)
    refine loop_0 (fun n i M' => wX8_layOne_23 Q n (nI i) M') (fun i M' => (∀ p, p < N → M' 99 p = nI (eS N K A i p)) ∧ (∀ k, k < i → M' 98 k = nI (eS N K A k 0)) ∧ ∀ x, x ≠ 97 → x ≠ 98 → x ≠ 99 → M' x = M x) Rr M0 ⟨fun p hp => m1 p (by omega), fun k hk => by omega, fun x _ _ h3 => m2 x h3⟩ ?_ ?_
    · intro n M' ⟨p1, p2, p3⟩
      refine ⟨vz (by decide), ?_⟩
      rw [cl0, p3 82 (by decide) (by decide) (by decide), t1]
      exact b_le (a := Rr) (b := Rr) (by omega) (by omega) (fun _ => h M' ⟨p1, p2⟩ p3) (fun q => by omega)
    · intro n i M' hi ⟨p1, p2, p3⟩ ih
      refine ⟨vz (by decide), ?_⟩
      rw [cl0, p3 82 (by decide) (by decide) (by decide), t1]
      refine b_le (a := Rr) (b := i) (by omega) (by omega) (fun q => by omega) (fun _ => ⟨vz (by decide), vi (by show i < 40; omega), vz (by decide), vz (by decide), ?_⟩)
      rw [nI_clamp (by omega), p1 0 (by omega), mu_ne (show 83 ≠ 98 by decide), mu_ne (show 84 ≠ 98 by decide), p3 83 (by decide) (by decide) (by decide), p3 84 (by decide) (by decide) (by decide), t2, t3]
      refine s8_goRead (N := N) (by decide) (by decide) (by decide) (by rw [mu_ne (by decide), p3 81 (by decide) (by decide) (by decide)]; exact t0) (by omega) b2 b5 b6 (by omega) (fun M1 e1 e2 => ?_)
      rw [nI_1]
      apply ih
      refine ⟨fun p hp => ?_, fun k hk => ?_, fun x h1 h2 h3 => by rw [e2 x h3 h1, mu_ne h2]; exact p3 x h1 h2 h3⟩
      · rw [e1, mu_ne (by decide)]
        exact p1 _ ((rs_pm (by omega)).1 p hp)
      · rw [e2 98 (by decide) (by decide)]
        by_cases hki : k = i
        · rw [hki]; exact mu_at _ _ _ _
        · rw [mu_no (Or.inr hki)]; exact p2 k (by omega)
  · intro n i M' hi ⟨m1, m2⟩ ih
    refine b_le (a := 40) (b := i) (by omega) (by omega) (fun q => by omega) (fun _ => ⟨vi (by show i < 40; omega), ?_⟩)
    rw [nI_clamp (by omega), nI_1]
    apply ih
    refine ⟨fun p hp => ?_, fun x hx => by rw [mu_ne hx]; exact m2 x hx⟩
    by_cases hpi : p = i
    · rw [hpi]; exact mu_at _ _ _ _
    · rw [mu_no (Or.inr hpi)]; exact m1 p (by omega)
