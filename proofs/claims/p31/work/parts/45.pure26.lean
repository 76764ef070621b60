/-! PURE 26: pleased -/
/-- the place, in the first order, whose leaf the turn i has on the reading j when 0 is laid below d -/
def pzl (N Rr K A d j i : Nat) : Nat := layS d (woS N K A (Rr - 1) (itE (EE N K A Rr) (j - 1) (eS N K A i 0)))
theorem pzl_lt {N Rr K A d j i : Nat} (h2 : 2 ≤ N) (hd : d < N) : pzl N Rr K A d j i < N := (layS_pm hd).1 _ ((woS_pm (by omega) _).1 _ ((itE_pm (EE_pm h2) _).1 _ ((eS_pm (by omega) i).1 0 (by omega))))
def pct (N Rr K A d j : Nat) (ta F : Nat → Nat) : Nat → Int32
  | 0 => 0
  | i + 1 => if F (pzl N Rr K A d j i) = ta i then pct N Rr K A d j ta F i + (1 : Int32) else pct N Rr K A d j ta F i
theorem s7_pb {x d : Nat} {M : Mem} {Q : Int32 → Mem → Prop} (hx : x < 40) (hd : d < 40) (h : Q (nI (layS d x)) M) : wX7_placeBeforeLaying (nI x) (nI d) M Q := by
  unfold layS at h
  unfold wX7_placeBeforeLaying wX7_placeBeforeLaying_19
  refine b_ne (by omega) (by omega) (fun q => b_le (by omega) (by omega) (fun q2 => ?_) (fun q2 => ?_)) (fun q => ?_)
  · rw [if_neg (by omega), if_neg q] at h
    exact h
  · rw [if_pos (by omega)] at h
    rw [nI_1]
    exact h
  · rw [if_neg (by omega), if_pos q] at h
    exact h
theorem s7_rightAt {M : Mem} {t N Rr K A nt d j : Nat} {ta F : Nat → Nat} {Q : Int32 → Mem → Prop} (hB : BK M t N Rr K A nt ta F) (hd : d < N) (hj1 : 1 ≤ j) (hj : j ≤ 100) (h : Q (pct N Rr K A d j ta F (min nt Rr)) M) : wX7_rightWhenLaidAt (nI d) (nI j) M Q := by
  obtain ⟨ht, e2, e1, k2, k1⟩ := BK_t hB
  obtain ⟨b1, b2, b3, b4, -⟩ := TL_N hB.2.1
  obtain ⟨g1, g2, g3, g4, g5⟩ := hB.2.2.2.2.2.1
  have hta := hB.2.2.2.1.2.2.2
  have h20 := hB.2.2.2.1.2.2.1
  have h53 := hB.2.2.2.2.1.2.2
  have hFm := hB.2.2.2.2.1.2.1
  have hE : Pm N (EE N K A Rr) := EE_pm b1
  refine loop_0 (fun n i (s : Int32 × Mem) => wX7_rightWhenLaidAt_5 (nI d) (nI j) Q n s.1 (nI i) s.2) (fun i s => s = (pct N Rr K A d j ta F i, M)) (min nt Rr) (0, M) rfl ?_ ?_
  · intro n s e
    subst e
    unfold wX7_rightWhenLaidAt_5
    refine ⟨k2, ?_⟩
    dsimp only
    rw [e2]
    exact s7_told hB (b_le (by omega) (by omega) (fun _ => h) (fun q => by omega))
  · intro n i s hi e hk
    subst e
    unfold wX7_rightWhenLaidAt_5
    refine ⟨k2, ?_⟩
    dsimp only
    rw [e2]
    refine s7_told hB (b_le (by omega) (by omega) (fun q => by omega) (fun _ => ?_))
    have e0 := (eS_pm (N := N) (K := K) (A := A) (by omega) i).1 0 (by omega)
    have hq := (itE_pm hE (j - 1)).1 _ e0
    have hw := (woS_pm (K := K) (A := A) (show 1 ≤ N by omega) (Rr - 1)).1 _ hq
    have hp := pzl_lt (Rr := Rr) (K := K) (A := A) (d := d) (j := j) (i := i) b1 hd
    refine s4_at (r := 38) (show i < 40 by omega) ?_
    rw [show (38 + 1 : Nat) = 39 from rfl, g2 i (by omega), nI_l (by omega), show (1 : Int64) = lN 1 from rfl, lN_sub hj1]
    refine s3_ring g1 hE b2 e0 (by omega) ?_
    refine s4_at (r := 42) (Nat.lt_of_lt_of_le hq b2) ?_
    rw [show (42 + 1 : Nat) = 43 from rfl, g4 _ hq]
    refine s7_pb (by omega) (by omega) ?_
    refine s1_leafAt (o := 22) rfl (Nat.lt_of_lt_of_le hp b2) ⟨k2, ?_⟩
    rw [e2, show (22 + 2 : Nat) = 24 from rfl, show layS d (woS N K A (Rr - 1) (itE (EE N K A Rr) (j - 1) (eS N K A i 0))) = pzl N Rr K A d j i from rfl, (h53 _ hp).1]
    refine s7_tale hB (by omega) ?_
    have hFp := hFm.1 _ hp
    have ht' := (hta i (by omega)).2.2
    unfold wX7_rightWhenLaidAt_58
    rw [nI_1]
    refine b_ne (by omega) (by omega) (fun q => ?_) (fun q => ?_)
    · exact hk (pct N Rr K A d j ta F i, M) (by rw [show pct N Rr K A d j ta F (i + 1) = pct N Rr K A d j ta F i from if_neg q])
    · exact hk (pct N Rr K A d j ta F i + (1 : Int32), M) (by rw [show pct N Rr K A d j ta F (i + 1) = pct N Rr K A d j ta F i + (1 : Int32) from if_pos q])
theorem itE_rl {E : Nat → Nat} (k p : Nat) : itE E (k + 1) p = itE E k (E p) := rfl
theorem s8_pleasedBy {M : Mem} {t N Rr K A nt d j : Nat} {ta F : Nat → Nat} {Q : Int32 → Mem → Prop} (hB : BK M t N Rr K A nt ta F) (hd : d < N) (hj1 : 1 ≤ j) (hj : j ≤ 100) (h : ∀ M1, QF M M1 → Q (pct N Rr K A d j ta F (min nt Rr)) M1) : wX8_pleasedBy (nI j) (nI d) M Q := by
  obtain ⟨b1, b2, b3, b4, bK, bA⟩ := TL_N hB.2.1
  have hE : Pm N (EE N K A Rr) := EE_pm b1
  have h53 := hB.2.2.2.2.1.2.2
  have hFm := hB.2.2.2.2.1.2.1
  have hta := hB.2.2.2.1.2.2.2
  have h20 := hB.2.2.2.1.2.2.1
  refine loop_0 (fun n i m => wX8_pleasedBy_2 (nI j) (nI d) Q n (nI i) m) (fun i m => (∀ p, p < i → m 105 p = M 89 p) ∧ ∀ x, x ≠ 105 → m x = M x) 40 M ⟨fun p hp => absurd hp (Nat.not_lt_zero _), fun _ _ => rfl⟩ ?_ ?_
  · intro n m ⟨c1, c2⟩
    unfold wX8_pleasedBy_2
    refine b_le (a := 40) (b := 40) (by omega) (by omega) (fun _ => ?_) (fun q => by omega)
    refine s8_layBelow (by decide) (by omega) ?_
    generalize hm1 : sr m 105 (fun p => m 105 (layS d p)) = m1
    have z1 : ∀ p, p < N → m1 105 p = nI (F (layS d p)) := fun p hp => by
      have hl := (layS_pm hd).1 p hp
      rw [← hm1, sr_self]
      show m 105 (layS d p) = _
      rw [c1 _ (by omega), (h53 _ hl).2]
    have f1 : QF M m1 := QF_of fun x a b c d => by rw [← hm1, sr_ne (by omega), c2 x (by omega)]
    refine pk_loop (fun n i m => wX8_pleasedBy_38 (nI j) (nI d) Q n (nI i) m) (fun i m => QF M m ∧ ∃ k, i = k + 1 ∧ ∀ p, p < N → m 105 p = nI (F (layS d (woS N K A k p)))) Rr 1 m1 b3 ⟨f1, 0, rfl, z1⟩ ?_ ?_
    · intro n m2 ⟨f2, k, ek, y2⟩
      have hB2 := QF_BK hB f2
      unfold wX8_pleasedBy_38
      rw [cl0, hB2.2.2.1.2.1]
      refine ⟨vz (by decide), b_le (by omega) (by omega) (fun _ => ?_) (fun q => by omega)⟩
      rw [show k = Rr - 1 by omega] at y2
      refine pk_loop (fun n i m => wX8_pleasedBy_78 (nI j) (nI d) Q n (nI i) m) (fun i m => QF M m ∧ ∃ k, i = k + 1 ∧ ∀ p, p < N → m 105 p = nI (F (layS d (woS N K A (Rr - 1) (itE (EE N K A Rr) k p))))) j 1 m2 hj1 ⟨f2, 0, rfl, y2⟩ ?_ ?_
      · intro n m3 ⟨f3, k, ek, y3⟩
        have hB3 := QF_BK hB f3
        rw [show k = j - 1 by omega] at y3
        unfold wX8_pleasedBy_78
        refine b_le (by omega) (by omega) (fun _ => ?_) (fun q => by omega)
        refine loop_0 (fun n i (s : Int32 × Mem) => wX8_pleasedBy_106 (nI j) (nI d) Q n s.1 (nI i) s.2) (fun i s => s = (pct N Rr K A d j ta F i, m3)) (min nt Rr) (0, m3) rfl ?_ ?_
        · intro n s e
          subst e
          unfold wX8_pleasedBy_106
          exact s8_lesser hB3 (b_le (by omega) (by omega) (fun _ => h _ f3) (fun q => by omega))
        · intro n i s hi e hk
          subst e
          unfold wX8_pleasedBy_106
          refine s8_lesser hB3 (b_le (by omega) (by omega) (fun q => by omega) (fun _ => ?_))
          have e0 := (eS_pm (N := N) (K := K) (A := A) (by omega) i).1 0 (by omega)
          have hp := pzl_lt (Rr := Rr) (K := K) (A := A) (d := d) (j := j) (i := i) b1 hd
          have hFp := hFm.1 _ hp
          have ht' := (hta i (by omega)).2.2
          dsimp only
          rw [nI_clamp (show i < 2 ^ 31 by omega), hB3.2.2.2.2.2.2.2 i (by omega), nI_clamp (by omega), y3 _ e0, show layS d (woS N K A (Rr - 1) (itE (EE N K A Rr) (j - 1) (eS N K A i 0))) = pzl N Rr K A d j i from rfl, (hB3.2.2.2.1.2.2.2 i (by omega)).2.1]
          refine ⟨vi (show i < 40 by omega), vi (Nat.lt_of_lt_of_le e0 b2), vi (show i < 40 by omega), ?_⟩
          unfold wX8_pleasedBy_143
          rw [nI_1]
          have fin : ∀ v : Int32, v = pct N Rr K A d j ta F (i + 1) → wX8_pleasedBy_106 (nI j) (nI d) Q n v (nI (i + 1)) m3 := fun v e => hk (v, m3) (by rw [e])
          refine b_ne (by omega) (by omega) (fun q => fin _ ?_) (fun q => fin _ ?_)
          · rw [Int32.add_zero]
            exact (if_neg q).symm
          · exact (if_pos q).symm
      · intro n i m3 hi ⟨f3, k, ek, y3⟩ hk
        have hB3 := QF_BK hB f3
        unfold wX8_pleasedBy_78
        refine b_le (by omega) (by omega) (fun q => by omega) (fun _ => ?_)
        refine s8_put (N := N) (β := EE N K A Rr) rfl rfl (by decide) (by decide) (by decide) hB3.2.2.1.1 b2 (fun p hp => ⟨hB3.2.2.2.2.2.2.1 p hp, hE.1 p hp⟩) fun m4 d1 d2 => ?_
        rw [nI_1]
        refine hk _ ⟨QF_trans f3 (QF_of fun x _ _ _ d => d2 x (by omega) (by omega)), k + 1, by omega, fun p hp => ?_⟩
        rw [d1 p hp, y3 _ (hE.1 p hp), itE_rl]
    · intro n i m2 hi ⟨f2, k, ek, y2⟩ hk
      have hB2 := QF_BK hB f2
      unfold wX8_pleasedBy_38
      rw [cl0, hB2.2.2.1.2.1, hB2.2.2.1.2.2.1, hB2.2.2.1.2.2.2.1]
      refine ⟨vz (by decide), b_le (by omega) (by omega) (fun q => by omega) (fun _ => ⟨vz (by decide), vz (by decide), ?_⟩)⟩
      refine s8_goRead (N := N) (by decide) (by decide) (by decide) hB2.2.2.1.1 (by omega) b2 bK bA (by omega) fun m3 r1 r2 => ?_
      rw [nI_1]
      refine hk _ ⟨QF_trans f2 (QF_of fun x a b c d => r2 x (by omega) (by omega)), k + 1, by omega, fun p hp => ?_⟩
      rw [r1]
      show m2 105 (rs N K A i p) = _
      rw [y2 _ ((rs_pm (by omega)).1 p hp), ek]
      rfl
  · intro n i m hi ⟨c1, c2⟩ hk
    unfold wX8_pleasedBy_2
    refine b_le (a := 40) (b := i) (by omega) (by omega) (fun q => by omega) (fun _ => ⟨vi (show i < 40 by omega), vi (show i < 40 by omega), ?_⟩)
    rw [nI_1, nI_clamp (by omega)]
    refine hk _ ⟨fun p hp => ?_, fun x hx => by rw [mu_ne hx]; exact c2 x hx⟩
    by_cases e : p = i
    · rw [e, mu_at, c2 89 (by omega)]
    · rw [mu_no (by omega)]; exact c1 p (by omega)
def bst (c : Nat → Int32) : Nat → Int32 × Int32
  | 0 => (0, -4)
  | i + 1 => if c i ≤ (bst c i).2 then bst c i else (nI i, c i)
theorem k_pleased {x y : Int32} {M : Mem} {Q : Int32 → Int32 → Mem → Prop} (hI : INV M) (h : GQ Q) : wX7_pleased x y M (fun r1 M1 => wX8_pleased x y M1 (fun r2 M2 => Q r1 r2 M2)) := by
  have hI' := hI
  obtain ⟨t, N, Rr, K, A, nt, ta, F, hB, hT, hP, hK, hS⟩ := hI
  obtain ⟨ht, e2, e1, k2, k1⟩ := BK_t hB
  obtain ⟨b1, b2, b3, b4, -⟩ := TL_N hB.2.1
  have hR := hB.2.2.1
  refine s7_within (a := 1) (b := 100) (by omega) (by omega) (fun g => i_t' ?_) (fun g => i_f' (r8_in_f (a := 1) (b := 100) (by omega) (by omega) g (i_f' (h _ _ hI'))))
  refine s7_within (a := 0) (b := 1) (by omega) (by omega) (fun g2 => i_t ?_) (fun g2 => i_f (r8_in_t (a := 1) (b := 100) (by omega) (by omega) g (i_t' (r8_in_f (a := 0) (b := 1) (by omega) (by omega) g2 (i_f (h _ _ hI'))))))
  have g' := g
  obtain ⟨j, j1, j2, e⟩ := g
  subst e
  have ref : ∀ r, r = (if y = 0 then (bst (fun d => pct N Rr K A d j ta F (min nt Rr)) N).1 else (bst (fun d => pct N Rr K A d j ta F (min nt Rr)) N).2) → wX8_pleased (nI j) y M (fun r2 M2 => Q r r2 M2) := fun r er => by
    refine r8_in_t (a := 1) (b := 100) (by omega) (by omega) g' (i_t' (r8_in_t (a := 0) (b := 1) (by omega) (by omega) g2 (i_t ?_)))
    refine loop_0 (fun n i (s : Int32 × Int32 × Mem) => wX8_pleased_33 (nI j) y (fun r2 M2 => Q r r2 M2) n s.1 s.2.1 (nI i) s.2.2) (fun i s => QF M s.2.2 ∧ s.1 = (bst (fun d => pct N Rr K A d j ta F (min nt Rr)) i).1 ∧ s.2.1 = (bst (fun d => pct N Rr K A d j ta F (min nt Rr)) i).2) N (0, -4, M) ⟨QF_refl _, rfl, rfl⟩ ?_ ?_
    · intro n s ⟨f, p1, p2⟩
      have hBm := QF_BK hB f
      unfold wX8_pleased_33 wX8_pleased_99
      rw [cl0, hBm.2.2.1.1, p1, p2]
      refine ⟨vz (by decide), b_le (by omega) (by omega) (fun _ => ⟨fun c => ?_, fun c => ?_⟩) (fun q => by omega)⟩
      · rw [if_neg c] at er
        rw [← er]
        exact h _ _ (QF_INV hI' f)
      · rw [if_pos c] at er
        rw [← er]
        exact h _ _ (QF_INV hI' f)
    · intro n i s hi ⟨f, p1, p2⟩ hk
      have hBm := QF_BK hB f
      unfold wX8_pleased_33
      rw [cl0, hBm.2.2.1.1, p1, p2]
      refine ⟨vz (by decide), b_le (by omega) (by omega) (fun q => by omega) (fun _ => ?_)⟩
      refine s8_pleasedBy hBm hi j1 j2 fun M1 f1 => ?_
      unfold wX8_pleased_66 wX8_pleased_81
      rw [nI_1]
      refine ⟨fun c => ⟨fun _ => hk ((bst (fun d => pct N Rr K A d j ta F (min nt Rr)) i).1, (bst (fun d => pct N Rr K A d j ta F (min nt Rr)) i).2, M1) ⟨QF_trans f f1, ?_, ?_⟩, fun n => absurd c n⟩, fun c => ⟨fun n => absurd n c, fun _ => hk (nI i, pct N Rr K A i j ta F (min nt Rr), M1) ⟨QF_trans f f1, ?_, ?_⟩⟩⟩
      · show _ = (if _ then _ else _ : Int32 × Int32).1; rw [if_pos c]
      · show _ = (if _ then _ else _ : Int32 × Int32).2; rw [if_pos c]
      · show _ = (if _ then _ else _ : Int32 × Int32).1; rw [if_neg c]
      · show _ = (if _ then _ else _ : Int32 × Int32).2; rw [if_neg c]
  refine loop_0 (fun n i (s : Int32 × Int32 × Mem) => wX7_pleased_30 (nI j) y (fun r1 M1 => wX8_pleased (nI j) y M1 (fun r2 M2 => Q r1 r2 M2)) n s.1 s.2.1 (nI i) s.2.2) (fun i s => s.2.2 = M ∧ s.1 = (bst (fun d => pct N Rr K A d j ta F (min nt Rr)) i).1 ∧ s.2.1 = (bst (fun d => pct N Rr K A d j ta F (min nt Rr)) i).2) N (0, -4, M) ⟨rfl, rfl, rfl⟩ ?_ ?_
  · intro n s ⟨em, p1, p2⟩
    unfold wX7_pleased_30 wX7_pleased_81
    rw [em, p1, p2]
    refine ⟨k2, ?_⟩
    rw [e2, hB.2.1.1]
    refine b_le (by omega) (by omega) (fun _ => ⟨fun c => ref _ ?_, fun c => ref _ ?_⟩) (fun q => by omega)
    · rw [if_neg c]
    · rw [if_pos c]
  · intro n i s hi ⟨em, p1, p2⟩ hk
    unfold wX7_pleased_30
    rw [em, p1, p2]
    refine ⟨k2, ?_⟩
    rw [e2, hB.2.1.1]
    refine b_le (by omega) (by omega) (fun q => by omega) (fun _ => ?_)
    refine s7_rightAt hB hi j1 j2 ?_
    unfold wX7_pleased_65
    rw [nI_1]
    refine ⟨fun c => hk ((bst (fun d => pct N Rr K A d j ta F (min nt Rr)) i).1, (bst (fun d => pct N Rr K A d j ta F (min nt Rr)) i).2, M) ⟨rfl, ?_, ?_⟩, fun c => hk (nI i, pct N Rr K A i j ta F (min nt Rr), M) ⟨rfl, ?_, ?_⟩⟩
    · show _ = (if _ then _ else _ : Int32 × Int32).1; rw [if_pos c]
    · show _ = (if _ then _ else _ : Int32 × Int32).2; rw [if_pos c]
    · show _ = (if _ then _ else _ : Int32 × Int32).1; rw [if_neg c]
    · show _ = (if _ then _ else _ : Int32 × Int32).2; rw [if_neg c]
