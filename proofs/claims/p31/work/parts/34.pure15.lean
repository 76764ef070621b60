/-! PURE 15: right; the told turns -/
theorem s7_told {M : Mem} {t N Rr K A nt : Nat} {ta F : Nat → Nat} {Q : Int32 → Mem → Prop} (hB : BK M t N Rr K A nt ta F) (h : Q (nI (min nt Rr)) M) : wX6_toldTurns t M Q := by
  obtain ⟨h1, h2, h3, h4, -⟩ := hB
  obtain ⟨b1, b2, b3, b4, -⟩ := TL_N h2
  unfold wX6_toldTurns
  rw [h4.1, h2.2.1]
  have h20 := h4.2.2.1
  by_cases q : nt < Rr
  · rw [if_pos (nI_lt q (by omega))]
    rw [show min nt Rr = nt by omega] at h
    exact h
  · rw [if_neg (nI_nlt (by omega) (by omega))]
    rw [show min nt Rr = Rr by omega] at h
    exact h
theorem s8_lesser {M : Mem} {t N Rr K A nt : Nat} {ta F : Nat → Nat} {Q : Int32 → Mem → Prop} (hB : BK M t N Rr K A nt ta F) (h : Q (nI (min nt Rr)) M) : wX8_lesser M Q := by
  obtain ⟨h1, h2, h3, h4, -⟩ := hB
  obtain ⟨b1, b2, b3, b4, -⟩ := TL_N h2
  have h20 := h4.2.2.1
  unfold wX8_lesser
  rw [cl0, h4.2.1, h3.2.1]
  refine ⟨vz (by decide), vz (by decide), b_le (by omega) (by omega) (fun q => ⟨vz (by decide), ?_⟩) (fun q => ⟨vz (by decide), ?_⟩)⟩
  · rw [show min nt Rr = nt by omega] at h
    exact h
  · rw [show min nt Rr = Rr by omega] at h
    exact h
theorem s7_tale {M : Mem} {t N Rr K A nt i : Nat} {ta F : Nat → Nat} {Q : Int32 → Mem → Prop} (hB : BK M t N Rr K A nt ta F) (hi : i < nt) (h : Q (nI (ta i)) M) : wX6_taleLeaf t (nI i) M Q := by
  obtain ⟨ht, -⟩ := BK_t hB
  obtain ⟨h1, h2, h3, h4, -⟩ := hB
  have h20 := h4.2.2.1
  refine s4_at (r := t + 5) ?_ ?_
  · rcases ht with e | e <;> subst e <;> exact Nat.lt_of_lt_of_le hi h20
  · rw [show t + 5 + 1 = t + 6 from rfl, (h4.2.2.2 i hi).1]
    exact h
def rgt (N Rr K A j : Nat) (ta F : Nat → Nat) : Nat → Int32
  | 0 => 0
  | i + 1 => if F (plc N Rr K A j i) = ta i then rgt N Rr K A j ta F i + (1 : Int32) else rgt N Rr K A j ta F i
theorem k_right {x : Int64} {M : Mem} {Q : Int32 → Int32 → Mem → Prop} (hI : INV M) (h : GQ Q) : wX7_right x M (fun r1 M1 => wX8_right x M1 (fun r2 M2 => Q r1 r2 M2)) := by
  have hI' := hI
  obtain ⟨t, N, Rr, K, A, nt, ta, F, hB, hT, hP, hK, hS⟩ := hI
  obtain ⟨ht, e2, e1, k2, k1⟩ := BK_t hB
  obtain ⟨b1, b2, b3, b4, -⟩ := TL_N hB.2.1
  have h20 := hB.2.2.2.1.2.2.1
  have hta := hB.2.2.2.1.2.2.2
  have hFm := hB.2.2.2.2.1.2.1
  refine s7_isReader (fun g => i_t ?_) (fun g => i_f (r8_rdr_f g (i_f (h _ _ hI'))))
  have g' := g
  obtain ⟨j, hj, e⟩ := g
  subst e
  have pl : ∀ i, plc N Rr K A j i < N := fun i => plc_lt b1
  refine loop_0 (fun n i (s : Int32 × Mem) => wX7_right_14 (lN j) (fun r1 M1 => wX8_right (lN j) M1 (fun r2 M2 => Q r1 r2 M2)) n s.1 (nI i) s.2) (fun i s => s = (rgt N Rr K A j ta F i, M)) (min nt Rr) (0, M) rfl ?_ ?_
  · intro n s e
    subst e
    unfold wX7_right_14
    refine ⟨k2, ?_⟩
    dsimp only
    rw [e2]
    refine s7_told hB (b_le (by omega) (by omega) (fun _ => ?_) (fun q => by omega))
    refine r8_rdr_t g' (i_t ?_)
    refine s8_power hB (by omega) fun M1 f1 c1 => ?_
    have hB1 := QF_BK hB f1
    refine loop_0 (fun n i (s : Int32 × Mem) => wX8_right_19 (lN j) (fun r2 M2 => Q (rgt N Rr K A j ta F (min nt Rr)) r2 M2) n s.1 (nI i) s.2) (fun i s => s = (rgt N Rr K A j ta F i, M1)) (min nt Rr) (0, M1) rfl ?_ ?_
    · intro n s e
      subst e
      unfold wX8_right_19
      refine s8_lesser hB1 (b_le (by omega) (by omega) (fun _ => ?_) (fun q => by omega))
      exact h _ _ (QF_INV hI' f1)
    · intro n i s hi e hk
      subst e
      unfold wX8_right_19
      refine s8_lesser hB1 (b_le (by omega) (by omega) (fun q => by omega) (fun _ => ?_))
      refine s8_place hB1.2.2.2.2.2.2 c1 b1 b2 b4 (by omega) ?_
      have hp := pl i
      have hF := hFm.1 _ hp
      have ht' := (hta i (by omega)).2.2
      refine ⟨vi (show _ < 40 by omega), vi (show i < 40 by omega), ?_⟩
      dsimp only
      rw [nI_clamp (by omega), nI_clamp (by omega), (hB1.2.2.2.2.1.2.2 _ hp).2, (hB1.2.2.2.1.2.2.2 i (by omega)).2.1]
      have fin : ∀ v : Int32, v = rgt N Rr K A j ta F (i + 1) → wX8_right_19 (lN j) (fun r2 M2 => Q (rgt N Rr K A j ta F (min nt Rr)) r2 M2) n v (nI i + (1 : Int32)) M1 := fun v e => by
        rw [e, nI_1]
        exact hk (rgt N Rr K A j ta F (i + 1), M1) rfl
      refine b_ne (by omega) (by omega) (fun q => fin _ ?_) (fun q => fin _ ?_)
      · show rgt N Rr K A j ta F i + 0 = _
        rw [Int32.add_zero]
        exact (if_neg q).symm
      · exact (if_pos q).symm
  · intro n i s hi e hk
    subst e
    unfold wX7_right_14
    refine ⟨k2, ?_⟩
    dsimp only
    rw [e2]
    refine s7_told hB (b_le (by omega) (by omega) (fun q => by omega) (fun _ => ?_))
    refine s7_leafHad hB hj (by omega) ⟨k2, ?_⟩
    rw [e2]
    refine s7_tale hB (by omega) ?_
    have hF := hFm.1 _ (pl i)
    have ht' := (hta i (by omega)).2.2
    refine b_ne (by omega) (by omega) (fun q => ?_) (fun q => ?_)
    · unfold wX7_right_48
      rw [nI_1]
      exact hk (rgt N Rr K A j ta F i, M) (by rw [show rgt N Rr K A j ta F (i + 1) = rgt N Rr K A j ta F i from if_neg q])
    · unfold wX7_right_48
      rw [nI_1]
      exact hk (rgt N Rr K A j ta F i + (1 : Int32), M) (by rw [show rgt N Rr K A j ta F (i + 1) = rgt N Rr K A j ta F i + (1 : Int32) from if_pos q])
