/-! PURE 12: has, leaves, seen, forget, count -/
abbrev EE (N K A Rr : Nat) : Nat → Nat := eS N K A Rr
theorem EE_pm {N K A Rr : Nat} (h1 : 2 ≤ N) : Pm N (EE N K A Rr) := eS_pm (by omega) Rr
/-- the place that the reader j, turn i reads -/
def plc (N Rr K A j i : Nat) : Nat := itE (EE N K A Rr) j (eS N K A i 0)
theorem plc_lt {N Rr K A j i : Nat} (h : 2 ≤ N) : plc N Rr K A j i < N := (itE_pm (EE_pm h) j).1 _ ((eS_pm (by omega) i).1 0 (by omega))
theorem s3_place {M : Mem} {N Rr K A j i : Nat} {Q : Int32 → Mem → Prop} (hR : RDS M N Rr K A) (h2 : 2 ≤ N) (h40 : N ≤ 40) (hr : Rr ≤ 40) (hj : j ≤ 1000000000000) (hi : i < Rr) (h : Q (nI (plc N Rr K A j i)) M) : wX3_placeRead 32 (lN j) (nI i) M Q := by
  obtain ⟨g1, g2, g3, g4, g5⟩ := hR
  refine s4_at (r := 38) (show i < 40 by omega) ?_
  rw [show (38 + 1 : Nat) = 39 from rfl, g2 i hi]
  exact s3_ring g1 (EE_pm h2) h40 ((eS_pm (by omega) i).1 0 (by omega)) (by omega) h
theorem s8_place {M : Mem} {N Rr K A j i : Nat} {Q : Int32 → Mem → Prop} (hF : RFR M N Rr K A) (h100 : ∀ p, p < N → M 100 p = nI (itE (EE N K A Rr) j p)) (h2 : 2 ≤ N) (h40 : N ≤ 40) (hr : Rr ≤ 40) (hi : i < Rr) (h : Q (nI (plc N Rr K A j i)) M) : wX8_placeOf (nI i) M Q := by
  have hp := (eS_pm (N := N) (K := K) (A := A) (by omega) i).1 0 (by omega)
  unfold wX8_placeOf
  rw [nI_clamp (by omega), hF.2 i hi, nI_clamp (by omega), h100 _ hp]
  exact ⟨vi (show i < 40 by omega), vi (show _ < 40 by omega), h⟩
theorem s8_power {M : Mem} {t N Rr K A nt : Nat} {ta F : Nat → Nat} {j : Nat} {Q : Mem → Prop} (hB : BK M t N Rr K A nt ta F) (hj : j < 2 ^ 63) (h : ∀ M1, QF M M1 → (∀ p, p < N → M1 100 p = nI (itE (EE N K A Rr) j p)) → Q M1) : wX8_layPower (lN j) M Q := by
  obtain ⟨h1, h2, h3, h4, h5, h6, h7⟩ := hB
  obtain ⟨b1, b2, -⟩ := TL_N h2
  refine s8_layPower (E := EE N K A Rr) hj h3.1 b2 (EE_pm b1) h7.1 fun M1 c1 c2 => h M1 (QF_of fun x a b c d => c2 x (by omega) (by omega) (by omega)) c1
theorem s8_turnIn_t {M : Mem} {N Rr K A : Nat} {x : Int32} {Q : Int32 → Mem → Prop} (hT : TLR M N Rr K A) (g : RGE 0 (Rr - 1) x) (h : Q 1 M) : wX8_in x.toInt64 (0 : Int64) (((M 82 (0 : Int32).toNatClampNeg) - (1 : Int32)).toInt64) M Q := by
  obtain ⟨t0, t1, t2, t3, b1, b2, b3, b4, b5, b6⟩ := hT
  rw [cl0, t1, nI_sub1 (by omega), nI_l (by omega)]
  exact r8_in_t (a := 0) (b := Rr - 1) (by omega) (by omega) g h
theorem s8_turnIn_f {M : Mem} {N Rr K A : Nat} {x : Int32} {Q : Int32 → Mem → Prop} (hT : TLR M N Rr K A) (g : ¬ RGE 0 (Rr - 1) x) (h : Q 0 M) : wX8_in x.toInt64 (0 : Int64) (((M 82 (0 : Int32).toNatClampNeg) - (1 : Int32)).toInt64) M Q := by
  obtain ⟨t0, t1, t2, t3, b1, b2, b3, b4, b5, b6⟩ := hT
  rw [cl0, t1, nI_sub1 (by omega), nI_l (by omega)]
  exact r8_in_f (a := 0) (b := Rr - 1) (by omega) (by omega) g h
theorem s7_leafHad {M : Mem} {t N Rr K A nt : Nat} {ta F : Nat → Nat} {j i : Nat} {Q : Int32 → Mem → Prop} (hB : BK M t N Rr K A nt ta F) (hj : j ≤ 1000000000000) (hi : i < Rr) (h : Q (nI (F (plc N Rr K A j i))) M) : wX7_leafHad (lN j) (nI i) M Q := by
  obtain ⟨h1, h2, h3, h4, ⟨h51, h52, h53⟩, h6, h7⟩ := hB
  obtain ⟨b1, b2, b3, b4, -⟩ := TL_N h2
  have hp := plc_lt (Rr := Rr) (K := K) (A := A) (j := j) (i := i) b1
  refine s3_place h6 b1 b2 b4 hj hi (s1_leafAt (o := 22) rfl (by omega) ?_)
  rw [show (22 + 2 : Nat) = 24 from rfl, (h53 _ hp).1]
  exact h
theorem k_has {x : Int64} {y : Int32} {M : Mem} {Q : Int32 → Int32 → Mem → Prop} (hI : INV M) (h : GQ Q) : wX7_has x y M (fun r1 M1 => wX8_has x y M1 (fun r2 M2 => Q r1 r2 M2)) := by
  have hI' := hI
  obtain ⟨t, N, Rr, K, A, nt, ta, F, hB, hT, hP, hK, hS⟩ := hI
  obtain ⟨b1, b2, b3, b4, -⟩ := TL_N hB.2.1
  have hR := hB.2.2.1
  refine s7_isReader (fun g => i_t' ?_) (fun g => i_f' (r8_rdr_f g (i_f' (h _ _ hI'))))
  have g' := g
  obtain ⟨j, hj, e⟩ := g
  subst e
  refine s7_isTurn hB (fun g2 => i_t ?_) (fun g2 => i_f (r8_rdr_t g' (i_t' ⟨vz (by decide), s8_turnIn_f hR g2 (i_f (h _ _ hI'))⟩)))
  have g2' := g2
  obtain ⟨i, i0, i1, e⟩ := g2
  subst e
  refine s7_leafHad hB hj (by omega) ?_
  refine r8_rdr_t g' (i_t' ⟨vz (by decide), s8_turnIn_t hR g2' (i_t ?_)⟩)
  refine s8_power hB (by omega) fun M1 f1 c1 => ?_
  have hB1 := QF_BK hB f1
  refine s8_place hB1.2.2.2.2.2.2 c1 b1 b2 b4 (by omega) ?_
  have hp := plc_lt (Rr := Rr) (K := K) (A := A) (j := j) (i := i) b1
  rw [nI_clamp (by omega), (hB1.2.2.2.2.1.2.2 _ hp).2]
  exact ⟨vi (show _ < 40 by omega), h _ _ (QF_INV hI' f1)⟩
def GL (Q : Int64 → Int64 → Mem → Prop) : Prop := ∀ r M, INV M → Q r r M
def lvs (N Rr K A : Nat) (F : Nat → Nat) (j : Nat) : Nat → Int64
  | 0 => 0
  | i + 1 => lvs N Rr K A F j i ||| ((1 : Int64) <<< ((nI (F (plc N Rr K A j i))).toInt64 &&& 63))
theorem s7_leavesHad {M : Mem} {t N Rr K A nt : Nat} {ta F : Nat → Nat} {j : Nat} {Q : Int64 → Mem → Prop} (hB : BK M t N Rr K A nt ta F) (hj : j ≤ 1000000000000) (h : Q (lvs N Rr K A F j Rr) M) : wX7_leavesHad (lN j) M Q := by
  obtain ⟨ht, e2, e1, k2, k1⟩ := BK_t hB
  obtain ⟨b1, b2, b3, b4, -⟩ := TL_N hB.2.1
  refine loop_0 (fun n i (s : Int64 × Mem) => wX7_leavesHad_5 (lN j) Q n s.1 (nI i) s.2) (fun i s => s = (lvs N Rr K A F j i, M)) Rr (0, M) rfl ?_ ?_
  · intro n s e
    subst e
    unfold wX7_leavesHad_5
    refine ⟨k2, ?_⟩
    dsimp only
    rw [e2, hB.2.1.2.1]
    exact b_le (by omega) (by omega) (fun _ => h) (fun q => by omega)
  · intro n i s hi e hk
    subst e
    unfold wX7_leavesHad_5
    refine ⟨k2, ?_⟩
    dsimp only
    rw [e2, hB.2.1.2.1]
    refine b_le (by omega) (by omega) (fun q => by omega) (fun _ => ?_)
    refine s7_leafHad hB hj hi ?_
    unfold wX7_bit
    rw [nI_1]
    exact hk (lvs N Rr K A F j (i + 1), M) rfl
theorem s8_leavesNow {M : Mem} {t N Rr K A nt : Nat} {ta F : Nat → Nat} {j : Nat} {Q : Int64 → Mem → Prop} (hB : BK M t N Rr K A nt ta F) (c : ∀ p, p < N → M 100 p = nI (itE (EE N K A Rr) j p)) (h : Q (lvs N Rr K A F j Rr) M) : wX8_leavesNow M Q := by
  obtain ⟨b1, b2, b3, b4, -⟩ := TL_N hB.2.1
  refine loop_0 (fun n i (s : Int64 × Mem) => wX8_leavesNow_4 Q n s.1 (nI i) s.2) (fun i s => s = (lvs N Rr K A F j i, M)) Rr (0, M) rfl ?_ ?_
  · intro n s e
    subst e
    unfold wX8_leavesNow_4
    refine ⟨vz (by decide), ?_⟩
    dsimp only
    rw [cl0, hB.2.2.1.2.1]
    exact b_le (by omega) (by omega) (fun _ => h) (fun q => by omega)
  · intro n i s hi e hk
    subst e
    unfold wX8_leavesNow_4
    refine ⟨vz (by decide), ?_⟩
    dsimp only
    rw [cl0, hB.2.2.1.2.1]
    refine b_le (by omega) (by omega) (fun q => by omega) (fun _ => ?_)
    refine s8_place hB.2.2.2.2.2.2 c b1 b2 b4 hi ?_
    have hp := plc_lt (Rr := Rr) (K := K) (A := A) (j := j) (i := i) b1
    refine ⟨vi (show _ < 40 by omega), ?_⟩
    rw [nI_clamp (by omega), (hB.2.2.2.2.1.2.2 _ hp).2, nI_1]
    exact hk (lvs N Rr K A F j (i + 1), M) rfl
theorem k_leaves {x : Int64} {M : Mem} {Q : Int64 → Int64 → Mem → Prop} (hI : INV M) (h : GL Q) : wX7_leaves x M (fun r1 M1 => wX8_leaves x M1 (fun r2 M2 => Q r1 r2 M2)) := by
  have hI' := hI
  obtain ⟨t, N, Rr, K, A, nt, ta, F, hB, hT, hP, hK, hS⟩ := hI
  obtain ⟨b1, b2, b3, b4, -⟩ := TL_N hB.2.1
  refine s7_isReader (fun g => i_t' ?_) (fun g => i_f' (r8_rdr_f g (i_f (h _ _ hI'))))
  have g' := g
  obtain ⟨j, hj, e⟩ := g
  subst e
  refine s7_leavesHad hB hj ?_
  refine r8_rdr_t g' (i_t ?_)
  refine s8_power hB (by omega) fun M1 f1 c1 => ?_
  exact s8_leavesNow (QF_BK hB f1) c1 (h _ _ (QF_INV hI' f1))
theorem INV_o {M M' : Mem} {t N Rr K A nt : Nat} {ta F : Nat → Nat} {tl : Nat} {tx : Nat → Nat} (hB : BK M t N Rr K A nt ta F) (hT : TXT M tl tx) (hP : PKI M N Rr 61 0) (hK : KPT M N Rr) (e : ∀ x, x ≠ 0 → x ≠ 79 → x ≠ 58 → x ≠ 60 → x ≠ 93 → x ≠ 94 → x ≠ 95 → M' x = M x) (e0 : ∀ k, k ≠ 9 → M' 0 k = M 0 k) (e79 : ∀ k, k ≠ 15 → M' 79 k = M 79 k) (hS : SN M' N Rr K A) : INV M' := by
  obtain ⟨ht, -⟩ := BK_t hB
  have s : ∀ x, x ≠ 0 ∧ x < 58 ∨ (60 < x ∧ x < 79) ∨ (79 < x ∧ x < 93) ∨ 95 < x → M' x = M x := fun x hx => e x (by omega) (by omega) (by omega) (by omega) (by omega) (by omega) (by omega)
  refine ⟨t, N, Rr, K, A, nt, ta, F, ?_, ⟨tl, tx, TXT_congr hT (by rw [s 1 (by omega)]) (s 3 (by omega)) (e79 0 (by omega)) (s 80 (by omega))⟩, ?_, ?_, hS⟩
  · exact BK_congr hB ⟨e0 1 (by omega), e0 2 (by omega)⟩ (s t (by omega)) (s (t + 6) (by omega)) (by rw [s 22 (by omega)]) (s 24 (by omega)) (fun x hx => s x (by omega)) ⟨by rw [s 81 (by omega)], by rw [s 82 (by omega)], by rw [s 83 (by omega)], by rw [s 84 (by omega)], by rw [s 87 (by omega)]⟩ (fun k _ => by rw [s 88 (by omega)]) (s 89 (by omega)) (s 98 (by omega)) (s 99 (by omega))
  · exact PKI_congr hP (s 61 (by omega)) (by rw [s (61 + 1) (by omega)]) (s (61 + 3) (by omega)) (fun p _ => by rw [s 90 (by omega)]) (by rw [s 91 (by omega)]) (by rw [s 92 (by omega)])
  · exact KPT_congr hK (e0 13 (by omega)) (e79 14 (by omega)) (fun x hx => s x (by omega)) (fun p hp => by rw [s 90 (by omega)]) (fun w hw => by rw [s 91 (by omega), s 92 (by omega)]; exact ⟨rfl, rfl⟩)
theorem k_forget {M : Mem} {Q : Int32 → Int32 → Mem → Prop} (hI : INV M) (h : GQ Q) : wX7_forget M (fun r1 M1 => wX8_forget M1 (fun r2 M2 => Q r1 r2 M2)) := by
  obtain ⟨t, N, Rr, K, A, nt, ta, F, hB, ⟨tl, tx, hT⟩, hP, hK, ⟨sc, jj, ii, vv, s1, s2, s3, s4⟩⟩ := hI
  show Q (M 0 9) (mu M 0 9 (0 : Int32) 79 15) (mu (mu M 0 9 (0 : Int32)) 79 15 (0 : Int32))
  rw [mu_no (by omega), s1, s2]
  refine h _ _ (INV_o hB hT hP hK (fun x a b c d e f g => by rw [mu_ne b, mu_ne a]) (fun k hk => by rw [mu_no (by omega), mu_no (by omega)]) (fun k hk => by rw [mu_no (by omega), mu_no (by omega)]) ⟨0, jj, ii, vv, ?_, mu_at _ _ _ _, by omega, fun k hk => by omega⟩)
  rw [mu_no (by omega)]
  exact mu_at _ _ _ _
theorem rdL_at (M : Mem) (i k : Nat) (x : Int64) : rdL (muL M i k x) i k = x := by
  have e := congrFun (rdL_muL M i k x) k
  exact e.trans (if_pos rfl)
theorem rdL_ne {M : Mem} {i k j : Nat} {x : Int64} (hj : j ≠ k) : rdL (muL M i k x) i j = rdL M i j := by
  have e := congrFun (rdL_muL M i k x) j
  exact e.trans (if_neg hj)
theorem muL_ne {M : Mem} {i k : Nat} {x : Int64} {a : Nat} (h : a ≠ i) : muL M i k x a = M a := by
  unfold muL
  rw [mu_ne h, mu_ne h]
theorem rdL_mu {M : Mem} {i k a b : Nat} {v : Int32} (h : a ≠ i) : rdL (mu M i k v) a b = rdL M a b := by
  unfold rdL
  rw [mu_ne h]
theorem k_seen {x : Int64} {y z : Int32} {M : Mem} {Q : Int32 → Int32 → Mem → Prop} (hI : INV M) (h : GQ Q) : wX7_seen x y z M (fun r1 M1 => wX8_seen x y z M1 (fun r2 M2 => Q r1 r2 M2)) := by
  have hI' := hI
  obtain ⟨t, N, Rr, K, A, nt, ta, F, hB, ⟨tl, tx, hT⟩, hP, hK, ⟨sc, jj, ii, vv, s1, s2, s3, s4⟩⟩ := hI
  obtain ⟨b1, b2, b3, b4, -⟩ := TL_N hB.2.1
  have hR := hB.2.2.1
  refine s7_isReader (fun g => i_t' ?_) (fun g => i_f' (r8_rdr_f g (i_f' (h _ _ hI'))))
  refine s7_isTurn hB (fun g2 => i_t' ?_) (fun g2 => i_f' (r8_rdr_t g (i_t' ⟨vz (by decide), s8_turnIn_f hR g2 (i_f' (h _ _ hI'))⟩)))
  refine s7_isBelow hB (fun g3 => i_t ?_) (fun g3 => i_f (r8_rdr_t g (i_t' ⟨vz (by decide), s8_turnIn_t hR g2 (i_t' (r8_leaf_f hR g3 (i_f (h _ _ hI'))))⟩)))
  rw [s1]
  refine b_lt (a := sc) (b := 12) (by omega) (by omega) (fun q => ?_) (fun q => ?_)
  · have g' := g
    have g2' := g2
    have g3' := g3
    obtain ⟨j, hj, e⟩ := g
    subst e
    obtain ⟨i, i0, i1, e⟩ := g2
    subst e
    obtain ⟨v, v0, v1, e⟩ := g3
    subst e
    refine s3_place hB.2.2.2.2.2.1 b1 b2 b4 hj (by omega) ?_
    refine s4_put (r := 57) (show sc < 12 from q) ?_
    rw [mu_no (by omega), s1]
    refine s4_put (r := 59) (show sc < 12 from q) ?_
    rw [mu_at, mu_no (by omega), mu_no (by omega), s1, nI_1]
    generalize hM1 : mu (mu (mu M (57 + 1) sc (nI (plc N Rr K A j i))) (59 + 1) sc (nI v)) 0 9 (nI (sc + 1)) = M1
    have a0 : ∀ x, x ≠ 58 → x ≠ 60 → x ≠ 0 → M1 x = M x := fun x c d e => by rw [← hM1, mu_ne e, mu_ne d, mu_ne c]
    have a58 : ∀ k, M1 58 k = if k = sc then nI (plc N Rr K A j i) else M 58 k := fun k => by
      rw [← hM1, mu_no (by omega), mu_no (by omega)]
      by_cases e : k = sc
      · rw [if_pos e, e]; exact mu_at _ _ _ _
      · rw [if_neg e]; exact mu_no (by omega)
    have a60 : ∀ k, M1 60 k = if k = sc then nI v else M 60 k := fun k => by
      rw [← hM1, mu_no (by omega)]
      by_cases e : k = sc
      · rw [if_pos e, e]; exact mu_at _ _ _ _
      · rw [if_neg e, mu_no (by omega), mu_no (by omega)]
    have a09 : M1 0 9 = nI (sc + 1) := by rw [← hM1]; exact mu_at _ _ _ _
    have a0k : ∀ k, k ≠ 9 → M1 0 k = M 0 k := fun k hk => by rw [← hM1, mu_no (by omega), mu_no (by omega), mu_no (by omega)]
    have hR1 : TLR M1 N Rr K A := TLR_congr hR (a0 81 (by omega) (by omega) (by omega)) (a0 82 (by omega) (by omega) (by omega)) (a0 83 (by omega) (by omega) (by omega)) (a0 84 (by omega) (by omega) (by omega))
    refine r8_rdr_t g' (i_t' ⟨vz (by decide), s8_turnIn_t hR1 g2' (i_t' (r8_leaf_t hR1 g3' (i_t ?_)))⟩)
    have a79 : M1 79 = M 79 := a0 79 (by omega) (by omega) (by omega)
    have m0 : M1 79 15 = nI sc := by rw [a79]; exact s2
    have mc : (nI sc).toNatClampNeg = sc := nI_clamp (by omega)
    have m1 : muL M1 93 sc (lN j) 79 15 = nI sc := by rw [muL_ne (by decide)]; exact m0
    have m2 : mu (muL M1 93 sc (lN j)) 94 sc (nI i) 79 15 = nI sc := by rw [mu_no (by omega)]; exact m1
    have m3 : mu (mu (muL M1 93 sc (lN j)) 94 sc (nI i)) 95 sc (nI v) 79 15 = nI sc := by rw [mu_no (by omega)]; exact m2
    rw [m0, mc, m1, mc, m2, mc, m3, nI_1]
    refine b_ne (a := sc) (b := 12) (by omega) (by omega) (fun _ => ⟨vi (show sc < 12 from q), vi (show sc < 12 from q), vi (show sc < 12 from q), ?_⟩) (fun q2 => by omega)
    rw [mu_at]
    generalize hM2 : mu (mu (mu (muL M1 93 sc (lN j)) 94 sc (nI i)) 95 sc (nI v)) 79 15 (nI (sc + 1)) = M2
    have c0 : ∀ x, x ≠ 93 → x ≠ 94 → x ≠ 95 → x ≠ 79 → M2 x = M1 x := fun x c d e f => by rw [← hM2, mu_ne f, mu_ne e, mu_ne d, muL_ne c]
    refine h _ _ (INV_o hB hT hP hK (fun x a b c d e f g => by rw [c0 x e f g b, a0 x c d a]) (fun k hk => by rw [c0 0 (by omega) (by omega) (by omega) (by omega)]; exact a0k k hk) (fun k hk => by rw [← hM2, mu_no (by omega), mu_no (by omega), mu_no (by omega), muL_ne (by decide), a79]) ?_)
    refine ⟨sc + 1, fun k => if k = sc then j else jj k, fun k => if k = sc then i else ii k, fun k => if k = sc then v else vv k, ?_, ?_, by omega, fun k hk => ?_⟩
    · rw [c0 0 (by omega) (by omega) (by omega) (by omega)]; exact a09
    · rw [← hM2]; exact mu_at _ _ _ _
    · have d93 : rdL M2 93 k = if k = sc then lN j else rdL M 93 k := by
        rw [← hM2, rdL_mu (by decide), rdL_mu (by decide), rdL_mu (by decide)]
        by_cases e : k = sc
        · rw [if_pos e, e]; exact rdL_at _ _ _ _
        · rw [if_neg e, rdL_ne e]; unfold rdL; rw [a0 93 (by omega) (by omega) (by omega)]
      have d94 : M2 94 k = if k = sc then nI i else M 94 k := by
        rw [← hM2, mu_no (by omega), mu_no (by omega)]
        by_cases e : k = sc
        · rw [if_pos e, e]; exact mu_at _ _ _ _
        · rw [if_neg e, mu_no (by omega), muL_ne (by decide), a0 94 (by omega) (by omega) (by omega)]
      have d95 : M2 95 k = if k = sc then nI v else M 95 k := by
        rw [← hM2, mu_no (by omega)]
        by_cases e : k = sc
        · rw [if_pos e, e]; exact mu_at _ _ _ _
        · rw [if_neg e, mu_no (by omega), mu_no (by omega), muL_ne (by decide), a0 95 (by omega) (by omega) (by omega)]
      rw [d93, d94, d95, c0 58 (by omega) (by omega) (by omega) (by omega), c0 60 (by omega) (by omega) (by omega) (by omega), a58, a60]
      by_cases e : k = sc
      · simp only [if_pos e]
        exact ⟨trivial, hj, trivial, by omega, trivial, by omega, trivial, rfl⟩
      · simp only [if_neg e]
        exact s4 k (by omega)
  · refine r8_rdr_t g (i_t' ⟨vz (by decide), s8_turnIn_t hR g2 (i_t' (r8_leaf_t hR g3 (i_t ?_)))⟩)
    rw [s2]
    exact b_ne (a := sc) (b := 12) (by omega) (by omega) (fun q2 => by omega) (fun _ => h _ _ hI')
theorem k_count {x : Int32} {M : Mem} {Q : Int32 → Int32 → Mem → Prop} (hI : INV M) (h : GQ Q) : wX7_count x M (fun r1 M1 => wX8_count x M1 (fun r2 M2 => Q r1 r2 M2)) := by
  have hI' := hI
  obtain ⟨t, N, Rr, K, A, nt, ta, F, hB, ⟨tl, tx, hT⟩, ⟨P, b, p1, p2, p3, p4, p5, p6, p7⟩, ⟨kc, c1, c2, c3, c4, c5⟩, ⟨sc, jj, ii, vv, s1, s2, s3, s4⟩⟩ := hI
  obtain ⟨ht, e2, e1, k2, k1⟩ := BK_t hB
  obtain ⟨h1, h2, h3, h4, h5, h6, h7⟩ := hB
  have no : ∀ a b : Int32, a ≠ b → a = b → False := fun a b q r => q r
  refine s7_within (a := 0) (b := 7) (by omega) (by omega) (fun g => i_t ?_) (fun g => i_f ?_)
  · unfold wX8_count
    rw [e2]
    rw [e2] at k2
    refine ⟨fun q => ⟨k2, ⟨fun _ => ⟨vz (by decide), ?_⟩, fun n => absurd q n⟩⟩, fun n0 => ⟨fun q => ⟨k2, ⟨fun r => absurd r n0, fun _ => ⟨fun _ => ⟨vz (by decide), ?_⟩, fun n => absurd q n⟩⟩⟩, fun n1 => ⟨fun q => ⟨k2, ⟨fun r => absurd r n0, fun _ => ⟨fun r => absurd r n1, fun _ => ⟨fun _ => ⟨vz (by decide), ?_⟩, fun n => absurd q n⟩⟩⟩⟩, fun n2 => ⟨fun q => ⟨fun r => absurd r n0, fun _ => ⟨fun r => absurd r n1, fun _ => ⟨fun r => absurd r n2, fun _ => ⟨fun _ => ⟨vz (by decide), ?_⟩, fun n => absurd q n⟩⟩⟩⟩, fun n3 => ⟨fun q => ⟨fun r => absurd r n0, fun _ => ⟨fun r => absurd r n1, fun _ => ⟨fun r => absurd r n2, fun _ => ⟨fun r => absurd r n3, fun _ => ⟨fun _ => ⟨vz (by decide), ?_⟩, fun n => absurd q n⟩⟩⟩⟩⟩, fun n4 => ⟨fun q => ⟨fun r => absurd r n0, fun _ => ⟨fun r => absurd r n1, fun _ => ⟨fun r => absurd r n2, fun _ => ⟨fun r => absurd r n3, fun _ => ⟨fun r => absurd r n4, fun _ => ⟨fun _ => ?_, fun n => absurd q n⟩⟩⟩⟩⟩⟩, fun n5 => ⟨fun q => ⟨fun r => absurd r n0, fun _ => ⟨fun r => absurd r n1, fun _ => ⟨fun r => absurd r n2, fun _ => ⟨fun r => absurd r n3, fun _ => ⟨fun r => absurd r n4, fun _ => ⟨fun r => absurd r n5, fun _ => ⟨fun _ => ?_, fun n => absurd q n⟩⟩⟩⟩⟩⟩⟩, fun n6 => ⟨fun r => absurd r n0, fun _ => ⟨fun r => absurd r n1, fun _ => ⟨fun r => absurd r n2, fun _ => ⟨fun r => absurd r n3, fun _ => ⟨fun r => absurd r n4, fun _ => ⟨fun r => absurd r n5, fun _ => ⟨fun r => absurd r n6, fun _ => ⟨fun _ => ?_, fun n7 => ?_⟩⟩⟩⟩⟩⟩⟩⟩⟩⟩⟩⟩⟩⟩⟩
    · rw [cl0, h2.1, h3.1]; exact h _ _ hI'
    · rw [cl0, h2.2.1, h3.2.1]; exact h _ _ hI'
    · rw [cl0, h4.1, h4.2.1]; exact h _ _ hI'
    · rw [cl0, p4, p5]; exact h _ _ hI'
    · rw [cl0, p7]; exact h _ _ hI'
    · rw [s1, s2]; exact h _ _ hI'
    · rw [c1, c2]; exact h _ _ hI'
    · rw [hT.1, hT.2.1]; exact h _ _ hI'
    · obtain ⟨k, k0, k1, e⟩ := g
      have : k = 0 ∨ k = 1 ∨ k = 2 ∨ k = 3 ∨ k = 4 ∨ k = 5 ∨ k = 6 ∨ k = 7 := by omega
      rcases this with r | r | r | r | r | r | r | r <;> subst r
      · exact absurd e n0
      · exact absurd e n1
      · exact absurd e n2
      · exact absurd e n3
      · exact absurd e n4
      · exact absurd e n5
      · exact absurd e n6
      · exact absurd e n7
  · have ng : ∀ k, k ≤ 7 → ¬ x = nI k := fun k hk e => g ⟨k, by omega, hk, e⟩
    exact ⟨fun r => absurd r (ng 0 (by omega)), fun _ => ⟨fun r => absurd r (ng 1 (by omega)), fun _ => ⟨fun r => absurd r (ng 2 (by omega)), fun _ => ⟨fun r => absurd r (ng 3 (by omega)), fun _ => ⟨fun r => absurd r (ng 4 (by omega)), fun _ => ⟨fun r => absurd r (ng 5 (by omega)), fun _ => ⟨fun r => absurd r (ng 6 (by omega)), fun _ => ⟨fun r => absurd r (ng 7 (by omega)), fun _ => h _ _ hI'⟩⟩⟩⟩⟩⟩⟩⟩
