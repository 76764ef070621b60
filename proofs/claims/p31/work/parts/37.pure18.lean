/-! PURE 18: order, so, sure -/
def sq (P V : Nat → Nat) : Nat → Gs × Bool
  | 0 => (g0, true)
  | i + 1 => (bnd (P i) (V i) (sq P V i).1, (sq P V i).2 && bok (P i) (V i) (sq P V i).1)
theorem sq_ok {N : Nat} {P V : Nat → Nat} (h40 : N ≤ 40) : ∀ n, (∀ i, i < n → P i < N ∧ V i < N) → GOK N (sq P V n).1
  | 0, _ => g0_ok N
  | n + 1, h => bnd_ok h40 (h n (by omega)).1 (h n (by omega)).2 (sq_ok h40 n fun i hi => h i (by omega))
theorem s8_power2 {M : Mem} {t N Rr K A nt : Nat} {ta F : Nat → Nat} {j : Nat} {Q : Mem → Prop} (hB : BK M t N Rr K A nt ta F) (hj : j < 2 ^ 63) (h : ∀ M1 : Mem, (∀ x, x ≠ 100 → x ≠ 101 → x ≠ 102 → M1 x = M x) → (∀ p, p < N → M1 100 p = nI (itE (EE N K A Rr) j p)) → Q M1) : wX8_layPower (lN j) M Q := by
  obtain ⟨h1, h2, h3, h4, h5, h6, h7⟩ := hB
  obtain ⟨b1, b2, -⟩ := TL_N h2
  exact s8_layPower (E := EE N K A Rr) hj h3.1 b2 (EE_pm b1) h7.1 fun M1 c1 c2 => h M1 c2 c1
theorem fr_QF {M M1 : Mem} (c : ∀ x, x ≠ 100 → x ≠ 101 → x ≠ 102 → M1 x = M x) : QF M M1 := QF_of fun x _ _ _ d => c x (by omega) (by omega) (by omega)
theorem fr_G8 {M M1 : Mem} {N : Nat} {g : Gs} (h : G8 M N g) (c : ∀ x, x ≠ 100 → x ≠ 101 → x ≠ 102 → M1 x = M x) : G8 M1 N g := by
  unfold G8
  rw [c 103 (by omega) (by omega) (by omega), c 104 (by omega) (by omega) (by omega), c 79 (by omega) (by omega) (by omega)]
  exact h
theorem b01_f : b01 false = 0 := rfl
theorem b01_t : b01 true = 1 := rfl
theorem b01_c (b : Bool) : b01 b = 0 ∨ b01 b = 1 := by cases b; exact Or.inl rfl; exact Or.inr rfl
theorem k_order {x : Int64} {y : Int32} {M : Mem} {Q : Int32 → Int32 → Mem → Prop} (hI : INV M) (h : GQ Q) : wX7_order x y M (fun r1 M1 => wX8_order x y M1 (fun r2 M2 => Q r1 r2 M2)) := by
  have hI' := hI
  obtain ⟨t, N, Rr, K, A, nt, ta, F, hB, hT, hP, hK, hS⟩ := hI
  obtain ⟨ht, e2, e1, k2, k1⟩ := BK_t hB
  obtain ⟨b1, b2, b3, b4, -⟩ := TL_N hB.2.1
  have hR := hB.2.2.1
  have h20 := hB.2.2.2.1.2.2.1
  have hta := hB.2.2.2.1.2.2.2
  refine s7_isReader (fun g => i_t' ?_) (fun g => i_f' (r8_rdr_f g (i_f' (h _ _ hI'))))
  have g' := g
  obtain ⟨j, hj, e⟩ := g
  subst e
  refine s7_isBelow hB (fun g2 => i_t ?_) (fun g2 => i_f (r8_rdr_t g' (i_t' (r8_leaf_f hR g2 (i_f (h _ _ hI'))))))
  have g2' := g2
  obtain ⟨z, z0, z1, e⟩ := g2
  subst e
  have inR : ∀ i, i < min nt Rr → plc N Rr K A j i < N ∧ ta i < N := fun i hi => ⟨plc_lt b1, (hta i (by omega)).2.2⟩
  have ok : ∀ i, i ≤ min nt Rr → GOK N (sq (plc N Rr K A j) ta i).1 := fun i hi => sq_ok b2 i fun k hk => inR k (by omega)
  refine ⟨k2, ?_⟩
  rw [e2, hB.2.1.1]
  refine s7_begin b2 fun M0 s0 f0 => ?_
  refine loop_0 (fun n i m => wX7_order_34 (lN j) (nI z) (fun r1 M1 => wX8_order (lN j) (nI z) M1 (fun r2 M2 => Q r1 r2 M2)) n (nI i) m) (fun i m => G7 m N (sq (plc N Rr K A j) ta i).1 (sq (plc N Rr K A j) ta i).2 ∧ QF M m) (min nt Rr) M0 ⟨s0, f0⟩ ?_ ?_
  · intro n m ⟨s1, f1⟩
    have hBm := QF_BK hB f1
    obtain ⟨-, e2', -, k2', -⟩ := BK_t hBm
    unfold wX7_order_34
    refine ⟨k2', ?_⟩
    rw [e2']
    refine s7_told hBm (b_le (by omega) (by omega) (fun _ => ?_) (fun q => by omega))
    have okE := ok (min nt Rr) (Nat.le_refl _)
    have href : ∀ (M1 : Mem) (r : Int32), QF M M1 → ((sq (plc N Rr K A j) ta (min nt Rr)).2 = false → r = -4) → ((sq (plc N Rr K A j) ta (min nt Rr)).2 = true → FV N (sq (plc N Rr K A j) ta (min nt Rr)).1 z r) → wX8_order (lN j) (nI z) M1 (fun r2 M2 => Q r r2 M2) := by
      intro M1 r f hf ht'
      have hB1 := QF_BK hB f
      refine r8_rdr_t g' (i_t' (r8_leaf_t hB1.2.2.1 g2' (i_t ?_)))
      refine s8_noOrder b2 fun M2 c2 f2 => ?_
      have hB2 := QF_BK hB1 (GF8_QF f2)
      refine s8_power2 hB2 (by omega) fun M3 c3 d3 => ?_
      have hB3 := QF_BK hB2 (fr_QF c3)
      have f3 : QF M M3 := QF_trans f (QF_trans (GF8_QF f2) (fr_QF c3))
      refine loop_0 (fun n i (s : Int32 × Mem) => wX8_order_32 (lN j) (nI z) (fun r2 M2 => Q r r2 M2) n s.1 (nI i) s.2) (fun i s => s.1 = b01 (sq (plc N Rr K A j) ta i).2 ∧ G8 s.2 N (sq (plc N Rr K A j) ta i).1 ∧ GF8 M3 s.2) (min nt Rr) (1, M3) ⟨rfl, fr_G8 c2 c3, GF8_refl _⟩ ?_ ?_
      · intro n s ⟨p1, p2, p3⟩
        have hB4 := QF_BK hB3 (GF8_QF p3)
        unfold wX8_order_32
        refine s8_lesser hB4 (b_le (by omega) (by omega) (fun _ => ?_) (fun q => by omega))
        rw [p1]
        cases hb : (sq (plc N Rr K A j) ta (min nt Rr)).2
        · rw [b01_f]
          refine i_f ?_
          rw [hf hb]
          exact h _ _ (QF_INV hI' (QF_trans f3 (GF8_QF p3)))
        · rw [b01_t]
          refine i_t ?_
          refine s8_fill hB4.2.2.1 okE p2 (show z < N by omega) fun M5 w f5 c5 => ?_
          rw [FV_uniq (ht' hb) c5]
          exact h _ _ (QF_INV hI' (QF_trans f3 (QF_trans (GF8_QF p3) (GF8_QF f5))))
      · intro n i s hi ⟨p1, p2, p3⟩ hk
        have hB4 := QF_BK hB3 (GF8_QF p3)
        unfold wX8_order_32
        refine s8_lesser hB4 (b_le (by omega) (by omega) (fun q => by omega) (fun _ => ?_))
        refine s8_place hB4.2.2.2.2.2.2 (fun p hp => by rw [p3.1 100 (by omega) (by omega) (by omega)]; exact d3 p hp) b1 b2 b4 (by omega) ⟨vi (show i < 40 by omega), ?_⟩
        rw [nI_clamp (show i < 2 ^ 31 by omega), (hB4.2.2.2.1.2.2.2 i (by omega)).2.1]
        refine s8_know b2 (inR i hi).1 (inR i hi).2 (ok i (by omega)) p2 fun M5 c5 f5 => ?_
        rw [p1]
        have fin : ∀ b : Bool, b = (sq (plc N Rr K A j) ta (i + 1)).2 → wX8_order_71 (lN j) (nI z) (wX8_order_32 (lN j) (nI z) (fun r2 M2 => Q r r2 M2) n) (fun r2 M2 => Q r r2 M2) (nI i) (b01 b) M5 := fun b eb => by
          unfold wX8_order_71
          rw [nI_1]
          exact hk (b01 b, M5) ⟨by rw [eb], c5, GF8_trans p3 f5⟩
        have eN : (sq (plc N Rr K A j) ta (i + 1)).2 = ((sq (plc N Rr K A j) ta i).2 && bok (plc N Rr K A j i) (ta i) (sq (plc N Rr K A j) ta i).1) := rfl
        cases hb : bok (plc N Rr K A j i) (ta i) (sq (plc N Rr K A j) ta i).1
        · rw [b01_f]
          exact i_f' (fin false (by rw [eN, hb, Bool.and_false]))
        · rw [b01_t]
          cases hc : (sq (plc N Rr K A j) ta i).2
          · rw [b01_f]
            exact i_t' (i_f' (fin false (by rw [eN, hc, Bool.false_and])))
          · rw [b01_t]
            exact i_t' (i_t' (fin true (by rw [eN, hb, hc]; rfl)))
    unfold wX0_holds
    rw [s1.2.2.2]
    refine ⟨b01_c _, ?_⟩
    cases hb : (sq (plc N Rr K A j) ta (min nt Rr)).2
    · rw [b01_f]
      exact i_f (href m (-4) f1 (fun _ => rfl) (fun q => by rw [hb] at q; cases q))
    · rw [b01_t]
      refine i_t (s7_fillUp b2 okE s1 fun M1 f2 c2 => s4_at (r := 53) (show z < 40 by omega) ?_)
      exact href M1 _ (QF_trans f1 f2) (fun q => by rw [hb] at q; cases q) (fun _ => c2 z (by omega))
  · intro n i m hi ⟨s1, f1⟩ hk
    have hBm := QF_BK hB f1
    obtain ⟨-, e2', -, k2', -⟩ := BK_t hBm
    unfold wX7_order_34
    refine ⟨k2', ?_⟩
    rw [e2']
    refine s7_told hBm (b_le (by omega) (by omega) (fun q => by omega) (fun _ => ?_))
    refine s3_place hBm.2.2.2.2.2.1 b1 b2 b4 hj (by omega) ⟨k2', ?_⟩
    rw [e2']
    refine s7_tale hBm (by omega) ?_
    refine s7_bind b2 (inR i hi).1 (inR i hi).2 (ok i (by omega)) s1 fun M1 c1 f2 => ?_
    rw [nI_1]
    exact hk _ ⟨c1, QF_trans f1 f2⟩
/-- the seen leaves -/
def SNx (M : Mem) (N Rr K A sc : Nat) (P V : Nat → Nat) : Prop := M 0 9 = nI sc ∧ M 79 15 = nI sc ∧ sc ≤ 12 ∧ ∀ k, k < sc → P k < N ∧ V k < N ∧ M 58 k = nI (P k) ∧ M 60 k = nI (V k) ∧ M 95 k = nI (V k) ∧ ∃ j i, j ≤ 1000000000000 ∧ i < Rr ∧ rdL M 93 k = lN j ∧ M 94 k = nI i ∧ P k = plc N Rr K A j i
theorem SN_x {M : Mem} {N Rr K A : Nat} (h2 : 2 ≤ N) (h : SN M N Rr K A) : ∃ sc P V, SNx M N Rr K A sc P V := by
  obtain ⟨sc, jj, ii, vv, s1, s2, s3, s4⟩ := h
  refine ⟨sc, fun k => plc N Rr K A (jj k) (ii k), vv, s1, s2, s3, fun k hk => ?_⟩
  obtain ⟨c1, c2, c3, c4, c5, c6, c7, c8⟩ := s4 k hk
  exact ⟨plc_lt h2, c6, c8, c7, c5, jj k, ii k, c2, c4, c1, c3, rfl⟩
theorem SNx_QF {M M1 : Mem} {N Rr K A sc : Nat} {P V : Nat → Nat} (h : SNx M N Rr K A sc P V) (q : QF M M1) : SNx M1 N Rr K A sc P V := by
  have e := q.1
  unfold SNx rdL
  rw [e 0 (by omega) (by omega) (by omega) (by omega) (by omega), q.2 15 (by omega), e 58 (by omega) (by omega) (by omega) (by omega) (by omega), e 60 (by omega) (by omega) (by omega) (by omega) (by omega), e 93 (by omega) (by omega) (by omega) (by omega) (by omega), e 94 (by omega) (by omega) (by omega) (by omega) (by omega), e 95 (by omega) (by omega) (by omega) (by omega) (by omega)]
  exact h
theorem s7_guess {M : Mem} {t N Rr K A nt sc : Nat} {ta F P V : Nat → Nat} {Q : Mem → Prop} (hB : BK M t N Rr K A nt ta F) (hS : SNx M N Rr K A sc P V) (h : ∀ M1, G7 M1 N (sq P V sc).1 (sq P V sc).2 → QF M M1 → Q M1) : wX7_guessFromSeen M Q := by
  obtain ⟨ht, e2, e1, k2, k1⟩ := BK_t hB
  obtain ⟨b1, b2, b3, b4, -⟩ := TL_N hB.2.1
  have s3 := hS.2.2.1
  have ok : ∀ i, i ≤ sc → GOK N (sq P V i).1 := fun i hi => sq_ok b2 i fun k hk => ⟨(hS.2.2.2 k (by omega)).1, (hS.2.2.2 k (by omega)).2.1⟩
  refine ⟨k2, ?_⟩
  rw [e2, hB.2.1.1]
  refine s7_begin b2 fun M0 s0 f0 => ?_
  refine loop_0 (fun n i m => wX7_guessFromSeen_16 Q n (nI i) m) (fun i m => G7 m N (sq P V i).1 (sq P V i).2 ∧ QF M m) sc M0 ⟨s0, f0⟩ ?_ ?_
  · intro n m ⟨s1, f1⟩
    unfold wX7_guessFromSeen_16
    rw [(SNx_QF hS f1).1]
    exact b_le (by omega) (by omega) (fun _ => h m s1 f1) (fun q => by omega)
  · intro n i m hi ⟨s1, f1⟩ hk
    have hSm := SNx_QF hS f1
    obtain ⟨c1, c2, c3, c4, -⟩ := hSm.2.2.2 i hi
    unfold wX7_guessFromSeen_16
    rw [hSm.1]
    refine b_le (by omega) (by omega) (fun q => by omega) (fun _ => ?_)
    refine s4_at (r := 57) (show i < 12 by omega) (s4_at (r := 59) (show i < 12 by omega) ?_)
    rw [show (57 + 1 : Nat) = 58 from rfl, show (59 + 1 : Nat) = 60 from rfl, c3, c4]
    refine s7_bind b2 c1 c2 (ok i (by omega)) s1 fun M1 d1 f2 => ?_
    rw [nI_1]
    exact hk _ ⟨d1, QF_trans f1 f2⟩
theorem s8_isSo {M : Mem} {t N Rr K A nt sc : Nat} {ta F P V : Nat → Nat} {Q : Int32 → Mem → Prop} (hB : BK M t N Rr K A nt ta F) (hS : SNx M N Rr K A sc P V) (h : ∀ M1, G8 M1 N (sq P V sc).1 → QF M M1 → Q (b01 (sq P V sc).2) M1) : wX8_isSo M Q := by
  obtain ⟨b1, b2, b3, b4, -⟩ := TL_N hB.2.1
  have s3 := hS.2.2.1
  have ok : ∀ i, i ≤ sc → GOK N (sq P V i).1 := fun i hi => sq_ok b2 i fun k hk => ⟨(hS.2.2.2 k (by omega)).1, (hS.2.2.2 k (by omega)).2.1⟩
  refine s8_noOrder b2 fun M0 c0 f0 => ?_
  refine loop_0 (fun n i (s : Int32 × Mem) => wX8_isSo_8 Q n s.1 (nI i) s.2) (fun i s => s.1 = b01 (sq P V i).2 ∧ G8 s.2 N (sq P V i).1 ∧ QF M s.2) sc (1, M0) ⟨rfl, c0, GF8_QF f0⟩ ?_ ?_
  · intro n s ⟨p1, p2, p3⟩
    unfold wX8_isSo_8
    rw [(SNx_QF hS p3).2.1, p1]
    exact b_le (by omega) (by omega) (fun _ => ⟨b01_c _, h _ p2 p3⟩) (fun q => by omega)
  · intro n i s hi ⟨p1, p2, p3⟩ hk
    have hSm := SNx_QF hS p3
    have hBm := QF_BK hB p3
    obtain ⟨c1, c2, c3, c4, c5, jj, ii, c6, c7, c8, c9, c10⟩ := hSm.2.2.2 i hi
    unfold wX8_isSo_8
    rw [hSm.2.1]
    refine b_le (by omega) (by omega) (fun q => by omega) (fun _ => ⟨vi (show i < 12 by omega), ?_⟩)
    rw [nI_clamp (show i < 2 ^ 31 by omega), c8]
    refine s8_power2 hBm (by omega) fun M3 f3 d3 => ⟨vi (show i < 12 by omega), ?_⟩
    have hB3 := QF_BK hBm (fr_QF f3)
    have hS3 := SNx_QF hSm (fr_QF f3)
    rw [f3 94 (by omega) (by omega) (by omega), c9]
    refine s8_place hB3.2.2.2.2.2.2 d3 b1 b2 b4 c7 ⟨vi (show i < 12 by omega), ?_⟩
    rw [f3 95 (by omega) (by omega) (by omega), c5, ← c10]
    refine s8_know b2 c1 c2 (ok i (by omega)) (fr_G8 p2 f3) fun M5 c5 f5 => ?_
    rw [p1]
    have fin : ∀ b : Bool, b = (sq P V (i + 1)).2 → wX8_isSo_58 (wX8_isSo_8 Q n) Q (nI i) (b01 b) M5 := fun b eb => by
      unfold wX8_isSo_58
      rw [nI_1]
      exact hk (b01 b, M5) ⟨by rw [eb], c5, QF_trans p3 (QF_trans (fr_QF f3) (GF8_QF f5))⟩
    have eN : (sq P V (i + 1)).2 = ((sq P V i).2 && bok (P i) (V i) (sq P V i).1) := rfl
    cases hb : bok (P i) (V i) (sq P V i).1
    · rw [b01_f]
      exact i_f' (fin false (by rw [eN, hb, Bool.and_false]))
    · rw [b01_t]
      cases hc : (sq P V i).2
      · rw [b01_f]
        exact i_t' (i_f' (fin false (by rw [eN, hc, Bool.false_and])))
      · rw [b01_t]
        exact i_t' (i_t' (fin true (by rw [eN, hb, hc]; rfl)))
theorem k_so {M : Mem} {Q : Int32 → Int32 → Mem → Prop} (hI : INV M) (h : GQ Q) : wX7_so M (fun r1 M1 => wX8_so M1 (fun r2 M2 => Q r1 r2 M2)) := by
  have hI' := hI
  obtain ⟨t, N, Rr, K, A, nt, ta, F, hB, hT, hP, hK, hS⟩ := hI
  obtain ⟨b1, b2, b3, b4, -⟩ := TL_N hB.2.1
  obtain ⟨sc, P, V, hSx⟩ := SN_x b1 hS
  refine s7_guess hB hSx fun M1 s1 f1 => ?_
  unfold wX0_holds
  rw [s1.2.2.2]
  refine ⟨b01_c _, ?_⟩
  have hB1 := QF_BK hB f1
  have hS1 := SNx_QF hSx f1
  have hr : ∀ r, r = b01 (sq P V sc).2 → wX8_so M1 (fun r2 M2 => Q r r2 M2) := fun r e => by
    refine s8_isSo hB1 hS1 fun M2 s2 f2 => ?_
    have hh := h r M2 (QF_INV hI' (QF_trans f1 f2))
    cases hb : (sq P V sc).2
    · rw [hb] at e
      subst e
      exact i_f' hh
    · rw [hb] at e
      subst e
      exact i_t' hh
  cases hb : (sq P V sc).2
  · rw [b01_f]
    exact i_f' (hr 0 (by rw [hb]; rfl))
  · rw [b01_t]
    exact i_t' (hr 1 (by rw [hb]; rfl))
theorem k_sure {x : Int32} {M : Mem} {Q : Int32 → Int32 → Mem → Prop} (hI : INV M) (h : GQ Q) : wX7_sure x M (fun r1 M1 => wX8_sure x M1 (fun r2 M2 => Q r1 r2 M2)) := by
  have hI' := hI
  obtain ⟨t, N, Rr, K, A, nt, ta, F, hB, hT, hP, hK, hS⟩ := hI
  obtain ⟨b1, b2, b3, b4, -⟩ := TL_N hB.2.1
  obtain ⟨sc, P, V, hSx⟩ := SN_x b1 hS
  have hR := hB.2.2.1
  refine s7_isBelow hB (fun g => i_t ?_) (fun g => i_f (r8_leaf_f hR g (i_f (h _ _ hI'))))
  have g' := g
  obtain ⟨z, z0, z1, e⟩ := g
  subst e
  have okE : GOK N (sq P V sc).1 := sq_ok b2 sc fun k hk => ⟨(hSx.2.2.2 k hk).1, (hSx.2.2.2 k hk).2.1⟩
  have hrN := rk_le (sq P V sc).1.1 N
  refine s7_guess hB hSx fun M1 s1 f1 => ?_
  have hr : ∀ M1 r, QF M M1 → ((sq P V sc).2 = false → r = -4) → ((sq P V sc).2 = true → rk (sq P V sc).1.1 N = 1 → FV N (sq P V sc).1 z r) → ((sq P V sc).2 = true → rk (sq P V sc).1.1 N ≠ 1 → r = (sq P V sc).1.1 z) → wX8_sure (nI z) M1 (fun r2 M2 => Q r r2 M2) := by
    intro M1 r f1 hf h1 hn
    have hB1 := QF_BK hB f1
    refine r8_leaf_t hB1.2.2.1 g' (i_t ?_)
    refine s8_isSo hB1 (SNx_QF hSx f1) fun M2 s2 f2 => ?_
    have hB2 := QF_BK hB1 f2
    have hh : ∀ r', r = r' → Q r r' M2 := fun r' er => by rw [← er]; exact h _ _ (QF_INV hI' (QF_trans f1 f2))
    cases hb : (sq P V sc).2
    · rw [b01_f]
      exact i_f (hh _ (hf hb))
    · rw [b01_t]
      have ez : M2 103 (nI z).toNatClampNeg = (sq P V sc).1.1 z := by rw [nI_clamp (by omega)]; exact (s2.1 z (by omega)).1
      have vz' := vi (a := 103) (show z < 40 by omega)
      refine i_t ⟨vz', ?_⟩
      unfold wX8_sure_44
      rw [ez]
      refine ⟨fun q => ⟨vz', hh _ ?_⟩, fun q => ⟨vz (by decide), ?_⟩⟩
      · have c : (sq P V sc).1.1 z ≠ -4 := fun c => by rw [c] at q; exact m4_nle q
        by_cases c1 : rk (sq P V sc).1.1 N = 1
        · rcases h1 hb c1 with ⟨_, e⟩ | ⟨e, -⟩
          · exact e
          · exact absurd e c
        · exact hn hb c1
      · have c : (sq P V sc).1.1 z = -4 := by
          rcases okE.1 z (by omega) with c | ⟨w, hw, c⟩
          · exact c
          · rw [c] at q
            exact absurd (nI_pos' (by omega)) q
        have hpos := rk_lt (sq P V sc).1.1 (show z < N by omega) c
        rw [cl0, hB2.2.2.1.1, nI_sub1 (by omega), s2.2]
        refine b_le (by omega) (by omega) (fun q1 => ?_) (fun q1 => ⟨vz', hh _ (hn hb (by omega))⟩)
        have c1 : rk (sq P V sc).1.1 N = 1 := by omega
        obtain ⟨l0, y1, y2, y3⟩ := rk_ex (h := (sq P V sc).1.2) (r := 0) N (by rw [← okE.2.2]; omega)
        refine pk_loop (fun n i m => wX8_sure_53 (nI z) (fun r2 M2 => Q r r2 M2) n (nI i) m) (fun i m => m = M2) l0 0 M2 (Nat.zero_le _) rfl ?_ ?_
        · intro n m em
          subst em
          unfold wX8_sure_53
          rw [nI_clamp (show l0 < 2 ^ 31 by omega), (s2.1 l0 y1).2, y2]
          refine ⟨vi (show l0 < 40 by omega), fun _ => hh _ ?_, fun q => absurd m4_lt q⟩
          refine FV_uniq (h1 hb c1) (Or.inr ⟨c, l0, y1, y2, ?_, rfl⟩)
          omega
        · intro n i m hi em hk
          subst em
          unfold wX8_sure_53
          rw [nI_clamp (show i < 2 ^ 31 by omega), (s2.1 i (by omega)).2]
          have c2 : (sq P V sc).1.2 i ≠ -4 := fun c2 => by
            have := rk_lt (sq P V sc).1.2 hi c2
            omega
          refine ⟨vi (show i < 40 by omega), fun q => ?_, fun _ => ?_⟩
          · rcases okE.2.1 i (by omega) with c3 | ⟨w, hw, c3⟩
            · exact absurd c3 c2
            · rw [c3] at q
              exact absurd q (nI_pos (by omega))
          · rw [nI_1]
            exact hk _ rfl
  unfold wX0_holds
  rw [s1.2.2.2]
  refine ⟨b01_c _, ?_⟩
  cases hb : (sq P V sc).2
  · rw [b01_f]
    exact i_f (hr M1 (-4) f1 (fun _ => rfl) (fun q => by rw [hb] at q; cases q) (fun q => by rw [hb] at q; cases q))
  · rw [b01_t]
    refine i_t ?_
    unfold wX0_isAllButOne
    rw [s1.1, nI_sub1 (by omega), s1.2.2.1]
    refine b_ne (by omega) (by omega) (fun q => ⟨Or.inl rfl, i_f' (s4_at (r := 53) (show z < 40 by omega) ?_)⟩) (fun q => ⟨Or.inr rfl, i_t' ?_⟩)
    · refine hr M1 _ f1 (fun q => by rw [hb] at q; cases q) (fun _ q2 => by omega) (fun _ _ => (s1.2.1 z (by omega)).1)
    · refine s7_fillUp b2 okE s1 fun M2 f2 c2 => s4_at (r := 53) (show z < 40 by omega) ?_
      exact hr M2 _ (QF_trans f1 f2) (fun q => by rw [hb] at q; cases q) (fun _ _ => c2 z (by omega)) (fun _ q2 => by omega)
