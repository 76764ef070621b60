/-! PURE 27: a book laid anew -/
def fo (sf st : Nat → Nat) : Nat → Nat → Nat
  | 0, p => p
  | k + 1, p => fo sf st k (swS (sf k) (st k) p)
theorem fo_pm {N : Nat} {sf st : Nat → Nat} : ∀ k, (∀ i, i < k → sf i < N ∧ st i < N) → Pm N (fo sf st k)
  | 0, _ => ⟨fun _ h => h, fun _ _ _ _ h => h⟩
  | k + 1, h => by
    have ih := fo_pm k fun i hi => h i (by omega)
    have sw := swS_pm (h k (by omega)).1 (h k (by omega)).2
    exact ⟨fun p hp => ih.1 _ (sw.1 p hp), fun p q hp hq e => sw.2 p q hp hq (ih.2 _ _ (sw.1 p hp) (sw.1 q hq) e)⟩
def SW7 (M : Mem) (t N ns : Nat) (sf st : Nat → Nat) : Prop := M t 6 = nI ns ∧ ns ≤ 20 ∧ ∀ k, k < ns → M (t + 2) k = nI (sf k) ∧ M (t + 4) k = nI (st k) ∧ sf k < N ∧ st k < N
def SW8 (M : Mem) (N ns : Nat) (sf st : Nat → Nat) : Prop := M 85 0 = nI ns ∧ ns ≤ 20 ∧ ∀ k, k < ns → M 86 (2 * k) = nI (sf k) ∧ M 86 (2 * k + 1) = nI (st k) ∧ sf k < N ∧ st k < N
theorem s7_startAnew {M : Mem} {t N Rr K A ns : Nat} {sf st : Nat → Nat} {Q : Mem → Prop} (ht : t = 4 ∨ t = 13) (hk : kd (rid (M 0 2)) = 6) (hr : rid (M 0 2) = t) (hT : TL M t N Rr K A) (hS : SW7 M t N ns sf st) (h : ∀ M1 : Mem, M1 22 2 = nI N → (∀ p, p < N → M1 24 p = nI (fo sf st ns p)) → RDS M1 N Rr K A → M1 62 2 = nI N → (∀ p, p < N → M1 64 p = nI (fo sf st ns p)) → M1 61 1 = 0 → M1 61 2 = 0 → M1 0 9 = 0 → M1 0 13 = 0 → (∀ k, k ≠ 9 → k ≠ 13 → M1 0 k = M 0 k) → (∀ x, x ≠ 0 → x ≠ 22 → x ≠ 24 → ¬ (32 ≤ x ∧ x ≤ 51) → x ≠ 61 → x ≠ 62 → x ≠ 64 → M1 x = M x) → Q M1) : wX7_startAnew M Q := by
  obtain ⟨b1, b2, b3, b4, -⟩ := TL_N hT
  obtain ⟨s1, s2, s3⟩ := hS
  refine ⟨hk, ?_⟩
  rw [hr]
  unfold wX6_orderFirst
  rw [hT.1]
  refine s1_number (o := 22) rfl b2 ?_
  generalize hM0 : sr (mu M 22 2 (nI N)) (22 + 2) (fun p => if p < N then nI p else M (22 + 2) p) = M0
  have z24 : ∀ p, p < N → M0 24 p = nI p := fun p hp => by rw [← hM0, show (22 + 2 : Nat) = 24 from rfl, sr_self]; exact if_pos hp
  have z22 : M0 22 2 = nI N := by rw [← hM0, sr_ne (by decide), mu_at]
  have zo : ∀ x, x ≠ 22 → x ≠ 24 → M0 x = M x := fun x a b => by rw [← hM0, sr_ne (by omega), mu_ne a]
  refine loop_0 (fun n i m => wX6_orderFirst_10 t 22 (fun M2 => (kd (rid (M2 0 2)) = 6 ∧ (wX3_follow 32 (rid (M2 0 2)) M2 (fun M4 => (wX2_startWith 61 22 M4 (fun M5 => Q (mu (mu M5 0 9 (0 : Int32)) 0 13 (0 : Int32)))))))) n (nI i) m) (fun i m => (∀ p, p < N → m 24 p = nI (fo sf st i p)) ∧ m 22 2 = nI N ∧ ∀ x, x ≠ 22 → x ≠ 24 → m x = M x) ns M0 ⟨z24, z22, zo⟩ ?_ ?_
  · intro n m ⟨p1, p2, p3⟩
    unfold wX6_orderFirst_10
    rw [p3 t (by omega) (by omega), s1]
    refine b_le (by omega) (by omega) (fun _ => ?_) (fun q => by omega)
    rw [p3 0 (by omega) (by omega)]
    refine ⟨hk, ?_⟩
    rw [hr]
    refine s3_follow ht (TL_congr hT (p3 t (by omega) (by omega))) fun M4 r1 r2 => ?_
    refine s1_copyFrom (o := 62) (o' := 22) rfl rfl (by omega) ?_ (by omega)
    rw [show (62 + 2 : Nat) = 64 from rfl, show (22 + 2 : Nat) = 24 from rfl, r2 22 (by omega), p2]
    generalize hM5 : sr (mu M4 62 2 (nI N)) 64 (fun p => if p < 40 then M4 24 p else M4 64 p) = M5
    have q64 : ∀ p, p < N → M5 64 p = nI (fo sf st ns p) := fun p hp => by
      rw [← hM5, sr_self]
      show (if p < 40 then M4 24 p else M4 64 p) = _
      rw [if_pos (by omega), r2 24 (by omega)]
      exact p1 p hp
    have q62 : M5 62 2 = nI N := by rw [← hM5, sr_ne (by decide), mu_at]
    have qo : ∀ x, x ≠ 62 → x ≠ 64 → M5 x = M4 x := fun x a b => by rw [← hM5, sr_ne b, mu_ne a]
    refine h _ ?_ (fun p hp => ?_) ?_ ?_ (fun p hp => ?_) ?_ ?_ ?_ ?_ (fun k k1 k2 => ?_) (fun x x0 x1 x2 x3 x4 x5 x6 => ?_)
    · rw [mu_no (by omega), mu_no (by omega), mu_no (by omega), mu_no (by omega), qo 22 (by omega) (by omega), r2 22 (by omega)]; exact p2
    · rw [mu_no (by omega), mu_no (by omega), mu_no (by omega), mu_no (by omega), qo 24 (by omega) (by omega), r2 24 (by omega)]; exact p1 p hp
    · exact RDS_congr r1 fun x hx => by rw [mu_ne (by omega), mu_ne (by omega), mu_ne (by omega), mu_ne (by omega), qo x (by omega) (by omega)]
    · rw [mu_no (by omega), mu_no (by omega), mu_no (by omega), mu_no (by omega)]; exact q62
    · rw [mu_no (by omega), mu_no (by omega), mu_no (by omega), mu_no (by omega)]; exact q64 p hp
    · rw [mu_no (by omega), mu_no (by omega), mu_no (by omega), mu_at]
    · rw [mu_no (by omega), mu_no (by omega), mu_at]
    · rw [mu_no (by omega), mu_at]
    · rw [mu_at]
    · rw [mu_no (by omega), mu_no (by omega), mu_no (by omega), mu_no (by omega), qo 0 (by omega) (by omega), r2 0 (by omega), p3 0 (by omega) (by omega)]
    · rw [mu_ne (by omega), mu_ne (by omega), mu_ne (by omega), mu_ne (by omega), qo x (by omega) (by omega), r2 x (by omega), p3 x (by omega) (by omega)]
  · intro n i m hi ⟨p1, p2, p3⟩ hk'
    obtain ⟨u1, u2, u3, u4⟩ := s3 i hi
    have lt : ∀ d, d = 2 ∨ d = 4 → ln (t + d) = 20 := fun d hd => by rcases ht with e | e <;> rcases hd with f | f <;> subst e <;> subst f <;> rfl
    unfold wX6_orderFirst_10
    rw [p3 t (by omega) (by omega), s1]
    refine b_le (by omega) (by omega) (fun q => by omega) (fun _ => ?_)
    refine s4_at (r := t + 1) (by rw [show t + 1 + 1 = t + 2 from rfl, lt 2 (by omega)]; omega) (s4_at (r := t + 3) (by rw [show t + 3 + 1 = t + 4 from rfl, lt 4 (by omega)]; omega) ?_)
    rw [show t + 1 + 1 = t + 2 from rfl, show t + 3 + 1 = t + 4 from rfl, p3 (t + 2) (by omega) (by omega), p3 (t + 4) (by omega) (by omega), u1, u2]
    refine s1_swap (o := 22) rfl (by omega) (by omega) ?_
    rw [nI_1]
    refine hk' _ ⟨fun p hp => ?_, ?_, fun x a b => ?_⟩
    · rw [show (22 + 2 : Nat) = 24 from rfl, sr_self]
      exact upd_sw p1 u3 u4 hp
    · rw [sr_ne (by decide)]; exact p2
    · rw [sr_ne b]; exact p3 x a b
theorem s8_layBook {M : Mem} {N Rr K A ns : Nat} {sf st : Nat → Nat} {Q : Mem → Prop} (hT : TLR M N Rr K A) (hS : SW8 M N ns sf st) (h : ∀ M1 : Mem, (∀ p, p < N → M1 89 p = nI (fo sf st ns p)) → (∀ p, p < N → M1 90 p = nI (fo sf st ns p)) → M1 91 0 = 0 → M1 92 0 = 0 → M1 79 14 = 0 → M1 79 15 = 0 → RFR M1 N Rr K A → (∀ k, k ≠ 14 → k ≠ 15 → M1 79 k = M 79 k) → (∀ x, x ≠ 79 → x ≠ 89 → x ≠ 90 → x ≠ 91 → x ≠ 92 → x ≠ 97 → x ≠ 98 → x ≠ 99 → M1 x = M x) → Q M1) : wX8_layBook M Q := by
  have hb := hT.2.2.2.2
  obtain ⟨s1, s2, s3⟩ := hS
  refine loop_0 (fun n i m => wX8_layBook_2 Q n (nI i) m) (fun i m => (∀ p, p < i → m 89 p = nI p) ∧ ∀ x, x ≠ 89 → m x = M x) 40 M ⟨fun p hp => absurd hp (Nat.not_lt_zero _), fun _ _ => rfl⟩ ?_ ?_
  · intro n m ⟨c1, c2⟩
    unfold wX8_layBook_2
    refine b_le (a := 40) (b := 40) (by omega) (by omega) (fun _ => ?_) (fun q => by omega)
    refine loop_0 (fun n i m => wX8_layBook_23 Q n (nI i) m) (fun i m => (∀ p, p < N → m 89 p = nI (fo sf st i p)) ∧ ∀ x, x ≠ 89 → m x = M x) ns m ⟨fun p hp => c1 p (by omega), c2⟩ ?_ ?_
    · intro n m2 ⟨d1, d2⟩
      unfold wX8_layBook_23
      rw [cl0, d2 85 (by omega), s1]
      refine ⟨vz (by decide), b_le (by omega) (by omega) (fun _ => ?_) (fun q => by omega)⟩
      refine loop_0 (fun n i m => wX8_layBook_99 Q n (nI i) m) (fun i m => (∀ p, p < i → m 90 p = m2 89 p) ∧ ∀ x, x ≠ 90 → m x = m2 x) 40 m2 ⟨fun p hp => absurd hp (Nat.not_lt_zero _), fun _ _ => rfl⟩ ?_ ?_
      · intro n m3 ⟨e1, e2⟩
        unfold wX8_layBook_99
        rw [cl0]
        refine b_le (a := 40) (b := 40) (by omega) (by omega) (fun _ => ⟨vz (by decide), vz (by decide), ?_⟩) (fun q => by omega)
        generalize hm4 : mu (mu (mu (mu m3 91 0 (0 : Int32)) 92 0 (0 : Int32)) 79 14 (0 : Int32)) 79 15 (0 : Int32) = m4
        have o4 : ∀ x, x ≠ 79 → x ≠ 91 → x ≠ 92 → m4 x = m3 x := fun x a b c => by rw [← hm4, mu_ne a, mu_ne a, mu_ne c, mu_ne b]
        have oM : ∀ x, x ≠ 79 → x ≠ 89 → x ≠ 90 → x ≠ 91 → x ≠ 92 → m4 x = M x := fun x a b c d e => by rw [o4 x a d e, e2 x c, d2 x b]
        refine s8_layOne (TLR_congr hT (oM 81 (by omega) (by omega) (by omega) (by omega) (by omega)) (oM 82 (by omega) (by omega) (by omega) (by omega) (by omega)) (oM 83 (by omega) (by omega) (by omega) (by omega) (by omega)) (oM 84 (by omega) (by omega) (by omega) (by omega) (by omega))) fun m5 r1 r2 => ?_
        have o5 : ∀ x, x ≠ 97 → x ≠ 98 → x ≠ 99 → m5 x = m4 x := r2
        refine h _ (fun p hp => ?_) (fun p hp => ?_) ?_ ?_ ?_ ?_ r1 (fun k k1 k2 => ?_) (fun x x0 x1 x2 x3 x4 x5 x6 x7 => ?_)
        · rw [o5 89 (by omega) (by omega) (by omega), o4 89 (by omega) (by omega) (by omega), e2 89 (by omega)]; exact d1 p hp
        · rw [o5 90 (by omega) (by omega) (by omega), o4 90 (by omega) (by omega) (by omega), e1 p (by omega)]; exact d1 p hp
        · rw [o5 91 (by omega) (by omega) (by omega), ← hm4, mu_no (by omega), mu_no (by omega), mu_no (by omega), mu_at]
        · rw [o5 92 (by omega) (by omega) (by omega), ← hm4, mu_no (by omega), mu_no (by omega), mu_at]
        · rw [o5 79 (by omega) (by omega) (by omega), ← hm4, mu_no (by omega), mu_at]
        · rw [o5 79 (by omega) (by omega) (by omega), ← hm4, mu_at]
        · rw [o5 79 (by omega) (by omega) (by omega), ← hm4, mu_no (by omega), mu_no (by omega), mu_no (by omega), mu_no (by omega), e2 79 (by omega), d2 79 (by omega)]
        · rw [o5 x x5 x6 x7, oM x x0 x1 x2 x3 x4]
      · intro n i m3 hi ⟨e1, e2⟩ hk
        unfold wX8_layBook_99
        rw [cl0]
        refine b_le (a := 40) (b := i) (by omega) (by omega) (fun q => by omega) (fun _ => ⟨vi (show i < 40 by omega), vi (show i < 120 by omega), ?_⟩)
        rw [nI_1, nI_clamp (by omega), e2 89 (by omega)]
        refine hk _ ⟨fun p hp => ?_, fun x hx => by rw [mu_ne hx]; exact e2 x hx⟩
        by_cases c : p = i
        · rw [c, mu_at]
        · rw [mu_no (by omega)]; exact e1 p (by omega)
    · intro n i m2 hi ⟨d1, d2⟩ hk
      obtain ⟨u1, u2, u3, u4⟩ := s3 i hi
      have e86 : m2 86 = M 86 := d2 86 (by omega)
      unfold wX8_layBook_23
      rw [cl0, d2 85 (by omega), s1]
      refine ⟨vz (by decide), b_le (by omega) (by omega) (fun q => by omega) (fun _ => ?_)⟩
      rw [show (2 : Int32) = nI 2 from rfl, pk_mul, nI_1, nI_clamp (show 2 * i < 2 ^ 31 by omega), nI_clamp (show 2 * i + 1 < 2 ^ 31 by omega)]
      have w1 : m2 86 (2 * i) = nI (sf i) := by rw [e86]; exact u1
      have w2 : m2 86 (2 * i + 1) = nI (st i) := by rw [e86]; exact u2
      rw [w1, w2, nI_clamp (show sf i < 2 ^ 31 by omega), nI_clamp (show st i < 2 ^ 31 by omega)]
      have w3 : mu m2 89 (sf i) (m2 89 (st i)) 86 (2 * i + 1) = nI (st i) := by rw [mu_no (by omega)]; exact w2
      rw [w3, nI_clamp (show st i < 2 ^ 31 by omega)]
      refine ⟨vi (show 2 * i < 80 by omega), vi (show sf i < 40 by omega), vi (show 2 * i < 80 by omega), vi (show 2 * i + 1 < 80 by omega), vi (show st i < 40 by omega), vi (show sf i < 40 by omega), vi (show 2 * i + 1 < 80 by omega), vi (show st i < 40 by omega), ?_⟩
      rw [nI_1, mu_mu90]
      refine hk _ ⟨fun p hp => ?_, fun x hx => by rw [sr_ne hx]; exact d2 x hx⟩
      rw [sr_self]
      exact upd_sw d1 u3 u4 hp
  · intro n i m hi ⟨c1, c2⟩ hk
    unfold wX8_layBook_2
    refine b_le (a := 40) (b := i) (by omega) (by omega) (fun q => by omega) (fun _ => ⟨vi (show i < 40 by omega), ?_⟩)
    rw [nI_1, nI_clamp (by omega)]
    refine hk _ ⟨fun p hp => ?_, fun x hx => by rw [mu_ne hx]; exact c2 x hx⟩
    by_cases e : p = i
    · rw [e, mu_at]
    · rw [mu_no (by omega)]; exact c1 p (by omega)
