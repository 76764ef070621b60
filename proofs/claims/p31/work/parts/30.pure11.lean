/-! PURE 11: change and drop -/
def swS (x y : Nat) (p : Nat) : Nat := if p = y then x else if p = x then y else p
theorem swS_pm {N x y : Nat} (hx : x < N) (hy : y < N) : Pm N (swS x y) := by
  refine ⟨fun p hp => ?_, fun p q hp hq e => ?_⟩
  · unfold swS
    split
    · exact hx
    · split <;> assumption
  · unfold swS at e
    split at e <;> split at e <;> (try split at e) <;> (try split at e) <;> omega
def swp (x y : Nat) (s : St) : St := (fun p => s.1 (swS x y p), s.2.1, s.2.2)
theorem swp_ok {N Rr x y : Nat} {s : St} (hx : x < N) (hy : y < N) (h : StOk N Rr s) : StOk N Rr (swp x y s) :=
  ⟨⟨fun p hp => h.1.1 _ ((swS_pm hx hy).1 p hp), fun p q hp hq e => (swS_pm hx hy).2 p q hp hq (h.1.2 _ _ ((swS_pm hx hy).1 p hp) ((swS_pm hx hy).1 q hq) e)⟩, h.2⟩
theorem upd_sw {g : Nat → Int32} {P : Nat → Nat} {N x y p : Nat} (hg : ∀ p, p < N → g p = nI (P p)) (hx : x < N) (hy : y < N) (hp : p < N) : upd (upd g x (g y)) y (g x) p = nI (P (swS x y p)) := by
  unfold swS
  by_cases h1 : p = y
  · subst h1
    rw [upd_at, if_pos rfl]
    exact hg x hx
  · rw [upd_ne h1, if_neg h1]
    by_cases h2 : p = x
    · subst h2
      rw [upd_at, if_pos rfl]
      exact hg y hy
    · rw [upd_ne h2, if_neg h2]
      exact hg p hp
theorem s7_swap {M : Mem} {N Rr x y : Nat} {Q : Mem → Prop} {s : St} (h40 : N ≤ 40) (hx : x < N) (hy : y < N) (h7 : St7 M N s) (hs : StOk N Rr s) (h : ∀ M1, St7 M1 N (swp x y s) → PF7 M M1 → Q M1) : wX1_swap 62 (nI x) (nI y) M Q := by
  obtain ⟨q1, q2, q3, q4⟩ := h7
  refine s1_swap (o := 62) rfl (by omega) (by omega) (h _ ⟨?_, fun p hp => ?_, ?_, ?_⟩ fun z a b c d => sr_ne c)
  · rw [sr_ne (by decide)]; exact q1
  · rw [show (62 + 2 : Nat) = 64 from rfl, sr_self]
    exact upd_sw q2 hx hy hp
  · rw [sr_ne (by decide)]; exact q3
  · rw [sr_ne (by decide)]; exact q4
theorem mu_mu90 (M : Mem) (a i j : Nat) (v w : Int32) : mu (mu M a i v) a j w = sr M a (upd (upd (M a) i v) j w) := by rw [mu_sr0 M a i v, mu_sr]
theorem r8_change {M : Mem} {N Rr K A x y : Nat} {Q : Int32 → Mem → Prop} {s : St} (hT : TLR M N Rr K A) (hx : x < N) (hy : y < N) (h8 : St8 M N s) (hs : StOk N Rr s) (h : ∀ M1, St8 M1 N (swp x y s) → PF8 M M1 → Q (nI ((swp x y s).1 x)) M1) : wX8_change (nI x) (nI y) M Q := by
  have hb := hT.2.2.2.2
  refine r8_leaf_t hT ⟨x, by omega, by omega, rfl⟩ (i_t' (r8_leaf_t hT ⟨y, by omega, by omega, rfl⟩ (i_t ?_)))
  refine ⟨vi (show x < 120 by omega), vi (show y < 120 by omega), vi (show x < 120 by omega), vi (show y < 120 by omega), vi (show x < 120 by omega), ?_⟩
  rw [nI_clamp (by omega), nI_clamp (by omega), mu_mu90]
  obtain ⟨q1, q2, q3⟩ := h8
  have z : ∀ p, p < N → sr M 90 (upd (upd (M 90) x (M 90 y)) y (M 90 x)) 90 p = nI ((swp x y s).1 p) := fun p hp => by
    rw [sr_self]
    exact upd_sw q1 hx hy hp
  rw [z x hx]
  refine h _ ⟨z, ?_, ?_⟩ ⟨fun w a b c d => sr_ne a, fun p hp => ?_, fun w hw => ⟨?_, ?_⟩⟩
  · rw [sr_ne (by decide)]; exact q2
  · rw [sr_ne (by decide)]; exact q3
  · rw [sr_self, upd_ne (by omega), upd_ne (by omega)]
  · rw [sr_ne (by decide)]
  · rw [sr_ne (by decide)]
theorem k_change {x y : Int32} {M : Mem} {Q : Int32 → Int32 → Mem → Prop} (hI : INV M) (h : GQ Q) : wX7_change x y M (fun r1 M1 => wX8_change x y M1 (fun r2 M2 => Q r1 r2 M2)) := by
  have hI' := hI
  obtain ⟨t, N, Rr, K, A, nt, ta, F, hB, ⟨tl, tx, hT⟩, hP, hK, hS⟩ := hI
  obtain ⟨b1, b2, b3, b4, -⟩ := TL_N hB.2.1
  have hR := hB.2.2.1
  refine s7_isBelow hB (fun g => i_t' ?_) (fun g => i_f' (r8_leaf_f hR g (i_f' (h _ _ hI'))))
  refine s7_isBelow hB (fun g2 => i_t ?_) (fun g2 => i_f (r8_leaf_t hR g (i_t' (r8_leaf_f hR g2 (i_f (h _ _ hI'))))))
  obtain ⟨P, b, d, p7, p8, pm, pb⟩ := PK_of hP
  have ok : StOk N Rr (P, b, d) := ⟨pm, pb⟩
  obtain ⟨k, k0, k1, e⟩ := g
  obtain ⟨l, l0, l1, e'⟩ := g2
  subst e
  subst e'
  refine s7_swap (s := (P, b, d)) b2 (by omega) (by omega) p7 ok fun M1 c1 f1 => ?_
  refine s1_leafAt (o := 62) rfl (by omega) ?_
  rw [show (62 + 2 : Nat) = 64 from rfl, c1.2.1 k (by omega)]
  refine r8_change (s := (P, b, d)) (TLR_7 hR f1) (by omega) (by omega) (PK8_7 p8 f1) ok fun M2 c2 f2 => ?_
  have ok2 := swp_ok (x := k) (y := l) (by omega) (by omega) ok
  exact h _ _ (INV_pk hB hT hK hS f1 f2 (PK_to (PK7_8 c1 f2) c2 ok2.1 ok2.2))
def dv (x : Nat) (v : Nat) : Nat := ((7919 * x + 6151 * v + 1) * (7919 * x + 6151 * v + 1)) % 65521 % (v + 1)
theorem dv_eq {x v : Nat} (hx : x ≤ 9999) (hv : v < 40) : ((((((((7919 : Int64) * (nI x).toInt64) + ((6151 : Int64) * (nI v).toInt64)) + (1 : Int64)) * ((((7919 : Int64) * (nI x).toInt64) + ((6151 : Int64) * (nI v).toInt64)) + (1 : Int64))) - ((((((7919 : Int64) * (nI x).toInt64) + ((6151 : Int64) * (nI v).toInt64)) + (1 : Int64)) * ((((7919 : Int64) * (nI x).toInt64) + ((6151 : Int64) * (nI v).toInt64)) + (1 : Int64))) / (65521 : Int64)) * (65521 : Int64)) - (((((((7919 : Int64) * (nI x).toInt64) + ((6151 : Int64) * (nI v).toInt64)) + (1 : Int64)) * ((((7919 : Int64) * (nI x).toInt64) + ((6151 : Int64) * (nI v).toInt64)) + (1 : Int64))) - ((((((7919 : Int64) * (nI x).toInt64) + ((6151 : Int64) * (nI v).toInt64)) + (1 : Int64)) * ((((7919 : Int64) * (nI x).toInt64) + ((6151 : Int64) * (nI v).toInt64)) + (1 : Int64))) / (65521 : Int64)) * (65521 : Int64)) / ((nI v) + (1 : Int32)).toInt64) * ((nI v) + (1 : Int32)).toInt64).toInt32) = nI (dv x v) := by
  have e : ((((7919 : Int64) * (nI x).toInt64) + ((6151 : Int64) * (nI v).toInt64)) + (1 : Int64)) = lN (7919 * x + 6151 * v + 1) := by
    rw [nI_l (by omega), nI_l (by omega), show (7919 : Int64) = lN 7919 from rfl, show (6151 : Int64) = lN 6151 from rfl, lN_mul, lN_mul, lN_add, lN_1]
  rw [e, lN_mul, nI_1, nI_l (by omega), show (65521 : Int64) = lN 65521 from rfl]
  have hb : 7919 * x + 6151 * v + 1 < 2 ^ 27 := by omega
  have hb2 : (7919 * x + 6151 * v + 1) * (7919 * x + 6151 * v + 1) < 2 ^ 63 := Nat.lt_of_lt_of_le (Nat.mul_lt_mul_of_lt_of_lt hb hb) (by decide)
  rw [pk_lRem hb2 (by decide) (by decide)]
  have hm := Nat.mod_lt ((7919 * x + 6151 * v + 1) * (7919 * x + 6151 * v + 1)) (show 65521 > 0 by decide)
  rw [pk_lRem (by omega) (by omega) (by omega), lN_i]
  rfl
def drS (x : Nat) : Nat → St → St
  | 0, s => s
  | v + 1, s => drS x v (swp (v + 1) (dv x (v + 1)) s)
theorem dv_lt (x v : Nat) : dv x v < v + 1 := Nat.mod_lt _ (Nat.succ_pos v)
theorem drS_ok {N Rr x : Nat} : ∀ (v : Nat) (s : St), v < N → StOk N Rr s → StOk N Rr (drS x v s)
  | 0, _, _, h => h
  | v + 1, _, hv, h => drS_ok v _ (by omega) (swp_ok hv (by have := dv_lt x (v + 1); omega) h)
def rst (s : St) : St := (s.1, 0, s.2.2)
theorem r7_fall {N Rr x : Nat} {Q : Mem → Prop} (h40 : N ≤ 40) (hx : x ≤ 9999) : ∀ (v : Nat) (s : St) (M : Mem), v < N → St7 M N s → StOk N Rr s → (∀ M1, St7 M1 N (rst (drS x v s)) → PF7 M M1 → Q M1) → wX2_fall_10 61 (nI x) Q (v + 1) (nI v) M := by
  intro v
  induction v with
  | zero =>
    intro s M _ h7 hs h
    unfold wX2_fall_10
    refine b_lt (a := 0) (b := 1) (by omega) (by omega) (fun _ => ?_) (fun q => by omega)
    refine h _ ⟨?_, fun p hp => ?_, mu_at _ _ _ _, ?_⟩ fun z a b c d => mu_ne a
    · rw [mu_no (by omega)]; exact h7.1
    · rw [mu_no (by omega)]; exact h7.2.1 p hp
    · rw [mu_no (by omega)]; exact h7.2.2.2
  | succ v ih =>
    intro s M hv h7 hs h
    have hd := dv_lt x (v + 1)
    unfold wX2_fall_10
    refine b_lt (a := v + 1) (b := 1) (by omega) (by omega) (fun q => by omega) (fun _ => ⟨by decide, ?_, ?_⟩)
    · rw [nI_1, nI_l (by omega)]
      intro q
      have := (lN_eq (a := v + 1 + 1) (b := 0) (by omega) (by omega)).mp q
      omega
    · rw [dv_eq hx (by omega)]
      refine s7_swap (s := s) h40 hv (by omega) h7 hs fun M1 c1 f1 => ?_
      rw [pk_m1]
      exact ih _ M1 (by omega) c1 (swp_ok hv (by omega) hs) fun M2 c2 f2 => h M2 c2 (PF7_trans f1 f2)
theorem r8_fall {N Rr K A x : Nat} {Q : Int32 → Mem → Prop} (h40 : N ≤ 40) (hx : x ≤ 9999) : ∀ (v : Nat) (s : St) (M : Mem), v < N → TLR M N Rr K A → St8 M N s → StOk N Rr s → (∀ M1, St8 M1 N (rst (drS x v s)) → PF8 M M1 → Q (nI ((rst (drS x v s)).1 0)) M1) → wX8_drop_23 (nI x) Q (v + 1) (nI v) M := by
  intro v
  induction v with
  | zero =>
    intro s M hv hT h8 hs h
    unfold wX8_drop_23
    refine b_le (a := 0) (b := 0) (by omega) (by omega) (fun _ => ⟨vz (by decide), vz (by decide), ?_⟩) (fun q => by omega)
    rw [cl0]
    have z : ∀ p, p < N → mu M 91 0 (0 : Int32) 90 p = nI ((rst (drS x 0 s)).1 p) := fun p hp => by rw [mu_no (by omega)]; exact h8.1 p hp
    rw [z 0 hv]
    refine h _ ⟨z, mu_at _ _ _ _, ?_⟩ ⟨fun w a b c d => mu_ne b, fun p hp => mu_no (by omega), fun w hw => ⟨mu_no (by omega), mu_no (by omega)⟩⟩
    rw [mu_no (by omega)]
    exact h8.2.2
  | succ v ih =>
    intro s M hv hT h8 hs h
    have hd := dv_lt x (v + 1)
    unfold wX8_drop_23
    refine b_le (a := v + 1) (b := 0) (by omega) (by omega) (fun q => by omega) (fun _ => ⟨by decide, ?_, ?_⟩)
    · rw [nI_1, nI_l (by omega)]
      intro q
      have := (lN_eq (a := v + 1 + 1) (b := 0) (by omega) (by omega)).mp q
      omega
    · rw [dv_eq hx (by omega)]
      refine r8_change (s := s) hT hv (by omega) h8 hs fun M1 c1 f1 => ?_
      rw [pk_m1]
      exact ih _ M1 (by omega) (TLR_8 hT f1) c1 (swp_ok hv (by omega) hs) fun M2 c2 f2 => h M2 c2 (PF8_trans f1 f2)
theorem k_drop {x : Int32} {M : Mem} {Q : Int32 → Int32 → Mem → Prop} (hI : INV M) (h : GQ Q) : wX7_drop x M (fun r1 M1 => wX8_drop x M1 (fun r2 M2 => Q r1 r2 M2)) := by
  have hI' := hI
  obtain ⟨t, N, Rr, K, A, nt, ta, F, hB, ⟨tl, tx, hT⟩, hP, hK, hS⟩ := hI
  obtain ⟨b1, b2, b3, b4, -⟩ := TL_N hB.2.1
  have hR := hB.2.2.1
  refine s7_within (a := 0) (b := 9999) (by omega) (by omega) (fun g => i_t ?_) (fun g => i_f (r8_in_f (a := 0) (b := 9999) (by omega) (by omega) g (i_f (h _ _ hI'))))
  obtain ⟨P, b, d, p7, p8, pm, pb⟩ := PK_of hP
  have ok : StOk N Rr (P, b, d) := ⟨pm, pb⟩
  have g' := g
  obtain ⟨k, k0, k1, e⟩ := g
  subst e
  unfold wX2_fall
  rw [show (61 + 1 : Nat) = 62 from rfl, p7.1, nI_sub1 (by omega)]
  refine ⟨N - 1 + 1, r7_fall b2 (by omega) (N - 1) (P, b, d) M (by omega) p7 ok fun M1 c1 f1 => ?_⟩
  refine s1_leafAt (o := 62) (p := 0) rfl (by omega) ?_
  rw [show (62 + 2 : Nat) = 64 from rfl, c1.2.1 0 (by omega)]
  refine r8_in_t (a := 0) (b := 9999) (by omega) (by omega) g' (i_t ⟨vz (by decide), ?_⟩)
  have hR1 := TLR_7 hR f1
  rw [cl0, hR1.1, nI_sub1 (by omega)]
  refine ⟨N - 1 + 1, r8_fall b2 (by omega) (N - 1) (P, b, d) M1 (by omega) hR1 (PK8_7 p8 f1) ok fun M2 c2 f2 => ?_⟩
  have ok2 := drS_ok (x := k) (N - 1) (P, b, d) (by omega) ok
  exact h _ _ (INV_pk hB hT hK hS f1 f2 (PK_to (PK7_8 c1 f2) c2 ok2.1 (show (0 : Nat) < Rr by omega)))
