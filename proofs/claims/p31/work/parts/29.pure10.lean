/-! PURE 10: calls that change the order in hand -/
def PK7 (M : Mem) (N : Nat) (P : Nat → Nat) (b : Nat) (d : Int32) : Prop := M 62 2 = nI N ∧ (∀ p, p < N → M 64 p = nI (P p)) ∧ M 61 1 = nI b ∧ M 61 2 = d
def PK8 (M : Mem) (N : Nat) (P : Nat → Nat) (b : Nat) (d : Int32) : Prop := (∀ p, p < N → M 90 p = nI (P p)) ∧ M 91 0 = nI b ∧ M 92 0 = d
def PF7 (M M' : Mem) : Prop := ∀ x, x ≠ 61 → x ≠ 62 → x ≠ 64 → x ≠ 66 → M' x = M x
def PF8 (M M' : Mem) : Prop := (∀ x, x ≠ 90 → x ≠ 91 → x ≠ 92 → x ≠ 97 → M' x = M x) ∧ (∀ p, 40 ≤ p → M' 90 p = M 90 p) ∧ (∀ w, 1 ≤ w → M' 91 w = M 91 w ∧ M' 92 w = M 92 w)
theorem PF8_trans {M M1 M2 : Mem} (h1 : PF8 M M1) (h2 : PF8 M1 M2) : PF8 M M2 := ⟨fun x a b c d => (h2.1 x a b c d).trans (h1.1 x a b c d), fun p hp => (h2.2.1 p hp).trans (h1.2.1 p hp), fun w hw => ⟨(h2.2.2 w hw).1.trans (h1.2.2 w hw).1, (h2.2.2 w hw).2.trans (h1.2.2 w hw).2⟩⟩
theorem PF8_refl (M : Mem) : PF8 M M := ⟨fun _ _ _ _ _ => rfl, fun _ _ => rfl, fun _ _ => ⟨rfl, rfl⟩⟩
theorem PF7_trans {M M1 M2 : Mem} (h1 : PF7 M M1) (h2 : PF7 M1 M2) : PF7 M M2 := fun x a b c d => (h2 x a b c d).trans (h1 x a b c d)
theorem PK_of {M : Mem} {N Rr : Nat} (h : PKI M N Rr 61 0) : ∃ P b d, PK7 M N P b d ∧ PK8 M N P b d ∧ Pm N P ∧ b < Rr := by
  obtain ⟨P, b, p1, p2, p3, p4, p5, p6, p7⟩ := h
  refine ⟨P, b, M 92 0, ⟨p1, fun p hp => (p3 p hp).1, p4, p7⟩, ⟨fun p hp => ?_, p5, rfl⟩, p2, p6⟩
  have e := (p3 p hp).2
  rw [show 40 * 0 + p = p by omega] at e
  exact e
theorem PK_to {M : Mem} {N Rr : Nat} {P : Nat → Nat} {b : Nat} {d : Int32} (h7 : PK7 M N P b d) (h8 : PK8 M N P b d) (hp : Pm N P) (hb : b < Rr) : PKI M N Rr 61 0 := by
  refine ⟨P, b, h7.1, hp, fun p q => ⟨h7.2.1 p q, ?_⟩, h7.2.2.1, h8.2.1, hb, h7.2.2.2.trans h8.2.2.symm⟩
  rw [show 40 * 0 + p = p by omega]
  exact h8.1 p q
theorem PK8_7 {M M' : Mem} {N : Nat} {P : Nat → Nat} {b : Nat} {d : Int32} (h : PK8 M N P b d) (f : PF7 M M') : PK8 M' N P b d := by
  unfold PK8
  rw [f 90 (by omega) (by omega) (by omega) (by omega), f 91 (by omega) (by omega) (by omega) (by omega), f 92 (by omega) (by omega) (by omega) (by omega)]
  exact h
theorem PK7_8 {M M' : Mem} {N : Nat} {P : Nat → Nat} {b : Nat} {d : Int32} (h : PK7 M N P b d) (f : PF8 M M') : PK7 M' N P b d := by
  unfold PK7
  rw [f.1 61 (by omega) (by omega) (by omega) (by omega), f.1 62 (by omega) (by omega) (by omega) (by omega), f.1 64 (by omega) (by omega) (by omega) (by omega)]
  exact h
theorem INV_pk {M M1 M2 : Mem} {t N Rr K A nt : Nat} {ta F : Nat → Nat} {tl : Nat} {tx : Nat → Nat} (hB : BK M t N Rr K A nt ta F) (hT : TXT M tl tx) (hK : KPT M N Rr) (hS : SN M N Rr K A) (f7 : PF7 M M1) (f8 : PF8 M1 M2) (hp : PKI M2 N Rr 61 0) : INV M2 := by
  obtain ⟨ht, -⟩ := BK_t hB
  have e : ∀ x, x ≠ 61 → x ≠ 62 → x ≠ 64 → x ≠ 66 → x ≠ 90 → x ≠ 91 → x ≠ 92 → x ≠ 97 → M2 x = M x := fun x a b c d e f g i => (f8.1 x e f g i).trans (f7 x a b c d)
  have s : ∀ x, x < 61 ∨ (66 < x ∧ x < 90) ∨ (92 < x ∧ x < 97) ∨ 97 < x → M2 x = M x := fun x hx => e x (by omega) (by omega) (by omega) (by omega) (by omega) (by omega) (by omega) (by omega)
  refine ⟨t, N, Rr, K, A, nt, ta, F, ?_, ⟨tl, tx, TXT_congr hT (by rw [s 1 (by omega)]) (s 3 (by omega)) (by rw [s 79 (by omega)]) (s 80 (by omega))⟩, hp, ?_, ?_⟩
  · exact BK_congr hB ⟨by rw [s 0 (by omega)], by rw [s 0 (by omega)]⟩ (s t (by omega)) (s (t + 6) (by omega)) (by rw [s 22 (by omega)]) (s 24 (by omega)) (fun x hx => s x (by omega)) ⟨by rw [s 81 (by omega)], by rw [s 82 (by omega)], by rw [s 83 (by omega)], by rw [s 84 (by omega)], by rw [s 87 (by omega)]⟩ (fun k _ => by rw [s 88 (by omega)]) (s 89 (by omega)) (s 98 (by omega)) (s 99 (by omega))
  · refine KPT_congr hK (by rw [s 0 (by omega)]) (by rw [s 79 (by omega)]) (fun x hx => s x (by omega)) (fun p hp => ?_) (fun w hw => ?_)
    · rw [f8.2.1 p hp, f7 90 (by omega) (by omega) (by omega) (by omega)]
    · rw [(f8.2.2 w hw).1, (f8.2.2 w hw).2, f7 91 (by omega) (by omega) (by omega) (by omega), f7 92 (by omega) (by omega) (by omega) (by omega)]
      exact ⟨rfl, rfl⟩
  · exact SN_congr hS (by rw [s 0 (by omega)]) (by rw [s 79 (by omega)]) (s 58 (by omega)) (s 60 (by omega)) (s 93 (by omega)) (s 94 (by omega)) (s 95 (by omega))
theorem rs_ge {N K A b p : Nat} (h1 : 1 ≤ N) (hp : N ≤ p) : rs N K A b p = p := by
  unfold rs cutS layS
  split
  · exact if_neg (by omega)
  · split
    · show (if p < N - 1 then p + 1 else if p = N - 1 then 0 else p) = p
      rw [if_neg (by omega), if_neg (by omega)]
    · show (if p < min A (N - 1) then p + 1 else if p = min A (N - 1) then 0 else p) = p
      rw [if_neg (by omega), if_neg (by omega)]
abbrev St := (Nat → Nat) × Nat × Int32
def stp (N Rr K A : Nat) (s : St) : St := (fun p => s.1 (rs N K A s.2.1 p), if s.2.1 + 1 < Rr then s.2.1 + 1 else 0, if s.2.1 + 1 < Rr then s.2.2 else s.2.2 + (1 : Int32))
def St7 (M : Mem) (N : Nat) (s : St) : Prop := PK7 M N s.1 s.2.1 s.2.2
def St8 (M : Mem) (N : Nat) (s : St) : Prop := PK8 M N s.1 s.2.1 s.2.2
def StOk (N Rr : Nat) (s : St) : Prop := Pm N s.1 ∧ s.2.1 < Rr
theorem stp_ok {N Rr K A : Nat} {s : St} (h1 : 1 ≤ N) (h2 : 1 ≤ Rr) (h : StOk N Rr s) : StOk N Rr (stp N Rr K A s) := by
  refine ⟨⟨fun p hp => h.1.1 _ ((rs_pm h1).1 p hp), fun p q hp hq e => (rs_pm h1).2 p q hp hq (h.1.2 _ _ ((rs_pm h1).1 p hp) ((rs_pm h1).1 q hq) e)⟩, ?_⟩
  show (if s.2.1 + 1 < Rr then s.2.1 + 1 else 0) < Rr
  split <;> omega
theorem s7_readOne {M : Mem} {t N Rr K A : Nat} {Q : Int32 → Mem → Prop} {s : St} (ht : t = 4 ∨ t = 13) (hT : TL M t N Rr K A) (h7 : St7 M N s) (hs : StOk N Rr s) (h : ∀ M1, St7 M1 N (stp N Rr K A s) → PF7 M M1 → Q (nI (s.1 0)) M1) : wX2_readOne 61 t M Q := by
  obtain ⟨t0, t1, t2, t3, b1, b2, b3, b4, b5, b6⟩ := hT
  obtain ⟨P, b, d⟩ := s
  obtain ⟨q1, q2, q3, q4⟩ := h7
  obtain ⟨hP, hb⟩ := hs
  replace hb : b < Rr := hb
  replace q3 : M 61 1 = nI b := q3
  replace q4 : M 61 2 = d := q4
  unfold wX2_readOne
  rw [t2, t3, q3]
  refine s1_readTop (o := 62) (N := N) rfl rfl q1 (by omega) b2 b5 b6 (by omega) fun M1 r1 r2 => ?_
  rw [q2 0 (by omega)]
  replace h : ∀ M2 : Mem, St7 M2 N (stp N Rr K A (P, b, d)) → PF7 M M2 → Q (nI (P 0)) M2 := h
  have e61 : M1 61 = M 61 := r2 61 (by omega) (by omega)
  have z1 : mu M1 61 1 (M1 61 1 + (1 : Int32)) 61 1 = nI (b + 1) := by rw [mu_at, e61, q3]; exact nI_1 b
  have z2 : mu M1 61 1 (M1 61 1 + (1 : Int32)) t 1 = nI Rr := by rw [mu_no (by omega), r2 t (by omega) (by omega)]; exact t1
  have z64 : ∀ p, p < N → M1 64 p = nI (P (rs N K A b p)) := fun p hp => by
    rw [show (64 : Nat) = 62 + 2 from rfl, r1]
    exact q2 _ ((rs_pm (by omega)).1 p hp)
  rw [z1, z2]
  refine b_lt (by omega) (by omega) (fun q => ?_) (fun q => ?_)
  · refine h _ ⟨?_, fun p hp => ?_, ?_, ?_⟩ (fun x a b' c d' => ?_)
    · rw [mu_no (by omega), r2 62 (by omega) (by omega)]; exact q1
    · rw [mu_no (by omega)]; exact z64 p hp
    · rw [z1]; show nI (b + 1) = nI (if b + 1 < Rr then b + 1 else 0); rw [if_pos q]
    · rw [mu_no (by omega), e61, q4]; show d = if b + 1 < Rr then d else d + (1 : Int32); rw [if_pos q]
    · rw [mu_ne (by omega)]; exact r2 x (by omega) (by omega)
  · refine h _ ⟨?_, fun p hp => ?_, ?_, ?_⟩ (fun x a b' c d' => ?_)
    · rw [mu_no (by omega), mu_no (by omega), mu_no (by omega), r2 62 (by omega) (by omega)]; exact q1
    · rw [mu_no (by omega), mu_no (by omega), mu_no (by omega)]; exact z64 p hp
    · rw [mu_no (by omega), mu_at]; show (0 : Int32) = nI (if b + 1 < Rr then b + 1 else 0); rw [if_neg (by omega)]; rfl
    · rw [mu_at, mu_no (by omega), mu_no (by omega), e61, q4]; show d + (1 : Int32) = if b + 1 < Rr then d else d + (1 : Int32); rw [if_neg (by omega)]
    · rw [mu_ne (by omega), mu_ne (by omega), mu_ne (by omega)]; exact r2 x (by omega) (by omega)
theorem r8_readOne {M : Mem} {N Rr K A : Nat} {Q : Int32 → Mem → Prop} {s : St} (hT : TLR M N Rr K A) (h8 : St8 M N s) (hs : StOk N Rr s) (h : ∀ M1, St8 M1 N (stp N Rr K A s) → PF8 M M1 → Q (nI (s.1 0)) M1) : wX8_read M Q := by
  obtain ⟨t0, t1, t2, t3, b1, b2, b3, b4, b5, b6⟩ := hT
  obtain ⟨P, b, d⟩ := s
  obtain ⟨q1, q2, q3⟩ := h8
  obtain ⟨hP, hb⟩ := hs
  replace hb : b < Rr := hb
  replace q2 : M 91 0 = nI b := q2
  replace q3 : M 92 0 = d := q3
  replace h : ∀ M2 : Mem, St8 M2 N (stp N Rr K A (P, b, d)) → PF8 M M2 → Q (nI (P 0)) M2 := h
  unfold wX8_read
  rw [cl0, t2, t3, q2]
  refine ⟨vz (by decide), vz (by decide), vz (by decide), vz (by decide), ?_⟩
  refine s8_goRead (N := N) (by decide) (by decide) (by decide) t0 (by omega) b2 b5 b6 (by omega) fun M1 r1 r2 => ?_
  refine ⟨vz (by decide), vz (by decide), vz (by decide), vz (by decide), ?_⟩
  rw [q1 0 (by omega)]
  have z1 : mu M1 91 0 (M1 91 0 + (1 : Int32)) 91 0 = nI (b + 1) := by rw [mu_at, r2 91 (by omega) (by omega), q2]; exact nI_1 b
  have z2 : mu M1 91 0 (M1 91 0 + (1 : Int32)) 82 0 = nI Rr := by rw [mu_no (by omega), r2 82 (by omega) (by omega)]; exact t1
  have z90 : ∀ p, p < N → M1 90 p = nI (P (rs N K A b p)) := fun p hp => by
    rw [r1]
    exact q1 _ ((rs_pm (by omega)).1 p hp)
  have y90 : ∀ p, 40 ≤ p → M1 90 p = M 90 p := fun p hp => by
    rw [r1]
    show M 90 (rs N K A b p) = _
    rw [rs_ge (by omega) (by omega)]
  rw [z1, z2]
  refine b_ne (by omega) (by omega) (fun q => ?_) (fun q => ⟨vz (by decide), vz (by decide), vz (by decide), ?_⟩)
  · refine h _ ⟨fun p hp => ?_, ?_, ?_⟩ ⟨fun x a b' c d' => ?_, fun p hp => ?_, fun w hw => ⟨?_, ?_⟩⟩
    · rw [mu_no (by omega)]; exact z90 p hp
    · rw [z1]; show nI (b + 1) = nI (if b + 1 < Rr then b + 1 else 0); rw [if_pos (by omega)]
    · rw [mu_no (by omega), r2 92 (by omega) (by omega), q3]; show d = if b + 1 < Rr then d else d + (1 : Int32); rw [if_pos (by omega)]
    · rw [mu_ne (by omega)]; exact r2 x (by omega) (by omega)
    · rw [mu_no (by omega)]; exact y90 p hp
    · rw [mu_no (by omega), r2 91 (by omega) (by omega)]
    · rw [mu_no (by omega), r2 92 (by omega) (by omega)]
  · refine h _ ⟨fun p hp => ?_, ?_, ?_⟩ ⟨fun x a b' c d' => ?_, fun p hp => ?_, fun w hw => ⟨?_, ?_⟩⟩
    · rw [mu_no (by omega), mu_no (by omega), mu_no (by omega)]; exact z90 p hp
    · rw [mu_no (by omega), mu_at]; show (0 : Int32) = nI (if b + 1 < Rr then b + 1 else 0); rw [if_neg (by omega)]; rfl
    · rw [mu_at, mu_no (by omega), mu_no (by omega), r2 92 (by omega) (by omega), q3]; show d + (1 : Int32) = if b + 1 < Rr then d else d + (1 : Int32); rw [if_neg (by omega)]
    · rw [mu_ne (by omega), mu_ne (by omega), mu_ne (by omega)]; exact r2 x (by omega) (by omega)
    · rw [mu_no (by omega), mu_no (by omega), mu_no (by omega)]; exact y90 p hp
    · rw [mu_no (by omega), mu_no (by omega), mu_no (by omega), r2 91 (by omega) (by omega)]
    · rw [mu_no (by omega), mu_no (by omega), mu_no (by omega), r2 92 (by omega) (by omega)]
theorem BK_7 {M M' : Mem} {t N Rr K A : Nat} (ht : t = 4 ∨ t = 13) (h : TL M t N Rr K A) (f : PF7 M M') : TL M' t N Rr K A := TL_congr h (f t (by omega) (by omega) (by omega) (by omega))
theorem TLR_7 {M M' : Mem} {N Rr K A : Nat} (h : TLR M N Rr K A) (f : PF7 M M') : TLR M' N Rr K A := TLR_congr h (f 81 (by omega) (by omega) (by omega) (by omega)) (f 82 (by omega) (by omega) (by omega) (by omega)) (f 83 (by omega) (by omega) (by omega) (by omega)) (f 84 (by omega) (by omega) (by omega) (by omega))
theorem TLR_8 {M M' : Mem} {N Rr K A : Nat} (h : TLR M N Rr K A) (f : PF8 M M') : TLR M' N Rr K A := TLR_congr h (f.1 81 (by omega) (by omega) (by omega) (by omega)) (f.1 82 (by omega) (by omega) (by omega) (by omega)) (f.1 83 (by omega) (by omega) (by omega) (by omega)) (f.1 84 (by omega) (by omega) (by omega) (by omega))
theorem k_read {M : Mem} {Q : Int32 → Int32 → Mem → Prop} (hI : INV M) (h : GQ Q) : wX7_read M (fun r1 M1 => wX8_read M1 (fun r2 M2 => Q r1 r2 M2)) := by
  obtain ⟨t, N, Rr, K, A, nt, ta, F, hB, ⟨tl, tx, hT⟩, hP, hK, hS⟩ := hI
  obtain ⟨ht, e2, e1, k2, k1⟩ := BK_t hB
  obtain ⟨b1, b2, b3, -⟩ := TL_N hB.2.1
  obtain ⟨P, b, d, p7, p8, pm, pb⟩ := PK_of hP
  have ok : StOk N Rr (P, b, d) := ⟨pm, pb⟩
  refine ⟨k2, ?_⟩
  rw [e2]
  refine s7_readOne (s := (P, b, d)) ht hB.2.1 p7 ok fun M1 c1 f1 => ?_
  refine r8_readOne (s := (P, b, d)) (TLR_7 hB.2.2.1 f1) (PK8_7 p8 f1) ok fun M2 c2 f2 => ?_
  have ok2 := stp_ok (K := K) (A := A) (by omega) b3 ok
  exact h _ _ (INV_pk hB hT hK hS f1 f2 (PK_to (PK7_8 c1 f2) c2 ok2.1 ok2.2))
def stpN (N Rr K A : Nat) : Nat → St → St
  | 0, s => s
  | n + 1, s => stp N Rr K A (stpN N Rr K A n s)
theorem stpN_ok {N Rr K A : Nat} {s : St} (h1 : 1 ≤ N) (h2 : 1 ≤ Rr) (h : StOk N Rr s) : ∀ n, StOk N Rr (stpN N Rr K A n s)
  | 0 => h
  | n + 1 => stp_ok h1 h2 (stpN_ok h1 h2 h n)
theorem k_finish {M : Mem} {Q : Int32 → Int32 → Mem → Prop} (hI : INV M) (h : GQ Q) : wX7_finish M (fun r1 M1 => wX8_finish M1 (fun r2 M2 => Q r1 r2 M2)) := by
  obtain ⟨t, N, Rr, K, A, nt, ta, F, hB, ⟨tl, tx, hT⟩, hP, hK, hS⟩ := hI
  obtain ⟨ht, e2, e1, k2, k1⟩ := BK_t hB
  obtain ⟨b1, b2, b3, b4, -⟩ := TL_N hB.2.1
  obtain ⟨P, b, d, p7, p8, pm, pb⟩ := PK_of hP
  have ok : StOk N Rr (P, b, d) := ⟨pm, pb⟩
  refine ⟨k2, ?_⟩
  rw [e2, hB.2.1.2.1, p7.2.2.1, pk_sub (by omega)]
  refine loop_0 (fun n i M' => wX7_finish_18 (fun r1 M1 => wX8_finish M1 (fun r2 M2 => Q r1 r2 M2)) n (nI (Rr - b)) (nI i) M') (fun i M' => St7 M' N (stpN N Rr K A i (P, b, d)) ∧ PF7 M M') (Rr - b) M ⟨p7, fun _ _ _ _ _ => rfl⟩ ?_ ?_
  · intro n M' ⟨c1, f1⟩
    unfold wX7_finish_18
    refine b_le (by omega) (by omega) (fun _ => ?_) (fun q => by omega)
    have hR := TLR_7 hB.2.2.1 f1
    have p8' := PK8_7 p8 f1
    refine ⟨vz (by decide), vz (by decide), ?_⟩
    rw [cl0, hR.2.1, p8'.2.1, pk_sub (by omega)]
    refine loop_0 (fun n i M2 => wX8_finish_16 (fun r2 M2 => Q (nI (Rr - b)) r2 M2) n (nI (Rr - b)) (nI i) M2) (fun i M2 => St8 M2 N (stpN N Rr K A i (P, b, d)) ∧ PF8 M' M2) (Rr - b) M' ⟨p8', PF8_refl _⟩ ?_ ?_
    · intro n M2 ⟨c2, f2⟩
      unfold wX8_finish_16
      refine b_le (by omega) (by omega) (fun _ => ?_) (fun q => by omega)
      have ok2 := stpN_ok (K := K) (A := A) (by omega) b3 ok (Rr - b)
      exact h _ _ (INV_pk hB hT hK hS f1 f2 (PK_to (PK7_8 c1 f2) c2 ok2.1 ok2.2))
    · intro n i M2 hi ⟨c2, f2⟩ hk
      unfold wX8_finish_16
      refine b_le (by omega) (by omega) (fun q => by omega) (fun _ => ?_)
      refine r8_readOne (TLR_8 hR f2) c2 (stpN_ok (by omega) b3 ok i) fun M3 c3 f3 => ?_
      rw [nI_1]
      exact hk _ ⟨c3, PF8_trans f2 f3⟩
  · intro n i M' hi ⟨c1, f1⟩ hk
    unfold wX7_finish_18
    refine b_le (by omega) (by omega) (fun q => by omega) (fun _ => ?_)
    have e0 : M' 0 = M 0 := f1 0 (by omega) (by omega) (by omega) (by omega)
    rw [e0, e2]
    rw [e2] at k2
    refine ⟨k2, ?_⟩
    refine s7_readOne ht (BK_7 ht hB.2.1 f1) c1 (stpN_ok (by omega) b3 ok i) fun M3 c3 f3 => ?_
    rw [nI_1]
    exact hk _ ⟨c3, PF7_trans f1 f3⟩
