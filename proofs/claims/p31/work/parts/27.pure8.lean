/-! PURE 8: what ties the two machines; ranges -/
def BK (M : Mem) (t N Rr K A nt : Nat) (ta F : Nat → Nat) : Prop :=
  ((t = 13 ∧ M 0 1 = nI 4 ∧ M 0 2 = nI 13) ∨ (t = 4 ∧ M 0 1 = nI 13 ∧ M 0 2 = nI 4)) ∧ TL M t N Rr K A ∧ TLR M N Rr K A ∧ (M t 8 = nI nt ∧ M 87 0 = nI nt ∧ nt ≤ 20 ∧ ∀ k, k < nt → M (t + 6) k = nI (ta k) ∧ M 88 k = nI (ta k) ∧ ta k < N) ∧ (M 22 2 = nI N ∧ Pm N F ∧ ∀ p, p < N → M 24 p = nI (F p) ∧ M 89 p = nI (F p)) ∧ RDS M N Rr K A ∧ RFR M N Rr K A
def TXT (M : Mem) (tl : Nat) (tx : Nat → Nat) : Prop := M 1 1 = nI tl ∧ M 79 0 = nI tl ∧ tl ≤ 300 ∧ ∀ k, k < tl → M 3 k = nI (tx k) ∧ M 80 k = nI (tx k) ∧ tx k < 256
def PKI (M : Mem) (N Rr c w : Nat) : Prop := ∃ (P : Nat → Nat) (b : Nat), M (c + 1) 2 = nI N ∧ Pm N P ∧ (∀ p, p < N → M (c + 3) p = nI (P p) ∧ M 90 (40 * w + p) = nI (P p)) ∧ M c 1 = nI b ∧ M 91 w = nI b ∧ b < Rr ∧ M c 2 = M 92 w
def KPT (M : Mem) (N Rr : Nat) : Prop := ∃ kc, M 0 13 = nI kc ∧ M 79 14 = nI kc ∧ kc ≤ 2 ∧ (1 ≤ kc → PKI M N Rr 67 1) ∧ (2 ≤ kc → PKI M N Rr 73 2)
def SN (M : Mem) (N Rr K A : Nat) : Prop := ∃ (sc : Nat) (jj ii vv : Nat → Nat), M 0 9 = nI sc ∧ M 79 15 = nI sc ∧ sc ≤ 12 ∧ ∀ k, k < sc → rdL M 93 k = lN (jj k) ∧ jj k ≤ 1000000000000 ∧ M 94 k = nI (ii k) ∧ ii k < Rr ∧ M 95 k = nI (vv k) ∧ vv k < N ∧ M 60 k = nI (vv k) ∧ M 58 k = nI (itE (eS N K A Rr) (jj k) (eS N K A (ii k) 0))
def INV (M : Mem) : Prop := ∃ (t N Rr K A nt : Nat) (ta F : Nat → Nat), BK M t N Rr K A nt ta F ∧ (∃ tl tx, TXT M tl tx) ∧ PKI M N Rr 61 0 ∧ KPT M N Rr ∧ SN M N Rr K A
theorem BK_t {M : Mem} {t N Rr K A nt : Nat} {ta F : Nat → Nat} (h : BK M t N Rr K A nt ta F) : (t = 4 ∨ t = 13) ∧ rid (M 0 2) = t ∧ rid (M 0 1) = 17 - t ∧ kd (rid (M 0 2)) = 6 ∧ kd (rid (M 0 1)) = 6 := by
  rcases h.1 with ⟨h1, h2, h3⟩ | ⟨h1, h2, h3⟩
  · subst h1
    rw [h2, h3]
    exact ⟨Or.inr rfl, nI_clamp (by omega), nI_clamp (by omega), by rw [show rid (nI 13) = 13 from nI_clamp (by omega)]; rfl, by rw [show rid (nI 4) = 4 from nI_clamp (by omega)]; rfl⟩
  · subst h1
    rw [h2, h3]
    exact ⟨Or.inl rfl, nI_clamp (by omega), nI_clamp (by omega), by rw [show rid (nI 4) = 4 from nI_clamp (by omega)]; rfl, by rw [show rid (nI 13) = 13 from nI_clamp (by omega)]; rfl⟩
theorem RFR_congr {M M' : Mem} {N Rr K A : Nat} (h : RFR M N Rr K A) (e1 : M' 98 = M 98) (e2 : M' 99 = M 99) : RFR M' N Rr K A := by
  unfold RFR
  rw [e1, e2]
  exact h
theorem BK_congr {M M' : Mem} {t N Rr K A nt : Nat} {ta F : Nat → Nat} (h : BK M t N Rr K A nt ta F) (e0 : M' 0 1 = M 0 1 ∧ M' 0 2 = M 0 2) (et : M' t = M t) (et6 : M' (t + 6) = M (t + 6)) (e22 : M' 22 2 = M 22 2) (e24 : M' 24 = M 24) (er : ∀ x, x = 32 ∨ x = 39 ∨ x = 41 ∨ x = 43 ∨ x = 45 ∨ x = 47 ∨ x = 49 ∨ x = 51 → M' x = M x) (e81 : M' 81 0 = M 81 0 ∧ M' 82 0 = M 82 0 ∧ M' 83 0 = M 83 0 ∧ M' 84 0 = M 84 0 ∧ M' 87 0 = M 87 0) (e88 : ∀ k, k < 20 → M' 88 k = M 88 k) (e89 : M' 89 = M 89) (e98 : M' 98 = M 98) (e99 : M' 99 = M 99) : BK M' t N Rr K A nt ta F := by
  obtain ⟨h1, h2, h3, ⟨h41, h42, h43, h44⟩, ⟨h51, h52, h53⟩, h6, h7⟩ := h
  refine ⟨by rw [e0.1, e0.2]; exact h1, TL_congr h2 et, ?_, ⟨by rw [et]; exact h41, by rw [e81.2.2.2.2]; exact h42, h43, fun k hk => by rw [et6, e88 k (by omega)]; exact h44 k hk⟩, ⟨by rw [e22]; exact h51, h52, by rw [e24, e89]; exact h53⟩, RDS_congr h6 er, RFR_congr h7 e98 e99⟩
  unfold TLR
  rw [e81.1, e81.2.1, e81.2.2.1, e81.2.2.2.1]
  exact h3
theorem TXT_congr {M M' : Mem} {tl : Nat} {tx : Nat → Nat} (h : TXT M tl tx) (e1 : M' 1 1 = M 1 1) (e3 : M' 3 = M 3) (e79 : M' 79 0 = M 79 0) (e80 : M' 80 = M 80) : TXT M' tl tx := by
  unfold TXT
  rw [e1, e3, e79, e80]
  exact h
theorem PKI_congr {M M' : Mem} {N Rr c w : Nat} (h : PKI M N Rr c w) (e1 : M' c = M c) (e2 : M' (c + 1) 2 = M (c + 1) 2) (e3 : M' (c + 3) = M (c + 3)) (e90 : ∀ p, p < N → M' 90 (40 * w + p) = M 90 (40 * w + p)) (e91 : M' 91 w = M 91 w) (e92 : M' 92 w = M 92 w) : PKI M' N Rr c w := by
  obtain ⟨P, b, h1, h2, h3, h4, h5, h6, h7⟩ := h
  exact ⟨P, b, by rw [e2]; exact h1, h2, fun p hp => by rw [e3, e90 p hp]; exact h3 p hp, by rw [e1]; exact h4, by rw [e91]; exact h5, h6, by rw [e1, e92]; exact h7⟩
theorem KPT_congr {M M' : Mem} {N Rr : Nat} (h : KPT M N Rr) (e0 : M' 0 13 = M 0 13) (e79 : M' 79 14 = M 79 14) (e : ∀ x, x = 67 ∨ x = 68 ∨ x = 70 ∨ x = 73 ∨ x = 74 ∨ x = 76 → M' x = M x) (e90 : ∀ p, 40 ≤ p → M' 90 p = M 90 p) (e91 : ∀ w, 1 ≤ w → M' 91 w = M 91 w ∧ M' 92 w = M 92 w) : KPT M' N Rr := by
  obtain ⟨kc, h1, h2, h3, h4, h5⟩ := h
  exact ⟨kc, by rw [e0]; exact h1, by rw [e79]; exact h2, h3, fun hk => PKI_congr (h4 hk) (e 67 (by omega)) (by rw [e (67 + 1) (by omega)]) (e (67 + 3) (by omega)) (fun p hp => e90 _ (by omega)) (e91 1 (by omega)).1 (e91 1 (by omega)).2, fun hk => PKI_congr (h5 hk) (e 73 (by omega)) (by rw [e (73 + 1) (by omega)]) (e (73 + 3) (by omega)) (fun p hp => e90 _ (by omega)) (e91 2 (by omega)).1 (e91 2 (by omega)).2⟩
theorem SN_congr {M M' : Mem} {N Rr K A : Nat} (h : SN M N Rr K A) (e0 : M' 0 9 = M 0 9) (e79 : M' 79 15 = M 79 15) (e58 : M' 58 = M 58) (e60 : M' 60 = M 60) (e93 : M' 93 = M 93) (e94 : M' 94 = M 94) (e95 : M' 95 = M 95) : SN M' N Rr K A := by
  unfold SN rdL
  rw [e0, e79, e58, e60, e93, e94, e95]
  exact h
/-- what a question may change: rows that hold nothing between calls -/
def QF (M M' : Mem) : Prop := (∀ x, x ≠ 79 → ¬ (27 ≤ x ∧ x ≤ 31) → ¬ (52 ≤ x ∧ x ≤ 56) → x ≠ 97 → ¬ (100 ≤ x ∧ x ≤ 105) → M' x = M x) ∧ ∀ k, k ≠ 29 → M' 79 k = M 79 k
theorem QF_refl (M : Mem) : QF M M := ⟨fun _ _ _ _ _ _ => rfl, fun _ _ => rfl⟩
theorem QF_trans {M M1 M2 : Mem} (h1 : QF M M1) (h2 : QF M1 M2) : QF M M2 := ⟨fun x a b c d e => (h2.1 x a b c d e).trans (h1.1 x a b c d e), fun k hk => (h2.2 k hk).trans (h1.2 k hk)⟩
theorem QF_of {M M' : Mem} (h : ∀ x, ¬ (27 ≤ x ∧ x ≤ 31) → ¬ (52 ≤ x ∧ x ≤ 56) → x ≠ 97 → ¬ (100 ≤ x ∧ x ≤ 105) → M' x = M x) : QF M M' := ⟨fun x _ b c d e => h x b c d e, fun k _ => by rw [h 79 (by omega) (by omega) (by omega) (by omega)]⟩
theorem QF_BK {M M' : Mem} {t N Rr K A nt : Nat} {ta F : Nat → Nat} (h : BK M t N Rr K A nt ta F) (q : QF M M') : BK M' t N Rr K A nt ta F := by
  obtain ⟨ht, -⟩ := BK_t h
  have e := q.1
  refine BK_congr h ⟨by rw [e 0 (by omega) (by omega) (by omega) (by omega) (by omega)], by rw [e 0 (by omega) (by omega) (by omega) (by omega) (by omega)]⟩ (e t (by omega) (by omega) (by omega) (by omega) (by omega)) (e (t + 6) (by omega) (by omega) (by omega) (by omega) (by omega)) (by rw [e 22 (by omega) (by omega) (by omega) (by omega) (by omega)]) (e 24 (by omega) (by omega) (by omega) (by omega) (by omega)) (fun x hx => e x (by omega) (by omega) (by omega) (by omega) (by omega)) ⟨?_, ?_, ?_, ?_, ?_⟩ (fun k _ => by rw [e 88 (by omega) (by omega) (by omega) (by omega) (by omega)]) (e 89 (by omega) (by omega) (by omega) (by omega) (by omega)) (e 98 (by omega) (by omega) (by omega) (by omega) (by omega)) (e 99 (by omega) (by omega) (by omega) (by omega) (by omega))
  · rw [e 81 (by omega) (by omega) (by omega) (by omega) (by omega)]
  · rw [e 82 (by omega) (by omega) (by omega) (by omega) (by omega)]
  · rw [e 83 (by omega) (by omega) (by omega) (by omega) (by omega)]
  · rw [e 84 (by omega) (by omega) (by omega) (by omega) (by omega)]
  · rw [e 87 (by omega) (by omega) (by omega) (by omega) (by omega)]
theorem QF_SN {M M' : Mem} {N Rr K A : Nat} (h : SN M N Rr K A) (q : QF M M') : SN M' N Rr K A := by
  have e := q.1
  exact SN_congr h (by rw [e 0 (by omega) (by omega) (by omega) (by omega) (by omega)]) (q.2 15 (by omega)) (e 58 (by omega) (by omega) (by omega) (by omega) (by omega)) (e 60 (by omega) (by omega) (by omega) (by omega) (by omega)) (e 93 (by omega) (by omega) (by omega) (by omega) (by omega)) (e 94 (by omega) (by omega) (by omega) (by omega) (by omega)) (e 95 (by omega) (by omega) (by omega) (by omega) (by omega))
theorem QF_INV {M M' : Mem} (h : INV M) (q : QF M M') : INV M' := by
  obtain ⟨t, N, Rr, K, A, nt, ta, F, h1, ⟨tl, tx, h2⟩, h3, h4, h5⟩ := h
  have e := q.1
  refine ⟨t, N, Rr, K, A, nt, ta, F, QF_BK h1 q, ⟨tl, tx, ?_⟩, ?_, ?_, QF_SN h5 q⟩
  · exact TXT_congr h2 (by rw [e 1 (by omega) (by omega) (by omega) (by omega) (by omega)]) (e 3 (by omega) (by omega) (by omega) (by omega) (by omega)) (q.2 0 (by omega)) (e 80 (by omega) (by omega) (by omega) (by omega) (by omega))
  · exact PKI_congr h3 (e 61 (by omega) (by omega) (by omega) (by omega) (by omega)) (by rw [e (61 + 1) (by omega) (by omega) (by omega) (by omega) (by omega)]) (e (61 + 3) (by omega) (by omega) (by omega) (by omega) (by omega)) (fun p _ => by rw [e 90 (by omega) (by omega) (by omega) (by omega) (by omega)]) (by rw [e 91 (by omega) (by omega) (by omega) (by omega) (by omega)]) (by rw [e 92 (by omega) (by omega) (by omega) (by omega) (by omega)])
  · exact KPT_congr h4 (by rw [e 0 (by omega) (by omega) (by omega) (by omega) (by omega)]) (q.2 14 (by omega)) (fun x hx => e x (by omega) (by omega) (by omega) (by omega) (by omega)) (fun p _ => by rw [e 90 (by omega) (by omega) (by omega) (by omega) (by omega)]) (fun w _ => ⟨by rw [e 91 (by omega) (by omega) (by omega) (by omega) (by omega)], by rw [e 92 (by omega) (by omega) (by omega) (by omega) (by omega)]⟩)
/-! ranges: x is one of a .. b, or not -/
def RGE (a b : Nat) (x : Int32) : Prop := ∃ k, a ≤ k ∧ k ≤ b ∧ x = nI k
theorem rge_lt {a : Nat} {x : Int32} (ha : a < 2 ^ 31) : x < nI a ∨ ∃ k, a ≤ k ∧ k < 2 ^ 31 ∧ x = nI k := by
  by_cases h : x < 0
  · refine Or.inl ?_
    rw [Int32.lt_iff_toInt_lt] at h ⊢
    rw [nI_toInt ha]
    have : (0 : Int32).toInt = 0 := by decide
    omega
  · obtain ⟨k, hk, rfl⟩ := nI_of h
    by_cases hka : k < a
    · exact Or.inl ((nI_ltI hk ha).mpr hka)
    · exact Or.inr ⟨k, by omega, hk, rfl⟩
theorem s7_within {a b : Nat} {x : Int32} {M : Mem} {Q : Int32 → Mem → Prop} (hab : a ≤ b) (hb : b < 2 ^ 31) (h1 : RGE a b x → Q 1 M) (h0 : ¬ RGE a b x → Q 0 M) : wX7_within x (nI a) (nI b) M Q := by
  refine ⟨fun q => ⟨Or.inl rfl, h0 fun ⟨k, k1, k2, e⟩ => ?_⟩, fun q => ⟨fun r => ⟨Or.inl rfl, h0 fun ⟨k, k1, k2, e⟩ => ?_⟩, fun r => ⟨Or.inr rfl, h1 ?_⟩⟩⟩
  · rw [e] at q
    have := (nI_ltI (by omega) (by omega)).mp q
    omega
  · rw [e] at r
    have := (nI_ltI (by omega) (by omega)).mp r
    omega
  · rcases rge_lt (a := a) (x := x) (by omega) with g | ⟨k, k1, k2, e⟩
    · exact absurd g q
    · subst e
      refine ⟨k, k1, ?_, rfl⟩
      rcases Nat.lt_or_ge b k with g | g
      · exact absurd ((nI_ltI (by omega) (by omega)).mpr g) r
      · exact g
theorem s8_in {a b : Nat} {x : Int32} {M : Mem} {Q : Int32 → Mem → Prop} (hab : a ≤ b) (hb : b < 2 ^ 31) (h1 : RGE a b x → Q 1 M) (h0 : ¬ RGE a b x → Q 0 M) : wX8_in x.toInt64 (lN a) (lN b) M Q := by
  have key : ∀ k, k < 2 ^ 31 → x = nI k → x.toInt64 = lN k := fun k hk e => by rw [e]; exact nI_l hk
  refine ⟨fun q => ⟨Or.inl rfl, h0 fun ⟨k, k1, k2, e⟩ => ?_⟩, fun q => ⟨fun r => ⟨Or.inl rfl, h0 fun ⟨k, k1, k2, e⟩ => ?_⟩, fun r => ⟨Or.inr rfl, h1 ?_⟩⟩⟩
  · have q1 := (lg_cmp_lt _ _).mp q
    rw [key k (by omega) e] at q1
    have := (pk_lLT (by omega) (by omega)).mp q1
    omega
  · have r1 := (lg_cmp_gt _ _).mp r
    rw [key k (by omega) e] at r1
    have := (pk_lLT (by omega) (by omega)).mp r1
    omega
  · rcases rge_lt (a := a) (x := x) (by omega) with g | ⟨k, k1, k2, e⟩
    · refine absurd ((lg_cmp_lt _ _).mpr ?_) q
      rw [Int64.lt_iff_toInt_lt, Int32.toInt_toInt64, pk_lT (by omega)]
      rw [Int32.lt_iff_toInt_lt, nI_toInt (by omega)] at g
      exact g
    · refine ⟨k, k1, ?_, e⟩
      rcases Nat.lt_or_ge b k with g | g
      · refine absurd ((lg_cmp_gt _ _).mpr ?_) r
        rw [key k k2 e]
        exact (pk_lLT (by omega) (by omega)).mpr g
      · exact g
/-- j is a reader -/
def RDR (x : Int64) : Prop := ∃ j : Nat, j ≤ 1000000000000 ∧ x = lN j
theorem rdr_of {x : Int64} (h1 : ¬ x < 0) (h2 : ¬ lN 1000000000000 < x) : RDR x := by
  obtain ⟨k, hk, e⟩ := pk_lOf h1
  subst e
  refine ⟨k, ?_, rfl⟩
  rcases Nat.lt_or_ge 1000000000000 k with g | g
  · exact absurd ((pk_lLT (by omega) hk).mpr g) h2
  · exact g
theorem rdr_no {x : Int64} (h : RDR x) : ¬ x < 0 ∧ ¬ lN 1000000000000 < x := by
  obtain ⟨k, hk, e⟩ := h
  subst e
  refine ⟨fun q => ?_, fun q => ?_⟩
  · have := (pk_lLT (a := k) (b := 0) (by omega) (by omega)).mp q
    omega
  · have := (pk_lLT (by omega) (by omega)).mp q
    omega
theorem s7_isReader {x : Int64} {M : Mem} {Q : Int32 → Mem → Prop} (h1 : RDR x → Q 1 M) (h0 : ¬ RDR x → Q 0 M) : wX7_isReader x M Q :=
  ⟨fun q => ⟨Or.inl rfl, h0 fun g => (rdr_no g).1 ((lg_cmp_lt _ _).mp q)⟩, fun q => ⟨fun r => ⟨Or.inl rfl, h0 fun g => (rdr_no g).2 ((lg_cmp_gt _ _).mp r)⟩, fun r => ⟨Or.inr rfl, h1 (rdr_of (fun g => q ((lg_cmp_lt _ _).mpr g)) (fun g => r ((lg_cmp_gt _ _).mpr g)))⟩⟩⟩
theorem s8_isReader {x : Int64} {M : Mem} {Q : Int32 → Mem → Prop} (h1 : RDR x → Q 1 M) (h0 : ¬ RDR x → Q 0 M) : wX8_isReader x M Q :=
  ⟨fun q => ⟨Or.inl rfl, Or.inl rfl, h0 fun g => (rdr_no g).1 ((lg_cmp_lt _ _).mp q)⟩, fun q => ⟨fun r => ⟨Or.inl rfl, Or.inl rfl, h0 fun g => (rdr_no g).2 ((lg_cmp_gt _ _).mp r)⟩, fun r => ⟨Or.inr rfl, Or.inr rfl, h1 (rdr_of (fun g => q ((lg_cmp_lt _ _).mpr g)) (fun g => r ((lg_cmp_gt _ _).mpr g)))⟩⟩⟩
theorem s7_isBelow {t N Rr K A nt : Nat} {ta F : Nat → Nat} {x : Int32} {M : Mem} {Q : Int32 → Mem → Prop} (hB : BK M t N Rr K A nt ta F) (h1 : RGE 0 (N - 1) x → Q 1 M) (h0 : ¬ RGE 0 (N - 1) x → Q 0 M) : wX7_isBelowCount x M Q := by
  obtain ⟨ht, e2, e1, k2, k1⟩ := BK_t hB
  obtain ⟨-, ⟨t0, t1, t2, t3, b1, b2, b3, b4, b5, b6⟩, -⟩ := hB
  refine ⟨k2, ?_⟩
  rw [e2, t0, nI_sub1 (by omega)]
  exact s7_within (a := 0) (b := N - 1) (by omega) (by omega) (fun g => ⟨Or.inr rfl, h1 g⟩) (fun g => ⟨Or.inl rfl, h0 g⟩)
theorem s7_isTurn {t N Rr K A nt : Nat} {ta F : Nat → Nat} {x : Int32} {M : Mem} {Q : Int32 → Mem → Prop} (hB : BK M t N Rr K A nt ta F) (h1 : RGE 0 (Rr - 1) x → Q 1 M) (h0 : ¬ RGE 0 (Rr - 1) x → Q 0 M) : wX7_isTurn x M Q := by
  obtain ⟨ht, e2, e1, k2, k1⟩ := BK_t hB
  obtain ⟨-, ⟨t0, t1, t2, t3, b1, b2, b3, b4, b5, b6⟩, -⟩ := hB
  refine ⟨k2, ?_⟩
  rw [e2, t1, nI_sub1 (by omega)]
  exact s7_within (a := 0) (b := Rr - 1) (by omega) (by omega) (fun g => ⟨Or.inr rfl, h1 g⟩) (fun g => ⟨Or.inl rfl, h0 g⟩)
theorem s8_isLeaf {N Rr K A : Nat} {x : Int32} {M : Mem} {Q : Int32 → Mem → Prop} (hT : TLR M N Rr K A) (h1 : RGE 0 (N - 1) x → Q 1 M) (h0 : ¬ RGE 0 (N - 1) x → Q 0 M) : wX8_isLeaf x M Q := by
  obtain ⟨t0, t1, t2, t3, b1, b2, b3, b4, b5, b6⟩ := hT
  refine ⟨vz (by decide), ?_⟩
  rw [cl0, t0, nI_sub1 (by omega), nI_l (by omega)]
  exact s8_in (a := 0) (b := N - 1) (by omega) (by omega) (fun g => ⟨Or.inr rfl, h1 g⟩) (fun g => ⟨Or.inl rfl, h0 g⟩)
