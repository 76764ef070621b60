/-! PURE 19: period -/
def CMK (a l k : Nat) : Prop := 1 ≤ k ∧ k ≤ l ∧ a * k % l = 0 ∧ ∀ v, 1 ≤ v → v < k → a * v % l ≠ 0
theorem cmk_ex {a l : Nat} (hl : 1 ≤ l) : ∃ k, CMK a l k := by
  obtain ⟨k, ⟨h1, h2⟩, h3⟩ := pk_least (fun k => 1 ≤ k ∧ a * k % l = 0) ⟨l, hl, Nat.mul_mod_left a l⟩
  refine ⟨k, h1, ?_, h2, fun v v1 v2 q => h3 v v2 ⟨v1, q⟩⟩
  rcases Nat.lt_or_ge l k with q | q
  · exact absurd ⟨hl, Nat.mul_mod_left a l⟩ (h3 l q)
  · exact q
theorem s3_cm {a l k : Nat} {M : Mem} {Q : Int32 → Mem → Prop} (hk : CMK a l k) (hal : a * l < 2 ^ 31) (hl : l < 2 ^ 31) (h : Q (nI (a * k)) M) : wX3_commonMultiple (nI a) (nI l) M Q := by
  obtain ⟨k1, k2, k3, k4⟩ := hk
  have mul : ∀ v, v ≤ l → a * v < 2 ^ 31 := fun v hv => Nat.lt_of_le_of_lt (Nat.mul_le_mul_left a hv) hal
  refine pk_loop (fun n i m => wX3_commonMultiple_2 (nI a) (nI l) Q n (nI i) m) (fun i m => m = M ∧ 1 ≤ i) k 1 M k1 ⟨rfl, Nat.le_refl _⟩ ?_ ?_
  · intro n m ⟨e, _⟩
    subst e
    unfold wX3_commonMultiple_2
    refine b_le (by omega) (by omega) (fun q => ?_) (fun q => ⟨nI_ne0 (by omega) (by omega), ?_⟩)
    · rw [show l = k by omega, pk_mul]
      exact h
    · rw [pk_mul, pk_rem (mul k k2) (by omega) hl, k3]
      exact ⟨fun n => absurd rfl n, fun _ => h⟩
  · intro n i m hi ⟨e, c⟩ hk2
    subst e
    unfold wX3_commonMultiple_2
    refine b_le (by omega) (by omega) (fun q => by omega) (fun q => ⟨nI_ne0 (by omega) (by omega), ?_⟩)
    rw [pk_mul, pk_rem (mul i (by omega)) (by omega) hl]
    have hm := Nat.mod_lt (a * i) (show l > 0 by omega)
    exact ⟨fun _ => by rw [nI_1]; exact hk2 _ ⟨rfl, by omega⟩, fun q => absurd q (nI_ne0 (Nat.pos_of_ne_zero (k4 i c hi)) (by omega))⟩
def IS (N : Nat) (E : Nat → Nat) (p a : Nat) : Prop := 1 ≤ a ∧ (∀ q, q < p → itE E a q = q) ∧ (∀ k, (∀ q, q < p → itE E k q = q) → k % a = 0) ∧ ∃ (S : Nat) (e : Nat → Nat), (∀ i, i < S → e i < N ∧ ∃ q m, q < p ∧ itE E m q = e i) ∧ (∀ i j, i < S → j < S → e i = e j → i = j) ∧ a * a * a ≤ 3 ^ S
theorem IS_0 (N : Nat) (E : Nat → Nat) : IS N E 0 1 := ⟨Nat.le_refl _, fun q hq => absurd hq (Nat.not_lt_zero _), fun k _ => Nat.mod_one k, 0, fun _ => 0, fun i hi => absurd hi (Nat.not_lt_zero _), fun i j hi => absurd hi (Nat.not_lt_zero _), Nat.le_refl _⟩
theorem IS_lt {N p a : Nat} {E : Nat → Nat} (h40 : N ≤ 40) (h : IS N E p a) : a < 2 ^ 22 := by
  obtain ⟨h1, h2, h3, S, e, e1, e2, e3⟩ := h
  have hS : S ≤ N := pigeon N S e (fun i hi => (e1 i hi).1) e2
  have h3p : 3 ^ S ≤ 3 ^ 40 := Nat.pow_le_pow_right (by decide) (by omega)
  rcases Nat.lt_or_ge a (2 ^ 22) with q | q
  · exact q
  · have a2 := Nat.mul_le_mul q q
    have a3 := Nat.mul_le_mul a2 q
    have : (2 ^ 22 * 2 ^ 22 * 2 ^ 22 : Nat) ≤ 3 ^ 40 := Nat.le_trans a3 (Nat.le_trans e3 h3p)
    exact absurd this (by decide +kernel)
theorem cube_le : ∀ l, l < 41 → l * l * l ≤ 3 ^ l := by decide +kernel
theorem IS_step {N p a l k : Nat} {E : Nat → Nat} (h40 : N ≤ 40) (hE : Pm N E) (h : IS N E p a) (hp : p < N) (hl : isLen E p l) (hlN : l ≤ N) (hk : CMK a l k) : IS N E (p + 1) (a * k) := by
  obtain ⟨h1, h2, h3, S, e, e1, e2, e3⟩ := h
  obtain ⟨k1, k2, k3, k4⟩ := hk
  have per : itE E (a * k) p = p := by
    have := itE_mod hl.2.1 (a * k)
    rw [k3] at this
    exact this.symm
  refine ⟨Nat.mul_pos h1 k1, fun q hq => ?_, fun k' hk' => ?_, ?_⟩
  · by_cases c : q = p
    · rw [c]; exact per
    · exact itE_mul (h2 q (by omega)) k
  · have r1 := h3 k' fun q hq => hk' q (by omega)
    have r2 := len_dvd hl (hk' p (by omega))
    have ec : k' = a * (k' / a) := by have := Nat.div_add_mod k' a; omega
    generalize k' / a = c at ec
    have el : a * k = l * (a * k / l) := by have := Nat.div_add_mod (a * k) l; omega
    have ecc : c = k * (c / k) + c % k := (Nat.div_add_mod c k).symm
    have e1 : k' = l * (a * k / l * (c / k)) + a * (c % k) := by
      rw [← Nat.mul_assoc, ← el, Nat.mul_assoc, ← Nat.mul_add, ← ecc]
      exact ec
    rw [e1, Nat.mul_add_mod] at r2
    have rl := Nat.mod_lt c (show k > 0 by omega)
    rcases Nat.eq_zero_or_pos (c % k) with z | z
    · rw [ec, ecc, z, Nat.add_zero, ← Nat.mul_assoc]
      exact Nat.mul_mod_right _ _
    · exact absurd r2 (k4 _ z rl)
  · rcases Classical.em (∃ q m, q < p ∧ itE E m q = p) with ⟨q, m, q1, q2⟩ | new
    · have pa : itE E a p = p := by rw [← q2, itE_comm, h2 q q1]
      have al := len_dvd hl pa
      have ek : k = 1 := by
        rcases Nat.lt_or_ge 1 k with c | c
        · exact absurd (by rw [Nat.mul_one]; exact al) (k4 1 (Nat.le_refl _) c)
        · omega
      subst ek
      rw [Nat.mul_one]
      refine ⟨S, e, fun i hi => ?_, e2, e3⟩
      obtain ⟨u1, x, m', u2, u3⟩ := e1 i hi
      exact ⟨u1, x, m', by omega, u3⟩
    · have cross : ∀ i j, i < S → j < l → e i ≠ itE E j p := fun i j hi hj q => by
        obtain ⟨u1, x, m', u2, u3⟩ := e1 i hi
        refine new ⟨x, l - j + m', u2, ?_⟩
        rw [itE_add, u3, q, ← itE_add, show l - j + j = l by omega]
        exact hl.2.1
      refine ⟨S + l, fun i => if i < S then e i else itE E (i - S) p, fun i hi => ?_, fun i j hi hj q => ?_, ?_⟩
      · by_cases c : i < S
        · simp only [if_pos c]
          obtain ⟨u1, x, m', u2, u3⟩ := e1 i c
          exact ⟨u1, x, m', by omega, u3⟩
        · simp only [if_neg c]
          exact ⟨(itE_pm hE _).1 p hp, p, i - S, by omega, rfl⟩
      · have q' : (if i < S then e i else itE E (i - S) p) = (if j < S then e j else itE E (j - S) p) := q
        by_cases c : i < S
        · by_cases d : j < S
          · rw [if_pos c, if_pos d] at q'
            exact e2 i j c d q'
          · rw [if_pos c, if_neg d] at q'
            exact absurd q' (cross i _ c (by omega))
        · by_cases d : j < S
          · rw [if_neg c, if_pos d] at q'
            exact absurd q'.symm (cross j _ d (by omega))
          · rw [if_neg c, if_neg d] at q'
            have := len_inj hE hp hl (show i - S < l by omega) (show j - S < l by omega) q'
            omega
      · have c1 : k * k * k ≤ 3 ^ l := Nat.le_trans (Nat.mul_le_mul (Nat.mul_le_mul k2 k2) k2) (cube_le l (by omega))
        have c2 : a * k * (a * k) * (a * k) = a * a * a * (k * k * k) := by
          rw [Nat.mul_mul_mul_comm a k a k, Nat.mul_mul_mul_comm (a * a) (k * k) a k]
        rw [c2, Nat.pow_add]
        exact Nat.mul_le_mul e3 c1
/-- a is the least number of rounds that brings all back -/
def PER (N : Nat) (E : Nat → Nat) (a : Nat) : Prop := 1 ≤ a ∧ a < 2 ^ 22 ∧ (∀ q, q < N → itE E a q = q) ∧ ∀ k, 1 ≤ k → k < a → ¬ ∀ q, q < N → itE E k q = q
theorem s3_rounds {N : Nat} {E : Nat → Nat} {M : Mem} {Q : Int32 → Mem → Prop} (h40 : N ≤ 40) (hE : Pm N E) (hR : RG N E M) (hN : M 32 1 = nI N) (h : ∀ a, PER N E a → Q (nI a) M) : wX3_roundsTogether 32 M Q := by
  obtain ⟨L, st, ix, b, hr⟩ := hR
  refine loop_0 (fun n i (s : Nat × Mem) => wX3_roundsTogether_4 32 Q n (nI s.1) (nI i) s.2) (fun i s => IS N E i s.1 ∧ s.2 = M) N (1, M) ⟨IS_0 N E, rfl⟩ ?_ ?_
  · intro n s ⟨p1, p2⟩
    unfold wX3_roundsTogether_4
    rw [p2, hN]
    refine b_le (by omega) (by omega) (fun _ => h _ ⟨p1.1, IS_lt h40 p1, p1.2.1, fun k k1 k2 q => ?_⟩) (fun q => by omega)
    have := p1.2.2.1 k q
    rw [Nat.mod_eq_of_lt k2] at this
    omega
  · intro n i s hi ⟨p1, p2⟩ hk
    obtain ⟨c1, c2, c3, c4, c5, c6, -⟩ := hr i hi
    have hlt := IS_lt h40 p1
    obtain ⟨k, hcm⟩ := cmk_ex (a := s.1) (l := L i) c4.1
    have mx : s.1 * L i < 2 ^ 31 := Nat.lt_of_le_of_lt (Nat.mul_le_mul (Nat.le_of_lt hlt) (show L i ≤ 40 by omega)) (by decide)
    unfold wX3_roundsTogether_4
    rw [p2, hN]
    refine b_le (by omega) (by omega) (fun q => by omega) (fun _ => s4_at (r := 48) (show i < 40 by omega) ?_)
    rw [show (48 + 1 : Nat) = 49 from rfl, c1]
    refine s3_cm hcm mx (by omega) ?_
    rw [nI_1]
    exact hk (s.1 * k, M) ⟨IS_step h40 hE p1 hi c4 (by omega) hcm, rfl⟩
theorem s8_isAtFirst {N Rr K A : Nat} {f : Nat → Nat} {M : Mem} {Q : Int32 → Mem → Prop} (hT : TLR M N Rr K A) (hf : ∀ p, p < N → M 100 p = nI (f p) ∧ f p < N) (h1 : (∀ p, p < N → f p = p) → Q 1 M) (h0 : ¬ (∀ p, p < N → f p = p) → Q 0 M) : wX8_isAtFirst M Q := by
  have h40 : N ≤ 40 := hT.2.2.2.2.2.1
  refine loop_0 (fun n i (s : Int32 × Mem) => wX8_isAtFirst_4 Q n s.1 (nI i) s.2) (fun i s => s.2 = M ∧ (s.1 = 1 ∧ (∀ p, p < i → f p = p) ∨ s.1 = 0 ∧ ¬ ∀ p, p < N → f p = p)) N (1, M) ⟨rfl, Or.inl ⟨rfl, fun p hp => absurd hp (Nat.not_lt_zero _)⟩⟩ ?_ ?_
  · intro n s ⟨p1, p2⟩
    unfold wX8_isAtFirst_4
    rw [p1, cl0, hT.1]
    refine ⟨vz (by decide), b_le (by omega) (by omega) (fun _ => ?_) (fun q => by omega)⟩
    rcases p2 with ⟨e, c⟩ | ⟨e, c⟩
    · rw [e]; exact ⟨Or.inr rfl, h1 c⟩
    · rw [e]; exact ⟨Or.inl rfl, h0 c⟩
  · intro n i s hi ⟨p1, p2⟩ hk
    unfold wX8_isAtFirst_4
    rw [p1, cl0, hT.1]
    refine ⟨vz (by decide), b_le (by omega) (by omega) (fun q => by omega) (fun _ => ?_)⟩
    rcases p2 with ⟨e, c⟩ | ⟨e, c⟩
    · rw [e]
      refine i_t' ⟨vi (show i < 40 by omega), ?_⟩
      rw [nI_clamp (by omega), (hf i hi).1]
      have := (hf i hi).2
      refine b_ne (by omega) (by omega) (fun q => ?_) (fun q => ?_)
      · unfold wX8_isAtFirst_32 wX8_isAtFirst_33
        rw [nI_1]
        exact hk (0, M) ⟨rfl, Or.inr ⟨rfl, fun c => q (c i hi)⟩⟩
      · unfold wX8_isAtFirst_33
        rw [nI_1]
        refine hk (1, M) ⟨rfl, Or.inl ⟨rfl, fun p hp => ?_⟩⟩
        by_cases d : p = i
        · rw [d]; exact q
        · exact c p (by omega)
    · rw [e]
      refine i_f' ?_
      unfold wX8_isAtFirst_32 wX8_isAtFirst_33
      rw [nI_1]
      exact hk (0, M) ⟨rfl, Or.inr ⟨rfl, c⟩⟩
theorem s8_period {M : Mem} {t N Rr K A nt a : Nat} {ta F : Nat → Nat} {Q : Int32 → Mem → Prop} (hB : BK M t N Rr K A nt ta F) (ha : PER N (EE N K A Rr) a) (h : ∀ M1, QF M M1 → Q (nI a) M1) : wX8_period M Q := by
  obtain ⟨b1, b2, b3, b4, -⟩ := TL_N hB.2.1
  have hE : Pm N (EE N K A Rr) := EE_pm b1
  refine s8_power (j := 1) hB (by omega) fun M1 f1 c1 => ?_
  refine pk_loop (fun n i m => wX8_period_7 Q n (nI i) m) (fun i m => 1 ≤ i ∧ QF M m ∧ ∀ p, p < N → m 100 p = nI (itE (EE N K A Rr) i p)) a 1 M1 ha.1 ⟨Nat.le_refl _, f1, c1⟩ ?_ ?_
  · intro n m ⟨p0, p1, p2⟩
    unfold wX8_period_7
    exact s8_isAtFirst (f := itE (EE N K A Rr) a) (QF_BK hB p1).2.2.1 (fun p hp => ⟨p2 p hp, (itE_pm hE a).1 p hp⟩) (fun _ => i_t (h _ p1)) (fun q => absurd ha.2.2.1 q)
  · intro n i m hi ⟨p0, p1, p2⟩ hk
    have hBm := QF_BK hB p1
    unfold wX8_period_7
    refine s8_isAtFirst (f := itE (EE N K A Rr) i) hBm.2.2.1 (fun p hp => ⟨p2 p hp, (itE_pm hE i).1 p hp⟩) (fun q => absurd q (ha.2.2.2 i p0 hi)) (fun _ => i_f ?_)
    refine s8_put (N := N) (β := EE N K A Rr) rfl rfl (by decide) (by decide) (by decide) hBm.2.2.1.1 b2 (fun p hp => ⟨hBm.2.2.2.2.2.2.1 p hp, hE.1 p hp⟩) fun M2 d1 d2 => ?_
    rw [nI_1]
    refine hk _ ⟨by omega, QF_trans p1 (QF_of fun x _ _ _ d => d2 x (by omega) (by omega)), fun p hp => ?_⟩
    rw [d1 p hp, p2 _ (hE.1 p hp), itE_add, itE_one]
theorem k_period {M : Mem} {Q : Int32 → Int32 → Mem → Prop} (hI : INV M) (h : GQ Q) : wX7_period M (fun r1 M1 => wX8_period M1 (fun r2 M2 => Q r1 r2 M2)) := by
  have hI' := hI
  obtain ⟨t, N, Rr, K, A, nt, ta, F, hB, hT, hP, hK, hS⟩ := hI
  obtain ⟨b1, b2, b3, b4, -⟩ := TL_N hB.2.1
  have h6 := hB.2.2.2.2.2.1
  exact s3_rounds b2 (EE_pm b1) h6.1 h6.2.2.2.2 fun a ha => s8_period hB ha fun M1 f1 => h _ _ (QF_INV hI' f1)
