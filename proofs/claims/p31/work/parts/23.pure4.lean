/-! PURE 4: counting; how long a place's ring is -/
theorem pigeon : ∀ (N n : Nat) (f : Nat → Nat), (∀ i, i < n → f i < N) → (∀ i j, i < n → j < n → f i = f j → i = j) → n ≤ N := by
  intro N
  induction N with
  | zero =>
    intro n f h1 h2
    rcases Nat.eq_zero_or_pos n with h | h
    · omega
    · exact absurd (h1 0 h) (by omega)
  | succ N ih =>
    intro n f h1 h2
    by_cases h : ∃ i, i < n ∧ f i = N
    · obtain ⟨i0, hi0, hf⟩ := h
      have := ih (n - 1) (fun i => if i < i0 then f i else f (i + 1)) (fun i hi => by
        by_cases hc : i < i0
        · rw [if_pos hc]
          have a1 := h1 i (by omega)
          have a2 : f i ≠ N := fun q => by have := h2 i i0 (by omega) hi0 (q.trans hf.symm); omega
          omega
        · rw [if_neg hc]
          have a1 := h1 (i + 1) (by omega)
          have a2 : f (i + 1) ≠ N := fun q => by have := h2 (i + 1) i0 (by omega) hi0 (q.trans hf.symm); omega
          omega) (fun i j hi hj hij => by
        by_cases hc : i < i0 <;> by_cases hd : j < i0
        · rw [if_pos hc, if_pos hd] at hij; exact h2 i j (by omega) (by omega) hij
        · rw [if_pos hc, if_neg hd] at hij; have := h2 i (j + 1) (by omega) (by omega) hij; omega
        · rw [if_neg hc, if_pos hd] at hij; have := h2 (i + 1) j (by omega) (by omega) hij; omega
        · rw [if_neg hc, if_neg hd] at hij; have := h2 (i + 1) (j + 1) (by omega) (by omega) hij; omega)
      omega
    · have := ih n f (fun i hi => by
        have a1 := h1 i hi
        have a2 : f i ≠ N := fun q => h ⟨i, hi, q⟩
        omega) h2
      omega
/-- n is the length of p's ring -/
def isLen (E : Nat → Nat) (p n : Nat) : Prop := 1 ≤ n ∧ itE E n p = p ∧ ∀ k, 1 ≤ k → k < n → itE E k p ≠ p
theorem len_ex {N : Nat} {E : Nat → Nat} (h : Pm N E) {p : Nat} (hp : p < N) : ∃ n, n ≤ N ∧ isLen E p n := by
  have h0 : ∃ n, 1 ≤ n ∧ n ≤ N ∧ itE E n p = p := by
    rcases Classical.em (∃ n, 1 ≤ n ∧ n ≤ N ∧ itE E n p = p) with q | q
    · exact q
    · exfalso
      have := pigeon N (N + 1) (fun k => itE E k p) (fun i _ => (itE_pm h i).1 p hp) (fun i j hi hj hij => by
        rcases Nat.lt_trichotomy i j with hlt | he | hlt
        · exfalso
          refine q ⟨j - i, by omega, by omega, ?_⟩
          apply (itE_pm h i).2 _ _ ((itE_pm h (j - i)).1 p hp) hp
          rw [← itE_add, show i + (j - i) = j by omega]
          exact hij.symm
        · exact he
        · exfalso
          refine q ⟨i - j, by omega, by omega, ?_⟩
          apply (itE_pm h j).2 _ _ ((itE_pm h (i - j)).1 p hp) hp
          rw [← itE_add, show j + (i - j) = i by omega]
          exact hij)
      omega
  obtain ⟨n, ⟨h1, h2, h3⟩, hm⟩ := pk_least (fun n => 1 ≤ n ∧ n ≤ N ∧ itE E n p = p) h0
  exact ⟨n, h2, h1, h3, fun k hk hkn hz => hm k hkn ⟨hk, by omega, hz⟩⟩
theorem itE_mul {E : Nat → Nat} {p n : Nat} (h : itE E n p = p) : ∀ k, itE E (n * k) p = p
  | 0 => rfl
  | k + 1 => by rw [Nat.mul_succ, itE_add, h]; exact itE_mul h k
theorem itE_mod {E : Nat → Nat} {p n : Nat} (h : itE E n p = p) (k : Nat) : itE E (k % n) p = itE E k p := by
  conv => rhs; rw [← Nat.mod_add_div k n]
  rw [itE_add, itE_mul h]
theorem len_dvd {E : Nat → Nat} {p n : Nat} (h : isLen E p n) {k : Nat} (hk : itE E k p = p) : k % n = 0 := by
  obtain ⟨h1, h2, h3⟩ := h
  have h4 := itE_mod h2 k
  rw [hk] at h4
  rcases Nat.eq_zero_or_pos (k % n) with q | q
  · exact q
  · exact absurd h4 (h3 _ q (Nat.mod_lt _ (by omega)))
theorem len_inj {N : Nat} {E : Nat → Nat} (hE : Pm N E) {p n : Nat} (hp : p < N) (h : isLen E p n) {i j : Nat} (hi : i < n) (hj : j < n) (hij : itE E i p = itE E j p) : i = j := by
  obtain ⟨h1, h2, h3⟩ := h
  rcases Nat.lt_trichotomy i j with hlt | he | hlt
  · exfalso
    refine h3 (j - i) (by omega) (by omega) ?_
    apply (itE_pm hE i).2 _ _ ((itE_pm hE (j - i)).1 p hp) hp
    rw [← itE_add, show i + (j - i) = j by omega]
    exact hij.symm
  · exact he
  · exfalso
    refine h3 (i - j) (by omega) (by omega) ?_
    apply (itE_pm hE j).2 _ _ ((itE_pm hE (i - j)).1 p hp) hp
    rw [← itE_add, show j + (i - j) = i by omega]
    exact hij
theorem len_it {N : Nat} {E : Nat → Nat} (hE : Pm N E) {p n : Nat} (hp : p < N) (h : isLen E p n) (k : Nat) : isLen E (itE E k p) n := by
  obtain ⟨h1, h2, h3⟩ := h
  refine ⟨h1, by rw [itE_comm, h2], fun j hj hjn q => ?_⟩
  rw [itE_comm] at q
  exact h3 j hj hjn ((itE_pm hE k).2 _ _ ((itE_pm hE j).1 p hp) hp q)
theorem len_uniq {E : Nat → Nat} {p n m : Nat} (h : isLen E p n) (h' : isLen E p m) : n = m := by
  rcases Nat.lt_trichotomy n m with q | q | q
  · exact absurd h.2.1 (h'.2.2 n h.1 q)
  · exact q
  · exact absurd h'.2.1 (h.2.2 m h'.1 q)
theorem mod_sub_add {L ix j : Nat} (hL : 0 < L) : (j + (ix + (L * j - j)) % L) % L = ix % L := by
  have h1 : j ≤ L * j := Nat.le_mul_of_pos_left j hL
  rw [Nat.add_mod_mod, show j + (ix + (L * j - j)) = ix + L * j by omega, Nat.add_mul_mod_self_left]
/-! the class's Readers -/
/-- what the rows of Readers hold of a reader's order E: L, st, ix, b by place -/
def RG (N : Nat) (E : Nat → Nat) (M : Mem) : Prop := ∃ L st ix b : Nat → Nat, ∀ p, p < N → M 49 p = nI (L p) ∧ M 47 p = nI (st p) ∧ M 51 p = nI (ix p) ∧ isLen E p (L p) ∧ ix p < L p ∧ st p + L p ≤ N ∧ b p < N ∧ itE E (ix p) (b p) = p ∧ ∀ k, k < L p → M 45 (st p + k) = nI (itE E k (b p))
theorem RG_congr {N : Nat} {E : Nat → Nat} {M M' : Mem} (h : RG N E M) (h1 : M' 45 = M 45) (h2 : M' 47 = M 47) (h3 : M' 49 = M 49) (h4 : M' 51 = M 51) : RG N E M' := by
  obtain ⟨L, st, ix, b, hh⟩ := h
  exact ⟨L, st, ix, b, by rw [h1, h2, h3, h4]; exact hh⟩
theorem lN_add_mod {a b : Nat} : lN a + lN b = lN (a + b) := lN_add a b
theorem sJ_floorMod {a n : Nat} {M : Mem} {Q : Int64 → Mem → Prop} (ha : a < 2 ^ 62) (hn : 0 < n) (hn2 : n < 2 ^ 62) (h : Q (lN (a % n)) M) : wJ9_floorMod_f86c9 (lN a) (lN n) M Q := by
  have hx : 0 ≤ lN a ^^^ lN n := by
    rw [Int64.le_iff_toInt_le]
    have e : (lN a ^^^ lN n) = lN (a ^^^ n) := by
      apply Int64.toBitVec_inj.mp
      show BitVec.ofNat 64 a ^^^ BitVec.ofNat 64 n = BitVec.ofNat 64 (a ^^^ n)
      rw [BitVec.ofNat_xor]
    have hb : a ^^^ n < 2 ^ 62 := Nat.xor_lt_two_pow ha hn2
    rw [e, pk_lT (by omega)]
    show (0 : Int) ≤ _
    omega
  refine ⟨fun q => ?_, br_t ((lg_cmp_ge _ _).mpr hx) ?_⟩
  · have := (pk_lEQ (a := n) (b := 0) (by omega) (by omega)).mp q
    omega
  · show Q _ M
    rw [pk_lRem (by omega) hn (by omega)]
    exact h
