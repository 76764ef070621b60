/-! PURE 1: rows of memory; the class's Row and Order -/
def sr (M : Mem) (i : Nat) (f : Nat → Int32) : Mem := fun a => if a = i then f else M a
theorem sr_self (M : Mem) (i : Nat) (f : Nat → Int32) : sr M i f i = f := if_pos rfl
theorem sr_ne {M : Mem} {i : Nat} {f : Nat → Int32} {a : Nat} (h : a ≠ i) : sr M i f a = M a := if_neg h
theorem mu_sr0 (M : Mem) (i k : Nat) (v : Int32) : mu M i k v = sr M i (upd (M i) k v) := rfl
theorem mu_sr (M : Mem) (i : Nat) (f : Nat → Int32) (k : Nat) (v : Int32) : mu (sr M i f) i k v = sr M i (upd f k v) := by
  funext a
  unfold mu sr
  by_cases h : a = i <;> simp [h]
theorem sr_id (M : Mem) (i : Nat) : sr M i (M i) = M := by
  funext a
  unfold sr
  by_cases h : a = i <;> simp [h]
theorem sr_sr (M : Mem) (i : Nat) (f g : Nat → Int32) : sr (sr M i f) i g = sr M i g := by
  funext a
  unfold sr
  by_cases h : a = i <;> simp [h]
theorem upd_at (f : Nat → Int32) (k : Nat) (v : Int32) : upd f k v k = v := if_pos rfl
theorem upd_ne {f : Nat → Int32} {k j : Nat} {v : Int32} (h : j ≠ k) : upd f k v j = f j := if_neg h
theorem mu_at (M : Mem) (i k : Nat) (v : Int32) : mu M i k v i k = v := by rw [mu_self, upd_at]
theorem mu_no {M : Mem} {i k a b : Nat} {v : Int32} (h : a ≠ i ∨ b ≠ k) : mu M i k v a b = M a b := by
  by_cases h1 : a = i
  · subst h1
    rw [mu_self]
    rcases h with h | h
    · exact absurd rfl h
    · exact upd_ne h
  · rw [mu_ne h1]
theorem ln_le (i : Nat) : ln i ≤ 300 := by
  by_cases h : i < 106
  · have : ∀ j, j < 106 → ln j ≤ 300 := by decide +kernel
    exact this i h
  · unfold ln
    rw [List.getD_eq_getElem?_getD, List.getElem?_eq_none (by have : lnL.length = 106 := rfl; omega)]
    exact Nat.zero_le _
theorem b_le {a b : Nat} {A B : Prop} (ha : a < 2 ^ 31) (hb : b < 2 ^ 31) (h1 : a ≤ b → A) (h2 : b < a → B) : (nI a ≤ nI b → A) ∧ (¬ nI a ≤ nI b → B) :=
  ⟨fun h => h1 ((nI_leI ha hb).mp h), fun h => h2 (Nat.not_le.mp fun q => h ((nI_leI ha hb).mpr q))⟩
theorem b_lt {a b : Nat} {A B : Prop} (ha : a < 2 ^ 31) (hb : b < 2 ^ 31) (h1 : a < b → A) (h2 : b ≤ a → B) : (nI a < nI b → A) ∧ (¬ nI a < nI b → B) :=
  ⟨fun h => h1 ((nI_ltI ha hb).mp h), fun h => h2 (Nat.not_lt.mp fun q => h ((nI_ltI ha hb).mpr q))⟩
theorem b_eq {a b : Nat} {A B : Prop} (ha : a < 2 ^ 31) (hb : b < 2 ^ 31) (h1 : a = b → A) (h2 : a ≠ b → B) : (nI a = nI b → A) ∧ (¬ nI a = nI b → B) :=
  ⟨fun h => h1 ((nI_eq ha hb).mp h), fun h => h2 fun q => h ((nI_eq ha hb).mpr q)⟩
theorem b_ne {a b : Nat} {A B : Prop} (ha : a < 2 ^ 31) (hb : b < 2 ^ 31) (h1 : a ≠ b → A) (h2 : a = b → B) : (¬ nI a = nI b → A) ∧ (nI a = nI b → B) :=
  ⟨fun h => h1 fun q => h ((nI_eq ha hb).mpr q), fun h => h2 ((nI_eq ha hb).mp h)⟩
theorem bn_t {c A B : Prop} (h : c) (b : B) : (¬ c → A) ∧ (c → B) := ⟨fun q => absurd h q, fun _ => b⟩
theorem bn_f {c A B : Prop} (h : ¬ c) (a : A) : (¬ c → A) ∧ (c → B) := ⟨fun _ => a, fun q => absurd q h⟩
theorem bn_c {c A B : Prop} (a : ¬ c → A) (b : c → B) : (¬ c → A) ∧ (c → B) := ⟨a, b⟩
theorem nI_neg {a : Nat} (h : a < 2 ^ 31) : ¬ nI a = -4 := fun q => by
  have h1 : (nI a).toInt = (a : Int) := nI_toInt h
  rw [q] at h1
  have h2 : Int32.toInt (-4) = -4 := by decide
  omega
theorem nI_inj {a b : Nat} (ha : a < 2 ^ 31) (hb : b < 2 ^ 31) (h : nI a = nI b) : a = b := (nI_eq ha hb).mp h
theorem s4_at {r i : Nat} {M : Mem} {Q : Int32 → Mem → Prop} (hi : i < ln (r + 1)) (h : Q (M (r + 1) i) M) : wX4_at r (nI i) M Q := by
  have hl := ln_le (r + 1)
  refine br_f (nI_pos (by omega)) (b_le (a := ln (r + 1)) (b := i) (by omega) (by omega) (fun q => by omega) (fun _ => ⟨vp_in_nI hi (by omega), ?_⟩))
  rw [nI_clamp (by omega)]
  exact h
theorem s4_put {r i : Nat} {x : Int32} {M : Mem} {Q : Mem → Prop} (hi : i < ln (r + 1)) (h : Q (mu M (r + 1) i x)) : wX4_put r (nI i) x M Q := by
  have hl := ln_le (r + 1)
  refine br_f (nI_pos (by omega)) (b_le (a := ln (r + 1)) (b := i) (by omega) (by omega) (fun q => by omega) (fun _ => ⟨vp_in_nI hi (by omega), ?_⟩))
  rw [nI_clamp (by omega)]
  exact h
theorem s4_fill {r : Nat} {x : Int32} {M : Mem} {Q : Mem → Prop} (h : Q (sr M (r + 1) (fun p => if p < ln (r + 1) then x else M (r + 1) p))) : wX4_fill r x M Q := by
  have hl := ln_le (r + 1)
  refine loop_0 (fun n i M' => wX4_fill_2 r x Q n (nI i) M') (fun i M' => M' = sr M (r + 1) (fun p => if p < i then x else M (r + 1) p)) (ln (r + 1)) M ?_ ?_ ?_
  · simp only [Nat.not_lt_zero, if_false]
    exact (sr_id M (r + 1)).symm
  · intro n M' hM
    refine b_le (a := ln (r + 1)) (b := ln (r + 1)) (by omega) (by omega) (fun _ => ?_) (fun q => by omega)
    rw [hM]; exact h
  · intro n i M' hi hM ih
    refine b_le (a := ln (r + 1)) (b := i) (by omega) (by omega) (fun q => by omega) (fun _ => ⟨vp_in_nI hi (by omega), ?_⟩)
    rw [nI_clamp (by omega), nI_1]
    apply ih
    rw [hM, mu_sr]
    congr 1
    funext p
    unfold upd
    by_cases h1 : p = i
    · simp [h1]
    · simp only [if_neg h1]
      by_cases h2 : p < i
      · rw [if_pos h2, if_pos (by omega)]
      · rw [if_neg h2, if_neg (by omega)]
theorem s4_copyFrom {r r' : Nat} {M : Mem} {Q : Mem → Prop} (hll : ln (r' + 1) = ln (r + 1)) (hne : r' + 1 ≠ r + 1) (h : Q (sr M (r + 1) (fun p => if p < ln (r + 1) then M (r' + 1) p else M (r + 1) p))) : wX4_copyFrom r r' M Q := by
  have hl := ln_le (r + 1)
  refine loop_0 (fun n i M' => wX4_copyFrom_2 r r' Q n (nI i) M') (fun i M' => M' = sr M (r + 1) (fun p => if p < i then M (r' + 1) p else M (r + 1) p)) (ln (r + 1)) M ?_ ?_ ?_
  · simp only [Nat.not_lt_zero, if_false]
    exact (sr_id M (r + 1)).symm
  · intro n M' hM
    refine b_le (a := ln (r + 1)) (b := ln (r + 1)) (by omega) (by omega) (fun _ => ?_) (fun q => by omega)
    rw [hM]; exact h
  · intro n i M' hi hM ih
    refine b_le (a := ln (r + 1)) (b := i) (by omega) (by omega) (fun q => by omega) (fun _ => s4_at (by omega) ⟨vp_in_nI hi (by omega), ?_⟩)
    rw [nI_clamp (by omega), nI_1]
    apply ih
    rw [hM, mu_sr, sr_ne hne]
    congr 1
    funext p
    unfold upd
    by_cases h1 : p = i
    · simp [h1]
    · simp only [if_neg h1]
      by_cases h2 : p < i
      · rw [if_pos h2, if_pos (by omega)]
      · rw [if_neg h2, if_neg (by omega)]
/-! readings: after one, the place p holds what lay at rs p -/
def layS (a p : Nat) : Nat := if p < a then p + 1 else if p = a then 0 else p
def cutS (N p : Nat) : Nat := if p < N then (p + N / 2) % N else p
def rs (N K A b : Nat) : Nat → Nat := if K = 3 then cutS N else if K = 1 ∨ (K = 2 ∧ b % 2 ≠ 0) then layS (N - 1) else layS (min A (N - 1))
theorem s1_leafAt {o p : Nat} {M : Mem} {Q : Int32 → Mem → Prop} (hl : ln (o + 2) = 40) (hp : p < 40) (h : Q (M (o + 2) p) M) : wX1_leafAt o (nI p) M Q := s4_at (r := o + 1) (by rw [show o + 1 + 1 = o + 2 from rfl, hl]; exact hp) h
theorem s1_swap {o p q : Nat} {M : Mem} {Q : Mem → Prop} (hl : ln (o + 2) = 40) (hp : p < 40) (hq : q < 40) (h : Q (sr M (o + 2) (upd (upd (M (o + 2)) p (M (o + 2) q)) q (M (o + 2) p)))) : wX1_swap o (nI p) (nI q) M Q := by
  have hl' : ln (o + 1 + 1) = 40 := hl
  refine s4_at (r := o + 1) (by omega) (s4_at (r := o + 1) (by omega) (s4_put (r := o + 1) (by omega) (s4_put (r := o + 1) (by omega) ?_)))
  rw [mu_sr0 M, mu_sr]
  exact h
theorem s1_number {o N : Nat} {M : Mem} {Q : Mem → Prop} (hl : ln (o + 2) = 40) (hN : N ≤ 40) (h : Q (sr (mu M o 2 (nI N)) (o + 2) (fun p => if p < N then nI p else M (o + 2) p))) : wX1_number o (nI N) M Q := by
  have hl' : ln (o + 1 + 1) = 40 := hl
  have hrow : mu M o 2 (nI N) (o + 2) = M (o + 2) := mu_ne (by omega)
  refine loop_0 (fun n i M' => wX1_number_7 o (nI N) Q n (nI i) M') (fun i M' => M' = sr (mu M o 2 (nI N)) (o + 2) (fun p => if p < i then nI p else M (o + 2) p)) N (mu M o 2 (nI N)) ?_ ?_ ?_
  · simp only [Nat.not_lt_zero, if_false]
    rw [← hrow]
    exact (sr_id _ _).symm
  · intro n M' hM
    refine b_le (a := N) (b := N) (by omega) (by omega) (fun _ => ?_) (fun q => by omega)
    rw [hM]; exact h
  · intro n i M' hi hM ih
    refine b_le (a := N) (b := i) (by omega) (by omega) (fun q => by omega) (fun _ => s4_put (r := o + 1) (by omega) ?_)
    rw [nI_1]
    apply ih
    rw [hM, show o + 1 + 1 = o + 2 from rfl, mu_sr]
    congr 1
    funext p
    unfold upd
    by_cases h1 : p = i
    · simp [h1]
    · simp only [if_neg h1]
      by_cases h2 : p < i
      · rw [if_pos h2, if_pos (by omega)]
      · rw [if_neg h2, if_neg (by omega)]
theorem s1_layTop {o a : Nat} {M : Mem} {Q : Mem → Prop} (hl : ln (o + 2) = 40) (ha : a < 40) (h : Q (sr M (o + 2) (fun p => M (o + 2) (layS a p)))) : wX1_layTop o (nI a) M Q := by
  have hl' : ln (o + 1 + 1) = 40 := hl
  refine s4_at (r := o + 1) (i := 0) (by omega) ?_
  refine loop_0 (fun n i M' => wX1_layTop_11 o (nI a) Q n (M (o + 1 + 1) 0) (nI i) M') (fun i M' => M' = sr M (o + 2) (fun p => if p < i then M (o + 2) (p + 1) else M (o + 2) p)) a M ?_ ?_ ?_
  · simp only [Nat.not_lt_zero, if_false]
    exact (sr_id _ _).symm
  · intro n M' hM
    refine b_le (a := a) (b := a) (by omega) (by omega) (fun _ => s4_put (r := o + 1) (by omega) ?_) (fun q => by omega)
    rw [hM, show o + 1 + 1 = o + 2 from rfl, mu_sr]
    have e : (upd (fun p => if p < a then M (o + 2) (p + 1) else M (o + 2) p) a (M (o + 2) 0)) = fun p => M (o + 2) (layS a p) := by
      funext p
      unfold upd layS
      by_cases h1 : p = a
      · subst h1; simp
      · simp only [if_neg h1]
        by_cases h2 : p < a
        · rw [if_pos h2, if_pos h2]
        · rw [if_neg h2, if_neg h2]
    rw [e]; exact h
  · intro n i M' hi hM ih
    refine b_le (a := a) (b := i) (by omega) (by omega) (fun q => by omega) (fun _ => ?_)
    rw [nI_1]
    refine s4_at (r := o + 1) (by omega) (s4_put (r := o + 1) (by omega) ?_)
    apply ih
    rw [hM, show o + 1 + 1 = o + 2 from rfl, mu_sr, sr_self]
    congr 1
    funext p
    unfold upd
    by_cases h1 : p = i
    · subst h1
      simp
      intro q
      omega
    · simp only [if_neg h1]
      by_cases h2 : p < i
      · rw [if_pos h2, if_pos (by omega)]
      · rw [if_neg h2, if_neg (by omega)]
theorem cutS_lt {N p : Nat} (h : p < N) : cutS N p = (p + N / 2) % N := if_pos h
theorem nI_sub1 {N : Nat} (h : 1 ≤ N) : nI N - (1 : Int32) = nI (N - 1) := pk_sub (a := N) (b := 1) h
theorem s1_cut {o N : Nat} {M : Mem} {Q : Mem → Prop} (hl2 : ln (o + 2) = 40) (hl4 : ln (o + 4) = 40) (hN : M o 2 = nI N) (h1 : 1 ≤ N) (h40 : N ≤ 40) (h : Q (sr (sr M (o + 4) (fun p => if p < 40 then M (o + 2) p else M (o + 4) p)) (o + 2) (fun p => M (o + 2) (cutS N p)))) : wX1_cut o M Q := by
  have hl2' : ln (o + 1 + 1) = 40 := hl2
  have hl4' : ln (o + 3 + 1) = 40 := hl4
  refine ⟨by decide, s4_copyFrom (r := o + 3) (r' := o + 1) (by omega) (by omega) ?_⟩
  rw [hl4', hN, show nI N / (2 : Int32) = nI (N / 2) from pk_div (a := N) (d := 2) (by omega) (by omega) (by omega)]
  generalize hM1 : sr M (o + 3 + 1) (fun p => if p < 40 then M (o + 1 + 1) p else M (o + 3 + 1) p) = M1
  have e1 : M1 o 2 = nI N := by rw [← hM1, sr_ne (by omega)]; exact hN
  have e2 : M1 (o + 2) = M (o + 2) := by rw [← hM1, sr_ne (by omega)]
  have e4 : ∀ p, p < 40 → M1 (o + 4) p = M (o + 2) p := fun p hp => by rw [← hM1, show o + 3 + 1 = o + 4 from rfl, sr_self]; exact if_pos hp
  refine loop_0 (fun n i M' => wX1_cut_20 o Q n (nI (N / 2)) (nI i) M') (fun i M' => M' = sr M1 (o + 2) (fun p => if p < i then M (o + 2) (cutS N p) else M (o + 2) p)) N M1 ?_ ?_ ?_
  · simp only [Nat.not_lt_zero, if_false]
    rw [← e2]
    exact (sr_id _ _).symm
  · intro n M' hM
    have e : M' o 2 = nI N := by rw [hM, sr_ne (by omega)]; exact e1
    unfold wX1_cut_20
    rw [e]
    refine b_le (a := N) (b := N) (by omega) (by omega) (fun _ => ?_) (fun q => by omega)
    have e5 : M' = sr (sr M (o + 4) (fun p => if p < 40 then M (o + 2) p else M (o + 4) p)) (o + 2) (fun p => M (o + 2) (cutS N p)) := by
      rw [hM, ← hM1]
      congr 1
      funext p
      by_cases hp : p < N
      · rw [if_pos hp]
      · rw [if_neg hp]
        unfold cutS
        rw [if_neg hp]
    rw [e5]
    exact h
  · intro n i M' hi hM ih
    have e : M' o 2 = nI N := by rw [hM, sr_ne (by omega)]; exact e1
    have hr : ∀ p, p < 40 → M' (o + 4) p = M (o + 2) p := fun p hp => by rw [hM, sr_ne (by omega)]; exact e4 p hp
    unfold wX1_cut_20
    rw [e, nI_add]
    refine b_le (a := N) (b := i) (by omega) (by omega) (fun q => by omega) (fun _ => ?_)
    have fin : ∀ z, z < N → z = cutS N i → wX1_cut_59 o (wX1_cut_20 o Q n) Q (nI (N / 2)) (nI i) (nI z) (o + 3) (nI i) (o + 1) M' := fun z hz hz2 => by
      refine s4_at (r := o + 3) (by omega) (s4_put (r := o + 1) (by omega) ?_)
      rw [nI_1]
      apply ih
      rw [hr z (by omega), hM, show o + 1 + 1 = o + 2 from rfl, mu_sr]
      congr 1
      funext p
      unfold upd
      by_cases h1 : p = i
      · subst h1
        rw [if_pos rfl, if_pos (by omega), hz2]
      · simp only [if_neg h1]
        by_cases h2 : p < i
        · rw [if_pos h2, if_pos (by omega)]
        · rw [if_neg h2, if_neg (by omega)]
    refine b_le (a := N) (b := i + N / 2) (by omega) (by omega) (fun q => ?_) (fun q => ?_)
    · rw [pk_sub q]
      refine fin _ (by omega) ?_
      rw [cutS_lt hi, Nat.mod_eq_sub_mod q, Nat.mod_eq_of_lt (by omega)]
    · refine fin _ q ?_
      rw [cutS_lt hi, Nat.mod_eq_of_lt q]
theorem nI_min {N A : Nat} (h1 : 1 ≤ N) (h40 : N ≤ 40) (hA : A ≤ 39) : (if (nI N - (1 : Int32)) < nI A then (nI N - (1 : Int32)) else nI A) = nI (min A (N - 1)) := by
  rw [nI_sub1 h1]
  by_cases h : N - 1 < A
  · rw [if_pos ((nI_ltI (by omega) (by omega)).mpr h), Nat.min_eq_right (by omega)]
  · rw [if_neg (fun q => h ((nI_ltI (by omega) (by omega)).mp q)), Nat.min_eq_left (by omega)]
theorem s1_readTop {o N K A b : Nat} {M : Mem} {Q : Int32 → Mem → Prop} (hl2 : ln (o + 2) = 40) (hl4 : ln (o + 4) = 40) (hN : M o 2 = nI N) (h1 : 1 ≤ N) (h40 : N ≤ 40) (hK : K ≤ 3) (hA : A ≤ 39) (hb : b < 2 ^ 31) (h : ∀ M1 : Mem, M1 (o + 2) = (fun p => M (o + 2) (rs N K A b p)) → (∀ a, a ≠ o + 2 → a ≠ o + 4 → M1 a = M a) → Q (M (o + 2) 0) M1) : wX1_readTop o (nI K) (nI A) (nI b) M Q := by
  have hl2' : ln (o + 1 + 1) = 40 := hl2
  refine s4_at (r := o + 1) (i := 0) (by omega) ?_
  have lay : ∀ a, a < 40 → rs N K A b = layS a → wX1_layTop o (nI a) M (fun M4 => wX1_readTop_65 o (nI K) (nI A) (nI b) Q (M (o + 1 + 1) 0) M4) := fun a ha hrs => by
    refine s1_layTop hl2 ha (h _ ?_ ?_)
    · rw [sr_self, hrs]
    · intro x hx _; exact sr_ne hx
  have up : rs N K A b = layS (N - 1) → wX1_readTop_38 o (nI K) (nI A) (nI b) Q (M (o + 1 + 1) 0) M := fun hrs => by
    unfold wX1_readTop_38
    rw [hN, nI_sub1 h1]
    exact lay _ (by omega) hrs
  have dn : rs N K A b = layS (min A (N - 1)) → wX1_readTop_51 o (nI K) (nI A) (nI b) Q (M (o + 1 + 1) 0) M := fun hrs => by
    unfold wX1_readTop_51
    rw [hN, nI_min h1 h40 hA]
    exact lay _ (by omega) hrs
  refine b_ne (a := K) (b := 3) (by omega) (by omega) (fun k3 => ?_) (fun k3 => ?_)
  · refine b_eq (a := K) (b := 1) (by omega) (by omega) (fun k1 => up ?_) (fun k1 => ?_)
    · unfold rs; rw [if_neg k3, if_pos (Or.inl k1)]
    · refine b_ne (a := K) (b := 2) (by omega) (by omega) (fun k2 => dn ?_) (fun k2 => ⟨by decide, ?_⟩)
      · unfold rs; rw [if_neg k3, if_neg (by omega)]
      · rw [show nI b - nI b / (2 : Int32) * (2 : Int32) = nI (b % 2) from pk_rem (a := b) (d := 2) hb (by omega) (by omega)]
        refine b_eq (a := b % 2) (b := 0) (by omega) (by omega) (fun q => dn ?_) (fun q => up ?_)
        · unfold rs; rw [if_neg k3, if_neg (by omega)]
        · unfold rs; rw [if_neg k3, if_pos (Or.inr ⟨k2, q⟩)]
  · refine s1_cut hl2 hl4 hN h1 h40 (h _ ?_ ?_)
    · rw [sr_self]; unfold rs; rw [if_pos k3]
    · intro x h2 h4; rw [sr_ne h2, sr_ne h4]
theorem s1_copyFrom {o o' : Nat} {M : Mem} {Q : Mem → Prop} (hl2 : ln (o + 2) = 40) (hl2' : ln (o' + 2) = 40) (hne : o' + 2 ≠ o + 2) (h : Q (sr (mu M o 2 (M o' 2)) (o + 2) (fun p => if p < 40 then M (o' + 2) p else M (o + 2) p))) (ho : o' + 2 ≠ o) : wX1_copyFrom o o' M Q := by
  have e1 : ln (o + 1 + 1) = 40 := hl2
  have e2 : ln (o' + 1 + 1) = 40 := hl2'
  refine s4_copyFrom (r := o + 1) (r' := o' + 1) (by omega) (by omega) ?_
  rw [e1, show o + 1 + 1 = o + 2 from rfl, show o' + 1 + 1 = o' + 2 from rfl, mu_ne ho, mu_ne (show o + 2 ≠ o by omega)]
  exact h
theorem s1_placeOf {o N : Nat} {M : Mem} {Q : Int32 → Mem → Prop} {x : Int32} (hl2 : ln (o + 2) = 40) (hN : M o 2 = nI N) (h40 : N ≤ 40) (p0 : Nat) (hp : p0 < N) (hx : M (o + 2) p0 = x) (hf : ∀ p, p < p0 → M (o + 2) p ≠ x) (h : Q (nI p0) M) : wX1_placeOf o x M Q := by
  have hl2' : ln (o + 1 + 1) = 40 := hl2
  have hx' : M (o + 1 + 1) p0 = x := hx
  refine loop_0 (fun n i M' => wX1_placeOf_2 o x Q n (nI i) M') (fun i M' => M' = M) p0 M rfl ?_ ?_
  · intro n M' hM
    subst hM
    unfold wX1_placeOf_2
    rw [hN]
    exact b_le (a := N) (b := p0) (by omega) (by omega) (fun q => by omega) (fun _ => s4_at (r := o + 1) (by omega) (bn_t hx' h))
  · intro n i M' hi hM ih
    subst hM
    unfold wX1_placeOf_2
    rw [hN]
    refine b_le (a := N) (b := i) (by omega) (by omega) (fun q => by omega) (fun _ => s4_at (r := o + 1) (by omega) (bn_f (hf i hi) ?_))
    rw [nI_1]
    exact ih _ rfl
