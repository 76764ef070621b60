/-! PURE 3: readings as maps of places; the reference's powers -/
def Pm (N : Nat) (f : Nat → Nat) : Prop := (∀ p, p < N → f p < N) ∧ ∀ p q, p < N → q < N → f p = f q → p = q
theorem layS_pm {N a : Nat} (ha : a < N) : Pm N (layS a) := by
  refine ⟨fun p hp => ?_, fun p q hp hq h => ?_⟩
  · unfold layS
    by_cases h1 : p < a
    · rw [if_pos h1]; omega
    · rw [if_neg h1]
      by_cases h2 : p = a
      · rw [if_pos h2]; omega
      · rw [if_neg h2]; exact hp
  · unfold layS at h
    by_cases h1 : p < a <;> by_cases h2 : p = a <;> by_cases h3 : q < a <;> by_cases h4 : q = a <;> simp only [h1, h2, h3, h4, if_true, if_false] at h <;> first | omega | (simp at h; omega) | (exfalso; simp at h) | (split at h <;> split at h <;> omega)
theorem cutS_pm {N : Nat} (h1 : 1 ≤ N) : Pm N (cutS N) := by
  refine ⟨fun p hp => by rw [cutS_lt hp]; exact Nat.mod_lt _ (by omega), fun p q hp hq h => ?_⟩
  rw [cutS_lt hp, cutS_lt hq] at h
  have e : ∀ x, x < N → (x + N / 2) % N = if x + N / 2 < N then x + N / 2 else x + N / 2 - N := fun x hx => by
    by_cases hz : x + N / 2 < N
    · rw [if_pos hz, Nat.mod_eq_of_lt hz]
    · rw [if_neg hz, Nat.mod_eq_sub_mod (by omega), Nat.mod_eq_of_lt (by omega)]
  rw [e p hp, e q hq] at h
  split at h <;> split at h <;> omega
theorem rs_pm {N K A b : Nat} (h1 : 1 ≤ N) : Pm N (rs N K A b) := by
  unfold rs
  by_cases h3 : K = 3
  · rw [if_pos h3]; exact cutS_pm h1
  · rw [if_neg h3]
    by_cases h2 : K = 1 ∨ (K = 2 ∧ b % 2 ≠ 0)
    · rw [if_pos h2]; exact layS_pm (by omega)
    · rw [if_neg h2]; exact layS_pm (by omega)
/-- the order behind i readings: at p lies what lay at eS i p -/
def eS (N K A : Nat) : Nat → Nat → Nat
  | 0, p => p
  | i + 1, p => eS N K A i (rs N K A i p)
theorem eS_pm {N K A : Nat} (h1 : 1 ≤ N) : ∀ i, Pm N (eS N K A i)
  | 0 => ⟨fun _ h => h, fun _ _ _ _ h => h⟩
  | i + 1 => ⟨fun p hp => (eS_pm h1 i).1 _ ((rs_pm h1).1 p hp), fun p q hp hq h => (rs_pm h1).2 p q hp hq ((eS_pm h1 i).2 _ _ ((rs_pm h1).1 p hp) ((rs_pm h1).1 q hq) h)⟩
/-- a map of places j times -/
def itE (E : Nat → Nat) : Nat → Nat → Nat
  | 0, p => p
  | j + 1, p => itE E j (E p)
theorem itE_add (E : Nat → Nat) : ∀ (i j p : Nat), itE E (i + j) p = itE E i (itE E j p)
  | i, 0, p => rfl
  | i, j + 1, p => by rw [← Nat.add_assoc]; exact itE_add E i j (E p)
theorem itE_pm {N : Nat} {E : Nat → Nat} (h : Pm N E) : ∀ j, Pm N (itE E j)
  | 0 => ⟨fun _ h => h, fun _ _ _ _ h => h⟩
  | j + 1 => ⟨fun p hp => (itE_pm h j).1 _ (h.1 p hp), fun p q hp hq e => h.2 p q hp hq ((itE_pm h j).2 _ _ (h.1 p hp) (h.1 q hq) e)⟩
theorem itE_succ (E : Nat → Nat) (j p : Nat) : itE E (j + 1) p = E (itE E j p) := by
  rw [Nat.add_comm, itE_add]; rfl
theorem itE_one (E : Nat → Nat) (p : Nat) : itE E 1 p = E p := rfl
theorem itE_comm (E : Nat → Nat) (i j p : Nat) : itE E i (itE E j p) = itE E j (itE E i p) := by rw [← itE_add, ← itE_add, Nat.add_comm]
theorem lN_2 (n : Nat) : lN n = Int64.ofNat n := rfl
/-- what the reference's put does: a's row behind b's -/
theorem s8_put {a b' N : Nat} {β : Nat → Nat} {M : Mem} {Q : Mem → Prop} (ha : ln a = 40) (hb : ln b' = 40) (ha2 : a ≠ 102) (hb2 : b' ≠ 102) (ha1 : a ≠ 81) (hN : M 81 0 = nI N) (h40 : N ≤ 40) (hβ : ∀ p, p < N → M b' p = nI (β p) ∧ β p < N) (h : ∀ M1 : Mem, (∀ p, p < N → M1 a p = M a (β p)) → (∀ x, x ≠ a → x ≠ 102 → M1 x = M x) → Q M1) : wX8_put a b' M Q := by
  refine loop_0 (fun n i M' => wX8_put_2 a b' Q n (nI i) M') (fun i M' => (∀ p, p < i → M' 102 p = M a (β p)) ∧ ∀ x, x ≠ 102 → M' x = M x) N M ⟨fun p hp => by omega, fun _ _ => rfl⟩ ?_ ?_
  · intro n M1 ⟨m1, m2⟩
    refine ⟨vz (by decide), ?_⟩
    rw [cl0, m2 81 (by decide), hN]
    refine b_le (a := N) (b := N) (by omega) (by omega) (fun _ => ?_) (fun q => by omega)
    refine loop_0 (fun n i M' => wX8_put_31 a b' Q n (nI i) M') (fun i M' => (∀ p, p < i → M' a p = M a (β p)) ∧ (∀ p, p < N → M' 102 p = M a (β p)) ∧ ∀ x, x ≠ a → x ≠ 102 → M' x = M x) N M1 ⟨fun p hp => by omega, m1, fun x _ hx => m2 x hx⟩ ?_ ?_
    · intro n M' ⟨k1, k2, k3⟩
      refine ⟨vz (by decide), ?_⟩
      rw [cl0, k3 81 (Ne.symm ha1) (by decide), hN]
      exact b_le (a := N) (b := N) (by omega) (by omega) (fun _ => h M' k1 k3) (fun q => by omega)
    · intro n i M' hi ⟨k1, k2, k3⟩ ih
      refine ⟨vz (by decide), ?_⟩
      rw [cl0, k3 81 (Ne.symm ha1) (by decide), hN]
      refine b_le (a := N) (b := i) (by omega) (by omega) (fun q => by omega) (fun _ => ⟨vi (by show i < 40; omega), vi (by omega), ?_⟩)
      rw [nI_clamp (by omega), nI_1]
      apply ih
      refine ⟨fun p hp => ?_, fun p hp => by rw [mu_ne (Ne.symm ha2)]; exact k2 p hp, fun x hx h2 => by rw [mu_ne hx]; exact k3 x hx h2⟩
      rw [mu_self]
      unfold upd
      by_cases e1 : p = i
      · subst e1; rw [if_pos rfl]; exact k2 p hi
      · rw [if_neg e1]; exact k1 p (by omega)
  · intro n i M' hi ⟨m1, m2⟩ ih
    obtain ⟨hb1, hb3⟩ := hβ i hi
    refine ⟨vz (by decide), ?_⟩
    rw [cl0, m2 81 (by decide), hN]
    refine b_le (a := N) (b := i) (by omega) (by omega) (fun q => by omega) (fun _ => ⟨vi (by omega), ?_⟩)
    rw [nI_clamp (by omega), m2 b' hb2, hb1]
    refine ⟨vi (by omega), vi (by show i < 40; omega), ?_⟩
    rw [nI_clamp (by omega), nI_1]
    apply ih
    refine ⟨fun p hp => ?_, fun x hx => by rw [mu_ne hx]; exact m2 x hx⟩
    rw [mu_self]
    unfold upd
    by_cases e1 : p = i
    · subst e1; rw [if_pos rfl, m2 a ha2]
    · rw [if_neg e1]; exact m1 p (by omega)
theorem lN_le0 {k : Nat} (h : k < 2 ^ 63) : (lg_cmp (lN k) (0 : Int64) ≤ 0) ↔ k = 0 := by
  rw [lg_cmp_le]
  have := pk_lLE (a := k) (b := 0) h (by decide)
  rw [show (0 : Int64) = lN 0 from rfl, this]
  omega
theorem s8_layPower {N jj : Nat} {E : Nat → Nat} {M : Mem} {Q : Mem → Prop} (hj : jj < 2 ^ 63) (hN : M 81 0 = nI N) (h40 : N ≤ 40) (hpm : Pm N E) (hE : ∀ p, p < N → M 99 p = nI (E p)) (h : ∀ M1 : Mem, (∀ p, p < N → M1 100 p = nI (itE E jj p)) → (∀ x, x ≠ 100 → x ≠ 101 → x ≠ 102 → M1 x = M x) → Q M1) : wX8_layPower (lN jj) M Q := by
  refine loop_0 (fun n i M' => wX8_layPower_2 (lN jj) Q n (nI i) M') (fun i M' => (∀ p, p < i → M' 100 p = nI p) ∧ (∀ p, p < i → M' 101 p = M 99 p) ∧ ∀ x, x ≠ 100 → x ≠ 101 → M' x = M x) 40 M ⟨fun p hp => by omega, fun p hp => by omega, fun _ _ _ => rfl⟩ ?_ ?_
  · intro n M1 ⟨m1, m2, m3⟩
    refine b_le (a := 40) (b := 40) (by omega) (by omega) (fun _ => ?_) (fun q => by omega)
    have key : ∀ (n k c d : Nat) (M' : Mem), k < n → k < 2 ^ 63 → c + d * k = jj → (∀ p, p < N → M' 100 p = nI (itE E c p)) → (∀ p, p < N → M' 101 p = nI (itE E d p)) → (∀ x, x ≠ 100 → x ≠ 101 → x ≠ 102 → M' x = M x) → wX8_layPower_35 (lN jj) Q n (lN k) M' := by
      intro n
      induction n with
      | zero => intro k c d M' h0; omega
      | succ n ihn =>
        intro k c d M' hkn hk hcd p1 p2 p3
        by_cases h0 : k = 0
        · subst h0
          refine br_t ((lN_le0 hk).mpr rfl) (h M' ?_ p3)
          rw [show jj = c by omega]
          exact p1
        · have step : ∀ (c2 : Nat) (M2 : Mem), c2 + (2 * d) * (k / 2) = jj → (∀ p, p < N → M2 100 p = nI (itE E c2 p)) → (∀ p, p < N → M2 101 p = nI (itE E d p)) → (∀ x, x ≠ 100 → x ≠ 101 → x ≠ 102 → M2 x = M x) → wX8_layPower_63 (lN jj) (wX8_layPower_35 (lN jj) Q n) Q (lN k) M2 := fun c2 M2 hc2 q1 q2 q3 => by
            refine s8_put (a := 101) (b' := 101) (N := N) (β := itE E d) rfl rfl (by decide) (by decide) (by decide) (by rw [q3 81 (by decide) (by decide) (by decide)]; exact hN) h40 (fun p hp => ⟨q2 p hp, (itE_pm hpm d).1 p hp⟩) (fun M3 r1 r2 => ⟨by decide, ?_⟩)
            rw [show lN k / (2 : Int64) = lN (k / 2) from pk_lDiv (a := k) (b := 2) hk (by omega) (by omega)]
            refine ihn (k / 2) c2 (2 * d) M3 (by omega) (by omega) hc2 ?_ ?_ ?_
            · intro p hp; rw [r2 100 (by decide) (by decide)]; exact q1 p hp
            · intro p hp
              rw [r1 p hp, q2 _ ((itE_pm hpm d).1 p hp), ← itE_add, show d + d = 2 * d by omega]
            · intro x h1 h2 h3; rw [r2 x h2 h3]; exact q3 x h1 h2 h3
          refine br_f (fun q => h0 ((lN_le0 hk).mp q)) ⟨by decide, ?_⟩
          rw [show lN k - lN k / (2 : Int64) * (2 : Int64) = lN (k % 2) from pk_lRem (a := k) (b := 2) hk (by omega) (by omega)]
          have hc1 : lg_cmp (lN (k % 2)) (1 : Int64) = 0 ↔ k % 2 = 1 := by
            rw [lg_cmp_eq, show (1 : Int64) = lN 1 from rfl]
            exact pk_lEQ (by omega) (by omega)
          refine bn_c (fun hc => ?_) (fun hc => ?_)
          · have hk2 : k % 2 = 0 := by
              rcases Nat.mod_two_eq_zero_or_one k with q | q
              · exact q
              · exact absurd (hc1.mpr q) hc
            refine step c M' ?_ p1 p2 p3
            rw [← hcd, Nat.mul_assoc, Nat.mul_left_comm, show 2 * (k / 2) = k by omega]
          · have hk2 : k % 2 = 1 := hc1.mp hc
            refine s8_put (a := 100) (b' := 101) (N := N) (β := itE E d) rfl rfl (by decide) (by decide) (by decide) (by rw [p3 81 (by decide) (by decide) (by decide)]; exact hN) h40 (fun p hp => ⟨p2 p hp, (itE_pm hpm d).1 p hp⟩) (fun M3 r1 r2 => ?_)
            refine step (c + d) M3 ?_ ?_ ?_ ?_
            · have e : 2 * (k / 2) + 1 = k := by omega
              rw [← hcd]
              have e2 : 2 * d * (k / 2) = d * (2 * (k / 2)) := by rw [Nat.mul_comm 2 d, Nat.mul_assoc]
              have e3 : d * k = d * (2 * (k / 2)) + d := by
                have : d * (2 * (k / 2) + 1) = d * (2 * (k / 2)) + d := by rw [Nat.mul_add, Nat.mul_one]
                rw [← this, e]
              omega
            · intro p hp
              rw [r1 p hp, p1 _ ((itE_pm hpm d).1 p hp), ← itE_add]
            · intro p hp; rw [r2 101 (by decide) (by decide)]; exact p2 p hp
            · intro x h1 h2 h3; rw [r2 x h1 h3]; exact p3 x h1 h2 h3
    refine ⟨jj + 1, ?_⟩
    exact key (jj + 1) jj 0 1 M1 (by omega) hj (by omega) (fun p hp => m1 p (by omega)) (fun p hp => by rw [m2 p (by omega), hE p hp]; rfl) (fun x h1 h2 _ => m3 x h1 h2)
  · intro n i M' hi ⟨m1, m2, m3⟩ ih
    refine b_le (a := 40) (b := i) (by omega) (by omega) (fun q => by omega) (fun _ => ⟨vi (by show i < 40; omega), vi (by show i < 40; omega), vi (by show i < 40; omega), ?_⟩)
    rw [nI_clamp (by omega), nI_1]
    apply ih
    refine ⟨fun p hp => ?_, fun p hp => ?_, fun x h1 h2 => by rw [mu_ne h2, mu_ne h1]; exact m3 x h1 h2⟩
    · rw [mu_ne (by decide), mu_self]
      unfold upd
      by_cases e1 : p = i
      · rw [if_pos e1, e1]
      · rw [if_neg e1]; exact m1 p (by omega)
    · rw [mu_self, mu_ne (show 101 ≠ 100 by decide), mu_ne (show 99 ≠ 100 by decide)]
      unfold upd
      by_cases e1 : p = i
      · rw [if_pos e1, e1, m3 99 (by decide) (by decide)]
      · rw [if_neg e1]; exact m2 p (by omega)
