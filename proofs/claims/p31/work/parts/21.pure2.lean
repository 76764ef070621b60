/-! PURE 2: the reference's readings -/
theorem cl0 : (0 : Int32).toNatClampNeg = 0 := sb_cl0
theorem vz {a : Nat} (h : 0 < ln a) : vp_in (0 : Int32) (ln a) := vp_in_nI (n := 0) h (by have := ln_le a; omega)
theorem vi {a i : Nat} (h : i < ln a) : vp_in (nI i) (ln a) := vp_in_nI h (by have := ln_le a; omega)
theorem s8_layBelow {a m : Nat} {M : Mem} {Q : Mem → Prop} (hl : 40 ≤ ln a) (hm : m < 40) (h : Q (sr M a (fun p => M a (layS m p)))) : wX8_layBelow a (0 : Int32) (nI m) M Q := by
  have hll := ln_le a
  refine ⟨vz (by omega), ?_⟩
  rw [cl0]
  refine loop_0 (fun n i M' => wX8_layBelow_8 a (0 : Int32) (nI m) Q n (M a 0) (nI i) M') (fun i M' => M' = sr M a (fun p => if p < i then M a (p + 1) else M a p)) m M ?_ ?_ ?_
  · simp only [Nat.not_lt_zero, if_false]
    exact (sr_id _ _).symm
  · intro n M' hM
    unfold wX8_layBelow_8
    simp only [Int32.zero_add]
    refine b_le (a := m) (b := m) (by omega) (by omega) (fun _ => ⟨vi (by omega), ?_⟩) (fun q => by omega)
    rw [nI_clamp (by omega), hM, mu_sr]
    have e : (upd (fun p => if p < m then M a (p + 1) else M a p) m (M a 0)) = fun p => M a (layS m p) := by
      funext p
      unfold upd layS
      by_cases h1 : p = m
      · subst h1; simp
      · simp only [if_neg h1]
        by_cases h2 : p < m
        · rw [if_pos h2, if_pos h2]
        · rw [if_neg h2, if_neg h2]
    rw [e]; exact h
  · intro n i M' hi hM ih
    unfold wX8_layBelow_8
    simp only [Int32.zero_add]
    refine b_le (a := m) (b := i) (by omega) (by omega) (fun q => by omega) (fun _ => ?_)
    rw [nI_1]
    refine ⟨vi (by omega), vi (by omega), ?_⟩
    rw [nI_clamp (by omega), nI_clamp (by omega)]
    apply ih
    rw [hM, mu_sr, sr_self]
    congr 1
    funext p
    unfold upd
    by_cases h1 : p = i
    · subst h1
      simp
      intro q
      omega
    · simp only [if_neg h1]
      by_cases h2 : p < i
      · rw [if_pos h2, if_pos (by omega)]
      · rw [if_neg h2, if_neg (by omega)]
theorem s8_cut {a N : Nat} {M : Mem} {Q : Mem → Prop} (hl : 40 ≤ ln a) (ha : a ≠ 97) (ha1 : a ≠ 81) (hN : M 81 0 = nI N) (h1 : 1 ≤ N) (h40 : N ≤ 40) (h : ∀ M1 : Mem, M1 a = (fun p => M a (cutS N p)) → (∀ x, x ≠ a → x ≠ 97 → M1 x = M x) → Q M1) : wX8_cut a (0 : Int32) M Q := by
  have hll := ln_le a
  have l97 : ln 97 = 40 := rfl
  refine ⟨vz (by decide), by decide, ?_⟩
  rw [cl0, hN, show nI N / (2 : Int32) = nI (N / 2) from pk_div (a := N) (d := 2) (by omega) (by omega) (by omega)]
  refine loop_0 (fun n i M' => wX8_cut_15 a (0 : Int32) Q n (nI N) (nI (N / 2)) (nI i) M') (fun i M' => M' a = M a ∧ (∀ p, p < i → M' 97 p = M a (cutS N p)) ∧ ∀ x, x ≠ 97 → M' x = M x) N M ⟨rfl, fun p hp => by omega, fun _ _ => rfl⟩ ?_ ?_
  · intro n M1 ⟨m1, m2, m3⟩
    refine b_le (a := N) (b := N) (by omega) (by omega) (fun _ => ?_) (fun q => by omega)
    refine loop_0 (fun n i M' => wX8_cut_48 a (0 : Int32) Q n (nI N) (nI i) M') (fun i M' => M' a = (fun p => if p < i then M a (cutS N p) else M a p) ∧ M' 97 = M1 97 ∧ ∀ x, x ≠ a → x ≠ 97 → M' x = M x) N M1 ⟨by rw [m1]; funext p; simp, rfl, fun x _ hx => m3 x hx⟩ ?_ ?_
    · intro n M' ⟨k1, k2, k3⟩
      refine b_le (a := N) (b := N) (by omega) (by omega) (fun _ => h M' ?_ k3) (fun q => by omega)
      rw [k1]
      funext p
      by_cases hp : p < N
      · rw [if_pos hp]
      · rw [if_neg hp]
        unfold cutS
        rw [if_neg hp]
    · intro n i M' hi ⟨k1, k2, k3⟩ ih
      unfold wX8_cut_48
      simp only [Int32.zero_add]
      refine b_le (a := N) (b := i) (by omega) (by omega) (fun q => by omega) (fun _ => ⟨vi (by omega), vi (by omega), ?_⟩)
      rw [nI_clamp (by omega), nI_1]
      apply ih
      refine ⟨?_, by rw [mu_ne (Ne.symm ha)]; exact k2, fun x hx h97 => by rw [mu_ne hx]; exact k3 x hx h97⟩
      rw [mu_self, k1, k2, m2 i hi]
      funext p
      unfold upd
      by_cases e1 : p = i
      · subst e1
        rw [if_pos rfl, if_pos (by omega)]
      · simp only [if_neg e1]
        by_cases e2 : p < i
        · rw [if_pos e2, if_pos (by omega)]
        · rw [if_neg e2, if_neg (by omega)]
  · intro n i M' hi ⟨m1, m2, m3⟩ ih
    unfold wX8_cut_15
    simp only [Int32.zero_add]
    refine b_le (a := N) (b := i) (by omega) (by omega) (fun q => by omega) (fun _ => ⟨nI_ne0 (by omega) (by omega), ?_⟩)
    rw [nI_add, pk_rem (by omega) (by omega) (by omega)]
    have hz : (i + N / 2) % N < N := Nat.mod_lt _ (by omega)
    refine ⟨vi (by omega), vi (by omega), ?_⟩
    rw [nI_clamp (by omega), nI_clamp (by omega), nI_1]
    apply ih
    refine ⟨by rw [mu_ne ha]; exact m1, fun p hp => ?_, fun x hx => by rw [mu_ne hx]; exact m3 x hx⟩
    rw [mu_self]
    unfold upd
    by_cases e1 : p = i
    · subst e1
      rw [if_pos rfl, m1, cutS_lt hi]
    · rw [if_neg e1]; exact m2 p (by omega)
theorem s8_goRead {a N K A b : Nat} {M : Mem} {Q : Mem → Prop} (hl : 40 ≤ ln a) (ha : a ≠ 97) (ha1 : a ≠ 81) (hN : M 81 0 = nI N) (h1 : 1 ≤ N) (h40 : N ≤ 40) (hK : K ≤ 3) (hA : A ≤ 39) (hb : b < 2 ^ 31) (h : ∀ M1 : Mem, M1 a = (fun p => M a (rs N K A b p)) → (∀ x, x ≠ a → x ≠ 97 → M1 x = M x) → Q M1) : wX8_goRead a (0 : Int32) (nI K) (nI A) (nI b) M Q := by
  refine ⟨vz (by decide), ?_⟩
  rw [cl0, hN, nI_sub1 h1]
  have lay : ∀ z, z < 40 → rs N K A b = layS z → wX8_goRead_66 a (0 : Int32) (nI K) (nI A) (nI b) Q (nI z) (0 : Int32) M := fun z hz hrs => by
    refine s8_layBelow hl hz (h _ ?_ ?_)
    · rw [sr_self, hrs]
    · intro x hx _; exact sr_ne hx
  have main : ∀ d, d = min A (N - 1) → wX8_goRead_24 a (0 : Int32) (nI K) (nI A) (nI b) Q (nI (N - 1)) (nI d) M := fun d hd => by
    refine b_ne (a := K) (b := 3) (by omega) (by omega) (fun k3 => ?_) (fun k3 => ?_)
    · refine b_eq (a := K) (b := 0) (by omega) (by omega) (fun k0 => lay _ (by omega) ?_) (fun k0 => ?_)
      · unfold rs; rw [if_neg k3, if_neg (by omega), hd]
      · refine b_ne (a := K) (b := 2) (by omega) (by omega) (fun k2 => lay _ (by omega) ?_) (fun k2 => ⟨by decide, ?_⟩)
        · unfold rs; rw [if_neg k3, if_pos (by omega)]
        · rw [show nI b - nI b / (2 : Int32) * (2 : Int32) = nI (b % 2) from pk_rem (a := b) (d := 2) hb (by omega) (by omega)]
          refine b_ne (a := b % 2) (b := 0) (by omega) (by omega) (fun q => lay _ (by omega) ?_) (fun q => lay _ (by omega) ?_)
          · unfold rs; rw [if_neg k3, if_pos (Or.inr ⟨k2, q⟩)]
          · unfold rs; rw [if_neg k3, if_neg (by omega), hd]
    · refine s8_cut hl ha ha1 hN h1 h40 (fun M1 e1 e2 => h M1 ?_ e2)
      rw [e1]; unfold rs; rw [if_pos k3]
  exact b_le (a := N - 1) (b := A) (by omega) (by omega) (fun q => main _ (by omega)) (fun q => main _ (by omega))
