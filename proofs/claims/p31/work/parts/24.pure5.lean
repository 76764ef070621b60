/-! PURE 5: any reader by a step round a ring -/
theorem lN_negT {a : Nat} (h : a < 2 ^ 62) : (-lN a).toInt = -(a : Int) := by
  rw [Int64.toInt_neg, pk_lT (by omega)]
  exact Int.bmod_eq_of_le (by omega) (by omega)
theorem lN_ndiv {a n : Nat} (ha : a < 2 ^ 62) (hn : 0 < n) (hn2 : n < 2 ^ 62) : (-lN a) / lN n = -lN (a / n) := by
  apply Int64.toInt_inj.mp
  have h1 : a / n ≤ a := Nat.div_le_self a n
  have e : ((a : Int)).tdiv (n : Int) = ((a / n : Nat) : Int) := by rw [Int.tdiv_eq_ediv_of_nonneg (by omega)]; exact (Int.natCast_ediv a n).symm
  generalize a / n = z at h1 e ⊢
  rw [Int64.toInt_div, lN_negT ha, pk_lT (by omega), lN_negT (by omega), Int.neg_tdiv, e]
  clear e
  exact Int.bmod_eq_of_le (by omega) (by omega)
theorem lN_nrem {a n : Nat} (ha : a < 2 ^ 62) (hn : 0 < n) (hn2 : n < 2 ^ 62) : (-lN a) - (-lN a) / lN n * lN n = -lN (a % n) := by
  rw [lN_ndiv ha hn hn2, Int64.neg_mul, Int64.sub_neg, lN_mul]
  have h : lN a - lN (a / n * n) = lN (a % n) := by
    rw [lN_sub (Nat.div_mul_le_self a n)]
    congr 1
    have := Nat.div_add_mod' a n
    omega
  rw [← h, Int64.neg_sub]
  rw [Int64.sub_eq_add_neg, Int64.add_comm]
theorem sJ_floorModN {a n : Nat} {M : Mem} {Q : Int64 → Mem → Prop} (h0 : 0 < a) (ha : a < 2 ^ 62) (hn : 0 < n) (hn2 : n < 2 ^ 62) (h : Q (lN ((n - a % n) % n)) M) : wJ9_floorMod_f86c9 (-lN a) (lN n) M Q := by
  have hr : a % n < n := Nat.mod_lt _ hn
  have hx : ¬ 0 ≤ (-lN a) ^^^ lN n := by
    rw [Int64.le_iff_toInt_le]
    have e1 : ((-lN a) ^^^ lN n).toBitVec.msb = true := by
      show ((-lN a).toBitVec ^^^ (lN n).toBitVec).msb = true
      rw [BitVec.msb_xor, BitVec.msb_eq_toInt, BitVec.msb_eq_toInt]
      have a1 : (-lN a).toBitVec.toInt = -(a : Int) := lN_negT ha
      have a2 : (lN n).toBitVec.toInt = (n : Int) := pk_lT (by omega)
      rw [a1, a2]
      simp
      omega
    rw [BitVec.msb_eq_toInt] at e1
    have e2 := of_decide_eq_true e1
    have e3 : ((-lN a) ^^^ lN n).toInt < 0 := e2
    show ¬ (0 : Int) ≤ _
    omega
  refine ⟨fun q => ?_, br_f (fun q => hx ((lg_cmp_ge _ _).mp q)) ?_⟩
  · have := (pk_lEQ (a := n) (b := 0) (by omega) (by omega)).mp q
    omega
  · rw [lN_nrem ha hn hn2]
    by_cases hz : a % n = 0
    · rw [hz]
      have e0 : -lN 0 = (0 : Int64) := by decide
      rw [e0]
      refine br_t ((lg_cmp_eq _ _).mpr rfl) ?_
      show Q (0 : Int64) M
      rw [hz, Nat.sub_zero, Nat.mod_self] at h
      exact h
    · have hne : ¬ lg_cmp (-lN (a % n)) 0 = 0 := fun q => by
        have q1 := (lg_cmp_eq _ _).mp q
        have q2 := lN_negT (a := a % n) (by omega)
        rw [q1] at q2
        have q3 : (0 : Int64).toInt = 0 := by decide
        omega
      refine br_f hne ?_
      rw [Int64.add_comm, ← Int64.sub_eq_add_neg, lN_sub (by omega)]
      rw [Nat.mod_eq_of_lt (by omega)] at h
      exact h
theorem nI_gt0 {a : Nat} (h : 0 < a) (h2 : a < 2 ^ 31) : (0 : Int32) < nI a := (nI_ltI (a := 0) (b := a) (by omega) h2).mpr h
theorem s3_ring {N p s : Nat} {E : Nat → Nat} {M : Mem} {Q : Int32 → Mem → Prop} (hR : RG N E M) (hE : Pm N E) (h40 : N ≤ 40) (hp : p < N) (hs : s < 2 ^ 61) (h : Q (nI (itE E s p)) M) : wX3_placeInRing 32 (nI p) (lN s) M Q := by
  obtain ⟨L, st, ix, b, hh⟩ := hR
  obtain ⟨h1, h2, h3, h4, h5, h6, h7, h8, h9⟩ := hh p hp
  refine s4_at (r := 48) (by show p < 40; omega) ?_
  rw [show M (48 + 1) p = nI (L p) from h1]
  refine br_t (nI_gt0 (by omega) (by omega)) (s4_at (r := 50) (by show p < 40; omega) ?_)
  rw [show M (50 + 1) p = nI (ix p) from h3, nI_l (by omega), nI_l (by omega), lN_add]
  refine sJ_floorMod (by omega) (by omega) (by omega) (s4_at (r := 46) (by show p < 40; omega) ?_)
  have hm : (ix p + s) % L p < L p := Nat.mod_lt _ (by omega)
  rw [show M (46 + 1) p = nI (st p) from h2, lN_i, nI_add]
  refine s4_at (r := 44) (by show _ < 40; omega) ?_
  rw [show M (44 + 1) (st p + (ix p + s) % L p) = _ from h9 _ hm]
  have hb : itE E (L p) (b p) = b p := by
    apply (itE_pm hE (ix p)).2 _ _ ((itE_pm hE (L p)).1 _ h7) h7
    rw [itE_comm, h8]
    exact h4.2.1
  rw [itE_mod hb, Nat.add_comm, itE_add, h8]
  exact h
theorem s3_ringN {N p j q : Nat} {E : Nat → Nat} {M : Mem} {Q : Int32 → Mem → Prop} (hR : RG N E M) (hE : Pm N E) (h40 : N ≤ 40) (hp : p < N) (hj : j < 2 ^ 31) (hq : q < N) (hqp : itE E j q = p) (h : Q (nI q) M) : wX3_placeInRing 32 (nI p) (-lN j) M Q := by
  obtain ⟨L, st, ix, b, hh⟩ := hR
  obtain ⟨h1, h2, h3, h4, h5, h6, h7, h8, h9⟩ := hh p hp
  have hb : itE E (L p) (b p) = b p := by
    apply (itE_pm hE (ix p)).2 _ _ ((itE_pm hE (L p)).1 _ h7) h7
    rw [itE_comm, h8]
    exact h4.2.1
  refine s4_at (r := 48) (by show p < 40; omega) ?_
  rw [show M (48 + 1) p = nI (L p) from h1]
  refine br_t (nI_gt0 (by omega) (by omega)) (s4_at (r := 50) (by show p < 40; omega) ?_)
  rw [show M (50 + 1) p = nI (ix p) from h3, nI_l (by omega), nI_l (by omega)]
  have fin : ∀ z, z < L p → (z + j) % L p = ix p → wX4_at 46 (nI p) M (fun r8 M7 => wX4_at 44 (r8 + (lN z).toInt32) M7 (fun r10 M9 => Q r10 M9)) := fun z hz hzj => by
    refine s4_at (r := 46) (by show p < 40; omega) ?_
    rw [show M (46 + 1) p = nI (st p) from h2, lN_i, nI_add]
    refine s4_at (r := 44) (by show _ < 40; omega) ?_
    rw [show M (44 + 1) (st p + z) = _ from h9 _ hz]
    have e : itE E z (b p) = q := by
      apply (itE_pm hE j).2 _ _ ((itE_pm hE z).1 _ h7) hq
      rw [hqp, ← itE_add, ← itE_mod hb, Nat.add_comm, hzj, h8]
    rw [e]
    exact h
  by_cases hc : j ≤ ix p
  · rw [← Int64.sub_eq_add_neg, lN_sub hc]
    refine sJ_floorMod (by omega) (by omega) (by omega) (fin _ (Nat.mod_lt _ (by omega)) ?_)
    rw [Nat.mod_add_mod, show ix p - j + j = ix p by omega, Nat.mod_eq_of_lt h5]
  · have e : lN (ix p) + -lN j = -lN (j - ix p) := by
      rw [← Int64.sub_eq_add_neg, ← lN_sub (by omega), Int64.neg_sub]
    rw [e]
    refine sJ_floorModN (by omega) (by omega) (by omega) (by omega) (fin _ (Nat.mod_lt _ (by omega)) ?_)
    have hr : (j - ix p) % L p < L p := Nat.mod_lt _ (by omega)
    rw [Nat.mod_add_mod]
    have e2 : L p - (j - ix p) % L p + j = ix p + L p * ((j - ix p) / L p + 1) := by
      have := Nat.div_add_mod (j - ix p) (L p)
      rw [Nat.mul_add, Nat.mul_one]
      omega
    rw [e2, Nat.add_mul_mod_self_left, Nat.mod_eq_of_lt h5]
