/-! PURE 20: bits; ever -/
def lb (x : Int64) (i : Nat) : Bool := x.toBitVec.getLsbD i
theorem l_ext {x y : Int64} (h : ∀ i, i < 64 → lb x i = lb y i) : x = y := Int64.toBitVec_inj.mp (BitVec.eq_of_getLsbD_eq (fun i hi => h i hi))
theorem lb_or (x y : Int64) (i : Nat) : lb (x ||| y) i = (lb x i || lb y i) := by unfold lb; rw [Int64.toBitVec_or, BitVec.getLsbD_or]
theorem lb_and (x y : Int64) (i : Nat) : lb (x &&& y) i = (lb x i && lb y i) := by unfold lb; rw [Int64.toBitVec_and, BitVec.getLsbD_and]
theorem lb_xor (x y : Int64) (i : Nat) : lb (x ^^^ y) i = (lb x i ^^ lb y i) := by unfold lb; rw [Int64.toBitVec_xor, BitVec.getLsbD_xor]
theorem lb_m1 : ∀ i, i < 64 → lb (-1) i = true := by decide +kernel
theorem lb_0 (i : Nat) : lb 0 i = false := BitVec.getLsbD_zero
theorem lb_bit : ∀ v, v < 41 → ∀ i, i < 64 → lb ((1 : Int64) <<< ((nI v).toInt64 &&& 63)) i = decide (i = v) := by decide +kernel
theorem lb_all : ∀ N, N < 41 → ∀ i, i < 64 → lb (((1 : Int64) <<< ((nI N).toInt64 &&& 63)) - (1 : Int64)) i = decide (i < N) := by decide +kernel
def BS (x : Int64) (S : Nat → Prop) : Prop := ∀ i, i < 64 → (lb x i = true ↔ S i)
theorem BS_uniq {x y : Int64} {S T : Nat → Prop} (hx : BS x S) (hy : BS y T) (h : ∀ i, i < 64 → (S i ↔ T i)) : x = y :=
  l_ext fun i hi => by
    have a := hx i hi
    have b := hy i hi
    have c := h i hi
    cases e : lb x i
    · cases f : lb y i
      · rfl
      · exact absurd (a.mpr (c.mpr (b.mp f))) (by rw [e]; decide)
    · exact (b.mpr (c.mp (a.mp e))).symm
theorem BS_0 : BS 0 (fun _ => False) := fun i _ => by rw [lb_0]; exact ⟨fun q : false = true => Bool.noConfusion q, fun q : False => q.elim⟩
theorem BS_bit {v : Nat} (hv : v < 41) : BS ((1 : Int64) <<< ((nI v).toInt64 &&& 63)) (fun i => i = v) := fun i hi => by rw [lb_bit v hv i hi]; exact decide_eq_true_iff
theorem BS_all {N : Nat} (hN : N < 41) : BS (((1 : Int64) <<< ((nI N).toInt64 &&& 63)) - (1 : Int64)) (fun i => i < N) := fun i hi => by rw [lb_all N hN i hi]; exact decide_eq_true_iff
theorem BS_or {x y : Int64} {S T : Nat → Prop} (hx : BS x S) (hy : BS y T) : BS (x ||| y) (fun i => S i ∨ T i) := fun i hi => by rw [lb_or, Bool.or_eq_true, hx i hi, hy i hi]
theorem BS_and {x y : Int64} {S T : Nat → Prop} (hx : BS x S) (hy : BS y T) : BS (x &&& y) (fun i => S i ∧ T i) := fun i hi => by rw [lb_and, Bool.and_eq_true, hx i hi, hy i hi]
theorem BS_not {x : Int64} {S : Nat → Prop} (hx : BS x S) : BS (x ^^^ (-1 : Int64)) (fun i => ¬ S i) := fun i hi => by
  rw [lb_xor, lb_m1 i hi, Bool.xor_true]
  show (!lb x i) = true ↔ ¬ S i
  rw [← hx i hi]
  cases lb x i <;> simp
theorem BS_cg {x : Int64} {S T : Nat → Prop} (hx : BS x S) (h : ∀ i, i < 64 → (S i ↔ T i)) : BS x T := fun i hi => (hx i hi).trans (h i hi)
theorem lvs_BS {N Rr K A j : Nat} {F : Nat → Nat} (h2 : 2 ≤ N) (h40 : N ≤ 40) (hF : ∀ p, p < N → F p < N) : ∀ n, BS (lvs N Rr K A F j n) (fun i => ∃ k, k < n ∧ F (plc N Rr K A j k) = i)
  | 0 => BS_cg BS_0 fun i _ => ⟨fun q => q.elim, fun ⟨k, hk, _⟩ => absurd hk (Nat.not_lt_zero _)⟩
  | n + 1 => by
    have hv := hF _ (plc_lt (Rr := Rr) (K := K) (A := A) (j := j) (i := n) h2)
    refine BS_cg (BS_or (lvs_BS h2 h40 hF n) (BS_bit (show F (plc N Rr K A j n) < 41 by omega))) fun i _ => ⟨fun q => ?_, fun ⟨k, hk, e⟩ => ?_⟩
    · rcases q with ⟨k, hk, e⟩ | q
      · exact ⟨k, by omega, e⟩
      · exact ⟨n, by omega, q.symm⟩
    · by_cases c : k = n
      · subst c
        exact Or.inr e.symm
      · exact Or.inl ⟨k, by omega, e⟩
def rdP (N Rr K A q : Nat) : Prop := ∃ k, k < Rr ∧ eS N K A k 0 = q
theorem TN_rd {N Rr K A q : Nat} {M : Mem} (hr : Rr ≤ 40) (h : TN N K A Rr M q) : (rdP N Rr K A q ∧ ∃ k, k < Rr ∧ M 41 q = nI k) ∨ (¬ rdP N Rr K A q ∧ M 41 q = -4) := by
  rcases h with ⟨k, k1, k2, k3, k4⟩ | ⟨h1, h2⟩
  · exact Or.inl ⟨⟨k, k1, k2⟩, k, k1, k4⟩
  · exact Or.inr ⟨fun ⟨k, k1, k2⟩ => h1 k k1 k2, h2⟩
theorem s3_inRing {M : Mem} {N Rr K A x : Nat} {Q : Int32 → Mem → Prop} (hR : RDS M N Rr K A) (h2 : 2 ≤ N) (h40 : N ≤ 40) (hr : Rr ≤ 40) (hx : x < N) (h : ∀ c L, M 49 x = nI L → c ≤ L → L ≤ 40 → (c = 0 ↔ ∀ m, ¬ rdP N Rr K A (itE (EE N K A Rr) m x)) → (c = L ↔ ∀ m, rdP N Rr K A (itE (EE N K A Rr) m x)) → Q (nI c) M) : wX3_readInRing 32 (nI x) M Q := by
  obtain ⟨⟨L, st, ix, b, hr4⟩, g2, g3, g4, g5⟩ := hR
  obtain ⟨c1, c2, c3, c4, c5, c6, c7, c8, c9⟩ := hr4 x hx
  have hE : Pm N (EE N K A Rr) := EE_pm h2
  have lb' : itE (EE N K A Rr) (L x) (b x) = b x := by
    have hl := len_it hE hx c4 (L x - ix x)
    have e : itE (EE N K A Rr) (L x - ix x) x = itE (EE N K A Rr) (L x) (b x) := by
      have : itE (EE N K A Rr) (L x - ix x) (itE (EE N K A Rr) (ix x) (b x)) = itE (EE N K A Rr) (L x) (b x) := by rw [← itE_add]; congr 1; omega
      rwa [c8] at this
    have e2 : itE (EE N K A Rr) (ix x) (itE (EE N K A Rr) (L x) (b x)) = itE (EE N K A Rr) (ix x) (b x) := by
      rw [itE_comm, c8]
      exact c4.2.1
    exact (itE_pm hE (ix x)).2 _ _ ((itE_pm hE _).1 _ c7) c7 e2
  have to : ∀ m, ∃ v, v < L x ∧ itE (EE N K A Rr) m x = itE (EE N K A Rr) v (b x) := fun m => by
    refine ⟨(m + ix x) % L x, Nat.mod_lt _ (by omega), ?_⟩
    rw [itE_mod lb', itE_add, c8]
  have fro : ∀ v, ∃ m, itE (EE N K A Rr) m x = itE (EE N K A Rr) v (b x) := fun v => by
    refine ⟨v + (L x - ix x), ?_⟩
    have : itE (EE N K A Rr) (v + (L x - ix x)) (itE (EE N K A Rr) (ix x) (b x)) = itE (EE N K A Rr) v (b x) := by
      rw [← itE_add, show v + (L x - ix x) + ix x = v + L x by omega, itE_add, lb']
    rwa [c8] at this
  refine loop_0 (fun n i (s : Nat × Mem) => wX3_readInRing_4 32 (nI x) Q n (nI s.1) (nI i) s.2) (fun i s => s.2 = M ∧ s.1 ≤ i ∧ (s.1 = 0 ↔ ∀ v, v < i → ¬ rdP N Rr K A (itE (EE N K A Rr) v (b x))) ∧ (s.1 = i ↔ ∀ v, v < i → rdP N Rr K A (itE (EE N K A Rr) v (b x)))) (L x) (0, M) ⟨rfl, Nat.le_refl _, ⟨fun _ v hv => absurd hv (Nat.not_lt_zero _), fun _ => rfl⟩, ⟨fun _ v hv => absurd hv (Nat.not_lt_zero _), fun _ => rfl⟩⟩ ?_ ?_
  · intro n s ⟨p1, p2, p3, p4⟩
    unfold wX3_readInRing_4
    refine s4_at (r := 48) (show x < 40 by omega) ?_
    rw [show (48 + 1 : Nat) = 49 from rfl, p1, c1]
    refine b_le (by omega) (by omega) (fun _ => h s.1 (L x) c1 p2 (by omega) (p3.trans ⟨fun q m => ?_, fun q v hv => ?_⟩) (p4.trans ⟨fun q m => ?_, fun q v hv => ?_⟩)) (fun q => by omega)
    · obtain ⟨v, v1, v2⟩ := to m
      rw [v2]
      exact q v v1
    · obtain ⟨m, e⟩ := fro v
      rw [← e]
      exact q m
    · obtain ⟨v, v1, v2⟩ := to m
      rw [v2]
      exact q v v1
    · obtain ⟨m, e⟩ := fro v
      rw [← e]
      exact q m
  · intro n i s hi ⟨p1, p2, p3, p4⟩ hk
    unfold wX3_readInRing_4
    refine s4_at (r := 48) (show x < 40 by omega) ?_
    rw [show (48 + 1 : Nat) = 49 from rfl, p1, c1]
    refine b_le (by omega) (by omega) (fun q => by omega) (fun _ => s4_at (r := 46) (show x < 40 by omega) ?_)
    rw [show (46 + 1 : Nat) = 47 from rfl, c2, nI_add]
    refine s4_at (r := 44) (show st x + i < 40 by omega) ?_
    rw [show (44 + 1 : Nat) = 45 from rfl, c9 i hi]
    have hq := (itE_pm hE i).1 _ c7
    refine s4_at (r := 40) (Nat.lt_of_lt_of_le hq h40) ?_
    rw [show (40 + 1 : Nat) = 41 from rfl]
    unfold wX3_readInRing_45
    rw [nI_1, nI_1]
    rcases TN_rd hr (g3 _ hq) with ⟨r1, k, k1, k2⟩ | ⟨r1, r2⟩
    · rw [k2]
      refine ⟨fun q => absurd q (nI_neg (by omega)), fun _ => hk (s.1 + 1, M) ⟨rfl, by show s.1 + 1 ≤ i + 1; omega, ⟨fun q => ?_, fun q => absurd r1 (q i (by omega))⟩, ⟨fun q v hv => ?_, fun q => ?_⟩⟩⟩
      · exact absurd q (Nat.succ_ne_zero _)
      · by_cases d : v = i
        · rw [d]; exact r1
        · exact p4.mp (by have : s.1 + 1 = i + 1 := q; omega) v (by omega)
      · have := p4.mpr fun v hv => q v (by omega)
        show s.1 + 1 = i + 1
        omega
    · rw [r2]
      refine ⟨fun _ => hk (s.1, M) ⟨rfl, by show s.1 ≤ i + 1; omega, ⟨fun q v hv => ?_, fun q => p3.mpr fun v hv => q v (by omega)⟩, ⟨fun q => ?_, fun q => absurd (q i (by omega)) r1⟩⟩, fun q => absurd rfl q⟩
      · by_cases d : v = i
        · rw [d]; exact r1
        · exact p3.mp q v (by omega)
      · have : s.1 = i + 1 := q
        omega
