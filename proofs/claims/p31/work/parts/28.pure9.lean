/-! PURE 9: calls that look at the orders -/
def GQ (Q : Int32 → Int32 → Mem → Prop) : Prop := ∀ r M, INV M → Q r r M
theorem r8_leaf_t {N Rr K A : Nat} {x : Int32} {M : Mem} {Q : Int32 → Mem → Prop} (hT : TLR M N Rr K A) (g : RGE 0 (N - 1) x) (h : Q 1 M) : wX8_isLeaf x M Q := s8_isLeaf hT (fun _ => h) (fun n => absurd g n)
theorem r8_leaf_f {N Rr K A : Nat} {x : Int32} {M : Mem} {Q : Int32 → Mem → Prop} (hT : TLR M N Rr K A) (g : ¬ RGE 0 (N - 1) x) (h : Q 0 M) : wX8_isLeaf x M Q := s8_isLeaf hT (fun n => absurd n g) (fun _ => h)
theorem r8_in_t {a b : Nat} {x : Int32} {M : Mem} {Q : Int32 → Mem → Prop} (hab : a ≤ b) (hb : b < 2 ^ 31) (g : RGE a b x) (h : Q 1 M) : wX8_in x.toInt64 (lN a) (lN b) M Q := s8_in hab hb (fun _ => h) (fun n => absurd g n)
theorem r8_in_f {a b : Nat} {x : Int32} {M : Mem} {Q : Int32 → Mem → Prop} (hab : a ≤ b) (hb : b < 2 ^ 31) (g : ¬ RGE a b x) (h : Q 0 M) : wX8_in x.toInt64 (lN a) (lN b) M Q := s8_in hab hb (fun n => absurd n g) (fun _ => h)
theorem r8_rdr_t {x : Int64} {M : Mem} {Q : Int32 → Mem → Prop} (g : RDR x) (h : Q 1 M) : wX8_isReader x M Q := s8_isReader (fun _ => h) (fun n => absurd g n)
theorem r8_rdr_f {x : Int64} {M : Mem} {Q : Int32 → Mem → Prop} (g : ¬ RDR x) (h : Q 0 M) : wX8_isReader x M Q := s8_isReader (fun n => absurd n g) (fun _ => h)
theorem one_ne : ¬ (1 : Int32) = 0 := by decide
theorem i_t {A B : Prop} (h : A) : (¬ (1 : Int32) = 0 → A) ∧ ((1 : Int32) = 0 → B) := ⟨fun _ => h, fun q => absurd q one_ne⟩
theorem i_t' {A B : Prop} (h : A) : ((1 : Int32) = 0 → B) ∧ (¬ (1 : Int32) = 0 → A) := ⟨fun q => absurd q one_ne, fun _ => h⟩
theorem i_f {A B : Prop} (h : B) : (¬ (0 : Int32) = 0 → A) ∧ ((0 : Int32) = 0 → B) := ⟨fun q => absurd rfl q, fun _ => h⟩
theorem i_f' {A B : Prop} (h : B) : ((0 : Int32) = 0 → B) ∧ (¬ (0 : Int32) = 0 → A) := ⟨fun _ => h, fun q => absurd rfl q⟩
theorem TL_N {M : Mem} {t N Rr K A : Nat} (h : TL M t N Rr K A) : 2 ≤ N ∧ N ≤ 40 ∧ 1 ≤ Rr ∧ Rr ≤ 40 ∧ K ≤ 3 ∧ A ≤ 39 := h.2.2.2.2
theorem k_leaf {x y : Int32} {M : Mem} {Q : Int32 → Int32 → Mem → Prop} (hI : INV M) (h : GQ Q) : wX7_leaf x y M (fun r1 M1 => wX8_leaf x y M1 (fun r2 M2 => Q r1 r2 M2)) := by
  have hI' := hI
  obtain ⟨t, N, Rr, K, A, nt, ta, F, hB, hT, ⟨P, b, p1, p2, p3, p4, p5, p6, p7⟩, hK, hS⟩ := hI
  obtain ⟨b1, b2, -⟩ := TL_N hB.2.1
  have hR := hB.2.2.1
  have hF := hB.2.2.2.2.1.2.2
  refine s7_isBelow hB (fun g => i_t' ?_) (fun g => i_f' ?_)
  · refine s7_within (a := 0) (b := 1) (by omega) (by omega) (fun g2 => i_t ⟨fun hy => ?_, fun hy => ?_⟩) (fun g2 => i_f ?_)
    · obtain ⟨k, k0, k1, e⟩ := g
      subst e
      refine s1_leafAt (o := 22) rfl (by omega) ?_
      refine r8_leaf_t hR ⟨k, k0, k1, rfl⟩ (i_t' (r8_in_t (a := 0) (b := 1) (by omega) (by omega) g2 (i_t ⟨fun _ => ?_, fun q => absurd q hy⟩)))
      refine ⟨vi (show k < 40 by omega), ?_⟩
      show Q (M 24 k) (M 89 (nI k).toNatClampNeg) M
      rw [nI_clamp (by omega), (hF k (by omega)).1, (hF k (by omega)).2]
      exact h _ _ hI'
    · obtain ⟨k, k0, k1, e⟩ := g
      subst e
      refine s1_leafAt (o := 62) rfl (by omega) ?_
      refine r8_leaf_t hR ⟨k, k0, k1, rfl⟩ (i_t' (r8_in_t (a := 0) (b := 1) (by omega) (by omega) g2 (i_t ⟨fun q => absurd hy q, fun _ => ?_⟩)))
      refine ⟨vi (show k < 120 by omega), ?_⟩
      show Q (M 64 k) (M 90 (nI k).toNatClampNeg) M
      have e := p3 k (by omega)
      rw [show 40 * 0 + k = k by omega] at e
      rw [nI_clamp (by omega), e.1, e.2]
      exact h _ _ hI'
    · exact r8_leaf_t hR g (i_t' (r8_in_f (a := 0) (b := 1) (by omega) (by omega) g2 (i_f (h _ _ hI'))))
  · exact r8_leaf_f hR g (i_f' (h _ _ hI'))
theorem pm_onto {N : Nat} {P : Nat → Nat} (h : Pm N P) : ∀ v, v < N → ∃ p, p < N ∧ P p = v := by
  intro v hv
  refine Classical.byContradiction fun hn => ?_
  have hn' : ∀ p, p < N → P p ≠ v := fun p hp q => hn ⟨p, hp, q⟩
  have := pigeon N (N + 1) (fun i => if i < N then P i else v) (fun i _ => by
    show (if i < N then P i else v) < N
    split
    · exact h.1 i (by assumption)
    · exact hv) (fun i j hi hj e => by
    have e' : (if i < N then P i else v) = (if j < N then P j else v) := e
    split at e' <;> split at e'
    · exact h.2 i j (by assumption) (by assumption) e'
    · exact absurd e' (hn' i (by assumption))
    · exact absurd e'.symm (hn' j (by assumption))
    · omega)
  omega
theorem k_where {x : Int32} {M : Mem} {Q : Int32 → Int32 → Mem → Prop} (hI : INV M) (h : GQ Q) : wX7_where x M (fun r1 M1 => wX8_where x M1 (fun r2 M2 => Q r1 r2 M2)) := by
  have hI' := hI
  obtain ⟨t, N, Rr, K, A, nt, ta, F, hB, hT, ⟨P, b, p1, p2, p3, p4, p5, p6, p7⟩, hK, hS⟩ := hI
  obtain ⟨b1, b2, -⟩ := TL_N hB.2.1
  have hR := hB.2.2.1
  refine s7_isBelow hB (fun g => i_t' ?_) (fun g => i_f' (r8_leaf_f hR g (i_f (h _ _ hI'))))
  have g' := g
  obtain ⟨k, k0, k1, e⟩ := g
  subst e
  obtain ⟨p0, q1, q2⟩ := pm_onto p2 k (by omega)
  have hf : ∀ p, p < p0 → ¬ M 64 p = nI k := fun p hp q => by
    rw [(p3 p (by omega)).1] at q
    have := nI_inj (by have := p2.1 p (by omega); omega) (by omega) q
    have := p2.2 p p0 (by omega) q1 (by omega)
    omega
  refine s1_placeOf (o := 62) (N := N) rfl p1 b2 p0 q1 (by rw [show (62 + 2 : Nat) = 61 + 3 from rfl, (p3 p0 q1).1, q2]) hf ?_
  refine r8_leaf_t hR g' (i_t ?_)
  refine pk_loop (fun n i M' => wX8_where_12 (nI k) (fun r2 M2 => Q (nI p0) r2 M2) n (nI i) M') (fun i M' => M' = M) p0 0 M (by omega) rfl ?_ ?_
  · intro n M' e
    subst e
    unfold wX8_where_12
    refine ⟨vi (show p0 < 120 by omega), fun _ => h _ _ hI', fun q => absurd ?_ q⟩
    have e := (p3 p0 q1).2
    rw [show 40 * 0 + p0 = p0 by omega] at e
    rw [nI_clamp (by omega), e, q2]
  · intro n i M' hi e hk
    subst e
    unfold wX8_where_12
    refine ⟨vi (show i < 120 by omega), fun q => absurd ?_ (hf i hi), fun _ => ?_⟩
    · have e := p3 i (by omega)
      rw [show 40 * 0 + i = i by omega] at e
      rw [nI_clamp (by omega), e.2] at q
      rw [e.1, q]
    · rw [nI_1]
      exact hk _ rfl
