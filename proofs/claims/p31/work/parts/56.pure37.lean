/-! PURE 37: whether the told leaves are in the book -/
def FIT (D : Dr) : Prop := (∀ k, k < D.1 6 → D.2 0 k < D.1 0 ∧ D.2 1 k < D.1 0) ∧ ∀ k, k < D.1 8 → D.2 2 k < D.1 0
theorem s6_fits {M : Mem} {u : Nat} {D : Dr} {Q : Int32 → Mem → Prop} (hu : u = 4 ∨ u = 13) (hD : D7 M u D) (hk : DOK D) (h1 : FIT D → Q 1 M) (h0 : ¬ FIT D → Q 0 M) : wX6_fitsItsLeaves u M Q := by
  obtain ⟨d0, d1, d2, d3, d6, d8, d9, d10⟩ := hD
  obtain ⟨k0, k1, -, -, -, -, k6, k8, k9, k10⟩ := hk
  refine loop_0 (fun n i m => wX6_fitsItsLeaves_2 u Q n (nI i) m) (fun i m => m = M ∧ ∀ k, k < i → D.2 0 k < D.1 0 ∧ D.2 1 k < D.1 0) (D.1 6) M ⟨rfl, fun k hk => absurd hk (Nat.not_lt_zero _)⟩ ?_ ?_
  · intro n m ⟨em, a⟩
    subst em
    unfold wX6_fitsItsLeaves_2
    rw [d6]
    refine b_le (by omega) (by omega) (fun _ => ?_) (fun q => by omega)
    refine loop_0 (fun n i m' => wX6_fitsItsLeaves_50 u Q n (nI i) m') (fun i m' => m' = m ∧ ∀ k, k < i → D.2 2 k < D.1 0) (D.1 8) m ⟨rfl, fun k hk => absurd hk (Nat.not_lt_zero _)⟩ ?_ ?_
    · intro n m' ⟨em, b⟩
      subst em
      unfold wX6_fitsItsLeaves_50
      rw [d8]
      exact b_le (by omega) (by omega) (fun _ => ⟨Or.inr rfl, h1 ⟨a, b⟩⟩) (fun q => by omega)
    · intro n i m' hi ⟨em, b⟩ hk2
      subst em
      have := k10 i hi
      unfold wX6_fitsItsLeaves_50
      rw [d8]
      refine b_le (by omega) (by omega) (fun q => by omega) (fun _ => ?_)
      refine s4_at (r := u + 5) (by rw [show u + 5 + 1 = u + 6 from rfl, lnu hu (by omega)]; omega) ?_
      rw [show u + 5 + 1 = u + 6 from rfl, d10 i hi, d0]
      refine b_lt (by omega) (by omega) (fun q => ?_) (fun q => ⟨Or.inl rfl, h0 fun f => by have := f.2 i hi; omega⟩)
      rw [nI_1]
      refine hk2 _ ⟨rfl, fun k hk => ?_⟩
      by_cases e : k = i
      · rw [e]; exact q
      · exact b k (by omega)
  · intro n i m hi ⟨em, a⟩ hk2
    subst em
    have kk := k9 i hi
    unfold wX6_fitsItsLeaves_2
    rw [d6]
    refine b_le (by omega) (by omega) (fun q => by omega) (fun _ => ?_)
    refine s4_at (r := u + 1) (by rw [show u + 1 + 1 = u + 2 from rfl, lnu hu (by omega)]; omega) ?_
    rw [show u + 1 + 1 = u + 2 from rfl, (d9 i hi).1, d0]
    refine b_le (by omega) (by omega) (fun q => ⟨Or.inl rfl, h0 fun f => by have := (f.1 i hi).1; omega⟩) (fun q => ?_)
    refine s4_at (r := u + 3) (by rw [show u + 3 + 1 = u + 4 from rfl, lnu hu (by omega)]; omega) ?_
    rw [show u + 3 + 1 = u + 4 from rfl, (d9 i hi).2, d0]
    refine b_lt (by omega) (by omega) (fun q2 => ?_) (fun q2 => ⟨Or.inl rfl, h0 fun f => by have := (f.1 i hi).2; omega⟩)
    rw [nI_1]
    refine hk2 _ ⟨rfl, fun k hk => ?_⟩
    by_cases e : k = i
    · rw [e]; exact ⟨q, q2⟩
    · exact a k (by omega)
