/-! PURE 38: the same on the reference's side -/
def sv (D : Dr) (v : Nat) : Nat := if v % 2 = 0 then D.2 0 (v / 2) else D.2 1 (v / 2)
theorem FIT_sv {D : Dr} : (∀ k, k < D.1 6 → D.2 0 k < D.1 0 ∧ D.2 1 k < D.1 0) ↔ ∀ v, v < 2 * D.1 6 → sv D v < D.1 0 := by
  constructor
  · intro h v hv
    have := h (v / 2) (by omega)
    unfold sv
    split
    · exact this.1
    · exact this.2
  · intro h k hk
    have a := h (2 * k) (by omega)
    have b := h (2 * k + 1) (by omega)
    unfold sv at a b
    rw [if_pos (by omega), show 2 * k / 2 = k by omega] at a
    rw [if_neg (by omega), show (2 * k + 1) / 2 = k by omega] at b
    exact ⟨a, b⟩
theorem s8_below {M : Mem} {D : Dr} {Q : Int32 → Mem → Prop} (hD : D8 M D) (hk : DOK D) (h1 : FIT D → Q 1 M) (h0 : ¬ FIT D → Q 0 M) : wX8_areBelow M Q := by
  obtain ⟨d0, d1, d2, d3, d6, d8, d9, d10⟩ := hD
  obtain ⟨k0, k1, -, -, -, -, k6, k8, k9, k10⟩ := hk
  have s86 : ∀ v, v < 2 * D.1 6 → M 86 (40 + v) = nI (sv D v) ∧ sv D v ≤ 39 := fun v hv => by
    have a := d9 (v / 2) (by omega)
    have b := k9 (v / 2) (by omega)
    unfold sv
    by_cases e : v % 2 = 0
    · rw [if_pos e, show 40 + v = 40 + 2 * (v / 2) by omega]
      exact ⟨a.1, b.1⟩
    · rw [if_neg e, show 40 + v = 41 + 2 * (v / 2) by omega]
      exact ⟨a.2, b.2⟩
  refine loop_0 (fun n i (s : Int32 × Mem) => wX8_areBelow_4 Q n s.1 (nI i) s.2) (fun i s => s.2 = M ∧ (s.1 = 1 ∧ (∀ v, v < i → sv D v < D.1 0) ∨ s.1 = 0 ∧ ¬ FIT D)) (2 * D.1 6) (1, M) ⟨rfl, Or.inl ⟨rfl, fun v hv => absurd hv (Nat.not_lt_zero _)⟩⟩ ?_ ?_
  · intro n s ⟨em, p⟩
    unfold wX8_areBelow_4
    rw [em, cl1, d6, show (2 : Int32) = nI 2 from rfl, pk_mul]
    refine ⟨v1 (by decide), b_le (by omega) (by omega) (fun _ => ?_) (fun q => by omega)⟩
    refine loop_0 (fun n i (s : Int32 × Mem) => wX8_areBelow_52 Q n s.1 (nI i) s.2) (fun i s => s.2 = M ∧ (s.1 = 1 ∧ (∀ v, v < 2 * D.1 6 → sv D v < D.1 0) ∧ (∀ k, k < i → D.2 2 k < D.1 0) ∨ s.1 = 0 ∧ ¬ FIT D)) (D.1 8) (s.1, M) ⟨rfl, ?_⟩ ?_ ?_
    · rcases p with ⟨e, a⟩ | ⟨e, a⟩
      · exact Or.inl ⟨e, a, fun k hk => absurd hk (Nat.not_lt_zero _)⟩
      · exact Or.inr ⟨e, a⟩
    · intro n s ⟨em, p⟩
      unfold wX8_areBelow_52
      rw [em, cl1, d8]
      refine ⟨v1 (by decide), b_le (by omega) (by omega) (fun _ => ?_) (fun q => by omega)⟩
      rcases p with ⟨e, a, b⟩ | ⟨e, a⟩
      · rw [e]; exact ⟨Or.inr rfl, h1 ⟨FIT_sv.mpr a, b⟩⟩
      · rw [e]; exact ⟨Or.inl rfl, h0 a⟩
    · intro n i s hi ⟨em, p⟩ hk2
      have kk := k10 i hi
      unfold wX8_areBelow_52
      rw [em, cl1, d8]
      refine ⟨v1 (by decide), b_le (by omega) (by omega) (fun q => by omega) (fun _ => ?_)⟩
      have no : ¬ FIT D → wX8_areBelow_88 (wX8_areBelow_52 Q n) Q (nI i) M := fun a => by
        unfold wX8_areBelow_88 wX8_areBelow_89
        rw [nI_1]
        exact hk2 (0, M) ⟨rfl, Or.inr ⟨rfl, a⟩⟩
      rcases p with ⟨e, a, b⟩ | ⟨e, a⟩
      · rw [e]
        refine i_t' ?_
        rw [show (20 : Int32) = nI 20 from rfl, nI_add, nI_clamp (show 20 + i < 2 ^ 31 by omega), d0, d10 i hi]
        refine ⟨vi (show 20 + i < 40 by omega), v1 (by decide), b_le (by omega) (by omega) (fun q => no fun f => by have := f.2 i hi; omega) (fun q => ?_)⟩
        unfold wX8_areBelow_89
        rw [nI_1]
        refine hk2 (1, M) ⟨rfl, Or.inl ⟨rfl, a, fun k hk => ?_⟩⟩
        by_cases c : k = i
        · rw [c]; exact q
        · exact b k (by omega)
      · rw [e]
        exact i_f' (no a)
  · intro n i s hi ⟨em, p⟩ hk2
    obtain ⟨w1, w2⟩ := s86 i hi
    unfold wX8_areBelow_4
    rw [em, cl1, d6, show (2 : Int32) = nI 2 from rfl, pk_mul]
    refine ⟨v1 (by decide), b_le (by omega) (by omega) (fun q => by omega) (fun _ => ?_)⟩
    have no : ¬ FIT D → wX8_areBelow_42 (wX8_areBelow_4 Q n) Q (nI i) M := fun a => by
      unfold wX8_areBelow_42 wX8_areBelow_43
      rw [nI_1]
      exact hk2 (0, M) ⟨rfl, Or.inr ⟨rfl, a⟩⟩
    rcases p with ⟨e, a⟩ | ⟨e, a⟩
    · rw [e]
      refine i_t' ?_
      rw [show (40 : Int32) = nI 40 from rfl, nI_add, nI_clamp (show 40 + i < 2 ^ 31 by omega), d0, w1]
      refine ⟨vi (show 40 + i < 80 by omega), v1 (by decide), b_le (by omega) (by omega) (fun q => no fun f => by have := FIT_sv.mp f.1 i hi; omega) (fun q => ?_)⟩
      unfold wX8_areBelow_43
      rw [nI_1]
      refine hk2 (1, M) ⟨rfl, Or.inl ⟨rfl, fun v hv => ?_⟩⟩
      by_cases c : v = i
      · rw [c]; exact q
      · exact a v (by omega)
    · rw [e]
      exact i_f' (no a)
