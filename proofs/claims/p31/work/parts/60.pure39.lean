/-! PURE 39: the read half becomes the laid one -/
theorem s8_copy88 {M : Mem} {Q : Int32 → Mem → Prop} (h : ∀ M1 : Mem, (∀ k, k < 20 → M1 88 k = M 88 (20 + k)) → (∀ x, x ≠ 88 → M1 x = M x) → wX8_layBook M1 (fun M7 => (vp_in (0 : Int32) (ln 81) ∧ Q (M7 81 (0 : Int32).toNatClampNeg) M7))) : ∃ n, wX8_lay_122 Q n (0 : Int32) M := by
  refine loop_0 (fun n i m => wX8_lay_122 Q n (nI i) m) (fun i m => (∀ k, k < i → m 88 k = M 88 (20 + k)) ∧ (∀ k, 20 ≤ k → m 88 k = M 88 k) ∧ ∀ x, x ≠ 88 → m x = M x) 20 M ⟨fun k hk => absurd hk (Nat.not_lt_zero _), fun _ _ => rfl, fun _ _ => rfl⟩ ?_ ?_
  · intro n m ⟨c1, c2, c3⟩
    unfold wX8_lay_122
    exact b_le (a := 20) (b := 20) (by omega) (by omega) (fun _ => h m c1 c3) (fun q => by omega)
  · intro n i m hi ⟨c1, c2, c3⟩ hk
    unfold wX8_lay_122
    refine b_le (a := 20) (b := i) (by omega) (by omega) (fun q => by omega) (fun _ => ?_)
    rw [show (20 : Int32) = nI 20 from rfl, nI_add, nI_1, nI_clamp (show i < 2 ^ 31 by omega), nI_clamp (show 20 + i < 2 ^ 31 by omega), c2 (20 + i) (by omega)]
    refine ⟨vi (show 20 + i < 40 by omega), vi (show i < 40 by omega), hk _ ⟨fun k hk => ?_, fun k hk => ?_, fun x hx => by rw [mu_ne hx]; exact c3 x hx⟩⟩
    · by_cases e : k = i
      · rw [e, mu_at]
      · rw [mu_no (by omega)]; exact c1 k (by omega)
    · rw [mu_no (by omega)]; exact c2 k hk
theorem s8_copy86 {M : Mem} {Q : Int32 → Mem → Prop} (h : ∀ M1 : Mem, (∀ k, k < 40 → M1 86 k = M 86 (40 + k)) → (∀ k, k < 20 → M1 88 k = M 88 (20 + k)) → (∀ x, x ≠ 86 → x ≠ 88 → M1 x = M x) → wX8_layBook M1 (fun M7 => (vp_in (0 : Int32) (ln 81) ∧ Q (M7 81 (0 : Int32).toNatClampNeg) M7))) : ∃ n, wX8_lay_93 Q n (0 : Int32) M := by
  refine loop_0 (fun n i m => wX8_lay_93 Q n (nI i) m) (fun i m => (∀ k, k < i → m 86 k = M 86 (40 + k)) ∧ (∀ k, 40 ≤ k → m 86 k = M 86 k) ∧ ∀ x, x ≠ 86 → m x = M x) 40 M ⟨fun k hk => absurd hk (Nat.not_lt_zero _), fun _ _ => rfl, fun _ _ => rfl⟩ ?_ ?_
  · intro n m ⟨c1, c2, c3⟩
    unfold wX8_lay_93
    refine b_le (a := 40) (b := 40) (by omega) (by omega) (fun _ => s8_copy88 fun M1 d1 d2 => ?_) (fun q => by omega)
    exact h M1 (fun k hk => by rw [d2 86 (by omega)]; exact c1 k hk) (fun k hk => by rw [d1 k hk, c3 88 (by omega)]) (fun x a b => by rw [d2 x b, c3 x a])
  · intro n i m hi ⟨c1, c2, c3⟩ hk
    unfold wX8_lay_93
    refine b_le (a := 40) (b := i) (by omega) (by omega) (fun q => by omega) (fun _ => ?_)
    rw [show (40 : Int32) = nI 40 from rfl, nI_add, nI_1, nI_clamp (show i < 2 ^ 31 by omega), nI_clamp (show 40 + i < 2 ^ 31 by omega), c2 (40 + i) (by omega)]
    refine ⟨vi (show 40 + i < 80 by omega), vi (show i < 80 by omega), hk _ ⟨fun k hk => ?_, fun k hk => ?_, fun x hx => by rw [mu_ne hx]; exact c3 x hx⟩⟩
    · by_cases e : k = i
      · rw [e, mu_at]
      · rw [mu_no (by omega)]; exact c1 k (by omega)
    · rw [mu_no (by omega)]; exact c2 k hk
