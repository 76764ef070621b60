/-! the two objects as they are made -/
def I7 (M : Mem) : Prop := M 22 2 = nI 10 ∧ (∀ p, p < 10 → M 24 p = nI p) ∧ RDS M 10 9 0 2 ∧ M 62 2 = nI 10 ∧ (∀ p, p < 10 → M 64 p = nI p) ∧ M 61 1 = 0 ∧ M 61 2 = 0 ∧ M 0 9 = 0 ∧ M 0 13 = 0 ∧ M 0 1 = nI 4 ∧ M 0 2 = nI 13 ∧ M 13 = M07 13 ∧ M 1 = M07 1
def I8 (M : Mem) : Prop := (∀ p, p < 10 → M 89 p = nI p) ∧ (∀ p, p < 10 → M 90 p = nI p) ∧ M 91 0 = 0 ∧ M 92 0 = 0 ∧ M 79 14 = 0 ∧ M 79 15 = 0 ∧ M 79 0 = 0 ∧ RFR M 10 9 0 2 ∧ TLR M 10 9 0 2 ∧ M 87 0 = 0
theorem init7 : wX7_init I7 := by
  have h0 : M07 0 2 = nI 13 := rfl
  have hT : TL M07 13 10 9 0 2 := ⟨rfl, rfl, rfl, rfl, by omega, by omega, by omega, by omega, by omega, by omega⟩
  have hr : rid (M07 0 2) = 13 := by rw [h0]; exact nI_clamp (by omega)
  refine s7_startAnew (t := 13) (ns := 0) (sf := fun _ => 0) (st := fun _ => 0) (Or.inr rfl) (by rw [hr]; rfl) hr hT ⟨rfl, by omega, fun k hk => absurd hk (Nat.not_lt_zero _)⟩ fun M1 a1 a2 a3 a4 a5 a6 a7 a8 a9 a10 a11 => ?_
  exact ⟨a1, a2, a3, a4, a5, a6, a7, a8, a9, a10 1 (by omega) (by omega), a10 2 (by omega) (by omega), a11 13 (by omega) (by omega) (by omega) (by omega) (by omega) (by omega) (by omega), a11 1 (by omega) (by omega) (by omega) (by omega) (by omega) (by omega) (by omega)⟩
theorem init8 : wX8_init I8 := by
  unfold wX8_init wX8_noBook
  rw [cl0]
  refine ⟨vz (by decide), vz (by decide), vz (by decide), vz (by decide), vz (by decide), vz (by decide), ?_⟩
  dsimp only
  generalize hM : mu (mu (mu (mu (mu (mu M08 81 0 (10 : Int32)) 82 0 (9 : Int32)) 83 0 (0 : Int32)) 84 0 (2 : Int32)) 85 0 (0 : Int32)) 87 0 (0 : Int32) = M
  have hT : TLR M 10 9 0 2 := by
    refine ⟨?_, ?_, ?_, ?_, by omega, by omega, by omega, by omega, by omega, by omega⟩
    · rw [← hM, mu_no (by omega), mu_no (by omega), mu_no (by omega), mu_no (by omega), mu_no (by omega), mu_at]; rfl
    · rw [← hM, mu_no (by omega), mu_no (by omega), mu_no (by omega), mu_no (by omega), mu_at]; rfl
    · rw [← hM, mu_no (by omega), mu_no (by omega), mu_no (by omega), mu_at]; rfl
    · rw [← hM, mu_no (by omega), mu_no (by omega), mu_at]; rfl
  have h85 : M 85 0 = nI 0 := by rw [← hM, mu_no (by omega), mu_at]; rfl
  have h87 : M 87 0 = 0 := by rw [← hM, mu_at]
  have h79 : M 79 0 = 0 := by rw [← hM, mu_no (by omega), mu_no (by omega), mu_no (by omega), mu_no (by omega), mu_no (by omega), mu_no (by omega)]; rfl
  refine s8_layBook (ns := 0) (sf := fun _ => 0) (st := fun _ => 0) hT ⟨h85, by omega, fun k hk => absurd hk (Nat.not_lt_zero _)⟩ fun M1 a1 a2 a3 a4 a5 a6 a7 a8 a9 => ?_
  exact ⟨a1, a2, a3, a4, a5, a6, (a8 0 (by omega) (by omega)).trans h79, a7, TLR_congr hT (a9 81 (by omega) (by omega) (by omega) (by omega) (by omega) (by omega) (by omega) (by omega)) (a9 82 (by omega) (by omega) (by omega) (by omega) (by omega) (by omega) (by omega) (by omega)) (a9 83 (by omega) (by omega) (by omega) (by omega) (by omega) (by omega) (by omega) (by omega)) (a9 84 (by omega) (by omega) (by omega) (by omega) (by omega) (by omega) (by omega) (by omega)), by rw [a9 87 (by omega) (by omega) (by omega) (by omega) (by omega) (by omega) (by omega) (by omega)]; exact h87⟩
theorem init_rid : ∀ M, I7 M → rid (M 0 1) < 79 ∧ rid (M 0 2) < 79 := fun M h => by
  obtain ⟨-, -, -, -, -, -, -, -, -, a, b, -⟩ := h
  rw [a, b]
  exact ⟨by rw [show rid (nI 4) = 4 from nI_clamp (by omega)]; omega, by rw [show rid (nI 13) = 13 from nI_clamp (by omega)]; omega⟩
theorem init_INV {M7 M8 : Mem} (h7 : I7 M7) (h8 : I8 M8) : INV (comb M7 M8) := by
  obtain ⟨a1, a2, a3, a4, a5, a6, a7, a8, a9, a10, a11, a12, a13⟩ := h7
  obtain ⟨b1, b2, b3, b4, b5, b6, b7, b8, b9, b10⟩ := h8
  have lo : ∀ x, x < 79 → comb M7 M8 x = M7 x := fun x hx => comb_lo hx
  have hi : ∀ x, 79 ≤ x → comb M7 M8 x = M8 x := fun x hx => comb_hi hx
  have pm : Pm 10 (fun p => p) := ⟨fun _ h => h, fun _ _ _ _ h => h⟩
  refine ⟨13, 10, 9, 0, 2, 0, fun _ => 0, fun p => p, ⟨Or.inl ⟨rfl, ?_, ?_⟩, ?_, ?_, ⟨?_, ?_, by omega, fun k hk => absurd hk (Nat.not_lt_zero _)⟩, ⟨?_, pm, fun p hp => ⟨?_, ?_⟩⟩, ?_, ?_⟩, ⟨0, fun _ => 0, ?_, ?_, by omega, fun k hk => absurd hk (Nat.not_lt_zero _)⟩, ⟨fun p => p, 0, ?_, pm, fun p hp => ⟨?_, ?_⟩, ?_, ?_, by omega, ?_⟩, ⟨0, ?_, ?_, by omega, fun h => by omega, fun h => by omega⟩, ⟨0, fun _ => 0, fun _ => 0, fun _ => 0, ?_, ?_, by omega, fun k hk => absurd hk (Nat.not_lt_zero _)⟩⟩
  · rw [lo 0 (by omega)]; exact a10
  · rw [lo 0 (by omega)]; exact a11
  · unfold TL; rw [lo 13 (by omega), a12]; exact ⟨rfl, rfl, rfl, rfl, by omega, by omega, by omega, by omega, by omega, by omega⟩
  · exact TLR_congr b9 (hi 81 (by omega)) (hi 82 (by omega)) (hi 83 (by omega)) (hi 84 (by omega))
  · rw [lo 13 (by omega), a12]; rfl
  · rw [hi 87 (by omega)]; exact b10
  · rw [lo 22 (by omega)]; exact a1
  · rw [lo 24 (by omega)]; exact a2 p hp
  · rw [hi 89 (by omega)]; exact b1 p hp
  · exact RDS_congr a3 fun x hx => lo x (by omega)
  · exact RFR_congr b8 (hi 98 (by omega)) (hi 99 (by omega))
  · rw [lo 1 (by omega), a13]; rfl
  · rw [hi 79 (by omega)]; exact b7
  · rw [lo (61 + 1) (by omega)]; exact a4
  · rw [lo (61 + 3) (by omega)]; exact a5 p hp
  · rw [hi 90 (by omega), show 40 * 0 + p = p by omega]; exact b2 p hp
  · rw [lo 61 (by omega)]; exact a6
  · rw [hi 91 (by omega)]; exact b3
  · rw [lo 61 (by omega), hi 92 (by omega), a7, b4]
  · rw [lo 0 (by omega)]; exact a9
  · rw [hi 79 (by omega)]; exact b5
  · rw [lo 0 (by omega)]; exact a8
  · rw [hi 79 (by omega)]; exact b6
