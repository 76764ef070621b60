/-! PURE 31: the class reads an item -/
def FU (u : Nat) (M M1 : Mem) : Prop := ∀ z, ¬ (u ≤ z ∧ z ≤ u + 8) → M1 z = M z
theorem FU_refl (u : Nat) (M : Mem) : FU u M M := fun _ _ => rfl
theorem FU_trans {u : Nat} {M M1 M2 : Mem} (h1 : FU u M M1) (h2 : FU u M1 M2) : FU u M M2 := fun z hz => (h2 z hz).trans (h1 z hz)
theorem FU_mu {u z k : Nat} {M M1 : Mem} {v : Int32} (h : FU u M M1) (hz : u ≤ z ∧ z ≤ u + 8) : FU u M (mu M1 z k v) := fun y hy => by
  rw [mu_ne (show y ≠ z by omega)]
  exact h y hy
theorem FU_T7 {u tl : Nat} {tx : Nat → Nat} {M M1 : Mem} (hu : u = 4 ∨ u = 13) (h : T7 M tl tx) (f : FU u M M1) : T7 M1 tl tx := T7_cg h (f 1 (by omega)) (f 3 (by omega))
theorem D7_8 {M : Mem} {u i : Nat} {D : Dr} {v : Int32} (h : D7 M u D) : D7 (mu M (u + 8) i v) u D := by
  unfold D7
  rw [mu_ne (show u ≠ u + 8 by omega), mu_ne (show u + 2 ≠ u + 8 by omega), mu_ne (show u + 4 ≠ u + 8 by omega), mu_ne (show u + 6 ≠ u + 8 by omega)]
  exact h
theorem lnu {u d : Nat} (hu : u = 4 ∨ u = 13) (hd : d = 2 ∨ d = 4 ∨ d = 6) : ln (u + d) = 20 := by
  rcases hu with e | e <;> rcases hd with f | f | f <;> subst e <;> subst f <;> rfl
theorem take_n {M : Mem} {u x : Nat} {y : Int32} {D : Dr} {Q : Int32 → Mem → Prop} (hx : x < 1000) (hD : D7 M u D) (h1 : 2 ≤ x ∧ x ≤ 40 → ∀ M1, D7 M1 u (iN D x) → FU u M M1 → Q 1 M1) (h0 : ¬ (2 ≤ x ∧ x ≤ 40) → ∀ M1, FU u M M1 → Q 0 M1) : wX6_takeIn u (nI 110) (nI x) y M Q := by
  refine ⟨fun q => absurd q (by decide), fun _ => ⟨fun q => absurd q (by decide), fun _ => ⟨fun _ => ?_, fun q => absurd rfl q⟩⟩⟩
  have f : FU u M (mu M u 0 (nI x)) := FU_mu (FU_refl u M) (by omega)
  refine s7_within (a := 2) (b := 40) (by omega) (by omega) (fun g => ⟨Or.inr rfl, Or.inr rfl, h1 ((rge_nI (by omega) (by omega)).mp g) _ ?_ f⟩) (fun g => ⟨Or.inl rfl, Or.inl rfl, h0 (fun c => g ((rge_nI (by omega) (by omega)).mpr c)) _ f⟩)
  obtain ⟨d0, d1, d2, d3, d6, d8, d9, d10⟩ := hD
  refine ⟨mu_at _ _ _ _, ?_, ?_, ?_, ?_, ?_, fun k hk => ?_, fun k hk => ?_⟩
  · rw [mu_no (by omega)]; exact d1
  · rw [mu_no (by omega)]; exact d2
  · rw [mu_no (by omega)]; exact d3
  · rw [mu_no (by omega)]; exact d6
  · rw [mu_no (by omega)]; exact d8
  · rw [mu_no (by omega), mu_no (by omega)]; exact d9 k hk
  · rw [mu_no (by omega)]; exact d10 k hk
theorem take_r {M : Mem} {u x : Nat} {y : Int32} {D : Dr} {Q : Int32 → Mem → Prop} (hx : x < 1000) (hD : D7 M u D) (h1 : 1 ≤ x ∧ x ≤ 40 → ∀ M1, D7 M1 u (iR D x) → FU u M M1 → Q 1 M1) (h0 : ¬ (1 ≤ x ∧ x ≤ 40) → ∀ M1, FU u M M1 → Q 0 M1) : wX6_takeIn u (nI 114) (nI x) y M Q := by
  refine ⟨fun q => absurd q (by decide), fun _ => ⟨fun q => absurd q (by decide), fun _ => ⟨fun q => absurd q (by decide), fun _ => ⟨fun q => absurd q (by decide), fun _ => ⟨fun q => absurd q (by decide), fun _ => ⟨fun q => absurd q (by decide), fun _ => ⟨fun _ => ?_, fun q => absurd rfl q⟩⟩⟩⟩⟩⟩⟩
  have f : FU u M (mu M u 1 (nI x)) := FU_mu (FU_refl u M) (by omega)
  refine s7_within (a := 1) (b := 40) (by omega) (by omega) (fun g => ⟨Or.inr rfl, Or.inr rfl, h1 ((rge_nI (by omega) (by omega)).mp g) _ ?_ f⟩) (fun g => ⟨Or.inl rfl, Or.inl rfl, h0 (fun c => g ((rge_nI (by omega) (by omega)).mpr c)) _ f⟩)
  obtain ⟨d0, d1, d2, d3, d6, d8, d9, d10⟩ := hD
  refine ⟨?_, mu_at _ _ _ _, ?_, ?_, ?_, ?_, fun k hk => ?_, fun k hk => ?_⟩
  · rw [mu_no (by omega)]; exact d0
  · rw [mu_no (by omega)]; exact d2
  · rw [mu_no (by omega)]; exact d3
  · rw [mu_no (by omega)]; exact d6
  · rw [mu_no (by omega)]; exact d8
  · rw [mu_no (by omega), mu_no (by omega)]; exact d9 k hk
  · rw [mu_no (by omega)]; exact d10 k hk
theorem take_l {M : Mem} {u x y : Nat} {D : Dr} {Q : Int32 → Mem → Prop} (hx : x < 1000) (hy : y < 1000) (hD : D7 M u D) (h1 : x ≤ 3 ∧ y ≤ 39 → ∀ M1, D7 M1 u (iL D x y) → FU u M M1 → Q 1 M1) (h0 : ¬ (x ≤ 3 ∧ y ≤ 39) → ∀ M1, FU u M M1 → Q 0 M1) : wX6_takeIn u (nI 108) (nI x) (nI y) M Q := by
  refine ⟨fun _ => ?_, fun q => absurd rfl q⟩
  have f : FU u M (mu (mu M u 2 (nI x)) u 3 (nI y)) := FU_mu (FU_mu (FU_refl u M) (by omega)) (by omega)
  refine s7_within (a := 0) (b := 3) (by omega) (by omega) (fun g => i_t' ?_) (fun g => i_f' ⟨Or.inl rfl, Or.inl rfl, h0 (fun c => g ((rge_nI (by omega) (by omega)).mpr (by omega))) _ f⟩)
  refine s7_within (a := 0) (b := 39) (by omega) (by omega) (fun g2 => i_t' ⟨Or.inr rfl, Or.inr rfl, h1 ⟨((rge_nI (by omega) (by omega)).mp g).2, ((rge_nI (by omega) (by omega)).mp g2).2⟩ _ ?_ f⟩) (fun g2 => i_f' ⟨Or.inl rfl, Or.inl rfl, h0 (fun c => g2 ((rge_nI (by omega) (by omega)).mpr (by omega))) _ f⟩)
  obtain ⟨d0, d1, d2, d3, d6, d8, d9, d10⟩ := hD
  refine ⟨?_, ?_, ?_, mu_at _ _ _ _, ?_, ?_, fun k hk => ?_, fun k hk => ?_⟩
  · rw [mu_no (by omega), mu_no (by omega)]; exact d0
  · rw [mu_no (by omega), mu_no (by omega)]; exact d1
  · rw [mu_no (by omega), mu_at]; rfl
  · rw [mu_no (by omega), mu_no (by omega)]; exact d6
  · rw [mu_no (by omega), mu_no (by omega)]; exact d8
  · rw [mu_no (by omega), mu_no (by omega), mu_no (by omega), mu_no (by omega)]; exact d9 k hk
  · rw [mu_no (by omega), mu_no (by omega)]; exact d10 k hk
theorem take_s {M : Mem} {u x y : Nat} {D : Dr} {Q : Int32 → Mem → Prop} (hu : u = 4 ∨ u = 13) (hx : x < 1000) (hy : y < 1000) (hD : D7 M u D) (hk : D.1 6 ≤ 20) (h1 : x ≤ 39 ∧ y ≤ 39 ∧ D.1 6 < 20 → ∀ M1, D7 M1 u (iS D x y) → FU u M M1 → Q 1 M1) (h0 : ¬ (x ≤ 39 ∧ y ≤ 39 ∧ D.1 6 < 20) → ∀ M1, FU u M M1 → Q 0 M1) : wX6_takeIn u (nI 115) (nI x) (nI y) M Q := by
  refine ⟨fun q => absurd q (by decide), fun _ => ⟨fun q => absurd q (by decide), fun _ => ⟨fun q => absurd q (by decide), fun _ => ⟨fun q => absurd q (by decide), fun _ => ⟨fun q => absurd q (by decide), fun _ => ⟨fun q => absurd q (by decide), fun _ => ⟨fun q => absurd q (by decide), fun _ => ⟨fun _ => ?_, fun q => absurd rfl q⟩⟩⟩⟩⟩⟩⟩⟩
  obtain ⟨d0, d1, d2, d3, d6, d8, d9, d10⟩ := hD
  unfold wX6_takeSwap
  rw [d6]
  refine b_lt (a := D.1 6) (b := 20) (by omega) (by omega) (fun q => ?_) (fun q => ⟨Or.inl rfl, Or.inl rfl, h0 (by omega) M (FU_refl u M)⟩)
  refine s4_put (r := u + 1) (by rw [show u + 1 + 1 = u + 2 from rfl, lnu hu (by omega)]; exact q) ?_
  rw [show u + 1 + 1 = u + 2 from rfl, mu_no (show u ≠ u + 2 ∨ 6 ≠ D.1 6 by omega), d6]
  refine s4_put (r := u + 3) (by rw [show u + 3 + 1 = u + 4 from rfl, lnu hu (by omega)]; exact q) ?_
  rw [show u + 3 + 1 = u + 4 from rfl, mu_no (show u ≠ u + 4 ∨ 6 ≠ D.1 6 by omega), mu_no (show u ≠ u + 2 ∨ 6 ≠ D.1 6 by omega), d6, nI_1]
  have f : FU u M (mu (mu (mu M (u + 2) (D.1 6) (nI x)) (u + 4) (D.1 6) (nI y)) u 6 (nI (D.1 6 + 1))) := FU_mu (FU_mu (FU_mu (FU_refl u M) (by omega)) (by omega)) (by omega)
  refine s7_within (a := 0) (b := 39) (by omega) (by omega) (fun g => i_t' ?_) (fun g => i_f' ⟨Or.inl rfl, Or.inl rfl, h0 (fun c => g ((rge_nI (by omega) (by omega)).mpr (by omega))) _ f⟩)
  refine s7_within (a := 0) (b := 39) (by omega) (by omega) (fun g2 => i_t' ⟨Or.inr rfl, Or.inr rfl, h1 ⟨((rge_nI (by omega) (by omega)).mp g).2, ((rge_nI (by omega) (by omega)).mp g2).2, q⟩ _ ?_ f⟩) (fun g2 => i_f' ⟨Or.inl rfl, Or.inl rfl, h0 (fun c => g2 ((rge_nI (by omega) (by omega)).mpr (by omega))) _ f⟩)
  refine ⟨?_, ?_, ?_, ?_, mu_at _ _ _ _, ?_, fun k hk => ?_, fun k hk => ?_⟩
  · rw [mu_no (by omega), mu_no (by omega), mu_no (by omega)]; exact d0
  · rw [mu_no (by omega), mu_no (by omega), mu_no (by omega)]; exact d1
  · rw [mu_no (by omega), mu_no (by omega), mu_no (by omega)]; exact d2
  · rw [mu_no (by omega), mu_no (by omega), mu_no (by omega)]; exact d3
  · rw [mu_no (by omega), mu_no (by omega), mu_no (by omega)]; exact d8
  · have hk' : k < D.1 6 + 1 := hk
    show _ = nI (u2 (u2 D.2 0 (D.1 6) x) 1 (D.1 6) y 0 k) ∧ _ = nI (u2 (u2 D.2 0 (D.1 6) x) 1 (D.1 6) y 1 k)
    rw [u2_no (show (0 : Nat) ≠ 1 by decide), u2_at, u2_at, u2_no (show (1 : Nat) ≠ 0 by decide), mu_no (show u + 2 ≠ u ∨ k ≠ 6 by omega), mu_no (show u + 2 ≠ u + 4 ∨ k ≠ D.1 6 by omega), mu_no (show u + 4 ≠ u ∨ k ≠ 6 by omega)]
    by_cases e : k = D.1 6
    · rw [e, un_at, un_at, mu_at, mu_at]; exact ⟨rfl, rfl⟩
    · rw [un_no e, un_no e, mu_no (by omega), mu_no (by omega), mu_no (by omega)]; exact d9 k (by omega)
  · show _ = nI (u2 (u2 D.2 0 (D.1 6) x) 1 (D.1 6) y 2 k)
    rw [u2_no (by decide), u2_no (by decide), mu_no (by omega), mu_no (by omega), mu_no (by omega)]
    exact d10 k hk
theorem take_t {M : Mem} {u x : Nat} {y : Int32} {D : Dr} {Q : Int32 → Mem → Prop} (hu : u = 4 ∨ u = 13) (hx : x < 1000) (hD : D7 M u D) (hk : D.1 8 ≤ 20) (h1 : x ≤ 39 ∧ D.1 8 < 20 → ∀ M1, D7 M1 u (iT D x) → FU u M M1 → Q 1 M1) (h0 : ¬ (x ≤ 39 ∧ D.1 8 < 20) → ∀ M1, FU u M M1 → Q 0 M1) : wX6_takeIn u (nI 116) (nI x) y M Q := by
  refine ⟨fun q => absurd q (by decide), fun _ => ⟨fun q => absurd q (by decide), fun _ => ⟨fun q => absurd q (by decide), fun _ => ⟨fun q => absurd q (by decide), fun _ => ⟨fun q => absurd q (by decide), fun _ => ⟨fun q => absurd q (by decide), fun _ => ⟨fun q => absurd q (by decide), fun _ => ⟨fun q => absurd q (by decide), fun _ => ⟨fun _ => ?_, fun q => absurd rfl q⟩⟩⟩⟩⟩⟩⟩⟩⟩
  obtain ⟨d0, d1, d2, d3, d6, d8, d9, d10⟩ := hD
  unfold wX6_takeTaleLeaf
  rw [d8]
  refine b_lt (a := D.1 8) (b := 20) (by omega) (by omega) (fun q => ?_) (fun q => ⟨Or.inl rfl, Or.inl rfl, h0 (by omega) M (FU_refl u M)⟩)
  refine s4_put (r := u + 5) (by rw [show u + 5 + 1 = u + 6 from rfl, lnu hu (by omega)]; exact q) ?_
  rw [show u + 5 + 1 = u + 6 from rfl, mu_no (show u ≠ u + 6 ∨ 8 ≠ D.1 8 by omega), d8, nI_1]
  have f : FU u M (mu (mu M (u + 6) (D.1 8) (nI x)) u 8 (nI (D.1 8 + 1))) := FU_mu (FU_mu (FU_refl u M) (by omega)) (by omega)
  refine s7_within (a := 0) (b := 39) (by omega) (by omega) (fun g => ⟨Or.inr rfl, Or.inr rfl, h1 ⟨((rge_nI (by omega) (by omega)).mp g).2, q⟩ _ ?_ f⟩) (fun g => ⟨Or.inl rfl, Or.inl rfl, h0 (fun c => g ((rge_nI (by omega) (by omega)).mpr (by omega))) _ f⟩)
  refine ⟨?_, ?_, ?_, ?_, ?_, mu_at _ _ _ _, fun k hk => ?_, fun k hk => ?_⟩
  · rw [mu_no (by omega), mu_no (by omega)]; exact d0
  · rw [mu_no (by omega), mu_no (by omega)]; exact d1
  · rw [mu_no (by omega), mu_no (by omega)]; exact d2
  · rw [mu_no (by omega), mu_no (by omega)]; exact d3
  · rw [mu_no (by omega), mu_no (by omega)]; exact d6
  · show _ = nI (u2 D.2 2 (D.1 8) x 0 k) ∧ _ = nI (u2 D.2 2 (D.1 8) x 1 k)
    rw [u2_no (by decide), u2_no (by decide), mu_no (by omega), mu_no (by omega), mu_no (by omega), mu_no (by omega)]
    exact d9 k hk
  · have hk' : k < D.1 8 + 1 := hk
    show _ = nI (u2 D.2 2 (D.1 8) x 2 k)
    rw [u2_at, mu_no (show u + 6 ≠ u ∨ k ≠ 8 by omega)]
    by_cases e : k = D.1 8
    · rw [e, un_at, mu_at]
    · rw [un_no e, mu_no (by omega)]; exact d10 k (by omega)
theorem take_o {M : Mem} {u b : Nat} {x y : Int32} {Q : Int32 → Mem → Prop} (hb : b < 256) (n1 : b ≠ 108) (n2 : b ≠ 110) (n3 : b ≠ 114) (n4 : b ≠ 115) (n5 : b ≠ 116) (h : Q 0 M) : wX6_takeIn u (nI b) x y M Q := by
  have ne : ∀ c : Nat, c < 256 → b ≠ c → ¬ nI b = nI c := fun c hc n e => n (nI_inj (by omega) (by omega) e)
  exact ⟨fun q => absurd q (ne 108 (by omega) n1), fun _ => ⟨fun _ => ⟨Or.inl rfl, h⟩, fun _ => ⟨fun q => absurd q (ne 110 (by omega) n2), fun _ => ⟨fun _ => ⟨Or.inl rfl, h⟩, fun _ => ⟨fun _ => ⟨Or.inl rfl, h⟩, fun _ => ⟨fun _ => ⟨Or.inl rfl, h⟩, fun _ => ⟨fun q => absurd q (ne 114 (by omega) n3), fun _ => ⟨fun q => absurd q (ne 115 (by omega) n4), fun _ => ⟨fun q => absurd q (ne 116 (by omega) n5), fun _ => ⟨Or.inl rfl, h⟩⟩⟩⟩⟩⟩⟩⟩⟩⟩
