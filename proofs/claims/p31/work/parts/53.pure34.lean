/-! PURE 34: the reference reads an item -/
def D8 (M : Mem) (D : Dr) : Prop := M 81 1 = nI (D.1 0) ∧ M 82 1 = nI (D.1 1) ∧ M 83 1 = nI (D.1 2) ∧ M 84 1 = nI (D.1 3) ∧ M 85 1 = nI (D.1 6) ∧ M 87 1 = nI (D.1 8) ∧ (∀ k, k < D.1 6 → M 86 (40 + 2 * k) = nI (D.2 0 k) ∧ M 86 (41 + 2 * k) = nI (D.2 1 k)) ∧ ∀ k, k < D.1 8 → M 88 (20 + k) = nI (D.2 2 k)
def F8 (M M1 : Mem) : Prop := ∀ z k, z ≠ 96 → ¬ (z = 79 ∧ k = 19) → ¬ ((z = 81 ∨ z = 82 ∨ z = 83 ∨ z = 84 ∨ z = 85 ∨ z = 87) ∧ k = 1) → ¬ (z = 86 ∧ 40 ≤ k) → ¬ (z = 88 ∧ 20 ≤ k) → M1 z k = M z k
theorem F8_refl (M : Mem) : F8 M M := fun _ _ _ _ _ _ _ => rfl
theorem F8_trans {M M1 M2 : Mem} (h1 : F8 M M1) (h2 : F8 M1 M2) : F8 M M2 := fun z k a b c d e => (h2 z k a b c d e).trans (h1 z k a b c d e)
theorem F8_mu {M M1 : Mem} {i j : Nat} {v : Int32} (h : F8 M M1) (hij : i = 96 ∨ (i = 79 ∧ j = 19) ∨ ((i = 81 ∨ i = 82 ∨ i = 83 ∨ i = 84 ∨ i = 85 ∨ i = 87) ∧ j = 1) ∨ (i = 86 ∧ 40 ≤ j) ∨ (i = 88 ∧ 20 ≤ j)) : F8 M (mu M1 i j v) := fun z k a b c d e => by
  rw [mu_no (show z ≠ i ∨ k ≠ j by omega)]
  exact h z k a b c d e
def FG (M M1 : Mem) : Prop := (∀ z, z ≠ 96 → z ≠ 79 → M1 z = M z) ∧ ∀ z, z ≠ 19 → M1 79 z = M 79 z
theorem FG_trans {M M1 M2 : Mem} (h1 : FG M M1) (h2 : FG M1 M2) : FG M M2 := ⟨fun z a b => (h2.1 z a b).trans (h1.1 z a b), fun z a => (h2.2 z a).trans (h1.2 z a)⟩
theorem FG_F8 {M M1 : Mem} (h : FG M M1) : F8 M M1 := fun z k a b c d e => by
  by_cases q : z = 79
  · subst q
    exact h.2 k (by omega)
  · rw [h.1 z a q]
theorem FG_19 (M : Mem) (v : Int32) : FG M (mu M 79 19 v) := ⟨fun z _ b => mu_ne b, fun z a => mu_no (by omega)⟩
theorem FG_T8 {M M1 : Mem} {tl : Nat} {tx : Nat → Nat} (h : T8 M tl tx) (f : FG M M1) : T8 M1 tl tx := T8_cg h (f.2 0 (by omega)) (f.1 80 (by omega) (by omega))
theorem F8_T8 {M M1 : Mem} {tl : Nat} {tx : Nat → Nat} (h : T8 M tl tx) (f : F8 M M1) : T8 M1 tl tx := T8_cg h (f 79 0 (by omega) (by omega) (by omega) (by omega) (by omega)) (funext fun k => f 80 k (by omega) (by omega) (by omega) (by omega) (by omega))
theorem FG_D8 {M M1 : Mem} {D : Dr} (h : D8 M D) (f : FG M M1) : D8 M1 D := by
  unfold D8
  rw [f.1 81 (by omega) (by omega), f.1 82 (by omega) (by omega), f.1 83 (by omega) (by omega), f.1 84 (by omega) (by omega), f.1 85 (by omega) (by omega), f.1 86 (by omega) (by omega), f.1 87 (by omega) (by omega), f.1 88 (by omega) (by omega)]
  exact h
theorem cl1 : (1 : Int32).toNatClampNeg = 1 := nI_clamp (n := 1) (by omega)
theorem v1 {a : Nat} (h : 1 < ln a) : vp_in (1 : Int32) (ln a) := vi (i := 1) h
theorem s8_fig1 {M : Mem} {p tl : Nat} {tx : Nat → Nat} {Q : Int32 → Mem → Prop} (hT : T8 M tl tx) (hM : M 79 19 = nI p) (hp : p < 800) (h1 : ∀ p' x M1, ONE tl tx p 59 p' x → M1 96 0 = nI x → M1 79 19 = nI p' → FG M M1 → Q 1 M1) (h0 : (∀ p' x, ¬ ONE tl tx p 59 p' x) → ∀ M1 : Mem, FG M M1 → Q 0 M1) : wX8_figures (1 : Int32) M Q := by
  refine ⟨2, ?_⟩
  unfold wX8_figures_2
  refine b_le (a := 1) (b := 0) (by omega) (by omega) (fun q => by omega) (fun _ => ⟨4, ?_⟩)
  refine s8_one (w := 1) (i := 0) hT hM hp (by omega) (by omega) (by omega) (fun p' x M1 o e1 e2 f1 f2 f3 => ?_) (fun no M1 f1 f2 => h0 no M1 ⟨f1, f2⟩)
  unfold wX8_figures_2
  exact b_le (a := 1) (b := 0 + 1) (by omega) (by omega) (fun _ => ⟨Or.inr rfl, h1 p' x M1 o e1 e2 ⟨f1, f2⟩⟩) (fun q => by omega)
theorem s8_fig2 {M : Mem} {p tl : Nat} {tx : Nat → Nat} {Q : Int32 → Mem → Prop} (hT : T8 M tl tx) (hM : M 79 19 = nI p) (hp : p < 400) (h300 : tl ≤ 300) (h1 : ∀ q p' x y M1, ONE tl tx p 44 q x → ONE tl tx q 59 p' y → M1 96 0 = nI x → M1 96 1 = nI y → M1 79 19 = nI p' → FG M M1 → Q 1 M1) (h0 : (∀ q p' x y, ONE tl tx p 44 q x → ¬ ONE tl tx q 59 p' y) → ∀ M1 : Mem, FG M M1 → Q 0 M1) : wX8_figures (2 : Int32) M Q := by
  refine ⟨3, ?_⟩
  unfold wX8_figures_2
  refine b_le (a := 2) (b := 0) (by omega) (by omega) (fun q => by omega) (fun _ => ⟨4, ?_⟩)
  refine s8_one (w := 2) (i := 0) hT hM (by omega) (by omega) (by omega) (by omega) (fun q x M1 o e1 e2 f1 f2 f3 => ?_) (fun no M1 f1 f2 => h0 (fun q p' x y o _ => no q x o) M1 ⟨f1, f2⟩)
  have o44 : ONE tl tx p 44 q x := o
  have ob := ONE_b (by decide) o44
  unfold wX8_figures_2
  refine b_le (a := 2) (b := 0 + 1) (by omega) (by omega) (fun q => by omega) (fun _ => ⟨4, ?_⟩)
  refine s8_one (w := 2) (i := 1) (FG_T8 hT ⟨f1, f2⟩) e2 (by omega) (by omega) (by omega) (by omega) (fun p' y M2 o2 e3 e4 g1 g2 g3 => ?_) (fun no M2 g1 g2 => h0 (fun q2 p' x2 y o3 o4 => ?_) M2 (FG_trans ⟨f1, f2⟩ ⟨g1, g2⟩))
  · unfold wX8_figures_2
    exact b_le (a := 2) (b := 1 + 1) (by omega) (by omega) (fun _ => ⟨Or.inr rfl, h1 q p' x y M2 o44 o2 ((g3 0 (by omega)).trans e1) e3 e4 (FG_trans ⟨f1, f2⟩ ⟨g1, g2⟩)⟩) (fun q => by omega)
  · obtain ⟨z1, z2⟩ := ONE_uniq o44 o3
    subst z1
    exact no _ _ o4
