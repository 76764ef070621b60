/-! PURE 30: items of the text, the class's side -/
abbrev Dr := (Nat → Nat) × (Nat → Nat → Nat)
def un (f : Nat → Nat) (k v : Nat) : Nat → Nat := fun j => if j = k then v else f j
theorem un_at (f : Nat → Nat) (k v : Nat) : un f k v k = v := if_pos rfl
theorem un_no {f : Nat → Nat} {k v j : Nat} (h : j ≠ k) : un f k v j = f j := if_neg h
def u2 (g : Nat → Nat → Nat) (a k v : Nat) : Nat → Nat → Nat := fun b => if b = a then un (g b) k v else g b
theorem u2_at (g : Nat → Nat → Nat) (a k v : Nat) : u2 g a k v a = un (g a) k v := if_pos rfl
theorem u2_no {g : Nat → Nat → Nat} {a k v b : Nat} (h : b ≠ a) : u2 g a k v b = g b := if_neg h
def D7 (M : Mem) (u : Nat) (D : Dr) : Prop := M u 0 = nI (D.1 0) ∧ M u 1 = nI (D.1 1) ∧ M u 2 = nI (D.1 2) ∧ M u 3 = nI (D.1 3) ∧ M u 6 = nI (D.1 6) ∧ M u 8 = nI (D.1 8) ∧ (∀ k, k < D.1 6 → M (u + 2) k = nI (D.2 0 k) ∧ M (u + 4) k = nI (D.2 1 k)) ∧ ∀ k, k < D.1 8 → M (u + 6) k = nI (D.2 2 k)
def DOK (D : Dr) : Prop := 2 ≤ D.1 0 ∧ D.1 0 ≤ 40 ∧ 1 ≤ D.1 1 ∧ D.1 1 ≤ 40 ∧ D.1 2 ≤ 3 ∧ D.1 3 ≤ 39 ∧ D.1 6 ≤ 20 ∧ D.1 8 ≤ 20 ∧ (∀ k, k < D.1 6 → D.2 0 k ≤ 39 ∧ D.2 1 k ≤ 39) ∧ ∀ k, k < D.1 8 → D.2 2 k ≤ 39
def iN (D : Dr) (x : Nat) : Dr := (un D.1 0 x, D.2)
def iR (D : Dr) (x : Nat) : Dr := (un D.1 1 x, D.2)
def iL (D : Dr) (x y : Nat) : Dr := (un (un D.1 2 x) 3 y, D.2)
def iS (D : Dr) (x y : Nat) : Dr := (un D.1 6 (D.1 6 + 1), u2 (u2 D.2 0 (D.1 6) x) 1 (D.1 6) y)
def iT (D : Dr) (x : Nat) : Dr := (un D.1 8 (D.1 8 + 1), u2 D.2 2 (D.1 8) x)
def ITM (tl : Nat) (tx : Nat → Nat) (p : Nat) (D : Dr) (p' : Nat) (D' : Dr) : Prop :=
  (byt tl tx p = 110 ∧ ∃ x, ONE tl tx (p + 1) 59 p' x ∧ 2 ≤ x ∧ x ≤ 40 ∧ D' = iN D x) ∨
  (byt tl tx p = 114 ∧ ∃ x, ONE tl tx (p + 1) 59 p' x ∧ 1 ≤ x ∧ x ≤ 40 ∧ D' = iR D x) ∨
  (byt tl tx p = 108 ∧ ∃ q x y, ONE tl tx (p + 1) 44 q x ∧ ONE tl tx q 59 p' y ∧ x ≤ 3 ∧ y ≤ 39 ∧ D' = iL D x y) ∨
  (byt tl tx p = 115 ∧ ∃ q x y, ONE tl tx (p + 1) 44 q x ∧ ONE tl tx q 59 p' y ∧ x ≤ 39 ∧ y ≤ 39 ∧ D.1 6 < 20 ∧ D' = iS D x y) ∨
  (byt tl tx p = 116 ∧ ∃ x, ONE tl tx (p + 1) 59 p' x ∧ x ≤ 39 ∧ D.1 8 < 20 ∧ D' = iT D x)
theorem ITM_uniq {tl p p' p2 : Nat} {tx : Nat → Nat} {D D' D2 : Dr} (h : ITM tl tx p D p' D') (h2 : ITM tl tx p D p2 D2) : p' = p2 ∧ D' = D2 := by
  rcases h with ⟨a, x, b, _, _, c⟩ | ⟨a, x, b, _, _, c⟩ | ⟨a, q, x, y, b, b', _, _, c⟩ | ⟨a, q, x, y, b, b', _, _, _, c⟩ | ⟨a, x, b, _, _, c⟩ <;> rcases h2 with ⟨d, z, e, _, _, f⟩ | ⟨d, z, e, _, _, f⟩ | ⟨d, r, z, w, e, e', _, _, f⟩ | ⟨d, r, z, w, e, e', _, _, _, f⟩ | ⟨d, z, e, _, _, f⟩ <;> (try omega)
  · obtain ⟨g1, g2⟩ := ONE_uniq b e
    exact ⟨g1, by rw [c, f, g2]⟩
  · obtain ⟨g1, g2⟩ := ONE_uniq b e
    exact ⟨g1, by rw [c, f, g2]⟩
  · obtain ⟨g1, g2⟩ := ONE_uniq b e
    subst g1
    obtain ⟨g3, g4⟩ := ONE_uniq b' e'
    exact ⟨g3, by rw [c, f, g2, g4]⟩
  · obtain ⟨g1, g2⟩ := ONE_uniq b e
    subst g1
    obtain ⟨g3, g4⟩ := ONE_uniq b' e'
    exact ⟨g3, by rw [c, f, g2, g4]⟩
  · obtain ⟨g1, g2⟩ := ONE_uniq b e
    exact ⟨g1, by rw [c, f, g2]⟩
theorem ITM_b {tl p p' : Nat} {tx : Nat → Nat} {D D' : Dr} (h : ITM tl tx p D p' D') : p < p' ∧ p' ≤ tl := by
  rcases h with ⟨a, x, b, _⟩ | ⟨a, x, b, _⟩ | ⟨a, q, x, y, b, b', _⟩ | ⟨a, q, x, y, b, b', _⟩ | ⟨a, x, b, _⟩
  · have := ONE_b (by decide) b; omega
  · have := ONE_b (by decide) b; omega
  · have := ONE_b (by decide) b; have := ONE_b (by decide) b'; omega
  · have := ONE_b (by decide) b; have := ONE_b (by decide) b'; omega
  · have := ONE_b (by decide) b; omega
theorem ITM_ok {tl p p' : Nat} {tx : Nat → Nat} {D D' : Dr} (hD : DOK D) (h : ITM tl tx p D p' D') : DOK D' := by
  obtain ⟨d1, d2, d3, d4, d5, d6, d7, d8, d9, d10⟩ := hD
  rcases h with ⟨a, x, b, x1, x2, c⟩ | ⟨a, x, b, x1, x2, c⟩ | ⟨a, q, x, y, b, b', x1, x2, c⟩ | ⟨a, q, x, y, b, b', x1, x2, x3, c⟩ | ⟨a, x, b, x1, x2, c⟩ <;> subst c
  · exact ⟨x1, x2, d3, d4, d5, d6, d7, d8, d9, d10⟩
  · exact ⟨d1, d2, x1, x2, d5, d6, d7, d8, d9, d10⟩
  · exact ⟨d1, d2, d3, d4, x1, x2, d7, d8, d9, d10⟩
  · refine ⟨d1, d2, d3, d4, d5, d6, x3, d8, fun k hk => ?_, fun k hk => ?_⟩
    · have hk' : k < D.1 6 + 1 := hk
      show u2 (u2 D.2 0 (D.1 6) x) 1 (D.1 6) y 0 k ≤ 39 ∧ u2 (u2 D.2 0 (D.1 6) x) 1 (D.1 6) y 1 k ≤ 39
      rw [u2_no (by decide), u2_at, u2_at, u2_no (by decide)]
      by_cases e : k = D.1 6
      · rw [e, un_at, un_at]; exact ⟨x1, x2⟩
      · rw [un_no e, un_no e]; exact d9 k (by omega)
    · show u2 (u2 D.2 0 (D.1 6) x) 1 (D.1 6) y 2 k ≤ 39
      rw [u2_no (by decide), u2_no (by decide)]
      exact d10 k hk
  · refine ⟨d1, d2, d3, d4, d5, d6, d7, x2, fun k hk => ?_, fun k hk => ?_⟩
    · show u2 D.2 2 (D.1 8) x 0 k ≤ 39 ∧ u2 D.2 2 (D.1 8) x 1 k ≤ 39
      rw [u2_no (by decide), u2_no (by decide)]
      exact d9 k hk
    · have hk' : k < D.1 8 + 1 := hk
      show u2 D.2 2 (D.1 8) x 2 k ≤ 39
      rw [u2_at]
      by_cases e : k = D.1 8
      · rw [e, un_at]; exact x1
      · rw [un_no e]; exact d10 k (by omega)
