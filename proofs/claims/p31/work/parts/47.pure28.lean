/-! PURE 28: figures in the text -/
def byt (tl : Nat) (tx : Nat → Nat) (p : Nat) : Nat := if p < tl then tx p else 0
theorem byt_lt {tl p : Nat} {tx : Nat → Nat} (h : ∀ k, k < tl → tx k < 256) : byt tl tx p < 256 := by
  unfold byt
  split
  · exact h p (by assumption)
  · omega
theorem byt_in {tl p : Nat} {tx : Nat → Nat} (h : byt tl tx p ≠ 0) : p < tl := by
  unfold byt at h
  rcases Nat.lt_or_ge p tl with q | q
  · exact q
  · rw [if_neg (by omega)] at h
    exact absurd rfl h
def T7 (M : Mem) (tl : Nat) (tx : Nat → Nat) : Prop := M 1 1 = nI tl ∧ tl ≤ 300 ∧ ∀ k, k < tl → M 3 k = nI (tx k) ∧ tx k < 256
def T8 (M : Mem) (tl : Nat) (tx : Nat → Nat) : Prop := M 79 0 = nI tl ∧ tl ≤ 300 ∧ ∀ k, k < tl → M 80 k = nI (tx k) ∧ tx k < 256
/-- the class's byte: -4 behind the end -/
def bv (tl : Nat) (tx : Nat → Nat) (p : Nat) : Int32 := if p < tl then nI (tx p) else -4
theorem s5_byte {M : Mem} {tl p : Nat} {tx : Nat → Nat} {Q : Int32 → Mem → Prop} (hT : T7 M tl tx) (hp : p < 1000) (h : Q (bv tl tx p) M) : wX5_byteAt 1 (nI p) M Q := by
  unfold wX5_byteAt
  rw [hT.1]
  have := hT.2.1
  refine b_le (by omega) (by omega) (fun q => ?_) (fun q => s4_at (r := 2) (show p < 300 by omega) ?_)
  · unfold bv at h
    rw [if_neg (by omega)] at h
    exact h
  · unfold bv at h
    rw [if_pos q] at h
    rw [show (2 + 1 : Nat) = 3 from rfl, (hT.2.2 p q).1]
    exact h
theorem bv_eq {tl p c : Nat} {tx : Nat → Nat} (hx : ∀ k, k < tl → tx k < 256) (hc0 : 0 < c) (hc : c < 256) : bv tl tx p = nI c ↔ byt tl tx p = c := by
  unfold bv byt
  by_cases q : p < tl
  · rw [if_pos q, if_pos q]
    have := hx p q
    exact nI_eq (by omega) (by omega)
  · rw [if_neg q, if_neg q]
    exact ⟨fun e => absurd e (nI_m4 (by omega)), fun e => by omega⟩
theorem s5_isFig {M : Mem} {tl p : Nat} {tx : Nat → Nat} {Q : Int32 → Mem → Prop} (hx : ∀ k, k < tl → tx k < 256) (h1 : (48 ≤ byt tl tx p ∧ byt tl tx p ≤ 57) → Q 1 M) (h0 : ¬ (48 ≤ byt tl tx p ∧ byt tl tx p ≤ 57) → Q 0 M) : wX5_isFigure (bv tl tx p) M Q := by
  have e : RGE 48 57 (bv tl tx p) ↔ (48 ≤ byt tl tx p ∧ byt tl tx p ≤ 57) := by
    constructor
    · rintro ⟨k, k1, k2, k3⟩
      rw [(bv_eq hx (by omega) (by omega)).mp k3]
      exact ⟨k1, k2⟩
    · intro g
      exact ⟨_, g.1, g.2, (bv_eq hx (by omega) (by omega)).mpr rfl⟩
  exact s7_within (a := 48) (b := 57) (by omega) (by omega) (fun g => ⟨Or.inr rfl, h1 (e.mp g)⟩) (fun g => ⟨Or.inl rfl, h0 fun c => g (e.mpr c)⟩)
theorem s5_figures {M : Mem} {tl p : Nat} {tx : Nat → Nat} {Q : Int32 → Mem → Prop} (hT : T7 M tl tx) (hp : p < 900) (h0 : ¬ (48 ≤ byt tl tx p ∧ byt tl tx p ≤ 57) → Q 0 M) (h1 : (48 ≤ byt tl tx p ∧ byt tl tx p ≤ 57) → ¬ (48 ≤ byt tl tx (p + 1) ∧ byt tl tx (p + 1) ≤ 57) → Q 1 M) (h2 : (48 ≤ byt tl tx p ∧ byt tl tx p ≤ 57) → (48 ≤ byt tl tx (p + 1) ∧ byt tl tx (p + 1) ≤ 57) → Q 2 M) : wX5_figuresFrom 1 (nI p) M Q := by
  have hx := fun k hk => (hT.2.2 k hk).2
  refine s5_byte hT (by omega) (s5_isFig hx (fun g => i_t ?_) (fun g => i_f (h0 g)))
  rw [nI_1]
  exact s5_byte hT (by omega) (s5_isFig hx (fun g2 => i_t' (h2 g g2)) (fun g2 => i_f' (h1 g g2)))
theorem bv_dig {tl p : Nat} {tx : Nat → Nat} (g : 48 ≤ byt tl tx p) : bv tl tx p = nI (byt tl tx p) := by
  have := byt_in (tl := tl) (tx := tx) (p := p) (by omega)
  unfold bv byt
  rw [if_pos this, if_pos this]
theorem dig_step {a b : Nat} (ha : a < 1000) (hb : 48 ≤ b ∧ b < 256) : (((10 : Int32) * nI a) + nI b) - (48 : Int32) = nI (10 * a + (b - 48)) := by
  rw [show (10 : Int32) = nI 10 from rfl, pk_mul, nI_add, show (48 : Int32) = nI 48 from rfl, pk_sub (by omega)]
  congr 1
  omega
theorem s5_num1 {M : Mem} {tl p : Nat} {tx : Nat → Nat} {Q : Int32 → Mem → Prop} (hT : T7 M tl tx) (hp : p < 900) (g : 48 ≤ byt tl tx p ∧ byt tl tx p ≤ 57) (h : Q (nI (byt tl tx p - 48)) M) : wX5_numberAt 1 (nI p) (1 : Int32) M Q := by
  refine ⟨2, ?_⟩
  unfold wX5_numberAt_5
  refine b_le (a := 1) (b := 0) (by omega) (by omega) (fun q => by omega) (fun _ => ?_)
  rw [show nI p + (0 : Int32) = nI (p + 0) from nI_add p 0]
  refine s5_byte hT (by omega) ?_
  rw [Nat.add_zero, bv_dig g.1, show (0 : Int32) = nI 0 from rfl, dig_step (by omega) (by omega), nI_1]
  unfold wX5_numberAt_5
  refine b_le (a := 1) (b := 0 + 1) (by omega) (by omega) (fun _ => ?_) (fun q => by omega)
  rw [show 10 * 0 + (byt tl tx p - 48) = byt tl tx p - 48 by omega]
  exact h
theorem s5_num2 {M : Mem} {tl p : Nat} {tx : Nat → Nat} {Q : Int32 → Mem → Prop} (hT : T7 M tl tx) (hp : p < 900) (g : 48 ≤ byt tl tx p ∧ byt tl tx p ≤ 57) (g2 : 48 ≤ byt tl tx (p + 1) ∧ byt tl tx (p + 1) ≤ 57) (h : Q (nI (10 * (byt tl tx p - 48) + (byt tl tx (p + 1) - 48))) M) : wX5_numberAt 1 (nI p) (2 : Int32) M Q := by
  refine ⟨3, ?_⟩
  unfold wX5_numberAt_5
  refine b_le (a := 2) (b := 0) (by omega) (by omega) (fun q => by omega) (fun _ => ?_)
  rw [show nI p + (0 : Int32) = nI (p + 0) from nI_add p 0]
  refine s5_byte hT (by omega) ?_
  rw [Nat.add_zero, bv_dig g.1, show (0 : Int32) = nI 0 from rfl, dig_step (by omega) (by omega), nI_1]
  unfold wX5_numberAt_5
  refine b_le (a := 2) (b := 0 + 1) (by omega) (by omega) (fun q => by omega) (fun _ => ?_)
  rw [nI_add]
  refine s5_byte hT (by omega) ?_
  rw [show p + (0 + 1) = p + 1 by omega, bv_dig g2.1, dig_step (by omega) (by omega), nI_1]
  unfold wX5_numberAt_5
  refine b_le (a := 2) (b := 0 + 1 + 1) (by omega) (by omega) (fun _ => ?_) (fun q => by omega)
  rw [show 10 * (10 * 0 + (byt tl tx p - 48)) + (byt tl tx (p + 1) - 48) = 10 * (byt tl tx p - 48) + (byt tl tx (p + 1) - 48) by omega]
  exact h
/-- one number and the sign behind it: what it is and where the text goes on -/
def ONE (tl : Nat) (tx : Nat → Nat) (p sep p' x : Nat) : Prop := (48 ≤ byt tl tx p ∧ byt tl tx p ≤ 57) ∧ ((¬ (48 ≤ byt tl tx (p + 1) ∧ byt tl tx (p + 1) ≤ 57) ∧ byt tl tx (p + 1) = sep ∧ p' = p + 2 ∧ x = byt tl tx p - 48) ∨ ((48 ≤ byt tl tx (p + 1) ∧ byt tl tx (p + 1) ≤ 57) ∧ byt tl tx (p + 2) = sep ∧ p' = p + 3 ∧ x = 10 * (byt tl tx p - 48) + (byt tl tx (p + 1) - 48)))
theorem ONE_uniq {tl p sep p' x p2 x2 : Nat} {tx : Nat → Nat} (h : ONE tl tx p sep p' x) (h2 : ONE tl tx p sep p2 x2) : p' = p2 ∧ x = x2 := by
  obtain ⟨a, b⟩ := h
  obtain ⟨c, d⟩ := h2
  rcases b with ⟨b1, b2, b3, b4⟩ | ⟨b1, b2, b3, b4⟩ <;> rcases d with ⟨d1, d2, d3, d4⟩ | ⟨d1, d2, d3, d4⟩
  · exact ⟨by omega, by omega⟩
  · exact absurd d1 b1
  · exact absurd b1 d1
  · exact ⟨by omega, by omega⟩
theorem ONE_b {tl p sep p' x : Nat} {tx : Nat → Nat} (hs : sep ≠ 0) (h : ONE tl tx p sep p' x) : p < p' ∧ p' ≤ tl ∧ x < 100 := by
  obtain ⟨a, b⟩ := h
  rcases b with ⟨b1, b2, b3, b4⟩ | ⟨b1, b2, b3, b4⟩
  · have := byt_in (tl := tl) (tx := tx) (p := p + 1) (by omega)
    exact ⟨by omega, by omega, by omega⟩
  · have := byt_in (tl := tl) (tx := tx) (p := p + 2) (by omega)
    exact ⟨by omega, by omega, by omega⟩
