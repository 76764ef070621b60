/-! PURE 29: one number, on both sides -/
def sepS (w i : Nat) : Nat := if w ≤ i + 1 then 59 else 44
theorem T7_cg {M M1 : Mem} {tl : Nat} {tx : Nat → Nat} (h : T7 M tl tx) (e1 : M1 1 = M 1) (e3 : M1 3 = M 3) : T7 M1 tl tx := by
  unfold T7
  rw [e1, e3]
  exact h
theorem T8_cg {M M1 : Mem} {tl : Nat} {tx : Nat → Nat} (h : T8 M tl tx) (e1 : M1 79 0 = M 79 0) (e3 : M1 80 = M 80) : T8 M1 tl tx := by
  unfold T8
  rw [e1, e3]
  exact h
theorem s6_one {M : Mem} {u w cc p i n tl : Nat} {tx : Nat → Nat} {x2 : Int32} {Q : Int32 → Mem → Prop} (hu : u = 4 ∨ u = 13) (hT : T7 M tl tx) (hp : p < 800) (hw : w ≤ 2) (hi : i < w) (h1 : ∀ p' x, ONE tl tx p (sepS w i) p' x → wX6_scanItem_20 u 1 x2 Q n (nI cc) (nI w) (nI p') (nI (i + 1)) (mu M (u + 8) i (nI x))) (h0 : (∀ p' x, ¬ ONE tl tx p (sepS w i) p' x) → ∀ M1 : Mem, (∀ z, z ≠ u + 8 → M1 z = M z) → Q (-4 : Int32) M1) : wX6_scanItem_20 u 1 x2 Q (n + 1) (nI cc) (nI w) (nI p) (nI i) M := by
  have hx := fun k hk => (hT.2.2 k hk).2
  have hln : ln (u + 8) = 2 := by rcases hu with e | e <;> subst e <;> rfl
  unfold wX6_scanItem_20
  refine b_le (by omega) (by omega) (fun q => by omega) (fun _ => ?_)
  have tail : ∀ d x, 1 ≤ d → d ≤ 2 → (byt tl tx (p + d) = sepS w i → ONE tl tx p (sepS w i) (p + d + 1) x) → (byt tl tx (p + d) ≠ sepS w i → ∀ p' x, ¬ ONE tl tx p (sepS w i) p' x) → wX4_put (u + 7) (nI i) (nI x) M (fun M16 => (wX5_byteAt 1 ((nI p) + nI d) M16 (fun r18 M17 => (((nI w) ≤ ((nI i) + (1 : Int32)) → wX6_scanItem_89 u 1 x2 (wX6_scanItem_20 u 1 x2 Q n) Q (nI cc) (nI w) ((nI p) + nI d) (nI i) (59 : Int32) r18 M17) ∧ (¬ (nI w) ≤ ((nI i) + (1 : Int32)) → wX6_scanItem_89 u 1 x2 (wX6_scanItem_20 u 1 x2 Q n) Q (nI cc) (nI w) ((nI p) + nI d) (nI i) (44 : Int32) r18 M17))))) := fun d x d1 d2 y1 y0 => by
    refine s4_put (r := u + 7) (by rw [show u + 7 + 1 = u + 8 from rfl, hln]; omega) ?_
    rw [show u + 7 + 1 = u + 8 from rfl, nI_add]
    have hT2 : T7 (mu M (u + 8) i (nI x)) tl tx := T7_cg hT (mu_ne (by omega)) (mu_ne (by omega))
    refine s5_byte hT2 (by omega) ?_
    rw [nI_1]
    have go : ∀ s : Nat, s = sepS w i → 0 < s → s < 256 → wX6_scanItem_89 u 1 x2 (wX6_scanItem_20 u 1 x2 Q n) Q (nI cc) (nI w) (nI (p + d)) (nI i) (nI s) (bv tl tx (p + d)) (mu M (u + 8) i (nI x)) := fun s es s0 s1 => by
      unfold wX6_scanItem_89
      rw [nI_1, nI_1]
      refine ⟨fun e => ?_, fun e => ?_⟩
      · exact h1 _ x (y1 (by rw [← es]; exact (bv_eq hx s0 s1).mp e))
      · exact h0 (y0 fun c => e ((bv_eq hx s0 s1).mpr (by rw [es]; exact c))) _ fun z hz => mu_ne hz
    refine b_le (by omega) (by omega) (fun q => go 59 (if_pos q).symm (by omega) (by omega)) (fun q => go 44 (if_neg (by omega)).symm (by omega) (by omega))
  refine s5_figures hT (by omega) (fun g => ⟨fun n => absurd rfl n, fun _ => h0 (fun p' x o => g o.1) M fun _ _ => rfl⟩) (fun g g2 => ⟨fun _ => ?_, fun q => absurd q one_ne⟩) (fun g g2 => ⟨fun _ => ?_, fun q => absurd q (by decide)⟩)
  · refine s5_num1 hT (by omega) g (tail 1 _ (by omega) (by omega) (fun e => ⟨g, Or.inl ⟨g2, e, rfl, rfl⟩⟩) (fun e p' x o => ?_))
    rcases o.2 with ⟨_, c, _⟩ | ⟨c, _⟩
    · exact e c
    · exact g2 c
  · refine s5_num2 hT (by omega) g g2 (tail 2 _ (by omega) (by omega) (fun e => ⟨g, Or.inr ⟨g2, e, rfl, rfl⟩⟩) (fun e p' x o => ?_))
    rcases o.2 with ⟨c, _⟩ | ⟨_, c, _⟩
    · exact c g2
    · exact e c
theorem r8_byte {M : Mem} {tl p : Nat} {tx : Nat → Nat} {Q : Int32 → Mem → Prop} (hT : T8 M tl tx) (hp : p < 1000) (h : Q (nI (byt tl tx p)) M) : wX8_byteAt (nI p) M Q := by
  unfold wX8_byteAt
  rw [hT.1]
  have := hT.2.1
  unfold byt at h
  refine b_le (by omega) (by omega) (fun q => ?_) (fun q => ⟨vi (show p < 300 by omega), ?_⟩)
  · rw [if_neg (by omega)] at h
    exact h
  · rw [if_pos q] at h
    unfold wX8_byteAt_18
    rw [nI_clamp (by omega), (hT.2.2 p q).1]
    exact h
theorem rge_nI {a b c : Nat} (hb : b < 2 ^ 31) (hc : c < 2 ^ 31) : RGE a b (nI c) ↔ a ≤ c ∧ c ≤ b :=
  ⟨fun ⟨k, k1, k2, e⟩ => by have := nI_inj hc (by omega) e; omega, fun g => ⟨c, g.1, g.2, rfl⟩⟩
theorem r8_dig {M : Mem} {w i c vv q n tl : Nat} {tx : Nat → Nat} {k : Int32 → Mem → Prop} {Q : Int32 → Mem → Prop} (hT : T8 M tl tx) (hM : M 79 19 = nI q) (hq : q < 900) (hc : c ≤ 2) (hv : vv < 1000) (g : 48 ≤ byt tl tx q ∧ byt tl tx q ≤ 57) (h : wX8_figures_12 (nI w) k Q n (nI i) (nI (c + 1)) (nI (10 * vv + (byt tl tx q - 48))) (mu M 79 19 (nI (q + 1)))) : wX8_figures_12 (nI w) k Q (n + 1) (nI i) (nI c) (nI vv) M := by
  unfold wX8_figures_12
  rw [hM]
  refine r8_byte hT (by omega) (r8_in_t (a := 48) (b := 57) (by omega) (by omega) ((rge_nI (by omega) (by omega)).mpr g) (i_t' ?_))
  refine b_le (a := 3) (b := c) (by omega) (by omega) (fun z => by omega) (fun _ => ?_)
  rw [hM]
  refine r8_byte hT (by omega) ?_
  rw [hM, nI_1, nI_1, dig_step hv (by omega)]
  exact h
theorem r8_nod {M : Mem} {w i c vv q n tl : Nat} {tx : Nat → Nat} {k : Int32 → Mem → Prop} {Q : Int32 → Mem → Prop} (hT : T8 M tl tx) (hM : M 79 19 = nI q) (hq : q < 900) (hc : c ≤ 3) (g : ¬ (48 ≤ byt tl tx q ∧ byt tl tx q ≤ 57) ∨ c = 3) (h : wX8_figures_73 (nI w) k Q (nI i) (nI c) (nI vv) M) : wX8_figures_12 (nI w) k Q (n + 1) (nI i) (nI c) (nI vv) M := by
  have hx := byt_lt (tl := tl) (p := q) fun k hk => (hT.2.2 k hk).2
  unfold wX8_figures_12
  rw [hM]
  refine r8_byte hT (by omega) ?_
  by_cases d : 48 ≤ byt tl tx q ∧ byt tl tx q ≤ 57
  · refine r8_in_t (a := 48) (b := 57) (by omega) (by omega) ((rge_nI (by omega) (by omega)).mpr d) (i_t' ?_)
    exact b_le (a := 3) (b := c) (by omega) (by omega) (fun _ => h) (fun z => by rcases g with g | g; exact absurd d g; omega)
  · exact r8_in_f (a := 48) (b := 57) (by omega) (by omega) (fun z => d ((rge_nI (by omega) (by omega)).mp z)) (i_f' h)
theorem r8_73 {M : Mem} {w i c vv q tl : Nat} {tx : Nat → Nat} {k : Int32 → Mem → Prop} {Q : Int32 → Mem → Prop} (hT : T8 M tl tx) (hM : M 79 19 = nI q) (hq : q < 900) (hw : 1 ≤ w) (hw2 : w ≤ 2) (hi : i < w) (hc : c ≤ 3) (h1 : (c = 1 ∨ c = 2) → byt tl tx q = sepS w i → k (nI (i + 1)) (mu (mu M 96 i (nI vv)) 79 19 (nI (q + 1)))) (h0 : (¬ (c = 1 ∨ c = 2) ∨ byt tl tx q ≠ sepS w i) → Q 0 M) : wX8_figures_73 (nI w) k Q (nI i) (nI c) (nI vv) M := by
  have hx := byt_lt (tl := tl) (p := q) fun k hk => (hT.2.2 k hk).2
  unfold wX8_figures_73
  by_cases d : 1 ≤ c ∧ c ≤ 2
  · refine r8_in_t (a := 1) (b := 2) (by omega) (by omega) ((rge_nI (by omega) (by omega)).mpr d) (i_t' ?_)
    rw [hM]
    refine r8_byte hT (by omega) ?_
    rw [nI_sub1 hw]
    have go : ∀ s : Nat, s = sepS w i → s < 256 → wX8_figures_107 (nI w) k Q (nI i) (nI vv) (nI s) (nI (byt tl tx q)) M := fun s es s1 => by
      unfold wX8_figures_107
      have m0 : mu M 96 i (nI vv) 79 19 = nI q := by rw [mu_no (by omega)]; exact hM
      rw [nI_clamp (show i < 2 ^ 31 by omega), m0, nI_1, nI_1]
      refine b_eq (by omega) (by omega) (fun e => ⟨vi (show i < 2 by omega), h1 (by omega) (by rw [← es]; exact e)⟩) (fun e => ⟨Or.inl rfl, h0 (Or.inr (by rw [← es]; exact e))⟩)
    exact b_le (by omega) (by omega) (fun z => go 59 (if_pos (by omega)).symm (by omega)) (fun z => go 44 (if_neg (by omega)).symm (by omega))
  · exact r8_in_f (a := 1) (b := 2) (by omega) (by omega) (fun z => d ((rge_nI (by omega) (by omega)).mp z)) (i_f' ⟨Or.inl rfl, h0 (Or.inl (by omega))⟩)
theorem s8_one {M : Mem} {w i p tl : Nat} {tx : Nat → Nat} {k : Int32 → Mem → Prop} {Q : Int32 → Mem → Prop} (hT : T8 M tl tx) (hM : M 79 19 = nI p) (hp : p < 800) (hw : 1 ≤ w) (hw2 : w ≤ 2) (hi : i < w) (h1 : ∀ p' x M1, ONE tl tx p (sepS w i) p' x → M1 96 i = nI x → M1 79 19 = nI p' → (∀ z, z ≠ 96 → z ≠ 79 → M1 z = M z) → (∀ z, z ≠ 19 → M1 79 z = M 79 z) → (∀ z, z ≠ i → M1 96 z = M 96 z) → k (nI (i + 1)) M1) (h0 : (∀ p' x, ¬ ONE tl tx p (sepS w i) p' x) → ∀ M1 : Mem, (∀ z, z ≠ 96 → z ≠ 79 → M1 z = M z) → (∀ z, z ≠ 19 → M1 79 z = M 79 z) → Q 0 M1) : wX8_figures_12 (nI w) k Q 4 (nI i) (0 : Int32) (0 : Int32) M := by
  have up : ∀ (M : Mem) q, T8 M tl tx → T8 (mu M 79 19 (nI q)) tl tx := fun M q h => T8_cg h (mu_no (by omega)) (mu_ne (by omega))
  have a19 : ∀ (M : Mem) q, mu M 79 19 (nI q) 79 19 = nI q := fun M q => mu_at _ _ _ _
  by_cases d : 48 ≤ byt tl tx p ∧ byt tl tx p ≤ 57
  · refine r8_dig (c := 0) (vv := 0) hT hM (by omega) (by omega) (by omega) d ?_
    rw [show 10 * 0 + (byt tl tx p - 48) = byt tl tx p - 48 by omega]
    by_cases d2 : 48 ≤ byt tl tx (p + 1) ∧ byt tl tx (p + 1) ≤ 57
    · refine r8_dig (up _ _ hT) (a19 _ _) (by omega) (by omega) (by omega) d2 ?_
      by_cases d3 : 48 ≤ byt tl tx (p + 1 + 1) ∧ byt tl tx (p + 1 + 1) ≤ 57
      · refine r8_dig (up _ _ (up _ _ hT)) (a19 _ _) (by omega) (by omega) (by omega) d3 ?_
        refine r8_nod (up _ _ (up _ _ (up _ _ hT))) (a19 _ _) (by omega) (by omega) (Or.inr rfl) ?_
        refine r8_73 (up _ _ (up _ _ (up _ _ hT))) (a19 _ _) (by omega) hw hw2 hi (by omega) (fun q _ => by omega) (fun _ => h0 (fun p' x o => ?_) _ (fun z a b => by rw [mu_ne b, mu_ne b, mu_ne b]) (fun z a => by rw [mu_no (by omega), mu_no (by omega), mu_no (by omega)]))
        have hs : sepS w i = 59 ∨ sepS w i = 44 := by unfold sepS; split; exact Or.inl rfl; exact Or.inr rfl
        rcases o.2 with ⟨c, _⟩ | ⟨_, c, _⟩
        · exact c d2
        · rw [show p + 2 = p + 1 + 1 from rfl] at c
          omega
      · refine r8_nod (up _ _ (up _ _ hT)) (a19 _ _) (by omega) (by omega) (Or.inl d3) ?_
        refine r8_73 (up _ _ (up _ _ hT)) (a19 _ _) (by omega) hw hw2 hi (by omega) (fun _ e => h1 (p + 3) _ _ ⟨d, Or.inr ⟨d2, e, rfl, rfl⟩⟩ ?_ ?_ (fun z a b => ?_) (fun z a => ?_) (fun z a => ?_)) (fun q => h0 (fun p' x o => ?_) _ (fun z a b => by rw [mu_ne b, mu_ne b]) (fun z a => by rw [mu_no (by omega), mu_no (by omega)]))
        · rw [mu_no (by omega), mu_at]
        · exact mu_at _ _ _ _
        · rw [mu_ne b, mu_ne a, mu_ne b, mu_ne b]
        · rw [mu_no (by omega), mu_no (by omega), mu_no (by omega), mu_no (by omega)]
        · rw [mu_no (by omega), mu_no (by omega), mu_no (by omega), mu_no (by omega)]
        · rcases q with q | q
          · omega
          · rcases o.2 with ⟨c, _⟩ | ⟨_, c, _⟩
            · exact c d2
            · exact q c
    · refine r8_nod (up _ _ hT) (a19 _ _) (by omega) (by omega) (Or.inl d2) ?_
      refine r8_73 (up _ _ hT) (a19 _ _) (by omega) hw hw2 hi (by omega) (fun _ e => h1 (p + 2) _ _ ⟨d, Or.inl ⟨d2, e, rfl, rfl⟩⟩ ?_ ?_ (fun z a b => ?_) (fun z a => ?_) (fun z a => ?_)) (fun q => h0 (fun p' x o => ?_) _ (fun z a b => by rw [mu_ne b]) (fun z a => by rw [mu_no (by omega)]))
      · rw [mu_no (by omega), mu_at]
      · exact mu_at _ _ _ _
      · rw [mu_ne b, mu_ne a, mu_ne b]
      · rw [mu_no (by omega), mu_no (by omega), mu_no (by omega)]
      · rw [mu_no (by omega), mu_no (by omega), mu_no (by omega)]
      · rcases q with q | q
        · omega
        · rcases o.2 with ⟨_, c, _⟩ | ⟨c, _⟩
          · exact q c
          · exact d2 c
  · refine r8_nod (c := 0) (vv := 0) hT hM (by omega) (by omega) (Or.inl d) ?_
    exact r8_73 (c := 0) (vv := 0) hT hM (by omega) hw hw2 hi (by omega) (fun q _ => by omega) (fun _ => h0 (fun p' x o => d o.1) M (fun _ _ _ => rfl) (fun _ _ => rfl))
