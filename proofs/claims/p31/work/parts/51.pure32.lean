/-! PURE 32: the class scans the text -/
theorem s6_end {M : Mem} {u i n : Nat} {c p x2 : Int32} {Q : Int32 → Mem → Prop} (hu : u = 4 ∨ u = 13) (hi : i < 2 ^ 31) (h : wX6_takeIn u c (M (u + 8) 0) (M (u + 8) 1) M (fun r M1 => (r = 0 → Q (-4 : Int32) M1) ∧ (¬ r = 0 → Q p M1))) : wX6_scanItem_20 u 1 x2 Q (n + 1) c (nI i) p (nI i) M := by
  have hln : ln (u + 8) = 2 := by rcases hu with e | e <;> subst e <;> rfl
  unfold wX6_scanItem_20
  refine b_le hi hi (fun _ => ?_) (fun q => by omega)
  refine s4_at (r := u + 7) (i := 0) (by rw [show u + 7 + 1 = u + 8 from rfl, hln]; omega) ?_
  refine s4_at (r := u + 7) (i := 1) (by rw [show u + 7 + 1 = u + 8 from rfl, hln]; omega) ?_
  exact h
theorem s6_item {M : Mem} {u tl p : Nat} {tx : Nat → Nat} {D : Dr} {Q : Int32 → Mem → Prop} (hu : u = 4 ∨ u = 13) (hT : T7 M tl tx) (hp : p < tl) (hD : D7 M u D) (hk : DOK D) (h1 : ∀ p' D' M1, ITM tl tx p D p' D' → D7 M1 u D' → FU u M M1 → Q (nI p') M1) (h0 : (∀ p' D', ¬ ITM tl tx p D p' D') → ∀ M1, FU u M M1 → Q (-4 : Int32) M1) : wX6_scanItem u 1 (nI p) M Q := by
  have hx := fun k hk => (hT.2.2 k hk).2
  have h300 := hT.2.1
  have hb := byt_lt (p := p) hx
  have ebv : bv tl tx p = nI (byt tl tx p) := by unfold bv byt; rw [if_pos hp, if_pos hp]
  obtain ⟨-, -, -, -, -, -, k6, k8, -, -⟩ := hk
  refine s5_byte hT (by omega) ?_
  rw [ebv]
  have f8 : ∀ (M1 : Mem) i v, FU u M M1 → FU u M (mu M1 (u + 8) i v) := fun M1 i v f => FU_mu f (by omega)
  have fr : ∀ M1 : Mem, (∀ z, z ≠ u + 8 → M1 z = M z) → FU u M M1 := fun M1 f z hz => f z (by omega)
  have fr2 : ∀ (M1 M2 : Mem), FU u M M1 → (∀ z, z ≠ u + 8 → M2 z = M1 z) → FU u M M2 := fun M1 M2 f1 f z hz => (f z (by omega)).trans (f1 z hz)
  have ne : ∀ c : Nat, c < 256 → byt tl tx p ≠ c → ¬ nI (byt tl tx p) = nI c := fun c hc n e => n (nI_inj (by omega) (by omega) e)
  have s10 : sepS 1 0 = 59 := rfl
  have s20 : sepS 2 0 = 44 := rfl
  have s21 : sepS 2 1 = 59 := rfl
  by_cases c108 : byt tl tx p = 108
  · rw [c108]
    refine ⟨fun _ => ?_, fun q => absurd rfl q⟩
    rw [nI_1]
    refine ⟨3, s6_one (w := 2) (i := 0) hu hT (by omega) (by omega) (by omega) (fun q x o => ?_) (fun no M1 f => h0 (fun p' D' it => ?_) M1 (fr M1 f))⟩
    · rw [s20] at o
      obtain ⟨o1, o2, o3⟩ := ONE_b (by decide) o
      refine s6_one (w := 2) (i := 1) hu (FU_T7 hu hT (f8 M 0 _ (FU_refl u M))) (by omega) (by omega) (by omega) (fun p' y o' => ?_) (fun no M1 f => h0 (fun p' D' it => ?_) M1 (fr2 _ M1 (f8 M 0 _ (FU_refl u M)) f))
      · rw [s21] at o'
        have o4 := ONE_b (by decide) o'
        refine s6_end (i := 2) hu (by omega) ?_
        rw [mu_no (show u + 8 ≠ u + 8 ∨ 0 ≠ 1 by omega), mu_at, mu_at]
        refine take_l (by omega) (by omega) (D7_8 (D7_8 hD)) (fun g M1 d f => ⟨fun q => absurd q one_ne, fun _ => ?_⟩) (fun g M1 f => ⟨fun _ => h0 (fun p2 D2 it => ?_) M1 (FU_trans (f8 _ 1 _ (f8 M 0 _ (FU_refl u M))) f), fun q => absurd rfl q⟩)
        · exact h1 p' _ M1 (Or.inr (Or.inr (Or.inl ⟨c108, q, x, y, o, o', g.1, g.2, rfl⟩))) d (FU_trans (f8 _ 1 _ (f8 M 0 _ (FU_refl u M))) f)
        · rcases it with ⟨a, _⟩ | ⟨a, _⟩ | ⟨a, q', x', y', e, e', v1, v2, _⟩ | ⟨a, _⟩ | ⟨a, _⟩ <;> (try omega)
          obtain ⟨g1, g2⟩ := ONE_uniq o e
          subst g1
          obtain ⟨g3, g4⟩ := ONE_uniq o' e'
          exact g ⟨by omega, by omega⟩
      · rw [s21] at no
        rcases it with ⟨a, _⟩ | ⟨a, _⟩ | ⟨a, q', x', y', e, e', _⟩ | ⟨a, _⟩ | ⟨a, _⟩ <;> (try omega)
        obtain ⟨g1, g2⟩ := ONE_uniq o e
        subst g1
        exact no _ _ e'
    · rw [s20] at no
      rcases it with ⟨a, _⟩ | ⟨a, _⟩ | ⟨a, q', x', y', e, e', _⟩ | ⟨a, _⟩ | ⟨a, _⟩ <;> (try omega)
      exact no _ _ e
  by_cases c110 : byt tl tx p = 110
  · rw [c110]
    refine ⟨fun q => absurd q (by decide), fun _ => ⟨fun q => absurd q (by decide), fun _ => ⟨fun _ => ?_, fun q => absurd rfl q⟩⟩⟩
    rw [nI_1]
    refine ⟨2, s6_one (w := 1) (i := 0) hu hT (by omega) (by omega) (by omega) (fun p' x o => ?_) (fun no M1 f => h0 (fun p' D' it => ?_) M1 (fr M1 f))⟩
    · rw [s10] at o
      have o4 := ONE_b (by decide) o
      refine s6_end (i := 1) hu (by omega) ?_
      rw [mu_at]
      refine take_n (by omega) (D7_8 hD) (fun g M1 d f => ⟨fun q => absurd q one_ne, fun _ => h1 p' _ M1 (Or.inl ⟨c110, x, o, g.1, g.2, rfl⟩) d (FU_trans (f8 M 0 _ (FU_refl u M)) f)⟩) (fun g M1 f => ⟨fun _ => h0 (fun p2 D2 it => ?_) M1 (FU_trans (f8 M 0 _ (FU_refl u M)) f), fun q => absurd rfl q⟩)
      rcases it with ⟨a, x', e, v1, v2, _⟩ | ⟨a, _⟩ | ⟨a, _⟩ | ⟨a, _⟩ | ⟨a, _⟩ <;> (try omega)
      obtain ⟨g1, g2⟩ := ONE_uniq o e
      exact g ⟨by omega, by omega⟩
    · rw [s10] at no
      rcases it with ⟨a, x', e, v1, v2, _⟩ | ⟨a, _⟩ | ⟨a, _⟩ | ⟨a, _⟩ | ⟨a, _⟩ <;> (try omega)
      exact no _ _ e
  by_cases c114 : byt tl tx p = 114
  · rw [c114]
    refine ⟨fun q => absurd q (by decide), fun _ => ⟨fun q => absurd q (by decide), fun _ => ⟨fun q => absurd q (by decide), fun _ => ⟨fun q => absurd q (by decide), fun _ => ⟨fun q => absurd q (by decide), fun _ => ⟨fun q => absurd q (by decide), fun _ => ⟨fun _ => ?_, fun q => absurd rfl q⟩⟩⟩⟩⟩⟩⟩
    rw [nI_1]
    refine ⟨2, s6_one (w := 1) (i := 0) hu hT (by omega) (by omega) (by omega) (fun p' x o => ?_) (fun no M1 f => h0 (fun p' D' it => ?_) M1 (fr M1 f))⟩
    · rw [s10] at o
      have o4 := ONE_b (by decide) o
      refine s6_end (i := 1) hu (by omega) ?_
      rw [mu_at]
      refine take_r (by omega) (D7_8 hD) (fun g M1 d f => ⟨fun q => absurd q one_ne, fun _ => h1 p' _ M1 (Or.inr (Or.inl ⟨c114, x, o, g.1, g.2, rfl⟩)) d (FU_trans (f8 M 0 _ (FU_refl u M)) f)⟩) (fun g M1 f => ⟨fun _ => h0 (fun p2 D2 it => ?_) M1 (FU_trans (f8 M 0 _ (FU_refl u M)) f), fun q => absurd rfl q⟩)
      rcases it with ⟨a, _⟩ | ⟨a, x', e, v1, v2, _⟩ | ⟨a, _⟩ | ⟨a, _⟩ | ⟨a, _⟩ <;> (try omega)
      obtain ⟨g1, g2⟩ := ONE_uniq o e
      exact g ⟨by omega, by omega⟩
    · rw [s10] at no
      rcases it with ⟨a, _⟩ | ⟨a, x', e, v1, v2, _⟩ | ⟨a, _⟩ | ⟨a, _⟩ | ⟨a, _⟩ <;> (try omega)
      exact no _ _ e
  by_cases c116 : byt tl tx p = 116
  · rw [c116]
    refine ⟨fun q => absurd q (by decide), fun _ => ⟨fun q => absurd q (by decide), fun _ => ⟨fun q => absurd q (by decide), fun _ => ⟨fun q => absurd q (by decide), fun _ => ⟨fun q => absurd q (by decide), fun _ => ⟨fun q => absurd q (by decide), fun _ => ⟨fun q => absurd q (by decide), fun _ => ⟨fun q => absurd q (by decide), fun _ => ⟨fun _ => ?_, fun q => absurd rfl q⟩⟩⟩⟩⟩⟩⟩⟩⟩
    rw [nI_1]
    refine ⟨2, s6_one (w := 1) (i := 0) hu hT (by omega) (by omega) (by omega) (fun p' x o => ?_) (fun no M1 f => h0 (fun p' D' it => ?_) M1 (fr M1 f))⟩
    · rw [s10] at o
      have o4 := ONE_b (by decide) o
      refine s6_end (i := 1) hu (by omega) ?_
      rw [mu_at]
      refine take_t hu (by omega) (D7_8 hD) k8 (fun g M1 d f => ⟨fun q => absurd q one_ne, fun _ => h1 p' _ M1 (Or.inr (Or.inr (Or.inr (Or.inr ⟨c116, x, o, g.1, g.2, rfl⟩)))) d (FU_trans (f8 M 0 _ (FU_refl u M)) f)⟩) (fun g M1 f => ⟨fun _ => h0 (fun p2 D2 it => ?_) M1 (FU_trans (f8 M 0 _ (FU_refl u M)) f), fun q => absurd rfl q⟩)
      rcases it with ⟨a, _⟩ | ⟨a, _⟩ | ⟨a, _⟩ | ⟨a, _⟩ | ⟨a, x', e, v1, v2, _⟩ <;> (try omega)
      obtain ⟨g1, g2⟩ := ONE_uniq o e
      exact g ⟨by omega, by omega⟩
    · rw [s10] at no
      rcases it with ⟨a, _⟩ | ⟨a, _⟩ | ⟨a, _⟩ | ⟨a, _⟩ | ⟨a, x', e, v1, v2, _⟩ <;> (try omega)
      exact no _ _ e
  by_cases c115 : byt tl tx p = 115
  · rw [c115]
    refine ⟨fun q => absurd q (by decide), fun _ => ⟨fun q => absurd q (by decide), fun _ => ⟨fun q => absurd q (by decide), fun _ => ⟨fun q => absurd q (by decide), fun _ => ⟨fun q => absurd q (by decide), fun _ => ⟨fun q => absurd q (by decide), fun _ => ⟨fun q => absurd q (by decide), fun _ => ⟨fun _ => ?_, fun q => absurd rfl q⟩⟩⟩⟩⟩⟩⟩⟩
    rw [nI_1]
    refine ⟨3, s6_one (w := 2) (i := 0) hu hT (by omega) (by omega) (by omega) (fun q x o => ?_) (fun no M1 f => h0 (fun p' D' it => ?_) M1 (fr M1 f))⟩
    · rw [s20] at o
      obtain ⟨o1, o2, o3⟩ := ONE_b (by decide) o
      refine s6_one (w := 2) (i := 1) hu (FU_T7 hu hT (f8 M 0 _ (FU_refl u M))) (by omega) (by omega) (by omega) (fun p' y o' => ?_) (fun no M1 f => h0 (fun p' D' it => ?_) M1 (fr2 _ M1 (f8 M 0 _ (FU_refl u M)) f))
      · rw [s21] at o'
        have o4 := ONE_b (by decide) o'
        refine s6_end (i := 2) hu (by omega) ?_
        rw [mu_no (show u + 8 ≠ u + 8 ∨ 0 ≠ 1 by omega), mu_at, mu_at]
        refine take_s hu (by omega) (by omega) (D7_8 (D7_8 hD)) k6 (fun g M1 d f => ⟨fun q => absurd q one_ne, fun _ => ?_⟩) (fun g M1 f => ⟨fun _ => h0 (fun p2 D2 it => ?_) M1 (FU_trans (f8 _ 1 _ (f8 M 0 _ (FU_refl u M))) f), fun q => absurd rfl q⟩)
        · exact h1 p' _ M1 (Or.inr (Or.inr (Or.inr (Or.inl ⟨c115, q, x, y, o, o', g.1, g.2.1, g.2.2, rfl⟩)))) d (FU_trans (f8 _ 1 _ (f8 M 0 _ (FU_refl u M))) f)
        · rcases it with ⟨a, _⟩ | ⟨a, _⟩ | ⟨a, _⟩ | ⟨a, q', x', y', e, e', v1, v2, v3, _⟩ | ⟨a, _⟩ <;> (try omega)
          obtain ⟨g1, g2⟩ := ONE_uniq o e
          subst g1
          obtain ⟨g3, g4⟩ := ONE_uniq o' e'
          exact g ⟨by omega, by omega, v3⟩
      · rw [s21] at no
        rcases it with ⟨a, _⟩ | ⟨a, _⟩ | ⟨a, _⟩ | ⟨a, q', x', y', e, e', _⟩ | ⟨a, _⟩ <;> (try omega)
        obtain ⟨g1, g2⟩ := ONE_uniq o e
        subst g1
        exact no _ _ e'
    · rw [s20] at no
      rcases it with ⟨a, _⟩ | ⟨a, _⟩ | ⟨a, _⟩ | ⟨a, q', x', y', e, e', _⟩ | ⟨a, _⟩ <;> (try omega)
      exact no _ _ e
  have none : ∀ p' D', ¬ ITM tl tx p D p' D' := fun p' D' it => by
    rcases it with ⟨a, _⟩ | ⟨a, _⟩ | ⟨a, _⟩ | ⟨a, _⟩ | ⟨a, _⟩ <;> omega
  have fin : ∃ n, wX6_scanItem_20 u 1 (nI p) Q n (nI (byt tl tx p)) (0 : Int32) ((nI p) + (1 : Int32)) (0 : Int32) M := ⟨1, s6_end (i := 0) hu (by omega) (take_o hb c108 c110 c114 c115 c116 ⟨fun _ => h0 none M (FU_refl u M), fun q => absurd rfl q⟩)⟩
  exact ⟨fun q => absurd q (ne 108 (by omega) c108), fun _ => ⟨fun _ => fin, fun _ => ⟨fun q => absurd q (ne 110 (by omega) c110), fun _ => ⟨fun _ => fin, fun _ => ⟨fun _ => fin, fun _ => ⟨fun _ => fin, fun _ => ⟨fun q => absurd q (ne 114 (by omega) c114), fun _ => ⟨fun q => absurd q (ne 115 (by omega) c115), fun _ => ⟨fun q => absurd q (ne 116 (by omega) c116), fun _ => fin⟩⟩⟩⟩⟩⟩⟩⟩⟩
