/-! PURE 35: the reference reads an item -/
theorem i0 {A B : Prop} (h : A) : ((0 : Int32) = 0 → A) ∧ (¬ (0 : Int32) = 0 → B) := ⟨fun _ => h, fun q => absurd rfl q⟩
theorem s8_item {M : Mem} {tl p : Nat} {tx : Nat → Nat} {D : Dr} {Q : Int32 → Mem → Prop} (hT : T8 M tl tx) (hM : M 79 19 = nI p) (hp : p < tl) (hD : D8 M D) (hk : DOK D) (h1 : ∀ p' D' M1, ITM tl tx p D p' D' → D8 M1 D' → M1 79 19 = nI p' → F8 M M1 → Q 1 M1) (h0 : (∀ p' D', ¬ ITM tl tx p D p' D') → ∀ M1, F8 M M1 → Q 0 M1) : wX8_item M Q := by
  have hx := fun k hk => (hT.2.2 k hk).2
  have h300 := hT.2.1
  have hb := byt_lt (p := p) hx
  obtain ⟨-, -, -, -, -, -, k6, k8, -, -⟩ := hk
  unfold wX8_item
  rw [hM]
  refine r8_byte hT (by omega) ?_
  rw [hM, nI_1, cl0, cl1]
  have g0 : FG M (mu M 79 19 (nI (p + 1))) := FG_19 M _
  have hT0 := FG_T8 hT g0
  have ne : ∀ c : Nat, c < 256 → byt tl tx p ≠ c → ¬ nI (byt tl tx p) = nI c := fun c hc n e => n (nI_inj (by omega) (by omega) e)
  have m0 : mu M 79 19 (nI (p + 1)) 79 19 = nI (p + 1) := mu_at _ _ _ _
  by_cases c110 : byt tl tx p = 110
  · rw [c110]
    refine ⟨fun q => absurd q (by decide), fun _ => ⟨fun q => absurd q (by decide), fun _ => ⟨fun _ => ?_, fun q => absurd rfl q⟩⟩⟩
    refine s8_fig1 hT0 m0 (by omega) (fun p' x M1 o e1 e2 f => i_t' ⟨vz (by decide), ?_⟩) (fun no M1 f => i_f' ⟨Or.inl rfl, h0 (fun p' D' it => ?_) M1 (FG_F8 (FG_trans g0 f))⟩)
    · have o4 := ONE_b (by decide) o
      have fF := FG_trans g0 f
      rw [e1]
      obtain ⟨d0, d1, d2, d3, d6, d8, d9, d10⟩ := FG_D8 hD fF
      refine s8_in (a := 2) (b := 40) (by omega) (by omega) (fun g => i_t ⟨vz (by decide), v1 (by decide), Or.inr rfl, ?_⟩) (fun g => i_f ⟨Or.inl rfl, h0 (fun p2 D2 it => ?_) M1 (FG_F8 fF)⟩)
      · have gx := (rge_nI (by omega) (by omega)).mp g
        rw [e1]
        refine h1 p' _ _ (Or.inl ⟨c110, x, o, gx.1, gx.2, rfl⟩) ⟨mu_at _ _ _ _, (mu_no (by omega)).trans d1, (mu_no (by omega)).trans d2, (mu_no (by omega)).trans d3, (mu_no (by omega)).trans d6, (mu_no (by omega)).trans d8, fun k hk => ⟨(mu_no (by omega)).trans (d9 k hk).1, (mu_no (by omega)).trans (d9 k hk).2⟩, fun k hk => (mu_no (by omega)).trans (d10 k hk)⟩ ?_ (F8_mu (FG_F8 fF) (by omega))
        rw [mu_no (by omega)]
        exact e2
      · rcases it with ⟨a, x', e, v1', v2', _⟩ | ⟨a, _⟩ | ⟨a, _⟩ | ⟨a, _⟩ | ⟨a, _⟩ <;> (try omega)
        obtain ⟨z1, z2⟩ := ONE_uniq o e
        exact g ((rge_nI (by omega) (by omega)).mpr (by omega))
    · rcases it with ⟨a, x', e, _⟩ | ⟨a, _⟩ | ⟨a, _⟩ | ⟨a, _⟩ | ⟨a, _⟩ <;> (try omega)
      exact no _ _ e
  by_cases c114 : byt tl tx p = 114
  · rw [c114]
    refine ⟨fun q => absurd q (by decide), fun _ => ⟨fun q => absurd q (by decide), fun _ => ⟨fun q => absurd q (by decide), fun _ => ⟨fun q => absurd q (by decide), fun _ => ⟨fun q => absurd q (by decide), fun _ => ⟨fun q => absurd q (by decide), fun _ => ⟨fun _ => ?_, fun q => absurd rfl q⟩⟩⟩⟩⟩⟩⟩
    refine s8_fig1 hT0 m0 (by omega) (fun p' x M1 o e1 e2 f => i_t' ⟨vz (by decide), ?_⟩) (fun no M1 f => i_f' ⟨Or.inl rfl, h0 (fun p' D' it => ?_) M1 (FG_F8 (FG_trans g0 f))⟩)
    · have o4 := ONE_b (by decide) o
      have fF := FG_trans g0 f
      rw [e1]
      obtain ⟨d0, d1, d2, d3, d6, d8, d9, d10⟩ := FG_D8 hD fF
      refine s8_in (a := 1) (b := 40) (by omega) (by omega) (fun g => i_t ⟨vz (by decide), v1 (by decide), Or.inr rfl, ?_⟩) (fun g => i_f ⟨Or.inl rfl, h0 (fun p2 D2 it => ?_) M1 (FG_F8 fF)⟩)
      · have gx := (rge_nI (by omega) (by omega)).mp g
        rw [e1]
        refine h1 p' _ _ (Or.inr (Or.inl ⟨c114, x, o, gx.1, gx.2, rfl⟩)) ⟨(mu_no (by omega)).trans d0, mu_at _ _ _ _, (mu_no (by omega)).trans d2, (mu_no (by omega)).trans d3, (mu_no (by omega)).trans d6, (mu_no (by omega)).trans d8, fun k hk => ⟨(mu_no (by omega)).trans (d9 k hk).1, (mu_no (by omega)).trans (d9 k hk).2⟩, fun k hk => (mu_no (by omega)).trans (d10 k hk)⟩ ?_ (F8_mu (FG_F8 fF) (by omega))
        rw [mu_no (by omega)]
        exact e2
      · rcases it with ⟨a, _⟩ | ⟨a, x', e, v1', v2', _⟩ | ⟨a, _⟩ | ⟨a, _⟩ | ⟨a, _⟩ <;> (try omega)
        obtain ⟨z1, z2⟩ := ONE_uniq o e
        exact g ((rge_nI (by omega) (by omega)).mpr (by omega))
    · rcases it with ⟨a, _⟩ | ⟨a, x', e, _⟩ | ⟨a, _⟩ | ⟨a, _⟩ | ⟨a, _⟩ <;> (try omega)
      exact no _ _ e
  by_cases c108 : byt tl tx p = 108
  · rw [c108]
    refine ⟨fun _ => ?_, fun q => absurd rfl q⟩
    refine s8_fig2 hT0 m0 (by omega) h300 (fun q p' x y M1 o o' e1 e1' e2 f => i_t' ⟨vz (by decide), ?_⟩) (fun no M1 f => i_f' ⟨Or.inl rfl, h0 (fun p' D' it => ?_) M1 (FG_F8 (FG_trans g0 f))⟩)
    · have o3 := ONE_b (by decide) o
      have o4 := ONE_b (by decide) o'
      have fF := FG_trans g0 f
      rw [e1, e1']
      obtain ⟨d0, d1, d2, d3, d6, d8, d9, d10⟩ := FG_D8 hD fF
      have bad : ¬ (x ≤ 3 ∧ y ≤ 39) → Q 0 M1 := fun g => h0 (fun p2 D2 it => by
        rcases it with ⟨a, _⟩ | ⟨a, _⟩ | ⟨a, q2, x', y', e, e', v1', v2', _⟩ | ⟨a, _⟩ | ⟨a, _⟩ <;> (try omega)
        obtain ⟨z1, z2⟩ := ONE_uniq o e
        subst z1
        obtain ⟨z3, z4⟩ := ONE_uniq o' e'
        exact g ⟨by omega, by omega⟩) M1 (FG_F8 fF)
      refine b_lt (a := 3) (b := x) (by omega) (by omega) (fun g => ⟨Or.inl rfl, bad (by omega)⟩) (fun g => ⟨v1 (by decide), b_le (a := y) (b := 39) (by omega) (by omega) (fun g2 => ⟨vz (by decide), v1 (by decide), v1 (by decide), v1 (by decide), Or.inr rfl, ?_⟩) (fun g2 => ⟨Or.inl rfl, bad (by omega)⟩)⟩)
      rw [mu_no (show 96 ≠ 83 ∨ 1 ≠ 1 by omega), e1']
      refine h1 p' _ _ (Or.inr (Or.inr (Or.inl ⟨c108, q, x, y, o, o', g, g2, rfl⟩))) ⟨?_, ?_, ?_, ?_, ?_, ?_, fun k hk => ⟨?_, ?_⟩, fun k hk => ?_⟩ ?_ (F8_mu (F8_mu (FG_F8 fF) (by omega)) (by omega))
      · rw [mu_no (by omega), mu_no (by omega)]; exact d0
      · rw [mu_no (by omega), mu_no (by omega)]; exact d1
      · rw [mu_no (by omega), mu_at]; rfl
      · rw [mu_at]; rfl
      · rw [mu_no (by omega), mu_no (by omega)]; exact d6
      · rw [mu_no (by omega), mu_no (by omega)]; exact d8
      · rw [mu_no (by omega), mu_no (by omega)]; exact (d9 k hk).1
      · rw [mu_no (by omega), mu_no (by omega)]; exact (d9 k hk).2
      · rw [mu_no (by omega), mu_no (by omega)]; exact d10 k hk
      · rw [mu_no (by omega), mu_no (by omega)]; exact e2
    · rcases it with ⟨a, _⟩ | ⟨a, _⟩ | ⟨a, q2, x', y', e, e', _⟩ | ⟨a, _⟩ | ⟨a, _⟩ <;> (try omega)
      exact no _ _ _ _ e e'
  by_cases c115 : byt tl tx p = 115
  · rw [c115]
    refine ⟨fun q => absurd q (by decide), fun _ => ⟨fun q => absurd q (by decide), fun _ => ⟨fun q => absurd q (by decide), fun _ => ⟨fun q => absurd q (by decide), fun _ => ⟨fun q => absurd q (by decide), fun _ => ⟨fun q => absurd q (by decide), fun _ => ⟨fun q => absurd q (by decide), fun _ => ⟨fun _ => ?_, fun q => absurd rfl q⟩⟩⟩⟩⟩⟩⟩⟩
    refine s8_fig2 hT0 m0 (by omega) h300 (fun q p' x y M1 o o' e1 e1' e2 f => i_t' ⟨vz (by decide), ?_⟩) (fun no M1 f => i_f' ⟨Or.inl rfl, h0 (fun p' D' it => ?_) M1 (FG_F8 (FG_trans g0 f))⟩)
    · have o3 := ONE_b (by decide) o
      have o4 := ONE_b (by decide) o'
      have fF := FG_trans g0 f
      rw [e1, e1']
      obtain ⟨d0, d1, d2, d3, d6, d8, d9, d10⟩ := FG_D8 hD fF
      have bad : ¬ (x ≤ 39 ∧ y ≤ 39 ∧ D.1 6 < 20) → Q 0 M1 := fun g => h0 (fun p2 D2 it => by
        rcases it with ⟨a, _⟩ | ⟨a, _⟩ | ⟨a, _⟩ | ⟨a, q2, x', y', e, e', v1', v2', v3', _⟩ | ⟨a, _⟩ <;> (try omega)
        obtain ⟨z1, z2⟩ := ONE_uniq o e
        subst z1
        obtain ⟨z3, z4⟩ := ONE_uniq o' e'
        exact g ⟨by omega, by omega, v3'⟩) M1 (FG_F8 fF)
      rw [d6, show (40 : Int32) = nI 40 from rfl, show (41 : Int32) = nI 41 from rfl, show (2 : Int32) = nI 2 from rfl, pk_mul, nI_add, nI_clamp (show 40 + 2 * D.1 6 < 2 ^ 31 by omega)]
      refine b_lt (a := 39) (b := x) (by omega) (by omega) (fun g => ⟨Or.inl rfl, bad (by omega)⟩) (fun g => ⟨v1 (by decide), b_lt (a := 39) (b := y) (by omega) (by omega) (fun g2 => ⟨Or.inl rfl, bad (by omega)⟩) (fun g2 => ⟨v1 (by decide), b_ne (a := D.1 6) (b := 20) (by omega) (by omega) (fun g3 => ?_) (fun g3 => ⟨Or.inl rfl, bad (by omega)⟩)⟩)⟩)
      have n85 : mu M1 86 (40 + 2 * D.1 6) (nI x) 85 1 = nI (D.1 6) := by rw [mu_no (by omega)]; exact d6
      have n96 : mu M1 86 (40 + 2 * D.1 6) (nI x) 96 1 = nI y := by rw [mu_no (by omega)]; exact e1'
      rw [n85, n96, pk_mul, nI_add, nI_clamp (show 41 + 2 * D.1 6 < 2 ^ 31 by omega)]
      refine ⟨v1 (by decide), vz (by decide), vi (show 40 + 2 * D.1 6 < 80 by omega), v1 (by decide), v1 (by decide), vi (show 41 + 2 * D.1 6 < 80 by omega), v1 (by decide), v1 (by decide), Or.inr rfl, ?_⟩
      rw [mu_no (show 85 ≠ 86 ∨ 1 ≠ 41 + 2 * D.1 6 by omega), n85, nI_1]
      refine h1 p' _ _ (Or.inr (Or.inr (Or.inr (Or.inl ⟨c115, q, x, y, o, o', g, g2, by omega, rfl⟩)))) ⟨?_, ?_, ?_, ?_, mu_at _ _ _ _, ?_, fun k hk => ?_, fun k hk => ?_⟩ ?_ (F8_mu (F8_mu (F8_mu (FG_F8 fF) (by omega)) (by omega)) (by omega))
      · rw [mu_no (by omega), mu_no (by omega), mu_no (by omega)]; exact d0
      · rw [mu_no (by omega), mu_no (by omega), mu_no (by omega)]; exact d1
      · rw [mu_no (by omega), mu_no (by omega), mu_no (by omega)]; exact d2
      · rw [mu_no (by omega), mu_no (by omega), mu_no (by omega)]; exact d3
      · rw [mu_no (by omega), mu_no (by omega), mu_no (by omega)]; exact d8
      · have hk' : k < D.1 6 + 1 := hk
        show _ = nI (u2 (u2 D.2 0 (D.1 6) x) 1 (D.1 6) y 0 k) ∧ _ = nI (u2 (u2 D.2 0 (D.1 6) x) 1 (D.1 6) y 1 k)
        rw [u2_no (show (0 : Nat) ≠ 1 by decide), u2_at, u2_at, u2_no (show (1 : Nat) ≠ 0 by decide)]
        by_cases e : k = D.1 6
        · rw [e, un_at, un_at, mu_no (by omega), mu_no (by omega), mu_at, mu_no (by omega), mu_at]; exact ⟨rfl, rfl⟩
        · rw [un_no e, un_no e, mu_no (by omega), mu_no (by omega), mu_no (by omega), mu_no (by omega), mu_no (by omega), mu_no (by omega)]; exact d9 k (by omega)
      · show _ = nI (u2 (u2 D.2 0 (D.1 6) x) 1 (D.1 6) y 2 k)
        rw [u2_no (by decide), u2_no (by decide), mu_no (by omega), mu_no (by omega), mu_no (by omega)]
        exact d10 k hk
      · rw [mu_no (by omega), mu_no (by omega), mu_no (by omega)]; exact e2
    · rcases it with ⟨a, _⟩ | ⟨a, _⟩ | ⟨a, _⟩ | ⟨a, q2, x', y', e, e', _⟩ | ⟨a, _⟩ <;> (try omega)
      exact no _ _ _ _ e e'
  by_cases c116 : byt tl tx p = 116
  · rw [c116]
    refine ⟨fun q => absurd q (by decide), fun _ => ⟨fun q => absurd q (by decide), fun _ => ⟨fun q => absurd q (by decide), fun _ => ⟨fun q => absurd q (by decide), fun _ => ⟨fun q => absurd q (by decide), fun _ => ⟨fun q => absurd q (by decide), fun _ => ⟨fun q => absurd q (by decide), fun _ => ⟨fun q => absurd q (by decide), fun _ => ⟨fun _ => ?_, fun q => absurd rfl q⟩⟩⟩⟩⟩⟩⟩⟩⟩
    refine s8_fig1 hT0 m0 (by omega) (fun p' x M1 o e1 e2 f => i_t' ⟨vz (by decide), ?_⟩) (fun no M1 f => i_f' ⟨Or.inl rfl, h0 (fun p' D' it => ?_) M1 (FG_F8 (FG_trans g0 f))⟩)
    · have o4 := ONE_b (by decide) o
      have fF := FG_trans g0 f
      rw [e1]
      obtain ⟨d0, d1, d2, d3, d6, d8, d9, d10⟩ := FG_D8 hD fF
      have bad : ¬ (x ≤ 39 ∧ D.1 8 < 20) → Q 0 M1 := fun g => h0 (fun p2 D2 it => by
        rcases it with ⟨a, _⟩ | ⟨a, _⟩ | ⟨a, _⟩ | ⟨a, _⟩ | ⟨a, x', e, v1', v2', _⟩ <;> (try omega)
        obtain ⟨z1, z2⟩ := ONE_uniq o e
        exact g ⟨by omega, by omega⟩) M1 (FG_F8 fF)
      refine b_lt (a := 39) (b := x) (by omega) (by omega) (fun g => ⟨Or.inl rfl, bad (by omega)⟩) (fun g => ⟨v1 (by decide), ?_⟩)
      rw [d8, show (20 : Int32) = nI 20 from rfl, nI_add, nI_clamp (show 20 + D.1 8 < 2 ^ 31 by omega)]
      refine b_ne (a := D.1 8) (b := 20) (by omega) (by omega) (fun g3 => ⟨v1 (by decide), vz (by decide), vi (show 20 + D.1 8 < 40 by omega), v1 (by decide), v1 (by decide), Or.inr rfl, ?_⟩) (fun g3 => ⟨Or.inl rfl, bad (by omega)⟩)
      rw [mu_no (show 87 ≠ 88 ∨ 1 ≠ 20 + D.1 8 by omega), d8, nI_1]
      refine h1 p' _ _ (Or.inr (Or.inr (Or.inr (Or.inr ⟨c116, x, o, g, by omega, rfl⟩)))) ⟨?_, ?_, ?_, ?_, ?_, mu_at _ _ _ _, fun k hk => ⟨?_, ?_⟩, fun k hk => ?_⟩ ?_ (F8_mu (F8_mu (FG_F8 fF) (by omega)) (by omega))
      · rw [mu_no (by omega), mu_no (by omega)]; exact d0
      · rw [mu_no (by omega), mu_no (by omega)]; exact d1
      · rw [mu_no (by omega), mu_no (by omega)]; exact d2
      · rw [mu_no (by omega), mu_no (by omega)]; exact d3
      · rw [mu_no (by omega), mu_no (by omega)]; exact d6
      · rw [mu_no (by omega), mu_no (by omega)]; exact (d9 k hk).1
      · rw [mu_no (by omega), mu_no (by omega)]; exact (d9 k hk).2
      · have hk' : k < D.1 8 + 1 := hk
        show _ = nI (u2 D.2 2 (D.1 8) x 2 k)
        rw [u2_at, mu_no (by omega)]
        by_cases e : k = D.1 8
        · rw [e, un_at, mu_at]
        · rw [un_no e, mu_no (by omega)]; exact d10 k (by omega)
      · rw [mu_no (by omega), mu_no (by omega)]; exact e2
    · rcases it with ⟨a, _⟩ | ⟨a, _⟩ | ⟨a, _⟩ | ⟨a, _⟩ | ⟨a, x', e, _⟩ <;> (try omega)
      exact no _ _ e
  have none : ∀ p' D', ¬ ITM tl tx p D p' D' := fun p' D' it => by
    rcases it with ⟨a, _⟩ | ⟨a, _⟩ | ⟨a, _⟩ | ⟨a, _⟩ | ⟨a, _⟩ <;> omega
  have fin := h0 none _ (FG_F8 g0)
  exact ⟨fun q => absurd q (ne 108 (by omega) c108), fun _ => ⟨fun _ => ⟨Or.inl rfl, fin⟩, fun _ => ⟨fun q => absurd q (ne 110 (by omega) c110), fun _ => ⟨fun _ => ⟨Or.inl rfl, fin⟩, fun _ => ⟨fun _ => ⟨Or.inl rfl, fin⟩, fun _ => ⟨fun _ => ⟨Or.inl rfl, fin⟩, fun _ => ⟨fun q => absurd q (ne 114 (by omega) c114), fun _ => ⟨fun q => absurd q (ne 115 (by omega) c115), fun _ => ⟨fun q => absurd q (ne 116 (by omega) c116), fun _ => ⟨Or.inl rfl, fin⟩⟩⟩⟩⟩⟩⟩⟩⟩⟩
