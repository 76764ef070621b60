/-! PURE 14: write -/
def BX (x : Int64) (bx : Nat → Nat) : Prop := ∀ c, c < 8 → bx c < 256 ∧ (((x.toUInt64 >>> (((8 : Int32) * nI c).toInt64.toUInt64 &&& Int64.toUInt64 63)).toInt64 &&& (255 : Int64)).toInt32) = nI (bx c) ∧ (((x >>> (((8 : Int32) * nI c).toInt64 &&& 63)) &&& (255 : Int64)).toInt32) = nI (bx c)
theorem BX_ex (x : Int64) : ∃ bx, BX x bx :=
  ⟨fun c => if h : c < 8 then Classical.choose (bte_cl x c h) else 0, fun c hc => by
    show (if h : c < 8 then Classical.choose (bte_cl x c h) else 0) < 256 ∧ _ = nI (if h : c < 8 then Classical.choose (bte_cl x c h) else 0) ∧ _ = nI (if h : c < 8 then Classical.choose (bte_cl x c h) else 0)
    rw [dif_pos hc]
    exact Classical.choose_spec (bte_cl x c hc)⟩
theorem s5_append {x1 : Int32} {x : Int64} {bx : Nat → Nat} (H : BX x bx) {Q : Mem → Prop} : ∀ (c tl : Nat) (M : Mem), c ≤ 8 → tl + c ≤ 300 → M 1 1 = nI tl → (∀ M1 : Mem, M1 1 1 = nI (tl + c) → (∀ k, k < tl → M1 3 k = M 3 k) → (∀ k, tl ≤ k → k < tl + c → M1 3 k = nI (bx (tl + c - 1 - k))) → (∀ z, z ≠ 1 → z ≠ 3 → M1 z = M z) → Q M1) → wX5_append_5 1 x1 x Q (c + 1) (nI c + (-1)) M := by
  intro c
  induction c with
  | zero =>
    intro tl M _ _ h1 h
    unfold wX5_append_5
    exact ⟨fun _ => h M h1 (fun _ _ => rfl) (fun k a b => by omega) (fun _ _ _ => rfl), fun q => absurd (by decide) q⟩
  | succ c ih =>
    intro tl M hc ht h1 h
    obtain ⟨b1, b2, -⟩ := H c (by omega)
    unfold wX5_append_5
    rw [pk_m1, h1, b2]
    refine ⟨fun q => absurd q (nI_pos (by omega)), fun _ => s4_put (r := 2) (show tl < 300 by omega) ?_⟩
    rw [mu_no (by omega), h1, nI_1]
    refine ih (tl + 1) _ (by omega) (by omega) (mu_at _ _ _ _) fun M1 c1 c2 c3 c4 => ?_
    refine h M1 (by rw [c1]; congr 1; omega) (fun k hk => ?_) (fun k k1 k2 => ?_) (fun z z1 z3 => ?_)
    · rw [c2 k (by omega), mu_no (by omega), mu_no (by omega)]
    · by_cases e : k = tl
      · rw [c2 k (by omega), mu_no (by omega), e, mu_at]
        congr 2
        omega
      · rw [c3 k (by omega) (by omega)]
        congr 2
        omega
    · rw [c4 z z1 z3, mu_ne z1, mu_ne z3]
theorem r8_append {x1 : Int32} {x : Int64} {bx : Nat → Nat} (H : BX x bx) {Q : Int32 → Mem → Prop} : ∀ (c tl : Nat) (M : Mem), c ≤ 8 → tl + c ≤ 300 → M 79 0 = nI tl → (∀ M1 : Mem, M1 79 0 = nI (tl + c) → (∀ k, k < tl → M1 80 k = M 80 k) → (∀ k, tl ≤ k → k < tl + c → M1 80 k = nI (bx (tl + c - 1 - k))) → (∀ z, z ≠ 79 → z ≠ 80 → M1 z = M z) → (∀ k, k ≠ 0 → M1 79 k = M 79 k) → Q (nI (tl + c)) M1) → wX8_write_34 x1 x Q (c + 1) (nI c + (-1)) M := by
  intro c
  induction c with
  | zero =>
    intro tl M _ _ h1 h
    unfold wX8_write_34
    refine ⟨fun _ => ?_, fun q => absurd (by decide) q⟩
    rw [h1]
    exact h M h1 (fun _ _ => rfl) (fun k a b => by omega) (fun _ _ _ => rfl) (fun _ _ => rfl)
  | succ c ih =>
    intro tl M hc ht h1 h
    obtain ⟨b1, -, b2⟩ := H c (by omega)
    unfold wX8_write_34
    rw [pk_m1, h1, b2, nI_clamp (by omega)]
    refine ⟨fun q => absurd q (nI_pos (by omega)), fun _ => ⟨vi (show tl < 300 by omega), ?_⟩⟩
    rw [mu_no (by omega), h1, nI_1]
    refine ih (tl + 1) _ (by omega) (by omega) (mu_at _ _ _ _) fun M1 c1 c2 c3 c4 c5 => ?_
    have e := h M1 (by rw [c1]; congr 1; omega) (fun k hk => by rw [c2 k (by omega), mu_no (by omega), mu_no (by omega)]) (fun k k1 k2 => ?_) (fun z z1 z3 => by rw [c4 z z1 z3, mu_ne z1, mu_ne z3]) (fun k hk => by rw [c5 k hk, mu_no (by omega), mu_no (by omega)])
    · rw [show tl + 1 + c = tl + (c + 1) by omega]
      exact e
    · by_cases e : k = tl
      · rw [c2 k (by omega), mu_no (by omega), e, mu_at]
        congr 2
        omega
      · rw [c3 k (by omega) (by omega)]
        congr 2
        omega
theorem k_write {x : Int32} {y : Int64} {M : Mem} {Q : Int32 → Int32 → Mem → Prop} (hI : INV M) (h : GQ Q) : wX7_write x y M (fun r1 M1 => wX8_write x y M1 (fun r2 M2 => Q r1 r2 M2)) := by
  have hI' := hI
  obtain ⟨t, N, Rr, K, A, nt, ta, F, hB, ⟨tl, tx, t1, t2, t3, t4⟩, hP, hK, hS⟩ := hI
  refine s7_within (a := 1) (b := 8) (by omega) (by omega) (fun g => i_t ?_) (fun g => i_f (r8_in_f (a := 1) (b := 8) (by omega) (by omega) g (i_f (h _ _ hI'))))
  have g' := g
  obtain ⟨k, k1, k8, e⟩ := g
  subst e
  obtain ⟨bx, H⟩ := BX_ex y
  unfold wX5_size
  dsimp only
  rw [t1, nI_add]
  refine b_le (a := tl + k) (b := 300) (by omega) (by omega) (fun q => ?_) (fun q => ?_)
  · have ek : nI k - (1 : Int32) = nI k + (-1) := by
      obtain ⟨k', rfl⟩ : ∃ k', k = k' + 1 := ⟨k - 1, by omega⟩
      rw [pk_m1]
      exact nI_pred k'
    unfold wX5_append
    rw [ek]
    refine ⟨k + 1, s5_append H k tl M k8 q t1 fun M1 c1 c2 c3 c4 => ?_⟩
    rw [c1]
    refine r8_in_t (a := 1) (b := 8) (by omega) (by omega) g' (i_t ?_)
    rw [c4 79 (by omega) (by omega), t2, nI_add]
    refine b_le (a := tl + k) (b := 300) (by omega) (by omega) (fun _ => ?_) (fun q2 => by omega)
    rw [ek]
    refine ⟨k + 1, r8_append H k tl M1 k8 q (by rw [c4 79 (by omega) (by omega)]; exact t2) fun M2 d1 d2 d3 d4 d5 => ?_⟩
    have s : ∀ z, z ≠ 1 → z ≠ 3 → z ≠ 79 → z ≠ 80 → M2 z = M z := fun z a b c d => by rw [d4 z c d, c4 z a b]
    refine h _ _ (INV_q hB ⟨tl + k, fun i => if i < tl then tx i else bx (tl + k - 1 - i), by rw [d4 1 (by omega) (by omega)]; exact c1, d1, q, fun i hi => ?_⟩ hS (fun i _ => by rw [s 0 (by omega) (by omega) (by omega) (by omega)]) (fun i _ hi => by rw [d5 i hi, c4 79 (by omega) (by omega)]) (fun z hz => s z (by omega) (by omega) (by omega) (by omega)) ?_ ?_)
    · by_cases e : i < tl
      · simp only [if_pos e]
        refine ⟨?_, ?_, (t4 i e).2.2⟩
        · rw [d4 3 (by omega) (by omega), c2 i e]; exact (t4 i e).1
        · rw [d2 i e, c4 80 (by omega) (by omega)]; exact (t4 i e).2.1
      · simp only [if_neg e]
        refine ⟨?_, d3 i (by omega) hi, (H _ (by omega)).1⟩
        rw [d4 3 (by omega) (by omega)]
        exact c3 i (by omega) hi
    · exact PKI_congr hP (s 61 (by omega) (by omega) (by omega) (by omega)) (by rw [s (61 + 1) (by omega) (by omega) (by omega) (by omega)]) (s (61 + 3) (by omega) (by omega) (by omega) (by omega)) (fun p _ => by rw [s 90 (by omega) (by omega) (by omega) (by omega)]) (by rw [s 91 (by omega) (by omega) (by omega) (by omega)]) (by rw [s 92 (by omega) (by omega) (by omega) (by omega)])
    · exact KPT_congr hK (by rw [s 0 (by omega) (by omega) (by omega) (by omega)]) (by rw [d5 14 (by omega), c4 79 (by omega) (by omega)]) (fun z hz => s z (by omega) (by omega) (by omega) (by omega)) (fun p hp => by rw [s 90 (by omega) (by omega) (by omega) (by omega)]) (fun w hw => by rw [s 91 (by omega) (by omega) (by omega) (by omega), s 92 (by omega) (by omega) (by omega) (by omega)]; exact ⟨rfl, rfl⟩)
  · refine r8_in_t (a := 1) (b := 8) (by omega) (by omega) g' (i_t ?_)
    rw [t2, nI_add]
    exact b_le (a := tl + k) (b := 300) (by omega) (by omega) (fun q2 => by omega) (fun _ => h _ _ hI')
