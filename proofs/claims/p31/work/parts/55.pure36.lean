/-! PURE 36: fault -/
theorem s8_readL {tl : Nat} {tx : Nat → Nat} {Q : Int32 → Mem → Prop} : ∀ (n p : Nat) (D : Dr) (M : Mem), T8 M tl tx → M 79 19 = nI p → p ≤ tl → tl < n + p → D8 M D → DOK D → (∀ r D' M1, SCN tl tx n p D r D' → (r = -4 → D8 M1 D' ∧ DOK D') → F8 M M1 → Q r M1) → wX8_readAll_10 Q n M := by
  intro n
  induction n with
  | zero => intro p D M hT hM hp hn; omega
  | succ n ih =>
    intro p D M hT hM hp hn hD hk h
    have h300 := hT.2.1
    unfold wX8_readAll_10
    rw [hT.1, hM]
    refine b_le (by omega) (by omega) (fun q => h (-4) D M (Or.inl ⟨q, rfl, rfl⟩) (fun _ => ⟨hD, hk⟩) (F8_refl M)) (fun q => ?_)
    refine s8_item hT hM q hD hk (fun p' D' M1 it d e f => i_t ?_) (fun no M1 f => i_f ?_)
    · have hb := ITM_b it
      exact ih p' D' M1 (F8_T8 hT f) e hb.2 (by omega) d (ITM_ok hk it) fun r D2 M2 s g f2 => h r D2 M2 (Or.inr (Or.inr ⟨q, p', D', it, s⟩)) g (F8_trans f f2)
    · exact h (nI p) D M1 (Or.inr (Or.inl ⟨q, no, rfl⟩)) (fun e => absurd e (nI_neg (by omega))) f
theorem s8_readAll {M : Mem} {tl : Nat} {tx : Nat → Nat} {Q : Int32 → Mem → Prop} (hT : T8 M tl tx) (h : ∀ r D' M1, SCN tl tx (tl + 1) 0 D0 r D' → (r = -4 → D8 M1 D' ∧ DOK D') → F8 M M1 → Q r M1) : wX8_readAll M Q := by
  unfold wX8_readAll wX8_noBook
  rw [cl1]
  refine ⟨v1 (by decide), v1 (by decide), v1 (by decide), v1 (by decide), v1 (by decide), v1 (by decide), ?_⟩
  dsimp only
  generalize hM0 : mu (mu (mu (mu (mu (mu (mu M 81 1 (10 : Int32)) 82 1 (9 : Int32)) 83 1 (0 : Int32)) 84 1 (2 : Int32)) 85 1 (0 : Int32)) 87 1 (0 : Int32)) 79 19 (0 : Int32) = M0
  have f0 : F8 M M0 := by
    rw [← hM0]
    exact F8_mu (F8_mu (F8_mu (F8_mu (F8_mu (F8_mu (F8_mu (F8_refl M) (by omega)) (by omega)) (by omega)) (by omega)) (by omega)) (by omega)) (by omega)
  refine ⟨tl + 1, s8_readL (tl + 1) 0 D0 M0 (F8_T8 hT f0) (by rw [← hM0]; exact mu_at _ _ _ _) (Nat.zero_le _) (by omega) ⟨?_, ?_, ?_, ?_, ?_, ?_, fun k hk => absurd hk (Nat.not_lt_zero _), fun k hk => absurd hk (Nat.not_lt_zero _)⟩ D0_ok fun r D' M1 s g f => h r D' M1 s g (F8_trans f0 f)⟩
  · rw [← hM0, mu_no (by omega), mu_no (by omega), mu_no (by omega), mu_no (by omega), mu_no (by omega), mu_no (by omega), mu_at]; rfl
  · rw [← hM0, mu_no (by omega), mu_no (by omega), mu_no (by omega), mu_no (by omega), mu_no (by omega), mu_at]; rfl
  · rw [← hM0, mu_no (by omega), mu_no (by omega), mu_no (by omega), mu_no (by omega), mu_at]; rfl
  · rw [← hM0, mu_no (by omega), mu_no (by omega), mu_no (by omega), mu_at]; rfl
  · rw [← hM0, mu_no (by omega), mu_no (by omega), mu_at]; rfl
  · rw [← hM0, mu_no (by omega), mu_at]; rfl
theorem INV_f {M M1 M2 : Mem} {t N Rr K A nt tl : Nat} {ta F tx : Nat → Nat} (hB : BK M t N Rr K A nt ta F) (hT : TXT M tl tx) (hP : PKI M N Rr 61 0) (hK : KPT M N Rr) (hS : SN M N Rr K A) (f1 : FU (17 - t) M M1) (f2 : F8 M1 M2) : INV M2 := by
  obtain ⟨ht, -⟩ := BK_t hB
  have lo : ∀ x, x < 79 → ¬ (17 - t ≤ x ∧ x ≤ 17 - t + 8) → M2 x = M x := fun x hx hy => (funext fun k => f2 x k (by omega) (by omega) (by omega) (by omega) (by omega)).trans (f1 x hy)
  have hi : ∀ x, x = 80 ∨ (89 ≤ x ∧ x ≠ 96) → M2 x = M x := fun x hx => (funext fun k => f2 x k (by omega) (by omega) (by omega) (by omega) (by omega)).trans (f1 x (by omega))
  have h79 : ∀ k, k ≠ 19 → M2 79 k = M 79 k := fun k hk => by rw [f2 79 k (by omega) (by omega) (by omega) (by omega) (by omega), f1 79 (by omega)]
  have h8 : ∀ x k, (80 ≤ x ∧ x ≤ 88) → k ≠ 1 → ¬ (x = 86 ∧ 40 ≤ k) → ¬ (x = 88 ∧ 20 ≤ k) → M2 x k = M x k := fun x k a b c d => by rw [f2 x k (by omega) (by omega) (by omega) c d, f1 x (by omega)]
  have h88 : ∀ k, k < 20 → M2 88 k = M 88 k := fun k hk => by rw [f2 88 k (by omega) (by omega) (by omega) (by omega) (by omega), f1 88 (by omega)]
  refine ⟨t, N, Rr, K, A, nt, ta, F, ?_, ⟨tl, tx, TXT_congr hT (by rw [lo 1 (by omega) (by omega)]) (lo 3 (by omega) (by omega)) (h79 0 (by omega)) (hi 80 (by omega))⟩, ?_, ?_, ?_⟩
  · exact BK_congr hB ⟨by rw [lo 0 (by omega) (by omega)], by rw [lo 0 (by omega) (by omega)]⟩ (lo t (by omega) (by omega)) (lo (t + 6) (by omega) (by omega)) (by rw [lo 22 (by omega) (by omega)]) (lo 24 (by omega) (by omega)) (fun x hx => lo x (by omega) (by omega)) ⟨h8 81 0 (by omega) (by omega) (by omega) (by omega), h8 82 0 (by omega) (by omega) (by omega) (by omega), h8 83 0 (by omega) (by omega) (by omega) (by omega), h8 84 0 (by omega) (by omega) (by omega) (by omega), h8 87 0 (by omega) (by omega) (by omega) (by omega)⟩ h88 (hi 89 (by omega)) (hi 98 (by omega)) (hi 99 (by omega))
  · exact PKI_congr hP (lo 61 (by omega) (by omega)) (by rw [lo (61 + 1) (by omega) (by omega)]) (lo (61 + 3) (by omega) (by omega)) (fun p _ => by rw [hi 90 (by omega)]) (by rw [hi 91 (by omega)]) (by rw [hi 92 (by omega)])
  · exact KPT_congr hK (by rw [lo 0 (by omega) (by omega)]) (h79 14 (by omega)) (fun x hx => lo x (by omega) (by omega)) (fun p hp => by rw [hi 90 (by omega)]) (fun w hw => by rw [hi 91 (by omega), hi 92 (by omega)]; exact ⟨rfl, rfl⟩)
  · exact SN_congr hS (by rw [lo 0 (by omega) (by omega)]) (h79 15 (by omega)) (lo 58 (by omega) (by omega)) (lo 60 (by omega) (by omega)) (hi 93 (by omega)) (hi 94 (by omega)) (hi 95 (by omega))
theorem TXT_78 {M : Mem} {tl : Nat} {tx : Nat → Nat} (h : TXT M tl tx) : T7 M tl tx ∧ T8 M tl tx := ⟨⟨h.1, h.2.2.1, fun k hk => ⟨(h.2.2.2 k hk).1, (h.2.2.2 k hk).2.2⟩⟩, ⟨h.2.1, h.2.2.1, fun k hk => ⟨(h.2.2.2 k hk).2.1, (h.2.2.2 k hk).2.2⟩⟩⟩
theorem FU_T8 {u tl : Nat} {tx : Nat → Nat} {M M1 : Mem} (hu : u = 4 ∨ u = 13) (h : T8 M tl tx) (f : FU u M M1) : T8 M1 tl tx := T8_cg h (by rw [f 79 (by omega)]) (f 80 (by omega))
theorem k_fault {M : Mem} {Q : Int32 → Int32 → Mem → Prop} (hI : INV M) (h : GQ Q) : wX7_fault M (fun r1 M1 => wX8_fault M1 (fun r2 M2 => Q r1 r2 M2)) := by
  obtain ⟨t, N, Rr, K, A, nt, ta, F, hB, ⟨tl, tx, hT⟩, hP, hK, hS⟩ := hI
  obtain ⟨ht, e2, e1, k2, k1⟩ := BK_t hB
  have hu : 17 - t = 4 ∨ 17 - t = 13 := by omega
  refine ⟨k1, ?_⟩
  rw [e1]
  refine s6_scan hu (TXT_78 hT).1 fun r D1 M1 s1 _ f1 => ?_
  refine s8_readAll (FU_T8 hu (TXT_78 hT).2 f1) fun r2 D2 M2 s2 _ f2 => ?_
  rw [(SCN_uniq hT.2.2.1 _ _ _ _ _ _ _ s1 s2).1]
  exact h _ _ (INV_f hB hT hP hK hS f1 f2)
