/-! THE LAW'S BOOK, from INV: it is laid, one memory, whoever's -/
theorem INV_text {M M1 : Mem} {tl : Nat} {tx : Nat → Nat} (hI : INV M) (hT : T7 M1 tl tx) (f : F13 M M1) : ∃ M2, AG M1 M2 ∧ INV M2 := by
  obtain ⟨t, N, Rr, K, A, nt, ta, F, hB, -, hP, hK, hS⟩ := hI
  obtain ⟨M2, hM2⟩ : ∃ M2, M2 = sr (mu M1 79 0 (nI tl)) 80 (fun k => nI (tx k)) := ⟨_, rfl⟩
  have o : ∀ z, z ≠ 79 → z ≠ 80 → M2 z = M1 z := fun z a b => by rw [hM2, sr_ne b, mu_ne a]
  have s : ∀ z, z ≠ 1 → z ≠ 3 → z ≠ 79 → z ≠ 80 → M2 z = M z := fun z a b c d => by rw [o z c d, f z a b]
  have e79 : ∀ k, k ≠ 0 → M2 79 k = M 79 k := fun k hk => by rw [hM2, sr_ne (by omega), mu_no (Or.inr hk), f 79 (by omega) (by omega)]
  have z79 : M2 79 0 = nI tl := by rw [hM2, sr_ne (by omega), mu_at]
  have z80 : M2 80 = fun k => nI (tx k) := by rw [hM2, sr_self]
  refine ⟨M2, fun i hi => o i (by omega) (by omega), INV_q hB ⟨tl, tx, ?_, z79, hT.2.1, fun k hk => ⟨?_, ?_, (hT.2.2 k hk).2⟩⟩ hS (fun k _ => by rw [s 0 (by omega) (by omega) (by omega) (by omega)]) (fun k _ hk => e79 k hk) (fun z hz => s z (by omega) (by omega) (by omega) (by omega)) ?_ ?_⟩
  · rw [o 1 (by omega) (by omega)]; exact hT.1
  · rw [o 3 (by omega) (by omega)]; exact (hT.2.2 k hk).1
  · rw [z80]
  · exact PKI_congr hP (s 61 (by omega) (by omega) (by omega) (by omega)) (by rw [s (61 + 1) (by omega) (by omega) (by omega) (by omega)]) (s (61 + 3) (by omega) (by omega) (by omega) (by omega)) (fun p _ => by rw [s 90 (by omega) (by omega) (by omega) (by omega)]) (by rw [s 91 (by omega) (by omega) (by omega) (by omega)]) (by rw [s 92 (by omega) (by omega) (by omega) (by omega)])
  · exact KPT_congr hK (by rw [s 0 (by omega) (by omega) (by omega) (by omega)]) (e79 14 (by omega)) (fun z hz => s z (by omega) (by omega) (by omega) (by omega)) (fun p hp => by rw [s 90 (by omega) (by omega) (by omega) (by omega)]) (fun w hw => by rw [s 91 (by omega) (by omega) (by omega) (by omega), s 92 (by omega) (by omega) (by omega) (by omega)]; exact ⟨rfl, rfl⟩)
/-- the text as it grows: its items, what they tell -/
def TS (M : Mem) (tl : Nat) (tx : Nat → Nat) (n : Nat) (D : Dr) : Prop := INV M ∧ T7 M tl tx ∧ RC tl tx n tl D ∧ M 67 2 = 0 ∧ M 73 2 = 0
theorem T7_ag {M M2 : Mem} {tl : Nat} {tx : Nat → Nat} (h : T7 M tl tx) (g : AG M M2) : T7 M2 tl tx := T7_cg h (g 1 (by omega)) (g 3 (by omega))
theorem ts_wipe {M : Mem} (hI : INV M) (h67 : M 67 2 = 0) (h73 : M 73 2 = 0) : ∃ M2 tx, AG (mu M 1 1 (0 : Int32)) M2 ∧ TS M2 0 tx 0 D0 := by
  have T : T7 (mu M 1 1 (0 : Int32)) 0 (fun _ => 0) := ⟨mu_at _ _ _ _, by omega, fun k hk => absurd hk (Nat.not_lt_zero _)⟩
  have f : F13 M (mu M 1 1 (0 : Int32)) := fun z a _ => mu_ne a
  obtain ⟨M2, g, i⟩ := INV_text hI T f
  exact ⟨M2, fun _ => 0, g, i, T7_ag T g, ⟨rfl, rfl⟩, by rw [g 67 (by omega), f 67 (by omega) (by omega)]; exact h67, by rw [g 73 (by omega), f 73 (by omega) (by omega)]; exact h73⟩
theorem ts_one {M : Mem} {tl n c v : Nat} {tx : Nat → Nat} {D D' : Dr} (hS : TS M tl tx n D) (hc : c < 256) (hv : v < 100) (h3 : tl + 4 ≤ 300) (hit : ∀ tl2 tx2, byt tl2 tx2 tl = c → ONE tl2 tx2 (tl + 1) 59 tl2 v → ITM tl2 tx2 tl D tl2 D') : ∃ M1 M2 tl2 tx2, AG M1 M2 ∧ TS M2 tl2 tx2 (n + 1) D' ∧ tl2 ≤ tl + 4 ∧ ∀ Q' : Int32 → Mem → Prop, Q' 1 M1 → wL_one (nI c) (nI v) M Q' := by
  obtain ⟨hI, hT, hR, a1, a2⟩ := hS
  have h := w_one (Q := fun r M1 => r = 1 ∧ ∃ tl2 tx2, T7 M1 tl2 tx2 ∧ (tl < tl2 ∧ tl2 ≤ tl + 4) ∧ (∀ k, k < tl → tx2 k = tx k) ∧ byt tl2 tx2 tl = c ∧ ONE tl2 tx2 (tl + 1) 59 tl2 v ∧ F13 M M1) hT hc hv h3 (fun M1 tl2 tx2 x1 x2 x3 x4 x5 x6 x7 => ⟨rfl, tl2, tx2, x1, ⟨x2, x3⟩, x4, x5, x6, x7⟩)
  obtain ⟨r, M1, -, ⟨e, tl2, tx2, x1, ⟨x2, x3⟩, x4, x5, x6, x7⟩, -, b⟩ := u_wL_one (nI c) (nI v) M h h
  obtain ⟨M2, g, i⟩ := INV_text hI x1 x7
  refine ⟨M1, M2, tl2, tx2, g, ⟨i, T7_ag x1 g, ⟨tl, D, RC_ext (by omega) x4 n tl D hR, hit tl2 tx2 x5 x6⟩, ?_, ?_⟩, x3, fun Q' hq => b Q' (by rw [e]; exact hq)⟩
  · rw [g 67 (by omega), x7 67 (by omega) (by omega)]; exact a1
  · rw [g 73 (by omega), x7 73 (by omega) (by omega)]; exact a2
theorem ts_two {M : Mem} {tl n c v w : Nat} {tx : Nat → Nat} {D D' : Dr} (hS : TS M tl tx n D) (hc : c < 256) (hv : v < 100) (hw : w < 100) (h3 : tl + 7 ≤ 300) (hit : ∀ tl2 tx2 q, byt tl2 tx2 tl = c → ONE tl2 tx2 (tl + 1) 44 q v → ONE tl2 tx2 q 59 tl2 w → ITM tl2 tx2 tl D tl2 D') : ∃ M1 M2 tl2 tx2, AG M1 M2 ∧ TS M2 tl2 tx2 (n + 1) D' ∧ tl2 ≤ tl + 7 ∧ ∀ Q' : Int32 → Mem → Prop, Q' 1 M1 → wL_two (nI c) (nI v) (nI w) M Q' := by
  obtain ⟨hI, hT, hR, a1, a2⟩ := hS
  have h := w_two (Q := fun r M1 => r = 1 ∧ ∃ tl2 tx2 q, T7 M1 tl2 tx2 ∧ (tl < tl2 ∧ tl2 ≤ tl + 7) ∧ (∀ k, k < tl → tx2 k = tx k) ∧ byt tl2 tx2 tl = c ∧ ONE tl2 tx2 (tl + 1) 44 q v ∧ ONE tl2 tx2 q 59 tl2 w ∧ F13 M M1) hT hc hv hw h3 (fun M1 tl2 tx2 q x1 x2 x3 x4 x5 x6 x6' x7 => ⟨rfl, tl2, tx2, q, x1, ⟨x2, x3⟩, x4, x5, x6, x6', x7⟩)
  obtain ⟨r, M1, -, ⟨e, tl2, tx2, q, x1, ⟨x2, x3⟩, x4, x5, x6, x6', x7⟩, -, b⟩ := u_wL_two (nI c) (nI v) (nI w) M h h
  obtain ⟨M2, g, i⟩ := INV_text hI x1 x7
  refine ⟨M1, M2, tl2, tx2, g, ⟨i, T7_ag x1 g, ⟨tl, D, RC_ext (by omega) x4 n tl D hR, hit tl2 tx2 q x5 x6 x6'⟩, ?_, ?_⟩, x3, fun Q' hq => b Q' (by rw [e]; exact hq)⟩
  · rw [g 67 (by omega), x7 67 (by omega) (by omega)]; exact a1
  · rw [g 73 (by omega), x7 73 (by omega) (by omega)]; exact a2
theorem sm_fault {M : Mem} {tl n : Nat} {tx : Nat → Nat} {D : Dr} (hI : INV M) (hT : T7 M tl tx) (hR : RC tl tx n tl D) : wX7_fault M (fun r M1 => r = -4 ∧ T7 M1 tl tx ∧ M1 67 = M 67 ∧ M1 73 = M 73) := by
  obtain ⟨t, N, Rr, K, A, nt, ta, F, hB, -⟩ := hI
  obtain ⟨ht, e2, e1, k2, k1⟩ := BK_t hB
  have hu : 17 - t = 4 ∨ 17 - t = 13 := by omega
  refine ⟨k1, ?_⟩
  rw [e1]
  refine s6_scan hu hT fun r D' M1 s g f => ?_
  obtain ⟨u1, u2⟩ := SCN_uniq hT.2.1 _ _ _ _ _ _ _ s (RC_all hR)
  exact ⟨u1, FU_T7 hu hT f, f 67 (by omega), f 73 (by omega)⟩
theorem ts_fault {M : Mem} {tl n : Nat} {tx : Nat → Nat} {D : Dr} (hS : TS M tl tx n D) : ∃ M1 M2, AG M1 M2 ∧ TS M2 tl tx n D ∧ ∀ Q' : Int32 → Mem → Prop, Q' (-4) M1 → wX7_fault M Q' := by
  obtain ⟨hI, hT, hR, a1, a2⟩ := hS
  have h := k_fault (Q := fun r1 r2 M => r1 = r2 ∧ INV M) hI (fun r M hM => ⟨rfl, hM⟩)
  obtain ⟨r, M1, -, h1, ⟨e, x1, x2, x3⟩, b⟩ := u_wX7_fault M h (sm_fault hI hT hR)
  obtain ⟨r2, M2, f2, ⟨-, hI2⟩, -, -⟩ := u_wX8_fault M1 h1 h1
  have g := AG_of f2 (fun i k (h : 79 ≤ i) => h)
  refine ⟨M1, M2, g, ⟨hI2, T7_ag x1 g, hR, ?_, ?_⟩, fun Q' hq => b Q' (by rw [e]; exact hq)⟩
  · rw [g 67 (by omega), x2]; exact a1
  · rw [g 73 (by omega), x3]; exact a2
theorem sm_lay {M : Mem} {tl n : Nat} {tx : Nat → Nat} {D : Dr} (hI : INV M) (hT : T7 M tl tx) (hR : RC tl tx n tl D) (hF : FIT D) : wX7_lay M (fun r M1 => r = nI (D.1 0) ∧ (M1 (rid (M1 0 2)) 0 = nI (D.1 0) ∧ M1 (rid (M1 0 2)) 1 = nI (D.1 1)) ∧ (rid (M1 0 2) = 4 ∨ rid (M1 0 2) = 13) ∧ (∀ p, p < D.1 0 → M1 24 p = nI (fo (D.2 0) (D.2 1) (D.1 6) p)) ∧ M1 61 2 = 0 ∧ M1 67 = M 67 ∧ M1 73 = M 73) := by
  obtain ⟨t, N, Rr, K, A, nt, ta, F, hB, -⟩ := hI
  obtain ⟨ht, e2, e1, k2, k1⟩ := BK_t hB
  have hu : 17 - t = 4 ∨ 17 - t = 13 := by omega
  have k1' : kd (17 - t) = 6 := by rw [e1] at k1; exact k1
  have k2' : kd t = 6 := by rw [e2] at k2; exact k2
  refine ⟨k1, ?_⟩
  rw [e1]
  refine s6_scan hu hT fun r D1 M1 s1 g1 f1 => ?_
  obtain ⟨u1, u2⟩ := SCN_uniq hT.2.1 _ _ _ _ _ _ _ s1 (RC_all hR)
  have h0 : M1 0 = M 0 := f1 0 (by omega)
  refine ⟨fun q => absurd u1 q, fun q => ?_⟩
  obtain ⟨d1, o1⟩ := g1 q
  have eD := u2 q
  subst eD
  rw [h0, e1]
  refine ⟨k1', s6_fits hu d1 o1 (fun g => i_t ?_) (fun g => absurd hF g)⟩
  rw [h0, e1, e2]
  refine ⟨k2', k1', nI_clamp (by omega), nI_clamp (by omega), ?_⟩
  generalize hM2 : mu (mu M1 0 2 (Int32.ofNat (17 - t))) 0 1 (Int32.ofNat t) = M2
  have m2o : ∀ x, x ≠ 0 → M2 x = M1 x := fun x hx => by rw [← hM2, mu_ne hx, mu_ne hx]
  have m22 : M2 0 2 = nI (17 - t) := by rw [← hM2, mu_no (by omega), mu_at]; rfl
  have r22 : rid (M2 0 2) = 17 - t := by rw [m22]; exact nI_clamp (by omega)
  have d2 : D7 M2 (17 - t) D1 := D7_congr d1 fun x hx => m2o x (by omega)
  refine s7_startAnew hu (by rw [r22]; exact k1') r22 (DOK_TL d2 o1) (DOK_SW7 d2 o1 g) fun M3 a1 a2 a3 a4 a5 a6 a7 a8 a9 a10 a11 => ?_
  have r32 : rid (M3 0 2) = 17 - t := by rw [a10 2 (by omega) (by omega)]; exact r22
  have d3 : D7 M3 (17 - t) D1 := D7_congr d2 fun x hx => a11 x (by omega) (by omega) (by omega) (by omega) (by omega) (by omega) (by omega)
  refine ⟨by rw [r32]; exact k1', ?_⟩
  refine ⟨by rw [r32]; exact d3.1, ⟨by rw [r32]; exact d3.1, by rw [r32]; exact d3.2.1⟩, by rw [r32]; exact hu, a2, a7, ?_, ?_⟩
  · rw [a11 67 (by omega) (by omega) (by omega) (by omega) (by omega) (by omega) (by omega), m2o 67 (by omega), f1 67 (by omega)]
  · rw [a11 73 (by omega) (by omega) (by omega) (by omega) (by omega) (by omega) (by omega), m2o 73 (by omega), f1 73 (by omega)]
theorem ts_lay {M : Mem} {tl n : Nat} {tx : Nat → Nat} {D : Dr} (hS : TS M tl tx n D) (hF : FIT D) : ∃ M1 M2, AG M1 M2 ∧ (INV M2 ∧ DB 0 M2 ∧ (M2 (rid (M2 0 2)) 0 = nI (D.1 0) ∧ M2 (rid (M2 0 2)) 1 = nI (D.1 1)) ∧ ∀ p, p < D.1 0 → M2 24 p = nI (fo (D.2 0) (D.2 1) (D.1 6) p)) ∧ ∀ Q' : Int32 → Mem → Prop, Q' (nI (D.1 0)) M1 → wX7_lay M Q' := by
  obtain ⟨hI, hT, hR, a1, a2⟩ := hS
  have h := k_lay (Q := fun r1 r2 M => r1 = r2 ∧ INV M) hI (fun r M hM => ⟨rfl, hM⟩)
  obtain ⟨r, M1, -, h1, ⟨e, ⟨x1, x2⟩, xr, x3, x4, x5, x6⟩, b⟩ := u_wX7_lay M h (sm_lay hI hT hR hF)
  obtain ⟨r2, M2, f2, ⟨-, hI2⟩, -, -⟩ := u_wX8_lay M1 h1 h1
  have g := AG_of f2 (fun i k (h : 79 ≤ i) => h)
  have g0 : rid (M2 0 2) = rid (M1 0 2) := by rw [g 0 (by omega)]
  refine ⟨M1, M2, g, ⟨hI2, fun c hc => ⟨0, Nat.le_refl _, ?_⟩, ⟨?_, ?_⟩, fun p hp => ?_⟩, fun Q' hq => b Q' (by rw [e]; exact hq)⟩
  · rcases hc with hc | hc | hc <;> subst hc
    · rw [g 61 (by omega)]; exact x4
    · rw [g 67 (by omega), x5]; exact a1
    · rw [g 73 (by omega), x6]; exact a2
  · rw [g0, g _ (by omega)]; exact x1
  · rw [g0, g _ (by omega)]; exact x2
  · rw [g 24 (by omega)]; exact x3 p hp
/-- a whole way through book: one memory, one array at its end, with 1; whoever goes it -/
def BKS (P : (Int32 → Mem → (Nat → Int32) → Prop) → Prop) : Prop := ∃ (M2 : Mem) (B2 : Nat → Int32), (INV M2 ∧ DB 0 M2 ∧ FB M2 B2) ∧ ∀ K : Int32 → Mem → (Nat → Int32) → Prop, K 1 M2 B2 → P K
abbrev QB : Type := Int32 → Mem → (Nat → Int32) → Prop
theorem k_ret {M : Mem} {B : Nat → Int32} (h : INV M ∧ DB 0 M ∧ FB M B) : BKS (fun Q => Q 1 M B) := ⟨M, B, h, fun _ h => h⟩
theorem k_side {c : Prop} {A : QB → Prop} (hc : c) (h : BKS A) : BKS (fun Q => c ∧ A Q) := by
  obtain ⟨M2, B2, g, b⟩ := h
  exact ⟨M2, B2, g, fun K hK => ⟨hc, b K hK⟩⟩
theorem k_1 {c : Prop} {A X : QB → Prop} (hc : c) (h : BKS A) : BKS (fun Q => (c → A Q) ∧ (¬ c → X Q)) := by
  obtain ⟨M2, B2, g, b⟩ := h
  exact ⟨M2, B2, g, fun K hK => ⟨fun _ => b K hK, fun q => absurd hc q⟩⟩
theorem k_2 {c : Prop} {A X : QB → Prop} (hc : ¬ c) (h : BKS A) : BKS (fun Q => (c → X Q) ∧ (¬ c → A Q)) := by
  obtain ⟨M2, B2, g, b⟩ := h
  exact ⟨M2, B2, g, fun K hK => ⟨fun q => absurd q hc, fun _ => b K hK⟩⟩
theorem k_3 {c : Prop} {A X : QB → Prop} (hc : c) (h : BKS A) : BKS (fun Q => (¬ c → X Q) ∧ (c → A Q)) := by
  obtain ⟨M2, B2, g, b⟩ := h
  exact ⟨M2, B2, g, fun K hK => ⟨fun q => absurd hc q, fun _ => b K hK⟩⟩
theorem k_nc {c : Prop} {A X : QB → Prop} (h1 : ¬ c → BKS A) (h2 : c → BKS X) : BKS (fun Q => (¬ c → A Q) ∧ (c → X Q)) := by
  by_cases h : c
  · obtain ⟨M2, B2, g, b⟩ := h2 h
    exact ⟨M2, B2, g, fun K hK => ⟨fun q => absurd h q, fun _ => b K hK⟩⟩
  · obtain ⟨M2, B2, g, b⟩ := h1 h
    exact ⟨M2, B2, g, fun K hK => ⟨fun _ => b K hK, fun q => absurd q h⟩⟩
theorem k_c {c : Prop} {A X : QB → Prop} (h1 : c → BKS A) (h2 : ¬ c → BKS X) : BKS (fun Q => (c → A Q) ∧ (¬ c → X Q)) := by
  by_cases h : c
  · obtain ⟨M2, B2, g, b⟩ := h1 h
    exact ⟨M2, B2, g, fun K hK => ⟨fun _ => b K hK, fun q => absurd h q⟩⟩
  · obtain ⟨M2, B2, g, b⟩ := h2 h
    exact ⟨M2, B2, g, fun K hK => ⟨fun q => absurd q h, fun _ => b K hK⟩⟩
theorem k_ex {A : QB → Nat → Prop} (n : Nat) (h : BKS (fun Q => A Q n)) : BKS (fun Q => ∃ n, A Q n) := by
  obtain ⟨M2, B2, g, b⟩ := h
  exact ⟨M2, B2, g, fun K hK => ⟨n, b K hK⟩⟩
theorem k_run {P : (Int32 → Mem → Prop) → Prop} {A : QB → Int32 → Mem → Prop} {r : Int32} {M1 M2 : Mem} (g : AG M1 M2) (b : ∀ Q' : Int32 → Mem → Prop, Q' r M1 → P Q') (h : BKS (fun Q => A Q r M2)) : BKS (fun Q => P (fun r1 M1 => ∃ M2, AG M1 M2 ∧ A Q r1 M2)) := by
  obtain ⟨M3, B3, i, k⟩ := h
  exact ⟨M3, B3, i, fun K hK => b _ ⟨M2, g, k K hK⟩⟩
theorem fo_congr {sf st sf' st' : Nat → Nat} : ∀ k p, (∀ i, i < k → sf' i = sf i ∧ st' i = st i) → fo sf' st' k p = fo sf st k p
  | 0, _, _ => rfl
  | k + 1, p, h => by
    show fo sf' st' k (swS (sf' k) (st' k) p) = fo sf st k (swS (sf k) (st k) p)
    rw [(h k (by omega)).1, (h k (by omega)).2]
    exact fo_congr k _ fun i hi => h i (by omega)
theorem swS_9 {a b p : Nat} (ha : a < 9) (hb : b < 9) (hp : p < 9) : swS a b p < 9 := by
  unfold swS
  split
  · exact ha
  · split
    · exact hb
    · exact hp
/-- in the midst of book: what stands in the text, in the array -/
def LI (M : Mem) (B : Nat → Int32) (tl : Nat) (tx : Nat → Nat) (n : Nat) (D : Dr) (N R T tb k6 k8 : Nat) : Prop :=
  TS M tl tx n D ∧ (2 ≤ N ∧ N ≤ 9 ∧ 1 ≤ R ∧ R ≤ 8 ∧ T < 20) ∧ (tl ≤ tb ∧ D.1 6 ≤ k6 ∧ D.1 8 ≤ k8) ∧ (D.1 0 = N ∧ D.1 1 = R) ∧ FIT D ∧ (B 0 = nI N ∧ B 1 = nI R ∧ B 4 = nI T) ∧ ∀ p, p < 9 → B (9 + p) = nI (fo (D.2 0) (D.2 1) (D.1 6) p)
theorem LI_le {M : Mem} {B : Nat → Int32} {tl n N R T tb k6 k8 tb' k6' k8' : Nat} {tx : Nat → Nat} {D : Dr} (h : LI M B tl tx n D N R T tb k6 k8) (h1 : tb ≤ tb') (h2 : k6 ≤ k6') (h3 : k8 ≤ k8') : LI M B tl tx n D N R T tb' k6' k8' := by
  obtain ⟨a, b, ⟨c1, c2, c3⟩, d⟩ := h
  exact ⟨a, b, ⟨by omega, by omega, by omega⟩, d⟩
theorem FIT_iS {D : Dr} {a b : Nat} (h : FIT D) (ha : a < D.1 0) (hb : b < D.1 0) : FIT (iS D a b) := by
  refine ⟨fun k hk => ?_, fun k hk => ?_⟩
  · have hk' : k < D.1 6 + 1 := hk
    show u2 (u2 D.2 0 (D.1 6) a) 1 (D.1 6) b 0 k < D.1 0 ∧ u2 (u2 D.2 0 (D.1 6) a) 1 (D.1 6) b 1 k < D.1 0
    rw [u2_no (by decide), u2_at, u2_at, u2_no (by decide)]
    by_cases e : k = D.1 6
    · rw [e, un_at, un_at]; exact ⟨ha, hb⟩
    · rw [un_no e, un_no e]; exact h.1 k (by omega)
  · show u2 (u2 D.2 0 (D.1 6) a) 1 (D.1 6) b 2 k < D.1 0
    rw [u2_no (by decide), u2_no (by decide)]
    exact h.2 k hk
theorem FIT_iT {D : Dr} {a : Nat} (h : FIT D) (ha : a < D.1 0) : FIT (iT D a) := by
  refine ⟨fun k hk => ?_, fun k hk => ?_⟩
  · show u2 D.2 2 (D.1 8) a 0 k < D.1 0 ∧ u2 D.2 2 (D.1 8) a 1 k < D.1 0
    rw [u2_no (by decide), u2_no (by decide)]
    exact h.1 k hk
  · have hk' : k < D.1 8 + 1 := hk
    show u2 D.2 2 (D.1 8) a 2 k < D.1 0
    rw [u2_at]
    by_cases e : k = D.1 8
    · rw [e, un_at]; exact ha
    · rw [un_no e]; exact h.2 k (by omega)
theorem fo_iS {D : Dr} {a b p : Nat} : fo ((iS D a b).2 0) ((iS D a b).2 1) ((iS D a b).1 6) p = fo (D.2 0) (D.2 1) (D.1 6) (swS a b p) := by
  have e6 : (iS D a b).1 6 = D.1 6 + 1 := un_at D.1 6 (D.1 6 + 1)
  have e0 : (iS D a b).2 0 = un (D.2 0) (D.1 6) a := by
    show u2 (u2 D.2 0 (D.1 6) a) 1 (D.1 6) b 0 = _
    rw [u2_no (by decide), u2_at]
  have e1 : (iS D a b).2 1 = un (D.2 1) (D.1 6) b := by
    show u2 (u2 D.2 0 (D.1 6) a) 1 (D.1 6) b 1 = _
    rw [u2_at, u2_no (by decide)]
  rw [e6, e0, e1]
  show fo _ _ (D.1 6) (swS (un (D.2 0) (D.1 6) a (D.1 6)) (un (D.2 1) (D.1 6) b (D.1 6)) p) = _
  rw [un_at, un_at]
  exact fo_congr _ _ fun i hi => ⟨un_no (by omega), un_no (by omega)⟩
