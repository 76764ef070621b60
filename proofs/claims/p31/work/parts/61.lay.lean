/-! lay, on both sides -/
theorem DOK_TL {M : Mem} {u : Nat} {D : Dr} (hD : D7 M u D) (hk : DOK D) : TL M u (D.1 0) (D.1 1) (D.1 2) (D.1 3) :=
  ⟨hD.1, hD.2.1, hD.2.2.1, hD.2.2.2.1, hk.1, hk.2.1, hk.2.2.1, hk.2.2.2.1, hk.2.2.2.2.1, hk.2.2.2.2.2.1⟩
theorem DOK_SW7 {M : Mem} {u : Nat} {D : Dr} (hD : D7 M u D) (hk : DOK D) (hf : FIT D) : SW7 M u (D.1 0) (D.1 6) (D.2 0) (D.2 1) :=
  ⟨hD.2.2.2.2.1, hk.2.2.2.2.2.2.1, fun k q => ⟨(hD.2.2.2.2.2.2.1 k q).1, (hD.2.2.2.2.2.2.1 k q).2, (hf.1 k q).1, (hf.1 k q).2⟩⟩
theorem D7_congr {M M' : Mem} {u : Nat} {D : Dr} (h : D7 M u D) (e : ∀ x, x = u ∨ x = u + 2 ∨ x = u + 4 ∨ x = u + 6 → M' x = M x) : D7 M' u D := by
  unfold D7
  rw [e u (by omega), e (u + 2) (by omega), e (u + 4) (by omega), e (u + 6) (by omega)]
  exact h
theorem k_lay {M : Mem} {Q : Int32 → Int32 → Mem → Prop} (hI : INV M) (h : GQ Q) : wX7_lay M (fun r1 M1 => wX8_lay M1 (fun r2 M2 => Q r1 r2 M2)) := by
  obtain ⟨t, N, Rr, K, A, nt, ta, F, hB, ⟨tl, tx, hT⟩, hP, hK, hS⟩ := hI
  obtain ⟨ht, e2, e1, k2, k1⟩ := BK_t hB
  have hu : 17 - t = 4 ∨ 17 - t = 13 := by omega
  have h300 := hT.2.2.1
  have k1' : kd (17 - t) = 6 := by rw [e1] at k1; exact k1
  have k2' : kd t = 6 := by rw [e2] at k2; exact k2
  have h01 : t = 13 ∨ t = 4 := by omega
  refine ⟨k1, ?_⟩
  rw [e1]
  refine s6_scan hu (TXT_78 hT).1 fun r D1 M1 s1 g1 f1 => ?_
  have T1 := FU_T8 hu (TXT_78 hT).2 f1
  have h0 : M1 0 = M 0 := f1 0 (by omega)
  have out : (r = -4 → ¬ FIT D1) → wX7_lay_26 (fun r1 M1 => wX8_lay M1 (fun r2 M2 => Q r1 r2 M2)) M1 := fun nf => by
    show wX8_lay M1 (fun r2 M2 => Q (-2) r2 M2)
    refine s8_readAll T1 fun r2 D2 M2 s2 g2 f2 => ?_
    obtain ⟨u1, u2⟩ := SCN_uniq h300 _ _ _ _ _ _ _ s1 s2
    refine ⟨fun _ => h _ _ (INV_f hB hT hP hK hS f1 f2), fun q => ?_⟩
    have q1 : r = -4 := u1.trans q
    obtain ⟨d2, o2⟩ := g2 q
    have eD := u2 q1
    exact s8_below d2 o2 (fun g => absurd (eD ▸ g) (nf q1)) (fun _ => i_f (h _ _ (INV_f hB hT hP hK hS f1 f2)))
  refine ⟨fun q => out (fun e => absurd e q), fun q => ?_⟩
  obtain ⟨d1, o1⟩ := g1 q
  rw [h0, e1]
  refine ⟨k1', s6_fits hu d1 o1 (fun g => i_t ?_) (fun g => i_f (out fun _ => g))⟩
  rw [h0, e1, e2]
  refine ⟨k2', k1', nI_clamp (by omega), nI_clamp (by omega), ?_⟩
  generalize hM2 : mu (mu M1 0 2 (Int32.ofNat (17 - t))) 0 1 (Int32.ofNat t) = M2
  have m2o : ∀ x, x ≠ 0 → M2 x = M1 x := fun x hx => by rw [← hM2, mu_ne hx, mu_ne hx]
  have m21 : M2 0 1 = nI t := by rw [← hM2, mu_at]; rfl
  have m22 : M2 0 2 = nI (17 - t) := by rw [← hM2, mu_no (by omega), mu_at]; rfl
  have r22 : rid (M2 0 2) = 17 - t := by rw [m22]; exact nI_clamp (by omega)
  have d2 : D7 M2 (17 - t) D1 := D7_congr d1 fun x hx => m2o x (by omega)
  refine s7_startAnew hu (by rw [r22]; exact k1') r22 (DOK_TL d2 o1) (DOK_SW7 d2 o1 g) fun M3 a1 a2 a3 a4 a5 a6 a7 a8 a9 a10 a11 => ?_
  have r32 : rid (M3 0 2) = 17 - t := by rw [a10 2 (by omega) (by omega)]; exact r22
  have d3 : D7 M3 (17 - t) D1 := D7_congr d2 fun x hx => a11 x (by omega) (by omega) (by omega) (by omega) (by omega) (by omega) (by omega)
  refine ⟨by rw [r32]; exact k1', ?_⟩
  rw [r32, d3.1]
  have m3o : ∀ x, x = 1 ∨ x = 3 ∨ 79 ≤ x → M3 x = M x := fun x hx => by rw [a11 x (by omega) (by omega) (by omega) (by omega) (by omega) (by omega) (by omega), m2o x (by omega), f1 x (by omega)]
  have T3 : T8 M3 tl tx := T8_cg (TXT_78 hT).2 (by rw [m3o 79 (by omega)]) (m3o 80 (by omega))
  refine s8_readAll T3 fun r2 D2 M4 s2 g2 f2 => ?_
  obtain ⟨u1, u2⟩ := SCN_uniq h300 _ _ _ _ _ _ _ s1 s2
  have q2 : r2 = -4 := u1.symm.trans q
  obtain ⟨d4, o4⟩ := g2 q2
  have eD := u2 q
  refine ⟨fun z => absurd q2 z, fun _ => ?_⟩
  rw [← eD] at d4
  refine s8_below d4 o1 (fun _ => i_t ?_) (fun z => absurd g z)
  refine ⟨v1 (by decide), vz (by decide), v1 (by decide), vz (by decide), v1 (by decide), vz (by decide), v1 (by decide), vz (by decide), v1 (by decide), vz (by decide), v1 (by decide), vz (by decide), ?_⟩
  rw [cl0, cl1]
  obtain ⟨c0, c1, c2, c3, c6, c8, c9, c10⟩ := d4
  obtain ⟨o0, o1', o2, o3, o5, o6, o7, o8, o9, o10⟩ := o1
  have n82 : ∀ v, mu M4 81 0 v 82 1 = nI (D1.1 1) := fun v => by rw [mu_no (by omega)]; exact c1
  rw [c0, n82]
  have n83 : ∀ v w, mu (mu M4 81 0 v) 82 0 w 83 1 = nI (D1.1 2) := fun v w => by rw [mu_no (by omega), mu_no (by omega)]; exact c2
  rw [n83]
  have n84 : ∀ v w z, mu (mu (mu M4 81 0 v) 82 0 w) 83 0 z 84 1 = nI (D1.1 3) := fun v w z => by rw [mu_no (by omega), mu_no (by omega), mu_no (by omega)]; exact c3
  rw [n84]
  have n85 : ∀ v w z y, mu (mu (mu (mu M4 81 0 v) 82 0 w) 83 0 z) 84 0 y 85 1 = nI (D1.1 6) := fun v w z y => by rw [mu_no (by omega), mu_no (by omega), mu_no (by omega), mu_no (by omega)]; exact c6
  rw [n85]
  have n87 : ∀ v w z y x, mu (mu (mu (mu (mu M4 81 0 v) 82 0 w) 83 0 z) 84 0 y) 85 0 x 87 1 = nI (D1.1 8) := fun v w z y x => by rw [mu_no (by omega), mu_no (by omega), mu_no (by omega), mu_no (by omega), mu_no (by omega)]; exact c8
  rw [n87]
  generalize hM5 : mu (mu (mu (mu (mu (mu M4 81 0 (nI (D1.1 0))) 82 0 (nI (D1.1 1))) 83 0 (nI (D1.1 2))) 84 0 (nI (D1.1 3))) 85 0 (nI (D1.1 6))) 87 0 (nI (D1.1 8)) = M5
  have m5o : ∀ x, ¬ (81 ≤ x ∧ x ≤ 85) → x ≠ 87 → M5 x = M4 x := fun x a b => by rw [← hM5, mu_ne (by omega), mu_ne (by omega), mu_ne (by omega), mu_ne (by omega), mu_ne (by omega), mu_ne (by omega)]
  refine s8_copy86 fun M6 b1 b2 b3 => ?_
  have p81 : M6 81 0 = nI (D1.1 0) := by rw [b3 81 (by omega) (by omega), ← hM5, mu_no (by omega), mu_no (by omega), mu_no (by omega), mu_no (by omega), mu_no (by omega), mu_at]
  have p82 : M6 82 0 = nI (D1.1 1) := by rw [b3 82 (by omega) (by omega), ← hM5, mu_no (by omega), mu_no (by omega), mu_no (by omega), mu_no (by omega), mu_at]
  have p83 : M6 83 0 = nI (D1.1 2) := by rw [b3 83 (by omega) (by omega), ← hM5, mu_no (by omega), mu_no (by omega), mu_no (by omega), mu_at]
  have p84 : M6 84 0 = nI (D1.1 3) := by rw [b3 84 (by omega) (by omega), ← hM5, mu_no (by omega), mu_no (by omega), mu_at]
  have p85 : M6 85 0 = nI (D1.1 6) := by rw [b3 85 (by omega) (by omega), ← hM5, mu_no (by omega), mu_at]
  have p87 : M6 87 0 = nI (D1.1 8) := by rw [b3 87 (by omega) (by omega), ← hM5, mu_at]
  have p86 : ∀ k, k < 40 → M6 86 k = M4 86 (40 + k) := fun k hk => by rw [b1 k hk, m5o 86 (by omega) (by omega)]
  have p88 : ∀ k, k < 20 → M6 88 k = M4 88 (20 + k) := fun k hk => by rw [b2 k hk, m5o 88 (by omega) (by omega)]
  have p6o : ∀ x, ¬ (81 ≤ x ∧ x ≤ 88) → M6 x = M4 x := fun x hx => by rw [b3 x (by omega) (by omega), m5o x (by omega) (by omega)]
  have hT6 : TLR M6 (D1.1 0) (D1.1 1) (D1.1 2) (D1.1 3) := ⟨p81, p82, p83, p84, o0, o1', o2, o3, o5, o6⟩
  have hS6 : SW8 M6 (D1.1 0) (D1.1 6) (D1.2 0) (D1.2 1) := ⟨p85, o7, fun k hk => ⟨by rw [p86 (2 * k) (by omega)]; exact (c9 k hk).1, by rw [p86 (2 * k + 1) (by omega), show 40 + (2 * k + 1) = 41 + 2 * k by omega]; exact (c9 k hk).2, (g.1 k hk).1, (g.1 k hk).2⟩⟩
  refine s8_layBook hT6 hS6 fun M7 w1 w2 w3 w4 w5 w6 w7 w8 w9 => ?_
  have lo : ∀ x, x < 79 → M7 x = M3 x := fun x hx => by
    rw [w9 x (by omega) (by omega) (by omega) (by omega) (by omega) (by omega) (by omega) (by omega), p6o x (by omega)]
    exact funext fun k => f2 x k (by omega) (by omega) (by omega) (by omega) (by omega)
  have md : ∀ x, x = 81 ∨ x = 82 ∨ x = 83 ∨ x = 84 ∨ x = 87 ∨ x = 88 → M7 x = M6 x := fun x hx => w9 x (by omega) (by omega) (by omega) (by omega) (by omega) (by omega) (by omega) (by omega)
  have pm := fo_pm (N := D1.1 0) (sf := D1.2 0) (st := D1.2 1) (D1.1 6) g.1
  have z80 : M7 80 = M 80 := by
    rw [w9 80 (by omega) (by omega) (by omega) (by omega) (by omega) (by omega) (by omega) (by omega), p6o 80 (by omega), ← m3o 80 (by omega)]
    exact funext fun k => f2 80 k (by omega) (by omega) (by omega) (by omega) (by omega)
  have z79 : M7 79 0 = M 79 0 := by
    rw [w8 0 (by omega) (by omega), p6o 79 (by omega), f2 79 0 (by omega) (by omega) (by omega) (by omega) (by omega), m3o 79 (by omega)]
  refine ⟨vz (by decide), ?_⟩
  rw [cl0, md 81 (by omega), p81]
  refine h _ _ ⟨17 - t, D1.1 0, D1.1 1, D1.1 2, D1.1 3, D1.1 8, D1.2 2, fo (D1.2 0) (D1.2 1) (D1.1 6), ⟨?_, ?_, ?_, ⟨?_, ?_, o8, fun k hk => ⟨?_, ?_, g.2 k hk⟩⟩, ⟨?_, pm, fun p hp => ⟨?_, w1 p hp⟩⟩, ?_, w7⟩, ⟨tl, tx, TXT_congr hT (by rw [lo 1 (by omega), m3o 1 (by omega)]) (by rw [lo 3 (by omega), m3o 3 (by omega)]) z79 z80⟩, ⟨fo (D1.2 0) (D1.2 1) (D1.1 6), 0, ?_, pm, fun p hp => ⟨?_, ?_⟩, ?_, ?_, by omega, ?_⟩, ⟨0, ?_, ?_, by omega, fun h => by omega, fun h => by omega⟩, ⟨0, fun _ => 0, fun _ => 0, fun _ => 0, ?_, ?_, by omega, fun k hk => absurd hk (Nat.not_lt_zero _)⟩⟩
  · rw [lo 0 (by omega), a10 1 (by omega) (by omega), a10 2 (by omega) (by omega), m21, m22]
    rcases h01 with e | e <;> subst e
    · exact Or.inr ⟨rfl, rfl, rfl⟩
    · exact Or.inl ⟨rfl, rfl, rfl⟩
  · exact TL_congr (DOK_TL d3 ⟨o0, o1', o2, o3, o5, o6, o7, o8, o9, o10⟩) (lo (17 - t) (by omega))
  · exact TLR_congr hT6 (md 81 (by omega)) (md 82 (by omega)) (md 83 (by omega)) (md 84 (by omega))
  · rw [lo (17 - t) (by omega)]; exact d3.2.2.2.2.2.1
  · rw [md 87 (by omega)]; exact p87
  · rw [lo (17 - t + 6) (by omega)]; exact d3.2.2.2.2.2.2.2 k hk
  · rw [md 88 (by omega), p88 k (by omega)]; exact c10 k hk
  · rw [lo 22 (by omega)]; exact a1
  · rw [lo 24 (by omega)]; exact a2 p hp
  · exact RDS_congr a3 fun x hx => lo x (by omega)
  · rw [lo (61 + 1) (by omega)]; exact a4
  · rw [lo (61 + 3) (by omega)]; exact a5 p hp
  · rw [show 40 * 0 + p = p by omega]; exact w2 p hp
  · rw [lo 61 (by omega)]; exact a6
  · exact w3
  · rw [lo 61 (by omega), a7, w4]
  · rw [lo 0 (by omega)]; exact a9
  · exact w5
  · rw [lo 0 (by omega)]; exact a8
  · exact w6
