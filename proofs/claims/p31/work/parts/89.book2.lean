/-! THE LAW'S BOOK, its loops -/
theorem v9x {a : Nat} (h : a < 11) : vp_in (nI (9 + a)) 20 := w20 (by omega)
theorem nz_of {B : Nat → Int32} {N : Nat} (h2 : 0 < N) (h9 : N < 2 ^ 31) (b0 : B 0 = nI N) : ¬ B (0 : Int32).toNatClampNeg = 0 := by
  rw [cl0, b0]
  intro q
  have := nI_inj (a := N) (b := 0) (by omega) (by omega) q
  omega
set_option maxHeartbeats 4000000 in
theorem bk_270 {L : Nat} {xs : Nat → Int32} {tl n N R T k m : Nat} {tx : Nat → Nat} {D : Dr} {M : Mem} {B : Nat → Int32} (y : Int32) (hk : k < 4) (h : LI M B tl tx n D N R T (15 + 11 * k + 7) (k + 1) k) (ih : ∀ M B tl tx n D, LI M B tl tx n D N R T (15 + 11 * (k + 1)) (k + 1) (k + 1) → BKS (fun Q => wL_book_163 L xs (0 : Int32) Q m (1 : Int32) (nI (k + 1)) M B)) : BKS (fun Q => wL_book_270 L xs (0 : Int32) (wL_book_163 L xs (0 : Int32) Q m) Q (1 : Int32) (nI k) y M B) := by
  have h' := h
  obtain ⟨hS, ⟨n1, n2, n3, n4, n5⟩, ⟨l1, l2, l3⟩, ⟨d0, d1⟩, hF, ⟨b0, b1, b4⟩, hfo⟩ := h
  have B0 : B (0 : Int32).toNatClampNeg = nI N := by rw [cl0]; exact b0
  have nz := nz_of (by omega) (by omega) b0
  obtain ⟨c, hc, ec⟩ := some_nI (y >>> ((9 : Int32) &&& 31)) (n := N) (by omega) (by omega)
  have ec' : someV (y >>> ((9 : Int32) &&& 31)) (B (0 : Int32).toNatClampNeg) = nI c := by rw [B0]; exact ec
  have e5 : (5 : Int32) + nI k = nI (5 + k) := nI_add 5 k
  have e5' : (nI (5 + k)).toNatClampNeg = 5 + k := nI_clamp (by omega)
  have v5 : vp_in (nI (5 + k)) 20 := w20 (by omega)
  have B4 : upd B (5 + k) (nI c) (4 : Int32).toNatClampNeg = nI T := by
    rw [show (4 : Int32).toNatClampNeg = 4 from nI_clamp (n := 4) (by omega), upd_ne (by omega)]
    exact b4
  have f0 : upd B (5 + k) (nI c) 0 = nI N := by rw [upd_ne (by omega)]; exact b0
  have f1 : upd B (5 + k) (nI c) 1 = nI R := by rw [upd_ne (by omega)]; exact b1
  have f4 : upd B (5 + k) (nI c) 4 = nI T := by rw [upd_ne (by omega)]; exact b4
  have ff : ∀ p, p < 9 → upd B (5 + k) (nI c) (9 + p) = nI (fo (D.2 0) (D.2 1) (D.1 6) p) := fun p hp => by rw [upd_ne (by omega)]; exact hfo p hp
  unfold wL_book_270
  rw [ec', e5, e5', B4]
  refine k_side (w20 (k := 0) (by omega)) (k_side nz (k_side v5 (k_2 one_ne (k_side (w20 (k := 4) (by omega)) (k_c (fun _ => ?_) (fun _ => k_side v5 ?_))))))
  · show BKS (fun Q => wL_book_163 L xs (0 : Int32) Q m (1 : Int32) (nI k + (1 : Int32)) M (upd B (5 + k) (nI c)))
    rw [nI_1]
    exact ih _ _ _ _ _ _ ⟨hS, ⟨n1, n2, n3, n4, n5⟩, ⟨by omega, by omega, by omega⟩, ⟨d0, d1⟩, hF, ⟨f0, f1, f4⟩, ff⟩
  · rw [upd_at]
    obtain ⟨M1, M2, tl2, tx2, g, S2, l4, b⟩ := ts_one (c := 116) (v := c) (D' := iT D c) hS (by omega) (by omega) (by omega) (fun tl2 tx2 e o => Or.inr (Or.inr (Or.inr (Or.inr ⟨e, c, o, by omega, by omega, rfl⟩))))
    refine k_run g b (k_2 one_ne ?_)
    show BKS (fun Q => wL_book_163 L xs (0 : Int32) Q m (1 : Int32) (nI k + (1 : Int32)) M2 (upd B (5 + k) (nI c)))
    rw [nI_1]
    have q0 : (iT D c).2 0 = D.2 0 := u2_no (g := D.2) (a := 2) (k := D.1 8) (v := c) (b := 0) (by decide)
    have q1 : (iT D c).2 1 = D.2 1 := u2_no (g := D.2) (a := 2) (k := D.1 8) (v := c) (b := 1) (by decide)
    have p0 : (iT D c).1 0 = D.1 0 := un_no (f := D.1) (k := 8) (v := D.1 8 + 1) (j := 0) (by decide)
    have p1 : (iT D c).1 1 = D.1 1 := un_no (f := D.1) (k := 8) (v := D.1 8 + 1) (j := 1) (by decide)
    have p6 : (iT D c).1 6 = D.1 6 := un_no (f := D.1) (k := 8) (v := D.1 8 + 1) (j := 6) (by decide)
    have p8 : (iT D c).1 8 = D.1 8 + 1 := un_at D.1 8 (D.1 8 + 1)
    refine ih _ _ _ _ _ _ ⟨S2, ⟨n1, n2, n3, n4, n5⟩, ⟨by omega, by omega, by omega⟩, ⟨by rw [p0]; exact d0, by rw [p1]; exact d1⟩, FIT_iT hF (by omega), ⟨f0, f1, f4⟩, fun p hp => ?_⟩
    rw [q0, q1, p6]
    exact ff p hp
set_option maxHeartbeats 4000000 in
theorem bk_163 {L : Nat} {xs : Nat → Int32} (hL : L ≤ 260) {N R T : Nat} : ∀ m k M B tl tx n D, k + m = 4 → LI M B tl tx n D N R T (15 + 11 * k) k k → BKS (fun Q => wL_book_163 L xs (0 : Int32) Q (m + 1) (1 : Int32) (nI k) M B) := by
  intro m
  induction m with
  | zero =>
    intro k M B tl tx n D hk h
    have hk : k = 4 := by omega
    subst hk
    obtain ⟨hS, ⟨n1, n2, n3, n4, n5⟩, ⟨l1, l2, l3⟩, ⟨d0, d1⟩, hF, ⟨b0, b1, b4⟩, hfo⟩ := h
    unfold wL_book_163
    refine k_1 (by decide) (k_2 one_ne ?_)
    obtain ⟨M1, M2, g, S2, b⟩ := ts_fault hS
    refine k_run g b (k_3 rfl ?_)
    obtain ⟨M3, M4, g4, ⟨i4, db, ⟨x1, x2⟩, x3⟩, bb⟩ := ts_lay S2 hF
    refine k_run g4 bb (k_side (w20 (k := 0) (by omega)) (k_3 ?_ ?_))
    · rw [cl0, b0, d0]
    · refine k_side (Or.inr rfl) (k_ret ⟨i4, db, N, R, ⟨n1, n2, n3, by omega⟩, b0, b1, by rw [x1, d0], by rw [x2, d1], fun p hp => ?_⟩)
      rw [x3 p (by omega), hfo p (by omega)]
  | succ m ih =>
    intro k M B tl tx n D hk h
    have h' := h
    obtain ⟨hS, ⟨n1, n2, n3, n4, n5⟩, ⟨l1, l2, l3⟩, ⟨d0, d1⟩, hF, ⟨b0, b1, b4⟩, hfo⟩ := h
    have B0 : B (0 : Int32).toNatClampNeg = nI N := by rw [cl0]; exact b0
    have nz := nz_of (by omega) (by omega) b0
    have e1 : ((0 : Int32) + (1 : Int32)) + nI k = nI (1 + k) := nI_add 1 k
    unfold wL_book_163
    rw [e1]
    refine k_2 (fun q => by have := (nI_leI (a := 4) (b := k) (by omega) (by omega)).mp q; omega) (k_side (cellok hL (by omega)) ?_)
    generalize cellV L xs (nI (1 + k)) = y
    obtain ⟨a, ha, ea⟩ := some_nI y (n := N) (by omega) (by omega)
    obtain ⟨b, hb, eb⟩ := some_nI (y >>> ((4 : Int32) &&& 31)) (n := N) (by omega) (by omega)
    have ea' : someV y (B (0 : Int32).toNatClampNeg) = nI a := by rw [B0]; exact ea
    have eb' : someV (y >>> ((4 : Int32) &&& 31)) (B (0 : Int32).toNatClampNeg) = nI b := by rw [B0]; exact eb
    have e9a : (9 : Int32) + nI a = nI (9 + a) := nI_add 9 a
    have e9b : (9 : Int32) + nI b = nI (9 + b) := nI_add 9 b
    rw [ea', eb', e9a, e9b, nI_clamp (show 9 + a < 2 ^ 31 by omega), nI_clamp (show 9 + b < 2 ^ 31 by omega)]
    refine k_side (w20 (k := 0) (by omega)) (k_side nz (k_side (w20 (k := 0) (by omega)) (k_side nz (k_nc (fun _ => ?_) (fun _ => ?_)))))
    · exact bk_270 y (by omega) (LI_le h' (by omega) (by omega) (by omega)) (fun M B tl tx n D h => ih (k + 1) M B tl tx n D (by omega) h)
    · refine k_side (v9x (by omega)) (k_side (v9x (by omega)) (k_side (v9x (by omega)) (k_side (v9x (by omega)) (k_2 one_ne ?_))))
      obtain ⟨M1, M2, tl2, tx2, g, S2, l4, bb⟩ := ts_two (c := 115) (v := a) (w := b) (D' := iS D a b) hS (by omega) (by omega) (by omega) (by omega) (fun tl2 tx2 q e o1 o2 => Or.inr (Or.inr (Or.inr (Or.inl ⟨e, q, a, b, o1, o2, by omega, by omega, by omega, rfl⟩))))
      refine k_run g bb (k_2 one_ne ?_)
      have p0 : (iS D a b).1 0 = D.1 0 := un_no (f := D.1) (k := 6) (v := D.1 6 + 1) (j := 0) (by decide)
      have p1 : (iS D a b).1 1 = D.1 1 := un_no (f := D.1) (k := 6) (v := D.1 6 + 1) (j := 1) (by decide)
      have p8 : (iS D a b).1 8 = D.1 8 := un_no (f := D.1) (k := 6) (v := D.1 6 + 1) (j := 8) (by decide)
      have p6 : (iS D a b).1 6 = D.1 6 + 1 := un_at D.1 6 (D.1 6 + 1)
      refine bk_270 y (by omega) ⟨S2, ⟨n1, n2, n3, n4, n5⟩, ⟨by omega, by omega, by omega⟩, ⟨by rw [p0]; exact d0, by rw [p1]; exact d1⟩, FIT_iS hF (by omega) (by omega), ⟨?_, ?_, ?_⟩, fun p hp => ?_⟩ (fun M B tl tx n D h => ih (k + 1) M B tl tx n D (by omega) h)
      · rw [upd_ne (by omega), upd_ne (by omega)]; exact b0
      · rw [upd_ne (by omega), upd_ne (by omega)]; exact b1
      · rw [upd_ne (by omega), upd_ne (by omega)]; exact b4
      · rw [fo_iS]
        unfold swS
        by_cases h1 : p = b
        · rw [if_pos h1, h1, upd_at]
          exact hfo a (by omega)
        · rw [if_neg h1, upd_ne (by omega)]
          by_cases h2 : p = a
          · rw [if_pos h2, h2, upd_at]
            exact hfo b (by omega)
          · rw [if_neg h2, upd_ne (by omega)]
            exact hfo p hp
theorem bk_138 {L : Nat} {xs : Nat → Int32} (hL : L ≤ 260) {N R T tl n : Nat} {tx : Nat → Nat} {D : Dr} {M : Mem} (hS : TS M tl tx n D) (hn : 2 ≤ N ∧ N ≤ 9 ∧ 1 ≤ R ∧ R ≤ 8 ∧ T < 20) (hl : tl ≤ 15 ∧ D.1 6 = 0 ∧ D.1 8 = 0) (hd : D.1 0 = N ∧ D.1 1 = R) : ∀ m p B, p + m = 9 → (B 0 = nI N ∧ B 1 = nI R ∧ B 4 = nI T) → (∀ q, q < p → B (9 + q) = nI q) → BKS (fun Q => wL_book_138 L xs (0 : Int32) Q (m + 1) (1 : Int32) (nI p) M B) := by
  intro m
  induction m with
  | zero =>
    intro p B hp hB h
    have hp : p = 9 := by omega
    subst hp
    unfold wL_book_138
    refine k_1 (by decide) (k_ex 5 ?_)
    refine bk_163 hL (N := N) (R := R) (T := T) 4 0 M B tl tx n D (by omega) ⟨hS, hn, ⟨by omega, by omega, by omega⟩, hd, ⟨fun k hk => by omega, fun k hk => by omega⟩, hB, fun q hq => ?_⟩
    rw [h q hq, hl.2.1]
    rfl
  | succ m ih =>
    intro p B hp hB h
    unfold wL_book_138
    have e9 : (9 : Int32) + nI p = nI (9 + p) := nI_add 9 p
    rw [e9, nI_clamp (show 9 + p < 2 ^ 31 by omega), nI_1]
    refine k_2 (fun q => by have := (nI_leI (a := 9) (b := p) (by omega) (by omega)).mp q; omega) (k_side (w20 (by omega)) ?_)
    refine ih (p + 1) _ (by omega) ⟨by rw [upd_ne (by omega)]; exact hB.1, by rw [upd_ne (by omega)]; exact hB.2.1, by rw [upd_ne (by omega)]; exact hB.2.2⟩ (fun q hq => ?_)
    by_cases e : q = p
    · rw [e, upd_at]
    · rw [upd_ne (by omega)]
      exact h q (by omega)
