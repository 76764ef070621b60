/-! THE LAW'S BOOK, whole; the law from two new books -/
set_option maxHeartbeats 4000000 in
theorem bk_66 {L : Nat} {xs : Nat → Int32} (hL : L ≤ 260) {N R Kd mx : Nat} {M : Mem} {B : Nat → Int32} (x y : Int32) (hI : INV M) (h67 : M 67 2 = 0) (h73 : M 73 2 = 0) (hn : 2 ≤ N ∧ N ≤ 9 ∧ 1 ≤ R ∧ R ≤ 8) (hK : Kd ≤ 3) (hm : 0 < mx ∧ mx ≤ 12) (b0 : B 0 = nI N) (b1 : B 1 = nI R) (b2 : B 2 = nI Kd) : BKS (fun Q => wL_book_66 L xs (0 : Int32) Q x (nI mx) y (3 : Int32) M B) := by
  obtain ⟨A, hA, eA⟩ := some_nI y (n := mx) hm.1 (by omega)
  obtain ⟨T, hT, eT⟩ := some_nI (x >>> ((12 : Int32) &&& 31)) (n := 5) (by omega) (by omega)
  have eT' : someV (x >>> ((12 : Int32) &&& 31)) (5 : Int32) = nI T := eT
  have hmz : ¬ nI mx = 0 := fun q => by
    have := nI_inj (a := mx) (b := 0) (by omega) (by omega) q
    omega
  have c2 : (2 : Int32).toNatClampNeg = 2 := nI_clamp (n := 2) (by omega)
  have c3 : (3 : Int32).toNatClampNeg = 3 := nI_clamp (n := 3) (by omega)
  have c4 : (4 : Int32).toNatClampNeg = 4 := nI_clamp (n := 4) (by omega)
  unfold wL_book_66
  rw [eA, eT', c2, c3, c4, cl0, cl1]
  generalize hB' : upd (upd B 3 (nI A)) 4 (nI T) = B'
  have f0 : B' 0 = nI N := by rw [← hB', upd_ne (by omega), upd_ne (by omega)]; exact b0
  have f1 : B' 1 = nI R := by rw [← hB', upd_ne (by omega), upd_ne (by omega)]; exact b1
  have f2 : B' 2 = nI Kd := by rw [← hB', upd_ne (by omega), upd_ne (by omega)]; exact b2
  have f3 : B' 3 = nI A := by rw [← hB', upd_ne (by omega), upd_at]
  have f4 : B' 4 = nI T := by rw [← hB', upd_at]
  rw [f0, f1, f2, f3]
  refine k_side hmz (k_side (w20 (k := 3) (by omega)) (k_side (by decide) (k_side (w20 (k := 4) (by omega)) ?_)))
  obtain ⟨M1, tx, g1, S1⟩ := ts_wipe hI h67 h73
  have hneg : ¬ M 1 1 < 0 := by
    obtain ⟨t, N0, Rr, K, A0, nt, ta, F, hB0, ⟨tl, tx0, hT0⟩, -⟩ := hI
    rw [hT0.1]
    exact nI_pos (by have := hT0.2.2.1; omega)
  refine k_run (P := fun Q => wX7_wipe M Q) (r := M 1 1) g1 (fun Q' h => h) (k_2 hneg (k_side (w20 (k := 0) (by omega)) ?_))
  obtain ⟨_, M2, tl2, tx2, g2, S2, l2, r2⟩ := ts_one (c := 110) (v := N) (D' := iN D0 N) S1 (by omega) (by omega) (by omega) (fun tl2 tx2 e o => Or.inl ⟨e, N, o, by omega, by omega, rfl⟩)
  refine k_run g2 r2 (k_2 one_ne (k_side (w20 (k := 1) (by omega)) ?_))
  obtain ⟨_, M3, tl3, tx3, g3, S3, l3, r3⟩ := ts_one (c := 114) (v := R) (D' := iR (iN D0 N) R) S2 (by omega) (by omega) (by omega) (fun tl2 tx2 e o => Or.inr (Or.inl ⟨e, R, o, by omega, by omega, rfl⟩))
  refine k_run g3 r3 (k_2 one_ne (k_side (w20 (k := 2) (by omega)) (k_side (w20 (k := 3) (by omega)) ?_)))
  obtain ⟨_, M4, tl4, tx4, g4, S4, l4, r4⟩ := ts_two (c := 108) (v := Kd) (w := A) (D' := iL (iR (iN D0 N) R) Kd A) S3 (by omega) (by omega) (by omega) (by omega) (fun tl2 tx2 q e o1 o2 => Or.inr (Or.inr (Or.inl ⟨e, q, Kd, A, o1, o2, by omega, by omega, rfl⟩)))
  refine k_run g4 r4 (k_2 one_ne ?_)
  show BKS (fun Q => ∃ n13, wL_book_138 L xs (0 : Int32) Q n13 (1 : Int32) (0 : Int32) M4 B')
  refine k_ex 10 ?_
  exact bk_138 hL (N := N) (R := R) (T := T) S4 ⟨hn.1, hn.2.1, hn.2.2.1, hn.2.2.2, by omega⟩ ⟨by omega, rfl, rfl⟩ ⟨rfl, rfl⟩ 9 0 B' (by omega) ⟨f0, f1, f4⟩ (fun q hq => by omega)
set_option maxHeartbeats 4000000 in
theorem bk_all {L : Nat} {xs : Nat → Int32} (hL : L ≤ 260) {M : Mem} {B : Nat → Int32} (hI : INV M) (h67 : M 67 2 = 0) (h73 : M 73 2 = 0) : BKS (fun Q => wL_book L xs (0 : Int32) M B Q) := by
  unfold wL_book
  refine k_side (cellok (k := 0) hL (by omega)) ?_
  generalize cellV L xs (0 : Int32) = x
  obtain ⟨a, ha, ea⟩ := some_nI x (n := 8) (by omega) (by omega)
  obtain ⟨r, hr, er⟩ := some_nI (x >>> ((3 : Int32) &&& 31)) (n := 8) (by omega) (by omega)
  obtain ⟨k, hk, ek⟩ := and_nI (x >>> ((6 : Int32) &&& 31)) (m := 3) (by omega)
  have ea' : (2 : Int32) + someV x (8 : Int32) = nI (2 + a) := by
    rw [show someV x (8 : Int32) = nI a from ea]
    exact nI_add 2 a
  have er' : (1 : Int32) + someV (x >>> ((3 : Int32) &&& 31)) (8 : Int32) = nI (1 + r) := by
    rw [show someV (x >>> ((3 : Int32) &&& 31)) (8 : Int32) = nI r from er]
    exact nI_add 1 r
  have ek' : (x >>> ((6 : Int32) &&& 31)) &&& (3 : Int32) = nI k := ek
  have c2 : (2 : Int32).toNatClampNeg = 2 := nI_clamp (n := 2) (by omega)
  rw [ea', er', ek', c2, cl0, cl1]
  generalize hB' : upd (upd (upd B 0 (nI (2 + a))) 1 (nI (1 + r))) 2 (nI k) = B'
  have f0 : B' 0 = nI (2 + a) := by rw [← hB', upd_ne (by omega), upd_ne (by omega), upd_at]
  have f1 : B' 1 = nI (1 + r) := by rw [← hB', upd_ne (by omega), upd_at]
  have f2 : B' 2 = nI k := by rw [← hB', upd_at]
  rw [f0]
  refine k_side (by decide) (k_side (w20 (k := 0) (by omega)) (k_side (by decide) (k_side (w20 (k := 1) (by omega)) (k_side (w20 (k := 2) (by omega)) (k_nc (fun _ => ?_) (fun _ => k_side (w20 (k := 0) (by omega)) ?_))))))
  · exact bk_66 hL (mx := 12) x _ hI h67 h73 ⟨by omega, by omega, by omega, by omega⟩ hk ⟨by omega, by omega⟩ f0 f1 f2
  · exact bk_66 hL (mx := 2 + a) x _ hI h67 h73 ⟨by omega, by omega, by omega, by omega⟩ hk ⟨by omega, by omega⟩ f0 f1 f2
theorem law_all {L : Nat} {xs : Nat → Int32} (hL : L ≤ 260) {M : Mem} {B : Nat → Int32} (hI : INV M) (h67 : M 67 2 = 0) (h73 : M 73 2 = 0) : wL_law L xs M M B B := by
  obtain ⟨M2, B2, ⟨i, d, f⟩, k⟩ := bk_all (xs := xs) (B := B) hL hI h67 h73
  exact k _ ⟨fun q => absurd q one_ne, fun _ => k _ ⟨fun _ => ⟨41, law_53 hL 40 0 M2 (by omega) i d f⟩, fun q => absurd q one_ne⟩⟩
/-- the memory of a new book, and one like it that INV holds of -/
theorem start_mem : ∃ M7 M : Mem, (∀ Q : Mem → Prop, Q M7 → wX7_init Q) ∧ AG M7 M ∧ INV M ∧ M 67 2 = 0 ∧ M 73 2 = 0 := by
  have h0 : M07 0 2 = nI 13 := rfl
  have hT : TL M07 13 10 9 0 2 := ⟨rfl, rfl, rfl, rfl, by omega, by omega, by omega, by omega, by omega, by omega⟩
  have hr : rid (M07 0 2) = 13 := by rw [h0]; exact nI_clamp (by omega)
  have h2 : wX7_startAnew M07 (fun M1 => M1 67 2 = 0 ∧ M1 73 2 = 0) := s7_startAnew (t := 13) (ns := 0) (sf := fun _ => 0) (st := fun _ => 0) (Or.inr rfl) (by rw [hr]; rfl) hr hT ⟨rfl, by omega, fun k hk => absurd hk (Nat.not_lt_zero _)⟩ fun M1 a1 a2 a3 a4 a5 a6 a7 a8 a9 a10 a11 => ⟨by rw [a11 67 (by omega) (by omega) (by omega) (by omega) (by omega) (by omega) (by omega)]; rfl, by rw [a11 73 (by omega) (by omega) (by omega) (by omega) (by omega) (by omega) (by omega)]; rfl⟩
  have h1 : wX7_startAnew M07 I7 := init7
  obtain ⟨M7, -, i7, ⟨z67, z73⟩, k⟩ := u_wX7_startAnew M07 h1 h2
  have g1 : wX8_noBook (0 : Int32) M08 (fun M1 => wX8_layBook M1 (fun M2 => I8 M2)) := init8
  obtain ⟨M1, -, g2, -, -⟩ := u_wX8_noBook (0 : Int32) M08 g1 g1
  obtain ⟨M8, -, i8, -, -⟩ := u_wX8_layBook M1 g2 g2
  exact ⟨M7, comb M7 M8, fun Q hq => k Q hq, fun i hi => comb_lo hi, init_INV i7 i8, by rw [comb_lo (by omega)]; exact z67, by rw [comb_lo (by omega)]; exact z73⟩
