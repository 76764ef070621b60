/-! THE START: both machines are made, their two memories become one, the law's loop begins -/
def comb (M7 M8 : Mem) : Mem := fun i => if i < 79 then M7 i else M8 i
theorem comb_lo {M7 M8 : Mem} {i : Nat} (h : i < 79) : comb M7 M8 i = M7 i := if_pos h
theorem comb_hi {M7 M8 : Mem} {i : Nat} (h : 79 ≤ i) : comb M7 M8 i = M8 i := if_neg (by omega)
theorem kb_0 : ∀ i, i < 79 → kd i = 0 → i + 3 < 79 := by decide +kernel
theorem kb_1 : ∀ i, i < 79 → kd i = 1 → i + 3 < 79 := by decide +kernel
theorem kb_2 : ∀ i, i < 79 → kd i = 2 → i + 1 < 79 := by decide +kernel
theorem kb_3 : ∀ i, i < 79 → kd i = 3 → i + 18 < 79 := by decide +kernel
theorem kb_4 : ∀ i, i < 79 → kd i = 4 → i + 1 < 79 := by decide +kernel
theorem kb_5 : ∀ i, i < 79 → kd i = 5 → i + 1 < 79 := by decide +kernel
theorem kb_6 : ∀ i, i < 79 → kd i = 6 → i + 7 < 79 := by decide +kernel
theorem kb_7 : ∀ i, i < 79 → kd i = 7 → i = 0 := by decide +kernel
theorem kb_8 : ∀ i, i < 106 → 79 ≤ i → kd i = 8 → i = 79 := by decide +kernel
theorem kb_lo : ∀ i, i < 79 → kd i ≤ 7 ∨ kd i = 9 := by decide +kernel
theorem kb_hi : ∀ i, i < 106 → 79 ≤ i → kd i = 8 ∨ kd i = 10 ∨ kd i = 11 := by decide +kernel
/-- a cell of the class's part in the greater world -/
theorem gc_lo {G G' : gP} {M M' : Mem} {i : Nat} (hi : i < 79) (hc : G'.2.2.2 = G.2.2.2) (hM : M' i = M i) (hAD : ∀ j, j < 79 → gAD G' j = gAD G j) (h1 : rid (M 0 1) < 79) (h2 : rid (M 0 2) < 79) : gc G' M' i = gc G M i := by
  unfold gc
  rcases kb_lo i hi with h | h
  · rcases (show kd i = 0 ∨ kd i = 1 ∨ kd i = 2 ∨ kd i = 3 ∨ kd i = 4 ∨ kd i = 5 ∨ kd i = 6 ∨ kd i = 7 by omega) with h | h | h | h | h | h | h | h
    · have := kb_0 i hi h
      rw [h]
      simp only [gF, hM]
      rw [hAD (i + 1) (by omega), hAD (i + 3) (by omega)]
    · have := kb_1 i hi h
      rw [h]
      simp only [gF, hM]
      rw [hAD (i + 1) (by omega), hAD (i + 3) (by omega)]
    · have := kb_2 i hi h
      rw [h]
      simp only [gF, hM]
      rw [hAD (i + 1) (by omega)]
    · have := kb_3 i hi h
      rw [h]
      simp only [gF, hM]
      rw [hAD (i + 1) (by omega), hAD (i + 6) (by omega), hAD (i + 8) (by omega), hAD (i + 10) (by omega), hAD (i + 12) (by omega), hAD (i + 14) (by omega), hAD (i + 16) (by omega), hAD (i + 18) (by omega)]
    · have := kb_4 i hi h
      rw [h]
      simp only [gF, hM]
      rw [hAD (i + 1) (by omega)]
    · have := kb_5 i hi h
      rw [h]
      simp only [gF, hM]
      rw [hAD (i + 1) (by omega)]
    · have := kb_6 i hi h
      rw [h]
      simp only [gF, hM]
      rw [hAD (i + 1) (by omega), hAD (i + 3) (by omega), hAD (i + 5) (by omega), hAD (i + 7) (by omega)]
    · have := kb_7 i hi h
      subst this
      rw [h]
      simp only [gF, hM]
      rw [hAD (0 + 1) (by omega), hAD _ h1, hAD _ h2, hAD (0 + 22) (by omega), hAD (0 + 27) (by omega), hAD (0 + 32) (by omega), hAD (0 + 52) (by omega), hAD (0 + 57) (by omega), hAD (0 + 59) (by omega), hAD (0 + 61) (by omega), hAD (0 + 67) (by omega), hAD (0 + 73) (by omega)]
  · rw [h]
    simp only [gF, hM]
    rw [hc]
theorem gc_hi {G G' : gP} {M M' : Mem} {i : Nat} (h79 : 79 ≤ i) (hi : i < 106) (hc : G'.2.2.2 = G.2.2.2) (hM : M' i = M i) (hAD : ∀ j, 79 ≤ j → j < 106 → gAD G' j = gAD G j) : gc G' M' i = gc G M i := by
  unfold gc
  rcases kb_hi i hi h79 with h | h | h
  · have := kb_8 i hi h79 h
    subst this
    rw [h]
    simp only [gF, hM]
    rw [hAD (79 + 1) (by omega) (by omega), hAD (79 + 2) (by omega) (by omega), hAD (79 + 3) (by omega) (by omega), hAD (79 + 4) (by omega) (by omega), hAD (79 + 5) (by omega) (by omega), hAD (79 + 6) (by omega) (by omega), hAD (79 + 7) (by omega) (by omega), hAD (79 + 8) (by omega) (by omega), hAD (79 + 9) (by omega) (by omega), hAD (79 + 10) (by omega) (by omega), hAD (79 + 11) (by omega) (by omega), hAD (79 + 12) (by omega) (by omega), hAD (79 + 13) (by omega) (by omega), hAD (79 + 14) (by omega) (by omega), hAD (79 + 15) (by omega) (by omega), hAD (79 + 16) (by omega) (by omega), hAD (79 + 17) (by omega) (by omega), hAD (79 + 18) (by omega) (by omega), hAD (79 + 19) (by omega) (by omega), hAD (79 + 20) (by omega) (by omega), hAD (79 + 21) (by omega) (by omega), hAD (79 + 22) (by omega) (by omega), hAD (79 + 23) (by omega) (by omega), hAD (79 + 24) (by omega) (by omega), hAD (79 + 25) (by omega) (by omega), hAD (79 + 26) (by omega) (by omega)]
  · rw [h]
    simp only [gF, hM]
    rw [hc]
  · rw [h]
    simp only [gF]
    rw [hc]
    unfold rdL
    rw [hM]
theorem gKK_start {s : State} {args : Array Value} (hts : ∀ w ∈ lw_tbl, w.before args s = true) : ∃ (D : va_G) (cA cL : ClassId), ∀ (AD : Nat → Nat) (lh : Nat × Nat), gKK (D, AD, lh, (cA, cL)) s := by
  have hTB : ∀ w ∈ TB, w.before args s = true := fun w h => hts w (tb_tbl w h)
  obtain ⟨c0, i0, k0⟩ := u_known (C := RX0) (T := TX0) (N := 5) (n := 5) hTB inX0 (hTB (.instantiable RX0 5) tw_111)
  obtain ⟨c1, i1, k1⟩ := u_known (C := RX1) (T := TX1) (N := 3) (n := 3) hTB inX1 (hTB (.instantiable RX1 3) tw_72)
  obtain ⟨c2, i2, k2⟩ := u_known (C := RX2) (T := TX2) (N := 3) (n := 3) hTB inX2 (hTB (.instantiable RX2 3) tw_130)
  obtain ⟨c3, i3, k3⟩ := u_known (C := RX3) (T := TX3) (N := 9) (n := 9) hTB inX3 (hTB (.instantiable RX3 9) tw_85)
  obtain ⟨c4, i4, k4⟩ := u_known (C := RX4) (T := TX4) (N := 1) (n := 1) hTB inX4 (hTB (.instantiable RX4 1) tw_25)
  obtain ⟨c5, i5, k5⟩ := u_known (C := RX5) (T := TX5) (N := 2) (n := 2) hTB inX5 (hTB (.instantiable RX5 2) tw_20)
  obtain ⟨c6, i6, k6⟩ := u_known (C := RX6) (T := TX6) (N := 10) (n := 10) hTB inX6 (hTB (.instantiable RX6 10) tw_41)
  obtain ⟨c7, i7, k7⟩ := u_known (C := RX7) (T := TX7) (N := 14) (n := 14) hTB inX7 (hTB (.instantiable RX7 14) tw_12)
  obtain ⟨c8, i8, k8⟩ := u_known (C := RX8) (T := TX8) (N := 31) (n := 31) hTB inX8 (hTB (.instantiable RX8 31) tw_570)
  obtain ⟨cA, kA, compA, a1, a2, a3⟩ := Cond.arrayClass_spec (show (Cond.arrayClass .int).holds args s none s [] = true from hTB _ tw_35)
  obtain ⟨cL, kL, compL, b1, b2, b3⟩ := Cond.arrayClass_spec (show (Cond.arrayClass .long).holds args s none s [] = true from hTB _ tw_655)
  refine ⟨(fun k => [c0, c1, c2, c3, c4, c5, c6, c7, c8].getD k 0, fun k => [i0, i1, i2, i3, i4, i5, i6, i7, i8].getD k i0), cA, cL, fun AD lh => ⟨⟨?_, ?_⟩, fun q hq => va_Nw.of rfl (hts _ (nestF_in q hq)), fun q hq => va_Nw.of rfl (hts _ (nestM_in q hq))⟩⟩
  · intro k q hq
    match k, hq with
    | 0, hq => cases hq; exact k0
    | 1, hq => cases hq; exact k1
    | 2, hq => cases hq; exact k2
    | 3, hq => cases hq; exact k3
    | 4, hq => cases hq; exact k4
    | 5, hq => cases hq; exact k5
    | 6, hq => cases hq; exact k6
    | 7, hq => cases hq; exact k7
    | 8, hq => cases hq; exact k8
    | k + 9, hq => simp [vwCl] at hq
  · intro k q hq
    match k, hq with
    | 0, hq => cases hq; exact ⟨fun n z => ⟨fun k h => (by cases h), kA, a2, compA, a3⟩, a1⟩
    | 1, hq => cases hq; exact ⟨fun n z => ⟨fun k h => (by cases h), kL, b2, compL, b3⟩, b1⟩
    | k + 2, hq => simp at hq
abbrev dfX7 : List Value := [.null, .null, .null, .null, .null, .null, .null, .null, .null, .int 0, .null, .null, .null, .int 0]
abbrev dfX8 : List Value := [.int 0, .null, .null, .null, .null, .null, .null, .null, .null, .null, .null, .null, .null, .null, .int 0, .int 0, .null, .null, .null, .int 0, .null, .null, .null, .null, .null, .null, .null, .null, .null, .int 0, .null]
set_option maxRecDepth 100000 in
set_option maxHeartbeats 40000000 in
theorem start_of (I7 I8 : Mem → Prop) (hp7 : wX7_init I7) (hp8 : wX8_init I8) (hpr : ∀ M, I7 M → rid (M 0 1) < 79 ∧ rid (M 0 2) < 79)
    {p : Program} {e : Env} {s : State} {m : MethodId} {below : List Frame} {meth : Method} {c : Code} (l : Launch) {b L : Nat} {xs : Nat → Int32} (hst : ∀ M7 M8, I7 M7 → I8 M8 → ∃ n, wL_18 L xs n (0 : Int32) (comb M7 M8)) (hL : L ≤ 2560) (C0 : lw_At p s m meth c b L xs) : W p l e room_1 s m #[Value.ref b] below meth c s.heap [] 0 0 (lw_Z below #[Value.ref b] s) (entryFrame m ([Value.ref b] : List Value).toArray 4) := by
  obtain ⟨hx, hb, hr, hml, hown, hts, hX, hbl, hlocks, hgv⟩ := id C0
  have hTB : ∀ w ∈ TB, w.before #[Value.ref b] s = true := fun w h => hts w (tb_tbl w h)
  obtain ⟨D, cA, cL, hKK⟩ := gKK_start hts
  have C : Cn p s m #[Value.ref b] meth c (D, (fun _ => 0), (0, 0), (cA, cL)) (fun q : Nat => s.heap.size ≤ q) cL_law 4 R_law := ⟨hx, hb, hml, hown, hTB, hKK _ _, fun _ h => h, hlocks⟩
  have hbA : ¬ (fun q : Nat => s.heap.size ≤ q) b := Nat.not_le.mpr hbl
  have K : Wn p l e room_1 s m #[Value.ref b] below meth c (lw_Z below #[Value.ref b] s) (D, (fun _ => 0), (0, 0), (cA, cL)) (fun q : Nat => s.heap.size ≤ q) 4 0 0 [] 0 [(0, .ref b)] [] := by
    refine wn_new (T := TX7) (ci := 7) (fs := dfX7) C inX7 tyX7 tyX7_ok rfl tw_11 tw_12 tw_1 (fun j hj => by rcases (show j = 0 ∨ j = 1 ∨ j = 2 ∨ j = 3 ∨ j = 4 ∨ j = 5 ∨ j = 6 ∨ j = 7 ∨ j = 8 ∨ j = 9 ∨ j = 10 ∨ j = 11 ∨ j = 12 ∨ j = 13 by omega) with rfl | rfl | rfl | rfl | rfl | rfl | rfl | rfl | rfl | rfl | rfl | rfl | rfl | rfl <;> rfl) (Nat.le_of_ble_eq_true rfl) (Nat.le_of_ble_eq_true rfl) dL_law_0 (fun q0 => ?_)
    refine wn_dup C dL_law_3 rfl ?_
    intro H locs ls hP hD hS hl
    have hP : va_P D vwCl [(q0, .inr (7, dfX7))] H := hP
    have hD : va_D (fun q : Nat => s.heap.size ≤ q) [(q0, .inr (7, dfX7))] := hD
    have hFc := va_free (wc := [(q0, .inr (7, dfX7))]) hD hS (fun _ h => h) [0] rfl
    refine va_callv (va_runI (As := []) (rest := [.ref q0]) ⟨hx, hb, hml, hown, hTB⟩ (nX7_M l (D, (fun _ => 0), (0, 0), (cA, cL)) q0 H.size I7 hp7) (cwI 0 hTB (g_good yX7_init cX7_init 1 none tw_15) rfl rfl rfl (hTB _ tw_1) (hTB _ tw_13) (hTB _ tw_14) rfl hd_X7_init ⟨Nat.le_of_ble_eq_true rfl, Nat.le_of_ble_eq_true rfl⟩) ⟨fun a U g mk q => ⟨q.1, gKK.same (u := U) (U := U.calling g mk a) rfl q.2.1, q.2.2⟩, fun U hU hW => ⟨rfl, gKK.warm hW (hKK _ _), by rw [hU], by rw [hU]; exact hP, hD.weaken (fun _ _ _ _ => trivial)⟩⟩ rfl rfl hl.1 rfl (lv_room (Nat.le_of_ble_eq_true rfl)) dL_law_4 ⟨Nat.le_of_ble_eq_true rfl, Nat.le_of_ble_eq_true rfl⟩) hS (fun q _ h => hFc q h) hFc (fun u t H1 locs1 ht hvm hw hB hz1 hk1 hS1 => ?_)
    obtain ⟨hG7, hgi7, hAA7, hu0⟩ := hB
    rw [ht] at hG7
    obtain ⟨AD7, M7⟩ := u
    have hw : I7 M7 := hw
    have hu0 : AD7 0 = q0 := hu0
    have hG7 : GW (D, AD7, (0, 79), (cA, cL)) M7 H1 := hG7
    have hgi7 : gIn (D, AD7, (0, 79), (cA, cL)) := hgi7
    have hA7 : ∀ q, gA (D, AD7, (0, 79), (cA, cL)) q → s.heap.size ≤ q := fun q h => hFc q (hAA7 q h)
    have hD7 : va_D (fun q : Nat => s.heap.size ≤ q) (gl (D, AD7, (0, 79), (cA, cL)) M7) := gl_D hgi7 hA7
    refine W.widen (k := 79) (n := 1397) (Nat.le_of_ble_eq_true rfl) (Nat.le_of_ble_eq_true rfl) ?_
    refine lv_astore_n (lv' := [(1, .ref q0), (0, .ref b)]) hx hb dL_law_7 rfl hl (by decide) rfl (fun ls hl => ?_)
    refine va_new (ci := 8) (fs := dfX8) (C := RX8) (T := TX8) (N := 31) hx hb hTB inX8 tyX8 tyX8_ok hown (hTB _ tw_569) (hTB _ tw_570) (hTB _ tw_10) (hKK (fun _ => 0) (0, 0)).1 hG7 hD7 hS1 (fun _ h => h) rfl (fun j hj => by rcases (show j = 0 ∨ j = 1 ∨ j = 2 ∨ j = 3 ∨ j = 4 ∨ j = 5 ∨ j = 6 ∨ j = 7 ∨ j = 8 ∨ j = 9 ∨ j = 10 ∨ j = 11 ∨ j = 12 ∨ j = 13 ∨ j = 14 ∨ j = 15 ∨ j = 16 ∨ j = 17 ∨ j = 18 ∨ j = 19 ∨ j = 20 ∨ j = 21 ∨ j = 22 ∨ j = 23 ∨ j = 24 ∨ j = 25 ∨ j = 26 ∨ j = 27 ∨ j = 28 ∨ j = 29 ∨ j = 30 by omega) with rfl | rfl | rfl | rfl | rfl | rfl | rfl | rfl | rfl | rfl | rfl | rfl | rfl | rfl | rfl | rfl | rfl | rfl | rfl | rfl | rfl | rfl | rfl | rfl | rfl | rfl | rfl | rfl | rfl | rfl | rfl <;> rfl) (Nat.le_of_ble_eq_true rfl) (Nat.le_of_ble_eq_true rfl) dL_law_8 (fun q1 H2 hP2 hD2 hS2 => ?_)
    refine lv_dup hx hb dL_law_11 rfl ?_
    have hlen : (gl (D, AD7, (0, 79), (cA, cL)) M7).length = 79 := gl_len
    have hPq : va_P D vwCl [(q1, .inr (8, dfX8))] H2 := fun k q hk => by
      have h1 : (gl (D, AD7, (0, 79), (cA, cL)) M7 ++ [(q1, .inr (8, dfX8))])[79 + k]? = some q := by
        rw [List.getElem?_append_right (by omega), hlen, Nat.add_sub_cancel_left]
        exact hk
      exact hP2 _ _ h1
    have hq1A : s.heap.size ≤ q1 := hD2.2 79 (q1, .inr (8, dfX8)) (by rw [List.getElem?_append_right (by omega), hlen]; rfl)
    have hq1lt : q1 < H2.size := by have := (hPq 0 _ rfl).lt; exact this
    have hDq : va_D (fun _ => True) [(q1, .inr (8, dfX8))] := ⟨fun i j p q hi hj _ => by
      have h1 := (List.getElem?_eq_some_iff.mp hi).1
      have h2 := (List.getElem?_eq_some_iff.mp hj).1
      simp at h1 h2
      omega, fun _ _ _ => trivial⟩
    have hF8 : ∀ q, va_A [(q1, .inr (8, dfX8))] H2.size q → s.heap.size ≤ q := fun q h => by
      rcases h with ⟨k, ee, h⟩ | h
      · have hk : k = 0 := by have := (List.getElem?_eq_some_iff.mp h).1; simp at this; omega
        subst hk
        cases h
        exact hq1A
      · exact Nat.le_trans hS2.1 h
    have hlt7 : ∀ i, i < 79 → AD7 i < H2.size ∧ AD7 i ≠ q1 := fun i hi => by
      have hg := gl_get (G := (D, AD7, (0, 79), (cA, cL))) (M := M7) (i := i) ⟨Nat.zero_le _, hi⟩
      have h1 : (gl (D, AD7, (0, 79), (cA, cL)) M7 ++ [(q1, .inr (8, dfX8))])[i - 0]? = some (AD7 i, gc (D, AD7, (0, 79), (cA, cL)) M7 i) := by
        rw [List.getElem?_append_left (by rw [hlen]; omega)]
        exact hg
      refine ⟨(hP2 _ _ h1).lt, fun hq => ?_⟩
      have h2 : (gl (D, AD7, (0, 79), (cA, cL)) M7 ++ [(q1, .inr (8, dfX8))])[79]? = some (q1, .inr (8, dfX8)) := by
        rw [List.getElem?_append_right (by omega), hlen]; rfl
      have := hD2.1 _ _ _ _ h1 h2 hq
      omega
    refine va_callv (va_runI (As := []) (rest := [.ref q1]) ⟨hx, hb, hml, hown, hTB⟩ (nX8_M l (D, (fun _ => 0), (0, 0), (cA, cL)) q1 H2.size I8 hp8) (cwI 0 hTB (g_good yX8_init cX8_init 1 none tw_573) rfl rfl rfl (hTB _ tw_10) (hTB _ tw_571) (hTB _ tw_572) rfl hd_X8_init ⟨Nat.le_of_ble_eq_true rfl, Nat.le_of_ble_eq_true rfl⟩) ⟨fun a U g mk q => ⟨q.1, gKK.same (u := U) (U := U.calling g mk a) rfl q.2.1, q.2.2⟩, fun U hU hW => ⟨rfl, gKK.warm hW (hKK _ _), by rw [hU], by rw [hU]; exact hPq, hDq⟩⟩ rfl rfl hl.1 rfl (lv_room (Nat.le_of_ble_eq_true rfl)) dL_law_12 ⟨Nat.le_of_ble_eq_true rfl, Nat.le_of_ble_eq_true rfl⟩) hS2 (fun q _ h => hF8 q h) hF8 (fun u t H3 locs3 ht hvm hw8 hB hz3 hk3 hS3 => ?_)
    obtain ⟨hG8, hgi8, hAA8, hu8⟩ := hB
    rw [ht] at hG8
    obtain ⟨AD8, M8⟩ := u
    have hw8 : I8 M8 := hw8
    have hu8 : AD8 79 = q1 := hu8
    have hG8 : GW (D, AD8, (79, 106), (cA, cL)) M8 H3 := hG8
    have hgi8 : gIn (D, AD8, (79, 106), (cA, cL)) := hgi8
    refine W.widen (k := 106) (n := 2424) (Nat.le_of_ble_eq_true rfl) (Nat.le_of_ble_eq_true rfl) ?_
    refine lv_astore_n (lv' := [(2, .ref q1), (1, .ref q0), (0, .ref b)]) hx hb dL_law_15 rfl hl (by decide) rfl (fun ls hl => ?_)
    refine lv_iconst (v := 0) hx hb dL_law_16 (by decide) ?_
    refine lv_istore_n (lv' := [(3, .int 0), (2, .ref q1), (1, .ref q0), (0, .ref b)]) hx hb dL_law_17 rfl hl (by decide) rfl (fun ls hl => ?_)
    obtain ⟨hr1, hr2⟩ := hpr M7 hw
    obtain ⟨G, hGe⟩ : ∃ G : gP, G = (D, (fun i => if i < 79 then AD7 i else AD8 i), (0, 106), (cA, cL)) := ⟨_, rfl⟩
    have hlo : ∀ j, j < 79 → gAD G j = AD7 j := fun j h => by rw [hGe]; exact if_pos h
    have hhi : ∀ j, 79 ≤ j → gAD G j = AD8 j := fun j h => by rw [hGe]; exact if_neg (by omega)
    have hlh : G.2.2.1 = (0, 106) := by rw [hGe]
    have hcc : G.2.2.2 = (cA, cL) := by rw [hGe]
    have hG1 : G.1 = D := by rw [hGe]
    have hgI : ∀ i, gI G i ↔ i < 106 := fun i => by unfold gI; rw [hlh]; exact ⟨fun h => h.2, fun h => ⟨Nat.zero_le _, h⟩⟩
    have hold : ∀ i, i < 79 → H3[AD7 i]? = H2[AD7 i]? := fun i hi => hk3 _ (hlt7 i hi).1 (fun h => by
      rcases h with ⟨k, ee, h⟩ | h
      · have hk : k = 0 := by have := (List.getElem?_eq_some_iff.mp h).1; simp at this; omega
        subst hk
        cases h
        exact (hlt7 i hi).2 rfl
      · exact Nat.not_le.mpr (hlt7 i hi).1 h)
    have hcell : ∀ i, i < 106 → va_at G.1 vwCl (gAD G i, gc G (comb M7 M8) i) H3 := fun i hi => by
      rw [hG1]
      by_cases h79 : i < 79
      · rw [hlo i h79, gc_lo (G := (D, AD7, (0, 79), (cA, cL))) (M := M7) h79 hcc (comb_lo h79) hlo hr1 hr2]
        have hg := gl_get (G := (D, AD7, (0, 79), (cA, cL))) (M := M7) (i := i) ⟨Nat.zero_le _, h79⟩
        have h1 : (gl (D, AD7, (0, 79), (cA, cL)) M7 ++ [(q1, .inr (8, dfX8))])[i - 0]? = some (AD7 i, gc (D, AD7, (0, 79), (cA, cL)) M7 i) := by
          rw [List.getElem?_append_left (by rw [hlen]; omega)]
          exact hg
        exact (hP2 _ _ h1).kept (hold i h79)
      · rw [hhi i (by omega), gc_hi (G := (D, AD8, (79, 106), (cA, cL))) (M := M8) (by omega) hi hcc (comb_hi (by omega)) (fun j h _ => hhi j h)]
        exact hG8 _ _ (gl_get (G := (D, AD8, (79, 106), (cA, cL))) (M := M8) (i := i) ⟨by show 79 ≤ i; omega, hi⟩)
    have hGW : GW G (comb M7 M8) H3 := fun k q hk => by
      have hkl : k < 106 := by
        have := (List.getElem?_eq_some_iff.mp hk).1
        rw [gl_len, hlh] at this
        exact this
      rw [gl_at (by rw [hlh]; exact hkl), hlh] at hk
      cases hk
      rw [Nat.zero_add]
      exact hcell k hkl
    have h8out : ∀ j, 79 ≤ j → j < 106 → AD8 j = q1 ∨ H2.size ≤ AD8 j := fun j h1 h2 => by
      rcases hAA8 (AD8 j) ⟨j, ⟨h1, h2⟩, rfl⟩ with ⟨k, ee, h⟩ | h
      · have hk : k = 0 := by have := (List.getElem?_eq_some_iff.mp h).1; simp at this; omega
        subst hk
        cases h
        exact Or.inl rfl
      · exact Or.inr h
    have hg : gIn G := fun i j hi hj hij => by
      rw [hgI] at hi hj
      by_cases h1 : i < 79 <;> by_cases h2 : j < 79
      · rw [hlo i h1, hlo j h2] at hij
        exact hgi7 i j ⟨Nat.zero_le _, h1⟩ ⟨Nat.zero_le _, h2⟩ hij
      · rw [hlo i h1, hhi j (by omega)] at hij
        rcases h8out j (by omega) hj with h | h
        · exact absurd (hij.trans h) (hlt7 i h1).2
        · have := (hlt7 i h1).1; omega
      · rw [hhi i (by omega), hlo j h2] at hij
        rcases h8out i (by omega) hi with h | h
        · exact absurd (hij.symm.trans h) (hlt7 j h2).2
        · have := (hlt7 j h2).1; omega
      · rw [hhi i (by omega), hhi j (by omega)] at hij
        exact hgi8 i j ⟨by show 79 ≤ i; omega, hi⟩ ⟨by show 79 ≤ j; omega, hj⟩ hij
    have hAA : ∀ q, gA G q → s.heap.size ≤ q := fun q h => by
      obtain ⟨i, hi, rfl⟩ := h
      rw [hgI] at hi
      by_cases h1 : i < 79
      · rw [hlo i h1]; exact hA7 _ ⟨i, ⟨Nat.zero_le _, h1⟩, rfl⟩
      · rw [hhi i (by omega)]; exact hF8 _ (hAA8 _ ⟨i, ⟨by show 79 ≤ i; omega, hi⟩, rfl⟩)
    have CX : Cx p s m #[Value.ref b] meth c G (fun q : Nat => s.heap.size ≤ q) cL_law 4 R_law := ⟨hx, hb, hml, hown, hTB, by rw [hGe]; exact hKK _ _, hg, hAA, hlocks⟩
    obtain ⟨n, hn⟩ := hst M7 M8 hw hw8
    have hfin := kL_18 (e := e) (below := below) l hL hX hbl hbA hg (fun i h => (hgI i).mpr (by omega)) (fun i _ h => (hgI i).mpr h) CX hr hlocks hb (cells := 106) (slots := 2424) (Nat.le_of_ble_eq_true rfl) (Nat.le_of_ble_eq_true rfl) n (0 : Int32) (comb M7 M8) hn
    refine hfin H3 locs3 ls hGW hS3 ?_
    have e0 : gAD G 0 = q0 := (hlo 0 (by omega)).trans hu0
    have e1 : gAD G 79 = q1 := (hhi 79 (by omega)).trans hu8
    rw [e0, e1]
    exact lv_sub hl [3, 2, 1, 0] rfl
  have hl := lv_entry ([.ref b]) (n := 4) (Nat.le_of_ble_eq_true rfl)
  rw [lg_entry_eq]
  exact K s.heap [] _ (fun k q h => by simp at h) ⟨fun i j p q h => by simp at h, fun k q h => by simp at h⟩ va_S.rf hl
