/-! THE START: two books and two arrays are made, the law's body begins -/
theorem gKK_start {s : State} {args : Array Value} (hts : ∀ w ∈ lw_tbl, w.before args s = true) : ∃ (D : va_G) (cA cL : ClassId), ∀ (AD : Nat → Nat) (lh : Nat × Nat), gKK (D, AD, lh, (cA, cL)) s := by
  have hTB : ∀ w ∈ TB, w.before args s = true := fun w h => hts w (tb_tbl w h)
  obtain ⟨c0, i0, k0⟩ := u_known (C := RX0) (T := TX0) (N := 5) (n := 5) hTB inX0 (hTB (.instantiable RX0 5) tw_110)
  obtain ⟨c1, i1, k1⟩ := u_known (C := RX1) (T := TX1) (N := 3) (n := 3) hTB inX1 (hTB (.instantiable RX1 3) tw_71)
  obtain ⟨c2, i2, k2⟩ := u_known (C := RX2) (T := TX2) (N := 3) (n := 3) hTB inX2 (hTB (.instantiable RX2 3) tw_129)
  obtain ⟨c3, i3, k3⟩ := u_known (C := RX3) (T := TX3) (N := 9) (n := 9) hTB inX3 (hTB (.instantiable RX3 9) tw_84)
  obtain ⟨c4, i4, k4⟩ := u_known (C := RX4) (T := TX4) (N := 1) (n := 1) hTB inX4 (hTB (.instantiable RX4 1) tw_24)
  obtain ⟨c5, i5, k5⟩ := u_known (C := RX5) (T := TX5) (N := 2) (n := 2) hTB inX5 (hTB (.instantiable RX5 2) tw_19)
  obtain ⟨c6, i6, k6⟩ := u_known (C := RX6) (T := TX6) (N := 10) (n := 10) hTB inX6 (hTB (.instantiable RX6 10) tw_40)
  obtain ⟨c7, i7, k7⟩ := u_known (C := RX7) (T := TX7) (N := 14) (n := 14) hTB inX7 (hTB (.instantiable RX7 14) tw_11)
  obtain ⟨cA, kA, compA, a1, a2, a3⟩ := Cond.arrayClass_spec (show (Cond.arrayClass .int).holds args s none s [] = true from hTB _ tw_34)
  refine ⟨(fun k => [c0, c1, c2, c3, c4, c5, c6, c7].getD k 0, fun k => [i0, i1, i2, i3, i4, i5, i6, i7].getD k i0), cA, cA, fun AD lh => ⟨⟨?_, ?_⟩, fun q hq => va_Nw.of rfl (hts _ (nestF_in q hq)), fun q hq => va_Nw.of rfl (hts _ (nestM_in q hq))⟩⟩
  · intro k q hq
    match k, hq with
    | 0, hq => cases hq; exact k0
    | 1, hq => cases hq; exact k1
    | 2, hq => cases hq; exact k2
    | 3, hq => cases hq; exact k3
    | 4, hq => cases hq; exact k4
    | 5, hq => cases hq; exact k5
    | 6, hq => cases hq; exact k6
    | 7, hq => cases hq; exact k7
    | k + 8, hq => simp [vwCl] at hq
  · intro k q hq
    match k, hq with
    | 0, hq => cases hq; exact ⟨fun n z => ⟨fun k h => (by cases h), kA, a2, compA, a3⟩, a1⟩
    | k + 1, hq => simp at hq
abbrev dfX7 : List Value := [.null, .null, .null, .null, .null, .null, .null, .null, .null, .int 0, .null, .null, .null, .int 0]
theorem va_Pl {D : va_G} {cl : List vw_C} {a b : va_W} {H : Heap} (h : va_P D cl (a ++ b) H) : va_P D cl a H := fun k q hk => h k q (by rw [List.getElem?_append_left (List.getElem?_eq_some_iff.mp hk).1]; exact hk)
theorem va_Pr {D : va_G} {cl : List vw_C} {a b : va_W} {H : Heap} (h : va_P D cl (a ++ b) H) : va_P D cl b H := fun k q hk => h (a.length + k) q (by rw [List.getElem?_append_right (Nat.le_add_right _ _), Nat.add_sub_cancel_left]; exact hk)
theorem va_Dl {A : Nat → Prop} {a b : va_W} (h : va_D A (a ++ b)) : va_D A a := ⟨fun i j p q hi hj e => h.1 i j p q (by rw [List.getElem?_append_left (List.getElem?_eq_some_iff.mp hi).1]; exact hi) (by rw [List.getElem?_append_left (List.getElem?_eq_some_iff.mp hj).1]; exact hj) e, fun k q hk => h.2 k q (by rw [List.getElem?_append_left (List.getElem?_eq_some_iff.mp hk).1]; exact hk)⟩
theorem va_Dx {A : Nat → Prop} {a b : va_W} (h : va_D A (a ++ b)) {i j : Nat} {p q : Nat × va_E} (hi : a[i]? = some p) (hj : b[j]? = some q) : p.1 ≠ q.1 := fun e => by
  have l1 := (List.getElem?_eq_some_iff.mp hi).1
  have := h.1 i (a.length + j) p q (by rw [List.getElem?_append_left l1]; exact hi) (by rw [List.getElem?_append_right (Nat.le_add_right _ _), Nat.add_sub_cancel_left]; exact hj) e
  omega
theorem gl_mem {G : gP} {M : Mem} {k : Nat} {q : Nat × va_E} (h : (gl G M)[k]? = some q) : gA G q.1 := by
  have hl := (List.getElem?_eq_some_iff.mp h).1
  rw [gl_len] at hl
  rw [gl_at hl] at h
  cases h
  exact ⟨G.2.2.1.1 + k, ⟨by omega, by omega⟩, rfl⟩
theorem gl_of {G : gP} {M : Mem} {q : Nat} (h : gA G q) : ∃ (k : Nat) (ee : va_E), (gl G M)[k]? = some (q, ee) := by
  obtain ⟨i, hi, rfl⟩ := h
  exact ⟨_, _, gl_get hi⟩
section WNA
variable {p : Program} {l : Launch} {e : Env} {R : Room} {s : State} {m : MethodId} {args : Array Value} {below : List Frame} {meth : Method} {c : Code} {Qf : State → Prop} {G : gP} {A : Nat → Prop} {nL cells slots : Nat} {ws : va_W} {cc : ByteArray} {own : String} {pc : Nat} {lv : List (Nat × Value)} {st : List Value}
theorem wn_astore_n (C : Cn p s m args meth c G A cc nL own) {k : Fin 4} {i : Nat} {x : Nat} {lv' : List (Nat × Value)} (hdg : decode cc pc = .ok (.astore_n k, 1)) (hi : (k : Nat) = i) (hn : i < nL) (hlv : (i, Value.ref x) :: lv.filter (fun q => !(q.1 == i) && !(q.1 + 1 == i && q.2.category == 2)) = lv') (kk : Wn p l e R s m args below meth c Qf G A nL cells slots ws (pc + 1) lv' st) : Wn p l e R s m args below meth c Qf G A nL cells slots ws pc lv (.ref x :: st) := fun H locs ls hP hD hS hl => lv_astore_n C.1 C.2.1 hdg hi hl hn hlv (fun ls hl => kk H locs ls hP hD hS hl)
theorem wn_astore (C : Cn p s m args meth c G A cc nL own) {i : Nat} {x : Nat} {lv' : List (Nat × Value)} (hdg : decode cc pc = .ok (.astore i, 2)) (hn : i < nL) (hlv : (i, Value.ref x) :: lv.filter (fun q => !(q.1 == i) && !(q.1 + 1 == i && q.2.category == 2)) = lv') (kk : Wn p l e R s m args below meth c Qf G A nL cells slots ws (pc + 2) lv' st) : Wn p l e R s m args below meth c Qf G A nL cells slots ws pc lv (.ref x :: st) := fun H locs ls hP hD hS hl => lv_astore C.1 C.2.1 hdg hl hn hlv (fun ls hl => kk H locs ls hP hD hS hl)
end WNA
set_option maxRecDepth 100000 in
set_option maxHeartbeats 40000000 in
theorem start_of {p : Program} {e : Env} {s : State} {m : MethodId} {below : List Frame} {meth : Method} {c : Code} (l : Launch) {b L : Nat} {xs : Nat → Int32} (C0 : lw_At p s m meth c b L xs) {M7 M : Mem} (hq7 : ∀ Q : Mem → Prop, Q M7 → wX7_init Q) (hag : AG M7 M) (hlaw : wL_law L xs M M (fun _ => 0) (fun _ => 0)) : W p l e room_1 s m #[Value.ref b] below meth c s.heap [] 0 0 (lw_Z below #[Value.ref b] s) (entryFrame m ([Value.ref b] : List Value).toArray 11) := by
  obtain ⟨hx, hb, hr, hml, hown, hts, hX, hbl, hlocks, hgv⟩ := id C0
  have hTB : ∀ w ∈ TB, w.before #[Value.ref b] s = true := fun w h => hts w (tb_tbl w h)
  obtain ⟨D, cA, cL, hKK⟩ := gKK_start hts
  have C : Cn p s m #[Value.ref b] meth c (D, (fun _ => 0), (0, 0), (cA, cL)) (fun q : Nat => s.heap.size ≤ q) cL_law 11 R_law := ⟨hx, hb, hml, hown, hTB, hKK _ _, fun _ h => h, hlocks⟩
  have hp7 : wX7_init (fun M1 => M1 = M7) := hq7 _ rfl
  have K : Wn p l e room_1 s m #[Value.ref b] below meth c (lw_Z below #[Value.ref b] s) (D, (fun _ => 0), (0, 0), (cA, cL)) (fun q : Nat => s.heap.size ≤ q) 11 0 0 [] 0 [(0, .ref b)] [] := by
    refine wn_new (T := TX7) (ci := 7) (fs := dfX7) C inX7 tyX7 tyX7_ok rfl tw_10 tw_11 tw_1 (fun j hj => by rcases (show j = 0 ∨ j = 1 ∨ j = 2 ∨ j = 3 ∨ j = 4 ∨ j = 5 ∨ j = 6 ∨ j = 7 ∨ j = 8 ∨ j = 9 ∨ j = 10 ∨ j = 11 ∨ j = 12 ∨ j = 13 by omega) with rfl | rfl | rfl | rfl | rfl | rfl | rfl | rfl | rfl | rfl | rfl | rfl | rfl | rfl <;> rfl) (Nat.le_of_ble_eq_true rfl) (Nat.le_of_ble_eq_true rfl) dL_law_0 (fun q0 => ?_)
    refine wn_dup C dL_law_3 rfl ?_
    intro H locs ls hP hD hS hl
    have hP : va_P D vwCl [(q0, .inr (7, dfX7))] H := hP
    have hD : va_D (fun q : Nat => s.heap.size ≤ q) [(q0, .inr (7, dfX7))] := hD
    have hFc := va_free (wc := [(q0, .inr (7, dfX7))]) hD hS (fun _ h => h) [0] rfl
    refine va_callv (va_runI (As := []) (rest := [.ref q0]) ⟨hx, hb, hml, hown, hTB⟩ (nX7_M l (D, (fun _ => 0), (0, 0), (cA, cL)) q0 H.size (fun M1 => M1 = M7) hp7) (cwI 0 hTB (g_good yX7_init cX7_init 1 none tw_14) rfl rfl rfl (hTB _ tw_1) (hTB _ tw_12) (hTB _ tw_13) rfl hd_X7_init ⟨Nat.le_of_ble_eq_true rfl, Nat.le_of_ble_eq_true rfl⟩) ⟨fun a U g mk q => ⟨q.1, gKK.same (u := U) (U := U.calling g mk a) rfl q.2.1, q.2.2⟩, fun U hU hW => ⟨rfl, gKK.warm hW (hKK _ _), by rw [hU], by rw [hU]; exact hP, hD.weaken (fun _ _ _ _ => trivial)⟩⟩ rfl rfl hl.1 rfl (lv_room (Nat.le_of_ble_eq_true rfl)) dL_law_4 ⟨Nat.le_of_ble_eq_true rfl, Nat.le_of_ble_eq_true rfl⟩) hS (fun q _ h => hFc q h) hFc (fun u t H1 locs1 ht hvm hw hB hz1 hk1 hS1 => ?_)
    obtain ⟨hG7, hgi7, hAA7, hu0⟩ := hB
    rw [ht] at hG7
    obtain ⟨AD7, M7'⟩ := u
    have hw : M7' = M7 := hw
    subst hw
    have hu0 : AD7 0 = q0 := hu0
    have hG7 : GW (D, AD7, (0, 79), (cA, cL)) M7' H1 := hG7
    have hgi7 : gIn (D, AD7, (0, 79), (cA, cL)) := hgi7
    have hA7 : ∀ q, gA (D, AD7, (0, 79), (cA, cL)) q → s.heap.size ≤ q := fun q h => hFc q (hAA7 q h)
    have hD7 : va_D (fun q : Nat => s.heap.size ≤ q) (gl (D, AD7, (0, 79), (cA, cL)) M7') := gl_D hgi7 hA7
    refine W.widen (k := 79) (n := 1397) (Nat.le_of_ble_eq_true rfl) (Nat.le_of_ble_eq_true rfl) ?_
    refine lv_astore_n (lv' := [(1, .ref q0), (0, .ref b)]) hx hb dL_law_7 rfl hl (by decide) rfl (fun ls hl => ?_)
    refine va_new (ci := 7) (fs := dfX7) (C := RX7) (T := TX7) (N := 14) hx hb hTB inX7 tyX7 tyX7_ok hown (hTB _ tw_10) (hTB _ tw_11) (hTB _ tw_1) (hKK (fun _ => 0) (0, 0)).1 hG7 hD7 hS1 (fun _ h => h) rfl (fun j hj => by rcases (show j = 0 ∨ j = 1 ∨ j = 2 ∨ j = 3 ∨ j = 4 ∨ j = 5 ∨ j = 6 ∨ j = 7 ∨ j = 8 ∨ j = 9 ∨ j = 10 ∨ j = 11 ∨ j = 12 ∨ j = 13 by omega) with rfl | rfl | rfl | rfl | rfl | rfl | rfl | rfl | rfl | rfl | rfl | rfl | rfl | rfl <;> rfl) (Nat.le_of_ble_eq_true rfl) (Nat.le_of_ble_eq_true rfl) dL_law_8 (fun q1 H2 hP2 hD2 hS2 => ?_)
    refine lv_dup hx hb dL_law_11 rfl ?_
    have hPq : va_P D vwCl [(q1, .inr (7, dfX7))] H2 := va_Pr hP2
    have hq1A : s.heap.size ≤ q1 := by
      have hlen : (gl (D, AD7, (0, 79), (cA, cL)) M7').length = 79 := gl_len
      exact hD2.2 79 (q1, .inr (7, dfX7)) (by rw [List.getElem?_append_right (by omega), hlen]; rfl)
    have hq1lt : q1 < H2.size := by have := (hPq 0 _ rfl).lt; exact this
    have hDq : va_D (fun _ => True) [(q1, .inr (7, dfX7))] := ⟨fun i j p q hi hj _ => by
      have h1 := (List.getElem?_eq_some_iff.mp hi).1
      have h2 := (List.getElem?_eq_some_iff.mp hj).1
      simp at h1 h2
      omega, fun _ _ _ => trivial⟩
    have hF8 : ∀ q, va_A [(q1, .inr (7, dfX7))] H2.size q → s.heap.size ≤ q := fun q h => by
      rcases h with ⟨k, ee, h⟩ | h
      · have hk : k = 0 := by have := (List.getElem?_eq_some_iff.mp h).1; simp at this; omega
        subst hk
        cases h
        exact hq1A
      · exact Nat.le_trans hS2.1 h
    have hG7b : GW (D, AD7, (0, 79), (cA, cL)) M7' H2 := va_Pl hP2
    have hlt7 : ∀ q, gA (D, AD7, (0, 79), (cA, cL)) q → q < H2.size ∧ q ≠ q1 := fun q hq => by
      obtain ⟨k, ee, h1⟩ := gl_of (M := M7') hq
      exact ⟨(hG7b _ _ h1).lt, va_Dx (b := [(q1, .inr (7, dfX7))]) (j := 0) (q := (q1, .inr (7, dfX7))) hD2 h1 rfl⟩
    refine va_callv (va_runI (As := []) (rest := [.ref q1]) ⟨hx, hb, hml, hown, hTB⟩ (nX7_M l (D, (fun _ => 0), (0, 0), (cA, cL)) q1 H2.size (fun M1 => M1 = M7') hp7) (cwI 0 hTB (g_good yX7_init cX7_init 1 none tw_14) rfl rfl rfl (hTB _ tw_1) (hTB _ tw_12) (hTB _ tw_13) rfl hd_X7_init ⟨Nat.le_of_ble_eq_true rfl, Nat.le_of_ble_eq_true rfl⟩) ⟨fun a U g mk q => ⟨q.1, gKK.same (u := U) (U := U.calling g mk a) rfl q.2.1, q.2.2⟩, fun U hU hW => ⟨rfl, gKK.warm hW (hKK _ _), by rw [hU], by rw [hU]; exact hPq, hDq⟩⟩ rfl rfl hl.1 rfl (lv_room (Nat.le_of_ble_eq_true rfl)) dL_law_12 ⟨Nat.le_of_ble_eq_true rfl, Nat.le_of_ble_eq_true rfl⟩) hS2 (fun q _ h => hF8 q h) hF8 (fun u t H3 locs3 ht hvm hw8 hB hz3 hk3 hS3 => ?_)
    obtain ⟨hG8, hgi8, hAA8, hu8⟩ := hB
    rw [ht] at hG8
    obtain ⟨AD8, M8⟩ := u
    have hw8 : M8 = M7' := hw8
    subst hw8
    have hu8 : AD8 0 = q1 := hu8
    have hG8 : GW (D, AD8, (0, 79), (cA, cL)) M8 H3 := hG8
    have hgi8 : gIn (D, AD8, (0, 79), (cA, cL)) := hgi8
    refine W.widen (k := 158) (n := 2794) (Nat.le_of_ble_eq_true rfl) (Nat.le_of_ble_eq_true rfl) ?_
    refine lv_astore_n (lv' := [(2, .ref q1), (1, .ref q0), (0, .ref b)]) hx hb dL_law_15 rfl hl (by decide) rfl (fun ls hl => ?_)
    obtain ⟨G1, hG1e⟩ : ∃ G : gP, G = (D, AD7, (0, 79), (cA, cL)) := ⟨_, rfl⟩
    obtain ⟨G2, hG2e⟩ : ∃ G : gP, G = (D, AD8, (0, 79), (cA, cL)) := ⟨_, rfl⟩
    rw [← hG1e] at hG7b hgi7 hA7 hlt7 hD7
    rw [← hG2e] at hG8 hgi8 hAA8
    have hA8 : ∀ q, gA G2 q → s.heap.size ≤ q := fun q h => hF8 q (hAA8 q h)
    have hG7c : GW G1 M8 H3 := GW_kept hG7b fun q hq hg => hk3 q hq fun h => by
      rcases h with ⟨k, ee, h⟩ | h
      · have hk : k = 0 := by have := (List.getElem?_eq_some_iff.mp h).1; simp at this; omega
        subst hk
        cases h
        exact (hlt7 _ hg).2 rfl
      · omega
    have hap : ∀ q, gA G1 q → ¬ gA G2 q := fun q h1 h2 => by
      rcases hAA8 q h2 with ⟨k, ee, h⟩ | h
      · have hk : k = 0 := by have := (List.getElem?_eq_some_iff.mp h).1; simp at this; omega
        subst hk
        cases h
        exact (hlt7 _ h1).2 rfl
      · have := (hlt7 q h1).1; omega
    have e1 : gAD G1 0 = q0 := by rw [hG1e]; exact hu0
    have e2 : gAD G2 0 = q1 := by rw [hG2e]; exact hu8
    have g11 : G1.1 = D := by rw [hG1e]
    have g21 : G2.1 = D := by rw [hG2e]
    have g1c : G1.2.2.2 = (cA, cL) := by rw [hG1e]
    have g2c : G2.2.2.2 = (cA, cL) := by rw [hG2e]
    have g1r : G1.2.2.1 = (0, 79) := by rw [hG1e]
    have g2r : G2.2.2.1 = (0, 79) := by rw [hG2e]
    have k1 : gKK G1 s := by rw [hG1e]; exact hKK _ _
    have k2 : gKK G2 s := by rw [hG2e]; exact hKK _ _
    have hD8 : va_D (fun q : Nat => s.heap.size ≤ q) (gl G2 M8) := gl_D hgi8 hA8
    have hPw : va_P D vwCl (gl G1 M8 ++ gl G2 M8) H3 := va_P.app (by have := hG7c; unfold GW at this; rw [g11] at this; exact this) (by have := hG8; unfold GW at this; rw [g21] at this; exact this)
    have hDw : va_D (fun q : Nat => s.heap.size ≤ q) (gl G1 M8 ++ gl G2 M8) := va_D.app hD7 hD8 (fun i j p q hi hj he => hap p.1 (gl_mem hi) (by rw [he]; exact gl_mem hj))
    have K2 : Wn p l e room_1 s m #[Value.ref b] below meth c (lw_Z below #[Value.ref b] s) (D, (fun _ => 0), (0, 0), (cA, cL)) (fun q : Nat => s.heap.size ≤ q) 11 158 2794 (gl G1 M8 ++ gl G2 M8) 16 [(2, .ref q1), (1, .ref q0), (0, .ref b)] [] := by
      refine wn_bipush (v := 20) C dL_law_16 (by decide) ?_
      refine wn_newI (N := 20) C tw_34 (by decide) (by decide) (by decide) (Nat.le_of_ble_eq_true rfl) (Nat.le_of_ble_eq_true rfl) dL_law_18 (fun q2 => ?_)
      refine wn_astore_n (i := 3) (lv' := [(3, .ref q2), (2, .ref q1), (1, .ref q0), (0, .ref b)]) C dL_law_20 rfl (by decide) rfl ?_
      refine wn_bipush (v := 20) C dL_law_21 (by decide) ?_
      refine wn_newI (N := 20) C tw_34 (by decide) (by decide) (by decide) (Nat.le_of_ble_eq_true rfl) (Nat.le_of_ble_eq_true rfl) dL_law_23 (fun q3 => ?_)
      refine wn_astore (lv' := [(4, .ref q3), (3, .ref q2), (2, .ref q1), (1, .ref q0), (0, .ref b)]) C dL_law_25 (by decide) rfl ?_
      intro H locs ls hP hD hS hl
      have hP : va_P D vwCl (((gl G1 M8 ++ gl G2 M8) ++ [(q2, .inl (cA, 20, .inl (fun _ => 0)))]) ++ [(q3, .inl (cA, 20, .inl (fun _ => 0)))]) H := hP
      have hD : va_D (fun q : Nat => s.heap.size ≤ q) (((gl G1 M8 ++ gl G2 M8) ++ [(q2, .inl (cA, 20, .inl (fun _ => 0)))]) ++ [(q3, .inl (cA, 20, .inl (fun _ => 0)))]) := hD
      have hPa := va_Pl hP
      have hDa := va_Dl hD
      have hPb := va_Pl hPa
      have a2 : arB G1 q2 (fun _ => 0) H := by
        have := va_Pr hPa 0 _ rfl
        unfold arB
        rw [g11, g1c]
        exact this
      have a3 : arB G1 q3 (fun _ => 0) H := by
        have := va_Pr hP 0 _ rfl
        unfold arB
        rw [g11, g1c]
        exact this
      have w1 : GW G1 M8 H := by
        have := va_Pl hPb
        unfold GW
        rw [g11]
        exact this
      have w2 : GW G2 M8 H := by
        have := va_Pr hPb
        unfold GW
        rw [g21]
        exact this
      have in1 : ∀ q, gA G1 q → ∃ (k : Nat) (ee : va_E), (gl G1 M8 ++ gl G2 M8)[k]? = some (q, ee) := fun q hq => by
        obtain ⟨k, ee, h1⟩ := gl_of (M := M8) hq
        exact ⟨k, ee, by rw [List.getElem?_append_left (List.getElem?_eq_some_iff.mp h1).1]; exact h1⟩
      have in2 : ∀ q, gA G2 q → ∃ (k : Nat) (ee : va_E), (gl G1 M8 ++ gl G2 M8)[k]? = some (q, ee) := fun q hq => by
        obtain ⟨k, ee, h1⟩ := gl_of (M := M8) hq
        exact ⟨(gl G1 M8).length + k, ee, by rw [List.getElem?_append_right (Nat.le_add_right _ _), Nat.add_sub_cancel_left]; exact h1⟩
      have x2 : ∀ q, (∃ (k : Nat) (ee : va_E), (gl G1 M8 ++ gl G2 M8)[k]? = some (q, ee)) → q ≠ q2 := fun q ⟨k, ee, h1⟩ => va_Dx (j := 0) (q := (q2, .inl (cA, 20, .inl (fun _ => 0)))) hDa h1 rfl
      have x3 : ∀ q, (∃ (k : Nat) (ee : va_E), (gl G1 M8 ++ gl G2 M8)[k]? = some (q, ee)) → q ≠ q3 := fun q ⟨k, ee, h1⟩ => va_Dx (j := 0) (q := (q3, .inl (cA, 20, .inl (fun _ => 0)))) hD (by rw [List.getElem?_append_left (List.getElem?_eq_some_iff.mp h1).1]; exact h1) rfl
      have len0 : (((gl G1 M8 ++ gl G2 M8) ++ [(q2, .inl (cA, 20, .inl (fun _ => 0)))] : va_W))[(gl G1 M8 ++ gl G2 M8).length]? = some (q2, .inl (cA, 20, .inl (fun _ => 0))) := by rw [List.getElem?_append_right (Nat.le_refl _), Nat.sub_self]; rfl
      have n23 : q2 ≠ q3 := va_Dx (j := 0) (q := (q3, .inl (cA, 20, .inl (fun _ => 0)))) hD len0 rfl
      have y2 : s.heap.size ≤ q2 := hDa.2 _ _ len0
      have y3 : s.heap.size ≤ q3 := hD.2 ((gl G1 M8 ++ gl G2 M8) ++ [(q2, .inl (cA, 20, .inl (fun _ => 0)))] : va_W).length (q3, .inl (cA, 20, .inl (fun _ => 0))) (by rw [List.getElem?_append_right (Nat.le_refl _), Nat.sub_self]; rfl)
      have lt1 : ∀ i, gI G1 i → i < 79 := fun i h => by have := h.2; rw [g1r] at this; exact this
      have lt2 : ∀ i, gI G2 i → i < 79 := fun i h => by have := h.2; rw [g2r] at this; exact this
      have cl1 : gCl G1 := fun i h => by unfold gI; rw [g1r]; exact ⟨Nat.zero_le _, h⟩
      have cl2 : gCl G2 := fun i h => by unfold gI; rw [g2r]; exact ⟨Nat.zero_le _, h⟩
      have hLH : LH G1 G2 q2 q3 s := ⟨⟨hgi7, cl1, lt1, k1, hA7⟩, ⟨hgi8, cl2, lt2, k2, hA8⟩, ⟨by rw [g21, g11], by rw [g2c, g1c]⟩, ⟨y2, y3, n23⟩, ⟨⟨fun h => x2 _ (in1 _ h) rfl, fun h => x3 _ (in1 _ h) rfl⟩, ⟨fun h => x2 _ (in2 _ h) rfl, fun h => x3 _ (in2 _ h) rfl⟩⟩, hap⟩
      have CY : Cy p s m #[Value.ref b] meth c cL_law 11 RL := ⟨hx, hb, hml, hown, hTB, hlocks⟩
      have fin := kL_law (e := e) (below := below) (cells := 158 + 1 + 1) (slots := 2794 + 20 + 20) l G1 G2 q2 q3 b L xs hLH CY hr hlocks hb (Nat.le_of_ble_eq_true rfl) (Nat.le_of_ble_eq_true rfl) hX hbl M M (fun _ => 0) (fun _ => 0) hlaw
      refine fin H locs ls ⟨GW_ag lt1 hag w1, GW_ag lt2 hag w2, a2, a3⟩ hS ?_
      rw [e1, e2]
      exact lv_sub hl [4, 3, 2, 1, 0] rfl
    exact K2 H3 locs3 ls hPw hDw hS3 hl
  have hl := lv_entry ([.ref b]) (n := 11) (Nat.le_of_ble_eq_true rfl)
  rw [lg_entry_eq]
  exact K s.heap [] _ (fun k q h => by simp at h) ⟨fun i j p q h => by simp at h, fun k q h => by simp at h⟩ va_S.rf hl
