abbrev rmL_book : Room := { frames := 8, cells := 0, slots := 0, locals := 175 }
def wL_book_320 (L : Nat) (xs : Nat → Int32) (x2 : Int32) (k_163 : Int32 → Int32 → Mem → (Nat → Int32) → Prop) (Q : Int32 → Mem → (Nat → Int32) → Prop) (v6 : Int32) (s0 : Int32) (M : Mem) (B : Nat → Int32) : Prop := k_163 s0 (v6 + (1 : Int32)) M B
def wL_book_315 (L : Nat) (xs : Nat → Int32) (x2 : Int32) (k_163 : Int32 → Int32 → Mem → (Nat → Int32) → Prop) (Q : Int32 → Mem → (Nat → Int32) → Prop) (v6 : Int32) (M : Mem) (B : Nat → Int32) : Prop := wL_book_320 L xs x2 (k_163) Q v6 (1 : Int32) M B
def wL_book_319 (L : Nat) (xs : Nat → Int32) (x2 : Int32) (k_163 : Int32 → Int32 → Mem → (Nat → Int32) → Prop) (Q : Int32 → Mem → (Nat → Int32) → Prop) (v6 : Int32) (M : Mem) (B : Nat → Int32) : Prop := wL_book_320 L xs x2 (k_163) Q v6 (0 : Int32) M B
def wL_book_270 (L : Nat) (xs : Nat → Int32) (x2 : Int32) (k_163 : Int32 → Int32 → Mem → (Nat → Int32) → Prop) (Q : Int32 → Mem → (Nat → Int32) → Prop) (v5 : Int32) (v6 : Int32) (v7 : Int32) (M : Mem) (B : Nat → Int32) : Prop := (vp_in (0 : Int32) 20 ∧ (¬ (B (0 : Int32).toNatClampNeg) = 0 ∧ (vp_in ((5 : Int32) + v6) 20 ∧ ((v5 = 0 → wL_book_319 L xs x2 (k_163) Q v6 M (upd B ((5 : Int32) + v6).toNatClampNeg (someV (v7 >>> ((9 : Int32) &&& 31)) (B (0 : Int32).toNatClampNeg)))) ∧ (¬ v5 = 0 → (vp_in (4 : Int32) 20 ∧ ((((upd B ((5 : Int32) + v6).toNatClampNeg (someV (v7 >>> ((9 : Int32) &&& 31)) (B (0 : Int32).toNatClampNeg))) (4 : Int32).toNatClampNeg) ≤ v6 → wL_book_315 L xs x2 (k_163) Q v6 M (upd B ((5 : Int32) + v6).toNatClampNeg (someV (v7 >>> ((9 : Int32) &&& 31)) (B (0 : Int32).toNatClampNeg)))) ∧ (¬ ((upd B ((5 : Int32) + v6).toNatClampNeg (someV (v7 >>> ((9 : Int32) &&& 31)) (B (0 : Int32).toNatClampNeg))) (4 : Int32).toNatClampNeg) ≤ v6 → (vp_in ((5 : Int32) + v6) 20 ∧ (wL_one (116 : Int32) ((upd B ((5 : Int32) + v6).toNatClampNeg (someV (v7 >>> ((9 : Int32) &&& 31)) (B (0 : Int32).toNatClampNeg))) ((5 : Int32) + v6).toNatClampNeg) M (fun r24 M25 => ∃ M26, AG M25 M26 ∧ ((r24 = 0 → wL_book_319 L xs x2 (k_163) Q v6 M26 (upd B ((5 : Int32) + v6).toNatClampNeg (someV (v7 >>> ((9 : Int32) &&& 31)) (B (0 : Int32).toNatClampNeg)))) ∧ (¬ r24 = 0 → wL_book_315 L xs x2 (k_163) Q v6 M26 (upd B ((5 : Int32) + v6).toNatClampNeg (someV (v7 >>> ((9 : Int32) &&& 31)) (B (0 : Int32).toNatClampNeg))))))))))))))))
def wL_book_268 (L : Nat) (xs : Nat → Int32) (x2 : Int32) (k_163 : Int32 → Int32 → Mem → (Nat → Int32) → Prop) (Q : Int32 → Mem → (Nat → Int32) → Prop) (v6 : Int32) (v7 : Int32) (s0 : Int32) (M : Mem) (B : Nat → Int32) : Prop := wL_book_270 L xs x2 (k_163) Q s0 v6 v7 M B
def wL_book_267 (L : Nat) (xs : Nat → Int32) (x2 : Int32) (k_163 : Int32 → Int32 → Mem → (Nat → Int32) → Prop) (Q : Int32 → Mem → (Nat → Int32) → Prop) (v6 : Int32) (v7 : Int32) (M : Mem) (B : Nat → Int32) : Prop := wL_book_268 L xs x2 (k_163) Q v6 v7 (0 : Int32) M B
def wL_book_357 (L : Nat) (xs : Nat → Int32) (x2 : Int32) (Q : Int32 → Mem → (Nat → Int32) → Prop) (s0 : Int32) (M : Mem) (B : Nat → Int32) : Prop := ((s0 = 0 ∨ s0 = 1) ∧ Q s0 M B)
def wL_book_356 (L : Nat) (xs : Nat → Int32) (x2 : Int32) (Q : Int32 → Mem → (Nat → Int32) → Prop) (M : Mem) (B : Nat → Int32) : Prop := wL_book_357 L xs x2 Q (0 : Int32) M B
def wL_book_163 (L : Nat) (xs : Nat → Int32) (x2 : Int32) (Q : Int32 → Mem → (Nat → Int32) → Prop) : Nat → Int32 → Int32 → Mem → (Nat → Int32) → Prop
  | 0, _, _, _, _ => False
  | n + 1, v5, v6, M, B => (((4 : Int32) ≤ v6 → ((v5 = 0 → wL_book_356 L xs x2 Q M B) ∧ (¬ v5 = 0 → (wX7_fault M (fun r15 M16 => ∃ M17, AG M16 M17 ∧ ((¬ r15 = (-4 : Int32) → wL_book_356 L xs x2 Q M17 B) ∧ (r15 = (-4 : Int32) → (wX7_lay M17 (fun r18 M19 => ∃ M20, AG M19 M20 ∧ (vp_in (0 : Int32) 20 ∧ ((¬ r18 = (B (0 : Int32).toNatClampNeg) → wL_book_356 L xs x2 Q M20 B) ∧ (r18 = (B (0 : Int32).toNatClampNeg) → wL_book_357 L xs x2 Q (1 : Int32) M20 B)))))))))))) ∧ (¬ (4 : Int32) ≤ v6 → ((¬ Int32.ofNat L ≤ ((x2 + (1 : Int32)) + v6) → vp_in ((x2 + (1 : Int32)) + v6) L) ∧ (vp_in (0 : Int32) 20 ∧ (¬ (B (0 : Int32).toNatClampNeg) = 0 ∧ (vp_in (0 : Int32) 20 ∧ (¬ (B (0 : Int32).toNatClampNeg) = 0 ∧ ((¬ (((cellV L xs ((x2 + (1 : Int32)) + v6)) >>> ((8 : Int32) &&& 31)) &&& (1 : Int32)) = 0 → wL_book_270 L xs x2 (wL_book_163 L xs x2 Q n) Q v5 v6 (cellV L xs ((x2 + (1 : Int32)) + v6)) M B) ∧ ((((cellV L xs ((x2 + (1 : Int32)) + v6)) >>> ((8 : Int32) &&& 31)) &&& (1 : Int32)) = 0 → (vp_in ((9 : Int32) + (someV (cellV L xs ((x2 + (1 : Int32)) + v6)) (B (0 : Int32).toNatClampNeg))) 20 ∧ (vp_in ((9 : Int32) + (someV ((cellV L xs ((x2 + (1 : Int32)) + v6)) >>> ((4 : Int32) &&& 31)) (B (0 : Int32).toNatClampNeg))) 20 ∧ (vp_in ((9 : Int32) + (someV (cellV L xs ((x2 + (1 : Int32)) + v6)) (B (0 : Int32).toNatClampNeg))) 20 ∧ (vp_in ((9 : Int32) + (someV ((cellV L xs ((x2 + (1 : Int32)) + v6)) >>> ((4 : Int32) &&& 31)) (B (0 : Int32).toNatClampNeg))) 20 ∧ ((v5 = 0 → wL_book_267 L xs x2 (wL_book_163 L xs x2 Q n) Q v6 (cellV L xs ((x2 + (1 : Int32)) + v6)) M (upd (upd B ((9 : Int32) + (someV (cellV L xs ((x2 + (1 : Int32)) + v6)) (B (0 : Int32).toNatClampNeg))).toNatClampNeg (B ((9 : Int32) + (someV ((cellV L xs ((x2 + (1 : Int32)) + v6)) >>> ((4 : Int32) &&& 31)) (B (0 : Int32).toNatClampNeg))).toNatClampNeg)) ((9 : Int32) + (someV ((cellV L xs ((x2 + (1 : Int32)) + v6)) >>> ((4 : Int32) &&& 31)) (B (0 : Int32).toNatClampNeg))).toNatClampNeg (B ((9 : Int32) + (someV (cellV L xs ((x2 + (1 : Int32)) + v6)) (B (0 : Int32).toNatClampNeg))).toNatClampNeg))) ∧ (¬ v5 = 0 → (wL_two (115 : Int32) (someV (cellV L xs ((x2 + (1 : Int32)) + v6)) (B (0 : Int32).toNatClampNeg)) (someV ((cellV L xs ((x2 + (1 : Int32)) + v6)) >>> ((4 : Int32) &&& 31)) (B (0 : Int32).toNatClampNeg)) M (fun r21 M22 => ∃ M23, AG M22 M23 ∧ ((r21 = 0 → wL_book_267 L xs x2 (wL_book_163 L xs x2 Q n) Q v6 (cellV L xs ((x2 + (1 : Int32)) + v6)) M23 (upd (upd B ((9 : Int32) + (someV (cellV L xs ((x2 + (1 : Int32)) + v6)) (B (0 : Int32).toNatClampNeg))).toNatClampNeg (B ((9 : Int32) + (someV ((cellV L xs ((x2 + (1 : Int32)) + v6)) >>> ((4 : Int32) &&& 31)) (B (0 : Int32).toNatClampNeg))).toNatClampNeg)) ((9 : Int32) + (someV ((cellV L xs ((x2 + (1 : Int32)) + v6)) >>> ((4 : Int32) &&& 31)) (B (0 : Int32).toNatClampNeg))).toNatClampNeg (B ((9 : Int32) + (someV (cellV L xs ((x2 + (1 : Int32)) + v6)) (B (0 : Int32).toNatClampNeg))).toNatClampNeg))) ∧ (¬ r21 = 0 → wL_book_268 L xs x2 (wL_book_163 L xs x2 Q n) Q v6 (cellV L xs ((x2 + (1 : Int32)) + v6)) (1 : Int32) M23 (upd (upd B ((9 : Int32) + (someV (cellV L xs ((x2 + (1 : Int32)) + v6)) (B (0 : Int32).toNatClampNeg))).toNatClampNeg (B ((9 : Int32) + (someV ((cellV L xs ((x2 + (1 : Int32)) + v6)) >>> ((4 : Int32) &&& 31)) (B (0 : Int32).toNatClampNeg))).toNatClampNeg)) ((9 : Int32) + (someV ((cellV L xs ((x2 + (1 : Int32)) + v6)) >>> ((4 : Int32) &&& 31)) (B (0 : Int32).toNatClampNeg))).toNatClampNeg (B ((9 : Int32) + (someV (cellV L xs ((x2 + (1 : Int32)) + v6)) (B (0 : Int32).toNatClampNeg))).toNatClampNeg)))))))))))))))))))))
def wL_book_138 (L : Nat) (xs : Nat → Int32) (x2 : Int32) (Q : Int32 → Mem → (Nat → Int32) → Prop) : Nat → Int32 → Int32 → Mem → (Nat → Int32) → Prop
  | 0, _, _, _, _ => False
  | n + 1, v5, v6, M, B => (((9 : Int32) ≤ v6 → (∃ n14, wL_book_163 L xs x2 Q n14 v5 (0 : Int32) M B)) ∧ (¬ (9 : Int32) ≤ v6 → (vp_in ((9 : Int32) + v6) 20 ∧ wL_book_138 L xs x2 Q n v5 (v6 + (1 : Int32)) M (upd B ((9 : Int32) + v6).toNatClampNeg v6))))
def wL_book_133 (L : Nat) (xs : Nat → Int32) (x2 : Int32) (Q : Int32 → Mem → (Nat → Int32) → Prop) (s0 : Int32) (M : Mem) (B : Nat → Int32) : Prop := (∃ n13, wL_book_138 L xs x2 Q n13 s0 (0 : Int32) M B)
def wL_book_132 (L : Nat) (xs : Nat → Int32) (x2 : Int32) (Q : Int32 → Mem → (Nat → Int32) → Prop) (M : Mem) (B : Nat → Int32) : Prop := wL_book_133 L xs x2 Q (0 : Int32) M B
def wL_book_66 (L : Nat) (xs : Nat → Int32) (x2 : Int32) (Q : Int32 → Mem → (Nat → Int32) → Prop) (v4 : Int32) (s0 : Int32) (s1 : Int32) (s2 : Int32) (M : Mem) (B : Nat → Int32) : Prop := (¬ s0 = 0 ∧ (vp_in s2 20 ∧ (¬ (5 : Int32) = 0 ∧ (vp_in (4 : Int32) 20 ∧ (wX7_wipe M (fun r1 M2 => ∃ M3, AG M2 M3 ∧ ((r1 < 0 → wL_book_132 L xs x2 Q M3 (upd (upd B s2.toNatClampNeg (someV s1 s0)) (4 : Int32).toNatClampNeg (someV (v4 >>> ((12 : Int32) &&& 31)) (5 : Int32)))) ∧ (¬ r1 < 0 → (vp_in (0 : Int32) 20 ∧ (wL_one (110 : Int32) ((upd (upd B s2.toNatClampNeg (someV s1 s0)) (4 : Int32).toNatClampNeg (someV (v4 >>> ((12 : Int32) &&& 31)) (5 : Int32))) (0 : Int32).toNatClampNeg) M3 (fun r4 M5 => ∃ M6, AG M5 M6 ∧ ((r4 = 0 → wL_book_132 L xs x2 Q M6 (upd (upd B s2.toNatClampNeg (someV s1 s0)) (4 : Int32).toNatClampNeg (someV (v4 >>> ((12 : Int32) &&& 31)) (5 : Int32)))) ∧ (¬ r4 = 0 → (vp_in (1 : Int32) 20 ∧ (wL_one (114 : Int32) ((upd (upd B s2.toNatClampNeg (someV s1 s0)) (4 : Int32).toNatClampNeg (someV (v4 >>> ((12 : Int32) &&& 31)) (5 : Int32))) (1 : Int32).toNatClampNeg) M6 (fun r7 M8 => ∃ M9, AG M8 M9 ∧ ((r7 = 0 → wL_book_132 L xs x2 Q M9 (upd (upd B s2.toNatClampNeg (someV s1 s0)) (4 : Int32).toNatClampNeg (someV (v4 >>> ((12 : Int32) &&& 31)) (5 : Int32)))) ∧ (¬ r7 = 0 → (vp_in (2 : Int32) 20 ∧ (vp_in (3 : Int32) 20 ∧ (wL_two (108 : Int32) ((upd (upd B s2.toNatClampNeg (someV s1 s0)) (4 : Int32).toNatClampNeg (someV (v4 >>> ((12 : Int32) &&& 31)) (5 : Int32))) (2 : Int32).toNatClampNeg) ((upd (upd B s2.toNatClampNeg (someV s1 s0)) (4 : Int32).toNatClampNeg (someV (v4 >>> ((12 : Int32) &&& 31)) (5 : Int32))) (3 : Int32).toNatClampNeg) M9 (fun r10 M11 => ∃ M12, AG M11 M12 ∧ ((r10 = 0 → wL_book_132 L xs x2 Q M12 (upd (upd B s2.toNatClampNeg (someV s1 s0)) (4 : Int32).toNatClampNeg (someV (v4 >>> ((12 : Int32) &&& 31)) (5 : Int32)))) ∧ (¬ r10 = 0 → wL_book_133 L xs x2 Q (1 : Int32) M12 (upd (upd B s2.toNatClampNeg (someV s1 s0)) (4 : Int32).toNatClampNeg (someV (v4 >>> ((12 : Int32) &&& 31)) (5 : Int32)))))))))))))))))))))))))))
def wL_book (L : Nat) (xs : Nat → Int32) (x2 : Int32) (M : Mem) (B : Nat → Int32) (Q : Int32 → Mem → (Nat → Int32) → Prop) : Prop := ((¬ Int32.ofNat L ≤ x2 → vp_in x2 L) ∧ (¬ (8 : Int32) = 0 ∧ (vp_in (0 : Int32) 20 ∧ (¬ (8 : Int32) = 0 ∧ (vp_in (1 : Int32) 20 ∧ (vp_in (2 : Int32) 20 ∧ ((¬ ((cellV L xs x2) &&& (268435456 : Int32)) = 0 → wL_book_66 L xs x2 Q (cellV L xs x2) (12 : Int32) ((cellV L xs x2) >>> ((8 : Int32) &&& 31)) (3 : Int32) M (upd (upd (upd B (0 : Int32).toNatClampNeg ((2 : Int32) + (someV (cellV L xs x2) (8 : Int32)))) (1 : Int32).toNatClampNeg ((1 : Int32) + (someV ((cellV L xs x2) >>> ((3 : Int32) &&& 31)) (8 : Int32)))) (2 : Int32).toNatClampNeg (((cellV L xs x2) >>> ((6 : Int32) &&& 31)) &&& (3 : Int32)))) ∧ (((cellV L xs x2) &&& (268435456 : Int32)) = 0 → (vp_in (0 : Int32) 20 ∧ wL_book_66 L xs x2 Q (cellV L xs x2) ((upd (upd (upd B (0 : Int32).toNatClampNeg ((2 : Int32) + (someV (cellV L xs x2) (8 : Int32)))) (1 : Int32).toNatClampNeg ((1 : Int32) + (someV ((cellV L xs x2) >>> ((3 : Int32) &&& 31)) (8 : Int32)))) (2 : Int32).toNatClampNeg (((cellV L xs x2) >>> ((6 : Int32) &&& 31)) &&& (3 : Int32))) (0 : Int32).toNatClampNeg) ((cellV L xs x2) >>> ((8 : Int32) &&& 31)) (3 : Int32) M (upd (upd (upd B (0 : Int32).toNatClampNeg ((2 : Int32) + (someV (cellV L xs x2) (8 : Int32)))) (1 : Int32).toNatClampNeg ((1 : Int32) + (someV ((cellV L xs x2) >>> ((3 : Int32) &&& 31)) (8 : Int32)))) (2 : Int32).toNatClampNeg (((cellV L xs x2) >>> ((6 : Int32) &&& 31)) &&& (3 : Int32))))))))))))
set_option maxRecDepth 100000 in
set_option maxHeartbeats 40000000 in
theorem kL_book_320 (l : Launch) (G : gP) (ab b : Nat) (L : Nat) (xs : Nat → Int32) (x2 : Int32) (hg : gIn G) (hA : gCl G) (hlt : ∀ i, gI G i → i < 79) (hab : ¬ gA G ab) {p : Program} {e : Env} {s : State} {m : MethodId} {args : Array Value} {below : List Frame} {meth : Method} {c : Code} (C : Cy p s m args meth c cL_book 11 RL) (hr : meth.sig.returnType = (some (Jvm.ClassFile.FieldType.boolean))) (hKK : gKK G s) (hX : va_X b L xs s s.heap) (hbl : b < s.heap.size) (hbA : ¬ fB G ab b) {Q : Int32 → Mem → (Nat → Int32) → Prop} (k_163 : Int32 → Int32 → Mem → (Nat → Int32) → Prop) (hk_163 : ∀ (v5 : Int32) (v6 : Int32) (M : Mem) (B : Nat → Int32), k_163 v5 v6 M B → Wy p l e rmL_book s m args below meth c (MQ below (va_Qi (fun r (u : Mem × (Nat → Int32)) => Q r u.1 u.2) (fun u t => PB G ab u.1 u.2 t.heap) (fB G ab)) args s 0 0 (fB G ab)) (fB G ab) 11 0 0 (PB G ab M B) 163 [(0, .ref (gAD G 0)), (1, .ref b), (2, .int x2), (3, .ref ab), (5, .int v5), (6, .int v6)] []) (v6 : Int32) (s0 : Int32) (M : Mem) (B : Nat → Int32) (h : wL_book_320 L xs x2 k_163 Q v6 s0 M B) : Wy p l e rmL_book s m args below meth c (MQ below (va_Qi (fun r (u : Mem × (Nat → Int32)) => Q r u.1 u.2) (fun u t => PB G ab u.1 u.2 t.heap) (fB G ab)) args s 0 0 (fB G ab)) (fB G ab) 11 0 0 (PB G ab M B) 320 [(0, .ref (gAD G 0)), (1, .ref b), (2, .int x2), (3, .ref ab), (6, .int v6)] [.int s0] := by
  have h : k_163 s0 (v6 + (1 : Int32)) M B := h
  refine wy_istore (i := 5) (lv' := [(5, .int s0), (0, .ref (gAD G 0)), (1, .ref b), (2, .int x2), (3, .ref ab), (6, .int v6)]) C dL_book_320 (by decide) rfl ?_
  refine wy_iinc (v := (v6 + (1 : Int32))) (lv' := [(6, .int (v6 + (1 : Int32))), (5, .int s0), (0, .ref (gAD G 0)), (1, .ref b), (2, .int x2), (3, .ref ab)]) C dL_book_322 5 rfl (by rfl) (by decide) rfl ?_
  refine wy_goto C (tgt := 163) dL_book_325 (by decide) ?_
  refine wy_sub [2, 3, 4, 5, 1, 0] rfl ?_
  exact hk_163 s0 (v6 + (1 : Int32)) M B h
set_option maxRecDepth 100000 in
set_option maxHeartbeats 40000000 in
theorem kL_book_315 (l : Launch) (G : gP) (ab b : Nat) (L : Nat) (xs : Nat → Int32) (x2 : Int32) (hg : gIn G) (hA : gCl G) (hlt : ∀ i, gI G i → i < 79) (hab : ¬ gA G ab) {p : Program} {e : Env} {s : State} {m : MethodId} {args : Array Value} {below : List Frame} {meth : Method} {c : Code} (C : Cy p s m args meth c cL_book 11 RL) (hr : meth.sig.returnType = (some (Jvm.ClassFile.FieldType.boolean))) (hKK : gKK G s) (hX : va_X b L xs s s.heap) (hbl : b < s.heap.size) (hbA : ¬ fB G ab b) {Q : Int32 → Mem → (Nat → Int32) → Prop} (k_163 : Int32 → Int32 → Mem → (Nat → Int32) → Prop) (hk_163 : ∀ (v5 : Int32) (v6 : Int32) (M : Mem) (B : Nat → Int32), k_163 v5 v6 M B → Wy p l e rmL_book s m args below meth c (MQ below (va_Qi (fun r (u : Mem × (Nat → Int32)) => Q r u.1 u.2) (fun u t => PB G ab u.1 u.2 t.heap) (fB G ab)) args s 0 0 (fB G ab)) (fB G ab) 11 0 0 (PB G ab M B) 163 [(0, .ref (gAD G 0)), (1, .ref b), (2, .int x2), (3, .ref ab), (5, .int v5), (6, .int v6)] []) (v6 : Int32) (M : Mem) (B : Nat → Int32) (h : wL_book_315 L xs x2 k_163 Q v6 M B) : Wy p l e rmL_book s m args below meth c (MQ below (va_Qi (fun r (u : Mem × (Nat → Int32)) => Q r u.1 u.2) (fun u t => PB G ab u.1 u.2 t.heap) (fB G ab)) args s 0 0 (fB G ab)) (fB G ab) 11 0 0 (PB G ab M B) 315 [(0, .ref (gAD G 0)), (1, .ref b), (2, .int x2), (3, .ref ab), (6, .int v6)] [] := by
  have h : wL_book_320 L xs x2 (k_163) Q v6 (1 : Int32) M B := h
  refine wy_iconst (v := 1) C dL_book_315 (by decide) ?_
  refine wy_goto C (tgt := 320) dL_book_316 (by decide) ?_
  refine wy_sub [0, 1, 2, 3, 4] rfl ?_
  exact kL_book_320 l G ab b L xs x2 hg hA hlt hab C hr hKK hX hbl hbA (k_163) (hk_163) v6 (1 : Int32) M B h
set_option maxRecDepth 100000 in
set_option maxHeartbeats 40000000 in
theorem kL_book_319 (l : Launch) (G : gP) (ab b : Nat) (L : Nat) (xs : Nat → Int32) (x2 : Int32) (hg : gIn G) (hA : gCl G) (hlt : ∀ i, gI G i → i < 79) (hab : ¬ gA G ab) {p : Program} {e : Env} {s : State} {m : MethodId} {args : Array Value} {below : List Frame} {meth : Method} {c : Code} (C : Cy p s m args meth c cL_book 11 RL) (hr : meth.sig.returnType = (some (Jvm.ClassFile.FieldType.boolean))) (hKK : gKK G s) (hX : va_X b L xs s s.heap) (hbl : b < s.heap.size) (hbA : ¬ fB G ab b) {Q : Int32 → Mem → (Nat → Int32) → Prop} (k_163 : Int32 → Int32 → Mem → (Nat → Int32) → Prop) (hk_163 : ∀ (v5 : Int32) (v6 : Int32) (M : Mem) (B : Nat → Int32), k_163 v5 v6 M B → Wy p l e rmL_book s m args below meth c (MQ below (va_Qi (fun r (u : Mem × (Nat → Int32)) => Q r u.1 u.2) (fun u t => PB G ab u.1 u.2 t.heap) (fB G ab)) args s 0 0 (fB G ab)) (fB G ab) 11 0 0 (PB G ab M B) 163 [(0, .ref (gAD G 0)), (1, .ref b), (2, .int x2), (3, .ref ab), (5, .int v5), (6, .int v6)] []) (v6 : Int32) (M : Mem) (B : Nat → Int32) (h : wL_book_319 L xs x2 k_163 Q v6 M B) : Wy p l e rmL_book s m args below meth c (MQ below (va_Qi (fun r (u : Mem × (Nat → Int32)) => Q r u.1 u.2) (fun u t => PB G ab u.1 u.2 t.heap) (fB G ab)) args s 0 0 (fB G ab)) (fB G ab) 11 0 0 (PB G ab M B) 319 [(0, .ref (gAD G 0)), (1, .ref b), (2, .int x2), (3, .ref ab), (6, .int v6)] [] := by
  have h : wL_book_320 L xs x2 (k_163) Q v6 (0 : Int32) M B := h
  refine wy_iconst (v := 0) C dL_book_319 (by decide) ?_
  refine wy_sub [0, 1, 2, 3, 4] rfl ?_
  exact kL_book_320 l G ab b L xs x2 hg hA hlt hab C hr hKK hX hbl hbA (k_163) (hk_163) v6 (0 : Int32) M B h
set_option maxRecDepth 100000 in
set_option maxHeartbeats 40000000 in
theorem kL_book_270 (l : Launch) (G : gP) (ab b : Nat) (L : Nat) (xs : Nat → Int32) (x2 : Int32) (hg : gIn G) (hA : gCl G) (hlt : ∀ i, gI G i → i < 79) (hab : ¬ gA G ab) {p : Program} {e : Env} {s : State} {m : MethodId} {args : Array Value} {below : List Frame} {meth : Method} {c : Code} (C : Cy p s m args meth c cL_book 11 RL) (hr : meth.sig.returnType = (some (Jvm.ClassFile.FieldType.boolean))) (hKK : gKK G s) (hX : va_X b L xs s s.heap) (hbl : b < s.heap.size) (hbA : ¬ fB G ab b) {Q : Int32 → Mem → (Nat → Int32) → Prop} (k_163 : Int32 → Int32 → Mem → (Nat → Int32) → Prop) (hk_163 : ∀ (v5 : Int32) (v6 : Int32) (M : Mem) (B : Nat → Int32), k_163 v5 v6 M B → Wy p l e rmL_book s m args below meth c (MQ below (va_Qi (fun r (u : Mem × (Nat → Int32)) => Q r u.1 u.2) (fun u t => PB G ab u.1 u.2 t.heap) (fB G ab)) args s 0 0 (fB G ab)) (fB G ab) 11 0 0 (PB G ab M B) 163 [(0, .ref (gAD G 0)), (1, .ref b), (2, .int x2), (3, .ref ab), (5, .int v5), (6, .int v6)] []) (v5 : Int32) (v6 : Int32) (v7 : Int32) (M : Mem) (B : Nat → Int32) (h : wL_book_270 L xs x2 k_163 Q v5 v6 v7 M B) : Wy p l e rmL_book s m args below meth c (MQ below (va_Qi (fun r (u : Mem × (Nat → Int32)) => Q r u.1 u.2) (fun u t => PB G ab u.1 u.2 t.heap) (fB G ab)) args s 0 0 (fB G ab)) (fB G ab) 11 0 0 (PB G ab M B) 270 [(0, .ref (gAD G 0)), (1, .ref b), (2, .int x2), (3, .ref ab), (5, .int v5), (6, .int v6), (7, .int v7)] [] := by
  have h : (vp_in (0 : Int32) 20 ∧ (¬ (B (0 : Int32).toNatClampNeg) = 0 ∧ (vp_in ((5 : Int32) + v6) 20 ∧ ((v5 = 0 → wL_book_319 L xs x2 (k_163) Q v6 M (upd B ((5 : Int32) + v6).toNatClampNeg (someV (v7 >>> ((9 : Int32) &&& 31)) (B (0 : Int32).toNatClampNeg)))) ∧ (¬ v5 = 0 → (vp_in (4 : Int32) 20 ∧ ((((upd B ((5 : Int32) + v6).toNatClampNeg (someV (v7 >>> ((9 : Int32) &&& 31)) (B (0 : Int32).toNatClampNeg))) (4 : Int32).toNatClampNeg) ≤ v6 → wL_book_315 L xs x2 (k_163) Q v6 M (upd B ((5 : Int32) + v6).toNatClampNeg (someV (v7 >>> ((9 : Int32) &&& 31)) (B (0 : Int32).toNatClampNeg)))) ∧ (¬ ((upd B ((5 : Int32) + v6).toNatClampNeg (someV (v7 >>> ((9 : Int32) &&& 31)) (B (0 : Int32).toNatClampNeg))) (4 : Int32).toNatClampNeg) ≤ v6 → (vp_in ((5 : Int32) + v6) 20 ∧ (wL_one (116 : Int32) ((upd B ((5 : Int32) + v6).toNatClampNeg (someV (v7 >>> ((9 : Int32) &&& 31)) (B (0 : Int32).toNatClampNeg))) ((5 : Int32) + v6).toNatClampNeg) M (fun r24 M25 => ∃ M26, AG M25 M26 ∧ ((r24 = 0 → wL_book_319 L xs x2 (k_163) Q v6 M26 (upd B ((5 : Int32) + v6).toNatClampNeg (someV (v7 >>> ((9 : Int32) &&& 31)) (B (0 : Int32).toNatClampNeg)))) ∧ (¬ r24 = 0 → wL_book_315 L xs x2 (k_163) Q v6 M26 (upd B ((5 : Int32) + v6).toNatClampNeg (someV (v7 >>> ((9 : Int32) &&& 31)) (B (0 : Int32).toNatClampNeg)))))))))))))))) := h
  refine wy_aload_n C dL_book_270 3 rfl ?_
  refine wy_iconst (v := 5) C dL_book_271 (by decide) ?_
  refine wy_iload C dL_book_272 5 rfl ?_
  refine wy_iadd C dL_book_274 ?_
  refine wy_iload C dL_book_275 6 rfl ?_
  refine wy_bipush (v := 9) C dL_book_277 (by decide) ?_
  refine wy_ishr C dL_book_279 ?_
  refine wy_aload_n C dL_book_280 3 rfl ?_
  refine wy_iconst (v := 0) C dL_book_281 (by decide) ?_
  refine wy_ald (G := G) (B := B) C hKK (fun H h => h.2) h.1 dL_book_282 ?_
  have h := h.2
  refine wy_some (rest := [.int ((5 : Int32) + v6), .ref ab]) C h.1 dL_book_283 rfl ⟨by decide, by decide⟩ (Nat.le_of_ble_eq_true rfl) ⟨Nat.zero_le _, Nat.zero_le _⟩ PB_kp ?_
  have h := h.2
  refine wy_ast (G := G) (B := B) (Φ' := PB G ab M (upd B ((5 : Int32) + v6).toNatClampNeg (someV (v7 >>> ((9 : Int32) &&& 31)) (B (0 : Int32).toNatClampNeg)))) C hKK (fun H h => h.2) (Or.inr rfl) h.1 (PB_st hab) dL_book_286 ?_
  have h := h.2
  refine wy_iload C dL_book_287 4 rfl ?_
  refine wy_if_eq C (tgt := 319) dL_book_289 (by decide) (fun hc => ?_) (fun hc => ?_)
  · have h := h.1 hc
    refine wy_sub [0, 1, 2, 3, 5] rfl ?_
    exact kL_book_319 l G ab b L xs x2 hg hA hlt hab C hr hKK hX hbl hbA (k_163) (hk_163) v6 M (upd B ((5 : Int32) + v6).toNatClampNeg (someV (v7 >>> ((9 : Int32) &&& 31)) (B (0 : Int32).toNatClampNeg))) h
  · have h := h.2 hc
    refine wy_iload C dL_book_292 5 rfl ?_
    refine wy_aload_n C dL_book_294 3 rfl ?_
    refine wy_iconst (v := 4) C dL_book_295 (by decide) ?_
    refine wy_ald (G := G) (B := (upd B ((5 : Int32) + v6).toNatClampNeg (someV (v7 >>> ((9 : Int32) &&& 31)) (B (0 : Int32).toNatClampNeg)))) C hKK (fun H h => h.2) h.1 dL_book_296 ?_
    have h := h.2
    refine wy_icmp_ge C (tgt := 315) dL_book_297 (by decide) (fun hc => ?_) (fun hc => ?_)
    · have h := h.1 hc
      refine wy_sub [0, 1, 2, 3, 5] rfl ?_
      exact kL_book_315 l G ab b L xs x2 hg hA hlt hab C hr hKK hX hbl hbA (k_163) (hk_163) v6 M (upd B ((5 : Int32) + v6).toNatClampNeg (someV (v7 >>> ((9 : Int32) &&& 31)) (B (0 : Int32).toNatClampNeg))) h
    · have h := h.2 hc
      refine wy_aload_n C dL_book_300 0 rfl ?_
      refine wy_bipush (v := 116) C dL_book_301 (by decide) ?_
      refine wy_aload_n C dL_book_303 3 rfl ?_
      refine wy_iconst (v := 5) C dL_book_304 (by decide) ?_
      refine wy_iload C dL_book_305 5 rfl ?_
      refine wy_iadd C dL_book_307 ?_
      refine wy_ald (G := G) (B := (upd B ((5 : Int32) + v6).toNatClampNeg (someV (v7 >>> ((9 : Int32) &&& 31)) (B (0 : Int32).toNatClampNeg)))) C hKK (fun H h => h.2) h.1 dL_book_308 ?_
      have h := h.2
      refine wy_callSb (Φ1 := fun M1 => PB G ab M1 (upd B ((5 : Int32) + v6).toNatClampNeg (someV (v7 >>> ((9 : Int32) &&& 31)) (B (0 : Int32).toNatClampNeg)))) C (cL_one_M l G hg hA (116 : Int32) ((upd B ((5 : Int32) + v6).toNatClampNeg (someV (v7 >>> ((9 : Int32) &&& 31)) (B (0 : Int32).toNatClampNeg))) ((5 : Int32) + v6).toNatClampNeg) M _) h cw_RL_35 hd_L_one ⟨rfl, rfl⟩ ⟨by decide, by decide⟩ (As := [.ref (gAD G 0), .int (116 : Int32), .int ((upd B ((5 : Int32) + v6).toNatClampNeg (someV (v7 >>> ((9 : Int32) &&& 31)) (B (0 : Int32).toNatClampNeg))) ((5 : Int32) + v6).toNatClampNeg)]) (rest := []) rfl (Nat.le_of_ble_eq_true rfl) ⟨Nat.zero_le _, Nat.zero_le _⟩ rfl dL_book_309 hKK (fun q h => Or.inl h) (fun H h => h.1) (PB_back hab) (fun r24 M25 h => ?_)
      obtain ⟨M26, hag, h⟩ := h
      refine wy_gh (Φ' := PB G ab M26 (upd B ((5 : Int32) + v6).toNatClampNeg (someV (v7 >>> ((9 : Int32) &&& 31)) (B (0 : Int32).toNatClampNeg)))) (fun H hH => ⟨GW_ag hlt hag hH.1, hH.2⟩) ?_
      refine wy_if_eq C (tgt := 319) dL_book_312 (by decide) (fun hc => ?_) (fun hc => ?_)
      · have h := h.1 hc
        refine wy_sub [0, 1, 2, 3, 5] rfl ?_
        exact kL_book_319 l G ab b L xs x2 hg hA hlt hab C hr hKK hX hbl hbA (k_163) (hk_163) v6 M26 (upd B ((5 : Int32) + v6).toNatClampNeg (someV (v7 >>> ((9 : Int32) &&& 31)) (B (0 : Int32).toNatClampNeg))) h
      · have h := h.2 hc
        refine wy_sub [0, 1, 2, 3, 5] rfl ?_
        exact kL_book_315 l G ab b L xs x2 hg hA hlt hab C hr hKK hX hbl hbA (k_163) (hk_163) v6 M26 (upd B ((5 : Int32) + v6).toNatClampNeg (someV (v7 >>> ((9 : Int32) &&& 31)) (B (0 : Int32).toNatClampNeg))) h
set_option maxRecDepth 100000 in
set_option maxHeartbeats 40000000 in
theorem kL_book_268 (l : Launch) (G : gP) (ab b : Nat) (L : Nat) (xs : Nat → Int32) (x2 : Int32) (hg : gIn G) (hA : gCl G) (hlt : ∀ i, gI G i → i < 79) (hab : ¬ gA G ab) {p : Program} {e : Env} {s : State} {m : MethodId} {args : Array Value} {below : List Frame} {meth : Method} {c : Code} (C : Cy p s m args meth c cL_book 11 RL) (hr : meth.sig.returnType = (some (Jvm.ClassFile.FieldType.boolean))) (hKK : gKK G s) (hX : va_X b L xs s s.heap) (hbl : b < s.heap.size) (hbA : ¬ fB G ab b) {Q : Int32 → Mem → (Nat → Int32) → Prop} (k_163 : Int32 → Int32 → Mem → (Nat → Int32) → Prop) (hk_163 : ∀ (v5 : Int32) (v6 : Int32) (M : Mem) (B : Nat → Int32), k_163 v5 v6 M B → Wy p l e rmL_book s m args below meth c (MQ below (va_Qi (fun r (u : Mem × (Nat → Int32)) => Q r u.1 u.2) (fun u t => PB G ab u.1 u.2 t.heap) (fB G ab)) args s 0 0 (fB G ab)) (fB G ab) 11 0 0 (PB G ab M B) 163 [(0, .ref (gAD G 0)), (1, .ref b), (2, .int x2), (3, .ref ab), (5, .int v5), (6, .int v6)] []) (v6 : Int32) (v7 : Int32) (s0 : Int32) (M : Mem) (B : Nat → Int32) (h : wL_book_268 L xs x2 k_163 Q v6 v7 s0 M B) : Wy p l e rmL_book s m args below meth c (MQ below (va_Qi (fun r (u : Mem × (Nat → Int32)) => Q r u.1 u.2) (fun u t => PB G ab u.1 u.2 t.heap) (fB G ab)) args s 0 0 (fB G ab)) (fB G ab) 11 0 0 (PB G ab M B) 268 [(0, .ref (gAD G 0)), (1, .ref b), (2, .int x2), (3, .ref ab), (6, .int v6), (7, .int v7)] [.int s0] := by
  have h : wL_book_270 L xs x2 (k_163) Q s0 v6 v7 M B := h
  refine wy_istore (i := 5) (lv' := [(5, .int s0), (0, .ref (gAD G 0)), (1, .ref b), (2, .int x2), (3, .ref ab), (6, .int v6), (7, .int v7)]) C dL_book_268 (by decide) rfl ?_
  refine wy_sub [1, 2, 3, 4, 0, 5, 6] rfl ?_
  exact kL_book_270 l G ab b L xs x2 hg hA hlt hab C hr hKK hX hbl hbA (k_163) (hk_163) s0 v6 v7 M B h
set_option maxRecDepth 100000 in
set_option maxHeartbeats 40000000 in
theorem kL_book_267 (l : Launch) (G : gP) (ab b : Nat) (L : Nat) (xs : Nat → Int32) (x2 : Int32) (hg : gIn G) (hA : gCl G) (hlt : ∀ i, gI G i → i < 79) (hab : ¬ gA G ab) {p : Program} {e : Env} {s : State} {m : MethodId} {args : Array Value} {below : List Frame} {meth : Method} {c : Code} (C : Cy p s m args meth c cL_book 11 RL) (hr : meth.sig.returnType = (some (Jvm.ClassFile.FieldType.boolean))) (hKK : gKK G s) (hX : va_X b L xs s s.heap) (hbl : b < s.heap.size) (hbA : ¬ fB G ab b) {Q : Int32 → Mem → (Nat → Int32) → Prop} (k_163 : Int32 → Int32 → Mem → (Nat → Int32) → Prop) (hk_163 : ∀ (v5 : Int32) (v6 : Int32) (M : Mem) (B : Nat → Int32), k_163 v5 v6 M B → Wy p l e rmL_book s m args below meth c (MQ below (va_Qi (fun r (u : Mem × (Nat → Int32)) => Q r u.1 u.2) (fun u t => PB G ab u.1 u.2 t.heap) (fB G ab)) args s 0 0 (fB G ab)) (fB G ab) 11 0 0 (PB G ab M B) 163 [(0, .ref (gAD G 0)), (1, .ref b), (2, .int x2), (3, .ref ab), (5, .int v5), (6, .int v6)] []) (v6 : Int32) (v7 : Int32) (M : Mem) (B : Nat → Int32) (h : wL_book_267 L xs x2 k_163 Q v6 v7 M B) : Wy p l e rmL_book s m args below meth c (MQ below (va_Qi (fun r (u : Mem × (Nat → Int32)) => Q r u.1 u.2) (fun u t => PB G ab u.1 u.2 t.heap) (fB G ab)) args s 0 0 (fB G ab)) (fB G ab) 11 0 0 (PB G ab M B) 267 [(0, .ref (gAD G 0)), (1, .ref b), (2, .int x2), (3, .ref ab), (6, .int v6), (7, .int v7)] [] := by
  have h : wL_book_268 L xs x2 (k_163) Q v6 v7 (0 : Int32) M B := h
  refine wy_iconst (v := 0) C dL_book_267 (by decide) ?_
  refine wy_sub [0, 1, 2, 3, 4, 5] rfl ?_
  exact kL_book_268 l G ab b L xs x2 hg hA hlt hab C hr hKK hX hbl hbA (k_163) (hk_163) v6 v7 (0 : Int32) M B h
set_option maxRecDepth 100000 in
set_option maxHeartbeats 40000000 in
theorem kL_book_357 (l : Launch) (G : gP) (ab b : Nat) (L : Nat) (xs : Nat → Int32) (x2 : Int32) (hg : gIn G) (hA : gCl G) (hlt : ∀ i, gI G i → i < 79) (hab : ¬ gA G ab) {p : Program} {e : Env} {s : State} {m : MethodId} {args : Array Value} {below : List Frame} {meth : Method} {c : Code} (C : Cy p s m args meth c cL_book 11 RL) (hr : meth.sig.returnType = (some (Jvm.ClassFile.FieldType.boolean))) (hKK : gKK G s) (hX : va_X b L xs s s.heap) (hbl : b < s.heap.size) (hbA : ¬ fB G ab b) {Q : Int32 → Mem → (Nat → Int32) → Prop} (s0 : Int32) (M : Mem) (B : Nat → Int32) (h : wL_book_357 L xs x2 Q s0 M B) : Wy p l e rmL_book s m args below meth c (MQ below (va_Qi (fun r (u : Mem × (Nat → Int32)) => Q r u.1 u.2) (fun u t => PB G ab u.1 u.2 t.heap) (fB G ab)) args s 0 0 (fB G ab)) (fB G ab) 11 0 0 (PB G ab M B) 357 [] [.int s0] := by
  have h : ((s0 = 0 ∨ s0 = 1) ∧ Q s0 M B) := h
  exact wy_zret C hr (u := (M, B)) h.1 h.2 (fun t h => h) dL_book_357
set_option maxRecDepth 100000 in
set_option maxHeartbeats 40000000 in
theorem kL_book_356 (l : Launch) (G : gP) (ab b : Nat) (L : Nat) (xs : Nat → Int32) (x2 : Int32) (hg : gIn G) (hA : gCl G) (hlt : ∀ i, gI G i → i < 79) (hab : ¬ gA G ab) {p : Program} {e : Env} {s : State} {m : MethodId} {args : Array Value} {below : List Frame} {meth : Method} {c : Code} (C : Cy p s m args meth c cL_book 11 RL) (hr : meth.sig.returnType = (some (Jvm.ClassFile.FieldType.boolean))) (hKK : gKK G s) (hX : va_X b L xs s s.heap) (hbl : b < s.heap.size) (hbA : ¬ fB G ab b) {Q : Int32 → Mem → (Nat → Int32) → Prop} (M : Mem) (B : Nat → Int32) (h : wL_book_356 L xs x2 Q M B) : Wy p l e rmL_book s m args below meth c (MQ below (va_Qi (fun r (u : Mem × (Nat → Int32)) => Q r u.1 u.2) (fun u t => PB G ab u.1 u.2 t.heap) (fB G ab)) args s 0 0 (fB G ab)) (fB G ab) 11 0 0 (PB G ab M B) 356 [] [] := by
  have h : wL_book_357 L xs x2 Q (0 : Int32) M B := h
  refine wy_iconst (v := 0) C dL_book_356 (by decide) ?_
  refine wy_sub [] rfl ?_
  exact kL_book_357 l G ab b L xs x2 hg hA hlt hab C hr hKK hX hbl hbA (0 : Int32) M B h
set_option maxRecDepth 100000 in
set_option maxHeartbeats 40000000 in
theorem kL_book_163 (l : Launch) (G : gP) (ab b : Nat) (L : Nat) (xs : Nat → Int32) (x2 : Int32) (hg : gIn G) (hA : gCl G) (hlt : ∀ i, gI G i → i < 79) (hab : ¬ gA G ab) {p : Program} {e : Env} {s : State} {m : MethodId} {args : Array Value} {below : List Frame} {meth : Method} {c : Code} (C : Cy p s m args meth c cL_book 11 RL) (hr : meth.sig.returnType = (some (Jvm.ClassFile.FieldType.boolean))) (hKK : gKK G s) (hX : va_X b L xs s s.heap) (hbl : b < s.heap.size) (hbA : ¬ fB G ab b) {Q : Int32 → Mem → (Nat → Int32) → Prop} : ∀ (n : Nat) (v5 : Int32) (v6 : Int32) (M : Mem) (B : Nat → Int32), wL_book_163 L xs x2 Q n v5 v6 M B → Wy p l e rmL_book s m args below meth c (MQ below (va_Qi (fun r (u : Mem × (Nat → Int32)) => Q r u.1 u.2) (fun u t => PB G ab u.1 u.2 t.heap) (fB G ab)) args s 0 0 (fB G ab)) (fB G ab) 11 0 0 (PB G ab M B) 163 [(0, .ref (gAD G 0)), (1, .ref b), (2, .int x2), (3, .ref ab), (5, .int v5), (6, .int v6)] [] := by
  intro n
  induction n with
  | zero => intro v5 v6 M B h; exact h.elim
  | succ n ih =>
    intro v5 v6 M B h
    have h : (((4 : Int32) ≤ v6 → ((v5 = 0 → wL_book_356 L xs x2 Q M B) ∧ (¬ v5 = 0 → (wX7_fault M (fun r15 M16 => ∃ M17, AG M16 M17 ∧ ((¬ r15 = (-4 : Int32) → wL_book_356 L xs x2 Q M17 B) ∧ (r15 = (-4 : Int32) → (wX7_lay M17 (fun r18 M19 => ∃ M20, AG M19 M20 ∧ (vp_in (0 : Int32) 20 ∧ ((¬ r18 = (B (0 : Int32).toNatClampNeg) → wL_book_356 L xs x2 Q M20 B) ∧ (r18 = (B (0 : Int32).toNatClampNeg) → wL_book_357 L xs x2 Q (1 : Int32) M20 B)))))))))))) ∧ (¬ (4 : Int32) ≤ v6 → ((¬ Int32.ofNat L ≤ ((x2 + (1 : Int32)) + v6) → vp_in ((x2 + (1 : Int32)) + v6) L) ∧ (vp_in (0 : Int32) 20 ∧ (¬ (B (0 : Int32).toNatClampNeg) = 0 ∧ (vp_in (0 : Int32) 20 ∧ (¬ (B (0 : Int32).toNatClampNeg) = 0 ∧ ((¬ (((cellV L xs ((x2 + (1 : Int32)) + v6)) >>> ((8 : Int32) &&& 31)) &&& (1 : Int32)) = 0 → wL_book_270 L xs x2 (wL_book_163 L xs x2 Q n) Q v5 v6 (cellV L xs ((x2 + (1 : Int32)) + v6)) M B) ∧ ((((cellV L xs ((x2 + (1 : Int32)) + v6)) >>> ((8 : Int32) &&& 31)) &&& (1 : Int32)) = 0 → (vp_in ((9 : Int32) + (someV (cellV L xs ((x2 + (1 : Int32)) + v6)) (B (0 : Int32).toNatClampNeg))) 20 ∧ (vp_in ((9 : Int32) + (someV ((cellV L xs ((x2 + (1 : Int32)) + v6)) >>> ((4 : Int32) &&& 31)) (B (0 : Int32).toNatClampNeg))) 20 ∧ (vp_in ((9 : Int32) + (someV (cellV L xs ((x2 + (1 : Int32)) + v6)) (B (0 : Int32).toNatClampNeg))) 20 ∧ (vp_in ((9 : Int32) + (someV ((cellV L xs ((x2 + (1 : Int32)) + v6)) >>> ((4 : Int32) &&& 31)) (B (0 : Int32).toNatClampNeg))) 20 ∧ ((v5 = 0 → wL_book_267 L xs x2 (wL_book_163 L xs x2 Q n) Q v6 (cellV L xs ((x2 + (1 : Int32)) + v6)) M (upd (upd B ((9 : Int32) + (someV (cellV L xs ((x2 + (1 : Int32)) + v6)) (B (0 : Int32).toNatClampNeg))).toNatClampNeg (B ((9 : Int32) + (someV ((cellV L xs ((x2 + (1 : Int32)) + v6)) >>> ((4 : Int32) &&& 31)) (B (0 : Int32).toNatClampNeg))).toNatClampNeg)) ((9 : Int32) + (someV ((cellV L xs ((x2 + (1 : Int32)) + v6)) >>> ((4 : Int32) &&& 31)) (B (0 : Int32).toNatClampNeg))).toNatClampNeg (B ((9 : Int32) + (someV (cellV L xs ((x2 + (1 : Int32)) + v6)) (B (0 : Int32).toNatClampNeg))).toNatClampNeg))) ∧ (¬ v5 = 0 → (wL_two (115 : Int32) (someV (cellV L xs ((x2 + (1 : Int32)) + v6)) (B (0 : Int32).toNatClampNeg)) (someV ((cellV L xs ((x2 + (1 : Int32)) + v6)) >>> ((4 : Int32) &&& 31)) (B (0 : Int32).toNatClampNeg)) M (fun r21 M22 => ∃ M23, AG M22 M23 ∧ ((r21 = 0 → wL_book_267 L xs x2 (wL_book_163 L xs x2 Q n) Q v6 (cellV L xs ((x2 + (1 : Int32)) + v6)) M23 (upd (upd B ((9 : Int32) + (someV (cellV L xs ((x2 + (1 : Int32)) + v6)) (B (0 : Int32).toNatClampNeg))).toNatClampNeg (B ((9 : Int32) + (someV ((cellV L xs ((x2 + (1 : Int32)) + v6)) >>> ((4 : Int32) &&& 31)) (B (0 : Int32).toNatClampNeg))).toNatClampNeg)) ((9 : Int32) + (someV ((cellV L xs ((x2 + (1 : Int32)) + v6)) >>> ((4 : Int32) &&& 31)) (B (0 : Int32).toNatClampNeg))).toNatClampNeg (B ((9 : Int32) + (someV (cellV L xs ((x2 + (1 : Int32)) + v6)) (B (0 : Int32).toNatClampNeg))).toNatClampNeg))) ∧ (¬ r21 = 0 → wL_book_268 L xs x2 (wL_book_163 L xs x2 Q n) Q v6 (cellV L xs ((x2 + (1 : Int32)) + v6)) (1 : Int32) M23 (upd (upd B ((9 : Int32) + (someV (cellV L xs ((x2 + (1 : Int32)) + v6)) (B (0 : Int32).toNatClampNeg))).toNatClampNeg (B ((9 : Int32) + (someV ((cellV L xs ((x2 + (1 : Int32)) + v6)) >>> ((4 : Int32) &&& 31)) (B (0 : Int32).toNatClampNeg))).toNatClampNeg)) ((9 : Int32) + (someV ((cellV L xs ((x2 + (1 : Int32)) + v6)) >>> ((4 : Int32) &&& 31)) (B (0 : Int32).toNatClampNeg))).toNatClampNeg (B ((9 : Int32) + (someV (cellV L xs ((x2 + (1 : Int32)) + v6)) (B (0 : Int32).toNatClampNeg))).toNatClampNeg))))))))))))))))))))) := h
    refine wy_iload C dL_book_163 5 rfl ?_
    refine wy_iconst (v := 4) C dL_book_165 (by decide) ?_
    refine wy_icmp_ge C (tgt := 328) dL_book_166 (by decide) (fun hc => ?_) (fun hc => ?_)
    · have h := h.1 hc
      refine wy_iload C dL_book_328 4 rfl ?_
      refine wy_if_eq C (tgt := 356) dL_book_330 (by decide) (fun hc => ?_) (fun hc => ?_)
      · have h := h.1 hc
        refine wy_sub [] rfl ?_
        exact kL_book_356 l G ab b L xs x2 hg hA hlt hab C hr hKK hX hbl hbA M B h
      · have h := h.2 hc
        refine wy_aload_n C dL_book_333 0 rfl ?_
        refine wy_callVi (Φ1 := fun (u : Mem) => (PB G ab u B)) C (cX7_fault_M l G hg hA M _) h cw_RL_42 hd_X7_fault ⟨rfl, rfl⟩ ⟨by decide, by decide⟩ (hA 0 (by decide)) (gc_k kq_0) rfl (As := []) (rest := []) rfl (Nat.le_of_ble_eq_true rfl) ⟨Nat.zero_le _, Nat.zero_le _⟩ rfl dL_book_334 hKK (fun q h => Or.inl h) (fun H h => h.1) (PB_back hab) (fun r15 M16 h => ?_)
        obtain ⟨M17, hag, h⟩ := h
        refine wy_gh (Φ' := (PB G ab M17 B)) (fun H hH => ⟨GW_ag hlt hag hH.1, hH.2⟩) ?_
        refine wy_bipush (v := (-4)) C dL_book_337 (by decide) ?_
        refine wy_icmp_ne C (tgt := 356) dL_book_339 (by decide) (fun hc => ?_) (fun hc => ?_)
        · have h := h.1 hc
          refine wy_sub [] rfl ?_
          exact kL_book_356 l G ab b L xs x2 hg hA hlt hab C hr hKK hX hbl hbA M17 B h
        · have h := h.2 hc
          refine wy_aload_n C dL_book_342 0 rfl ?_
          refine wy_callVi (Φ1 := fun (u : Mem) => (PB G ab u B)) C (cX7_lay_M l G hg hA M17 _) h cw_RL_45 hd_X7_lay ⟨rfl, rfl⟩ ⟨by decide, by decide⟩ (hA 0 (by decide)) (gc_k kq_0) rfl (As := []) (rest := []) rfl (Nat.le_of_ble_eq_true rfl) ⟨Nat.zero_le _, Nat.zero_le _⟩ rfl dL_book_343 hKK (fun q h => Or.inl h) (fun H h => h.1) (PB_back hab) (fun r18 M19 h => ?_)
          obtain ⟨M20, hag, h⟩ := h
          refine wy_gh (Φ' := (PB G ab M20 B)) (fun H hH => ⟨GW_ag hlt hag hH.1, hH.2⟩) ?_
          refine wy_aload_n C dL_book_346 3 rfl ?_
          refine wy_iconst (v := 0) C dL_book_347 (by decide) ?_
          refine wy_ald (G := G) (B := B) C hKK (fun H h => h.2) h.1 dL_book_348 ?_
          have h := h.2
          refine wy_icmp_ne C (tgt := 356) dL_book_349 (by decide) (fun hc => ?_) (fun hc => ?_)
          · have h := h.1 hc
            refine wy_sub [] rfl ?_
            exact kL_book_356 l G ab b L xs x2 hg hA hlt hab C hr hKK hX hbl hbA M20 B h
          · have h := h.2 hc
            refine wy_iconst (v := 1) C dL_book_352 (by decide) ?_
            refine wy_goto C (tgt := 357) dL_book_353 (by decide) ?_
            refine wy_sub [] rfl ?_
            exact kL_book_357 l G ab b L xs x2 hg hA hlt hab C hr hKK hX hbl hbA (1 : Int32) M20 B h
    · have h := h.2 hc
      refine wy_aload_n C dL_book_169 1 rfl ?_
      refine wy_iload_n C dL_book_170 2 rfl ?_
      refine wy_iconst (v := 1) C dL_book_171 (by decide) ?_
      refine wy_iadd C dL_book_172 ?_
      refine wy_iload C dL_book_173 5 rfl ?_
      refine wy_iadd C dL_book_175 ?_
      refine wy_cell (rest := []) C h.1 hX hbl hbA dL_book_176 rfl ⟨by decide, by decide⟩ (Nat.le_of_ble_eq_true rfl) ⟨Nat.zero_le _, Nat.zero_le _⟩ PB_kp ?_
      have h := h.2
      refine wy_istore (i := 7) (lv' := [(7, .int (cellV L xs ((x2 + (1 : Int32)) + v6))), (0, .ref (gAD G 0)), (1, .ref b), (2, .int x2), (3, .ref ab), (5, .int v5), (6, .int v6)]) C dL_book_179 (by decide) rfl ?_
      refine wy_iload C dL_book_181 0 rfl ?_
      refine wy_aload_n C dL_book_183 4 rfl ?_
      refine wy_iconst (v := 0) C dL_book_184 (by decide) ?_
      refine wy_ald (G := G) (B := B) C hKK (fun H h => h.2) h.1 dL_book_185 ?_
      have h := h.2
      refine wy_some (rest := []) C h.1 dL_book_186 rfl ⟨by decide, by decide⟩ (Nat.le_of_ble_eq_true rfl) ⟨Nat.zero_le _, Nat.zero_le _⟩ PB_kp ?_
      have h := h.2
      refine wy_istore (i := 8) (lv' := [(8, .int (someV (cellV L xs ((x2 + (1 : Int32)) + v6)) (B (0 : Int32).toNatClampNeg))), (7, .int (cellV L xs ((x2 + (1 : Int32)) + v6))), (0, .ref (gAD G 0)), (1, .ref b), (2, .int x2), (3, .ref ab), (5, .int v5), (6, .int v6)]) C dL_book_189 (by decide) rfl ?_
      refine wy_iload C dL_book_191 1 rfl ?_
      refine wy_iconst (v := 4) C dL_book_193 (by decide) ?_
      refine wy_ishr C dL_book_194 ?_
      refine wy_aload_n C dL_book_195 5 rfl ?_
      refine wy_iconst (v := 0) C dL_book_196 (by decide) ?_
      refine wy_ald (G := G) (B := B) C hKK (fun H h => h.2) h.1 dL_book_197 ?_
      have h := h.2
      refine wy_some (rest := []) C h.1 dL_book_198 rfl ⟨by decide, by decide⟩ (Nat.le_of_ble_eq_true rfl) ⟨Nat.zero_le _, Nat.zero_le _⟩ PB_kp ?_
      have h := h.2
      refine wy_istore (i := 9) (lv' := [(9, .int (someV ((cellV L xs ((x2 + (1 : Int32)) + v6)) >>> ((4 : Int32) &&& 31)) (B (0 : Int32).toNatClampNeg))), (8, .int (someV (cellV L xs ((x2 + (1 : Int32)) + v6)) (B (0 : Int32).toNatClampNeg))), (7, .int (cellV L xs ((x2 + (1 : Int32)) + v6))), (0, .ref (gAD G 0)), (1, .ref b), (2, .int x2), (3, .ref ab), (5, .int v5), (6, .int v6)]) C dL_book_201 (by decide) rfl ?_
      refine wy_iload C dL_book_203 2 rfl ?_
      refine wy_bipush (v := 8) C dL_book_205 (by decide) ?_
      refine wy_ishr C dL_book_207 ?_
      refine wy_iconst (v := 1) C dL_book_208 (by decide) ?_
      refine wy_iand C dL_book_209 ?_
      refine wy_if_ne C (tgt := 270) dL_book_210 (by decide) (fun hc => ?_) (fun hc => ?_)
      · have h := h.1 hc
        refine wy_sub [3, 4, 5, 6, 7, 8, 2] rfl ?_
        exact kL_book_270 l G ab b L xs x2 hg hA hlt hab C hr hKK hX hbl hbA (wL_book_163 L xs x2 Q n) (ih) v5 v6 (cellV L xs ((x2 + (1 : Int32)) + v6)) M B h
      · have h := h.2 hc
        refine wy_aload_n C dL_book_213 6 rfl ?_
        refine wy_bipush (v := 9) C dL_book_214 (by decide) ?_
        refine wy_iload C dL_book_216 1 rfl ?_
        refine wy_iadd C dL_book_218 ?_
        refine wy_ald (G := G) (B := B) C hKK (fun H h => h.2) h.1 dL_book_219 ?_
        have h := h.2
        refine wy_istore (i := 10) (lv' := [(10, .int (B ((9 : Int32) + (someV (cellV L xs ((x2 + (1 : Int32)) + v6)) (B (0 : Int32).toNatClampNeg))).toNatClampNeg)), (9, .int (someV ((cellV L xs ((x2 + (1 : Int32)) + v6)) >>> ((4 : Int32) &&& 31)) (B (0 : Int32).toNatClampNeg))), (8, .int (someV (cellV L xs ((x2 + (1 : Int32)) + v6)) (B (0 : Int32).toNatClampNeg))), (7, .int (cellV L xs ((x2 + (1 : Int32)) + v6))), (0, .ref (gAD G 0)), (1, .ref b), (2, .int x2), (3, .ref ab), (5, .int v5), (6, .int v6)]) C dL_book_220 (by decide) rfl ?_
        refine wy_aload_n C dL_book_222 7 rfl ?_
        refine wy_bipush (v := 9) C dL_book_223 (by decide) ?_
        refine wy_iload C dL_book_225 2 rfl ?_
        refine wy_iadd C dL_book_227 ?_
        refine wy_aload_n C dL_book_228 7 rfl ?_
        refine wy_bipush (v := 9) C dL_book_229 (by decide) ?_
        refine wy_iload C dL_book_231 1 rfl ?_
        refine wy_iadd C dL_book_233 ?_
        refine wy_ald (G := G) (B := B) C hKK (fun H h => h.2) h.1 dL_book_234 ?_
        have h := h.2
        refine wy_ast (G := G) (B := B) (Φ' := PB G ab M (upd B ((9 : Int32) + (someV (cellV L xs ((x2 + (1 : Int32)) + v6)) (B (0 : Int32).toNatClampNeg))).toNatClampNeg (B ((9 : Int32) + (someV ((cellV L xs ((x2 + (1 : Int32)) + v6)) >>> ((4 : Int32) &&& 31)) (B (0 : Int32).toNatClampNeg))).toNatClampNeg))) C hKK (fun H h => h.2) (Or.inr rfl) h.1 (PB_st hab) dL_book_235 ?_
        have h := h.2
        refine wy_aload_n C dL_book_236 7 rfl ?_
        refine wy_bipush (v := 9) C dL_book_237 (by decide) ?_
        refine wy_iload C dL_book_239 1 rfl ?_
        refine wy_iadd C dL_book_241 ?_
        refine wy_iload C dL_book_242 0 rfl ?_
        refine wy_ast (G := G) (B := (upd B ((9 : Int32) + (someV (cellV L xs ((x2 + (1 : Int32)) + v6)) (B (0 : Int32).toNatClampNeg))).toNatClampNeg (B ((9 : Int32) + (someV ((cellV L xs ((x2 + (1 : Int32)) + v6)) >>> ((4 : Int32) &&& 31)) (B (0 : Int32).toNatClampNeg))).toNatClampNeg))) (Φ' := PB G ab M (upd (upd B ((9 : Int32) + (someV (cellV L xs ((x2 + (1 : Int32)) + v6)) (B (0 : Int32).toNatClampNeg))).toNatClampNeg (B ((9 : Int32) + (someV ((cellV L xs ((x2 + (1 : Int32)) + v6)) >>> ((4 : Int32) &&& 31)) (B (0 : Int32).toNatClampNeg))).toNatClampNeg)) ((9 : Int32) + (someV ((cellV L xs ((x2 + (1 : Int32)) + v6)) >>> ((4 : Int32) &&& 31)) (B (0 : Int32).toNatClampNeg))).toNatClampNeg (B ((9 : Int32) + (someV (cellV L xs ((x2 + (1 : Int32)) + v6)) (B (0 : Int32).toNatClampNeg))).toNatClampNeg))) C hKK (fun H h => h.2) (Or.inr rfl) h.1 (PB_st hab) dL_book_244 ?_
        have h := h.2
        refine wy_iload C dL_book_245 8 rfl ?_
        refine wy_if_eq C (tgt := 267) dL_book_247 (by decide) (fun hc => ?_) (fun hc => ?_)
        · have h := h.1 hc
          refine wy_sub [4, 5, 6, 7, 9, 3] rfl ?_
          exact kL_book_267 l G ab b L xs x2 hg hA hlt hab C hr hKK hX hbl hbA (wL_book_163 L xs x2 Q n) (ih) v6 (cellV L xs ((x2 + (1 : Int32)) + v6)) M (upd (upd B ((9 : Int32) + (someV (cellV L xs ((x2 + (1 : Int32)) + v6)) (B (0 : Int32).toNatClampNeg))).toNatClampNeg (B ((9 : Int32) + (someV ((cellV L xs ((x2 + (1 : Int32)) + v6)) >>> ((4 : Int32) &&& 31)) (B (0 : Int32).toNatClampNeg))).toNatClampNeg)) ((9 : Int32) + (someV ((cellV L xs ((x2 + (1 : Int32)) + v6)) >>> ((4 : Int32) &&& 31)) (B (0 : Int32).toNatClampNeg))).toNatClampNeg (B ((9 : Int32) + (someV (cellV L xs ((x2 + (1 : Int32)) + v6)) (B (0 : Int32).toNatClampNeg))).toNatClampNeg)) h
        · have h := h.2 hc
          refine wy_aload_n C dL_book_250 4 rfl ?_
          refine wy_bipush (v := 115) C dL_book_251 (by decide) ?_
          refine wy_iload C dL_book_253 2 rfl ?_
          refine wy_iload C dL_book_255 1 rfl ?_
          refine wy_callSb (Φ1 := fun M1 => PB G ab M1 (upd (upd B ((9 : Int32) + (someV (cellV L xs ((x2 + (1 : Int32)) + v6)) (B (0 : Int32).toNatClampNeg))).toNatClampNeg (B ((9 : Int32) + (someV ((cellV L xs ((x2 + (1 : Int32)) + v6)) >>> ((4 : Int32) &&& 31)) (B (0 : Int32).toNatClampNeg))).toNatClampNeg)) ((9 : Int32) + (someV ((cellV L xs ((x2 + (1 : Int32)) + v6)) >>> ((4 : Int32) &&& 31)) (B (0 : Int32).toNatClampNeg))).toNatClampNeg (B ((9 : Int32) + (someV (cellV L xs ((x2 + (1 : Int32)) + v6)) (B (0 : Int32).toNatClampNeg))).toNatClampNeg))) C (cL_two_M l G hg hA (115 : Int32) (someV (cellV L xs ((x2 + (1 : Int32)) + v6)) (B (0 : Int32).toNatClampNeg)) (someV ((cellV L xs ((x2 + (1 : Int32)) + v6)) >>> ((4 : Int32) &&& 31)) (B (0 : Int32).toNatClampNeg)) M _) h cw_RL_38 hd_L_two ⟨rfl, rfl⟩ ⟨by decide, by decide⟩ (As := [.ref (gAD G 0), .int (115 : Int32), .int (someV (cellV L xs ((x2 + (1 : Int32)) + v6)) (B (0 : Int32).toNatClampNeg)), .int (someV ((cellV L xs ((x2 + (1 : Int32)) + v6)) >>> ((4 : Int32) &&& 31)) (B (0 : Int32).toNatClampNeg))]) (rest := []) rfl (Nat.le_of_ble_eq_true rfl) ⟨Nat.zero_le _, Nat.zero_le _⟩ rfl dL_book_257 hKK (fun q h => Or.inl h) (fun H h => h.1) (PB_back hab) (fun r21 M22 h => ?_)
          obtain ⟨M23, hag, h⟩ := h
          refine wy_gh (Φ' := PB G ab M23 (upd (upd B ((9 : Int32) + (someV (cellV L xs ((x2 + (1 : Int32)) + v6)) (B (0 : Int32).toNatClampNeg))).toNatClampNeg (B ((9 : Int32) + (someV ((cellV L xs ((x2 + (1 : Int32)) + v6)) >>> ((4 : Int32) &&& 31)) (B (0 : Int32).toNatClampNeg))).toNatClampNeg)) ((9 : Int32) + (someV ((cellV L xs ((x2 + (1 : Int32)) + v6)) >>> ((4 : Int32) &&& 31)) (B (0 : Int32).toNatClampNeg))).toNatClampNeg (B ((9 : Int32) + (someV (cellV L xs ((x2 + (1 : Int32)) + v6)) (B (0 : Int32).toNatClampNeg))).toNatClampNeg))) (fun H hH => ⟨GW_ag hlt hag hH.1, hH.2⟩) ?_
          refine wy_if_eq C (tgt := 267) dL_book_260 (by decide) (fun hc => ?_) (fun hc => ?_)
          · have h := h.1 hc
            refine wy_sub [4, 5, 6, 7, 9, 3] rfl ?_
            exact kL_book_267 l G ab b L xs x2 hg hA hlt hab C hr hKK hX hbl hbA (wL_book_163 L xs x2 Q n) (ih) v6 (cellV L xs ((x2 + (1 : Int32)) + v6)) M23 (upd (upd B ((9 : Int32) + (someV (cellV L xs ((x2 + (1 : Int32)) + v6)) (B (0 : Int32).toNatClampNeg))).toNatClampNeg (B ((9 : Int32) + (someV ((cellV L xs ((x2 + (1 : Int32)) + v6)) >>> ((4 : Int32) &&& 31)) (B (0 : Int32).toNatClampNeg))).toNatClampNeg)) ((9 : Int32) + (someV ((cellV L xs ((x2 + (1 : Int32)) + v6)) >>> ((4 : Int32) &&& 31)) (B (0 : Int32).toNatClampNeg))).toNatClampNeg (B ((9 : Int32) + (someV (cellV L xs ((x2 + (1 : Int32)) + v6)) (B (0 : Int32).toNatClampNeg))).toNatClampNeg)) h
          · have h := h.2 hc
            refine wy_iconst (v := 1) C dL_book_263 (by decide) ?_
            refine wy_goto C (tgt := 268) dL_book_264 (by decide) ?_
            refine wy_sub [4, 5, 6, 7, 9, 3] rfl ?_
            exact kL_book_268 l G ab b L xs x2 hg hA hlt hab C hr hKK hX hbl hbA (wL_book_163 L xs x2 Q n) (ih) v6 (cellV L xs ((x2 + (1 : Int32)) + v6)) (1 : Int32) M23 (upd (upd B ((9 : Int32) + (someV (cellV L xs ((x2 + (1 : Int32)) + v6)) (B (0 : Int32).toNatClampNeg))).toNatClampNeg (B ((9 : Int32) + (someV ((cellV L xs ((x2 + (1 : Int32)) + v6)) >>> ((4 : Int32) &&& 31)) (B (0 : Int32).toNatClampNeg))).toNatClampNeg)) ((9 : Int32) + (someV ((cellV L xs ((x2 + (1 : Int32)) + v6)) >>> ((4 : Int32) &&& 31)) (B (0 : Int32).toNatClampNeg))).toNatClampNeg (B ((9 : Int32) + (someV (cellV L xs ((x2 + (1 : Int32)) + v6)) (B (0 : Int32).toNatClampNeg))).toNatClampNeg)) h
set_option maxRecDepth 100000 in
set_option maxHeartbeats 40000000 in
theorem kL_book_138 (l : Launch) (G : gP) (ab b : Nat) (L : Nat) (xs : Nat → Int32) (x2 : Int32) (hg : gIn G) (hA : gCl G) (hlt : ∀ i, gI G i → i < 79) (hab : ¬ gA G ab) {p : Program} {e : Env} {s : State} {m : MethodId} {args : Array Value} {below : List Frame} {meth : Method} {c : Code} (C : Cy p s m args meth c cL_book 11 RL) (hr : meth.sig.returnType = (some (Jvm.ClassFile.FieldType.boolean))) (hKK : gKK G s) (hX : va_X b L xs s s.heap) (hbl : b < s.heap.size) (hbA : ¬ fB G ab b) {Q : Int32 → Mem → (Nat → Int32) → Prop} : ∀ (n : Nat) (v5 : Int32) (v6 : Int32) (M : Mem) (B : Nat → Int32), wL_book_138 L xs x2 Q n v5 v6 M B → Wy p l e rmL_book s m args below meth c (MQ below (va_Qi (fun r (u : Mem × (Nat → Int32)) => Q r u.1 u.2) (fun u t => PB G ab u.1 u.2 t.heap) (fB G ab)) args s 0 0 (fB G ab)) (fB G ab) 11 0 0 (PB G ab M B) 138 [(0, .ref (gAD G 0)), (1, .ref b), (2, .int x2), (3, .ref ab), (5, .int v5), (6, .int v6)] [] := by
  intro n
  induction n with
  | zero => intro v5 v6 M B h; exact h.elim
  | succ n ih =>
    intro v5 v6 M B h
    have h : (((9 : Int32) ≤ v6 → (∃ n14, wL_book_163 L xs x2 Q n14 v5 (0 : Int32) M B)) ∧ (¬ (9 : Int32) ≤ v6 → (vp_in ((9 : Int32) + v6) 20 ∧ wL_book_138 L xs x2 Q n v5 (v6 + (1 : Int32)) M (upd B ((9 : Int32) + v6).toNatClampNeg v6)))) := h
    refine wy_iload C dL_book_138 5 rfl ?_
    refine wy_bipush (v := 9) C dL_book_140 (by decide) ?_
    refine wy_icmp_ge C (tgt := 160) dL_book_142 (by decide) (fun hc => ?_) (fun hc => ?_)
    · have h := h.1 hc
      refine wy_iconst (v := 0) C dL_book_160 (by decide) ?_
      refine wy_istore (i := 6) (lv' := [(6, .int (0 : Int32)), (0, .ref (gAD G 0)), (1, .ref b), (2, .int x2), (3, .ref ab), (5, .int v5)]) C dL_book_161 (by decide) rfl ?_
      refine wy_sub [1, 2, 3, 4, 5, 0] rfl ?_
      obtain ⟨n14, h⟩ := h
      exact kL_book_163 l G ab b L xs x2 hg hA hlt hab C hr hKK hX hbl hbA n14 v5 (0 : Int32) M B h
    · have h := h.2 hc
      refine wy_aload_n C dL_book_145 3 rfl ?_
      refine wy_bipush (v := 9) C dL_book_146 (by decide) ?_
      refine wy_iload C dL_book_148 5 rfl ?_
      refine wy_iadd C dL_book_150 ?_
      refine wy_iload C dL_book_151 5 rfl ?_
      refine wy_ast (G := G) (B := B) (Φ' := PB G ab M (upd B ((9 : Int32) + v6).toNatClampNeg v6)) C hKK (fun H h => h.2) (Or.inr rfl) h.1 (PB_st hab) dL_book_153 ?_
      have h := h.2
      refine wy_iinc (v := (v6 + (1 : Int32))) (lv' := [(6, .int (v6 + (1 : Int32))), (0, .ref (gAD G 0)), (1, .ref b), (2, .int x2), (3, .ref ab), (5, .int v5)]) C dL_book_154 5 rfl (by rfl) (by decide) rfl ?_
      refine wy_goto C (tgt := 138) dL_book_157 (by decide) ?_
      refine wy_sub [1, 2, 3, 4, 5, 0] rfl ?_
      exact ih v5 (v6 + (1 : Int32)) M (upd B ((9 : Int32) + v6).toNatClampNeg v6) h
set_option maxRecDepth 100000 in
set_option maxHeartbeats 40000000 in
theorem kL_book_133 (l : Launch) (G : gP) (ab b : Nat) (L : Nat) (xs : Nat → Int32) (x2 : Int32) (hg : gIn G) (hA : gCl G) (hlt : ∀ i, gI G i → i < 79) (hab : ¬ gA G ab) {p : Program} {e : Env} {s : State} {m : MethodId} {args : Array Value} {below : List Frame} {meth : Method} {c : Code} (C : Cy p s m args meth c cL_book 11 RL) (hr : meth.sig.returnType = (some (Jvm.ClassFile.FieldType.boolean))) (hKK : gKK G s) (hX : va_X b L xs s s.heap) (hbl : b < s.heap.size) (hbA : ¬ fB G ab b) {Q : Int32 → Mem → (Nat → Int32) → Prop} (s0 : Int32) (M : Mem) (B : Nat → Int32) (h : wL_book_133 L xs x2 Q s0 M B) : Wy p l e rmL_book s m args below meth c (MQ below (va_Qi (fun r (u : Mem × (Nat → Int32)) => Q r u.1 u.2) (fun u t => PB G ab u.1 u.2 t.heap) (fB G ab)) args s 0 0 (fB G ab)) (fB G ab) 11 0 0 (PB G ab M B) 133 [(0, .ref (gAD G 0)), (1, .ref b), (2, .int x2), (3, .ref ab)] [.int s0] := by
  have h : (∃ n13, wL_book_138 L xs x2 Q n13 s0 (0 : Int32) M B) := h
  refine wy_istore (i := 5) (lv' := [(5, .int s0), (0, .ref (gAD G 0)), (1, .ref b), (2, .int x2), (3, .ref ab)]) C dL_book_133 (by decide) rfl ?_
  refine wy_iconst (v := 0) C dL_book_135 (by decide) ?_
  refine wy_istore (i := 6) (lv' := [(6, .int (0 : Int32)), (5, .int s0), (0, .ref (gAD G 0)), (1, .ref b), (2, .int x2), (3, .ref ab)]) C dL_book_136 (by decide) rfl ?_
  refine wy_sub [2, 3, 4, 5, 1, 0] rfl ?_
  obtain ⟨n13, h⟩ := h
  exact kL_book_138 l G ab b L xs x2 hg hA hlt hab C hr hKK hX hbl hbA n13 s0 (0 : Int32) M B h
set_option maxRecDepth 100000 in
set_option maxHeartbeats 40000000 in
theorem kL_book_132 (l : Launch) (G : gP) (ab b : Nat) (L : Nat) (xs : Nat → Int32) (x2 : Int32) (hg : gIn G) (hA : gCl G) (hlt : ∀ i, gI G i → i < 79) (hab : ¬ gA G ab) {p : Program} {e : Env} {s : State} {m : MethodId} {args : Array Value} {below : List Frame} {meth : Method} {c : Code} (C : Cy p s m args meth c cL_book 11 RL) (hr : meth.sig.returnType = (some (Jvm.ClassFile.FieldType.boolean))) (hKK : gKK G s) (hX : va_X b L xs s s.heap) (hbl : b < s.heap.size) (hbA : ¬ fB G ab b) {Q : Int32 → Mem → (Nat → Int32) → Prop} (M : Mem) (B : Nat → Int32) (h : wL_book_132 L xs x2 Q M B) : Wy p l e rmL_book s m args below meth c (MQ below (va_Qi (fun r (u : Mem × (Nat → Int32)) => Q r u.1 u.2) (fun u t => PB G ab u.1 u.2 t.heap) (fB G ab)) args s 0 0 (fB G ab)) (fB G ab) 11 0 0 (PB G ab M B) 132 [(0, .ref (gAD G 0)), (1, .ref b), (2, .int x2), (3, .ref ab)] [] := by
  have h : wL_book_133 L xs x2 Q (0 : Int32) M B := h
  refine wy_iconst (v := 0) C dL_book_132 (by decide) ?_
  refine wy_sub [0, 1, 2, 3] rfl ?_
  exact kL_book_133 l G ab b L xs x2 hg hA hlt hab C hr hKK hX hbl hbA (0 : Int32) M B h
set_option maxRecDepth 100000 in
set_option maxHeartbeats 40000000 in
theorem kL_book_66 (l : Launch) (G : gP) (ab b : Nat) (L : Nat) (xs : Nat → Int32) (x2 : Int32) (hg : gIn G) (hA : gCl G) (hlt : ∀ i, gI G i → i < 79) (hab : ¬ gA G ab) {p : Program} {e : Env} {s : State} {m : MethodId} {args : Array Value} {below : List Frame} {meth : Method} {c : Code} (C : Cy p s m args meth c cL_book 11 RL) (hr : meth.sig.returnType = (some (Jvm.ClassFile.FieldType.boolean))) (hKK : gKK G s) (hX : va_X b L xs s s.heap) (hbl : b < s.heap.size) (hbA : ¬ fB G ab b) {Q : Int32 → Mem → (Nat → Int32) → Prop} (v4 : Int32) (s0 : Int32) (s1 : Int32) (s2 : Int32) (M : Mem) (B : Nat → Int32) (h : wL_book_66 L xs x2 Q v4 s0 s1 s2 M B) : Wy p l e rmL_book s m args below meth c (MQ below (va_Qi (fun r (u : Mem × (Nat → Int32)) => Q r u.1 u.2) (fun u t => PB G ab u.1 u.2 t.heap) (fB G ab)) args s 0 0 (fB G ab)) (fB G ab) 11 0 0 (PB G ab M B) 66 [(0, .ref (gAD G 0)), (1, .ref b), (2, .int x2), (3, .ref ab), (4, .int v4)] [.int s0, .int s1, .int s2, .ref ab] := by
  have h : (¬ s0 = 0 ∧ (vp_in s2 20 ∧ (¬ (5 : Int32) = 0 ∧ (vp_in (4 : Int32) 20 ∧ (wX7_wipe M (fun r1 M2 => ∃ M3, AG M2 M3 ∧ ((r1 < 0 → wL_book_132 L xs x2 Q M3 (upd (upd B s2.toNatClampNeg (someV s1 s0)) (4 : Int32).toNatClampNeg (someV (v4 >>> ((12 : Int32) &&& 31)) (5 : Int32)))) ∧ (¬ r1 < 0 → (vp_in (0 : Int32) 20 ∧ (wL_one (110 : Int32) ((upd (upd B s2.toNatClampNeg (someV s1 s0)) (4 : Int32).toNatClampNeg (someV (v4 >>> ((12 : Int32) &&& 31)) (5 : Int32))) (0 : Int32).toNatClampNeg) M3 (fun r4 M5 => ∃ M6, AG M5 M6 ∧ ((r4 = 0 → wL_book_132 L xs x2 Q M6 (upd (upd B s2.toNatClampNeg (someV s1 s0)) (4 : Int32).toNatClampNeg (someV (v4 >>> ((12 : Int32) &&& 31)) (5 : Int32)))) ∧ (¬ r4 = 0 → (vp_in (1 : Int32) 20 ∧ (wL_one (114 : Int32) ((upd (upd B s2.toNatClampNeg (someV s1 s0)) (4 : Int32).toNatClampNeg (someV (v4 >>> ((12 : Int32) &&& 31)) (5 : Int32))) (1 : Int32).toNatClampNeg) M6 (fun r7 M8 => ∃ M9, AG M8 M9 ∧ ((r7 = 0 → wL_book_132 L xs x2 Q M9 (upd (upd B s2.toNatClampNeg (someV s1 s0)) (4 : Int32).toNatClampNeg (someV (v4 >>> ((12 : Int32) &&& 31)) (5 : Int32)))) ∧ (¬ r7 = 0 → (vp_in (2 : Int32) 20 ∧ (vp_in (3 : Int32) 20 ∧ (wL_two (108 : Int32) ((upd (upd B s2.toNatClampNeg (someV s1 s0)) (4 : Int32).toNatClampNeg (someV (v4 >>> ((12 : Int32) &&& 31)) (5 : Int32))) (2 : Int32).toNatClampNeg) ((upd (upd B s2.toNatClampNeg (someV s1 s0)) (4 : Int32).toNatClampNeg (someV (v4 >>> ((12 : Int32) &&& 31)) (5 : Int32))) (3 : Int32).toNatClampNeg) M9 (fun r10 M11 => ∃ M12, AG M11 M12 ∧ ((r10 = 0 → wL_book_132 L xs x2 Q M12 (upd (upd B s2.toNatClampNeg (someV s1 s0)) (4 : Int32).toNatClampNeg (someV (v4 >>> ((12 : Int32) &&& 31)) (5 : Int32)))) ∧ (¬ r10 = 0 → wL_book_133 L xs x2 Q (1 : Int32) M12 (upd (upd B s2.toNatClampNeg (someV s1 s0)) (4 : Int32).toNatClampNeg (someV (v4 >>> ((12 : Int32) &&& 31)) (5 : Int32))))))))))))))))))))))))))) := h
  refine wy_some (rest := [.int s2, .ref ab]) C h.1 dL_book_66 rfl ⟨by decide, by decide⟩ (Nat.le_of_ble_eq_true rfl) ⟨Nat.zero_le _, Nat.zero_le _⟩ PB_kp ?_
  have h := h.2
  refine wy_ast (G := G) (B := B) (Φ' := PB G ab M (upd B s2.toNatClampNeg (someV s1 s0))) C hKK (fun H h => h.2) (Or.inr rfl) h.1 (PB_st hab) dL_book_69 ?_
  have h := h.2
  refine wy_aload_n C dL_book_70 3 rfl ?_
  refine wy_iconst (v := 4) C dL_book_71 (by decide) ?_
  refine wy_iload C dL_book_72 4 rfl ?_
  refine wy_bipush (v := 12) C dL_book_74 (by decide) ?_
  refine wy_ishr C dL_book_76 ?_
  refine wy_iconst (v := 5) C dL_book_77 (by decide) ?_
  refine wy_some (rest := [.int (4 : Int32), .ref ab]) C h.1 dL_book_78 rfl ⟨by decide, by decide⟩ (Nat.le_of_ble_eq_true rfl) ⟨Nat.zero_le _, Nat.zero_le _⟩ PB_kp ?_
  have h := h.2
  refine wy_ast (G := G) (B := (upd B s2.toNatClampNeg (someV s1 s0))) (Φ' := PB G ab M (upd (upd B s2.toNatClampNeg (someV s1 s0)) (4 : Int32).toNatClampNeg (someV (v4 >>> ((12 : Int32) &&& 31)) (5 : Int32)))) C hKK (fun H h => h.2) (Or.inr rfl) h.1 (PB_st hab) dL_book_81 ?_
  have h := h.2
  refine wy_aload_n C dL_book_82 0 rfl ?_
  refine wy_callVi (Φ1 := fun (u : Mem) => (PB G ab u (upd (upd B s2.toNatClampNeg (someV s1 s0)) (4 : Int32).toNatClampNeg (someV (v4 >>> ((12 : Int32) &&& 31)) (5 : Int32))))) C (cX7_wipe_M l G hg hA M _) h cw_RL_31 hd_X7_wipe ⟨rfl, rfl⟩ ⟨by decide, by decide⟩ (hA 0 (by decide)) (gc_k kq_0) rfl (As := []) (rest := []) rfl (Nat.le_of_ble_eq_true rfl) ⟨Nat.zero_le _, Nat.zero_le _⟩ rfl dL_book_83 hKK (fun q h => Or.inl h) (fun H h => h.1) (PB_back hab) (fun r1 M2 h => ?_)
  obtain ⟨M3, hag, h⟩ := h
  refine wy_gh (Φ' := (PB G ab M3 (upd (upd B s2.toNatClampNeg (someV s1 s0)) (4 : Int32).toNatClampNeg (someV (v4 >>> ((12 : Int32) &&& 31)) (5 : Int32))))) (fun H hH => ⟨GW_ag hlt hag hH.1, hH.2⟩) ?_
  refine wy_if_lt C (tgt := 132) dL_book_86 (by decide) (fun hc => ?_) (fun hc => ?_)
  · have h := h.1 hc
    refine wy_sub [0, 1, 2, 3] rfl ?_
    exact kL_book_132 l G ab b L xs x2 hg hA hlt hab C hr hKK hX hbl hbA M3 (upd (upd B s2.toNatClampNeg (someV s1 s0)) (4 : Int32).toNatClampNeg (someV (v4 >>> ((12 : Int32) &&& 31)) (5 : Int32))) h
  · have h := h.2 hc
    refine wy_aload_n C dL_book_89 0 rfl ?_
    refine wy_bipush (v := 110) C dL_book_90 (by decide) ?_
    refine wy_aload_n C dL_book_92 3 rfl ?_
    refine wy_iconst (v := 0) C dL_book_93 (by decide) ?_
    refine wy_ald (G := G) (B := (upd (upd B s2.toNatClampNeg (someV s1 s0)) (4 : Int32).toNatClampNeg (someV (v4 >>> ((12 : Int32) &&& 31)) (5 : Int32)))) C hKK (fun H h => h.2) h.1 dL_book_94 ?_
    have h := h.2
    refine wy_callSb (Φ1 := fun M1 => PB G ab M1 (upd (upd B s2.toNatClampNeg (someV s1 s0)) (4 : Int32).toNatClampNeg (someV (v4 >>> ((12 : Int32) &&& 31)) (5 : Int32)))) C (cL_one_M l G hg hA (110 : Int32) ((upd (upd B s2.toNatClampNeg (someV s1 s0)) (4 : Int32).toNatClampNeg (someV (v4 >>> ((12 : Int32) &&& 31)) (5 : Int32))) (0 : Int32).toNatClampNeg) M3 _) h cw_RL_35 hd_L_one ⟨rfl, rfl⟩ ⟨by decide, by decide⟩ (As := [.ref (gAD G 0), .int (110 : Int32), .int ((upd (upd B s2.toNatClampNeg (someV s1 s0)) (4 : Int32).toNatClampNeg (someV (v4 >>> ((12 : Int32) &&& 31)) (5 : Int32))) (0 : Int32).toNatClampNeg)]) (rest := []) rfl (Nat.le_of_ble_eq_true rfl) ⟨Nat.zero_le _, Nat.zero_le _⟩ rfl dL_book_95 hKK (fun q h => Or.inl h) (fun H h => h.1) (PB_back hab) (fun r4 M5 h => ?_)
    obtain ⟨M6, hag, h⟩ := h
    refine wy_gh (Φ' := PB G ab M6 (upd (upd B s2.toNatClampNeg (someV s1 s0)) (4 : Int32).toNatClampNeg (someV (v4 >>> ((12 : Int32) &&& 31)) (5 : Int32)))) (fun H hH => ⟨GW_ag hlt hag hH.1, hH.2⟩) ?_
    refine wy_if_eq C (tgt := 132) dL_book_98 (by decide) (fun hc => ?_) (fun hc => ?_)
    · have h := h.1 hc
      refine wy_sub [0, 1, 2, 3] rfl ?_
      exact kL_book_132 l G ab b L xs x2 hg hA hlt hab C hr hKK hX hbl hbA M6 (upd (upd B s2.toNatClampNeg (someV s1 s0)) (4 : Int32).toNatClampNeg (someV (v4 >>> ((12 : Int32) &&& 31)) (5 : Int32))) h
    · have h := h.2 hc
      refine wy_aload_n C dL_book_101 0 rfl ?_
      refine wy_bipush (v := 114) C dL_book_102 (by decide) ?_
      refine wy_aload_n C dL_book_104 3 rfl ?_
      refine wy_iconst (v := 1) C dL_book_105 (by decide) ?_
      refine wy_ald (G := G) (B := (upd (upd B s2.toNatClampNeg (someV s1 s0)) (4 : Int32).toNatClampNeg (someV (v4 >>> ((12 : Int32) &&& 31)) (5 : Int32)))) C hKK (fun H h => h.2) h.1 dL_book_106 ?_
      have h := h.2
      refine wy_callSb (Φ1 := fun M1 => PB G ab M1 (upd (upd B s2.toNatClampNeg (someV s1 s0)) (4 : Int32).toNatClampNeg (someV (v4 >>> ((12 : Int32) &&& 31)) (5 : Int32)))) C (cL_one_M l G hg hA (114 : Int32) ((upd (upd B s2.toNatClampNeg (someV s1 s0)) (4 : Int32).toNatClampNeg (someV (v4 >>> ((12 : Int32) &&& 31)) (5 : Int32))) (1 : Int32).toNatClampNeg) M6 _) h cw_RL_35 hd_L_one ⟨rfl, rfl⟩ ⟨by decide, by decide⟩ (As := [.ref (gAD G 0), .int (114 : Int32), .int ((upd (upd B s2.toNatClampNeg (someV s1 s0)) (4 : Int32).toNatClampNeg (someV (v4 >>> ((12 : Int32) &&& 31)) (5 : Int32))) (1 : Int32).toNatClampNeg)]) (rest := []) rfl (Nat.le_of_ble_eq_true rfl) ⟨Nat.zero_le _, Nat.zero_le _⟩ rfl dL_book_107 hKK (fun q h => Or.inl h) (fun H h => h.1) (PB_back hab) (fun r7 M8 h => ?_)
      obtain ⟨M9, hag, h⟩ := h
      refine wy_gh (Φ' := PB G ab M9 (upd (upd B s2.toNatClampNeg (someV s1 s0)) (4 : Int32).toNatClampNeg (someV (v4 >>> ((12 : Int32) &&& 31)) (5 : Int32)))) (fun H hH => ⟨GW_ag hlt hag hH.1, hH.2⟩) ?_
      refine wy_if_eq C (tgt := 132) dL_book_110 (by decide) (fun hc => ?_) (fun hc => ?_)
      · have h := h.1 hc
        refine wy_sub [0, 1, 2, 3] rfl ?_
        exact kL_book_132 l G ab b L xs x2 hg hA hlt hab C hr hKK hX hbl hbA M9 (upd (upd B s2.toNatClampNeg (someV s1 s0)) (4 : Int32).toNatClampNeg (someV (v4 >>> ((12 : Int32) &&& 31)) (5 : Int32))) h
      · have h := h.2 hc
        refine wy_aload_n C dL_book_113 0 rfl ?_
        refine wy_bipush (v := 108) C dL_book_114 (by decide) ?_
        refine wy_aload_n C dL_book_116 3 rfl ?_
        refine wy_iconst (v := 2) C dL_book_117 (by decide) ?_
        refine wy_ald (G := G) (B := (upd (upd B s2.toNatClampNeg (someV s1 s0)) (4 : Int32).toNatClampNeg (someV (v4 >>> ((12 : Int32) &&& 31)) (5 : Int32)))) C hKK (fun H h => h.2) h.1 dL_book_118 ?_
        have h := h.2
        refine wy_aload_n C dL_book_119 3 rfl ?_
        refine wy_iconst (v := 3) C dL_book_120 (by decide) ?_
        refine wy_ald (G := G) (B := (upd (upd B s2.toNatClampNeg (someV s1 s0)) (4 : Int32).toNatClampNeg (someV (v4 >>> ((12 : Int32) &&& 31)) (5 : Int32)))) C hKK (fun H h => h.2) h.1 dL_book_121 ?_
        have h := h.2
        refine wy_callSb (Φ1 := fun M1 => PB G ab M1 (upd (upd B s2.toNatClampNeg (someV s1 s0)) (4 : Int32).toNatClampNeg (someV (v4 >>> ((12 : Int32) &&& 31)) (5 : Int32)))) C (cL_two_M l G hg hA (108 : Int32) ((upd (upd B s2.toNatClampNeg (someV s1 s0)) (4 : Int32).toNatClampNeg (someV (v4 >>> ((12 : Int32) &&& 31)) (5 : Int32))) (2 : Int32).toNatClampNeg) ((upd (upd B s2.toNatClampNeg (someV s1 s0)) (4 : Int32).toNatClampNeg (someV (v4 >>> ((12 : Int32) &&& 31)) (5 : Int32))) (3 : Int32).toNatClampNeg) M9 _) h cw_RL_38 hd_L_two ⟨rfl, rfl⟩ ⟨by decide, by decide⟩ (As := [.ref (gAD G 0), .int (108 : Int32), .int ((upd (upd B s2.toNatClampNeg (someV s1 s0)) (4 : Int32).toNatClampNeg (someV (v4 >>> ((12 : Int32) &&& 31)) (5 : Int32))) (2 : Int32).toNatClampNeg), .int ((upd (upd B s2.toNatClampNeg (someV s1 s0)) (4 : Int32).toNatClampNeg (someV (v4 >>> ((12 : Int32) &&& 31)) (5 : Int32))) (3 : Int32).toNatClampNeg)]) (rest := []) rfl (Nat.le_of_ble_eq_true rfl) ⟨Nat.zero_le _, Nat.zero_le _⟩ rfl dL_book_122 hKK (fun q h => Or.inl h) (fun H h => h.1) (PB_back hab) (fun r10 M11 h => ?_)
        obtain ⟨M12, hag, h⟩ := h
        refine wy_gh (Φ' := PB G ab M12 (upd (upd B s2.toNatClampNeg (someV s1 s0)) (4 : Int32).toNatClampNeg (someV (v4 >>> ((12 : Int32) &&& 31)) (5 : Int32)))) (fun H hH => ⟨GW_ag hlt hag hH.1, hH.2⟩) ?_
        refine wy_if_eq C (tgt := 132) dL_book_125 (by decide) (fun hc => ?_) (fun hc => ?_)
        · have h := h.1 hc
          refine wy_sub [0, 1, 2, 3] rfl ?_
          exact kL_book_132 l G ab b L xs x2 hg hA hlt hab C hr hKK hX hbl hbA M12 (upd (upd B s2.toNatClampNeg (someV s1 s0)) (4 : Int32).toNatClampNeg (someV (v4 >>> ((12 : Int32) &&& 31)) (5 : Int32))) h
        · have h := h.2 hc
          refine wy_iconst (v := 1) C dL_book_128 (by decide) ?_
          refine wy_goto C (tgt := 133) dL_book_129 (by decide) ?_
          refine wy_sub [0, 1, 2, 3] rfl ?_
          exact kL_book_133 l G ab b L xs x2 hg hA hlt hab C hr hKK hX hbl hbA (1 : Int32) M12 (upd (upd B s2.toNatClampNeg (someV s1 s0)) (4 : Int32).toNatClampNeg (someV (v4 >>> ((12 : Int32) &&& 31)) (5 : Int32))) h
set_option maxRecDepth 100000 in
set_option maxHeartbeats 40000000 in
theorem cL_book_M (l : Launch) (G : gP) (ab b : Nat) (L : Nat) (xs : Nat → Int32) (x2 : Int32) (hh : gIn G ∧ gCl G ∧ (∀ i, gI G i → i < 79) ∧ ¬ gA G ab) (M : Mem) (B : Nat → Int32) (Q : Int32 → Mem → (Nat → Int32) → Prop) : Met l yL_book (Cond.code yL_book cL_book 11 (some (Jvm.ClassFile.FieldType.boolean)) :: TB) rmL_book (va_Pc [.ref (gAD G 0), .ref b, .int x2, .ref ab] (fun U => gKK G U ∧ PB G ab M B U.heap ∧ (SX b L xs U ∧ ¬ fB G ab b) ∧ wL_book L xs x2 M B Q)) (va_Qi (fun r (u : Mem × (Nat → Int32)) => Q r u.1 u.2) (fun u t => PB G ab u.1 u.2 t.heap) (fB G ab)) 0 0 (fB G ab) := by
  obtain ⟨hg, hA, hlt, hab⟩ := hh
  refine gMetY (by decide +kernel) (show _ = Cond.code yL_book cL_book 11 (some (Jvm.ClassFile.FieldType.boolean)) from rfl) (Nat.le_of_ble_eq_true rfl) [(0, .ref (gAD G 0)), (1, .ref b), (2, .int x2), (3, .ref ab)] rfl ?_
  intro p e s m args below meth c C hr hB0
  obtain ⟨hKK, hPB, ⟨⟨hX, hbl⟩, hbA⟩, h⟩ := hB0
  have h : ((¬ Int32.ofNat L ≤ x2 → vp_in x2 L) ∧ (¬ (8 : Int32) = 0 ∧ (vp_in (0 : Int32) 20 ∧ (¬ (8 : Int32) = 0 ∧ (vp_in (1 : Int32) 20 ∧ (vp_in (2 : Int32) 20 ∧ ((¬ ((cellV L xs x2) &&& (268435456 : Int32)) = 0 → wL_book_66 L xs x2 Q (cellV L xs x2) (12 : Int32) ((cellV L xs x2) >>> ((8 : Int32) &&& 31)) (3 : Int32) M (upd (upd (upd B (0 : Int32).toNatClampNeg ((2 : Int32) + (someV (cellV L xs x2) (8 : Int32)))) (1 : Int32).toNatClampNeg ((1 : Int32) + (someV ((cellV L xs x2) >>> ((3 : Int32) &&& 31)) (8 : Int32)))) (2 : Int32).toNatClampNeg (((cellV L xs x2) >>> ((6 : Int32) &&& 31)) &&& (3 : Int32)))) ∧ (((cellV L xs x2) &&& (268435456 : Int32)) = 0 → (vp_in (0 : Int32) 20 ∧ wL_book_66 L xs x2 Q (cellV L xs x2) ((upd (upd (upd B (0 : Int32).toNatClampNeg ((2 : Int32) + (someV (cellV L xs x2) (8 : Int32)))) (1 : Int32).toNatClampNeg ((1 : Int32) + (someV ((cellV L xs x2) >>> ((3 : Int32) &&& 31)) (8 : Int32)))) (2 : Int32).toNatClampNeg (((cellV L xs x2) >>> ((6 : Int32) &&& 31)) &&& (3 : Int32))) (0 : Int32).toNatClampNeg) ((cellV L xs x2) >>> ((8 : Int32) &&& 31)) (3 : Int32) M (upd (upd (upd B (0 : Int32).toNatClampNeg ((2 : Int32) + (someV (cellV L xs x2) (8 : Int32)))) (1 : Int32).toNatClampNeg ((1 : Int32) + (someV ((cellV L xs x2) >>> ((3 : Int32) &&& 31)) (8 : Int32)))) (2 : Int32).toNatClampNeg (((cellV L xs x2) >>> ((6 : Int32) &&& 31)) &&& (3 : Int32)))))))))))) := h
  refine wy_gh (Φ' := PB G ab M B) (fun H hH => by rw [hH]; exact hPB) ?_
  refine wy_aload_n C dL_book_0 1 rfl ?_
  refine wy_iload_n C dL_book_1 2 rfl ?_
  refine wy_cell (rest := []) C h.1 hX hbl hbA dL_book_2 rfl ⟨by decide, by decide⟩ (Nat.le_of_ble_eq_true rfl) ⟨Nat.zero_le _, Nat.zero_le _⟩ PB_kp ?_
  have h := h.2
  refine wy_istore (i := 4) (lv' := [(4, .int (cellV L xs x2)), (0, .ref (gAD G 0)), (1, .ref b), (2, .int x2), (3, .ref ab)]) C dL_book_5 (by decide) rfl ?_
  refine wy_aload_n C dL_book_7 4 rfl ?_
  refine wy_iconst (v := 0) C dL_book_8 (by decide) ?_
  refine wy_iconst (v := 2) C dL_book_9 (by decide) ?_
  refine wy_iload C dL_book_10 0 rfl ?_
  refine wy_bipush (v := 8) C dL_book_12 (by decide) ?_
  refine wy_some (rest := [.int (2 : Int32), .int (0 : Int32), .ref ab]) C h.1 dL_book_14 rfl ⟨by decide, by decide⟩ (Nat.le_of_ble_eq_true rfl) ⟨Nat.zero_le _, Nat.zero_le _⟩ PB_kp ?_
  have h := h.2
  refine wy_iadd C dL_book_17 ?_
  refine wy_ast (G := G) (B := B) (Φ' := PB G ab M (upd B (0 : Int32).toNatClampNeg ((2 : Int32) + (someV (cellV L xs x2) (8 : Int32))))) C hKK (fun H h => h.2) (Or.inr rfl) h.1 (PB_st hab) dL_book_18 ?_
  have h := h.2
  refine wy_aload_n C dL_book_19 4 rfl ?_
  refine wy_iconst (v := 1) C dL_book_20 (by decide) ?_
  refine wy_iconst (v := 1) C dL_book_21 (by decide) ?_
  refine wy_iload C dL_book_22 0 rfl ?_
  refine wy_iconst (v := 3) C dL_book_24 (by decide) ?_
  refine wy_ishr C dL_book_25 ?_
  refine wy_bipush (v := 8) C dL_book_26 (by decide) ?_
  refine wy_some (rest := [.int (1 : Int32), .int (1 : Int32), .ref ab]) C h.1 dL_book_28 rfl ⟨by decide, by decide⟩ (Nat.le_of_ble_eq_true rfl) ⟨Nat.zero_le _, Nat.zero_le _⟩ PB_kp ?_
  have h := h.2
  refine wy_iadd C dL_book_31 ?_
  refine wy_ast (G := G) (B := (upd B (0 : Int32).toNatClampNeg ((2 : Int32) + (someV (cellV L xs x2) (8 : Int32))))) (Φ' := PB G ab M (upd (upd B (0 : Int32).toNatClampNeg ((2 : Int32) + (someV (cellV L xs x2) (8 : Int32)))) (1 : Int32).toNatClampNeg ((1 : Int32) + (someV ((cellV L xs x2) >>> ((3 : Int32) &&& 31)) (8 : Int32))))) C hKK (fun H h => h.2) (Or.inr rfl) h.1 (PB_st hab) dL_book_32 ?_
  have h := h.2
  refine wy_aload_n C dL_book_33 4 rfl ?_
  refine wy_iconst (v := 2) C dL_book_34 (by decide) ?_
  refine wy_iload C dL_book_35 0 rfl ?_
  refine wy_bipush (v := 6) C dL_book_37 (by decide) ?_
  refine wy_ishr C dL_book_39 ?_
  refine wy_iconst (v := 3) C dL_book_40 (by decide) ?_
  refine wy_iand C dL_book_41 ?_
  refine wy_ast (G := G) (B := (upd (upd B (0 : Int32).toNatClampNeg ((2 : Int32) + (someV (cellV L xs x2) (8 : Int32)))) (1 : Int32).toNatClampNeg ((1 : Int32) + (someV ((cellV L xs x2) >>> ((3 : Int32) &&& 31)) (8 : Int32))))) (Φ' := PB G ab M (upd (upd (upd B (0 : Int32).toNatClampNeg ((2 : Int32) + (someV (cellV L xs x2) (8 : Int32)))) (1 : Int32).toNatClampNeg ((1 : Int32) + (someV ((cellV L xs x2) >>> ((3 : Int32) &&& 31)) (8 : Int32)))) (2 : Int32).toNatClampNeg (((cellV L xs x2) >>> ((6 : Int32) &&& 31)) &&& (3 : Int32)))) C hKK (fun H h => h.2) (Or.inr rfl) h.1 (PB_st hab) dL_book_42 ?_
  have h := h.2
  refine wy_aload_n C dL_book_43 4 rfl ?_
  refine wy_iconst (v := 3) C dL_book_44 (by decide) ?_
  refine wy_iload C dL_book_45 0 rfl ?_
  refine wy_bipush (v := 8) C dL_book_47 (by decide) ?_
  refine wy_ishr C dL_book_49 ?_
  refine wy_iload C dL_book_50 0 rfl ?_
  refine wy_ldc C tw_470 dL_book_52 ?_
  refine wy_iand C dL_book_54 ?_
  refine wy_if_ne C (tgt := 64) dL_book_55 (by decide) (fun hc => ?_) (fun hc => ?_)
  · have h := h.1 hc
    refine wy_bipush (v := 12) C dL_book_64 (by decide) ?_
    refine wy_sub [1, 2, 3, 4, 0] rfl ?_
    exact kL_book_66 l G ab b L xs x2 hg hA hlt hab C hr hKK hX hbl hbA (cellV L xs x2) (12 : Int32) ((cellV L xs x2) >>> ((8 : Int32) &&& 31)) (3 : Int32) M (upd (upd (upd B (0 : Int32).toNatClampNeg ((2 : Int32) + (someV (cellV L xs x2) (8 : Int32)))) (1 : Int32).toNatClampNeg ((1 : Int32) + (someV ((cellV L xs x2) >>> ((3 : Int32) &&& 31)) (8 : Int32)))) (2 : Int32).toNatClampNeg (((cellV L xs x2) >>> ((6 : Int32) &&& 31)) &&& (3 : Int32))) h
  · have h := h.2 hc
    refine wy_aload_n C dL_book_58 4 rfl ?_
    refine wy_iconst (v := 0) C dL_book_59 (by decide) ?_
    refine wy_ald (G := G) (B := (upd (upd (upd B (0 : Int32).toNatClampNeg ((2 : Int32) + (someV (cellV L xs x2) (8 : Int32)))) (1 : Int32).toNatClampNeg ((1 : Int32) + (someV ((cellV L xs x2) >>> ((3 : Int32) &&& 31)) (8 : Int32)))) (2 : Int32).toNatClampNeg (((cellV L xs x2) >>> ((6 : Int32) &&& 31)) &&& (3 : Int32)))) C hKK (fun H h => h.2) h.1 dL_book_60 ?_
    have h := h.2
    refine wy_goto C (tgt := 66) dL_book_61 (by decide) ?_
    refine wy_sub [1, 2, 3, 4, 0] rfl ?_
    exact kL_book_66 l G ab b L xs x2 hg hA hlt hab C hr hKK hX hbl hbA (cellV L xs x2) ((upd (upd (upd B (0 : Int32).toNatClampNeg ((2 : Int32) + (someV (cellV L xs x2) (8 : Int32)))) (1 : Int32).toNatClampNeg ((1 : Int32) + (someV ((cellV L xs x2) >>> ((3 : Int32) &&& 31)) (8 : Int32)))) (2 : Int32).toNatClampNeg (((cellV L xs x2) >>> ((6 : Int32) &&& 31)) &&& (3 : Int32))) (0 : Int32).toNatClampNeg) ((cellV L xs x2) >>> ((8 : Int32) &&& 31)) (3 : Int32) M (upd (upd (upd B (0 : Int32).toNatClampNeg ((2 : Int32) + (someV (cellV L xs x2) (8 : Int32)))) (1 : Int32).toNatClampNeg ((1 : Int32) + (someV ((cellV L xs x2) >>> ((3 : Int32) &&& 31)) (8 : Int32)))) (2 : Int32).toNatClampNeg (((cellV L xs x2) >>> ((6 : Int32) &&& 31)) &&& (3 : Int32))) h
