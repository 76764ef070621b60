def wL_law_48 (L : Nat) (xs : Nat → Int32) (M : Mem) (N : Mem) (B : Nat → Int32) (Z : Nat → Int32) : Prop := False
def wL_law_316 (L : Nat) (xs : Nat → Int32) (M : Mem) (N : Mem) (B : Nat → Int32) (Z : Nat → Int32) : Prop := False
def wL_law_380 (L : Nat) (xs : Nat → Int32) (k_53 : Int32 → Mem → Mem → (Nat → Int32) → (Nat → Int32) → Prop) (k_339 : Int32 → Int32 → Int32 → Mem → Mem → (Nat → Int32) → (Nat → Int32) → Prop) (v5 : Int32) (v10 : Int32) (s0 : Int32) (M : Mem) (N : Mem) (B : Nat → Int32) (Z : Nat → Int32) : Prop := k_339 v5 s0 (v10 + (1 : Int32)) M N B Z
def wL_law_379 (L : Nat) (xs : Nat → Int32) (k_53 : Int32 → Mem → Mem → (Nat → Int32) → (Nat → Int32) → Prop) (k_339 : Int32 → Int32 → Int32 → Mem → Mem → (Nat → Int32) → (Nat → Int32) → Prop) (v5 : Int32) (v10 : Int32) (M : Mem) (N : Mem) (B : Nat → Int32) (Z : Nat → Int32) : Prop := wL_law_380 L xs (k_53) (k_339) v5 v10 (0 : Int32) M N B Z
def wL_law_460 (L : Nat) (xs : Nat → Int32) (k_53 : Int32 → Mem → Mem → (Nat → Int32) → (Nat → Int32) → Prop) (k_391 : Int32 → Int32 → Int32 → Mem → Mem → (Nat → Int32) → (Nat → Int32) → Prop) (v5 : Int32) (v10 : Int32) (s0 : Int32) (M : Mem) (N : Mem) (B : Nat → Int32) (Z : Nat → Int32) : Prop := k_391 v5 s0 (v10 + (1 : Int32)) M N B Z
def wL_law_459 (L : Nat) (xs : Nat → Int32) (k_53 : Int32 → Mem → Mem → (Nat → Int32) → (Nat → Int32) → Prop) (k_391 : Int32 → Int32 → Int32 → Mem → Mem → (Nat → Int32) → (Nat → Int32) → Prop) (v5 : Int32) (v10 : Int32) (M : Mem) (N : Mem) (B : Nat → Int32) (Z : Nat → Int32) : Prop := wL_law_460 L xs (k_53) (k_391) v5 v10 (0 : Int32) M N B Z
def wL_law_515 (L : Nat) (xs : Nat → Int32) (M : Mem) (N : Mem) (B : Nat → Int32) (Z : Nat → Int32) : Prop := False
def wL_law_391 (L : Nat) (xs : Nat → Int32) (k_53 : Int32 → Mem → Mem → (Nat → Int32) → (Nat → Int32) → Prop) : Nat → Int32 → Int32 → Int32 → Mem → Mem → (Nat → Int32) → (Nat → Int32) → Prop
  | 0, _, _, _, _, _, _, _ => False
  | n + 1, v5, v9, v10, M, N, B, Z => (vp_in (0 : Int32) 20 ∧ (((B (0 : Int32).toNatClampNeg) ≤ v10 → ((v9 = 0 → wL_law_515 L xs M N B Z) ∧ (¬ v9 = 0 → (wX7_count (0 : Int32) M (fun r83 M84 => ∃ M85, AG M84 M85 ∧ (vp_in (0 : Int32) 20 ∧ ((¬ r83 = (B (0 : Int32).toNatClampNeg) → wL_law_515 L xs M85 N B Z) ∧ (r83 = (B (0 : Int32).toNatClampNeg) → (wX7_count (3 : Int32) M85 (fun r86 M87 => ∃ M88, AG M87 M88 ∧ (vp_in (1 : Int32) 20 ∧ (((B (1 : Int32).toNatClampNeg) ≤ r86 → wL_law_515 L xs M88 N B Z) ∧ (¬ (B (1 : Int32).toNatClampNeg) ≤ r86 → (wX7_count (5 : Int32) M88 (fun r89 M90 => ∃ M91, AG M90 M91 ∧ (((12 : Int32) < r89 → wL_law_515 L xs M91 N B Z) ∧ (¬ (12 : Int32) < r89 → (wX7_count (6 : Int32) M91 (fun r92 M93 => ∃ M94, AG M93 M94 ∧ ((r92 ≤ (2 : Int32) → k_53 (v5 + (1 : Int32)) M94 N B Z) ∧ (¬ r92 ≤ (2 : Int32) → wL_law_515 L xs M94 N B Z))))))))))))))))))))) ∧ (¬ (B (0 : Int32).toNatClampNeg) ≤ v10 → ((v9 = 0 → wL_law_459 L xs (k_53) (wL_law_391 L xs k_53 n) v5 v10 M N B Z) ∧ (¬ v9 = 0 → (wX7_leaf v10 (0 : Int32) M (fun r95 M96 => ∃ M97, AG M96 M97 ∧ (wX7_leaf v10 (0 : Int32) N (fun r98 M99 => ∃ M100, AG M99 M100 ∧ ((¬ r95 = r98 → wL_law_459 L xs (k_53) (wL_law_391 L xs k_53 n) v5 v10 M97 M100 B Z) ∧ (r95 = r98 → (wX7_leaf v10 (1 : Int32) M97 (fun r101 M102 => ∃ M103, AG M102 M103 ∧ (vp_in ((9 : Int32) + v10) 20 ∧ ((¬ r101 = (B ((9 : Int32) + v10).toNatClampNeg) → wL_law_459 L xs (k_53) (wL_law_391 L xs k_53 n) v5 v10 M103 M100 B Z) ∧ (r101 = (B ((9 : Int32) + v10).toNatClampNeg) → (wX7_leaf v10 (1 : Int32) M100 (fun r104 M105 => ∃ M106, AG M105 M106 ∧ (vp_in ((9 : Int32) + v10) 20 ∧ ((¬ r104 = (B ((9 : Int32) + v10).toNatClampNeg) → wL_law_459 L xs (k_53) (wL_law_391 L xs k_53 n) v5 v10 M103 M106 B Z) ∧ (r104 = (B ((9 : Int32) + v10).toNatClampNeg) → wL_law_460 L xs (k_53) (wL_law_391 L xs k_53 n) v5 v10 (1 : Int32) M103 M106 B Z)))))))))))))))))))))
def wL_law_339 (L : Nat) (xs : Nat → Int32) (k_53 : Int32 → Mem → Mem → (Nat → Int32) → (Nat → Int32) → Prop) : Nat → Int32 → Int32 → Int32 → Mem → Mem → (Nat → Int32) → (Nat → Int32) → Prop
  | 0, _, _, _, _, _, _, _ => False
  | n + 1, v5, v9, v10, M, N, B, Z => (((8 : Int32) ≤ v10 → (∃ n73, wL_law_391 L xs (k_53) n73 v5 v9 (0 : Int32) M N B Z)) ∧ (¬ (8 : Int32) ≤ v10 → ((v9 = 0 → wL_law_379 L xs (k_53) (wL_law_339 L xs k_53 n) v5 v10 M N B Z) ∧ (¬ v9 = 0 → (wX7_count v10 M (fun r74 M75 => ∃ M76, AG M75 M76 ∧ (wX7_count v10 N (fun r77 M78 => ∃ M79, AG M78 M79 ∧ ((¬ r74 = r77 → wL_law_379 L xs (k_53) (wL_law_339 L xs k_53 n) v5 v10 M76 M79 B Z) ∧ (r74 = r77 → (wX7_count v10 M76 (fun r80 M81 => ∃ M82, AG M81 M82 ∧ ((r80 < 0 → wL_law_379 L xs (k_53) (wL_law_339 L xs k_53 n) v5 v10 M82 M79 B Z) ∧ (¬ r80 < 0 → wL_law_380 L xs (k_53) (wL_law_339 L xs k_53 n) v5 v10 (1 : Int32) M82 M79 B Z))))))))))))))
def wL_law_334 (L : Nat) (xs : Nat → Int32) (k_53 : Int32 → Mem → Mem → (Nat → Int32) → (Nat → Int32) → Prop) (v5 : Int32) (s0 : Int32) (M : Mem) (N : Mem) (B : Nat → Int32) (Z : Nat → Int32) : Prop := (∃ n72, wL_law_339 L xs (k_53) n72 v5 s0 (0 : Int32) M N B Z)
def wL_law_287 (L : Nat) (xs : Nat → Int32) (k_53 : Int32 → Mem → Mem → (Nat → Int32) → (Nat → Int32) → Prop) (v5 : Int32) (v6 : Int32) (v7 : Int32) (s0 : Int32) (M : Mem) (N : Mem) (B : Nat → Int32) (Z : Nat → Int32) : Prop := ((s0 = 0 → wL_law_316 L xs M N B Z) ∧ (¬ s0 = 0 → (wL_act B v6 v7 M (fun r62 M63 => (wL_act B v6 v7 N (fun r64 M65 => (((lg_cmp r62 r64) = 0 → (wX7_so M63 (fun r66 M67 => ∃ M68, AG M67 M68 ∧ (wX7_so M65 (fun r69 M70 => ∃ M71, AG M70 M71 ∧ ((¬ r66 = r69 → wL_law_334 L xs (k_53) v5 (0 : Int32) M68 M71 B Z) ∧ (r66 = r69 → wL_law_334 L xs (k_53) v5 (1 : Int32) M68 M71 B Z))))))) ∧ (¬ (lg_cmp r62 r64) = 0 → wL_law_316 L xs M63 M65 B Z))))))))
def wL_law_286 (L : Nat) (xs : Nat → Int32) (k_53 : Int32 → Mem → Mem → (Nat → Int32) → (Nat → Int32) → Prop) (v5 : Int32) (v6 : Int32) (v7 : Int32) (M : Mem) (N : Mem) (B : Nat → Int32) (Z : Nat → Int32) : Prop := wL_law_287 L xs (k_53) v5 v6 v7 (0 : Int32) M N B Z
def wL_law_53 (L : Nat) (xs : Nat → Int32) : Nat → Int32 → Mem → Mem → (Nat → Int32) → (Nat → Int32) → Prop
  | 0, _, _, _, _, _ => False
  | n + 1, v5, M, N, B, Z => (((40 : Int32) ≤ v5 → True) ∧ (¬ (40 : Int32) ≤ v5 → ((¬ Int32.ofNat L ≤ ((5 : Int32) + ((2 : Int32) * v5)) → vp_in ((5 : Int32) + ((2 : Int32) * v5)) L) ∧ ((¬ Int32.ofNat L ≤ ((6 : Int32) + ((2 : Int32) * v5)) → vp_in ((6 : Int32) + ((2 : Int32) * v5)) L) ∧ (wX7_write (9 : Int32) (0 : Int64) N (fun r8 M9 => ∃ M10, AG M9 M10 ∧ ((¬ r8 = (-1 : Int32) → wL_law_286 L xs (wL_law_53 L xs n) v5 (cellV L xs ((5 : Int32) + ((2 : Int32) * v5))) (cellV L xs ((6 : Int32) + ((2 : Int32) * v5))) M M10 B Z) ∧ (r8 = (-1 : Int32) → (wX7_leaf (40 : Int32) (0 : Int32) M10 (fun r11 M12 => ∃ M13, AG M12 M13 ∧ ((¬ r11 = (-1 : Int32) → wL_law_286 L xs (wL_law_53 L xs n) v5 (cellV L xs ((5 : Int32) + ((2 : Int32) * v5))) (cellV L xs ((6 : Int32) + ((2 : Int32) * v5))) M M13 B Z) ∧ (r11 = (-1 : Int32) → (wX7_where (-1 : Int32) M13 (fun r14 M15 => ∃ M16, AG M15 M16 ∧ ((¬ r14 = (-1 : Int32) → wL_law_286 L xs (wL_law_53 L xs n) v5 (cellV L xs ((5 : Int32) + ((2 : Int32) * v5))) (cellV L xs ((6 : Int32) + ((2 : Int32) * v5))) M M16 B Z) ∧ (r14 = (-1 : Int32) → (wX7_change (0 : Int32) (40 : Int32) M16 (fun r17 M18 => ∃ M19, AG M18 M19 ∧ ((¬ r17 = (-1 : Int32) → wL_law_286 L xs (wL_law_53 L xs n) v5 (cellV L xs ((5 : Int32) + ((2 : Int32) * v5))) (cellV L xs ((6 : Int32) + ((2 : Int32) * v5))) M M19 B Z) ∧ (r17 = (-1 : Int32) → (wX7_drop (10000 : Int32) M19 (fun r20 M21 => ∃ M22, AG M21 M22 ∧ ((¬ r20 = (-1 : Int32) → wL_law_286 L xs (wL_law_53 L xs n) v5 (cellV L xs ((5 : Int32) + ((2 : Int32) * v5))) (cellV L xs ((6 : Int32) + ((2 : Int32) * v5))) M M22 B Z) ∧ (r20 = (-1 : Int32) → (wX7_has (0 : Int64) (40 : Int32) M22 (fun r23 M24 => ∃ M25, AG M24 M25 ∧ ((¬ r23 = (-1 : Int32) → wL_law_286 L xs (wL_law_53 L xs n) v5 (cellV L xs ((5 : Int32) + ((2 : Int32) * v5))) (cellV L xs ((6 : Int32) + ((2 : Int32) * v5))) M M25 B Z) ∧ (r23 = (-1 : Int32) → (wX7_leaves (-1 : Int64) M25 (fun r26 M27 => ∃ M28, AG M27 M28 ∧ ((¬ (lg_cmp r26 (-1 : Int64)) = 0 → wL_law_286 L xs (wL_law_53 L xs n) v5 (cellV L xs ((5 : Int32) + ((2 : Int32) * v5))) (cellV L xs ((6 : Int32) + ((2 : Int32) * v5))) M M28 B Z) ∧ ((lg_cmp r26 (-1 : Int64)) = 0 → (wX7_ever (2 : Int32) M28 (fun r29 M30 => ∃ M31, AG M30 M31 ∧ ((¬ (lg_cmp r29 (-1 : Int64)) = 0 → wL_law_286 L xs (wL_law_53 L xs n) v5 (cellV L xs ((5 : Int32) + ((2 : Int32) * v5))) (cellV L xs ((6 : Int32) + ((2 : Int32) * v5))) M M31 B Z) ∧ ((lg_cmp r29 (-1 : Int64)) = 0 → (wX7_right (-5 : Int64) M31 (fun r32 M33 => ∃ M34, AG M33 M34 ∧ ((¬ r32 = (-1 : Int32) → wL_law_286 L xs (wL_law_53 L xs n) v5 (cellV L xs ((5 : Int32) + ((2 : Int32) * v5))) (cellV L xs ((6 : Int32) + ((2 : Int32) * v5))) M M34 B Z) ∧ (r32 = (-1 : Int32) → (wX7_order (0 : Int64) (40 : Int32) M34 (fun r35 M36 => ∃ M37, AG M36 M37 ∧ ((¬ r35 = (-1 : Int32) → wL_law_286 L xs (wL_law_53 L xs n) v5 (cellV L xs ((5 : Int32) + ((2 : Int32) * v5))) (cellV L xs ((6 : Int32) + ((2 : Int32) * v5))) M M37 B Z) ∧ (r35 = (-1 : Int32) → (wX7_shows (4 : Int32) (0 : Int32) M37 (fun r38 M39 => ∃ M40, AG M39 M40 ∧ ((¬ r38 = (-1 : Int32) → wL_law_286 L xs (wL_law_53 L xs n) v5 (cellV L xs ((5 : Int32) + ((2 : Int32) * v5))) (cellV L xs ((6 : Int32) + ((2 : Int32) * v5))) M M40 B Z) ∧ (r38 = (-1 : Int32) → (wX7_quickest (3 : Int32) M40 (fun r41 M42 => ∃ M43, AG M42 M43 ∧ ((¬ r41 = (-1 : Int32) → wL_law_286 L xs (wL_law_53 L xs n) v5 (cellV L xs ((5 : Int32) + ((2 : Int32) * v5))) (cellV L xs ((6 : Int32) + ((2 : Int32) * v5))) M M43 B Z) ∧ (r41 = (-1 : Int32) → (wX7_seen (0 : Int64) (0 : Int32) (40 : Int32) M43 (fun r44 M45 => ∃ M46, AG M45 M46 ∧ ((¬ r44 = (-1 : Int32) → wL_law_286 L xs (wL_law_53 L xs n) v5 (cellV L xs ((5 : Int32) + ((2 : Int32) * v5))) (cellV L xs ((6 : Int32) + ((2 : Int32) * v5))) M M46 B Z) ∧ (r44 = (-1 : Int32) → (wX7_sure (40 : Int32) M46 (fun r47 M48 => ∃ M49, AG M48 M49 ∧ ((¬ r47 = (-1 : Int32) → wL_law_286 L xs (wL_law_53 L xs n) v5 (cellV L xs ((5 : Int32) + ((2 : Int32) * v5))) (cellV L xs ((6 : Int32) + ((2 : Int32) * v5))) M M49 B Z) ∧ (r47 = (-1 : Int32) → (wX7_lacks (40 : Int32) (0 : Int32) M49 (fun r50 M51 => ∃ M52, AG M51 M52 ∧ ((¬ r50 = (-1 : Int32) → wL_law_286 L xs (wL_law_53 L xs n) v5 (cellV L xs ((5 : Int32) + ((2 : Int32) * v5))) (cellV L xs ((6 : Int32) + ((2 : Int32) * v5))) M M52 B Z) ∧ (r50 = (-1 : Int32) → (wX7_notice (0 : Int32) (0 : Int32) (1001 : Int32) M52 (fun r53 M54 => ∃ M55, AG M54 M55 ∧ ((¬ r53 = (-1 : Int32) → wL_law_286 L xs (wL_law_53 L xs n) v5 (cellV L xs ((5 : Int32) + ((2 : Int32) * v5))) (cellV L xs ((6 : Int32) + ((2 : Int32) * v5))) M M55 B Z) ∧ (r53 = (-1 : Int32) → (wX7_pleased (0 : Int32) (0 : Int32) M55 (fun r56 M57 => ∃ M58, AG M57 M58 ∧ ((¬ r56 = (-1 : Int32) → wL_law_286 L xs (wL_law_53 L xs n) v5 (cellV L xs ((5 : Int32) + ((2 : Int32) * v5))) (cellV L xs ((6 : Int32) + ((2 : Int32) * v5))) M M58 B Z) ∧ (r56 = (-1 : Int32) → (wX7_count (8 : Int32) M58 (fun r59 M60 => ∃ M61, AG M60 M61 ∧ ((¬ r59 = (-1 : Int32) → wL_law_286 L xs (wL_law_53 L xs n) v5 (cellV L xs ((5 : Int32) + ((2 : Int32) * v5))) (cellV L xs ((6 : Int32) + ((2 : Int32) * v5))) M M61 B Z) ∧ (r59 = (-1 : Int32) → wL_law_287 L xs (wL_law_53 L xs n) v5 (cellV L xs ((5 : Int32) + ((2 : Int32) * v5))) (cellV L xs ((6 : Int32) + ((2 : Int32) * v5))) (1 : Int32) M M61 B Z))))))))))))))))))))))))))))))))))))))))))))))))))))))))))))))))))))))))))))
def wL_law (L : Nat) (xs : Nat → Int32) (M : Mem) (N : Mem) (B : Nat → Int32) (Z : Nat → Int32) : Prop := (wL_book L xs (0 : Int32) M B (fun r1 M2 B3 => ((r1 = 0 → wL_law_48 L xs M2 N B3 Z) ∧ (¬ r1 = 0 → (wL_book L xs (0 : Int32) N Z (fun r4 M5 B6 => ((¬ r4 = 0 → (∃ n7, wL_law_53 L xs n7 (0 : Int32) M2 M5 B3 B6)) ∧ (r4 = 0 → wL_law_48 L xs M2 M5 B3 B6))))))))
set_option maxRecDepth 100000 in
set_option maxHeartbeats 40000000 in
theorem kL_law_48 {p : Program} {e : Env} {s : State} {m : MethodId} {below : List Frame} {meth : Method} {c : Code} {cells slots : Nat} (l : Launch) (G1 G2 : gP) (ab ac b : Nat) (L : Nat) (xs : Nat → Int32) (hLH : LH G1 G2 ab ac s) (C : Cy p s m #[Value.ref b] meth c cL_law 11 RL) (hr : meth.sig.returnType = ret) (hlocks : meth.locks = false) (hA0 : c.code = code) (hcc : cells ≤ 600000) (hss : slots ≤ 7302250) (hX : va_X b L xs s s.heap) (hbl : b < s.heap.size) (M : Mem) (N : Mem) (B : Nat → Int32) (Z : Nat → Int32) (h : wL_law_48 L xs M N B Z) : Wy p l e room_1 s m #[Value.ref b] below meth c (lw_Z below #[Value.ref b] s) (fun q : Nat => s.heap.size ≤ q) 11 cells slots (PL G1 G2 ab ac M N B Z) 48 [] [] := by
  have h : False := h
  exact h.elim
set_option maxRecDepth 100000 in
set_option maxHeartbeats 40000000 in
theorem kL_law_316 {p : Program} {e : Env} {s : State} {m : MethodId} {below : List Frame} {meth : Method} {c : Code} {cells slots : Nat} (l : Launch) (G1 G2 : gP) (ab ac b : Nat) (L : Nat) (xs : Nat → Int32) (hLH : LH G1 G2 ab ac s) (C : Cy p s m #[Value.ref b] meth c cL_law 11 RL) (hr : meth.sig.returnType = ret) (hlocks : meth.locks = false) (hA0 : c.code = code) (hcc : cells ≤ 600000) (hss : slots ≤ 7302250) (hX : va_X b L xs s s.heap) (hbl : b < s.heap.size) (M : Mem) (N : Mem) (B : Nat → Int32) (Z : Nat → Int32) (h : wL_law_316 L xs M N B Z) : Wy p l e room_1 s m #[Value.ref b] below meth c (lw_Z below #[Value.ref b] s) (fun q : Nat => s.heap.size ≤ q) 11 cells slots (PL G1 G2 ab ac M N B Z) 316 [] [] := by
  have h : False := h
  exact h.elim
set_option maxRecDepth 100000 in
set_option maxHeartbeats 40000000 in
theorem kL_law_380 {p : Program} {e : Env} {s : State} {m : MethodId} {below : List Frame} {meth : Method} {c : Code} {cells slots : Nat} (l : Launch) (G1 G2 : gP) (ab ac b : Nat) (L : Nat) (xs : Nat → Int32) (hLH : LH G1 G2 ab ac s) (C : Cy p s m #[Value.ref b] meth c cL_law 11 RL) (hr : meth.sig.returnType = ret) (hlocks : meth.locks = false) (hA0 : c.code = code) (hcc : cells ≤ 600000) (hss : slots ≤ 7302250) (hX : va_X b L xs s s.heap) (hbl : b < s.heap.size) (k_53 : Int32 → Mem → Mem → (Nat → Int32) → (Nat → Int32) → Prop) (hk_53 : ∀ (v5 : Int32) (M : Mem) (N : Mem) (B : Nat → Int32) (Z : Nat → Int32), k_53 v5 M N B Z → Wy p l e room_1 s m #[Value.ref b] below meth c (lw_Z below #[Value.ref b] s) (fun q : Nat => s.heap.size ≤ q) 11 cells slots (PL G1 G2 ab ac M N B Z) 53 [(0, .ref b), (1, .ref (gAD G1 0)), (2, .ref (gAD G2 0)), (3, .ref ab), (5, .int v5)] []) (k_339 : Int32 → Int32 → Int32 → Mem → Mem → (Nat → Int32) → (Nat → Int32) → Prop) (hk_339 : ∀ (v5 : Int32) (v9 : Int32) (v10 : Int32) (M : Mem) (N : Mem) (B : Nat → Int32) (Z : Nat → Int32), k_339 v5 v9 v10 M N B Z → Wy p l e room_1 s m #[Value.ref b] below meth c (lw_Z below #[Value.ref b] s) (fun q : Nat => s.heap.size ≤ q) 11 cells slots (PL G1 G2 ab ac M N B Z) 339 [(0, .ref b), (1, .ref (gAD G1 0)), (2, .ref (gAD G2 0)), (3, .ref ab), (5, .int v5), (9, .int v9), (10, .int v10)] []) (v5 : Int32) (v10 : Int32) (s0 : Int32) (M : Mem) (N : Mem) (B : Nat → Int32) (Z : Nat → Int32) (h : wL_law_380 L xs k_53 k_339 v5 v10 s0 M N B Z) : Wy p l e room_1 s m #[Value.ref b] below meth c (lw_Z below #[Value.ref b] s) (fun q : Nat => s.heap.size ≤ q) 11 cells slots (PL G1 G2 ab ac M N B Z) 380 [(0, .ref b), (1, .ref (gAD G1 0)), (2, .ref (gAD G2 0)), (3, .ref ab), (5, .int v5), (10, .int v10)] [.int s0] := by
  have h : k_339 v5 s0 (v10 + (1 : Int32)) M N B Z := h
  refine wy_istore (i := 9) (lv' := [(9, .int s0), (0, .ref b), (1, .ref (gAD G1 0)), (2, .ref (gAD G2 0)), (3, .ref ab), (5, .int v5), (10, .int v10)]) C dL_law_380 (by decide) rfl ?_
  refine wy_iinc (v := (v10 + (1 : Int32))) (lv' := [(10, .int (v10 + (1 : Int32))), (9, .int s0), (0, .ref b), (1, .ref (gAD G1 0)), (2, .ref (gAD G2 0)), (3, .ref ab), (5, .int v5)]) C dL_law_382 6 rfl (by rfl) (by decide) rfl ?_
  refine wy_goto C (tgt := 339) dL_law_385 (by decide) ?_
  refine wy_sub [2, 3, 4, 5, 6, 1, 0] rfl ?_
  exact hk_339 v5 s0 (v10 + (1 : Int32)) M N B Z h
set_option maxRecDepth 100000 in
set_option maxHeartbeats 40000000 in
theorem kL_law_379 {p : Program} {e : Env} {s : State} {m : MethodId} {below : List Frame} {meth : Method} {c : Code} {cells slots : Nat} (l : Launch) (G1 G2 : gP) (ab ac b : Nat) (L : Nat) (xs : Nat → Int32) (hLH : LH G1 G2 ab ac s) (C : Cy p s m #[Value.ref b] meth c cL_law 11 RL) (hr : meth.sig.returnType = ret) (hlocks : meth.locks = false) (hA0 : c.code = code) (hcc : cells ≤ 600000) (hss : slots ≤ 7302250) (hX : va_X b L xs s s.heap) (hbl : b < s.heap.size) (k_53 : Int32 → Mem → Mem → (Nat → Int32) → (Nat → Int32) → Prop) (hk_53 : ∀ (v5 : Int32) (M : Mem) (N : Mem) (B : Nat → Int32) (Z : Nat → Int32), k_53 v5 M N B Z → Wy p l e room_1 s m #[Value.ref b] below meth c (lw_Z below #[Value.ref b] s) (fun q : Nat => s.heap.size ≤ q) 11 cells slots (PL G1 G2 ab ac M N B Z) 53 [(0, .ref b), (1, .ref (gAD G1 0)), (2, .ref (gAD G2 0)), (3, .ref ab), (5, .int v5)] []) (k_339 : Int32 → Int32 → Int32 → Mem → Mem → (Nat → Int32) → (Nat → Int32) → Prop) (hk_339 : ∀ (v5 : Int32) (v9 : Int32) (v10 : Int32) (M : Mem) (N : Mem) (B : Nat → Int32) (Z : Nat → Int32), k_339 v5 v9 v10 M N B Z → Wy p l e room_1 s m #[Value.ref b] below meth c (lw_Z below #[Value.ref b] s) (fun q : Nat => s.heap.size ≤ q) 11 cells slots (PL G1 G2 ab ac M N B Z) 339 [(0, .ref b), (1, .ref (gAD G1 0)), (2, .ref (gAD G2 0)), (3, .ref ab), (5, .int v5), (9, .int v9), (10, .int v10)] []) (v5 : Int32) (v10 : Int32) (M : Mem) (N : Mem) (B : Nat → Int32) (Z : Nat → Int32) (h : wL_law_379 L xs k_53 k_339 v5 v10 M N B Z) : Wy p l e room_1 s m #[Value.ref b] below meth c (lw_Z below #[Value.ref b] s) (fun q : Nat => s.heap.size ≤ q) 11 cells slots (PL G1 G2 ab ac M N B Z) 379 [(0, .ref b), (1, .ref (gAD G1 0)), (2, .ref (gAD G2 0)), (3, .ref ab), (5, .int v5), (10, .int v10)] [] := by
  have h : wL_law_380 L xs (k_53) (k_339) v5 v10 (0 : Int32) M N B Z := h
  refine wy_iconst (v := 0) C dL_law_379 (by decide) ?_
  refine wy_sub [0, 1, 2, 3, 4, 5] rfl ?_
  exact kL_law_380 l G1 G2 ab ac b L xs hLH C hr hlocks hA0 hcc hss hX hbl (k_53) (hk_53) (k_339) (hk_339) v5 v10 (0 : Int32) M N B Z h
set_option maxRecDepth 100000 in
set_option maxHeartbeats 40000000 in
theorem kL_law_460 {p : Program} {e : Env} {s : State} {m : MethodId} {below : List Frame} {meth : Method} {c : Code} {cells slots : Nat} (l : Launch) (G1 G2 : gP) (ab ac b : Nat) (L : Nat) (xs : Nat → Int32) (hLH : LH G1 G2 ab ac s) (C : Cy p s m #[Value.ref b] meth c cL_law 11 RL) (hr : meth.sig.returnType = ret) (hlocks : meth.locks = false) (hA0 : c.code = code) (hcc : cells ≤ 600000) (hss : slots ≤ 7302250) (hX : va_X b L xs s s.heap) (hbl : b < s.heap.size) (k_53 : Int32 → Mem → Mem → (Nat → Int32) → (Nat → Int32) → Prop) (hk_53 : ∀ (v5 : Int32) (M : Mem) (N : Mem) (B : Nat → Int32) (Z : Nat → Int32), k_53 v5 M N B Z → Wy p l e room_1 s m #[Value.ref b] below meth c (lw_Z below #[Value.ref b] s) (fun q : Nat => s.heap.size ≤ q) 11 cells slots (PL G1 G2 ab ac M N B Z) 53 [(0, .ref b), (1, .ref (gAD G1 0)), (2, .ref (gAD G2 0)), (3, .ref ab), (5, .int v5)] []) (k_391 : Int32 → Int32 → Int32 → Mem → Mem → (Nat → Int32) → (Nat → Int32) → Prop) (hk_391 : ∀ (v5 : Int32) (v9 : Int32) (v10 : Int32) (M : Mem) (N : Mem) (B : Nat → Int32) (Z : Nat → Int32), k_391 v5 v9 v10 M N B Z → Wy p l e room_1 s m #[Value.ref b] below meth c (lw_Z below #[Value.ref b] s) (fun q : Nat => s.heap.size ≤ q) 11 cells slots (PL G1 G2 ab ac M N B Z) 391 [(0, .ref b), (1, .ref (gAD G1 0)), (2, .ref (gAD G2 0)), (3, .ref ab), (5, .int v5), (9, .int v9), (10, .int v10)] []) (v5 : Int32) (v10 : Int32) (s0 : Int32) (M : Mem) (N : Mem) (B : Nat → Int32) (Z : Nat → Int32) (h : wL_law_460 L xs k_53 k_391 v5 v10 s0 M N B Z) : Wy p l e room_1 s m #[Value.ref b] below meth c (lw_Z below #[Value.ref b] s) (fun q : Nat => s.heap.size ≤ q) 11 cells slots (PL G1 G2 ab ac M N B Z) 460 [(0, .ref b), (1, .ref (gAD G1 0)), (2, .ref (gAD G2 0)), (3, .ref ab), (5, .int v5), (10, .int v10)] [.int s0] := by
  have h : k_391 v5 s0 (v10 + (1 : Int32)) M N B Z := h
  refine wy_istore (i := 9) (lv' := [(9, .int s0), (0, .ref b), (1, .ref (gAD G1 0)), (2, .ref (gAD G2 0)), (3, .ref ab), (5, .int v5), (10, .int v10)]) C dL_law_460 (by decide) rfl ?_
  refine wy_iinc (v := (v10 + (1 : Int32))) (lv' := [(10, .int (v10 + (1 : Int32))), (9, .int s0), (0, .ref b), (1, .ref (gAD G1 0)), (2, .ref (gAD G2 0)), (3, .ref ab), (5, .int v5)]) C dL_law_462 6 rfl (by rfl) (by decide) rfl ?_
  refine wy_goto C (tgt := 391) dL_law_465 (by decide) ?_
  refine wy_sub [2, 3, 4, 5, 6, 1, 0] rfl ?_
  exact hk_391 v5 s0 (v10 + (1 : Int32)) M N B Z h
set_option maxRecDepth 100000 in
set_option maxHeartbeats 40000000 in
theorem kL_law_459 {p : Program} {e : Env} {s : State} {m : MethodId} {below : List Frame} {meth : Method} {c : Code} {cells slots : Nat} (l : Launch) (G1 G2 : gP) (ab ac b : Nat) (L : Nat) (xs : Nat → Int32) (hLH : LH G1 G2 ab ac s) (C : Cy p s m #[Value.ref b] meth c cL_law 11 RL) (hr : meth.sig.returnType = ret) (hlocks : meth.locks = false) (hA0 : c.code = code) (hcc : cells ≤ 600000) (hss : slots ≤ 7302250) (hX : va_X b L xs s s.heap) (hbl : b < s.heap.size) (k_53 : Int32 → Mem → Mem → (Nat → Int32) → (Nat → Int32) → Prop) (hk_53 : ∀ (v5 : Int32) (M : Mem) (N : Mem) (B : Nat → Int32) (Z : Nat → Int32), k_53 v5 M N B Z → Wy p l e room_1 s m #[Value.ref b] below meth c (lw_Z below #[Value.ref b] s) (fun q : Nat => s.heap.size ≤ q) 11 cells slots (PL G1 G2 ab ac M N B Z) 53 [(0, .ref b), (1, .ref (gAD G1 0)), (2, .ref (gAD G2 0)), (3, .ref ab), (5, .int v5)] []) (k_391 : Int32 → Int32 → Int32 → Mem → Mem → (Nat → Int32) → (Nat → Int32) → Prop) (hk_391 : ∀ (v5 : Int32) (v9 : Int32) (v10 : Int32) (M : Mem) (N : Mem) (B : Nat → Int32) (Z : Nat → Int32), k_391 v5 v9 v10 M N B Z → Wy p l e room_1 s m #[Value.ref b] below meth c (lw_Z below #[Value.ref b] s) (fun q : Nat => s.heap.size ≤ q) 11 cells slots (PL G1 G2 ab ac M N B Z) 391 [(0, .ref b), (1, .ref (gAD G1 0)), (2, .ref (gAD G2 0)), (3, .ref ab), (5, .int v5), (9, .int v9), (10, .int v10)] []) (v5 : Int32) (v10 : Int32) (M : Mem) (N : Mem) (B : Nat → Int32) (Z : Nat → Int32) (h : wL_law_459 L xs k_53 k_391 v5 v10 M N B Z) : Wy p l e room_1 s m #[Value.ref b] below meth c (lw_Z below #[Value.ref b] s) (fun q : Nat => s.heap.size ≤ q) 11 cells slots (PL G1 G2 ab ac M N B Z) 459 [(0, .ref b), (1, .ref (gAD G1 0)), (2, .ref (gAD G2 0)), (3, .ref ab), (5, .int v5), (10, .int v10)] [] := by
  have h : wL_law_460 L xs (k_53) (k_391) v5 v10 (0 : Int32) M N B Z := h
  refine wy_iconst (v := 0) C dL_law_459 (by decide) ?_
  refine wy_sub [0, 1, 2, 3, 4, 5] rfl ?_
  exact kL_law_460 l G1 G2 ab ac b L xs hLH C hr hlocks hA0 hcc hss hX hbl (k_53) (hk_53) (k_391) (hk_391) v5 v10 (0 : Int32) M N B Z h
set_option maxRecDepth 100000 in
set_option maxHeartbeats 40000000 in
theorem kL_law_515 {p : Program} {e : Env} {s : State} {m : MethodId} {below : List Frame} {meth : Method} {c : Code} {cells slots : Nat} (l : Launch) (G1 G2 : gP) (ab ac b : Nat) (L : Nat) (xs : Nat → Int32) (hLH : LH G1 G2 ab ac s) (C : Cy p s m #[Value.ref b] meth c cL_law 11 RL) (hr : meth.sig.returnType = ret) (hlocks : meth.locks = false) (hA0 : c.code = code) (hcc : cells ≤ 600000) (hss : slots ≤ 7302250) (hX : va_X b L xs s s.heap) (hbl : b < s.heap.size) (M : Mem) (N : Mem) (B : Nat → Int32) (Z : Nat → Int32) (h : wL_law_515 L xs M N B Z) : Wy p l e room_1 s m #[Value.ref b] below meth c (lw_Z below #[Value.ref b] s) (fun q : Nat => s.heap.size ≤ q) 11 cells slots (PL G1 G2 ab ac M N B Z) 515 [] [] := by
  have h : False := h
  exact h.elim
set_option maxRecDepth 100000 in
set_option maxHeartbeats 40000000 in
theorem kL_law_391 {p : Program} {e : Env} {s : State} {m : MethodId} {below : List Frame} {meth : Method} {c : Code} {cells slots : Nat} (l : Launch) (G1 G2 : gP) (ab ac b : Nat) (L : Nat) (xs : Nat → Int32) (hLH : LH G1 G2 ab ac s) (C : Cy p s m #[Value.ref b] meth c cL_law 11 RL) (hr : meth.sig.returnType = ret) (hlocks : meth.locks = false) (hA0 : c.code = code) (hcc : cells ≤ 600000) (hss : slots ≤ 7302250) (hX : va_X b L xs s s.heap) (hbl : b < s.heap.size) (k_53 : Int32 → Mem → Mem → (Nat → Int32) → (Nat → Int32) → Prop) (hk_53 : ∀ (v5 : Int32) (M : Mem) (N : Mem) (B : Nat → Int32) (Z : Nat → Int32), k_53 v5 M N B Z → Wy p l e room_1 s m #[Value.ref b] below meth c (lw_Z below #[Value.ref b] s) (fun q : Nat => s.heap.size ≤ q) 11 cells slots (PL G1 G2 ab ac M N B Z) 53 [(0, .ref b), (1, .ref (gAD G1 0)), (2, .ref (gAD G2 0)), (3, .ref ab), (5, .int v5)] []) : ∀ (n : Nat) (v5 : Int32) (v9 : Int32) (v10 : Int32) (M : Mem) (N : Mem) (B : Nat → Int32) (Z : Nat → Int32), wL_law_391 L xs k_53 n v5 v9 v10 M N B Z → Wy p l e room_1 s m #[Value.ref b] below meth c (lw_Z below #[Value.ref b] s) (fun q : Nat => s.heap.size ≤ q) 11 cells slots (PL G1 G2 ab ac M N B Z) 391 [(0, .ref b), (1, .ref (gAD G1 0)), (2, .ref (gAD G2 0)), (3, .ref ab), (5, .int v5), (9, .int v9), (10, .int v10)] [] := by
  intro n
  induction n with
  | zero => intro v5 v9 v10 M N B Z h; exact h.elim
  | succ n ih =>
    intro v5 v9 v10 M N B Z h
    have h : (vp_in (0 : Int32) 20 ∧ (((B (0 : Int32).toNatClampNeg) ≤ v10 → ((v9 = 0 → wL_law_515 L xs M N B Z) ∧ (¬ v9 = 0 → (wX7_count (0 : Int32) M (fun r83 M84 => ∃ M85, AG M84 M85 ∧ (vp_in (0 : Int32) 20 ∧ ((¬ r83 = (B (0 : Int32).toNatClampNeg) → wL_law_515 L xs M85 N B Z) ∧ (r83 = (B (0 : Int32).toNatClampNeg) → (wX7_count (3 : Int32) M85 (fun r86 M87 => ∃ M88, AG M87 M88 ∧ (vp_in (1 : Int32) 20 ∧ (((B (1 : Int32).toNatClampNeg) ≤ r86 → wL_law_515 L xs M88 N B Z) ∧ (¬ (B (1 : Int32).toNatClampNeg) ≤ r86 → (wX7_count (5 : Int32) M88 (fun r89 M90 => ∃ M91, AG M90 M91 ∧ (((12 : Int32) < r89 → wL_law_515 L xs M91 N B Z) ∧ (¬ (12 : Int32) < r89 → (wX7_count (6 : Int32) M91 (fun r92 M93 => ∃ M94, AG M93 M94 ∧ ((r92 ≤ (2 : Int32) → k_53 (v5 + (1 : Int32)) M94 N B Z) ∧ (¬ r92 ≤ (2 : Int32) → wL_law_515 L xs M94 N B Z))))))))))))))))))))) ∧ (¬ (B (0 : Int32).toNatClampNeg) ≤ v10 → ((v9 = 0 → wL_law_459 L xs (k_53) (wL_law_391 L xs k_53 n) v5 v10 M N B Z) ∧ (¬ v9 = 0 → (wX7_leaf v10 (0 : Int32) M (fun r95 M96 => ∃ M97, AG M96 M97 ∧ (wX7_leaf v10 (0 : Int32) N (fun r98 M99 => ∃ M100, AG M99 M100 ∧ ((¬ r95 = r98 → wL_law_459 L xs (k_53) (wL_law_391 L xs k_53 n) v5 v10 M97 M100 B Z) ∧ (r95 = r98 → (wX7_leaf v10 (1 : Int32) M97 (fun r101 M102 => ∃ M103, AG M102 M103 ∧ (vp_in ((9 : Int32) + v10) 20 ∧ ((¬ r101 = (B ((9 : Int32) + v10).toNatClampNeg) → wL_law_459 L xs (k_53) (wL_law_391 L xs k_53 n) v5 v10 M103 M100 B Z) ∧ (r101 = (B ((9 : Int32) + v10).toNatClampNeg) → (wX7_leaf v10 (1 : Int32) M100 (fun r104 M105 => ∃ M106, AG M105 M106 ∧ (vp_in ((9 : Int32) + v10) 20 ∧ ((¬ r104 = (B ((9 : Int32) + v10).toNatClampNeg) → wL_law_459 L xs (k_53) (wL_law_391 L xs k_53 n) v5 v10 M103 M106 B Z) ∧ (r104 = (B ((9 : Int32) + v10).toNatClampNeg) → wL_law_460 L xs (k_53) (wL_law_391 L xs k_53 n) v5 v10 (1 : Int32) M103 M106 B Z))))))))))))))))))))) := h
    refine wy_iload C dL_law_391 6 rfl ?_
    refine wy_aload_n C dL_law_393 3 rfl ?_
    refine wy_iconst (v := 0) C dL_law_394 (by decide) ?_
    refine wy_ald (G := G1) (B := B) C (LH_kk1 hLH) (fun H h => h.2.2.1) h.1 dL_law_395 ?_
    have h := h.2
    refine wy_icmp_ge C (tgt := 468) dL_law_396 (by decide) (fun hc => ?_) (fun hc => ?_)
    · have h := h.1 hc
      refine wy_iload C dL_law_468 5 rfl ?_
      refine wy_if_eq C (tgt := 515) dL_law_470 (by decide) (fun hc => ?_) (fun hc => ?_)
      · have h := h.1 hc
        refine wy_sub [] rfl ?_
        exact kL_law_515 l G1 G2 ab ac b L xs hLH C hr hlocks hA0 hcc hss hX hbl M N B Z h
      · have h := h.2 hc
        refine wy_aload_n C dL_law_473 1 rfl ?_
        refine wy_iconst (v := 0) C dL_law_474 (by decide) ?_
        refine wy_callVi (Φ1 := fun (u : Mem) => (PL G1 G2 ab ac u N B Z)) C (cX7_count_M l G1 (LH_go hLH).1 (LH_go hLH).2.1 (0 : Int32) M _) h cw_RL_148 hd_X7_count ⟨rfl, rfl⟩ ⟨by decide, by decide⟩ ((LH_go hLH).2.1 0 (by decide)) (gc_k kq_0) rfl (As := [.int (0 : Int32)]) (rest := []) rfl (Nat.le_of_ble_eq_true rfl) ⟨hcc, hss⟩ rfl dL_law_475 (LH_go hLH).2.2.2.1 (LH_go hLH).2.2.2.2 (fun H h => h.1) (PL_o hLH) (fun r83 M84 h => ?_)
        obtain ⟨M85, hag, h⟩ := h
        refine wy_gh (Φ' := (PL G1 G2 ab ac M85 N B Z)) (fun H hH => PL_go (LH_go hLH).2.2.1 hag hH) ?_
        refine wy_aload_n C dL_law_478 3 rfl ?_
        refine wy_iconst (v := 0) C dL_law_479 (by decide) ?_
        refine wy_ald (G := G1) (B := B) C (LH_kk1 hLH) (fun H h => h.2.2.1) h.1 dL_law_480 ?_
        have h := h.2
        refine wy_icmp_ne C (tgt := 515) dL_law_481 (by decide) (fun hc => ?_) (fun hc => ?_)
        · have h := h.1 hc
          refine wy_sub [] rfl ?_
          exact kL_law_515 l G1 G2 ab ac b L xs hLH C hr hlocks hA0 hcc hss hX hbl M85 N B Z h
        · have h := h.2 hc
          refine wy_aload_n C dL_law_484 1 rfl ?_
          refine wy_iconst (v := 3) C dL_law_485 (by decide) ?_
          refine wy_callVi (Φ1 := fun (u : Mem) => (PL G1 G2 ab ac u N B Z)) C (cX7_count_M l G1 (LH_go hLH).1 (LH_go hLH).2.1 (3 : Int32) M85 _) h cw_RL_148 hd_X7_count ⟨rfl, rfl⟩ ⟨by decide, by decide⟩ ((LH_go hLH).2.1 0 (by decide)) (gc_k kq_0) rfl (As := [.int (3 : Int32)]) (rest := []) rfl (Nat.le_of_ble_eq_true rfl) ⟨hcc, hss⟩ rfl dL_law_486 (LH_go hLH).2.2.2.1 (LH_go hLH).2.2.2.2 (fun H h => h.1) (PL_o hLH) (fun r86 M87 h => ?_)
          obtain ⟨M88, hag, h⟩ := h
          refine wy_gh (Φ' := (PL G1 G2 ab ac M88 N B Z)) (fun H hH => PL_go (LH_go hLH).2.2.1 hag hH) ?_
          refine wy_aload_n C dL_law_489 3 rfl ?_
          refine wy_iconst (v := 1) C dL_law_490 (by decide) ?_
          refine wy_ald (G := G1) (B := B) C (LH_kk1 hLH) (fun H h => h.2.2.1) h.1 dL_law_491 ?_
          have h := h.2
          refine wy_icmp_ge C (tgt := 515) dL_law_492 (by decide) (fun hc => ?_) (fun hc => ?_)
          · have h := h.1 hc
            refine wy_sub [] rfl ?_
            exact kL_law_515 l G1 G2 ab ac b L xs hLH C hr hlocks hA0 hcc hss hX hbl M88 N B Z h
          · have h := h.2 hc
            refine wy_aload_n C dL_law_495 1 rfl ?_
            refine wy_iconst (v := 5) C dL_law_496 (by decide) ?_
            refine wy_callVi (Φ1 := fun (u : Mem) => (PL G1 G2 ab ac u N B Z)) C (cX7_count_M l G1 (LH_go hLH).1 (LH_go hLH).2.1 (5 : Int32) M88 _) h cw_RL_148 hd_X7_count ⟨rfl, rfl⟩ ⟨by decide, by decide⟩ ((LH_go hLH).2.1 0 (by decide)) (gc_k kq_0) rfl (As := [.int (5 : Int32)]) (rest := []) rfl (Nat.le_of_ble_eq_true rfl) ⟨hcc, hss⟩ rfl dL_law_497 (LH_go hLH).2.2.2.1 (LH_go hLH).2.2.2.2 (fun H h => h.1) (PL_o hLH) (fun r89 M90 h => ?_)
            obtain ⟨M91, hag, h⟩ := h
            refine wy_gh (Φ' := (PL G1 G2 ab ac M91 N B Z)) (fun H hH => PL_go (LH_go hLH).2.2.1 hag hH) ?_
            refine wy_bipush (v := 12) C dL_law_500 (by decide) ?_
            refine wy_icmp_gt C (tgt := 515) dL_law_502 (by decide) (fun hc => ?_) (fun hc => ?_)
            · have h := h.1 hc
              refine wy_sub [] rfl ?_
              exact kL_law_515 l G1 G2 ab ac b L xs hLH C hr hlocks hA0 hcc hss hX hbl M91 N B Z h
            · have h := h.2 hc
              refine wy_aload_n C dL_law_505 1 rfl ?_
              refine wy_bipush (v := 6) C dL_law_506 (by decide) ?_
              refine wy_callVi (Φ1 := fun (u : Mem) => (PL G1 G2 ab ac u N B Z)) C (cX7_count_M l G1 (LH_go hLH).1 (LH_go hLH).2.1 (6 : Int32) M91 _) h cw_RL_148 hd_X7_count ⟨rfl, rfl⟩ ⟨by decide, by decide⟩ ((LH_go hLH).2.1 0 (by decide)) (gc_k kq_0) rfl (As := [.int (6 : Int32)]) (rest := []) rfl (Nat.le_of_ble_eq_true rfl) ⟨hcc, hss⟩ rfl dL_law_508 (LH_go hLH).2.2.2.1 (LH_go hLH).2.2.2.2 (fun H h => h.1) (PL_o hLH) (fun r92 M93 h => ?_)
              obtain ⟨M94, hag, h⟩ := h
              refine wy_gh (Φ' := (PL G1 G2 ab ac M94 N B Z)) (fun H hH => PL_go (LH_go hLH).2.2.1 hag hH) ?_
              refine wy_iconst (v := 2) C dL_law_511 (by decide) ?_
              refine wy_icmp_le C (tgt := 517) dL_law_512 (by decide) (fun hc => ?_) (fun hc => ?_)
              · have h := h.1 hc
                refine wy_iinc (v := (v5 + (1 : Int32))) (lv' := [(5, .int (v5 + (1 : Int32))), (0, .ref b), (1, .ref (gAD G1 0)), (2, .ref (gAD G2 0)), (3, .ref ab), (9, .int v9), (10, .int v10)]) C dL_law_517 4 rfl (by rfl) (by decide) rfl ?_
                refine wy_goto C (tgt := 53) dL_law_520 (by decide) ?_
                refine wy_sub [1, 2, 3, 4, 0] rfl ?_
                exact hk_53 (v5 + (1 : Int32)) M94 N B Z h
              · have h := h.2 hc
                refine wy_sub [] rfl ?_
                exact kL_law_515 l G1 G2 ab ac b L xs hLH C hr hlocks hA0 hcc hss hX hbl M94 N B Z h
    · have h := h.2 hc
      refine wy_iload C dL_law_399 5 rfl ?_
      refine wy_if_eq C (tgt := 459) dL_law_401 (by decide) (fun hc => ?_) (fun hc => ?_)
      · have h := h.1 hc
        refine wy_sub [0, 1, 2, 3, 4, 6] rfl ?_
        exact kL_law_459 l G1 G2 ab ac b L xs hLH C hr hlocks hA0 hcc hss hX hbl (k_53) (hk_53) (wL_law_391 L xs k_53 n) (ih) v5 v10 M N B Z h
      · have h := h.2 hc
        refine wy_aload_n C dL_law_404 1 rfl ?_
        refine wy_iload C dL_law_405 6 rfl ?_
        refine wy_iconst (v := 0) C dL_law_407 (by decide) ?_
        refine wy_callVi (Φ1 := fun (u : Mem) => (PL G1 G2 ab ac u N B Z)) C (cX7_leaf_M l G1 (LH_go hLH).1 (LH_go hLH).2.1 v10 (0 : Int32) M _) h cw_RL_141 hd_X7_leaf ⟨rfl, rfl⟩ ⟨by decide, by decide⟩ ((LH_go hLH).2.1 0 (by decide)) (gc_k kq_0) rfl (As := [.int v10, .int (0 : Int32)]) (rest := []) rfl (Nat.le_of_ble_eq_true rfl) ⟨hcc, hss⟩ rfl dL_law_408 (LH_go hLH).2.2.2.1 (LH_go hLH).2.2.2.2 (fun H h => h.1) (PL_o hLH) (fun r95 M96 h => ?_)
        obtain ⟨M97, hag, h⟩ := h
        refine wy_gh (Φ' := (PL G1 G2 ab ac M97 N B Z)) (fun H hH => PL_go (LH_go hLH).2.2.1 hag hH) ?_
        refine wy_aload_n C dL_law_411 2 rfl ?_
        refine wy_iload C dL_law_412 6 rfl ?_
        refine wy_iconst (v := 0) C dL_law_414 (by decide) ?_
        refine wy_callVi (Φ1 := fun (u : Mem) => (PL G1 G2 ab ac M97 u B Z)) C (cX7_leaf_M l G2 (LH_gk hLH).1 (LH_gk hLH).2.1 v10 (0 : Int32) N _) h cw_RL_141 hd_X7_leaf ⟨rfl, rfl⟩ ⟨by decide, by decide⟩ ((LH_gk hLH).2.1 0 (by decide)) (gc_k kq_0) rfl (As := [.int v10, .int (0 : Int32)]) (rest := [.int r95]) rfl (Nat.le_of_ble_eq_true rfl) ⟨hcc, hss⟩ rfl dL_law_415 (LH_gk hLH).2.2.2.1 (LH_gk hLH).2.2.2.2 (fun H h => h.2.1) (PL_k hLH) (fun r98 M99 h => ?_)
        obtain ⟨M100, hag, h⟩ := h
        refine wy_gh (Φ' := (PL G1 G2 ab ac M97 M100 B Z)) (fun H hH => PL_gk (LH_gk hLH).2.2.1 hag hH) ?_
        refine wy_icmp_ne C (tgt := 459) dL_law_418 (by decide) (fun hc => ?_) (fun hc => ?_)
        · have h := h.1 hc
          refine wy_sub [0, 1, 2, 3, 4, 6] rfl ?_
          exact kL_law_459 l G1 G2 ab ac b L xs hLH C hr hlocks hA0 hcc hss hX hbl (k_53) (hk_53) (wL_law_391 L xs k_53 n) (ih) v5 v10 M97 M100 B Z h
        · have h := h.2 hc
          refine wy_aload_n C dL_law_421 1 rfl ?_
          refine wy_iload C dL_law_422 6 rfl ?_
          refine wy_iconst (v := 1) C dL_law_424 (by decide) ?_
          refine wy_callVi (Φ1 := fun (u : Mem) => (PL G1 G2 ab ac u M100 B Z)) C (cX7_leaf_M l G1 (LH_go hLH).1 (LH_go hLH).2.1 v10 (1 : Int32) M97 _) h cw_RL_141 hd_X7_leaf ⟨rfl, rfl⟩ ⟨by decide, by decide⟩ ((LH_go hLH).2.1 0 (by decide)) (gc_k kq_0) rfl (As := [.int v10, .int (1 : Int32)]) (rest := []) rfl (Nat.le_of_ble_eq_true rfl) ⟨hcc, hss⟩ rfl dL_law_425 (LH_go hLH).2.2.2.1 (LH_go hLH).2.2.2.2 (fun H h => h.1) (PL_o hLH) (fun r101 M102 h => ?_)
          obtain ⟨M103, hag, h⟩ := h
          refine wy_gh (Φ' := (PL G1 G2 ab ac M103 M100 B Z)) (fun H hH => PL_go (LH_go hLH).2.2.1 hag hH) ?_
          refine wy_aload_n C dL_law_428 3 rfl ?_
          refine wy_bipush (v := 9) C dL_law_429 (by decide) ?_
          refine wy_iload C dL_law_431 6 rfl ?_
          refine wy_iadd C dL_law_433 ?_
          refine wy_ald (G := G1) (B := B) C (LH_kk1 hLH) (fun H h => h.2.2.1) h.1 dL_law_434 ?_
          have h := h.2
          refine wy_icmp_ne C (tgt := 459) dL_law_435 (by decide) (fun hc => ?_) (fun hc => ?_)
          · have h := h.1 hc
            refine wy_sub [0, 1, 2, 3, 4, 6] rfl ?_
            exact kL_law_459 l G1 G2 ab ac b L xs hLH C hr hlocks hA0 hcc hss hX hbl (k_53) (hk_53) (wL_law_391 L xs k_53 n) (ih) v5 v10 M103 M100 B Z h
          · have h := h.2 hc
            refine wy_aload_n C dL_law_438 2 rfl ?_
            refine wy_iload C dL_law_439 6 rfl ?_
            refine wy_iconst (v := 1) C dL_law_441 (by decide) ?_
            refine wy_callVi (Φ1 := fun (u : Mem) => (PL G1 G2 ab ac M103 u B Z)) C (cX7_leaf_M l G2 (LH_gk hLH).1 (LH_gk hLH).2.1 v10 (1 : Int32) M100 _) h cw_RL_141 hd_X7_leaf ⟨rfl, rfl⟩ ⟨by decide, by decide⟩ ((LH_gk hLH).2.1 0 (by decide)) (gc_k kq_0) rfl (As := [.int v10, .int (1 : Int32)]) (rest := []) rfl (Nat.le_of_ble_eq_true rfl) ⟨hcc, hss⟩ rfl dL_law_442 (LH_gk hLH).2.2.2.1 (LH_gk hLH).2.2.2.2 (fun H h => h.2.1) (PL_k hLH) (fun r104 M105 h => ?_)
            obtain ⟨M106, hag, h⟩ := h
            refine wy_gh (Φ' := (PL G1 G2 ab ac M103 M106 B Z)) (fun H hH => PL_gk (LH_gk hLH).2.2.1 hag hH) ?_
            refine wy_aload_n C dL_law_445 3 rfl ?_
            refine wy_bipush (v := 9) C dL_law_446 (by decide) ?_
            refine wy_iload C dL_law_448 6 rfl ?_
            refine wy_iadd C dL_law_450 ?_
            refine wy_ald (G := G1) (B := B) C (LH_kk1 hLH) (fun H h => h.2.2.1) h.1 dL_law_451 ?_
            have h := h.2
            refine wy_icmp_ne C (tgt := 459) dL_law_452 (by decide) (fun hc => ?_) (fun hc => ?_)
            · have h := h.1 hc
              refine wy_sub [0, 1, 2, 3, 4, 6] rfl ?_
              exact kL_law_459 l G1 G2 ab ac b L xs hLH C hr hlocks hA0 hcc hss hX hbl (k_53) (hk_53) (wL_law_391 L xs k_53 n) (ih) v5 v10 M103 M106 B Z h
            · have h := h.2 hc
              refine wy_iconst (v := 1) C dL_law_455 (by decide) ?_
              refine wy_goto C (tgt := 460) dL_law_456 (by decide) ?_
              refine wy_sub [0, 1, 2, 3, 4, 6] rfl ?_
              exact kL_law_460 l G1 G2 ab ac b L xs hLH C hr hlocks hA0 hcc hss hX hbl (k_53) (hk_53) (wL_law_391 L xs k_53 n) (ih) v5 v10 (1 : Int32) M103 M106 B Z h
set_option maxRecDepth 100000 in
set_option maxHeartbeats 40000000 in
theorem kL_law_339 {p : Program} {e : Env} {s : State} {m : MethodId} {below : List Frame} {meth : Method} {c : Code} {cells slots : Nat} (l : Launch) (G1 G2 : gP) (ab ac b : Nat) (L : Nat) (xs : Nat → Int32) (hLH : LH G1 G2 ab ac s) (C : Cy p s m #[Value.ref b] meth c cL_law 11 RL) (hr : meth.sig.returnType = ret) (hlocks : meth.locks = false) (hA0 : c.code = code) (hcc : cells ≤ 600000) (hss : slots ≤ 7302250) (hX : va_X b L xs s s.heap) (hbl : b < s.heap.size) (k_53 : Int32 → Mem → Mem → (Nat → Int32) → (Nat → Int32) → Prop) (hk_53 : ∀ (v5 : Int32) (M : Mem) (N : Mem) (B : Nat → Int32) (Z : Nat → Int32), k_53 v5 M N B Z → Wy p l e room_1 s m #[Value.ref b] below meth c (lw_Z below #[Value.ref b] s) (fun q : Nat => s.heap.size ≤ q) 11 cells slots (PL G1 G2 ab ac M N B Z) 53 [(0, .ref b), (1, .ref (gAD G1 0)), (2, .ref (gAD G2 0)), (3, .ref ab), (5, .int v5)] []) : ∀ (n : Nat) (v5 : Int32) (v9 : Int32) (v10 : Int32) (M : Mem) (N : Mem) (B : Nat → Int32) (Z : Nat → Int32), wL_law_339 L xs k_53 n v5 v9 v10 M N B Z → Wy p l e room_1 s m #[Value.ref b] below meth c (lw_Z below #[Value.ref b] s) (fun q : Nat => s.heap.size ≤ q) 11 cells slots (PL G1 G2 ab ac M N B Z) 339 [(0, .ref b), (1, .ref (gAD G1 0)), (2, .ref (gAD G2 0)), (3, .ref ab), (5, .int v5), (9, .int v9), (10, .int v10)] [] := by
  intro n
  induction n with
  | zero => intro v5 v9 v10 M N B Z h; exact h.elim
  | succ n ih =>
    intro v5 v9 v10 M N B Z h
    have h : (((8 : Int32) ≤ v10 → (∃ n73, wL_law_391 L xs (k_53) n73 v5 v9 (0 : Int32) M N B Z)) ∧ (¬ (8 : Int32) ≤ v10 → ((v9 = 0 → wL_law_379 L xs (k_53) (wL_law_339 L xs k_53 n) v5 v10 M N B Z) ∧ (¬ v9 = 0 → (wX7_count v10 M (fun r74 M75 => ∃ M76, AG M75 M76 ∧ (wX7_count v10 N (fun r77 M78 => ∃ M79, AG M78 M79 ∧ ((¬ r74 = r77 → wL_law_379 L xs (k_53) (wL_law_339 L xs k_53 n) v5 v10 M76 M79 B Z) ∧ (r74 = r77 → (wX7_count v10 M76 (fun r80 M81 => ∃ M82, AG M81 M82 ∧ ((r80 < 0 → wL_law_379 L xs (k_53) (wL_law_339 L xs k_53 n) v5 v10 M82 M79 B Z) ∧ (¬ r80 < 0 → wL_law_380 L xs (k_53) (wL_law_339 L xs k_53 n) v5 v10 (1 : Int32) M82 M79 B Z)))))))))))))) := h
    refine wy_iload C dL_law_339 6 rfl ?_
    refine wy_bipush (v := 8) C dL_law_341 (by decide) ?_
    refine wy_icmp_ge C (tgt := 388) dL_law_343 (by decide) (fun hc => ?_) (fun hc => ?_)
    · have h := h.1 hc
      refine wy_iconst (v := 0) C dL_law_388 (by decide) ?_
      refine wy_istore (i := 10) (lv' := [(10, .int (0 : Int32)), (0, .ref b), (1, .ref (gAD G1 0)), (2, .ref (gAD G2 0)), (3, .ref ab), (5, .int v5), (9, .int v9)]) C dL_law_389 (by decide) rfl ?_
      refine wy_sub [1, 2, 3, 4, 5, 6, 0] rfl ?_
      obtain ⟨n73, h⟩ := h
      exact kL_law_391 l G1 G2 ab ac b L xs hLH C hr hlocks hA0 hcc hss hX hbl (k_53) (hk_53) n73 v5 v9 (0 : Int32) M N B Z h
    · have h := h.2 hc
      refine wy_iload C dL_law_346 5 rfl ?_
      refine wy_if_eq C (tgt := 379) dL_law_348 (by decide) (fun hc => ?_) (fun hc => ?_)
      · have h := h.1 hc
        refine wy_sub [0, 1, 2, 3, 4, 6] rfl ?_
        exact kL_law_379 l G1 G2 ab ac b L xs hLH C hr hlocks hA0 hcc hss hX hbl (k_53) (hk_53) (wL_law_339 L xs k_53 n) (ih) v5 v10 M N B Z h
      · have h := h.2 hc
        refine wy_aload_n C dL_law_351 1 rfl ?_
        refine wy_iload C dL_law_352 6 rfl ?_
        refine wy_callVi (Φ1 := fun (u : Mem) => (PL G1 G2 ab ac u N B Z)) C (cX7_count_M l G1 (LH_go hLH).1 (LH_go hLH).2.1 v10 M _) h cw_RL_148 hd_X7_count ⟨rfl, rfl⟩ ⟨by decide, by decide⟩ ((LH_go hLH).2.1 0 (by decide)) (gc_k kq_0) rfl (As := [.int v10]) (rest := []) rfl (Nat.le_of_ble_eq_true rfl) ⟨hcc, hss⟩ rfl dL_law_354 (LH_go hLH).2.2.2.1 (LH_go hLH).2.2.2.2 (fun H h => h.1) (PL_o hLH) (fun r74 M75 h => ?_)
        obtain ⟨M76, hag, h⟩ := h
        refine wy_gh (Φ' := (PL G1 G2 ab ac M76 N B Z)) (fun H hH => PL_go (LH_go hLH).2.2.1 hag hH) ?_
        refine wy_aload_n C dL_law_357 2 rfl ?_
        refine wy_iload C dL_law_358 6 rfl ?_
        refine wy_callVi (Φ1 := fun (u : Mem) => (PL G1 G2 ab ac M76 u B Z)) C (cX7_count_M l G2 (LH_gk hLH).1 (LH_gk hLH).2.1 v10 N _) h cw_RL_148 hd_X7_count ⟨rfl, rfl⟩ ⟨by decide, by decide⟩ ((LH_gk hLH).2.1 0 (by decide)) (gc_k kq_0) rfl (As := [.int v10]) (rest := [.int r74]) rfl (Nat.le_of_ble_eq_true rfl) ⟨hcc, hss⟩ rfl dL_law_360 (LH_gk hLH).2.2.2.1 (LH_gk hLH).2.2.2.2 (fun H h => h.2.1) (PL_k hLH) (fun r77 M78 h => ?_)
        obtain ⟨M79, hag, h⟩ := h
        refine wy_gh (Φ' := (PL G1 G2 ab ac M76 M79 B Z)) (fun H hH => PL_gk (LH_gk hLH).2.2.1 hag hH) ?_
        refine wy_icmp_ne C (tgt := 379) dL_law_363 (by decide) (fun hc => ?_) (fun hc => ?_)
        · have h := h.1 hc
          refine wy_sub [0, 1, 2, 3, 4, 6] rfl ?_
          exact kL_law_379 l G1 G2 ab ac b L xs hLH C hr hlocks hA0 hcc hss hX hbl (k_53) (hk_53) (wL_law_339 L xs k_53 n) (ih) v5 v10 M76 M79 B Z h
        · have h := h.2 hc
          refine wy_aload_n C dL_law_366 1 rfl ?_
          refine wy_iload C dL_law_367 6 rfl ?_
          refine wy_callVi (Φ1 := fun (u : Mem) => (PL G1 G2 ab ac u M79 B Z)) C (cX7_count_M l G1 (LH_go hLH).1 (LH_go hLH).2.1 v10 M76 _) h cw_RL_148 hd_X7_count ⟨rfl, rfl⟩ ⟨by decide, by decide⟩ ((LH_go hLH).2.1 0 (by decide)) (gc_k kq_0) rfl (As := [.int v10]) (rest := []) rfl (Nat.le_of_ble_eq_true rfl) ⟨hcc, hss⟩ rfl dL_law_369 (LH_go hLH).2.2.2.1 (LH_go hLH).2.2.2.2 (fun H h => h.1) (PL_o hLH) (fun r80 M81 h => ?_)
          obtain ⟨M82, hag, h⟩ := h
          refine wy_gh (Φ' := (PL G1 G2 ab ac M82 M79 B Z)) (fun H hH => PL_go (LH_go hLH).2.2.1 hag hH) ?_
          refine wy_if_lt C (tgt := 379) dL_law_372 (by decide) (fun hc => ?_) (fun hc => ?_)
          · have h := h.1 hc
            refine wy_sub [0, 1, 2, 3, 4, 6] rfl ?_
            exact kL_law_379 l G1 G2 ab ac b L xs hLH C hr hlocks hA0 hcc hss hX hbl (k_53) (hk_53) (wL_law_339 L xs k_53 n) (ih) v5 v10 M82 M79 B Z h
          · have h := h.2 hc
            refine wy_iconst (v := 1) C dL_law_375 (by decide) ?_
            refine wy_goto C (tgt := 380) dL_law_376 (by decide) ?_
            refine wy_sub [0, 1, 2, 3, 4, 6] rfl ?_
            exact kL_law_380 l G1 G2 ab ac b L xs hLH C hr hlocks hA0 hcc hss hX hbl (k_53) (hk_53) (wL_law_339 L xs k_53 n) (ih) v5 v10 (1 : Int32) M82 M79 B Z h
set_option maxRecDepth 100000 in
set_option maxHeartbeats 40000000 in
theorem kL_law_334 {p : Program} {e : Env} {s : State} {m : MethodId} {below : List Frame} {meth : Method} {c : Code} {cells slots : Nat} (l : Launch) (G1 G2 : gP) (ab ac b : Nat) (L : Nat) (xs : Nat → Int32) (hLH : LH G1 G2 ab ac s) (C : Cy p s m #[Value.ref b] meth c cL_law 11 RL) (hr : meth.sig.returnType = ret) (hlocks : meth.locks = false) (hA0 : c.code = code) (hcc : cells ≤ 600000) (hss : slots ≤ 7302250) (hX : va_X b L xs s s.heap) (hbl : b < s.heap.size) (k_53 : Int32 → Mem → Mem → (Nat → Int32) → (Nat → Int32) → Prop) (hk_53 : ∀ (v5 : Int32) (M : Mem) (N : Mem) (B : Nat → Int32) (Z : Nat → Int32), k_53 v5 M N B Z → Wy p l e room_1 s m #[Value.ref b] below meth c (lw_Z below #[Value.ref b] s) (fun q : Nat => s.heap.size ≤ q) 11 cells slots (PL G1 G2 ab ac M N B Z) 53 [(0, .ref b), (1, .ref (gAD G1 0)), (2, .ref (gAD G2 0)), (3, .ref ab), (5, .int v5)] []) (v5 : Int32) (s0 : Int32) (M : Mem) (N : Mem) (B : Nat → Int32) (Z : Nat → Int32) (h : wL_law_334 L xs k_53 v5 s0 M N B Z) : Wy p l e room_1 s m #[Value.ref b] below meth c (lw_Z below #[Value.ref b] s) (fun q : Nat => s.heap.size ≤ q) 11 cells slots (PL G1 G2 ab ac M N B Z) 334 [(0, .ref b), (1, .ref (gAD G1 0)), (2, .ref (gAD G2 0)), (3, .ref ab), (5, .int v5)] [.int s0] := by
  have h : (∃ n72, wL_law_339 L xs (k_53) n72 v5 s0 (0 : Int32) M N B Z) := h
  refine wy_istore (i := 9) (lv' := [(9, .int s0), (0, .ref b), (1, .ref (gAD G1 0)), (2, .ref (gAD G2 0)), (3, .ref ab), (5, .int v5)]) C dL_law_334 (by decide) rfl ?_
  refine wy_iconst (v := 0) C dL_law_336 (by decide) ?_
  refine wy_istore (i := 10) (lv' := [(10, .int (0 : Int32)), (9, .int s0), (0, .ref b), (1, .ref (gAD G1 0)), (2, .ref (gAD G2 0)), (3, .ref ab), (5, .int v5)]) C dL_law_337 (by decide) rfl ?_
  refine wy_sub [2, 3, 4, 5, 6, 1, 0] rfl ?_
  obtain ⟨n72, h⟩ := h
  exact kL_law_339 l G1 G2 ab ac b L xs hLH C hr hlocks hA0 hcc hss hX hbl (k_53) (hk_53) n72 v5 s0 (0 : Int32) M N B Z h
set_option maxRecDepth 100000 in
set_option maxHeartbeats 40000000 in
theorem kL_law_287 {p : Program} {e : Env} {s : State} {m : MethodId} {below : List Frame} {meth : Method} {c : Code} {cells slots : Nat} (l : Launch) (G1 G2 : gP) (ab ac b : Nat) (L : Nat) (xs : Nat → Int32) (hLH : LH G1 G2 ab ac s) (C : Cy p s m #[Value.ref b] meth c cL_law 11 RL) (hr : meth.sig.returnType = ret) (hlocks : meth.locks = false) (hA0 : c.code = code) (hcc : cells ≤ 600000) (hss : slots ≤ 7302250) (hX : va_X b L xs s s.heap) (hbl : b < s.heap.size) (k_53 : Int32 → Mem → Mem → (Nat → Int32) → (Nat → Int32) → Prop) (hk_53 : ∀ (v5 : Int32) (M : Mem) (N : Mem) (B : Nat → Int32) (Z : Nat → Int32), k_53 v5 M N B Z → Wy p l e room_1 s m #[Value.ref b] below meth c (lw_Z below #[Value.ref b] s) (fun q : Nat => s.heap.size ≤ q) 11 cells slots (PL G1 G2 ab ac M N B Z) 53 [(0, .ref b), (1, .ref (gAD G1 0)), (2, .ref (gAD G2 0)), (3, .ref ab), (5, .int v5)] []) (v5 : Int32) (v6 : Int32) (v7 : Int32) (s0 : Int32) (M : Mem) (N : Mem) (B : Nat → Int32) (Z : Nat → Int32) (h : wL_law_287 L xs k_53 v5 v6 v7 s0 M N B Z) : Wy p l e room_1 s m #[Value.ref b] below meth c (lw_Z below #[Value.ref b] s) (fun q : Nat => s.heap.size ≤ q) 11 cells slots (PL G1 G2 ab ac M N B Z) 287 [(0, .ref b), (1, .ref (gAD G1 0)), (2, .ref (gAD G2 0)), (3, .ref ab), (5, .int v5), (6, .int v6), (7, .int v7)] [.int s0] := by
  have h : ((s0 = 0 → wL_law_316 L xs M N B Z) ∧ (¬ s0 = 0 → (wL_act B v6 v7 M (fun r62 M63 => (wL_act B v6 v7 N (fun r64 M65 => (((lg_cmp r62 r64) = 0 → (wX7_so M63 (fun r66 M67 => ∃ M68, AG M67 M68 ∧ (wX7_so M65 (fun r69 M70 => ∃ M71, AG M70 M71 ∧ ((¬ r66 = r69 → wL_law_334 L xs (k_53) v5 (0 : Int32) M68 M71 B Z) ∧ (r66 = r69 → wL_law_334 L xs (k_53) v5 (1 : Int32) M68 M71 B Z))))))) ∧ (¬ (lg_cmp r62 r64) = 0 → wL_law_316 L xs M63 M65 B Z)))))))) := h
  refine wy_istore (i := 8) (lv' := [(8, .int s0), (0, .ref b), (1, .ref (gAD G1 0)), (2, .ref (gAD G2 0)), (3, .ref ab), (5, .int v5), (6, .int v6), (7, .int v7)]) C dL_law_287 (by decide) rfl ?_
  refine wy_iload C dL_law_289 0 rfl ?_
  refine wy_if_eq C (tgt := 316) dL_law_291 (by decide) (fun hc => ?_) (fun hc => ?_)
  · have h := h.1 hc
    refine wy_sub [] rfl ?_
    exact kL_law_316 l G1 G2 ab ac b L xs hLH C hr hlocks hA0 hcc hss hX hbl M N B Z h
  · have h := h.2 hc
    refine wy_aload_n C dL_law_294 2 rfl ?_
    refine wy_iload C dL_law_295 6 rfl ?_
    refine wy_iload C dL_law_297 7 rfl ?_
    refine wy_aload_n C dL_law_299 4 rfl ?_
    refine wy_callSl (Φ1 := fun (u : Mem) => (PL G1 G2 ab ac u N B Z)) C (cL_act_M l G1 ab B v6 v7 (LH_ao hLH) M _) cw_RL_151 hd_L_act ⟨rfl, rfl⟩ ⟨by decide, by decide⟩ (As := [.ref (gAD G1 0), .int v6, .int v7, .ref ab]) (rest := []) rfl (Nat.le_of_ble_eq_true rfl) ⟨hcc, hss⟩ rfl dL_law_300 (ac_cal (pre := _)) (ac_warm_o hLH h) (LH_fr_ao hLH) (PL_ao hLH) (fun r62 M63 h => ?_)
    refine wy_aload_n C dL_law_303 3 rfl ?_
    refine wy_iload C dL_law_304 6 rfl ?_
    refine wy_iload C dL_law_306 7 rfl ?_
    refine wy_aload_n C dL_law_308 4 rfl ?_
    refine wy_callSl (Φ1 := fun (u : Mem) => (PL G1 G2 ab ac M63 u B Z)) C (cL_act_M l G2 ab B v6 v7 (LH_ak hLH) N _) cw_RL_151 hd_L_act ⟨rfl, rfl⟩ ⟨by decide, by decide⟩ (As := [.ref (gAD G2 0), .int v6, .int v7, .ref ab]) (rest := [.long r62]) rfl (Nat.le_of_ble_eq_true rfl) ⟨hcc, hss⟩ rfl dL_law_309 (ac_cal (pre := _)) (ac_warm_k hLH h) (LH_fr_ak hLH) (PL_ak hLH) (fun r64 M65 h => ?_)
    refine wy_lcmp C dL_law_312 ?_
    refine wy_if_eq C (tgt := 318) dL_law_313 (by decide) (fun hc => ?_) (fun hc => ?_)
    · have h := h.1 hc
      refine wy_aload_n C dL_law_318 2 rfl ?_
      refine wy_callVi (Φ1 := fun (u : Mem) => (PL G1 G2 ab ac u M65 B Z)) C (cX7_so_M l G1 (LH_go hLH).1 (LH_go hLH).2.1 M63 _) h cw_RL_106 hd_X7_so ⟨rfl, rfl⟩ ⟨by decide, by decide⟩ ((LH_go hLH).2.1 0 (by decide)) (gc_k kq_0) rfl (As := []) (rest := []) rfl (Nat.le_of_ble_eq_true rfl) ⟨hcc, hss⟩ rfl dL_law_319 (LH_go hLH).2.2.2.1 (LH_go hLH).2.2.2.2 (fun H h => h.1) (PL_o hLH) (fun r66 M67 h => ?_)
      obtain ⟨M68, hag, h⟩ := h
      refine wy_gh (Φ' := (PL G1 G2 ab ac M68 M65 B Z)) (fun H hH => PL_go (LH_go hLH).2.2.1 hag hH) ?_
      refine wy_aload_n C dL_law_322 3 rfl ?_
      refine wy_callVi (Φ1 := fun (u : Mem) => (PL G1 G2 ab ac M68 u B Z)) C (cX7_so_M l G2 (LH_gk hLH).1 (LH_gk hLH).2.1 M65 _) h cw_RL_106 hd_X7_so ⟨rfl, rfl⟩ ⟨by decide, by decide⟩ ((LH_gk hLH).2.1 0 (by decide)) (gc_k kq_0) rfl (As := []) (rest := [.int r66]) rfl (Nat.le_of_ble_eq_true rfl) ⟨hcc, hss⟩ rfl dL_law_323 (LH_gk hLH).2.2.2.1 (LH_gk hLH).2.2.2.2 (fun H h => h.2.1) (PL_k hLH) (fun r69 M70 h => ?_)
      obtain ⟨M71, hag, h⟩ := h
      refine wy_gh (Φ' := (PL G1 G2 ab ac M68 M71 B Z)) (fun H hH => PL_gk (LH_gk hLH).2.2.1 hag hH) ?_
      refine wy_icmp_ne C (tgt := 333) dL_law_326 (by decide) (fun hc => ?_) (fun hc => ?_)
      · have h := h.1 hc
        refine wy_iconst (v := 0) C dL_law_333 (by decide) ?_
        refine wy_sub [1, 2, 3, 4, 5] rfl ?_
        exact kL_law_334 l G1 G2 ab ac b L xs hLH C hr hlocks hA0 hcc hss hX hbl (k_53) (hk_53) v5 (0 : Int32) M68 M71 B Z h
      · have h := h.2 hc
        refine wy_iconst (v := 1) C dL_law_329 (by decide) ?_
        refine wy_goto C (tgt := 334) dL_law_330 (by decide) ?_
        refine wy_sub [1, 2, 3, 4, 5] rfl ?_
        exact kL_law_334 l G1 G2 ab ac b L xs hLH C hr hlocks hA0 hcc hss hX hbl (k_53) (hk_53) v5 (1 : Int32) M68 M71 B Z h
    · have h := h.2 hc
      refine wy_sub [] rfl ?_
      exact kL_law_316 l G1 G2 ab ac b L xs hLH C hr hlocks hA0 hcc hss hX hbl M63 M65 B Z h
set_option maxRecDepth 100000 in
set_option maxHeartbeats 40000000 in
theorem kL_law_286 {p : Program} {e : Env} {s : State} {m : MethodId} {below : List Frame} {meth : Method} {c : Code} {cells slots : Nat} (l : Launch) (G1 G2 : gP) (ab ac b : Nat) (L : Nat) (xs : Nat → Int32) (hLH : LH G1 G2 ab ac s) (C : Cy p s m #[Value.ref b] meth c cL_law 11 RL) (hr : meth.sig.returnType = ret) (hlocks : meth.locks = false) (hA0 : c.code = code) (hcc : cells ≤ 600000) (hss : slots ≤ 7302250) (hX : va_X b L xs s s.heap) (hbl : b < s.heap.size) (k_53 : Int32 → Mem → Mem → (Nat → Int32) → (Nat → Int32) → Prop) (hk_53 : ∀ (v5 : Int32) (M : Mem) (N : Mem) (B : Nat → Int32) (Z : Nat → Int32), k_53 v5 M N B Z → Wy p l e room_1 s m #[Value.ref b] below meth c (lw_Z below #[Value.ref b] s) (fun q : Nat => s.heap.size ≤ q) 11 cells slots (PL G1 G2 ab ac M N B Z) 53 [(0, .ref b), (1, .ref (gAD G1 0)), (2, .ref (gAD G2 0)), (3, .ref ab), (5, .int v5)] []) (v5 : Int32) (v6 : Int32) (v7 : Int32) (M : Mem) (N : Mem) (B : Nat → Int32) (Z : Nat → Int32) (h : wL_law_286 L xs k_53 v5 v6 v7 M N B Z) : Wy p l e room_1 s m #[Value.ref b] below meth c (lw_Z below #[Value.ref b] s) (fun q : Nat => s.heap.size ≤ q) 11 cells slots (PL G1 G2 ab ac M N B Z) 286 [(0, .ref b), (1, .ref (gAD G1 0)), (2, .ref (gAD G2 0)), (3, .ref ab), (5, .int v5), (6, .int v6), (7, .int v7)] [] := by
  have h : wL_law_287 L xs (k_53) v5 v6 v7 (0 : Int32) M N B Z := h
  refine wy_iconst (v := 0) C dL_law_286 (by decide) ?_
  refine wy_sub [0, 1, 2, 3, 4, 5, 6] rfl ?_
  exact kL_law_287 l G1 G2 ab ac b L xs hLH C hr hlocks hA0 hcc hss hX hbl (k_53) (hk_53) v5 v6 v7 (0 : Int32) M N B Z h
set_option maxRecDepth 100000 in
set_option maxHeartbeats 40000000 in
theorem kL_law_53 {p : Program} {e : Env} {s : State} {m : MethodId} {below : List Frame} {meth : Method} {c : Code} {cells slots : Nat} (l : Launch) (G1 G2 : gP) (ab ac b : Nat) (L : Nat) (xs : Nat → Int32) (hLH : LH G1 G2 ab ac s) (C : Cy p s m #[Value.ref b] meth c cL_law 11 RL) (hr : meth.sig.returnType = ret) (hlocks : meth.locks = false) (hA0 : c.code = code) (hcc : cells ≤ 600000) (hss : slots ≤ 7302250) (hX : va_X b L xs s s.heap) (hbl : b < s.heap.size) : ∀ (n : Nat) (v5 : Int32) (M : Mem) (N : Mem) (B : Nat → Int32) (Z : Nat → Int32), wL_law_53 L xs n v5 M N B Z → Wy p l e room_1 s m #[Value.ref b] below meth c (lw_Z below #[Value.ref b] s) (fun q : Nat => s.heap.size ≤ q) 11 cells slots (PL G1 G2 ab ac M N B Z) 53 [(0, .ref b), (1, .ref (gAD G1 0)), (2, .ref (gAD G2 0)), (3, .ref ab), (5, .int v5)] [] := by
  intro n
  induction n with
  | zero => intro v5 M N B Z h; exact h.elim
  | succ n ih =>
    intro v5 M N B Z h
    have h : (((40 : Int32) ≤ v5 → True) ∧ (¬ (40 : Int32) ≤ v5 → ((¬ Int32.ofNat L ≤ ((5 : Int32) + ((2 : Int32) * v5)) → vp_in ((5 : Int32) + ((2 : Int32) * v5)) L) ∧ ((¬ Int32.ofNat L ≤ ((6 : Int32) + ((2 : Int32) * v5)) → vp_in ((6 : Int32) + ((2 : Int32) * v5)) L) ∧ (wX7_write (9 : Int32) (0 : Int64) N (fun r8 M9 => ∃ M10, AG M9 M10 ∧ ((¬ r8 = (-1 : Int32) → wL_law_286 L xs (wL_law_53 L xs n) v5 (cellV L xs ((5 : Int32) + ((2 : Int32) * v5))) (cellV L xs ((6 : Int32) + ((2 : Int32) * v5))) M M10 B Z) ∧ (r8 = (-1 : Int32) → (wX7_leaf (40 : Int32) (0 : Int32) M10 (fun r11 M12 => ∃ M13, AG M12 M13 ∧ ((¬ r11 = (-1 : Int32) → wL_law_286 L xs (wL_law_53 L xs n) v5 (cellV L xs ((5 : Int32) + ((2 : Int32) * v5))) (cellV L xs ((6 : Int32) + ((2 : Int32) * v5))) M M13 B Z) ∧ (r11 = (-1 : Int32) → (wX7_where (-1 : Int32) M13 (fun r14 M15 => ∃ M16, AG M15 M16 ∧ ((¬ r14 = (-1 : Int32) → wL_law_286 L xs (wL_law_53 L xs n) v5 (cellV L xs ((5 : Int32) + ((2 : Int32) * v5))) (cellV L xs ((6 : Int32) + ((2 : Int32) * v5))) M M16 B Z) ∧ (r14 = (-1 : Int32) → (wX7_change (0 : Int32) (40 : Int32) M16 (fun r17 M18 => ∃ M19, AG M18 M19 ∧ ((¬ r17 = (-1 : Int32) → wL_law_286 L xs (wL_law_53 L xs n) v5 (cellV L xs ((5 : Int32) + ((2 : Int32) * v5))) (cellV L xs ((6 : Int32) + ((2 : Int32) * v5))) M M19 B Z) ∧ (r17 = (-1 : Int32) → (wX7_drop (10000 : Int32) M19 (fun r20 M21 => ∃ M22, AG M21 M22 ∧ ((¬ r20 = (-1 : Int32) → wL_law_286 L xs (wL_law_53 L xs n) v5 (cellV L xs ((5 : Int32) + ((2 : Int32) * v5))) (cellV L xs ((6 : Int32) + ((2 : Int32) * v5))) M M22 B Z) ∧ (r20 = (-1 : Int32) → (wX7_has (0 : Int64) (40 : Int32) M22 (fun r23 M24 => ∃ M25, AG M24 M25 ∧ ((¬ r23 = (-1 : Int32) → wL_law_286 L xs (wL_law_53 L xs n) v5 (cellV L xs ((5 : Int32) + ((2 : Int32) * v5))) (cellV L xs ((6 : Int32) + ((2 : Int32) * v5))) M M25 B Z) ∧ (r23 = (-1 : Int32) → (wX7_leaves (-1 : Int64) M25 (fun r26 M27 => ∃ M28, AG M27 M28 ∧ ((¬ (lg_cmp r26 (-1 : Int64)) = 0 → wL_law_286 L xs (wL_law_53 L xs n) v5 (cellV L xs ((5 : Int32) + ((2 : Int32) * v5))) (cellV L xs ((6 : Int32) + ((2 : Int32) * v5))) M M28 B Z) ∧ ((lg_cmp r26 (-1 : Int64)) = 0 → (wX7_ever (2 : Int32) M28 (fun r29 M30 => ∃ M31, AG M30 M31 ∧ ((¬ (lg_cmp r29 (-1 : Int64)) = 0 → wL_law_286 L xs (wL_law_53 L xs n) v5 (cellV L xs ((5 : Int32) + ((2 : Int32) * v5))) (cellV L xs ((6 : Int32) + ((2 : Int32) * v5))) M M31 B Z) ∧ ((lg_cmp r29 (-1 : Int64)) = 0 → (wX7_right (-5 : Int64) M31 (fun r32 M33 => ∃ M34, AG M33 M34 ∧ ((¬ r32 = (-1 : Int32) → wL_law_286 L xs (wL_law_53 L xs n) v5 (cellV L xs ((5 : Int32) + ((2 : Int32) * v5))) (cellV L xs ((6 : Int32) + ((2 : Int32) * v5))) M M34 B Z) ∧ (r32 = (-1 : Int32) → (wX7_order (0 : Int64) (40 : Int32) M34 (fun r35 M36 => ∃ M37, AG M36 M37 ∧ ((¬ r35 = (-1 : Int32) → wL_law_286 L xs (wL_law_53 L xs n) v5 (cellV L xs ((5 : Int32) + ((2 : Int32) * v5))) (cellV L xs ((6 : Int32) + ((2 : Int32) * v5))) M M37 B Z) ∧ (r35 = (-1 : Int32) → (wX7_shows (4 : Int32) (0 : Int32) M37 (fun r38 M39 => ∃ M40, AG M39 M40 ∧ ((¬ r38 = (-1 : Int32) → wL_law_286 L xs (wL_law_53 L xs n) v5 (cellV L xs ((5 : Int32) + ((2 : Int32) * v5))) (cellV L xs ((6 : Int32) + ((2 : Int32) * v5))) M M40 B Z) ∧ (r38 = (-1 : Int32) → (wX7_quickest (3 : Int32) M40 (fun r41 M42 => ∃ M43, AG M42 M43 ∧ ((¬ r41 = (-1 : Int32) → wL_law_286 L xs (wL_law_53 L xs n) v5 (cellV L xs ((5 : Int32) + ((2 : Int32) * v5))) (cellV L xs ((6 : Int32) + ((2 : Int32) * v5))) M M43 B Z) ∧ (r41 = (-1 : Int32) → (wX7_seen (0 : Int64) (0 : Int32) (40 : Int32) M43 (fun r44 M45 => ∃ M46, AG M45 M46 ∧ ((¬ r44 = (-1 : Int32) → wL_law_286 L xs (wL_law_53 L xs n) v5 (cellV L xs ((5 : Int32) + ((2 : Int32) * v5))) (cellV L xs ((6 : Int32) + ((2 : Int32) * v5))) M M46 B Z) ∧ (r44 = (-1 : Int32) → (wX7_sure (40 : Int32) M46 (fun r47 M48 => ∃ M49, AG M48 M49 ∧ ((¬ r47 = (-1 : Int32) → wL_law_286 L xs (wL_law_53 L xs n) v5 (cellV L xs ((5 : Int32) + ((2 : Int32) * v5))) (cellV L xs ((6 : Int32) + ((2 : Int32) * v5))) M M49 B Z) ∧ (r47 = (-1 : Int32) → (wX7_lacks (40 : Int32) (0 : Int32) M49 (fun r50 M51 => ∃ M52, AG M51 M52 ∧ ((¬ r50 = (-1 : Int32) → wL_law_286 L xs (wL_law_53 L xs n) v5 (cellV L xs ((5 : Int32) + ((2 : Int32) * v5))) (cellV L xs ((6 : Int32) + ((2 : Int32) * v5))) M M52 B Z) ∧ (r50 = (-1 : Int32) → (wX7_notice (0 : Int32) (0 : Int32) (1001 : Int32) M52 (fun r53 M54 => ∃ M55, AG M54 M55 ∧ ((¬ r53 = (-1 : Int32) → wL_law_286 L xs (wL_law_53 L xs n) v5 (cellV L xs ((5 : Int32) + ((2 : Int32) * v5))) (cellV L xs ((6 : Int32) + ((2 : Int32) * v5))) M M55 B Z) ∧ (r53 = (-1 : Int32) → (wX7_pleased (0 : Int32) (0 : Int32) M55 (fun r56 M57 => ∃ M58, AG M57 M58 ∧ ((¬ r56 = (-1 : Int32) → wL_law_286 L xs (wL_law_53 L xs n) v5 (cellV L xs ((5 : Int32) + ((2 : Int32) * v5))) (cellV L xs ((6 : Int32) + ((2 : Int32) * v5))) M M58 B Z) ∧ (r56 = (-1 : Int32) → (wX7_count (8 : Int32) M58 (fun r59 M60 => ∃ M61, AG M60 M61 ∧ ((¬ r59 = (-1 : Int32) → wL_law_286 L xs (wL_law_53 L xs n) v5 (cellV L xs ((5 : Int32) + ((2 : Int32) * v5))) (cellV L xs ((6 : Int32) + ((2 : Int32) * v5))) M M61 B Z) ∧ (r59 = (-1 : Int32) → wL_law_287 L xs (wL_law_53 L xs n) v5 (cellV L xs ((5 : Int32) + ((2 : Int32) * v5))) (cellV L xs ((6 : Int32) + ((2 : Int32) * v5))) (1 : Int32) M M61 B Z)))))))))))))))))))))))))))))))))))))))))))))))))))))))))))))))))))))))))))) := h
    refine wy_iload C dL_law_53 4 rfl ?_
    refine wy_bipush (v := 40) C dL_law_55 (by decide) ?_
    refine wy_icmp_ge C (tgt := 523) dL_law_57 (by decide) (fun hc => ?_) (fun hc => ?_)
    · have h := h.1 hc
      exact wy_lawend C hr hlocks hA0 hcc hss dL_law_523 dL_law_524
    · have h := h.2 hc
      refine wy_aload_n C dL_law_60 0 rfl ?_
      refine wy_iconst (v := 5) C dL_law_61 (by decide) ?_
      refine wy_iconst (v := 2) C dL_law_62 (by decide) ?_
      refine wy_iload C dL_law_63 4 rfl ?_
      refine wy_imul C dL_law_65 ?_
      refine wy_iadd C dL_law_66 ?_
      refine wy_cell (rest := []) C h.1 hX hbl (Nat.not_le.mpr hbl) dL_law_67 rfl ⟨by decide, by decide⟩ (Nat.le_of_ble_eq_true rfl) ⟨hcc, hss⟩ PL_kp ?_
      have h := h.2
      refine wy_istore (i := 6) (lv' := [(6, .int (cellV L xs ((5 : Int32) + ((2 : Int32) * v5)))), (0, .ref b), (1, .ref (gAD G1 0)), (2, .ref (gAD G2 0)), (3, .ref ab), (5, .int v5)]) C dL_law_70 (by decide) rfl ?_
      refine wy_aload_n C dL_law_72 1 rfl ?_
      refine wy_bipush (v := 6) C dL_law_73 (by decide) ?_
      refine wy_iconst (v := 2) C dL_law_75 (by decide) ?_
      refine wy_iload C dL_law_76 5 rfl ?_
      refine wy_imul C dL_law_78 ?_
      refine wy_iadd C dL_law_79 ?_
      refine wy_cell (rest := []) C h.1 hX hbl (Nat.not_le.mpr hbl) dL_law_80 rfl ⟨by decide, by decide⟩ (Nat.le_of_ble_eq_true rfl) ⟨hcc, hss⟩ PL_kp ?_
      have h := h.2
      refine wy_istore (i := 7) (lv' := [(7, .int (cellV L xs ((6 : Int32) + ((2 : Int32) * v5)))), (6, .int (cellV L xs ((5 : Int32) + ((2 : Int32) * v5)))), (0, .ref b), (1, .ref (gAD G1 0)), (2, .ref (gAD G2 0)), (3, .ref ab), (5, .int v5)]) C dL_law_83 (by decide) rfl ?_
      refine wy_aload_n C dL_law_85 4 rfl ?_
      refine wy_bipush (v := 9) C dL_law_86 (by decide) ?_
      refine wy_lconst (v := 0) C dL_law_88 (by decide) ?_
      refine wy_callVi (Φ1 := fun (u : Mem) => (PL G1 G2 ab ac M u B Z)) C (cX7_write_M l G2 (LH_gk hLH).1 (LH_gk hLH).2.1 (9 : Int32) (0 : Int64) N _) h cw_RL_10 hd_X7_write ⟨rfl, rfl⟩ ⟨by decide, by decide⟩ ((LH_gk hLH).2.1 0 (by decide)) (gc_k kq_0) rfl (As := [.int (9 : Int32), .long (0 : Int64)]) (rest := []) rfl (Nat.le_of_ble_eq_true rfl) ⟨hcc, hss⟩ rfl dL_law_89 (LH_gk hLH).2.2.2.1 (LH_gk hLH).2.2.2.2 (fun H h => h.2.1) (PL_k hLH) (fun r8 M9 h => ?_)
      obtain ⟨M10, hag, h⟩ := h
      refine wy_gh (Φ' := (PL G1 G2 ab ac M M10 B Z)) (fun H hH => PL_gk (LH_gk hLH).2.2.1 hag hH) ?_
      refine wy_iconst (v := (-1)) C dL_law_92 (by decide) ?_
      refine wy_icmp_ne C (tgt := 286) dL_law_93 (by decide) (fun hc => ?_) (fun hc => ?_)
      · have h := h.1 hc
        refine wy_sub [2, 3, 4, 5, 6, 1, 0] rfl ?_
        exact kL_law_286 l G1 G2 ab ac b L xs hLH C hr hlocks hA0 hcc hss hX hbl (wL_law_53 L xs n) (ih) v5 (cellV L xs ((5 : Int32) + ((2 : Int32) * v5))) (cellV L xs ((6 : Int32) + ((2 : Int32) * v5))) M M10 B Z h
      · have h := h.2 hc
        refine wy_aload_n C dL_law_96 4 rfl ?_
        refine wy_bipush (v := 40) C dL_law_97 (by decide) ?_
        refine wy_iconst (v := 0) C dL_law_99 (by decide) ?_
        refine wy_callVi (Φ1 := fun (u : Mem) => (PL G1 G2 ab ac M u B Z)) C (cX7_leaf_M l G2 (LH_gk hLH).1 (LH_gk hLH).2.1 (40 : Int32) (0 : Int32) M10 _) h cw_RL_141 hd_X7_leaf ⟨rfl, rfl⟩ ⟨by decide, by decide⟩ ((LH_gk hLH).2.1 0 (by decide)) (gc_k kq_0) rfl (As := [.int (40 : Int32), .int (0 : Int32)]) (rest := []) rfl (Nat.le_of_ble_eq_true rfl) ⟨hcc, hss⟩ rfl dL_law_100 (LH_gk hLH).2.2.2.1 (LH_gk hLH).2.2.2.2 (fun H h => h.2.1) (PL_k hLH) (fun r11 M12 h => ?_)
        obtain ⟨M13, hag, h⟩ := h
        refine wy_gh (Φ' := (PL G1 G2 ab ac M M13 B Z)) (fun H hH => PL_gk (LH_gk hLH).2.2.1 hag hH) ?_
        refine wy_iconst (v := (-1)) C dL_law_103 (by decide) ?_
        refine wy_icmp_ne C (tgt := 286) dL_law_104 (by decide) (fun hc => ?_) (fun hc => ?_)
        · have h := h.1 hc
          refine wy_sub [2, 3, 4, 5, 6, 1, 0] rfl ?_
          exact kL_law_286 l G1 G2 ab ac b L xs hLH C hr hlocks hA0 hcc hss hX hbl (wL_law_53 L xs n) (ih) v5 (cellV L xs ((5 : Int32) + ((2 : Int32) * v5))) (cellV L xs ((6 : Int32) + ((2 : Int32) * v5))) M M13 B Z h
        · have h := h.2 hc
          refine wy_aload_n C dL_law_107 4 rfl ?_
          refine wy_iconst (v := (-1)) C dL_law_108 (by decide) ?_
          refine wy_callVi (Φ1 := fun (u : Mem) => (PL G1 G2 ab ac M u B Z)) C (cX7_where_M l G2 (LH_gk hLH).1 (LH_gk hLH).2.1 (-1 : Int32) M13 _) h cw_RL_127 hd_X7_where ⟨rfl, rfl⟩ ⟨by decide, by decide⟩ ((LH_gk hLH).2.1 0 (by decide)) (gc_k kq_0) rfl (As := [.int (-1 : Int32)]) (rest := []) rfl (Nat.le_of_ble_eq_true rfl) ⟨hcc, hss⟩ rfl dL_law_109 (LH_gk hLH).2.2.2.1 (LH_gk hLH).2.2.2.2 (fun H h => h.2.1) (PL_k hLH) (fun r14 M15 h => ?_)
          obtain ⟨M16, hag, h⟩ := h
          refine wy_gh (Φ' := (PL G1 G2 ab ac M M16 B Z)) (fun H hH => PL_gk (LH_gk hLH).2.2.1 hag hH) ?_
          refine wy_iconst (v := (-1)) C dL_law_112 (by decide) ?_
          refine wy_icmp_ne C (tgt := 286) dL_law_113 (by decide) (fun hc => ?_) (fun hc => ?_)
          · have h := h.1 hc
            refine wy_sub [2, 3, 4, 5, 6, 1, 0] rfl ?_
            exact kL_law_286 l G1 G2 ab ac b L xs hLH C hr hlocks hA0 hcc hss hX hbl (wL_law_53 L xs n) (ih) v5 (cellV L xs ((5 : Int32) + ((2 : Int32) * v5))) (cellV L xs ((6 : Int32) + ((2 : Int32) * v5))) M M16 B Z h
          · have h := h.2 hc
            refine wy_aload_n C dL_law_116 4 rfl ?_
            refine wy_iconst (v := 0) C dL_law_117 (by decide) ?_
            refine wy_bipush (v := 40) C dL_law_118 (by decide) ?_
            refine wy_callVi (Φ1 := fun (u : Mem) => (PL G1 G2 ab ac M u B Z)) C (cX7_change_M l G2 (LH_gk hLH).1 (LH_gk hLH).2.1 (0 : Int32) (40 : Int32) M16 _) h cw_RL_61 hd_X7_change ⟨rfl, rfl⟩ ⟨by decide, by decide⟩ ((LH_gk hLH).2.1 0 (by decide)) (gc_k kq_0) rfl (As := [.int (0 : Int32), .int (40 : Int32)]) (rest := []) rfl (Nat.le_of_ble_eq_true rfl) ⟨hcc, hss⟩ rfl dL_law_120 (LH_gk hLH).2.2.2.1 (LH_gk hLH).2.2.2.2 (fun H h => h.2.1) (PL_k hLH) (fun r17 M18 h => ?_)
            obtain ⟨M19, hag, h⟩ := h
            refine wy_gh (Φ' := (PL G1 G2 ab ac M M19 B Z)) (fun H hH => PL_gk (LH_gk hLH).2.2.1 hag hH) ?_
            refine wy_iconst (v := (-1)) C dL_law_123 (by decide) ?_
            refine wy_icmp_ne C (tgt := 286) dL_law_124 (by decide) (fun hc => ?_) (fun hc => ?_)
            · have h := h.1 hc
              refine wy_sub [2, 3, 4, 5, 6, 1, 0] rfl ?_
              exact kL_law_286 l G1 G2 ab ac b L xs hLH C hr hlocks hA0 hcc hss hX hbl (wL_law_53 L xs n) (ih) v5 (cellV L xs ((5 : Int32) + ((2 : Int32) * v5))) (cellV L xs ((6 : Int32) + ((2 : Int32) * v5))) M M19 B Z h
            · have h := h.2 hc
              refine wy_aload_n C dL_law_127 4 rfl ?_
              refine wy_sipush (v := 10000) C dL_law_128 (by decide) ?_
              refine wy_callVi (Φ1 := fun (u : Mem) => (PL G1 G2 ab ac M u B Z)) C (cX7_drop_M l G2 (LH_gk hLH).1 (LH_gk hLH).2.1 (10000 : Int32) M19 _) h cw_RL_64 hd_X7_drop ⟨rfl, rfl⟩ ⟨by decide, by decide⟩ ((LH_gk hLH).2.1 0 (by decide)) (gc_k kq_0) rfl (As := [.int (10000 : Int32)]) (rest := []) rfl (Nat.le_of_ble_eq_true rfl) ⟨hcc, hss⟩ rfl dL_law_131 (LH_gk hLH).2.2.2.1 (LH_gk hLH).2.2.2.2 (fun H h => h.2.1) (PL_k hLH) (fun r20 M21 h => ?_)
              obtain ⟨M22, hag, h⟩ := h
              refine wy_gh (Φ' := (PL G1 G2 ab ac M M22 B Z)) (fun H hH => PL_gk (LH_gk hLH).2.2.1 hag hH) ?_
              refine wy_iconst (v := (-1)) C dL_law_134 (by decide) ?_
              refine wy_icmp_ne C (tgt := 286) dL_law_135 (by decide) (fun hc => ?_) (fun hc => ?_)
              · have h := h.1 hc
                refine wy_sub [2, 3, 4, 5, 6, 1, 0] rfl ?_
                exact kL_law_286 l G1 G2 ab ac b L xs hLH C hr hlocks hA0 hcc hss hX hbl (wL_law_53 L xs n) (ih) v5 (cellV L xs ((5 : Int32) + ((2 : Int32) * v5))) (cellV L xs ((6 : Int32) + ((2 : Int32) * v5))) M M22 B Z h
              · have h := h.2 hc
                refine wy_aload_n C dL_law_138 4 rfl ?_
                refine wy_lconst (v := 0) C dL_law_139 (by decide) ?_
                refine wy_bipush (v := 40) C dL_law_140 (by decide) ?_
                refine wy_callVi (Φ1 := fun (u : Mem) => (PL G1 G2 ab ac M u B Z)) C (cX7_has_M l G2 (LH_gk hLH).1 (LH_gk hLH).2.1 (0 : Int64) (40 : Int32) M22 _) h cw_RL_68 hd_X7_has ⟨rfl, rfl⟩ ⟨by decide, by decide⟩ ((LH_gk hLH).2.1 0 (by decide)) (gc_k kq_0) rfl (As := [.long (0 : Int64), .int (40 : Int32)]) (rest := []) rfl (Nat.le_of_ble_eq_true rfl) ⟨hcc, hss⟩ rfl dL_law_142 (LH_gk hLH).2.2.2.1 (LH_gk hLH).2.2.2.2 (fun H h => h.2.1) (PL_k hLH) (fun r23 M24 h => ?_)
                obtain ⟨M25, hag, h⟩ := h
                refine wy_gh (Φ' := (PL G1 G2 ab ac M M25 B Z)) (fun H hH => PL_gk (LH_gk hLH).2.2.1 hag hH) ?_
                refine wy_iconst (v := (-1)) C dL_law_145 (by decide) ?_
                refine wy_icmp_ne C (tgt := 286) dL_law_146 (by decide) (fun hc => ?_) (fun hc => ?_)
                · have h := h.1 hc
                  refine wy_sub [2, 3, 4, 5, 6, 1, 0] rfl ?_
                  exact kL_law_286 l G1 G2 ab ac b L xs hLH C hr hlocks hA0 hcc hss hX hbl (wL_law_53 L xs n) (ih) v5 (cellV L xs ((5 : Int32) + ((2 : Int32) * v5))) (cellV L xs ((6 : Int32) + ((2 : Int32) * v5))) M M25 B Z h
                · have h := h.2 hc
                  refine wy_aload_n C dL_law_149 4 rfl ?_
                  refine wy_ldc2 C tw_599 dL_law_150 ?_
                  refine wy_callVl (Φ1 := fun (u : Mem) => (PL G1 G2 ab ac M u B Z)) C (cX7_leaves_M l G2 (LH_gk hLH).1 (LH_gk hLH).2.1 (-1 : Int64) M25 _) h cw_RL_74 hd_X7_leaves ⟨rfl, rfl⟩ ⟨by decide, by decide⟩ ((LH_gk hLH).2.1 0 (by decide)) (gc_k kq_0) rfl (As := [.long (-1 : Int64)]) (rest := []) rfl (Nat.le_of_ble_eq_true rfl) ⟨hcc, hss⟩ rfl dL_law_153 (LH_gk hLH).2.2.2.1 (LH_gk hLH).2.2.2.2 (fun H h => h.2.1) (PL_k hLH) (fun r26 M27 h => ?_)
                  obtain ⟨M28, hag, h⟩ := h
                  refine wy_gh (Φ' := (PL G1 G2 ab ac M M28 B Z)) (fun H hH => PL_gk (LH_gk hLH).2.2.1 hag hH) ?_
                  refine wy_ldc2 C tw_599 dL_law_156 ?_
                  refine wy_lcmp C dL_law_159 ?_
                  refine wy_if_ne C (tgt := 286) dL_law_160 (by decide) (fun hc => ?_) (fun hc => ?_)
                  · have h := h.1 hc
                    refine wy_sub [2, 3, 4, 5, 6, 1, 0] rfl ?_
                    exact kL_law_286 l G1 G2 ab ac b L xs hLH C hr hlocks hA0 hcc hss hX hbl (wL_law_53 L xs n) (ih) v5 (cellV L xs ((5 : Int32) + ((2 : Int32) * v5))) (cellV L xs ((6 : Int32) + ((2 : Int32) * v5))) M M28 B Z h
                  · have h := h.2 hc
                    refine wy_aload_n C dL_law_163 4 rfl ?_
                    refine wy_iconst (v := 2) C dL_law_164 (by decide) ?_
                    refine wy_callVl (Φ1 := fun (u : Mem) => (PL G1 G2 ab ac M u B Z)) C (cX7_ever_M l G2 (LH_gk hLH).1 (LH_gk hLH).2.1 (2 : Int32) M28 _) h cw_RL_83 hd_X7_ever ⟨rfl, rfl⟩ ⟨by decide, by decide⟩ ((LH_gk hLH).2.1 0 (by decide)) (gc_k kq_0) rfl (As := [.int (2 : Int32)]) (rest := []) rfl (Nat.le_of_ble_eq_true rfl) ⟨hcc, hss⟩ rfl dL_law_165 (LH_gk hLH).2.2.2.1 (LH_gk hLH).2.2.2.2 (fun H h => h.2.1) (PL_k hLH) (fun r29 M30 h => ?_)
                    obtain ⟨M31, hag, h⟩ := h
                    refine wy_gh (Φ' := (PL G1 G2 ab ac M M31 B Z)) (fun H hH => PL_gk (LH_gk hLH).2.2.1 hag hH) ?_
                    refine wy_ldc2 C tw_599 dL_law_168 ?_
                    refine wy_lcmp C dL_law_171 ?_
                    refine wy_if_ne C (tgt := 286) dL_law_172 (by decide) (fun hc => ?_) (fun hc => ?_)
                    · have h := h.1 hc
                      refine wy_sub [2, 3, 4, 5, 6, 1, 0] rfl ?_
                      exact kL_law_286 l G1 G2 ab ac b L xs hLH C hr hlocks hA0 hcc hss hX hbl (wL_law_53 L xs n) (ih) v5 (cellV L xs ((5 : Int32) + ((2 : Int32) * v5))) (cellV L xs ((6 : Int32) + ((2 : Int32) * v5))) M M31 B Z h
                    · have h := h.2 hc
                      refine wy_aload_n C dL_law_175 4 rfl ?_
                      refine wy_ldc2 C tw_600 dL_law_176 ?_
                      refine wy_callVi (Φ1 := fun (u : Mem) => (PL G1 G2 ab ac M u B Z)) C (cX7_right_M l G2 (LH_gk hLH).1 (LH_gk hLH).2.1 (-5 : Int64) M31 _) h cw_RL_87 hd_X7_right ⟨rfl, rfl⟩ ⟨by decide, by decide⟩ ((LH_gk hLH).2.1 0 (by decide)) (gc_k kq_0) rfl (As := [.long (-5 : Int64)]) (rest := []) rfl (Nat.le_of_ble_eq_true rfl) ⟨hcc, hss⟩ rfl dL_law_179 (LH_gk hLH).2.2.2.1 (LH_gk hLH).2.2.2.2 (fun H h => h.2.1) (PL_k hLH) (fun r32 M33 h => ?_)
                      obtain ⟨M34, hag, h⟩ := h
                      refine wy_gh (Φ' := (PL G1 G2 ab ac M M34 B Z)) (fun H hH => PL_gk (LH_gk hLH).2.2.1 hag hH) ?_
                      refine wy_iconst (v := (-1)) C dL_law_182 (by decide) ?_
                      refine wy_icmp_ne C (tgt := 286) dL_law_183 (by decide) (fun hc => ?_) (fun hc => ?_)
                      · have h := h.1 hc
                        refine wy_sub [2, 3, 4, 5, 6, 1, 0] rfl ?_
                        exact kL_law_286 l G1 G2 ab ac b L xs hLH C hr hlocks hA0 hcc hss hX hbl (wL_law_53 L xs n) (ih) v5 (cellV L xs ((5 : Int32) + ((2 : Int32) * v5))) (cellV L xs ((6 : Int32) + ((2 : Int32) * v5))) M M34 B Z h
                      · have h := h.2 hc
                        refine wy_aload_n C dL_law_186 4 rfl ?_
                        refine wy_lconst (v := 0) C dL_law_187 (by decide) ?_
                        refine wy_bipush (v := 40) C dL_law_188 (by decide) ?_
                        refine wy_callVi (Φ1 := fun (u : Mem) => (PL G1 G2 ab ac M u B Z)) C (cX7_order_M l G2 (LH_gk hLH).1 (LH_gk hLH).2.1 (0 : Int64) (40 : Int32) M34 _) h cw_RL_93 hd_X7_order ⟨rfl, rfl⟩ ⟨by decide, by decide⟩ ((LH_gk hLH).2.1 0 (by decide)) (gc_k kq_0) rfl (As := [.long (0 : Int64), .int (40 : Int32)]) (rest := []) rfl (Nat.le_of_ble_eq_true rfl) ⟨hcc, hss⟩ rfl dL_law_190 (LH_gk hLH).2.2.2.1 (LH_gk hLH).2.2.2.2 (fun H h => h.2.1) (PL_k hLH) (fun r35 M36 h => ?_)
                        obtain ⟨M37, hag, h⟩ := h
                        refine wy_gh (Φ' := (PL G1 G2 ab ac M M37 B Z)) (fun H hH => PL_gk (LH_gk hLH).2.2.1 hag hH) ?_
                        refine wy_iconst (v := (-1)) C dL_law_193 (by decide) ?_
                        refine wy_icmp_ne C (tgt := 286) dL_law_194 (by decide) (fun hc => ?_) (fun hc => ?_)
                        · have h := h.1 hc
                          refine wy_sub [2, 3, 4, 5, 6, 1, 0] rfl ?_
                          exact kL_law_286 l G1 G2 ab ac b L xs hLH C hr hlocks hA0 hcc hss hX hbl (wL_law_53 L xs n) (ih) v5 (cellV L xs ((5 : Int32) + ((2 : Int32) * v5))) (cellV L xs ((6 : Int32) + ((2 : Int32) * v5))) M M37 B Z h
                        · have h := h.2 hc
                          refine wy_aload_n C dL_law_197 4 rfl ?_
                          refine wy_iconst (v := 4) C dL_law_198 (by decide) ?_
                          refine wy_iconst (v := 0) C dL_law_199 (by decide) ?_
                          refine wy_callVi (Φ1 := fun (u : Mem) => (PL G1 G2 ab ac M u B Z)) C (cX7_shows_M l G2 (LH_gk hLH).1 (LH_gk hLH).2.1 (4 : Int32) (0 : Int32) M37 _) h cw_RL_96 hd_X7_shows ⟨rfl, rfl⟩ ⟨by decide, by decide⟩ ((LH_gk hLH).2.1 0 (by decide)) (gc_k kq_0) rfl (As := [.int (4 : Int32), .int (0 : Int32)]) (rest := []) rfl (Nat.le_of_ble_eq_true rfl) ⟨hcc, hss⟩ rfl dL_law_200 (LH_gk hLH).2.2.2.1 (LH_gk hLH).2.2.2.2 (fun H h => h.2.1) (PL_k hLH) (fun r38 M39 h => ?_)
                          obtain ⟨M40, hag, h⟩ := h
                          refine wy_gh (Φ' := (PL G1 G2 ab ac M M40 B Z)) (fun H hH => PL_gk (LH_gk hLH).2.2.1 hag hH) ?_
                          refine wy_iconst (v := (-1)) C dL_law_203 (by decide) ?_
                          refine wy_icmp_ne C (tgt := 286) dL_law_204 (by decide) (fun hc => ?_) (fun hc => ?_)
                          · have h := h.1 hc
                            refine wy_sub [2, 3, 4, 5, 6, 1, 0] rfl ?_
                            exact kL_law_286 l G1 G2 ab ac b L xs hLH C hr hlocks hA0 hcc hss hX hbl (wL_law_53 L xs n) (ih) v5 (cellV L xs ((5 : Int32) + ((2 : Int32) * v5))) (cellV L xs ((6 : Int32) + ((2 : Int32) * v5))) M M40 B Z h
                          · have h := h.2 hc
                            refine wy_aload_n C dL_law_207 4 rfl ?_
                            refine wy_iconst (v := 3) C dL_law_208 (by decide) ?_
                            refine wy_callVi (Φ1 := fun (u : Mem) => (PL G1 G2 ab ac M u B Z)) C (cX7_quickest_M l G2 (LH_gk hLH).1 (LH_gk hLH).2.1 (3 : Int32) M40 _) h cw_RL_99 hd_X7_quickest ⟨rfl, rfl⟩ ⟨by decide, by decide⟩ ((LH_gk hLH).2.1 0 (by decide)) (gc_k kq_0) rfl (As := [.int (3 : Int32)]) (rest := []) rfl (Nat.le_of_ble_eq_true rfl) ⟨hcc, hss⟩ rfl dL_law_209 (LH_gk hLH).2.2.2.1 (LH_gk hLH).2.2.2.2 (fun H h => h.2.1) (PL_k hLH) (fun r41 M42 h => ?_)
                            obtain ⟨M43, hag, h⟩ := h
                            refine wy_gh (Φ' := (PL G1 G2 ab ac M M43 B Z)) (fun H hH => PL_gk (LH_gk hLH).2.2.1 hag hH) ?_
                            refine wy_iconst (v := (-1)) C dL_law_212 (by decide) ?_
                            refine wy_icmp_ne C (tgt := 286) dL_law_213 (by decide) (fun hc => ?_) (fun hc => ?_)
                            · have h := h.1 hc
                              refine wy_sub [2, 3, 4, 5, 6, 1, 0] rfl ?_
                              exact kL_law_286 l G1 G2 ab ac b L xs hLH C hr hlocks hA0 hcc hss hX hbl (wL_law_53 L xs n) (ih) v5 (cellV L xs ((5 : Int32) + ((2 : Int32) * v5))) (cellV L xs ((6 : Int32) + ((2 : Int32) * v5))) M M43 B Z h
                            · have h := h.2 hc
                              refine wy_aload_n C dL_law_216 4 rfl ?_
                              refine wy_lconst (v := 0) C dL_law_217 (by decide) ?_
                              refine wy_iconst (v := 0) C dL_law_218 (by decide) ?_
                              refine wy_bipush (v := 40) C dL_law_219 (by decide) ?_
                              refine wy_callVi (Φ1 := fun (u : Mem) => (PL G1 G2 ab ac M u B Z)) C (cX7_seen_M l G2 (LH_gk hLH).1 (LH_gk hLH).2.1 (0 : Int64) (0 : Int32) (40 : Int32) M43 _) h cw_RL_102 hd_X7_seen ⟨rfl, rfl⟩ ⟨by decide, by decide⟩ ((LH_gk hLH).2.1 0 (by decide)) (gc_k kq_0) rfl (As := [.long (0 : Int64), .int (0 : Int32), .int (40 : Int32)]) (rest := []) rfl (Nat.le_of_ble_eq_true rfl) ⟨hcc, hss⟩ rfl dL_law_221 (LH_gk hLH).2.2.2.1 (LH_gk hLH).2.2.2.2 (fun H h => h.2.1) (PL_k hLH) (fun r44 M45 h => ?_)
                              obtain ⟨M46, hag, h⟩ := h
                              refine wy_gh (Φ' := (PL G1 G2 ab ac M M46 B Z)) (fun H hH => PL_gk (LH_gk hLH).2.2.1 hag hH) ?_
                              refine wy_iconst (v := (-1)) C dL_law_224 (by decide) ?_
                              refine wy_icmp_ne C (tgt := 286) dL_law_225 (by decide) (fun hc => ?_) (fun hc => ?_)
                              · have h := h.1 hc
                                refine wy_sub [2, 3, 4, 5, 6, 1, 0] rfl ?_
                                exact kL_law_286 l G1 G2 ab ac b L xs hLH C hr hlocks hA0 hcc hss hX hbl (wL_law_53 L xs n) (ih) v5 (cellV L xs ((5 : Int32) + ((2 : Int32) * v5))) (cellV L xs ((6 : Int32) + ((2 : Int32) * v5))) M M46 B Z h
                              · have h := h.2 hc
                                refine wy_aload_n C dL_law_228 4 rfl ?_
                                refine wy_bipush (v := 40) C dL_law_229 (by decide) ?_
                                refine wy_callVi (Φ1 := fun (u : Mem) => (PL G1 G2 ab ac M u B Z)) C (cX7_sure_M l G2 (LH_gk hLH).1 (LH_gk hLH).2.1 (40 : Int32) M46 _) h cw_RL_111 hd_X7_sure ⟨rfl, rfl⟩ ⟨by decide, by decide⟩ ((LH_gk hLH).2.1 0 (by decide)) (gc_k kq_0) rfl (As := [.int (40 : Int32)]) (rest := []) rfl (Nat.le_of_ble_eq_true rfl) ⟨hcc, hss⟩ rfl dL_law_231 (LH_gk hLH).2.2.2.1 (LH_gk hLH).2.2.2.2 (fun H h => h.2.1) (PL_k hLH) (fun r47 M48 h => ?_)
                                obtain ⟨M49, hag, h⟩ := h
                                refine wy_gh (Φ' := (PL G1 G2 ab ac M M49 B Z)) (fun H hH => PL_gk (LH_gk hLH).2.2.1 hag hH) ?_
                                refine wy_iconst (v := (-1)) C dL_law_234 (by decide) ?_
                                refine wy_icmp_ne C (tgt := 286) dL_law_235 (by decide) (fun hc => ?_) (fun hc => ?_)
                                · have h := h.1 hc
                                  refine wy_sub [2, 3, 4, 5, 6, 1, 0] rfl ?_
                                  exact kL_law_286 l G1 G2 ab ac b L xs hLH C hr hlocks hA0 hcc hss hX hbl (wL_law_53 L xs n) (ih) v5 (cellV L xs ((5 : Int32) + ((2 : Int32) * v5))) (cellV L xs ((6 : Int32) + ((2 : Int32) * v5))) M M49 B Z h
                                · have h := h.2 hc
                                  refine wy_aload_n C dL_law_238 4 rfl ?_
                                  refine wy_bipush (v := 40) C dL_law_239 (by decide) ?_
                                  refine wy_iconst (v := 0) C dL_law_241 (by decide) ?_
                                  refine wy_callVi (Φ1 := fun (u : Mem) => (PL G1 G2 ab ac M u B Z)) C (cX7_lacks_M l G2 (LH_gk hLH).1 (LH_gk hLH).2.1 (40 : Int32) (0 : Int32) M49 _) h cw_RL_114 hd_X7_lacks ⟨rfl, rfl⟩ ⟨by decide, by decide⟩ ((LH_gk hLH).2.1 0 (by decide)) (gc_k kq_0) rfl (As := [.int (40 : Int32), .int (0 : Int32)]) (rest := []) rfl (Nat.le_of_ble_eq_true rfl) ⟨hcc, hss⟩ rfl dL_law_242 (LH_gk hLH).2.2.2.1 (LH_gk hLH).2.2.2.2 (fun H h => h.2.1) (PL_k hLH) (fun r50 M51 h => ?_)
                                  obtain ⟨M52, hag, h⟩ := h
                                  refine wy_gh (Φ' := (PL G1 G2 ab ac M M52 B Z)) (fun H hH => PL_gk (LH_gk hLH).2.2.1 hag hH) ?_
                                  refine wy_iconst (v := (-1)) C dL_law_245 (by decide) ?_
                                  refine wy_icmp_ne C (tgt := 286) dL_law_246 (by decide) (fun hc => ?_) (fun hc => ?_)
                                  · have h := h.1 hc
                                    refine wy_sub [2, 3, 4, 5, 6, 1, 0] rfl ?_
                                    exact kL_law_286 l G1 G2 ab ac b L xs hLH C hr hlocks hA0 hcc hss hX hbl (wL_law_53 L xs n) (ih) v5 (cellV L xs ((5 : Int32) + ((2 : Int32) * v5))) (cellV L xs ((6 : Int32) + ((2 : Int32) * v5))) M M52 B Z h
                                  · have h := h.2 hc
                                    refine wy_aload_n C dL_law_249 4 rfl ?_
                                    refine wy_iconst (v := 0) C dL_law_250 (by decide) ?_
                                    refine wy_iconst (v := 0) C dL_law_251 (by decide) ?_
                                    refine wy_sipush (v := 1001) C dL_law_252 (by decide) ?_
                                    refine wy_callVi (Φ1 := fun (u : Mem) => (PL G1 G2 ab ac M u B Z)) C (cX7_notice_M l G2 (LH_gk hLH).1 (LH_gk hLH).2.1 (0 : Int32) (0 : Int32) (1001 : Int32) M52 _) h cw_RL_117 hd_X7_notice ⟨rfl, rfl⟩ ⟨by decide, by decide⟩ ((LH_gk hLH).2.1 0 (by decide)) (gc_k kq_0) rfl (As := [.int (0 : Int32), .int (0 : Int32), .int (1001 : Int32)]) (rest := []) rfl (Nat.le_of_ble_eq_true rfl) ⟨hcc, hss⟩ rfl dL_law_255 (LH_gk hLH).2.2.2.1 (LH_gk hLH).2.2.2.2 (fun H h => h.2.1) (PL_k hLH) (fun r53 M54 h => ?_)
                                    obtain ⟨M55, hag, h⟩ := h
                                    refine wy_gh (Φ' := (PL G1 G2 ab ac M M55 B Z)) (fun H hH => PL_gk (LH_gk hLH).2.2.1 hag hH) ?_
                                    refine wy_iconst (v := (-1)) C dL_law_258 (by decide) ?_
                                    refine wy_icmp_ne C (tgt := 286) dL_law_259 (by decide) (fun hc => ?_) (fun hc => ?_)
                                    · have h := h.1 hc
                                      refine wy_sub [2, 3, 4, 5, 6, 1, 0] rfl ?_
                                      exact kL_law_286 l G1 G2 ab ac b L xs hLH C hr hlocks hA0 hcc hss hX hbl (wL_law_53 L xs n) (ih) v5 (cellV L xs ((5 : Int32) + ((2 : Int32) * v5))) (cellV L xs ((6 : Int32) + ((2 : Int32) * v5))) M M55 B Z h
                                    · have h := h.2 hc
                                      refine wy_aload_n C dL_law_262 4 rfl ?_
                                      refine wy_iconst (v := 0) C dL_law_263 (by decide) ?_
                                      refine wy_iconst (v := 0) C dL_law_264 (by decide) ?_
                                      refine wy_callVi (Φ1 := fun (u : Mem) => (PL G1 G2 ab ac M u B Z)) C (cX7_pleased_M l G2 (LH_gk hLH).1 (LH_gk hLH).2.1 (0 : Int32) (0 : Int32) M55 _) h cw_RL_121 hd_X7_pleased ⟨rfl, rfl⟩ ⟨by decide, by decide⟩ ((LH_gk hLH).2.1 0 (by decide)) (gc_k kq_0) rfl (As := [.int (0 : Int32), .int (0 : Int32)]) (rest := []) rfl (Nat.le_of_ble_eq_true rfl) ⟨hcc, hss⟩ rfl dL_law_265 (LH_gk hLH).2.2.2.1 (LH_gk hLH).2.2.2.2 (fun H h => h.2.1) (PL_k hLH) (fun r56 M57 h => ?_)
                                      obtain ⟨M58, hag, h⟩ := h
                                      refine wy_gh (Φ' := (PL G1 G2 ab ac M M58 B Z)) (fun H hH => PL_gk (LH_gk hLH).2.2.1 hag hH) ?_
                                      refine wy_iconst (v := (-1)) C dL_law_268 (by decide) ?_
                                      refine wy_icmp_ne C (tgt := 286) dL_law_269 (by decide) (fun hc => ?_) (fun hc => ?_)
                                      · have h := h.1 hc
                                        refine wy_sub [2, 3, 4, 5, 6, 1, 0] rfl ?_
                                        exact kL_law_286 l G1 G2 ab ac b L xs hLH C hr hlocks hA0 hcc hss hX hbl (wL_law_53 L xs n) (ih) v5 (cellV L xs ((5 : Int32) + ((2 : Int32) * v5))) (cellV L xs ((6 : Int32) + ((2 : Int32) * v5))) M M58 B Z h
                                      · have h := h.2 hc
                                        refine wy_aload_n C dL_law_272 4 rfl ?_
                                        refine wy_bipush (v := 8) C dL_law_273 (by decide) ?_
                                        refine wy_callVi (Φ1 := fun (u : Mem) => (PL G1 G2 ab ac M u B Z)) C (cX7_count_M l G2 (LH_gk hLH).1 (LH_gk hLH).2.1 (8 : Int32) M58 _) h cw_RL_148 hd_X7_count ⟨rfl, rfl⟩ ⟨by decide, by decide⟩ ((LH_gk hLH).2.1 0 (by decide)) (gc_k kq_0) rfl (As := [.int (8 : Int32)]) (rest := []) rfl (Nat.le_of_ble_eq_true rfl) ⟨hcc, hss⟩ rfl dL_law_275 (LH_gk hLH).2.2.2.1 (LH_gk hLH).2.2.2.2 (fun H h => h.2.1) (PL_k hLH) (fun r59 M60 h => ?_)
                                        obtain ⟨M61, hag, h⟩ := h
                                        refine wy_gh (Φ' := (PL G1 G2 ab ac M M61 B Z)) (fun H hH => PL_gk (LH_gk hLH).2.2.1 hag hH) ?_
                                        refine wy_iconst (v := (-1)) C dL_law_278 (by decide) ?_
                                        refine wy_icmp_ne C (tgt := 286) dL_law_279 (by decide) (fun hc => ?_) (fun hc => ?_)
                                        · have h := h.1 hc
                                          refine wy_sub [2, 3, 4, 5, 6, 1, 0] rfl ?_
                                          exact kL_law_286 l G1 G2 ab ac b L xs hLH C hr hlocks hA0 hcc hss hX hbl (wL_law_53 L xs n) (ih) v5 (cellV L xs ((5 : Int32) + ((2 : Int32) * v5))) (cellV L xs ((6 : Int32) + ((2 : Int32) * v5))) M M61 B Z h
                                        · have h := h.2 hc
                                          refine wy_iconst (v := 1) C dL_law_282 (by decide) ?_
                                          refine wy_goto C (tgt := 287) dL_law_283 (by decide) ?_
                                          refine wy_sub [2, 3, 4, 5, 6, 1, 0] rfl ?_
                                          exact kL_law_287 l G1 G2 ab ac b L xs hLH C hr hlocks hA0 hcc hss hX hbl (wL_law_53 L xs n) (ih) v5 (cellV L xs ((5 : Int32) + ((2 : Int32) * v5))) (cellV L xs ((6 : Int32) + ((2 : Int32) * v5))) (1 : Int32) M M61 B Z h
set_option maxRecDepth 100000 in
set_option maxHeartbeats 40000000 in
theorem kL_law {p : Program} {e : Env} {s : State} {m : MethodId} {below : List Frame} {meth : Method} {c : Code} {cells slots : Nat} (l : Launch) (G1 G2 : gP) (ab ac b : Nat) (L : Nat) (xs : Nat → Int32) (hLH : LH G1 G2 ab ac s) (C : Cy p s m #[Value.ref b] meth c cL_law 11 RL) (hr : meth.sig.returnType = ret) (hlocks : meth.locks = false) (hA0 : c.code = code) (hcc : cells ≤ 600000) (hss : slots ≤ 7302250) (hX : va_X b L xs s s.heap) (hbl : b < s.heap.size) (M : Mem) (N : Mem) (B : Nat → Int32) (Z : Nat → Int32) (h : wL_law L xs M N B Z) : Wy p l e room_1 s m #[Value.ref b] below meth c (lw_Z below #[Value.ref b] s) (fun q : Nat => s.heap.size ≤ q) 11 cells slots (PL G1 G2 ab ac M N B Z) 27 [(0, .ref b), (1, .ref (gAD G1 0)), (2, .ref (gAD G2 0)), (3, .ref ab), (4, .ref ac)] [] := by
  have h : (wL_book L xs (0 : Int32) M B (fun r1 M2 B3 => ((r1 = 0 → wL_law_48 L xs M2 N B3 Z) ∧ (¬ r1 = 0 → (wL_book L xs (0 : Int32) N Z (fun r4 M5 B6 => ((¬ r4 = 0 → (∃ n7, wL_law_53 L xs n7 (0 : Int32) M2 M5 B3 B6)) ∧ (r4 = 0 → wL_law_48 L xs M2 M5 B3 B6)))))))) := h
  refine wy_aload_n C dL_law_27 1 rfl ?_
  refine wy_aload_n C dL_law_28 0 rfl ?_
  refine wy_iconst (v := 0) C dL_law_29 (by decide) ?_
  refine wy_aload_n C dL_law_30 3 rfl ?_
  refine wy_callSi (Φ1 := fun (u : Mem × (Nat → Int32)) => (PL G1 G2 ab ac u.1 N u.2 Z)) C (cL_book_M l G1 ab b L xs (0 : Int32) (LH_bo hLH) M B _) cw_RL_137 hd_L_book ⟨rfl, rfl⟩ ⟨by decide, by decide⟩ (As := [.ref (gAD G1 0), .ref b, .int (0 : Int32), .ref ab]) (rest := []) rfl (Nat.le_of_ble_eq_true rfl) ⟨hcc, hss⟩ rfl dL_law_31 (bk_cal (pre := _)) (bk_warm_o hLH hX hbl h) (LH_fr_bo hLH) (PL_bo hLH) (fun r1 u h => ?_)
  obtain ⟨M2, B3⟩ := u
  dsimp only at h
  refine wy_if_eq C (tgt := 48) dL_law_34 (by decide) (fun hc => ?_) (fun hc => ?_)
  · have h := h.1 hc
    refine wy_sub [] rfl ?_
    exact kL_law_48 l G1 G2 ab ac b L xs hLH C hr hlocks hA0 hcc hss hX hbl M2 N B3 Z h
  · have h := h.2 hc
    refine wy_aload_n C dL_law_37 2 rfl ?_
    refine wy_aload_n C dL_law_38 0 rfl ?_
    refine wy_iconst (v := 0) C dL_law_39 (by decide) ?_
    refine wy_aload C dL_law_40 4 rfl ?_
    refine wy_callSi (Φ1 := fun (u : Mem × (Nat → Int32)) => (PL G1 G2 ab ac M2 u.1 B3 u.2)) C (cL_book_M l G2 ac b L xs (0 : Int32) (LH_bk hLH) N Z _) cw_RL_137 hd_L_book ⟨rfl, rfl⟩ ⟨by decide, by decide⟩ (As := [.ref (gAD G2 0), .ref b, .int (0 : Int32), .ref ac]) (rest := []) rfl (Nat.le_of_ble_eq_true rfl) ⟨hcc, hss⟩ rfl dL_law_42 (bk_cal (pre := _)) (bk_warm_k hLH hX hbl h) (LH_fr_bk hLH) (PL_bk hLH) (fun r4 u h => ?_)
    obtain ⟨M5, B6⟩ := u
    dsimp only at h
    refine wy_if_ne C (tgt := 50) dL_law_45 (by decide) (fun hc => ?_) (fun hc => ?_)
    · have h := h.1 hc
      refine wy_iconst (v := 0) C dL_law_50 (by decide) ?_
      refine wy_istore (i := 5) (lv' := [(5, .int (0 : Int32)), (0, .ref b), (1, .ref (gAD G1 0)), (2, .ref (gAD G2 0)), (3, .ref ab), (4, .ref ac)]) C dL_law_51 (by decide) rfl ?_
      refine wy_sub [1, 2, 3, 4, 0] rfl ?_
      obtain ⟨n7, h⟩ := h
      exact kL_law_53 l G1 G2 ab ac b L xs hLH C hr hlocks hA0 hcc hss hX hbl n7 (0 : Int32) M2 M5 B3 B6 h
    · have h := h.2 hc
      refine wy_sub [] rfl ?_
      exact kL_law_48 l G1 G2 ab ac b L xs hLH C hr hlocks hA0 hcc hss hX hbl M2 M5 B3 B6 h
