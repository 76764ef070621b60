abbrev rmL_act : Room := { frames := 6, cells := 0, slots := 0, locals := 143 }
def wL_act_400 (B : Nat → Int32) (x1 : Int32) (x2 : Int32) (Q : Int64 → Mem → Prop) (s0 : Int64) (M : Mem) : Prop := Q s0 M
def wL_act_421 (B : Nat → Int32) (x1 : Int32) (x2 : Int32) (Q : Int64 → Mem → Prop) (s0 : Int64) (M : Mem) : Prop := Q s0 M
def wL_act_55 (B : Nat → Int32) (x1 : Int32) (x2 : Int32) (Q : Int64 → Mem → Prop) (v4 : Int32) (v5 : Int32) (s0 : Int64) (M : Mem) : Prop := (((x1 &&& (15 : Int32)) = (0 : Int32) → (wX7_read M (fun r7 M8 => ∃ M9, AG M8 M9 ∧ Q r7.toInt64 M9))) ∧ (¬ (x1 &&& (15 : Int32)) = (0 : Int32) → (((x1 &&& (15 : Int32)) = (1 : Int32) → (wX7_read M (fun r10 M11 => ∃ M12, AG M11 M12 ∧ Q r10.toInt64 M12))) ∧ (¬ (x1 &&& (15 : Int32)) = (1 : Int32) → (((x1 &&& (15 : Int32)) = (2 : Int32) → (wX7_read M (fun r13 M14 => ∃ M15, AG M14 M15 ∧ Q r13.toInt64 M15))) ∧ (¬ (x1 &&& (15 : Int32)) = (2 : Int32) → (((x1 &&& (15 : Int32)) = (3 : Int32) → (wX7_finish M (fun r16 M17 => ∃ M18, AG M17 M18 ∧ Q r16.toInt64 M18))) ∧ (¬ (x1 &&& (15 : Int32)) = (3 : Int32) → (((x1 &&& (15 : Int32)) = (4 : Int32) → (wX7_change v4 v5 M (fun r19 M20 => ∃ M21, AG M20 M21 ∧ Q r19.toInt64 M21))) ∧ (¬ (x1 &&& (15 : Int32)) = (4 : Int32) → (((x1 &&& (15 : Int32)) = (5 : Int32) → (¬ (10000 : Int32) = 0 ∧ (wX7_drop (someV (x1 >>> ((4 : Int32) &&& 31)) (10000 : Int32)) M (fun r22 M23 => ∃ M24, AG M23 M24 ∧ Q r22.toInt64 M24)))) ∧ (¬ (x1 &&& (15 : Int32)) = (5 : Int32) → (((x1 &&& (15 : Int32)) = (6 : Int32) → (vp_in (1 : Int32) 20 ∧ (¬ (B (1 : Int32).toNatClampNeg) = 0 ∧ (wX7_has s0 (someV x2 (B (1 : Int32).toNatClampNeg)) M (fun r25 M26 => ∃ M27, AG M26 M27 ∧ (wX7_leaves s0 M27 (fun r28 M29 => ∃ M30, AG M29 M30 ∧ Q ((r25.toInt64 * (1000 : Int64)) + r28) M30))))))) ∧ (¬ (x1 &&& (15 : Int32)) = (6 : Int32) → (((x1 &&& (15 : Int32)) = (7 : Int32) → (wX7_period M (fun r31 M32 => ∃ M33, AG M32 M33 ∧ (wX7_ever ((x1 >>> ((4 : Int32) &&& 31)) &&& (1 : Int32)) M33 (fun r34 M35 => ∃ M36, AG M35 M36 ∧ Q ((r31.toInt64 * (10000 : Int64)) + r34) M36))))) ∧ (¬ (x1 &&& (15 : Int32)) = (7 : Int32) → (((x1 &&& (15 : Int32)) = (8 : Int32) → (wX7_right s0 M (fun r37 M38 => ∃ M39, AG M38 M39 ∧ (wX7_order s0 v4 M39 (fun r40 M41 => ∃ M42, AG M41 M42 ∧ Q ((r37.toInt64 * (100 : Int64)) + r40.toInt64) M42))))) ∧ (¬ (x1 &&& (15 : Int32)) = (8 : Int32) → (((x1 &&& (15 : Int32)) = (9 : Int32) → (wX7_shows ((x1 >>> ((4 : Int32) &&& 31)) &&& (3 : Int32)) v4 M (fun r43 M44 => ∃ M45, AG M44 M45 ∧ (¬ (3 : Int32) = 0 ∧ (wX7_quickest (someV (x2 >>> ((8 : Int32) &&& 31)) (3 : Int32)) M45 (fun r46 M47 => ∃ M48, AG M47 M48 ∧ Q ((r43.toInt64 * (10000 : Int64)) + r46.toInt64) M48)))))) ∧ (¬ (x1 &&& (15 : Int32)) = (9 : Int32) → (((x1 &&& (15 : Int32)) = (10 : Int32) → (¬ (20 : Int32) = 0 ∧ (vp_in (1 : Int32) 20 ∧ (¬ (B (1 : Int32).toNatClampNeg) = 0 ∧ (wX7_seen ((someV (x1 >>> ((4 : Int32) &&& 31)) (20 : Int32)).toInt64) (someV (x2 >>> ((8 : Int32) &&& 31)) (B (1 : Int32).toNatClampNeg)) v4 M (fun r49 M50 => ∃ M51, AG M50 M51 ∧ (wX7_so M51 (fun r52 M53 => ∃ M54, AG M53 M54 ∧ (wX7_sure v5 M54 (fun r55 M56 => ∃ M57, AG M56 M57 ∧ Q (((r49.toInt64 * (100 : Int64)) + (r52.toInt64 * (50 : Int64))) + r55.toInt64) M57)))))))))) ∧ (¬ (x1 &&& (15 : Int32)) = (10 : Int32) → (((x1 &&& (15 : Int32)) = (11 : Int32) → (¬ (20 : Int32) = 0 ∧ (vp_in (1 : Int32) 20 ∧ (¬ (B (1 : Int32).toNatClampNeg) = 0 ∧ (wX7_seen ((someV (x1 >>> ((4 : Int32) &&& 31)) (20 : Int32)).toInt64) (someV (x2 >>> ((8 : Int32) &&& 31)) (B (1 : Int32).toNatClampNeg)) v4 M (fun r58 M59 => ∃ M60, AG M59 M60 ∧ (wX7_so M60 (fun r61 M62 => ∃ M63, AG M62 M63 ∧ (wX7_sure v5 M63 (fun r64 M65 => ∃ M66, AG M65 M66 ∧ Q (((r58.toInt64 * (100 : Int64)) + (r61.toInt64 * (50 : Int64))) + r64.toInt64) M66)))))))))) ∧ (¬ (x1 &&& (15 : Int32)) = (11 : Int32) → (((x1 &&& (15 : Int32)) = (12 : Int32) → (wX7_lacks v4 ((x1 >>> ((4 : Int32) &&& 31)) &&& (1 : Int32)) M (fun r67 M68 => ∃ M69, AG M68 M69 ∧ (¬ (100 : Int32) = 0 ∧ (wX7_notice v4 v5 (someV (x1 >>> ((5 : Int32) &&& 31)) (100 : Int32)) M69 (fun r70 M71 => ∃ M72, AG M71 M72 ∧ Q ((r67.toInt64 * (10000 : Int64)) + r70.toInt64) M72)))))) ∧ (¬ (x1 &&& (15 : Int32)) = (12 : Int32) → (((x1 &&& (15 : Int32)) = (13 : Int32) → (¬ (60 : Int32) = 0 ∧ (wX7_pleased ((1 : Int32) + (someV (x1 >>> ((4 : Int32) &&& 31)) (60 : Int32))) ((x2 >>> ((8 : Int32) &&& 31)) &&& (1 : Int32)) M (fun r73 M74 => ∃ M75, AG M74 M75 ∧ Q r73.toInt64 M75)))) ∧ (¬ (x1 &&& (15 : Int32)) = (13 : Int32) → (((x1 &&& (15 : Int32)) = (14 : Int32) → ((¬ (x1 &&& (48 : Int32)) = 0 → (wX7_where v4 M (fun r76 M77 => ∃ M78, AG M77 M78 ∧ wL_act_400 B x1 x2 Q r76.toInt64 M78))) ∧ ((x1 &&& (48 : Int32)) = 0 → (wX7_forget M (fun r79 M80 => ∃ M81, AG M80 M81 ∧ wL_act_400 B x1 x2 Q r79.toInt64 M81))))) ∧ (¬ (x1 &&& (15 : Int32)) = (14 : Int32) → (((x1 &&& (16 : Int32)) = 0 → (wX7_back M (fun r1 M2 => ∃ M3, AG M2 M3 ∧ wL_act_421 B x1 x2 Q r1.toInt64 M3))) ∧ (¬ (x1 &&& (16 : Int32)) = 0 → (wX7_keep M (fun r4 M5 => ∃ M6, AG M5 M6 ∧ wL_act_421 B x1 x2 Q r4.toInt64 M6))))))))))))))))))))))))))))))))))
def wL_act (B : Nat → Int32) (x1 : Int32) (x2 : Int32) (M : Mem) (Q : Int64 → Mem → Prop) : Prop := (vp_in (0 : Int32) 20 ∧ (¬ (B (0 : Int32).toNatClampNeg) = 0 ∧ (vp_in (0 : Int32) 20 ∧ (¬ (B (0 : Int32).toNatClampNeg) = 0 ∧ ((¬ (x1 &&& (128 : Int32)) = 0 → (¬ (1000000 : Int32) = 0 ∧ wL_act_55 B x1 x2 Q (someV x2 (B (0 : Int32).toNatClampNeg)) (someV (x2 >>> ((4 : Int32) &&& 31)) (B (0 : Int32).toNatClampNeg)) ((someV (x1 >>> ((8 : Int32) &&& 31)) (1000000 : Int32)).toInt64 * (999999 : Int64)) M)) ∧ ((x1 &&& (128 : Int32)) = 0 → (¬ (50 : Int32) = 0 ∧ wL_act_55 B x1 x2 Q (someV x2 (B (0 : Int32).toNatClampNeg)) (someV (x2 >>> ((4 : Int32) &&& 31)) (B (0 : Int32).toNatClampNeg)) ((someV (x1 >>> ((8 : Int32) &&& 31)) (50 : Int32)).toInt64) M)))))))
set_option maxRecDepth 100000 in
set_option maxHeartbeats 40000000 in
theorem kL_act_400 (l : Launch) (G : gP) (ab : Nat) (B : Nat → Int32) (x1 x2 : Int32) (hg : gIn G) (hA : gCl G) (hlt : ∀ i, gI G i → i < 79) (hab : ¬ gA G ab) {p : Program} {e : Env} {s : State} {m : MethodId} {args : Array Value} {below : List Frame} {meth : Method} {c : Code} (C : Cy p s m args meth c cL_act 8 RL) (hr : meth.sig.returnType = (some (Jvm.ClassFile.FieldType.long))) (hKK : gKK G s) {Q : Int64 → Mem → Prop} (s0 : Int64) (M : Mem) (h : wL_act_400 B x1 x2 Q s0 M) : Wy p l e rmL_act s m args below meth c (MQ below (va_Ql (fun r (u : Mem) => Q r u) (fun u t => PB G ab u B t.heap) (fB G ab)) args s 0 0 (fB G ab)) (fB G ab) 8 0 0 (PB G ab M B) 400 [] [.long s0] := by
  have h : Q s0 M := h
  exact wy_lret C hr (u := M) h (fun t h => h) dL_act_400
set_option maxRecDepth 100000 in
set_option maxHeartbeats 40000000 in
theorem kL_act_421 (l : Launch) (G : gP) (ab : Nat) (B : Nat → Int32) (x1 x2 : Int32) (hg : gIn G) (hA : gCl G) (hlt : ∀ i, gI G i → i < 79) (hab : ¬ gA G ab) {p : Program} {e : Env} {s : State} {m : MethodId} {args : Array Value} {below : List Frame} {meth : Method} {c : Code} (C : Cy p s m args meth c cL_act 8 RL) (hr : meth.sig.returnType = (some (Jvm.ClassFile.FieldType.long))) (hKK : gKK G s) {Q : Int64 → Mem → Prop} (s0 : Int64) (M : Mem) (h : wL_act_421 B x1 x2 Q s0 M) : Wy p l e rmL_act s m args below meth c (MQ below (va_Ql (fun r (u : Mem) => Q r u) (fun u t => PB G ab u B t.heap) (fB G ab)) args s 0 0 (fB G ab)) (fB G ab) 8 0 0 (PB G ab M B) 421 [] [.long s0] := by
  have h : Q s0 M := h
  exact wy_lret C hr (u := M) h (fun t h => h) dL_act_421
set_option maxRecDepth 100000 in
set_option maxHeartbeats 40000000 in
theorem kL_act_55 (l : Launch) (G : gP) (ab : Nat) (B : Nat → Int32) (x1 x2 : Int32) (hg : gIn G) (hA : gCl G) (hlt : ∀ i, gI G i → i < 79) (hab : ¬ gA G ab) {p : Program} {e : Env} {s : State} {m : MethodId} {args : Array Value} {below : List Frame} {meth : Method} {c : Code} (C : Cy p s m args meth c cL_act 8 RL) (hr : meth.sig.returnType = (some (Jvm.ClassFile.FieldType.long))) (hKK : gKK G s) {Q : Int64 → Mem → Prop} (v4 : Int32) (v5 : Int32) (s0 : Int64) (M : Mem) (h : wL_act_55 B x1 x2 Q v4 v5 s0 M) : Wy p l e rmL_act s m args below meth c (MQ below (va_Ql (fun r (u : Mem) => Q r u) (fun u t => PB G ab u B t.heap) (fB G ab)) args s 0 0 (fB G ab)) (fB G ab) 8 0 0 (PB G ab M B) 55 [(0, .ref (gAD G 0)), (1, .int x1), (2, .int x2), (3, .ref ab), (4, .int v4), (5, .int v5)] [.long s0] := by
  have h : (((x1 &&& (15 : Int32)) = (0 : Int32) → (wX7_read M (fun r7 M8 => ∃ M9, AG M8 M9 ∧ Q r7.toInt64 M9))) ∧ (¬ (x1 &&& (15 : Int32)) = (0 : Int32) → (((x1 &&& (15 : Int32)) = (1 : Int32) → (wX7_read M (fun r10 M11 => ∃ M12, AG M11 M12 ∧ Q r10.toInt64 M12))) ∧ (¬ (x1 &&& (15 : Int32)) = (1 : Int32) → (((x1 &&& (15 : Int32)) = (2 : Int32) → (wX7_read M (fun r13 M14 => ∃ M15, AG M14 M15 ∧ Q r13.toInt64 M15))) ∧ (¬ (x1 &&& (15 : Int32)) = (2 : Int32) → (((x1 &&& (15 : Int32)) = (3 : Int32) → (wX7_finish M (fun r16 M17 => ∃ M18, AG M17 M18 ∧ Q r16.toInt64 M18))) ∧ (¬ (x1 &&& (15 : Int32)) = (3 : Int32) → (((x1 &&& (15 : Int32)) = (4 : Int32) → (wX7_change v4 v5 M (fun r19 M20 => ∃ M21, AG M20 M21 ∧ Q r19.toInt64 M21))) ∧ (¬ (x1 &&& (15 : Int32)) = (4 : Int32) → (((x1 &&& (15 : Int32)) = (5 : Int32) → (¬ (10000 : Int32) = 0 ∧ (wX7_drop (someV (x1 >>> ((4 : Int32) &&& 31)) (10000 : Int32)) M (fun r22 M23 => ∃ M24, AG M23 M24 ∧ Q r22.toInt64 M24)))) ∧ (¬ (x1 &&& (15 : Int32)) = (5 : Int32) → (((x1 &&& (15 : Int32)) = (6 : Int32) → (vp_in (1 : Int32) 20 ∧ (¬ (B (1 : Int32).toNatClampNeg) = 0 ∧ (wX7_has s0 (someV x2 (B (1 : Int32).toNatClampNeg)) M (fun r25 M26 => ∃ M27, AG M26 M27 ∧ (wX7_leaves s0 M27 (fun r28 M29 => ∃ M30, AG M29 M30 ∧ Q ((r25.toInt64 * (1000 : Int64)) + r28) M30))))))) ∧ (¬ (x1 &&& (15 : Int32)) = (6 : Int32) → (((x1 &&& (15 : Int32)) = (7 : Int32) → (wX7_period M (fun r31 M32 => ∃ M33, AG M32 M33 ∧ (wX7_ever ((x1 >>> ((4 : Int32) &&& 31)) &&& (1 : Int32)) M33 (fun r34 M35 => ∃ M36, AG M35 M36 ∧ Q ((r31.toInt64 * (10000 : Int64)) + r34) M36))))) ∧ (¬ (x1 &&& (15 : Int32)) = (7 : Int32) → (((x1 &&& (15 : Int32)) = (8 : Int32) → (wX7_right s0 M (fun r37 M38 => ∃ M39, AG M38 M39 ∧ (wX7_order s0 v4 M39 (fun r40 M41 => ∃ M42, AG M41 M42 ∧ Q ((r37.toInt64 * (100 : Int64)) + r40.toInt64) M42))))) ∧ (¬ (x1 &&& (15 : Int32)) = (8 : Int32) → (((x1 &&& (15 : Int32)) = (9 : Int32) → (wX7_shows ((x1 >>> ((4 : Int32) &&& 31)) &&& (3 : Int32)) v4 M (fun r43 M44 => ∃ M45, AG M44 M45 ∧ (¬ (3 : Int32) = 0 ∧ (wX7_quickest (someV (x2 >>> ((8 : Int32) &&& 31)) (3 : Int32)) M45 (fun r46 M47 => ∃ M48, AG M47 M48 ∧ Q ((r43.toInt64 * (10000 : Int64)) + r46.toInt64) M48)))))) ∧ (¬ (x1 &&& (15 : Int32)) = (9 : Int32) → (((x1 &&& (15 : Int32)) = (10 : Int32) → (¬ (20 : Int32) = 0 ∧ (vp_in (1 : Int32) 20 ∧ (¬ (B (1 : Int32).toNatClampNeg) = 0 ∧ (wX7_seen ((someV (x1 >>> ((4 : Int32) &&& 31)) (20 : Int32)).toInt64) (someV (x2 >>> ((8 : Int32) &&& 31)) (B (1 : Int32).toNatClampNeg)) v4 M (fun r49 M50 => ∃ M51, AG M50 M51 ∧ (wX7_so M51 (fun r52 M53 => ∃ M54, AG M53 M54 ∧ (wX7_sure v5 M54 (fun r55 M56 => ∃ M57, AG M56 M57 ∧ Q (((r49.toInt64 * (100 : Int64)) + (r52.toInt64 * (50 : Int64))) + r55.toInt64) M57)))))))))) ∧ (¬ (x1 &&& (15 : Int32)) = (10 : Int32) → (((x1 &&& (15 : Int32)) = (11 : Int32) → (¬ (20 : Int32) = 0 ∧ (vp_in (1 : Int32) 20 ∧ (¬ (B (1 : Int32).toNatClampNeg) = 0 ∧ (wX7_seen ((someV (x1 >>> ((4 : Int32) &&& 31)) (20 : Int32)).toInt64) (someV (x2 >>> ((8 : Int32) &&& 31)) (B (1 : Int32).toNatClampNeg)) v4 M (fun r58 M59 => ∃ M60, AG M59 M60 ∧ (wX7_so M60 (fun r61 M62 => ∃ M63, AG M62 M63 ∧ (wX7_sure v5 M63 (fun r64 M65 => ∃ M66, AG M65 M66 ∧ Q (((r58.toInt64 * (100 : Int64)) + (r61.toInt64 * (50 : Int64))) + r64.toInt64) M66)))))))))) ∧ (¬ (x1 &&& (15 : Int32)) = (11 : Int32) → (((x1 &&& (15 : Int32)) = (12 : Int32) → (wX7_lacks v4 ((x1 >>> ((4 : Int32) &&& 31)) &&& (1 : Int32)) M (fun r67 M68 => ∃ M69, AG M68 M69 ∧ (¬ (100 : Int32) = 0 ∧ (wX7_notice v4 v5 (someV (x1 >>> ((5 : Int32) &&& 31)) (100 : Int32)) M69 (fun r70 M71 => ∃ M72, AG M71 M72 ∧ Q ((r67.toInt64 * (10000 : Int64)) + r70.toInt64) M72)))))) ∧ (¬ (x1 &&& (15 : Int32)) = (12 : Int32) → (((x1 &&& (15 : Int32)) = (13 : Int32) → (¬ (60 : Int32) = 0 ∧ (wX7_pleased ((1 : Int32) + (someV (x1 >>> ((4 : Int32) &&& 31)) (60 : Int32))) ((x2 >>> ((8 : Int32) &&& 31)) &&& (1 : Int32)) M (fun r73 M74 => ∃ M75, AG M74 M75 ∧ Q r73.toInt64 M75)))) ∧ (¬ (x1 &&& (15 : Int32)) = (13 : Int32) → (((x1 &&& (15 : Int32)) = (14 : Int32) → ((¬ (x1 &&& (48 : Int32)) = 0 → (wX7_where v4 M (fun r76 M77 => ∃ M78, AG M77 M78 ∧ wL_act_400 B x1 x2 Q r76.toInt64 M78))) ∧ ((x1 &&& (48 : Int32)) = 0 → (wX7_forget M (fun r79 M80 => ∃ M81, AG M80 M81 ∧ wL_act_400 B x1 x2 Q r79.toInt64 M81))))) ∧ (¬ (x1 &&& (15 : Int32)) = (14 : Int32) → (((x1 &&& (16 : Int32)) = 0 → (wX7_back M (fun r1 M2 => ∃ M3, AG M2 M3 ∧ wL_act_421 B x1 x2 Q r1.toInt64 M3))) ∧ (¬ (x1 &&& (16 : Int32)) = 0 → (wX7_keep M (fun r4 M5 => ∃ M6, AG M5 M6 ∧ wL_act_421 B x1 x2 Q r4.toInt64 M6)))))))))))))))))))))))))))))))))) := h
  refine wy_lstore (i := 6) (lv' := [(6, .long s0), (0, .ref (gAD G 0)), (1, .int x1), (2, .int x2), (3, .ref ab), (4, .int v4), (5, .int v5)]) C dL_act_55 (by decide) rfl ?_
  refine wy_iload_n C dL_act_57 2 rfl ?_
  refine wy_bipush (v := 15) C dL_act_58 (by decide) ?_
  refine wy_iand C dL_act_60 ?_
  by_cases ht0 : (x1 &&& (15 : Int32)) = (0 : Int32)
  · have h := h.1 ht0
    refine wy_tabIn C (tgt := 136) (0 : Int32) ht0 dL_act_61 (by decide) (by decide) rfl (by decide) ?_
    refine wy_aload_n C dL_act_136 1 rfl ?_
    refine wy_callVi (Φ1 := fun (u : Mem) => (PB G ab u B)) C (cX7_read_M l G hg hA M _) h cw_RL_55 hd_X7_read ⟨rfl, rfl⟩ ⟨by decide, by decide⟩ (hA 0 (by decide)) (gc_k kq_0) rfl (As := []) (rest := []) rfl (Nat.le_of_ble_eq_true rfl) ⟨Nat.zero_le _, Nat.zero_le _⟩ rfl dL_act_137 hKK (fun q h => Or.inl h) (fun H h => h.1) (PB_back hab) (fun r7 M8 h => ?_)
    obtain ⟨M9, hag, h⟩ := h
    refine wy_gh (Φ' := (PB G ab M9 B)) (fun H hH => ⟨GW_ag hlt hag hH.1, hH.2⟩) ?_
    refine wy_i2l C dL_act_140 ?_
    exact wy_lret C hr (u := M9) h (fun t h => h) dL_act_141
  · have h := h.2 ht0
    by_cases ht1 : (x1 &&& (15 : Int32)) = (1 : Int32)
    · have h := h.1 ht1
      refine wy_tabIn C (tgt := 136) (1 : Int32) ht1 dL_act_61 (by decide) (by decide) rfl (by decide) ?_
      refine wy_aload_n C dL_act_136 1 rfl ?_
      refine wy_callVi (Φ1 := fun (u : Mem) => (PB G ab u B)) C (cX7_read_M l G hg hA M _) h cw_RL_55 hd_X7_read ⟨rfl, rfl⟩ ⟨by decide, by decide⟩ (hA 0 (by decide)) (gc_k kq_0) rfl (As := []) (rest := []) rfl (Nat.le_of_ble_eq_true rfl) ⟨Nat.zero_le _, Nat.zero_le _⟩ rfl dL_act_137 hKK (fun q h => Or.inl h) (fun H h => h.1) (PB_back hab) (fun r10 M11 h => ?_)
      obtain ⟨M12, hag, h⟩ := h
      refine wy_gh (Φ' := (PB G ab M12 B)) (fun H hH => ⟨GW_ag hlt hag hH.1, hH.2⟩) ?_
      refine wy_i2l C dL_act_140 ?_
      exact wy_lret C hr (u := M12) h (fun t h => h) dL_act_141
    · have h := h.2 ht1
      by_cases ht2 : (x1 &&& (15 : Int32)) = (2 : Int32)
      · have h := h.1 ht2
        refine wy_tabIn C (tgt := 136) (2 : Int32) ht2 dL_act_61 (by decide) (by decide) rfl (by decide) ?_
        refine wy_aload_n C dL_act_136 1 rfl ?_
        refine wy_callVi (Φ1 := fun (u : Mem) => (PB G ab u B)) C (cX7_read_M l G hg hA M _) h cw_RL_55 hd_X7_read ⟨rfl, rfl⟩ ⟨by decide, by decide⟩ (hA 0 (by decide)) (gc_k kq_0) rfl (As := []) (rest := []) rfl (Nat.le_of_ble_eq_true rfl) ⟨Nat.zero_le _, Nat.zero_le _⟩ rfl dL_act_137 hKK (fun q h => Or.inl h) (fun H h => h.1) (PB_back hab) (fun r13 M14 h => ?_)
        obtain ⟨M15, hag, h⟩ := h
        refine wy_gh (Φ' := (PB G ab M15 B)) (fun H hH => ⟨GW_ag hlt hag hH.1, hH.2⟩) ?_
        refine wy_i2l C dL_act_140 ?_
        exact wy_lret C hr (u := M15) h (fun t h => h) dL_act_141
      · have h := h.2 ht2
        by_cases ht3 : (x1 &&& (15 : Int32)) = (3 : Int32)
        · have h := h.1 ht3
          refine wy_tabIn C (tgt := 142) (3 : Int32) ht3 dL_act_61 (by decide) (by decide) rfl (by decide) ?_
          refine wy_aload_n C dL_act_142 1 rfl ?_
          refine wy_callVi (Φ1 := fun (u : Mem) => (PB G ab u B)) C (cX7_finish_M l G hg hA M _) h cw_RL_58 hd_X7_finish ⟨rfl, rfl⟩ ⟨by decide, by decide⟩ (hA 0 (by decide)) (gc_k kq_0) rfl (As := []) (rest := []) rfl (Nat.le_of_ble_eq_true rfl) ⟨Nat.zero_le _, Nat.zero_le _⟩ rfl dL_act_143 hKK (fun q h => Or.inl h) (fun H h => h.1) (PB_back hab) (fun r16 M17 h => ?_)
          obtain ⟨M18, hag, h⟩ := h
          refine wy_gh (Φ' := (PB G ab M18 B)) (fun H hH => ⟨GW_ag hlt hag hH.1, hH.2⟩) ?_
          refine wy_i2l C dL_act_146 ?_
          exact wy_lret C hr (u := M18) h (fun t h => h) dL_act_147
        · have h := h.2 ht3
          by_cases ht4 : (x1 &&& (15 : Int32)) = (4 : Int32)
          · have h := h.1 ht4
            refine wy_tabIn C (tgt := 148) (4 : Int32) ht4 dL_act_61 (by decide) (by decide) rfl (by decide) ?_
            refine wy_aload_n C dL_act_148 1 rfl ?_
            refine wy_iload C dL_act_149 5 rfl ?_
            refine wy_iload C dL_act_151 6 rfl ?_
            refine wy_callVi (Φ1 := fun (u : Mem) => (PB G ab u B)) C (cX7_change_M l G hg hA v4 v5 M _) h cw_RL_61 hd_X7_change ⟨rfl, rfl⟩ ⟨by decide, by decide⟩ (hA 0 (by decide)) (gc_k kq_0) rfl (As := [.int v4, .int v5]) (rest := []) rfl (Nat.le_of_ble_eq_true rfl) ⟨Nat.zero_le _, Nat.zero_le _⟩ rfl dL_act_153 hKK (fun q h => Or.inl h) (fun H h => h.1) (PB_back hab) (fun r19 M20 h => ?_)
            obtain ⟨M21, hag, h⟩ := h
            refine wy_gh (Φ' := (PB G ab M21 B)) (fun H hH => ⟨GW_ag hlt hag hH.1, hH.2⟩) ?_
            refine wy_i2l C dL_act_156 ?_
            exact wy_lret C hr (u := M21) h (fun t h => h) dL_act_157
          · have h := h.2 ht4
            by_cases ht5 : (x1 &&& (15 : Int32)) = (5 : Int32)
            · have h := h.1 ht5
              refine wy_tabIn C (tgt := 158) (5 : Int32) ht5 dL_act_61 (by decide) (by decide) rfl (by decide) ?_
              refine wy_aload_n C dL_act_158 1 rfl ?_
              refine wy_iload_n C dL_act_159 2 rfl ?_
              refine wy_iconst (v := 4) C dL_act_160 (by decide) ?_
              refine wy_ishr C dL_act_161 ?_
              refine wy_sipush (v := 10000) C dL_act_162 (by decide) ?_
              refine wy_some (rest := [.ref (gAD G 0)]) C h.1 dL_act_165 rfl ⟨by decide, by decide⟩ (Nat.le_of_ble_eq_true rfl) ⟨Nat.zero_le _, Nat.zero_le _⟩ PB_kp ?_
              have h := h.2
              refine wy_callVi (Φ1 := fun (u : Mem) => (PB G ab u B)) C (cX7_drop_M l G hg hA (someV (x1 >>> ((4 : Int32) &&& 31)) (10000 : Int32)) M _) h cw_RL_64 hd_X7_drop ⟨rfl, rfl⟩ ⟨by decide, by decide⟩ (hA 0 (by decide)) (gc_k kq_0) rfl (As := [.int (someV (x1 >>> ((4 : Int32) &&& 31)) (10000 : Int32))]) (rest := []) rfl (Nat.le_of_ble_eq_true rfl) ⟨Nat.zero_le _, Nat.zero_le _⟩ rfl dL_act_168 hKK (fun q h => Or.inl h) (fun H h => h.1) (PB_back hab) (fun r22 M23 h => ?_)
              obtain ⟨M24, hag, h⟩ := h
              refine wy_gh (Φ' := (PB G ab M24 B)) (fun H hH => ⟨GW_ag hlt hag hH.1, hH.2⟩) ?_
              refine wy_i2l C dL_act_171 ?_
              exact wy_lret C hr (u := M24) h (fun t h => h) dL_act_172
            · have h := h.2 ht5
              by_cases ht6 : (x1 &&& (15 : Int32)) = (6 : Int32)
              · have h := h.1 ht6
                refine wy_tabIn C (tgt := 173) (6 : Int32) ht6 dL_act_61 (by decide) (by decide) rfl (by decide) ?_
                refine wy_aload_n C dL_act_173 1 rfl ?_
                refine wy_lload C dL_act_174 0 rfl ?_
                refine wy_iload_n C dL_act_176 3 rfl ?_
                refine wy_aload_n C dL_act_177 4 rfl ?_
                refine wy_iconst (v := 1) C dL_act_178 (by decide) ?_
                refine wy_ald (G := G) (B := B) C hKK (fun H h => h.2) h.1 dL_act_179 ?_
                have h := h.2
                refine wy_some (rest := [.long s0, .ref (gAD G 0)]) C h.1 dL_act_180 rfl ⟨by decide, by decide⟩ (Nat.le_of_ble_eq_true rfl) ⟨Nat.zero_le _, Nat.zero_le _⟩ PB_kp ?_
                have h := h.2
                refine wy_callVi (Φ1 := fun (u : Mem) => (PB G ab u B)) C (cX7_has_M l G hg hA s0 (someV x2 (B (1 : Int32).toNatClampNeg)) M _) h cw_RL_68 hd_X7_has ⟨rfl, rfl⟩ ⟨by decide, by decide⟩ (hA 0 (by decide)) (gc_k kq_0) rfl (As := [.long s0, .int (someV x2 (B (1 : Int32).toNatClampNeg))]) (rest := []) rfl (Nat.le_of_ble_eq_true rfl) ⟨Nat.zero_le _, Nat.zero_le _⟩ rfl dL_act_183 hKK (fun q h => Or.inl h) (fun H h => h.1) (PB_back hab) (fun r25 M26 h => ?_)
                obtain ⟨M27, hag, h⟩ := h
                refine wy_gh (Φ' := (PB G ab M27 B)) (fun H hH => ⟨GW_ag hlt hag hH.1, hH.2⟩) ?_
                refine wy_i2l C dL_act_186 ?_
                refine wy_ldc2 C tw_565 dL_act_187 ?_
                refine wy_lmul C dL_act_190 ?_
                refine wy_aload_n C dL_act_191 1 rfl ?_
                refine wy_lload C dL_act_192 0 rfl ?_
                refine wy_callVl (Φ1 := fun (u : Mem) => (PB G ab u B)) C (cX7_leaves_M l G hg hA s0 M27 _) h cw_RL_74 hd_X7_leaves ⟨rfl, rfl⟩ ⟨by decide, by decide⟩ (hA 0 (by decide)) (gc_k kq_0) rfl (As := [.long s0]) (rest := [.long (r25.toInt64 * (1000 : Int64))]) rfl (Nat.le_of_ble_eq_true rfl) ⟨Nat.zero_le _, Nat.zero_le _⟩ rfl dL_act_194 hKK (fun q h => Or.inl h) (fun H h => h.1) (PB_back hab) (fun r28 M29 h => ?_)
                obtain ⟨M30, hag, h⟩ := h
                refine wy_gh (Φ' := (PB G ab M30 B)) (fun H hH => ⟨GW_ag hlt hag hH.1, hH.2⟩) ?_
                refine wy_ladd C dL_act_197 ?_
                exact wy_lret C hr (u := M30) h (fun t h => h) dL_act_198
              · have h := h.2 ht6
                by_cases ht7 : (x1 &&& (15 : Int32)) = (7 : Int32)
                · have h := h.1 ht7
                  refine wy_tabIn C (tgt := 199) (7 : Int32) ht7 dL_act_61 (by decide) (by decide) rfl (by decide) ?_
                  refine wy_aload_n C dL_act_199 1 rfl ?_
                  refine wy_callVi (Φ1 := fun (u : Mem) => (PB G ab u B)) C (cX7_period_M l G hg hA M _) h cw_RL_78 hd_X7_period ⟨rfl, rfl⟩ ⟨by decide, by decide⟩ (hA 0 (by decide)) (gc_k kq_0) rfl (As := []) (rest := []) rfl (Nat.le_of_ble_eq_true rfl) ⟨Nat.zero_le _, Nat.zero_le _⟩ rfl dL_act_200 hKK (fun q h => Or.inl h) (fun H h => h.1) (PB_back hab) (fun r31 M32 h => ?_)
                  obtain ⟨M33, hag, h⟩ := h
                  refine wy_gh (Φ' := (PB G ab M33 B)) (fun H hH => ⟨GW_ag hlt hag hH.1, hH.2⟩) ?_
                  refine wy_i2l C dL_act_203 ?_
                  refine wy_ldc2 C tw_577 dL_act_204 ?_
                  refine wy_lmul C dL_act_207 ?_
                  refine wy_aload_n C dL_act_208 1 rfl ?_
                  refine wy_iload_n C dL_act_209 2 rfl ?_
                  refine wy_iconst (v := 4) C dL_act_210 (by decide) ?_
                  refine wy_ishr C dL_act_211 ?_
                  refine wy_iconst (v := 1) C dL_act_212 (by decide) ?_
                  refine wy_iand C dL_act_213 ?_
                  refine wy_callVl (Φ1 := fun (u : Mem) => (PB G ab u B)) C (cX7_ever_M l G hg hA ((x1 >>> ((4 : Int32) &&& 31)) &&& (1 : Int32)) M33 _) h cw_RL_83 hd_X7_ever ⟨rfl, rfl⟩ ⟨by decide, by decide⟩ (hA 0 (by decide)) (gc_k kq_0) rfl (As := [.int ((x1 >>> ((4 : Int32) &&& 31)) &&& (1 : Int32))]) (rest := [.long (r31.toInt64 * (10000 : Int64))]) rfl (Nat.le_of_ble_eq_true rfl) ⟨Nat.zero_le _, Nat.zero_le _⟩ rfl dL_act_214 hKK (fun q h => Or.inl h) (fun H h => h.1) (PB_back hab) (fun r34 M35 h => ?_)
                  obtain ⟨M36, hag, h⟩ := h
                  refine wy_gh (Φ' := (PB G ab M36 B)) (fun H hH => ⟨GW_ag hlt hag hH.1, hH.2⟩) ?_
                  refine wy_ladd C dL_act_217 ?_
                  exact wy_lret C hr (u := M36) h (fun t h => h) dL_act_218
                · have h := h.2 ht7
                  by_cases ht8 : (x1 &&& (15 : Int32)) = (8 : Int32)
                  · have h := h.1 ht8
                    refine wy_tabIn C (tgt := 219) (8 : Int32) ht8 dL_act_61 (by decide) (by decide) rfl (by decide) ?_
                    refine wy_aload_n C dL_act_219 1 rfl ?_
                    refine wy_lload C dL_act_220 0 rfl ?_
                    refine wy_callVi (Φ1 := fun (u : Mem) => (PB G ab u B)) C (cX7_right_M l G hg hA s0 M _) h cw_RL_87 hd_X7_right ⟨rfl, rfl⟩ ⟨by decide, by decide⟩ (hA 0 (by decide)) (gc_k kq_0) rfl (As := [.long s0]) (rest := []) rfl (Nat.le_of_ble_eq_true rfl) ⟨Nat.zero_le _, Nat.zero_le _⟩ rfl dL_act_222 hKK (fun q h => Or.inl h) (fun H h => h.1) (PB_back hab) (fun r37 M38 h => ?_)
                    obtain ⟨M39, hag, h⟩ := h
                    refine wy_gh (Φ' := (PB G ab M39 B)) (fun H hH => ⟨GW_ag hlt hag hH.1, hH.2⟩) ?_
                    refine wy_i2l C dL_act_225 ?_
                    refine wy_ldc2 C tw_578 dL_act_226 ?_
                    refine wy_lmul C dL_act_229 ?_
                    refine wy_aload_n C dL_act_230 1 rfl ?_
                    refine wy_lload C dL_act_231 0 rfl ?_
                    refine wy_iload C dL_act_233 5 rfl ?_
                    refine wy_callVi (Φ1 := fun (u : Mem) => (PB G ab u B)) C (cX7_order_M l G hg hA s0 v4 M39 _) h cw_RL_93 hd_X7_order ⟨rfl, rfl⟩ ⟨by decide, by decide⟩ (hA 0 (by decide)) (gc_k kq_0) rfl (As := [.long s0, .int v4]) (rest := [.long (r37.toInt64 * (100 : Int64))]) rfl (Nat.le_of_ble_eq_true rfl) ⟨Nat.zero_le _, Nat.zero_le _⟩ rfl dL_act_235 hKK (fun q h => Or.inl h) (fun H h => h.1) (PB_back hab) (fun r40 M41 h => ?_)
                    obtain ⟨M42, hag, h⟩ := h
                    refine wy_gh (Φ' := (PB G ab M42 B)) (fun H hH => ⟨GW_ag hlt hag hH.1, hH.2⟩) ?_
                    refine wy_i2l C dL_act_238 ?_
                    refine wy_ladd C dL_act_239 ?_
                    exact wy_lret C hr (u := M42) h (fun t h => h) dL_act_240
                  · have h := h.2 ht8
                    by_cases ht9 : (x1 &&& (15 : Int32)) = (9 : Int32)
                    · have h := h.1 ht9
                      refine wy_tabIn C (tgt := 241) (9 : Int32) ht9 dL_act_61 (by decide) (by decide) rfl (by decide) ?_
                      refine wy_aload_n C dL_act_241 1 rfl ?_
                      refine wy_iload_n C dL_act_242 2 rfl ?_
                      refine wy_iconst (v := 4) C dL_act_243 (by decide) ?_
                      refine wy_ishr C dL_act_244 ?_
                      refine wy_iconst (v := 3) C dL_act_245 (by decide) ?_
                      refine wy_iand C dL_act_246 ?_
                      refine wy_iload C dL_act_247 5 rfl ?_
                      refine wy_callVi (Φ1 := fun (u : Mem) => (PB G ab u B)) C (cX7_shows_M l G hg hA ((x1 >>> ((4 : Int32) &&& 31)) &&& (3 : Int32)) v4 M _) h cw_RL_96 hd_X7_shows ⟨rfl, rfl⟩ ⟨by decide, by decide⟩ (hA 0 (by decide)) (gc_k kq_0) rfl (As := [.int ((x1 >>> ((4 : Int32) &&& 31)) &&& (3 : Int32)), .int v4]) (rest := []) rfl (Nat.le_of_ble_eq_true rfl) ⟨Nat.zero_le _, Nat.zero_le _⟩ rfl dL_act_249 hKK (fun q h => Or.inl h) (fun H h => h.1) (PB_back hab) (fun r43 M44 h => ?_)
                      obtain ⟨M45, hag, h⟩ := h
                      refine wy_gh (Φ' := (PB G ab M45 B)) (fun H hH => ⟨GW_ag hlt hag hH.1, hH.2⟩) ?_
                      refine wy_i2l C dL_act_252 ?_
                      refine wy_ldc2 C tw_577 dL_act_253 ?_
                      refine wy_lmul C dL_act_256 ?_
                      refine wy_aload_n C dL_act_257 1 rfl ?_
                      refine wy_iload_n C dL_act_258 3 rfl ?_
                      refine wy_bipush (v := 8) C dL_act_259 (by decide) ?_
                      refine wy_ishr C dL_act_261 ?_
                      refine wy_iconst (v := 3) C dL_act_262 (by decide) ?_
                      refine wy_some (rest := [.ref (gAD G 0), .long (r43.toInt64 * (10000 : Int64))]) C h.1 dL_act_263 rfl ⟨by decide, by decide⟩ (Nat.le_of_ble_eq_true rfl) ⟨Nat.zero_le _, Nat.zero_le _⟩ PB_kp ?_
                      have h := h.2
                      refine wy_callVi (Φ1 := fun (u : Mem) => (PB G ab u B)) C (cX7_quickest_M l G hg hA (someV (x2 >>> ((8 : Int32) &&& 31)) (3 : Int32)) M45 _) h cw_RL_99 hd_X7_quickest ⟨rfl, rfl⟩ ⟨by decide, by decide⟩ (hA 0 (by decide)) (gc_k kq_0) rfl (As := [.int (someV (x2 >>> ((8 : Int32) &&& 31)) (3 : Int32))]) (rest := [.long (r43.toInt64 * (10000 : Int64))]) rfl (Nat.le_of_ble_eq_true rfl) ⟨Nat.zero_le _, Nat.zero_le _⟩ rfl dL_act_266 hKK (fun q h => Or.inl h) (fun H h => h.1) (PB_back hab) (fun r46 M47 h => ?_)
                      obtain ⟨M48, hag, h⟩ := h
                      refine wy_gh (Φ' := (PB G ab M48 B)) (fun H hH => ⟨GW_ag hlt hag hH.1, hH.2⟩) ?_
                      refine wy_i2l C dL_act_269 ?_
                      refine wy_ladd C dL_act_270 ?_
                      exact wy_lret C hr (u := M48) h (fun t h => h) dL_act_271
                    · have h := h.2 ht9
                      by_cases ht10 : (x1 &&& (15 : Int32)) = (10 : Int32)
                      · have h := h.1 ht10
                        refine wy_tabIn C (tgt := 272) (10 : Int32) ht10 dL_act_61 (by decide) (by decide) rfl (by decide) ?_
                        refine wy_aload_n C dL_act_272 1 rfl ?_
                        refine wy_iload_n C dL_act_273 2 rfl ?_
                        refine wy_iconst (v := 4) C dL_act_274 (by decide) ?_
                        refine wy_ishr C dL_act_275 ?_
                        refine wy_bipush (v := 20) C dL_act_276 (by decide) ?_
                        refine wy_some (rest := [.ref (gAD G 0)]) C h.1 dL_act_278 rfl ⟨by decide, by decide⟩ (Nat.le_of_ble_eq_true rfl) ⟨Nat.zero_le _, Nat.zero_le _⟩ PB_kp ?_
                        have h := h.2
                        refine wy_i2l C dL_act_281 ?_
                        refine wy_iload_n C dL_act_282 3 rfl ?_
                        refine wy_bipush (v := 8) C dL_act_283 (by decide) ?_
                        refine wy_ishr C dL_act_285 ?_
                        refine wy_aload_n C dL_act_286 4 rfl ?_
                        refine wy_iconst (v := 1) C dL_act_287 (by decide) ?_
                        refine wy_ald (G := G) (B := B) C hKK (fun H h => h.2) h.1 dL_act_288 ?_
                        have h := h.2
                        refine wy_some (rest := [.long (someV (x1 >>> ((4 : Int32) &&& 31)) (20 : Int32)).toInt64, .ref (gAD G 0)]) C h.1 dL_act_289 rfl ⟨by decide, by decide⟩ (Nat.le_of_ble_eq_true rfl) ⟨Nat.zero_le _, Nat.zero_le _⟩ PB_kp ?_
                        have h := h.2
                        refine wy_iload C dL_act_292 5 rfl ?_
                        refine wy_callVi (Φ1 := fun (u : Mem) => (PB G ab u B)) C (cX7_seen_M l G hg hA ((someV (x1 >>> ((4 : Int32) &&& 31)) (20 : Int32)).toInt64) (someV (x2 >>> ((8 : Int32) &&& 31)) (B (1 : Int32).toNatClampNeg)) v4 M _) h cw_RL_102 hd_X7_seen ⟨rfl, rfl⟩ ⟨by decide, by decide⟩ (hA 0 (by decide)) (gc_k kq_0) rfl (As := [.long (someV (x1 >>> ((4 : Int32) &&& 31)) (20 : Int32)).toInt64, .int (someV (x2 >>> ((8 : Int32) &&& 31)) (B (1 : Int32).toNatClampNeg)), .int v4]) (rest := []) rfl (Nat.le_of_ble_eq_true rfl) ⟨Nat.zero_le _, Nat.zero_le _⟩ rfl dL_act_294 hKK (fun q h => Or.inl h) (fun H h => h.1) (PB_back hab) (fun r49 M50 h => ?_)
                        obtain ⟨M51, hag, h⟩ := h
                        refine wy_gh (Φ' := (PB G ab M51 B)) (fun H hH => ⟨GW_ag hlt hag hH.1, hH.2⟩) ?_
                        refine wy_i2l C dL_act_297 ?_
                        refine wy_ldc2 C tw_578 dL_act_298 ?_
                        refine wy_lmul C dL_act_301 ?_
                        refine wy_aload_n C dL_act_302 1 rfl ?_
                        refine wy_callVi (Φ1 := fun (u : Mem) => (PB G ab u B)) C (cX7_so_M l G hg hA M51 _) h cw_RL_106 hd_X7_so ⟨rfl, rfl⟩ ⟨by decide, by decide⟩ (hA 0 (by decide)) (gc_k kq_0) rfl (As := []) (rest := [.long (r49.toInt64 * (100 : Int64))]) rfl (Nat.le_of_ble_eq_true rfl) ⟨Nat.zero_le _, Nat.zero_le _⟩ rfl dL_act_303 hKK (fun q h => Or.inl h) (fun H h => h.1) (PB_back hab) (fun r52 M53 h => ?_)
                        obtain ⟨M54, hag, h⟩ := h
                        refine wy_gh (Φ' := (PB G ab M54 B)) (fun H hH => ⟨GW_ag hlt hag hH.1, hH.2⟩) ?_
                        refine wy_i2l C dL_act_306 ?_
                        refine wy_ldc2 C tw_579 dL_act_307 ?_
                        refine wy_lmul C dL_act_310 ?_
                        refine wy_ladd C dL_act_311 ?_
                        refine wy_aload_n C dL_act_312 1 rfl ?_
                        refine wy_iload C dL_act_313 6 rfl ?_
                        refine wy_callVi (Φ1 := fun (u : Mem) => (PB G ab u B)) C (cX7_sure_M l G hg hA v5 M54 _) h cw_RL_111 hd_X7_sure ⟨rfl, rfl⟩ ⟨by decide, by decide⟩ (hA 0 (by decide)) (gc_k kq_0) rfl (As := [.int v5]) (rest := [.long ((r49.toInt64 * (100 : Int64)) + (r52.toInt64 * (50 : Int64)))]) rfl (Nat.le_of_ble_eq_true rfl) ⟨Nat.zero_le _, Nat.zero_le _⟩ rfl dL_act_315 hKK (fun q h => Or.inl h) (fun H h => h.1) (PB_back hab) (fun r55 M56 h => ?_)
                        obtain ⟨M57, hag, h⟩ := h
                        refine wy_gh (Φ' := (PB G ab M57 B)) (fun H hH => ⟨GW_ag hlt hag hH.1, hH.2⟩) ?_
                        refine wy_i2l C dL_act_318 ?_
                        refine wy_ladd C dL_act_319 ?_
                        exact wy_lret C hr (u := M57) h (fun t h => h) dL_act_320
                      · have h := h.2 ht10
                        by_cases ht11 : (x1 &&& (15 : Int32)) = (11 : Int32)
                        · have h := h.1 ht11
                          refine wy_tabIn C (tgt := 272) (11 : Int32) ht11 dL_act_61 (by decide) (by decide) rfl (by decide) ?_
                          refine wy_aload_n C dL_act_272 1 rfl ?_
                          refine wy_iload_n C dL_act_273 2 rfl ?_
                          refine wy_iconst (v := 4) C dL_act_274 (by decide) ?_
                          refine wy_ishr C dL_act_275 ?_
                          refine wy_bipush (v := 20) C dL_act_276 (by decide) ?_
                          refine wy_some (rest := [.ref (gAD G 0)]) C h.1 dL_act_278 rfl ⟨by decide, by decide⟩ (Nat.le_of_ble_eq_true rfl) ⟨Nat.zero_le _, Nat.zero_le _⟩ PB_kp ?_
                          have h := h.2
                          refine wy_i2l C dL_act_281 ?_
                          refine wy_iload_n C dL_act_282 3 rfl ?_
                          refine wy_bipush (v := 8) C dL_act_283 (by decide) ?_
                          refine wy_ishr C dL_act_285 ?_
                          refine wy_aload_n C dL_act_286 4 rfl ?_
                          refine wy_iconst (v := 1) C dL_act_287 (by decide) ?_
                          refine wy_ald (G := G) (B := B) C hKK (fun H h => h.2) h.1 dL_act_288 ?_
                          have h := h.2
                          refine wy_some (rest := [.long (someV (x1 >>> ((4 : Int32) &&& 31)) (20 : Int32)).toInt64, .ref (gAD G 0)]) C h.1 dL_act_289 rfl ⟨by decide, by decide⟩ (Nat.le_of_ble_eq_true rfl) ⟨Nat.zero_le _, Nat.zero_le _⟩ PB_kp ?_
                          have h := h.2
                          refine wy_iload C dL_act_292 5 rfl ?_
                          refine wy_callVi (Φ1 := fun (u : Mem) => (PB G ab u B)) C (cX7_seen_M l G hg hA ((someV (x1 >>> ((4 : Int32) &&& 31)) (20 : Int32)).toInt64) (someV (x2 >>> ((8 : Int32) &&& 31)) (B (1 : Int32).toNatClampNeg)) v4 M _) h cw_RL_102 hd_X7_seen ⟨rfl, rfl⟩ ⟨by decide, by decide⟩ (hA 0 (by decide)) (gc_k kq_0) rfl (As := [.long (someV (x1 >>> ((4 : Int32) &&& 31)) (20 : Int32)).toInt64, .int (someV (x2 >>> ((8 : Int32) &&& 31)) (B (1 : Int32).toNatClampNeg)), .int v4]) (rest := []) rfl (Nat.le_of_ble_eq_true rfl) ⟨Nat.zero_le _, Nat.zero_le _⟩ rfl dL_act_294 hKK (fun q h => Or.inl h) (fun H h => h.1) (PB_back hab) (fun r58 M59 h => ?_)
                          obtain ⟨M60, hag, h⟩ := h
                          refine wy_gh (Φ' := (PB G ab M60 B)) (fun H hH => ⟨GW_ag hlt hag hH.1, hH.2⟩) ?_
                          refine wy_i2l C dL_act_297 ?_
                          refine wy_ldc2 C tw_578 dL_act_298 ?_
                          refine wy_lmul C dL_act_301 ?_
                          refine wy_aload_n C dL_act_302 1 rfl ?_
                          refine wy_callVi (Φ1 := fun (u : Mem) => (PB G ab u B)) C (cX7_so_M l G hg hA M60 _) h cw_RL_106 hd_X7_so ⟨rfl, rfl⟩ ⟨by decide, by decide⟩ (hA 0 (by decide)) (gc_k kq_0) rfl (As := []) (rest := [.long (r58.toInt64 * (100 : Int64))]) rfl (Nat.le_of_ble_eq_true rfl) ⟨Nat.zero_le _, Nat.zero_le _⟩ rfl dL_act_303 hKK (fun q h => Or.inl h) (fun H h => h.1) (PB_back hab) (fun r61 M62 h => ?_)
                          obtain ⟨M63, hag, h⟩ := h
                          refine wy_gh (Φ' := (PB G ab M63 B)) (fun H hH => ⟨GW_ag hlt hag hH.1, hH.2⟩) ?_
                          refine wy_i2l C dL_act_306 ?_
                          refine wy_ldc2 C tw_579 dL_act_307 ?_
                          refine wy_lmul C dL_act_310 ?_
                          refine wy_ladd C dL_act_311 ?_
                          refine wy_aload_n C dL_act_312 1 rfl ?_
                          refine wy_iload C dL_act_313 6 rfl ?_
                          refine wy_callVi (Φ1 := fun (u : Mem) => (PB G ab u B)) C (cX7_sure_M l G hg hA v5 M63 _) h cw_RL_111 hd_X7_sure ⟨rfl, rfl⟩ ⟨by decide, by decide⟩ (hA 0 (by decide)) (gc_k kq_0) rfl (As := [.int v5]) (rest := [.long ((r58.toInt64 * (100 : Int64)) + (r61.toInt64 * (50 : Int64)))]) rfl (Nat.le_of_ble_eq_true rfl) ⟨Nat.zero_le _, Nat.zero_le _⟩ rfl dL_act_315 hKK (fun q h => Or.inl h) (fun H h => h.1) (PB_back hab) (fun r64 M65 h => ?_)
                          obtain ⟨M66, hag, h⟩ := h
                          refine wy_gh (Φ' := (PB G ab M66 B)) (fun H hH => ⟨GW_ag hlt hag hH.1, hH.2⟩) ?_
                          refine wy_i2l C dL_act_318 ?_
                          refine wy_ladd C dL_act_319 ?_
                          exact wy_lret C hr (u := M66) h (fun t h => h) dL_act_320
                        · have h := h.2 ht11
                          by_cases ht12 : (x1 &&& (15 : Int32)) = (12 : Int32)
                          · have h := h.1 ht12
                            refine wy_tabIn C (tgt := 321) (12 : Int32) ht12 dL_act_61 (by decide) (by decide) rfl (by decide) ?_
                            refine wy_aload_n C dL_act_321 1 rfl ?_
                            refine wy_iload C dL_act_322 5 rfl ?_
                            refine wy_iload_n C dL_act_324 2 rfl ?_
                            refine wy_iconst (v := 4) C dL_act_325 (by decide) ?_
                            refine wy_ishr C dL_act_326 ?_
                            refine wy_iconst (v := 1) C dL_act_327 (by decide) ?_
                            refine wy_iand C dL_act_328 ?_
                            refine wy_callVi (Φ1 := fun (u : Mem) => (PB G ab u B)) C (cX7_lacks_M l G hg hA v4 ((x1 >>> ((4 : Int32) &&& 31)) &&& (1 : Int32)) M _) h cw_RL_114 hd_X7_lacks ⟨rfl, rfl⟩ ⟨by decide, by decide⟩ (hA 0 (by decide)) (gc_k kq_0) rfl (As := [.int v4, .int ((x1 >>> ((4 : Int32) &&& 31)) &&& (1 : Int32))]) (rest := []) rfl (Nat.le_of_ble_eq_true rfl) ⟨Nat.zero_le _, Nat.zero_le _⟩ rfl dL_act_329 hKK (fun q h => Or.inl h) (fun H h => h.1) (PB_back hab) (fun r67 M68 h => ?_)
                            obtain ⟨M69, hag, h⟩ := h
                            refine wy_gh (Φ' := (PB G ab M69 B)) (fun H hH => ⟨GW_ag hlt hag hH.1, hH.2⟩) ?_
                            refine wy_i2l C dL_act_332 ?_
                            refine wy_ldc2 C tw_577 dL_act_333 ?_
                            refine wy_lmul C dL_act_336 ?_
                            refine wy_aload_n C dL_act_337 1 rfl ?_
                            refine wy_iload C dL_act_338 5 rfl ?_
                            refine wy_iload C dL_act_340 6 rfl ?_
                            refine wy_iload_n C dL_act_342 2 rfl ?_
                            refine wy_iconst (v := 5) C dL_act_343 (by decide) ?_
                            refine wy_ishr C dL_act_344 ?_
                            refine wy_bipush (v := 100) C dL_act_345 (by decide) ?_
                            refine wy_some (rest := [.int v5, .int v4, .ref (gAD G 0), .long (r67.toInt64 * (10000 : Int64))]) C h.1 dL_act_347 rfl ⟨by decide, by decide⟩ (Nat.le_of_ble_eq_true rfl) ⟨Nat.zero_le _, Nat.zero_le _⟩ PB_kp ?_
                            have h := h.2
                            refine wy_callVi (Φ1 := fun (u : Mem) => (PB G ab u B)) C (cX7_notice_M l G hg hA v4 v5 (someV (x1 >>> ((5 : Int32) &&& 31)) (100 : Int32)) M69 _) h cw_RL_117 hd_X7_notice ⟨rfl, rfl⟩ ⟨by decide, by decide⟩ (hA 0 (by decide)) (gc_k kq_0) rfl (As := [.int v4, .int v5, .int (someV (x1 >>> ((5 : Int32) &&& 31)) (100 : Int32))]) (rest := [.long (r67.toInt64 * (10000 : Int64))]) rfl (Nat.le_of_ble_eq_true rfl) ⟨Nat.zero_le _, Nat.zero_le _⟩ rfl dL_act_350 hKK (fun q h => Or.inl h) (fun H h => h.1) (PB_back hab) (fun r70 M71 h => ?_)
                            obtain ⟨M72, hag, h⟩ := h
                            refine wy_gh (Φ' := (PB G ab M72 B)) (fun H hH => ⟨GW_ag hlt hag hH.1, hH.2⟩) ?_
                            refine wy_i2l C dL_act_353 ?_
                            refine wy_ladd C dL_act_354 ?_
                            exact wy_lret C hr (u := M72) h (fun t h => h) dL_act_355
                          · have h := h.2 ht12
                            by_cases ht13 : (x1 &&& (15 : Int32)) = (13 : Int32)
                            · have h := h.1 ht13
                              refine wy_tabIn C (tgt := 356) (13 : Int32) ht13 dL_act_61 (by decide) (by decide) rfl (by decide) ?_
                              refine wy_aload_n C dL_act_356 1 rfl ?_
                              refine wy_iconst (v := 1) C dL_act_357 (by decide) ?_
                              refine wy_iload_n C dL_act_358 2 rfl ?_
                              refine wy_iconst (v := 4) C dL_act_359 (by decide) ?_
                              refine wy_ishr C dL_act_360 ?_
                              refine wy_bipush (v := 60) C dL_act_361 (by decide) ?_
                              refine wy_some (rest := [.int (1 : Int32), .ref (gAD G 0)]) C h.1 dL_act_363 rfl ⟨by decide, by decide⟩ (Nat.le_of_ble_eq_true rfl) ⟨Nat.zero_le _, Nat.zero_le _⟩ PB_kp ?_
                              have h := h.2
                              refine wy_iadd C dL_act_366 ?_
                              refine wy_iload_n C dL_act_367 3 rfl ?_
                              refine wy_bipush (v := 8) C dL_act_368 (by decide) ?_
                              refine wy_ishr C dL_act_370 ?_
                              refine wy_iconst (v := 1) C dL_act_371 (by decide) ?_
                              refine wy_iand C dL_act_372 ?_
                              refine wy_callVi (Φ1 := fun (u : Mem) => (PB G ab u B)) C (cX7_pleased_M l G hg hA ((1 : Int32) + (someV (x1 >>> ((4 : Int32) &&& 31)) (60 : Int32))) ((x2 >>> ((8 : Int32) &&& 31)) &&& (1 : Int32)) M _) h cw_RL_121 hd_X7_pleased ⟨rfl, rfl⟩ ⟨by decide, by decide⟩ (hA 0 (by decide)) (gc_k kq_0) rfl (As := [.int ((1 : Int32) + (someV (x1 >>> ((4 : Int32) &&& 31)) (60 : Int32))), .int ((x2 >>> ((8 : Int32) &&& 31)) &&& (1 : Int32))]) (rest := []) rfl (Nat.le_of_ble_eq_true rfl) ⟨Nat.zero_le _, Nat.zero_le _⟩ rfl dL_act_373 hKK (fun q h => Or.inl h) (fun H h => h.1) (PB_back hab) (fun r73 M74 h => ?_)
                              obtain ⟨M75, hag, h⟩ := h
                              refine wy_gh (Φ' := (PB G ab M75 B)) (fun H hH => ⟨GW_ag hlt hag hH.1, hH.2⟩) ?_
                              refine wy_i2l C dL_act_376 ?_
                              exact wy_lret C hr (u := M75) h (fun t h => h) dL_act_377
                            · have h := h.2 ht13
                              by_cases ht14 : (x1 &&& (15 : Int32)) = (14 : Int32)
                              · have h := h.1 ht14
                                refine wy_tabIn C (tgt := 378) (14 : Int32) ht14 dL_act_61 (by decide) (by decide) rfl (by decide) ?_
                                refine wy_iload_n C dL_act_378 2 rfl ?_
                                refine wy_bipush (v := 48) C dL_act_379 (by decide) ?_
                                refine wy_iand C dL_act_381 ?_
                                refine wy_if_ne C (tgt := 393) dL_act_382 (by decide) (fun hc => ?_) (fun hc => ?_)
                                · have h := h.1 hc
                                  refine wy_aload_n C dL_act_393 1 rfl ?_
                                  refine wy_iload C dL_act_394 5 rfl ?_
                                  refine wy_callVi (Φ1 := fun (u : Mem) => (PB G ab u B)) C (cX7_where_M l G hg hA v4 M _) h cw_RL_127 hd_X7_where ⟨rfl, rfl⟩ ⟨by decide, by decide⟩ (hA 0 (by decide)) (gc_k kq_0) rfl (As := [.int v4]) (rest := []) rfl (Nat.le_of_ble_eq_true rfl) ⟨Nat.zero_le _, Nat.zero_le _⟩ rfl dL_act_396 hKK (fun q h => Or.inl h) (fun H h => h.1) (PB_back hab) (fun r76 M77 h => ?_)
                                  obtain ⟨M78, hag, h⟩ := h
                                  refine wy_gh (Φ' := (PB G ab M78 B)) (fun H hH => ⟨GW_ag hlt hag hH.1, hH.2⟩) ?_
                                  refine wy_i2l C dL_act_399 ?_
                                  refine wy_sub [] rfl ?_
                                  exact kL_act_400 l G ab B x1 x2 hg hA hlt hab C hr hKK r76.toInt64 M78 h
                                · have h := h.2 hc
                                  refine wy_aload_n C dL_act_385 1 rfl ?_
                                  refine wy_callVi (Φ1 := fun (u : Mem) => (PB G ab u B)) C (cX7_forget_M l G hg hA M _) h cw_RL_124 hd_X7_forget ⟨rfl, rfl⟩ ⟨by decide, by decide⟩ (hA 0 (by decide)) (gc_k kq_0) rfl (As := []) (rest := []) rfl (Nat.le_of_ble_eq_true rfl) ⟨Nat.zero_le _, Nat.zero_le _⟩ rfl dL_act_386 hKK (fun q h => Or.inl h) (fun H h => h.1) (PB_back hab) (fun r79 M80 h => ?_)
                                  obtain ⟨M81, hag, h⟩ := h
                                  refine wy_gh (Φ' := (PB G ab M81 B)) (fun H hH => ⟨GW_ag hlt hag hH.1, hH.2⟩) ?_
                                  refine wy_i2l C dL_act_389 ?_
                                  refine wy_goto C (tgt := 400) dL_act_390 (by decide) ?_
                                  refine wy_sub [] rfl ?_
                                  exact kL_act_400 l G ab B x1 x2 hg hA hlt hab C hr hKK r79.toInt64 M81 h
                              · have h := h.2 ht14
                                refine wy_tabOut C (tgt := 401) dL_act_61 (by have qht0 := tb_ne ht0 (show Int32.toInt 0 = 0 from rfl); have qht1 := tb_ne ht1 (show Int32.toInt 1 = 1 from rfl); have qht2 := tb_ne ht2 (show Int32.toInt 2 = 2 from rfl); have qht3 := tb_ne ht3 (show Int32.toInt 3 = 3 from rfl); have qht4 := tb_ne ht4 (show Int32.toInt 4 = 4 from rfl); have qht5 := tb_ne ht5 (show Int32.toInt 5 = 5 from rfl); have qht6 := tb_ne ht6 (show Int32.toInt 6 = 6 from rfl); have qht7 := tb_ne ht7 (show Int32.toInt 7 = 7 from rfl); have qht8 := tb_ne ht8 (show Int32.toInt 8 = 8 from rfl); have qht9 := tb_ne ht9 (show Int32.toInt 9 = 9 from rfl); have qht10 := tb_ne ht10 (show Int32.toInt 10 = 10 from rfl); have qht11 := tb_ne ht11 (show Int32.toInt 11 = 11 from rfl); have qht12 := tb_ne ht12 (show Int32.toInt 12 = 12 from rfl); have qht13 := tb_ne ht13 (show Int32.toInt 13 = 13 from rfl); have qht14 := tb_ne ht14 (show Int32.toInt 14 = 14 from rfl); omega) (by decide) ?_
                                refine wy_iload_n C dL_act_401 2 rfl ?_
                                refine wy_bipush (v := 16) C dL_act_402 (by decide) ?_
                                refine wy_iand C dL_act_404 ?_
                                refine wy_if_eq C (tgt := 416) dL_act_405 (by decide) (fun hc => ?_) (fun hc => ?_)
                                · have h := h.1 hc
                                  refine wy_aload_n C dL_act_416 1 rfl ?_
                                  refine wy_callVi (Φ1 := fun (u : Mem) => (PB G ab u B)) C (cX7_back_M l G hg hA M _) h cw_RL_133 hd_X7_back ⟨rfl, rfl⟩ ⟨by decide, by decide⟩ (hA 0 (by decide)) (gc_k kq_0) rfl (As := []) (rest := []) rfl (Nat.le_of_ble_eq_true rfl) ⟨Nat.zero_le _, Nat.zero_le _⟩ rfl dL_act_417 hKK (fun q h => Or.inl h) (fun H h => h.1) (PB_back hab) (fun r1 M2 h => ?_)
                                  obtain ⟨M3, hag, h⟩ := h
                                  refine wy_gh (Φ' := (PB G ab M3 B)) (fun H hH => ⟨GW_ag hlt hag hH.1, hH.2⟩) ?_
                                  refine wy_i2l C dL_act_420 ?_
                                  refine wy_sub [] rfl ?_
                                  exact kL_act_421 l G ab B x1 x2 hg hA hlt hab C hr hKK r1.toInt64 M3 h
                                · have h := h.2 hc
                                  refine wy_aload_n C dL_act_408 1 rfl ?_
                                  refine wy_callVi (Φ1 := fun (u : Mem) => (PB G ab u B)) C (cX7_keep_M l G hg hA M _) h cw_RL_130 hd_X7_keep ⟨rfl, rfl⟩ ⟨by decide, by decide⟩ (hA 0 (by decide)) (gc_k kq_0) rfl (As := []) (rest := []) rfl (Nat.le_of_ble_eq_true rfl) ⟨Nat.zero_le _, Nat.zero_le _⟩ rfl dL_act_409 hKK (fun q h => Or.inl h) (fun H h => h.1) (PB_back hab) (fun r4 M5 h => ?_)
                                  obtain ⟨M6, hag, h⟩ := h
                                  refine wy_gh (Φ' := (PB G ab M6 B)) (fun H hH => ⟨GW_ag hlt hag hH.1, hH.2⟩) ?_
                                  refine wy_i2l C dL_act_412 ?_
                                  refine wy_goto C (tgt := 421) dL_act_413 (by decide) ?_
                                  refine wy_sub [] rfl ?_
                                  exact kL_act_421 l G ab B x1 x2 hg hA hlt hab C hr hKK r4.toInt64 M6 h
set_option maxRecDepth 100000 in
set_option maxHeartbeats 40000000 in
theorem cL_act_M (l : Launch) (G : gP) (ab : Nat) (B : Nat → Int32) (x1 x2 : Int32) (hh : gIn G ∧ gCl G ∧ (∀ i, gI G i → i < 79) ∧ ¬ gA G ab) (M : Mem) (Q : Int64 → Mem → Prop) : Met l yL_act (Cond.code yL_act cL_act 8 (some (Jvm.ClassFile.FieldType.long)) :: TB) rmL_act (va_Pc [.ref (gAD G 0), .int x1, .int x2, .ref ab] (fun U => gKK G U ∧ PB G ab M B U.heap ∧ wL_act B x1 x2 M Q)) (va_Ql (fun r (u : Mem) => Q r u) (fun u t => PB G ab u B t.heap) (fB G ab)) 0 0 (fB G ab) := by
  obtain ⟨hg, hA, hlt, hab⟩ := hh
  refine gMetY (by decide +kernel) (show _ = Cond.code yL_act cL_act 8 (some (Jvm.ClassFile.FieldType.long)) from rfl) (Nat.le_of_ble_eq_true rfl) [(0, .ref (gAD G 0)), (1, .int x1), (2, .int x2), (3, .ref ab)] rfl ?_
  intro p e s m args below meth c C hr hB0
  obtain ⟨hKK, hPB, h⟩ := hB0
  have h : (vp_in (0 : Int32) 20 ∧ (¬ (B (0 : Int32).toNatClampNeg) = 0 ∧ (vp_in (0 : Int32) 20 ∧ (¬ (B (0 : Int32).toNatClampNeg) = 0 ∧ ((¬ (x1 &&& (128 : Int32)) = 0 → (¬ (1000000 : Int32) = 0 ∧ wL_act_55 B x1 x2 Q (someV x2 (B (0 : Int32).toNatClampNeg)) (someV (x2 >>> ((4 : Int32) &&& 31)) (B (0 : Int32).toNatClampNeg)) ((someV (x1 >>> ((8 : Int32) &&& 31)) (1000000 : Int32)).toInt64 * (999999 : Int64)) M)) ∧ ((x1 &&& (128 : Int32)) = 0 → (¬ (50 : Int32) = 0 ∧ wL_act_55 B x1 x2 Q (someV x2 (B (0 : Int32).toNatClampNeg)) (someV (x2 >>> ((4 : Int32) &&& 31)) (B (0 : Int32).toNatClampNeg)) ((someV (x1 >>> ((8 : Int32) &&& 31)) (50 : Int32)).toInt64) M))))))) := h
  refine wy_gh (Φ' := PB G ab M B) (fun H hH => by rw [hH]; exact hPB) ?_
  refine wy_iload_n C dL_act_0 2 rfl ?_
  refine wy_aload_n C dL_act_1 3 rfl ?_
  refine wy_iconst (v := 0) C dL_act_2 (by decide) ?_
  refine wy_ald (G := G) (B := B) C hKK (fun H h => h.2) h.1 dL_act_3 ?_
  have h := h.2
  refine wy_some (rest := []) C h.1 dL_act_4 rfl ⟨by decide, by decide⟩ (Nat.le_of_ble_eq_true rfl) ⟨Nat.zero_le _, Nat.zero_le _⟩ PB_kp ?_
  have h := h.2
  refine wy_istore (i := 4) (lv' := [(4, .int (someV x2 (B (0 : Int32).toNatClampNeg))), (0, .ref (gAD G 0)), (1, .int x1), (2, .int x2), (3, .ref ab)]) C dL_act_7 (by decide) rfl ?_
  refine wy_iload_n C dL_act_9 3 rfl ?_
  refine wy_iconst (v := 4) C dL_act_10 (by decide) ?_
  refine wy_ishr C dL_act_11 ?_
  refine wy_aload_n C dL_act_12 4 rfl ?_
  refine wy_iconst (v := 0) C dL_act_13 (by decide) ?_
  refine wy_ald (G := G) (B := B) C hKK (fun H h => h.2) h.1 dL_act_14 ?_
  have h := h.2
  refine wy_some (rest := []) C h.1 dL_act_15 rfl ⟨by decide, by decide⟩ (Nat.le_of_ble_eq_true rfl) ⟨Nat.zero_le _, Nat.zero_le _⟩ PB_kp ?_
  have h := h.2
  refine wy_istore (i := 5) (lv' := [(5, .int (someV (x2 >>> ((4 : Int32) &&& 31)) (B (0 : Int32).toNatClampNeg))), (4, .int (someV x2 (B (0 : Int32).toNatClampNeg))), (0, .ref (gAD G 0)), (1, .int x1), (2, .int x2), (3, .ref ab)]) C dL_act_18 (by decide) rfl ?_
  refine wy_iload_n C dL_act_20 3 rfl ?_
  refine wy_sipush (v := 128) C dL_act_21 (by decide) ?_
  refine wy_iand C dL_act_24 ?_
  refine wy_if_ne C (tgt := 41) dL_act_25 (by decide) (fun hc => ?_) (fun hc => ?_)
  · have h := h.1 hc
    refine wy_iload_n C dL_act_41 3 rfl ?_
    refine wy_bipush (v := 8) C dL_act_42 (by decide) ?_
    refine wy_ishr C dL_act_44 ?_
    refine wy_ldc C tw_550 dL_act_45 ?_
    refine wy_some (rest := []) C h.1 dL_act_47 rfl ⟨by decide, by decide⟩ (Nat.le_of_ble_eq_true rfl) ⟨Nat.zero_le _, Nat.zero_le _⟩ PB_kp ?_
    have h := h.2
    refine wy_i2l C dL_act_50 ?_
    refine wy_ldc2 C tw_551 dL_act_51 ?_
    refine wy_lmul C dL_act_54 ?_
    refine wy_sub [2, 3, 4, 5, 1, 0] rfl ?_
    exact kL_act_55 l G ab B x1 x2 hg hA hlt hab C hr hKK (someV x2 (B (0 : Int32).toNatClampNeg)) (someV (x2 >>> ((4 : Int32) &&& 31)) (B (0 : Int32).toNatClampNeg)) ((someV (x1 >>> ((8 : Int32) &&& 31)) (1000000 : Int32)).toInt64 * (999999 : Int64)) M h
  · have h := h.2 hc
    refine wy_iload_n C dL_act_28 3 rfl ?_
    refine wy_bipush (v := 8) C dL_act_29 (by decide) ?_
    refine wy_ishr C dL_act_31 ?_
    refine wy_bipush (v := 50) C dL_act_32 (by decide) ?_
    refine wy_some (rest := []) C h.1 dL_act_34 rfl ⟨by decide, by decide⟩ (Nat.le_of_ble_eq_true rfl) ⟨Nat.zero_le _, Nat.zero_le _⟩ PB_kp ?_
    have h := h.2
    refine wy_i2l C dL_act_37 ?_
    refine wy_goto C (tgt := 55) dL_act_38 (by decide) ?_
    refine wy_sub [2, 3, 4, 5, 1, 0] rfl ?_
    exact kL_act_55 l G ab B x1 x2 hg hA hlt hab C hr hKK (someV x2 (B (0 : Int32).toNatClampNeg)) (someV (x2 >>> ((4 : Int32) &&& 31)) (B (0 : Int32).toNatClampNeg)) ((someV (x1 >>> ((8 : Int32) &&& 31)) (50 : Int32)).toInt64) M h
