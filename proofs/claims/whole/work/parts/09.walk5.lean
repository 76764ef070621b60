set_option maxRecDepth 100000 in
set_option maxHeartbeats 4000000 in
theorem kX8_in_18 (l : Launch) (G : gP) (hg : gIn G) (hB : gRf G) (x0 : Int64) (x2 : Int64) (x4 : Int64) {p : Program} {e : Env} {s : State} {m : MethodId} {args : Array Value} {below : List Frame} {meth : Method} {c : Code} (C : Cx p s m args meth c G (gA G) cX8_in 6 RX8) (hr : meth.sig.returnType = (some (Jvm.ClassFile.FieldType.boolean))) {Q : Int32 → Mem → Prop} (s0 : Int32) (M : Mem) (h : wX8_in_18 x0 x2 x4 Q s0 M) : Wl p l e rmX8_in s m args below meth c (MQ below (va_Qi Q (gB G) (gA G)) args s 0 0 (gA G)) G (gA G) 6 0 0 M 18 [] [.int s0] := by
  have h : ((s0 = 0 ∨ s0 = 1) ∧ Q s0 M) := h
  exact wl_zret C hr h.1 h.2 dX8_in_18
set_option maxRecDepth 100000 in
set_option maxHeartbeats 4000000 in
theorem kX8_in_17 (l : Launch) (G : gP) (hg : gIn G) (hB : gRf G) (x0 : Int64) (x2 : Int64) (x4 : Int64) {p : Program} {e : Env} {s : State} {m : MethodId} {args : Array Value} {below : List Frame} {meth : Method} {c : Code} (C : Cx p s m args meth c G (gA G) cX8_in 6 RX8) (hr : meth.sig.returnType = (some (Jvm.ClassFile.FieldType.boolean))) {Q : Int32 → Mem → Prop} (M : Mem) (h : wX8_in_17 x0 x2 x4 Q M) : Wl p l e rmX8_in s m args below meth c (MQ below (va_Qi Q (gB G) (gA G)) args s 0 0 (gA G)) G (gA G) 6 0 0 M 17 [] [] := by
  have h : wX8_in_18 x0 x2 x4 Q (0 : Int32) M := h
  refine wl_iconst (v := 0) C dX8_in_17 (by decide) ?_
  refine wl_sub [] rfl ?_
  exact kX8_in_18 l G hg hB x0 x2 x4 C hr (0 : Int32) M h
set_option maxRecDepth 100000 in
set_option maxHeartbeats 4000000 in
theorem cX8_in_M (l : Launch) (G : gP) (hg : gIn G) (hB : gRf G) (x0 : Int64) (x2 : Int64) (x4 : Int64) (M : Mem) (Q : Int32 → Mem → Prop) : Met l yX8_in (Cond.code yX8_in cX8_in 6 (some (Jvm.ClassFile.FieldType.boolean)) :: TB) rmX8_in (va_Pc [.long x0, .long x2, .long x4] (fun U => gS G M U ∧ wX8_in x0 x2 x4 M Q)) (va_Qi Q (gB G) (gA G)) 0 0 (gA G) := by
  refine gMet (by decide +kernel) (show _ = Cond.code yX8_in cX8_in 6 (some (Jvm.ClassFile.FieldType.boolean)) from rfl) hg (Nat.le_of_ble_eq_true rfl) [(0, .long x0), (2, .long x2), (4, .long x4)] rfl ?_
  intro p e s m args below meth c C hr h
  have h : (((lg_cmp x0 x2) < 0 → wX8_in_17 x0 x2 x4 Q M) ∧ (¬ (lg_cmp x0 x2) < 0 → ((0 < (lg_cmp x0 x4) → wX8_in_17 x0 x2 x4 Q M) ∧ (¬ 0 < (lg_cmp x0 x4) → wX8_in_18 x0 x2 x4 Q (1 : Int32) M)))) := h
  refine wl_lload_n C dX8_in_0 0 rfl ?_
  refine wl_lload_n C dX8_in_1 1 rfl ?_
  refine wl_lcmp C dX8_in_2 ?_
  refine wl_if_lt C (tgt := 17) dX8_in_3 (by decide) (fun hc => ?_) (fun hc => ?_)
  · have h := h.1 hc
    refine wl_sub [] rfl ?_
    exact kX8_in_17 l G hg hB x0 x2 x4 C hr M h
  · have h := h.2 hc
    refine wl_lload_n C dX8_in_6 0 rfl ?_
    refine wl_lload C dX8_in_7 2 rfl ?_
    refine wl_lcmp C dX8_in_9 ?_
    refine wl_if_gt C (tgt := 17) dX8_in_10 (by decide) (fun hc => ?_) (fun hc => ?_)
    · have h := h.1 hc
      refine wl_sub [] rfl ?_
      exact kX8_in_17 l G hg hB x0 x2 x4 C hr M h
    · have h := h.2 hc
      refine wl_iconst (v := 1) C dX8_in_13 (by decide) ?_
      refine wl_goto C (tgt := 18) dX8_in_14 (by decide) ?_
      refine wl_sub [] rfl ?_
      exact kX8_in_18 l G hg hB x0 x2 x4 C hr (1 : Int32) M h
set_option maxRecDepth 100000 in
set_option maxHeartbeats 4000000 in
theorem cX8_noBook_M (l : Launch) (G : gP) (hg : gIn G) (hB : gRf G) (x1 : Int32) (M : Mem) (Q : Mem → Prop) : Met l yX8_noBook (Cond.code yX8_noBook cX8_noBook 2 none :: TB) rmX8_noBook (va_Pc [.ref (gAD G 79), .int x1] (fun U => gS G M U ∧ wX8_noBook x1 M Q)) (va_Qv Q (gB G) (gA G)) 0 0 (gA G) := by
  refine gMet (by decide +kernel) (show _ = Cond.code yX8_noBook cX8_noBook 2 none from rfl) hg (Nat.le_of_ble_eq_true rfl) [(0, .ref (gAD G 79)), (1, .int x1)] rfl ?_
  intro p e s m args below meth c C hr h
  have h : (vp_in x1 (ln 81) ∧ (vp_in x1 (ln 82) ∧ (vp_in x1 (ln 83) ∧ (vp_in x1 (ln 84) ∧ (vp_in x1 (ln 85) ∧ (vp_in x1 (ln 87) ∧ Q (mu (mu (mu (mu (mu (mu M 81 x1.toNatClampNeg (10 : Int32)) 82 x1.toNatClampNeg (9 : Int32)) 83 x1.toNatClampNeg (0 : Int32)) 84 x1.toNatClampNeg (2 : Int32)) 85 x1.toNatClampNeg (0 : Int32)) 87 x1.toNatClampNeg (0 : Int32)))))))) := h
  refine wl_aload_n C dX8_noBook_0 0 rfl ?_
  refine gf_8_2 C kq_79 (gir_8 hB kq_79) tw_595 dX8_noBook_1 ?_
  refine wl_iload_n C dX8_noBook_4 1 rfl ?_
  refine wl_bipush (v := 10) C dX8_noBook_5 (by decide) ?_
  refine ga_st10 C kq_81 (gir_10 hB kq_81) h.1 dX8_noBook_7 ?_
  have h := h.2
  refine wl_aload_n C dX8_noBook_8 0 rfl ?_
  refine gf_8_3 C kq_79 (gir_8 hB kq_79) tw_596 dX8_noBook_9 ?_
  refine wl_iload_n C dX8_noBook_12 1 rfl ?_
  refine wl_bipush (v := 9) C dX8_noBook_13 (by decide) ?_
  refine ga_st10 C kq_82 (gir_10 hB kq_82) h.1 dX8_noBook_15 ?_
  have h := h.2
  refine wl_aload_n C dX8_noBook_16 0 rfl ?_
  refine gf_8_4 C kq_79 (gir_8 hB kq_79) tw_597 dX8_noBook_17 ?_
  refine wl_iload_n C dX8_noBook_20 1 rfl ?_
  refine wl_iconst (v := 0) C dX8_noBook_21 (by decide) ?_
  refine ga_st10 C kq_83 (gir_10 hB kq_83) h.1 dX8_noBook_22 ?_
  have h := h.2
  refine wl_aload_n C dX8_noBook_23 0 rfl ?_
  refine gf_8_5 C kq_79 (gir_8 hB kq_79) tw_598 dX8_noBook_24 ?_
  refine wl_iload_n C dX8_noBook_27 1 rfl ?_
  refine wl_iconst (v := 2) C dX8_noBook_28 (by decide) ?_
  refine ga_st10 C kq_84 (gir_10 hB kq_84) h.1 dX8_noBook_29 ?_
  have h := h.2
  refine wl_aload_n C dX8_noBook_30 0 rfl ?_
  refine gf_8_6 C kq_79 (gir_8 hB kq_79) tw_599 dX8_noBook_31 ?_
  refine wl_iload_n C dX8_noBook_34 1 rfl ?_
  refine wl_iconst (v := 0) C dX8_noBook_35 (by decide) ?_
  refine ga_st10 C kq_85 (gir_10 hB kq_85) h.1 dX8_noBook_36 ?_
  have h := h.2
  refine wl_aload_n C dX8_noBook_37 0 rfl ?_
  refine gf_8_8 C kq_79 (gir_8 hB kq_79) tw_601 dX8_noBook_38 ?_
  refine wl_iload_n C dX8_noBook_41 1 rfl ?_
  refine wl_iconst (v := 0) C dX8_noBook_42 (by decide) ?_
  refine ga_st10 C kq_87 (gir_10 hB kq_87) h.1 dX8_noBook_43 ?_
  have h := h.2
  exact wl_vret C hr h dX8_noBook_44
set_option maxRecDepth 100000 in
set_option maxHeartbeats 4000000 in
theorem kX8_write_34 (l : Launch) (G : gP) (hg : gIn G) (hB : gRf G) (x1 : Int32) (x2 : Int64) {p : Program} {e : Env} {s : State} {m : MethodId} {args : Array Value} {below : List Frame} {meth : Method} {c : Code} (C : Cx p s m args meth c G (gA G) cX8_write 5 RX8) (hr : meth.sig.returnType = (some (Jvm.ClassFile.FieldType.int))) {Q : Int32 → Mem → Prop} : ∀ (n : Nat) (v4 : Int32) (M : Mem), wX8_write_34 x1 x2 Q n v4 M → Wl p l e rmX8_write s m args below meth c (MQ below (va_Qi Q (gB G) (gA G)) args s 0 0 (gA G)) G (gA G) 5 0 0 M 34 [(0, .ref (gAD G 79)), (2, .long x2), (4, .int v4)] [] := by
  intro n
  induction n with
  | zero => intro v4 M h; exact h.elim
  | succ n ih =>
    intro v4 M h
    have h : ((v4 < 0 → Q (M 79 0) M) ∧ (¬ v4 < 0 → (vp_in (M 79 0) (ln 80) ∧ wX8_write_34 x1 x2 Q n (v4 + (-1)) (mu (mu M 80 (M 79 0).toNatClampNeg (((x2 >>> (((8 : Int32) * v4).toInt64 &&& 63)) &&& (255 : Int64)).toInt32)) 79 0 (((mu M 80 (M 79 0).toNatClampNeg (((x2 >>> (((8 : Int32) * v4).toInt64 &&& 63)) &&& (255 : Int64)).toInt32)) 79 0) + (1 : Int32)))))) := h
    refine wl_iload C dX8_write_34 2 rfl ?_
    refine wl_if_lt C (tgt := 76) dX8_write_36 (by decide) (fun hc => ?_) (fun hc => ?_)
    · have h := h.1 hc
      refine wl_aload_n C dX8_write_76 0 rfl ?_
      refine gf_8_0 C kq_79 (gir_8 hB kq_79) tw_593 dX8_write_77 ?_
      exact wl_iret C hr h dX8_write_80
    · have h := h.2 hc
      refine wl_aload_n C dX8_write_39 0 rfl ?_
      refine gf_8_1 C kq_79 (gir_8 hB kq_79) tw_594 dX8_write_40 ?_
      refine wl_aload_n C dX8_write_43 0 rfl ?_
      refine gf_8_0 C kq_79 (gir_8 hB kq_79) tw_593 dX8_write_44 ?_
      refine wl_lload_n C dX8_write_47 1 rfl ?_
      refine wl_bipush (v := 8) C dX8_write_48 (by decide) ?_
      refine wl_iload C dX8_write_50 2 rfl ?_
      refine wl_imul C dX8_write_52 ?_
      refine wl_lshr C dX8_write_53 ?_
      refine wl_ldc2 C tw_664 dX8_write_54 ?_
      refine wl_land C dX8_write_57 ?_
      refine wl_l2i C dX8_write_58 ?_
      refine ga_st10 C kq_80 (gir_10 hB kq_80) h.1 dX8_write_59 ?_
      have h := h.2
      refine wl_aload_n C dX8_write_60 0 rfl ?_
      refine wl_dup C dX8_write_61 rfl ?_
      refine gf_8_0 C kq_79 (gir_8 hB kq_79) tw_593 dX8_write_62 ?_
      refine wl_iconst (v := 1) C dX8_write_65 (by decide) ?_
      refine wl_iadd C dX8_write_66 ?_
      refine gp_8_0 C kq_79 (gir_8 hB kq_79) tw_593 dX8_write_67 ?_
      refine wl_iinc (v := (v4 + (-1))) (lv' := [(4, .int (v4 + (-1))), (0, .ref (gAD G 79)), (2, .long x2)]) C dX8_write_70 2 rfl (by rfl) (by decide) rfl ?_
      refine wl_goto C (tgt := 34) dX8_write_73 (by decide) ?_
      refine wl_sub [1, 2, 0] rfl ?_
      exact ih (v4 + (-1)) (mu (mu M 80 (M 79 0).toNatClampNeg (((x2 >>> (((8 : Int32) * v4).toInt64 &&& 63)) &&& (255 : Int64)).toInt32)) 79 0 (((mu M 80 (M 79 0).toNatClampNeg (((x2 >>> (((8 : Int32) * v4).toInt64 &&& 63)) &&& (255 : Int64)).toInt32)) 79 0) + (1 : Int32))) h
set_option maxRecDepth 100000 in
set_option maxHeartbeats 4000000 in
theorem cX8_write_M (l : Launch) (G : gP) (hg : gIn G) (hB : gRf G) (x1 : Int32) (x2 : Int64) (M : Mem) (Q : Int32 → Mem → Prop) : Met l yX8_write (Cond.code yX8_write cX8_write 5 (some (Jvm.ClassFile.FieldType.int)) :: TB) rmX8_write (va_Pc [.ref (gAD G 79), .int x1, .long x2] (fun U => gS G M U ∧ wX8_write x1 x2 M Q)) (va_Qi Q (gB G) (gA G)) 0 0 (gA G) := by
  refine gMet (by decide +kernel) (show _ = Cond.code yX8_write cX8_write 5 (some (Jvm.ClassFile.FieldType.int)) from rfl) hg (Nat.le_of_ble_eq_true rfl) [(0, .ref (gAD G 79)), (1, .int x1), (2, .long x2)] rfl ?_
  intro p e s m args below meth c C hr h
  have h : (wX8_in x1.toInt64 (1 : Int64) (8 : Int64) M (fun r2 M1 => ((¬ r2 = 0 → ((((M1 79 0) + x1) ≤ (300 : Int32) → (∃ n3, wX8_write_34 x1 x2 Q n3 (x1 - (1 : Int32)) M1)) ∧ (¬ ((M1 79 0) + x1) ≤ (300 : Int32) → Q (-3 : Int32) M1))) ∧ (r2 = 0 → Q (-1 : Int32) M1)))) := h
  refine wl_iload_n C dX8_write_0 1 rfl ?_
  refine wl_i2l C dX8_write_1 ?_
  refine wl_lconst (v := 1) C dX8_write_2 (by decide) ?_
  refine wl_ldc2 C tw_660 dX8_write_3 ?_
  refine wl_callSi C (cX8_in_M l G hg hB x1.toInt64 (1 : Int64) (8 : Int64) M _) h cw_RX8_98 hd_X8_in ⟨rfl, rfl⟩ ⟨by decide, by decide⟩ (As := [.long x1.toInt64, .long (1 : Int64), .long (8 : Int64)]) (rest := []) rfl (Nat.le_of_ble_eq_true rfl) ⟨Nat.zero_le _, Nat.zero_le _⟩ rfl dX8_write_6 (fun r2 M1 h => ?_)
  refine wl_if_ne C (tgt := 14) dX8_write_9 (by decide) (fun hc => ?_) (fun hc => ?_)
  · have h := h.1 hc
    refine wl_aload_n C dX8_write_14 0 rfl ?_
    refine gf_8_0 C kq_79 (gir_8 hB kq_79) tw_593 dX8_write_15 ?_
    refine wl_iload_n C dX8_write_18 1 rfl ?_
    refine wl_iadd C dX8_write_19 ?_
    refine wl_sipush (v := 300) C dX8_write_20 (by decide) ?_
    refine wl_icmp_le C (tgt := 29) dX8_write_23 (by decide) (fun hc => ?_) (fun hc => ?_)
    · have h := h.1 hc
      refine wl_iload_n C dX8_write_29 1 rfl ?_
      refine wl_iconst (v := 1) C dX8_write_30 (by decide) ?_
      refine wl_isub C dX8_write_31 ?_
      refine wl_istore (i := 4) (lv' := [(4, .int (x1 - (1 : Int32))), (0, .ref (gAD G 79)), (1, .int x1), (2, .long x2)]) C dX8_write_32 (by decide) rfl ?_
      refine wl_sub [1, 3, 0] rfl ?_
      obtain ⟨n3, h⟩ := h
      exact kX8_write_34 l G hg hB x1 x2 C hr n3 (x1 - (1 : Int32)) M1 h
    · have h := h.2 hc
      refine wl_bipush (v := (-3)) C dX8_write_26 (by decide) ?_
      exact wl_iret C hr h dX8_write_28
  · have h := h.2 hc
    refine wl_iconst (v := (-1)) C dX8_write_12 (by decide) ?_
    exact wl_iret C hr h dX8_write_13
set_option maxRecDepth 100000 in
set_option maxHeartbeats 4000000 in
theorem cX8_wipe_M (l : Launch) (G : gP) (hg : gIn G) (hB : gRf G) (M : Mem) (Q : Int32 → Mem → Prop) : Met l yX8_wipe (Cond.code yX8_wipe cX8_wipe 2 (some (Jvm.ClassFile.FieldType.int)) :: TB) rmX8_wipe (va_Pc [.ref (gAD G 79)] (fun U => gS G M U ∧ wX8_wipe M Q)) (va_Qi Q (gB G) (gA G)) 0 0 (gA G) := by
  refine gMet (by decide +kernel) (show _ = Cond.code yX8_wipe cX8_wipe 2 (some (Jvm.ClassFile.FieldType.int)) from rfl) hg (Nat.le_of_ble_eq_true rfl) [(0, .ref (gAD G 79))] rfl ?_
  intro p e s m args below meth c C hr h
  have h : Q (M 79 0) (mu M 79 0 (0 : Int32)) := h
  refine wl_aload_n C dX8_wipe_0 0 rfl ?_
  refine gf_8_0 C kq_79 (gir_8 hB kq_79) tw_593 dX8_wipe_1 ?_
  refine wl_istore_n (i := 1) (lv' := [(1, .int (M 79 0)), (0, .ref (gAD G 79))]) C dX8_wipe_4 rfl (by decide) rfl ?_
  refine wl_aload_n C dX8_wipe_5 1 rfl ?_
  refine wl_iconst (v := 0) C dX8_wipe_6 (by decide) ?_
  refine gp_8_0 C kq_79 (gir_8 hB kq_79) tw_593 dX8_wipe_7 ?_
  refine wl_iload_n C dX8_wipe_10 0 rfl ?_
  exact wl_iret C hr h dX8_wipe_11
set_option maxRecDepth 100000 in
set_option maxHeartbeats 4000000 in
theorem kX8_byteAt_18 (l : Launch) (G : gP) (hg : gIn G) (hB : gRf G) (x1 : Int32) {p : Program} {e : Env} {s : State} {m : MethodId} {args : Array Value} {below : List Frame} {meth : Method} {c : Code} (C : Cx p s m args meth c G (gA G) cX8_byteAt 2 RX8) (hr : meth.sig.returnType = (some (Jvm.ClassFile.FieldType.int))) {Q : Int32 → Mem → Prop} (s0 : Int32) (M : Mem) (h : wX8_byteAt_18 x1 Q s0 M) : Wl p l e rmX8_byteAt s m args below meth c (MQ below (va_Qi Q (gB G) (gA G)) args s 0 0 (gA G)) G (gA G) 2 0 0 M 18 [] [.int s0] := by
  have h : Q s0 M := h
  exact wl_iret C hr h dX8_byteAt_18
set_option maxRecDepth 100000 in
set_option maxHeartbeats 4000000 in
theorem cX8_byteAt_M (l : Launch) (G : gP) (hg : gIn G) (hB : gRf G) (x1 : Int32) (M : Mem) (Q : Int32 → Mem → Prop) : Met l yX8_byteAt (Cond.code yX8_byteAt cX8_byteAt 2 (some (Jvm.ClassFile.FieldType.int)) :: TB) rmX8_byteAt (va_Pc [.ref (gAD G 79), .int x1] (fun U => gS G M U ∧ wX8_byteAt x1 M Q)) (va_Qi Q (gB G) (gA G)) 0 0 (gA G) := by
  refine gMet (by decide +kernel) (show _ = Cond.code yX8_byteAt cX8_byteAt 2 (some (Jvm.ClassFile.FieldType.int)) from rfl) hg (Nat.le_of_ble_eq_true rfl) [(0, .ref (gAD G 79)), (1, .int x1)] rfl ?_
  intro p e s m args below meth c C hr h
  have h : (((M 79 0) ≤ x1 → wX8_byteAt_18 x1 Q (0 : Int32) M) ∧ (¬ (M 79 0) ≤ x1 → (vp_in x1 (ln 80) ∧ wX8_byteAt_18 x1 Q (M 80 x1.toNatClampNeg) M))) := h
  refine wl_iload_n C dX8_byteAt_0 1 rfl ?_
  refine wl_aload_n C dX8_byteAt_1 0 rfl ?_
  refine gf_8_0 C kq_79 (gir_8 hB kq_79) tw_593 dX8_byteAt_2 ?_
  refine wl_icmp_ge C (tgt := 17) dX8_byteAt_5 (by decide) (fun hc => ?_) (fun hc => ?_)
  · have h := h.1 hc
    refine wl_iconst (v := 0) C dX8_byteAt_17 (by decide) ?_
    refine wl_sub [] rfl ?_
    exact kX8_byteAt_18 l G hg hB x1 C hr (0 : Int32) M h
  · have h := h.2 hc
    refine wl_aload_n C dX8_byteAt_8 0 rfl ?_
    refine gf_8_1 C kq_79 (gir_8 hB kq_79) tw_594 dX8_byteAt_9 ?_
    refine wl_iload_n C dX8_byteAt_12 1 rfl ?_
    refine ga_ld10 C kq_80 (gir_10 hB kq_80) h.1 dX8_byteAt_13 ?_
    have h := h.2
    refine wl_goto C (tgt := 18) dX8_byteAt_14 (by decide) ?_
    refine wl_sub [] rfl ?_
    exact kX8_byteAt_18 l G hg hB x1 C hr (M 80 x1.toNatClampNeg) M h
set_option maxRecDepth 100000 in
set_option maxHeartbeats 4000000 in
theorem kX8_figures_110 (l : Launch) (G : gP) (hg : gIn G) (hB : gRf G) (x1 : Int32) {p : Program} {e : Env} {s : State} {m : MethodId} {args : Array Value} {below : List Frame} {meth : Method} {c : Code} (C : Cx p s m args meth c G (gA G) cX8_figures 5 RX8) (hr : meth.sig.returnType = (some (Jvm.ClassFile.FieldType.boolean))) {Q : Int32 → Mem → Prop} (M : Mem) (h : wX8_figures_110 x1 Q M) : Wl p l e rmX8_figures s m args below meth c (MQ below (va_Qi Q (gB G) (gA G)) args s 0 0 (gA G)) G (gA G) 5 0 0 M 110 [] [] := by
  have h : (((0 : Int32) = 0 ∨ (0 : Int32) = 1) ∧ Q (0 : Int32) M) := h
  refine wl_iconst (v := 0) C dX8_figures_110 (by decide) ?_
  exact wl_zret C hr h.1 h.2 dX8_figures_111
set_option maxRecDepth 100000 in
set_option maxHeartbeats 4000000 in
theorem kX8_figures_107 (l : Launch) (G : gP) (hg : gIn G) (hB : gRf G) (x1 : Int32) {p : Program} {e : Env} {s : State} {m : MethodId} {args : Array Value} {below : List Frame} {meth : Method} {c : Code} (C : Cx p s m args meth c G (gA G) cX8_figures 5 RX8) (hr : meth.sig.returnType = (some (Jvm.ClassFile.FieldType.boolean))) {Q : Int32 → Mem → Prop} (k_2 : Int32 → Mem → Prop) (hk_2 : ∀ (v2 : Int32) (M : Mem), k_2 v2 M → Wl p l e rmX8_figures s m args below meth c (MQ below (va_Qi Q (gB G) (gA G)) args s 0 0 (gA G)) G (gA G) 5 0 0 M 2 [(0, .ref (gAD G 79)), (1, .int x1), (2, .int v2)] []) (v2 : Int32) (v4 : Int32) (s0 : Int32) (s1 : Int32) (M : Mem) (h : wX8_figures_107 x1 k_2 Q v2 v4 s0 s1 M) : Wl p l e rmX8_figures s m args below meth c (MQ below (va_Qi Q (gB G) (gA G)) args s 0 0 (gA G)) G (gA G) 5 0 0 M 107 [(0, .ref (gAD G 79)), (1, .int x1), (2, .int v2), (4, .int v4)] [.int s0, .int s1] := by
  have h : ((s1 = s0 → (vp_in v2 (ln 96) ∧ k_2 (v2 + (1 : Int32)) (mu (mu M 96 v2.toNatClampNeg v4) 79 19 (((mu M 96 v2.toNatClampNeg v4) 79 19) + (1 : Int32))))) ∧ (¬ s1 = s0 → wX8_figures_110 x1 Q M)) := h
  refine wl_icmp_eq C (tgt := 112) dX8_figures_107 (by decide) (fun hc => ?_) (fun hc => ?_)
  · have h := h.1 hc
    refine wl_aload_n C dX8_figures_112 0 rfl ?_
    refine gf_8_20 C kq_79 (gir_8 hB kq_79) tw_613 dX8_figures_113 ?_
    refine wl_iload_n C dX8_figures_116 2 rfl ?_
    refine wl_iload C dX8_figures_117 3 rfl ?_
    refine ga_st10 C kq_96 (gir_10 hB kq_96) h.1 dX8_figures_119 ?_
    have h := h.2
    refine wl_aload_n C dX8_figures_120 0 rfl ?_
    refine wl_dup C dX8_figures_121 rfl ?_
    refine gf_8_19 C kq_79 (gir_8 hB kq_79) tw_612 dX8_figures_122 ?_
    refine wl_iconst (v := 1) C dX8_figures_125 (by decide) ?_
    refine wl_iadd C dX8_figures_126 ?_
    refine gp_8_19 C kq_79 (gir_8 hB kq_79) tw_612 dX8_figures_127 ?_
    refine wl_iinc (v := (v2 + (1 : Int32))) (lv' := [(2, .int (v2 + (1 : Int32))), (0, .ref (gAD G 79)), (1, .int x1), (4, .int v4)]) C dX8_figures_130 2 rfl (by rfl) (by decide) rfl ?_
    refine wl_goto C (tgt := 2) dX8_figures_133 (by decide) ?_
    refine wl_sub [1, 2, 0] rfl ?_
    exact hk_2 (v2 + (1 : Int32)) (mu (mu M 96 v2.toNatClampNeg v4) 79 19 (((mu M 96 v2.toNatClampNeg v4) 79 19) + (1 : Int32))) h
  · have h := h.2 hc
    refine wl_sub [] rfl ?_
    exact kX8_figures_110 l G hg hB x1 C hr M h
set_option maxRecDepth 100000 in
set_option maxHeartbeats 4000000 in
theorem kX8_figures_73 (l : Launch) (G : gP) (hg : gIn G) (hB : gRf G) (x1 : Int32) {p : Program} {e : Env} {s : State} {m : MethodId} {args : Array Value} {below : List Frame} {meth : Method} {c : Code} (C : Cx p s m args meth c G (gA G) cX8_figures 5 RX8) (hr : meth.sig.returnType = (some (Jvm.ClassFile.FieldType.boolean))) {Q : Int32 → Mem → Prop} (k_2 : Int32 → Mem → Prop) (hk_2 : ∀ (v2 : Int32) (M : Mem), k_2 v2 M → Wl p l e rmX8_figures s m args below meth c (MQ below (va_Qi Q (gB G) (gA G)) args s 0 0 (gA G)) G (gA G) 5 0 0 M 2 [(0, .ref (gAD G 79)), (1, .int x1), (2, .int v2)] []) (v2 : Int32) (v3 : Int32) (v4 : Int32) (M : Mem) (h : wX8_figures_73 x1 k_2 Q v2 v3 v4 M) : Wl p l e rmX8_figures s m args below meth c (MQ below (va_Qi Q (gB G) (gA G)) args s 0 0 (gA G)) G (gA G) 5 0 0 M 73 [(0, .ref (gAD G 79)), (1, .int x1), (2, .int v2), (3, .int v3), (4, .int v4)] [] := by
  have h : (wX8_in v3.toInt64 (1 : Int64) (2 : Int64) M (fun r10 M9 => ((r10 = 0 → wX8_figures_110 x1 Q M9) ∧ (¬ r10 = 0 → (wX8_byteAt (M9 79 19) M9 (fun r12 M11 => (((x1 - (1 : Int32)) ≤ v2 → wX8_figures_107 x1 (k_2) Q v2 v4 (59 : Int32) r12 M11) ∧ (¬ (x1 - (1 : Int32)) ≤ v2 → wX8_figures_107 x1 (k_2) Q v2 v4 (44 : Int32) r12 M11)))))))) := h
  refine wl_iload_n C dX8_figures_73 3 rfl ?_
  refine wl_i2l C dX8_figures_74 ?_
  refine wl_lconst (v := 1) C dX8_figures_75 (by decide) ?_
  refine wl_ldc2 C tw_687 dX8_figures_76 ?_
  refine wl_callSi C (cX8_in_M l G hg hB v3.toInt64 (1 : Int64) (2 : Int64) M _) h cw_RX8_98 hd_X8_in ⟨rfl, rfl⟩ ⟨by decide, by decide⟩ (As := [.long v3.toInt64, .long (1 : Int64), .long (2 : Int64)]) (rest := []) rfl (Nat.le_of_ble_eq_true rfl) ⟨Nat.zero_le _, Nat.zero_le _⟩ rfl dX8_figures_79 (fun r10 M9 h => ?_)
  refine wl_if_eq C (tgt := 110) dX8_figures_82 (by decide) (fun hc => ?_) (fun hc => ?_)
  · have h := h.1 hc
    refine wl_sub [] rfl ?_
    exact kX8_figures_110 l G hg hB x1 C hr M9 h
  · have h := h.2 hc
    refine wl_aload_n C dX8_figures_85 0 rfl ?_
    refine wl_aload_n C dX8_figures_86 0 rfl ?_
    refine gf_8_19 C kq_79 (gir_8 hB kq_79) tw_612 dX8_figures_87 ?_
    refine wl_callVi C (cX8_byteAt_M l G hg hB (M9 79 19) M9 _) h cw_RX8_111 hd_X8_byteAt ⟨rfl, rfl⟩ ⟨by decide, by decide⟩ (gir_8 hB kq_79) (gc_k kq_79) rfl (As := [.int (M9 79 19)]) (rest := []) rfl (Nat.le_of_ble_eq_true rfl) ⟨Nat.zero_le _, Nat.zero_le _⟩ rfl dX8_figures_90 (fun r12 M11 h => ?_)
    refine wl_iload_n C dX8_figures_93 2 rfl ?_
    refine wl_iload_n C dX8_figures_94 1 rfl ?_
    refine wl_iconst (v := 1) C dX8_figures_95 (by decide) ?_
    refine wl_isub C dX8_figures_96 ?_
    refine wl_icmp_ge C (tgt := 105) dX8_figures_97 (by decide) (fun hc => ?_) (fun hc => ?_)
    · have h := h.1 hc
      refine wl_bipush (v := 59) C dX8_figures_105 (by decide) ?_
      refine wl_sub [0, 1, 2, 4] rfl ?_
      exact kX8_figures_107 l G hg hB x1 C hr (k_2) (hk_2) v2 v4 (59 : Int32) r12 M11 h
    · have h := h.2 hc
      refine wl_bipush (v := 44) C dX8_figures_100 (by decide) ?_
      refine wl_goto C (tgt := 107) dX8_figures_102 (by decide) ?_
      refine wl_sub [0, 1, 2, 4] rfl ?_
      exact kX8_figures_107 l G hg hB x1 C hr (k_2) (hk_2) v2 v4 (44 : Int32) r12 M11 h
set_option maxRecDepth 100000 in
set_option maxHeartbeats 4000000 in
theorem kX8_figures_12 (l : Launch) (G : gP) (hg : gIn G) (hB : gRf G) (x1 : Int32) {p : Program} {e : Env} {s : State} {m : MethodId} {args : Array Value} {below : List Frame} {meth : Method} {c : Code} (C : Cx p s m args meth c G (gA G) cX8_figures 5 RX8) (hr : meth.sig.returnType = (some (Jvm.ClassFile.FieldType.boolean))) {Q : Int32 → Mem → Prop} (k_2 : Int32 → Mem → Prop) (hk_2 : ∀ (v2 : Int32) (M : Mem), k_2 v2 M → Wl p l e rmX8_figures s m args below meth c (MQ below (va_Qi Q (gB G) (gA G)) args s 0 0 (gA G)) G (gA G) 5 0 0 M 2 [(0, .ref (gAD G 79)), (1, .int x1), (2, .int v2)] []) : ∀ (n : Nat) (v2 : Int32) (v3 : Int32) (v4 : Int32) (M : Mem), wX8_figures_12 x1 k_2 Q n v2 v3 v4 M → Wl p l e rmX8_figures s m args below meth c (MQ below (va_Qi Q (gB G) (gA G)) args s 0 0 (gA G)) G (gA G) 5 0 0 M 12 [(0, .ref (gAD G 79)), (1, .int x1), (2, .int v2), (3, .int v3), (4, .int v4)] [] := by
  intro n
  induction n with
  | zero => intro v2 v3 v4 M h; exact h.elim
  | succ n ih =>
    intro v2 v3 v4 M h
    have h : (wX8_byteAt (M 79 19) M (fun r4 M3 => (wX8_in r4.toInt64 (48 : Int64) (57 : Int64) M3 (fun r6 M5 => ((r6 = 0 → wX8_figures_73 x1 (k_2) Q v2 v3 v4 M5) ∧ (¬ r6 = 0 → (((3 : Int32) ≤ v3 → wX8_figures_73 x1 (k_2) Q v2 v3 v4 M5) ∧ (¬ (3 : Int32) ≤ v3 → (wX8_byteAt (M5 79 19) M5 (fun r8 M7 => wX8_figures_12 x1 k_2 Q n v2 (v3 + (1 : Int32)) ((((10 : Int32) * v4) + r8) - (48 : Int32)) (mu M7 79 19 ((M7 79 19) + (1 : Int32))))))))))))) := h
    refine wl_aload_n C dX8_figures_12 0 rfl ?_
    refine wl_aload_n C dX8_figures_13 0 rfl ?_
    refine gf_8_19 C kq_79 (gir_8 hB kq_79) tw_612 dX8_figures_14 ?_
    refine wl_callVi C (cX8_byteAt_M l G hg hB (M 79 19) M _) h cw_RX8_111 hd_X8_byteAt ⟨rfl, rfl⟩ ⟨by decide, by decide⟩ (gir_8 hB kq_79) (gc_k kq_79) rfl (As := [.int (M 79 19)]) (rest := []) rfl (Nat.le_of_ble_eq_true rfl) ⟨Nat.zero_le _, Nat.zero_le _⟩ rfl dX8_figures_17 (fun r4 M3 h => ?_)
    refine wl_i2l C dX8_figures_20 ?_
    refine wl_ldc2 C tw_685 dX8_figures_21 ?_
    refine wl_ldc2 C tw_686 dX8_figures_24 ?_
    refine wl_callSi C (cX8_in_M l G hg hB r4.toInt64 (48 : Int64) (57 : Int64) M3 _) h cw_RX8_98 hd_X8_in ⟨rfl, rfl⟩ ⟨by decide, by decide⟩ (As := [.long r4.toInt64, .long (48 : Int64), .long (57 : Int64)]) (rest := []) rfl (Nat.le_of_ble_eq_true rfl) ⟨Nat.zero_le _, Nat.zero_le _⟩ rfl dX8_figures_27 (fun r6 M5 h => ?_)
    refine wl_if_eq C (tgt := 73) dX8_figures_30 (by decide) (fun hc => ?_) (fun hc => ?_)
    · have h := h.1 hc
      refine wl_sub [0, 1, 2, 3, 4] rfl ?_
      exact kX8_figures_73 l G hg hB x1 C hr (k_2) (hk_2) v2 v3 v4 M5 h
    · have h := h.2 hc
      refine wl_iload_n C dX8_figures_33 3 rfl ?_
      refine wl_iconst (v := 3) C dX8_figures_34 (by decide) ?_
      refine wl_icmp_ge C (tgt := 73) dX8_figures_35 (by decide) (fun hc => ?_) (fun hc => ?_)
      · have h := h.1 hc
        refine wl_sub [0, 1, 2, 3, 4] rfl ?_
        exact kX8_figures_73 l G hg hB x1 C hr (k_2) (hk_2) v2 v3 v4 M5 h
      · have h := h.2 hc
        refine wl_bipush (v := 10) C dX8_figures_38 (by decide) ?_
        refine wl_iload C dX8_figures_40 4 rfl ?_
        refine wl_imul C dX8_figures_42 ?_
        refine wl_aload_n C dX8_figures_43 0 rfl ?_
        refine wl_aload_n C dX8_figures_44 0 rfl ?_
        refine gf_8_19 C kq_79 (gir_8 hB kq_79) tw_612 dX8_figures_45 ?_
        refine wl_callVi C (cX8_byteAt_M l G hg hB (M5 79 19) M5 _) h cw_RX8_111 hd_X8_byteAt ⟨rfl, rfl⟩ ⟨by decide, by decide⟩ (gir_8 hB kq_79) (gc_k kq_79) rfl (As := [.int (M5 79 19)]) (rest := [.int ((10 : Int32) * v4)]) rfl (Nat.le_of_ble_eq_true rfl) ⟨Nat.zero_le _, Nat.zero_le _⟩ rfl dX8_figures_48 (fun r8 M7 h => ?_)
        refine wl_iadd C dX8_figures_51 ?_
        refine wl_bipush (v := 48) C dX8_figures_52 (by decide) ?_
        refine wl_isub C dX8_figures_54 ?_
        refine wl_istore (i := 4) (lv' := [(4, .int ((((10 : Int32) * v4) + r8) - (48 : Int32))), (0, .ref (gAD G 79)), (1, .int x1), (2, .int v2), (3, .int v3)]) C dX8_figures_55 (by decide) rfl ?_
        refine wl_iinc (v := (v3 + (1 : Int32))) (lv' := [(3, .int (v3 + (1 : Int32))), (4, .int ((((10 : Int32) * v4) + r8) - (48 : Int32))), (0, .ref (gAD G 79)), (1, .int x1), (2, .int v2)]) C dX8_figures_57 4 rfl (by rfl) (by decide) rfl ?_
        refine wl_aload_n C dX8_figures_60 2 rfl ?_
        refine wl_dup C dX8_figures_61 rfl ?_
        refine gf_8_19 C kq_79 (gir_8 hB kq_79) tw_612 dX8_figures_62 ?_
        refine wl_iconst (v := 1) C dX8_figures_65 (by decide) ?_
        refine wl_iadd C dX8_figures_66 ?_
        refine gp_8_19 C kq_79 (gir_8 hB kq_79) tw_612 dX8_figures_67 ?_
        refine wl_goto C (tgt := 12) dX8_figures_70 (by decide) ?_
        refine wl_sub [2, 3, 4, 0, 1] rfl ?_
        exact ih v2 (v3 + (1 : Int32)) ((((10 : Int32) * v4) + r8) - (48 : Int32)) (mu M7 79 19 ((M7 79 19) + (1 : Int32))) h
set_option maxRecDepth 100000 in
set_option maxHeartbeats 4000000 in
theorem kX8_figures_2 (l : Launch) (G : gP) (hg : gIn G) (hB : gRf G) (x1 : Int32) {p : Program} {e : Env} {s : State} {m : MethodId} {args : Array Value} {below : List Frame} {meth : Method} {c : Code} (C : Cx p s m args meth c G (gA G) cX8_figures 5 RX8) (hr : meth.sig.returnType = (some (Jvm.ClassFile.FieldType.boolean))) {Q : Int32 → Mem → Prop} : ∀ (n : Nat) (v2 : Int32) (M : Mem), wX8_figures_2 x1 Q n v2 M → Wl p l e rmX8_figures s m args below meth c (MQ below (va_Qi Q (gB G) (gA G)) args s 0 0 (gA G)) G (gA G) 5 0 0 M 2 [(0, .ref (gAD G 79)), (1, .int x1), (2, .int v2)] [] := by
  intro n
  induction n with
  | zero => intro v2 M h; exact h.elim
  | succ n ih =>
    intro v2 M h
    have h : ((x1 ≤ v2 → (((1 : Int32) = 0 ∨ (1 : Int32) = 1) ∧ Q (1 : Int32) M)) ∧ (¬ x1 ≤ v2 → (∃ n2, wX8_figures_12 x1 (wX8_figures_2 x1 Q n) Q n2 v2 (0 : Int32) (0 : Int32) M))) := h
    refine wl_iload_n C dX8_figures_2 2 rfl ?_
    refine wl_iload_n C dX8_figures_3 1 rfl ?_
    refine wl_icmp_ge C (tgt := 136) dX8_figures_4 (by decide) (fun hc => ?_) (fun hc => ?_)
    · have h := h.1 hc
      refine wl_iconst (v := 1) C dX8_figures_136 (by decide) ?_
      exact wl_zret C hr h.1 h.2 dX8_figures_137
    · have h := h.2 hc
      refine wl_iconst (v := 0) C dX8_figures_7 (by decide) ?_
      refine wl_istore_n (i := 3) (lv' := [(3, .int (0 : Int32)), (0, .ref (gAD G 79)), (1, .int x1), (2, .int v2)]) C dX8_figures_8 rfl (by decide) rfl ?_
      refine wl_iconst (v := 0) C dX8_figures_9 (by decide) ?_
      refine wl_istore (i := 4) (lv' := [(4, .int (0 : Int32)), (3, .int (0 : Int32)), (0, .ref (gAD G 79)), (1, .int x1), (2, .int v2)]) C dX8_figures_10 (by decide) rfl ?_
      refine wl_sub [2, 3, 4, 1, 0] rfl ?_
      obtain ⟨n2, h⟩ := h
      exact kX8_figures_12 l G hg hB x1 C hr (wX8_figures_2 x1 Q n) (ih) n2 v2 (0 : Int32) (0 : Int32) M h
set_option maxRecDepth 100000 in
set_option maxHeartbeats 4000000 in
theorem cX8_figures_M (l : Launch) (G : gP) (hg : gIn G) (hB : gRf G) (x1 : Int32) (M : Mem) (Q : Int32 → Mem → Prop) : Met l yX8_figures (Cond.code yX8_figures cX8_figures 5 (some (Jvm.ClassFile.FieldType.boolean)) :: TB) rmX8_figures (va_Pc [.ref (gAD G 79), .int x1] (fun U => gS G M U ∧ wX8_figures x1 M Q)) (va_Qi Q (gB G) (gA G)) 0 0 (gA G) := by
  refine gMet (by decide +kernel) (show _ = Cond.code yX8_figures cX8_figures 5 (some (Jvm.ClassFile.FieldType.boolean)) from rfl) hg (Nat.le_of_ble_eq_true rfl) [(0, .ref (gAD G 79)), (1, .int x1)] rfl ?_
  intro p e s m args below meth c C hr h
  have h : (∃ n1, wX8_figures_2 x1 Q n1 (0 : Int32) M) := h
  refine wl_iconst (v := 0) C dX8_figures_0 (by decide) ?_
  refine wl_istore_n (i := 2) (lv' := [(2, .int (0 : Int32)), (0, .ref (gAD G 79)), (1, .int x1)]) C dX8_figures_1 rfl (by decide) rfl ?_
  refine wl_sub [1, 2, 0] rfl ?_
  obtain ⟨n1, h⟩ := h
  exact kX8_figures_2 l G hg hB x1 C hr n1 (0 : Int32) M h
set_option maxRecDepth 100000 in
set_option maxHeartbeats 4000000 in
theorem kX8_item_99 (l : Launch) (G : gP) (hg : gIn G) (hB : gRf G) {p : Program} {e : Env} {s : State} {m : MethodId} {args : Array Value} {below : List Frame} {meth : Method} {c : Code} (C : Cx p s m args meth c G (gA G) cX8_item 2 RX8) (hr : meth.sig.returnType = (some (Jvm.ClassFile.FieldType.boolean))) {Q : Int32 → Mem → Prop} (M : Mem) (h : wX8_item_99 Q M) : Wl p l e rmX8_item s m args below meth c (MQ below (va_Qi Q (gB G) (gA G)) args s 0 0 (gA G)) G (gA G) 2 0 0 M 99 [] [] := by
  have h : (((0 : Int32) = 0 ∨ (0 : Int32) = 1) ∧ Q (0 : Int32) M) := h
  refine wl_iconst (v := 0) C dX8_item_99 (by decide) ?_
  exact wl_zret C hr h.1 h.2 dX8_item_100
set_option maxRecDepth 100000 in
set_option maxHeartbeats 4000000 in
theorem kX8_item_140 (l : Launch) (G : gP) (hg : gIn G) (hB : gRf G) {p : Program} {e : Env} {s : State} {m : MethodId} {args : Array Value} {below : List Frame} {meth : Method} {c : Code} (C : Cx p s m args meth c G (gA G) cX8_item 2 RX8) (hr : meth.sig.returnType = (some (Jvm.ClassFile.FieldType.boolean))) {Q : Int32 → Mem → Prop} (M : Mem) (h : wX8_item_140 Q M) : Wl p l e rmX8_item s m args below meth c (MQ below (va_Qi Q (gB G) (gA G)) args s 0 0 (gA G)) G (gA G) 2 0 0 M 140 [] [] := by
  have h : (((0 : Int32) = 0 ∨ (0 : Int32) = 1) ∧ Q (0 : Int32) M) := h
  refine wl_iconst (v := 0) C dX8_item_140 (by decide) ?_
  exact wl_zret C hr h.1 h.2 dX8_item_141
set_option maxRecDepth 100000 in
set_option maxHeartbeats 4000000 in
theorem kX8_item_185 (l : Launch) (G : gP) (hg : gIn G) (hB : gRf G) {p : Program} {e : Env} {s : State} {m : MethodId} {args : Array Value} {below : List Frame} {meth : Method} {c : Code} (C : Cx p s m args meth c G (gA G) cX8_item 2 RX8) (hr : meth.sig.returnType = (some (Jvm.ClassFile.FieldType.boolean))) {Q : Int32 → Mem → Prop} (M : Mem) (h : wX8_item_185 Q M) : Wl p l e rmX8_item s m args below meth c (MQ below (va_Qi Q (gB G) (gA G)) args s 0 0 (gA G)) G (gA G) 2 0 0 M 185 [] [] := by
  have h : (((0 : Int32) = 0 ∨ (0 : Int32) = 1) ∧ Q (0 : Int32) M) := h
  refine wl_iconst (v := 0) C dX8_item_185 (by decide) ?_
  exact wl_zret C hr h.1 h.2 dX8_item_186
set_option maxRecDepth 100000 in
set_option maxHeartbeats 4000000 in
theorem kX8_item_254 (l : Launch) (G : gP) (hg : gIn G) (hB : gRf G) {p : Program} {e : Env} {s : State} {m : MethodId} {args : Array Value} {below : List Frame} {meth : Method} {c : Code} (C : Cx p s m args meth c G (gA G) cX8_item 2 RX8) (hr : meth.sig.returnType = (some (Jvm.ClassFile.FieldType.boolean))) {Q : Int32 → Mem → Prop} (M : Mem) (h : wX8_item_254 Q M) : Wl p l e rmX8_item s m args below meth c (MQ below (va_Qi Q (gB G) (gA G)) args s 0 0 (gA G)) G (gA G) 2 0 0 M 254 [] [] := by
  have h : (((0 : Int32) = 0 ∨ (0 : Int32) = 1) ∧ Q (0 : Int32) M) := h
  refine wl_iconst (v := 0) C dX8_item_254 (by decide) ?_
  exact wl_zret C hr h.1 h.2 dX8_item_255
set_option maxRecDepth 100000 in
set_option maxHeartbeats 4000000 in
theorem kX8_item_342 (l : Launch) (G : gP) (hg : gIn G) (hB : gRf G) {p : Program} {e : Env} {s : State} {m : MethodId} {args : Array Value} {below : List Frame} {meth : Method} {c : Code} (C : Cx p s m args meth c G (gA G) cX8_item 2 RX8) (hr : meth.sig.returnType = (some (Jvm.ClassFile.FieldType.boolean))) {Q : Int32 → Mem → Prop} (M : Mem) (h : wX8_item_342 Q M) : Wl p l e rmX8_item s m args below meth c (MQ below (va_Qi Q (gB G) (gA G)) args s 0 0 (gA G)) G (gA G) 2 0 0 M 342 [] [] := by
  have h : (((0 : Int32) = 0 ∨ (0 : Int32) = 1) ∧ Q (0 : Int32) M) := h
  refine wl_iconst (v := 0) C dX8_item_342 (by decide) ?_
  exact wl_zret C hr h.1 h.2 dX8_item_343
set_option maxRecDepth 100000 in
set_option maxHeartbeats 4000000 in
theorem cX8_item_M (l : Launch) (G : gP) (hg : gIn G) (hB : gRf G) (M : Mem) (Q : Int32 → Mem → Prop) : Met l yX8_item (Cond.code yX8_item cX8_item 2 (some (Jvm.ClassFile.FieldType.boolean)) :: TB) rmX8_item (va_Pc [.ref (gAD G 79)] (fun U => gS G M U ∧ wX8_item M Q)) (va_Qi Q (gB G) (gA G)) 0 0 (gA G) := by
  refine gMet (by decide +kernel) (show _ = Cond.code yX8_item cX8_item 2 (some (Jvm.ClassFile.FieldType.boolean)) from rfl) hg (Nat.le_of_ble_eq_true rfl) [(0, .ref (gAD G 79))] rfl ?_
  intro p e s m args below meth c C hr h
  have h : (wX8_byteAt (M 79 19) M (fun r2 M1 => ((r2 = (108 : Int32) → (wX8_figures (2 : Int32) (mu M1 79 19 ((M1 79 19) + (1 : Int32))) (fun r4 M3 => ((r4 = 0 → wX8_item_185 Q M3) ∧ (¬ r4 = 0 → (vp_in (0 : Int32) (ln 96) ∧ (((3 : Int32) < (M3 96 (0 : Int32).toNatClampNeg) → wX8_item_185 Q M3) ∧ (¬ (3 : Int32) < (M3 96 (0 : Int32).toNatClampNeg) → (vp_in (1 : Int32) (ln 96) ∧ (((M3 96 (1 : Int32).toNatClampNeg) ≤ (39 : Int32) → (vp_in (0 : Int32) (ln 96) ∧ (vp_in (1 : Int32) (ln 83) ∧ (vp_in (1 : Int32) (ln 96) ∧ (vp_in (1 : Int32) (ln 84) ∧ (((1 : Int32) = 0 ∨ (1 : Int32) = 1) ∧ Q (1 : Int32) (mu (mu M3 83 (1 : Int32).toNatClampNeg (M3 96 (0 : Int32).toNatClampNeg)) 84 (1 : Int32).toNatClampNeg ((mu M3 83 (1 : Int32).toNatClampNeg (M3 96 (0 : Int32).toNatClampNeg)) 96 (1 : Int32).toNatClampNeg)))))))) ∧ (¬ (M3 96 (1 : Int32).toNatClampNeg) ≤ (39 : Int32) → wX8_item_185 Q M3))))))))))) ∧ (¬ r2 = (108 : Int32) → ((r2 = (109 : Int32) → (((0 : Int32) = 0 ∨ (0 : Int32) = 1) ∧ Q (0 : Int32) (mu M1 79 19 ((M1 79 19) + (1 : Int32))))) ∧ (¬ r2 = (109 : Int32) → ((r2 = (110 : Int32) → (wX8_figures (1 : Int32) (mu M1 79 19 ((M1 79 19) + (1 : Int32))) (fun r6 M5 => ((r6 = 0 → wX8_item_99 Q M5) ∧ (¬ r6 = 0 → (vp_in (0 : Int32) (ln 96) ∧ (wX8_in ((M5 96 (0 : Int32).toNatClampNeg).toInt64) (2 : Int64) (40 : Int64) M5 (fun r8 M7 => ((¬ r8 = 0 → (vp_in (0 : Int32) (ln 96) ∧ (vp_in (1 : Int32) (ln 81) ∧ (((1 : Int32) = 0 ∨ (1 : Int32) = 1) ∧ Q (1 : Int32) (mu M7 81 (1 : Int32).toNatClampNeg (M7 96 (0 : Int32).toNatClampNeg)))))) ∧ (r8 = 0 → wX8_item_99 Q M7)))))))))) ∧ (¬ r2 = (110 : Int32) → ((r2 = (111 : Int32) → (((0 : Int32) = 0 ∨ (0 : Int32) = 1) ∧ Q (0 : Int32) (mu M1 79 19 ((M1 79 19) + (1 : Int32))))) ∧ (¬ r2 = (111 : Int32) → ((r2 = (112 : Int32) → (((0 : Int32) = 0 ∨ (0 : Int32) = 1) ∧ Q (0 : Int32) (mu M1 79 19 ((M1 79 19) + (1 : Int32))))) ∧ (¬ r2 = (112 : Int32) → ((r2 = (113 : Int32) → (((0 : Int32) = 0 ∨ (0 : Int32) = 1) ∧ Q (0 : Int32) (mu M1 79 19 ((M1 79 19) + (1 : Int32))))) ∧ (¬ r2 = (113 : Int32) → ((r2 = (114 : Int32) → (wX8_figures (1 : Int32) (mu M1 79 19 ((M1 79 19) + (1 : Int32))) (fun r10 M9 => ((r10 = 0 → wX8_item_140 Q M9) ∧ (¬ r10 = 0 → (vp_in (0 : Int32) (ln 96) ∧ (wX8_in ((M9 96 (0 : Int32).toNatClampNeg).toInt64) (1 : Int64) (40 : Int64) M9 (fun r12 M11 => ((¬ r12 = 0 → (vp_in (0 : Int32) (ln 96) ∧ (vp_in (1 : Int32) (ln 82) ∧ (((1 : Int32) = 0 ∨ (1 : Int32) = 1) ∧ Q (1 : Int32) (mu M11 82 (1 : Int32).toNatClampNeg (M11 96 (0 : Int32).toNatClampNeg)))))) ∧ (r12 = 0 → wX8_item_140 Q M11)))))))))) ∧ (¬ r2 = (114 : Int32) → ((r2 = (115 : Int32) → (wX8_figures (2 : Int32) (mu M1 79 19 ((M1 79 19) + (1 : Int32))) (fun r14 M13 => ((r14 = 0 → wX8_item_254 Q M13) ∧ (¬ r14 = 0 → (vp_in (0 : Int32) (ln 96) ∧ (((39 : Int32) < (M13 96 (0 : Int32).toNatClampNeg) → wX8_item_254 Q M13) ∧ (¬ (39 : Int32) < (M13 96 (0 : Int32).toNatClampNeg) → (vp_in (1 : Int32) (ln 96) ∧ (((39 : Int32) < (M13 96 (1 : Int32).toNatClampNeg) → wX8_item_254 Q M13) ∧ (¬ (39 : Int32) < (M13 96 (1 : Int32).toNatClampNeg) → (vp_in (1 : Int32) (ln 85) ∧ ((¬ (M13 85 (1 : Int32).toNatClampNeg) = (20 : Int32) → (vp_in (1 : Int32) (ln 85) ∧ (vp_in (0 : Int32) (ln 96) ∧ (vp_in ((40 : Int32) + ((2 : Int32) * (M13 85 (1 : Int32).toNatClampNeg))) (ln 86) ∧ (vp_in (1 : Int32) (ln 85) ∧ (vp_in (1 : Int32) (ln 96) ∧ (vp_in ((41 : Int32) + ((2 : Int32) * ((mu M13 86 ((40 : Int32) + ((2 : Int32) * (M13 85 (1 : Int32).toNatClampNeg))).toNatClampNeg (M13 96 (0 : Int32).toNatClampNeg)) 85 (1 : Int32).toNatClampNeg))) (ln 86) ∧ (vp_in (1 : Int32) (ln 85) ∧ (vp_in (1 : Int32) (ln 85) ∧ (((1 : Int32) = 0 ∨ (1 : Int32) = 1) ∧ Q (1 : Int32) (mu (mu (mu M13 86 ((40 : Int32) + ((2 : Int32) * (M13 85 (1 : Int32).toNatClampNeg))).toNatClampNeg (M13 96 (0 : Int32).toNatClampNeg)) 86 ((41 : Int32) + ((2 : Int32) * ((mu M13 86 ((40 : Int32) + ((2 : Int32) * (M13 85 (1 : Int32).toNatClampNeg))).toNatClampNeg (M13 96 (0 : Int32).toNatClampNeg)) 85 (1 : Int32).toNatClampNeg))).toNatClampNeg ((mu M13 86 ((40 : Int32) + ((2 : Int32) * (M13 85 (1 : Int32).toNatClampNeg))).toNatClampNeg (M13 96 (0 : Int32).toNatClampNeg)) 96 (1 : Int32).toNatClampNeg)) 85 (1 : Int32).toNatClampNeg (((mu (mu M13 86 ((40 : Int32) + ((2 : Int32) * (M13 85 (1 : Int32).toNatClampNeg))).toNatClampNeg (M13 96 (0 : Int32).toNatClampNeg)) 86 ((41 : Int32) + ((2 : Int32) * ((mu M13 86 ((40 : Int32) + ((2 : Int32) * (M13 85 (1 : Int32).toNatClampNeg))).toNatClampNeg (M13 96 (0 : Int32).toNatClampNeg)) 85 (1 : Int32).toNatClampNeg))).toNatClampNeg ((mu M13 86 ((40 : Int32) + ((2 : Int32) * (M13 85 (1 : Int32).toNatClampNeg))).toNatClampNeg (M13 96 (0 : Int32).toNatClampNeg)) 96 (1 : Int32).toNatClampNeg)) 85 (1 : Int32).toNatClampNeg) + (1 : Int32))))))))))))) ∧ ((M13 85 (1 : Int32).toNatClampNeg) = (20 : Int32) → wX8_item_254 Q M13)))))))))))))) ∧ (¬ r2 = (115 : Int32) → ((r2 = (116 : Int32) → (wX8_figures (1 : Int32) (mu M1 79 19 ((M1 79 19) + (1 : Int32))) (fun r16 M15 => ((r16 = 0 → wX8_item_342 Q M15) ∧ (¬ r16 = 0 → (vp_in (0 : Int32) (ln 96) ∧ (((39 : Int32) < (M15 96 (0 : Int32).toNatClampNeg) → wX8_item_342 Q M15) ∧ (¬ (39 : Int32) < (M15 96 (0 : Int32).toNatClampNeg) → (vp_in (1 : Int32) (ln 87) ∧ ((¬ (M15 87 (1 : Int32).toNatClampNeg) = (20 : Int32) → (vp_in (1 : Int32) (ln 87) ∧ (vp_in (0 : Int32) (ln 96) ∧ (vp_in ((20 : Int32) + (M15 87 (1 : Int32).toNatClampNeg)) (ln 88) ∧ (vp_in (1 : Int32) (ln 87) ∧ (vp_in (1 : Int32) (ln 87) ∧ (((1 : Int32) = 0 ∨ (1 : Int32) = 1) ∧ Q (1 : Int32) (mu (mu M15 88 ((20 : Int32) + (M15 87 (1 : Int32).toNatClampNeg)).toNatClampNeg (M15 96 (0 : Int32).toNatClampNeg)) 87 (1 : Int32).toNatClampNeg (((mu M15 88 ((20 : Int32) + (M15 87 (1 : Int32).toNatClampNeg)).toNatClampNeg (M15 96 (0 : Int32).toNatClampNeg)) 87 (1 : Int32).toNatClampNeg) + (1 : Int32)))))))))) ∧ ((M15 87 (1 : Int32).toNatClampNeg) = (20 : Int32) → wX8_item_342 Q M15))))))))))) ∧ (¬ r2 = (116 : Int32) → (((0 : Int32) = 0 ∨ (0 : Int32) = 1) ∧ Q (0 : Int32) (mu M1 79 19 ((M1 79 19) + (1 : Int32)))))))))))))))))))))))) := h
  refine wl_aload_n C dX8_item_0 0 rfl ?_
  refine wl_aload_n C dX8_item_1 0 rfl ?_
  refine gf_8_19 C kq_79 (gir_8 hB kq_79) tw_612 dX8_item_2 ?_
  refine wl_callVi C (cX8_byteAt_M l G hg hB (M 79 19) M _) h cw_RX8_111 hd_X8_byteAt ⟨rfl, rfl⟩ ⟨by decide, by decide⟩ (gir_8 hB kq_79) (gc_k kq_79) rfl (As := [.int (M 79 19)]) (rest := []) rfl (Nat.le_of_ble_eq_true rfl) ⟨Nat.zero_le _, Nat.zero_le _⟩ rfl dX8_item_5 (fun r2 M1 h => ?_)
  refine wl_istore_n (i := 1) (lv' := [(1, .int r2), (0, .ref (gAD G 79))]) C dX8_item_8 rfl (by decide) rfl ?_
  refine wl_aload_n C dX8_item_9 1 rfl ?_
  refine wl_dup C dX8_item_10 rfl ?_
  refine gf_8_19 C kq_79 (gir_8 hB kq_79) tw_612 dX8_item_11 ?_
  refine wl_iconst (v := 1) C dX8_item_14 (by decide) ?_
  refine wl_iadd C dX8_item_15 ?_
  refine gp_8_19 C kq_79 (gir_8 hB kq_79) tw_612 dX8_item_16 ?_
  refine wl_iload_n C dX8_item_19 0 rfl ?_
  by_cases ht0 : r2 = (108 : Int32)
  · have h := h.1 ht0
    refine wl_tabIn C (tgt := 156) (108 : Int32) ht0 dX8_item_20 (by decide) (by decide) rfl (by decide) ?_
    refine wl_aload_n C dX8_item_156 1 rfl ?_
    refine wl_iconst (v := 2) C dX8_item_157 (by decide) ?_
    refine wl_callVi C (cX8_figures_M l G hg hB (2 : Int32) (mu M1 79 19 ((M1 79 19) + (1 : Int32))) _) h cw_RX8_121 hd_X8_figures ⟨rfl, rfl⟩ ⟨by decide, by decide⟩ (gir_8 hB kq_79) (gc_k kq_79) rfl (As := [.int (2 : Int32)]) (rest := []) rfl (Nat.le_of_ble_eq_true rfl) ⟨Nat.zero_le _, Nat.zero_le _⟩ rfl dX8_item_158 (fun r4 M3 h => ?_)
    refine wl_if_eq C (tgt := 185) dX8_item_161 (by decide) (fun hc => ?_) (fun hc => ?_)
    · have h := h.1 hc
      refine wl_sub [] rfl ?_
      exact kX8_item_185 l G hg hB C hr M3 h
    · have h := h.2 hc
      refine wl_aload_n C dX8_item_164 1 rfl ?_
      refine gf_8_20 C kq_79 (gir_8 hB kq_79) tw_613 dX8_item_165 ?_
      refine wl_iconst (v := 0) C dX8_item_168 (by decide) ?_
      refine ga_ld10 C kq_96 (gir_10 hB kq_96) h.1 dX8_item_169 ?_
      have h := h.2
      refine wl_iconst (v := 3) C dX8_item_170 (by decide) ?_
      refine wl_icmp_gt C (tgt := 185) dX8_item_171 (by decide) (fun hc => ?_) (fun hc => ?_)
      · have h := h.1 hc
        refine wl_sub [] rfl ?_
        exact kX8_item_185 l G hg hB C hr M3 h
      · have h := h.2 hc
        refine wl_aload_n C dX8_item_174 1 rfl ?_
        refine gf_8_20 C kq_79 (gir_8 hB kq_79) tw_613 dX8_item_175 ?_
        refine wl_iconst (v := 1) C dX8_item_178 (by decide) ?_
        refine ga_ld10 C kq_96 (gir_10 hB kq_96) h.1 dX8_item_179 ?_
        have h := h.2
        refine wl_bipush (v := 39) C dX8_item_180 (by decide) ?_
        refine wl_icmp_le C (tgt := 187) dX8_item_182 (by decide) (fun hc => ?_) (fun hc => ?_)
        · have h := h.1 hc
          refine wl_aload_n C dX8_item_187 1 rfl ?_
          refine gf_8_4 C kq_79 (gir_8 hB kq_79) tw_597 dX8_item_188 ?_
          refine wl_iconst (v := 1) C dX8_item_191 (by decide) ?_
          refine wl_aload_n C dX8_item_192 1 rfl ?_
          refine gf_8_20 C kq_79 (gir_8 hB kq_79) tw_613 dX8_item_193 ?_
          refine wl_iconst (v := 0) C dX8_item_196 (by decide) ?_
          refine ga_ld10 C kq_96 (gir_10 hB kq_96) h.1 dX8_item_197 ?_
          have h := h.2
          refine ga_st10 C kq_83 (gir_10 hB kq_83) h.1 dX8_item_198 ?_
          have h := h.2
          refine wl_aload_n C dX8_item_199 1 rfl ?_
          refine gf_8_5 C kq_79 (gir_8 hB kq_79) tw_598 dX8_item_200 ?_
          refine wl_iconst (v := 1) C dX8_item_203 (by decide) ?_
          refine wl_aload_n C dX8_item_204 1 rfl ?_
          refine gf_8_20 C kq_79 (gir_8 hB kq_79) tw_613 dX8_item_205 ?_
          refine wl_iconst (v := 1) C dX8_item_208 (by decide) ?_
          refine ga_ld10 C kq_96 (gir_10 hB kq_96) h.1 dX8_item_209 ?_
          have h := h.2
          refine ga_st10 C kq_84 (gir_10 hB kq_84) h.1 dX8_item_210 ?_
          have h := h.2
          refine wl_iconst (v := 1) C dX8_item_211 (by decide) ?_
          exact wl_zret C hr h.1 h.2 dX8_item_212
        · have h := h.2 hc
          refine wl_sub [] rfl ?_
          exact kX8_item_185 l G hg hB C hr M3 h
  · have h := h.2 ht0
    by_cases ht1 : r2 = (109 : Int32)
    · have h := h.1 ht1
      refine wl_tabIn C (tgt := 376) (109 : Int32) ht1 dX8_item_20 (by decide) (by decide) rfl (by decide) ?_
      refine wl_iconst (v := 0) C dX8_item_376 (by decide) ?_
      exact wl_zret C hr h.1 h.2 dX8_item_377
    · have h := h.2 ht1
      by_cases ht2 : r2 = (110 : Int32)
      · have h := h.1 ht2
        refine wl_tabIn C (tgt := 72) (110 : Int32) ht2 dX8_item_20 (by decide) (by decide) rfl (by decide) ?_
        refine wl_aload_n C dX8_item_72 1 rfl ?_
        refine wl_iconst (v := 1) C dX8_item_73 (by decide) ?_
        refine wl_callVi C (cX8_figures_M l G hg hB (1 : Int32) (mu M1 79 19 ((M1 79 19) + (1 : Int32))) _) h cw_RX8_121 hd_X8_figures ⟨rfl, rfl⟩ ⟨by decide, by decide⟩ (gir_8 hB kq_79) (gc_k kq_79) rfl (As := [.int (1 : Int32)]) (rest := []) rfl (Nat.le_of_ble_eq_true rfl) ⟨Nat.zero_le _, Nat.zero_le _⟩ rfl dX8_item_74 (fun r6 M5 h => ?_)
        refine wl_if_eq C (tgt := 99) dX8_item_77 (by decide) (fun hc => ?_) (fun hc => ?_)
        · have h := h.1 hc
          refine wl_sub [] rfl ?_
          exact kX8_item_99 l G hg hB C hr M5 h
        · have h := h.2 hc
          refine wl_aload_n C dX8_item_80 1 rfl ?_
          refine gf_8_20 C kq_79 (gir_8 hB kq_79) tw_613 dX8_item_81 ?_
          refine wl_iconst (v := 0) C dX8_item_84 (by decide) ?_
          refine ga_ld10 C kq_96 (gir_10 hB kq_96) h.1 dX8_item_85 ?_
          have h := h.2
          refine wl_i2l C dX8_item_86 ?_
          refine wl_ldc2 C tw_687 dX8_item_87 ?_
          refine wl_ldc2 C tw_688 dX8_item_90 ?_
          refine wl_callSi C (cX8_in_M l G hg hB ((M5 96 (0 : Int32).toNatClampNeg).toInt64) (2 : Int64) (40 : Int64) M5 _) h cw_RX8_98 hd_X8_in ⟨rfl, rfl⟩ ⟨by decide, by decide⟩ (As := [.long (M5 96 (0 : Int32).toNatClampNeg).toInt64, .long (2 : Int64), .long (40 : Int64)]) (rest := []) rfl (Nat.le_of_ble_eq_true rfl) ⟨Nat.zero_le _, Nat.zero_le _⟩ rfl dX8_item_93 (fun r8 M7 h => ?_)
          refine wl_if_ne C (tgt := 101) dX8_item_96 (by decide) (fun hc => ?_) (fun hc => ?_)
          · have h := h.1 hc
            refine wl_aload_n C dX8_item_101 1 rfl ?_
            refine gf_8_2 C kq_79 (gir_8 hB kq_79) tw_595 dX8_item_102 ?_
            refine wl_iconst (v := 1) C dX8_item_105 (by decide) ?_
            refine wl_aload_n C dX8_item_106 1 rfl ?_
            refine gf_8_20 C kq_79 (gir_8 hB kq_79) tw_613 dX8_item_107 ?_
            refine wl_iconst (v := 0) C dX8_item_110 (by decide) ?_
            refine ga_ld10 C kq_96 (gir_10 hB kq_96) h.1 dX8_item_111 ?_
            have h := h.2
            refine ga_st10 C kq_81 (gir_10 hB kq_81) h.1 dX8_item_112 ?_
            have h := h.2
            refine wl_iconst (v := 1) C dX8_item_113 (by decide) ?_
            exact wl_zret C hr h.1 h.2 dX8_item_114
          · have h := h.2 hc
            refine wl_sub [] rfl ?_
            exact kX8_item_99 l G hg hB C hr M7 h
      · have h := h.2 ht2
        by_cases ht3 : r2 = (111 : Int32)
        · have h := h.1 ht3
          refine wl_tabIn C (tgt := 376) (111 : Int32) ht3 dX8_item_20 (by decide) (by decide) rfl (by decide) ?_
          refine wl_iconst (v := 0) C dX8_item_376 (by decide) ?_
          exact wl_zret C hr h.1 h.2 dX8_item_377
        · have h := h.2 ht3
          by_cases ht4 : r2 = (112 : Int32)
          · have h := h.1 ht4
            refine wl_tabIn C (tgt := 376) (112 : Int32) ht4 dX8_item_20 (by decide) (by decide) rfl (by decide) ?_
            refine wl_iconst (v := 0) C dX8_item_376 (by decide) ?_
            exact wl_zret C hr h.1 h.2 dX8_item_377
          · have h := h.2 ht4
            by_cases ht5 : r2 = (113 : Int32)
            · have h := h.1 ht5
              refine wl_tabIn C (tgt := 376) (113 : Int32) ht5 dX8_item_20 (by decide) (by decide) rfl (by decide) ?_
              refine wl_iconst (v := 0) C dX8_item_376 (by decide) ?_
              exact wl_zret C hr h.1 h.2 dX8_item_377
            · have h := h.2 ht5
              by_cases ht6 : r2 = (114 : Int32)
              · have h := h.1 ht6
                refine wl_tabIn C (tgt := 115) (114 : Int32) ht6 dX8_item_20 (by decide) (by decide) rfl (by decide) ?_
                refine wl_aload_n C dX8_item_115 1 rfl ?_
                refine wl_iconst (v := 1) C dX8_item_116 (by decide) ?_
                refine wl_callVi C (cX8_figures_M l G hg hB (1 : Int32) (mu M1 79 19 ((M1 79 19) + (1 : Int32))) _) h cw_RX8_121 hd_X8_figures ⟨rfl, rfl⟩ ⟨by decide, by decide⟩ (gir_8 hB kq_79) (gc_k kq_79) rfl (As := [.int (1 : Int32)]) (rest := []) rfl (Nat.le_of_ble_eq_true rfl) ⟨Nat.zero_le _, Nat.zero_le _⟩ rfl dX8_item_117 (fun r10 M9 h => ?_)
                refine wl_if_eq C (tgt := 140) dX8_item_120 (by decide) (fun hc => ?_) (fun hc => ?_)
                · have h := h.1 hc
                  refine wl_sub [] rfl ?_
                  exact kX8_item_140 l G hg hB C hr M9 h
                · have h := h.2 hc
                  refine wl_aload_n C dX8_item_123 1 rfl ?_
                  refine gf_8_20 C kq_79 (gir_8 hB kq_79) tw_613 dX8_item_124 ?_
                  refine wl_iconst (v := 0) C dX8_item_127 (by decide) ?_
                  refine ga_ld10 C kq_96 (gir_10 hB kq_96) h.1 dX8_item_128 ?_
                  have h := h.2
                  refine wl_i2l C dX8_item_129 ?_
                  refine wl_lconst (v := 1) C dX8_item_130 (by decide) ?_
                  refine wl_ldc2 C tw_688 dX8_item_131 ?_
                  refine wl_callSi C (cX8_in_M l G hg hB ((M9 96 (0 : Int32).toNatClampNeg).toInt64) (1 : Int64) (40 : Int64) M9 _) h cw_RX8_98 hd_X8_in ⟨rfl, rfl⟩ ⟨by decide, by decide⟩ (As := [.long (M9 96 (0 : Int32).toNatClampNeg).toInt64, .long (1 : Int64), .long (40 : Int64)]) (rest := []) rfl (Nat.le_of_ble_eq_true rfl) ⟨Nat.zero_le _, Nat.zero_le _⟩ rfl dX8_item_134 (fun r12 M11 h => ?_)
                  refine wl_if_ne C (tgt := 142) dX8_item_137 (by decide) (fun hc => ?_) (fun hc => ?_)
                  · have h := h.1 hc
                    refine wl_aload_n C dX8_item_142 1 rfl ?_
                    refine gf_8_3 C kq_79 (gir_8 hB kq_79) tw_596 dX8_item_143 ?_
                    refine wl_iconst (v := 1) C dX8_item_146 (by decide) ?_
                    refine wl_aload_n C dX8_item_147 1 rfl ?_
                    refine gf_8_20 C kq_79 (gir_8 hB kq_79) tw_613 dX8_item_148 ?_
                    refine wl_iconst (v := 0) C dX8_item_151 (by decide) ?_
                    refine ga_ld10 C kq_96 (gir_10 hB kq_96) h.1 dX8_item_152 ?_
                    have h := h.2
                    refine ga_st10 C kq_82 (gir_10 hB kq_82) h.1 dX8_item_153 ?_
                    have h := h.2
                    refine wl_iconst (v := 1) C dX8_item_154 (by decide) ?_
                    exact wl_zret C hr h.1 h.2 dX8_item_155
                  · have h := h.2 hc
                    refine wl_sub [] rfl ?_
                    exact kX8_item_140 l G hg hB C hr M11 h
              · have h := h.2 ht6
                by_cases ht7 : r2 = (115 : Int32)
                · have h := h.1 ht7
                  refine wl_tabIn C (tgt := 213) (115 : Int32) ht7 dX8_item_20 (by decide) (by decide) rfl (by decide) ?_
                  refine wl_aload_n C dX8_item_213 1 rfl ?_
                  refine wl_iconst (v := 2) C dX8_item_214 (by decide) ?_
                  refine wl_callVi C (cX8_figures_M l G hg hB (2 : Int32) (mu M1 79 19 ((M1 79 19) + (1 : Int32))) _) h cw_RX8_121 hd_X8_figures ⟨rfl, rfl⟩ ⟨by decide, by decide⟩ (gir_8 hB kq_79) (gc_k kq_79) rfl (As := [.int (2 : Int32)]) (rest := []) rfl (Nat.le_of_ble_eq_true rfl) ⟨Nat.zero_le _, Nat.zero_le _⟩ rfl dX8_item_215 (fun r14 M13 h => ?_)
                  refine wl_if_eq C (tgt := 254) dX8_item_218 (by decide) (fun hc => ?_) (fun hc => ?_)
                  · have h := h.1 hc
                    refine wl_sub [] rfl ?_
                    exact kX8_item_254 l G hg hB C hr M13 h
                  · have h := h.2 hc
                    refine wl_aload_n C dX8_item_221 1 rfl ?_
                    refine gf_8_20 C kq_79 (gir_8 hB kq_79) tw_613 dX8_item_222 ?_
                    refine wl_iconst (v := 0) C dX8_item_225 (by decide) ?_
                    refine ga_ld10 C kq_96 (gir_10 hB kq_96) h.1 dX8_item_226 ?_
                    have h := h.2
                    refine wl_bipush (v := 39) C dX8_item_227 (by decide) ?_
                    refine wl_icmp_gt C (tgt := 254) dX8_item_229 (by decide) (fun hc => ?_) (fun hc => ?_)
                    · have h := h.1 hc
                      refine wl_sub [] rfl ?_
                      exact kX8_item_254 l G hg hB C hr M13 h
                    · have h := h.2 hc
                      refine wl_aload_n C dX8_item_232 1 rfl ?_
                      refine gf_8_20 C kq_79 (gir_8 hB kq_79) tw_613 dX8_item_233 ?_
                      refine wl_iconst (v := 1) C dX8_item_236 (by decide) ?_
                      refine ga_ld10 C kq_96 (gir_10 hB kq_96) h.1 dX8_item_237 ?_
                      have h := h.2
                      refine wl_bipush (v := 39) C dX8_item_238 (by decide) ?_
                      refine wl_icmp_gt C (tgt := 254) dX8_item_240 (by decide) (fun hc => ?_) (fun hc => ?_)
                      · have h := h.1 hc
                        refine wl_sub [] rfl ?_
                        exact kX8_item_254 l G hg hB C hr M13 h
                      · have h := h.2 hc
                        refine wl_aload_n C dX8_item_243 1 rfl ?_
                        refine gf_8_6 C kq_79 (gir_8 hB kq_79) tw_599 dX8_item_244 ?_
                        refine wl_iconst (v := 1) C dX8_item_247 (by decide) ?_
                        refine ga_ld10 C kq_85 (gir_10 hB kq_85) h.1 dX8_item_248 ?_
                        have h := h.2
                        refine wl_bipush (v := 20) C dX8_item_249 (by decide) ?_
                        refine wl_icmp_ne C (tgt := 256) dX8_item_251 (by decide) (fun hc => ?_) (fun hc => ?_)
                        · have h := h.1 hc
                          refine wl_aload_n C dX8_item_256 1 rfl ?_
                          refine gf_8_7 C kq_79 (gir_8 hB kq_79) tw_600 dX8_item_257 ?_
                          refine wl_bipush (v := 40) C dX8_item_260 (by decide) ?_
                          refine wl_iconst (v := 2) C dX8_item_262 (by decide) ?_
                          refine wl_aload_n C dX8_item_263 1 rfl ?_
                          refine gf_8_6 C kq_79 (gir_8 hB kq_79) tw_599 dX8_item_264 ?_
                          refine wl_iconst (v := 1) C dX8_item_267 (by decide) ?_
                          refine ga_ld10 C kq_85 (gir_10 hB kq_85) h.1 dX8_item_268 ?_
                          have h := h.2
                          refine wl_imul C dX8_item_269 ?_
                          refine wl_iadd C dX8_item_270 ?_
                          refine wl_aload_n C dX8_item_271 1 rfl ?_
                          refine gf_8_20 C kq_79 (gir_8 hB kq_79) tw_613 dX8_item_272 ?_
                          refine wl_iconst (v := 0) C dX8_item_275 (by decide) ?_
                          refine ga_ld10 C kq_96 (gir_10 hB kq_96) h.1 dX8_item_276 ?_
                          have h := h.2
                          refine ga_st10 C kq_86 (gir_10 hB kq_86) h.1 dX8_item_277 ?_
                          have h := h.2
                          refine wl_aload_n C dX8_item_278 1 rfl ?_
                          refine gf_8_7 C kq_79 (gir_8 hB kq_79) tw_600 dX8_item_279 ?_
                          refine wl_bipush (v := 41) C dX8_item_282 (by decide) ?_
                          refine wl_iconst (v := 2) C dX8_item_284 (by decide) ?_
                          refine wl_aload_n C dX8_item_285 1 rfl ?_
                          refine gf_8_6 C kq_79 (gir_8 hB kq_79) tw_599 dX8_item_286 ?_
                          refine wl_iconst (v := 1) C dX8_item_289 (by decide) ?_
                          refine ga_ld10 C kq_85 (gir_10 hB kq_85) h.1 dX8_item_290 ?_
                          have h := h.2
                          refine wl_imul C dX8_item_291 ?_
                          refine wl_iadd C dX8_item_292 ?_
                          refine wl_aload_n C dX8_item_293 1 rfl ?_
                          refine gf_8_20 C kq_79 (gir_8 hB kq_79) tw_613 dX8_item_294 ?_
                          refine wl_iconst (v := 1) C dX8_item_297 (by decide) ?_
                          refine ga_ld10 C kq_96 (gir_10 hB kq_96) h.1 dX8_item_298 ?_
                          have h := h.2
                          refine ga_st10 C kq_86 (gir_10 hB kq_86) h.1 dX8_item_299 ?_
                          have h := h.2
                          refine wl_aload_n C dX8_item_300 1 rfl ?_
                          refine gf_8_6 C kq_79 (gir_8 hB kq_79) tw_599 dX8_item_301 ?_
                          refine wl_iconst (v := 1) C dX8_item_304 (by decide) ?_
                          refine wl_dup2 C dX8_item_305 rfl rfl ?_
                          refine ga_ld10 C kq_85 (gir_10 hB kq_85) h.1 dX8_item_306 ?_
                          have h := h.2
                          refine wl_iconst (v := 1) C dX8_item_307 (by decide) ?_
                          refine wl_iadd C dX8_item_308 ?_
                          refine ga_st10 C kq_85 (gir_10 hB kq_85) h.1 dX8_item_309 ?_
                          have h := h.2
                          refine wl_iconst (v := 1) C dX8_item_310 (by decide) ?_
                          exact wl_zret C hr h.1 h.2 dX8_item_311
                        · have h := h.2 hc
                          refine wl_sub [] rfl ?_
                          exact kX8_item_254 l G hg hB C hr M13 h
                · have h := h.2 ht7
                  by_cases ht8 : r2 = (116 : Int32)
                  · have h := h.1 ht8
                    refine wl_tabIn C (tgt := 312) (116 : Int32) ht8 dX8_item_20 (by decide) (by decide) rfl (by decide) ?_
                    refine wl_aload_n C dX8_item_312 1 rfl ?_
                    refine wl_iconst (v := 1) C dX8_item_313 (by decide) ?_
                    refine wl_callVi C (cX8_figures_M l G hg hB (1 : Int32) (mu M1 79 19 ((M1 79 19) + (1 : Int32))) _) h cw_RX8_121 hd_X8_figures ⟨rfl, rfl⟩ ⟨by decide, by decide⟩ (gir_8 hB kq_79) (gc_k kq_79) rfl (As := [.int (1 : Int32)]) (rest := []) rfl (Nat.le_of_ble_eq_true rfl) ⟨Nat.zero_le _, Nat.zero_le _⟩ rfl dX8_item_314 (fun r16 M15 h => ?_)
                    refine wl_if_eq C (tgt := 342) dX8_item_317 (by decide) (fun hc => ?_) (fun hc => ?_)
                    · have h := h.1 hc
                      refine wl_sub [] rfl ?_
                      exact kX8_item_342 l G hg hB C hr M15 h
                    · have h := h.2 hc
                      refine wl_aload_n C dX8_item_320 1 rfl ?_
                      refine gf_8_20 C kq_79 (gir_8 hB kq_79) tw_613 dX8_item_321 ?_
                      refine wl_iconst (v := 0) C dX8_item_324 (by decide) ?_
                      refine ga_ld10 C kq_96 (gir_10 hB kq_96) h.1 dX8_item_325 ?_
                      have h := h.2
                      refine wl_bipush (v := 39) C dX8_item_326 (by decide) ?_
                      refine wl_icmp_gt C (tgt := 342) dX8_item_328 (by decide) (fun hc => ?_) (fun hc => ?_)
                      · have h := h.1 hc
                        refine wl_sub [] rfl ?_
                        exact kX8_item_342 l G hg hB C hr M15 h
                      · have h := h.2 hc
                        refine wl_aload_n C dX8_item_331 1 rfl ?_
                        refine gf_8_8 C kq_79 (gir_8 hB kq_79) tw_601 dX8_item_332 ?_
                        refine wl_iconst (v := 1) C dX8_item_335 (by decide) ?_
                        refine ga_ld10 C kq_87 (gir_10 hB kq_87) h.1 dX8_item_336 ?_
                        have h := h.2
                        refine wl_bipush (v := 20) C dX8_item_337 (by decide) ?_
                        refine wl_icmp_ne C (tgt := 344) dX8_item_339 (by decide) (fun hc => ?_) (fun hc => ?_)
                        · have h := h.1 hc
                          refine wl_aload_n C dX8_item_344 1 rfl ?_
                          refine gf_8_9 C kq_79 (gir_8 hB kq_79) tw_602 dX8_item_345 ?_
                          refine wl_bipush (v := 20) C dX8_item_348 (by decide) ?_
                          refine wl_aload_n C dX8_item_350 1 rfl ?_
                          refine gf_8_8 C kq_79 (gir_8 hB kq_79) tw_601 dX8_item_351 ?_
                          refine wl_iconst (v := 1) C dX8_item_354 (by decide) ?_
                          refine ga_ld10 C kq_87 (gir_10 hB kq_87) h.1 dX8_item_355 ?_
                          have h := h.2
                          refine wl_iadd C dX8_item_356 ?_
                          refine wl_aload_n C dX8_item_357 1 rfl ?_
                          refine gf_8_20 C kq_79 (gir_8 hB kq_79) tw_613 dX8_item_358 ?_
                          refine wl_iconst (v := 0) C dX8_item_361 (by decide) ?_
                          refine ga_ld10 C kq_96 (gir_10 hB kq_96) h.1 dX8_item_362 ?_
                          have h := h.2
                          refine ga_st10 C kq_88 (gir_10 hB kq_88) h.1 dX8_item_363 ?_
                          have h := h.2
                          refine wl_aload_n C dX8_item_364 1 rfl ?_
                          refine gf_8_8 C kq_79 (gir_8 hB kq_79) tw_601 dX8_item_365 ?_
                          refine wl_iconst (v := 1) C dX8_item_368 (by decide) ?_
                          refine wl_dup2 C dX8_item_369 rfl rfl ?_
                          refine ga_ld10 C kq_87 (gir_10 hB kq_87) h.1 dX8_item_370 ?_
                          have h := h.2
                          refine wl_iconst (v := 1) C dX8_item_371 (by decide) ?_
                          refine wl_iadd C dX8_item_372 ?_
                          refine ga_st10 C kq_87 (gir_10 hB kq_87) h.1 dX8_item_373 ?_
                          have h := h.2
                          refine wl_iconst (v := 1) C dX8_item_374 (by decide) ?_
                          exact wl_zret C hr h.1 h.2 dX8_item_375
                        · have h := h.2 hc
                          refine wl_sub [] rfl ?_
                          exact kX8_item_342 l G hg hB C hr M15 h
                  · have h := h.2 ht8
                    refine wl_tabOut C (tgt := 376) dX8_item_20 (by have qht0 := tb_ne ht0 (show Int32.toInt 108 = 108 from rfl); have qht1 := tb_ne ht1 (show Int32.toInt 109 = 109 from rfl); have qht2 := tb_ne ht2 (show Int32.toInt 110 = 110 from rfl); have qht3 := tb_ne ht3 (show Int32.toInt 111 = 111 from rfl); have qht4 := tb_ne ht4 (show Int32.toInt 112 = 112 from rfl); have qht5 := tb_ne ht5 (show Int32.toInt 113 = 113 from rfl); have qht6 := tb_ne ht6 (show Int32.toInt 114 = 114 from rfl); have qht7 := tb_ne ht7 (show Int32.toInt 115 = 115 from rfl); have qht8 := tb_ne ht8 (show Int32.toInt 116 = 116 from rfl); omega) (by decide) ?_
                    refine wl_iconst (v := 0) C dX8_item_376 (by decide) ?_
                    exact wl_zret C hr h.1 h.2 dX8_item_377
set_option maxRecDepth 100000 in
set_option maxHeartbeats 4000000 in
theorem kX8_readAll_10 (l : Launch) (G : gP) (hg : gIn G) (hB : gRf G) {p : Program} {e : Env} {s : State} {m : MethodId} {args : Array Value} {below : List Frame} {meth : Method} {c : Code} (C : Cx p s m args meth c G (gA G) cX8_readAll 2 RX8) (hr : meth.sig.returnType = (some (Jvm.ClassFile.FieldType.int))) {Q : Int32 → Mem → Prop} : ∀ (n : Nat) (M : Mem), wX8_readAll_10 Q n M → Wl p l e rmX8_readAll s m args below meth c (MQ below (va_Qi Q (gB G) (gA G)) args s 0 0 (gA G)) G (gA G) 2 0 0 M 10 [(0, .ref (gAD G 79))] [] := by
  intro n
  induction n with
  | zero => intro M h; exact h.elim
  | succ n ih =>
    intro M h
    have h : (((M 79 0) ≤ (M 79 19) → Q (-4 : Int32) M) ∧ (¬ (M 79 0) ≤ (M 79 19) → (wX8_item M (fun r4 M3 => ((¬ r4 = 0 → wX8_readAll_10 Q n M3) ∧ (r4 = 0 → Q (M 79 19) M3)))))) := h
    refine wl_aload_n C dX8_readAll_10 0 rfl ?_
    refine gf_8_19 C kq_79 (gir_8 hB kq_79) tw_612 dX8_readAll_11 ?_
    refine wl_aload_n C dX8_readAll_14 0 rfl ?_
    refine gf_8_0 C kq_79 (gir_8 hB kq_79) tw_593 dX8_readAll_15 ?_
    refine wl_icmp_ge C (tgt := 38) dX8_readAll_18 (by decide) (fun hc => ?_) (fun hc => ?_)
    · have h := h.1 hc
      refine wl_bipush (v := (-4)) C dX8_readAll_38 (by decide) ?_
      exact wl_iret C hr h dX8_readAll_40
    · have h := h.2 hc
      refine wl_aload_n C dX8_readAll_21 0 rfl ?_
      refine gf_8_19 C kq_79 (gir_8 hB kq_79) tw_612 dX8_readAll_22 ?_
      refine wl_istore_n (i := 1) (lv' := [(1, .int (M 79 19)), (0, .ref (gAD G 79))]) C dX8_readAll_25 rfl (by decide) rfl ?_
      refine wl_aload_n C dX8_readAll_26 1 rfl ?_
      refine wl_callVi C (cX8_item_M l G hg hB M _) h cw_RX8_127 hd_X8_item ⟨rfl, rfl⟩ ⟨by decide, by decide⟩ (gir_8 hB kq_79) (gc_k kq_79) rfl (As := []) (rest := []) rfl (Nat.le_of_ble_eq_true rfl) ⟨Nat.zero_le _, Nat.zero_le _⟩ rfl dX8_readAll_27 (fun r4 M3 h => ?_)
      refine wl_if_ne C (tgt := 35) dX8_readAll_30 (by decide) (fun hc => ?_) (fun hc => ?_)
      · have h := h.1 hc
        refine wl_goto C (tgt := 10) dX8_readAll_35 (by decide) ?_
        refine wl_sub [1] rfl ?_
        exact ih M3 h
      · have h := h.2 hc
        refine wl_iload_n C dX8_readAll_33 0 rfl ?_
        exact wl_iret C hr h dX8_readAll_34
set_option maxRecDepth 100000 in
set_option maxHeartbeats 4000000 in
theorem cX8_readAll_M (l : Launch) (G : gP) (hg : gIn G) (hB : gRf G) (M : Mem) (Q : Int32 → Mem → Prop) : Met l yX8_readAll (Cond.code yX8_readAll cX8_readAll 2 (some (Jvm.ClassFile.FieldType.int)) :: TB) rmX8_readAll (va_Pc [.ref (gAD G 79)] (fun U => gS G M U ∧ wX8_readAll M Q)) (va_Qi Q (gB G) (gA G)) 0 0 (gA G) := by
  refine gMet (by decide +kernel) (show _ = Cond.code yX8_readAll cX8_readAll 2 (some (Jvm.ClassFile.FieldType.int)) from rfl) hg (Nat.le_of_ble_eq_true rfl) [(0, .ref (gAD G 79))] rfl ?_
  intro p e s m args below meth c C hr h
  have h : (wX8_noBook (1 : Int32) M (fun M1 => (∃ n2, wX8_readAll_10 Q n2 (mu M1 79 19 (0 : Int32))))) := h
  refine wl_aload_n C dX8_readAll_0 0 rfl ?_
  refine wl_iconst (v := 1) C dX8_readAll_1 (by decide) ?_
  refine wl_callVv C (cX8_noBook_M l G hg hB (1 : Int32) M _) h cw_RX8_89 hd_X8_noBook ⟨rfl, rfl⟩ ⟨by decide, by decide⟩ (gir_8 hB kq_79) (gc_k kq_79) rfl (As := [.int (1 : Int32)]) (rest := []) rfl (Nat.le_of_ble_eq_true rfl) ⟨Nat.zero_le _, Nat.zero_le _⟩ rfl dX8_readAll_2 (fun M1 h => ?_)
  refine wl_aload_n C dX8_readAll_5 0 rfl ?_
  refine wl_iconst (v := 0) C dX8_readAll_6 (by decide) ?_
  refine gp_8_19 C kq_79 (gir_8 hB kq_79) tw_612 dX8_readAll_7 ?_
  refine wl_sub [0] rfl ?_
  obtain ⟨n2, h⟩ := h
  exact kX8_readAll_10 l G hg hB C hr n2 (mu M1 79 19 (0 : Int32)) h
set_option maxRecDepth 100000 in
set_option maxHeartbeats 4000000 in
theorem cX8_fault_M (l : Launch) (G : gP) (hg : gIn G) (hB : gRf G) (M : Mem) (Q : Int32 → Mem → Prop) : Met l yX8_fault (Cond.code yX8_fault cX8_fault 1 (some (Jvm.ClassFile.FieldType.int)) :: TB) rmX8_fault (va_Pc [.ref (gAD G 79)] (fun U => gS G M U ∧ wX8_fault M Q)) (va_Qi Q (gB G) (gA G)) 0 0 (gA G) := by
  refine gMet (by decide +kernel) (show _ = Cond.code yX8_fault cX8_fault 1 (some (Jvm.ClassFile.FieldType.int)) from rfl) hg (Nat.le_of_ble_eq_true rfl) [(0, .ref (gAD G 79))] rfl ?_
  intro p e s m args below meth c C hr h
  have h : (wX8_readAll M (fun r2 M1 => Q r2 M1)) := h
  refine wl_aload_n C dX8_fault_0 0 rfl ?_
  refine wl_callVi C (cX8_readAll_M l G hg hB M _) h cw_RX8_131 hd_X8_readAll ⟨rfl, rfl⟩ ⟨by decide, by decide⟩ (gir_8 hB kq_79) (gc_k kq_79) rfl (As := []) (rest := []) rfl (Nat.le_of_ble_eq_true rfl) ⟨Nat.zero_le _, Nat.zero_le _⟩ rfl dX8_fault_1 (fun r2 M1 h => ?_)
  exact wl_iret C hr h dX8_fault_4
set_option maxRecDepth 100000 in
set_option maxHeartbeats 4000000 in
theorem kX8_areBelow_43 (l : Launch) (G : gP) (hg : gIn G) (hB : gRf G) {p : Program} {e : Env} {s : State} {m : MethodId} {args : Array Value} {below : List Frame} {meth : Method} {c : Code} (C : Cx p s m args meth c G (gA G) cX8_areBelow 3 RX8) (hr : meth.sig.returnType = (some (Jvm.ClassFile.FieldType.boolean))) {Q : Int32 → Mem → Prop} (k_4 : Int32 → Int32 → Mem → Prop) (hk_4 : ∀ (v1 : Int32) (v2 : Int32) (M : Mem), k_4 v1 v2 M → Wl p l e rmX8_areBelow s m args below meth c (MQ below (va_Qi Q (gB G) (gA G)) args s 0 0 (gA G)) G (gA G) 3 0 0 M 4 [(0, .ref (gAD G 79)), (1, .int v1), (2, .int v2)] []) (v2 : Int32) (s0 : Int32) (M : Mem) (h : wX8_areBelow_43 k_4 Q v2 s0 M) : Wl p l e rmX8_areBelow s m args below meth c (MQ below (va_Qi Q (gB G) (gA G)) args s 0 0 (gA G)) G (gA G) 3 0 0 M 43 [(0, .ref (gAD G 79)), (2, .int v2)] [.int s0] := by
  have h : k_4 s0 (v2 + (1 : Int32)) M := h
  refine wl_istore_n (i := 1) (lv' := [(1, .int s0), (0, .ref (gAD G 79)), (2, .int v2)]) C dX8_areBelow_43 rfl (by decide) rfl ?_
  refine wl_iinc (v := (v2 + (1 : Int32))) (lv' := [(2, .int (v2 + (1 : Int32))), (1, .int s0), (0, .ref (gAD G 79))]) C dX8_areBelow_44 2 rfl (by rfl) (by decide) rfl ?_
  refine wl_goto C (tgt := 4) dX8_areBelow_47 (by decide) ?_
  refine wl_sub [2, 1, 0] rfl ?_
  exact hk_4 s0 (v2 + (1 : Int32)) M h
set_option maxRecDepth 100000 in
set_option maxHeartbeats 4000000 in
theorem kX8_areBelow_42 (l : Launch) (G : gP) (hg : gIn G) (hB : gRf G) {p : Program} {e : Env} {s : State} {m : MethodId} {args : Array Value} {below : List Frame} {meth : Method} {c : Code} (C : Cx p s m args meth c G (gA G) cX8_areBelow 3 RX8) (hr : meth.sig.returnType = (some (Jvm.ClassFile.FieldType.boolean))) {Q : Int32 → Mem → Prop} (k_4 : Int32 → Int32 → Mem → Prop) (hk_4 : ∀ (v1 : Int32) (v2 : Int32) (M : Mem), k_4 v1 v2 M → Wl p l e rmX8_areBelow s m args below meth c (MQ below (va_Qi Q (gB G) (gA G)) args s 0 0 (gA G)) G (gA G) 3 0 0 M 4 [(0, .ref (gAD G 79)), (1, .int v1), (2, .int v2)] []) (v2 : Int32) (M : Mem) (h : wX8_areBelow_42 k_4 Q v2 M) : Wl p l e rmX8_areBelow s m args below meth c (MQ below (va_Qi Q (gB G) (gA G)) args s 0 0 (gA G)) G (gA G) 3 0 0 M 42 [(0, .ref (gAD G 79)), (2, .int v2)] [] := by
  have h : wX8_areBelow_43 (k_4) Q v2 (0 : Int32) M := h
  refine wl_iconst (v := 0) C dX8_areBelow_42 (by decide) ?_
  refine wl_sub [0, 1] rfl ?_
  exact kX8_areBelow_43 l G hg hB C hr (k_4) (hk_4) v2 (0 : Int32) M h
set_option maxRecDepth 100000 in
set_option maxHeartbeats 4000000 in
theorem kX8_areBelow_89 (l : Launch) (G : gP) (hg : gIn G) (hB : gRf G) {p : Program} {e : Env} {s : State} {m : MethodId} {args : Array Value} {below : List Frame} {meth : Method} {c : Code} (C : Cx p s m args meth c G (gA G) cX8_areBelow 3 RX8) (hr : meth.sig.returnType = (some (Jvm.ClassFile.FieldType.boolean))) {Q : Int32 → Mem → Prop} (k_52 : Int32 → Int32 → Mem → Prop) (hk_52 : ∀ (v1 : Int32) (v2 : Int32) (M : Mem), k_52 v1 v2 M → Wl p l e rmX8_areBelow s m args below meth c (MQ below (va_Qi Q (gB G) (gA G)) args s 0 0 (gA G)) G (gA G) 3 0 0 M 52 [(0, .ref (gAD G 79)), (1, .int v1), (2, .int v2)] []) (v2 : Int32) (s0 : Int32) (M : Mem) (h : wX8_areBelow_89 k_52 Q v2 s0 M) : Wl p l e rmX8_areBelow s m args below meth c (MQ below (va_Qi Q (gB G) (gA G)) args s 0 0 (gA G)) G (gA G) 3 0 0 M 89 [(0, .ref (gAD G 79)), (2, .int v2)] [.int s0] := by
  have h : k_52 s0 (v2 + (1 : Int32)) M := h
  refine wl_istore_n (i := 1) (lv' := [(1, .int s0), (0, .ref (gAD G 79)), (2, .int v2)]) C dX8_areBelow_89 rfl (by decide) rfl ?_
  refine wl_iinc (v := (v2 + (1 : Int32))) (lv' := [(2, .int (v2 + (1 : Int32))), (1, .int s0), (0, .ref (gAD G 79))]) C dX8_areBelow_90 2 rfl (by rfl) (by decide) rfl ?_
  refine wl_goto C (tgt := 52) dX8_areBelow_93 (by decide) ?_
  refine wl_sub [2, 1, 0] rfl ?_
  exact hk_52 s0 (v2 + (1 : Int32)) M h
set_option maxRecDepth 100000 in
set_option maxHeartbeats 4000000 in
theorem kX8_areBelow_88 (l : Launch) (G : gP) (hg : gIn G) (hB : gRf G) {p : Program} {e : Env} {s : State} {m : MethodId} {args : Array Value} {below : List Frame} {meth : Method} {c : Code} (C : Cx p s m args meth c G (gA G) cX8_areBelow 3 RX8) (hr : meth.sig.returnType = (some (Jvm.ClassFile.FieldType.boolean))) {Q : Int32 → Mem → Prop} (k_52 : Int32 → Int32 → Mem → Prop) (hk_52 : ∀ (v1 : Int32) (v2 : Int32) (M : Mem), k_52 v1 v2 M → Wl p l e rmX8_areBelow s m args below meth c (MQ below (va_Qi Q (gB G) (gA G)) args s 0 0 (gA G)) G (gA G) 3 0 0 M 52 [(0, .ref (gAD G 79)), (1, .int v1), (2, .int v2)] []) (v2 : Int32) (M : Mem) (h : wX8_areBelow_88 k_52 Q v2 M) : Wl p l e rmX8_areBelow s m args below meth c (MQ below (va_Qi Q (gB G) (gA G)) args s 0 0 (gA G)) G (gA G) 3 0 0 M 88 [(0, .ref (gAD G 79)), (2, .int v2)] [] := by
  have h : wX8_areBelow_89 (k_52) Q v2 (0 : Int32) M := h
  refine wl_iconst (v := 0) C dX8_areBelow_88 (by decide) ?_
  refine wl_sub [0, 1] rfl ?_
  exact kX8_areBelow_89 l G hg hB C hr (k_52) (hk_52) v2 (0 : Int32) M h
set_option maxRecDepth 100000 in
set_option maxHeartbeats 4000000 in
theorem kX8_areBelow_52 (l : Launch) (G : gP) (hg : gIn G) (hB : gRf G) {p : Program} {e : Env} {s : State} {m : MethodId} {args : Array Value} {below : List Frame} {meth : Method} {c : Code} (C : Cx p s m args meth c G (gA G) cX8_areBelow 3 RX8) (hr : meth.sig.returnType = (some (Jvm.ClassFile.FieldType.boolean))) {Q : Int32 → Mem → Prop} : ∀ (n : Nat) (v1 : Int32) (v2 : Int32) (M : Mem), wX8_areBelow_52 Q n v1 v2 M → Wl p l e rmX8_areBelow s m args below meth c (MQ below (va_Qi Q (gB G) (gA G)) args s 0 0 (gA G)) G (gA G) 3 0 0 M 52 [(0, .ref (gAD G 79)), (1, .int v1), (2, .int v2)] [] := by
  intro n
  induction n with
  | zero => intro v1 v2 M h; exact h.elim
  | succ n ih =>
    intro v1 v2 M h
    have h : (vp_in (1 : Int32) (ln 87) ∧ (((M 87 (1 : Int32).toNatClampNeg) ≤ v2 → ((v1 = 0 ∨ v1 = 1) ∧ Q v1 M)) ∧ (¬ (M 87 (1 : Int32).toNatClampNeg) ≤ v2 → ((v1 = 0 → wX8_areBelow_88 (wX8_areBelow_52 Q n) Q v2 M) ∧ (¬ v1 = 0 → (vp_in ((20 : Int32) + v2) (ln 88) ∧ (vp_in (1 : Int32) (ln 81) ∧ (((M 81 (1 : Int32).toNatClampNeg) ≤ (M 88 ((20 : Int32) + v2).toNatClampNeg) → wX8_areBelow_88 (wX8_areBelow_52 Q n) Q v2 M) ∧ (¬ (M 81 (1 : Int32).toNatClampNeg) ≤ (M 88 ((20 : Int32) + v2).toNatClampNeg) → wX8_areBelow_89 (wX8_areBelow_52 Q n) Q v2 (1 : Int32) M))))))))) := h
    refine wl_iload_n C dX8_areBelow_52 2 rfl ?_
    refine wl_aload_n C dX8_areBelow_53 0 rfl ?_
    refine gf_8_8 C kq_79 (gir_8 hB kq_79) tw_601 dX8_areBelow_54 ?_
    refine wl_iconst (v := 1) C dX8_areBelow_57 (by decide) ?_
    refine ga_ld10 C kq_87 (gir_10 hB kq_87) h.1 dX8_areBelow_58 ?_
    have h := h.2
    refine wl_icmp_ge C (tgt := 96) dX8_areBelow_59 (by decide) (fun hc => ?_) (fun hc => ?_)
    · have h := h.1 hc
      refine wl_iload_n C dX8_areBelow_96 1 rfl ?_
      exact wl_zret C hr h.1 h.2 dX8_areBelow_97
    · have h := h.2 hc
      refine wl_iload_n C dX8_areBelow_62 1 rfl ?_
      refine wl_if_eq C (tgt := 88) dX8_areBelow_63 (by decide) (fun hc => ?_) (fun hc => ?_)
      · have h := h.1 hc
        refine wl_sub [0, 2] rfl ?_
        exact kX8_areBelow_88 l G hg hB C hr (wX8_areBelow_52 Q n) (ih) v2 M h
      · have h := h.2 hc
        refine wl_aload_n C dX8_areBelow_66 0 rfl ?_
        refine gf_8_9 C kq_79 (gir_8 hB kq_79) tw_602 dX8_areBelow_67 ?_
        refine wl_bipush (v := 20) C dX8_areBelow_70 (by decide) ?_
        refine wl_iload_n C dX8_areBelow_72 2 rfl ?_
        refine wl_iadd C dX8_areBelow_73 ?_
        refine ga_ld10 C kq_88 (gir_10 hB kq_88) h.1 dX8_areBelow_74 ?_
        have h := h.2
        refine wl_aload_n C dX8_areBelow_75 0 rfl ?_
        refine gf_8_2 C kq_79 (gir_8 hB kq_79) tw_595 dX8_areBelow_76 ?_
        refine wl_iconst (v := 1) C dX8_areBelow_79 (by decide) ?_
        refine ga_ld10 C kq_81 (gir_10 hB kq_81) h.1 dX8_areBelow_80 ?_
        have h := h.2
        refine wl_icmp_ge C (tgt := 88) dX8_areBelow_81 (by decide) (fun hc => ?_) (fun hc => ?_)
        · have h := h.1 hc
          refine wl_sub [0, 2] rfl ?_
          exact kX8_areBelow_88 l G hg hB C hr (wX8_areBelow_52 Q n) (ih) v2 M h
        · have h := h.2 hc
          refine wl_iconst (v := 1) C dX8_areBelow_84 (by decide) ?_
          refine wl_goto C (tgt := 89) dX8_areBelow_85 (by decide) ?_
          refine wl_sub [0, 2] rfl ?_
          exact kX8_areBelow_89 l G hg hB C hr (wX8_areBelow_52 Q n) (ih) v2 (1 : Int32) M h
set_option maxRecDepth 100000 in
set_option maxHeartbeats 4000000 in
theorem kX8_areBelow_4 (l : Launch) (G : gP) (hg : gIn G) (hB : gRf G) {p : Program} {e : Env} {s : State} {m : MethodId} {args : Array Value} {below : List Frame} {meth : Method} {c : Code} (C : Cx p s m args meth c G (gA G) cX8_areBelow 3 RX8) (hr : meth.sig.returnType = (some (Jvm.ClassFile.FieldType.boolean))) {Q : Int32 → Mem → Prop} : ∀ (n : Nat) (v1 : Int32) (v2 : Int32) (M : Mem), wX8_areBelow_4 Q n v1 v2 M → Wl p l e rmX8_areBelow s m args below meth c (MQ below (va_Qi Q (gB G) (gA G)) args s 0 0 (gA G)) G (gA G) 3 0 0 M 4 [(0, .ref (gAD G 79)), (1, .int v1), (2, .int v2)] [] := by
  intro n
  induction n with
  | zero => intro v1 v2 M h; exact h.elim
  | succ n ih =>
    intro v1 v2 M h
    have h : (vp_in (1 : Int32) (ln 85) ∧ ((((2 : Int32) * (M 85 (1 : Int32).toNatClampNeg)) ≤ v2 → (∃ n2, wX8_areBelow_52 Q n2 v1 (0 : Int32) M)) ∧ (¬ ((2 : Int32) * (M 85 (1 : Int32).toNatClampNeg)) ≤ v2 → ((v1 = 0 → wX8_areBelow_42 (wX8_areBelow_4 Q n) Q v2 M) ∧ (¬ v1 = 0 → (vp_in ((40 : Int32) + v2) (ln 86) ∧ (vp_in (1 : Int32) (ln 81) ∧ (((M 81 (1 : Int32).toNatClampNeg) ≤ (M 86 ((40 : Int32) + v2).toNatClampNeg) → wX8_areBelow_42 (wX8_areBelow_4 Q n) Q v2 M) ∧ (¬ (M 81 (1 : Int32).toNatClampNeg) ≤ (M 86 ((40 : Int32) + v2).toNatClampNeg) → wX8_areBelow_43 (wX8_areBelow_4 Q n) Q v2 (1 : Int32) M))))))))) := h
    refine wl_iload_n C dX8_areBelow_4 2 rfl ?_
    refine wl_iconst (v := 2) C dX8_areBelow_5 (by decide) ?_
    refine wl_aload_n C dX8_areBelow_6 0 rfl ?_
    refine gf_8_6 C kq_79 (gir_8 hB kq_79) tw_599 dX8_areBelow_7 ?_
    refine wl_iconst (v := 1) C dX8_areBelow_10 (by decide) ?_
    refine ga_ld10 C kq_85 (gir_10 hB kq_85) h.1 dX8_areBelow_11 ?_
    have h := h.2
    refine wl_imul C dX8_areBelow_12 ?_
    refine wl_icmp_ge C (tgt := 50) dX8_areBelow_13 (by decide) (fun hc => ?_) (fun hc => ?_)
    · have h := h.1 hc
      refine wl_iconst (v := 0) C dX8_areBelow_50 (by decide) ?_
      refine wl_istore_n (i := 2) (lv' := [(2, .int (0 : Int32)), (0, .ref (gAD G 79)), (1, .int v1)]) C dX8_areBelow_51 rfl (by decide) rfl ?_
      refine wl_sub [1, 2, 0] rfl ?_
      obtain ⟨n2, h⟩ := h
      exact kX8_areBelow_52 l G hg hB C hr n2 v1 (0 : Int32) M h
    · have h := h.2 hc
      refine wl_iload_n C dX8_areBelow_16 1 rfl ?_
      refine wl_if_eq C (tgt := 42) dX8_areBelow_17 (by decide) (fun hc => ?_) (fun hc => ?_)
      · have h := h.1 hc
        refine wl_sub [0, 2] rfl ?_
        exact kX8_areBelow_42 l G hg hB C hr (wX8_areBelow_4 Q n) (ih) v2 M h
      · have h := h.2 hc
        refine wl_aload_n C dX8_areBelow_20 0 rfl ?_
        refine gf_8_7 C kq_79 (gir_8 hB kq_79) tw_600 dX8_areBelow_21 ?_
        refine wl_bipush (v := 40) C dX8_areBelow_24 (by decide) ?_
        refine wl_iload_n C dX8_areBelow_26 2 rfl ?_
        refine wl_iadd C dX8_areBelow_27 ?_
        refine ga_ld10 C kq_86 (gir_10 hB kq_86) h.1 dX8_areBelow_28 ?_
        have h := h.2
        refine wl_aload_n C dX8_areBelow_29 0 rfl ?_
        refine gf_8_2 C kq_79 (gir_8 hB kq_79) tw_595 dX8_areBelow_30 ?_
        refine wl_iconst (v := 1) C dX8_areBelow_33 (by decide) ?_
        refine ga_ld10 C kq_81 (gir_10 hB kq_81) h.1 dX8_areBelow_34 ?_
        have h := h.2
        refine wl_icmp_ge C (tgt := 42) dX8_areBelow_35 (by decide) (fun hc => ?_) (fun hc => ?_)
        · have h := h.1 hc
          refine wl_sub [0, 2] rfl ?_
          exact kX8_areBelow_42 l G hg hB C hr (wX8_areBelow_4 Q n) (ih) v2 M h
        · have h := h.2 hc
          refine wl_iconst (v := 1) C dX8_areBelow_38 (by decide) ?_
          refine wl_goto C (tgt := 43) dX8_areBelow_39 (by decide) ?_
          refine wl_sub [0, 2] rfl ?_
          exact kX8_areBelow_43 l G hg hB C hr (wX8_areBelow_4 Q n) (ih) v2 (1 : Int32) M h
set_option maxRecDepth 100000 in
set_option maxHeartbeats 4000000 in
theorem cX8_areBelow_M (l : Launch) (G : gP) (hg : gIn G) (hB : gRf G) (M : Mem) (Q : Int32 → Mem → Prop) : Met l yX8_areBelow (Cond.code yX8_areBelow cX8_areBelow 3 (some (Jvm.ClassFile.FieldType.boolean)) :: TB) rmX8_areBelow (va_Pc [.ref (gAD G 79)] (fun U => gS G M U ∧ wX8_areBelow M Q)) (va_Qi Q (gB G) (gA G)) 0 0 (gA G) := by
  refine gMet (by decide +kernel) (show _ = Cond.code yX8_areBelow cX8_areBelow 3 (some (Jvm.ClassFile.FieldType.boolean)) from rfl) hg (Nat.le_of_ble_eq_true rfl) [(0, .ref (gAD G 79))] rfl ?_
  intro p e s m args below meth c C hr h
  have h : (∃ n1, wX8_areBelow_4 Q n1 (1 : Int32) (0 : Int32) M) := h
  refine wl_iconst (v := 1) C dX8_areBelow_0 (by decide) ?_
  refine wl_istore_n (i := 1) (lv' := [(1, .int (1 : Int32)), (0, .ref (gAD G 79))]) C dX8_areBelow_1 rfl (by decide) rfl ?_
  refine wl_iconst (v := 0) C dX8_areBelow_2 (by decide) ?_
  refine wl_istore_n (i := 2) (lv' := [(2, .int (0 : Int32)), (1, .int (1 : Int32)), (0, .ref (gAD G 79))]) C dX8_areBelow_3 rfl (by decide) rfl ?_
  refine wl_sub [2, 1, 0] rfl ?_
  obtain ⟨n1, h⟩ := h
  exact kX8_areBelow_4 l G hg hB C hr n1 (1 : Int32) (0 : Int32) M h
set_option maxRecDepth 100000 in
set_option maxHeartbeats 4000000 in
theorem kX8_cut_48 (l : Launch) (G : gP) (hg : gIn G) (hB : gRf G) (x1 : Nat) (x2 : Int32) (hk1 : kd x1 = 10) {p : Program} {e : Env} {s : State} {m : MethodId} {args : Array Value} {below : List Frame} {meth : Method} {c : Code} (C : Cx p s m args meth c G (gA G) cX8_cut 6 RX8) (hr : meth.sig.returnType = none) {Q : Mem → Prop} : ∀ (n : Nat) (v3 : Int32) (v5 : Int32) (M : Mem), wX8_cut_48 x1 x2 Q n v3 v5 M → Wl p l e rmX8_cut s m args below meth c (MQ below (va_Qv Q (gB G) (gA G)) args s 0 0 (gA G)) G (gA G) 6 0 0 M 48 [(0, .ref (gAD G 79)), (1, .ref (gAD G x1)), (2, .int x2), (3, .int v3), (5, .int v5)] [] := by
  intro n
  induction n with
  | zero => intro v3 v5 M h; exact h.elim
  | succ n ih =>
    intro v3 v5 M h
    have h : ((v3 ≤ v5 → Q M) ∧ (¬ v3 ≤ v5 → (vp_in v5 (ln 97) ∧ (vp_in (x2 + v5) (ln x1) ∧ wX8_cut_48 x1 x2 Q n v3 (v5 + (1 : Int32)) (mu M x1 (x2 + v5).toNatClampNeg (M 97 v5.toNatClampNeg)))))) := h
    refine wl_iload C dX8_cut_48 4 rfl ?_
    refine wl_iload_n C dX8_cut_50 3 rfl ?_
    refine wl_icmp_ge C (tgt := 73) dX8_cut_51 (by decide) (fun hc => ?_) (fun hc => ?_)
    · have h := h.1 hc
      exact wl_vret C hr h dX8_cut_73
    · have h := h.2 hc
      refine wl_aload_n C dX8_cut_54 1 rfl ?_
      refine wl_iload_n C dX8_cut_55 2 rfl ?_
      refine wl_iload C dX8_cut_56 4 rfl ?_
      refine wl_iadd C dX8_cut_58 ?_
      refine wl_aload_n C dX8_cut_59 0 rfl ?_
      refine gf_8_21 C kq_79 (gir_8 hB kq_79) tw_614 dX8_cut_60 ?_
      refine wl_iload C dX8_cut_63 4 rfl ?_
      refine ga_ld10 C kq_97 (gir_10 hB kq_97) h.1 dX8_cut_65 ?_
      have h := h.2
      refine ga_st10 C hk1 (gir_10 hB hk1) h.1 dX8_cut_66 ?_
      have h := h.2
      refine wl_iinc (v := (v5 + (1 : Int32))) (lv' := [(5, .int (v5 + (1 : Int32))), (0, .ref (gAD G 79)), (1, .ref (gAD G x1)), (2, .int x2), (3, .int v3)]) C dX8_cut_67 4 rfl (by rfl) (by decide) rfl ?_
      refine wl_goto C (tgt := 48) dX8_cut_70 (by decide) ?_
      refine wl_sub [1, 2, 3, 4, 0] rfl ?_
      exact ih v3 (v5 + (1 : Int32)) (mu M x1 (x2 + v5).toNatClampNeg (M 97 v5.toNatClampNeg)) h
set_option maxRecDepth 100000 in
set_option maxHeartbeats 4000000 in
theorem kX8_cut_15 (l : Launch) (G : gP) (hg : gIn G) (hB : gRf G) (x1 : Nat) (x2 : Int32) (hk1 : kd x1 = 10) {p : Program} {e : Env} {s : State} {m : MethodId} {args : Array Value} {below : List Frame} {meth : Method} {c : Code} (C : Cx p s m args meth c G (gA G) cX8_cut 6 RX8) (hr : meth.sig.returnType = none) {Q : Mem → Prop} : ∀ (n : Nat) (v3 : Int32) (v4 : Int32) (v5 : Int32) (M : Mem), wX8_cut_15 x1 x2 Q n v3 v4 v5 M → Wl p l e rmX8_cut s m args below meth c (MQ below (va_Qv Q (gB G) (gA G)) args s 0 0 (gA G)) G (gA G) 6 0 0 M 15 [(0, .ref (gAD G 79)), (1, .ref (gAD G x1)), (2, .int x2), (3, .int v3), (4, .int v4), (5, .int v5)] [] := by
  intro n
  induction n with
  | zero => intro v3 v4 v5 M h; exact h.elim
  | succ n ih =>
    intro v3 v4 v5 M h
    have h : ((v3 ≤ v5 → (∃ n2, wX8_cut_48 x1 x2 Q n2 v3 (0 : Int32) M)) ∧ (¬ v3 ≤ v5 → (¬ v3 = 0 ∧ (vp_in (x2 + ((v5 + v4) - ((v5 + v4) / v3) * v3)) (ln x1) ∧ (vp_in v5 (ln 97) ∧ wX8_cut_15 x1 x2 Q n v3 v4 (v5 + (1 : Int32)) (mu M 97 v5.toNatClampNeg (M x1 (x2 + ((v5 + v4) - ((v5 + v4) / v3) * v3)).toNatClampNeg))))))) := h
    refine wl_iload C dX8_cut_15 5 rfl ?_
    refine wl_iload_n C dX8_cut_17 3 rfl ?_
    refine wl_icmp_ge C (tgt := 45) dX8_cut_18 (by decide) (fun hc => ?_) (fun hc => ?_)
    · have h := h.1 hc
      refine wl_iconst (v := 0) C dX8_cut_45 (by decide) ?_
      refine wl_istore (i := 5) (lv' := [(5, .int (0 : Int32)), (0, .ref (gAD G 79)), (1, .ref (gAD G x1)), (2, .int x2), (3, .int v3), (4, .int v4)]) C dX8_cut_46 (by decide) rfl ?_
      refine wl_sub [1, 2, 3, 4, 0] rfl ?_
      obtain ⟨n2, h⟩ := h
      exact kX8_cut_48 l G hg hB x1 x2 hk1 C hr n2 v3 (0 : Int32) M h
    · have h := h.2 hc
      refine wl_aload_n C dX8_cut_21 0 rfl ?_
      refine gf_8_21 C kq_79 (gir_8 hB kq_79) tw_614 dX8_cut_22 ?_
      refine wl_iload C dX8_cut_25 5 rfl ?_
      refine wl_aload_n C dX8_cut_27 1 rfl ?_
      refine wl_iload_n C dX8_cut_28 2 rfl ?_
      refine wl_iload C dX8_cut_29 5 rfl ?_
      refine wl_iload C dX8_cut_31 4 rfl ?_
      refine wl_iadd C dX8_cut_33 ?_
      refine wl_iload_n C dX8_cut_34 3 rfl ?_
      refine wl_irem C dX8_cut_35 h.1 ?_
      have h := h.2
      refine wl_iadd C dX8_cut_36 ?_
      refine ga_ld10 C hk1 (gir_10 hB hk1) h.1 dX8_cut_37 ?_
      have h := h.2
      refine ga_st10 C kq_97 (gir_10 hB kq_97) h.1 dX8_cut_38 ?_
      have h := h.2
      refine wl_iinc (v := (v5 + (1 : Int32))) (lv' := [(5, .int (v5 + (1 : Int32))), (0, .ref (gAD G 79)), (1, .ref (gAD G x1)), (2, .int x2), (3, .int v3), (4, .int v4)]) C dX8_cut_39 5 rfl (by rfl) (by decide) rfl ?_
      refine wl_goto C (tgt := 15) dX8_cut_42 (by decide) ?_
      refine wl_sub [1, 2, 3, 4, 5, 0] rfl ?_
      exact ih v3 v4 (v5 + (1 : Int32)) (mu M 97 v5.toNatClampNeg (M x1 (x2 + ((v5 + v4) - ((v5 + v4) / v3) * v3)).toNatClampNeg)) h
set_option maxRecDepth 100000 in
set_option maxHeartbeats 4000000 in
theorem cX8_cut_M (l : Launch) (G : gP) (hg : gIn G) (hB : gRf G) (x1 : Nat) (x2 : Int32) (hk1 : kd x1 = 10) (M : Mem) (Q : Mem → Prop) : Met l yX8_cut (Cond.code yX8_cut cX8_cut 6 none :: TB) rmX8_cut (va_Pc [.ref (gAD G 79), .ref (gAD G x1), .int x2] (fun U => gS G M U ∧ wX8_cut x1 x2 M Q)) (va_Qv Q (gB G) (gA G)) 0 0 (gA G) := by
  refine gMet (by decide +kernel) (show _ = Cond.code yX8_cut cX8_cut 6 none from rfl) hg (Nat.le_of_ble_eq_true rfl) [(0, .ref (gAD G 79)), (1, .ref (gAD G x1)), (2, .int x2)] rfl ?_
  intro p e s m args below meth c C hr h
  have h : (vp_in (0 : Int32) (ln 81) ∧ (¬ (2 : Int32) = 0 ∧ (∃ n1, wX8_cut_15 x1 x2 Q n1 (M 81 (0 : Int32).toNatClampNeg) ((M 81 (0 : Int32).toNatClampNeg) / (2 : Int32)) (0 : Int32) M))) := h
  refine wl_aload_n C dX8_cut_0 0 rfl ?_
  refine gf_8_2 C kq_79 (gir_8 hB kq_79) tw_595 dX8_cut_1 ?_
  refine wl_iconst (v := 0) C dX8_cut_4 (by decide) ?_
  refine ga_ld10 C kq_81 (gir_10 hB kq_81) h.1 dX8_cut_5 ?_
  have h := h.2
  refine wl_istore_n (i := 3) (lv' := [(3, .int (M 81 (0 : Int32).toNatClampNeg)), (0, .ref (gAD G 79)), (1, .ref (gAD G x1)), (2, .int x2)]) C dX8_cut_6 rfl (by decide) rfl ?_
  refine wl_iload_n C dX8_cut_7 0 rfl ?_
  refine wl_iconst (v := 2) C dX8_cut_8 (by decide) ?_
  refine wl_idiv C dX8_cut_9 h.1 ?_
  have h := h.2
  refine wl_istore (i := 4) (lv' := [(4, .int ((M 81 (0 : Int32).toNatClampNeg) / (2 : Int32))), (3, .int (M 81 (0 : Int32).toNatClampNeg)), (0, .ref (gAD G 79)), (1, .ref (gAD G x1)), (2, .int x2)]) C dX8_cut_10 (by decide) rfl ?_
  refine wl_iconst (v := 0) C dX8_cut_12 (by decide) ?_
  refine wl_istore (i := 5) (lv' := [(5, .int (0 : Int32)), (4, .int ((M 81 (0 : Int32).toNatClampNeg) / (2 : Int32))), (3, .int (M 81 (0 : Int32).toNatClampNeg)), (0, .ref (gAD G 79)), (1, .ref (gAD G x1)), (2, .int x2)]) C dX8_cut_13 (by decide) rfl ?_
  refine wl_sub [3, 4, 5, 2, 1, 0] rfl ?_
  obtain ⟨n1, h⟩ := h
  exact kX8_cut_15 l G hg hB x1 x2 hk1 C hr n1 (M 81 (0 : Int32).toNatClampNeg) ((M 81 (0 : Int32).toNatClampNeg) / (2 : Int32)) (0 : Int32) M h
set_option maxRecDepth 100000 in
set_option maxHeartbeats 4000000 in
theorem kX8_layBelow_8 (l : Launch) (G : gP) (hg : gIn G) (hB : gRf G) (x1 : Nat) (x2 : Int32) (x3 : Int32) (hk1 : kd x1 = 10) {p : Program} {e : Env} {s : State} {m : MethodId} {args : Array Value} {below : List Frame} {meth : Method} {c : Code} (C : Cx p s m args meth c G (gA G) cX8_layBelow 6 RX8) (hr : meth.sig.returnType = none) {Q : Mem → Prop} : ∀ (n : Nat) (v4 : Int32) (v5 : Int32) (M : Mem), wX8_layBelow_8 x1 x2 x3 Q n v4 v5 M → Wl p l e rmX8_layBelow s m args below meth c (MQ below (va_Qv Q (gB G) (gA G)) args s 0 0 (gA G)) G (gA G) 6 0 0 M 8 [(1, .ref (gAD G x1)), (2, .int x2), (3, .int x3), (4, .int v4), (5, .int v5)] [] := by
  intro n
  induction n with
  | zero => intro v4 v5 M h; exact h.elim
  | succ n ih =>
    intro v4 v5 M h
    have h : ((x3 ≤ v5 → (vp_in (x2 + x3) (ln x1) ∧ Q (mu M x1 (x2 + x3).toNatClampNeg v4))) ∧ (¬ x3 ≤ v5 → (vp_in ((x2 + v5) + (1 : Int32)) (ln x1) ∧ (vp_in (x2 + v5) (ln x1) ∧ wX8_layBelow_8 x1 x2 x3 Q n v4 (v5 + (1 : Int32)) (mu M x1 (x2 + v5).toNatClampNeg (M x1 ((x2 + v5) + (1 : Int32)).toNatClampNeg)))))) := h
    refine wl_iload C dX8_layBelow_8 4 rfl ?_
    refine wl_iload_n C dX8_layBelow_10 2 rfl ?_
    refine wl_icmp_ge C (tgt := 34) dX8_layBelow_11 (by decide) (fun hc => ?_) (fun hc => ?_)
    · have h := h.1 hc
      refine wl_aload_n C dX8_layBelow_34 0 rfl ?_
      refine wl_iload_n C dX8_layBelow_35 1 rfl ?_
      refine wl_iload_n C dX8_layBelow_36 2 rfl ?_
      refine wl_iadd C dX8_layBelow_37 ?_
      refine wl_iload C dX8_layBelow_38 3 rfl ?_
      refine ga_st10 C hk1 (gir_10 hB hk1) h.1 dX8_layBelow_40 ?_
      have h := h.2
      exact wl_vret C hr h dX8_layBelow_41
    · have h := h.2 hc
      refine wl_aload_n C dX8_layBelow_14 0 rfl ?_
      refine wl_iload_n C dX8_layBelow_15 1 rfl ?_
      refine wl_iload C dX8_layBelow_16 4 rfl ?_
      refine wl_iadd C dX8_layBelow_18 ?_
      refine wl_aload_n C dX8_layBelow_19 0 rfl ?_
      refine wl_iload_n C dX8_layBelow_20 1 rfl ?_
      refine wl_iload C dX8_layBelow_21 4 rfl ?_
      refine wl_iadd C dX8_layBelow_23 ?_
      refine wl_iconst (v := 1) C dX8_layBelow_24 (by decide) ?_
      refine wl_iadd C dX8_layBelow_25 ?_
      refine ga_ld10 C hk1 (gir_10 hB hk1) h.1 dX8_layBelow_26 ?_
      have h := h.2
      refine ga_st10 C hk1 (gir_10 hB hk1) h.1 dX8_layBelow_27 ?_
      have h := h.2
      refine wl_iinc (v := (v5 + (1 : Int32))) (lv' := [(5, .int (v5 + (1 : Int32))), (1, .ref (gAD G x1)), (2, .int x2), (3, .int x3), (4, .int v4)]) C dX8_layBelow_28 4 rfl (by rfl) (by decide) rfl ?_
      refine wl_goto C (tgt := 8) dX8_layBelow_31 (by decide) ?_
      refine wl_sub [1, 2, 3, 4, 0] rfl ?_
      exact ih v4 (v5 + (1 : Int32)) (mu M x1 (x2 + v5).toNatClampNeg (M x1 ((x2 + v5) + (1 : Int32)).toNatClampNeg)) h
set_option maxRecDepth 100000 in
set_option maxHeartbeats 4000000 in
theorem cX8_layBelow_M (l : Launch) (G : gP) (hg : gIn G) (hB : gRf G) (x1 : Nat) (x2 : Int32) (x3 : Int32) (hk1 : kd x1 = 10) (M : Mem) (Q : Mem → Prop) : Met l yX8_layBelow (Cond.code yX8_layBelow cX8_layBelow 6 none :: TB) rmX8_layBelow (va_Pc [.ref (gAD G 79), .ref (gAD G x1), .int x2, .int x3] (fun U => gS G M U ∧ wX8_layBelow x1 x2 x3 M Q)) (va_Qv Q (gB G) (gA G)) 0 0 (gA G) := by
  refine gMet (by decide +kernel) (show _ = Cond.code yX8_layBelow cX8_layBelow 6 none from rfl) hg (Nat.le_of_ble_eq_true rfl) [(0, .ref (gAD G 79)), (1, .ref (gAD G x1)), (2, .int x2), (3, .int x3)] rfl ?_
  intro p e s m args below meth c C hr h
  have h : (vp_in x2 (ln x1) ∧ (∃ n1, wX8_layBelow_8 x1 x2 x3 Q n1 (M x1 x2.toNatClampNeg) (0 : Int32) M)) := h
  refine wl_aload_n C dX8_layBelow_0 1 rfl ?_
  refine wl_iload_n C dX8_layBelow_1 2 rfl ?_
  refine ga_ld10 C hk1 (gir_10 hB hk1) h.1 dX8_layBelow_2 ?_
  have h := h.2
  refine wl_istore (i := 4) (lv' := [(4, .int (M x1 x2.toNatClampNeg)), (0, .ref (gAD G 79)), (1, .ref (gAD G x1)), (2, .int x2), (3, .int x3)]) C dX8_layBelow_3 (by decide) rfl ?_
  refine wl_iconst (v := 0) C dX8_layBelow_5 (by decide) ?_
  refine wl_istore (i := 5) (lv' := [(5, .int (0 : Int32)), (4, .int (M x1 x2.toNatClampNeg)), (0, .ref (gAD G 79)), (1, .ref (gAD G x1)), (2, .int x2), (3, .int x3)]) C dX8_layBelow_6 (by decide) rfl ?_
  refine wl_sub [3, 4, 5, 1, 0] rfl ?_
  obtain ⟨n1, h⟩ := h
  exact kX8_layBelow_8 l G hg hB x1 x2 x3 hk1 C hr n1 (M x1 x2.toNatClampNeg) (0 : Int32) M h
set_option maxRecDepth 100000 in
set_option maxHeartbeats 4000000 in
theorem kX8_goRead_69 (l : Launch) (G : gP) (hg : gIn G) (hB : gRf G) (x1 : Nat) (x2 : Int32) (x3 : Int32) (x4 : Int32) (x5 : Int32) (hk1 : kd x1 = 10) {p : Program} {e : Env} {s : State} {m : MethodId} {args : Array Value} {below : List Frame} {meth : Method} {c : Code} (C : Cx p s m args meth c G (gA G) cX8_goRead 8 RX8) (hr : meth.sig.returnType = none) {Q : Mem → Prop} (M : Mem) (h : wX8_goRead_69 x1 x2 x3 x4 x5 Q M) : Wl p l e rmX8_goRead s m args below meth c (MQ below (va_Qv Q (gB G) (gA G)) args s 0 0 (gA G)) G (gA G) 8 0 0 M 69 [] [] := by
  have h : Q M := h
  exact wl_vret C hr h dX8_goRead_69
set_option maxRecDepth 100000 in
set_option maxHeartbeats 4000000 in
theorem kX8_goRead_66 (l : Launch) (G : gP) (hg : gIn G) (hB : gRf G) (x1 : Nat) (x2 : Int32) (x3 : Int32) (x4 : Int32) (x5 : Int32) (hk1 : kd x1 = 10) {p : Program} {e : Env} {s : State} {m : MethodId} {args : Array Value} {below : List Frame} {meth : Method} {c : Code} (C : Cx p s m args meth c G (gA G) cX8_goRead 8 RX8) (hr : meth.sig.returnType = none) {Q : Mem → Prop} (s0 : Int32) (s1 : Int32) (M : Mem) (h : wX8_goRead_66 x1 x2 x3 x4 x5 Q s0 s1 M) : Wl p l e rmX8_goRead s m args below meth c (MQ below (va_Qv Q (gB G) (gA G)) args s 0 0 (gA G)) G (gA G) 8 0 0 M 66 [] [.int s0, .int s1, .ref (gAD G x1), .ref (gAD G 79)] := by
  have h : (wX8_layBelow x1 s1 s0 M (fun M2 => wX8_goRead_69 x1 x2 x3 x4 x5 Q M2)) := h
  refine wl_callVv C (cX8_layBelow_M l G hg hB x1 s1 s0 hk1 M _) h cw_RX8_151 hd_X8_layBelow ⟨rfl, rfl⟩ ⟨by decide, by decide⟩ (gir_8 hB kq_79) (gc_k kq_79) rfl (As := [.ref (gAD G x1), .int s1, .int s0]) (rest := []) rfl (Nat.le_of_ble_eq_true rfl) ⟨Nat.zero_le _, Nat.zero_le _⟩ rfl dX8_goRead_66 (fun M2 h => ?_)
  refine wl_sub [] rfl ?_
  exact kX8_goRead_69 l G hg hB x1 x2 x3 x4 x5 hk1 C hr M2 h
set_option maxRecDepth 100000 in
set_option maxHeartbeats 4000000 in
theorem kX8_goRead_59 (l : Launch) (G : gP) (hg : gIn G) (hB : gRf G) (x1 : Nat) (x2 : Int32) (x3 : Int32) (x4 : Int32) (x5 : Int32) (hk1 : kd x1 = 10) {p : Program} {e : Env} {s : State} {m : MethodId} {args : Array Value} {below : List Frame} {meth : Method} {c : Code} (C : Cx p s m args meth c G (gA G) cX8_goRead 8 RX8) (hr : meth.sig.returnType = none) {Q : Mem → Prop} (v7 : Int32) (s0 : Int32) (M : Mem) (h : wX8_goRead_59 x1 x2 x3 x4 x5 Q v7 s0 M) : Wl p l e rmX8_goRead s m args below meth c (MQ below (va_Qv Q (gB G) (gA G)) args s 0 0 (gA G)) G (gA G) 8 0 0 M 59 [(7, .int v7)] [.int s0, .ref (gAD G x1), .ref (gAD G 79)] := by
  have h : wX8_goRead_66 x1 x2 x3 x4 x5 Q v7 s0 M := h
  refine wl_iload C dX8_goRead_59 0 rfl ?_
  refine wl_goto C (tgt := 66) dX8_goRead_61 (by decide) ?_
  refine wl_sub [] rfl ?_
  exact kX8_goRead_66 l G hg hB x1 x2 x3 x4 x5 hk1 C hr v7 s0 M h
set_option maxRecDepth 100000 in
set_option maxHeartbeats 4000000 in
theorem kX8_goRead_64 (l : Launch) (G : gP) (hg : gIn G) (hB : gRf G) (x1 : Nat) (x2 : Int32) (x3 : Int32) (x4 : Int32) (x5 : Int32) (hk1 : kd x1 = 10) {p : Program} {e : Env} {s : State} {m : MethodId} {args : Array Value} {below : List Frame} {meth : Method} {c : Code} (C : Cx p s m args meth c G (gA G) cX8_goRead 8 RX8) (hr : meth.sig.returnType = none) {Q : Mem → Prop} (v6 : Int32) (s0 : Int32) (M : Mem) (h : wX8_goRead_64 x1 x2 x3 x4 x5 Q v6 s0 M) : Wl p l e rmX8_goRead s m args below meth c (MQ below (va_Qv Q (gB G) (gA G)) args s 0 0 (gA G)) G (gA G) 8 0 0 M 64 [(6, .int v6)] [.int s0, .ref (gAD G x1), .ref (gAD G 79)] := by
  have h : wX8_goRead_66 x1 x2 x3 x4 x5 Q v6 s0 M := h
  refine wl_iload C dX8_goRead_64 0 rfl ?_
  refine wl_sub [] rfl ?_
  exact kX8_goRead_66 l G hg hB x1 x2 x3 x4 x5 hk1 C hr v6 s0 M h
set_option maxRecDepth 100000 in
set_option maxHeartbeats 4000000 in
theorem kX8_goRead_24 (l : Launch) (G : gP) (hg : gIn G) (hB : gRf G) (x1 : Nat) (x2 : Int32) (x3 : Int32) (x4 : Int32) (x5 : Int32) (hk1 : kd x1 = 10) {p : Program} {e : Env} {s : State} {m : MethodId} {args : Array Value} {below : List Frame} {meth : Method} {c : Code} (C : Cx p s m args meth c G (gA G) cX8_goRead 8 RX8) (hr : meth.sig.returnType = none) {Q : Mem → Prop} (v6 : Int32) (s0 : Int32) (M : Mem) (h : wX8_goRead_24 x1 x2 x3 x4 x5 Q v6 s0 M) : Wl p l e rmX8_goRead s m args below meth c (MQ below (va_Qv Q (gB G) (gA G)) args s 0 0 (gA G)) G (gA G) 8 0 0 M 24 [(0, .ref (gAD G 79)), (1, .ref (gAD G x1)), (2, .int x2), (3, .int x3), (5, .int x5), (6, .int v6)] [.int s0] := by
  have h : ((¬ x3 = (3 : Int32) → ((x3 = 0 → wX8_goRead_59 x1 x2 x3 x4 x5 Q s0 x2 M) ∧ (¬ x3 = 0 → ((¬ x3 = (2 : Int32) → wX8_goRead_64 x1 x2 x3 x4 x5 Q v6 x2 M) ∧ (x3 = (2 : Int32) → (¬ (2 : Int32) = 0 ∧ ((¬ (x5 - (x5 / (2 : Int32)) * (2 : Int32)) = 0 → wX8_goRead_64 x1 x2 x3 x4 x5 Q v6 x2 M) ∧ ((x5 - (x5 / (2 : Int32)) * (2 : Int32)) = 0 → wX8_goRead_59 x1 x2 x3 x4 x5 Q s0 x2 M)))))))) ∧ (x3 = (3 : Int32) → (wX8_cut x1 x2 M (fun M1 => wX8_goRead_69 x1 x2 x3 x4 x5 Q M1)))) := h
  refine wl_istore (i := 7) (lv' := [(7, .int s0), (0, .ref (gAD G 79)), (1, .ref (gAD G x1)), (2, .int x2), (3, .int x3), (5, .int x5), (6, .int v6)]) C dX8_goRead_24 (by decide) rfl ?_
  refine wl_iload_n C dX8_goRead_26 4 rfl ?_
  refine wl_iconst (v := 3) C dX8_goRead_27 (by decide) ?_
  refine wl_icmp_ne C (tgt := 40) dX8_goRead_28 (by decide) (fun hc => ?_) (fun hc => ?_)
  · have h := h.1 hc
    refine wl_aload_n C dX8_goRead_40 1 rfl ?_
    refine wl_aload_n C dX8_goRead_41 2 rfl ?_
    refine wl_iload_n C dX8_goRead_42 3 rfl ?_
    refine wl_iload_n C dX8_goRead_43 4 rfl ?_
    refine wl_if_eq C (tgt := 59) dX8_goRead_44 (by decide) (fun hc => ?_) (fun hc => ?_)
    · have h := h.1 hc
      refine wl_sub [0] rfl ?_
      exact kX8_goRead_59 l G hg hB x1 x2 x3 x4 x5 hk1 C hr s0 x2 M h
    · have h := h.2 hc
      refine wl_iload_n C dX8_goRead_47 4 rfl ?_
      refine wl_iconst (v := 2) C dX8_goRead_48 (by decide) ?_
      refine wl_icmp_ne C (tgt := 64) dX8_goRead_49 (by decide) (fun hc => ?_) (fun hc => ?_)
      · have h := h.1 hc
        refine wl_sub [6] rfl ?_
        exact kX8_goRead_64 l G hg hB x1 x2 x3 x4 x5 hk1 C hr v6 x2 M h
      · have h := h.2 hc
        refine wl_iload C dX8_goRead_52 5 rfl ?_
        refine wl_iconst (v := 2) C dX8_goRead_54 (by decide) ?_
        refine wl_irem C dX8_goRead_55 h.1 ?_
        have h := h.2
        refine wl_if_ne C (tgt := 64) dX8_goRead_56 (by decide) (fun hc => ?_) (fun hc => ?_)
        · have h := h.1 hc
          refine wl_sub [6] rfl ?_
          exact kX8_goRead_64 l G hg hB x1 x2 x3 x4 x5 hk1 C hr v6 x2 M h
        · have h := h.2 hc
          refine wl_sub [0] rfl ?_
          exact kX8_goRead_59 l G hg hB x1 x2 x3 x4 x5 hk1 C hr s0 x2 M h
  · have h := h.2 hc
    refine wl_aload_n C dX8_goRead_31 1 rfl ?_
    refine wl_aload_n C dX8_goRead_32 2 rfl ?_
    refine wl_iload_n C dX8_goRead_33 3 rfl ?_
    refine wl_callVv C (cX8_cut_M l G hg hB x1 x2 hk1 M _) h cw_RX8_147 hd_X8_cut ⟨rfl, rfl⟩ ⟨by decide, by decide⟩ (gir_8 hB kq_79) (gc_k kq_79) rfl (As := [.ref (gAD G x1), .int x2]) (rest := []) rfl (Nat.le_of_ble_eq_true rfl) ⟨Nat.zero_le _, Nat.zero_le _⟩ rfl dX8_goRead_34 (fun M1 h => ?_)
    refine wl_goto C (tgt := 69) dX8_goRead_37 (by decide) ?_
    refine wl_sub [] rfl ?_
    exact kX8_goRead_69 l G hg hB x1 x2 x3 x4 x5 hk1 C hr M1 h
set_option maxRecDepth 100000 in
set_option maxHeartbeats 4000000 in
theorem cX8_goRead_M (l : Launch) (G : gP) (hg : gIn G) (hB : gRf G) (x1 : Nat) (x2 : Int32) (x3 : Int32) (x4 : Int32) (x5 : Int32) (hk1 : kd x1 = 10) (M : Mem) (Q : Mem → Prop) : Met l yX8_goRead (Cond.code yX8_goRead cX8_goRead 8 none :: TB) rmX8_goRead (va_Pc [.ref (gAD G 79), .ref (gAD G x1), .int x2, .int x3, .int x4, .int x5] (fun U => gS G M U ∧ wX8_goRead x1 x2 x3 x4 x5 M Q)) (va_Qv Q (gB G) (gA G)) 0 0 (gA G) := by
  refine gMet (by decide +kernel) (show _ = Cond.code yX8_goRead cX8_goRead 8 none from rfl) hg (Nat.le_of_ble_eq_true rfl) [(0, .ref (gAD G 79)), (1, .ref (gAD G x1)), (2, .int x2), (3, .int x3), (4, .int x4), (5, .int x5)] rfl ?_
  intro p e s m args below meth c C hr h
  have h : (vp_in (0 : Int32) (ln 81) ∧ ((((M 81 (0 : Int32).toNatClampNeg) - (1 : Int32)) ≤ x4 → wX8_goRead_24 x1 x2 x3 x4 x5 Q ((M 81 (0 : Int32).toNatClampNeg) - (1 : Int32)) ((M 81 (0 : Int32).toNatClampNeg) - (1 : Int32)) M) ∧ (¬ ((M 81 (0 : Int32).toNatClampNeg) - (1 : Int32)) ≤ x4 → wX8_goRead_24 x1 x2 x3 x4 x5 Q ((M 81 (0 : Int32).toNatClampNeg) - (1 : Int32)) x4 M))) := h
  refine wl_aload_n C dX8_goRead_0 0 rfl ?_
  refine gf_8_2 C kq_79 (gir_8 hB kq_79) tw_595 dX8_goRead_1 ?_
  refine wl_iconst (v := 0) C dX8_goRead_4 (by decide) ?_
  refine ga_ld10 C kq_81 (gir_10 hB kq_81) h.1 dX8_goRead_5 ?_
  have h := h.2
  refine wl_iconst (v := 1) C dX8_goRead_6 (by decide) ?_
  refine wl_isub C dX8_goRead_7 ?_
  refine wl_istore (i := 6) (lv' := [(6, .int ((M 81 (0 : Int32).toNatClampNeg) - (1 : Int32))), (0, .ref (gAD G 79)), (1, .ref (gAD G x1)), (2, .int x2), (3, .int x3), (4, .int x4), (5, .int x5)]) C dX8_goRead_8 (by decide) rfl ?_
  refine wl_iload C dX8_goRead_10 5 rfl ?_
  refine wl_iload C dX8_goRead_12 0 rfl ?_
  refine wl_icmp_ge C (tgt := 22) dX8_goRead_14 (by decide) (fun hc => ?_) (fun hc => ?_)
  · have h := h.1 hc
    refine wl_iload C dX8_goRead_22 0 rfl ?_
    refine wl_sub [1, 2, 3, 4, 6, 0] rfl ?_
    exact kX8_goRead_24 l G hg hB x1 x2 x3 x4 x5 hk1 C hr ((M 81 (0 : Int32).toNatClampNeg) - (1 : Int32)) ((M 81 (0 : Int32).toNatClampNeg) - (1 : Int32)) M h
  · have h := h.2 hc
    refine wl_iload C dX8_goRead_17 5 rfl ?_
    refine wl_goto C (tgt := 24) dX8_goRead_19 (by decide) ?_
    refine wl_sub [1, 2, 3, 4, 6, 0] rfl ?_
    exact kX8_goRead_24 l G hg hB x1 x2 x3 x4 x5 hk1 C hr ((M 81 (0 : Int32).toNatClampNeg) - (1 : Int32)) x4 M h
set_option maxRecDepth 100000 in
set_option maxHeartbeats 4000000 in
theorem kX8_layOne_23 (l : Launch) (G : gP) (hg : gIn G) (hB : gRf G) {p : Program} {e : Env} {s : State} {m : MethodId} {args : Array Value} {below : List Frame} {meth : Method} {c : Code} (C : Cx p s m args meth c G (gA G) cX8_layOne 2 RX8) (hr : meth.sig.returnType = none) {Q : Mem → Prop} : ∀ (n : Nat) (v1 : Int32) (M : Mem), wX8_layOne_23 Q n v1 M → Wl p l e rmX8_layOne s m args below meth c (MQ below (va_Qv Q (gB G) (gA G)) args s 0 0 (gA G)) G (gA G) 2 0 0 M 23 [(0, .ref (gAD G 79)), (1, .int v1)] [] := by
  intro n
  induction n with
  | zero => intro v1 M h; exact h.elim
  | succ n ih =>
    intro v1 M h
    have h : (vp_in (0 : Int32) (ln 82) ∧ (((M 82 (0 : Int32).toNatClampNeg) ≤ v1 → Q M) ∧ (¬ (M 82 (0 : Int32).toNatClampNeg) ≤ v1 → (vp_in (0 : Int32) (ln 99) ∧ (vp_in v1 (ln 98) ∧ (vp_in (0 : Int32) (ln 83) ∧ (vp_in (0 : Int32) (ln 84) ∧ (wX8_goRead 99 (0 : Int32) ((mu M 98 v1.toNatClampNeg (M 99 (0 : Int32).toNatClampNeg)) 83 (0 : Int32).toNatClampNeg) ((mu M 98 v1.toNatClampNeg (M 99 (0 : Int32).toNatClampNeg)) 84 (0 : Int32).toNatClampNeg) v1 (mu M 98 v1.toNatClampNeg (M 99 (0 : Int32).toNatClampNeg)) (fun M3 => wX8_layOne_23 Q n (v1 + (1 : Int32)) M3))))))))) := h
    refine wl_iload_n C dX8_layOne_23 1 rfl ?_
    refine wl_aload_n C dX8_layOne_24 0 rfl ?_
    refine gf_8_3 C kq_79 (gir_8 hB kq_79) tw_596 dX8_layOne_25 ?_
    refine wl_iconst (v := 0) C dX8_layOne_28 (by decide) ?_
    refine ga_ld10 C kq_82 (gir_10 hB kq_82) h.1 dX8_layOne_29 ?_
    have h := h.2
    refine wl_icmp_ge C (tgt := 73) dX8_layOne_30 (by decide) (fun hc => ?_) (fun hc => ?_)
    · have h := h.1 hc
      exact wl_vret C hr h dX8_layOne_73
    · have h := h.2 hc
      refine wl_aload_n C dX8_layOne_33 0 rfl ?_
      refine gf_8_22 C kq_79 (gir_8 hB kq_79) tw_615 dX8_layOne_34 ?_
      refine wl_iload_n C dX8_layOne_37 1 rfl ?_
      refine wl_aload_n C dX8_layOne_38 0 rfl ?_
      refine gf_8_23 C kq_79 (gir_8 hB kq_79) tw_616 dX8_layOne_39 ?_
      refine wl_iconst (v := 0) C dX8_layOne_42 (by decide) ?_
      refine ga_ld10 C kq_99 (gir_10 hB kq_99) h.1 dX8_layOne_43 ?_
      have h := h.2
      refine ga_st10 C kq_98 (gir_10 hB kq_98) h.1 dX8_layOne_44 ?_
      have h := h.2
      refine wl_aload_n C dX8_layOne_45 0 rfl ?_
      refine wl_aload_n C dX8_layOne_46 0 rfl ?_
      refine gf_8_23 C kq_79 (gir_8 hB kq_79) tw_616 dX8_layOne_47 ?_
      refine wl_iconst (v := 0) C dX8_layOne_50 (by decide) ?_
      refine wl_aload_n C dX8_layOne_51 0 rfl ?_
      refine gf_8_4 C kq_79 (gir_8 hB kq_79) tw_597 dX8_layOne_52 ?_
      refine wl_iconst (v := 0) C dX8_layOne_55 (by decide) ?_
      refine ga_ld10 C kq_83 (gir_10 hB kq_83) h.1 dX8_layOne_56 ?_
      have h := h.2
      refine wl_aload_n C dX8_layOne_57 0 rfl ?_
      refine gf_8_5 C kq_79 (gir_8 hB kq_79) tw_598 dX8_layOne_58 ?_
      refine wl_iconst (v := 0) C dX8_layOne_61 (by decide) ?_
      refine ga_ld10 C kq_84 (gir_10 hB kq_84) h.1 dX8_layOne_62 ?_
      have h := h.2
      refine wl_iload_n C dX8_layOne_63 1 rfl ?_
      refine wl_callVv C (cX8_goRead_M l G hg hB 99 (0 : Int32) ((mu M 98 v1.toNatClampNeg (M 99 (0 : Int32).toNatClampNeg)) 83 (0 : Int32).toNatClampNeg) ((mu M 98 v1.toNatClampNeg (M 99 (0 : Int32).toNatClampNeg)) 84 (0 : Int32).toNatClampNeg) v1 kq_99 (mu M 98 v1.toNatClampNeg (M 99 (0 : Int32).toNatClampNeg)) _) h cw_RX8_158 hd_X8_goRead ⟨rfl, rfl⟩ ⟨by decide, by decide⟩ (gir_8 hB kq_79) (gc_k kq_79) rfl (As := [.ref (gAD G 99), .int (0 : Int32), .int ((mu M 98 v1.toNatClampNeg (M 99 (0 : Int32).toNatClampNeg)) 83 (0 : Int32).toNatClampNeg), .int ((mu M 98 v1.toNatClampNeg (M 99 (0 : Int32).toNatClampNeg)) 84 (0 : Int32).toNatClampNeg), .int v1]) (rest := []) rfl (Nat.le_of_ble_eq_true rfl) ⟨Nat.zero_le _, Nat.zero_le _⟩ rfl dX8_layOne_64 (fun M3 h => ?_)
      refine wl_iinc (v := (v1 + (1 : Int32))) (lv' := [(1, .int (v1 + (1 : Int32))), (0, .ref (gAD G 79))]) C dX8_layOne_67 1 rfl (by rfl) (by decide) rfl ?_
      refine wl_goto C (tgt := 23) dX8_layOne_70 (by decide) ?_
      refine wl_sub [1, 0] rfl ?_
      exact ih (v1 + (1 : Int32)) M3 h
set_option maxRecDepth 100000 in
set_option maxHeartbeats 4000000 in
theorem kX8_layOne_2 (l : Launch) (G : gP) (hg : gIn G) (hB : gRf G) {p : Program} {e : Env} {s : State} {m : MethodId} {args : Array Value} {below : List Frame} {meth : Method} {c : Code} (C : Cx p s m args meth c G (gA G) cX8_layOne 2 RX8) (hr : meth.sig.returnType = none) {Q : Mem → Prop} : ∀ (n : Nat) (v1 : Int32) (M : Mem), wX8_layOne_2 Q n v1 M → Wl p l e rmX8_layOne s m args below meth c (MQ below (va_Qv Q (gB G) (gA G)) args s 0 0 (gA G)) G (gA G) 2 0 0 M 2 [(0, .ref (gAD G 79)), (1, .int v1)] [] := by
  intro n
  induction n with
  | zero => intro v1 M h; exact h.elim
  | succ n ih =>
    intro v1 M h
    have h : (((40 : Int32) ≤ v1 → (∃ n2, wX8_layOne_23 Q n2 (0 : Int32) M)) ∧ (¬ (40 : Int32) ≤ v1 → (vp_in v1 (ln 99) ∧ wX8_layOne_2 Q n (v1 + (1 : Int32)) (mu M 99 v1.toNatClampNeg v1)))) := h
    refine wl_iload_n C dX8_layOne_2 1 rfl ?_
    refine wl_bipush (v := 40) C dX8_layOne_3 (by decide) ?_
    refine wl_icmp_ge C (tgt := 21) dX8_layOne_5 (by decide) (fun hc => ?_) (fun hc => ?_)
    · have h := h.1 hc
      refine wl_iconst (v := 0) C dX8_layOne_21 (by decide) ?_
      refine wl_istore_n (i := 1) (lv' := [(1, .int (0 : Int32)), (0, .ref (gAD G 79))]) C dX8_layOne_22 rfl (by decide) rfl ?_
      refine wl_sub [1, 0] rfl ?_
      obtain ⟨n2, h⟩ := h
      exact kX8_layOne_23 l G hg hB C hr n2 (0 : Int32) M h
    · have h := h.2 hc
      refine wl_aload_n C dX8_layOne_8 0 rfl ?_
      refine gf_8_23 C kq_79 (gir_8 hB kq_79) tw_616 dX8_layOne_9 ?_
      refine wl_iload_n C dX8_layOne_12 1 rfl ?_
      refine wl_iload_n C dX8_layOne_13 1 rfl ?_
      refine ga_st10 C kq_99 (gir_10 hB kq_99) h.1 dX8_layOne_14 ?_
      have h := h.2
      refine wl_iinc (v := (v1 + (1 : Int32))) (lv' := [(1, .int (v1 + (1 : Int32))), (0, .ref (gAD G 79))]) C dX8_layOne_15 1 rfl (by rfl) (by decide) rfl ?_
      refine wl_goto C (tgt := 2) dX8_layOne_18 (by decide) ?_
      refine wl_sub [1, 0] rfl ?_
      exact ih (v1 + (1 : Int32)) (mu M 99 v1.toNatClampNeg v1) h
set_option maxRecDepth 100000 in
set_option maxHeartbeats 4000000 in
theorem cX8_layOne_M (l : Launch) (G : gP) (hg : gIn G) (hB : gRf G) (M : Mem) (Q : Mem → Prop) : Met l yX8_layOne (Cond.code yX8_layOne cX8_layOne 2 none :: TB) rmX8_layOne (va_Pc [.ref (gAD G 79)] (fun U => gS G M U ∧ wX8_layOne M Q)) (va_Qv Q (gB G) (gA G)) 0 0 (gA G) := by
  refine gMet (by decide +kernel) (show _ = Cond.code yX8_layOne cX8_layOne 2 none from rfl) hg (Nat.le_of_ble_eq_true rfl) [(0, .ref (gAD G 79))] rfl ?_
  intro p e s m args below meth c C hr h
  have h : (∃ n1, wX8_layOne_2 Q n1 (0 : Int32) M) := h
  refine wl_iconst (v := 0) C dX8_layOne_0 (by decide) ?_
  refine wl_istore_n (i := 1) (lv' := [(1, .int (0 : Int32)), (0, .ref (gAD G 79))]) C dX8_layOne_1 rfl (by decide) rfl ?_
  refine wl_sub [1, 0] rfl ?_
  obtain ⟨n1, h⟩ := h
  exact kX8_layOne_2 l G hg hB C hr n1 (0 : Int32) M h
set_option maxRecDepth 100000 in
set_option maxHeartbeats 4000000 in
theorem kX8_layBook_99 (l : Launch) (G : gP) (hg : gIn G) (hB : gRf G) {p : Program} {e : Env} {s : State} {m : MethodId} {args : Array Value} {below : List Frame} {meth : Method} {c : Code} (C : Cx p s m args meth c G (gA G) cX8_layBook 3 RX8) (hr : meth.sig.returnType = none) {Q : Mem → Prop} : ∀ (n : Nat) (v1 : Int32) (M : Mem), wX8_layBook_99 Q n v1 M → Wl p l e rmX8_layBook s m args below meth c (MQ below (va_Qv Q (gB G) (gA G)) args s 0 0 (gA G)) G (gA G) 3 0 0 M 99 [(0, .ref (gAD G 79)), (1, .int v1)] [] := by
  intro n
  induction n with
  | zero => intro v1 M h; exact h.elim
  | succ n ih =>
    intro v1 M h
    have h : (((40 : Int32) ≤ v1 → (vp_in (0 : Int32) (ln 91) ∧ (vp_in (0 : Int32) (ln 92) ∧ (wX8_layOne (mu (mu (mu (mu M 91 (0 : Int32).toNatClampNeg (0 : Int32)) 92 (0 : Int32).toNatClampNeg (0 : Int32)) 79 14 (0 : Int32)) 79 15 (0 : Int32)) (fun M4 => Q M4))))) ∧ (¬ (40 : Int32) ≤ v1 → (vp_in v1 (ln 89) ∧ (vp_in v1 (ln 90) ∧ wX8_layBook_99 Q n (v1 + (1 : Int32)) (mu M 90 v1.toNatClampNeg (M 89 v1.toNatClampNeg)))))) := h
    refine wl_iload_n C dX8_layBook_99 1 rfl ?_
    refine wl_bipush (v := 40) C dX8_layBook_100 (by decide) ?_
    refine wl_icmp_ge C (tgt := 123) dX8_layBook_102 (by decide) (fun hc => ?_) (fun hc => ?_)
    · have h := h.1 hc
      refine wl_aload_n C dX8_layBook_123 0 rfl ?_
      refine gf_8_12 C kq_79 (gir_8 hB kq_79) tw_605 dX8_layBook_124 ?_
      refine wl_iconst (v := 0) C dX8_layBook_127 (by decide) ?_
      refine wl_iconst (v := 0) C dX8_layBook_128 (by decide) ?_
      refine ga_st10 C kq_91 (gir_10 hB kq_91) h.1 dX8_layBook_129 ?_
      have h := h.2
      refine wl_aload_n C dX8_layBook_130 0 rfl ?_
      refine gf_8_13 C kq_79 (gir_8 hB kq_79) tw_606 dX8_layBook_131 ?_
      refine wl_iconst (v := 0) C dX8_layBook_134 (by decide) ?_
      refine wl_iconst (v := 0) C dX8_layBook_135 (by decide) ?_
      refine ga_st10 C kq_92 (gir_10 hB kq_92) h.1 dX8_layBook_136 ?_
      have h := h.2
      refine wl_aload_n C dX8_layBook_137 0 rfl ?_
      refine wl_iconst (v := 0) C dX8_layBook_138 (by decide) ?_
      refine gp_8_14 C kq_79 (gir_8 hB kq_79) tw_607 dX8_layBook_139 ?_
      refine wl_aload_n C dX8_layBook_142 0 rfl ?_
      refine wl_iconst (v := 0) C dX8_layBook_143 (by decide) ?_
      refine gp_8_15 C kq_79 (gir_8 hB kq_79) tw_608 dX8_layBook_144 ?_
      refine wl_aload_n C dX8_layBook_147 0 rfl ?_
      refine wl_callVv C (cX8_layOne_M l G hg hB (mu (mu (mu (mu M 91 (0 : Int32).toNatClampNeg (0 : Int32)) 92 (0 : Int32).toNatClampNeg (0 : Int32)) 79 14 (0 : Int32)) 79 15 (0 : Int32)) _) h cw_RX8_141 hd_X8_layOne ⟨rfl, rfl⟩ ⟨by decide, by decide⟩ (gir_8 hB kq_79) (gc_k kq_79) rfl (As := []) (rest := []) rfl (Nat.le_of_ble_eq_true rfl) ⟨Nat.zero_le _, Nat.zero_le _⟩ rfl dX8_layBook_148 (fun M4 h => ?_)
      exact wl_vret C hr h dX8_layBook_151
    · have h := h.2 hc
      refine wl_aload_n C dX8_layBook_105 0 rfl ?_
      refine gf_8_11 C kq_79 (gir_8 hB kq_79) tw_604 dX8_layBook_106 ?_
      refine wl_iload_n C dX8_layBook_109 1 rfl ?_
      refine wl_aload_n C dX8_layBook_110 0 rfl ?_
      refine gf_8_10 C kq_79 (gir_8 hB kq_79) tw_603 dX8_layBook_111 ?_
      refine wl_iload_n C dX8_layBook_114 1 rfl ?_
      refine ga_ld10 C kq_89 (gir_10 hB kq_89) h.1 dX8_layBook_115 ?_
      have h := h.2
      refine ga_st10 C kq_90 (gir_10 hB kq_90) h.1 dX8_layBook_116 ?_
      have h := h.2
      refine wl_iinc (v := (v1 + (1 : Int32))) (lv' := [(1, .int (v1 + (1 : Int32))), (0, .ref (gAD G 79))]) C dX8_layBook_117 1 rfl (by rfl) (by decide) rfl ?_
      refine wl_goto C (tgt := 99) dX8_layBook_120 (by decide) ?_
      refine wl_sub [1, 0] rfl ?_
      exact ih (v1 + (1 : Int32)) (mu M 90 v1.toNatClampNeg (M 89 v1.toNatClampNeg)) h
set_option maxRecDepth 100000 in
set_option maxHeartbeats 4000000 in
theorem kX8_layBook_23 (l : Launch) (G : gP) (hg : gIn G) (hB : gRf G) {p : Program} {e : Env} {s : State} {m : MethodId} {args : Array Value} {below : List Frame} {meth : Method} {c : Code} (C : Cx p s m args meth c G (gA G) cX8_layBook 3 RX8) (hr : meth.sig.returnType = none) {Q : Mem → Prop} : ∀ (n : Nat) (v1 : Int32) (M : Mem), wX8_layBook_23 Q n v1 M → Wl p l e rmX8_layBook s m args below meth c (MQ below (va_Qv Q (gB G) (gA G)) args s 0 0 (gA G)) G (gA G) 3 0 0 M 23 [(0, .ref (gAD G 79)), (1, .int v1)] [] := by
  intro n
  induction n with
  | zero => intro v1 M h; exact h.elim
  | succ n ih =>
    intro v1 M h
    have h : (vp_in (0 : Int32) (ln 85) ∧ (((M 85 (0 : Int32).toNatClampNeg) ≤ v1 → (∃ n3, wX8_layBook_99 Q n3 (0 : Int32) M)) ∧ (¬ (M 85 (0 : Int32).toNatClampNeg) ≤ v1 → (vp_in ((2 : Int32) * v1) (ln 86) ∧ (vp_in (M 86 ((2 : Int32) * v1).toNatClampNeg) (ln 89) ∧ (vp_in ((2 : Int32) * v1) (ln 86) ∧ (vp_in (((2 : Int32) * v1) + (1 : Int32)) (ln 86) ∧ (vp_in (M 86 (((2 : Int32) * v1) + (1 : Int32)).toNatClampNeg) (ln 89) ∧ (vp_in (M 86 ((2 : Int32) * v1).toNatClampNeg) (ln 89) ∧ (vp_in (((2 : Int32) * v1) + (1 : Int32)) (ln 86) ∧ (vp_in ((mu M 89 (M 86 ((2 : Int32) * v1).toNatClampNeg).toNatClampNeg (M 89 (M 86 (((2 : Int32) * v1) + (1 : Int32)).toNatClampNeg).toNatClampNeg)) 86 (((2 : Int32) * v1) + (1 : Int32)).toNatClampNeg) (ln 89) ∧ wX8_layBook_23 Q n (v1 + (1 : Int32)) (mu (mu M 89 (M 86 ((2 : Int32) * v1).toNatClampNeg).toNatClampNeg (M 89 (M 86 (((2 : Int32) * v1) + (1 : Int32)).toNatClampNeg).toNatClampNeg)) 89 ((mu M 89 (M 86 ((2 : Int32) * v1).toNatClampNeg).toNatClampNeg (M 89 (M 86 (((2 : Int32) * v1) + (1 : Int32)).toNatClampNeg).toNatClampNeg)) 86 (((2 : Int32) * v1) + (1 : Int32)).toNatClampNeg).toNatClampNeg (M 89 (M 86 ((2 : Int32) * v1).toNatClampNeg).toNatClampNeg))))))))))))) := h
    refine wl_iload_n C dX8_layBook_23 1 rfl ?_
    refine wl_aload_n C dX8_layBook_24 0 rfl ?_
    refine gf_8_6 C kq_79 (gir_8 hB kq_79) tw_599 dX8_layBook_25 ?_
    refine wl_iconst (v := 0) C dX8_layBook_28 (by decide) ?_
    refine ga_ld10 C kq_85 (gir_10 hB kq_85) h.1 dX8_layBook_29 ?_
    have h := h.2
    refine wl_icmp_ge C (tgt := 97) dX8_layBook_30 (by decide) (fun hc => ?_) (fun hc => ?_)
    · have h := h.1 hc
      refine wl_iconst (v := 0) C dX8_layBook_97 (by decide) ?_
      refine wl_istore_n (i := 1) (lv' := [(1, .int (0 : Int32)), (0, .ref (gAD G 79))]) C dX8_layBook_98 rfl (by decide) rfl ?_
      refine wl_sub [1, 0] rfl ?_
      obtain ⟨n3, h⟩ := h
      exact kX8_layBook_99 l G hg hB C hr n3 (0 : Int32) M h
    · have h := h.2 hc
      refine wl_aload_n C dX8_layBook_33 0 rfl ?_
      refine gf_8_10 C kq_79 (gir_8 hB kq_79) tw_603 dX8_layBook_34 ?_
      refine wl_aload_n C dX8_layBook_37 0 rfl ?_
      refine gf_8_7 C kq_79 (gir_8 hB kq_79) tw_600 dX8_layBook_38 ?_
      refine wl_iconst (v := 2) C dX8_layBook_41 (by decide) ?_
      refine wl_iload_n C dX8_layBook_42 1 rfl ?_
      refine wl_imul C dX8_layBook_43 ?_
      refine ga_ld10 C kq_86 (gir_10 hB kq_86) h.1 dX8_layBook_44 ?_
      have h := h.2
      refine ga_ld10 C kq_89 (gir_10 hB kq_89) h.1 dX8_layBook_45 ?_
      have h := h.2
      refine wl_istore_n (i := 2) (lv' := [(2, .int (M 89 (M 86 ((2 : Int32) * v1).toNatClampNeg).toNatClampNeg)), (0, .ref (gAD G 79)), (1, .int v1)]) C dX8_layBook_46 rfl (by decide) rfl ?_
      refine wl_aload_n C dX8_layBook_47 1 rfl ?_
      refine gf_8_10 C kq_79 (gir_8 hB kq_79) tw_603 dX8_layBook_48 ?_
      refine wl_aload_n C dX8_layBook_51 1 rfl ?_
      refine gf_8_7 C kq_79 (gir_8 hB kq_79) tw_600 dX8_layBook_52 ?_
      refine wl_iconst (v := 2) C dX8_layBook_55 (by decide) ?_
      refine wl_iload_n C dX8_layBook_56 2 rfl ?_
      refine wl_imul C dX8_layBook_57 ?_
      refine ga_ld10 C kq_86 (gir_10 hB kq_86) h.1 dX8_layBook_58 ?_
      have h := h.2
      refine wl_aload_n C dX8_layBook_59 1 rfl ?_
      refine gf_8_10 C kq_79 (gir_8 hB kq_79) tw_603 dX8_layBook_60 ?_
      refine wl_aload_n C dX8_layBook_63 1 rfl ?_
      refine gf_8_7 C kq_79 (gir_8 hB kq_79) tw_600 dX8_layBook_64 ?_
      refine wl_iconst (v := 2) C dX8_layBook_67 (by decide) ?_
      refine wl_iload_n C dX8_layBook_68 2 rfl ?_
      refine wl_imul C dX8_layBook_69 ?_
      refine wl_iconst (v := 1) C dX8_layBook_70 (by decide) ?_
      refine wl_iadd C dX8_layBook_71 ?_
      refine ga_ld10 C kq_86 (gir_10 hB kq_86) h.1 dX8_layBook_72 ?_
      have h := h.2
      refine ga_ld10 C kq_89 (gir_10 hB kq_89) h.1 dX8_layBook_73 ?_
      have h := h.2
      refine ga_st10 C kq_89 (gir_10 hB kq_89) h.1 dX8_layBook_74 ?_
      have h := h.2
      refine wl_aload_n C dX8_layBook_75 1 rfl ?_
      refine gf_8_10 C kq_79 (gir_8 hB kq_79) tw_603 dX8_layBook_76 ?_
      refine wl_aload_n C dX8_layBook_79 1 rfl ?_
      refine gf_8_7 C kq_79 (gir_8 hB kq_79) tw_600 dX8_layBook_80 ?_
      refine wl_iconst (v := 2) C dX8_layBook_83 (by decide) ?_
      refine wl_iload_n C dX8_layBook_84 2 rfl ?_
      refine wl_imul C dX8_layBook_85 ?_
      refine wl_iconst (v := 1) C dX8_layBook_86 (by decide) ?_
      refine wl_iadd C dX8_layBook_87 ?_
      refine ga_ld10 C kq_86 (gir_10 hB kq_86) h.1 dX8_layBook_88 ?_
      have h := h.2
      refine wl_iload_n C dX8_layBook_89 0 rfl ?_
      refine ga_st10 C kq_89 (gir_10 hB kq_89) h.1 dX8_layBook_90 ?_
      have h := h.2
      refine wl_iinc (v := (v1 + (1 : Int32))) (lv' := [(1, .int (v1 + (1 : Int32))), (2, .int (M 89 (M 86 ((2 : Int32) * v1).toNatClampNeg).toNatClampNeg)), (0, .ref (gAD G 79))]) C dX8_layBook_91 2 rfl (by rfl) (by decide) rfl ?_
      refine wl_goto C (tgt := 23) dX8_layBook_94 (by decide) ?_
      refine wl_sub [2, 0] rfl ?_
      exact ih (v1 + (1 : Int32)) (mu (mu M 89 (M 86 ((2 : Int32) * v1).toNatClampNeg).toNatClampNeg (M 89 (M 86 (((2 : Int32) * v1) + (1 : Int32)).toNatClampNeg).toNatClampNeg)) 89 ((mu M 89 (M 86 ((2 : Int32) * v1).toNatClampNeg).toNatClampNeg (M 89 (M 86 (((2 : Int32) * v1) + (1 : Int32)).toNatClampNeg).toNatClampNeg)) 86 (((2 : Int32) * v1) + (1 : Int32)).toNatClampNeg).toNatClampNeg (M 89 (M 86 ((2 : Int32) * v1).toNatClampNeg).toNatClampNeg)) h
set_option maxRecDepth 100000 in
set_option maxHeartbeats 4000000 in
theorem kX8_layBook_2 (l : Launch) (G : gP) (hg : gIn G) (hB : gRf G) {p : Program} {e : Env} {s : State} {m : MethodId} {args : Array Value} {below : List Frame} {meth : Method} {c : Code} (C : Cx p s m args meth c G (gA G) cX8_layBook 3 RX8) (hr : meth.sig.returnType = none) {Q : Mem → Prop} : ∀ (n : Nat) (v1 : Int32) (M : Mem), wX8_layBook_2 Q n v1 M → Wl p l e rmX8_layBook s m args below meth c (MQ below (va_Qv Q (gB G) (gA G)) args s 0 0 (gA G)) G (gA G) 3 0 0 M 2 [(0, .ref (gAD G 79)), (1, .int v1)] [] := by
  intro n
  induction n with
  | zero => intro v1 M h; exact h.elim
  | succ n ih =>
    intro v1 M h
    have h : (((40 : Int32) ≤ v1 → (∃ n2, wX8_layBook_23 Q n2 (0 : Int32) M)) ∧ (¬ (40 : Int32) ≤ v1 → (vp_in v1 (ln 89) ∧ wX8_layBook_2 Q n (v1 + (1 : Int32)) (mu M 89 v1.toNatClampNeg v1)))) := h
    refine wl_iload_n C dX8_layBook_2 1 rfl ?_
    refine wl_bipush (v := 40) C dX8_layBook_3 (by decide) ?_
    refine wl_icmp_ge C (tgt := 21) dX8_layBook_5 (by decide) (fun hc => ?_) (fun hc => ?_)
    · have h := h.1 hc
      refine wl_iconst (v := 0) C dX8_layBook_21 (by decide) ?_
      refine wl_istore_n (i := 1) (lv' := [(1, .int (0 : Int32)), (0, .ref (gAD G 79))]) C dX8_layBook_22 rfl (by decide) rfl ?_
      refine wl_sub [1, 0] rfl ?_
      obtain ⟨n2, h⟩ := h
      exact kX8_layBook_23 l G hg hB C hr n2 (0 : Int32) M h
    · have h := h.2 hc
      refine wl_aload_n C dX8_layBook_8 0 rfl ?_
      refine gf_8_10 C kq_79 (gir_8 hB kq_79) tw_603 dX8_layBook_9 ?_
      refine wl_iload_n C dX8_layBook_12 1 rfl ?_
      refine wl_iload_n C dX8_layBook_13 1 rfl ?_
      refine ga_st10 C kq_89 (gir_10 hB kq_89) h.1 dX8_layBook_14 ?_
      have h := h.2
      refine wl_iinc (v := (v1 + (1 : Int32))) (lv' := [(1, .int (v1 + (1 : Int32))), (0, .ref (gAD G 79))]) C dX8_layBook_15 1 rfl (by rfl) (by decide) rfl ?_
      refine wl_goto C (tgt := 2) dX8_layBook_18 (by decide) ?_
      refine wl_sub [1, 0] rfl ?_
      exact ih (v1 + (1 : Int32)) (mu M 89 v1.toNatClampNeg v1) h
set_option maxRecDepth 100000 in
set_option maxHeartbeats 4000000 in
theorem cX8_layBook_M (l : Launch) (G : gP) (hg : gIn G) (hB : gRf G) (M : Mem) (Q : Mem → Prop) : Met l yX8_layBook (Cond.code yX8_layBook cX8_layBook 3 none :: TB) rmX8_layBook (va_Pc [.ref (gAD G 79)] (fun U => gS G M U ∧ wX8_layBook M Q)) (va_Qv Q (gB G) (gA G)) 0 0 (gA G) := by
  refine gMet (by decide +kernel) (show _ = Cond.code yX8_layBook cX8_layBook 3 none from rfl) hg (Nat.le_of_ble_eq_true rfl) [(0, .ref (gAD G 79))] rfl ?_
  intro p e s m args below meth c C hr h
  have h : (∃ n1, wX8_layBook_2 Q n1 (0 : Int32) M) := h
  refine wl_iconst (v := 0) C dX8_layBook_0 (by decide) ?_
  refine wl_istore_n (i := 1) (lv' := [(1, .int (0 : Int32)), (0, .ref (gAD G 79))]) C dX8_layBook_1 rfl (by decide) rfl ?_
  refine wl_sub [1, 0] rfl ?_
  obtain ⟨n1, h⟩ := h
  exact kX8_layBook_2 l G hg hB C hr n1 (0 : Int32) M h
set_option maxRecDepth 100000 in
set_option maxHeartbeats 4000000 in
theorem kX8_lay_16 (l : Launch) (G : gP) (hg : gIn G) (hB : gRf G) {p : Program} {e : Env} {s : State} {m : MethodId} {args : Array Value} {below : List Frame} {meth : Method} {c : Code} (C : Cx p s m args meth c G (gA G) cX8_lay 2 RX8) (hr : meth.sig.returnType = (some (Jvm.ClassFile.FieldType.int))) {Q : Int32 → Mem → Prop} (M : Mem) (h : wX8_lay_16 Q M) : Wl p l e rmX8_lay s m args below meth c (MQ below (va_Qi Q (gB G) (gA G)) args s 0 0 (gA G)) G (gA G) 2 0 0 M 16 [] [] := by
  have h : Q (-2 : Int32) M := h
  refine wl_bipush (v := (-2)) C dX8_lay_16 (by decide) ?_
  exact wl_iret C hr h dX8_lay_18
set_option maxRecDepth 100000 in
set_option maxHeartbeats 4000000 in
theorem kX8_lay_122 (l : Launch) (G : gP) (hg : gIn G) (hB : gRf G) {p : Program} {e : Env} {s : State} {m : MethodId} {args : Array Value} {below : List Frame} {meth : Method} {c : Code} (C : Cx p s m args meth c G (gA G) cX8_lay 2 RX8) (hr : meth.sig.returnType = (some (Jvm.ClassFile.FieldType.int))) {Q : Int32 → Mem → Prop} : ∀ (n : Nat) (v1 : Int32) (M : Mem), wX8_lay_122 Q n v1 M → Wl p l e rmX8_lay s m args below meth c (MQ below (va_Qi Q (gB G) (gA G)) args s 0 0 (gA G)) G (gA G) 2 0 0 M 122 [(0, .ref (gAD G 79)), (1, .int v1)] [] := by
  intro n
  induction n with
  | zero => intro v1 M h; exact h.elim
  | succ n ih =>
    intro v1 M h
    have h : (((20 : Int32) ≤ v1 → (wX8_layBook M (fun M7 => (vp_in (0 : Int32) (ln 81) ∧ Q (M7 81 (0 : Int32).toNatClampNeg) M7)))) ∧ (¬ (20 : Int32) ≤ v1 → (vp_in ((20 : Int32) + v1) (ln 88) ∧ (vp_in v1 (ln 88) ∧ wX8_lay_122 Q n (v1 + (1 : Int32)) (mu M 88 v1.toNatClampNeg (M 88 ((20 : Int32) + v1).toNatClampNeg)))))) := h
    refine wl_iload_n C dX8_lay_122 1 rfl ?_
    refine wl_bipush (v := 20) C dX8_lay_123 (by decide) ?_
    refine wl_icmp_ge C (tgt := 149) dX8_lay_125 (by decide) (fun hc => ?_) (fun hc => ?_)
    · have h := h.1 hc
      refine wl_aload_n C dX8_lay_149 0 rfl ?_
      refine wl_callVv C (cX8_layBook_M l G hg hB M _) h cw_RX8_93 hd_X8_layBook ⟨rfl, rfl⟩ ⟨by decide, by decide⟩ (gir_8 hB kq_79) (gc_k kq_79) rfl (As := []) (rest := []) rfl (Nat.le_of_ble_eq_true rfl) ⟨Nat.zero_le _, Nat.zero_le _⟩ rfl dX8_lay_150 (fun M7 h => ?_)
      refine wl_aload_n C dX8_lay_153 0 rfl ?_
      refine gf_8_2 C kq_79 (gir_8 hB kq_79) tw_595 dX8_lay_154 ?_
      refine wl_iconst (v := 0) C dX8_lay_157 (by decide) ?_
      refine ga_ld10 C kq_81 (gir_10 hB kq_81) h.1 dX8_lay_158 ?_
      have h := h.2
      exact wl_iret C hr h dX8_lay_159
    · have h := h.2 hc
      refine wl_aload_n C dX8_lay_128 0 rfl ?_
      refine gf_8_9 C kq_79 (gir_8 hB kq_79) tw_602 dX8_lay_129 ?_
      refine wl_iload_n C dX8_lay_132 1 rfl ?_
      refine wl_aload_n C dX8_lay_133 0 rfl ?_
      refine gf_8_9 C kq_79 (gir_8 hB kq_79) tw_602 dX8_lay_134 ?_
      refine wl_bipush (v := 20) C dX8_lay_137 (by decide) ?_
      refine wl_iload_n C dX8_lay_139 1 rfl ?_
      refine wl_iadd C dX8_lay_140 ?_
      refine ga_ld10 C kq_88 (gir_10 hB kq_88) h.1 dX8_lay_141 ?_
      have h := h.2
      refine ga_st10 C kq_88 (gir_10 hB kq_88) h.1 dX8_lay_142 ?_
      have h := h.2
      refine wl_iinc (v := (v1 + (1 : Int32))) (lv' := [(1, .int (v1 + (1 : Int32))), (0, .ref (gAD G 79))]) C dX8_lay_143 1 rfl (by rfl) (by decide) rfl ?_
      refine wl_goto C (tgt := 122) dX8_lay_146 (by decide) ?_
      refine wl_sub [1, 0] rfl ?_
      exact ih (v1 + (1 : Int32)) (mu M 88 v1.toNatClampNeg (M 88 ((20 : Int32) + v1).toNatClampNeg)) h
set_option maxRecDepth 100000 in
set_option maxHeartbeats 4000000 in
theorem kX8_lay_93 (l : Launch) (G : gP) (hg : gIn G) (hB : gRf G) {p : Program} {e : Env} {s : State} {m : MethodId} {args : Array Value} {below : List Frame} {meth : Method} {c : Code} (C : Cx p s m args meth c G (gA G) cX8_lay 2 RX8) (hr : meth.sig.returnType = (some (Jvm.ClassFile.FieldType.int))) {Q : Int32 → Mem → Prop} : ∀ (n : Nat) (v1 : Int32) (M : Mem), wX8_lay_93 Q n v1 M → Wl p l e rmX8_lay s m args below meth c (MQ below (va_Qi Q (gB G) (gA G)) args s 0 0 (gA G)) G (gA G) 2 0 0 M 93 [(0, .ref (gAD G 79)), (1, .int v1)] [] := by
  intro n
  induction n with
  | zero => intro v1 M h; exact h.elim
  | succ n ih =>
    intro v1 M h
    have h : (((40 : Int32) ≤ v1 → (∃ n6, wX8_lay_122 Q n6 (0 : Int32) M)) ∧ (¬ (40 : Int32) ≤ v1 → (vp_in ((40 : Int32) + v1) (ln 86) ∧ (vp_in v1 (ln 86) ∧ wX8_lay_93 Q n (v1 + (1 : Int32)) (mu M 86 v1.toNatClampNeg (M 86 ((40 : Int32) + v1).toNatClampNeg)))))) := h
    refine wl_iload_n C dX8_lay_93 1 rfl ?_
    refine wl_bipush (v := 40) C dX8_lay_94 (by decide) ?_
    refine wl_icmp_ge C (tgt := 120) dX8_lay_96 (by decide) (fun hc => ?_) (fun hc => ?_)
    · have h := h.1 hc
      refine wl_iconst (v := 0) C dX8_lay_120 (by decide) ?_
      refine wl_istore_n (i := 1) (lv' := [(1, .int (0 : Int32)), (0, .ref (gAD G 79))]) C dX8_lay_121 rfl (by decide) rfl ?_
      refine wl_sub [1, 0] rfl ?_
      obtain ⟨n6, h⟩ := h
      exact kX8_lay_122 l G hg hB C hr n6 (0 : Int32) M h
    · have h := h.2 hc
      refine wl_aload_n C dX8_lay_99 0 rfl ?_
      refine gf_8_7 C kq_79 (gir_8 hB kq_79) tw_600 dX8_lay_100 ?_
      refine wl_iload_n C dX8_lay_103 1 rfl ?_
      refine wl_aload_n C dX8_lay_104 0 rfl ?_
      refine gf_8_7 C kq_79 (gir_8 hB kq_79) tw_600 dX8_lay_105 ?_
      refine wl_bipush (v := 40) C dX8_lay_108 (by decide) ?_
      refine wl_iload_n C dX8_lay_110 1 rfl ?_
      refine wl_iadd C dX8_lay_111 ?_
      refine ga_ld10 C kq_86 (gir_10 hB kq_86) h.1 dX8_lay_112 ?_
      have h := h.2
      refine ga_st10 C kq_86 (gir_10 hB kq_86) h.1 dX8_lay_113 ?_
      have h := h.2
      refine wl_iinc (v := (v1 + (1 : Int32))) (lv' := [(1, .int (v1 + (1 : Int32))), (0, .ref (gAD G 79))]) C dX8_lay_114 1 rfl (by rfl) (by decide) rfl ?_
      refine wl_goto C (tgt := 93) dX8_lay_117 (by decide) ?_
      refine wl_sub [1, 0] rfl ?_
      exact ih (v1 + (1 : Int32)) (mu M 86 v1.toNatClampNeg (M 86 ((40 : Int32) + v1).toNatClampNeg)) h
set_option maxRecDepth 100000 in
set_option maxHeartbeats 4000000 in
theorem cX8_lay_M (l : Launch) (G : gP) (hg : gIn G) (hB : gRf G) (M : Mem) (Q : Int32 → Mem → Prop) : Met l yX8_lay (Cond.code yX8_lay cX8_lay 2 (some (Jvm.ClassFile.FieldType.int)) :: TB) rmX8_lay (va_Pc [.ref (gAD G 79)] (fun U => gS G M U ∧ wX8_lay M Q)) (va_Qi Q (gB G) (gA G)) 0 0 (gA G) := by
  refine gMet (by decide +kernel) (show _ = Cond.code yX8_lay cX8_lay 2 (some (Jvm.ClassFile.FieldType.int)) from rfl) hg (Nat.le_of_ble_eq_true rfl) [(0, .ref (gAD G 79))] rfl ?_
  intro p e s m args below meth c C hr h
  have h : (wX8_readAll M (fun r2 M1 => ((¬ r2 = (-4 : Int32) → wX8_lay_16 Q M1) ∧ (r2 = (-4 : Int32) → (wX8_areBelow M1 (fun r4 M3 => ((¬ r4 = 0 → (vp_in (1 : Int32) (ln 81) ∧ (vp_in (0 : Int32) (ln 81) ∧ (vp_in (1 : Int32) (ln 82) ∧ (vp_in (0 : Int32) (ln 82) ∧ (vp_in (1 : Int32) (ln 83) ∧ (vp_in (0 : Int32) (ln 83) ∧ (vp_in (1 : Int32) (ln 84) ∧ (vp_in (0 : Int32) (ln 84) ∧ (vp_in (1 : Int32) (ln 85) ∧ (vp_in (0 : Int32) (ln 85) ∧ (vp_in (1 : Int32) (ln 87) ∧ (vp_in (0 : Int32) (ln 87) ∧ (∃ n5, wX8_lay_93 Q n5 (0 : Int32) (mu (mu (mu (mu (mu (mu M3 81 (0 : Int32).toNatClampNeg (M3 81 (1 : Int32).toNatClampNeg)) 82 (0 : Int32).toNatClampNeg ((mu M3 81 (0 : Int32).toNatClampNeg (M3 81 (1 : Int32).toNatClampNeg)) 82 (1 : Int32).toNatClampNeg)) 83 (0 : Int32).toNatClampNeg ((mu (mu M3 81 (0 : Int32).toNatClampNeg (M3 81 (1 : Int32).toNatClampNeg)) 82 (0 : Int32).toNatClampNeg ((mu M3 81 (0 : Int32).toNatClampNeg (M3 81 (1 : Int32).toNatClampNeg)) 82 (1 : Int32).toNatClampNeg)) 83 (1 : Int32).toNatClampNeg)) 84 (0 : Int32).toNatClampNeg ((mu (mu (mu M3 81 (0 : Int32).toNatClampNeg (M3 81 (1 : Int32).toNatClampNeg)) 82 (0 : Int32).toNatClampNeg ((mu M3 81 (0 : Int32).toNatClampNeg (M3 81 (1 : Int32).toNatClampNeg)) 82 (1 : Int32).toNatClampNeg)) 83 (0 : Int32).toNatClampNeg ((mu (mu M3 81 (0 : Int32).toNatClampNeg (M3 81 (1 : Int32).toNatClampNeg)) 82 (0 : Int32).toNatClampNeg ((mu M3 81 (0 : Int32).toNatClampNeg (M3 81 (1 : Int32).toNatClampNeg)) 82 (1 : Int32).toNatClampNeg)) 83 (1 : Int32).toNatClampNeg)) 84 (1 : Int32).toNatClampNeg)) 85 (0 : Int32).toNatClampNeg ((mu (mu (mu (mu M3 81 (0 : Int32).toNatClampNeg (M3 81 (1 : Int32).toNatClampNeg)) 82 (0 : Int32).toNatClampNeg ((mu M3 81 (0 : Int32).toNatClampNeg (M3 81 (1 : Int32).toNatClampNeg)) 82 (1 : Int32).toNatClampNeg)) 83 (0 : Int32).toNatClampNeg ((mu (mu M3 81 (0 : Int32).toNatClampNeg (M3 81 (1 : Int32).toNatClampNeg)) 82 (0 : Int32).toNatClampNeg ((mu M3 81 (0 : Int32).toNatClampNeg (M3 81 (1 : Int32).toNatClampNeg)) 82 (1 : Int32).toNatClampNeg)) 83 (1 : Int32).toNatClampNeg)) 84 (0 : Int32).toNatClampNeg ((mu (mu (mu M3 81 (0 : Int32).toNatClampNeg (M3 81 (1 : Int32).toNatClampNeg)) 82 (0 : Int32).toNatClampNeg ((mu M3 81 (0 : Int32).toNatClampNeg (M3 81 (1 : Int32).toNatClampNeg)) 82 (1 : Int32).toNatClampNeg)) 83 (0 : Int32).toNatClampNeg ((mu (mu M3 81 (0 : Int32).toNatClampNeg (M3 81 (1 : Int32).toNatClampNeg)) 82 (0 : Int32).toNatClampNeg ((mu M3 81 (0 : Int32).toNatClampNeg (M3 81 (1 : Int32).toNatClampNeg)) 82 (1 : Int32).toNatClampNeg)) 83 (1 : Int32).toNatClampNeg)) 84 (1 : Int32).toNatClampNeg)) 85 (1 : Int32).toNatClampNeg)) 87 (0 : Int32).toNatClampNeg ((mu (mu (mu (mu (mu M3 81 (0 : Int32).toNatClampNeg (M3 81 (1 : Int32).toNatClampNeg)) 82 (0 : Int32).toNatClampNeg ((mu M3 81 (0 : Int32).toNatClampNeg (M3 81 (1 : Int32).toNatClampNeg)) 82 (1 : Int32).toNatClampNeg)) 83 (0 : Int32).toNatClampNeg ((mu (mu M3 81 (0 : Int32).toNatClampNeg (M3 81 (1 : Int32).toNatClampNeg)) 82 (0 : Int32).toNatClampNeg ((mu M3 81 (0 : Int32).toNatClampNeg (M3 81 (1 : Int32).toNatClampNeg)) 82 (1 : Int32).toNatClampNeg)) 83 (1 : Int32).toNatClampNeg)) 84 (0 : Int32).toNatClampNeg ((mu (mu (mu M3 81 (0 : Int32).toNatClampNeg (M3 81 (1 : Int32).toNatClampNeg)) 82 (0 : Int32).toNatClampNeg ((mu M3 81 (0 : Int32).toNatClampNeg (M3 81 (1 : Int32).toNatClampNeg)) 82 (1 : Int32).toNatClampNeg)) 83 (0 : Int32).toNatClampNeg ((mu (mu M3 81 (0 : Int32).toNatClampNeg (M3 81 (1 : Int32).toNatClampNeg)) 82 (0 : Int32).toNatClampNeg ((mu M3 81 (0 : Int32).toNatClampNeg (M3 81 (1 : Int32).toNatClampNeg)) 82 (1 : Int32).toNatClampNeg)) 83 (1 : Int32).toNatClampNeg)) 84 (1 : Int32).toNatClampNeg)) 85 (0 : Int32).toNatClampNeg ((mu (mu (mu (mu M3 81 (0 : Int32).toNatClampNeg (M3 81 (1 : Int32).toNatClampNeg)) 82 (0 : Int32).toNatClampNeg ((mu M3 81 (0 : Int32).toNatClampNeg (M3 81 (1 : Int32).toNatClampNeg)) 82 (1 : Int32).toNatClampNeg)) 83 (0 : Int32).toNatClampNeg ((mu (mu M3 81 (0 : Int32).toNatClampNeg (M3 81 (1 : Int32).toNatClampNeg)) 82 (0 : Int32).toNatClampNeg ((mu M3 81 (0 : Int32).toNatClampNeg (M3 81 (1 : Int32).toNatClampNeg)) 82 (1 : Int32).toNatClampNeg)) 83 (1 : Int32).toNatClampNeg)) 84 (0 : Int32).toNatClampNeg ((mu (mu (mu M3 81 (0 : Int32).toNatClampNeg (M3 81 (1 : Int32).toNatClampNeg)) 82 (0 : Int32).toNatClampNeg ((mu M3 81 (0 : Int32).toNatClampNeg (M3 81 (1 : Int32).toNatClampNeg)) 82 (1 : Int32).toNatClampNeg)) 83 (0 : Int32).toNatClampNeg ((mu (mu M3 81 (0 : Int32).toNatClampNeg (M3 81 (1 : Int32).toNatClampNeg)) 82 (0 : Int32).toNatClampNeg ((mu M3 81 (0 : Int32).toNatClampNeg (M3 81 (1 : Int32).toNatClampNeg)) 82 (1 : Int32).toNatClampNeg)) 83 (1 : Int32).toNatClampNeg)) 84 (1 : Int32).toNatClampNeg)) 85 (1 : Int32).toNatClampNeg)) 87 (1 : Int32).toNatClampNeg)))))))))))))))) ∧ (r4 = 0 → wX8_lay_16 Q M3)))))))) := h
  refine wl_aload_n C dX8_lay_0 0 rfl ?_
  refine wl_callVi C (cX8_readAll_M l G hg hB M _) h cw_RX8_131 hd_X8_readAll ⟨rfl, rfl⟩ ⟨by decide, by decide⟩ (gir_8 hB kq_79) (gc_k kq_79) rfl (As := []) (rest := []) rfl (Nat.le_of_ble_eq_true rfl) ⟨Nat.zero_le _, Nat.zero_le _⟩ rfl dX8_lay_1 (fun r2 M1 h => ?_)
  refine wl_bipush (v := (-4)) C dX8_lay_4 (by decide) ?_
  refine wl_icmp_ne C (tgt := 16) dX8_lay_6 (by decide) (fun hc => ?_) (fun hc => ?_)
  · have h := h.1 hc
    refine wl_sub [] rfl ?_
    exact kX8_lay_16 l G hg hB C hr M1 h
  · have h := h.2 hc
    refine wl_aload_n C dX8_lay_9 0 rfl ?_
    refine wl_callVi C (cX8_areBelow_M l G hg hB M1 _) h cw_RX8_144 hd_X8_areBelow ⟨rfl, rfl⟩ ⟨by decide, by decide⟩ (gir_8 hB kq_79) (gc_k kq_79) rfl (As := []) (rest := []) rfl (Nat.le_of_ble_eq_true rfl) ⟨Nat.zero_le _, Nat.zero_le _⟩ rfl dX8_lay_10 (fun r4 M3 h => ?_)
    refine wl_if_ne C (tgt := 19) dX8_lay_13 (by decide) (fun hc => ?_) (fun hc => ?_)
    · have h := h.1 hc
      refine wl_aload_n C dX8_lay_19 0 rfl ?_
      refine gf_8_2 C kq_79 (gir_8 hB kq_79) tw_595 dX8_lay_20 ?_
      refine wl_iconst (v := 0) C dX8_lay_23 (by decide) ?_
      refine wl_aload_n C dX8_lay_24 0 rfl ?_
      refine gf_8_2 C kq_79 (gir_8 hB kq_79) tw_595 dX8_lay_25 ?_
      refine wl_iconst (v := 1) C dX8_lay_28 (by decide) ?_
      refine ga_ld10 C kq_81 (gir_10 hB kq_81) h.1 dX8_lay_29 ?_
      have h := h.2
      refine ga_st10 C kq_81 (gir_10 hB kq_81) h.1 dX8_lay_30 ?_
      have h := h.2
      refine wl_aload_n C dX8_lay_31 0 rfl ?_
      refine gf_8_3 C kq_79 (gir_8 hB kq_79) tw_596 dX8_lay_32 ?_
      refine wl_iconst (v := 0) C dX8_lay_35 (by decide) ?_
      refine wl_aload_n C dX8_lay_36 0 rfl ?_
      refine gf_8_3 C kq_79 (gir_8 hB kq_79) tw_596 dX8_lay_37 ?_
      refine wl_iconst (v := 1) C dX8_lay_40 (by decide) ?_
      refine ga_ld10 C kq_82 (gir_10 hB kq_82) h.1 dX8_lay_41 ?_
      have h := h.2
      refine ga_st10 C kq_82 (gir_10 hB kq_82) h.1 dX8_lay_42 ?_
      have h := h.2
      refine wl_aload_n C dX8_lay_43 0 rfl ?_
      refine gf_8_4 C kq_79 (gir_8 hB kq_79) tw_597 dX8_lay_44 ?_
      refine wl_iconst (v := 0) C dX8_lay_47 (by decide) ?_
      refine wl_aload_n C dX8_lay_48 0 rfl ?_
      refine gf_8_4 C kq_79 (gir_8 hB kq_79) tw_597 dX8_lay_49 ?_
      refine wl_iconst (v := 1) C dX8_lay_52 (by decide) ?_
      refine ga_ld10 C kq_83 (gir_10 hB kq_83) h.1 dX8_lay_53 ?_
      have h := h.2
      refine ga_st10 C kq_83 (gir_10 hB kq_83) h.1 dX8_lay_54 ?_
      have h := h.2
      refine wl_aload_n C dX8_lay_55 0 rfl ?_
      refine gf_8_5 C kq_79 (gir_8 hB kq_79) tw_598 dX8_lay_56 ?_
      refine wl_iconst (v := 0) C dX8_lay_59 (by decide) ?_
      refine wl_aload_n C dX8_lay_60 0 rfl ?_
      refine gf_8_5 C kq_79 (gir_8 hB kq_79) tw_598 dX8_lay_61 ?_
      refine wl_iconst (v := 1) C dX8_lay_64 (by decide) ?_
      refine ga_ld10 C kq_84 (gir_10 hB kq_84) h.1 dX8_lay_65 ?_
      have h := h.2
      refine ga_st10 C kq_84 (gir_10 hB kq_84) h.1 dX8_lay_66 ?_
      have h := h.2
      refine wl_aload_n C dX8_lay_67 0 rfl ?_
      refine gf_8_6 C kq_79 (gir_8 hB kq_79) tw_599 dX8_lay_68 ?_
      refine wl_iconst (v := 0) C dX8_lay_71 (by decide) ?_
      refine wl_aload_n C dX8_lay_72 0 rfl ?_
      refine gf_8_6 C kq_79 (gir_8 hB kq_79) tw_599 dX8_lay_73 ?_
      refine wl_iconst (v := 1) C dX8_lay_76 (by decide) ?_
      refine ga_ld10 C kq_85 (gir_10 hB kq_85) h.1 dX8_lay_77 ?_
      have h := h.2
      refine ga_st10 C kq_85 (gir_10 hB kq_85) h.1 dX8_lay_78 ?_
      have h := h.2
      refine wl_aload_n C dX8_lay_79 0 rfl ?_
      refine gf_8_8 C kq_79 (gir_8 hB kq_79) tw_601 dX8_lay_80 ?_
      refine wl_iconst (v := 0) C dX8_lay_83 (by decide) ?_
      refine wl_aload_n C dX8_lay_84 0 rfl ?_
      refine gf_8_8 C kq_79 (gir_8 hB kq_79) tw_601 dX8_lay_85 ?_
      refine wl_iconst (v := 1) C dX8_lay_88 (by decide) ?_
      refine ga_ld10 C kq_87 (gir_10 hB kq_87) h.1 dX8_lay_89 ?_
      have h := h.2
      refine ga_st10 C kq_87 (gir_10 hB kq_87) h.1 dX8_lay_90 ?_
      have h := h.2
      refine wl_iconst (v := 0) C dX8_lay_91 (by decide) ?_
      refine wl_istore_n (i := 1) (lv' := [(1, .int (0 : Int32)), (0, .ref (gAD G 79))]) C dX8_lay_92 rfl (by decide) rfl ?_
      refine wl_sub [1, 0] rfl ?_
      obtain ⟨n5, h⟩ := h
      exact kX8_lay_93 l G hg hB C hr n5 (0 : Int32) (mu (mu (mu (mu (mu (mu M3 81 (0 : Int32).toNatClampNeg (M3 81 (1 : Int32).toNatClampNeg)) 82 (0 : Int32).toNatClampNeg ((mu M3 81 (0 : Int32).toNatClampNeg (M3 81 (1 : Int32).toNatClampNeg)) 82 (1 : Int32).toNatClampNeg)) 83 (0 : Int32).toNatClampNeg ((mu (mu M3 81 (0 : Int32).toNatClampNeg (M3 81 (1 : Int32).toNatClampNeg)) 82 (0 : Int32).toNatClampNeg ((mu M3 81 (0 : Int32).toNatClampNeg (M3 81 (1 : Int32).toNatClampNeg)) 82 (1 : Int32).toNatClampNeg)) 83 (1 : Int32).toNatClampNeg)) 84 (0 : Int32).toNatClampNeg ((mu (mu (mu M3 81 (0 : Int32).toNatClampNeg (M3 81 (1 : Int32).toNatClampNeg)) 82 (0 : Int32).toNatClampNeg ((mu M3 81 (0 : Int32).toNatClampNeg (M3 81 (1 : Int32).toNatClampNeg)) 82 (1 : Int32).toNatClampNeg)) 83 (0 : Int32).toNatClampNeg ((mu (mu M3 81 (0 : Int32).toNatClampNeg (M3 81 (1 : Int32).toNatClampNeg)) 82 (0 : Int32).toNatClampNeg ((mu M3 81 (0 : Int32).toNatClampNeg (M3 81 (1 : Int32).toNatClampNeg)) 82 (1 : Int32).toNatClampNeg)) 83 (1 : Int32).toNatClampNeg)) 84 (1 : Int32).toNatClampNeg)) 85 (0 : Int32).toNatClampNeg ((mu (mu (mu (mu M3 81 (0 : Int32).toNatClampNeg (M3 81 (1 : Int32).toNatClampNeg)) 82 (0 : Int32).toNatClampNeg ((mu M3 81 (0 : Int32).toNatClampNeg (M3 81 (1 : Int32).toNatClampNeg)) 82 (1 : Int32).toNatClampNeg)) 83 (0 : Int32).toNatClampNeg ((mu (mu M3 81 (0 : Int32).toNatClampNeg (M3 81 (1 : Int32).toNatClampNeg)) 82 (0 : Int32).toNatClampNeg ((mu M3 81 (0 : Int32).toNatClampNeg (M3 81 (1 : Int32).toNatClampNeg)) 82 (1 : Int32).toNatClampNeg)) 83 (1 : Int32).toNatClampNeg)) 84 (0 : Int32).toNatClampNeg ((mu (mu (mu M3 81 (0 : Int32).toNatClampNeg (M3 81 (1 : Int32).toNatClampNeg)) 82 (0 : Int32).toNatClampNeg ((mu M3 81 (0 : Int32).toNatClampNeg (M3 81 (1 : Int32).toNatClampNeg)) 82 (1 : Int32).toNatClampNeg)) 83 (0 : Int32).toNatClampNeg ((mu (mu M3 81 (0 : Int32).toNatClampNeg (M3 81 (1 : Int32).toNatClampNeg)) 82 (0 : Int32).toNatClampNeg ((mu M3 81 (0 : Int32).toNatClampNeg (M3 81 (1 : Int32).toNatClampNeg)) 82 (1 : Int32).toNatClampNeg)) 83 (1 : Int32).toNatClampNeg)) 84 (1 : Int32).toNatClampNeg)) 85 (1 : Int32).toNatClampNeg)) 87 (0 : Int32).toNatClampNeg ((mu (mu (mu (mu (mu M3 81 (0 : Int32).toNatClampNeg (M3 81 (1 : Int32).toNatClampNeg)) 82 (0 : Int32).toNatClampNeg ((mu M3 81 (0 : Int32).toNatClampNeg (M3 81 (1 : Int32).toNatClampNeg)) 82 (1 : Int32).toNatClampNeg)) 83 (0 : Int32).toNatClampNeg ((mu (mu M3 81 (0 : Int32).toNatClampNeg (M3 81 (1 : Int32).toNatClampNeg)) 82 (0 : Int32).toNatClampNeg ((mu M3 81 (0 : Int32).toNatClampNeg (M3 81 (1 : Int32).toNatClampNeg)) 82 (1 : Int32).toNatClampNeg)) 83 (1 : Int32).toNatClampNeg)) 84 (0 : Int32).toNatClampNeg ((mu (mu (mu M3 81 (0 : Int32).toNatClampNeg (M3 81 (1 : Int32).toNatClampNeg)) 82 (0 : Int32).toNatClampNeg ((mu M3 81 (0 : Int32).toNatClampNeg (M3 81 (1 : Int32).toNatClampNeg)) 82 (1 : Int32).toNatClampNeg)) 83 (0 : Int32).toNatClampNeg ((mu (mu M3 81 (0 : Int32).toNatClampNeg (M3 81 (1 : Int32).toNatClampNeg)) 82 (0 : Int32).toNatClampNeg ((mu M3 81 (0 : Int32).toNatClampNeg (M3 81 (1 : Int32).toNatClampNeg)) 82 (1 : Int32).toNatClampNeg)) 83 (1 : Int32).toNatClampNeg)) 84 (1 : Int32).toNatClampNeg)) 85 (0 : Int32).toNatClampNeg ((mu (mu (mu (mu M3 81 (0 : Int32).toNatClampNeg (M3 81 (1 : Int32).toNatClampNeg)) 82 (0 : Int32).toNatClampNeg ((mu M3 81 (0 : Int32).toNatClampNeg (M3 81 (1 : Int32).toNatClampNeg)) 82 (1 : Int32).toNatClampNeg)) 83 (0 : Int32).toNatClampNeg ((mu (mu M3 81 (0 : Int32).toNatClampNeg (M3 81 (1 : Int32).toNatClampNeg)) 82 (0 : Int32).toNatClampNeg ((mu M3 81 (0 : Int32).toNatClampNeg (M3 81 (1 : Int32).toNatClampNeg)) 82 (1 : Int32).toNatClampNeg)) 83 (1 : Int32).toNatClampNeg)) 84 (0 : Int32).toNatClampNeg ((mu (mu (mu M3 81 (0 : Int32).toNatClampNeg (M3 81 (1 : Int32).toNatClampNeg)) 82 (0 : Int32).toNatClampNeg ((mu M3 81 (0 : Int32).toNatClampNeg (M3 81 (1 : Int32).toNatClampNeg)) 82 (1 : Int32).toNatClampNeg)) 83 (0 : Int32).toNatClampNeg ((mu (mu M3 81 (0 : Int32).toNatClampNeg (M3 81 (1 : Int32).toNatClampNeg)) 82 (0 : Int32).toNatClampNeg ((mu M3 81 (0 : Int32).toNatClampNeg (M3 81 (1 : Int32).toNatClampNeg)) 82 (1 : Int32).toNatClampNeg)) 83 (1 : Int32).toNatClampNeg)) 84 (1 : Int32).toNatClampNeg)) 85 (1 : Int32).toNatClampNeg)) 87 (1 : Int32).toNatClampNeg)) h
    · have h := h.2 hc
      refine wl_sub [] rfl ?_
      exact kX8_lay_16 l G hg hB C hr M3 h
set_option maxRecDepth 100000 in
set_option maxHeartbeats 4000000 in
theorem cX8_isLeaf_M (l : Launch) (G : gP) (hg : gIn G) (hB : gRf G) (x1 : Int32) (M : Mem) (Q : Int32 → Mem → Prop) : Met l yX8_isLeaf (Cond.code yX8_isLeaf cX8_isLeaf 2 (some (Jvm.ClassFile.FieldType.boolean)) :: TB) rmX8_isLeaf (va_Pc [.ref (gAD G 79), .int x1] (fun U => gS G M U ∧ wX8_isLeaf x1 M Q)) (va_Qi Q (gB G) (gA G)) 0 0 (gA G) := by
  refine gMet (by decide +kernel) (show _ = Cond.code yX8_isLeaf cX8_isLeaf 2 (some (Jvm.ClassFile.FieldType.boolean)) from rfl) hg (Nat.le_of_ble_eq_true rfl) [(0, .ref (gAD G 79)), (1, .int x1)] rfl ?_
  intro p e s m args below meth c C hr h
  have h : (vp_in (0 : Int32) (ln 81) ∧ (wX8_in x1.toInt64 (0 : Int64) (((M 81 (0 : Int32).toNatClampNeg) - (1 : Int32)).toInt64) M (fun r2 M1 => ((r2 = 0 ∨ r2 = 1) ∧ Q r2 M1)))) := h
  refine wl_iload_n C dX8_isLeaf_0 1 rfl ?_
  refine wl_i2l C dX8_isLeaf_1 ?_
  refine wl_lconst (v := 0) C dX8_isLeaf_2 (by decide) ?_
  refine wl_aload_n C dX8_isLeaf_3 0 rfl ?_
  refine gf_8_2 C kq_79 (gir_8 hB kq_79) tw_595 dX8_isLeaf_4 ?_
  refine wl_iconst (v := 0) C dX8_isLeaf_7 (by decide) ?_
  refine ga_ld10 C kq_81 (gir_10 hB kq_81) h.1 dX8_isLeaf_8 ?_
  have h := h.2
  refine wl_iconst (v := 1) C dX8_isLeaf_9 (by decide) ?_
  refine wl_isub C dX8_isLeaf_10 ?_
  refine wl_i2l C dX8_isLeaf_11 ?_
  refine wl_callSi C (cX8_in_M l G hg hB x1.toInt64 (0 : Int64) (((M 81 (0 : Int32).toNatClampNeg) - (1 : Int32)).toInt64) M _) h cw_RX8_98 hd_X8_in ⟨rfl, rfl⟩ ⟨by decide, by decide⟩ (As := [.long x1.toInt64, .long (0 : Int64), .long ((M 81 (0 : Int32).toNatClampNeg) - (1 : Int32)).toInt64]) (rest := []) rfl (Nat.le_of_ble_eq_true rfl) ⟨Nat.zero_le _, Nat.zero_le _⟩ rfl dX8_isLeaf_12 (fun r2 M1 h => ?_)
  exact wl_zret C hr h.1 h.2 dX8_isLeaf_15
set_option maxRecDepth 100000 in
set_option maxHeartbeats 4000000 in
theorem kX8_leaf_18 (l : Launch) (G : gP) (hg : gIn G) (hB : gRf G) (x1 : Int32) (x2 : Int32) {p : Program} {e : Env} {s : State} {m : MethodId} {args : Array Value} {below : List Frame} {meth : Method} {c : Code} (C : Cx p s m args meth c G (gA G) cX8_leaf 3 RX8) (hr : meth.sig.returnType = (some (Jvm.ClassFile.FieldType.int))) {Q : Int32 → Mem → Prop} (M : Mem) (h : wX8_leaf_18 x1 x2 Q M) : Wl p l e rmX8_leaf s m args below meth c (MQ below (va_Qi Q (gB G) (gA G)) args s 0 0 (gA G)) G (gA G) 3 0 0 M 18 [] [] := by
  have h : Q (-1 : Int32) M := h
  refine wl_iconst (v := (-1)) C dX8_leaf_18 (by decide) ?_
  exact wl_iret C hr h dX8_leaf_19
set_option maxRecDepth 100000 in
set_option maxHeartbeats 4000000 in
theorem kX8_leaf_39 (l : Launch) (G : gP) (hg : gIn G) (hB : gRf G) (x1 : Int32) (x2 : Int32) {p : Program} {e : Env} {s : State} {m : MethodId} {args : Array Value} {below : List Frame} {meth : Method} {c : Code} (C : Cx p s m args meth c G (gA G) cX8_leaf 3 RX8) (hr : meth.sig.returnType = (some (Jvm.ClassFile.FieldType.int))) {Q : Int32 → Mem → Prop} (s0 : Int32) (M : Mem) (h : wX8_leaf_39 x1 x2 Q s0 M) : Wl p l e rmX8_leaf s m args below meth c (MQ below (va_Qi Q (gB G) (gA G)) args s 0 0 (gA G)) G (gA G) 3 0 0 M 39 [] [.int s0] := by
  have h : Q s0 M := h
  exact wl_iret C hr h dX8_leaf_39
set_option maxRecDepth 100000 in
set_option maxHeartbeats 4000000 in
theorem cX8_leaf_M (l : Launch) (G : gP) (hg : gIn G) (hB : gRf G) (x1 : Int32) (x2 : Int32) (M : Mem) (Q : Int32 → Mem → Prop) : Met l yX8_leaf (Cond.code yX8_leaf cX8_leaf 3 (some (Jvm.ClassFile.FieldType.int)) :: TB) rmX8_leaf (va_Pc [.ref (gAD G 79), .int x1, .int x2] (fun U => gS G M U ∧ wX8_leaf x1 x2 M Q)) (va_Qi Q (gB G) (gA G)) 0 0 (gA G) := by
  refine gMet (by decide +kernel) (show _ = Cond.code yX8_leaf cX8_leaf 3 (some (Jvm.ClassFile.FieldType.int)) from rfl) hg (Nat.le_of_ble_eq_true rfl) [(0, .ref (gAD G 79)), (1, .int x1), (2, .int x2)] rfl ?_
  intro p e s m args below meth c C hr h
  have h : (wX8_isLeaf x1 M (fun r2 M1 => ((r2 = 0 → wX8_leaf_18 x1 x2 Q M1) ∧ (¬ r2 = 0 → (wX8_in x2.toInt64 (0 : Int64) (1 : Int64) M1 (fun r4 M3 => ((¬ r4 = 0 → ((¬ x2 = 0 → (vp_in x1 (ln 89) ∧ wX8_leaf_39 x1 x2 Q (M3 89 x1.toNatClampNeg) M3)) ∧ (x2 = 0 → (vp_in x1 (ln 90) ∧ wX8_leaf_39 x1 x2 Q (M3 90 x1.toNatClampNeg) M3)))) ∧ (r4 = 0 → wX8_leaf_18 x1 x2 Q M3)))))))) := h
  refine wl_aload_n C dX8_leaf_0 0 rfl ?_
  refine wl_iload_n C dX8_leaf_1 1 rfl ?_
  refine wl_callVi C (cX8_isLeaf_M l G hg hB x1 M _) h cw_RX8_155 hd_X8_isLeaf ⟨rfl, rfl⟩ ⟨by decide, by decide⟩ (gir_8 hB kq_79) (gc_k kq_79) rfl (As := [.int x1]) (rest := []) rfl (Nat.le_of_ble_eq_true rfl) ⟨Nat.zero_le _, Nat.zero_le _⟩ rfl dX8_leaf_2 (fun r2 M1 h => ?_)
  refine wl_if_eq C (tgt := 18) dX8_leaf_5 (by decide) (fun hc => ?_) (fun hc => ?_)
  · have h := h.1 hc
    refine wl_sub [] rfl ?_
    exact kX8_leaf_18 l G hg hB x1 x2 C hr M1 h
  · have h := h.2 hc
    refine wl_iload_n C dX8_leaf_8 2 rfl ?_
    refine wl_i2l C dX8_leaf_9 ?_
    refine wl_lconst (v := 0) C dX8_leaf_10 (by decide) ?_
    refine wl_lconst (v := 1) C dX8_leaf_11 (by decide) ?_
    refine wl_callSi C (cX8_in_M l G hg hB x2.toInt64 (0 : Int64) (1 : Int64) M1 _) h cw_RX8_98 hd_X8_in ⟨rfl, rfl⟩ ⟨by decide, by decide⟩ (As := [.long x2.toInt64, .long (0 : Int64), .long (1 : Int64)]) (rest := []) rfl (Nat.le_of_ble_eq_true rfl) ⟨Nat.zero_le _, Nat.zero_le _⟩ rfl dX8_leaf_12 (fun r4 M3 h => ?_)
    refine wl_if_ne C (tgt := 20) dX8_leaf_15 (by decide) (fun hc => ?_) (fun hc => ?_)
    · have h := h.1 hc
      refine wl_iload_n C dX8_leaf_20 2 rfl ?_
      refine wl_if_ne C (tgt := 33) dX8_leaf_21 (by decide) (fun hc => ?_) (fun hc => ?_)
      · have h := h.1 hc
        refine wl_aload_n C dX8_leaf_33 0 rfl ?_
        refine gf_8_10 C kq_79 (gir_8 hB kq_79) tw_603 dX8_leaf_34 ?_
        refine wl_iload_n C dX8_leaf_37 1 rfl ?_
        refine ga_ld10 C kq_89 (gir_10 hB kq_89) h.1 dX8_leaf_38 ?_
        have h := h.2
        refine wl_sub [] rfl ?_
        exact kX8_leaf_39 l G hg hB x1 x2 C hr (M3 89 x1.toNatClampNeg) M3 h
      · have h := h.2 hc
        refine wl_aload_n C dX8_leaf_24 0 rfl ?_
        refine gf_8_11 C kq_79 (gir_8 hB kq_79) tw_604 dX8_leaf_25 ?_
        refine wl_iload_n C dX8_leaf_28 1 rfl ?_
        refine ga_ld10 C kq_90 (gir_10 hB kq_90) h.1 dX8_leaf_29 ?_
        have h := h.2
        refine wl_goto C (tgt := 39) dX8_leaf_30 (by decide) ?_
        refine wl_sub [] rfl ?_
        exact kX8_leaf_39 l G hg hB x1 x2 C hr (M3 90 x1.toNatClampNeg) M3 h
    · have h := h.2 hc
      refine wl_sub [] rfl ?_
      exact kX8_leaf_18 l G hg hB x1 x2 C hr M3 h
set_option maxRecDepth 100000 in
set_option maxHeartbeats 4000000 in
theorem kX8_where_12 (l : Launch) (G : gP) (hg : gIn G) (hB : gRf G) (x1 : Int32) {p : Program} {e : Env} {s : State} {m : MethodId} {args : Array Value} {below : List Frame} {meth : Method} {c : Code} (C : Cx p s m args meth c G (gA G) cX8_where 3 RX8) (hr : meth.sig.returnType = (some (Jvm.ClassFile.FieldType.int))) {Q : Int32 → Mem → Prop} : ∀ (n : Nat) (v2 : Int32) (M : Mem), wX8_where_12 x1 Q n v2 M → Wl p l e rmX8_where s m args below meth c (MQ below (va_Qi Q (gB G) (gA G)) args s 0 0 (gA G)) G (gA G) 3 0 0 M 12 [(0, .ref (gAD G 79)), (1, .int x1), (2, .int v2)] [] := by
  intro n
  induction n with
  | zero => intro v2 M h; exact h.elim
  | succ n ih =>
    intro v2 M h
    have h : (vp_in v2 (ln 90) ∧ (((M 90 v2.toNatClampNeg) = x1 → Q v2 M) ∧ (¬ (M 90 v2.toNatClampNeg) = x1 → wX8_where_12 x1 Q n (v2 + (1 : Int32)) M))) := h
    refine wl_aload_n C dX8_where_12 0 rfl ?_
    refine gf_8_11 C kq_79 (gir_8 hB kq_79) tw_604 dX8_where_13 ?_
    refine wl_iload_n C dX8_where_16 2 rfl ?_
    refine ga_ld10 C kq_90 (gir_10 hB kq_90) h.1 dX8_where_17 ?_
    have h := h.2
    refine wl_iload_n C dX8_where_18 1 rfl ?_
    refine wl_icmp_eq C (tgt := 28) dX8_where_19 (by decide) (fun hc => ?_) (fun hc => ?_)
    · have h := h.1 hc
      refine wl_iload_n C dX8_where_28 2 rfl ?_
      exact wl_iret C hr h dX8_where_29
    · have h := h.2 hc
      refine wl_iinc (v := (v2 + (1 : Int32))) (lv' := [(2, .int (v2 + (1 : Int32))), (0, .ref (gAD G 79)), (1, .int x1)]) C dX8_where_22 2 rfl (by rfl) (by decide) rfl ?_
      refine wl_goto C (tgt := 12) dX8_where_25 (by decide) ?_
      refine wl_sub [1, 2, 0] rfl ?_
      exact ih (v2 + (1 : Int32)) M h
set_option maxRecDepth 100000 in
set_option maxHeartbeats 4000000 in
theorem cX8_where_M (l : Launch) (G : gP) (hg : gIn G) (hB : gRf G) (x1 : Int32) (M : Mem) (Q : Int32 → Mem → Prop) : Met l yX8_where (Cond.code yX8_where cX8_where 3 (some (Jvm.ClassFile.FieldType.int)) :: TB) rmX8_where (va_Pc [.ref (gAD G 79), .int x1] (fun U => gS G M U ∧ wX8_where x1 M Q)) (va_Qi Q (gB G) (gA G)) 0 0 (gA G) := by
  refine gMet (by decide +kernel) (show _ = Cond.code yX8_where cX8_where 3 (some (Jvm.ClassFile.FieldType.int)) from rfl) hg (Nat.le_of_ble_eq_true rfl) [(0, .ref (gAD G 79)), (1, .int x1)] rfl ?_
  intro p e s m args below meth c C hr h
  have h : (wX8_isLeaf x1 M (fun r2 M1 => ((¬ r2 = 0 → (∃ n3, wX8_where_12 x1 Q n3 (0 : Int32) M1)) ∧ (r2 = 0 → Q (-1 : Int32) M1)))) := h
  refine wl_aload_n C dX8_where_0 0 rfl ?_
  refine wl_iload_n C dX8_where_1 1 rfl ?_
  refine wl_callVi C (cX8_isLeaf_M l G hg hB x1 M _) h cw_RX8_155 hd_X8_isLeaf ⟨rfl, rfl⟩ ⟨by decide, by decide⟩ (gir_8 hB kq_79) (gc_k kq_79) rfl (As := [.int x1]) (rest := []) rfl (Nat.le_of_ble_eq_true rfl) ⟨Nat.zero_le _, Nat.zero_le _⟩ rfl dX8_where_2 (fun r2 M1 h => ?_)
  refine wl_if_ne C (tgt := 10) dX8_where_5 (by decide) (fun hc => ?_) (fun hc => ?_)
  · have h := h.1 hc
    refine wl_iconst (v := 0) C dX8_where_10 (by decide) ?_
    refine wl_istore_n (i := 2) (lv' := [(2, .int (0 : Int32)), (0, .ref (gAD G 79)), (1, .int x1)]) C dX8_where_11 rfl (by decide) rfl ?_
    refine wl_sub [1, 2, 0] rfl ?_
    obtain ⟨n3, h⟩ := h
    exact kX8_where_12 l G hg hB x1 C hr n3 (0 : Int32) M1 h
  · have h := h.2 hc
    refine wl_iconst (v := (-1)) C dX8_where_8 (by decide) ?_
    exact wl_iret C hr h dX8_where_9
set_option maxRecDepth 100000 in
set_option maxHeartbeats 4000000 in
theorem kX8_read_76 (l : Launch) (G : gP) (hg : gIn G) (hB : gRf G) {p : Program} {e : Env} {s : State} {m : MethodId} {args : Array Value} {below : List Frame} {meth : Method} {c : Code} (C : Cx p s m args meth c G (gA G) cX8_read 2 RX8) (hr : meth.sig.returnType = (some (Jvm.ClassFile.FieldType.int))) {Q : Int32 → Mem → Prop} (v1 : Int32) (M : Mem) (h : wX8_read_76 Q v1 M) : Wl p l e rmX8_read s m args below meth c (MQ below (va_Qi Q (gB G) (gA G)) args s 0 0 (gA G)) G (gA G) 2 0 0 M 76 [(1, .int v1)] [] := by
  have h : Q v1 M := h
  refine wl_iload_n C dX8_read_76 0 rfl ?_
  exact wl_iret C hr h dX8_read_77
set_option maxRecDepth 100000 in
set_option maxHeartbeats 4000000 in
theorem cX8_read_M (l : Launch) (G : gP) (hg : gIn G) (hB : gRf G) (M : Mem) (Q : Int32 → Mem → Prop) : Met l yX8_read (Cond.code yX8_read cX8_read 2 (some (Jvm.ClassFile.FieldType.int)) :: TB) rmX8_read (va_Pc [.ref (gAD G 79)] (fun U => gS G M U ∧ wX8_read M Q)) (va_Qi Q (gB G) (gA G)) 0 0 (gA G) := by
  refine gMet (by decide +kernel) (show _ = Cond.code yX8_read cX8_read 2 (some (Jvm.ClassFile.FieldType.int)) from rfl) hg (Nat.le_of_ble_eq_true rfl) [(0, .ref (gAD G 79))] rfl ?_
  intro p e s m args below meth c C hr h
  have h : (vp_in (0 : Int32) (ln 90) ∧ (vp_in (0 : Int32) (ln 83) ∧ (vp_in (0 : Int32) (ln 84) ∧ (vp_in (0 : Int32) (ln 91) ∧ (wX8_goRead 90 (0 : Int32) (M 83 (0 : Int32).toNatClampNeg) (M 84 (0 : Int32).toNatClampNeg) (M 91 (0 : Int32).toNatClampNeg) M (fun M1 => (vp_in (0 : Int32) (ln 91) ∧ (vp_in (0 : Int32) (ln 91) ∧ (vp_in (0 : Int32) (ln 91) ∧ (vp_in (0 : Int32) (ln 82) ∧ ((¬ ((mu M1 91 (0 : Int32).toNatClampNeg ((M1 91 (0 : Int32).toNatClampNeg) + (1 : Int32))) 91 (0 : Int32).toNatClampNeg) = ((mu M1 91 (0 : Int32).toNatClampNeg ((M1 91 (0 : Int32).toNatClampNeg) + (1 : Int32))) 82 (0 : Int32).toNatClampNeg) → wX8_read_76 Q (M 90 (0 : Int32).toNatClampNeg) (mu M1 91 (0 : Int32).toNatClampNeg ((M1 91 (0 : Int32).toNatClampNeg) + (1 : Int32)))) ∧ (((mu M1 91 (0 : Int32).toNatClampNeg ((M1 91 (0 : Int32).toNatClampNeg) + (1 : Int32))) 91 (0 : Int32).toNatClampNeg) = ((mu M1 91 (0 : Int32).toNatClampNeg ((M1 91 (0 : Int32).toNatClampNeg) + (1 : Int32))) 82 (0 : Int32).toNatClampNeg) → (vp_in (0 : Int32) (ln 91) ∧ (vp_in (0 : Int32) (ln 92) ∧ (vp_in (0 : Int32) (ln 92) ∧ wX8_read_76 Q (M 90 (0 : Int32).toNatClampNeg) (mu (mu (mu M1 91 (0 : Int32).toNatClampNeg ((M1 91 (0 : Int32).toNatClampNeg) + (1 : Int32))) 91 (0 : Int32).toNatClampNeg (0 : Int32)) 92 (0 : Int32).toNatClampNeg (((mu (mu M1 91 (0 : Int32).toNatClampNeg ((M1 91 (0 : Int32).toNatClampNeg) + (1 : Int32))) 91 (0 : Int32).toNatClampNeg (0 : Int32)) 92 (0 : Int32).toNatClampNeg) + (1 : Int32)))))))))))))))))) := h
  refine wl_aload_n C dX8_read_0 0 rfl ?_
  refine gf_8_11 C kq_79 (gir_8 hB kq_79) tw_604 dX8_read_1 ?_
  refine wl_iconst (v := 0) C dX8_read_4 (by decide) ?_
  refine ga_ld10 C kq_90 (gir_10 hB kq_90) h.1 dX8_read_5 ?_
  have h := h.2
  refine wl_istore_n (i := 1) (lv' := [(1, .int (M 90 (0 : Int32).toNatClampNeg)), (0, .ref (gAD G 79))]) C dX8_read_6 rfl (by decide) rfl ?_
  refine wl_aload_n C dX8_read_7 1 rfl ?_
  refine wl_aload_n C dX8_read_8 1 rfl ?_
  refine gf_8_11 C kq_79 (gir_8 hB kq_79) tw_604 dX8_read_9 ?_
  refine wl_iconst (v := 0) C dX8_read_12 (by decide) ?_
  refine wl_aload_n C dX8_read_13 1 rfl ?_
  refine gf_8_4 C kq_79 (gir_8 hB kq_79) tw_597 dX8_read_14 ?_
  refine wl_iconst (v := 0) C dX8_read_17 (by decide) ?_
  refine ga_ld10 C kq_83 (gir_10 hB kq_83) h.1 dX8_read_18 ?_
  have h := h.2
  refine wl_aload_n C dX8_read_19 1 rfl ?_
  refine gf_8_5 C kq_79 (gir_8 hB kq_79) tw_598 dX8_read_20 ?_
  refine wl_iconst (v := 0) C dX8_read_23 (by decide) ?_
  refine ga_ld10 C kq_84 (gir_10 hB kq_84) h.1 dX8_read_24 ?_
  have h := h.2
  refine wl_aload_n C dX8_read_25 1 rfl ?_
  refine gf_8_12 C kq_79 (gir_8 hB kq_79) tw_605 dX8_read_26 ?_
  refine wl_iconst (v := 0) C dX8_read_29 (by decide) ?_
  refine ga_ld10 C kq_91 (gir_10 hB kq_91) h.1 dX8_read_30 ?_
  have h := h.2
  refine wl_callVv C (cX8_goRead_M l G hg hB 90 (0 : Int32) (M 83 (0 : Int32).toNatClampNeg) (M 84 (0 : Int32).toNatClampNeg) (M 91 (0 : Int32).toNatClampNeg) kq_90 M _) h cw_RX8_158 hd_X8_goRead ⟨rfl, rfl⟩ ⟨by decide, by decide⟩ (gir_8 hB kq_79) (gc_k kq_79) rfl (As := [.ref (gAD G 90), .int (0 : Int32), .int (M 83 (0 : Int32).toNatClampNeg), .int (M 84 (0 : Int32).toNatClampNeg), .int (M 91 (0 : Int32).toNatClampNeg)]) (rest := []) rfl (Nat.le_of_ble_eq_true rfl) ⟨Nat.zero_le _, Nat.zero_le _⟩ rfl dX8_read_31 (fun M1 h => ?_)
  refine wl_aload_n C dX8_read_34 1 rfl ?_
  refine gf_8_12 C kq_79 (gir_8 hB kq_79) tw_605 dX8_read_35 ?_
  refine wl_iconst (v := 0) C dX8_read_38 (by decide) ?_
  refine wl_dup2 C dX8_read_39 rfl rfl ?_
  refine ga_ld10 C kq_91 (gir_10 hB kq_91) h.1 dX8_read_40 ?_
  have h := h.2
  refine wl_iconst (v := 1) C dX8_read_41 (by decide) ?_
  refine wl_iadd C dX8_read_42 ?_
  refine ga_st10 C kq_91 (gir_10 hB kq_91) h.1 dX8_read_43 ?_
  have h := h.2
  refine wl_aload_n C dX8_read_44 1 rfl ?_
  refine gf_8_12 C kq_79 (gir_8 hB kq_79) tw_605 dX8_read_45 ?_
  refine wl_iconst (v := 0) C dX8_read_48 (by decide) ?_
  refine ga_ld10 C kq_91 (gir_10 hB kq_91) h.1 dX8_read_49 ?_
  have h := h.2
  refine wl_aload_n C dX8_read_50 1 rfl ?_
  refine gf_8_3 C kq_79 (gir_8 hB kq_79) tw_596 dX8_read_51 ?_
  refine wl_iconst (v := 0) C dX8_read_54 (by decide) ?_
  refine ga_ld10 C kq_82 (gir_10 hB kq_82) h.1 dX8_read_55 ?_
  have h := h.2
  refine wl_icmp_ne C (tgt := 76) dX8_read_56 (by decide) (fun hc => ?_) (fun hc => ?_)
  · have h := h.1 hc
    refine wl_sub [0] rfl ?_
    exact kX8_read_76 l G hg hB C hr (M 90 (0 : Int32).toNatClampNeg) (mu M1 91 (0 : Int32).toNatClampNeg ((M1 91 (0 : Int32).toNatClampNeg) + (1 : Int32))) h
  · have h := h.2 hc
    refine wl_aload_n C dX8_read_59 1 rfl ?_
    refine gf_8_12 C kq_79 (gir_8 hB kq_79) tw_605 dX8_read_60 ?_
    refine wl_iconst (v := 0) C dX8_read_63 (by decide) ?_
    refine wl_iconst (v := 0) C dX8_read_64 (by decide) ?_
    refine ga_st10 C kq_91 (gir_10 hB kq_91) h.1 dX8_read_65 ?_
    have h := h.2
    refine wl_aload_n C dX8_read_66 1 rfl ?_
    refine gf_8_13 C kq_79 (gir_8 hB kq_79) tw_606 dX8_read_67 ?_
    refine wl_iconst (v := 0) C dX8_read_70 (by decide) ?_
    refine wl_dup2 C dX8_read_71 rfl rfl ?_
    refine ga_ld10 C kq_92 (gir_10 hB kq_92) h.1 dX8_read_72 ?_
    have h := h.2
    refine wl_iconst (v := 1) C dX8_read_73 (by decide) ?_
    refine wl_iadd C dX8_read_74 ?_
    refine ga_st10 C kq_92 (gir_10 hB kq_92) h.1 dX8_read_75 ?_
    have h := h.2
    refine wl_sub [0] rfl ?_
    exact kX8_read_76 l G hg hB C hr (M 90 (0 : Int32).toNatClampNeg) (mu (mu (mu M1 91 (0 : Int32).toNatClampNeg ((M1 91 (0 : Int32).toNatClampNeg) + (1 : Int32))) 91 (0 : Int32).toNatClampNeg (0 : Int32)) 92 (0 : Int32).toNatClampNeg (((mu (mu M1 91 (0 : Int32).toNatClampNeg ((M1 91 (0 : Int32).toNatClampNeg) + (1 : Int32))) 91 (0 : Int32).toNatClampNeg (0 : Int32)) 92 (0 : Int32).toNatClampNeg) + (1 : Int32))) h
set_option maxRecDepth 100000 in
set_option maxHeartbeats 4000000 in
theorem kX8_finish_16 (l : Launch) (G : gP) (hg : gIn G) (hB : gRf G) {p : Program} {e : Env} {s : State} {m : MethodId} {args : Array Value} {below : List Frame} {meth : Method} {c : Code} (C : Cx p s m args meth c G (gA G) cX8_finish 3 RX8) (hr : meth.sig.returnType = (some (Jvm.ClassFile.FieldType.int))) {Q : Int32 → Mem → Prop} : ∀ (n : Nat) (v1 : Int32) (v2 : Int32) (M : Mem), wX8_finish_16 Q n v1 v2 M → Wl p l e rmX8_finish s m args below meth c (MQ below (va_Qi Q (gB G) (gA G)) args s 0 0 (gA G)) G (gA G) 3 0 0 M 16 [(0, .ref (gAD G 79)), (1, .int v1), (2, .int v2)] [] := by
  intro n
  induction n with
  | zero => intro v1 v2 M h; exact h.elim
  | succ n ih =>
    intro v1 v2 M h
    have h : ((v1 ≤ v2 → Q v1 M) ∧ (¬ v1 ≤ v2 → (wX8_read M (fun r3 M2 => wX8_finish_16 Q n v1 (v2 + (1 : Int32)) M2)))) := h
    refine wl_iload_n C dX8_finish_16 2 rfl ?_
    refine wl_iload_n C dX8_finish_17 1 rfl ?_
    refine wl_icmp_ge C (tgt := 32) dX8_finish_18 (by decide) (fun hc => ?_) (fun hc => ?_)
    · have h := h.1 hc
      refine wl_iload_n C dX8_finish_32 1 rfl ?_
      exact wl_iret C hr h dX8_finish_33
    · have h := h.2 hc
      refine wl_aload_n C dX8_finish_21 0 rfl ?_
      refine wl_callVi C (cX8_read_M l G hg hB M _) h cw_RX8_162 hd_X8_read ⟨rfl, rfl⟩ ⟨by decide, by decide⟩ (gir_8 hB kq_79) (gc_k kq_79) rfl (As := []) (rest := []) rfl (Nat.le_of_ble_eq_true rfl) ⟨Nat.zero_le _, Nat.zero_le _⟩ rfl dX8_finish_22 (fun r3 M2 h => ?_)
      refine wl_pop C dX8_finish_25 rfl ?_
      refine wl_iinc (v := (v2 + (1 : Int32))) (lv' := [(2, .int (v2 + (1 : Int32))), (0, .ref (gAD G 79)), (1, .int v1)]) C dX8_finish_26 2 rfl (by rfl) (by decide) rfl ?_
      refine wl_goto C (tgt := 16) dX8_finish_29 (by decide) ?_
      refine wl_sub [1, 2, 0] rfl ?_
      exact ih v1 (v2 + (1 : Int32)) M2 h
set_option maxRecDepth 100000 in
set_option maxHeartbeats 4000000 in
theorem cX8_finish_M (l : Launch) (G : gP) (hg : gIn G) (hB : gRf G) (M : Mem) (Q : Int32 → Mem → Prop) : Met l yX8_finish (Cond.code yX8_finish cX8_finish 3 (some (Jvm.ClassFile.FieldType.int)) :: TB) rmX8_finish (va_Pc [.ref (gAD G 79)] (fun U => gS G M U ∧ wX8_finish M Q)) (va_Qi Q (gB G) (gA G)) 0 0 (gA G) := by
  refine gMet (by decide +kernel) (show _ = Cond.code yX8_finish cX8_finish 3 (some (Jvm.ClassFile.FieldType.int)) from rfl) hg (Nat.le_of_ble_eq_true rfl) [(0, .ref (gAD G 79))] rfl ?_
  intro p e s m args below meth c C hr h
  have h : (vp_in (0 : Int32) (ln 82) ∧ (vp_in (0 : Int32) (ln 91) ∧ (∃ n1, wX8_finish_16 Q n1 ((M 82 (0 : Int32).toNatClampNeg) - (M 91 (0 : Int32).toNatClampNeg)) (0 : Int32) M))) := h
  refine wl_aload_n C dX8_finish_0 0 rfl ?_
  refine gf_8_3 C kq_79 (gir_8 hB kq_79) tw_596 dX8_finish_1 ?_
  refine wl_iconst (v := 0) C dX8_finish_4 (by decide) ?_
  refine ga_ld10 C kq_82 (gir_10 hB kq_82) h.1 dX8_finish_5 ?_
  have h := h.2
  refine wl_aload_n C dX8_finish_6 0 rfl ?_
  refine gf_8_12 C kq_79 (gir_8 hB kq_79) tw_605 dX8_finish_7 ?_
  refine wl_iconst (v := 0) C dX8_finish_10 (by decide) ?_
  refine ga_ld10 C kq_91 (gir_10 hB kq_91) h.1 dX8_finish_11 ?_
  have h := h.2
  refine wl_isub C dX8_finish_12 ?_
  refine wl_istore_n (i := 1) (lv' := [(1, .int ((M 82 (0 : Int32).toNatClampNeg) - (M 91 (0 : Int32).toNatClampNeg))), (0, .ref (gAD G 79))]) C dX8_finish_13 rfl (by decide) rfl ?_
  refine wl_iconst (v := 0) C dX8_finish_14 (by decide) ?_
  refine wl_istore_n (i := 2) (lv' := [(2, .int (0 : Int32)), (1, .int ((M 82 (0 : Int32).toNatClampNeg) - (M 91 (0 : Int32).toNatClampNeg))), (0, .ref (gAD G 79))]) C dX8_finish_15 rfl (by decide) rfl ?_
  refine wl_sub [2, 1, 0] rfl ?_
  obtain ⟨n1, h⟩ := h
  exact kX8_finish_16 l G hg hB C hr n1 ((M 82 (0 : Int32).toNatClampNeg) - (M 91 (0 : Int32).toNatClampNeg)) (0 : Int32) M h
set_option maxRecDepth 100000 in
set_option maxHeartbeats 4000000 in
theorem kX8_change_16 (l : Launch) (G : gP) (hg : gIn G) (hB : gRf G) (x1 : Int32) (x2 : Int32) {p : Program} {e : Env} {s : State} {m : MethodId} {args : Array Value} {below : List Frame} {meth : Method} {c : Code} (C : Cx p s m args meth c G (gA G) cX8_change 4 RX8) (hr : meth.sig.returnType = (some (Jvm.ClassFile.FieldType.int))) {Q : Int32 → Mem → Prop} (M : Mem) (h : wX8_change_16 x1 x2 Q M) : Wl p l e rmX8_change s m args below meth c (MQ below (va_Qi Q (gB G) (gA G)) args s 0 0 (gA G)) G (gA G) 4 0 0 M 16 [] [] := by
  have h : Q (-1 : Int32) M := h
  refine wl_iconst (v := (-1)) C dX8_change_16 (by decide) ?_
  exact wl_iret C hr h dX8_change_17
set_option maxRecDepth 100000 in
set_option maxHeartbeats 4000000 in
theorem cX8_change_M (l : Launch) (G : gP) (hg : gIn G) (hB : gRf G) (x1 : Int32) (x2 : Int32) (M : Mem) (Q : Int32 → Mem → Prop) : Met l yX8_change (Cond.code yX8_change cX8_change 4 (some (Jvm.ClassFile.FieldType.int)) :: TB) rmX8_change (va_Pc [.ref (gAD G 79), .int x1, .int x2] (fun U => gS G M U ∧ wX8_change x1 x2 M Q)) (va_Qi Q (gB G) (gA G)) 0 0 (gA G) := by
  refine gMet (by decide +kernel) (show _ = Cond.code yX8_change cX8_change 4 (some (Jvm.ClassFile.FieldType.int)) from rfl) hg (Nat.le_of_ble_eq_true rfl) [(0, .ref (gAD G 79)), (1, .int x1), (2, .int x2)] rfl ?_
  intro p e s m args below meth c C hr h
  have h : (wX8_isLeaf x1 M (fun r2 M1 => ((r2 = 0 → wX8_change_16 x1 x2 Q M1) ∧ (¬ r2 = 0 → (wX8_isLeaf x2 M1 (fun r4 M3 => ((¬ r4 = 0 → (vp_in x1 (ln 90) ∧ (vp_in x2 (ln 90) ∧ (vp_in x1 (ln 90) ∧ (vp_in x2 (ln 90) ∧ (vp_in x1 (ln 90) ∧ Q ((mu (mu M3 90 x1.toNatClampNeg (M3 90 x2.toNatClampNeg)) 90 x2.toNatClampNeg (M3 90 x1.toNatClampNeg)) 90 x1.toNatClampNeg) (mu (mu M3 90 x1.toNatClampNeg (M3 90 x2.toNatClampNeg)) 90 x2.toNatClampNeg (M3 90 x1.toNatClampNeg)))))))) ∧ (r4 = 0 → wX8_change_16 x1 x2 Q M3)))))))) := h
  refine wl_aload_n C dX8_change_0 0 rfl ?_
  refine wl_iload_n C dX8_change_1 1 rfl ?_
  refine wl_callVi C (cX8_isLeaf_M l G hg hB x1 M _) h cw_RX8_155 hd_X8_isLeaf ⟨rfl, rfl⟩ ⟨by decide, by decide⟩ (gir_8 hB kq_79) (gc_k kq_79) rfl (As := [.int x1]) (rest := []) rfl (Nat.le_of_ble_eq_true rfl) ⟨Nat.zero_le _, Nat.zero_le _⟩ rfl dX8_change_2 (fun r2 M1 h => ?_)
  refine wl_if_eq C (tgt := 16) dX8_change_5 (by decide) (fun hc => ?_) (fun hc => ?_)
  · have h := h.1 hc
    refine wl_sub [] rfl ?_
    exact kX8_change_16 l G hg hB x1 x2 C hr M1 h
  · have h := h.2 hc
    refine wl_aload_n C dX8_change_8 0 rfl ?_
    refine wl_iload_n C dX8_change_9 2 rfl ?_
    refine wl_callVi C (cX8_isLeaf_M l G hg hB x2 M1 _) h cw_RX8_155 hd_X8_isLeaf ⟨rfl, rfl⟩ ⟨by decide, by decide⟩ (gir_8 hB kq_79) (gc_k kq_79) rfl (As := [.int x2]) (rest := []) rfl (Nat.le_of_ble_eq_true rfl) ⟨Nat.zero_le _, Nat.zero_le _⟩ rfl dX8_change_10 (fun r4 M3 h => ?_)
    refine wl_if_ne C (tgt := 18) dX8_change_13 (by decide) (fun hc => ?_) (fun hc => ?_)
    · have h := h.1 hc
      refine wl_aload_n C dX8_change_18 0 rfl ?_
      refine gf_8_11 C kq_79 (gir_8 hB kq_79) tw_604 dX8_change_19 ?_
      refine wl_iload_n C dX8_change_22 1 rfl ?_
      refine ga_ld10 C kq_90 (gir_10 hB kq_90) h.1 dX8_change_23 ?_
      have h := h.2
      refine wl_istore_n (i := 3) (lv' := [(3, .int (M3 90 x1.toNatClampNeg)), (0, .ref (gAD G 79)), (1, .int x1), (2, .int x2)]) C dX8_change_24 rfl (by decide) rfl ?_
      refine wl_aload_n C dX8_change_25 1 rfl ?_
      refine gf_8_11 C kq_79 (gir_8 hB kq_79) tw_604 dX8_change_26 ?_
      refine wl_iload_n C dX8_change_29 2 rfl ?_
      refine wl_aload_n C dX8_change_30 1 rfl ?_
      refine gf_8_11 C kq_79 (gir_8 hB kq_79) tw_604 dX8_change_31 ?_
      refine wl_iload_n C dX8_change_34 3 rfl ?_
      refine ga_ld10 C kq_90 (gir_10 hB kq_90) h.1 dX8_change_35 ?_
      have h := h.2
      refine ga_st10 C kq_90 (gir_10 hB kq_90) h.1 dX8_change_36 ?_
      have h := h.2
      refine wl_aload_n C dX8_change_37 1 rfl ?_
      refine gf_8_11 C kq_79 (gir_8 hB kq_79) tw_604 dX8_change_38 ?_
      refine wl_iload_n C dX8_change_41 3 rfl ?_
      refine wl_iload_n C dX8_change_42 0 rfl ?_
      refine ga_st10 C kq_90 (gir_10 hB kq_90) h.1 dX8_change_43 ?_
      have h := h.2
      refine wl_aload_n C dX8_change_44 1 rfl ?_
      refine gf_8_11 C kq_79 (gir_8 hB kq_79) tw_604 dX8_change_45 ?_
      refine wl_iload_n C dX8_change_48 2 rfl ?_
      refine ga_ld10 C kq_90 (gir_10 hB kq_90) h.1 dX8_change_49 ?_
      have h := h.2
      exact wl_iret C hr h dX8_change_50
    · have h := h.2 hc
      refine wl_sub [] rfl ?_
      exact kX8_change_16 l G hg hB x1 x2 C hr M3 h
set_option maxRecDepth 100000 in
set_option maxHeartbeats 4000000 in
theorem kX8_drop_23 (l : Launch) (G : gP) (hg : gIn G) (hB : gRf G) (x1 : Int32) {p : Program} {e : Env} {s : State} {m : MethodId} {args : Array Value} {below : List Frame} {meth : Method} {c : Code} (C : Cx p s m args meth c G (gA G) cX8_drop 5 RX8) (hr : meth.sig.returnType = (some (Jvm.ClassFile.FieldType.int))) {Q : Int32 → Mem → Prop} : ∀ (n : Nat) (v2 : Int32) (M : Mem), wX8_drop_23 x1 Q n v2 M → Wl p l e rmX8_drop s m args below meth c (MQ below (va_Qi Q (gB G) (gA G)) args s 0 0 (gA G)) G (gA G) 5 0 0 M 23 [(0, .ref (gAD G 79)), (1, .int x1), (2, .int v2)] [] := by
  intro n
  induction n with
  | zero => intro v2 M h; exact h.elim
  | succ n ih =>
    intro v2 M h
    have h : ((v2 ≤ 0 → (vp_in (0 : Int32) (ln 91) ∧ (vp_in (0 : Int32) (ln 90) ∧ Q ((mu M 91 (0 : Int32).toNatClampNeg (0 : Int32)) 90 (0 : Int32).toNatClampNeg) (mu M 91 (0 : Int32).toNatClampNeg (0 : Int32))))) ∧ (¬ v2 ≤ 0 → (¬ (65521 : Int64) = 0 ∧ (¬ (v2 + (1 : Int32)).toInt64 = 0 ∧ (wX8_change v2 ((((((((7919 : Int64) * x1.toInt64) + ((6151 : Int64) * v2.toInt64)) + (1 : Int64)) * ((((7919 : Int64) * x1.toInt64) + ((6151 : Int64) * v2.toInt64)) + (1 : Int64))) - ((((((7919 : Int64) * x1.toInt64) + ((6151 : Int64) * v2.toInt64)) + (1 : Int64)) * ((((7919 : Int64) * x1.toInt64) + ((6151 : Int64) * v2.toInt64)) + (1 : Int64))) / (65521 : Int64)) * (65521 : Int64)) - (((((((7919 : Int64) * x1.toInt64) + ((6151 : Int64) * v2.toInt64)) + (1 : Int64)) * ((((7919 : Int64) * x1.toInt64) + ((6151 : Int64) * v2.toInt64)) + (1 : Int64))) - ((((((7919 : Int64) * x1.toInt64) + ((6151 : Int64) * v2.toInt64)) + (1 : Int64)) * ((((7919 : Int64) * x1.toInt64) + ((6151 : Int64) * v2.toInt64)) + (1 : Int64))) / (65521 : Int64)) * (65521 : Int64)) / (v2 + (1 : Int32)).toInt64) * (v2 + (1 : Int32)).toInt64).toInt32) M (fun r5 M4 => wX8_drop_23 x1 Q n (v2 + (-1)) M4)))))) := h
    refine wl_iload_n C dX8_drop_23 2 rfl ?_
    refine wl_if_le C (tgt := 68) dX8_drop_24 (by decide) (fun hc => ?_) (fun hc => ?_)
    · have h := h.1 hc
      refine wl_aload_n C dX8_drop_68 0 rfl ?_
      refine gf_8_12 C kq_79 (gir_8 hB kq_79) tw_605 dX8_drop_69 ?_
      refine wl_iconst (v := 0) C dX8_drop_72 (by decide) ?_
      refine wl_iconst (v := 0) C dX8_drop_73 (by decide) ?_
      refine ga_st10 C kq_91 (gir_10 hB kq_91) h.1 dX8_drop_74 ?_
      have h := h.2
      refine wl_aload_n C dX8_drop_75 0 rfl ?_
      refine gf_8_11 C kq_79 (gir_8 hB kq_79) tw_604 dX8_drop_76 ?_
      refine wl_iconst (v := 0) C dX8_drop_79 (by decide) ?_
      refine ga_ld10 C kq_90 (gir_10 hB kq_90) h.1 dX8_drop_80 ?_
      have h := h.2
      exact wl_iret C hr h dX8_drop_81
    · have h := h.2 hc
      refine wl_ldc2 C tw_725 dX8_drop_27 ?_
      refine wl_iload_n C dX8_drop_30 1 rfl ?_
      refine wl_i2l C dX8_drop_31 ?_
      refine wl_lmul C dX8_drop_32 ?_
      refine wl_ldc2 C tw_726 dX8_drop_33 ?_
      refine wl_iload_n C dX8_drop_36 2 rfl ?_
      refine wl_i2l C dX8_drop_37 ?_
      refine wl_lmul C dX8_drop_38 ?_
      refine wl_ladd C dX8_drop_39 ?_
      refine wl_lconst (v := 1) C dX8_drop_40 (by decide) ?_
      refine wl_ladd C dX8_drop_41 ?_
      refine wl_lstore_n (i := 3) (lv' := [(3, .long ((((7919 : Int64) * x1.toInt64) + ((6151 : Int64) * v2.toInt64)) + (1 : Int64))), (0, .ref (gAD G 79)), (1, .int x1), (2, .int v2)]) C dX8_drop_42 rfl (by decide) rfl ?_
      refine wl_aload_n C dX8_drop_43 1 rfl ?_
      refine wl_iload_n C dX8_drop_44 3 rfl ?_
      refine wl_lload_n C dX8_drop_45 0 rfl ?_
      refine wl_lload_n C dX8_drop_46 0 rfl ?_
      refine wl_lmul C dX8_drop_47 ?_
      refine wl_ldc2 C tw_727 dX8_drop_48 ?_
      refine wl_lrem C dX8_drop_51 h.1 ?_
      have h := h.2
      refine wl_iload_n C dX8_drop_52 3 rfl ?_
      refine wl_iconst (v := 1) C dX8_drop_53 (by decide) ?_
      refine wl_iadd C dX8_drop_54 ?_
      refine wl_i2l C dX8_drop_55 ?_
      refine wl_lrem C dX8_drop_56 h.1 ?_
      have h := h.2
      refine wl_l2i C dX8_drop_57 ?_
      refine wl_callVi C (cX8_change_M l G hg hB v2 ((((((((7919 : Int64) * x1.toInt64) + ((6151 : Int64) * v2.toInt64)) + (1 : Int64)) * ((((7919 : Int64) * x1.toInt64) + ((6151 : Int64) * v2.toInt64)) + (1 : Int64))) - ((((((7919 : Int64) * x1.toInt64) + ((6151 : Int64) * v2.toInt64)) + (1 : Int64)) * ((((7919 : Int64) * x1.toInt64) + ((6151 : Int64) * v2.toInt64)) + (1 : Int64))) / (65521 : Int64)) * (65521 : Int64)) - (((((((7919 : Int64) * x1.toInt64) + ((6151 : Int64) * v2.toInt64)) + (1 : Int64)) * ((((7919 : Int64) * x1.toInt64) + ((6151 : Int64) * v2.toInt64)) + (1 : Int64))) - ((((((7919 : Int64) * x1.toInt64) + ((6151 : Int64) * v2.toInt64)) + (1 : Int64)) * ((((7919 : Int64) * x1.toInt64) + ((6151 : Int64) * v2.toInt64)) + (1 : Int64))) / (65521 : Int64)) * (65521 : Int64)) / (v2 + (1 : Int32)).toInt64) * (v2 + (1 : Int32)).toInt64).toInt32) M _) h cw_RX8_173 hd_X8_change ⟨rfl, rfl⟩ ⟨by decide, by decide⟩ (gir_8 hB kq_79) (gc_k kq_79) rfl (As := [.int v2, .int (((((((7919 : Int64) * x1.toInt64) + ((6151 : Int64) * v2.toInt64)) + (1 : Int64)) * ((((7919 : Int64) * x1.toInt64) + ((6151 : Int64) * v2.toInt64)) + (1 : Int64))) - ((((((7919 : Int64) * x1.toInt64) + ((6151 : Int64) * v2.toInt64)) + (1 : Int64)) * ((((7919 : Int64) * x1.toInt64) + ((6151 : Int64) * v2.toInt64)) + (1 : Int64))) / (65521 : Int64)) * (65521 : Int64)) - (((((((7919 : Int64) * x1.toInt64) + ((6151 : Int64) * v2.toInt64)) + (1 : Int64)) * ((((7919 : Int64) * x1.toInt64) + ((6151 : Int64) * v2.toInt64)) + (1 : Int64))) - ((((((7919 : Int64) * x1.toInt64) + ((6151 : Int64) * v2.toInt64)) + (1 : Int64)) * ((((7919 : Int64) * x1.toInt64) + ((6151 : Int64) * v2.toInt64)) + (1 : Int64))) / (65521 : Int64)) * (65521 : Int64)) / (v2 + (1 : Int32)).toInt64) * (v2 + (1 : Int32)).toInt64).toInt32]) (rest := []) rfl (Nat.le_of_ble_eq_true rfl) ⟨Nat.zero_le _, Nat.zero_le _⟩ rfl dX8_drop_58 (fun r5 M4 h => ?_)
      refine wl_pop C dX8_drop_61 rfl ?_
      refine wl_iinc (v := (v2 + (-1))) (lv' := [(2, .int (v2 + (-1))), (3, .long ((((7919 : Int64) * x1.toInt64) + ((6151 : Int64) * v2.toInt64)) + (1 : Int64))), (0, .ref (gAD G 79)), (1, .int x1)]) C dX8_drop_62 3 rfl (by rfl) (by decide) rfl ?_
      refine wl_goto C (tgt := 23) dX8_drop_65 (by decide) ?_
      refine wl_sub [2, 3, 0] rfl ?_
      exact ih (v2 + (-1)) M4 h
set_option maxRecDepth 100000 in
set_option maxHeartbeats 4000000 in
theorem cX8_drop_M (l : Launch) (G : gP) (hg : gIn G) (hB : gRf G) (x1 : Int32) (M : Mem) (Q : Int32 → Mem → Prop) : Met l yX8_drop (Cond.code yX8_drop cX8_drop 5 (some (Jvm.ClassFile.FieldType.int)) :: TB) rmX8_drop (va_Pc [.ref (gAD G 79), .int x1] (fun U => gS G M U ∧ wX8_drop x1 M Q)) (va_Qi Q (gB G) (gA G)) 0 0 (gA G) := by
  refine gMet (by decide +kernel) (show _ = Cond.code yX8_drop cX8_drop 5 (some (Jvm.ClassFile.FieldType.int)) from rfl) hg (Nat.le_of_ble_eq_true rfl) [(0, .ref (gAD G 79)), (1, .int x1)] rfl ?_
  intro p e s m args below meth c C hr h
  have h : (wX8_in x1.toInt64 (0 : Int64) (9999 : Int64) M (fun r2 M1 => ((¬ r2 = 0 → (vp_in (0 : Int32) (ln 81) ∧ (∃ n3, wX8_drop_23 x1 Q n3 ((M1 81 (0 : Int32).toNatClampNeg) - (1 : Int32)) M1))) ∧ (r2 = 0 → Q (-1 : Int32) M1)))) := h
  refine wl_iload_n C dX8_drop_0 1 rfl ?_
  refine wl_i2l C dX8_drop_1 ?_
  refine wl_lconst (v := 0) C dX8_drop_2 (by decide) ?_
  refine wl_ldc2 C tw_724 dX8_drop_3 ?_
  refine wl_callSi C (cX8_in_M l G hg hB x1.toInt64 (0 : Int64) (9999 : Int64) M _) h cw_RX8_98 hd_X8_in ⟨rfl, rfl⟩ ⟨by decide, by decide⟩ (As := [.long x1.toInt64, .long (0 : Int64), .long (9999 : Int64)]) (rest := []) rfl (Nat.le_of_ble_eq_true rfl) ⟨Nat.zero_le _, Nat.zero_le _⟩ rfl dX8_drop_6 (fun r2 M1 h => ?_)
  refine wl_if_ne C (tgt := 14) dX8_drop_9 (by decide) (fun hc => ?_) (fun hc => ?_)
  · have h := h.1 hc
    refine wl_aload_n C dX8_drop_14 0 rfl ?_
    refine gf_8_2 C kq_79 (gir_8 hB kq_79) tw_595 dX8_drop_15 ?_
    refine wl_iconst (v := 0) C dX8_drop_18 (by decide) ?_
    refine ga_ld10 C kq_81 (gir_10 hB kq_81) h.1 dX8_drop_19 ?_
    have h := h.2
    refine wl_iconst (v := 1) C dX8_drop_20 (by decide) ?_
    refine wl_isub C dX8_drop_21 ?_
    refine wl_istore_n (i := 2) (lv' := [(2, .int ((M1 81 (0 : Int32).toNatClampNeg) - (1 : Int32))), (0, .ref (gAD G 79)), (1, .int x1)]) C dX8_drop_22 rfl (by decide) rfl ?_
    refine wl_sub [1, 2, 0] rfl ?_
    obtain ⟨n3, h⟩ := h
    exact kX8_drop_23 l G hg hB x1 C hr n3 ((M1 81 (0 : Int32).toNatClampNeg) - (1 : Int32)) M1 h
  · have h := h.2 hc
    refine wl_iconst (v := (-1)) C dX8_drop_12 (by decide) ?_
    exact wl_iret C hr h dX8_drop_13
set_option maxRecDepth 100000 in
set_option maxHeartbeats 4000000 in
theorem kX8_put_31 (l : Launch) (G : gP) (hg : gIn G) (hB : gRf G) (x1 : Nat) (x2 : Nat) (hk1 : kd x1 = 10) (hk2 : kd x2 = 10) {p : Program} {e : Env} {s : State} {m : MethodId} {args : Array Value} {below : List Frame} {meth : Method} {c : Code} (C : Cx p s m args meth c G (gA G) cX8_put 4 RX8) (hr : meth.sig.returnType = none) {Q : Mem → Prop} : ∀ (n : Nat) (v3 : Int32) (M : Mem), wX8_put_31 x1 x2 Q n v3 M → Wl p l e rmX8_put s m args below meth c (MQ below (va_Qv Q (gB G) (gA G)) args s 0 0 (gA G)) G (gA G) 4 0 0 M 31 [(0, .ref (gAD G 79)), (1, .ref (gAD G x1)), (3, .int v3)] [] := by
  intro n
  induction n with
  | zero => intro v3 M h; exact h.elim
  | succ n ih =>
    intro v3 M h
    have h : (vp_in (0 : Int32) (ln 81) ∧ (((M 81 (0 : Int32).toNatClampNeg) ≤ v3 → Q M) ∧ (¬ (M 81 (0 : Int32).toNatClampNeg) ≤ v3 → (vp_in v3 (ln 102) ∧ (vp_in v3 (ln x1) ∧ wX8_put_31 x1 x2 Q n (v3 + (1 : Int32)) (mu M x1 v3.toNatClampNeg (M 102 v3.toNatClampNeg))))))) := h
    refine wl_iload_n C dX8_put_31 2 rfl ?_
    refine wl_aload_n C dX8_put_32 0 rfl ?_
    refine gf_8_2 C kq_79 (gir_8 hB kq_79) tw_595 dX8_put_33 ?_
    refine wl_iconst (v := 0) C dX8_put_36 (by decide) ?_
    refine ga_ld10 C kq_81 (gir_10 hB kq_81) h.1 dX8_put_37 ?_
    have h := h.2
    refine wl_icmp_ge C (tgt := 56) dX8_put_38 (by decide) (fun hc => ?_) (fun hc => ?_)
    · have h := h.1 hc
      exact wl_vret C hr h dX8_put_56
    · have h := h.2 hc
      refine wl_aload_n C dX8_put_41 1 rfl ?_
      refine wl_iload_n C dX8_put_42 2 rfl ?_
      refine wl_aload_n C dX8_put_43 0 rfl ?_
      refine gf_8_26 C kq_79 (gir_8 hB kq_79) tw_619 dX8_put_44 ?_
      refine wl_iload_n C dX8_put_47 2 rfl ?_
      refine ga_ld10 C kq_102 (gir_10 hB kq_102) h.1 dX8_put_48 ?_
      have h := h.2
      refine ga_st10 C hk1 (gir_10 hB hk1) h.1 dX8_put_49 ?_
      have h := h.2
      refine wl_iinc (v := (v3 + (1 : Int32))) (lv' := [(3, .int (v3 + (1 : Int32))), (0, .ref (gAD G 79)), (1, .ref (gAD G x1))]) C dX8_put_50 2 rfl (by rfl) (by decide) rfl ?_
      refine wl_goto C (tgt := 31) dX8_put_53 (by decide) ?_
      refine wl_sub [1, 2, 0] rfl ?_
      exact ih (v3 + (1 : Int32)) (mu M x1 v3.toNatClampNeg (M 102 v3.toNatClampNeg)) h
set_option maxRecDepth 100000 in
set_option maxHeartbeats 4000000 in
theorem kX8_put_2 (l : Launch) (G : gP) (hg : gIn G) (hB : gRf G) (x1 : Nat) (x2 : Nat) (hk1 : kd x1 = 10) (hk2 : kd x2 = 10) {p : Program} {e : Env} {s : State} {m : MethodId} {args : Array Value} {below : List Frame} {meth : Method} {c : Code} (C : Cx p s m args meth c G (gA G) cX8_put 4 RX8) (hr : meth.sig.returnType = none) {Q : Mem → Prop} : ∀ (n : Nat) (v3 : Int32) (M : Mem), wX8_put_2 x1 x2 Q n v3 M → Wl p l e rmX8_put s m args below meth c (MQ below (va_Qv Q (gB G) (gA G)) args s 0 0 (gA G)) G (gA G) 4 0 0 M 2 [(0, .ref (gAD G 79)), (1, .ref (gAD G x1)), (2, .ref (gAD G x2)), (3, .int v3)] [] := by
  intro n
  induction n with
  | zero => intro v3 M h; exact h.elim
  | succ n ih =>
    intro v3 M h
    have h : (vp_in (0 : Int32) (ln 81) ∧ (((M 81 (0 : Int32).toNatClampNeg) ≤ v3 → (∃ n2, wX8_put_31 x1 x2 Q n2 (0 : Int32) M)) ∧ (¬ (M 81 (0 : Int32).toNatClampNeg) ≤ v3 → (vp_in v3 (ln x2) ∧ (vp_in (M x2 v3.toNatClampNeg) (ln x1) ∧ (vp_in v3 (ln 102) ∧ wX8_put_2 x1 x2 Q n (v3 + (1 : Int32)) (mu M 102 v3.toNatClampNeg (M x1 (M x2 v3.toNatClampNeg).toNatClampNeg)))))))) := h
    refine wl_iload_n C dX8_put_2 3 rfl ?_
    refine wl_aload_n C dX8_put_3 0 rfl ?_
    refine gf_8_2 C kq_79 (gir_8 hB kq_79) tw_595 dX8_put_4 ?_
    refine wl_iconst (v := 0) C dX8_put_7 (by decide) ?_
    refine ga_ld10 C kq_81 (gir_10 hB kq_81) h.1 dX8_put_8 ?_
    have h := h.2
    refine wl_icmp_ge C (tgt := 29) dX8_put_9 (by decide) (fun hc => ?_) (fun hc => ?_)
    · have h := h.1 hc
      refine wl_iconst (v := 0) C dX8_put_29 (by decide) ?_
      refine wl_istore_n (i := 3) (lv' := [(3, .int (0 : Int32)), (0, .ref (gAD G 79)), (1, .ref (gAD G x1)), (2, .ref (gAD G x2))]) C dX8_put_30 rfl (by decide) rfl ?_
      refine wl_sub [1, 2, 0] rfl ?_
      obtain ⟨n2, h⟩ := h
      exact kX8_put_31 l G hg hB x1 x2 hk1 hk2 C hr n2 (0 : Int32) M h
    · have h := h.2 hc
      refine wl_aload_n C dX8_put_12 0 rfl ?_
      refine gf_8_26 C kq_79 (gir_8 hB kq_79) tw_619 dX8_put_13 ?_
      refine wl_iload_n C dX8_put_16 3 rfl ?_
      refine wl_aload_n C dX8_put_17 1 rfl ?_
      refine wl_aload_n C dX8_put_18 2 rfl ?_
      refine wl_iload_n C dX8_put_19 3 rfl ?_
      refine ga_ld10 C hk2 (gir_10 hB hk2) h.1 dX8_put_20 ?_
      have h := h.2
      refine ga_ld10 C hk1 (gir_10 hB hk1) h.1 dX8_put_21 ?_
      have h := h.2
      refine ga_st10 C kq_102 (gir_10 hB kq_102) h.1 dX8_put_22 ?_
      have h := h.2
      refine wl_iinc (v := (v3 + (1 : Int32))) (lv' := [(3, .int (v3 + (1 : Int32))), (0, .ref (gAD G 79)), (1, .ref (gAD G x1)), (2, .ref (gAD G x2))]) C dX8_put_23 3 rfl (by rfl) (by decide) rfl ?_
      refine wl_goto C (tgt := 2) dX8_put_26 (by decide) ?_
      refine wl_sub [1, 2, 3, 0] rfl ?_
      exact ih (v3 + (1 : Int32)) (mu M 102 v3.toNatClampNeg (M x1 (M x2 v3.toNatClampNeg).toNatClampNeg)) h
set_option maxRecDepth 100000 in
set_option maxHeartbeats 4000000 in
theorem cX8_put_M (l : Launch) (G : gP) (hg : gIn G) (hB : gRf G) (x1 : Nat) (x2 : Nat) (hk1 : kd x1 = 10) (hk2 : kd x2 = 10) (M : Mem) (Q : Mem → Prop) : Met l yX8_put (Cond.code yX8_put cX8_put 4 none :: TB) rmX8_put (va_Pc [.ref (gAD G 79), .ref (gAD G x1), .ref (gAD G x2)] (fun U => gS G M U ∧ wX8_put x1 x2 M Q)) (va_Qv Q (gB G) (gA G)) 0 0 (gA G) := by
  refine gMet (by decide +kernel) (show _ = Cond.code yX8_put cX8_put 4 none from rfl) hg (Nat.le_of_ble_eq_true rfl) [(0, .ref (gAD G 79)), (1, .ref (gAD G x1)), (2, .ref (gAD G x2))] rfl ?_
  intro p e s m args below meth c C hr h
  have h : (∃ n1, wX8_put_2 x1 x2 Q n1 (0 : Int32) M) := h
  refine wl_iconst (v := 0) C dX8_put_0 (by decide) ?_
  refine wl_istore_n (i := 3) (lv' := [(3, .int (0 : Int32)), (0, .ref (gAD G 79)), (1, .ref (gAD G x1)), (2, .ref (gAD G x2))]) C dX8_put_1 rfl (by decide) rfl ?_
  refine wl_sub [1, 2, 3, 0] rfl ?_
  obtain ⟨n1, h⟩ := h
  exact kX8_put_2 l G hg hB x1 x2 hk1 hk2 C hr n1 (0 : Int32) M h
set_option maxRecDepth 100000 in
set_option maxHeartbeats 4000000 in
theorem kX8_layPower_63 (l : Launch) (G : gP) (hg : gIn G) (hB : gRf G) (x1 : Int64) {p : Program} {e : Env} {s : State} {m : MethodId} {args : Array Value} {below : List Frame} {meth : Method} {c : Code} (C : Cx p s m args meth c G (gA G) cX8_layPower 5 RX8) (hr : meth.sig.returnType = none) {Q : Mem → Prop} (k_35 : Int64 → Mem → Prop) (hk_35 : ∀ (v3 : Int64) (M : Mem), k_35 v3 M → Wl p l e rmX8_layPower s m args below meth c (MQ below (va_Qv Q (gB G) (gA G)) args s 0 0 (gA G)) G (gA G) 5 0 0 M 35 [(0, .ref (gAD G 79)), (3, .long v3)] []) (v3 : Int64) (M : Mem) (h : wX8_layPower_63 x1 k_35 Q v3 M) : Wl p l e rmX8_layPower s m args below meth c (MQ below (va_Qv Q (gB G) (gA G)) args s 0 0 (gA G)) G (gA G) 5 0 0 M 63 [(0, .ref (gAD G 79)), (3, .long v3)] [] := by
  have h : (wX8_put 101 101 M (fun M4 => (¬ (2 : Int64) = 0 ∧ k_35 (v3 / (2 : Int64)) M4))) := h
  refine wl_aload_n C dX8_layPower_63 0 rfl ?_
  refine wl_aload_n C dX8_layPower_64 0 rfl ?_
  refine gf_8_25 C kq_79 (gir_8 hB kq_79) tw_618 dX8_layPower_65 ?_
  refine wl_aload_n C dX8_layPower_68 0 rfl ?_
  refine gf_8_25 C kq_79 (gir_8 hB kq_79) tw_618 dX8_layPower_69 ?_
  refine wl_callVv C (cX8_put_M l G hg hB 101 101 kq_101 kq_101 M _) h cw_RX8_177 hd_X8_put ⟨rfl, rfl⟩ ⟨by decide, by decide⟩ (gir_8 hB kq_79) (gc_k kq_79) rfl (As := [.ref (gAD G 101), .ref (gAD G 101)]) (rest := []) rfl (Nat.le_of_ble_eq_true rfl) ⟨Nat.zero_le _, Nat.zero_le _⟩ rfl dX8_layPower_72 (fun M4 h => ?_)
  refine wl_lload_n C dX8_layPower_75 1 rfl ?_
  refine wl_ldc2 C tw_687 dX8_layPower_76 ?_
  refine wl_ldiv C dX8_layPower_79 h.1 ?_
  have h := h.2
  refine wl_lstore_n (i := 3) (lv' := [(3, .long (v3 / (2 : Int64))), (0, .ref (gAD G 79))]) C dX8_layPower_80 rfl (by decide) rfl ?_
  refine wl_goto C (tgt := 35) dX8_layPower_81 (by decide) ?_
  refine wl_sub [1, 0] rfl ?_
  exact hk_35 (v3 / (2 : Int64)) M4 h
set_option maxRecDepth 100000 in
set_option maxHeartbeats 4000000 in
theorem kX8_layPower_35 (l : Launch) (G : gP) (hg : gIn G) (hB : gRf G) (x1 : Int64) {p : Program} {e : Env} {s : State} {m : MethodId} {args : Array Value} {below : List Frame} {meth : Method} {c : Code} (C : Cx p s m args meth c G (gA G) cX8_layPower 5 RX8) (hr : meth.sig.returnType = none) {Q : Mem → Prop} : ∀ (n : Nat) (v3 : Int64) (M : Mem), wX8_layPower_35 x1 Q n v3 M → Wl p l e rmX8_layPower s m args below meth c (MQ below (va_Qv Q (gB G) (gA G)) args s 0 0 (gA G)) G (gA G) 5 0 0 M 35 [(0, .ref (gAD G 79)), (3, .long v3)] [] := by
  intro n
  induction n with
  | zero => intro v3 M h; exact h.elim
  | succ n ih =>
    intro v3 M h
    have h : (((lg_cmp v3 (0 : Int64)) ≤ 0 → Q M) ∧ (¬ (lg_cmp v3 (0 : Int64)) ≤ 0 → (¬ (2 : Int64) = 0 ∧ ((¬ (lg_cmp (v3 - (v3 / (2 : Int64)) * (2 : Int64)) (1 : Int64)) = 0 → wX8_layPower_63 x1 (wX8_layPower_35 x1 Q n) Q v3 M) ∧ ((lg_cmp (v3 - (v3 / (2 : Int64)) * (2 : Int64)) (1 : Int64)) = 0 → (wX8_put 100 101 M (fun M3 => wX8_layPower_63 x1 (wX8_layPower_35 x1 Q n) Q v3 M3))))))) := h
    refine wl_lload_n C dX8_layPower_35 1 rfl ?_
    refine wl_lconst (v := 0) C dX8_layPower_36 (by decide) ?_
    refine wl_lcmp C dX8_layPower_37 ?_
    refine wl_if_le C (tgt := 84) dX8_layPower_38 (by decide) (fun hc => ?_) (fun hc => ?_)
    · have h := h.1 hc
      exact wl_vret C hr h dX8_layPower_84
    · have h := h.2 hc
      refine wl_lload_n C dX8_layPower_41 1 rfl ?_
      refine wl_ldc2 C tw_687 dX8_layPower_42 ?_
      refine wl_lrem C dX8_layPower_45 h.1 ?_
      have h := h.2
      refine wl_lconst (v := 1) C dX8_layPower_46 (by decide) ?_
      refine wl_lcmp C dX8_layPower_47 ?_
      refine wl_if_ne C (tgt := 63) dX8_layPower_48 (by decide) (fun hc => ?_) (fun hc => ?_)
      · have h := h.1 hc
        refine wl_sub [0, 1] rfl ?_
        exact kX8_layPower_63 l G hg hB x1 C hr (wX8_layPower_35 x1 Q n) (ih) v3 M h
      · have h := h.2 hc
        refine wl_aload_n C dX8_layPower_51 0 rfl ?_
        refine wl_aload_n C dX8_layPower_52 0 rfl ?_
        refine gf_8_24 C kq_79 (gir_8 hB kq_79) tw_617 dX8_layPower_53 ?_
        refine wl_aload_n C dX8_layPower_56 0 rfl ?_
        refine gf_8_25 C kq_79 (gir_8 hB kq_79) tw_618 dX8_layPower_57 ?_
        refine wl_callVv C (cX8_put_M l G hg hB 100 101 kq_100 kq_101 M _) h cw_RX8_177 hd_X8_put ⟨rfl, rfl⟩ ⟨by decide, by decide⟩ (gir_8 hB kq_79) (gc_k kq_79) rfl (As := [.ref (gAD G 100), .ref (gAD G 101)]) (rest := []) rfl (Nat.le_of_ble_eq_true rfl) ⟨Nat.zero_le _, Nat.zero_le _⟩ rfl dX8_layPower_60 (fun M3 h => ?_)
        refine wl_sub [0, 1] rfl ?_
        exact kX8_layPower_63 l G hg hB x1 C hr (wX8_layPower_35 x1 Q n) (ih) v3 M3 h
set_option maxRecDepth 100000 in
set_option maxHeartbeats 4000000 in
theorem kX8_layPower_2 (l : Launch) (G : gP) (hg : gIn G) (hB : gRf G) (x1 : Int64) {p : Program} {e : Env} {s : State} {m : MethodId} {args : Array Value} {below : List Frame} {meth : Method} {c : Code} (C : Cx p s m args meth c G (gA G) cX8_layPower 5 RX8) (hr : meth.sig.returnType = none) {Q : Mem → Prop} : ∀ (n : Nat) (v3 : Int32) (M : Mem), wX8_layPower_2 x1 Q n v3 M → Wl p l e rmX8_layPower s m args below meth c (MQ below (va_Qv Q (gB G) (gA G)) args s 0 0 (gA G)) G (gA G) 5 0 0 M 2 [(0, .ref (gAD G 79)), (1, .long x1), (3, .int v3)] [] := by
  intro n
  induction n with
  | zero => intro v3 M h; exact h.elim
  | succ n ih =>
    intro v3 M h
    have h : (((40 : Int32) ≤ v3 → (∃ n2, wX8_layPower_35 x1 Q n2 x1 M)) ∧ (¬ (40 : Int32) ≤ v3 → (vp_in v3 (ln 100) ∧ (vp_in v3 (ln 99) ∧ (vp_in v3 (ln 101) ∧ wX8_layPower_2 x1 Q n (v3 + (1 : Int32)) (mu (mu M 100 v3.toNatClampNeg v3) 101 v3.toNatClampNeg ((mu M 100 v3.toNatClampNeg v3) 99 v3.toNatClampNeg))))))) := h
    refine wl_iload_n C dX8_layPower_2 2 rfl ?_
    refine wl_bipush (v := 40) C dX8_layPower_3 (by decide) ?_
    refine wl_icmp_ge C (tgt := 33) dX8_layPower_5 (by decide) (fun hc => ?_) (fun hc => ?_)
    · have h := h.1 hc
      refine wl_lload_n C dX8_layPower_33 1 rfl ?_
      refine wl_lstore_n (i := 3) (lv' := [(3, .long x1), (0, .ref (gAD G 79)), (1, .long x1)]) C dX8_layPower_34 rfl (by decide) rfl ?_
      refine wl_sub [1, 0] rfl ?_
      obtain ⟨n2, h⟩ := h
      exact kX8_layPower_35 l G hg hB x1 C hr n2 x1 M h
    · have h := h.2 hc
      refine wl_aload_n C dX8_layPower_8 0 rfl ?_
      refine gf_8_24 C kq_79 (gir_8 hB kq_79) tw_617 dX8_layPower_9 ?_
      refine wl_iload_n C dX8_layPower_12 2 rfl ?_
      refine wl_iload_n C dX8_layPower_13 2 rfl ?_
      refine ga_st10 C kq_100 (gir_10 hB kq_100) h.1 dX8_layPower_14 ?_
      have h := h.2
      refine wl_aload_n C dX8_layPower_15 0 rfl ?_
      refine gf_8_25 C kq_79 (gir_8 hB kq_79) tw_618 dX8_layPower_16 ?_
      refine wl_iload_n C dX8_layPower_19 2 rfl ?_
      refine wl_aload_n C dX8_layPower_20 0 rfl ?_
      refine gf_8_23 C kq_79 (gir_8 hB kq_79) tw_616 dX8_layPower_21 ?_
      refine wl_iload_n C dX8_layPower_24 2 rfl ?_
      refine ga_ld10 C kq_99 (gir_10 hB kq_99) h.1 dX8_layPower_25 ?_
      have h := h.2
      refine ga_st10 C kq_101 (gir_10 hB kq_101) h.1 dX8_layPower_26 ?_
      have h := h.2
      refine wl_iinc (v := (v3 + (1 : Int32))) (lv' := [(3, .int (v3 + (1 : Int32))), (0, .ref (gAD G 79)), (1, .long x1)]) C dX8_layPower_27 2 rfl (by rfl) (by decide) rfl ?_
      refine wl_goto C (tgt := 2) dX8_layPower_30 (by decide) ?_
      refine wl_sub [1, 2, 0] rfl ?_
      exact ih (v3 + (1 : Int32)) (mu (mu M 100 v3.toNatClampNeg v3) 101 v3.toNatClampNeg ((mu M 100 v3.toNatClampNeg v3) 99 v3.toNatClampNeg)) h
set_option maxRecDepth 100000 in
set_option maxHeartbeats 4000000 in
theorem cX8_layPower_M (l : Launch) (G : gP) (hg : gIn G) (hB : gRf G) (x1 : Int64) (M : Mem) (Q : Mem → Prop) : Met l yX8_layPower (Cond.code yX8_layPower cX8_layPower 5 none :: TB) rmX8_layPower (va_Pc [.ref (gAD G 79), .long x1] (fun U => gS G M U ∧ wX8_layPower x1 M Q)) (va_Qv Q (gB G) (gA G)) 0 0 (gA G) := by
  refine gMet (by decide +kernel) (show _ = Cond.code yX8_layPower cX8_layPower 5 none from rfl) hg (Nat.le_of_ble_eq_true rfl) [(0, .ref (gAD G 79)), (1, .long x1)] rfl ?_
  intro p e s m args below meth c C hr h
  have h : (∃ n1, wX8_layPower_2 x1 Q n1 (0 : Int32) M) := h
  refine wl_iconst (v := 0) C dX8_layPower_0 (by decide) ?_
  refine wl_istore_n (i := 3) (lv' := [(3, .int (0 : Int32)), (0, .ref (gAD G 79)), (1, .long x1)]) C dX8_layPower_1 rfl (by decide) rfl ?_
  refine wl_sub [1, 2, 0] rfl ?_
  obtain ⟨n1, h⟩ := h
  exact kX8_layPower_2 l G hg hB x1 C hr n1 (0 : Int32) M h
set_option maxRecDepth 100000 in
set_option maxHeartbeats 4000000 in
theorem cX8_placeOf_M (l : Launch) (G : gP) (hg : gIn G) (hB : gRf G) (x1 : Int32) (M : Mem) (Q : Int32 → Mem → Prop) : Met l yX8_placeOf (Cond.code yX8_placeOf cX8_placeOf 2 (some (Jvm.ClassFile.FieldType.int)) :: TB) rmX8_placeOf (va_Pc [.ref (gAD G 79), .int x1] (fun U => gS G M U ∧ wX8_placeOf x1 M Q)) (va_Qi Q (gB G) (gA G)) 0 0 (gA G) := by
  refine gMet (by decide +kernel) (show _ = Cond.code yX8_placeOf cX8_placeOf 2 (some (Jvm.ClassFile.FieldType.int)) from rfl) hg (Nat.le_of_ble_eq_true rfl) [(0, .ref (gAD G 79)), (1, .int x1)] rfl ?_
  intro p e s m args below meth c C hr h
  have h : (vp_in x1 (ln 98) ∧ (vp_in (M 98 x1.toNatClampNeg) (ln 100) ∧ Q (M 100 (M 98 x1.toNatClampNeg).toNatClampNeg) M)) := h
  refine wl_aload_n C dX8_placeOf_0 0 rfl ?_
  refine gf_8_24 C kq_79 (gir_8 hB kq_79) tw_617 dX8_placeOf_1 ?_
  refine wl_aload_n C dX8_placeOf_4 0 rfl ?_
  refine gf_8_22 C kq_79 (gir_8 hB kq_79) tw_615 dX8_placeOf_5 ?_
  refine wl_iload_n C dX8_placeOf_8 1 rfl ?_
  refine ga_ld10 C kq_98 (gir_10 hB kq_98) h.1 dX8_placeOf_9 ?_
  have h := h.2
  refine ga_ld10 C kq_100 (gir_10 hB kq_100) h.1 dX8_placeOf_10 ?_
  have h := h.2
  exact wl_iret C hr h dX8_placeOf_11
set_option maxRecDepth 100000 in
set_option maxHeartbeats 4000000 in
theorem cX8_isReader_M (l : Launch) (G : gP) (hg : gIn G) (hB : gRf G) (x0 : Int64) (M : Mem) (Q : Int32 → Mem → Prop) : Met l yX8_isReader (Cond.code yX8_isReader cX8_isReader 2 (some (Jvm.ClassFile.FieldType.boolean)) :: TB) rmX8_isReader (va_Pc [.long x0] (fun U => gS G M U ∧ wX8_isReader x0 M Q)) (va_Qi Q (gB G) (gA G)) 0 0 (gA G) := by
  refine gMet (by decide +kernel) (show _ = Cond.code yX8_isReader cX8_isReader 2 (some (Jvm.ClassFile.FieldType.boolean)) from rfl) hg (Nat.le_of_ble_eq_true rfl) [(0, .long x0)] rfl ?_
  intro p e s m args below meth c C hr h
  have h : (wX8_in x0 (0 : Int64) (1000000000000 : Int64) M (fun r2 M1 => ((r2 = 0 ∨ r2 = 1) ∧ Q r2 M1))) := h
  refine wl_lload_n C dX8_isReader_0 0 rfl ?_
  refine wl_lconst (v := 0) C dX8_isReader_1 (by decide) ?_
  refine wl_ldc2 C tw_736 dX8_isReader_2 ?_
  refine wl_callSi C (cX8_in_M l G hg hB x0 (0 : Int64) (1000000000000 : Int64) M _) h cw_RX8_98 hd_X8_in ⟨rfl, rfl⟩ ⟨by decide, by decide⟩ (As := [.long x0, .long (0 : Int64), .long (1000000000000 : Int64)]) (rest := []) rfl (Nat.le_of_ble_eq_true rfl) ⟨Nat.zero_le _, Nat.zero_le _⟩ rfl dX8_isReader_5 (fun r2 M1 h => ?_)
  exact wl_zret C hr h.1 h.2 dX8_isReader_8
set_option maxRecDepth 100000 in
set_option maxHeartbeats 4000000 in
theorem kX8_has_25 (l : Launch) (G : gP) (hg : gIn G) (hB : gRf G) (x1 : Int64) (x3 : Int32) {p : Program} {e : Env} {s : State} {m : MethodId} {args : Array Value} {below : List Frame} {meth : Method} {c : Code} (C : Cx p s m args meth c G (gA G) cX8_has 4 RX8) (hr : meth.sig.returnType = (some (Jvm.ClassFile.FieldType.int))) {Q : Int32 → Mem → Prop} (M : Mem) (h : wX8_has_25 x1 x3 Q M) : Wl p l e rmX8_has s m args below meth c (MQ below (va_Qi Q (gB G) (gA G)) args s 0 0 (gA G)) G (gA G) 4 0 0 M 25 [] [] := by
  have h : Q (-1 : Int32) M := h
  refine wl_iconst (v := (-1)) C dX8_has_25 (by decide) ?_
  exact wl_iret C hr h dX8_has_26
set_option maxRecDepth 100000 in
set_option maxHeartbeats 4000000 in
theorem cX8_has_M (l : Launch) (G : gP) (hg : gIn G) (hB : gRf G) (x1 : Int64) (x3 : Int32) (M : Mem) (Q : Int32 → Mem → Prop) : Met l yX8_has (Cond.code yX8_has cX8_has 4 (some (Jvm.ClassFile.FieldType.int)) :: TB) rmX8_has (va_Pc [.ref (gAD G 79), .long x1, .int x3] (fun U => gS G M U ∧ wX8_has x1 x3 M Q)) (va_Qi Q (gB G) (gA G)) 0 0 (gA G) := by
  refine gMet (by decide +kernel) (show _ = Cond.code yX8_has cX8_has 4 (some (Jvm.ClassFile.FieldType.int)) from rfl) hg (Nat.le_of_ble_eq_true rfl) [(0, .ref (gAD G 79)), (1, .long x1), (3, .int x3)] rfl ?_
  intro p e s m args below meth c C hr h
  have h : (wX8_isReader x1 M (fun r2 M1 => ((r2 = 0 → wX8_has_25 x1 x3 Q M1) ∧ (¬ r2 = 0 → (vp_in (0 : Int32) (ln 82) ∧ (wX8_in x3.toInt64 (0 : Int64) (((M1 82 (0 : Int32).toNatClampNeg) - (1 : Int32)).toInt64) M1 (fun r4 M3 => ((¬ r4 = 0 → (wX8_layPower x1 M3 (fun M5 => (wX8_placeOf x3 M5 (fun r7 M6 => (vp_in r7 (ln 89) ∧ Q (M6 89 r7.toNatClampNeg) M6)))))) ∧ (r4 = 0 → wX8_has_25 x1 x3 Q M3))))))))) := h
  refine wl_lload_n C dX8_has_0 1 rfl ?_
  refine wl_callSi C (cX8_isReader_M l G hg hB x1 M _) h cw_RX8_183 hd_X8_isReader ⟨rfl, rfl⟩ ⟨by decide, by decide⟩ (As := [.long x1]) (rest := []) rfl (Nat.le_of_ble_eq_true rfl) ⟨Nat.zero_le _, Nat.zero_le _⟩ rfl dX8_has_1 (fun r2 M1 h => ?_)
  refine wl_if_eq C (tgt := 25) dX8_has_4 (by decide) (fun hc => ?_) (fun hc => ?_)
  · have h := h.1 hc
    refine wl_sub [] rfl ?_
    exact kX8_has_25 l G hg hB x1 x3 C hr M1 h
  · have h := h.2 hc
    refine wl_iload_n C dX8_has_7 2 rfl ?_
    refine wl_i2l C dX8_has_8 ?_
    refine wl_lconst (v := 0) C dX8_has_9 (by decide) ?_
    refine wl_aload_n C dX8_has_10 0 rfl ?_
    refine gf_8_3 C kq_79 (gir_8 hB kq_79) tw_596 dX8_has_11 ?_
    refine wl_iconst (v := 0) C dX8_has_14 (by decide) ?_
    refine ga_ld10 C kq_82 (gir_10 hB kq_82) h.1 dX8_has_15 ?_
    have h := h.2
    refine wl_iconst (v := 1) C dX8_has_16 (by decide) ?_
    refine wl_isub C dX8_has_17 ?_
    refine wl_i2l C dX8_has_18 ?_
    refine wl_callSi C (cX8_in_M l G hg hB x3.toInt64 (0 : Int64) (((M1 82 (0 : Int32).toNatClampNeg) - (1 : Int32)).toInt64) M1 _) h cw_RX8_98 hd_X8_in ⟨rfl, rfl⟩ ⟨by decide, by decide⟩ (As := [.long x3.toInt64, .long (0 : Int64), .long ((M1 82 (0 : Int32).toNatClampNeg) - (1 : Int32)).toInt64]) (rest := []) rfl (Nat.le_of_ble_eq_true rfl) ⟨Nat.zero_le _, Nat.zero_le _⟩ rfl dX8_has_19 (fun r4 M3 h => ?_)
    refine wl_if_ne C (tgt := 27) dX8_has_22 (by decide) (fun hc => ?_) (fun hc => ?_)
    · have h := h.1 hc
      refine wl_aload_n C dX8_has_27 0 rfl ?_
      refine wl_lload_n C dX8_has_28 1 rfl ?_
      refine wl_callVv C (cX8_layPower_M l G hg hB x1 M3 _) h cw_RX8_187 hd_X8_layPower ⟨rfl, rfl⟩ ⟨by decide, by decide⟩ (gir_8 hB kq_79) (gc_k kq_79) rfl (As := [.long x1]) (rest := []) rfl (Nat.le_of_ble_eq_true rfl) ⟨Nat.zero_le _, Nat.zero_le _⟩ rfl dX8_has_29 (fun M5 h => ?_)
      refine wl_aload_n C dX8_has_32 0 rfl ?_
      refine gf_8_10 C kq_79 (gir_8 hB kq_79) tw_603 dX8_has_33 ?_
      refine wl_aload_n C dX8_has_36 0 rfl ?_
      refine wl_iload_n C dX8_has_37 2 rfl ?_
      refine wl_callVi C (cX8_placeOf_M l G hg hB x3 M5 _) h cw_RX8_191 hd_X8_placeOf ⟨rfl, rfl⟩ ⟨by decide, by decide⟩ (gir_8 hB kq_79) (gc_k kq_79) rfl (As := [.int x3]) (rest := [.ref (gAD G 89)]) rfl (Nat.le_of_ble_eq_true rfl) ⟨Nat.zero_le _, Nat.zero_le _⟩ rfl dX8_has_38 (fun r7 M6 h => ?_)
      refine ga_ld10 C kq_89 (gir_10 hB kq_89) h.1 dX8_has_41 ?_
      have h := h.2
      exact wl_iret C hr h dX8_has_42
    · have h := h.2 hc
      refine wl_sub [] rfl ?_
      exact kX8_has_25 l G hg hB x1 x3 C hr M3 h
set_option maxRecDepth 100000 in
set_option maxHeartbeats 4000000 in
theorem kX8_leavesNow_4 (l : Launch) (G : gP) (hg : gIn G) (hB : gRf G) {p : Program} {e : Env} {s : State} {m : MethodId} {args : Array Value} {below : List Frame} {meth : Method} {c : Code} (C : Cx p s m args meth c G (gA G) cX8_leavesNow 4 RX8) (hr : meth.sig.returnType = (some (Jvm.ClassFile.FieldType.long))) {Q : Int64 → Mem → Prop} : ∀ (n : Nat) (v1 : Int64) (v3 : Int32) (M : Mem), wX8_leavesNow_4 Q n v1 v3 M → Wl p l e rmX8_leavesNow s m args below meth c (MQ below (va_Ql Q (gB G) (gA G)) args s 0 0 (gA G)) G (gA G) 4 0 0 M 4 [(0, .ref (gAD G 79)), (1, .long v1), (3, .int v3)] [] := by
  intro n
  induction n with
  | zero => intro v1 v3 M h; exact h.elim
  | succ n ih =>
    intro v1 v3 M h
    have h : (vp_in (0 : Int32) (ln 82) ∧ (((M 82 (0 : Int32).toNatClampNeg) ≤ v3 → Q v1 M) ∧ (¬ (M 82 (0 : Int32).toNatClampNeg) ≤ v3 → (wX8_placeOf v3 M (fun r3 M2 => (vp_in r3 (ln 89) ∧ wX8_leavesNow_4 Q n (v1 ||| ((1 : Int64) <<< ((M2 89 r3.toNatClampNeg).toInt64 &&& 63))) (v3 + (1 : Int32)) M2)))))) := h
    refine wl_iload_n C dX8_leavesNow_4 2 rfl ?_
    refine wl_aload_n C dX8_leavesNow_5 0 rfl ?_
    refine gf_8_3 C kq_79 (gir_8 hB kq_79) tw_596 dX8_leavesNow_6 ?_
    refine wl_iconst (v := 0) C dX8_leavesNow_9 (by decide) ?_
    refine ga_ld10 C kq_82 (gir_10 hB kq_82) h.1 dX8_leavesNow_10 ?_
    have h := h.2
    refine wl_icmp_ge C (tgt := 35) dX8_leavesNow_11 (by decide) (fun hc => ?_) (fun hc => ?_)
    · have h := h.1 hc
      refine wl_lload_n C dX8_leavesNow_35 1 rfl ?_
      exact wl_lret C hr h dX8_leavesNow_36
    · have h := h.2 hc
      refine wl_lload_n C dX8_leavesNow_14 1 rfl ?_
      refine wl_lconst (v := 1) C dX8_leavesNow_15 (by decide) ?_
      refine wl_aload_n C dX8_leavesNow_16 0 rfl ?_
      refine gf_8_10 C kq_79 (gir_8 hB kq_79) tw_603 dX8_leavesNow_17 ?_
      refine wl_aload_n C dX8_leavesNow_20 0 rfl ?_
      refine wl_iload_n C dX8_leavesNow_21 2 rfl ?_
      refine wl_callVi C (cX8_placeOf_M l G hg hB v3 M _) h cw_RX8_191 hd_X8_placeOf ⟨rfl, rfl⟩ ⟨by decide, by decide⟩ (gir_8 hB kq_79) (gc_k kq_79) rfl (As := [.int v3]) (rest := [.ref (gAD G 89), .long (1 : Int64), .long v1]) rfl (Nat.le_of_ble_eq_true rfl) ⟨Nat.zero_le _, Nat.zero_le _⟩ rfl dX8_leavesNow_22 (fun r3 M2 h => ?_)
      refine ga_ld10 C kq_89 (gir_10 hB kq_89) h.1 dX8_leavesNow_25 ?_
      have h := h.2
      refine wl_lshl C dX8_leavesNow_26 ?_
      refine wl_lor C dX8_leavesNow_27 ?_
      refine wl_lstore_n (i := 1) (lv' := [(1, .long (v1 ||| ((1 : Int64) <<< ((M2 89 r3.toNatClampNeg).toInt64 &&& 63)))), (0, .ref (gAD G 79)), (3, .int v3)]) C dX8_leavesNow_28 rfl (by decide) rfl ?_
      refine wl_iinc (v := (v3 + (1 : Int32))) (lv' := [(3, .int (v3 + (1 : Int32))), (1, .long (v1 ||| ((1 : Int64) <<< ((M2 89 r3.toNatClampNeg).toInt64 &&& 63)))), (0, .ref (gAD G 79))]) C dX8_leavesNow_29 2 rfl (by rfl) (by decide) rfl ?_
      refine wl_goto C (tgt := 4) dX8_leavesNow_32 (by decide) ?_
      refine wl_sub [2, 1, 0] rfl ?_
      exact ih (v1 ||| ((1 : Int64) <<< ((M2 89 r3.toNatClampNeg).toInt64 &&& 63))) (v3 + (1 : Int32)) M2 h
set_option maxRecDepth 100000 in
set_option maxHeartbeats 4000000 in
theorem cX8_leavesNow_M (l : Launch) (G : gP) (hg : gIn G) (hB : gRf G) (M : Mem) (Q : Int64 → Mem → Prop) : Met l yX8_leavesNow (Cond.code yX8_leavesNow cX8_leavesNow 4 (some (Jvm.ClassFile.FieldType.long)) :: TB) rmX8_leavesNow (va_Pc [.ref (gAD G 79)] (fun U => gS G M U ∧ wX8_leavesNow M Q)) (va_Ql Q (gB G) (gA G)) 0 0 (gA G) := by
  refine gMet (by decide +kernel) (show _ = Cond.code yX8_leavesNow cX8_leavesNow 4 (some (Jvm.ClassFile.FieldType.long)) from rfl) hg (Nat.le_of_ble_eq_true rfl) [(0, .ref (gAD G 79))] rfl ?_
  intro p e s m args below meth c C hr h
  have h : (∃ n1, wX8_leavesNow_4 Q n1 (0 : Int64) (0 : Int32) M) := h
  refine wl_lconst (v := 0) C dX8_leavesNow_0 (by decide) ?_
  refine wl_lstore_n (i := 1) (lv' := [(1, .long (0 : Int64)), (0, .ref (gAD G 79))]) C dX8_leavesNow_1 rfl (by decide) rfl ?_
  refine wl_iconst (v := 0) C dX8_leavesNow_2 (by decide) ?_
  refine wl_istore_n (i := 3) (lv' := [(3, .int (0 : Int32)), (1, .long (0 : Int64)), (0, .ref (gAD G 79))]) C dX8_leavesNow_3 rfl (by decide) rfl ?_
  refine wl_sub [2, 1, 0] rfl ?_
  obtain ⟨n1, h⟩ := h
  exact kX8_leavesNow_4 l G hg hB C hr n1 (0 : Int64) (0 : Int32) M h
set_option maxRecDepth 100000 in
set_option maxHeartbeats 4000000 in
theorem cX8_leaves_M (l : Launch) (G : gP) (hg : gIn G) (hB : gRf G) (x1 : Int64) (M : Mem) (Q : Int64 → Mem → Prop) : Met l yX8_leaves (Cond.code yX8_leaves cX8_leaves 3 (some (Jvm.ClassFile.FieldType.long)) :: TB) rmX8_leaves (va_Pc [.ref (gAD G 79), .long x1] (fun U => gS G M U ∧ wX8_leaves x1 M Q)) (va_Ql Q (gB G) (gA G)) 0 0 (gA G) := by
  refine gMet (by decide +kernel) (show _ = Cond.code yX8_leaves cX8_leaves 3 (some (Jvm.ClassFile.FieldType.long)) from rfl) hg (Nat.le_of_ble_eq_true rfl) [(0, .ref (gAD G 79)), (1, .long x1)] rfl ?_
  intro p e s m args below meth c C hr h
  have h : (wX8_isReader x1 M (fun r2 M1 => ((¬ r2 = 0 → (wX8_layPower x1 M1 (fun M3 => (wX8_leavesNow M3 (fun r5 M4 => Q r5 M4))))) ∧ (r2 = 0 → Q (-1 : Int64) M1)))) := h
  refine wl_lload_n C dX8_leaves_0 1 rfl ?_
  refine wl_callSi C (cX8_isReader_M l G hg hB x1 M _) h cw_RX8_183 hd_X8_isReader ⟨rfl, rfl⟩ ⟨by decide, by decide⟩ (As := [.long x1]) (rest := []) rfl (Nat.le_of_ble_eq_true rfl) ⟨Nat.zero_le _, Nat.zero_le _⟩ rfl dX8_leaves_1 (fun r2 M1 h => ?_)
  refine wl_if_ne C (tgt := 11) dX8_leaves_4 (by decide) (fun hc => ?_) (fun hc => ?_)
  · have h := h.1 hc
    refine wl_aload_n C dX8_leaves_11 0 rfl ?_
    refine wl_lload_n C dX8_leaves_12 1 rfl ?_
    refine wl_callVv C (cX8_layPower_M l G hg hB x1 M1 _) h cw_RX8_187 hd_X8_layPower ⟨rfl, rfl⟩ ⟨by decide, by decide⟩ (gir_8 hB kq_79) (gc_k kq_79) rfl (As := [.long x1]) (rest := []) rfl (Nat.le_of_ble_eq_true rfl) ⟨Nat.zero_le _, Nat.zero_le _⟩ rfl dX8_leaves_13 (fun M3 h => ?_)
    refine wl_aload_n C dX8_leaves_16 0 rfl ?_
    refine wl_callVl C (cX8_leavesNow_M l G hg hB M3 _) h cw_RX8_196 hd_X8_leavesNow ⟨rfl, rfl⟩ ⟨by decide, by decide⟩ (gir_8 hB kq_79) (gc_k kq_79) rfl (As := []) (rest := []) rfl (Nat.le_of_ble_eq_true rfl) ⟨Nat.zero_le _, Nat.zero_le _⟩ rfl dX8_leaves_17 (fun r5 M4 h => ?_)
    exact wl_lret C hr h dX8_leaves_20
  · have h := h.2 hc
    refine wl_ldc2 C tw_750 dX8_leaves_7 ?_
    exact wl_lret C hr h dX8_leaves_10
set_option maxRecDepth 100000 in
set_option maxHeartbeats 4000000 in
theorem kX8_isAtFirst_33 (l : Launch) (G : gP) (hg : gIn G) (hB : gRf G) {p : Program} {e : Env} {s : State} {m : MethodId} {args : Array Value} {below : List Frame} {meth : Method} {c : Code} (C : Cx p s m args meth c G (gA G) cX8_isAtFirst 3 RX8) (hr : meth.sig.returnType = (some (Jvm.ClassFile.FieldType.boolean))) {Q : Int32 → Mem → Prop} (k_4 : Int32 → Int32 → Mem → Prop) (hk_4 : ∀ (v1 : Int32) (v2 : Int32) (M : Mem), k_4 v1 v2 M → Wl p l e rmX8_isAtFirst s m args below meth c (MQ below (va_Qi Q (gB G) (gA G)) args s 0 0 (gA G)) G (gA G) 3 0 0 M 4 [(0, .ref (gAD G 79)), (1, .int v1), (2, .int v2)] []) (v2 : Int32) (s0 : Int32) (M : Mem) (h : wX8_isAtFirst_33 k_4 Q v2 s0 M) : Wl p l e rmX8_isAtFirst s m args below meth c (MQ below (va_Qi Q (gB G) (gA G)) args s 0 0 (gA G)) G (gA G) 3 0 0 M 33 [(0, .ref (gAD G 79)), (2, .int v2)] [.int s0] := by
  have h : k_4 s0 (v2 + (1 : Int32)) M := h
  refine wl_istore_n (i := 1) (lv' := [(1, .int s0), (0, .ref (gAD G 79)), (2, .int v2)]) C dX8_isAtFirst_33 rfl (by decide) rfl ?_
  refine wl_iinc (v := (v2 + (1 : Int32))) (lv' := [(2, .int (v2 + (1 : Int32))), (1, .int s0), (0, .ref (gAD G 79))]) C dX8_isAtFirst_34 2 rfl (by rfl) (by decide) rfl ?_
  refine wl_goto C (tgt := 4) dX8_isAtFirst_37 (by decide) ?_
  refine wl_sub [2, 1, 0] rfl ?_
  exact hk_4 s0 (v2 + (1 : Int32)) M h
set_option maxRecDepth 100000 in
set_option maxHeartbeats 4000000 in
theorem kX8_isAtFirst_32 (l : Launch) (G : gP) (hg : gIn G) (hB : gRf G) {p : Program} {e : Env} {s : State} {m : MethodId} {args : Array Value} {below : List Frame} {meth : Method} {c : Code} (C : Cx p s m args meth c G (gA G) cX8_isAtFirst 3 RX8) (hr : meth.sig.returnType = (some (Jvm.ClassFile.FieldType.boolean))) {Q : Int32 → Mem → Prop} (k_4 : Int32 → Int32 → Mem → Prop) (hk_4 : ∀ (v1 : Int32) (v2 : Int32) (M : Mem), k_4 v1 v2 M → Wl p l e rmX8_isAtFirst s m args below meth c (MQ below (va_Qi Q (gB G) (gA G)) args s 0 0 (gA G)) G (gA G) 3 0 0 M 4 [(0, .ref (gAD G 79)), (1, .int v1), (2, .int v2)] []) (v2 : Int32) (M : Mem) (h : wX8_isAtFirst_32 k_4 Q v2 M) : Wl p l e rmX8_isAtFirst s m args below meth c (MQ below (va_Qi Q (gB G) (gA G)) args s 0 0 (gA G)) G (gA G) 3 0 0 M 32 [(0, .ref (gAD G 79)), (2, .int v2)] [] := by
  have h : wX8_isAtFirst_33 (k_4) Q v2 (0 : Int32) M := h
  refine wl_iconst (v := 0) C dX8_isAtFirst_32 (by decide) ?_
  refine wl_sub [0, 1] rfl ?_
  exact kX8_isAtFirst_33 l G hg hB C hr (k_4) (hk_4) v2 (0 : Int32) M h
set_option maxRecDepth 100000 in
set_option maxHeartbeats 4000000 in
theorem kX8_isAtFirst_4 (l : Launch) (G : gP) (hg : gIn G) (hB : gRf G) {p : Program} {e : Env} {s : State} {m : MethodId} {args : Array Value} {below : List Frame} {meth : Method} {c : Code} (C : Cx p s m args meth c G (gA G) cX8_isAtFirst 3 RX8) (hr : meth.sig.returnType = (some (Jvm.ClassFile.FieldType.boolean))) {Q : Int32 → Mem → Prop} : ∀ (n : Nat) (v1 : Int32) (v2 : Int32) (M : Mem), wX8_isAtFirst_4 Q n v1 v2 M → Wl p l e rmX8_isAtFirst s m args below meth c (MQ below (va_Qi Q (gB G) (gA G)) args s 0 0 (gA G)) G (gA G) 3 0 0 M 4 [(0, .ref (gAD G 79)), (1, .int v1), (2, .int v2)] [] := by
  intro n
  induction n with
  | zero => intro v1 v2 M h; exact h.elim
  | succ n ih =>
    intro v1 v2 M h
    have h : (vp_in (0 : Int32) (ln 81) ∧ (((M 81 (0 : Int32).toNatClampNeg) ≤ v2 → ((v1 = 0 ∨ v1 = 1) ∧ Q v1 M)) ∧ (¬ (M 81 (0 : Int32).toNatClampNeg) ≤ v2 → ((v1 = 0 → wX8_isAtFirst_32 (wX8_isAtFirst_4 Q n) Q v2 M) ∧ (¬ v1 = 0 → (vp_in v2 (ln 100) ∧ ((¬ (M 100 v2.toNatClampNeg) = v2 → wX8_isAtFirst_32 (wX8_isAtFirst_4 Q n) Q v2 M) ∧ ((M 100 v2.toNatClampNeg) = v2 → wX8_isAtFirst_33 (wX8_isAtFirst_4 Q n) Q v2 (1 : Int32) M)))))))) := h
    refine wl_iload_n C dX8_isAtFirst_4 2 rfl ?_
    refine wl_aload_n C dX8_isAtFirst_5 0 rfl ?_
    refine gf_8_2 C kq_79 (gir_8 hB kq_79) tw_595 dX8_isAtFirst_6 ?_
    refine wl_iconst (v := 0) C dX8_isAtFirst_9 (by decide) ?_
    refine ga_ld10 C kq_81 (gir_10 hB kq_81) h.1 dX8_isAtFirst_10 ?_
    have h := h.2
    refine wl_icmp_ge C (tgt := 40) dX8_isAtFirst_11 (by decide) (fun hc => ?_) (fun hc => ?_)
    · have h := h.1 hc
      refine wl_iload_n C dX8_isAtFirst_40 1 rfl ?_
      exact wl_zret C hr h.1 h.2 dX8_isAtFirst_41
    · have h := h.2 hc
      refine wl_iload_n C dX8_isAtFirst_14 1 rfl ?_
      refine wl_if_eq C (tgt := 32) dX8_isAtFirst_15 (by decide) (fun hc => ?_) (fun hc => ?_)
      · have h := h.1 hc
        refine wl_sub [0, 2] rfl ?_
        exact kX8_isAtFirst_32 l G hg hB C hr (wX8_isAtFirst_4 Q n) (ih) v2 M h
      · have h := h.2 hc
        refine wl_aload_n C dX8_isAtFirst_18 0 rfl ?_
        refine gf_8_24 C kq_79 (gir_8 hB kq_79) tw_617 dX8_isAtFirst_19 ?_
        refine wl_iload_n C dX8_isAtFirst_22 2 rfl ?_
        refine ga_ld10 C kq_100 (gir_10 hB kq_100) h.1 dX8_isAtFirst_23 ?_
        have h := h.2
        refine wl_iload_n C dX8_isAtFirst_24 2 rfl ?_
        refine wl_icmp_ne C (tgt := 32) dX8_isAtFirst_25 (by decide) (fun hc => ?_) (fun hc => ?_)
        · have h := h.1 hc
          refine wl_sub [0, 2] rfl ?_
          exact kX8_isAtFirst_32 l G hg hB C hr (wX8_isAtFirst_4 Q n) (ih) v2 M h
        · have h := h.2 hc
          refine wl_iconst (v := 1) C dX8_isAtFirst_28 (by decide) ?_
          refine wl_goto C (tgt := 33) dX8_isAtFirst_29 (by decide) ?_
          refine wl_sub [0, 2] rfl ?_
          exact kX8_isAtFirst_33 l G hg hB C hr (wX8_isAtFirst_4 Q n) (ih) v2 (1 : Int32) M h
set_option maxRecDepth 100000 in
set_option maxHeartbeats 4000000 in
theorem cX8_isAtFirst_M (l : Launch) (G : gP) (hg : gIn G) (hB : gRf G) (M : Mem) (Q : Int32 → Mem → Prop) : Met l yX8_isAtFirst (Cond.code yX8_isAtFirst cX8_isAtFirst 3 (some (Jvm.ClassFile.FieldType.boolean)) :: TB) rmX8_isAtFirst (va_Pc [.ref (gAD G 79)] (fun U => gS G M U ∧ wX8_isAtFirst M Q)) (va_Qi Q (gB G) (gA G)) 0 0 (gA G) := by
  refine gMet (by decide +kernel) (show _ = Cond.code yX8_isAtFirst cX8_isAtFirst 3 (some (Jvm.ClassFile.FieldType.boolean)) from rfl) hg (Nat.le_of_ble_eq_true rfl) [(0, .ref (gAD G 79))] rfl ?_
  intro p e s m args below meth c C hr h
  have h : (∃ n1, wX8_isAtFirst_4 Q n1 (1 : Int32) (0 : Int32) M) := h
  refine wl_iconst (v := 1) C dX8_isAtFirst_0 (by decide) ?_
  refine wl_istore_n (i := 1) (lv' := [(1, .int (1 : Int32)), (0, .ref (gAD G 79))]) C dX8_isAtFirst_1 rfl (by decide) rfl ?_
  refine wl_iconst (v := 0) C dX8_isAtFirst_2 (by decide) ?_
  refine wl_istore_n (i := 2) (lv' := [(2, .int (0 : Int32)), (1, .int (1 : Int32)), (0, .ref (gAD G 79))]) C dX8_isAtFirst_3 rfl (by decide) rfl ?_
  refine wl_sub [2, 1, 0] rfl ?_
  obtain ⟨n1, h⟩ := h
  exact kX8_isAtFirst_4 l G hg hB C hr n1 (1 : Int32) (0 : Int32) M h
set_option maxRecDepth 100000 in
set_option maxHeartbeats 4000000 in
theorem kX8_period_7 (l : Launch) (G : gP) (hg : gIn G) (hB : gRf G) {p : Program} {e : Env} {s : State} {m : MethodId} {args : Array Value} {below : List Frame} {meth : Method} {c : Code} (C : Cx p s m args meth c G (gA G) cX8_period 2 RX8) (hr : meth.sig.returnType = (some (Jvm.ClassFile.FieldType.int))) {Q : Int32 → Mem → Prop} : ∀ (n : Nat) (v1 : Int32) (M : Mem), wX8_period_7 Q n v1 M → Wl p l e rmX8_period s m args below meth c (MQ below (va_Qi Q (gB G) (gA G)) args s 0 0 (gA G)) G (gA G) 2 0 0 M 7 [(0, .ref (gAD G 79)), (1, .int v1)] [] := by
  intro n
  induction n with
  | zero => intro v1 M h; exact h.elim
  | succ n ih =>
    intro v1 M h
    have h : (wX8_isAtFirst M (fun r4 M3 => ((¬ r4 = 0 → Q v1 M3) ∧ (r4 = 0 → (wX8_put 100 99 M3 (fun M5 => wX8_period_7 Q n (v1 + (1 : Int32)) M5)))))) := h
    refine wl_aload_n C dX8_period_7 0 rfl ?_
    refine wl_callVi C (cX8_isAtFirst_M l G hg hB M _) h cw_RX8_200 hd_X8_isAtFirst ⟨rfl, rfl⟩ ⟨by decide, by decide⟩ (gir_8 hB kq_79) (gc_k kq_79) rfl (As := []) (rest := []) rfl (Nat.le_of_ble_eq_true rfl) ⟨Nat.zero_le _, Nat.zero_le _⟩ rfl dX8_period_8 (fun r4 M3 h => ?_)
    refine wl_if_ne C (tgt := 32) dX8_period_11 (by decide) (fun hc => ?_) (fun hc => ?_)
    · have h := h.1 hc
      refine wl_iload_n C dX8_period_32 1 rfl ?_
      exact wl_iret C hr h dX8_period_33
    · have h := h.2 hc
      refine wl_aload_n C dX8_period_14 0 rfl ?_
      refine wl_aload_n C dX8_period_15 0 rfl ?_
      refine gf_8_24 C kq_79 (gir_8 hB kq_79) tw_617 dX8_period_16 ?_
      refine wl_aload_n C dX8_period_19 0 rfl ?_
      refine gf_8_23 C kq_79 (gir_8 hB kq_79) tw_616 dX8_period_20 ?_
      refine wl_callVv C (cX8_put_M l G hg hB 100 99 kq_100 kq_99 M3 _) h cw_RX8_177 hd_X8_put ⟨rfl, rfl⟩ ⟨by decide, by decide⟩ (gir_8 hB kq_79) (gc_k kq_79) rfl (As := [.ref (gAD G 100), .ref (gAD G 99)]) (rest := []) rfl (Nat.le_of_ble_eq_true rfl) ⟨Nat.zero_le _, Nat.zero_le _⟩ rfl dX8_period_23 (fun M5 h => ?_)
      refine wl_iinc (v := (v1 + (1 : Int32))) (lv' := [(1, .int (v1 + (1 : Int32))), (0, .ref (gAD G 79))]) C dX8_period_26 1 rfl (by rfl) (by decide) rfl ?_
      refine wl_goto C (tgt := 7) dX8_period_29 (by decide) ?_
      refine wl_sub [1, 0] rfl ?_
      exact ih (v1 + (1 : Int32)) M5 h
set_option maxRecDepth 100000 in
set_option maxHeartbeats 4000000 in
theorem cX8_period_M (l : Launch) (G : gP) (hg : gIn G) (hB : gRf G) (M : Mem) (Q : Int32 → Mem → Prop) : Met l yX8_period (Cond.code yX8_period cX8_period 2 (some (Jvm.ClassFile.FieldType.int)) :: TB) rmX8_period (va_Pc [.ref (gAD G 79)] (fun U => gS G M U ∧ wX8_period M Q)) (va_Qi Q (gB G) (gA G)) 0 0 (gA G) := by
  refine gMet (by decide +kernel) (show _ = Cond.code yX8_period cX8_period 2 (some (Jvm.ClassFile.FieldType.int)) from rfl) hg (Nat.le_of_ble_eq_true rfl) [(0, .ref (gAD G 79))] rfl ?_
  intro p e s m args below meth c C hr h
  have h : (wX8_layPower (1 : Int64) M (fun M1 => (∃ n2, wX8_period_7 Q n2 (1 : Int32) M1))) := h
  refine wl_aload_n C dX8_period_0 0 rfl ?_
  refine wl_lconst (v := 1) C dX8_period_1 (by decide) ?_
  refine wl_callVv C (cX8_layPower_M l G hg hB (1 : Int64) M _) h cw_RX8_187 hd_X8_layPower ⟨rfl, rfl⟩ ⟨by decide, by decide⟩ (gir_8 hB kq_79) (gc_k kq_79) rfl (As := [.long (1 : Int64)]) (rest := []) rfl (Nat.le_of_ble_eq_true rfl) ⟨Nat.zero_le _, Nat.zero_le _⟩ rfl dX8_period_2 (fun M1 h => ?_)
  refine wl_iconst (v := 1) C dX8_period_5 (by decide) ?_
  refine wl_istore_n (i := 1) (lv' := [(1, .int (1 : Int32)), (0, .ref (gAD G 79))]) C dX8_period_6 rfl (by decide) rfl ?_
  refine wl_sub [1, 0] rfl ?_
  obtain ⟨n2, h⟩ := h
  exact kX8_period_7 l G hg hB C hr n2 (1 : Int32) M1 h
set_option maxRecDepth 100000 in
set_option maxHeartbeats 4000000 in
theorem kX8_ever_103 (l : Launch) (G : gP) (hg : gIn G) (hB : gRf G) (x1 : Int32) {p : Program} {e : Env} {s : State} {m : MethodId} {args : Array Value} {below : List Frame} {meth : Method} {c : Code} (C : Cx p s m args meth c G (gA G) cX8_ever 10 RX8) (hr : meth.sig.returnType = (some (Jvm.ClassFile.FieldType.long))) {Q : Int64 → Mem → Prop} (s0 : Int64) (M : Mem) (h : wX8_ever_103 x1 Q s0 M) : Wl p l e rmX8_ever s m args below meth c (MQ below (va_Ql Q (gB G) (gA G)) args s 0 0 (gA G)) G (gA G) 10 0 0 M 103 [] [.long s0] := by
  have h : Q s0 M := h
  exact wl_lret C hr h dX8_ever_103
set_option maxRecDepth 100000 in
set_option maxHeartbeats 4000000 in
theorem kX8_ever_44 (l : Launch) (G : gP) (hg : gIn G) (hB : gRf G) (x1 : Int32) {p : Program} {e : Env} {s : State} {m : MethodId} {args : Array Value} {below : List Frame} {meth : Method} {c : Code} (C : Cx p s m args meth c G (gA G) cX8_ever 10 RX8) (hr : meth.sig.returnType = (some (Jvm.ClassFile.FieldType.long))) {Q : Int64 → Mem → Prop} : ∀ (n : Nat) (v2 : Int32) (v3 : Int64) (v5 : Int64) (v7 : Int64) (v9 : Int32) (M : Mem), wX8_ever_44 x1 Q n v2 v3 v5 v7 v9 M → Wl p l e rmX8_ever s m args below meth c (MQ below (va_Ql Q (gB G) (gA G)) args s 0 0 (gA G)) G (gA G) 10 0 0 M 44 [(0, .ref (gAD G 79)), (1, .int x1), (2, .int v2), (3, .long v3), (5, .long v5), (7, .long v7), (9, .int v9)] [] := by
  intro n
  induction n with
  | zero => intro v2 v3 v5 v7 v9 M h; exact h.elim
  | succ n ih =>
    intro v2 v3 v5 v7 v9 M h
    have h : ((v2 ≤ v9 → ((¬ x1 = 0 → wX8_ever_103 x1 Q v7 M) ∧ (x1 = 0 → wX8_ever_103 x1 Q (v3 &&& (v5 ^^^ (-1 : Int64))) M))) ∧ (¬ v2 ≤ v9 → (wX8_leavesNow M (fun r8 M7 => (wX8_leavesNow M7 (fun r10 M9 => (wX8_put 100 99 M9 (fun M11 => wX8_ever_44 x1 Q n v2 v3 (v5 ||| r8) (v7 &&& r10) (v9 + (1 : Int32)) M11)))))))) := h
    refine wl_iload C dX8_ever_44 6 rfl ?_
    refine wl_iload_n C dX8_ever_46 2 rfl ?_
    refine wl_icmp_ge C (tgt := 86) dX8_ever_47 (by decide) (fun hc => ?_) (fun hc => ?_)
    · have h := h.1 hc
      refine wl_iload_n C dX8_ever_86 1 rfl ?_
      refine wl_if_ne C (tgt := 101) dX8_ever_87 (by decide) (fun hc => ?_) (fun hc => ?_)
      · have h := h.1 hc
        refine wl_lload C dX8_ever_101 5 rfl ?_
        refine wl_sub [] rfl ?_
        exact kX8_ever_103 l G hg hB x1 C hr v7 M h
      · have h := h.2 hc
        refine wl_lload_n C dX8_ever_90 3 rfl ?_
        refine wl_lload C dX8_ever_91 4 rfl ?_
        refine wl_ldc2 C tw_750 dX8_ever_93 ?_
        refine wl_lxor C dX8_ever_96 ?_
        refine wl_land C dX8_ever_97 ?_
        refine wl_goto C (tgt := 103) dX8_ever_98 (by decide) ?_
        refine wl_sub [] rfl ?_
        exact kX8_ever_103 l G hg hB x1 C hr (v3 &&& (v5 ^^^ (-1 : Int64))) M h
    · have h := h.2 hc
      refine wl_lload C dX8_ever_50 4 rfl ?_
      refine wl_aload_n C dX8_ever_52 0 rfl ?_
      refine wl_callVl C (cX8_leavesNow_M l G hg hB M _) h cw_RX8_196 hd_X8_leavesNow ⟨rfl, rfl⟩ ⟨by decide, by decide⟩ (gir_8 hB kq_79) (gc_k kq_79) rfl (As := []) (rest := [.long v5]) rfl (Nat.le_of_ble_eq_true rfl) ⟨Nat.zero_le _, Nat.zero_le _⟩ rfl dX8_ever_53 (fun r8 M7 h => ?_)
      refine wl_lor C dX8_ever_56 ?_
      refine wl_lstore (i := 5) (lv' := [(5, .long (v5 ||| r8)), (0, .ref (gAD G 79)), (1, .int x1), (2, .int v2), (3, .long v3), (7, .long v7), (9, .int v9)]) C dX8_ever_57 (by decide) rfl ?_
      refine wl_lload C dX8_ever_59 5 rfl ?_
      refine wl_aload_n C dX8_ever_61 1 rfl ?_
      refine wl_callVl C (cX8_leavesNow_M l G hg hB M7 _) h cw_RX8_196 hd_X8_leavesNow ⟨rfl, rfl⟩ ⟨by decide, by decide⟩ (gir_8 hB kq_79) (gc_k kq_79) rfl (As := []) (rest := [.long v7]) rfl (Nat.le_of_ble_eq_true rfl) ⟨Nat.zero_le _, Nat.zero_le _⟩ rfl dX8_ever_62 (fun r10 M9 h => ?_)
      refine wl_land C dX8_ever_65 ?_
      refine wl_lstore (i := 7) (lv' := [(7, .long (v7 &&& r10)), (5, .long (v5 ||| r8)), (0, .ref (gAD G 79)), (1, .int x1), (2, .int v2), (3, .long v3), (9, .int v9)]) C dX8_ever_66 (by decide) rfl ?_
      refine wl_aload_n C dX8_ever_68 2 rfl ?_
      refine wl_aload_n C dX8_ever_69 2 rfl ?_
      refine gf_8_24 C kq_79 (gir_8 hB kq_79) tw_617 dX8_ever_70 ?_
      refine wl_aload_n C dX8_ever_73 2 rfl ?_
      refine gf_8_23 C kq_79 (gir_8 hB kq_79) tw_616 dX8_ever_74 ?_
      refine wl_callVv C (cX8_put_M l G hg hB 100 99 kq_100 kq_99 M9 _) h cw_RX8_177 hd_X8_put ⟨rfl, rfl⟩ ⟨by decide, by decide⟩ (gir_8 hB kq_79) (gc_k kq_79) rfl (As := [.ref (gAD G 100), .ref (gAD G 99)]) (rest := []) rfl (Nat.le_of_ble_eq_true rfl) ⟨Nat.zero_le _, Nat.zero_le _⟩ rfl dX8_ever_77 (fun M11 h => ?_)
      refine wl_iinc (v := (v9 + (1 : Int32))) (lv' := [(9, .int (v9 + (1 : Int32))), (7, .long (v7 &&& r10)), (5, .long (v5 ||| r8)), (0, .ref (gAD G 79)), (1, .int x1), (2, .int v2), (3, .long v3)]) C dX8_ever_80 6 rfl (by rfl) (by decide) rfl ?_
      refine wl_goto C (tgt := 44) dX8_ever_83 (by decide) ?_
      refine wl_sub [3, 4, 5, 6, 2, 1, 0] rfl ?_
      exact ih v2 v3 (v5 ||| r8) (v7 &&& r10) (v9 + (1 : Int32)) M11 h
set_option maxRecDepth 100000 in
set_option maxHeartbeats 4000000 in
theorem cX8_ever_M (l : Launch) (G : gP) (hg : gIn G) (hB : gRf G) (x1 : Int32) (M : Mem) (Q : Int64 → Mem → Prop) : Met l yX8_ever (Cond.code yX8_ever cX8_ever 10 (some (Jvm.ClassFile.FieldType.long)) :: TB) rmX8_ever (va_Pc [.ref (gAD G 79), .int x1] (fun U => gS G M U ∧ wX8_ever x1 M Q)) (va_Ql Q (gB G) (gA G)) 0 0 (gA G) := by
  refine gMet (by decide +kernel) (show _ = Cond.code yX8_ever cX8_ever 10 (some (Jvm.ClassFile.FieldType.long)) from rfl) hg (Nat.le_of_ble_eq_true rfl) [(0, .ref (gAD G 79)), (1, .int x1)] rfl ?_
  intro p e s m args below meth c C hr h
  have h : (wX8_in x1.toInt64 (0 : Int64) (1 : Int64) M (fun r2 M1 => ((¬ r2 = 0 → (wX8_period M1 (fun r4 M3 => (vp_in (0 : Int32) (ln 81) ∧ (wX8_layPower (0 : Int64) M3 (fun M5 => (∃ n6, wX8_ever_44 x1 Q n6 r4 (((1 : Int64) <<< ((M3 81 (0 : Int32).toNatClampNeg).toInt64 &&& 63)) - (1 : Int64)) (0 : Int64) (((1 : Int64) <<< ((M3 81 (0 : Int32).toNatClampNeg).toInt64 &&& 63)) - (1 : Int64)) (0 : Int32) M5))))))) ∧ (r2 = 0 → Q (-1 : Int64) M1)))) := h
  refine wl_iload_n C dX8_ever_0 1 rfl ?_
  refine wl_i2l C dX8_ever_1 ?_
  refine wl_lconst (v := 0) C dX8_ever_2 (by decide) ?_
  refine wl_lconst (v := 1) C dX8_ever_3 (by decide) ?_
  refine wl_callSi C (cX8_in_M l G hg hB x1.toInt64 (0 : Int64) (1 : Int64) M _) h cw_RX8_98 hd_X8_in ⟨rfl, rfl⟩ ⟨by decide, by decide⟩ (As := [.long x1.toInt64, .long (0 : Int64), .long (1 : Int64)]) (rest := []) rfl (Nat.le_of_ble_eq_true rfl) ⟨Nat.zero_le _, Nat.zero_le _⟩ rfl dX8_ever_4 (fun r2 M1 h => ?_)
  refine wl_if_ne C (tgt := 14) dX8_ever_7 (by decide) (fun hc => ?_) (fun hc => ?_)
  · have h := h.1 hc
    refine wl_aload_n C dX8_ever_14 0 rfl ?_
    refine wl_callVi C (cX8_period_M l G hg hB M1 _) h cw_RX8_203 hd_X8_period ⟨rfl, rfl⟩ ⟨by decide, by decide⟩ (gir_8 hB kq_79) (gc_k kq_79) rfl (As := []) (rest := []) rfl (Nat.le_of_ble_eq_true rfl) ⟨Nat.zero_le _, Nat.zero_le _⟩ rfl dX8_ever_15 (fun r4 M3 h => ?_)
    refine wl_istore_n (i := 2) (lv' := [(2, .int r4), (0, .ref (gAD G 79)), (1, .int x1)]) C dX8_ever_18 rfl (by decide) rfl ?_
    refine wl_lconst (v := 1) C dX8_ever_19 (by decide) ?_
    refine wl_aload_n C dX8_ever_20 1 rfl ?_
    refine gf_8_2 C kq_79 (gir_8 hB kq_79) tw_595 dX8_ever_21 ?_
    refine wl_iconst (v := 0) C dX8_ever_24 (by decide) ?_
    refine ga_ld10 C kq_81 (gir_10 hB kq_81) h.1 dX8_ever_25 ?_
    have h := h.2
    refine wl_lshl C dX8_ever_26 ?_
    refine wl_lconst (v := 1) C dX8_ever_27 (by decide) ?_
    refine wl_lsub C dX8_ever_28 ?_
    refine wl_lstore_n (i := 3) (lv' := [(3, .long (((1 : Int64) <<< ((M3 81 (0 : Int32).toNatClampNeg).toInt64 &&& 63)) - (1 : Int64))), (2, .int r4), (0, .ref (gAD G 79)), (1, .int x1)]) C dX8_ever_29 rfl (by decide) rfl ?_
    refine wl_lconst (v := 0) C dX8_ever_30 (by decide) ?_
    refine wl_lstore (i := 5) (lv' := [(5, .long (0 : Int64)), (3, .long (((1 : Int64) <<< ((M3 81 (0 : Int32).toNatClampNeg).toInt64 &&& 63)) - (1 : Int64))), (2, .int r4), (0, .ref (gAD G 79)), (1, .int x1)]) C dX8_ever_31 (by decide) rfl ?_
    refine wl_lload_n C dX8_ever_33 1 rfl ?_
    refine wl_lstore (i := 7) (lv' := [(7, .long (((1 : Int64) <<< ((M3 81 (0 : Int32).toNatClampNeg).toInt64 &&& 63)) - (1 : Int64))), (5, .long (0 : Int64)), (3, .long (((1 : Int64) <<< ((M3 81 (0 : Int32).toNatClampNeg).toInt64 &&& 63)) - (1 : Int64))), (2, .int r4), (0, .ref (gAD G 79)), (1, .int x1)]) C dX8_ever_34 (by decide) rfl ?_
    refine wl_aload_n C dX8_ever_36 4 rfl ?_
    refine wl_lconst (v := 0) C dX8_ever_37 (by decide) ?_
    refine wl_callVv C (cX8_layPower_M l G hg hB (0 : Int64) M3 _) h cw_RX8_187 hd_X8_layPower ⟨rfl, rfl⟩ ⟨by decide, by decide⟩ (gir_8 hB kq_79) (gc_k kq_79) rfl (As := [.long (0 : Int64)]) (rest := []) rfl (Nat.le_of_ble_eq_true rfl) ⟨Nat.zero_le _, Nat.zero_le _⟩ rfl dX8_ever_38 (fun M5 h => ?_)
    refine wl_iconst (v := 0) C dX8_ever_41 (by decide) ?_
    refine wl_istore (i := 9) (lv' := [(9, .int (0 : Int32)), (7, .long (((1 : Int64) <<< ((M3 81 (0 : Int32).toNatClampNeg).toInt64 &&& 63)) - (1 : Int64))), (5, .long (0 : Int64)), (3, .long (((1 : Int64) <<< ((M3 81 (0 : Int32).toNatClampNeg).toInt64 &&& 63)) - (1 : Int64))), (2, .int r4), (0, .ref (gAD G 79)), (1, .int x1)]) C dX8_ever_42 (by decide) rfl ?_
    refine wl_sub [5, 6, 4, 3, 2, 1, 0] rfl ?_
    obtain ⟨n6, h⟩ := h
    exact kX8_ever_44 l G hg hB x1 C hr n6 r4 (((1 : Int64) <<< ((M3 81 (0 : Int32).toNatClampNeg).toInt64 &&& 63)) - (1 : Int64)) (0 : Int64) (((1 : Int64) <<< ((M3 81 (0 : Int32).toNatClampNeg).toInt64 &&& 63)) - (1 : Int64)) (0 : Int32) M5 h
  · have h := h.2 hc
    refine wl_ldc2 C tw_750 dX8_ever_10 ?_
    exact wl_lret C hr h dX8_ever_13
set_option maxRecDepth 100000 in
set_option maxHeartbeats 4000000 in
theorem kX8_lesser_30 (l : Launch) (G : gP) (hg : gIn G) (hB : gRf G) {p : Program} {e : Env} {s : State} {m : MethodId} {args : Array Value} {below : List Frame} {meth : Method} {c : Code} (C : Cx p s m args meth c G (gA G) cX8_lesser 1 RX8) (hr : meth.sig.returnType = (some (Jvm.ClassFile.FieldType.int))) {Q : Int32 → Mem → Prop} (s0 : Int32) (M : Mem) (h : wX8_lesser_30 Q s0 M) : Wl p l e rmX8_lesser s m args below meth c (MQ below (va_Qi Q (gB G) (gA G)) args s 0 0 (gA G)) G (gA G) 1 0 0 M 30 [] [.int s0] := by
  have h : Q s0 M := h
  exact wl_iret C hr h dX8_lesser_30
set_option maxRecDepth 100000 in
set_option maxHeartbeats 4000000 in
theorem cX8_lesser_M (l : Launch) (G : gP) (hg : gIn G) (hB : gRf G) (M : Mem) (Q : Int32 → Mem → Prop) : Met l yX8_lesser (Cond.code yX8_lesser cX8_lesser 1 (some (Jvm.ClassFile.FieldType.int)) :: TB) rmX8_lesser (va_Pc [.ref (gAD G 79)] (fun U => gS G M U ∧ wX8_lesser M Q)) (va_Qi Q (gB G) (gA G)) 0 0 (gA G) := by
  refine gMet (by decide +kernel) (show _ = Cond.code yX8_lesser cX8_lesser 1 (some (Jvm.ClassFile.FieldType.int)) from rfl) hg (Nat.le_of_ble_eq_true rfl) [(0, .ref (gAD G 79))] rfl ?_
  intro p e s m args below meth c C hr h
  have h : (vp_in (0 : Int32) (ln 82) ∧ (vp_in (0 : Int32) (ln 87) ∧ (((M 87 (0 : Int32).toNatClampNeg) ≤ (M 82 (0 : Int32).toNatClampNeg) → (vp_in (0 : Int32) (ln 87) ∧ wX8_lesser_30 Q (M 87 (0 : Int32).toNatClampNeg) M)) ∧ (¬ (M 87 (0 : Int32).toNatClampNeg) ≤ (M 82 (0 : Int32).toNatClampNeg) → (vp_in (0 : Int32) (ln 82) ∧ wX8_lesser_30 Q (M 82 (0 : Int32).toNatClampNeg) M))))) := h
  refine wl_aload_n C dX8_lesser_0 0 rfl ?_
  refine gf_8_3 C kq_79 (gir_8 hB kq_79) tw_596 dX8_lesser_1 ?_
  refine wl_iconst (v := 0) C dX8_lesser_4 (by decide) ?_
  refine ga_ld10 C kq_82 (gir_10 hB kq_82) h.1 dX8_lesser_5 ?_
  have h := h.2
  refine wl_aload_n C dX8_lesser_6 0 rfl ?_
  refine gf_8_8 C kq_79 (gir_8 hB kq_79) tw_601 dX8_lesser_7 ?_
  refine wl_iconst (v := 0) C dX8_lesser_10 (by decide) ?_
  refine ga_ld10 C kq_87 (gir_10 hB kq_87) h.1 dX8_lesser_11 ?_
  have h := h.2
  refine wl_icmp_ge C (tgt := 24) dX8_lesser_12 (by decide) (fun hc => ?_) (fun hc => ?_)
  · have h := h.1 hc
    refine wl_aload_n C dX8_lesser_24 0 rfl ?_
    refine gf_8_8 C kq_79 (gir_8 hB kq_79) tw_601 dX8_lesser_25 ?_
    refine wl_iconst (v := 0) C dX8_lesser_28 (by decide) ?_
    refine ga_ld10 C kq_87 (gir_10 hB kq_87) h.1 dX8_lesser_29 ?_
    have h := h.2
    refine wl_sub [] rfl ?_
    exact kX8_lesser_30 l G hg hB C hr (M 87 (0 : Int32).toNatClampNeg) M h
  · have h := h.2 hc
    refine wl_aload_n C dX8_lesser_15 0 rfl ?_
    refine gf_8_3 C kq_79 (gir_8 hB kq_79) tw_596 dX8_lesser_16 ?_
    refine wl_iconst (v := 0) C dX8_lesser_19 (by decide) ?_
    refine ga_ld10 C kq_82 (gir_10 hB kq_82) h.1 dX8_lesser_20 ?_
    have h := h.2
    refine wl_goto C (tgt := 30) dX8_lesser_21 (by decide) ?_
    refine wl_sub [] rfl ?_
    exact kX8_lesser_30 l G hg hB C hr (M 82 (0 : Int32).toNatClampNeg) M h
set_option maxRecDepth 100000 in
set_option maxHeartbeats 4000000 in
theorem kX8_right_55 (l : Launch) (G : gP) (hg : gIn G) (hB : gRf G) (x1 : Int64) {p : Program} {e : Env} {s : State} {m : MethodId} {args : Array Value} {below : List Frame} {meth : Method} {c : Code} (C : Cx p s m args meth c G (gA G) cX8_right 5 RX8) (hr : meth.sig.returnType = (some (Jvm.ClassFile.FieldType.int))) {Q : Int32 → Mem → Prop} (k_19 : Int32 → Int32 → Mem → Prop) (hk_19 : ∀ (v3 : Int32) (v4 : Int32) (M : Mem), k_19 v3 v4 M → Wl p l e rmX8_right s m args below meth c (MQ below (va_Qi Q (gB G) (gA G)) args s 0 0 (gA G)) G (gA G) 5 0 0 M 19 [(0, .ref (gAD G 79)), (3, .int v3), (4, .int v4)] []) (v4 : Int32) (s0 : Int32) (s1 : Int32) (M : Mem) (h : wX8_right_55 x1 k_19 Q v4 s0 s1 M) : Wl p l e rmX8_right s m args below meth c (MQ below (va_Qi Q (gB G) (gA G)) args s 0 0 (gA G)) G (gA G) 5 0 0 M 55 [(0, .ref (gAD G 79)), (4, .int v4)] [.int s0, .int s1] := by
  have h : k_19 (s1 + s0) (v4 + (1 : Int32)) M := h
  refine wl_iadd C dX8_right_55 ?_
  refine wl_istore_n (i := 3) (lv' := [(3, .int (s1 + s0)), (0, .ref (gAD G 79)), (4, .int v4)]) C dX8_right_56 rfl (by decide) rfl ?_
  refine wl_iinc (v := (v4 + (1 : Int32))) (lv' := [(4, .int (v4 + (1 : Int32))), (3, .int (s1 + s0)), (0, .ref (gAD G 79))]) C dX8_right_57 2 rfl (by rfl) (by decide) rfl ?_
  refine wl_goto C (tgt := 19) dX8_right_60 (by decide) ?_
  refine wl_sub [2, 1, 0] rfl ?_
  exact hk_19 (s1 + s0) (v4 + (1 : Int32)) M h
set_option maxRecDepth 100000 in
set_option maxHeartbeats 4000000 in
theorem kX8_right_19 (l : Launch) (G : gP) (hg : gIn G) (hB : gRf G) (x1 : Int64) {p : Program} {e : Env} {s : State} {m : MethodId} {args : Array Value} {below : List Frame} {meth : Method} {c : Code} (C : Cx p s m args meth c G (gA G) cX8_right 5 RX8) (hr : meth.sig.returnType = (some (Jvm.ClassFile.FieldType.int))) {Q : Int32 → Mem → Prop} : ∀ (n : Nat) (v3 : Int32) (v4 : Int32) (M : Mem), wX8_right_19 x1 Q n v3 v4 M → Wl p l e rmX8_right s m args below meth c (MQ below (va_Qi Q (gB G) (gA G)) args s 0 0 (gA G)) G (gA G) 5 0 0 M 19 [(0, .ref (gAD G 79)), (3, .int v3), (4, .int v4)] [] := by
  intro n
  induction n with
  | zero => intro v3 v4 M h; exact h.elim
  | succ n ih =>
    intro v3 v4 M h
    have h : (wX8_lesser M (fun r6 M5 => ((r6 ≤ v4 → Q v3 M5) ∧ (¬ r6 ≤ v4 → (wX8_placeOf v4 M5 (fun r8 M7 => (vp_in r8 (ln 89) ∧ (vp_in v4 (ln 88) ∧ ((¬ (M7 89 r8.toNatClampNeg) = (M7 88 v4.toNatClampNeg) → wX8_right_55 x1 (wX8_right_19 x1 Q n) Q v4 (0 : Int32) v3 M7) ∧ ((M7 89 r8.toNatClampNeg) = (M7 88 v4.toNatClampNeg) → wX8_right_55 x1 (wX8_right_19 x1 Q n) Q v4 (1 : Int32) v3 M7)))))))))) := h
    refine wl_iload C dX8_right_19 2 rfl ?_
    refine wl_aload_n C dX8_right_21 0 rfl ?_
    refine wl_callVi C (cX8_lesser_M l G hg hB M _) h cw_RX8_206 hd_X8_lesser ⟨rfl, rfl⟩ ⟨by decide, by decide⟩ (gir_8 hB kq_79) (gc_k kq_79) rfl (As := []) (rest := [.int v4]) rfl (Nat.le_of_ble_eq_true rfl) ⟨Nat.zero_le _, Nat.zero_le _⟩ rfl dX8_right_22 (fun r6 M5 h => ?_)
    refine wl_icmp_ge C (tgt := 63) dX8_right_25 (by decide) (fun hc => ?_) (fun hc => ?_)
    · have h := h.1 hc
      refine wl_iload_n C dX8_right_63 1 rfl ?_
      exact wl_iret C hr h dX8_right_64
    · have h := h.2 hc
      refine wl_iload_n C dX8_right_28 1 rfl ?_
      refine wl_aload_n C dX8_right_29 0 rfl ?_
      refine gf_8_10 C kq_79 (gir_8 hB kq_79) tw_603 dX8_right_30 ?_
      refine wl_aload_n C dX8_right_33 0 rfl ?_
      refine wl_iload C dX8_right_34 2 rfl ?_
      refine wl_callVi C (cX8_placeOf_M l G hg hB v4 M5 _) h cw_RX8_191 hd_X8_placeOf ⟨rfl, rfl⟩ ⟨by decide, by decide⟩ (gir_8 hB kq_79) (gc_k kq_79) rfl (As := [.int v4]) (rest := [.ref (gAD G 89), .int v3]) rfl (Nat.le_of_ble_eq_true rfl) ⟨Nat.zero_le _, Nat.zero_le _⟩ rfl dX8_right_36 (fun r8 M7 h => ?_)
      refine ga_ld10 C kq_89 (gir_10 hB kq_89) h.1 dX8_right_39 ?_
      have h := h.2
      refine wl_aload_n C dX8_right_40 0 rfl ?_
      refine gf_8_9 C kq_79 (gir_8 hB kq_79) tw_602 dX8_right_41 ?_
      refine wl_iload C dX8_right_44 2 rfl ?_
      refine ga_ld10 C kq_88 (gir_10 hB kq_88) h.1 dX8_right_46 ?_
      have h := h.2
      refine wl_icmp_ne C (tgt := 54) dX8_right_47 (by decide) (fun hc => ?_) (fun hc => ?_)
      · have h := h.1 hc
        refine wl_iconst (v := 0) C dX8_right_54 (by decide) ?_
        refine wl_sub [0, 2] rfl ?_
        exact kX8_right_55 l G hg hB x1 C hr (wX8_right_19 x1 Q n) (ih) v4 (0 : Int32) v3 M7 h
      · have h := h.2 hc
        refine wl_iconst (v := 1) C dX8_right_50 (by decide) ?_
        refine wl_goto C (tgt := 55) dX8_right_51 (by decide) ?_
        refine wl_sub [0, 2] rfl ?_
        exact kX8_right_55 l G hg hB x1 C hr (wX8_right_19 x1 Q n) (ih) v4 (1 : Int32) v3 M7 h
set_option maxRecDepth 100000 in
set_option maxHeartbeats 4000000 in
theorem cX8_right_M (l : Launch) (G : gP) (hg : gIn G) (hB : gRf G) (x1 : Int64) (M : Mem) (Q : Int32 → Mem → Prop) : Met l yX8_right (Cond.code yX8_right cX8_right 5 (some (Jvm.ClassFile.FieldType.int)) :: TB) rmX8_right (va_Pc [.ref (gAD G 79), .long x1] (fun U => gS G M U ∧ wX8_right x1 M Q)) (va_Qi Q (gB G) (gA G)) 0 0 (gA G) := by
  refine gMet (by decide +kernel) (show _ = Cond.code yX8_right cX8_right 5 (some (Jvm.ClassFile.FieldType.int)) from rfl) hg (Nat.le_of_ble_eq_true rfl) [(0, .ref (gAD G 79)), (1, .long x1)] rfl ?_
  intro p e s m args below meth c C hr h
  have h : (wX8_isReader x1 M (fun r2 M1 => ((¬ r2 = 0 → (wX8_layPower x1 M1 (fun M3 => (∃ n4, wX8_right_19 x1 Q n4 (0 : Int32) (0 : Int32) M3)))) ∧ (r2 = 0 → Q (-1 : Int32) M1)))) := h
  refine wl_lload_n C dX8_right_0 1 rfl ?_
  refine wl_callSi C (cX8_isReader_M l G hg hB x1 M _) h cw_RX8_183 hd_X8_isReader ⟨rfl, rfl⟩ ⟨by decide, by decide⟩ (As := [.long x1]) (rest := []) rfl (Nat.le_of_ble_eq_true rfl) ⟨Nat.zero_le _, Nat.zero_le _⟩ rfl dX8_right_1 (fun r2 M1 h => ?_)
  refine wl_if_ne C (tgt := 9) dX8_right_4 (by decide) (fun hc => ?_) (fun hc => ?_)
  · have h := h.1 hc
    refine wl_aload_n C dX8_right_9 0 rfl ?_
    refine wl_lload_n C dX8_right_10 1 rfl ?_
    refine wl_callVv C (cX8_layPower_M l G hg hB x1 M1 _) h cw_RX8_187 hd_X8_layPower ⟨rfl, rfl⟩ ⟨by decide, by decide⟩ (gir_8 hB kq_79) (gc_k kq_79) rfl (As := [.long x1]) (rest := []) rfl (Nat.le_of_ble_eq_true rfl) ⟨Nat.zero_le _, Nat.zero_le _⟩ rfl dX8_right_11 (fun M3 h => ?_)
    refine wl_iconst (v := 0) C dX8_right_14 (by decide) ?_
    refine wl_istore_n (i := 3) (lv' := [(3, .int (0 : Int32)), (0, .ref (gAD G 79)), (1, .long x1)]) C dX8_right_15 rfl (by decide) rfl ?_
    refine wl_iconst (v := 0) C dX8_right_16 (by decide) ?_
    refine wl_istore (i := 4) (lv' := [(4, .int (0 : Int32)), (3, .int (0 : Int32)), (0, .ref (gAD G 79)), (1, .long x1)]) C dX8_right_17 (by decide) rfl ?_
    refine wl_sub [2, 1, 0] rfl ?_
    obtain ⟨n4, h⟩ := h
    exact kX8_right_19 l G hg hB x1 C hr n4 (0 : Int32) (0 : Int32) M3 h
  · have h := h.2 hc
    refine wl_iconst (v := (-1)) C dX8_right_7 (by decide) ?_
    exact wl_iret C hr h dX8_right_8
set_option maxRecDepth 100000 in
set_option maxHeartbeats 4000000 in
theorem kX8_noOrder_7 (l : Launch) (G : gP) (hg : gIn G) (hB : gRf G) {p : Program} {e : Env} {s : State} {m : MethodId} {args : Array Value} {below : List Frame} {meth : Method} {c : Code} (C : Cx p s m args meth c G (gA G) cX8_noOrder 2 RX8) (hr : meth.sig.returnType = none) {Q : Mem → Prop} : ∀ (n : Nat) (v1 : Int32) (M : Mem), wX8_noOrder_7 Q n v1 M → Wl p l e rmX8_noOrder s m args below meth c (MQ below (va_Qv Q (gB G) (gA G)) args s 0 0 (gA G)) G (gA G) 2 0 0 M 7 [(0, .ref (gAD G 79)), (1, .int v1)] [] := by
  intro n
  induction n with
  | zero => intro v1 M h; exact h.elim
  | succ n ih =>
    intro v1 M h
    have h : (((40 : Int32) ≤ v1 → Q M) ∧ (¬ (40 : Int32) ≤ v1 → (vp_in v1 (ln 103) ∧ (vp_in v1 (ln 104) ∧ wX8_noOrder_7 Q n (v1 + (1 : Int32)) (mu (mu M 103 v1.toNatClampNeg (-4 : Int32)) 104 v1.toNatClampNeg (-4 : Int32)))))) := h
    refine wl_iload_n C dX8_noOrder_7 1 rfl ?_
    refine wl_bipush (v := 40) C dX8_noOrder_8 (by decide) ?_
    refine wl_icmp_ge C (tgt := 35) dX8_noOrder_10 (by decide) (fun hc => ?_) (fun hc => ?_)
    · have h := h.1 hc
      exact wl_vret C hr h dX8_noOrder_35
    · have h := h.2 hc
      refine wl_aload_n C dX8_noOrder_13 0 rfl ?_
      refine gf_8_27 C kq_79 (gir_8 hB kq_79) tw_620 dX8_noOrder_14 ?_
      refine wl_iload_n C dX8_noOrder_17 1 rfl ?_
      refine wl_bipush (v := (-4)) C dX8_noOrder_18 (by decide) ?_
      refine ga_st10 C kq_103 (gir_10 hB kq_103) h.1 dX8_noOrder_20 ?_
      have h := h.2
      refine wl_aload_n C dX8_noOrder_21 0 rfl ?_
      refine gf_8_28 C kq_79 (gir_8 hB kq_79) tw_621 dX8_noOrder_22 ?_
      refine wl_iload_n C dX8_noOrder_25 1 rfl ?_
      refine wl_bipush (v := (-4)) C dX8_noOrder_26 (by decide) ?_
      refine ga_st10 C kq_104 (gir_10 hB kq_104) h.1 dX8_noOrder_28 ?_
      have h := h.2
      refine wl_iinc (v := (v1 + (1 : Int32))) (lv' := [(1, .int (v1 + (1 : Int32))), (0, .ref (gAD G 79))]) C dX8_noOrder_29 1 rfl (by rfl) (by decide) rfl ?_
      refine wl_goto C (tgt := 7) dX8_noOrder_32 (by decide) ?_
      refine wl_sub [1, 0] rfl ?_
      exact ih (v1 + (1 : Int32)) (mu (mu M 103 v1.toNatClampNeg (-4 : Int32)) 104 v1.toNatClampNeg (-4 : Int32)) h
set_option maxRecDepth 100000 in
set_option maxHeartbeats 4000000 in
theorem cX8_noOrder_M (l : Launch) (G : gP) (hg : gIn G) (hB : gRf G) (M : Mem) (Q : Mem → Prop) : Met l yX8_noOrder (Cond.code yX8_noOrder cX8_noOrder 2 none :: TB) rmX8_noOrder (va_Pc [.ref (gAD G 79)] (fun U => gS G M U ∧ wX8_noOrder M Q)) (va_Qv Q (gB G) (gA G)) 0 0 (gA G) := by
  refine gMet (by decide +kernel) (show _ = Cond.code yX8_noOrder cX8_noOrder 2 none from rfl) hg (Nat.le_of_ble_eq_true rfl) [(0, .ref (gAD G 79))] rfl ?_
  intro p e s m args below meth c C hr h
  have h : (∃ n1, wX8_noOrder_7 Q n1 (0 : Int32) (mu M 79 29 (0 : Int32))) := h
  refine wl_aload_n C dX8_noOrder_0 0 rfl ?_
  refine wl_iconst (v := 0) C dX8_noOrder_1 (by decide) ?_
  refine gp_8_29 C kq_79 (gir_8 hB kq_79) tw_622 dX8_noOrder_2 ?_
  refine wl_iconst (v := 0) C dX8_noOrder_5 (by decide) ?_
  refine wl_istore_n (i := 1) (lv' := [(1, .int (0 : Int32)), (0, .ref (gAD G 79))]) C dX8_noOrder_6 rfl (by decide) rfl ?_
  refine wl_sub [1, 0] rfl ?_
  obtain ⟨n1, h⟩ := h
  exact kX8_noOrder_7 l G hg hB C hr n1 (0 : Int32) (mu M 79 29 (0 : Int32)) h
set_option maxRecDepth 100000 in
set_option maxHeartbeats 4000000 in
theorem kX8_know_30 (l : Launch) (G : gP) (hg : gIn G) (hB : gRf G) (x1 : Int32) (x2 : Int32) {p : Program} {e : Env} {s : State} {m : MethodId} {args : Array Value} {below : List Frame} {meth : Method} {c : Code} (C : Cx p s m args meth c G (gA G) cX8_know 3 RX8) (hr : meth.sig.returnType = (some (Jvm.ClassFile.FieldType.boolean))) {Q : Int32 → Mem → Prop} (M : Mem) (h : wX8_know_30 x1 x2 Q M) : Wl p l e rmX8_know s m args below meth c (MQ below (va_Qi Q (gB G) (gA G)) args s 0 0 (gA G)) G (gA G) 3 0 0 M 30 [] [] := by
  have h : (((0 : Int32) = 0 ∨ (0 : Int32) = 1) ∧ Q (0 : Int32) M) := h
  refine wl_iconst (v := 0) C dX8_know_30 (by decide) ?_
  exact wl_zret C hr h.1 h.2 dX8_know_31
set_option maxRecDepth 100000 in
set_option maxHeartbeats 4000000 in
theorem cX8_know_M (l : Launch) (G : gP) (hg : gIn G) (hB : gRf G) (x1 : Int32) (x2 : Int32) (M : Mem) (Q : Int32 → Mem → Prop) : Met l yX8_know (Cond.code yX8_know cX8_know 3 (some (Jvm.ClassFile.FieldType.boolean)) :: TB) rmX8_know (va_Pc [.ref (gAD G 79), .int x1, .int x2] (fun U => gS G M U ∧ wX8_know x1 x2 M Q)) (va_Qi Q (gB G) (gA G)) 0 0 (gA G) := by
  refine gMet (by decide +kernel) (show _ = Cond.code yX8_know cX8_know 3 (some (Jvm.ClassFile.FieldType.boolean)) from rfl) hg (Nat.le_of_ble_eq_true rfl) [(0, .ref (gAD G 79)), (1, .int x1), (2, .int x2)] rfl ?_
  intro p e s m args below meth c C hr h
  have h : (vp_in x1 (ln 103) ∧ ((¬ (M 103 x1.toNatClampNeg) = x2 → (vp_in x1 (ln 103) ∧ ((0 ≤ (M 103 x1.toNatClampNeg) → wX8_know_30 x1 x2 Q M) ∧ (¬ 0 ≤ (M 103 x1.toNatClampNeg) → (vp_in x2 (ln 104) ∧ (((M 104 x2.toNatClampNeg) < 0 → (vp_in x1 (ln 103) ∧ (vp_in x2 (ln 104) ∧ (((1 : Int32) = 0 ∨ (1 : Int32) = 1) ∧ Q (1 : Int32) (mu (mu (mu M 103 x1.toNatClampNeg x2) 104 x2.toNatClampNeg x1) 79 29 (((mu (mu M 103 x1.toNatClampNeg x2) 104 x2.toNatClampNeg x1) 79 29) + (1 : Int32))))))) ∧ (¬ (M 104 x2.toNatClampNeg) < 0 → wX8_know_30 x1 x2 Q M))))))) ∧ ((M 103 x1.toNatClampNeg) = x2 → (((1 : Int32) = 0 ∨ (1 : Int32) = 1) ∧ Q (1 : Int32) M)))) := h
  refine wl_aload_n C dX8_know_0 0 rfl ?_
  refine gf_8_27 C kq_79 (gir_8 hB kq_79) tw_620 dX8_know_1 ?_
  refine wl_iload_n C dX8_know_4 1 rfl ?_
  refine ga_ld10 C kq_103 (gir_10 hB kq_103) h.1 dX8_know_5 ?_
  have h := h.2
  refine wl_iload_n C dX8_know_6 2 rfl ?_
  refine wl_icmp_ne C (tgt := 12) dX8_know_7 (by decide) (fun hc => ?_) (fun hc => ?_)
  · have h := h.1 hc
    refine wl_aload_n C dX8_know_12 0 rfl ?_
    refine gf_8_27 C kq_79 (gir_8 hB kq_79) tw_620 dX8_know_13 ?_
    refine wl_iload_n C dX8_know_16 1 rfl ?_
    refine ga_ld10 C kq_103 (gir_10 hB kq_103) h.1 dX8_know_17 ?_
    have h := h.2
    refine wl_if_ge C (tgt := 30) dX8_know_18 (by decide) (fun hc => ?_) (fun hc => ?_)
    · have h := h.1 hc
      refine wl_sub [] rfl ?_
      exact kX8_know_30 l G hg hB x1 x2 C hr M h
    · have h := h.2 hc
      refine wl_aload_n C dX8_know_21 0 rfl ?_
      refine gf_8_28 C kq_79 (gir_8 hB kq_79) tw_621 dX8_know_22 ?_
      refine wl_iload_n C dX8_know_25 2 rfl ?_
      refine ga_ld10 C kq_104 (gir_10 hB kq_104) h.1 dX8_know_26 ?_
      have h := h.2
      refine wl_if_lt C (tgt := 32) dX8_know_27 (by decide) (fun hc => ?_) (fun hc => ?_)
      · have h := h.1 hc
        refine wl_aload_n C dX8_know_32 0 rfl ?_
        refine gf_8_27 C kq_79 (gir_8 hB kq_79) tw_620 dX8_know_33 ?_
        refine wl_iload_n C dX8_know_36 1 rfl ?_
        refine wl_iload_n C dX8_know_37 2 rfl ?_
        refine ga_st10 C kq_103 (gir_10 hB kq_103) h.1 dX8_know_38 ?_
        have h := h.2
        refine wl_aload_n C dX8_know_39 0 rfl ?_
        refine gf_8_28 C kq_79 (gir_8 hB kq_79) tw_621 dX8_know_40 ?_
        refine wl_iload_n C dX8_know_43 2 rfl ?_
        refine wl_iload_n C dX8_know_44 1 rfl ?_
        refine ga_st10 C kq_104 (gir_10 hB kq_104) h.1 dX8_know_45 ?_
        have h := h.2
        refine wl_aload_n C dX8_know_46 0 rfl ?_
        refine wl_dup C dX8_know_47 rfl ?_
        refine gf_8_29 C kq_79 (gir_8 hB kq_79) tw_622 dX8_know_48 ?_
        refine wl_iconst (v := 1) C dX8_know_51 (by decide) ?_
        refine wl_iadd C dX8_know_52 ?_
        refine gp_8_29 C kq_79 (gir_8 hB kq_79) tw_622 dX8_know_53 ?_
        refine wl_iconst (v := 1) C dX8_know_56 (by decide) ?_
        exact wl_zret C hr h.1 h.2 dX8_know_57
      · have h := h.2 hc
        refine wl_sub [] rfl ?_
        exact kX8_know_30 l G hg hB x1 x2 C hr M h
  · have h := h.2 hc
    refine wl_iconst (v := 1) C dX8_know_10 (by decide) ?_
    exact wl_zret C hr h.1 h.2 dX8_know_11
set_option maxRecDepth 100000 in
set_option maxHeartbeats 4000000 in
theorem kX8_order_15 (l : Launch) (G : gP) (hg : gIn G) (hB : gRf G) (x1 : Int64) (x3 : Int32) {p : Program} {e : Env} {s : State} {m : MethodId} {args : Array Value} {below : List Frame} {meth : Method} {c : Code} (C : Cx p s m args meth c G (gA G) cX8_order 7 RX8) (hr : meth.sig.returnType = (some (Jvm.ClassFile.FieldType.int))) {Q : Int32 → Mem → Prop} (M : Mem) (h : wX8_order_15 x1 x3 Q M) : Wl p l e rmX8_order s m args below meth c (MQ below (va_Qi Q (gB G) (gA G)) args s 0 0 (gA G)) G (gA G) 7 0 0 M 15 [] [] := by
  have h : Q (-1 : Int32) M := h
  refine wl_iconst (v := (-1)) C dX8_order_15 (by decide) ?_
  exact wl_iret C hr h dX8_order_16
set_option maxRecDepth 100000 in
set_option maxHeartbeats 4000000 in
theorem kX8_order_71 (l : Launch) (G : gP) (hg : gIn G) (hB : gRf G) (x1 : Int64) (x3 : Int32) {p : Program} {e : Env} {s : State} {m : MethodId} {args : Array Value} {below : List Frame} {meth : Method} {c : Code} (C : Cx p s m args meth c G (gA G) cX8_order 7 RX8) (hr : meth.sig.returnType = (some (Jvm.ClassFile.FieldType.int))) {Q : Int32 → Mem → Prop} (k_32 : Int32 → Int32 → Mem → Prop) (hk_32 : ∀ (v4 : Int32) (v5 : Int32) (M : Mem), k_32 v4 v5 M → Wl p l e rmX8_order s m args below meth c (MQ below (va_Qi Q (gB G) (gA G)) args s 0 0 (gA G)) G (gA G) 7 0 0 M 32 [(0, .ref (gAD G 79)), (3, .int x3), (4, .int v4), (5, .int v5)] []) (v5 : Int32) (s0 : Int32) (M : Mem) (h : wX8_order_71 x1 x3 k_32 Q v5 s0 M) : Wl p l e rmX8_order s m args below meth c (MQ below (va_Qi Q (gB G) (gA G)) args s 0 0 (gA G)) G (gA G) 7 0 0 M 71 [(0, .ref (gAD G 79)), (3, .int x3), (5, .int v5)] [.int s0] := by
  have h : k_32 s0 (v5 + (1 : Int32)) M := h
  refine wl_istore (i := 4) (lv' := [(4, .int s0), (0, .ref (gAD G 79)), (3, .int x3), (5, .int v5)]) C dX8_order_71 (by decide) rfl ?_
  refine wl_iinc (v := (v5 + (1 : Int32))) (lv' := [(5, .int (v5 + (1 : Int32))), (4, .int s0), (0, .ref (gAD G 79)), (3, .int x3)]) C dX8_order_73 3 rfl (by rfl) (by decide) rfl ?_
  refine wl_goto C (tgt := 32) dX8_order_76 (by decide) ?_
  refine wl_sub [2, 3, 1, 0] rfl ?_
  exact hk_32 s0 (v5 + (1 : Int32)) M h
set_option maxRecDepth 100000 in
set_option maxHeartbeats 4000000 in
theorem kX8_order_70 (l : Launch) (G : gP) (hg : gIn G) (hB : gRf G) (x1 : Int64) (x3 : Int32) {p : Program} {e : Env} {s : State} {m : MethodId} {args : Array Value} {below : List Frame} {meth : Method} {c : Code} (C : Cx p s m args meth c G (gA G) cX8_order 7 RX8) (hr : meth.sig.returnType = (some (Jvm.ClassFile.FieldType.int))) {Q : Int32 → Mem → Prop} (k_32 : Int32 → Int32 → Mem → Prop) (hk_32 : ∀ (v4 : Int32) (v5 : Int32) (M : Mem), k_32 v4 v5 M → Wl p l e rmX8_order s m args below meth c (MQ below (va_Qi Q (gB G) (gA G)) args s 0 0 (gA G)) G (gA G) 7 0 0 M 32 [(0, .ref (gAD G 79)), (3, .int x3), (4, .int v4), (5, .int v5)] []) (v5 : Int32) (M : Mem) (h : wX8_order_70 x1 x3 k_32 Q v5 M) : Wl p l e rmX8_order s m args below meth c (MQ below (va_Qi Q (gB G) (gA G)) args s 0 0 (gA G)) G (gA G) 7 0 0 M 70 [(0, .ref (gAD G 79)), (3, .int x3), (5, .int v5)] [] := by
  have h : wX8_order_71 x1 x3 (k_32) Q v5 (0 : Int32) M := h
  refine wl_iconst (v := 0) C dX8_order_70 (by decide) ?_
  refine wl_sub [0, 1, 2] rfl ?_
  exact kX8_order_71 l G hg hB x1 x3 C hr (k_32) (hk_32) v5 (0 : Int32) M h
set_option maxRecDepth 100000 in
set_option maxHeartbeats 4000000 in
theorem kX8_order_139 (l : Launch) (G : gP) (hg : gIn G) (hB : gRf G) (x1 : Int64) (x3 : Int32) {p : Program} {e : Env} {s : State} {m : MethodId} {args : Array Value} {below : List Frame} {meth : Method} {c : Code} (C : Cx p s m args meth c G (gA G) cX8_order 7 RX8) (hr : meth.sig.returnType = (some (Jvm.ClassFile.FieldType.int))) {Q : Int32 → Mem → Prop} (k_93 : Int32 → Int32 → Mem → Prop) (hk_93 : ∀ (v5 : Int32) (v6 : Int32) (M : Mem), k_93 v5 v6 M → Wl p l e rmX8_order s m args below meth c (MQ below (va_Qi Q (gB G) (gA G)) args s 0 0 (gA G)) G (gA G) 7 0 0 M 93 [(0, .ref (gAD G 79)), (3, .int x3), (5, .int v5), (6, .int v6)] []) (v5 : Int32) (v6 : Int32) (M : Mem) (h : wX8_order_139 x1 x3 k_93 Q v5 v6 M) : Wl p l e rmX8_order s m args below meth c (MQ below (va_Qi Q (gB G) (gA G)) args s 0 0 (gA G)) G (gA G) 7 0 0 M 139 [(0, .ref (gAD G 79)), (3, .int x3), (5, .int v5), (6, .int v6)] [] := by
  have h : k_93 v5 (v6 + (1 : Int32)) M := h
  refine wl_iinc (v := (v6 + (1 : Int32))) (lv' := [(6, .int (v6 + (1 : Int32))), (0, .ref (gAD G 79)), (3, .int x3), (5, .int v5)]) C dX8_order_139 3 rfl (by rfl) (by decide) rfl ?_
  refine wl_goto C (tgt := 93) dX8_order_142 (by decide) ?_
  refine wl_sub [1, 2, 3, 0] rfl ?_
  exact hk_93 v5 (v6 + (1 : Int32)) M h
set_option maxRecDepth 100000 in
set_option maxHeartbeats 4000000 in
theorem kX8_order_114 (l : Launch) (G : gP) (hg : gIn G) (hB : gRf G) (x1 : Int64) (x3 : Int32) {p : Program} {e : Env} {s : State} {m : MethodId} {args : Array Value} {below : List Frame} {meth : Method} {c : Code} (C : Cx p s m args meth c G (gA G) cX8_order 7 RX8) (hr : meth.sig.returnType = (some (Jvm.ClassFile.FieldType.int))) {Q : Int32 → Mem → Prop} (k_93 : Int32 → Int32 → Mem → Prop) (hk_93 : ∀ (v5 : Int32) (v6 : Int32) (M : Mem), k_93 v5 v6 M → Wl p l e rmX8_order s m args below meth c (MQ below (va_Qi Q (gB G) (gA G)) args s 0 0 (gA G)) G (gA G) 7 0 0 M 93 [(0, .ref (gAD G 79)), (3, .int x3), (5, .int v5), (6, .int v6)] []) : ∀ (n : Nat) (v5 : Int32) (v6 : Int32) (M : Mem), wX8_order_114 x1 x3 k_93 Q n v5 v6 M → Wl p l e rmX8_order s m args below meth c (MQ below (va_Qi Q (gB G) (gA G)) args s 0 0 (gA G)) G (gA G) 7 0 0 M 114 [(0, .ref (gAD G 79)), (3, .int x3), (5, .int v5), (6, .int v6)] [] := by
  intro n
  induction n with
  | zero => intro v5 v6 M h; exact h.elim
  | succ n ih =>
    intro v5 v6 M h
    have h : (vp_in v5 (ln 104) ∧ (((M 104 v5.toNatClampNeg) < 0 → (wX8_know v6 v5 M (fun r17 M16 => wX8_order_139 x1 x3 (k_93) Q v5 v6 M16))) ∧ (¬ (M 104 v5.toNatClampNeg) < 0 → wX8_order_114 x1 x3 k_93 Q n (v5 + (1 : Int32)) v6 M))) := h
    refine wl_aload_n C dX8_order_114 0 rfl ?_
    refine gf_8_28 C kq_79 (gir_8 hB kq_79) tw_621 dX8_order_115 ?_
    refine wl_iload C dX8_order_118 2 rfl ?_
    refine ga_ld10 C kq_104 (gir_10 hB kq_104) h.1 dX8_order_120 ?_
    have h := h.2
    refine wl_if_lt C (tgt := 130) dX8_order_121 (by decide) (fun hc => ?_) (fun hc => ?_)
    · have h := h.1 hc
      refine wl_aload_n C dX8_order_130 0 rfl ?_
      refine wl_iload C dX8_order_131 3 rfl ?_
      refine wl_iload C dX8_order_133 2 rfl ?_
      refine wl_callVi C (cX8_know_M l G hg hB v6 v5 M _) h cw_RX8_215 hd_X8_know ⟨rfl, rfl⟩ ⟨by decide, by decide⟩ (gir_8 hB kq_79) (gc_k kq_79) rfl (As := [.int v6, .int v5]) (rest := []) rfl (Nat.le_of_ble_eq_true rfl) ⟨Nat.zero_le _, Nat.zero_le _⟩ rfl dX8_order_135 (fun r17 M16 h => ?_)
      refine wl_pop C dX8_order_138 rfl ?_
      refine wl_sub [0, 1, 2, 3] rfl ?_
      exact kX8_order_139 l G hg hB x1 x3 C hr (k_93) (hk_93) v5 v6 M16 h
    · have h := h.2 hc
      refine wl_iinc (v := (v5 + (1 : Int32))) (lv' := [(5, .int (v5 + (1 : Int32))), (0, .ref (gAD G 79)), (3, .int x3), (6, .int v6)]) C dX8_order_124 2 rfl (by rfl) (by decide) rfl ?_
      refine wl_goto C (tgt := 114) dX8_order_127 (by decide) ?_
      refine wl_sub [1, 2, 0, 3] rfl ?_
      exact ih (v5 + (1 : Int32)) v6 M h
set_option maxRecDepth 100000 in
set_option maxHeartbeats 4000000 in
theorem kX8_order_93 (l : Launch) (G : gP) (hg : gIn G) (hB : gRf G) (x1 : Int64) (x3 : Int32) {p : Program} {e : Env} {s : State} {m : MethodId} {args : Array Value} {below : List Frame} {meth : Method} {c : Code} (C : Cx p s m args meth c G (gA G) cX8_order 7 RX8) (hr : meth.sig.returnType = (some (Jvm.ClassFile.FieldType.int))) {Q : Int32 → Mem → Prop} : ∀ (n : Nat) (v5 : Int32) (v6 : Int32) (M : Mem), wX8_order_93 x1 x3 Q n v5 v6 M → Wl p l e rmX8_order s m args below meth c (MQ below (va_Qi Q (gB G) (gA G)) args s 0 0 (gA G)) G (gA G) 7 0 0 M 93 [(0, .ref (gAD G 79)), (3, .int x3), (5, .int v5), (6, .int v6)] [] := by
  intro n
  induction n with
  | zero => intro v5 v6 M h; exact h.elim
  | succ n ih =>
    intro v5 v6 M h
    have h : (vp_in (0 : Int32) (ln 81) ∧ (((M 81 (0 : Int32).toNatClampNeg) ≤ v6 → (vp_in x3 (ln 103) ∧ Q (M 103 x3.toNatClampNeg) M)) ∧ (¬ (M 81 (0 : Int32).toNatClampNeg) ≤ v6 → (vp_in v6 (ln 103) ∧ ((0 ≤ (M 103 v6.toNatClampNeg) → wX8_order_139 x1 x3 (wX8_order_93 x1 x3 Q n) Q v5 v6 M) ∧ (¬ 0 ≤ (M 103 v6.toNatClampNeg) → (∃ n15, wX8_order_114 x1 x3 (wX8_order_93 x1 x3 Q n) Q n15 v5 v6 M))))))) := h
    refine wl_iload C dX8_order_93 3 rfl ?_
    refine wl_aload_n C dX8_order_95 0 rfl ?_
    refine gf_8_2 C kq_79 (gir_8 hB kq_79) tw_595 dX8_order_96 ?_
    refine wl_iconst (v := 0) C dX8_order_99 (by decide) ?_
    refine ga_ld10 C kq_81 (gir_10 hB kq_81) h.1 dX8_order_100 ?_
    have h := h.2
    refine wl_icmp_ge C (tgt := 145) dX8_order_101 (by decide) (fun hc => ?_) (fun hc => ?_)
    · have h := h.1 hc
      refine wl_aload_n C dX8_order_145 0 rfl ?_
      refine gf_8_27 C kq_79 (gir_8 hB kq_79) tw_620 dX8_order_146 ?_
      refine wl_iload_n C dX8_order_149 1 rfl ?_
      refine ga_ld10 C kq_103 (gir_10 hB kq_103) h.1 dX8_order_150 ?_
      have h := h.2
      exact wl_iret C hr h dX8_order_151
    · have h := h.2 hc
      refine wl_aload_n C dX8_order_104 0 rfl ?_
      refine gf_8_27 C kq_79 (gir_8 hB kq_79) tw_620 dX8_order_105 ?_
      refine wl_iload C dX8_order_108 3 rfl ?_
      refine ga_ld10 C kq_103 (gir_10 hB kq_103) h.1 dX8_order_110 ?_
      have h := h.2
      refine wl_if_ge C (tgt := 139) dX8_order_111 (by decide) (fun hc => ?_) (fun hc => ?_)
      · have h := h.1 hc
        refine wl_sub [0, 1, 2, 3] rfl ?_
        exact kX8_order_139 l G hg hB x1 x3 C hr (wX8_order_93 x1 x3 Q n) (ih) v5 v6 M h
      · have h := h.2 hc
        refine wl_sub [0, 1, 2, 3] rfl ?_
        obtain ⟨n15, h⟩ := h
        exact kX8_order_114 l G hg hB x1 x3 C hr (wX8_order_93 x1 x3 Q n) (ih) n15 v5 v6 M h
set_option maxRecDepth 100000 in
set_option maxHeartbeats 4000000 in
theorem kX8_order_32 (l : Launch) (G : gP) (hg : gIn G) (hB : gRf G) (x1 : Int64) (x3 : Int32) {p : Program} {e : Env} {s : State} {m : MethodId} {args : Array Value} {below : List Frame} {meth : Method} {c : Code} (C : Cx p s m args meth c G (gA G) cX8_order 7 RX8) (hr : meth.sig.returnType = (some (Jvm.ClassFile.FieldType.int))) {Q : Int32 → Mem → Prop} : ∀ (n : Nat) (v4 : Int32) (v5 : Int32) (M : Mem), wX8_order_32 x1 x3 Q n v4 v5 M → Wl p l e rmX8_order s m args below meth c (MQ below (va_Qi Q (gB G) (gA G)) args s 0 0 (gA G)) G (gA G) 7 0 0 M 32 [(0, .ref (gAD G 79)), (3, .int x3), (4, .int v4), (5, .int v5)] [] := by
  intro n
  induction n with
  | zero => intro v4 v5 M h; exact h.elim
  | succ n ih =>
    intro v4 v5 M h
    have h : (wX8_lesser M (fun r9 M8 => ((r9 ≤ v5 → ((¬ v4 = 0 → (∃ n10, wX8_order_93 x1 x3 Q n10 (0 : Int32) (0 : Int32) M8)) ∧ (v4 = 0 → Q (-4 : Int32) M8))) ∧ (¬ r9 ≤ v5 → (wX8_placeOf v5 M8 (fun r12 M11 => (vp_in v5 (ln 88) ∧ (wX8_know r12 (M11 88 v5.toNatClampNeg) M11 (fun r14 M13 => ((r14 = 0 → wX8_order_70 x1 x3 (wX8_order_32 x1 x3 Q n) Q v5 M13) ∧ (¬ r14 = 0 → ((v4 = 0 → wX8_order_70 x1 x3 (wX8_order_32 x1 x3 Q n) Q v5 M13) ∧ (¬ v4 = 0 → wX8_order_71 x1 x3 (wX8_order_32 x1 x3 Q n) Q v5 (1 : Int32) M13))))))))))))) := h
    refine wl_iload C dX8_order_32 3 rfl ?_
    refine wl_aload_n C dX8_order_34 0 rfl ?_
    refine wl_callVi C (cX8_lesser_M l G hg hB M _) h cw_RX8_206 hd_X8_lesser ⟨rfl, rfl⟩ ⟨by decide, by decide⟩ (gir_8 hB kq_79) (gc_k kq_79) rfl (As := []) (rest := [.int v5]) rfl (Nat.le_of_ble_eq_true rfl) ⟨Nat.zero_le _, Nat.zero_le _⟩ rfl dX8_order_35 (fun r9 M8 h => ?_)
    refine wl_icmp_ge C (tgt := 79) dX8_order_38 (by decide) (fun hc => ?_) (fun hc => ?_)
    · have h := h.1 hc
      refine wl_iload C dX8_order_79 2 rfl ?_
      refine wl_if_ne C (tgt := 87) dX8_order_81 (by decide) (fun hc => ?_) (fun hc => ?_)
      · have h := h.1 hc
        refine wl_iconst (v := 0) C dX8_order_87 (by decide) ?_
        refine wl_istore (i := 5) (lv' := [(5, .int (0 : Int32)), (0, .ref (gAD G 79)), (3, .int x3), (4, .int v4)]) C dX8_order_88 (by decide) rfl ?_
        refine wl_iconst (v := 0) C dX8_order_90 (by decide) ?_
        refine wl_istore (i := 6) (lv' := [(6, .int (0 : Int32)), (5, .int (0 : Int32)), (0, .ref (gAD G 79)), (3, .int x3), (4, .int v4)]) C dX8_order_91 (by decide) rfl ?_
        refine wl_sub [2, 3, 1, 0] rfl ?_
        obtain ⟨n10, h⟩ := h
        exact kX8_order_93 l G hg hB x1 x3 C hr n10 (0 : Int32) (0 : Int32) M8 h
      · have h := h.2 hc
        refine wl_bipush (v := (-4)) C dX8_order_84 (by decide) ?_
        exact wl_iret C hr h dX8_order_86
    · have h := h.2 hc
      refine wl_aload_n C dX8_order_41 0 rfl ?_
      refine wl_aload_n C dX8_order_42 0 rfl ?_
      refine wl_iload C dX8_order_43 3 rfl ?_
      refine wl_callVi C (cX8_placeOf_M l G hg hB v5 M8 _) h cw_RX8_191 hd_X8_placeOf ⟨rfl, rfl⟩ ⟨by decide, by decide⟩ (gir_8 hB kq_79) (gc_k kq_79) rfl (As := [.int v5]) (rest := [.ref (gAD G 79)]) rfl (Nat.le_of_ble_eq_true rfl) ⟨Nat.zero_le _, Nat.zero_le _⟩ rfl dX8_order_45 (fun r12 M11 h => ?_)
      refine wl_aload_n C dX8_order_48 0 rfl ?_
      refine gf_8_9 C kq_79 (gir_8 hB kq_79) tw_602 dX8_order_49 ?_
      refine wl_iload C dX8_order_52 3 rfl ?_
      refine ga_ld10 C kq_88 (gir_10 hB kq_88) h.1 dX8_order_54 ?_
      have h := h.2
      refine wl_callVi C (cX8_know_M l G hg hB r12 (M11 88 v5.toNatClampNeg) M11 _) h cw_RX8_215 hd_X8_know ⟨rfl, rfl⟩ ⟨by decide, by decide⟩ (gir_8 hB kq_79) (gc_k kq_79) rfl (As := [.int r12, .int (M11 88 v5.toNatClampNeg)]) (rest := []) rfl (Nat.le_of_ble_eq_true rfl) ⟨Nat.zero_le _, Nat.zero_le _⟩ rfl dX8_order_55 (fun r14 M13 h => ?_)
      refine wl_if_eq C (tgt := 70) dX8_order_58 (by decide) (fun hc => ?_) (fun hc => ?_)
      · have h := h.1 hc
        refine wl_sub [0, 1, 3] rfl ?_
        exact kX8_order_70 l G hg hB x1 x3 C hr (wX8_order_32 x1 x3 Q n) (ih) v5 M13 h
      · have h := h.2 hc
        refine wl_iload C dX8_order_61 2 rfl ?_
        refine wl_if_eq C (tgt := 70) dX8_order_63 (by decide) (fun hc => ?_) (fun hc => ?_)
        · have h := h.1 hc
          refine wl_sub [0, 1, 3] rfl ?_
          exact kX8_order_70 l G hg hB x1 x3 C hr (wX8_order_32 x1 x3 Q n) (ih) v5 M13 h
        · have h := h.2 hc
          refine wl_iconst (v := 1) C dX8_order_66 (by decide) ?_
          refine wl_goto C (tgt := 71) dX8_order_67 (by decide) ?_
          refine wl_sub [0, 1, 3] rfl ?_
          exact kX8_order_71 l G hg hB x1 x3 C hr (wX8_order_32 x1 x3 Q n) (ih) v5 (1 : Int32) M13 h
set_option maxRecDepth 100000 in
set_option maxHeartbeats 4000000 in
theorem cX8_order_M (l : Launch) (G : gP) (hg : gIn G) (hB : gRf G) (x1 : Int64) (x3 : Int32) (M : Mem) (Q : Int32 → Mem → Prop) : Met l yX8_order (Cond.code yX8_order cX8_order 7 (some (Jvm.ClassFile.FieldType.int)) :: TB) rmX8_order (va_Pc [.ref (gAD G 79), .long x1, .int x3] (fun U => gS G M U ∧ wX8_order x1 x3 M Q)) (va_Qi Q (gB G) (gA G)) 0 0 (gA G) := by
  refine gMet (by decide +kernel) (show _ = Cond.code yX8_order cX8_order 7 (some (Jvm.ClassFile.FieldType.int)) from rfl) hg (Nat.le_of_ble_eq_true rfl) [(0, .ref (gAD G 79)), (1, .long x1), (3, .int x3)] rfl ?_
  intro p e s m args below meth c C hr h
  have h : (wX8_isReader x1 M (fun r2 M1 => ((r2 = 0 → wX8_order_15 x1 x3 Q M1) ∧ (¬ r2 = 0 → (wX8_isLeaf x3 M1 (fun r4 M3 => ((¬ r4 = 0 → (wX8_noOrder M3 (fun M5 => (wX8_layPower x1 M5 (fun M6 => (∃ n7, wX8_order_32 x1 x3 Q n7 (1 : Int32) (0 : Int32) M6)))))) ∧ (r4 = 0 → wX8_order_15 x1 x3 Q M3)))))))) := h
  refine wl_lload_n C dX8_order_0 1 rfl ?_
  refine wl_callSi C (cX8_isReader_M l G hg hB x1 M _) h cw_RX8_183 hd_X8_isReader ⟨rfl, rfl⟩ ⟨by decide, by decide⟩ (As := [.long x1]) (rest := []) rfl (Nat.le_of_ble_eq_true rfl) ⟨Nat.zero_le _, Nat.zero_le _⟩ rfl dX8_order_1 (fun r2 M1 h => ?_)
  refine wl_if_eq C (tgt := 15) dX8_order_4 (by decide) (fun hc => ?_) (fun hc => ?_)
  · have h := h.1 hc
    refine wl_sub [] rfl ?_
    exact kX8_order_15 l G hg hB x1 x3 C hr M1 h
  · have h := h.2 hc
    refine wl_aload_n C dX8_order_7 0 rfl ?_
    refine wl_iload_n C dX8_order_8 2 rfl ?_
    refine wl_callVi C (cX8_isLeaf_M l G hg hB x3 M1 _) h cw_RX8_155 hd_X8_isLeaf ⟨rfl, rfl⟩ ⟨by decide, by decide⟩ (gir_8 hB kq_79) (gc_k kq_79) rfl (As := [.int x3]) (rest := []) rfl (Nat.le_of_ble_eq_true rfl) ⟨Nat.zero_le _, Nat.zero_le _⟩ rfl dX8_order_9 (fun r4 M3 h => ?_)
    refine wl_if_ne C (tgt := 17) dX8_order_12 (by decide) (fun hc => ?_) (fun hc => ?_)
    · have h := h.1 hc
      refine wl_aload_n C dX8_order_17 0 rfl ?_
      refine wl_callVv C (cX8_noOrder_M l G hg hB M3 _) h cw_RX8_212 hd_X8_noOrder ⟨rfl, rfl⟩ ⟨by decide, by decide⟩ (gir_8 hB kq_79) (gc_k kq_79) rfl (As := []) (rest := []) rfl (Nat.le_of_ble_eq_true rfl) ⟨Nat.zero_le _, Nat.zero_le _⟩ rfl dX8_order_18 (fun M5 h => ?_)
      refine wl_aload_n C dX8_order_21 0 rfl ?_
      refine wl_lload_n C dX8_order_22 1 rfl ?_
      refine wl_callVv C (cX8_layPower_M l G hg hB x1 M5 _) h cw_RX8_187 hd_X8_layPower ⟨rfl, rfl⟩ ⟨by decide, by decide⟩ (gir_8 hB kq_79) (gc_k kq_79) rfl (As := [.long x1]) (rest := []) rfl (Nat.le_of_ble_eq_true rfl) ⟨Nat.zero_le _, Nat.zero_le _⟩ rfl dX8_order_23 (fun M6 h => ?_)
      refine wl_iconst (v := 1) C dX8_order_26 (by decide) ?_
      refine wl_istore (i := 4) (lv' := [(4, .int (1 : Int32)), (0, .ref (gAD G 79)), (1, .long x1), (3, .int x3)]) C dX8_order_27 (by decide) rfl ?_
      refine wl_iconst (v := 0) C dX8_order_29 (by decide) ?_
      refine wl_istore (i := 5) (lv' := [(5, .int (0 : Int32)), (4, .int (1 : Int32)), (0, .ref (gAD G 79)), (1, .long x1), (3, .int x3)]) C dX8_order_30 (by decide) rfl ?_
      refine wl_sub [2, 4, 1, 0] rfl ?_
      obtain ⟨n7, h⟩ := h
      exact kX8_order_32 l G hg hB x1 x3 C hr n7 (1 : Int32) (0 : Int32) M6 h
    · have h := h.2 hc
      refine wl_sub [] rfl ?_
      exact kX8_order_15 l G hg hB x1 x3 C hr M3 h
set_option maxRecDepth 100000 in
set_option maxHeartbeats 4000000 in
theorem kX8_showsBy_38 (l : Launch) (G : gP) (hg : gIn G) (hB : gRf G) (x1 : Int32) (x2 : Int32) {p : Program} {e : Env} {s : State} {m : MethodId} {args : Array Value} {below : List Frame} {meth : Method} {c : Code} (C : Cx p s m args meth c G (gA G) cX8_showsBy 8 RX8) (hr : meth.sig.returnType = (some (Jvm.ClassFile.FieldType.int))) {Q : Int32 → Mem → Prop} : ∀ (n : Nat) (v3 : Int64) (v5 : Int64) (v7 : Int32) (M : Mem), wX8_showsBy_38 x1 x2 Q n v3 v5 v7 M → Wl p l e rmX8_showsBy s m args below meth c (MQ below (va_Qi Q (gB G) (gA G)) args s 0 0 (gA G)) G (gA G) 8 0 0 M 38 [(0, .ref (gAD G 79)), (1, .int x1), (2, .int x2), (3, .long v3), (5, .long v5), (7, .int v7)] [] := by
  intro n
  induction n with
  | zero => intro v3 v5 v7 M h; exact h.elim
  | succ n ih =>
    intro v3 v5 v7 M h
    have h : (((2000 : Int32) ≤ v7 → Q (-4 : Int32) M) ∧ (¬ (2000 : Int32) ≤ v7 → (vp_in (0 : Int32) (ln 105) ∧ ((¬ (lg_cmp (v5 ||| ((1 : Int64) <<< ((M 105 (0 : Int32).toNatClampNeg).toInt64 &&& 63))) v3) = 0 → (wX8_goRead 105 (0 : Int32) x1 x2 v7 M (fun M3 => wX8_showsBy_38 x1 x2 Q n v3 (v5 ||| ((1 : Int64) <<< ((M 105 (0 : Int32).toNatClampNeg).toInt64 &&& 63))) (v7 + (1 : Int32)) M3))) ∧ ((lg_cmp (v5 ||| ((1 : Int64) <<< ((M 105 (0 : Int32).toNatClampNeg).toInt64 &&& 63))) v3) = 0 → Q (v7 + (1 : Int32)) M))))) := h
    refine wl_iload C dX8_showsBy_38 5 rfl ?_
    refine wl_sipush (v := 2000) C dX8_showsBy_40 (by decide) ?_
    refine wl_icmp_ge C (tgt := 90) dX8_showsBy_43 (by decide) (fun hc => ?_) (fun hc => ?_)
    · have h := h.1 hc
      refine wl_bipush (v := (-4)) C dX8_showsBy_90 (by decide) ?_
      exact wl_iret C hr h dX8_showsBy_92
    · have h := h.2 hc
      refine wl_lload C dX8_showsBy_46 4 rfl ?_
      refine wl_lconst (v := 1) C dX8_showsBy_48 (by decide) ?_
      refine wl_aload_n C dX8_showsBy_49 0 rfl ?_
      refine gf_8_30 C kq_79 (gir_8 hB kq_79) tw_623 dX8_showsBy_50 ?_
      refine wl_iconst (v := 0) C dX8_showsBy_53 (by decide) ?_
      refine ga_ld10 C kq_105 (gir_10 hB kq_105) h.1 dX8_showsBy_54 ?_
      have h := h.2
      refine wl_lshl C dX8_showsBy_55 ?_
      refine wl_lor C dX8_showsBy_56 ?_
      refine wl_lstore (i := 5) (lv' := [(5, .long (v5 ||| ((1 : Int64) <<< ((M 105 (0 : Int32).toNatClampNeg).toInt64 &&& 63)))), (0, .ref (gAD G 79)), (1, .int x1), (2, .int x2), (3, .long v3), (7, .int v7)]) C dX8_showsBy_57 (by decide) rfl ?_
      refine wl_lload C dX8_showsBy_59 0 rfl ?_
      refine wl_lload_n C dX8_showsBy_61 4 rfl ?_
      refine wl_lcmp C dX8_showsBy_62 ?_
      refine wl_if_ne C (tgt := 71) dX8_showsBy_63 (by decide) (fun hc => ?_) (fun hc => ?_)
      · have h := h.1 hc
        refine wl_aload_n C dX8_showsBy_71 1 rfl ?_
        refine wl_aload_n C dX8_showsBy_72 1 rfl ?_
        refine gf_8_30 C kq_79 (gir_8 hB kq_79) tw_623 dX8_showsBy_73 ?_
        refine wl_iconst (v := 0) C dX8_showsBy_76 (by decide) ?_
        refine wl_iload_n C dX8_showsBy_77 2 rfl ?_
        refine wl_iload_n C dX8_showsBy_78 3 rfl ?_
        refine wl_iload C dX8_showsBy_79 5 rfl ?_
        refine wl_callVv C (cX8_goRead_M l G hg hB 105 (0 : Int32) x1 x2 v7 kq_105 M _) h cw_RX8_158 hd_X8_goRead ⟨rfl, rfl⟩ ⟨by decide, by decide⟩ (gir_8 hB kq_79) (gc_k kq_79) rfl (As := [.ref (gAD G 105), .int (0 : Int32), .int x1, .int x2, .int v7]) (rest := []) rfl (Nat.le_of_ble_eq_true rfl) ⟨Nat.zero_le _, Nat.zero_le _⟩ rfl dX8_showsBy_81 (fun M3 h => ?_)
        refine wl_iinc (v := (v7 + (1 : Int32))) (lv' := [(7, .int (v7 + (1 : Int32))), (5, .long (v5 ||| ((1 : Int64) <<< ((M 105 (0 : Int32).toNatClampNeg).toInt64 &&& 63)))), (0, .ref (gAD G 79)), (1, .int x1), (2, .int x2), (3, .long v3)]) C dX8_showsBy_84 5 rfl (by rfl) (by decide) rfl ?_
        refine wl_goto C (tgt := 38) dX8_showsBy_87 (by decide) ?_
        refine wl_sub [2, 3, 4, 5, 1, 0] rfl ?_
        exact ih v3 (v5 ||| ((1 : Int64) <<< ((M 105 (0 : Int32).toNatClampNeg).toInt64 &&& 63))) (v7 + (1 : Int32)) M3 h
      · have h := h.2 hc
        refine wl_iload C dX8_showsBy_66 5 rfl ?_
        refine wl_iconst (v := 1) C dX8_showsBy_68 (by decide) ?_
        refine wl_iadd C dX8_showsBy_69 ?_
        exact wl_iret C hr h dX8_showsBy_70
set_option maxRecDepth 100000 in
set_option maxHeartbeats 4000000 in
theorem kX8_showsBy_2 (l : Launch) (G : gP) (hg : gIn G) (hB : gRf G) (x1 : Int32) (x2 : Int32) {p : Program} {e : Env} {s : State} {m : MethodId} {args : Array Value} {below : List Frame} {meth : Method} {c : Code} (C : Cx p s m args meth c G (gA G) cX8_showsBy 8 RX8) (hr : meth.sig.returnType = (some (Jvm.ClassFile.FieldType.int))) {Q : Int32 → Mem → Prop} : ∀ (n : Nat) (v3 : Int32) (M : Mem), wX8_showsBy_2 x1 x2 Q n v3 M → Wl p l e rmX8_showsBy s m args below meth c (MQ below (va_Qi Q (gB G) (gA G)) args s 0 0 (gA G)) G (gA G) 8 0 0 M 2 [(0, .ref (gAD G 79)), (1, .int x1), (2, .int x2), (3, .int v3)] [] := by
  intro n
  induction n with
  | zero => intro v3 M h; exact h.elim
  | succ n ih =>
    intro v3 M h
    have h : (((40 : Int32) ≤ v3 → (vp_in (0 : Int32) (ln 81) ∧ (∃ n2, wX8_showsBy_38 x1 x2 Q n2 (((1 : Int64) <<< ((M 81 (0 : Int32).toNatClampNeg).toInt64 &&& 63)) - (1 : Int64)) (0 : Int64) (0 : Int32) M))) ∧ (¬ (40 : Int32) ≤ v3 → (vp_in v3 (ln 105) ∧ wX8_showsBy_2 x1 x2 Q n (v3 + (1 : Int32)) (mu M 105 v3.toNatClampNeg v3)))) := h
    refine wl_iload_n C dX8_showsBy_2 3 rfl ?_
    refine wl_bipush (v := 40) C dX8_showsBy_3 (by decide) ?_
    refine wl_icmp_ge C (tgt := 21) dX8_showsBy_5 (by decide) (fun hc => ?_) (fun hc => ?_)
    · have h := h.1 hc
      refine wl_lconst (v := 1) C dX8_showsBy_21 (by decide) ?_
      refine wl_aload_n C dX8_showsBy_22 0 rfl ?_
      refine gf_8_2 C kq_79 (gir_8 hB kq_79) tw_595 dX8_showsBy_23 ?_
      refine wl_iconst (v := 0) C dX8_showsBy_26 (by decide) ?_
      refine ga_ld10 C kq_81 (gir_10 hB kq_81) h.1 dX8_showsBy_27 ?_
      have h := h.2
      refine wl_lshl C dX8_showsBy_28 ?_
      refine wl_lconst (v := 1) C dX8_showsBy_29 (by decide) ?_
      refine wl_lsub C dX8_showsBy_30 ?_
      refine wl_lstore_n (i := 3) (lv' := [(3, .long (((1 : Int64) <<< ((M 81 (0 : Int32).toNatClampNeg).toInt64 &&& 63)) - (1 : Int64))), (0, .ref (gAD G 79)), (1, .int x1), (2, .int x2)]) C dX8_showsBy_31 rfl (by decide) rfl ?_
      refine wl_lconst (v := 0) C dX8_showsBy_32 (by decide) ?_
      refine wl_lstore (i := 5) (lv' := [(5, .long (0 : Int64)), (3, .long (((1 : Int64) <<< ((M 81 (0 : Int32).toNatClampNeg).toInt64 &&& 63)) - (1 : Int64))), (0, .ref (gAD G 79)), (1, .int x1), (2, .int x2)]) C dX8_showsBy_33 (by decide) rfl ?_
      refine wl_iconst (v := 0) C dX8_showsBy_35 (by decide) ?_
      refine wl_istore (i := 7) (lv' := [(7, .int (0 : Int32)), (5, .long (0 : Int64)), (3, .long (((1 : Int64) <<< ((M 81 (0 : Int32).toNatClampNeg).toInt64 &&& 63)) - (1 : Int64))), (0, .ref (gAD G 79)), (1, .int x1), (2, .int x2)]) C dX8_showsBy_36 (by decide) rfl ?_
      refine wl_sub [3, 4, 5, 2, 1, 0] rfl ?_
      obtain ⟨n2, h⟩ := h
      exact kX8_showsBy_38 l G hg hB x1 x2 C hr n2 (((1 : Int64) <<< ((M 81 (0 : Int32).toNatClampNeg).toInt64 &&& 63)) - (1 : Int64)) (0 : Int64) (0 : Int32) M h
    · have h := h.2 hc
      refine wl_aload_n C dX8_showsBy_8 0 rfl ?_
      refine gf_8_30 C kq_79 (gir_8 hB kq_79) tw_623 dX8_showsBy_9 ?_
      refine wl_iload_n C dX8_showsBy_12 3 rfl ?_
      refine wl_iload_n C dX8_showsBy_13 3 rfl ?_
      refine ga_st10 C kq_105 (gir_10 hB kq_105) h.1 dX8_showsBy_14 ?_
      have h := h.2
      refine wl_iinc (v := (v3 + (1 : Int32))) (lv' := [(3, .int (v3 + (1 : Int32))), (0, .ref (gAD G 79)), (1, .int x1), (2, .int x2)]) C dX8_showsBy_15 3 rfl (by rfl) (by decide) rfl ?_
      refine wl_goto C (tgt := 2) dX8_showsBy_18 (by decide) ?_
      refine wl_sub [1, 2, 3, 0] rfl ?_
      exact ih (v3 + (1 : Int32)) (mu M 105 v3.toNatClampNeg v3) h
set_option maxRecDepth 100000 in
set_option maxHeartbeats 4000000 in
theorem cX8_showsBy_M (l : Launch) (G : gP) (hg : gIn G) (hB : gRf G) (x1 : Int32) (x2 : Int32) (M : Mem) (Q : Int32 → Mem → Prop) : Met l yX8_showsBy (Cond.code yX8_showsBy cX8_showsBy 8 (some (Jvm.ClassFile.FieldType.int)) :: TB) rmX8_showsBy (va_Pc [.ref (gAD G 79), .int x1, .int x2] (fun U => gS G M U ∧ wX8_showsBy x1 x2 M Q)) (va_Qi Q (gB G) (gA G)) 0 0 (gA G) := by
  refine gMet (by decide +kernel) (show _ = Cond.code yX8_showsBy cX8_showsBy 8 (some (Jvm.ClassFile.FieldType.int)) from rfl) hg (Nat.le_of_ble_eq_true rfl) [(0, .ref (gAD G 79)), (1, .int x1), (2, .int x2)] rfl ?_
  intro p e s m args below meth c C hr h
  have h : (∃ n1, wX8_showsBy_2 x1 x2 Q n1 (0 : Int32) M) := h
  refine wl_iconst (v := 0) C dX8_showsBy_0 (by decide) ?_
  refine wl_istore_n (i := 3) (lv' := [(3, .int (0 : Int32)), (0, .ref (gAD G 79)), (1, .int x1), (2, .int x2)]) C dX8_showsBy_1 rfl (by decide) rfl ?_
  refine wl_sub [1, 2, 3, 0] rfl ?_
  obtain ⟨n1, h⟩ := h
  exact kX8_showsBy_2 l G hg hB x1 x2 C hr n1 (0 : Int32) M h
set_option maxRecDepth 100000 in
set_option maxHeartbeats 4000000 in
theorem kX8_shows_30 (l : Launch) (G : gP) (hg : gIn G) (hB : gRf G) (x1 : Int32) (x2 : Int32) {p : Program} {e : Env} {s : State} {m : MethodId} {args : Array Value} {below : List Frame} {meth : Method} {c : Code} (C : Cx p s m args meth c G (gA G) cX8_shows 3 RX8) (hr : meth.sig.returnType = (some (Jvm.ClassFile.FieldType.int))) {Q : Int32 → Mem → Prop} (s0 : Int32) (M : Mem) (h : wX8_shows_30 x1 x2 Q s0 M) : Wl p l e rmX8_shows s m args below meth c (MQ below (va_Qi Q (gB G) (gA G)) args s 0 0 (gA G)) G (gA G) 3 0 0 M 30 [] [.int s0] := by
  have h : Q s0 M := h
  exact wl_iret C hr h dX8_shows_30
set_option maxRecDepth 100000 in
set_option maxHeartbeats 4000000 in
theorem kX8_shows_29 (l : Launch) (G : gP) (hg : gIn G) (hB : gRf G) (x1 : Int32) (x2 : Int32) {p : Program} {e : Env} {s : State} {m : MethodId} {args : Array Value} {below : List Frame} {meth : Method} {c : Code} (C : Cx p s m args meth c G (gA G) cX8_shows 3 RX8) (hr : meth.sig.returnType = (some (Jvm.ClassFile.FieldType.int))) {Q : Int32 → Mem → Prop} (M : Mem) (h : wX8_shows_29 x1 x2 Q M) : Wl p l e rmX8_shows s m args below meth c (MQ below (va_Qi Q (gB G) (gA G)) args s 0 0 (gA G)) G (gA G) 3 0 0 M 29 [] [] := by
  have h : wX8_shows_30 x1 x2 Q (-1 : Int32) M := h
  refine wl_iconst (v := (-1)) C dX8_shows_29 (by decide) ?_
  refine wl_sub [] rfl ?_
  exact kX8_shows_30 l G hg hB x1 x2 C hr (-1 : Int32) M h
set_option maxRecDepth 100000 in
set_option maxHeartbeats 4000000 in
theorem cX8_shows_M (l : Launch) (G : gP) (hg : gIn G) (hB : gRf G) (x1 : Int32) (x2 : Int32) (M : Mem) (Q : Int32 → Mem → Prop) : Met l yX8_shows (Cond.code yX8_shows cX8_shows 3 (some (Jvm.ClassFile.FieldType.int)) :: TB) rmX8_shows (va_Pc [.ref (gAD G 79), .int x1, .int x2] (fun U => gS G M U ∧ wX8_shows x1 x2 M Q)) (va_Qi Q (gB G) (gA G)) 0 0 (gA G) := by
  refine gMet (by decide +kernel) (show _ = Cond.code yX8_shows cX8_shows 3 (some (Jvm.ClassFile.FieldType.int)) from rfl) hg (Nat.le_of_ble_eq_true rfl) [(0, .ref (gAD G 79)), (1, .int x1), (2, .int x2)] rfl ?_
  intro p e s m args below meth c C hr h
  have h : (wX8_in x1.toInt64 (0 : Int64) (3 : Int64) M (fun r2 M1 => ((r2 = 0 → wX8_shows_29 x1 x2 Q M1) ∧ (¬ r2 = 0 → (wX8_isLeaf x2 M1 (fun r4 M3 => ((r4 = 0 → wX8_shows_29 x1 x2 Q M3) ∧ (¬ r4 = 0 → (wX8_showsBy x1 x2 M3 (fun r6 M5 => wX8_shows_30 x1 x2 Q r6 M5)))))))))) := h
  refine wl_iload_n C dX8_shows_0 1 rfl ?_
  refine wl_i2l C dX8_shows_1 ?_
  refine wl_lconst (v := 0) C dX8_shows_2 (by decide) ?_
  refine wl_ldc2 C tw_787 dX8_shows_3 ?_
  refine wl_callSi C (cX8_in_M l G hg hB x1.toInt64 (0 : Int64) (3 : Int64) M _) h cw_RX8_98 hd_X8_in ⟨rfl, rfl⟩ ⟨by decide, by decide⟩ (As := [.long x1.toInt64, .long (0 : Int64), .long (3 : Int64)]) (rest := []) rfl (Nat.le_of_ble_eq_true rfl) ⟨Nat.zero_le _, Nat.zero_le _⟩ rfl dX8_shows_6 (fun r2 M1 h => ?_)
  refine wl_if_eq C (tgt := 29) dX8_shows_9 (by decide) (fun hc => ?_) (fun hc => ?_)
  · have h := h.1 hc
    refine wl_sub [] rfl ?_
    exact kX8_shows_29 l G hg hB x1 x2 C hr M1 h
  · have h := h.2 hc
    refine wl_aload_n C dX8_shows_12 0 rfl ?_
    refine wl_iload_n C dX8_shows_13 2 rfl ?_
    refine wl_callVi C (cX8_isLeaf_M l G hg hB x2 M1 _) h cw_RX8_155 hd_X8_isLeaf ⟨rfl, rfl⟩ ⟨by decide, by decide⟩ (gir_8 hB kq_79) (gc_k kq_79) rfl (As := [.int x2]) (rest := []) rfl (Nat.le_of_ble_eq_true rfl) ⟨Nat.zero_le _, Nat.zero_le _⟩ rfl dX8_shows_14 (fun r4 M3 h => ?_)
    refine wl_if_eq C (tgt := 29) dX8_shows_17 (by decide) (fun hc => ?_) (fun hc => ?_)
    · have h := h.1 hc
      refine wl_sub [] rfl ?_
      exact kX8_shows_29 l G hg hB x1 x2 C hr M3 h
    · have h := h.2 hc
      refine wl_aload_n C dX8_shows_20 0 rfl ?_
      refine wl_iload_n C dX8_shows_21 1 rfl ?_
      refine wl_iload_n C dX8_shows_22 2 rfl ?_
      refine wl_callVi C (cX8_showsBy_M l G hg hB x1 x2 M3 _) h cw_RX8_221 hd_X8_showsBy ⟨rfl, rfl⟩ ⟨by decide, by decide⟩ (gir_8 hB kq_79) (gc_k kq_79) rfl (As := [.int x1, .int x2]) (rest := []) rfl (Nat.le_of_ble_eq_true rfl) ⟨Nat.zero_le _, Nat.zero_le _⟩ rfl dX8_shows_23 (fun r6 M5 h => ?_)
      refine wl_goto C (tgt := 30) dX8_shows_26 (by decide) ?_
      refine wl_sub [] rfl ?_
      exact kX8_shows_30 l G hg hB x1 x2 C hr r6 M5 h
set_option maxRecDepth 100000 in
set_option maxHeartbeats 4000000 in
theorem kX8_quickest_84 (l : Launch) (G : gP) (hg : gIn G) (hB : gRf G) (x1 : Int32) {p : Program} {e : Env} {s : State} {m : MethodId} {args : Array Value} {below : List Frame} {meth : Method} {c : Code} (C : Cx p s m args meth c G (gA G) cX8_quickest 8 RX8) (hr : meth.sig.returnType = (some (Jvm.ClassFile.FieldType.int))) {Q : Int32 → Mem → Prop} (k_27 : Int32 → Int32 → Int32 → Int32 → Mem → Prop) (hk_27 : ∀ (v2 : Int32) (v3 : Int32) (v4 : Int32) (v5 : Int32) (M : Mem), k_27 v2 v3 v4 v5 M → Wl p l e rmX8_quickest s m args below meth c (MQ below (va_Qi Q (gB G) (gA G)) args s 0 0 (gA G)) G (gA G) 8 0 0 M 27 [(0, .ref (gAD G 79)), (1, .int x1), (2, .int v2), (3, .int v3), (4, .int v4), (5, .int v5)] []) (k_36 : Int32 → Int32 → Int32 → Int32 → Int32 → Mem → Prop) (hk_36 : ∀ (v2 : Int32) (v3 : Int32) (v4 : Int32) (v5 : Int32) (v6 : Int32) (M : Mem), k_36 v2 v3 v4 v5 v6 M → Wl p l e rmX8_quickest s m args below meth c (MQ below (va_Qi Q (gB G) (gA G)) args s 0 0 (gA G)) G (gA G) 8 0 0 M 36 [(0, .ref (gAD G 79)), (1, .int x1), (2, .int v2), (3, .int v3), (4, .int v4), (5, .int v5), (6, .int v6)] []) (v2 : Int32) (v3 : Int32) (v4 : Int32) (v5 : Int32) (v6 : Int32) (M : Mem) (h : wX8_quickest_84 x1 k_27 k_36 Q v2 v3 v4 v5 v6 M) : Wl p l e rmX8_quickest s m args below meth c (MQ below (va_Qi Q (gB G) (gA G)) args s 0 0 (gA G)) G (gA G) 8 0 0 M 84 [(0, .ref (gAD G 79)), (1, .int x1), (2, .int v2), (3, .int v3), (4, .int v4), (5, .int v5), (6, .int v6)] [] := by
  have h : k_36 v2 v3 v4 v5 (v6 + (1 : Int32)) M := h
  refine wl_iinc (v := (v6 + (1 : Int32))) (lv' := [(6, .int (v6 + (1 : Int32))), (0, .ref (gAD G 79)), (1, .int x1), (2, .int v2), (3, .int v3), (4, .int v4), (5, .int v5)]) C dX8_quickest_84 6 rfl (by rfl) (by decide) rfl ?_
  refine wl_goto C (tgt := 36) dX8_quickest_87 (by decide) ?_
  refine wl_sub [1, 2, 3, 4, 5, 6, 0] rfl ?_
  exact hk_36 v2 v3 v4 v5 (v6 + (1 : Int32)) M h
set_option maxRecDepth 100000 in
set_option maxHeartbeats 4000000 in
theorem kX8_quickest_74 (l : Launch) (G : gP) (hg : gIn G) (hB : gRf G) (x1 : Int32) {p : Program} {e : Env} {s : State} {m : MethodId} {args : Array Value} {below : List Frame} {meth : Method} {c : Code} (C : Cx p s m args meth c G (gA G) cX8_quickest 8 RX8) (hr : meth.sig.returnType = (some (Jvm.ClassFile.FieldType.int))) {Q : Int32 → Mem → Prop} (k_27 : Int32 → Int32 → Int32 → Int32 → Mem → Prop) (hk_27 : ∀ (v2 : Int32) (v3 : Int32) (v4 : Int32) (v5 : Int32) (M : Mem), k_27 v2 v3 v4 v5 M → Wl p l e rmX8_quickest s m args below meth c (MQ below (va_Qi Q (gB G) (gA G)) args s 0 0 (gA G)) G (gA G) 8 0 0 M 27 [(0, .ref (gAD G 79)), (1, .int x1), (2, .int v2), (3, .int v3), (4, .int v4), (5, .int v5)] []) (k_36 : Int32 → Int32 → Int32 → Int32 → Int32 → Mem → Prop) (hk_36 : ∀ (v2 : Int32) (v3 : Int32) (v4 : Int32) (v5 : Int32) (v6 : Int32) (M : Mem), k_36 v2 v3 v4 v5 v6 M → Wl p l e rmX8_quickest s m args below meth c (MQ below (va_Qi Q (gB G) (gA G)) args s 0 0 (gA G)) G (gA G) 8 0 0 M 36 [(0, .ref (gAD G 79)), (1, .int x1), (2, .int v2), (3, .int v3), (4, .int v4), (5, .int v5), (6, .int v6)] []) (v5 : Int32) (v6 : Int32) (v7 : Int32) (M : Mem) (h : wX8_quickest_74 x1 k_27 k_36 Q v5 v6 v7 M) : Wl p l e rmX8_quickest s m args below meth c (MQ below (va_Qi Q (gB G) (gA G)) args s 0 0 (gA G)) G (gA G) 8 0 0 M 74 [(0, .ref (gAD G 79)), (1, .int x1), (5, .int v5), (6, .int v6), (7, .int v7)] [] := by
  have h : wX8_quickest_84 x1 (k_27) (k_36) Q v5 v6 v7 v5 v6 M := h
  refine wl_iload C dX8_quickest_74 2 rfl ?_
  refine wl_istore_n (i := 2) (lv' := [(2, .int v5), (0, .ref (gAD G 79)), (1, .int x1), (5, .int v5), (6, .int v6), (7, .int v7)]) C dX8_quickest_76 rfl (by decide) rfl ?_
  refine wl_iload C dX8_quickest_77 4 rfl ?_
  refine wl_istore_n (i := 3) (lv' := [(3, .int v6), (2, .int v5), (0, .ref (gAD G 79)), (1, .int x1), (5, .int v5), (6, .int v6), (7, .int v7)]) C dX8_quickest_79 rfl (by decide) rfl ?_
  refine wl_iload C dX8_quickest_80 6 rfl ?_
  refine wl_istore (i := 4) (lv' := [(4, .int v7), (3, .int v6), (2, .int v5), (0, .ref (gAD G 79)), (1, .int x1), (5, .int v5), (6, .int v6), (7, .int v7)]) C dX8_quickest_82 (by decide) rfl ?_
  refine wl_sub [3, 4, 2, 1, 0, 5, 6] rfl ?_
  exact kX8_quickest_84 l G hg hB x1 C hr (k_27) (hk_27) (k_36) (hk_36) v5 v6 v7 v5 v6 M h
set_option maxRecDepth 100000 in
set_option maxHeartbeats 4000000 in
theorem kX8_quickest_36 (l : Launch) (G : gP) (hg : gIn G) (hB : gRf G) (x1 : Int32) {p : Program} {e : Env} {s : State} {m : MethodId} {args : Array Value} {below : List Frame} {meth : Method} {c : Code} (C : Cx p s m args meth c G (gA G) cX8_quickest 8 RX8) (hr : meth.sig.returnType = (some (Jvm.ClassFile.FieldType.int))) {Q : Int32 → Mem → Prop} (k_27 : Int32 → Int32 → Int32 → Int32 → Mem → Prop) (hk_27 : ∀ (v2 : Int32) (v3 : Int32) (v4 : Int32) (v5 : Int32) (M : Mem), k_27 v2 v3 v4 v5 M → Wl p l e rmX8_quickest s m args below meth c (MQ below (va_Qi Q (gB G) (gA G)) args s 0 0 (gA G)) G (gA G) 8 0 0 M 27 [(0, .ref (gAD G 79)), (1, .int x1), (2, .int v2), (3, .int v3), (4, .int v4), (5, .int v5)] []) : ∀ (n : Nat) (v2 : Int32) (v3 : Int32) (v4 : Int32) (v5 : Int32) (v6 : Int32) (M : Mem), wX8_quickest_36 x1 k_27 Q n v2 v3 v4 v5 v6 M → Wl p l e rmX8_quickest s m args below meth c (MQ below (va_Qi Q (gB G) (gA G)) args s 0 0 (gA G)) G (gA G) 8 0 0 M 36 [(0, .ref (gAD G 79)), (1, .int x1), (2, .int v2), (3, .int v3), (4, .int v4), (5, .int v5), (6, .int v6)] [] := by
  intro n
  induction n with
  | zero => intro v2 v3 v4 v5 v6 M h; exact h.elim
  | succ n ih =>
    intro v2 v3 v4 v5 v6 M h
    have h : (vp_in (0 : Int32) (ln 81) ∧ (((M 81 (0 : Int32).toNatClampNeg) ≤ v6 → k_27 v2 v3 v4 (v5 + (1 : Int32)) M) ∧ (¬ (M 81 (0 : Int32).toNatClampNeg) ≤ v6 → (wX8_showsBy v5 v6 M (fun r6 M5 => ((r6 ≤ 0 → wX8_quickest_84 x1 (k_27) (wX8_quickest_36 x1 k_27 Q n) Q v2 v3 v4 v5 v6 M5) ∧ (¬ r6 ≤ 0 → ((v4 < 0 → wX8_quickest_74 x1 (k_27) (wX8_quickest_36 x1 k_27 Q n) Q v5 v6 r6 M5) ∧ (¬ v4 < 0 → ((v4 ≤ r6 → wX8_quickest_84 x1 (k_27) (wX8_quickest_36 x1 k_27 Q n) Q v2 v3 v4 v5 v6 M5) ∧ (¬ v4 ≤ r6 → wX8_quickest_74 x1 (k_27) (wX8_quickest_36 x1 k_27 Q n) Q v5 v6 r6 M5))))))))))) := h
    refine wl_iload C dX8_quickest_36 6 rfl ?_
    refine wl_aload_n C dX8_quickest_38 0 rfl ?_
    refine gf_8_2 C kq_79 (gir_8 hB kq_79) tw_595 dX8_quickest_39 ?_
    refine wl_iconst (v := 0) C dX8_quickest_42 (by decide) ?_
    refine ga_ld10 C kq_81 (gir_10 hB kq_81) h.1 dX8_quickest_43 ?_
    have h := h.2
    refine wl_icmp_ge C (tgt := 90) dX8_quickest_44 (by decide) (fun hc => ?_) (fun hc => ?_)
    · have h := h.1 hc
      refine wl_iinc (v := (v5 + (1 : Int32))) (lv' := [(5, .int (v5 + (1 : Int32))), (0, .ref (gAD G 79)), (1, .int x1), (2, .int v2), (3, .int v3), (4, .int v4), (6, .int v6)]) C dX8_quickest_90 5 rfl (by rfl) (by decide) rfl ?_
      refine wl_goto C (tgt := 27) dX8_quickest_93 (by decide) ?_
      refine wl_sub [1, 2, 3, 4, 5, 0] rfl ?_
      exact hk_27 v2 v3 v4 (v5 + (1 : Int32)) M h
    · have h := h.2 hc
      refine wl_aload_n C dX8_quickest_47 0 rfl ?_
      refine wl_iload C dX8_quickest_48 5 rfl ?_
      refine wl_iload C dX8_quickest_50 6 rfl ?_
      refine wl_callVi C (cX8_showsBy_M l G hg hB v5 v6 M _) h cw_RX8_221 hd_X8_showsBy ⟨rfl, rfl⟩ ⟨by decide, by decide⟩ (gir_8 hB kq_79) (gc_k kq_79) rfl (As := [.int v5, .int v6]) (rest := []) rfl (Nat.le_of_ble_eq_true rfl) ⟨Nat.zero_le _, Nat.zero_le _⟩ rfl dX8_quickest_52 (fun r6 M5 h => ?_)
      refine wl_istore (i := 7) (lv' := [(7, .int r6), (0, .ref (gAD G 79)), (1, .int x1), (2, .int v2), (3, .int v3), (4, .int v4), (5, .int v5), (6, .int v6)]) C dX8_quickest_55 (by decide) rfl ?_
      refine wl_iload C dX8_quickest_57 0 rfl ?_
      refine wl_if_le C (tgt := 84) dX8_quickest_59 (by decide) (fun hc => ?_) (fun hc => ?_)
      · have h := h.1 hc
        refine wl_sub [1, 2, 3, 4, 5, 6, 7] rfl ?_
        exact kX8_quickest_84 l G hg hB x1 C hr (k_27) (hk_27) (wX8_quickest_36 x1 k_27 Q n) (ih) v2 v3 v4 v5 v6 M5 h
      · have h := h.2 hc
        refine wl_iload C dX8_quickest_62 5 rfl ?_
        refine wl_if_lt C (tgt := 74) dX8_quickest_64 (by decide) (fun hc => ?_) (fun hc => ?_)
        · have h := h.1 hc
          refine wl_sub [1, 2, 6, 7, 0] rfl ?_
          exact kX8_quickest_74 l G hg hB x1 C hr (k_27) (hk_27) (wX8_quickest_36 x1 k_27 Q n) (ih) v5 v6 r6 M5 h
        · have h := h.2 hc
          refine wl_iload C dX8_quickest_67 0 rfl ?_
          refine wl_iload C dX8_quickest_69 5 rfl ?_
          refine wl_icmp_ge C (tgt := 84) dX8_quickest_71 (by decide) (fun hc => ?_) (fun hc => ?_)
          · have h := h.1 hc
            refine wl_sub [1, 2, 3, 4, 5, 6, 7] rfl ?_
            exact kX8_quickest_84 l G hg hB x1 C hr (k_27) (hk_27) (wX8_quickest_36 x1 k_27 Q n) (ih) v2 v3 v4 v5 v6 M5 h
          · have h := h.2 hc
            refine wl_sub [1, 2, 6, 7, 0] rfl ?_
            exact kX8_quickest_74 l G hg hB x1 C hr (k_27) (hk_27) (wX8_quickest_36 x1 k_27 Q n) (ih) v5 v6 r6 M5 h
set_option maxRecDepth 100000 in
set_option maxHeartbeats 4000000 in
theorem kX8_quickest_115 (l : Launch) (G : gP) (hg : gIn G) (hB : gRf G) (x1 : Int32) {p : Program} {e : Env} {s : State} {m : MethodId} {args : Array Value} {below : List Frame} {meth : Method} {c : Code} (C : Cx p s m args meth c G (gA G) cX8_quickest 8 RX8) (hr : meth.sig.returnType = (some (Jvm.ClassFile.FieldType.int))) {Q : Int32 → Mem → Prop} (s0 : Int32) (M : Mem) (h : wX8_quickest_115 x1 Q s0 M) : Wl p l e rmX8_quickest s m args below meth c (MQ below (va_Qi Q (gB G) (gA G)) args s 0 0 (gA G)) G (gA G) 8 0 0 M 115 [] [.int s0] := by
  have h : Q s0 M := h
  exact wl_iret C hr h dX8_quickest_115
set_option maxRecDepth 100000 in
set_option maxHeartbeats 4000000 in
theorem kX8_quickest_27 (l : Launch) (G : gP) (hg : gIn G) (hB : gRf G) (x1 : Int32) {p : Program} {e : Env} {s : State} {m : MethodId} {args : Array Value} {below : List Frame} {meth : Method} {c : Code} (C : Cx p s m args meth c G (gA G) cX8_quickest 8 RX8) (hr : meth.sig.returnType = (some (Jvm.ClassFile.FieldType.int))) {Q : Int32 → Mem → Prop} : ∀ (n : Nat) (v2 : Int32) (v3 : Int32) (v4 : Int32) (v5 : Int32) (M : Mem), wX8_quickest_27 x1 Q n v2 v3 v4 v5 M → Wl p l e rmX8_quickest s m args below meth c (MQ below (va_Qi Q (gB G) (gA G)) args s 0 0 (gA G)) G (gA G) 8 0 0 M 27 [(0, .ref (gAD G 79)), (1, .int x1), (2, .int v2), (3, .int v3), (4, .int v4), (5, .int v5)] [] := by
  intro n
  induction n with
  | zero => intro v2 v3 v4 v5 M h; exact h.elim
  | succ n ih =>
    intro v2 v3 v4 v5 M h
    have h : (((4 : Int32) ≤ v5 → ((¬ x1 = 0 → ((¬ x1 = (1 : Int32) → wX8_quickest_115 x1 Q v4 M) ∧ (x1 = (1 : Int32) → wX8_quickest_115 x1 Q v3 M))) ∧ (x1 = 0 → wX8_quickest_115 x1 Q v2 M))) ∧ (¬ (4 : Int32) ≤ v5 → (∃ n4, wX8_quickest_36 x1 (wX8_quickest_27 x1 Q n) Q n4 v2 v3 v4 v5 (0 : Int32) M))) := h
    refine wl_iload C dX8_quickest_27 5 rfl ?_
    refine wl_iconst (v := 4) C dX8_quickest_29 (by decide) ?_
    refine wl_icmp_ge C (tgt := 96) dX8_quickest_30 (by decide) (fun hc => ?_) (fun hc => ?_)
    · have h := h.1 hc
      refine wl_iload_n C dX8_quickest_96 1 rfl ?_
      refine wl_if_ne C (tgt := 104) dX8_quickest_97 (by decide) (fun hc => ?_) (fun hc => ?_)
      · have h := h.1 hc
        refine wl_iload_n C dX8_quickest_104 1 rfl ?_
        refine wl_iconst (v := 1) C dX8_quickest_105 (by decide) ?_
        refine wl_icmp_ne C (tgt := 113) dX8_quickest_106 (by decide) (fun hc => ?_) (fun hc => ?_)
        · have h := h.1 hc
          refine wl_iload C dX8_quickest_113 4 rfl ?_
          refine wl_sub [] rfl ?_
          exact kX8_quickest_115 l G hg hB x1 C hr v4 M h
        · have h := h.2 hc
          refine wl_iload_n C dX8_quickest_109 3 rfl ?_
          refine wl_goto C (tgt := 115) dX8_quickest_110 (by decide) ?_
          refine wl_sub [] rfl ?_
          exact kX8_quickest_115 l G hg hB x1 C hr v3 M h
      · have h := h.2 hc
        refine wl_iload_n C dX8_quickest_100 2 rfl ?_
        refine wl_goto C (tgt := 115) dX8_quickest_101 (by decide) ?_
        refine wl_sub [] rfl ?_
        exact kX8_quickest_115 l G hg hB x1 C hr v2 M h
    · have h := h.2 hc
      refine wl_iconst (v := 0) C dX8_quickest_33 (by decide) ?_
      refine wl_istore (i := 6) (lv' := [(6, .int (0 : Int32)), (0, .ref (gAD G 79)), (1, .int x1), (2, .int v2), (3, .int v3), (4, .int v4), (5, .int v5)]) C dX8_quickest_34 (by decide) rfl ?_
      refine wl_sub [1, 2, 3, 4, 5, 6, 0] rfl ?_
      obtain ⟨n4, h⟩ := h
      exact kX8_quickest_36 l G hg hB x1 C hr (wX8_quickest_27 x1 Q n) (ih) n4 v2 v3 v4 v5 (0 : Int32) M h
set_option maxRecDepth 100000 in
set_option maxHeartbeats 4000000 in
theorem cX8_quickest_M (l : Launch) (G : gP) (hg : gIn G) (hB : gRf G) (x1 : Int32) (M : Mem) (Q : Int32 → Mem → Prop) : Met l yX8_quickest (Cond.code yX8_quickest cX8_quickest 8 (some (Jvm.ClassFile.FieldType.int)) :: TB) rmX8_quickest (va_Pc [.ref (gAD G 79), .int x1] (fun U => gS G M U ∧ wX8_quickest x1 M Q)) (va_Qi Q (gB G) (gA G)) 0 0 (gA G) := by
  refine gMet (by decide +kernel) (show _ = Cond.code yX8_quickest cX8_quickest 8 (some (Jvm.ClassFile.FieldType.int)) from rfl) hg (Nat.le_of_ble_eq_true rfl) [(0, .ref (gAD G 79)), (1, .int x1)] rfl ?_
  intro p e s m args below meth c C hr h
  have h : (wX8_in x1.toInt64 (0 : Int64) (2 : Int64) M (fun r2 M1 => ((¬ r2 = 0 → (∃ n3, wX8_quickest_27 x1 Q n3 (-4 : Int32) (-4 : Int32) (-4 : Int32) (0 : Int32) M1)) ∧ (r2 = 0 → Q (-1 : Int32) M1)))) := h
  refine wl_iload_n C dX8_quickest_0 1 rfl ?_
  refine wl_i2l C dX8_quickest_1 ?_
  refine wl_lconst (v := 0) C dX8_quickest_2 (by decide) ?_
  refine wl_ldc2 C tw_687 dX8_quickest_3 ?_
  refine wl_callSi C (cX8_in_M l G hg hB x1.toInt64 (0 : Int64) (2 : Int64) M _) h cw_RX8_98 hd_X8_in ⟨rfl, rfl⟩ ⟨by decide, by decide⟩ (As := [.long x1.toInt64, .long (0 : Int64), .long (2 : Int64)]) (rest := []) rfl (Nat.le_of_ble_eq_true rfl) ⟨Nat.zero_le _, Nat.zero_le _⟩ rfl dX8_quickest_6 (fun r2 M1 h => ?_)
  refine wl_if_ne C (tgt := 14) dX8_quickest_9 (by decide) (fun hc => ?_) (fun hc => ?_)
  · have h := h.1 hc
    refine wl_bipush (v := (-4)) C dX8_quickest_14 (by decide) ?_
    refine wl_istore_n (i := 2) (lv' := [(2, .int (-4 : Int32)), (0, .ref (gAD G 79)), (1, .int x1)]) C dX8_quickest_16 rfl (by decide) rfl ?_
    refine wl_bipush (v := (-4)) C dX8_quickest_17 (by decide) ?_
    refine wl_istore_n (i := 3) (lv' := [(3, .int (-4 : Int32)), (2, .int (-4 : Int32)), (0, .ref (gAD G 79)), (1, .int x1)]) C dX8_quickest_19 rfl (by decide) rfl ?_
    refine wl_bipush (v := (-4)) C dX8_quickest_20 (by decide) ?_
    refine wl_istore (i := 4) (lv' := [(4, .int (-4 : Int32)), (3, .int (-4 : Int32)), (2, .int (-4 : Int32)), (0, .ref (gAD G 79)), (1, .int x1)]) C dX8_quickest_22 (by decide) rfl ?_
    refine wl_iconst (v := 0) C dX8_quickest_24 (by decide) ?_
    refine wl_istore (i := 5) (lv' := [(5, .int (0 : Int32)), (4, .int (-4 : Int32)), (3, .int (-4 : Int32)), (2, .int (-4 : Int32)), (0, .ref (gAD G 79)), (1, .int x1)]) C dX8_quickest_25 (by decide) rfl ?_
    refine wl_sub [4, 5, 3, 2, 1, 0] rfl ?_
    obtain ⟨n3, h⟩ := h
    exact kX8_quickest_27 l G hg hB x1 C hr n3 (-4 : Int32) (-4 : Int32) (-4 : Int32) (0 : Int32) M1 h
  · have h := h.2 hc
    refine wl_iconst (v := (-1)) C dX8_quickest_12 (by decide) ?_
    exact wl_iret C hr h dX8_quickest_13
set_option maxRecDepth 100000 in
set_option maxHeartbeats 4000000 in
theorem kX8_seen_34 (l : Launch) (G : gP) (hg : gIn G) (hB : gRf G) (x1 : Int64) (x3 : Int32) (x4 : Int32) {p : Program} {e : Env} {s : State} {m : MethodId} {args : Array Value} {below : List Frame} {meth : Method} {c : Code} (C : Cx p s m args meth c G (gA G) cX8_seen 5 RX8) (hr : meth.sig.returnType = (some (Jvm.ClassFile.FieldType.int))) {Q : Int32 → Mem → Prop} (M : Mem) (h : wX8_seen_34 x1 x3 x4 Q M) : Wl p l e rmX8_seen s m args below meth c (MQ below (va_Qi Q (gB G) (gA G)) args s 0 0 (gA G)) G (gA G) 5 0 0 M 34 [] [] := by
  have h : Q (-1 : Int32) M := h
  refine wl_iconst (v := (-1)) C dX8_seen_34 (by decide) ?_
  exact wl_iret C hr h dX8_seen_35
set_option maxRecDepth 100000 in
set_option maxHeartbeats 4000000 in
theorem cX8_seen_M (l : Launch) (G : gP) (hg : gIn G) (hB : gRf G) (x1 : Int64) (x3 : Int32) (x4 : Int32) (M : Mem) (Q : Int32 → Mem → Prop) : Met l yX8_seen (Cond.code yX8_seen cX8_seen 5 (some (Jvm.ClassFile.FieldType.int)) :: TB) rmX8_seen (va_Pc [.ref (gAD G 79), .long x1, .int x3, .int x4] (fun U => gS G M U ∧ wX8_seen x1 x3 x4 M Q)) (va_Qi Q (gB G) (gA G)) 0 0 (gA G) := by
  refine gMet (by decide +kernel) (show _ = Cond.code yX8_seen cX8_seen 5 (some (Jvm.ClassFile.FieldType.int)) from rfl) hg (Nat.le_of_ble_eq_true rfl) [(0, .ref (gAD G 79)), (1, .long x1), (3, .int x3), (4, .int x4)] rfl ?_
  intro p e s m args below meth c C hr h
  have h : (wX8_isReader x1 M (fun r2 M1 => ((r2 = 0 → wX8_seen_34 x1 x3 x4 Q M1) ∧ (¬ r2 = 0 → (vp_in (0 : Int32) (ln 82) ∧ (wX8_in x3.toInt64 (0 : Int64) (((M1 82 (0 : Int32).toNatClampNeg) - (1 : Int32)).toInt64) M1 (fun r4 M3 => ((r4 = 0 → wX8_seen_34 x1 x3 x4 Q M3) ∧ (¬ r4 = 0 → (wX8_isLeaf x4 M3 (fun r6 M5 => ((¬ r6 = 0 → ((¬ (M5 79 15) = (12 : Int32) → (vp_in (M5 79 15) (ln 93) ∧ (vp_in ((muL M5 93 (M5 79 15).toNatClampNeg x1) 79 15) (ln 94) ∧ (vp_in ((mu (muL M5 93 (M5 79 15).toNatClampNeg x1) 94 ((muL M5 93 (M5 79 15).toNatClampNeg x1) 79 15).toNatClampNeg x3) 79 15) (ln 95) ∧ Q ((mu (mu (mu (muL M5 93 (M5 79 15).toNatClampNeg x1) 94 ((muL M5 93 (M5 79 15).toNatClampNeg x1) 79 15).toNatClampNeg x3) 95 ((mu (muL M5 93 (M5 79 15).toNatClampNeg x1) 94 ((muL M5 93 (M5 79 15).toNatClampNeg x1) 79 15).toNatClampNeg x3) 79 15).toNatClampNeg x4) 79 15 (((mu (mu (muL M5 93 (M5 79 15).toNatClampNeg x1) 94 ((muL M5 93 (M5 79 15).toNatClampNeg x1) 79 15).toNatClampNeg x3) 95 ((mu (muL M5 93 (M5 79 15).toNatClampNeg x1) 94 ((muL M5 93 (M5 79 15).toNatClampNeg x1) 79 15).toNatClampNeg x3) 79 15).toNatClampNeg x4) 79 15) + (1 : Int32))) 79 15) (mu (mu (mu (muL M5 93 (M5 79 15).toNatClampNeg x1) 94 ((muL M5 93 (M5 79 15).toNatClampNeg x1) 79 15).toNatClampNeg x3) 95 ((mu (muL M5 93 (M5 79 15).toNatClampNeg x1) 94 ((muL M5 93 (M5 79 15).toNatClampNeg x1) 79 15).toNatClampNeg x3) 79 15).toNatClampNeg x4) 79 15 (((mu (mu (muL M5 93 (M5 79 15).toNatClampNeg x1) 94 ((muL M5 93 (M5 79 15).toNatClampNeg x1) 79 15).toNatClampNeg x3) 95 ((mu (muL M5 93 (M5 79 15).toNatClampNeg x1) 94 ((muL M5 93 (M5 79 15).toNatClampNeg x1) 79 15).toNatClampNeg x3) 79 15).toNatClampNeg x4) 79 15) + (1 : Int32))))))) ∧ ((M5 79 15) = (12 : Int32) → Q (-3 : Int32) M5))) ∧ (r6 = 0 → wX8_seen_34 x1 x3 x4 Q M5))))))))))))) := h
  refine wl_lload_n C dX8_seen_0 1 rfl ?_
  refine wl_callSi C (cX8_isReader_M l G hg hB x1 M _) h cw_RX8_183 hd_X8_isReader ⟨rfl, rfl⟩ ⟨by decide, by decide⟩ (As := [.long x1]) (rest := []) rfl (Nat.le_of_ble_eq_true rfl) ⟨Nat.zero_le _, Nat.zero_le _⟩ rfl dX8_seen_1 (fun r2 M1 h => ?_)
  refine wl_if_eq C (tgt := 34) dX8_seen_4 (by decide) (fun hc => ?_) (fun hc => ?_)
  · have h := h.1 hc
    refine wl_sub [] rfl ?_
    exact kX8_seen_34 l G hg hB x1 x3 x4 C hr M1 h
  · have h := h.2 hc
    refine wl_iload_n C dX8_seen_7 2 rfl ?_
    refine wl_i2l C dX8_seen_8 ?_
    refine wl_lconst (v := 0) C dX8_seen_9 (by decide) ?_
    refine wl_aload_n C dX8_seen_10 0 rfl ?_
    refine gf_8_3 C kq_79 (gir_8 hB kq_79) tw_596 dX8_seen_11 ?_
    refine wl_iconst (v := 0) C dX8_seen_14 (by decide) ?_
    refine ga_ld10 C kq_82 (gir_10 hB kq_82) h.1 dX8_seen_15 ?_
    have h := h.2
    refine wl_iconst (v := 1) C dX8_seen_16 (by decide) ?_
    refine wl_isub C dX8_seen_17 ?_
    refine wl_i2l C dX8_seen_18 ?_
    refine wl_callSi C (cX8_in_M l G hg hB x3.toInt64 (0 : Int64) (((M1 82 (0 : Int32).toNatClampNeg) - (1 : Int32)).toInt64) M1 _) h cw_RX8_98 hd_X8_in ⟨rfl, rfl⟩ ⟨by decide, by decide⟩ (As := [.long x3.toInt64, .long (0 : Int64), .long ((M1 82 (0 : Int32).toNatClampNeg) - (1 : Int32)).toInt64]) (rest := []) rfl (Nat.le_of_ble_eq_true rfl) ⟨Nat.zero_le _, Nat.zero_le _⟩ rfl dX8_seen_19 (fun r4 M3 h => ?_)
    refine wl_if_eq C (tgt := 34) dX8_seen_22 (by decide) (fun hc => ?_) (fun hc => ?_)
    · have h := h.1 hc
      refine wl_sub [] rfl ?_
      exact kX8_seen_34 l G hg hB x1 x3 x4 C hr M3 h
    · have h := h.2 hc
      refine wl_aload_n C dX8_seen_25 0 rfl ?_
      refine wl_iload C dX8_seen_26 3 rfl ?_
      refine wl_callVi C (cX8_isLeaf_M l G hg hB x4 M3 _) h cw_RX8_155 hd_X8_isLeaf ⟨rfl, rfl⟩ ⟨by decide, by decide⟩ (gir_8 hB kq_79) (gc_k kq_79) rfl (As := [.int x4]) (rest := []) rfl (Nat.le_of_ble_eq_true rfl) ⟨Nat.zero_le _, Nat.zero_le _⟩ rfl dX8_seen_28 (fun r6 M5 h => ?_)
      refine wl_if_ne C (tgt := 36) dX8_seen_31 (by decide) (fun hc => ?_) (fun hc => ?_)
      · have h := h.1 hc
        refine wl_aload_n C dX8_seen_36 0 rfl ?_
        refine gf_8_15 C kq_79 (gir_8 hB kq_79) tw_608 dX8_seen_37 ?_
        refine wl_bipush (v := 12) C dX8_seen_40 (by decide) ?_
        refine wl_icmp_ne C (tgt := 48) dX8_seen_42 (by decide) (fun hc => ?_) (fun hc => ?_)
        · have h := h.1 hc
          refine wl_aload_n C dX8_seen_48 0 rfl ?_
          refine gf_8_16 C kq_79 (gir_8 hB kq_79) tw_609 dX8_seen_49 ?_
          refine wl_aload_n C dX8_seen_52 0 rfl ?_
          refine gf_8_15 C kq_79 (gir_8 hB kq_79) tw_608 dX8_seen_53 ?_
          refine wl_lload_n C dX8_seen_56 1 rfl ?_
          refine ga_lst C kq_93 (gir_11 hB kq_93) h.1 dX8_seen_57 ?_
          have h := h.2
          refine wl_aload_n C dX8_seen_58 0 rfl ?_
          refine gf_8_17 C kq_79 (gir_8 hB kq_79) tw_610 dX8_seen_59 ?_
          refine wl_aload_n C dX8_seen_62 0 rfl ?_
          refine gf_8_15 C kq_79 (gir_8 hB kq_79) tw_608 dX8_seen_63 ?_
          refine wl_iload_n C dX8_seen_66 2 rfl ?_
          refine ga_st10 C kq_94 (gir_10 hB kq_94) h.1 dX8_seen_67 ?_
          have h := h.2
          refine wl_aload_n C dX8_seen_68 0 rfl ?_
          refine gf_8_18 C kq_79 (gir_8 hB kq_79) tw_611 dX8_seen_69 ?_
          refine wl_aload_n C dX8_seen_72 0 rfl ?_
          refine gf_8_15 C kq_79 (gir_8 hB kq_79) tw_608 dX8_seen_73 ?_
          refine wl_iload C dX8_seen_76 3 rfl ?_
          refine ga_st10 C kq_95 (gir_10 hB kq_95) h.1 dX8_seen_78 ?_
          have h := h.2
          refine wl_aload_n C dX8_seen_79 0 rfl ?_
          refine wl_dup C dX8_seen_80 rfl ?_
          refine gf_8_15 C kq_79 (gir_8 hB kq_79) tw_608 dX8_seen_81 ?_
          refine wl_iconst (v := 1) C dX8_seen_84 (by decide) ?_
          refine wl_iadd C dX8_seen_85 ?_
          refine gp_8_15 C kq_79 (gir_8 hB kq_79) tw_608 dX8_seen_86 ?_
          refine wl_aload_n C dX8_seen_89 0 rfl ?_
          refine gf_8_15 C kq_79 (gir_8 hB kq_79) tw_608 dX8_seen_90 ?_
          exact wl_iret C hr h dX8_seen_93
        · have h := h.2 hc
          refine wl_bipush (v := (-3)) C dX8_seen_45 (by decide) ?_
          exact wl_iret C hr h dX8_seen_47
      · have h := h.2 hc
        refine wl_sub [] rfl ?_
        exact kX8_seen_34 l G hg hB x1 x3 x4 C hr M5 h
set_option maxRecDepth 100000 in
set_option maxHeartbeats 4000000 in
theorem cX8_forget_M (l : Launch) (G : gP) (hg : gIn G) (hB : gRf G) (M : Mem) (Q : Int32 → Mem → Prop) : Met l yX8_forget (Cond.code yX8_forget cX8_forget 2 (some (Jvm.ClassFile.FieldType.int)) :: TB) rmX8_forget (va_Pc [.ref (gAD G 79)] (fun U => gS G M U ∧ wX8_forget M Q)) (va_Qi Q (gB G) (gA G)) 0 0 (gA G) := by
  refine gMet (by decide +kernel) (show _ = Cond.code yX8_forget cX8_forget 2 (some (Jvm.ClassFile.FieldType.int)) from rfl) hg (Nat.le_of_ble_eq_true rfl) [(0, .ref (gAD G 79))] rfl ?_
  intro p e s m args below meth c C hr h
  have h : Q (M 79 15) (mu M 79 15 (0 : Int32)) := h
  refine wl_aload_n C dX8_forget_0 0 rfl ?_
  refine gf_8_15 C kq_79 (gir_8 hB kq_79) tw_608 dX8_forget_1 ?_
  refine wl_istore_n (i := 1) (lv' := [(1, .int (M 79 15)), (0, .ref (gAD G 79))]) C dX8_forget_4 rfl (by decide) rfl ?_
  refine wl_aload_n C dX8_forget_5 1 rfl ?_
  refine wl_iconst (v := 0) C dX8_forget_6 (by decide) ?_
  refine gp_8_15 C kq_79 (gir_8 hB kq_79) tw_608 dX8_forget_7 ?_
  refine wl_iload_n C dX8_forget_10 0 rfl ?_
  exact wl_iret C hr h dX8_forget_11
set_option maxRecDepth 100000 in
set_option maxHeartbeats 4000000 in
theorem kX8_isSo_58 (l : Launch) (G : gP) (hg : gIn G) (hB : gRf G) {p : Program} {e : Env} {s : State} {m : MethodId} {args : Array Value} {below : List Frame} {meth : Method} {c : Code} (C : Cx p s m args meth c G (gA G) cX8_isSo 3 RX8) (hr : meth.sig.returnType = (some (Jvm.ClassFile.FieldType.boolean))) {Q : Int32 → Mem → Prop} (k_8 : Int32 → Int32 → Mem → Prop) (hk_8 : ∀ (v1 : Int32) (v2 : Int32) (M : Mem), k_8 v1 v2 M → Wl p l e rmX8_isSo s m args below meth c (MQ below (va_Qi Q (gB G) (gA G)) args s 0 0 (gA G)) G (gA G) 3 0 0 M 8 [(0, .ref (gAD G 79)), (1, .int v1), (2, .int v2)] []) (v2 : Int32) (s0 : Int32) (M : Mem) (h : wX8_isSo_58 k_8 Q v2 s0 M) : Wl p l e rmX8_isSo s m args below meth c (MQ below (va_Qi Q (gB G) (gA G)) args s 0 0 (gA G)) G (gA G) 3 0 0 M 58 [(0, .ref (gAD G 79)), (2, .int v2)] [.int s0] := by
  have h : k_8 s0 (v2 + (1 : Int32)) M := h
  refine wl_istore_n (i := 1) (lv' := [(1, .int s0), (0, .ref (gAD G 79)), (2, .int v2)]) C dX8_isSo_58 rfl (by decide) rfl ?_
  refine wl_iinc (v := (v2 + (1 : Int32))) (lv' := [(2, .int (v2 + (1 : Int32))), (1, .int s0), (0, .ref (gAD G 79))]) C dX8_isSo_59 2 rfl (by rfl) (by decide) rfl ?_
  refine wl_goto C (tgt := 8) dX8_isSo_62 (by decide) ?_
  refine wl_sub [2, 1, 0] rfl ?_
  exact hk_8 s0 (v2 + (1 : Int32)) M h
set_option maxRecDepth 100000 in
set_option maxHeartbeats 4000000 in
theorem kX8_isSo_57 (l : Launch) (G : gP) (hg : gIn G) (hB : gRf G) {p : Program} {e : Env} {s : State} {m : MethodId} {args : Array Value} {below : List Frame} {meth : Method} {c : Code} (C : Cx p s m args meth c G (gA G) cX8_isSo 3 RX8) (hr : meth.sig.returnType = (some (Jvm.ClassFile.FieldType.boolean))) {Q : Int32 → Mem → Prop} (k_8 : Int32 → Int32 → Mem → Prop) (hk_8 : ∀ (v1 : Int32) (v2 : Int32) (M : Mem), k_8 v1 v2 M → Wl p l e rmX8_isSo s m args below meth c (MQ below (va_Qi Q (gB G) (gA G)) args s 0 0 (gA G)) G (gA G) 3 0 0 M 8 [(0, .ref (gAD G 79)), (1, .int v1), (2, .int v2)] []) (v2 : Int32) (M : Mem) (h : wX8_isSo_57 k_8 Q v2 M) : Wl p l e rmX8_isSo s m args below meth c (MQ below (va_Qi Q (gB G) (gA G)) args s 0 0 (gA G)) G (gA G) 3 0 0 M 57 [(0, .ref (gAD G 79)), (2, .int v2)] [] := by
  have h : wX8_isSo_58 (k_8) Q v2 (0 : Int32) M := h
  refine wl_iconst (v := 0) C dX8_isSo_57 (by decide) ?_
  refine wl_sub [0, 1] rfl ?_
  exact kX8_isSo_58 l G hg hB C hr (k_8) (hk_8) v2 (0 : Int32) M h
set_option maxRecDepth 100000 in
set_option maxHeartbeats 4000000 in
theorem kX8_isSo_8 (l : Launch) (G : gP) (hg : gIn G) (hB : gRf G) {p : Program} {e : Env} {s : State} {m : MethodId} {args : Array Value} {below : List Frame} {meth : Method} {c : Code} (C : Cx p s m args meth c G (gA G) cX8_isSo 3 RX8) (hr : meth.sig.returnType = (some (Jvm.ClassFile.FieldType.boolean))) {Q : Int32 → Mem → Prop} : ∀ (n : Nat) (v1 : Int32) (v2 : Int32) (M : Mem), wX8_isSo_8 Q n v1 v2 M → Wl p l e rmX8_isSo s m args below meth c (MQ below (va_Qi Q (gB G) (gA G)) args s 0 0 (gA G)) G (gA G) 3 0 0 M 8 [(0, .ref (gAD G 79)), (1, .int v1), (2, .int v2)] [] := by
  intro n
  induction n with
  | zero => intro v1 v2 M h; exact h.elim
  | succ n ih =>
    intro v1 v2 M h
    have h : (((M 79 15) ≤ v2 → ((v1 = 0 ∨ v1 = 1) ∧ Q v1 M)) ∧ (¬ (M 79 15) ≤ v2 → (vp_in v2 (ln 93) ∧ (wX8_layPower (rdL M 93 v2.toNatClampNeg) M (fun M3 => (vp_in v2 (ln 94) ∧ (wX8_placeOf (M3 94 v2.toNatClampNeg) M3 (fun r5 M4 => (vp_in v2 (ln 95) ∧ (wX8_know r5 (M4 95 v2.toNatClampNeg) M4 (fun r7 M6 => ((r7 = 0 → wX8_isSo_57 (wX8_isSo_8 Q n) Q v2 M6) ∧ (¬ r7 = 0 → ((v1 = 0 → wX8_isSo_57 (wX8_isSo_8 Q n) Q v2 M6) ∧ (¬ v1 = 0 → wX8_isSo_58 (wX8_isSo_8 Q n) Q v2 (1 : Int32) M6))))))))))))))) := h
    refine wl_iload_n C dX8_isSo_8 2 rfl ?_
    refine wl_aload_n C dX8_isSo_9 0 rfl ?_
    refine gf_8_15 C kq_79 (gir_8 hB kq_79) tw_608 dX8_isSo_10 ?_
    refine wl_icmp_ge C (tgt := 65) dX8_isSo_13 (by decide) (fun hc => ?_) (fun hc => ?_)
    · have h := h.1 hc
      refine wl_iload_n C dX8_isSo_65 1 rfl ?_
      exact wl_zret C hr h.1 h.2 dX8_isSo_66
    · have h := h.2 hc
      refine wl_aload_n C dX8_isSo_16 0 rfl ?_
      refine wl_aload_n C dX8_isSo_17 0 rfl ?_
      refine gf_8_16 C kq_79 (gir_8 hB kq_79) tw_609 dX8_isSo_18 ?_
      refine wl_iload_n C dX8_isSo_21 2 rfl ?_
      refine ga_lld C kq_93 (gir_11 hB kq_93) h.1 dX8_isSo_22 ?_
      have h := h.2
      refine wl_callVv C (cX8_layPower_M l G hg hB (rdL M 93 v2.toNatClampNeg) M _) h cw_RX8_187 hd_X8_layPower ⟨rfl, rfl⟩ ⟨by decide, by decide⟩ (gir_8 hB kq_79) (gc_k kq_79) rfl (As := [.long (rdL M 93 v2.toNatClampNeg)]) (rest := []) rfl (Nat.le_of_ble_eq_true rfl) ⟨Nat.zero_le _, Nat.zero_le _⟩ rfl dX8_isSo_23 (fun M3 h => ?_)
      refine wl_aload_n C dX8_isSo_26 0 rfl ?_
      refine wl_aload_n C dX8_isSo_27 0 rfl ?_
      refine wl_aload_n C dX8_isSo_28 0 rfl ?_
      refine gf_8_17 C kq_79 (gir_8 hB kq_79) tw_610 dX8_isSo_29 ?_
      refine wl_iload_n C dX8_isSo_32 2 rfl ?_
      refine ga_ld10 C kq_94 (gir_10 hB kq_94) h.1 dX8_isSo_33 ?_
      have h := h.2
      refine wl_callVi C (cX8_placeOf_M l G hg hB (M3 94 v2.toNatClampNeg) M3 _) h cw_RX8_191 hd_X8_placeOf ⟨rfl, rfl⟩ ⟨by decide, by decide⟩ (gir_8 hB kq_79) (gc_k kq_79) rfl (As := [.int (M3 94 v2.toNatClampNeg)]) (rest := [.ref (gAD G 79)]) rfl (Nat.le_of_ble_eq_true rfl) ⟨Nat.zero_le _, Nat.zero_le _⟩ rfl dX8_isSo_34 (fun r5 M4 h => ?_)
      refine wl_aload_n C dX8_isSo_37 0 rfl ?_
      refine gf_8_18 C kq_79 (gir_8 hB kq_79) tw_611 dX8_isSo_38 ?_
      refine wl_iload_n C dX8_isSo_41 2 rfl ?_
      refine ga_ld10 C kq_95 (gir_10 hB kq_95) h.1 dX8_isSo_42 ?_
      have h := h.2
      refine wl_callVi C (cX8_know_M l G hg hB r5 (M4 95 v2.toNatClampNeg) M4 _) h cw_RX8_215 hd_X8_know ⟨rfl, rfl⟩ ⟨by decide, by decide⟩ (gir_8 hB kq_79) (gc_k kq_79) rfl (As := [.int r5, .int (M4 95 v2.toNatClampNeg)]) (rest := []) rfl (Nat.le_of_ble_eq_true rfl) ⟨Nat.zero_le _, Nat.zero_le _⟩ rfl dX8_isSo_43 (fun r7 M6 h => ?_)
      refine wl_if_eq C (tgt := 57) dX8_isSo_46 (by decide) (fun hc => ?_) (fun hc => ?_)
      · have h := h.1 hc
        refine wl_sub [0, 2] rfl ?_
        exact kX8_isSo_57 l G hg hB C hr (wX8_isSo_8 Q n) (ih) v2 M6 h
      · have h := h.2 hc
        refine wl_iload_n C dX8_isSo_49 1 rfl ?_
        refine wl_if_eq C (tgt := 57) dX8_isSo_50 (by decide) (fun hc => ?_) (fun hc => ?_)
        · have h := h.1 hc
          refine wl_sub [0, 2] rfl ?_
          exact kX8_isSo_57 l G hg hB C hr (wX8_isSo_8 Q n) (ih) v2 M6 h
        · have h := h.2 hc
          refine wl_iconst (v := 1) C dX8_isSo_53 (by decide) ?_
          refine wl_goto C (tgt := 58) dX8_isSo_54 (by decide) ?_
          refine wl_sub [0, 2] rfl ?_
          exact kX8_isSo_58 l G hg hB C hr (wX8_isSo_8 Q n) (ih) v2 (1 : Int32) M6 h
set_option maxRecDepth 100000 in
set_option maxHeartbeats 4000000 in
theorem cX8_isSo_M (l : Launch) (G : gP) (hg : gIn G) (hB : gRf G) (M : Mem) (Q : Int32 → Mem → Prop) : Met l yX8_isSo (Cond.code yX8_isSo cX8_isSo 3 (some (Jvm.ClassFile.FieldType.boolean)) :: TB) rmX8_isSo (va_Pc [.ref (gAD G 79)] (fun U => gS G M U ∧ wX8_isSo M Q)) (va_Qi Q (gB G) (gA G)) 0 0 (gA G) := by
  refine gMet (by decide +kernel) (show _ = Cond.code yX8_isSo cX8_isSo 3 (some (Jvm.ClassFile.FieldType.boolean)) from rfl) hg (Nat.le_of_ble_eq_true rfl) [(0, .ref (gAD G 79))] rfl ?_
  intro p e s m args below meth c C hr h
  have h : (wX8_noOrder M (fun M1 => (∃ n2, wX8_isSo_8 Q n2 (1 : Int32) (0 : Int32) M1))) := h
  refine wl_aload_n C dX8_isSo_0 0 rfl ?_
  refine wl_callVv C (cX8_noOrder_M l G hg hB M _) h cw_RX8_212 hd_X8_noOrder ⟨rfl, rfl⟩ ⟨by decide, by decide⟩ (gir_8 hB kq_79) (gc_k kq_79) rfl (As := []) (rest := []) rfl (Nat.le_of_ble_eq_true rfl) ⟨Nat.zero_le _, Nat.zero_le _⟩ rfl dX8_isSo_1 (fun M1 h => ?_)
  refine wl_iconst (v := 1) C dX8_isSo_4 (by decide) ?_
  refine wl_istore_n (i := 1) (lv' := [(1, .int (1 : Int32)), (0, .ref (gAD G 79))]) C dX8_isSo_5 rfl (by decide) rfl ?_
  refine wl_iconst (v := 0) C dX8_isSo_6 (by decide) ?_
  refine wl_istore_n (i := 2) (lv' := [(2, .int (0 : Int32)), (1, .int (1 : Int32)), (0, .ref (gAD G 79))]) C dX8_isSo_7 rfl (by decide) rfl ?_
  refine wl_sub [2, 1, 0] rfl ?_
  obtain ⟨n2, h⟩ := h
  exact kX8_isSo_8 l G hg hB C hr n2 (1 : Int32) (0 : Int32) M1 h
set_option maxRecDepth 100000 in
set_option maxHeartbeats 4000000 in
theorem kX8_so_12 (l : Launch) (G : gP) (hg : gIn G) (hB : gRf G) {p : Program} {e : Env} {s : State} {m : MethodId} {args : Array Value} {below : List Frame} {meth : Method} {c : Code} (C : Cx p s m args meth c G (gA G) cX8_so 1 RX8) (hr : meth.sig.returnType = (some (Jvm.ClassFile.FieldType.int))) {Q : Int32 → Mem → Prop} (s0 : Int32) (M : Mem) (h : wX8_so_12 Q s0 M) : Wl p l e rmX8_so s m args below meth c (MQ below (va_Qi Q (gB G) (gA G)) args s 0 0 (gA G)) G (gA G) 1 0 0 M 12 [] [.int s0] := by
  have h : Q s0 M := h
  exact wl_iret C hr h dX8_so_12
set_option maxRecDepth 100000 in
set_option maxHeartbeats 4000000 in
theorem cX8_so_M (l : Launch) (G : gP) (hg : gIn G) (hB : gRf G) (M : Mem) (Q : Int32 → Mem → Prop) : Met l yX8_so (Cond.code yX8_so cX8_so 1 (some (Jvm.ClassFile.FieldType.int)) :: TB) rmX8_so (va_Pc [.ref (gAD G 79)] (fun U => gS G M U ∧ wX8_so M Q)) (va_Qi Q (gB G) (gA G)) 0 0 (gA G) := by
  refine gMet (by decide +kernel) (show _ = Cond.code yX8_so cX8_so 1 (some (Jvm.ClassFile.FieldType.int)) from rfl) hg (Nat.le_of_ble_eq_true rfl) [(0, .ref (gAD G 79))] rfl ?_
  intro p e s m args below meth c C hr h
  have h : (wX8_isSo M (fun r2 M1 => ((r2 = 0 → wX8_so_12 Q (0 : Int32) M1) ∧ (¬ r2 = 0 → wX8_so_12 Q (1 : Int32) M1)))) := h
  refine wl_aload_n C dX8_so_0 0 rfl ?_
  refine wl_callVi C (cX8_isSo_M l G hg hB M _) h cw_RX8_224 hd_X8_isSo ⟨rfl, rfl⟩ ⟨by decide, by decide⟩ (gir_8 hB kq_79) (gc_k kq_79) rfl (As := []) (rest := []) rfl (Nat.le_of_ble_eq_true rfl) ⟨Nat.zero_le _, Nat.zero_le _⟩ rfl dX8_so_1 (fun r2 M1 h => ?_)
  refine wl_if_eq C (tgt := 11) dX8_so_4 (by decide) (fun hc => ?_) (fun hc => ?_)
  · have h := h.1 hc
    refine wl_iconst (v := 0) C dX8_so_11 (by decide) ?_
    refine wl_sub [] rfl ?_
    exact kX8_so_12 l G hg hB C hr (0 : Int32) M1 h
  · have h := h.2 hc
    refine wl_iconst (v := 1) C dX8_so_7 (by decide) ?_
    refine wl_goto C (tgt := 12) dX8_so_8 (by decide) ?_
    refine wl_sub [] rfl ?_
    exact kX8_so_12 l G hg hB C hr (1 : Int32) M1 h
set_option maxRecDepth 100000 in
set_option maxHeartbeats 4000000 in
theorem kX8_sure_44 (l : Launch) (G : gP) (hg : gIn G) (hB : gRf G) (x1 : Int32) {p : Program} {e : Env} {s : State} {m : MethodId} {args : Array Value} {below : List Frame} {meth : Method} {c : Code} (C : Cx p s m args meth c G (gA G) cX8_sure 3 RX8) (hr : meth.sig.returnType = (some (Jvm.ClassFile.FieldType.int))) {Q : Int32 → Mem → Prop} (M : Mem) (h : wX8_sure_44 x1 Q M) : Wl p l e rmX8_sure s m args below meth c (MQ below (va_Qi Q (gB G) (gA G)) args s 0 0 (gA G)) G (gA G) 3 0 0 M 44 [(0, .ref (gAD G 79)), (1, .int x1)] [] := by
  have h : (vp_in x1 (ln 103) ∧ Q (M 103 x1.toNatClampNeg) M) := h
  refine wl_aload_n C dX8_sure_44 0 rfl ?_
  refine gf_8_27 C kq_79 (gir_8 hB kq_79) tw_620 dX8_sure_45 ?_
  refine wl_iload_n C dX8_sure_48 1 rfl ?_
  refine ga_ld10 C kq_103 (gir_10 hB kq_103) h.1 dX8_sure_49 ?_
  have h := h.2
  exact wl_iret C hr h dX8_sure_50
set_option maxRecDepth 100000 in
set_option maxHeartbeats 4000000 in
theorem kX8_sure_53 (l : Launch) (G : gP) (hg : gIn G) (hB : gRf G) (x1 : Int32) {p : Program} {e : Env} {s : State} {m : MethodId} {args : Array Value} {below : List Frame} {meth : Method} {c : Code} (C : Cx p s m args meth c G (gA G) cX8_sure 3 RX8) (hr : meth.sig.returnType = (some (Jvm.ClassFile.FieldType.int))) {Q : Int32 → Mem → Prop} : ∀ (n : Nat) (v2 : Int32) (M : Mem), wX8_sure_53 x1 Q n v2 M → Wl p l e rmX8_sure s m args below meth c (MQ below (va_Qi Q (gB G) (gA G)) args s 0 0 (gA G)) G (gA G) 3 0 0 M 53 [(0, .ref (gAD G 79)), (2, .int v2)] [] := by
  intro n
  induction n with
  | zero => intro v2 M h; exact h.elim
  | succ n ih =>
    intro v2 M h
    have h : (vp_in v2 (ln 104) ∧ (((M 104 v2.toNatClampNeg) < 0 → Q v2 M) ∧ (¬ (M 104 v2.toNatClampNeg) < 0 → wX8_sure_53 x1 Q n (v2 + (1 : Int32)) M))) := h
    refine wl_aload_n C dX8_sure_53 0 rfl ?_
    refine gf_8_28 C kq_79 (gir_8 hB kq_79) tw_621 dX8_sure_54 ?_
    refine wl_iload_n C dX8_sure_57 1 rfl ?_
    refine ga_ld10 C kq_104 (gir_10 hB kq_104) h.1 dX8_sure_58 ?_
    have h := h.2
    refine wl_if_lt C (tgt := 68) dX8_sure_59 (by decide) (fun hc => ?_) (fun hc => ?_)
    · have h := h.1 hc
      refine wl_iload_n C dX8_sure_68 1 rfl ?_
      exact wl_iret C hr h dX8_sure_69
    · have h := h.2 hc
      refine wl_iinc (v := (v2 + (1 : Int32))) (lv' := [(2, .int (v2 + (1 : Int32))), (0, .ref (gAD G 79))]) C dX8_sure_62 1 rfl (by rfl) (by decide) rfl ?_
      refine wl_goto C (tgt := 53) dX8_sure_65 (by decide) ?_
      refine wl_sub [1, 0] rfl ?_
      exact ih (v2 + (1 : Int32)) M h
set_option maxRecDepth 100000 in
set_option maxHeartbeats 4000000 in
theorem cX8_sure_M (l : Launch) (G : gP) (hg : gIn G) (hB : gRf G) (x1 : Int32) (M : Mem) (Q : Int32 → Mem → Prop) : Met l yX8_sure (Cond.code yX8_sure cX8_sure 3 (some (Jvm.ClassFile.FieldType.int)) :: TB) rmX8_sure (va_Pc [.ref (gAD G 79), .int x1] (fun U => gS G M U ∧ wX8_sure x1 M Q)) (va_Qi Q (gB G) (gA G)) 0 0 (gA G) := by
  refine gMet (by decide +kernel) (show _ = Cond.code yX8_sure cX8_sure 3 (some (Jvm.ClassFile.FieldType.int)) from rfl) hg (Nat.le_of_ble_eq_true rfl) [(0, .ref (gAD G 79)), (1, .int x1)] rfl ?_
  intro p e s m args below meth c C hr h
  have h : (wX8_isLeaf x1 M (fun r2 M1 => ((¬ r2 = 0 → (wX8_isSo M1 (fun r4 M3 => ((¬ r4 = 0 → (vp_in x1 (ln 103) ∧ ((0 ≤ (M3 103 x1.toNatClampNeg) → wX8_sure_44 x1 Q M3) ∧ (¬ 0 ≤ (M3 103 x1.toNatClampNeg) → (vp_in (0 : Int32) (ln 81) ∧ ((((M3 81 (0 : Int32).toNatClampNeg) - (1 : Int32)) ≤ (M3 79 29) → (∃ n5, wX8_sure_53 x1 Q n5 (0 : Int32) M3)) ∧ (¬ ((M3 81 (0 : Int32).toNatClampNeg) - (1 : Int32)) ≤ (M3 79 29) → wX8_sure_44 x1 Q M3))))))) ∧ (r4 = 0 → Q (-4 : Int32) M3))))) ∧ (r2 = 0 → Q (-1 : Int32) M1)))) := h
  refine wl_aload_n C dX8_sure_0 0 rfl ?_
  refine wl_iload_n C dX8_sure_1 1 rfl ?_
  refine wl_callVi C (cX8_isLeaf_M l G hg hB x1 M _) h cw_RX8_155 hd_X8_isLeaf ⟨rfl, rfl⟩ ⟨by decide, by decide⟩ (gir_8 hB kq_79) (gc_k kq_79) rfl (As := [.int x1]) (rest := []) rfl (Nat.le_of_ble_eq_true rfl) ⟨Nat.zero_le _, Nat.zero_le _⟩ rfl dX8_sure_2 (fun r2 M1 h => ?_)
  refine wl_if_ne C (tgt := 10) dX8_sure_5 (by decide) (fun hc => ?_) (fun hc => ?_)
  · have h := h.1 hc
    refine wl_aload_n C dX8_sure_10 0 rfl ?_
    refine wl_callVi C (cX8_isSo_M l G hg hB M1 _) h cw_RX8_224 hd_X8_isSo ⟨rfl, rfl⟩ ⟨by decide, by decide⟩ (gir_8 hB kq_79) (gc_k kq_79) rfl (As := []) (rest := []) rfl (Nat.le_of_ble_eq_true rfl) ⟨Nat.zero_le _, Nat.zero_le _⟩ rfl dX8_sure_11 (fun r4 M3 h => ?_)
    refine wl_if_ne C (tgt := 20) dX8_sure_14 (by decide) (fun hc => ?_) (fun hc => ?_)
    · have h := h.1 hc
      refine wl_aload_n C dX8_sure_20 0 rfl ?_
      refine gf_8_27 C kq_79 (gir_8 hB kq_79) tw_620 dX8_sure_21 ?_
      refine wl_iload_n C dX8_sure_24 1 rfl ?_
      refine ga_ld10 C kq_103 (gir_10 hB kq_103) h.1 dX8_sure_25 ?_
      have h := h.2
      refine wl_if_ge C (tgt := 44) dX8_sure_26 (by decide) (fun hc => ?_) (fun hc => ?_)
      · have h := h.1 hc
        refine wl_sub [0, 1] rfl ?_
        exact kX8_sure_44 l G hg hB x1 C hr M3 h
      · have h := h.2 hc
        refine wl_aload_n C dX8_sure_29 0 rfl ?_
        refine gf_8_29 C kq_79 (gir_8 hB kq_79) tw_622 dX8_sure_30 ?_
        refine wl_aload_n C dX8_sure_33 0 rfl ?_
        refine gf_8_2 C kq_79 (gir_8 hB kq_79) tw_595 dX8_sure_34 ?_
        refine wl_iconst (v := 0) C dX8_sure_37 (by decide) ?_
        refine ga_ld10 C kq_81 (gir_10 hB kq_81) h.1 dX8_sure_38 ?_
        have h := h.2
        refine wl_iconst (v := 1) C dX8_sure_39 (by decide) ?_
        refine wl_isub C dX8_sure_40 ?_
        refine wl_icmp_ge C (tgt := 51) dX8_sure_41 (by decide) (fun hc => ?_) (fun hc => ?_)
        · have h := h.1 hc
          refine wl_iconst (v := 0) C dX8_sure_51 (by decide) ?_
          refine wl_istore_n (i := 2) (lv' := [(2, .int (0 : Int32)), (0, .ref (gAD G 79)), (1, .int x1)]) C dX8_sure_52 rfl (by decide) rfl ?_
          refine wl_sub [1, 0] rfl ?_
          obtain ⟨n5, h⟩ := h
          exact kX8_sure_53 l G hg hB x1 C hr n5 (0 : Int32) M3 h
        · have h := h.2 hc
          refine wl_sub [0, 1] rfl ?_
          exact kX8_sure_44 l G hg hB x1 C hr M3 h
    · have h := h.2 hc
      refine wl_bipush (v := (-4)) C dX8_sure_17 (by decide) ?_
      exact wl_iret C hr h dX8_sure_19
  · have h := h.2 hc
    refine wl_iconst (v := (-1)) C dX8_sure_8 (by decide) ?_
    exact wl_iret C hr h dX8_sure_9
set_option maxRecDepth 100000 in
set_option maxHeartbeats 4000000 in
theorem kX8_lacks_18 (l : Launch) (G : gP) (hg : gIn G) (hB : gRf G) (x1 : Int32) (x2 : Int32) {p : Program} {e : Env} {s : State} {m : MethodId} {args : Array Value} {below : List Frame} {meth : Method} {c : Code} (C : Cx p s m args meth c G (gA G) cX8_lacks 6 RX8) (hr : meth.sig.returnType = (some (Jvm.ClassFile.FieldType.int))) {Q : Int32 → Mem → Prop} (M : Mem) (h : wX8_lacks_18 x1 x2 Q M) : Wl p l e rmX8_lacks s m args below meth c (MQ below (va_Qi Q (gB G) (gA G)) args s 0 0 (gA G)) G (gA G) 6 0 0 M 18 [] [] := by
  have h : Q (-1 : Int32) M := h
  refine wl_iconst (v := (-1)) C dX8_lacks_18 (by decide) ?_
  exact wl_iret C hr h dX8_lacks_19
set_option maxRecDepth 100000 in
set_option maxHeartbeats 4000000 in
theorem kX8_lacks_79 (l : Launch) (G : gP) (hg : gIn G) (hB : gRf G) (x1 : Int32) (x2 : Int32) {p : Program} {e : Env} {s : State} {m : MethodId} {args : Array Value} {below : List Frame} {meth : Method} {c : Code} (C : Cx p s m args meth c G (gA G) cX8_lacks 6 RX8) (hr : meth.sig.returnType = (some (Jvm.ClassFile.FieldType.int))) {Q : Int32 → Mem → Prop} (s0 : Int32) (M : Mem) (h : wX8_lacks_79 x1 x2 Q s0 M) : Wl p l e rmX8_lacks s m args below meth c (MQ below (va_Qi Q (gB G) (gA G)) args s 0 0 (gA G)) G (gA G) 6 0 0 M 79 [] [.int s0] := by
  have h : Q s0 M := h
  exact wl_iret C hr h dX8_lacks_79
set_option maxRecDepth 100000 in
set_option maxHeartbeats 4000000 in
theorem kX8_lacks_42 (l : Launch) (G : gP) (hg : gIn G) (hB : gRf G) (x1 : Int32) (x2 : Int32) {p : Program} {e : Env} {s : State} {m : MethodId} {args : Array Value} {below : List Frame} {meth : Method} {c : Code} (C : Cx p s m args meth c G (gA G) cX8_lacks 6 RX8) (hr : meth.sig.returnType = (some (Jvm.ClassFile.FieldType.int))) {Q : Int32 → Mem → Prop} (k_33 : Int32 → Int32 → Mem → Prop) (hk_33 : ∀ (v3 : Int32) (v4 : Int32) (M : Mem), k_33 v3 v4 M → Wl p l e rmX8_lacks s m args below meth c (MQ below (va_Qi Q (gB G) (gA G)) args s 0 0 (gA G)) G (gA G) 6 0 0 M 33 [(0, .ref (gAD G 79)), (1, .int x1), (2, .int x2), (3, .int v3), (4, .int v4)] []) : ∀ (n : Nat) (v3 : Int32) (v4 : Int32) (v5 : Int32) (M : Mem), wX8_lacks_42 x1 x2 k_33 Q n v3 v4 v5 M → Wl p l e rmX8_lacks s m args below meth c (MQ below (va_Qi Q (gB G) (gA G)) args s 0 0 (gA G)) G (gA G) 6 0 0 M 42 [(0, .ref (gAD G 79)), (1, .int x1), (2, .int x2), (3, .int v3), (4, .int v4), (5, .int v5)] [] := by
  intro n
  induction n with
  | zero => intro v3 v4 v5 M h; exact h.elim
  | succ n ih =>
    intro v3 v4 v5 M h
    have h : (vp_in (0 : Int32) (ln 82) ∧ (((M 82 (0 : Int32).toNatClampNeg) ≤ v5 → (wX8_put 100 99 M (fun M10 => k_33 v3 (v4 + (1 : Int32)) M10))) ∧ (¬ (M 82 (0 : Int32).toNatClampNeg) ≤ v5 → (wX8_placeOf v5 M (fun r12 M11 => (vp_in r12 (ln 89) ∧ ((¬ (M11 89 r12.toNatClampNeg) = x1 → wX8_lacks_42 x1 x2 k_33 Q n v3 v4 (v5 + (1 : Int32)) M11) ∧ ((M11 89 r12.toNatClampNeg) = x1 → ((¬ x2 = 0 → wX8_lacks_79 x1 x2 Q v5 M11) ∧ (x2 = 0 → wX8_lacks_79 x1 x2 Q v4 M11)))))))))) := h
    refine wl_iload C dX8_lacks_42 5 rfl ?_
    refine wl_aload_n C dX8_lacks_44 0 rfl ?_
    refine gf_8_3 C kq_79 (gir_8 hB kq_79) tw_596 dX8_lacks_45 ?_
    refine wl_iconst (v := 0) C dX8_lacks_48 (by decide) ?_
    refine ga_ld10 C kq_82 (gir_10 hB kq_82) h.1 dX8_lacks_49 ?_
    have h := h.2
    refine wl_icmp_ge C (tgt := 86) dX8_lacks_50 (by decide) (fun hc => ?_) (fun hc => ?_)
    · have h := h.1 hc
      refine wl_aload_n C dX8_lacks_86 0 rfl ?_
      refine wl_aload_n C dX8_lacks_87 0 rfl ?_
      refine gf_8_24 C kq_79 (gir_8 hB kq_79) tw_617 dX8_lacks_88 ?_
      refine wl_aload_n C dX8_lacks_91 0 rfl ?_
      refine gf_8_23 C kq_79 (gir_8 hB kq_79) tw_616 dX8_lacks_92 ?_
      refine wl_callVv C (cX8_put_M l G hg hB 100 99 kq_100 kq_99 M _) h cw_RX8_177 hd_X8_put ⟨rfl, rfl⟩ ⟨by decide, by decide⟩ (gir_8 hB kq_79) (gc_k kq_79) rfl (As := [.ref (gAD G 100), .ref (gAD G 99)]) (rest := []) rfl (Nat.le_of_ble_eq_true rfl) ⟨Nat.zero_le _, Nat.zero_le _⟩ rfl dX8_lacks_95 (fun M10 h => ?_)
      refine wl_iinc (v := (v4 + (1 : Int32))) (lv' := [(4, .int (v4 + (1 : Int32))), (0, .ref (gAD G 79)), (1, .int x1), (2, .int x2), (3, .int v3), (5, .int v5)]) C dX8_lacks_98 4 rfl (by rfl) (by decide) rfl ?_
      refine wl_goto C (tgt := 33) dX8_lacks_101 (by decide) ?_
      refine wl_sub [1, 2, 3, 4, 0] rfl ?_
      exact hk_33 v3 (v4 + (1 : Int32)) M10 h
    · have h := h.2 hc
      refine wl_aload_n C dX8_lacks_53 0 rfl ?_
      refine gf_8_10 C kq_79 (gir_8 hB kq_79) tw_603 dX8_lacks_54 ?_
      refine wl_aload_n C dX8_lacks_57 0 rfl ?_
      refine wl_iload C dX8_lacks_58 5 rfl ?_
      refine wl_callVi C (cX8_placeOf_M l G hg hB v5 M _) h cw_RX8_191 hd_X8_placeOf ⟨rfl, rfl⟩ ⟨by decide, by decide⟩ (gir_8 hB kq_79) (gc_k kq_79) rfl (As := [.int v5]) (rest := [.ref (gAD G 89)]) rfl (Nat.le_of_ble_eq_true rfl) ⟨Nat.zero_le _, Nat.zero_le _⟩ rfl dX8_lacks_60 (fun r12 M11 h => ?_)
      refine ga_ld10 C kq_89 (gir_10 hB kq_89) h.1 dX8_lacks_63 ?_
      have h := h.2
      refine wl_iload_n C dX8_lacks_64 1 rfl ?_
      refine wl_icmp_ne C (tgt := 80) dX8_lacks_65 (by decide) (fun hc => ?_) (fun hc => ?_)
      · have h := h.1 hc
        refine wl_iinc (v := (v5 + (1 : Int32))) (lv' := [(5, .int (v5 + (1 : Int32))), (0, .ref (gAD G 79)), (1, .int x1), (2, .int x2), (3, .int v3), (4, .int v4)]) C dX8_lacks_80 5 rfl (by rfl) (by decide) rfl ?_
        refine wl_goto C (tgt := 42) dX8_lacks_83 (by decide) ?_
        refine wl_sub [1, 2, 3, 4, 5, 0] rfl ?_
        exact ih v3 v4 (v5 + (1 : Int32)) M11 h
      · have h := h.2 hc
        refine wl_iload_n C dX8_lacks_68 2 rfl ?_
        refine wl_if_ne C (tgt := 77) dX8_lacks_69 (by decide) (fun hc => ?_) (fun hc => ?_)
        · have h := h.1 hc
          refine wl_iload C dX8_lacks_77 5 rfl ?_
          refine wl_sub [] rfl ?_
          exact kX8_lacks_79 l G hg hB x1 x2 C hr v5 M11 h
        · have h := h.2 hc
          refine wl_iload C dX8_lacks_72 4 rfl ?_
          refine wl_goto C (tgt := 79) dX8_lacks_74 (by decide) ?_
          refine wl_sub [] rfl ?_
          exact kX8_lacks_79 l G hg hB x1 x2 C hr v4 M11 h
set_option maxRecDepth 100000 in
set_option maxHeartbeats 4000000 in
theorem kX8_lacks_33 (l : Launch) (G : gP) (hg : gIn G) (hB : gRf G) (x1 : Int32) (x2 : Int32) {p : Program} {e : Env} {s : State} {m : MethodId} {args : Array Value} {below : List Frame} {meth : Method} {c : Code} (C : Cx p s m args meth c G (gA G) cX8_lacks 6 RX8) (hr : meth.sig.returnType = (some (Jvm.ClassFile.FieldType.int))) {Q : Int32 → Mem → Prop} : ∀ (n : Nat) (v3 : Int32) (v4 : Int32) (M : Mem), wX8_lacks_33 x1 x2 Q n v3 v4 M → Wl p l e rmX8_lacks s m args below meth c (MQ below (va_Qi Q (gB G) (gA G)) args s 0 0 (gA G)) G (gA G) 6 0 0 M 33 [(0, .ref (gAD G 79)), (1, .int x1), (2, .int x2), (3, .int v3), (4, .int v4)] [] := by
  intro n
  induction n with
  | zero => intro v3 v4 M h; exact h.elim
  | succ n ih =>
    intro v3 v4 M h
    have h : ((v3 ≤ v4 → Q (-4 : Int32) M) ∧ (¬ v3 ≤ v4 → (∃ n9, wX8_lacks_42 x1 x2 (wX8_lacks_33 x1 x2 Q n) Q n9 v3 v4 (0 : Int32) M))) := h
    refine wl_iload C dX8_lacks_33 4 rfl ?_
    refine wl_iload_n C dX8_lacks_35 3 rfl ?_
    refine wl_icmp_ge C (tgt := 104) dX8_lacks_36 (by decide) (fun hc => ?_) (fun hc => ?_)
    · have h := h.1 hc
      refine wl_bipush (v := (-4)) C dX8_lacks_104 (by decide) ?_
      exact wl_iret C hr h dX8_lacks_106
    · have h := h.2 hc
      refine wl_iconst (v := 0) C dX8_lacks_39 (by decide) ?_
      refine wl_istore (i := 5) (lv' := [(5, .int (0 : Int32)), (0, .ref (gAD G 79)), (1, .int x1), (2, .int x2), (3, .int v3), (4, .int v4)]) C dX8_lacks_40 (by decide) rfl ?_
      refine wl_sub [1, 2, 3, 4, 5, 0] rfl ?_
      obtain ⟨n9, h⟩ := h
      exact kX8_lacks_42 l G hg hB x1 x2 C hr (wX8_lacks_33 x1 x2 Q n) (ih) n9 v3 v4 (0 : Int32) M h
set_option maxRecDepth 100000 in
set_option maxHeartbeats 4000000 in
theorem cX8_lacks_M (l : Launch) (G : gP) (hg : gIn G) (hB : gRf G) (x1 : Int32) (x2 : Int32) (M : Mem) (Q : Int32 → Mem → Prop) : Met l yX8_lacks (Cond.code yX8_lacks cX8_lacks 6 (some (Jvm.ClassFile.FieldType.int)) :: TB) rmX8_lacks (va_Pc [.ref (gAD G 79), .int x1, .int x2] (fun U => gS G M U ∧ wX8_lacks x1 x2 M Q)) (va_Qi Q (gB G) (gA G)) 0 0 (gA G) := by
  refine gMet (by decide +kernel) (show _ = Cond.code yX8_lacks cX8_lacks 6 (some (Jvm.ClassFile.FieldType.int)) from rfl) hg (Nat.le_of_ble_eq_true rfl) [(0, .ref (gAD G 79)), (1, .int x1), (2, .int x2)] rfl ?_
  intro p e s m args below meth c C hr h
  have h : (wX8_isLeaf x1 M (fun r2 M1 => ((r2 = 0 → wX8_lacks_18 x1 x2 Q M1) ∧ (¬ r2 = 0 → (wX8_in x2.toInt64 (0 : Int64) (1 : Int64) M1 (fun r4 M3 => ((¬ r4 = 0 → (wX8_period M3 (fun r6 M5 => (wX8_layPower (0 : Int64) M5 (fun M7 => (∃ n8, wX8_lacks_33 x1 x2 Q n8 r6 (0 : Int32) M7)))))) ∧ (r4 = 0 → wX8_lacks_18 x1 x2 Q M3)))))))) := h
  refine wl_aload_n C dX8_lacks_0 0 rfl ?_
  refine wl_iload_n C dX8_lacks_1 1 rfl ?_
  refine wl_callVi C (cX8_isLeaf_M l G hg hB x1 M _) h cw_RX8_155 hd_X8_isLeaf ⟨rfl, rfl⟩ ⟨by decide, by decide⟩ (gir_8 hB kq_79) (gc_k kq_79) rfl (As := [.int x1]) (rest := []) rfl (Nat.le_of_ble_eq_true rfl) ⟨Nat.zero_le _, Nat.zero_le _⟩ rfl dX8_lacks_2 (fun r2 M1 h => ?_)
  refine wl_if_eq C (tgt := 18) dX8_lacks_5 (by decide) (fun hc => ?_) (fun hc => ?_)
  · have h := h.1 hc
    refine wl_sub [] rfl ?_
    exact kX8_lacks_18 l G hg hB x1 x2 C hr M1 h
  · have h := h.2 hc
    refine wl_iload_n C dX8_lacks_8 2 rfl ?_
    refine wl_i2l C dX8_lacks_9 ?_
    refine wl_lconst (v := 0) C dX8_lacks_10 (by decide) ?_
    refine wl_lconst (v := 1) C dX8_lacks_11 (by decide) ?_
    refine wl_callSi C (cX8_in_M l G hg hB x2.toInt64 (0 : Int64) (1 : Int64) M1 _) h cw_RX8_98 hd_X8_in ⟨rfl, rfl⟩ ⟨by decide, by decide⟩ (As := [.long x2.toInt64, .long (0 : Int64), .long (1 : Int64)]) (rest := []) rfl (Nat.le_of_ble_eq_true rfl) ⟨Nat.zero_le _, Nat.zero_le _⟩ rfl dX8_lacks_12 (fun r4 M3 h => ?_)
    refine wl_if_ne C (tgt := 20) dX8_lacks_15 (by decide) (fun hc => ?_) (fun hc => ?_)
    · have h := h.1 hc
      refine wl_aload_n C dX8_lacks_20 0 rfl ?_
      refine wl_callVi C (cX8_period_M l G hg hB M3 _) h cw_RX8_203 hd_X8_period ⟨rfl, rfl⟩ ⟨by decide, by decide⟩ (gir_8 hB kq_79) (gc_k kq_79) rfl (As := []) (rest := []) rfl (Nat.le_of_ble_eq_true rfl) ⟨Nat.zero_le _, Nat.zero_le _⟩ rfl dX8_lacks_21 (fun r6 M5 h => ?_)
      refine wl_istore_n (i := 3) (lv' := [(3, .int r6), (0, .ref (gAD G 79)), (1, .int x1), (2, .int x2)]) C dX8_lacks_24 rfl (by decide) rfl ?_
      refine wl_aload_n C dX8_lacks_25 1 rfl ?_
      refine wl_lconst (v := 0) C dX8_lacks_26 (by decide) ?_
      refine wl_callVv C (cX8_layPower_M l G hg hB (0 : Int64) M5 _) h cw_RX8_187 hd_X8_layPower ⟨rfl, rfl⟩ ⟨by decide, by decide⟩ (gir_8 hB kq_79) (gc_k kq_79) rfl (As := [.long (0 : Int64)]) (rest := []) rfl (Nat.le_of_ble_eq_true rfl) ⟨Nat.zero_le _, Nat.zero_le _⟩ rfl dX8_lacks_27 (fun M7 h => ?_)
      refine wl_iconst (v := 0) C dX8_lacks_30 (by decide) ?_
      refine wl_istore (i := 4) (lv' := [(4, .int (0 : Int32)), (3, .int r6), (0, .ref (gAD G 79)), (1, .int x1), (2, .int x2)]) C dX8_lacks_31 (by decide) rfl ?_
      refine wl_sub [2, 3, 4, 1, 0] rfl ?_
      obtain ⟨n8, h⟩ := h
      exact kX8_lacks_33 l G hg hB x1 x2 C hr n8 r6 (0 : Int32) M7 h
    · have h := h.2 hc
      refine wl_sub [] rfl ?_
      exact kX8_lacks_18 l G hg hB x1 x2 C hr M3 h
set_option maxRecDepth 100000 in
set_option maxHeartbeats 4000000 in
theorem kX8_notice_28 (l : Launch) (G : gP) (hg : gIn G) (hB : gRf G) (x1 : Int32) (x2 : Int32) (x3 : Int32) {p : Program} {e : Env} {s : State} {m : MethodId} {args : Array Value} {below : List Frame} {meth : Method} {c : Code} (C : Cx p s m args meth c G (gA G) cX8_notice 8 RX8) (hr : meth.sig.returnType = (some (Jvm.ClassFile.FieldType.int))) {Q : Int32 → Mem → Prop} (M : Mem) (h : wX8_notice_28 x1 x2 x3 Q M) : Wl p l e rmX8_notice s m args below meth c (MQ below (va_Qi Q (gB G) (gA G)) args s 0 0 (gA G)) G (gA G) 8 0 0 M 28 [] [] := by
  have h : Q (-1 : Int32) M := h
  refine wl_iconst (v := (-1)) C dX8_notice_28 (by decide) ?_
  exact wl_iret C hr h dX8_notice_29
set_option maxRecDepth 100000 in
set_option maxHeartbeats 4000000 in
theorem kX8_notice_80 (l : Launch) (G : gP) (hg : gIn G) (hB : gRf G) (x1 : Int32) (x2 : Int32) (x3 : Int32) {p : Program} {e : Env} {s : State} {m : MethodId} {args : Array Value} {below : List Frame} {meth : Method} {c : Code} (C : Cx p s m args meth c G (gA G) cX8_notice 8 RX8) (hr : meth.sig.returnType = (some (Jvm.ClassFile.FieldType.int))) {Q : Int32 → Mem → Prop} (k_50 : Int64 → Int32 → Int32 → Mem → Prop) (hk_50 : ∀ (v4 : Int64) (v6 : Int32) (v7 : Int32) (M : Mem), k_50 v4 v6 v7 M → Wl p l e rmX8_notice s m args below meth c (MQ below (va_Qi Q (gB G) (gA G)) args s 0 0 (gA G)) G (gA G) 8 0 0 M 50 [(0, .ref (gAD G 79)), (1, .int x1), (2, .int x2), (3, .int x3), (4, .long v4), (6, .int v6), (7, .int v7)] []) (v4 : Int64) (v7 : Int32) (s0 : Int32) (s1 : Int32) (M : Mem) (h : wX8_notice_80 x1 x2 x3 k_50 Q v4 v7 s0 s1 M) : Wl p l e rmX8_notice s m args below meth c (MQ below (va_Qi Q (gB G) (gA G)) args s 0 0 (gA G)) G (gA G) 8 0 0 M 80 [(0, .ref (gAD G 79)), (1, .int x1), (2, .int x2), (3, .int x3), (4, .long v4), (7, .int v7)] [.int s0, .int s1] := by
  have h : (wX8_put 100 99 M (fun M11 => k_50 v4 (s1 + s0) (v7 + (1 : Int32)) M11)) := h
  refine wl_iadd C dX8_notice_80 ?_
  refine wl_istore (i := 6) (lv' := [(6, .int (s1 + s0)), (0, .ref (gAD G 79)), (1, .int x1), (2, .int x2), (3, .int x3), (4, .long v4), (7, .int v7)]) C dX8_notice_81 (by decide) rfl ?_
  refine wl_aload_n C dX8_notice_83 1 rfl ?_
  refine wl_aload_n C dX8_notice_84 1 rfl ?_
  refine gf_8_24 C kq_79 (gir_8 hB kq_79) tw_617 dX8_notice_85 ?_
  refine wl_aload_n C dX8_notice_88 1 rfl ?_
  refine gf_8_23 C kq_79 (gir_8 hB kq_79) tw_616 dX8_notice_89 ?_
  refine wl_callVv C (cX8_put_M l G hg hB 100 99 kq_100 kq_99 M _) h cw_RX8_177 hd_X8_put ⟨rfl, rfl⟩ ⟨by decide, by decide⟩ (gir_8 hB kq_79) (gc_k kq_79) rfl (As := [.ref (gAD G 100), .ref (gAD G 99)]) (rest := []) rfl (Nat.le_of_ble_eq_true rfl) ⟨Nat.zero_le _, Nat.zero_le _⟩ rfl dX8_notice_92 (fun M11 h => ?_)
  refine wl_iinc (v := (v7 + (1 : Int32))) (lv' := [(7, .int (v7 + (1 : Int32))), (6, .int (s1 + s0)), (0, .ref (gAD G 79)), (1, .int x1), (2, .int x2), (3, .int x3), (4, .long v4)]) C dX8_notice_95 6 rfl (by rfl) (by decide) rfl ?_
  refine wl_goto C (tgt := 50) dX8_notice_98 (by decide) ?_
  refine wl_sub [2, 3, 4, 5, 6, 1, 0] rfl ?_
  exact hk_50 v4 (s1 + s0) (v7 + (1 : Int32)) M11 h
set_option maxRecDepth 100000 in
set_option maxHeartbeats 4000000 in
theorem kX8_notice_79 (l : Launch) (G : gP) (hg : gIn G) (hB : gRf G) (x1 : Int32) (x2 : Int32) (x3 : Int32) {p : Program} {e : Env} {s : State} {m : MethodId} {args : Array Value} {below : List Frame} {meth : Method} {c : Code} (C : Cx p s m args meth c G (gA G) cX8_notice 8 RX8) (hr : meth.sig.returnType = (some (Jvm.ClassFile.FieldType.int))) {Q : Int32 → Mem → Prop} (k_50 : Int64 → Int32 → Int32 → Mem → Prop) (hk_50 : ∀ (v4 : Int64) (v6 : Int32) (v7 : Int32) (M : Mem), k_50 v4 v6 v7 M → Wl p l e rmX8_notice s m args below meth c (MQ below (va_Qi Q (gB G) (gA G)) args s 0 0 (gA G)) G (gA G) 8 0 0 M 50 [(0, .ref (gAD G 79)), (1, .int x1), (2, .int x2), (3, .int x3), (4, .long v4), (6, .int v6), (7, .int v7)] []) (v4 : Int64) (v7 : Int32) (s0 : Int32) (M : Mem) (h : wX8_notice_79 x1 x2 x3 k_50 Q v4 v7 s0 M) : Wl p l e rmX8_notice s m args below meth c (MQ below (va_Qi Q (gB G) (gA G)) args s 0 0 (gA G)) G (gA G) 8 0 0 M 79 [(0, .ref (gAD G 79)), (1, .int x1), (2, .int x2), (3, .int x3), (4, .long v4), (7, .int v7)] [.int s0] := by
  have h : wX8_notice_80 x1 x2 x3 (k_50) Q v4 v7 (0 : Int32) s0 M := h
  refine wl_iconst (v := 0) C dX8_notice_79 (by decide) ?_
  refine wl_sub [0, 1, 2, 3, 4, 5] rfl ?_
  exact kX8_notice_80 l G hg hB x1 x2 x3 C hr (k_50) (hk_50) v4 v7 (0 : Int32) s0 M h
set_option maxRecDepth 100000 in
set_option maxHeartbeats 4000000 in
theorem kX8_notice_50 (l : Launch) (G : gP) (hg : gIn G) (hB : gRf G) (x1 : Int32) (x2 : Int32) (x3 : Int32) {p : Program} {e : Env} {s : State} {m : MethodId} {args : Array Value} {below : List Frame} {meth : Method} {c : Code} (C : Cx p s m args meth c G (gA G) cX8_notice 8 RX8) (hr : meth.sig.returnType = (some (Jvm.ClassFile.FieldType.int))) {Q : Int32 → Mem → Prop} : ∀ (n : Nat) (v4 : Int64) (v6 : Int32) (v7 : Int32) (M : Mem), wX8_notice_50 x1 x2 x3 Q n v4 v6 v7 M → Wl p l e rmX8_notice s m args below meth c (MQ below (va_Qi Q (gB G) (gA G)) args s 0 0 (gA G)) G (gA G) 8 0 0 M 50 [(0, .ref (gAD G 79)), (1, .int x1), (2, .int x2), (3, .int x3), (4, .long v4), (6, .int v6), (7, .int v7)] [] := by
  intro n
  induction n with
  | zero => intro v4 v6 v7 M h; exact h.elim
  | succ n ih =>
    intro v4 v6 v7 M h
    have h : ((x3 ≤ v7 → Q v6 M) ∧ (¬ x3 ≤ v7 → ((x1 = x2 → wX8_notice_79 x1 x2 x3 (wX8_notice_50 x1 x2 x3 Q n) Q v4 v7 v6 M) ∧ (¬ x1 = x2 → (wX8_leavesNow M (fun r10 M9 => (((lg_cmp (r10 &&& v4) (0 : Int64)) = 0 → wX8_notice_79 x1 x2 x3 (wX8_notice_50 x1 x2 x3 Q n) Q v4 v7 v6 M9) ∧ (¬ (lg_cmp (r10 &&& v4) (0 : Int64)) = 0 → wX8_notice_80 x1 x2 x3 (wX8_notice_50 x1 x2 x3 Q n) Q v4 v7 (1 : Int32) v6 M9)))))))) := h
    refine wl_iload C dX8_notice_50 6 rfl ?_
    refine wl_iload_n C dX8_notice_52 3 rfl ?_
    refine wl_icmp_ge C (tgt := 101) dX8_notice_53 (by decide) (fun hc => ?_) (fun hc => ?_)
    · have h := h.1 hc
      refine wl_iload C dX8_notice_101 5 rfl ?_
      exact wl_iret C hr h dX8_notice_103
    · have h := h.2 hc
      refine wl_iload C dX8_notice_56 5 rfl ?_
      refine wl_iload_n C dX8_notice_58 1 rfl ?_
      refine wl_iload_n C dX8_notice_59 2 rfl ?_
      refine wl_icmp_eq C (tgt := 79) dX8_notice_60 (by decide) (fun hc => ?_) (fun hc => ?_)
      · have h := h.1 hc
        refine wl_sub [0, 1, 2, 3, 4, 6] rfl ?_
        exact kX8_notice_79 l G hg hB x1 x2 x3 C hr (wX8_notice_50 x1 x2 x3 Q n) (ih) v4 v7 v6 M h
      · have h := h.2 hc
        refine wl_aload_n C dX8_notice_63 0 rfl ?_
        refine wl_callVl C (cX8_leavesNow_M l G hg hB M _) h cw_RX8_196 hd_X8_leavesNow ⟨rfl, rfl⟩ ⟨by decide, by decide⟩ (gir_8 hB kq_79) (gc_k kq_79) rfl (As := []) (rest := [.int v6]) rfl (Nat.le_of_ble_eq_true rfl) ⟨Nat.zero_le _, Nat.zero_le _⟩ rfl dX8_notice_64 (fun r10 M9 h => ?_)
        refine wl_lload C dX8_notice_67 4 rfl ?_
        refine wl_land C dX8_notice_69 ?_
        refine wl_lconst (v := 0) C dX8_notice_70 (by decide) ?_
        refine wl_lcmp C dX8_notice_71 ?_
        refine wl_if_eq C (tgt := 79) dX8_notice_72 (by decide) (fun hc => ?_) (fun hc => ?_)
        · have h := h.1 hc
          refine wl_sub [0, 1, 2, 3, 4, 6] rfl ?_
          exact kX8_notice_79 l G hg hB x1 x2 x3 C hr (wX8_notice_50 x1 x2 x3 Q n) (ih) v4 v7 v6 M9 h
        · have h := h.2 hc
          refine wl_iconst (v := 1) C dX8_notice_75 (by decide) ?_
          refine wl_goto C (tgt := 80) dX8_notice_76 (by decide) ?_
          refine wl_sub [0, 1, 2, 3, 4, 6] rfl ?_
          exact kX8_notice_80 l G hg hB x1 x2 x3 C hr (wX8_notice_50 x1 x2 x3 Q n) (ih) v4 v7 (1 : Int32) v6 M9 h
set_option maxRecDepth 100000 in
set_option maxHeartbeats 4000000 in
theorem cX8_notice_M (l : Launch) (G : gP) (hg : gIn G) (hB : gRf G) (x1 : Int32) (x2 : Int32) (x3 : Int32) (M : Mem) (Q : Int32 → Mem → Prop) : Met l yX8_notice (Cond.code yX8_notice cX8_notice 8 (some (Jvm.ClassFile.FieldType.int)) :: TB) rmX8_notice (va_Pc [.ref (gAD G 79), .int x1, .int x2, .int x3] (fun U => gS G M U ∧ wX8_notice x1 x2 x3 M Q)) (va_Qi Q (gB G) (gA G)) 0 0 (gA G) := by
  refine gMet (by decide +kernel) (show _ = Cond.code yX8_notice cX8_notice 8 (some (Jvm.ClassFile.FieldType.int)) from rfl) hg (Nat.le_of_ble_eq_true rfl) [(0, .ref (gAD G 79)), (1, .int x1), (2, .int x2), (3, .int x3)] rfl ?_
  intro p e s m args below meth c C hr h
  have h : (wX8_isLeaf x1 M (fun r2 M1 => ((r2 = 0 → wX8_notice_28 x1 x2 x3 Q M1) ∧ (¬ r2 = 0 → (wX8_isLeaf x2 M1 (fun r4 M3 => ((r4 = 0 → wX8_notice_28 x1 x2 x3 Q M3) ∧ (¬ r4 = 0 → (wX8_in x3.toInt64 (0 : Int64) (1000 : Int64) M3 (fun r6 M5 => ((¬ r6 = 0 → (wX8_layPower (0 : Int64) M5 (fun M7 => (∃ n8, wX8_notice_50 x1 x2 x3 Q n8 (((1 : Int64) <<< (x1.toInt64 &&& 63)) ||| ((1 : Int64) <<< (x2.toInt64 &&& 63))) (0 : Int32) (0 : Int32) M7)))) ∧ (r6 = 0 → wX8_notice_28 x1 x2 x3 Q M5)))))))))))) := h
  refine wl_aload_n C dX8_notice_0 0 rfl ?_
  refine wl_iload_n C dX8_notice_1 1 rfl ?_
  refine wl_callVi C (cX8_isLeaf_M l G hg hB x1 M _) h cw_RX8_155 hd_X8_isLeaf ⟨rfl, rfl⟩ ⟨by decide, by decide⟩ (gir_8 hB kq_79) (gc_k kq_79) rfl (As := [.int x1]) (rest := []) rfl (Nat.le_of_ble_eq_true rfl) ⟨Nat.zero_le _, Nat.zero_le _⟩ rfl dX8_notice_2 (fun r2 M1 h => ?_)
  refine wl_if_eq C (tgt := 28) dX8_notice_5 (by decide) (fun hc => ?_) (fun hc => ?_)
  · have h := h.1 hc
    refine wl_sub [] rfl ?_
    exact kX8_notice_28 l G hg hB x1 x2 x3 C hr M1 h
  · have h := h.2 hc
    refine wl_aload_n C dX8_notice_8 0 rfl ?_
    refine wl_iload_n C dX8_notice_9 2 rfl ?_
    refine wl_callVi C (cX8_isLeaf_M l G hg hB x2 M1 _) h cw_RX8_155 hd_X8_isLeaf ⟨rfl, rfl⟩ ⟨by decide, by decide⟩ (gir_8 hB kq_79) (gc_k kq_79) rfl (As := [.int x2]) (rest := []) rfl (Nat.le_of_ble_eq_true rfl) ⟨Nat.zero_le _, Nat.zero_le _⟩ rfl dX8_notice_10 (fun r4 M3 h => ?_)
    refine wl_if_eq C (tgt := 28) dX8_notice_13 (by decide) (fun hc => ?_) (fun hc => ?_)
    · have h := h.1 hc
      refine wl_sub [] rfl ?_
      exact kX8_notice_28 l G hg hB x1 x2 x3 C hr M3 h
    · have h := h.2 hc
      refine wl_iload_n C dX8_notice_16 3 rfl ?_
      refine wl_i2l C dX8_notice_17 ?_
      refine wl_lconst (v := 0) C dX8_notice_18 (by decide) ?_
      refine wl_ldc2 C tw_822 dX8_notice_19 ?_
      refine wl_callSi C (cX8_in_M l G hg hB x3.toInt64 (0 : Int64) (1000 : Int64) M3 _) h cw_RX8_98 hd_X8_in ⟨rfl, rfl⟩ ⟨by decide, by decide⟩ (As := [.long x3.toInt64, .long (0 : Int64), .long (1000 : Int64)]) (rest := []) rfl (Nat.le_of_ble_eq_true rfl) ⟨Nat.zero_le _, Nat.zero_le _⟩ rfl dX8_notice_22 (fun r6 M5 h => ?_)
      refine wl_if_ne C (tgt := 30) dX8_notice_25 (by decide) (fun hc => ?_) (fun hc => ?_)
      · have h := h.1 hc
        refine wl_lconst (v := 1) C dX8_notice_30 (by decide) ?_
        refine wl_iload_n C dX8_notice_31 1 rfl ?_
        refine wl_lshl C dX8_notice_32 ?_
        refine wl_lconst (v := 1) C dX8_notice_33 (by decide) ?_
        refine wl_iload_n C dX8_notice_34 2 rfl ?_
        refine wl_lshl C dX8_notice_35 ?_
        refine wl_lor C dX8_notice_36 ?_
        refine wl_lstore (i := 4) (lv' := [(4, .long (((1 : Int64) <<< (x1.toInt64 &&& 63)) ||| ((1 : Int64) <<< (x2.toInt64 &&& 63)))), (0, .ref (gAD G 79)), (1, .int x1), (2, .int x2), (3, .int x3)]) C dX8_notice_37 (by decide) rfl ?_
        refine wl_iconst (v := 0) C dX8_notice_39 (by decide) ?_
        refine wl_istore (i := 6) (lv' := [(6, .int (0 : Int32)), (4, .long (((1 : Int64) <<< (x1.toInt64 &&& 63)) ||| ((1 : Int64) <<< (x2.toInt64 &&& 63)))), (0, .ref (gAD G 79)), (1, .int x1), (2, .int x2), (3, .int x3)]) C dX8_notice_40 (by decide) rfl ?_
        refine wl_aload_n C dX8_notice_42 2 rfl ?_
        refine wl_lconst (v := 0) C dX8_notice_43 (by decide) ?_
        refine wl_callVv C (cX8_layPower_M l G hg hB (0 : Int64) M5 _) h cw_RX8_187 hd_X8_layPower ⟨rfl, rfl⟩ ⟨by decide, by decide⟩ (gir_8 hB kq_79) (gc_k kq_79) rfl (As := [.long (0 : Int64)]) (rest := []) rfl (Nat.le_of_ble_eq_true rfl) ⟨Nat.zero_le _, Nat.zero_le _⟩ rfl dX8_notice_44 (fun M7 h => ?_)
        refine wl_iconst (v := 0) C dX8_notice_47 (by decide) ?_
        refine wl_istore (i := 7) (lv' := [(7, .int (0 : Int32)), (6, .int (0 : Int32)), (4, .long (((1 : Int64) <<< (x1.toInt64 &&& 63)) ||| ((1 : Int64) <<< (x2.toInt64 &&& 63)))), (0, .ref (gAD G 79)), (1, .int x1), (2, .int x2), (3, .int x3)]) C dX8_notice_48 (by decide) rfl ?_
        refine wl_sub [3, 4, 5, 6, 2, 1, 0] rfl ?_
        obtain ⟨n8, h⟩ := h
        exact kX8_notice_50 l G hg hB x1 x2 x3 C hr n8 (((1 : Int64) <<< (x1.toInt64 &&& 63)) ||| ((1 : Int64) <<< (x2.toInt64 &&& 63))) (0 : Int32) (0 : Int32) M7 h
      · have h := h.2 hc
        refine wl_sub [] rfl ?_
        exact kX8_notice_28 l G hg hB x1 x2 x3 C hr M5 h
set_option maxRecDepth 100000 in
set_option maxHeartbeats 4000000 in
theorem kX8_pleasedBy_143 (l : Launch) (G : gP) (hg : gIn G) (hB : gRf G) (x1 : Int32) (x2 : Int32) {p : Program} {e : Env} {s : State} {m : MethodId} {args : Array Value} {below : List Frame} {meth : Method} {c : Code} (C : Cx p s m args meth c G (gA G) cX8_pleasedBy 5 RX8) (hr : meth.sig.returnType = (some (Jvm.ClassFile.FieldType.int))) {Q : Int32 → Mem → Prop} (k_106 : Int32 → Int32 → Mem → Prop) (hk_106 : ∀ (v3 : Int32) (v4 : Int32) (M : Mem), k_106 v3 v4 M → Wl p l e rmX8_pleasedBy s m args below meth c (MQ below (va_Qi Q (gB G) (gA G)) args s 0 0 (gA G)) G (gA G) 5 0 0 M 106 [(0, .ref (gAD G 79)), (3, .int v3), (4, .int v4)] []) (v4 : Int32) (s0 : Int32) (s1 : Int32) (M : Mem) (h : wX8_pleasedBy_143 x1 x2 k_106 Q v4 s0 s1 M) : Wl p l e rmX8_pleasedBy s m args below meth c (MQ below (va_Qi Q (gB G) (gA G)) args s 0 0 (gA G)) G (gA G) 5 0 0 M 143 [(0, .ref (gAD G 79)), (4, .int v4)] [.int s0, .int s1] := by
  have h : k_106 (s1 + s0) (v4 + (1 : Int32)) M := h
  refine wl_iadd C dX8_pleasedBy_143 ?_
  refine wl_istore_n (i := 3) (lv' := [(3, .int (s1 + s0)), (0, .ref (gAD G 79)), (4, .int v4)]) C dX8_pleasedBy_144 rfl (by decide) rfl ?_
  refine wl_iinc (v := (v4 + (1 : Int32))) (lv' := [(4, .int (v4 + (1 : Int32))), (3, .int (s1 + s0)), (0, .ref (gAD G 79))]) C dX8_pleasedBy_145 2 rfl (by rfl) (by decide) rfl ?_
  refine wl_goto C (tgt := 106) dX8_pleasedBy_148 (by decide) ?_
  refine wl_sub [2, 1, 0] rfl ?_
  exact hk_106 (s1 + s0) (v4 + (1 : Int32)) M h
set_option maxRecDepth 100000 in
set_option maxHeartbeats 4000000 in
theorem kX8_pleasedBy_106 (l : Launch) (G : gP) (hg : gIn G) (hB : gRf G) (x1 : Int32) (x2 : Int32) {p : Program} {e : Env} {s : State} {m : MethodId} {args : Array Value} {below : List Frame} {meth : Method} {c : Code} (C : Cx p s m args meth c G (gA G) cX8_pleasedBy 5 RX8) (hr : meth.sig.returnType = (some (Jvm.ClassFile.FieldType.int))) {Q : Int32 → Mem → Prop} : ∀ (n : Nat) (v3 : Int32) (v4 : Int32) (M : Mem), wX8_pleasedBy_106 x1 x2 Q n v3 v4 M → Wl p l e rmX8_pleasedBy s m args below meth c (MQ below (va_Qi Q (gB G) (gA G)) args s 0 0 (gA G)) G (gA G) 5 0 0 M 106 [(0, .ref (gAD G 79)), (3, .int v3), (4, .int v4)] [] := by
  intro n
  induction n with
  | zero => intro v3 v4 M h; exact h.elim
  | succ n ih =>
    intro v3 v4 M h
    have h : (wX8_lesser M (fun r9 M8 => ((r9 ≤ v4 → Q v3 M8) ∧ (¬ r9 ≤ v4 → (vp_in v4 (ln 98) ∧ (vp_in (M8 98 v4.toNatClampNeg) (ln 105) ∧ (vp_in v4 (ln 88) ∧ ((¬ (M8 105 (M8 98 v4.toNatClampNeg).toNatClampNeg) = (M8 88 v4.toNatClampNeg) → wX8_pleasedBy_143 x1 x2 (wX8_pleasedBy_106 x1 x2 Q n) Q v4 (0 : Int32) v3 M8) ∧ ((M8 105 (M8 98 v4.toNatClampNeg).toNatClampNeg) = (M8 88 v4.toNatClampNeg) → wX8_pleasedBy_143 x1 x2 (wX8_pleasedBy_106 x1 x2 Q n) Q v4 (1 : Int32) v3 M8))))))))) := h
    refine wl_iload C dX8_pleasedBy_106 2 rfl ?_
    refine wl_aload_n C dX8_pleasedBy_108 0 rfl ?_
    refine wl_callVi C (cX8_lesser_M l G hg hB M _) h cw_RX8_206 hd_X8_lesser ⟨rfl, rfl⟩ ⟨by decide, by decide⟩ (gir_8 hB kq_79) (gc_k kq_79) rfl (As := []) (rest := [.int v4]) rfl (Nat.le_of_ble_eq_true rfl) ⟨Nat.zero_le _, Nat.zero_le _⟩ rfl dX8_pleasedBy_109 (fun r9 M8 h => ?_)
    refine wl_icmp_ge C (tgt := 151) dX8_pleasedBy_112 (by decide) (fun hc => ?_) (fun hc => ?_)
    · have h := h.1 hc
      refine wl_iload_n C dX8_pleasedBy_151 1 rfl ?_
      exact wl_iret C hr h dX8_pleasedBy_152
    · have h := h.2 hc
      refine wl_iload_n C dX8_pleasedBy_115 1 rfl ?_
      refine wl_aload_n C dX8_pleasedBy_116 0 rfl ?_
      refine gf_8_30 C kq_79 (gir_8 hB kq_79) tw_623 dX8_pleasedBy_117 ?_
      refine wl_aload_n C dX8_pleasedBy_120 0 rfl ?_
      refine gf_8_22 C kq_79 (gir_8 hB kq_79) tw_615 dX8_pleasedBy_121 ?_
      refine wl_iload C dX8_pleasedBy_124 2 rfl ?_
      refine ga_ld10 C kq_98 (gir_10 hB kq_98) h.1 dX8_pleasedBy_126 ?_
      have h := h.2
      refine ga_ld10 C kq_105 (gir_10 hB kq_105) h.1 dX8_pleasedBy_127 ?_
      have h := h.2
      refine wl_aload_n C dX8_pleasedBy_128 0 rfl ?_
      refine gf_8_9 C kq_79 (gir_8 hB kq_79) tw_602 dX8_pleasedBy_129 ?_
      refine wl_iload C dX8_pleasedBy_132 2 rfl ?_
      refine ga_ld10 C kq_88 (gir_10 hB kq_88) h.1 dX8_pleasedBy_134 ?_
      have h := h.2
      refine wl_icmp_ne C (tgt := 142) dX8_pleasedBy_135 (by decide) (fun hc => ?_) (fun hc => ?_)
      · have h := h.1 hc
        refine wl_iconst (v := 0) C dX8_pleasedBy_142 (by decide) ?_
        refine wl_sub [0, 2] rfl ?_
        exact kX8_pleasedBy_143 l G hg hB x1 x2 C hr (wX8_pleasedBy_106 x1 x2 Q n) (ih) v4 (0 : Int32) v3 M8 h
      · have h := h.2 hc
        refine wl_iconst (v := 1) C dX8_pleasedBy_138 (by decide) ?_
        refine wl_goto C (tgt := 143) dX8_pleasedBy_139 (by decide) ?_
        refine wl_sub [0, 2] rfl ?_
        exact kX8_pleasedBy_143 l G hg hB x1 x2 C hr (wX8_pleasedBy_106 x1 x2 Q n) (ih) v4 (1 : Int32) v3 M8 h
set_option maxRecDepth 100000 in
set_option maxHeartbeats 4000000 in
theorem kX8_pleasedBy_78 (l : Launch) (G : gP) (hg : gIn G) (hB : gRf G) (x1 : Int32) (x2 : Int32) {p : Program} {e : Env} {s : State} {m : MethodId} {args : Array Value} {below : List Frame} {meth : Method} {c : Code} (C : Cx p s m args meth c G (gA G) cX8_pleasedBy 5 RX8) (hr : meth.sig.returnType = (some (Jvm.ClassFile.FieldType.int))) {Q : Int32 → Mem → Prop} : ∀ (n : Nat) (v3 : Int32) (M : Mem), wX8_pleasedBy_78 x1 x2 Q n v3 M → Wl p l e rmX8_pleasedBy s m args below meth c (MQ below (va_Qi Q (gB G) (gA G)) args s 0 0 (gA G)) G (gA G) 5 0 0 M 78 [(0, .ref (gAD G 79)), (1, .int x1), (3, .int v3)] [] := by
  intro n
  induction n with
  | zero => intro v3 M h; exact h.elim
  | succ n ih =>
    intro v3 M h
    have h : ((x1 ≤ v3 → (∃ n6, wX8_pleasedBy_106 x1 x2 Q n6 (0 : Int32) (0 : Int32) M)) ∧ (¬ x1 ≤ v3 → (wX8_put 105 99 M (fun M7 => wX8_pleasedBy_78 x1 x2 Q n (v3 + (1 : Int32)) M7)))) := h
    refine wl_iload_n C dX8_pleasedBy_78 2 rfl ?_
    refine wl_iload_n C dX8_pleasedBy_79 1 rfl ?_
    refine wl_icmp_ge C (tgt := 101) dX8_pleasedBy_80 (by decide) (fun hc => ?_) (fun hc => ?_)
    · have h := h.1 hc
      refine wl_iconst (v := 0) C dX8_pleasedBy_101 (by decide) ?_
      refine wl_istore_n (i := 3) (lv' := [(3, .int (0 : Int32)), (0, .ref (gAD G 79)), (1, .int x1)]) C dX8_pleasedBy_102 rfl (by decide) rfl ?_
      refine wl_iconst (v := 0) C dX8_pleasedBy_103 (by decide) ?_
      refine wl_istore (i := 4) (lv' := [(4, .int (0 : Int32)), (3, .int (0 : Int32)), (0, .ref (gAD G 79)), (1, .int x1)]) C dX8_pleasedBy_104 (by decide) rfl ?_
      refine wl_sub [2, 1, 0] rfl ?_
      obtain ⟨n6, h⟩ := h
      exact kX8_pleasedBy_106 l G hg hB x1 x2 C hr n6 (0 : Int32) (0 : Int32) M h
    · have h := h.2 hc
      refine wl_aload_n C dX8_pleasedBy_83 0 rfl ?_
      refine wl_aload_n C dX8_pleasedBy_84 0 rfl ?_
      refine gf_8_30 C kq_79 (gir_8 hB kq_79) tw_623 dX8_pleasedBy_85 ?_
      refine wl_aload_n C dX8_pleasedBy_88 0 rfl ?_
      refine gf_8_23 C kq_79 (gir_8 hB kq_79) tw_616 dX8_pleasedBy_89 ?_
      refine wl_callVv C (cX8_put_M l G hg hB 105 99 kq_105 kq_99 M _) h cw_RX8_177 hd_X8_put ⟨rfl, rfl⟩ ⟨by decide, by decide⟩ (gir_8 hB kq_79) (gc_k kq_79) rfl (As := [.ref (gAD G 105), .ref (gAD G 99)]) (rest := []) rfl (Nat.le_of_ble_eq_true rfl) ⟨Nat.zero_le _, Nat.zero_le _⟩ rfl dX8_pleasedBy_92 (fun M7 h => ?_)
      refine wl_iinc (v := (v3 + (1 : Int32))) (lv' := [(3, .int (v3 + (1 : Int32))), (0, .ref (gAD G 79)), (1, .int x1)]) C dX8_pleasedBy_95 2 rfl (by rfl) (by decide) rfl ?_
      refine wl_goto C (tgt := 78) dX8_pleasedBy_98 (by decide) ?_
      refine wl_sub [1, 2, 0] rfl ?_
      exact ih (v3 + (1 : Int32)) M7 h
set_option maxRecDepth 100000 in
set_option maxHeartbeats 4000000 in
theorem kX8_pleasedBy_38 (l : Launch) (G : gP) (hg : gIn G) (hB : gRf G) (x1 : Int32) (x2 : Int32) {p : Program} {e : Env} {s : State} {m : MethodId} {args : Array Value} {below : List Frame} {meth : Method} {c : Code} (C : Cx p s m args meth c G (gA G) cX8_pleasedBy 5 RX8) (hr : meth.sig.returnType = (some (Jvm.ClassFile.FieldType.int))) {Q : Int32 → Mem → Prop} : ∀ (n : Nat) (v3 : Int32) (M : Mem), wX8_pleasedBy_38 x1 x2 Q n v3 M → Wl p l e rmX8_pleasedBy s m args below meth c (MQ below (va_Qi Q (gB G) (gA G)) args s 0 0 (gA G)) G (gA G) 5 0 0 M 38 [(0, .ref (gAD G 79)), (1, .int x1), (3, .int v3)] [] := by
  intro n
  induction n with
  | zero => intro v3 M h; exact h.elim
  | succ n ih =>
    intro v3 M h
    have h : (vp_in (0 : Int32) (ln 82) ∧ (((M 82 (0 : Int32).toNatClampNeg) ≤ v3 → (∃ n4, wX8_pleasedBy_78 x1 x2 Q n4 (1 : Int32) M)) ∧ (¬ (M 82 (0 : Int32).toNatClampNeg) ≤ v3 → (vp_in (0 : Int32) (ln 83) ∧ (vp_in (0 : Int32) (ln 84) ∧ (wX8_goRead 105 (0 : Int32) (M 83 (0 : Int32).toNatClampNeg) (M 84 (0 : Int32).toNatClampNeg) v3 M (fun M5 => wX8_pleasedBy_38 x1 x2 Q n (v3 + (1 : Int32)) M5))))))) := h
    refine wl_iload_n C dX8_pleasedBy_38 2 rfl ?_
    refine wl_aload_n C dX8_pleasedBy_39 0 rfl ?_
    refine gf_8_3 C kq_79 (gir_8 hB kq_79) tw_596 dX8_pleasedBy_40 ?_
    refine wl_iconst (v := 0) C dX8_pleasedBy_43 (by decide) ?_
    refine ga_ld10 C kq_82 (gir_10 hB kq_82) h.1 dX8_pleasedBy_44 ?_
    have h := h.2
    refine wl_icmp_ge C (tgt := 76) dX8_pleasedBy_45 (by decide) (fun hc => ?_) (fun hc => ?_)
    · have h := h.1 hc
      refine wl_iconst (v := 1) C dX8_pleasedBy_76 (by decide) ?_
      refine wl_istore_n (i := 3) (lv' := [(3, .int (1 : Int32)), (0, .ref (gAD G 79)), (1, .int x1)]) C dX8_pleasedBy_77 rfl (by decide) rfl ?_
      refine wl_sub [1, 2, 0] rfl ?_
      obtain ⟨n4, h⟩ := h
      exact kX8_pleasedBy_78 l G hg hB x1 x2 C hr n4 (1 : Int32) M h
    · have h := h.2 hc
      refine wl_aload_n C dX8_pleasedBy_48 0 rfl ?_
      refine wl_aload_n C dX8_pleasedBy_49 0 rfl ?_
      refine gf_8_30 C kq_79 (gir_8 hB kq_79) tw_623 dX8_pleasedBy_50 ?_
      refine wl_iconst (v := 0) C dX8_pleasedBy_53 (by decide) ?_
      refine wl_aload_n C dX8_pleasedBy_54 0 rfl ?_
      refine gf_8_4 C kq_79 (gir_8 hB kq_79) tw_597 dX8_pleasedBy_55 ?_
      refine wl_iconst (v := 0) C dX8_pleasedBy_58 (by decide) ?_
      refine ga_ld10 C kq_83 (gir_10 hB kq_83) h.1 dX8_pleasedBy_59 ?_
      have h := h.2
      refine wl_aload_n C dX8_pleasedBy_60 0 rfl ?_
      refine gf_8_5 C kq_79 (gir_8 hB kq_79) tw_598 dX8_pleasedBy_61 ?_
      refine wl_iconst (v := 0) C dX8_pleasedBy_64 (by decide) ?_
      refine ga_ld10 C kq_84 (gir_10 hB kq_84) h.1 dX8_pleasedBy_65 ?_
      have h := h.2
      refine wl_iload_n C dX8_pleasedBy_66 2 rfl ?_
      refine wl_callVv C (cX8_goRead_M l G hg hB 105 (0 : Int32) (M 83 (0 : Int32).toNatClampNeg) (M 84 (0 : Int32).toNatClampNeg) v3 kq_105 M _) h cw_RX8_158 hd_X8_goRead ⟨rfl, rfl⟩ ⟨by decide, by decide⟩ (gir_8 hB kq_79) (gc_k kq_79) rfl (As := [.ref (gAD G 105), .int (0 : Int32), .int (M 83 (0 : Int32).toNatClampNeg), .int (M 84 (0 : Int32).toNatClampNeg), .int v3]) (rest := []) rfl (Nat.le_of_ble_eq_true rfl) ⟨Nat.zero_le _, Nat.zero_le _⟩ rfl dX8_pleasedBy_67 (fun M5 h => ?_)
      refine wl_iinc (v := (v3 + (1 : Int32))) (lv' := [(3, .int (v3 + (1 : Int32))), (0, .ref (gAD G 79)), (1, .int x1)]) C dX8_pleasedBy_70 2 rfl (by rfl) (by decide) rfl ?_
      refine wl_goto C (tgt := 38) dX8_pleasedBy_73 (by decide) ?_
      refine wl_sub [1, 2, 0] rfl ?_
      exact ih (v3 + (1 : Int32)) M5 h
set_option maxRecDepth 100000 in
set_option maxHeartbeats 4000000 in
theorem kX8_pleasedBy_2 (l : Launch) (G : gP) (hg : gIn G) (hB : gRf G) (x1 : Int32) (x2 : Int32) {p : Program} {e : Env} {s : State} {m : MethodId} {args : Array Value} {below : List Frame} {meth : Method} {c : Code} (C : Cx p s m args meth c G (gA G) cX8_pleasedBy 5 RX8) (hr : meth.sig.returnType = (some (Jvm.ClassFile.FieldType.int))) {Q : Int32 → Mem → Prop} : ∀ (n : Nat) (v3 : Int32) (M : Mem), wX8_pleasedBy_2 x1 x2 Q n v3 M → Wl p l e rmX8_pleasedBy s m args below meth c (MQ below (va_Qi Q (gB G) (gA G)) args s 0 0 (gA G)) G (gA G) 5 0 0 M 2 [(0, .ref (gAD G 79)), (1, .int x1), (2, .int x2), (3, .int v3)] [] := by
  intro n
  induction n with
  | zero => intro v3 M h; exact h.elim
  | succ n ih =>
    intro v3 M h
    have h : (((40 : Int32) ≤ v3 → (wX8_layBelow 105 (0 : Int32) x2 M (fun M2 => (∃ n3, wX8_pleasedBy_38 x1 x2 Q n3 (1 : Int32) M2)))) ∧ (¬ (40 : Int32) ≤ v3 → (vp_in v3 (ln 89) ∧ (vp_in v3 (ln 105) ∧ wX8_pleasedBy_2 x1 x2 Q n (v3 + (1 : Int32)) (mu M 105 v3.toNatClampNeg (M 89 v3.toNatClampNeg)))))) := h
    refine wl_iload_n C dX8_pleasedBy_2 3 rfl ?_
    refine wl_bipush (v := 40) C dX8_pleasedBy_3 (by decide) ?_
    refine wl_icmp_ge C (tgt := 26) dX8_pleasedBy_5 (by decide) (fun hc => ?_) (fun hc => ?_)
    · have h := h.1 hc
      refine wl_aload_n C dX8_pleasedBy_26 0 rfl ?_
      refine wl_aload_n C dX8_pleasedBy_27 0 rfl ?_
      refine gf_8_30 C kq_79 (gir_8 hB kq_79) tw_623 dX8_pleasedBy_28 ?_
      refine wl_iconst (v := 0) C dX8_pleasedBy_31 (by decide) ?_
      refine wl_iload_n C dX8_pleasedBy_32 2 rfl ?_
      refine wl_callVv C (cX8_layBelow_M l G hg hB 105 (0 : Int32) x2 kq_105 M _) h cw_RX8_151 hd_X8_layBelow ⟨rfl, rfl⟩ ⟨by decide, by decide⟩ (gir_8 hB kq_79) (gc_k kq_79) rfl (As := [.ref (gAD G 105), .int (0 : Int32), .int x2]) (rest := []) rfl (Nat.le_of_ble_eq_true rfl) ⟨Nat.zero_le _, Nat.zero_le _⟩ rfl dX8_pleasedBy_33 (fun M2 h => ?_)
      refine wl_iconst (v := 1) C dX8_pleasedBy_36 (by decide) ?_
      refine wl_istore_n (i := 3) (lv' := [(3, .int (1 : Int32)), (0, .ref (gAD G 79)), (1, .int x1), (2, .int x2)]) C dX8_pleasedBy_37 rfl (by decide) rfl ?_
      refine wl_sub [1, 2, 0] rfl ?_
      obtain ⟨n3, h⟩ := h
      exact kX8_pleasedBy_38 l G hg hB x1 x2 C hr n3 (1 : Int32) M2 h
    · have h := h.2 hc
      refine wl_aload_n C dX8_pleasedBy_8 0 rfl ?_
      refine gf_8_30 C kq_79 (gir_8 hB kq_79) tw_623 dX8_pleasedBy_9 ?_
      refine wl_iload_n C dX8_pleasedBy_12 3 rfl ?_
      refine wl_aload_n C dX8_pleasedBy_13 0 rfl ?_
      refine gf_8_10 C kq_79 (gir_8 hB kq_79) tw_603 dX8_pleasedBy_14 ?_
      refine wl_iload_n C dX8_pleasedBy_17 3 rfl ?_
      refine ga_ld10 C kq_89 (gir_10 hB kq_89) h.1 dX8_pleasedBy_18 ?_
      have h := h.2
      refine ga_st10 C kq_105 (gir_10 hB kq_105) h.1 dX8_pleasedBy_19 ?_
      have h := h.2
      refine wl_iinc (v := (v3 + (1 : Int32))) (lv' := [(3, .int (v3 + (1 : Int32))), (0, .ref (gAD G 79)), (1, .int x1), (2, .int x2)]) C dX8_pleasedBy_20 3 rfl (by rfl) (by decide) rfl ?_
      refine wl_goto C (tgt := 2) dX8_pleasedBy_23 (by decide) ?_
      refine wl_sub [1, 2, 3, 0] rfl ?_
      exact ih (v3 + (1 : Int32)) (mu M 105 v3.toNatClampNeg (M 89 v3.toNatClampNeg)) h
set_option maxRecDepth 100000 in
set_option maxHeartbeats 4000000 in
theorem cX8_pleasedBy_M (l : Launch) (G : gP) (hg : gIn G) (hB : gRf G) (x1 : Int32) (x2 : Int32) (M : Mem) (Q : Int32 → Mem → Prop) : Met l yX8_pleasedBy (Cond.code yX8_pleasedBy cX8_pleasedBy 5 (some (Jvm.ClassFile.FieldType.int)) :: TB) rmX8_pleasedBy (va_Pc [.ref (gAD G 79), .int x1, .int x2] (fun U => gS G M U ∧ wX8_pleasedBy x1 x2 M Q)) (va_Qi Q (gB G) (gA G)) 0 0 (gA G) := by
  refine gMet (by decide +kernel) (show _ = Cond.code yX8_pleasedBy cX8_pleasedBy 5 (some (Jvm.ClassFile.FieldType.int)) from rfl) hg (Nat.le_of_ble_eq_true rfl) [(0, .ref (gAD G 79)), (1, .int x1), (2, .int x2)] rfl ?_
  intro p e s m args below meth c C hr h
  have h : (∃ n1, wX8_pleasedBy_2 x1 x2 Q n1 (0 : Int32) M) := h
  refine wl_iconst (v := 0) C dX8_pleasedBy_0 (by decide) ?_
  refine wl_istore_n (i := 3) (lv' := [(3, .int (0 : Int32)), (0, .ref (gAD G 79)), (1, .int x1), (2, .int x2)]) C dX8_pleasedBy_1 rfl (by decide) rfl ?_
  refine wl_sub [1, 2, 3, 0] rfl ?_
  obtain ⟨n1, h⟩ := h
  exact kX8_pleasedBy_2 l G hg hB x1 x2 C hr n1 (0 : Int32) M h
set_option maxRecDepth 100000 in
set_option maxHeartbeats 4000000 in
theorem kX8_pleased_22 (l : Launch) (G : gP) (hg : gIn G) (hB : gRf G) (x1 : Int32) (x2 : Int32) {p : Program} {e : Env} {s : State} {m : MethodId} {args : Array Value} {below : List Frame} {meth : Method} {c : Code} (C : Cx p s m args meth c G (gA G) cX8_pleased 7 RX8) (hr : meth.sig.returnType = (some (Jvm.ClassFile.FieldType.int))) {Q : Int32 → Mem → Prop} (M : Mem) (h : wX8_pleased_22 x1 x2 Q M) : Wl p l e rmX8_pleased s m args below meth c (MQ below (va_Qi Q (gB G) (gA G)) args s 0 0 (gA G)) G (gA G) 7 0 0 M 22 [] [] := by
  have h : Q (-1 : Int32) M := h
  refine wl_iconst (v := (-1)) C dX8_pleased_22 (by decide) ?_
  exact wl_iret C hr h dX8_pleased_23
set_option maxRecDepth 100000 in
set_option maxHeartbeats 4000000 in
theorem kX8_pleased_81 (l : Launch) (G : gP) (hg : gIn G) (hB : gRf G) (x1 : Int32) (x2 : Int32) {p : Program} {e : Env} {s : State} {m : MethodId} {args : Array Value} {below : List Frame} {meth : Method} {c : Code} (C : Cx p s m args meth c G (gA G) cX8_pleased 7 RX8) (hr : meth.sig.returnType = (some (Jvm.ClassFile.FieldType.int))) {Q : Int32 → Mem → Prop} (k_33 : Int32 → Int32 → Int32 → Mem → Prop) (hk_33 : ∀ (v3 : Int32) (v4 : Int32) (v5 : Int32) (M : Mem), k_33 v3 v4 v5 M → Wl p l e rmX8_pleased s m args below meth c (MQ below (va_Qi Q (gB G) (gA G)) args s 0 0 (gA G)) G (gA G) 7 0 0 M 33 [(0, .ref (gAD G 79)), (1, .int x1), (2, .int x2), (3, .int v3), (4, .int v4), (5, .int v5)] []) (v3 : Int32) (v5 : Int32) (s0 : Int32) (M : Mem) (h : wX8_pleased_81 x1 x2 k_33 Q v3 v5 s0 M) : Wl p l e rmX8_pleased s m args below meth c (MQ below (va_Qi Q (gB G) (gA G)) args s 0 0 (gA G)) G (gA G) 7 0 0 M 81 [(0, .ref (gAD G 79)), (1, .int x1), (2, .int x2), (3, .int v3), (5, .int v5)] [.int s0] := by
  have h : k_33 v3 s0 (v5 + (1 : Int32)) M := h
  refine wl_istore (i := 4) (lv' := [(4, .int s0), (0, .ref (gAD G 79)), (1, .int x1), (2, .int x2), (3, .int v3), (5, .int v5)]) C dX8_pleased_81 (by decide) rfl ?_
  refine wl_iinc (v := (v5 + (1 : Int32))) (lv' := [(5, .int (v5 + (1 : Int32))), (4, .int s0), (0, .ref (gAD G 79)), (1, .int x1), (2, .int x2), (3, .int v3)]) C dX8_pleased_83 5 rfl (by rfl) (by decide) rfl ?_
  refine wl_goto C (tgt := 33) dX8_pleased_86 (by decide) ?_
  refine wl_sub [2, 3, 4, 5, 1, 0] rfl ?_
  exact hk_33 v3 s0 (v5 + (1 : Int32)) M h
set_option maxRecDepth 100000 in
set_option maxHeartbeats 4000000 in
theorem kX8_pleased_66 (l : Launch) (G : gP) (hg : gIn G) (hB : gRf G) (x1 : Int32) (x2 : Int32) {p : Program} {e : Env} {s : State} {m : MethodId} {args : Array Value} {below : List Frame} {meth : Method} {c : Code} (C : Cx p s m args meth c G (gA G) cX8_pleased 7 RX8) (hr : meth.sig.returnType = (some (Jvm.ClassFile.FieldType.int))) {Q : Int32 → Mem → Prop} (k_33 : Int32 → Int32 → Int32 → Mem → Prop) (hk_33 : ∀ (v3 : Int32) (v4 : Int32) (v5 : Int32) (M : Mem), k_33 v3 v4 v5 M → Wl p l e rmX8_pleased s m args below meth c (MQ below (va_Qi Q (gB G) (gA G)) args s 0 0 (gA G)) G (gA G) 7 0 0 M 33 [(0, .ref (gAD G 79)), (1, .int x1), (2, .int x2), (3, .int v3), (4, .int v4), (5, .int v5)] []) (v4 : Int32) (v5 : Int32) (v6 : Int32) (s0 : Int32) (M : Mem) (h : wX8_pleased_66 x1 x2 k_33 Q v4 v5 v6 s0 M) : Wl p l e rmX8_pleased s m args below meth c (MQ below (va_Qi Q (gB G) (gA G)) args s 0 0 (gA G)) G (gA G) 7 0 0 M 66 [(0, .ref (gAD G 79)), (1, .int x1), (2, .int x2), (4, .int v4), (5, .int v5), (6, .int v6)] [.int s0] := by
  have h : ((v6 ≤ v4 → wX8_pleased_81 x1 x2 (k_33) Q s0 v5 v4 M) ∧ (¬ v6 ≤ v4 → wX8_pleased_81 x1 x2 (k_33) Q s0 v5 v6 M)) := h
  refine wl_istore_n (i := 3) (lv' := [(3, .int s0), (0, .ref (gAD G 79)), (1, .int x1), (2, .int x2), (4, .int v4), (5, .int v5), (6, .int v6)]) C dX8_pleased_66 rfl (by decide) rfl ?_
  refine wl_iload C dX8_pleased_67 6 rfl ?_
  refine wl_iload C dX8_pleased_69 4 rfl ?_
  refine wl_icmp_le C (tgt := 79) dX8_pleased_71 (by decide) (fun hc => ?_) (fun hc => ?_)
  · have h := h.1 hc
    refine wl_iload C dX8_pleased_79 4 rfl ?_
    refine wl_sub [1, 2, 3, 0, 5] rfl ?_
    exact kX8_pleased_81 l G hg hB x1 x2 C hr (k_33) (hk_33) s0 v5 v4 M h
  · have h := h.2 hc
    refine wl_iload C dX8_pleased_74 6 rfl ?_
    refine wl_goto C (tgt := 81) dX8_pleased_76 (by decide) ?_
    refine wl_sub [1, 2, 3, 0, 5] rfl ?_
    exact kX8_pleased_81 l G hg hB x1 x2 C hr (k_33) (hk_33) s0 v5 v6 M h
set_option maxRecDepth 100000 in
set_option maxHeartbeats 4000000 in
theorem kX8_pleased_99 (l : Launch) (G : gP) (hg : gIn G) (hB : gRf G) (x1 : Int32) (x2 : Int32) {p : Program} {e : Env} {s : State} {m : MethodId} {args : Array Value} {below : List Frame} {meth : Method} {c : Code} (C : Cx p s m args meth c G (gA G) cX8_pleased 7 RX8) (hr : meth.sig.returnType = (some (Jvm.ClassFile.FieldType.int))) {Q : Int32 → Mem → Prop} (s0 : Int32) (M : Mem) (h : wX8_pleased_99 x1 x2 Q s0 M) : Wl p l e rmX8_pleased s m args below meth c (MQ below (va_Qi Q (gB G) (gA G)) args s 0 0 (gA G)) G (gA G) 7 0 0 M 99 [] [.int s0] := by
  have h : Q s0 M := h
  exact wl_iret C hr h dX8_pleased_99
set_option maxRecDepth 100000 in
set_option maxHeartbeats 4000000 in
theorem kX8_pleased_33 (l : Launch) (G : gP) (hg : gIn G) (hB : gRf G) (x1 : Int32) (x2 : Int32) {p : Program} {e : Env} {s : State} {m : MethodId} {args : Array Value} {below : List Frame} {meth : Method} {c : Code} (C : Cx p s m args meth c G (gA G) cX8_pleased 7 RX8) (hr : meth.sig.returnType = (some (Jvm.ClassFile.FieldType.int))) {Q : Int32 → Mem → Prop} : ∀ (n : Nat) (v3 : Int32) (v4 : Int32) (v5 : Int32) (M : Mem), wX8_pleased_33 x1 x2 Q n v3 v4 v5 M → Wl p l e rmX8_pleased s m args below meth c (MQ below (va_Qi Q (gB G) (gA G)) args s 0 0 (gA G)) G (gA G) 7 0 0 M 33 [(0, .ref (gAD G 79)), (1, .int x1), (2, .int x2), (3, .int v3), (4, .int v4), (5, .int v5)] [] := by
  intro n
  induction n with
  | zero => intro v3 v4 v5 M h; exact h.elim
  | succ n ih =>
    intro v3 v4 v5 M h
    have h : (vp_in (0 : Int32) (ln 81) ∧ (((M 81 (0 : Int32).toNatClampNeg) ≤ v5 → ((¬ x2 = 0 → wX8_pleased_99 x1 x2 Q v4 M) ∧ (x2 = 0 → wX8_pleased_99 x1 x2 Q v3 M))) ∧ (¬ (M 81 (0 : Int32).toNatClampNeg) ≤ v5 → (wX8_pleasedBy x1 v5 M (fun r7 M6 => ((r7 ≤ v4 → wX8_pleased_66 x1 x2 (wX8_pleased_33 x1 x2 Q n) Q v4 v5 r7 v3 M6) ∧ (¬ r7 ≤ v4 → wX8_pleased_66 x1 x2 (wX8_pleased_33 x1 x2 Q n) Q v4 v5 r7 v5 M6))))))) := h
    refine wl_iload C dX8_pleased_33 5 rfl ?_
    refine wl_aload_n C dX8_pleased_35 0 rfl ?_
    refine gf_8_2 C kq_79 (gir_8 hB kq_79) tw_595 dX8_pleased_36 ?_
    refine wl_iconst (v := 0) C dX8_pleased_39 (by decide) ?_
    refine ga_ld10 C kq_81 (gir_10 hB kq_81) h.1 dX8_pleased_40 ?_
    have h := h.2
    refine wl_icmp_ge C (tgt := 89) dX8_pleased_41 (by decide) (fun hc => ?_) (fun hc => ?_)
    · have h := h.1 hc
      refine wl_iload_n C dX8_pleased_89 2 rfl ?_
      refine wl_if_ne C (tgt := 97) dX8_pleased_90 (by decide) (fun hc => ?_) (fun hc => ?_)
      · have h := h.1 hc
        refine wl_iload C dX8_pleased_97 4 rfl ?_
        refine wl_sub [] rfl ?_
        exact kX8_pleased_99 l G hg hB x1 x2 C hr v4 M h
      · have h := h.2 hc
        refine wl_iload_n C dX8_pleased_93 3 rfl ?_
        refine wl_goto C (tgt := 99) dX8_pleased_94 (by decide) ?_
        refine wl_sub [] rfl ?_
        exact kX8_pleased_99 l G hg hB x1 x2 C hr v3 M h
    · have h := h.2 hc
      refine wl_aload_n C dX8_pleased_44 0 rfl ?_
      refine wl_iload_n C dX8_pleased_45 1 rfl ?_
      refine wl_iload C dX8_pleased_46 5 rfl ?_
      refine wl_callVi C (cX8_pleasedBy_M l G hg hB x1 v5 M _) h cw_RX8_231 hd_X8_pleasedBy ⟨rfl, rfl⟩ ⟨by decide, by decide⟩ (gir_8 hB kq_79) (gc_k kq_79) rfl (As := [.int x1, .int v5]) (rest := []) rfl (Nat.le_of_ble_eq_true rfl) ⟨Nat.zero_le _, Nat.zero_le _⟩ rfl dX8_pleased_48 (fun r7 M6 h => ?_)
      refine wl_istore (i := 6) (lv' := [(6, .int r7), (0, .ref (gAD G 79)), (1, .int x1), (2, .int x2), (3, .int v3), (4, .int v4), (5, .int v5)]) C dX8_pleased_51 (by decide) rfl ?_
      refine wl_iload C dX8_pleased_53 0 rfl ?_
      refine wl_iload C dX8_pleased_55 5 rfl ?_
      refine wl_icmp_le C (tgt := 65) dX8_pleased_57 (by decide) (fun hc => ?_) (fun hc => ?_)
      · have h := h.1 hc
        refine wl_iload_n C dX8_pleased_65 4 rfl ?_
        refine wl_sub [1, 2, 3, 5, 6, 0] rfl ?_
        exact kX8_pleased_66 l G hg hB x1 x2 C hr (wX8_pleased_33 x1 x2 Q n) (ih) v4 v5 r7 v3 M6 h
      · have h := h.2 hc
        refine wl_iload C dX8_pleased_60 6 rfl ?_
        refine wl_goto C (tgt := 66) dX8_pleased_62 (by decide) ?_
        refine wl_sub [1, 2, 3, 5, 6, 0] rfl ?_
        exact kX8_pleased_66 l G hg hB x1 x2 C hr (wX8_pleased_33 x1 x2 Q n) (ih) v4 v5 r7 v5 M6 h
set_option maxRecDepth 100000 in
set_option maxHeartbeats 4000000 in
theorem cX8_pleased_M (l : Launch) (G : gP) (hg : gIn G) (hB : gRf G) (x1 : Int32) (x2 : Int32) (M : Mem) (Q : Int32 → Mem → Prop) : Met l yX8_pleased (Cond.code yX8_pleased cX8_pleased 7 (some (Jvm.ClassFile.FieldType.int)) :: TB) rmX8_pleased (va_Pc [.ref (gAD G 79), .int x1, .int x2] (fun U => gS G M U ∧ wX8_pleased x1 x2 M Q)) (va_Qi Q (gB G) (gA G)) 0 0 (gA G) := by
  refine gMet (by decide +kernel) (show _ = Cond.code yX8_pleased cX8_pleased 7 (some (Jvm.ClassFile.FieldType.int)) from rfl) hg (Nat.le_of_ble_eq_true rfl) [(0, .ref (gAD G 79)), (1, .int x1), (2, .int x2)] rfl ?_
  intro p e s m args below meth c C hr h
  have h : (wX8_in x1.toInt64 (1 : Int64) (100 : Int64) M (fun r2 M1 => ((r2 = 0 → wX8_pleased_22 x1 x2 Q M1) ∧ (¬ r2 = 0 → (wX8_in x2.toInt64 (0 : Int64) (1 : Int64) M1 (fun r4 M3 => ((¬ r4 = 0 → (∃ n5, wX8_pleased_33 x1 x2 Q n5 (0 : Int32) (-4 : Int32) (0 : Int32) M3)) ∧ (r4 = 0 → wX8_pleased_22 x1 x2 Q M3)))))))) := h
  refine wl_iload_n C dX8_pleased_0 1 rfl ?_
  refine wl_i2l C dX8_pleased_1 ?_
  refine wl_lconst (v := 1) C dX8_pleased_2 (by decide) ?_
  refine wl_ldc2 C tw_827 dX8_pleased_3 ?_
  refine wl_callSi C (cX8_in_M l G hg hB x1.toInt64 (1 : Int64) (100 : Int64) M _) h cw_RX8_98 hd_X8_in ⟨rfl, rfl⟩ ⟨by decide, by decide⟩ (As := [.long x1.toInt64, .long (1 : Int64), .long (100 : Int64)]) (rest := []) rfl (Nat.le_of_ble_eq_true rfl) ⟨Nat.zero_le _, Nat.zero_le _⟩ rfl dX8_pleased_6 (fun r2 M1 h => ?_)
  refine wl_if_eq C (tgt := 22) dX8_pleased_9 (by decide) (fun hc => ?_) (fun hc => ?_)
  · have h := h.1 hc
    refine wl_sub [] rfl ?_
    exact kX8_pleased_22 l G hg hB x1 x2 C hr M1 h
  · have h := h.2 hc
    refine wl_iload_n C dX8_pleased_12 2 rfl ?_
    refine wl_i2l C dX8_pleased_13 ?_
    refine wl_lconst (v := 0) C dX8_pleased_14 (by decide) ?_
    refine wl_lconst (v := 1) C dX8_pleased_15 (by decide) ?_
    refine wl_callSi C (cX8_in_M l G hg hB x2.toInt64 (0 : Int64) (1 : Int64) M1 _) h cw_RX8_98 hd_X8_in ⟨rfl, rfl⟩ ⟨by decide, by decide⟩ (As := [.long x2.toInt64, .long (0 : Int64), .long (1 : Int64)]) (rest := []) rfl (Nat.le_of_ble_eq_true rfl) ⟨Nat.zero_le _, Nat.zero_le _⟩ rfl dX8_pleased_16 (fun r4 M3 h => ?_)
    refine wl_if_ne C (tgt := 24) dX8_pleased_19 (by decide) (fun hc => ?_) (fun hc => ?_)
    · have h := h.1 hc
      refine wl_iconst (v := 0) C dX8_pleased_24 (by decide) ?_
      refine wl_istore_n (i := 3) (lv' := [(3, .int (0 : Int32)), (0, .ref (gAD G 79)), (1, .int x1), (2, .int x2)]) C dX8_pleased_25 rfl (by decide) rfl ?_
      refine wl_bipush (v := (-4)) C dX8_pleased_26 (by decide) ?_
      refine wl_istore (i := 4) (lv' := [(4, .int (-4 : Int32)), (3, .int (0 : Int32)), (0, .ref (gAD G 79)), (1, .int x1), (2, .int x2)]) C dX8_pleased_28 (by decide) rfl ?_
      refine wl_iconst (v := 0) C dX8_pleased_30 (by decide) ?_
      refine wl_istore (i := 5) (lv' := [(5, .int (0 : Int32)), (4, .int (-4 : Int32)), (3, .int (0 : Int32)), (0, .ref (gAD G 79)), (1, .int x1), (2, .int x2)]) C dX8_pleased_31 (by decide) rfl ?_
      refine wl_sub [3, 4, 5, 2, 1, 0] rfl ?_
      obtain ⟨n5, h⟩ := h
      exact kX8_pleased_33 l G hg hB x1 x2 C hr n5 (0 : Int32) (-4 : Int32) (0 : Int32) M3 h
    · have h := h.2 hc
      refine wl_sub [] rfl ?_
      exact kX8_pleased_22 l G hg hB x1 x2 C hr M3 h
set_option maxRecDepth 100000 in
set_option maxHeartbeats 4000000 in
theorem kX8_copy_2 (l : Launch) (G : gP) (hg : gIn G) (hB : gRf G) (x1 : Int32) (x2 : Int32) {p : Program} {e : Env} {s : State} {m : MethodId} {args : Array Value} {below : List Frame} {meth : Method} {c : Code} (C : Cx p s m args meth c G (gA G) cX8_copy 4 RX8) (hr : meth.sig.returnType = none) {Q : Mem → Prop} : ∀ (n : Nat) (v3 : Int32) (M : Mem), wX8_copy_2 x1 x2 Q n v3 M → Wl p l e rmX8_copy s m args below meth c (MQ below (va_Qv Q (gB G) (gA G)) args s 0 0 (gA G)) G (gA G) 4 0 0 M 2 [(0, .ref (gAD G 79)), (1, .int x1), (2, .int x2), (3, .int v3)] [] := by
  intro n
  induction n with
  | zero => intro v3 M h; exact h.elim
  | succ n ih =>
    intro v3 M h
    have h : (((40 : Int32) ≤ v3 → (vp_in x1 (ln 91) ∧ (vp_in x2 (ln 91) ∧ (vp_in x1 (ln 92) ∧ (vp_in x2 (ln 92) ∧ Q (mu (mu M 91 x2.toNatClampNeg (M 91 x1.toNatClampNeg)) 92 x2.toNatClampNeg ((mu M 91 x2.toNatClampNeg (M 91 x1.toNatClampNeg)) 92 x1.toNatClampNeg))))))) ∧ (¬ (40 : Int32) ≤ v3 → (vp_in (((40 : Int32) * x1) + v3) (ln 90) ∧ (vp_in (((40 : Int32) * x2) + v3) (ln 90) ∧ wX8_copy_2 x1 x2 Q n (v3 + (1 : Int32)) (mu M 90 (((40 : Int32) * x2) + v3).toNatClampNeg (M 90 (((40 : Int32) * x1) + v3).toNatClampNeg)))))) := h
    refine wl_iload_n C dX8_copy_2 3 rfl ?_
    refine wl_bipush (v := 40) C dX8_copy_3 (by decide) ?_
    refine wl_icmp_ge C (tgt := 36) dX8_copy_5 (by decide) (fun hc => ?_) (fun hc => ?_)
    · have h := h.1 hc
      refine wl_aload_n C dX8_copy_36 0 rfl ?_
      refine gf_8_12 C kq_79 (gir_8 hB kq_79) tw_605 dX8_copy_37 ?_
      refine wl_iload_n C dX8_copy_40 2 rfl ?_
      refine wl_aload_n C dX8_copy_41 0 rfl ?_
      refine gf_8_12 C kq_79 (gir_8 hB kq_79) tw_605 dX8_copy_42 ?_
      refine wl_iload_n C dX8_copy_45 1 rfl ?_
      refine ga_ld10 C kq_91 (gir_10 hB kq_91) h.1 dX8_copy_46 ?_
      have h := h.2
      refine ga_st10 C kq_91 (gir_10 hB kq_91) h.1 dX8_copy_47 ?_
      have h := h.2
      refine wl_aload_n C dX8_copy_48 0 rfl ?_
      refine gf_8_13 C kq_79 (gir_8 hB kq_79) tw_606 dX8_copy_49 ?_
      refine wl_iload_n C dX8_copy_52 2 rfl ?_
      refine wl_aload_n C dX8_copy_53 0 rfl ?_
      refine gf_8_13 C kq_79 (gir_8 hB kq_79) tw_606 dX8_copy_54 ?_
      refine wl_iload_n C dX8_copy_57 1 rfl ?_
      refine ga_ld10 C kq_92 (gir_10 hB kq_92) h.1 dX8_copy_58 ?_
      have h := h.2
      refine ga_st10 C kq_92 (gir_10 hB kq_92) h.1 dX8_copy_59 ?_
      have h := h.2
      exact wl_vret C hr h dX8_copy_60
    · have h := h.2 hc
      refine wl_aload_n C dX8_copy_8 0 rfl ?_
      refine gf_8_11 C kq_79 (gir_8 hB kq_79) tw_604 dX8_copy_9 ?_
      refine wl_bipush (v := 40) C dX8_copy_12 (by decide) ?_
      refine wl_iload_n C dX8_copy_14 2 rfl ?_
      refine wl_imul C dX8_copy_15 ?_
      refine wl_iload_n C dX8_copy_16 3 rfl ?_
      refine wl_iadd C dX8_copy_17 ?_
      refine wl_aload_n C dX8_copy_18 0 rfl ?_
      refine gf_8_11 C kq_79 (gir_8 hB kq_79) tw_604 dX8_copy_19 ?_
      refine wl_bipush (v := 40) C dX8_copy_22 (by decide) ?_
      refine wl_iload_n C dX8_copy_24 1 rfl ?_
      refine wl_imul C dX8_copy_25 ?_
      refine wl_iload_n C dX8_copy_26 3 rfl ?_
      refine wl_iadd C dX8_copy_27 ?_
      refine ga_ld10 C kq_90 (gir_10 hB kq_90) h.1 dX8_copy_28 ?_
      have h := h.2
      refine ga_st10 C kq_90 (gir_10 hB kq_90) h.1 dX8_copy_29 ?_
      have h := h.2
      refine wl_iinc (v := (v3 + (1 : Int32))) (lv' := [(3, .int (v3 + (1 : Int32))), (0, .ref (gAD G 79)), (1, .int x1), (2, .int x2)]) C dX8_copy_30 3 rfl (by rfl) (by decide) rfl ?_
      refine wl_goto C (tgt := 2) dX8_copy_33 (by decide) ?_
      refine wl_sub [1, 2, 3, 0] rfl ?_
      exact ih (v3 + (1 : Int32)) (mu M 90 (((40 : Int32) * x2) + v3).toNatClampNeg (M 90 (((40 : Int32) * x1) + v3).toNatClampNeg)) h
set_option maxRecDepth 100000 in
set_option maxHeartbeats 4000000 in
theorem cX8_copy_M (l : Launch) (G : gP) (hg : gIn G) (hB : gRf G) (x1 : Int32) (x2 : Int32) (M : Mem) (Q : Mem → Prop) : Met l yX8_copy (Cond.code yX8_copy cX8_copy 4 none :: TB) rmX8_copy (va_Pc [.ref (gAD G 79), .int x1, .int x2] (fun U => gS G M U ∧ wX8_copy x1 x2 M Q)) (va_Qv Q (gB G) (gA G)) 0 0 (gA G) := by
  refine gMet (by decide +kernel) (show _ = Cond.code yX8_copy cX8_copy 4 none from rfl) hg (Nat.le_of_ble_eq_true rfl) [(0, .ref (gAD G 79)), (1, .int x1), (2, .int x2)] rfl ?_
  intro p e s m args below meth c C hr h
  have h : (∃ n1, wX8_copy_2 x1 x2 Q n1 (0 : Int32) M) := h
  refine wl_iconst (v := 0) C dX8_copy_0 (by decide) ?_
  refine wl_istore_n (i := 3) (lv' := [(3, .int (0 : Int32)), (0, .ref (gAD G 79)), (1, .int x1), (2, .int x2)]) C dX8_copy_1 rfl (by decide) rfl ?_
  refine wl_sub [1, 2, 3, 0] rfl ?_
  obtain ⟨n1, h⟩ := h
  exact kX8_copy_2 l G hg hB x1 x2 C hr n1 (0 : Int32) M h
set_option maxRecDepth 100000 in
set_option maxHeartbeats 4000000 in
theorem cX8_keep_M (l : Launch) (G : gP) (hg : gIn G) (hB : gRf G) (M : Mem) (Q : Int32 → Mem → Prop) : Met l yX8_keep (Cond.code yX8_keep cX8_keep 1 (some (Jvm.ClassFile.FieldType.int)) :: TB) rmX8_keep (va_Pc [.ref (gAD G 79)] (fun U => gS G M U ∧ wX8_keep M Q)) (va_Qi Q (gB G) (gA G)) 0 0 (gA G) := by
  refine gMet (by decide +kernel) (show _ = Cond.code yX8_keep cX8_keep 1 (some (Jvm.ClassFile.FieldType.int)) from rfl) hg (Nat.le_of_ble_eq_true rfl) [(0, .ref (gAD G 79))] rfl ?_
  intro p e s m args below meth c C hr h
  have h : ((¬ (M 79 14) = (2 : Int32) → (wX8_copy (0 : Int32) ((mu M 79 14 ((M 79 14) + (1 : Int32))) 79 14) (mu M 79 14 ((M 79 14) + (1 : Int32))) (fun M1 => Q (M1 79 14) M1))) ∧ ((M 79 14) = (2 : Int32) → Q (-3 : Int32) M)) := h
  refine wl_aload_n C dX8_keep_0 0 rfl ?_
  refine gf_8_14 C kq_79 (gir_8 hB kq_79) tw_607 dX8_keep_1 ?_
  refine wl_iconst (v := 2) C dX8_keep_4 (by decide) ?_
  refine wl_icmp_ne C (tgt := 11) dX8_keep_5 (by decide) (fun hc => ?_) (fun hc => ?_)
  · have h := h.1 hc
    refine wl_aload_n C dX8_keep_11 0 rfl ?_
    refine wl_dup C dX8_keep_12 rfl ?_
    refine gf_8_14 C kq_79 (gir_8 hB kq_79) tw_607 dX8_keep_13 ?_
    refine wl_iconst (v := 1) C dX8_keep_16 (by decide) ?_
    refine wl_iadd C dX8_keep_17 ?_
    refine gp_8_14 C kq_79 (gir_8 hB kq_79) tw_607 dX8_keep_18 ?_
    refine wl_aload_n C dX8_keep_21 0 rfl ?_
    refine wl_iconst (v := 0) C dX8_keep_22 (by decide) ?_
    refine wl_aload_n C dX8_keep_23 0 rfl ?_
    refine gf_8_14 C kq_79 (gir_8 hB kq_79) tw_607 dX8_keep_24 ?_
    refine wl_callVv C (cX8_copy_M l G hg hB (0 : Int32) ((mu M 79 14 ((M 79 14) + (1 : Int32))) 79 14) (mu M 79 14 ((M 79 14) + (1 : Int32))) _) h cw_RX8_234 hd_X8_copy ⟨rfl, rfl⟩ ⟨by decide, by decide⟩ (gir_8 hB kq_79) (gc_k kq_79) rfl (As := [.int (0 : Int32), .int ((mu M 79 14 ((M 79 14) + (1 : Int32))) 79 14)]) (rest := []) rfl (Nat.le_of_ble_eq_true rfl) ⟨Nat.zero_le _, Nat.zero_le _⟩ rfl dX8_keep_27 (fun M1 h => ?_)
    refine wl_aload_n C dX8_keep_30 0 rfl ?_
    refine gf_8_14 C kq_79 (gir_8 hB kq_79) tw_607 dX8_keep_31 ?_
    exact wl_iret C hr h dX8_keep_34
  · have h := h.2 hc
    refine wl_bipush (v := (-3)) C dX8_keep_8 (by decide) ?_
    exact wl_iret C hr h dX8_keep_10
set_option maxRecDepth 100000 in
set_option maxHeartbeats 4000000 in
theorem cX8_back_M (l : Launch) (G : gP) (hg : gIn G) (hB : gRf G) (M : Mem) (Q : Int32 → Mem → Prop) : Met l yX8_back (Cond.code yX8_back cX8_back 1 (some (Jvm.ClassFile.FieldType.int)) :: TB) rmX8_back (va_Pc [.ref (gAD G 79)] (fun U => gS G M U ∧ wX8_back M Q)) (va_Qi Q (gB G) (gA G)) 0 0 (gA G) := by
  refine gMet (by decide +kernel) (show _ = Cond.code yX8_back cX8_back 1 (some (Jvm.ClassFile.FieldType.int)) from rfl) hg (Nat.le_of_ble_eq_true rfl) [(0, .ref (gAD G 79))] rfl ?_
  intro p e s m args below meth c C hr h
  have h : ((¬ (M 79 14) = 0 → (wX8_copy (M 79 14) (0 : Int32) M (fun M1 => Q ((mu M1 79 14 ((M1 79 14) - (1 : Int32))) 79 14) (mu M1 79 14 ((M1 79 14) - (1 : Int32)))))) ∧ ((M 79 14) = 0 → Q (-2 : Int32) M)) := h
  refine wl_aload_n C dX8_back_0 0 rfl ?_
  refine gf_8_14 C kq_79 (gir_8 hB kq_79) tw_607 dX8_back_1 ?_
  refine wl_if_ne C (tgt := 10) dX8_back_4 (by decide) (fun hc => ?_) (fun hc => ?_)
  · have h := h.1 hc
    refine wl_aload_n C dX8_back_10 0 rfl ?_
    refine wl_aload_n C dX8_back_11 0 rfl ?_
    refine gf_8_14 C kq_79 (gir_8 hB kq_79) tw_607 dX8_back_12 ?_
    refine wl_iconst (v := 0) C dX8_back_15 (by decide) ?_
    refine wl_callVv C (cX8_copy_M l G hg hB (M 79 14) (0 : Int32) M _) h cw_RX8_234 hd_X8_copy ⟨rfl, rfl⟩ ⟨by decide, by decide⟩ (gir_8 hB kq_79) (gc_k kq_79) rfl (As := [.int (M 79 14), .int (0 : Int32)]) (rest := []) rfl (Nat.le_of_ble_eq_true rfl) ⟨Nat.zero_le _, Nat.zero_le _⟩ rfl dX8_back_16 (fun M1 h => ?_)
    refine wl_aload_n C dX8_back_19 0 rfl ?_
    refine wl_dup C dX8_back_20 rfl ?_
    refine gf_8_14 C kq_79 (gir_8 hB kq_79) tw_607 dX8_back_21 ?_
    refine wl_iconst (v := 1) C dX8_back_24 (by decide) ?_
    refine wl_isub C dX8_back_25 ?_
    refine gp_8_14 C kq_79 (gir_8 hB kq_79) tw_607 dX8_back_26 ?_
    refine wl_aload_n C dX8_back_29 0 rfl ?_
    refine gf_8_14 C kq_79 (gir_8 hB kq_79) tw_607 dX8_back_30 ?_
    exact wl_iret C hr h dX8_back_33
  · have h := h.2 hc
    refine wl_bipush (v := (-2)) C dX8_back_7 (by decide) ?_
    exact wl_iret C hr h dX8_back_9
set_option maxRecDepth 100000 in
set_option maxHeartbeats 4000000 in
theorem cX8_count_M (l : Launch) (G : gP) (hg : gIn G) (hB : gRf G) (x1 : Int32) (M : Mem) (Q : Int32 → Mem → Prop) : Met l yX8_count (Cond.code yX8_count cX8_count 2 (some (Jvm.ClassFile.FieldType.int)) :: TB) rmX8_count (va_Pc [.ref (gAD G 79), .int x1] (fun U => gS G M U ∧ wX8_count x1 M Q)) (va_Qi Q (gB G) (gA G)) 0 0 (gA G) := by
  refine gMet (by decide +kernel) (show _ = Cond.code yX8_count cX8_count 2 (some (Jvm.ClassFile.FieldType.int)) from rfl) hg (Nat.le_of_ble_eq_true rfl) [(0, .ref (gAD G 79)), (1, .int x1)] rfl ?_
  intro p e s m args below meth c C hr h
  have h : ((x1 = (0 : Int32) → (vp_in (0 : Int32) (ln 81) ∧ Q (M 81 (0 : Int32).toNatClampNeg) M)) ∧ (¬ x1 = (0 : Int32) → ((x1 = (1 : Int32) → (vp_in (0 : Int32) (ln 82) ∧ Q (M 82 (0 : Int32).toNatClampNeg) M)) ∧ (¬ x1 = (1 : Int32) → ((x1 = (2 : Int32) → (vp_in (0 : Int32) (ln 87) ∧ Q (M 87 (0 : Int32).toNatClampNeg) M)) ∧ (¬ x1 = (2 : Int32) → ((x1 = (3 : Int32) → (vp_in (0 : Int32) (ln 91) ∧ Q (M 91 (0 : Int32).toNatClampNeg) M)) ∧ (¬ x1 = (3 : Int32) → ((x1 = (4 : Int32) → (vp_in (0 : Int32) (ln 92) ∧ Q (M 92 (0 : Int32).toNatClampNeg) M)) ∧ (¬ x1 = (4 : Int32) → ((x1 = (5 : Int32) → Q (M 79 15) M) ∧ (¬ x1 = (5 : Int32) → ((x1 = (6 : Int32) → Q (M 79 14) M) ∧ (¬ x1 = (6 : Int32) → ((x1 = (7 : Int32) → Q (M 79 0) M) ∧ (¬ x1 = (7 : Int32) → Q (-1 : Int32) M)))))))))))))))) := h
  refine wl_iload_n C dX8_count_0 1 rfl ?_
  by_cases ht0 : x1 = (0 : Int32)
  · have h := h.1 ht0
    refine wl_tabIn C (tgt := 48) (0 : Int32) ht0 dX8_count_1 (by decide) (by decide) rfl (by decide) ?_
    refine wl_aload_n C dX8_count_48 0 rfl ?_
    refine gf_8_2 C kq_79 (gir_8 hB kq_79) tw_595 dX8_count_49 ?_
    refine wl_iconst (v := 0) C dX8_count_52 (by decide) ?_
    refine ga_ld10 C kq_81 (gir_10 hB kq_81) h.1 dX8_count_53 ?_
    have h := h.2
    exact wl_iret C hr h dX8_count_54
  · have h := h.2 ht0
    by_cases ht1 : x1 = (1 : Int32)
    · have h := h.1 ht1
      refine wl_tabIn C (tgt := 55) (1 : Int32) ht1 dX8_count_1 (by decide) (by decide) rfl (by decide) ?_
      refine wl_aload_n C dX8_count_55 0 rfl ?_
      refine gf_8_3 C kq_79 (gir_8 hB kq_79) tw_596 dX8_count_56 ?_
      refine wl_iconst (v := 0) C dX8_count_59 (by decide) ?_
      refine ga_ld10 C kq_82 (gir_10 hB kq_82) h.1 dX8_count_60 ?_
      have h := h.2
      exact wl_iret C hr h dX8_count_61
    · have h := h.2 ht1
      by_cases ht2 : x1 = (2 : Int32)
      · have h := h.1 ht2
        refine wl_tabIn C (tgt := 62) (2 : Int32) ht2 dX8_count_1 (by decide) (by decide) rfl (by decide) ?_
        refine wl_aload_n C dX8_count_62 0 rfl ?_
        refine gf_8_8 C kq_79 (gir_8 hB kq_79) tw_601 dX8_count_63 ?_
        refine wl_iconst (v := 0) C dX8_count_66 (by decide) ?_
        refine ga_ld10 C kq_87 (gir_10 hB kq_87) h.1 dX8_count_67 ?_
        have h := h.2
        exact wl_iret C hr h dX8_count_68
      · have h := h.2 ht2
        by_cases ht3 : x1 = (3 : Int32)
        · have h := h.1 ht3
          refine wl_tabIn C (tgt := 69) (3 : Int32) ht3 dX8_count_1 (by decide) (by decide) rfl (by decide) ?_
          refine wl_aload_n C dX8_count_69 0 rfl ?_
          refine gf_8_12 C kq_79 (gir_8 hB kq_79) tw_605 dX8_count_70 ?_
          refine wl_iconst (v := 0) C dX8_count_73 (by decide) ?_
          refine ga_ld10 C kq_91 (gir_10 hB kq_91) h.1 dX8_count_74 ?_
          have h := h.2
          exact wl_iret C hr h dX8_count_75
        · have h := h.2 ht3
          by_cases ht4 : x1 = (4 : Int32)
          · have h := h.1 ht4
            refine wl_tabIn C (tgt := 76) (4 : Int32) ht4 dX8_count_1 (by decide) (by decide) rfl (by decide) ?_
            refine wl_aload_n C dX8_count_76 0 rfl ?_
            refine gf_8_13 C kq_79 (gir_8 hB kq_79) tw_606 dX8_count_77 ?_
            refine wl_iconst (v := 0) C dX8_count_80 (by decide) ?_
            refine ga_ld10 C kq_92 (gir_10 hB kq_92) h.1 dX8_count_81 ?_
            have h := h.2
            exact wl_iret C hr h dX8_count_82
          · have h := h.2 ht4
            by_cases ht5 : x1 = (5 : Int32)
            · have h := h.1 ht5
              refine wl_tabIn C (tgt := 83) (5 : Int32) ht5 dX8_count_1 (by decide) (by decide) rfl (by decide) ?_
              refine wl_aload_n C dX8_count_83 0 rfl ?_
              refine gf_8_15 C kq_79 (gir_8 hB kq_79) tw_608 dX8_count_84 ?_
              exact wl_iret C hr h dX8_count_87
            · have h := h.2 ht5
              by_cases ht6 : x1 = (6 : Int32)
              · have h := h.1 ht6
                refine wl_tabIn C (tgt := 88) (6 : Int32) ht6 dX8_count_1 (by decide) (by decide) rfl (by decide) ?_
                refine wl_aload_n C dX8_count_88 0 rfl ?_
                refine gf_8_14 C kq_79 (gir_8 hB kq_79) tw_607 dX8_count_89 ?_
                exact wl_iret C hr h dX8_count_92
              · have h := h.2 ht6
                by_cases ht7 : x1 = (7 : Int32)
                · have h := h.1 ht7
                  refine wl_tabIn C (tgt := 93) (7 : Int32) ht7 dX8_count_1 (by decide) (by decide) rfl (by decide) ?_
                  refine wl_aload_n C dX8_count_93 0 rfl ?_
                  refine gf_8_0 C kq_79 (gir_8 hB kq_79) tw_593 dX8_count_94 ?_
                  exact wl_iret C hr h dX8_count_97
                · have h := h.2 ht7
                  refine wl_tabOut C (tgt := 98) dX8_count_1 (by have qht0 := tb_ne ht0 (show Int32.toInt 0 = 0 from rfl); have qht1 := tb_ne ht1 (show Int32.toInt 1 = 1 from rfl); have qht2 := tb_ne ht2 (show Int32.toInt 2 = 2 from rfl); have qht3 := tb_ne ht3 (show Int32.toInt 3 = 3 from rfl); have qht4 := tb_ne ht4 (show Int32.toInt 4 = 4 from rfl); have qht5 := tb_ne ht5 (show Int32.toInt 5 = 5 from rfl); have qht6 := tb_ne ht6 (show Int32.toInt 6 = 6 from rfl); have qht7 := tb_ne ht7 (show Int32.toInt 7 = 7 from rfl); omega) (by decide) ?_
                  refine wl_iconst (v := (-1)) C dX8_count_98 (by decide) ?_
                  exact wl_iret C hr h dX8_count_99
