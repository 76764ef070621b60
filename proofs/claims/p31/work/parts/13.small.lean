theorem cw_RL_10 : ∀ w ∈ wsV RL 10 RX7 yX7_write (Cond.code yX7_write cX7_write 4 (some (Jvm.ClassFile.FieldType.int)) :: []), w ∈ TB := List.forall_mem_cons.mpr ⟨tw_245, List.forall_mem_cons.mpr ⟨tw_246, List.forall_mem_cons.mpr ⟨tw_247, List.forall_mem_cons.mpr ⟨tw_1, List.forall_mem_cons.mpr ⟨tw_248, fun _ h => absurd h List.not_mem_nil⟩⟩⟩⟩⟩
theorem cw_RL_16 : ∀ w ∈ va_wsS RL 16 yL_number (Cond.code yL_number cL_number 3 (some (Jvm.ClassFile.FieldType.boolean)) :: []), w ∈ TB := List.forall_mem_cons.mpr ⟨tw_482, List.forall_mem_cons.mpr ⟨tw_483, List.forall_mem_cons.mpr ⟨tw_0, List.forall_mem_cons.mpr ⟨tw_484, fun _ h => absurd h List.not_mem_nil⟩⟩⟩⟩
theorem hd_L_number : yL_number.cls ≠ "java/lang/invoke/MethodHandle" ∧ yL_number.cls ≠ "java/lang/invoke/VarHandle" ∧ (parseMethodDescriptor yL_number.desc).map (fun d => d.parameters.length) = some 3 := by decide +kernel
theorem hd_X7_write : yX7_write.cls = RX7 ∧ yX7_write.cls ≠ "java/lang/invoke/MethodHandle" ∧ yX7_write.cls ≠ "java/lang/invoke/VarHandle" ∧ (parseMethodDescriptor yX7_write.desc).map (fun d => d.parameters.length) = some 2 := by decide +kernel
abbrev rmL_number : Room := { frames := 3, cells := 0, slots := 0, locals := 69 }
def wL_number_53 (x1 : Int32) (x2 : Int32) (Q : Int32 → Mem → Prop) (s0 : Int32) (M : Mem) : Prop := ((s0 = 0 ∨ s0 = 1) ∧ Q s0 M)
def wL_number_52 (x1 : Int32) (x2 : Int32) (Q : Int32 → Mem → Prop) (M : Mem) : Prop := wL_number_53 x1 x2 Q (0 : Int32) M
def wL_number_22 (x1 : Int32) (x2 : Int32) (Q : Int32 → Mem → Prop) (M : Mem) : Prop := (¬ (10 : Int32) = 0 ∧ (wX7_write (1 : Int32) (((48 : Int32) + (x1 - (x1 / (10 : Int32)) * (10 : Int32))).toInt64) M (fun r4 M3 => ((r4 ≤ 0 → wL_number_52 x1 x2 Q M3) ∧ (¬ r4 ≤ 0 → (wX7_write (1 : Int32) x2.toInt64 M3 (fun r6 M5 => ((r6 ≤ 0 → wL_number_52 x1 x2 Q M5) ∧ (¬ r6 ≤ 0 → wL_number_53 x1 x2 Q (1 : Int32) M5)))))))))
def wL_number (x1 : Int32) (x2 : Int32) (M : Mem) (Q : Int32 → Mem → Prop) : Prop := ((x1 < (10 : Int32) → wL_number_22 x1 x2 Q M) ∧ (¬ x1 < (10 : Int32) → (¬ (10 : Int32) = 0 ∧ (wX7_write (1 : Int32) (((48 : Int32) + (x1 / (10 : Int32))).toInt64) M (fun r2 M1 => ((r2 ≤ 0 → wL_number_52 x1 x2 Q M1) ∧ (¬ r2 ≤ 0 → wL_number_22 x1 x2 Q M1)))))))
abbrev rmL_one : Room := { frames := 4, cells := 0, slots := 0, locals := 91 }
def wL_one_25 (x1 : Int32) (x2 : Int32) (Q : Int32 → Mem → Prop) (s0 : Int32) (M : Mem) : Prop := ((s0 = 0 ∨ s0 = 1) ∧ Q s0 M)
def wL_one_24 (x1 : Int32) (x2 : Int32) (Q : Int32 → Mem → Prop) (M : Mem) : Prop := wL_one_25 x1 x2 Q (0 : Int32) M
def wL_one (x1 : Int32) (x2 : Int32) (M : Mem) (Q : Int32 → Mem → Prop) : Prop := (wX7_write (1 : Int32) x1.toInt64 M (fun r2 M1 => ((r2 ≤ 0 → wL_one_24 x1 x2 Q M1) ∧ (¬ r2 ≤ 0 → (wL_number x2 (59 : Int32) M1 (fun r4 M3 => ((r4 = 0 → wL_one_24 x1 x2 Q M3) ∧ (¬ r4 = 0 → wL_one_25 x1 x2 Q (1 : Int32) M3))))))))
abbrev rmL_two : Room := { frames := 4, cells := 0, slots := 0, locals := 91 }
def wL_two_35 (x1 : Int32) (x2 : Int32) (x3 : Int32) (Q : Int32 → Mem → Prop) (s0 : Int32) (M : Mem) : Prop := ((s0 = 0 ∨ s0 = 1) ∧ Q s0 M)
def wL_two_34 (x1 : Int32) (x2 : Int32) (x3 : Int32) (Q : Int32 → Mem → Prop) (M : Mem) : Prop := wL_two_35 x1 x2 x3 Q (0 : Int32) M
def wL_two (x1 : Int32) (x2 : Int32) (x3 : Int32) (M : Mem) (Q : Int32 → Mem → Prop) : Prop := (wX7_write (1 : Int32) x1.toInt64 M (fun r2 M1 => ((r2 ≤ 0 → wL_two_34 x1 x2 x3 Q M1) ∧ (¬ r2 ≤ 0 → (wL_number x2 (44 : Int32) M1 (fun r4 M3 => ((r4 = 0 → wL_two_34 x1 x2 x3 Q M3) ∧ (¬ r4 = 0 → (wL_number x3 (59 : Int32) M3 (fun r6 M5 => ((r6 = 0 → wL_two_34 x1 x2 x3 Q M5) ∧ (¬ r6 = 0 → wL_two_35 x1 x2 x3 Q (1 : Int32) M5))))))))))))
set_option maxRecDepth 100000 in
set_option maxHeartbeats 4000000 in
theorem kL_number_53 (l : Launch) (G : gP) (hg : gIn G) (hA : gCl G) (x1 : Int32) (x2 : Int32) {p : Program} {e : Env} {s : State} {m : MethodId} {args : Array Value} {below : List Frame} {meth : Method} {c : Code} (C : Cx p s m args meth c G (gA G) cL_number 3 RL) (hr : meth.sig.returnType = (some (Jvm.ClassFile.FieldType.boolean))) {Q : Int32 → Mem → Prop} (s0 : Int32) (M : Mem) (h : wL_number_53 x1 x2 Q s0 M) : Wl p l e rmL_number s m args below meth c (MQ below (va_Qi Q (gB G) (gA G)) args s 0 0 (gA G)) G (gA G) 3 0 0 M 53 [] [.int s0] := by
  have h : ((s0 = 0 ∨ s0 = 1) ∧ Q s0 M) := h
  exact wl_zret C hr h.1 h.2 dL_number_53
set_option maxRecDepth 100000 in
set_option maxHeartbeats 4000000 in
theorem kL_number_52 (l : Launch) (G : gP) (hg : gIn G) (hA : gCl G) (x1 : Int32) (x2 : Int32) {p : Program} {e : Env} {s : State} {m : MethodId} {args : Array Value} {below : List Frame} {meth : Method} {c : Code} (C : Cx p s m args meth c G (gA G) cL_number 3 RL) (hr : meth.sig.returnType = (some (Jvm.ClassFile.FieldType.boolean))) {Q : Int32 → Mem → Prop} (M : Mem) (h : wL_number_52 x1 x2 Q M) : Wl p l e rmL_number s m args below meth c (MQ below (va_Qi Q (gB G) (gA G)) args s 0 0 (gA G)) G (gA G) 3 0 0 M 52 [] [] := by
  have h : wL_number_53 x1 x2 Q (0 : Int32) M := h
  refine wl_iconst (v := 0) C dL_number_52 (by decide) ?_
  refine wl_sub [] rfl ?_
  exact kL_number_53 l G hg hA x1 x2 C hr (0 : Int32) M h
set_option maxRecDepth 100000 in
set_option maxHeartbeats 4000000 in
theorem kL_number_22 (l : Launch) (G : gP) (hg : gIn G) (hA : gCl G) (x1 : Int32) (x2 : Int32) {p : Program} {e : Env} {s : State} {m : MethodId} {args : Array Value} {below : List Frame} {meth : Method} {c : Code} (C : Cx p s m args meth c G (gA G) cL_number 3 RL) (hr : meth.sig.returnType = (some (Jvm.ClassFile.FieldType.boolean))) {Q : Int32 → Mem → Prop} (M : Mem) (h : wL_number_22 x1 x2 Q M) : Wl p l e rmL_number s m args below meth c (MQ below (va_Qi Q (gB G) (gA G)) args s 0 0 (gA G)) G (gA G) 3 0 0 M 22 [(0, .ref (gAD G 0)), (1, .int x1), (2, .int x2)] [] := by
  have h : (¬ (10 : Int32) = 0 ∧ (wX7_write (1 : Int32) (((48 : Int32) + (x1 - (x1 / (10 : Int32)) * (10 : Int32))).toInt64) M (fun r4 M3 => ((r4 ≤ 0 → wL_number_52 x1 x2 Q M3) ∧ (¬ r4 ≤ 0 → (wX7_write (1 : Int32) x2.toInt64 M3 (fun r6 M5 => ((r6 ≤ 0 → wL_number_52 x1 x2 Q M5) ∧ (¬ r6 ≤ 0 → wL_number_53 x1 x2 Q (1 : Int32) M5))))))))) := h
  refine wl_aload_n C dL_number_22 0 rfl ?_
  refine wl_iconst (v := 1) C dL_number_23 (by decide) ?_
  refine wl_bipush (v := 48) C dL_number_24 (by decide) ?_
  refine wl_iload_n C dL_number_26 1 rfl ?_
  refine wl_bipush (v := 10) C dL_number_27 (by decide) ?_
  refine wl_irem C dL_number_29 h.1 ?_
  have h := h.2
  refine wl_iadd C dL_number_30 ?_
  refine wl_i2l C dL_number_31 ?_
  refine wl_callVi C (cX7_write_M l G hg hA (1 : Int32) (((48 : Int32) + (x1 - (x1 / (10 : Int32)) * (10 : Int32))).toInt64) M _) h cw_RL_10 hd_X7_write ⟨rfl, rfl⟩ ⟨by decide, by decide⟩ (gic_7 hA kq_0) (gc_k kq_0) rfl (As := [.int (1 : Int32), .long ((48 : Int32) + (x1 - (x1 / (10 : Int32)) * (10 : Int32))).toInt64]) (rest := []) rfl (Nat.le_of_ble_eq_true rfl) ⟨Nat.zero_le _, Nat.zero_le _⟩ rfl dL_number_32 (fun r4 M3 h => ?_)
  refine wl_if_le C (tgt := 52) dL_number_35 (by decide) (fun hc => ?_) (fun hc => ?_)
  · have h := h.1 hc
    refine wl_sub [] rfl ?_
    exact kL_number_52 l G hg hA x1 x2 C hr M3 h
  · have h := h.2 hc
    refine wl_aload_n C dL_number_38 0 rfl ?_
    refine wl_iconst (v := 1) C dL_number_39 (by decide) ?_
    refine wl_iload_n C dL_number_40 2 rfl ?_
    refine wl_i2l C dL_number_41 ?_
    refine wl_callVi C (cX7_write_M l G hg hA (1 : Int32) x2.toInt64 M3 _) h cw_RL_10 hd_X7_write ⟨rfl, rfl⟩ ⟨by decide, by decide⟩ (gic_7 hA kq_0) (gc_k kq_0) rfl (As := [.int (1 : Int32), .long x2.toInt64]) (rest := []) rfl (Nat.le_of_ble_eq_true rfl) ⟨Nat.zero_le _, Nat.zero_le _⟩ rfl dL_number_42 (fun r6 M5 h => ?_)
    refine wl_if_le C (tgt := 52) dL_number_45 (by decide) (fun hc => ?_) (fun hc => ?_)
    · have h := h.1 hc
      refine wl_sub [] rfl ?_
      exact kL_number_52 l G hg hA x1 x2 C hr M5 h
    · have h := h.2 hc
      refine wl_iconst (v := 1) C dL_number_48 (by decide) ?_
      refine wl_goto C (tgt := 53) dL_number_49 (by decide) ?_
      refine wl_sub [] rfl ?_
      exact kL_number_53 l G hg hA x1 x2 C hr (1 : Int32) M5 h
set_option maxRecDepth 100000 in
set_option maxHeartbeats 4000000 in
theorem cL_number_M (l : Launch) (G : gP) (hg : gIn G) (hA : gCl G) (x1 : Int32) (x2 : Int32) (M : Mem) (Q : Int32 → Mem → Prop) : Met l yL_number (Cond.code yL_number cL_number 3 (some (Jvm.ClassFile.FieldType.boolean)) :: TB) rmL_number (va_Pc [.ref (gAD G 0), .int x1, .int x2] (fun U => gS G M U ∧ wL_number x1 x2 M Q)) (va_Qi Q (gB G) (gA G)) 0 0 (gA G) := by
  refine gMet (by decide +kernel) (show _ = Cond.code yL_number cL_number 3 (some (Jvm.ClassFile.FieldType.boolean)) from rfl) hg (Nat.le_of_ble_eq_true rfl) [(0, .ref (gAD G 0)), (1, .int x1), (2, .int x2)] rfl ?_
  intro p e s m args below meth c C hr h
  have h : ((x1 < (10 : Int32) → wL_number_22 x1 x2 Q M) ∧ (¬ x1 < (10 : Int32) → (¬ (10 : Int32) = 0 ∧ (wX7_write (1 : Int32) (((48 : Int32) + (x1 / (10 : Int32))).toInt64) M (fun r2 M1 => ((r2 ≤ 0 → wL_number_52 x1 x2 Q M1) ∧ (¬ r2 ≤ 0 → wL_number_22 x1 x2 Q M1))))))) := h
  refine wl_iload_n C dL_number_0 1 rfl ?_
  refine wl_bipush (v := 10) C dL_number_1 (by decide) ?_
  refine wl_icmp_lt C (tgt := 22) dL_number_3 (by decide) (fun hc => ?_) (fun hc => ?_)
  · have h := h.1 hc
    refine wl_sub [0, 1, 2] rfl ?_
    exact kL_number_22 l G hg hA x1 x2 C hr M h
  · have h := h.2 hc
    refine wl_aload_n C dL_number_6 0 rfl ?_
    refine wl_iconst (v := 1) C dL_number_7 (by decide) ?_
    refine wl_bipush (v := 48) C dL_number_8 (by decide) ?_
    refine wl_iload_n C dL_number_10 1 rfl ?_
    refine wl_bipush (v := 10) C dL_number_11 (by decide) ?_
    refine wl_idiv C dL_number_13 h.1 ?_
    have h := h.2
    refine wl_iadd C dL_number_14 ?_
    refine wl_i2l C dL_number_15 ?_
    refine wl_callVi C (cX7_write_M l G hg hA (1 : Int32) (((48 : Int32) + (x1 / (10 : Int32))).toInt64) M _) h cw_RL_10 hd_X7_write ⟨rfl, rfl⟩ ⟨by decide, by decide⟩ (gic_7 hA kq_0) (gc_k kq_0) rfl (As := [.int (1 : Int32), .long ((48 : Int32) + (x1 / (10 : Int32))).toInt64]) (rest := []) rfl (Nat.le_of_ble_eq_true rfl) ⟨Nat.zero_le _, Nat.zero_le _⟩ rfl dL_number_16 (fun r2 M1 h => ?_)
    refine wl_if_le C (tgt := 52) dL_number_19 (by decide) (fun hc => ?_) (fun hc => ?_)
    · have h := h.1 hc
      refine wl_sub [] rfl ?_
      exact kL_number_52 l G hg hA x1 x2 C hr M1 h
    · have h := h.2 hc
      refine wl_sub [0, 1, 2] rfl ?_
      exact kL_number_22 l G hg hA x1 x2 C hr M1 h
set_option maxRecDepth 100000 in
set_option maxHeartbeats 4000000 in
theorem kL_one_25 (l : Launch) (G : gP) (hg : gIn G) (hA : gCl G) (x1 : Int32) (x2 : Int32) {p : Program} {e : Env} {s : State} {m : MethodId} {args : Array Value} {below : List Frame} {meth : Method} {c : Code} (C : Cx p s m args meth c G (gA G) cL_one 3 RL) (hr : meth.sig.returnType = (some (Jvm.ClassFile.FieldType.boolean))) {Q : Int32 → Mem → Prop} (s0 : Int32) (M : Mem) (h : wL_one_25 x1 x2 Q s0 M) : Wl p l e rmL_one s m args below meth c (MQ below (va_Qi Q (gB G) (gA G)) args s 0 0 (gA G)) G (gA G) 3 0 0 M 25 [] [.int s0] := by
  have h : ((s0 = 0 ∨ s0 = 1) ∧ Q s0 M) := h
  exact wl_zret C hr h.1 h.2 dL_one_25
set_option maxRecDepth 100000 in
set_option maxHeartbeats 4000000 in
theorem kL_one_24 (l : Launch) (G : gP) (hg : gIn G) (hA : gCl G) (x1 : Int32) (x2 : Int32) {p : Program} {e : Env} {s : State} {m : MethodId} {args : Array Value} {below : List Frame} {meth : Method} {c : Code} (C : Cx p s m args meth c G (gA G) cL_one 3 RL) (hr : meth.sig.returnType = (some (Jvm.ClassFile.FieldType.boolean))) {Q : Int32 → Mem → Prop} (M : Mem) (h : wL_one_24 x1 x2 Q M) : Wl p l e rmL_one s m args below meth c (MQ below (va_Qi Q (gB G) (gA G)) args s 0 0 (gA G)) G (gA G) 3 0 0 M 24 [] [] := by
  have h : wL_one_25 x1 x2 Q (0 : Int32) M := h
  refine wl_iconst (v := 0) C dL_one_24 (by decide) ?_
  refine wl_sub [] rfl ?_
  exact kL_one_25 l G hg hA x1 x2 C hr (0 : Int32) M h
set_option maxRecDepth 100000 in
set_option maxHeartbeats 4000000 in
theorem cL_one_M (l : Launch) (G : gP) (hg : gIn G) (hA : gCl G) (x1 : Int32) (x2 : Int32) (M : Mem) (Q : Int32 → Mem → Prop) : Met l yL_one (Cond.code yL_one cL_one 3 (some (Jvm.ClassFile.FieldType.boolean)) :: TB) rmL_one (va_Pc [.ref (gAD G 0), .int x1, .int x2] (fun U => gS G M U ∧ wL_one x1 x2 M Q)) (va_Qi Q (gB G) (gA G)) 0 0 (gA G) := by
  refine gMet (by decide +kernel) (show _ = Cond.code yL_one cL_one 3 (some (Jvm.ClassFile.FieldType.boolean)) from rfl) hg (Nat.le_of_ble_eq_true rfl) [(0, .ref (gAD G 0)), (1, .int x1), (2, .int x2)] rfl ?_
  intro p e s m args below meth c C hr h
  have h : (wX7_write (1 : Int32) x1.toInt64 M (fun r2 M1 => ((r2 ≤ 0 → wL_one_24 x1 x2 Q M1) ∧ (¬ r2 ≤ 0 → (wL_number x2 (59 : Int32) M1 (fun r4 M3 => ((r4 = 0 → wL_one_24 x1 x2 Q M3) ∧ (¬ r4 = 0 → wL_one_25 x1 x2 Q (1 : Int32) M3)))))))) := h
  refine wl_aload_n C dL_one_0 0 rfl ?_
  refine wl_iconst (v := 1) C dL_one_1 (by decide) ?_
  refine wl_iload_n C dL_one_2 1 rfl ?_
  refine wl_i2l C dL_one_3 ?_
  refine wl_callVi C (cX7_write_M l G hg hA (1 : Int32) x1.toInt64 M _) h cw_RL_10 hd_X7_write ⟨rfl, rfl⟩ ⟨by decide, by decide⟩ (gic_7 hA kq_0) (gc_k kq_0) rfl (As := [.int (1 : Int32), .long x1.toInt64]) (rest := []) rfl (Nat.le_of_ble_eq_true rfl) ⟨Nat.zero_le _, Nat.zero_le _⟩ rfl dL_one_4 (fun r2 M1 h => ?_)
  refine wl_if_le C (tgt := 24) dL_one_7 (by decide) (fun hc => ?_) (fun hc => ?_)
  · have h := h.1 hc
    refine wl_sub [] rfl ?_
    exact kL_one_24 l G hg hA x1 x2 C hr M1 h
  · have h := h.2 hc
    refine wl_aload_n C dL_one_10 0 rfl ?_
    refine wl_iload_n C dL_one_11 2 rfl ?_
    refine wl_bipush (v := 59) C dL_one_12 (by decide) ?_
    refine wl_callSi C (cL_number_M l G hg hA x2 (59 : Int32) M1 _) h cw_RL_16 hd_L_number ⟨rfl, rfl⟩ ⟨by decide, by decide⟩ (As := [.ref (gAD G 0), .int x2, .int (59 : Int32)]) (rest := []) rfl (Nat.le_of_ble_eq_true rfl) ⟨Nat.zero_le _, Nat.zero_le _⟩ rfl dL_one_14 (fun r4 M3 h => ?_)
    refine wl_if_eq C (tgt := 24) dL_one_17 (by decide) (fun hc => ?_) (fun hc => ?_)
    · have h := h.1 hc
      refine wl_sub [] rfl ?_
      exact kL_one_24 l G hg hA x1 x2 C hr M3 h
    · have h := h.2 hc
      refine wl_iconst (v := 1) C dL_one_20 (by decide) ?_
      refine wl_goto C (tgt := 25) dL_one_21 (by decide) ?_
      refine wl_sub [] rfl ?_
      exact kL_one_25 l G hg hA x1 x2 C hr (1 : Int32) M3 h
set_option maxRecDepth 100000 in
set_option maxHeartbeats 4000000 in
theorem kL_two_35 (l : Launch) (G : gP) (hg : gIn G) (hA : gCl G) (x1 : Int32) (x2 : Int32) (x3 : Int32) {p : Program} {e : Env} {s : State} {m : MethodId} {args : Array Value} {below : List Frame} {meth : Method} {c : Code} (C : Cx p s m args meth c G (gA G) cL_two 4 RL) (hr : meth.sig.returnType = (some (Jvm.ClassFile.FieldType.boolean))) {Q : Int32 → Mem → Prop} (s0 : Int32) (M : Mem) (h : wL_two_35 x1 x2 x3 Q s0 M) : Wl p l e rmL_two s m args below meth c (MQ below (va_Qi Q (gB G) (gA G)) args s 0 0 (gA G)) G (gA G) 4 0 0 M 35 [] [.int s0] := by
  have h : ((s0 = 0 ∨ s0 = 1) ∧ Q s0 M) := h
  exact wl_zret C hr h.1 h.2 dL_two_35
set_option maxRecDepth 100000 in
set_option maxHeartbeats 4000000 in
theorem kL_two_34 (l : Launch) (G : gP) (hg : gIn G) (hA : gCl G) (x1 : Int32) (x2 : Int32) (x3 : Int32) {p : Program} {e : Env} {s : State} {m : MethodId} {args : Array Value} {below : List Frame} {meth : Method} {c : Code} (C : Cx p s m args meth c G (gA G) cL_two 4 RL) (hr : meth.sig.returnType = (some (Jvm.ClassFile.FieldType.boolean))) {Q : Int32 → Mem → Prop} (M : Mem) (h : wL_two_34 x1 x2 x3 Q M) : Wl p l e rmL_two s m args below meth c (MQ below (va_Qi Q (gB G) (gA G)) args s 0 0 (gA G)) G (gA G) 4 0 0 M 34 [] [] := by
  have h : wL_two_35 x1 x2 x3 Q (0 : Int32) M := h
  refine wl_iconst (v := 0) C dL_two_34 (by decide) ?_
  refine wl_sub [] rfl ?_
  exact kL_two_35 l G hg hA x1 x2 x3 C hr (0 : Int32) M h
set_option maxRecDepth 100000 in
set_option maxHeartbeats 4000000 in
theorem cL_two_M (l : Launch) (G : gP) (hg : gIn G) (hA : gCl G) (x1 : Int32) (x2 : Int32) (x3 : Int32) (M : Mem) (Q : Int32 → Mem → Prop) : Met l yL_two (Cond.code yL_two cL_two 4 (some (Jvm.ClassFile.FieldType.boolean)) :: TB) rmL_two (va_Pc [.ref (gAD G 0), .int x1, .int x2, .int x3] (fun U => gS G M U ∧ wL_two x1 x2 x3 M Q)) (va_Qi Q (gB G) (gA G)) 0 0 (gA G) := by
  refine gMet (by decide +kernel) (show _ = Cond.code yL_two cL_two 4 (some (Jvm.ClassFile.FieldType.boolean)) from rfl) hg (Nat.le_of_ble_eq_true rfl) [(0, .ref (gAD G 0)), (1, .int x1), (2, .int x2), (3, .int x3)] rfl ?_
  intro p e s m args below meth c C hr h
  have h : (wX7_write (1 : Int32) x1.toInt64 M (fun r2 M1 => ((r2 ≤ 0 → wL_two_34 x1 x2 x3 Q M1) ∧ (¬ r2 ≤ 0 → (wL_number x2 (44 : Int32) M1 (fun r4 M3 => ((r4 = 0 → wL_two_34 x1 x2 x3 Q M3) ∧ (¬ r4 = 0 → (wL_number x3 (59 : Int32) M3 (fun r6 M5 => ((r6 = 0 → wL_two_34 x1 x2 x3 Q M5) ∧ (¬ r6 = 0 → wL_two_35 x1 x2 x3 Q (1 : Int32) M5)))))))))))) := h
  refine wl_aload_n C dL_two_0 0 rfl ?_
  refine wl_iconst (v := 1) C dL_two_1 (by decide) ?_
  refine wl_iload_n C dL_two_2 1 rfl ?_
  refine wl_i2l C dL_two_3 ?_
  refine wl_callVi C (cX7_write_M l G hg hA (1 : Int32) x1.toInt64 M _) h cw_RL_10 hd_X7_write ⟨rfl, rfl⟩ ⟨by decide, by decide⟩ (gic_7 hA kq_0) (gc_k kq_0) rfl (As := [.int (1 : Int32), .long x1.toInt64]) (rest := []) rfl (Nat.le_of_ble_eq_true rfl) ⟨Nat.zero_le _, Nat.zero_le _⟩ rfl dL_two_4 (fun r2 M1 h => ?_)
  refine wl_if_le C (tgt := 34) dL_two_7 (by decide) (fun hc => ?_) (fun hc => ?_)
  · have h := h.1 hc
    refine wl_sub [] rfl ?_
    exact kL_two_34 l G hg hA x1 x2 x3 C hr M1 h
  · have h := h.2 hc
    refine wl_aload_n C dL_two_10 0 rfl ?_
    refine wl_iload_n C dL_two_11 2 rfl ?_
    refine wl_bipush (v := 44) C dL_two_12 (by decide) ?_
    refine wl_callSi C (cL_number_M l G hg hA x2 (44 : Int32) M1 _) h cw_RL_16 hd_L_number ⟨rfl, rfl⟩ ⟨by decide, by decide⟩ (As := [.ref (gAD G 0), .int x2, .int (44 : Int32)]) (rest := []) rfl (Nat.le_of_ble_eq_true rfl) ⟨Nat.zero_le _, Nat.zero_le _⟩ rfl dL_two_14 (fun r4 M3 h => ?_)
    refine wl_if_eq C (tgt := 34) dL_two_17 (by decide) (fun hc => ?_) (fun hc => ?_)
    · have h := h.1 hc
      refine wl_sub [] rfl ?_
      exact kL_two_34 l G hg hA x1 x2 x3 C hr M3 h
    · have h := h.2 hc
      refine wl_aload_n C dL_two_20 0 rfl ?_
      refine wl_iload_n C dL_two_21 3 rfl ?_
      refine wl_bipush (v := 59) C dL_two_22 (by decide) ?_
      refine wl_callSi C (cL_number_M l G hg hA x3 (59 : Int32) M3 _) h cw_RL_16 hd_L_number ⟨rfl, rfl⟩ ⟨by decide, by decide⟩ (As := [.ref (gAD G 0), .int x3, .int (59 : Int32)]) (rest := []) rfl (Nat.le_of_ble_eq_true rfl) ⟨Nat.zero_le _, Nat.zero_le _⟩ rfl dL_two_24 (fun r6 M5 h => ?_)
      refine wl_if_eq C (tgt := 34) dL_two_27 (by decide) (fun hc => ?_) (fun hc => ?_)
      · have h := h.1 hc
        refine wl_sub [] rfl ?_
        exact kL_two_34 l G hg hA x1 x2 x3 C hr M5 h
      · have h := h.2 hc
        refine wl_iconst (v := 1) C dL_two_30 (by decide) ?_
        refine wl_goto C (tgt := 35) dL_two_31 (by decide) ?_
        refine wl_sub [] rfl ?_
        exact kL_two_35 l G hg hA x1 x2 x3 C hr (1 : Int32) M5 h
