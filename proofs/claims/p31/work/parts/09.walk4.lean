set_option maxRecDepth 100000 in
set_option maxHeartbeats 4000000 in
theorem cX7_write_M (l : Launch) (G : gP) (hg : gIn G) (hA : gCl G) (x1 : Int32) (x2 : Int64) (M : Mem) (Q : Int32 → Mem → Prop) : Met l yX7_write (Cond.code yX7_write cX7_write 4 (some (Jvm.ClassFile.FieldType.int)) :: TB) rmX7_write (va_Pc [.ref (gAD G 0), .int x1, .long x2] (fun U => gS G M U ∧ wX7_write x1 x2 M Q)) (va_Qi Q (gB G) (gA G)) 0 0 (gA G) := by
  refine gMet (by decide +kernel) (show _ = Cond.code yX7_write cX7_write 4 (some (Jvm.ClassFile.FieldType.int)) from rfl) hg (Nat.le_of_ble_eq_true rfl) [(0, .ref (gAD G 0)), (1, .int x1), (2, .long x2)] rfl ?_
  intro p e s m args below meth c C hr h
  have h : (wX7_within x1 (1 : Int32) (8 : Int32) M (fun r2 M1 => ((¬ r2 = 0 → (wX5_size 1 M1 (fun r4 M3 => (((r4 + x1) ≤ (300 : Int32) → (wX5_append 1 x1 x2 M3 (fun M5 => (wX5_size 1 M5 (fun r7 M6 => Q r7 M6))))) ∧ (¬ (r4 + x1) ≤ (300 : Int32) → Q (-3 : Int32) M3))))) ∧ (r2 = 0 → Q (-1 : Int32) M1)))) := h
  refine wl_iload_n C dX7_write_0 1 rfl ?_
  refine wl_iconst (v := 1) C dX7_write_1 (by decide) ?_
  refine wl_bipush (v := 8) C dX7_write_2 (by decide) ?_
  refine wl_callSi C (cX7_within_M l G hg hA x1 (1 : Int32) (8 : Int32) M _) h cw_RX7_78 hd_X7_within ⟨rfl, rfl⟩ ⟨by decide, by decide⟩ (As := [.int x1, .int (1 : Int32), .int (8 : Int32)]) (rest := []) rfl (Nat.le_of_ble_eq_true rfl) ⟨Nat.zero_le _, Nat.zero_le _⟩ rfl dX7_write_4 (fun r2 M1 h => ?_)
  refine wl_if_ne C (tgt := 12) dX7_write_7 (by decide) (fun hc => ?_) (fun hc => ?_)
  · have h := h.1 hc
    refine wl_aload_n C dX7_write_12 0 rfl ?_
    refine gf_7_0 C kq_0 (gic_7 hA kq_0) tw_217 dX7_write_13 ?_
    refine wl_callVi C (cX5_size_M l G hg hA 1 kq_1 M1 _) h cw_RX7_82 hd_X5_size ⟨rfl, rfl⟩ ⟨by decide, by decide⟩ (gic_5 hA kq_1) (gc_k kq_1) rfl (As := []) (rest := []) rfl (Nat.le_of_ble_eq_true rfl) ⟨Nat.zero_le _, Nat.zero_le _⟩ rfl dX7_write_16 (fun r4 M3 h => ?_)
    refine wl_iload_n C dX7_write_19 1 rfl ?_
    refine wl_iadd C dX7_write_20 ?_
    refine wl_sipush (v := 300) C dX7_write_21 (by decide) ?_
    refine wl_icmp_le C (tgt := 30) dX7_write_24 (by decide) (fun hc => ?_) (fun hc => ?_)
    · have h := h.1 hc
      refine wl_aload_n C dX7_write_30 0 rfl ?_
      refine gf_7_0 C kq_0 (gic_7 hA kq_0) tw_217 dX7_write_31 ?_
      refine wl_iload_n C dX7_write_34 1 rfl ?_
      refine wl_lload_n C dX7_write_35 2 rfl ?_
      refine wl_callVv C (cX5_append_M l G hg hA 1 x1 x2 kq_1 M3 _) h cw_RX7_86 hd_X5_append ⟨rfl, rfl⟩ ⟨by decide, by decide⟩ (gic_5 hA kq_1) (gc_k kq_1) rfl (As := [.int x1, .long x2]) (rest := []) rfl (Nat.le_of_ble_eq_true rfl) ⟨Nat.zero_le _, Nat.zero_le _⟩ rfl dX7_write_36 (fun M5 h => ?_)
      refine wl_aload_n C dX7_write_39 0 rfl ?_
      refine gf_7_0 C kq_0 (gic_7 hA kq_0) tw_217 dX7_write_40 ?_
      refine wl_callVi C (cX5_size_M l G hg hA 1 kq_1 M5 _) h cw_RX7_82 hd_X5_size ⟨rfl, rfl⟩ ⟨by decide, by decide⟩ (gic_5 hA kq_1) (gc_k kq_1) rfl (As := []) (rest := []) rfl (Nat.le_of_ble_eq_true rfl) ⟨Nat.zero_le _, Nat.zero_le _⟩ rfl dX7_write_43 (fun r7 M6 h => ?_)
      exact wl_iret C hr h dX7_write_46
    · have h := h.2 hc
      refine wl_bipush (v := (-3)) C dX7_write_27 (by decide) ?_
      exact wl_iret C hr h dX7_write_29
  · have h := h.2 hc
    refine wl_iconst (v := (-1)) C dX7_write_10 (by decide) ?_
    exact wl_iret C hr h dX7_write_11
set_option maxRecDepth 100000 in
set_option maxHeartbeats 4000000 in
theorem cX7_wipe_M (l : Launch) (G : gP) (hg : gIn G) (hA : gCl G) (M : Mem) (Q : Int32 → Mem → Prop) : Met l yX7_wipe (Cond.code yX7_wipe cX7_wipe 1 (some (Jvm.ClassFile.FieldType.int)) :: TB) rmX7_wipe (va_Pc [.ref (gAD G 0)] (fun U => gS G M U ∧ wX7_wipe M Q)) (va_Qi Q (gB G) (gA G)) 0 0 (gA G) := by
  refine gMet (by decide +kernel) (show _ = Cond.code yX7_wipe cX7_wipe 1 (some (Jvm.ClassFile.FieldType.int)) from rfl) hg (Nat.le_of_ble_eq_true rfl) [(0, .ref (gAD G 0))] rfl ?_
  intro p e s m args below meth c C hr h
  have h : (wX5_clear 1 M (fun r2 M1 => Q r2 M1)) := h
  refine wl_aload_n C dX7_wipe_0 0 rfl ?_
  refine gf_7_0 C kq_0 (gic_7 hA kq_0) tw_217 dX7_wipe_1 ?_
  refine wl_callVi C (cX5_clear_M l G hg hA 1 kq_1 M _) h cw_RX7_90 hd_X5_clear ⟨rfl, rfl⟩ ⟨by decide, by decide⟩ (gic_5 hA kq_1) (gc_k kq_1) rfl (As := []) (rest := []) rfl (Nat.le_of_ble_eq_true rfl) ⟨Nat.zero_le _, Nat.zero_le _⟩ rfl dX7_wipe_4 (fun r2 M1 h => ?_)
  exact wl_iret C hr h dX7_wipe_7
set_option maxRecDepth 100000 in
set_option maxHeartbeats 4000000 in
theorem cX7_fault_M (l : Launch) (G : gP) (hg : gIn G) (hA : gCl G) (M : Mem) (Q : Int32 → Mem → Prop) : Met l yX7_fault (Cond.code yX7_fault cX7_fault 1 (some (Jvm.ClassFile.FieldType.int)) :: TB) rmX7_fault (va_Pc [.ref (gAD G 0)] (fun U => gS G M U ∧ wX7_fault M Q)) (va_Qi Q (gB G) (gA G)) 0 0 (gA G) := by
  refine gMet (by decide +kernel) (show _ = Cond.code yX7_fault cX7_fault 1 (some (Jvm.ClassFile.FieldType.int)) from rfl) hg (Nat.le_of_ble_eq_true rfl) [(0, .ref (gAD G 0))] rfl ?_
  intro p e s m args below meth c C hr h
  have h : (kd (rid (M 0 1)) = 6 ∧ (wX6_scan (rid (M 0 1)) 1 M (fun r3 M2 => Q r3 M2))) := h
  refine wl_aload_n C dX7_fault_0 0 rfl ?_
  refine gf_7_1 C kq_0 (gic_7 hA kq_0) tw_218 dX7_fault_1 ?_
  have hp1 := h.1
  have h := h.2
  refine wl_aload_n C dX7_fault_4 0 rfl ?_
  refine gf_7_0 C kq_0 (gic_7 hA kq_0) tw_217 dX7_fault_5 ?_
  refine wl_callVi C (cX6_scan_M l G hg hA (rid (M 0 1)) 1 hp1 kq_1 M _) h cw_RX7_93 hd_X6_scan ⟨rfl, rfl⟩ ⟨by decide, by decide⟩ (gic_6 hA hp1) (gc_k hp1) rfl (As := [.ref (gAD G 1)]) (rest := []) rfl (Nat.le_of_ble_eq_true rfl) ⟨Nat.zero_le _, Nat.zero_le _⟩ rfl dX7_fault_8 (fun r3 M2 h => ?_)
  exact wl_iret C hr h dX7_fault_11
set_option maxRecDepth 100000 in
set_option maxHeartbeats 4000000 in
theorem cX7_startAnew_M (l : Launch) (G : gP) (hg : gIn G) (hA : gCl G) (M : Mem) (Q : Mem → Prop) : Met l yX7_startAnew (Cond.code yX7_startAnew cX7_startAnew 1 none :: TB) rmX7_startAnew (va_Pc [.ref (gAD G 0)] (fun U => gS G M U ∧ wX7_startAnew M Q)) (va_Qv Q (gB G) (gA G)) 0 0 (gA G) := by
  refine gMet (by decide +kernel) (show _ = Cond.code yX7_startAnew cX7_startAnew 1 none from rfl) hg (Nat.le_of_ble_eq_true rfl) [(0, .ref (gAD G 0))] rfl ?_
  intro p e s m args below meth c C hr h
  have h : (kd (rid (M 0 2)) = 6 ∧ (wX6_orderFirst (rid (M 0 2)) 22 M (fun M2 => (kd (rid (M2 0 2)) = 6 ∧ (wX3_follow 32 (rid (M2 0 2)) M2 (fun M4 => (wX2_startWith 61 22 M4 (fun M5 => Q (mu (mu M5 0 9 (0 : Int32)) 0 13 (0 : Int32)))))))))) := h
  refine wl_aload_n C dX7_startAnew_0 0 rfl ?_
  refine gf_7_2 C kq_0 (gic_7 hA kq_0) tw_219 dX7_startAnew_1 ?_
  have hp1 := h.1
  have h := h.2
  refine wl_aload_n C dX7_startAnew_4 0 rfl ?_
  refine gf_7_3 C kq_0 (gic_7 hA kq_0) tw_220 dX7_startAnew_5 ?_
  refine wl_callVv C (cX6_orderFirst_M l G hg hA (rid (M 0 2)) 22 hp1 kq_22 M _) h cw_RX7_234 hd_X6_orderFirst ⟨rfl, rfl⟩ ⟨by decide, by decide⟩ (gic_6 hA hp1) (gc_k hp1) rfl (As := [.ref (gAD G 22)]) (rest := []) rfl (Nat.le_of_ble_eq_true rfl) ⟨Nat.zero_le _, Nat.zero_le _⟩ rfl dX7_startAnew_8 (fun M2 h => ?_)
  refine wl_aload_n C dX7_startAnew_11 0 rfl ?_
  refine gf_7_5 C kq_0 (gic_7 hA kq_0) tw_222 dX7_startAnew_12 ?_
  refine wl_aload_n C dX7_startAnew_15 0 rfl ?_
  refine gf_7_2 C kq_0 (gic_7 hA kq_0) tw_219 dX7_startAnew_16 ?_
  have hp3 := h.1
  have h := h.2
  refine wl_callVv C (cX3_follow_M l G hg hA 32 (rid (M2 0 2)) kq_32 hp3 M2 _) h cw_RX7_238 hd_X3_follow ⟨rfl, rfl⟩ ⟨by decide, by decide⟩ (gic_3 hA kq_32) (gc_k kq_32) rfl (As := [.ref (gAD G (rid (M2 0 2)))]) (rest := []) rfl (Nat.le_of_ble_eq_true rfl) ⟨Nat.zero_le _, Nat.zero_le _⟩ rfl dX7_startAnew_19 (fun M4 h => ?_)
  refine wl_aload_n C dX7_startAnew_22 0 rfl ?_
  refine gf_7_10 C kq_0 (gic_7 hA kq_0) tw_227 dX7_startAnew_23 ?_
  refine wl_aload_n C dX7_startAnew_26 0 rfl ?_
  refine gf_7_3 C kq_0 (gic_7 hA kq_0) tw_220 dX7_startAnew_27 ?_
  refine wl_callVv C (cX2_startWith_M l G hg hA 61 22 kq_61 kq_22 M4 _) h cw_RX7_242 hd_X2_startWith ⟨rfl, rfl⟩ ⟨by decide, by decide⟩ (gic_2 hA kq_61) (gc_k kq_61) rfl (As := [.ref (gAD G 22)]) (rest := []) rfl (Nat.le_of_ble_eq_true rfl) ⟨Nat.zero_le _, Nat.zero_le _⟩ rfl dX7_startAnew_30 (fun M5 h => ?_)
  refine wl_aload_n C dX7_startAnew_33 0 rfl ?_
  refine wl_iconst (v := 0) C dX7_startAnew_34 (by decide) ?_
  refine gp_7_9 C kq_0 (gic_7 hA kq_0) tw_226 dX7_startAnew_35 ?_
  refine wl_aload_n C dX7_startAnew_38 0 rfl ?_
  refine wl_iconst (v := 0) C dX7_startAnew_39 (by decide) ?_
  refine gp_7_13 C kq_0 (gic_7 hA kq_0) tw_230 dX7_startAnew_40 ?_
  exact wl_vret C hr h dX7_startAnew_43
set_option maxRecDepth 100000 in
set_option maxHeartbeats 4000000 in
theorem kX7_lay_26 (l : Launch) (G : gP) (hg : gIn G) (hA : gCl G) {p : Program} {e : Env} {s : State} {m : MethodId} {args : Array Value} {below : List Frame} {meth : Method} {c : Code} (C : Cx p s m args meth c G (gA G) cX7_lay 2 RX7) (hr : meth.sig.returnType = (some (Jvm.ClassFile.FieldType.int))) {Q : Int32 → Mem → Prop} (M : Mem) (h : wX7_lay_26 Q M) : Wl p l e rmX7_lay s m args below meth c (MQ below (va_Qi Q (gB G) (gA G)) args s 0 0 (gA G)) G (gA G) 2 0 0 M 26 [] [] := by
  have h : Q (-2 : Int32) M := h
  refine wl_bipush (v := (-2)) C dX7_lay_26 (by decide) ?_
  exact wl_iret C hr h dX7_lay_28
set_option maxRecDepth 100000 in
set_option maxHeartbeats 4000000 in
theorem cX7_lay_M (l : Launch) (G : gP) (hg : gIn G) (hA : gCl G) (M : Mem) (Q : Int32 → Mem → Prop) : Met l yX7_lay (Cond.code yX7_lay cX7_lay 2 (some (Jvm.ClassFile.FieldType.int)) :: TB) rmX7_lay (va_Pc [.ref (gAD G 0)] (fun U => gS G M U ∧ wX7_lay M Q)) (va_Qi Q (gB G) (gA G)) 0 0 (gA G) := by
  refine gMet (by decide +kernel) (show _ = Cond.code yX7_lay cX7_lay 2 (some (Jvm.ClassFile.FieldType.int)) from rfl) hg (Nat.le_of_ble_eq_true rfl) [(0, .ref (gAD G 0))] rfl ?_
  intro p e s m args below meth c C hr h
  have h : (kd (rid (M 0 1)) = 6 ∧ (wX6_scan (rid (M 0 1)) 1 M (fun r3 M2 => ((¬ r3 = (-4 : Int32) → wX7_lay_26 Q M2) ∧ (r3 = (-4 : Int32) → (kd (rid (M2 0 1)) = 6 ∧ (wX6_fitsItsLeaves (rid (M2 0 1)) M2 (fun r6 M5 => ((¬ r6 = 0 → (kd (rid (M5 0 2)) = 6 ∧ (kd (rid (M5 0 1)) = 6 ∧ (rid (Int32.ofNat (rid (M5 0 1))) = (rid (M5 0 1)) ∧ (rid (Int32.ofNat (rid (M5 0 2))) = (rid (M5 0 2)) ∧ (wX7_startAnew (mu (mu M5 0 2 (Int32.ofNat (rid (M5 0 1)))) 0 1 (Int32.ofNat (rid (M5 0 2)))) (fun M9 => (kd (rid (M9 0 2)) = 6 ∧ Q (M9 (rid (M9 0 2)) 0) M9)))))))) ∧ (r6 = 0 → wX7_lay_26 Q M5)))))))))) := h
  refine wl_aload_n C dX7_lay_0 0 rfl ?_
  refine gf_7_1 C kq_0 (gic_7 hA kq_0) tw_218 dX7_lay_1 ?_
  have hp1 := h.1
  have h := h.2
  refine wl_aload_n C dX7_lay_4 0 rfl ?_
  refine gf_7_0 C kq_0 (gic_7 hA kq_0) tw_217 dX7_lay_5 ?_
  refine wl_callVi C (cX6_scan_M l G hg hA (rid (M 0 1)) 1 hp1 kq_1 M _) h cw_RX7_93 hd_X6_scan ⟨rfl, rfl⟩ ⟨by decide, by decide⟩ (gic_6 hA hp1) (gc_k hp1) rfl (As := [.ref (gAD G 1)]) (rest := []) rfl (Nat.le_of_ble_eq_true rfl) ⟨Nat.zero_le _, Nat.zero_le _⟩ rfl dX7_lay_8 (fun r3 M2 h => ?_)
  refine wl_bipush (v := (-4)) C dX7_lay_11 (by decide) ?_
  refine wl_icmp_ne C (tgt := 26) dX7_lay_13 (by decide) (fun hc => ?_) (fun hc => ?_)
  · have h := h.1 hc
    refine wl_sub [] rfl ?_
    exact kX7_lay_26 l G hg hA C hr M2 h
  · have h := h.2 hc
    refine wl_aload_n C dX7_lay_16 0 rfl ?_
    refine gf_7_1 C kq_0 (gic_7 hA kq_0) tw_218 dX7_lay_17 ?_
    have hp4 := h.1
    have h := h.2
    refine wl_callVi C (cX6_fitsItsLeaves_M l G hg hA (rid (M2 0 1)) hp4 M2 _) h cw_RX7_97 hd_X6_fitsItsLeaves ⟨rfl, rfl⟩ ⟨by decide, by decide⟩ (gic_6 hA hp4) (gc_k hp4) rfl (As := []) (rest := []) rfl (Nat.le_of_ble_eq_true rfl) ⟨Nat.zero_le _, Nat.zero_le _⟩ rfl dX7_lay_20 (fun r6 M5 h => ?_)
    refine wl_if_ne C (tgt := 29) dX7_lay_23 (by decide) (fun hc => ?_) (fun hc => ?_)
    · have h := h.1 hc
      refine wl_aload_n C dX7_lay_29 0 rfl ?_
      refine gf_7_2 C kq_0 (gic_7 hA kq_0) tw_219 dX7_lay_30 ?_
      have hp7 := h.1
      have h := h.2
      refine wl_astore_n (i := 1) (lv' := [(1, .ref (gAD G (rid (M5 0 2)))), (0, .ref (gAD G 0))]) C dX7_lay_33 rfl (by decide) rfl ?_
      refine wl_aload_n C dX7_lay_34 1 rfl ?_
      refine wl_aload_n C dX7_lay_35 1 rfl ?_
      refine gf_7_1 C kq_0 (gic_7 hA kq_0) tw_218 dX7_lay_36 ?_
      have hp8 := h.1
      have h := h.2
      refine gp_7_2 C kq_0 (gic_7 hA kq_0) tw_219 h.1 dX7_lay_39 ?_
      have h := h.2
      refine wl_aload_n C dX7_lay_42 1 rfl ?_
      refine wl_aload_n C dX7_lay_43 0 rfl ?_
      refine gp_7_1 C kq_0 (gic_7 hA kq_0) tw_218 h.1 dX7_lay_44 ?_
      have h := h.2
      refine wl_aload_n C dX7_lay_47 1 rfl ?_
      refine wl_callVv C (cX7_startAnew_M l G hg hA (mu (mu M5 0 2 (Int32.ofNat (rid (M5 0 1)))) 0 1 (Int32.ofNat (rid (M5 0 2)))) _) h cw_RX7_75 hd_X7_startAnew ⟨rfl, rfl⟩ ⟨by decide, by decide⟩ (gic_7 hA kq_0) (gc_k kq_0) rfl (As := []) (rest := []) rfl (Nat.le_of_ble_eq_true rfl) ⟨Nat.zero_le _, Nat.zero_le _⟩ rfl dX7_lay_48 (fun M9 h => ?_)
      refine wl_aload_n C dX7_lay_51 1 rfl ?_
      refine gf_7_2 C kq_0 (gic_7 hA kq_0) tw_219 dX7_lay_52 ?_
      have hp10 := h.1
      have h := h.2
      refine gfN_6_0 C hp10 (gic_6 hA hp10) (List.mem_of_getElem? (i := 1) rfl) dX7_lay_55 ?_
      exact wl_iret C hr h dX7_lay_58
    · have h := h.2 hc
      refine wl_sub [] rfl ?_
      exact kX7_lay_26 l G hg hA C hr M5 h
set_option maxRecDepth 100000 in
set_option maxHeartbeats 4000000 in
theorem cX7_isBelowCount_M (l : Launch) (G : gP) (hg : gIn G) (hA : gCl G) (x1 : Int32) (M : Mem) (Q : Int32 → Mem → Prop) : Met l yX7_isBelowCount (Cond.code yX7_isBelowCount cX7_isBelowCount 2 (some (Jvm.ClassFile.FieldType.boolean)) :: TB) rmX7_isBelowCount (va_Pc [.ref (gAD G 0), .int x1] (fun U => gS G M U ∧ wX7_isBelowCount x1 M Q)) (va_Qi Q (gB G) (gA G)) 0 0 (gA G) := by
  refine gMet (by decide +kernel) (show _ = Cond.code yX7_isBelowCount cX7_isBelowCount 2 (some (Jvm.ClassFile.FieldType.boolean)) from rfl) hg (Nat.le_of_ble_eq_true rfl) [(0, .ref (gAD G 0)), (1, .int x1)] rfl ?_
  intro p e s m args below meth c C hr h
  have h : (kd (rid (M 0 2)) = 6 ∧ (wX7_within x1 (0 : Int32) ((M (rid (M 0 2)) 0) - (1 : Int32)) M (fun r3 M2 => ((r3 = 0 ∨ r3 = 1) ∧ Q r3 M2)))) := h
  refine wl_iload_n C dX7_isBelowCount_0 1 rfl ?_
  refine wl_iconst (v := 0) C dX7_isBelowCount_1 (by decide) ?_
  refine wl_aload_n C dX7_isBelowCount_2 0 rfl ?_
  refine gf_7_2 C kq_0 (gic_7 hA kq_0) tw_219 dX7_isBelowCount_3 ?_
  have hp1 := h.1
  have h := h.2
  refine gfN_6_0 C hp1 (gic_6 hA hp1) (List.mem_of_getElem? (i := 1) rfl) dX7_isBelowCount_6 ?_
  refine wl_iconst (v := 1) C dX7_isBelowCount_9 (by decide) ?_
  refine wl_isub C dX7_isBelowCount_10 ?_
  refine wl_callSi C (cX7_within_M l G hg hA x1 (0 : Int32) ((M (rid (M 0 2)) 0) - (1 : Int32)) M _) h cw_RX7_78 hd_X7_within ⟨rfl, rfl⟩ ⟨by decide, by decide⟩ (As := [.int x1, .int (0 : Int32), .int ((M (rid (M 0 2)) 0) - (1 : Int32))]) (rest := []) rfl (Nat.le_of_ble_eq_true rfl) ⟨Nat.zero_le _, Nat.zero_le _⟩ rfl dX7_isBelowCount_11 (fun r3 M2 h => ?_)
  exact wl_zret C hr h.1 h.2 dX7_isBelowCount_14
set_option maxRecDepth 100000 in
set_option maxHeartbeats 4000000 in
theorem kX7_leaf_17 (l : Launch) (G : gP) (hg : gIn G) (hA : gCl G) (x1 : Int32) (x2 : Int32) {p : Program} {e : Env} {s : State} {m : MethodId} {args : Array Value} {below : List Frame} {meth : Method} {c : Code} (C : Cx p s m args meth c G (gA G) cX7_leaf 3 RX7) (hr : meth.sig.returnType = (some (Jvm.ClassFile.FieldType.int))) {Q : Int32 → Mem → Prop} (M : Mem) (h : wX7_leaf_17 x1 x2 Q M) : Wl p l e rmX7_leaf s m args below meth c (MQ below (va_Qi Q (gB G) (gA G)) args s 0 0 (gA G)) G (gA G) 3 0 0 M 17 [] [] := by
  have h : Q (-1 : Int32) M := h
  refine wl_iconst (v := (-1)) C dX7_leaf_17 (by decide) ?_
  exact wl_iret C hr h dX7_leaf_18
set_option maxRecDepth 100000 in
set_option maxHeartbeats 4000000 in
theorem kX7_leaf_45 (l : Launch) (G : gP) (hg : gIn G) (hA : gCl G) (x1 : Int32) (x2 : Int32) {p : Program} {e : Env} {s : State} {m : MethodId} {args : Array Value} {below : List Frame} {meth : Method} {c : Code} (C : Cx p s m args meth c G (gA G) cX7_leaf 3 RX7) (hr : meth.sig.returnType = (some (Jvm.ClassFile.FieldType.int))) {Q : Int32 → Mem → Prop} (s0 : Int32) (M : Mem) (h : wX7_leaf_45 x1 x2 Q s0 M) : Wl p l e rmX7_leaf s m args below meth c (MQ below (va_Qi Q (gB G) (gA G)) args s 0 0 (gA G)) G (gA G) 3 0 0 M 45 [] [.int s0] := by
  have h : Q s0 M := h
  exact wl_iret C hr h dX7_leaf_45
set_option maxRecDepth 100000 in
set_option maxHeartbeats 4000000 in
theorem cX7_leaf_M (l : Launch) (G : gP) (hg : gIn G) (hA : gCl G) (x1 : Int32) (x2 : Int32) (M : Mem) (Q : Int32 → Mem → Prop) : Met l yX7_leaf (Cond.code yX7_leaf cX7_leaf 3 (some (Jvm.ClassFile.FieldType.int)) :: TB) rmX7_leaf (va_Pc [.ref (gAD G 0), .int x1, .int x2] (fun U => gS G M U ∧ wX7_leaf x1 x2 M Q)) (va_Qi Q (gB G) (gA G)) 0 0 (gA G) := by
  refine gMet (by decide +kernel) (show _ = Cond.code yX7_leaf cX7_leaf 3 (some (Jvm.ClassFile.FieldType.int)) from rfl) hg (Nat.le_of_ble_eq_true rfl) [(0, .ref (gAD G 0)), (1, .int x1), (2, .int x2)] rfl ?_
  intro p e s m args below meth c C hr h
  have h : (wX7_isBelowCount x1 M (fun r2 M1 => ((r2 = 0 → wX7_leaf_17 x1 x2 Q M1) ∧ (¬ r2 = 0 → (wX7_within x2 (0 : Int32) (1 : Int32) M1 (fun r4 M3 => ((¬ r4 = 0 → ((¬ x2 = 0 → (wX1_leafAt 22 x1 M3 (fun r6 M5 => wX7_leaf_45 x1 x2 Q r6 M5))) ∧ (x2 = 0 → (wX1_leafAt 62 x1 M3 (fun r8 M7 => wX7_leaf_45 x1 x2 Q r8 M7))))) ∧ (r4 = 0 → wX7_leaf_17 x1 x2 Q M3)))))))) := h
  refine wl_aload_n C dX7_leaf_0 0 rfl ?_
  refine wl_iload_n C dX7_leaf_1 1 rfl ?_
  refine wl_callVi C (cX7_isBelowCount_M l G hg hA x1 M _) h cw_RX7_105 hd_X7_isBelowCount ⟨rfl, rfl⟩ ⟨by decide, by decide⟩ (gic_7 hA kq_0) (gc_k kq_0) rfl (As := [.int x1]) (rest := []) rfl (Nat.le_of_ble_eq_true rfl) ⟨Nat.zero_le _, Nat.zero_le _⟩ rfl dX7_leaf_2 (fun r2 M1 h => ?_)
  refine wl_if_eq C (tgt := 17) dX7_leaf_5 (by decide) (fun hc => ?_) (fun hc => ?_)
  · have h := h.1 hc
    refine wl_sub [] rfl ?_
    exact kX7_leaf_17 l G hg hA x1 x2 C hr M1 h
  · have h := h.2 hc
    refine wl_iload_n C dX7_leaf_8 2 rfl ?_
    refine wl_iconst (v := 0) C dX7_leaf_9 (by decide) ?_
    refine wl_iconst (v := 1) C dX7_leaf_10 (by decide) ?_
    refine wl_callSi C (cX7_within_M l G hg hA x2 (0 : Int32) (1 : Int32) M1 _) h cw_RX7_78 hd_X7_within ⟨rfl, rfl⟩ ⟨by decide, by decide⟩ (As := [.int x2, .int (0 : Int32), .int (1 : Int32)]) (rest := []) rfl (Nat.le_of_ble_eq_true rfl) ⟨Nat.zero_le _, Nat.zero_le _⟩ rfl dX7_leaf_11 (fun r4 M3 h => ?_)
    refine wl_if_ne C (tgt := 19) dX7_leaf_14 (by decide) (fun hc => ?_) (fun hc => ?_)
    · have h := h.1 hc
      refine wl_iload_n C dX7_leaf_19 2 rfl ?_
      refine wl_if_ne C (tgt := 37) dX7_leaf_20 (by decide) (fun hc => ?_) (fun hc => ?_)
      · have h := h.1 hc
        refine wl_aload_n C dX7_leaf_37 0 rfl ?_
        refine gf_7_3 C kq_0 (gic_7 hA kq_0) tw_220 dX7_leaf_38 ?_
        refine wl_iload_n C dX7_leaf_41 1 rfl ?_
        refine wl_callVi C (cX1_leafAt_M l G hg hA 22 x1 kq_22 M3 _) h cw_RX7_112 hd_X1_leafAt ⟨rfl, rfl⟩ ⟨by decide, by decide⟩ (gic_1 hA kq_22) (gc_k kq_22) rfl (As := [.int x1]) (rest := []) rfl (Nat.le_of_ble_eq_true rfl) ⟨Nat.zero_le _, Nat.zero_le _⟩ rfl dX7_leaf_42 (fun r6 M5 h => ?_)
        refine wl_sub [] rfl ?_
        exact kX7_leaf_45 l G hg hA x1 x2 C hr r6 M5 h
      · have h := h.2 hc
        refine wl_aload_n C dX7_leaf_23 0 rfl ?_
        refine gf_7_10 C kq_0 (gic_7 hA kq_0) tw_227 dX7_leaf_24 ?_
        refine gfN_2_0 C kq_61 (gic_2 hA kq_61) (List.mem_of_getElem? (i := 11) rfl) dX7_leaf_27 ?_
        refine wl_iload_n C dX7_leaf_30 1 rfl ?_
        refine wl_callVi C (cX1_leafAt_M l G hg hA 62 x1 kq_62 M3 _) h cw_RX7_112 hd_X1_leafAt ⟨rfl, rfl⟩ ⟨by decide, by decide⟩ (gic_1 hA kq_62) (gc_k kq_62) rfl (As := [.int x1]) (rest := []) rfl (Nat.le_of_ble_eq_true rfl) ⟨Nat.zero_le _, Nat.zero_le _⟩ rfl dX7_leaf_31 (fun r8 M7 h => ?_)
        refine wl_goto C (tgt := 45) dX7_leaf_34 (by decide) ?_
        refine wl_sub [] rfl ?_
        exact kX7_leaf_45 l G hg hA x1 x2 C hr r8 M7 h
    · have h := h.2 hc
      refine wl_sub [] rfl ?_
      exact kX7_leaf_17 l G hg hA x1 x2 C hr M3 h
set_option maxRecDepth 100000 in
set_option maxHeartbeats 4000000 in
theorem kX7_where_23 (l : Launch) (G : gP) (hg : gIn G) (hA : gCl G) (x1 : Int32) {p : Program} {e : Env} {s : State} {m : MethodId} {args : Array Value} {below : List Frame} {meth : Method} {c : Code} (C : Cx p s m args meth c G (gA G) cX7_where 2 RX7) (hr : meth.sig.returnType = (some (Jvm.ClassFile.FieldType.int))) {Q : Int32 → Mem → Prop} (s0 : Int32) (M : Mem) (h : wX7_where_23 x1 Q s0 M) : Wl p l e rmX7_where s m args below meth c (MQ below (va_Qi Q (gB G) (gA G)) args s 0 0 (gA G)) G (gA G) 2 0 0 M 23 [] [.int s0] := by
  have h : Q s0 M := h
  exact wl_iret C hr h dX7_where_23
set_option maxRecDepth 100000 in
set_option maxHeartbeats 4000000 in
theorem cX7_where_M (l : Launch) (G : gP) (hg : gIn G) (hA : gCl G) (x1 : Int32) (M : Mem) (Q : Int32 → Mem → Prop) : Met l yX7_where (Cond.code yX7_where cX7_where 2 (some (Jvm.ClassFile.FieldType.int)) :: TB) rmX7_where (va_Pc [.ref (gAD G 0), .int x1] (fun U => gS G M U ∧ wX7_where x1 M Q)) (va_Qi Q (gB G) (gA G)) 0 0 (gA G) := by
  refine gMet (by decide +kernel) (show _ = Cond.code yX7_where cX7_where 2 (some (Jvm.ClassFile.FieldType.int)) from rfl) hg (Nat.le_of_ble_eq_true rfl) [(0, .ref (gAD G 0)), (1, .int x1)] rfl ?_
  intro p e s m args below meth c C hr h
  have h : (wX7_isBelowCount x1 M (fun r2 M1 => ((r2 = 0 → wX7_where_23 x1 Q (-1 : Int32) M1) ∧ (¬ r2 = 0 → (wX1_placeOf 62 x1 M1 (fun r4 M3 => wX7_where_23 x1 Q r4 M3)))))) := h
  refine wl_aload_n C dX7_where_0 0 rfl ?_
  refine wl_iload_n C dX7_where_1 1 rfl ?_
  refine wl_callVi C (cX7_isBelowCount_M l G hg hA x1 M _) h cw_RX7_105 hd_X7_isBelowCount ⟨rfl, rfl⟩ ⟨by decide, by decide⟩ (gic_7 hA kq_0) (gc_k kq_0) rfl (As := [.int x1]) (rest := []) rfl (Nat.le_of_ble_eq_true rfl) ⟨Nat.zero_le _, Nat.zero_le _⟩ rfl dX7_where_2 (fun r2 M1 h => ?_)
  refine wl_if_eq C (tgt := 22) dX7_where_5 (by decide) (fun hc => ?_) (fun hc => ?_)
  · have h := h.1 hc
    refine wl_iconst (v := (-1)) C dX7_where_22 (by decide) ?_
    refine wl_sub [] rfl ?_
    exact kX7_where_23 l G hg hA x1 C hr (-1 : Int32) M1 h
  · have h := h.2 hc
    refine wl_aload_n C dX7_where_8 0 rfl ?_
    refine gf_7_10 C kq_0 (gic_7 hA kq_0) tw_227 dX7_where_9 ?_
    refine gfN_2_0 C kq_61 (gic_2 hA kq_61) (List.mem_of_getElem? (i := 11) rfl) dX7_where_12 ?_
    refine wl_iload_n C dX7_where_15 1 rfl ?_
    refine wl_callVi C (cX1_placeOf_M l G hg hA 62 x1 kq_62 M1 _) h cw_RX7_116 hd_X1_placeOf ⟨rfl, rfl⟩ ⟨by decide, by decide⟩ (gic_1 hA kq_62) (gc_k kq_62) rfl (As := [.int x1]) (rest := []) rfl (Nat.le_of_ble_eq_true rfl) ⟨Nat.zero_le _, Nat.zero_le _⟩ rfl dX7_where_16 (fun r4 M3 h => ?_)
    refine wl_goto C (tgt := 23) dX7_where_19 (by decide) ?_
    refine wl_sub [] rfl ?_
    exact kX7_where_23 l G hg hA x1 C hr r4 M3 h
set_option maxRecDepth 100000 in
set_option maxHeartbeats 4000000 in
theorem cX7_read_M (l : Launch) (G : gP) (hg : gIn G) (hA : gCl G) (M : Mem) (Q : Int32 → Mem → Prop) : Met l yX7_read (Cond.code yX7_read cX7_read 1 (some (Jvm.ClassFile.FieldType.int)) :: TB) rmX7_read (va_Pc [.ref (gAD G 0)] (fun U => gS G M U ∧ wX7_read M Q)) (va_Qi Q (gB G) (gA G)) 0 0 (gA G) := by
  refine gMet (by decide +kernel) (show _ = Cond.code yX7_read cX7_read 1 (some (Jvm.ClassFile.FieldType.int)) from rfl) hg (Nat.le_of_ble_eq_true rfl) [(0, .ref (gAD G 0))] rfl ?_
  intro p e s m args below meth c C hr h
  have h : (kd (rid (M 0 2)) = 6 ∧ (wX2_readOne 61 (rid (M 0 2)) M (fun r3 M2 => Q r3 M2))) := h
  refine wl_aload_n C dX7_read_0 0 rfl ?_
  refine gf_7_10 C kq_0 (gic_7 hA kq_0) tw_227 dX7_read_1 ?_
  refine wl_aload_n C dX7_read_4 0 rfl ?_
  refine gf_7_2 C kq_0 (gic_7 hA kq_0) tw_219 dX7_read_5 ?_
  have hp1 := h.1
  have h := h.2
  refine wl_callVi C (cX2_readOne_M l G hg hA 61 (rid (M 0 2)) kq_61 hp1 M _) h cw_RX7_119 hd_X2_readOne ⟨rfl, rfl⟩ ⟨by decide, by decide⟩ (gic_2 hA kq_61) (gc_k kq_61) rfl (As := [.ref (gAD G (rid (M 0 2)))]) (rest := []) rfl (Nat.le_of_ble_eq_true rfl) ⟨Nat.zero_le _, Nat.zero_le _⟩ rfl dX7_read_8 (fun r3 M2 h => ?_)
  exact wl_iret C hr h dX7_read_11
set_option maxRecDepth 100000 in
set_option maxHeartbeats 4000000 in
theorem kX7_finish_18 (l : Launch) (G : gP) (hg : gIn G) (hA : gCl G) {p : Program} {e : Env} {s : State} {m : MethodId} {args : Array Value} {below : List Frame} {meth : Method} {c : Code} (C : Cx p s m args meth c G (gA G) cX7_finish 3 RX7) (hr : meth.sig.returnType = (some (Jvm.ClassFile.FieldType.int))) {Q : Int32 → Mem → Prop} : ∀ (n : Nat) (v1 : Int32) (v2 : Int32) (M : Mem), wX7_finish_18 Q n v1 v2 M → Wl p l e rmX7_finish s m args below meth c (MQ below (va_Qi Q (gB G) (gA G)) args s 0 0 (gA G)) G (gA G) 3 0 0 M 18 [(0, .ref (gAD G 0)), (1, .int v1), (2, .int v2)] [] := by
  intro n
  induction n with
  | zero => intro v1 v2 M h; exact h.elim
  | succ n ih =>
    intro v1 v2 M h
    have h : ((v1 ≤ v2 → Q v1 M) ∧ (¬ v1 ≤ v2 → (kd (rid (M 0 2)) = 6 ∧ (wX2_readOne 61 (rid (M 0 2)) M (fun r5 M4 => wX7_finish_18 Q n v1 (v2 + (1 : Int32)) M4))))) := h
    refine wl_iload_n C dX7_finish_18 2 rfl ?_
    refine wl_iload_n C dX7_finish_19 1 rfl ?_
    refine wl_icmp_ge C (tgt := 41) dX7_finish_20 (by decide) (fun hc => ?_) (fun hc => ?_)
    · have h := h.1 hc
      refine wl_iload_n C dX7_finish_41 1 rfl ?_
      exact wl_iret C hr h dX7_finish_42
    · have h := h.2 hc
      refine wl_aload_n C dX7_finish_23 0 rfl ?_
      refine gf_7_10 C kq_0 (gic_7 hA kq_0) tw_227 dX7_finish_24 ?_
      refine wl_aload_n C dX7_finish_27 0 rfl ?_
      refine gf_7_2 C kq_0 (gic_7 hA kq_0) tw_219 dX7_finish_28 ?_
      have hp3 := h.1
      have h := h.2
      refine wl_callVi C (cX2_readOne_M l G hg hA 61 (rid (M 0 2)) kq_61 hp3 M _) h cw_RX7_119 hd_X2_readOne ⟨rfl, rfl⟩ ⟨by decide, by decide⟩ (gic_2 hA kq_61) (gc_k kq_61) rfl (As := [.ref (gAD G (rid (M 0 2)))]) (rest := []) rfl (Nat.le_of_ble_eq_true rfl) ⟨Nat.zero_le _, Nat.zero_le _⟩ rfl dX7_finish_31 (fun r5 M4 h => ?_)
      refine wl_pop C dX7_finish_34 rfl ?_
      refine wl_iinc (v := (v2 + (1 : Int32))) (lv' := [(2, .int (v2 + (1 : Int32))), (0, .ref (gAD G 0)), (1, .int v1)]) C dX7_finish_35 2 rfl (by rfl) (by decide) rfl ?_
      refine wl_goto C (tgt := 18) dX7_finish_38 (by decide) ?_
      refine wl_sub [1, 2, 0] rfl ?_
      exact ih v1 (v2 + (1 : Int32)) M4 h
set_option maxRecDepth 100000 in
set_option maxHeartbeats 4000000 in
theorem cX7_finish_M (l : Launch) (G : gP) (hg : gIn G) (hA : gCl G) (M : Mem) (Q : Int32 → Mem → Prop) : Met l yX7_finish (Cond.code yX7_finish cX7_finish 3 (some (Jvm.ClassFile.FieldType.int)) :: TB) rmX7_finish (va_Pc [.ref (gAD G 0)] (fun U => gS G M U ∧ wX7_finish M Q)) (va_Qi Q (gB G) (gA G)) 0 0 (gA G) := by
  refine gMet (by decide +kernel) (show _ = Cond.code yX7_finish cX7_finish 3 (some (Jvm.ClassFile.FieldType.int)) from rfl) hg (Nat.le_of_ble_eq_true rfl) [(0, .ref (gAD G 0))] rfl ?_
  intro p e s m args below meth c C hr h
  have h : (kd (rid (M 0 2)) = 6 ∧ (∃ n2, wX7_finish_18 Q n2 ((M (rid (M 0 2)) 1) - (M 61 1)) (0 : Int32) M)) := h
  refine wl_aload_n C dX7_finish_0 0 rfl ?_
  refine gf_7_2 C kq_0 (gic_7 hA kq_0) tw_219 dX7_finish_1 ?_
  have hp1 := h.1
  have h := h.2
  refine gfN_6_1 C hp1 (gic_6 hA hp1) (List.mem_of_getElem? (i := 4) rfl) dX7_finish_4 ?_
  refine wl_aload_n C dX7_finish_7 0 rfl ?_
  refine gf_7_10 C kq_0 (gic_7 hA kq_0) tw_227 dX7_finish_8 ?_
  refine gfN_2_1 C kq_61 (gic_2 hA kq_61) (List.mem_of_getElem? (i := 12) rfl) dX7_finish_11 ?_
  refine wl_isub C dX7_finish_14 ?_
  refine wl_istore_n (i := 1) (lv' := [(1, .int ((M (rid (M 0 2)) 1) - (M 61 1))), (0, .ref (gAD G 0))]) C dX7_finish_15 rfl (by decide) rfl ?_
  refine wl_iconst (v := 0) C dX7_finish_16 (by decide) ?_
  refine wl_istore_n (i := 2) (lv' := [(2, .int (0 : Int32)), (1, .int ((M (rid (M 0 2)) 1) - (M 61 1))), (0, .ref (gAD G 0))]) C dX7_finish_17 rfl (by decide) rfl ?_
  refine wl_sub [2, 1, 0] rfl ?_
  obtain ⟨n2, h⟩ := h
  exact kX7_finish_18 l G hg hA C hr n2 ((M (rid (M 0 2)) 1) - (M 61 1)) (0 : Int32) M h
set_option maxRecDepth 100000 in
set_option maxHeartbeats 4000000 in
theorem kX7_change_16 (l : Launch) (G : gP) (hg : gIn G) (hA : gCl G) (x1 : Int32) (x2 : Int32) {p : Program} {e : Env} {s : State} {m : MethodId} {args : Array Value} {below : List Frame} {meth : Method} {c : Code} (C : Cx p s m args meth c G (gA G) cX7_change 3 RX7) (hr : meth.sig.returnType = (some (Jvm.ClassFile.FieldType.int))) {Q : Int32 → Mem → Prop} (M : Mem) (h : wX7_change_16 x1 x2 Q M) : Wl p l e rmX7_change s m args below meth c (MQ below (va_Qi Q (gB G) (gA G)) args s 0 0 (gA G)) G (gA G) 3 0 0 M 16 [] [] := by
  have h : Q (-1 : Int32) M := h
  refine wl_iconst (v := (-1)) C dX7_change_16 (by decide) ?_
  exact wl_iret C hr h dX7_change_17
set_option maxRecDepth 100000 in
set_option maxHeartbeats 4000000 in
theorem cX7_change_M (l : Launch) (G : gP) (hg : gIn G) (hA : gCl G) (x1 : Int32) (x2 : Int32) (M : Mem) (Q : Int32 → Mem → Prop) : Met l yX7_change (Cond.code yX7_change cX7_change 3 (some (Jvm.ClassFile.FieldType.int)) :: TB) rmX7_change (va_Pc [.ref (gAD G 0), .int x1, .int x2] (fun U => gS G M U ∧ wX7_change x1 x2 M Q)) (va_Qi Q (gB G) (gA G)) 0 0 (gA G) := by
  refine gMet (by decide +kernel) (show _ = Cond.code yX7_change cX7_change 3 (some (Jvm.ClassFile.FieldType.int)) from rfl) hg (Nat.le_of_ble_eq_true rfl) [(0, .ref (gAD G 0)), (1, .int x1), (2, .int x2)] rfl ?_
  intro p e s m args below meth c C hr h
  have h : (wX7_isBelowCount x1 M (fun r2 M1 => ((r2 = 0 → wX7_change_16 x1 x2 Q M1) ∧ (¬ r2 = 0 → (wX7_isBelowCount x2 M1 (fun r4 M3 => ((¬ r4 = 0 → (wX1_swap 62 x1 x2 M3 (fun M5 => (wX1_leafAt 62 x1 M5 (fun r7 M6 => Q r7 M6))))) ∧ (r4 = 0 → wX7_change_16 x1 x2 Q M3)))))))) := h
  refine wl_aload_n C dX7_change_0 0 rfl ?_
  refine wl_iload_n C dX7_change_1 1 rfl ?_
  refine wl_callVi C (cX7_isBelowCount_M l G hg hA x1 M _) h cw_RX7_105 hd_X7_isBelowCount ⟨rfl, rfl⟩ ⟨by decide, by decide⟩ (gic_7 hA kq_0) (gc_k kq_0) rfl (As := [.int x1]) (rest := []) rfl (Nat.le_of_ble_eq_true rfl) ⟨Nat.zero_le _, Nat.zero_le _⟩ rfl dX7_change_2 (fun r2 M1 h => ?_)
  refine wl_if_eq C (tgt := 16) dX7_change_5 (by decide) (fun hc => ?_) (fun hc => ?_)
  · have h := h.1 hc
    refine wl_sub [] rfl ?_
    exact kX7_change_16 l G hg hA x1 x2 C hr M1 h
  · have h := h.2 hc
    refine wl_aload_n C dX7_change_8 0 rfl ?_
    refine wl_iload_n C dX7_change_9 2 rfl ?_
    refine wl_callVi C (cX7_isBelowCount_M l G hg hA x2 M1 _) h cw_RX7_105 hd_X7_isBelowCount ⟨rfl, rfl⟩ ⟨by decide, by decide⟩ (gic_7 hA kq_0) (gc_k kq_0) rfl (As := [.int x2]) (rest := []) rfl (Nat.le_of_ble_eq_true rfl) ⟨Nat.zero_le _, Nat.zero_le _⟩ rfl dX7_change_10 (fun r4 M3 h => ?_)
    refine wl_if_ne C (tgt := 18) dX7_change_13 (by decide) (fun hc => ?_) (fun hc => ?_)
    · have h := h.1 hc
      refine wl_aload_n C dX7_change_18 0 rfl ?_
      refine gf_7_10 C kq_0 (gic_7 hA kq_0) tw_227 dX7_change_19 ?_
      refine gfN_2_0 C kq_61 (gic_2 hA kq_61) (List.mem_of_getElem? (i := 11) rfl) dX7_change_22 ?_
      refine wl_iload_n C dX7_change_25 1 rfl ?_
      refine wl_iload_n C dX7_change_26 2 rfl ?_
      refine wl_callVv C (cX1_swap_M l G hg hA 62 x1 x2 kq_62 M3 _) h cw_RX7_129 hd_X1_swap ⟨rfl, rfl⟩ ⟨by decide, by decide⟩ (gic_1 hA kq_62) (gc_k kq_62) rfl (As := [.int x1, .int x2]) (rest := []) rfl (Nat.le_of_ble_eq_true rfl) ⟨Nat.zero_le _, Nat.zero_le _⟩ rfl dX7_change_27 (fun M5 h => ?_)
      refine wl_aload_n C dX7_change_30 0 rfl ?_
      refine gf_7_10 C kq_0 (gic_7 hA kq_0) tw_227 dX7_change_31 ?_
      refine gfN_2_0 C kq_61 (gic_2 hA kq_61) (List.mem_of_getElem? (i := 11) rfl) dX7_change_34 ?_
      refine wl_iload_n C dX7_change_37 1 rfl ?_
      refine wl_callVi C (cX1_leafAt_M l G hg hA 62 x1 kq_62 M5 _) h cw_RX7_112 hd_X1_leafAt ⟨rfl, rfl⟩ ⟨by decide, by decide⟩ (gic_1 hA kq_62) (gc_k kq_62) rfl (As := [.int x1]) (rest := []) rfl (Nat.le_of_ble_eq_true rfl) ⟨Nat.zero_le _, Nat.zero_le _⟩ rfl dX7_change_38 (fun r7 M6 h => ?_)
      exact wl_iret C hr h dX7_change_41
    · have h := h.2 hc
      refine wl_sub [] rfl ?_
      exact kX7_change_16 l G hg hA x1 x2 C hr M3 h
set_option maxRecDepth 100000 in
set_option maxHeartbeats 4000000 in
theorem cX7_drop_M (l : Launch) (G : gP) (hg : gIn G) (hA : gCl G) (x1 : Int32) (M : Mem) (Q : Int32 → Mem → Prop) : Met l yX7_drop (Cond.code yX7_drop cX7_drop 2 (some (Jvm.ClassFile.FieldType.int)) :: TB) rmX7_drop (va_Pc [.ref (gAD G 0), .int x1] (fun U => gS G M U ∧ wX7_drop x1 M Q)) (va_Qi Q (gB G) (gA G)) 0 0 (gA G) := by
  refine gMet (by decide +kernel) (show _ = Cond.code yX7_drop cX7_drop 2 (some (Jvm.ClassFile.FieldType.int)) from rfl) hg (Nat.le_of_ble_eq_true rfl) [(0, .ref (gAD G 0)), (1, .int x1)] rfl ?_
  intro p e s m args below meth c C hr h
  have h : (wX7_within x1 (0 : Int32) (9999 : Int32) M (fun r2 M1 => ((¬ r2 = 0 → (wX2_fall 61 x1 M1 (fun M3 => (wX1_leafAt 62 (0 : Int32) M3 (fun r5 M4 => Q r5 M4))))) ∧ (r2 = 0 → Q (-1 : Int32) M1)))) := h
  refine wl_iload_n C dX7_drop_0 1 rfl ?_
  refine wl_iconst (v := 0) C dX7_drop_1 (by decide) ?_
  refine wl_sipush (v := 9999) C dX7_drop_2 (by decide) ?_
  refine wl_callSi C (cX7_within_M l G hg hA x1 (0 : Int32) (9999 : Int32) M _) h cw_RX7_78 hd_X7_within ⟨rfl, rfl⟩ ⟨by decide, by decide⟩ (As := [.int x1, .int (0 : Int32), .int (9999 : Int32)]) (rest := []) rfl (Nat.le_of_ble_eq_true rfl) ⟨Nat.zero_le _, Nat.zero_le _⟩ rfl dX7_drop_5 (fun r2 M1 h => ?_)
  refine wl_if_ne C (tgt := 13) dX7_drop_8 (by decide) (fun hc => ?_) (fun hc => ?_)
  · have h := h.1 hc
    refine wl_aload_n C dX7_drop_13 0 rfl ?_
    refine gf_7_10 C kq_0 (gic_7 hA kq_0) tw_227 dX7_drop_14 ?_
    refine wl_iload_n C dX7_drop_17 1 rfl ?_
    refine wl_callVv C (cX2_fall_M l G hg hA 61 x1 kq_61 M1 _) h cw_RX7_133 hd_X2_fall ⟨rfl, rfl⟩ ⟨by decide, by decide⟩ (gic_2 hA kq_61) (gc_k kq_61) rfl (As := [.int x1]) (rest := []) rfl (Nat.le_of_ble_eq_true rfl) ⟨Nat.zero_le _, Nat.zero_le _⟩ rfl dX7_drop_18 (fun M3 h => ?_)
    refine wl_aload_n C dX7_drop_21 0 rfl ?_
    refine gf_7_10 C kq_0 (gic_7 hA kq_0) tw_227 dX7_drop_22 ?_
    refine gfN_2_0 C kq_61 (gic_2 hA kq_61) (List.mem_of_getElem? (i := 11) rfl) dX7_drop_25 ?_
    refine wl_iconst (v := 0) C dX7_drop_28 (by decide) ?_
    refine wl_callVi C (cX1_leafAt_M l G hg hA 62 (0 : Int32) kq_62 M3 _) h cw_RX7_112 hd_X1_leafAt ⟨rfl, rfl⟩ ⟨by decide, by decide⟩ (gic_1 hA kq_62) (gc_k kq_62) rfl (As := [.int (0 : Int32)]) (rest := []) rfl (Nat.le_of_ble_eq_true rfl) ⟨Nat.zero_le _, Nat.zero_le _⟩ rfl dX7_drop_29 (fun r5 M4 h => ?_)
    exact wl_iret C hr h dX7_drop_32
  · have h := h.2 hc
    refine wl_iconst (v := (-1)) C dX7_drop_11 (by decide) ?_
    exact wl_iret C hr h dX7_drop_12
set_option maxRecDepth 100000 in
set_option maxHeartbeats 4000000 in
theorem kX7_isReader_19 (l : Launch) (G : gP) (hg : gIn G) (hA : gCl G) (x0 : Int64) {p : Program} {e : Env} {s : State} {m : MethodId} {args : Array Value} {below : List Frame} {meth : Method} {c : Code} (C : Cx p s m args meth c G (gA G) cX7_isReader 2 RX7) (hr : meth.sig.returnType = (some (Jvm.ClassFile.FieldType.boolean))) {Q : Int32 → Mem → Prop} (s0 : Int32) (M : Mem) (h : wX7_isReader_19 x0 Q s0 M) : Wl p l e rmX7_isReader s m args below meth c (MQ below (va_Qi Q (gB G) (gA G)) args s 0 0 (gA G)) G (gA G) 2 0 0 M 19 [] [.int s0] := by
  have h : ((s0 = 0 ∨ s0 = 1) ∧ Q s0 M) := h
  exact wl_zret C hr h.1 h.2 dX7_isReader_19
set_option maxRecDepth 100000 in
set_option maxHeartbeats 4000000 in
theorem kX7_isReader_18 (l : Launch) (G : gP) (hg : gIn G) (hA : gCl G) (x0 : Int64) {p : Program} {e : Env} {s : State} {m : MethodId} {args : Array Value} {below : List Frame} {meth : Method} {c : Code} (C : Cx p s m args meth c G (gA G) cX7_isReader 2 RX7) (hr : meth.sig.returnType = (some (Jvm.ClassFile.FieldType.boolean))) {Q : Int32 → Mem → Prop} (M : Mem) (h : wX7_isReader_18 x0 Q M) : Wl p l e rmX7_isReader s m args below meth c (MQ below (va_Qi Q (gB G) (gA G)) args s 0 0 (gA G)) G (gA G) 2 0 0 M 18 [] [] := by
  have h : wX7_isReader_19 x0 Q (0 : Int32) M := h
  refine wl_iconst (v := 0) C dX7_isReader_18 (by decide) ?_
  refine wl_sub [] rfl ?_
  exact kX7_isReader_19 l G hg hA x0 C hr (0 : Int32) M h
set_option maxRecDepth 100000 in
set_option maxHeartbeats 4000000 in
theorem cX7_isReader_M (l : Launch) (G : gP) (hg : gIn G) (hA : gCl G) (x0 : Int64) (M : Mem) (Q : Int32 → Mem → Prop) : Met l yX7_isReader (Cond.code yX7_isReader cX7_isReader 2 (some (Jvm.ClassFile.FieldType.boolean)) :: TB) rmX7_isReader (va_Pc [.long x0] (fun U => gS G M U ∧ wX7_isReader x0 M Q)) (va_Qi Q (gB G) (gA G)) 0 0 (gA G) := by
  refine gMet (by decide +kernel) (show _ = Cond.code yX7_isReader cX7_isReader 2 (some (Jvm.ClassFile.FieldType.boolean)) from rfl) hg (Nat.le_of_ble_eq_true rfl) [(0, .long x0)] rfl ?_
  intro p e s m args below meth c C hr h
  have h : (((lg_cmp x0 (0 : Int64)) < 0 → wX7_isReader_18 x0 Q M) ∧ (¬ (lg_cmp x0 (0 : Int64)) < 0 → ((0 < (lg_cmp x0 (1000000000000 : Int64)) → wX7_isReader_18 x0 Q M) ∧ (¬ 0 < (lg_cmp x0 (1000000000000 : Int64)) → wX7_isReader_19 x0 Q (1 : Int32) M)))) := h
  refine wl_lload_n C dX7_isReader_0 0 rfl ?_
  refine wl_lconst (v := 0) C dX7_isReader_1 (by decide) ?_
  refine wl_lcmp C dX7_isReader_2 ?_
  refine wl_if_lt C (tgt := 18) dX7_isReader_3 (by decide) (fun hc => ?_) (fun hc => ?_)
  · have h := h.1 hc
    refine wl_sub [] rfl ?_
    exact kX7_isReader_18 l G hg hA x0 C hr M h
  · have h := h.2 hc
    refine wl_lload_n C dX7_isReader_6 0 rfl ?_
    refine wl_ldc2 C tw_302 dX7_isReader_7 ?_
    refine wl_lcmp C dX7_isReader_10 ?_
    refine wl_if_gt C (tgt := 18) dX7_isReader_11 (by decide) (fun hc => ?_) (fun hc => ?_)
    · have h := h.1 hc
      refine wl_sub [] rfl ?_
      exact kX7_isReader_18 l G hg hA x0 C hr M h
    · have h := h.2 hc
      refine wl_iconst (v := 1) C dX7_isReader_14 (by decide) ?_
      refine wl_goto C (tgt := 19) dX7_isReader_15 (by decide) ?_
      refine wl_sub [] rfl ?_
      exact kX7_isReader_19 l G hg hA x0 C hr (1 : Int32) M h
set_option maxRecDepth 100000 in
set_option maxHeartbeats 4000000 in
theorem cX7_isTurn_M (l : Launch) (G : gP) (hg : gIn G) (hA : gCl G) (x1 : Int32) (M : Mem) (Q : Int32 → Mem → Prop) : Met l yX7_isTurn (Cond.code yX7_isTurn cX7_isTurn 2 (some (Jvm.ClassFile.FieldType.boolean)) :: TB) rmX7_isTurn (va_Pc [.ref (gAD G 0), .int x1] (fun U => gS G M U ∧ wX7_isTurn x1 M Q)) (va_Qi Q (gB G) (gA G)) 0 0 (gA G) := by
  refine gMet (by decide +kernel) (show _ = Cond.code yX7_isTurn cX7_isTurn 2 (some (Jvm.ClassFile.FieldType.boolean)) from rfl) hg (Nat.le_of_ble_eq_true rfl) [(0, .ref (gAD G 0)), (1, .int x1)] rfl ?_
  intro p e s m args below meth c C hr h
  have h : (kd (rid (M 0 2)) = 6 ∧ (wX7_within x1 (0 : Int32) ((M (rid (M 0 2)) 1) - (1 : Int32)) M (fun r3 M2 => ((r3 = 0 ∨ r3 = 1) ∧ Q r3 M2)))) := h
  refine wl_iload_n C dX7_isTurn_0 1 rfl ?_
  refine wl_iconst (v := 0) C dX7_isTurn_1 (by decide) ?_
  refine wl_aload_n C dX7_isTurn_2 0 rfl ?_
  refine gf_7_2 C kq_0 (gic_7 hA kq_0) tw_219 dX7_isTurn_3 ?_
  have hp1 := h.1
  have h := h.2
  refine gfN_6_1 C hp1 (gic_6 hA hp1) (List.mem_of_getElem? (i := 4) rfl) dX7_isTurn_6 ?_
  refine wl_iconst (v := 1) C dX7_isTurn_9 (by decide) ?_
  refine wl_isub C dX7_isTurn_10 ?_
  refine wl_callSi C (cX7_within_M l G hg hA x1 (0 : Int32) ((M (rid (M 0 2)) 1) - (1 : Int32)) M _) h cw_RX7_78 hd_X7_within ⟨rfl, rfl⟩ ⟨by decide, by decide⟩ (As := [.int x1, .int (0 : Int32), .int ((M (rid (M 0 2)) 1) - (1 : Int32))]) (rest := []) rfl (Nat.le_of_ble_eq_true rfl) ⟨Nat.zero_le _, Nat.zero_le _⟩ rfl dX7_isTurn_11 (fun r3 M2 h => ?_)
  exact wl_zret C hr h.1 h.2 dX7_isTurn_14
set_option maxRecDepth 100000 in
set_option maxHeartbeats 4000000 in
theorem cX7_leafHad_M (l : Launch) (G : gP) (hg : gIn G) (hA : gCl G) (x1 : Int64) (x3 : Int32) (M : Mem) (Q : Int32 → Mem → Prop) : Met l yX7_leafHad (Cond.code yX7_leafHad cX7_leafHad 4 (some (Jvm.ClassFile.FieldType.int)) :: TB) rmX7_leafHad (va_Pc [.ref (gAD G 0), .long x1, .int x3] (fun U => gS G M U ∧ wX7_leafHad x1 x3 M Q)) (va_Qi Q (gB G) (gA G)) 0 0 (gA G) := by
  refine gMet (by decide +kernel) (show _ = Cond.code yX7_leafHad cX7_leafHad 4 (some (Jvm.ClassFile.FieldType.int)) from rfl) hg (Nat.le_of_ble_eq_true rfl) [(0, .ref (gAD G 0)), (1, .long x1), (3, .int x3)] rfl ?_
  intro p e s m args below meth c C hr h
  have h : (wX3_placeRead 32 x1 x3 M (fun r2 M1 => (wX1_leafAt 22 r2 M1 (fun r4 M3 => Q r4 M3)))) := h
  refine wl_aload_n C dX7_leafHad_0 0 rfl ?_
  refine gf_7_3 C kq_0 (gic_7 hA kq_0) tw_220 dX7_leafHad_1 ?_
  refine wl_aload_n C dX7_leafHad_4 0 rfl ?_
  refine gf_7_5 C kq_0 (gic_7 hA kq_0) tw_222 dX7_leafHad_5 ?_
  refine wl_lload_n C dX7_leafHad_8 1 rfl ?_
  refine wl_iload_n C dX7_leafHad_9 2 rfl ?_
  refine wl_callVi C (cX3_placeRead_M l G hg hA 32 x1 x3 kq_32 M _) h cw_RX7_175 hd_X3_placeRead ⟨rfl, rfl⟩ ⟨by decide, by decide⟩ (gic_3 hA kq_32) (gc_k kq_32) rfl (As := [.long x1, .int x3]) (rest := [.ref (gAD G 22)]) rfl (Nat.le_of_ble_eq_true rfl) ⟨Nat.zero_le _, Nat.zero_le _⟩ rfl dX7_leafHad_10 (fun r2 M1 h => ?_)
  refine wl_callVi C (cX1_leafAt_M l G hg hA 22 r2 kq_22 M1 _) h cw_RX7_112 hd_X1_leafAt ⟨rfl, rfl⟩ ⟨by decide, by decide⟩ (gic_1 hA kq_22) (gc_k kq_22) rfl (As := [.int r2]) (rest := []) rfl (Nat.le_of_ble_eq_true rfl) ⟨Nat.zero_le _, Nat.zero_le _⟩ rfl dX7_leafHad_13 (fun r4 M3 h => ?_)
  exact wl_iret C hr h dX7_leafHad_16
set_option maxRecDepth 100000 in
set_option maxHeartbeats 4000000 in
theorem kX7_has_15 (l : Launch) (G : gP) (hg : gIn G) (hA : gCl G) (x1 : Int64) (x3 : Int32) {p : Program} {e : Env} {s : State} {m : MethodId} {args : Array Value} {below : List Frame} {meth : Method} {c : Code} (C : Cx p s m args meth c G (gA G) cX7_has 4 RX7) (hr : meth.sig.returnType = (some (Jvm.ClassFile.FieldType.int))) {Q : Int32 → Mem → Prop} (M : Mem) (h : wX7_has_15 x1 x3 Q M) : Wl p l e rmX7_has s m args below meth c (MQ below (va_Qi Q (gB G) (gA G)) args s 0 0 (gA G)) G (gA G) 4 0 0 M 15 [] [] := by
  have h : Q (-1 : Int32) M := h
  refine wl_iconst (v := (-1)) C dX7_has_15 (by decide) ?_
  exact wl_iret C hr h dX7_has_16
set_option maxRecDepth 100000 in
set_option maxHeartbeats 4000000 in
theorem cX7_has_M (l : Launch) (G : gP) (hg : gIn G) (hA : gCl G) (x1 : Int64) (x3 : Int32) (M : Mem) (Q : Int32 → Mem → Prop) : Met l yX7_has (Cond.code yX7_has cX7_has 4 (some (Jvm.ClassFile.FieldType.int)) :: TB) rmX7_has (va_Pc [.ref (gAD G 0), .long x1, .int x3] (fun U => gS G M U ∧ wX7_has x1 x3 M Q)) (va_Qi Q (gB G) (gA G)) 0 0 (gA G) := by
  refine gMet (by decide +kernel) (show _ = Cond.code yX7_has cX7_has 4 (some (Jvm.ClassFile.FieldType.int)) from rfl) hg (Nat.le_of_ble_eq_true rfl) [(0, .ref (gAD G 0)), (1, .long x1), (3, .int x3)] rfl ?_
  intro p e s m args below meth c C hr h
  have h : (wX7_isReader x1 M (fun r2 M1 => ((r2 = 0 → wX7_has_15 x1 x3 Q M1) ∧ (¬ r2 = 0 → (wX7_isTurn x3 M1 (fun r4 M3 => ((¬ r4 = 0 → (wX7_leafHad x1 x3 M3 (fun r6 M5 => Q r6 M5))) ∧ (r4 = 0 → wX7_has_15 x1 x3 Q M3)))))))) := h
  refine wl_lload_n C dX7_has_0 1 rfl ?_
  refine wl_callSi C (cX7_isReader_M l G hg hA x1 M _) h cw_RX7_136 hd_X7_isReader ⟨rfl, rfl⟩ ⟨by decide, by decide⟩ (As := [.long x1]) (rest := []) rfl (Nat.le_of_ble_eq_true rfl) ⟨Nat.zero_le _, Nat.zero_le _⟩ rfl dX7_has_1 (fun r2 M1 h => ?_)
  refine wl_if_eq C (tgt := 15) dX7_has_4 (by decide) (fun hc => ?_) (fun hc => ?_)
  · have h := h.1 hc
    refine wl_sub [] rfl ?_
    exact kX7_has_15 l G hg hA x1 x3 C hr M1 h
  · have h := h.2 hc
    refine wl_aload_n C dX7_has_7 0 rfl ?_
    refine wl_iload_n C dX7_has_8 2 rfl ?_
    refine wl_callVi C (cX7_isTurn_M l G hg hA x3 M1 _) h cw_RX7_140 hd_X7_isTurn ⟨rfl, rfl⟩ ⟨by decide, by decide⟩ (gic_7 hA kq_0) (gc_k kq_0) rfl (As := [.int x3]) (rest := []) rfl (Nat.le_of_ble_eq_true rfl) ⟨Nat.zero_le _, Nat.zero_le _⟩ rfl dX7_has_9 (fun r4 M3 h => ?_)
    refine wl_if_ne C (tgt := 17) dX7_has_12 (by decide) (fun hc => ?_) (fun hc => ?_)
    · have h := h.1 hc
      refine wl_aload_n C dX7_has_17 0 rfl ?_
      refine wl_lload_n C dX7_has_18 1 rfl ?_
      refine wl_iload_n C dX7_has_19 2 rfl ?_
      refine wl_callVi C (cX7_leafHad_M l G hg hA x1 x3 M3 _) h cw_RX7_143 hd_X7_leafHad ⟨rfl, rfl⟩ ⟨by decide, by decide⟩ (gic_7 hA kq_0) (gc_k kq_0) rfl (As := [.long x1, .int x3]) (rest := []) rfl (Nat.le_of_ble_eq_true rfl) ⟨Nat.zero_le _, Nat.zero_le _⟩ rfl dX7_has_20 (fun r6 M5 h => ?_)
      exact wl_iret C hr h dX7_has_23
    · have h := h.2 hc
      refine wl_sub [] rfl ?_
      exact kX7_has_15 l G hg hA x1 x3 C hr M3 h
set_option maxRecDepth 100000 in
set_option maxHeartbeats 4000000 in
theorem cX7_bit_M (l : Launch) (G : gP) (hg : gIn G) (hA : gCl G) (x0 : Int32) (M : Mem) (Q : Int64 → Mem → Prop) : Met l yX7_bit (Cond.code yX7_bit cX7_bit 1 (some (Jvm.ClassFile.FieldType.long)) :: TB) rmX7_bit (va_Pc [.int x0] (fun U => gS G M U ∧ wX7_bit x0 M Q)) (va_Ql Q (gB G) (gA G)) 0 0 (gA G) := by
  refine gMet (by decide +kernel) (show _ = Cond.code yX7_bit cX7_bit 1 (some (Jvm.ClassFile.FieldType.long)) from rfl) hg (Nat.le_of_ble_eq_true rfl) [(0, .int x0)] rfl ?_
  intro p e s m args below meth c C hr h
  have h : Q ((1 : Int64) <<< (x0.toInt64 &&& 63)) M := h
  refine wl_lconst (v := 1) C dX7_bit_0 (by decide) ?_
  refine wl_iload_n C dX7_bit_1 0 rfl ?_
  refine wl_lshl C dX7_bit_2 ?_
  exact wl_lret C hr h dX7_bit_3
set_option maxRecDepth 100000 in
set_option maxHeartbeats 4000000 in
theorem kX7_leavesHad_5 (l : Launch) (G : gP) (hg : gIn G) (hA : gCl G) (x1 : Int64) {p : Program} {e : Env} {s : State} {m : MethodId} {args : Array Value} {below : List Frame} {meth : Method} {c : Code} (C : Cx p s m args meth c G (gA G) cX7_leavesHad 6 RX7) (hr : meth.sig.returnType = (some (Jvm.ClassFile.FieldType.long))) {Q : Int64 → Mem → Prop} : ∀ (n : Nat) (v3 : Int64) (v5 : Int32) (M : Mem), wX7_leavesHad_5 x1 Q n v3 v5 M → Wl p l e rmX7_leavesHad s m args below meth c (MQ below (va_Ql Q (gB G) (gA G)) args s 0 0 (gA G)) G (gA G) 6 0 0 M 5 [(0, .ref (gAD G 0)), (1, .long x1), (3, .long v3), (5, .int v5)] [] := by
  intro n
  induction n with
  | zero => intro v3 v5 M h; exact h.elim
  | succ n ih =>
    intro v3 v5 M h
    have h : (kd (rid (M 0 2)) = 6 ∧ (((M (rid (M 0 2)) 1) ≤ v5 → Q v3 M) ∧ (¬ (M (rid (M 0 2)) 1) ≤ v5 → (wX7_leafHad x1 v5 M (fun r4 M3 => (wX7_bit r4 M3 (fun r6 M5 => wX7_leavesHad_5 x1 Q n (v3 ||| r6) (v5 + (1 : Int32)) M5))))))) := h
    refine wl_iload C dX7_leavesHad_5 3 rfl ?_
    refine wl_aload_n C dX7_leavesHad_7 0 rfl ?_
    refine gf_7_2 C kq_0 (gic_7 hA kq_0) tw_219 dX7_leavesHad_8 ?_
    have hp2 := h.1
    have h := h.2
    refine gfN_6_1 C hp2 (gic_6 hA hp2) (List.mem_of_getElem? (i := 4) rfl) dX7_leavesHad_11 ?_
    refine wl_icmp_ge C (tgt := 36) dX7_leavesHad_14 (by decide) (fun hc => ?_) (fun hc => ?_)
    · have h := h.1 hc
      refine wl_lload_n C dX7_leavesHad_36 2 rfl ?_
      exact wl_lret C hr h dX7_leavesHad_37
    · have h := h.2 hc
      refine wl_lload_n C dX7_leavesHad_17 2 rfl ?_
      refine wl_aload_n C dX7_leavesHad_18 0 rfl ?_
      refine wl_lload_n C dX7_leavesHad_19 1 rfl ?_
      refine wl_iload C dX7_leavesHad_20 3 rfl ?_
      refine wl_callVi C (cX7_leafHad_M l G hg hA x1 v5 M _) h cw_RX7_143 hd_X7_leafHad ⟨rfl, rfl⟩ ⟨by decide, by decide⟩ (gic_7 hA kq_0) (gc_k kq_0) rfl (As := [.long x1, .int v5]) (rest := [.long v3]) rfl (Nat.le_of_ble_eq_true rfl) ⟨Nat.zero_le _, Nat.zero_le _⟩ rfl dX7_leavesHad_22 (fun r4 M3 h => ?_)
      refine wl_callSl C (cX7_bit_M l G hg hA r4 M3 _) h cw_RX7_162 hd_X7_bit ⟨rfl, rfl⟩ ⟨by decide, by decide⟩ (As := [.int r4]) (rest := [.long v3]) rfl (Nat.le_of_ble_eq_true rfl) ⟨Nat.zero_le _, Nat.zero_le _⟩ rfl dX7_leavesHad_25 (fun r6 M5 h => ?_)
      refine wl_lor C dX7_leavesHad_28 ?_
      refine wl_lstore_n (i := 3) (lv' := [(3, .long (v3 ||| r6)), (0, .ref (gAD G 0)), (1, .long x1), (5, .int v5)]) C dX7_leavesHad_29 rfl (by decide) rfl ?_
      refine wl_iinc (v := (v5 + (1 : Int32))) (lv' := [(5, .int (v5 + (1 : Int32))), (3, .long (v3 ||| r6)), (0, .ref (gAD G 0)), (1, .long x1)]) C dX7_leavesHad_30 3 rfl (by rfl) (by decide) rfl ?_
      refine wl_goto C (tgt := 5) dX7_leavesHad_33 (by decide) ?_
      refine wl_sub [2, 3, 1, 0] rfl ?_
      exact ih (v3 ||| r6) (v5 + (1 : Int32)) M5 h
set_option maxRecDepth 100000 in
set_option maxHeartbeats 4000000 in
theorem cX7_leavesHad_M (l : Launch) (G : gP) (hg : gIn G) (hA : gCl G) (x1 : Int64) (M : Mem) (Q : Int64 → Mem → Prop) : Met l yX7_leavesHad (Cond.code yX7_leavesHad cX7_leavesHad 6 (some (Jvm.ClassFile.FieldType.long)) :: TB) rmX7_leavesHad (va_Pc [.ref (gAD G 0), .long x1] (fun U => gS G M U ∧ wX7_leavesHad x1 M Q)) (va_Ql Q (gB G) (gA G)) 0 0 (gA G) := by
  refine gMet (by decide +kernel) (show _ = Cond.code yX7_leavesHad cX7_leavesHad 6 (some (Jvm.ClassFile.FieldType.long)) from rfl) hg (Nat.le_of_ble_eq_true rfl) [(0, .ref (gAD G 0)), (1, .long x1)] rfl ?_
  intro p e s m args below meth c C hr h
  have h : (∃ n1, wX7_leavesHad_5 x1 Q n1 (0 : Int64) (0 : Int32) M) := h
  refine wl_lconst (v := 0) C dX7_leavesHad_0 (by decide) ?_
  refine wl_lstore_n (i := 3) (lv' := [(3, .long (0 : Int64)), (0, .ref (gAD G 0)), (1, .long x1)]) C dX7_leavesHad_1 rfl (by decide) rfl ?_
  refine wl_iconst (v := 0) C dX7_leavesHad_2 (by decide) ?_
  refine wl_istore (i := 5) (lv' := [(5, .int (0 : Int32)), (3, .long (0 : Int64)), (0, .ref (gAD G 0)), (1, .long x1)]) C dX7_leavesHad_3 (by decide) rfl ?_
  refine wl_sub [2, 3, 1, 0] rfl ?_
  obtain ⟨n1, h⟩ := h
  exact kX7_leavesHad_5 l G hg hA x1 C hr n1 (0 : Int64) (0 : Int32) M h
set_option maxRecDepth 100000 in
set_option maxHeartbeats 4000000 in
theorem kX7_leaves_18 (l : Launch) (G : gP) (hg : gIn G) (hA : gCl G) (x1 : Int64) {p : Program} {e : Env} {s : State} {m : MethodId} {args : Array Value} {below : List Frame} {meth : Method} {c : Code} (C : Cx p s m args meth c G (gA G) cX7_leaves 3 RX7) (hr : meth.sig.returnType = (some (Jvm.ClassFile.FieldType.long))) {Q : Int64 → Mem → Prop} (s0 : Int64) (M : Mem) (h : wX7_leaves_18 x1 Q s0 M) : Wl p l e rmX7_leaves s m args below meth c (MQ below (va_Ql Q (gB G) (gA G)) args s 0 0 (gA G)) G (gA G) 3 0 0 M 18 [] [.long s0] := by
  have h : Q s0 M := h
  exact wl_lret C hr h dX7_leaves_18
set_option maxRecDepth 100000 in
set_option maxHeartbeats 4000000 in
theorem cX7_leaves_M (l : Launch) (G : gP) (hg : gIn G) (hA : gCl G) (x1 : Int64) (M : Mem) (Q : Int64 → Mem → Prop) : Met l yX7_leaves (Cond.code yX7_leaves cX7_leaves 3 (some (Jvm.ClassFile.FieldType.long)) :: TB) rmX7_leaves (va_Pc [.ref (gAD G 0), .long x1] (fun U => gS G M U ∧ wX7_leaves x1 M Q)) (va_Ql Q (gB G) (gA G)) 0 0 (gA G) := by
  refine gMet (by decide +kernel) (show _ = Cond.code yX7_leaves cX7_leaves 3 (some (Jvm.ClassFile.FieldType.long)) from rfl) hg (Nat.le_of_ble_eq_true rfl) [(0, .ref (gAD G 0)), (1, .long x1)] rfl ?_
  intro p e s m args below meth c C hr h
  have h : (wX7_isReader x1 M (fun r2 M1 => ((r2 = 0 → wX7_leaves_18 x1 Q (-1 : Int64) M1) ∧ (¬ r2 = 0 → (wX7_leavesHad x1 M1 (fun r4 M3 => wX7_leaves_18 x1 Q r4 M3)))))) := h
  refine wl_lload_n C dX7_leaves_0 1 rfl ?_
  refine wl_callSi C (cX7_isReader_M l G hg hA x1 M _) h cw_RX7_136 hd_X7_isReader ⟨rfl, rfl⟩ ⟨by decide, by decide⟩ (As := [.long x1]) (rest := []) rfl (Nat.le_of_ble_eq_true rfl) ⟨Nat.zero_le _, Nat.zero_le _⟩ rfl dX7_leaves_1 (fun r2 M1 h => ?_)
  refine wl_if_eq C (tgt := 15) dX7_leaves_4 (by decide) (fun hc => ?_) (fun hc => ?_)
  · have h := h.1 hc
    refine wl_ldc2 C tw_329 dX7_leaves_15 ?_
    refine wl_sub [] rfl ?_
    exact kX7_leaves_18 l G hg hA x1 C hr (-1 : Int64) M1 h
  · have h := h.2 hc
    refine wl_aload_n C dX7_leaves_7 0 rfl ?_
    refine wl_lload_n C dX7_leaves_8 1 rfl ?_
    refine wl_callVl C (cX7_leavesHad_M l G hg hA x1 M1 _) h cw_RX7_147 hd_X7_leavesHad ⟨rfl, rfl⟩ ⟨by decide, by decide⟩ (gic_7 hA kq_0) (gc_k kq_0) rfl (As := [.long x1]) (rest := []) rfl (Nat.le_of_ble_eq_true rfl) ⟨Nat.zero_le _, Nat.zero_le _⟩ rfl dX7_leaves_9 (fun r4 M3 h => ?_)
    refine wl_goto C (tgt := 18) dX7_leaves_12 (by decide) ?_
    refine wl_sub [] rfl ?_
    exact kX7_leaves_18 l G hg hA x1 C hr r4 M3 h
set_option maxRecDepth 100000 in
set_option maxHeartbeats 4000000 in
theorem cX7_period_M (l : Launch) (G : gP) (hg : gIn G) (hA : gCl G) (M : Mem) (Q : Int32 → Mem → Prop) : Met l yX7_period (Cond.code yX7_period cX7_period 1 (some (Jvm.ClassFile.FieldType.int)) :: TB) rmX7_period (va_Pc [.ref (gAD G 0)] (fun U => gS G M U ∧ wX7_period M Q)) (va_Qi Q (gB G) (gA G)) 0 0 (gA G) := by
  refine gMet (by decide +kernel) (show _ = Cond.code yX7_period cX7_period 1 (some (Jvm.ClassFile.FieldType.int)) from rfl) hg (Nat.le_of_ble_eq_true rfl) [(0, .ref (gAD G 0))] rfl ?_
  intro p e s m args below meth c C hr h
  have h : (wX3_roundsTogether 32 M (fun r2 M1 => Q r2 M1)) := h
  refine wl_aload_n C dX7_period_0 0 rfl ?_
  refine gf_7_5 C kq_0 (gic_7 hA kq_0) tw_222 dX7_period_1 ?_
  refine wl_callVi C (cX3_roundsTogether_M l G hg hA 32 kq_32 M _) h cw_RX7_153 hd_X3_roundsTogether ⟨rfl, rfl⟩ ⟨by decide, by decide⟩ (gic_3 hA kq_32) (gc_k kq_32) rfl (As := []) (rest := []) rfl (Nat.le_of_ble_eq_true rfl) ⟨Nat.zero_le _, Nat.zero_le _⟩ rfl dX7_period_4 (fun r2 M1 h => ?_)
  exact wl_iret C hr h dX7_period_7
set_option maxRecDepth 100000 in
set_option maxHeartbeats 4000000 in
theorem kX7_ever_77 (l : Launch) (G : gP) (hg : gIn G) (hA : gCl G) (x1 : Int32) {p : Program} {e : Env} {s : State} {m : MethodId} {args : Array Value} {below : List Frame} {meth : Method} {c : Code} (C : Cx p s m args meth c G (gA G) cX7_ever 6 RX7) (hr : meth.sig.returnType = (some (Jvm.ClassFile.FieldType.long))) {Q : Int64 → Mem → Prop} (k_18 : Int64 → Int32 → Mem → Prop) (hk_18 : ∀ (v2 : Int64) (v4 : Int32) (M : Mem), k_18 v2 v4 M → Wl p l e rmX7_ever s m args below meth c (MQ below (va_Ql Q (gB G) (gA G)) args s 0 0 (gA G)) G (gA G) 6 0 0 M 18 [(0, .ref (gAD G 0)), (1, .int x1), (2, .long v2), (4, .int v4)] []) (v2 : Int64) (v4 : Int32) (M : Mem) (h : wX7_ever_77 x1 k_18 Q v2 v4 M) : Wl p l e rmX7_ever s m args below meth c (MQ below (va_Ql Q (gB G) (gA G)) args s 0 0 (gA G)) G (gA G) 6 0 0 M 77 [(0, .ref (gAD G 0)), (1, .int x1), (2, .long v2), (4, .int v4)] [] := by
  have h : k_18 v2 (v4 + (1 : Int32)) M := h
  refine wl_iinc (v := (v4 + (1 : Int32))) (lv' := [(4, .int (v4 + (1 : Int32))), (0, .ref (gAD G 0)), (1, .int x1), (2, .long v2)]) C dX7_ever_77 3 rfl (by rfl) (by decide) rfl ?_
  refine wl_goto C (tgt := 18) dX7_ever_80 (by decide) ?_
  refine wl_sub [1, 2, 3, 0] rfl ?_
  exact hk_18 v2 (v4 + (1 : Int32)) M h
set_option maxRecDepth 100000 in
set_option maxHeartbeats 4000000 in
theorem kX7_ever_55 (l : Launch) (G : gP) (hg : gIn G) (hA : gCl G) (x1 : Int32) {p : Program} {e : Env} {s : State} {m : MethodId} {args : Array Value} {below : List Frame} {meth : Method} {c : Code} (C : Cx p s m args meth c G (gA G) cX7_ever 6 RX7) (hr : meth.sig.returnType = (some (Jvm.ClassFile.FieldType.long))) {Q : Int64 → Mem → Prop} (k_18 : Int64 → Int32 → Mem → Prop) (hk_18 : ∀ (v2 : Int64) (v4 : Int32) (M : Mem), k_18 v2 v4 M → Wl p l e rmX7_ever s m args below meth c (MQ below (va_Ql Q (gB G) (gA G)) args s 0 0 (gA G)) G (gA G) 6 0 0 M 18 [(0, .ref (gAD G 0)), (1, .int x1), (2, .long v2), (4, .int v4)] []) (v2 : Int64) (v4 : Int32) (s0 : Int32) (M : Mem) (h : wX7_ever_55 x1 k_18 Q v2 v4 s0 M) : Wl p l e rmX7_ever s m args below meth c (MQ below (va_Ql Q (gB G) (gA G)) args s 0 0 (gA G)) G (gA G) 6 0 0 M 55 [(0, .ref (gAD G 0)), (1, .int x1), (2, .long v2), (4, .int v4)] [.int s0] := by
  have h : ((s0 = 0 → wX7_ever_77 x1 (k_18) Q v2 v4 M) ∧ (¬ s0 = 0 → (wX1_leafAt 22 v4 M (fun r10 M9 => (wX7_bit r10 M9 (fun r12 M11 => wX7_ever_77 x1 (k_18) Q (v2 ||| r12) v4 M11)))))) := h
  refine wl_istore (i := 5) (lv' := [(5, .int s0), (0, .ref (gAD G 0)), (1, .int x1), (2, .long v2), (4, .int v4)]) C dX7_ever_55 (by decide) rfl ?_
  refine wl_iload C dX7_ever_57 0 rfl ?_
  refine wl_if_eq C (tgt := 77) dX7_ever_59 (by decide) (fun hc => ?_) (fun hc => ?_)
  · have h := h.1 hc
    refine wl_sub [1, 2, 3, 4] rfl ?_
    exact kX7_ever_77 l G hg hA x1 C hr (k_18) (hk_18) v2 v4 M h
  · have h := h.2 hc
    refine wl_lload_n C dX7_ever_62 3 rfl ?_
    refine wl_aload_n C dX7_ever_63 1 rfl ?_
    refine gf_7_3 C kq_0 (gic_7 hA kq_0) tw_220 dX7_ever_64 ?_
    refine wl_iload C dX7_ever_67 4 rfl ?_
    refine wl_callVi C (cX1_leafAt_M l G hg hA 22 v4 kq_22 M _) h cw_RX7_112 hd_X1_leafAt ⟨rfl, rfl⟩ ⟨by decide, by decide⟩ (gic_1 hA kq_22) (gc_k kq_22) rfl (As := [.int v4]) (rest := [.long v2]) rfl (Nat.le_of_ble_eq_true rfl) ⟨Nat.zero_le _, Nat.zero_le _⟩ rfl dX7_ever_69 (fun r10 M9 h => ?_)
    refine wl_callSl C (cX7_bit_M l G hg hA r10 M9 _) h cw_RX7_162 hd_X7_bit ⟨rfl, rfl⟩ ⟨by decide, by decide⟩ (As := [.int r10]) (rest := [.long v2]) rfl (Nat.le_of_ble_eq_true rfl) ⟨Nat.zero_le _, Nat.zero_le _⟩ rfl dX7_ever_72 (fun r12 M11 h => ?_)
    refine wl_lor C dX7_ever_75 ?_
    refine wl_lstore_n (i := 2) (lv' := [(2, .long (v2 ||| r12)), (5, .int s0), (0, .ref (gAD G 0)), (1, .int x1), (4, .int v4)]) C dX7_ever_76 rfl (by decide) rfl ?_
    refine wl_sub [2, 3, 0, 4] rfl ?_
    exact kX7_ever_77 l G hg hA x1 C hr (k_18) (hk_18) (v2 ||| r12) v4 M11 h
set_option maxRecDepth 100000 in
set_option maxHeartbeats 4000000 in
theorem kX7_ever_18 (l : Launch) (G : gP) (hg : gIn G) (hA : gCl G) (x1 : Int32) {p : Program} {e : Env} {s : State} {m : MethodId} {args : Array Value} {below : List Frame} {meth : Method} {c : Code} (C : Cx p s m args meth c G (gA G) cX7_ever 6 RX7) (hr : meth.sig.returnType = (some (Jvm.ClassFile.FieldType.long))) {Q : Int64 → Mem → Prop} : ∀ (n : Nat) (v2 : Int64) (v4 : Int32) (M : Mem), wX7_ever_18 x1 Q n v2 v4 M → Wl p l e rmX7_ever s m args below meth c (MQ below (va_Ql Q (gB G) (gA G)) args s 0 0 (gA G)) G (gA G) 6 0 0 M 18 [(0, .ref (gAD G 0)), (1, .int x1), (2, .long v2), (4, .int v4)] [] := by
  intro n
  induction n with
  | zero => intro v2 v4 M h; exact h.elim
  | succ n ih =>
    intro v2 v4 M h
    have h : (kd (rid (M 0 2)) = 6 ∧ (((M (rid (M 0 2)) 0) ≤ v4 → Q v2 M) ∧ (¬ (M (rid (M 0 2)) 0) ≤ v4 → ((¬ x1 = 0 → (wX3_isAlwaysRead 32 v4 M (fun r6 M5 => wX7_ever_55 x1 (wX7_ever_18 x1 Q n) Q v2 v4 r6 M5))) ∧ (x1 = 0 → (wX3_isNeverRead 32 v4 M (fun r8 M7 => wX7_ever_55 x1 (wX7_ever_18 x1 Q n) Q v2 v4 r8 M7))))))) := h
    refine wl_iload C dX7_ever_18 3 rfl ?_
    refine wl_aload_n C dX7_ever_20 0 rfl ?_
    refine gf_7_2 C kq_0 (gic_7 hA kq_0) tw_219 dX7_ever_21 ?_
    have hp4 := h.1
    have h := h.2
    refine gfN_6_0 C hp4 (gic_6 hA hp4) (List.mem_of_getElem? (i := 1) rfl) dX7_ever_24 ?_
    refine wl_icmp_ge C (tgt := 83) dX7_ever_27 (by decide) (fun hc => ?_) (fun hc => ?_)
    · have h := h.1 hc
      refine wl_lload_n C dX7_ever_83 2 rfl ?_
      exact wl_lret C hr h dX7_ever_84
    · have h := h.2 hc
      refine wl_iload_n C dX7_ever_30 1 rfl ?_
      refine wl_if_ne C (tgt := 46) dX7_ever_31 (by decide) (fun hc => ?_) (fun hc => ?_)
      · have h := h.1 hc
        refine wl_aload_n C dX7_ever_46 0 rfl ?_
        refine gf_7_5 C kq_0 (gic_7 hA kq_0) tw_222 dX7_ever_47 ?_
        refine wl_iload C dX7_ever_50 3 rfl ?_
        refine wl_callVi C (cX3_isAlwaysRead_M l G hg hA 32 v4 kq_32 M _) h cw_RX7_159 hd_X3_isAlwaysRead ⟨rfl, rfl⟩ ⟨by decide, by decide⟩ (gic_3 hA kq_32) (gc_k kq_32) rfl (As := [.int v4]) (rest := []) rfl (Nat.le_of_ble_eq_true rfl) ⟨Nat.zero_le _, Nat.zero_le _⟩ rfl dX7_ever_52 (fun r6 M5 h => ?_)
        refine wl_sub [0, 1, 2, 3] rfl ?_
        exact kX7_ever_55 l G hg hA x1 C hr (wX7_ever_18 x1 Q n) (ih) v2 v4 r6 M5 h
      · have h := h.2 hc
        refine wl_aload_n C dX7_ever_34 0 rfl ?_
        refine gf_7_5 C kq_0 (gic_7 hA kq_0) tw_222 dX7_ever_35 ?_
        refine wl_iload C dX7_ever_38 3 rfl ?_
        refine wl_callVi C (cX3_isNeverRead_M l G hg hA 32 v4 kq_32 M _) h cw_RX7_156 hd_X3_isNeverRead ⟨rfl, rfl⟩ ⟨by decide, by decide⟩ (gic_3 hA kq_32) (gc_k kq_32) rfl (As := [.int v4]) (rest := []) rfl (Nat.le_of_ble_eq_true rfl) ⟨Nat.zero_le _, Nat.zero_le _⟩ rfl dX7_ever_40 (fun r8 M7 h => ?_)
        refine wl_goto C (tgt := 55) dX7_ever_43 (by decide) ?_
        refine wl_sub [0, 1, 2, 3] rfl ?_
        exact kX7_ever_55 l G hg hA x1 C hr (wX7_ever_18 x1 Q n) (ih) v2 v4 r8 M7 h
set_option maxRecDepth 100000 in
set_option maxHeartbeats 4000000 in
theorem cX7_ever_M (l : Launch) (G : gP) (hg : gIn G) (hA : gCl G) (x1 : Int32) (M : Mem) (Q : Int64 → Mem → Prop) : Met l yX7_ever (Cond.code yX7_ever cX7_ever 6 (some (Jvm.ClassFile.FieldType.long)) :: TB) rmX7_ever (va_Pc [.ref (gAD G 0), .int x1] (fun U => gS G M U ∧ wX7_ever x1 M Q)) (va_Ql Q (gB G) (gA G)) 0 0 (gA G) := by
  refine gMet (by decide +kernel) (show _ = Cond.code yX7_ever cX7_ever 6 (some (Jvm.ClassFile.FieldType.long)) from rfl) hg (Nat.le_of_ble_eq_true rfl) [(0, .ref (gAD G 0)), (1, .int x1)] rfl ?_
  intro p e s m args below meth c C hr h
  have h : (wX7_within x1 (0 : Int32) (1 : Int32) M (fun r2 M1 => ((¬ r2 = 0 → (∃ n3, wX7_ever_18 x1 Q n3 (0 : Int64) (0 : Int32) M1)) ∧ (r2 = 0 → Q (-1 : Int64) M1)))) := h
  refine wl_iload_n C dX7_ever_0 1 rfl ?_
  refine wl_iconst (v := 0) C dX7_ever_1 (by decide) ?_
  refine wl_iconst (v := 1) C dX7_ever_2 (by decide) ?_
  refine wl_callSi C (cX7_within_M l G hg hA x1 (0 : Int32) (1 : Int32) M _) h cw_RX7_78 hd_X7_within ⟨rfl, rfl⟩ ⟨by decide, by decide⟩ (As := [.int x1, .int (0 : Int32), .int (1 : Int32)]) (rest := []) rfl (Nat.le_of_ble_eq_true rfl) ⟨Nat.zero_le _, Nat.zero_le _⟩ rfl dX7_ever_3 (fun r2 M1 h => ?_)
  refine wl_if_ne C (tgt := 13) dX7_ever_6 (by decide) (fun hc => ?_) (fun hc => ?_)
  · have h := h.1 hc
    refine wl_lconst (v := 0) C dX7_ever_13 (by decide) ?_
    refine wl_lstore_n (i := 2) (lv' := [(2, .long (0 : Int64)), (0, .ref (gAD G 0)), (1, .int x1)]) C dX7_ever_14 rfl (by decide) rfl ?_
    refine wl_iconst (v := 0) C dX7_ever_15 (by decide) ?_
    refine wl_istore (i := 4) (lv' := [(4, .int (0 : Int32)), (2, .long (0 : Int64)), (0, .ref (gAD G 0)), (1, .int x1)]) C dX7_ever_16 (by decide) rfl ?_
    refine wl_sub [2, 3, 1, 0] rfl ?_
    obtain ⟨n3, h⟩ := h
    exact kX7_ever_18 l G hg hA x1 C hr n3 (0 : Int64) (0 : Int32) M1 h
  · have h := h.2 hc
    refine wl_ldc2 C tw_329 dX7_ever_9 ?_
    exact wl_lret C hr h dX7_ever_12
set_option maxRecDepth 100000 in
set_option maxHeartbeats 4000000 in
theorem kX7_right_48 (l : Launch) (G : gP) (hg : gIn G) (hA : gCl G) (x1 : Int64) {p : Program} {e : Env} {s : State} {m : MethodId} {args : Array Value} {below : List Frame} {meth : Method} {c : Code} (C : Cx p s m args meth c G (gA G) cX7_right 5 RX7) (hr : meth.sig.returnType = (some (Jvm.ClassFile.FieldType.int))) {Q : Int32 → Mem → Prop} (k_14 : Int32 → Int32 → Mem → Prop) (hk_14 : ∀ (v3 : Int32) (v4 : Int32) (M : Mem), k_14 v3 v4 M → Wl p l e rmX7_right s m args below meth c (MQ below (va_Qi Q (gB G) (gA G)) args s 0 0 (gA G)) G (gA G) 5 0 0 M 14 [(0, .ref (gAD G 0)), (1, .long x1), (3, .int v3), (4, .int v4)] []) (v3 : Int32) (v4 : Int32) (M : Mem) (h : wX7_right_48 x1 k_14 Q v3 v4 M) : Wl p l e rmX7_right s m args below meth c (MQ below (va_Qi Q (gB G) (gA G)) args s 0 0 (gA G)) G (gA G) 5 0 0 M 48 [(0, .ref (gAD G 0)), (1, .long x1), (3, .int v3), (4, .int v4)] [] := by
  have h : k_14 v3 (v4 + (1 : Int32)) M := h
  refine wl_iinc (v := (v4 + (1 : Int32))) (lv' := [(4, .int (v4 + (1 : Int32))), (0, .ref (gAD G 0)), (1, .long x1), (3, .int v3)]) C dX7_right_48 3 rfl (by rfl) (by decide) rfl ?_
  refine wl_goto C (tgt := 14) dX7_right_51 (by decide) ?_
  refine wl_sub [1, 2, 3, 0] rfl ?_
  exact hk_14 v3 (v4 + (1 : Int32)) M h
set_option maxRecDepth 100000 in
set_option maxHeartbeats 4000000 in
theorem kX7_right_14 (l : Launch) (G : gP) (hg : gIn G) (hA : gCl G) (x1 : Int64) {p : Program} {e : Env} {s : State} {m : MethodId} {args : Array Value} {below : List Frame} {meth : Method} {c : Code} (C : Cx p s m args meth c G (gA G) cX7_right 5 RX7) (hr : meth.sig.returnType = (some (Jvm.ClassFile.FieldType.int))) {Q : Int32 → Mem → Prop} : ∀ (n : Nat) (v3 : Int32) (v4 : Int32) (M : Mem), wX7_right_14 x1 Q n v3 v4 M → Wl p l e rmX7_right s m args below meth c (MQ below (va_Qi Q (gB G) (gA G)) args s 0 0 (gA G)) G (gA G) 5 0 0 M 14 [(0, .ref (gAD G 0)), (1, .long x1), (3, .int v3), (4, .int v4)] [] := by
  intro n
  induction n with
  | zero => intro v3 v4 M h; exact h.elim
  | succ n ih =>
    intro v3 v4 M h
    have h : (kd (rid (M 0 2)) = 6 ∧ (wX6_toldTurns (rid (M 0 2)) M (fun r6 M5 => ((r6 ≤ v4 → Q v3 M5) ∧ (¬ r6 ≤ v4 → (wX7_leafHad x1 v4 M5 (fun r8 M7 => (kd (rid (M7 0 2)) = 6 ∧ (wX6_taleLeaf (rid (M7 0 2)) v4 M7 (fun r11 M10 => ((¬ r8 = r11 → wX7_right_48 x1 (wX7_right_14 x1 Q n) Q v3 v4 M10) ∧ (r8 = r11 → wX7_right_48 x1 (wX7_right_14 x1 Q n) Q (v3 + (1 : Int32)) v4 M10)))))))))))) := h
    refine wl_iload C dX7_right_14 3 rfl ?_
    refine wl_aload_n C dX7_right_16 0 rfl ?_
    refine gf_7_2 C kq_0 (gic_7 hA kq_0) tw_219 dX7_right_17 ?_
    have hp4 := h.1
    have h := h.2
    refine wl_callVi C (cX6_toldTurns_M l G hg hA (rid (M 0 2)) hp4 M _) h cw_RX7_166 hd_X6_toldTurns ⟨rfl, rfl⟩ ⟨by decide, by decide⟩ (gic_6 hA hp4) (gc_k hp4) rfl (As := []) (rest := [.int v4]) rfl (Nat.le_of_ble_eq_true rfl) ⟨Nat.zero_le _, Nat.zero_le _⟩ rfl dX7_right_20 (fun r6 M5 h => ?_)
    refine wl_icmp_ge C (tgt := 54) dX7_right_23 (by decide) (fun hc => ?_) (fun hc => ?_)
    · have h := h.1 hc
      refine wl_iload_n C dX7_right_54 2 rfl ?_
      exact wl_iret C hr h dX7_right_55
    · have h := h.2 hc
      refine wl_aload_n C dX7_right_26 0 rfl ?_
      refine wl_lload_n C dX7_right_27 1 rfl ?_
      refine wl_iload C dX7_right_28 3 rfl ?_
      refine wl_callVi C (cX7_leafHad_M l G hg hA x1 v4 M5 _) h cw_RX7_143 hd_X7_leafHad ⟨rfl, rfl⟩ ⟨by decide, by decide⟩ (gic_7 hA kq_0) (gc_k kq_0) rfl (As := [.long x1, .int v4]) (rest := []) rfl (Nat.le_of_ble_eq_true rfl) ⟨Nat.zero_le _, Nat.zero_le _⟩ rfl dX7_right_30 (fun r8 M7 h => ?_)
      refine wl_aload_n C dX7_right_33 0 rfl ?_
      refine gf_7_2 C kq_0 (gic_7 hA kq_0) tw_219 dX7_right_34 ?_
      have hp9 := h.1
      have h := h.2
      refine wl_iload C dX7_right_37 3 rfl ?_
      refine wl_callVi C (cX6_taleLeaf_M l G hg hA (rid (M7 0 2)) v4 hp9 M7 _) h cw_RX7_169 hd_X6_taleLeaf ⟨rfl, rfl⟩ ⟨by decide, by decide⟩ (gic_6 hA hp9) (gc_k hp9) rfl (As := [.int v4]) (rest := [.int r8]) rfl (Nat.le_of_ble_eq_true rfl) ⟨Nat.zero_le _, Nat.zero_le _⟩ rfl dX7_right_39 (fun r11 M10 h => ?_)
      refine wl_icmp_ne C (tgt := 48) dX7_right_42 (by decide) (fun hc => ?_) (fun hc => ?_)
      · have h := h.1 hc
        refine wl_sub [0, 1, 2, 3] rfl ?_
        exact kX7_right_48 l G hg hA x1 C hr (wX7_right_14 x1 Q n) (ih) v3 v4 M10 h
      · have h := h.2 hc
        refine wl_iinc (v := (v3 + (1 : Int32))) (lv' := [(3, .int (v3 + (1 : Int32))), (0, .ref (gAD G 0)), (1, .long x1), (4, .int v4)]) C dX7_right_45 2 rfl (by rfl) (by decide) rfl ?_
        refine wl_sub [1, 2, 0, 3] rfl ?_
        exact kX7_right_48 l G hg hA x1 C hr (wX7_right_14 x1 Q n) (ih) (v3 + (1 : Int32)) v4 M10 h
set_option maxRecDepth 100000 in
set_option maxHeartbeats 4000000 in
theorem cX7_right_M (l : Launch) (G : gP) (hg : gIn G) (hA : gCl G) (x1 : Int64) (M : Mem) (Q : Int32 → Mem → Prop) : Met l yX7_right (Cond.code yX7_right cX7_right 5 (some (Jvm.ClassFile.FieldType.int)) :: TB) rmX7_right (va_Pc [.ref (gAD G 0), .long x1] (fun U => gS G M U ∧ wX7_right x1 M Q)) (va_Qi Q (gB G) (gA G)) 0 0 (gA G) := by
  refine gMet (by decide +kernel) (show _ = Cond.code yX7_right cX7_right 5 (some (Jvm.ClassFile.FieldType.int)) from rfl) hg (Nat.le_of_ble_eq_true rfl) [(0, .ref (gAD G 0)), (1, .long x1)] rfl ?_
  intro p e s m args below meth c C hr h
  have h : (wX7_isReader x1 M (fun r2 M1 => ((¬ r2 = 0 → (∃ n3, wX7_right_14 x1 Q n3 (0 : Int32) (0 : Int32) M1)) ∧ (r2 = 0 → Q (-1 : Int32) M1)))) := h
  refine wl_lload_n C dX7_right_0 1 rfl ?_
  refine wl_callSi C (cX7_isReader_M l G hg hA x1 M _) h cw_RX7_136 hd_X7_isReader ⟨rfl, rfl⟩ ⟨by decide, by decide⟩ (As := [.long x1]) (rest := []) rfl (Nat.le_of_ble_eq_true rfl) ⟨Nat.zero_le _, Nat.zero_le _⟩ rfl dX7_right_1 (fun r2 M1 h => ?_)
  refine wl_if_ne C (tgt := 9) dX7_right_4 (by decide) (fun hc => ?_) (fun hc => ?_)
  · have h := h.1 hc
    refine wl_iconst (v := 0) C dX7_right_9 (by decide) ?_
    refine wl_istore_n (i := 3) (lv' := [(3, .int (0 : Int32)), (0, .ref (gAD G 0)), (1, .long x1)]) C dX7_right_10 rfl (by decide) rfl ?_
    refine wl_iconst (v := 0) C dX7_right_11 (by decide) ?_
    refine wl_istore (i := 4) (lv' := [(4, .int (0 : Int32)), (3, .int (0 : Int32)), (0, .ref (gAD G 0)), (1, .long x1)]) C dX7_right_12 (by decide) rfl ?_
    refine wl_sub [2, 3, 1, 0] rfl ?_
    obtain ⟨n3, h⟩ := h
    exact kX7_right_14 l G hg hA x1 C hr n3 (0 : Int32) (0 : Int32) M1 h
  · have h := h.2 hc
    refine wl_iconst (v := (-1)) C dX7_right_7 (by decide) ?_
    exact wl_iret C hr h dX7_right_8
set_option maxRecDepth 100000 in
set_option maxHeartbeats 4000000 in
theorem kX7_order_15 (l : Launch) (G : gP) (hg : gIn G) (hA : gCl G) (x1 : Int64) (x3 : Int32) {p : Program} {e : Env} {s : State} {m : MethodId} {args : Array Value} {below : List Frame} {meth : Method} {c : Code} (C : Cx p s m args meth c G (gA G) cX7_order 5 RX7) (hr : meth.sig.returnType = (some (Jvm.ClassFile.FieldType.int))) {Q : Int32 → Mem → Prop} (M : Mem) (h : wX7_order_15 x1 x3 Q M) : Wl p l e rmX7_order s m args below meth c (MQ below (va_Qi Q (gB G) (gA G)) args s 0 0 (gA G)) G (gA G) 5 0 0 M 15 [] [] := by
  have h : Q (-1 : Int32) M := h
  refine wl_iconst (v := (-1)) C dX7_order_15 (by decide) ?_
  exact wl_iret C hr h dX7_order_16
set_option maxRecDepth 100000 in
set_option maxHeartbeats 4000000 in
theorem kX7_order_34 (l : Launch) (G : gP) (hg : gIn G) (hA : gCl G) (x1 : Int64) (x3 : Int32) {p : Program} {e : Env} {s : State} {m : MethodId} {args : Array Value} {below : List Frame} {meth : Method} {c : Code} (C : Cx p s m args meth c G (gA G) cX7_order 5 RX7) (hr : meth.sig.returnType = (some (Jvm.ClassFile.FieldType.int))) {Q : Int32 → Mem → Prop} : ∀ (n : Nat) (v4 : Int32) (M : Mem), wX7_order_34 x1 x3 Q n v4 M → Wl p l e rmX7_order s m args below meth c (MQ below (va_Qi Q (gB G) (gA G)) args s 0 0 (gA G)) G (gA G) 5 0 0 M 34 [(0, .ref (gAD G 0)), (1, .long x1), (3, .int x3), (4, .int v4)] [] := by
  intro n
  induction n with
  | zero => intro v4 M h; exact h.elim
  | succ n ih =>
    intro v4 M h
    have h : (kd (rid (M 0 2)) = 6 ∧ (wX6_toldTurns (rid (M 0 2)) M (fun r10 M9 => ((r10 ≤ v4 → (wX0_holds 52 M9 (fun r12 M11 => ((¬ r12 = 0 → (wX0_fillUp 52 M11 (fun M13 => (wX0_leafAt 52 x3 M13 (fun r15 M14 => Q r15 M14))))) ∧ (r12 = 0 → Q (-4 : Int32) M11))))) ∧ (¬ r10 ≤ v4 → (wX3_placeRead 32 x1 v4 M9 (fun r17 M16 => (kd (rid (M16 0 2)) = 6 ∧ (wX6_taleLeaf (rid (M16 0 2)) v4 M16 (fun r20 M19 => (wX0_bind 52 r17 r20 M19 (fun M21 => wX7_order_34 x1 x3 Q n (v4 + (1 : Int32)) M21)))))))))))) := h
    refine wl_iload C dX7_order_34 3 rfl ?_
    refine wl_aload_n C dX7_order_36 0 rfl ?_
    refine gf_7_2 C kq_0 (gic_7 hA kq_0) tw_219 dX7_order_37 ?_
    have hp8 := h.1
    have h := h.2
    refine wl_callVi C (cX6_toldTurns_M l G hg hA (rid (M 0 2)) hp8 M _) h cw_RX7_166 hd_X6_toldTurns ⟨rfl, rfl⟩ ⟨by decide, by decide⟩ (gic_6 hA hp8) (gc_k hp8) rfl (As := []) (rest := [.int v4]) rfl (Nat.le_of_ble_eq_true rfl) ⟨Nat.zero_le _, Nat.zero_le _⟩ rfl dX7_order_40 (fun r10 M9 h => ?_)
    refine wl_icmp_ge C (tgt := 78) dX7_order_43 (by decide) (fun hc => ?_) (fun hc => ?_)
    · have h := h.1 hc
      refine wl_aload_n C dX7_order_78 0 rfl ?_
      refine gf_7_6 C kq_0 (gic_7 hA kq_0) tw_223 dX7_order_79 ?_
      refine wl_callVi C (cX0_holds_M l G hg hA 52 kq_52 M9 _) h cw_RX7_181 hd_X0_holds ⟨rfl, rfl⟩ ⟨by decide, by decide⟩ (gic_0 hA kq_52) (gc_k kq_52) rfl (As := []) (rest := []) rfl (Nat.le_of_ble_eq_true rfl) ⟨Nat.zero_le _, Nat.zero_le _⟩ rfl dX7_order_82 (fun r12 M11 h => ?_)
      refine wl_if_ne C (tgt := 91) dX7_order_85 (by decide) (fun hc => ?_) (fun hc => ?_)
      · have h := h.1 hc
        refine wl_aload_n C dX7_order_91 0 rfl ?_
        refine gf_7_6 C kq_0 (gic_7 hA kq_0) tw_223 dX7_order_92 ?_
        refine wl_callVv C (cX0_fillUp_M l G hg hA 52 kq_52 M11 _) h cw_RX7_184 hd_X0_fillUp ⟨rfl, rfl⟩ ⟨by decide, by decide⟩ (gic_0 hA kq_52) (gc_k kq_52) rfl (As := []) (rest := []) rfl (Nat.le_of_ble_eq_true rfl) ⟨Nat.zero_le _, Nat.zero_le _⟩ rfl dX7_order_95 (fun M13 h => ?_)
        refine wl_aload_n C dX7_order_98 0 rfl ?_
        refine gf_7_6 C kq_0 (gic_7 hA kq_0) tw_223 dX7_order_99 ?_
        refine wl_iload_n C dX7_order_102 2 rfl ?_
        refine wl_callVi C (cX0_leafAt_M l G hg hA 52 x3 kq_52 M13 _) h cw_RX7_187 hd_X0_leafAt ⟨rfl, rfl⟩ ⟨by decide, by decide⟩ (gic_0 hA kq_52) (gc_k kq_52) rfl (As := [.int x3]) (rest := []) rfl (Nat.le_of_ble_eq_true rfl) ⟨Nat.zero_le _, Nat.zero_le _⟩ rfl dX7_order_103 (fun r15 M14 h => ?_)
        exact wl_iret C hr h dX7_order_106
      · have h := h.2 hc
        refine wl_bipush (v := (-4)) C dX7_order_88 (by decide) ?_
        exact wl_iret C hr h dX7_order_90
    · have h := h.2 hc
      refine wl_aload_n C dX7_order_46 0 rfl ?_
      refine gf_7_6 C kq_0 (gic_7 hA kq_0) tw_223 dX7_order_47 ?_
      refine wl_aload_n C dX7_order_50 0 rfl ?_
      refine gf_7_5 C kq_0 (gic_7 hA kq_0) tw_222 dX7_order_51 ?_
      refine wl_lload_n C dX7_order_54 1 rfl ?_
      refine wl_iload C dX7_order_55 3 rfl ?_
      refine wl_callVi C (cX3_placeRead_M l G hg hA 32 x1 v4 kq_32 M9 _) h cw_RX7_175 hd_X3_placeRead ⟨rfl, rfl⟩ ⟨by decide, by decide⟩ (gic_3 hA kq_32) (gc_k kq_32) rfl (As := [.long x1, .int v4]) (rest := [.ref (gAD G 52)]) rfl (Nat.le_of_ble_eq_true rfl) ⟨Nat.zero_le _, Nat.zero_le _⟩ rfl dX7_order_57 (fun r17 M16 h => ?_)
      refine wl_aload_n C dX7_order_60 0 rfl ?_
      refine gf_7_2 C kq_0 (gic_7 hA kq_0) tw_219 dX7_order_61 ?_
      have hp18 := h.1
      have h := h.2
      refine wl_iload C dX7_order_64 3 rfl ?_
      refine wl_callVi C (cX6_taleLeaf_M l G hg hA (rid (M16 0 2)) v4 hp18 M16 _) h cw_RX7_169 hd_X6_taleLeaf ⟨rfl, rfl⟩ ⟨by decide, by decide⟩ (gic_6 hA hp18) (gc_k hp18) rfl (As := [.int v4]) (rest := [.int r17, .ref (gAD G 52)]) rfl (Nat.le_of_ble_eq_true rfl) ⟨Nat.zero_le _, Nat.zero_le _⟩ rfl dX7_order_66 (fun r20 M19 h => ?_)
      refine wl_callVv C (cX0_bind_M l G hg hA 52 r17 r20 kq_52 M19 _) h cw_RX7_178 hd_X0_bind ⟨rfl, rfl⟩ ⟨by decide, by decide⟩ (gic_0 hA kq_52) (gc_k kq_52) rfl (As := [.int r17, .int r20]) (rest := []) rfl (Nat.le_of_ble_eq_true rfl) ⟨Nat.zero_le _, Nat.zero_le _⟩ rfl dX7_order_69 (fun M21 h => ?_)
      refine wl_iinc (v := (v4 + (1 : Int32))) (lv' := [(4, .int (v4 + (1 : Int32))), (0, .ref (gAD G 0)), (1, .long x1), (3, .int x3)]) C dX7_order_72 3 rfl (by rfl) (by decide) rfl ?_
      refine wl_goto C (tgt := 34) dX7_order_75 (by decide) ?_
      refine wl_sub [1, 2, 3, 0] rfl ?_
      exact ih (v4 + (1 : Int32)) M21 h
set_option maxRecDepth 100000 in
set_option maxHeartbeats 4000000 in
theorem cX7_order_M (l : Launch) (G : gP) (hg : gIn G) (hA : gCl G) (x1 : Int64) (x3 : Int32) (M : Mem) (Q : Int32 → Mem → Prop) : Met l yX7_order (Cond.code yX7_order cX7_order 5 (some (Jvm.ClassFile.FieldType.int)) :: TB) rmX7_order (va_Pc [.ref (gAD G 0), .long x1, .int x3] (fun U => gS G M U ∧ wX7_order x1 x3 M Q)) (va_Qi Q (gB G) (gA G)) 0 0 (gA G) := by
  refine gMet (by decide +kernel) (show _ = Cond.code yX7_order cX7_order 5 (some (Jvm.ClassFile.FieldType.int)) from rfl) hg (Nat.le_of_ble_eq_true rfl) [(0, .ref (gAD G 0)), (1, .long x1), (3, .int x3)] rfl ?_
  intro p e s m args below meth c C hr h
  have h : (wX7_isReader x1 M (fun r2 M1 => ((r2 = 0 → wX7_order_15 x1 x3 Q M1) ∧ (¬ r2 = 0 → (wX7_isBelowCount x3 M1 (fun r4 M3 => ((¬ r4 = 0 → (kd (rid (M3 0 2)) = 6 ∧ (wX0_begin 52 (M3 (rid (M3 0 2)) 0) M3 (fun M6 => (∃ n7, wX7_order_34 x1 x3 Q n7 (0 : Int32) M6))))) ∧ (r4 = 0 → wX7_order_15 x1 x3 Q M3)))))))) := h
  refine wl_lload_n C dX7_order_0 1 rfl ?_
  refine wl_callSi C (cX7_isReader_M l G hg hA x1 M _) h cw_RX7_136 hd_X7_isReader ⟨rfl, rfl⟩ ⟨by decide, by decide⟩ (As := [.long x1]) (rest := []) rfl (Nat.le_of_ble_eq_true rfl) ⟨Nat.zero_le _, Nat.zero_le _⟩ rfl dX7_order_1 (fun r2 M1 h => ?_)
  refine wl_if_eq C (tgt := 15) dX7_order_4 (by decide) (fun hc => ?_) (fun hc => ?_)
  · have h := h.1 hc
    refine wl_sub [] rfl ?_
    exact kX7_order_15 l G hg hA x1 x3 C hr M1 h
  · have h := h.2 hc
    refine wl_aload_n C dX7_order_7 0 rfl ?_
    refine wl_iload_n C dX7_order_8 2 rfl ?_
    refine wl_callVi C (cX7_isBelowCount_M l G hg hA x3 M1 _) h cw_RX7_105 hd_X7_isBelowCount ⟨rfl, rfl⟩ ⟨by decide, by decide⟩ (gic_7 hA kq_0) (gc_k kq_0) rfl (As := [.int x3]) (rest := []) rfl (Nat.le_of_ble_eq_true rfl) ⟨Nat.zero_le _, Nat.zero_le _⟩ rfl dX7_order_9 (fun r4 M3 h => ?_)
    refine wl_if_ne C (tgt := 17) dX7_order_12 (by decide) (fun hc => ?_) (fun hc => ?_)
    · have h := h.1 hc
      refine wl_aload_n C dX7_order_17 0 rfl ?_
      refine gf_7_6 C kq_0 (gic_7 hA kq_0) tw_223 dX7_order_18 ?_
      refine wl_aload_n C dX7_order_21 0 rfl ?_
      refine gf_7_2 C kq_0 (gic_7 hA kq_0) tw_219 dX7_order_22 ?_
      have hp5 := h.1
      have h := h.2
      refine gfN_6_0 C hp5 (gic_6 hA hp5) (List.mem_of_getElem? (i := 1) rfl) dX7_order_25 ?_
      refine wl_callVv C (cX0_begin_M l G hg hA 52 (M3 (rid (M3 0 2)) 0) kq_52 M3 _) h cw_RX7_172 hd_X0_begin ⟨rfl, rfl⟩ ⟨by decide, by decide⟩ (gic_0 hA kq_52) (gc_k kq_52) rfl (As := [.int (M3 (rid (M3 0 2)) 0)]) (rest := []) rfl (Nat.le_of_ble_eq_true rfl) ⟨Nat.zero_le _, Nat.zero_le _⟩ rfl dX7_order_28 (fun M6 h => ?_)
      refine wl_iconst (v := 0) C dX7_order_31 (by decide) ?_
      refine wl_istore (i := 4) (lv' := [(4, .int (0 : Int32)), (0, .ref (gAD G 0)), (1, .long x1), (3, .int x3)]) C dX7_order_32 (by decide) rfl ?_
      refine wl_sub [1, 2, 3, 0] rfl ?_
      obtain ⟨n7, h⟩ := h
      exact kX7_order_34 l G hg hA x1 x3 C hr n7 (0 : Int32) M6 h
    · have h := h.2 hc
      refine wl_sub [] rfl ?_
      exact kX7_order_15 l G hg hA x1 x3 C hr M3 h
set_option maxRecDepth 100000 in
set_option maxHeartbeats 4000000 in
theorem kX7_readingsToShowAll_30 (l : Launch) (G : gP) (hg : gIn G) (hA : gCl G) (x1 : Int32) (x2 : Int32) {p : Program} {e : Env} {s : State} {m : MethodId} {args : Array Value} {below : List Frame} {meth : Method} {c : Code} (C : Cx p s m args meth c G (gA G) cX7_readingsToShowAll 6 RX7) (hr : meth.sig.returnType = (some (Jvm.ClassFile.FieldType.int))) {Q : Int32 → Mem → Prop} : ∀ (n : Nat) (v3 : Int64) (v5 : Int32) (M : Mem), wX7_readingsToShowAll_30 x1 x2 Q n v3 v5 M → Wl p l e rmX7_readingsToShowAll s m args below meth c (MQ below (va_Qi Q (gB G) (gA G)) args s 0 0 (gA G)) G (gA G) 6 0 0 M 30 [(0, .ref (gAD G 0)), (1, .int x1), (2, .int x2), (3, .long v3), (5, .int v5)] [] := by
  intro n
  induction n with
  | zero => intro v3 v5 M h; exact h.elim
  | succ n ih =>
    intro v3 v5 M h
    have h : (kd (rid (M 0 2)) = 6 ∧ ((((2 : Int32) * (M (rid (M 0 2)) 0)) ≤ v5 → Q (-4 : Int32) M) ∧ (¬ ((2 : Int32) * (M (rid (M 0 2)) 0)) ≤ v5 → (wX1_readTop 27 x1 x2 v5 M (fun r9 M8 => (wX7_bit r9 M8 (fun r11 M10 => ((¬ (lg_cmp (v3 &&& (r11 ^^^ (-1 : Int64))) (0 : Int64)) = 0 → wX7_readingsToShowAll_30 x1 x2 Q n (v3 &&& (r11 ^^^ (-1 : Int64))) (v5 + (1 : Int32)) M10) ∧ ((lg_cmp (v3 &&& (r11 ^^^ (-1 : Int64))) (0 : Int64)) = 0 → Q (v5 + (1 : Int32)) M10))))))))) := h
    refine wl_iload C dX7_readingsToShowAll_30 4 rfl ?_
    refine wl_iconst (v := 2) C dX7_readingsToShowAll_32 (by decide) ?_
    refine wl_aload_n C dX7_readingsToShowAll_33 0 rfl ?_
    refine gf_7_2 C kq_0 (gic_7 hA kq_0) tw_219 dX7_readingsToShowAll_34 ?_
    have hp7 := h.1
    have h := h.2
    refine gfN_6_0 C hp7 (gic_6 hA hp7) (List.mem_of_getElem? (i := 1) rfl) dX7_readingsToShowAll_37 ?_
    refine wl_imul C dX7_readingsToShowAll_40 ?_
    refine wl_icmp_ge C (tgt := 82) dX7_readingsToShowAll_41 (by decide) (fun hc => ?_) (fun hc => ?_)
    · have h := h.1 hc
      refine wl_bipush (v := (-4)) C dX7_readingsToShowAll_82 (by decide) ?_
      exact wl_iret C hr h dX7_readingsToShowAll_84
    · have h := h.2 hc
      refine wl_lload_n C dX7_readingsToShowAll_44 3 rfl ?_
      refine wl_aload_n C dX7_readingsToShowAll_45 0 rfl ?_
      refine gf_7_4 C kq_0 (gic_7 hA kq_0) tw_221 dX7_readingsToShowAll_46 ?_
      refine wl_iload_n C dX7_readingsToShowAll_49 1 rfl ?_
      refine wl_iload_n C dX7_readingsToShowAll_50 2 rfl ?_
      refine wl_iload C dX7_readingsToShowAll_51 4 rfl ?_
      refine wl_callVi C (cX1_readTop_M l G hg hA 27 x1 x2 v5 kq_27 M _) h cw_RX7_251 hd_X1_readTop ⟨rfl, rfl⟩ ⟨by decide, by decide⟩ (gic_1 hA kq_27) (gc_k kq_27) rfl (As := [.int x1, .int x2, .int v5]) (rest := [.long v3]) rfl (Nat.le_of_ble_eq_true rfl) ⟨Nat.zero_le _, Nat.zero_le _⟩ rfl dX7_readingsToShowAll_53 (fun r9 M8 h => ?_)
      refine wl_callSl C (cX7_bit_M l G hg hA r9 M8 _) h cw_RX7_162 hd_X7_bit ⟨rfl, rfl⟩ ⟨by decide, by decide⟩ (As := [.int r9]) (rest := [.long v3]) rfl (Nat.le_of_ble_eq_true rfl) ⟨Nat.zero_le _, Nat.zero_le _⟩ rfl dX7_readingsToShowAll_56 (fun r11 M10 h => ?_)
      refine wl_ldc2 C tw_329 dX7_readingsToShowAll_59 ?_
      refine wl_lxor C dX7_readingsToShowAll_62 ?_
      refine wl_land C dX7_readingsToShowAll_63 ?_
      refine wl_lstore_n (i := 3) (lv' := [(3, .long (v3 &&& (r11 ^^^ (-1 : Int64)))), (0, .ref (gAD G 0)), (1, .int x1), (2, .int x2), (5, .int v5)]) C dX7_readingsToShowAll_64 rfl (by decide) rfl ?_
      refine wl_lload_n C dX7_readingsToShowAll_65 0 rfl ?_
      refine wl_lconst (v := 0) C dX7_readingsToShowAll_66 (by decide) ?_
      refine wl_lcmp C dX7_readingsToShowAll_67 ?_
      refine wl_if_ne C (tgt := 76) dX7_readingsToShowAll_68 (by decide) (fun hc => ?_) (fun hc => ?_)
      · have h := h.1 hc
        refine wl_iinc (v := (v5 + (1 : Int32))) (lv' := [(5, .int (v5 + (1 : Int32))), (3, .long (v3 &&& (r11 ^^^ (-1 : Int64)))), (0, .ref (gAD G 0)), (1, .int x1), (2, .int x2)]) C dX7_readingsToShowAll_76 4 rfl (by rfl) (by decide) rfl ?_
        refine wl_goto C (tgt := 30) dX7_readingsToShowAll_79 (by decide) ?_
        refine wl_sub [2, 3, 4, 1, 0] rfl ?_
        exact ih (v3 &&& (r11 ^^^ (-1 : Int64))) (v5 + (1 : Int32)) M10 h
      · have h := h.2 hc
        refine wl_iload C dX7_readingsToShowAll_71 4 rfl ?_
        refine wl_iconst (v := 1) C dX7_readingsToShowAll_73 (by decide) ?_
        refine wl_iadd C dX7_readingsToShowAll_74 ?_
        exact wl_iret C hr h dX7_readingsToShowAll_75
set_option maxRecDepth 100000 in
set_option maxHeartbeats 4000000 in
theorem cX7_readingsToShowAll_M (l : Launch) (G : gP) (hg : gIn G) (hA : gCl G) (x1 : Int32) (x2 : Int32) (M : Mem) (Q : Int32 → Mem → Prop) : Met l yX7_readingsToShowAll (Cond.code yX7_readingsToShowAll cX7_readingsToShowAll 6 (some (Jvm.ClassFile.FieldType.int)) :: TB) rmX7_readingsToShowAll (va_Pc [.ref (gAD G 0), .int x1, .int x2] (fun U => gS G M U ∧ wX7_readingsToShowAll x1 x2 M Q)) (va_Qi Q (gB G) (gA G)) 0 0 (gA G) := by
  refine gMet (by decide +kernel) (show _ = Cond.code yX7_readingsToShowAll cX7_readingsToShowAll 6 (some (Jvm.ClassFile.FieldType.int)) from rfl) hg (Nat.le_of_ble_eq_true rfl) [(0, .ref (gAD G 0)), (1, .int x1), (2, .int x2)] rfl ?_
  intro p e s m args below meth c C hr h
  have h : (kd (rid (M 0 2)) = 6 ∧ (wX7_bit (M (rid (M 0 2)) 0) M (fun r3 M2 => (kd (rid (M2 0 2)) = 6 ∧ (wX1_number 27 (M2 (rid (M2 0 2)) 0) M2 (fun M5 => (∃ n6, wX7_readingsToShowAll_30 x1 x2 Q n6 (r3 - (1 : Int64)) (0 : Int32) M5))))))) := h
  refine wl_aload_n C dX7_readingsToShowAll_0 0 rfl ?_
  refine gf_7_2 C kq_0 (gic_7 hA kq_0) tw_219 dX7_readingsToShowAll_1 ?_
  have hp1 := h.1
  have h := h.2
  refine gfN_6_0 C hp1 (gic_6 hA hp1) (List.mem_of_getElem? (i := 1) rfl) dX7_readingsToShowAll_4 ?_
  refine wl_callSl C (cX7_bit_M l G hg hA (M (rid (M 0 2)) 0) M _) h cw_RX7_162 hd_X7_bit ⟨rfl, rfl⟩ ⟨by decide, by decide⟩ (As := [.int (M (rid (M 0 2)) 0)]) (rest := []) rfl (Nat.le_of_ble_eq_true rfl) ⟨Nat.zero_le _, Nat.zero_le _⟩ rfl dX7_readingsToShowAll_7 (fun r3 M2 h => ?_)
  refine wl_lconst (v := 1) C dX7_readingsToShowAll_10 (by decide) ?_
  refine wl_lsub C dX7_readingsToShowAll_11 ?_
  refine wl_lstore_n (i := 3) (lv' := [(3, .long (r3 - (1 : Int64))), (0, .ref (gAD G 0)), (1, .int x1), (2, .int x2)]) C dX7_readingsToShowAll_12 rfl (by decide) rfl ?_
  refine wl_aload_n C dX7_readingsToShowAll_13 1 rfl ?_
  refine gf_7_4 C kq_0 (gic_7 hA kq_0) tw_221 dX7_readingsToShowAll_14 ?_
  refine wl_aload_n C dX7_readingsToShowAll_17 1 rfl ?_
  refine gf_7_2 C kq_0 (gic_7 hA kq_0) tw_219 dX7_readingsToShowAll_18 ?_
  have hp4 := h.1
  have h := h.2
  refine gfN_6_0 C hp4 (gic_6 hA hp4) (List.mem_of_getElem? (i := 1) rfl) dX7_readingsToShowAll_21 ?_
  refine wl_callVv C (cX1_number_M l G hg hA 27 (M2 (rid (M2 0 2)) 0) kq_27 M2 _) h cw_RX7_248 hd_X1_number ⟨rfl, rfl⟩ ⟨by decide, by decide⟩ (gic_1 hA kq_27) (gc_k kq_27) rfl (As := [.int (M2 (rid (M2 0 2)) 0)]) (rest := []) rfl (Nat.le_of_ble_eq_true rfl) ⟨Nat.zero_le _, Nat.zero_le _⟩ rfl dX7_readingsToShowAll_24 (fun M5 h => ?_)
  refine wl_iconst (v := 0) C dX7_readingsToShowAll_27 (by decide) ?_
  refine wl_istore (i := 5) (lv' := [(5, .int (0 : Int32)), (3, .long (r3 - (1 : Int64))), (0, .ref (gAD G 0)), (1, .int x1), (2, .int x2)]) C dX7_readingsToShowAll_28 (by decide) rfl ?_
  refine wl_sub [2, 3, 4, 1, 0] rfl ?_
  obtain ⟨n6, h⟩ := h
  exact kX7_readingsToShowAll_30 l G hg hA x1 x2 C hr n6 (r3 - (1 : Int64)) (0 : Int32) M5 h
set_option maxRecDepth 100000 in
set_option maxHeartbeats 4000000 in
theorem kX7_shows_17 (l : Launch) (G : gP) (hg : gIn G) (hA : gCl G) (x1 : Int32) (x2 : Int32) {p : Program} {e : Env} {s : State} {m : MethodId} {args : Array Value} {below : List Frame} {meth : Method} {c : Code} (C : Cx p s m args meth c G (gA G) cX7_shows 3 RX7) (hr : meth.sig.returnType = (some (Jvm.ClassFile.FieldType.int))) {Q : Int32 → Mem → Prop} (M : Mem) (h : wX7_shows_17 x1 x2 Q M) : Wl p l e rmX7_shows s m args below meth c (MQ below (va_Qi Q (gB G) (gA G)) args s 0 0 (gA G)) G (gA G) 3 0 0 M 17 [] [] := by
  have h : Q (-1 : Int32) M := h
  refine wl_iconst (v := (-1)) C dX7_shows_17 (by decide) ?_
  exact wl_iret C hr h dX7_shows_18
set_option maxRecDepth 100000 in
set_option maxHeartbeats 4000000 in
theorem cX7_shows_M (l : Launch) (G : gP) (hg : gIn G) (hA : gCl G) (x1 : Int32) (x2 : Int32) (M : Mem) (Q : Int32 → Mem → Prop) : Met l yX7_shows (Cond.code yX7_shows cX7_shows 3 (some (Jvm.ClassFile.FieldType.int)) :: TB) rmX7_shows (va_Pc [.ref (gAD G 0), .int x1, .int x2] (fun U => gS G M U ∧ wX7_shows x1 x2 M Q)) (va_Qi Q (gB G) (gA G)) 0 0 (gA G) := by
  refine gMet (by decide +kernel) (show _ = Cond.code yX7_shows cX7_shows 3 (some (Jvm.ClassFile.FieldType.int)) from rfl) hg (Nat.le_of_ble_eq_true rfl) [(0, .ref (gAD G 0)), (1, .int x1), (2, .int x2)] rfl ?_
  intro p e s m args below meth c C hr h
  have h : (wX7_within x1 (0 : Int32) (3 : Int32) M (fun r2 M1 => ((r2 = 0 → wX7_shows_17 x1 x2 Q M1) ∧ (¬ r2 = 0 → (wX7_isBelowCount x2 M1 (fun r4 M3 => ((¬ r4 = 0 → (wX7_readingsToShowAll x1 x2 M3 (fun r6 M5 => Q r6 M5))) ∧ (r4 = 0 → wX7_shows_17 x1 x2 Q M3)))))))) := h
  refine wl_iload_n C dX7_shows_0 1 rfl ?_
  refine wl_iconst (v := 0) C dX7_shows_1 (by decide) ?_
  refine wl_iconst (v := 3) C dX7_shows_2 (by decide) ?_
  refine wl_callSi C (cX7_within_M l G hg hA x1 (0 : Int32) (3 : Int32) M _) h cw_RX7_78 hd_X7_within ⟨rfl, rfl⟩ ⟨by decide, by decide⟩ (As := [.int x1, .int (0 : Int32), .int (3 : Int32)]) (rest := []) rfl (Nat.le_of_ble_eq_true rfl) ⟨Nat.zero_le _, Nat.zero_le _⟩ rfl dX7_shows_3 (fun r2 M1 h => ?_)
  refine wl_if_eq C (tgt := 17) dX7_shows_6 (by decide) (fun hc => ?_) (fun hc => ?_)
  · have h := h.1 hc
    refine wl_sub [] rfl ?_
    exact kX7_shows_17 l G hg hA x1 x2 C hr M1 h
  · have h := h.2 hc
    refine wl_aload_n C dX7_shows_9 0 rfl ?_
    refine wl_iload_n C dX7_shows_10 2 rfl ?_
    refine wl_callVi C (cX7_isBelowCount_M l G hg hA x2 M1 _) h cw_RX7_105 hd_X7_isBelowCount ⟨rfl, rfl⟩ ⟨by decide, by decide⟩ (gic_7 hA kq_0) (gc_k kq_0) rfl (As := [.int x2]) (rest := []) rfl (Nat.le_of_ble_eq_true rfl) ⟨Nat.zero_le _, Nat.zero_le _⟩ rfl dX7_shows_11 (fun r4 M3 h => ?_)
    refine wl_if_ne C (tgt := 19) dX7_shows_14 (by decide) (fun hc => ?_) (fun hc => ?_)
    · have h := h.1 hc
      refine wl_aload_n C dX7_shows_19 0 rfl ?_
      refine wl_iload_n C dX7_shows_20 1 rfl ?_
      refine wl_iload_n C dX7_shows_21 2 rfl ?_
      refine wl_callVi C (cX7_readingsToShowAll_M l G hg hA x1 x2 M3 _) h cw_RX7_188 hd_X7_readingsToShowAll ⟨rfl, rfl⟩ ⟨by decide, by decide⟩ (gic_7 hA kq_0) (gc_k kq_0) rfl (As := [.int x1, .int x2]) (rest := []) rfl (Nat.le_of_ble_eq_true rfl) ⟨Nat.zero_le _, Nat.zero_le _⟩ rfl dX7_shows_22 (fun r6 M5 h => ?_)
      exact wl_iret C hr h dX7_shows_25
    · have h := h.2 hc
      refine wl_sub [] rfl ?_
      exact kX7_shows_17 l G hg hA x1 x2 C hr M3 h
set_option maxRecDepth 100000 in
set_option maxHeartbeats 4000000 in
theorem kX7_quickest_41 (l : Launch) (G : gP) (hg : gIn G) (hA : gCl G) (x1 : Int32) {p : Program} {e : Env} {s : State} {m : MethodId} {args : Array Value} {below : List Frame} {meth : Method} {c : Code} (C : Cx p s m args meth c G (gA G) cX7_quickest 2 RX7) (hr : meth.sig.returnType = (some (Jvm.ClassFile.FieldType.int))) {Q : Int32 → Mem → Prop} (s0 : Int32) (M : Mem) (h : wX7_quickest_41 x1 Q s0 M) : Wl p l e rmX7_quickest s m args below meth c (MQ below (va_Qi Q (gB G) (gA G)) args s 0 0 (gA G)) G (gA G) 2 0 0 M 41 [] [.int s0] := by
  have h : Q s0 M := h
  exact wl_iret C hr h dX7_quickest_41
set_option maxRecDepth 100000 in
set_option maxHeartbeats 4000000 in
theorem cX7_quickest_M (l : Launch) (G : gP) (hg : gIn G) (hA : gCl G) (x1 : Int32) (M : Mem) (Q : Int32 → Mem → Prop) : Met l yX7_quickest (Cond.code yX7_quickest cX7_quickest 2 (some (Jvm.ClassFile.FieldType.int)) :: TB) rmX7_quickest (va_Pc [.ref (gAD G 0), .int x1] (fun U => gS G M U ∧ wX7_quickest x1 M Q)) (va_Qi Q (gB G) (gA G)) 0 0 (gA G) := by
  refine gMet (by decide +kernel) (show _ = Cond.code yX7_quickest cX7_quickest 2 (some (Jvm.ClassFile.FieldType.int)) from rfl) hg (Nat.le_of_ble_eq_true rfl) [(0, .ref (gAD G 0)), (1, .int x1)] rfl ?_
  intro p e s m args below meth c C hr h
  have h : (wX7_within x1 (0 : Int32) (2 : Int32) M (fun r2 M1 => ((¬ r2 = 0 → ((¬ x1 = 0 → ((¬ x1 = (1 : Int32) → (kd (rid (M1 0 2)) = 6 ∧ wX7_quickest_41 x1 Q (M1 (rid (M1 0 2)) 0) M1)) ∧ (x1 = (1 : Int32) → (kd (rid (M1 0 2)) = 6 ∧ wX7_quickest_41 x1 Q ((M1 (rid (M1 0 2)) 0) - (1 : Int32)) M1)))) ∧ (x1 = 0 → Q (0 : Int32) M1))) ∧ (r2 = 0 → Q (-1 : Int32) M1)))) := h
  refine wl_iload_n C dX7_quickest_0 1 rfl ?_
  refine wl_iconst (v := 0) C dX7_quickest_1 (by decide) ?_
  refine wl_iconst (v := 2) C dX7_quickest_2 (by decide) ?_
  refine wl_callSi C (cX7_within_M l G hg hA x1 (0 : Int32) (2 : Int32) M _) h cw_RX7_78 hd_X7_within ⟨rfl, rfl⟩ ⟨by decide, by decide⟩ (As := [.int x1, .int (0 : Int32), .int (2 : Int32)]) (rest := []) rfl (Nat.le_of_ble_eq_true rfl) ⟨Nat.zero_le _, Nat.zero_le _⟩ rfl dX7_quickest_3 (fun r2 M1 h => ?_)
  refine wl_if_ne C (tgt := 11) dX7_quickest_6 (by decide) (fun hc => ?_) (fun hc => ?_)
  · have h := h.1 hc
    refine wl_iload_n C dX7_quickest_11 1 rfl ?_
    refine wl_if_ne C (tgt := 17) dX7_quickest_12 (by decide) (fun hc => ?_) (fun hc => ?_)
    · have h := h.1 hc
      refine wl_iload_n C dX7_quickest_17 1 rfl ?_
      refine wl_iconst (v := 1) C dX7_quickest_18 (by decide) ?_
      refine wl_icmp_ne C (tgt := 34) dX7_quickest_19 (by decide) (fun hc => ?_) (fun hc => ?_)
      · have h := h.1 hc
        refine wl_aload_n C dX7_quickest_34 0 rfl ?_
        refine gf_7_2 C kq_0 (gic_7 hA kq_0) tw_219 dX7_quickest_35 ?_
        have hp3 := h.1
        have h := h.2
        refine gfN_6_0 C hp3 (gic_6 hA hp3) (List.mem_of_getElem? (i := 1) rfl) dX7_quickest_38 ?_
        refine wl_sub [] rfl ?_
        exact kX7_quickest_41 l G hg hA x1 C hr (M1 (rid (M1 0 2)) 0) M1 h
      · have h := h.2 hc
        refine wl_aload_n C dX7_quickest_22 0 rfl ?_
        refine gf_7_2 C kq_0 (gic_7 hA kq_0) tw_219 dX7_quickest_23 ?_
        have hp4 := h.1
        have h := h.2
        refine gfN_6_0 C hp4 (gic_6 hA hp4) (List.mem_of_getElem? (i := 1) rfl) dX7_quickest_26 ?_
        refine wl_iconst (v := 1) C dX7_quickest_29 (by decide) ?_
        refine wl_isub C dX7_quickest_30 ?_
        refine wl_goto C (tgt := 41) dX7_quickest_31 (by decide) ?_
        refine wl_sub [] rfl ?_
        exact kX7_quickest_41 l G hg hA x1 C hr ((M1 (rid (M1 0 2)) 0) - (1 : Int32)) M1 h
    · have h := h.2 hc
      refine wl_iconst (v := 0) C dX7_quickest_15 (by decide) ?_
      exact wl_iret C hr h dX7_quickest_16
  · have h := h.2 hc
    refine wl_iconst (v := (-1)) C dX7_quickest_9 (by decide) ?_
    exact wl_iret C hr h dX7_quickest_10
set_option maxRecDepth 100000 in
set_option maxHeartbeats 4000000 in
theorem kX7_seen_24 (l : Launch) (G : gP) (hg : gIn G) (hA : gCl G) (x1 : Int64) (x3 : Int32) (x4 : Int32) {p : Program} {e : Env} {s : State} {m : MethodId} {args : Array Value} {below : List Frame} {meth : Method} {c : Code} (C : Cx p s m args meth c G (gA G) cX7_seen 5 RX7) (hr : meth.sig.returnType = (some (Jvm.ClassFile.FieldType.int))) {Q : Int32 → Mem → Prop} (M : Mem) (h : wX7_seen_24 x1 x3 x4 Q M) : Wl p l e rmX7_seen s m args below meth c (MQ below (va_Qi Q (gB G) (gA G)) args s 0 0 (gA G)) G (gA G) 5 0 0 M 24 [] [] := by
  have h : Q (-1 : Int32) M := h
  refine wl_iconst (v := (-1)) C dX7_seen_24 (by decide) ?_
  exact wl_iret C hr h dX7_seen_25
set_option maxRecDepth 100000 in
set_option maxHeartbeats 4000000 in
theorem cX7_seen_M (l : Launch) (G : gP) (hg : gIn G) (hA : gCl G) (x1 : Int64) (x3 : Int32) (x4 : Int32) (M : Mem) (Q : Int32 → Mem → Prop) : Met l yX7_seen (Cond.code yX7_seen cX7_seen 5 (some (Jvm.ClassFile.FieldType.int)) :: TB) rmX7_seen (va_Pc [.ref (gAD G 0), .long x1, .int x3, .int x4] (fun U => gS G M U ∧ wX7_seen x1 x3 x4 M Q)) (va_Qi Q (gB G) (gA G)) 0 0 (gA G) := by
  refine gMet (by decide +kernel) (show _ = Cond.code yX7_seen cX7_seen 5 (some (Jvm.ClassFile.FieldType.int)) from rfl) hg (Nat.le_of_ble_eq_true rfl) [(0, .ref (gAD G 0)), (1, .long x1), (3, .int x3), (4, .int x4)] rfl ?_
  intro p e s m args below meth c C hr h
  have h : (wX7_isReader x1 M (fun r2 M1 => ((r2 = 0 → wX7_seen_24 x1 x3 x4 Q M1) ∧ (¬ r2 = 0 → (wX7_isTurn x3 M1 (fun r4 M3 => ((r4 = 0 → wX7_seen_24 x1 x3 x4 Q M3) ∧ (¬ r4 = 0 → (wX7_isBelowCount x4 M3 (fun r6 M5 => ((¬ r6 = 0 → (((M5 0 9) < (12 : Int32) → (wX3_placeRead 32 x1 x3 M5 (fun r8 M7 => (wX4_put 57 (M5 0 9) r8 M7 (fun M9 => (wX4_put 59 (M9 0 9) x4 M9 (fun M10 => Q ((mu M10 0 9 ((M10 0 9) + (1 : Int32))) 0 9) (mu M10 0 9 ((M10 0 9) + (1 : Int32)))))))))) ∧ (¬ (M5 0 9) < (12 : Int32) → Q (-3 : Int32) M5))) ∧ (r6 = 0 → wX7_seen_24 x1 x3 x4 Q M5)))))))))))) := h
  refine wl_lload_n C dX7_seen_0 1 rfl ?_
  refine wl_callSi C (cX7_isReader_M l G hg hA x1 M _) h cw_RX7_136 hd_X7_isReader ⟨rfl, rfl⟩ ⟨by decide, by decide⟩ (As := [.long x1]) (rest := []) rfl (Nat.le_of_ble_eq_true rfl) ⟨Nat.zero_le _, Nat.zero_le _⟩ rfl dX7_seen_1 (fun r2 M1 h => ?_)
  refine wl_if_eq C (tgt := 24) dX7_seen_4 (by decide) (fun hc => ?_) (fun hc => ?_)
  · have h := h.1 hc
    refine wl_sub [] rfl ?_
    exact kX7_seen_24 l G hg hA x1 x3 x4 C hr M1 h
  · have h := h.2 hc
    refine wl_aload_n C dX7_seen_7 0 rfl ?_
    refine wl_iload_n C dX7_seen_8 2 rfl ?_
    refine wl_callVi C (cX7_isTurn_M l G hg hA x3 M1 _) h cw_RX7_140 hd_X7_isTurn ⟨rfl, rfl⟩ ⟨by decide, by decide⟩ (gic_7 hA kq_0) (gc_k kq_0) rfl (As := [.int x3]) (rest := []) rfl (Nat.le_of_ble_eq_true rfl) ⟨Nat.zero_le _, Nat.zero_le _⟩ rfl dX7_seen_9 (fun r4 M3 h => ?_)
    refine wl_if_eq C (tgt := 24) dX7_seen_12 (by decide) (fun hc => ?_) (fun hc => ?_)
    · have h := h.1 hc
      refine wl_sub [] rfl ?_
      exact kX7_seen_24 l G hg hA x1 x3 x4 C hr M3 h
    · have h := h.2 hc
      refine wl_aload_n C dX7_seen_15 0 rfl ?_
      refine wl_iload C dX7_seen_16 3 rfl ?_
      refine wl_callVi C (cX7_isBelowCount_M l G hg hA x4 M3 _) h cw_RX7_105 hd_X7_isBelowCount ⟨rfl, rfl⟩ ⟨by decide, by decide⟩ (gic_7 hA kq_0) (gc_k kq_0) rfl (As := [.int x4]) (rest := []) rfl (Nat.le_of_ble_eq_true rfl) ⟨Nat.zero_le _, Nat.zero_le _⟩ rfl dX7_seen_18 (fun r6 M5 h => ?_)
      refine wl_if_ne C (tgt := 26) dX7_seen_21 (by decide) (fun hc => ?_) (fun hc => ?_)
      · have h := h.1 hc
        refine wl_aload_n C dX7_seen_26 0 rfl ?_
        refine gf_7_9 C kq_0 (gic_7 hA kq_0) tw_226 dX7_seen_27 ?_
        refine wl_bipush (v := 12) C dX7_seen_30 (by decide) ?_
        refine wl_icmp_lt C (tgt := 38) dX7_seen_32 (by decide) (fun hc => ?_) (fun hc => ?_)
        · have h := h.1 hc
          refine wl_aload_n C dX7_seen_38 0 rfl ?_
          refine gf_7_7 C kq_0 (gic_7 hA kq_0) tw_224 dX7_seen_39 ?_
          refine wl_aload_n C dX7_seen_42 0 rfl ?_
          refine gf_7_9 C kq_0 (gic_7 hA kq_0) tw_226 dX7_seen_43 ?_
          refine wl_aload_n C dX7_seen_46 0 rfl ?_
          refine gf_7_5 C kq_0 (gic_7 hA kq_0) tw_222 dX7_seen_47 ?_
          refine wl_lload_n C dX7_seen_50 1 rfl ?_
          refine wl_iload_n C dX7_seen_51 2 rfl ?_
          refine wl_callVi C (cX3_placeRead_M l G hg hA 32 x1 x3 kq_32 M5 _) h cw_RX7_175 hd_X3_placeRead ⟨rfl, rfl⟩ ⟨by decide, by decide⟩ (gic_3 hA kq_32) (gc_k kq_32) rfl (As := [.long x1, .int x3]) (rest := [.int (M5 0 9), .ref (gAD G 57)]) rfl (Nat.le_of_ble_eq_true rfl) ⟨Nat.zero_le _, Nat.zero_le _⟩ rfl dX7_seen_52 (fun r8 M7 h => ?_)
          refine wl_callVv C (cX4_put_M l G hg hA 57 (M5 0 9) r8 kq_57 M7 _) h cw_RX7_195 hd_X4_put ⟨rfl, rfl⟩ ⟨by decide, by decide⟩ (gic_4 hA kq_57) (gc_k kq_57) rfl (As := [.int (M5 0 9), .int r8]) (rest := []) rfl (Nat.le_of_ble_eq_true rfl) ⟨Nat.zero_le _, Nat.zero_le _⟩ rfl dX7_seen_55 (fun M9 h => ?_)
          refine wl_aload_n C dX7_seen_58 0 rfl ?_
          refine gf_7_8 C kq_0 (gic_7 hA kq_0) tw_225 dX7_seen_59 ?_
          refine wl_aload_n C dX7_seen_62 0 rfl ?_
          refine gf_7_9 C kq_0 (gic_7 hA kq_0) tw_226 dX7_seen_63 ?_
          refine wl_iload C dX7_seen_66 3 rfl ?_
          refine wl_callVv C (cX4_put_M l G hg hA 59 (M9 0 9) x4 kq_59 M9 _) h cw_RX7_195 hd_X4_put ⟨rfl, rfl⟩ ⟨by decide, by decide⟩ (gic_4 hA kq_59) (gc_k kq_59) rfl (As := [.int (M9 0 9), .int x4]) (rest := []) rfl (Nat.le_of_ble_eq_true rfl) ⟨Nat.zero_le _, Nat.zero_le _⟩ rfl dX7_seen_68 (fun M10 h => ?_)
          refine wl_aload_n C dX7_seen_71 0 rfl ?_
          refine wl_dup C dX7_seen_72 rfl ?_
          refine gf_7_9 C kq_0 (gic_7 hA kq_0) tw_226 dX7_seen_73 ?_
          refine wl_iconst (v := 1) C dX7_seen_76 (by decide) ?_
          refine wl_iadd C dX7_seen_77 ?_
          refine gp_7_9 C kq_0 (gic_7 hA kq_0) tw_226 dX7_seen_78 ?_
          refine wl_aload_n C dX7_seen_81 0 rfl ?_
          refine gf_7_9 C kq_0 (gic_7 hA kq_0) tw_226 dX7_seen_82 ?_
          exact wl_iret C hr h dX7_seen_85
        · have h := h.2 hc
          refine wl_bipush (v := (-3)) C dX7_seen_35 (by decide) ?_
          exact wl_iret C hr h dX7_seen_37
      · have h := h.2 hc
        refine wl_sub [] rfl ?_
        exact kX7_seen_24 l G hg hA x1 x3 x4 C hr M5 h
set_option maxRecDepth 100000 in
set_option maxHeartbeats 4000000 in
theorem cX7_forget_M (l : Launch) (G : gP) (hg : gIn G) (hA : gCl G) (M : Mem) (Q : Int32 → Mem → Prop) : Met l yX7_forget (Cond.code yX7_forget cX7_forget 2 (some (Jvm.ClassFile.FieldType.int)) :: TB) rmX7_forget (va_Pc [.ref (gAD G 0)] (fun U => gS G M U ∧ wX7_forget M Q)) (va_Qi Q (gB G) (gA G)) 0 0 (gA G) := by
  refine gMet (by decide +kernel) (show _ = Cond.code yX7_forget cX7_forget 2 (some (Jvm.ClassFile.FieldType.int)) from rfl) hg (Nat.le_of_ble_eq_true rfl) [(0, .ref (gAD G 0))] rfl ?_
  intro p e s m args below meth c C hr h
  have h : Q (M 0 9) (mu M 0 9 (0 : Int32)) := h
  refine wl_aload_n C dX7_forget_0 0 rfl ?_
  refine gf_7_9 C kq_0 (gic_7 hA kq_0) tw_226 dX7_forget_1 ?_
  refine wl_istore_n (i := 1) (lv' := [(1, .int (M 0 9)), (0, .ref (gAD G 0))]) C dX7_forget_4 rfl (by decide) rfl ?_
  refine wl_aload_n C dX7_forget_5 1 rfl ?_
  refine wl_iconst (v := 0) C dX7_forget_6 (by decide) ?_
  refine gp_7_9 C kq_0 (gic_7 hA kq_0) tw_226 dX7_forget_7 ?_
  refine wl_iload_n C dX7_forget_10 0 rfl ?_
  exact wl_iret C hr h dX7_forget_11
set_option maxRecDepth 100000 in
set_option maxHeartbeats 4000000 in
theorem kX7_guessFromSeen_16 (l : Launch) (G : gP) (hg : gIn G) (hA : gCl G) {p : Program} {e : Env} {s : State} {m : MethodId} {args : Array Value} {below : List Frame} {meth : Method} {c : Code} (C : Cx p s m args meth c G (gA G) cX7_guessFromSeen 2 RX7) (hr : meth.sig.returnType = none) {Q : Mem → Prop} : ∀ (n : Nat) (v1 : Int32) (M : Mem), wX7_guessFromSeen_16 Q n v1 M → Wl p l e rmX7_guessFromSeen s m args below meth c (MQ below (va_Qv Q (gB G) (gA G)) args s 0 0 (gA G)) G (gA G) 2 0 0 M 16 [(0, .ref (gAD G 0)), (1, .int v1)] [] := by
  intro n
  induction n with
  | zero => intro v1 M h; exact h.elim
  | succ n ih =>
    intro v1 M h
    have h : (((M 0 9) ≤ v1 → Q M) ∧ (¬ (M 0 9) ≤ v1 → (wX4_at 57 v1 M (fun r5 M4 => (wX4_at 59 v1 M4 (fun r7 M6 => (wX0_bind 52 r5 r7 M6 (fun M8 => wX7_guessFromSeen_16 Q n (v1 + (1 : Int32)) M8)))))))) := h
    refine wl_iload_n C dX7_guessFromSeen_16 1 rfl ?_
    refine wl_aload_n C dX7_guessFromSeen_17 0 rfl ?_
    refine gf_7_9 C kq_0 (gic_7 hA kq_0) tw_226 dX7_guessFromSeen_18 ?_
    refine wl_icmp_ge C (tgt := 53) dX7_guessFromSeen_21 (by decide) (fun hc => ?_) (fun hc => ?_)
    · have h := h.1 hc
      exact wl_vret C hr h dX7_guessFromSeen_53
    · have h := h.2 hc
      refine wl_aload_n C dX7_guessFromSeen_24 0 rfl ?_
      refine gf_7_6 C kq_0 (gic_7 hA kq_0) tw_223 dX7_guessFromSeen_25 ?_
      refine wl_aload_n C dX7_guessFromSeen_28 0 rfl ?_
      refine gf_7_7 C kq_0 (gic_7 hA kq_0) tw_224 dX7_guessFromSeen_29 ?_
      refine wl_iload_n C dX7_guessFromSeen_32 1 rfl ?_
      refine wl_callVi C (cX4_at_M l G hg hA 57 v1 kq_57 M _) h cw_RX7_245 hd_X4_at ⟨rfl, rfl⟩ ⟨by decide, by decide⟩ (gic_4 hA kq_57) (gc_k kq_57) rfl (As := [.int v1]) (rest := [.ref (gAD G 52)]) rfl (Nat.le_of_ble_eq_true rfl) ⟨Nat.zero_le _, Nat.zero_le _⟩ rfl dX7_guessFromSeen_33 (fun r5 M4 h => ?_)
      refine wl_aload_n C dX7_guessFromSeen_36 0 rfl ?_
      refine gf_7_8 C kq_0 (gic_7 hA kq_0) tw_225 dX7_guessFromSeen_37 ?_
      refine wl_iload_n C dX7_guessFromSeen_40 1 rfl ?_
      refine wl_callVi C (cX4_at_M l G hg hA 59 v1 kq_59 M4 _) h cw_RX7_245 hd_X4_at ⟨rfl, rfl⟩ ⟨by decide, by decide⟩ (gic_4 hA kq_59) (gc_k kq_59) rfl (As := [.int v1]) (rest := [.int r5, .ref (gAD G 52)]) rfl (Nat.le_of_ble_eq_true rfl) ⟨Nat.zero_le _, Nat.zero_le _⟩ rfl dX7_guessFromSeen_41 (fun r7 M6 h => ?_)
      refine wl_callVv C (cX0_bind_M l G hg hA 52 r5 r7 kq_52 M6 _) h cw_RX7_178 hd_X0_bind ⟨rfl, rfl⟩ ⟨by decide, by decide⟩ (gic_0 hA kq_52) (gc_k kq_52) rfl (As := [.int r5, .int r7]) (rest := []) rfl (Nat.le_of_ble_eq_true rfl) ⟨Nat.zero_le _, Nat.zero_le _⟩ rfl dX7_guessFromSeen_44 (fun M8 h => ?_)
      refine wl_iinc (v := (v1 + (1 : Int32))) (lv' := [(1, .int (v1 + (1 : Int32))), (0, .ref (gAD G 0))]) C dX7_guessFromSeen_47 1 rfl (by rfl) (by decide) rfl ?_
      refine wl_goto C (tgt := 16) dX7_guessFromSeen_50 (by decide) ?_
      refine wl_sub [1, 0] rfl ?_
      exact ih (v1 + (1 : Int32)) M8 h
set_option maxRecDepth 100000 in
set_option maxHeartbeats 4000000 in
theorem cX7_guessFromSeen_M (l : Launch) (G : gP) (hg : gIn G) (hA : gCl G) (M : Mem) (Q : Mem → Prop) : Met l yX7_guessFromSeen (Cond.code yX7_guessFromSeen cX7_guessFromSeen 2 none :: TB) rmX7_guessFromSeen (va_Pc [.ref (gAD G 0)] (fun U => gS G M U ∧ wX7_guessFromSeen M Q)) (va_Qv Q (gB G) (gA G)) 0 0 (gA G) := by
  refine gMet (by decide +kernel) (show _ = Cond.code yX7_guessFromSeen cX7_guessFromSeen 2 none from rfl) hg (Nat.le_of_ble_eq_true rfl) [(0, .ref (gAD G 0))] rfl ?_
  intro p e s m args below meth c C hr h
  have h : (kd (rid (M 0 2)) = 6 ∧ (wX0_begin 52 (M (rid (M 0 2)) 0) M (fun M2 => (∃ n3, wX7_guessFromSeen_16 Q n3 (0 : Int32) M2)))) := h
  refine wl_aload_n C dX7_guessFromSeen_0 0 rfl ?_
  refine gf_7_6 C kq_0 (gic_7 hA kq_0) tw_223 dX7_guessFromSeen_1 ?_
  refine wl_aload_n C dX7_guessFromSeen_4 0 rfl ?_
  refine gf_7_2 C kq_0 (gic_7 hA kq_0) tw_219 dX7_guessFromSeen_5 ?_
  have hp1 := h.1
  have h := h.2
  refine gfN_6_0 C hp1 (gic_6 hA hp1) (List.mem_of_getElem? (i := 1) rfl) dX7_guessFromSeen_8 ?_
  refine wl_callVv C (cX0_begin_M l G hg hA 52 (M (rid (M 0 2)) 0) kq_52 M _) h cw_RX7_172 hd_X0_begin ⟨rfl, rfl⟩ ⟨by decide, by decide⟩ (gic_0 hA kq_52) (gc_k kq_52) rfl (As := [.int (M (rid (M 0 2)) 0)]) (rest := []) rfl (Nat.le_of_ble_eq_true rfl) ⟨Nat.zero_le _, Nat.zero_le _⟩ rfl dX7_guessFromSeen_11 (fun M2 h => ?_)
  refine wl_iconst (v := 0) C dX7_guessFromSeen_14 (by decide) ?_
  refine wl_istore_n (i := 1) (lv' := [(1, .int (0 : Int32)), (0, .ref (gAD G 0))]) C dX7_guessFromSeen_15 rfl (by decide) rfl ?_
  refine wl_sub [1, 0] rfl ?_
  obtain ⟨n3, h⟩ := h
  exact kX7_guessFromSeen_16 l G hg hA C hr n3 (0 : Int32) M2 h
set_option maxRecDepth 100000 in
set_option maxHeartbeats 4000000 in
theorem kX7_so_19 (l : Launch) (G : gP) (hg : gIn G) (hA : gCl G) {p : Program} {e : Env} {s : State} {m : MethodId} {args : Array Value} {below : List Frame} {meth : Method} {c : Code} (C : Cx p s m args meth c G (gA G) cX7_so 1 RX7) (hr : meth.sig.returnType = (some (Jvm.ClassFile.FieldType.int))) {Q : Int32 → Mem → Prop} (s0 : Int32) (M : Mem) (h : wX7_so_19 Q s0 M) : Wl p l e rmX7_so s m args below meth c (MQ below (va_Qi Q (gB G) (gA G)) args s 0 0 (gA G)) G (gA G) 1 0 0 M 19 [] [.int s0] := by
  have h : Q s0 M := h
  exact wl_iret C hr h dX7_so_19
set_option maxRecDepth 100000 in
set_option maxHeartbeats 4000000 in
theorem cX7_so_M (l : Launch) (G : gP) (hg : gIn G) (hA : gCl G) (M : Mem) (Q : Int32 → Mem → Prop) : Met l yX7_so (Cond.code yX7_so cX7_so 1 (some (Jvm.ClassFile.FieldType.int)) :: TB) rmX7_so (va_Pc [.ref (gAD G 0)] (fun U => gS G M U ∧ wX7_so M Q)) (va_Qi Q (gB G) (gA G)) 0 0 (gA G) := by
  refine gMet (by decide +kernel) (show _ = Cond.code yX7_so cX7_so 1 (some (Jvm.ClassFile.FieldType.int)) from rfl) hg (Nat.le_of_ble_eq_true rfl) [(0, .ref (gAD G 0))] rfl ?_
  intro p e s m args below meth c C hr h
  have h : (wX7_guessFromSeen M (fun M1 => (wX0_holds 52 M1 (fun r3 M2 => ((r3 = 0 → wX7_so_19 Q (0 : Int32) M2) ∧ (¬ r3 = 0 → wX7_so_19 Q (1 : Int32) M2)))))) := h
  refine wl_aload_n C dX7_so_0 0 rfl ?_
  refine wl_callVv C (cX7_guessFromSeen_M l G hg hA M _) h cw_RX7_198 hd_X7_guessFromSeen ⟨rfl, rfl⟩ ⟨by decide, by decide⟩ (gic_7 hA kq_0) (gc_k kq_0) rfl (As := []) (rest := []) rfl (Nat.le_of_ble_eq_true rfl) ⟨Nat.zero_le _, Nat.zero_le _⟩ rfl dX7_so_1 (fun M1 h => ?_)
  refine wl_aload_n C dX7_so_4 0 rfl ?_
  refine gf_7_6 C kq_0 (gic_7 hA kq_0) tw_223 dX7_so_5 ?_
  refine wl_callVi C (cX0_holds_M l G hg hA 52 kq_52 M1 _) h cw_RX7_181 hd_X0_holds ⟨rfl, rfl⟩ ⟨by decide, by decide⟩ (gic_0 hA kq_52) (gc_k kq_52) rfl (As := []) (rest := []) rfl (Nat.le_of_ble_eq_true rfl) ⟨Nat.zero_le _, Nat.zero_le _⟩ rfl dX7_so_8 (fun r3 M2 h => ?_)
  refine wl_if_eq C (tgt := 18) dX7_so_11 (by decide) (fun hc => ?_) (fun hc => ?_)
  · have h := h.1 hc
    refine wl_iconst (v := 0) C dX7_so_18 (by decide) ?_
    refine wl_sub [] rfl ?_
    exact kX7_so_19 l G hg hA C hr (0 : Int32) M2 h
  · have h := h.2 hc
    refine wl_iconst (v := 1) C dX7_so_14 (by decide) ?_
    refine wl_goto C (tgt := 19) dX7_so_15 (by decide) ?_
    refine wl_sub [] rfl ?_
    exact kX7_so_19 l G hg hA C hr (1 : Int32) M2 h
set_option maxRecDepth 100000 in
set_option maxHeartbeats 4000000 in
theorem kX7_sure_44 (l : Launch) (G : gP) (hg : gIn G) (hA : gCl G) (x1 : Int32) {p : Program} {e : Env} {s : State} {m : MethodId} {args : Array Value} {below : List Frame} {meth : Method} {c : Code} (C : Cx p s m args meth c G (gA G) cX7_sure 2 RX7) (hr : meth.sig.returnType = (some (Jvm.ClassFile.FieldType.int))) {Q : Int32 → Mem → Prop} (M : Mem) (h : wX7_sure_44 x1 Q M) : Wl p l e rmX7_sure s m args below meth c (MQ below (va_Qi Q (gB G) (gA G)) args s 0 0 (gA G)) G (gA G) 2 0 0 M 44 [(0, .ref (gAD G 0)), (1, .int x1)] [] := by
  have h : (wX0_leafAt 52 x1 M (fun r10 M9 => Q r10 M9)) := h
  refine wl_aload_n C dX7_sure_44 0 rfl ?_
  refine gf_7_6 C kq_0 (gic_7 hA kq_0) tw_223 dX7_sure_45 ?_
  refine wl_iload_n C dX7_sure_48 1 rfl ?_
  refine wl_callVi C (cX0_leafAt_M l G hg hA 52 x1 kq_52 M _) h cw_RX7_187 hd_X0_leafAt ⟨rfl, rfl⟩ ⟨by decide, by decide⟩ (gic_0 hA kq_52) (gc_k kq_52) rfl (As := [.int x1]) (rest := []) rfl (Nat.le_of_ble_eq_true rfl) ⟨Nat.zero_le _, Nat.zero_le _⟩ rfl dX7_sure_49 (fun r10 M9 h => ?_)
  exact wl_iret C hr h dX7_sure_52
set_option maxRecDepth 100000 in
set_option maxHeartbeats 4000000 in
theorem cX7_sure_M (l : Launch) (G : gP) (hg : gIn G) (hA : gCl G) (x1 : Int32) (M : Mem) (Q : Int32 → Mem → Prop) : Met l yX7_sure (Cond.code yX7_sure cX7_sure 2 (some (Jvm.ClassFile.FieldType.int)) :: TB) rmX7_sure (va_Pc [.ref (gAD G 0), .int x1] (fun U => gS G M U ∧ wX7_sure x1 M Q)) (va_Qi Q (gB G) (gA G)) 0 0 (gA G) := by
  refine gMet (by decide +kernel) (show _ = Cond.code yX7_sure cX7_sure 2 (some (Jvm.ClassFile.FieldType.int)) from rfl) hg (Nat.le_of_ble_eq_true rfl) [(0, .ref (gAD G 0)), (1, .int x1)] rfl ?_
  intro p e s m args below meth c C hr h
  have h : (wX7_isBelowCount x1 M (fun r2 M1 => ((¬ r2 = 0 → (wX7_guessFromSeen M1 (fun M3 => (wX0_holds 52 M3 (fun r5 M4 => ((¬ r5 = 0 → (wX0_isAllButOne 52 M4 (fun r7 M6 => ((r7 = 0 → wX7_sure_44 x1 Q M6) ∧ (¬ r7 = 0 → (wX0_fillUp 52 M6 (fun M8 => wX7_sure_44 x1 Q M8))))))) ∧ (r5 = 0 → Q (-4 : Int32) M4))))))) ∧ (r2 = 0 → Q (-1 : Int32) M1)))) := h
  refine wl_aload_n C dX7_sure_0 0 rfl ?_
  refine wl_iload_n C dX7_sure_1 1 rfl ?_
  refine wl_callVi C (cX7_isBelowCount_M l G hg hA x1 M _) h cw_RX7_105 hd_X7_isBelowCount ⟨rfl, rfl⟩ ⟨by decide, by decide⟩ (gic_7 hA kq_0) (gc_k kq_0) rfl (As := [.int x1]) (rest := []) rfl (Nat.le_of_ble_eq_true rfl) ⟨Nat.zero_le _, Nat.zero_le _⟩ rfl dX7_sure_2 (fun r2 M1 h => ?_)
  refine wl_if_ne C (tgt := 10) dX7_sure_5 (by decide) (fun hc => ?_) (fun hc => ?_)
  · have h := h.1 hc
    refine wl_aload_n C dX7_sure_10 0 rfl ?_
    refine wl_callVv C (cX7_guessFromSeen_M l G hg hA M1 _) h cw_RX7_198 hd_X7_guessFromSeen ⟨rfl, rfl⟩ ⟨by decide, by decide⟩ (gic_7 hA kq_0) (gc_k kq_0) rfl (As := []) (rest := []) rfl (Nat.le_of_ble_eq_true rfl) ⟨Nat.zero_le _, Nat.zero_le _⟩ rfl dX7_sure_11 (fun M3 h => ?_)
    refine wl_aload_n C dX7_sure_14 0 rfl ?_
    refine gf_7_6 C kq_0 (gic_7 hA kq_0) tw_223 dX7_sure_15 ?_
    refine wl_callVi C (cX0_holds_M l G hg hA 52 kq_52 M3 _) h cw_RX7_181 hd_X0_holds ⟨rfl, rfl⟩ ⟨by decide, by decide⟩ (gic_0 hA kq_52) (gc_k kq_52) rfl (As := []) (rest := []) rfl (Nat.le_of_ble_eq_true rfl) ⟨Nat.zero_le _, Nat.zero_le _⟩ rfl dX7_sure_18 (fun r5 M4 h => ?_)
    refine wl_if_ne C (tgt := 27) dX7_sure_21 (by decide) (fun hc => ?_) (fun hc => ?_)
    · have h := h.1 hc
      refine wl_aload_n C dX7_sure_27 0 rfl ?_
      refine gf_7_6 C kq_0 (gic_7 hA kq_0) tw_223 dX7_sure_28 ?_
      refine wl_callVi C (cX0_isAllButOne_M l G hg hA 52 kq_52 M4 _) h cw_RX7_201 hd_X0_isAllButOne ⟨rfl, rfl⟩ ⟨by decide, by decide⟩ (gic_0 hA kq_52) (gc_k kq_52) rfl (As := []) (rest := []) rfl (Nat.le_of_ble_eq_true rfl) ⟨Nat.zero_le _, Nat.zero_le _⟩ rfl dX7_sure_31 (fun r7 M6 h => ?_)
      refine wl_if_eq C (tgt := 44) dX7_sure_34 (by decide) (fun hc => ?_) (fun hc => ?_)
      · have h := h.1 hc
        refine wl_sub [0, 1] rfl ?_
        exact kX7_sure_44 l G hg hA x1 C hr M6 h
      · have h := h.2 hc
        refine wl_aload_n C dX7_sure_37 0 rfl ?_
        refine gf_7_6 C kq_0 (gic_7 hA kq_0) tw_223 dX7_sure_38 ?_
        refine wl_callVv C (cX0_fillUp_M l G hg hA 52 kq_52 M6 _) h cw_RX7_184 hd_X0_fillUp ⟨rfl, rfl⟩ ⟨by decide, by decide⟩ (gic_0 hA kq_52) (gc_k kq_52) rfl (As := []) (rest := []) rfl (Nat.le_of_ble_eq_true rfl) ⟨Nat.zero_le _, Nat.zero_le _⟩ rfl dX7_sure_41 (fun M8 h => ?_)
        refine wl_sub [0, 1] rfl ?_
        exact kX7_sure_44 l G hg hA x1 C hr M8 h
    · have h := h.2 hc
      refine wl_bipush (v := (-4)) C dX7_sure_24 (by decide) ?_
      exact wl_iret C hr h dX7_sure_26
  · have h := h.2 hc
    refine wl_iconst (v := (-1)) C dX7_sure_8 (by decide) ?_
    exact wl_iret C hr h dX7_sure_9
set_option maxRecDepth 100000 in
set_option maxHeartbeats 4000000 in
theorem kX7_lacks_17 (l : Launch) (G : gP) (hg : gIn G) (hA : gCl G) (x1 : Int32) (x2 : Int32) {p : Program} {e : Env} {s : State} {m : MethodId} {args : Array Value} {below : List Frame} {meth : Method} {c : Code} (C : Cx p s m args meth c G (gA G) cX7_lacks 6 RX7) (hr : meth.sig.returnType = (some (Jvm.ClassFile.FieldType.int))) {Q : Int32 → Mem → Prop} (M : Mem) (h : wX7_lacks_17 x1 x2 Q M) : Wl p l e rmX7_lacks s m args below meth c (MQ below (va_Qi Q (gB G) (gA G)) args s 0 0 (gA G)) G (gA G) 6 0 0 M 17 [] [] := by
  have h : Q (-1 : Int32) M := h
  refine wl_iconst (v := (-1)) C dX7_lacks_17 (by decide) ?_
  exact wl_iret C hr h dX7_lacks_18
set_option maxRecDepth 100000 in
set_option maxHeartbeats 4000000 in
theorem kX7_lacks_76 (l : Launch) (G : gP) (hg : gIn G) (hA : gCl G) (x1 : Int32) (x2 : Int32) {p : Program} {e : Env} {s : State} {m : MethodId} {args : Array Value} {below : List Frame} {meth : Method} {c : Code} (C : Cx p s m args meth c G (gA G) cX7_lacks 6 RX7) (hr : meth.sig.returnType = (some (Jvm.ClassFile.FieldType.int))) {Q : Int32 → Mem → Prop} (s0 : Int32) (M : Mem) (h : wX7_lacks_76 x1 x2 Q s0 M) : Wl p l e rmX7_lacks s m args below meth c (MQ below (va_Qi Q (gB G) (gA G)) args s 0 0 (gA G)) G (gA G) 6 0 0 M 76 [] [.int s0] := by
  have h : Q s0 M := h
  exact wl_iret C hr h dX7_lacks_76
set_option maxRecDepth 100000 in
set_option maxHeartbeats 4000000 in
theorem kX7_lacks_31 (l : Launch) (G : gP) (hg : gIn G) (hA : gCl G) (x1 : Int32) (x2 : Int32) {p : Program} {e : Env} {s : State} {m : MethodId} {args : Array Value} {below : List Frame} {meth : Method} {c : Code} (C : Cx p s m args meth c G (gA G) cX7_lacks 6 RX7) (hr : meth.sig.returnType = (some (Jvm.ClassFile.FieldType.int))) {Q : Int32 → Mem → Prop} : ∀ (n : Nat) (v3 : Int32) (v4 : Int32) (M : Mem), wX7_lacks_31 x1 x2 Q n v3 v4 M → Wl p l e rmX7_lacks s m args below meth c (MQ below (va_Qi Q (gB G) (gA G)) args s 0 0 (gA G)) G (gA G) 6 0 0 M 31 [(0, .ref (gAD G 0)), (2, .int x2), (3, .int v3), (4, .int v4)] [] := by
  intro n
  induction n with
  | zero => intro v3 v4 M h; exact h.elim
  | succ n ih =>
    intro v3 v4 M h
    have h : (((40 : Int32) ≤ v4 → Q (-4 : Int32) M) ∧ (¬ (40 : Int32) ≤ v4 → (wX3_placeFoundBy 32 v4.toInt64 v3 M (fun r9 M8 => (wX3_turnAt 32 r9 M8 (fun r11 M10 => ((r11 = (-4 : Int32) → wX7_lacks_31 x1 x2 Q n v3 (v4 + (1 : Int32)) M10) ∧ (¬ r11 = (-4 : Int32) → ((¬ x2 = 0 → wX7_lacks_76 x1 x2 Q r11 M10) ∧ (x2 = 0 → wX7_lacks_76 x1 x2 Q v4 M10)))))))))) := h
    refine wl_iload C dX7_lacks_31 3 rfl ?_
    refine wl_bipush (v := 40) C dX7_lacks_33 (by decide) ?_
    refine wl_icmp_ge C (tgt := 83) dX7_lacks_35 (by decide) (fun hc => ?_) (fun hc => ?_)
    · have h := h.1 hc
      refine wl_bipush (v := (-4)) C dX7_lacks_83 (by decide) ?_
      exact wl_iret C hr h dX7_lacks_85
    · have h := h.2 hc
      refine wl_aload_n C dX7_lacks_38 0 rfl ?_
      refine gf_7_5 C kq_0 (gic_7 hA kq_0) tw_222 dX7_lacks_39 ?_
      refine wl_aload_n C dX7_lacks_42 0 rfl ?_
      refine gf_7_5 C kq_0 (gic_7 hA kq_0) tw_222 dX7_lacks_43 ?_
      refine wl_iload C dX7_lacks_46 3 rfl ?_
      refine wl_i2l C dX7_lacks_48 ?_
      refine wl_iload_n C dX7_lacks_49 2 rfl ?_
      refine wl_callVi C (cX3_placeFoundBy_M l G hg hA 32 v4.toInt64 v3 kq_32 M _) h cw_RX7_204 hd_X3_placeFoundBy ⟨rfl, rfl⟩ ⟨by decide, by decide⟩ (gic_3 hA kq_32) (gc_k kq_32) rfl (As := [.long v4.toInt64, .int v3]) (rest := [.ref (gAD G 32)]) rfl (Nat.le_of_ble_eq_true rfl) ⟨Nat.zero_le _, Nat.zero_le _⟩ rfl dX7_lacks_50 (fun r9 M8 h => ?_)
      refine wl_callVi C (cX3_turnAt_M l G hg hA 32 r9 kq_32 M8 _) h cw_RX7_207 hd_X3_turnAt ⟨rfl, rfl⟩ ⟨by decide, by decide⟩ (gic_3 hA kq_32) (gc_k kq_32) rfl (As := [.int r9]) (rest := []) rfl (Nat.le_of_ble_eq_true rfl) ⟨Nat.zero_le _, Nat.zero_le _⟩ rfl dX7_lacks_53 (fun r11 M10 h => ?_)
      refine wl_istore (i := 5) (lv' := [(5, .int r11), (0, .ref (gAD G 0)), (2, .int x2), (3, .int v3), (4, .int v4)]) C dX7_lacks_56 (by decide) rfl ?_
      refine wl_iload C dX7_lacks_58 0 rfl ?_
      refine wl_bipush (v := (-4)) C dX7_lacks_60 (by decide) ?_
      refine wl_icmp_eq C (tgt := 77) dX7_lacks_62 (by decide) (fun hc => ?_) (fun hc => ?_)
      · have h := h.1 hc
        refine wl_iinc (v := (v4 + (1 : Int32))) (lv' := [(4, .int (v4 + (1 : Int32))), (5, .int r11), (0, .ref (gAD G 0)), (2, .int x2), (3, .int v3)]) C dX7_lacks_77 4 rfl (by rfl) (by decide) rfl ?_
        refine wl_goto C (tgt := 31) dX7_lacks_80 (by decide) ?_
        refine wl_sub [2, 3, 4, 0] rfl ?_
        exact ih v3 (v4 + (1 : Int32)) M10 h
      · have h := h.2 hc
        refine wl_iload_n C dX7_lacks_65 2 rfl ?_
        refine wl_if_ne C (tgt := 74) dX7_lacks_66 (by decide) (fun hc => ?_) (fun hc => ?_)
        · have h := h.1 hc
          refine wl_iload C dX7_lacks_74 0 rfl ?_
          refine wl_sub [] rfl ?_
          exact kX7_lacks_76 l G hg hA x1 x2 C hr r11 M10 h
        · have h := h.2 hc
          refine wl_iload C dX7_lacks_69 4 rfl ?_
          refine wl_goto C (tgt := 76) dX7_lacks_71 (by decide) ?_
          refine wl_sub [] rfl ?_
          exact kX7_lacks_76 l G hg hA x1 x2 C hr v4 M10 h
set_option maxRecDepth 100000 in
set_option maxHeartbeats 4000000 in
theorem cX7_lacks_M (l : Launch) (G : gP) (hg : gIn G) (hA : gCl G) (x1 : Int32) (x2 : Int32) (M : Mem) (Q : Int32 → Mem → Prop) : Met l yX7_lacks (Cond.code yX7_lacks cX7_lacks 6 (some (Jvm.ClassFile.FieldType.int)) :: TB) rmX7_lacks (va_Pc [.ref (gAD G 0), .int x1, .int x2] (fun U => gS G M U ∧ wX7_lacks x1 x2 M Q)) (va_Qi Q (gB G) (gA G)) 0 0 (gA G) := by
  refine gMet (by decide +kernel) (show _ = Cond.code yX7_lacks cX7_lacks 6 (some (Jvm.ClassFile.FieldType.int)) from rfl) hg (Nat.le_of_ble_eq_true rfl) [(0, .ref (gAD G 0)), (1, .int x1), (2, .int x2)] rfl ?_
  intro p e s m args below meth c C hr h
  have h : (wX7_isBelowCount x1 M (fun r2 M1 => ((r2 = 0 → wX7_lacks_17 x1 x2 Q M1) ∧ (¬ r2 = 0 → (wX7_within x2 (0 : Int32) (1 : Int32) M1 (fun r4 M3 => ((¬ r4 = 0 → (wX1_placeOf 22 x1 M3 (fun r6 M5 => (∃ n7, wX7_lacks_31 x1 x2 Q n7 r6 (0 : Int32) M5)))) ∧ (r4 = 0 → wX7_lacks_17 x1 x2 Q M3)))))))) := h
  refine wl_aload_n C dX7_lacks_0 0 rfl ?_
  refine wl_iload_n C dX7_lacks_1 1 rfl ?_
  refine wl_callVi C (cX7_isBelowCount_M l G hg hA x1 M _) h cw_RX7_105 hd_X7_isBelowCount ⟨rfl, rfl⟩ ⟨by decide, by decide⟩ (gic_7 hA kq_0) (gc_k kq_0) rfl (As := [.int x1]) (rest := []) rfl (Nat.le_of_ble_eq_true rfl) ⟨Nat.zero_le _, Nat.zero_le _⟩ rfl dX7_lacks_2 (fun r2 M1 h => ?_)
  refine wl_if_eq C (tgt := 17) dX7_lacks_5 (by decide) (fun hc => ?_) (fun hc => ?_)
  · have h := h.1 hc
    refine wl_sub [] rfl ?_
    exact kX7_lacks_17 l G hg hA x1 x2 C hr M1 h
  · have h := h.2 hc
    refine wl_iload_n C dX7_lacks_8 2 rfl ?_
    refine wl_iconst (v := 0) C dX7_lacks_9 (by decide) ?_
    refine wl_iconst (v := 1) C dX7_lacks_10 (by decide) ?_
    refine wl_callSi C (cX7_within_M l G hg hA x2 (0 : Int32) (1 : Int32) M1 _) h cw_RX7_78 hd_X7_within ⟨rfl, rfl⟩ ⟨by decide, by decide⟩ (As := [.int x2, .int (0 : Int32), .int (1 : Int32)]) (rest := []) rfl (Nat.le_of_ble_eq_true rfl) ⟨Nat.zero_le _, Nat.zero_le _⟩ rfl dX7_lacks_11 (fun r4 M3 h => ?_)
    refine wl_if_ne C (tgt := 19) dX7_lacks_14 (by decide) (fun hc => ?_) (fun hc => ?_)
    · have h := h.1 hc
      refine wl_aload_n C dX7_lacks_19 0 rfl ?_
      refine gf_7_3 C kq_0 (gic_7 hA kq_0) tw_220 dX7_lacks_20 ?_
      refine wl_iload_n C dX7_lacks_23 1 rfl ?_
      refine wl_callVi C (cX1_placeOf_M l G hg hA 22 x1 kq_22 M3 _) h cw_RX7_116 hd_X1_placeOf ⟨rfl, rfl⟩ ⟨by decide, by decide⟩ (gic_1 hA kq_22) (gc_k kq_22) rfl (As := [.int x1]) (rest := []) rfl (Nat.le_of_ble_eq_true rfl) ⟨Nat.zero_le _, Nat.zero_le _⟩ rfl dX7_lacks_24 (fun r6 M5 h => ?_)
      refine wl_istore_n (i := 3) (lv' := [(3, .int r6), (0, .ref (gAD G 0)), (1, .int x1), (2, .int x2)]) C dX7_lacks_27 rfl (by decide) rfl ?_
      refine wl_iconst (v := 0) C dX7_lacks_28 (by decide) ?_
      refine wl_istore (i := 4) (lv' := [(4, .int (0 : Int32)), (3, .int r6), (0, .ref (gAD G 0)), (1, .int x1), (2, .int x2)]) C dX7_lacks_29 (by decide) rfl ?_
      refine wl_sub [2, 4, 1, 0] rfl ?_
      obtain ⟨n7, h⟩ := h
      exact kX7_lacks_31 l G hg hA x1 x2 C hr n7 r6 (0 : Int32) M5 h
    · have h := h.2 hc
      refine wl_sub [] rfl ?_
      exact kX7_lacks_17 l G hg hA x1 x2 C hr M3 h
set_option maxRecDepth 100000 in
set_option maxHeartbeats 4000000 in
theorem kX7_isReadBy_27 (l : Launch) (G : gP) (hg : gIn G) (hA : gCl G) (x1 : Int32) (x2 : Int32) {p : Program} {e : Env} {s : State} {m : MethodId} {args : Array Value} {below : List Frame} {meth : Method} {c : Code} (C : Cx p s m args meth c G (gA G) cX7_isReadBy 3 RX7) (hr : meth.sig.returnType = (some (Jvm.ClassFile.FieldType.boolean))) {Q : Int32 → Mem → Prop} (s0 : Int32) (M : Mem) (h : wX7_isReadBy_27 x1 x2 Q s0 M) : Wl p l e rmX7_isReadBy s m args below meth c (MQ below (va_Qi Q (gB G) (gA G)) args s 0 0 (gA G)) G (gA G) 3 0 0 M 27 [] [.int s0] := by
  have h : ((s0 = 0 ∨ s0 = 1) ∧ Q s0 M) := h
  exact wl_zret C hr h.1 h.2 dX7_isReadBy_27
set_option maxRecDepth 100000 in
set_option maxHeartbeats 4000000 in
theorem cX7_isReadBy_M (l : Launch) (G : gP) (hg : gIn G) (hA : gCl G) (x1 : Int32) (x2 : Int32) (M : Mem) (Q : Int32 → Mem → Prop) : Met l yX7_isReadBy (Cond.code yX7_isReadBy cX7_isReadBy 3 (some (Jvm.ClassFile.FieldType.boolean)) :: TB) rmX7_isReadBy (va_Pc [.ref (gAD G 0), .int x1, .int x2] (fun U => gS G M U ∧ wX7_isReadBy x1 x2 M Q)) (va_Qi Q (gB G) (gA G)) 0 0 (gA G) := by
  refine gMet (by decide +kernel) (show _ = Cond.code yX7_isReadBy cX7_isReadBy 3 (some (Jvm.ClassFile.FieldType.boolean)) from rfl) hg (Nat.le_of_ble_eq_true rfl) [(0, .ref (gAD G 0)), (1, .int x1), (2, .int x2)] rfl ?_
  intro p e s m args below meth c C hr h
  have h : (wX3_placeFoundBy 32 x1.toInt64 x2 M (fun r2 M1 => (wX3_turnAt 32 r2 M1 (fun r4 M3 => ((r4 = (-4 : Int32) → wX7_isReadBy_27 x1 x2 Q (0 : Int32) M3) ∧ (¬ r4 = (-4 : Int32) → wX7_isReadBy_27 x1 x2 Q (1 : Int32) M3)))))) := h
  refine wl_aload_n C dX7_isReadBy_0 0 rfl ?_
  refine gf_7_5 C kq_0 (gic_7 hA kq_0) tw_222 dX7_isReadBy_1 ?_
  refine wl_aload_n C dX7_isReadBy_4 0 rfl ?_
  refine gf_7_5 C kq_0 (gic_7 hA kq_0) tw_222 dX7_isReadBy_5 ?_
  refine wl_iload_n C dX7_isReadBy_8 1 rfl ?_
  refine wl_i2l C dX7_isReadBy_9 ?_
  refine wl_iload_n C dX7_isReadBy_10 2 rfl ?_
  refine wl_callVi C (cX3_placeFoundBy_M l G hg hA 32 x1.toInt64 x2 kq_32 M _) h cw_RX7_204 hd_X3_placeFoundBy ⟨rfl, rfl⟩ ⟨by decide, by decide⟩ (gic_3 hA kq_32) (gc_k kq_32) rfl (As := [.long x1.toInt64, .int x2]) (rest := [.ref (gAD G 32)]) rfl (Nat.le_of_ble_eq_true rfl) ⟨Nat.zero_le _, Nat.zero_le _⟩ rfl dX7_isReadBy_11 (fun r2 M1 h => ?_)
  refine wl_callVi C (cX3_turnAt_M l G hg hA 32 r2 kq_32 M1 _) h cw_RX7_207 hd_X3_turnAt ⟨rfl, rfl⟩ ⟨by decide, by decide⟩ (gic_3 hA kq_32) (gc_k kq_32) rfl (As := [.int r2]) (rest := []) rfl (Nat.le_of_ble_eq_true rfl) ⟨Nat.zero_le _, Nat.zero_le _⟩ rfl dX7_isReadBy_14 (fun r4 M3 h => ?_)
  refine wl_bipush (v := (-4)) C dX7_isReadBy_17 (by decide) ?_
  refine wl_icmp_eq C (tgt := 26) dX7_isReadBy_19 (by decide) (fun hc => ?_) (fun hc => ?_)
  · have h := h.1 hc
    refine wl_iconst (v := 0) C dX7_isReadBy_26 (by decide) ?_
    refine wl_sub [] rfl ?_
    exact kX7_isReadBy_27 l G hg hA x1 x2 C hr (0 : Int32) M3 h
  · have h := h.2 hc
    refine wl_iconst (v := 1) C dX7_isReadBy_22 (by decide) ?_
    refine wl_goto C (tgt := 27) dX7_isReadBy_23 (by decide) ?_
    refine wl_sub [] rfl ?_
    exact kX7_isReadBy_27 l G hg hA x1 x2 C hr (1 : Int32) M3 h
set_option maxRecDepth 100000 in
set_option maxHeartbeats 4000000 in
theorem kX7_notice_27 (l : Launch) (G : gP) (hg : gIn G) (hA : gCl G) (x1 : Int32) (x2 : Int32) (x3 : Int32) {p : Program} {e : Env} {s : State} {m : MethodId} {args : Array Value} {below : List Frame} {meth : Method} {c : Code} (C : Cx p s m args meth c G (gA G) cX7_notice 8 RX7) (hr : meth.sig.returnType = (some (Jvm.ClassFile.FieldType.int))) {Q : Int32 → Mem → Prop} (M : Mem) (h : wX7_notice_27 x1 x2 x3 Q M) : Wl p l e rmX7_notice s m args below meth c (MQ below (va_Qi Q (gB G) (gA G)) args s 0 0 (gA G)) G (gA G) 8 0 0 M 27 [] [] := by
  have h : Q (-1 : Int32) M := h
  refine wl_iconst (v := (-1)) C dX7_notice_27 (by decide) ?_
  exact wl_iret C hr h dX7_notice_28
set_option maxRecDepth 100000 in
set_option maxHeartbeats 4000000 in
theorem kX7_notice_93 (l : Launch) (G : gP) (hg : gIn G) (hA : gCl G) (x1 : Int32) (x2 : Int32) (x3 : Int32) {p : Program} {e : Env} {s : State} {m : MethodId} {args : Array Value} {below : List Frame} {meth : Method} {c : Code} (C : Cx p s m args meth c G (gA G) cX7_notice 8 RX7) (hr : meth.sig.returnType = (some (Jvm.ClassFile.FieldType.int))) {Q : Int32 → Mem → Prop} (k_62 : Int32 → Int32 → Int32 → Int32 → Mem → Prop) (hk_62 : ∀ (v4 : Int32) (v5 : Int32) (v6 : Int32) (v7 : Int32) (M : Mem), k_62 v4 v5 v6 v7 M → Wl p l e rmX7_notice s m args below meth c (MQ below (va_Qi Q (gB G) (gA G)) args s 0 0 (gA G)) G (gA G) 8 0 0 M 62 [(0, .ref (gAD G 0)), (3, .int x3), (4, .int v4), (5, .int v5), (6, .int v6), (7, .int v7)] []) (v4 : Int32) (v5 : Int32) (v6 : Int32) (v7 : Int32) (M : Mem) (h : wX7_notice_93 x1 x2 x3 k_62 Q v4 v5 v6 v7 M) : Wl p l e rmX7_notice s m args below meth c (MQ below (va_Qi Q (gB G) (gA G)) args s 0 0 (gA G)) G (gA G) 8 0 0 M 93 [(0, .ref (gAD G 0)), (3, .int x3), (4, .int v4), (5, .int v5), (6, .int v6), (7, .int v7)] [] := by
  have h : k_62 v4 v5 v6 (v7 + (1 : Int32)) M := h
  refine wl_iinc (v := (v7 + (1 : Int32))) (lv' := [(7, .int (v7 + (1 : Int32))), (0, .ref (gAD G 0)), (3, .int x3), (4, .int v4), (5, .int v5), (6, .int v6)]) C dX7_notice_93 5 rfl (by rfl) (by decide) rfl ?_
  refine wl_goto C (tgt := 62) dX7_notice_96 (by decide) ?_
  refine wl_sub [1, 2, 3, 4, 5, 0] rfl ?_
  exact hk_62 v4 v5 v6 (v7 + (1 : Int32)) M h
set_option maxRecDepth 100000 in
set_option maxHeartbeats 4000000 in
theorem kX7_notice_90 (l : Launch) (G : gP) (hg : gIn G) (hA : gCl G) (x1 : Int32) (x2 : Int32) (x3 : Int32) {p : Program} {e : Env} {s : State} {m : MethodId} {args : Array Value} {below : List Frame} {meth : Method} {c : Code} (C : Cx p s m args meth c G (gA G) cX7_notice 8 RX7) (hr : meth.sig.returnType = (some (Jvm.ClassFile.FieldType.int))) {Q : Int32 → Mem → Prop} (k_62 : Int32 → Int32 → Int32 → Int32 → Mem → Prop) (hk_62 : ∀ (v4 : Int32) (v5 : Int32) (v6 : Int32) (v7 : Int32) (M : Mem), k_62 v4 v5 v6 v7 M → Wl p l e rmX7_notice s m args below meth c (MQ below (va_Qi Q (gB G) (gA G)) args s 0 0 (gA G)) G (gA G) 8 0 0 M 62 [(0, .ref (gAD G 0)), (3, .int x3), (4, .int v4), (5, .int v5), (6, .int v6), (7, .int v7)] []) (v4 : Int32) (v5 : Int32) (v6 : Int32) (v7 : Int32) (M : Mem) (h : wX7_notice_90 x1 x2 x3 k_62 Q v4 v5 v6 v7 M) : Wl p l e rmX7_notice s m args below meth c (MQ below (va_Qi Q (gB G) (gA G)) args s 0 0 (gA G)) G (gA G) 8 0 0 M 90 [(0, .ref (gAD G 0)), (3, .int x3), (4, .int v4), (5, .int v5), (6, .int v6), (7, .int v7)] [] := by
  have h : wX7_notice_93 x1 x2 x3 (k_62) Q v4 v5 (v6 + (1 : Int32)) v7 M := h
  refine wl_iinc (v := (v6 + (1 : Int32))) (lv' := [(6, .int (v6 + (1 : Int32))), (0, .ref (gAD G 0)), (3, .int x3), (4, .int v4), (5, .int v5), (7, .int v7)]) C dX7_notice_90 4 rfl (by rfl) (by decide) rfl ?_
  refine wl_sub [1, 2, 3, 4, 0, 5] rfl ?_
  exact kX7_notice_93 l G hg hA x1 x2 x3 C hr (k_62) (hk_62) v4 v5 (v6 + (1 : Int32)) v7 M h
set_option maxRecDepth 100000 in
set_option maxHeartbeats 4000000 in
theorem kX7_notice_62 (l : Launch) (G : gP) (hg : gIn G) (hA : gCl G) (x1 : Int32) (x2 : Int32) (x3 : Int32) {p : Program} {e : Env} {s : State} {m : MethodId} {args : Array Value} {below : List Frame} {meth : Method} {c : Code} (C : Cx p s m args meth c G (gA G) cX7_notice 8 RX7) (hr : meth.sig.returnType = (some (Jvm.ClassFile.FieldType.int))) {Q : Int32 → Mem → Prop} : ∀ (n : Nat) (v4 : Int32) (v5 : Int32) (v6 : Int32) (v7 : Int32) (M : Mem), wX7_notice_62 x1 x2 x3 Q n v4 v5 v6 v7 M → Wl p l e rmX7_notice s m args below meth c (MQ below (va_Qi Q (gB G) (gA G)) args s 0 0 (gA G)) G (gA G) 8 0 0 M 62 [(0, .ref (gAD G 0)), (3, .int x3), (4, .int v4), (5, .int v5), (6, .int v6), (7, .int v7)] [] := by
  intro n
  induction n with
  | zero => intro v4 v5 v6 v7 M h; exact h.elim
  | succ n ih =>
    intro v4 v5 v6 v7 M h
    have h : ((x3 ≤ v7 → Q v6 M) ∧ (¬ x3 ≤ v7 → (wX7_isReadBy v7 v4 M (fun r13 M12 => ((¬ r13 = 0 → wX7_notice_90 x1 x2 x3 (wX7_notice_62 x1 x2 x3 Q n) Q v4 v5 v6 v7 M12) ∧ (r13 = 0 → (wX7_isReadBy v7 v5 M12 (fun r15 M14 => ((r15 = 0 → wX7_notice_93 x1 x2 x3 (wX7_notice_62 x1 x2 x3 Q n) Q v4 v5 v6 v7 M14) ∧ (¬ r15 = 0 → wX7_notice_90 x1 x2 x3 (wX7_notice_62 x1 x2 x3 Q n) Q v4 v5 v6 v7 M14)))))))))) := h
    refine wl_iload C dX7_notice_62 5 rfl ?_
    refine wl_iload_n C dX7_notice_64 1 rfl ?_
    refine wl_icmp_ge C (tgt := 99) dX7_notice_65 (by decide) (fun hc => ?_) (fun hc => ?_)
    · have h := h.1 hc
      refine wl_iload C dX7_notice_99 4 rfl ?_
      exact wl_iret C hr h dX7_notice_101
    · have h := h.2 hc
      refine wl_aload_n C dX7_notice_68 0 rfl ?_
      refine wl_iload C dX7_notice_69 5 rfl ?_
      refine wl_iload C dX7_notice_71 2 rfl ?_
      refine wl_callVi C (cX7_isReadBy_M l G hg hA v7 v4 M _) h cw_RX7_210 hd_X7_isReadBy ⟨rfl, rfl⟩ ⟨by decide, by decide⟩ (gic_7 hA kq_0) (gc_k kq_0) rfl (As := [.int v7, .int v4]) (rest := []) rfl (Nat.le_of_ble_eq_true rfl) ⟨Nat.zero_le _, Nat.zero_le _⟩ rfl dX7_notice_73 (fun r13 M12 h => ?_)
      refine wl_if_ne C (tgt := 90) dX7_notice_76 (by decide) (fun hc => ?_) (fun hc => ?_)
      · have h := h.1 hc
        refine wl_sub [0, 1, 2, 3, 4, 5] rfl ?_
        exact kX7_notice_90 l G hg hA x1 x2 x3 C hr (wX7_notice_62 x1 x2 x3 Q n) (ih) v4 v5 v6 v7 M12 h
      · have h := h.2 hc
        refine wl_aload_n C dX7_notice_79 0 rfl ?_
        refine wl_iload C dX7_notice_80 5 rfl ?_
        refine wl_iload C dX7_notice_82 3 rfl ?_
        refine wl_callVi C (cX7_isReadBy_M l G hg hA v7 v5 M12 _) h cw_RX7_210 hd_X7_isReadBy ⟨rfl, rfl⟩ ⟨by decide, by decide⟩ (gic_7 hA kq_0) (gc_k kq_0) rfl (As := [.int v7, .int v5]) (rest := []) rfl (Nat.le_of_ble_eq_true rfl) ⟨Nat.zero_le _, Nat.zero_le _⟩ rfl dX7_notice_84 (fun r15 M14 h => ?_)
        refine wl_if_eq C (tgt := 93) dX7_notice_87 (by decide) (fun hc => ?_) (fun hc => ?_)
        · have h := h.1 hc
          refine wl_sub [0, 1, 2, 3, 4, 5] rfl ?_
          exact kX7_notice_93 l G hg hA x1 x2 x3 C hr (wX7_notice_62 x1 x2 x3 Q n) (ih) v4 v5 v6 v7 M14 h
        · have h := h.2 hc
          refine wl_sub [0, 1, 2, 3, 4, 5] rfl ?_
          exact kX7_notice_90 l G hg hA x1 x2 x3 C hr (wX7_notice_62 x1 x2 x3 Q n) (ih) v4 v5 v6 v7 M14 h
set_option maxRecDepth 100000 in
set_option maxHeartbeats 4000000 in
theorem cX7_notice_M (l : Launch) (G : gP) (hg : gIn G) (hA : gCl G) (x1 : Int32) (x2 : Int32) (x3 : Int32) (M : Mem) (Q : Int32 → Mem → Prop) : Met l yX7_notice (Cond.code yX7_notice cX7_notice 8 (some (Jvm.ClassFile.FieldType.int)) :: TB) rmX7_notice (va_Pc [.ref (gAD G 0), .int x1, .int x2, .int x3] (fun U => gS G M U ∧ wX7_notice x1 x2 x3 M Q)) (va_Qi Q (gB G) (gA G)) 0 0 (gA G) := by
  refine gMet (by decide +kernel) (show _ = Cond.code yX7_notice cX7_notice 8 (some (Jvm.ClassFile.FieldType.int)) from rfl) hg (Nat.le_of_ble_eq_true rfl) [(0, .ref (gAD G 0)), (1, .int x1), (2, .int x2), (3, .int x3)] rfl ?_
  intro p e s m args below meth c C hr h
  have h : (wX7_isBelowCount x1 M (fun r2 M1 => ((r2 = 0 → wX7_notice_27 x1 x2 x3 Q M1) ∧ (¬ r2 = 0 → (wX7_isBelowCount x2 M1 (fun r4 M3 => ((r4 = 0 → wX7_notice_27 x1 x2 x3 Q M3) ∧ (¬ r4 = 0 → (wX7_within x3 (0 : Int32) (1000 : Int32) M3 (fun r6 M5 => ((¬ r6 = 0 → ((¬ x1 = x2 → (wX1_placeOf 22 x1 M5 (fun r8 M7 => (wX1_placeOf 22 x2 M7 (fun r10 M9 => (∃ n11, wX7_notice_62 x1 x2 x3 Q n11 r8 r10 (0 : Int32) (0 : Int32) M9)))))) ∧ (x1 = x2 → Q (0 : Int32) M5))) ∧ (r6 = 0 → wX7_notice_27 x1 x2 x3 Q M5)))))))))))) := h
  refine wl_aload_n C dX7_notice_0 0 rfl ?_
  refine wl_iload_n C dX7_notice_1 1 rfl ?_
  refine wl_callVi C (cX7_isBelowCount_M l G hg hA x1 M _) h cw_RX7_105 hd_X7_isBelowCount ⟨rfl, rfl⟩ ⟨by decide, by decide⟩ (gic_7 hA kq_0) (gc_k kq_0) rfl (As := [.int x1]) (rest := []) rfl (Nat.le_of_ble_eq_true rfl) ⟨Nat.zero_le _, Nat.zero_le _⟩ rfl dX7_notice_2 (fun r2 M1 h => ?_)
  refine wl_if_eq C (tgt := 27) dX7_notice_5 (by decide) (fun hc => ?_) (fun hc => ?_)
  · have h := h.1 hc
    refine wl_sub [] rfl ?_
    exact kX7_notice_27 l G hg hA x1 x2 x3 C hr M1 h
  · have h := h.2 hc
    refine wl_aload_n C dX7_notice_8 0 rfl ?_
    refine wl_iload_n C dX7_notice_9 2 rfl ?_
    refine wl_callVi C (cX7_isBelowCount_M l G hg hA x2 M1 _) h cw_RX7_105 hd_X7_isBelowCount ⟨rfl, rfl⟩ ⟨by decide, by decide⟩ (gic_7 hA kq_0) (gc_k kq_0) rfl (As := [.int x2]) (rest := []) rfl (Nat.le_of_ble_eq_true rfl) ⟨Nat.zero_le _, Nat.zero_le _⟩ rfl dX7_notice_10 (fun r4 M3 h => ?_)
    refine wl_if_eq C (tgt := 27) dX7_notice_13 (by decide) (fun hc => ?_) (fun hc => ?_)
    · have h := h.1 hc
      refine wl_sub [] rfl ?_
      exact kX7_notice_27 l G hg hA x1 x2 x3 C hr M3 h
    · have h := h.2 hc
      refine wl_iload_n C dX7_notice_16 3 rfl ?_
      refine wl_iconst (v := 0) C dX7_notice_17 (by decide) ?_
      refine wl_sipush (v := 1000) C dX7_notice_18 (by decide) ?_
      refine wl_callSi C (cX7_within_M l G hg hA x3 (0 : Int32) (1000 : Int32) M3 _) h cw_RX7_78 hd_X7_within ⟨rfl, rfl⟩ ⟨by decide, by decide⟩ (As := [.int x3, .int (0 : Int32), .int (1000 : Int32)]) (rest := []) rfl (Nat.le_of_ble_eq_true rfl) ⟨Nat.zero_le _, Nat.zero_le _⟩ rfl dX7_notice_21 (fun r6 M5 h => ?_)
      refine wl_if_ne C (tgt := 29) dX7_notice_24 (by decide) (fun hc => ?_) (fun hc => ?_)
      · have h := h.1 hc
        refine wl_iload_n C dX7_notice_29 1 rfl ?_
        refine wl_iload_n C dX7_notice_30 2 rfl ?_
        refine wl_icmp_ne C (tgt := 36) dX7_notice_31 (by decide) (fun hc => ?_) (fun hc => ?_)
        · have h := h.1 hc
          refine wl_aload_n C dX7_notice_36 0 rfl ?_
          refine gf_7_3 C kq_0 (gic_7 hA kq_0) tw_220 dX7_notice_37 ?_
          refine wl_iload_n C dX7_notice_40 1 rfl ?_
          refine wl_callVi C (cX1_placeOf_M l G hg hA 22 x1 kq_22 M5 _) h cw_RX7_116 hd_X1_placeOf ⟨rfl, rfl⟩ ⟨by decide, by decide⟩ (gic_1 hA kq_22) (gc_k kq_22) rfl (As := [.int x1]) (rest := []) rfl (Nat.le_of_ble_eq_true rfl) ⟨Nat.zero_le _, Nat.zero_le _⟩ rfl dX7_notice_41 (fun r8 M7 h => ?_)
          refine wl_istore (i := 4) (lv' := [(4, .int r8), (0, .ref (gAD G 0)), (1, .int x1), (2, .int x2), (3, .int x3)]) C dX7_notice_44 (by decide) rfl ?_
          refine wl_aload_n C dX7_notice_46 1 rfl ?_
          refine gf_7_3 C kq_0 (gic_7 hA kq_0) tw_220 dX7_notice_47 ?_
          refine wl_iload_n C dX7_notice_50 3 rfl ?_
          refine wl_callVi C (cX1_placeOf_M l G hg hA 22 x2 kq_22 M7 _) h cw_RX7_116 hd_X1_placeOf ⟨rfl, rfl⟩ ⟨by decide, by decide⟩ (gic_1 hA kq_22) (gc_k kq_22) rfl (As := [.int x2]) (rest := []) rfl (Nat.le_of_ble_eq_true rfl) ⟨Nat.zero_le _, Nat.zero_le _⟩ rfl dX7_notice_51 (fun r10 M9 h => ?_)
          refine wl_istore (i := 5) (lv' := [(5, .int r10), (4, .int r8), (0, .ref (gAD G 0)), (1, .int x1), (2, .int x2), (3, .int x3)]) C dX7_notice_54 (by decide) rfl ?_
          refine wl_iconst (v := 0) C dX7_notice_56 (by decide) ?_
          refine wl_istore (i := 6) (lv' := [(6, .int (0 : Int32)), (5, .int r10), (4, .int r8), (0, .ref (gAD G 0)), (1, .int x1), (2, .int x2), (3, .int x3)]) C dX7_notice_57 (by decide) rfl ?_
          refine wl_iconst (v := 0) C dX7_notice_59 (by decide) ?_
          refine wl_istore (i := 7) (lv' := [(7, .int (0 : Int32)), (6, .int (0 : Int32)), (5, .int r10), (4, .int r8), (0, .ref (gAD G 0)), (1, .int x1), (2, .int x2), (3, .int x3)]) C dX7_notice_60 (by decide) rfl ?_
          refine wl_sub [4, 7, 3, 2, 1, 0] rfl ?_
          obtain ⟨n11, h⟩ := h
          exact kX7_notice_62 l G hg hA x1 x2 x3 C hr n11 r8 r10 (0 : Int32) (0 : Int32) M9 h
        · have h := h.2 hc
          refine wl_iconst (v := 0) C dX7_notice_34 (by decide) ?_
          exact wl_iret C hr h dX7_notice_35
      · have h := h.2 hc
        refine wl_sub [] rfl ?_
        exact kX7_notice_27 l G hg hA x1 x2 x3 C hr M5 h
set_option maxRecDepth 100000 in
set_option maxHeartbeats 4000000 in
theorem kX7_placeBeforeLaying_19 (l : Launch) (G : gP) (hg : gIn G) (hA : gCl G) (x0 : Int32) (x1 : Int32) {p : Program} {e : Env} {s : State} {m : MethodId} {args : Array Value} {below : List Frame} {meth : Method} {c : Code} (C : Cx p s m args meth c G (gA G) cX7_placeBeforeLaying 2 RX7) (hr : meth.sig.returnType = (some (Jvm.ClassFile.FieldType.int))) {Q : Int32 → Mem → Prop} (s0 : Int32) (M : Mem) (h : wX7_placeBeforeLaying_19 x0 x1 Q s0 M) : Wl p l e rmX7_placeBeforeLaying s m args below meth c (MQ below (va_Qi Q (gB G) (gA G)) args s 0 0 (gA G)) G (gA G) 2 0 0 M 19 [] [.int s0] := by
  have h : Q s0 M := h
  exact wl_iret C hr h dX7_placeBeforeLaying_19
set_option maxRecDepth 100000 in
set_option maxHeartbeats 4000000 in
theorem cX7_placeBeforeLaying_M (l : Launch) (G : gP) (hg : gIn G) (hA : gCl G) (x0 : Int32) (x1 : Int32) (M : Mem) (Q : Int32 → Mem → Prop) : Met l yX7_placeBeforeLaying (Cond.code yX7_placeBeforeLaying cX7_placeBeforeLaying 2 (some (Jvm.ClassFile.FieldType.int)) :: TB) rmX7_placeBeforeLaying (va_Pc [.int x0, .int x1] (fun U => gS G M U ∧ wX7_placeBeforeLaying x0 x1 M Q)) (va_Qi Q (gB G) (gA G)) 0 0 (gA G) := by
  refine gMet (by decide +kernel) (show _ = Cond.code yX7_placeBeforeLaying cX7_placeBeforeLaying 2 (some (Jvm.ClassFile.FieldType.int)) from rfl) hg (Nat.le_of_ble_eq_true rfl) [(0, .int x0), (1, .int x1)] rfl ?_
  intro p e s m args below meth c C hr h
  have h : ((¬ x0 = x1 → ((x1 ≤ x0 → wX7_placeBeforeLaying_19 x0 x1 Q x0 M) ∧ (¬ x1 ≤ x0 → wX7_placeBeforeLaying_19 x0 x1 Q (x0 + (1 : Int32)) M))) ∧ (x0 = x1 → Q (0 : Int32) M)) := h
  refine wl_iload_n C dX7_placeBeforeLaying_0 0 rfl ?_
  refine wl_iload_n C dX7_placeBeforeLaying_1 1 rfl ?_
  refine wl_icmp_ne C (tgt := 7) dX7_placeBeforeLaying_2 (by decide) (fun hc => ?_) (fun hc => ?_)
  · have h := h.1 hc
    refine wl_iload_n C dX7_placeBeforeLaying_7 0 rfl ?_
    refine wl_iload_n C dX7_placeBeforeLaying_8 1 rfl ?_
    refine wl_icmp_ge C (tgt := 18) dX7_placeBeforeLaying_9 (by decide) (fun hc => ?_) (fun hc => ?_)
    · have h := h.1 hc
      refine wl_iload_n C dX7_placeBeforeLaying_18 0 rfl ?_
      refine wl_sub [] rfl ?_
      exact kX7_placeBeforeLaying_19 l G hg hA x0 x1 C hr x0 M h
    · have h := h.2 hc
      refine wl_iload_n C dX7_placeBeforeLaying_12 0 rfl ?_
      refine wl_iconst (v := 1) C dX7_placeBeforeLaying_13 (by decide) ?_
      refine wl_iadd C dX7_placeBeforeLaying_14 ?_
      refine wl_goto C (tgt := 19) dX7_placeBeforeLaying_15 (by decide) ?_
      refine wl_sub [] rfl ?_
      exact kX7_placeBeforeLaying_19 l G hg hA x0 x1 C hr (x0 + (1 : Int32)) M h
  · have h := h.2 hc
    refine wl_iconst (v := 0) C dX7_placeBeforeLaying_5 (by decide) ?_
    exact wl_iret C hr h dX7_placeBeforeLaying_6
set_option maxRecDepth 100000 in
set_option maxHeartbeats 4000000 in
theorem kX7_rightWhenLaidAt_58 (l : Launch) (G : gP) (hg : gIn G) (hA : gCl G) (x1 : Int32) (x2 : Int32) {p : Program} {e : Env} {s : State} {m : MethodId} {args : Array Value} {below : List Frame} {meth : Method} {c : Code} (C : Cx p s m args meth c G (gA G) cX7_rightWhenLaidAt 6 RX7) (hr : meth.sig.returnType = (some (Jvm.ClassFile.FieldType.int))) {Q : Int32 → Mem → Prop} (k_5 : Int32 → Int32 → Mem → Prop) (hk_5 : ∀ (v3 : Int32) (v4 : Int32) (M : Mem), k_5 v3 v4 M → Wl p l e rmX7_rightWhenLaidAt s m args below meth c (MQ below (va_Qi Q (gB G) (gA G)) args s 0 0 (gA G)) G (gA G) 6 0 0 M 5 [(0, .ref (gAD G 0)), (1, .int x1), (2, .int x2), (3, .int v3), (4, .int v4)] []) (v3 : Int32) (v4 : Int32) (M : Mem) (h : wX7_rightWhenLaidAt_58 x1 x2 k_5 Q v3 v4 M) : Wl p l e rmX7_rightWhenLaidAt s m args below meth c (MQ below (va_Qi Q (gB G) (gA G)) args s 0 0 (gA G)) G (gA G) 6 0 0 M 58 [(0, .ref (gAD G 0)), (1, .int x1), (2, .int x2), (3, .int v3), (4, .int v4)] [] := by
  have h : k_5 v3 (v4 + (1 : Int32)) M := h
  refine wl_iinc (v := (v4 + (1 : Int32))) (lv' := [(4, .int (v4 + (1 : Int32))), (0, .ref (gAD G 0)), (1, .int x1), (2, .int x2), (3, .int v3)]) C dX7_rightWhenLaidAt_58 4 rfl (by rfl) (by decide) rfl ?_
  refine wl_goto C (tgt := 5) dX7_rightWhenLaidAt_61 (by decide) ?_
  refine wl_sub [1, 2, 3, 4, 0] rfl ?_
  exact hk_5 v3 (v4 + (1 : Int32)) M h
set_option maxRecDepth 100000 in
set_option maxHeartbeats 4000000 in
theorem kX7_rightWhenLaidAt_5 (l : Launch) (G : gP) (hg : gIn G) (hA : gCl G) (x1 : Int32) (x2 : Int32) {p : Program} {e : Env} {s : State} {m : MethodId} {args : Array Value} {below : List Frame} {meth : Method} {c : Code} (C : Cx p s m args meth c G (gA G) cX7_rightWhenLaidAt 6 RX7) (hr : meth.sig.returnType = (some (Jvm.ClassFile.FieldType.int))) {Q : Int32 → Mem → Prop} : ∀ (n : Nat) (v3 : Int32) (v4 : Int32) (M : Mem), wX7_rightWhenLaidAt_5 x1 x2 Q n v3 v4 M → Wl p l e rmX7_rightWhenLaidAt s m args below meth c (MQ below (va_Qi Q (gB G) (gA G)) args s 0 0 (gA G)) G (gA G) 6 0 0 M 5 [(0, .ref (gAD G 0)), (1, .int x1), (2, .int x2), (3, .int v3), (4, .int v4)] [] := by
  intro n
  induction n with
  | zero => intro v3 v4 M h; exact h.elim
  | succ n ih =>
    intro v3 v4 M h
    have h : (kd (rid (M 0 2)) = 6 ∧ (wX6_toldTurns (rid (M 0 2)) M (fun r4 M3 => ((r4 ≤ v4 → Q v3 M3) ∧ (¬ r4 ≤ v4 → (wX3_placeAfterFirstReading 32 x2.toInt64 v4 M3 (fun r6 M5 => (wX7_placeBeforeLaying r6 x1 M5 (fun r8 M7 => (wX1_leafAt 22 r8 M7 (fun r10 M9 => (kd (rid (M9 0 2)) = 6 ∧ (wX6_taleLeaf (rid (M9 0 2)) v4 M9 (fun r13 M12 => ((¬ r10 = r13 → wX7_rightWhenLaidAt_58 x1 x2 (wX7_rightWhenLaidAt_5 x1 x2 Q n) Q v3 v4 M12) ∧ (r10 = r13 → wX7_rightWhenLaidAt_58 x1 x2 (wX7_rightWhenLaidAt_5 x1 x2 Q n) Q (v3 + (1 : Int32)) v4 M12)))))))))))))))) := h
    refine wl_iload C dX7_rightWhenLaidAt_5 4 rfl ?_
    refine wl_aload_n C dX7_rightWhenLaidAt_7 0 rfl ?_
    refine gf_7_2 C kq_0 (gic_7 hA kq_0) tw_219 dX7_rightWhenLaidAt_8 ?_
    have hp2 := h.1
    have h := h.2
    refine wl_callVi C (cX6_toldTurns_M l G hg hA (rid (M 0 2)) hp2 M _) h cw_RX7_166 hd_X6_toldTurns ⟨rfl, rfl⟩ ⟨by decide, by decide⟩ (gic_6 hA hp2) (gc_k hp2) rfl (As := []) (rest := [.int v4]) rfl (Nat.le_of_ble_eq_true rfl) ⟨Nat.zero_le _, Nat.zero_le _⟩ rfl dX7_rightWhenLaidAt_11 (fun r4 M3 h => ?_)
    refine wl_icmp_ge C (tgt := 64) dX7_rightWhenLaidAt_14 (by decide) (fun hc => ?_) (fun hc => ?_)
    · have h := h.1 hc
      refine wl_iload_n C dX7_rightWhenLaidAt_64 3 rfl ?_
      exact wl_iret C hr h dX7_rightWhenLaidAt_65
    · have h := h.2 hc
      refine wl_aload_n C dX7_rightWhenLaidAt_17 0 rfl ?_
      refine gf_7_5 C kq_0 (gic_7 hA kq_0) tw_222 dX7_rightWhenLaidAt_18 ?_
      refine wl_iload_n C dX7_rightWhenLaidAt_21 2 rfl ?_
      refine wl_i2l C dX7_rightWhenLaidAt_22 ?_
      refine wl_iload C dX7_rightWhenLaidAt_23 4 rfl ?_
      refine wl_callVi C (cX3_placeAfterFirstReading_M l G hg hA 32 x2.toInt64 v4 kq_32 M3 _) h cw_RX7_255 hd_X3_placeAfterFirstReading ⟨rfl, rfl⟩ ⟨by decide, by decide⟩ (gic_3 hA kq_32) (gc_k kq_32) rfl (As := [.long x2.toInt64, .int v4]) (rest := []) rfl (Nat.le_of_ble_eq_true rfl) ⟨Nat.zero_le _, Nat.zero_le _⟩ rfl dX7_rightWhenLaidAt_25 (fun r6 M5 h => ?_)
      refine wl_istore (i := 5) (lv' := [(5, .int r6), (0, .ref (gAD G 0)), (1, .int x1), (2, .int x2), (3, .int v3), (4, .int v4)]) C dX7_rightWhenLaidAt_28 (by decide) rfl ?_
      refine wl_aload_n C dX7_rightWhenLaidAt_30 1 rfl ?_
      refine gf_7_3 C kq_0 (gic_7 hA kq_0) tw_220 dX7_rightWhenLaidAt_31 ?_
      refine wl_iload C dX7_rightWhenLaidAt_34 0 rfl ?_
      refine wl_iload_n C dX7_rightWhenLaidAt_36 2 rfl ?_
      refine wl_callSi C (cX7_placeBeforeLaying_M l G hg hA r6 x1 M5 _) h cw_RX7_258 hd_X7_placeBeforeLaying ⟨rfl, rfl⟩ ⟨by decide, by decide⟩ (As := [.int r6, .int x1]) (rest := [.ref (gAD G 22)]) rfl (Nat.le_of_ble_eq_true rfl) ⟨Nat.zero_le _, Nat.zero_le _⟩ rfl dX7_rightWhenLaidAt_37 (fun r8 M7 h => ?_)
      refine wl_callVi C (cX1_leafAt_M l G hg hA 22 r8 kq_22 M7 _) h cw_RX7_112 hd_X1_leafAt ⟨rfl, rfl⟩ ⟨by decide, by decide⟩ (gic_1 hA kq_22) (gc_k kq_22) rfl (As := [.int r8]) (rest := []) rfl (Nat.le_of_ble_eq_true rfl) ⟨Nat.zero_le _, Nat.zero_le _⟩ rfl dX7_rightWhenLaidAt_40 (fun r10 M9 h => ?_)
      refine wl_aload_n C dX7_rightWhenLaidAt_43 1 rfl ?_
      refine gf_7_2 C kq_0 (gic_7 hA kq_0) tw_219 dX7_rightWhenLaidAt_44 ?_
      have hp11 := h.1
      have h := h.2
      refine wl_iload C dX7_rightWhenLaidAt_47 5 rfl ?_
      refine wl_callVi C (cX6_taleLeaf_M l G hg hA (rid (M9 0 2)) v4 hp11 M9 _) h cw_RX7_169 hd_X6_taleLeaf ⟨rfl, rfl⟩ ⟨by decide, by decide⟩ (gic_6 hA hp11) (gc_k hp11) rfl (As := [.int v4]) (rest := [.int r10]) rfl (Nat.le_of_ble_eq_true rfl) ⟨Nat.zero_le _, Nat.zero_le _⟩ rfl dX7_rightWhenLaidAt_49 (fun r13 M12 h => ?_)
      refine wl_icmp_ne C (tgt := 58) dX7_rightWhenLaidAt_52 (by decide) (fun hc => ?_) (fun hc => ?_)
      · have h := h.1 hc
        refine wl_sub [1, 2, 3, 4, 5] rfl ?_
        exact kX7_rightWhenLaidAt_58 l G hg hA x1 x2 C hr (wX7_rightWhenLaidAt_5 x1 x2 Q n) (ih) v3 v4 M12 h
      · have h := h.2 hc
        refine wl_iinc (v := (v3 + (1 : Int32))) (lv' := [(3, .int (v3 + (1 : Int32))), (5, .int r6), (0, .ref (gAD G 0)), (1, .int x1), (2, .int x2), (4, .int v4)]) C dX7_rightWhenLaidAt_55 4 rfl (by rfl) (by decide) rfl ?_
        refine wl_sub [2, 3, 4, 0, 5] rfl ?_
        exact kX7_rightWhenLaidAt_58 l G hg hA x1 x2 C hr (wX7_rightWhenLaidAt_5 x1 x2 Q n) (ih) (v3 + (1 : Int32)) v4 M12 h
set_option maxRecDepth 100000 in
set_option maxHeartbeats 4000000 in
theorem cX7_rightWhenLaidAt_M (l : Launch) (G : gP) (hg : gIn G) (hA : gCl G) (x1 : Int32) (x2 : Int32) (M : Mem) (Q : Int32 → Mem → Prop) : Met l yX7_rightWhenLaidAt (Cond.code yX7_rightWhenLaidAt cX7_rightWhenLaidAt 6 (some (Jvm.ClassFile.FieldType.int)) :: TB) rmX7_rightWhenLaidAt (va_Pc [.ref (gAD G 0), .int x1, .int x2] (fun U => gS G M U ∧ wX7_rightWhenLaidAt x1 x2 M Q)) (va_Qi Q (gB G) (gA G)) 0 0 (gA G) := by
  refine gMet (by decide +kernel) (show _ = Cond.code yX7_rightWhenLaidAt cX7_rightWhenLaidAt 6 (some (Jvm.ClassFile.FieldType.int)) from rfl) hg (Nat.le_of_ble_eq_true rfl) [(0, .ref (gAD G 0)), (1, .int x1), (2, .int x2)] rfl ?_
  intro p e s m args below meth c C hr h
  have h : (∃ n1, wX7_rightWhenLaidAt_5 x1 x2 Q n1 (0 : Int32) (0 : Int32) M) := h
  refine wl_iconst (v := 0) C dX7_rightWhenLaidAt_0 (by decide) ?_
  refine wl_istore_n (i := 3) (lv' := [(3, .int (0 : Int32)), (0, .ref (gAD G 0)), (1, .int x1), (2, .int x2)]) C dX7_rightWhenLaidAt_1 rfl (by decide) rfl ?_
  refine wl_iconst (v := 0) C dX7_rightWhenLaidAt_2 (by decide) ?_
  refine wl_istore (i := 4) (lv' := [(4, .int (0 : Int32)), (3, .int (0 : Int32)), (0, .ref (gAD G 0)), (1, .int x1), (2, .int x2)]) C dX7_rightWhenLaidAt_3 (by decide) rfl ?_
  refine wl_sub [2, 3, 4, 1, 0] rfl ?_
  obtain ⟨n1, h⟩ := h
  exact kX7_rightWhenLaidAt_5 l G hg hA x1 x2 C hr n1 (0 : Int32) (0 : Int32) M h
set_option maxRecDepth 100000 in
set_option maxHeartbeats 4000000 in
theorem kX7_pleased_19 (l : Launch) (G : gP) (hg : gIn G) (hA : gCl G) (x1 : Int32) (x2 : Int32) {p : Program} {e : Env} {s : State} {m : MethodId} {args : Array Value} {below : List Frame} {meth : Method} {c : Code} (C : Cx p s m args meth c G (gA G) cX7_pleased 7 RX7) (hr : meth.sig.returnType = (some (Jvm.ClassFile.FieldType.int))) {Q : Int32 → Mem → Prop} (M : Mem) (h : wX7_pleased_19 x1 x2 Q M) : Wl p l e rmX7_pleased s m args below meth c (MQ below (va_Qi Q (gB G) (gA G)) args s 0 0 (gA G)) G (gA G) 7 0 0 M 19 [] [] := by
  have h : Q (-1 : Int32) M := h
  refine wl_iconst (v := (-1)) C dX7_pleased_19 (by decide) ?_
  exact wl_iret C hr h dX7_pleased_20
set_option maxRecDepth 100000 in
set_option maxHeartbeats 4000000 in
theorem kX7_pleased_65 (l : Launch) (G : gP) (hg : gIn G) (hA : gCl G) (x1 : Int32) (x2 : Int32) {p : Program} {e : Env} {s : State} {m : MethodId} {args : Array Value} {below : List Frame} {meth : Method} {c : Code} (C : Cx p s m args meth c G (gA G) cX7_pleased 7 RX7) (hr : meth.sig.returnType = (some (Jvm.ClassFile.FieldType.int))) {Q : Int32 → Mem → Prop} (k_30 : Int32 → Int32 → Int32 → Mem → Prop) (hk_30 : ∀ (v3 : Int32) (v4 : Int32) (v5 : Int32) (M : Mem), k_30 v3 v4 v5 M → Wl p l e rmX7_pleased s m args below meth c (MQ below (va_Qi Q (gB G) (gA G)) args s 0 0 (gA G)) G (gA G) 7 0 0 M 30 [(0, .ref (gAD G 0)), (1, .int x1), (2, .int x2), (3, .int v3), (4, .int v4), (5, .int v5)] []) (v3 : Int32) (v4 : Int32) (v5 : Int32) (M : Mem) (h : wX7_pleased_65 x1 x2 k_30 Q v3 v4 v5 M) : Wl p l e rmX7_pleased s m args below meth c (MQ below (va_Qi Q (gB G) (gA G)) args s 0 0 (gA G)) G (gA G) 7 0 0 M 65 [(0, .ref (gAD G 0)), (1, .int x1), (2, .int x2), (3, .int v3), (4, .int v4), (5, .int v5)] [] := by
  have h : k_30 v3 v4 (v5 + (1 : Int32)) M := h
  refine wl_iinc (v := (v5 + (1 : Int32))) (lv' := [(5, .int (v5 + (1 : Int32))), (0, .ref (gAD G 0)), (1, .int x1), (2, .int x2), (3, .int v3), (4, .int v4)]) C dX7_pleased_65 5 rfl (by rfl) (by decide) rfl ?_
  refine wl_goto C (tgt := 30) dX7_pleased_68 (by decide) ?_
  refine wl_sub [1, 2, 3, 4, 5, 0] rfl ?_
  exact hk_30 v3 v4 (v5 + (1 : Int32)) M h
set_option maxRecDepth 100000 in
set_option maxHeartbeats 4000000 in
theorem kX7_pleased_81 (l : Launch) (G : gP) (hg : gIn G) (hA : gCl G) (x1 : Int32) (x2 : Int32) {p : Program} {e : Env} {s : State} {m : MethodId} {args : Array Value} {below : List Frame} {meth : Method} {c : Code} (C : Cx p s m args meth c G (gA G) cX7_pleased 7 RX7) (hr : meth.sig.returnType = (some (Jvm.ClassFile.FieldType.int))) {Q : Int32 → Mem → Prop} (s0 : Int32) (M : Mem) (h : wX7_pleased_81 x1 x2 Q s0 M) : Wl p l e rmX7_pleased s m args below meth c (MQ below (va_Qi Q (gB G) (gA G)) args s 0 0 (gA G)) G (gA G) 7 0 0 M 81 [] [.int s0] := by
  have h : Q s0 M := h
  exact wl_iret C hr h dX7_pleased_81
set_option maxRecDepth 100000 in
set_option maxHeartbeats 4000000 in
theorem kX7_pleased_30 (l : Launch) (G : gP) (hg : gIn G) (hA : gCl G) (x1 : Int32) (x2 : Int32) {p : Program} {e : Env} {s : State} {m : MethodId} {args : Array Value} {below : List Frame} {meth : Method} {c : Code} (C : Cx p s m args meth c G (gA G) cX7_pleased 7 RX7) (hr : meth.sig.returnType = (some (Jvm.ClassFile.FieldType.int))) {Q : Int32 → Mem → Prop} : ∀ (n : Nat) (v3 : Int32) (v4 : Int32) (v5 : Int32) (M : Mem), wX7_pleased_30 x1 x2 Q n v3 v4 v5 M → Wl p l e rmX7_pleased s m args below meth c (MQ below (va_Qi Q (gB G) (gA G)) args s 0 0 (gA G)) G (gA G) 7 0 0 M 30 [(0, .ref (gAD G 0)), (1, .int x1), (2, .int x2), (3, .int v3), (4, .int v4), (5, .int v5)] [] := by
  intro n
  induction n with
  | zero => intro v3 v4 v5 M h; exact h.elim
  | succ n ih =>
    intro v3 v4 v5 M h
    have h : (kd (rid (M 0 2)) = 6 ∧ (((M (rid (M 0 2)) 0) ≤ v5 → ((¬ x2 = 0 → wX7_pleased_81 x1 x2 Q v4 M) ∧ (x2 = 0 → wX7_pleased_81 x1 x2 Q v3 M))) ∧ (¬ (M (rid (M 0 2)) 0) ≤ v5 → (wX7_rightWhenLaidAt v5 x1 M (fun r8 M7 => ((r8 ≤ v4 → wX7_pleased_65 x1 x2 (wX7_pleased_30 x1 x2 Q n) Q v3 v4 v5 M7) ∧ (¬ r8 ≤ v4 → wX7_pleased_65 x1 x2 (wX7_pleased_30 x1 x2 Q n) Q v5 r8 v5 M7))))))) := h
    refine wl_iload C dX7_pleased_30 5 rfl ?_
    refine wl_aload_n C dX7_pleased_32 0 rfl ?_
    refine gf_7_2 C kq_0 (gic_7 hA kq_0) tw_219 dX7_pleased_33 ?_
    have hp6 := h.1
    have h := h.2
    refine gfN_6_0 C hp6 (gic_6 hA hp6) (List.mem_of_getElem? (i := 1) rfl) dX7_pleased_36 ?_
    refine wl_icmp_ge C (tgt := 71) dX7_pleased_39 (by decide) (fun hc => ?_) (fun hc => ?_)
    · have h := h.1 hc
      refine wl_iload_n C dX7_pleased_71 2 rfl ?_
      refine wl_if_ne C (tgt := 79) dX7_pleased_72 (by decide) (fun hc => ?_) (fun hc => ?_)
      · have h := h.1 hc
        refine wl_iload C dX7_pleased_79 4 rfl ?_
        refine wl_sub [] rfl ?_
        exact kX7_pleased_81 l G hg hA x1 x2 C hr v4 M h
      · have h := h.2 hc
        refine wl_iload_n C dX7_pleased_75 3 rfl ?_
        refine wl_goto C (tgt := 81) dX7_pleased_76 (by decide) ?_
        refine wl_sub [] rfl ?_
        exact kX7_pleased_81 l G hg hA x1 x2 C hr v3 M h
    · have h := h.2 hc
      refine wl_aload_n C dX7_pleased_42 0 rfl ?_
      refine wl_iload C dX7_pleased_43 5 rfl ?_
      refine wl_iload_n C dX7_pleased_45 1 rfl ?_
      refine wl_callVi C (cX7_rightWhenLaidAt_M l G hg hA v5 x1 M _) h cw_RX7_214 hd_X7_rightWhenLaidAt ⟨rfl, rfl⟩ ⟨by decide, by decide⟩ (gic_7 hA kq_0) (gc_k kq_0) rfl (As := [.int v5, .int x1]) (rest := []) rfl (Nat.le_of_ble_eq_true rfl) ⟨Nat.zero_le _, Nat.zero_le _⟩ rfl dX7_pleased_46 (fun r8 M7 h => ?_)
      refine wl_istore (i := 6) (lv' := [(6, .int r8), (0, .ref (gAD G 0)), (1, .int x1), (2, .int x2), (3, .int v3), (4, .int v4), (5, .int v5)]) C dX7_pleased_49 (by decide) rfl ?_
      refine wl_iload C dX7_pleased_51 0 rfl ?_
      refine wl_iload C dX7_pleased_53 5 rfl ?_
      refine wl_icmp_le C (tgt := 65) dX7_pleased_55 (by decide) (fun hc => ?_) (fun hc => ?_)
      · have h := h.1 hc
        refine wl_sub [1, 2, 3, 4, 5, 6] rfl ?_
        exact kX7_pleased_65 l G hg hA x1 x2 C hr (wX7_pleased_30 x1 x2 Q n) (ih) v3 v4 v5 M7 h
      · have h := h.2 hc
        refine wl_iload C dX7_pleased_58 6 rfl ?_
        refine wl_istore_n (i := 3) (lv' := [(3, .int v5), (6, .int r8), (0, .ref (gAD G 0)), (1, .int x1), (2, .int x2), (4, .int v4), (5, .int v5)]) C dX7_pleased_60 rfl (by decide) rfl ?_
        refine wl_iload C dX7_pleased_61 1 rfl ?_
        refine wl_istore (i := 4) (lv' := [(4, .int r8), (3, .int v5), (6, .int r8), (0, .ref (gAD G 0)), (1, .int x1), (2, .int x2), (5, .int v5)]) C dX7_pleased_63 (by decide) rfl ?_
        refine wl_sub [3, 4, 5, 1, 0, 6] rfl ?_
        exact kX7_pleased_65 l G hg hA x1 x2 C hr (wX7_pleased_30 x1 x2 Q n) (ih) v5 r8 v5 M7 h
set_option maxRecDepth 100000 in
set_option maxHeartbeats 4000000 in
theorem cX7_pleased_M (l : Launch) (G : gP) (hg : gIn G) (hA : gCl G) (x1 : Int32) (x2 : Int32) (M : Mem) (Q : Int32 → Mem → Prop) : Met l yX7_pleased (Cond.code yX7_pleased cX7_pleased 7 (some (Jvm.ClassFile.FieldType.int)) :: TB) rmX7_pleased (va_Pc [.ref (gAD G 0), .int x1, .int x2] (fun U => gS G M U ∧ wX7_pleased x1 x2 M Q)) (va_Qi Q (gB G) (gA G)) 0 0 (gA G) := by
  refine gMet (by decide +kernel) (show _ = Cond.code yX7_pleased cX7_pleased 7 (some (Jvm.ClassFile.FieldType.int)) from rfl) hg (Nat.le_of_ble_eq_true rfl) [(0, .ref (gAD G 0)), (1, .int x1), (2, .int x2)] rfl ?_
  intro p e s m args below meth c C hr h
  have h : (wX7_within x1 (1 : Int32) (100 : Int32) M (fun r2 M1 => ((r2 = 0 → wX7_pleased_19 x1 x2 Q M1) ∧ (¬ r2 = 0 → (wX7_within x2 (0 : Int32) (1 : Int32) M1 (fun r4 M3 => ((¬ r4 = 0 → (∃ n5, wX7_pleased_30 x1 x2 Q n5 (0 : Int32) (-4 : Int32) (0 : Int32) M3)) ∧ (r4 = 0 → wX7_pleased_19 x1 x2 Q M3)))))))) := h
  refine wl_iload_n C dX7_pleased_0 1 rfl ?_
  refine wl_iconst (v := 1) C dX7_pleased_1 (by decide) ?_
  refine wl_bipush (v := 100) C dX7_pleased_2 (by decide) ?_
  refine wl_callSi C (cX7_within_M l G hg hA x1 (1 : Int32) (100 : Int32) M _) h cw_RX7_78 hd_X7_within ⟨rfl, rfl⟩ ⟨by decide, by decide⟩ (As := [.int x1, .int (1 : Int32), .int (100 : Int32)]) (rest := []) rfl (Nat.le_of_ble_eq_true rfl) ⟨Nat.zero_le _, Nat.zero_le _⟩ rfl dX7_pleased_4 (fun r2 M1 h => ?_)
  refine wl_if_eq C (tgt := 19) dX7_pleased_7 (by decide) (fun hc => ?_) (fun hc => ?_)
  · have h := h.1 hc
    refine wl_sub [] rfl ?_
    exact kX7_pleased_19 l G hg hA x1 x2 C hr M1 h
  · have h := h.2 hc
    refine wl_iload_n C dX7_pleased_10 2 rfl ?_
    refine wl_iconst (v := 0) C dX7_pleased_11 (by decide) ?_
    refine wl_iconst (v := 1) C dX7_pleased_12 (by decide) ?_
    refine wl_callSi C (cX7_within_M l G hg hA x2 (0 : Int32) (1 : Int32) M1 _) h cw_RX7_78 hd_X7_within ⟨rfl, rfl⟩ ⟨by decide, by decide⟩ (As := [.int x2, .int (0 : Int32), .int (1 : Int32)]) (rest := []) rfl (Nat.le_of_ble_eq_true rfl) ⟨Nat.zero_le _, Nat.zero_le _⟩ rfl dX7_pleased_13 (fun r4 M3 h => ?_)
    refine wl_if_ne C (tgt := 21) dX7_pleased_16 (by decide) (fun hc => ?_) (fun hc => ?_)
    · have h := h.1 hc
      refine wl_iconst (v := 0) C dX7_pleased_21 (by decide) ?_
      refine wl_istore_n (i := 3) (lv' := [(3, .int (0 : Int32)), (0, .ref (gAD G 0)), (1, .int x1), (2, .int x2)]) C dX7_pleased_22 rfl (by decide) rfl ?_
      refine wl_bipush (v := (-4)) C dX7_pleased_23 (by decide) ?_
      refine wl_istore (i := 4) (lv' := [(4, .int (-4 : Int32)), (3, .int (0 : Int32)), (0, .ref (gAD G 0)), (1, .int x1), (2, .int x2)]) C dX7_pleased_25 (by decide) rfl ?_
      refine wl_iconst (v := 0) C dX7_pleased_27 (by decide) ?_
      refine wl_istore (i := 5) (lv' := [(5, .int (0 : Int32)), (4, .int (-4 : Int32)), (3, .int (0 : Int32)), (0, .ref (gAD G 0)), (1, .int x1), (2, .int x2)]) C dX7_pleased_28 (by decide) rfl ?_
      refine wl_sub [3, 4, 5, 2, 1, 0] rfl ?_
      obtain ⟨n5, h⟩ := h
      exact kX7_pleased_30 l G hg hA x1 x2 C hr n5 (0 : Int32) (-4 : Int32) (0 : Int32) M3 h
    · have h := h.2 hc
      refine wl_sub [] rfl ?_
      exact kX7_pleased_19 l G hg hA x1 x2 C hr M3 h
set_option maxRecDepth 100000 in
set_option maxHeartbeats 4000000 in
theorem kX7_keptPack_15 (l : Launch) (G : gP) (hg : gIn G) (hA : gCl G) (x1 : Int32) {p : Program} {e : Env} {s : State} {m : MethodId} {args : Array Value} {below : List Frame} {meth : Method} {c : Code} (C : Cx p s m args meth c G (gA G) cX7_keptPack 2 RX7) (hr : meth.sig.returnType = (some (Jvm.ClassFile.FieldType.object "ShufflingBook$Pack"))) {Q : Nat → Mem → Prop} (s0 : Nat) (M : Mem) (hs0 : kd s0 = 2) (h : wX7_keptPack_15 x1 Q s0 M) : Wl p l e rmX7_keptPack s m args below meth c (MQ below (va_Qr (fun u : Nat × Mem => Q u.1 u.2) (fun u a t => a = gAD G u.1 ∧ GW G u.2 t.heap) (gA G)) args s 0 0 (gA G)) G (gA G) 2 0 0 M 15 [] [.ref (gAD G s0)] := by
  have h : Q s0 M := h
  exact wl_aret C hr h dX7_keptPack_15
set_option maxRecDepth 100000 in
set_option maxHeartbeats 4000000 in
theorem cX7_keptPack_M (l : Launch) (G : gP) (hg : gIn G) (hA : gCl G) (x1 : Int32) (M : Mem) (Q : Nat → Mem → Prop) : Met l yX7_keptPack (Cond.code yX7_keptPack cX7_keptPack 2 (some (Jvm.ClassFile.FieldType.object "ShufflingBook$Pack")) :: TB) rmX7_keptPack (va_Pc [.ref (gAD G 0), .int x1] (fun U => gS G M U ∧ wX7_keptPack x1 M Q)) (va_Qr (fun u : Nat × Mem => Q u.1 u.2) (fun u a t => a = gAD G u.1 ∧ GW G u.2 t.heap) (gA G)) 0 0 (gA G) := by
  refine gMet (by decide +kernel) (show _ = Cond.code yX7_keptPack cX7_keptPack 2 (some (Jvm.ClassFile.FieldType.object "ShufflingBook$Pack")) from rfl) hg (Nat.le_of_ble_eq_true rfl) [(0, .ref (gAD G 0)), (1, .int x1)] rfl ?_
  intro p e s m args below meth c C hr h
  have h : ((¬ x1 = 0 → wX7_keptPack_15 x1 Q 73 M) ∧ (x1 = 0 → wX7_keptPack_15 x1 Q 67 M)) := h
  refine wl_iload_n C dX7_keptPack_0 1 rfl ?_
  refine wl_if_ne C (tgt := 11) dX7_keptPack_1 (by decide) (fun hc => ?_) (fun hc => ?_)
  · have h := h.1 hc
    refine wl_aload_n C dX7_keptPack_11 0 rfl ?_
    refine gf_7_12 C kq_0 (gic_7 hA kq_0) tw_229 dX7_keptPack_12 ?_
    refine wl_sub [] rfl ?_
    exact kX7_keptPack_15 l G hg hA x1 C hr 73 M kq_73 h
  · have h := h.2 hc
    refine wl_aload_n C dX7_keptPack_4 0 rfl ?_
    refine gf_7_11 C kq_0 (gic_7 hA kq_0) tw_228 dX7_keptPack_5 ?_
    refine wl_goto C (tgt := 15) dX7_keptPack_8 (by decide) ?_
    refine wl_sub [] rfl ?_
    exact kX7_keptPack_15 l G hg hA x1 C hr 67 M kq_67 h
set_option maxRecDepth 100000 in
set_option maxHeartbeats 4000000 in
theorem cX7_keep_M (l : Launch) (G : gP) (hg : gIn G) (hA : gCl G) (M : Mem) (Q : Int32 → Mem → Prop) : Met l yX7_keep (Cond.code yX7_keep cX7_keep 1 (some (Jvm.ClassFile.FieldType.int)) :: TB) rmX7_keep (va_Pc [.ref (gAD G 0)] (fun U => gS G M U ∧ wX7_keep M Q)) (va_Qi Q (gB G) (gA G)) 0 0 (gA G) := by
  refine gMet (by decide +kernel) (show _ = Cond.code yX7_keep cX7_keep 1 (some (Jvm.ClassFile.FieldType.int)) from rfl) hg (Nat.le_of_ble_eq_true rfl) [(0, .ref (gAD G 0))] rfl ?_
  intro p e s m args below meth c C hr h
  have h : (((M 0 13) < (2 : Int32) → (wX7_keptPack (M 0 13) M (fun r2 M1 => (kd r2 = 2 ∧ (wX2_copyFrom r2 61 M1 (fun M4 => Q ((mu M4 0 13 ((M4 0 13) + (1 : Int32))) 0 13) (mu M4 0 13 ((M4 0 13) + (1 : Int32))))))))) ∧ (¬ (M 0 13) < (2 : Int32) → Q (-3 : Int32) M)) := h
  refine wl_aload_n C dX7_keep_0 0 rfl ?_
  refine gf_7_13 C kq_0 (gic_7 hA kq_0) tw_230 dX7_keep_1 ?_
  refine wl_iconst (v := 2) C dX7_keep_4 (by decide) ?_
  refine wl_icmp_lt C (tgt := 11) dX7_keep_5 (by decide) (fun hc => ?_) (fun hc => ?_)
  · have h := h.1 hc
    refine wl_aload_n C dX7_keep_11 0 rfl ?_
    refine wl_aload_n C dX7_keep_12 0 rfl ?_
    refine gf_7_13 C kq_0 (gic_7 hA kq_0) tw_230 dX7_keep_13 ?_
    refine wl_callVr C (cX7_keptPack_M l G hg hA (M 0 13) M _) h cw_RX7_220 hd_X7_keptPack ⟨rfl, rfl⟩ ⟨by decide, by decide⟩ (gic_7 hA kq_0) (gc_k kq_0) rfl (As := [.int (M 0 13)]) (rest := []) rfl (Nat.le_of_ble_eq_true rfl) ⟨Nat.zero_le _, Nat.zero_le _⟩ rfl dX7_keep_16 (fun r2 M1 h => ?_)
    have hp3 := h.1
    have h := h.2
    refine wl_aload_n C dX7_keep_19 0 rfl ?_
    refine gf_7_10 C kq_0 (gic_7 hA kq_0) tw_227 dX7_keep_20 ?_
    refine wl_callVv C (cX2_copyFrom_M l G hg hA r2 61 hp3 kq_61 M1 _) h cw_RX7_224 hd_X2_copyFrom ⟨rfl, rfl⟩ ⟨by decide, by decide⟩ (gic_2 hA hp3) (gc_k hp3) rfl (As := [.ref (gAD G 61)]) (rest := []) rfl (Nat.le_of_ble_eq_true rfl) ⟨Nat.zero_le _, Nat.zero_le _⟩ rfl dX7_keep_23 (fun M4 h => ?_)
    refine wl_aload_n C dX7_keep_26 0 rfl ?_
    refine wl_dup C dX7_keep_27 rfl ?_
    refine gf_7_13 C kq_0 (gic_7 hA kq_0) tw_230 dX7_keep_28 ?_
    refine wl_iconst (v := 1) C dX7_keep_31 (by decide) ?_
    refine wl_iadd C dX7_keep_32 ?_
    refine gp_7_13 C kq_0 (gic_7 hA kq_0) tw_230 dX7_keep_33 ?_
    refine wl_aload_n C dX7_keep_36 0 rfl ?_
    refine gf_7_13 C kq_0 (gic_7 hA kq_0) tw_230 dX7_keep_37 ?_
    exact wl_iret C hr h dX7_keep_40
  · have h := h.2 hc
    refine wl_bipush (v := (-3)) C dX7_keep_8 (by decide) ?_
    exact wl_iret C hr h dX7_keep_10
set_option maxRecDepth 100000 in
set_option maxHeartbeats 4000000 in
theorem cX7_back_M (l : Launch) (G : gP) (hg : gIn G) (hA : gCl G) (M : Mem) (Q : Int32 → Mem → Prop) : Met l yX7_back (Cond.code yX7_back cX7_back 1 (some (Jvm.ClassFile.FieldType.int)) :: TB) rmX7_back (va_Pc [.ref (gAD G 0)] (fun U => gS G M U ∧ wX7_back M Q)) (va_Qi Q (gB G) (gA G)) 0 0 (gA G) := by
  refine gMet (by decide +kernel) (show _ = Cond.code yX7_back cX7_back 1 (some (Jvm.ClassFile.FieldType.int)) from rfl) hg (Nat.le_of_ble_eq_true rfl) [(0, .ref (gAD G 0))] rfl ?_
  intro p e s m args below meth c C hr h
  have h : ((0 < (M 0 13) → (wX7_keptPack ((mu M 0 13 ((M 0 13) - (1 : Int32))) 0 13) (mu M 0 13 ((M 0 13) - (1 : Int32))) (fun r2 M1 => (kd r2 = 2 ∧ (wX2_copyFrom 61 r2 M1 (fun M4 => Q (M4 0 13) M4)))))) ∧ (¬ 0 < (M 0 13) → Q (-2 : Int32) M)) := h
  refine wl_aload_n C dX7_back_0 0 rfl ?_
  refine gf_7_13 C kq_0 (gic_7 hA kq_0) tw_230 dX7_back_1 ?_
  refine wl_if_gt C (tgt := 10) dX7_back_4 (by decide) (fun hc => ?_) (fun hc => ?_)
  · have h := h.1 hc
    refine wl_aload_n C dX7_back_10 0 rfl ?_
    refine wl_dup C dX7_back_11 rfl ?_
    refine gf_7_13 C kq_0 (gic_7 hA kq_0) tw_230 dX7_back_12 ?_
    refine wl_iconst (v := 1) C dX7_back_15 (by decide) ?_
    refine wl_isub C dX7_back_16 ?_
    refine gp_7_13 C kq_0 (gic_7 hA kq_0) tw_230 dX7_back_17 ?_
    refine wl_aload_n C dX7_back_20 0 rfl ?_
    refine gf_7_10 C kq_0 (gic_7 hA kq_0) tw_227 dX7_back_21 ?_
    refine wl_aload_n C dX7_back_24 0 rfl ?_
    refine wl_aload_n C dX7_back_25 0 rfl ?_
    refine gf_7_13 C kq_0 (gic_7 hA kq_0) tw_230 dX7_back_26 ?_
    refine wl_callVr C (cX7_keptPack_M l G hg hA ((mu M 0 13 ((M 0 13) - (1 : Int32))) 0 13) (mu M 0 13 ((M 0 13) - (1 : Int32))) _) h cw_RX7_220 hd_X7_keptPack ⟨rfl, rfl⟩ ⟨by decide, by decide⟩ (gic_7 hA kq_0) (gc_k kq_0) rfl (As := [.int ((mu M 0 13 ((M 0 13) - (1 : Int32))) 0 13)]) (rest := [.ref (gAD G 61)]) rfl (Nat.le_of_ble_eq_true rfl) ⟨Nat.zero_le _, Nat.zero_le _⟩ rfl dX7_back_29 (fun r2 M1 h => ?_)
    have hp3 := h.1
    have h := h.2
    refine wl_callVv C (cX2_copyFrom_M l G hg hA 61 r2 kq_61 hp3 M1 _) h cw_RX7_224 hd_X2_copyFrom ⟨rfl, rfl⟩ ⟨by decide, by decide⟩ (gic_2 hA kq_61) (gc_k kq_61) rfl (As := [.ref (gAD G r2)]) (rest := []) rfl (Nat.le_of_ble_eq_true rfl) ⟨Nat.zero_le _, Nat.zero_le _⟩ rfl dX7_back_32 (fun M4 h => ?_)
    refine wl_aload_n C dX7_back_35 0 rfl ?_
    refine gf_7_13 C kq_0 (gic_7 hA kq_0) tw_230 dX7_back_36 ?_
    exact wl_iret C hr h dX7_back_39
  · have h := h.2 hc
    refine wl_bipush (v := (-2)) C dX7_back_7 (by decide) ?_
    exact wl_iret C hr h dX7_back_9
set_option maxRecDepth 100000 in
set_option maxHeartbeats 4000000 in
theorem cX7_count_M (l : Launch) (G : gP) (hg : gIn G) (hA : gCl G) (x1 : Int32) (M : Mem) (Q : Int32 → Mem → Prop) : Met l yX7_count (Cond.code yX7_count cX7_count 2 (some (Jvm.ClassFile.FieldType.int)) :: TB) rmX7_count (va_Pc [.ref (gAD G 0), .int x1] (fun U => gS G M U ∧ wX7_count x1 M Q)) (va_Qi Q (gB G) (gA G)) 0 0 (gA G) := by
  refine gMet (by decide +kernel) (show _ = Cond.code yX7_count cX7_count 2 (some (Jvm.ClassFile.FieldType.int)) from rfl) hg (Nat.le_of_ble_eq_true rfl) [(0, .ref (gAD G 0)), (1, .int x1)] rfl ?_
  intro p e s m args below meth c C hr h
  have h : (wX7_within x1 (0 : Int32) (7 : Int32) M (fun r2 M1 => ((¬ r2 = 0 → ((x1 = (0 : Int32) → (kd (rid (M1 0 2)) = 6 ∧ Q (M1 (rid (M1 0 2)) 0) M1)) ∧ (¬ x1 = (0 : Int32) → ((x1 = (1 : Int32) → (kd (rid (M1 0 2)) = 6 ∧ Q (M1 (rid (M1 0 2)) 1) M1)) ∧ (¬ x1 = (1 : Int32) → ((x1 = (2 : Int32) → (kd (rid (M1 0 2)) = 6 ∧ Q (M1 (rid (M1 0 2)) 8) M1)) ∧ (¬ x1 = (2 : Int32) → ((x1 = (3 : Int32) → Q (M1 61 1) M1) ∧ (¬ x1 = (3 : Int32) → ((x1 = (4 : Int32) → Q (M1 61 2) M1) ∧ (¬ x1 = (4 : Int32) → ((x1 = (5 : Int32) → Q (M1 0 9) M1) ∧ (¬ x1 = (5 : Int32) → ((x1 = (6 : Int32) → Q (M1 0 13) M1) ∧ (¬ x1 = (6 : Int32) → (wX5_size 1 M1 (fun r4 M3 => Q r4 M3))))))))))))))))) ∧ (r2 = 0 → Q (-1 : Int32) M1)))) := h
  refine wl_iload_n C dX7_count_0 1 rfl ?_
  refine wl_iconst (v := 0) C dX7_count_1 (by decide) ?_
  refine wl_bipush (v := 7) C dX7_count_2 (by decide) ?_
  refine wl_callSi C (cX7_within_M l G hg hA x1 (0 : Int32) (7 : Int32) M _) h cw_RX7_78 hd_X7_within ⟨rfl, rfl⟩ ⟨by decide, by decide⟩ (As := [.int x1, .int (0 : Int32), .int (7 : Int32)]) (rest := []) rfl (Nat.le_of_ble_eq_true rfl) ⟨Nat.zero_le _, Nat.zero_le _⟩ rfl dX7_count_4 (fun r2 M1 h => ?_)
  refine wl_if_ne C (tgt := 12) dX7_count_7 (by decide) (fun hc => ?_) (fun hc => ?_)
  · have h := h.1 hc
    refine wl_iload_n C dX7_count_12 1 rfl ?_
    by_cases ht0 : x1 = (0 : Int32)
    · have h := h.1 ht0
      refine wl_tabIn C (tgt := 56) (0 : Int32) ht0 dX7_count_13 (by decide) (by decide) rfl (by decide) ?_
      refine wl_aload_n C dX7_count_56 0 rfl ?_
      refine gf_7_2 C kq_0 (gic_7 hA kq_0) tw_219 dX7_count_57 ?_
      have hp5 := h.1
      have h := h.2
      refine gfN_6_0 C hp5 (gic_6 hA hp5) (List.mem_of_getElem? (i := 1) rfl) dX7_count_60 ?_
      exact wl_iret C hr h dX7_count_63
    · have h := h.2 ht0
      by_cases ht1 : x1 = (1 : Int32)
      · have h := h.1 ht1
        refine wl_tabIn C (tgt := 64) (1 : Int32) ht1 dX7_count_13 (by decide) (by decide) rfl (by decide) ?_
        refine wl_aload_n C dX7_count_64 0 rfl ?_
        refine gf_7_2 C kq_0 (gic_7 hA kq_0) tw_219 dX7_count_65 ?_
        have hp6 := h.1
        have h := h.2
        refine gfN_6_1 C hp6 (gic_6 hA hp6) (List.mem_of_getElem? (i := 4) rfl) dX7_count_68 ?_
        exact wl_iret C hr h dX7_count_71
      · have h := h.2 ht1
        by_cases ht2 : x1 = (2 : Int32)
        · have h := h.1 ht2
          refine wl_tabIn C (tgt := 72) (2 : Int32) ht2 dX7_count_13 (by decide) (by decide) rfl (by decide) ?_
          refine wl_aload_n C dX7_count_72 0 rfl ?_
          refine gf_7_2 C kq_0 (gic_7 hA kq_0) tw_219 dX7_count_73 ?_
          have hp7 := h.1
          have h := h.2
          refine gfN_6_8 C hp7 (gic_6 hA hp7) (List.mem_of_getElem? (i := 9) rfl) dX7_count_76 ?_
          exact wl_iret C hr h dX7_count_79
        · have h := h.2 ht2
          by_cases ht3 : x1 = (3 : Int32)
          · have h := h.1 ht3
            refine wl_tabIn C (tgt := 80) (3 : Int32) ht3 dX7_count_13 (by decide) (by decide) rfl (by decide) ?_
            refine wl_aload_n C dX7_count_80 0 rfl ?_
            refine gf_7_10 C kq_0 (gic_7 hA kq_0) tw_227 dX7_count_81 ?_
            refine gfN_2_1 C kq_61 (gic_2 hA kq_61) (List.mem_of_getElem? (i := 12) rfl) dX7_count_84 ?_
            exact wl_iret C hr h dX7_count_87
          · have h := h.2 ht3
            by_cases ht4 : x1 = (4 : Int32)
            · have h := h.1 ht4
              refine wl_tabIn C (tgt := 88) (4 : Int32) ht4 dX7_count_13 (by decide) (by decide) rfl (by decide) ?_
              refine wl_aload_n C dX7_count_88 0 rfl ?_
              refine gf_7_10 C kq_0 (gic_7 hA kq_0) tw_227 dX7_count_89 ?_
              refine gfN_2_2 C kq_61 (gic_2 hA kq_61) (List.mem_of_getElem? (i := 13) rfl) dX7_count_92 ?_
              exact wl_iret C hr h dX7_count_95
            · have h := h.2 ht4
              by_cases ht5 : x1 = (5 : Int32)
              · have h := h.1 ht5
                refine wl_tabIn C (tgt := 96) (5 : Int32) ht5 dX7_count_13 (by decide) (by decide) rfl (by decide) ?_
                refine wl_aload_n C dX7_count_96 0 rfl ?_
                refine gf_7_9 C kq_0 (gic_7 hA kq_0) tw_226 dX7_count_97 ?_
                exact wl_iret C hr h dX7_count_100
              · have h := h.2 ht5
                by_cases ht6 : x1 = (6 : Int32)
                · have h := h.1 ht6
                  refine wl_tabIn C (tgt := 101) (6 : Int32) ht6 dX7_count_13 (by decide) (by decide) rfl (by decide) ?_
                  refine wl_aload_n C dX7_count_101 0 rfl ?_
                  refine gf_7_13 C kq_0 (gic_7 hA kq_0) tw_230 dX7_count_102 ?_
                  exact wl_iret C hr h dX7_count_105
                · have h := h.2 ht6
                  refine wl_tabOut C (tgt := 106) dX7_count_13 (by have qht0 := tb_ne ht0 (show Int32.toInt 0 = 0 from rfl); have qht1 := tb_ne ht1 (show Int32.toInt 1 = 1 from rfl); have qht2 := tb_ne ht2 (show Int32.toInt 2 = 2 from rfl); have qht3 := tb_ne ht3 (show Int32.toInt 3 = 3 from rfl); have qht4 := tb_ne ht4 (show Int32.toInt 4 = 4 from rfl); have qht5 := tb_ne ht5 (show Int32.toInt 5 = 5 from rfl); have qht6 := tb_ne ht6 (show Int32.toInt 6 = 6 from rfl); omega) (by decide) ?_
                  refine wl_aload_n C dX7_count_106 0 rfl ?_
                  refine gf_7_0 C kq_0 (gic_7 hA kq_0) tw_217 dX7_count_107 ?_
                  refine wl_callVi C (cX5_size_M l G hg hA 1 kq_1 M1 _) h cw_RX7_82 hd_X5_size ⟨rfl, rfl⟩ ⟨by decide, by decide⟩ (gic_5 hA kq_1) (gc_k kq_1) rfl (As := []) (rest := []) rfl (Nat.le_of_ble_eq_true rfl) ⟨Nat.zero_le _, Nat.zero_le _⟩ rfl dX7_count_110 (fun r4 M3 h => ?_)
                  exact wl_iret C hr h dX7_count_113
  · have h := h.2 hc
    refine wl_iconst (v := (-1)) C dX7_count_10 (by decide) ?_
    exact wl_iret C hr h dX7_count_11
