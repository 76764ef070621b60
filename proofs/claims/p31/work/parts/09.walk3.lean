set_option maxRecDepth 100000 in
set_option maxHeartbeats 4000000 in
theorem kX3_readOneReader_78 (l : Launch) (G : gP) (hg : gIn G) (hA : gCl G) (r : Nat) (x1 : Nat) (hkr : kd r = 3) (hk1 : kd x1 = 6) {p : Program} {e : Env} {s : State} {m : MethodId} {args : Array Value} {below : List Frame} {meth : Method} {c : Code} (C : Cx p s m args meth c G (gA G) cX3_readOneReader 4 RX3) (hr : meth.sig.returnType = none) {Q : Mem → Prop} (k_22 : Int32 → Mem → Prop) (hk_22 : ∀ (v2 : Int32) (M : Mem), k_22 v2 M → Wl p l e rmX3_readOneReader s m args below meth c (MQ below (va_Qv Q (gB G) (gA G)) args s 0 0 (gA G)) G (gA G) 4 0 0 M 22 [(0, .ref (gAD G r)), (1, .ref (gAD G x1)), (2, .int v2)] []) (v2 : Int32) (M : Mem) (h : wX3_readOneReader_78 r x1 k_22 Q v2 M) : Wl p l e rmX3_readOneReader s m args below meth c (MQ below (va_Qv Q (gB G) (gA G)) args s 0 0 (gA G)) G (gA G) 4 0 0 M 78 [(0, .ref (gAD G r)), (1, .ref (gAD G x1)), (2, .int v2)] [] := by
  have h : k_22 (v2 + (1 : Int32)) M := h
  refine wl_iinc (v := (v2 + (1 : Int32))) (lv' := [(2, .int (v2 + (1 : Int32))), (0, .ref (gAD G r)), (1, .ref (gAD G x1))]) C dX3_readOneReader_78 2 rfl (by rfl) (by decide) rfl ?_
  refine wl_goto C (tgt := 22) dX3_readOneReader_81 (by decide) ?_
  refine wl_sub [1, 2, 0] rfl ?_
  exact hk_22 (v2 + (1 : Int32)) M h
set_option maxRecDepth 100000 in
set_option maxHeartbeats 4000000 in
theorem kX3_readOneReader_22 (l : Launch) (G : gP) (hg : gIn G) (hA : gCl G) (r : Nat) (x1 : Nat) (hkr : kd r = 3) (hk1 : kd x1 = 6) {p : Program} {e : Env} {s : State} {m : MethodId} {args : Array Value} {below : List Frame} {meth : Method} {c : Code} (C : Cx p s m args meth c G (gA G) cX3_readOneReader 4 RX3) (hr : meth.sig.returnType = none) {Q : Mem → Prop} : ∀ (n : Nat) (v2 : Int32) (M : Mem), wX3_readOneReader_22 r x1 Q n v2 M → Wl p l e rmX3_readOneReader s m args below meth c (MQ below (va_Qv Q (gB G) (gA G)) args s 0 0 (gA G)) G (gA G) 4 0 0 M 22 [(0, .ref (gAD G r)), (1, .ref (gAD G x1)), (2, .int v2)] [] := by
  intro n
  induction n with
  | zero => intro v2 M h; exact h.elim
  | succ n ih =>
    intro v2 M h
    have h : (((M x1 1) ≤ v2 → Q M) ∧ (¬ (M x1 1) ≤ v2 → (wX1_readTop (r + 1) (M x1 2) (M x1 3) v2 M (fun r5 M4 => (wX4_put (r + 6) v2 r5 M4 (fun M6 => (wX4_at (r + 8) r5 M6 (fun r8 M7 => ((¬ r8 = (-4 : Int32) → wX3_readOneReader_78 r x1 (wX3_readOneReader_22 r x1 Q n) Q v2 M7) ∧ (r8 = (-4 : Int32) → (wX4_put (r + 8) r5 v2 M7 (fun M9 => wX3_readOneReader_78 r x1 (wX3_readOneReader_22 r x1 Q n) Q v2 M9)))))))))))) := h
    refine wl_iload_n C dX3_readOneReader_22 2 rfl ?_
    refine wl_aload_n C dX3_readOneReader_23 1 rfl ?_
    refine gfN_6_1 C hk1 (gic_6 hA hk1) (List.mem_of_getElem? (i := 2) rfl) dX3_readOneReader_24 ?_
    refine wl_icmp_ge C (tgt := 84) dX3_readOneReader_27 (by decide) (fun hc => ?_) (fun hc => ?_)
    · have h := h.1 hc
      exact wl_vret C hr h dX3_readOneReader_84
    · have h := h.2 hc
      refine wl_aload_n C dX3_readOneReader_30 0 rfl ?_
      refine gf_3_0 C hkr (gic_3 hA hkr) tw_91 dX3_readOneReader_31 ?_
      refine wl_aload_n C dX3_readOneReader_34 1 rfl ?_
      refine gfN_6_2 C hk1 (gic_6 hA hk1) (List.mem_of_getElem? (i := 5) rfl) dX3_readOneReader_35 ?_
      refine wl_aload_n C dX3_readOneReader_38 1 rfl ?_
      refine gfN_6_3 C hk1 (gic_6 hA hk1) (List.mem_of_getElem? (i := 7) rfl) dX3_readOneReader_39 ?_
      refine wl_iload_n C dX3_readOneReader_42 2 rfl ?_
      refine wl_callVi C (cX1_readTop_M l G hg hA (r + 1) (M x1 2) (M x1 3) v2 (kx_3_1 hkr) M _) h cw_RX3_79 hd_X1_readTop ⟨rfl, rfl⟩ ⟨by decide, by decide⟩ (gic_1 hA (kx_3_1 hkr)) (gc_k (kx_3_1 hkr)) rfl (As := [.int (M x1 2), .int (M x1 3), .int v2]) (rest := []) rfl (Nat.le_of_ble_eq_true rfl) ⟨Nat.zero_le _, Nat.zero_le _⟩ rfl dX3_readOneReader_43 (fun r5 M4 h => ?_)
      refine wl_istore_n (i := 3) (lv' := [(3, .int r5), (0, .ref (gAD G r)), (1, .ref (gAD G x1)), (2, .int v2)]) C dX3_readOneReader_46 rfl (by decide) rfl ?_
      refine wl_aload_n C dX3_readOneReader_47 1 rfl ?_
      refine gf_3_2 C hkr (gic_3 hA hkr) tw_93 dX3_readOneReader_48 ?_
      refine wl_iload_n C dX3_readOneReader_51 3 rfl ?_
      refine wl_iload_n C dX3_readOneReader_52 0 rfl ?_
      refine wl_callVv C (cX4_put_M l G hg hA (r + 6) v2 r5 (kx_3_6 hkr) M4 _) h cw_RX3_83 hd_X4_put ⟨rfl, rfl⟩ ⟨by decide, by decide⟩ (gic_4 hA (kx_3_6 hkr)) (gc_k (kx_3_6 hkr)) rfl (As := [.int v2, .int r5]) (rest := []) rfl (Nat.le_of_ble_eq_true rfl) ⟨Nat.zero_le _, Nat.zero_le _⟩ rfl dX3_readOneReader_53 (fun M6 h => ?_)
      refine wl_aload_n C dX3_readOneReader_56 1 rfl ?_
      refine gf_3_3 C hkr (gic_3 hA hkr) tw_94 dX3_readOneReader_57 ?_
      refine wl_iload_n C dX3_readOneReader_60 0 rfl ?_
      refine wl_callVi C (cX4_at_M l G hg hA (r + 8) r5 (kx_3_8 hkr) M6 _) h cw_RX3_87 hd_X4_at ⟨rfl, rfl⟩ ⟨by decide, by decide⟩ (gic_4 hA (kx_3_8 hkr)) (gc_k (kx_3_8 hkr)) rfl (As := [.int r5]) (rest := []) rfl (Nat.le_of_ble_eq_true rfl) ⟨Nat.zero_le _, Nat.zero_le _⟩ rfl dX3_readOneReader_61 (fun r8 M7 h => ?_)
      refine wl_bipush (v := (-4)) C dX3_readOneReader_64 (by decide) ?_
      refine wl_icmp_ne C (tgt := 78) dX3_readOneReader_66 (by decide) (fun hc => ?_) (fun hc => ?_)
      · have h := h.1 hc
        refine wl_sub [1, 2, 3] rfl ?_
        exact kX3_readOneReader_78 l G hg hA r x1 hkr hk1 C hr (wX3_readOneReader_22 r x1 Q n) (ih) v2 M7 h
      · have h := h.2 hc
        refine wl_aload_n C dX3_readOneReader_69 1 rfl ?_
        refine gf_3_3 C hkr (gic_3 hA hkr) tw_94 dX3_readOneReader_70 ?_
        refine wl_iload_n C dX3_readOneReader_73 0 rfl ?_
        refine wl_iload_n C dX3_readOneReader_74 3 rfl ?_
        refine wl_callVv C (cX4_put_M l G hg hA (r + 8) r5 v2 (kx_3_8 hkr) M7 _) h cw_RX3_83 hd_X4_put ⟨rfl, rfl⟩ ⟨by decide, by decide⟩ (gic_4 hA (kx_3_8 hkr)) (gc_k (kx_3_8 hkr)) rfl (As := [.int r5, .int v2]) (rest := []) rfl (Nat.le_of_ble_eq_true rfl) ⟨Nat.zero_le _, Nat.zero_le _⟩ rfl dX3_readOneReader_75 (fun M9 h => ?_)
        refine wl_sub [1, 2, 3] rfl ?_
        exact kX3_readOneReader_78 l G hg hA r x1 hkr hk1 C hr (wX3_readOneReader_22 r x1 Q n) (ih) v2 M9 h
set_option maxRecDepth 100000 in
set_option maxHeartbeats 4000000 in
theorem cX3_readOneReader_M (l : Launch) (G : gP) (hg : gIn G) (hA : gCl G) (r : Nat) (x1 : Nat) (hkr : kd r = 3) (hk1 : kd x1 = 6) (M : Mem) (Q : Mem → Prop) : Met l yX3_readOneReader (Cond.code yX3_readOneReader cX3_readOneReader 4 none :: TB) rmX3_readOneReader (va_Pc [.ref (gAD G r), .ref (gAD G x1)] (fun U => gS G M U ∧ wX3_readOneReader r x1 M Q)) (va_Qv Q (gB G) (gA G)) 0 0 (gA G) := by
  refine gMet (by decide +kernel) (show _ = Cond.code yX3_readOneReader cX3_readOneReader 4 none from rfl) hg (Nat.le_of_ble_eq_true rfl) [(0, .ref (gAD G r)), (1, .ref (gAD G x1))] rfl ?_
  intro p e s m args below meth c C hr h
  have h : (wX1_number (r + 1) (M r 1) M (fun M1 => (wX4_fill (r + 8) (-4 : Int32) M1 (fun M2 => (∃ n3, wX3_readOneReader_22 r x1 Q n3 (0 : Int32) M2))))) := h
  refine wl_aload_n C dX3_readOneReader_0 0 rfl ?_
  refine gf_3_0 C hkr (gic_3 hA hkr) tw_91 dX3_readOneReader_1 ?_
  refine wl_aload_n C dX3_readOneReader_4 0 rfl ?_
  refine gf_3_1 C hkr (gic_3 hA hkr) tw_92 dX3_readOneReader_5 ?_
  refine wl_callVv C (cX1_number_M l G hg hA (r + 1) (M r 1) (kx_3_1 hkr) M _) h cw_RX3_64 hd_X1_number ⟨rfl, rfl⟩ ⟨by decide, by decide⟩ (gic_1 hA (kx_3_1 hkr)) (gc_k (kx_3_1 hkr)) rfl (As := [.int (M r 1)]) (rest := []) rfl (Nat.le_of_ble_eq_true rfl) ⟨Nat.zero_le _, Nat.zero_le _⟩ rfl dX3_readOneReader_8 (fun M1 h => ?_)
  refine wl_aload_n C dX3_readOneReader_11 0 rfl ?_
  refine gf_3_3 C hkr (gic_3 hA hkr) tw_94 dX3_readOneReader_12 ?_
  refine wl_bipush (v := (-4)) C dX3_readOneReader_15 (by decide) ?_
  refine wl_callVv C (cX4_fill_M l G hg hA (r + 8) (-4 : Int32) (kx_3_8 hkr) M1 _) h cw_RX3_67 hd_X4_fill ⟨rfl, rfl⟩ ⟨by decide, by decide⟩ (gic_4 hA (kx_3_8 hkr)) (gc_k (kx_3_8 hkr)) rfl (As := [.int (-4 : Int32)]) (rest := []) rfl (Nat.le_of_ble_eq_true rfl) ⟨Nat.zero_le _, Nat.zero_le _⟩ rfl dX3_readOneReader_17 (fun M2 h => ?_)
  refine wl_iconst (v := 0) C dX3_readOneReader_20 (by decide) ?_
  refine wl_istore_n (i := 2) (lv' := [(2, .int (0 : Int32)), (0, .ref (gAD G r)), (1, .ref (gAD G x1))]) C dX3_readOneReader_21 rfl (by decide) rfl ?_
  refine wl_sub [1, 2, 0] rfl ?_
  obtain ⟨n3, h⟩ := h
  exact kX3_readOneReader_22 l G hg hA r x1 hkr hk1 C hr n3 (0 : Int32) M2 h
set_option maxRecDepth 100000 in
set_option maxHeartbeats 4000000 in
theorem kX3_layRing_68 (l : Launch) (G : gP) (hg : gIn G) (hA : gCl G) (r : Nat) (x1 : Int32) (x2 : Int32) (hkr : kd r = 3) {p : Program} {e : Env} {s : State} {m : MethodId} {args : Array Value} {below : List Frame} {meth : Method} {c : Code} (C : Cx p s m args meth c G (gA G) cX3_layRing 6 RX3) (hr : meth.sig.returnType = (some (Jvm.ClassFile.FieldType.int))) {Q : Int32 → Mem → Prop} : ∀ (n : Nat) (v3 : Int32) (v5 : Int32) (M : Mem), wX3_layRing_68 r x1 x2 Q n v3 v5 M → Wl p l e rmX3_layRing s m args below meth c (MQ below (va_Qi Q (gB G) (gA G)) args s 0 0 (gA G)) G (gA G) 6 0 0 M 68 [(0, .ref (gAD G r)), (2, .int x2), (3, .int v3), (5, .int v5)] [] := by
  intro n
  induction n with
  | zero => intro v3 v5 M h; exact h.elim
  | succ n ih =>
    intro v3 v5 M h
    have h : ((v3 ≤ v5 → Q v3 M) ∧ (¬ v3 ≤ v5 → (wX4_at (r + 12) (x2 + v5) M (fun r9 M8 => (wX4_put (r + 16) r9 v3 M8 (fun M10 => wX3_layRing_68 r x1 x2 Q n v3 (v5 + (1 : Int32)) M10)))))) := h
    refine wl_iload C dX3_layRing_68 3 rfl ?_
    refine wl_iload_n C dX3_layRing_70 2 rfl ?_
    refine wl_icmp_ge C (tgt := 99) dX3_layRing_71 (by decide) (fun hc => ?_) (fun hc => ?_)
    · have h := h.1 hc
      refine wl_iload_n C dX3_layRing_99 2 rfl ?_
      exact wl_iret C hr h dX3_layRing_100
    · have h := h.2 hc
      refine wl_aload_n C dX3_layRing_74 0 rfl ?_
      refine gf_3_7 C hkr (gic_3 hA hkr) tw_98 dX3_layRing_75 ?_
      refine wl_aload_n C dX3_layRing_78 0 rfl ?_
      refine gf_3_5 C hkr (gic_3 hA hkr) tw_96 dX3_layRing_79 ?_
      refine wl_iload_n C dX3_layRing_82 1 rfl ?_
      refine wl_iload C dX3_layRing_83 3 rfl ?_
      refine wl_iadd C dX3_layRing_85 ?_
      refine wl_callVi C (cX4_at_M l G hg hA (r + 12) (x2 + v5) (kx_3_12 hkr) M _) h cw_RX3_87 hd_X4_at ⟨rfl, rfl⟩ ⟨by decide, by decide⟩ (gic_4 hA (kx_3_12 hkr)) (gc_k (kx_3_12 hkr)) rfl (As := [.int (x2 + v5)]) (rest := [.ref (gAD G (r + 16))]) rfl (Nat.le_of_ble_eq_true rfl) ⟨Nat.zero_le _, Nat.zero_le _⟩ rfl dX3_layRing_86 (fun r9 M8 h => ?_)
      refine wl_iload_n C dX3_layRing_89 2 rfl ?_
      refine wl_callVv C (cX4_put_M l G hg hA (r + 16) r9 v3 (kx_3_16 hkr) M8 _) h cw_RX3_83 hd_X4_put ⟨rfl, rfl⟩ ⟨by decide, by decide⟩ (gic_4 hA (kx_3_16 hkr)) (gc_k (kx_3_16 hkr)) rfl (As := [.int r9, .int v3]) (rest := []) rfl (Nat.le_of_ble_eq_true rfl) ⟨Nat.zero_le _, Nat.zero_le _⟩ rfl dX3_layRing_90 (fun M10 h => ?_)
      refine wl_iinc (v := (v5 + (1 : Int32))) (lv' := [(5, .int (v5 + (1 : Int32))), (0, .ref (gAD G r)), (2, .int x2), (3, .int v3)]) C dX3_layRing_93 3 rfl (by rfl) (by decide) rfl ?_
      refine wl_goto C (tgt := 68) dX3_layRing_96 (by decide) ?_
      refine wl_sub [1, 2, 3, 0] rfl ?_
      exact ih v3 (v5 + (1 : Int32)) M10 h
set_option maxRecDepth 100000 in
set_option maxHeartbeats 4000000 in
theorem kX3_layRing_65 (l : Launch) (G : gP) (hg : gIn G) (hA : gCl G) (r : Nat) (x1 : Int32) (x2 : Int32) (hkr : kd r = 3) {p : Program} {e : Env} {s : State} {m : MethodId} {args : Array Value} {below : List Frame} {meth : Method} {c : Code} (C : Cx p s m args meth c G (gA G) cX3_layRing 6 RX3) (hr : meth.sig.returnType = (some (Jvm.ClassFile.FieldType.int))) {Q : Int32 → Mem → Prop} (v3 : Int32) (M : Mem) (h : wX3_layRing_65 r x1 x2 Q v3 M) : Wl p l e rmX3_layRing s m args below meth c (MQ below (va_Qi Q (gB G) (gA G)) args s 0 0 (gA G)) G (gA G) 6 0 0 M 65 [(0, .ref (gAD G r)), (2, .int x2), (3, .int v3)] [] := by
  have h : (∃ n7, wX3_layRing_68 r x1 x2 Q n7 v3 (0 : Int32) M) := h
  refine wl_iconst (v := 0) C dX3_layRing_65 (by decide) ?_
  refine wl_istore (i := 5) (lv' := [(5, .int (0 : Int32)), (0, .ref (gAD G r)), (2, .int x2), (3, .int v3)]) C dX3_layRing_66 (by decide) rfl ?_
  refine wl_sub [1, 2, 3, 0] rfl ?_
  obtain ⟨n7, h⟩ := h
  exact kX3_layRing_68 l G hg hA r x1 x2 hkr C hr n7 v3 (0 : Int32) M h
set_option maxRecDepth 100000 in
set_option maxHeartbeats 4000000 in
theorem kX3_layRing_5 (l : Launch) (G : gP) (hg : gIn G) (hA : gCl G) (r : Nat) (x1 : Int32) (x2 : Int32) (hkr : kd r = 3) {p : Program} {e : Env} {s : State} {m : MethodId} {args : Array Value} {below : List Frame} {meth : Method} {c : Code} (C : Cx p s m args meth c G (gA G) cX3_layRing 6 RX3) (hr : meth.sig.returnType = (some (Jvm.ClassFile.FieldType.int))) {Q : Int32 → Mem → Prop} : ∀ (n : Nat) (v3 : Int32) (v4 : Int32) (M : Mem), wX3_layRing_5 r x1 x2 Q n v3 v4 M → Wl p l e rmX3_layRing s m args below meth c (MQ below (va_Qi Q (gB G) (gA G)) args s 0 0 (gA G)) G (gA G) 6 0 0 M 5 [(0, .ref (gAD G r)), (1, .int x1), (2, .int x2), (3, .int v3), (4, .int v4)] [] := by
  intro n
  induction n with
  | zero => intro v3 v4 M h; exact h.elim
  | succ n ih =>
    intro v3 v4 M h
    have h : (wX4_put (r + 12) (x2 + v3) v4 M (fun M2 => (wX4_put (r + 14) v4 x2 M2 (fun M3 => (wX4_put (r + 18) v4 v3 M3 (fun M4 => (wX1_leafAt (r + 1) v4 M4 (fun r6 M5 => ((r6 = x1 → wX3_layRing_65 r x1 x2 Q (v3 + (1 : Int32)) M5) ∧ (¬ r6 = x1 → (((v3 + (1 : Int32)) < (M5 r 1) → wX3_layRing_5 r x1 x2 Q n (v3 + (1 : Int32)) r6 M5) ∧ (¬ (v3 + (1 : Int32)) < (M5 r 1) → wX3_layRing_65 r x1 x2 Q (v3 + (1 : Int32)) M5)))))))))))) := h
    refine wl_aload_n C dX3_layRing_5 0 rfl ?_
    refine gf_3_5 C hkr (gic_3 hA hkr) tw_96 dX3_layRing_6 ?_
    refine wl_iload_n C dX3_layRing_9 2 rfl ?_
    refine wl_iload_n C dX3_layRing_10 3 rfl ?_
    refine wl_iadd C dX3_layRing_11 ?_
    refine wl_iload C dX3_layRing_12 4 rfl ?_
    refine wl_callVv C (cX4_put_M l G hg hA (r + 12) (x2 + v3) v4 (kx_3_12 hkr) M _) h cw_RX3_83 hd_X4_put ⟨rfl, rfl⟩ ⟨by decide, by decide⟩ (gic_4 hA (kx_3_12 hkr)) (gc_k (kx_3_12 hkr)) rfl (As := [.int (x2 + v3), .int v4]) (rest := []) rfl (Nat.le_of_ble_eq_true rfl) ⟨Nat.zero_le _, Nat.zero_le _⟩ rfl dX3_layRing_14 (fun M2 h => ?_)
    refine wl_aload_n C dX3_layRing_17 0 rfl ?_
    refine gf_3_6 C hkr (gic_3 hA hkr) tw_97 dX3_layRing_18 ?_
    refine wl_iload C dX3_layRing_21 4 rfl ?_
    refine wl_iload_n C dX3_layRing_23 2 rfl ?_
    refine wl_callVv C (cX4_put_M l G hg hA (r + 14) v4 x2 (kx_3_14 hkr) M2 _) h cw_RX3_83 hd_X4_put ⟨rfl, rfl⟩ ⟨by decide, by decide⟩ (gic_4 hA (kx_3_14 hkr)) (gc_k (kx_3_14 hkr)) rfl (As := [.int v4, .int x2]) (rest := []) rfl (Nat.le_of_ble_eq_true rfl) ⟨Nat.zero_le _, Nat.zero_le _⟩ rfl dX3_layRing_24 (fun M3 h => ?_)
    refine wl_aload_n C dX3_layRing_27 0 rfl ?_
    refine gf_3_8 C hkr (gic_3 hA hkr) tw_99 dX3_layRing_28 ?_
    refine wl_iload C dX3_layRing_31 4 rfl ?_
    refine wl_iload_n C dX3_layRing_33 3 rfl ?_
    refine wl_callVv C (cX4_put_M l G hg hA (r + 18) v4 v3 (kx_3_18 hkr) M3 _) h cw_RX3_83 hd_X4_put ⟨rfl, rfl⟩ ⟨by decide, by decide⟩ (gic_4 hA (kx_3_18 hkr)) (gc_k (kx_3_18 hkr)) rfl (As := [.int v4, .int v3]) (rest := []) rfl (Nat.le_of_ble_eq_true rfl) ⟨Nat.zero_le _, Nat.zero_le _⟩ rfl dX3_layRing_34 (fun M4 h => ?_)
    refine wl_iinc (v := (v3 + (1 : Int32))) (lv' := [(3, .int (v3 + (1 : Int32))), (0, .ref (gAD G r)), (1, .int x1), (2, .int x2), (4, .int v4)]) C dX3_layRing_37 3 rfl (by rfl) (by decide) rfl ?_
    refine wl_aload_n C dX3_layRing_40 1 rfl ?_
    refine gf_3_0 C hkr (gic_3 hA hkr) tw_91 dX3_layRing_41 ?_
    refine wl_iload C dX3_layRing_44 4 rfl ?_
    refine wl_callVi C (cX1_leafAt_M l G hg hA (r + 1) v4 (kx_3_1 hkr) M4 _) h cw_RX3_91 hd_X1_leafAt ⟨rfl, rfl⟩ ⟨by decide, by decide⟩ (gic_1 hA (kx_3_1 hkr)) (gc_k (kx_3_1 hkr)) rfl (As := [.int v4]) (rest := []) rfl (Nat.le_of_ble_eq_true rfl) ⟨Nat.zero_le _, Nat.zero_le _⟩ rfl dX3_layRing_46 (fun r6 M5 h => ?_)
    refine wl_istore (i := 4) (lv' := [(4, .int r6), (3, .int (v3 + (1 : Int32))), (0, .ref (gAD G r)), (1, .int x1), (2, .int x2)]) C dX3_layRing_49 (by decide) rfl ?_
    refine wl_iload C dX3_layRing_51 0 rfl ?_
    refine wl_iload_n C dX3_layRing_53 3 rfl ?_
    refine wl_icmp_eq C (tgt := 65) dX3_layRing_54 (by decide) (fun hc => ?_) (fun hc => ?_)
    · have h := h.1 hc
      refine wl_sub [2, 4, 1] rfl ?_
      exact kX3_layRing_65 l G hg hA r x1 x2 hkr C hr (v3 + (1 : Int32)) M5 h
    · have h := h.2 hc
      refine wl_iload_n C dX3_layRing_57 1 rfl ?_
      refine wl_aload_n C dX3_layRing_58 2 rfl ?_
      refine gf_3_1 C hkr (gic_3 hA hkr) tw_92 dX3_layRing_59 ?_
      refine wl_icmp_lt C (tgt := 5) dX3_layRing_62 (by decide) (fun hc => ?_) (fun hc => ?_)
      · have h := h.1 hc
        refine wl_sub [2, 3, 4, 1, 0] rfl ?_
        exact ih (v3 + (1 : Int32)) r6 M5 h
      · have h := h.2 hc
        refine wl_sub [2, 4, 1] rfl ?_
        exact kX3_layRing_65 l G hg hA r x1 x2 hkr C hr (v3 + (1 : Int32)) M5 h
set_option maxRecDepth 100000 in
set_option maxHeartbeats 4000000 in
theorem cX3_layRing_M (l : Launch) (G : gP) (hg : gIn G) (hA : gCl G) (r : Nat) (x1 : Int32) (x2 : Int32) (hkr : kd r = 3) (M : Mem) (Q : Int32 → Mem → Prop) : Met l yX3_layRing (Cond.code yX3_layRing cX3_layRing 6 (some (Jvm.ClassFile.FieldType.int)) :: TB) rmX3_layRing (va_Pc [.ref (gAD G r), .int x1, .int x2] (fun U => gS G M U ∧ wX3_layRing r x1 x2 M Q)) (va_Qi Q (gB G) (gA G)) 0 0 (gA G) := by
  refine gMet (by decide +kernel) (show _ = Cond.code yX3_layRing cX3_layRing 6 (some (Jvm.ClassFile.FieldType.int)) from rfl) hg (Nat.le_of_ble_eq_true rfl) [(0, .ref (gAD G r)), (1, .int x1), (2, .int x2)] rfl ?_
  intro p e s m args below meth c C hr h
  have h : (∃ n1, wX3_layRing_5 r x1 x2 Q n1 (0 : Int32) x1 M) := h
  refine wl_iconst (v := 0) C dX3_layRing_0 (by decide) ?_
  refine wl_istore_n (i := 3) (lv' := [(3, .int (0 : Int32)), (0, .ref (gAD G r)), (1, .int x1), (2, .int x2)]) C dX3_layRing_1 rfl (by decide) rfl ?_
  refine wl_iload_n C dX3_layRing_2 2 rfl ?_
  refine wl_istore (i := 4) (lv' := [(4, .int x1), (3, .int (0 : Int32)), (0, .ref (gAD G r)), (1, .int x1), (2, .int x2)]) C dX3_layRing_3 (by decide) rfl ?_
  refine wl_sub [2, 3, 4, 1, 0] rfl ?_
  obtain ⟨n1, h⟩ := h
  exact kX3_layRing_5 l G hg hA r x1 x2 hkr C hr n1 (0 : Int32) x1 M h
set_option maxRecDepth 100000 in
set_option maxHeartbeats 4000000 in
theorem kX3_layRings_40 (l : Launch) (G : gP) (hg : gIn G) (hA : gCl G) (r : Nat) (hkr : kd r = 3) {p : Program} {e : Env} {s : State} {m : MethodId} {args : Array Value} {below : List Frame} {meth : Method} {c : Code} (C : Cx p s m args meth c G (gA G) cX3_layRings 3 RX3) (hr : meth.sig.returnType = none) {Q : Mem → Prop} (k_12 : Int32 → Int32 → Mem → Prop) (hk_12 : ∀ (v1 : Int32) (v2 : Int32) (M : Mem), k_12 v1 v2 M → Wl p l e rmX3_layRings s m args below meth c (MQ below (va_Qv Q (gB G) (gA G)) args s 0 0 (gA G)) G (gA G) 3 0 0 M 12 [(0, .ref (gAD G r)), (1, .int v1), (2, .int v2)] []) (v1 : Int32) (v2 : Int32) (M : Mem) (h : wX3_layRings_40 r k_12 Q v1 v2 M) : Wl p l e rmX3_layRings s m args below meth c (MQ below (va_Qv Q (gB G) (gA G)) args s 0 0 (gA G)) G (gA G) 3 0 0 M 40 [(0, .ref (gAD G r)), (1, .int v1), (2, .int v2)] [] := by
  have h : k_12 v1 (v2 + (1 : Int32)) M := h
  refine wl_iinc (v := (v2 + (1 : Int32))) (lv' := [(2, .int (v2 + (1 : Int32))), (0, .ref (gAD G r)), (1, .int v1)]) C dX3_layRings_40 2 rfl (by rfl) (by decide) rfl ?_
  refine wl_goto C (tgt := 12) dX3_layRings_43 (by decide) ?_
  refine wl_sub [1, 2, 0] rfl ?_
  exact hk_12 v1 (v2 + (1 : Int32)) M h
set_option maxRecDepth 100000 in
set_option maxHeartbeats 4000000 in
theorem kX3_layRings_12 (l : Launch) (G : gP) (hg : gIn G) (hA : gCl G) (r : Nat) (hkr : kd r = 3) {p : Program} {e : Env} {s : State} {m : MethodId} {args : Array Value} {below : List Frame} {meth : Method} {c : Code} (C : Cx p s m args meth c G (gA G) cX3_layRings 3 RX3) (hr : meth.sig.returnType = none) {Q : Mem → Prop} : ∀ (n : Nat) (v1 : Int32) (v2 : Int32) (M : Mem), wX3_layRings_12 r Q n v1 v2 M → Wl p l e rmX3_layRings s m args below meth c (MQ below (va_Qv Q (gB G) (gA G)) args s 0 0 (gA G)) G (gA G) 3 0 0 M 12 [(0, .ref (gAD G r)), (1, .int v1), (2, .int v2)] [] := by
  intro n
  induction n with
  | zero => intro v1 v2 M h; exact h.elim
  | succ n ih =>
    intro v1 v2 M h
    have h : (((M r 1) ≤ v2 → Q M) ∧ (¬ (M r 1) ≤ v2 → (wX4_at (r + 16) v2 M (fun r4 M3 => ((¬ r4 = 0 → wX3_layRings_40 r (wX3_layRings_12 r Q n) Q v1 v2 M3) ∧ (r4 = 0 → (wX3_layRing r v2 v1 M3 (fun r6 M5 => wX3_layRings_40 r (wX3_layRings_12 r Q n) Q (v1 + r6) v2 M5)))))))) := h
    refine wl_iload_n C dX3_layRings_12 2 rfl ?_
    refine wl_aload_n C dX3_layRings_13 0 rfl ?_
    refine gf_3_1 C hkr (gic_3 hA hkr) tw_92 dX3_layRings_14 ?_
    refine wl_icmp_ge C (tgt := 46) dX3_layRings_17 (by decide) (fun hc => ?_) (fun hc => ?_)
    · have h := h.1 hc
      exact wl_vret C hr h dX3_layRings_46
    · have h := h.2 hc
      refine wl_aload_n C dX3_layRings_20 0 rfl ?_
      refine gf_3_7 C hkr (gic_3 hA hkr) tw_98 dX3_layRings_21 ?_
      refine wl_iload_n C dX3_layRings_24 2 rfl ?_
      refine wl_callVi C (cX4_at_M l G hg hA (r + 16) v2 (kx_3_16 hkr) M _) h cw_RX3_87 hd_X4_at ⟨rfl, rfl⟩ ⟨by decide, by decide⟩ (gic_4 hA (kx_3_16 hkr)) (gc_k (kx_3_16 hkr)) rfl (As := [.int v2]) (rest := []) rfl (Nat.le_of_ble_eq_true rfl) ⟨Nat.zero_le _, Nat.zero_le _⟩ rfl dX3_layRings_25 (fun r4 M3 h => ?_)
      refine wl_if_ne C (tgt := 40) dX3_layRings_28 (by decide) (fun hc => ?_) (fun hc => ?_)
      · have h := h.1 hc
        refine wl_sub [0, 1, 2] rfl ?_
        exact kX3_layRings_40 l G hg hA r hkr C hr (wX3_layRings_12 r Q n) (ih) v1 v2 M3 h
      · have h := h.2 hc
        refine wl_iload_n C dX3_layRings_31 1 rfl ?_
        refine wl_aload_n C dX3_layRings_32 0 rfl ?_
        refine wl_iload_n C dX3_layRings_33 2 rfl ?_
        refine wl_iload_n C dX3_layRings_34 1 rfl ?_
        refine wl_callVi C (cX3_layRing_M l G hg hA r v2 v1 hkr M3 _) h cw_RX3_94 hd_X3_layRing ⟨rfl, rfl⟩ ⟨by decide, by decide⟩ (gic_3 hA hkr) (gc_k hkr) rfl (As := [.int v2, .int v1]) (rest := [.int v1]) rfl (Nat.le_of_ble_eq_true rfl) ⟨Nat.zero_le _, Nat.zero_le _⟩ rfl dX3_layRings_35 (fun r6 M5 h => ?_)
        refine wl_iadd C dX3_layRings_38 ?_
        refine wl_istore_n (i := 1) (lv' := [(1, .int (v1 + r6)), (0, .ref (gAD G r)), (2, .int v2)]) C dX3_layRings_39 rfl (by decide) rfl ?_
        refine wl_sub [1, 0, 2] rfl ?_
        exact kX3_layRings_40 l G hg hA r hkr C hr (wX3_layRings_12 r Q n) (ih) (v1 + r6) v2 M5 h
set_option maxRecDepth 100000 in
set_option maxHeartbeats 4000000 in
theorem cX3_layRings_M (l : Launch) (G : gP) (hg : gIn G) (hA : gCl G) (r : Nat) (hkr : kd r = 3) (M : Mem) (Q : Mem → Prop) : Met l yX3_layRings (Cond.code yX3_layRings cX3_layRings 3 none :: TB) rmX3_layRings (va_Pc [.ref (gAD G r)] (fun U => gS G M U ∧ wX3_layRings r M Q)) (va_Qv Q (gB G) (gA G)) 0 0 (gA G) := by
  refine gMet (by decide +kernel) (show _ = Cond.code yX3_layRings cX3_layRings 3 none from rfl) hg (Nat.le_of_ble_eq_true rfl) [(0, .ref (gAD G r))] rfl ?_
  intro p e s m args below meth c C hr h
  have h : (wX4_fill (r + 16) (0 : Int32) M (fun M1 => (∃ n2, wX3_layRings_12 r Q n2 (0 : Int32) (0 : Int32) M1))) := h
  refine wl_aload_n C dX3_layRings_0 0 rfl ?_
  refine gf_3_7 C hkr (gic_3 hA hkr) tw_98 dX3_layRings_1 ?_
  refine wl_iconst (v := 0) C dX3_layRings_4 (by decide) ?_
  refine wl_callVv C (cX4_fill_M l G hg hA (r + 16) (0 : Int32) (kx_3_16 hkr) M _) h cw_RX3_67 hd_X4_fill ⟨rfl, rfl⟩ ⟨by decide, by decide⟩ (gic_4 hA (kx_3_16 hkr)) (gc_k (kx_3_16 hkr)) rfl (As := [.int (0 : Int32)]) (rest := []) rfl (Nat.le_of_ble_eq_true rfl) ⟨Nat.zero_le _, Nat.zero_le _⟩ rfl dX3_layRings_5 (fun M1 h => ?_)
  refine wl_iconst (v := 0) C dX3_layRings_8 (by decide) ?_
  refine wl_istore_n (i := 1) (lv' := [(1, .int (0 : Int32)), (0, .ref (gAD G r))]) C dX3_layRings_9 rfl (by decide) rfl ?_
  refine wl_iconst (v := 0) C dX3_layRings_10 (by decide) ?_
  refine wl_istore_n (i := 2) (lv' := [(2, .int (0 : Int32)), (1, .int (0 : Int32)), (0, .ref (gAD G r))]) C dX3_layRings_11 rfl (by decide) rfl ?_
  refine wl_sub [2, 1, 0] rfl ?_
  obtain ⟨n2, h⟩ := h
  exact kX3_layRings_12 l G hg hA r hkr C hr n2 (0 : Int32) (0 : Int32) M1 h
set_option maxRecDepth 100000 in
set_option maxHeartbeats 4000000 in
theorem kX3_readWithoutFirst_46 (l : Launch) (G : gP) (hg : gIn G) (hA : gCl G) (r : Nat) (x1 : Nat) (hkr : kd r = 3) (hk1 : kd x1 = 6) {p : Program} {e : Env} {s : State} {m : MethodId} {args : Array Value} {below : List Frame} {meth : Method} {c : Code} (C : Cx p s m args meth c G (gA G) cX3_readWithoutFirst 3 RX3) (hr : meth.sig.returnType = none) {Q : Mem → Prop} : ∀ (n : Nat) (v2 : Int32) (M : Mem), wX3_readWithoutFirst_46 r x1 Q n v2 M → Wl p l e rmX3_readWithoutFirst s m args below meth c (MQ below (va_Qv Q (gB G) (gA G)) args s 0 0 (gA G)) G (gA G) 3 0 0 M 46 [(0, .ref (gAD G r)), (2, .int v2)] [] := by
  intro n
  induction n with
  | zero => intro v2 M h; exact h.elim
  | succ n ih =>
    intro v2 M h
    have h : (((M r 1) ≤ v2 → Q M) ∧ (¬ (M r 1) ≤ v2 → (wX1_leafAt (r + 1) v2 M (fun r7 M6 => (wX4_put (r + 10) v2 r7 M6 (fun M8 => wX3_readWithoutFirst_46 r x1 Q n (v2 + (1 : Int32)) M8)))))) := h
    refine wl_iload_n C dX3_readWithoutFirst_46 1 rfl ?_
    refine wl_aload_n C dX3_readWithoutFirst_47 0 rfl ?_
    refine gf_3_1 C hkr (gic_3 hA hkr) tw_92 dX3_readWithoutFirst_48 ?_
    refine wl_icmp_ge C (tgt := 76) dX3_readWithoutFirst_51 (by decide) (fun hc => ?_) (fun hc => ?_)
    · have h := h.1 hc
      exact wl_vret C hr h dX3_readWithoutFirst_76
    · have h := h.2 hc
      refine wl_aload_n C dX3_readWithoutFirst_54 0 rfl ?_
      refine gf_3_4 C hkr (gic_3 hA hkr) tw_95 dX3_readWithoutFirst_55 ?_
      refine wl_iload_n C dX3_readWithoutFirst_58 1 rfl ?_
      refine wl_aload_n C dX3_readWithoutFirst_59 0 rfl ?_
      refine gf_3_0 C hkr (gic_3 hA hkr) tw_91 dX3_readWithoutFirst_60 ?_
      refine wl_iload_n C dX3_readWithoutFirst_63 1 rfl ?_
      refine wl_callVi C (cX1_leafAt_M l G hg hA (r + 1) v2 (kx_3_1 hkr) M _) h cw_RX3_91 hd_X1_leafAt ⟨rfl, rfl⟩ ⟨by decide, by decide⟩ (gic_1 hA (kx_3_1 hkr)) (gc_k (kx_3_1 hkr)) rfl (As := [.int v2]) (rest := [.int v2, .ref (gAD G (r + 10))]) rfl (Nat.le_of_ble_eq_true rfl) ⟨Nat.zero_le _, Nat.zero_le _⟩ rfl dX3_readWithoutFirst_64 (fun r7 M6 h => ?_)
      refine wl_callVv C (cX4_put_M l G hg hA (r + 10) v2 r7 (kx_3_10 hkr) M6 _) h cw_RX3_83 hd_X4_put ⟨rfl, rfl⟩ ⟨by decide, by decide⟩ (gic_4 hA (kx_3_10 hkr)) (gc_k (kx_3_10 hkr)) rfl (As := [.int v2, .int r7]) (rest := []) rfl (Nat.le_of_ble_eq_true rfl) ⟨Nat.zero_le _, Nat.zero_le _⟩ rfl dX3_readWithoutFirst_67 (fun M8 h => ?_)
      refine wl_iinc (v := (v2 + (1 : Int32))) (lv' := [(2, .int (v2 + (1 : Int32))), (0, .ref (gAD G r))]) C dX3_readWithoutFirst_70 1 rfl (by rfl) (by decide) rfl ?_
      refine wl_goto C (tgt := 46) dX3_readWithoutFirst_73 (by decide) ?_
      refine wl_sub [1, 0] rfl ?_
      exact ih (v2 + (1 : Int32)) M8 h
set_option maxRecDepth 100000 in
set_option maxHeartbeats 4000000 in
theorem kX3_readWithoutFirst_13 (l : Launch) (G : gP) (hg : gIn G) (hA : gCl G) (r : Nat) (x1 : Nat) (hkr : kd r = 3) (hk1 : kd x1 = 6) {p : Program} {e : Env} {s : State} {m : MethodId} {args : Array Value} {below : List Frame} {meth : Method} {c : Code} (C : Cx p s m args meth c G (gA G) cX3_readWithoutFirst 3 RX3) (hr : meth.sig.returnType = none) {Q : Mem → Prop} : ∀ (n : Nat) (v2 : Int32) (M : Mem), wX3_readWithoutFirst_13 r x1 Q n v2 M → Wl p l e rmX3_readWithoutFirst s m args below meth c (MQ below (va_Qv Q (gB G) (gA G)) args s 0 0 (gA G)) G (gA G) 3 0 0 M 13 [(0, .ref (gAD G r)), (1, .ref (gAD G x1)), (2, .int v2)] [] := by
  intro n
  induction n with
  | zero => intro v2 M h; exact h.elim
  | succ n ih =>
    intro v2 M h
    have h : (((M x1 1) ≤ v2 → (∃ n3, wX3_readWithoutFirst_46 r x1 Q n3 (0 : Int32) M)) ∧ (¬ (M x1 1) ≤ v2 → (wX1_readTop (r + 1) (M x1 2) (M x1 3) v2 M (fun r5 M4 => wX3_readWithoutFirst_13 r x1 Q n (v2 + (1 : Int32)) M4)))) := h
    refine wl_iload_n C dX3_readWithoutFirst_13 2 rfl ?_
    refine wl_aload_n C dX3_readWithoutFirst_14 1 rfl ?_
    refine gfN_6_1 C hk1 (gic_6 hA hk1) (List.mem_of_getElem? (i := 2) rfl) dX3_readWithoutFirst_15 ?_
    refine wl_icmp_ge C (tgt := 44) dX3_readWithoutFirst_18 (by decide) (fun hc => ?_) (fun hc => ?_)
    · have h := h.1 hc
      refine wl_iconst (v := 0) C dX3_readWithoutFirst_44 (by decide) ?_
      refine wl_istore_n (i := 2) (lv' := [(2, .int (0 : Int32)), (0, .ref (gAD G r)), (1, .ref (gAD G x1))]) C dX3_readWithoutFirst_45 rfl (by decide) rfl ?_
      refine wl_sub [1, 0] rfl ?_
      obtain ⟨n3, h⟩ := h
      exact kX3_readWithoutFirst_46 l G hg hA r x1 hkr hk1 C hr n3 (0 : Int32) M h
    · have h := h.2 hc
      refine wl_aload_n C dX3_readWithoutFirst_21 0 rfl ?_
      refine gf_3_0 C hkr (gic_3 hA hkr) tw_91 dX3_readWithoutFirst_22 ?_
      refine wl_aload_n C dX3_readWithoutFirst_25 1 rfl ?_
      refine gfN_6_2 C hk1 (gic_6 hA hk1) (List.mem_of_getElem? (i := 5) rfl) dX3_readWithoutFirst_26 ?_
      refine wl_aload_n C dX3_readWithoutFirst_29 1 rfl ?_
      refine gfN_6_3 C hk1 (gic_6 hA hk1) (List.mem_of_getElem? (i := 7) rfl) dX3_readWithoutFirst_30 ?_
      refine wl_iload_n C dX3_readWithoutFirst_33 2 rfl ?_
      refine wl_callVi C (cX1_readTop_M l G hg hA (r + 1) (M x1 2) (M x1 3) v2 (kx_3_1 hkr) M _) h cw_RX3_79 hd_X1_readTop ⟨rfl, rfl⟩ ⟨by decide, by decide⟩ (gic_1 hA (kx_3_1 hkr)) (gc_k (kx_3_1 hkr)) rfl (As := [.int (M x1 2), .int (M x1 3), .int v2]) (rest := []) rfl (Nat.le_of_ble_eq_true rfl) ⟨Nat.zero_le _, Nat.zero_le _⟩ rfl dX3_readWithoutFirst_34 (fun r5 M4 h => ?_)
      refine wl_pop C dX3_readWithoutFirst_37 rfl ?_
      refine wl_iinc (v := (v2 + (1 : Int32))) (lv' := [(2, .int (v2 + (1 : Int32))), (0, .ref (gAD G r)), (1, .ref (gAD G x1))]) C dX3_readWithoutFirst_38 2 rfl (by rfl) (by decide) rfl ?_
      refine wl_goto C (tgt := 13) dX3_readWithoutFirst_41 (by decide) ?_
      refine wl_sub [1, 2, 0] rfl ?_
      exact ih (v2 + (1 : Int32)) M4 h
set_option maxRecDepth 100000 in
set_option maxHeartbeats 4000000 in
theorem cX3_readWithoutFirst_M (l : Launch) (G : gP) (hg : gIn G) (hA : gCl G) (r : Nat) (x1 : Nat) (hkr : kd r = 3) (hk1 : kd x1 = 6) (M : Mem) (Q : Mem → Prop) : Met l yX3_readWithoutFirst (Cond.code yX3_readWithoutFirst cX3_readWithoutFirst 3 none :: TB) rmX3_readWithoutFirst (va_Pc [.ref (gAD G r), .ref (gAD G x1)] (fun U => gS G M U ∧ wX3_readWithoutFirst r x1 M Q)) (va_Qv Q (gB G) (gA G)) 0 0 (gA G) := by
  refine gMet (by decide +kernel) (show _ = Cond.code yX3_readWithoutFirst cX3_readWithoutFirst 3 none from rfl) hg (Nat.le_of_ble_eq_true rfl) [(0, .ref (gAD G r)), (1, .ref (gAD G x1))] rfl ?_
  intro p e s m args below meth c C hr h
  have h : (wX1_number (r + 1) (M r 1) M (fun M1 => (∃ n2, wX3_readWithoutFirst_13 r x1 Q n2 (1 : Int32) M1))) := h
  refine wl_aload_n C dX3_readWithoutFirst_0 0 rfl ?_
  refine gf_3_0 C hkr (gic_3 hA hkr) tw_91 dX3_readWithoutFirst_1 ?_
  refine wl_aload_n C dX3_readWithoutFirst_4 0 rfl ?_
  refine gf_3_1 C hkr (gic_3 hA hkr) tw_92 dX3_readWithoutFirst_5 ?_
  refine wl_callVv C (cX1_number_M l G hg hA (r + 1) (M r 1) (kx_3_1 hkr) M _) h cw_RX3_64 hd_X1_number ⟨rfl, rfl⟩ ⟨by decide, by decide⟩ (gic_1 hA (kx_3_1 hkr)) (gc_k (kx_3_1 hkr)) rfl (As := [.int (M r 1)]) (rest := []) rfl (Nat.le_of_ble_eq_true rfl) ⟨Nat.zero_le _, Nat.zero_le _⟩ rfl dX3_readWithoutFirst_8 (fun M1 h => ?_)
  refine wl_iconst (v := 1) C dX3_readWithoutFirst_11 (by decide) ?_
  refine wl_istore_n (i := 2) (lv' := [(2, .int (1 : Int32)), (0, .ref (gAD G r)), (1, .ref (gAD G x1))]) C dX3_readWithoutFirst_12 rfl (by decide) rfl ?_
  refine wl_sub [1, 2, 0] rfl ?_
  obtain ⟨n2, h⟩ := h
  exact kX3_readWithoutFirst_13 l G hg hA r x1 hkr hk1 C hr n2 (1 : Int32) M1 h
set_option maxRecDepth 100000 in
set_option maxHeartbeats 4000000 in
theorem cX3_follow_M (l : Launch) (G : gP) (hg : gIn G) (hA : gCl G) (r : Nat) (x1 : Nat) (hkr : kd r = 3) (hk1 : kd x1 = 6) (M : Mem) (Q : Mem → Prop) : Met l yX3_follow (Cond.code yX3_follow cX3_follow 2 none :: TB) rmX3_follow (va_Pc [.ref (gAD G r), .ref (gAD G x1)] (fun U => gS G M U ∧ wX3_follow r x1 M Q)) (va_Qv Q (gB G) (gA G)) 0 0 (gA G) := by
  refine gMet (by decide +kernel) (show _ = Cond.code yX3_follow cX3_follow 2 none from rfl) hg (Nat.le_of_ble_eq_true rfl) [(0, .ref (gAD G r)), (1, .ref (gAD G x1))] rfl ?_
  intro p e s m args below meth c C hr h
  have h : (wX3_readOneReader r x1 (mu M r 1 (M x1 0)) (fun M1 => (wX3_layRings r M1 (fun M2 => (wX3_readWithoutFirst r x1 M2 (fun M3 => Q M3)))))) := h
  refine wl_aload_n C dX3_follow_0 0 rfl ?_
  refine wl_aload_n C dX3_follow_1 1 rfl ?_
  refine gfN_6_0 C hk1 (gic_6 hA hk1) (List.mem_of_getElem? (i := 0) rfl) dX3_follow_2 ?_
  refine gp_3_1 C hkr (gic_3 hA hkr) tw_92 dX3_follow_5 ?_
  refine wl_aload_n C dX3_follow_8 0 rfl ?_
  refine wl_aload_n C dX3_follow_9 1 rfl ?_
  refine wl_callVv C (cX3_readOneReader_M l G hg hA r x1 hkr hk1 (mu M r 1 (M x1 0)) _) h cw_RX3_54 hd_X3_readOneReader ⟨rfl, rfl⟩ ⟨by decide, by decide⟩ (gic_3 hA hkr) (gc_k hkr) rfl (As := [.ref (gAD G x1)]) (rest := []) rfl (Nat.le_of_ble_eq_true rfl) ⟨Nat.zero_le _, Nat.zero_le _⟩ rfl dX3_follow_10 (fun M1 h => ?_)
  refine wl_aload_n C dX3_follow_13 0 rfl ?_
  refine wl_callVv C (cX3_layRings_M l G hg hA r hkr M1 _) h cw_RX3_58 hd_X3_layRings ⟨rfl, rfl⟩ ⟨by decide, by decide⟩ (gic_3 hA hkr) (gc_k hkr) rfl (As := []) (rest := []) rfl (Nat.le_of_ble_eq_true rfl) ⟨Nat.zero_le _, Nat.zero_le _⟩ rfl dX3_follow_14 (fun M2 h => ?_)
  refine wl_aload_n C dX3_follow_17 0 rfl ?_
  refine wl_aload_n C dX3_follow_18 1 rfl ?_
  refine wl_callVv C (cX3_readWithoutFirst_M l G hg hA r x1 hkr hk1 M2 _) h cw_RX3_61 hd_X3_readWithoutFirst ⟨rfl, rfl⟩ ⟨by decide, by decide⟩ (gic_3 hA hkr) (gc_k hkr) rfl (As := [.ref (gAD G x1)]) (rest := []) rfl (Nat.le_of_ble_eq_true rfl) ⟨Nat.zero_le _, Nat.zero_le _⟩ rfl dX3_follow_19 (fun M3 h => ?_)
  exact wl_vret C hr h dX3_follow_22
set_option maxRecDepth 100000 in
set_option maxHeartbeats 4000000 in
theorem cX3_placeInRing_M (l : Launch) (G : gP) (hg : gIn G) (hA : gCl G) (r : Nat) (x1 : Int32) (x2 : Int64) (hkr : kd r = 3) (M : Mem) (Q : Int32 → Mem → Prop) : Met l yX3_placeInRing (Cond.code yX3_placeInRing cX3_placeInRing 6 (some (Jvm.ClassFile.FieldType.int)) :: TB) rmX3_placeInRing (va_Pc [.ref (gAD G r), .int x1, .long x2] (fun U => gS G M U ∧ wX3_placeInRing r x1 x2 M Q)) (va_Qi Q (gB G) (gA G)) 0 0 (gA G) := by
  refine gMet (by decide +kernel) (show _ = Cond.code yX3_placeInRing cX3_placeInRing 6 (some (Jvm.ClassFile.FieldType.int)) from rfl) hg (Nat.le_of_ble_eq_true rfl) [(0, .ref (gAD G r)), (1, .int x1), (2, .long x2)] rfl ?_
  intro p e s m args below meth c C hr h
  have h : (wX4_at (r + 16) x1 M (fun r2 M1 => ((0 < r2 → (wX4_at (r + 18) x1 M1 (fun r4 M3 => (wJ9_floorMod_f86c9 (r4.toInt64 + x2) r2.toInt64 M3 (fun r6 M5 => (wX4_at (r + 14) x1 M5 (fun r8 M7 => (wX4_at (r + 12) (r8 + r6.toInt32) M7 (fun r10 M9 => Q r10 M9))))))))) ∧ (¬ 0 < r2 → Q x1 M1)))) := h
  refine wl_aload_n C dX3_placeInRing_0 0 rfl ?_
  refine gf_3_7 C hkr (gic_3 hA hkr) tw_98 dX3_placeInRing_1 ?_
  refine wl_iload_n C dX3_placeInRing_4 1 rfl ?_
  refine wl_callVi C (cX4_at_M l G hg hA (r + 16) x1 (kx_3_16 hkr) M _) h cw_RX3_87 hd_X4_at ⟨rfl, rfl⟩ ⟨by decide, by decide⟩ (gic_4 hA (kx_3_16 hkr)) (gc_k (kx_3_16 hkr)) rfl (As := [.int x1]) (rest := []) rfl (Nat.le_of_ble_eq_true rfl) ⟨Nat.zero_le _, Nat.zero_le _⟩ rfl dX3_placeInRing_5 (fun r2 M1 h => ?_)
  refine wl_istore (i := 4) (lv' := [(4, .int r2), (0, .ref (gAD G r)), (1, .int x1), (2, .long x2)]) C dX3_placeInRing_8 (by decide) rfl ?_
  refine wl_iload C dX3_placeInRing_10 0 rfl ?_
  refine wl_if_gt C (tgt := 17) dX3_placeInRing_12 (by decide) (fun hc => ?_) (fun hc => ?_)
  · have h := h.1 hc
    refine wl_aload_n C dX3_placeInRing_17 1 rfl ?_
    refine gf_3_8 C hkr (gic_3 hA hkr) tw_99 dX3_placeInRing_18 ?_
    refine wl_iload_n C dX3_placeInRing_21 2 rfl ?_
    refine wl_callVi C (cX4_at_M l G hg hA (r + 18) x1 (kx_3_18 hkr) M1 _) h cw_RX3_87 hd_X4_at ⟨rfl, rfl⟩ ⟨by decide, by decide⟩ (gic_4 hA (kx_3_18 hkr)) (gc_k (kx_3_18 hkr)) rfl (As := [.int x1]) (rest := []) rfl (Nat.le_of_ble_eq_true rfl) ⟨Nat.zero_le _, Nat.zero_le _⟩ rfl dX3_placeInRing_22 (fun r4 M3 h => ?_)
    refine wl_i2l C dX3_placeInRing_25 ?_
    refine wl_lload_n C dX3_placeInRing_26 3 rfl ?_
    refine wl_ladd C dX3_placeInRing_27 ?_
    refine wl_iload C dX3_placeInRing_28 0 rfl ?_
    refine wl_i2l C dX3_placeInRing_30 ?_
    refine wl_callSl C (cJ9_floorMod_f86c9_M l G hg hA (r4.toInt64 + x2) r2.toInt64 M3 _) h cw_RX3_98 hd_J9_floorMod_f86c9 ⟨rfl, rfl⟩ ⟨by decide, by decide⟩ (As := [.long (r4.toInt64 + x2), .long r2.toInt64]) (rest := []) rfl (Nat.le_of_ble_eq_true rfl) ⟨Nat.zero_le _, Nat.zero_le _⟩ rfl dX3_placeInRing_31 (fun r6 M5 h => ?_)
    refine wl_l2i C dX3_placeInRing_34 ?_
    refine wl_istore (i := 5) (lv' := [(5, .int r6.toInt32), (4, .int r2), (0, .ref (gAD G r)), (1, .int x1), (2, .long x2)]) C dX3_placeInRing_35 (by decide) rfl ?_
    refine wl_aload_n C dX3_placeInRing_37 2 rfl ?_
    refine gf_3_5 C hkr (gic_3 hA hkr) tw_96 dX3_placeInRing_38 ?_
    refine wl_aload_n C dX3_placeInRing_41 2 rfl ?_
    refine gf_3_6 C hkr (gic_3 hA hkr) tw_97 dX3_placeInRing_42 ?_
    refine wl_iload_n C dX3_placeInRing_45 3 rfl ?_
    refine wl_callVi C (cX4_at_M l G hg hA (r + 14) x1 (kx_3_14 hkr) M5 _) h cw_RX3_87 hd_X4_at ⟨rfl, rfl⟩ ⟨by decide, by decide⟩ (gic_4 hA (kx_3_14 hkr)) (gc_k (kx_3_14 hkr)) rfl (As := [.int x1]) (rest := [.ref (gAD G (r + 12))]) rfl (Nat.le_of_ble_eq_true rfl) ⟨Nat.zero_le _, Nat.zero_le _⟩ rfl dX3_placeInRing_46 (fun r8 M7 h => ?_)
    refine wl_iload C dX3_placeInRing_49 0 rfl ?_
    refine wl_iadd C dX3_placeInRing_51 ?_
    refine wl_callVi C (cX4_at_M l G hg hA (r + 12) (r8 + r6.toInt32) (kx_3_12 hkr) M7 _) h cw_RX3_87 hd_X4_at ⟨rfl, rfl⟩ ⟨by decide, by decide⟩ (gic_4 hA (kx_3_12 hkr)) (gc_k (kx_3_12 hkr)) rfl (As := [.int (r8 + r6.toInt32)]) (rest := []) rfl (Nat.le_of_ble_eq_true rfl) ⟨Nat.zero_le _, Nat.zero_le _⟩ rfl dX3_placeInRing_52 (fun r10 M9 h => ?_)
    exact wl_iret C hr h dX3_placeInRing_55
  · have h := h.2 hc
    refine wl_iload_n C dX3_placeInRing_15 2 rfl ?_
    exact wl_iret C hr h dX3_placeInRing_16
set_option maxRecDepth 100000 in
set_option maxHeartbeats 4000000 in
theorem cX3_placeRead_M (l : Launch) (G : gP) (hg : gIn G) (hA : gCl G) (r : Nat) (x1 : Int64) (x3 : Int32) (hkr : kd r = 3) (M : Mem) (Q : Int32 → Mem → Prop) : Met l yX3_placeRead (Cond.code yX3_placeRead cX3_placeRead 4 (some (Jvm.ClassFile.FieldType.int)) :: TB) rmX3_placeRead (va_Pc [.ref (gAD G r), .long x1, .int x3] (fun U => gS G M U ∧ wX3_placeRead r x1 x3 M Q)) (va_Qi Q (gB G) (gA G)) 0 0 (gA G) := by
  refine gMet (by decide +kernel) (show _ = Cond.code yX3_placeRead cX3_placeRead 4 (some (Jvm.ClassFile.FieldType.int)) from rfl) hg (Nat.le_of_ble_eq_true rfl) [(0, .ref (gAD G r)), (1, .long x1), (3, .int x3)] rfl ?_
  intro p e s m args below meth c C hr h
  have h : (wX4_at (r + 6) x3 M (fun r2 M1 => (wX3_placeInRing r r2 x1 M1 (fun r4 M3 => Q r4 M3)))) := h
  refine wl_aload_n C dX3_placeRead_0 0 rfl ?_
  refine wl_aload_n C dX3_placeRead_1 0 rfl ?_
  refine gf_3_2 C hkr (gic_3 hA hkr) tw_93 dX3_placeRead_2 ?_
  refine wl_iload_n C dX3_placeRead_5 2 rfl ?_
  refine wl_callVi C (cX4_at_M l G hg hA (r + 6) x3 (kx_3_6 hkr) M _) h cw_RX3_87 hd_X4_at ⟨rfl, rfl⟩ ⟨by decide, by decide⟩ (gic_4 hA (kx_3_6 hkr)) (gc_k (kx_3_6 hkr)) rfl (As := [.int x3]) (rest := [.ref (gAD G r)]) rfl (Nat.le_of_ble_eq_true rfl) ⟨Nat.zero_le _, Nat.zero_le _⟩ rfl dX3_placeRead_6 (fun r2 M1 h => ?_)
  refine wl_lload_n C dX3_placeRead_9 1 rfl ?_
  refine wl_callVi C (cX3_placeInRing_M l G hg hA r r2 x1 hkr M1 _) h cw_RX3_104 hd_X3_placeInRing ⟨rfl, rfl⟩ ⟨by decide, by decide⟩ (gic_3 hA hkr) (gc_k hkr) rfl (As := [.int r2, .long x1]) (rest := []) rfl (Nat.le_of_ble_eq_true rfl) ⟨Nat.zero_le _, Nat.zero_le _⟩ rfl dX3_placeRead_10 (fun r4 M3 h => ?_)
  exact wl_iret C hr h dX3_placeRead_13
set_option maxRecDepth 100000 in
set_option maxHeartbeats 4000000 in
theorem cX3_placeFoundBy_M (l : Launch) (G : gP) (hg : gIn G) (hA : gCl G) (r : Nat) (x1 : Int64) (x3 : Int32) (hkr : kd r = 3) (M : Mem) (Q : Int32 → Mem → Prop) : Met l yX3_placeFoundBy (Cond.code yX3_placeFoundBy cX3_placeFoundBy 4 (some (Jvm.ClassFile.FieldType.int)) :: TB) rmX3_placeFoundBy (va_Pc [.ref (gAD G r), .long x1, .int x3] (fun U => gS G M U ∧ wX3_placeFoundBy r x1 x3 M Q)) (va_Qi Q (gB G) (gA G)) 0 0 (gA G) := by
  refine gMet (by decide +kernel) (show _ = Cond.code yX3_placeFoundBy cX3_placeFoundBy 4 (some (Jvm.ClassFile.FieldType.int)) from rfl) hg (Nat.le_of_ble_eq_true rfl) [(0, .ref (gAD G r)), (1, .long x1), (3, .int x3)] rfl ?_
  intro p e s m args below meth c C hr h
  have h : (wX3_placeInRing r x3 (-x1) M (fun r2 M1 => Q r2 M1)) := h
  refine wl_aload_n C dX3_placeFoundBy_0 0 rfl ?_
  refine wl_iload_n C dX3_placeFoundBy_1 2 rfl ?_
  refine wl_lload_n C dX3_placeFoundBy_2 1 rfl ?_
  refine wl_lneg C dX3_placeFoundBy_3 ?_
  refine wl_callVi C (cX3_placeInRing_M l G hg hA r x3 (-x1) hkr M _) h cw_RX3_104 hd_X3_placeInRing ⟨rfl, rfl⟩ ⟨by decide, by decide⟩ (gic_3 hA hkr) (gc_k hkr) rfl (As := [.int x3, .long (-x1)]) (rest := []) rfl (Nat.le_of_ble_eq_true rfl) ⟨Nat.zero_le _, Nat.zero_le _⟩ rfl dX3_placeFoundBy_4 (fun r2 M1 h => ?_)
  exact wl_iret C hr h dX3_placeFoundBy_7
set_option maxRecDepth 100000 in
set_option maxHeartbeats 4000000 in
theorem cX3_placeAfterFirstReading_M (l : Launch) (G : gP) (hg : gIn G) (hA : gCl G) (r : Nat) (x1 : Int64) (x3 : Int32) (hkr : kd r = 3) (M : Mem) (Q : Int32 → Mem → Prop) : Met l yX3_placeAfterFirstReading (Cond.code yX3_placeAfterFirstReading cX3_placeAfterFirstReading 4 (some (Jvm.ClassFile.FieldType.int)) :: TB) rmX3_placeAfterFirstReading (va_Pc [.ref (gAD G r), .long x1, .int x3] (fun U => gS G M U ∧ wX3_placeAfterFirstReading r x1 x3 M Q)) (va_Qi Q (gB G) (gA G)) 0 0 (gA G) := by
  refine gMet (by decide +kernel) (show _ = Cond.code yX3_placeAfterFirstReading cX3_placeAfterFirstReading 4 (some (Jvm.ClassFile.FieldType.int)) from rfl) hg (Nat.le_of_ble_eq_true rfl) [(0, .ref (gAD G r)), (1, .long x1), (3, .int x3)] rfl ?_
  intro p e s m args below meth c C hr h
  have h : (wX4_at (r + 6) x3 M (fun r2 M1 => (wX3_placeInRing r r2 (x1 - (1 : Int64)) M1 (fun r4 M3 => (wX4_at (r + 10) r4 M3 (fun r6 M5 => Q r6 M5)))))) := h
  refine wl_aload_n C dX3_placeAfterFirstReading_0 0 rfl ?_
  refine gf_3_4 C hkr (gic_3 hA hkr) tw_95 dX3_placeAfterFirstReading_1 ?_
  refine wl_aload_n C dX3_placeAfterFirstReading_4 0 rfl ?_
  refine wl_aload_n C dX3_placeAfterFirstReading_5 0 rfl ?_
  refine gf_3_2 C hkr (gic_3 hA hkr) tw_93 dX3_placeAfterFirstReading_6 ?_
  refine wl_iload_n C dX3_placeAfterFirstReading_9 2 rfl ?_
  refine wl_callVi C (cX4_at_M l G hg hA (r + 6) x3 (kx_3_6 hkr) M _) h cw_RX3_87 hd_X4_at ⟨rfl, rfl⟩ ⟨by decide, by decide⟩ (gic_4 hA (kx_3_6 hkr)) (gc_k (kx_3_6 hkr)) rfl (As := [.int x3]) (rest := [.ref (gAD G r), .ref (gAD G (r + 10))]) rfl (Nat.le_of_ble_eq_true rfl) ⟨Nat.zero_le _, Nat.zero_le _⟩ rfl dX3_placeAfterFirstReading_10 (fun r2 M1 h => ?_)
  refine wl_lload_n C dX3_placeAfterFirstReading_13 1 rfl ?_
  refine wl_lconst (v := 1) C dX3_placeAfterFirstReading_14 (by decide) ?_
  refine wl_lsub C dX3_placeAfterFirstReading_15 ?_
  refine wl_callVi C (cX3_placeInRing_M l G hg hA r r2 (x1 - (1 : Int64)) hkr M1 _) h cw_RX3_104 hd_X3_placeInRing ⟨rfl, rfl⟩ ⟨by decide, by decide⟩ (gic_3 hA hkr) (gc_k hkr) rfl (As := [.int r2, .long (x1 - (1 : Int64))]) (rest := [.ref (gAD G (r + 10))]) rfl (Nat.le_of_ble_eq_true rfl) ⟨Nat.zero_le _, Nat.zero_le _⟩ rfl dX3_placeAfterFirstReading_16 (fun r4 M3 h => ?_)
  refine wl_callVi C (cX4_at_M l G hg hA (r + 10) r4 (kx_3_10 hkr) M3 _) h cw_RX3_87 hd_X4_at ⟨rfl, rfl⟩ ⟨by decide, by decide⟩ (gic_4 hA (kx_3_10 hkr)) (gc_k (kx_3_10 hkr)) rfl (As := [.int r4]) (rest := []) rfl (Nat.le_of_ble_eq_true rfl) ⟨Nat.zero_le _, Nat.zero_le _⟩ rfl dX3_placeAfterFirstReading_19 (fun r6 M5 h => ?_)
  exact wl_iret C hr h dX3_placeAfterFirstReading_22
set_option maxRecDepth 100000 in
set_option maxHeartbeats 4000000 in
theorem cX3_turnAt_M (l : Launch) (G : gP) (hg : gIn G) (hA : gCl G) (r : Nat) (x1 : Int32) (hkr : kd r = 3) (M : Mem) (Q : Int32 → Mem → Prop) : Met l yX3_turnAt (Cond.code yX3_turnAt cX3_turnAt 2 (some (Jvm.ClassFile.FieldType.int)) :: TB) rmX3_turnAt (va_Pc [.ref (gAD G r), .int x1] (fun U => gS G M U ∧ wX3_turnAt r x1 M Q)) (va_Qi Q (gB G) (gA G)) 0 0 (gA G) := by
  refine gMet (by decide +kernel) (show _ = Cond.code yX3_turnAt cX3_turnAt 2 (some (Jvm.ClassFile.FieldType.int)) from rfl) hg (Nat.le_of_ble_eq_true rfl) [(0, .ref (gAD G r)), (1, .int x1)] rfl ?_
  intro p e s m args below meth c C hr h
  have h : (wX4_at (r + 8) x1 M (fun r2 M1 => Q r2 M1)) := h
  refine wl_aload_n C dX3_turnAt_0 0 rfl ?_
  refine gf_3_3 C hkr (gic_3 hA hkr) tw_94 dX3_turnAt_1 ?_
  refine wl_iload_n C dX3_turnAt_4 1 rfl ?_
  refine wl_callVi C (cX4_at_M l G hg hA (r + 8) x1 (kx_3_8 hkr) M _) h cw_RX3_87 hd_X4_at ⟨rfl, rfl⟩ ⟨by decide, by decide⟩ (gic_4 hA (kx_3_8 hkr)) (gc_k (kx_3_8 hkr)) rfl (As := [.int x1]) (rest := []) rfl (Nat.le_of_ble_eq_true rfl) ⟨Nat.zero_le _, Nat.zero_le _⟩ rfl dX3_turnAt_5 (fun r2 M1 h => ?_)
  exact wl_iret C hr h dX3_turnAt_8
set_option maxRecDepth 100000 in
set_option maxHeartbeats 4000000 in
theorem kX3_readInRing_45 (l : Launch) (G : gP) (hg : gIn G) (hA : gCl G) (r : Nat) (x1 : Int32) (hkr : kd r = 3) {p : Program} {e : Env} {s : State} {m : MethodId} {args : Array Value} {below : List Frame} {meth : Method} {c : Code} (C : Cx p s m args meth c G (gA G) cX3_readInRing 4 RX3) (hr : meth.sig.returnType = (some (Jvm.ClassFile.FieldType.int))) {Q : Int32 → Mem → Prop} (k_4 : Int32 → Int32 → Mem → Prop) (hk_4 : ∀ (v2 : Int32) (v3 : Int32) (M : Mem), k_4 v2 v3 M → Wl p l e rmX3_readInRing s m args below meth c (MQ below (va_Qi Q (gB G) (gA G)) args s 0 0 (gA G)) G (gA G) 4 0 0 M 4 [(0, .ref (gAD G r)), (1, .int x1), (2, .int v2), (3, .int v3)] []) (v2 : Int32) (v3 : Int32) (M : Mem) (h : wX3_readInRing_45 r x1 k_4 Q v2 v3 M) : Wl p l e rmX3_readInRing s m args below meth c (MQ below (va_Qi Q (gB G) (gA G)) args s 0 0 (gA G)) G (gA G) 4 0 0 M 45 [(0, .ref (gAD G r)), (1, .int x1), (2, .int v2), (3, .int v3)] [] := by
  have h : k_4 v2 (v3 + (1 : Int32)) M := h
  refine wl_iinc (v := (v3 + (1 : Int32))) (lv' := [(3, .int (v3 + (1 : Int32))), (0, .ref (gAD G r)), (1, .int x1), (2, .int v2)]) C dX3_readInRing_45 3 rfl (by rfl) (by decide) rfl ?_
  refine wl_goto C (tgt := 4) dX3_readInRing_48 (by decide) ?_
  refine wl_sub [1, 2, 3, 0] rfl ?_
  exact hk_4 v2 (v3 + (1 : Int32)) M h
set_option maxRecDepth 100000 in
set_option maxHeartbeats 4000000 in
theorem kX3_readInRing_4 (l : Launch) (G : gP) (hg : gIn G) (hA : gCl G) (r : Nat) (x1 : Int32) (hkr : kd r = 3) {p : Program} {e : Env} {s : State} {m : MethodId} {args : Array Value} {below : List Frame} {meth : Method} {c : Code} (C : Cx p s m args meth c G (gA G) cX3_readInRing 4 RX3) (hr : meth.sig.returnType = (some (Jvm.ClassFile.FieldType.int))) {Q : Int32 → Mem → Prop} : ∀ (n : Nat) (v2 : Int32) (v3 : Int32) (M : Mem), wX3_readInRing_4 r x1 Q n v2 v3 M → Wl p l e rmX3_readInRing s m args below meth c (MQ below (va_Qi Q (gB G) (gA G)) args s 0 0 (gA G)) G (gA G) 4 0 0 M 4 [(0, .ref (gAD G r)), (1, .int x1), (2, .int v2), (3, .int v3)] [] := by
  intro n
  induction n with
  | zero => intro v2 v3 M h; exact h.elim
  | succ n ih =>
    intro v2 v3 M h
    have h : (wX4_at (r + 16) x1 M (fun r3 M2 => ((r3 ≤ v3 → Q v2 M2) ∧ (¬ r3 ≤ v3 → (wX4_at (r + 14) x1 M2 (fun r5 M4 => (wX4_at (r + 12) (r5 + v3) M4 (fun r7 M6 => (wX3_turnAt r r7 M6 (fun r9 M8 => ((r9 = (-4 : Int32) → wX3_readInRing_45 r x1 (wX3_readInRing_4 r x1 Q n) Q v2 v3 M8) ∧ (¬ r9 = (-4 : Int32) → wX3_readInRing_45 r x1 (wX3_readInRing_4 r x1 Q n) Q (v2 + (1 : Int32)) v3 M8)))))))))))) := h
    refine wl_iload_n C dX3_readInRing_4 3 rfl ?_
    refine wl_aload_n C dX3_readInRing_5 0 rfl ?_
    refine gf_3_7 C hkr (gic_3 hA hkr) tw_98 dX3_readInRing_6 ?_
    refine wl_iload_n C dX3_readInRing_9 1 rfl ?_
    refine wl_callVi C (cX4_at_M l G hg hA (r + 16) x1 (kx_3_16 hkr) M _) h cw_RX3_87 hd_X4_at ⟨rfl, rfl⟩ ⟨by decide, by decide⟩ (gic_4 hA (kx_3_16 hkr)) (gc_k (kx_3_16 hkr)) rfl (As := [.int x1]) (rest := [.int v3]) rfl (Nat.le_of_ble_eq_true rfl) ⟨Nat.zero_le _, Nat.zero_le _⟩ rfl dX3_readInRing_10 (fun r3 M2 h => ?_)
    refine wl_icmp_ge C (tgt := 51) dX3_readInRing_13 (by decide) (fun hc => ?_) (fun hc => ?_)
    · have h := h.1 hc
      refine wl_iload_n C dX3_readInRing_51 2 rfl ?_
      exact wl_iret C hr h dX3_readInRing_52
    · have h := h.2 hc
      refine wl_aload_n C dX3_readInRing_16 0 rfl ?_
      refine wl_aload_n C dX3_readInRing_17 0 rfl ?_
      refine gf_3_5 C hkr (gic_3 hA hkr) tw_96 dX3_readInRing_18 ?_
      refine wl_aload_n C dX3_readInRing_21 0 rfl ?_
      refine gf_3_6 C hkr (gic_3 hA hkr) tw_97 dX3_readInRing_22 ?_
      refine wl_iload_n C dX3_readInRing_25 1 rfl ?_
      refine wl_callVi C (cX4_at_M l G hg hA (r + 14) x1 (kx_3_14 hkr) M2 _) h cw_RX3_87 hd_X4_at ⟨rfl, rfl⟩ ⟨by decide, by decide⟩ (gic_4 hA (kx_3_14 hkr)) (gc_k (kx_3_14 hkr)) rfl (As := [.int x1]) (rest := [.ref (gAD G (r + 12)), .ref (gAD G r)]) rfl (Nat.le_of_ble_eq_true rfl) ⟨Nat.zero_le _, Nat.zero_le _⟩ rfl dX3_readInRing_26 (fun r5 M4 h => ?_)
      refine wl_iload_n C dX3_readInRing_29 3 rfl ?_
      refine wl_iadd C dX3_readInRing_30 ?_
      refine wl_callVi C (cX4_at_M l G hg hA (r + 12) (r5 + v3) (kx_3_12 hkr) M4 _) h cw_RX3_87 hd_X4_at ⟨rfl, rfl⟩ ⟨by decide, by decide⟩ (gic_4 hA (kx_3_12 hkr)) (gc_k (kx_3_12 hkr)) rfl (As := [.int (r5 + v3)]) (rest := [.ref (gAD G r)]) rfl (Nat.le_of_ble_eq_true rfl) ⟨Nat.zero_le _, Nat.zero_le _⟩ rfl dX3_readInRing_31 (fun r7 M6 h => ?_)
      refine wl_callVi C (cX3_turnAt_M l G hg hA r r7 hkr M6 _) h cw_RX3_111 hd_X3_turnAt ⟨rfl, rfl⟩ ⟨by decide, by decide⟩ (gic_3 hA hkr) (gc_k hkr) rfl (As := [.int r7]) (rest := []) rfl (Nat.le_of_ble_eq_true rfl) ⟨Nat.zero_le _, Nat.zero_le _⟩ rfl dX3_readInRing_34 (fun r9 M8 h => ?_)
      refine wl_bipush (v := (-4)) C dX3_readInRing_37 (by decide) ?_
      refine wl_icmp_eq C (tgt := 45) dX3_readInRing_39 (by decide) (fun hc => ?_) (fun hc => ?_)
      · have h := h.1 hc
        refine wl_sub [0, 1, 2, 3] rfl ?_
        exact kX3_readInRing_45 l G hg hA r x1 hkr C hr (wX3_readInRing_4 r x1 Q n) (ih) v2 v3 M8 h
      · have h := h.2 hc
        refine wl_iinc (v := (v2 + (1 : Int32))) (lv' := [(2, .int (v2 + (1 : Int32))), (0, .ref (gAD G r)), (1, .int x1), (3, .int v3)]) C dX3_readInRing_42 2 rfl (by rfl) (by decide) rfl ?_
        refine wl_sub [1, 2, 0, 3] rfl ?_
        exact kX3_readInRing_45 l G hg hA r x1 hkr C hr (wX3_readInRing_4 r x1 Q n) (ih) (v2 + (1 : Int32)) v3 M8 h
set_option maxRecDepth 100000 in
set_option maxHeartbeats 4000000 in
theorem cX3_readInRing_M (l : Launch) (G : gP) (hg : gIn G) (hA : gCl G) (r : Nat) (x1 : Int32) (hkr : kd r = 3) (M : Mem) (Q : Int32 → Mem → Prop) : Met l yX3_readInRing (Cond.code yX3_readInRing cX3_readInRing 4 (some (Jvm.ClassFile.FieldType.int)) :: TB) rmX3_readInRing (va_Pc [.ref (gAD G r), .int x1] (fun U => gS G M U ∧ wX3_readInRing r x1 M Q)) (va_Qi Q (gB G) (gA G)) 0 0 (gA G) := by
  refine gMet (by decide +kernel) (show _ = Cond.code yX3_readInRing cX3_readInRing 4 (some (Jvm.ClassFile.FieldType.int)) from rfl) hg (Nat.le_of_ble_eq_true rfl) [(0, .ref (gAD G r)), (1, .int x1)] rfl ?_
  intro p e s m args below meth c C hr h
  have h : (∃ n1, wX3_readInRing_4 r x1 Q n1 (0 : Int32) (0 : Int32) M) := h
  refine wl_iconst (v := 0) C dX3_readInRing_0 (by decide) ?_
  refine wl_istore_n (i := 2) (lv' := [(2, .int (0 : Int32)), (0, .ref (gAD G r)), (1, .int x1)]) C dX3_readInRing_1 rfl (by decide) rfl ?_
  refine wl_iconst (v := 0) C dX3_readInRing_2 (by decide) ?_
  refine wl_istore_n (i := 3) (lv' := [(3, .int (0 : Int32)), (2, .int (0 : Int32)), (0, .ref (gAD G r)), (1, .int x1)]) C dX3_readInRing_3 rfl (by decide) rfl ?_
  refine wl_sub [2, 3, 1, 0] rfl ?_
  obtain ⟨n1, h⟩ := h
  exact kX3_readInRing_4 l G hg hA r x1 hkr C hr n1 (0 : Int32) (0 : Int32) M h
set_option maxRecDepth 100000 in
set_option maxHeartbeats 4000000 in
theorem kX3_isNeverRead_13 (l : Launch) (G : gP) (hg : gIn G) (hA : gCl G) (r : Nat) (x1 : Int32) (hkr : kd r = 3) {p : Program} {e : Env} {s : State} {m : MethodId} {args : Array Value} {below : List Frame} {meth : Method} {c : Code} (C : Cx p s m args meth c G (gA G) cX3_isNeverRead 2 RX3) (hr : meth.sig.returnType = (some (Jvm.ClassFile.FieldType.boolean))) {Q : Int32 → Mem → Prop} (s0 : Int32) (M : Mem) (h : wX3_isNeverRead_13 r x1 Q s0 M) : Wl p l e rmX3_isNeverRead s m args below meth c (MQ below (va_Qi Q (gB G) (gA G)) args s 0 0 (gA G)) G (gA G) 2 0 0 M 13 [] [.int s0] := by
  have h : ((s0 = 0 ∨ s0 = 1) ∧ Q s0 M) := h
  exact wl_zret C hr h.1 h.2 dX3_isNeverRead_13
set_option maxRecDepth 100000 in
set_option maxHeartbeats 4000000 in
theorem cX3_isNeverRead_M (l : Launch) (G : gP) (hg : gIn G) (hA : gCl G) (r : Nat) (x1 : Int32) (hkr : kd r = 3) (M : Mem) (Q : Int32 → Mem → Prop) : Met l yX3_isNeverRead (Cond.code yX3_isNeverRead cX3_isNeverRead 2 (some (Jvm.ClassFile.FieldType.boolean)) :: TB) rmX3_isNeverRead (va_Pc [.ref (gAD G r), .int x1] (fun U => gS G M U ∧ wX3_isNeverRead r x1 M Q)) (va_Qi Q (gB G) (gA G)) 0 0 (gA G) := by
  refine gMet (by decide +kernel) (show _ = Cond.code yX3_isNeverRead cX3_isNeverRead 2 (some (Jvm.ClassFile.FieldType.boolean)) from rfl) hg (Nat.le_of_ble_eq_true rfl) [(0, .ref (gAD G r)), (1, .int x1)] rfl ?_
  intro p e s m args below meth c C hr h
  have h : (wX3_readInRing r x1 M (fun r2 M1 => ((¬ r2 = 0 → wX3_isNeverRead_13 r x1 Q (0 : Int32) M1) ∧ (r2 = 0 → wX3_isNeverRead_13 r x1 Q (1 : Int32) M1)))) := h
  refine wl_aload_n C dX3_isNeverRead_0 0 rfl ?_
  refine wl_iload_n C dX3_isNeverRead_1 1 rfl ?_
  refine wl_callVi C (cX3_readInRing_M l G hg hA r x1 hkr M _) h cw_RX3_108 hd_X3_readInRing ⟨rfl, rfl⟩ ⟨by decide, by decide⟩ (gic_3 hA hkr) (gc_k hkr) rfl (As := [.int x1]) (rest := []) rfl (Nat.le_of_ble_eq_true rfl) ⟨Nat.zero_le _, Nat.zero_le _⟩ rfl dX3_isNeverRead_2 (fun r2 M1 h => ?_)
  refine wl_if_ne C (tgt := 12) dX3_isNeverRead_5 (by decide) (fun hc => ?_) (fun hc => ?_)
  · have h := h.1 hc
    refine wl_iconst (v := 0) C dX3_isNeverRead_12 (by decide) ?_
    refine wl_sub [] rfl ?_
    exact kX3_isNeverRead_13 l G hg hA r x1 hkr C hr (0 : Int32) M1 h
  · have h := h.2 hc
    refine wl_iconst (v := 1) C dX3_isNeverRead_8 (by decide) ?_
    refine wl_goto C (tgt := 13) dX3_isNeverRead_9 (by decide) ?_
    refine wl_sub [] rfl ?_
    exact kX3_isNeverRead_13 l G hg hA r x1 hkr C hr (1 : Int32) M1 h
set_option maxRecDepth 100000 in
set_option maxHeartbeats 4000000 in
theorem kX3_isAlwaysRead_21 (l : Launch) (G : gP) (hg : gIn G) (hA : gCl G) (r : Nat) (x1 : Int32) (hkr : kd r = 3) {p : Program} {e : Env} {s : State} {m : MethodId} {args : Array Value} {below : List Frame} {meth : Method} {c : Code} (C : Cx p s m args meth c G (gA G) cX3_isAlwaysRead 2 RX3) (hr : meth.sig.returnType = (some (Jvm.ClassFile.FieldType.boolean))) {Q : Int32 → Mem → Prop} (s0 : Int32) (M : Mem) (h : wX3_isAlwaysRead_21 r x1 Q s0 M) : Wl p l e rmX3_isAlwaysRead s m args below meth c (MQ below (va_Qi Q (gB G) (gA G)) args s 0 0 (gA G)) G (gA G) 2 0 0 M 21 [] [.int s0] := by
  have h : ((s0 = 0 ∨ s0 = 1) ∧ Q s0 M) := h
  exact wl_zret C hr h.1 h.2 dX3_isAlwaysRead_21
set_option maxRecDepth 100000 in
set_option maxHeartbeats 4000000 in
theorem cX3_isAlwaysRead_M (l : Launch) (G : gP) (hg : gIn G) (hA : gCl G) (r : Nat) (x1 : Int32) (hkr : kd r = 3) (M : Mem) (Q : Int32 → Mem → Prop) : Met l yX3_isAlwaysRead (Cond.code yX3_isAlwaysRead cX3_isAlwaysRead 2 (some (Jvm.ClassFile.FieldType.boolean)) :: TB) rmX3_isAlwaysRead (va_Pc [.ref (gAD G r), .int x1] (fun U => gS G M U ∧ wX3_isAlwaysRead r x1 M Q)) (va_Qi Q (gB G) (gA G)) 0 0 (gA G) := by
  refine gMet (by decide +kernel) (show _ = Cond.code yX3_isAlwaysRead cX3_isAlwaysRead 2 (some (Jvm.ClassFile.FieldType.boolean)) from rfl) hg (Nat.le_of_ble_eq_true rfl) [(0, .ref (gAD G r)), (1, .int x1)] rfl ?_
  intro p e s m args below meth c C hr h
  have h : (wX3_readInRing r x1 M (fun r2 M1 => (wX4_at (r + 16) x1 M1 (fun r4 M3 => ((¬ r2 = r4 → wX3_isAlwaysRead_21 r x1 Q (0 : Int32) M3) ∧ (r2 = r4 → wX3_isAlwaysRead_21 r x1 Q (1 : Int32) M3)))))) := h
  refine wl_aload_n C dX3_isAlwaysRead_0 0 rfl ?_
  refine wl_iload_n C dX3_isAlwaysRead_1 1 rfl ?_
  refine wl_callVi C (cX3_readInRing_M l G hg hA r x1 hkr M _) h cw_RX3_108 hd_X3_readInRing ⟨rfl, rfl⟩ ⟨by decide, by decide⟩ (gic_3 hA hkr) (gc_k hkr) rfl (As := [.int x1]) (rest := []) rfl (Nat.le_of_ble_eq_true rfl) ⟨Nat.zero_le _, Nat.zero_le _⟩ rfl dX3_isAlwaysRead_2 (fun r2 M1 h => ?_)
  refine wl_aload_n C dX3_isAlwaysRead_5 0 rfl ?_
  refine gf_3_7 C hkr (gic_3 hA hkr) tw_98 dX3_isAlwaysRead_6 ?_
  refine wl_iload_n C dX3_isAlwaysRead_9 1 rfl ?_
  refine wl_callVi C (cX4_at_M l G hg hA (r + 16) x1 (kx_3_16 hkr) M1 _) h cw_RX3_87 hd_X4_at ⟨rfl, rfl⟩ ⟨by decide, by decide⟩ (gic_4 hA (kx_3_16 hkr)) (gc_k (kx_3_16 hkr)) rfl (As := [.int x1]) (rest := [.int r2]) rfl (Nat.le_of_ble_eq_true rfl) ⟨Nat.zero_le _, Nat.zero_le _⟩ rfl dX3_isAlwaysRead_10 (fun r4 M3 h => ?_)
  refine wl_icmp_ne C (tgt := 20) dX3_isAlwaysRead_13 (by decide) (fun hc => ?_) (fun hc => ?_)
  · have h := h.1 hc
    refine wl_iconst (v := 0) C dX3_isAlwaysRead_20 (by decide) ?_
    refine wl_sub [] rfl ?_
    exact kX3_isAlwaysRead_21 l G hg hA r x1 hkr C hr (0 : Int32) M3 h
  · have h := h.2 hc
    refine wl_iconst (v := 1) C dX3_isAlwaysRead_16 (by decide) ?_
    refine wl_goto C (tgt := 21) dX3_isAlwaysRead_17 (by decide) ?_
    refine wl_sub [] rfl ?_
    exact kX3_isAlwaysRead_21 l G hg hA r x1 hkr C hr (1 : Int32) M3 h
set_option maxRecDepth 100000 in
set_option maxHeartbeats 4000000 in
theorem kX3_commonMultiple_2 (l : Launch) (G : gP) (hg : gIn G) (hA : gCl G) (x0 : Int32) (x1 : Int32) {p : Program} {e : Env} {s : State} {m : MethodId} {args : Array Value} {below : List Frame} {meth : Method} {c : Code} (C : Cx p s m args meth c G (gA G) cX3_commonMultiple 3 RX3) (hr : meth.sig.returnType = (some (Jvm.ClassFile.FieldType.int))) {Q : Int32 → Mem → Prop} : ∀ (n : Nat) (v2 : Int32) (M : Mem), wX3_commonMultiple_2 x0 x1 Q n v2 M → Wl p l e rmX3_commonMultiple s m args below meth c (MQ below (va_Qi Q (gB G) (gA G)) args s 0 0 (gA G)) G (gA G) 3 0 0 M 2 [(0, .int x0), (1, .int x1), (2, .int v2)] [] := by
  intro n
  induction n with
  | zero => intro v2 M h; exact h.elim
  | succ n ih =>
    intro v2 M h
    have h : ((x1 ≤ v2 → Q (x0 * x1) M) ∧ (¬ x1 ≤ v2 → (¬ x1 = 0 ∧ ((¬ ((x0 * v2) - ((x0 * v2) / x1) * x1) = 0 → wX3_commonMultiple_2 x0 x1 Q n (v2 + (1 : Int32)) M) ∧ (((x0 * v2) - ((x0 * v2) / x1) * x1) = 0 → Q (x0 * v2) M))))) := h
    refine wl_iload_n C dX3_commonMultiple_2 2 rfl ?_
    refine wl_iload_n C dX3_commonMultiple_3 1 rfl ?_
    refine wl_icmp_ge C (tgt := 25) dX3_commonMultiple_4 (by decide) (fun hc => ?_) (fun hc => ?_)
    · have h := h.1 hc
      refine wl_iload_n C dX3_commonMultiple_25 0 rfl ?_
      refine wl_iload_n C dX3_commonMultiple_26 1 rfl ?_
      refine wl_imul C dX3_commonMultiple_27 ?_
      exact wl_iret C hr h dX3_commonMultiple_28
    · have h := h.2 hc
      refine wl_iload_n C dX3_commonMultiple_7 0 rfl ?_
      refine wl_iload_n C dX3_commonMultiple_8 2 rfl ?_
      refine wl_imul C dX3_commonMultiple_9 ?_
      refine wl_iload_n C dX3_commonMultiple_10 1 rfl ?_
      refine wl_irem C dX3_commonMultiple_11 h.1 ?_
      have h := h.2
      refine wl_if_ne C (tgt := 19) dX3_commonMultiple_12 (by decide) (fun hc => ?_) (fun hc => ?_)
      · have h := h.1 hc
        refine wl_iinc (v := (v2 + (1 : Int32))) (lv' := [(2, .int (v2 + (1 : Int32))), (0, .int x0), (1, .int x1)]) C dX3_commonMultiple_19 2 rfl (by rfl) (by decide) rfl ?_
        refine wl_goto C (tgt := 2) dX3_commonMultiple_22 (by decide) ?_
        refine wl_sub [1, 2, 0] rfl ?_
        exact ih (v2 + (1 : Int32)) M h
      · have h := h.2 hc
        refine wl_iload_n C dX3_commonMultiple_15 0 rfl ?_
        refine wl_iload_n C dX3_commonMultiple_16 2 rfl ?_
        refine wl_imul C dX3_commonMultiple_17 ?_
        exact wl_iret C hr h dX3_commonMultiple_18
set_option maxRecDepth 100000 in
set_option maxHeartbeats 4000000 in
theorem cX3_commonMultiple_M (l : Launch) (G : gP) (hg : gIn G) (hA : gCl G) (x0 : Int32) (x1 : Int32) (M : Mem) (Q : Int32 → Mem → Prop) : Met l yX3_commonMultiple (Cond.code yX3_commonMultiple cX3_commonMultiple 3 (some (Jvm.ClassFile.FieldType.int)) :: TB) rmX3_commonMultiple (va_Pc [.int x0, .int x1] (fun U => gS G M U ∧ wX3_commonMultiple x0 x1 M Q)) (va_Qi Q (gB G) (gA G)) 0 0 (gA G) := by
  refine gMet (by decide +kernel) (show _ = Cond.code yX3_commonMultiple cX3_commonMultiple 3 (some (Jvm.ClassFile.FieldType.int)) from rfl) hg (Nat.le_of_ble_eq_true rfl) [(0, .int x0), (1, .int x1)] rfl ?_
  intro p e s m args below meth c C hr h
  have h : (∃ n1, wX3_commonMultiple_2 x0 x1 Q n1 (1 : Int32) M) := h
  refine wl_iconst (v := 1) C dX3_commonMultiple_0 (by decide) ?_
  refine wl_istore_n (i := 2) (lv' := [(2, .int (1 : Int32)), (0, .int x0), (1, .int x1)]) C dX3_commonMultiple_1 rfl (by decide) rfl ?_
  refine wl_sub [1, 2, 0] rfl ?_
  obtain ⟨n1, h⟩ := h
  exact kX3_commonMultiple_2 l G hg hA x0 x1 C hr n1 (1 : Int32) M h
set_option maxRecDepth 100000 in
set_option maxHeartbeats 4000000 in
theorem kX3_roundsTogether_4 (l : Launch) (G : gP) (hg : gIn G) (hA : gCl G) (r : Nat) (hkr : kd r = 3) {p : Program} {e : Env} {s : State} {m : MethodId} {args : Array Value} {below : List Frame} {meth : Method} {c : Code} (C : Cx p s m args meth c G (gA G) cX3_roundsTogether 3 RX3) (hr : meth.sig.returnType = (some (Jvm.ClassFile.FieldType.int))) {Q : Int32 → Mem → Prop} : ∀ (n : Nat) (v1 : Int32) (v2 : Int32) (M : Mem), wX3_roundsTogether_4 r Q n v1 v2 M → Wl p l e rmX3_roundsTogether s m args below meth c (MQ below (va_Qi Q (gB G) (gA G)) args s 0 0 (gA G)) G (gA G) 3 0 0 M 4 [(0, .ref (gAD G r)), (1, .int v1), (2, .int v2)] [] := by
  intro n
  induction n with
  | zero => intro v1 v2 M h; exact h.elim
  | succ n ih =>
    intro v1 v2 M h
    have h : (((M r 1) ≤ v2 → Q v1 M) ∧ (¬ (M r 1) ≤ v2 → (wX4_at (r + 16) v2 M (fun r3 M2 => (wX3_commonMultiple v1 r3 M2 (fun r5 M4 => wX3_roundsTogether_4 r Q n r5 (v2 + (1 : Int32)) M4)))))) := h
    refine wl_iload_n C dX3_roundsTogether_4 2 rfl ?_
    refine wl_aload_n C dX3_roundsTogether_5 0 rfl ?_
    refine gf_3_1 C hkr (gic_3 hA hkr) tw_92 dX3_roundsTogether_6 ?_
    refine wl_icmp_ge C (tgt := 31) dX3_roundsTogether_9 (by decide) (fun hc => ?_) (fun hc => ?_)
    · have h := h.1 hc
      refine wl_iload_n C dX3_roundsTogether_31 1 rfl ?_
      exact wl_iret C hr h dX3_roundsTogether_32
    · have h := h.2 hc
      refine wl_iload_n C dX3_roundsTogether_12 1 rfl ?_
      refine wl_aload_n C dX3_roundsTogether_13 0 rfl ?_
      refine gf_3_7 C hkr (gic_3 hA hkr) tw_98 dX3_roundsTogether_14 ?_
      refine wl_iload_n C dX3_roundsTogether_17 2 rfl ?_
      refine wl_callVi C (cX4_at_M l G hg hA (r + 16) v2 (kx_3_16 hkr) M _) h cw_RX3_87 hd_X4_at ⟨rfl, rfl⟩ ⟨by decide, by decide⟩ (gic_4 hA (kx_3_16 hkr)) (gc_k (kx_3_16 hkr)) rfl (As := [.int v2]) (rest := [.int v1]) rfl (Nat.le_of_ble_eq_true rfl) ⟨Nat.zero_le _, Nat.zero_le _⟩ rfl dX3_roundsTogether_18 (fun r3 M2 h => ?_)
      refine wl_callSi C (cX3_commonMultiple_M l G hg hA v1 r3 M2 _) h cw_RX3_114 hd_X3_commonMultiple ⟨rfl, rfl⟩ ⟨by decide, by decide⟩ (As := [.int v1, .int r3]) (rest := []) rfl (Nat.le_of_ble_eq_true rfl) ⟨Nat.zero_le _, Nat.zero_le _⟩ rfl dX3_roundsTogether_21 (fun r5 M4 h => ?_)
      refine wl_istore_n (i := 1) (lv' := [(1, .int r5), (0, .ref (gAD G r)), (2, .int v2)]) C dX3_roundsTogether_24 rfl (by decide) rfl ?_
      refine wl_iinc (v := (v2 + (1 : Int32))) (lv' := [(2, .int (v2 + (1 : Int32))), (1, .int r5), (0, .ref (gAD G r))]) C dX3_roundsTogether_25 2 rfl (by rfl) (by decide) rfl ?_
      refine wl_goto C (tgt := 4) dX3_roundsTogether_28 (by decide) ?_
      refine wl_sub [2, 1, 0] rfl ?_
      exact ih r5 (v2 + (1 : Int32)) M4 h
set_option maxRecDepth 100000 in
set_option maxHeartbeats 4000000 in
theorem cX3_roundsTogether_M (l : Launch) (G : gP) (hg : gIn G) (hA : gCl G) (r : Nat) (hkr : kd r = 3) (M : Mem) (Q : Int32 → Mem → Prop) : Met l yX3_roundsTogether (Cond.code yX3_roundsTogether cX3_roundsTogether 3 (some (Jvm.ClassFile.FieldType.int)) :: TB) rmX3_roundsTogether (va_Pc [.ref (gAD G r)] (fun U => gS G M U ∧ wX3_roundsTogether r M Q)) (va_Qi Q (gB G) (gA G)) 0 0 (gA G) := by
  refine gMet (by decide +kernel) (show _ = Cond.code yX3_roundsTogether cX3_roundsTogether 3 (some (Jvm.ClassFile.FieldType.int)) from rfl) hg (Nat.le_of_ble_eq_true rfl) [(0, .ref (gAD G r))] rfl ?_
  intro p e s m args below meth c C hr h
  have h : (∃ n1, wX3_roundsTogether_4 r Q n1 (1 : Int32) (0 : Int32) M) := h
  refine wl_iconst (v := 1) C dX3_roundsTogether_0 (by decide) ?_
  refine wl_istore_n (i := 1) (lv' := [(1, .int (1 : Int32)), (0, .ref (gAD G r))]) C dX3_roundsTogether_1 rfl (by decide) rfl ?_
  refine wl_iconst (v := 0) C dX3_roundsTogether_2 (by decide) ?_
  refine wl_istore_n (i := 2) (lv' := [(2, .int (0 : Int32)), (1, .int (1 : Int32)), (0, .ref (gAD G r))]) C dX3_roundsTogether_3 rfl (by decide) rfl ?_
  refine wl_sub [2, 1, 0] rfl ?_
  obtain ⟨n1, h⟩ := h
  exact kX3_roundsTogether_4 l G hg hA r hkr C hr n1 (1 : Int32) (0 : Int32) M h
set_option maxRecDepth 100000 in
set_option maxHeartbeats 4000000 in
theorem cX6_tellNothing_M (l : Launch) (G : gP) (hg : gIn G) (hA : gCl G) (r : Nat) (hkr : kd r = 6) (M : Mem) (Q : Mem → Prop) : Met l yX6_tellNothing (Cond.code yX6_tellNothing cX6_tellNothing 1 none :: TB) rmX6_tellNothing (va_Pc [.ref (gAD G r)] (fun U => gS G M U ∧ wX6_tellNothing r M Q)) (va_Qv Q (gB G) (gA G)) 0 0 (gA G) := by
  refine gMet (by decide +kernel) (show _ = Cond.code yX6_tellNothing cX6_tellNothing 1 none from rfl) hg (Nat.le_of_ble_eq_true rfl) [(0, .ref (gAD G r))] rfl ?_
  intro p e s m args below meth c C hr h
  have h : Q (mu (mu (mu (mu (mu (mu M r 0 (10 : Int32)) r 1 (9 : Int32)) r 2 (0 : Int32)) r 3 (2 : Int32)) r 6 (0 : Int32)) r 8 (0 : Int32)) := h
  refine wl_aload_n C dX6_tellNothing_0 0 rfl ?_
  refine wl_bipush (v := 10) C dX6_tellNothing_1 (by decide) ?_
  refine gp_6_0 C hkr (gic_6 hA hkr) tw_50 dX6_tellNothing_3 ?_
  refine wl_aload_n C dX6_tellNothing_6 0 rfl ?_
  refine wl_bipush (v := 9) C dX6_tellNothing_7 (by decide) ?_
  refine gp_6_1 C hkr (gic_6 hA hkr) tw_51 dX6_tellNothing_9 ?_
  refine wl_aload_n C dX6_tellNothing_12 0 rfl ?_
  refine wl_iconst (v := 0) C dX6_tellNothing_13 (by decide) ?_
  refine gp_6_2 C hkr (gic_6 hA hkr) tw_52 dX6_tellNothing_14 ?_
  refine wl_aload_n C dX6_tellNothing_17 0 rfl ?_
  refine wl_iconst (v := 2) C dX6_tellNothing_18 (by decide) ?_
  refine gp_6_3 C hkr (gic_6 hA hkr) tw_53 dX6_tellNothing_19 ?_
  refine wl_aload_n C dX6_tellNothing_22 0 rfl ?_
  refine wl_iconst (v := 0) C dX6_tellNothing_23 (by decide) ?_
  refine gp_6_6 C hkr (gic_6 hA hkr) tw_56 dX6_tellNothing_24 ?_
  refine wl_aload_n C dX6_tellNothing_27 0 rfl ?_
  refine wl_iconst (v := 0) C dX6_tellNothing_28 (by decide) ?_
  refine gp_6_8 C hkr (gic_6 hA hkr) tw_58 dX6_tellNothing_29 ?_
  exact wl_vret C hr h dX6_tellNothing_32
set_option maxRecDepth 100000 in
set_option maxHeartbeats 4000000 in
theorem cX6_numbersWanted_M (l : Launch) (G : gP) (hg : gIn G) (hA : gCl G) (x0 : Int32) (M : Mem) (Q : Int32 → Mem → Prop) : Met l yX6_numbersWanted (Cond.code yX6_numbersWanted cX6_numbersWanted 1 (some (Jvm.ClassFile.FieldType.int)) :: TB) rmX6_numbersWanted (va_Pc [.int x0] (fun U => gS G M U ∧ wX6_numbersWanted x0 M Q)) (va_Qi Q (gB G) (gA G)) 0 0 (gA G) := by
  refine gMet (by decide +kernel) (show _ = Cond.code yX6_numbersWanted cX6_numbersWanted 1 (some (Jvm.ClassFile.FieldType.int)) from rfl) hg (Nat.le_of_ble_eq_true rfl) [(0, .int x0)] rfl ?_
  intro p e s m args below meth c C hr h
  have h : ((x0 = (108 : Int32) → Q (2 : Int32) M) ∧ (¬ x0 = (108 : Int32) → ((x0 = (109 : Int32) → Q (0 : Int32) M) ∧ (¬ x0 = (109 : Int32) → ((x0 = (110 : Int32) → Q (1 : Int32) M) ∧ (¬ x0 = (110 : Int32) → ((x0 = (111 : Int32) → Q (0 : Int32) M) ∧ (¬ x0 = (111 : Int32) → ((x0 = (112 : Int32) → Q (0 : Int32) M) ∧ (¬ x0 = (112 : Int32) → ((x0 = (113 : Int32) → Q (0 : Int32) M) ∧ (¬ x0 = (113 : Int32) → ((x0 = (114 : Int32) → Q (1 : Int32) M) ∧ (¬ x0 = (114 : Int32) → ((x0 = (115 : Int32) → Q (2 : Int32) M) ∧ (¬ x0 = (115 : Int32) → ((x0 = (116 : Int32) → Q (1 : Int32) M) ∧ (¬ x0 = (116 : Int32) → Q (0 : Int32) M)))))))))))))))))) := h
  refine wl_iload_n C dX6_numbersWanted_0 0 rfl ?_
  by_cases ht0 : x0 = (108 : Int32)
  · have h := h.1 ht0
    refine wl_tabIn C (tgt := 54) (108 : Int32) ht0 dX6_numbersWanted_1 (by decide) (by decide) rfl (by decide) ?_
    refine wl_iconst (v := 2) C dX6_numbersWanted_54 (by decide) ?_
    exact wl_iret C hr h dX6_numbersWanted_55
  · have h := h.2 ht0
    by_cases ht1 : x0 = (109 : Int32)
    · have h := h.1 ht1
      refine wl_tabIn C (tgt := 56) (109 : Int32) ht1 dX6_numbersWanted_1 (by decide) (by decide) rfl (by decide) ?_
      refine wl_iconst (v := 0) C dX6_numbersWanted_56 (by decide) ?_
      exact wl_iret C hr h dX6_numbersWanted_57
    · have h := h.2 ht1
      by_cases ht2 : x0 = (110 : Int32)
      · have h := h.1 ht2
        refine wl_tabIn C (tgt := 52) (110 : Int32) ht2 dX6_numbersWanted_1 (by decide) (by decide) rfl (by decide) ?_
        refine wl_iconst (v := 1) C dX6_numbersWanted_52 (by decide) ?_
        exact wl_iret C hr h dX6_numbersWanted_53
      · have h := h.2 ht2
        by_cases ht3 : x0 = (111 : Int32)
        · have h := h.1 ht3
          refine wl_tabIn C (tgt := 56) (111 : Int32) ht3 dX6_numbersWanted_1 (by decide) (by decide) rfl (by decide) ?_
          refine wl_iconst (v := 0) C dX6_numbersWanted_56 (by decide) ?_
          exact wl_iret C hr h dX6_numbersWanted_57
        · have h := h.2 ht3
          by_cases ht4 : x0 = (112 : Int32)
          · have h := h.1 ht4
            refine wl_tabIn C (tgt := 56) (112 : Int32) ht4 dX6_numbersWanted_1 (by decide) (by decide) rfl (by decide) ?_
            refine wl_iconst (v := 0) C dX6_numbersWanted_56 (by decide) ?_
            exact wl_iret C hr h dX6_numbersWanted_57
          · have h := h.2 ht4
            by_cases ht5 : x0 = (113 : Int32)
            · have h := h.1 ht5
              refine wl_tabIn C (tgt := 56) (113 : Int32) ht5 dX6_numbersWanted_1 (by decide) (by decide) rfl (by decide) ?_
              refine wl_iconst (v := 0) C dX6_numbersWanted_56 (by decide) ?_
              exact wl_iret C hr h dX6_numbersWanted_57
            · have h := h.2 ht5
              by_cases ht6 : x0 = (114 : Int32)
              · have h := h.1 ht6
                refine wl_tabIn C (tgt := 52) (114 : Int32) ht6 dX6_numbersWanted_1 (by decide) (by decide) rfl (by decide) ?_
                refine wl_iconst (v := 1) C dX6_numbersWanted_52 (by decide) ?_
                exact wl_iret C hr h dX6_numbersWanted_53
              · have h := h.2 ht6
                by_cases ht7 : x0 = (115 : Int32)
                · have h := h.1 ht7
                  refine wl_tabIn C (tgt := 54) (115 : Int32) ht7 dX6_numbersWanted_1 (by decide) (by decide) rfl (by decide) ?_
                  refine wl_iconst (v := 2) C dX6_numbersWanted_54 (by decide) ?_
                  exact wl_iret C hr h dX6_numbersWanted_55
                · have h := h.2 ht7
                  by_cases ht8 : x0 = (116 : Int32)
                  · have h := h.1 ht8
                    refine wl_tabIn C (tgt := 52) (116 : Int32) ht8 dX6_numbersWanted_1 (by decide) (by decide) rfl (by decide) ?_
                    refine wl_iconst (v := 1) C dX6_numbersWanted_52 (by decide) ?_
                    exact wl_iret C hr h dX6_numbersWanted_53
                  · have h := h.2 ht8
                    refine wl_tabOut C (tgt := 56) dX6_numbersWanted_1 (by have qht0 := tb_ne ht0 (show Int32.toInt 108 = 108 from rfl); have qht1 := tb_ne ht1 (show Int32.toInt 109 = 109 from rfl); have qht2 := tb_ne ht2 (show Int32.toInt 110 = 110 from rfl); have qht3 := tb_ne ht3 (show Int32.toInt 111 = 111 from rfl); have qht4 := tb_ne ht4 (show Int32.toInt 112 = 112 from rfl); have qht5 := tb_ne ht5 (show Int32.toInt 113 = 113 from rfl); have qht6 := tb_ne ht6 (show Int32.toInt 114 = 114 from rfl); have qht7 := tb_ne ht7 (show Int32.toInt 115 = 115 from rfl); have qht8 := tb_ne ht8 (show Int32.toInt 116 = 116 from rfl); omega) (by decide) ?_
                    refine wl_iconst (v := 0) C dX6_numbersWanted_56 (by decide) ?_
                    exact wl_iret C hr h dX6_numbersWanted_57
set_option maxRecDepth 100000 in
set_option maxHeartbeats 4000000 in
theorem cX6_takeLeafCount_M (l : Launch) (G : gP) (hg : gIn G) (hA : gCl G) (r : Nat) (x1 : Int32) (hkr : kd r = 6) (M : Mem) (Q : Int32 → Mem → Prop) : Met l yX6_takeLeafCount (Cond.code yX6_takeLeafCount cX6_takeLeafCount 2 (some (Jvm.ClassFile.FieldType.boolean)) :: TB) rmX6_takeLeafCount (va_Pc [.ref (gAD G r), .int x1] (fun U => gS G M U ∧ wX6_takeLeafCount r x1 M Q)) (va_Qi Q (gB G) (gA G)) 0 0 (gA G) := by
  refine gMet (by decide +kernel) (show _ = Cond.code yX6_takeLeafCount cX6_takeLeafCount 2 (some (Jvm.ClassFile.FieldType.boolean)) from rfl) hg (Nat.le_of_ble_eq_true rfl) [(0, .ref (gAD G r)), (1, .int x1)] rfl ?_
  intro p e s m args below meth c C hr h
  have h : (wX7_within x1 (2 : Int32) (40 : Int32) (mu M r 0 x1) (fun r2 M1 => ((r2 = 0 ∨ r2 = 1) ∧ Q r2 M1))) := h
  refine wl_aload_n C dX6_takeLeafCount_0 0 rfl ?_
  refine wl_iload_n C dX6_takeLeafCount_1 1 rfl ?_
  refine gp_6_0 C hkr (gic_6 hA hkr) tw_50 dX6_takeLeafCount_2 ?_
  refine wl_iload_n C dX6_takeLeafCount_5 1 rfl ?_
  refine wl_iconst (v := 2) C dX6_takeLeafCount_6 (by decide) ?_
  refine wl_bipush (v := 40) C dX6_takeLeafCount_7 (by decide) ?_
  refine wl_callNi C (cX7_within_M l G hg hA x1 (2 : Int32) (40 : Int32) (mu M r 0 x1) _) h (List.mem_of_getElem? (i := 8) rfl) tw_251 tw_1 tw_250 hd_X7_within ⟨rfl, rfl⟩ ⟨by decide, by decide⟩ (As := [.int x1, .int (2 : Int32), .int (40 : Int32)]) (rest := []) rfl (Nat.le_of_ble_eq_true rfl) ⟨Nat.zero_le _, Nat.zero_le _⟩ rfl dX6_takeLeafCount_9 (fun r2 M1 h => ?_)
  exact wl_zret C hr h.1 h.2 dX6_takeLeafCount_12
set_option maxRecDepth 100000 in
set_option maxHeartbeats 4000000 in
theorem cX6_takePerReader_M (l : Launch) (G : gP) (hg : gIn G) (hA : gCl G) (r : Nat) (x1 : Int32) (hkr : kd r = 6) (M : Mem) (Q : Int32 → Mem → Prop) : Met l yX6_takePerReader (Cond.code yX6_takePerReader cX6_takePerReader 2 (some (Jvm.ClassFile.FieldType.boolean)) :: TB) rmX6_takePerReader (va_Pc [.ref (gAD G r), .int x1] (fun U => gS G M U ∧ wX6_takePerReader r x1 M Q)) (va_Qi Q (gB G) (gA G)) 0 0 (gA G) := by
  refine gMet (by decide +kernel) (show _ = Cond.code yX6_takePerReader cX6_takePerReader 2 (some (Jvm.ClassFile.FieldType.boolean)) from rfl) hg (Nat.le_of_ble_eq_true rfl) [(0, .ref (gAD G r)), (1, .int x1)] rfl ?_
  intro p e s m args below meth c C hr h
  have h : (wX7_within x1 (1 : Int32) (40 : Int32) (mu M r 1 x1) (fun r2 M1 => ((r2 = 0 ∨ r2 = 1) ∧ Q r2 M1))) := h
  refine wl_aload_n C dX6_takePerReader_0 0 rfl ?_
  refine wl_iload_n C dX6_takePerReader_1 1 rfl ?_
  refine gp_6_1 C hkr (gic_6 hA hkr) tw_51 dX6_takePerReader_2 ?_
  refine wl_iload_n C dX6_takePerReader_5 1 rfl ?_
  refine wl_iconst (v := 1) C dX6_takePerReader_6 (by decide) ?_
  refine wl_bipush (v := 40) C dX6_takePerReader_7 (by decide) ?_
  refine wl_callNi C (cX7_within_M l G hg hA x1 (1 : Int32) (40 : Int32) (mu M r 1 x1) _) h (List.mem_of_getElem? (i := 8) rfl) tw_251 tw_1 tw_250 hd_X7_within ⟨rfl, rfl⟩ ⟨by decide, by decide⟩ (As := [.int x1, .int (1 : Int32), .int (40 : Int32)]) (rest := []) rfl (Nat.le_of_ble_eq_true rfl) ⟨Nat.zero_le _, Nat.zero_le _⟩ rfl dX6_takePerReader_9 (fun r2 M1 h => ?_)
  exact wl_zret C hr h.1 h.2 dX6_takePerReader_12
set_option maxRecDepth 100000 in
set_option maxHeartbeats 4000000 in
theorem kX6_takeLaw_34 (l : Launch) (G : gP) (hg : gIn G) (hA : gCl G) (r : Nat) (x1 : Int32) (x2 : Int32) (hkr : kd r = 6) {p : Program} {e : Env} {s : State} {m : MethodId} {args : Array Value} {below : List Frame} {meth : Method} {c : Code} (C : Cx p s m args meth c G (gA G) cX6_takeLaw 3 RX6) (hr : meth.sig.returnType = (some (Jvm.ClassFile.FieldType.boolean))) {Q : Int32 → Mem → Prop} (s0 : Int32) (M : Mem) (h : wX6_takeLaw_34 r x1 x2 Q s0 M) : Wl p l e rmX6_takeLaw s m args below meth c (MQ below (va_Qi Q (gB G) (gA G)) args s 0 0 (gA G)) G (gA G) 3 0 0 M 34 [] [.int s0] := by
  have h : ((s0 = 0 ∨ s0 = 1) ∧ Q s0 M) := h
  exact wl_zret C hr h.1 h.2 dX6_takeLaw_34
set_option maxRecDepth 100000 in
set_option maxHeartbeats 4000000 in
theorem kX6_takeLaw_33 (l : Launch) (G : gP) (hg : gIn G) (hA : gCl G) (r : Nat) (x1 : Int32) (x2 : Int32) (hkr : kd r = 6) {p : Program} {e : Env} {s : State} {m : MethodId} {args : Array Value} {below : List Frame} {meth : Method} {c : Code} (C : Cx p s m args meth c G (gA G) cX6_takeLaw 3 RX6) (hr : meth.sig.returnType = (some (Jvm.ClassFile.FieldType.boolean))) {Q : Int32 → Mem → Prop} (M : Mem) (h : wX6_takeLaw_33 r x1 x2 Q M) : Wl p l e rmX6_takeLaw s m args below meth c (MQ below (va_Qi Q (gB G) (gA G)) args s 0 0 (gA G)) G (gA G) 3 0 0 M 33 [] [] := by
  have h : wX6_takeLaw_34 r x1 x2 Q (0 : Int32) M := h
  refine wl_iconst (v := 0) C dX6_takeLaw_33 (by decide) ?_
  refine wl_sub [] rfl ?_
  exact kX6_takeLaw_34 l G hg hA r x1 x2 hkr C hr (0 : Int32) M h
set_option maxRecDepth 100000 in
set_option maxHeartbeats 4000000 in
theorem cX6_takeLaw_M (l : Launch) (G : gP) (hg : gIn G) (hA : gCl G) (r : Nat) (x1 : Int32) (x2 : Int32) (hkr : kd r = 6) (M : Mem) (Q : Int32 → Mem → Prop) : Met l yX6_takeLaw (Cond.code yX6_takeLaw cX6_takeLaw 3 (some (Jvm.ClassFile.FieldType.boolean)) :: TB) rmX6_takeLaw (va_Pc [.ref (gAD G r), .int x1, .int x2] (fun U => gS G M U ∧ wX6_takeLaw r x1 x2 M Q)) (va_Qi Q (gB G) (gA G)) 0 0 (gA G) := by
  refine gMet (by decide +kernel) (show _ = Cond.code yX6_takeLaw cX6_takeLaw 3 (some (Jvm.ClassFile.FieldType.boolean)) from rfl) hg (Nat.le_of_ble_eq_true rfl) [(0, .ref (gAD G r)), (1, .int x1), (2, .int x2)] rfl ?_
  intro p e s m args below meth c C hr h
  have h : (wX7_within x1 (0 : Int32) (3 : Int32) (mu (mu M r 2 x1) r 3 x2) (fun r2 M1 => ((r2 = 0 → wX6_takeLaw_33 r x1 x2 Q M1) ∧ (¬ r2 = 0 → (wX7_within x2 (0 : Int32) (39 : Int32) M1 (fun r4 M3 => ((r4 = 0 → wX6_takeLaw_33 r x1 x2 Q M3) ∧ (¬ r4 = 0 → wX6_takeLaw_34 r x1 x2 Q (1 : Int32) M3)))))))) := h
  refine wl_aload_n C dX6_takeLaw_0 0 rfl ?_
  refine wl_iload_n C dX6_takeLaw_1 1 rfl ?_
  refine gp_6_2 C hkr (gic_6 hA hkr) tw_52 dX6_takeLaw_2 ?_
  refine wl_aload_n C dX6_takeLaw_5 0 rfl ?_
  refine wl_iload_n C dX6_takeLaw_6 2 rfl ?_
  refine gp_6_3 C hkr (gic_6 hA hkr) tw_53 dX6_takeLaw_7 ?_
  refine wl_iload_n C dX6_takeLaw_10 1 rfl ?_
  refine wl_iconst (v := 0) C dX6_takeLaw_11 (by decide) ?_
  refine wl_iconst (v := 3) C dX6_takeLaw_12 (by decide) ?_
  refine wl_callNi C (cX7_within_M l G hg hA x1 (0 : Int32) (3 : Int32) (mu (mu M r 2 x1) r 3 x2) _) h (List.mem_of_getElem? (i := 8) rfl) tw_251 tw_1 tw_250 hd_X7_within ⟨rfl, rfl⟩ ⟨by decide, by decide⟩ (As := [.int x1, .int (0 : Int32), .int (3 : Int32)]) (rest := []) rfl (Nat.le_of_ble_eq_true rfl) ⟨Nat.zero_le _, Nat.zero_le _⟩ rfl dX6_takeLaw_13 (fun r2 M1 h => ?_)
  refine wl_if_eq C (tgt := 33) dX6_takeLaw_16 (by decide) (fun hc => ?_) (fun hc => ?_)
  · have h := h.1 hc
    refine wl_sub [] rfl ?_
    exact kX6_takeLaw_33 l G hg hA r x1 x2 hkr C hr M1 h
  · have h := h.2 hc
    refine wl_iload_n C dX6_takeLaw_19 2 rfl ?_
    refine wl_iconst (v := 0) C dX6_takeLaw_20 (by decide) ?_
    refine wl_bipush (v := 39) C dX6_takeLaw_21 (by decide) ?_
    refine wl_callNi C (cX7_within_M l G hg hA x2 (0 : Int32) (39 : Int32) M1 _) h (List.mem_of_getElem? (i := 8) rfl) tw_251 tw_1 tw_250 hd_X7_within ⟨rfl, rfl⟩ ⟨by decide, by decide⟩ (As := [.int x2, .int (0 : Int32), .int (39 : Int32)]) (rest := []) rfl (Nat.le_of_ble_eq_true rfl) ⟨Nat.zero_le _, Nat.zero_le _⟩ rfl dX6_takeLaw_23 (fun r4 M3 h => ?_)
    refine wl_if_eq C (tgt := 33) dX6_takeLaw_26 (by decide) (fun hc => ?_) (fun hc => ?_)
    · have h := h.1 hc
      refine wl_sub [] rfl ?_
      exact kX6_takeLaw_33 l G hg hA r x1 x2 hkr C hr M3 h
    · have h := h.2 hc
      refine wl_iconst (v := 1) C dX6_takeLaw_29 (by decide) ?_
      refine wl_goto C (tgt := 34) dX6_takeLaw_30 (by decide) ?_
      refine wl_sub [] rfl ?_
      exact kX6_takeLaw_34 l G hg hA r x1 x2 hkr C hr (1 : Int32) M3 h
set_option maxRecDepth 100000 in
set_option maxHeartbeats 4000000 in
theorem kX6_takeSwap_70 (l : Launch) (G : gP) (hg : gIn G) (hA : gCl G) (r : Nat) (x1 : Int32) (x2 : Int32) (hkr : kd r = 6) {p : Program} {e : Env} {s : State} {m : MethodId} {args : Array Value} {below : List Frame} {meth : Method} {c : Code} (C : Cx p s m args meth c G (gA G) cX6_takeSwap 3 RX6) (hr : meth.sig.returnType = (some (Jvm.ClassFile.FieldType.boolean))) {Q : Int32 → Mem → Prop} (s0 : Int32) (M : Mem) (h : wX6_takeSwap_70 r x1 x2 Q s0 M) : Wl p l e rmX6_takeSwap s m args below meth c (MQ below (va_Qi Q (gB G) (gA G)) args s 0 0 (gA G)) G (gA G) 3 0 0 M 70 [] [.int s0] := by
  have h : ((s0 = 0 ∨ s0 = 1) ∧ Q s0 M) := h
  exact wl_zret C hr h.1 h.2 dX6_takeSwap_70
set_option maxRecDepth 100000 in
set_option maxHeartbeats 4000000 in
theorem kX6_takeSwap_69 (l : Launch) (G : gP) (hg : gIn G) (hA : gCl G) (r : Nat) (x1 : Int32) (x2 : Int32) (hkr : kd r = 6) {p : Program} {e : Env} {s : State} {m : MethodId} {args : Array Value} {below : List Frame} {meth : Method} {c : Code} (C : Cx p s m args meth c G (gA G) cX6_takeSwap 3 RX6) (hr : meth.sig.returnType = (some (Jvm.ClassFile.FieldType.boolean))) {Q : Int32 → Mem → Prop} (M : Mem) (h : wX6_takeSwap_69 r x1 x2 Q M) : Wl p l e rmX6_takeSwap s m args below meth c (MQ below (va_Qi Q (gB G) (gA G)) args s 0 0 (gA G)) G (gA G) 3 0 0 M 69 [] [] := by
  have h : wX6_takeSwap_70 r x1 x2 Q (0 : Int32) M := h
  refine wl_iconst (v := 0) C dX6_takeSwap_69 (by decide) ?_
  refine wl_sub [] rfl ?_
  exact kX6_takeSwap_70 l G hg hA r x1 x2 hkr C hr (0 : Int32) M h
set_option maxRecDepth 100000 in
set_option maxHeartbeats 4000000 in
theorem cX6_takeSwap_M (l : Launch) (G : gP) (hg : gIn G) (hA : gCl G) (r : Nat) (x1 : Int32) (x2 : Int32) (hkr : kd r = 6) (M : Mem) (Q : Int32 → Mem → Prop) : Met l yX6_takeSwap (Cond.code yX6_takeSwap cX6_takeSwap 3 (some (Jvm.ClassFile.FieldType.boolean)) :: TB) rmX6_takeSwap (va_Pc [.ref (gAD G r), .int x1, .int x2] (fun U => gS G M U ∧ wX6_takeSwap r x1 x2 M Q)) (va_Qi Q (gB G) (gA G)) 0 0 (gA G) := by
  refine gMet (by decide +kernel) (show _ = Cond.code yX6_takeSwap cX6_takeSwap 3 (some (Jvm.ClassFile.FieldType.boolean)) from rfl) hg (Nat.le_of_ble_eq_true rfl) [(0, .ref (gAD G r)), (1, .int x1), (2, .int x2)] rfl ?_
  intro p e s m args below meth c C hr h
  have h : (((M r 6) < (20 : Int32) → (wX4_put (r + 1) (M r 6) x1 M (fun M1 => (wX4_put (r + 3) (M1 r 6) x2 M1 (fun M2 => (wX7_within x1 (0 : Int32) (39 : Int32) (mu M2 r 6 ((M2 r 6) + (1 : Int32))) (fun r4 M3 => ((r4 = 0 → wX6_takeSwap_69 r x1 x2 Q M3) ∧ (¬ r4 = 0 → (wX7_within x2 (0 : Int32) (39 : Int32) M3 (fun r6 M5 => ((r6 = 0 → wX6_takeSwap_69 r x1 x2 Q M5) ∧ (¬ r6 = 0 → wX6_takeSwap_70 r x1 x2 Q (1 : Int32) M5))))))))))))) ∧ (¬ (M r 6) < (20 : Int32) → (((0 : Int32) = 0 ∨ (0 : Int32) = 1) ∧ Q (0 : Int32) M))) := h
  refine wl_aload_n C dX6_takeSwap_0 0 rfl ?_
  refine gf_6_6 C hkr (gic_6 hA hkr) tw_56 dX6_takeSwap_1 ?_
  refine wl_bipush (v := 20) C dX6_takeSwap_4 (by decide) ?_
  refine wl_icmp_lt C (tgt := 11) dX6_takeSwap_6 (by decide) (fun hc => ?_) (fun hc => ?_)
  · have h := h.1 hc
    refine wl_aload_n C dX6_takeSwap_11 0 rfl ?_
    refine gf_6_4 C hkr (gic_6 hA hkr) tw_54 dX6_takeSwap_12 ?_
    refine wl_aload_n C dX6_takeSwap_15 0 rfl ?_
    refine gf_6_6 C hkr (gic_6 hA hkr) tw_56 dX6_takeSwap_16 ?_
    refine wl_iload_n C dX6_takeSwap_19 1 rfl ?_
    refine wl_callVv C (cX4_put_M l G hg hA (r + 1) (M r 6) x1 (kx_6_1 hkr) M _) h cw_RX6_75 hd_X4_put ⟨rfl, rfl⟩ ⟨by decide, by decide⟩ (gic_4 hA (kx_6_1 hkr)) (gc_k (kx_6_1 hkr)) rfl (As := [.int (M r 6), .int x1]) (rest := []) rfl (Nat.le_of_ble_eq_true rfl) ⟨Nat.zero_le _, Nat.zero_le _⟩ rfl dX6_takeSwap_20 (fun M1 h => ?_)
    refine wl_aload_n C dX6_takeSwap_23 0 rfl ?_
    refine gf_6_5 C hkr (gic_6 hA hkr) tw_55 dX6_takeSwap_24 ?_
    refine wl_aload_n C dX6_takeSwap_27 0 rfl ?_
    refine gf_6_6 C hkr (gic_6 hA hkr) tw_56 dX6_takeSwap_28 ?_
    refine wl_iload_n C dX6_takeSwap_31 2 rfl ?_
    refine wl_callVv C (cX4_put_M l G hg hA (r + 3) (M1 r 6) x2 (kx_6_3 hkr) M1 _) h cw_RX6_75 hd_X4_put ⟨rfl, rfl⟩ ⟨by decide, by decide⟩ (gic_4 hA (kx_6_3 hkr)) (gc_k (kx_6_3 hkr)) rfl (As := [.int (M1 r 6), .int x2]) (rest := []) rfl (Nat.le_of_ble_eq_true rfl) ⟨Nat.zero_le _, Nat.zero_le _⟩ rfl dX6_takeSwap_32 (fun M2 h => ?_)
    refine wl_aload_n C dX6_takeSwap_35 0 rfl ?_
    refine wl_dup C dX6_takeSwap_36 rfl ?_
    refine gf_6_6 C hkr (gic_6 hA hkr) tw_56 dX6_takeSwap_37 ?_
    refine wl_iconst (v := 1) C dX6_takeSwap_40 (by decide) ?_
    refine wl_iadd C dX6_takeSwap_41 ?_
    refine gp_6_6 C hkr (gic_6 hA hkr) tw_56 dX6_takeSwap_42 ?_
    refine wl_iload_n C dX6_takeSwap_45 1 rfl ?_
    refine wl_iconst (v := 0) C dX6_takeSwap_46 (by decide) ?_
    refine wl_bipush (v := 39) C dX6_takeSwap_47 (by decide) ?_
    refine wl_callNi C (cX7_within_M l G hg hA x1 (0 : Int32) (39 : Int32) (mu M2 r 6 ((M2 r 6) + (1 : Int32))) _) h (List.mem_of_getElem? (i := 8) rfl) tw_251 tw_1 tw_250 hd_X7_within ⟨rfl, rfl⟩ ⟨by decide, by decide⟩ (As := [.int x1, .int (0 : Int32), .int (39 : Int32)]) (rest := []) rfl (Nat.le_of_ble_eq_true rfl) ⟨Nat.zero_le _, Nat.zero_le _⟩ rfl dX6_takeSwap_49 (fun r4 M3 h => ?_)
    refine wl_if_eq C (tgt := 69) dX6_takeSwap_52 (by decide) (fun hc => ?_) (fun hc => ?_)
    · have h := h.1 hc
      refine wl_sub [] rfl ?_
      exact kX6_takeSwap_69 l G hg hA r x1 x2 hkr C hr M3 h
    · have h := h.2 hc
      refine wl_iload_n C dX6_takeSwap_55 2 rfl ?_
      refine wl_iconst (v := 0) C dX6_takeSwap_56 (by decide) ?_
      refine wl_bipush (v := 39) C dX6_takeSwap_57 (by decide) ?_
      refine wl_callNi C (cX7_within_M l G hg hA x2 (0 : Int32) (39 : Int32) M3 _) h (List.mem_of_getElem? (i := 8) rfl) tw_251 tw_1 tw_250 hd_X7_within ⟨rfl, rfl⟩ ⟨by decide, by decide⟩ (As := [.int x2, .int (0 : Int32), .int (39 : Int32)]) (rest := []) rfl (Nat.le_of_ble_eq_true rfl) ⟨Nat.zero_le _, Nat.zero_le _⟩ rfl dX6_takeSwap_59 (fun r6 M5 h => ?_)
      refine wl_if_eq C (tgt := 69) dX6_takeSwap_62 (by decide) (fun hc => ?_) (fun hc => ?_)
      · have h := h.1 hc
        refine wl_sub [] rfl ?_
        exact kX6_takeSwap_69 l G hg hA r x1 x2 hkr C hr M5 h
      · have h := h.2 hc
        refine wl_iconst (v := 1) C dX6_takeSwap_65 (by decide) ?_
        refine wl_goto C (tgt := 70) dX6_takeSwap_66 (by decide) ?_
        refine wl_sub [] rfl ?_
        exact kX6_takeSwap_70 l G hg hA r x1 x2 hkr C hr (1 : Int32) M5 h
  · have h := h.2 hc
    refine wl_iconst (v := 0) C dX6_takeSwap_9 (by decide) ?_
    exact wl_zret C hr h.1 h.2 dX6_takeSwap_10
set_option maxRecDepth 100000 in
set_option maxHeartbeats 4000000 in
theorem cX6_takeTaleLeaf_M (l : Launch) (G : gP) (hg : gIn G) (hA : gCl G) (r : Nat) (x1 : Int32) (hkr : kd r = 6) (M : Mem) (Q : Int32 → Mem → Prop) : Met l yX6_takeTaleLeaf (Cond.code yX6_takeTaleLeaf cX6_takeTaleLeaf 2 (some (Jvm.ClassFile.FieldType.boolean)) :: TB) rmX6_takeTaleLeaf (va_Pc [.ref (gAD G r), .int x1] (fun U => gS G M U ∧ wX6_takeTaleLeaf r x1 M Q)) (va_Qi Q (gB G) (gA G)) 0 0 (gA G) := by
  refine gMet (by decide +kernel) (show _ = Cond.code yX6_takeTaleLeaf cX6_takeTaleLeaf 2 (some (Jvm.ClassFile.FieldType.boolean)) from rfl) hg (Nat.le_of_ble_eq_true rfl) [(0, .ref (gAD G r)), (1, .int x1)] rfl ?_
  intro p e s m args below meth c C hr h
  have h : (((M r 8) < (20 : Int32) → (wX4_put (r + 5) (M r 8) x1 M (fun M1 => (wX7_within x1 (0 : Int32) (39 : Int32) (mu M1 r 8 ((M1 r 8) + (1 : Int32))) (fun r3 M2 => ((r3 = 0 ∨ r3 = 1) ∧ Q r3 M2)))))) ∧ (¬ (M r 8) < (20 : Int32) → (((0 : Int32) = 0 ∨ (0 : Int32) = 1) ∧ Q (0 : Int32) M))) := h
  refine wl_aload_n C dX6_takeTaleLeaf_0 0 rfl ?_
  refine gf_6_8 C hkr (gic_6 hA hkr) tw_58 dX6_takeTaleLeaf_1 ?_
  refine wl_bipush (v := 20) C dX6_takeTaleLeaf_4 (by decide) ?_
  refine wl_icmp_lt C (tgt := 11) dX6_takeTaleLeaf_6 (by decide) (fun hc => ?_) (fun hc => ?_)
  · have h := h.1 hc
    refine wl_aload_n C dX6_takeTaleLeaf_11 0 rfl ?_
    refine gf_6_7 C hkr (gic_6 hA hkr) tw_57 dX6_takeTaleLeaf_12 ?_
    refine wl_aload_n C dX6_takeTaleLeaf_15 0 rfl ?_
    refine gf_6_8 C hkr (gic_6 hA hkr) tw_58 dX6_takeTaleLeaf_16 ?_
    refine wl_iload_n C dX6_takeTaleLeaf_19 1 rfl ?_
    refine wl_callVv C (cX4_put_M l G hg hA (r + 5) (M r 8) x1 (kx_6_5 hkr) M _) h cw_RX6_75 hd_X4_put ⟨rfl, rfl⟩ ⟨by decide, by decide⟩ (gic_4 hA (kx_6_5 hkr)) (gc_k (kx_6_5 hkr)) rfl (As := [.int (M r 8), .int x1]) (rest := []) rfl (Nat.le_of_ble_eq_true rfl) ⟨Nat.zero_le _, Nat.zero_le _⟩ rfl dX6_takeTaleLeaf_20 (fun M1 h => ?_)
    refine wl_aload_n C dX6_takeTaleLeaf_23 0 rfl ?_
    refine wl_dup C dX6_takeTaleLeaf_24 rfl ?_
    refine gf_6_8 C hkr (gic_6 hA hkr) tw_58 dX6_takeTaleLeaf_25 ?_
    refine wl_iconst (v := 1) C dX6_takeTaleLeaf_28 (by decide) ?_
    refine wl_iadd C dX6_takeTaleLeaf_29 ?_
    refine gp_6_8 C hkr (gic_6 hA hkr) tw_58 dX6_takeTaleLeaf_30 ?_
    refine wl_iload_n C dX6_takeTaleLeaf_33 1 rfl ?_
    refine wl_iconst (v := 0) C dX6_takeTaleLeaf_34 (by decide) ?_
    refine wl_bipush (v := 39) C dX6_takeTaleLeaf_35 (by decide) ?_
    refine wl_callNi C (cX7_within_M l G hg hA x1 (0 : Int32) (39 : Int32) (mu M1 r 8 ((M1 r 8) + (1 : Int32))) _) h (List.mem_of_getElem? (i := 8) rfl) tw_251 tw_1 tw_250 hd_X7_within ⟨rfl, rfl⟩ ⟨by decide, by decide⟩ (As := [.int x1, .int (0 : Int32), .int (39 : Int32)]) (rest := []) rfl (Nat.le_of_ble_eq_true rfl) ⟨Nat.zero_le _, Nat.zero_le _⟩ rfl dX6_takeTaleLeaf_37 (fun r3 M2 h => ?_)
    exact wl_zret C hr h.1 h.2 dX6_takeTaleLeaf_40
  · have h := h.2 hc
    refine wl_iconst (v := 0) C dX6_takeTaleLeaf_9 (by decide) ?_
    exact wl_zret C hr h.1 h.2 dX6_takeTaleLeaf_10
set_option maxRecDepth 100000 in
set_option maxHeartbeats 4000000 in
theorem cX6_takeIn_M (l : Launch) (G : gP) (hg : gIn G) (hA : gCl G) (r : Nat) (x1 : Int32) (x2 : Int32) (x3 : Int32) (hkr : kd r = 6) (M : Mem) (Q : Int32 → Mem → Prop) : Met l yX6_takeIn (Cond.code yX6_takeIn cX6_takeIn 4 (some (Jvm.ClassFile.FieldType.boolean)) :: TB) rmX6_takeIn (va_Pc [.ref (gAD G r), .int x1, .int x2, .int x3] (fun U => gS G M U ∧ wX6_takeIn r x1 x2 x3 M Q)) (va_Qi Q (gB G) (gA G)) 0 0 (gA G) := by
  refine gMet (by decide +kernel) (show _ = Cond.code yX6_takeIn cX6_takeIn 4 (some (Jvm.ClassFile.FieldType.boolean)) from rfl) hg (Nat.le_of_ble_eq_true rfl) [(0, .ref (gAD G r)), (1, .int x1), (2, .int x2), (3, .int x3)] rfl ?_
  intro p e s m args below meth c C hr h
  have h : ((x1 = (108 : Int32) → (wX6_takeLaw r x2 x3 M (fun r2 M1 => ((r2 = 0 ∨ r2 = 1) ∧ Q r2 M1)))) ∧ (¬ x1 = (108 : Int32) → ((x1 = (109 : Int32) → (((0 : Int32) = 0 ∨ (0 : Int32) = 1) ∧ Q (0 : Int32) M)) ∧ (¬ x1 = (109 : Int32) → ((x1 = (110 : Int32) → (wX6_takeLeafCount r x2 M (fun r4 M3 => ((r4 = 0 ∨ r4 = 1) ∧ Q r4 M3)))) ∧ (¬ x1 = (110 : Int32) → ((x1 = (111 : Int32) → (((0 : Int32) = 0 ∨ (0 : Int32) = 1) ∧ Q (0 : Int32) M)) ∧ (¬ x1 = (111 : Int32) → ((x1 = (112 : Int32) → (((0 : Int32) = 0 ∨ (0 : Int32) = 1) ∧ Q (0 : Int32) M)) ∧ (¬ x1 = (112 : Int32) → ((x1 = (113 : Int32) → (((0 : Int32) = 0 ∨ (0 : Int32) = 1) ∧ Q (0 : Int32) M)) ∧ (¬ x1 = (113 : Int32) → ((x1 = (114 : Int32) → (wX6_takePerReader r x2 M (fun r6 M5 => ((r6 = 0 ∨ r6 = 1) ∧ Q r6 M5)))) ∧ (¬ x1 = (114 : Int32) → ((x1 = (115 : Int32) → (wX6_takeSwap r x2 x3 M (fun r8 M7 => ((r8 = 0 ∨ r8 = 1) ∧ Q r8 M7)))) ∧ (¬ x1 = (115 : Int32) → ((x1 = (116 : Int32) → (wX6_takeTaleLeaf r x2 M (fun r10 M9 => ((r10 = 0 ∨ r10 = 1) ∧ Q r10 M9)))) ∧ (¬ x1 = (116 : Int32) → (((0 : Int32) = 0 ∨ (0 : Int32) = 1) ∧ Q (0 : Int32) M))))))))))))))))))) := h
  refine wl_iload_n C dX6_takeIn_0 1 rfl ?_
  by_cases ht0 : x1 = (108 : Int32)
  · have h := h.1 ht0
    refine wl_tabIn C (tgt := 64) (108 : Int32) ht0 dX6_takeIn_1 (by decide) (by decide) rfl (by decide) ?_
    refine wl_aload_n C dX6_takeIn_64 0 rfl ?_
    refine wl_iload_n C dX6_takeIn_65 2 rfl ?_
    refine wl_iload_n C dX6_takeIn_66 3 rfl ?_
    refine wl_callVi C (cX6_takeLaw_M l G hg hA r x2 x3 hkr M _) h cw_RX6_93 hd_X6_takeLaw ⟨rfl, rfl⟩ ⟨by decide, by decide⟩ (gic_6 hA hkr) (gc_k hkr) rfl (As := [.int x2, .int x3]) (rest := []) rfl (Nat.le_of_ble_eq_true rfl) ⟨Nat.zero_le _, Nat.zero_le _⟩ rfl dX6_takeIn_67 (fun r2 M1 h => ?_)
    exact wl_zret C hr h.1 h.2 dX6_takeIn_70
  · have h := h.2 ht0
    by_cases ht1 : x1 = (109 : Int32)
    · have h := h.1 ht1
      refine wl_tabIn C (tgt := 84) (109 : Int32) ht1 dX6_takeIn_1 (by decide) (by decide) rfl (by decide) ?_
      refine wl_iconst (v := 0) C dX6_takeIn_84 (by decide) ?_
      exact wl_zret C hr h.1 h.2 dX6_takeIn_85
    · have h := h.2 ht1
      by_cases ht2 : x1 = (110 : Int32)
      · have h := h.1 ht2
        refine wl_tabIn C (tgt := 52) (110 : Int32) ht2 dX6_takeIn_1 (by decide) (by decide) rfl (by decide) ?_
        refine wl_aload_n C dX6_takeIn_52 0 rfl ?_
        refine wl_iload_n C dX6_takeIn_53 2 rfl ?_
        refine wl_callVi C (cX6_takeLeafCount_M l G hg hA r x2 hkr M _) h cw_RX6_86 hd_X6_takeLeafCount ⟨rfl, rfl⟩ ⟨by decide, by decide⟩ (gic_6 hA hkr) (gc_k hkr) rfl (As := [.int x2]) (rest := []) rfl (Nat.le_of_ble_eq_true rfl) ⟨Nat.zero_le _, Nat.zero_le _⟩ rfl dX6_takeIn_54 (fun r4 M3 h => ?_)
        exact wl_zret C hr h.1 h.2 dX6_takeIn_57
      · have h := h.2 ht2
        by_cases ht3 : x1 = (111 : Int32)
        · have h := h.1 ht3
          refine wl_tabIn C (tgt := 84) (111 : Int32) ht3 dX6_takeIn_1 (by decide) (by decide) rfl (by decide) ?_
          refine wl_iconst (v := 0) C dX6_takeIn_84 (by decide) ?_
          exact wl_zret C hr h.1 h.2 dX6_takeIn_85
        · have h := h.2 ht3
          by_cases ht4 : x1 = (112 : Int32)
          · have h := h.1 ht4
            refine wl_tabIn C (tgt := 84) (112 : Int32) ht4 dX6_takeIn_1 (by decide) (by decide) rfl (by decide) ?_
            refine wl_iconst (v := 0) C dX6_takeIn_84 (by decide) ?_
            exact wl_zret C hr h.1 h.2 dX6_takeIn_85
          · have h := h.2 ht4
            by_cases ht5 : x1 = (113 : Int32)
            · have h := h.1 ht5
              refine wl_tabIn C (tgt := 84) (113 : Int32) ht5 dX6_takeIn_1 (by decide) (by decide) rfl (by decide) ?_
              refine wl_iconst (v := 0) C dX6_takeIn_84 (by decide) ?_
              exact wl_zret C hr h.1 h.2 dX6_takeIn_85
            · have h := h.2 ht5
              by_cases ht6 : x1 = (114 : Int32)
              · have h := h.1 ht6
                refine wl_tabIn C (tgt := 58) (114 : Int32) ht6 dX6_takeIn_1 (by decide) (by decide) rfl (by decide) ?_
                refine wl_aload_n C dX6_takeIn_58 0 rfl ?_
                refine wl_iload_n C dX6_takeIn_59 2 rfl ?_
                refine wl_callVi C (cX6_takePerReader_M l G hg hA r x2 hkr M _) h cw_RX6_90 hd_X6_takePerReader ⟨rfl, rfl⟩ ⟨by decide, by decide⟩ (gic_6 hA hkr) (gc_k hkr) rfl (As := [.int x2]) (rest := []) rfl (Nat.le_of_ble_eq_true rfl) ⟨Nat.zero_le _, Nat.zero_le _⟩ rfl dX6_takeIn_60 (fun r6 M5 h => ?_)
                exact wl_zret C hr h.1 h.2 dX6_takeIn_63
              · have h := h.2 ht6
                by_cases ht7 : x1 = (115 : Int32)
                · have h := h.1 ht7
                  refine wl_tabIn C (tgt := 71) (115 : Int32) ht7 dX6_takeIn_1 (by decide) (by decide) rfl (by decide) ?_
                  refine wl_aload_n C dX6_takeIn_71 0 rfl ?_
                  refine wl_iload_n C dX6_takeIn_72 2 rfl ?_
                  refine wl_iload_n C dX6_takeIn_73 3 rfl ?_
                  refine wl_callVi C (cX6_takeSwap_M l G hg hA r x2 x3 hkr M _) h cw_RX6_97 hd_X6_takeSwap ⟨rfl, rfl⟩ ⟨by decide, by decide⟩ (gic_6 hA hkr) (gc_k hkr) rfl (As := [.int x2, .int x3]) (rest := []) rfl (Nat.le_of_ble_eq_true rfl) ⟨Nat.zero_le _, Nat.zero_le _⟩ rfl dX6_takeIn_74 (fun r8 M7 h => ?_)
                  exact wl_zret C hr h.1 h.2 dX6_takeIn_77
                · have h := h.2 ht7
                  by_cases ht8 : x1 = (116 : Int32)
                  · have h := h.1 ht8
                    refine wl_tabIn C (tgt := 78) (116 : Int32) ht8 dX6_takeIn_1 (by decide) (by decide) rfl (by decide) ?_
                    refine wl_aload_n C dX6_takeIn_78 0 rfl ?_
                    refine wl_iload_n C dX6_takeIn_79 2 rfl ?_
                    refine wl_callVi C (cX6_takeTaleLeaf_M l G hg hA r x2 hkr M _) h cw_RX6_100 hd_X6_takeTaleLeaf ⟨rfl, rfl⟩ ⟨by decide, by decide⟩ (gic_6 hA hkr) (gc_k hkr) rfl (As := [.int x2]) (rest := []) rfl (Nat.le_of_ble_eq_true rfl) ⟨Nat.zero_le _, Nat.zero_le _⟩ rfl dX6_takeIn_80 (fun r10 M9 h => ?_)
                    exact wl_zret C hr h.1 h.2 dX6_takeIn_83
                  · have h := h.2 ht8
                    refine wl_tabOut C (tgt := 84) dX6_takeIn_1 (by have qht0 := tb_ne ht0 (show Int32.toInt 108 = 108 from rfl); have qht1 := tb_ne ht1 (show Int32.toInt 109 = 109 from rfl); have qht2 := tb_ne ht2 (show Int32.toInt 110 = 110 from rfl); have qht3 := tb_ne ht3 (show Int32.toInt 111 = 111 from rfl); have qht4 := tb_ne ht4 (show Int32.toInt 112 = 112 from rfl); have qht5 := tb_ne ht5 (show Int32.toInt 113 = 113 from rfl); have qht6 := tb_ne ht6 (show Int32.toInt 114 = 114 from rfl); have qht7 := tb_ne ht7 (show Int32.toInt 115 = 115 from rfl); have qht8 := tb_ne ht8 (show Int32.toInt 116 = 116 from rfl); omega) (by decide) ?_
                    refine wl_iconst (v := 0) C dX6_takeIn_84 (by decide) ?_
                    exact wl_zret C hr h.1 h.2 dX6_takeIn_85
set_option maxRecDepth 100000 in
set_option maxHeartbeats 4000000 in
theorem kX6_scanItem_89 (l : Launch) (G : gP) (hg : gIn G) (hA : gCl G) (r : Nat) (x1 : Nat) (x2 : Int32) (hkr : kd r = 6) (hk1 : kd x1 = 5) {p : Program} {e : Env} {s : State} {m : MethodId} {args : Array Value} {below : List Frame} {meth : Method} {c : Code} (C : Cx p s m args meth c G (gA G) cX6_scanItem 8 RX6) (hr : meth.sig.returnType = (some (Jvm.ClassFile.FieldType.int))) {Q : Int32 → Mem → Prop} (k_20 : Int32 → Int32 → Int32 → Int32 → Mem → Prop) (hk_20 : ∀ (v3 : Int32) (v4 : Int32) (v5 : Int32) (v6 : Int32) (M : Mem), k_20 v3 v4 v5 v6 M → Wl p l e rmX6_scanItem s m args below meth c (MQ below (va_Qi Q (gB G) (gA G)) args s 0 0 (gA G)) G (gA G) 8 0 0 M 20 [(0, .ref (gAD G r)), (1, .ref (gAD G x1)), (3, .int v3), (4, .int v4), (5, .int v5), (6, .int v6)] []) (v3 : Int32) (v4 : Int32) (v5 : Int32) (v6 : Int32) (s0 : Int32) (s1 : Int32) (M : Mem) (h : wX6_scanItem_89 r x1 x2 k_20 Q v3 v4 v5 v6 s0 s1 M) : Wl p l e rmX6_scanItem s m args below meth c (MQ below (va_Qi Q (gB G) (gA G)) args s 0 0 (gA G)) G (gA G) 8 0 0 M 89 [(0, .ref (gAD G r)), (1, .ref (gAD G x1)), (3, .int v3), (4, .int v4), (5, .int v5), (6, .int v6)] [.int s0, .int s1] := by
  have h : ((s1 = s0 → k_20 v3 v4 (v5 + (1 : Int32)) (v6 + (1 : Int32)) M) ∧ (¬ s1 = s0 → Q (-4 : Int32) M)) := h
  refine wl_icmp_eq C (tgt := 95) dX6_scanItem_89 (by decide) (fun hc => ?_) (fun hc => ?_)
  · have h := h.1 hc
    refine wl_iinc (v := (v5 + (1 : Int32))) (lv' := [(5, .int (v5 + (1 : Int32))), (0, .ref (gAD G r)), (1, .ref (gAD G x1)), (3, .int v3), (4, .int v4), (6, .int v6)]) C dX6_scanItem_95 4 rfl (by rfl) (by decide) rfl ?_
    refine wl_iinc (v := (v6 + (1 : Int32))) (lv' := [(6, .int (v6 + (1 : Int32))), (5, .int (v5 + (1 : Int32))), (0, .ref (gAD G r)), (1, .ref (gAD G x1)), (3, .int v3), (4, .int v4)]) C dX6_scanItem_98 5 rfl (by rfl) (by decide) rfl ?_
    refine wl_goto C (tgt := 20) dX6_scanItem_101 (by decide) ?_
    refine wl_sub [2, 3, 4, 5, 1, 0] rfl ?_
    exact hk_20 v3 v4 (v5 + (1 : Int32)) (v6 + (1 : Int32)) M h
  · have h := h.2 hc
    refine wl_bipush (v := (-4)) C dX6_scanItem_92 (by decide) ?_
    exact wl_iret C hr h dX6_scanItem_94
set_option maxRecDepth 100000 in
set_option maxHeartbeats 4000000 in
theorem kX6_scanItem_135 (l : Launch) (G : gP) (hg : gIn G) (hA : gCl G) (r : Nat) (x1 : Nat) (x2 : Int32) (hkr : kd r = 6) (hk1 : kd x1 = 5) {p : Program} {e : Env} {s : State} {m : MethodId} {args : Array Value} {below : List Frame} {meth : Method} {c : Code} (C : Cx p s m args meth c G (gA G) cX6_scanItem 8 RX6) (hr : meth.sig.returnType = (some (Jvm.ClassFile.FieldType.int))) {Q : Int32 → Mem → Prop} (s0 : Int32) (M : Mem) (h : wX6_scanItem_135 r x1 x2 Q s0 M) : Wl p l e rmX6_scanItem s m args below meth c (MQ below (va_Qi Q (gB G) (gA G)) args s 0 0 (gA G)) G (gA G) 8 0 0 M 135 [] [.int s0] := by
  have h : Q s0 M := h
  exact wl_iret C hr h dX6_scanItem_135
set_option maxRecDepth 100000 in
set_option maxHeartbeats 4000000 in
theorem kX6_scanItem_20 (l : Launch) (G : gP) (hg : gIn G) (hA : gCl G) (r : Nat) (x1 : Nat) (x2 : Int32) (hkr : kd r = 6) (hk1 : kd x1 = 5) {p : Program} {e : Env} {s : State} {m : MethodId} {args : Array Value} {below : List Frame} {meth : Method} {c : Code} (C : Cx p s m args meth c G (gA G) cX6_scanItem 8 RX6) (hr : meth.sig.returnType = (some (Jvm.ClassFile.FieldType.int))) {Q : Int32 → Mem → Prop} : ∀ (n : Nat) (v3 : Int32) (v4 : Int32) (v5 : Int32) (v6 : Int32) (M : Mem), wX6_scanItem_20 r x1 x2 Q n v3 v4 v5 v6 M → Wl p l e rmX6_scanItem s m args below meth c (MQ below (va_Qi Q (gB G) (gA G)) args s 0 0 (gA G)) G (gA G) 8 0 0 M 20 [(0, .ref (gAD G r)), (1, .ref (gAD G x1)), (3, .int v3), (4, .int v4), (5, .int v5), (6, .int v6)] [] := by
  intro n
  induction n with
  | zero => intro v3 v4 v5 v6 M h; exact h.elim
  | succ n ih =>
    intro v3 v4 v5 v6 M h
    have h : ((v4 ≤ v6 → (wX4_at (r + 7) (0 : Int32) M (fun r7 M6 => (wX4_at (r + 7) (1 : Int32) M6 (fun r9 M8 => (wX6_takeIn r v3 r7 r9 M8 (fun r11 M10 => ((r11 = 0 → wX6_scanItem_135 r x1 x2 Q (-4 : Int32) M10) ∧ (¬ r11 = 0 → wX6_scanItem_135 r x1 x2 Q v5 M10))))))))) ∧ (¬ v4 ≤ v6 → (wX5_figuresFrom x1 v5 M (fun r13 M12 => ((¬ r13 = 0 → (wX5_numberAt x1 v5 r13 M12 (fun r15 M14 => (wX4_put (r + 7) v6 r15 M14 (fun M16 => (wX5_byteAt x1 (v5 + r13) M16 (fun r18 M17 => ((v4 ≤ (v6 + (1 : Int32)) → wX6_scanItem_89 r x1 x2 (wX6_scanItem_20 r x1 x2 Q n) Q v3 v4 (v5 + r13) v6 (59 : Int32) r18 M17) ∧ (¬ v4 ≤ (v6 + (1 : Int32)) → wX6_scanItem_89 r x1 x2 (wX6_scanItem_20 r x1 x2 Q n) Q v3 v4 (v5 + r13) v6 (44 : Int32) r18 M17))))))))) ∧ (r13 = 0 → Q (-4 : Int32) M12)))))) := h
    refine wl_iload C dX6_scanItem_20 5 rfl ?_
    refine wl_iload C dX6_scanItem_22 3 rfl ?_
    refine wl_icmp_ge C (tgt := 104) dX6_scanItem_24 (by decide) (fun hc => ?_) (fun hc => ?_)
    · have h := h.1 hc
      refine wl_aload_n C dX6_scanItem_104 0 rfl ?_
      refine wl_iload_n C dX6_scanItem_105 2 rfl ?_
      refine wl_aload_n C dX6_scanItem_106 0 rfl ?_
      refine gf_6_9 C hkr (gic_6 hA hkr) tw_59 dX6_scanItem_107 ?_
      refine wl_iconst (v := 0) C dX6_scanItem_110 (by decide) ?_
      refine wl_callVi C (cX4_at_M l G hg hA (r + 7) (0 : Int32) (kx_6_7 hkr) M _) h cw_RX6_79 hd_X4_at ⟨rfl, rfl⟩ ⟨by decide, by decide⟩ (gic_4 hA (kx_6_7 hkr)) (gc_k (kx_6_7 hkr)) rfl (As := [.int (0 : Int32)]) (rest := [.int v3, .ref (gAD G r)]) rfl (Nat.le_of_ble_eq_true rfl) ⟨Nat.zero_le _, Nat.zero_le _⟩ rfl dX6_scanItem_111 (fun r7 M6 h => ?_)
      refine wl_aload_n C dX6_scanItem_114 0 rfl ?_
      refine gf_6_9 C hkr (gic_6 hA hkr) tw_59 dX6_scanItem_115 ?_
      refine wl_iconst (v := 1) C dX6_scanItem_118 (by decide) ?_
      refine wl_callVi C (cX4_at_M l G hg hA (r + 7) (1 : Int32) (kx_6_7 hkr) M6 _) h cw_RX6_79 hd_X4_at ⟨rfl, rfl⟩ ⟨by decide, by decide⟩ (gic_4 hA (kx_6_7 hkr)) (gc_k (kx_6_7 hkr)) rfl (As := [.int (1 : Int32)]) (rest := [.int r7, .int v3, .ref (gAD G r)]) rfl (Nat.le_of_ble_eq_true rfl) ⟨Nat.zero_le _, Nat.zero_le _⟩ rfl dX6_scanItem_119 (fun r9 M8 h => ?_)
      refine wl_callVi C (cX6_takeIn_M l G hg hA r v3 r7 r9 hkr M8 _) h cw_RX6_82 hd_X6_takeIn ⟨rfl, rfl⟩ ⟨by decide, by decide⟩ (gic_6 hA hkr) (gc_k hkr) rfl (As := [.int v3, .int r7, .int r9]) (rest := []) rfl (Nat.le_of_ble_eq_true rfl) ⟨Nat.zero_le _, Nat.zero_le _⟩ rfl dX6_scanItem_122 (fun r11 M10 h => ?_)
      refine wl_if_eq C (tgt := 133) dX6_scanItem_125 (by decide) (fun hc => ?_) (fun hc => ?_)
      · have h := h.1 hc
        refine wl_bipush (v := (-4)) C dX6_scanItem_133 (by decide) ?_
        refine wl_sub [] rfl ?_
        exact kX6_scanItem_135 l G hg hA r x1 x2 hkr hk1 C hr (-4 : Int32) M10 h
      · have h := h.2 hc
        refine wl_iload C dX6_scanItem_128 4 rfl ?_
        refine wl_goto C (tgt := 135) dX6_scanItem_130 (by decide) ?_
        refine wl_sub [] rfl ?_
        exact kX6_scanItem_135 l G hg hA r x1 x2 hkr hk1 C hr v5 M10 h
    · have h := h.2 hc
      refine wl_aload_n C dX6_scanItem_27 1 rfl ?_
      refine wl_iload C dX6_scanItem_28 4 rfl ?_
      refine wl_callVi C (cX5_figuresFrom_M l G hg hA x1 v5 hk1 M _) h cw_RX6_68 hd_X5_figuresFrom ⟨rfl, rfl⟩ ⟨by decide, by decide⟩ (gic_5 hA hk1) (gc_k hk1) rfl (As := [.int v5]) (rest := []) rfl (Nat.le_of_ble_eq_true rfl) ⟨Nat.zero_le _, Nat.zero_le _⟩ rfl dX6_scanItem_30 (fun r13 M12 h => ?_)
      refine wl_istore (i := 7) (lv' := [(7, .int r13), (0, .ref (gAD G r)), (1, .ref (gAD G x1)), (3, .int v3), (4, .int v4), (5, .int v5), (6, .int v6)]) C dX6_scanItem_33 (by decide) rfl ?_
      refine wl_iload C dX6_scanItem_35 0 rfl ?_
      refine wl_if_ne C (tgt := 43) dX6_scanItem_37 (by decide) (fun hc => ?_) (fun hc => ?_)
      · have h := h.1 hc
        refine wl_aload_n C dX6_scanItem_43 1 rfl ?_
        refine gf_6_9 C hkr (gic_6 hA hkr) tw_59 dX6_scanItem_44 ?_
        refine wl_iload C dX6_scanItem_47 6 rfl ?_
        refine wl_aload_n C dX6_scanItem_49 2 rfl ?_
        refine wl_iload C dX6_scanItem_50 5 rfl ?_
        refine wl_iload C dX6_scanItem_52 0 rfl ?_
        refine wl_callVi C (cX5_numberAt_M l G hg hA x1 v5 r13 hk1 M12 _) h cw_RX6_71 hd_X5_numberAt ⟨rfl, rfl⟩ ⟨by decide, by decide⟩ (gic_5 hA hk1) (gc_k hk1) rfl (As := [.int v5, .int r13]) (rest := [.int v6, .ref (gAD G (r + 7))]) rfl (Nat.le_of_ble_eq_true rfl) ⟨Nat.zero_le _, Nat.zero_le _⟩ rfl dX6_scanItem_54 (fun r15 M14 h => ?_)
        refine wl_callVv C (cX4_put_M l G hg hA (r + 7) v6 r15 (kx_6_7 hkr) M14 _) h cw_RX6_75 hd_X4_put ⟨rfl, rfl⟩ ⟨by decide, by decide⟩ (gic_4 hA (kx_6_7 hkr)) (gc_k (kx_6_7 hkr)) rfl (As := [.int v6, .int r15]) (rest := []) rfl (Nat.le_of_ble_eq_true rfl) ⟨Nat.zero_le _, Nat.zero_le _⟩ rfl dX6_scanItem_57 (fun M16 h => ?_)
        refine wl_iload C dX6_scanItem_60 5 rfl ?_
        refine wl_iload C dX6_scanItem_62 0 rfl ?_
        refine wl_iadd C dX6_scanItem_64 ?_
        refine wl_istore (i := 5) (lv' := [(5, .int (v5 + r13)), (7, .int r13), (0, .ref (gAD G r)), (1, .ref (gAD G x1)), (3, .int v3), (4, .int v4), (6, .int v6)]) C dX6_scanItem_65 (by decide) rfl ?_
        refine wl_aload_n C dX6_scanItem_67 3 rfl ?_
        refine wl_iload C dX6_scanItem_68 0 rfl ?_
        refine wl_callVi C (cX5_byteAt_M l G hg hA x1 (v5 + r13) hk1 M16 _) h cw_RX6_61 hd_X5_byteAt ⟨rfl, rfl⟩ ⟨by decide, by decide⟩ (gic_5 hA hk1) (gc_k hk1) rfl (As := [.int (v5 + r13)]) (rest := []) rfl (Nat.le_of_ble_eq_true rfl) ⟨Nat.zero_le _, Nat.zero_le _⟩ rfl dX6_scanItem_70 (fun r18 M17 h => ?_)
        refine wl_iload C dX6_scanItem_73 6 rfl ?_
        refine wl_iconst (v := 1) C dX6_scanItem_75 (by decide) ?_
        refine wl_iadd C dX6_scanItem_76 ?_
        refine wl_iload C dX6_scanItem_77 5 rfl ?_
        refine wl_icmp_ge C (tgt := 87) dX6_scanItem_79 (by decide) (fun hc => ?_) (fun hc => ?_)
        · have h := h.1 hc
          refine wl_bipush (v := 59) C dX6_scanItem_87 (by decide) ?_
          refine wl_sub [2, 3, 4, 5, 0, 6] rfl ?_
          exact kX6_scanItem_89 l G hg hA r x1 x2 hkr hk1 C hr (wX6_scanItem_20 r x1 x2 Q n) (ih) v3 v4 (v5 + r13) v6 (59 : Int32) r18 M17 h
        · have h := h.2 hc
          refine wl_bipush (v := 44) C dX6_scanItem_82 (by decide) ?_
          refine wl_goto C (tgt := 89) dX6_scanItem_84 (by decide) ?_
          refine wl_sub [2, 3, 4, 5, 0, 6] rfl ?_
          exact kX6_scanItem_89 l G hg hA r x1 x2 hkr hk1 C hr (wX6_scanItem_20 r x1 x2 Q n) (ih) v3 v4 (v5 + r13) v6 (44 : Int32) r18 M17 h
      · have h := h.2 hc
        refine wl_bipush (v := (-4)) C dX6_scanItem_40 (by decide) ?_
        exact wl_iret C hr h dX6_scanItem_42
set_option maxRecDepth 100000 in
set_option maxHeartbeats 4000000 in
theorem cX6_scanItem_M (l : Launch) (G : gP) (hg : gIn G) (hA : gCl G) (r : Nat) (x1 : Nat) (x2 : Int32) (hkr : kd r = 6) (hk1 : kd x1 = 5) (M : Mem) (Q : Int32 → Mem → Prop) : Met l yX6_scanItem (Cond.code yX6_scanItem cX6_scanItem 8 (some (Jvm.ClassFile.FieldType.int)) :: TB) rmX6_scanItem (va_Pc [.ref (gAD G r), .ref (gAD G x1), .int x2] (fun U => gS G M U ∧ wX6_scanItem r x1 x2 M Q)) (va_Qi Q (gB G) (gA G)) 0 0 (gA G) := by
  refine gMet (by decide +kernel) (show _ = Cond.code yX6_scanItem cX6_scanItem 8 (some (Jvm.ClassFile.FieldType.int)) from rfl) hg (Nat.le_of_ble_eq_true rfl) [(0, .ref (gAD G r)), (1, .ref (gAD G x1)), (2, .int x2)] rfl ?_
  intro p e s m args below meth c C hr h
  have h : (wX5_byteAt x1 x2 M (fun r2 M1 => (wX6_numbersWanted r2 M1 (fun r4 M3 => (∃ n5, wX6_scanItem_20 r x1 x2 Q n5 r2 r4 (x2 + (1 : Int32)) (0 : Int32) M3))))) := h
  refine wl_aload_n C dX6_scanItem_0 1 rfl ?_
  refine wl_iload_n C dX6_scanItem_1 2 rfl ?_
  refine wl_callVi C (cX5_byteAt_M l G hg hA x1 x2 hk1 M _) h cw_RX6_61 hd_X5_byteAt ⟨rfl, rfl⟩ ⟨by decide, by decide⟩ (gic_5 hA hk1) (gc_k hk1) rfl (As := [.int x2]) (rest := []) rfl (Nat.le_of_ble_eq_true rfl) ⟨Nat.zero_le _, Nat.zero_le _⟩ rfl dX6_scanItem_2 (fun r2 M1 h => ?_)
  refine wl_istore_n (i := 3) (lv' := [(3, .int r2), (0, .ref (gAD G r)), (1, .ref (gAD G x1)), (2, .int x2)]) C dX6_scanItem_5 rfl (by decide) rfl ?_
  refine wl_iload_n C dX6_scanItem_6 0 rfl ?_
  refine wl_callSi C (cX6_numbersWanted_M l G hg hA r2 M1 _) h cw_RX6_65 hd_X6_numbersWanted ⟨rfl, rfl⟩ ⟨by decide, by decide⟩ (As := [.int r2]) (rest := []) rfl (Nat.le_of_ble_eq_true rfl) ⟨Nat.zero_le _, Nat.zero_le _⟩ rfl dX6_scanItem_7 (fun r4 M3 h => ?_)
  refine wl_istore (i := 4) (lv' := [(4, .int r4), (3, .int r2), (0, .ref (gAD G r)), (1, .ref (gAD G x1)), (2, .int x2)]) C dX6_scanItem_10 (by decide) rfl ?_
  refine wl_iload_n C dX6_scanItem_12 4 rfl ?_
  refine wl_iconst (v := 1) C dX6_scanItem_13 (by decide) ?_
  refine wl_iadd C dX6_scanItem_14 ?_
  refine wl_istore (i := 5) (lv' := [(5, .int (x2 + (1 : Int32))), (4, .int r4), (3, .int r2), (0, .ref (gAD G r)), (1, .ref (gAD G x1)), (2, .int x2)]) C dX6_scanItem_15 (by decide) rfl ?_
  refine wl_iconst (v := 0) C dX6_scanItem_17 (by decide) ?_
  refine wl_istore (i := 6) (lv' := [(6, .int (0 : Int32)), (5, .int (x2 + (1 : Int32))), (4, .int r4), (3, .int r2), (0, .ref (gAD G r)), (1, .ref (gAD G x1)), (2, .int x2)]) C dX6_scanItem_18 (by decide) rfl ?_
  refine wl_sub [4, 5, 3, 2, 1, 0] rfl ?_
  obtain ⟨n5, h⟩ := h
  exact kX6_scanItem_20 l G hg hA r x1 x2 hkr hk1 C hr n5 r2 r4 (x2 + (1 : Int32)) (0 : Int32) M3 h
set_option maxRecDepth 100000 in
set_option maxHeartbeats 4000000 in
theorem kX6_scan_6 (l : Launch) (G : gP) (hg : gIn G) (hA : gCl G) (r : Nat) (x1 : Nat) (hkr : kd r = 6) (hk1 : kd x1 = 5) {p : Program} {e : Env} {s : State} {m : MethodId} {args : Array Value} {below : List Frame} {meth : Method} {c : Code} (C : Cx p s m args meth c G (gA G) cX6_scan 4 RX6) (hr : meth.sig.returnType = (some (Jvm.ClassFile.FieldType.int))) {Q : Int32 → Mem → Prop} : ∀ (n : Nat) (v2 : Int32) (M : Mem), wX6_scan_6 r x1 Q n v2 M → Wl p l e rmX6_scan s m args below meth c (MQ below (va_Qi Q (gB G) (gA G)) args s 0 0 (gA G)) G (gA G) 4 0 0 M 6 [(0, .ref (gAD G r)), (1, .ref (gAD G x1)), (2, .int v2)] [] := by
  intro n
  induction n with
  | zero => intro v2 M h; exact h.elim
  | succ n ih =>
    intro v2 M h
    have h : (wX5_size x1 M (fun r4 M3 => ((r4 ≤ v2 → Q (-4 : Int32) M3) ∧ (¬ r4 ≤ v2 → (wX6_scanItem r x1 v2 M3 (fun r6 M5 => ((v2 < r6 → wX6_scan_6 r x1 Q n r6 M5) ∧ (¬ v2 < r6 → Q v2 M5)))))))) := h
    refine wl_iload_n C dX6_scan_6 2 rfl ?_
    refine wl_aload_n C dX6_scan_7 1 rfl ?_
    refine wl_callVi C (cX5_size_M l G hg hA x1 hk1 M _) h cw_RX6_51 hd_X5_size ⟨rfl, rfl⟩ ⟨by decide, by decide⟩ (gic_5 hA hk1) (gc_k hk1) rfl (As := []) (rest := [.int v2]) rfl (Nat.le_of_ble_eq_true rfl) ⟨Nat.zero_le _, Nat.zero_le _⟩ rfl dX6_scan_8 (fun r4 M3 h => ?_)
    refine wl_icmp_ge C (tgt := 33) dX6_scan_11 (by decide) (fun hc => ?_) (fun hc => ?_)
    · have h := h.1 hc
      refine wl_bipush (v := (-4)) C dX6_scan_33 (by decide) ?_
      exact wl_iret C hr h dX6_scan_35
    · have h := h.2 hc
      refine wl_aload_n C dX6_scan_14 0 rfl ?_
      refine wl_aload_n C dX6_scan_15 1 rfl ?_
      refine wl_iload_n C dX6_scan_16 2 rfl ?_
      refine wl_callVi C (cX6_scanItem_M l G hg hA r x1 v2 hkr hk1 M3 _) h cw_RX6_57 hd_X6_scanItem ⟨rfl, rfl⟩ ⟨by decide, by decide⟩ (gic_6 hA hkr) (gc_k hkr) rfl (As := [.ref (gAD G x1), .int v2]) (rest := []) rfl (Nat.le_of_ble_eq_true rfl) ⟨Nat.zero_le _, Nat.zero_le _⟩ rfl dX6_scan_17 (fun r6 M5 h => ?_)
      refine wl_istore_n (i := 3) (lv' := [(3, .int r6), (0, .ref (gAD G r)), (1, .ref (gAD G x1)), (2, .int v2)]) C dX6_scan_20 rfl (by decide) rfl ?_
      refine wl_iload_n C dX6_scan_21 0 rfl ?_
      refine wl_iload_n C dX6_scan_22 3 rfl ?_
      refine wl_icmp_gt C (tgt := 28) dX6_scan_23 (by decide) (fun hc => ?_) (fun hc => ?_)
      · have h := h.1 hc
        refine wl_iload_n C dX6_scan_28 0 rfl ?_
        refine wl_istore_n (i := 2) (lv' := [(2, .int r6), (3, .int r6), (0, .ref (gAD G r)), (1, .ref (gAD G x1))]) C dX6_scan_29 rfl (by decide) rfl ?_
        refine wl_goto C (tgt := 6) dX6_scan_30 (by decide) ?_
        refine wl_sub [2, 3, 0] rfl ?_
        exact ih r6 M5 h
      · have h := h.2 hc
        refine wl_iload_n C dX6_scan_26 3 rfl ?_
        exact wl_iret C hr h dX6_scan_27
set_option maxRecDepth 100000 in
set_option maxHeartbeats 4000000 in
theorem cX6_scan_M (l : Launch) (G : gP) (hg : gIn G) (hA : gCl G) (r : Nat) (x1 : Nat) (hkr : kd r = 6) (hk1 : kd x1 = 5) (M : Mem) (Q : Int32 → Mem → Prop) : Met l yX6_scan (Cond.code yX6_scan cX6_scan 4 (some (Jvm.ClassFile.FieldType.int)) :: TB) rmX6_scan (va_Pc [.ref (gAD G r), .ref (gAD G x1)] (fun U => gS G M U ∧ wX6_scan r x1 M Q)) (va_Qi Q (gB G) (gA G)) 0 0 (gA G) := by
  refine gMet (by decide +kernel) (show _ = Cond.code yX6_scan cX6_scan 4 (some (Jvm.ClassFile.FieldType.int)) from rfl) hg (Nat.le_of_ble_eq_true rfl) [(0, .ref (gAD G r)), (1, .ref (gAD G x1))] rfl ?_
  intro p e s m args below meth c C hr h
  have h : (wX6_tellNothing r M (fun M1 => (∃ n2, wX6_scan_6 r x1 Q n2 (0 : Int32) M1))) := h
  refine wl_aload_n C dX6_scan_0 0 rfl ?_
  refine wl_callVv C (cX6_tellNothing_M l G hg hA r hkr M _) h cw_RX6_29 hd_X6_tellNothing ⟨rfl, rfl⟩ ⟨by decide, by decide⟩ (gic_6 hA hkr) (gc_k hkr) rfl (As := []) (rest := []) rfl (Nat.le_of_ble_eq_true rfl) ⟨Nat.zero_le _, Nat.zero_le _⟩ rfl dX6_scan_1 (fun M1 h => ?_)
  refine wl_iconst (v := 0) C dX6_scan_4 (by decide) ?_
  refine wl_istore_n (i := 2) (lv' := [(2, .int (0 : Int32)), (0, .ref (gAD G r)), (1, .ref (gAD G x1))]) C dX6_scan_5 rfl (by decide) rfl ?_
  refine wl_sub [1, 2, 0] rfl ?_
  obtain ⟨n2, h⟩ := h
  exact kX6_scan_6 l G hg hA r x1 hkr hk1 C hr n2 (0 : Int32) M1 h
set_option maxRecDepth 100000 in
set_option maxHeartbeats 4000000 in
theorem kX6_fitsItsLeaves_40 (l : Launch) (G : gP) (hg : gIn G) (hA : gCl G) (r : Nat) (hkr : kd r = 6) {p : Program} {e : Env} {s : State} {m : MethodId} {args : Array Value} {below : List Frame} {meth : Method} {c : Code} (C : Cx p s m args meth c G (gA G) cX6_fitsItsLeaves 2 RX6) (hr : meth.sig.returnType = (some (Jvm.ClassFile.FieldType.boolean))) {Q : Int32 → Mem → Prop} (M : Mem) (h : wX6_fitsItsLeaves_40 r Q M) : Wl p l e rmX6_fitsItsLeaves s m args below meth c (MQ below (va_Qi Q (gB G) (gA G)) args s 0 0 (gA G)) G (gA G) 2 0 0 M 40 [] [] := by
  have h : (((0 : Int32) = 0 ∨ (0 : Int32) = 1) ∧ Q (0 : Int32) M) := h
  refine wl_iconst (v := 0) C dX6_fitsItsLeaves_40 (by decide) ?_
  exact wl_zret C hr h.1 h.2 dX6_fitsItsLeaves_41
set_option maxRecDepth 100000 in
set_option maxHeartbeats 4000000 in
theorem kX6_fitsItsLeaves_50 (l : Launch) (G : gP) (hg : gIn G) (hA : gCl G) (r : Nat) (hkr : kd r = 6) {p : Program} {e : Env} {s : State} {m : MethodId} {args : Array Value} {below : List Frame} {meth : Method} {c : Code} (C : Cx p s m args meth c G (gA G) cX6_fitsItsLeaves 2 RX6) (hr : meth.sig.returnType = (some (Jvm.ClassFile.FieldType.boolean))) {Q : Int32 → Mem → Prop} : ∀ (n : Nat) (v1 : Int32) (M : Mem), wX6_fitsItsLeaves_50 r Q n v1 M → Wl p l e rmX6_fitsItsLeaves s m args below meth c (MQ below (va_Qi Q (gB G) (gA G)) args s 0 0 (gA G)) G (gA G) 2 0 0 M 50 [(0, .ref (gAD G r)), (1, .int v1)] [] := by
  intro n
  induction n with
  | zero => intro v1 M h; exact h.elim
  | succ n ih =>
    intro v1 M h
    have h : (((M r 8) ≤ v1 → (((1 : Int32) = 0 ∨ (1 : Int32) = 1) ∧ Q (1 : Int32) M)) ∧ (¬ (M r 8) ≤ v1 → (wX4_at (r + 5) v1 M (fun r8 M7 => ((r8 < (M7 r 0) → wX6_fitsItsLeaves_50 r Q n (v1 + (1 : Int32)) M7) ∧ (¬ r8 < (M7 r 0) → (((0 : Int32) = 0 ∨ (0 : Int32) = 1) ∧ Q (0 : Int32) M7))))))) := h
    refine wl_iload_n C dX6_fitsItsLeaves_50 1 rfl ?_
    refine wl_aload_n C dX6_fitsItsLeaves_51 0 rfl ?_
    refine gf_6_8 C hkr (gic_6 hA hkr) tw_58 dX6_fitsItsLeaves_52 ?_
    refine wl_icmp_ge C (tgt := 81) dX6_fitsItsLeaves_55 (by decide) (fun hc => ?_) (fun hc => ?_)
    · have h := h.1 hc
      refine wl_iconst (v := 1) C dX6_fitsItsLeaves_81 (by decide) ?_
      exact wl_zret C hr h.1 h.2 dX6_fitsItsLeaves_82
    · have h := h.2 hc
      refine wl_aload_n C dX6_fitsItsLeaves_58 0 rfl ?_
      refine gf_6_7 C hkr (gic_6 hA hkr) tw_57 dX6_fitsItsLeaves_59 ?_
      refine wl_iload_n C dX6_fitsItsLeaves_62 1 rfl ?_
      refine wl_callVi C (cX4_at_M l G hg hA (r + 5) v1 (kx_6_5 hkr) M _) h cw_RX6_79 hd_X4_at ⟨rfl, rfl⟩ ⟨by decide, by decide⟩ (gic_4 hA (kx_6_5 hkr)) (gc_k (kx_6_5 hkr)) rfl (As := [.int v1]) (rest := []) rfl (Nat.le_of_ble_eq_true rfl) ⟨Nat.zero_le _, Nat.zero_le _⟩ rfl dX6_fitsItsLeaves_63 (fun r8 M7 h => ?_)
      refine wl_aload_n C dX6_fitsItsLeaves_66 0 rfl ?_
      refine gf_6_0 C hkr (gic_6 hA hkr) tw_50 dX6_fitsItsLeaves_67 ?_
      refine wl_icmp_lt C (tgt := 75) dX6_fitsItsLeaves_70 (by decide) (fun hc => ?_) (fun hc => ?_)
      · have h := h.1 hc
        refine wl_iinc (v := (v1 + (1 : Int32))) (lv' := [(1, .int (v1 + (1 : Int32))), (0, .ref (gAD G r))]) C dX6_fitsItsLeaves_75 1 rfl (by rfl) (by decide) rfl ?_
        refine wl_goto C (tgt := 50) dX6_fitsItsLeaves_78 (by decide) ?_
        refine wl_sub [1, 0] rfl ?_
        exact ih (v1 + (1 : Int32)) M7 h
      · have h := h.2 hc
        refine wl_iconst (v := 0) C dX6_fitsItsLeaves_73 (by decide) ?_
        exact wl_zret C hr h.1 h.2 dX6_fitsItsLeaves_74
set_option maxRecDepth 100000 in
set_option maxHeartbeats 4000000 in
theorem kX6_fitsItsLeaves_2 (l : Launch) (G : gP) (hg : gIn G) (hA : gCl G) (r : Nat) (hkr : kd r = 6) {p : Program} {e : Env} {s : State} {m : MethodId} {args : Array Value} {below : List Frame} {meth : Method} {c : Code} (C : Cx p s m args meth c G (gA G) cX6_fitsItsLeaves 2 RX6) (hr : meth.sig.returnType = (some (Jvm.ClassFile.FieldType.boolean))) {Q : Int32 → Mem → Prop} : ∀ (n : Nat) (v1 : Int32) (M : Mem), wX6_fitsItsLeaves_2 r Q n v1 M → Wl p l e rmX6_fitsItsLeaves s m args below meth c (MQ below (va_Qi Q (gB G) (gA G)) args s 0 0 (gA G)) G (gA G) 2 0 0 M 2 [(0, .ref (gAD G r)), (1, .int v1)] [] := by
  intro n
  induction n with
  | zero => intro v1 M h; exact h.elim
  | succ n ih =>
    intro v1 M h
    have h : (((M r 6) ≤ v1 → (∃ n2, wX6_fitsItsLeaves_50 r Q n2 (0 : Int32) M)) ∧ (¬ (M r 6) ≤ v1 → (wX4_at (r + 1) v1 M (fun r4 M3 => (((M3 r 0) ≤ r4 → wX6_fitsItsLeaves_40 r Q M3) ∧ (¬ (M3 r 0) ≤ r4 → (wX4_at (r + 3) v1 M3 (fun r6 M5 => ((r6 < (M5 r 0) → wX6_fitsItsLeaves_2 r Q n (v1 + (1 : Int32)) M5) ∧ (¬ r6 < (M5 r 0) → wX6_fitsItsLeaves_40 r Q M5)))))))))) := h
    refine wl_iload_n C dX6_fitsItsLeaves_2 1 rfl ?_
    refine wl_aload_n C dX6_fitsItsLeaves_3 0 rfl ?_
    refine gf_6_6 C hkr (gic_6 hA hkr) tw_56 dX6_fitsItsLeaves_4 ?_
    refine wl_icmp_ge C (tgt := 48) dX6_fitsItsLeaves_7 (by decide) (fun hc => ?_) (fun hc => ?_)
    · have h := h.1 hc
      refine wl_iconst (v := 0) C dX6_fitsItsLeaves_48 (by decide) ?_
      refine wl_istore_n (i := 1) (lv' := [(1, .int (0 : Int32)), (0, .ref (gAD G r))]) C dX6_fitsItsLeaves_49 rfl (by decide) rfl ?_
      refine wl_sub [1, 0] rfl ?_
      obtain ⟨n2, h⟩ := h
      exact kX6_fitsItsLeaves_50 l G hg hA r hkr C hr n2 (0 : Int32) M h
    · have h := h.2 hc
      refine wl_aload_n C dX6_fitsItsLeaves_10 0 rfl ?_
      refine gf_6_4 C hkr (gic_6 hA hkr) tw_54 dX6_fitsItsLeaves_11 ?_
      refine wl_iload_n C dX6_fitsItsLeaves_14 1 rfl ?_
      refine wl_callVi C (cX4_at_M l G hg hA (r + 1) v1 (kx_6_1 hkr) M _) h cw_RX6_79 hd_X4_at ⟨rfl, rfl⟩ ⟨by decide, by decide⟩ (gic_4 hA (kx_6_1 hkr)) (gc_k (kx_6_1 hkr)) rfl (As := [.int v1]) (rest := []) rfl (Nat.le_of_ble_eq_true rfl) ⟨Nat.zero_le _, Nat.zero_le _⟩ rfl dX6_fitsItsLeaves_15 (fun r4 M3 h => ?_)
      refine wl_aload_n C dX6_fitsItsLeaves_18 0 rfl ?_
      refine gf_6_0 C hkr (gic_6 hA hkr) tw_50 dX6_fitsItsLeaves_19 ?_
      refine wl_icmp_ge C (tgt := 40) dX6_fitsItsLeaves_22 (by decide) (fun hc => ?_) (fun hc => ?_)
      · have h := h.1 hc
        refine wl_sub [] rfl ?_
        exact kX6_fitsItsLeaves_40 l G hg hA r hkr C hr M3 h
      · have h := h.2 hc
        refine wl_aload_n C dX6_fitsItsLeaves_25 0 rfl ?_
        refine gf_6_5 C hkr (gic_6 hA hkr) tw_55 dX6_fitsItsLeaves_26 ?_
        refine wl_iload_n C dX6_fitsItsLeaves_29 1 rfl ?_
        refine wl_callVi C (cX4_at_M l G hg hA (r + 3) v1 (kx_6_3 hkr) M3 _) h cw_RX6_79 hd_X4_at ⟨rfl, rfl⟩ ⟨by decide, by decide⟩ (gic_4 hA (kx_6_3 hkr)) (gc_k (kx_6_3 hkr)) rfl (As := [.int v1]) (rest := []) rfl (Nat.le_of_ble_eq_true rfl) ⟨Nat.zero_le _, Nat.zero_le _⟩ rfl dX6_fitsItsLeaves_30 (fun r6 M5 h => ?_)
        refine wl_aload_n C dX6_fitsItsLeaves_33 0 rfl ?_
        refine gf_6_0 C hkr (gic_6 hA hkr) tw_50 dX6_fitsItsLeaves_34 ?_
        refine wl_icmp_lt C (tgt := 42) dX6_fitsItsLeaves_37 (by decide) (fun hc => ?_) (fun hc => ?_)
        · have h := h.1 hc
          refine wl_iinc (v := (v1 + (1 : Int32))) (lv' := [(1, .int (v1 + (1 : Int32))), (0, .ref (gAD G r))]) C dX6_fitsItsLeaves_42 1 rfl (by rfl) (by decide) rfl ?_
          refine wl_goto C (tgt := 2) dX6_fitsItsLeaves_45 (by decide) ?_
          refine wl_sub [1, 0] rfl ?_
          exact ih (v1 + (1 : Int32)) M5 h
        · have h := h.2 hc
          refine wl_sub [] rfl ?_
          exact kX6_fitsItsLeaves_40 l G hg hA r hkr C hr M5 h
set_option maxRecDepth 100000 in
set_option maxHeartbeats 4000000 in
theorem cX6_fitsItsLeaves_M (l : Launch) (G : gP) (hg : gIn G) (hA : gCl G) (r : Nat) (hkr : kd r = 6) (M : Mem) (Q : Int32 → Mem → Prop) : Met l yX6_fitsItsLeaves (Cond.code yX6_fitsItsLeaves cX6_fitsItsLeaves 2 (some (Jvm.ClassFile.FieldType.boolean)) :: TB) rmX6_fitsItsLeaves (va_Pc [.ref (gAD G r)] (fun U => gS G M U ∧ wX6_fitsItsLeaves r M Q)) (va_Qi Q (gB G) (gA G)) 0 0 (gA G) := by
  refine gMet (by decide +kernel) (show _ = Cond.code yX6_fitsItsLeaves cX6_fitsItsLeaves 2 (some (Jvm.ClassFile.FieldType.boolean)) from rfl) hg (Nat.le_of_ble_eq_true rfl) [(0, .ref (gAD G r))] rfl ?_
  intro p e s m args below meth c C hr h
  have h : (∃ n1, wX6_fitsItsLeaves_2 r Q n1 (0 : Int32) M) := h
  refine wl_iconst (v := 0) C dX6_fitsItsLeaves_0 (by decide) ?_
  refine wl_istore_n (i := 1) (lv' := [(1, .int (0 : Int32)), (0, .ref (gAD G r))]) C dX6_fitsItsLeaves_1 rfl (by decide) rfl ?_
  refine wl_sub [1, 0] rfl ?_
  obtain ⟨n1, h⟩ := h
  exact kX6_fitsItsLeaves_2 l G hg hA r hkr C hr n1 (0 : Int32) M h
set_option maxRecDepth 100000 in
set_option maxHeartbeats 4000000 in
theorem kX6_orderFirst_10 (l : Launch) (G : gP) (hg : gIn G) (hA : gCl G) (r : Nat) (x1 : Nat) (hkr : kd r = 6) (hk1 : kd x1 = 1) {p : Program} {e : Env} {s : State} {m : MethodId} {args : Array Value} {below : List Frame} {meth : Method} {c : Code} (C : Cx p s m args meth c G (gA G) cX6_orderFirst 3 RX6) (hr : meth.sig.returnType = none) {Q : Mem → Prop} : ∀ (n : Nat) (v2 : Int32) (M : Mem), wX6_orderFirst_10 r x1 Q n v2 M → Wl p l e rmX6_orderFirst s m args below meth c (MQ below (va_Qv Q (gB G) (gA G)) args s 0 0 (gA G)) G (gA G) 3 0 0 M 10 [(0, .ref (gAD G r)), (1, .ref (gAD G x1)), (2, .int v2)] [] := by
  intro n
  induction n with
  | zero => intro v2 M h; exact h.elim
  | succ n ih =>
    intro v2 M h
    have h : (((M r 6) ≤ v2 → Q M) ∧ (¬ (M r 6) ≤ v2 → (wX4_at (r + 1) v2 M (fun r4 M3 => (wX4_at (r + 3) v2 M3 (fun r6 M5 => (wX1_swap x1 r4 r6 M5 (fun M7 => wX6_orderFirst_10 r x1 Q n (v2 + (1 : Int32)) M7)))))))) := h
    refine wl_iload_n C dX6_orderFirst_10 2 rfl ?_
    refine wl_aload_n C dX6_orderFirst_11 0 rfl ?_
    refine gf_6_6 C hkr (gic_6 hA hkr) tw_56 dX6_orderFirst_12 ?_
    refine wl_icmp_ge C (tgt := 44) dX6_orderFirst_15 (by decide) (fun hc => ?_) (fun hc => ?_)
    · have h := h.1 hc
      exact wl_vret C hr h dX6_orderFirst_44
    · have h := h.2 hc
      refine wl_aload_n C dX6_orderFirst_18 1 rfl ?_
      refine wl_aload_n C dX6_orderFirst_19 0 rfl ?_
      refine gf_6_4 C hkr (gic_6 hA hkr) tw_54 dX6_orderFirst_20 ?_
      refine wl_iload_n C dX6_orderFirst_23 2 rfl ?_
      refine wl_callVi C (cX4_at_M l G hg hA (r + 1) v2 (kx_6_1 hkr) M _) h cw_RX6_79 hd_X4_at ⟨rfl, rfl⟩ ⟨by decide, by decide⟩ (gic_4 hA (kx_6_1 hkr)) (gc_k (kx_6_1 hkr)) rfl (As := [.int v2]) (rest := [.ref (gAD G x1)]) rfl (Nat.le_of_ble_eq_true rfl) ⟨Nat.zero_le _, Nat.zero_le _⟩ rfl dX6_orderFirst_24 (fun r4 M3 h => ?_)
      refine wl_aload_n C dX6_orderFirst_27 0 rfl ?_
      refine gf_6_5 C hkr (gic_6 hA hkr) tw_55 dX6_orderFirst_28 ?_
      refine wl_iload_n C dX6_orderFirst_31 2 rfl ?_
      refine wl_callVi C (cX4_at_M l G hg hA (r + 3) v2 (kx_6_3 hkr) M3 _) h cw_RX6_79 hd_X4_at ⟨rfl, rfl⟩ ⟨by decide, by decide⟩ (gic_4 hA (kx_6_3 hkr)) (gc_k (kx_6_3 hkr)) rfl (As := [.int v2]) (rest := [.int r4, .ref (gAD G x1)]) rfl (Nat.le_of_ble_eq_true rfl) ⟨Nat.zero_le _, Nat.zero_le _⟩ rfl dX6_orderFirst_32 (fun r6 M5 h => ?_)
      refine wl_callVv C (cX1_swap_M l G hg hA x1 r4 r6 hk1 M5 _) h cw_RX6_111 hd_X1_swap ⟨rfl, rfl⟩ ⟨by decide, by decide⟩ (gic_1 hA hk1) (gc_k hk1) rfl (As := [.int r4, .int r6]) (rest := []) rfl (Nat.le_of_ble_eq_true rfl) ⟨Nat.zero_le _, Nat.zero_le _⟩ rfl dX6_orderFirst_35 (fun M7 h => ?_)
      refine wl_iinc (v := (v2 + (1 : Int32))) (lv' := [(2, .int (v2 + (1 : Int32))), (0, .ref (gAD G r)), (1, .ref (gAD G x1))]) C dX6_orderFirst_38 2 rfl (by rfl) (by decide) rfl ?_
      refine wl_goto C (tgt := 10) dX6_orderFirst_41 (by decide) ?_
      refine wl_sub [1, 2, 0] rfl ?_
      exact ih (v2 + (1 : Int32)) M7 h
set_option maxRecDepth 100000 in
set_option maxHeartbeats 4000000 in
theorem cX6_orderFirst_M (l : Launch) (G : gP) (hg : gIn G) (hA : gCl G) (r : Nat) (x1 : Nat) (hkr : kd r = 6) (hk1 : kd x1 = 1) (M : Mem) (Q : Mem → Prop) : Met l yX6_orderFirst (Cond.code yX6_orderFirst cX6_orderFirst 3 none :: TB) rmX6_orderFirst (va_Pc [.ref (gAD G r), .ref (gAD G x1)] (fun U => gS G M U ∧ wX6_orderFirst r x1 M Q)) (va_Qv Q (gB G) (gA G)) 0 0 (gA G) := by
  refine gMet (by decide +kernel) (show _ = Cond.code yX6_orderFirst cX6_orderFirst 3 none from rfl) hg (Nat.le_of_ble_eq_true rfl) [(0, .ref (gAD G r)), (1, .ref (gAD G x1))] rfl ?_
  intro p e s m args below meth c C hr h
  have h : (wX1_number x1 (M r 0) M (fun M1 => (∃ n2, wX6_orderFirst_10 r x1 Q n2 (0 : Int32) M1))) := h
  refine wl_aload_n C dX6_orderFirst_0 1 rfl ?_
  refine wl_aload_n C dX6_orderFirst_1 0 rfl ?_
  refine gf_6_0 C hkr (gic_6 hA hkr) tw_50 dX6_orderFirst_2 ?_
  refine wl_callVv C (cX1_number_M l G hg hA x1 (M r 0) hk1 M _) h cw_RX6_106 hd_X1_number ⟨rfl, rfl⟩ ⟨by decide, by decide⟩ (gic_1 hA hk1) (gc_k hk1) rfl (As := [.int (M r 0)]) (rest := []) rfl (Nat.le_of_ble_eq_true rfl) ⟨Nat.zero_le _, Nat.zero_le _⟩ rfl dX6_orderFirst_5 (fun M1 h => ?_)
  refine wl_iconst (v := 0) C dX6_orderFirst_8 (by decide) ?_
  refine wl_istore_n (i := 2) (lv' := [(2, .int (0 : Int32)), (0, .ref (gAD G r)), (1, .ref (gAD G x1))]) C dX6_orderFirst_9 rfl (by decide) rfl ?_
  refine wl_sub [1, 2, 0] rfl ?_
  obtain ⟨n2, h⟩ := h
  exact kX6_orderFirst_10 l G hg hA r x1 hkr hk1 C hr n2 (0 : Int32) M1 h
set_option maxRecDepth 100000 in
set_option maxHeartbeats 4000000 in
theorem cX6_toldTurns_M (l : Launch) (G : gP) (hg : gIn G) (hA : gCl G) (r : Nat) (hkr : kd r = 6) (M : Mem) (Q : Int32 → Mem → Prop) : Met l yX6_toldTurns (Cond.code yX6_toldTurns cX6_toldTurns 1 (some (Jvm.ClassFile.FieldType.int)) :: TB) rmX6_toldTurns (va_Pc [.ref (gAD G r)] (fun U => gS G M U ∧ wX6_toldTurns r M Q)) (va_Qi Q (gB G) (gA G)) 0 0 (gA G) := by
  refine gMet (by decide +kernel) (show _ = Cond.code yX6_toldTurns cX6_toldTurns 1 (some (Jvm.ClassFile.FieldType.int)) from rfl) hg (Nat.le_of_ble_eq_true rfl) [(0, .ref (gAD G r))] rfl ?_
  intro p e s m args below meth c C hr h
  have h : Q (if (M r 8) < (M r 1) then (M r 8) else (M r 1)) M := h
  refine wl_aload_n C dX6_toldTurns_0 0 rfl ?_
  refine gf_6_1 C hkr (gic_6 hA hkr) tw_51 dX6_toldTurns_1 ?_
  refine wl_aload_n C dX6_toldTurns_4 0 rfl ?_
  refine gf_6_8 C hkr (gic_6 hA hkr) tw_58 dX6_toldTurns_5 ?_
  refine wl_mmin C tw_357 tw_192 tw_4 tw_193 (by decide) (Nat.le_of_ble_eq_true rfl) (Nat.zero_le _) (Nat.zero_le _) dX6_toldTurns_8 ?_
  exact wl_iret C hr h dX6_toldTurns_11
set_option maxRecDepth 100000 in
set_option maxHeartbeats 4000000 in
theorem cX6_taleLeaf_M (l : Launch) (G : gP) (hg : gIn G) (hA : gCl G) (r : Nat) (x1 : Int32) (hkr : kd r = 6) (M : Mem) (Q : Int32 → Mem → Prop) : Met l yX6_taleLeaf (Cond.code yX6_taleLeaf cX6_taleLeaf 2 (some (Jvm.ClassFile.FieldType.int)) :: TB) rmX6_taleLeaf (va_Pc [.ref (gAD G r), .int x1] (fun U => gS G M U ∧ wX6_taleLeaf r x1 M Q)) (va_Qi Q (gB G) (gA G)) 0 0 (gA G) := by
  refine gMet (by decide +kernel) (show _ = Cond.code yX6_taleLeaf cX6_taleLeaf 2 (some (Jvm.ClassFile.FieldType.int)) from rfl) hg (Nat.le_of_ble_eq_true rfl) [(0, .ref (gAD G r)), (1, .int x1)] rfl ?_
  intro p e s m args below meth c C hr h
  have h : (wX4_at (r + 5) x1 M (fun r2 M1 => Q r2 M1)) := h
  refine wl_aload_n C dX6_taleLeaf_0 0 rfl ?_
  refine gf_6_7 C hkr (gic_6 hA hkr) tw_57 dX6_taleLeaf_1 ?_
  refine wl_iload_n C dX6_taleLeaf_4 1 rfl ?_
  refine wl_callVi C (cX4_at_M l G hg hA (r + 5) x1 (kx_6_5 hkr) M _) h cw_RX6_79 hd_X4_at ⟨rfl, rfl⟩ ⟨by decide, by decide⟩ (gic_4 hA (kx_6_5 hkr)) (gc_k (kx_6_5 hkr)) rfl (As := [.int x1]) (rest := []) rfl (Nat.le_of_ble_eq_true rfl) ⟨Nat.zero_le _, Nat.zero_le _⟩ rfl dX6_taleLeaf_5 (fun r2 M1 h => ?_)
  exact wl_iret C hr h dX6_taleLeaf_8
