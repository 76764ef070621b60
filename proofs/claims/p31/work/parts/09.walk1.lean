set_option maxRecDepth 100000 in
set_option maxHeartbeats 4000000 in
theorem kX4_fill_2 (l : Launch) (G : gP) (hg : gIn G) (hA : gCl G) (r : Nat) (x1 : Int32) (hkr : kd r = 4) {p : Program} {e : Env} {s : State} {m : MethodId} {args : Array Value} {below : List Frame} {meth : Method} {c : Code} (C : Cx p s m args meth c G (gA G) cX4_fill 3 RX4) (hr : meth.sig.returnType = none) {Q : Mem → Prop} : ∀ (n : Nat) (v2 : Int32) (M : Mem), wX4_fill_2 r x1 Q n v2 M → Wl p l e rmX4_fill s m args below meth c (MQ below (va_Qv Q (gB G) (gA G)) args s 0 0 (gA G)) G (gA G) 3 0 0 M 2 [(0, .ref (gAD G r)), (1, .int x1), (2, .int v2)] [] := by
  intro n
  induction n with
  | zero => intro v2 M h; exact h.elim
  | succ n ih =>
    intro v2 M h
    have h : (((Int32.ofNat (ln (r + 1))) ≤ v2 → Q M) ∧ (¬ (Int32.ofNat (ln (r + 1))) ≤ v2 → (vp_in v2 (ln (r + 1)) ∧ wX4_fill_2 r x1 Q n (v2 + (1 : Int32)) (mu M (r + 1) v2.toNatClampNeg x1)))) := h
    refine wl_iload_n C dX4_fill_2 2 rfl ?_
    refine wl_aload_n C dX4_fill_3 0 rfl ?_
    refine gf_4_0 C hkr (gic_4 hA hkr) tw_32 dX4_fill_4 ?_
    refine ga_len9 C (kx_4_1 hkr) (gic_9 hA (kx_4_1 hkr)) dX4_fill_7 ?_
    refine wl_icmp_ge C (tgt := 24) dX4_fill_8 (by decide) (fun hc => ?_) (fun hc => ?_)
    · have h := h.1 hc
      exact wl_vret C hr h dX4_fill_24
    · have h := h.2 hc
      refine wl_aload_n C dX4_fill_11 0 rfl ?_
      refine gf_4_0 C hkr (gic_4 hA hkr) tw_32 dX4_fill_12 ?_
      refine wl_iload_n C dX4_fill_15 2 rfl ?_
      refine wl_iload_n C dX4_fill_16 1 rfl ?_
      refine ga_st9 C (kx_4_1 hkr) (gic_9 hA (kx_4_1 hkr)) h.1 dX4_fill_17 ?_
      have h := h.2
      refine wl_iinc (v := (v2 + (1 : Int32))) (lv' := [(2, .int (v2 + (1 : Int32))), (0, .ref (gAD G r)), (1, .int x1)]) C dX4_fill_18 2 rfl (by rfl) (by decide) rfl ?_
      refine wl_goto C (tgt := 2) dX4_fill_21 (by decide) ?_
      refine wl_sub [1, 2, 0] rfl ?_
      exact ih (v2 + (1 : Int32)) (mu M (r + 1) v2.toNatClampNeg x1) h
set_option maxRecDepth 100000 in
set_option maxHeartbeats 4000000 in
theorem cX4_fill_M (l : Launch) (G : gP) (hg : gIn G) (hA : gCl G) (r : Nat) (x1 : Int32) (hkr : kd r = 4) (M : Mem) (Q : Mem → Prop) : Met l yX4_fill (Cond.code yX4_fill cX4_fill 3 none :: TB) rmX4_fill (va_Pc [.ref (gAD G r), .int x1] (fun U => gS G M U ∧ wX4_fill r x1 M Q)) (va_Qv Q (gB G) (gA G)) 0 0 (gA G) := by
  refine gMet (by decide +kernel) (show _ = Cond.code yX4_fill cX4_fill 3 none from rfl) hg (Nat.le_of_ble_eq_true rfl) [(0, .ref (gAD G r)), (1, .int x1)] rfl ?_
  intro p e s m args below meth c C hr h
  have h : (∃ n1, wX4_fill_2 r x1 Q n1 (0 : Int32) M) := h
  refine wl_iconst (v := 0) C dX4_fill_0 (by decide) ?_
  refine wl_istore_n (i := 2) (lv' := [(2, .int (0 : Int32)), (0, .ref (gAD G r)), (1, .int x1)]) C dX4_fill_1 rfl (by decide) rfl ?_
  refine wl_sub [1, 2, 0] rfl ?_
  obtain ⟨n1, h⟩ := h
  exact kX4_fill_2 l G hg hA r x1 hkr C hr n1 (0 : Int32) M h
set_option maxRecDepth 100000 in
set_option maxHeartbeats 4000000 in
theorem cX0_begin_M (l : Launch) (G : gP) (hg : gIn G) (hA : gCl G) (r : Nat) (x1 : Int32) (hkr : kd r = 0) (M : Mem) (Q : Mem → Prop) : Met l yX0_begin (Cond.code yX0_begin cX0_begin 2 none :: TB) rmX0_begin (va_Pc [.ref (gAD G r), .int x1] (fun U => gS G M U ∧ wX0_begin r x1 M Q)) (va_Qv Q (gB G) (gA G)) 0 0 (gA G) := by
  refine gMet (by decide +kernel) (show _ = Cond.code yX0_begin cX0_begin 2 none from rfl) hg (Nat.le_of_ble_eq_true rfl) [(0, .ref (gAD G r)), (1, .int x1)] rfl ?_
  intro p e s m args below meth c C hr h
  have h : (((1 : Int32) = 0 ∨ (1 : Int32) = 1) ∧ (wX4_fill (r + 1) (-4 : Int32) (mu (mu (mu M r 2 x1) r 3 (0 : Int32)) r 4 (1 : Int32)) (fun M1 => (wX4_fill (r + 3) (-4 : Int32) M1 (fun M2 => Q M2))))) := h
  refine wl_aload_n C dX0_begin_0 0 rfl ?_
  refine wl_iload_n C dX0_begin_1 1 rfl ?_
  refine gp_0_2 C hkr (gic_0 hA hkr) tw_118 dX0_begin_2 ?_
  refine wl_aload_n C dX0_begin_5 0 rfl ?_
  refine wl_iconst (v := 0) C dX0_begin_6 (by decide) ?_
  refine gp_0_3 C hkr (gic_0 hA hkr) tw_119 dX0_begin_7 ?_
  refine wl_aload_n C dX0_begin_10 0 rfl ?_
  refine wl_iconst (v := 1) C dX0_begin_11 (by decide) ?_
  refine gp_0_4 C hkr (gic_0 hA hkr) tw_120 h.1 dX0_begin_12 ?_
  have h := h.2
  refine wl_aload_n C dX0_begin_15 0 rfl ?_
  refine gf_0_0 C hkr (gic_0 hA hkr) tw_116 dX0_begin_16 ?_
  refine wl_bipush (v := (-4)) C dX0_begin_19 (by decide) ?_
  refine wl_callVv C (cX4_fill_M l G hg hA (r + 1) (-4 : Int32) (kx_0_1 hkr) (mu (mu (mu M r 2 x1) r 3 (0 : Int32)) r 4 (1 : Int32)) _) h cw_RX0_34 hd_X4_fill ⟨rfl, rfl⟩ ⟨by decide, by decide⟩ (gic_4 hA (kx_0_1 hkr)) (gc_k (kx_0_1 hkr)) rfl (As := [.int (-4 : Int32)]) (rest := []) rfl (Nat.le_of_ble_eq_true rfl) ⟨Nat.zero_le _, Nat.zero_le _⟩ rfl dX0_begin_21 (fun M1 h => ?_)
  refine wl_aload_n C dX0_begin_24 0 rfl ?_
  refine gf_0_1 C hkr (gic_0 hA hkr) tw_117 dX0_begin_25 ?_
  refine wl_bipush (v := (-4)) C dX0_begin_28 (by decide) ?_
  refine wl_callVv C (cX4_fill_M l G hg hA (r + 3) (-4 : Int32) (kx_0_3 hkr) M1 _) h cw_RX0_34 hd_X4_fill ⟨rfl, rfl⟩ ⟨by decide, by decide⟩ (gic_4 hA (kx_0_3 hkr)) (gc_k (kx_0_3 hkr)) rfl (As := [.int (-4 : Int32)]) (rest := []) rfl (Nat.le_of_ble_eq_true rfl) ⟨Nat.zero_le _, Nat.zero_le _⟩ rfl dX0_begin_30 (fun M2 h => ?_)
  exact wl_vret C hr h dX0_begin_33
set_option maxRecDepth 100000 in
set_option maxHeartbeats 4000000 in
theorem kX4_at_24 (l : Launch) (G : gP) (hg : gIn G) (hA : gCl G) (r : Nat) (x1 : Int32) (hkr : kd r = 4) {p : Program} {e : Env} {s : State} {m : MethodId} {args : Array Value} {below : List Frame} {meth : Method} {c : Code} (C : Cx p s m args meth c G (gA G) cX4_at 2 RX4) (hr : meth.sig.returnType = (some (Jvm.ClassFile.FieldType.int))) {Q : Int32 → Mem → Prop} (s0 : Int32) (M : Mem) (h : wX4_at_24 r x1 Q s0 M) : Wl p l e rmX4_at s m args below meth c (MQ below (va_Qi Q (gB G) (gA G)) args s 0 0 (gA G)) G (gA G) 2 0 0 M 24 [] [.int s0] := by
  have h : Q s0 M := h
  exact wl_iret C hr h dX4_at_24
set_option maxRecDepth 100000 in
set_option maxHeartbeats 4000000 in
theorem kX4_at_22 (l : Launch) (G : gP) (hg : gIn G) (hA : gCl G) (r : Nat) (x1 : Int32) (hkr : kd r = 4) {p : Program} {e : Env} {s : State} {m : MethodId} {args : Array Value} {below : List Frame} {meth : Method} {c : Code} (C : Cx p s m args meth c G (gA G) cX4_at 2 RX4) (hr : meth.sig.returnType = (some (Jvm.ClassFile.FieldType.int))) {Q : Int32 → Mem → Prop} (M : Mem) (h : wX4_at_22 r x1 Q M) : Wl p l e rmX4_at s m args below meth c (MQ below (va_Qi Q (gB G) (gA G)) args s 0 0 (gA G)) G (gA G) 2 0 0 M 22 [] [] := by
  have h : wX4_at_24 r x1 Q (-4 : Int32) M := h
  refine wl_bipush (v := (-4)) C dX4_at_22 (by decide) ?_
  refine wl_sub [] rfl ?_
  exact kX4_at_24 l G hg hA r x1 hkr C hr (-4 : Int32) M h
set_option maxRecDepth 100000 in
set_option maxHeartbeats 4000000 in
theorem cX4_at_M (l : Launch) (G : gP) (hg : gIn G) (hA : gCl G) (r : Nat) (x1 : Int32) (hkr : kd r = 4) (M : Mem) (Q : Int32 → Mem → Prop) : Met l yX4_at (Cond.code yX4_at cX4_at 2 (some (Jvm.ClassFile.FieldType.int)) :: TB) rmX4_at (va_Pc [.ref (gAD G r), .int x1] (fun U => gS G M U ∧ wX4_at r x1 M Q)) (va_Qi Q (gB G) (gA G)) 0 0 (gA G) := by
  refine gMet (by decide +kernel) (show _ = Cond.code yX4_at cX4_at 2 (some (Jvm.ClassFile.FieldType.int)) from rfl) hg (Nat.le_of_ble_eq_true rfl) [(0, .ref (gAD G r)), (1, .int x1)] rfl ?_
  intro p e s m args below meth c C hr h
  have h : ((x1 < 0 → wX4_at_22 r x1 Q M) ∧ (¬ x1 < 0 → (((Int32.ofNat (ln (r + 1))) ≤ x1 → wX4_at_22 r x1 Q M) ∧ (¬ (Int32.ofNat (ln (r + 1))) ≤ x1 → (vp_in x1 (ln (r + 1)) ∧ wX4_at_24 r x1 Q (M (r + 1) x1.toNatClampNeg) M))))) := h
  refine wl_iload_n C dX4_at_0 1 rfl ?_
  refine wl_if_lt C (tgt := 22) dX4_at_1 (by decide) (fun hc => ?_) (fun hc => ?_)
  · have h := h.1 hc
    refine wl_sub [] rfl ?_
    exact kX4_at_22 l G hg hA r x1 hkr C hr M h
  · have h := h.2 hc
    refine wl_iload_n C dX4_at_4 1 rfl ?_
    refine wl_aload_n C dX4_at_5 0 rfl ?_
    refine gf_4_0 C hkr (gic_4 hA hkr) tw_32 dX4_at_6 ?_
    refine ga_len9 C (kx_4_1 hkr) (gic_9 hA (kx_4_1 hkr)) dX4_at_9 ?_
    refine wl_icmp_ge C (tgt := 22) dX4_at_10 (by decide) (fun hc => ?_) (fun hc => ?_)
    · have h := h.1 hc
      refine wl_sub [] rfl ?_
      exact kX4_at_22 l G hg hA r x1 hkr C hr M h
    · have h := h.2 hc
      refine wl_aload_n C dX4_at_13 0 rfl ?_
      refine gf_4_0 C hkr (gic_4 hA hkr) tw_32 dX4_at_14 ?_
      refine wl_iload_n C dX4_at_17 1 rfl ?_
      refine ga_ld9 C (kx_4_1 hkr) (gic_9 hA (kx_4_1 hkr)) h.1 dX4_at_18 ?_
      have h := h.2
      refine wl_goto C (tgt := 24) dX4_at_19 (by decide) ?_
      refine wl_sub [] rfl ?_
      exact kX4_at_24 l G hg hA r x1 hkr C hr (M (r + 1) x1.toNatClampNeg) M h
set_option maxRecDepth 100000 in
set_option maxHeartbeats 4000000 in
theorem kX4_put_20 (l : Launch) (G : gP) (hg : gIn G) (hA : gCl G) (r : Nat) (x1 : Int32) (x2 : Int32) (hkr : kd r = 4) {p : Program} {e : Env} {s : State} {m : MethodId} {args : Array Value} {below : List Frame} {meth : Method} {c : Code} (C : Cx p s m args meth c G (gA G) cX4_put 3 RX4) (hr : meth.sig.returnType = none) {Q : Mem → Prop} (M : Mem) (h : wX4_put_20 r x1 x2 Q M) : Wl p l e rmX4_put s m args below meth c (MQ below (va_Qv Q (gB G) (gA G)) args s 0 0 (gA G)) G (gA G) 3 0 0 M 20 [] [] := by
  have h : Q M := h
  exact wl_vret C hr h dX4_put_20
set_option maxRecDepth 100000 in
set_option maxHeartbeats 4000000 in
theorem cX4_put_M (l : Launch) (G : gP) (hg : gIn G) (hA : gCl G) (r : Nat) (x1 : Int32) (x2 : Int32) (hkr : kd r = 4) (M : Mem) (Q : Mem → Prop) : Met l yX4_put (Cond.code yX4_put cX4_put 3 none :: TB) rmX4_put (va_Pc [.ref (gAD G r), .int x1, .int x2] (fun U => gS G M U ∧ wX4_put r x1 x2 M Q)) (va_Qv Q (gB G) (gA G)) 0 0 (gA G) := by
  refine gMet (by decide +kernel) (show _ = Cond.code yX4_put cX4_put 3 none from rfl) hg (Nat.le_of_ble_eq_true rfl) [(0, .ref (gAD G r)), (1, .int x1), (2, .int x2)] rfl ?_
  intro p e s m args below meth c C hr h
  have h : ((x1 < 0 → wX4_put_20 r x1 x2 Q M) ∧ (¬ x1 < 0 → (((Int32.ofNat (ln (r + 1))) ≤ x1 → wX4_put_20 r x1 x2 Q M) ∧ (¬ (Int32.ofNat (ln (r + 1))) ≤ x1 → (vp_in x1 (ln (r + 1)) ∧ wX4_put_20 r x1 x2 Q (mu M (r + 1) x1.toNatClampNeg x2)))))) := h
  refine wl_iload_n C dX4_put_0 1 rfl ?_
  refine wl_if_lt C (tgt := 20) dX4_put_1 (by decide) (fun hc => ?_) (fun hc => ?_)
  · have h := h.1 hc
    refine wl_sub [] rfl ?_
    exact kX4_put_20 l G hg hA r x1 x2 hkr C hr M h
  · have h := h.2 hc
    refine wl_iload_n C dX4_put_4 1 rfl ?_
    refine wl_aload_n C dX4_put_5 0 rfl ?_
    refine gf_4_0 C hkr (gic_4 hA hkr) tw_32 dX4_put_6 ?_
    refine ga_len9 C (kx_4_1 hkr) (gic_9 hA (kx_4_1 hkr)) dX4_put_9 ?_
    refine wl_icmp_ge C (tgt := 20) dX4_put_10 (by decide) (fun hc => ?_) (fun hc => ?_)
    · have h := h.1 hc
      refine wl_sub [] rfl ?_
      exact kX4_put_20 l G hg hA r x1 x2 hkr C hr M h
    · have h := h.2 hc
      refine wl_aload_n C dX4_put_13 0 rfl ?_
      refine gf_4_0 C hkr (gic_4 hA hkr) tw_32 dX4_put_14 ?_
      refine wl_iload_n C dX4_put_17 1 rfl ?_
      refine wl_iload_n C dX4_put_18 2 rfl ?_
      refine ga_st9 C (kx_4_1 hkr) (gic_9 hA (kx_4_1 hkr)) h.1 dX4_put_19 ?_
      have h := h.2
      refine wl_sub [] rfl ?_
      exact kX4_put_20 l G hg hA r x1 x2 hkr C hr (mu M (r + 1) x1.toNatClampNeg x2) h
set_option maxRecDepth 100000 in
set_option maxHeartbeats 4000000 in
theorem kX0_bind_73 (l : Launch) (G : gP) (hg : gIn G) (hA : gCl G) (r : Nat) (x1 : Int32) (x2 : Int32) (hkr : kd r = 0) {p : Program} {e : Env} {s : State} {m : MethodId} {args : Array Value} {below : List Frame} {meth : Method} {c : Code} (C : Cx p s m args meth c G (gA G) cX0_bind 5 RX0) (hr : meth.sig.returnType = none) {Q : Mem → Prop} (M : Mem) (h : wX0_bind_73 r x1 x2 Q M) : Wl p l e rmX0_bind s m args below meth c (MQ below (va_Qv Q (gB G) (gA G)) args s 0 0 (gA G)) G (gA G) 5 0 0 M 73 [] [] := by
  have h : Q M := h
  exact wl_vret C hr h dX0_bind_73
set_option maxRecDepth 100000 in
set_option maxHeartbeats 4000000 in
theorem kX0_bind_63 (l : Launch) (G : gP) (hg : gIn G) (hA : gCl G) (r : Nat) (x1 : Int32) (x2 : Int32) (hkr : kd r = 0) {p : Program} {e : Env} {s : State} {m : MethodId} {args : Array Value} {below : List Frame} {meth : Method} {c : Code} (C : Cx p s m args meth c G (gA G) cX0_bind 5 RX0) (hr : meth.sig.returnType = none) {Q : Mem → Prop} (v3 : Int32) (M : Mem) (h : wX0_bind_63 r x1 x2 Q v3 M) : Wl p l e rmX0_bind s m args below meth c (MQ below (va_Qv Q (gB G) (gA G)) args s 0 0 (gA G)) G (gA G) 5 0 0 M 63 [(0, .ref (gAD G r)), (2, .int x2), (3, .int v3)] [] := by
  have h : ((v3 = x2 → wX0_bind_73 r x1 x2 Q M) ∧ (¬ v3 = x2 → (((0 : Int32) = 0 ∨ (0 : Int32) = 1) ∧ wX0_bind_73 r x1 x2 Q (mu M r 4 (0 : Int32))))) := h
  refine wl_iload_n C dX0_bind_63 2 rfl ?_
  refine wl_iload_n C dX0_bind_64 1 rfl ?_
  refine wl_icmp_eq C (tgt := 73) dX0_bind_65 (by decide) (fun hc => ?_) (fun hc => ?_)
  · have h := h.1 hc
    refine wl_sub [] rfl ?_
    exact kX0_bind_73 l G hg hA r x1 x2 hkr C hr M h
  · have h := h.2 hc
    refine wl_aload_n C dX0_bind_68 0 rfl ?_
    refine wl_iconst (v := 0) C dX0_bind_69 (by decide) ?_
    refine gp_0_4 C hkr (gic_0 hA hkr) tw_120 h.1 dX0_bind_70 ?_
    have h := h.2
    refine wl_sub [] rfl ?_
    exact kX0_bind_73 l G hg hA r x1 x2 hkr C hr (mu M r 4 (0 : Int32)) h
set_option maxRecDepth 100000 in
set_option maxHeartbeats 4000000 in
theorem cX0_bind_M (l : Launch) (G : gP) (hg : gIn G) (hA : gCl G) (r : Nat) (x1 : Int32) (x2 : Int32) (hkr : kd r = 0) (M : Mem) (Q : Mem → Prop) : Met l yX0_bind (Cond.code yX0_bind cX0_bind 5 none :: TB) rmX0_bind (va_Pc [.ref (gAD G r), .int x1, .int x2] (fun U => gS G M U ∧ wX0_bind r x1 x2 M Q)) (va_Qv Q (gB G) (gA G)) 0 0 (gA G) := by
  refine gMet (by decide +kernel) (show _ = Cond.code yX0_bind cX0_bind 5 none from rfl) hg (Nat.le_of_ble_eq_true rfl) [(0, .ref (gAD G r)), (1, .int x1), (2, .int x2)] rfl ?_
  intro p e s m args below meth c C hr h
  have h : (wX4_at (r + 1) x1 M (fun r2 M1 => (wX4_at (r + 3) x2 M1 (fun r4 M3 => ((¬ r2 = (-4 : Int32) → wX0_bind_63 r x1 x2 Q r2 M3) ∧ (r2 = (-4 : Int32) → ((¬ r4 = (-4 : Int32) → wX0_bind_63 r x1 x2 Q r2 M3) ∧ (r4 = (-4 : Int32) → (wX4_put (r + 1) x1 x2 M3 (fun M5 => (wX4_put (r + 3) x2 x1 M5 (fun M6 => wX0_bind_73 r x1 x2 Q (mu M6 r 3 ((M6 r 3) + (1 : Int32))))))))))))))) := h
  refine wl_aload_n C dX0_bind_0 0 rfl ?_
  refine gf_0_0 C hkr (gic_0 hA hkr) tw_116 dX0_bind_1 ?_
  refine wl_iload_n C dX0_bind_4 1 rfl ?_
  refine wl_callVi C (cX4_at_M l G hg hA (r + 1) x1 (kx_0_1 hkr) M _) h cw_RX0_37 hd_X4_at ⟨rfl, rfl⟩ ⟨by decide, by decide⟩ (gic_4 hA (kx_0_1 hkr)) (gc_k (kx_0_1 hkr)) rfl (As := [.int x1]) (rest := []) rfl (Nat.le_of_ble_eq_true rfl) ⟨Nat.zero_le _, Nat.zero_le _⟩ rfl dX0_bind_5 (fun r2 M1 h => ?_)
  refine wl_istore_n (i := 3) (lv' := [(3, .int r2), (0, .ref (gAD G r)), (1, .int x1), (2, .int x2)]) C dX0_bind_8 rfl (by decide) rfl ?_
  refine wl_aload_n C dX0_bind_9 1 rfl ?_
  refine gf_0_1 C hkr (gic_0 hA hkr) tw_117 dX0_bind_10 ?_
  refine wl_iload_n C dX0_bind_13 3 rfl ?_
  refine wl_callVi C (cX4_at_M l G hg hA (r + 3) x2 (kx_0_3 hkr) M1 _) h cw_RX0_37 hd_X4_at ⟨rfl, rfl⟩ ⟨by decide, by decide⟩ (gic_4 hA (kx_0_3 hkr)) (gc_k (kx_0_3 hkr)) rfl (As := [.int x2]) (rest := []) rfl (Nat.le_of_ble_eq_true rfl) ⟨Nat.zero_le _, Nat.zero_le _⟩ rfl dX0_bind_14 (fun r4 M3 h => ?_)
  refine wl_istore (i := 4) (lv' := [(4, .int r4), (3, .int r2), (0, .ref (gAD G r)), (1, .int x1), (2, .int x2)]) C dX0_bind_17 (by decide) rfl ?_
  refine wl_iload_n C dX0_bind_19 1 rfl ?_
  refine wl_bipush (v := (-4)) C dX0_bind_20 (by decide) ?_
  refine wl_icmp_ne C (tgt := 63) dX0_bind_22 (by decide) (fun hc => ?_) (fun hc => ?_)
  · have h := h.1 hc
    refine wl_sub [2, 4, 1] rfl ?_
    exact kX0_bind_63 l G hg hA r x1 x2 hkr C hr r2 M3 h
  · have h := h.2 hc
    refine wl_iload C dX0_bind_25 0 rfl ?_
    refine wl_bipush (v := (-4)) C dX0_bind_27 (by decide) ?_
    refine wl_icmp_ne C (tgt := 63) dX0_bind_29 (by decide) (fun hc => ?_) (fun hc => ?_)
    · have h := h.1 hc
      refine wl_sub [2, 4, 1] rfl ?_
      exact kX0_bind_63 l G hg hA r x1 x2 hkr C hr r2 M3 h
    · have h := h.2 hc
      refine wl_aload_n C dX0_bind_32 2 rfl ?_
      refine gf_0_0 C hkr (gic_0 hA hkr) tw_116 dX0_bind_33 ?_
      refine wl_iload_n C dX0_bind_36 3 rfl ?_
      refine wl_iload_n C dX0_bind_37 4 rfl ?_
      refine wl_callVv C (cX4_put_M l G hg hA (r + 1) x1 x2 (kx_0_1 hkr) M3 _) h cw_RX0_41 hd_X4_put ⟨rfl, rfl⟩ ⟨by decide, by decide⟩ (gic_4 hA (kx_0_1 hkr)) (gc_k (kx_0_1 hkr)) rfl (As := [.int x1, .int x2]) (rest := []) rfl (Nat.le_of_ble_eq_true rfl) ⟨Nat.zero_le _, Nat.zero_le _⟩ rfl dX0_bind_38 (fun M5 h => ?_)
      refine wl_aload_n C dX0_bind_41 2 rfl ?_
      refine gf_0_1 C hkr (gic_0 hA hkr) tw_117 dX0_bind_42 ?_
      refine wl_iload_n C dX0_bind_45 4 rfl ?_
      refine wl_iload_n C dX0_bind_46 3 rfl ?_
      refine wl_callVv C (cX4_put_M l G hg hA (r + 3) x2 x1 (kx_0_3 hkr) M5 _) h cw_RX0_41 hd_X4_put ⟨rfl, rfl⟩ ⟨by decide, by decide⟩ (gic_4 hA (kx_0_3 hkr)) (gc_k (kx_0_3 hkr)) rfl (As := [.int x2, .int x1]) (rest := []) rfl (Nat.le_of_ble_eq_true rfl) ⟨Nat.zero_le _, Nat.zero_le _⟩ rfl dX0_bind_47 (fun M6 h => ?_)
      refine wl_aload_n C dX0_bind_50 2 rfl ?_
      refine wl_dup C dX0_bind_51 rfl ?_
      refine gf_0_3 C hkr (gic_0 hA hkr) tw_119 dX0_bind_52 ?_
      refine wl_iconst (v := 1) C dX0_bind_55 (by decide) ?_
      refine wl_iadd C dX0_bind_56 ?_
      refine gp_0_3 C hkr (gic_0 hA hkr) tw_119 dX0_bind_57 ?_
      refine wl_goto C (tgt := 73) dX0_bind_60 (by decide) ?_
      refine wl_sub [] rfl ?_
      exact kX0_bind_73 l G hg hA r x1 x2 hkr C hr (mu M6 r 3 ((M6 r 3) + (1 : Int32))) h
set_option maxRecDepth 100000 in
set_option maxHeartbeats 4000000 in
theorem cX0_holds_M (l : Launch) (G : gP) (hg : gIn G) (hA : gCl G) (r : Nat) (hkr : kd r = 0) (M : Mem) (Q : Int32 → Mem → Prop) : Met l yX0_holds (Cond.code yX0_holds cX0_holds 1 (some (Jvm.ClassFile.FieldType.boolean)) :: TB) rmX0_holds (va_Pc [.ref (gAD G r)] (fun U => gS G M U ∧ wX0_holds r M Q)) (va_Qi Q (gB G) (gA G)) 0 0 (gA G) := by
  refine gMet (by decide +kernel) (show _ = Cond.code yX0_holds cX0_holds 1 (some (Jvm.ClassFile.FieldType.boolean)) from rfl) hg (Nat.le_of_ble_eq_true rfl) [(0, .ref (gAD G r))] rfl ?_
  intro p e s m args below meth c C hr h
  have h : (((M r 4) = 0 ∨ (M r 4) = 1) ∧ Q (M r 4) M) := h
  refine wl_aload_n C dX0_holds_0 0 rfl ?_
  refine gf_0_4 C hkr (gic_0 hA hkr) tw_120 dX0_holds_1 ?_
  exact wl_zret C hr h.1 h.2 dX0_holds_4
set_option maxRecDepth 100000 in
set_option maxHeartbeats 4000000 in
theorem kX0_isAllButOne_18 (l : Launch) (G : gP) (hg : gIn G) (hA : gCl G) (r : Nat) (hkr : kd r = 0) {p : Program} {e : Env} {s : State} {m : MethodId} {args : Array Value} {below : List Frame} {meth : Method} {c : Code} (C : Cx p s m args meth c G (gA G) cX0_isAllButOne 1 RX0) (hr : meth.sig.returnType = (some (Jvm.ClassFile.FieldType.boolean))) {Q : Int32 → Mem → Prop} (s0 : Int32) (M : Mem) (h : wX0_isAllButOne_18 r Q s0 M) : Wl p l e rmX0_isAllButOne s m args below meth c (MQ below (va_Qi Q (gB G) (gA G)) args s 0 0 (gA G)) G (gA G) 1 0 0 M 18 [] [.int s0] := by
  have h : ((s0 = 0 ∨ s0 = 1) ∧ Q s0 M) := h
  exact wl_zret C hr h.1 h.2 dX0_isAllButOne_18
set_option maxRecDepth 100000 in
set_option maxHeartbeats 4000000 in
theorem cX0_isAllButOne_M (l : Launch) (G : gP) (hg : gIn G) (hA : gCl G) (r : Nat) (hkr : kd r = 0) (M : Mem) (Q : Int32 → Mem → Prop) : Met l yX0_isAllButOne (Cond.code yX0_isAllButOne cX0_isAllButOne 1 (some (Jvm.ClassFile.FieldType.boolean)) :: TB) rmX0_isAllButOne (va_Pc [.ref (gAD G r)] (fun U => gS G M U ∧ wX0_isAllButOne r M Q)) (va_Qi Q (gB G) (gA G)) 0 0 (gA G) := by
  refine gMet (by decide +kernel) (show _ = Cond.code yX0_isAllButOne cX0_isAllButOne 1 (some (Jvm.ClassFile.FieldType.boolean)) from rfl) hg (Nat.le_of_ble_eq_true rfl) [(0, .ref (gAD G r))] rfl ?_
  intro p e s m args below meth c C hr h
  have h : ((¬ (M r 3) = ((M r 2) - (1 : Int32)) → wX0_isAllButOne_18 r Q (0 : Int32) M) ∧ ((M r 3) = ((M r 2) - (1 : Int32)) → wX0_isAllButOne_18 r Q (1 : Int32) M)) := h
  refine wl_aload_n C dX0_isAllButOne_0 0 rfl ?_
  refine gf_0_3 C hkr (gic_0 hA hkr) tw_119 dX0_isAllButOne_1 ?_
  refine wl_aload_n C dX0_isAllButOne_4 0 rfl ?_
  refine gf_0_2 C hkr (gic_0 hA hkr) tw_118 dX0_isAllButOne_5 ?_
  refine wl_iconst (v := 1) C dX0_isAllButOne_8 (by decide) ?_
  refine wl_isub C dX0_isAllButOne_9 ?_
  refine wl_icmp_ne C (tgt := 17) dX0_isAllButOne_10 (by decide) (fun hc => ?_) (fun hc => ?_)
  · have h := h.1 hc
    refine wl_iconst (v := 0) C dX0_isAllButOne_17 (by decide) ?_
    refine wl_sub [] rfl ?_
    exact kX0_isAllButOne_18 l G hg hA r hkr C hr (0 : Int32) M h
  · have h := h.2 hc
    refine wl_iconst (v := 1) C dX0_isAllButOne_13 (by decide) ?_
    refine wl_goto C (tgt := 18) dX0_isAllButOne_14 (by decide) ?_
    refine wl_sub [] rfl ?_
    exact kX0_isAllButOne_18 l G hg hA r hkr C hr (1 : Int32) M h
set_option maxRecDepth 100000 in
set_option maxHeartbeats 4000000 in
theorem cX0_leafAt_M (l : Launch) (G : gP) (hg : gIn G) (hA : gCl G) (r : Nat) (x1 : Int32) (hkr : kd r = 0) (M : Mem) (Q : Int32 → Mem → Prop) : Met l yX0_leafAt (Cond.code yX0_leafAt cX0_leafAt 2 (some (Jvm.ClassFile.FieldType.int)) :: TB) rmX0_leafAt (va_Pc [.ref (gAD G r), .int x1] (fun U => gS G M U ∧ wX0_leafAt r x1 M Q)) (va_Qi Q (gB G) (gA G)) 0 0 (gA G) := by
  refine gMet (by decide +kernel) (show _ = Cond.code yX0_leafAt cX0_leafAt 2 (some (Jvm.ClassFile.FieldType.int)) from rfl) hg (Nat.le_of_ble_eq_true rfl) [(0, .ref (gAD G r)), (1, .int x1)] rfl ?_
  intro p e s m args below meth c C hr h
  have h : (wX4_at (r + 1) x1 M (fun r2 M1 => Q r2 M1)) := h
  refine wl_aload_n C dX0_leafAt_0 0 rfl ?_
  refine gf_0_0 C hkr (gic_0 hA hkr) tw_116 dX0_leafAt_1 ?_
  refine wl_iload_n C dX0_leafAt_4 1 rfl ?_
  refine wl_callVi C (cX4_at_M l G hg hA (r + 1) x1 (kx_0_1 hkr) M _) h cw_RX0_37 hd_X4_at ⟨rfl, rfl⟩ ⟨by decide, by decide⟩ (gic_4 hA (kx_0_1 hkr)) (gc_k (kx_0_1 hkr)) rfl (As := [.int x1]) (rest := []) rfl (Nat.le_of_ble_eq_true rfl) ⟨Nat.zero_le _, Nat.zero_le _⟩ rfl dX0_leafAt_5 (fun r2 M1 h => ?_)
  exact wl_iret C hr h dX0_leafAt_8
set_option maxRecDepth 100000 in
set_option maxHeartbeats 4000000 in
theorem kX0_fillUp_58 (l : Launch) (G : gP) (hg : gIn G) (hA : gCl G) (r : Nat) (hkr : kd r = 0) {p : Program} {e : Env} {s : State} {m : MethodId} {args : Array Value} {below : List Frame} {meth : Method} {c : Code} (C : Cx p s m args meth c G (gA G) cX0_fillUp 3 RX0) (hr : meth.sig.returnType = none) {Q : Mem → Prop} (k_4 : Int32 → Int32 → Mem → Prop) (hk_4 : ∀ (v1 : Int32) (v2 : Int32) (M : Mem), k_4 v1 v2 M → Wl p l e rmX0_fillUp s m args below meth c (MQ below (va_Qv Q (gB G) (gA G)) args s 0 0 (gA G)) G (gA G) 3 0 0 M 4 [(0, .ref (gAD G r)), (1, .int v1), (2, .int v2)] []) (v1 : Int32) (v2 : Int32) (M : Mem) (h : wX0_fillUp_58 r k_4 Q v1 v2 M) : Wl p l e rmX0_fillUp s m args below meth c (MQ below (va_Qv Q (gB G) (gA G)) args s 0 0 (gA G)) G (gA G) 3 0 0 M 58 [(0, .ref (gAD G r)), (1, .int v1), (2, .int v2)] [] := by
  have h : k_4 v1 (v2 + (1 : Int32)) M := h
  refine wl_iinc (v := (v2 + (1 : Int32))) (lv' := [(2, .int (v2 + (1 : Int32))), (0, .ref (gAD G r)), (1, .int v1)]) C dX0_fillUp_58 2 rfl (by rfl) (by decide) rfl ?_
  refine wl_goto C (tgt := 4) dX0_fillUp_61 (by decide) ?_
  refine wl_sub [1, 2, 0] rfl ?_
  exact hk_4 v1 (v2 + (1 : Int32)) M h
set_option maxRecDepth 100000 in
set_option maxHeartbeats 4000000 in
theorem kX0_fillUp_52 (l : Launch) (G : gP) (hg : gIn G) (hA : gCl G) (r : Nat) (hkr : kd r = 0) {p : Program} {e : Env} {s : State} {m : MethodId} {args : Array Value} {below : List Frame} {meth : Method} {c : Code} (C : Cx p s m args meth c G (gA G) cX0_fillUp 3 RX0) (hr : meth.sig.returnType = none) {Q : Mem → Prop} (k_4 : Int32 → Int32 → Mem → Prop) (hk_4 : ∀ (v1 : Int32) (v2 : Int32) (M : Mem), k_4 v1 v2 M → Wl p l e rmX0_fillUp s m args below meth c (MQ below (va_Qv Q (gB G) (gA G)) args s 0 0 (gA G)) G (gA G) 3 0 0 M 4 [(0, .ref (gAD G r)), (1, .int v1), (2, .int v2)] []) (v1 : Int32) (v2 : Int32) (M : Mem) (h : wX0_fillUp_52 r k_4 Q v1 v2 M) : Wl p l e rmX0_fillUp s m args below meth c (MQ below (va_Qv Q (gB G) (gA G)) args s 0 0 (gA G)) G (gA G) 3 0 0 M 52 [(0, .ref (gAD G r)), (1, .int v1), (2, .int v2)] [] := by
  have h : (wX0_bind r v1 v2 M (fun M7 => wX0_fillUp_58 r (k_4) Q v1 v2 M7)) := h
  refine wl_aload_n C dX0_fillUp_52 0 rfl ?_
  refine wl_iload_n C dX0_fillUp_53 1 rfl ?_
  refine wl_iload_n C dX0_fillUp_54 2 rfl ?_
  refine wl_callVv C (cX0_bind_M l G hg hA r v1 v2 hkr M _) h cw_RX0_45 hd_X0_bind ⟨rfl, rfl⟩ ⟨by decide, by decide⟩ (gic_0 hA hkr) (gc_k hkr) rfl (As := [.int v1, .int v2]) (rest := []) rfl (Nat.le_of_ble_eq_true rfl) ⟨Nat.zero_le _, Nat.zero_le _⟩ rfl dX0_fillUp_55 (fun M7 h => ?_)
  refine wl_sub [0, 1, 2] rfl ?_
  exact kX0_fillUp_58 l G hg hA r hkr C hr (k_4) (hk_4) v1 v2 M7 h
set_option maxRecDepth 100000 in
set_option maxHeartbeats 4000000 in
theorem kX0_fillUp_25 (l : Launch) (G : gP) (hg : gIn G) (hA : gCl G) (r : Nat) (hkr : kd r = 0) {p : Program} {e : Env} {s : State} {m : MethodId} {args : Array Value} {below : List Frame} {meth : Method} {c : Code} (C : Cx p s m args meth c G (gA G) cX0_fillUp 3 RX0) (hr : meth.sig.returnType = none) {Q : Mem → Prop} (k_4 : Int32 → Int32 → Mem → Prop) (hk_4 : ∀ (v1 : Int32) (v2 : Int32) (M : Mem), k_4 v1 v2 M → Wl p l e rmX0_fillUp s m args below meth c (MQ below (va_Qv Q (gB G) (gA G)) args s 0 0 (gA G)) G (gA G) 3 0 0 M 4 [(0, .ref (gAD G r)), (1, .int v1), (2, .int v2)] []) : ∀ (n : Nat) (v1 : Int32) (v2 : Int32) (M : Mem), wX0_fillUp_25 r k_4 Q n v1 v2 M → Wl p l e rmX0_fillUp s m args below meth c (MQ below (va_Qv Q (gB G) (gA G)) args s 0 0 (gA G)) G (gA G) 3 0 0 M 25 [(0, .ref (gAD G r)), (1, .int v1), (2, .int v2)] [] := by
  intro n
  induction n with
  | zero => intro v1 v2 M h; exact h.elim
  | succ n ih =>
    intro v1 v2 M h
    have h : (((M r 2) ≤ v1 → wX0_fillUp_52 r (k_4) Q v1 v2 M) ∧ (¬ (M r 2) ≤ v1 → (wX4_at (r + 1) v1 M (fun r6 M5 => ((r6 = (-4 : Int32) → wX0_fillUp_52 r (k_4) Q v1 v2 M5) ∧ (¬ r6 = (-4 : Int32) → wX0_fillUp_25 r k_4 Q n (v1 + (1 : Int32)) v2 M5)))))) := h
    refine wl_iload_n C dX0_fillUp_25 1 rfl ?_
    refine wl_aload_n C dX0_fillUp_26 0 rfl ?_
    refine gf_0_2 C hkr (gic_0 hA hkr) tw_118 dX0_fillUp_27 ?_
    refine wl_icmp_ge C (tgt := 52) dX0_fillUp_30 (by decide) (fun hc => ?_) (fun hc => ?_)
    · have h := h.1 hc
      refine wl_sub [0, 1, 2] rfl ?_
      exact kX0_fillUp_52 l G hg hA r hkr C hr (k_4) (hk_4) v1 v2 M h
    · have h := h.2 hc
      refine wl_aload_n C dX0_fillUp_33 0 rfl ?_
      refine gf_0_0 C hkr (gic_0 hA hkr) tw_116 dX0_fillUp_34 ?_
      refine wl_iload_n C dX0_fillUp_37 1 rfl ?_
      refine wl_callVi C (cX4_at_M l G hg hA (r + 1) v1 (kx_0_1 hkr) M _) h cw_RX0_37 hd_X4_at ⟨rfl, rfl⟩ ⟨by decide, by decide⟩ (gic_4 hA (kx_0_1 hkr)) (gc_k (kx_0_1 hkr)) rfl (As := [.int v1]) (rest := []) rfl (Nat.le_of_ble_eq_true rfl) ⟨Nat.zero_le _, Nat.zero_le _⟩ rfl dX0_fillUp_38 (fun r6 M5 h => ?_)
      refine wl_bipush (v := (-4)) C dX0_fillUp_41 (by decide) ?_
      refine wl_icmp_eq C (tgt := 52) dX0_fillUp_43 (by decide) (fun hc => ?_) (fun hc => ?_)
      · have h := h.1 hc
        refine wl_sub [0, 1, 2] rfl ?_
        exact kX0_fillUp_52 l G hg hA r hkr C hr (k_4) (hk_4) v1 v2 M5 h
      · have h := h.2 hc
        refine wl_iinc (v := (v1 + (1 : Int32))) (lv' := [(1, .int (v1 + (1 : Int32))), (0, .ref (gAD G r)), (2, .int v2)]) C dX0_fillUp_46 1 rfl (by rfl) (by decide) rfl ?_
        refine wl_goto C (tgt := 25) dX0_fillUp_49 (by decide) ?_
        refine wl_sub [1, 0, 2] rfl ?_
        exact ih (v1 + (1 : Int32)) v2 M5 h
set_option maxRecDepth 100000 in
set_option maxHeartbeats 4000000 in
theorem kX0_fillUp_4 (l : Launch) (G : gP) (hg : gIn G) (hA : gCl G) (r : Nat) (hkr : kd r = 0) {p : Program} {e : Env} {s : State} {m : MethodId} {args : Array Value} {below : List Frame} {meth : Method} {c : Code} (C : Cx p s m args meth c G (gA G) cX0_fillUp 3 RX0) (hr : meth.sig.returnType = none) {Q : Mem → Prop} : ∀ (n : Nat) (v1 : Int32) (v2 : Int32) (M : Mem), wX0_fillUp_4 r Q n v1 v2 M → Wl p l e rmX0_fillUp s m args below meth c (MQ below (va_Qv Q (gB G) (gA G)) args s 0 0 (gA G)) G (gA G) 3 0 0 M 4 [(0, .ref (gAD G r)), (1, .int v1), (2, .int v2)] [] := by
  intro n
  induction n with
  | zero => intro v1 v2 M h; exact h.elim
  | succ n ih =>
    intro v1 v2 M h
    have h : (((M r 2) ≤ v2 → Q M) ∧ (¬ (M r 2) ≤ v2 → (wX4_at (r + 3) v2 M (fun r3 M2 => ((¬ r3 = (-4 : Int32) → wX0_fillUp_58 r (wX0_fillUp_4 r Q n) Q v1 v2 M2) ∧ (r3 = (-4 : Int32) → (∃ n4, wX0_fillUp_25 r (wX0_fillUp_4 r Q n) Q n4 v1 v2 M2))))))) := h
    refine wl_iload_n C dX0_fillUp_4 2 rfl ?_
    refine wl_aload_n C dX0_fillUp_5 0 rfl ?_
    refine gf_0_2 C hkr (gic_0 hA hkr) tw_118 dX0_fillUp_6 ?_
    refine wl_icmp_ge C (tgt := 64) dX0_fillUp_9 (by decide) (fun hc => ?_) (fun hc => ?_)
    · have h := h.1 hc
      exact wl_vret C hr h dX0_fillUp_64
    · have h := h.2 hc
      refine wl_aload_n C dX0_fillUp_12 0 rfl ?_
      refine gf_0_1 C hkr (gic_0 hA hkr) tw_117 dX0_fillUp_13 ?_
      refine wl_iload_n C dX0_fillUp_16 2 rfl ?_
      refine wl_callVi C (cX4_at_M l G hg hA (r + 3) v2 (kx_0_3 hkr) M _) h cw_RX0_37 hd_X4_at ⟨rfl, rfl⟩ ⟨by decide, by decide⟩ (gic_4 hA (kx_0_3 hkr)) (gc_k (kx_0_3 hkr)) rfl (As := [.int v2]) (rest := []) rfl (Nat.le_of_ble_eq_true rfl) ⟨Nat.zero_le _, Nat.zero_le _⟩ rfl dX0_fillUp_17 (fun r3 M2 h => ?_)
      refine wl_bipush (v := (-4)) C dX0_fillUp_20 (by decide) ?_
      refine wl_icmp_ne C (tgt := 58) dX0_fillUp_22 (by decide) (fun hc => ?_) (fun hc => ?_)
      · have h := h.1 hc
        refine wl_sub [0, 1, 2] rfl ?_
        exact kX0_fillUp_58 l G hg hA r hkr C hr (wX0_fillUp_4 r Q n) (ih) v1 v2 M2 h
      · have h := h.2 hc
        refine wl_sub [0, 1, 2] rfl ?_
        obtain ⟨n4, h⟩ := h
        exact kX0_fillUp_25 l G hg hA r hkr C hr (wX0_fillUp_4 r Q n) (ih) n4 v1 v2 M2 h
set_option maxRecDepth 100000 in
set_option maxHeartbeats 4000000 in
theorem cX0_fillUp_M (l : Launch) (G : gP) (hg : gIn G) (hA : gCl G) (r : Nat) (hkr : kd r = 0) (M : Mem) (Q : Mem → Prop) : Met l yX0_fillUp (Cond.code yX0_fillUp cX0_fillUp 3 none :: TB) rmX0_fillUp (va_Pc [.ref (gAD G r)] (fun U => gS G M U ∧ wX0_fillUp r M Q)) (va_Qv Q (gB G) (gA G)) 0 0 (gA G) := by
  refine gMet (by decide +kernel) (show _ = Cond.code yX0_fillUp cX0_fillUp 3 none from rfl) hg (Nat.le_of_ble_eq_true rfl) [(0, .ref (gAD G r))] rfl ?_
  intro p e s m args below meth c C hr h
  have h : (∃ n1, wX0_fillUp_4 r Q n1 (0 : Int32) (0 : Int32) M) := h
  refine wl_iconst (v := 0) C dX0_fillUp_0 (by decide) ?_
  refine wl_istore_n (i := 1) (lv' := [(1, .int (0 : Int32)), (0, .ref (gAD G r))]) C dX0_fillUp_1 rfl (by decide) rfl ?_
  refine wl_iconst (v := 0) C dX0_fillUp_2 (by decide) ?_
  refine wl_istore_n (i := 2) (lv' := [(2, .int (0 : Int32)), (1, .int (0 : Int32)), (0, .ref (gAD G r))]) C dX0_fillUp_3 rfl (by decide) rfl ?_
  refine wl_sub [2, 1, 0] rfl ?_
  obtain ⟨n1, h⟩ := h
  exact kX0_fillUp_4 l G hg hA r hkr C hr n1 (0 : Int32) (0 : Int32) M h
set_option maxRecDepth 100000 in
set_option maxHeartbeats 4000000 in
theorem kX1_number_7 (l : Launch) (G : gP) (hg : gIn G) (hA : gCl G) (r : Nat) (x1 : Int32) (hkr : kd r = 1) {p : Program} {e : Env} {s : State} {m : MethodId} {args : Array Value} {below : List Frame} {meth : Method} {c : Code} (C : Cx p s m args meth c G (gA G) cX1_number 3 RX1) (hr : meth.sig.returnType = none) {Q : Mem → Prop} : ∀ (n : Nat) (v2 : Int32) (M : Mem), wX1_number_7 r x1 Q n v2 M → Wl p l e rmX1_number s m args below meth c (MQ below (va_Qv Q (gB G) (gA G)) args s 0 0 (gA G)) G (gA G) 3 0 0 M 7 [(0, .ref (gAD G r)), (1, .int x1), (2, .int v2)] [] := by
  intro n
  induction n with
  | zero => intro v2 M h; exact h.elim
  | succ n ih =>
    intro v2 M h
    have h : ((x1 ≤ v2 → Q M) ∧ (¬ x1 ≤ v2 → (wX4_put (r + 1) v2 v2 M (fun M2 => wX1_number_7 r x1 Q n (v2 + (1 : Int32)) M2)))) := h
    refine wl_iload_n C dX1_number_7 2 rfl ?_
    refine wl_iload_n C dX1_number_8 1 rfl ?_
    refine wl_icmp_ge C (tgt := 27) dX1_number_9 (by decide) (fun hc => ?_) (fun hc => ?_)
    · have h := h.1 hc
      exact wl_vret C hr h dX1_number_27
    · have h := h.2 hc
      refine wl_aload_n C dX1_number_12 0 rfl ?_
      refine gf_1_0 C hkr (gic_1 hA hkr) tw_77 dX1_number_13 ?_
      refine wl_iload_n C dX1_number_16 2 rfl ?_
      refine wl_iload_n C dX1_number_17 2 rfl ?_
      refine wl_callVv C (cX4_put_M l G hg hA (r + 1) v2 v2 (kx_1_1 hkr) M _) h cw_RX1_27 hd_X4_put ⟨rfl, rfl⟩ ⟨by decide, by decide⟩ (gic_4 hA (kx_1_1 hkr)) (gc_k (kx_1_1 hkr)) rfl (As := [.int v2, .int v2]) (rest := []) rfl (Nat.le_of_ble_eq_true rfl) ⟨Nat.zero_le _, Nat.zero_le _⟩ rfl dX1_number_18 (fun M2 h => ?_)
      refine wl_iinc (v := (v2 + (1 : Int32))) (lv' := [(2, .int (v2 + (1 : Int32))), (0, .ref (gAD G r)), (1, .int x1)]) C dX1_number_21 2 rfl (by rfl) (by decide) rfl ?_
      refine wl_goto C (tgt := 7) dX1_number_24 (by decide) ?_
      refine wl_sub [1, 2, 0] rfl ?_
      exact ih (v2 + (1 : Int32)) M2 h
set_option maxRecDepth 100000 in
set_option maxHeartbeats 4000000 in
theorem cX1_number_M (l : Launch) (G : gP) (hg : gIn G) (hA : gCl G) (r : Nat) (x1 : Int32) (hkr : kd r = 1) (M : Mem) (Q : Mem → Prop) : Met l yX1_number (Cond.code yX1_number cX1_number 3 none :: TB) rmX1_number (va_Pc [.ref (gAD G r), .int x1] (fun U => gS G M U ∧ wX1_number r x1 M Q)) (va_Qv Q (gB G) (gA G)) 0 0 (gA G) := by
  refine gMet (by decide +kernel) (show _ = Cond.code yX1_number cX1_number 3 none from rfl) hg (Nat.le_of_ble_eq_true rfl) [(0, .ref (gAD G r)), (1, .int x1)] rfl ?_
  intro p e s m args below meth c C hr h
  have h : (∃ n1, wX1_number_7 r x1 Q n1 (0 : Int32) (mu M r 2 x1)) := h
  refine wl_aload_n C dX1_number_0 0 rfl ?_
  refine wl_iload_n C dX1_number_1 1 rfl ?_
  refine gp_1_2 C hkr (gic_1 hA hkr) tw_79 dX1_number_2 ?_
  refine wl_iconst (v := 0) C dX1_number_5 (by decide) ?_
  refine wl_istore_n (i := 2) (lv' := [(2, .int (0 : Int32)), (0, .ref (gAD G r)), (1, .int x1)]) C dX1_number_6 rfl (by decide) rfl ?_
  refine wl_sub [1, 2, 0] rfl ?_
  obtain ⟨n1, h⟩ := h
  exact kX1_number_7 l G hg hA r x1 hkr C hr n1 (0 : Int32) (mu M r 2 x1) h
set_option maxRecDepth 100000 in
set_option maxHeartbeats 4000000 in
theorem cX1_leafAt_M (l : Launch) (G : gP) (hg : gIn G) (hA : gCl G) (r : Nat) (x1 : Int32) (hkr : kd r = 1) (M : Mem) (Q : Int32 → Mem → Prop) : Met l yX1_leafAt (Cond.code yX1_leafAt cX1_leafAt 2 (some (Jvm.ClassFile.FieldType.int)) :: TB) rmX1_leafAt (va_Pc [.ref (gAD G r), .int x1] (fun U => gS G M U ∧ wX1_leafAt r x1 M Q)) (va_Qi Q (gB G) (gA G)) 0 0 (gA G) := by
  refine gMet (by decide +kernel) (show _ = Cond.code yX1_leafAt cX1_leafAt 2 (some (Jvm.ClassFile.FieldType.int)) from rfl) hg (Nat.le_of_ble_eq_true rfl) [(0, .ref (gAD G r)), (1, .int x1)] rfl ?_
  intro p e s m args below meth c C hr h
  have h : (wX4_at (r + 1) x1 M (fun r2 M1 => Q r2 M1)) := h
  refine wl_aload_n C dX1_leafAt_0 0 rfl ?_
  refine gf_1_0 C hkr (gic_1 hA hkr) tw_77 dX1_leafAt_1 ?_
  refine wl_iload_n C dX1_leafAt_4 1 rfl ?_
  refine wl_callVi C (cX4_at_M l G hg hA (r + 1) x1 (kx_1_1 hkr) M _) h cw_RX1_31 hd_X4_at ⟨rfl, rfl⟩ ⟨by decide, by decide⟩ (gic_4 hA (kx_1_1 hkr)) (gc_k (kx_1_1 hkr)) rfl (As := [.int x1]) (rest := []) rfl (Nat.le_of_ble_eq_true rfl) ⟨Nat.zero_le _, Nat.zero_le _⟩ rfl dX1_leafAt_5 (fun r2 M1 h => ?_)
  exact wl_iret C hr h dX1_leafAt_8
set_option maxRecDepth 100000 in
set_option maxHeartbeats 4000000 in
theorem kX1_placeOf_2 (l : Launch) (G : gP) (hg : gIn G) (hA : gCl G) (r : Nat) (x1 : Int32) (hkr : kd r = 1) {p : Program} {e : Env} {s : State} {m : MethodId} {args : Array Value} {below : List Frame} {meth : Method} {c : Code} (C : Cx p s m args meth c G (gA G) cX1_placeOf 3 RX1) (hr : meth.sig.returnType = (some (Jvm.ClassFile.FieldType.int))) {Q : Int32 → Mem → Prop} : ∀ (n : Nat) (v2 : Int32) (M : Mem), wX1_placeOf_2 r x1 Q n v2 M → Wl p l e rmX1_placeOf s m args below meth c (MQ below (va_Qi Q (gB G) (gA G)) args s 0 0 (gA G)) G (gA G) 3 0 0 M 2 [(0, .ref (gAD G r)), (1, .int x1), (2, .int v2)] [] := by
  intro n
  induction n with
  | zero => intro v2 M h; exact h.elim
  | succ n ih =>
    intro v2 M h
    have h : (((M r 2) ≤ v2 → Q (-4 : Int32) M) ∧ (¬ (M r 2) ≤ v2 → (wX4_at (r + 1) v2 M (fun r3 M2 => ((¬ r3 = x1 → wX1_placeOf_2 r x1 Q n (v2 + (1 : Int32)) M2) ∧ (r3 = x1 → Q v2 M2)))))) := h
    refine wl_iload_n C dX1_placeOf_2 2 rfl ?_
    refine wl_aload_n C dX1_placeOf_3 0 rfl ?_
    refine gf_1_2 C hkr (gic_1 hA hkr) tw_79 dX1_placeOf_4 ?_
    refine wl_icmp_ge C (tgt := 30) dX1_placeOf_7 (by decide) (fun hc => ?_) (fun hc => ?_)
    · have h := h.1 hc
      refine wl_bipush (v := (-4)) C dX1_placeOf_30 (by decide) ?_
      exact wl_iret C hr h dX1_placeOf_32
    · have h := h.2 hc
      refine wl_aload_n C dX1_placeOf_10 0 rfl ?_
      refine gf_1_0 C hkr (gic_1 hA hkr) tw_77 dX1_placeOf_11 ?_
      refine wl_iload_n C dX1_placeOf_14 2 rfl ?_
      refine wl_callVi C (cX4_at_M l G hg hA (r + 1) v2 (kx_1_1 hkr) M _) h cw_RX1_31 hd_X4_at ⟨rfl, rfl⟩ ⟨by decide, by decide⟩ (gic_4 hA (kx_1_1 hkr)) (gc_k (kx_1_1 hkr)) rfl (As := [.int v2]) (rest := []) rfl (Nat.le_of_ble_eq_true rfl) ⟨Nat.zero_le _, Nat.zero_le _⟩ rfl dX1_placeOf_15 (fun r3 M2 h => ?_)
      refine wl_iload_n C dX1_placeOf_18 1 rfl ?_
      refine wl_icmp_ne C (tgt := 24) dX1_placeOf_19 (by decide) (fun hc => ?_) (fun hc => ?_)
      · have h := h.1 hc
        refine wl_iinc (v := (v2 + (1 : Int32))) (lv' := [(2, .int (v2 + (1 : Int32))), (0, .ref (gAD G r)), (1, .int x1)]) C dX1_placeOf_24 2 rfl (by rfl) (by decide) rfl ?_
        refine wl_goto C (tgt := 2) dX1_placeOf_27 (by decide) ?_
        refine wl_sub [1, 2, 0] rfl ?_
        exact ih (v2 + (1 : Int32)) M2 h
      · have h := h.2 hc
        refine wl_iload_n C dX1_placeOf_22 2 rfl ?_
        exact wl_iret C hr h dX1_placeOf_23
set_option maxRecDepth 100000 in
set_option maxHeartbeats 4000000 in
theorem cX1_placeOf_M (l : Launch) (G : gP) (hg : gIn G) (hA : gCl G) (r : Nat) (x1 : Int32) (hkr : kd r = 1) (M : Mem) (Q : Int32 → Mem → Prop) : Met l yX1_placeOf (Cond.code yX1_placeOf cX1_placeOf 3 (some (Jvm.ClassFile.FieldType.int)) :: TB) rmX1_placeOf (va_Pc [.ref (gAD G r), .int x1] (fun U => gS G M U ∧ wX1_placeOf r x1 M Q)) (va_Qi Q (gB G) (gA G)) 0 0 (gA G) := by
  refine gMet (by decide +kernel) (show _ = Cond.code yX1_placeOf cX1_placeOf 3 (some (Jvm.ClassFile.FieldType.int)) from rfl) hg (Nat.le_of_ble_eq_true rfl) [(0, .ref (gAD G r)), (1, .int x1)] rfl ?_
  intro p e s m args below meth c C hr h
  have h : (∃ n1, wX1_placeOf_2 r x1 Q n1 (0 : Int32) M) := h
  refine wl_iconst (v := 0) C dX1_placeOf_0 (by decide) ?_
  refine wl_istore_n (i := 2) (lv' := [(2, .int (0 : Int32)), (0, .ref (gAD G r)), (1, .int x1)]) C dX1_placeOf_1 rfl (by decide) rfl ?_
  refine wl_sub [1, 2, 0] rfl ?_
  obtain ⟨n1, h⟩ := h
  exact kX1_placeOf_2 l G hg hA r x1 hkr C hr n1 (0 : Int32) M h
set_option maxRecDepth 100000 in
set_option maxHeartbeats 4000000 in
theorem cX1_swap_M (l : Launch) (G : gP) (hg : gIn G) (hA : gCl G) (r : Nat) (x1 : Int32) (x2 : Int32) (hkr : kd r = 1) (M : Mem) (Q : Mem → Prop) : Met l yX1_swap (Cond.code yX1_swap cX1_swap 4 none :: TB) rmX1_swap (va_Pc [.ref (gAD G r), .int x1, .int x2] (fun U => gS G M U ∧ wX1_swap r x1 x2 M Q)) (va_Qv Q (gB G) (gA G)) 0 0 (gA G) := by
  refine gMet (by decide +kernel) (show _ = Cond.code yX1_swap cX1_swap 4 none from rfl) hg (Nat.le_of_ble_eq_true rfl) [(0, .ref (gAD G r)), (1, .int x1), (2, .int x2)] rfl ?_
  intro p e s m args below meth c C hr h
  have h : (wX4_at (r + 1) x1 M (fun r2 M1 => (wX4_at (r + 1) x2 M1 (fun r4 M3 => (wX4_put (r + 1) x1 r4 M3 (fun M5 => (wX4_put (r + 1) x2 r2 M5 (fun M6 => Q M6)))))))) := h
  refine wl_aload_n C dX1_swap_0 0 rfl ?_
  refine gf_1_0 C hkr (gic_1 hA hkr) tw_77 dX1_swap_1 ?_
  refine wl_iload_n C dX1_swap_4 1 rfl ?_
  refine wl_callVi C (cX4_at_M l G hg hA (r + 1) x1 (kx_1_1 hkr) M _) h cw_RX1_31 hd_X4_at ⟨rfl, rfl⟩ ⟨by decide, by decide⟩ (gic_4 hA (kx_1_1 hkr)) (gc_k (kx_1_1 hkr)) rfl (As := [.int x1]) (rest := []) rfl (Nat.le_of_ble_eq_true rfl) ⟨Nat.zero_le _, Nat.zero_le _⟩ rfl dX1_swap_5 (fun r2 M1 h => ?_)
  refine wl_istore_n (i := 3) (lv' := [(3, .int r2), (0, .ref (gAD G r)), (1, .int x1), (2, .int x2)]) C dX1_swap_8 rfl (by decide) rfl ?_
  refine wl_aload_n C dX1_swap_9 1 rfl ?_
  refine gf_1_0 C hkr (gic_1 hA hkr) tw_77 dX1_swap_10 ?_
  refine wl_iload_n C dX1_swap_13 2 rfl ?_
  refine wl_aload_n C dX1_swap_14 1 rfl ?_
  refine gf_1_0 C hkr (gic_1 hA hkr) tw_77 dX1_swap_15 ?_
  refine wl_iload_n C dX1_swap_18 3 rfl ?_
  refine wl_callVi C (cX4_at_M l G hg hA (r + 1) x2 (kx_1_1 hkr) M1 _) h cw_RX1_31 hd_X4_at ⟨rfl, rfl⟩ ⟨by decide, by decide⟩ (gic_4 hA (kx_1_1 hkr)) (gc_k (kx_1_1 hkr)) rfl (As := [.int x2]) (rest := [.int x1, .ref (gAD G (r + 1))]) rfl (Nat.le_of_ble_eq_true rfl) ⟨Nat.zero_le _, Nat.zero_le _⟩ rfl dX1_swap_19 (fun r4 M3 h => ?_)
  refine wl_callVv C (cX4_put_M l G hg hA (r + 1) x1 r4 (kx_1_1 hkr) M3 _) h cw_RX1_27 hd_X4_put ⟨rfl, rfl⟩ ⟨by decide, by decide⟩ (gic_4 hA (kx_1_1 hkr)) (gc_k (kx_1_1 hkr)) rfl (As := [.int x1, .int r4]) (rest := []) rfl (Nat.le_of_ble_eq_true rfl) ⟨Nat.zero_le _, Nat.zero_le _⟩ rfl dX1_swap_22 (fun M5 h => ?_)
  refine wl_aload_n C dX1_swap_25 1 rfl ?_
  refine gf_1_0 C hkr (gic_1 hA hkr) tw_77 dX1_swap_26 ?_
  refine wl_iload_n C dX1_swap_29 3 rfl ?_
  refine wl_iload_n C dX1_swap_30 0 rfl ?_
  refine wl_callVv C (cX4_put_M l G hg hA (r + 1) x2 r2 (kx_1_1 hkr) M5 _) h cw_RX1_27 hd_X4_put ⟨rfl, rfl⟩ ⟨by decide, by decide⟩ (gic_4 hA (kx_1_1 hkr)) (gc_k (kx_1_1 hkr)) rfl (As := [.int x2, .int r2]) (rest := []) rfl (Nat.le_of_ble_eq_true rfl) ⟨Nat.zero_le _, Nat.zero_le _⟩ rfl dX1_swap_31 (fun M6 h => ?_)
  exact wl_vret C hr h dX1_swap_34
set_option maxRecDepth 100000 in
set_option maxHeartbeats 4000000 in
theorem kX4_copyFrom_2 (l : Launch) (G : gP) (hg : gIn G) (hA : gCl G) (r : Nat) (x1 : Nat) (hkr : kd r = 4) (hk1 : kd x1 = 4) {p : Program} {e : Env} {s : State} {m : MethodId} {args : Array Value} {below : List Frame} {meth : Method} {c : Code} (C : Cx p s m args meth c G (gA G) cX4_copyFrom 3 RX4) (hr : meth.sig.returnType = none) {Q : Mem → Prop} : ∀ (n : Nat) (v2 : Int32) (M : Mem), wX4_copyFrom_2 r x1 Q n v2 M → Wl p l e rmX4_copyFrom s m args below meth c (MQ below (va_Qv Q (gB G) (gA G)) args s 0 0 (gA G)) G (gA G) 3 0 0 M 2 [(0, .ref (gAD G r)), (1, .ref (gAD G x1)), (2, .int v2)] [] := by
  intro n
  induction n with
  | zero => intro v2 M h; exact h.elim
  | succ n ih =>
    intro v2 M h
    have h : (((Int32.ofNat (ln (r + 1))) ≤ v2 → Q M) ∧ (¬ (Int32.ofNat (ln (r + 1))) ≤ v2 → (wX4_at x1 v2 M (fun r3 M2 => (vp_in v2 (ln (r + 1)) ∧ wX4_copyFrom_2 r x1 Q n (v2 + (1 : Int32)) (mu M2 (r + 1) v2.toNatClampNeg r3)))))) := h
    refine wl_iload_n C dX4_copyFrom_2 2 rfl ?_
    refine wl_aload_n C dX4_copyFrom_3 0 rfl ?_
    refine gf_4_0 C hkr (gic_4 hA hkr) tw_32 dX4_copyFrom_4 ?_
    refine ga_len9 C (kx_4_1 hkr) (gic_9 hA (kx_4_1 hkr)) dX4_copyFrom_7 ?_
    refine wl_icmp_ge C (tgt := 28) dX4_copyFrom_8 (by decide) (fun hc => ?_) (fun hc => ?_)
    · have h := h.1 hc
      exact wl_vret C hr h dX4_copyFrom_28
    · have h := h.2 hc
      refine wl_aload_n C dX4_copyFrom_11 0 rfl ?_
      refine gf_4_0 C hkr (gic_4 hA hkr) tw_32 dX4_copyFrom_12 ?_
      refine wl_iload_n C dX4_copyFrom_15 2 rfl ?_
      refine wl_aload_n C dX4_copyFrom_16 1 rfl ?_
      refine wl_iload_n C dX4_copyFrom_17 2 rfl ?_
      refine wl_callVi C (cX4_at_M l G hg hA x1 v2 hk1 M _) h cw_RX4_21 hd_X4_at ⟨rfl, rfl⟩ ⟨by decide, by decide⟩ (gic_4 hA hk1) (gc_k hk1) rfl (As := [.int v2]) (rest := [.int v2, .ref (gAD G (r + 1))]) rfl (Nat.le_of_ble_eq_true rfl) ⟨Nat.zero_le _, Nat.zero_le _⟩ rfl dX4_copyFrom_18 (fun r3 M2 h => ?_)
      refine ga_st9 C (kx_4_1 hkr) (gic_9 hA (kx_4_1 hkr)) h.1 dX4_copyFrom_21 ?_
      have h := h.2
      refine wl_iinc (v := (v2 + (1 : Int32))) (lv' := [(2, .int (v2 + (1 : Int32))), (0, .ref (gAD G r)), (1, .ref (gAD G x1))]) C dX4_copyFrom_22 2 rfl (by rfl) (by decide) rfl ?_
      refine wl_goto C (tgt := 2) dX4_copyFrom_25 (by decide) ?_
      refine wl_sub [1, 2, 0] rfl ?_
      exact ih (v2 + (1 : Int32)) (mu M2 (r + 1) v2.toNatClampNeg r3) h
set_option maxRecDepth 100000 in
set_option maxHeartbeats 4000000 in
theorem cX4_copyFrom_M (l : Launch) (G : gP) (hg : gIn G) (hA : gCl G) (r : Nat) (x1 : Nat) (hkr : kd r = 4) (hk1 : kd x1 = 4) (M : Mem) (Q : Mem → Prop) : Met l yX4_copyFrom (Cond.code yX4_copyFrom cX4_copyFrom 3 none :: TB) rmX4_copyFrom (va_Pc [.ref (gAD G r), .ref (gAD G x1)] (fun U => gS G M U ∧ wX4_copyFrom r x1 M Q)) (va_Qv Q (gB G) (gA G)) 0 0 (gA G) := by
  refine gMet (by decide +kernel) (show _ = Cond.code yX4_copyFrom cX4_copyFrom 3 none from rfl) hg (Nat.le_of_ble_eq_true rfl) [(0, .ref (gAD G r)), (1, .ref (gAD G x1))] rfl ?_
  intro p e s m args below meth c C hr h
  have h : (∃ n1, wX4_copyFrom_2 r x1 Q n1 (0 : Int32) M) := h
  refine wl_iconst (v := 0) C dX4_copyFrom_0 (by decide) ?_
  refine wl_istore_n (i := 2) (lv' := [(2, .int (0 : Int32)), (0, .ref (gAD G r)), (1, .ref (gAD G x1))]) C dX4_copyFrom_1 rfl (by decide) rfl ?_
  refine wl_sub [1, 2, 0] rfl ?_
  obtain ⟨n1, h⟩ := h
  exact kX4_copyFrom_2 l G hg hA r x1 hkr hk1 C hr n1 (0 : Int32) M h
set_option maxRecDepth 100000 in
set_option maxHeartbeats 4000000 in
theorem cX1_copyFrom_M (l : Launch) (G : gP) (hg : gIn G) (hA : gCl G) (r : Nat) (x1 : Nat) (hkr : kd r = 1) (hk1 : kd x1 = 1) (M : Mem) (Q : Mem → Prop) : Met l yX1_copyFrom (Cond.code yX1_copyFrom cX1_copyFrom 2 none :: TB) rmX1_copyFrom (va_Pc [.ref (gAD G r), .ref (gAD G x1)] (fun U => gS G M U ∧ wX1_copyFrom r x1 M Q)) (va_Qv Q (gB G) (gA G)) 0 0 (gA G) := by
  refine gMet (by decide +kernel) (show _ = Cond.code yX1_copyFrom cX1_copyFrom 2 none from rfl) hg (Nat.le_of_ble_eq_true rfl) [(0, .ref (gAD G r)), (1, .ref (gAD G x1))] rfl ?_
  intro p e s m args below meth c C hr h
  have h : (wX4_copyFrom (r + 1) (x1 + 1) (mu M r 2 (M x1 2)) (fun M1 => Q M1)) := h
  refine wl_aload_n C dX1_copyFrom_0 0 rfl ?_
  refine wl_aload_n C dX1_copyFrom_1 1 rfl ?_
  refine gf_1_2 C hk1 (gic_1 hA hk1) tw_79 dX1_copyFrom_2 ?_
  refine gp_1_2 C hkr (gic_1 hA hkr) tw_79 dX1_copyFrom_5 ?_
  refine wl_aload_n C dX1_copyFrom_8 0 rfl ?_
  refine gf_1_0 C hkr (gic_1 hA hkr) tw_77 dX1_copyFrom_9 ?_
  refine wl_aload_n C dX1_copyFrom_12 1 rfl ?_
  refine gf_1_0 C hk1 (gic_1 hA hk1) tw_77 dX1_copyFrom_13 ?_
  refine wl_callVv C (cX4_copyFrom_M l G hg hA (r + 1) (x1 + 1) (kx_1_1 hkr) (kx_1_1 hk1) (mu M r 2 (M x1 2)) _) h cw_RX1_35 hd_X4_copyFrom ⟨rfl, rfl⟩ ⟨by decide, by decide⟩ (gic_4 hA (kx_1_1 hkr)) (gc_k (kx_1_1 hkr)) rfl (As := [.ref (gAD G (x1 + 1))]) (rest := []) rfl (Nat.le_of_ble_eq_true rfl) ⟨Nat.zero_le _, Nat.zero_le _⟩ rfl dX1_copyFrom_16 (fun M1 h => ?_)
  exact wl_vret C hr h dX1_copyFrom_19
set_option maxRecDepth 100000 in
set_option maxHeartbeats 4000000 in
theorem kX1_cut_59 (l : Launch) (G : gP) (hg : gIn G) (hA : gCl G) (r : Nat) (hkr : kd r = 1) {p : Program} {e : Env} {s : State} {m : MethodId} {args : Array Value} {below : List Frame} {meth : Method} {c : Code} (C : Cx p s m args meth c G (gA G) cX1_cut 4 RX1) (hr : meth.sig.returnType = none) {Q : Mem → Prop} (k_20 : Int32 → Int32 → Mem → Prop) (hk_20 : ∀ (v1 : Int32) (v2 : Int32) (M : Mem), k_20 v1 v2 M → Wl p l e rmX1_cut s m args below meth c (MQ below (va_Qv Q (gB G) (gA G)) args s 0 0 (gA G)) G (gA G) 4 0 0 M 20 [(0, .ref (gAD G r)), (1, .int v1), (2, .int v2)] []) (v1 : Int32) (v2 : Int32) (s0 : Int32) (s1 : Nat) (s2 : Int32) (s3 : Nat) (M : Mem) (hs1 : kd s1 = 4) (hs3 : kd s3 = 4) (h : wX1_cut_59 r k_20 Q v1 v2 s0 s1 s2 s3 M) : Wl p l e rmX1_cut s m args below meth c (MQ below (va_Qv Q (gB G) (gA G)) args s 0 0 (gA G)) G (gA G) 4 0 0 M 59 [(0, .ref (gAD G r)), (1, .int v1), (2, .int v2)] [.int s0, .ref (gAD G s1), .int s2, .ref (gAD G s3)] := by
  have h : (wX4_at s1 s0 M (fun r4 M3 => (wX4_put s3 s2 r4 M3 (fun M5 => k_20 v1 (v2 + (1 : Int32)) M5)))) := h
  refine wl_callVi C (cX4_at_M l G hg hA s1 s0 hs1 M _) h cw_RX1_31 hd_X4_at ⟨rfl, rfl⟩ ⟨by decide, by decide⟩ (gic_4 hA hs1) (gc_k hs1) rfl (As := [.int s0]) (rest := [.int s2, .ref (gAD G s3)]) rfl (Nat.le_of_ble_eq_true rfl) ⟨Nat.zero_le _, Nat.zero_le _⟩ rfl dX1_cut_59 (fun r4 M3 h => ?_)
  refine wl_callVv C (cX4_put_M l G hg hA s3 s2 r4 hs3 M3 _) h cw_RX1_27 hd_X4_put ⟨rfl, rfl⟩ ⟨by decide, by decide⟩ (gic_4 hA hs3) (gc_k hs3) rfl (As := [.int s2, .int r4]) (rest := []) rfl (Nat.le_of_ble_eq_true rfl) ⟨Nat.zero_le _, Nat.zero_le _⟩ rfl dX1_cut_62 (fun M5 h => ?_)
  refine wl_iinc (v := (v2 + (1 : Int32))) (lv' := [(2, .int (v2 + (1 : Int32))), (0, .ref (gAD G r)), (1, .int v1)]) C dX1_cut_65 2 rfl (by rfl) (by decide) rfl ?_
  refine wl_goto C (tgt := 20) dX1_cut_68 (by decide) ?_
  refine wl_sub [1, 2, 0] rfl ?_
  exact hk_20 v1 (v2 + (1 : Int32)) M5 h
set_option maxRecDepth 100000 in
set_option maxHeartbeats 4000000 in
theorem kX1_cut_20 (l : Launch) (G : gP) (hg : gIn G) (hA : gCl G) (r : Nat) (hkr : kd r = 1) {p : Program} {e : Env} {s : State} {m : MethodId} {args : Array Value} {below : List Frame} {meth : Method} {c : Code} (C : Cx p s m args meth c G (gA G) cX1_cut 4 RX1) (hr : meth.sig.returnType = none) {Q : Mem → Prop} : ∀ (n : Nat) (v1 : Int32) (v2 : Int32) (M : Mem), wX1_cut_20 r Q n v1 v2 M → Wl p l e rmX1_cut s m args below meth c (MQ below (va_Qv Q (gB G) (gA G)) args s 0 0 (gA G)) G (gA G) 4 0 0 M 20 [(0, .ref (gAD G r)), (1, .int v1), (2, .int v2)] [] := by
  intro n
  induction n with
  | zero => intro v1 v2 M h; exact h.elim
  | succ n ih =>
    intro v1 v2 M h
    have h : (((M r 2) ≤ v2 → Q M) ∧ (¬ (M r 2) ≤ v2 → (((M r 2) ≤ (v2 + v1) → wX1_cut_59 r (wX1_cut_20 r Q n) Q v1 v2 ((v2 + v1) - (M r 2)) (r + 3) v2 (r + 1) M) ∧ (¬ (M r 2) ≤ (v2 + v1) → wX1_cut_59 r (wX1_cut_20 r Q n) Q v1 v2 (v2 + v1) (r + 3) v2 (r + 1) M)))) := h
    refine wl_iload_n C dX1_cut_20 2 rfl ?_
    refine wl_aload_n C dX1_cut_21 0 rfl ?_
    refine gf_1_2 C hkr (gic_1 hA hkr) tw_79 dX1_cut_22 ?_
    refine wl_icmp_ge C (tgt := 71) dX1_cut_25 (by decide) (fun hc => ?_) (fun hc => ?_)
    · have h := h.1 hc
      exact wl_vret C hr h dX1_cut_71
    · have h := h.2 hc
      refine wl_iload_n C dX1_cut_28 2 rfl ?_
      refine wl_iload_n C dX1_cut_29 1 rfl ?_
      refine wl_iadd C dX1_cut_30 ?_
      refine wl_istore_n (i := 3) (lv' := [(3, .int (v2 + v1)), (0, .ref (gAD G r)), (1, .int v1), (2, .int v2)]) C dX1_cut_31 rfl (by decide) rfl ?_
      refine wl_aload_n C dX1_cut_32 1 rfl ?_
      refine gf_1_0 C hkr (gic_1 hA hkr) tw_77 dX1_cut_33 ?_
      refine wl_iload_n C dX1_cut_36 3 rfl ?_
      refine wl_aload_n C dX1_cut_37 1 rfl ?_
      refine gf_1_1 C hkr (gic_1 hA hkr) tw_78 dX1_cut_38 ?_
      refine wl_iload_n C dX1_cut_41 0 rfl ?_
      refine wl_aload_n C dX1_cut_42 1 rfl ?_
      refine gf_1_2 C hkr (gic_1 hA hkr) tw_79 dX1_cut_43 ?_
      refine wl_icmp_ge C (tgt := 53) dX1_cut_46 (by decide) (fun hc => ?_) (fun hc => ?_)
      · have h := h.1 hc
        refine wl_iload_n C dX1_cut_53 0 rfl ?_
        refine wl_aload_n C dX1_cut_54 1 rfl ?_
        refine gf_1_2 C hkr (gic_1 hA hkr) tw_79 dX1_cut_55 ?_
        refine wl_isub C dX1_cut_58 ?_
        refine wl_sub [1, 2, 3] rfl ?_
        exact kX1_cut_59 l G hg hA r hkr C hr (wX1_cut_20 r Q n) (ih) v1 v2 ((v2 + v1) - (M r 2)) (r + 3) v2 (r + 1) M (kx_1_3 hkr) (kx_1_1 hkr) h
      · have h := h.2 hc
        refine wl_iload_n C dX1_cut_49 0 rfl ?_
        refine wl_goto C (tgt := 59) dX1_cut_50 (by decide) ?_
        refine wl_sub [1, 2, 3] rfl ?_
        exact kX1_cut_59 l G hg hA r hkr C hr (wX1_cut_20 r Q n) (ih) v1 v2 (v2 + v1) (r + 3) v2 (r + 1) M (kx_1_3 hkr) (kx_1_1 hkr) h
set_option maxRecDepth 100000 in
set_option maxHeartbeats 4000000 in
theorem cX1_cut_M (l : Launch) (G : gP) (hg : gIn G) (hA : gCl G) (r : Nat) (hkr : kd r = 1) (M : Mem) (Q : Mem → Prop) : Met l yX1_cut (Cond.code yX1_cut cX1_cut 4 none :: TB) rmX1_cut (va_Pc [.ref (gAD G r)] (fun U => gS G M U ∧ wX1_cut r M Q)) (va_Qv Q (gB G) (gA G)) 0 0 (gA G) := by
  refine gMet (by decide +kernel) (show _ = Cond.code yX1_cut cX1_cut 4 none from rfl) hg (Nat.le_of_ble_eq_true rfl) [(0, .ref (gAD G r))] rfl ?_
  intro p e s m args below meth c C hr h
  have h : (¬ (2 : Int32) = 0 ∧ (wX4_copyFrom (r + 3) (r + 1) M (fun M1 => (∃ n2, wX1_cut_20 r Q n2 ((M r 2) / (2 : Int32)) (0 : Int32) M1)))) := h
  refine wl_aload_n C dX1_cut_0 0 rfl ?_
  refine gf_1_2 C hkr (gic_1 hA hkr) tw_79 dX1_cut_1 ?_
  refine wl_iconst (v := 2) C dX1_cut_4 (by decide) ?_
  refine wl_idiv C dX1_cut_5 h.1 ?_
  have h := h.2
  refine wl_istore_n (i := 1) (lv' := [(1, .int ((M r 2) / (2 : Int32))), (0, .ref (gAD G r))]) C dX1_cut_6 rfl (by decide) rfl ?_
  refine wl_aload_n C dX1_cut_7 1 rfl ?_
  refine gf_1_1 C hkr (gic_1 hA hkr) tw_78 dX1_cut_8 ?_
  refine wl_aload_n C dX1_cut_11 1 rfl ?_
  refine gf_1_0 C hkr (gic_1 hA hkr) tw_77 dX1_cut_12 ?_
  refine wl_callVv C (cX4_copyFrom_M l G hg hA (r + 3) (r + 1) (kx_1_3 hkr) (kx_1_1 hkr) M _) h cw_RX1_35 hd_X4_copyFrom ⟨rfl, rfl⟩ ⟨by decide, by decide⟩ (gic_4 hA (kx_1_3 hkr)) (gc_k (kx_1_3 hkr)) rfl (As := [.ref (gAD G (r + 1))]) (rest := []) rfl (Nat.le_of_ble_eq_true rfl) ⟨Nat.zero_le _, Nat.zero_le _⟩ rfl dX1_cut_15 (fun M1 h => ?_)
  refine wl_iconst (v := 0) C dX1_cut_18 (by decide) ?_
  refine wl_istore_n (i := 2) (lv' := [(2, .int (0 : Int32)), (1, .int ((M r 2) / (2 : Int32))), (0, .ref (gAD G r))]) C dX1_cut_19 rfl (by decide) rfl ?_
  refine wl_sub [2, 1, 0] rfl ?_
  obtain ⟨n2, h⟩ := h
  exact kX1_cut_20 l G hg hA r hkr C hr n2 ((M r 2) / (2 : Int32)) (0 : Int32) M1 h
set_option maxRecDepth 100000 in
set_option maxHeartbeats 4000000 in
theorem kX1_layTop_11 (l : Launch) (G : gP) (hg : gIn G) (hA : gCl G) (r : Nat) (x1 : Int32) (hkr : kd r = 1) {p : Program} {e : Env} {s : State} {m : MethodId} {args : Array Value} {below : List Frame} {meth : Method} {c : Code} (C : Cx p s m args meth c G (gA G) cX1_layTop 4 RX1) (hr : meth.sig.returnType = none) {Q : Mem → Prop} : ∀ (n : Nat) (v2 : Int32) (v3 : Int32) (M : Mem), wX1_layTop_11 r x1 Q n v2 v3 M → Wl p l e rmX1_layTop s m args below meth c (MQ below (va_Qv Q (gB G) (gA G)) args s 0 0 (gA G)) G (gA G) 4 0 0 M 11 [(0, .ref (gAD G r)), (1, .int x1), (2, .int v2), (3, .int v3)] [] := by
  intro n
  induction n with
  | zero => intro v2 v3 M h; exact h.elim
  | succ n ih =>
    intro v2 v3 M h
    have h : ((x1 ≤ v3 → (wX4_put (r + 1) x1 v2 M (fun M4 => Q M4))) ∧ (¬ x1 ≤ v3 → (wX4_at (r + 1) (v3 + (1 : Int32)) M (fun r6 M5 => (wX4_put (r + 1) v3 r6 M5 (fun M7 => wX1_layTop_11 r x1 Q n v2 (v3 + (1 : Int32)) M7)))))) := h
    refine wl_iload_n C dX1_layTop_11 3 rfl ?_
    refine wl_iload_n C dX1_layTop_12 1 rfl ?_
    refine wl_icmp_ge C (tgt := 40) dX1_layTop_13 (by decide) (fun hc => ?_) (fun hc => ?_)
    · have h := h.1 hc
      refine wl_aload_n C dX1_layTop_40 0 rfl ?_
      refine gf_1_0 C hkr (gic_1 hA hkr) tw_77 dX1_layTop_41 ?_
      refine wl_iload_n C dX1_layTop_44 1 rfl ?_
      refine wl_iload_n C dX1_layTop_45 2 rfl ?_
      refine wl_callVv C (cX4_put_M l G hg hA (r + 1) x1 v2 (kx_1_1 hkr) M _) h cw_RX1_27 hd_X4_put ⟨rfl, rfl⟩ ⟨by decide, by decide⟩ (gic_4 hA (kx_1_1 hkr)) (gc_k (kx_1_1 hkr)) rfl (As := [.int x1, .int v2]) (rest := []) rfl (Nat.le_of_ble_eq_true rfl) ⟨Nat.zero_le _, Nat.zero_le _⟩ rfl dX1_layTop_46 (fun M4 h => ?_)
      exact wl_vret C hr h dX1_layTop_49
    · have h := h.2 hc
      refine wl_aload_n C dX1_layTop_16 0 rfl ?_
      refine gf_1_0 C hkr (gic_1 hA hkr) tw_77 dX1_layTop_17 ?_
      refine wl_iload_n C dX1_layTop_20 3 rfl ?_
      refine wl_aload_n C dX1_layTop_21 0 rfl ?_
      refine gf_1_0 C hkr (gic_1 hA hkr) tw_77 dX1_layTop_22 ?_
      refine wl_iload_n C dX1_layTop_25 3 rfl ?_
      refine wl_iconst (v := 1) C dX1_layTop_26 (by decide) ?_
      refine wl_iadd C dX1_layTop_27 ?_
      refine wl_callVi C (cX4_at_M l G hg hA (r + 1) (v3 + (1 : Int32)) (kx_1_1 hkr) M _) h cw_RX1_31 hd_X4_at ⟨rfl, rfl⟩ ⟨by decide, by decide⟩ (gic_4 hA (kx_1_1 hkr)) (gc_k (kx_1_1 hkr)) rfl (As := [.int (v3 + (1 : Int32))]) (rest := [.int v3, .ref (gAD G (r + 1))]) rfl (Nat.le_of_ble_eq_true rfl) ⟨Nat.zero_le _, Nat.zero_le _⟩ rfl dX1_layTop_28 (fun r6 M5 h => ?_)
      refine wl_callVv C (cX4_put_M l G hg hA (r + 1) v3 r6 (kx_1_1 hkr) M5 _) h cw_RX1_27 hd_X4_put ⟨rfl, rfl⟩ ⟨by decide, by decide⟩ (gic_4 hA (kx_1_1 hkr)) (gc_k (kx_1_1 hkr)) rfl (As := [.int v3, .int r6]) (rest := []) rfl (Nat.le_of_ble_eq_true rfl) ⟨Nat.zero_le _, Nat.zero_le _⟩ rfl dX1_layTop_31 (fun M7 h => ?_)
      refine wl_iinc (v := (v3 + (1 : Int32))) (lv' := [(3, .int (v3 + (1 : Int32))), (0, .ref (gAD G r)), (1, .int x1), (2, .int v2)]) C dX1_layTop_34 3 rfl (by rfl) (by decide) rfl ?_
      refine wl_goto C (tgt := 11) dX1_layTop_37 (by decide) ?_
      refine wl_sub [1, 2, 3, 0] rfl ?_
      exact ih v2 (v3 + (1 : Int32)) M7 h
set_option maxRecDepth 100000 in
set_option maxHeartbeats 4000000 in
theorem cX1_layTop_M (l : Launch) (G : gP) (hg : gIn G) (hA : gCl G) (r : Nat) (x1 : Int32) (hkr : kd r = 1) (M : Mem) (Q : Mem → Prop) : Met l yX1_layTop (Cond.code yX1_layTop cX1_layTop 4 none :: TB) rmX1_layTop (va_Pc [.ref (gAD G r), .int x1] (fun U => gS G M U ∧ wX1_layTop r x1 M Q)) (va_Qv Q (gB G) (gA G)) 0 0 (gA G) := by
  refine gMet (by decide +kernel) (show _ = Cond.code yX1_layTop cX1_layTop 4 none from rfl) hg (Nat.le_of_ble_eq_true rfl) [(0, .ref (gAD G r)), (1, .int x1)] rfl ?_
  intro p e s m args below meth c C hr h
  have h : (wX4_at (r + 1) (0 : Int32) M (fun r2 M1 => (∃ n3, wX1_layTop_11 r x1 Q n3 r2 (0 : Int32) M1))) := h
  refine wl_aload_n C dX1_layTop_0 0 rfl ?_
  refine gf_1_0 C hkr (gic_1 hA hkr) tw_77 dX1_layTop_1 ?_
  refine wl_iconst (v := 0) C dX1_layTop_4 (by decide) ?_
  refine wl_callVi C (cX4_at_M l G hg hA (r + 1) (0 : Int32) (kx_1_1 hkr) M _) h cw_RX1_31 hd_X4_at ⟨rfl, rfl⟩ ⟨by decide, by decide⟩ (gic_4 hA (kx_1_1 hkr)) (gc_k (kx_1_1 hkr)) rfl (As := [.int (0 : Int32)]) (rest := []) rfl (Nat.le_of_ble_eq_true rfl) ⟨Nat.zero_le _, Nat.zero_le _⟩ rfl dX1_layTop_5 (fun r2 M1 h => ?_)
  refine wl_istore_n (i := 2) (lv' := [(2, .int r2), (0, .ref (gAD G r)), (1, .int x1)]) C dX1_layTop_8 rfl (by decide) rfl ?_
  refine wl_iconst (v := 0) C dX1_layTop_9 (by decide) ?_
  refine wl_istore_n (i := 3) (lv' := [(3, .int (0 : Int32)), (2, .int r2), (0, .ref (gAD G r)), (1, .int x1)]) C dX1_layTop_10 rfl (by decide) rfl ?_
  refine wl_sub [2, 3, 1, 0] rfl ?_
  obtain ⟨n3, h⟩ := h
  exact kX1_layTop_11 l G hg hA r x1 hkr C hr n3 r2 (0 : Int32) M1 h
set_option maxRecDepth 100000 in
set_option maxHeartbeats 4000000 in
theorem kX1_readTop_65 (l : Launch) (G : gP) (hg : gIn G) (hA : gCl G) (r : Nat) (x1 : Int32) (x2 : Int32) (x3 : Int32) (hkr : kd r = 1) {p : Program} {e : Env} {s : State} {m : MethodId} {args : Array Value} {below : List Frame} {meth : Method} {c : Code} (C : Cx p s m args meth c G (gA G) cX1_readTop 5 RX1) (hr : meth.sig.returnType = (some (Jvm.ClassFile.FieldType.int))) {Q : Int32 → Mem → Prop} (v4 : Int32) (M : Mem) (h : wX1_readTop_65 r x1 x2 x3 Q v4 M) : Wl p l e rmX1_readTop s m args below meth c (MQ below (va_Qi Q (gB G) (gA G)) args s 0 0 (gA G)) G (gA G) 5 0 0 M 65 [(4, .int v4)] [] := by
  have h : Q v4 M := h
  refine wl_iload C dX1_readTop_65 0 rfl ?_
  exact wl_iret C hr h dX1_readTop_67
set_option maxRecDepth 100000 in
set_option maxHeartbeats 4000000 in
theorem kX1_readTop_38 (l : Launch) (G : gP) (hg : gIn G) (hA : gCl G) (r : Nat) (x1 : Int32) (x2 : Int32) (x3 : Int32) (hkr : kd r = 1) {p : Program} {e : Env} {s : State} {m : MethodId} {args : Array Value} {below : List Frame} {meth : Method} {c : Code} (C : Cx p s m args meth c G (gA G) cX1_readTop 5 RX1) (hr : meth.sig.returnType = (some (Jvm.ClassFile.FieldType.int))) {Q : Int32 → Mem → Prop} (v4 : Int32) (M : Mem) (h : wX1_readTop_38 r x1 x2 x3 Q v4 M) : Wl p l e rmX1_readTop s m args below meth c (MQ below (va_Qi Q (gB G) (gA G)) args s 0 0 (gA G)) G (gA G) 5 0 0 M 38 [(0, .ref (gAD G r)), (4, .int v4)] [] := by
  have h : (wX1_layTop r ((M r 2) - (1 : Int32)) M (fun M4 => wX1_readTop_65 r x1 x2 x3 Q v4 M4)) := h
  refine wl_aload_n C dX1_readTop_38 0 rfl ?_
  refine wl_aload_n C dX1_readTop_39 0 rfl ?_
  refine gf_1_2 C hkr (gic_1 hA hkr) tw_79 dX1_readTop_40 ?_
  refine wl_iconst (v := 1) C dX1_readTop_43 (by decide) ?_
  refine wl_isub C dX1_readTop_44 ?_
  refine wl_callVv C (cX1_layTop_M l G hg hA r ((M r 2) - (1 : Int32)) hkr M _) h cw_RX1_42 hd_X1_layTop ⟨rfl, rfl⟩ ⟨by decide, by decide⟩ (gic_1 hA hkr) (gc_k hkr) rfl (As := [.int ((M r 2) - (1 : Int32))]) (rest := []) rfl (Nat.le_of_ble_eq_true rfl) ⟨Nat.zero_le _, Nat.zero_le _⟩ rfl dX1_readTop_45 (fun M4 h => ?_)
  refine wl_goto C (tgt := 65) dX1_readTop_48 (by decide) ?_
  refine wl_sub [1] rfl ?_
  exact kX1_readTop_65 l G hg hA r x1 x2 x3 hkr C hr v4 M4 h
set_option maxRecDepth 100000 in
set_option maxHeartbeats 4000000 in
theorem kX1_readTop_51 (l : Launch) (G : gP) (hg : gIn G) (hA : gCl G) (r : Nat) (x1 : Int32) (x2 : Int32) (x3 : Int32) (hkr : kd r = 1) {p : Program} {e : Env} {s : State} {m : MethodId} {args : Array Value} {below : List Frame} {meth : Method} {c : Code} (C : Cx p s m args meth c G (gA G) cX1_readTop 5 RX1) (hr : meth.sig.returnType = (some (Jvm.ClassFile.FieldType.int))) {Q : Int32 → Mem → Prop} (v4 : Int32) (M : Mem) (h : wX1_readTop_51 r x1 x2 x3 Q v4 M) : Wl p l e rmX1_readTop s m args below meth c (MQ below (va_Qi Q (gB G) (gA G)) args s 0 0 (gA G)) G (gA G) 5 0 0 M 51 [(0, .ref (gAD G r)), (2, .int x2), (4, .int v4)] [] := by
  have h : (wX1_layTop r (if ((M r 2) - (1 : Int32)) < x2 then ((M r 2) - (1 : Int32)) else x2) M (fun M5 => wX1_readTop_65 r x1 x2 x3 Q v4 M5)) := h
  refine wl_aload_n C dX1_readTop_51 0 rfl ?_
  refine wl_iload_n C dX1_readTop_52 1 rfl ?_
  refine wl_aload_n C dX1_readTop_53 0 rfl ?_
  refine gf_1_2 C hkr (gic_1 hA hkr) tw_79 dX1_readTop_54 ?_
  refine wl_iconst (v := 1) C dX1_readTop_57 (by decide) ?_
  refine wl_isub C dX1_readTop_58 ?_
  refine wl_mmin C tw_191 tw_192 tw_4 tw_193 (by decide) (Nat.le_of_ble_eq_true rfl) (Nat.zero_le _) (Nat.zero_le _) dX1_readTop_59 ?_
  refine wl_callVv C (cX1_layTop_M l G hg hA r (if ((M r 2) - (1 : Int32)) < x2 then ((M r 2) - (1 : Int32)) else x2) hkr M _) h cw_RX1_42 hd_X1_layTop ⟨rfl, rfl⟩ ⟨by decide, by decide⟩ (gic_1 hA hkr) (gc_k hkr) rfl (As := [.int (if ((M r 2) - (1 : Int32)) < x2 then ((M r 2) - (1 : Int32)) else x2)]) (rest := []) rfl (Nat.le_of_ble_eq_true rfl) ⟨Nat.zero_le _, Nat.zero_le _⟩ rfl dX1_readTop_62 (fun M5 h => ?_)
  refine wl_sub [2] rfl ?_
  exact kX1_readTop_65 l G hg hA r x1 x2 x3 hkr C hr v4 M5 h
set_option maxRecDepth 100000 in
set_option maxHeartbeats 4000000 in
theorem cX1_readTop_M (l : Launch) (G : gP) (hg : gIn G) (hA : gCl G) (r : Nat) (x1 : Int32) (x2 : Int32) (x3 : Int32) (hkr : kd r = 1) (M : Mem) (Q : Int32 → Mem → Prop) : Met l yX1_readTop (Cond.code yX1_readTop cX1_readTop 5 (some (Jvm.ClassFile.FieldType.int)) :: TB) rmX1_readTop (va_Pc [.ref (gAD G r), .int x1, .int x2, .int x3] (fun U => gS G M U ∧ wX1_readTop r x1 x2 x3 M Q)) (va_Qi Q (gB G) (gA G)) 0 0 (gA G) := by
  refine gMet (by decide +kernel) (show _ = Cond.code yX1_readTop cX1_readTop 5 (some (Jvm.ClassFile.FieldType.int)) from rfl) hg (Nat.le_of_ble_eq_true rfl) [(0, .ref (gAD G r)), (1, .int x1), (2, .int x2), (3, .int x3)] rfl ?_
  intro p e s m args below meth c C hr h
  have h : (wX4_at (r + 1) (0 : Int32) M (fun r2 M1 => ((¬ x1 = (3 : Int32) → ((x1 = (1 : Int32) → wX1_readTop_38 r x1 x2 x3 Q r2 M1) ∧ (¬ x1 = (1 : Int32) → ((¬ x1 = (2 : Int32) → wX1_readTop_51 r x1 x2 x3 Q r2 M1) ∧ (x1 = (2 : Int32) → (¬ (2 : Int32) = 0 ∧ (((x3 - (x3 / (2 : Int32)) * (2 : Int32)) = 0 → wX1_readTop_51 r x1 x2 x3 Q r2 M1) ∧ (¬ (x3 - (x3 / (2 : Int32)) * (2 : Int32)) = 0 → wX1_readTop_38 r x1 x2 x3 Q r2 M1)))))))) ∧ (x1 = (3 : Int32) → (wX1_cut r M1 (fun M3 => wX1_readTop_65 r x1 x2 x3 Q r2 M3)))))) := h
  refine wl_aload_n C dX1_readTop_0 0 rfl ?_
  refine gf_1_0 C hkr (gic_1 hA hkr) tw_77 dX1_readTop_1 ?_
  refine wl_iconst (v := 0) C dX1_readTop_4 (by decide) ?_
  refine wl_callVi C (cX4_at_M l G hg hA (r + 1) (0 : Int32) (kx_1_1 hkr) M _) h cw_RX1_31 hd_X4_at ⟨rfl, rfl⟩ ⟨by decide, by decide⟩ (gic_4 hA (kx_1_1 hkr)) (gc_k (kx_1_1 hkr)) rfl (As := [.int (0 : Int32)]) (rest := []) rfl (Nat.le_of_ble_eq_true rfl) ⟨Nat.zero_le _, Nat.zero_le _⟩ rfl dX1_readTop_5 (fun r2 M1 h => ?_)
  refine wl_istore (i := 4) (lv' := [(4, .int r2), (0, .ref (gAD G r)), (1, .int x1), (2, .int x2), (3, .int x3)]) C dX1_readTop_8 (by decide) rfl ?_
  refine wl_iload_n C dX1_readTop_10 2 rfl ?_
  refine wl_iconst (v := 3) C dX1_readTop_11 (by decide) ?_
  refine wl_icmp_ne C (tgt := 22) dX1_readTop_12 (by decide) (fun hc => ?_) (fun hc => ?_)
  · have h := h.1 hc
    refine wl_iload_n C dX1_readTop_22 2 rfl ?_
    refine wl_iconst (v := 1) C dX1_readTop_23 (by decide) ?_
    refine wl_icmp_eq C (tgt := 38) dX1_readTop_24 (by decide) (fun hc => ?_) (fun hc => ?_)
    · have h := h.1 hc
      refine wl_sub [1, 0] rfl ?_
      exact kX1_readTop_38 l G hg hA r x1 x2 x3 hkr C hr r2 M1 h
    · have h := h.2 hc
      refine wl_iload_n C dX1_readTop_27 2 rfl ?_
      refine wl_iconst (v := 2) C dX1_readTop_28 (by decide) ?_
      refine wl_icmp_ne C (tgt := 51) dX1_readTop_29 (by decide) (fun hc => ?_) (fun hc => ?_)
      · have h := h.1 hc
        refine wl_sub [1, 3, 0] rfl ?_
        exact kX1_readTop_51 l G hg hA r x1 x2 x3 hkr C hr r2 M1 h
      · have h := h.2 hc
        refine wl_iload_n C dX1_readTop_32 4 rfl ?_
        refine wl_iconst (v := 2) C dX1_readTop_33 (by decide) ?_
        refine wl_irem C dX1_readTop_34 h.1 ?_
        have h := h.2
        refine wl_if_eq C (tgt := 51) dX1_readTop_35 (by decide) (fun hc => ?_) (fun hc => ?_)
        · have h := h.1 hc
          refine wl_sub [1, 3, 0] rfl ?_
          exact kX1_readTop_51 l G hg hA r x1 x2 x3 hkr C hr r2 M1 h
        · have h := h.2 hc
          refine wl_sub [1, 0] rfl ?_
          exact kX1_readTop_38 l G hg hA r x1 x2 x3 hkr C hr r2 M1 h
  · have h := h.2 hc
    refine wl_aload_n C dX1_readTop_15 1 rfl ?_
    refine wl_callVv C (cX1_cut_M l G hg hA r hkr M1 _) h cw_RX1_39 hd_X1_cut ⟨rfl, rfl⟩ ⟨by decide, by decide⟩ (gic_1 hA hkr) (gc_k hkr) rfl (As := []) (rest := []) rfl (Nat.le_of_ble_eq_true rfl) ⟨Nat.zero_le _, Nat.zero_le _⟩ rfl dX1_readTop_16 (fun M3 h => ?_)
    refine wl_goto C (tgt := 65) dX1_readTop_19 (by decide) ?_
    refine wl_sub [0] rfl ?_
    exact kX1_readTop_65 l G hg hA r x1 x2 x3 hkr C hr r2 M3 h
set_option maxRecDepth 100000 in
set_option maxHeartbeats 4000000 in
theorem cX2_startWith_M (l : Launch) (G : gP) (hg : gIn G) (hA : gCl G) (r : Nat) (x1 : Nat) (hkr : kd r = 2) (hk1 : kd x1 = 1) (M : Mem) (Q : Mem → Prop) : Met l yX2_startWith (Cond.code yX2_startWith cX2_startWith 2 none :: TB) rmX2_startWith (va_Pc [.ref (gAD G r), .ref (gAD G x1)] (fun U => gS G M U ∧ wX2_startWith r x1 M Q)) (va_Qv Q (gB G) (gA G)) 0 0 (gA G) := by
  refine gMet (by decide +kernel) (show _ = Cond.code yX2_startWith cX2_startWith 2 none from rfl) hg (Nat.le_of_ble_eq_true rfl) [(0, .ref (gAD G r)), (1, .ref (gAD G x1))] rfl ?_
  intro p e s m args below meth c C hr h
  have h : (wX1_copyFrom (r + 1) x1 M (fun M1 => Q (mu (mu M1 r 1 (0 : Int32)) r 2 (0 : Int32)))) := h
  refine wl_aload_n C dX2_startWith_0 0 rfl ?_
  refine gf_2_0 C hkr (gic_2 hA hkr) tw_134 dX2_startWith_1 ?_
  refine wl_aload_n C dX2_startWith_4 1 rfl ?_
  refine wl_callVv C (cX1_copyFrom_M l G hg hA (r + 1) x1 (kx_2_1 hkr) hk1 M _) h cw_RX2_16 hd_X1_copyFrom ⟨rfl, rfl⟩ ⟨by decide, by decide⟩ (gic_1 hA (kx_2_1 hkr)) (gc_k (kx_2_1 hkr)) rfl (As := [.ref (gAD G x1)]) (rest := []) rfl (Nat.le_of_ble_eq_true rfl) ⟨Nat.zero_le _, Nat.zero_le _⟩ rfl dX2_startWith_5 (fun M1 h => ?_)
  refine wl_aload_n C dX2_startWith_8 0 rfl ?_
  refine wl_iconst (v := 0) C dX2_startWith_9 (by decide) ?_
  refine gp_2_1 C hkr (gic_2 hA hkr) tw_135 dX2_startWith_10 ?_
  refine wl_aload_n C dX2_startWith_13 0 rfl ?_
  refine wl_iconst (v := 0) C dX2_startWith_14 (by decide) ?_
  refine gp_2_2 C hkr (gic_2 hA hkr) tw_136 dX2_startWith_15 ?_
  exact wl_vret C hr h dX2_startWith_18
set_option maxRecDepth 100000 in
set_option maxHeartbeats 4000000 in
theorem cX2_copyFrom_M (l : Launch) (G : gP) (hg : gIn G) (hA : gCl G) (r : Nat) (x1 : Nat) (hkr : kd r = 2) (hk1 : kd x1 = 2) (M : Mem) (Q : Mem → Prop) : Met l yX2_copyFrom (Cond.code yX2_copyFrom cX2_copyFrom 2 none :: TB) rmX2_copyFrom (va_Pc [.ref (gAD G r), .ref (gAD G x1)] (fun U => gS G M U ∧ wX2_copyFrom r x1 M Q)) (va_Qv Q (gB G) (gA G)) 0 0 (gA G) := by
  refine gMet (by decide +kernel) (show _ = Cond.code yX2_copyFrom cX2_copyFrom 2 none from rfl) hg (Nat.le_of_ble_eq_true rfl) [(0, .ref (gAD G r)), (1, .ref (gAD G x1))] rfl ?_
  intro p e s m args below meth c C hr h
  have h : (wX1_copyFrom (r + 1) (x1 + 1) M (fun M1 => Q (mu (mu M1 r 1 (M1 x1 1)) r 2 ((mu M1 r 1 (M1 x1 1)) x1 2)))) := h
  refine wl_aload_n C dX2_copyFrom_0 0 rfl ?_
  refine gf_2_0 C hkr (gic_2 hA hkr) tw_134 dX2_copyFrom_1 ?_
  refine wl_aload_n C dX2_copyFrom_4 1 rfl ?_
  refine gf_2_0 C hk1 (gic_2 hA hk1) tw_134 dX2_copyFrom_5 ?_
  refine wl_callVv C (cX1_copyFrom_M l G hg hA (r + 1) (x1 + 1) (kx_2_1 hkr) (kx_2_1 hk1) M _) h cw_RX2_16 hd_X1_copyFrom ⟨rfl, rfl⟩ ⟨by decide, by decide⟩ (gic_1 hA (kx_2_1 hkr)) (gc_k (kx_2_1 hkr)) rfl (As := [.ref (gAD G (x1 + 1))]) (rest := []) rfl (Nat.le_of_ble_eq_true rfl) ⟨Nat.zero_le _, Nat.zero_le _⟩ rfl dX2_copyFrom_8 (fun M1 h => ?_)
  refine wl_aload_n C dX2_copyFrom_11 0 rfl ?_
  refine wl_aload_n C dX2_copyFrom_12 1 rfl ?_
  refine gf_2_1 C hk1 (gic_2 hA hk1) tw_135 dX2_copyFrom_13 ?_
  refine gp_2_1 C hkr (gic_2 hA hkr) tw_135 dX2_copyFrom_16 ?_
  refine wl_aload_n C dX2_copyFrom_19 0 rfl ?_
  refine wl_aload_n C dX2_copyFrom_20 1 rfl ?_
  refine gf_2_2 C hk1 (gic_2 hA hk1) tw_136 dX2_copyFrom_21 ?_
  refine gp_2_2 C hkr (gic_2 hA hkr) tw_136 dX2_copyFrom_24 ?_
  exact wl_vret C hr h dX2_copyFrom_27
set_option maxRecDepth 100000 in
set_option maxHeartbeats 4000000 in
theorem kX2_readOne_56 (l : Launch) (G : gP) (hg : gIn G) (hA : gCl G) (r : Nat) (x1 : Nat) (hkr : kd r = 2) (hk1 : kd x1 = 6) {p : Program} {e : Env} {s : State} {m : MethodId} {args : Array Value} {below : List Frame} {meth : Method} {c : Code} (C : Cx p s m args meth c G (gA G) cX2_readOne 3 RX2) (hr : meth.sig.returnType = (some (Jvm.ClassFile.FieldType.int))) {Q : Int32 → Mem → Prop} (v2 : Int32) (M : Mem) (h : wX2_readOne_56 r x1 Q v2 M) : Wl p l e rmX2_readOne s m args below meth c (MQ below (va_Qi Q (gB G) (gA G)) args s 0 0 (gA G)) G (gA G) 3 0 0 M 56 [(2, .int v2)] [] := by
  have h : Q v2 M := h
  refine wl_iload_n C dX2_readOne_56 0 rfl ?_
  exact wl_iret C hr h dX2_readOne_57
set_option maxRecDepth 100000 in
set_option maxHeartbeats 4000000 in
theorem cX2_readOne_M (l : Launch) (G : gP) (hg : gIn G) (hA : gCl G) (r : Nat) (x1 : Nat) (hkr : kd r = 2) (hk1 : kd x1 = 6) (M : Mem) (Q : Int32 → Mem → Prop) : Met l yX2_readOne (Cond.code yX2_readOne cX2_readOne 3 (some (Jvm.ClassFile.FieldType.int)) :: TB) rmX2_readOne (va_Pc [.ref (gAD G r), .ref (gAD G x1)] (fun U => gS G M U ∧ wX2_readOne r x1 M Q)) (va_Qi Q (gB G) (gA G)) 0 0 (gA G) := by
  refine gMet (by decide +kernel) (show _ = Cond.code yX2_readOne cX2_readOne 3 (some (Jvm.ClassFile.FieldType.int)) from rfl) hg (Nat.le_of_ble_eq_true rfl) [(0, .ref (gAD G r)), (1, .ref (gAD G x1))] rfl ?_
  intro p e s m args below meth c C hr h
  have h : (wX1_readTop (r + 1) (M x1 2) (M x1 3) (M r 1) M (fun r2 M1 => ((((mu M1 r 1 ((M1 r 1) + (1 : Int32))) r 1) < ((mu M1 r 1 ((M1 r 1) + (1 : Int32))) x1 1) → wX2_readOne_56 r x1 Q r2 (mu M1 r 1 ((M1 r 1) + (1 : Int32)))) ∧ (¬ ((mu M1 r 1 ((M1 r 1) + (1 : Int32))) r 1) < ((mu M1 r 1 ((M1 r 1) + (1 : Int32))) x1 1) → wX2_readOne_56 r x1 Q r2 (mu (mu (mu M1 r 1 ((M1 r 1) + (1 : Int32))) r 1 (0 : Int32)) r 2 (((mu (mu M1 r 1 ((M1 r 1) + (1 : Int32))) r 1 (0 : Int32)) r 2) + (1 : Int32))))))) := h
  refine wl_aload_n C dX2_readOne_0 0 rfl ?_
  refine gf_2_0 C hkr (gic_2 hA hkr) tw_134 dX2_readOne_1 ?_
  refine wl_aload_n C dX2_readOne_4 1 rfl ?_
  refine gfN_6_2 C hk1 (gic_6 hA hk1) (List.mem_of_getElem? (i := 6) rfl) dX2_readOne_5 ?_
  refine wl_aload_n C dX2_readOne_8 1 rfl ?_
  refine gfN_6_3 C hk1 (gic_6 hA hk1) (List.mem_of_getElem? (i := 8) rfl) dX2_readOne_9 ?_
  refine wl_aload_n C dX2_readOne_12 0 rfl ?_
  refine gf_2_1 C hkr (gic_2 hA hkr) tw_135 dX2_readOne_13 ?_
  refine wl_callVi C (cX1_readTop_M l G hg hA (r + 1) (M x1 2) (M x1 3) (M r 1) (kx_2_1 hkr) M _) h cw_RX2_35 hd_X1_readTop ⟨rfl, rfl⟩ ⟨by decide, by decide⟩ (gic_1 hA (kx_2_1 hkr)) (gc_k (kx_2_1 hkr)) rfl (As := [.int (M x1 2), .int (M x1 3), .int (M r 1)]) (rest := []) rfl (Nat.le_of_ble_eq_true rfl) ⟨Nat.zero_le _, Nat.zero_le _⟩ rfl dX2_readOne_16 (fun r2 M1 h => ?_)
  refine wl_istore_n (i := 2) (lv' := [(2, .int r2), (0, .ref (gAD G r)), (1, .ref (gAD G x1))]) C dX2_readOne_19 rfl (by decide) rfl ?_
  refine wl_aload_n C dX2_readOne_20 1 rfl ?_
  refine wl_dup C dX2_readOne_21 rfl ?_
  refine gf_2_1 C hkr (gic_2 hA hkr) tw_135 dX2_readOne_22 ?_
  refine wl_iconst (v := 1) C dX2_readOne_25 (by decide) ?_
  refine wl_iadd C dX2_readOne_26 ?_
  refine gp_2_1 C hkr (gic_2 hA hkr) tw_135 dX2_readOne_27 ?_
  refine wl_aload_n C dX2_readOne_30 1 rfl ?_
  refine gf_2_1 C hkr (gic_2 hA hkr) tw_135 dX2_readOne_31 ?_
  refine wl_aload_n C dX2_readOne_34 2 rfl ?_
  refine gfN_6_1 C hk1 (gic_6 hA hk1) (List.mem_of_getElem? (i := 3) rfl) dX2_readOne_35 ?_
  refine wl_icmp_lt C (tgt := 56) dX2_readOne_38 (by decide) (fun hc => ?_) (fun hc => ?_)
  · have h := h.1 hc
    refine wl_sub [0] rfl ?_
    exact kX2_readOne_56 l G hg hA r x1 hkr hk1 C hr r2 (mu M1 r 1 ((M1 r 1) + (1 : Int32))) h
  · have h := h.2 hc
    refine wl_aload_n C dX2_readOne_41 1 rfl ?_
    refine wl_iconst (v := 0) C dX2_readOne_42 (by decide) ?_
    refine gp_2_1 C hkr (gic_2 hA hkr) tw_135 dX2_readOne_43 ?_
    refine wl_aload_n C dX2_readOne_46 1 rfl ?_
    refine wl_dup C dX2_readOne_47 rfl ?_
    refine gf_2_2 C hkr (gic_2 hA hkr) tw_136 dX2_readOne_48 ?_
    refine wl_iconst (v := 1) C dX2_readOne_51 (by decide) ?_
    refine wl_iadd C dX2_readOne_52 ?_
    refine gp_2_2 C hkr (gic_2 hA hkr) tw_136 dX2_readOne_53 ?_
    refine wl_sub [0] rfl ?_
    exact kX2_readOne_56 l G hg hA r x1 hkr hk1 C hr r2 (mu (mu (mu M1 r 1 ((M1 r 1) + (1 : Int32))) r 1 (0 : Int32)) r 2 (((mu (mu M1 r 1 ((M1 r 1) + (1 : Int32))) r 1 (0 : Int32)) r 2) + (1 : Int32))) h
set_option maxRecDepth 100000 in
set_option maxHeartbeats 4000000 in
theorem kX2_fall_10 (l : Launch) (G : gP) (hg : gIn G) (hA : gCl G) (r : Nat) (x1 : Int32) (hkr : kd r = 2) {p : Program} {e : Env} {s : State} {m : MethodId} {args : Array Value} {below : List Frame} {meth : Method} {c : Code} (C : Cx p s m args meth c G (gA G) cX2_fall 5 RX2) (hr : meth.sig.returnType = none) {Q : Mem → Prop} : ∀ (n : Nat) (v2 : Int32) (M : Mem), wX2_fall_10 r x1 Q n v2 M → Wl p l e rmX2_fall s m args below meth c (MQ below (va_Qv Q (gB G) (gA G)) args s 0 0 (gA G)) G (gA G) 5 0 0 M 10 [(0, .ref (gAD G r)), (1, .int x1), (2, .int v2)] [] := by
  intro n
  induction n with
  | zero => intro v2 M h; exact h.elim
  | succ n ih =>
    intro v2 M h
    have h : ((v2 < (1 : Int32) → Q (mu M r 1 (0 : Int32))) ∧ (¬ v2 < (1 : Int32) → (¬ (65521 : Int64) = 0 ∧ (¬ (v2 + (1 : Int32)).toInt64 = 0 ∧ (wX1_swap (r + 1) v2 ((((((((7919 : Int64) * x1.toInt64) + ((6151 : Int64) * v2.toInt64)) + (1 : Int64)) * ((((7919 : Int64) * x1.toInt64) + ((6151 : Int64) * v2.toInt64)) + (1 : Int64))) - ((((((7919 : Int64) * x1.toInt64) + ((6151 : Int64) * v2.toInt64)) + (1 : Int64)) * ((((7919 : Int64) * x1.toInt64) + ((6151 : Int64) * v2.toInt64)) + (1 : Int64))) / (65521 : Int64)) * (65521 : Int64)) - (((((((7919 : Int64) * x1.toInt64) + ((6151 : Int64) * v2.toInt64)) + (1 : Int64)) * ((((7919 : Int64) * x1.toInt64) + ((6151 : Int64) * v2.toInt64)) + (1 : Int64))) - ((((((7919 : Int64) * x1.toInt64) + ((6151 : Int64) * v2.toInt64)) + (1 : Int64)) * ((((7919 : Int64) * x1.toInt64) + ((6151 : Int64) * v2.toInt64)) + (1 : Int64))) / (65521 : Int64)) * (65521 : Int64)) / (v2 + (1 : Int32)).toInt64) * (v2 + (1 : Int32)).toInt64).toInt32) M (fun M2 => wX2_fall_10 r x1 Q n (v2 + (-1)) M2)))))) := h
    refine wl_iload_n C dX2_fall_10 2 rfl ?_
    refine wl_iconst (v := 1) C dX2_fall_11 (by decide) ?_
    refine wl_icmp_lt C (tgt := 58) dX2_fall_12 (by decide) (fun hc => ?_) (fun hc => ?_)
    · have h := h.1 hc
      refine wl_aload_n C dX2_fall_58 0 rfl ?_
      refine wl_iconst (v := 0) C dX2_fall_59 (by decide) ?_
      refine gp_2_1 C hkr (gic_2 hA hkr) tw_135 dX2_fall_60 ?_
      exact wl_vret C hr h dX2_fall_63
    · have h := h.2 hc
      refine wl_ldc2 C tw_291 dX2_fall_15 ?_
      refine wl_iload_n C dX2_fall_18 1 rfl ?_
      refine wl_i2l C dX2_fall_19 ?_
      refine wl_lmul C dX2_fall_20 ?_
      refine wl_ldc2 C tw_292 dX2_fall_21 ?_
      refine wl_iload_n C dX2_fall_24 2 rfl ?_
      refine wl_i2l C dX2_fall_25 ?_
      refine wl_lmul C dX2_fall_26 ?_
      refine wl_ladd C dX2_fall_27 ?_
      refine wl_lconst (v := 1) C dX2_fall_28 (by decide) ?_
      refine wl_ladd C dX2_fall_29 ?_
      refine wl_lstore_n (i := 3) (lv' := [(3, .long ((((7919 : Int64) * x1.toInt64) + ((6151 : Int64) * v2.toInt64)) + (1 : Int64))), (0, .ref (gAD G r)), (1, .int x1), (2, .int v2)]) C dX2_fall_30 rfl (by decide) rfl ?_
      refine wl_aload_n C dX2_fall_31 1 rfl ?_
      refine gf_2_0 C hkr (gic_2 hA hkr) tw_134 dX2_fall_32 ?_
      refine wl_iload_n C dX2_fall_35 3 rfl ?_
      refine wl_lload_n C dX2_fall_36 0 rfl ?_
      refine wl_lload_n C dX2_fall_37 0 rfl ?_
      refine wl_lmul C dX2_fall_38 ?_
      refine wl_ldc2 C tw_293 dX2_fall_39 ?_
      refine wl_lrem C dX2_fall_42 h.1 ?_
      have h := h.2
      refine wl_iload_n C dX2_fall_43 3 rfl ?_
      refine wl_iconst (v := 1) C dX2_fall_44 (by decide) ?_
      refine wl_iadd C dX2_fall_45 ?_
      refine wl_i2l C dX2_fall_46 ?_
      refine wl_lrem C dX2_fall_47 h.1 ?_
      have h := h.2
      refine wl_l2i C dX2_fall_48 ?_
      refine wl_callVv C (cX1_swap_M l G hg hA (r + 1) v2 ((((((((7919 : Int64) * x1.toInt64) + ((6151 : Int64) * v2.toInt64)) + (1 : Int64)) * ((((7919 : Int64) * x1.toInt64) + ((6151 : Int64) * v2.toInt64)) + (1 : Int64))) - ((((((7919 : Int64) * x1.toInt64) + ((6151 : Int64) * v2.toInt64)) + (1 : Int64)) * ((((7919 : Int64) * x1.toInt64) + ((6151 : Int64) * v2.toInt64)) + (1 : Int64))) / (65521 : Int64)) * (65521 : Int64)) - (((((((7919 : Int64) * x1.toInt64) + ((6151 : Int64) * v2.toInt64)) + (1 : Int64)) * ((((7919 : Int64) * x1.toInt64) + ((6151 : Int64) * v2.toInt64)) + (1 : Int64))) - ((((((7919 : Int64) * x1.toInt64) + ((6151 : Int64) * v2.toInt64)) + (1 : Int64)) * ((((7919 : Int64) * x1.toInt64) + ((6151 : Int64) * v2.toInt64)) + (1 : Int64))) / (65521 : Int64)) * (65521 : Int64)) / (v2 + (1 : Int32)).toInt64) * (v2 + (1 : Int32)).toInt64).toInt32) (kx_2_1 hkr) M _) h cw_RX2_51 hd_X1_swap ⟨rfl, rfl⟩ ⟨by decide, by decide⟩ (gic_1 hA (kx_2_1 hkr)) (gc_k (kx_2_1 hkr)) rfl (As := [.int v2, .int (((((((7919 : Int64) * x1.toInt64) + ((6151 : Int64) * v2.toInt64)) + (1 : Int64)) * ((((7919 : Int64) * x1.toInt64) + ((6151 : Int64) * v2.toInt64)) + (1 : Int64))) - ((((((7919 : Int64) * x1.toInt64) + ((6151 : Int64) * v2.toInt64)) + (1 : Int64)) * ((((7919 : Int64) * x1.toInt64) + ((6151 : Int64) * v2.toInt64)) + (1 : Int64))) / (65521 : Int64)) * (65521 : Int64)) - (((((((7919 : Int64) * x1.toInt64) + ((6151 : Int64) * v2.toInt64)) + (1 : Int64)) * ((((7919 : Int64) * x1.toInt64) + ((6151 : Int64) * v2.toInt64)) + (1 : Int64))) - ((((((7919 : Int64) * x1.toInt64) + ((6151 : Int64) * v2.toInt64)) + (1 : Int64)) * ((((7919 : Int64) * x1.toInt64) + ((6151 : Int64) * v2.toInt64)) + (1 : Int64))) / (65521 : Int64)) * (65521 : Int64)) / (v2 + (1 : Int32)).toInt64) * (v2 + (1 : Int32)).toInt64).toInt32]) (rest := []) rfl (Nat.le_of_ble_eq_true rfl) ⟨Nat.zero_le _, Nat.zero_le _⟩ rfl dX2_fall_49 (fun M2 h => ?_)
      refine wl_iinc (v := (v2 + (-1))) (lv' := [(2, .int (v2 + (-1))), (3, .long ((((7919 : Int64) * x1.toInt64) + ((6151 : Int64) * v2.toInt64)) + (1 : Int64))), (0, .ref (gAD G r)), (1, .int x1)]) C dX2_fall_52 3 rfl (by rfl) (by decide) rfl ?_
      refine wl_goto C (tgt := 10) dX2_fall_55 (by decide) ?_
      refine wl_sub [2, 3, 0] rfl ?_
      exact ih (v2 + (-1)) M2 h
set_option maxRecDepth 100000 in
set_option maxHeartbeats 4000000 in
theorem cX2_fall_M (l : Launch) (G : gP) (hg : gIn G) (hA : gCl G) (r : Nat) (x1 : Int32) (hkr : kd r = 2) (M : Mem) (Q : Mem → Prop) : Met l yX2_fall (Cond.code yX2_fall cX2_fall 5 none :: TB) rmX2_fall (va_Pc [.ref (gAD G r), .int x1] (fun U => gS G M U ∧ wX2_fall r x1 M Q)) (va_Qv Q (gB G) (gA G)) 0 0 (gA G) := by
  refine gMet (by decide +kernel) (show _ = Cond.code yX2_fall cX2_fall 5 none from rfl) hg (Nat.le_of_ble_eq_true rfl) [(0, .ref (gAD G r)), (1, .int x1)] rfl ?_
  intro p e s m args below meth c C hr h
  have h : (∃ n1, wX2_fall_10 r x1 Q n1 ((M (r + 1) 2) - (1 : Int32)) M) := h
  refine wl_aload_n C dX2_fall_0 0 rfl ?_
  refine gf_2_0 C hkr (gic_2 hA hkr) tw_134 dX2_fall_1 ?_
  refine gfN_1_2 C (kx_2_1 hkr) (gic_1 hA (kx_2_1 hkr)) (List.mem_of_getElem? (i := 10) rfl) dX2_fall_4 ?_
  refine wl_iconst (v := 1) C dX2_fall_7 (by decide) ?_
  refine wl_isub C dX2_fall_8 ?_
  refine wl_istore_n (i := 2) (lv' := [(2, .int ((M (r + 1) 2) - (1 : Int32))), (0, .ref (gAD G r)), (1, .int x1)]) C dX2_fall_9 rfl (by decide) rfl ?_
  refine wl_sub [1, 2, 0] rfl ?_
  obtain ⟨n1, h⟩ := h
  exact kX2_fall_10 l G hg hA r x1 hkr C hr n1 ((M (r + 1) 2) - (1 : Int32)) M h
set_option maxRecDepth 100000 in
set_option maxHeartbeats 4000000 in
theorem kJ9_floorMod_f86c9_25 (l : Launch) (G : gP) (hg : gIn G) (hA : gCl G) (x0 : Int64) (x2 : Int64) {p : Program} {e : Env} {s : State} {m : MethodId} {args : Array Value} {below : List Frame} {meth : Method} {c : Code} (C : Cx p s m args meth c G (gA G) cJ9_floorMod_f86c9 6 RJ9) (hr : meth.sig.returnType = (some (Jvm.ClassFile.FieldType.long))) {Q : Int64 → Mem → Prop} (v4 : Int64) (M : Mem) (h : wJ9_floorMod_f86c9_25 x0 x2 Q v4 M) : Wl p l e rmJ9_floorMod_f86c9 s m args below meth c (MQ below (va_Ql Q (gB G) (gA G)) args s 0 0 (gA G)) G (gA G) 6 0 0 M 25 [(4, .long v4)] [] := by
  have h : Q v4 M := h
  refine wl_lload C dJ9_floorMod_f86c9_25 0 rfl ?_
  exact wl_lret C hr h dJ9_floorMod_f86c9_27
set_option maxRecDepth 100000 in
set_option maxHeartbeats 4000000 in
theorem cJ9_floorMod_f86c9_M (l : Launch) (G : gP) (hg : gIn G) (hA : gCl G) (x0 : Int64) (x2 : Int64) (M : Mem) (Q : Int64 → Mem → Prop) : Met l yJ9_floorMod_f86c9 (Cond.code yJ9_floorMod_f86c9 cJ9_floorMod_f86c9 6 (some (Jvm.ClassFile.FieldType.long)) :: TB) rmJ9_floorMod_f86c9 (va_Pc [.long x0, .long x2] (fun U => gS G M U ∧ wJ9_floorMod_f86c9 x0 x2 M Q)) (va_Ql Q (gB G) (gA G)) 0 0 (gA G) := by
  refine gMet (by decide +kernel) (show _ = Cond.code yJ9_floorMod_f86c9 cJ9_floorMod_f86c9 6 (some (Jvm.ClassFile.FieldType.long)) from rfl) hg (Nat.le_of_ble_eq_true rfl) [(0, .long x0), (2, .long x2)] rfl ?_
  intro p e s m args below meth c C hr h
  have h : (¬ x2 = 0 ∧ ((0 ≤ (lg_cmp (x0 ^^^ x2) (0 : Int64)) → wJ9_floorMod_f86c9_25 x0 x2 Q (x0 - (x0 / x2) * x2) M) ∧ (¬ 0 ≤ (lg_cmp (x0 ^^^ x2) (0 : Int64)) → (((lg_cmp (x0 - (x0 / x2) * x2) (0 : Int64)) = 0 → wJ9_floorMod_f86c9_25 x0 x2 Q (x0 - (x0 / x2) * x2) M) ∧ (¬ (lg_cmp (x0 - (x0 / x2) * x2) (0 : Int64)) = 0 → Q ((x0 - (x0 / x2) * x2) + x2) M))))) := h
  refine wl_lload_n C dJ9_floorMod_f86c9_0 0 rfl ?_
  refine wl_lload_n C dJ9_floorMod_f86c9_1 1 rfl ?_
  refine wl_lrem C dJ9_floorMod_f86c9_2 h.1 ?_
  have h := h.2
  refine wl_lstore (i := 4) (lv' := [(4, .long (x0 - (x0 / x2) * x2)), (0, .long x0), (2, .long x2)]) C dJ9_floorMod_f86c9_3 (by decide) rfl ?_
  refine wl_lload_n C dJ9_floorMod_f86c9_5 1 rfl ?_
  refine wl_lload_n C dJ9_floorMod_f86c9_6 2 rfl ?_
  refine wl_lxor C dJ9_floorMod_f86c9_7 ?_
  refine wl_lconst (v := 0) C dJ9_floorMod_f86c9_8 (by decide) ?_
  refine wl_lcmp C dJ9_floorMod_f86c9_9 ?_
  refine wl_if_ge C (tgt := 25) dJ9_floorMod_f86c9_10 (by decide) (fun hc => ?_) (fun hc => ?_)
  · have h := h.1 hc
    refine wl_sub [0] rfl ?_
    exact kJ9_floorMod_f86c9_25 l G hg hA x0 x2 C hr (x0 - (x0 / x2) * x2) M h
  · have h := h.2 hc
    refine wl_lload C dJ9_floorMod_f86c9_13 0 rfl ?_
    refine wl_lconst (v := 0) C dJ9_floorMod_f86c9_15 (by decide) ?_
    refine wl_lcmp C dJ9_floorMod_f86c9_16 ?_
    refine wl_if_eq C (tgt := 25) dJ9_floorMod_f86c9_17 (by decide) (fun hc => ?_) (fun hc => ?_)
    · have h := h.1 hc
      refine wl_sub [0] rfl ?_
      exact kJ9_floorMod_f86c9_25 l G hg hA x0 x2 C hr (x0 - (x0 / x2) * x2) M h
    · have h := h.2 hc
      refine wl_lload C dJ9_floorMod_f86c9_20 0 rfl ?_
      refine wl_lload_n C dJ9_floorMod_f86c9_22 2 rfl ?_
      refine wl_ladd C dJ9_floorMod_f86c9_23 ?_
      exact wl_lret C hr h dJ9_floorMod_f86c9_24
set_option maxRecDepth 100000 in
set_option maxHeartbeats 4000000 in
theorem cX5_size_M (l : Launch) (G : gP) (hg : gIn G) (hA : gCl G) (r : Nat) (hkr : kd r = 5) (M : Mem) (Q : Int32 → Mem → Prop) : Met l yX5_size (Cond.code yX5_size cX5_size 1 (some (Jvm.ClassFile.FieldType.int)) :: TB) rmX5_size (va_Pc [.ref (gAD G r)] (fun U => gS G M U ∧ wX5_size r M Q)) (va_Qi Q (gB G) (gA G)) 0 0 (gA G) := by
  refine gMet (by decide +kernel) (show _ = Cond.code yX5_size cX5_size 1 (some (Jvm.ClassFile.FieldType.int)) from rfl) hg (Nat.le_of_ble_eq_true rfl) [(0, .ref (gAD G r))] rfl ?_
  intro p e s m args below meth c C hr h
  have h : Q (M r 1) M := h
  refine wl_aload_n C dX5_size_0 0 rfl ?_
  refine gf_5_1 C hkr (gic_5 hA hkr) tw_36 dX5_size_1 ?_
  exact wl_iret C hr h dX5_size_4
set_option maxRecDepth 100000 in
set_option maxHeartbeats 4000000 in
theorem kX5_byteAt_21 (l : Launch) (G : gP) (hg : gIn G) (hA : gCl G) (r : Nat) (x1 : Int32) (hkr : kd r = 5) {p : Program} {e : Env} {s : State} {m : MethodId} {args : Array Value} {below : List Frame} {meth : Method} {c : Code} (C : Cx p s m args meth c G (gA G) cX5_byteAt 2 RX5) (hr : meth.sig.returnType = (some (Jvm.ClassFile.FieldType.int))) {Q : Int32 → Mem → Prop} (s0 : Int32) (M : Mem) (h : wX5_byteAt_21 r x1 Q s0 M) : Wl p l e rmX5_byteAt s m args below meth c (MQ below (va_Qi Q (gB G) (gA G)) args s 0 0 (gA G)) G (gA G) 2 0 0 M 21 [] [.int s0] := by
  have h : Q s0 M := h
  exact wl_iret C hr h dX5_byteAt_21
set_option maxRecDepth 100000 in
set_option maxHeartbeats 4000000 in
theorem cX5_byteAt_M (l : Launch) (G : gP) (hg : gIn G) (hA : gCl G) (r : Nat) (x1 : Int32) (hkr : kd r = 5) (M : Mem) (Q : Int32 → Mem → Prop) : Met l yX5_byteAt (Cond.code yX5_byteAt cX5_byteAt 2 (some (Jvm.ClassFile.FieldType.int)) :: TB) rmX5_byteAt (va_Pc [.ref (gAD G r), .int x1] (fun U => gS G M U ∧ wX5_byteAt r x1 M Q)) (va_Qi Q (gB G) (gA G)) 0 0 (gA G) := by
  refine gMet (by decide +kernel) (show _ = Cond.code yX5_byteAt cX5_byteAt 2 (some (Jvm.ClassFile.FieldType.int)) from rfl) hg (Nat.le_of_ble_eq_true rfl) [(0, .ref (gAD G r)), (1, .int x1)] rfl ?_
  intro p e s m args below meth c C hr h
  have h : (((M r 1) ≤ x1 → wX5_byteAt_21 r x1 Q (-4 : Int32) M) ∧ (¬ (M r 1) ≤ x1 → (wX4_at (r + 1) x1 M (fun r2 M1 => wX5_byteAt_21 r x1 Q r2 M1)))) := h
  refine wl_iload_n C dX5_byteAt_0 1 rfl ?_
  refine wl_aload_n C dX5_byteAt_1 0 rfl ?_
  refine gf_5_1 C hkr (gic_5 hA hkr) tw_36 dX5_byteAt_2 ?_
  refine wl_icmp_ge C (tgt := 19) dX5_byteAt_5 (by decide) (fun hc => ?_) (fun hc => ?_)
  · have h := h.1 hc
    refine wl_bipush (v := (-4)) C dX5_byteAt_19 (by decide) ?_
    refine wl_sub [] rfl ?_
    exact kX5_byteAt_21 l G hg hA r x1 hkr C hr (-4 : Int32) M h
  · have h := h.2 hc
    refine wl_aload_n C dX5_byteAt_8 0 rfl ?_
    refine gf_5_0 C hkr (gic_5 hA hkr) tw_35 dX5_byteAt_9 ?_
    refine wl_iload_n C dX5_byteAt_12 1 rfl ?_
    refine wl_callVi C (cX4_at_M l G hg hA (r + 1) x1 (kx_5_1 hkr) M _) h cw_RX5_24 hd_X4_at ⟨rfl, rfl⟩ ⟨by decide, by decide⟩ (gic_4 hA (kx_5_1 hkr)) (gc_k (kx_5_1 hkr)) rfl (As := [.int x1]) (rest := []) rfl (Nat.le_of_ble_eq_true rfl) ⟨Nat.zero_le _, Nat.zero_le _⟩ rfl dX5_byteAt_13 (fun r2 M1 h => ?_)
    refine wl_goto C (tgt := 21) dX5_byteAt_16 (by decide) ?_
    refine wl_sub [] rfl ?_
    exact kX5_byteAt_21 l G hg hA r x1 hkr C hr r2 M1 h
set_option maxRecDepth 100000 in
set_option maxHeartbeats 4000000 in
theorem kX5_append_5 (l : Launch) (G : gP) (hg : gIn G) (hA : gCl G) (r : Nat) (x1 : Int32) (x2 : Int64) (hkr : kd r = 5) {p : Program} {e : Env} {s : State} {m : MethodId} {args : Array Value} {below : List Frame} {meth : Method} {c : Code} (C : Cx p s m args meth c G (gA G) cX5_append 5 RX5) (hr : meth.sig.returnType = none) {Q : Mem → Prop} : ∀ (n : Nat) (v4 : Int32) (M : Mem), wX5_append_5 r x1 x2 Q n v4 M → Wl p l e rmX5_append s m args below meth c (MQ below (va_Qv Q (gB G) (gA G)) args s 0 0 (gA G)) G (gA G) 5 0 0 M 5 [(0, .ref (gAD G r)), (2, .long x2), (4, .int v4)] [] := by
  intro n
  induction n with
  | zero => intro v4 M h; exact h.elim
  | succ n ih =>
    intro v4 M h
    have h : ((v4 < 0 → Q M) ∧ (¬ v4 < 0 → (wX4_put (r + 1) (M r 1) (((x2.toUInt64 >>> (((8 : Int32) * v4).toInt64.toUInt64 &&& Int64.toUInt64 63)).toInt64 &&& (255 : Int64)).toInt32) M (fun M2 => wX5_append_5 r x1 x2 Q n (v4 + (-1)) (mu M2 r 1 ((M2 r 1) + (1 : Int32))))))) := h
    refine wl_iload C dX5_append_5 2 rfl ?_
    refine wl_if_lt C (tgt := 49) dX5_append_7 (by decide) (fun hc => ?_) (fun hc => ?_)
    · have h := h.1 hc
      exact wl_vret C hr h dX5_append_49
    · have h := h.2 hc
      refine wl_aload_n C dX5_append_10 0 rfl ?_
      refine gf_5_0 C hkr (gic_5 hA hkr) tw_35 dX5_append_11 ?_
      refine wl_aload_n C dX5_append_14 0 rfl ?_
      refine gf_5_1 C hkr (gic_5 hA hkr) tw_36 dX5_append_15 ?_
      refine wl_lload_n C dX5_append_18 1 rfl ?_
      refine wl_bipush (v := 8) C dX5_append_19 (by decide) ?_
      refine wl_iload C dX5_append_21 2 rfl ?_
      refine wl_imul C dX5_append_23 ?_
      refine wl_lushr C dX5_append_24 ?_
      refine wl_ldc2 C tw_260 dX5_append_25 ?_
      refine wl_land C dX5_append_28 ?_
      refine wl_l2i C dX5_append_29 ?_
      refine wl_callVv C (cX4_put_M l G hg hA (r + 1) (M r 1) (((x2.toUInt64 >>> (((8 : Int32) * v4).toInt64.toUInt64 &&& Int64.toUInt64 63)).toInt64 &&& (255 : Int64)).toInt32) (kx_5_1 hkr) M _) h cw_RX5_30 hd_X4_put ⟨rfl, rfl⟩ ⟨by decide, by decide⟩ (gic_4 hA (kx_5_1 hkr)) (gc_k (kx_5_1 hkr)) rfl (As := [.int (M r 1), .int ((x2.toUInt64 >>> (((8 : Int32) * v4).toInt64.toUInt64 &&& Int64.toUInt64 63)).toInt64 &&& (255 : Int64)).toInt32]) (rest := []) rfl (Nat.le_of_ble_eq_true rfl) ⟨Nat.zero_le _, Nat.zero_le _⟩ rfl dX5_append_30 (fun M2 h => ?_)
      refine wl_aload_n C dX5_append_33 0 rfl ?_
      refine wl_dup C dX5_append_34 rfl ?_
      refine gf_5_1 C hkr (gic_5 hA hkr) tw_36 dX5_append_35 ?_
      refine wl_iconst (v := 1) C dX5_append_38 (by decide) ?_
      refine wl_iadd C dX5_append_39 ?_
      refine gp_5_1 C hkr (gic_5 hA hkr) tw_36 dX5_append_40 ?_
      refine wl_iinc (v := (v4 + (-1))) (lv' := [(4, .int (v4 + (-1))), (0, .ref (gAD G r)), (2, .long x2)]) C dX5_append_43 2 rfl (by rfl) (by decide) rfl ?_
      refine wl_goto C (tgt := 5) dX5_append_46 (by decide) ?_
      refine wl_sub [1, 2, 0] rfl ?_
      exact ih (v4 + (-1)) (mu M2 r 1 ((M2 r 1) + (1 : Int32))) h
set_option maxRecDepth 100000 in
set_option maxHeartbeats 4000000 in
theorem cX5_append_M (l : Launch) (G : gP) (hg : gIn G) (hA : gCl G) (r : Nat) (x1 : Int32) (x2 : Int64) (hkr : kd r = 5) (M : Mem) (Q : Mem → Prop) : Met l yX5_append (Cond.code yX5_append cX5_append 5 none :: TB) rmX5_append (va_Pc [.ref (gAD G r), .int x1, .long x2] (fun U => gS G M U ∧ wX5_append r x1 x2 M Q)) (va_Qv Q (gB G) (gA G)) 0 0 (gA G) := by
  refine gMet (by decide +kernel) (show _ = Cond.code yX5_append cX5_append 5 none from rfl) hg (Nat.le_of_ble_eq_true rfl) [(0, .ref (gAD G r)), (1, .int x1), (2, .long x2)] rfl ?_
  intro p e s m args below meth c C hr h
  have h : (∃ n1, wX5_append_5 r x1 x2 Q n1 (x1 - (1 : Int32)) M) := h
  refine wl_iload_n C dX5_append_0 1 rfl ?_
  refine wl_iconst (v := 1) C dX5_append_1 (by decide) ?_
  refine wl_isub C dX5_append_2 ?_
  refine wl_istore (i := 4) (lv' := [(4, .int (x1 - (1 : Int32))), (0, .ref (gAD G r)), (1, .int x1), (2, .long x2)]) C dX5_append_3 (by decide) rfl ?_
  refine wl_sub [1, 3, 0] rfl ?_
  obtain ⟨n1, h⟩ := h
  exact kX5_append_5 l G hg hA r x1 x2 hkr C hr n1 (x1 - (1 : Int32)) M h
set_option maxRecDepth 100000 in
set_option maxHeartbeats 4000000 in
theorem cX5_clear_M (l : Launch) (G : gP) (hg : gIn G) (hA : gCl G) (r : Nat) (hkr : kd r = 5) (M : Mem) (Q : Int32 → Mem → Prop) : Met l yX5_clear (Cond.code yX5_clear cX5_clear 2 (some (Jvm.ClassFile.FieldType.int)) :: TB) rmX5_clear (va_Pc [.ref (gAD G r)] (fun U => gS G M U ∧ wX5_clear r M Q)) (va_Qi Q (gB G) (gA G)) 0 0 (gA G) := by
  refine gMet (by decide +kernel) (show _ = Cond.code yX5_clear cX5_clear 2 (some (Jvm.ClassFile.FieldType.int)) from rfl) hg (Nat.le_of_ble_eq_true rfl) [(0, .ref (gAD G r))] rfl ?_
  intro p e s m args below meth c C hr h
  have h : Q (M r 1) (mu M r 1 (0 : Int32)) := h
  refine wl_aload_n C dX5_clear_0 0 rfl ?_
  refine gf_5_1 C hkr (gic_5 hA hkr) tw_36 dX5_clear_1 ?_
  refine wl_istore_n (i := 1) (lv' := [(1, .int (M r 1)), (0, .ref (gAD G r))]) C dX5_clear_4 rfl (by decide) rfl ?_
  refine wl_aload_n C dX5_clear_5 1 rfl ?_
  refine wl_iconst (v := 0) C dX5_clear_6 (by decide) ?_
  refine gp_5_1 C hkr (gic_5 hA hkr) tw_36 dX5_clear_7 ?_
  refine wl_iload_n C dX5_clear_10 0 rfl ?_
  exact wl_iret C hr h dX5_clear_11
set_option maxRecDepth 100000 in
set_option maxHeartbeats 4000000 in
theorem kX7_within_15 (l : Launch) (G : gP) (hg : gIn G) (hA : gCl G) (x0 : Int32) (x1 : Int32) (x2 : Int32) {p : Program} {e : Env} {s : State} {m : MethodId} {args : Array Value} {below : List Frame} {meth : Method} {c : Code} (C : Cx p s m args meth c G (gA G) cX7_within 3 RX7) (hr : meth.sig.returnType = (some (Jvm.ClassFile.FieldType.boolean))) {Q : Int32 → Mem → Prop} (s0 : Int32) (M : Mem) (h : wX7_within_15 x0 x1 x2 Q s0 M) : Wl p l e rmX7_within s m args below meth c (MQ below (va_Qi Q (gB G) (gA G)) args s 0 0 (gA G)) G (gA G) 3 0 0 M 15 [] [.int s0] := by
  have h : ((s0 = 0 ∨ s0 = 1) ∧ Q s0 M) := h
  exact wl_zret C hr h.1 h.2 dX7_within_15
set_option maxRecDepth 100000 in
set_option maxHeartbeats 4000000 in
theorem kX7_within_14 (l : Launch) (G : gP) (hg : gIn G) (hA : gCl G) (x0 : Int32) (x1 : Int32) (x2 : Int32) {p : Program} {e : Env} {s : State} {m : MethodId} {args : Array Value} {below : List Frame} {meth : Method} {c : Code} (C : Cx p s m args meth c G (gA G) cX7_within 3 RX7) (hr : meth.sig.returnType = (some (Jvm.ClassFile.FieldType.boolean))) {Q : Int32 → Mem → Prop} (M : Mem) (h : wX7_within_14 x0 x1 x2 Q M) : Wl p l e rmX7_within s m args below meth c (MQ below (va_Qi Q (gB G) (gA G)) args s 0 0 (gA G)) G (gA G) 3 0 0 M 14 [] [] := by
  have h : wX7_within_15 x0 x1 x2 Q (0 : Int32) M := h
  refine wl_iconst (v := 0) C dX7_within_14 (by decide) ?_
  refine wl_sub [] rfl ?_
  exact kX7_within_15 l G hg hA x0 x1 x2 C hr (0 : Int32) M h
set_option maxRecDepth 100000 in
set_option maxHeartbeats 4000000 in
theorem cX7_within_M (l : Launch) (G : gP) (hg : gIn G) (hA : gCl G) (x0 : Int32) (x1 : Int32) (x2 : Int32) (M : Mem) (Q : Int32 → Mem → Prop) : Met l yX7_within (Cond.code yX7_within cX7_within 3 (some (Jvm.ClassFile.FieldType.boolean)) :: TB) rmX7_within (va_Pc [.int x0, .int x1, .int x2] (fun U => gS G M U ∧ wX7_within x0 x1 x2 M Q)) (va_Qi Q (gB G) (gA G)) 0 0 (gA G) := by
  refine gMet (by decide +kernel) (show _ = Cond.code yX7_within cX7_within 3 (some (Jvm.ClassFile.FieldType.boolean)) from rfl) hg (Nat.le_of_ble_eq_true rfl) [(0, .int x0), (1, .int x1), (2, .int x2)] rfl ?_
  intro p e s m args below meth c C hr h
  have h : ((x0 < x1 → wX7_within_14 x0 x1 x2 Q M) ∧ (¬ x0 < x1 → ((x2 < x0 → wX7_within_14 x0 x1 x2 Q M) ∧ (¬ x2 < x0 → wX7_within_15 x0 x1 x2 Q (1 : Int32) M)))) := h
  refine wl_iload_n C dX7_within_0 0 rfl ?_
  refine wl_iload_n C dX7_within_1 1 rfl ?_
  refine wl_icmp_lt C (tgt := 14) dX7_within_2 (by decide) (fun hc => ?_) (fun hc => ?_)
  · have h := h.1 hc
    refine wl_sub [] rfl ?_
    exact kX7_within_14 l G hg hA x0 x1 x2 C hr M h
  · have h := h.2 hc
    refine wl_iload_n C dX7_within_5 0 rfl ?_
    refine wl_iload_n C dX7_within_6 2 rfl ?_
    refine wl_icmp_gt C (tgt := 14) dX7_within_7 (by decide) (fun hc => ?_) (fun hc => ?_)
    · have h := h.1 hc
      refine wl_sub [] rfl ?_
      exact kX7_within_14 l G hg hA x0 x1 x2 C hr M h
    · have h := h.2 hc
      refine wl_iconst (v := 1) C dX7_within_10 (by decide) ?_
      refine wl_goto C (tgt := 15) dX7_within_11 (by decide) ?_
      refine wl_sub [] rfl ?_
      exact kX7_within_15 l G hg hA x0 x1 x2 C hr (1 : Int32) M h
set_option maxRecDepth 100000 in
set_option maxHeartbeats 4000000 in
theorem cX5_isFigure_M (l : Launch) (G : gP) (hg : gIn G) (hA : gCl G) (x0 : Int32) (M : Mem) (Q : Int32 → Mem → Prop) : Met l yX5_isFigure (Cond.code yX5_isFigure cX5_isFigure 1 (some (Jvm.ClassFile.FieldType.boolean)) :: TB) rmX5_isFigure (va_Pc [.int x0] (fun U => gS G M U ∧ wX5_isFigure x0 M Q)) (va_Qi Q (gB G) (gA G)) 0 0 (gA G) := by
  refine gMet (by decide +kernel) (show _ = Cond.code yX5_isFigure cX5_isFigure 1 (some (Jvm.ClassFile.FieldType.boolean)) from rfl) hg (Nat.le_of_ble_eq_true rfl) [(0, .int x0)] rfl ?_
  intro p e s m args below meth c C hr h
  have h : (wX7_within x0 (48 : Int32) (57 : Int32) M (fun r2 M1 => ((r2 = 0 ∨ r2 = 1) ∧ Q r2 M1))) := h
  refine wl_iload_n C dX5_isFigure_0 0 rfl ?_
  refine wl_bipush (v := 48) C dX5_isFigure_1 (by decide) ?_
  refine wl_bipush (v := 57) C dX5_isFigure_3 (by decide) ?_
  refine wl_callNi C (cX7_within_M l G hg hA x0 (48 : Int32) (57 : Int32) M _) h (List.mem_of_getElem? (i := 7) rfl) tw_251 tw_1 tw_250 hd_X7_within ⟨rfl, rfl⟩ ⟨by decide, by decide⟩ (As := [.int x0, .int (48 : Int32), .int (57 : Int32)]) (rest := []) rfl (Nat.le_of_ble_eq_true rfl) ⟨Nat.zero_le _, Nat.zero_le _⟩ rfl dX5_isFigure_5 (fun r2 M1 h => ?_)
  exact wl_zret C hr h.1 h.2 dX5_isFigure_8
set_option maxRecDepth 100000 in
set_option maxHeartbeats 4000000 in
theorem kX5_figuresFrom_31 (l : Launch) (G : gP) (hg : gIn G) (hA : gCl G) (r : Nat) (x1 : Int32) (hkr : kd r = 5) {p : Program} {e : Env} {s : State} {m : MethodId} {args : Array Value} {below : List Frame} {meth : Method} {c : Code} (C : Cx p s m args meth c G (gA G) cX5_figuresFrom 2 RX5) (hr : meth.sig.returnType = (some (Jvm.ClassFile.FieldType.int))) {Q : Int32 → Mem → Prop} (s0 : Int32) (M : Mem) (h : wX5_figuresFrom_31 r x1 Q s0 M) : Wl p l e rmX5_figuresFrom s m args below meth c (MQ below (va_Qi Q (gB G) (gA G)) args s 0 0 (gA G)) G (gA G) 2 0 0 M 31 [] [.int s0] := by
  have h : Q s0 M := h
  exact wl_iret C hr h dX5_figuresFrom_31
set_option maxRecDepth 100000 in
set_option maxHeartbeats 4000000 in
theorem cX5_figuresFrom_M (l : Launch) (G : gP) (hg : gIn G) (hA : gCl G) (r : Nat) (x1 : Int32) (hkr : kd r = 5) (M : Mem) (Q : Int32 → Mem → Prop) : Met l yX5_figuresFrom (Cond.code yX5_figuresFrom cX5_figuresFrom 2 (some (Jvm.ClassFile.FieldType.int)) :: TB) rmX5_figuresFrom (va_Pc [.ref (gAD G r), .int x1] (fun U => gS G M U ∧ wX5_figuresFrom r x1 M Q)) (va_Qi Q (gB G) (gA G)) 0 0 (gA G) := by
  refine gMet (by decide +kernel) (show _ = Cond.code yX5_figuresFrom cX5_figuresFrom 2 (some (Jvm.ClassFile.FieldType.int)) from rfl) hg (Nat.le_of_ble_eq_true rfl) [(0, .ref (gAD G r)), (1, .int x1)] rfl ?_
  intro p e s m args below meth c C hr h
  have h : (wX5_byteAt r x1 M (fun r2 M1 => (wX5_isFigure r2 M1 (fun r4 M3 => ((¬ r4 = 0 → (wX5_byteAt r (x1 + (1 : Int32)) M3 (fun r6 M5 => (wX5_isFigure r6 M5 (fun r8 M7 => ((r8 = 0 → wX5_figuresFrom_31 r x1 Q (1 : Int32) M7) ∧ (¬ r8 = 0 → wX5_figuresFrom_31 r x1 Q (2 : Int32) M7))))))) ∧ (r4 = 0 → Q (0 : Int32) M3)))))) := h
  refine wl_aload_n C dX5_figuresFrom_0 0 rfl ?_
  refine wl_iload_n C dX5_figuresFrom_1 1 rfl ?_
  refine wl_callVi C (cX5_byteAt_M l G hg hA r x1 hkr M _) h cw_RX5_34 hd_X5_byteAt ⟨rfl, rfl⟩ ⟨by decide, by decide⟩ (gic_5 hA hkr) (gc_k hkr) rfl (As := [.int x1]) (rest := []) rfl (Nat.le_of_ble_eq_true rfl) ⟨Nat.zero_le _, Nat.zero_le _⟩ rfl dX5_figuresFrom_2 (fun r2 M1 h => ?_)
  refine wl_callSi C (cX5_isFigure_M l G hg hA r2 M1 _) h cw_RX5_37 hd_X5_isFigure ⟨rfl, rfl⟩ ⟨by decide, by decide⟩ (As := [.int r2]) (rest := []) rfl (Nat.le_of_ble_eq_true rfl) ⟨Nat.zero_le _, Nat.zero_le _⟩ rfl dX5_figuresFrom_5 (fun r4 M3 h => ?_)
  refine wl_if_ne C (tgt := 13) dX5_figuresFrom_8 (by decide) (fun hc => ?_) (fun hc => ?_)
  · have h := h.1 hc
    refine wl_aload_n C dX5_figuresFrom_13 0 rfl ?_
    refine wl_iload_n C dX5_figuresFrom_14 1 rfl ?_
    refine wl_iconst (v := 1) C dX5_figuresFrom_15 (by decide) ?_
    refine wl_iadd C dX5_figuresFrom_16 ?_
    refine wl_callVi C (cX5_byteAt_M l G hg hA r (x1 + (1 : Int32)) hkr M3 _) h cw_RX5_34 hd_X5_byteAt ⟨rfl, rfl⟩ ⟨by decide, by decide⟩ (gic_5 hA hkr) (gc_k hkr) rfl (As := [.int (x1 + (1 : Int32))]) (rest := []) rfl (Nat.le_of_ble_eq_true rfl) ⟨Nat.zero_le _, Nat.zero_le _⟩ rfl dX5_figuresFrom_17 (fun r6 M5 h => ?_)
    refine wl_callSi C (cX5_isFigure_M l G hg hA r6 M5 _) h cw_RX5_37 hd_X5_isFigure ⟨rfl, rfl⟩ ⟨by decide, by decide⟩ (As := [.int r6]) (rest := []) rfl (Nat.le_of_ble_eq_true rfl) ⟨Nat.zero_le _, Nat.zero_le _⟩ rfl dX5_figuresFrom_20 (fun r8 M7 h => ?_)
    refine wl_if_eq C (tgt := 30) dX5_figuresFrom_23 (by decide) (fun hc => ?_) (fun hc => ?_)
    · have h := h.1 hc
      refine wl_iconst (v := 1) C dX5_figuresFrom_30 (by decide) ?_
      refine wl_sub [] rfl ?_
      exact kX5_figuresFrom_31 l G hg hA r x1 hkr C hr (1 : Int32) M7 h
    · have h := h.2 hc
      refine wl_iconst (v := 2) C dX5_figuresFrom_26 (by decide) ?_
      refine wl_goto C (tgt := 31) dX5_figuresFrom_27 (by decide) ?_
      refine wl_sub [] rfl ?_
      exact kX5_figuresFrom_31 l G hg hA r x1 hkr C hr (2 : Int32) M7 h
  · have h := h.2 hc
    refine wl_iconst (v := 0) C dX5_figuresFrom_11 (by decide) ?_
    exact wl_iret C hr h dX5_figuresFrom_12
set_option maxRecDepth 100000 in
set_option maxHeartbeats 4000000 in
theorem kX5_numberAt_5 (l : Launch) (G : gP) (hg : gIn G) (hA : gCl G) (r : Nat) (x1 : Int32) (x2 : Int32) (hkr : kd r = 5) {p : Program} {e : Env} {s : State} {m : MethodId} {args : Array Value} {below : List Frame} {meth : Method} {c : Code} (C : Cx p s m args meth c G (gA G) cX5_numberAt 5 RX5) (hr : meth.sig.returnType = (some (Jvm.ClassFile.FieldType.int))) {Q : Int32 → Mem → Prop} : ∀ (n : Nat) (v3 : Int32) (v4 : Int32) (M : Mem), wX5_numberAt_5 r x1 x2 Q n v3 v4 M → Wl p l e rmX5_numberAt s m args below meth c (MQ below (va_Qi Q (gB G) (gA G)) args s 0 0 (gA G)) G (gA G) 5 0 0 M 5 [(0, .ref (gAD G r)), (1, .int x1), (2, .int x2), (3, .int v3), (4, .int v4)] [] := by
  intro n
  induction n with
  | zero => intro v3 v4 M h; exact h.elim
  | succ n ih =>
    intro v3 v4 M h
    have h : ((x2 ≤ v4 → Q v3 M) ∧ (¬ x2 ≤ v4 → (wX5_byteAt r (x1 + v4) M (fun r3 M2 => wX5_numberAt_5 r x1 x2 Q n ((((10 : Int32) * v3) + r3) - (48 : Int32)) (v4 + (1 : Int32)) M2)))) := h
    refine wl_iload C dX5_numberAt_5 4 rfl ?_
    refine wl_iload_n C dX5_numberAt_7 2 rfl ?_
    refine wl_icmp_ge C (tgt := 34) dX5_numberAt_8 (by decide) (fun hc => ?_) (fun hc => ?_)
    · have h := h.1 hc
      refine wl_iload_n C dX5_numberAt_34 3 rfl ?_
      exact wl_iret C hr h dX5_numberAt_35
    · have h := h.2 hc
      refine wl_bipush (v := 10) C dX5_numberAt_11 (by decide) ?_
      refine wl_iload_n C dX5_numberAt_13 3 rfl ?_
      refine wl_imul C dX5_numberAt_14 ?_
      refine wl_aload_n C dX5_numberAt_15 0 rfl ?_
      refine wl_iload_n C dX5_numberAt_16 1 rfl ?_
      refine wl_iload C dX5_numberAt_17 4 rfl ?_
      refine wl_iadd C dX5_numberAt_19 ?_
      refine wl_callVi C (cX5_byteAt_M l G hg hA r (x1 + v4) hkr M _) h cw_RX5_34 hd_X5_byteAt ⟨rfl, rfl⟩ ⟨by decide, by decide⟩ (gic_5 hA hkr) (gc_k hkr) rfl (As := [.int (x1 + v4)]) (rest := [.int ((10 : Int32) * v3)]) rfl (Nat.le_of_ble_eq_true rfl) ⟨Nat.zero_le _, Nat.zero_le _⟩ rfl dX5_numberAt_20 (fun r3 M2 h => ?_)
      refine wl_iadd C dX5_numberAt_23 ?_
      refine wl_bipush (v := 48) C dX5_numberAt_24 (by decide) ?_
      refine wl_isub C dX5_numberAt_26 ?_
      refine wl_istore_n (i := 3) (lv' := [(3, .int ((((10 : Int32) * v3) + r3) - (48 : Int32))), (0, .ref (gAD G r)), (1, .int x1), (2, .int x2), (4, .int v4)]) C dX5_numberAt_27 rfl (by decide) rfl ?_
      refine wl_iinc (v := (v4 + (1 : Int32))) (lv' := [(4, .int (v4 + (1 : Int32))), (3, .int ((((10 : Int32) * v3) + r3) - (48 : Int32))), (0, .ref (gAD G r)), (1, .int x1), (2, .int x2)]) C dX5_numberAt_28 4 rfl (by rfl) (by decide) rfl ?_
      refine wl_goto C (tgt := 5) dX5_numberAt_31 (by decide) ?_
      refine wl_sub [2, 3, 4, 1, 0] rfl ?_
      exact ih ((((10 : Int32) * v3) + r3) - (48 : Int32)) (v4 + (1 : Int32)) M2 h
set_option maxRecDepth 100000 in
set_option maxHeartbeats 4000000 in
theorem cX5_numberAt_M (l : Launch) (G : gP) (hg : gIn G) (hA : gCl G) (r : Nat) (x1 : Int32) (x2 : Int32) (hkr : kd r = 5) (M : Mem) (Q : Int32 → Mem → Prop) : Met l yX5_numberAt (Cond.code yX5_numberAt cX5_numberAt 5 (some (Jvm.ClassFile.FieldType.int)) :: TB) rmX5_numberAt (va_Pc [.ref (gAD G r), .int x1, .int x2] (fun U => gS G M U ∧ wX5_numberAt r x1 x2 M Q)) (va_Qi Q (gB G) (gA G)) 0 0 (gA G) := by
  refine gMet (by decide +kernel) (show _ = Cond.code yX5_numberAt cX5_numberAt 5 (some (Jvm.ClassFile.FieldType.int)) from rfl) hg (Nat.le_of_ble_eq_true rfl) [(0, .ref (gAD G r)), (1, .int x1), (2, .int x2)] rfl ?_
  intro p e s m args below meth c C hr h
  have h : (∃ n1, wX5_numberAt_5 r x1 x2 Q n1 (0 : Int32) (0 : Int32) M) := h
  refine wl_iconst (v := 0) C dX5_numberAt_0 (by decide) ?_
  refine wl_istore_n (i := 3) (lv' := [(3, .int (0 : Int32)), (0, .ref (gAD G r)), (1, .int x1), (2, .int x2)]) C dX5_numberAt_1 rfl (by decide) rfl ?_
  refine wl_iconst (v := 0) C dX5_numberAt_2 (by decide) ?_
  refine wl_istore (i := 4) (lv' := [(4, .int (0 : Int32)), (3, .int (0 : Int32)), (0, .ref (gAD G r)), (1, .int x1), (2, .int x2)]) C dX5_numberAt_3 (by decide) rfl ?_
  refine wl_sub [2, 3, 4, 1, 0] rfl ?_
  obtain ⟨n1, h⟩ := h
  exact kX5_numberAt_5 l G hg hA r x1 x2 hkr C hr n1 (0 : Int32) (0 : Int32) M h
