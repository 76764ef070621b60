/-! the law's cell and some -/
def cellV (L : Nat) (xs : Nat → Int32) (k : Int32) : Int32 := if Int32.ofNat L ≤ k then (625341585 : Int32) * (k + (5 : Int32)) + (1332534557 : Int32) else xs k.toNatClampNeg
abbrev rmL_cell : Room := { frames := 0, cells := 0, slots := 0, locals := 0 }
abbrev rmL_some : Room := { frames := 0, cells := 0, slots := 0, locals := 0 }
/-- the script, at the start of a method that reads it -/
def SX (b L : Nat) (xs : Nat → Int32) (U : State) : Prop := va_X b L xs U U.heap ∧ b < U.heap.size
theorem cL_cell_M (l : Launch) (b L : Nat) (xs : Nat → Int32) (k : Int32) (hk : ¬ Int32.ofNat L ≤ k → vp_in k L) : Met l yL_cell (Cond.code yL_cell cL_cell 2 (some (Jvm.ClassFile.FieldType.int)) :: TB) rmL_cell (va_Pc [.ref b, .int k] (fun U => SX b L xs U)) (va_Qi (fun r (_ : Unit) => r = cellV L xs k) (fun _ _ => True) (fun _ => False)) 0 0 (fun _ => False) := by
  refine gMetY (by decide +kernel) (show _ = Cond.code yL_cell cL_cell 2 (some (Jvm.ClassFile.FieldType.int)) from rfl) (Nat.le_of_ble_eq_true rfl) [(0, .ref b), (1, .int k)] rfl ?_
  intro p e s m args below meth c C hr hB
  obtain ⟨hX, hbl⟩ := hB
  have fin : ∀ (lv : List (Nat × Value)) (v : Int32), v = cellV L xs k → Wy p l e rmL_cell s m args below meth c (MQ below (va_Qi (fun r (_ : Unit) => r = cellV L xs k) (fun _ _ => True) (fun _ => False)) args s 0 0 (fun _ => False)) (fun _ => False) 2 0 0 (fun H => H = s.heap) 21 lv [.int v] := fun lv v hv => wy_iret C hr (u := ()) hv (fun _ _ => trivial) dL_cell_21
  refine wy_iload_n C dL_cell_0 1 rfl ?_
  refine wy_aload_n C dL_cell_1 0 rfl ?_
  refine wy_slen C hX hbl (fun h => h) dL_cell_2 ?_
  refine wy_icmp_ge C (tgt := 12) dL_cell_3 (by decide) (fun hc => ?_) (fun hc => ?_)
  · refine wy_ldc C tw_461 dL_cell_12 ?_
    refine wy_iload_n C dL_cell_14 1 rfl ?_
    refine wy_iconst (v := 5) C dL_cell_15 (by decide) ?_
    refine wy_iadd C dL_cell_16 ?_
    refine wy_imul C dL_cell_17 ?_
    refine wy_ldc C tw_462 dL_cell_18 ?_
    refine wy_iadd C dL_cell_20 ?_
    exact fin _ _ (by unfold cellV; rw [if_pos hc])
  · refine wy_aload_n C dL_cell_6 0 rfl ?_
    refine wy_iload_n C dL_cell_7 1 rfl ?_
    refine wy_sld C hX hbl (fun h => h) (hk hc) dL_cell_8 ?_
    refine wy_goto C (tgt := 21) dL_cell_9 (by decide) ?_
    exact fin _ _ (by unfold cellV; rw [if_neg hc])
def someV (v n : Int32) : Int32 := (v &&& (2147483647 : Int32)) - (v &&& (2147483647 : Int32)) / n * n
theorem cL_some_M (l : Launch) (v n : Int32) (hn : ¬ n = 0) : Met l yL_some (Cond.code yL_some cL_some 2 (some (Jvm.ClassFile.FieldType.int)) :: TB) rmL_some (va_Pc [.int v, .int n] (fun _ => True)) (va_Qi (fun r (_ : Unit) => r = someV v n) (fun _ _ => True) (fun _ => False)) 0 0 (fun _ => False) := by
  refine gMetY (by decide +kernel) (show _ = Cond.code yL_some cL_some 2 (some (Jvm.ClassFile.FieldType.int)) from rfl) (Nat.le_of_ble_eq_true rfl) [(0, .int v), (1, .int n)] rfl ?_
  intro p e s m args below meth c C hr _
  refine wy_iload_n C dL_some_0 0 rfl ?_
  refine wy_ldc C tw_469 dL_some_1 ?_
  refine wy_iand C dL_some_3 ?_
  refine wy_iload_n C dL_some_4 1 rfl ?_
  refine wy_irem C dL_some_5 hn ?_
  exact wy_iret C hr (u := ()) rfl (fun _ _ => trivial) dL_some_6

theorem cw_RL_22 : ∀ w ∈ va_wsS RL 22 yL_cell (Cond.code yL_cell cL_cell 2 (some (Jvm.ClassFile.FieldType.int)) :: []), w ∈ TB := List.forall_mem_cons.mpr ⟨tw_458, List.forall_mem_cons.mpr ⟨tw_459, List.forall_mem_cons.mpr ⟨tw_0, List.forall_mem_cons.mpr ⟨tw_460, fun _ h => absurd h List.not_mem_nil⟩⟩⟩⟩
theorem hd_L_cell : yL_cell.cls ≠ "java/lang/invoke/MethodHandle" ∧ yL_cell.cls ≠ "java/lang/invoke/VarHandle" ∧ (parseMethodDescriptor yL_cell.desc).map (fun d => d.parameters.length) = some 2 := by decide +kernel
theorem cw_RL_26 : ∀ w ∈ va_wsS RL 26 yL_some (Cond.code yL_some cL_some 2 (some (Jvm.ClassFile.FieldType.int)) :: []), w ∈ TB := List.forall_mem_cons.mpr ⟨tw_466, List.forall_mem_cons.mpr ⟨tw_467, List.forall_mem_cons.mpr ⟨tw_0, List.forall_mem_cons.mpr ⟨tw_468, fun _ h => absurd h List.not_mem_nil⟩⟩⟩⟩
theorem hd_L_some : yL_some.cls ≠ "java/lang/invoke/MethodHandle" ∧ yL_some.cls ≠ "java/lang/invoke/VarHandle" ∧ (parseMethodDescriptor yL_some.desc).map (fun d => d.parameters.length) = some 2 := by decide +kernel
theorem wy_some {p : Program} {l : Launch} {e : Env} {R : Room} {s : State} {m : MethodId} {args : Array Value} {below : List Frame} {meth : Method} {c : Code} {Qf : State → Prop} {A : Nat → Prop} {nL cells slots : Nat} {Φ : Heap → Prop} {cc : ByteArray} {pc : Nat} {lv : List (Nat × Value)} {st rest : List Value} (C : Cy p s m args meth c cc nL RL) {v n : Int32} (hn : ¬ n = 0) (hdg : decode cc pc = .ok (.invokestatic 26, 3)) (hst : st = .int n :: .int v :: rest) (hR : 1 ≤ R.frames ∧ 21 ≤ R.locals) (hcat : (rest.map fun v => v.category).sum ≤ 8) (hf : cells ≤ R.cells ∧ slots ≤ R.slots) (hkp : ∀ H H1, Φ H → (∀ q, q < H.size → H1[q]? = H[q]?) → Φ H1) (kk : Wy p l e R s m args below meth c Qf A nL cells slots Φ (pc + 3) lv (.int (someV v n) :: rest)) : Wy p l e R s m args below meth c Qf A nL cells slots Φ pc lv st :=
  wy_callSi (As := [.int v, .int n]) (rest := rest) (Φ1 := fun (_ : Unit) => Φ) C (cL_some_M l v n hn) cw_RL_26 hd_L_some ⟨rfl, rfl⟩ ⟨hR.1, hR.2⟩ rfl hcat hf hst hdg (fun _ _ _ _ h => h) (fun _ _ _ _ _ _ _ => trivial) (fun _ h => h.elim) (fun H H1 _ _ h _ hk _ _ => hkp H H1 h fun q hq => hk q hq fun h => h) (fun r _ hr => by rw [hr]; exact kk)
theorem wy_cell {p : Program} {l : Launch} {e : Env} {R : Room} {s : State} {m : MethodId} {args : Array Value} {below : List Frame} {meth : Method} {c : Code} {Qf : State → Prop} {A : Nat → Prop} {nL cells slots : Nat} {Φ : Heap → Prop} {cc : ByteArray} {pc : Nat} {lv : List (Nat × Value)} {st rest : List Value} (C : Cy p s m args meth c cc nL RL) {b L : Nat} {xs : Nat → Int32} {k : Int32} (hk : ¬ Int32.ofNat L ≤ k → vp_in k L) (hX : va_X b L xs s s.heap) (hbl : b < s.heap.size) (hbA : ¬ A b) (hdg : decode cc pc = .ok (.invokestatic 22, 3)) (hst : st = .int k :: .ref b :: rest) (hR : 1 ≤ R.frames ∧ 21 ≤ R.locals) (hcat : (rest.map fun v => v.category).sum ≤ 8) (hf : cells ≤ R.cells ∧ slots ≤ R.slots) (hkp : ∀ H H1, Φ H → (∀ q, q < H.size → H1[q]? = H[q]?) → Φ H1) (kk : Wy p l e R s m args below meth c Qf A nL cells slots Φ (pc + 3) lv (.int (cellV L xs k) :: rest)) : Wy p l e R s m args below meth c Qf A nL cells slots Φ pc lv st :=
  wy_callSi (As := [.ref b, .int k]) (rest := rest) (Φ1 := fun (_ : Unit) => Φ) C (cL_cell_M l b L xs k hk) cw_RL_22 hd_L_cell ⟨rfl, rfl⟩ ⟨hR.1, hR.2⟩ rfl hcat hf hst hdg (fun U W h1 h2 h => ⟨(h.1.moved (U := W) (by rw [h1]; exact Vm.Alike.refl _)).kept (by rw [h2]), by rw [h2]; exact h.2⟩) (fun H locs U h hS hU hW => ⟨(hX.moved hW.alike).kept (by rw [hU]; exact hS.2.1 b hbl hbA), by rw [hU]; exact Nat.lt_of_lt_of_le hbl hS.1⟩) (fun _ h => h.elim) (fun H H1 _ _ h _ hk _ _ => hkp H H1 h fun q hq => hk q hq fun h => h) (fun r _ hr => by rw [hr]; exact kk)
