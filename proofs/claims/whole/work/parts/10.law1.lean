def R_law : String := "ShufflingBookLaw"
def lw_P (b : Addr) (xs : List Int32) (args : Array Value) (s : State) : Prop := args = #[.ref b] ∧ s.IntsAt b xs ∧ xs.length ≤ 2560 ∧ (Jvm.Cond.and given_1 narrow_1).before args s = true
def lw_Q (_ : Array Value) (s : State) (o : Outcome) (t : State) : Prop := o = .returned (some (.int 1)) ∧ Framed s o t [] 600000 7302250
def lw_Z (below : List Frame) (a : Array Value) (s : State) : State → Prop := fun t => ∃ o, t.status = .running ∧ Ended t below o ∧ lw_Q a s o t
/-- the law's own end, with 1 on the stack, nothing written that was there before, its room as the claim has it -/
theorem lw_ret {p : Program} {l : Launch} {e : Env} {s : State} {m : MethodId} {below : List Frame} {meth : Method} {c : Code} {b : Nat} (hx : p.tables.exec = Jvm.exec) (hb : c.code = code) (hr : meth.sig.returnType = ret) (hlocks : meth.locks = false) {pc : Nat} {H : Heap} {ls : Array Slot} (hdg : decode code pc = .ok (.ireturn, 1)) : W p l e room_1 s m #[Value.ref b] below meth c H [] 600000 7302250 (lw_Z below #[Value.ref b] s) (F0 m pc ls [.int 1]) := by
  intro T hT X
  obtain ⟨fs, hret, hrun, hended, hW, hframe⟩ := X.leave (v := some (.int 1)) (hlocks := hlocks) (fun h => by rw [hr] at h; cases h)
  have hmeth' : T.vm.method? m = some meth := X.method'
  refine ⟨T.setFrames fs, ?_, .returned (some (.int 1)), hrun, hended, rfl, ⟨_, rfl⟩, hW, hframe⟩
  jvm_step X.here [X.here.top, hx, hb, hdg, hmeth', hr, ret, narrow_b1]
  (try refine ⟨rfl, ?_⟩); (try refine ⟨rfl, ?_⟩)
  first | (intro acts; rw [hret _ acts rfl rfl rfl]) | rw [hret _ _ rfl rfl rfl]
  exact Steps.refl _
/-- what holds at the law's entry: the machine, the code, the tables' words (any of lw_tbl by 'hts w (by decide +kernel)'), the script of L ints xs at the cell b, what the Statement gives of the start (any of its parts by flat_of_before) -/
def lw_At (p : Program) (s : State) (m : MethodId) (meth : Method) (c : Code) (b L : Nat) (xs : Nat → Int32) : Prop :=
  p.tables.exec = Jvm.exec ∧ c.code = code ∧ meth.sig.returnType = ret ∧ c.maxLocals = 4 ∧ s.vm.findClass R_law = some m.cls ∧ (∀ w ∈ lw_tbl, w.before #[Value.ref b] s = true) ∧ va_X b L xs s s.heap ∧ b < s.heap.size ∧ meth.locks = false ∧ (Jvm.Cond.and given_1 narrow_1).before #[Value.ref b] s = true
section LWR
variable {p : Program} {l : Launch} {e : Env} {R : Room} {s : State} {m : MethodId} {args : Array Value} {below : List Frame} {meth : Method} {c : Code} {Qf : State → Prop} {G : gP} {A : Nat → Prop} {nL cells slots : Nat} {M : Mem} {cc : ByteArray} {own : String} {pc : Nat} {lv : List (Nat × Value)} {st : List Value}
theorem wl_sld (C : Cx p s m args meth c G A cc nL own) {b L : Nat} {xs : Nat → Int32} (hX : va_X b L xs s s.heap) (hbl : b < s.heap.size) (hbA : ¬ A b) {j : Int32} (hin : vp_in j L) (hdg : decode cc pc = .ok (.iaload, 1)) (kk : Wl p l e R s m args below meth c Qf G A nL cells slots M (pc + 1) lv (.int (xs j.toNatClampNeg) :: st)) : Wl p l e R s m args below meth c Qf G A nL cells slots M pc lv (.int j :: .ref b :: st) := fun H locs ls hG hS hl => va_sld C.1 C.2.1 hX hbl hbA hS hin hdg (kk H locs ls hG hS hl)
theorem wl_slen (C : Cx p s m args meth c G A cc nL own) {b L : Nat} {xs : Nat → Int32} (hX : va_X b L xs s s.heap) (hbl : b < s.heap.size) (hbA : ¬ A b) (hdg : decode cc pc = .ok (.arraylength, 1)) (kk : Wl p l e R s m args below meth c Qf G A nL cells slots M (pc + 1) lv (.int (Int32.ofNat L) :: st)) : Wl p l e R s m args below meth c Qf G A nL cells slots M pc lv (.ref b :: st) := fun H locs ls hG hS hl => va_slen C.1 C.2.1 hX hbl hbA hS hdg (kk H locs ls hG hS hl)
theorem wl_lawend {b : Nat} (C : Cx p s m #[Value.ref b] meth c G (fun q : Nat => s.heap.size ≤ q) cL_law nL own) (hr : meth.sig.returnType = ret) (hlocks : meth.locks = false) (hb : c.code = code) (hc : cells ≤ 600000) (hs : slots ≤ 7302250) (hd1 : decode cL_law pc = .ok (.iconst 1, 1)) (hd2 : decode cL_law (pc + 1) = .ok (.ireturn, 1)) : Wl p l e room_1 s m #[Value.ref b] below meth c (lw_Z below #[Value.ref b] s) G (fun q : Nat => s.heap.size ≤ q) nL cells slots M pc lv [] := by
  refine wl_iconst (v := 1) C hd1 (by decide) ?_
  intro H locs ls hG hS hl
  refine va_forget (fun q hq => hS.2.2 q hq) ?_
  refine W.widen (k := 600000) (n := 7302250) hc hs ?_
  exact lw_ret C.1 hb hr hlocks hd2
end LWR
theorem cw_L_15 : ∀ w ∈ wsV R_law 15 RX7 yX7_write (Cond.code yX7_write cX7_write 4 (some (Jvm.ClassFile.FieldType.int)) :: []), w ∈ TB := List.forall_mem_cons.mpr ⟨tw_246, List.forall_mem_cons.mpr ⟨tw_247, List.forall_mem_cons.mpr ⟨tw_248, List.forall_mem_cons.mpr ⟨tw_1, List.forall_mem_cons.mpr ⟨tw_249, fun _ h => absurd h List.not_mem_nil⟩⟩⟩⟩⟩
theorem cw_L_19 : ∀ w ∈ wsV R_law 19 RX8 yX8_write (Cond.code yX8_write cX8_write 5 (some (Jvm.ClassFile.FieldType.int)) :: []), w ∈ TB := List.forall_mem_cons.mpr ⟨tw_656, List.forall_mem_cons.mpr ⟨tw_657, List.forall_mem_cons.mpr ⟨tw_658, List.forall_mem_cons.mpr ⟨tw_10, List.forall_mem_cons.mpr ⟨tw_659, fun _ h => absurd h List.not_mem_nil⟩⟩⟩⟩⟩
theorem cw_L_20 : ∀ w ∈ wsV R_law 20 RX7 yX7_wipe (Cond.code yX7_wipe cX7_wipe 1 (some (Jvm.ClassFile.FieldType.int)) :: []), w ∈ TB := List.forall_mem_cons.mpr ⟨tw_263, List.forall_mem_cons.mpr ⟨tw_264, List.forall_mem_cons.mpr ⟨tw_265, List.forall_mem_cons.mpr ⟨tw_1, List.forall_mem_cons.mpr ⟨tw_266, fun _ h => absurd h List.not_mem_nil⟩⟩⟩⟩⟩
theorem cw_L_24 : ∀ w ∈ wsV R_law 24 RX8 yX8_wipe (Cond.code yX8_wipe cX8_wipe 2 (some (Jvm.ClassFile.FieldType.int)) :: []), w ∈ TB := List.forall_mem_cons.mpr ⟨tw_665, List.forall_mem_cons.mpr ⟨tw_666, List.forall_mem_cons.mpr ⟨tw_667, List.forall_mem_cons.mpr ⟨tw_10, List.forall_mem_cons.mpr ⟨tw_668, fun _ h => absurd h List.not_mem_nil⟩⟩⟩⟩⟩
theorem cw_L_25 : ∀ w ∈ wsV R_law 25 RX7 yX7_fault (Cond.code yX7_fault cX7_fault 1 (some (Jvm.ClassFile.FieldType.int)) :: []), w ∈ TB := List.forall_mem_cons.mpr ⟨tw_271, List.forall_mem_cons.mpr ⟨tw_272, List.forall_mem_cons.mpr ⟨tw_273, List.forall_mem_cons.mpr ⟨tw_1, List.forall_mem_cons.mpr ⟨tw_274, fun _ h => absurd h List.not_mem_nil⟩⟩⟩⟩⟩
theorem cw_L_28 : ∀ w ∈ wsV R_law 28 RX8 yX8_fault (Cond.code yX8_fault cX8_fault 1 (some (Jvm.ClassFile.FieldType.int)) :: []), w ∈ TB := List.forall_mem_cons.mpr ⟨tw_669, List.forall_mem_cons.mpr ⟨tw_670, List.forall_mem_cons.mpr ⟨tw_671, List.forall_mem_cons.mpr ⟨tw_10, List.forall_mem_cons.mpr ⟨tw_672, fun _ h => absurd h List.not_mem_nil⟩⟩⟩⟩⟩
theorem cw_L_29 : ∀ w ∈ wsV R_law 29 RX7 yX7_lay (Cond.code yX7_lay cX7_lay 2 (some (Jvm.ClassFile.FieldType.int)) :: []), w ∈ TB := List.forall_mem_cons.mpr ⟨tw_322, List.forall_mem_cons.mpr ⟨tw_323, List.forall_mem_cons.mpr ⟨tw_324, List.forall_mem_cons.mpr ⟨tw_1, List.forall_mem_cons.mpr ⟨tw_325, fun _ h => absurd h List.not_mem_nil⟩⟩⟩⟩⟩
theorem cw_L_32 : ∀ w ∈ wsV R_law 32 RX8 yX8_lay (Cond.code yX8_lay cX8_lay 2 (some (Jvm.ClassFile.FieldType.int)) :: []), w ∈ TB := List.forall_mem_cons.mpr ⟨tw_689, List.forall_mem_cons.mpr ⟨tw_690, List.forall_mem_cons.mpr ⟨tw_691, List.forall_mem_cons.mpr ⟨tw_10, List.forall_mem_cons.mpr ⟨tw_692, fun _ h => absurd h List.not_mem_nil⟩⟩⟩⟩⟩
theorem cw_L_33 : ∀ w ∈ wsV R_law 33 RX7 yX7_leaf (Cond.code yX7_leaf cX7_leaf 3 (some (Jvm.ClassFile.FieldType.int)) :: []), w ∈ TB := List.forall_mem_cons.mpr ⟨tw_330, List.forall_mem_cons.mpr ⟨tw_331, List.forall_mem_cons.mpr ⟨tw_332, List.forall_mem_cons.mpr ⟨tw_1, List.forall_mem_cons.mpr ⟨tw_333, fun _ h => absurd h List.not_mem_nil⟩⟩⟩⟩⟩
theorem cw_L_37 : ∀ w ∈ wsV R_law 37 RX8 yX8_leaf (Cond.code yX8_leaf cX8_leaf 3 (some (Jvm.ClassFile.FieldType.int)) :: []), w ∈ TB := List.forall_mem_cons.mpr ⟨tw_696, List.forall_mem_cons.mpr ⟨tw_697, List.forall_mem_cons.mpr ⟨tw_698, List.forall_mem_cons.mpr ⟨tw_10, List.forall_mem_cons.mpr ⟨tw_699, fun _ h => absurd h List.not_mem_nil⟩⟩⟩⟩⟩
theorem cw_L_38 : ∀ w ∈ wsV R_law 38 RX7 yX7_where (Cond.code yX7_where cX7_where 2 (some (Jvm.ClassFile.FieldType.int)) :: []), w ∈ TB := List.forall_mem_cons.mpr ⟨tw_338, List.forall_mem_cons.mpr ⟨tw_339, List.forall_mem_cons.mpr ⟨tw_340, List.forall_mem_cons.mpr ⟨tw_1, List.forall_mem_cons.mpr ⟨tw_341, fun _ h => absurd h List.not_mem_nil⟩⟩⟩⟩⟩
theorem cw_L_42 : ∀ w ∈ wsV R_law 42 RX8 yX8_where (Cond.code yX8_where cX8_where 3 (some (Jvm.ClassFile.FieldType.int)) :: []), w ∈ TB := List.forall_mem_cons.mpr ⟨tw_703, List.forall_mem_cons.mpr ⟨tw_704, List.forall_mem_cons.mpr ⟨tw_705, List.forall_mem_cons.mpr ⟨tw_10, List.forall_mem_cons.mpr ⟨tw_706, fun _ h => absurd h List.not_mem_nil⟩⟩⟩⟩⟩
theorem cw_L_43 : ∀ w ∈ wsV R_law 43 RX7 yX7_read (Cond.code yX7_read cX7_read 1 (some (Jvm.ClassFile.FieldType.int)) :: []), w ∈ TB := List.forall_mem_cons.mpr ⟨tw_346, List.forall_mem_cons.mpr ⟨tw_347, List.forall_mem_cons.mpr ⟨tw_348, List.forall_mem_cons.mpr ⟨tw_1, List.forall_mem_cons.mpr ⟨tw_349, fun _ h => absurd h List.not_mem_nil⟩⟩⟩⟩⟩
theorem cw_L_46 : ∀ w ∈ wsV R_law 46 RX8 yX8_read (Cond.code yX8_read cX8_read 2 (some (Jvm.ClassFile.FieldType.int)) :: []), w ∈ TB := List.forall_mem_cons.mpr ⟨tw_707, List.forall_mem_cons.mpr ⟨tw_708, List.forall_mem_cons.mpr ⟨tw_709, List.forall_mem_cons.mpr ⟨tw_10, List.forall_mem_cons.mpr ⟨tw_710, fun _ h => absurd h List.not_mem_nil⟩⟩⟩⟩⟩
theorem cw_L_47 : ∀ w ∈ wsV R_law 47 RX7 yX7_finish (Cond.code yX7_finish cX7_finish 3 (some (Jvm.ClassFile.FieldType.int)) :: []), w ∈ TB := List.forall_mem_cons.mpr ⟨tw_355, List.forall_mem_cons.mpr ⟨tw_356, List.forall_mem_cons.mpr ⟨tw_357, List.forall_mem_cons.mpr ⟨tw_1, List.forall_mem_cons.mpr ⟨tw_358, fun _ h => absurd h List.not_mem_nil⟩⟩⟩⟩⟩
theorem cw_L_50 : ∀ w ∈ wsV R_law 50 RX8 yX8_finish (Cond.code yX8_finish cX8_finish 3 (some (Jvm.ClassFile.FieldType.int)) :: []), w ∈ TB := List.forall_mem_cons.mpr ⟨tw_711, List.forall_mem_cons.mpr ⟨tw_712, List.forall_mem_cons.mpr ⟨tw_713, List.forall_mem_cons.mpr ⟨tw_10, List.forall_mem_cons.mpr ⟨tw_714, fun _ h => absurd h List.not_mem_nil⟩⟩⟩⟩⟩
theorem cw_L_51 : ∀ w ∈ wsV R_law 51 RX7 yX7_change (Cond.code yX7_change cX7_change 3 (some (Jvm.ClassFile.FieldType.int)) :: []), w ∈ TB := List.forall_mem_cons.mpr ⟨tw_359, List.forall_mem_cons.mpr ⟨tw_360, List.forall_mem_cons.mpr ⟨tw_361, List.forall_mem_cons.mpr ⟨tw_1, List.forall_mem_cons.mpr ⟨tw_362, fun _ h => absurd h List.not_mem_nil⟩⟩⟩⟩⟩
theorem cw_L_54 : ∀ w ∈ wsV R_law 54 RX8 yX8_change (Cond.code yX8_change cX8_change 4 (some (Jvm.ClassFile.FieldType.int)) :: []), w ∈ TB := List.forall_mem_cons.mpr ⟨tw_716, List.forall_mem_cons.mpr ⟨tw_717, List.forall_mem_cons.mpr ⟨tw_718, List.forall_mem_cons.mpr ⟨tw_10, List.forall_mem_cons.mpr ⟨tw_719, fun _ h => absurd h List.not_mem_nil⟩⟩⟩⟩⟩
theorem cw_L_55 : ∀ w ∈ wsV R_law 55 RX7 yX7_drop (Cond.code yX7_drop cX7_drop 2 (some (Jvm.ClassFile.FieldType.int)) :: []), w ∈ TB := List.forall_mem_cons.mpr ⟨tw_364, List.forall_mem_cons.mpr ⟨tw_365, List.forall_mem_cons.mpr ⟨tw_366, List.forall_mem_cons.mpr ⟨tw_1, List.forall_mem_cons.mpr ⟨tw_367, fun _ h => absurd h List.not_mem_nil⟩⟩⟩⟩⟩
theorem cw_L_58 : ∀ w ∈ wsV R_law 58 RX8 yX8_drop (Cond.code yX8_drop cX8_drop 5 (some (Jvm.ClassFile.FieldType.int)) :: []), w ∈ TB := List.forall_mem_cons.mpr ⟨tw_720, List.forall_mem_cons.mpr ⟨tw_721, List.forall_mem_cons.mpr ⟨tw_722, List.forall_mem_cons.mpr ⟨tw_10, List.forall_mem_cons.mpr ⟨tw_723, fun _ h => absurd h List.not_mem_nil⟩⟩⟩⟩⟩
theorem cw_L_59 : ∀ w ∈ wsV R_law 59 RX7 yX7_has (Cond.code yX7_has cX7_has 4 (some (Jvm.ClassFile.FieldType.int)) :: []), w ∈ TB := List.forall_mem_cons.mpr ⟨tw_376, List.forall_mem_cons.mpr ⟨tw_377, List.forall_mem_cons.mpr ⟨tw_378, List.forall_mem_cons.mpr ⟨tw_1, List.forall_mem_cons.mpr ⟨tw_379, fun _ h => absurd h List.not_mem_nil⟩⟩⟩⟩⟩
theorem cw_L_63 : ∀ w ∈ wsV R_law 63 RX8 yX8_has (Cond.code yX8_has cX8_has 4 (some (Jvm.ClassFile.FieldType.int)) :: []), w ∈ TB := List.forall_mem_cons.mpr ⟨tw_729, List.forall_mem_cons.mpr ⟨tw_730, List.forall_mem_cons.mpr ⟨tw_731, List.forall_mem_cons.mpr ⟨tw_10, List.forall_mem_cons.mpr ⟨tw_732, fun _ h => absurd h List.not_mem_nil⟩⟩⟩⟩⟩
theorem cw_L_64 : ∀ w ∈ wsV R_law 64 RX7 yX7_leaves (Cond.code yX7_leaves cX7_leaves 3 (some (Jvm.ClassFile.FieldType.long)) :: []), w ∈ TB := List.forall_mem_cons.mpr ⟨tw_400, List.forall_mem_cons.mpr ⟨tw_401, List.forall_mem_cons.mpr ⟨tw_402, List.forall_mem_cons.mpr ⟨tw_1, List.forall_mem_cons.mpr ⟨tw_403, fun _ h => absurd h List.not_mem_nil⟩⟩⟩⟩⟩
theorem cw_L_68 : ∀ w ∈ wsV R_law 68 RX8 yX8_leaves (Cond.code yX8_leaves cX8_leaves 3 (some (Jvm.ClassFile.FieldType.long)) :: []), w ∈ TB := List.forall_mem_cons.mpr ⟨tw_746, List.forall_mem_cons.mpr ⟨tw_747, List.forall_mem_cons.mpr ⟨tw_748, List.forall_mem_cons.mpr ⟨tw_10, List.forall_mem_cons.mpr ⟨tw_749, fun _ h => absurd h List.not_mem_nil⟩⟩⟩⟩⟩
theorem cw_L_69 : ∀ w ∈ wsV R_law 69 RX7 yX7_period (Cond.code yX7_period cX7_period 1 (some (Jvm.ClassFile.FieldType.int)) :: []), w ∈ TB := List.forall_mem_cons.mpr ⟨tw_411, List.forall_mem_cons.mpr ⟨tw_412, List.forall_mem_cons.mpr ⟨tw_413, List.forall_mem_cons.mpr ⟨tw_1, List.forall_mem_cons.mpr ⟨tw_414, fun _ h => absurd h List.not_mem_nil⟩⟩⟩⟩⟩
theorem cw_L_72 : ∀ w ∈ wsV R_law 72 RX8 yX8_period (Cond.code yX8_period cX8_period 2 (some (Jvm.ClassFile.FieldType.int)) :: []), w ∈ TB := List.forall_mem_cons.mpr ⟨tw_754, List.forall_mem_cons.mpr ⟨tw_755, List.forall_mem_cons.mpr ⟨tw_756, List.forall_mem_cons.mpr ⟨tw_10, List.forall_mem_cons.mpr ⟨tw_757, fun _ h => absurd h List.not_mem_nil⟩⟩⟩⟩⟩
theorem cw_L_73 : ∀ w ∈ wsV R_law 73 RX7 yX7_ever (Cond.code yX7_ever cX7_ever 6 (some (Jvm.ClassFile.FieldType.long)) :: []), w ∈ TB := List.forall_mem_cons.mpr ⟨tw_422, List.forall_mem_cons.mpr ⟨tw_423, List.forall_mem_cons.mpr ⟨tw_424, List.forall_mem_cons.mpr ⟨tw_1, List.forall_mem_cons.mpr ⟨tw_425, fun _ h => absurd h List.not_mem_nil⟩⟩⟩⟩⟩
theorem cw_L_77 : ∀ w ∈ wsV R_law 77 RX8 yX8_ever (Cond.code yX8_ever cX8_ever 10 (some (Jvm.ClassFile.FieldType.long)) :: []), w ∈ TB := List.forall_mem_cons.mpr ⟨tw_761, List.forall_mem_cons.mpr ⟨tw_762, List.forall_mem_cons.mpr ⟨tw_763, List.forall_mem_cons.mpr ⟨tw_10, List.forall_mem_cons.mpr ⟨tw_764, fun _ h => absurd h List.not_mem_nil⟩⟩⟩⟩⟩
theorem cw_L_78 : ∀ w ∈ wsV R_law 78 RX7 yX7_right (Cond.code yX7_right cX7_right 5 (some (Jvm.ClassFile.FieldType.int)) :: []), w ∈ TB := List.forall_mem_cons.mpr ⟨tw_441, List.forall_mem_cons.mpr ⟨tw_442, List.forall_mem_cons.mpr ⟨tw_443, List.forall_mem_cons.mpr ⟨tw_1, List.forall_mem_cons.mpr ⟨tw_444, fun _ h => absurd h List.not_mem_nil⟩⟩⟩⟩⟩
theorem cw_L_82 : ∀ w ∈ wsV R_law 82 RX8 yX8_right (Cond.code yX8_right cX8_right 5 (some (Jvm.ClassFile.FieldType.int)) :: []), w ∈ TB := List.forall_mem_cons.mpr ⟨tw_766, List.forall_mem_cons.mpr ⟨tw_767, List.forall_mem_cons.mpr ⟨tw_768, List.forall_mem_cons.mpr ⟨tw_10, List.forall_mem_cons.mpr ⟨tw_769, fun _ h => absurd h List.not_mem_nil⟩⟩⟩⟩⟩
theorem cw_L_83 : ∀ w ∈ wsV R_law 83 RX7 yX7_order (Cond.code yX7_order cX7_order 5 (some (Jvm.ClassFile.FieldType.int)) :: []), w ∈ TB := List.forall_mem_cons.mpr ⟨tw_454, List.forall_mem_cons.mpr ⟨tw_455, List.forall_mem_cons.mpr ⟨tw_456, List.forall_mem_cons.mpr ⟨tw_1, List.forall_mem_cons.mpr ⟨tw_457, fun _ h => absurd h List.not_mem_nil⟩⟩⟩⟩⟩
theorem cw_L_86 : ∀ w ∈ wsV R_law 86 RX8 yX8_order (Cond.code yX8_order cX8_order 7 (some (Jvm.ClassFile.FieldType.int)) :: []), w ∈ TB := List.forall_mem_cons.mpr ⟨tw_773, List.forall_mem_cons.mpr ⟨tw_774, List.forall_mem_cons.mpr ⟨tw_775, List.forall_mem_cons.mpr ⟨tw_10, List.forall_mem_cons.mpr ⟨tw_776, fun _ h => absurd h List.not_mem_nil⟩⟩⟩⟩⟩
theorem cw_L_87 : ∀ w ∈ wsV R_law 87 RX7 yX7_shows (Cond.code yX7_shows cX7_shows 3 (some (Jvm.ClassFile.FieldType.int)) :: []), w ∈ TB := List.forall_mem_cons.mpr ⟨tw_482, List.forall_mem_cons.mpr ⟨tw_483, List.forall_mem_cons.mpr ⟨tw_484, List.forall_mem_cons.mpr ⟨tw_1, List.forall_mem_cons.mpr ⟨tw_485, fun _ h => absurd h List.not_mem_nil⟩⟩⟩⟩⟩
theorem cw_L_90 : ∀ w ∈ wsV R_law 90 RX8 yX8_shows (Cond.code yX8_shows cX8_shows 3 (some (Jvm.ClassFile.FieldType.int)) :: []), w ∈ TB := List.forall_mem_cons.mpr ⟨tw_783, List.forall_mem_cons.mpr ⟨tw_784, List.forall_mem_cons.mpr ⟨tw_785, List.forall_mem_cons.mpr ⟨tw_10, List.forall_mem_cons.mpr ⟨tw_786, fun _ h => absurd h List.not_mem_nil⟩⟩⟩⟩⟩
theorem cw_L_91 : ∀ w ∈ wsV R_law 91 RX7 yX7_quickest (Cond.code yX7_quickest cX7_quickest 2 (some (Jvm.ClassFile.FieldType.int)) :: []), w ∈ TB := List.forall_mem_cons.mpr ⟨tw_491, List.forall_mem_cons.mpr ⟨tw_492, List.forall_mem_cons.mpr ⟨tw_493, List.forall_mem_cons.mpr ⟨tw_1, List.forall_mem_cons.mpr ⟨tw_494, fun _ h => absurd h List.not_mem_nil⟩⟩⟩⟩⟩
theorem cw_L_94 : ∀ w ∈ wsV R_law 94 RX8 yX8_quickest (Cond.code yX8_quickest cX8_quickest 8 (some (Jvm.ClassFile.FieldType.int)) :: []), w ∈ TB := List.forall_mem_cons.mpr ⟨tw_791, List.forall_mem_cons.mpr ⟨tw_792, List.forall_mem_cons.mpr ⟨tw_793, List.forall_mem_cons.mpr ⟨tw_10, List.forall_mem_cons.mpr ⟨tw_794, fun _ h => absurd h List.not_mem_nil⟩⟩⟩⟩⟩
theorem cw_L_95 : ∀ w ∈ wsV R_law 95 RX7 yX7_seen (Cond.code yX7_seen cX7_seen 5 (some (Jvm.ClassFile.FieldType.int)) :: []), w ∈ TB := List.forall_mem_cons.mpr ⟨tw_495, List.forall_mem_cons.mpr ⟨tw_496, List.forall_mem_cons.mpr ⟨tw_497, List.forall_mem_cons.mpr ⟨tw_1, List.forall_mem_cons.mpr ⟨tw_498, fun _ h => absurd h List.not_mem_nil⟩⟩⟩⟩⟩
theorem cw_L_99 : ∀ w ∈ wsV R_law 99 RX8 yX8_seen (Cond.code yX8_seen cX8_seen 5 (some (Jvm.ClassFile.FieldType.int)) :: []), w ∈ TB := List.forall_mem_cons.mpr ⟨tw_795, List.forall_mem_cons.mpr ⟨tw_796, List.forall_mem_cons.mpr ⟨tw_797, List.forall_mem_cons.mpr ⟨tw_10, List.forall_mem_cons.mpr ⟨tw_798, fun _ h => absurd h List.not_mem_nil⟩⟩⟩⟩⟩
theorem cw_L_100 : ∀ w ∈ wsV R_law 100 RX7 yX7_forget (Cond.code yX7_forget cX7_forget 2 (some (Jvm.ClassFile.FieldType.int)) :: []), w ∈ TB := List.forall_mem_cons.mpr ⟨tw_500, List.forall_mem_cons.mpr ⟨tw_501, List.forall_mem_cons.mpr ⟨tw_502, List.forall_mem_cons.mpr ⟨tw_1, List.forall_mem_cons.mpr ⟨tw_503, fun _ h => absurd h List.not_mem_nil⟩⟩⟩⟩⟩
theorem cw_L_103 : ∀ w ∈ wsV R_law 103 RX8 yX8_forget (Cond.code yX8_forget cX8_forget 2 (some (Jvm.ClassFile.FieldType.int)) :: []), w ∈ TB := List.forall_mem_cons.mpr ⟨tw_799, List.forall_mem_cons.mpr ⟨tw_800, List.forall_mem_cons.mpr ⟨tw_801, List.forall_mem_cons.mpr ⟨tw_10, List.forall_mem_cons.mpr ⟨tw_802, fun _ h => absurd h List.not_mem_nil⟩⟩⟩⟩⟩
theorem cw_L_104 : ∀ w ∈ wsV R_law 104 RX7 yX7_so (Cond.code yX7_so cX7_so 1 (some (Jvm.ClassFile.FieldType.int)) :: []), w ∈ TB := List.forall_mem_cons.mpr ⟨tw_504, List.forall_mem_cons.mpr ⟨tw_505, List.forall_mem_cons.mpr ⟨tw_506, List.forall_mem_cons.mpr ⟨tw_1, List.forall_mem_cons.mpr ⟨tw_507, fun _ h => absurd h List.not_mem_nil⟩⟩⟩⟩⟩
theorem cw_L_107 : ∀ w ∈ wsV R_law 107 RX8 yX8_so (Cond.code yX8_so cX8_so 1 (some (Jvm.ClassFile.FieldType.int)) :: []), w ∈ TB := List.forall_mem_cons.mpr ⟨tw_803, List.forall_mem_cons.mpr ⟨tw_804, List.forall_mem_cons.mpr ⟨tw_805, List.forall_mem_cons.mpr ⟨tw_10, List.forall_mem_cons.mpr ⟨tw_806, fun _ h => absurd h List.not_mem_nil⟩⟩⟩⟩⟩
theorem cw_L_108 : ∀ w ∈ wsV R_law 108 RX7 yX7_sure (Cond.code yX7_sure cX7_sure 2 (some (Jvm.ClassFile.FieldType.int)) :: []), w ∈ TB := List.forall_mem_cons.mpr ⟨tw_512, List.forall_mem_cons.mpr ⟨tw_513, List.forall_mem_cons.mpr ⟨tw_514, List.forall_mem_cons.mpr ⟨tw_1, List.forall_mem_cons.mpr ⟨tw_515, fun _ h => absurd h List.not_mem_nil⟩⟩⟩⟩⟩
theorem cw_L_111 : ∀ w ∈ wsV R_law 111 RX8 yX8_sure (Cond.code yX8_sure cX8_sure 3 (some (Jvm.ClassFile.FieldType.int)) :: []), w ∈ TB := List.forall_mem_cons.mpr ⟨tw_810, List.forall_mem_cons.mpr ⟨tw_811, List.forall_mem_cons.mpr ⟨tw_812, List.forall_mem_cons.mpr ⟨tw_10, List.forall_mem_cons.mpr ⟨tw_813, fun _ h => absurd h List.not_mem_nil⟩⟩⟩⟩⟩
theorem cw_L_112 : ∀ w ∈ wsV R_law 112 RX7 yX7_lacks (Cond.code yX7_lacks cX7_lacks 6 (some (Jvm.ClassFile.FieldType.int)) :: []), w ∈ TB := List.forall_mem_cons.mpr ⟨tw_520, List.forall_mem_cons.mpr ⟨tw_521, List.forall_mem_cons.mpr ⟨tw_522, List.forall_mem_cons.mpr ⟨tw_1, List.forall_mem_cons.mpr ⟨tw_523, fun _ h => absurd h List.not_mem_nil⟩⟩⟩⟩⟩
theorem cw_L_115 : ∀ w ∈ wsV R_law 115 RX8 yX8_lacks (Cond.code yX8_lacks cX8_lacks 6 (some (Jvm.ClassFile.FieldType.int)) :: []), w ∈ TB := List.forall_mem_cons.mpr ⟨tw_814, List.forall_mem_cons.mpr ⟨tw_815, List.forall_mem_cons.mpr ⟨tw_816, List.forall_mem_cons.mpr ⟨tw_10, List.forall_mem_cons.mpr ⟨tw_817, fun _ h => absurd h List.not_mem_nil⟩⟩⟩⟩⟩
theorem cw_L_116 : ∀ w ∈ wsV R_law 116 RX7 yX7_notice (Cond.code yX7_notice cX7_notice 8 (some (Jvm.ClassFile.FieldType.int)) :: []), w ∈ TB := List.forall_mem_cons.mpr ⟨tw_529, List.forall_mem_cons.mpr ⟨tw_530, List.forall_mem_cons.mpr ⟨tw_531, List.forall_mem_cons.mpr ⟨tw_1, List.forall_mem_cons.mpr ⟨tw_532, fun _ h => absurd h List.not_mem_nil⟩⟩⟩⟩⟩
theorem cw_L_120 : ∀ w ∈ wsV R_law 120 RX8 yX8_notice (Cond.code yX8_notice cX8_notice 8 (some (Jvm.ClassFile.FieldType.int)) :: []), w ∈ TB := List.forall_mem_cons.mpr ⟨tw_818, List.forall_mem_cons.mpr ⟨tw_819, List.forall_mem_cons.mpr ⟨tw_820, List.forall_mem_cons.mpr ⟨tw_10, List.forall_mem_cons.mpr ⟨tw_821, fun _ h => absurd h List.not_mem_nil⟩⟩⟩⟩⟩
theorem cw_L_121 : ∀ w ∈ wsV R_law 121 RX7 yX7_pleased (Cond.code yX7_pleased cX7_pleased 7 (some (Jvm.ClassFile.FieldType.int)) :: []), w ∈ TB := List.forall_mem_cons.mpr ⟨tw_536, List.forall_mem_cons.mpr ⟨tw_537, List.forall_mem_cons.mpr ⟨tw_538, List.forall_mem_cons.mpr ⟨tw_1, List.forall_mem_cons.mpr ⟨tw_539, fun _ h => absurd h List.not_mem_nil⟩⟩⟩⟩⟩
theorem cw_L_124 : ∀ w ∈ wsV R_law 124 RX8 yX8_pleased (Cond.code yX8_pleased cX8_pleased 7 (some (Jvm.ClassFile.FieldType.int)) :: []), w ∈ TB := List.forall_mem_cons.mpr ⟨tw_823, List.forall_mem_cons.mpr ⟨tw_824, List.forall_mem_cons.mpr ⟨tw_825, List.forall_mem_cons.mpr ⟨tw_10, List.forall_mem_cons.mpr ⟨tw_826, fun _ h => absurd h List.not_mem_nil⟩⟩⟩⟩⟩
theorem cw_L_125 : ∀ w ∈ wsV R_law 125 RX7 yX7_keep (Cond.code yX7_keep cX7_keep 1 (some (Jvm.ClassFile.FieldType.int)) :: []), w ∈ TB := List.forall_mem_cons.mpr ⟨tw_550, List.forall_mem_cons.mpr ⟨tw_551, List.forall_mem_cons.mpr ⟨tw_552, List.forall_mem_cons.mpr ⟨tw_1, List.forall_mem_cons.mpr ⟨tw_553, fun _ h => absurd h List.not_mem_nil⟩⟩⟩⟩⟩
theorem cw_L_128 : ∀ w ∈ wsV R_law 128 RX8 yX8_keep (Cond.code yX8_keep cX8_keep 1 (some (Jvm.ClassFile.FieldType.int)) :: []), w ∈ TB := List.forall_mem_cons.mpr ⟨tw_831, List.forall_mem_cons.mpr ⟨tw_832, List.forall_mem_cons.mpr ⟨tw_833, List.forall_mem_cons.mpr ⟨tw_10, List.forall_mem_cons.mpr ⟨tw_834, fun _ h => absurd h List.not_mem_nil⟩⟩⟩⟩⟩
theorem cw_L_129 : ∀ w ∈ wsV R_law 129 RX7 yX7_back (Cond.code yX7_back cX7_back 1 (some (Jvm.ClassFile.FieldType.int)) :: []), w ∈ TB := List.forall_mem_cons.mpr ⟨tw_561, List.forall_mem_cons.mpr ⟨tw_562, List.forall_mem_cons.mpr ⟨tw_563, List.forall_mem_cons.mpr ⟨tw_1, List.forall_mem_cons.mpr ⟨tw_564, fun _ h => absurd h List.not_mem_nil⟩⟩⟩⟩⟩
theorem cw_L_132 : ∀ w ∈ wsV R_law 132 RX8 yX8_back (Cond.code yX8_back cX8_back 1 (some (Jvm.ClassFile.FieldType.int)) :: []), w ∈ TB := List.forall_mem_cons.mpr ⟨tw_838, List.forall_mem_cons.mpr ⟨tw_839, List.forall_mem_cons.mpr ⟨tw_840, List.forall_mem_cons.mpr ⟨tw_10, List.forall_mem_cons.mpr ⟨tw_841, fun _ h => absurd h List.not_mem_nil⟩⟩⟩⟩⟩
theorem cw_L_133 : ∀ w ∈ wsV R_law 133 RX7 yX7_count (Cond.code yX7_count cX7_count 2 (some (Jvm.ClassFile.FieldType.int)) :: []), w ∈ TB := List.forall_mem_cons.mpr ⟨tw_565, List.forall_mem_cons.mpr ⟨tw_566, List.forall_mem_cons.mpr ⟨tw_567, List.forall_mem_cons.mpr ⟨tw_1, List.forall_mem_cons.mpr ⟨tw_568, fun _ h => absurd h List.not_mem_nil⟩⟩⟩⟩⟩
theorem cw_L_136 : ∀ w ∈ wsV R_law 136 RX8 yX8_count (Cond.code yX8_count cX8_count 2 (some (Jvm.ClassFile.FieldType.int)) :: []), w ∈ TB := List.forall_mem_cons.mpr ⟨tw_842, List.forall_mem_cons.mpr ⟨tw_843, List.forall_mem_cons.mpr ⟨tw_844, List.forall_mem_cons.mpr ⟨tw_10, List.forall_mem_cons.mpr ⟨tw_845, fun _ h => absurd h List.not_mem_nil⟩⟩⟩⟩⟩
theorem hd_X7_back : yX7_back.cls = RX7 ∧ yX7_back.cls ≠ "java/lang/invoke/MethodHandle" ∧ yX7_back.cls ≠ "java/lang/invoke/VarHandle" ∧ (parseMethodDescriptor yX7_back.desc).map (fun d => d.parameters.length) = some 0 := by decide +kernel
theorem hd_X7_change : yX7_change.cls = RX7 ∧ yX7_change.cls ≠ "java/lang/invoke/MethodHandle" ∧ yX7_change.cls ≠ "java/lang/invoke/VarHandle" ∧ (parseMethodDescriptor yX7_change.desc).map (fun d => d.parameters.length) = some 2 := by decide +kernel
theorem hd_X7_count : yX7_count.cls = RX7 ∧ yX7_count.cls ≠ "java/lang/invoke/MethodHandle" ∧ yX7_count.cls ≠ "java/lang/invoke/VarHandle" ∧ (parseMethodDescriptor yX7_count.desc).map (fun d => d.parameters.length) = some 1 := by decide +kernel
theorem hd_X7_drop : yX7_drop.cls = RX7 ∧ yX7_drop.cls ≠ "java/lang/invoke/MethodHandle" ∧ yX7_drop.cls ≠ "java/lang/invoke/VarHandle" ∧ (parseMethodDescriptor yX7_drop.desc).map (fun d => d.parameters.length) = some 1 := by decide +kernel
theorem hd_X7_ever : yX7_ever.cls = RX7 ∧ yX7_ever.cls ≠ "java/lang/invoke/MethodHandle" ∧ yX7_ever.cls ≠ "java/lang/invoke/VarHandle" ∧ (parseMethodDescriptor yX7_ever.desc).map (fun d => d.parameters.length) = some 1 := by decide +kernel
theorem hd_X7_fault : yX7_fault.cls = RX7 ∧ yX7_fault.cls ≠ "java/lang/invoke/MethodHandle" ∧ yX7_fault.cls ≠ "java/lang/invoke/VarHandle" ∧ (parseMethodDescriptor yX7_fault.desc).map (fun d => d.parameters.length) = some 0 := by decide +kernel
theorem hd_X7_finish : yX7_finish.cls = RX7 ∧ yX7_finish.cls ≠ "java/lang/invoke/MethodHandle" ∧ yX7_finish.cls ≠ "java/lang/invoke/VarHandle" ∧ (parseMethodDescriptor yX7_finish.desc).map (fun d => d.parameters.length) = some 0 := by decide +kernel
theorem hd_X7_forget : yX7_forget.cls = RX7 ∧ yX7_forget.cls ≠ "java/lang/invoke/MethodHandle" ∧ yX7_forget.cls ≠ "java/lang/invoke/VarHandle" ∧ (parseMethodDescriptor yX7_forget.desc).map (fun d => d.parameters.length) = some 0 := by decide +kernel
theorem hd_X7_has : yX7_has.cls = RX7 ∧ yX7_has.cls ≠ "java/lang/invoke/MethodHandle" ∧ yX7_has.cls ≠ "java/lang/invoke/VarHandle" ∧ (parseMethodDescriptor yX7_has.desc).map (fun d => d.parameters.length) = some 2 := by decide +kernel
theorem hd_X7_keep : yX7_keep.cls = RX7 ∧ yX7_keep.cls ≠ "java/lang/invoke/MethodHandle" ∧ yX7_keep.cls ≠ "java/lang/invoke/VarHandle" ∧ (parseMethodDescriptor yX7_keep.desc).map (fun d => d.parameters.length) = some 0 := by decide +kernel
theorem hd_X7_lacks : yX7_lacks.cls = RX7 ∧ yX7_lacks.cls ≠ "java/lang/invoke/MethodHandle" ∧ yX7_lacks.cls ≠ "java/lang/invoke/VarHandle" ∧ (parseMethodDescriptor yX7_lacks.desc).map (fun d => d.parameters.length) = some 2 := by decide +kernel
theorem hd_X7_lay : yX7_lay.cls = RX7 ∧ yX7_lay.cls ≠ "java/lang/invoke/MethodHandle" ∧ yX7_lay.cls ≠ "java/lang/invoke/VarHandle" ∧ (parseMethodDescriptor yX7_lay.desc).map (fun d => d.parameters.length) = some 0 := by decide +kernel
theorem hd_X7_leaf : yX7_leaf.cls = RX7 ∧ yX7_leaf.cls ≠ "java/lang/invoke/MethodHandle" ∧ yX7_leaf.cls ≠ "java/lang/invoke/VarHandle" ∧ (parseMethodDescriptor yX7_leaf.desc).map (fun d => d.parameters.length) = some 2 := by decide +kernel
theorem hd_X7_leaves : yX7_leaves.cls = RX7 ∧ yX7_leaves.cls ≠ "java/lang/invoke/MethodHandle" ∧ yX7_leaves.cls ≠ "java/lang/invoke/VarHandle" ∧ (parseMethodDescriptor yX7_leaves.desc).map (fun d => d.parameters.length) = some 1 := by decide +kernel
theorem hd_X7_notice : yX7_notice.cls = RX7 ∧ yX7_notice.cls ≠ "java/lang/invoke/MethodHandle" ∧ yX7_notice.cls ≠ "java/lang/invoke/VarHandle" ∧ (parseMethodDescriptor yX7_notice.desc).map (fun d => d.parameters.length) = some 3 := by decide +kernel
theorem hd_X7_order : yX7_order.cls = RX7 ∧ yX7_order.cls ≠ "java/lang/invoke/MethodHandle" ∧ yX7_order.cls ≠ "java/lang/invoke/VarHandle" ∧ (parseMethodDescriptor yX7_order.desc).map (fun d => d.parameters.length) = some 2 := by decide +kernel
theorem hd_X7_period : yX7_period.cls = RX7 ∧ yX7_period.cls ≠ "java/lang/invoke/MethodHandle" ∧ yX7_period.cls ≠ "java/lang/invoke/VarHandle" ∧ (parseMethodDescriptor yX7_period.desc).map (fun d => d.parameters.length) = some 0 := by decide +kernel
theorem hd_X7_pleased : yX7_pleased.cls = RX7 ∧ yX7_pleased.cls ≠ "java/lang/invoke/MethodHandle" ∧ yX7_pleased.cls ≠ "java/lang/invoke/VarHandle" ∧ (parseMethodDescriptor yX7_pleased.desc).map (fun d => d.parameters.length) = some 2 := by decide +kernel
theorem hd_X7_quickest : yX7_quickest.cls = RX7 ∧ yX7_quickest.cls ≠ "java/lang/invoke/MethodHandle" ∧ yX7_quickest.cls ≠ "java/lang/invoke/VarHandle" ∧ (parseMethodDescriptor yX7_quickest.desc).map (fun d => d.parameters.length) = some 1 := by decide +kernel
theorem hd_X7_read : yX7_read.cls = RX7 ∧ yX7_read.cls ≠ "java/lang/invoke/MethodHandle" ∧ yX7_read.cls ≠ "java/lang/invoke/VarHandle" ∧ (parseMethodDescriptor yX7_read.desc).map (fun d => d.parameters.length) = some 0 := by decide +kernel
theorem hd_X7_right : yX7_right.cls = RX7 ∧ yX7_right.cls ≠ "java/lang/invoke/MethodHandle" ∧ yX7_right.cls ≠ "java/lang/invoke/VarHandle" ∧ (parseMethodDescriptor yX7_right.desc).map (fun d => d.parameters.length) = some 1 := by decide +kernel
theorem hd_X7_seen : yX7_seen.cls = RX7 ∧ yX7_seen.cls ≠ "java/lang/invoke/MethodHandle" ∧ yX7_seen.cls ≠ "java/lang/invoke/VarHandle" ∧ (parseMethodDescriptor yX7_seen.desc).map (fun d => d.parameters.length) = some 3 := by decide +kernel
theorem hd_X7_shows : yX7_shows.cls = RX7 ∧ yX7_shows.cls ≠ "java/lang/invoke/MethodHandle" ∧ yX7_shows.cls ≠ "java/lang/invoke/VarHandle" ∧ (parseMethodDescriptor yX7_shows.desc).map (fun d => d.parameters.length) = some 2 := by decide +kernel
theorem hd_X7_so : yX7_so.cls = RX7 ∧ yX7_so.cls ≠ "java/lang/invoke/MethodHandle" ∧ yX7_so.cls ≠ "java/lang/invoke/VarHandle" ∧ (parseMethodDescriptor yX7_so.desc).map (fun d => d.parameters.length) = some 0 := by decide +kernel
theorem hd_X7_sure : yX7_sure.cls = RX7 ∧ yX7_sure.cls ≠ "java/lang/invoke/MethodHandle" ∧ yX7_sure.cls ≠ "java/lang/invoke/VarHandle" ∧ (parseMethodDescriptor yX7_sure.desc).map (fun d => d.parameters.length) = some 1 := by decide +kernel
theorem hd_X7_where : yX7_where.cls = RX7 ∧ yX7_where.cls ≠ "java/lang/invoke/MethodHandle" ∧ yX7_where.cls ≠ "java/lang/invoke/VarHandle" ∧ (parseMethodDescriptor yX7_where.desc).map (fun d => d.parameters.length) = some 1 := by decide +kernel
theorem hd_X7_wipe : yX7_wipe.cls = RX7 ∧ yX7_wipe.cls ≠ "java/lang/invoke/MethodHandle" ∧ yX7_wipe.cls ≠ "java/lang/invoke/VarHandle" ∧ (parseMethodDescriptor yX7_wipe.desc).map (fun d => d.parameters.length) = some 0 := by decide +kernel
theorem hd_X7_write : yX7_write.cls = RX7 ∧ yX7_write.cls ≠ "java/lang/invoke/MethodHandle" ∧ yX7_write.cls ≠ "java/lang/invoke/VarHandle" ∧ (parseMethodDescriptor yX7_write.desc).map (fun d => d.parameters.length) = some 2 := by decide +kernel
theorem hd_X8_back : yX8_back.cls = RX8 ∧ yX8_back.cls ≠ "java/lang/invoke/MethodHandle" ∧ yX8_back.cls ≠ "java/lang/invoke/VarHandle" ∧ (parseMethodDescriptor yX8_back.desc).map (fun d => d.parameters.length) = some 0 := by decide +kernel
theorem hd_X8_count : yX8_count.cls = RX8 ∧ yX8_count.cls ≠ "java/lang/invoke/MethodHandle" ∧ yX8_count.cls ≠ "java/lang/invoke/VarHandle" ∧ (parseMethodDescriptor yX8_count.desc).map (fun d => d.parameters.length) = some 1 := by decide +kernel
theorem hd_X8_drop : yX8_drop.cls = RX8 ∧ yX8_drop.cls ≠ "java/lang/invoke/MethodHandle" ∧ yX8_drop.cls ≠ "java/lang/invoke/VarHandle" ∧ (parseMethodDescriptor yX8_drop.desc).map (fun d => d.parameters.length) = some 1 := by decide +kernel
theorem hd_X8_ever : yX8_ever.cls = RX8 ∧ yX8_ever.cls ≠ "java/lang/invoke/MethodHandle" ∧ yX8_ever.cls ≠ "java/lang/invoke/VarHandle" ∧ (parseMethodDescriptor yX8_ever.desc).map (fun d => d.parameters.length) = some 1 := by decide +kernel
theorem hd_X8_fault : yX8_fault.cls = RX8 ∧ yX8_fault.cls ≠ "java/lang/invoke/MethodHandle" ∧ yX8_fault.cls ≠ "java/lang/invoke/VarHandle" ∧ (parseMethodDescriptor yX8_fault.desc).map (fun d => d.parameters.length) = some 0 := by decide +kernel
theorem hd_X8_finish : yX8_finish.cls = RX8 ∧ yX8_finish.cls ≠ "java/lang/invoke/MethodHandle" ∧ yX8_finish.cls ≠ "java/lang/invoke/VarHandle" ∧ (parseMethodDescriptor yX8_finish.desc).map (fun d => d.parameters.length) = some 0 := by decide +kernel
theorem hd_X8_forget : yX8_forget.cls = RX8 ∧ yX8_forget.cls ≠ "java/lang/invoke/MethodHandle" ∧ yX8_forget.cls ≠ "java/lang/invoke/VarHandle" ∧ (parseMethodDescriptor yX8_forget.desc).map (fun d => d.parameters.length) = some 0 := by decide +kernel
theorem hd_X8_has : yX8_has.cls = RX8 ∧ yX8_has.cls ≠ "java/lang/invoke/MethodHandle" ∧ yX8_has.cls ≠ "java/lang/invoke/VarHandle" ∧ (parseMethodDescriptor yX8_has.desc).map (fun d => d.parameters.length) = some 2 := by decide +kernel
theorem hd_X8_keep : yX8_keep.cls = RX8 ∧ yX8_keep.cls ≠ "java/lang/invoke/MethodHandle" ∧ yX8_keep.cls ≠ "java/lang/invoke/VarHandle" ∧ (parseMethodDescriptor yX8_keep.desc).map (fun d => d.parameters.length) = some 0 := by decide +kernel
theorem hd_X8_lacks : yX8_lacks.cls = RX8 ∧ yX8_lacks.cls ≠ "java/lang/invoke/MethodHandle" ∧ yX8_lacks.cls ≠ "java/lang/invoke/VarHandle" ∧ (parseMethodDescriptor yX8_lacks.desc).map (fun d => d.parameters.length) = some 2 := by decide +kernel
theorem hd_X8_lay : yX8_lay.cls = RX8 ∧ yX8_lay.cls ≠ "java/lang/invoke/MethodHandle" ∧ yX8_lay.cls ≠ "java/lang/invoke/VarHandle" ∧ (parseMethodDescriptor yX8_lay.desc).map (fun d => d.parameters.length) = some 0 := by decide +kernel
theorem hd_X8_leaf : yX8_leaf.cls = RX8 ∧ yX8_leaf.cls ≠ "java/lang/invoke/MethodHandle" ∧ yX8_leaf.cls ≠ "java/lang/invoke/VarHandle" ∧ (parseMethodDescriptor yX8_leaf.desc).map (fun d => d.parameters.length) = some 2 := by decide +kernel
theorem hd_X8_leaves : yX8_leaves.cls = RX8 ∧ yX8_leaves.cls ≠ "java/lang/invoke/MethodHandle" ∧ yX8_leaves.cls ≠ "java/lang/invoke/VarHandle" ∧ (parseMethodDescriptor yX8_leaves.desc).map (fun d => d.parameters.length) = some 1 := by decide +kernel
theorem hd_X8_notice : yX8_notice.cls = RX8 ∧ yX8_notice.cls ≠ "java/lang/invoke/MethodHandle" ∧ yX8_notice.cls ≠ "java/lang/invoke/VarHandle" ∧ (parseMethodDescriptor yX8_notice.desc).map (fun d => d.parameters.length) = some 3 := by decide +kernel
theorem hd_X8_order : yX8_order.cls = RX8 ∧ yX8_order.cls ≠ "java/lang/invoke/MethodHandle" ∧ yX8_order.cls ≠ "java/lang/invoke/VarHandle" ∧ (parseMethodDescriptor yX8_order.desc).map (fun d => d.parameters.length) = some 2 := by decide +kernel
theorem hd_X8_pleased : yX8_pleased.cls = RX8 ∧ yX8_pleased.cls ≠ "java/lang/invoke/MethodHandle" ∧ yX8_pleased.cls ≠ "java/lang/invoke/VarHandle" ∧ (parseMethodDescriptor yX8_pleased.desc).map (fun d => d.parameters.length) = some 2 := by decide +kernel
theorem hd_X8_quickest : yX8_quickest.cls = RX8 ∧ yX8_quickest.cls ≠ "java/lang/invoke/MethodHandle" ∧ yX8_quickest.cls ≠ "java/lang/invoke/VarHandle" ∧ (parseMethodDescriptor yX8_quickest.desc).map (fun d => d.parameters.length) = some 1 := by decide +kernel
theorem hd_X8_right : yX8_right.cls = RX8 ∧ yX8_right.cls ≠ "java/lang/invoke/MethodHandle" ∧ yX8_right.cls ≠ "java/lang/invoke/VarHandle" ∧ (parseMethodDescriptor yX8_right.desc).map (fun d => d.parameters.length) = some 1 := by decide +kernel
theorem hd_X8_seen : yX8_seen.cls = RX8 ∧ yX8_seen.cls ≠ "java/lang/invoke/MethodHandle" ∧ yX8_seen.cls ≠ "java/lang/invoke/VarHandle" ∧ (parseMethodDescriptor yX8_seen.desc).map (fun d => d.parameters.length) = some 3 := by decide +kernel
theorem hd_X8_shows : yX8_shows.cls = RX8 ∧ yX8_shows.cls ≠ "java/lang/invoke/MethodHandle" ∧ yX8_shows.cls ≠ "java/lang/invoke/VarHandle" ∧ (parseMethodDescriptor yX8_shows.desc).map (fun d => d.parameters.length) = some 2 := by decide +kernel
theorem hd_X8_so : yX8_so.cls = RX8 ∧ yX8_so.cls ≠ "java/lang/invoke/MethodHandle" ∧ yX8_so.cls ≠ "java/lang/invoke/VarHandle" ∧ (parseMethodDescriptor yX8_so.desc).map (fun d => d.parameters.length) = some 0 := by decide +kernel
theorem hd_X8_sure : yX8_sure.cls = RX8 ∧ yX8_sure.cls ≠ "java/lang/invoke/MethodHandle" ∧ yX8_sure.cls ≠ "java/lang/invoke/VarHandle" ∧ (parseMethodDescriptor yX8_sure.desc).map (fun d => d.parameters.length) = some 1 := by decide +kernel
theorem hd_X8_where : yX8_where.cls = RX8 ∧ yX8_where.cls ≠ "java/lang/invoke/MethodHandle" ∧ yX8_where.cls ≠ "java/lang/invoke/VarHandle" ∧ (parseMethodDescriptor yX8_where.desc).map (fun d => d.parameters.length) = some 1 := by decide +kernel
theorem hd_X8_wipe : yX8_wipe.cls = RX8 ∧ yX8_wipe.cls ≠ "java/lang/invoke/MethodHandle" ∧ yX8_wipe.cls ≠ "java/lang/invoke/VarHandle" ∧ (parseMethodDescriptor yX8_wipe.desc).map (fun d => d.parameters.length) = some 0 := by decide +kernel
theorem hd_X8_write : yX8_write.cls = RX8 ∧ yX8_write.cls ≠ "java/lang/invoke/MethodHandle" ∧ yX8_write.cls ≠ "java/lang/invoke/VarHandle" ∧ (parseMethodDescriptor yX8_write.desc).map (fun d => d.parameters.length) = some 2 := by decide +kernel
def wL_1006 (L : Nat) (xs : Nat → Int32) (k_18 : Int32 → Mem → Prop) (v3 : Int32) (M : Mem) : Prop := k_18 (v3 + (5 : Int32)) M
def wL_18 (L : Nat) (xs : Nat → Int32) : Nat → Int32 → Mem → Prop
  | 0, _, _ => False
  | n + 1, v3, M => ((((Int32.ofNat L) - (5 : Int32)) < v3 → True) ∧ (¬ ((Int32.ofNat L) - (5 : Int32)) < v3 → (vp_in v3 L ∧ ((((xs v3.toNatClampNeg) &&& (31 : Int32)) = (0 : Int32) → (vp_in (v3 + (1 : Int32)) L ∧ (vp_in (v3 + (2 : Int32)) L ∧ (vp_in (v3 + (3 : Int32)) L ∧ (wX7_write (xs (v3 + (1 : Int32)).toNatClampNeg) (((xs (v3 + (2 : Int32)).toNatClampNeg).toInt64 <<< ((32 : Int32).toInt64 &&& 63)) ||| ((xs (v3 + (3 : Int32)).toNatClampNeg).toInt64 &&& (4294967295 : Int64))) M (fun r2 M1 => (vp_in (v3 + (1 : Int32)) L ∧ (vp_in (v3 + (2 : Int32)) L ∧ (vp_in (v3 + (3 : Int32)) L ∧ (wX8_write (xs (v3 + (1 : Int32)).toNatClampNeg) (((xs (v3 + (2 : Int32)).toNatClampNeg).toInt64 <<< ((32 : Int32).toInt64 &&& 63)) ||| ((xs (v3 + (3 : Int32)).toNatClampNeg).toInt64 &&& (4294967295 : Int64))) M1 (fun r4 M3 => ((r2 = r4 → wL_1006 L xs (wL_18 L xs n) v3 M3) ∧ (¬ r2 = r4 → False))))))))))))) ∧ (¬ ((xs v3.toNatClampNeg) &&& (31 : Int32)) = (0 : Int32) → ((((xs v3.toNatClampNeg) &&& (31 : Int32)) = (1 : Int32) → (wX7_wipe M (fun r6 M5 => (wX8_wipe M5 (fun r8 M7 => ((r6 = r8 → wL_1006 L xs (wL_18 L xs n) v3 M7) ∧ (¬ r6 = r8 → False))))))) ∧ (¬ ((xs v3.toNatClampNeg) &&& (31 : Int32)) = (1 : Int32) → ((((xs v3.toNatClampNeg) &&& (31 : Int32)) = (2 : Int32) → (wX7_fault M (fun r10 M9 => (wX8_fault M9 (fun r12 M11 => ((r10 = r12 → wL_1006 L xs (wL_18 L xs n) v3 M11) ∧ (¬ r10 = r12 → False))))))) ∧ (¬ ((xs v3.toNatClampNeg) &&& (31 : Int32)) = (2 : Int32) → ((((xs v3.toNatClampNeg) &&& (31 : Int32)) = (3 : Int32) → (wX7_lay M (fun r14 M13 => (wX8_lay M13 (fun r16 M15 => ((r14 = r16 → wL_1006 L xs (wL_18 L xs n) v3 M15) ∧ (¬ r14 = r16 → False))))))) ∧ (¬ ((xs v3.toNatClampNeg) &&& (31 : Int32)) = (3 : Int32) → ((((xs v3.toNatClampNeg) &&& (31 : Int32)) = (4 : Int32) → (vp_in (v3 + (1 : Int32)) L ∧ (vp_in (v3 + (2 : Int32)) L ∧ (wX7_leaf (xs (v3 + (1 : Int32)).toNatClampNeg) (xs (v3 + (2 : Int32)).toNatClampNeg) M (fun r18 M17 => (vp_in (v3 + (1 : Int32)) L ∧ (vp_in (v3 + (2 : Int32)) L ∧ (wX8_leaf (xs (v3 + (1 : Int32)).toNatClampNeg) (xs (v3 + (2 : Int32)).toNatClampNeg) M17 (fun r20 M19 => ((r18 = r20 → wL_1006 L xs (wL_18 L xs n) v3 M19) ∧ (¬ r18 = r20 → False))))))))))) ∧ (¬ ((xs v3.toNatClampNeg) &&& (31 : Int32)) = (4 : Int32) → ((((xs v3.toNatClampNeg) &&& (31 : Int32)) = (5 : Int32) → (vp_in (v3 + (1 : Int32)) L ∧ (wX7_where (xs (v3 + (1 : Int32)).toNatClampNeg) M (fun r22 M21 => (vp_in (v3 + (1 : Int32)) L ∧ (wX8_where (xs (v3 + (1 : Int32)).toNatClampNeg) M21 (fun r24 M23 => ((r22 = r24 → wL_1006 L xs (wL_18 L xs n) v3 M23) ∧ (¬ r22 = r24 → False))))))))) ∧ (¬ ((xs v3.toNatClampNeg) &&& (31 : Int32)) = (5 : Int32) → ((((xs v3.toNatClampNeg) &&& (31 : Int32)) = (6 : Int32) → (wX7_read M (fun r26 M25 => (wX8_read M25 (fun r28 M27 => ((r26 = r28 → wL_1006 L xs (wL_18 L xs n) v3 M27) ∧ (¬ r26 = r28 → False))))))) ∧ (¬ ((xs v3.toNatClampNeg) &&& (31 : Int32)) = (6 : Int32) → ((((xs v3.toNatClampNeg) &&& (31 : Int32)) = (7 : Int32) → (wX7_finish M (fun r30 M29 => (wX8_finish M29 (fun r32 M31 => ((r30 = r32 → wL_1006 L xs (wL_18 L xs n) v3 M31) ∧ (¬ r30 = r32 → False))))))) ∧ (¬ ((xs v3.toNatClampNeg) &&& (31 : Int32)) = (7 : Int32) → ((((xs v3.toNatClampNeg) &&& (31 : Int32)) = (8 : Int32) → (vp_in (v3 + (1 : Int32)) L ∧ (vp_in (v3 + (2 : Int32)) L ∧ (wX7_change (xs (v3 + (1 : Int32)).toNatClampNeg) (xs (v3 + (2 : Int32)).toNatClampNeg) M (fun r34 M33 => (vp_in (v3 + (1 : Int32)) L ∧ (vp_in (v3 + (2 : Int32)) L ∧ (wX8_change (xs (v3 + (1 : Int32)).toNatClampNeg) (xs (v3 + (2 : Int32)).toNatClampNeg) M33 (fun r36 M35 => ((r34 = r36 → wL_1006 L xs (wL_18 L xs n) v3 M35) ∧ (¬ r34 = r36 → False))))))))))) ∧ (¬ ((xs v3.toNatClampNeg) &&& (31 : Int32)) = (8 : Int32) → ((((xs v3.toNatClampNeg) &&& (31 : Int32)) = (9 : Int32) → (vp_in (v3 + (1 : Int32)) L ∧ (wX7_drop (xs (v3 + (1 : Int32)).toNatClampNeg) M (fun r38 M37 => (vp_in (v3 + (1 : Int32)) L ∧ (wX8_drop (xs (v3 + (1 : Int32)).toNatClampNeg) M37 (fun r40 M39 => ((r38 = r40 → wL_1006 L xs (wL_18 L xs n) v3 M39) ∧ (¬ r38 = r40 → False))))))))) ∧ (¬ ((xs v3.toNatClampNeg) &&& (31 : Int32)) = (9 : Int32) → ((((xs v3.toNatClampNeg) &&& (31 : Int32)) = (10 : Int32) → (vp_in (v3 + (1 : Int32)) L ∧ (vp_in (v3 + (2 : Int32)) L ∧ (vp_in (v3 + (3 : Int32)) L ∧ (wX7_has (((xs (v3 + (1 : Int32)).toNatClampNeg).toInt64 <<< ((32 : Int32).toInt64 &&& 63)) ||| ((xs (v3 + (2 : Int32)).toNatClampNeg).toInt64 &&& (4294967295 : Int64))) (xs (v3 + (3 : Int32)).toNatClampNeg) M (fun r42 M41 => (vp_in (v3 + (1 : Int32)) L ∧ (vp_in (v3 + (2 : Int32)) L ∧ (vp_in (v3 + (3 : Int32)) L ∧ (wX8_has (((xs (v3 + (1 : Int32)).toNatClampNeg).toInt64 <<< ((32 : Int32).toInt64 &&& 63)) ||| ((xs (v3 + (2 : Int32)).toNatClampNeg).toInt64 &&& (4294967295 : Int64))) (xs (v3 + (3 : Int32)).toNatClampNeg) M41 (fun r44 M43 => ((r42 = r44 → wL_1006 L xs (wL_18 L xs n) v3 M43) ∧ (¬ r42 = r44 → False))))))))))))) ∧ (¬ ((xs v3.toNatClampNeg) &&& (31 : Int32)) = (10 : Int32) → ((((xs v3.toNatClampNeg) &&& (31 : Int32)) = (11 : Int32) → (vp_in (v3 + (1 : Int32)) L ∧ (vp_in (v3 + (2 : Int32)) L ∧ (wX7_leaves (((xs (v3 + (1 : Int32)).toNatClampNeg).toInt64 <<< ((32 : Int32).toInt64 &&& 63)) ||| ((xs (v3 + (2 : Int32)).toNatClampNeg).toInt64 &&& (4294967295 : Int64))) M (fun r46 M45 => (vp_in (v3 + (1 : Int32)) L ∧ (vp_in (v3 + (2 : Int32)) L ∧ (wX8_leaves (((xs (v3 + (1 : Int32)).toNatClampNeg).toInt64 <<< ((32 : Int32).toInt64 &&& 63)) ||| ((xs (v3 + (2 : Int32)).toNatClampNeg).toInt64 &&& (4294967295 : Int64))) M45 (fun r48 M47 => (((lg_cmp r46 r48) = 0 → wL_1006 L xs (wL_18 L xs n) v3 M47) ∧ (¬ (lg_cmp r46 r48) = 0 → False))))))))))) ∧ (¬ ((xs v3.toNatClampNeg) &&& (31 : Int32)) = (11 : Int32) → ((((xs v3.toNatClampNeg) &&& (31 : Int32)) = (12 : Int32) → (wX7_period M (fun r50 M49 => (wX8_period M49 (fun r52 M51 => ((r50 = r52 → wL_1006 L xs (wL_18 L xs n) v3 M51) ∧ (¬ r50 = r52 → False))))))) ∧ (¬ ((xs v3.toNatClampNeg) &&& (31 : Int32)) = (12 : Int32) → ((((xs v3.toNatClampNeg) &&& (31 : Int32)) = (13 : Int32) → (vp_in (v3 + (1 : Int32)) L ∧ (wX7_ever (xs (v3 + (1 : Int32)).toNatClampNeg) M (fun r54 M53 => (vp_in (v3 + (1 : Int32)) L ∧ (wX8_ever (xs (v3 + (1 : Int32)).toNatClampNeg) M53 (fun r56 M55 => (((lg_cmp r54 r56) = 0 → wL_1006 L xs (wL_18 L xs n) v3 M55) ∧ (¬ (lg_cmp r54 r56) = 0 → False))))))))) ∧ (¬ ((xs v3.toNatClampNeg) &&& (31 : Int32)) = (13 : Int32) → ((((xs v3.toNatClampNeg) &&& (31 : Int32)) = (14 : Int32) → (vp_in (v3 + (1 : Int32)) L ∧ (vp_in (v3 + (2 : Int32)) L ∧ (wX7_right (((xs (v3 + (1 : Int32)).toNatClampNeg).toInt64 <<< ((32 : Int32).toInt64 &&& 63)) ||| ((xs (v3 + (2 : Int32)).toNatClampNeg).toInt64 &&& (4294967295 : Int64))) M (fun r58 M57 => (vp_in (v3 + (1 : Int32)) L ∧ (vp_in (v3 + (2 : Int32)) L ∧ (wX8_right (((xs (v3 + (1 : Int32)).toNatClampNeg).toInt64 <<< ((32 : Int32).toInt64 &&& 63)) ||| ((xs (v3 + (2 : Int32)).toNatClampNeg).toInt64 &&& (4294967295 : Int64))) M57 (fun r60 M59 => ((r58 = r60 → wL_1006 L xs (wL_18 L xs n) v3 M59) ∧ (¬ r58 = r60 → False))))))))))) ∧ (¬ ((xs v3.toNatClampNeg) &&& (31 : Int32)) = (14 : Int32) → ((((xs v3.toNatClampNeg) &&& (31 : Int32)) = (15 : Int32) → (vp_in (v3 + (1 : Int32)) L ∧ (vp_in (v3 + (2 : Int32)) L ∧ (vp_in (v3 + (3 : Int32)) L ∧ (wX7_order (((xs (v3 + (1 : Int32)).toNatClampNeg).toInt64 <<< ((32 : Int32).toInt64 &&& 63)) ||| ((xs (v3 + (2 : Int32)).toNatClampNeg).toInt64 &&& (4294967295 : Int64))) (xs (v3 + (3 : Int32)).toNatClampNeg) M (fun r62 M61 => (vp_in (v3 + (1 : Int32)) L ∧ (vp_in (v3 + (2 : Int32)) L ∧ (vp_in (v3 + (3 : Int32)) L ∧ (wX8_order (((xs (v3 + (1 : Int32)).toNatClampNeg).toInt64 <<< ((32 : Int32).toInt64 &&& 63)) ||| ((xs (v3 + (2 : Int32)).toNatClampNeg).toInt64 &&& (4294967295 : Int64))) (xs (v3 + (3 : Int32)).toNatClampNeg) M61 (fun r64 M63 => ((r62 = r64 → wL_1006 L xs (wL_18 L xs n) v3 M63) ∧ (¬ r62 = r64 → False))))))))))))) ∧ (¬ ((xs v3.toNatClampNeg) &&& (31 : Int32)) = (15 : Int32) → ((((xs v3.toNatClampNeg) &&& (31 : Int32)) = (16 : Int32) → (vp_in (v3 + (1 : Int32)) L ∧ (vp_in (v3 + (2 : Int32)) L ∧ (wX7_shows (xs (v3 + (1 : Int32)).toNatClampNeg) (xs (v3 + (2 : Int32)).toNatClampNeg) M (fun r66 M65 => (vp_in (v3 + (1 : Int32)) L ∧ (vp_in (v3 + (2 : Int32)) L ∧ (wX8_shows (xs (v3 + (1 : Int32)).toNatClampNeg) (xs (v3 + (2 : Int32)).toNatClampNeg) M65 (fun r68 M67 => ((r66 = r68 → wL_1006 L xs (wL_18 L xs n) v3 M67) ∧ (¬ r66 = r68 → False))))))))))) ∧ (¬ ((xs v3.toNatClampNeg) &&& (31 : Int32)) = (16 : Int32) → ((((xs v3.toNatClampNeg) &&& (31 : Int32)) = (17 : Int32) → (vp_in (v3 + (1 : Int32)) L ∧ (wX7_quickest (xs (v3 + (1 : Int32)).toNatClampNeg) M (fun r70 M69 => (vp_in (v3 + (1 : Int32)) L ∧ (wX8_quickest (xs (v3 + (1 : Int32)).toNatClampNeg) M69 (fun r72 M71 => ((r70 = r72 → wL_1006 L xs (wL_18 L xs n) v3 M71) ∧ (¬ r70 = r72 → False))))))))) ∧ (¬ ((xs v3.toNatClampNeg) &&& (31 : Int32)) = (17 : Int32) → ((((xs v3.toNatClampNeg) &&& (31 : Int32)) = (18 : Int32) → (vp_in (v3 + (1 : Int32)) L ∧ (vp_in (v3 + (2 : Int32)) L ∧ (vp_in (v3 + (3 : Int32)) L ∧ (vp_in (v3 + (4 : Int32)) L ∧ (wX7_seen (((xs (v3 + (1 : Int32)).toNatClampNeg).toInt64 <<< ((32 : Int32).toInt64 &&& 63)) ||| ((xs (v3 + (2 : Int32)).toNatClampNeg).toInt64 &&& (4294967295 : Int64))) (xs (v3 + (3 : Int32)).toNatClampNeg) (xs (v3 + (4 : Int32)).toNatClampNeg) M (fun r74 M73 => (vp_in (v3 + (1 : Int32)) L ∧ (vp_in (v3 + (2 : Int32)) L ∧ (vp_in (v3 + (3 : Int32)) L ∧ (vp_in (v3 + (4 : Int32)) L ∧ (wX8_seen (((xs (v3 + (1 : Int32)).toNatClampNeg).toInt64 <<< ((32 : Int32).toInt64 &&& 63)) ||| ((xs (v3 + (2 : Int32)).toNatClampNeg).toInt64 &&& (4294967295 : Int64))) (xs (v3 + (3 : Int32)).toNatClampNeg) (xs (v3 + (4 : Int32)).toNatClampNeg) M73 (fun r76 M75 => ((r74 = r76 → wL_1006 L xs (wL_18 L xs n) v3 M75) ∧ (¬ r74 = r76 → False))))))))))))))) ∧ (¬ ((xs v3.toNatClampNeg) &&& (31 : Int32)) = (18 : Int32) → ((((xs v3.toNatClampNeg) &&& (31 : Int32)) = (19 : Int32) → (wX7_forget M (fun r78 M77 => (wX8_forget M77 (fun r80 M79 => ((r78 = r80 → wL_1006 L xs (wL_18 L xs n) v3 M79) ∧ (¬ r78 = r80 → False))))))) ∧ (¬ ((xs v3.toNatClampNeg) &&& (31 : Int32)) = (19 : Int32) → ((((xs v3.toNatClampNeg) &&& (31 : Int32)) = (20 : Int32) → (wX7_so M (fun r82 M81 => (wX8_so M81 (fun r84 M83 => ((r82 = r84 → wL_1006 L xs (wL_18 L xs n) v3 M83) ∧ (¬ r82 = r84 → False))))))) ∧ (¬ ((xs v3.toNatClampNeg) &&& (31 : Int32)) = (20 : Int32) → ((((xs v3.toNatClampNeg) &&& (31 : Int32)) = (21 : Int32) → (vp_in (v3 + (1 : Int32)) L ∧ (wX7_sure (xs (v3 + (1 : Int32)).toNatClampNeg) M (fun r86 M85 => (vp_in (v3 + (1 : Int32)) L ∧ (wX8_sure (xs (v3 + (1 : Int32)).toNatClampNeg) M85 (fun r88 M87 => ((r86 = r88 → wL_1006 L xs (wL_18 L xs n) v3 M87) ∧ (¬ r86 = r88 → False))))))))) ∧ (¬ ((xs v3.toNatClampNeg) &&& (31 : Int32)) = (21 : Int32) → ((((xs v3.toNatClampNeg) &&& (31 : Int32)) = (22 : Int32) → (vp_in (v3 + (1 : Int32)) L ∧ (vp_in (v3 + (2 : Int32)) L ∧ (wX7_lacks (xs (v3 + (1 : Int32)).toNatClampNeg) (xs (v3 + (2 : Int32)).toNatClampNeg) M (fun r90 M89 => (vp_in (v3 + (1 : Int32)) L ∧ (vp_in (v3 + (2 : Int32)) L ∧ (wX8_lacks (xs (v3 + (1 : Int32)).toNatClampNeg) (xs (v3 + (2 : Int32)).toNatClampNeg) M89 (fun r92 M91 => ((r90 = r92 → wL_1006 L xs (wL_18 L xs n) v3 M91) ∧ (¬ r90 = r92 → False))))))))))) ∧ (¬ ((xs v3.toNatClampNeg) &&& (31 : Int32)) = (22 : Int32) → ((((xs v3.toNatClampNeg) &&& (31 : Int32)) = (23 : Int32) → (vp_in (v3 + (1 : Int32)) L ∧ (vp_in (v3 + (2 : Int32)) L ∧ (vp_in (v3 + (3 : Int32)) L ∧ (wX7_notice (xs (v3 + (1 : Int32)).toNatClampNeg) (xs (v3 + (2 : Int32)).toNatClampNeg) (xs (v3 + (3 : Int32)).toNatClampNeg) M (fun r94 M93 => (vp_in (v3 + (1 : Int32)) L ∧ (vp_in (v3 + (2 : Int32)) L ∧ (vp_in (v3 + (3 : Int32)) L ∧ (wX8_notice (xs (v3 + (1 : Int32)).toNatClampNeg) (xs (v3 + (2 : Int32)).toNatClampNeg) (xs (v3 + (3 : Int32)).toNatClampNeg) M93 (fun r96 M95 => ((r94 = r96 → wL_1006 L xs (wL_18 L xs n) v3 M95) ∧ (¬ r94 = r96 → False))))))))))))) ∧ (¬ ((xs v3.toNatClampNeg) &&& (31 : Int32)) = (23 : Int32) → ((((xs v3.toNatClampNeg) &&& (31 : Int32)) = (24 : Int32) → (vp_in (v3 + (1 : Int32)) L ∧ (vp_in (v3 + (2 : Int32)) L ∧ (wX7_pleased (xs (v3 + (1 : Int32)).toNatClampNeg) (xs (v3 + (2 : Int32)).toNatClampNeg) M (fun r98 M97 => (vp_in (v3 + (1 : Int32)) L ∧ (vp_in (v3 + (2 : Int32)) L ∧ (wX8_pleased (xs (v3 + (1 : Int32)).toNatClampNeg) (xs (v3 + (2 : Int32)).toNatClampNeg) M97 (fun r100 M99 => ((r98 = r100 → wL_1006 L xs (wL_18 L xs n) v3 M99) ∧ (¬ r98 = r100 → False))))))))))) ∧ (¬ ((xs v3.toNatClampNeg) &&& (31 : Int32)) = (24 : Int32) → ((((xs v3.toNatClampNeg) &&& (31 : Int32)) = (25 : Int32) → (wX7_keep M (fun r102 M101 => (wX8_keep M101 (fun r104 M103 => ((r102 = r104 → wL_1006 L xs (wL_18 L xs n) v3 M103) ∧ (¬ r102 = r104 → False))))))) ∧ (¬ ((xs v3.toNatClampNeg) &&& (31 : Int32)) = (25 : Int32) → ((((xs v3.toNatClampNeg) &&& (31 : Int32)) = (26 : Int32) → (wX7_back M (fun r106 M105 => (wX8_back M105 (fun r108 M107 => ((r106 = r108 → wL_1006 L xs (wL_18 L xs n) v3 M107) ∧ (¬ r106 = r108 → False))))))) ∧ (¬ ((xs v3.toNatClampNeg) &&& (31 : Int32)) = (26 : Int32) → ((((xs v3.toNatClampNeg) &&& (31 : Int32)) = (27 : Int32) → (vp_in (v3 + (1 : Int32)) L ∧ (wX7_count (xs (v3 + (1 : Int32)).toNatClampNeg) M (fun r110 M109 => (vp_in (v3 + (1 : Int32)) L ∧ (wX8_count (xs (v3 + (1 : Int32)).toNatClampNeg) M109 (fun r112 M111 => ((r110 = r112 → wL_1006 L xs (wL_18 L xs n) v3 M111) ∧ (¬ r110 = r112 → False))))))))) ∧ (¬ ((xs v3.toNatClampNeg) &&& (31 : Int32)) = (27 : Int32) → wL_1006 L xs (wL_18 L xs n) v3 M)))))))))))))))))))))))))))))))))))))))))))))))))))))))))))
set_option maxRecDepth 100000 in
set_option maxHeartbeats 40000000 in
theorem kL_1006 {p : Program} {e : Env} {s : State} {m : MethodId} {below : List Frame} {meth : Method} {c : Code} {b : Nat} {L : Nat} {xs : Nat → Int32} {G : gP} {cells slots : Nat} (l : Launch) (hL : L ≤ 2560) (hX : va_X b L xs s s.heap) (hbl : b < s.heap.size) (hbA : ¬ (fun q : Nat => s.heap.size ≤ q) b) (hg : gIn G) (hA : gCl G) (hB : gRf G) (C : Cx p s m #[Value.ref b] meth c G (fun q : Nat => s.heap.size ≤ q) cL_law 4 R_law) (hr : meth.sig.returnType = ret) (hlocks : meth.locks = false) (hA0 : c.code = code) (hcc : cells ≤ 600000) (hss : slots ≤ 7302250) (k_18 : Int32 → Mem → Prop) (hk_18 : ∀ (v3 : Int32) (M : Mem), k_18 v3 M → Wl p l e room_1 s m #[Value.ref b] below meth c (lw_Z below #[Value.ref b] s) G (fun q : Nat => s.heap.size ≤ q) 4 cells slots M 18 [(0, .ref b), (1, .ref (gAD G 0)), (2, .ref (gAD G 79)), (3, .int v3)] []) (v3 : Int32) (M : Mem) (h : wL_1006 L xs k_18 v3 M) : Wl p l e room_1 s m #[Value.ref b] below meth c (lw_Z below #[Value.ref b] s) G (fun q : Nat => s.heap.size ≤ q) 4 cells slots M 1006 [(0, .ref b), (1, .ref (gAD G 0)), (2, .ref (gAD G 79)), (3, .int v3)] [] := by
  have h : k_18 (v3 + (5 : Int32)) M := h
  refine wl_iinc (v := (v3 + (5 : Int32))) (lv' := [(3, .int (v3 + (5 : Int32))), (0, .ref b), (1, .ref (gAD G 0)), (2, .ref (gAD G 79))]) C dL_law_1006 3 rfl (by rfl) (by decide) rfl ?_
  refine wl_goto C (tgt := 18) dL_law_1009 (by decide) ?_
  refine wl_sub [1, 2, 3, 0] rfl ?_
  exact hk_18 (v3 + (5 : Int32)) M h
set_option maxRecDepth 100000 in
set_option maxHeartbeats 40000000 in
theorem kL_18 {p : Program} {e : Env} {s : State} {m : MethodId} {below : List Frame} {meth : Method} {c : Code} {b : Nat} {L : Nat} {xs : Nat → Int32} {G : gP} {cells slots : Nat} (l : Launch) (hL : L ≤ 2560) (hX : va_X b L xs s s.heap) (hbl : b < s.heap.size) (hbA : ¬ (fun q : Nat => s.heap.size ≤ q) b) (hg : gIn G) (hA : gCl G) (hB : gRf G) (C : Cx p s m #[Value.ref b] meth c G (fun q : Nat => s.heap.size ≤ q) cL_law 4 R_law) (hr : meth.sig.returnType = ret) (hlocks : meth.locks = false) (hA0 : c.code = code) (hcc : cells ≤ 600000) (hss : slots ≤ 7302250) : ∀ (n : Nat) (v3 : Int32) (M : Mem), wL_18 L xs n v3 M → Wl p l e room_1 s m #[Value.ref b] below meth c (lw_Z below #[Value.ref b] s) G (fun q : Nat => s.heap.size ≤ q) 4 cells slots M 18 [(0, .ref b), (1, .ref (gAD G 0)), (2, .ref (gAD G 79)), (3, .int v3)] [] := by
  intro n
  induction n with
  | zero => intro v3 M h; exact h.elim
  | succ n ih =>
    intro v3 M h
    have h : ((((Int32.ofNat L) - (5 : Int32)) < v3 → True) ∧ (¬ ((Int32.ofNat L) - (5 : Int32)) < v3 → (vp_in v3 L ∧ ((((xs v3.toNatClampNeg) &&& (31 : Int32)) = (0 : Int32) → (vp_in (v3 + (1 : Int32)) L ∧ (vp_in (v3 + (2 : Int32)) L ∧ (vp_in (v3 + (3 : Int32)) L ∧ (wX7_write (xs (v3 + (1 : Int32)).toNatClampNeg) (((xs (v3 + (2 : Int32)).toNatClampNeg).toInt64 <<< ((32 : Int32).toInt64 &&& 63)) ||| ((xs (v3 + (3 : Int32)).toNatClampNeg).toInt64 &&& (4294967295 : Int64))) M (fun r2 M1 => (vp_in (v3 + (1 : Int32)) L ∧ (vp_in (v3 + (2 : Int32)) L ∧ (vp_in (v3 + (3 : Int32)) L ∧ (wX8_write (xs (v3 + (1 : Int32)).toNatClampNeg) (((xs (v3 + (2 : Int32)).toNatClampNeg).toInt64 <<< ((32 : Int32).toInt64 &&& 63)) ||| ((xs (v3 + (3 : Int32)).toNatClampNeg).toInt64 &&& (4294967295 : Int64))) M1 (fun r4 M3 => ((r2 = r4 → wL_1006 L xs (wL_18 L xs n) v3 M3) ∧ (¬ r2 = r4 → False))))))))))))) ∧ (¬ ((xs v3.toNatClampNeg) &&& (31 : Int32)) = (0 : Int32) → ((((xs v3.toNatClampNeg) &&& (31 : Int32)) = (1 : Int32) → (wX7_wipe M (fun r6 M5 => (wX8_wipe M5 (fun r8 M7 => ((r6 = r8 → wL_1006 L xs (wL_18 L xs n) v3 M7) ∧ (¬ r6 = r8 → False))))))) ∧ (¬ ((xs v3.toNatClampNeg) &&& (31 : Int32)) = (1 : Int32) → ((((xs v3.toNatClampNeg) &&& (31 : Int32)) = (2 : Int32) → (wX7_fault M (fun r10 M9 => (wX8_fault M9 (fun r12 M11 => ((r10 = r12 → wL_1006 L xs (wL_18 L xs n) v3 M11) ∧ (¬ r10 = r12 → False))))))) ∧ (¬ ((xs v3.toNatClampNeg) &&& (31 : Int32)) = (2 : Int32) → ((((xs v3.toNatClampNeg) &&& (31 : Int32)) = (3 : Int32) → (wX7_lay M (fun r14 M13 => (wX8_lay M13 (fun r16 M15 => ((r14 = r16 → wL_1006 L xs (wL_18 L xs n) v3 M15) ∧ (¬ r14 = r16 → False))))))) ∧ (¬ ((xs v3.toNatClampNeg) &&& (31 : Int32)) = (3 : Int32) → ((((xs v3.toNatClampNeg) &&& (31 : Int32)) = (4 : Int32) → (vp_in (v3 + (1 : Int32)) L ∧ (vp_in (v3 + (2 : Int32)) L ∧ (wX7_leaf (xs (v3 + (1 : Int32)).toNatClampNeg) (xs (v3 + (2 : Int32)).toNatClampNeg) M (fun r18 M17 => (vp_in (v3 + (1 : Int32)) L ∧ (vp_in (v3 + (2 : Int32)) L ∧ (wX8_leaf (xs (v3 + (1 : Int32)).toNatClampNeg) (xs (v3 + (2 : Int32)).toNatClampNeg) M17 (fun r20 M19 => ((r18 = r20 → wL_1006 L xs (wL_18 L xs n) v3 M19) ∧ (¬ r18 = r20 → False))))))))))) ∧ (¬ ((xs v3.toNatClampNeg) &&& (31 : Int32)) = (4 : Int32) → ((((xs v3.toNatClampNeg) &&& (31 : Int32)) = (5 : Int32) → (vp_in (v3 + (1 : Int32)) L ∧ (wX7_where (xs (v3 + (1 : Int32)).toNatClampNeg) M (fun r22 M21 => (vp_in (v3 + (1 : Int32)) L ∧ (wX8_where (xs (v3 + (1 : Int32)).toNatClampNeg) M21 (fun r24 M23 => ((r22 = r24 → wL_1006 L xs (wL_18 L xs n) v3 M23) ∧ (¬ r22 = r24 → False))))))))) ∧ (¬ ((xs v3.toNatClampNeg) &&& (31 : Int32)) = (5 : Int32) → ((((xs v3.toNatClampNeg) &&& (31 : Int32)) = (6 : Int32) → (wX7_read M (fun r26 M25 => (wX8_read M25 (fun r28 M27 => ((r26 = r28 → wL_1006 L xs (wL_18 L xs n) v3 M27) ∧ (¬ r26 = r28 → False))))))) ∧ (¬ ((xs v3.toNatClampNeg) &&& (31 : Int32)) = (6 : Int32) → ((((xs v3.toNatClampNeg) &&& (31 : Int32)) = (7 : Int32) → (wX7_finish M (fun r30 M29 => (wX8_finish M29 (fun r32 M31 => ((r30 = r32 → wL_1006 L xs (wL_18 L xs n) v3 M31) ∧ (¬ r30 = r32 → False))))))) ∧ (¬ ((xs v3.toNatClampNeg) &&& (31 : Int32)) = (7 : Int32) → ((((xs v3.toNatClampNeg) &&& (31 : Int32)) = (8 : Int32) → (vp_in (v3 + (1 : Int32)) L ∧ (vp_in (v3 + (2 : Int32)) L ∧ (wX7_change (xs (v3 + (1 : Int32)).toNatClampNeg) (xs (v3 + (2 : Int32)).toNatClampNeg) M (fun r34 M33 => (vp_in (v3 + (1 : Int32)) L ∧ (vp_in (v3 + (2 : Int32)) L ∧ (wX8_change (xs (v3 + (1 : Int32)).toNatClampNeg) (xs (v3 + (2 : Int32)).toNatClampNeg) M33 (fun r36 M35 => ((r34 = r36 → wL_1006 L xs (wL_18 L xs n) v3 M35) ∧ (¬ r34 = r36 → False))))))))))) ∧ (¬ ((xs v3.toNatClampNeg) &&& (31 : Int32)) = (8 : Int32) → ((((xs v3.toNatClampNeg) &&& (31 : Int32)) = (9 : Int32) → (vp_in (v3 + (1 : Int32)) L ∧ (wX7_drop (xs (v3 + (1 : Int32)).toNatClampNeg) M (fun r38 M37 => (vp_in (v3 + (1 : Int32)) L ∧ (wX8_drop (xs (v3 + (1 : Int32)).toNatClampNeg) M37 (fun r40 M39 => ((r38 = r40 → wL_1006 L xs (wL_18 L xs n) v3 M39) ∧ (¬ r38 = r40 → False))))))))) ∧ (¬ ((xs v3.toNatClampNeg) &&& (31 : Int32)) = (9 : Int32) → ((((xs v3.toNatClampNeg) &&& (31 : Int32)) = (10 : Int32) → (vp_in (v3 + (1 : Int32)) L ∧ (vp_in (v3 + (2 : Int32)) L ∧ (vp_in (v3 + (3 : Int32)) L ∧ (wX7_has (((xs (v3 + (1 : Int32)).toNatClampNeg).toInt64 <<< ((32 : Int32).toInt64 &&& 63)) ||| ((xs (v3 + (2 : Int32)).toNatClampNeg).toInt64 &&& (4294967295 : Int64))) (xs (v3 + (3 : Int32)).toNatClampNeg) M (fun r42 M41 => (vp_in (v3 + (1 : Int32)) L ∧ (vp_in (v3 + (2 : Int32)) L ∧ (vp_in (v3 + (3 : Int32)) L ∧ (wX8_has (((xs (v3 + (1 : Int32)).toNatClampNeg).toInt64 <<< ((32 : Int32).toInt64 &&& 63)) ||| ((xs (v3 + (2 : Int32)).toNatClampNeg).toInt64 &&& (4294967295 : Int64))) (xs (v3 + (3 : Int32)).toNatClampNeg) M41 (fun r44 M43 => ((r42 = r44 → wL_1006 L xs (wL_18 L xs n) v3 M43) ∧ (¬ r42 = r44 → False))))))))))))) ∧ (¬ ((xs v3.toNatClampNeg) &&& (31 : Int32)) = (10 : Int32) → ((((xs v3.toNatClampNeg) &&& (31 : Int32)) = (11 : Int32) → (vp_in (v3 + (1 : Int32)) L ∧ (vp_in (v3 + (2 : Int32)) L ∧ (wX7_leaves (((xs (v3 + (1 : Int32)).toNatClampNeg).toInt64 <<< ((32 : Int32).toInt64 &&& 63)) ||| ((xs (v3 + (2 : Int32)).toNatClampNeg).toInt64 &&& (4294967295 : Int64))) M (fun r46 M45 => (vp_in (v3 + (1 : Int32)) L ∧ (vp_in (v3 + (2 : Int32)) L ∧ (wX8_leaves (((xs (v3 + (1 : Int32)).toNatClampNeg).toInt64 <<< ((32 : Int32).toInt64 &&& 63)) ||| ((xs (v3 + (2 : Int32)).toNatClampNeg).toInt64 &&& (4294967295 : Int64))) M45 (fun r48 M47 => (((lg_cmp r46 r48) = 0 → wL_1006 L xs (wL_18 L xs n) v3 M47) ∧ (¬ (lg_cmp r46 r48) = 0 → False))))))))))) ∧ (¬ ((xs v3.toNatClampNeg) &&& (31 : Int32)) = (11 : Int32) → ((((xs v3.toNatClampNeg) &&& (31 : Int32)) = (12 : Int32) → (wX7_period M (fun r50 M49 => (wX8_period M49 (fun r52 M51 => ((r50 = r52 → wL_1006 L xs (wL_18 L xs n) v3 M51) ∧ (¬ r50 = r52 → False))))))) ∧ (¬ ((xs v3.toNatClampNeg) &&& (31 : Int32)) = (12 : Int32) → ((((xs v3.toNatClampNeg) &&& (31 : Int32)) = (13 : Int32) → (vp_in (v3 + (1 : Int32)) L ∧ (wX7_ever (xs (v3 + (1 : Int32)).toNatClampNeg) M (fun r54 M53 => (vp_in (v3 + (1 : Int32)) L ∧ (wX8_ever (xs (v3 + (1 : Int32)).toNatClampNeg) M53 (fun r56 M55 => (((lg_cmp r54 r56) = 0 → wL_1006 L xs (wL_18 L xs n) v3 M55) ∧ (¬ (lg_cmp r54 r56) = 0 → False))))))))) ∧ (¬ ((xs v3.toNatClampNeg) &&& (31 : Int32)) = (13 : Int32) → ((((xs v3.toNatClampNeg) &&& (31 : Int32)) = (14 : Int32) → (vp_in (v3 + (1 : Int32)) L ∧ (vp_in (v3 + (2 : Int32)) L ∧ (wX7_right (((xs (v3 + (1 : Int32)).toNatClampNeg).toInt64 <<< ((32 : Int32).toInt64 &&& 63)) ||| ((xs (v3 + (2 : Int32)).toNatClampNeg).toInt64 &&& (4294967295 : Int64))) M (fun r58 M57 => (vp_in (v3 + (1 : Int32)) L ∧ (vp_in (v3 + (2 : Int32)) L ∧ (wX8_right (((xs (v3 + (1 : Int32)).toNatClampNeg).toInt64 <<< ((32 : Int32).toInt64 &&& 63)) ||| ((xs (v3 + (2 : Int32)).toNatClampNeg).toInt64 &&& (4294967295 : Int64))) M57 (fun r60 M59 => ((r58 = r60 → wL_1006 L xs (wL_18 L xs n) v3 M59) ∧ (¬ r58 = r60 → False))))))))))) ∧ (¬ ((xs v3.toNatClampNeg) &&& (31 : Int32)) = (14 : Int32) → ((((xs v3.toNatClampNeg) &&& (31 : Int32)) = (15 : Int32) → (vp_in (v3 + (1 : Int32)) L ∧ (vp_in (v3 + (2 : Int32)) L ∧ (vp_in (v3 + (3 : Int32)) L ∧ (wX7_order (((xs (v3 + (1 : Int32)).toNatClampNeg).toInt64 <<< ((32 : Int32).toInt64 &&& 63)) ||| ((xs (v3 + (2 : Int32)).toNatClampNeg).toInt64 &&& (4294967295 : Int64))) (xs (v3 + (3 : Int32)).toNatClampNeg) M (fun r62 M61 => (vp_in (v3 + (1 : Int32)) L ∧ (vp_in (v3 + (2 : Int32)) L ∧ (vp_in (v3 + (3 : Int32)) L ∧ (wX8_order (((xs (v3 + (1 : Int32)).toNatClampNeg).toInt64 <<< ((32 : Int32).toInt64 &&& 63)) ||| ((xs (v3 + (2 : Int32)).toNatClampNeg).toInt64 &&& (4294967295 : Int64))) (xs (v3 + (3 : Int32)).toNatClampNeg) M61 (fun r64 M63 => ((r62 = r64 → wL_1006 L xs (wL_18 L xs n) v3 M63) ∧ (¬ r62 = r64 → False))))))))))))) ∧ (¬ ((xs v3.toNatClampNeg) &&& (31 : Int32)) = (15 : Int32) → ((((xs v3.toNatClampNeg) &&& (31 : Int32)) = (16 : Int32) → (vp_in (v3 + (1 : Int32)) L ∧ (vp_in (v3 + (2 : Int32)) L ∧ (wX7_shows (xs (v3 + (1 : Int32)).toNatClampNeg) (xs (v3 + (2 : Int32)).toNatClampNeg) M (fun r66 M65 => (vp_in (v3 + (1 : Int32)) L ∧ (vp_in (v3 + (2 : Int32)) L ∧ (wX8_shows (xs (v3 + (1 : Int32)).toNatClampNeg) (xs (v3 + (2 : Int32)).toNatClampNeg) M65 (fun r68 M67 => ((r66 = r68 → wL_1006 L xs (wL_18 L xs n) v3 M67) ∧ (¬ r66 = r68 → False))))))))))) ∧ (¬ ((xs v3.toNatClampNeg) &&& (31 : Int32)) = (16 : Int32) → ((((xs v3.toNatClampNeg) &&& (31 : Int32)) = (17 : Int32) → (vp_in (v3 + (1 : Int32)) L ∧ (wX7_quickest (xs (v3 + (1 : Int32)).toNatClampNeg) M (fun r70 M69 => (vp_in (v3 + (1 : Int32)) L ∧ (wX8_quickest (xs (v3 + (1 : Int32)).toNatClampNeg) M69 (fun r72 M71 => ((r70 = r72 → wL_1006 L xs (wL_18 L xs n) v3 M71) ∧ (¬ r70 = r72 → False))))))))) ∧ (¬ ((xs v3.toNatClampNeg) &&& (31 : Int32)) = (17 : Int32) → ((((xs v3.toNatClampNeg) &&& (31 : Int32)) = (18 : Int32) → (vp_in (v3 + (1 : Int32)) L ∧ (vp_in (v3 + (2 : Int32)) L ∧ (vp_in (v3 + (3 : Int32)) L ∧ (vp_in (v3 + (4 : Int32)) L ∧ (wX7_seen (((xs (v3 + (1 : Int32)).toNatClampNeg).toInt64 <<< ((32 : Int32).toInt64 &&& 63)) ||| ((xs (v3 + (2 : Int32)).toNatClampNeg).toInt64 &&& (4294967295 : Int64))) (xs (v3 + (3 : Int32)).toNatClampNeg) (xs (v3 + (4 : Int32)).toNatClampNeg) M (fun r74 M73 => (vp_in (v3 + (1 : Int32)) L ∧ (vp_in (v3 + (2 : Int32)) L ∧ (vp_in (v3 + (3 : Int32)) L ∧ (vp_in (v3 + (4 : Int32)) L ∧ (wX8_seen (((xs (v3 + (1 : Int32)).toNatClampNeg).toInt64 <<< ((32 : Int32).toInt64 &&& 63)) ||| ((xs (v3 + (2 : Int32)).toNatClampNeg).toInt64 &&& (4294967295 : Int64))) (xs (v3 + (3 : Int32)).toNatClampNeg) (xs (v3 + (4 : Int32)).toNatClampNeg) M73 (fun r76 M75 => ((r74 = r76 → wL_1006 L xs (wL_18 L xs n) v3 M75) ∧ (¬ r74 = r76 → False))))))))))))))) ∧ (¬ ((xs v3.toNatClampNeg) &&& (31 : Int32)) = (18 : Int32) → ((((xs v3.toNatClampNeg) &&& (31 : Int32)) = (19 : Int32) → (wX7_forget M (fun r78 M77 => (wX8_forget M77 (fun r80 M79 => ((r78 = r80 → wL_1006 L xs (wL_18 L xs n) v3 M79) ∧ (¬ r78 = r80 → False))))))) ∧ (¬ ((xs v3.toNatClampNeg) &&& (31 : Int32)) = (19 : Int32) → ((((xs v3.toNatClampNeg) &&& (31 : Int32)) = (20 : Int32) → (wX7_so M (fun r82 M81 => (wX8_so M81 (fun r84 M83 => ((r82 = r84 → wL_1006 L xs (wL_18 L xs n) v3 M83) ∧ (¬ r82 = r84 → False))))))) ∧ (¬ ((xs v3.toNatClampNeg) &&& (31 : Int32)) = (20 : Int32) → ((((xs v3.toNatClampNeg) &&& (31 : Int32)) = (21 : Int32) → (vp_in (v3 + (1 : Int32)) L ∧ (wX7_sure (xs (v3 + (1 : Int32)).toNatClampNeg) M (fun r86 M85 => (vp_in (v3 + (1 : Int32)) L ∧ (wX8_sure (xs (v3 + (1 : Int32)).toNatClampNeg) M85 (fun r88 M87 => ((r86 = r88 → wL_1006 L xs (wL_18 L xs n) v3 M87) ∧ (¬ r86 = r88 → False))))))))) ∧ (¬ ((xs v3.toNatClampNeg) &&& (31 : Int32)) = (21 : Int32) → ((((xs v3.toNatClampNeg) &&& (31 : Int32)) = (22 : Int32) → (vp_in (v3 + (1 : Int32)) L ∧ (vp_in (v3 + (2 : Int32)) L ∧ (wX7_lacks (xs (v3 + (1 : Int32)).toNatClampNeg) (xs (v3 + (2 : Int32)).toNatClampNeg) M (fun r90 M89 => (vp_in (v3 + (1 : Int32)) L ∧ (vp_in (v3 + (2 : Int32)) L ∧ (wX8_lacks (xs (v3 + (1 : Int32)).toNatClampNeg) (xs (v3 + (2 : Int32)).toNatClampNeg) M89 (fun r92 M91 => ((r90 = r92 → wL_1006 L xs (wL_18 L xs n) v3 M91) ∧ (¬ r90 = r92 → False))))))))))) ∧ (¬ ((xs v3.toNatClampNeg) &&& (31 : Int32)) = (22 : Int32) → ((((xs v3.toNatClampNeg) &&& (31 : Int32)) = (23 : Int32) → (vp_in (v3 + (1 : Int32)) L ∧ (vp_in (v3 + (2 : Int32)) L ∧ (vp_in (v3 + (3 : Int32)) L ∧ (wX7_notice (xs (v3 + (1 : Int32)).toNatClampNeg) (xs (v3 + (2 : Int32)).toNatClampNeg) (xs (v3 + (3 : Int32)).toNatClampNeg) M (fun r94 M93 => (vp_in (v3 + (1 : Int32)) L ∧ (vp_in (v3 + (2 : Int32)) L ∧ (vp_in (v3 + (3 : Int32)) L ∧ (wX8_notice (xs (v3 + (1 : Int32)).toNatClampNeg) (xs (v3 + (2 : Int32)).toNatClampNeg) (xs (v3 + (3 : Int32)).toNatClampNeg) M93 (fun r96 M95 => ((r94 = r96 → wL_1006 L xs (wL_18 L xs n) v3 M95) ∧ (¬ r94 = r96 → False))))))))))))) ∧ (¬ ((xs v3.toNatClampNeg) &&& (31 : Int32)) = (23 : Int32) → ((((xs v3.toNatClampNeg) &&& (31 : Int32)) = (24 : Int32) → (vp_in (v3 + (1 : Int32)) L ∧ (vp_in (v3 + (2 : Int32)) L ∧ (wX7_pleased (xs (v3 + (1 : Int32)).toNatClampNeg) (xs (v3 + (2 : Int32)).toNatClampNeg) M (fun r98 M97 => (vp_in (v3 + (1 : Int32)) L ∧ (vp_in (v3 + (2 : Int32)) L ∧ (wX8_pleased (xs (v3 + (1 : Int32)).toNatClampNeg) (xs (v3 + (2 : Int32)).toNatClampNeg) M97 (fun r100 M99 => ((r98 = r100 → wL_1006 L xs (wL_18 L xs n) v3 M99) ∧ (¬ r98 = r100 → False))))))))))) ∧ (¬ ((xs v3.toNatClampNeg) &&& (31 : Int32)) = (24 : Int32) → ((((xs v3.toNatClampNeg) &&& (31 : Int32)) = (25 : Int32) → (wX7_keep M (fun r102 M101 => (wX8_keep M101 (fun r104 M103 => ((r102 = r104 → wL_1006 L xs (wL_18 L xs n) v3 M103) ∧ (¬ r102 = r104 → False))))))) ∧ (¬ ((xs v3.toNatClampNeg) &&& (31 : Int32)) = (25 : Int32) → ((((xs v3.toNatClampNeg) &&& (31 : Int32)) = (26 : Int32) → (wX7_back M (fun r106 M105 => (wX8_back M105 (fun r108 M107 => ((r106 = r108 → wL_1006 L xs (wL_18 L xs n) v3 M107) ∧ (¬ r106 = r108 → False))))))) ∧ (¬ ((xs v3.toNatClampNeg) &&& (31 : Int32)) = (26 : Int32) → ((((xs v3.toNatClampNeg) &&& (31 : Int32)) = (27 : Int32) → (vp_in (v3 + (1 : Int32)) L ∧ (wX7_count (xs (v3 + (1 : Int32)).toNatClampNeg) M (fun r110 M109 => (vp_in (v3 + (1 : Int32)) L ∧ (wX8_count (xs (v3 + (1 : Int32)).toNatClampNeg) M109 (fun r112 M111 => ((r110 = r112 → wL_1006 L xs (wL_18 L xs n) v3 M111) ∧ (¬ r110 = r112 → False))))))))) ∧ (¬ ((xs v3.toNatClampNeg) &&& (31 : Int32)) = (27 : Int32) → wL_1006 L xs (wL_18 L xs n) v3 M))))))))))))))))))))))))))))))))))))))))))))))))))))))))))) := h
    refine wl_iload_n C dL_law_18 3 rfl ?_
    refine wl_aload_n C dL_law_19 0 rfl ?_
    refine wl_slen C hX hbl hbA dL_law_20 ?_
    refine wl_iconst (v := 5) C dL_law_21 (by decide) ?_
    refine wl_isub C dL_law_22 ?_
    refine wl_icmp_gt C (tgt := 1012) dL_law_23 (by decide) (fun hc => ?_) (fun hc => ?_)
    · have h := h.1 hc
      exact wl_lawend C hr hlocks hA0 hcc hss dL_law_1012 dL_law_1013
    · have h := h.2 hc
      refine wl_aload_n C dL_law_26 0 rfl ?_
      refine wl_iload_n C dL_law_27 3 rfl ?_
      refine wl_sld C hX hbl hbA h.1 dL_law_28 ?_
      have h := h.2
      refine wl_bipush (v := 31) C dL_law_29 (by decide) ?_
      refine wl_iand C dL_law_31 ?_
      by_cases ht0 : ((xs v3.toNatClampNeg) &&& (31 : Int32)) = (0 : Int32)
      · have h := h.1 ht0
        refine wl_tabIn C (tgt := 160) (0 : Int32) ht0 dL_law_32 (by decide) (by decide) rfl (by decide) ?_
        refine wl_aload_n C dL_law_160 1 rfl ?_
        refine wl_aload_n C dL_law_161 0 rfl ?_
        refine wl_iload_n C dL_law_162 3 rfl ?_
        refine wl_iconst (v := 1) C dL_law_163 (by decide) ?_
        refine wl_iadd C dL_law_164 ?_
        refine wl_sld C hX hbl hbA h.1 dL_law_165 ?_
        have h := h.2
        refine wl_aload_n C dL_law_166 0 rfl ?_
        refine wl_iload_n C dL_law_167 3 rfl ?_
        refine wl_iconst (v := 2) C dL_law_168 (by decide) ?_
        refine wl_iadd C dL_law_169 ?_
        refine wl_sld C hX hbl hbA h.1 dL_law_170 ?_
        have h := h.2
        refine wl_i2l C dL_law_171 ?_
        refine wl_bipush (v := 32) C dL_law_172 (by decide) ?_
        refine wl_lshl C dL_law_174 ?_
        refine wl_aload_n C dL_law_175 0 rfl ?_
        refine wl_iload_n C dL_law_176 3 rfl ?_
        refine wl_iconst (v := 3) C dL_law_177 (by decide) ?_
        refine wl_iadd C dL_law_178 ?_
        refine wl_sld C hX hbl hbA h.1 dL_law_179 ?_
        have h := h.2
        refine wl_i2l C dL_law_180 ?_
        refine wl_ldc2 C tw_846 dL_law_181 ?_
        refine wl_land C dL_law_184 ?_
        refine wl_lor C dL_law_185 ?_
        refine wl_callVi C (cX7_write_M l G hg hA (xs (v3 + (1 : Int32)).toNatClampNeg) (((xs (v3 + (2 : Int32)).toNatClampNeg).toInt64 <<< ((32 : Int32).toInt64 &&& 63)) ||| ((xs (v3 + (3 : Int32)).toNatClampNeg).toInt64 &&& (4294967295 : Int64))) M _) h cw_L_15 hd_X7_write ⟨rfl, rfl⟩ ⟨by decide, by decide⟩ (gic_7 hA kq_0) (gc_k kq_0) rfl (As := [.int (xs (v3 + (1 : Int32)).toNatClampNeg), .long (((xs (v3 + (2 : Int32)).toNatClampNeg).toInt64 <<< ((32 : Int32).toInt64 &&& 63)) ||| ((xs (v3 + (3 : Int32)).toNatClampNeg).toInt64 &&& (4294967295 : Int64)))]) (rest := []) rfl (Nat.le_of_ble_eq_true rfl) ⟨hcc, hss⟩ rfl dL_law_186 (fun r2 M1 h => ?_)
        refine wl_aload_n C dL_law_189 2 rfl ?_
        refine wl_aload_n C dL_law_190 0 rfl ?_
        refine wl_iload_n C dL_law_191 3 rfl ?_
        refine wl_iconst (v := 1) C dL_law_192 (by decide) ?_
        refine wl_iadd C dL_law_193 ?_
        refine wl_sld C hX hbl hbA h.1 dL_law_194 ?_
        have h := h.2
        refine wl_aload_n C dL_law_195 0 rfl ?_
        refine wl_iload_n C dL_law_196 3 rfl ?_
        refine wl_iconst (v := 2) C dL_law_197 (by decide) ?_
        refine wl_iadd C dL_law_198 ?_
        refine wl_sld C hX hbl hbA h.1 dL_law_199 ?_
        have h := h.2
        refine wl_i2l C dL_law_200 ?_
        refine wl_bipush (v := 32) C dL_law_201 (by decide) ?_
        refine wl_lshl C dL_law_203 ?_
        refine wl_aload_n C dL_law_204 0 rfl ?_
        refine wl_iload_n C dL_law_205 3 rfl ?_
        refine wl_iconst (v := 3) C dL_law_206 (by decide) ?_
        refine wl_iadd C dL_law_207 ?_
        refine wl_sld C hX hbl hbA h.1 dL_law_208 ?_
        have h := h.2
        refine wl_i2l C dL_law_209 ?_
        refine wl_ldc2 C tw_846 dL_law_210 ?_
        refine wl_land C dL_law_213 ?_
        refine wl_lor C dL_law_214 ?_
        refine wl_callVi C (cX8_write_M l G hg hB (xs (v3 + (1 : Int32)).toNatClampNeg) (((xs (v3 + (2 : Int32)).toNatClampNeg).toInt64 <<< ((32 : Int32).toInt64 &&& 63)) ||| ((xs (v3 + (3 : Int32)).toNatClampNeg).toInt64 &&& (4294967295 : Int64))) M1 _) h cw_L_19 hd_X8_write ⟨rfl, rfl⟩ ⟨by decide, by decide⟩ (gir_8 hB kq_79) (gc_k kq_79) rfl (As := [.int (xs (v3 + (1 : Int32)).toNatClampNeg), .long (((xs (v3 + (2 : Int32)).toNatClampNeg).toInt64 <<< ((32 : Int32).toInt64 &&& 63)) ||| ((xs (v3 + (3 : Int32)).toNatClampNeg).toInt64 &&& (4294967295 : Int64)))]) (rest := [.int r2]) rfl (Nat.le_of_ble_eq_true rfl) ⟨hcc, hss⟩ rfl dL_law_215 (fun r4 M3 h => ?_)
        refine wl_icmp_eq C (tgt := 1006) dL_law_218 (by decide) (fun hc => ?_) (fun hc => ?_)
        · have h := h.1 hc
          refine wl_sub [0, 1, 2, 3] rfl ?_
          exact kL_1006 l hL hX hbl hbA hg hA hB C hr hlocks hA0 hcc hss (wL_18 L xs n) (ih) v3 M3 h
        · have h := h.2 hc
          exact h.elim
      · have h := h.2 ht0
        by_cases ht1 : ((xs v3.toNatClampNeg) &&& (31 : Int32)) = (1 : Int32)
        · have h := h.1 ht1
          refine wl_tabIn C (tgt := 223) (1 : Int32) ht1 dL_law_32 (by decide) (by decide) rfl (by decide) ?_
          refine wl_aload_n C dL_law_223 1 rfl ?_
          refine wl_callVi C (cX7_wipe_M l G hg hA M _) h cw_L_20 hd_X7_wipe ⟨rfl, rfl⟩ ⟨by decide, by decide⟩ (gic_7 hA kq_0) (gc_k kq_0) rfl (As := []) (rest := []) rfl (Nat.le_of_ble_eq_true rfl) ⟨hcc, hss⟩ rfl dL_law_224 (fun r6 M5 h => ?_)
          refine wl_aload_n C dL_law_227 2 rfl ?_
          refine wl_callVi C (cX8_wipe_M l G hg hB M5 _) h cw_L_24 hd_X8_wipe ⟨rfl, rfl⟩ ⟨by decide, by decide⟩ (gir_8 hB kq_79) (gc_k kq_79) rfl (As := []) (rest := [.int r6]) rfl (Nat.le_of_ble_eq_true rfl) ⟨hcc, hss⟩ rfl dL_law_228 (fun r8 M7 h => ?_)
          refine wl_icmp_eq C (tgt := 1006) dL_law_231 (by decide) (fun hc => ?_) (fun hc => ?_)
          · have h := h.1 hc
            refine wl_sub [0, 1, 2, 3] rfl ?_
            exact kL_1006 l hL hX hbl hbA hg hA hB C hr hlocks hA0 hcc hss (wL_18 L xs n) (ih) v3 M7 h
          · have h := h.2 hc
            exact h.elim
        · have h := h.2 ht1
          by_cases ht2 : ((xs v3.toNatClampNeg) &&& (31 : Int32)) = (2 : Int32)
          · have h := h.1 ht2
            refine wl_tabIn C (tgt := 236) (2 : Int32) ht2 dL_law_32 (by decide) (by decide) rfl (by decide) ?_
            refine wl_aload_n C dL_law_236 1 rfl ?_
            refine wl_callVi C (cX7_fault_M l G hg hA M _) h cw_L_25 hd_X7_fault ⟨rfl, rfl⟩ ⟨by decide, by decide⟩ (gic_7 hA kq_0) (gc_k kq_0) rfl (As := []) (rest := []) rfl (Nat.le_of_ble_eq_true rfl) ⟨hcc, hss⟩ rfl dL_law_237 (fun r10 M9 h => ?_)
            refine wl_aload_n C dL_law_240 2 rfl ?_
            refine wl_callVi C (cX8_fault_M l G hg hB M9 _) h cw_L_28 hd_X8_fault ⟨rfl, rfl⟩ ⟨by decide, by decide⟩ (gir_8 hB kq_79) (gc_k kq_79) rfl (As := []) (rest := [.int r10]) rfl (Nat.le_of_ble_eq_true rfl) ⟨hcc, hss⟩ rfl dL_law_241 (fun r12 M11 h => ?_)
            refine wl_icmp_eq C (tgt := 1006) dL_law_244 (by decide) (fun hc => ?_) (fun hc => ?_)
            · have h := h.1 hc
              refine wl_sub [0, 1, 2, 3] rfl ?_
              exact kL_1006 l hL hX hbl hbA hg hA hB C hr hlocks hA0 hcc hss (wL_18 L xs n) (ih) v3 M11 h
            · have h := h.2 hc
              exact h.elim
          · have h := h.2 ht2
            by_cases ht3 : ((xs v3.toNatClampNeg) &&& (31 : Int32)) = (3 : Int32)
            · have h := h.1 ht3
              refine wl_tabIn C (tgt := 249) (3 : Int32) ht3 dL_law_32 (by decide) (by decide) rfl (by decide) ?_
              refine wl_aload_n C dL_law_249 1 rfl ?_
              refine wl_callVi C (cX7_lay_M l G hg hA M _) h cw_L_29 hd_X7_lay ⟨rfl, rfl⟩ ⟨by decide, by decide⟩ (gic_7 hA kq_0) (gc_k kq_0) rfl (As := []) (rest := []) rfl (Nat.le_of_ble_eq_true rfl) ⟨hcc, hss⟩ rfl dL_law_250 (fun r14 M13 h => ?_)
              refine wl_aload_n C dL_law_253 2 rfl ?_
              refine wl_callVi C (cX8_lay_M l G hg hB M13 _) h cw_L_32 hd_X8_lay ⟨rfl, rfl⟩ ⟨by decide, by decide⟩ (gir_8 hB kq_79) (gc_k kq_79) rfl (As := []) (rest := [.int r14]) rfl (Nat.le_of_ble_eq_true rfl) ⟨hcc, hss⟩ rfl dL_law_254 (fun r16 M15 h => ?_)
              refine wl_icmp_eq C (tgt := 1006) dL_law_257 (by decide) (fun hc => ?_) (fun hc => ?_)
              · have h := h.1 hc
                refine wl_sub [0, 1, 2, 3] rfl ?_
                exact kL_1006 l hL hX hbl hbA hg hA hB C hr hlocks hA0 hcc hss (wL_18 L xs n) (ih) v3 M15 h
              · have h := h.2 hc
                exact h.elim
            · have h := h.2 ht3
              by_cases ht4 : ((xs v3.toNatClampNeg) &&& (31 : Int32)) = (4 : Int32)
              · have h := h.1 ht4
                refine wl_tabIn C (tgt := 262) (4 : Int32) ht4 dL_law_32 (by decide) (by decide) rfl (by decide) ?_
                refine wl_aload_n C dL_law_262 1 rfl ?_
                refine wl_aload_n C dL_law_263 0 rfl ?_
                refine wl_iload_n C dL_law_264 3 rfl ?_
                refine wl_iconst (v := 1) C dL_law_265 (by decide) ?_
                refine wl_iadd C dL_law_266 ?_
                refine wl_sld C hX hbl hbA h.1 dL_law_267 ?_
                have h := h.2
                refine wl_aload_n C dL_law_268 0 rfl ?_
                refine wl_iload_n C dL_law_269 3 rfl ?_
                refine wl_iconst (v := 2) C dL_law_270 (by decide) ?_
                refine wl_iadd C dL_law_271 ?_
                refine wl_sld C hX hbl hbA h.1 dL_law_272 ?_
                have h := h.2
                refine wl_callVi C (cX7_leaf_M l G hg hA (xs (v3 + (1 : Int32)).toNatClampNeg) (xs (v3 + (2 : Int32)).toNatClampNeg) M _) h cw_L_33 hd_X7_leaf ⟨rfl, rfl⟩ ⟨by decide, by decide⟩ (gic_7 hA kq_0) (gc_k kq_0) rfl (As := [.int (xs (v3 + (1 : Int32)).toNatClampNeg), .int (xs (v3 + (2 : Int32)).toNatClampNeg)]) (rest := []) rfl (Nat.le_of_ble_eq_true rfl) ⟨hcc, hss⟩ rfl dL_law_273 (fun r18 M17 h => ?_)
                refine wl_aload_n C dL_law_276 2 rfl ?_
                refine wl_aload_n C dL_law_277 0 rfl ?_
                refine wl_iload_n C dL_law_278 3 rfl ?_
                refine wl_iconst (v := 1) C dL_law_279 (by decide) ?_
                refine wl_iadd C dL_law_280 ?_
                refine wl_sld C hX hbl hbA h.1 dL_law_281 ?_
                have h := h.2
                refine wl_aload_n C dL_law_282 0 rfl ?_
                refine wl_iload_n C dL_law_283 3 rfl ?_
                refine wl_iconst (v := 2) C dL_law_284 (by decide) ?_
                refine wl_iadd C dL_law_285 ?_
                refine wl_sld C hX hbl hbA h.1 dL_law_286 ?_
                have h := h.2
                refine wl_callVi C (cX8_leaf_M l G hg hB (xs (v3 + (1 : Int32)).toNatClampNeg) (xs (v3 + (2 : Int32)).toNatClampNeg) M17 _) h cw_L_37 hd_X8_leaf ⟨rfl, rfl⟩ ⟨by decide, by decide⟩ (gir_8 hB kq_79) (gc_k kq_79) rfl (As := [.int (xs (v3 + (1 : Int32)).toNatClampNeg), .int (xs (v3 + (2 : Int32)).toNatClampNeg)]) (rest := [.int r18]) rfl (Nat.le_of_ble_eq_true rfl) ⟨hcc, hss⟩ rfl dL_law_287 (fun r20 M19 h => ?_)
                refine wl_icmp_eq C (tgt := 1006) dL_law_290 (by decide) (fun hc => ?_) (fun hc => ?_)
                · have h := h.1 hc
                  refine wl_sub [0, 1, 2, 3] rfl ?_
                  exact kL_1006 l hL hX hbl hbA hg hA hB C hr hlocks hA0 hcc hss (wL_18 L xs n) (ih) v3 M19 h
                · have h := h.2 hc
                  exact h.elim
              · have h := h.2 ht4
                by_cases ht5 : ((xs v3.toNatClampNeg) &&& (31 : Int32)) = (5 : Int32)
                · have h := h.1 ht5
                  refine wl_tabIn C (tgt := 295) (5 : Int32) ht5 dL_law_32 (by decide) (by decide) rfl (by decide) ?_
                  refine wl_aload_n C dL_law_295 1 rfl ?_
                  refine wl_aload_n C dL_law_296 0 rfl ?_
                  refine wl_iload_n C dL_law_297 3 rfl ?_
                  refine wl_iconst (v := 1) C dL_law_298 (by decide) ?_
                  refine wl_iadd C dL_law_299 ?_
                  refine wl_sld C hX hbl hbA h.1 dL_law_300 ?_
                  have h := h.2
                  refine wl_callVi C (cX7_where_M l G hg hA (xs (v3 + (1 : Int32)).toNatClampNeg) M _) h cw_L_38 hd_X7_where ⟨rfl, rfl⟩ ⟨by decide, by decide⟩ (gic_7 hA kq_0) (gc_k kq_0) rfl (As := [.int (xs (v3 + (1 : Int32)).toNatClampNeg)]) (rest := []) rfl (Nat.le_of_ble_eq_true rfl) ⟨hcc, hss⟩ rfl dL_law_301 (fun r22 M21 h => ?_)
                  refine wl_aload_n C dL_law_304 2 rfl ?_
                  refine wl_aload_n C dL_law_305 0 rfl ?_
                  refine wl_iload_n C dL_law_306 3 rfl ?_
                  refine wl_iconst (v := 1) C dL_law_307 (by decide) ?_
                  refine wl_iadd C dL_law_308 ?_
                  refine wl_sld C hX hbl hbA h.1 dL_law_309 ?_
                  have h := h.2
                  refine wl_callVi C (cX8_where_M l G hg hB (xs (v3 + (1 : Int32)).toNatClampNeg) M21 _) h cw_L_42 hd_X8_where ⟨rfl, rfl⟩ ⟨by decide, by decide⟩ (gir_8 hB kq_79) (gc_k kq_79) rfl (As := [.int (xs (v3 + (1 : Int32)).toNatClampNeg)]) (rest := [.int r22]) rfl (Nat.le_of_ble_eq_true rfl) ⟨hcc, hss⟩ rfl dL_law_310 (fun r24 M23 h => ?_)
                  refine wl_icmp_eq C (tgt := 1006) dL_law_313 (by decide) (fun hc => ?_) (fun hc => ?_)
                  · have h := h.1 hc
                    refine wl_sub [0, 1, 2, 3] rfl ?_
                    exact kL_1006 l hL hX hbl hbA hg hA hB C hr hlocks hA0 hcc hss (wL_18 L xs n) (ih) v3 M23 h
                  · have h := h.2 hc
                    exact h.elim
                · have h := h.2 ht5
                  by_cases ht6 : ((xs v3.toNatClampNeg) &&& (31 : Int32)) = (6 : Int32)
                  · have h := h.1 ht6
                    refine wl_tabIn C (tgt := 318) (6 : Int32) ht6 dL_law_32 (by decide) (by decide) rfl (by decide) ?_
                    refine wl_aload_n C dL_law_318 1 rfl ?_
                    refine wl_callVi C (cX7_read_M l G hg hA M _) h cw_L_43 hd_X7_read ⟨rfl, rfl⟩ ⟨by decide, by decide⟩ (gic_7 hA kq_0) (gc_k kq_0) rfl (As := []) (rest := []) rfl (Nat.le_of_ble_eq_true rfl) ⟨hcc, hss⟩ rfl dL_law_319 (fun r26 M25 h => ?_)
                    refine wl_aload_n C dL_law_322 2 rfl ?_
                    refine wl_callVi C (cX8_read_M l G hg hB M25 _) h cw_L_46 hd_X8_read ⟨rfl, rfl⟩ ⟨by decide, by decide⟩ (gir_8 hB kq_79) (gc_k kq_79) rfl (As := []) (rest := [.int r26]) rfl (Nat.le_of_ble_eq_true rfl) ⟨hcc, hss⟩ rfl dL_law_323 (fun r28 M27 h => ?_)
                    refine wl_icmp_eq C (tgt := 1006) dL_law_326 (by decide) (fun hc => ?_) (fun hc => ?_)
                    · have h := h.1 hc
                      refine wl_sub [0, 1, 2, 3] rfl ?_
                      exact kL_1006 l hL hX hbl hbA hg hA hB C hr hlocks hA0 hcc hss (wL_18 L xs n) (ih) v3 M27 h
                    · have h := h.2 hc
                      exact h.elim
                  · have h := h.2 ht6
                    by_cases ht7 : ((xs v3.toNatClampNeg) &&& (31 : Int32)) = (7 : Int32)
                    · have h := h.1 ht7
                      refine wl_tabIn C (tgt := 331) (7 : Int32) ht7 dL_law_32 (by decide) (by decide) rfl (by decide) ?_
                      refine wl_aload_n C dL_law_331 1 rfl ?_
                      refine wl_callVi C (cX7_finish_M l G hg hA M _) h cw_L_47 hd_X7_finish ⟨rfl, rfl⟩ ⟨by decide, by decide⟩ (gic_7 hA kq_0) (gc_k kq_0) rfl (As := []) (rest := []) rfl (Nat.le_of_ble_eq_true rfl) ⟨hcc, hss⟩ rfl dL_law_332 (fun r30 M29 h => ?_)
                      refine wl_aload_n C dL_law_335 2 rfl ?_
                      refine wl_callVi C (cX8_finish_M l G hg hB M29 _) h cw_L_50 hd_X8_finish ⟨rfl, rfl⟩ ⟨by decide, by decide⟩ (gir_8 hB kq_79) (gc_k kq_79) rfl (As := []) (rest := [.int r30]) rfl (Nat.le_of_ble_eq_true rfl) ⟨hcc, hss⟩ rfl dL_law_336 (fun r32 M31 h => ?_)
                      refine wl_icmp_eq C (tgt := 1006) dL_law_339 (by decide) (fun hc => ?_) (fun hc => ?_)
                      · have h := h.1 hc
                        refine wl_sub [0, 1, 2, 3] rfl ?_
                        exact kL_1006 l hL hX hbl hbA hg hA hB C hr hlocks hA0 hcc hss (wL_18 L xs n) (ih) v3 M31 h
                      · have h := h.2 hc
                        exact h.elim
                    · have h := h.2 ht7
                      by_cases ht8 : ((xs v3.toNatClampNeg) &&& (31 : Int32)) = (8 : Int32)
                      · have h := h.1 ht8
                        refine wl_tabIn C (tgt := 344) (8 : Int32) ht8 dL_law_32 (by decide) (by decide) rfl (by decide) ?_
                        refine wl_aload_n C dL_law_344 1 rfl ?_
                        refine wl_aload_n C dL_law_345 0 rfl ?_
                        refine wl_iload_n C dL_law_346 3 rfl ?_
                        refine wl_iconst (v := 1) C dL_law_347 (by decide) ?_
                        refine wl_iadd C dL_law_348 ?_
                        refine wl_sld C hX hbl hbA h.1 dL_law_349 ?_
                        have h := h.2
                        refine wl_aload_n C dL_law_350 0 rfl ?_
                        refine wl_iload_n C dL_law_351 3 rfl ?_
                        refine wl_iconst (v := 2) C dL_law_352 (by decide) ?_
                        refine wl_iadd C dL_law_353 ?_
                        refine wl_sld C hX hbl hbA h.1 dL_law_354 ?_
                        have h := h.2
                        refine wl_callVi C (cX7_change_M l G hg hA (xs (v3 + (1 : Int32)).toNatClampNeg) (xs (v3 + (2 : Int32)).toNatClampNeg) M _) h cw_L_51 hd_X7_change ⟨rfl, rfl⟩ ⟨by decide, by decide⟩ (gic_7 hA kq_0) (gc_k kq_0) rfl (As := [.int (xs (v3 + (1 : Int32)).toNatClampNeg), .int (xs (v3 + (2 : Int32)).toNatClampNeg)]) (rest := []) rfl (Nat.le_of_ble_eq_true rfl) ⟨hcc, hss⟩ rfl dL_law_355 (fun r34 M33 h => ?_)
                        refine wl_aload_n C dL_law_358 2 rfl ?_
                        refine wl_aload_n C dL_law_359 0 rfl ?_
                        refine wl_iload_n C dL_law_360 3 rfl ?_
                        refine wl_iconst (v := 1) C dL_law_361 (by decide) ?_
                        refine wl_iadd C dL_law_362 ?_
                        refine wl_sld C hX hbl hbA h.1 dL_law_363 ?_
                        have h := h.2
                        refine wl_aload_n C dL_law_364 0 rfl ?_
                        refine wl_iload_n C dL_law_365 3 rfl ?_
                        refine wl_iconst (v := 2) C dL_law_366 (by decide) ?_
                        refine wl_iadd C dL_law_367 ?_
                        refine wl_sld C hX hbl hbA h.1 dL_law_368 ?_
                        have h := h.2
                        refine wl_callVi C (cX8_change_M l G hg hB (xs (v3 + (1 : Int32)).toNatClampNeg) (xs (v3 + (2 : Int32)).toNatClampNeg) M33 _) h cw_L_54 hd_X8_change ⟨rfl, rfl⟩ ⟨by decide, by decide⟩ (gir_8 hB kq_79) (gc_k kq_79) rfl (As := [.int (xs (v3 + (1 : Int32)).toNatClampNeg), .int (xs (v3 + (2 : Int32)).toNatClampNeg)]) (rest := [.int r34]) rfl (Nat.le_of_ble_eq_true rfl) ⟨hcc, hss⟩ rfl dL_law_369 (fun r36 M35 h => ?_)
                        refine wl_icmp_eq C (tgt := 1006) dL_law_372 (by decide) (fun hc => ?_) (fun hc => ?_)
                        · have h := h.1 hc
                          refine wl_sub [0, 1, 2, 3] rfl ?_
                          exact kL_1006 l hL hX hbl hbA hg hA hB C hr hlocks hA0 hcc hss (wL_18 L xs n) (ih) v3 M35 h
                        · have h := h.2 hc
                          exact h.elim
                      · have h := h.2 ht8
                        by_cases ht9 : ((xs v3.toNatClampNeg) &&& (31 : Int32)) = (9 : Int32)
                        · have h := h.1 ht9
                          refine wl_tabIn C (tgt := 377) (9 : Int32) ht9 dL_law_32 (by decide) (by decide) rfl (by decide) ?_
                          refine wl_aload_n C dL_law_377 1 rfl ?_
                          refine wl_aload_n C dL_law_378 0 rfl ?_
                          refine wl_iload_n C dL_law_379 3 rfl ?_
                          refine wl_iconst (v := 1) C dL_law_380 (by decide) ?_
                          refine wl_iadd C dL_law_381 ?_
                          refine wl_sld C hX hbl hbA h.1 dL_law_382 ?_
                          have h := h.2
                          refine wl_callVi C (cX7_drop_M l G hg hA (xs (v3 + (1 : Int32)).toNatClampNeg) M _) h cw_L_55 hd_X7_drop ⟨rfl, rfl⟩ ⟨by decide, by decide⟩ (gic_7 hA kq_0) (gc_k kq_0) rfl (As := [.int (xs (v3 + (1 : Int32)).toNatClampNeg)]) (rest := []) rfl (Nat.le_of_ble_eq_true rfl) ⟨hcc, hss⟩ rfl dL_law_383 (fun r38 M37 h => ?_)
                          refine wl_aload_n C dL_law_386 2 rfl ?_
                          refine wl_aload_n C dL_law_387 0 rfl ?_
                          refine wl_iload_n C dL_law_388 3 rfl ?_
                          refine wl_iconst (v := 1) C dL_law_389 (by decide) ?_
                          refine wl_iadd C dL_law_390 ?_
                          refine wl_sld C hX hbl hbA h.1 dL_law_391 ?_
                          have h := h.2
                          refine wl_callVi C (cX8_drop_M l G hg hB (xs (v3 + (1 : Int32)).toNatClampNeg) M37 _) h cw_L_58 hd_X8_drop ⟨rfl, rfl⟩ ⟨by decide, by decide⟩ (gir_8 hB kq_79) (gc_k kq_79) rfl (As := [.int (xs (v3 + (1 : Int32)).toNatClampNeg)]) (rest := [.int r38]) rfl (Nat.le_of_ble_eq_true rfl) ⟨hcc, hss⟩ rfl dL_law_392 (fun r40 M39 h => ?_)
                          refine wl_icmp_eq C (tgt := 1006) dL_law_395 (by decide) (fun hc => ?_) (fun hc => ?_)
                          · have h := h.1 hc
                            refine wl_sub [0, 1, 2, 3] rfl ?_
                            exact kL_1006 l hL hX hbl hbA hg hA hB C hr hlocks hA0 hcc hss (wL_18 L xs n) (ih) v3 M39 h
                          · have h := h.2 hc
                            exact h.elim
                        · have h := h.2 ht9
                          by_cases ht10 : ((xs v3.toNatClampNeg) &&& (31 : Int32)) = (10 : Int32)
                          · have h := h.1 ht10
                            refine wl_tabIn C (tgt := 400) (10 : Int32) ht10 dL_law_32 (by decide) (by decide) rfl (by decide) ?_
                            refine wl_aload_n C dL_law_400 1 rfl ?_
                            refine wl_aload_n C dL_law_401 0 rfl ?_
                            refine wl_iload_n C dL_law_402 3 rfl ?_
                            refine wl_iconst (v := 1) C dL_law_403 (by decide) ?_
                            refine wl_iadd C dL_law_404 ?_
                            refine wl_sld C hX hbl hbA h.1 dL_law_405 ?_
                            have h := h.2
                            refine wl_i2l C dL_law_406 ?_
                            refine wl_bipush (v := 32) C dL_law_407 (by decide) ?_
                            refine wl_lshl C dL_law_409 ?_
                            refine wl_aload_n C dL_law_410 0 rfl ?_
                            refine wl_iload_n C dL_law_411 3 rfl ?_
                            refine wl_iconst (v := 2) C dL_law_412 (by decide) ?_
                            refine wl_iadd C dL_law_413 ?_
                            refine wl_sld C hX hbl hbA h.1 dL_law_414 ?_
                            have h := h.2
                            refine wl_i2l C dL_law_415 ?_
                            refine wl_ldc2 C tw_846 dL_law_416 ?_
                            refine wl_land C dL_law_419 ?_
                            refine wl_lor C dL_law_420 ?_
                            refine wl_aload_n C dL_law_421 0 rfl ?_
                            refine wl_iload_n C dL_law_422 3 rfl ?_
                            refine wl_iconst (v := 3) C dL_law_423 (by decide) ?_
                            refine wl_iadd C dL_law_424 ?_
                            refine wl_sld C hX hbl hbA h.1 dL_law_425 ?_
                            have h := h.2
                            refine wl_callVi C (cX7_has_M l G hg hA (((xs (v3 + (1 : Int32)).toNatClampNeg).toInt64 <<< ((32 : Int32).toInt64 &&& 63)) ||| ((xs (v3 + (2 : Int32)).toNatClampNeg).toInt64 &&& (4294967295 : Int64))) (xs (v3 + (3 : Int32)).toNatClampNeg) M _) h cw_L_59 hd_X7_has ⟨rfl, rfl⟩ ⟨by decide, by decide⟩ (gic_7 hA kq_0) (gc_k kq_0) rfl (As := [.long (((xs (v3 + (1 : Int32)).toNatClampNeg).toInt64 <<< ((32 : Int32).toInt64 &&& 63)) ||| ((xs (v3 + (2 : Int32)).toNatClampNeg).toInt64 &&& (4294967295 : Int64))), .int (xs (v3 + (3 : Int32)).toNatClampNeg)]) (rest := []) rfl (Nat.le_of_ble_eq_true rfl) ⟨hcc, hss⟩ rfl dL_law_426 (fun r42 M41 h => ?_)
                            refine wl_aload_n C dL_law_429 2 rfl ?_
                            refine wl_aload_n C dL_law_430 0 rfl ?_
                            refine wl_iload_n C dL_law_431 3 rfl ?_
                            refine wl_iconst (v := 1) C dL_law_432 (by decide) ?_
                            refine wl_iadd C dL_law_433 ?_
                            refine wl_sld C hX hbl hbA h.1 dL_law_434 ?_
                            have h := h.2
                            refine wl_i2l C dL_law_435 ?_
                            refine wl_bipush (v := 32) C dL_law_436 (by decide) ?_
                            refine wl_lshl C dL_law_438 ?_
                            refine wl_aload_n C dL_law_439 0 rfl ?_
                            refine wl_iload_n C dL_law_440 3 rfl ?_
                            refine wl_iconst (v := 2) C dL_law_441 (by decide) ?_
                            refine wl_iadd C dL_law_442 ?_
                            refine wl_sld C hX hbl hbA h.1 dL_law_443 ?_
                            have h := h.2
                            refine wl_i2l C dL_law_444 ?_
                            refine wl_ldc2 C tw_846 dL_law_445 ?_
                            refine wl_land C dL_law_448 ?_
                            refine wl_lor C dL_law_449 ?_
                            refine wl_aload_n C dL_law_450 0 rfl ?_
                            refine wl_iload_n C dL_law_451 3 rfl ?_
                            refine wl_iconst (v := 3) C dL_law_452 (by decide) ?_
                            refine wl_iadd C dL_law_453 ?_
                            refine wl_sld C hX hbl hbA h.1 dL_law_454 ?_
                            have h := h.2
                            refine wl_callVi C (cX8_has_M l G hg hB (((xs (v3 + (1 : Int32)).toNatClampNeg).toInt64 <<< ((32 : Int32).toInt64 &&& 63)) ||| ((xs (v3 + (2 : Int32)).toNatClampNeg).toInt64 &&& (4294967295 : Int64))) (xs (v3 + (3 : Int32)).toNatClampNeg) M41 _) h cw_L_63 hd_X8_has ⟨rfl, rfl⟩ ⟨by decide, by decide⟩ (gir_8 hB kq_79) (gc_k kq_79) rfl (As := [.long (((xs (v3 + (1 : Int32)).toNatClampNeg).toInt64 <<< ((32 : Int32).toInt64 &&& 63)) ||| ((xs (v3 + (2 : Int32)).toNatClampNeg).toInt64 &&& (4294967295 : Int64))), .int (xs (v3 + (3 : Int32)).toNatClampNeg)]) (rest := [.int r42]) rfl (Nat.le_of_ble_eq_true rfl) ⟨hcc, hss⟩ rfl dL_law_455 (fun r44 M43 h => ?_)
                            refine wl_icmp_eq C (tgt := 1006) dL_law_458 (by decide) (fun hc => ?_) (fun hc => ?_)
                            · have h := h.1 hc
                              refine wl_sub [0, 1, 2, 3] rfl ?_
                              exact kL_1006 l hL hX hbl hbA hg hA hB C hr hlocks hA0 hcc hss (wL_18 L xs n) (ih) v3 M43 h
                            · have h := h.2 hc
                              exact h.elim
                          · have h := h.2 ht10
                            by_cases ht11 : ((xs v3.toNatClampNeg) &&& (31 : Int32)) = (11 : Int32)
                            · have h := h.1 ht11
                              refine wl_tabIn C (tgt := 463) (11 : Int32) ht11 dL_law_32 (by decide) (by decide) rfl (by decide) ?_
                              refine wl_aload_n C dL_law_463 1 rfl ?_
                              refine wl_aload_n C dL_law_464 0 rfl ?_
                              refine wl_iload_n C dL_law_465 3 rfl ?_
                              refine wl_iconst (v := 1) C dL_law_466 (by decide) ?_
                              refine wl_iadd C dL_law_467 ?_
                              refine wl_sld C hX hbl hbA h.1 dL_law_468 ?_
                              have h := h.2
                              refine wl_i2l C dL_law_469 ?_
                              refine wl_bipush (v := 32) C dL_law_470 (by decide) ?_
                              refine wl_lshl C dL_law_472 ?_
                              refine wl_aload_n C dL_law_473 0 rfl ?_
                              refine wl_iload_n C dL_law_474 3 rfl ?_
                              refine wl_iconst (v := 2) C dL_law_475 (by decide) ?_
                              refine wl_iadd C dL_law_476 ?_
                              refine wl_sld C hX hbl hbA h.1 dL_law_477 ?_
                              have h := h.2
                              refine wl_i2l C dL_law_478 ?_
                              refine wl_ldc2 C tw_846 dL_law_479 ?_
                              refine wl_land C dL_law_482 ?_
                              refine wl_lor C dL_law_483 ?_
                              refine wl_callVl C (cX7_leaves_M l G hg hA (((xs (v3 + (1 : Int32)).toNatClampNeg).toInt64 <<< ((32 : Int32).toInt64 &&& 63)) ||| ((xs (v3 + (2 : Int32)).toNatClampNeg).toInt64 &&& (4294967295 : Int64))) M _) h cw_L_64 hd_X7_leaves ⟨rfl, rfl⟩ ⟨by decide, by decide⟩ (gic_7 hA kq_0) (gc_k kq_0) rfl (As := [.long (((xs (v3 + (1 : Int32)).toNatClampNeg).toInt64 <<< ((32 : Int32).toInt64 &&& 63)) ||| ((xs (v3 + (2 : Int32)).toNatClampNeg).toInt64 &&& (4294967295 : Int64)))]) (rest := []) rfl (Nat.le_of_ble_eq_true rfl) ⟨hcc, hss⟩ rfl dL_law_484 (fun r46 M45 h => ?_)
                              refine wl_aload_n C dL_law_487 2 rfl ?_
                              refine wl_aload_n C dL_law_488 0 rfl ?_
                              refine wl_iload_n C dL_law_489 3 rfl ?_
                              refine wl_iconst (v := 1) C dL_law_490 (by decide) ?_
                              refine wl_iadd C dL_law_491 ?_
                              refine wl_sld C hX hbl hbA h.1 dL_law_492 ?_
                              have h := h.2
                              refine wl_i2l C dL_law_493 ?_
                              refine wl_bipush (v := 32) C dL_law_494 (by decide) ?_
                              refine wl_lshl C dL_law_496 ?_
                              refine wl_aload_n C dL_law_497 0 rfl ?_
                              refine wl_iload_n C dL_law_498 3 rfl ?_
                              refine wl_iconst (v := 2) C dL_law_499 (by decide) ?_
                              refine wl_iadd C dL_law_500 ?_
                              refine wl_sld C hX hbl hbA h.1 dL_law_501 ?_
                              have h := h.2
                              refine wl_i2l C dL_law_502 ?_
                              refine wl_ldc2 C tw_846 dL_law_503 ?_
                              refine wl_land C dL_law_506 ?_
                              refine wl_lor C dL_law_507 ?_
                              refine wl_callVl C (cX8_leaves_M l G hg hB (((xs (v3 + (1 : Int32)).toNatClampNeg).toInt64 <<< ((32 : Int32).toInt64 &&& 63)) ||| ((xs (v3 + (2 : Int32)).toNatClampNeg).toInt64 &&& (4294967295 : Int64))) M45 _) h cw_L_68 hd_X8_leaves ⟨rfl, rfl⟩ ⟨by decide, by decide⟩ (gir_8 hB kq_79) (gc_k kq_79) rfl (As := [.long (((xs (v3 + (1 : Int32)).toNatClampNeg).toInt64 <<< ((32 : Int32).toInt64 &&& 63)) ||| ((xs (v3 + (2 : Int32)).toNatClampNeg).toInt64 &&& (4294967295 : Int64)))]) (rest := [.long r46]) rfl (Nat.le_of_ble_eq_true rfl) ⟨hcc, hss⟩ rfl dL_law_508 (fun r48 M47 h => ?_)
                              refine wl_lcmp C dL_law_511 ?_
                              refine wl_if_eq C (tgt := 1006) dL_law_512 (by decide) (fun hc => ?_) (fun hc => ?_)
                              · have h := h.1 hc
                                refine wl_sub [0, 1, 2, 3] rfl ?_
                                exact kL_1006 l hL hX hbl hbA hg hA hB C hr hlocks hA0 hcc hss (wL_18 L xs n) (ih) v3 M47 h
                              · have h := h.2 hc
                                exact h.elim
                            · have h := h.2 ht11
                              by_cases ht12 : ((xs v3.toNatClampNeg) &&& (31 : Int32)) = (12 : Int32)
                              · have h := h.1 ht12
                                refine wl_tabIn C (tgt := 517) (12 : Int32) ht12 dL_law_32 (by decide) (by decide) rfl (by decide) ?_
                                refine wl_aload_n C dL_law_517 1 rfl ?_
                                refine wl_callVi C (cX7_period_M l G hg hA M _) h cw_L_69 hd_X7_period ⟨rfl, rfl⟩ ⟨by decide, by decide⟩ (gic_7 hA kq_0) (gc_k kq_0) rfl (As := []) (rest := []) rfl (Nat.le_of_ble_eq_true rfl) ⟨hcc, hss⟩ rfl dL_law_518 (fun r50 M49 h => ?_)
                                refine wl_aload_n C dL_law_521 2 rfl ?_
                                refine wl_callVi C (cX8_period_M l G hg hB M49 _) h cw_L_72 hd_X8_period ⟨rfl, rfl⟩ ⟨by decide, by decide⟩ (gir_8 hB kq_79) (gc_k kq_79) rfl (As := []) (rest := [.int r50]) rfl (Nat.le_of_ble_eq_true rfl) ⟨hcc, hss⟩ rfl dL_law_522 (fun r52 M51 h => ?_)
                                refine wl_icmp_eq C (tgt := 1006) dL_law_525 (by decide) (fun hc => ?_) (fun hc => ?_)
                                · have h := h.1 hc
                                  refine wl_sub [0, 1, 2, 3] rfl ?_
                                  exact kL_1006 l hL hX hbl hbA hg hA hB C hr hlocks hA0 hcc hss (wL_18 L xs n) (ih) v3 M51 h
                                · have h := h.2 hc
                                  exact h.elim
                              · have h := h.2 ht12
                                by_cases ht13 : ((xs v3.toNatClampNeg) &&& (31 : Int32)) = (13 : Int32)
                                · have h := h.1 ht13
                                  refine wl_tabIn C (tgt := 530) (13 : Int32) ht13 dL_law_32 (by decide) (by decide) rfl (by decide) ?_
                                  refine wl_aload_n C dL_law_530 1 rfl ?_
                                  refine wl_aload_n C dL_law_531 0 rfl ?_
                                  refine wl_iload_n C dL_law_532 3 rfl ?_
                                  refine wl_iconst (v := 1) C dL_law_533 (by decide) ?_
                                  refine wl_iadd C dL_law_534 ?_
                                  refine wl_sld C hX hbl hbA h.1 dL_law_535 ?_
                                  have h := h.2
                                  refine wl_callVl C (cX7_ever_M l G hg hA (xs (v3 + (1 : Int32)).toNatClampNeg) M _) h cw_L_73 hd_X7_ever ⟨rfl, rfl⟩ ⟨by decide, by decide⟩ (gic_7 hA kq_0) (gc_k kq_0) rfl (As := [.int (xs (v3 + (1 : Int32)).toNatClampNeg)]) (rest := []) rfl (Nat.le_of_ble_eq_true rfl) ⟨hcc, hss⟩ rfl dL_law_536 (fun r54 M53 h => ?_)
                                  refine wl_aload_n C dL_law_539 2 rfl ?_
                                  refine wl_aload_n C dL_law_540 0 rfl ?_
                                  refine wl_iload_n C dL_law_541 3 rfl ?_
                                  refine wl_iconst (v := 1) C dL_law_542 (by decide) ?_
                                  refine wl_iadd C dL_law_543 ?_
                                  refine wl_sld C hX hbl hbA h.1 dL_law_544 ?_
                                  have h := h.2
                                  refine wl_callVl C (cX8_ever_M l G hg hB (xs (v3 + (1 : Int32)).toNatClampNeg) M53 _) h cw_L_77 hd_X8_ever ⟨rfl, rfl⟩ ⟨by decide, by decide⟩ (gir_8 hB kq_79) (gc_k kq_79) rfl (As := [.int (xs (v3 + (1 : Int32)).toNatClampNeg)]) (rest := [.long r54]) rfl (Nat.le_of_ble_eq_true rfl) ⟨hcc, hss⟩ rfl dL_law_545 (fun r56 M55 h => ?_)
                                  refine wl_lcmp C dL_law_548 ?_
                                  refine wl_if_eq C (tgt := 1006) dL_law_549 (by decide) (fun hc => ?_) (fun hc => ?_)
                                  · have h := h.1 hc
                                    refine wl_sub [0, 1, 2, 3] rfl ?_
                                    exact kL_1006 l hL hX hbl hbA hg hA hB C hr hlocks hA0 hcc hss (wL_18 L xs n) (ih) v3 M55 h
                                  · have h := h.2 hc
                                    exact h.elim
                                · have h := h.2 ht13
                                  by_cases ht14 : ((xs v3.toNatClampNeg) &&& (31 : Int32)) = (14 : Int32)
                                  · have h := h.1 ht14
                                    refine wl_tabIn C (tgt := 554) (14 : Int32) ht14 dL_law_32 (by decide) (by decide) rfl (by decide) ?_
                                    refine wl_aload_n C dL_law_554 1 rfl ?_
                                    refine wl_aload_n C dL_law_555 0 rfl ?_
                                    refine wl_iload_n C dL_law_556 3 rfl ?_
                                    refine wl_iconst (v := 1) C dL_law_557 (by decide) ?_
                                    refine wl_iadd C dL_law_558 ?_
                                    refine wl_sld C hX hbl hbA h.1 dL_law_559 ?_
                                    have h := h.2
                                    refine wl_i2l C dL_law_560 ?_
                                    refine wl_bipush (v := 32) C dL_law_561 (by decide) ?_
                                    refine wl_lshl C dL_law_563 ?_
                                    refine wl_aload_n C dL_law_564 0 rfl ?_
                                    refine wl_iload_n C dL_law_565 3 rfl ?_
                                    refine wl_iconst (v := 2) C dL_law_566 (by decide) ?_
                                    refine wl_iadd C dL_law_567 ?_
                                    refine wl_sld C hX hbl hbA h.1 dL_law_568 ?_
                                    have h := h.2
                                    refine wl_i2l C dL_law_569 ?_
                                    refine wl_ldc2 C tw_846 dL_law_570 ?_
                                    refine wl_land C dL_law_573 ?_
                                    refine wl_lor C dL_law_574 ?_
                                    refine wl_callVi C (cX7_right_M l G hg hA (((xs (v3 + (1 : Int32)).toNatClampNeg).toInt64 <<< ((32 : Int32).toInt64 &&& 63)) ||| ((xs (v3 + (2 : Int32)).toNatClampNeg).toInt64 &&& (4294967295 : Int64))) M _) h cw_L_78 hd_X7_right ⟨rfl, rfl⟩ ⟨by decide, by decide⟩ (gic_7 hA kq_0) (gc_k kq_0) rfl (As := [.long (((xs (v3 + (1 : Int32)).toNatClampNeg).toInt64 <<< ((32 : Int32).toInt64 &&& 63)) ||| ((xs (v3 + (2 : Int32)).toNatClampNeg).toInt64 &&& (4294967295 : Int64)))]) (rest := []) rfl (Nat.le_of_ble_eq_true rfl) ⟨hcc, hss⟩ rfl dL_law_575 (fun r58 M57 h => ?_)
                                    refine wl_aload_n C dL_law_578 2 rfl ?_
                                    refine wl_aload_n C dL_law_579 0 rfl ?_
                                    refine wl_iload_n C dL_law_580 3 rfl ?_
                                    refine wl_iconst (v := 1) C dL_law_581 (by decide) ?_
                                    refine wl_iadd C dL_law_582 ?_
                                    refine wl_sld C hX hbl hbA h.1 dL_law_583 ?_
                                    have h := h.2
                                    refine wl_i2l C dL_law_584 ?_
                                    refine wl_bipush (v := 32) C dL_law_585 (by decide) ?_
                                    refine wl_lshl C dL_law_587 ?_
                                    refine wl_aload_n C dL_law_588 0 rfl ?_
                                    refine wl_iload_n C dL_law_589 3 rfl ?_
                                    refine wl_iconst (v := 2) C dL_law_590 (by decide) ?_
                                    refine wl_iadd C dL_law_591 ?_
                                    refine wl_sld C hX hbl hbA h.1 dL_law_592 ?_
                                    have h := h.2
                                    refine wl_i2l C dL_law_593 ?_
                                    refine wl_ldc2 C tw_846 dL_law_594 ?_
                                    refine wl_land C dL_law_597 ?_
                                    refine wl_lor C dL_law_598 ?_
                                    refine wl_callVi C (cX8_right_M l G hg hB (((xs (v3 + (1 : Int32)).toNatClampNeg).toInt64 <<< ((32 : Int32).toInt64 &&& 63)) ||| ((xs (v3 + (2 : Int32)).toNatClampNeg).toInt64 &&& (4294967295 : Int64))) M57 _) h cw_L_82 hd_X8_right ⟨rfl, rfl⟩ ⟨by decide, by decide⟩ (gir_8 hB kq_79) (gc_k kq_79) rfl (As := [.long (((xs (v3 + (1 : Int32)).toNatClampNeg).toInt64 <<< ((32 : Int32).toInt64 &&& 63)) ||| ((xs (v3 + (2 : Int32)).toNatClampNeg).toInt64 &&& (4294967295 : Int64)))]) (rest := [.int r58]) rfl (Nat.le_of_ble_eq_true rfl) ⟨hcc, hss⟩ rfl dL_law_599 (fun r60 M59 h => ?_)
                                    refine wl_icmp_eq C (tgt := 1006) dL_law_602 (by decide) (fun hc => ?_) (fun hc => ?_)
                                    · have h := h.1 hc
                                      refine wl_sub [0, 1, 2, 3] rfl ?_
                                      exact kL_1006 l hL hX hbl hbA hg hA hB C hr hlocks hA0 hcc hss (wL_18 L xs n) (ih) v3 M59 h
                                    · have h := h.2 hc
                                      exact h.elim
                                  · have h := h.2 ht14
                                    by_cases ht15 : ((xs v3.toNatClampNeg) &&& (31 : Int32)) = (15 : Int32)
                                    · have h := h.1 ht15
                                      refine wl_tabIn C (tgt := 607) (15 : Int32) ht15 dL_law_32 (by decide) (by decide) rfl (by decide) ?_
                                      refine wl_aload_n C dL_law_607 1 rfl ?_
                                      refine wl_aload_n C dL_law_608 0 rfl ?_
                                      refine wl_iload_n C dL_law_609 3 rfl ?_
                                      refine wl_iconst (v := 1) C dL_law_610 (by decide) ?_
                                      refine wl_iadd C dL_law_611 ?_
                                      refine wl_sld C hX hbl hbA h.1 dL_law_612 ?_
                                      have h := h.2
                                      refine wl_i2l C dL_law_613 ?_
                                      refine wl_bipush (v := 32) C dL_law_614 (by decide) ?_
                                      refine wl_lshl C dL_law_616 ?_
                                      refine wl_aload_n C dL_law_617 0 rfl ?_
                                      refine wl_iload_n C dL_law_618 3 rfl ?_
                                      refine wl_iconst (v := 2) C dL_law_619 (by decide) ?_
                                      refine wl_iadd C dL_law_620 ?_
                                      refine wl_sld C hX hbl hbA h.1 dL_law_621 ?_
                                      have h := h.2
                                      refine wl_i2l C dL_law_622 ?_
                                      refine wl_ldc2 C tw_846 dL_law_623 ?_
                                      refine wl_land C dL_law_626 ?_
                                      refine wl_lor C dL_law_627 ?_
                                      refine wl_aload_n C dL_law_628 0 rfl ?_
                                      refine wl_iload_n C dL_law_629 3 rfl ?_
                                      refine wl_iconst (v := 3) C dL_law_630 (by decide) ?_
                                      refine wl_iadd C dL_law_631 ?_
                                      refine wl_sld C hX hbl hbA h.1 dL_law_632 ?_
                                      have h := h.2
                                      refine wl_callVi C (cX7_order_M l G hg hA (((xs (v3 + (1 : Int32)).toNatClampNeg).toInt64 <<< ((32 : Int32).toInt64 &&& 63)) ||| ((xs (v3 + (2 : Int32)).toNatClampNeg).toInt64 &&& (4294967295 : Int64))) (xs (v3 + (3 : Int32)).toNatClampNeg) M _) h cw_L_83 hd_X7_order ⟨rfl, rfl⟩ ⟨by decide, by decide⟩ (gic_7 hA kq_0) (gc_k kq_0) rfl (As := [.long (((xs (v3 + (1 : Int32)).toNatClampNeg).toInt64 <<< ((32 : Int32).toInt64 &&& 63)) ||| ((xs (v3 + (2 : Int32)).toNatClampNeg).toInt64 &&& (4294967295 : Int64))), .int (xs (v3 + (3 : Int32)).toNatClampNeg)]) (rest := []) rfl (Nat.le_of_ble_eq_true rfl) ⟨hcc, hss⟩ rfl dL_law_633 (fun r62 M61 h => ?_)
                                      refine wl_aload_n C dL_law_636 2 rfl ?_
                                      refine wl_aload_n C dL_law_637 0 rfl ?_
                                      refine wl_iload_n C dL_law_638 3 rfl ?_
                                      refine wl_iconst (v := 1) C dL_law_639 (by decide) ?_
                                      refine wl_iadd C dL_law_640 ?_
                                      refine wl_sld C hX hbl hbA h.1 dL_law_641 ?_
                                      have h := h.2
                                      refine wl_i2l C dL_law_642 ?_
                                      refine wl_bipush (v := 32) C dL_law_643 (by decide) ?_
                                      refine wl_lshl C dL_law_645 ?_
                                      refine wl_aload_n C dL_law_646 0 rfl ?_
                                      refine wl_iload_n C dL_law_647 3 rfl ?_
                                      refine wl_iconst (v := 2) C dL_law_648 (by decide) ?_
                                      refine wl_iadd C dL_law_649 ?_
                                      refine wl_sld C hX hbl hbA h.1 dL_law_650 ?_
                                      have h := h.2
                                      refine wl_i2l C dL_law_651 ?_
                                      refine wl_ldc2 C tw_846 dL_law_652 ?_
                                      refine wl_land C dL_law_655 ?_
                                      refine wl_lor C dL_law_656 ?_
                                      refine wl_aload_n C dL_law_657 0 rfl ?_
                                      refine wl_iload_n C dL_law_658 3 rfl ?_
                                      refine wl_iconst (v := 3) C dL_law_659 (by decide) ?_
                                      refine wl_iadd C dL_law_660 ?_
                                      refine wl_sld C hX hbl hbA h.1 dL_law_661 ?_
                                      have h := h.2
                                      refine wl_callVi C (cX8_order_M l G hg hB (((xs (v3 + (1 : Int32)).toNatClampNeg).toInt64 <<< ((32 : Int32).toInt64 &&& 63)) ||| ((xs (v3 + (2 : Int32)).toNatClampNeg).toInt64 &&& (4294967295 : Int64))) (xs (v3 + (3 : Int32)).toNatClampNeg) M61 _) h cw_L_86 hd_X8_order ⟨rfl, rfl⟩ ⟨by decide, by decide⟩ (gir_8 hB kq_79) (gc_k kq_79) rfl (As := [.long (((xs (v3 + (1 : Int32)).toNatClampNeg).toInt64 <<< ((32 : Int32).toInt64 &&& 63)) ||| ((xs (v3 + (2 : Int32)).toNatClampNeg).toInt64 &&& (4294967295 : Int64))), .int (xs (v3 + (3 : Int32)).toNatClampNeg)]) (rest := [.int r62]) rfl (Nat.le_of_ble_eq_true rfl) ⟨hcc, hss⟩ rfl dL_law_662 (fun r64 M63 h => ?_)
                                      refine wl_icmp_eq C (tgt := 1006) dL_law_665 (by decide) (fun hc => ?_) (fun hc => ?_)
                                      · have h := h.1 hc
                                        refine wl_sub [0, 1, 2, 3] rfl ?_
                                        exact kL_1006 l hL hX hbl hbA hg hA hB C hr hlocks hA0 hcc hss (wL_18 L xs n) (ih) v3 M63 h
                                      · have h := h.2 hc
                                        exact h.elim
                                    · have h := h.2 ht15
                                      by_cases ht16 : ((xs v3.toNatClampNeg) &&& (31 : Int32)) = (16 : Int32)
                                      · have h := h.1 ht16
                                        refine wl_tabIn C (tgt := 670) (16 : Int32) ht16 dL_law_32 (by decide) (by decide) rfl (by decide) ?_
                                        refine wl_aload_n C dL_law_670 1 rfl ?_
                                        refine wl_aload_n C dL_law_671 0 rfl ?_
                                        refine wl_iload_n C dL_law_672 3 rfl ?_
                                        refine wl_iconst (v := 1) C dL_law_673 (by decide) ?_
                                        refine wl_iadd C dL_law_674 ?_
                                        refine wl_sld C hX hbl hbA h.1 dL_law_675 ?_
                                        have h := h.2
                                        refine wl_aload_n C dL_law_676 0 rfl ?_
                                        refine wl_iload_n C dL_law_677 3 rfl ?_
                                        refine wl_iconst (v := 2) C dL_law_678 (by decide) ?_
                                        refine wl_iadd C dL_law_679 ?_
                                        refine wl_sld C hX hbl hbA h.1 dL_law_680 ?_
                                        have h := h.2
                                        refine wl_callVi C (cX7_shows_M l G hg hA (xs (v3 + (1 : Int32)).toNatClampNeg) (xs (v3 + (2 : Int32)).toNatClampNeg) M _) h cw_L_87 hd_X7_shows ⟨rfl, rfl⟩ ⟨by decide, by decide⟩ (gic_7 hA kq_0) (gc_k kq_0) rfl (As := [.int (xs (v3 + (1 : Int32)).toNatClampNeg), .int (xs (v3 + (2 : Int32)).toNatClampNeg)]) (rest := []) rfl (Nat.le_of_ble_eq_true rfl) ⟨hcc, hss⟩ rfl dL_law_681 (fun r66 M65 h => ?_)
                                        refine wl_aload_n C dL_law_684 2 rfl ?_
                                        refine wl_aload_n C dL_law_685 0 rfl ?_
                                        refine wl_iload_n C dL_law_686 3 rfl ?_
                                        refine wl_iconst (v := 1) C dL_law_687 (by decide) ?_
                                        refine wl_iadd C dL_law_688 ?_
                                        refine wl_sld C hX hbl hbA h.1 dL_law_689 ?_
                                        have h := h.2
                                        refine wl_aload_n C dL_law_690 0 rfl ?_
                                        refine wl_iload_n C dL_law_691 3 rfl ?_
                                        refine wl_iconst (v := 2) C dL_law_692 (by decide) ?_
                                        refine wl_iadd C dL_law_693 ?_
                                        refine wl_sld C hX hbl hbA h.1 dL_law_694 ?_
                                        have h := h.2
                                        refine wl_callVi C (cX8_shows_M l G hg hB (xs (v3 + (1 : Int32)).toNatClampNeg) (xs (v3 + (2 : Int32)).toNatClampNeg) M65 _) h cw_L_90 hd_X8_shows ⟨rfl, rfl⟩ ⟨by decide, by decide⟩ (gir_8 hB kq_79) (gc_k kq_79) rfl (As := [.int (xs (v3 + (1 : Int32)).toNatClampNeg), .int (xs (v3 + (2 : Int32)).toNatClampNeg)]) (rest := [.int r66]) rfl (Nat.le_of_ble_eq_true rfl) ⟨hcc, hss⟩ rfl dL_law_695 (fun r68 M67 h => ?_)
                                        refine wl_icmp_eq C (tgt := 1006) dL_law_698 (by decide) (fun hc => ?_) (fun hc => ?_)
                                        · have h := h.1 hc
                                          refine wl_sub [0, 1, 2, 3] rfl ?_
                                          exact kL_1006 l hL hX hbl hbA hg hA hB C hr hlocks hA0 hcc hss (wL_18 L xs n) (ih) v3 M67 h
                                        · have h := h.2 hc
                                          exact h.elim
                                      · have h := h.2 ht16
                                        by_cases ht17 : ((xs v3.toNatClampNeg) &&& (31 : Int32)) = (17 : Int32)
                                        · have h := h.1 ht17
                                          refine wl_tabIn C (tgt := 703) (17 : Int32) ht17 dL_law_32 (by decide) (by decide) rfl (by decide) ?_
                                          refine wl_aload_n C dL_law_703 1 rfl ?_
                                          refine wl_aload_n C dL_law_704 0 rfl ?_
                                          refine wl_iload_n C dL_law_705 3 rfl ?_
                                          refine wl_iconst (v := 1) C dL_law_706 (by decide) ?_
                                          refine wl_iadd C dL_law_707 ?_
                                          refine wl_sld C hX hbl hbA h.1 dL_law_708 ?_
                                          have h := h.2
                                          refine wl_callVi C (cX7_quickest_M l G hg hA (xs (v3 + (1 : Int32)).toNatClampNeg) M _) h cw_L_91 hd_X7_quickest ⟨rfl, rfl⟩ ⟨by decide, by decide⟩ (gic_7 hA kq_0) (gc_k kq_0) rfl (As := [.int (xs (v3 + (1 : Int32)).toNatClampNeg)]) (rest := []) rfl (Nat.le_of_ble_eq_true rfl) ⟨hcc, hss⟩ rfl dL_law_709 (fun r70 M69 h => ?_)
                                          refine wl_aload_n C dL_law_712 2 rfl ?_
                                          refine wl_aload_n C dL_law_713 0 rfl ?_
                                          refine wl_iload_n C dL_law_714 3 rfl ?_
                                          refine wl_iconst (v := 1) C dL_law_715 (by decide) ?_
                                          refine wl_iadd C dL_law_716 ?_
                                          refine wl_sld C hX hbl hbA h.1 dL_law_717 ?_
                                          have h := h.2
                                          refine wl_callVi C (cX8_quickest_M l G hg hB (xs (v3 + (1 : Int32)).toNatClampNeg) M69 _) h cw_L_94 hd_X8_quickest ⟨rfl, rfl⟩ ⟨by decide, by decide⟩ (gir_8 hB kq_79) (gc_k kq_79) rfl (As := [.int (xs (v3 + (1 : Int32)).toNatClampNeg)]) (rest := [.int r70]) rfl (Nat.le_of_ble_eq_true rfl) ⟨hcc, hss⟩ rfl dL_law_718 (fun r72 M71 h => ?_)
                                          refine wl_icmp_eq C (tgt := 1006) dL_law_721 (by decide) (fun hc => ?_) (fun hc => ?_)
                                          · have h := h.1 hc
                                            refine wl_sub [0, 1, 2, 3] rfl ?_
                                            exact kL_1006 l hL hX hbl hbA hg hA hB C hr hlocks hA0 hcc hss (wL_18 L xs n) (ih) v3 M71 h
                                          · have h := h.2 hc
                                            exact h.elim
                                        · have h := h.2 ht17
                                          by_cases ht18 : ((xs v3.toNatClampNeg) &&& (31 : Int32)) = (18 : Int32)
                                          · have h := h.1 ht18
                                            refine wl_tabIn C (tgt := 726) (18 : Int32) ht18 dL_law_32 (by decide) (by decide) rfl (by decide) ?_
                                            refine wl_aload_n C dL_law_726 1 rfl ?_
                                            refine wl_aload_n C dL_law_727 0 rfl ?_
                                            refine wl_iload_n C dL_law_728 3 rfl ?_
                                            refine wl_iconst (v := 1) C dL_law_729 (by decide) ?_
                                            refine wl_iadd C dL_law_730 ?_
                                            refine wl_sld C hX hbl hbA h.1 dL_law_731 ?_
                                            have h := h.2
                                            refine wl_i2l C dL_law_732 ?_
                                            refine wl_bipush (v := 32) C dL_law_733 (by decide) ?_
                                            refine wl_lshl C dL_law_735 ?_
                                            refine wl_aload_n C dL_law_736 0 rfl ?_
                                            refine wl_iload_n C dL_law_737 3 rfl ?_
                                            refine wl_iconst (v := 2) C dL_law_738 (by decide) ?_
                                            refine wl_iadd C dL_law_739 ?_
                                            refine wl_sld C hX hbl hbA h.1 dL_law_740 ?_
                                            have h := h.2
                                            refine wl_i2l C dL_law_741 ?_
                                            refine wl_ldc2 C tw_846 dL_law_742 ?_
                                            refine wl_land C dL_law_745 ?_
                                            refine wl_lor C dL_law_746 ?_
                                            refine wl_aload_n C dL_law_747 0 rfl ?_
                                            refine wl_iload_n C dL_law_748 3 rfl ?_
                                            refine wl_iconst (v := 3) C dL_law_749 (by decide) ?_
                                            refine wl_iadd C dL_law_750 ?_
                                            refine wl_sld C hX hbl hbA h.1 dL_law_751 ?_
                                            have h := h.2
                                            refine wl_aload_n C dL_law_752 0 rfl ?_
                                            refine wl_iload_n C dL_law_753 3 rfl ?_
                                            refine wl_iconst (v := 4) C dL_law_754 (by decide) ?_
                                            refine wl_iadd C dL_law_755 ?_
                                            refine wl_sld C hX hbl hbA h.1 dL_law_756 ?_
                                            have h := h.2
                                            refine wl_callVi C (cX7_seen_M l G hg hA (((xs (v3 + (1 : Int32)).toNatClampNeg).toInt64 <<< ((32 : Int32).toInt64 &&& 63)) ||| ((xs (v3 + (2 : Int32)).toNatClampNeg).toInt64 &&& (4294967295 : Int64))) (xs (v3 + (3 : Int32)).toNatClampNeg) (xs (v3 + (4 : Int32)).toNatClampNeg) M _) h cw_L_95 hd_X7_seen ⟨rfl, rfl⟩ ⟨by decide, by decide⟩ (gic_7 hA kq_0) (gc_k kq_0) rfl (As := [.long (((xs (v3 + (1 : Int32)).toNatClampNeg).toInt64 <<< ((32 : Int32).toInt64 &&& 63)) ||| ((xs (v3 + (2 : Int32)).toNatClampNeg).toInt64 &&& (4294967295 : Int64))), .int (xs (v3 + (3 : Int32)).toNatClampNeg), .int (xs (v3 + (4 : Int32)).toNatClampNeg)]) (rest := []) rfl (Nat.le_of_ble_eq_true rfl) ⟨hcc, hss⟩ rfl dL_law_757 (fun r74 M73 h => ?_)
                                            refine wl_aload_n C dL_law_760 2 rfl ?_
                                            refine wl_aload_n C dL_law_761 0 rfl ?_
                                            refine wl_iload_n C dL_law_762 3 rfl ?_
                                            refine wl_iconst (v := 1) C dL_law_763 (by decide) ?_
                                            refine wl_iadd C dL_law_764 ?_
                                            refine wl_sld C hX hbl hbA h.1 dL_law_765 ?_
                                            have h := h.2
                                            refine wl_i2l C dL_law_766 ?_
                                            refine wl_bipush (v := 32) C dL_law_767 (by decide) ?_
                                            refine wl_lshl C dL_law_769 ?_
                                            refine wl_aload_n C dL_law_770 0 rfl ?_
                                            refine wl_iload_n C dL_law_771 3 rfl ?_
                                            refine wl_iconst (v := 2) C dL_law_772 (by decide) ?_
                                            refine wl_iadd C dL_law_773 ?_
                                            refine wl_sld C hX hbl hbA h.1 dL_law_774 ?_
                                            have h := h.2
                                            refine wl_i2l C dL_law_775 ?_
                                            refine wl_ldc2 C tw_846 dL_law_776 ?_
                                            refine wl_land C dL_law_779 ?_
                                            refine wl_lor C dL_law_780 ?_
                                            refine wl_aload_n C dL_law_781 0 rfl ?_
                                            refine wl_iload_n C dL_law_782 3 rfl ?_
                                            refine wl_iconst (v := 3) C dL_law_783 (by decide) ?_
                                            refine wl_iadd C dL_law_784 ?_
                                            refine wl_sld C hX hbl hbA h.1 dL_law_785 ?_
                                            have h := h.2
                                            refine wl_aload_n C dL_law_786 0 rfl ?_
                                            refine wl_iload_n C dL_law_787 3 rfl ?_
                                            refine wl_iconst (v := 4) C dL_law_788 (by decide) ?_
                                            refine wl_iadd C dL_law_789 ?_
                                            refine wl_sld C hX hbl hbA h.1 dL_law_790 ?_
                                            have h := h.2
                                            refine wl_callVi C (cX8_seen_M l G hg hB (((xs (v3 + (1 : Int32)).toNatClampNeg).toInt64 <<< ((32 : Int32).toInt64 &&& 63)) ||| ((xs (v3 + (2 : Int32)).toNatClampNeg).toInt64 &&& (4294967295 : Int64))) (xs (v3 + (3 : Int32)).toNatClampNeg) (xs (v3 + (4 : Int32)).toNatClampNeg) M73 _) h cw_L_99 hd_X8_seen ⟨rfl, rfl⟩ ⟨by decide, by decide⟩ (gir_8 hB kq_79) (gc_k kq_79) rfl (As := [.long (((xs (v3 + (1 : Int32)).toNatClampNeg).toInt64 <<< ((32 : Int32).toInt64 &&& 63)) ||| ((xs (v3 + (2 : Int32)).toNatClampNeg).toInt64 &&& (4294967295 : Int64))), .int (xs (v3 + (3 : Int32)).toNatClampNeg), .int (xs (v3 + (4 : Int32)).toNatClampNeg)]) (rest := [.int r74]) rfl (Nat.le_of_ble_eq_true rfl) ⟨hcc, hss⟩ rfl dL_law_791 (fun r76 M75 h => ?_)
                                            refine wl_icmp_eq C (tgt := 1006) dL_law_794 (by decide) (fun hc => ?_) (fun hc => ?_)
                                            · have h := h.1 hc
                                              refine wl_sub [0, 1, 2, 3] rfl ?_
                                              exact kL_1006 l hL hX hbl hbA hg hA hB C hr hlocks hA0 hcc hss (wL_18 L xs n) (ih) v3 M75 h
                                            · have h := h.2 hc
                                              exact h.elim
                                          · have h := h.2 ht18
                                            by_cases ht19 : ((xs v3.toNatClampNeg) &&& (31 : Int32)) = (19 : Int32)
                                            · have h := h.1 ht19
                                              refine wl_tabIn C (tgt := 799) (19 : Int32) ht19 dL_law_32 (by decide) (by decide) rfl (by decide) ?_
                                              refine wl_aload_n C dL_law_799 1 rfl ?_
                                              refine wl_callVi C (cX7_forget_M l G hg hA M _) h cw_L_100 hd_X7_forget ⟨rfl, rfl⟩ ⟨by decide, by decide⟩ (gic_7 hA kq_0) (gc_k kq_0) rfl (As := []) (rest := []) rfl (Nat.le_of_ble_eq_true rfl) ⟨hcc, hss⟩ rfl dL_law_800 (fun r78 M77 h => ?_)
                                              refine wl_aload_n C dL_law_803 2 rfl ?_
                                              refine wl_callVi C (cX8_forget_M l G hg hB M77 _) h cw_L_103 hd_X8_forget ⟨rfl, rfl⟩ ⟨by decide, by decide⟩ (gir_8 hB kq_79) (gc_k kq_79) rfl (As := []) (rest := [.int r78]) rfl (Nat.le_of_ble_eq_true rfl) ⟨hcc, hss⟩ rfl dL_law_804 (fun r80 M79 h => ?_)
                                              refine wl_icmp_eq C (tgt := 1006) dL_law_807 (by decide) (fun hc => ?_) (fun hc => ?_)
                                              · have h := h.1 hc
                                                refine wl_sub [0, 1, 2, 3] rfl ?_
                                                exact kL_1006 l hL hX hbl hbA hg hA hB C hr hlocks hA0 hcc hss (wL_18 L xs n) (ih) v3 M79 h
                                              · have h := h.2 hc
                                                exact h.elim
                                            · have h := h.2 ht19
                                              by_cases ht20 : ((xs v3.toNatClampNeg) &&& (31 : Int32)) = (20 : Int32)
                                              · have h := h.1 ht20
                                                refine wl_tabIn C (tgt := 812) (20 : Int32) ht20 dL_law_32 (by decide) (by decide) rfl (by decide) ?_
                                                refine wl_aload_n C dL_law_812 1 rfl ?_
                                                refine wl_callVi C (cX7_so_M l G hg hA M _) h cw_L_104 hd_X7_so ⟨rfl, rfl⟩ ⟨by decide, by decide⟩ (gic_7 hA kq_0) (gc_k kq_0) rfl (As := []) (rest := []) rfl (Nat.le_of_ble_eq_true rfl) ⟨hcc, hss⟩ rfl dL_law_813 (fun r82 M81 h => ?_)
                                                refine wl_aload_n C dL_law_816 2 rfl ?_
                                                refine wl_callVi C (cX8_so_M l G hg hB M81 _) h cw_L_107 hd_X8_so ⟨rfl, rfl⟩ ⟨by decide, by decide⟩ (gir_8 hB kq_79) (gc_k kq_79) rfl (As := []) (rest := [.int r82]) rfl (Nat.le_of_ble_eq_true rfl) ⟨hcc, hss⟩ rfl dL_law_817 (fun r84 M83 h => ?_)
                                                refine wl_icmp_eq C (tgt := 1006) dL_law_820 (by decide) (fun hc => ?_) (fun hc => ?_)
                                                · have h := h.1 hc
                                                  refine wl_sub [0, 1, 2, 3] rfl ?_
                                                  exact kL_1006 l hL hX hbl hbA hg hA hB C hr hlocks hA0 hcc hss (wL_18 L xs n) (ih) v3 M83 h
                                                · have h := h.2 hc
                                                  exact h.elim
                                              · have h := h.2 ht20
                                                by_cases ht21 : ((xs v3.toNatClampNeg) &&& (31 : Int32)) = (21 : Int32)
                                                · have h := h.1 ht21
                                                  refine wl_tabIn C (tgt := 825) (21 : Int32) ht21 dL_law_32 (by decide) (by decide) rfl (by decide) ?_
                                                  refine wl_aload_n C dL_law_825 1 rfl ?_
                                                  refine wl_aload_n C dL_law_826 0 rfl ?_
                                                  refine wl_iload_n C dL_law_827 3 rfl ?_
                                                  refine wl_iconst (v := 1) C dL_law_828 (by decide) ?_
                                                  refine wl_iadd C dL_law_829 ?_
                                                  refine wl_sld C hX hbl hbA h.1 dL_law_830 ?_
                                                  have h := h.2
                                                  refine wl_callVi C (cX7_sure_M l G hg hA (xs (v3 + (1 : Int32)).toNatClampNeg) M _) h cw_L_108 hd_X7_sure ⟨rfl, rfl⟩ ⟨by decide, by decide⟩ (gic_7 hA kq_0) (gc_k kq_0) rfl (As := [.int (xs (v3 + (1 : Int32)).toNatClampNeg)]) (rest := []) rfl (Nat.le_of_ble_eq_true rfl) ⟨hcc, hss⟩ rfl dL_law_831 (fun r86 M85 h => ?_)
                                                  refine wl_aload_n C dL_law_834 2 rfl ?_
                                                  refine wl_aload_n C dL_law_835 0 rfl ?_
                                                  refine wl_iload_n C dL_law_836 3 rfl ?_
                                                  refine wl_iconst (v := 1) C dL_law_837 (by decide) ?_
                                                  refine wl_iadd C dL_law_838 ?_
                                                  refine wl_sld C hX hbl hbA h.1 dL_law_839 ?_
                                                  have h := h.2
                                                  refine wl_callVi C (cX8_sure_M l G hg hB (xs (v3 + (1 : Int32)).toNatClampNeg) M85 _) h cw_L_111 hd_X8_sure ⟨rfl, rfl⟩ ⟨by decide, by decide⟩ (gir_8 hB kq_79) (gc_k kq_79) rfl (As := [.int (xs (v3 + (1 : Int32)).toNatClampNeg)]) (rest := [.int r86]) rfl (Nat.le_of_ble_eq_true rfl) ⟨hcc, hss⟩ rfl dL_law_840 (fun r88 M87 h => ?_)
                                                  refine wl_icmp_eq C (tgt := 1006) dL_law_843 (by decide) (fun hc => ?_) (fun hc => ?_)
                                                  · have h := h.1 hc
                                                    refine wl_sub [0, 1, 2, 3] rfl ?_
                                                    exact kL_1006 l hL hX hbl hbA hg hA hB C hr hlocks hA0 hcc hss (wL_18 L xs n) (ih) v3 M87 h
                                                  · have h := h.2 hc
                                                    exact h.elim
                                                · have h := h.2 ht21
                                                  by_cases ht22 : ((xs v3.toNatClampNeg) &&& (31 : Int32)) = (22 : Int32)
                                                  · have h := h.1 ht22
                                                    refine wl_tabIn C (tgt := 848) (22 : Int32) ht22 dL_law_32 (by decide) (by decide) rfl (by decide) ?_
                                                    refine wl_aload_n C dL_law_848 1 rfl ?_
                                                    refine wl_aload_n C dL_law_849 0 rfl ?_
                                                    refine wl_iload_n C dL_law_850 3 rfl ?_
                                                    refine wl_iconst (v := 1) C dL_law_851 (by decide) ?_
                                                    refine wl_iadd C dL_law_852 ?_
                                                    refine wl_sld C hX hbl hbA h.1 dL_law_853 ?_
                                                    have h := h.2
                                                    refine wl_aload_n C dL_law_854 0 rfl ?_
                                                    refine wl_iload_n C dL_law_855 3 rfl ?_
                                                    refine wl_iconst (v := 2) C dL_law_856 (by decide) ?_
                                                    refine wl_iadd C dL_law_857 ?_
                                                    refine wl_sld C hX hbl hbA h.1 dL_law_858 ?_
                                                    have h := h.2
                                                    refine wl_callVi C (cX7_lacks_M l G hg hA (xs (v3 + (1 : Int32)).toNatClampNeg) (xs (v3 + (2 : Int32)).toNatClampNeg) M _) h cw_L_112 hd_X7_lacks ⟨rfl, rfl⟩ ⟨by decide, by decide⟩ (gic_7 hA kq_0) (gc_k kq_0) rfl (As := [.int (xs (v3 + (1 : Int32)).toNatClampNeg), .int (xs (v3 + (2 : Int32)).toNatClampNeg)]) (rest := []) rfl (Nat.le_of_ble_eq_true rfl) ⟨hcc, hss⟩ rfl dL_law_859 (fun r90 M89 h => ?_)
                                                    refine wl_aload_n C dL_law_862 2 rfl ?_
                                                    refine wl_aload_n C dL_law_863 0 rfl ?_
                                                    refine wl_iload_n C dL_law_864 3 rfl ?_
                                                    refine wl_iconst (v := 1) C dL_law_865 (by decide) ?_
                                                    refine wl_iadd C dL_law_866 ?_
                                                    refine wl_sld C hX hbl hbA h.1 dL_law_867 ?_
                                                    have h := h.2
                                                    refine wl_aload_n C dL_law_868 0 rfl ?_
                                                    refine wl_iload_n C dL_law_869 3 rfl ?_
                                                    refine wl_iconst (v := 2) C dL_law_870 (by decide) ?_
                                                    refine wl_iadd C dL_law_871 ?_
                                                    refine wl_sld C hX hbl hbA h.1 dL_law_872 ?_
                                                    have h := h.2
                                                    refine wl_callVi C (cX8_lacks_M l G hg hB (xs (v3 + (1 : Int32)).toNatClampNeg) (xs (v3 + (2 : Int32)).toNatClampNeg) M89 _) h cw_L_115 hd_X8_lacks ⟨rfl, rfl⟩ ⟨by decide, by decide⟩ (gir_8 hB kq_79) (gc_k kq_79) rfl (As := [.int (xs (v3 + (1 : Int32)).toNatClampNeg), .int (xs (v3 + (2 : Int32)).toNatClampNeg)]) (rest := [.int r90]) rfl (Nat.le_of_ble_eq_true rfl) ⟨hcc, hss⟩ rfl dL_law_873 (fun r92 M91 h => ?_)
                                                    refine wl_icmp_eq C (tgt := 1006) dL_law_876 (by decide) (fun hc => ?_) (fun hc => ?_)
                                                    · have h := h.1 hc
                                                      refine wl_sub [0, 1, 2, 3] rfl ?_
                                                      exact kL_1006 l hL hX hbl hbA hg hA hB C hr hlocks hA0 hcc hss (wL_18 L xs n) (ih) v3 M91 h
                                                    · have h := h.2 hc
                                                      exact h.elim
                                                  · have h := h.2 ht22
                                                    by_cases ht23 : ((xs v3.toNatClampNeg) &&& (31 : Int32)) = (23 : Int32)
                                                    · have h := h.1 ht23
                                                      refine wl_tabIn C (tgt := 881) (23 : Int32) ht23 dL_law_32 (by decide) (by decide) rfl (by decide) ?_
                                                      refine wl_aload_n C dL_law_881 1 rfl ?_
                                                      refine wl_aload_n C dL_law_882 0 rfl ?_
                                                      refine wl_iload_n C dL_law_883 3 rfl ?_
                                                      refine wl_iconst (v := 1) C dL_law_884 (by decide) ?_
                                                      refine wl_iadd C dL_law_885 ?_
                                                      refine wl_sld C hX hbl hbA h.1 dL_law_886 ?_
                                                      have h := h.2
                                                      refine wl_aload_n C dL_law_887 0 rfl ?_
                                                      refine wl_iload_n C dL_law_888 3 rfl ?_
                                                      refine wl_iconst (v := 2) C dL_law_889 (by decide) ?_
                                                      refine wl_iadd C dL_law_890 ?_
                                                      refine wl_sld C hX hbl hbA h.1 dL_law_891 ?_
                                                      have h := h.2
                                                      refine wl_aload_n C dL_law_892 0 rfl ?_
                                                      refine wl_iload_n C dL_law_893 3 rfl ?_
                                                      refine wl_iconst (v := 3) C dL_law_894 (by decide) ?_
                                                      refine wl_iadd C dL_law_895 ?_
                                                      refine wl_sld C hX hbl hbA h.1 dL_law_896 ?_
                                                      have h := h.2
                                                      refine wl_callVi C (cX7_notice_M l G hg hA (xs (v3 + (1 : Int32)).toNatClampNeg) (xs (v3 + (2 : Int32)).toNatClampNeg) (xs (v3 + (3 : Int32)).toNatClampNeg) M _) h cw_L_116 hd_X7_notice ⟨rfl, rfl⟩ ⟨by decide, by decide⟩ (gic_7 hA kq_0) (gc_k kq_0) rfl (As := [.int (xs (v3 + (1 : Int32)).toNatClampNeg), .int (xs (v3 + (2 : Int32)).toNatClampNeg), .int (xs (v3 + (3 : Int32)).toNatClampNeg)]) (rest := []) rfl (Nat.le_of_ble_eq_true rfl) ⟨hcc, hss⟩ rfl dL_law_897 (fun r94 M93 h => ?_)
                                                      refine wl_aload_n C dL_law_900 2 rfl ?_
                                                      refine wl_aload_n C dL_law_901 0 rfl ?_
                                                      refine wl_iload_n C dL_law_902 3 rfl ?_
                                                      refine wl_iconst (v := 1) C dL_law_903 (by decide) ?_
                                                      refine wl_iadd C dL_law_904 ?_
                                                      refine wl_sld C hX hbl hbA h.1 dL_law_905 ?_
                                                      have h := h.2
                                                      refine wl_aload_n C dL_law_906 0 rfl ?_
                                                      refine wl_iload_n C dL_law_907 3 rfl ?_
                                                      refine wl_iconst (v := 2) C dL_law_908 (by decide) ?_
                                                      refine wl_iadd C dL_law_909 ?_
                                                      refine wl_sld C hX hbl hbA h.1 dL_law_910 ?_
                                                      have h := h.2
                                                      refine wl_aload_n C dL_law_911 0 rfl ?_
                                                      refine wl_iload_n C dL_law_912 3 rfl ?_
                                                      refine wl_iconst (v := 3) C dL_law_913 (by decide) ?_
                                                      refine wl_iadd C dL_law_914 ?_
                                                      refine wl_sld C hX hbl hbA h.1 dL_law_915 ?_
                                                      have h := h.2
                                                      refine wl_callVi C (cX8_notice_M l G hg hB (xs (v3 + (1 : Int32)).toNatClampNeg) (xs (v3 + (2 : Int32)).toNatClampNeg) (xs (v3 + (3 : Int32)).toNatClampNeg) M93 _) h cw_L_120 hd_X8_notice ⟨rfl, rfl⟩ ⟨by decide, by decide⟩ (gir_8 hB kq_79) (gc_k kq_79) rfl (As := [.int (xs (v3 + (1 : Int32)).toNatClampNeg), .int (xs (v3 + (2 : Int32)).toNatClampNeg), .int (xs (v3 + (3 : Int32)).toNatClampNeg)]) (rest := [.int r94]) rfl (Nat.le_of_ble_eq_true rfl) ⟨hcc, hss⟩ rfl dL_law_916 (fun r96 M95 h => ?_)
                                                      refine wl_icmp_eq C (tgt := 1006) dL_law_919 (by decide) (fun hc => ?_) (fun hc => ?_)
                                                      · have h := h.1 hc
                                                        refine wl_sub [0, 1, 2, 3] rfl ?_
                                                        exact kL_1006 l hL hX hbl hbA hg hA hB C hr hlocks hA0 hcc hss (wL_18 L xs n) (ih) v3 M95 h
                                                      · have h := h.2 hc
                                                        exact h.elim
                                                    · have h := h.2 ht23
                                                      by_cases ht24 : ((xs v3.toNatClampNeg) &&& (31 : Int32)) = (24 : Int32)
                                                      · have h := h.1 ht24
                                                        refine wl_tabIn C (tgt := 924) (24 : Int32) ht24 dL_law_32 (by decide) (by decide) rfl (by decide) ?_
                                                        refine wl_aload_n C dL_law_924 1 rfl ?_
                                                        refine wl_aload_n C dL_law_925 0 rfl ?_
                                                        refine wl_iload_n C dL_law_926 3 rfl ?_
                                                        refine wl_iconst (v := 1) C dL_law_927 (by decide) ?_
                                                        refine wl_iadd C dL_law_928 ?_
                                                        refine wl_sld C hX hbl hbA h.1 dL_law_929 ?_
                                                        have h := h.2
                                                        refine wl_aload_n C dL_law_930 0 rfl ?_
                                                        refine wl_iload_n C dL_law_931 3 rfl ?_
                                                        refine wl_iconst (v := 2) C dL_law_932 (by decide) ?_
                                                        refine wl_iadd C dL_law_933 ?_
                                                        refine wl_sld C hX hbl hbA h.1 dL_law_934 ?_
                                                        have h := h.2
                                                        refine wl_callVi C (cX7_pleased_M l G hg hA (xs (v3 + (1 : Int32)).toNatClampNeg) (xs (v3 + (2 : Int32)).toNatClampNeg) M _) h cw_L_121 hd_X7_pleased ⟨rfl, rfl⟩ ⟨by decide, by decide⟩ (gic_7 hA kq_0) (gc_k kq_0) rfl (As := [.int (xs (v3 + (1 : Int32)).toNatClampNeg), .int (xs (v3 + (2 : Int32)).toNatClampNeg)]) (rest := []) rfl (Nat.le_of_ble_eq_true rfl) ⟨hcc, hss⟩ rfl dL_law_935 (fun r98 M97 h => ?_)
                                                        refine wl_aload_n C dL_law_938 2 rfl ?_
                                                        refine wl_aload_n C dL_law_939 0 rfl ?_
                                                        refine wl_iload_n C dL_law_940 3 rfl ?_
                                                        refine wl_iconst (v := 1) C dL_law_941 (by decide) ?_
                                                        refine wl_iadd C dL_law_942 ?_
                                                        refine wl_sld C hX hbl hbA h.1 dL_law_943 ?_
                                                        have h := h.2
                                                        refine wl_aload_n C dL_law_944 0 rfl ?_
                                                        refine wl_iload_n C dL_law_945 3 rfl ?_
                                                        refine wl_iconst (v := 2) C dL_law_946 (by decide) ?_
                                                        refine wl_iadd C dL_law_947 ?_
                                                        refine wl_sld C hX hbl hbA h.1 dL_law_948 ?_
                                                        have h := h.2
                                                        refine wl_callVi C (cX8_pleased_M l G hg hB (xs (v3 + (1 : Int32)).toNatClampNeg) (xs (v3 + (2 : Int32)).toNatClampNeg) M97 _) h cw_L_124 hd_X8_pleased ⟨rfl, rfl⟩ ⟨by decide, by decide⟩ (gir_8 hB kq_79) (gc_k kq_79) rfl (As := [.int (xs (v3 + (1 : Int32)).toNatClampNeg), .int (xs (v3 + (2 : Int32)).toNatClampNeg)]) (rest := [.int r98]) rfl (Nat.le_of_ble_eq_true rfl) ⟨hcc, hss⟩ rfl dL_law_949 (fun r100 M99 h => ?_)
                                                        refine wl_icmp_eq C (tgt := 1006) dL_law_952 (by decide) (fun hc => ?_) (fun hc => ?_)
                                                        · have h := h.1 hc
                                                          refine wl_sub [0, 1, 2, 3] rfl ?_
                                                          exact kL_1006 l hL hX hbl hbA hg hA hB C hr hlocks hA0 hcc hss (wL_18 L xs n) (ih) v3 M99 h
                                                        · have h := h.2 hc
                                                          exact h.elim
                                                      · have h := h.2 ht24
                                                        by_cases ht25 : ((xs v3.toNatClampNeg) &&& (31 : Int32)) = (25 : Int32)
                                                        · have h := h.1 ht25
                                                          refine wl_tabIn C (tgt := 957) (25 : Int32) ht25 dL_law_32 (by decide) (by decide) rfl (by decide) ?_
                                                          refine wl_aload_n C dL_law_957 1 rfl ?_
                                                          refine wl_callVi C (cX7_keep_M l G hg hA M _) h cw_L_125 hd_X7_keep ⟨rfl, rfl⟩ ⟨by decide, by decide⟩ (gic_7 hA kq_0) (gc_k kq_0) rfl (As := []) (rest := []) rfl (Nat.le_of_ble_eq_true rfl) ⟨hcc, hss⟩ rfl dL_law_958 (fun r102 M101 h => ?_)
                                                          refine wl_aload_n C dL_law_961 2 rfl ?_
                                                          refine wl_callVi C (cX8_keep_M l G hg hB M101 _) h cw_L_128 hd_X8_keep ⟨rfl, rfl⟩ ⟨by decide, by decide⟩ (gir_8 hB kq_79) (gc_k kq_79) rfl (As := []) (rest := [.int r102]) rfl (Nat.le_of_ble_eq_true rfl) ⟨hcc, hss⟩ rfl dL_law_962 (fun r104 M103 h => ?_)
                                                          refine wl_icmp_eq C (tgt := 1006) dL_law_965 (by decide) (fun hc => ?_) (fun hc => ?_)
                                                          · have h := h.1 hc
                                                            refine wl_sub [0, 1, 2, 3] rfl ?_
                                                            exact kL_1006 l hL hX hbl hbA hg hA hB C hr hlocks hA0 hcc hss (wL_18 L xs n) (ih) v3 M103 h
                                                          · have h := h.2 hc
                                                            exact h.elim
                                                        · have h := h.2 ht25
                                                          by_cases ht26 : ((xs v3.toNatClampNeg) &&& (31 : Int32)) = (26 : Int32)
                                                          · have h := h.1 ht26
                                                            refine wl_tabIn C (tgt := 970) (26 : Int32) ht26 dL_law_32 (by decide) (by decide) rfl (by decide) ?_
                                                            refine wl_aload_n C dL_law_970 1 rfl ?_
                                                            refine wl_callVi C (cX7_back_M l G hg hA M _) h cw_L_129 hd_X7_back ⟨rfl, rfl⟩ ⟨by decide, by decide⟩ (gic_7 hA kq_0) (gc_k kq_0) rfl (As := []) (rest := []) rfl (Nat.le_of_ble_eq_true rfl) ⟨hcc, hss⟩ rfl dL_law_971 (fun r106 M105 h => ?_)
                                                            refine wl_aload_n C dL_law_974 2 rfl ?_
                                                            refine wl_callVi C (cX8_back_M l G hg hB M105 _) h cw_L_132 hd_X8_back ⟨rfl, rfl⟩ ⟨by decide, by decide⟩ (gir_8 hB kq_79) (gc_k kq_79) rfl (As := []) (rest := [.int r106]) rfl (Nat.le_of_ble_eq_true rfl) ⟨hcc, hss⟩ rfl dL_law_975 (fun r108 M107 h => ?_)
                                                            refine wl_icmp_eq C (tgt := 1006) dL_law_978 (by decide) (fun hc => ?_) (fun hc => ?_)
                                                            · have h := h.1 hc
                                                              refine wl_sub [0, 1, 2, 3] rfl ?_
                                                              exact kL_1006 l hL hX hbl hbA hg hA hB C hr hlocks hA0 hcc hss (wL_18 L xs n) (ih) v3 M107 h
                                                            · have h := h.2 hc
                                                              exact h.elim
                                                          · have h := h.2 ht26
                                                            by_cases ht27 : ((xs v3.toNatClampNeg) &&& (31 : Int32)) = (27 : Int32)
                                                            · have h := h.1 ht27
                                                              refine wl_tabIn C (tgt := 983) (27 : Int32) ht27 dL_law_32 (by decide) (by decide) rfl (by decide) ?_
                                                              refine wl_aload_n C dL_law_983 1 rfl ?_
                                                              refine wl_aload_n C dL_law_984 0 rfl ?_
                                                              refine wl_iload_n C dL_law_985 3 rfl ?_
                                                              refine wl_iconst (v := 1) C dL_law_986 (by decide) ?_
                                                              refine wl_iadd C dL_law_987 ?_
                                                              refine wl_sld C hX hbl hbA h.1 dL_law_988 ?_
                                                              have h := h.2
                                                              refine wl_callVi C (cX7_count_M l G hg hA (xs (v3 + (1 : Int32)).toNatClampNeg) M _) h cw_L_133 hd_X7_count ⟨rfl, rfl⟩ ⟨by decide, by decide⟩ (gic_7 hA kq_0) (gc_k kq_0) rfl (As := [.int (xs (v3 + (1 : Int32)).toNatClampNeg)]) (rest := []) rfl (Nat.le_of_ble_eq_true rfl) ⟨hcc, hss⟩ rfl dL_law_989 (fun r110 M109 h => ?_)
                                                              refine wl_aload_n C dL_law_992 2 rfl ?_
                                                              refine wl_aload_n C dL_law_993 0 rfl ?_
                                                              refine wl_iload_n C dL_law_994 3 rfl ?_
                                                              refine wl_iconst (v := 1) C dL_law_995 (by decide) ?_
                                                              refine wl_iadd C dL_law_996 ?_
                                                              refine wl_sld C hX hbl hbA h.1 dL_law_997 ?_
                                                              have h := h.2
                                                              refine wl_callVi C (cX8_count_M l G hg hB (xs (v3 + (1 : Int32)).toNatClampNeg) M109 _) h cw_L_136 hd_X8_count ⟨rfl, rfl⟩ ⟨by decide, by decide⟩ (gir_8 hB kq_79) (gc_k kq_79) rfl (As := [.int (xs (v3 + (1 : Int32)).toNatClampNeg)]) (rest := [.int r110]) rfl (Nat.le_of_ble_eq_true rfl) ⟨hcc, hss⟩ rfl dL_law_998 (fun r112 M111 h => ?_)
                                                              refine wl_icmp_eq C (tgt := 1006) dL_law_1001 (by decide) (fun hc => ?_) (fun hc => ?_)
                                                              · have h := h.1 hc
                                                                refine wl_sub [0, 1, 2, 3] rfl ?_
                                                                exact kL_1006 l hL hX hbl hbA hg hA hB C hr hlocks hA0 hcc hss (wL_18 L xs n) (ih) v3 M111 h
                                                              · have h := h.2 hc
                                                                exact h.elim
                                                            · have h := h.2 ht27
                                                              refine wl_tabOut C (tgt := 1006) dL_law_32 (by have qht0 := tb_ne ht0 (show Int32.toInt 0 = 0 from rfl); have qht1 := tb_ne ht1 (show Int32.toInt 1 = 1 from rfl); have qht2 := tb_ne ht2 (show Int32.toInt 2 = 2 from rfl); have qht3 := tb_ne ht3 (show Int32.toInt 3 = 3 from rfl); have qht4 := tb_ne ht4 (show Int32.toInt 4 = 4 from rfl); have qht5 := tb_ne ht5 (show Int32.toInt 5 = 5 from rfl); have qht6 := tb_ne ht6 (show Int32.toInt 6 = 6 from rfl); have qht7 := tb_ne ht7 (show Int32.toInt 7 = 7 from rfl); have qht8 := tb_ne ht8 (show Int32.toInt 8 = 8 from rfl); have qht9 := tb_ne ht9 (show Int32.toInt 9 = 9 from rfl); have qht10 := tb_ne ht10 (show Int32.toInt 10 = 10 from rfl); have qht11 := tb_ne ht11 (show Int32.toInt 11 = 11 from rfl); have qht12 := tb_ne ht12 (show Int32.toInt 12 = 12 from rfl); have qht13 := tb_ne ht13 (show Int32.toInt 13 = 13 from rfl); have qht14 := tb_ne ht14 (show Int32.toInt 14 = 14 from rfl); have qht15 := tb_ne ht15 (show Int32.toInt 15 = 15 from rfl); have qht16 := tb_ne ht16 (show Int32.toInt 16 = 16 from rfl); have qht17 := tb_ne ht17 (show Int32.toInt 17 = 17 from rfl); have qht18 := tb_ne ht18 (show Int32.toInt 18 = 18 from rfl); have qht19 := tb_ne ht19 (show Int32.toInt 19 = 19 from rfl); have qht20 := tb_ne ht20 (show Int32.toInt 20 = 20 from rfl); have qht21 := tb_ne ht21 (show Int32.toInt 21 = 21 from rfl); have qht22 := tb_ne ht22 (show Int32.toInt 22 = 22 from rfl); have qht23 := tb_ne ht23 (show Int32.toInt 23 = 23 from rfl); have qht24 := tb_ne ht24 (show Int32.toInt 24 = 24 from rfl); have qht25 := tb_ne ht25 (show Int32.toInt 25 = 25 from rfl); have qht26 := tb_ne ht26 (show Int32.toInt 26 = 26 from rfl); have qht27 := tb_ne ht27 (show Int32.toInt 27 = 27 from rfl); omega) (by decide) ?_
                                                              refine wl_sub [0, 1, 2, 3] rfl ?_
                                                              exact kL_1006 l hL hX hbl hbA hg hA hB C hr hlocks hA0 hcc hss (wL_18 L xs n) (ih) v3 M h
