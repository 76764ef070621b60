/-! ONE MEMORY: every cell of both machines has a number (its id); a cell's ints are M id; the worlds of the kit are read off M. -/
abbrev Mem : Type := Nat → Nat → Int32
def mu (M : Mem) (i k : Nat) (v : Int32) : Mem := fun a => if a = i then upd (M i) k v else M a
theorem mu_self (M : Mem) (i k : Nat) (v : Int32) : mu M i k v i = upd (M i) k v := if_pos rfl
theorem mu_ne {M : Mem} {i k : Nat} {v : Int32} {a : Nat} (h : a ≠ i) : mu M i k v a = M a := if_neg h
def loL (x : Int64) : Int32 := Int32.ofNat (x.toBitVec.toNat % 4294967296)
def hiL (x : Int64) : Int32 := Int32.ofNat (x.toBitVec.toNat / 4294967296)
def mkL (lo hi : Int32) : Int64 := Int64.ofNat (lo.toBitVec.toNat + 4294967296 * hi.toBitVec.toNat)
theorem mkL_eq (x : Int64) : mkL (loL x) (hiL x) = x := by
  have hx : x.toBitVec.toNat < 18446744073709551616 := x.toBitVec.isLt
  have h1 : (loL x).toBitVec.toNat = x.toBitVec.toNat % 4294967296 := by
    show (BitVec.ofNat 32 _).toNat = _
    rw [BitVec.toNat_ofNat]; omega
  have h2 : (hiL x).toBitVec.toNat = x.toBitVec.toNat / 4294967296 := by
    show (BitVec.ofNat 32 _).toNat = _
    rw [BitVec.toNat_ofNat]; omega
  unfold mkL
  rw [h1, h2, show x.toBitVec.toNat % 4294967296 + 4294967296 * (x.toBitVec.toNat / 4294967296) = x.toBitVec.toNat by omega]
  apply Int64.toBitVec_inj.mp
  show BitVec.ofNat 64 _ = _
  rw [BitVec.ofNat_toNat, BitVec.setWidth_eq]
/-- a long array's cell k lies in two ints -/
def muL (M : Mem) (i k : Nat) (x : Int64) : Mem := mu (mu M i (2 * k) (loL x)) i (2 * k + 1) (hiL x)
def rdL (M : Mem) (i k : Nat) : Int64 := mkL (M i (2 * k)) (M i (2 * k + 1))
theorem rdL_muL (M : Mem) (i k : Nat) (x : Int64) : (fun j => rdL (muL M i k x) i j) = vp_updL (fun j => rdL M i j) k x := by
  funext j
  by_cases h : j = k
  · subst h
    have e1 : muL M i j x i (2 * j) = loL x := by
      unfold muL; rw [mu_self, mu_self]; simp [upd]
    have e2 : muL M i j x i (2 * j + 1) = hiL x := by
      unfold muL; rw [mu_self]; simp [upd]
    simp only [rdL, vp_updL, e1, e2, mkL_eq, if_true]
  · have e1 : muL M i k x i (2 * j) = M i (2 * j) := by
      unfold muL; rw [mu_self, mu_self]
      simp only [upd]
      rw [if_neg (by omega), if_neg (by omega)]
    have e2 : muL M i k x i (2 * j + 1) = M i (2 * j + 1) := by
      unfold muL; rw [mu_self, mu_self]
      simp only [upd]
      rw [if_neg (by omega), if_neg (by omega)]
    simp only [rdL, vp_updL, e1, e2, if_neg h]
def kdL : List Nat := [7, 5, 4, 9, 6, 4, 9, 4, 9, 4, 9, 4, 9, 6, 4, 9, 4, 9, 4, 9, 4, 9, 1, 4, 9, 4, 9, 1, 4, 9, 4, 9, 3, 1, 4, 9, 4, 9, 4, 9, 4, 9, 4, 9, 4, 9, 4, 9, 4, 9, 4, 9, 0, 4, 9, 4, 9, 4, 9, 4, 9, 2, 1, 4, 9, 4, 9, 2, 1, 4, 9, 4, 9, 2, 1, 4, 9, 4, 9, 8, 10, 10, 10, 10, 10, 10, 10, 10, 10, 10, 10, 10, 10, 11, 10, 10, 10, 10, 10, 10, 10, 10, 10, 10, 10, 10]
def kd (i : Nat) : Nat := kdL.getD i 12
def lnL : List Nat := [0, 0, 0, 300, 0, 0, 20, 0, 20, 0, 20, 0, 2, 0, 0, 20, 0, 20, 0, 20, 0, 2, 0, 0, 40, 0, 40, 0, 0, 40, 0, 40, 0, 0, 0, 40, 0, 40, 0, 40, 0, 40, 0, 40, 0, 40, 0, 40, 0, 40, 0, 40, 0, 0, 40, 0, 40, 0, 12, 0, 12, 0, 0, 0, 40, 0, 40, 0, 0, 0, 40, 0, 40, 0, 0, 0, 40, 0, 40, 0, 300, 2, 2, 2, 2, 2, 80, 2, 40, 40, 120, 3, 3, 12, 12, 12, 2, 40, 40, 40, 40, 40, 40, 40, 40, 40]
def ln (i : Nat) : Nat := lnL.getD i 0
def rid (x : Int32) : Nat := x.toNatClampNeg
abbrev gP : Type := va_G × (Nat → Nat) × (Nat × Nat) × (ClassId × ClassId)
abbrev gAD (G : gP) (i : Nat) : Nat := G.2.1 i
def gI (G : gP) (i : Nat) : Prop := G.2.2.1.1 ≤ i ∧ i < G.2.2.1.2
/-- the cell with the number i, of kind k -/
def gF (G : gP) (M : Mem) (k i : Nat) : va_E := match k with
  | 0 => .inr (0, [.ref (gAD G (i + 1)), .ref (gAD G (i + 3)), .int (M i 2), .int (M i 3), .int (M i 4)])
  | 1 => .inr (1, [.ref (gAD G (i + 1)), .ref (gAD G (i + 3)), .int (M i 2)])
  | 2 => .inr (2, [.ref (gAD G (i + 1)), .int (M i 1), .int (M i 2)])
  | 3 => .inr (3, [.ref (gAD G (i + 1)), .int (M i 1), .ref (gAD G (i + 6)), .ref (gAD G (i + 8)), .ref (gAD G (i + 10)), .ref (gAD G (i + 12)), .ref (gAD G (i + 14)), .ref (gAD G (i + 16)), .ref (gAD G (i + 18))])
  | 4 => .inr (4, [.ref (gAD G (i + 1))])
  | 5 => .inr (5, [.ref (gAD G (i + 1)), .int (M i 1)])
  | 6 => .inr (6, [.int (M i 0), .int (M i 1), .int (M i 2), .int (M i 3), .ref (gAD G (i + 1)), .ref (gAD G (i + 3)), .int (M i 6), .ref (gAD G (i + 5)), .int (M i 8), .ref (gAD G (i + 7))])
  | 7 => .inr (7, [.ref (gAD G (i + 1)), .ref (gAD G (rid (M i 1))), .ref (gAD G (rid (M i 2))), .ref (gAD G (i + 22)), .ref (gAD G (i + 27)), .ref (gAD G (i + 32)), .ref (gAD G (i + 52)), .ref (gAD G (i + 57)), .ref (gAD G (i + 59)), .int (M i 9), .ref (gAD G (i + 61)), .ref (gAD G (i + 67)), .ref (gAD G (i + 73)), .int (M i 13)])
  | 8 => .inr (8, [.int (M i 0), .ref (gAD G (i + 1)), .ref (gAD G (i + 2)), .ref (gAD G (i + 3)), .ref (gAD G (i + 4)), .ref (gAD G (i + 5)), .ref (gAD G (i + 6)), .ref (gAD G (i + 7)), .ref (gAD G (i + 8)), .ref (gAD G (i + 9)), .ref (gAD G (i + 10)), .ref (gAD G (i + 11)), .ref (gAD G (i + 12)), .ref (gAD G (i + 13)), .int (M i 14), .int (M i 15), .ref (gAD G (i + 14)), .ref (gAD G (i + 15)), .ref (gAD G (i + 16)), .int (M i 19), .ref (gAD G (i + 17)), .ref (gAD G (i + 18)), .ref (gAD G (i + 19)), .ref (gAD G (i + 20)), .ref (gAD G (i + 21)), .ref (gAD G (i + 22)), .ref (gAD G (i + 23)), .ref (gAD G (i + 24)), .ref (gAD G (i + 25)), .int (M i 29), .ref (gAD G (i + 26))])
  | 9 => .inl (G.2.2.2.1, ln i, .inl (M i))
  | 10 => .inl (G.2.2.2.1, ln i, .inl (M i))
  | 11 => .inl (G.2.2.2.2, ln i, .inr (.inl (fun j => rdL M i j)))
  | _ => .inr (0, [])
def gc (G : gP) (M : Mem) (i : Nat) : va_E := gF G M (kd i) i
theorem gc_k {G : gP} {M : Mem} {i k : Nat} (h : kd i = k) : gc G M i = gF G M k i := by unfold gc; rw [h]
theorem gF_row {G : gP} {M M' : Mem} {k i : Nat} (h : M' i = M i) : gF G M' k i = gF G M k i := by
  unfold gF rdL
  rw [h]
theorem gc_row {G : gP} {M M' : Mem} {i : Nat} (h : M' i = M i) : gc G M' i = gc G M i := gF_row h
def gl (G : gP) (M : Mem) : va_W := (List.range (G.2.2.1.2 - G.2.2.1.1)).map (fun k => (gAD G (G.2.2.1.1 + k), gc G M (G.2.2.1.1 + k)))
def GW (G : gP) (M : Mem) (H : Heap) : Prop := va_P G.1 vwCl (gl G M) H
def gA (G : gP) : Nat → Prop := fun q => ∃ i, gI G i ∧ q = gAD G i
def gIn (G : gP) : Prop := ∀ i j, gI G i → gI G j → gAD G i = gAD G j → i = j
theorem gl_at {G : gP} {M : Mem} {k : Nat} (h : k < G.2.2.1.2 - G.2.2.1.1) : (gl G M)[k]? = some (gAD G (G.2.2.1.1 + k), gc G M (G.2.2.1.1 + k)) := by
  unfold gl
  rw [List.getElem?_map, List.getElem?_range h]
  rfl
theorem gl_len {G : gP} {M : Mem} : (gl G M).length = G.2.2.1.2 - G.2.2.1.1 := by simp [gl]
theorem gl_get {G : gP} {M : Mem} {i : Nat} (h : gI G i) : (gl G M)[i - G.2.2.1.1]? = some (gAD G i, gc G M i) := by
  obtain ⟨h1, h2⟩ := h
  rw [gl_at (by omega), show G.2.2.1.1 + (i - G.2.2.1.1) = i by omega]
theorem gl_set {G : gP} {M M' : Mem} {i : Nat} {e : va_E} (h : gI G i) (he : gc G M' i = e) (hj : ∀ j, j ≠ i → M' j = M j) : (gl G M).set (i - G.2.2.1.1) (gAD G i, e) = gl G M' := by
  obtain ⟨h1, h2⟩ := h
  apply List.ext_getElem?
  intro k
  by_cases hk : k < G.2.2.1.2 - G.2.2.1.1
  · rw [gl_at hk]
    by_cases hki : k = i - G.2.2.1.1
    · subst hki
      rw [List.getElem?_set_self (by rw [gl_len]; omega), show G.2.2.1.1 + (i - G.2.2.1.1) = i by omega, he]
    · rw [List.getElem?_set_ne (Ne.symm hki), gl_at hk, gc_row (hj (G.2.2.1.1 + k) (by omega))]
  · rw [List.getElem?_eq_none (by rw [List.length_set, gl_len]; omega), List.getElem?_eq_none (by rw [gl_len]; omega)]
theorem gl_D {G : gP} {M : Mem} {A : Nat → Prop} (hG : gIn G) (hA : ∀ q, gA G q → A q) : va_D A (gl G M) := by
  have key : ∀ (k : Nat) (q : Nat × va_E), (gl G M)[k]? = some q → k < G.2.2.1.2 - G.2.2.1.1 ∧ q.1 = gAD G (G.2.2.1.1 + k) := by
    intro k q h
    have hk : k < G.2.2.1.2 - G.2.2.1.1 := by
      have := (List.getElem?_eq_some_iff.mp h).1
      rwa [gl_len] at this
    rw [gl_at hk] at h
    cases h
    exact ⟨hk, rfl⟩
  refine ⟨fun i j p q hi hj hpq => ?_, fun k q hk => ?_⟩
  · obtain ⟨i1, i2⟩ := key i p hi
    obtain ⟨j1, j2⟩ := key j q hj
    have := hG (G.2.2.1.1 + i) (G.2.2.1.1 + j) ⟨by omega, by omega⟩ ⟨by omega, by omega⟩ (by rw [← i2, ← j2]; exact hpq)
    omega
  · obtain ⟨k1, k2⟩ := key k q hk
    exact hA _ ⟨G.2.2.1.1 + k, ⟨by omega, by omega⟩, k2⟩
theorem gl_free {G : gP} {M : Mem} {sz : Nat} {A : Nat → Prop} (hA : ∀ q, gA G q → A q) {i : Nat} (h : gI G i) : A (gAD G i) := hA _ ⟨i, h, rfl⟩
def gKK (G : gP) (U : State) : Prop := va_K G.1 vwCl [(G.2.2.2.1, .int)] U ∧ (∀ q ∈ nestF, va_Nw (.fieldLinkNest q.1 q.2.1 q.2.2.1 q.2.2.2.1 q.2.2.2.2.1 q.2.2.2.2.2) U) ∧ ∀ q ∈ nestM, va_Nw (.methodLinkNest q.1 q.2.1 q.2.2.1 q.2.2.2) U
theorem gKK.warm {G : gP} {s U : State} (hW : s.WarmedH U.vm) (h : gKK G s) : gKK G U := ⟨va_K.moved hW.alike h.1, fun q hq => va_Nw.warmF hW (h.2.1 q hq), fun q hq => va_Nw.warmM hW (h.2.2 q hq)⟩
theorem gKK.same {G : gP} {u U : State} (hv : u.vm = U.vm) (h : gKK G u) : gKK G U := ⟨va_K.moved (u := u) (U := U) (by rw [hv]; exact Vm.Alike.refl _) h.1, fun q hq => va_Nw.same rfl hv (h.2.1 q hq), fun q hq => va_Nw.same rfl hv (h.2.2 q hq)⟩
def gS (G : gP) (M : Mem) (U : State) : Prop := gKK G U ∧ GW G M U.heap
def gB (G : gP) : Mem → State → Prop := fun M t => GW G M t.heap
def Cx (p : Program) (s : State) (m : MethodId) (args : Array Value) (meth : Method) (c : Code) (G : gP) (A : Nat → Prop) (cc : ByteArray) (nL : Nat) (own : String) : Prop :=
  p.tables.exec = Jvm.exec ∧ c.code = cc ∧ c.maxLocals = nL ∧ s.vm.findClass own = some m.cls ∧ (∀ w ∈ TB, w.before args s = true) ∧ gKK G s ∧ gIn G ∧ (∀ q, gA G q → A q) ∧ meth.locks = false
/-- at pc, with the locals lv and the stack st, the memory M: the rest of the way is good -/
def Wl (p : Program) (l : Launch) (e : Env) (R : Room) (s : State) (m : MethodId) (args : Array Value) (below : List Frame) (meth : Method) (c : Code) (Qf : State → Prop) (G : gP) (A : Nat → Prop) (nL cells slots : Nat) (M : Mem) (pc : Nat) (lv : List (Nat × Value)) (st : List Value) : Prop :=
  ∀ (H : Heap) (locs : List Loc) (ls : Array Slot), GW G M H → va_S A s.heap H locs → lv_has ls nL lv → W p l e R s m args below meth c H locs cells slots Qf (F0 m pc ls st)
/-- Met.ofW for a method of a class of which the machine runs some methods itself, but not this one -/
theorem gMetWF {l : Launch} {y : MethodName} {ws ws' : List Cond} {rm : Room} {Pc : Array Value → State → Prop} {Qc : Array Value → State → Outcome → State → Prop} {mc ms : Nat} {free : Addr → Prop} {cc : ByteArray} {maxL : Nat} {ret : Option FieldType}
    (hy : plainFor y = true) (hw : ws = Cond.code y cc maxL ret :: ws')
    (body : ∀ p e s m args below meth c s₁, BodyLoose p l y (headSpec ws rm) cc maxL ret e s m args below meth c s₁ → c.maxLocals = maxL → Pc args s →
      W p l e (headSpec ws rm).room s m args below meth c s.heap [] 0 0 (MQ below Qc args s mc ms free) (entryFrame m args maxL)) : Met l y ws rm Pc Qc mc ms free := by
  refine MetFree.of_bodySF (code := cc) (maxLocals := maxL) (ret := ret) hy ?_ ?_
  · intro args s m h hn
    obtain ⟨meth, c, h1, h2, h3, h4, h5, h6, -, -⟩ := Cond.code_spec hn (atoms_spec (ws := ws) h _ (by rw [hw]; exact List.mem_cons_self))
    exact ⟨meth, c, h1, h2, h3, h4, h5, h6⟩
  · intro p e s m args below meth c s₁ B hml hP _
    have hh0 : s₁.heap = s.heap := by rw [B.state]; rfl
    obtain ⟨t, a1, o, b1, b2, b3⟩ := body p e s m args below meth c s₁ B hml hP s₁ hh0 (Stand.of_body B)
    exact ⟨t, o, a1, b1, b2, ⟨b3.1, b3.2⟩⟩
theorem gMet {l : Launch} {y : MethodName} {w0 : Cond} {rm : Room} {As : List Value} {M : Mem} {pre : Prop} {Qc : Array Value → State → Outcome → State → Prop} {cc : ByteArray} {maxL : Nat} {ret : Option FieldType} {G : gP} (hy : plainFor y = true) (hw0 : w0 = Cond.code y cc maxL ret) (hG : gIn G) (hAs : (lg_sl As).length ≤ maxL) (lv : List (Nat × Value)) (hlv : lv_args 0 As = lv)
    (body : ∀ (p : Program) (e : Env) (s : State) (m : MethodId) (args : Array Value) (below : List Frame) (meth : Method) (c : Code), Cx p s m args meth c G (gA G) cc maxL y.cls → meth.sig.returnType = ret → pre → Wl p l e rm s m args below meth c (MQ below Qc args s 0 0 (gA G)) G (gA G) maxL 0 0 M 0 lv []) :
    Met l y (w0 :: TB) rm (va_Pc As (fun U => gS G M U ∧ pre)) Qc 0 0 (gA G) := by
  subst hw0
  subst hlv
  refine gMetWF (cc := cc) (maxL := maxL) (ret := ret) hy rfl ?_
  intro p e s m args below meth c s₁ B hml hv
  obtain ⟨rfl, ⟨hK, hW⟩, hpre⟩ := hv
  have hts := atoms_spec (ws := Cond.code y cc maxL ret :: TB) B.pre
  have hb := body p e s m As.toArray below meth c ⟨B.exec, B.bytes, hml, findClass_of_methodNamed B.named, fun w hw => hts w (List.mem_cons_of_mem _ hw), hK, hG, fun _ h => h, B.notSynchronized⟩ B.returns hpre
  rw [lg_entry_eq]
  exact hb s.heap [] _ hW va_S.rf (lv_entry As hAs)
theorem g_good (y : MethodName) (cc : ByteArray) (maxL : Nat) (ret : Option FieldType) (h5 : Cond.code y cc maxL ret ∈ TB) : GoodIn TB (Cond.code y cc maxL ret :: TB) := fun w hw => by
  rcases List.mem_cons.mp hw with rfl | hw
  · exact ⟨h5, good_of_word (tb_good _ h5)⟩
  · exact ⟨hw, good_of_word (tb_good _ hw)⟩
theorem g_goodW {ws : List Cond} (h : ∀ w ∈ ws, w ∈ TB) : GoodIn TB ws := fun w hw => ⟨h w hw, good_of_word (tb_good _ (h w hw))⟩
