/-! THE TEXT THAT THE LAW WRITES, byte by byte -/
theorem and_nI (y : Int32) {m : Nat} (hm : m < 2 ^ 31) : ∃ k, k ≤ m ∧ y &&& nI m = nI k := by
  refine ⟨y.toBitVec.toNat &&& m, Nat.and_le_right, ?_⟩
  apply Int32.toBitVec_inj.mp
  apply BitVec.eq_of_toNat_eq
  rw [Int32.toBitVec_and, BitVec.toNat_and]
  have h1 : (nI m).toBitVec.toNat = m := by
    show (BitVec.ofNat 32 m).toNat = m
    rw [BitVec.toNat_ofNat]
    omega
  have h2 : y.toBitVec.toNat &&& m ≤ m := Nat.and_le_right
  have h3 : (nI (y.toBitVec.toNat &&& m)).toBitVec.toNat = y.toBitVec.toNat &&& m := by
    show (BitVec.ofNat 32 (y.toBitVec.toNat &&& m)).toNat = _
    rw [BitVec.toNat_ofNat]
    omega
  rw [h1, h3]
theorem some_nI (v : Int32) {n : Nat} (h0 : 0 < n) (hn : n < 2 ^ 31) : ∃ k, k < n ∧ someV v (nI n) = nI k := by
  obtain ⟨k, k1, k2⟩ := and_nI v (m := 2147483647) (by omega)
  refine ⟨k % n, Nat.mod_lt _ h0, ?_⟩
  unfold someV
  rw [show (2147483647 : Int32) = nI 2147483647 from rfl, k2]
  exact pk_rem (by omega) h0 hn
theorem low_byte : ∀ c, c < 256 → (((((nI c).toInt64).toUInt64 >>> (((8 : Int32) * nI 0).toInt64.toUInt64 &&& Int64.toUInt64 63)).toInt64 &&& (255 : Int64)).toInt32) = nI c := by decide +kernel
/-- what a write leaves as it was -/
def F13 (M M1 : Mem) : Prop := ∀ z, z ≠ 1 → z ≠ 3 → M1 z = M z
theorem F13_refl (M : Mem) : F13 M M := fun _ _ _ => rfl
theorem F13_trans {M M1 M2 : Mem} (h1 : F13 M M1) (h2 : F13 M1 M2) : F13 M M2 := fun z a b => (h2 z a b).trans (h1 z a b)
theorem w_byte {M : Mem} {tl c : Nat} {tx : Nat → Nat} {Q : Int32 → Mem → Prop} (hT : T7 M tl tx) (hc : c < 256) (h3 : tl < 300) (h : ∀ M1, T7 M1 (tl + 1) (un tx tl c) → F13 M M1 → Q (nI (tl + 1)) M1) : wX7_write (1 : Int32) (nI c).toInt64 M Q := by
  obtain ⟨t1, t2, t3⟩ := hT
  show wX7_write (nI 1) (nI c).toInt64 M Q
  refine s7_within (a := 1) (b := 8) (by omega) (by omega) (fun _ => i_t ?_) (fun q => absurd ⟨1, by omega, by omega, rfl⟩ q)
  obtain ⟨bx, H⟩ := BX_ex (nI c).toInt64
  have hb : bx 0 = c := by
    have h1 := (H 0 (by omega)).2.1
    rw [low_byte c hc] at h1
    exact (nI_inj (by omega) (by have := (H 0 (by omega)).1; omega) h1).symm
  unfold wX5_size
  dsimp only
  rw [t1, nI_add]
  refine b_le (a := tl + 1) (b := 300) (by omega) (by omega) (fun _ => ?_) (fun q => by omega)
  unfold wX5_append
  rw [show nI 1 - (1 : Int32) = nI 1 + (-1) by decide]
  refine ⟨2, s5_append H 1 tl M (by omega) (by omega) t1 fun M1 c1 c2 c3 c4 => ?_⟩
  rw [c1]
  refine h M1 ⟨c1, by omega, fun k hk => ?_⟩ c4
  by_cases e : k = tl
  · subst e
    rw [un_at, c3 k (by omega) (by omega), show k + 1 - 1 - k = 0 by omega, hb]
    exact ⟨rfl, hc⟩
  · rw [un_no e, c2 k (by omega)]
    exact t3 k (by omega)
theorem npos {k : Nat} {A B : Prop} (hk : k < 2 ^ 31) (h0 : 0 < k) (h : B) : (nI k ≤ 0 → A) ∧ (¬ nI k ≤ 0 → B) :=
  b_le (a := k) (b := 0) hk (by omega) (fun q => by omega) (fun _ => h)
theorem num_d : ∀ v, v < 100 → (48 : Int32) + nI v / (10 : Int32) = nI (48 + v / 10) := by decide +kernel
theorem num_m : ∀ v, v < 100 → (48 : Int32) + (nI v - (nI v / (10 : Int32)) * (10 : Int32)) = nI (48 + v % 10) := by decide +kernel
theorem byt_i {tl k : Nat} {tx : Nat → Nat} (h : k < tl) : byt tl tx k = tx k := if_pos h
theorem ONE_ext {tl tl2 p sep p' x : Nat} {tx tx2 : Nat → Nat} (hs : sep ≠ 0) (h : ONE tl tx p sep p' x) (hl : tl ≤ tl2) (hx : ∀ k, k < tl → tx2 k = tx k) : ONE tl2 tx2 p sep p' x := by
  have hb := ONE_b hs h
  have e : ∀ k, k < p' → byt tl2 tx2 k = byt tl tx k := fun k hk => by rw [byt_i (by omega), byt_i (by omega), hx k (by omega)]
  obtain ⟨h1, h2⟩ := h
  unfold ONE
  rcases h2 with ⟨a, b, c, d⟩ | ⟨a, b, c, d⟩
  · rw [e p (by omega), e (p + 1) (by omega)]
    exact ⟨h1, Or.inl ⟨a, b, c, d⟩⟩
  · rw [e p (by omega), e (p + 1) (by omega), e (p + 2) (by omega)]
    exact ⟨h1, Or.inr ⟨a, b, c, d⟩⟩
theorem ITM_ext {tl tl2 p p' : Nat} {tx tx2 : Nat → Nat} {D D' : Dr} (h : ITM tl tx p D p' D') (hl : tl ≤ tl2) (hx : ∀ k, k < tl → tx2 k = tx k) : ITM tl2 tx2 p D p' D' := by
  have hb := ITM_b h
  have e : byt tl2 tx2 p = byt tl tx p := by rw [byt_i (by omega), byt_i (by omega), hx p (by omega)]
  unfold ITM
  rw [e]
  rcases h with ⟨a, x, b, c⟩ | ⟨a, x, b, c⟩ | ⟨a, q, x, y, b, b', c⟩ | ⟨a, q, x, y, b, b', c⟩ | ⟨a, x, b, c⟩
  · exact Or.inl ⟨a, x, ONE_ext (by decide) b hl hx, c⟩
  · exact Or.inr (Or.inl ⟨a, x, ONE_ext (by decide) b hl hx, c⟩)
  · exact Or.inr (Or.inr (Or.inl ⟨a, q, x, y, ONE_ext (by decide) b hl hx, ONE_ext (by decide) b' hl hx, c⟩))
  · exact Or.inr (Or.inr (Or.inr (Or.inl ⟨a, q, x, y, ONE_ext (by decide) b hl hx, ONE_ext (by decide) b' hl hx, c⟩)))
  · exact Or.inr (Or.inr (Or.inr (Or.inr ⟨a, x, ONE_ext (by decide) b hl hx, c⟩)))
/-- the items from the text's beginning to p, and what they tell -/
def RC (tl : Nat) (tx : Nat → Nat) : Nat → Nat → Dr → Prop
  | 0, p, D => p = 0 ∧ D = D0
  | n + 1, p, D => ∃ p1 D1, RC tl tx n p1 D1 ∧ ITM tl tx p1 D1 p D
theorem RC_ext {tl tl2 : Nat} {tx tx2 : Nat → Nat} (hl : tl ≤ tl2) (hx : ∀ k, k < tl → tx2 k = tx k) : ∀ n p D, RC tl tx n p D → RC tl2 tx2 n p D
  | 0, _, _, h => h
  | n + 1, _, _, ⟨p1, D1, h1, h2⟩ => ⟨p1, D1, RC_ext hl hx n _ _ h1, ITM_ext h2 hl hx⟩
theorem RC_ok {tl : Nat} {tx : Nat → Nat} : ∀ n p D, RC tl tx n p D → DOK D
  | 0, _, _, h => by rw [h.2]; exact D0_ok
  | n + 1, _, _, ⟨_, _, h1, h2⟩ => ITM_ok (RC_ok n _ _ h1) h2
theorem RC_len {tl : Nat} {tx : Nat → Nat} : ∀ n p D, RC tl tx n p D → n ≤ p
  | 0, _, _, _ => Nat.zero_le _
  | n + 1, _, _, ⟨_, _, h1, h2⟩ => by
    have := RC_len n _ _ h1
    have := ITM_b h2
    omega
theorem RC_scn {tl : Nat} {tx : Nat → Nat} {r : Int32} {E : Dr} : ∀ n m p D, RC tl tx n p D → SCN tl tx m p D r E → SCN tl tx (n + m) 0 D0 r E
  | 0, m, _, _, h, s => by obtain ⟨rfl, rfl⟩ := h; rw [Nat.zero_add]; exact s
  | n + 1, m, p, D, ⟨p1, D1, h1, h2⟩, s => by
    rw [show n + 1 + m = n + (m + 1) by omega]
    have hb := ITM_b h2
    exact RC_scn n (m + 1) p1 D1 h1 (Or.inr (Or.inr ⟨by omega, p, D, h2, s⟩))
theorem RC_all {tl n : Nat} {tx : Nat → Nat} {D : Dr} (h : RC tl tx n tl D) : SCN tl tx (tl + 1) 0 D0 (-4) D := by
  have hn := RC_len n tl D h
  have := RC_scn (r := -4) (E := D) n (tl + 1 - n - 1 + 1) tl D h (Or.inl ⟨Nat.le_refl _, rfl, rfl⟩)
  rw [show n + (tl + 1 - n - 1 + 1) = tl + 1 by omega] at this
  exact this
theorem w_number {M : Mem} {tl v b : Nat} {tx : Nat → Nat} {Q : Int32 → Mem → Prop} (hT : T7 M tl tx) (hv : v < 100) (hb : b = 44 ∨ b = 59) (h3 : tl + 3 ≤ 300) (h : ∀ M1 tl2 tx2, T7 M1 tl2 tx2 → tl < tl2 → tl2 ≤ tl + 3 → (∀ k, k < tl → tx2 k = tx k) → ONE tl2 tx2 tl b tl2 v → F13 M M1 → Q 1 M1) : wL_number (nI v) (nI b) M Q := by
  have fin : ∀ M1 tl1 tx1, T7 M1 tl1 tx1 → tl1 + 2 ≤ 300 → F13 M M1 → (∀ M2 tx2, T7 M2 (tl1 + 2) tx2 → (∀ k, k < tl1 → tx2 k = tx1 k) → tx2 tl1 = 48 + v % 10 → tx2 (tl1 + 1) = b → F13 M M2 → Q 1 M2) → wL_number_22 (nI v) (nI b) Q M1 := fun M1 tl1 tx1 T1 l1 f1 k => by
    unfold wL_number_22
    refine ⟨by decide, ?_⟩
    rw [num_m v hv]
    refine w_byte T1 (by omega) (by omega) fun M2 T2 f2 => npos (by omega) (by omega) ?_
    refine w_byte T2 (by omega) (by omega) fun M3 T3 f3 => npos (by omega) (by omega) ⟨Or.inr rfl, ?_⟩
    refine k M3 _ T3 (fun j hj => ?_) ?_ ?_ (F13_trans f1 (F13_trans f2 f3))
    · rw [un_no (by omega), un_no (by omega)]
    · rw [un_no (by omega), un_at]
    · rw [un_at]
  unfold wL_number
  refine b_lt (a := v) (b := 10) (by omega) (by omega) (fun q => ?_) (fun q => ⟨by decide, ?_⟩)
  · refine fin M tl tx hT (by omega) (F13_refl M) fun M2 tx2 T2 e1 e2 e3 f => ?_
    refine h M2 (tl + 2) tx2 T2 (by omega) (by omega) e1 ⟨?_, Or.inl ⟨?_, ?_, rfl, ?_⟩⟩ f
    · rw [byt_i (by omega), e2]; omega
    · rw [byt_i (by omega), e3]; omega
    · rw [byt_i (by omega), e3]
    · rw [byt_i (by omega), e2]; omega
  · rw [num_d v hv]
    refine w_byte hT (by omega) (by omega) fun M1 T1 f1 => npos (by omega) (by omega) ?_
    refine fin M1 (tl + 1) _ T1 (by omega) f1 fun M2 tx2 T2 e1 e2 e3 f => ?_
    have e0 : tx2 tl = 48 + v / 10 := by rw [e1 tl (by omega), un_at]
    refine h M2 (tl + 3) tx2 T2 (by omega) (by omega) (fun k hk => by rw [e1 k (by omega), un_no (by omega)]) ⟨?_, Or.inr ⟨?_, ?_, rfl, ?_⟩⟩ f
    · rw [byt_i (by omega), e0]; omega
    · rw [byt_i (by omega), e2]; omega
    · rw [byt_i (by omega), e3]
    · rw [byt_i (by omega), e0, byt_i (by omega), e2]; omega
theorem w_one {M : Mem} {tl c v : Nat} {tx : Nat → Nat} {Q : Int32 → Mem → Prop} (hT : T7 M tl tx) (hc : c < 256) (hv : v < 100) (h3 : tl + 4 ≤ 300) (h : ∀ M1 tl2 tx2, T7 M1 tl2 tx2 → tl < tl2 → tl2 ≤ tl + 4 → (∀ k, k < tl → tx2 k = tx k) → byt tl2 tx2 tl = c → ONE tl2 tx2 (tl + 1) 59 tl2 v → F13 M M1 → Q 1 M1) : wL_one (nI c) (nI v) M Q := by
  unfold wL_one
  refine w_byte hT hc (by omega) fun M1 T1 f1 => npos (by omega) (by omega) ?_
  refine w_number (b := 59) T1 hv (Or.inr rfl) (by omega) fun M2 tl2 tx2 T2 l1 l2 e1 o f2 => i_t' ⟨Or.inr rfl, ?_⟩
  exact h M2 tl2 tx2 T2 (by omega) (by omega) (fun k hk => by rw [e1 k (by omega), un_no (by omega)]) (by rw [byt_i (by omega), e1 tl (by omega), un_at]) o (F13_trans f1 f2)
theorem w_two {M : Mem} {tl c v w : Nat} {tx : Nat → Nat} {Q : Int32 → Mem → Prop} (hT : T7 M tl tx) (hc : c < 256) (hv : v < 100) (hw : w < 100) (h3 : tl + 7 ≤ 300) (h : ∀ M1 tl2 tx2 q, T7 M1 tl2 tx2 → tl < tl2 → tl2 ≤ tl + 7 → (∀ k, k < tl → tx2 k = tx k) → byt tl2 tx2 tl = c → ONE tl2 tx2 (tl + 1) 44 q v → ONE tl2 tx2 q 59 tl2 w → F13 M M1 → Q 1 M1) : wL_two (nI c) (nI v) (nI w) M Q := by
  unfold wL_two
  refine w_byte hT hc (by omega) fun M1 T1 f1 => npos (by omega) (by omega) ?_
  refine w_number (b := 44) T1 hv (Or.inl rfl) (by omega) fun M2 tl2 tx2 T2 l1 l2 e1 o f2 => i_t' ?_
  refine w_number (b := 59) T2 hw (Or.inr rfl) (by omega) fun M3 tl3 tx3 T3 l3 l4 e3 o3 f3 => i_t' ⟨Or.inr rfl, ?_⟩
  exact h M3 tl3 tx3 tl2 T3 (by omega) (by omega) (fun k hk => by rw [e3 k (by omega), e1 k (by omega), un_no (by omega)]) (by rw [byt_i (by omega), e3 tl (by omega), e1 tl (by omega), un_at]) (ONE_ext (by decide) o (by omega) e3) o3 (F13_trans f1 (F13_trans f2 f3))
