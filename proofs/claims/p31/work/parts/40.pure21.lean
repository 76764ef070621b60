/-! PURE 21: ever -/
def alw (N Rr K A p : Nat) : Prop := ∀ m, rdP N Rr K A (itE (EE N K A Rr) m p)
def nev (N Rr K A p : Nat) : Prop := ∀ m, ¬ rdP N Rr K A (itE (EE N K A Rr) m p)
theorem s7_ever {M : Mem} {t N Rr K A nt : Nat} {ta F : Nat → Nat} {x1 : Int32} {Q : Int64 → Mem → Prop} (hB : BK M t N Rr K A nt ta F) (h : ∀ w, BS w (fun i => ∃ p, p < N ∧ (if x1 = 0 then nev N Rr K A p else alw N Rr K A p) ∧ F p = i) → Q w M) : ∃ n, wX7_ever_18 x1 Q n (0 : Int64) (0 : Int32) M := by
  obtain ⟨ht, e2, e1, k2, k1⟩ := BK_t hB
  obtain ⟨b1, b2, b3, b4, -⟩ := TL_N hB.2.1
  have h6 := hB.2.2.2.2.2.1
  have h24 := hB.2.2.2.2.1.2.2
  have hF := hB.2.2.2.2.1.2.1.1
  refine loop_0 (fun n i (s : Int64 × Mem) => wX7_ever_18 x1 Q n s.1 (nI i) s.2) (fun i s => s.2 = M ∧ BS s.1 (fun j => ∃ p, p < i ∧ (if x1 = 0 then nev N Rr K A p else alw N Rr K A p) ∧ F p = j)) N (0, M) ⟨rfl, BS_cg BS_0 fun i _ => ⟨fun q : False => q.elim, fun ⟨p, hp, _⟩ => absurd hp (Nat.not_lt_zero _)⟩⟩ ?_ ?_
  · intro n s ⟨p1, p2⟩
    unfold wX7_ever_18
    rw [p1]
    refine ⟨k2, ?_⟩
    rw [e2, hB.2.1.1]
    exact b_le (by omega) (by omega) (fun _ => h _ p2) (fun q => by omega)
  · intro n i s hi ⟨p1, p2⟩ hk
    have hFi := hF i hi
    have yes : (if x1 = 0 then nev N Rr K A i else alw N Rr K A i) → wX7_ever_55 x1 (wX7_ever_18 x1 Q n) Q s.1 (nI i) (1 : Int32) M := fun c => by
      refine i_t' (s1_leafAt (o := 22) rfl (by omega) ?_)
      rw [show (22 + 2 : Nat) = 24 from rfl, (h24 i hi).1]
      unfold wX7_bit wX7_ever_77
      rw [nI_1]
      refine hk (s.1 ||| ((1 : Int64) <<< ((nI (F i)).toInt64 &&& 63)), M) ⟨rfl, BS_cg (BS_or p2 (BS_bit (show F i < 41 by omega))) fun j _ => ⟨fun q => ?_, fun ⟨p, u1, u2, u3⟩ => ?_⟩⟩
      · rcases q with ⟨p, u1, u2⟩ | q
        · exact ⟨p, by omega, u2⟩
        · exact ⟨i, by omega, c, q.symm⟩
      · by_cases d : p = i
        · subst d
          exact Or.inr u3.symm
        · exact Or.inl ⟨p, by omega, u2, u3⟩
    have no : ¬ (if x1 = 0 then nev N Rr K A i else alw N Rr K A i) → wX7_ever_55 x1 (wX7_ever_18 x1 Q n) Q s.1 (nI i) (0 : Int32) M := fun c => by
      refine i_f' ?_
      unfold wX7_ever_77
      rw [nI_1]
      refine hk (s.1, M) ⟨rfl, BS_cg p2 fun j _ => ⟨fun ⟨p, u1, u2⟩ => ⟨p, by omega, u2⟩, fun ⟨p, u1, u2, u3⟩ => ?_⟩⟩
      by_cases d : p = i
      · subst d
        exact absurd u2 c
      · exact ⟨p, by omega, u2, u3⟩
    unfold wX7_ever_18
    rw [p1]
    refine ⟨k2, ?_⟩
    rw [e2, hB.2.1.1]
    refine b_le (by omega) (by omega) (fun q => by omega) (fun _ => ⟨fun q => ?_, fun q => ?_⟩)
    · rw [if_neg q] at yes no
      refine s3_inRing h6 b1 b2 b4 hi fun c L c1 c2 c3 c4 c5 => s4_at (r := 48) (show i < 40 by omega) ?_
      rw [show (48 + 1 : Nat) = 49 from rfl, c1]
      exact b_ne (by omega) (by omega) (fun u => ⟨Or.inl rfl, no fun a => u (c5.mpr a)⟩) (fun u => ⟨Or.inr rfl, yes (c5.mp u)⟩)
    · rw [if_pos q] at yes no
      refine s3_inRing h6 b1 b2 b4 hi fun c L c1 c2 c3 c4 c5 => ?_
      exact b_ne (a := c) (b := 0) (by omega) (by omega) (fun u => ⟨Or.inl rfl, no fun a => u (c4.mpr a)⟩) (fun u => ⟨Or.inr rfl, yes (c4.mp u)⟩)
theorem s8_ever {M : Mem} {t N Rr K A nt a : Nat} {ta F : Nat → Nat} {x1 : Int32} {Q : Int64 → Mem → Prop} (hB : BK M t N Rr K A nt ta F) (ha : PER N (EE N K A Rr) a) (h100 : ∀ p, p < N → M 100 p = nI (itE (EE N K A Rr) 0 p)) (h : ∀ w M1, QF M M1 → BS w (fun i => i < N ∧ if x1 = 0 then ¬ ∃ n k, n < a ∧ k < Rr ∧ F (plc N Rr K A n k) = i else ∀ n, n < a → ∃ k, k < Rr ∧ F (plc N Rr K A n k) = i) → Q w M1) : ∃ n, wX8_ever_44 x1 Q n (nI a) (((1 : Int64) <<< ((nI N).toInt64 &&& 63)) - (1 : Int64)) (0 : Int64) (((1 : Int64) <<< ((nI N).toInt64 &&& 63)) - (1 : Int64)) (0 : Int32) M := by
  obtain ⟨b1, b2, b3, b4, -⟩ := TL_N hB.2.1
  have hE : Pm N (EE N K A Rr) := EE_pm b1
  have hF := hB.2.2.2.2.1.2.1.1
  have ba := BS_all (N := N) (by omega)
  generalize ((1 : Int64) <<< ((nI N).toInt64 &&& 63)) - (1 : Int64) = al at ba ⊢
  have ha2 := ha.2.1
  refine loop_0 (fun n i (s : Int64 × Int64 × Mem) => wX8_ever_44 x1 Q n (nI a) al s.1 s.2.1 (nI i) s.2.2) (fun i s => BS s.1 (fun v => ∃ n k, n < i ∧ k < Rr ∧ F (plc N Rr K A n k) = v) ∧ BS s.2.1 (fun v => v < N ∧ ∀ n, n < i → ∃ k, k < Rr ∧ F (plc N Rr K A n k) = v) ∧ QF M s.2.2 ∧ ∀ p, p < N → s.2.2 100 p = nI (itE (EE N K A Rr) i p)) a (0, al, M) ⟨BS_cg BS_0 fun i _ => ⟨fun q : False => q.elim, fun ⟨n, k, hn, _⟩ => absurd hn (Nat.not_lt_zero _)⟩, BS_cg ba fun i _ => ⟨fun q => ⟨q, fun n hn => absurd hn (Nat.not_lt_zero _)⟩, fun q => q.1⟩, QF_refl _, h100⟩ ?_ ?_
  · intro n s ⟨p1, p2, p3, p4⟩
    unfold wX8_ever_44
    refine b_le (by omega) (by omega) (fun _ => ⟨fun q => ?_, fun q => ?_⟩) (fun q => by omega)
    · exact h _ _ p3 (BS_cg p2 fun v _ => by simp only [if_neg q])
    · exact h _ _ p3 (BS_cg (BS_and ba (BS_not p1)) fun v _ => by simp only [if_pos q])
  · intro n i s hi ⟨p1, p2, p3, p4⟩ hk
    have hBm := QF_BK hB p3
    have hl := lvs_BS (Rr := Rr) (K := K) (A := A) (j := i) b1 b2 hF Rr
    unfold wX8_ever_44
    refine b_le (by omega) (by omega) (fun q => by omega) (fun _ => ?_)
    refine s8_leavesNow hBm p4 (s8_leavesNow hBm p4 ?_)
    refine s8_put (N := N) (β := EE N K A Rr) rfl rfl (by decide) (by decide) (by decide) hBm.2.2.1.1 b2 (fun p hp => ⟨hBm.2.2.2.2.2.2.1 p hp, hE.1 p hp⟩) fun M2 d1 d2 => ?_
    rw [nI_1]
    refine hk (_, _, M2) ⟨BS_cg (BS_or p1 hl) fun v _ => ⟨fun q => ?_, fun ⟨m, k, u1, u2, u3⟩ => ?_⟩, BS_cg (BS_and p2 hl) fun v _ => ⟨fun q => ⟨q.1.1, fun m hm => ?_⟩, fun q => ⟨⟨q.1, fun m hm => q.2 m (by omega)⟩, q.2 i (by omega)⟩⟩, QF_trans p3 (QF_of fun x _ _ _ d => d2 x (by omega) (by omega)), fun p hp => ?_⟩
    · rcases q with ⟨m, k, u1, u2⟩ | ⟨k, u1, u2⟩
      · exact ⟨m, k, by omega, u2⟩
      · exact ⟨i, k, by omega, u1, u2⟩
    · by_cases c : m = i
      · subst c
        exact Or.inr ⟨k, u2, u3⟩
      · exact Or.inl ⟨m, k, by omega, u2, u3⟩
    · by_cases c : m = i
      · subst c
        exact q.2
      · exact q.1.2 m (by omega)
    · show M2 100 p = _
      rw [d1 p hp, p4 _ (hE.1 p hp), itE_add, itE_one]
theorem per_ex {N : Nat} {E : Nat → Nat} (h40 : N ≤ 40) (hE : Pm N E) : ∃ a, PER N E a := by
  have main : ∀ p, p ≤ N → ∃ a, IS N E p a := by
    intro p
    induction p with
    | zero => exact fun _ => ⟨1, IS_0 N E⟩
    | succ p ih =>
      intro hp
      obtain ⟨a, ha⟩ := ih (by omega)
      obtain ⟨l, l1, l2⟩ := len_ex hE (show p < N by omega)
      obtain ⟨k, hk⟩ := cmk_ex (a := a) l2.1
      exact ⟨a * k, IS_step h40 hE ha (by omega) l2 l1 hk⟩
  obtain ⟨a, p1⟩ := main N (Nat.le_refl _)
  refine ⟨a, p1.1, IS_lt h40 p1, p1.2.1, fun k k1 k2 q => ?_⟩
  have := p1.2.2.1 k q
  rw [Nat.mod_eq_of_lt k2] at this
  omega
theorem k_ever {x : Int32} {M : Mem} {Q : Int64 → Int64 → Mem → Prop} (hI : INV M) (h : GL Q) : wX7_ever x M (fun r1 M1 => wX8_ever x M1 (fun r2 M2 => Q r1 r2 M2)) := by
  have hI' := hI
  obtain ⟨t, N, Rr, K, A, nt, ta, F, hB, hT, hP, hK, hS⟩ := hI
  obtain ⟨b1, b2, b3, b4, -⟩ := TL_N hB.2.1
  have h6 := hB.2.2.2.2.2.1
  have hE : Pm N (EE N K A Rr) := EE_pm b1
  have hFm := hB.2.2.2.2.1.2.1
  refine s7_within (a := 0) (b := 1) (by omega) (by omega) (fun g => i_t ?_) (fun g => i_f (r8_in_f (a := 0) (b := 1) (by omega) (by omega) g (i_f (h _ _ hI'))))
  refine s7_ever hB fun w hw => ?_
  refine r8_in_t (a := 0) (b := 1) (by omega) (by omega) g (i_t ?_)
  obtain ⟨a, ha⟩ := per_ex b2 hE
  obtain ⟨a1, a2, a3, a4⟩ := ha
  refine s8_period hB ⟨a1, a2, a3, a4⟩ fun M3 f3 => ⟨vz (by decide), ?_⟩
  have hB3 := QF_BK hB f3
  rw [cl0, hB3.2.2.1.1]
  refine s8_power (j := 0) hB3 (by omega) fun M5 f5 c5 => ?_
  have back : ∀ n p, n ≤ a → p < N → itE (EE N K A Rr) n (itE (EE N K A Rr) (a - n) p) = p := fun n p hn hp => by
    rw [← itE_add, show n + (a - n) = a by omega]
    exact a3 p hp
  have back' : ∀ n p, n ≤ a → p < N → itE (EE N K A Rr) (a - n) (itE (EE N K A Rr) n p) = p := fun n p hn hp => by
    rw [← itE_add, show a - n + n = a by omega]
    exact a3 p hp
  have ex : ∀ m, ∃ n, n < a ∧ ∀ p, p < N → itE (EE N K A Rr) n (itE (EE N K A Rr) m p) = p := fun m => by
    have hm := Nat.mod_lt m (show a > 0 by omega)
    have hd := Nat.div_add_mod m a
    refine ⟨(a - m % a) % a, Nat.mod_lt _ (by omega), fun p hp => ?_⟩
    rw [← itE_add, ← itE_mod (a3 p hp)]
    have z : ((a - m % a) % a + m) % a = 0 := by
      rw [Nat.mod_add_mod, show a - m % a + m = a * (m / a + 1) by rw [Nat.mul_succ]; omega]
      exact Nat.mul_mod_right _ _
    rw [z]
    rfl
  have pin : ∀ m p, p < N → itE (EE N K A Rr) m p < N := fun m p hp => (itE_pm hE m).1 p hp
  have e0 : ∀ k, eS N K A k 0 < N := fun k => (eS_pm (by omega) k).1 0 (by omega)
  refine s8_ever (QF_BK hB3 f5) ⟨a1, a2, a3, a4⟩ c5 fun w' M6 f6 hw' => ?_
  have e : w = w' := by
    refine BS_uniq hw hw' fun i _ => ?_
    by_cases c : x = 0
    · simp only [if_pos c]
      refine ⟨fun ⟨p, p1, p2, p3⟩ => ⟨by rw [← p3]; exact hFm.1 p p1, fun ⟨n, k, u1, u2, u3⟩ => ?_⟩, fun ⟨q1, q2⟩ => ?_⟩
      · have e1 : plc N Rr K A n k = p := hFm.2 _ _ (plc_lt b1) p1 (u3.trans p3.symm)
        refine p2 (a - n) ⟨k, u2, ?_⟩
        rw [← e1]
        exact (back' n _ (by omega) (e0 k)).symm
      · obtain ⟨p, p1, p2⟩ := pm_onto hFm i q1
        refine ⟨p, p1, fun m ⟨k, k1, k2⟩ => ?_, p2⟩
        obtain ⟨n, n1, n2⟩ := ex m
        refine q2 ⟨n, k, n1, k1, ?_⟩
        show F (itE (EE N K A Rr) n (eS N K A k 0)) = i
        rw [k2, n2 p p1, p2]
    · simp only [if_neg c]
      refine ⟨fun ⟨p, p1, p2, p3⟩ => ⟨by rw [← p3]; exact hFm.1 p p1, fun n hn => ?_⟩, fun ⟨q1, q2⟩ => ?_⟩
      · obtain ⟨k, k1, k2⟩ := p2 (a - n)
        refine ⟨k, k1, ?_⟩
        show F (itE (EE N K A Rr) n (eS N K A k 0)) = i
        rw [k2, back n p (by omega) p1, p3]
      · obtain ⟨p, p1, p2⟩ := pm_onto hFm i q1
        refine ⟨p, p1, fun m => ?_, p2⟩
        obtain ⟨n, n1, n2⟩ := ex m
        obtain ⟨k, k1, k2⟩ := q2 n n1
        have e1 : plc N Rr K A n k = p := hFm.2 _ _ (plc_lt b1) p1 (k2.trans p2.symm)
        refine ⟨k, k1, ?_⟩
        have e2 : itE (EE N K A Rr) n (itE (EE N K A Rr) m p) = itE (EE N K A Rr) n (eS N K A k 0) := (n2 p p1).trans e1.symm
        exact ((itE_pm hE n).2 _ _ (pin m p p1) (e0 k) e2).symm
  rw [e]
  exact h _ _ (QF_INV hI' (QF_trans f3 (QF_trans f5 f6)))
