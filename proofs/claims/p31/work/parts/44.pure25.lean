/-! PURE 25: notice -/
def CNT (P : Nat → Prop) : Nat → Int32 → Prop
  | 0, v => v = 0
  | n + 1, v => ∃ u, CNT P n u ∧ ((P n ∧ v = u + (1 : Int32)) ∨ (¬ P n ∧ v = u))
theorem CNT_uniq {P : Nat → Prop} : ∀ n v w, CNT P n v → CNT P n w → v = w
  | 0, v, w, a, b => by
    have a' : v = 0 := a
    have b' : w = 0 := b
    rw [a', b']
  | n + 1, v, w, ⟨u, u1, u2⟩, ⟨u', u1', u2'⟩ => by
    have e := CNT_uniq n u u' u1 u1'
    rcases u2 with ⟨x, y⟩ | ⟨x, y⟩ <;> rcases u2' with ⟨x', y'⟩ | ⟨x', y'⟩
    · rw [y, y', e]
    · exact absurd x x'
    · exact absurd x' x
    · rw [y, y', e]
def rby (N Rr K A p j : Nat) : Prop := ∃ k, k < Rr ∧ plc N Rr K A j k = p
theorem s7_readBy {M : Mem} {N Rr K A j p0 : Nat} {Q : Int32 → Mem → Prop} (hR : RDS M N Rr K A) (h2 : 2 ≤ N) (h40 : N ≤ 40) (hr : Rr ≤ 40) (hj : j < 2 ^ 31) (hp : p0 < N) (h1 : rby N Rr K A p0 j → Q 1 M) (h0 : ¬ rby N Rr K A p0 j → Q 0 M) : wX7_isReadBy (nI j) (nI p0) M Q := by
  refine s3_found hR h2 h40 hr hj hp (fun q k k1 k2 k3 k4 k5 => s4_at (r := 40) k5 ?_) (fun q k1 k2 k3 => s4_at (r := 40) k3 ?_)
  · rw [show (40 + 1 : Nat) = 41 from rfl, k4]
    exact ⟨fun q => absurd q (nI_neg (by omega)), fun _ => ⟨Or.inr rfl, h1 ⟨k, k1, k2⟩⟩⟩
  · rw [show (40 + 1 : Nat) = 41 from rfl, k2]
    exact ⟨fun _ => ⟨Or.inl rfl, h0 fun ⟨k, u1, u2⟩ => k1 k u1 u2⟩, fun q => absurd rfl q⟩
theorem s8_notice {M : Mem} {t N Rr K A nt u v c : Nat} {ta F : Nat → Nat} {Q : Int32 → Mem → Prop} (hB : BK M t N Rr K A nt ta F) (h100 : ∀ p, p < N → M 100 p = nI (itE (EE N K A Rr) 0 p)) (hu : u < N) (hv : v < N) (hc : c ≤ 1000) (h : ∀ w M1, QF M M1 → (u = v → w = 0) → (u ≠ v → ∀ p q, p < N → q < N → F p = u → F q = v → CNT (fun j => rby N Rr K A p j ∨ rby N Rr K A q j) c w) → Q w M1) : ∃ n, wX8_notice_50 (nI u) (nI v) (nI c) Q n (((1 : Int64) <<< ((nI u).toInt64 &&& 63)) ||| ((1 : Int64) <<< ((nI v).toInt64 &&& 63))) (0 : Int32) (0 : Int32) M := by
  obtain ⟨b1, b2, b3, b4, -⟩ := TL_N hB.2.1
  have hE : Pm N (EE N K A Rr) := EE_pm b1
  have hFm := hB.2.2.2.2.1.2.1
  have bb := BS_or (BS_bit (show u < 41 by omega)) (BS_bit (show v < 41 by omega))
  generalize ((1 : Int64) <<< ((nI u).toInt64 &&& 63)) ||| ((1 : Int64) <<< ((nI v).toInt64 &&& 63)) = al at bb ⊢
  refine loop_0 (fun n i (s : Int32 × Mem) => wX8_notice_50 (nI u) (nI v) (nI c) Q n al s.1 (nI i) s.2) (fun i s => QF M s.2 ∧ (∀ p, p < N → s.2 100 p = nI (itE (EE N K A Rr) i p)) ∧ (u = v → s.1 = 0) ∧ (u ≠ v → ∀ p q, p < N → q < N → F p = u → F q = v → CNT (fun j => rby N Rr K A p j ∨ rby N Rr K A q j) i s.1)) c (0, M) ⟨QF_refl _, h100, fun _ => rfl, fun _ _ _ _ _ _ _ => rfl⟩ ?_ ?_
  · intro n s ⟨f, p1, p2, p3⟩
    unfold wX8_notice_50
    exact b_le (by omega) (by omega) (fun _ => h _ _ f p2 p3) (fun q => by omega)
  · intro n i s hi ⟨f, p1, p2, p3⟩ hk
    have hBm := QF_BK hB f
    have go : ∀ d : Int32, (u = v → d = 0) → (u ≠ v → ∀ p q, p < N → q < N → F p = u → F q = v → ((rby N Rr K A p i ∨ rby N Rr K A q i) ∧ d = 1) ∨ (¬ (rby N Rr K A p i ∨ rby N Rr K A q i) ∧ d = 0)) → wX8_notice_80 (nI u) (nI v) (nI c) (wX8_notice_50 (nI u) (nI v) (nI c) Q n) Q al (nI i) d s.1 s.2 := fun d d1 d2 => by
      unfold wX8_notice_80
      refine s8_put (N := N) (β := EE N K A Rr) rfl rfl (by decide) (by decide) (by decide) hBm.2.2.1.1 b2 (fun p hp => ⟨hBm.2.2.2.2.2.2.1 p hp, hE.1 p hp⟩) fun M2 e1 e2 => ?_
      rw [nI_1]
      refine hk (s.1 + d, M2) ⟨QF_trans f (QF_of fun x _ _ _ d => e2 x (by omega) (by omega)), fun p hp => ?_, fun e => ?_, fun e p q h1 h2 h3 h4 => ⟨s.1, p3 e p q h1 h2 h3 h4, ?_⟩⟩
      · show M2 100 p = _
        rw [e1 p hp, p1 _ (hE.1 p hp), itE_add, itE_one]
      · show s.1 + d = 0
        rw [p2 e, d1 e]
        rfl
      · rcases d2 e p q h1 h2 h3 h4 with ⟨x, y⟩ | ⟨x, y⟩
        · exact Or.inl ⟨x, by rw [y]⟩
        · exact Or.inr ⟨x, by rw [y, Int32.add_zero]⟩
    unfold wX8_notice_50
    refine b_le (by omega) (by omega) (fun q => by omega) (fun _ => ⟨fun q => ?_, fun q => ?_⟩)
    · have e : u = v := nI_inj (by omega) (by omega) q
      exact go 0 (fun _ => rfl) fun n => absurd e n
    · have ne : u ≠ v := fun e => q (by rw [e])
      have hl := BS_and (lvs_BS (Rr := Rr) (K := K) (A := A) (j := i) b1 b2 hFm.1 Rr) bb
      have emp := BS_emp hl
      have key : ∀ p q, p < N → q < N → F p = u → F q = v → ((rby N Rr K A p i ∨ rby N Rr K A q i) ↔ ¬ (lvs N Rr K A F i Rr &&& al) = 0) := fun p q h1 h2 h3 h4 => by
        rw [emp]
        constructor
        · rintro (⟨k, k1, k2⟩ | ⟨k, k1, k2⟩) z
          · exact z u (by omega) ⟨⟨k, k1, by rw [k2, h3]⟩, Or.inl rfl⟩
          · exact z v (by omega) ⟨⟨k, k1, by rw [k2, h4]⟩, Or.inr rfl⟩
        · intro z
          refine Classical.byContradiction fun no => z fun x hx ⟨⟨k, k1, k2⟩, hxx⟩ => no ?_
          rcases hxx with hxx | hxx
          · exact Or.inl ⟨k, k1, hFm.2 _ _ (plc_lt b1) h1 (by rw [k2, hxx, h3])⟩
          · exact Or.inr ⟨k, k1, hFm.2 _ _ (plc_lt b1) h2 (by rw [k2, hxx, h4])⟩
      refine s8_leavesNow hBm p1 ⟨fun z => ?_, fun z => ?_⟩
      · have z' := (lg_cmp_eq _ _).mp z
        exact go 0 (fun e => absurd e ne) fun _ p q h1 h2 h3 h4 => Or.inr ⟨fun w => (key p q h1 h2 h3 h4).mp w z', rfl⟩
      · have z' := fun e => z ((lg_cmp_eq _ _).mpr e)
        exact go 1 (fun e => absurd e ne) fun _ p q h1 h2 h3 h4 => Or.inl ⟨(key p q h1 h2 h3 h4).mpr z', rfl⟩
theorem k_notice {x y z : Int32} {M : Mem} {Q : Int32 → Int32 → Mem → Prop} (hI : INV M) (h : GQ Q) : wX7_notice x y z M (fun r1 M1 => wX8_notice x y z M1 (fun r2 M2 => Q r1 r2 M2)) := by
  have hI' := hI
  obtain ⟨t, N, Rr, K, A, nt, ta, F, hB, hT, hP, hK, hS⟩ := hI
  obtain ⟨b1, b2, b3, b4, -⟩ := TL_N hB.2.1
  have hR := hB.2.2.1
  have h6 := hB.2.2.2.2.2.1
  refine s7_isBelow hB (fun g => i_t' ?_) (fun g => i_f' (r8_leaf_f hR g (i_f' (h _ _ hI'))))
  refine s7_isBelow hB (fun g2 => i_t' ?_) (fun g2 => i_f' (r8_leaf_t hR g (i_t' (r8_leaf_f hR g2 (i_f' (h _ _ hI'))))))
  refine s7_within (a := 0) (b := 1000) (by omega) (by omega) (fun g3 => i_t ?_) (fun g3 => i_f (r8_leaf_t hR g (i_t' (r8_leaf_t hR g2 (i_t' (r8_in_f (a := 0) (b := 1000) (by omega) (by omega) g3 (i_f (h _ _ hI'))))))))
  have g' := g
  have g2' := g2
  have g3' := g3
  obtain ⟨u, u0, u1, e⟩ := g
  subst e
  obtain ⟨v, v0, v1, e⟩ := g2
  subst e
  obtain ⟨c, c0, c1, e⟩ := g3
  subst e
  have ref : ∀ r, (u = v → r = 0) → (u ≠ v → ∃ p q, p < N ∧ q < N ∧ F p = u ∧ F q = v ∧ CNT (fun j => rby N Rr K A p j ∨ rby N Rr K A q j) c r) → wX8_notice (nI u) (nI v) (nI c) M (fun r2 M2 => Q r r2 M2) := fun r r1 r2 => by
    refine r8_leaf_t hR g' (i_t' (r8_leaf_t hR g2' (i_t' (r8_in_t (a := 0) (b := 1000) (by omega) (by omega) g3' (i_t ?_)))))
    refine s8_power (j := 0) hB (by omega) fun M5 f5 c5 => ?_
    refine s8_notice (QF_BK hB f5) c5 (by omega) (by omega) c1 fun w M6 f6 w1 w2 => ?_
    have e : r = w := by
      by_cases q : u = v
      · rw [r1 q, w1 q]
      · obtain ⟨p, q', h1, h2, h3, h4, h5⟩ := r2 q
        exact CNT_uniq c r w h5 (w2 q p q' h1 h2 h3 h4)
    rw [e]
    exact h _ _ (QF_INV hI' (QF_trans f5 f6))
  refine ⟨fun q => ?_, fun q => ?_⟩
  · have ne : u ≠ v := fun e => q (by rw [e])
    refine s22_place hB (by omega) fun p hp hFp => s22_place hB (by omega) fun p' hp' hFp' => ?_
    refine loop_0 (fun n i (s : Int32 × Mem) => wX7_notice_62 (nI u) (nI v) (nI c) (fun r1 M1 => wX8_notice (nI u) (nI v) (nI c) M1 (fun r2 M2 => Q r1 r2 M2)) n (nI p) (nI p') s.1 (nI i) s.2) (fun i s => s.2 = M ∧ CNT (fun j => rby N Rr K A p j ∨ rby N Rr K A p' j) i s.1) c (0, M) ⟨rfl, rfl⟩ ?_ ?_
    · intro n s ⟨em, d⟩
      unfold wX7_notice_62
      rw [em]
      exact b_le (by omega) (by omega) (fun _ => ref _ (fun e => absurd e ne) fun _ => ⟨p, p', hp, hp', hFp, hFp', d⟩) (fun q => by omega)
    · intro n i s hi ⟨em, d⟩ hk
      unfold wX7_notice_62
      rw [em]
      refine b_le (by omega) (by omega) (fun q => by omega) (fun _ => ?_)
      have yes : (rby N Rr K A p i ∨ rby N Rr K A p' i) → wX7_notice_90 (nI u) (nI v) (nI c) (wX7_notice_62 (nI u) (nI v) (nI c) (fun r1 M1 => wX8_notice (nI u) (nI v) (nI c) M1 (fun r2 M2 => Q r1 r2 M2)) n) (fun r1 M1 => wX8_notice (nI u) (nI v) (nI c) M1 (fun r2 M2 => Q r1 r2 M2)) (nI p) (nI p') s.1 (nI i) M := fun c1 => by
        unfold wX7_notice_90 wX7_notice_93
        rw [nI_1]
        exact hk (s.1 + (1 : Int32), M) ⟨rfl, s.1, d, Or.inl ⟨c1, rfl⟩⟩
      refine s7_readBy h6 b1 b2 b4 (by omega) hp (fun c1 => i_t (yes (Or.inl c1))) (fun c1 => i_f ?_)
      refine s7_readBy h6 b1 b2 b4 (by omega) hp' (fun c2 => i_t' (yes (Or.inr c2))) (fun c2 => i_f' ?_)
      unfold wX7_notice_93
      rw [nI_1]
      refine hk (s.1, M) ⟨rfl, s.1, d, Or.inr ⟨fun z => ?_, rfl⟩⟩
      rcases z with z | z
      · exact c1 z
      · exact c2 z
  · exact ref 0 (fun _ => rfl) fun ne => absurd (nI_inj (by omega) (by omega) q) ne
