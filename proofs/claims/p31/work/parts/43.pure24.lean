/-! PURE 24: lacks and notice -/
def LSp (N Rr K A p0 : Nat) (x2 r : Int32) : Prop := (∃ j k, k < Rr ∧ plc N Rr K A j k = p0 ∧ (∀ k', k' < k → plc N Rr K A j k' ≠ p0) ∧ (∀ j' k', j' < j → k' < Rr → plc N Rr K A j' k' ≠ p0) ∧ r = if x2 = 0 then nI j else nI k) ∨ ((∀ j k, k < Rr → plc N Rr K A j k ≠ p0) ∧ r = -4)
theorem LSp_uniq {N Rr K A p0 : Nat} {x2 r r' : Int32} (h : LSp N Rr K A p0 x2 r) (h' : LSp N Rr K A p0 x2 r') : r = r' := by
  rcases h with ⟨j, k, k1, k2, k3, k4, k5⟩ | ⟨a, b⟩
  · rcases h' with ⟨j', k', l1, l2, l3, l4, l5⟩ | ⟨a', b'⟩
    · have ej : j = j' := by
        rcases Nat.lt_trichotomy j j' with q | q | q
        · exact absurd k2 (l4 j k q k1)
        · exact q
        · exact absurd l2 (k4 j' k' q l1)
      subst ej
      have ek : k = k' := by
        rcases Nat.lt_trichotomy k k' with q | q | q
        · exact absurd k2 (l3 k q)
        · exact q
        · exact absurd l2 (k3 k' q)
      subst ek
      rw [k5, l5]
    · exact absurd k2 (a' j k k1)
  · rcases h' with ⟨j', k', l1, l2, l3, l4, l5⟩ | ⟨a', b'⟩
    · exact absurd l2 (a j' k' l1)
    · rw [b, b']
theorem plc_red {N Rr K A p0 B : Nat} (h2 : 2 ≤ N) (h : ∀ j k, j < B → k < Rr → plc N Rr K A j k ≠ p0) (hB : ∀ s l, s < N → isLen (EE N K A Rr) s l → l ≤ B) : ∀ j k, k < Rr → plc N Rr K A j k ≠ p0 := fun j k hk e => by
  have hs := (eS_pm (N := N) (K := K) (A := A) (by omega) k).1 0 (by omega)
  obtain ⟨l, l1, l2⟩ := len_ex (EE_pm (N := N) (K := K) (A := A) (Rr := Rr) h2) hs
  have hm := Nat.mod_lt j (show l > 0 from l2.1)
  have hb := hB _ l hs l2
  refine h (j % l) k (by omega) hk ?_
  show itE (EE N K A Rr) (j % l) (eS N K A k 0) = p0
  rw [itE_mod l2.2.1 j]
  exact e
theorem s3_found {M : Mem} {N Rr K A j p0 : Nat} {Q : Int32 → Mem → Prop} (hR : RDS M N Rr K A) (h2 : 2 ≤ N) (h40 : N ≤ 40) (hr : Rr ≤ 40) (hj : j < 2 ^ 31) (hp : p0 < N) (h1 : ∀ q k, k < Rr → plc N Rr K A j k = p0 → (∀ k', k' < k → plc N Rr K A j k' ≠ p0) → M 41 q = nI k → q < 40 → Q (nI q) M) (h0 : ∀ q, (∀ k, k < Rr → plc N Rr K A j k ≠ p0) → M 41 q = -4 → q < 40 → Q (nI q) M) : wX3_placeFoundBy 32 (nI j).toInt64 (nI p0) M Q := by
  obtain ⟨g1, g2, g3, g4, g5⟩ := hR
  have hE : Pm N (EE N K A Rr) := EE_pm h2
  obtain ⟨q, q1, q2⟩ := pm_onto (itE_pm hE j) p0 hp
  rw [nI_l hj]
  refine s3_ringN g1 hE h40 hp hj q1 q2 ?_
  have e0 : ∀ k, eS N K A k 0 < N := fun k => (eS_pm (by omega) k).1 0 (by omega)
  have inj : ∀ k, plc N Rr K A j k = p0 → eS N K A k 0 = q := fun k e => (itE_pm hE j).2 _ _ (e0 k) q1 (e.trans q2.symm)
  rcases g3 q q1 with ⟨k, k1, k2, k3, k4⟩ | ⟨k1, k2⟩
  · refine h1 q k k1 ?_ (fun k' hk' e => k3 k' hk' (inj k' e)) k4 (by omega)
    show itE (EE N K A Rr) j (eS N K A k 0) = p0
    rw [k2]
    exact q2
  · exact h0 q (fun k hk e => k1 k hk (inj k e)) k2 (by omega)
theorem s22_place {M : Mem} {t N Rr K A nt v : Nat} {ta F : Nat → Nat} {Q : Int32 → Mem → Prop} (hB : BK M t N Rr K A nt ta F) (hv : v < N) (h : ∀ p, p < N → F p = v → Q (nI p) M) : wX1_placeOf 22 (nI v) M Q := by
  obtain ⟨b1, b2, b3, b4, -⟩ := TL_N hB.2.1
  obtain ⟨h51, hFm, h53⟩ := hB.2.2.2.2.1
  obtain ⟨p0, q1, q2⟩ := pm_onto hFm v hv
  refine s1_placeOf (o := 22) (N := N) rfl h51 b2 p0 q1 (by rw [show (22 + 2 : Nat) = 24 from rfl, (h53 p0 q1).1, q2]) (fun p hp q => ?_) (h p0 q1 q2)
  rw [show (22 + 2 : Nat) = 24 from rfl, (h53 p (by omega)).1] at q
  have := nI_inj (by have := hFm.1 p (by omega); omega) (by omega) q
  have := hFm.2 p p0 (by omega) q1 (by omega)
  omega
theorem k_lacks {x y : Int32} {M : Mem} {Q : Int32 → Int32 → Mem → Prop} (hI : INV M) (h : GQ Q) : wX7_lacks x y M (fun r1 M1 => wX8_lacks x y M1 (fun r2 M2 => Q r1 r2 M2)) := by
  have hI' := hI
  obtain ⟨t, N, Rr, K, A, nt, ta, F, hB, hT, hP, hK, hS⟩ := hI
  obtain ⟨b1, b2, b3, b4, -⟩ := TL_N hB.2.1
  have hR := hB.2.2.1
  have h6 := hB.2.2.2.2.2.1
  have hE : Pm N (EE N K A Rr) := EE_pm b1
  have hFm := hB.2.2.2.2.1.2.1
  refine s7_isBelow hB (fun g => i_t' ?_) (fun g => i_f' (r8_leaf_f hR g (i_f' (h _ _ hI'))))
  refine s7_within (a := 0) (b := 1) (by omega) (by omega) (fun g2 => i_t ?_) (fun g2 => i_f (r8_leaf_t hR g (i_t' (r8_in_f (a := 0) (b := 1) (by omega) (by omega) g2 (i_f (h _ _ hI'))))))
  have g' := g
  obtain ⟨v, v0, v1, e⟩ := g
  subst e
  refine s22_place hB (by omega) fun p0 hp0 hFp => ?_
  obtain ⟨a, a1, a2, a3, a4⟩ := per_ex b2 hE
  have ref : ∀ r, LSp N Rr K A p0 y r → wX8_lacks (nI v) y M (fun r2 M2 => Q r r2 M2) := fun r hr => by
    refine r8_leaf_t hR g' (i_t' (r8_in_t (a := 0) (b := 1) (by omega) (by omega) g2 (i_t ?_)))
    refine s8_period hB ⟨a1, a2, a3, a4⟩ fun M3 f3 => ?_
    have hB3 := QF_BK hB f3
    refine s8_power (j := 0) hB3 (by omega) fun M5 f5 c5 => ?_
    refine loop_0 (fun n i m => wX8_lacks_33 (nI v) y (fun r2 M2 => Q r r2 M2) n (nI a) (nI i) m) (fun i m => QF M m ∧ (∀ p, p < N → m 100 p = nI (itE (EE N K A Rr) i p)) ∧ ∀ j k, j < i → k < Rr → plc N Rr K A j k ≠ p0) a M5 ⟨QF_trans f3 f5, c5, fun j k hj => absurd hj (Nat.not_lt_zero _)⟩ ?_ ?_
    · intro n m ⟨f, c, d⟩
      unfold wX8_lacks_33
      refine b_le (by omega) (by omega) (fun _ => ?_) (fun q => by omega)
      have none := plc_red b1 d fun s l hs hl => by
        have := len_dvd hl (a3 s hs)
        rcases Nat.lt_or_ge a l with q | q
        · rw [Nat.mod_eq_of_lt q] at this
          omega
        · exact q
      rw [LSp_uniq hr (Or.inr ⟨none, rfl⟩)]
      exact h _ _ (QF_INV hI' f)
    · intro n i m hi ⟨f, c, d⟩ hk
      have hBm := QF_BK hB f
      unfold wX8_lacks_33
      refine b_le (by omega) (by omega) (fun q => by omega) (fun _ => ?_)
      refine loop_0 (fun n9 k m' => wX8_lacks_42 (nI v) y (wX8_lacks_33 (nI v) y (fun r2 M2 => Q r r2 M2) n) (fun r2 M2 => Q r r2 M2) n9 (nI a) (nI i) (nI k) m') (fun k m' => m' = m ∧ ∀ k', k' < k → plc N Rr K A i k' ≠ p0) Rr m ⟨rfl, fun k hk => absurd hk (Nat.not_lt_zero _)⟩ ?_ ?_
      · intro n9 m' ⟨em, dd⟩
        subst em
        unfold wX8_lacks_42
        rw [cl0, hBm.2.2.1.2.1]
        refine ⟨vz (by decide), b_le (by omega) (by omega) (fun _ => ?_) (fun q => by omega)⟩
        refine s8_put (N := N) (β := EE N K A Rr) rfl rfl (by decide) (by decide) (by decide) hBm.2.2.1.1 b2 (fun p hp => ⟨hBm.2.2.2.2.2.2.1 p hp, hE.1 p hp⟩) fun M2 d1 d2 => ?_
        rw [nI_1]
        refine hk _ ⟨QF_trans f (QF_of fun x _ _ _ d => d2 x (by omega) (by omega)), fun p hp => ?_, fun j k hj hk' => ?_⟩
        · rw [d1 p hp, c _ (hE.1 p hp), itE_add, itE_one]
        · by_cases q : j = i
          · rw [q]; exact dd k hk'
          · exact d j k (by omega) hk'
      · intro n9 k m' hk' ⟨em, dd⟩ hk2
        subst em
        unfold wX8_lacks_42
        rw [cl0, hBm.2.2.1.2.1]
        refine ⟨vz (by decide), b_le (by omega) (by omega) (fun q => by omega) (fun _ => ?_)⟩
        have hp := plc_lt (Rr := Rr) (K := K) (A := A) (j := i) (i := k) b1
        refine s8_place hBm.2.2.2.2.2.2 c b1 b2 b4 hk' ⟨vi (show _ < 40 by omega), ?_⟩
        have hFp2 := hFm.1 _ hp
        rw [nI_clamp (by omega), (hBm.2.2.2.2.1.2.2 _ hp).2]
        refine b_ne (by omega) (by omega) (fun q => ?_) (fun q => ?_)
        · rw [nI_1]
          refine hk2 _ ⟨rfl, fun k' hk'' => ?_⟩
          by_cases e : k' = k
          · rw [e]
            exact fun e2 => q (by rw [e2, hFp])
          · exact dd k' (by omega)
        · have e2 : plc N Rr K A i k = p0 := hFm.2 _ _ hp hp0 (q.trans hFp.symm)
          have er : r = if y = 0 then nI i else nI k := LSp_uniq hr (Or.inl ⟨i, k, hk', e2, dd, d, rfl⟩)
          have hq : Q r (if y = 0 then nI i else nI k) m' := by rw [← er]; exact h _ _ (QF_INV hI' f)
          unfold wX8_lacks_79
          exact ⟨fun c => by rw [if_neg c] at hq; exact hq, fun c => by rw [if_pos c] at hq; exact hq⟩
  refine loop_0 (fun n i m => wX7_lacks_31 (nI v) y (fun r1 M1 => wX8_lacks (nI v) y M1 (fun r2 M2 => Q r1 r2 M2)) n (nI p0) (nI i) m) (fun i m => m = M ∧ ∀ j k, j < i → k < Rr → plc N Rr K A j k ≠ p0) 40 M ⟨rfl, fun j k hj => absurd hj (Nat.not_lt_zero _)⟩ ?_ ?_
  · intro n m ⟨em, d⟩
    subst em
    unfold wX7_lacks_31
    refine b_le (a := 40) (b := 40) (by omega) (by omega) (fun _ => ref _ (Or.inr ⟨plc_red b1 d fun s l hs hl => ?_, rfl⟩)) (fun q => by omega)
    obtain ⟨l', l1, l2⟩ := len_ex hE hs
    have := len_uniq hl l2
    omega
  · intro n i m hi ⟨em, d⟩ hk
    subst em
    unfold wX7_lacks_31
    refine b_le (a := 40) (b := i) (by omega) (by omega) (fun q => by omega) (fun _ => ?_)
    refine s3_found h6 b1 b2 b4 (by omega) hp0 (fun q k k1 k2 k3 k4 k5 => s4_at (r := 40) k5 ?_) (fun q k1 k2 k3 => s4_at (r := 40) k3 ?_)
    · rw [show (40 + 1 : Nat) = 41 from rfl, k4]
      have rr := ref (if y = 0 then nI i else nI k) (Or.inl ⟨i, k, k1, k2, k3, d, rfl⟩)
      unfold wX7_lacks_76
      refine ⟨fun q => absurd q (nI_neg (by omega)), fun _ => ⟨fun c => ?_, fun c => ?_⟩⟩
      · rw [if_neg c] at rr; exact rr
      · rw [if_pos c] at rr; exact rr
    · rw [show (40 + 1 : Nat) = 41 from rfl, k2, nI_1]
      refine ⟨fun _ => hk _ ⟨rfl, fun j k hj hk' => ?_⟩, fun q => absurd rfl q⟩
      by_cases e : j = i
      · rw [e]; exact k1 k hk'
      · exact d j k (by omega) hk'
