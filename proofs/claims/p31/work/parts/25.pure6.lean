/-! PURE 6: Readers.follow -/
theorem s3_layRing {N n a f : Nat} {E : Nat → Nat} {M : Mem} {Q : Int32 → Mem → Prop} (hE : Pm N E) (h40 : N ≤ 40) (hf : f < N) (hn : isLen E f n) (hnN : n ≤ N) (han : a + n ≤ N) (hsz : M 32 1 = nI N) (hrow : ∀ p, p < N → M 35 p = nI (E p))
    (h : ∀ M1 : Mem, (∀ k, k < n → M1 45 (a + k) = nI (itE E k f)) → (∀ z, z < a → M1 45 z = M 45 z) → (∀ k, k < n → M1 47 (itE E k f) = nI a ∧ M1 51 (itE E k f) = nI k ∧ M1 49 (itE E k f) = nI n) → (∀ q, (∀ k, k < n → q ≠ itE E k f) → M1 47 q = M 47 q ∧ M1 51 q = M 51 q ∧ M1 49 q = M 49 q) → (∀ x, x ≠ 45 → x ≠ 47 → x ≠ 49 → x ≠ 51 → M1 x = M x) → Q (nI n) M1) : wX3_layRing 32 (nI f) (nI a) M Q := by
  have hn1 : 1 ≤ n := hn.1
  have first : ∀ (d k : Nat) (M' : Mem), k + d + 1 = n → (∀ i, i < k → M' 45 (a + i) = nI (itE E i f)) → (∀ z, z < a → M' 45 z = M 45 z) → (∀ i, i < k → M' 47 (itE E i f) = nI a ∧ M' 51 (itE E i f) = nI i) → (∀ q, (∀ i, i < k → q ≠ itE E i f) → M' 47 q = M 47 q ∧ M' 51 q = M 51 q) → (∀ x, x ≠ 45 → x ≠ 47 → x ≠ 51 → M' x = M x) → wX3_layRing_5 32 (nI f) (nI a) Q (d + 1) (nI k) (nI (itE E k f)) M' := by
    intro d
    induction d with
    | zero =>
      intro k M' hk p1 p2 p3 p4 p5
      have hpl : itE E k f < N := (itE_pm hE k).1 f hf
      unfold wX3_layRing_5
      rw [nI_add]
      refine s4_put (r := 44) (by show _ < 40; omega) (s4_put (r := 46) (by show _ < 40; omega) (s4_put (r := 50) (by show _ < 40; omega) (s1_leafAt (o := 33) rfl (by omega) ?_)))
      generalize hM2 : mu (mu (mu M' (44 + 1) (a + k) (nI (itE E k f))) (46 + 1) (itE E k f) (nI a)) (50 + 1) (itE E k f) (nI k) = M2
      have e35 : M2 35 (itE E k f) = nI (E (itE E k f)) := by rw [← hM2, mu_ne (by decide), mu_ne (by decide), mu_ne (by decide), p5 35 (by decide) (by decide) (by decide)]; exact hrow _ hpl
      rw [show M2 (33 + 2) (itE E k f) = nI (E (itE E k f)) from e35, nI_1]
      have hlast : E (itE E k f) = f := by rw [← itE_succ E k f, show k + 1 = n by omega]; exact hn.2.1
      refine br_t (by rw [hlast]) ?_
      -- the second loop
      have q1 : ∀ i, i < n → M2 45 (a + i) = nI (itE E i f) := fun i hi => by
        rw [← hM2, mu_ne (by decide), mu_ne (by decide)]
        by_cases hik : i = k
        · rw [hik]; exact mu_at _ _ _ _
        · rw [mu_no (Or.inr (by omega))]; exact p1 i (by omega)
      have q2 : ∀ z, z < a → M2 45 z = M 45 z := fun z hz => by
        rw [← hM2, mu_ne (by decide), mu_ne (by decide), mu_no (Or.inr (by omega))]; exact p2 z hz
      have q3 : ∀ i, i < n → M2 47 (itE E i f) = nI a ∧ M2 51 (itE E i f) = nI i := fun i hi => by
        by_cases hik : i = k
        · rw [hik, ← hM2]
          exact ⟨by rw [mu_ne (by decide)]; exact mu_at _ _ _ _, mu_at _ _ _ _⟩
        · have hne : itE E i f ≠ itE E k f := fun q => hik (len_inj hE hf hn (by omega) (by omega) q)
          rw [← hM2]
          exact ⟨by rw [mu_ne (by decide), mu_no (Or.inr hne), mu_ne (by decide)]; exact (p3 i (by omega)).1, by rw [mu_no (Or.inr hne), mu_ne (by decide), mu_ne (by decide)]; exact (p3 i (by omega)).2⟩
      have q4 : ∀ q, (∀ i, i < n → q ≠ itE E i f) → M2 47 q = M 47 q ∧ M2 51 q = M 51 q := fun q hq => by
        have hne : q ≠ itE E k f := hq k (by omega)
        rw [← hM2]
        exact ⟨by rw [mu_ne (by decide), mu_no (Or.inr hne), mu_ne (by decide)]; exact (p4 q (fun i hi => hq i (by omega))).1, by rw [mu_no (Or.inr hne), mu_ne (by decide), mu_ne (by decide)]; exact (p4 q (fun i hi => hq i (by omega))).2⟩
      have q5 : ∀ x, x ≠ 45 → x ≠ 47 → x ≠ 51 → M2 x = M x := fun x h1 h2 h3 => by
        rw [← hM2, mu_ne h3, mu_ne h2, mu_ne h1]; exact p5 x h1 h2 h3
      rw [show k + 1 = n by omega]
      refine loop_0 (fun m i M3 => wX3_layRing_68 32 (nI f) (nI a) Q m (nI n) (nI i) M3) (fun i M3 => (∀ j, j < i → M3 49 (itE E j f) = nI n) ∧ (∀ q, (∀ j, j < n → q ≠ itE E j f) → M3 49 q = M 49 q) ∧ ∀ x, x ≠ 49 → M3 x = M2 x) n M2 ⟨fun j hj => by omega, fun q _ => by rw [q5 49 (by decide) (by decide) (by decide)], fun _ _ => rfl⟩ ?_ ?_
      · intro m M3 ⟨r1, r2, r3⟩
        refine b_le (a := n) (b := n) (by omega) (by omega) (fun _ => h M3 ?_ ?_ ?_ ?_ ?_) (fun q => by omega)
        · intro i hi; rw [r3 45 (by decide)]; exact q1 i hi
        · intro z hz; rw [r3 45 (by decide)]; exact q2 z hz
        · intro i hi; rw [r3 47 (by decide), r3 51 (by decide)]; exact ⟨(q3 i hi).1, (q3 i hi).2, r1 i hi⟩
        · intro q hq; rw [r3 47 (by decide), r3 51 (by decide)]; exact ⟨(q4 q hq).1, (q4 q hq).2, r2 q hq⟩
        · intro x h1 h2 h3 h4; rw [r3 x h3]; exact q5 x h1 h2 h4
      · intro m i M3 hi ⟨r1, r2, r3⟩ ih
        refine b_le (a := n) (b := i) (by omega) (by omega) (fun q => by omega) (fun _ => ?_)
        rw [nI_add]
        refine s4_at (r := 44) (by show _ < 40; omega) ?_
        have hpi : itE E i f < N := (itE_pm hE i).1 f hf
        rw [show M3 (44 + 1) (a + i) = nI (itE E i f) by rw [r3 45 (by decide)]; exact q1 i hi]
        refine s4_put (r := 48) (by show _ < 40; omega) ?_
        rw [nI_1]
        apply ih
        refine ⟨fun j hj => ?_, fun q hq => ?_, fun x hx => by rw [mu_ne hx]; exact r3 x hx⟩
        · by_cases hji : j = i
          · rw [hji]; exact mu_at _ _ _ _
          · have hne : itE E j f ≠ itE E i f := fun q => hji (len_inj hE hf hn (by omega) (by omega) q)
            rw [mu_no (Or.inr hne)]; exact r1 j (by omega)
        · rw [mu_no (Or.inr (hq i hi))]; exact r2 q hq
    | succ d ihd =>
      intro k M' hk p1 p2 p3 p4 p5
      have hpl : itE E k f < N := (itE_pm hE k).1 f hf
      unfold wX3_layRing_5
      rw [nI_add]
      refine s4_put (r := 44) (by show _ < 40; omega) (s4_put (r := 46) (by show _ < 40; omega) (s4_put (r := 50) (by show _ < 40; omega) (s1_leafAt (o := 33) rfl (by omega) ?_)))
      generalize hM2 : mu (mu (mu M' (44 + 1) (a + k) (nI (itE E k f))) (46 + 1) (itE E k f) (nI a)) (50 + 1) (itE E k f) (nI k) = M2
      have e35 : M2 35 (itE E k f) = nI (E (itE E k f)) := by rw [← hM2, mu_ne (by decide), mu_ne (by decide), mu_ne (by decide), p5 35 (by decide) (by decide) (by decide)]; exact hrow _ hpl
      have e32 : M2 32 1 = nI N := by rw [← hM2, mu_ne (by decide), mu_ne (by decide), mu_ne (by decide), p5 32 (by decide) (by decide) (by decide)]; exact hsz
      rw [show M2 (33 + 2) (itE E k f) = nI (E (itE E k f)) from e35, nI_1, e32]
      have hE1 : E (itE E k f) < N := hE.1 _ hpl
      have hnl : E (itE E k f) ≠ f := by rw [← itE_succ E k f]; exact hn.2.2 (k + 1) (by omega) (by omega)
      refine b_eq (a := E (itE E k f)) (b := f) (by omega) (by omega) (fun q => absurd q hnl) (fun _ => b_lt (a := k + 1) (b := N) (by omega) (by omega) (fun _ => ?_) (fun q => by omega))
      rw [← itE_succ E k f]
      refine ihd (k + 1) M2 (by omega) ?_ ?_ ?_ ?_ ?_
      · intro i hi
        rw [← hM2, mu_ne (by decide), mu_ne (by decide)]
        by_cases hik : i = k
        · rw [hik]; exact mu_at _ _ _ _
        · rw [mu_no (Or.inr (by omega))]; exact p1 i (by omega)
      · intro z hz
        rw [← hM2, mu_ne (by decide), mu_ne (by decide), mu_no (Or.inr (by omega))]; exact p2 z hz
      · intro i hi
        by_cases hik : i = k
        · rw [hik, ← hM2]
          exact ⟨by rw [mu_ne (by decide)]; exact mu_at _ _ _ _, mu_at _ _ _ _⟩
        · have hne : itE E i f ≠ itE E k f := fun q => hik (len_inj hE hf hn (by omega) (by omega) q)
          rw [← hM2]
          exact ⟨by rw [mu_ne (by decide), mu_no (Or.inr hne), mu_ne (by decide)]; exact (p3 i (by omega)).1, by rw [mu_no (Or.inr hne), mu_ne (by decide), mu_ne (by decide)]; exact (p3 i (by omega)).2⟩
      · intro q hq
        have hne : q ≠ itE E k f := hq k (by omega)
        rw [← hM2]
        exact ⟨by rw [mu_ne (by decide), mu_no (Or.inr hne), mu_ne (by decide)]; exact (p4 q (fun i hi => hq i (by omega))).1, by rw [mu_no (Or.inr hne), mu_ne (by decide), mu_ne (by decide)]; exact (p4 q (fun i hi => hq i (by omega))).2⟩
      · intro x h1 h2 h3
        rw [← hM2, mu_ne h3, mu_ne h2, mu_ne h1]; exact p5 x h1 h2 h3
  exact ⟨n - 1 + 1, first (n - 1) 0 M (by omega) (fun i hi => by omega) (fun _ _ => rfl) (fun i hi => by omega) (fun _ _ => ⟨rfl, rfl⟩) (fun _ _ _ _ => rfl)⟩
/-- what is known of a place q when a slots of the rings are laid, with ρ in them -/
def RQ (E : Nat → Nat) (M : Mem) (ρ : Nat → Nat) (a q : Nat) : Prop := ∃ L st ix b : Nat, M 49 q = nI L ∧ M 47 q = nI st ∧ M 51 q = nI ix ∧ isLen E q L ∧ ix < L ∧ st + L ≤ a ∧ itE E ix b = q ∧ ∀ k, k < L → ρ (st + k) = itE E k b
theorem s3_layRings {N : Nat} {E : Nat → Nat} {M : Mem} {Q : Mem → Prop} (hE : Pm N E) (h40 : N ≤ 40) (hsz : M 32 1 = nI N) (hrow : ∀ p, p < N → M 35 p = nI (E p)) (h : ∀ M1 : Mem, RG N E M1 → (∀ x, x ≠ 45 → x ≠ 47 → x ≠ 49 → x ≠ 51 → M1 x = M x) → Q M1) : wX3_layRings 32 M Q := by
  refine s4_fill (r := 48) ?_
  generalize hM0 : sr M (48 + 1) (fun p => if p < ln (48 + 1) then (0 : Int32) else M (48 + 1) p) = M0
  have z49 : ∀ q, q < N → M0 49 q = 0 := fun q hq => by rw [← hM0, show (49 : Nat) = 48 + 1 from rfl, sr_self]; exact if_pos (by show q < 40; omega)
  have oth : ∀ x, x ≠ 49 → M0 x = M x := fun x hx => by rw [← hM0]; exact sr_ne hx
  have main : ∀ (d p a : Nat) (ρ : Nat → Nat) (M' : Mem), p + d = N → a ≤ N → (∀ z, z < a → M' 45 z = nI (ρ z) ∧ ρ z < N) → (∀ y z, y < a → z < a → ρ y = ρ z → y = z) → (∀ q, q < N → (M' 49 q = 0 ∧ ∀ z, z < a → ρ z ≠ q) ∨ RQ E M' ρ a q) → (∀ q, q < p → RQ E M' ρ a q) → (∀ x, x ≠ 45 → x ≠ 47 → x ≠ 49 → x ≠ 51 → M' x = M x) → wX3_layRings_12 32 Q (d + 1) (nI a) (nI p) M' := by
    intro d
    induction d with
    | zero =>
      intro p a ρ M' hp ha hρ hinj hq hdone hfr
      have hpN : p = N := by omega
      subst hpN
      unfold wX3_layRings_12
      rw [hfr 32 (by decide) (by decide) (by decide) (by decide), hsz]
      refine b_le (a := p) (b := p) (by omega) (by omega) (fun _ => h M' ?_ hfr) (fun q => by omega)
      refine ⟨fun q => if hq : q < p then Classical.choose (hdone q hq) else 0, fun q => if hq : q < p then Classical.choose (Classical.choose_spec (hdone q hq)) else 0, fun q => if hq : q < p then Classical.choose (Classical.choose_spec (Classical.choose_spec (hdone q hq))) else 0, fun q => if hq : q < p then Classical.choose (Classical.choose_spec (Classical.choose_spec (Classical.choose_spec (hdone q hq)))) else 0, fun q hq => ?_⟩
      simp only [dif_pos hq]
      obtain ⟨e1, e2, e3, e4, e5, e6, e7, e8⟩ := Classical.choose_spec (Classical.choose_spec (Classical.choose_spec (Classical.choose_spec (hdone q hq))))
      refine ⟨e1, e2, e3, e4, e5, by omega, ?_, e7, fun k hk => ?_⟩
      · have := (hρ _ (show Classical.choose (Classical.choose_spec (hdone q hq)) + 0 < a by have := e4.1; omega)).2
        rw [e8 0 (by have := e4.1; omega)] at this
        exact this
      · rw [(hρ _ (by omega)).1, e8 k hk]
    | succ d ihd =>
      intro p a ρ M' hp ha hρ hinj hq hdone hfr
      have hpN : p < N := by omega
      unfold wX3_layRings_12
      rw [hfr 32 (by decide) (by decide) (by decide) (by decide), hsz]
      refine b_le (a := N) (b := p) (by omega) (by omega) (fun q => by omega) (fun _ => s4_at (r := 48) (by show p < 40; omega) ?_)
      rw [show M' (48 + 1) p = M' 49 p from rfl]
      rcases hq p hpN with ⟨h0, hno⟩ | hv
      · rw [h0]
        refine bn_t rfl ?_
        obtain ⟨n, hnN, hn⟩ := len_ex hE hpN
        have hn1 := hn.1
        -- the new ring's places are new
        have hnew : ∀ z k, z < a → k < n → ρ z ≠ itE E k p := fun z k hz hk e => by
          have hqN : ρ z < N := (hρ z hz).2
          rcases hq (ρ z) hqN with ⟨-, hno2⟩ | ⟨L, st, ix, b, e1, e2, e3, e4, e5, e6, e7, e8⟩
          · exact hno2 z hz rfl
          · have hL := e4.1
            have hbN : b < N := by
              have := (hρ (st + 0) (by omega)).2
              rw [e8 0 (by omega)] at this
              exact this
            have hb : itE E L b = b := by
              apply (itE_pm hE ix).2 _ _ ((itE_pm hE L).1 _ hbN) hbN
              rw [itE_comm, e7]
              exact e4.2.1
            have hp2 : itE E (n - k) (ρ z) = p := by rw [e, ← itE_add, show n - k + k = n by omega]; exact hn.2.1
            rw [← e7, ← itE_add, ← itE_mod hb] at hp2
            have hml : (n - k + ix) % L < L := Nat.mod_lt _ (by omega)
            exact hno (st + (n - k + ix) % L) (by omega) (by rw [e8 _ hml]; exact hp2)
        have han : a + n ≤ N := pigeon N (a + n) (fun z => if z < a then ρ z else itE E (z - a) p) (fun z hz => by
            by_cases hc : z < a
            · simp only [if_pos hc]; exact (hρ z hc).2
            · simp only [if_neg hc]; exact (itE_pm hE _).1 p hpN) (fun y z hy hz hyz => by
            by_cases hc : y < a <;> by_cases hc2 : z < a
            · simp only [if_pos hc, if_pos hc2] at hyz; exact hinj y z hc hc2 hyz
            · simp only [if_pos hc, if_neg hc2] at hyz; exact absurd hyz (hnew y (z - a) hc (by omega))
            · simp only [if_neg hc, if_pos hc2] at hyz; exact absurd hyz.symm (hnew z (y - a) hc2 (by omega))
            · simp only [if_neg hc, if_neg hc2] at hyz
              have := len_inj hE hpN hn (show y - a < n by omega) (show z - a < n by omega) hyz
              omega)
        refine s3_layRing hE h40 hpN hn hnN han (by rw [hfr 32 (by decide) (by decide) (by decide) (by decide)]; exact hsz) (fun q hq => by rw [hfr 35 (by decide) (by decide) (by decide) (by decide)]; exact hrow q hq) (fun M1 r1 r2 r3 r4 r5 => ?_)
        show wX3_layRings_12 32 Q (d + 1) (nI a + nI n) (nI p + 1) M1
        rw [nI_add, nI_1]
        obtain ⟨ρ', hρ'⟩ : ∃ ρ' : Nat → Nat, ρ' = fun z => if z < a then ρ z else itE E (z - a) p := ⟨_, rfl⟩
        have ρlo : ∀ z, z < a → ρ' z = ρ z := fun z hz => by rw [hρ']; exact if_pos hz
        have ρhi : ∀ k, ρ' (a + k) = itE E k p := fun k => by rw [hρ']; simp only [if_neg (show ¬ a + k < a by omega), Nat.add_sub_cancel_left]
        have keep : ∀ q, (∀ k, k < n → q ≠ itE E k p) → RQ E M' ρ a q → RQ E M1 ρ' (a + n) q := fun q hqn ⟨L, st, ix, b, e1, e2, e3, e4, e5, e6, e7, e8⟩ => by
          obtain ⟨g1, g2, g3⟩ := r4 q hqn
          exact ⟨L, st, ix, b, by rw [g3]; exact e1, by rw [g1]; exact e2, by rw [g2]; exact e3, e4, e5, by omega, e7, fun k hk => by rw [ρlo _ (by omega)]; exact e8 k hk⟩
        have fresh : ∀ k, k < n → RQ E M1 ρ' (a + n) (itE E k p) := fun k hk =>
          ⟨n, a, k, p, (r3 k hk).2.2, (r3 k hk).1, (r3 k hk).2.1, len_it hE hpN hn k, hk, Nat.le_refl _, rfl, fun j _ => ρhi j⟩
        refine ihd (p + 1) (a + n) ρ' M1 (by omega) han ?_ ?_ ?_ ?_ ?_
        · intro z hz
          by_cases hc : z < a
          · rw [r2 z hc, ρlo z hc]; exact hρ z hc
          · have e := r1 (z - a) (by omega)
            rw [show a + (z - a) = z by omega] at e
            have e2 := ρhi (z - a)
            rw [show a + (z - a) = z by omega] at e2
            rw [e, e2]
            exact ⟨rfl, (itE_pm hE _).1 p hpN⟩
        · intro y z hy hz hyz
          by_cases hc : y < a <;> by_cases hc2 : z < a
          · rw [ρlo y hc, ρlo z hc2] at hyz; exact hinj y z hc hc2 hyz
          · have e2 := ρhi (z - a)
            rw [show a + (z - a) = z by omega] at e2
            rw [ρlo y hc, e2] at hyz; exact absurd hyz (hnew y (z - a) hc (by omega))
          · have e2 := ρhi (y - a)
            rw [show a + (y - a) = y by omega] at e2
            rw [ρlo z hc2, e2] at hyz; exact absurd hyz.symm (hnew z (y - a) hc2 (by omega))
          · have e1 := ρhi (y - a)
            rw [show a + (y - a) = y by omega] at e1
            have e2 := ρhi (z - a)
            rw [show a + (z - a) = z by omega] at e2
            rw [e1, e2] at hyz
            have := len_inj hE hpN hn (show y - a < n by omega) (show z - a < n by omega) hyz
            omega
        · intro q hqN
          by_cases hc : ∃ k, k < n ∧ q = itE E k p
          · obtain ⟨k, hk, rfl⟩ := hc
            exact Or.inr (fresh k hk)
          · have hqn : ∀ k, k < n → q ≠ itE E k p := fun k hk e => hc ⟨k, hk, e⟩
            rcases hq q hqN with ⟨g1, g2⟩ | g
            · refine Or.inl ⟨by rw [(r4 q hqn).2.2]; exact g1, fun z hz e => ?_⟩
              by_cases hc2 : z < a
              · rw [ρlo z hc2] at e; exact g2 z hc2 e
              · have e2 := ρhi (z - a)
                rw [show a + (z - a) = z by omega] at e2
                rw [e2] at e
                exact hqn (z - a) (by omega) e.symm
            · exact Or.inr (keep q hqn g)
        · intro q hqp
          by_cases hc : ∃ k, k < n ∧ q = itE E k p
          · obtain ⟨k, hk, rfl⟩ := hc
            exact fresh k hk
          · have hqn : ∀ k, k < n → q ≠ itE E k p := fun k hk e => hc ⟨k, hk, e⟩
            have hlt : q < p := by
              rcases Nat.lt_or_ge q p with g | g
              · exact g
              · exact absurd (show q = itE E 0 p by show q = p; omega) (hqn 0 (by omega))
            exact keep q hqn (hdone q hlt)
        · intro x h1 h2 h3 h4
          rw [r5 x h1 h2 h3 h4]; exact hfr x h1 h2 h3 h4
      · obtain ⟨L, st, ix, b, e1, e2, e3, e4, e5, e6, e7, e8⟩ := id hv
        have hL := e4.1
        rw [e1]
        refine bn_f (nI_ne0 (by omega) (by omega)) ?_
        show wX3_layRings_12 32 Q (d + 1) (nI a) (nI p + 1) M'
        rw [nI_1]
        refine ihd (p + 1) a ρ M' (by omega) ha hρ hinj hq ?_ hfr
        intro q hqp
        by_cases hc : q = p
        · rw [hc]; exact hv
        · exact hdone q (by omega)
  exact ⟨N + 1, main N 0 0 (fun _ => 0) M0 (by omega) (by omega) (fun z hz => by omega) (fun y z hy => by omega) (fun q hq => Or.inl ⟨z49 q hq, fun z hz => by omega⟩) (fun q hq => by omega) (fun x h1 h2 h3 h4 => oth x h3)⟩
