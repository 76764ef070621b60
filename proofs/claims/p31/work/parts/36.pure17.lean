/-! PURE 17: filling up; order, so, sure -/
def FV (N : Nat) (g : Gs) (x : Nat) (w : Int32) : Prop := (g.1 x ≠ -4 ∧ w = g.1 x) ∨ (g.1 x = -4 ∧ ∃ l, l < N ∧ g.2 l = -4 ∧ rk g.2 l = rk g.1 x ∧ w = nI l)
theorem rk_inj {h : Nat → Int32} {a b : Nat} (ha : h a = -4) (hb : h b = -4) (e : rk h a = rk h b) : a = b := by
  rcases Nat.lt_trichotomy a b with q | q | q
  · have := rk_lt h q ha; omega
  · exact q
  · have := rk_lt h q hb; omega
theorem FV_uniq {N x : Nat} {g : Gs} {w w' : Int32} (h : FV N g x w) (h' : FV N g x w') : w = w' := by
  rcases h with ⟨a, b⟩ | ⟨a, l, l1, l2, l3, l4⟩
  · rcases h' with ⟨a', b'⟩ | ⟨a', -⟩
    · rw [b, b']
    · exact absurd a' a
  · rcases h' with ⟨a', -⟩ | ⟨a', m, m1, m2, m3, m4⟩
    · exact absurd a a'
    · rw [l4, m4, rk_inj l2 m2 (l3.trans m3.symm)]
theorem s7_bindF {M : Mem} {p v : Nat} {Q : Mem → Prop} (hp : p < 40) (hv : v < 40) (h1 : M 54 p = -4) (h2 : M 56 v = -4) (h : ∀ M1, M1 54 = upd (M 54) p (nI v) → M1 56 = upd (M 56) v (nI p) → M1 52 2 = M 52 2 → QF M M1 → Q M1) : wX0_bind 52 (nI p) (nI v) M Q := by
  refine s4_at (r := 53) hp (s4_at (r := 55) hv ?_)
  rw [show (53 + 1 : Nat) = 54 from rfl, show (55 + 1 : Nat) = 56 from rfl, h1, h2]
  refine ⟨fun n => absurd rfl n, fun _ => ⟨fun n => absurd rfl n, fun _ => s4_put (r := 53) hp (s4_put (r := 55) hv (h _ ?_ ?_ ?_ (QF_of fun x a b c d => ?_)))⟩⟩
  · rw [mu_ne (by omega), mu_ne (by omega), show (53 + 1 : Nat) = 54 from rfl, mu_self]
  · rw [mu_ne (by omega), show (55 + 1 : Nat) = 56 from rfl, mu_self, mu_ne (by omega)]
  · rw [mu_no (by omega), mu_no (by omega), mu_no (by omega)]
  · rw [mu_ne (by omega), mu_ne (by omega), mu_ne (by omega)]
theorem s8_knowF {M : Mem} {p v : Nat} {Q : Int32 → Mem → Prop} (hp : p < 40) (hv : v < 40) (h1 : M 103 p = -4) (h2 : M 104 v = -4) (h : ∀ M1, M1 103 = upd (M 103) p (nI v) → M1 104 = upd (M 104) v (nI p) → GF8 M M1 → Q 1 M1) : wX8_know (nI p) (nI v) M Q := by
  have vp := vi (a := 103) (show p < 40 by omega)
  have vv := vi (a := 104) (show v < 40 by omega)
  unfold wX8_know
  rw [nI_clamp (show p < 2 ^ 31 by omega), nI_clamp (show v < 2 ^ 31 by omega), h1, h2]
  refine ⟨vp, fun n => ⟨vp, fun q => absurd q m4_nle, fun q => ⟨vv, fun r => ⟨vp, vv, Or.inr rfl, ?_⟩, fun r => absurd m4_lt r⟩⟩, fun q => absurd q (nI_m4 (by omega))⟩
  refine h _ ?_ ?_ ⟨fun x a b c => by rw [mu_ne c, mu_ne b, mu_ne a], fun k hk => by rw [mu_no (by omega), mu_no (by omega), mu_no (by omega)]⟩
  · rw [mu_ne (by omega), mu_ne (by omega), mu_self]
  · rw [mu_ne (by omega), mu_self, mu_ne (by omega)]
theorem s7_fillUp {M : Mem} {N : Nat} {g : Gs} {ok : Bool} {Q : Mem → Prop} (h40 : N ≤ 40) (hG : GOK N g) (h7 : G7 M N g ok) (h : ∀ M1, QF M M1 → (∀ x, x < N → FV N g x (M1 54 x)) → Q M1) : wX0_fillUp 52 M Q := by
  obtain ⟨a1, a2, a3, a4⟩ := h7
  refine loop_0 (fun n i (s : Nat × Mem) => wX0_fillUp_4 52 Q n (nI s.1) (nI i) s.2) (fun i s => s.2 52 2 = nI N ∧ s.1 ≤ N ∧ rk g.1 s.1 ≤ rk g.2 i ∧ (∀ l, i ≤ l → l < N → s.2 56 l = g.2 l) ∧ (∀ x, x < N → g.1 x = -4 → rk g.1 x < rk g.2 i → ∃ l, l < i ∧ g.2 l = -4 ∧ rk g.2 l = rk g.1 x ∧ s.2 54 x = nI l) ∧ (∀ x, x < N → ¬ (g.1 x = -4 ∧ rk g.1 x < rk g.2 i) → s.2 54 x = g.1 x) ∧ QF M s.2) N (0, M) ⟨a1, Nat.zero_le _, Nat.le_refl _, fun l _ hl => (a2 l hl).2, fun x _ _ q => absurd q (Nat.not_lt_zero _), fun x hx _ => (a2 x hx).1, QF_refl _⟩ ?_ ?_
  · intro n s ⟨p1, p2, p3, p4, p5, p6, p7⟩
    unfold wX0_fillUp_4
    rw [p1]
    refine b_le (by omega) (by omega) (fun _ => h _ p7 fun x hx => ?_) (fun q => by omega)
    by_cases c : g.1 x = -4
    · have := rk_lt g.1 hx c
      obtain ⟨l, l1, l2, l3, l4⟩ := p5 x hx c (by rw [← hG.2.2]; exact this)
      exact Or.inr ⟨c, l, l1, l2, l3, l4⟩
    · exact Or.inl ⟨c, p6 x hx fun q => c q.1⟩
  · intro n i s hi ⟨p1, p2, p3, p4, p5, p6, p7⟩ hk
    obtain ⟨v, M'⟩ := s
    replace p1 : M' 52 2 = nI N := p1
    replace p2 : v ≤ N := p2
    replace p3 : rk g.1 v ≤ rk g.2 i := p3
    replace p4 : ∀ l, i ≤ l → l < N → M' 56 l = g.2 l := p4
    replace p5 : ∀ x, x < N → g.1 x = -4 → rk g.1 x < rk g.2 i → ∃ l, l < i ∧ g.2 l = -4 ∧ rk g.2 l = rk g.1 x ∧ M' 54 x = nI l := p5
    replace p6 : ∀ x, x < N → ¬ (g.1 x = -4 ∧ rk g.1 x < rk g.2 i) → M' 54 x = g.1 x := p6
    replace p7 : QF M M' := p7
    show wX0_fillUp_4 52 Q (n + 1) (nI v) (nI i) M'
    unfold wX0_fillUp_4
    rw [p1]
    refine b_le (by omega) (by omega) (fun q => by omega) (fun _ => s4_at (r := 55) (show i < 40 by omega) ?_)
    rw [show (55 + 1 : Nat) = 56 from rfl, p4 i (Nat.le_refl _) hi]
    refine ⟨fun c => ?_, fun c => ?_⟩
    · unfold wX0_fillUp_58
      rw [nI_1]
      have e := rk_f c
      refine hk (v, M') ⟨p1, p2, by rw [e]; exact p3, fun l h1 h2 => p4 l (by omega) h2, fun x hx hx1 hx2 => ?_, fun x hx hx1 => p6 x hx (by rw [e] at hx1; exact hx1), p7⟩
      rw [e] at hx2
      obtain ⟨l, l1, l2⟩ := p5 x hx hx1 hx2
      exact ⟨l, by omega, l2⟩
    · have e := rk_t c
      obtain ⟨x0, y1, y2, y3⟩ := rk_ex (h := g.1) (r := rk g.2 i) N (by rw [hG.2.2]; exact rk_lt g.2 hi c)
      have hv : v ≤ x0 := by
        rcases Nat.lt_or_ge x0 v with q | q
        · have := rk_lt g.1 q y2
          omega
        · exact q
      refine pk_loop (fun n4 j (m : Mem) => wX0_fillUp_25 52 (wX0_fillUp_4 52 Q n) Q n4 (nI j) (nI i) m) (fun j m => m = M' ∧ v ≤ j) x0 v M' hv ⟨rfl, Nat.le_refl _⟩ ?_ ?_
      · intro n4 m ⟨em, _⟩
        subst em
        unfold wX0_fillUp_25
        rw [p1]
        refine b_le (by omega) (by omega) (fun q => by omega) (fun _ => s4_at (r := 53) (show x0 < 40 by omega) ?_)
        have z0 : m 54 x0 = -4 := by rw [p6 x0 y1 (fun q => by omega)]; exact y2
        rw [show (53 + 1 : Nat) = 54 from rfl, z0]
        refine ⟨fun _ => ?_, fun q => absurd rfl q⟩
        refine s7_bindF (by omega) (by omega) z0 ((p4 i (Nat.le_refl _) hi).trans c) fun M1 f1 f2 f3 f4 => ?_
        unfold wX0_fillUp_58
        rw [nI_1]
        refine hk (x0, M1) ⟨f3.trans p1, by omega, by rw [e, y3]; exact Nat.le_succ _, fun l h1 h2 => ?_, fun x hx hx1 hx2 => ?_, fun x hx hx1 => ?_, QF_trans p7 f4⟩
        · show M1 56 l = g.2 l
          rw [f2, upd_ne (by omega)]
          exact p4 l (by omega) h2
        · show ∃ l, l < i + 1 ∧ g.2 l = -4 ∧ rk g.2 l = rk g.1 x ∧ M1 54 x = nI l
          rw [e] at hx2
          by_cases cx : x = x0
          · rw [cx, f1, upd_at]
            exact ⟨i, by omega, c, y3.symm, rfl⟩
          · have : rk g.1 x ≠ rk g.2 i := fun q => cx (rk_inj hx1 y2 (q.trans y3.symm))
            rw [f1, upd_ne cx]
            obtain ⟨l, l1, l2⟩ := p5 x hx hx1 (by omega)
            exact ⟨l, by omega, l2⟩
        · show M1 54 x = g.1 x
          rw [e] at hx1
          have cx : x ≠ x0 := fun q => by
            subst q
            exact hx1 ⟨y2, by omega⟩
          rw [f1, upd_ne cx]
          exact p6 x hx fun q => hx1 ⟨q.1, by omega⟩
      · intro n4 j m hj ⟨em, hvj⟩ hk2
        subst em
        unfold wX0_fillUp_25
        rw [p1]
        refine b_le (by omega) (by omega) (fun q => by omega) (fun _ => s4_at (r := 53) (show j < 40 by omega) ?_)
        have z : m 54 j ≠ -4 := by
          by_cases cj : g.1 j = -4
          · have := rk_lt g.1 hj cj
            obtain ⟨l, l1, l2, l3, l4⟩ := p5 j (by omega) cj (by omega)
            rw [l4]
            exact nI_neg (by omega)
          · rw [p6 j (by omega) fun q => cj q.1]
            exact cj
        refine ⟨fun q => absurd q z, fun _ => ?_⟩
        rw [nI_1]
        exact hk2 _ ⟨rfl, by omega⟩
theorem s8_fill {M : Mem} {N Rr K A : Nat} {g : Gs} {x1 : Int64} {y : Nat} {Q : Int32 → Mem → Prop} (hT : TLR M N Rr K A) (hG : GOK N g) (h8 : G8 M N g) (hy : y < N) (h : ∀ M1 w, GF8 M M1 → FV N g y w → Q w M1) : ∃ n, wX8_order_93 x1 (nI y) Q n (0 : Int32) (0 : Int32) M := by
  obtain ⟨a2, a3⟩ := h8
  have h40 : N ≤ 40 := hT.2.2.2.2.2.1
  refine loop_0 (fun n i (s : Nat × Mem) => wX8_order_93 x1 (nI y) Q n (nI s.1) (nI i) s.2) (fun i s => s.1 ≤ N ∧ rk g.2 s.1 ≤ rk g.1 i ∧ (∀ x, i ≤ x → x < N → s.2 103 x = g.1 x) ∧ (∀ x, x < i → FV N g x (s.2 103 x)) ∧ (∀ l, l < N → g.2 l = -4 → rk g.2 l < rk g.1 i → ¬ s.2 104 l < 0) ∧ (∀ l, l < N → ¬ (g.2 l = -4 ∧ rk g.2 l < rk g.1 i) → s.2 104 l = g.2 l) ∧ GF8 M s.2) N (0, M) ⟨Nat.zero_le _, Nat.le_refl _, fun x _ hx => (a2 x hx).1, fun x q => absurd q (Nat.not_lt_zero _), fun l _ _ q => absurd q (Nat.not_lt_zero _), fun l hl _ => (a2 l hl).2, GF8_refl _⟩ ?_ ?_
  · intro n s ⟨p2, p3, p4, p5, p6, p7, p8⟩
    unfold wX8_order_93
    have hT1 : TLR s.2 N Rr K A := TLR_congr hT (p8.1 81 (by omega) (by omega) (by omega)) (p8.1 82 (by omega) (by omega) (by omega)) (p8.1 83 (by omega) (by omega) (by omega)) (p8.1 84 (by omega) (by omega) (by omega))
    rw [cl0, hT1.1]
    refine ⟨vz (by decide), b_le (by omega) (by omega) (fun _ => ⟨vi (show y < 40 by omega), ?_⟩) (fun q => by omega)⟩
    rw [nI_clamp (by omega)]
    exact h _ _ p8 (p5 y hy)
  · intro n i s hi ⟨p2, p3, p4, p5, p6, p7, p8⟩ hk
    obtain ⟨v, M'⟩ := s
    replace p2 : v ≤ N := p2
    replace p3 : rk g.2 v ≤ rk g.1 i := p3
    replace p4 : ∀ x, i ≤ x → x < N → M' 103 x = g.1 x := p4
    replace p5 : ∀ x, x < i → FV N g x (M' 103 x) := p5
    replace p6 : ∀ l, l < N → g.2 l = -4 → rk g.2 l < rk g.1 i → ¬ M' 104 l < 0 := p6
    replace p7 : ∀ l, l < N → ¬ (g.2 l = -4 ∧ rk g.2 l < rk g.1 i) → M' 104 l = g.2 l := p7
    replace p8 : GF8 M M' := p8
    show wX8_order_93 x1 (nI y) Q (n + 1) (nI v) (nI i) M'
    unfold wX8_order_93
    have hT1 : TLR M' N Rr K A := TLR_congr hT (p8.1 81 (by omega) (by omega) (by omega)) (p8.1 82 (by omega) (by omega) (by omega)) (p8.1 83 (by omega) (by omega) (by omega)) (p8.1 84 (by omega) (by omega) (by omega))
    rw [cl0, hT1.1, nI_clamp (show i < 2 ^ 31 by omega), p4 i (Nat.le_refl _) hi]
    refine ⟨vz (by decide), b_le (by omega) (by omega) (fun q => by omega) (fun _ => ⟨vi (show i < 40 by omega), fun c => ?_, fun c => ?_⟩)⟩
    · have c' : g.1 i ≠ -4 := fun q => by rw [q] at c; exact m4_nle c
      unfold wX8_order_139
      rw [nI_1]
      have e := rk_f c'
      refine hk (v, M') ⟨p2, by rw [e]; exact p3, fun x h1 h2 => p4 x (by omega) h2, fun x hx => ?_, fun l h1 h2 h3 => p6 l h1 h2 (by rw [e] at h3; exact h3), fun l h1 h2 => p7 l h1 (by rw [e] at h2; exact h2), p8⟩
      by_cases cx : x = i
      · subst cx
        exact Or.inl ⟨c', p4 x (Nat.le_refl _) hi⟩
      · exact p5 x (by omega)
    · have c' : g.1 i = -4 := by
        rcases hG.1 i hi with q | ⟨w, hw, q⟩
        · exact q
        · rw [q] at c
          exact absurd (nI_pos' (by omega)) c
      have e := rk_t c'
      obtain ⟨l0, y1, y2, y3⟩ := rk_ex (h := g.2) (r := rk g.1 i) N (by rw [← hG.2.2]; exact rk_lt g.1 hi c')
      have hv : v ≤ l0 := by
        rcases Nat.lt_or_ge l0 v with q | q
        · have := rk_lt g.2 q y2
          omega
        · exact q
      refine pk_loop (fun n4 j (m : Mem) => wX8_order_114 x1 (nI y) (wX8_order_93 x1 (nI y) Q n) Q n4 (nI j) (nI i) m) (fun j m => m = M' ∧ v ≤ j) l0 v M' hv ⟨rfl, Nat.le_refl _⟩ ?_ ?_
      · intro n4 m ⟨em, _⟩
        subst em
        unfold wX8_order_114
        have z0 : m 104 l0 = -4 := by rw [p7 l0 y1 (fun q => by omega)]; exact y2
        rw [nI_clamp (show l0 < 2 ^ 31 by omega), z0]
        refine ⟨vi (show l0 < 40 by omega), fun _ => ?_, fun q => absurd m4_lt q⟩
        refine s8_knowF (by omega) (by omega) ((p4 i (Nat.le_refl _) hi).trans c') z0 fun M1 f1 f2 f4 => ?_
        unfold wX8_order_139
        rw [nI_1]
        refine hk (l0, M1) ⟨by omega, by rw [e, y3]; exact Nat.le_succ _, fun x h1 h2 => ?_, fun x hx => ?_, fun l h1 h2 h3 => ?_, fun l h1 h2 => ?_, GF8_trans p8 f4⟩
        · show M1 103 x = g.1 x
          rw [f1, upd_ne (by omega)]
          exact p4 x (by omega) h2
        · show FV N g x (M1 103 x)
          by_cases cx : x = i
          · rw [cx, f1, upd_at]
            exact Or.inr ⟨c', l0, y1, y2, y3, rfl⟩
          · rw [f1, upd_ne cx]
            exact p5 x (by omega)
        · show ¬ M1 104 l < 0
          rw [e] at h3
          by_cases cl : l = l0
          · rw [cl, f2, upd_at]
            exact nI_pos (by omega)
          · have : rk g.2 l ≠ rk g.1 i := fun q => cl (rk_inj h2 y2 (q.trans y3.symm))
            rw [f2, upd_ne cl]
            exact p6 l h1 h2 (by omega)
        · show M1 104 l = g.2 l
          rw [e] at h2
          have cl : l ≠ l0 := fun q => by
            subst q
            exact h2 ⟨y2, by omega⟩
          rw [f2, upd_ne cl]
          exact p7 l h1 fun q => h2 ⟨q.1, by omega⟩
      · intro n4 j m hj ⟨em, hvj⟩ hk2
        subst em
        unfold wX8_order_114
        rw [nI_clamp (show j < 2 ^ 31 by omega)]
        have z : ¬ m 104 j < 0 := by
          by_cases cj : g.2 j = -4
          · have := rk_lt g.2 hj cj
            exact p6 j (by omega) cj (by omega)
          · rw [p7 j (by omega) fun q => cj q.1]
            rcases hG.2.1 j (by omega) with q | ⟨w, hw, q⟩
            · exact absurd q cj
            · rw [q]
              exact nI_pos (by omega)
        refine ⟨vi (show j < 40 by omega), fun q => absurd q z, fun _ => ?_⟩
        rw [nI_1]
        exact hk2 _ ⟨rfl, by omega⟩
