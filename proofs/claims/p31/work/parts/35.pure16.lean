/-! PURE 16: what is known of an order -/
abbrev Gs := (Nat → Int32) × (Nat → Int32)
def rk (h : Nat → Int32) : Nat → Nat
  | 0 => 0
  | n + 1 => rk h n + (if h n = -4 then 1 else 0)
theorem rk_le (h : Nat → Int32) : ∀ n, rk h n ≤ n
  | 0 => Nat.le_refl _
  | n + 1 => by
    have := rk_le h n
    show rk h n + (if h n = -4 then 1 else 0) ≤ n + 1
    split <;> omega
theorem rk_t {h : Nat → Int32} {n : Nat} (e : h n = -4) : rk h (n + 1) = rk h n + 1 := by
  show rk h n + (if h n = -4 then 1 else 0) = _
  rw [if_pos e]
theorem rk_f {h : Nat → Int32} {n : Nat} (e : h n ≠ -4) : rk h (n + 1) = rk h n := by
  show rk h n + (if h n = -4 then 1 else 0) = _
  rw [if_neg e]
  rfl
theorem rk_mono (h : Nat → Int32) {a b : Nat} (hab : a ≤ b) : rk h a ≤ rk h b := by
  induction b with
  | zero => rw [show a = 0 by omega]; exact Nat.le_refl _
  | succ b ih =>
    rcases Nat.lt_or_ge b a with q | q
    · rw [show a = b + 1 by omega]
      exact Nat.le_refl _
    · have := ih q
      have : rk h b ≤ rk h (b + 1) := Nat.le_add_right _ _
      omega
theorem rk_lt (h : Nat → Int32) {a b : Nat} (hab : a < b) (e : h a = -4) : rk h a < rk h b := by
  have := rk_mono h (show a + 1 ≤ b from hab)
  rw [rk_t e] at this
  omega
theorem rk_no {h : Nat → Int32} {p : Nat} {x : Int32} : ∀ n, n ≤ p → rk (upd h p x) n = rk h n
  | 0, _ => rfl
  | n + 1, hn => by
    have e : upd h p x n = h n := upd_ne (by omega)
    show rk (upd h p x) n + (if upd h p x n = -4 then 1 else 0) = rk h n + (if h n = -4 then 1 else 0)
    rw [rk_no n (by omega), e]
theorem rk_upd {h : Nat → Int32} {p : Nat} {x : Int32} (hp : h p = -4) (hx : x ≠ -4) : ∀ n, p < n → rk (upd h p x) n + 1 = rk h n
  | 0, q => by omega
  | n + 1, q => by
    by_cases e : n = p
    · subst e
      rw [rk_t hp, rk_f (by rw [upd_at]; exact hx), rk_no n (Nat.le_refl _)]
    · have e2 : upd h p x n = h n := upd_ne e
      have := rk_upd hp hx n (by omega)
      show rk (upd h p x) n + (if upd h p x n = -4 then 1 else 0) + 1 = rk h n + (if h n = -4 then 1 else 0)
      rw [e2]
      omega
theorem rk_c : ∀ n, rk (fun _ => -4) n = n
  | 0 => rfl
  | n + 1 => by rw [rk_t rfl, rk_c n]
theorem rk_cg {h h' : Nat → Int32} : ∀ n, (∀ p, p < n → h p = h' p) → rk h n = rk h' n
  | 0, _ => rfl
  | n + 1, e => by
    show rk h n + (if h n = -4 then 1 else 0) = rk h' n + (if h' n = -4 then 1 else 0)
    rw [rk_cg n (fun p hp => e p (by omega)), e n (by omega)]
theorem rk_ex {h : Nat → Int32} {r : Nat} : ∀ n, r < rk h n → ∃ p, p < n ∧ h p = -4 ∧ rk h p = r
  | 0, q => by exact absurd q (Nat.not_lt_zero _)
  | n + 1, q => by
    rcases Nat.lt_or_ge r (rk h n) with g | g
    · obtain ⟨p, a, b, c⟩ := rk_ex n g
      exact ⟨p, by omega, b, c⟩
    · by_cases e : h n = -4
      · rw [rk_t e] at q
        exact ⟨n, by omega, e, by omega⟩
      · rw [rk_f e] at q
        omega
def GOK (N : Nat) (g : Gs) : Prop := (∀ p, p < N → g.1 p = -4 ∨ ∃ v, v < N ∧ g.1 p = nI v) ∧ (∀ v, v < N → g.2 v = -4 ∨ ∃ p, p < N ∧ g.2 v = nI p) ∧ rk g.1 N = rk g.2 N
def bnd (p v : Nat) (g : Gs) : Gs := if g.1 p = -4 ∧ g.2 v = -4 then (upd g.1 p (nI v), upd g.2 v (nI p)) else g
def bok (p v : Nat) (g : Gs) : Bool := decide (g.1 p = nI v ∨ (g.1 p = -4 ∧ g.2 v = -4))
theorem bnd_ok {N p v : Nat} {g : Gs} (h40 : N ≤ 40) (hp : p < N) (hv : v < N) (h : GOK N g) : GOK N (bnd p v g) := by
  unfold bnd
  split
  · rename_i e
    refine ⟨fun q hq => ?_, fun q hq => ?_, ?_⟩
    · by_cases c : q = p
      · rw [c, show (upd g.1 p (nI v), upd g.2 v (nI p)).1 p = nI v from upd_at _ _ _]; exact Or.inr ⟨v, hv, rfl⟩
      · rw [show (upd g.1 p (nI v), upd g.2 v (nI p)).1 q = g.1 q from upd_ne c]; exact h.1 q hq
    · by_cases c : q = v
      · rw [c, show (upd g.1 p (nI v), upd g.2 v (nI p)).2 v = nI p from upd_at _ _ _]; exact Or.inr ⟨p, hp, rfl⟩
      · rw [show (upd g.1 p (nI v), upd g.2 v (nI p)).2 q = g.2 q from upd_ne c]; exact h.2.1 q hq
    · have a := rk_upd (x := nI v) e.1 (nI_neg (by omega)) N hp
      have b := rk_upd (x := nI p) e.2 (nI_neg (by omega)) N hv
      have c := h.2.2
      show rk (upd g.1 p (nI v)) N = rk (upd g.2 v (nI p)) N
      omega
  · exact h
def g0 : Gs := (fun _ => -4, fun _ => -4)
theorem g0_ok (N : Nat) : GOK N g0 := ⟨fun _ _ => Or.inl rfl, fun _ _ => Or.inl rfl, rfl⟩
def b01 (b : Bool) : Int32 := if b = true then 1 else 0
def G7 (M : Mem) (N : Nat) (g : Gs) (ok : Bool) : Prop := M 52 2 = nI N ∧ (∀ p, p < N → M 54 p = g.1 p ∧ M 56 p = g.2 p) ∧ M 52 3 = nI (N - rk g.1 N) ∧ M 52 4 = b01 ok
def G8 (M : Mem) (N : Nat) (g : Gs) : Prop := (∀ p, p < N → M 103 p = g.1 p ∧ M 104 p = g.2 p) ∧ M 79 29 = nI (N - rk g.1 N)
def GF8 (M M' : Mem) : Prop := (∀ x, x ≠ 103 → x ≠ 104 → x ≠ 79 → M' x = M x) ∧ ∀ k, k ≠ 29 → M' 79 k = M 79 k
theorem GF8_refl (M : Mem) : GF8 M M := ⟨fun _ _ _ _ => rfl, fun _ _ => rfl⟩
theorem GF8_trans {M M1 M2 : Mem} (h1 : GF8 M M1) (h2 : GF8 M1 M2) : GF8 M M2 := ⟨fun x a b c => (h2.1 x a b c).trans (h1.1 x a b c), fun k hk => (h2.2 k hk).trans (h1.2 k hk)⟩
theorem GF8_QF {M M' : Mem} (h : GF8 M M') : QF M M' := ⟨fun x a b c d e => h.1 x (by omega) (by omega) a, h.2⟩
theorem m4_lt : (-4 : Int32) < 0 := by decide
theorem m4_nle : ¬ 0 ≤ (-4 : Int32) := by decide
theorem nI_m4 {a : Nat} (h : a < 2 ^ 31) : ¬ (-4 : Int32) = nI a := fun q => nI_neg h q.symm
theorem s7_bind {M : Mem} {N p v : Nat} {g : Gs} {ok : Bool} {Q : Mem → Prop} (h40 : N ≤ 40) (hp : p < N) (hv : v < N) (hG : GOK N g) (h7 : G7 M N g ok) (h : ∀ M1, G7 M1 N (bnd p v g) (ok && bok p v g) → QF M M1 → Q M1) : wX0_bind 52 (nI p) (nI v) M Q := by
  obtain ⟨a1, a2, a3, a4⟩ := h7
  refine s4_at (r := 53) (show p < 40 by omega) (s4_at (r := 55) (show v < 40 by omega) ?_)
  rw [show (53 + 1 : Nat) = 54 from rfl, show (55 + 1 : Nat) = 56 from rfl, (a2 p hp).1, (a2 v hv).2]
  have keep : bnd p v g = g → bok p v g = true → Q M := fun e1 e2 => h M (by rw [e1, e2, Bool.and_true]; exact ⟨a1, a2, a3, a4⟩) (QF_refl _)
  have drop : bnd p v g = g → bok p v g = false → Q (mu M 52 4 (0 : Int32)) := fun e1 e2 => h _ (by
    rw [e1, e2, Bool.and_false]
    exact ⟨by rw [mu_no (by omega)]; exact a1, fun q hq => by rw [mu_no (by omega), mu_no (by omega)]; exact a2 q hq, by rw [mu_no (by omega)]; exact a3, mu_at _ _ _ _⟩) (QF_of fun x a b c d => mu_ne (by omega))
  by_cases h1 : g.1 p = -4
  · by_cases h2 : g.2 v = -4
    · refine ⟨fun n => absurd h1 n, fun _ => ⟨fun n => absurd h2 n, fun _ => s4_put (r := 53) (show p < 40 by omega) (s4_put (r := 55) (show v < 40 by omega) ?_)⟩⟩
      have eb : bnd p v g = (upd g.1 p (nI v), upd g.2 v (nI p)) := if_pos ⟨h1, h2⟩
      have ek : bok p v g = true := decide_eq_true (Or.inr ⟨h1, h2⟩)
      have r1 := rk_upd (x := nI v) h1 (nI_neg (by omega)) N hp
      have r2 := rk_le g.1 N
      refine h _ ?_ (QF_of fun x a b c d => by rw [mu_ne (by omega), mu_ne (by omega), mu_ne (by omega)])
      rw [eb, ek, Bool.and_true]
      refine ⟨?_, fun q hq => ⟨?_, ?_⟩, ?_, ?_⟩
      · rw [mu_no (by omega), mu_no (by omega), mu_no (by omega)]; exact a1
      · show _ = upd g.1 p (nI v) q
        rw [mu_no (by omega), mu_no (by omega)]
        by_cases c : q = p
        · rw [c, upd_at]; exact mu_at _ _ _ _
        · rw [upd_ne c, mu_no (by omega)]; exact (a2 q hq).1
      · show _ = upd g.2 v (nI p) q
        rw [mu_no (by omega)]
        by_cases c : q = v
        · rw [c, upd_at]; exact mu_at _ _ _ _
        · rw [upd_ne c, mu_no (by omega), mu_no (by omega)]; exact (a2 q hq).2
      · show _ = nI (N - rk (upd g.1 p (nI v)) N)
        rw [mu_at, mu_no (by omega), mu_no (by omega), a3, nI_1]
        congr 1
        omega
      · rw [mu_no (by omega), mu_no (by omega), mu_no (by omega)]; exact a4
    · refine ⟨fun n => absurd h1 n, fun _ => ⟨fun _ => ⟨fun q => absurd (h1.symm.trans q) (nI_m4 (by omega)), fun _ => ⟨Or.inl rfl, drop (if_neg fun c => h2 c.2) (decide_eq_false fun c => ?_)⟩⟩, fun q => absurd q h2⟩⟩
      rcases c with c | c
      · exact nI_m4 (by omega) (h1.symm.trans c)
      · exact h2 c.2
  · refine ⟨fun _ => ⟨fun q => keep (if_neg fun c => h1 c.1) (decide_eq_true (Or.inl q)), fun q => ⟨Or.inl rfl, drop (if_neg fun c => h1 c.1) (decide_eq_false fun c => ?_)⟩⟩, fun q => absurd q h1⟩
    rcases c with c | c
    · exact q c
    · exact h1 c.1
theorem s8_know {M : Mem} {N p v : Nat} {g : Gs} {Q : Int32 → Mem → Prop} (h40 : N ≤ 40) (hp : p < N) (hv : v < N) (hG : GOK N g) (h8 : G8 M N g) (h : ∀ M1, G8 M1 N (bnd p v g) → GF8 M M1 → Q (b01 (bok p v g)) M1) : wX8_know (nI p) (nI v) M Q := by
  obtain ⟨a2, a3⟩ := h8
  have vp := vi (a := 103) (show p < 40 by omega)
  have vv := vi (a := 104) (show v < 40 by omega)
  unfold wX8_know
  rw [nI_clamp (show p < 2 ^ 31 by omega), nI_clamp (show v < 2 ^ 31 by omega), (a2 p hp).1, (a2 v hv).2]
  have keep : bnd p v g = g → bok p v g = true → Q 1 M := fun e1 e2 => by
    have e := h M (by rw [e1]; exact ⟨a2, a3⟩) (GF8_refl _)
    rw [e2] at e
    exact e
  have drop : bnd p v g = g → bok p v g = false → Q 0 M := fun e1 e2 => by
    have e := h M (by rw [e1]; exact ⟨a2, a3⟩) (GF8_refl _)
    rw [e2] at e
    exact e
  refine ⟨vp, fun n => ⟨vp, fun q => ⟨Or.inl rfl, ?_⟩, fun q => ⟨vv, fun r => ⟨vp, vv, Or.inr rfl, ?_⟩, fun r => ⟨Or.inl rfl, ?_⟩⟩⟩, fun q => ⟨Or.inr rfl, ?_⟩⟩
  · have h1 : ¬ g.1 p = -4 := fun c => by rw [c] at q; exact m4_nle q
    exact drop (if_neg fun c => h1 c.1) (decide_eq_false fun c => by rcases c with c | c; exact n c; exact h1 c.1)
  · have h1 : g.1 p = -4 := by
      rcases hG.1 p hp with c | ⟨w, hw, c⟩
      · exact c
      · rw [c] at q
        exact absurd (nI_pos' (by omega)) q
    have h2 : g.2 v = -4 := by
      rcases hG.2.1 v hv with c | ⟨w, hw, c⟩
      · exact c
      · rw [c] at r
        exact absurd r (nI_pos (by omega))
    have eb : bnd p v g = (upd g.1 p (nI v), upd g.2 v (nI p)) := if_pos ⟨h1, h2⟩
    have ek : bok p v g = true := decide_eq_true (Or.inr ⟨h1, h2⟩)
    have r1 := rk_upd (x := nI v) h1 (nI_neg (by omega)) N hp
    have r2 := rk_le g.1 N
    have e := h (mu (mu (mu M 103 p (nI v)) 104 v (nI p)) 79 29 (((mu (mu M 103 p (nI v)) 104 v (nI p)) 79 29) + (1 : Int32))) (by
      rw [eb]
      refine ⟨fun q hq => ⟨?_, ?_⟩, ?_⟩
      · show _ = upd g.1 p (nI v) q
        rw [mu_no (by omega), mu_no (by omega)]
        by_cases c : q = p
        · rw [c, upd_at]; exact mu_at _ _ _ _
        · rw [upd_ne c, mu_no (by omega)]; exact (a2 q hq).1
      · show _ = upd g.2 v (nI p) q
        rw [mu_no (by omega)]
        by_cases c : q = v
        · rw [c, upd_at]; exact mu_at _ _ _ _
        · rw [upd_ne c, mu_no (by omega), mu_no (by omega)]; exact (a2 q hq).2
      · show _ = nI (N - rk (upd g.1 p (nI v)) N)
        rw [mu_at, mu_no (by omega), mu_no (by omega), a3, nI_1]
        congr 1
        omega) ⟨fun x a b c => by rw [mu_ne c, mu_ne b, mu_ne a], fun k hk => by rw [mu_no (by omega), mu_no (by omega), mu_no (by omega)]⟩
    rw [ek] at e
    exact e
  · have h2 : ¬ g.2 v = -4 := fun c => by rw [c] at r; exact r m4_lt
    exact drop (if_neg fun c => h2 c.2) (decide_eq_false fun c => by rcases c with c | c; exact n c; exact h2 c.2)
  · have h1 : ¬ g.1 p = -4 := fun c => by rw [c] at q; exact nI_m4 (by omega) q
    exact keep (if_neg fun c => h1 c.1) (decide_eq_true (Or.inl q))
theorem s7_begin {M : Mem} {N : Nat} {Q : Mem → Prop} (h40 : N ≤ 40) (h : ∀ M1, G7 M1 N g0 true → QF M M1 → Q M1) : wX0_begin 52 (nI N) M Q := by
  refine ⟨Or.inr rfl, s4_fill (r := 53) (s4_fill (r := 55) (h _ ⟨?_, fun p hp => ⟨?_, ?_⟩, ?_, ?_⟩ (QF_of fun x a b c d => ?_)))⟩
  · rw [sr_ne (by omega), sr_ne (by omega), mu_no (by omega), mu_no (by omega), mu_at]
  · rw [sr_ne (by omega), show (53 + 1 : Nat) = 54 from rfl, sr_self]
    exact if_pos (show p < 40 by omega)
  · rw [show (55 + 1 : Nat) = 56 from rfl, sr_self]
    exact if_pos (show p < 40 by omega)
  · rw [sr_ne (by omega), sr_ne (by omega), mu_no (by omega), mu_at, show rk g0.1 N = N from rk_c N, Nat.sub_self]
    rfl
  · rw [sr_ne (by omega), sr_ne (by omega), mu_at]
    rfl
  · rw [sr_ne (by omega), sr_ne (by omega), mu_ne (by omega), mu_ne (by omega), mu_ne (by omega)]
theorem s8_noOrder {M : Mem} {N : Nat} {Q : Mem → Prop} (h40 : N ≤ 40) (h : ∀ M1, G8 M1 N g0 → GF8 M M1 → Q M1) : wX8_noOrder M Q := by
  refine loop_0 (fun n i M' => wX8_noOrder_7 Q n (nI i) M') (fun i M' => (∀ p, p < i → M' 103 p = -4 ∧ M' 104 p = -4) ∧ M' 79 29 = 0 ∧ GF8 M M') 40 _ ⟨fun p hp => by omega, mu_at _ _ _ _, fun x a b c => mu_ne c, fun k hk => mu_no (by omega)⟩ ?_ ?_
  · intro n M' ⟨p1, p2, p3⟩
    unfold wX8_noOrder_7
    refine b_le (a := 40) (b := 40) (by omega) (by omega) (fun _ => h M' ⟨fun p hp => p1 p (by omega), ?_⟩ p3) (fun q => by omega)
    rw [p2, show rk g0.1 N = N from rk_c N, Nat.sub_self]
    rfl
  · intro n i M' hi ⟨p1, p2, p3⟩ hk
    unfold wX8_noOrder_7
    refine b_le (a := 40) (b := i) (by omega) (by omega) (fun q => by omega) (fun _ => ⟨vi (show i < 40 by omega), vi (show i < 40 by omega), ?_⟩)
    rw [nI_1, nI_clamp (by omega)]
    refine hk _ ⟨fun p hp => ?_, ?_, GF8_trans p3 ⟨fun x a b c => by rw [mu_ne b, mu_ne a], fun k hk => by rw [mu_no (by omega), mu_no (by omega)]⟩⟩
    · by_cases c : p = i
      · rw [c, mu_no (by omega), mu_at, mu_at]; exact ⟨rfl, rfl⟩
      · rw [mu_no (by omega), mu_no (by omega), mu_no (by omega), mu_no (by omega)]; exact p1 p (by omega)
    · rw [mu_no (by omega), mu_no (by omega)]; exact p2
