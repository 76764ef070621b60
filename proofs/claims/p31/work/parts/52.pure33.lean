/-! PURE 33: the class scans the text to its end -/
def SCN (tl : Nat) (tx : Nat → Nat) : Nat → Nat → Dr → Int32 → Dr → Prop
  | 0, _, _, _, _ => False
  | n + 1, p, D, r, D' => (tl ≤ p ∧ r = -4 ∧ D' = D) ∨ (p < tl ∧ (∀ p' D2, ¬ ITM tl tx p D p' D2) ∧ r = nI p) ∨ (p < tl ∧ ∃ p2 D2, ITM tl tx p D p2 D2 ∧ SCN tl tx n p2 D2 r D')
theorem SCN_uniq {tl : Nat} {tx : Nat → Nat} (h300 : tl ≤ 300) : ∀ n p D r D' r2 D2, SCN tl tx n p D r D' → SCN tl tx n p D r2 D2 → r = r2 ∧ (r = -4 → D' = D2)
  | 0, _, _, _, _, _, _, a, _ => a.elim
  | n + 1, p, D, r, D', r2, D2, a, b => by
    rcases a with ⟨a1, a2, a3⟩ | ⟨a1, a2, a3⟩ | ⟨a1, q, E, a2, a3⟩ <;> rcases b with ⟨b1, b2, b3⟩ | ⟨b1, b2, b3⟩ | ⟨b1, q', E', b2, b3⟩ <;> (try omega)
    · exact ⟨by rw [a2, b2], fun _ => by rw [a3, b3]⟩
    · exact ⟨by rw [a3, b3], fun e => absurd (a3.symm.trans e) (nI_neg (by omega))⟩
    · exact absurd b2 (a2 _ _)
    · exact absurd a2 (b2 _ _)
    · obtain ⟨g1, g2⟩ := ITM_uniq a2 b2
      subst g1
      subst g2
      exact SCN_uniq h300 n _ _ _ _ _ _ a3 b3
def D0 : Dr := (fun j => if j = 0 then 10 else if j = 1 then 9 else if j = 3 then 2 else 0, fun _ _ => 0)
theorem D0_ok : DOK D0 := ⟨by decide, by decide, by decide, by decide, by decide, by decide, by decide, by decide, fun k hk => absurd hk (Nat.not_lt_zero _), fun k hk => absurd hk (Nat.not_lt_zero _)⟩
theorem s6_scan6 {u tl : Nat} {tx : Nat → Nat} {Q : Int32 → Mem → Prop} (hu : u = 4 ∨ u = 13) : ∀ (n p : Nat) (D : Dr) (M : Mem), T7 M tl tx → p ≤ tl → tl < n + p → D7 M u D → DOK D → (∀ r D' M1, SCN tl tx n p D r D' → (r = -4 → D7 M1 u D' ∧ DOK D') → FU u M M1 → Q r M1) → wX6_scan_6 u 1 Q n (nI p) M := by
  intro n
  induction n with
  | zero => intro p D M hT hp hn; omega
  | succ n ih =>
    intro p D M hT hp hn hD hk h
    have h300 := hT.2.1
    unfold wX6_scan_6 wX5_size
    dsimp only
    rw [hT.1]
    refine b_le (by omega) (by omega) (fun q => h (-4) D M (Or.inl ⟨q, rfl, rfl⟩) (fun _ => ⟨hD, hk⟩) (FU_refl u M)) (fun q => ?_)
    refine s6_item hu hT q hD hk (fun p' D' M1 it d f => ?_) (fun no M1 f => ?_)
    · have hb := ITM_b it
      refine b_lt (by omega) (by omega) (fun _ => ?_) (fun z => by omega)
      exact ih p' D' M1 (FU_T7 hu hT f) hb.2 (by omega) d (ITM_ok hk it) fun r D2 M2 s g f2 => h r D2 M2 (Or.inr (Or.inr ⟨q, p', D', it, s⟩)) g (FU_trans f f2)
    · refine ⟨fun z => absurd z ?_, fun _ => h (nI p) D M1 (Or.inr (Or.inl ⟨q, no, rfl⟩)) (fun e => absurd e (nI_neg (by omega))) f⟩
      intro z
      have a : (0 : Int32) < -4 := Int32.lt_of_le_of_lt (nI_pos' (by omega)) z
      exact absurd a (by decide)
theorem s6_scan {M : Mem} {u tl : Nat} {tx : Nat → Nat} {Q : Int32 → Mem → Prop} (hu : u = 4 ∨ u = 13) (hT : T7 M tl tx) (h : ∀ r D' M1, SCN tl tx (tl + 1) 0 D0 r D' → (r = -4 → D7 M1 u D' ∧ DOK D') → FU u M M1 → Q r M1) : wX6_scan u 1 M Q := by
  unfold wX6_scan wX6_tellNothing
  generalize hM0 : mu (mu (mu (mu (mu (mu M u 0 (10 : Int32)) u 1 (9 : Int32)) u 2 (0 : Int32)) u 3 (2 : Int32)) u 6 (0 : Int32)) u 8 (0 : Int32) = M0
  have f0 : FU u M M0 := fun z hz => by rw [← hM0, mu_ne (show z ≠ u by omega), mu_ne (show z ≠ u by omega), mu_ne (show z ≠ u by omega), mu_ne (show z ≠ u by omega), mu_ne (show z ≠ u by omega), mu_ne (show z ≠ u by omega)]
  refine ⟨tl + 1, s6_scan6 hu (tl + 1) 0 D0 M0 (FU_T7 hu hT f0) (Nat.zero_le _) (by omega) ⟨?_, ?_, ?_, ?_, ?_, ?_, fun k hk => absurd hk (Nat.not_lt_zero _), fun k hk => absurd hk (Nat.not_lt_zero _)⟩ D0_ok fun r D' M1 s g f => h r D' M1 s g (FU_trans f0 f)⟩
  · rw [← hM0, mu_no (by omega), mu_no (by omega), mu_no (by omega), mu_no (by omega), mu_no (by omega), mu_at]; rfl
  · rw [← hM0, mu_no (by omega), mu_no (by omega), mu_no (by omega), mu_no (by omega), mu_at]; rfl
  · rw [← hM0, mu_no (by omega), mu_no (by omega), mu_no (by omega), mu_at]; rfl
  · rw [← hM0, mu_no (by omega), mu_no (by omega), mu_at]; rfl
  · rw [← hM0, mu_no (by omega), mu_at]; rfl
  · rw [← hM0, mu_at]; rfl
