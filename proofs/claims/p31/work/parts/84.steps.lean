/-! STEPS: from INV each call has one answer and one memory after it, whoever asks-/
/-- what no call of act changes in the class's part -/
def KS (M M2 : Mem) : Prop := (∀ k, k ≠ 9 → k ≠ 13 → M2 0 k = M 0 k) ∧ ∀ i, 1 ≤ i → i < 27 → M2 i = M i
theorem KS_refl (M : Mem) : KS M M := ⟨fun _ _ _ => rfl, fun _ _ _ => rfl⟩
theorem KS_trans {M M1 M2 : Mem} (h1 : KS M M1) (h2 : KS M1 M2) : KS M M2 := ⟨fun k a b => (h2.1 k a b).trans (h1.1 k a b), fun i a b => (h2.2 i a b).trans (h1.2 i a b)⟩
/-- readers done, kept ones too, are few -/
def DB (n : Nat) (M : Mem) : Prop := ∀ c, c = 61 ∨ c = 67 ∨ c = 73 → ∃ d, d ≤ n ∧ M c 2 = nI d
theorem DB_le {n m : Nat} {M : Mem} (h : DB n M) (hn : n ≤ m) : DB m M := fun c hc => by
  obtain ⟨d, h1, h2⟩ := h c hc
  exact ⟨d, Nat.le_trans h1 hn, h2⟩
theorem DB_eq {n : Nat} {M M2 : Mem} (h : DB n M) (e : ∀ c, c = 61 ∨ c = 67 ∨ c = 73 → M2 c 2 = M c 2) : DB n M2 := fun c hc => by
  obtain ⟨d, h1, h2⟩ := h c hc
  exact ⟨d, h1, (e c hc).trans h2⟩
theorem AG_refl (M : Mem) : AG M M := fun _ _ => rfl
theorem AG_of {T : Nat → Nat → Prop} {M1 M2 : Mem} (f2 : Fr T M1 M2) (hT : ∀ i k, T i k → 79 ≤ i) : AG M1 M2 := fun i hi => funext fun k => f2 i k fun h => by have := hT i k h; omega
theorem KS_of {S : Nat → Nat → Prop} {M M1 M2 : Mem} (f : Fr S M M1) (g : AG M1 M2) (hS : ∀ i k, S i k → (i = 0 ∧ (k = 9 ∨ k = 13)) ∨ (27 ≤ i ∧ i ≤ 78)) : KS M M2 :=
  ⟨fun k a b => by rw [g 0 (by omega)]; exact f 0 k fun h => by have := hS 0 k h; omega, fun i a b => by rw [g i (by omega)]; exact funext fun k => f i k fun h => by have := hS i k h; omega⟩
/-- a step: one answer, one memory; the rest of the way may have it -/
def STP {ρ : Type} (P : (ρ → Mem → Prop) → Prop) (n : Nat) (M : Mem) : Prop := ∃ (r : ρ) (M2 : Mem), INV M2 ∧ KS M M2 ∧ DB n M2 ∧ ∀ K : ρ → Mem → Prop, K r M2 → P (fun r1 M1 => ∃ M2, AG M1 M2 ∧ K r1 M2)

theorem st_where {x : Int32} {M : Mem} {n : Nat} (hI : INV M) (hd : DB n M) : STP (fun Q => wX7_where x M Q) n M := by
  have h := k_where (x := x) (Q := fun r1 r2 M => r1 = r2 ∧ INV M) hI (fun r M hM => ⟨rfl, hM⟩)
  obtain ⟨r, M1, f, h1, -, b⟩ := u_wX7_where x M h h
  obtain ⟨r2, M2, f2, ⟨-, hI2⟩, -, -⟩ := u_wX8_where x M1 h1 h1
  have g := AG_of f2 (fun i k (h : False) => h.elim)
  exact ⟨r, M2, hI2, KS_of f g (fun i k (h : False) => h.elim), DB_eq hd (fun c hc => by rw [g c (by omega)]; exact f c 2 (fun h => h)), fun K hK => b _ ⟨M2, g, hK⟩⟩
theorem st_change {x y : Int32} {M : Mem} {n : Nat} (hI : INV M) (hd : DB n M) : STP (fun Q => wX7_change x y M Q) n M := by
  have h := k_change (x := x) (y := y) (Q := fun r1 r2 M => r1 = r2 ∧ INV M) hI (fun r M hM => ⟨rfl, hM⟩)
  obtain ⟨r, M1, f, h1, -, b⟩ := u_wX7_change x y M h h
  obtain ⟨r2, M2, f2, ⟨-, hI2⟩, -, -⟩ := u_wX8_change x y M1 h1 h1
  have g := AG_of f2 (fun i k (h : 79 ≤ i) => (show 79 ≤ i from by omega))
  exact ⟨r, M2, hI2, KS_of f g (fun i k (h : 62 ≤ i ∧ i ≤ 66) => (show (i = 0 ∧ (k = 9 ∨ k = 13)) ∨ (27 ≤ i ∧ i ≤ 78) from by omega)), DB_eq hd (fun c hc => by rw [g c (by omega)]; exact f c 2 (fun h => by have h : 62 ≤ c ∧ c ≤ 66 := h; omega)), fun K hK => b _ ⟨M2, g, hK⟩⟩
theorem st_drop {x : Int32} {M : Mem} {n : Nat} (hI : INV M) (hd : DB n M) : STP (fun Q => wX7_drop x M Q) n M := by
  have h := k_drop (x := x) (Q := fun r1 r2 M => r1 = r2 ∧ INV M) hI (fun r M hM => ⟨rfl, hM⟩)
  obtain ⟨r, M1, f, h1, -, b⟩ := u_wX7_drop x M h h
  obtain ⟨r2, M2, f2, ⟨-, hI2⟩, -, -⟩ := u_wX8_drop x M1 h1 h1
  have g := AG_of f2 (fun i k (h : 79 ≤ i) => (show 79 ≤ i from by omega))
  exact ⟨r, M2, hI2, KS_of f g (fun i k (h : (i = 61 ∧ k = 1) ∨ (62 ≤ i ∧ i ≤ 66)) => (show (i = 0 ∧ (k = 9 ∨ k = 13)) ∨ (27 ≤ i ∧ i ≤ 78) from by omega)), DB_eq hd (fun c hc => by rw [g c (by omega)]; exact f c 2 (fun h => by have h : (c = 61 ∧ 2 = 1) ∨ (62 ≤ c ∧ c ≤ 66) := h; omega)), fun K hK => b _ ⟨M2, g, hK⟩⟩
theorem st_has {x : Int64} {y : Int32} {M : Mem} {n : Nat} (hI : INV M) (hd : DB n M) : STP (fun Q => wX7_has x y M Q) n M := by
  have h := k_has (x := x) (y := y) (Q := fun r1 r2 M => r1 = r2 ∧ INV M) hI (fun r M hM => ⟨rfl, hM⟩)
  obtain ⟨r, M1, f, h1, -, b⟩ := u_wX7_has x y M h h
  obtain ⟨r2, M2, f2, ⟨-, hI2⟩, -, -⟩ := u_wX8_has x y M1 h1 h1
  have g := AG_of f2 (fun i k (h : 79 ≤ i) => (show 79 ≤ i from by omega))
  exact ⟨r, M2, hI2, KS_of f g (fun i k (h : False) => h.elim), DB_eq hd (fun c hc => by rw [g c (by omega)]; exact f c 2 (fun h => h)), fun K hK => b _ ⟨M2, g, hK⟩⟩
theorem st_leaves {x : Int64} {M : Mem} {n : Nat} (hI : INV M) (hd : DB n M) : STP (fun Q => wX7_leaves x M Q) n M := by
  have h := k_leaves (x := x) (Q := fun r1 r2 M => r1 = r2 ∧ INV M) hI (fun r M hM => ⟨rfl, hM⟩)
  obtain ⟨r, M1, f, h1, -, b⟩ := u_wX7_leaves x M h h
  obtain ⟨r2, M2, f2, ⟨-, hI2⟩, -, -⟩ := u_wX8_leaves x M1 h1 h1
  have g := AG_of f2 (fun i k (h : 79 ≤ i) => (show 79 ≤ i from by omega))
  exact ⟨r, M2, hI2, KS_of f g (fun i k (h : False) => h.elim), DB_eq hd (fun c hc => by rw [g c (by omega)]; exact f c 2 (fun h => h)), fun K hK => b _ ⟨M2, g, hK⟩⟩
theorem st_period  {M : Mem} {n : Nat} (hI : INV M) (hd : DB n M) : STP (fun Q => wX7_period M Q) n M := by
  have h := k_period (Q := fun r1 r2 M => r1 = r2 ∧ INV M) hI (fun r M hM => ⟨rfl, hM⟩)
  obtain ⟨r, M1, f, h1, -, b⟩ := u_wX7_period M h h
  obtain ⟨r2, M2, f2, ⟨-, hI2⟩, -, -⟩ := u_wX8_period M1 h1 h1
  have g := AG_of f2 (fun i k (h : 79 ≤ i) => (show 79 ≤ i from by omega))
  exact ⟨r, M2, hI2, KS_of f g (fun i k (h : False) => h.elim), DB_eq hd (fun c hc => by rw [g c (by omega)]; exact f c 2 (fun h => h)), fun K hK => b _ ⟨M2, g, hK⟩⟩
theorem st_ever {x : Int32} {M : Mem} {n : Nat} (hI : INV M) (hd : DB n M) : STP (fun Q => wX7_ever x M Q) n M := by
  have h := k_ever (x := x) (Q := fun r1 r2 M => r1 = r2 ∧ INV M) hI (fun r M hM => ⟨rfl, hM⟩)
  obtain ⟨r, M1, f, h1, -, b⟩ := u_wX7_ever x M h h
  obtain ⟨r2, M2, f2, ⟨-, hI2⟩, -, -⟩ := u_wX8_ever x M1 h1 h1
  have g := AG_of f2 (fun i k (h : 79 ≤ i) => (show 79 ≤ i from by omega))
  exact ⟨r, M2, hI2, KS_of f g (fun i k (h : False) => h.elim), DB_eq hd (fun c hc => by rw [g c (by omega)]; exact f c 2 (fun h => h)), fun K hK => b _ ⟨M2, g, hK⟩⟩
theorem st_right {x : Int64} {M : Mem} {n : Nat} (hI : INV M) (hd : DB n M) : STP (fun Q => wX7_right x M Q) n M := by
  have h := k_right (x := x) (Q := fun r1 r2 M => r1 = r2 ∧ INV M) hI (fun r M hM => ⟨rfl, hM⟩)
  obtain ⟨r, M1, f, h1, -, b⟩ := u_wX7_right x M h h
  obtain ⟨r2, M2, f2, ⟨-, hI2⟩, -, -⟩ := u_wX8_right x M1 h1 h1
  have g := AG_of f2 (fun i k (h : 79 ≤ i) => (show 79 ≤ i from by omega))
  exact ⟨r, M2, hI2, KS_of f g (fun i k (h : False) => h.elim), DB_eq hd (fun c hc => by rw [g c (by omega)]; exact f c 2 (fun h => h)), fun K hK => b _ ⟨M2, g, hK⟩⟩
theorem st_order {x : Int64} {y : Int32} {M : Mem} {n : Nat} (hI : INV M) (hd : DB n M) : STP (fun Q => wX7_order x y M Q) n M := by
  have h := k_order (x := x) (y := y) (Q := fun r1 r2 M => r1 = r2 ∧ INV M) hI (fun r M hM => ⟨rfl, hM⟩)
  obtain ⟨r, M1, f, h1, -, b⟩ := u_wX7_order x y M h h
  obtain ⟨r2, M2, f2, ⟨-, hI2⟩, -, -⟩ := u_wX8_order x y M1 h1 h1
  have g := AG_of f2 (fun i k (h : 79 ≤ i) => (show 79 ≤ i from by omega))
  exact ⟨r, M2, hI2, KS_of f g (fun i k (h : (i = 0 ∧ k = 9) ∨ (27 ≤ i ∧ i ≤ 60)) => (show (i = 0 ∧ (k = 9 ∨ k = 13)) ∨ (27 ≤ i ∧ i ≤ 78) from by omega)), DB_eq hd (fun c hc => by rw [g c (by omega)]; exact f c 2 (fun h => by have h : (c = 0 ∧ 2 = 9) ∨ (27 ≤ c ∧ c ≤ 60) := h; omega)), fun K hK => b _ ⟨M2, g, hK⟩⟩
theorem st_shows {x y : Int32} {M : Mem} {n : Nat} (hI : INV M) (hd : DB n M) : STP (fun Q => wX7_shows x y M Q) n M := by
  have h := k_shows (x := x) (y := y) (Q := fun r1 r2 M => r1 = r2 ∧ INV M) hI (fun r M hM => ⟨rfl, hM⟩)
  obtain ⟨r, M1, f, h1, -, b⟩ := u_wX7_shows x y M h h
  obtain ⟨r2, M2, f2, ⟨-, hI2⟩, -, -⟩ := u_wX8_shows x y M1 h1 h1
  have g := AG_of f2 (fun i k (h : 79 ≤ i) => (show 79 ≤ i from by omega))
  exact ⟨r, M2, hI2, KS_of f g (fun i k (h : (i = 0 ∧ k = 9) ∨ (27 ≤ i ∧ i ≤ 60)) => (show (i = 0 ∧ (k = 9 ∨ k = 13)) ∨ (27 ≤ i ∧ i ≤ 78) from by omega)), DB_eq hd (fun c hc => by rw [g c (by omega)]; exact f c 2 (fun h => by have h : (c = 0 ∧ 2 = 9) ∨ (27 ≤ c ∧ c ≤ 60) := h; omega)), fun K hK => b _ ⟨M2, g, hK⟩⟩
theorem st_quickest {x : Int32} {M : Mem} {n : Nat} (hI : INV M) (hd : DB n M) : STP (fun Q => wX7_quickest x M Q) n M := by
  have h := k_quickest (x := x) (Q := fun r1 r2 M => r1 = r2 ∧ INV M) hI (fun r M hM => ⟨rfl, hM⟩)
  obtain ⟨r, M1, f, h1, -, b⟩ := u_wX7_quickest x M h h
  obtain ⟨r2, M2, f2, ⟨-, hI2⟩, -, -⟩ := u_wX8_quickest x M1 h1 h1
  have g := AG_of f2 (fun i k (h : 79 ≤ i) => (show 79 ≤ i from by omega))
  exact ⟨r, M2, hI2, KS_of f g (fun i k (h : False) => h.elim), DB_eq hd (fun c hc => by rw [g c (by omega)]; exact f c 2 (fun h => h)), fun K hK => b _ ⟨M2, g, hK⟩⟩
theorem st_seen {x : Int64} {y z : Int32} {M : Mem} {n : Nat} (hI : INV M) (hd : DB n M) : STP (fun Q => wX7_seen x y z M Q) n M := by
  have h := k_seen (x := x) (y := y) (z := z) (Q := fun r1 r2 M => r1 = r2 ∧ INV M) hI (fun r M hM => ⟨rfl, hM⟩)
  obtain ⟨r, M1, f, h1, -, b⟩ := u_wX7_seen x y z M h h
  obtain ⟨r2, M2, f2, ⟨-, hI2⟩, -, -⟩ := u_wX8_seen x y z M1 h1 h1
  have g := AG_of f2 (fun i k (h : 79 ≤ i) => (show 79 ≤ i from by omega))
  exact ⟨r, M2, hI2, KS_of f g (fun i k (h : (i = 0 ∧ k = 9) ∨ (27 ≤ i ∧ i ≤ 60)) => (show (i = 0 ∧ (k = 9 ∨ k = 13)) ∨ (27 ≤ i ∧ i ≤ 78) from by omega)), DB_eq hd (fun c hc => by rw [g c (by omega)]; exact f c 2 (fun h => by have h : (c = 0 ∧ 2 = 9) ∨ (27 ≤ c ∧ c ≤ 60) := h; omega)), fun K hK => b _ ⟨M2, g, hK⟩⟩
theorem st_forget  {M : Mem} {n : Nat} (hI : INV M) (hd : DB n M) : STP (fun Q => wX7_forget M Q) n M := by
  have h := k_forget (Q := fun r1 r2 M => r1 = r2 ∧ INV M) hI (fun r M hM => ⟨rfl, hM⟩)
  obtain ⟨r, M1, f, h1, -, b⟩ := u_wX7_forget M h h
  obtain ⟨r2, M2, f2, ⟨-, hI2⟩, -, -⟩ := u_wX8_forget M1 h1 h1
  have g := AG_of f2 (fun i k (h : 79 ≤ i) => (show 79 ≤ i from by omega))
  exact ⟨r, M2, hI2, KS_of f g (fun i k (h : (i = 0 ∧ k = 9) ∨ (27 ≤ i ∧ i ≤ 60)) => (show (i = 0 ∧ (k = 9 ∨ k = 13)) ∨ (27 ≤ i ∧ i ≤ 78) from by omega)), DB_eq hd (fun c hc => by rw [g c (by omega)]; exact f c 2 (fun h => by have h : (c = 0 ∧ 2 = 9) ∨ (27 ≤ c ∧ c ≤ 60) := h; omega)), fun K hK => b _ ⟨M2, g, hK⟩⟩
theorem st_so  {M : Mem} {n : Nat} (hI : INV M) (hd : DB n M) : STP (fun Q => wX7_so M Q) n M := by
  have h := k_so (Q := fun r1 r2 M => r1 = r2 ∧ INV M) hI (fun r M hM => ⟨rfl, hM⟩)
  obtain ⟨r, M1, f, h1, -, b⟩ := u_wX7_so M h h
  obtain ⟨r2, M2, f2, ⟨-, hI2⟩, -, -⟩ := u_wX8_so M1 h1 h1
  have g := AG_of f2 (fun i k (h : 79 ≤ i) => (show 79 ≤ i from by omega))
  exact ⟨r, M2, hI2, KS_of f g (fun i k (h : (i = 0 ∧ k = 9) ∨ (27 ≤ i ∧ i ≤ 60)) => (show (i = 0 ∧ (k = 9 ∨ k = 13)) ∨ (27 ≤ i ∧ i ≤ 78) from by omega)), DB_eq hd (fun c hc => by rw [g c (by omega)]; exact f c 2 (fun h => by have h : (c = 0 ∧ 2 = 9) ∨ (27 ≤ c ∧ c ≤ 60) := h; omega)), fun K hK => b _ ⟨M2, g, hK⟩⟩
theorem st_sure {x : Int32} {M : Mem} {n : Nat} (hI : INV M) (hd : DB n M) : STP (fun Q => wX7_sure x M Q) n M := by
  have h := k_sure (x := x) (Q := fun r1 r2 M => r1 = r2 ∧ INV M) hI (fun r M hM => ⟨rfl, hM⟩)
  obtain ⟨r, M1, f, h1, -, b⟩ := u_wX7_sure x M h h
  obtain ⟨r2, M2, f2, ⟨-, hI2⟩, -, -⟩ := u_wX8_sure x M1 h1 h1
  have g := AG_of f2 (fun i k (h : 79 ≤ i) => (show 79 ≤ i from by omega))
  exact ⟨r, M2, hI2, KS_of f g (fun i k (h : (i = 0 ∧ k = 9) ∨ (27 ≤ i ∧ i ≤ 60)) => (show (i = 0 ∧ (k = 9 ∨ k = 13)) ∨ (27 ≤ i ∧ i ≤ 78) from by omega)), DB_eq hd (fun c hc => by rw [g c (by omega)]; exact f c 2 (fun h => by have h : (c = 0 ∧ 2 = 9) ∨ (27 ≤ c ∧ c ≤ 60) := h; omega)), fun K hK => b _ ⟨M2, g, hK⟩⟩
theorem st_lacks {x y : Int32} {M : Mem} {n : Nat} (hI : INV M) (hd : DB n M) : STP (fun Q => wX7_lacks x y M Q) n M := by
  have h := k_lacks (x := x) (y := y) (Q := fun r1 r2 M => r1 = r2 ∧ INV M) hI (fun r M hM => ⟨rfl, hM⟩)
  obtain ⟨r, M1, f, h1, -, b⟩ := u_wX7_lacks x y M h h
  obtain ⟨r2, M2, f2, ⟨-, hI2⟩, -, -⟩ := u_wX8_lacks x y M1 h1 h1
  have g := AG_of f2 (fun i k (h : 79 ≤ i) => (show 79 ≤ i from by omega))
  exact ⟨r, M2, hI2, KS_of f g (fun i k (h : False) => h.elim), DB_eq hd (fun c hc => by rw [g c (by omega)]; exact f c 2 (fun h => h)), fun K hK => b _ ⟨M2, g, hK⟩⟩
theorem st_notice {x y z : Int32} {M : Mem} {n : Nat} (hI : INV M) (hd : DB n M) : STP (fun Q => wX7_notice x y z M Q) n M := by
  have h := k_notice (x := x) (y := y) (z := z) (Q := fun r1 r2 M => r1 = r2 ∧ INV M) hI (fun r M hM => ⟨rfl, hM⟩)
  obtain ⟨r, M1, f, h1, -, b⟩ := u_wX7_notice x y z M h h
  obtain ⟨r2, M2, f2, ⟨-, hI2⟩, -, -⟩ := u_wX8_notice x y z M1 h1 h1
  have g := AG_of f2 (fun i k (h : 79 ≤ i) => (show 79 ≤ i from by omega))
  exact ⟨r, M2, hI2, KS_of f g (fun i k (h : False) => h.elim), DB_eq hd (fun c hc => by rw [g c (by omega)]; exact f c 2 (fun h => h)), fun K hK => b _ ⟨M2, g, hK⟩⟩
theorem st_pleased {x y : Int32} {M : Mem} {n : Nat} (hI : INV M) (hd : DB n M) : STP (fun Q => wX7_pleased x y M Q) n M := by
  have h := k_pleased (x := x) (y := y) (Q := fun r1 r2 M => r1 = r2 ∧ INV M) hI (fun r M hM => ⟨rfl, hM⟩)
  obtain ⟨r, M1, f, h1, -, b⟩ := u_wX7_pleased x y M h h
  obtain ⟨r2, M2, f2, ⟨-, hI2⟩, -, -⟩ := u_wX8_pleased x y M1 h1 h1
  have g := AG_of f2 (fun i k (h : 79 ≤ i) => (show 79 ≤ i from by omega))
  exact ⟨r, M2, hI2, KS_of f g (fun i k (h : False) => h.elim), DB_eq hd (fun c hc => by rw [g c (by omega)]; exact f c 2 (fun h => h)), fun K hK => b _ ⟨M2, g, hK⟩⟩
theorem stpN_d {N Rr K A : Nat} {P : Nat → Nat} {b d : Nat} : ∀ n, ∃ j, j ≤ n ∧ (stpN N Rr K A n (P, b, nI d)).2.2 = nI (d + j)
  | 0 => ⟨0, Nat.le_refl _, rfl⟩
  | n + 1 => by
    obtain ⟨j, h1, h2⟩ := stpN_d (N := N) (Rr := Rr) (K := K) (A := A) (P := P) (b := b) (d := d) n
    by_cases h : (stpN N Rr K A n (P, b, nI d)).2.1 + 1 < Rr
    · refine ⟨j, by omega, ?_⟩
      show (if _ then _ else _) = _
      rw [if_pos h, h2]
    · refine ⟨j + 1, by omega, ?_⟩
      show (if _ then _ else _) = _
      rw [if_neg h, h2, nI_1]
      rfl
theorem sm_read {M : Mem} {d : Nat} (hI : INV M) (hd : M 61 2 = nI d) : wX7_read M (fun _ M1 => ∃ j, j ≤ 40 ∧ M1 61 2 = nI (d + j)) := by
  obtain ⟨t, N, Rr, K, A, nt, ta, F, hB, ⟨tl, tx, hT⟩, hP, hK, hS⟩ := hI
  obtain ⟨ht, e2, e1, k2, k1⟩ := BK_t hB
  obtain ⟨P, b, d', p7, p8, pm, pb⟩ := PK_of hP
  have ed : d' = nI d := p7.2.2.2.symm.trans hd
  subst ed
  refine ⟨k2, ?_⟩
  rw [e2]
  refine s7_readOne (s := (P, b, nI d)) ht hB.2.1 p7 ⟨pm, pb⟩ fun M1 c1 f1 => ?_
  obtain ⟨j, h1, h2⟩ := stpN_d (N := N) (Rr := Rr) (K := K) (A := A) (P := P) (b := b) (d := d) 1
  exact ⟨j, by omega, c1.2.2.2.trans h2⟩
theorem sm_finish {M : Mem} {d : Nat} (hI : INV M) (hd : M 61 2 = nI d) : wX7_finish M (fun _ M1 => ∃ j, j ≤ 40 ∧ M1 61 2 = nI (d + j)) := by
  obtain ⟨t, N, Rr, K, A, nt, ta, F, hB, ⟨tl, tx, hT⟩, hP, hK, hS⟩ := hI
  obtain ⟨ht, e2, e1, k2, k1⟩ := BK_t hB
  obtain ⟨b1, b2, b3, b4, -⟩ := TL_N hB.2.1
  obtain ⟨P, b, d', p7, p8, pm, pb⟩ := PK_of hP
  have ed : d' = nI d := p7.2.2.2.symm.trans hd
  subst ed
  have ok : StOk N Rr (P, b, nI d) := ⟨pm, pb⟩
  refine ⟨k2, ?_⟩
  rw [e2, hB.2.1.2.1, p7.2.2.1, pk_sub (by omega)]
  refine loop_0 (fun n i M' => wX7_finish_18 (fun _ M1 => ∃ j, j ≤ 40 ∧ M1 61 2 = nI (d + j)) n (nI (Rr - b)) (nI i) M') (fun i M' => St7 M' N (stpN N Rr K A i (P, b, nI d)) ∧ PF7 M M') (Rr - b) M ⟨p7, fun _ _ _ _ _ => rfl⟩ ?_ ?_
  · intro n M' ⟨c1, f1⟩
    unfold wX7_finish_18
    refine b_le (by omega) (by omega) (fun _ => ?_) (fun q => by omega)
    obtain ⟨j, h1, h2⟩ := stpN_d (N := N) (Rr := Rr) (K := K) (A := A) (P := P) (b := b) (d := d) (Rr - b)
    exact ⟨j, by omega, c1.2.2.2.trans h2⟩
  · intro n i M' hi ⟨c1, f1⟩ hk
    unfold wX7_finish_18
    refine b_le (by omega) (by omega) (fun q => by omega) (fun _ => ?_)
    have e0 : M' 0 = M 0 := f1 0 (by omega) (by omega) (by omega) (by omega)
    rw [e0, e2]
    rw [e2] at k2
    refine ⟨k2, ?_⟩
    refine s7_readOne ht (BK_7 ht hB.2.1 f1) c1 (stpN_ok (by omega) b3 ok i) fun M3 c3 f3 => ?_
    rw [nI_1]
    exact hk _ ⟨c3, PF7_trans f1 f3⟩
theorem sm_keep {M : Mem} (hI : INV M) : wX7_keep M (fun _ M1 => M1 61 2 = M 61 2 ∧ ∀ c, c = 67 ∨ c = 73 → M1 c 2 = M 61 2 ∨ M1 c 2 = M c 2) := by
  obtain ⟨t, N, Rr, K, A, nt, ta, F, hB, ⟨tl, tx, hT⟩, hP, ⟨kc, c1, c2, c3, c4, c5⟩, hS⟩ := hI
  unfold wX7_keep
  rw [c1]
  refine b_lt (a := kc) (b := 2) (by omega) (by omega) (fun q => ?_) (fun q => ⟨rfl, fun c hc => Or.inr rfl⟩)
  have main : ∀ c, c = 67 ∨ c = 73 → wX2_copyFrom c 61 M (fun M4 => (mu M4 0 13 ((M4 0 13) + (1 : Int32))) 61 2 = M 61 2 ∧ ∀ c', c' = 67 ∨ c' = 73 → (mu M4 0 13 ((M4 0 13) + (1 : Int32))) c' 2 = M 61 2 ∨ (mu M4 0 13 ((M4 0 13) + (1 : Int32))) c' 2 = M c' 2) := by
    intro c hc
    refine s2_copyFrom (by omega) (by omega) (by omega) fun M1 f1 f2 f3 f4 f5 => ⟨?_, fun c' hc' => ?_⟩
    · rw [mu_ne (by omega), f5 61 (by omega) (by omega) (by omega)]
    · rw [mu_ne (by omega)]
      by_cases e : c' = c
      · rw [e]; exact Or.inl f4
      · right; rw [f5 c' (by omega) (by omega) (by omega)]
  refine ⟨fun _ => ⟨rfl, main 73 (Or.inr rfl)⟩, fun _ => ⟨rfl, main 67 (Or.inl rfl)⟩⟩
theorem sm_back {M : Mem} (hI : INV M) : wX7_back M (fun _ M1 => (∀ c, c = 67 ∨ c = 73 → M1 c 2 = M c 2) ∧ ∃ c, (c = 61 ∨ c = 67 ∨ c = 73) ∧ M1 61 2 = M c 2) := by
  obtain ⟨t, N, Rr, K, A, nt, ta, F, hB, ⟨tl, tx, hT⟩, hP, ⟨kc, c1, c2, c3, c4, c5⟩, hS⟩ := hI
  unfold wX7_back
  rw [c1]
  refine b_lt (a := 0) (b := kc) (by omega) (by omega) (fun q => ?_) (fun q => ⟨fun c hc => rfl, 61, Or.inl rfl, rfl⟩)
  generalize hM1 : mu M 0 13 (nI kc - (1 : Int32)) = M1
  have g1 : ∀ x, x ≠ 0 → M1 x = M x := fun x hx => by rw [← hM1, mu_ne hx]
  have main : ∀ c, c = 67 ∨ c = 73 → wX2_copyFrom 61 c M1 (fun M4 => (∀ c', c' = 67 ∨ c' = 73 → M4 c' 2 = M c' 2) ∧ ∃ c', (c' = 61 ∨ c' = 67 ∨ c' = 73) ∧ M4 61 2 = M c' 2) := by
    intro c hc
    refine s2_copyFrom (by omega) (by omega) (by omega) fun M2 f1 f2 f3 f4 f5 => ⟨fun c' hc' => ?_, c, by omega, ?_⟩
    · rw [f5 c' (by omega) (by omega) (by omega), g1 c' (by omega)]
    · rw [f4, g1 c (by omega)]
  refine ⟨fun _ => ⟨rfl, main 73 (Or.inr rfl)⟩, fun _ => ⟨rfl, main 67 (Or.inl rfl)⟩⟩
theorem st_read {M : Mem} {n : Nat} (hI : INV M) (hd : DB n M) : STP (fun Q => wX7_read M Q) (n + 40) M := by
  have h := k_read (Q := fun r1 r2 M => r1 = r2 ∧ INV M) hI (fun r M hM => ⟨rfl, hM⟩)
  obtain ⟨d, d1, d2⟩ := hd 61 (Or.inl rfl)
  obtain ⟨r, M1, f, h1, ⟨j, j1, j2⟩, b⟩ := u_wX7_read M h (sm_read hI d2)
  obtain ⟨r2, M2, f2, ⟨-, hI2⟩, -, -⟩ := u_wX8_read M1 h1 h1
  have g := AG_of f2 (fun i k (h : 79 ≤ i) => (show 79 ≤ i from by omega))
  refine ⟨r, M2, hI2, KS_of f g (fun i k (h : 61 ≤ i ∧ i ≤ 66) => (show (i = 0 ∧ (k = 9 ∨ k = 13)) ∨ (27 ≤ i ∧ i ≤ 78) from by omega)), ?_, fun K hK => b _ ⟨M2, g, hK⟩⟩
  exact fun c hc => by
    rcases hc with e | e | e
    · subst e; exact ⟨d + j, by omega, by rw [g 61 (by omega)]; exact j2⟩
    · subst e; obtain ⟨x, x1, x2⟩ := hd 67 (by omega); exact ⟨x, by omega, by rw [g 67 (by omega), f 67 2 (fun h => by have h : 61 ≤ 67 ∧ 67 ≤ 66 := h; omega)]; exact x2⟩
    · subst e; obtain ⟨x, x1, x2⟩ := hd 73 (by omega); exact ⟨x, by omega, by rw [g 73 (by omega), f 73 2 (fun h => by have h : 61 ≤ 73 ∧ 73 ≤ 66 := h; omega)]; exact x2⟩
theorem st_finish {M : Mem} {n : Nat} (hI : INV M) (hd : DB n M) : STP (fun Q => wX7_finish M Q) (n + 40) M := by
  have h := k_finish (Q := fun r1 r2 M => r1 = r2 ∧ INV M) hI (fun r M hM => ⟨rfl, hM⟩)
  obtain ⟨d, d1, d2⟩ := hd 61 (Or.inl rfl)
  obtain ⟨r, M1, f, h1, ⟨j, j1, j2⟩, b⟩ := u_wX7_finish M h (sm_finish hI d2)
  obtain ⟨r2, M2, f2, ⟨-, hI2⟩, -, -⟩ := u_wX8_finish M1 h1 h1
  have g := AG_of f2 (fun i k (h : 79 ≤ i) => (show 79 ≤ i from by omega))
  refine ⟨r, M2, hI2, KS_of f g (fun i k (h : 61 ≤ i ∧ i ≤ 66) => (show (i = 0 ∧ (k = 9 ∨ k = 13)) ∨ (27 ≤ i ∧ i ≤ 78) from by omega)), ?_, fun K hK => b _ ⟨M2, g, hK⟩⟩
  exact fun c hc => by
    rcases hc with e | e | e
    · subst e; exact ⟨d + j, by omega, by rw [g 61 (by omega)]; exact j2⟩
    · subst e; obtain ⟨x, x1, x2⟩ := hd 67 (by omega); exact ⟨x, by omega, by rw [g 67 (by omega), f 67 2 (fun h => by have h : 61 ≤ 67 ∧ 67 ≤ 66 := h; omega)]; exact x2⟩
    · subst e; obtain ⟨x, x1, x2⟩ := hd 73 (by omega); exact ⟨x, by omega, by rw [g 73 (by omega), f 73 2 (fun h => by have h : 61 ≤ 73 ∧ 73 ≤ 66 := h; omega)]; exact x2⟩
theorem st_keep {M : Mem} {n : Nat} (hI : INV M) (hd : DB n M) : STP (fun Q => wX7_keep M Q) (n + 40) M := by
  have h := k_keep (Q := fun r1 r2 M => r1 = r2 ∧ INV M) hI (fun r M hM => ⟨rfl, hM⟩)
  obtain ⟨r, M1, f, h1, ⟨j1, j2⟩, b⟩ := u_wX7_keep M h (sm_keep hI)
  obtain ⟨r2, M2, f2, ⟨-, hI2⟩, -, -⟩ := u_wX8_keep M1 h1 h1
  have g := AG_of f2 (fun i k (h : 79 ≤ i) => (show 79 ≤ i from by omega))
  refine ⟨r, M2, hI2, KS_of f g (fun i k (h : (i = 0 ∧ k = 13) ∨ (61 ≤ i ∧ i ≤ 78)) => (show (i = 0 ∧ (k = 9 ∨ k = 13)) ∨ (27 ≤ i ∧ i ≤ 78) from by omega)), ?_, fun K hK => b _ ⟨M2, g, hK⟩⟩
  exact fun c hc => by
    obtain ⟨y, y1, y2⟩ := hd 61 (by omega)
    rcases hc with e | e
    · subst e; exact ⟨y, by omega, by rw [g 61 (by omega), j1]; exact y2⟩
    · obtain ⟨x, x1, x2⟩ := hd c (Or.inr e)
      rcases j2 c e with z | z
      · exact ⟨y, by omega, by rw [g c (by omega), z]; exact y2⟩
      · exact ⟨x, by omega, by rw [g c (by omega), z]; exact x2⟩
theorem st_back {M : Mem} {n : Nat} (hI : INV M) (hd : DB n M) : STP (fun Q => wX7_back M Q) (n + 40) M := by
  have h := k_back (Q := fun r1 r2 M => r1 = r2 ∧ INV M) hI (fun r M hM => ⟨rfl, hM⟩)
  obtain ⟨r, M1, f, h1, ⟨j1, j2⟩, b⟩ := u_wX7_back M h (sm_back hI)
  obtain ⟨r2, M2, f2, ⟨-, hI2⟩, -, -⟩ := u_wX8_back M1 h1 h1
  have g := AG_of f2 (fun i k (h : 79 ≤ i) => (show 79 ≤ i from by omega))
  refine ⟨r, M2, hI2, KS_of f g (fun i k (h : (i = 0 ∧ k = 13) ∨ (61 ≤ i ∧ i ≤ 78)) => (show (i = 0 ∧ (k = 9 ∨ k = 13)) ∨ (27 ≤ i ∧ i ≤ 78) from by omega)), ?_, fun K hK => b _ ⟨M2, g, hK⟩⟩
  exact fun c hc => by
    rcases hc with e | e
    · subst e
      obtain ⟨c', hc', z⟩ := j2
      obtain ⟨y, y1, y2⟩ := hd c' hc'
      exact ⟨y, by omega, by rw [g 61 (by omega), z]; exact y2⟩
    · obtain ⟨x, x1, x2⟩ := hd c (Or.inr e)
      exact ⟨x, by omega, by rw [g c (by omega), j1 c e]; exact x2⟩
/-! what is refused -/
theorem bl_t {M : Mem} {k : Nat} {Q : Int32 → Mem → Prop} (hI : INV M) (hk : k < 2) (h : Q 1 M) : wX7_isBelowCount (nI k) M Q := by
  obtain ⟨t, N, Rr, K, A, nt, ta, F, hB, -⟩ := hI
  obtain ⟨b1, b2, -⟩ := TL_N hB.2.1
  exact s7_isBelow hB (fun _ => h) (fun q => absurd ⟨k, by omega, by omega, rfl⟩ q)
theorem bl_f {M : Mem} {Q : Int32 → Mem → Prop} (hI : INV M) (h : Q 0 M) : wX7_isBelowCount (40 : Int32) M Q := by
  obtain ⟨t, N, Rr, K, A, nt, ta, F, hB, -⟩ := hI
  obtain ⟨b1, b2, -⟩ := TL_N hB.2.1
  refine s7_isBelow hB (fun ⟨k, k1, k2, e⟩ => ?_) (fun _ => h)
  have := nI_inj (a := 40) (b := k) (by omega) (by omega) e
  omega
theorem bl_m {M : Mem} {Q : Int32 → Mem → Prop} (hI : INV M) (h : Q 0 M) : wX7_isBelowCount (-1 : Int32) M Q := by
  obtain ⟨t, N, Rr, K, A, nt, ta, F, hB, -⟩ := hI
  obtain ⟨b1, b2, -⟩ := TL_N hB.2.1
  refine s7_isBelow hB (fun ⟨k, k1, k2, e⟩ => ?_) (fun _ => h)
  have := nI_pos (n := k) (by omega)
  rw [← e] at this
  exact absurd (by decide) this
theorem tn_t {M : Mem} {Q : Int32 → Mem → Prop} (hI : INV M) (h : Q 1 M) : wX7_isTurn (0 : Int32) M Q := by
  obtain ⟨t, N, Rr, K, A, nt, ta, F, hB, -⟩ := hI
  obtain ⟨b1, b2, b3, b4, -⟩ := TL_N hB.2.1
  exact s7_isTurn hB (fun _ => h) (fun q => absurd ⟨0, by omega, by omega, rfl⟩ q)
theorem tn_f {M : Mem} {Q : Int32 → Mem → Prop} (hI : INV M) (h : Q 0 M) : wX7_isTurn (40 : Int32) M Q := by
  obtain ⟨t, N, Rr, K, A, nt, ta, F, hB, -⟩ := hI
  obtain ⟨b1, b2, b3, b4, -⟩ := TL_N hB.2.1
  refine s7_isTurn hB (fun ⟨k, k1, k2, e⟩ => ?_) (fun _ => h)
  have := nI_inj (a := 40) (b := k) (by omega) (by omega) e
  omega
theorem wi_f {M : Mem} {a b c : Nat} {Q : Int32 → Mem → Prop} (hab : a ≤ b) (hb : b < 2 ^ 31) (hc : c < 2 ^ 31) (hn : ¬ (a ≤ c ∧ c ≤ b)) (h : Q 0 M) : wX7_within (nI c) (nI a) (nI b) M Q := s7_within hab hb (fun g => absurd ((rge_nI hb hc).mp g) hn) (fun _ => h)
theorem rd_t {M : Mem} {Q : Int32 → Mem → Prop} (h : Q 1 M) : wX7_isReader (0 : Int64) M Q := s7_isReader (fun _ => h) (fun q => absurd ⟨0, by omega, rfl⟩ q)
theorem rd_f {M : Mem} {x : Int64} {Q : Int32 → Mem → Prop} (hx : x < 0) (h : Q 0 M) : wX7_isReader x M Q := s7_isReader (fun g => absurd hx (rdr_no g).1) (fun _ => h)
theorem rf_write {M : Mem} {Q : Int32 → Mem → Prop} (h : Q (-1) M) : wX7_write (9 : Int32) (0 : Int64) M Q := wi_f (a := 1) (b := 8) (c := 9) (by omega) (by omega) (by omega) (by omega) (i_f h)
theorem rf_leaf {M : Mem} {Q : Int32 → Mem → Prop} (hI : INV M) (h : Q (-1) M) : wX7_leaf (40 : Int32) (0 : Int32) M Q := bl_f hI (i_f' h)
theorem rf_where {M : Mem} {Q : Int32 → Mem → Prop} (hI : INV M) (h : Q (-1) M) : wX7_where (-1 : Int32) M Q := bl_m hI (i_f' h)
theorem rf_change {M : Mem} {Q : Int32 → Mem → Prop} (hI : INV M) (h : Q (-1) M) : wX7_change (0 : Int32) (40 : Int32) M Q := bl_t (k := 0) hI (by omega) (i_t' (bl_f hI (i_f h)))
theorem rf_drop {M : Mem} {Q : Int32 → Mem → Prop} (h : Q (-1) M) : wX7_drop (10000 : Int32) M Q := wi_f (a := 0) (b := 9999) (c := 10000) (by omega) (by omega) (by omega) (by omega) (i_f h)
theorem rf_has {M : Mem} {Q : Int32 → Mem → Prop} (hI : INV M) (h : Q (-1) M) : wX7_has (0 : Int64) (40 : Int32) M Q := rd_t (i_t' (tn_f hI (i_f h)))
theorem rf_leaves {M : Mem} {Q : Int64 → Mem → Prop} (h : Q (-1) M) : wX7_leaves (-1 : Int64) M Q := rd_f (by decide) (i_f' h)
theorem rf_ever {M : Mem} {Q : Int64 → Mem → Prop} (h : Q (-1) M) : wX7_ever (2 : Int32) M Q := wi_f (a := 0) (b := 1) (c := 2) (by omega) (by omega) (by omega) (by omega) (i_f h)
theorem rf_right {M : Mem} {Q : Int32 → Mem → Prop} (h : Q (-1) M) : wX7_right (-5 : Int64) M Q := rd_f (by decide) (i_f h)
theorem rf_order {M : Mem} {Q : Int32 → Mem → Prop} (hI : INV M) (h : Q (-1) M) : wX7_order (0 : Int64) (40 : Int32) M Q := rd_t (i_t' (bl_f hI (i_f h)))
theorem rf_shows {M : Mem} {Q : Int32 → Mem → Prop} (h : Q (-1) M) : wX7_shows (4 : Int32) (0 : Int32) M Q := wi_f (a := 0) (b := 3) (c := 4) (by omega) (by omega) (by omega) (by omega) (i_f' h)
theorem rf_quickest {M : Mem} {Q : Int32 → Mem → Prop} (h : Q (-1) M) : wX7_quickest (3 : Int32) M Q := wi_f (a := 0) (b := 2) (c := 3) (by omega) (by omega) (by omega) (by omega) (i_f h)
theorem rf_seen {M : Mem} {Q : Int32 → Mem → Prop} (hI : INV M) (h : Q (-1) M) : wX7_seen (0 : Int64) (0 : Int32) (40 : Int32) M Q := rd_t (i_t' (tn_t hI (i_t' (bl_f hI (i_f h)))))
theorem rf_sure {M : Mem} {Q : Int32 → Mem → Prop} (hI : INV M) (h : Q (-1) M) : wX7_sure (40 : Int32) M Q := bl_f hI (i_f h)
theorem rf_lacks {M : Mem} {Q : Int32 → Mem → Prop} (hI : INV M) (h : Q (-1) M) : wX7_lacks (40 : Int32) (0 : Int32) M Q := bl_f hI (i_f' h)
theorem rf_notice {M : Mem} {Q : Int32 → Mem → Prop} (hI : INV M) (h : Q (-1) M) : wX7_notice (0 : Int32) (0 : Int32) (1001 : Int32) M Q := bl_t (k := 0) hI (by omega) (i_t' (bl_t (k := 0) hI (by omega) (i_t' (wi_f (a := 0) (b := 1000) (c := 1001) (by omega) (by omega) (by omega) (by omega) (i_f h)))))
theorem rf_pleased {M : Mem} {Q : Int32 → Mem → Prop} (h : Q (-1) M) : wX7_pleased (0 : Int32) (0 : Int32) M Q := wi_f (a := 1) (b := 100) (c := 0) (by omega) (by omega) (by omega) (by omega) (i_f' h)
theorem rf_count {M : Mem} {Q : Int32 → Mem → Prop} (h : Q (-1) M) : wX7_count (8 : Int32) M Q := wi_f (a := 0) (b := 7) (c := 8) (by omega) (by omega) (by omega) (by omega) (i_f h)
/-! count and leaf as they are -/
def cntV (M : Mem) : Nat → Int32
  | 0 => M (rid (M 0 2)) 0
  | 1 => M (rid (M 0 2)) 1
  | 2 => M (rid (M 0 2)) 8
  | 3 => M 61 1
  | 4 => M 61 2
  | 5 => M 0 9
  | 6 => M 0 13
  | _ => M 1 1
theorem ct_all {M : Mem} {w : Nat} {Q : Int32 → Mem → Prop} (hI : INV M) (hw : w < 8) (h : Q (cntV M w) M) : wX7_count (nI w) M Q := by
  obtain ⟨t, N, Rr, K, A, nt, ta, F, hB, -⟩ := hI
  obtain ⟨ht, e2, e1, k2, k1⟩ := BK_t hB
  refine s7_within (a := 0) (b := 7) (by omega) (by omega) (fun _ => i_t ?_) (fun q => absurd ⟨w, by omega, by omega, rfl⟩ q)
  have n : ∀ {a b : Nat} {A B : Prop}, a < 8 → b < 8 → a ≠ b → B → (nI a = nI b → A) ∧ (¬ nI a = nI b → B) := fun ha hb hn hB => ⟨fun e => absurd (nI_inj (by omega) (by omega) e) hn, fun _ => hB⟩
  have y : ∀ {a : Nat} {A B : Prop}, A → (nI a = nI a → A) ∧ (¬ nI a = nI a → B) := fun hA => ⟨fun _ => hA, fun q => absurd rfl q⟩
  rcases (show w = 0 ∨ w = 1 ∨ w = 2 ∨ w = 3 ∨ w = 4 ∨ w = 5 ∨ w = 6 ∨ w = 7 by omega) with e | e | e | e | e | e | e | e <;> subst e
  · exact y ⟨k2, h⟩
  · exact n (b := 0) (by omega) (by omega) (by omega) (y ⟨k2, h⟩)
  · exact n (b := 0) (by omega) (by omega) (by omega) (n (b := 1) (by omega) (by omega) (by omega) (y ⟨k2, h⟩))
  · exact n (b := 0) (by omega) (by omega) (by omega) (n (b := 1) (by omega) (by omega) (by omega) (n (b := 2) (by omega) (by omega) (by omega) (y h)))
  · exact n (b := 0) (by omega) (by omega) (by omega) (n (b := 1) (by omega) (by omega) (by omega) (n (b := 2) (by omega) (by omega) (by omega) (n (b := 3) (by omega) (by omega) (by omega) (y h))))
  · exact n (b := 0) (by omega) (by omega) (by omega) (n (b := 1) (by omega) (by omega) (by omega) (n (b := 2) (by omega) (by omega) (by omega) (n (b := 3) (by omega) (by omega) (by omega) (n (b := 4) (by omega) (by omega) (by omega) (y h)))))
  · exact n (b := 0) (by omega) (by omega) (by omega) (n (b := 1) (by omega) (by omega) (by omega) (n (b := 2) (by omega) (by omega) (by omega) (n (b := 3) (by omega) (by omega) (by omega) (n (b := 4) (by omega) (by omega) (by omega) (n (b := 5) (by omega) (by omega) (by omega) (y h))))))
  · exact n (b := 0) (by omega) (by omega) (by omega) (n (b := 1) (by omega) (by omega) (by omega) (n (b := 2) (by omega) (by omega) (by omega) (n (b := 3) (by omega) (by omega) (by omega) (n (b := 4) (by omega) (by omega) (by omega) (n (b := 5) (by omega) (by omega) (by omega) (n (b := 6) (by omega) (by omega) (by omega) h))))))
theorem ct_pos {M : Mem} {w n : Nat} (hI : INV M) (hd : DB n M) (hn : n < 2 ^ 31) : ¬ cntV M w < 0 := by
  obtain ⟨t, N, Rr, K, A, nt, ta, F, hB, ⟨tl, tx, hT⟩, ⟨P, b, p1, p2, p3, p4, p5, p6, p7⟩, ⟨kc, c1, c2, c3, -⟩, ⟨sc, jj, ii, vv, s1, s2, s3, s4⟩⟩ := hI
  obtain ⟨ht, e2, e1, k2, k1⟩ := BK_t hB
  obtain ⟨b1, b2, b3, b4, -⟩ := TL_N hB.2.1
  obtain ⟨d, d1, d2⟩ := hd 61 (Or.inl rfl)
  have h3 := hB.2.2.2.1.2.2.1
  match w with
  | 0 => show ¬ M (rid (M 0 2)) 0 < 0; rw [e2, hB.2.1.1]; exact nI_pos (by omega)
  | 1 => show ¬ M (rid (M 0 2)) 1 < 0; rw [e2, hB.2.1.2.1]; exact nI_pos (by omega)
  | 2 => show ¬ M (rid (M 0 2)) 8 < 0; rw [e2, hB.2.2.2.1.1]; exact nI_pos (by omega)
  | 3 => show ¬ M 61 1 < 0; rw [p4]; exact nI_pos (by omega)
  | 4 => show ¬ M 61 2 < 0; rw [d2]; exact nI_pos (by omega)
  | 5 => show ¬ M 0 9 < 0; rw [s1]; exact nI_pos (by omega)
  | 6 => show ¬ M 0 13 < 0; rw [c1]; exact nI_pos (by omega)
  | _ + 7 => show ¬ M 1 1 < 0; rw [hT.1]; exact nI_pos (by have := hT.2.2.1; omega)
theorem lf_0 {M : Mem} {t N Rr K A nt p : Nat} {ta F : Nat → Nat} {Q : Int32 → Mem → Prop} (hB : BK M t N Rr K A nt ta F) (hp : p < N) (h : Q (M 64 p) M) : wX7_leaf (nI p) (0 : Int32) M Q := by
  obtain ⟨b1, b2, -⟩ := TL_N hB.2.1
  refine s7_isBelow hB (fun _ => i_t' ?_) (fun q => absurd ⟨p, by omega, by omega, rfl⟩ q)
  refine s7_within (a := 0) (b := 1) (by omega) (by omega) (fun _ => i_t ⟨fun q => absurd rfl q, fun _ => s1_leafAt (o := 62) rfl (by omega) h⟩) (fun q => absurd ⟨0, by omega, by omega, rfl⟩ q)
theorem lf_1 {M : Mem} {t N Rr K A nt p : Nat} {ta F : Nat → Nat} {Q : Int32 → Mem → Prop} (hB : BK M t N Rr K A nt ta F) (hp : p < N) (h : Q (M 24 p) M) : wX7_leaf (nI p) (1 : Int32) M Q := by
  obtain ⟨b1, b2, -⟩ := TL_N hB.2.1
  refine s7_isBelow hB (fun _ => i_t' ?_) (fun q => absurd ⟨p, by omega, by omega, rfl⟩ q)
  refine s7_within (a := 0) (b := 1) (by omega) (by omega) (fun _ => i_t ⟨fun _ => s1_leafAt (o := 22) rfl (by omega) h, fun q => absurd q (by decide)⟩) (fun q => absurd ⟨1, by omega, by omega, rfl⟩ q)
