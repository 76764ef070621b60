/-! the law's loop (written by genloop.py) -/
theorem law_loop (hlay : ∀ (M : Mem) (Q : Int32 → Int32 → Mem → Prop), INV M → GQ Q → wX7_lay M (fun r1 M1 => wX8_lay M1 (fun r2 M2 => Q r1 r2 M2))) {L : Nat} (hL : L ≤ 2560) (xs : Nat → Int32) : ∀ (n i : Nat) (M : Mem), INV M → 5 * i ≤ L → L < 5 * i + 5 * n → wL_18 L xs n (nI (5 * i)) M := by
  intro n
  induction n with
  | zero => intro i M hI h1 h2; omega
  | succ n ih =>
    intro i M hI h1 h2
    unfold wL_18
    refine ⟨fun _ => trivial, fun q => ?_⟩
    have hi5 : 5 * i + 5 ≤ L := by
      rcases Nat.lt_or_ge L 5 with c | c
      · refine absurd ?_ q
        have a : nI L - nI 5 < 0 := pk_sneg (by omega) c
        exact Int32.lt_of_lt_of_le a (nI_pos' (by omega))
      · have e : Int32.ofNat L - (5 : Int32) = nI (L - 5) := pk_sub (a := L) (b := 5) c
        rw [e] at q
        rcases Nat.lt_or_ge (L - 5) (5 * i) with d | d
        · exact absurd (nI_lt d (by omega)) q
        · omega
    have hin : ∀ j : Nat, j ≤ 4 → 0 < L → vp_in (nI (5 * i) + nI j) L := fun j hj _ => by
      rw [nI_add]
      exact vp_in_nI (by omega) (by omega)
    have nx : ∀ M2, INV M2 → wL_1006 L xs (wL_18 L xs n) (nI (5 * i)) M2 := fun M2 hI2 => by
      show wL_18 L xs n (nI (5 * i) + (5 : Int32)) M2
      rw [show nI (5 * i) + (5 : Int32) = nI (5 * (i + 1)) from (nI_add (5 * i) 5).trans (by congr 1)]
      exact ih (i + 1) M2 hI2 (by omega) (by omega)
    refine ⟨vp_in_nI (by omega) (by omega), ?_⟩
    have t1 : vp_in (nI (5 * i) + (1 : Int32)) L = True := eq_true (hin 1 (by omega) (by omega))
    have t2 : vp_in (nI (5 * i) + (2 : Int32)) L = True := eq_true (hin 2 (by omega) (by omega))
    have t3 : vp_in (nI (5 * i) + (3 : Int32)) L = True := eq_true (hin 3 (by omega) (by omega))
    have t4 : vp_in (nI (5 * i) + (4 : Int32)) L = True := eq_true (hin 4 (by omega) (by omega))
    simp only [t1, t2, t3, t4, true_and]
    refine ⟨fun _ => k_write hI fun r M2 hI2 => ⟨fun _ => nx _ hI2, fun q => absurd rfl q⟩, fun _ => ?_⟩
    refine ⟨fun _ => k_wipe hI fun r M2 hI2 => ⟨fun _ => nx _ hI2, fun q => absurd rfl q⟩, fun _ => ?_⟩
    refine ⟨fun _ => k_fault hI fun r M2 hI2 => ⟨fun _ => nx _ hI2, fun q => absurd rfl q⟩, fun _ => ?_⟩
    refine ⟨fun _ => hlay M _ hI fun r M2 hI2 => ⟨fun _ => nx _ hI2, fun q => absurd rfl q⟩, fun _ => ?_⟩
    refine ⟨fun _ => k_leaf hI fun r M2 hI2 => ⟨fun _ => nx _ hI2, fun q => absurd rfl q⟩, fun _ => ?_⟩
    refine ⟨fun _ => k_where hI fun r M2 hI2 => ⟨fun _ => nx _ hI2, fun q => absurd rfl q⟩, fun _ => ?_⟩
    refine ⟨fun _ => k_read hI fun r M2 hI2 => ⟨fun _ => nx _ hI2, fun q => absurd rfl q⟩, fun _ => ?_⟩
    refine ⟨fun _ => k_finish hI fun r M2 hI2 => ⟨fun _ => nx _ hI2, fun q => absurd rfl q⟩, fun _ => ?_⟩
    refine ⟨fun _ => k_change hI fun r M2 hI2 => ⟨fun _ => nx _ hI2, fun q => absurd rfl q⟩, fun _ => ?_⟩
    refine ⟨fun _ => k_drop hI fun r M2 hI2 => ⟨fun _ => nx _ hI2, fun q => absurd rfl q⟩, fun _ => ?_⟩
    refine ⟨fun _ => k_has hI fun r M2 hI2 => ⟨fun _ => nx _ hI2, fun q => absurd rfl q⟩, fun _ => ?_⟩
    refine ⟨fun _ => k_leaves hI fun r M2 hI2 => ⟨fun _ => nx _ hI2, fun q => absurd ((lg_cmp_eq _ _).mpr rfl) q⟩, fun _ => ?_⟩
    refine ⟨fun _ => k_period hI fun r M2 hI2 => ⟨fun _ => nx _ hI2, fun q => absurd rfl q⟩, fun _ => ?_⟩
    refine ⟨fun _ => k_ever hI fun r M2 hI2 => ⟨fun _ => nx _ hI2, fun q => absurd ((lg_cmp_eq _ _).mpr rfl) q⟩, fun _ => ?_⟩
    refine ⟨fun _ => k_right hI fun r M2 hI2 => ⟨fun _ => nx _ hI2, fun q => absurd rfl q⟩, fun _ => ?_⟩
    refine ⟨fun _ => k_order hI fun r M2 hI2 => ⟨fun _ => nx _ hI2, fun q => absurd rfl q⟩, fun _ => ?_⟩
    refine ⟨fun _ => k_shows hI fun r M2 hI2 => ⟨fun _ => nx _ hI2, fun q => absurd rfl q⟩, fun _ => ?_⟩
    refine ⟨fun _ => k_quickest hI fun r M2 hI2 => ⟨fun _ => nx _ hI2, fun q => absurd rfl q⟩, fun _ => ?_⟩
    refine ⟨fun _ => k_seen hI fun r M2 hI2 => ⟨fun _ => nx _ hI2, fun q => absurd rfl q⟩, fun _ => ?_⟩
    refine ⟨fun _ => k_forget hI fun r M2 hI2 => ⟨fun _ => nx _ hI2, fun q => absurd rfl q⟩, fun _ => ?_⟩
    refine ⟨fun _ => k_so hI fun r M2 hI2 => ⟨fun _ => nx _ hI2, fun q => absurd rfl q⟩, fun _ => ?_⟩
    refine ⟨fun _ => k_sure hI fun r M2 hI2 => ⟨fun _ => nx _ hI2, fun q => absurd rfl q⟩, fun _ => ?_⟩
    refine ⟨fun _ => k_lacks hI fun r M2 hI2 => ⟨fun _ => nx _ hI2, fun q => absurd rfl q⟩, fun _ => ?_⟩
    refine ⟨fun _ => k_notice hI fun r M2 hI2 => ⟨fun _ => nx _ hI2, fun q => absurd rfl q⟩, fun _ => ?_⟩
    refine ⟨fun _ => k_pleased hI fun r M2 hI2 => ⟨fun _ => nx _ hI2, fun q => absurd rfl q⟩, fun _ => ?_⟩
    refine ⟨fun _ => k_keep hI fun r M2 hI2 => ⟨fun _ => nx _ hI2, fun q => absurd rfl q⟩, fun _ => ?_⟩
    refine ⟨fun _ => k_back hI fun r M2 hI2 => ⟨fun _ => nx _ hI2, fun q => absurd rfl q⟩, fun _ => ?_⟩
    refine ⟨fun _ => k_count hI fun r M2 hI2 => ⟨fun _ => nx _ hI2, fun q => absurd rfl q⟩, fun _ => ?_⟩
    exact nx M hI
