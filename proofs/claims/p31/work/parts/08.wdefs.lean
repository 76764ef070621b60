abbrev rmX4_fill : Room := { frames := 0, cells := 0, slots := 0, locals := 0 }
def wX4_fill_2 (r : Nat) (x1 : Int32) (Q : Mem → Prop) : Nat → Int32 → Mem → Prop
  | 0, _, _ => False
  | n + 1, v2, M => (((Int32.ofNat (ln (r + 1))) ≤ v2 → Q M) ∧ (¬ (Int32.ofNat (ln (r + 1))) ≤ v2 → (vp_in v2 (ln (r + 1)) ∧ wX4_fill_2 r x1 Q n (v2 + (1 : Int32)) (mu M (r + 1) v2.toNatClampNeg x1))))
def wX4_fill (r : Nat) (x1 : Int32) (M : Mem) (Q : Mem → Prop) : Prop := (∃ n1, wX4_fill_2 r x1 Q n1 (0 : Int32) M)
abbrev rmX0_begin : Room := { frames := 1, cells := 0, slots := 0, locals := 22 }
def wX0_begin (r : Nat) (x1 : Int32) (M : Mem) (Q : Mem → Prop) : Prop := (((1 : Int32) = 0 ∨ (1 : Int32) = 1) ∧ (wX4_fill (r + 1) (-4 : Int32) (mu (mu (mu M r 2 x1) r 3 (0 : Int32)) r 4 (1 : Int32)) (fun M1 => (wX4_fill (r + 3) (-4 : Int32) M1 (fun M2 => Q M2)))))
abbrev rmX4_at : Room := { frames := 0, cells := 0, slots := 0, locals := 0 }
def wX4_at_24 (r : Nat) (x1 : Int32) (Q : Int32 → Mem → Prop) (s0 : Int32) (M : Mem) : Prop := Q s0 M
def wX4_at_22 (r : Nat) (x1 : Int32) (Q : Int32 → Mem → Prop) (M : Mem) : Prop := wX4_at_24 r x1 Q (-4 : Int32) M
def wX4_at (r : Nat) (x1 : Int32) (M : Mem) (Q : Int32 → Mem → Prop) : Prop := ((x1 < 0 → wX4_at_22 r x1 Q M) ∧ (¬ x1 < 0 → (((Int32.ofNat (ln (r + 1))) ≤ x1 → wX4_at_22 r x1 Q M) ∧ (¬ (Int32.ofNat (ln (r + 1))) ≤ x1 → (vp_in x1 (ln (r + 1)) ∧ wX4_at_24 r x1 Q (M (r + 1) x1.toNatClampNeg) M)))))
abbrev rmX4_put : Room := { frames := 0, cells := 0, slots := 0, locals := 0 }
def wX4_put_20 (r : Nat) (x1 : Int32) (x2 : Int32) (Q : Mem → Prop) (M : Mem) : Prop := Q M
def wX4_put (r : Nat) (x1 : Int32) (x2 : Int32) (M : Mem) (Q : Mem → Prop) : Prop := ((x1 < 0 → wX4_put_20 r x1 x2 Q M) ∧ (¬ x1 < 0 → (((Int32.ofNat (ln (r + 1))) ≤ x1 → wX4_put_20 r x1 x2 Q M) ∧ (¬ (Int32.ofNat (ln (r + 1))) ≤ x1 → (vp_in x1 (ln (r + 1)) ∧ wX4_put_20 r x1 x2 Q (mu M (r + 1) x1.toNatClampNeg x2))))))
abbrev rmX0_bind : Room := { frames := 1, cells := 0, slots := 0, locals := 22 }
def wX0_bind_73 (r : Nat) (x1 : Int32) (x2 : Int32) (Q : Mem → Prop) (M : Mem) : Prop := Q M
def wX0_bind_63 (r : Nat) (x1 : Int32) (x2 : Int32) (Q : Mem → Prop) (v3 : Int32) (M : Mem) : Prop := ((v3 = x2 → wX0_bind_73 r x1 x2 Q M) ∧ (¬ v3 = x2 → (((0 : Int32) = 0 ∨ (0 : Int32) = 1) ∧ wX0_bind_73 r x1 x2 Q (mu M r 4 (0 : Int32)))))
def wX0_bind (r : Nat) (x1 : Int32) (x2 : Int32) (M : Mem) (Q : Mem → Prop) : Prop := (wX4_at (r + 1) x1 M (fun r2 M1 => (wX4_at (r + 3) x2 M1 (fun r4 M3 => ((¬ r2 = (-4 : Int32) → wX0_bind_63 r x1 x2 Q r2 M3) ∧ (r2 = (-4 : Int32) → ((¬ r4 = (-4 : Int32) → wX0_bind_63 r x1 x2 Q r2 M3) ∧ (r4 = (-4 : Int32) → (wX4_put (r + 1) x1 x2 M3 (fun M5 => (wX4_put (r + 3) x2 x1 M5 (fun M6 => wX0_bind_73 r x1 x2 Q (mu M6 r 3 ((M6 r 3) + (1 : Int32)))))))))))))))
abbrev rmX0_holds : Room := { frames := 0, cells := 0, slots := 0, locals := 0 }
def wX0_holds (r : Nat) (M : Mem) (Q : Int32 → Mem → Prop) : Prop := (((M r 4) = 0 ∨ (M r 4) = 1) ∧ Q (M r 4) M)
abbrev rmX0_isAllButOne : Room := { frames := 0, cells := 0, slots := 0, locals := 0 }
def wX0_isAllButOne_18 (r : Nat) (Q : Int32 → Mem → Prop) (s0 : Int32) (M : Mem) : Prop := ((s0 = 0 ∨ s0 = 1) ∧ Q s0 M)
def wX0_isAllButOne (r : Nat) (M : Mem) (Q : Int32 → Mem → Prop) : Prop := ((¬ (M r 3) = ((M r 2) - (1 : Int32)) → wX0_isAllButOne_18 r Q (0 : Int32) M) ∧ ((M r 3) = ((M r 2) - (1 : Int32)) → wX0_isAllButOne_18 r Q (1 : Int32) M))
abbrev rmX0_leafAt : Room := { frames := 1, cells := 0, slots := 0, locals := 21 }
def wX0_leafAt (r : Nat) (x1 : Int32) (M : Mem) (Q : Int32 → Mem → Prop) : Prop := (wX4_at (r + 1) x1 M (fun r2 M1 => Q r2 M1))
abbrev rmX0_fillUp : Room := { frames := 2, cells := 0, slots := 0, locals := 46 }
def wX0_fillUp_58 (r : Nat) (k_4 : Int32 → Int32 → Mem → Prop) (Q : Mem → Prop) (v1 : Int32) (v2 : Int32) (M : Mem) : Prop := k_4 v1 (v2 + (1 : Int32)) M
def wX0_fillUp_52 (r : Nat) (k_4 : Int32 → Int32 → Mem → Prop) (Q : Mem → Prop) (v1 : Int32) (v2 : Int32) (M : Mem) : Prop := (wX0_bind r v1 v2 M (fun M7 => wX0_fillUp_58 r (k_4) Q v1 v2 M7))
def wX0_fillUp_25 (r : Nat) (k_4 : Int32 → Int32 → Mem → Prop) (Q : Mem → Prop) : Nat → Int32 → Int32 → Mem → Prop
  | 0, _, _, _ => False
  | n + 1, v1, v2, M => (((M r 2) ≤ v1 → wX0_fillUp_52 r (k_4) Q v1 v2 M) ∧ (¬ (M r 2) ≤ v1 → (wX4_at (r + 1) v1 M (fun r6 M5 => ((r6 = (-4 : Int32) → wX0_fillUp_52 r (k_4) Q v1 v2 M5) ∧ (¬ r6 = (-4 : Int32) → wX0_fillUp_25 r k_4 Q n (v1 + (1 : Int32)) v2 M5))))))
def wX0_fillUp_4 (r : Nat) (Q : Mem → Prop) : Nat → Int32 → Int32 → Mem → Prop
  | 0, _, _, _ => False
  | n + 1, v1, v2, M => (((M r 2) ≤ v2 → Q M) ∧ (¬ (M r 2) ≤ v2 → (wX4_at (r + 3) v2 M (fun r3 M2 => ((¬ r3 = (-4 : Int32) → wX0_fillUp_58 r (wX0_fillUp_4 r Q n) Q v1 v2 M2) ∧ (r3 = (-4 : Int32) → (∃ n4, wX0_fillUp_25 r (wX0_fillUp_4 r Q n) Q n4 v1 v2 M2)))))))
def wX0_fillUp (r : Nat) (M : Mem) (Q : Mem → Prop) : Prop := (∃ n1, wX0_fillUp_4 r Q n1 (0 : Int32) (0 : Int32) M)
abbrev rmX1_number : Room := { frames := 1, cells := 0, slots := 0, locals := 22 }
def wX1_number_7 (r : Nat) (x1 : Int32) (Q : Mem → Prop) : Nat → Int32 → Mem → Prop
  | 0, _, _ => False
  | n + 1, v2, M => ((x1 ≤ v2 → Q M) ∧ (¬ x1 ≤ v2 → (wX4_put (r + 1) v2 v2 M (fun M2 => wX1_number_7 r x1 Q n (v2 + (1 : Int32)) M2))))
def wX1_number (r : Nat) (x1 : Int32) (M : Mem) (Q : Mem → Prop) : Prop := (∃ n1, wX1_number_7 r x1 Q n1 (0 : Int32) (mu M r 2 x1))
abbrev rmX1_leafAt : Room := { frames := 1, cells := 0, slots := 0, locals := 21 }
def wX1_leafAt (r : Nat) (x1 : Int32) (M : Mem) (Q : Int32 → Mem → Prop) : Prop := (wX4_at (r + 1) x1 M (fun r2 M1 => Q r2 M1))
abbrev rmX1_placeOf : Room := { frames := 1, cells := 0, slots := 0, locals := 21 }
def wX1_placeOf_2 (r : Nat) (x1 : Int32) (Q : Int32 → Mem → Prop) : Nat → Int32 → Mem → Prop
  | 0, _, _ => False
  | n + 1, v2, M => (((M r 2) ≤ v2 → Q (-4 : Int32) M) ∧ (¬ (M r 2) ≤ v2 → (wX4_at (r + 1) v2 M (fun r3 M2 => ((¬ r3 = x1 → wX1_placeOf_2 r x1 Q n (v2 + (1 : Int32)) M2) ∧ (r3 = x1 → Q v2 M2))))))
def wX1_placeOf (r : Nat) (x1 : Int32) (M : Mem) (Q : Int32 → Mem → Prop) : Prop := (∃ n1, wX1_placeOf_2 r x1 Q n1 (0 : Int32) M)
abbrev rmX1_swap : Room := { frames := 1, cells := 0, slots := 0, locals := 22 }
def wX1_swap (r : Nat) (x1 : Int32) (x2 : Int32) (M : Mem) (Q : Mem → Prop) : Prop := (wX4_at (r + 1) x1 M (fun r2 M1 => (wX4_at (r + 1) x2 M1 (fun r4 M3 => (wX4_put (r + 1) x1 r4 M3 (fun M5 => (wX4_put (r + 1) x2 r2 M5 (fun M6 => Q M6))))))))
abbrev rmX4_copyFrom : Room := { frames := 1, cells := 0, slots := 0, locals := 21 }
def wX4_copyFrom_2 (r : Nat) (x1 : Nat) (Q : Mem → Prop) : Nat → Int32 → Mem → Prop
  | 0, _, _ => False
  | n + 1, v2, M => (((Int32.ofNat (ln (r + 1))) ≤ v2 → Q M) ∧ (¬ (Int32.ofNat (ln (r + 1))) ≤ v2 → (wX4_at x1 v2 M (fun r3 M2 => (vp_in v2 (ln (r + 1)) ∧ wX4_copyFrom_2 r x1 Q n (v2 + (1 : Int32)) (mu M2 (r + 1) v2.toNatClampNeg r3))))))
def wX4_copyFrom (r : Nat) (x1 : Nat) (M : Mem) (Q : Mem → Prop) : Prop := (∃ n1, wX4_copyFrom_2 r x1 Q n1 (0 : Int32) M)
abbrev rmX1_copyFrom : Room := { frames := 2, cells := 0, slots := 0, locals := 43 }
def wX1_copyFrom (r : Nat) (x1 : Nat) (M : Mem) (Q : Mem → Prop) : Prop := (wX4_copyFrom (r + 1) (x1 + 1) (mu M r 2 (M x1 2)) (fun M1 => Q M1))
abbrev rmX1_cut : Room := { frames := 2, cells := 0, slots := 0, locals := 43 }
def wX1_cut_59 (r : Nat) (k_20 : Int32 → Int32 → Mem → Prop) (Q : Mem → Prop) (v1 : Int32) (v2 : Int32) (s0 : Int32) (s1 : Nat) (s2 : Int32) (s3 : Nat) (M : Mem) : Prop := (wX4_at s1 s0 M (fun r4 M3 => (wX4_put s3 s2 r4 M3 (fun M5 => k_20 v1 (v2 + (1 : Int32)) M5))))
def wX1_cut_20 (r : Nat) (Q : Mem → Prop) : Nat → Int32 → Int32 → Mem → Prop
  | 0, _, _, _ => False
  | n + 1, v1, v2, M => (((M r 2) ≤ v2 → Q M) ∧ (¬ (M r 2) ≤ v2 → (((M r 2) ≤ (v2 + v1) → wX1_cut_59 r (wX1_cut_20 r Q n) Q v1 v2 ((v2 + v1) - (M r 2)) (r + 3) v2 (r + 1) M) ∧ (¬ (M r 2) ≤ (v2 + v1) → wX1_cut_59 r (wX1_cut_20 r Q n) Q v1 v2 (v2 + v1) (r + 3) v2 (r + 1) M))))
def wX1_cut (r : Nat) (M : Mem) (Q : Mem → Prop) : Prop := (¬ (2 : Int32) = 0 ∧ (wX4_copyFrom (r + 3) (r + 1) M (fun M1 => (∃ n2, wX1_cut_20 r Q n2 ((M r 2) / (2 : Int32)) (0 : Int32) M1))))
abbrev rmX1_layTop : Room := { frames := 1, cells := 0, slots := 0, locals := 22 }
def wX1_layTop_11 (r : Nat) (x1 : Int32) (Q : Mem → Prop) : Nat → Int32 → Int32 → Mem → Prop
  | 0, _, _, _ => False
  | n + 1, v2, v3, M => ((x1 ≤ v3 → (wX4_put (r + 1) x1 v2 M (fun M4 => Q M4))) ∧ (¬ x1 ≤ v3 → (wX4_at (r + 1) (v3 + (1 : Int32)) M (fun r6 M5 => (wX4_put (r + 1) v3 r6 M5 (fun M7 => wX1_layTop_11 r x1 Q n v2 (v3 + (1 : Int32)) M7))))))
def wX1_layTop (r : Nat) (x1 : Int32) (M : Mem) (Q : Mem → Prop) : Prop := (wX4_at (r + 1) (0 : Int32) M (fun r2 M1 => (∃ n3, wX1_layTop_11 r x1 Q n3 r2 (0 : Int32) M1)))
abbrev rmX1_readTop : Room := { frames := 3, cells := 0, slots := 0, locals := 66 }
def wX1_readTop_65 (r : Nat) (x1 : Int32) (x2 : Int32) (x3 : Int32) (Q : Int32 → Mem → Prop) (v4 : Int32) (M : Mem) : Prop := Q v4 M
def wX1_readTop_38 (r : Nat) (x1 : Int32) (x2 : Int32) (x3 : Int32) (Q : Int32 → Mem → Prop) (v4 : Int32) (M : Mem) : Prop := (wX1_layTop r ((M r 2) - (1 : Int32)) M (fun M4 => wX1_readTop_65 r x1 x2 x3 Q v4 M4))
def wX1_readTop_51 (r : Nat) (x1 : Int32) (x2 : Int32) (x3 : Int32) (Q : Int32 → Mem → Prop) (v4 : Int32) (M : Mem) : Prop := (wX1_layTop r (if ((M r 2) - (1 : Int32)) < x2 then ((M r 2) - (1 : Int32)) else x2) M (fun M5 => wX1_readTop_65 r x1 x2 x3 Q v4 M5))
def wX1_readTop (r : Nat) (x1 : Int32) (x2 : Int32) (x3 : Int32) (M : Mem) (Q : Int32 → Mem → Prop) : Prop := (wX4_at (r + 1) (0 : Int32) M (fun r2 M1 => ((¬ x1 = (3 : Int32) → ((x1 = (1 : Int32) → wX1_readTop_38 r x1 x2 x3 Q r2 M1) ∧ (¬ x1 = (1 : Int32) → ((¬ x1 = (2 : Int32) → wX1_readTop_51 r x1 x2 x3 Q r2 M1) ∧ (x1 = (2 : Int32) → (¬ (2 : Int32) = 0 ∧ (((x3 - (x3 / (2 : Int32)) * (2 : Int32)) = 0 → wX1_readTop_51 r x1 x2 x3 Q r2 M1) ∧ (¬ (x3 - (x3 / (2 : Int32)) * (2 : Int32)) = 0 → wX1_readTop_38 r x1 x2 x3 Q r2 M1)))))))) ∧ (x1 = (3 : Int32) → (wX1_cut r M1 (fun M3 => wX1_readTop_65 r x1 x2 x3 Q r2 M3))))))
abbrev rmX2_startWith : Room := { frames := 3, cells := 0, slots := 0, locals := 64 }
def wX2_startWith (r : Nat) (x1 : Nat) (M : Mem) (Q : Mem → Prop) : Prop := (wX1_copyFrom (r + 1) x1 M (fun M1 => Q (mu (mu M1 r 1 (0 : Int32)) r 2 (0 : Int32))))
abbrev rmX2_copyFrom : Room := { frames := 3, cells := 0, slots := 0, locals := 64 }
def wX2_copyFrom (r : Nat) (x1 : Nat) (M : Mem) (Q : Mem → Prop) : Prop := (wX1_copyFrom (r + 1) (x1 + 1) M (fun M1 => Q (mu (mu M1 r 1 (M1 x1 1)) r 2 ((mu M1 r 1 (M1 x1 1)) x1 2))))
abbrev rmX2_readOne : Room := { frames := 4, cells := 0, slots := 0, locals := 90 }
def wX2_readOne_56 (r : Nat) (x1 : Nat) (Q : Int32 → Mem → Prop) (v2 : Int32) (M : Mem) : Prop := Q v2 M
def wX2_readOne (r : Nat) (x1 : Nat) (M : Mem) (Q : Int32 → Mem → Prop) : Prop := (wX1_readTop (r + 1) (M x1 2) (M x1 3) (M r 1) M (fun r2 M1 => ((((mu M1 r 1 ((M1 r 1) + (1 : Int32))) r 1) < ((mu M1 r 1 ((M1 r 1) + (1 : Int32))) x1 1) → wX2_readOne_56 r x1 Q r2 (mu M1 r 1 ((M1 r 1) + (1 : Int32)))) ∧ (¬ ((mu M1 r 1 ((M1 r 1) + (1 : Int32))) r 1) < ((mu M1 r 1 ((M1 r 1) + (1 : Int32))) x1 1) → wX2_readOne_56 r x1 Q r2 (mu (mu (mu M1 r 1 ((M1 r 1) + (1 : Int32))) r 1 (0 : Int32)) r 2 (((mu (mu M1 r 1 ((M1 r 1) + (1 : Int32))) r 1 (0 : Int32)) r 2) + (1 : Int32)))))))
abbrev rmX2_fall : Room := { frames := 2, cells := 0, slots := 0, locals := 45 }
def wX2_fall_10 (r : Nat) (x1 : Int32) (Q : Mem → Prop) : Nat → Int32 → Mem → Prop
  | 0, _, _ => False
  | n + 1, v2, M => ((v2 < (1 : Int32) → Q (mu M r 1 (0 : Int32))) ∧ (¬ v2 < (1 : Int32) → (¬ (65521 : Int64) = 0 ∧ (¬ (v2 + (1 : Int32)).toInt64 = 0 ∧ (wX1_swap (r + 1) v2 ((((((((7919 : Int64) * x1.toInt64) + ((6151 : Int64) * v2.toInt64)) + (1 : Int64)) * ((((7919 : Int64) * x1.toInt64) + ((6151 : Int64) * v2.toInt64)) + (1 : Int64))) - ((((((7919 : Int64) * x1.toInt64) + ((6151 : Int64) * v2.toInt64)) + (1 : Int64)) * ((((7919 : Int64) * x1.toInt64) + ((6151 : Int64) * v2.toInt64)) + (1 : Int64))) / (65521 : Int64)) * (65521 : Int64)) - (((((((7919 : Int64) * x1.toInt64) + ((6151 : Int64) * v2.toInt64)) + (1 : Int64)) * ((((7919 : Int64) * x1.toInt64) + ((6151 : Int64) * v2.toInt64)) + (1 : Int64))) - ((((((7919 : Int64) * x1.toInt64) + ((6151 : Int64) * v2.toInt64)) + (1 : Int64)) * ((((7919 : Int64) * x1.toInt64) + ((6151 : Int64) * v2.toInt64)) + (1 : Int64))) / (65521 : Int64)) * (65521 : Int64)) / (v2 + (1 : Int32)).toInt64) * (v2 + (1 : Int32)).toInt64).toInt32) M (fun M2 => wX2_fall_10 r x1 Q n (v2 + (-1)) M2))))))
def wX2_fall (r : Nat) (x1 : Int32) (M : Mem) (Q : Mem → Prop) : Prop := (∃ n1, wX2_fall_10 r x1 Q n1 ((M (r + 1) 2) - (1 : Int32)) M)
abbrev rmX3_readOneReader : Room := { frames := 4, cells := 0, slots := 0, locals := 90 }
def wX3_readOneReader_78 (r : Nat) (x1 : Nat) (k_22 : Int32 → Mem → Prop) (Q : Mem → Prop) (v2 : Int32) (M : Mem) : Prop := k_22 (v2 + (1 : Int32)) M
def wX3_readOneReader_22 (r : Nat) (x1 : Nat) (Q : Mem → Prop) : Nat → Int32 → Mem → Prop
  | 0, _, _ => False
  | n + 1, v2, M => (((M x1 1) ≤ v2 → Q M) ∧ (¬ (M x1 1) ≤ v2 → (wX1_readTop (r + 1) (M x1 2) (M x1 3) v2 M (fun r5 M4 => (wX4_put (r + 6) v2 r5 M4 (fun M6 => (wX4_at (r + 8) r5 M6 (fun r8 M7 => ((¬ r8 = (-4 : Int32) → wX3_readOneReader_78 r x1 (wX3_readOneReader_22 r x1 Q n) Q v2 M7) ∧ (r8 = (-4 : Int32) → (wX4_put (r + 8) r5 v2 M7 (fun M9 => wX3_readOneReader_78 r x1 (wX3_readOneReader_22 r x1 Q n) Q v2 M9))))))))))))
def wX3_readOneReader (r : Nat) (x1 : Nat) (M : Mem) (Q : Mem → Prop) : Prop := (wX1_number (r + 1) (M r 1) M (fun M1 => (wX4_fill (r + 8) (-4 : Int32) M1 (fun M2 => (∃ n3, wX3_readOneReader_22 r x1 Q n3 (0 : Int32) M2)))))
abbrev rmX3_layRing : Room := { frames := 2, cells := 0, slots := 0, locals := 42 }
def wX3_layRing_68 (r : Nat) (x1 : Int32) (x2 : Int32) (Q : Int32 → Mem → Prop) : Nat → Int32 → Int32 → Mem → Prop
  | 0, _, _, _ => False
  | n + 1, v3, v5, M => ((v3 ≤ v5 → Q v3 M) ∧ (¬ v3 ≤ v5 → (wX4_at (r + 12) (x2 + v5) M (fun r9 M8 => (wX4_put (r + 16) r9 v3 M8 (fun M10 => wX3_layRing_68 r x1 x2 Q n v3 (v5 + (1 : Int32)) M10))))))
def wX3_layRing_65 (r : Nat) (x1 : Int32) (x2 : Int32) (Q : Int32 → Mem → Prop) (v3 : Int32) (M : Mem) : Prop := (∃ n7, wX3_layRing_68 r x1 x2 Q n7 v3 (0 : Int32) M)
def wX3_layRing_5 (r : Nat) (x1 : Int32) (x2 : Int32) (Q : Int32 → Mem → Prop) : Nat → Int32 → Int32 → Mem → Prop
  | 0, _, _, _ => False
  | n + 1, v3, v4, M => (wX4_put (r + 12) (x2 + v3) v4 M (fun M2 => (wX4_put (r + 14) v4 x2 M2 (fun M3 => (wX4_put (r + 18) v4 v3 M3 (fun M4 => (wX1_leafAt (r + 1) v4 M4 (fun r6 M5 => ((r6 = x1 → wX3_layRing_65 r x1 x2 Q (v3 + (1 : Int32)) M5) ∧ (¬ r6 = x1 → (((v3 + (1 : Int32)) < (M5 r 1) → wX3_layRing_5 r x1 x2 Q n (v3 + (1 : Int32)) r6 M5) ∧ (¬ (v3 + (1 : Int32)) < (M5 r 1) → wX3_layRing_65 r x1 x2 Q (v3 + (1 : Int32)) M5))))))))))))
def wX3_layRing (r : Nat) (x1 : Int32) (x2 : Int32) (M : Mem) (Q : Int32 → Mem → Prop) : Prop := (∃ n1, wX3_layRing_5 r x1 x2 Q n1 (0 : Int32) x1 M)
abbrev rmX3_layRings : Room := { frames := 3, cells := 0, slots := 0, locals := 67 }
def wX3_layRings_40 (r : Nat) (k_12 : Int32 → Int32 → Mem → Prop) (Q : Mem → Prop) (v1 : Int32) (v2 : Int32) (M : Mem) : Prop := k_12 v1 (v2 + (1 : Int32)) M
def wX3_layRings_12 (r : Nat) (Q : Mem → Prop) : Nat → Int32 → Int32 → Mem → Prop
  | 0, _, _, _ => False
  | n + 1, v1, v2, M => (((M r 1) ≤ v2 → Q M) ∧ (¬ (M r 1) ≤ v2 → (wX4_at (r + 16) v2 M (fun r4 M3 => ((¬ r4 = 0 → wX3_layRings_40 r (wX3_layRings_12 r Q n) Q v1 v2 M3) ∧ (r4 = 0 → (wX3_layRing r v2 v1 M3 (fun r6 M5 => wX3_layRings_40 r (wX3_layRings_12 r Q n) Q (v1 + r6) v2 M5))))))))
def wX3_layRings (r : Nat) (M : Mem) (Q : Mem → Prop) : Prop := (wX4_fill (r + 16) (0 : Int32) M (fun M1 => (∃ n2, wX3_layRings_12 r Q n2 (0 : Int32) (0 : Int32) M1)))
abbrev rmX3_readWithoutFirst : Room := { frames := 4, cells := 0, slots := 0, locals := 90 }
def wX3_readWithoutFirst_46 (r : Nat) (x1 : Nat) (Q : Mem → Prop) : Nat → Int32 → Mem → Prop
  | 0, _, _ => False
  | n + 1, v2, M => (((M r 1) ≤ v2 → Q M) ∧ (¬ (M r 1) ≤ v2 → (wX1_leafAt (r + 1) v2 M (fun r7 M6 => (wX4_put (r + 10) v2 r7 M6 (fun M8 => wX3_readWithoutFirst_46 r x1 Q n (v2 + (1 : Int32)) M8))))))
def wX3_readWithoutFirst_13 (r : Nat) (x1 : Nat) (Q : Mem → Prop) : Nat → Int32 → Mem → Prop
  | 0, _, _ => False
  | n + 1, v2, M => (((M x1 1) ≤ v2 → (∃ n3, wX3_readWithoutFirst_46 r x1 Q n3 (0 : Int32) M)) ∧ (¬ (M x1 1) ≤ v2 → (wX1_readTop (r + 1) (M x1 2) (M x1 3) v2 M (fun r5 M4 => wX3_readWithoutFirst_13 r x1 Q n (v2 + (1 : Int32)) M4))))
def wX3_readWithoutFirst (r : Nat) (x1 : Nat) (M : Mem) (Q : Mem → Prop) : Prop := (wX1_number (r + 1) (M r 1) M (fun M1 => (∃ n2, wX3_readWithoutFirst_13 r x1 Q n2 (1 : Int32) M1)))
abbrev rmX3_follow : Room := { frames := 5, cells := 0, slots := 0, locals := 113 }
def wX3_follow (r : Nat) (x1 : Nat) (M : Mem) (Q : Mem → Prop) : Prop := (wX3_readOneReader r x1 (mu M r 1 (M x1 0)) (fun M1 => (wX3_layRings r M1 (fun M2 => (wX3_readWithoutFirst r x1 M2 (fun M3 => Q M3))))))
abbrev rmJ9_floorMod_f86c9 : Room := { frames := 0, cells := 0, slots := 0, locals := 0 }
def wJ9_floorMod_f86c9_25 (x0 : Int64) (x2 : Int64) (Q : Int64 → Mem → Prop) (v4 : Int64) (M : Mem) : Prop := Q v4 M
def wJ9_floorMod_f86c9 (x0 : Int64) (x2 : Int64) (M : Mem) (Q : Int64 → Mem → Prop) : Prop := (¬ x2 = 0 ∧ ((0 ≤ (lg_cmp (x0 ^^^ x2) (0 : Int64)) → wJ9_floorMod_f86c9_25 x0 x2 Q (x0 - (x0 / x2) * x2) M) ∧ (¬ 0 ≤ (lg_cmp (x0 ^^^ x2) (0 : Int64)) → (((lg_cmp (x0 - (x0 / x2) * x2) (0 : Int64)) = 0 → wJ9_floorMod_f86c9_25 x0 x2 Q (x0 - (x0 / x2) * x2) M) ∧ (¬ (lg_cmp (x0 - (x0 / x2) * x2) (0 : Int64)) = 0 → Q ((x0 - (x0 / x2) * x2) + x2) M)))))
abbrev rmX3_placeInRing : Room := { frames := 1, cells := 0, slots := 0, locals := 25 }
def wX3_placeInRing (r : Nat) (x1 : Int32) (x2 : Int64) (M : Mem) (Q : Int32 → Mem → Prop) : Prop := (wX4_at (r + 16) x1 M (fun r2 M1 => ((0 < r2 → (wX4_at (r + 18) x1 M1 (fun r4 M3 => (wJ9_floorMod_f86c9 (r4.toInt64 + x2) r2.toInt64 M3 (fun r6 M5 => (wX4_at (r + 14) x1 M5 (fun r8 M7 => (wX4_at (r + 12) (r8 + r6.toInt32) M7 (fun r10 M9 => Q r10 M9))))))))) ∧ (¬ 0 < r2 → Q x1 M1))))
abbrev rmX3_placeRead : Room := { frames := 2, cells := 0, slots := 0, locals := 50 }
def wX3_placeRead (r : Nat) (x1 : Int64) (x3 : Int32) (M : Mem) (Q : Int32 → Mem → Prop) : Prop := (wX4_at (r + 6) x3 M (fun r2 M1 => (wX3_placeInRing r r2 x1 M1 (fun r4 M3 => Q r4 M3))))
abbrev rmX3_placeFoundBy : Room := { frames := 2, cells := 0, slots := 0, locals := 50 }
def wX3_placeFoundBy (r : Nat) (x1 : Int64) (x3 : Int32) (M : Mem) (Q : Int32 → Mem → Prop) : Prop := (wX3_placeInRing r x3 (-x1) M (fun r2 M1 => Q r2 M1))
abbrev rmX3_placeAfterFirstReading : Room := { frames := 2, cells := 0, slots := 0, locals := 50 }
def wX3_placeAfterFirstReading (r : Nat) (x1 : Int64) (x3 : Int32) (M : Mem) (Q : Int32 → Mem → Prop) : Prop := (wX4_at (r + 6) x3 M (fun r2 M1 => (wX3_placeInRing r r2 (x1 - (1 : Int64)) M1 (fun r4 M3 => (wX4_at (r + 10) r4 M3 (fun r6 M5 => Q r6 M5))))))
abbrev rmX3_turnAt : Room := { frames := 1, cells := 0, slots := 0, locals := 21 }
def wX3_turnAt (r : Nat) (x1 : Int32) (M : Mem) (Q : Int32 → Mem → Prop) : Prop := (wX4_at (r + 8) x1 M (fun r2 M1 => Q r2 M1))
abbrev rmX3_readInRing : Room := { frames := 2, cells := 0, slots := 0, locals := 42 }
def wX3_readInRing_45 (r : Nat) (x1 : Int32) (k_4 : Int32 → Int32 → Mem → Prop) (Q : Int32 → Mem → Prop) (v2 : Int32) (v3 : Int32) (M : Mem) : Prop := k_4 v2 (v3 + (1 : Int32)) M
def wX3_readInRing_4 (r : Nat) (x1 : Int32) (Q : Int32 → Mem → Prop) : Nat → Int32 → Int32 → Mem → Prop
  | 0, _, _, _ => False
  | n + 1, v2, v3, M => (wX4_at (r + 16) x1 M (fun r3 M2 => ((r3 ≤ v3 → Q v2 M2) ∧ (¬ r3 ≤ v3 → (wX4_at (r + 14) x1 M2 (fun r5 M4 => (wX4_at (r + 12) (r5 + v3) M4 (fun r7 M6 => (wX3_turnAt r r7 M6 (fun r9 M8 => ((r9 = (-4 : Int32) → wX3_readInRing_45 r x1 (wX3_readInRing_4 r x1 Q n) Q v2 v3 M8) ∧ (¬ r9 = (-4 : Int32) → wX3_readInRing_45 r x1 (wX3_readInRing_4 r x1 Q n) Q (v2 + (1 : Int32)) v3 M8))))))))))))
def wX3_readInRing (r : Nat) (x1 : Int32) (M : Mem) (Q : Int32 → Mem → Prop) : Prop := (∃ n1, wX3_readInRing_4 r x1 Q n1 (0 : Int32) (0 : Int32) M)
abbrev rmX3_isNeverRead : Room := { frames := 3, cells := 0, slots := 0, locals := 65 }
def wX3_isNeverRead_13 (r : Nat) (x1 : Int32) (Q : Int32 → Mem → Prop) (s0 : Int32) (M : Mem) : Prop := ((s0 = 0 ∨ s0 = 1) ∧ Q s0 M)
def wX3_isNeverRead (r : Nat) (x1 : Int32) (M : Mem) (Q : Int32 → Mem → Prop) : Prop := (wX3_readInRing r x1 M (fun r2 M1 => ((¬ r2 = 0 → wX3_isNeverRead_13 r x1 Q (0 : Int32) M1) ∧ (r2 = 0 → wX3_isNeverRead_13 r x1 Q (1 : Int32) M1))))
abbrev rmX3_isAlwaysRead : Room := { frames := 3, cells := 0, slots := 0, locals := 65 }
def wX3_isAlwaysRead_21 (r : Nat) (x1 : Int32) (Q : Int32 → Mem → Prop) (s0 : Int32) (M : Mem) : Prop := ((s0 = 0 ∨ s0 = 1) ∧ Q s0 M)
def wX3_isAlwaysRead (r : Nat) (x1 : Int32) (M : Mem) (Q : Int32 → Mem → Prop) : Prop := (wX3_readInRing r x1 M (fun r2 M1 => (wX4_at (r + 16) x1 M1 (fun r4 M3 => ((¬ r2 = r4 → wX3_isAlwaysRead_21 r x1 Q (0 : Int32) M3) ∧ (r2 = r4 → wX3_isAlwaysRead_21 r x1 Q (1 : Int32) M3))))))
abbrev rmX3_commonMultiple : Room := { frames := 0, cells := 0, slots := 0, locals := 0 }
def wX3_commonMultiple_2 (x0 : Int32) (x1 : Int32) (Q : Int32 → Mem → Prop) : Nat → Int32 → Mem → Prop
  | 0, _, _ => False
  | n + 1, v2, M => ((x1 ≤ v2 → Q (x0 * x1) M) ∧ (¬ x1 ≤ v2 → (¬ x1 = 0 ∧ ((¬ ((x0 * v2) - ((x0 * v2) / x1) * x1) = 0 → wX3_commonMultiple_2 x0 x1 Q n (v2 + (1 : Int32)) M) ∧ (((x0 * v2) - ((x0 * v2) / x1) * x1) = 0 → Q (x0 * v2) M)))))
def wX3_commonMultiple (x0 : Int32) (x1 : Int32) (M : Mem) (Q : Int32 → Mem → Prop) : Prop := (∃ n1, wX3_commonMultiple_2 x0 x1 Q n1 (1 : Int32) M)
abbrev rmX3_roundsTogether : Room := { frames := 1, cells := 0, slots := 0, locals := 22 }
def wX3_roundsTogether_4 (r : Nat) (Q : Int32 → Mem → Prop) : Nat → Int32 → Int32 → Mem → Prop
  | 0, _, _, _ => False
  | n + 1, v1, v2, M => (((M r 1) ≤ v2 → Q v1 M) ∧ (¬ (M r 1) ≤ v2 → (wX4_at (r + 16) v2 M (fun r3 M2 => (wX3_commonMultiple v1 r3 M2 (fun r5 M4 => wX3_roundsTogether_4 r Q n r5 (v2 + (1 : Int32)) M4))))))
def wX3_roundsTogether (r : Nat) (M : Mem) (Q : Int32 → Mem → Prop) : Prop := (∃ n1, wX3_roundsTogether_4 r Q n1 (1 : Int32) (0 : Int32) M)
abbrev rmX5_size : Room := { frames := 0, cells := 0, slots := 0, locals := 0 }
def wX5_size (r : Nat) (M : Mem) (Q : Int32 → Mem → Prop) : Prop := Q (M r 1) M
abbrev rmX5_byteAt : Room := { frames := 1, cells := 0, slots := 0, locals := 21 }
def wX5_byteAt_21 (r : Nat) (x1 : Int32) (Q : Int32 → Mem → Prop) (s0 : Int32) (M : Mem) : Prop := Q s0 M
def wX5_byteAt (r : Nat) (x1 : Int32) (M : Mem) (Q : Int32 → Mem → Prop) : Prop := (((M r 1) ≤ x1 → wX5_byteAt_21 r x1 Q (-4 : Int32) M) ∧ (¬ (M r 1) ≤ x1 → (wX4_at (r + 1) x1 M (fun r2 M1 => wX5_byteAt_21 r x1 Q r2 M1))))
abbrev rmX5_append : Room := { frames := 1, cells := 0, slots := 0, locals := 22 }
def wX5_append_5 (r : Nat) (x1 : Int32) (x2 : Int64) (Q : Mem → Prop) : Nat → Int32 → Mem → Prop
  | 0, _, _ => False
  | n + 1, v4, M => ((v4 < 0 → Q M) ∧ (¬ v4 < 0 → (wX4_put (r + 1) (M r 1) (((x2.toUInt64 >>> (((8 : Int32) * v4).toInt64.toUInt64 &&& Int64.toUInt64 63)).toInt64 &&& (255 : Int64)).toInt32) M (fun M2 => wX5_append_5 r x1 x2 Q n (v4 + (-1)) (mu M2 r 1 ((M2 r 1) + (1 : Int32)))))))
def wX5_append (r : Nat) (x1 : Int32) (x2 : Int64) (M : Mem) (Q : Mem → Prop) : Prop := (∃ n1, wX5_append_5 r x1 x2 Q n1 (x1 - (1 : Int32)) M)
abbrev rmX5_clear : Room := { frames := 0, cells := 0, slots := 0, locals := 0 }
def wX5_clear (r : Nat) (M : Mem) (Q : Int32 → Mem → Prop) : Prop := Q (M r 1) (mu M r 1 (0 : Int32))
abbrev rmX7_within : Room := { frames := 0, cells := 0, slots := 0, locals := 0 }
def wX7_within_15 (x0 : Int32) (x1 : Int32) (x2 : Int32) (Q : Int32 → Mem → Prop) (s0 : Int32) (M : Mem) : Prop := ((s0 = 0 ∨ s0 = 1) ∧ Q s0 M)
def wX7_within_14 (x0 : Int32) (x1 : Int32) (x2 : Int32) (Q : Int32 → Mem → Prop) (M : Mem) : Prop := wX7_within_15 x0 x1 x2 Q (0 : Int32) M
def wX7_within (x0 : Int32) (x1 : Int32) (x2 : Int32) (M : Mem) (Q : Int32 → Mem → Prop) : Prop := ((x0 < x1 → wX7_within_14 x0 x1 x2 Q M) ∧ (¬ x0 < x1 → ((x2 < x0 → wX7_within_14 x0 x1 x2 Q M) ∧ (¬ x2 < x0 → wX7_within_15 x0 x1 x2 Q (1 : Int32) M))))
abbrev rmX5_isFigure : Room := { frames := 1, cells := 0, slots := 0, locals := 22 }
def wX5_isFigure (x0 : Int32) (M : Mem) (Q : Int32 → Mem → Prop) : Prop := (wX7_within x0 (48 : Int32) (57 : Int32) M (fun r2 M1 => ((r2 = 0 ∨ r2 = 1) ∧ Q r2 M1)))
abbrev rmX5_figuresFrom : Room := { frames := 2, cells := 0, slots := 0, locals := 42 }
def wX5_figuresFrom_31 (r : Nat) (x1 : Int32) (Q : Int32 → Mem → Prop) (s0 : Int32) (M : Mem) : Prop := Q s0 M
def wX5_figuresFrom (r : Nat) (x1 : Int32) (M : Mem) (Q : Int32 → Mem → Prop) : Prop := (wX5_byteAt r x1 M (fun r2 M1 => (wX5_isFigure r2 M1 (fun r4 M3 => ((¬ r4 = 0 → (wX5_byteAt r (x1 + (1 : Int32)) M3 (fun r6 M5 => (wX5_isFigure r6 M5 (fun r8 M7 => ((r8 = 0 → wX5_figuresFrom_31 r x1 Q (1 : Int32) M7) ∧ (¬ r8 = 0 → wX5_figuresFrom_31 r x1 Q (2 : Int32) M7))))))) ∧ (r4 = 0 → Q (0 : Int32) M3))))))
abbrev rmX5_numberAt : Room := { frames := 2, cells := 0, slots := 0, locals := 42 }
def wX5_numberAt_5 (r : Nat) (x1 : Int32) (x2 : Int32) (Q : Int32 → Mem → Prop) : Nat → Int32 → Int32 → Mem → Prop
  | 0, _, _, _ => False
  | n + 1, v3, v4, M => ((x2 ≤ v4 → Q v3 M) ∧ (¬ x2 ≤ v4 → (wX5_byteAt r (x1 + v4) M (fun r3 M2 => wX5_numberAt_5 r x1 x2 Q n ((((10 : Int32) * v3) + r3) - (48 : Int32)) (v4 + (1 : Int32)) M2))))
def wX5_numberAt (r : Nat) (x1 : Int32) (x2 : Int32) (M : Mem) (Q : Int32 → Mem → Prop) : Prop := (∃ n1, wX5_numberAt_5 r x1 x2 Q n1 (0 : Int32) (0 : Int32) M)
abbrev rmX6_tellNothing : Room := { frames := 0, cells := 0, slots := 0, locals := 0 }
def wX6_tellNothing (r : Nat) (M : Mem) (Q : Mem → Prop) : Prop := Q (mu (mu (mu (mu (mu (mu M r 0 (10 : Int32)) r 1 (9 : Int32)) r 2 (0 : Int32)) r 3 (2 : Int32)) r 6 (0 : Int32)) r 8 (0 : Int32))
abbrev rmX6_numbersWanted : Room := { frames := 0, cells := 0, slots := 0, locals := 0 }
def wX6_numbersWanted (x0 : Int32) (M : Mem) (Q : Int32 → Mem → Prop) : Prop := ((x0 = (108 : Int32) → Q (2 : Int32) M) ∧ (¬ x0 = (108 : Int32) → ((x0 = (109 : Int32) → Q (0 : Int32) M) ∧ (¬ x0 = (109 : Int32) → ((x0 = (110 : Int32) → Q (1 : Int32) M) ∧ (¬ x0 = (110 : Int32) → ((x0 = (111 : Int32) → Q (0 : Int32) M) ∧ (¬ x0 = (111 : Int32) → ((x0 = (112 : Int32) → Q (0 : Int32) M) ∧ (¬ x0 = (112 : Int32) → ((x0 = (113 : Int32) → Q (0 : Int32) M) ∧ (¬ x0 = (113 : Int32) → ((x0 = (114 : Int32) → Q (1 : Int32) M) ∧ (¬ x0 = (114 : Int32) → ((x0 = (115 : Int32) → Q (2 : Int32) M) ∧ (¬ x0 = (115 : Int32) → ((x0 = (116 : Int32) → Q (1 : Int32) M) ∧ (¬ x0 = (116 : Int32) → Q (0 : Int32) M))))))))))))))))))
abbrev rmX6_takeLeafCount : Room := { frames := 1, cells := 0, slots := 0, locals := 22 }
def wX6_takeLeafCount (r : Nat) (x1 : Int32) (M : Mem) (Q : Int32 → Mem → Prop) : Prop := (wX7_within x1 (2 : Int32) (40 : Int32) (mu M r 0 x1) (fun r2 M1 => ((r2 = 0 ∨ r2 = 1) ∧ Q r2 M1)))
abbrev rmX6_takePerReader : Room := { frames := 1, cells := 0, slots := 0, locals := 22 }
def wX6_takePerReader (r : Nat) (x1 : Int32) (M : Mem) (Q : Int32 → Mem → Prop) : Prop := (wX7_within x1 (1 : Int32) (40 : Int32) (mu M r 1 x1) (fun r2 M1 => ((r2 = 0 ∨ r2 = 1) ∧ Q r2 M1)))
abbrev rmX6_takeLaw : Room := { frames := 1, cells := 0, slots := 0, locals := 22 }
def wX6_takeLaw_34 (r : Nat) (x1 : Int32) (x2 : Int32) (Q : Int32 → Mem → Prop) (s0 : Int32) (M : Mem) : Prop := ((s0 = 0 ∨ s0 = 1) ∧ Q s0 M)
def wX6_takeLaw_33 (r : Nat) (x1 : Int32) (x2 : Int32) (Q : Int32 → Mem → Prop) (M : Mem) : Prop := wX6_takeLaw_34 r x1 x2 Q (0 : Int32) M
def wX6_takeLaw (r : Nat) (x1 : Int32) (x2 : Int32) (M : Mem) (Q : Int32 → Mem → Prop) : Prop := (wX7_within x1 (0 : Int32) (3 : Int32) (mu (mu M r 2 x1) r 3 x2) (fun r2 M1 => ((r2 = 0 → wX6_takeLaw_33 r x1 x2 Q M1) ∧ (¬ r2 = 0 → (wX7_within x2 (0 : Int32) (39 : Int32) M1 (fun r4 M3 => ((r4 = 0 → wX6_takeLaw_33 r x1 x2 Q M3) ∧ (¬ r4 = 0 → wX6_takeLaw_34 r x1 x2 Q (1 : Int32) M3))))))))
abbrev rmX6_takeSwap : Room := { frames := 1, cells := 0, slots := 0, locals := 22 }
def wX6_takeSwap_70 (r : Nat) (x1 : Int32) (x2 : Int32) (Q : Int32 → Mem → Prop) (s0 : Int32) (M : Mem) : Prop := ((s0 = 0 ∨ s0 = 1) ∧ Q s0 M)
def wX6_takeSwap_69 (r : Nat) (x1 : Int32) (x2 : Int32) (Q : Int32 → Mem → Prop) (M : Mem) : Prop := wX6_takeSwap_70 r x1 x2 Q (0 : Int32) M
def wX6_takeSwap (r : Nat) (x1 : Int32) (x2 : Int32) (M : Mem) (Q : Int32 → Mem → Prop) : Prop := (((M r 6) < (20 : Int32) → (wX4_put (r + 1) (M r 6) x1 M (fun M1 => (wX4_put (r + 3) (M1 r 6) x2 M1 (fun M2 => (wX7_within x1 (0 : Int32) (39 : Int32) (mu M2 r 6 ((M2 r 6) + (1 : Int32))) (fun r4 M3 => ((r4 = 0 → wX6_takeSwap_69 r x1 x2 Q M3) ∧ (¬ r4 = 0 → (wX7_within x2 (0 : Int32) (39 : Int32) M3 (fun r6 M5 => ((r6 = 0 → wX6_takeSwap_69 r x1 x2 Q M5) ∧ (¬ r6 = 0 → wX6_takeSwap_70 r x1 x2 Q (1 : Int32) M5))))))))))))) ∧ (¬ (M r 6) < (20 : Int32) → (((0 : Int32) = 0 ∨ (0 : Int32) = 1) ∧ Q (0 : Int32) M)))
abbrev rmX6_takeTaleLeaf : Room := { frames := 1, cells := 0, slots := 0, locals := 22 }
def wX6_takeTaleLeaf (r : Nat) (x1 : Int32) (M : Mem) (Q : Int32 → Mem → Prop) : Prop := (((M r 8) < (20 : Int32) → (wX4_put (r + 5) (M r 8) x1 M (fun M1 => (wX7_within x1 (0 : Int32) (39 : Int32) (mu M1 r 8 ((M1 r 8) + (1 : Int32))) (fun r3 M2 => ((r3 = 0 ∨ r3 = 1) ∧ Q r3 M2)))))) ∧ (¬ (M r 8) < (20 : Int32) → (((0 : Int32) = 0 ∨ (0 : Int32) = 1) ∧ Q (0 : Int32) M)))
abbrev rmX6_takeIn : Room := { frames := 2, cells := 0, slots := 0, locals := 44 }
def wX6_takeIn (r : Nat) (x1 : Int32) (x2 : Int32) (x3 : Int32) (M : Mem) (Q : Int32 → Mem → Prop) : Prop := ((x1 = (108 : Int32) → (wX6_takeLaw r x2 x3 M (fun r2 M1 => ((r2 = 0 ∨ r2 = 1) ∧ Q r2 M1)))) ∧ (¬ x1 = (108 : Int32) → ((x1 = (109 : Int32) → (((0 : Int32) = 0 ∨ (0 : Int32) = 1) ∧ Q (0 : Int32) M)) ∧ (¬ x1 = (109 : Int32) → ((x1 = (110 : Int32) → (wX6_takeLeafCount r x2 M (fun r4 M3 => ((r4 = 0 ∨ r4 = 1) ∧ Q r4 M3)))) ∧ (¬ x1 = (110 : Int32) → ((x1 = (111 : Int32) → (((0 : Int32) = 0 ∨ (0 : Int32) = 1) ∧ Q (0 : Int32) M)) ∧ (¬ x1 = (111 : Int32) → ((x1 = (112 : Int32) → (((0 : Int32) = 0 ∨ (0 : Int32) = 1) ∧ Q (0 : Int32) M)) ∧ (¬ x1 = (112 : Int32) → ((x1 = (113 : Int32) → (((0 : Int32) = 0 ∨ (0 : Int32) = 1) ∧ Q (0 : Int32) M)) ∧ (¬ x1 = (113 : Int32) → ((x1 = (114 : Int32) → (wX6_takePerReader r x2 M (fun r6 M5 => ((r6 = 0 ∨ r6 = 1) ∧ Q r6 M5)))) ∧ (¬ x1 = (114 : Int32) → ((x1 = (115 : Int32) → (wX6_takeSwap r x2 x3 M (fun r8 M7 => ((r8 = 0 ∨ r8 = 1) ∧ Q r8 M7)))) ∧ (¬ x1 = (115 : Int32) → ((x1 = (116 : Int32) → (wX6_takeTaleLeaf r x2 M (fun r10 M9 => ((r10 = 0 ∨ r10 = 1) ∧ Q r10 M9)))) ∧ (¬ x1 = (116 : Int32) → (((0 : Int32) = 0 ∨ (0 : Int32) = 1) ∧ Q (0 : Int32) M)))))))))))))))))))
abbrev rmX6_scanItem : Room := { frames := 3, cells := 0, slots := 0, locals := 67 }
def wX6_scanItem_89 (r : Nat) (x1 : Nat) (x2 : Int32) (k_20 : Int32 → Int32 → Int32 → Int32 → Mem → Prop) (Q : Int32 → Mem → Prop) (v3 : Int32) (v4 : Int32) (v5 : Int32) (v6 : Int32) (s0 : Int32) (s1 : Int32) (M : Mem) : Prop := ((s1 = s0 → k_20 v3 v4 (v5 + (1 : Int32)) (v6 + (1 : Int32)) M) ∧ (¬ s1 = s0 → Q (-4 : Int32) M))
def wX6_scanItem_135 (r : Nat) (x1 : Nat) (x2 : Int32) (Q : Int32 → Mem → Prop) (s0 : Int32) (M : Mem) : Prop := Q s0 M
def wX6_scanItem_20 (r : Nat) (x1 : Nat) (x2 : Int32) (Q : Int32 → Mem → Prop) : Nat → Int32 → Int32 → Int32 → Int32 → Mem → Prop
  | 0, _, _, _, _, _ => False
  | n + 1, v3, v4, v5, v6, M => ((v4 ≤ v6 → (wX4_at (r + 7) (0 : Int32) M (fun r7 M6 => (wX4_at (r + 7) (1 : Int32) M6 (fun r9 M8 => (wX6_takeIn r v3 r7 r9 M8 (fun r11 M10 => ((r11 = 0 → wX6_scanItem_135 r x1 x2 Q (-4 : Int32) M10) ∧ (¬ r11 = 0 → wX6_scanItem_135 r x1 x2 Q v5 M10))))))))) ∧ (¬ v4 ≤ v6 → (wX5_figuresFrom x1 v5 M (fun r13 M12 => ((¬ r13 = 0 → (wX5_numberAt x1 v5 r13 M12 (fun r15 M14 => (wX4_put (r + 7) v6 r15 M14 (fun M16 => (wX5_byteAt x1 (v5 + r13) M16 (fun r18 M17 => ((v4 ≤ (v6 + (1 : Int32)) → wX6_scanItem_89 r x1 x2 (wX6_scanItem_20 r x1 x2 Q n) Q v3 v4 (v5 + r13) v6 (59 : Int32) r18 M17) ∧ (¬ v4 ≤ (v6 + (1 : Int32)) → wX6_scanItem_89 r x1 x2 (wX6_scanItem_20 r x1 x2 Q n) Q v3 v4 (v5 + r13) v6 (44 : Int32) r18 M17))))))))) ∧ (r13 = 0 → Q (-4 : Int32) M12))))))
def wX6_scanItem (r : Nat) (x1 : Nat) (x2 : Int32) (M : Mem) (Q : Int32 → Mem → Prop) : Prop := (wX5_byteAt x1 x2 M (fun r2 M1 => (wX6_numbersWanted r2 M1 (fun r4 M3 => (∃ n5, wX6_scanItem_20 r x1 x2 Q n5 r2 r4 (x2 + (1 : Int32)) (0 : Int32) M3)))))
abbrev rmX6_scan : Room := { frames := 4, cells := 0, slots := 0, locals := 94 }
def wX6_scan_6 (r : Nat) (x1 : Nat) (Q : Int32 → Mem → Prop) : Nat → Int32 → Mem → Prop
  | 0, _, _ => False
  | n + 1, v2, M => (wX5_size x1 M (fun r4 M3 => ((r4 ≤ v2 → Q (-4 : Int32) M3) ∧ (¬ r4 ≤ v2 → (wX6_scanItem r x1 v2 M3 (fun r6 M5 => ((v2 < r6 → wX6_scan_6 r x1 Q n r6 M5) ∧ (¬ v2 < r6 → Q v2 M5))))))))
def wX6_scan (r : Nat) (x1 : Nat) (M : Mem) (Q : Int32 → Mem → Prop) : Prop := (wX6_tellNothing r M (fun M1 => (∃ n2, wX6_scan_6 r x1 Q n2 (0 : Int32) M1)))
abbrev rmX6_fitsItsLeaves : Room := { frames := 1, cells := 0, slots := 0, locals := 21 }
def wX6_fitsItsLeaves_40 (r : Nat) (Q : Int32 → Mem → Prop) (M : Mem) : Prop := (((0 : Int32) = 0 ∨ (0 : Int32) = 1) ∧ Q (0 : Int32) M)
def wX6_fitsItsLeaves_50 (r : Nat) (Q : Int32 → Mem → Prop) : Nat → Int32 → Mem → Prop
  | 0, _, _ => False
  | n + 1, v1, M => (((M r 8) ≤ v1 → (((1 : Int32) = 0 ∨ (1 : Int32) = 1) ∧ Q (1 : Int32) M)) ∧ (¬ (M r 8) ≤ v1 → (wX4_at (r + 5) v1 M (fun r8 M7 => ((r8 < (M7 r 0) → wX6_fitsItsLeaves_50 r Q n (v1 + (1 : Int32)) M7) ∧ (¬ r8 < (M7 r 0) → (((0 : Int32) = 0 ∨ (0 : Int32) = 1) ∧ Q (0 : Int32) M7)))))))
def wX6_fitsItsLeaves_2 (r : Nat) (Q : Int32 → Mem → Prop) : Nat → Int32 → Mem → Prop
  | 0, _, _ => False
  | n + 1, v1, M => (((M r 6) ≤ v1 → (∃ n2, wX6_fitsItsLeaves_50 r Q n2 (0 : Int32) M)) ∧ (¬ (M r 6) ≤ v1 → (wX4_at (r + 1) v1 M (fun r4 M3 => (((M3 r 0) ≤ r4 → wX6_fitsItsLeaves_40 r Q M3) ∧ (¬ (M3 r 0) ≤ r4 → (wX4_at (r + 3) v1 M3 (fun r6 M5 => ((r6 < (M5 r 0) → wX6_fitsItsLeaves_2 r Q n (v1 + (1 : Int32)) M5) ∧ (¬ r6 < (M5 r 0) → wX6_fitsItsLeaves_40 r Q M5))))))))))
def wX6_fitsItsLeaves (r : Nat) (M : Mem) (Q : Int32 → Mem → Prop) : Prop := (∃ n1, wX6_fitsItsLeaves_2 r Q n1 (0 : Int32) M)
abbrev rmX6_orderFirst : Room := { frames := 2, cells := 0, slots := 0, locals := 45 }
def wX6_orderFirst_10 (r : Nat) (x1 : Nat) (Q : Mem → Prop) : Nat → Int32 → Mem → Prop
  | 0, _, _ => False
  | n + 1, v2, M => (((M r 6) ≤ v2 → Q M) ∧ (¬ (M r 6) ≤ v2 → (wX4_at (r + 1) v2 M (fun r4 M3 => (wX4_at (r + 3) v2 M3 (fun r6 M5 => (wX1_swap x1 r4 r6 M5 (fun M7 => wX6_orderFirst_10 r x1 Q n (v2 + (1 : Int32)) M7))))))))
def wX6_orderFirst (r : Nat) (x1 : Nat) (M : Mem) (Q : Mem → Prop) : Prop := (wX1_number x1 (M r 0) M (fun M1 => (∃ n2, wX6_orderFirst_10 r x1 Q n2 (0 : Int32) M1)))
abbrev rmX6_toldTurns : Room := { frames := 1, cells := 0, slots := 0, locals := 21 }
def wX6_toldTurns (r : Nat) (M : Mem) (Q : Int32 → Mem → Prop) : Prop := Q (if (M r 8) < (M r 1) then (M r 8) else (M r 1)) M
abbrev rmX6_taleLeaf : Room := { frames := 1, cells := 0, slots := 0, locals := 21 }
def wX6_taleLeaf (r : Nat) (x1 : Int32) (M : Mem) (Q : Int32 → Mem → Prop) : Prop := (wX4_at (r + 5) x1 M (fun r2 M1 => Q r2 M1))
abbrev rmX7_write : Room := { frames := 2, cells := 0, slots := 0, locals := 46 }
def wX7_write (x1 : Int32) (x2 : Int64) (M : Mem) (Q : Int32 → Mem → Prop) : Prop := (wX7_within x1 (1 : Int32) (8 : Int32) M (fun r2 M1 => ((¬ r2 = 0 → (wX5_size 1 M1 (fun r4 M3 => (((r4 + x1) ≤ (300 : Int32) → (wX5_append 1 x1 x2 M3 (fun M5 => (wX5_size 1 M5 (fun r7 M6 => Q r7 M6))))) ∧ (¬ (r4 + x1) ≤ (300 : Int32) → Q (-3 : Int32) M3))))) ∧ (r2 = 0 → Q (-1 : Int32) M1))))
abbrev rmX7_wipe : Room := { frames := 1, cells := 0, slots := 0, locals := 21 }
def wX7_wipe (M : Mem) (Q : Int32 → Mem → Prop) : Prop := (wX5_clear 1 M (fun r2 M1 => Q r2 M1))
abbrev rmX7_fault : Room := { frames := 5, cells := 0, slots := 0, locals := 117 }
def wX7_fault (M : Mem) (Q : Int32 → Mem → Prop) : Prop := (kd (rid (M 0 1)) = 6 ∧ (wX6_scan (rid (M 0 1)) 1 M (fun r3 M2 => Q r3 M2)))
abbrev rmX7_startAnew : Room := { frames := 6, cells := 0, slots := 0, locals := 134 }
def wX7_startAnew (M : Mem) (Q : Mem → Prop) : Prop := (kd (rid (M 0 2)) = 6 ∧ (wX6_orderFirst (rid (M 0 2)) 22 M (fun M2 => (kd (rid (M2 0 2)) = 6 ∧ (wX3_follow 32 (rid (M2 0 2)) M2 (fun M4 => (wX2_startWith 61 22 M4 (fun M5 => Q (mu (mu M5 0 9 (0 : Int32)) 0 13 (0 : Int32))))))))))
abbrev rmX7_lay : Room := { frames := 7, cells := 0, slots := 0, locals := 154 }
def wX7_lay_26 (Q : Int32 → Mem → Prop) (M : Mem) : Prop := Q (-2 : Int32) M
def wX7_lay (M : Mem) (Q : Int32 → Mem → Prop) : Prop := (kd (rid (M 0 1)) = 6 ∧ (wX6_scan (rid (M 0 1)) 1 M (fun r3 M2 => ((¬ r3 = (-4 : Int32) → wX7_lay_26 Q M2) ∧ (r3 = (-4 : Int32) → (kd (rid (M2 0 1)) = 6 ∧ (wX6_fitsItsLeaves (rid (M2 0 1)) M2 (fun r6 M5 => ((¬ r6 = 0 → (kd (rid (M5 0 2)) = 6 ∧ (kd (rid (M5 0 1)) = 6 ∧ (rid (Int32.ofNat (rid (M5 0 1))) = (rid (M5 0 1)) ∧ (rid (Int32.ofNat (rid (M5 0 2))) = (rid (M5 0 2)) ∧ (wX7_startAnew (mu (mu M5 0 2 (Int32.ofNat (rid (M5 0 1)))) 0 1 (Int32.ofNat (rid (M5 0 2)))) (fun M9 => (kd (rid (M9 0 2)) = 6 ∧ Q (M9 (rid (M9 0 2)) 0) M9)))))))) ∧ (r6 = 0 → wX7_lay_26 Q M5))))))))))
abbrev rmX7_isBelowCount : Room := { frames := 1, cells := 0, slots := 0, locals := 22 }
def wX7_isBelowCount (x1 : Int32) (M : Mem) (Q : Int32 → Mem → Prop) : Prop := (kd (rid (M 0 2)) = 6 ∧ (wX7_within x1 (0 : Int32) ((M (rid (M 0 2)) 0) - (1 : Int32)) M (fun r3 M2 => ((r3 = 0 ∨ r3 = 1) ∧ Q r3 M2))))
abbrev rmX7_leaf : Room := { frames := 2, cells := 0, slots := 0, locals := 43 }
def wX7_leaf_17 (x1 : Int32) (x2 : Int32) (Q : Int32 → Mem → Prop) (M : Mem) : Prop := Q (-1 : Int32) M
def wX7_leaf_45 (x1 : Int32) (x2 : Int32) (Q : Int32 → Mem → Prop) (s0 : Int32) (M : Mem) : Prop := Q s0 M
def wX7_leaf (x1 : Int32) (x2 : Int32) (M : Mem) (Q : Int32 → Mem → Prop) : Prop := (wX7_isBelowCount x1 M (fun r2 M1 => ((r2 = 0 → wX7_leaf_17 x1 x2 Q M1) ∧ (¬ r2 = 0 → (wX7_within x2 (0 : Int32) (1 : Int32) M1 (fun r4 M3 => ((¬ r4 = 0 → ((¬ x2 = 0 → (wX1_leafAt 22 x1 M3 (fun r6 M5 => wX7_leaf_45 x1 x2 Q r6 M5))) ∧ (x2 = 0 → (wX1_leafAt 62 x1 M3 (fun r8 M7 => wX7_leaf_45 x1 x2 Q r8 M7))))) ∧ (r4 = 0 → wX7_leaf_17 x1 x2 Q M3))))))))
abbrev rmX7_where : Room := { frames := 2, cells := 0, slots := 0, locals := 43 }
def wX7_where_23 (x1 : Int32) (Q : Int32 → Mem → Prop) (s0 : Int32) (M : Mem) : Prop := Q s0 M
def wX7_where (x1 : Int32) (M : Mem) (Q : Int32 → Mem → Prop) : Prop := (wX7_isBelowCount x1 M (fun r2 M1 => ((r2 = 0 → wX7_where_23 x1 Q (-1 : Int32) M1) ∧ (¬ r2 = 0 → (wX1_placeOf 62 x1 M1 (fun r4 M3 => wX7_where_23 x1 Q r4 M3))))))
abbrev rmX7_read : Room := { frames := 5, cells := 0, slots := 0, locals := 112 }
def wX7_read (M : Mem) (Q : Int32 → Mem → Prop) : Prop := (kd (rid (M 0 2)) = 6 ∧ (wX2_readOne 61 (rid (M 0 2)) M (fun r3 M2 => Q r3 M2)))
abbrev rmX7_finish : Room := { frames := 5, cells := 0, slots := 0, locals := 112 }
def wX7_finish_18 (Q : Int32 → Mem → Prop) : Nat → Int32 → Int32 → Mem → Prop
  | 0, _, _, _ => False
  | n + 1, v1, v2, M => ((v1 ≤ v2 → Q v1 M) ∧ (¬ v1 ≤ v2 → (kd (rid (M 0 2)) = 6 ∧ (wX2_readOne 61 (rid (M 0 2)) M (fun r5 M4 => wX7_finish_18 Q n v1 (v2 + (1 : Int32)) M4)))))
def wX7_finish (M : Mem) (Q : Int32 → Mem → Prop) : Prop := (kd (rid (M 0 2)) = 6 ∧ (∃ n2, wX7_finish_18 Q n2 ((M (rid (M 0 2)) 1) - (M 61 1)) (0 : Int32) M))
abbrev rmX7_change : Room := { frames := 2, cells := 0, slots := 0, locals := 45 }
def wX7_change_16 (x1 : Int32) (x2 : Int32) (Q : Int32 → Mem → Prop) (M : Mem) : Prop := Q (-1 : Int32) M
def wX7_change (x1 : Int32) (x2 : Int32) (M : Mem) (Q : Int32 → Mem → Prop) : Prop := (wX7_isBelowCount x1 M (fun r2 M1 => ((r2 = 0 → wX7_change_16 x1 x2 Q M1) ∧ (¬ r2 = 0 → (wX7_isBelowCount x2 M1 (fun r4 M3 => ((¬ r4 = 0 → (wX1_swap 62 x1 x2 M3 (fun M5 => (wX1_leafAt 62 x1 M5 (fun r7 M6 => Q r7 M6))))) ∧ (r4 = 0 → wX7_change_16 x1 x2 Q M3))))))))
abbrev rmX7_drop : Room := { frames := 3, cells := 0, slots := 0, locals := 69 }
def wX7_drop (x1 : Int32) (M : Mem) (Q : Int32 → Mem → Prop) : Prop := (wX7_within x1 (0 : Int32) (9999 : Int32) M (fun r2 M1 => ((¬ r2 = 0 → (wX2_fall 61 x1 M1 (fun M3 => (wX1_leafAt 62 (0 : Int32) M3 (fun r5 M4 => Q r5 M4))))) ∧ (r2 = 0 → Q (-1 : Int32) M1))))
abbrev rmX7_isReader : Room := { frames := 0, cells := 0, slots := 0, locals := 0 }
def wX7_isReader_19 (x0 : Int64) (Q : Int32 → Mem → Prop) (s0 : Int32) (M : Mem) : Prop := ((s0 = 0 ∨ s0 = 1) ∧ Q s0 M)
def wX7_isReader_18 (x0 : Int64) (Q : Int32 → Mem → Prop) (M : Mem) : Prop := wX7_isReader_19 x0 Q (0 : Int32) M
def wX7_isReader (x0 : Int64) (M : Mem) (Q : Int32 → Mem → Prop) : Prop := (((lg_cmp x0 (0 : Int64)) < 0 → wX7_isReader_18 x0 Q M) ∧ (¬ (lg_cmp x0 (0 : Int64)) < 0 → ((0 < (lg_cmp x0 (1000000000000 : Int64)) → wX7_isReader_18 x0 Q M) ∧ (¬ 0 < (lg_cmp x0 (1000000000000 : Int64)) → wX7_isReader_19 x0 Q (1 : Int32) M))))
abbrev rmX7_isTurn : Room := { frames := 1, cells := 0, slots := 0, locals := 22 }
def wX7_isTurn (x1 : Int32) (M : Mem) (Q : Int32 → Mem → Prop) : Prop := (kd (rid (M 0 2)) = 6 ∧ (wX7_within x1 (0 : Int32) ((M (rid (M 0 2)) 1) - (1 : Int32)) M (fun r3 M2 => ((r3 = 0 ∨ r3 = 1) ∧ Q r3 M2))))
abbrev rmX7_leafHad : Room := { frames := 3, cells := 0, slots := 0, locals := 73 }
def wX7_leafHad (x1 : Int64) (x3 : Int32) (M : Mem) (Q : Int32 → Mem → Prop) : Prop := (wX3_placeRead 32 x1 x3 M (fun r2 M1 => (wX1_leafAt 22 r2 M1 (fun r4 M3 => Q r4 M3))))
abbrev rmX7_has : Room := { frames := 4, cells := 0, slots := 0, locals := 96 }
def wX7_has_15 (x1 : Int64) (x3 : Int32) (Q : Int32 → Mem → Prop) (M : Mem) : Prop := Q (-1 : Int32) M
def wX7_has (x1 : Int64) (x3 : Int32) (M : Mem) (Q : Int32 → Mem → Prop) : Prop := (wX7_isReader x1 M (fun r2 M1 => ((r2 = 0 → wX7_has_15 x1 x3 Q M1) ∧ (¬ r2 = 0 → (wX7_isTurn x3 M1 (fun r4 M3 => ((¬ r4 = 0 → (wX7_leafHad x1 x3 M3 (fun r6 M5 => Q r6 M5))) ∧ (r4 = 0 → wX7_has_15 x1 x3 Q M3))))))))
abbrev rmX7_bit : Room := { frames := 0, cells := 0, slots := 0, locals := 0 }
def wX7_bit (x0 : Int32) (M : Mem) (Q : Int64 → Mem → Prop) : Prop := Q ((1 : Int64) <<< (x0.toInt64 &&& 63)) M
abbrev rmX7_leavesHad : Room := { frames := 4, cells := 0, slots := 0, locals := 96 }
def wX7_leavesHad_5 (x1 : Int64) (Q : Int64 → Mem → Prop) : Nat → Int64 → Int32 → Mem → Prop
  | 0, _, _, _ => False
  | n + 1, v3, v5, M => (kd (rid (M 0 2)) = 6 ∧ (((M (rid (M 0 2)) 1) ≤ v5 → Q v3 M) ∧ (¬ (M (rid (M 0 2)) 1) ≤ v5 → (wX7_leafHad x1 v5 M (fun r4 M3 => (wX7_bit r4 M3 (fun r6 M5 => wX7_leavesHad_5 x1 Q n (v3 ||| r6) (v5 + (1 : Int32)) M5)))))))
def wX7_leavesHad (x1 : Int64) (M : Mem) (Q : Int64 → Mem → Prop) : Prop := (∃ n1, wX7_leavesHad_5 x1 Q n1 (0 : Int64) (0 : Int32) M)
abbrev rmX7_leaves : Room := { frames := 5, cells := 0, slots := 0, locals := 121 }
def wX7_leaves_18 (x1 : Int64) (Q : Int64 → Mem → Prop) (s0 : Int64) (M : Mem) : Prop := Q s0 M
def wX7_leaves (x1 : Int64) (M : Mem) (Q : Int64 → Mem → Prop) : Prop := (wX7_isReader x1 M (fun r2 M1 => ((r2 = 0 → wX7_leaves_18 x1 Q (-1 : Int64) M1) ∧ (¬ r2 = 0 → (wX7_leavesHad x1 M1 (fun r4 M3 => wX7_leaves_18 x1 Q r4 M3))))))
abbrev rmX7_period : Room := { frames := 2, cells := 0, slots := 0, locals := 44 }
def wX7_period (M : Mem) (Q : Int32 → Mem → Prop) : Prop := (wX3_roundsTogether 32 M (fun r2 M1 => Q r2 M1))
abbrev rmX7_ever : Room := { frames := 4, cells := 0, slots := 0, locals := 86 }
def wX7_ever_77 (x1 : Int32) (k_18 : Int64 → Int32 → Mem → Prop) (Q : Int64 → Mem → Prop) (v2 : Int64) (v4 : Int32) (M : Mem) : Prop := k_18 v2 (v4 + (1 : Int32)) M
def wX7_ever_55 (x1 : Int32) (k_18 : Int64 → Int32 → Mem → Prop) (Q : Int64 → Mem → Prop) (v2 : Int64) (v4 : Int32) (s0 : Int32) (M : Mem) : Prop := ((s0 = 0 → wX7_ever_77 x1 (k_18) Q v2 v4 M) ∧ (¬ s0 = 0 → (wX1_leafAt 22 v4 M (fun r10 M9 => (wX7_bit r10 M9 (fun r12 M11 => wX7_ever_77 x1 (k_18) Q (v2 ||| r12) v4 M11))))))
def wX7_ever_18 (x1 : Int32) (Q : Int64 → Mem → Prop) : Nat → Int64 → Int32 → Mem → Prop
  | 0, _, _, _ => False
  | n + 1, v2, v4, M => (kd (rid (M 0 2)) = 6 ∧ (((M (rid (M 0 2)) 0) ≤ v4 → Q v2 M) ∧ (¬ (M (rid (M 0 2)) 0) ≤ v4 → ((¬ x1 = 0 → (wX3_isAlwaysRead 32 v4 M (fun r6 M5 => wX7_ever_55 x1 (wX7_ever_18 x1 Q n) Q v2 v4 r6 M5))) ∧ (x1 = 0 → (wX3_isNeverRead 32 v4 M (fun r8 M7 => wX7_ever_55 x1 (wX7_ever_18 x1 Q n) Q v2 v4 r8 M7)))))))
def wX7_ever (x1 : Int32) (M : Mem) (Q : Int64 → Mem → Prop) : Prop := (wX7_within x1 (0 : Int32) (1 : Int32) M (fun r2 M1 => ((¬ r2 = 0 → (∃ n3, wX7_ever_18 x1 Q n3 (0 : Int64) (0 : Int32) M1)) ∧ (r2 = 0 → Q (-1 : Int64) M1))))
abbrev rmX7_right : Room := { frames := 4, cells := 0, slots := 0, locals := 96 }
def wX7_right_48 (x1 : Int64) (k_14 : Int32 → Int32 → Mem → Prop) (Q : Int32 → Mem → Prop) (v3 : Int32) (v4 : Int32) (M : Mem) : Prop := k_14 v3 (v4 + (1 : Int32)) M
def wX7_right_14 (x1 : Int64) (Q : Int32 → Mem → Prop) : Nat → Int32 → Int32 → Mem → Prop
  | 0, _, _, _ => False
  | n + 1, v3, v4, M => (kd (rid (M 0 2)) = 6 ∧ (wX6_toldTurns (rid (M 0 2)) M (fun r6 M5 => ((r6 ≤ v4 → Q v3 M5) ∧ (¬ r6 ≤ v4 → (wX7_leafHad x1 v4 M5 (fun r8 M7 => (kd (rid (M7 0 2)) = 6 ∧ (wX6_taleLeaf (rid (M7 0 2)) v4 M7 (fun r11 M10 => ((¬ r8 = r11 → wX7_right_48 x1 (wX7_right_14 x1 Q n) Q v3 v4 M10) ∧ (r8 = r11 → wX7_right_48 x1 (wX7_right_14 x1 Q n) Q (v3 + (1 : Int32)) v4 M10))))))))))))
def wX7_right (x1 : Int64) (M : Mem) (Q : Int32 → Mem → Prop) : Prop := (wX7_isReader x1 M (fun r2 M1 => ((¬ r2 = 0 → (∃ n3, wX7_right_14 x1 Q n3 (0 : Int32) (0 : Int32) M1)) ∧ (r2 = 0 → Q (-1 : Int32) M1))))
abbrev rmX7_order : Room := { frames := 3, cells := 0, slots := 0, locals := 73 }
def wX7_order_15 (x1 : Int64) (x3 : Int32) (Q : Int32 → Mem → Prop) (M : Mem) : Prop := Q (-1 : Int32) M
def wX7_order_34 (x1 : Int64) (x3 : Int32) (Q : Int32 → Mem → Prop) : Nat → Int32 → Mem → Prop
  | 0, _, _ => False
  | n + 1, v4, M => (kd (rid (M 0 2)) = 6 ∧ (wX6_toldTurns (rid (M 0 2)) M (fun r10 M9 => ((r10 ≤ v4 → (wX0_holds 52 M9 (fun r12 M11 => ((¬ r12 = 0 → (wX0_fillUp 52 M11 (fun M13 => (wX0_leafAt 52 x3 M13 (fun r15 M14 => Q r15 M14))))) ∧ (r12 = 0 → Q (-4 : Int32) M11))))) ∧ (¬ r10 ≤ v4 → (wX3_placeRead 32 x1 v4 M9 (fun r17 M16 => (kd (rid (M16 0 2)) = 6 ∧ (wX6_taleLeaf (rid (M16 0 2)) v4 M16 (fun r20 M19 => (wX0_bind 52 r17 r20 M19 (fun M21 => wX7_order_34 x1 x3 Q n (v4 + (1 : Int32)) M21))))))))))))
def wX7_order (x1 : Int64) (x3 : Int32) (M : Mem) (Q : Int32 → Mem → Prop) : Prop := (wX7_isReader x1 M (fun r2 M1 => ((r2 = 0 → wX7_order_15 x1 x3 Q M1) ∧ (¬ r2 = 0 → (wX7_isBelowCount x3 M1 (fun r4 M3 => ((¬ r4 = 0 → (kd (rid (M3 0 2)) = 6 ∧ (wX0_begin 52 (M3 (rid (M3 0 2)) 0) M3 (fun M6 => (∃ n7, wX7_order_34 x1 x3 Q n7 (0 : Int32) M6))))) ∧ (r4 = 0 → wX7_order_15 x1 x3 Q M3))))))))
abbrev rmX7_readingsToShowAll : Room := { frames := 4, cells := 0, slots := 0, locals := 90 }
def wX7_readingsToShowAll_30 (x1 : Int32) (x2 : Int32) (Q : Int32 → Mem → Prop) : Nat → Int64 → Int32 → Mem → Prop
  | 0, _, _, _ => False
  | n + 1, v3, v5, M => (kd (rid (M 0 2)) = 6 ∧ ((((2 : Int32) * (M (rid (M 0 2)) 0)) ≤ v5 → Q (-4 : Int32) M) ∧ (¬ ((2 : Int32) * (M (rid (M 0 2)) 0)) ≤ v5 → (wX1_readTop 27 x1 x2 v5 M (fun r9 M8 => (wX7_bit r9 M8 (fun r11 M10 => ((¬ (lg_cmp (v3 &&& (r11 ^^^ (-1 : Int64))) (0 : Int64)) = 0 → wX7_readingsToShowAll_30 x1 x2 Q n (v3 &&& (r11 ^^^ (-1 : Int64))) (v5 + (1 : Int32)) M10) ∧ ((lg_cmp (v3 &&& (r11 ^^^ (-1 : Int64))) (0 : Int64)) = 0 → Q (v5 + (1 : Int32)) M10)))))))))
def wX7_readingsToShowAll (x1 : Int32) (x2 : Int32) (M : Mem) (Q : Int32 → Mem → Prop) : Prop := (kd (rid (M 0 2)) = 6 ∧ (wX7_bit (M (rid (M 0 2)) 0) M (fun r3 M2 => (kd (rid (M2 0 2)) = 6 ∧ (wX1_number 27 (M2 (rid (M2 0 2)) 0) M2 (fun M5 => (∃ n6, wX7_readingsToShowAll_30 x1 x2 Q n6 (r3 - (1 : Int64)) (0 : Int32) M5)))))))
abbrev rmX7_shows : Room := { frames := 5, cells := 0, slots := 0, locals := 115 }
def wX7_shows_17 (x1 : Int32) (x2 : Int32) (Q : Int32 → Mem → Prop) (M : Mem) : Prop := Q (-1 : Int32) M
def wX7_shows (x1 : Int32) (x2 : Int32) (M : Mem) (Q : Int32 → Mem → Prop) : Prop := (wX7_within x1 (0 : Int32) (3 : Int32) M (fun r2 M1 => ((r2 = 0 → wX7_shows_17 x1 x2 Q M1) ∧ (¬ r2 = 0 → (wX7_isBelowCount x2 M1 (fun r4 M3 => ((¬ r4 = 0 → (wX7_readingsToShowAll x1 x2 M3 (fun r6 M5 => Q r6 M5))) ∧ (r4 = 0 → wX7_shows_17 x1 x2 Q M3))))))))
abbrev rmX7_quickest : Room := { frames := 1, cells := 0, slots := 0, locals := 22 }
def wX7_quickest_41 (x1 : Int32) (Q : Int32 → Mem → Prop) (s0 : Int32) (M : Mem) : Prop := Q s0 M
def wX7_quickest (x1 : Int32) (M : Mem) (Q : Int32 → Mem → Prop) : Prop := (wX7_within x1 (0 : Int32) (2 : Int32) M (fun r2 M1 => ((¬ r2 = 0 → ((¬ x1 = 0 → ((¬ x1 = (1 : Int32) → (kd (rid (M1 0 2)) = 6 ∧ wX7_quickest_41 x1 Q (M1 (rid (M1 0 2)) 0) M1)) ∧ (x1 = (1 : Int32) → (kd (rid (M1 0 2)) = 6 ∧ wX7_quickest_41 x1 Q ((M1 (rid (M1 0 2)) 0) - (1 : Int32)) M1)))) ∧ (x1 = 0 → Q (0 : Int32) M1))) ∧ (r2 = 0 → Q (-1 : Int32) M1))))
abbrev rmX7_seen : Room := { frames := 3, cells := 0, slots := 0, locals := 73 }
def wX7_seen_24 (x1 : Int64) (x3 : Int32) (x4 : Int32) (Q : Int32 → Mem → Prop) (M : Mem) : Prop := Q (-1 : Int32) M
def wX7_seen (x1 : Int64) (x3 : Int32) (x4 : Int32) (M : Mem) (Q : Int32 → Mem → Prop) : Prop := (wX7_isReader x1 M (fun r2 M1 => ((r2 = 0 → wX7_seen_24 x1 x3 x4 Q M1) ∧ (¬ r2 = 0 → (wX7_isTurn x3 M1 (fun r4 M3 => ((r4 = 0 → wX7_seen_24 x1 x3 x4 Q M3) ∧ (¬ r4 = 0 → (wX7_isBelowCount x4 M3 (fun r6 M5 => ((¬ r6 = 0 → (((M5 0 9) < (12 : Int32) → (wX3_placeRead 32 x1 x3 M5 (fun r8 M7 => (wX4_put 57 (M5 0 9) r8 M7 (fun M9 => (wX4_put 59 (M9 0 9) x4 M9 (fun M10 => Q ((mu M10 0 9 ((M10 0 9) + (1 : Int32))) 0 9) (mu M10 0 9 ((M10 0 9) + (1 : Int32)))))))))) ∧ (¬ (M5 0 9) < (12 : Int32) → Q (-3 : Int32) M5))) ∧ (r6 = 0 → wX7_seen_24 x1 x3 x4 Q M5))))))))))))
abbrev rmX7_forget : Room := { frames := 0, cells := 0, slots := 0, locals := 0 }
def wX7_forget (M : Mem) (Q : Int32 → Mem → Prop) : Prop := Q (M 0 9) (mu M 0 9 (0 : Int32))
abbrev rmX7_guessFromSeen : Room := { frames := 2, cells := 0, slots := 0, locals := 46 }
def wX7_guessFromSeen_16 (Q : Mem → Prop) : Nat → Int32 → Mem → Prop
  | 0, _, _ => False
  | n + 1, v1, M => (((M 0 9) ≤ v1 → Q M) ∧ (¬ (M 0 9) ≤ v1 → (wX4_at 57 v1 M (fun r5 M4 => (wX4_at 59 v1 M4 (fun r7 M6 => (wX0_bind 52 r5 r7 M6 (fun M8 => wX7_guessFromSeen_16 Q n (v1 + (1 : Int32)) M8))))))))
def wX7_guessFromSeen (M : Mem) (Q : Mem → Prop) : Prop := (kd (rid (M 0 2)) = 6 ∧ (wX0_begin 52 (M (rid (M 0 2)) 0) M (fun M2 => (∃ n3, wX7_guessFromSeen_16 Q n3 (0 : Int32) M2))))
abbrev rmX7_so : Room := { frames := 3, cells := 0, slots := 0, locals := 67 }
def wX7_so_19 (Q : Int32 → Mem → Prop) (s0 : Int32) (M : Mem) : Prop := Q s0 M
def wX7_so (M : Mem) (Q : Int32 → Mem → Prop) : Prop := (wX7_guessFromSeen M (fun M1 => (wX0_holds 52 M1 (fun r3 M2 => ((r3 = 0 → wX7_so_19 Q (0 : Int32) M2) ∧ (¬ r3 = 0 → wX7_so_19 Q (1 : Int32) M2))))))
abbrev rmX7_sure : Room := { frames := 3, cells := 0, slots := 0, locals := 68 }
def wX7_sure_44 (x1 : Int32) (Q : Int32 → Mem → Prop) (M : Mem) : Prop := (wX0_leafAt 52 x1 M (fun r10 M9 => Q r10 M9))
def wX7_sure (x1 : Int32) (M : Mem) (Q : Int32 → Mem → Prop) : Prop := (wX7_isBelowCount x1 M (fun r2 M1 => ((¬ r2 = 0 → (wX7_guessFromSeen M1 (fun M3 => (wX0_holds 52 M3 (fun r5 M4 => ((¬ r5 = 0 → (wX0_isAllButOne 52 M4 (fun r7 M6 => ((r7 = 0 → wX7_sure_44 x1 Q M6) ∧ (¬ r7 = 0 → (wX0_fillUp 52 M6 (fun M8 => wX7_sure_44 x1 Q M8))))))) ∧ (r5 = 0 → Q (-4 : Int32) M4))))))) ∧ (r2 = 0 → Q (-1 : Int32) M1))))
abbrev rmX7_lacks : Room := { frames := 3, cells := 0, slots := 0, locals := 73 }
def wX7_lacks_17 (x1 : Int32) (x2 : Int32) (Q : Int32 → Mem → Prop) (M : Mem) : Prop := Q (-1 : Int32) M
def wX7_lacks_76 (x1 : Int32) (x2 : Int32) (Q : Int32 → Mem → Prop) (s0 : Int32) (M : Mem) : Prop := Q s0 M
def wX7_lacks_31 (x1 : Int32) (x2 : Int32) (Q : Int32 → Mem → Prop) : Nat → Int32 → Int32 → Mem → Prop
  | 0, _, _, _ => False
  | n + 1, v3, v4, M => (((40 : Int32) ≤ v4 → Q (-4 : Int32) M) ∧ (¬ (40 : Int32) ≤ v4 → (wX3_placeFoundBy 32 v4.toInt64 v3 M (fun r9 M8 => (wX3_turnAt 32 r9 M8 (fun r11 M10 => ((r11 = (-4 : Int32) → wX7_lacks_31 x1 x2 Q n v3 (v4 + (1 : Int32)) M10) ∧ (¬ r11 = (-4 : Int32) → ((¬ x2 = 0 → wX7_lacks_76 x1 x2 Q r11 M10) ∧ (x2 = 0 → wX7_lacks_76 x1 x2 Q v4 M10))))))))))
def wX7_lacks (x1 : Int32) (x2 : Int32) (M : Mem) (Q : Int32 → Mem → Prop) : Prop := (wX7_isBelowCount x1 M (fun r2 M1 => ((r2 = 0 → wX7_lacks_17 x1 x2 Q M1) ∧ (¬ r2 = 0 → (wX7_within x2 (0 : Int32) (1 : Int32) M1 (fun r4 M3 => ((¬ r4 = 0 → (wX1_placeOf 22 x1 M3 (fun r6 M5 => (∃ n7, wX7_lacks_31 x1 x2 Q n7 r6 (0 : Int32) M5)))) ∧ (r4 = 0 → wX7_lacks_17 x1 x2 Q M3))))))))
abbrev rmX7_isReadBy : Room := { frames := 3, cells := 0, slots := 0, locals := 73 }
def wX7_isReadBy_27 (x1 : Int32) (x2 : Int32) (Q : Int32 → Mem → Prop) (s0 : Int32) (M : Mem) : Prop := ((s0 = 0 ∨ s0 = 1) ∧ Q s0 M)
def wX7_isReadBy (x1 : Int32) (x2 : Int32) (M : Mem) (Q : Int32 → Mem → Prop) : Prop := (wX3_placeFoundBy 32 x1.toInt64 x2 M (fun r2 M1 => (wX3_turnAt 32 r2 M1 (fun r4 M3 => ((r4 = (-4 : Int32) → wX7_isReadBy_27 x1 x2 Q (0 : Int32) M3) ∧ (¬ r4 = (-4 : Int32) → wX7_isReadBy_27 x1 x2 Q (1 : Int32) M3))))))
abbrev rmX7_notice : Room := { frames := 4, cells := 0, slots := 0, locals := 95 }
def wX7_notice_27 (x1 : Int32) (x2 : Int32) (x3 : Int32) (Q : Int32 → Mem → Prop) (M : Mem) : Prop := Q (-1 : Int32) M
def wX7_notice_93 (x1 : Int32) (x2 : Int32) (x3 : Int32) (k_62 : Int32 → Int32 → Int32 → Int32 → Mem → Prop) (Q : Int32 → Mem → Prop) (v4 : Int32) (v5 : Int32) (v6 : Int32) (v7 : Int32) (M : Mem) : Prop := k_62 v4 v5 v6 (v7 + (1 : Int32)) M
def wX7_notice_90 (x1 : Int32) (x2 : Int32) (x3 : Int32) (k_62 : Int32 → Int32 → Int32 → Int32 → Mem → Prop) (Q : Int32 → Mem → Prop) (v4 : Int32) (v5 : Int32) (v6 : Int32) (v7 : Int32) (M : Mem) : Prop := wX7_notice_93 x1 x2 x3 (k_62) Q v4 v5 (v6 + (1 : Int32)) v7 M
def wX7_notice_62 (x1 : Int32) (x2 : Int32) (x3 : Int32) (Q : Int32 → Mem → Prop) : Nat → Int32 → Int32 → Int32 → Int32 → Mem → Prop
  | 0, _, _, _, _, _ => False
  | n + 1, v4, v5, v6, v7, M => ((x3 ≤ v7 → Q v6 M) ∧ (¬ x3 ≤ v7 → (wX7_isReadBy v7 v4 M (fun r13 M12 => ((¬ r13 = 0 → wX7_notice_90 x1 x2 x3 (wX7_notice_62 x1 x2 x3 Q n) Q v4 v5 v6 v7 M12) ∧ (r13 = 0 → (wX7_isReadBy v7 v5 M12 (fun r15 M14 => ((r15 = 0 → wX7_notice_93 x1 x2 x3 (wX7_notice_62 x1 x2 x3 Q n) Q v4 v5 v6 v7 M14) ∧ (¬ r15 = 0 → wX7_notice_90 x1 x2 x3 (wX7_notice_62 x1 x2 x3 Q n) Q v4 v5 v6 v7 M14))))))))))
def wX7_notice (x1 : Int32) (x2 : Int32) (x3 : Int32) (M : Mem) (Q : Int32 → Mem → Prop) : Prop := (wX7_isBelowCount x1 M (fun r2 M1 => ((r2 = 0 → wX7_notice_27 x1 x2 x3 Q M1) ∧ (¬ r2 = 0 → (wX7_isBelowCount x2 M1 (fun r4 M3 => ((r4 = 0 → wX7_notice_27 x1 x2 x3 Q M3) ∧ (¬ r4 = 0 → (wX7_within x3 (0 : Int32) (1000 : Int32) M3 (fun r6 M5 => ((¬ r6 = 0 → ((¬ x1 = x2 → (wX1_placeOf 22 x1 M5 (fun r8 M7 => (wX1_placeOf 22 x2 M7 (fun r10 M9 => (∃ n11, wX7_notice_62 x1 x2 x3 Q n11 r8 r10 (0 : Int32) (0 : Int32) M9)))))) ∧ (x1 = x2 → Q (0 : Int32) M5))) ∧ (r6 = 0 → wX7_notice_27 x1 x2 x3 Q M5))))))))))))
abbrev rmX7_placeBeforeLaying : Room := { frames := 0, cells := 0, slots := 0, locals := 0 }
def wX7_placeBeforeLaying_19 (x0 : Int32) (x1 : Int32) (Q : Int32 → Mem → Prop) (s0 : Int32) (M : Mem) : Prop := Q s0 M
def wX7_placeBeforeLaying (x0 : Int32) (x1 : Int32) (M : Mem) (Q : Int32 → Mem → Prop) : Prop := ((¬ x0 = x1 → ((x1 ≤ x0 → wX7_placeBeforeLaying_19 x0 x1 Q x0 M) ∧ (¬ x1 ≤ x0 → wX7_placeBeforeLaying_19 x0 x1 Q (x0 + (1 : Int32)) M))) ∧ (x0 = x1 → Q (0 : Int32) M))
abbrev rmX7_rightWhenLaidAt : Room := { frames := 3, cells := 0, slots := 0, locals := 73 }
def wX7_rightWhenLaidAt_58 (x1 : Int32) (x2 : Int32) (k_5 : Int32 → Int32 → Mem → Prop) (Q : Int32 → Mem → Prop) (v3 : Int32) (v4 : Int32) (M : Mem) : Prop := k_5 v3 (v4 + (1 : Int32)) M
def wX7_rightWhenLaidAt_5 (x1 : Int32) (x2 : Int32) (Q : Int32 → Mem → Prop) : Nat → Int32 → Int32 → Mem → Prop
  | 0, _, _, _ => False
  | n + 1, v3, v4, M => (kd (rid (M 0 2)) = 6 ∧ (wX6_toldTurns (rid (M 0 2)) M (fun r4 M3 => ((r4 ≤ v4 → Q v3 M3) ∧ (¬ r4 ≤ v4 → (wX3_placeAfterFirstReading 32 x2.toInt64 v4 M3 (fun r6 M5 => (wX7_placeBeforeLaying r6 x1 M5 (fun r8 M7 => (wX1_leafAt 22 r8 M7 (fun r10 M9 => (kd (rid (M9 0 2)) = 6 ∧ (wX6_taleLeaf (rid (M9 0 2)) v4 M9 (fun r13 M12 => ((¬ r10 = r13 → wX7_rightWhenLaidAt_58 x1 x2 (wX7_rightWhenLaidAt_5 x1 x2 Q n) Q v3 v4 M12) ∧ (r10 = r13 → wX7_rightWhenLaidAt_58 x1 x2 (wX7_rightWhenLaidAt_5 x1 x2 Q n) Q (v3 + (1 : Int32)) v4 M12))))))))))))))))
def wX7_rightWhenLaidAt (x1 : Int32) (x2 : Int32) (M : Mem) (Q : Int32 → Mem → Prop) : Prop := (∃ n1, wX7_rightWhenLaidAt_5 x1 x2 Q n1 (0 : Int32) (0 : Int32) M)
abbrev rmX7_pleased : Room := { frames := 4, cells := 0, slots := 0, locals := 98 }
def wX7_pleased_19 (x1 : Int32) (x2 : Int32) (Q : Int32 → Mem → Prop) (M : Mem) : Prop := Q (-1 : Int32) M
def wX7_pleased_65 (x1 : Int32) (x2 : Int32) (k_30 : Int32 → Int32 → Int32 → Mem → Prop) (Q : Int32 → Mem → Prop) (v3 : Int32) (v4 : Int32) (v5 : Int32) (M : Mem) : Prop := k_30 v3 v4 (v5 + (1 : Int32)) M
def wX7_pleased_81 (x1 : Int32) (x2 : Int32) (Q : Int32 → Mem → Prop) (s0 : Int32) (M : Mem) : Prop := Q s0 M
def wX7_pleased_30 (x1 : Int32) (x2 : Int32) (Q : Int32 → Mem → Prop) : Nat → Int32 → Int32 → Int32 → Mem → Prop
  | 0, _, _, _, _ => False
  | n + 1, v3, v4, v5, M => (kd (rid (M 0 2)) = 6 ∧ (((M (rid (M 0 2)) 0) ≤ v5 → ((¬ x2 = 0 → wX7_pleased_81 x1 x2 Q v4 M) ∧ (x2 = 0 → wX7_pleased_81 x1 x2 Q v3 M))) ∧ (¬ (M (rid (M 0 2)) 0) ≤ v5 → (wX7_rightWhenLaidAt v5 x1 M (fun r8 M7 => ((r8 ≤ v4 → wX7_pleased_65 x1 x2 (wX7_pleased_30 x1 x2 Q n) Q v3 v4 v5 M7) ∧ (¬ r8 ≤ v4 → wX7_pleased_65 x1 x2 (wX7_pleased_30 x1 x2 Q n) Q v5 r8 v5 M7)))))))
def wX7_pleased (x1 : Int32) (x2 : Int32) (M : Mem) (Q : Int32 → Mem → Prop) : Prop := (wX7_within x1 (1 : Int32) (100 : Int32) M (fun r2 M1 => ((r2 = 0 → wX7_pleased_19 x1 x2 Q M1) ∧ (¬ r2 = 0 → (wX7_within x2 (0 : Int32) (1 : Int32) M1 (fun r4 M3 => ((¬ r4 = 0 → (∃ n5, wX7_pleased_30 x1 x2 Q n5 (0 : Int32) (-4 : Int32) (0 : Int32) M3)) ∧ (r4 = 0 → wX7_pleased_19 x1 x2 Q M3))))))))
abbrev rmX7_keptPack : Room := { frames := 0, cells := 0, slots := 0, locals := 0 }
def wX7_keptPack_15 (x1 : Int32) (Q : Nat → Mem → Prop) (s0 : Nat) (M : Mem) : Prop := Q s0 M
def wX7_keptPack (x1 : Int32) (M : Mem) (Q : Nat → Mem → Prop) : Prop := ((¬ x1 = 0 → wX7_keptPack_15 x1 Q 73 M) ∧ (x1 = 0 → wX7_keptPack_15 x1 Q 67 M))
abbrev rmX7_keep : Room := { frames := 4, cells := 0, slots := 0, locals := 85 }
def wX7_keep (M : Mem) (Q : Int32 → Mem → Prop) : Prop := (((M 0 13) < (2 : Int32) → (wX7_keptPack (M 0 13) M (fun r2 M1 => (kd r2 = 2 ∧ (wX2_copyFrom r2 61 M1 (fun M4 => Q ((mu M4 0 13 ((M4 0 13) + (1 : Int32))) 0 13) (mu M4 0 13 ((M4 0 13) + (1 : Int32))))))))) ∧ (¬ (M 0 13) < (2 : Int32) → Q (-3 : Int32) M))
abbrev rmX7_back : Room := { frames := 4, cells := 0, slots := 0, locals := 85 }
def wX7_back (M : Mem) (Q : Int32 → Mem → Prop) : Prop := ((0 < (M 0 13) → (wX7_keptPack ((mu M 0 13 ((M 0 13) - (1 : Int32))) 0 13) (mu M 0 13 ((M 0 13) - (1 : Int32))) (fun r2 M1 => (kd r2 = 2 ∧ (wX2_copyFrom 61 r2 M1 (fun M4 => Q (M4 0 13) M4)))))) ∧ (¬ 0 < (M 0 13) → Q (-2 : Int32) M))
abbrev rmX7_count : Room := { frames := 1, cells := 0, slots := 0, locals := 22 }
def wX7_count (x1 : Int32) (M : Mem) (Q : Int32 → Mem → Prop) : Prop := (wX7_within x1 (0 : Int32) (7 : Int32) M (fun r2 M1 => ((¬ r2 = 0 → ((x1 = (0 : Int32) → (kd (rid (M1 0 2)) = 6 ∧ Q (M1 (rid (M1 0 2)) 0) M1)) ∧ (¬ x1 = (0 : Int32) → ((x1 = (1 : Int32) → (kd (rid (M1 0 2)) = 6 ∧ Q (M1 (rid (M1 0 2)) 1) M1)) ∧ (¬ x1 = (1 : Int32) → ((x1 = (2 : Int32) → (kd (rid (M1 0 2)) = 6 ∧ Q (M1 (rid (M1 0 2)) 8) M1)) ∧ (¬ x1 = (2 : Int32) → ((x1 = (3 : Int32) → Q (M1 61 1) M1) ∧ (¬ x1 = (3 : Int32) → ((x1 = (4 : Int32) → Q (M1 61 2) M1) ∧ (¬ x1 = (4 : Int32) → ((x1 = (5 : Int32) → Q (M1 0 9) M1) ∧ (¬ x1 = (5 : Int32) → ((x1 = (6 : Int32) → Q (M1 0 13) M1) ∧ (¬ x1 = (6 : Int32) → (wX5_size 1 M1 (fun r4 M3 => Q r4 M3))))))))))))))))) ∧ (r2 = 0 → Q (-1 : Int32) M1))))
