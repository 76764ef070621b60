abbrev rmX4_fill : Room := { frames := 0, cells := 0, slots := 0, locals := 0 }
def wX4_fill_2 (r : Nat) (x1 : Int32) (Q : Mem → Prop) : Nat → Int32 → Mem → Prop
  | 0, _, _ => False
  | n + 1, v2, M => (((Int32.ofNat (ln (r + 1))) ≤ v2 → Q M) ∧ (¬ (Int32.ofNat (ln (r + 1))) ≤ v2 → (vp_in v2 (ln (r + 1)) ∧ wX4_fill_2 r x1 Q n (v2 + (1 : Int32)) (mu M (r + 1) v2.toNatClampNeg x1))))
def wX4_fill (r : Nat) (x1 : Int32) (M : Mem) (Q : Mem → Prop) : Prop := (∃ n1, wX4_fill_2 r x1 Q n1 (0 : Int32) M)
abbrev rmX0_begin : Room := { frames := 1, cells := 0, slots := 0, locals := 22 }
def wX0_begin (r : Nat) (x1 : Int32) (M : Mem) (Q : Mem → Prop) : Prop := (((1 : Int32) = 0 ∨ (1 : Int32) = 1) ∧ (wX4_fill (r + 1) (-4 : Int32) (mu (mu (mu M r 2 x1) r 3 (0 : Int32)) r 4 (1 : Int32)) (fun M1 => (wX4_fill (r + 3) (-4 : Int32) M1 (fun M2 => Q M2)))))
abbrev rmX4_at : Room := { frames := 0, cells := 0, slots := 0, locals := 0 }
def wX4_at_24 (r : Nat) (x1 : Int32) (Q : Int32 → Mem → Prop) (s0 : Int32) (M : Mem) : Prop := Q s0 M
def wX4_at_22 (r : Nat) (x1 : Int32) (Q : Int32 → Mem → Prop) (M : Mem) : Prop := wX4_at_24 r x1 Q (-4 : Int32) M
def wX4_at (r : Nat) (x1 : Int32) (M : Mem) (Q : Int32 → Mem → Prop) : Prop := ((x1 < 0 → wX4_at_22 r x1 Q M) ∧ (¬ x1 < 0 → (((Int32.ofNat (ln (r + 1))) ≤ x1 → wX4_at_22 r x1 Q M) ∧ (¬ (Int32.ofNat (ln (r + 1))) ≤ x1 → (vp_in x1 (ln (r + 1)) ∧ wX4_at_24 r x1 Q (M (r + 1) x1.toNatClampNeg) M)))))
abbrev rmX4_put : Room := { frames := 0, cells := 0, slots := 0, locals := 0 }
def wX4_put_20 (r : Nat) (x1 : Int32) (x2 : Int32) (Q : Mem → Prop) (M : Mem) : Prop := Q M
def wX4_put (r : Nat) (x1 : Int32) (x2 : Int32) (M : Mem) (Q : Mem → Prop) : Prop := ((x1 < 0 → wX4_put_20 r x1 x2 Q M) ∧ (¬ x1 < 0 → (((Int32.ofNat (ln (r + 1))) ≤ x1 → wX4_put_20 r x1 x2 Q M) ∧ (¬ (Int32.ofNat (ln (r + 1))) ≤ x1 → (vp_in x1 (ln (r + 1)) ∧ wX4_put_20 r x1 x2 Q (mu M (r + 1) x1.toNatClampNeg x2))))))
abbrev rmX0_bind : Room := { frames := 1, cells := 0, slots := 0, locals := 22 }
def wX0_bind_73 (r : Nat) (x1 : Int32) (x2 : Int32) (Q : Mem → Prop) (M : Mem) : Prop := Q M
def wX0_bind_63 (r : Nat) (x1 : Int32) (x2 : Int32) (Q : Mem → Prop) (v3 : Int32) (M : Mem) : Prop := ((v3 = x2 → wX0_bind_73 r x1 x2 Q M) ∧ (¬ v3 = x2 → (((0 : Int32) = 0 ∨ (0 : Int32) = 1) ∧ wX0_bind_73 r x1 x2 Q (mu M r 4 (0 : Int32)))))
def wX0_bind (r : Nat) (x1 : Int32) (x2 : Int32) (M : Mem) (Q : Mem → Prop) : Prop := (wX4_at (r + 1) x1 M (fun r2 M1 => (wX4_at (r + 3) x2 M1 (fun r4 M3 => ((¬ r2 = (-4 : Int32) → wX0_bind_63 r x1 x2 Q r2 M3) ∧ (r2 = (-4 : Int32) → ((¬ r4 = (-4 : Int32) → wX0_bind_63 r x1 x2 Q r2 M3) ∧ (r4 = (-4 : Int32) → (wX4_put (r + 1) x1 x2 M3 (fun M5 => (wX4_put (r + 3) x2 x1 M5 (fun M6 => wX0_bind_73 r x1 x2 Q (mu M6 r 3 ((M6 r 3) + (1 : Int32)))))))))))))))
abbrev rmX0_holds : Room := { frames := 0, cells := 0, slots := 0, locals := 0 }
def wX0_holds (r : Nat) (M : Mem) (Q : Int32 → Mem → Prop) : Prop := (((M r 4) = 0 ∨ (M r 4) = 1) ∧ Q (M r 4) M)
abbrev rmX0_isAllButOne : Room := { frames := 0, cells := 0, slots := 0, locals := 0 }
def wX0_isAllButOne_18 (r : Nat) (Q : Int32 → Mem → Prop) (s0 : Int32) (M : Mem) : Prop := ((s0 = 0 ∨ s0 = 1) ∧ Q s0 M)
def wX0_isAllButOne (r : Nat) (M : Mem) (Q : Int32 → Mem → Prop) : Prop := ((¬ (M r 3) = ((M r 2) - (1 : Int32)) → wX0_isAllButOne_18 r Q (0 : Int32) M) ∧ ((M r 3) = ((M r 2) - (1 : Int32)) → wX0_isAllButOne_18 r Q (1 : Int32) M))
abbrev rmX0_leafAt : Room := { frames := 1, cells := 0, slots := 0, locals := 21 }
def wX0_leafAt (r : Nat) (x1 : Int32) (M : Mem) (Q : Int32 → Mem → Prop) : Prop := (wX4_at (r + 1) x1 M (fun r2 M1 => Q r2 M1))
abbrev rmX0_fillUp : Room := { frames := 2, cells := 0, slots := 0, locals := 46 }
def wX0_fillUp_58 (r : Nat) (k_4 : Int32 → Int32 → Mem → Prop) (Q : Mem → Prop) (v1 : Int32) (v2 : Int32) (M : Mem) : Prop := k_4 v1 (v2 + (1 : Int32)) M
def wX0_fillUp_52 (r : Nat) (k_4 : Int32 → Int32 → Mem → Prop) (Q : Mem → Prop) (v1 : Int32) (v2 : Int32) (M : Mem) : Prop := (wX0_bind r v1 v2 M (fun M7 => wX0_fillUp_58 r (k_4) Q v1 v2 M7))
def wX0_fillUp_25 (r : Nat) (k_4 : Int32 → Int32 → Mem → Prop) (Q : Mem → Prop) : Nat → Int32 → Int32 → Mem → Prop
  | 0, _, _, _ => False
  | n + 1, v1, v2, M => (((M r 2) ≤ v1 → wX0_fillUp_52 r (k_4) Q v1 v2 M) ∧ (¬ (M r 2) ≤ v1 → (wX4_at (r + 1) v1 M (fun r6 M5 => ((r6 = (-4 : Int32) → wX0_fillUp_52 r (k_4) Q v1 v2 M5) ∧ (¬ r6 = (-4 : Int32) → wX0_fillUp_25 r k_4 Q n (v1 + (1 : Int32)) v2 M5))))))
def wX0_fillUp_4 (r : Nat) (Q : Mem → Prop) : Nat → Int32 → Int32 → Mem → Prop
  | 0, _, _, _ => False
  | n + 1, v1, v2, M => (((M r 2) ≤ v2 → Q M) ∧ (¬ (M r 2) ≤ v2 → (wX4_at (r + 3) v2 M (fun r3 M2 => ((¬ r3 = (-4 : Int32) → wX0_fillUp_58 r (wX0_fillUp_4 r Q n) Q v1 v2 M2) ∧ (r3 = (-4 : Int32) → (∃ n4, wX0_fillUp_25 r (wX0_fillUp_4 r Q n) Q n4 v1 v2 M2)))))))
def wX0_fillUp (r : Nat) (M : Mem) (Q : Mem → Prop) : Prop := (∃ n1, wX0_fillUp_4 r Q n1 (0 : Int32) (0 : Int32) M)
abbrev rmX1_number : Room := { frames := 1, cells := 0, slots := 0, locals := 22 }
def wX1_number_7 (r : Nat) (x1 : Int32) (Q : Mem → Prop) : Nat → Int32 → Mem → Prop
  | 0, _, _ => False
  | n + 1, v2, M => ((x1 ≤ v2 → Q M) ∧ (¬ x1 ≤ v2 → (wX4_put (r + 1) v2 v2 M (fun M2 => wX1_number_7 r x1 Q n (v2 + (1 : Int32)) M2))))
def wX1_number (r : Nat) (x1 : Int32) (M : Mem) (Q : Mem → Prop) : Prop := (∃ n1, wX1_number_7 r x1 Q n1 (0 : Int32) (mu M r 2 x1))
abbrev rmX1_leafAt : Room := { frames := 1, cells := 0, slots := 0, locals := 21 }
def wX1_leafAt (r : Nat) (x1 : Int32) (M : Mem) (Q : Int32 → Mem → Prop) : Prop := (wX4_at (r + 1) x1 M (fun r2 M1 => Q r2 M1))
abbrev rmX1_placeOf : Room := { frames := 1, cells := 0, slots := 0, locals := 21 }
def wX1_placeOf_2 (r : Nat) (x1 : Int32) (Q : Int32 → Mem → Prop) : Nat → Int32 → Mem → Prop
  | 0, _, _ => False
  | n + 1, v2, M => (((M r 2) ≤ v2 → Q (-4 : Int32) M) ∧ (¬ (M r 2) ≤ v2 → (wX4_at (r + 1) v2 M (fun r3 M2 => ((¬ r3 = x1 → wX1_placeOf_2 r x1 Q n (v2 + (1 : Int32)) M2) ∧ (r3 = x1 → Q v2 M2))))))
def wX1_placeOf (r : Nat) (x1 : Int32) (M : Mem) (Q : Int32 → Mem → Prop) : Prop := (∃ n1, wX1_placeOf_2 r x1 Q n1 (0 : Int32) M)
abbrev rmX1_swap : Room := { frames := 1, cells := 0, slots := 0, locals := 22 }
def wX1_swap (r : Nat) (x1 : Int32) (x2 : Int32) (M : Mem) (Q : Mem → Prop) : Prop := (wX4_at (r + 1) x1 M (fun r2 M1 => (wX4_at (r + 1) x2 M1 (fun r4 M3 => (wX4_put (r + 1) x1 r4 M3 (fun M5 => (wX4_put (r + 1) x2 r2 M5 (fun M6 => Q M6))))))))
abbrev rmX4_copyFrom : Room := { frames := 1, cells := 0, slots := 0, locals := 21 }
def wX4_copyFrom_2 (r : Nat) (x1 : Nat) (Q : Mem → Prop) : Nat → Int32 → Mem → Prop
  | 0, _, _ => False
  | n + 1, v2, M => (((Int32.ofNat (ln (r + 1))) ≤ v2 → Q M) ∧ (¬ (Int32.ofNat (ln (r + 1))) ≤ v2 → (wX4_at x1 v2 M (fun r3 M2 => (vp_in v2 (ln (r + 1)) ∧ wX4_copyFrom_2 r x1 Q n (v2 + (1 : Int32)) (mu M2 (r + 1) v2.toNatClampNeg r3))))))
def wX4_copyFrom (r : Nat) (x1 : Nat) (M : Mem) (Q : Mem → Prop) : Prop := (∃ n1, wX4_copyFrom_2 r x1 Q n1 (0 : Int32) M)
abbrev rmX1_copyFrom : Room := { frames := 2, cells := 0, slots := 0, locals := 43 }
def wX1_copyFrom (r : Nat) (x1 : Nat) (M : Mem) (Q : Mem → Prop) : Prop := (wX4_copyFrom (r + 1) (x1 + 1) (mu M r 2 (M x1 2)) (fun M1 => Q M1))
abbrev rmX1_cut : Room := { frames := 2, cells := 0, slots := 0, locals := 43 }
def wX1_cut_59 (r : Nat) (k_20 : Int32 → Int32 → Mem → Prop) (Q : Mem → Prop) (v1 : Int32) (v2 : Int32) (s0 : Int32) (s1 : Nat) (s2 : Int32) (s3 : Nat) (M : Mem) : Prop := (wX4_at s1 s0 M (fun r4 M3 => (wX4_put s3 s2 r4 M3 (fun M5 => k_20 v1 (v2 + (1 : Int32)) M5))))
def wX1_cut_20 (r : Nat) (Q : Mem → Prop) : Nat → Int32 → Int32 → Mem → Prop
  | 0, _, _, _ => False
  | n + 1, v1, v2, M => (((M r 2) ≤ v2 → Q M) ∧ (¬ (M r 2) ≤ v2 → (((M r 2) ≤ (v2 + v1) → wX1_cut_59 r (wX1_cut_20 r Q n) Q v1 v2 ((v2 + v1) - (M r 2)) (r + 3) v2 (r + 1) M) ∧ (¬ (M r 2) ≤ (v2 + v1) → wX1_cut_59 r (wX1_cut_20 r Q n) Q v1 v2 (v2 + v1) (r + 3) v2 (r + 1) M))))
def wX1_cut (r : Nat) (M : Mem) (Q : Mem → Prop) : Prop := (¬ (2 : Int32) = 0 ∧ (wX4_copyFrom (r + 3) (r + 1) M (fun M1 => (∃ n2, wX1_cut_20 r Q n2 ((M r 2) / (2 : Int32)) (0 : Int32) M1))))
abbrev rmX1_layTop : Room := { frames := 1, cells := 0, slots := 0, locals := 22 }
def wX1_layTop_11 (r : Nat) (x1 : Int32) (Q : Mem → Prop) : Nat → Int32 → Int32 → Mem → Prop
  | 0, _, _, _ => False
  | n + 1, v2, v3, M => ((x1 ≤ v3 → (wX4_put (r + 1) x1 v2 M (fun M4 => Q M4))) ∧ (¬ x1 ≤ v3 → (wX4_at (r + 1) (v3 + (1 : Int32)) M (fun r6 M5 => (wX4_put (r + 1) v3 r6 M5 (fun M7 => wX1_layTop_11 r x1 Q n v2 (v3 + (1 : Int32)) M7))))))
def wX1_layTop (r : Nat) (x1 : Int32) (M : Mem) (Q : Mem → Prop) : Prop := (wX4_at (r + 1) (0 : Int32) M (fun r2 M1 => (∃ n3, wX1_layTop_11 r x1 Q n3 r2 (0 : Int32) M1)))
abbrev rmX1_readTop : Room := { frames := 3, cells := 0, slots := 0, locals := 66 }
def wX1_readTop_65 (r : Nat) (x1 : Int32) (x2 : Int32) (x3 : Int32) (Q : Int32 → Mem → Prop) (v4 : Int32) (M : Mem) : Prop := Q v4 M
def wX1_readTop_38 (r : Nat) (x1 : Int32) (x2 : Int32) (x3 : Int32) (Q : Int32 → Mem → Prop) (v4 : Int32) (M : Mem) : Prop := (wX1_layTop r ((M r 2) - (1 : Int32)) M (fun M4 => wX1_readTop_65 r x1 x2 x3 Q v4 M4))
def wX1_readTop_51 (r : Nat) (x1 : Int32) (x2 : Int32) (x3 : Int32) (Q : Int32 → Mem → Prop) (v4 : Int32) (M : Mem) : Prop := (wX1_layTop r (if ((M r 2) - (1 : Int32)) < x2 then ((M r 2) - (1 : Int32)) else x2) M (fun M5 => wX1_readTop_65 r x1 x2 x3 Q v4 M5))
def wX1_readTop (r : Nat) (x1 : Int32) (x2 : Int32) (x3 : Int32) (M : Mem) (Q : Int32 → Mem → Prop) : Prop := (wX4_at (r + 1) (0 : Int32) M (fun r2 M1 => ((¬ x1 = (3 : Int32) → ((x1 = (1 : Int32) → wX1_readTop_38 r x1 x2 x3 Q r2 M1) ∧ (¬ x1 = (1 : Int32) → ((¬ x1 = (2 : Int32) → wX1_readTop_51 r x1 x2 x3 Q r2 M1) ∧ (x1 = (2 : Int32) → (¬ (2 : Int32) = 0 ∧ (((x3 - (x3 / (2 : Int32)) * (2 : Int32)) = 0 → wX1_readTop_51 r x1 x2 x3 Q r2 M1) ∧ (¬ (x3 - (x3 / (2 : Int32)) * (2 : Int32)) = 0 → wX1_readTop_38 r x1 x2 x3 Q r2 M1)))))))) ∧ (x1 = (3 : Int32) → (wX1_cut r M1 (fun M3 => wX1_readTop_65 r x1 x2 x3 Q r2 M3))))))
abbrev rmX2_startWith : Room := { frames := 3, cells := 0, slots := 0, locals := 64 }
def wX2_startWith (r : Nat) (x1 : Nat) (M : Mem) (Q : Mem → Prop) : Prop := (wX1_copyFrom (r + 1) x1 M (fun M1 => Q (mu (mu M1 r 1 (0 : Int32)) r 2 (0 : Int32))))
abbrev rmX2_copyFrom : Room := { frames := 3, cells := 0, slots := 0, locals := 64 }
def wX2_copyFrom (r : Nat) (x1 : Nat) (M : Mem) (Q : Mem → Prop) : Prop := (wX1_copyFrom (r + 1) (x1 + 1) M (fun M1 => Q (mu (mu M1 r 1 (M1 x1 1)) r 2 ((mu M1 r 1 (M1 x1 1)) x1 2))))
abbrev rmX2_readOne : Room := { frames := 4, cells := 0, slots := 0, locals := 90 }
def wX2_readOne_56 (r : Nat) (x1 : Nat) (Q : Int32 → Mem → Prop) (v2 : Int32) (M : Mem) : Prop := Q v2 M
def wX2_readOne (r : Nat) (x1 : Nat) (M : Mem) (Q : Int32 → Mem → Prop) : Prop := (wX1_readTop (r + 1) (M x1 2) (M x1 3) (M r 1) M (fun r2 M1 => ((((mu M1 r 1 ((M1 r 1) + (1 : Int32))) r 1) < ((mu M1 r 1 ((M1 r 1) + (1 : Int32))) x1 1) → wX2_readOne_56 r x1 Q r2 (mu M1 r 1 ((M1 r 1) + (1 : Int32)))) ∧ (¬ ((mu M1 r 1 ((M1 r 1) + (1 : Int32))) r 1) < ((mu M1 r 1 ((M1 r 1) + (1 : Int32))) x1 1) → wX2_readOne_56 r x1 Q r2 (mu (mu (mu M1 r 1 ((M1 r 1) + (1 : Int32))) r 1 (0 : Int32)) r 2 (((mu (mu M1 r 1 ((M1 r 1) + (1 : Int32))) r 1 (0 : Int32)) r 2) + (1 : Int32)))))))
abbrev rmX2_fall : Room := { frames := 2, cells := 0, slots := 0, locals := 45 }
def wX2_fall_10 (r : Nat) (x1 : Int32) (Q : Mem → Prop) : Nat → Int32 → Mem → Prop
  | 0, _, _ => False
  | n + 1, v2, M => ((v2 < (1 : Int32) → Q (mu M r 1 (0 : Int32))) ∧ (¬ v2 < (1 : Int32) → (¬ (65521 : Int64) = 0 ∧ (¬ (v2 + (1 : Int32)).toInt64 = 0 ∧ (wX1_swap (r + 1) v2 ((((((((7919 : Int64) * x1.toInt64) + ((6151 : Int64) * v2.toInt64)) + (1 : Int64)) * ((((7919 : Int64) * x1.toInt64) + ((6151 : Int64) * v2.toInt64)) + (1 : Int64))) - ((((((7919 : Int64) * x1.toInt64) + ((6151 : Int64) * v2.toInt64)) + (1 : Int64)) * ((((7919 : Int64) * x1.toInt64) + ((6151 : Int64) * v2.toInt64)) + (1 : Int64))) / (65521 : Int64)) * (65521 : Int64)) - (((((((7919 : Int64) * x1.toInt64) + ((6151 : Int64) * v2.toInt64)) + (1 : Int64)) * ((((7919 : Int64) * x1.toInt64) + ((6151 : Int64) * v2.toInt64)) + (1 : Int64))) - ((((((7919 : Int64) * x1.toInt64) + ((6151 : Int64) * v2.toInt64)) + (1 : Int64)) * ((((7919 : Int64) * x1.toInt64) + ((6151 : Int64) * v2.toInt64)) + (1 : Int64))) / (65521 : Int64)) * (65521 : Int64)) / (v2 + (1 : Int32)).toInt64) * (v2 + (1 : Int32)).toInt64).toInt32) M (fun M2 => wX2_fall_10 r x1 Q n (v2 + (-1)) M2))))))
def wX2_fall (r : Nat) (x1 : Int32) (M : Mem) (Q : Mem → Prop) : Prop := (∃ n1, wX2_fall_10 r x1 Q n1 ((M (r + 1) 2) - (1 : Int32)) M)
abbrev rmX3_readOneReader : Room := { frames := 4, cells := 0, slots := 0, locals := 90 }
def wX3_readOneReader_78 (r : Nat) (x1 : Nat) (k_22 : Int32 → Mem → Prop) (Q : Mem → Prop) (v2 : Int32) (M : Mem) : Prop := k_22 (v2 + (1 : Int32)) M
def wX3_readOneReader_22 (r : Nat) (x1 : Nat) (Q : Mem → Prop) : Nat → Int32 → Mem → Prop
  | 0, _, _ => False
  | n + 1, v2, M => (((M x1 1) ≤ v2 → Q M) ∧ (¬ (M x1 1) ≤ v2 → (wX1_readTop (r + 1) (M x1 2) (M x1 3) v2 M (fun r5 M4 => (wX4_put (r + 6) v2 r5 M4 (fun M6 => (wX4_at (r + 8) r5 M6 (fun r8 M7 => ((¬ r8 = (-4 : Int32) → wX3_readOneReader_78 r x1 (wX3_readOneReader_22 r x1 Q n) Q v2 M7) ∧ (r8 = (-4 : Int32) → (wX4_put (r + 8) r5 v2 M7 (fun M9 => wX3_readOneReader_78 r x1 (wX3_readOneReader_22 r x1 Q n) Q v2 M9))))))))))))
def wX3_readOneReader (r : Nat) (x1 : Nat) (M : Mem) (Q : Mem → Prop) : Prop := (wX1_number (r + 1) (M r 1) M (fun M1 => (wX4_fill (r + 8) (-4 : Int32) M1 (fun M2 => (∃ n3, wX3_readOneReader_22 r x1 Q n3 (0 : Int32) M2)))))
abbrev rmX3_layRing : Room := { frames := 2, cells := 0, slots := 0, locals := 42 }
def wX3_layRing_68 (r : Nat) (x1 : Int32) (x2 : Int32) (Q : Int32 → Mem → Prop) : Nat → Int32 → Int32 → Mem → Prop
  | 0, _, _, _ => False
  | n + 1, v3, v5, M => ((v3 ≤ v5 → Q v3 M) ∧ (¬ v3 ≤ v5 → (wX4_at (r + 12) (x2 + v5) M (fun r9 M8 => (wX4_put (r + 16) r9 v3 M8 (fun M10 => wX3_layRing_68 r x1 x2 Q n v3 (v5 + (1 : Int32)) M10))))))
def wX3_layRing_65 (r : Nat) (x1 : Int32) (x2 : Int32) (Q : Int32 → Mem → Prop) (v3 : Int32) (M : Mem) : Prop := (∃ n7, wX3_layRing_68 r x1 x2 Q n7 v3 (0 : Int32) M)
def wX3_layRing_5 (r : Nat) (x1 : Int32) (x2 : Int32) (Q : Int32 → Mem → Prop) : Nat → Int32 → Int32 → Mem → Prop
  | 0, _, _, _ => False
  | n + 1, v3, v4, M => (wX4_put (r + 12) (x2 + v3) v4 M (fun M2 => (wX4_put (r + 14) v4 x2 M2 (fun M3 => (wX4_put (r + 18) v4 v3 M3 (fun M4 => (wX1_leafAt (r + 1) v4 M4 (fun r6 M5 => ((r6 = x1 → wX3_layRing_65 r x1 x2 Q (v3 + (1 : Int32)) M5) ∧ (¬ r6 = x1 → (((v3 + (1 : Int32)) < (M5 r 1) → wX3_layRing_5 r x1 x2 Q n (v3 + (1 : Int32)) r6 M5) ∧ (¬ (v3 + (1 : Int32)) < (M5 r 1) → wX3_layRing_65 r x1 x2 Q (v3 + (1 : Int32)) M5))))))))))))
def wX3_layRing (r : Nat) (x1 : Int32) (x2 : Int32) (M : Mem) (Q : Int32 → Mem → Prop) : Prop := (∃ n1, wX3_layRing_5 r x1 x2 Q n1 (0 : Int32) x1 M)
abbrev rmX3_layRings : Room := { frames := 3, cells := 0, slots := 0, locals := 67 }
def wX3_layRings_40 (r : Nat) (k_12 : Int32 → Int32 → Mem → Prop) (Q : Mem → Prop) (v1 : Int32) (v2 : Int32) (M : Mem) : Prop := k_12 v1 (v2 + (1 : Int32)) M
def wX3_layRings_12 (r : Nat) (Q : Mem → Prop) : Nat → Int32 → Int32 → Mem → Prop
  | 0, _, _, _ => False
  | n + 1, v1, v2, M => (((M r 1) ≤ v2 → Q M) ∧ (¬ (M r 1) ≤ v2 → (wX4_at (r + 16) v2 M (fun r4 M3 => ((¬ r4 = 0 → wX3_layRings_40 r (wX3_layRings_12 r Q n) Q v1 v2 M3) ∧ (r4 = 0 → (wX3_layRing r v2 v1 M3 (fun r6 M5 => wX3_layRings_40 r (wX3_layRings_12 r Q n) Q (v1 + r6) v2 M5))))))))
def wX3_layRings (r : Nat) (M : Mem) (Q : Mem → Prop) : Prop := (wX4_fill (r + 16) (0 : Int32) M (fun M1 => (∃ n2, wX3_layRings_12 r Q n2 (0 : Int32) (0 : Int32) M1)))
abbrev rmX3_readWithoutFirst : Room := { frames := 4, cells := 0, slots := 0, locals := 90 }
def wX3_readWithoutFirst_46 (r : Nat) (x1 : Nat) (Q : Mem → Prop) : Nat → Int32 → Mem → Prop
  | 0, _, _ => False
  | n + 1, v2, M => (((M r 1) ≤ v2 → Q M) ∧ (¬ (M r 1) ≤ v2 → (wX1_leafAt (r + 1) v2 M (fun r7 M6 => (wX4_put (r + 10) v2 r7 M6 (fun M8 => wX3_readWithoutFirst_46 r x1 Q n (v2 + (1 : Int32)) M8))))))
def wX3_readWithoutFirst_13 (r : Nat) (x1 : Nat) (Q : Mem → Prop) : Nat → Int32 → Mem → Prop
  | 0, _, _ => False
  | n + 1, v2, M => (((M x1 1) ≤ v2 → (∃ n3, wX3_readWithoutFirst_46 r x1 Q n3 (0 : Int32) M)) ∧ (¬ (M x1 1) ≤ v2 → (wX1_readTop (r + 1) (M x1 2) (M x1 3) v2 M (fun r5 M4 => wX3_readWithoutFirst_13 r x1 Q n (v2 + (1 : Int32)) M4))))
def wX3_readWithoutFirst (r : Nat) (x1 : Nat) (M : Mem) (Q : Mem → Prop) : Prop := (wX1_number (r + 1) (M r 1) M (fun M1 => (∃ n2, wX3_readWithoutFirst_13 r x1 Q n2 (1 : Int32) M1)))
abbrev rmX3_follow : Room := { frames := 5, cells := 0, slots := 0, locals := 113 }
def wX3_follow (r : Nat) (x1 : Nat) (M : Mem) (Q : Mem → Prop) : Prop := (wX3_readOneReader r x1 (mu M r 1 (M x1 0)) (fun M1 => (wX3_layRings r M1 (fun M2 => (wX3_readWithoutFirst r x1 M2 (fun M3 => Q M3))))))
abbrev rmJ9_floorMod_f86c9 : Room := { frames := 0, cells := 0, slots := 0, locals := 0 }
def wJ9_floorMod_f86c9_25 (x0 : Int64) (x2 : Int64) (Q : Int64 → Mem → Prop) (v4 : Int64) (M : Mem) : Prop := Q v4 M
def wJ9_floorMod_f86c9 (x0 : Int64) (x2 : Int64) (M : Mem) (Q : Int64 → Mem → Prop) : Prop := (¬ x2 = 0 ∧ ((0 ≤ (lg_cmp (x0 ^^^ x2) (0 : Int64)) → wJ9_floorMod_f86c9_25 x0 x2 Q (x0 - (x0 / x2) * x2) M) ∧ (¬ 0 ≤ (lg_cmp (x0 ^^^ x2) (0 : Int64)) → (((lg_cmp (x0 - (x0 / x2) * x2) (0 : Int64)) = 0 → wJ9_floorMod_f86c9_25 x0 x2 Q (x0 - (x0 / x2) * x2) M) ∧ (¬ (lg_cmp (x0 - (x0 / x2) * x2) (0 : Int64)) = 0 → Q ((x0 - (x0 / x2) * x2) + x2) M)))))
abbrev rmX3_placeInRing : Room := { frames := 1, cells := 0, slots := 0, locals := 25 }
def wX3_placeInRing (r : Nat) (x1 : Int32) (x2 : Int64) (M : Mem) (Q : Int32 → Mem → Prop) : Prop := (wX4_at (r + 16) x1 M (fun r2 M1 => ((0 < r2 → (wX4_at (r + 18) x1 M1 (fun r4 M3 => (wJ9_floorMod_f86c9 (r4.toInt64 + x2) r2.toInt64 M3 (fun r6 M5 => (wX4_at (r + 14) x1 M5 (fun r8 M7 => (wX4_at (r + 12) (r8 + r6.toInt32) M7 (fun r10 M9 => Q r10 M9))))))))) ∧ (¬ 0 < r2 → Q x1 M1))))
abbrev rmX3_placeRead : Room := { frames := 2, cells := 0, slots := 0, locals := 50 }
def wX3_placeRead (r : Nat) (x1 : Int64) (x3 : Int32) (M : Mem) (Q : Int32 → Mem → Prop) : Prop := (wX4_at (r + 6) x3 M (fun r2 M1 => (wX3_placeInRing r r2 x1 M1 (fun r4 M3 => Q r4 M3))))
abbrev rmX3_placeFoundBy : Room := { frames := 2, cells := 0, slots := 0, locals := 50 }
def wX3_placeFoundBy (r : Nat) (x1 : Int64) (x3 : Int32) (M : Mem) (Q : Int32 → Mem → Prop) : Prop := (wX3_placeInRing r x3 (-x1) M (fun r2 M1 => Q r2 M1))
abbrev rmX3_placeAfterFirstReading : Room := { frames := 2, cells := 0, slots := 0, locals := 50 }
def wX3_placeAfterFirstReading (r : Nat) (x1 : Int64) (x3 : Int32) (M : Mem) (Q : Int32 → Mem → Prop) : Prop := (wX4_at (r + 6) x3 M (fun r2 M1 => (wX3_placeInRing r r2 (x1 - (1 : Int64)) M1 (fun r4 M3 => (wX4_at (r + 10) r4 M3 (fun r6 M5 => Q r6 M5))))))
abbrev rmX3_turnAt : Room := { frames := 1, cells := 0, slots := 0, locals := 21 }
def wX3_turnAt (r : Nat) (x1 : Int32) (M : Mem) (Q : Int32 → Mem → Prop) : Prop := (wX4_at (r + 8) x1 M (fun r2 M1 => Q r2 M1))
abbrev rmX3_readInRing : Room := { frames := 2, cells := 0, slots := 0, locals := 42 }
def wX3_readInRing_45 (r : Nat) (x1 : Int32) (k_4 : Int32 → Int32 → Mem → Prop) (Q : Int32 → Mem → Prop) (v2 : Int32) (v3 : Int32) (M : Mem) : Prop := k_4 v2 (v3 + (1 : Int32)) M
def wX3_readInRing_4 (r : Nat) (x1 : Int32) (Q : Int32 → Mem → Prop) : Nat → Int32 → Int32 → Mem → Prop
  | 0, _, _, _ => False
  | n + 1, v2, v3, M => (wX4_at (r + 16) x1 M (fun r3 M2 => ((r3 ≤ v3 → Q v2 M2) ∧ (¬ r3 ≤ v3 → (wX4_at (r + 14) x1 M2 (fun r5 M4 => (wX4_at (r + 12) (r5 + v3) M4 (fun r7 M6 => (wX3_turnAt r r7 M6 (fun r9 M8 => ((r9 = (-4 : Int32) → wX3_readInRing_45 r x1 (wX3_readInRing_4 r x1 Q n) Q v2 v3 M8) ∧ (¬ r9 = (-4 : Int32) → wX3_readInRing_45 r x1 (wX3_readInRing_4 r x1 Q n) Q (v2 + (1 : Int32)) v3 M8))))))))))))
def wX3_readInRing (r : Nat) (x1 : Int32) (M : Mem) (Q : Int32 → Mem → Prop) : Prop := (∃ n1, wX3_readInRing_4 r x1 Q n1 (0 : Int32) (0 : Int32) M)
abbrev rmX3_isNeverRead : Room := { frames := 3, cells := 0, slots := 0, locals := 65 }
def wX3_isNeverRead_13 (r : Nat) (x1 : Int32) (Q : Int32 → Mem → Prop) (s0 : Int32) (M : Mem) : Prop := ((s0 = 0 ∨ s0 = 1) ∧ Q s0 M)
def wX3_isNeverRead (r : Nat) (x1 : Int32) (M : Mem) (Q : Int32 → Mem → Prop) : Prop := (wX3_readInRing r x1 M (fun r2 M1 => ((¬ r2 = 0 → wX3_isNeverRead_13 r x1 Q (0 : Int32) M1) ∧ (r2 = 0 → wX3_isNeverRead_13 r x1 Q (1 : Int32) M1))))
abbrev rmX3_isAlwaysRead : Room := { frames := 3, cells := 0, slots := 0, locals := 65 }
def wX3_isAlwaysRead_21 (r : Nat) (x1 : Int32) (Q : Int32 → Mem → Prop) (s0 : Int32) (M : Mem) : Prop := ((s0 = 0 ∨ s0 = 1) ∧ Q s0 M)
def wX3_isAlwaysRead (r : Nat) (x1 : Int32) (M : Mem) (Q : Int32 → Mem → Prop) : Prop := (wX3_readInRing r x1 M (fun r2 M1 => (wX4_at (r + 16) x1 M1 (fun r4 M3 => ((¬ r2 = r4 → wX3_isAlwaysRead_21 r x1 Q (0 : Int32) M3) ∧ (r2 = r4 → wX3_isAlwaysRead_21 r x1 Q (1 : Int32) M3))))))
abbrev rmX3_commonMultiple : Room := { frames := 0, cells := 0, slots := 0, locals := 0 }
def wX3_commonMultiple_2 (x0 : Int32) (x1 : Int32) (Q : Int32 → Mem → Prop) : Nat → Int32 → Mem → Prop
  | 0, _, _ => False
  | n + 1, v2, M => ((x1 ≤ v2 → Q (x0 * x1) M) ∧ (¬ x1 ≤ v2 → (¬ x1 = 0 ∧ ((¬ ((x0 * v2) - ((x0 * v2) / x1) * x1) = 0 → wX3_commonMultiple_2 x0 x1 Q n (v2 + (1 : Int32)) M) ∧ (((x0 * v2) - ((x0 * v2) / x1) * x1) = 0 → Q (x0 * v2) M)))))
def wX3_commonMultiple (x0 : Int32) (x1 : Int32) (M : Mem) (Q : Int32 → Mem → Prop) : Prop := (∃ n1, wX3_commonMultiple_2 x0 x1 Q n1 (1 : Int32) M)
abbrev rmX3_roundsTogether : Room := { frames := 1, cells := 0, slots := 0, locals := 22 }
def wX3_roundsTogether_4 (r : Nat) (Q : Int32 → Mem → Prop) : Nat → Int32 → Int32 → Mem → Prop
  | 0, _, _, _ => False
  | n + 1, v1, v2, M => (((M r 1) ≤ v2 → Q v1 M) ∧ (¬ (M r 1) ≤ v2 → (wX4_at (r + 16) v2 M (fun r3 M2 => (wX3_commonMultiple v1 r3 M2 (fun r5 M4 => wX3_roundsTogether_4 r Q n r5 (v2 + (1 : Int32)) M4))))))
def wX3_roundsTogether (r : Nat) (M : Mem) (Q : Int32 → Mem → Prop) : Prop := (∃ n1, wX3_roundsTogether_4 r Q n1 (1 : Int32) (0 : Int32) M)
abbrev rmX5_size : Room := { frames := 0, cells := 0, slots := 0, locals := 0 }
def wX5_size (r : Nat) (M : Mem) (Q : Int32 → Mem → Prop) : Prop := Q (M r 1) M
abbrev rmX5_byteAt : Room := { frames := 1, cells := 0, slots := 0, locals := 21 }
def wX5_byteAt_21 (r : Nat) (x1 : Int32) (Q : Int32 → Mem → Prop) (s0 : Int32) (M : Mem) : Prop := Q s0 M
def wX5_byteAt (r : Nat) (x1 : Int32) (M : Mem) (Q : Int32 → Mem → Prop) : Prop := (((M r 1) ≤ x1 → wX5_byteAt_21 r x1 Q (-4 : Int32) M) ∧ (¬ (M r 1) ≤ x1 → (wX4_at (r + 1) x1 M (fun r2 M1 => wX5_byteAt_21 r x1 Q r2 M1))))
abbrev rmX5_append : Room := { frames := 1, cells := 0, slots := 0, locals := 22 }
def wX5_append_5 (r : Nat) (x1 : Int32) (x2 : Int64) (Q : Mem → Prop) : Nat → Int32 → Mem → Prop
  | 0, _, _ => False
  | n + 1, v4, M => ((v4 < 0 → Q M) ∧ (¬ v4 < 0 → (wX4_put (r + 1) (M r 1) (((x2.toUInt64 >>> (((8 : Int32) * v4).toInt64.toUInt64 &&& Int64.toUInt64 63)).toInt64 &&& (255 : Int64)).toInt32) M (fun M2 => wX5_append_5 r x1 x2 Q n (v4 + (-1)) (mu M2 r 1 ((M2 r 1) + (1 : Int32)))))))
def wX5_append (r : Nat) (x1 : Int32) (x2 : Int64) (M : Mem) (Q : Mem → Prop) : Prop := (∃ n1, wX5_append_5 r x1 x2 Q n1 (x1 - (1 : Int32)) M)
abbrev rmX5_clear : Room := { frames := 0, cells := 0, slots := 0, locals := 0 }
def wX5_clear (r : Nat) (M : Mem) (Q : Int32 → Mem → Prop) : Prop := Q (M r 1) (mu M r 1 (0 : Int32))
abbrev rmX7_within : Room := { frames := 0, cells := 0, slots := 0, locals := 0 }
def wX7_within_15 (x0 : Int32) (x1 : Int32) (x2 : Int32) (Q : Int32 → Mem → Prop) (s0 : Int32) (M : Mem) : Prop := ((s0 = 0 ∨ s0 = 1) ∧ Q s0 M)
def wX7_within_14 (x0 : Int32) (x1 : Int32) (x2 : Int32) (Q : Int32 → Mem → Prop) (M : Mem) : Prop := wX7_within_15 x0 x1 x2 Q (0 : Int32) M
def wX7_within (x0 : Int32) (x1 : Int32) (x2 : Int32) (M : Mem) (Q : Int32 → Mem → Prop) : Prop := ((x0 < x1 → wX7_within_14 x0 x1 x2 Q M) ∧ (¬ x0 < x1 → ((x2 < x0 → wX7_within_14 x0 x1 x2 Q M) ∧ (¬ x2 < x0 → wX7_within_15 x0 x1 x2 Q (1 : Int32) M))))
abbrev rmX5_isFigure : Room := { frames := 1, cells := 0, slots := 0, locals := 22 }
def wX5_isFigure (x0 : Int32) (M : Mem) (Q : Int32 → Mem → Prop) : Prop := (wX7_within x0 (48 : Int32) (57 : Int32) M (fun r2 M1 => ((r2 = 0 ∨ r2 = 1) ∧ Q r2 M1)))
abbrev rmX5_figuresFrom : Room := { frames := 2, cells := 0, slots := 0, locals := 42 }
def wX5_figuresFrom_31 (r : Nat) (x1 : Int32) (Q : Int32 → Mem → Prop) (s0 : Int32) (M : Mem) : Prop := Q s0 M
def wX5_figuresFrom (r : Nat) (x1 : Int32) (M : Mem) (Q : Int32 → Mem → Prop) : Prop := (wX5_byteAt r x1 M (fun r2 M1 => (wX5_isFigure r2 M1 (fun r4 M3 => ((¬ r4 = 0 → (wX5_byteAt r (x1 + (1 : Int32)) M3 (fun r6 M5 => (wX5_isFigure r6 M5 (fun r8 M7 => ((r8 = 0 → wX5_figuresFrom_31 r x1 Q (1 : Int32) M7) ∧ (¬ r8 = 0 → wX5_figuresFrom_31 r x1 Q (2 : Int32) M7))))))) ∧ (r4 = 0 → Q (0 : Int32) M3))))))
abbrev rmX5_numberAt : Room := { frames := 2, cells := 0, slots := 0, locals := 42 }
def wX5_numberAt_5 (r : Nat) (x1 : Int32) (x2 : Int32) (Q : Int32 → Mem → Prop) : Nat → Int32 → Int32 → Mem → Prop
  | 0, _, _, _ => False
  | n + 1, v3, v4, M => ((x2 ≤ v4 → Q v3 M) ∧ (¬ x2 ≤ v4 → (wX5_byteAt r (x1 + v4) M (fun r3 M2 => wX5_numberAt_5 r x1 x2 Q n ((((10 : Int32) * v3) + r3) - (48 : Int32)) (v4 + (1 : Int32)) M2))))
def wX5_numberAt (r : Nat) (x1 : Int32) (x2 : Int32) (M : Mem) (Q : Int32 → Mem → Prop) : Prop := (∃ n1, wX5_numberAt_5 r x1 x2 Q n1 (0 : Int32) (0 : Int32) M)
abbrev rmX6_tellNothing : Room := { frames := 0, cells := 0, slots := 0, locals := 0 }
def wX6_tellNothing (r : Nat) (M : Mem) (Q : Mem → Prop) : Prop := Q (mu (mu (mu (mu (mu (mu M r 0 (10 : Int32)) r 1 (9 : Int32)) r 2 (0 : Int32)) r 3 (2 : Int32)) r 6 (0 : Int32)) r 8 (0 : Int32))
abbrev rmX6_numbersWanted : Room := { frames := 0, cells := 0, slots := 0, locals := 0 }
def wX6_numbersWanted (x0 : Int32) (M : Mem) (Q : Int32 → Mem → Prop) : Prop := ((x0 = (108 : Int32) → Q (2 : Int32) M) ∧ (¬ x0 = (108 : Int32) → ((x0 = (109 : Int32) → Q (0 : Int32) M) ∧ (¬ x0 = (109 : Int32) → ((x0 = (110 : Int32) → Q (1 : Int32) M) ∧ (¬ x0 = (110 : Int32) → ((x0 = (111 : Int32) → Q (0 : Int32) M) ∧ (¬ x0 = (111 : Int32) → ((x0 = (112 : Int32) → Q (0 : Int32) M) ∧ (¬ x0 = (112 : Int32) → ((x0 = (113 : Int32) → Q (0 : Int32) M) ∧ (¬ x0 = (113 : Int32) → ((x0 = (114 : Int32) → Q (1 : Int32) M) ∧ (¬ x0 = (114 : Int32) → ((x0 = (115 : Int32) → Q (2 : Int32) M) ∧ (¬ x0 = (115 : Int32) → ((x0 = (116 : Int32) → Q (1 : Int32) M) ∧ (¬ x0 = (116 : Int32) → Q (0 : Int32) M))))))))))))))))))
abbrev rmX6_takeLeafCount : Room := { frames := 1, cells := 0, slots := 0, locals := 22 }
def wX6_takeLeafCount (r : Nat) (x1 : Int32) (M : Mem) (Q : Int32 → Mem → Prop) : Prop := (wX7_within x1 (2 : Int32) (40 : Int32) (mu M r 0 x1) (fun r2 M1 => ((r2 = 0 ∨ r2 = 1) ∧ Q r2 M1)))
abbrev rmX6_takePerReader : Room := { frames := 1, cells := 0, slots := 0, locals := 22 }
def wX6_takePerReader (r : Nat) (x1 : Int32) (M : Mem) (Q : Int32 → Mem → Prop) : Prop := (wX7_within x1 (1 : Int32) (40 : Int32) (mu M r 1 x1) (fun r2 M1 => ((r2 = 0 ∨ r2 = 1) ∧ Q r2 M1)))
abbrev rmX6_takeLaw : Room := { frames := 1, cells := 0, slots := 0, locals := 22 }
def wX6_takeLaw_34 (r : Nat) (x1 : Int32) (x2 : Int32) (Q : Int32 → Mem → Prop) (s0 : Int32) (M : Mem) : Prop := ((s0 = 0 ∨ s0 = 1) ∧ Q s0 M)
def wX6_takeLaw_33 (r : Nat) (x1 : Int32) (x2 : Int32) (Q : Int32 → Mem → Prop) (M : Mem) : Prop := wX6_takeLaw_34 r x1 x2 Q (0 : Int32) M
def wX6_takeLaw (r : Nat) (x1 : Int32) (x2 : Int32) (M : Mem) (Q : Int32 → Mem → Prop) : Prop := (wX7_within x1 (0 : Int32) (3 : Int32) (mu (mu M r 2 x1) r 3 x2) (fun r2 M1 => ((r2 = 0 → wX6_takeLaw_33 r x1 x2 Q M1) ∧ (¬ r2 = 0 → (wX7_within x2 (0 : Int32) (39 : Int32) M1 (fun r4 M3 => ((r4 = 0 → wX6_takeLaw_33 r x1 x2 Q M3) ∧ (¬ r4 = 0 → wX6_takeLaw_34 r x1 x2 Q (1 : Int32) M3))))))))
abbrev rmX6_takeSwap : Room := { frames := 1, cells := 0, slots := 0, locals := 22 }
def wX6_takeSwap_70 (r : Nat) (x1 : Int32) (x2 : Int32) (Q : Int32 → Mem → Prop) (s0 : Int32) (M : Mem) : Prop := ((s0 = 0 ∨ s0 = 1) ∧ Q s0 M)
def wX6_takeSwap_69 (r : Nat) (x1 : Int32) (x2 : Int32) (Q : Int32 → Mem → Prop) (M : Mem) : Prop := wX6_takeSwap_70 r x1 x2 Q (0 : Int32) M
def wX6_takeSwap (r : Nat) (x1 : Int32) (x2 : Int32) (M : Mem) (Q : Int32 → Mem → Prop) : Prop := (((M r 6) < (20 : Int32) → (wX4_put (r + 1) (M r 6) x1 M (fun M1 => (wX4_put (r + 3) (M1 r 6) x2 M1 (fun M2 => (wX7_within x1 (0 : Int32) (39 : Int32) (mu M2 r 6 ((M2 r 6) + (1 : Int32))) (fun r4 M3 => ((r4 = 0 → wX6_takeSwap_69 r x1 x2 Q M3) ∧ (¬ r4 = 0 → (wX7_within x2 (0 : Int32) (39 : Int32) M3 (fun r6 M5 => ((r6 = 0 → wX6_takeSwap_69 r x1 x2 Q M5) ∧ (¬ r6 = 0 → wX6_takeSwap_70 r x1 x2 Q (1 : Int32) M5))))))))))))) ∧ (¬ (M r 6) < (20 : Int32) → (((0 : Int32) = 0 ∨ (0 : Int32) = 1) ∧ Q (0 : Int32) M)))
abbrev rmX6_takeTaleLeaf : Room := { frames := 1, cells := 0, slots := 0, locals := 22 }
def wX6_takeTaleLeaf (r : Nat) (x1 : Int32) (M : Mem) (Q : Int32 → Mem → Prop) : Prop := (((M r 8) < (20 : Int32) → (wX4_put (r + 5) (M r 8) x1 M (fun M1 => (wX7_within x1 (0 : Int32) (39 : Int32) (mu M1 r 8 ((M1 r 8) + (1 : Int32))) (fun r3 M2 => ((r3 = 0 ∨ r3 = 1) ∧ Q r3 M2)))))) ∧ (¬ (M r 8) < (20 : Int32) → (((0 : Int32) = 0 ∨ (0 : Int32) = 1) ∧ Q (0 : Int32) M)))
abbrev rmX6_takeIn : Room := { frames := 2, cells := 0, slots := 0, locals := 44 }
def wX6_takeIn (r : Nat) (x1 : Int32) (x2 : Int32) (x3 : Int32) (M : Mem) (Q : Int32 → Mem → Prop) : Prop := ((x1 = (108 : Int32) → (wX6_takeLaw r x2 x3 M (fun r2 M1 => ((r2 = 0 ∨ r2 = 1) ∧ Q r2 M1)))) ∧ (¬ x1 = (108 : Int32) → ((x1 = (109 : Int32) → (((0 : Int32) = 0 ∨ (0 : Int32) = 1) ∧ Q (0 : Int32) M)) ∧ (¬ x1 = (109 : Int32) → ((x1 = (110 : Int32) → (wX6_takeLeafCount r x2 M (fun r4 M3 => ((r4 = 0 ∨ r4 = 1) ∧ Q r4 M3)))) ∧ (¬ x1 = (110 : Int32) → ((x1 = (111 : Int32) → (((0 : Int32) = 0 ∨ (0 : Int32) = 1) ∧ Q (0 : Int32) M)) ∧ (¬ x1 = (111 : Int32) → ((x1 = (112 : Int32) → (((0 : Int32) = 0 ∨ (0 : Int32) = 1) ∧ Q (0 : Int32) M)) ∧ (¬ x1 = (112 : Int32) → ((x1 = (113 : Int32) → (((0 : Int32) = 0 ∨ (0 : Int32) = 1) ∧ Q (0 : Int32) M)) ∧ (¬ x1 = (113 : Int32) → ((x1 = (114 : Int32) → (wX6_takePerReader r x2 M (fun r6 M5 => ((r6 = 0 ∨ r6 = 1) ∧ Q r6 M5)))) ∧ (¬ x1 = (114 : Int32) → ((x1 = (115 : Int32) → (wX6_takeSwap r x2 x3 M (fun r8 M7 => ((r8 = 0 ∨ r8 = 1) ∧ Q r8 M7)))) ∧ (¬ x1 = (115 : Int32) → ((x1 = (116 : Int32) → (wX6_takeTaleLeaf r x2 M (fun r10 M9 => ((r10 = 0 ∨ r10 = 1) ∧ Q r10 M9)))) ∧ (¬ x1 = (116 : Int32) → (((0 : Int32) = 0 ∨ (0 : Int32) = 1) ∧ Q (0 : Int32) M)))))))))))))))))))
abbrev rmX6_scanItem : Room := { frames := 3, cells := 0, slots := 0, locals := 67 }
def wX6_scanItem_89 (r : Nat) (x1 : Nat) (x2 : Int32) (k_20 : Int32 → Int32 → Int32 → Int32 → Mem → Prop) (Q : Int32 → Mem → Prop) (v3 : Int32) (v4 : Int32) (v5 : Int32) (v6 : Int32) (s0 : Int32) (s1 : Int32) (M : Mem) : Prop := ((s1 = s0 → k_20 v3 v4 (v5 + (1 : Int32)) (v6 + (1 : Int32)) M) ∧ (¬ s1 = s0 → Q (-4 : Int32) M))
def wX6_scanItem_135 (r : Nat) (x1 : Nat) (x2 : Int32) (Q : Int32 → Mem → Prop) (s0 : Int32) (M : Mem) : Prop := Q s0 M
def wX6_scanItem_20 (r : Nat) (x1 : Nat) (x2 : Int32) (Q : Int32 → Mem → Prop) : Nat → Int32 → Int32 → Int32 → Int32 → Mem → Prop
  | 0, _, _, _, _, _ => False
  | n + 1, v3, v4, v5, v6, M => ((v4 ≤ v6 → (wX4_at (r + 7) (0 : Int32) M (fun r7 M6 => (wX4_at (r + 7) (1 : Int32) M6 (fun r9 M8 => (wX6_takeIn r v3 r7 r9 M8 (fun r11 M10 => ((r11 = 0 → wX6_scanItem_135 r x1 x2 Q (-4 : Int32) M10) ∧ (¬ r11 = 0 → wX6_scanItem_135 r x1 x2 Q v5 M10))))))))) ∧ (¬ v4 ≤ v6 → (wX5_figuresFrom x1 v5 M (fun r13 M12 => ((¬ r13 = 0 → (wX5_numberAt x1 v5 r13 M12 (fun r15 M14 => (wX4_put (r + 7) v6 r15 M14 (fun M16 => (wX5_byteAt x1 (v5 + r13) M16 (fun r18 M17 => ((v4 ≤ (v6 + (1 : Int32)) → wX6_scanItem_89 r x1 x2 (wX6_scanItem_20 r x1 x2 Q n) Q v3 v4 (v5 + r13) v6 (59 : Int32) r18 M17) ∧ (¬ v4 ≤ (v6 + (1 : Int32)) → wX6_scanItem_89 r x1 x2 (wX6_scanItem_20 r x1 x2 Q n) Q v3 v4 (v5 + r13) v6 (44 : Int32) r18 M17))))))))) ∧ (r13 = 0 → Q (-4 : Int32) M12))))))
def wX6_scanItem (r : Nat) (x1 : Nat) (x2 : Int32) (M : Mem) (Q : Int32 → Mem → Prop) : Prop := (wX5_byteAt x1 x2 M (fun r2 M1 => (wX6_numbersWanted r2 M1 (fun r4 M3 => (∃ n5, wX6_scanItem_20 r x1 x2 Q n5 r2 r4 (x2 + (1 : Int32)) (0 : Int32) M3)))))
abbrev rmX6_scan : Room := { frames := 4, cells := 0, slots := 0, locals := 94 }
def wX6_scan_6 (r : Nat) (x1 : Nat) (Q : Int32 → Mem → Prop) : Nat → Int32 → Mem → Prop
  | 0, _, _ => False
  | n + 1, v2, M => (wX5_size x1 M (fun r4 M3 => ((r4 ≤ v2 → Q (-4 : Int32) M3) ∧ (¬ r4 ≤ v2 → (wX6_scanItem r x1 v2 M3 (fun r6 M5 => ((v2 < r6 → wX6_scan_6 r x1 Q n r6 M5) ∧ (¬ v2 < r6 → Q v2 M5))))))))
def wX6_scan (r : Nat) (x1 : Nat) (M : Mem) (Q : Int32 → Mem → Prop) : Prop := (wX6_tellNothing r M (fun M1 => (∃ n2, wX6_scan_6 r x1 Q n2 (0 : Int32) M1)))
abbrev rmX6_fitsItsLeaves : Room := { frames := 1, cells := 0, slots := 0, locals := 21 }
def wX6_fitsItsLeaves_40 (r : Nat) (Q : Int32 → Mem → Prop) (M : Mem) : Prop := (((0 : Int32) = 0 ∨ (0 : Int32) = 1) ∧ Q (0 : Int32) M)
def wX6_fitsItsLeaves_50 (r : Nat) (Q : Int32 → Mem → Prop) : Nat → Int32 → Mem → Prop
  | 0, _, _ => False
  | n + 1, v1, M => (((M r 8) ≤ v1 → (((1 : Int32) = 0 ∨ (1 : Int32) = 1) ∧ Q (1 : Int32) M)) ∧ (¬ (M r 8) ≤ v1 → (wX4_at (r + 5) v1 M (fun r8 M7 => ((r8 < (M7 r 0) → wX6_fitsItsLeaves_50 r Q n (v1 + (1 : Int32)) M7) ∧ (¬ r8 < (M7 r 0) → (((0 : Int32) = 0 ∨ (0 : Int32) = 1) ∧ Q (0 : Int32) M7)))))))
def wX6_fitsItsLeaves_2 (r : Nat) (Q : Int32 → Mem → Prop) : Nat → Int32 → Mem → Prop
  | 0, _, _ => False
  | n + 1, v1, M => (((M r 6) ≤ v1 → (∃ n2, wX6_fitsItsLeaves_50 r Q n2 (0 : Int32) M)) ∧ (¬ (M r 6) ≤ v1 → (wX4_at (r + 1) v1 M (fun r4 M3 => (((M3 r 0) ≤ r4 → wX6_fitsItsLeaves_40 r Q M3) ∧ (¬ (M3 r 0) ≤ r4 → (wX4_at (r + 3) v1 M3 (fun r6 M5 => ((r6 < (M5 r 0) → wX6_fitsItsLeaves_2 r Q n (v1 + (1 : Int32)) M5) ∧ (¬ r6 < (M5 r 0) → wX6_fitsItsLeaves_40 r Q M5))))))))))
def wX6_fitsItsLeaves (r : Nat) (M : Mem) (Q : Int32 → Mem → Prop) : Prop := (∃ n1, wX6_fitsItsLeaves_2 r Q n1 (0 : Int32) M)
abbrev rmX6_orderFirst : Room := { frames := 2, cells := 0, slots := 0, locals := 45 }
def wX6_orderFirst_10 (r : Nat) (x1 : Nat) (Q : Mem → Prop) : Nat → Int32 → Mem → Prop
  | 0, _, _ => False
  | n + 1, v2, M => (((M r 6) ≤ v2 → Q M) ∧ (¬ (M r 6) ≤ v2 → (wX4_at (r + 1) v2 M (fun r4 M3 => (wX4_at (r + 3) v2 M3 (fun r6 M5 => (wX1_swap x1 r4 r6 M5 (fun M7 => wX6_orderFirst_10 r x1 Q n (v2 + (1 : Int32)) M7))))))))
def wX6_orderFirst (r : Nat) (x1 : Nat) (M : Mem) (Q : Mem → Prop) : Prop := (wX1_number x1 (M r 0) M (fun M1 => (∃ n2, wX6_orderFirst_10 r x1 Q n2 (0 : Int32) M1)))
abbrev rmX6_toldTurns : Room := { frames := 1, cells := 0, slots := 0, locals := 21 }
def wX6_toldTurns (r : Nat) (M : Mem) (Q : Int32 → Mem → Prop) : Prop := Q (if (M r 8) < (M r 1) then (M r 8) else (M r 1)) M
abbrev rmX6_taleLeaf : Room := { frames := 1, cells := 0, slots := 0, locals := 21 }
def wX6_taleLeaf (r : Nat) (x1 : Int32) (M : Mem) (Q : Int32 → Mem → Prop) : Prop := (wX4_at (r + 5) x1 M (fun r2 M1 => Q r2 M1))
abbrev rmX7_write : Room := { frames := 2, cells := 0, slots := 0, locals := 46 }
def wX7_write (x1 : Int32) (x2 : Int64) (M : Mem) (Q : Int32 → Mem → Prop) : Prop := (wX7_within x1 (1 : Int32) (8 : Int32) M (fun r2 M1 => ((¬ r2 = 0 → (wX5_size 1 M1 (fun r4 M3 => (((r4 + x1) ≤ (300 : Int32) → (wX5_append 1 x1 x2 M3 (fun M5 => (wX5_size 1 M5 (fun r7 M6 => Q r7 M6))))) ∧ (¬ (r4 + x1) ≤ (300 : Int32) → Q (-3 : Int32) M3))))) ∧ (r2 = 0 → Q (-1 : Int32) M1))))
abbrev rmX7_wipe : Room := { frames := 1, cells := 0, slots := 0, locals := 21 }
def wX7_wipe (M : Mem) (Q : Int32 → Mem → Prop) : Prop := (wX5_clear 1 M (fun r2 M1 => Q r2 M1))
abbrev rmX7_fault : Room := { frames := 5, cells := 0, slots := 0, locals := 117 }
def wX7_fault (M : Mem) (Q : Int32 → Mem → Prop) : Prop := (kd (rid (M 0 1)) = 6 ∧ (wX6_scan (rid (M 0 1)) 1 M (fun r3 M2 => Q r3 M2)))
abbrev rmX7_startAnew : Room := { frames := 6, cells := 0, slots := 0, locals := 134 }
def wX7_startAnew (M : Mem) (Q : Mem → Prop) : Prop := (kd (rid (M 0 2)) = 6 ∧ (wX6_orderFirst (rid (M 0 2)) 22 M (fun M2 => (kd (rid (M2 0 2)) = 6 ∧ (wX3_follow 32 (rid (M2 0 2)) M2 (fun M4 => (wX2_startWith 61 22 M4 (fun M5 => Q (mu (mu M5 0 9 (0 : Int32)) 0 13 (0 : Int32))))))))))
abbrev rmX7_lay : Room := { frames := 7, cells := 0, slots := 0, locals := 154 }
def wX7_lay_26 (Q : Int32 → Mem → Prop) (M : Mem) : Prop := Q (-2 : Int32) M
def wX7_lay (M : Mem) (Q : Int32 → Mem → Prop) : Prop := (kd (rid (M 0 1)) = 6 ∧ (wX6_scan (rid (M 0 1)) 1 M (fun r3 M2 => ((¬ r3 = (-4 : Int32) → wX7_lay_26 Q M2) ∧ (r3 = (-4 : Int32) → (kd (rid (M2 0 1)) = 6 ∧ (wX6_fitsItsLeaves (rid (M2 0 1)) M2 (fun r6 M5 => ((¬ r6 = 0 → (kd (rid (M5 0 2)) = 6 ∧ (kd (rid (M5 0 1)) = 6 ∧ (rid (Int32.ofNat (rid (M5 0 1))) = (rid (M5 0 1)) ∧ (rid (Int32.ofNat (rid (M5 0 2))) = (rid (M5 0 2)) ∧ (wX7_startAnew (mu (mu M5 0 2 (Int32.ofNat (rid (M5 0 1)))) 0 1 (Int32.ofNat (rid (M5 0 2)))) (fun M9 => (kd (rid (M9 0 2)) = 6 ∧ Q (M9 (rid (M9 0 2)) 0) M9)))))))) ∧ (r6 = 0 → wX7_lay_26 Q M5))))))))))
abbrev rmX7_isBelowCount : Room := { frames := 1, cells := 0, slots := 0, locals := 22 }
def wX7_isBelowCount (x1 : Int32) (M : Mem) (Q : Int32 → Mem → Prop) : Prop := (kd (rid (M 0 2)) = 6 ∧ (wX7_within x1 (0 : Int32) ((M (rid (M 0 2)) 0) - (1 : Int32)) M (fun r3 M2 => ((r3 = 0 ∨ r3 = 1) ∧ Q r3 M2))))
abbrev rmX7_leaf : Room := { frames := 2, cells := 0, slots := 0, locals := 43 }
def wX7_leaf_17 (x1 : Int32) (x2 : Int32) (Q : Int32 → Mem → Prop) (M : Mem) : Prop := Q (-1 : Int32) M
def wX7_leaf_45 (x1 : Int32) (x2 : Int32) (Q : Int32 → Mem → Prop) (s0 : Int32) (M : Mem) : Prop := Q s0 M
def wX7_leaf (x1 : Int32) (x2 : Int32) (M : Mem) (Q : Int32 → Mem → Prop) : Prop := (wX7_isBelowCount x1 M (fun r2 M1 => ((r2 = 0 → wX7_leaf_17 x1 x2 Q M1) ∧ (¬ r2 = 0 → (wX7_within x2 (0 : Int32) (1 : Int32) M1 (fun r4 M3 => ((¬ r4 = 0 → ((¬ x2 = 0 → (wX1_leafAt 22 x1 M3 (fun r6 M5 => wX7_leaf_45 x1 x2 Q r6 M5))) ∧ (x2 = 0 → (wX1_leafAt 62 x1 M3 (fun r8 M7 => wX7_leaf_45 x1 x2 Q r8 M7))))) ∧ (r4 = 0 → wX7_leaf_17 x1 x2 Q M3))))))))
abbrev rmX7_where : Room := { frames := 2, cells := 0, slots := 0, locals := 43 }
def wX7_where_23 (x1 : Int32) (Q : Int32 → Mem → Prop) (s0 : Int32) (M : Mem) : Prop := Q s0 M
def wX7_where (x1 : Int32) (M : Mem) (Q : Int32 → Mem → Prop) : Prop := (wX7_isBelowCount x1 M (fun r2 M1 => ((r2 = 0 → wX7_where_23 x1 Q (-1 : Int32) M1) ∧ (¬ r2 = 0 → (wX1_placeOf 62 x1 M1 (fun r4 M3 => wX7_where_23 x1 Q r4 M3))))))
abbrev rmX7_read : Room := { frames := 5, cells := 0, slots := 0, locals := 112 }
def wX7_read (M : Mem) (Q : Int32 → Mem → Prop) : Prop := (kd (rid (M 0 2)) = 6 ∧ (wX2_readOne 61 (rid (M 0 2)) M (fun r3 M2 => Q r3 M2)))
abbrev rmX7_finish : Room := { frames := 5, cells := 0, slots := 0, locals := 112 }
def wX7_finish_18 (Q : Int32 → Mem → Prop) : Nat → Int32 → Int32 → Mem → Prop
  | 0, _, _, _ => False
  | n + 1, v1, v2, M => ((v1 ≤ v2 → Q v1 M) ∧ (¬ v1 ≤ v2 → (kd (rid (M 0 2)) = 6 ∧ (wX2_readOne 61 (rid (M 0 2)) M (fun r5 M4 => wX7_finish_18 Q n v1 (v2 + (1 : Int32)) M4)))))
def wX7_finish (M : Mem) (Q : Int32 → Mem → Prop) : Prop := (kd (rid (M 0 2)) = 6 ∧ (∃ n2, wX7_finish_18 Q n2 ((M (rid (M 0 2)) 1) - (M 61 1)) (0 : Int32) M))
abbrev rmX7_change : Room := { frames := 2, cells := 0, slots := 0, locals := 45 }
def wX7_change_16 (x1 : Int32) (x2 : Int32) (Q : Int32 → Mem → Prop) (M : Mem) : Prop := Q (-1 : Int32) M
def wX7_change (x1 : Int32) (x2 : Int32) (M : Mem) (Q : Int32 → Mem → Prop) : Prop := (wX7_isBelowCount x1 M (fun r2 M1 => ((r2 = 0 → wX7_change_16 x1 x2 Q M1) ∧ (¬ r2 = 0 → (wX7_isBelowCount x2 M1 (fun r4 M3 => ((¬ r4 = 0 → (wX1_swap 62 x1 x2 M3 (fun M5 => (wX1_leafAt 62 x1 M5 (fun r7 M6 => Q r7 M6))))) ∧ (r4 = 0 → wX7_change_16 x1 x2 Q M3))))))))
abbrev rmX7_drop : Room := { frames := 3, cells := 0, slots := 0, locals := 69 }
def wX7_drop (x1 : Int32) (M : Mem) (Q : Int32 → Mem → Prop) : Prop := (wX7_within x1 (0 : Int32) (9999 : Int32) M (fun r2 M1 => ((¬ r2 = 0 → (wX2_fall 61 x1 M1 (fun M3 => (wX1_leafAt 62 (0 : Int32) M3 (fun r5 M4 => Q r5 M4))))) ∧ (r2 = 0 → Q (-1 : Int32) M1))))
abbrev rmX7_isReader : Room := { frames := 0, cells := 0, slots := 0, locals := 0 }
def wX7_isReader_19 (x0 : Int64) (Q : Int32 → Mem → Prop) (s0 : Int32) (M : Mem) : Prop := ((s0 = 0 ∨ s0 = 1) ∧ Q s0 M)
def wX7_isReader_18 (x0 : Int64) (Q : Int32 → Mem → Prop) (M : Mem) : Prop := wX7_isReader_19 x0 Q (0 : Int32) M
def wX7_isReader (x0 : Int64) (M : Mem) (Q : Int32 → Mem → Prop) : Prop := (((lg_cmp x0 (0 : Int64)) < 0 → wX7_isReader_18 x0 Q M) ∧ (¬ (lg_cmp x0 (0 : Int64)) < 0 → ((0 < (lg_cmp x0 (1000000000000 : Int64)) → wX7_isReader_18 x0 Q M) ∧ (¬ 0 < (lg_cmp x0 (1000000000000 : Int64)) → wX7_isReader_19 x0 Q (1 : Int32) M))))
abbrev rmX7_isTurn : Room := { frames := 1, cells := 0, slots := 0, locals := 22 }
def wX7_isTurn (x1 : Int32) (M : Mem) (Q : Int32 → Mem → Prop) : Prop := (kd (rid (M 0 2)) = 6 ∧ (wX7_within x1 (0 : Int32) ((M (rid (M 0 2)) 1) - (1 : Int32)) M (fun r3 M2 => ((r3 = 0 ∨ r3 = 1) ∧ Q r3 M2))))
abbrev rmX7_leafHad : Room := { frames := 3, cells := 0, slots := 0, locals := 73 }
def wX7_leafHad (x1 : Int64) (x3 : Int32) (M : Mem) (Q : Int32 → Mem → Prop) : Prop := (wX3_placeRead 32 x1 x3 M (fun r2 M1 => (wX1_leafAt 22 r2 M1 (fun r4 M3 => Q r4 M3))))
abbrev rmX7_has : Room := { frames := 4, cells := 0, slots := 0, locals := 96 }
def wX7_has_15 (x1 : Int64) (x3 : Int32) (Q : Int32 → Mem → Prop) (M : Mem) : Prop := Q (-1 : Int32) M
def wX7_has (x1 : Int64) (x3 : Int32) (M : Mem) (Q : Int32 → Mem → Prop) : Prop := (wX7_isReader x1 M (fun r2 M1 => ((r2 = 0 → wX7_has_15 x1 x3 Q M1) ∧ (¬ r2 = 0 → (wX7_isTurn x3 M1 (fun r4 M3 => ((¬ r4 = 0 → (wX7_leafHad x1 x3 M3 (fun r6 M5 => Q r6 M5))) ∧ (r4 = 0 → wX7_has_15 x1 x3 Q M3))))))))
abbrev rmX7_bit : Room := { frames := 0, cells := 0, slots := 0, locals := 0 }
def wX7_bit (x0 : Int32) (M : Mem) (Q : Int64 → Mem → Prop) : Prop := Q ((1 : Int64) <<< (x0.toInt64 &&& 63)) M
abbrev rmX7_leavesHad : Room := { frames := 4, cells := 0, slots := 0, locals := 96 }
def wX7_leavesHad_5 (x1 : Int64) (Q : Int64 → Mem → Prop) : Nat → Int64 → Int32 → Mem → Prop
  | 0, _, _, _ => False
  | n + 1, v3, v5, M => (kd (rid (M 0 2)) = 6 ∧ (((M (rid (M 0 2)) 1) ≤ v5 → Q v3 M) ∧ (¬ (M (rid (M 0 2)) 1) ≤ v5 → (wX7_leafHad x1 v5 M (fun r4 M3 => (wX7_bit r4 M3 (fun r6 M5 => wX7_leavesHad_5 x1 Q n (v3 ||| r6) (v5 + (1 : Int32)) M5)))))))
def wX7_leavesHad (x1 : Int64) (M : Mem) (Q : Int64 → Mem → Prop) : Prop := (∃ n1, wX7_leavesHad_5 x1 Q n1 (0 : Int64) (0 : Int32) M)
abbrev rmX7_leaves : Room := { frames := 5, cells := 0, slots := 0, locals := 121 }
def wX7_leaves_18 (x1 : Int64) (Q : Int64 → Mem → Prop) (s0 : Int64) (M : Mem) : Prop := Q s0 M
def wX7_leaves (x1 : Int64) (M : Mem) (Q : Int64 → Mem → Prop) : Prop := (wX7_isReader x1 M (fun r2 M1 => ((r2 = 0 → wX7_leaves_18 x1 Q (-1 : Int64) M1) ∧ (¬ r2 = 0 → (wX7_leavesHad x1 M1 (fun r4 M3 => wX7_leaves_18 x1 Q r4 M3))))))
abbrev rmX7_period : Room := { frames := 2, cells := 0, slots := 0, locals := 44 }
def wX7_period (M : Mem) (Q : Int32 → Mem → Prop) : Prop := (wX3_roundsTogether 32 M (fun r2 M1 => Q r2 M1))
abbrev rmX7_ever : Room := { frames := 4, cells := 0, slots := 0, locals := 86 }
def wX7_ever_77 (x1 : Int32) (k_18 : Int64 → Int32 → Mem → Prop) (Q : Int64 → Mem → Prop) (v2 : Int64) (v4 : Int32) (M : Mem) : Prop := k_18 v2 (v4 + (1 : Int32)) M
def wX7_ever_55 (x1 : Int32) (k_18 : Int64 → Int32 → Mem → Prop) (Q : Int64 → Mem → Prop) (v2 : Int64) (v4 : Int32) (s0 : Int32) (M : Mem) : Prop := ((s0 = 0 → wX7_ever_77 x1 (k_18) Q v2 v4 M) ∧ (¬ s0 = 0 → (wX1_leafAt 22 v4 M (fun r10 M9 => (wX7_bit r10 M9 (fun r12 M11 => wX7_ever_77 x1 (k_18) Q (v2 ||| r12) v4 M11))))))
def wX7_ever_18 (x1 : Int32) (Q : Int64 → Mem → Prop) : Nat → Int64 → Int32 → Mem → Prop
  | 0, _, _, _ => False
  | n + 1, v2, v4, M => (kd (rid (M 0 2)) = 6 ∧ (((M (rid (M 0 2)) 0) ≤ v4 → Q v2 M) ∧ (¬ (M (rid (M 0 2)) 0) ≤ v4 → ((¬ x1 = 0 → (wX3_isAlwaysRead 32 v4 M (fun r6 M5 => wX7_ever_55 x1 (wX7_ever_18 x1 Q n) Q v2 v4 r6 M5))) ∧ (x1 = 0 → (wX3_isNeverRead 32 v4 M (fun r8 M7 => wX7_ever_55 x1 (wX7_ever_18 x1 Q n) Q v2 v4 r8 M7)))))))
def wX7_ever (x1 : Int32) (M : Mem) (Q : Int64 → Mem → Prop) : Prop := (wX7_within x1 (0 : Int32) (1 : Int32) M (fun r2 M1 => ((¬ r2 = 0 → (∃ n3, wX7_ever_18 x1 Q n3 (0 : Int64) (0 : Int32) M1)) ∧ (r2 = 0 → Q (-1 : Int64) M1))))
abbrev rmX7_right : Room := { frames := 4, cells := 0, slots := 0, locals := 96 }
def wX7_right_48 (x1 : Int64) (k_14 : Int32 → Int32 → Mem → Prop) (Q : Int32 → Mem → Prop) (v3 : Int32) (v4 : Int32) (M : Mem) : Prop := k_14 v3 (v4 + (1 : Int32)) M
def wX7_right_14 (x1 : Int64) (Q : Int32 → Mem → Prop) : Nat → Int32 → Int32 → Mem → Prop
  | 0, _, _, _ => False
  | n + 1, v3, v4, M => (kd (rid (M 0 2)) = 6 ∧ (wX6_toldTurns (rid (M 0 2)) M (fun r6 M5 => ((r6 ≤ v4 → Q v3 M5) ∧ (¬ r6 ≤ v4 → (wX7_leafHad x1 v4 M5 (fun r8 M7 => (kd (rid (M7 0 2)) = 6 ∧ (wX6_taleLeaf (rid (M7 0 2)) v4 M7 (fun r11 M10 => ((¬ r8 = r11 → wX7_right_48 x1 (wX7_right_14 x1 Q n) Q v3 v4 M10) ∧ (r8 = r11 → wX7_right_48 x1 (wX7_right_14 x1 Q n) Q (v3 + (1 : Int32)) v4 M10))))))))))))
def wX7_right (x1 : Int64) (M : Mem) (Q : Int32 → Mem → Prop) : Prop := (wX7_isReader x1 M (fun r2 M1 => ((¬ r2 = 0 → (∃ n3, wX7_right_14 x1 Q n3 (0 : Int32) (0 : Int32) M1)) ∧ (r2 = 0 → Q (-1 : Int32) M1))))
abbrev rmX7_order : Room := { frames := 3, cells := 0, slots := 0, locals := 73 }
def wX7_order_15 (x1 : Int64) (x3 : Int32) (Q : Int32 → Mem → Prop) (M : Mem) : Prop := Q (-1 : Int32) M
def wX7_order_34 (x1 : Int64) (x3 : Int32) (Q : Int32 → Mem → Prop) : Nat → Int32 → Mem → Prop
  | 0, _, _ => False
  | n + 1, v4, M => (kd (rid (M 0 2)) = 6 ∧ (wX6_toldTurns (rid (M 0 2)) M (fun r10 M9 => ((r10 ≤ v4 → (wX0_holds 52 M9 (fun r12 M11 => ((¬ r12 = 0 → (wX0_fillUp 52 M11 (fun M13 => (wX0_leafAt 52 x3 M13 (fun r15 M14 => Q r15 M14))))) ∧ (r12 = 0 → Q (-4 : Int32) M11))))) ∧ (¬ r10 ≤ v4 → (wX3_placeRead 32 x1 v4 M9 (fun r17 M16 => (kd (rid (M16 0 2)) = 6 ∧ (wX6_taleLeaf (rid (M16 0 2)) v4 M16 (fun r20 M19 => (wX0_bind 52 r17 r20 M19 (fun M21 => wX7_order_34 x1 x3 Q n (v4 + (1 : Int32)) M21))))))))))))
def wX7_order (x1 : Int64) (x3 : Int32) (M : Mem) (Q : Int32 → Mem → Prop) : Prop := (wX7_isReader x1 M (fun r2 M1 => ((r2 = 0 → wX7_order_15 x1 x3 Q M1) ∧ (¬ r2 = 0 → (wX7_isBelowCount x3 M1 (fun r4 M3 => ((¬ r4 = 0 → (kd (rid (M3 0 2)) = 6 ∧ (wX0_begin 52 (M3 (rid (M3 0 2)) 0) M3 (fun M6 => (∃ n7, wX7_order_34 x1 x3 Q n7 (0 : Int32) M6))))) ∧ (r4 = 0 → wX7_order_15 x1 x3 Q M3))))))))
abbrev rmX7_readingsToShowAll : Room := { frames := 4, cells := 0, slots := 0, locals := 90 }
def wX7_readingsToShowAll_30 (x1 : Int32) (x2 : Int32) (Q : Int32 → Mem → Prop) : Nat → Int64 → Int32 → Mem → Prop
  | 0, _, _, _ => False
  | n + 1, v3, v5, M => (kd (rid (M 0 2)) = 6 ∧ ((((2 : Int32) * (M (rid (M 0 2)) 0)) ≤ v5 → Q (-4 : Int32) M) ∧ (¬ ((2 : Int32) * (M (rid (M 0 2)) 0)) ≤ v5 → (wX1_readTop 27 x1 x2 v5 M (fun r9 M8 => (wX7_bit r9 M8 (fun r11 M10 => ((¬ (lg_cmp (v3 &&& (r11 ^^^ (-1 : Int64))) (0 : Int64)) = 0 → wX7_readingsToShowAll_30 x1 x2 Q n (v3 &&& (r11 ^^^ (-1 : Int64))) (v5 + (1 : Int32)) M10) ∧ ((lg_cmp (v3 &&& (r11 ^^^ (-1 : Int64))) (0 : Int64)) = 0 → Q (v5 + (1 : Int32)) M10)))))))))
def wX7_readingsToShowAll (x1 : Int32) (x2 : Int32) (M : Mem) (Q : Int32 → Mem → Prop) : Prop := (kd (rid (M 0 2)) = 6 ∧ (wX7_bit (M (rid (M 0 2)) 0) M (fun r3 M2 => (kd (rid (M2 0 2)) = 6 ∧ (wX1_number 27 (M2 (rid (M2 0 2)) 0) M2 (fun M5 => (∃ n6, wX7_readingsToShowAll_30 x1 x2 Q n6 (r3 - (1 : Int64)) (0 : Int32) M5)))))))
abbrev rmX7_shows : Room := { frames := 5, cells := 0, slots := 0, locals := 115 }
def wX7_shows_17 (x1 : Int32) (x2 : Int32) (Q : Int32 → Mem → Prop) (M : Mem) : Prop := Q (-1 : Int32) M
def wX7_shows (x1 : Int32) (x2 : Int32) (M : Mem) (Q : Int32 → Mem → Prop) : Prop := (wX7_within x1 (0 : Int32) (3 : Int32) M (fun r2 M1 => ((r2 = 0 → wX7_shows_17 x1 x2 Q M1) ∧ (¬ r2 = 0 → (wX7_isBelowCount x2 M1 (fun r4 M3 => ((¬ r4 = 0 → (wX7_readingsToShowAll x1 x2 M3 (fun r6 M5 => Q r6 M5))) ∧ (r4 = 0 → wX7_shows_17 x1 x2 Q M3))))))))
abbrev rmX7_quickest : Room := { frames := 1, cells := 0, slots := 0, locals := 22 }
def wX7_quickest_41 (x1 : Int32) (Q : Int32 → Mem → Prop) (s0 : Int32) (M : Mem) : Prop := Q s0 M
def wX7_quickest (x1 : Int32) (M : Mem) (Q : Int32 → Mem → Prop) : Prop := (wX7_within x1 (0 : Int32) (2 : Int32) M (fun r2 M1 => ((¬ r2 = 0 → ((¬ x1 = 0 → ((¬ x1 = (1 : Int32) → (kd (rid (M1 0 2)) = 6 ∧ wX7_quickest_41 x1 Q (M1 (rid (M1 0 2)) 0) M1)) ∧ (x1 = (1 : Int32) → (kd (rid (M1 0 2)) = 6 ∧ wX7_quickest_41 x1 Q ((M1 (rid (M1 0 2)) 0) - (1 : Int32)) M1)))) ∧ (x1 = 0 → Q (0 : Int32) M1))) ∧ (r2 = 0 → Q (-1 : Int32) M1))))
abbrev rmX7_seen : Room := { frames := 3, cells := 0, slots := 0, locals := 73 }
def wX7_seen_24 (x1 : Int64) (x3 : Int32) (x4 : Int32) (Q : Int32 → Mem → Prop) (M : Mem) : Prop := Q (-1 : Int32) M
def wX7_seen (x1 : Int64) (x3 : Int32) (x4 : Int32) (M : Mem) (Q : Int32 → Mem → Prop) : Prop := (wX7_isReader x1 M (fun r2 M1 => ((r2 = 0 → wX7_seen_24 x1 x3 x4 Q M1) ∧ (¬ r2 = 0 → (wX7_isTurn x3 M1 (fun r4 M3 => ((r4 = 0 → wX7_seen_24 x1 x3 x4 Q M3) ∧ (¬ r4 = 0 → (wX7_isBelowCount x4 M3 (fun r6 M5 => ((¬ r6 = 0 → (((M5 0 9) < (12 : Int32) → (wX3_placeRead 32 x1 x3 M5 (fun r8 M7 => (wX4_put 57 (M5 0 9) r8 M7 (fun M9 => (wX4_put 59 (M9 0 9) x4 M9 (fun M10 => Q ((mu M10 0 9 ((M10 0 9) + (1 : Int32))) 0 9) (mu M10 0 9 ((M10 0 9) + (1 : Int32)))))))))) ∧ (¬ (M5 0 9) < (12 : Int32) → Q (-3 : Int32) M5))) ∧ (r6 = 0 → wX7_seen_24 x1 x3 x4 Q M5))))))))))))
abbrev rmX7_forget : Room := { frames := 0, cells := 0, slots := 0, locals := 0 }
def wX7_forget (M : Mem) (Q : Int32 → Mem → Prop) : Prop := Q (M 0 9) (mu M 0 9 (0 : Int32))
abbrev rmX7_guessFromSeen : Room := { frames := 2, cells := 0, slots := 0, locals := 46 }
def wX7_guessFromSeen_16 (Q : Mem → Prop) : Nat → Int32 → Mem → Prop
  | 0, _, _ => False
  | n + 1, v1, M => (((M 0 9) ≤ v1 → Q M) ∧ (¬ (M 0 9) ≤ v1 → (wX4_at 57 v1 M (fun r5 M4 => (wX4_at 59 v1 M4 (fun r7 M6 => (wX0_bind 52 r5 r7 M6 (fun M8 => wX7_guessFromSeen_16 Q n (v1 + (1 : Int32)) M8))))))))
def wX7_guessFromSeen (M : Mem) (Q : Mem → Prop) : Prop := (kd (rid (M 0 2)) = 6 ∧ (wX0_begin 52 (M (rid (M 0 2)) 0) M (fun M2 => (∃ n3, wX7_guessFromSeen_16 Q n3 (0 : Int32) M2))))
abbrev rmX7_so : Room := { frames := 3, cells := 0, slots := 0, locals := 67 }
def wX7_so_19 (Q : Int32 → Mem → Prop) (s0 : Int32) (M : Mem) : Prop := Q s0 M
def wX7_so (M : Mem) (Q : Int32 → Mem → Prop) : Prop := (wX7_guessFromSeen M (fun M1 => (wX0_holds 52 M1 (fun r3 M2 => ((r3 = 0 → wX7_so_19 Q (0 : Int32) M2) ∧ (¬ r3 = 0 → wX7_so_19 Q (1 : Int32) M2))))))
abbrev rmX7_sure : Room := { frames := 3, cells := 0, slots := 0, locals := 68 }
def wX7_sure_44 (x1 : Int32) (Q : Int32 → Mem → Prop) (M : Mem) : Prop := (wX0_leafAt 52 x1 M (fun r10 M9 => Q r10 M9))
def wX7_sure (x1 : Int32) (M : Mem) (Q : Int32 → Mem → Prop) : Prop := (wX7_isBelowCount x1 M (fun r2 M1 => ((¬ r2 = 0 → (wX7_guessFromSeen M1 (fun M3 => (wX0_holds 52 M3 (fun r5 M4 => ((¬ r5 = 0 → (wX0_isAllButOne 52 M4 (fun r7 M6 => ((r7 = 0 → wX7_sure_44 x1 Q M6) ∧ (¬ r7 = 0 → (wX0_fillUp 52 M6 (fun M8 => wX7_sure_44 x1 Q M8))))))) ∧ (r5 = 0 → Q (-4 : Int32) M4))))))) ∧ (r2 = 0 → Q (-1 : Int32) M1))))
abbrev rmX7_lacks : Room := { frames := 3, cells := 0, slots := 0, locals := 73 }
def wX7_lacks_17 (x1 : Int32) (x2 : Int32) (Q : Int32 → Mem → Prop) (M : Mem) : Prop := Q (-1 : Int32) M
def wX7_lacks_76 (x1 : Int32) (x2 : Int32) (Q : Int32 → Mem → Prop) (s0 : Int32) (M : Mem) : Prop := Q s0 M
def wX7_lacks_31 (x1 : Int32) (x2 : Int32) (Q : Int32 → Mem → Prop) : Nat → Int32 → Int32 → Mem → Prop
  | 0, _, _, _ => False
  | n + 1, v3, v4, M => (((40 : Int32) ≤ v4 → Q (-4 : Int32) M) ∧ (¬ (40 : Int32) ≤ v4 → (wX3_placeFoundBy 32 v4.toInt64 v3 M (fun r9 M8 => (wX3_turnAt 32 r9 M8 (fun r11 M10 => ((r11 = (-4 : Int32) → wX7_lacks_31 x1 x2 Q n v3 (v4 + (1 : Int32)) M10) ∧ (¬ r11 = (-4 : Int32) → ((¬ x2 = 0 → wX7_lacks_76 x1 x2 Q r11 M10) ∧ (x2 = 0 → wX7_lacks_76 x1 x2 Q v4 M10))))))))))
def wX7_lacks (x1 : Int32) (x2 : Int32) (M : Mem) (Q : Int32 → Mem → Prop) : Prop := (wX7_isBelowCount x1 M (fun r2 M1 => ((r2 = 0 → wX7_lacks_17 x1 x2 Q M1) ∧ (¬ r2 = 0 → (wX7_within x2 (0 : Int32) (1 : Int32) M1 (fun r4 M3 => ((¬ r4 = 0 → (wX1_placeOf 22 x1 M3 (fun r6 M5 => (∃ n7, wX7_lacks_31 x1 x2 Q n7 r6 (0 : Int32) M5)))) ∧ (r4 = 0 → wX7_lacks_17 x1 x2 Q M3))))))))
abbrev rmX7_isReadBy : Room := { frames := 3, cells := 0, slots := 0, locals := 73 }
def wX7_isReadBy_27 (x1 : Int32) (x2 : Int32) (Q : Int32 → Mem → Prop) (s0 : Int32) (M : Mem) : Prop := ((s0 = 0 ∨ s0 = 1) ∧ Q s0 M)
def wX7_isReadBy (x1 : Int32) (x2 : Int32) (M : Mem) (Q : Int32 → Mem → Prop) : Prop := (wX3_placeFoundBy 32 x1.toInt64 x2 M (fun r2 M1 => (wX3_turnAt 32 r2 M1 (fun r4 M3 => ((r4 = (-4 : Int32) → wX7_isReadBy_27 x1 x2 Q (0 : Int32) M3) ∧ (¬ r4 = (-4 : Int32) → wX7_isReadBy_27 x1 x2 Q (1 : Int32) M3))))))
abbrev rmX7_notice : Room := { frames := 4, cells := 0, slots := 0, locals := 95 }
def wX7_notice_27 (x1 : Int32) (x2 : Int32) (x3 : Int32) (Q : Int32 → Mem → Prop) (M : Mem) : Prop := Q (-1 : Int32) M
def wX7_notice_93 (x1 : Int32) (x2 : Int32) (x3 : Int32) (k_62 : Int32 → Int32 → Int32 → Int32 → Mem → Prop) (Q : Int32 → Mem → Prop) (v4 : Int32) (v5 : Int32) (v6 : Int32) (v7 : Int32) (M : Mem) : Prop := k_62 v4 v5 v6 (v7 + (1 : Int32)) M
def wX7_notice_90 (x1 : Int32) (x2 : Int32) (x3 : Int32) (k_62 : Int32 → Int32 → Int32 → Int32 → Mem → Prop) (Q : Int32 → Mem → Prop) (v4 : Int32) (v5 : Int32) (v6 : Int32) (v7 : Int32) (M : Mem) : Prop := wX7_notice_93 x1 x2 x3 (k_62) Q v4 v5 (v6 + (1 : Int32)) v7 M
def wX7_notice_62 (x1 : Int32) (x2 : Int32) (x3 : Int32) (Q : Int32 → Mem → Prop) : Nat → Int32 → Int32 → Int32 → Int32 → Mem → Prop
  | 0, _, _, _, _, _ => False
  | n + 1, v4, v5, v6, v7, M => ((x3 ≤ v7 → Q v6 M) ∧ (¬ x3 ≤ v7 → (wX7_isReadBy v7 v4 M (fun r13 M12 => ((¬ r13 = 0 → wX7_notice_90 x1 x2 x3 (wX7_notice_62 x1 x2 x3 Q n) Q v4 v5 v6 v7 M12) ∧ (r13 = 0 → (wX7_isReadBy v7 v5 M12 (fun r15 M14 => ((r15 = 0 → wX7_notice_93 x1 x2 x3 (wX7_notice_62 x1 x2 x3 Q n) Q v4 v5 v6 v7 M14) ∧ (¬ r15 = 0 → wX7_notice_90 x1 x2 x3 (wX7_notice_62 x1 x2 x3 Q n) Q v4 v5 v6 v7 M14))))))))))
def wX7_notice (x1 : Int32) (x2 : Int32) (x3 : Int32) (M : Mem) (Q : Int32 → Mem → Prop) : Prop := (wX7_isBelowCount x1 M (fun r2 M1 => ((r2 = 0 → wX7_notice_27 x1 x2 x3 Q M1) ∧ (¬ r2 = 0 → (wX7_isBelowCount x2 M1 (fun r4 M3 => ((r4 = 0 → wX7_notice_27 x1 x2 x3 Q M3) ∧ (¬ r4 = 0 → (wX7_within x3 (0 : Int32) (1000 : Int32) M3 (fun r6 M5 => ((¬ r6 = 0 → ((¬ x1 = x2 → (wX1_placeOf 22 x1 M5 (fun r8 M7 => (wX1_placeOf 22 x2 M7 (fun r10 M9 => (∃ n11, wX7_notice_62 x1 x2 x3 Q n11 r8 r10 (0 : Int32) (0 : Int32) M9)))))) ∧ (x1 = x2 → Q (0 : Int32) M5))) ∧ (r6 = 0 → wX7_notice_27 x1 x2 x3 Q M5))))))))))))
abbrev rmX7_placeBeforeLaying : Room := { frames := 0, cells := 0, slots := 0, locals := 0 }
def wX7_placeBeforeLaying_19 (x0 : Int32) (x1 : Int32) (Q : Int32 → Mem → Prop) (s0 : Int32) (M : Mem) : Prop := Q s0 M
def wX7_placeBeforeLaying (x0 : Int32) (x1 : Int32) (M : Mem) (Q : Int32 → Mem → Prop) : Prop := ((¬ x0 = x1 → ((x1 ≤ x0 → wX7_placeBeforeLaying_19 x0 x1 Q x0 M) ∧ (¬ x1 ≤ x0 → wX7_placeBeforeLaying_19 x0 x1 Q (x0 + (1 : Int32)) M))) ∧ (x0 = x1 → Q (0 : Int32) M))
abbrev rmX7_rightWhenLaidAt : Room := { frames := 3, cells := 0, slots := 0, locals := 73 }
def wX7_rightWhenLaidAt_58 (x1 : Int32) (x2 : Int32) (k_5 : Int32 → Int32 → Mem → Prop) (Q : Int32 → Mem → Prop) (v3 : Int32) (v4 : Int32) (M : Mem) : Prop := k_5 v3 (v4 + (1 : Int32)) M
def wX7_rightWhenLaidAt_5 (x1 : Int32) (x2 : Int32) (Q : Int32 → Mem → Prop) : Nat → Int32 → Int32 → Mem → Prop
  | 0, _, _, _ => False
  | n + 1, v3, v4, M => (kd (rid (M 0 2)) = 6 ∧ (wX6_toldTurns (rid (M 0 2)) M (fun r4 M3 => ((r4 ≤ v4 → Q v3 M3) ∧ (¬ r4 ≤ v4 → (wX3_placeAfterFirstReading 32 x2.toInt64 v4 M3 (fun r6 M5 => (wX7_placeBeforeLaying r6 x1 M5 (fun r8 M7 => (wX1_leafAt 22 r8 M7 (fun r10 M9 => (kd (rid (M9 0 2)) = 6 ∧ (wX6_taleLeaf (rid (M9 0 2)) v4 M9 (fun r13 M12 => ((¬ r10 = r13 → wX7_rightWhenLaidAt_58 x1 x2 (wX7_rightWhenLaidAt_5 x1 x2 Q n) Q v3 v4 M12) ∧ (r10 = r13 → wX7_rightWhenLaidAt_58 x1 x2 (wX7_rightWhenLaidAt_5 x1 x2 Q n) Q (v3 + (1 : Int32)) v4 M12))))))))))))))))
def wX7_rightWhenLaidAt (x1 : Int32) (x2 : Int32) (M : Mem) (Q : Int32 → Mem → Prop) : Prop := (∃ n1, wX7_rightWhenLaidAt_5 x1 x2 Q n1 (0 : Int32) (0 : Int32) M)
abbrev rmX7_pleased : Room := { frames := 4, cells := 0, slots := 0, locals := 98 }
def wX7_pleased_19 (x1 : Int32) (x2 : Int32) (Q : Int32 → Mem → Prop) (M : Mem) : Prop := Q (-1 : Int32) M
def wX7_pleased_65 (x1 : Int32) (x2 : Int32) (k_30 : Int32 → Int32 → Int32 → Mem → Prop) (Q : Int32 → Mem → Prop) (v3 : Int32) (v4 : Int32) (v5 : Int32) (M : Mem) : Prop := k_30 v3 v4 (v5 + (1 : Int32)) M
def wX7_pleased_81 (x1 : Int32) (x2 : Int32) (Q : Int32 → Mem → Prop) (s0 : Int32) (M : Mem) : Prop := Q s0 M
def wX7_pleased_30 (x1 : Int32) (x2 : Int32) (Q : Int32 → Mem → Prop) : Nat → Int32 → Int32 → Int32 → Mem → Prop
  | 0, _, _, _, _ => False
  | n + 1, v3, v4, v5, M => (kd (rid (M 0 2)) = 6 ∧ (((M (rid (M 0 2)) 0) ≤ v5 → ((¬ x2 = 0 → wX7_pleased_81 x1 x2 Q v4 M) ∧ (x2 = 0 → wX7_pleased_81 x1 x2 Q v3 M))) ∧ (¬ (M (rid (M 0 2)) 0) ≤ v5 → (wX7_rightWhenLaidAt v5 x1 M (fun r8 M7 => ((r8 ≤ v4 → wX7_pleased_65 x1 x2 (wX7_pleased_30 x1 x2 Q n) Q v3 v4 v5 M7) ∧ (¬ r8 ≤ v4 → wX7_pleased_65 x1 x2 (wX7_pleased_30 x1 x2 Q n) Q v5 r8 v5 M7)))))))
def wX7_pleased (x1 : Int32) (x2 : Int32) (M : Mem) (Q : Int32 → Mem → Prop) : Prop := (wX7_within x1 (1 : Int32) (100 : Int32) M (fun r2 M1 => ((r2 = 0 → wX7_pleased_19 x1 x2 Q M1) ∧ (¬ r2 = 0 → (wX7_within x2 (0 : Int32) (1 : Int32) M1 (fun r4 M3 => ((¬ r4 = 0 → (∃ n5, wX7_pleased_30 x1 x2 Q n5 (0 : Int32) (-4 : Int32) (0 : Int32) M3)) ∧ (r4 = 0 → wX7_pleased_19 x1 x2 Q M3))))))))
abbrev rmX7_keptPack : Room := { frames := 0, cells := 0, slots := 0, locals := 0 }
def wX7_keptPack_15 (x1 : Int32) (Q : Nat → Mem → Prop) (s0 : Nat) (M : Mem) : Prop := Q s0 M
def wX7_keptPack (x1 : Int32) (M : Mem) (Q : Nat → Mem → Prop) : Prop := ((¬ x1 = 0 → wX7_keptPack_15 x1 Q 73 M) ∧ (x1 = 0 → wX7_keptPack_15 x1 Q 67 M))
abbrev rmX7_keep : Room := { frames := 4, cells := 0, slots := 0, locals := 85 }
def wX7_keep (M : Mem) (Q : Int32 → Mem → Prop) : Prop := (((M 0 13) < (2 : Int32) → (wX7_keptPack (M 0 13) M (fun r2 M1 => (kd r2 = 2 ∧ (wX2_copyFrom r2 61 M1 (fun M4 => Q ((mu M4 0 13 ((M4 0 13) + (1 : Int32))) 0 13) (mu M4 0 13 ((M4 0 13) + (1 : Int32))))))))) ∧ (¬ (M 0 13) < (2 : Int32) → Q (-3 : Int32) M))
abbrev rmX7_back : Room := { frames := 4, cells := 0, slots := 0, locals := 85 }
def wX7_back (M : Mem) (Q : Int32 → Mem → Prop) : Prop := ((0 < (M 0 13) → (wX7_keptPack ((mu M 0 13 ((M 0 13) - (1 : Int32))) 0 13) (mu M 0 13 ((M 0 13) - (1 : Int32))) (fun r2 M1 => (kd r2 = 2 ∧ (wX2_copyFrom 61 r2 M1 (fun M4 => Q (M4 0 13) M4)))))) ∧ (¬ 0 < (M 0 13) → Q (-2 : Int32) M))
abbrev rmX7_count : Room := { frames := 1, cells := 0, slots := 0, locals := 22 }
def wX7_count (x1 : Int32) (M : Mem) (Q : Int32 → Mem → Prop) : Prop := (wX7_within x1 (0 : Int32) (7 : Int32) M (fun r2 M1 => ((¬ r2 = 0 → ((x1 = (0 : Int32) → (kd (rid (M1 0 2)) = 6 ∧ Q (M1 (rid (M1 0 2)) 0) M1)) ∧ (¬ x1 = (0 : Int32) → ((x1 = (1 : Int32) → (kd (rid (M1 0 2)) = 6 ∧ Q (M1 (rid (M1 0 2)) 1) M1)) ∧ (¬ x1 = (1 : Int32) → ((x1 = (2 : Int32) → (kd (rid (M1 0 2)) = 6 ∧ Q (M1 (rid (M1 0 2)) 8) M1)) ∧ (¬ x1 = (2 : Int32) → ((x1 = (3 : Int32) → Q (M1 61 1) M1) ∧ (¬ x1 = (3 : Int32) → ((x1 = (4 : Int32) → Q (M1 61 2) M1) ∧ (¬ x1 = (4 : Int32) → ((x1 = (5 : Int32) → Q (M1 0 9) M1) ∧ (¬ x1 = (5 : Int32) → ((x1 = (6 : Int32) → Q (M1 0 13) M1) ∧ (¬ x1 = (6 : Int32) → (wX5_size 1 M1 (fun r4 M3 => Q r4 M3))))))))))))))))) ∧ (r2 = 0 → Q (-1 : Int32) M1))))
abbrev rmX8_in : Room := { frames := 0, cells := 0, slots := 0, locals := 0 }
def wX8_in_18 (x0 : Int64) (x2 : Int64) (x4 : Int64) (Q : Int32 → Mem → Prop) (s0 : Int32) (M : Mem) : Prop := ((s0 = 0 ∨ s0 = 1) ∧ Q s0 M)
def wX8_in_17 (x0 : Int64) (x2 : Int64) (x4 : Int64) (Q : Int32 → Mem → Prop) (M : Mem) : Prop := wX8_in_18 x0 x2 x4 Q (0 : Int32) M
def wX8_in (x0 : Int64) (x2 : Int64) (x4 : Int64) (M : Mem) (Q : Int32 → Mem → Prop) : Prop := (((lg_cmp x0 x2) < 0 → wX8_in_17 x0 x2 x4 Q M) ∧ (¬ (lg_cmp x0 x2) < 0 → ((0 < (lg_cmp x0 x4) → wX8_in_17 x0 x2 x4 Q M) ∧ (¬ 0 < (lg_cmp x0 x4) → wX8_in_18 x0 x2 x4 Q (1 : Int32) M))))
abbrev rmX8_noBook : Room := { frames := 0, cells := 0, slots := 0, locals := 0 }
def wX8_noBook (x1 : Int32) (M : Mem) (Q : Mem → Prop) : Prop := (vp_in x1 (ln 81) ∧ (vp_in x1 (ln 82) ∧ (vp_in x1 (ln 83) ∧ (vp_in x1 (ln 84) ∧ (vp_in x1 (ln 85) ∧ (vp_in x1 (ln 87) ∧ Q (mu (mu (mu (mu (mu (mu M 81 x1.toNatClampNeg (10 : Int32)) 82 x1.toNatClampNeg (9 : Int32)) 83 x1.toNatClampNeg (0 : Int32)) 84 x1.toNatClampNeg (2 : Int32)) 85 x1.toNatClampNeg (0 : Int32)) 87 x1.toNatClampNeg (0 : Int32))))))))
abbrev rmX8_write : Room := { frames := 1, cells := 0, slots := 0, locals := 25 }
def wX8_write_34 (x1 : Int32) (x2 : Int64) (Q : Int32 → Mem → Prop) : Nat → Int32 → Mem → Prop
  | 0, _, _ => False
  | n + 1, v4, M => ((v4 < 0 → Q (M 79 0) M) ∧ (¬ v4 < 0 → (vp_in (M 79 0) (ln 80) ∧ wX8_write_34 x1 x2 Q n (v4 + (-1)) (mu (mu M 80 (M 79 0).toNatClampNeg (((x2 >>> (((8 : Int32) * v4).toInt64 &&& 63)) &&& (255 : Int64)).toInt32)) 79 0 (((mu M 80 (M 79 0).toNatClampNeg (((x2 >>> (((8 : Int32) * v4).toInt64 &&& 63)) &&& (255 : Int64)).toInt32)) 79 0) + (1 : Int32))))))
def wX8_write (x1 : Int32) (x2 : Int64) (M : Mem) (Q : Int32 → Mem → Prop) : Prop := (wX8_in x1.toInt64 (1 : Int64) (8 : Int64) M (fun r2 M1 => ((¬ r2 = 0 → ((((M1 79 0) + x1) ≤ (300 : Int32) → (∃ n3, wX8_write_34 x1 x2 Q n3 (x1 - (1 : Int32)) M1)) ∧ (¬ ((M1 79 0) + x1) ≤ (300 : Int32) → Q (-3 : Int32) M1))) ∧ (r2 = 0 → Q (-1 : Int32) M1))))
abbrev rmX8_wipe : Room := { frames := 0, cells := 0, slots := 0, locals := 0 }
def wX8_wipe (M : Mem) (Q : Int32 → Mem → Prop) : Prop := Q (M 79 0) (mu M 79 0 (0 : Int32))
abbrev rmX8_byteAt : Room := { frames := 0, cells := 0, slots := 0, locals := 0 }
def wX8_byteAt_18 (x1 : Int32) (Q : Int32 → Mem → Prop) (s0 : Int32) (M : Mem) : Prop := Q s0 M
def wX8_byteAt (x1 : Int32) (M : Mem) (Q : Int32 → Mem → Prop) : Prop := (((M 79 0) ≤ x1 → wX8_byteAt_18 x1 Q (0 : Int32) M) ∧ (¬ (M 79 0) ≤ x1 → (vp_in x1 (ln 80) ∧ wX8_byteAt_18 x1 Q (M 80 x1.toNatClampNeg) M)))
abbrev rmX8_figures : Room := { frames := 1, cells := 0, slots := 0, locals := 25 }
def wX8_figures_110 (x1 : Int32) (Q : Int32 → Mem → Prop) (M : Mem) : Prop := (((0 : Int32) = 0 ∨ (0 : Int32) = 1) ∧ Q (0 : Int32) M)
def wX8_figures_107 (x1 : Int32) (k_2 : Int32 → Mem → Prop) (Q : Int32 → Mem → Prop) (v2 : Int32) (v4 : Int32) (s0 : Int32) (s1 : Int32) (M : Mem) : Prop := ((s1 = s0 → (vp_in v2 (ln 96) ∧ k_2 (v2 + (1 : Int32)) (mu (mu M 96 v2.toNatClampNeg v4) 79 19 (((mu M 96 v2.toNatClampNeg v4) 79 19) + (1 : Int32))))) ∧ (¬ s1 = s0 → wX8_figures_110 x1 Q M))
def wX8_figures_73 (x1 : Int32) (k_2 : Int32 → Mem → Prop) (Q : Int32 → Mem → Prop) (v2 : Int32) (v3 : Int32) (v4 : Int32) (M : Mem) : Prop := (wX8_in v3.toInt64 (1 : Int64) (2 : Int64) M (fun r10 M9 => ((r10 = 0 → wX8_figures_110 x1 Q M9) ∧ (¬ r10 = 0 → (wX8_byteAt (M9 79 19) M9 (fun r12 M11 => (((x1 - (1 : Int32)) ≤ v2 → wX8_figures_107 x1 (k_2) Q v2 v4 (59 : Int32) r12 M11) ∧ (¬ (x1 - (1 : Int32)) ≤ v2 → wX8_figures_107 x1 (k_2) Q v2 v4 (44 : Int32) r12 M11))))))))
def wX8_figures_12 (x1 : Int32) (k_2 : Int32 → Mem → Prop) (Q : Int32 → Mem → Prop) : Nat → Int32 → Int32 → Int32 → Mem → Prop
  | 0, _, _, _, _ => False
  | n + 1, v2, v3, v4, M => (wX8_byteAt (M 79 19) M (fun r4 M3 => (wX8_in r4.toInt64 (48 : Int64) (57 : Int64) M3 (fun r6 M5 => ((r6 = 0 → wX8_figures_73 x1 (k_2) Q v2 v3 v4 M5) ∧ (¬ r6 = 0 → (((3 : Int32) ≤ v3 → wX8_figures_73 x1 (k_2) Q v2 v3 v4 M5) ∧ (¬ (3 : Int32) ≤ v3 → (wX8_byteAt (M5 79 19) M5 (fun r8 M7 => wX8_figures_12 x1 k_2 Q n v2 (v3 + (1 : Int32)) ((((10 : Int32) * v4) + r8) - (48 : Int32)) (mu M7 79 19 ((M7 79 19) + (1 : Int32)))))))))))))
def wX8_figures_2 (x1 : Int32) (Q : Int32 → Mem → Prop) : Nat → Int32 → Mem → Prop
  | 0, _, _ => False
  | n + 1, v2, M => ((x1 ≤ v2 → (((1 : Int32) = 0 ∨ (1 : Int32) = 1) ∧ Q (1 : Int32) M)) ∧ (¬ x1 ≤ v2 → (∃ n2, wX8_figures_12 x1 (wX8_figures_2 x1 Q n) Q n2 v2 (0 : Int32) (0 : Int32) M)))
def wX8_figures (x1 : Int32) (M : Mem) (Q : Int32 → Mem → Prop) : Prop := (∃ n1, wX8_figures_2 x1 Q n1 (0 : Int32) M)
abbrev rmX8_item : Room := { frames := 2, cells := 0, slots := 0, locals := 49 }
def wX8_item_99 (Q : Int32 → Mem → Prop) (M : Mem) : Prop := (((0 : Int32) = 0 ∨ (0 : Int32) = 1) ∧ Q (0 : Int32) M)
def wX8_item_140 (Q : Int32 → Mem → Prop) (M : Mem) : Prop := (((0 : Int32) = 0 ∨ (0 : Int32) = 1) ∧ Q (0 : Int32) M)
def wX8_item_185 (Q : Int32 → Mem → Prop) (M : Mem) : Prop := (((0 : Int32) = 0 ∨ (0 : Int32) = 1) ∧ Q (0 : Int32) M)
def wX8_item_254 (Q : Int32 → Mem → Prop) (M : Mem) : Prop := (((0 : Int32) = 0 ∨ (0 : Int32) = 1) ∧ Q (0 : Int32) M)
def wX8_item_342 (Q : Int32 → Mem → Prop) (M : Mem) : Prop := (((0 : Int32) = 0 ∨ (0 : Int32) = 1) ∧ Q (0 : Int32) M)
def wX8_item (M : Mem) (Q : Int32 → Mem → Prop) : Prop := (wX8_byteAt (M 79 19) M (fun r2 M1 => ((r2 = (108 : Int32) → (wX8_figures (2 : Int32) (mu M1 79 19 ((M1 79 19) + (1 : Int32))) (fun r4 M3 => ((r4 = 0 → wX8_item_185 Q M3) ∧ (¬ r4 = 0 → (vp_in (0 : Int32) (ln 96) ∧ (((3 : Int32) < (M3 96 (0 : Int32).toNatClampNeg) → wX8_item_185 Q M3) ∧ (¬ (3 : Int32) < (M3 96 (0 : Int32).toNatClampNeg) → (vp_in (1 : Int32) (ln 96) ∧ (((M3 96 (1 : Int32).toNatClampNeg) ≤ (39 : Int32) → (vp_in (0 : Int32) (ln 96) ∧ (vp_in (1 : Int32) (ln 83) ∧ (vp_in (1 : Int32) (ln 96) ∧ (vp_in (1 : Int32) (ln 84) ∧ (((1 : Int32) = 0 ∨ (1 : Int32) = 1) ∧ Q (1 : Int32) (mu (mu M3 83 (1 : Int32).toNatClampNeg (M3 96 (0 : Int32).toNatClampNeg)) 84 (1 : Int32).toNatClampNeg ((mu M3 83 (1 : Int32).toNatClampNeg (M3 96 (0 : Int32).toNatClampNeg)) 96 (1 : Int32).toNatClampNeg)))))))) ∧ (¬ (M3 96 (1 : Int32).toNatClampNeg) ≤ (39 : Int32) → wX8_item_185 Q M3))))))))))) ∧ (¬ r2 = (108 : Int32) → ((r2 = (109 : Int32) → (((0 : Int32) = 0 ∨ (0 : Int32) = 1) ∧ Q (0 : Int32) (mu M1 79 19 ((M1 79 19) + (1 : Int32))))) ∧ (¬ r2 = (109 : Int32) → ((r2 = (110 : Int32) → (wX8_figures (1 : Int32) (mu M1 79 19 ((M1 79 19) + (1 : Int32))) (fun r6 M5 => ((r6 = 0 → wX8_item_99 Q M5) ∧ (¬ r6 = 0 → (vp_in (0 : Int32) (ln 96) ∧ (wX8_in ((M5 96 (0 : Int32).toNatClampNeg).toInt64) (2 : Int64) (40 : Int64) M5 (fun r8 M7 => ((¬ r8 = 0 → (vp_in (0 : Int32) (ln 96) ∧ (vp_in (1 : Int32) (ln 81) ∧ (((1 : Int32) = 0 ∨ (1 : Int32) = 1) ∧ Q (1 : Int32) (mu M7 81 (1 : Int32).toNatClampNeg (M7 96 (0 : Int32).toNatClampNeg)))))) ∧ (r8 = 0 → wX8_item_99 Q M7)))))))))) ∧ (¬ r2 = (110 : Int32) → ((r2 = (111 : Int32) → (((0 : Int32) = 0 ∨ (0 : Int32) = 1) ∧ Q (0 : Int32) (mu M1 79 19 ((M1 79 19) + (1 : Int32))))) ∧ (¬ r2 = (111 : Int32) → ((r2 = (112 : Int32) → (((0 : Int32) = 0 ∨ (0 : Int32) = 1) ∧ Q (0 : Int32) (mu M1 79 19 ((M1 79 19) + (1 : Int32))))) ∧ (¬ r2 = (112 : Int32) → ((r2 = (113 : Int32) → (((0 : Int32) = 0 ∨ (0 : Int32) = 1) ∧ Q (0 : Int32) (mu M1 79 19 ((M1 79 19) + (1 : Int32))))) ∧ (¬ r2 = (113 : Int32) → ((r2 = (114 : Int32) → (wX8_figures (1 : Int32) (mu M1 79 19 ((M1 79 19) + (1 : Int32))) (fun r10 M9 => ((r10 = 0 → wX8_item_140 Q M9) ∧ (¬ r10 = 0 → (vp_in (0 : Int32) (ln 96) ∧ (wX8_in ((M9 96 (0 : Int32).toNatClampNeg).toInt64) (1 : Int64) (40 : Int64) M9 (fun r12 M11 => ((¬ r12 = 0 → (vp_in (0 : Int32) (ln 96) ∧ (vp_in (1 : Int32) (ln 82) ∧ (((1 : Int32) = 0 ∨ (1 : Int32) = 1) ∧ Q (1 : Int32) (mu M11 82 (1 : Int32).toNatClampNeg (M11 96 (0 : Int32).toNatClampNeg)))))) ∧ (r12 = 0 → wX8_item_140 Q M11)))))))))) ∧ (¬ r2 = (114 : Int32) → ((r2 = (115 : Int32) → (wX8_figures (2 : Int32) (mu M1 79 19 ((M1 79 19) + (1 : Int32))) (fun r14 M13 => ((r14 = 0 → wX8_item_254 Q M13) ∧ (¬ r14 = 0 → (vp_in (0 : Int32) (ln 96) ∧ (((39 : Int32) < (M13 96 (0 : Int32).toNatClampNeg) → wX8_item_254 Q M13) ∧ (¬ (39 : Int32) < (M13 96 (0 : Int32).toNatClampNeg) → (vp_in (1 : Int32) (ln 96) ∧ (((39 : Int32) < (M13 96 (1 : Int32).toNatClampNeg) → wX8_item_254 Q M13) ∧ (¬ (39 : Int32) < (M13 96 (1 : Int32).toNatClampNeg) → (vp_in (1 : Int32) (ln 85) ∧ ((¬ (M13 85 (1 : Int32).toNatClampNeg) = (20 : Int32) → (vp_in (1 : Int32) (ln 85) ∧ (vp_in (0 : Int32) (ln 96) ∧ (vp_in ((40 : Int32) + ((2 : Int32) * (M13 85 (1 : Int32).toNatClampNeg))) (ln 86) ∧ (vp_in (1 : Int32) (ln 85) ∧ (vp_in (1 : Int32) (ln 96) ∧ (vp_in ((41 : Int32) + ((2 : Int32) * ((mu M13 86 ((40 : Int32) + ((2 : Int32) * (M13 85 (1 : Int32).toNatClampNeg))).toNatClampNeg (M13 96 (0 : Int32).toNatClampNeg)) 85 (1 : Int32).toNatClampNeg))) (ln 86) ∧ (vp_in (1 : Int32) (ln 85) ∧ (vp_in (1 : Int32) (ln 85) ∧ (((1 : Int32) = 0 ∨ (1 : Int32) = 1) ∧ Q (1 : Int32) (mu (mu (mu M13 86 ((40 : Int32) + ((2 : Int32) * (M13 85 (1 : Int32).toNatClampNeg))).toNatClampNeg (M13 96 (0 : Int32).toNatClampNeg)) 86 ((41 : Int32) + ((2 : Int32) * ((mu M13 86 ((40 : Int32) + ((2 : Int32) * (M13 85 (1 : Int32).toNatClampNeg))).toNatClampNeg (M13 96 (0 : Int32).toNatClampNeg)) 85 (1 : Int32).toNatClampNeg))).toNatClampNeg ((mu M13 86 ((40 : Int32) + ((2 : Int32) * (M13 85 (1 : Int32).toNatClampNeg))).toNatClampNeg (M13 96 (0 : Int32).toNatClampNeg)) 96 (1 : Int32).toNatClampNeg)) 85 (1 : Int32).toNatClampNeg (((mu (mu M13 86 ((40 : Int32) + ((2 : Int32) * (M13 85 (1 : Int32).toNatClampNeg))).toNatClampNeg (M13 96 (0 : Int32).toNatClampNeg)) 86 ((41 : Int32) + ((2 : Int32) * ((mu M13 86 ((40 : Int32) + ((2 : Int32) * (M13 85 (1 : Int32).toNatClampNeg))).toNatClampNeg (M13 96 (0 : Int32).toNatClampNeg)) 85 (1 : Int32).toNatClampNeg))).toNatClampNeg ((mu M13 86 ((40 : Int32) + ((2 : Int32) * (M13 85 (1 : Int32).toNatClampNeg))).toNatClampNeg (M13 96 (0 : Int32).toNatClampNeg)) 96 (1 : Int32).toNatClampNeg)) 85 (1 : Int32).toNatClampNeg) + (1 : Int32))))))))))))) ∧ ((M13 85 (1 : Int32).toNatClampNeg) = (20 : Int32) → wX8_item_254 Q M13)))))))))))))) ∧ (¬ r2 = (115 : Int32) → ((r2 = (116 : Int32) → (wX8_figures (1 : Int32) (mu M1 79 19 ((M1 79 19) + (1 : Int32))) (fun r16 M15 => ((r16 = 0 → wX8_item_342 Q M15) ∧ (¬ r16 = 0 → (vp_in (0 : Int32) (ln 96) ∧ (((39 : Int32) < (M15 96 (0 : Int32).toNatClampNeg) → wX8_item_342 Q M15) ∧ (¬ (39 : Int32) < (M15 96 (0 : Int32).toNatClampNeg) → (vp_in (1 : Int32) (ln 87) ∧ ((¬ (M15 87 (1 : Int32).toNatClampNeg) = (20 : Int32) → (vp_in (1 : Int32) (ln 87) ∧ (vp_in (0 : Int32) (ln 96) ∧ (vp_in ((20 : Int32) + (M15 87 (1 : Int32).toNatClampNeg)) (ln 88) ∧ (vp_in (1 : Int32) (ln 87) ∧ (vp_in (1 : Int32) (ln 87) ∧ (((1 : Int32) = 0 ∨ (1 : Int32) = 1) ∧ Q (1 : Int32) (mu (mu M15 88 ((20 : Int32) + (M15 87 (1 : Int32).toNatClampNeg)).toNatClampNeg (M15 96 (0 : Int32).toNatClampNeg)) 87 (1 : Int32).toNatClampNeg (((mu M15 88 ((20 : Int32) + (M15 87 (1 : Int32).toNatClampNeg)).toNatClampNeg (M15 96 (0 : Int32).toNatClampNeg)) 87 (1 : Int32).toNatClampNeg) + (1 : Int32)))))))))) ∧ ((M15 87 (1 : Int32).toNatClampNeg) = (20 : Int32) → wX8_item_342 Q M15))))))))))) ∧ (¬ r2 = (116 : Int32) → (((0 : Int32) = 0 ∨ (0 : Int32) = 1) ∧ Q (0 : Int32) (mu M1 79 19 ((M1 79 19) + (1 : Int32))))))))))))))))))))))))
abbrev rmX8_readAll : Room := { frames := 3, cells := 0, slots := 0, locals := 70 }
def wX8_readAll_10 (Q : Int32 → Mem → Prop) : Nat → Mem → Prop
  | 0, _ => False
  | n + 1, M => (((M 79 0) ≤ (M 79 19) → Q (-4 : Int32) M) ∧ (¬ (M 79 0) ≤ (M 79 19) → (wX8_item M (fun r4 M3 => ((¬ r4 = 0 → wX8_readAll_10 Q n M3) ∧ (r4 = 0 → Q (M 79 19) M3))))))
def wX8_readAll (M : Mem) (Q : Int32 → Mem → Prop) : Prop := (wX8_noBook (1 : Int32) M (fun M1 => (∃ n2, wX8_readAll_10 Q n2 (mu M1 79 19 (0 : Int32)))))
abbrev rmX8_fault : Room := { frames := 4, cells := 0, slots := 0, locals := 91 }
def wX8_fault (M : Mem) (Q : Int32 → Mem → Prop) : Prop := (wX8_readAll M (fun r2 M1 => Q r2 M1))
abbrev rmX8_areBelow : Room := { frames := 0, cells := 0, slots := 0, locals := 0 }
def wX8_areBelow_43 (k_4 : Int32 → Int32 → Mem → Prop) (Q : Int32 → Mem → Prop) (v2 : Int32) (s0 : Int32) (M : Mem) : Prop := k_4 s0 (v2 + (1 : Int32)) M
def wX8_areBelow_42 (k_4 : Int32 → Int32 → Mem → Prop) (Q : Int32 → Mem → Prop) (v2 : Int32) (M : Mem) : Prop := wX8_areBelow_43 (k_4) Q v2 (0 : Int32) M
def wX8_areBelow_89 (k_52 : Int32 → Int32 → Mem → Prop) (Q : Int32 → Mem → Prop) (v2 : Int32) (s0 : Int32) (M : Mem) : Prop := k_52 s0 (v2 + (1 : Int32)) M
def wX8_areBelow_88 (k_52 : Int32 → Int32 → Mem → Prop) (Q : Int32 → Mem → Prop) (v2 : Int32) (M : Mem) : Prop := wX8_areBelow_89 (k_52) Q v2 (0 : Int32) M
def wX8_areBelow_52 (Q : Int32 → Mem → Prop) : Nat → Int32 → Int32 → Mem → Prop
  | 0, _, _, _ => False
  | n + 1, v1, v2, M => (vp_in (1 : Int32) (ln 87) ∧ (((M 87 (1 : Int32).toNatClampNeg) ≤ v2 → ((v1 = 0 ∨ v1 = 1) ∧ Q v1 M)) ∧ (¬ (M 87 (1 : Int32).toNatClampNeg) ≤ v2 → ((v1 = 0 → wX8_areBelow_88 (wX8_areBelow_52 Q n) Q v2 M) ∧ (¬ v1 = 0 → (vp_in ((20 : Int32) + v2) (ln 88) ∧ (vp_in (1 : Int32) (ln 81) ∧ (((M 81 (1 : Int32).toNatClampNeg) ≤ (M 88 ((20 : Int32) + v2).toNatClampNeg) → wX8_areBelow_88 (wX8_areBelow_52 Q n) Q v2 M) ∧ (¬ (M 81 (1 : Int32).toNatClampNeg) ≤ (M 88 ((20 : Int32) + v2).toNatClampNeg) → wX8_areBelow_89 (wX8_areBelow_52 Q n) Q v2 (1 : Int32) M)))))))))
def wX8_areBelow_4 (Q : Int32 → Mem → Prop) : Nat → Int32 → Int32 → Mem → Prop
  | 0, _, _, _ => False
  | n + 1, v1, v2, M => (vp_in (1 : Int32) (ln 85) ∧ ((((2 : Int32) * (M 85 (1 : Int32).toNatClampNeg)) ≤ v2 → (∃ n2, wX8_areBelow_52 Q n2 v1 (0 : Int32) M)) ∧ (¬ ((2 : Int32) * (M 85 (1 : Int32).toNatClampNeg)) ≤ v2 → ((v1 = 0 → wX8_areBelow_42 (wX8_areBelow_4 Q n) Q v2 M) ∧ (¬ v1 = 0 → (vp_in ((40 : Int32) + v2) (ln 86) ∧ (vp_in (1 : Int32) (ln 81) ∧ (((M 81 (1 : Int32).toNatClampNeg) ≤ (M 86 ((40 : Int32) + v2).toNatClampNeg) → wX8_areBelow_42 (wX8_areBelow_4 Q n) Q v2 M) ∧ (¬ (M 81 (1 : Int32).toNatClampNeg) ≤ (M 86 ((40 : Int32) + v2).toNatClampNeg) → wX8_areBelow_43 (wX8_areBelow_4 Q n) Q v2 (1 : Int32) M)))))))))
def wX8_areBelow (M : Mem) (Q : Int32 → Mem → Prop) : Prop := (∃ n1, wX8_areBelow_4 Q n1 (1 : Int32) (0 : Int32) M)
abbrev rmX8_cut : Room := { frames := 0, cells := 0, slots := 0, locals := 0 }
def wX8_cut_48 (x1 : Nat) (x2 : Int32) (Q : Mem → Prop) : Nat → Int32 → Int32 → Mem → Prop
  | 0, _, _, _ => False
  | n + 1, v3, v5, M => ((v3 ≤ v5 → Q M) ∧ (¬ v3 ≤ v5 → (vp_in v5 (ln 97) ∧ (vp_in (x2 + v5) (ln x1) ∧ wX8_cut_48 x1 x2 Q n v3 (v5 + (1 : Int32)) (mu M x1 (x2 + v5).toNatClampNeg (M 97 v5.toNatClampNeg))))))
def wX8_cut_15 (x1 : Nat) (x2 : Int32) (Q : Mem → Prop) : Nat → Int32 → Int32 → Int32 → Mem → Prop
  | 0, _, _, _, _ => False
  | n + 1, v3, v4, v5, M => ((v3 ≤ v5 → (∃ n2, wX8_cut_48 x1 x2 Q n2 v3 (0 : Int32) M)) ∧ (¬ v3 ≤ v5 → (¬ v3 = 0 ∧ (vp_in (x2 + ((v5 + v4) - ((v5 + v4) / v3) * v3)) (ln x1) ∧ (vp_in v5 (ln 97) ∧ wX8_cut_15 x1 x2 Q n v3 v4 (v5 + (1 : Int32)) (mu M 97 v5.toNatClampNeg (M x1 (x2 + ((v5 + v4) - ((v5 + v4) / v3) * v3)).toNatClampNeg)))))))
def wX8_cut (x1 : Nat) (x2 : Int32) (M : Mem) (Q : Mem → Prop) : Prop := (vp_in (0 : Int32) (ln 81) ∧ (¬ (2 : Int32) = 0 ∧ (∃ n1, wX8_cut_15 x1 x2 Q n1 (M 81 (0 : Int32).toNatClampNeg) ((M 81 (0 : Int32).toNatClampNeg) / (2 : Int32)) (0 : Int32) M)))
abbrev rmX8_layBelow : Room := { frames := 0, cells := 0, slots := 0, locals := 0 }
def wX8_layBelow_8 (x1 : Nat) (x2 : Int32) (x3 : Int32) (Q : Mem → Prop) : Nat → Int32 → Int32 → Mem → Prop
  | 0, _, _, _ => False
  | n + 1, v4, v5, M => ((x3 ≤ v5 → (vp_in (x2 + x3) (ln x1) ∧ Q (mu M x1 (x2 + x3).toNatClampNeg v4))) ∧ (¬ x3 ≤ v5 → (vp_in ((x2 + v5) + (1 : Int32)) (ln x1) ∧ (vp_in (x2 + v5) (ln x1) ∧ wX8_layBelow_8 x1 x2 x3 Q n v4 (v5 + (1 : Int32)) (mu M x1 (x2 + v5).toNatClampNeg (M x1 ((x2 + v5) + (1 : Int32)).toNatClampNeg))))))
def wX8_layBelow (x1 : Nat) (x2 : Int32) (x3 : Int32) (M : Mem) (Q : Mem → Prop) : Prop := (vp_in x2 (ln x1) ∧ (∃ n1, wX8_layBelow_8 x1 x2 x3 Q n1 (M x1 x2.toNatClampNeg) (0 : Int32) M))
abbrev rmX8_goRead : Room := { frames := 1, cells := 0, slots := 0, locals := 25 }
def wX8_goRead_69 (x1 : Nat) (x2 : Int32) (x3 : Int32) (x4 : Int32) (x5 : Int32) (Q : Mem → Prop) (M : Mem) : Prop := Q M
def wX8_goRead_66 (x1 : Nat) (x2 : Int32) (x3 : Int32) (x4 : Int32) (x5 : Int32) (Q : Mem → Prop) (s0 : Int32) (s1 : Int32) (M : Mem) : Prop := (wX8_layBelow x1 s1 s0 M (fun M2 => wX8_goRead_69 x1 x2 x3 x4 x5 Q M2))
def wX8_goRead_59 (x1 : Nat) (x2 : Int32) (x3 : Int32) (x4 : Int32) (x5 : Int32) (Q : Mem → Prop) (v7 : Int32) (s0 : Int32) (M : Mem) : Prop := wX8_goRead_66 x1 x2 x3 x4 x5 Q v7 s0 M
def wX8_goRead_64 (x1 : Nat) (x2 : Int32) (x3 : Int32) (x4 : Int32) (x5 : Int32) (Q : Mem → Prop) (v6 : Int32) (s0 : Int32) (M : Mem) : Prop := wX8_goRead_66 x1 x2 x3 x4 x5 Q v6 s0 M
def wX8_goRead_24 (x1 : Nat) (x2 : Int32) (x3 : Int32) (x4 : Int32) (x5 : Int32) (Q : Mem → Prop) (v6 : Int32) (s0 : Int32) (M : Mem) : Prop := ((¬ x3 = (3 : Int32) → ((x3 = 0 → wX8_goRead_59 x1 x2 x3 x4 x5 Q s0 x2 M) ∧ (¬ x3 = 0 → ((¬ x3 = (2 : Int32) → wX8_goRead_64 x1 x2 x3 x4 x5 Q v6 x2 M) ∧ (x3 = (2 : Int32) → (¬ (2 : Int32) = 0 ∧ ((¬ (x5 - (x5 / (2 : Int32)) * (2 : Int32)) = 0 → wX8_goRead_64 x1 x2 x3 x4 x5 Q v6 x2 M) ∧ ((x5 - (x5 / (2 : Int32)) * (2 : Int32)) = 0 → wX8_goRead_59 x1 x2 x3 x4 x5 Q s0 x2 M)))))))) ∧ (x3 = (3 : Int32) → (wX8_cut x1 x2 M (fun M1 => wX8_goRead_69 x1 x2 x3 x4 x5 Q M1))))
def wX8_goRead (x1 : Nat) (x2 : Int32) (x3 : Int32) (x4 : Int32) (x5 : Int32) (M : Mem) (Q : Mem → Prop) : Prop := (vp_in (0 : Int32) (ln 81) ∧ ((((M 81 (0 : Int32).toNatClampNeg) - (1 : Int32)) ≤ x4 → wX8_goRead_24 x1 x2 x3 x4 x5 Q ((M 81 (0 : Int32).toNatClampNeg) - (1 : Int32)) ((M 81 (0 : Int32).toNatClampNeg) - (1 : Int32)) M) ∧ (¬ ((M 81 (0 : Int32).toNatClampNeg) - (1 : Int32)) ≤ x4 → wX8_goRead_24 x1 x2 x3 x4 x5 Q ((M 81 (0 : Int32).toNatClampNeg) - (1 : Int32)) x4 M)))
abbrev rmX8_layOne : Room := { frames := 2, cells := 0, slots := 0, locals := 52 }
def wX8_layOne_23 (Q : Mem → Prop) : Nat → Int32 → Mem → Prop
  | 0, _, _ => False
  | n + 1, v1, M => (vp_in (0 : Int32) (ln 82) ∧ (((M 82 (0 : Int32).toNatClampNeg) ≤ v1 → Q M) ∧ (¬ (M 82 (0 : Int32).toNatClampNeg) ≤ v1 → (vp_in (0 : Int32) (ln 99) ∧ (vp_in v1 (ln 98) ∧ (vp_in (0 : Int32) (ln 83) ∧ (vp_in (0 : Int32) (ln 84) ∧ (wX8_goRead 99 (0 : Int32) ((mu M 98 v1.toNatClampNeg (M 99 (0 : Int32).toNatClampNeg)) 83 (0 : Int32).toNatClampNeg) ((mu M 98 v1.toNatClampNeg (M 99 (0 : Int32).toNatClampNeg)) 84 (0 : Int32).toNatClampNeg) v1 (mu M 98 v1.toNatClampNeg (M 99 (0 : Int32).toNatClampNeg)) (fun M3 => wX8_layOne_23 Q n (v1 + (1 : Int32)) M3)))))))))
def wX8_layOne_2 (Q : Mem → Prop) : Nat → Int32 → Mem → Prop
  | 0, _, _ => False
  | n + 1, v1, M => (((40 : Int32) ≤ v1 → (∃ n2, wX8_layOne_23 Q n2 (0 : Int32) M)) ∧ (¬ (40 : Int32) ≤ v1 → (vp_in v1 (ln 99) ∧ wX8_layOne_2 Q n (v1 + (1 : Int32)) (mu M 99 v1.toNatClampNeg v1))))
def wX8_layOne (M : Mem) (Q : Mem → Prop) : Prop := (∃ n1, wX8_layOne_2 Q n1 (0 : Int32) M)
abbrev rmX8_layBook : Room := { frames := 3, cells := 0, slots := 0, locals := 73 }
def wX8_layBook_99 (Q : Mem → Prop) : Nat → Int32 → Mem → Prop
  | 0, _, _ => False
  | n + 1, v1, M => (((40 : Int32) ≤ v1 → (vp_in (0 : Int32) (ln 91) ∧ (vp_in (0 : Int32) (ln 92) ∧ (wX8_layOne (mu (mu (mu (mu M 91 (0 : Int32).toNatClampNeg (0 : Int32)) 92 (0 : Int32).toNatClampNeg (0 : Int32)) 79 14 (0 : Int32)) 79 15 (0 : Int32)) (fun M4 => Q M4))))) ∧ (¬ (40 : Int32) ≤ v1 → (vp_in v1 (ln 89) ∧ (vp_in v1 (ln 90) ∧ wX8_layBook_99 Q n (v1 + (1 : Int32)) (mu M 90 v1.toNatClampNeg (M 89 v1.toNatClampNeg))))))
def wX8_layBook_23 (Q : Mem → Prop) : Nat → Int32 → Mem → Prop
  | 0, _, _ => False
  | n + 1, v1, M => (vp_in (0 : Int32) (ln 85) ∧ (((M 85 (0 : Int32).toNatClampNeg) ≤ v1 → (∃ n3, wX8_layBook_99 Q n3 (0 : Int32) M)) ∧ (¬ (M 85 (0 : Int32).toNatClampNeg) ≤ v1 → (vp_in ((2 : Int32) * v1) (ln 86) ∧ (vp_in (M 86 ((2 : Int32) * v1).toNatClampNeg) (ln 89) ∧ (vp_in ((2 : Int32) * v1) (ln 86) ∧ (vp_in (((2 : Int32) * v1) + (1 : Int32)) (ln 86) ∧ (vp_in (M 86 (((2 : Int32) * v1) + (1 : Int32)).toNatClampNeg) (ln 89) ∧ (vp_in (M 86 ((2 : Int32) * v1).toNatClampNeg) (ln 89) ∧ (vp_in (((2 : Int32) * v1) + (1 : Int32)) (ln 86) ∧ (vp_in ((mu M 89 (M 86 ((2 : Int32) * v1).toNatClampNeg).toNatClampNeg (M 89 (M 86 (((2 : Int32) * v1) + (1 : Int32)).toNatClampNeg).toNatClampNeg)) 86 (((2 : Int32) * v1) + (1 : Int32)).toNatClampNeg) (ln 89) ∧ wX8_layBook_23 Q n (v1 + (1 : Int32)) (mu (mu M 89 (M 86 ((2 : Int32) * v1).toNatClampNeg).toNatClampNeg (M 89 (M 86 (((2 : Int32) * v1) + (1 : Int32)).toNatClampNeg).toNatClampNeg)) 89 ((mu M 89 (M 86 ((2 : Int32) * v1).toNatClampNeg).toNatClampNeg (M 89 (M 86 (((2 : Int32) * v1) + (1 : Int32)).toNatClampNeg).toNatClampNeg)) 86 (((2 : Int32) * v1) + (1 : Int32)).toNatClampNeg).toNatClampNeg (M 89 (M 86 ((2 : Int32) * v1).toNatClampNeg).toNatClampNeg)))))))))))))
def wX8_layBook_2 (Q : Mem → Prop) : Nat → Int32 → Mem → Prop
  | 0, _, _ => False
  | n + 1, v1, M => (((40 : Int32) ≤ v1 → (∃ n2, wX8_layBook_23 Q n2 (0 : Int32) M)) ∧ (¬ (40 : Int32) ≤ v1 → (vp_in v1 (ln 89) ∧ wX8_layBook_2 Q n (v1 + (1 : Int32)) (mu M 89 v1.toNatClampNeg v1))))
def wX8_layBook (M : Mem) (Q : Mem → Prop) : Prop := (∃ n1, wX8_layBook_2 Q n1 (0 : Int32) M)
abbrev rmX8_lay : Room := { frames := 4, cells := 0, slots := 0, locals := 95 }
def wX8_lay_16 (Q : Int32 → Mem → Prop) (M : Mem) : Prop := Q (-2 : Int32) M
def wX8_lay_122 (Q : Int32 → Mem → Prop) : Nat → Int32 → Mem → Prop
  | 0, _, _ => False
  | n + 1, v1, M => (((20 : Int32) ≤ v1 → (wX8_layBook M (fun M7 => (vp_in (0 : Int32) (ln 81) ∧ Q (M7 81 (0 : Int32).toNatClampNeg) M7)))) ∧ (¬ (20 : Int32) ≤ v1 → (vp_in ((20 : Int32) + v1) (ln 88) ∧ (vp_in v1 (ln 88) ∧ wX8_lay_122 Q n (v1 + (1 : Int32)) (mu M 88 v1.toNatClampNeg (M 88 ((20 : Int32) + v1).toNatClampNeg))))))
def wX8_lay_93 (Q : Int32 → Mem → Prop) : Nat → Int32 → Mem → Prop
  | 0, _, _ => False
  | n + 1, v1, M => (((40 : Int32) ≤ v1 → (∃ n6, wX8_lay_122 Q n6 (0 : Int32) M)) ∧ (¬ (40 : Int32) ≤ v1 → (vp_in ((40 : Int32) + v1) (ln 86) ∧ (vp_in v1 (ln 86) ∧ wX8_lay_93 Q n (v1 + (1 : Int32)) (mu M 86 v1.toNatClampNeg (M 86 ((40 : Int32) + v1).toNatClampNeg))))))
def wX8_lay (M : Mem) (Q : Int32 → Mem → Prop) : Prop := (wX8_readAll M (fun r2 M1 => ((¬ r2 = (-4 : Int32) → wX8_lay_16 Q M1) ∧ (r2 = (-4 : Int32) → (wX8_areBelow M1 (fun r4 M3 => ((¬ r4 = 0 → (vp_in (1 : Int32) (ln 81) ∧ (vp_in (0 : Int32) (ln 81) ∧ (vp_in (1 : Int32) (ln 82) ∧ (vp_in (0 : Int32) (ln 82) ∧ (vp_in (1 : Int32) (ln 83) ∧ (vp_in (0 : Int32) (ln 83) ∧ (vp_in (1 : Int32) (ln 84) ∧ (vp_in (0 : Int32) (ln 84) ∧ (vp_in (1 : Int32) (ln 85) ∧ (vp_in (0 : Int32) (ln 85) ∧ (vp_in (1 : Int32) (ln 87) ∧ (vp_in (0 : Int32) (ln 87) ∧ (∃ n5, wX8_lay_93 Q n5 (0 : Int32) (mu (mu (mu (mu (mu (mu M3 81 (0 : Int32).toNatClampNeg (M3 81 (1 : Int32).toNatClampNeg)) 82 (0 : Int32).toNatClampNeg ((mu M3 81 (0 : Int32).toNatClampNeg (M3 81 (1 : Int32).toNatClampNeg)) 82 (1 : Int32).toNatClampNeg)) 83 (0 : Int32).toNatClampNeg ((mu (mu M3 81 (0 : Int32).toNatClampNeg (M3 81 (1 : Int32).toNatClampNeg)) 82 (0 : Int32).toNatClampNeg ((mu M3 81 (0 : Int32).toNatClampNeg (M3 81 (1 : Int32).toNatClampNeg)) 82 (1 : Int32).toNatClampNeg)) 83 (1 : Int32).toNatClampNeg)) 84 (0 : Int32).toNatClampNeg ((mu (mu (mu M3 81 (0 : Int32).toNatClampNeg (M3 81 (1 : Int32).toNatClampNeg)) 82 (0 : Int32).toNatClampNeg ((mu M3 81 (0 : Int32).toNatClampNeg (M3 81 (1 : Int32).toNatClampNeg)) 82 (1 : Int32).toNatClampNeg)) 83 (0 : Int32).toNatClampNeg ((mu (mu M3 81 (0 : Int32).toNatClampNeg (M3 81 (1 : Int32).toNatClampNeg)) 82 (0 : Int32).toNatClampNeg ((mu M3 81 (0 : Int32).toNatClampNeg (M3 81 (1 : Int32).toNatClampNeg)) 82 (1 : Int32).toNatClampNeg)) 83 (1 : Int32).toNatClampNeg)) 84 (1 : Int32).toNatClampNeg)) 85 (0 : Int32).toNatClampNeg ((mu (mu (mu (mu M3 81 (0 : Int32).toNatClampNeg (M3 81 (1 : Int32).toNatClampNeg)) 82 (0 : Int32).toNatClampNeg ((mu M3 81 (0 : Int32).toNatClampNeg (M3 81 (1 : Int32).toNatClampNeg)) 82 (1 : Int32).toNatClampNeg)) 83 (0 : Int32).toNatClampNeg ((mu (mu M3 81 (0 : Int32).toNatClampNeg (M3 81 (1 : Int32).toNatClampNeg)) 82 (0 : Int32).toNatClampNeg ((mu M3 81 (0 : Int32).toNatClampNeg (M3 81 (1 : Int32).toNatClampNeg)) 82 (1 : Int32).toNatClampNeg)) 83 (1 : Int32).toNatClampNeg)) 84 (0 : Int32).toNatClampNeg ((mu (mu (mu M3 81 (0 : Int32).toNatClampNeg (M3 81 (1 : Int32).toNatClampNeg)) 82 (0 : Int32).toNatClampNeg ((mu M3 81 (0 : Int32).toNatClampNeg (M3 81 (1 : Int32).toNatClampNeg)) 82 (1 : Int32).toNatClampNeg)) 83 (0 : Int32).toNatClampNeg ((mu (mu M3 81 (0 : Int32).toNatClampNeg (M3 81 (1 : Int32).toNatClampNeg)) 82 (0 : Int32).toNatClampNeg ((mu M3 81 (0 : Int32).toNatClampNeg (M3 81 (1 : Int32).toNatClampNeg)) 82 (1 : Int32).toNatClampNeg)) 83 (1 : Int32).toNatClampNeg)) 84 (1 : Int32).toNatClampNeg)) 85 (1 : Int32).toNatClampNeg)) 87 (0 : Int32).toNatClampNeg ((mu (mu (mu (mu (mu M3 81 (0 : Int32).toNatClampNeg (M3 81 (1 : Int32).toNatClampNeg)) 82 (0 : Int32).toNatClampNeg ((mu M3 81 (0 : Int32).toNatClampNeg (M3 81 (1 : Int32).toNatClampNeg)) 82 (1 : Int32).toNatClampNeg)) 83 (0 : Int32).toNatClampNeg ((mu (mu M3 81 (0 : Int32).toNatClampNeg (M3 81 (1 : Int32).toNatClampNeg)) 82 (0 : Int32).toNatClampNeg ((mu M3 81 (0 : Int32).toNatClampNeg (M3 81 (1 : Int32).toNatClampNeg)) 82 (1 : Int32).toNatClampNeg)) 83 (1 : Int32).toNatClampNeg)) 84 (0 : Int32).toNatClampNeg ((mu (mu (mu M3 81 (0 : Int32).toNatClampNeg (M3 81 (1 : Int32).toNatClampNeg)) 82 (0 : Int32).toNatClampNeg ((mu M3 81 (0 : Int32).toNatClampNeg (M3 81 (1 : Int32).toNatClampNeg)) 82 (1 : Int32).toNatClampNeg)) 83 (0 : Int32).toNatClampNeg ((mu (mu M3 81 (0 : Int32).toNatClampNeg (M3 81 (1 : Int32).toNatClampNeg)) 82 (0 : Int32).toNatClampNeg ((mu M3 81 (0 : Int32).toNatClampNeg (M3 81 (1 : Int32).toNatClampNeg)) 82 (1 : Int32).toNatClampNeg)) 83 (1 : Int32).toNatClampNeg)) 84 (1 : Int32).toNatClampNeg)) 85 (0 : Int32).toNatClampNeg ((mu (mu (mu (mu M3 81 (0 : Int32).toNatClampNeg (M3 81 (1 : Int32).toNatClampNeg)) 82 (0 : Int32).toNatClampNeg ((mu M3 81 (0 : Int32).toNatClampNeg (M3 81 (1 : Int32).toNatClampNeg)) 82 (1 : Int32).toNatClampNeg)) 83 (0 : Int32).toNatClampNeg ((mu (mu M3 81 (0 : Int32).toNatClampNeg (M3 81 (1 : Int32).toNatClampNeg)) 82 (0 : Int32).toNatClampNeg ((mu M3 81 (0 : Int32).toNatClampNeg (M3 81 (1 : Int32).toNatClampNeg)) 82 (1 : Int32).toNatClampNeg)) 83 (1 : Int32).toNatClampNeg)) 84 (0 : Int32).toNatClampNeg ((mu (mu (mu M3 81 (0 : Int32).toNatClampNeg (M3 81 (1 : Int32).toNatClampNeg)) 82 (0 : Int32).toNatClampNeg ((mu M3 81 (0 : Int32).toNatClampNeg (M3 81 (1 : Int32).toNatClampNeg)) 82 (1 : Int32).toNatClampNeg)) 83 (0 : Int32).toNatClampNeg ((mu (mu M3 81 (0 : Int32).toNatClampNeg (M3 81 (1 : Int32).toNatClampNeg)) 82 (0 : Int32).toNatClampNeg ((mu M3 81 (0 : Int32).toNatClampNeg (M3 81 (1 : Int32).toNatClampNeg)) 82 (1 : Int32).toNatClampNeg)) 83 (1 : Int32).toNatClampNeg)) 84 (1 : Int32).toNatClampNeg)) 85 (1 : Int32).toNatClampNeg)) 87 (1 : Int32).toNatClampNeg)))))))))))))))) ∧ (r4 = 0 → wX8_lay_16 Q M3))))))))
abbrev rmX8_isLeaf : Room := { frames := 1, cells := 0, slots := 0, locals := 25 }
def wX8_isLeaf (x1 : Int32) (M : Mem) (Q : Int32 → Mem → Prop) : Prop := (vp_in (0 : Int32) (ln 81) ∧ (wX8_in x1.toInt64 (0 : Int64) (((M 81 (0 : Int32).toNatClampNeg) - (1 : Int32)).toInt64) M (fun r2 M1 => ((r2 = 0 ∨ r2 = 1) ∧ Q r2 M1))))
abbrev rmX8_leaf : Room := { frames := 2, cells := 0, slots := 0, locals := 46 }
def wX8_leaf_18 (x1 : Int32) (x2 : Int32) (Q : Int32 → Mem → Prop) (M : Mem) : Prop := Q (-1 : Int32) M
def wX8_leaf_39 (x1 : Int32) (x2 : Int32) (Q : Int32 → Mem → Prop) (s0 : Int32) (M : Mem) : Prop := Q s0 M
def wX8_leaf (x1 : Int32) (x2 : Int32) (M : Mem) (Q : Int32 → Mem → Prop) : Prop := (wX8_isLeaf x1 M (fun r2 M1 => ((r2 = 0 → wX8_leaf_18 x1 x2 Q M1) ∧ (¬ r2 = 0 → (wX8_in x2.toInt64 (0 : Int64) (1 : Int64) M1 (fun r4 M3 => ((¬ r4 = 0 → ((¬ x2 = 0 → (vp_in x1 (ln 89) ∧ wX8_leaf_39 x1 x2 Q (M3 89 x1.toNatClampNeg) M3)) ∧ (x2 = 0 → (vp_in x1 (ln 90) ∧ wX8_leaf_39 x1 x2 Q (M3 90 x1.toNatClampNeg) M3)))) ∧ (r4 = 0 → wX8_leaf_18 x1 x2 Q M3))))))))
abbrev rmX8_where : Room := { frames := 2, cells := 0, slots := 0, locals := 46 }
def wX8_where_12 (x1 : Int32) (Q : Int32 → Mem → Prop) : Nat → Int32 → Mem → Prop
  | 0, _, _ => False
  | n + 1, v2, M => (vp_in v2 (ln 90) ∧ (((M 90 v2.toNatClampNeg) = x1 → Q v2 M) ∧ (¬ (M 90 v2.toNatClampNeg) = x1 → wX8_where_12 x1 Q n (v2 + (1 : Int32)) M)))
def wX8_where (x1 : Int32) (M : Mem) (Q : Int32 → Mem → Prop) : Prop := (wX8_isLeaf x1 M (fun r2 M1 => ((¬ r2 = 0 → (∃ n3, wX8_where_12 x1 Q n3 (0 : Int32) M1)) ∧ (r2 = 0 → Q (-1 : Int32) M1))))
abbrev rmX8_read : Room := { frames := 2, cells := 0, slots := 0, locals := 52 }
def wX8_read_76 (Q : Int32 → Mem → Prop) (v1 : Int32) (M : Mem) : Prop := Q v1 M
def wX8_read (M : Mem) (Q : Int32 → Mem → Prop) : Prop := (vp_in (0 : Int32) (ln 90) ∧ (vp_in (0 : Int32) (ln 83) ∧ (vp_in (0 : Int32) (ln 84) ∧ (vp_in (0 : Int32) (ln 91) ∧ (wX8_goRead 90 (0 : Int32) (M 83 (0 : Int32).toNatClampNeg) (M 84 (0 : Int32).toNatClampNeg) (M 91 (0 : Int32).toNatClampNeg) M (fun M1 => (vp_in (0 : Int32) (ln 91) ∧ (vp_in (0 : Int32) (ln 91) ∧ (vp_in (0 : Int32) (ln 91) ∧ (vp_in (0 : Int32) (ln 82) ∧ ((¬ ((mu M1 91 (0 : Int32).toNatClampNeg ((M1 91 (0 : Int32).toNatClampNeg) + (1 : Int32))) 91 (0 : Int32).toNatClampNeg) = ((mu M1 91 (0 : Int32).toNatClampNeg ((M1 91 (0 : Int32).toNatClampNeg) + (1 : Int32))) 82 (0 : Int32).toNatClampNeg) → wX8_read_76 Q (M 90 (0 : Int32).toNatClampNeg) (mu M1 91 (0 : Int32).toNatClampNeg ((M1 91 (0 : Int32).toNatClampNeg) + (1 : Int32)))) ∧ (((mu M1 91 (0 : Int32).toNatClampNeg ((M1 91 (0 : Int32).toNatClampNeg) + (1 : Int32))) 91 (0 : Int32).toNatClampNeg) = ((mu M1 91 (0 : Int32).toNatClampNeg ((M1 91 (0 : Int32).toNatClampNeg) + (1 : Int32))) 82 (0 : Int32).toNatClampNeg) → (vp_in (0 : Int32) (ln 91) ∧ (vp_in (0 : Int32) (ln 92) ∧ (vp_in (0 : Int32) (ln 92) ∧ wX8_read_76 Q (M 90 (0 : Int32).toNatClampNeg) (mu (mu (mu M1 91 (0 : Int32).toNatClampNeg ((M1 91 (0 : Int32).toNatClampNeg) + (1 : Int32))) 91 (0 : Int32).toNatClampNeg (0 : Int32)) 92 (0 : Int32).toNatClampNeg (((mu (mu M1 91 (0 : Int32).toNatClampNeg ((M1 91 (0 : Int32).toNatClampNeg) + (1 : Int32))) 91 (0 : Int32).toNatClampNeg (0 : Int32)) 92 (0 : Int32).toNatClampNeg) + (1 : Int32))))))))))))))))))
abbrev rmX8_finish : Room := { frames := 3, cells := 0, slots := 0, locals := 73 }
def wX8_finish_16 (Q : Int32 → Mem → Prop) : Nat → Int32 → Int32 → Mem → Prop
  | 0, _, _, _ => False
  | n + 1, v1, v2, M => ((v1 ≤ v2 → Q v1 M) ∧ (¬ v1 ≤ v2 → (wX8_read M (fun r3 M2 => wX8_finish_16 Q n v1 (v2 + (1 : Int32)) M2))))
def wX8_finish (M : Mem) (Q : Int32 → Mem → Prop) : Prop := (vp_in (0 : Int32) (ln 82) ∧ (vp_in (0 : Int32) (ln 91) ∧ (∃ n1, wX8_finish_16 Q n1 ((M 82 (0 : Int32).toNatClampNeg) - (M 91 (0 : Int32).toNatClampNeg)) (0 : Int32) M)))
abbrev rmX8_change : Room := { frames := 2, cells := 0, slots := 0, locals := 46 }
def wX8_change_16 (x1 : Int32) (x2 : Int32) (Q : Int32 → Mem → Prop) (M : Mem) : Prop := Q (-1 : Int32) M
def wX8_change (x1 : Int32) (x2 : Int32) (M : Mem) (Q : Int32 → Mem → Prop) : Prop := (wX8_isLeaf x1 M (fun r2 M1 => ((r2 = 0 → wX8_change_16 x1 x2 Q M1) ∧ (¬ r2 = 0 → (wX8_isLeaf x2 M1 (fun r4 M3 => ((¬ r4 = 0 → (vp_in x1 (ln 90) ∧ (vp_in x2 (ln 90) ∧ (vp_in x1 (ln 90) ∧ (vp_in x2 (ln 90) ∧ (vp_in x1 (ln 90) ∧ Q ((mu (mu M3 90 x1.toNatClampNeg (M3 90 x2.toNatClampNeg)) 90 x2.toNatClampNeg (M3 90 x1.toNatClampNeg)) 90 x1.toNatClampNeg) (mu (mu M3 90 x1.toNatClampNeg (M3 90 x2.toNatClampNeg)) 90 x2.toNatClampNeg (M3 90 x1.toNatClampNeg)))))))) ∧ (r4 = 0 → wX8_change_16 x1 x2 Q M3))))))))
abbrev rmX8_drop : Room := { frames := 3, cells := 0, slots := 0, locals := 69 }
def wX8_drop_23 (x1 : Int32) (Q : Int32 → Mem → Prop) : Nat → Int32 → Mem → Prop
  | 0, _, _ => False
  | n + 1, v2, M => ((v2 ≤ 0 → (vp_in (0 : Int32) (ln 91) ∧ (vp_in (0 : Int32) (ln 90) ∧ Q ((mu M 91 (0 : Int32).toNatClampNeg (0 : Int32)) 90 (0 : Int32).toNatClampNeg) (mu M 91 (0 : Int32).toNatClampNeg (0 : Int32))))) ∧ (¬ v2 ≤ 0 → (¬ (65521 : Int64) = 0 ∧ (¬ (v2 + (1 : Int32)).toInt64 = 0 ∧ (wX8_change v2 ((((((((7919 : Int64) * x1.toInt64) + ((6151 : Int64) * v2.toInt64)) + (1 : Int64)) * ((((7919 : Int64) * x1.toInt64) + ((6151 : Int64) * v2.toInt64)) + (1 : Int64))) - ((((((7919 : Int64) * x1.toInt64) + ((6151 : Int64) * v2.toInt64)) + (1 : Int64)) * ((((7919 : Int64) * x1.toInt64) + ((6151 : Int64) * v2.toInt64)) + (1 : Int64))) / (65521 : Int64)) * (65521 : Int64)) - (((((((7919 : Int64) * x1.toInt64) + ((6151 : Int64) * v2.toInt64)) + (1 : Int64)) * ((((7919 : Int64) * x1.toInt64) + ((6151 : Int64) * v2.toInt64)) + (1 : Int64))) - ((((((7919 : Int64) * x1.toInt64) + ((6151 : Int64) * v2.toInt64)) + (1 : Int64)) * ((((7919 : Int64) * x1.toInt64) + ((6151 : Int64) * v2.toInt64)) + (1 : Int64))) / (65521 : Int64)) * (65521 : Int64)) / (v2 + (1 : Int32)).toInt64) * (v2 + (1 : Int32)).toInt64).toInt32) M (fun r5 M4 => wX8_drop_23 x1 Q n (v2 + (-1)) M4))))))
def wX8_drop (x1 : Int32) (M : Mem) (Q : Int32 → Mem → Prop) : Prop := (wX8_in x1.toInt64 (0 : Int64) (9999 : Int64) M (fun r2 M1 => ((¬ r2 = 0 → (vp_in (0 : Int32) (ln 81) ∧ (∃ n3, wX8_drop_23 x1 Q n3 ((M1 81 (0 : Int32).toNatClampNeg) - (1 : Int32)) M1))) ∧ (r2 = 0 → Q (-1 : Int32) M1))))
abbrev rmX8_put : Room := { frames := 0, cells := 0, slots := 0, locals := 0 }
def wX8_put_31 (x1 : Nat) (x2 : Nat) (Q : Mem → Prop) : Nat → Int32 → Mem → Prop
  | 0, _, _ => False
  | n + 1, v3, M => (vp_in (0 : Int32) (ln 81) ∧ (((M 81 (0 : Int32).toNatClampNeg) ≤ v3 → Q M) ∧ (¬ (M 81 (0 : Int32).toNatClampNeg) ≤ v3 → (vp_in v3 (ln 102) ∧ (vp_in v3 (ln x1) ∧ wX8_put_31 x1 x2 Q n (v3 + (1 : Int32)) (mu M x1 v3.toNatClampNeg (M 102 v3.toNatClampNeg)))))))
def wX8_put_2 (x1 : Nat) (x2 : Nat) (Q : Mem → Prop) : Nat → Int32 → Mem → Prop
  | 0, _, _ => False
  | n + 1, v3, M => (vp_in (0 : Int32) (ln 81) ∧ (((M 81 (0 : Int32).toNatClampNeg) ≤ v3 → (∃ n2, wX8_put_31 x1 x2 Q n2 (0 : Int32) M)) ∧ (¬ (M 81 (0 : Int32).toNatClampNeg) ≤ v3 → (vp_in v3 (ln x2) ∧ (vp_in (M x2 v3.toNatClampNeg) (ln x1) ∧ (vp_in v3 (ln 102) ∧ wX8_put_2 x1 x2 Q n (v3 + (1 : Int32)) (mu M 102 v3.toNatClampNeg (M x1 (M x2 v3.toNatClampNeg).toNatClampNeg))))))))
def wX8_put (x1 : Nat) (x2 : Nat) (M : Mem) (Q : Mem → Prop) : Prop := (∃ n1, wX8_put_2 x1 x2 Q n1 (0 : Int32) M)
abbrev rmX8_layPower : Room := { frames := 1, cells := 0, slots := 0, locals := 23 }
def wX8_layPower_63 (x1 : Int64) (k_35 : Int64 → Mem → Prop) (Q : Mem → Prop) (v3 : Int64) (M : Mem) : Prop := (wX8_put 101 101 M (fun M4 => (¬ (2 : Int64) = 0 ∧ k_35 (v3 / (2 : Int64)) M4)))
def wX8_layPower_35 (x1 : Int64) (Q : Mem → Prop) : Nat → Int64 → Mem → Prop
  | 0, _, _ => False
  | n + 1, v3, M => (((lg_cmp v3 (0 : Int64)) ≤ 0 → Q M) ∧ (¬ (lg_cmp v3 (0 : Int64)) ≤ 0 → (¬ (2 : Int64) = 0 ∧ ((¬ (lg_cmp (v3 - (v3 / (2 : Int64)) * (2 : Int64)) (1 : Int64)) = 0 → wX8_layPower_63 x1 (wX8_layPower_35 x1 Q n) Q v3 M) ∧ ((lg_cmp (v3 - (v3 / (2 : Int64)) * (2 : Int64)) (1 : Int64)) = 0 → (wX8_put 100 101 M (fun M3 => wX8_layPower_63 x1 (wX8_layPower_35 x1 Q n) Q v3 M3)))))))
def wX8_layPower_2 (x1 : Int64) (Q : Mem → Prop) : Nat → Int32 → Mem → Prop
  | 0, _, _ => False
  | n + 1, v3, M => (((40 : Int32) ≤ v3 → (∃ n2, wX8_layPower_35 x1 Q n2 x1 M)) ∧ (¬ (40 : Int32) ≤ v3 → (vp_in v3 (ln 100) ∧ (vp_in v3 (ln 99) ∧ (vp_in v3 (ln 101) ∧ wX8_layPower_2 x1 Q n (v3 + (1 : Int32)) (mu (mu M 100 v3.toNatClampNeg v3) 101 v3.toNatClampNeg ((mu M 100 v3.toNatClampNeg v3) 99 v3.toNatClampNeg)))))))
def wX8_layPower (x1 : Int64) (M : Mem) (Q : Mem → Prop) : Prop := (∃ n1, wX8_layPower_2 x1 Q n1 (0 : Int32) M)
abbrev rmX8_placeOf : Room := { frames := 0, cells := 0, slots := 0, locals := 0 }
def wX8_placeOf (x1 : Int32) (M : Mem) (Q : Int32 → Mem → Prop) : Prop := (vp_in x1 (ln 98) ∧ (vp_in (M 98 x1.toNatClampNeg) (ln 100) ∧ Q (M 100 (M 98 x1.toNatClampNeg).toNatClampNeg) M))
abbrev rmX8_isReader : Room := { frames := 1, cells := 0, slots := 0, locals := 25 }
def wX8_isReader (x0 : Int64) (M : Mem) (Q : Int32 → Mem → Prop) : Prop := (wX8_in x0 (0 : Int64) (1000000000000 : Int64) M (fun r2 M1 => ((r2 = 0 ∨ r2 = 1) ∧ Q r2 M1)))
abbrev rmX8_has : Room := { frames := 2, cells := 0, slots := 0, locals := 47 }
def wX8_has_25 (x1 : Int64) (x3 : Int32) (Q : Int32 → Mem → Prop) (M : Mem) : Prop := Q (-1 : Int32) M
def wX8_has (x1 : Int64) (x3 : Int32) (M : Mem) (Q : Int32 → Mem → Prop) : Prop := (wX8_isReader x1 M (fun r2 M1 => ((r2 = 0 → wX8_has_25 x1 x3 Q M1) ∧ (¬ r2 = 0 → (vp_in (0 : Int32) (ln 82) ∧ (wX8_in x3.toInt64 (0 : Int64) (((M1 82 (0 : Int32).toNatClampNeg) - (1 : Int32)).toInt64) M1 (fun r4 M3 => ((¬ r4 = 0 → (wX8_layPower x1 M3 (fun M5 => (wX8_placeOf x3 M5 (fun r7 M6 => (vp_in r7 (ln 89) ∧ Q (M6 89 r7.toNatClampNeg) M6)))))) ∧ (r4 = 0 → wX8_has_25 x1 x3 Q M3)))))))))
abbrev rmX8_leavesNow : Room := { frames := 1, cells := 0, slots := 0, locals := 21 }
def wX8_leavesNow_4 (Q : Int64 → Mem → Prop) : Nat → Int64 → Int32 → Mem → Prop
  | 0, _, _, _ => False
  | n + 1, v1, v3, M => (vp_in (0 : Int32) (ln 82) ∧ (((M 82 (0 : Int32).toNatClampNeg) ≤ v3 → Q v1 M) ∧ (¬ (M 82 (0 : Int32).toNatClampNeg) ≤ v3 → (wX8_placeOf v3 M (fun r3 M2 => (vp_in r3 (ln 89) ∧ wX8_leavesNow_4 Q n (v1 ||| ((1 : Int64) <<< ((M2 89 r3.toNatClampNeg).toInt64 &&& 63))) (v3 + (1 : Int32)) M2))))))
def wX8_leavesNow (M : Mem) (Q : Int64 → Mem → Prop) : Prop := (∃ n1, wX8_leavesNow_4 Q n1 (0 : Int64) (0 : Int32) M)
abbrev rmX8_leaves : Room := { frames := 2, cells := 0, slots := 0, locals := 47 }
def wX8_leaves (x1 : Int64) (M : Mem) (Q : Int64 → Mem → Prop) : Prop := (wX8_isReader x1 M (fun r2 M1 => ((¬ r2 = 0 → (wX8_layPower x1 M1 (fun M3 => (wX8_leavesNow M3 (fun r5 M4 => Q r5 M4))))) ∧ (r2 = 0 → Q (-1 : Int64) M1))))
abbrev rmX8_isAtFirst : Room := { frames := 0, cells := 0, slots := 0, locals := 0 }
def wX8_isAtFirst_33 (k_4 : Int32 → Int32 → Mem → Prop) (Q : Int32 → Mem → Prop) (v2 : Int32) (s0 : Int32) (M : Mem) : Prop := k_4 s0 (v2 + (1 : Int32)) M
def wX8_isAtFirst_32 (k_4 : Int32 → Int32 → Mem → Prop) (Q : Int32 → Mem → Prop) (v2 : Int32) (M : Mem) : Prop := wX8_isAtFirst_33 (k_4) Q v2 (0 : Int32) M
def wX8_isAtFirst_4 (Q : Int32 → Mem → Prop) : Nat → Int32 → Int32 → Mem → Prop
  | 0, _, _, _ => False
  | n + 1, v1, v2, M => (vp_in (0 : Int32) (ln 81) ∧ (((M 81 (0 : Int32).toNatClampNeg) ≤ v2 → ((v1 = 0 ∨ v1 = 1) ∧ Q v1 M)) ∧ (¬ (M 81 (0 : Int32).toNatClampNeg) ≤ v2 → ((v1 = 0 → wX8_isAtFirst_32 (wX8_isAtFirst_4 Q n) Q v2 M) ∧ (¬ v1 = 0 → (vp_in v2 (ln 100) ∧ ((¬ (M 100 v2.toNatClampNeg) = v2 → wX8_isAtFirst_32 (wX8_isAtFirst_4 Q n) Q v2 M) ∧ ((M 100 v2.toNatClampNeg) = v2 → wX8_isAtFirst_33 (wX8_isAtFirst_4 Q n) Q v2 (1 : Int32) M))))))))
def wX8_isAtFirst (M : Mem) (Q : Int32 → Mem → Prop) : Prop := (∃ n1, wX8_isAtFirst_4 Q n1 (1 : Int32) (0 : Int32) M)
abbrev rmX8_period : Room := { frames := 2, cells := 0, slots := 0, locals := 47 }
def wX8_period_7 (Q : Int32 → Mem → Prop) : Nat → Int32 → Mem → Prop
  | 0, _, _ => False
  | n + 1, v1, M => (wX8_isAtFirst M (fun r4 M3 => ((¬ r4 = 0 → Q v1 M3) ∧ (r4 = 0 → (wX8_put 100 99 M3 (fun M5 => wX8_period_7 Q n (v1 + (1 : Int32)) M5))))))
def wX8_period (M : Mem) (Q : Int32 → Mem → Prop) : Prop := (wX8_layPower (1 : Int64) M (fun M1 => (∃ n2, wX8_period_7 Q n2 (1 : Int32) M1)))
abbrev rmX8_ever : Room := { frames := 3, cells := 0, slots := 0, locals := 68 }
def wX8_ever_103 (x1 : Int32) (Q : Int64 → Mem → Prop) (s0 : Int64) (M : Mem) : Prop := Q s0 M
def wX8_ever_44 (x1 : Int32) (Q : Int64 → Mem → Prop) : Nat → Int32 → Int64 → Int64 → Int64 → Int32 → Mem → Prop
  | 0, _, _, _, _, _, _ => False
  | n + 1, v2, v3, v5, v7, v9, M => ((v2 ≤ v9 → ((¬ x1 = 0 → wX8_ever_103 x1 Q v7 M) ∧ (x1 = 0 → wX8_ever_103 x1 Q (v3 &&& (v5 ^^^ (-1 : Int64))) M))) ∧ (¬ v2 ≤ v9 → (wX8_leavesNow M (fun r8 M7 => (wX8_leavesNow M7 (fun r10 M9 => (wX8_put 100 99 M9 (fun M11 => wX8_ever_44 x1 Q n v2 v3 (v5 ||| r8) (v7 &&& r10) (v9 + (1 : Int32)) M11))))))))
def wX8_ever (x1 : Int32) (M : Mem) (Q : Int64 → Mem → Prop) : Prop := (wX8_in x1.toInt64 (0 : Int64) (1 : Int64) M (fun r2 M1 => ((¬ r2 = 0 → (wX8_period M1 (fun r4 M3 => (vp_in (0 : Int32) (ln 81) ∧ (wX8_layPower (0 : Int64) M3 (fun M5 => (∃ n6, wX8_ever_44 x1 Q n6 r4 (((1 : Int64) <<< ((M3 81 (0 : Int32).toNatClampNeg).toInt64 &&& 63)) - (1 : Int64)) (0 : Int64) (((1 : Int64) <<< ((M3 81 (0 : Int32).toNatClampNeg).toInt64 &&& 63)) - (1 : Int64)) (0 : Int32) M5))))))) ∧ (r2 = 0 → Q (-1 : Int64) M1))))
abbrev rmX8_lesser : Room := { frames := 0, cells := 0, slots := 0, locals := 0 }
def wX8_lesser_30 (Q : Int32 → Mem → Prop) (s0 : Int32) (M : Mem) : Prop := Q s0 M
def wX8_lesser (M : Mem) (Q : Int32 → Mem → Prop) : Prop := (vp_in (0 : Int32) (ln 82) ∧ (vp_in (0 : Int32) (ln 87) ∧ (((M 87 (0 : Int32).toNatClampNeg) ≤ (M 82 (0 : Int32).toNatClampNeg) → (vp_in (0 : Int32) (ln 87) ∧ wX8_lesser_30 Q (M 87 (0 : Int32).toNatClampNeg) M)) ∧ (¬ (M 87 (0 : Int32).toNatClampNeg) ≤ (M 82 (0 : Int32).toNatClampNeg) → (vp_in (0 : Int32) (ln 82) ∧ wX8_lesser_30 Q (M 82 (0 : Int32).toNatClampNeg) M)))))
abbrev rmX8_right : Room := { frames := 2, cells := 0, slots := 0, locals := 47 }
def wX8_right_55 (x1 : Int64) (k_19 : Int32 → Int32 → Mem → Prop) (Q : Int32 → Mem → Prop) (v4 : Int32) (s0 : Int32) (s1 : Int32) (M : Mem) : Prop := k_19 (s1 + s0) (v4 + (1 : Int32)) M
def wX8_right_19 (x1 : Int64) (Q : Int32 → Mem → Prop) : Nat → Int32 → Int32 → Mem → Prop
  | 0, _, _, _ => False
  | n + 1, v3, v4, M => (wX8_lesser M (fun r6 M5 => ((r6 ≤ v4 → Q v3 M5) ∧ (¬ r6 ≤ v4 → (wX8_placeOf v4 M5 (fun r8 M7 => (vp_in r8 (ln 89) ∧ (vp_in v4 (ln 88) ∧ ((¬ (M7 89 r8.toNatClampNeg) = (M7 88 v4.toNatClampNeg) → wX8_right_55 x1 (wX8_right_19 x1 Q n) Q v4 (0 : Int32) v3 M7) ∧ ((M7 89 r8.toNatClampNeg) = (M7 88 v4.toNatClampNeg) → wX8_right_55 x1 (wX8_right_19 x1 Q n) Q v4 (1 : Int32) v3 M7))))))))))
def wX8_right (x1 : Int64) (M : Mem) (Q : Int32 → Mem → Prop) : Prop := (wX8_isReader x1 M (fun r2 M1 => ((¬ r2 = 0 → (wX8_layPower x1 M1 (fun M3 => (∃ n4, wX8_right_19 x1 Q n4 (0 : Int32) (0 : Int32) M3)))) ∧ (r2 = 0 → Q (-1 : Int32) M1))))
abbrev rmX8_noOrder : Room := { frames := 0, cells := 0, slots := 0, locals := 0 }
def wX8_noOrder_7 (Q : Mem → Prop) : Nat → Int32 → Mem → Prop
  | 0, _, _ => False
  | n + 1, v1, M => (((40 : Int32) ≤ v1 → Q M) ∧ (¬ (40 : Int32) ≤ v1 → (vp_in v1 (ln 103) ∧ (vp_in v1 (ln 104) ∧ wX8_noOrder_7 Q n (v1 + (1 : Int32)) (mu (mu M 103 v1.toNatClampNeg (-4 : Int32)) 104 v1.toNatClampNeg (-4 : Int32))))))
def wX8_noOrder (M : Mem) (Q : Mem → Prop) : Prop := (∃ n1, wX8_noOrder_7 Q n1 (0 : Int32) (mu M 79 29 (0 : Int32)))
abbrev rmX8_know : Room := { frames := 0, cells := 0, slots := 0, locals := 0 }
def wX8_know_30 (x1 : Int32) (x2 : Int32) (Q : Int32 → Mem → Prop) (M : Mem) : Prop := (((0 : Int32) = 0 ∨ (0 : Int32) = 1) ∧ Q (0 : Int32) M)
def wX8_know (x1 : Int32) (x2 : Int32) (M : Mem) (Q : Int32 → Mem → Prop) : Prop := (vp_in x1 (ln 103) ∧ ((¬ (M 103 x1.toNatClampNeg) = x2 → (vp_in x1 (ln 103) ∧ ((0 ≤ (M 103 x1.toNatClampNeg) → wX8_know_30 x1 x2 Q M) ∧ (¬ 0 ≤ (M 103 x1.toNatClampNeg) → (vp_in x2 (ln 104) ∧ (((M 104 x2.toNatClampNeg) < 0 → (vp_in x1 (ln 103) ∧ (vp_in x2 (ln 104) ∧ (((1 : Int32) = 0 ∨ (1 : Int32) = 1) ∧ Q (1 : Int32) (mu (mu (mu M 103 x1.toNatClampNeg x2) 104 x2.toNatClampNeg x1) 79 29 (((mu (mu M 103 x1.toNatClampNeg x2) 104 x2.toNatClampNeg x1) 79 29) + (1 : Int32))))))) ∧ (¬ (M 104 x2.toNatClampNeg) < 0 → wX8_know_30 x1 x2 Q M))))))) ∧ ((M 103 x1.toNatClampNeg) = x2 → (((1 : Int32) = 0 ∨ (1 : Int32) = 1) ∧ Q (1 : Int32) M))))
abbrev rmX8_order : Room := { frames := 2, cells := 0, slots := 0, locals := 47 }
def wX8_order_15 (x1 : Int64) (x3 : Int32) (Q : Int32 → Mem → Prop) (M : Mem) : Prop := Q (-1 : Int32) M
def wX8_order_71 (x1 : Int64) (x3 : Int32) (k_32 : Int32 → Int32 → Mem → Prop) (Q : Int32 → Mem → Prop) (v5 : Int32) (s0 : Int32) (M : Mem) : Prop := k_32 s0 (v5 + (1 : Int32)) M
def wX8_order_70 (x1 : Int64) (x3 : Int32) (k_32 : Int32 → Int32 → Mem → Prop) (Q : Int32 → Mem → Prop) (v5 : Int32) (M : Mem) : Prop := wX8_order_71 x1 x3 (k_32) Q v5 (0 : Int32) M
def wX8_order_139 (x1 : Int64) (x3 : Int32) (k_93 : Int32 → Int32 → Mem → Prop) (Q : Int32 → Mem → Prop) (v5 : Int32) (v6 : Int32) (M : Mem) : Prop := k_93 v5 (v6 + (1 : Int32)) M
def wX8_order_114 (x1 : Int64) (x3 : Int32) (k_93 : Int32 → Int32 → Mem → Prop) (Q : Int32 → Mem → Prop) : Nat → Int32 → Int32 → Mem → Prop
  | 0, _, _, _ => False
  | n + 1, v5, v6, M => (vp_in v5 (ln 104) ∧ (((M 104 v5.toNatClampNeg) < 0 → (wX8_know v6 v5 M (fun r17 M16 => wX8_order_139 x1 x3 (k_93) Q v5 v6 M16))) ∧ (¬ (M 104 v5.toNatClampNeg) < 0 → wX8_order_114 x1 x3 k_93 Q n (v5 + (1 : Int32)) v6 M)))
def wX8_order_93 (x1 : Int64) (x3 : Int32) (Q : Int32 → Mem → Prop) : Nat → Int32 → Int32 → Mem → Prop
  | 0, _, _, _ => False
  | n + 1, v5, v6, M => (vp_in (0 : Int32) (ln 81) ∧ (((M 81 (0 : Int32).toNatClampNeg) ≤ v6 → (vp_in x3 (ln 103) ∧ Q (M 103 x3.toNatClampNeg) M)) ∧ (¬ (M 81 (0 : Int32).toNatClampNeg) ≤ v6 → (vp_in v6 (ln 103) ∧ ((0 ≤ (M 103 v6.toNatClampNeg) → wX8_order_139 x1 x3 (wX8_order_93 x1 x3 Q n) Q v5 v6 M) ∧ (¬ 0 ≤ (M 103 v6.toNatClampNeg) → (∃ n15, wX8_order_114 x1 x3 (wX8_order_93 x1 x3 Q n) Q n15 v5 v6 M)))))))
def wX8_order_32 (x1 : Int64) (x3 : Int32) (Q : Int32 → Mem → Prop) : Nat → Int32 → Int32 → Mem → Prop
  | 0, _, _, _ => False
  | n + 1, v4, v5, M => (wX8_lesser M (fun r9 M8 => ((r9 ≤ v5 → ((¬ v4 = 0 → (∃ n10, wX8_order_93 x1 x3 Q n10 (0 : Int32) (0 : Int32) M8)) ∧ (v4 = 0 → Q (-4 : Int32) M8))) ∧ (¬ r9 ≤ v5 → (wX8_placeOf v5 M8 (fun r12 M11 => (vp_in v5 (ln 88) ∧ (wX8_know r12 (M11 88 v5.toNatClampNeg) M11 (fun r14 M13 => ((r14 = 0 → wX8_order_70 x1 x3 (wX8_order_32 x1 x3 Q n) Q v5 M13) ∧ (¬ r14 = 0 → ((v4 = 0 → wX8_order_70 x1 x3 (wX8_order_32 x1 x3 Q n) Q v5 M13) ∧ (¬ v4 = 0 → wX8_order_71 x1 x3 (wX8_order_32 x1 x3 Q n) Q v5 (1 : Int32) M13)))))))))))))
def wX8_order (x1 : Int64) (x3 : Int32) (M : Mem) (Q : Int32 → Mem → Prop) : Prop := (wX8_isReader x1 M (fun r2 M1 => ((r2 = 0 → wX8_order_15 x1 x3 Q M1) ∧ (¬ r2 = 0 → (wX8_isLeaf x3 M1 (fun r4 M3 => ((¬ r4 = 0 → (wX8_noOrder M3 (fun M5 => (wX8_layPower x1 M5 (fun M6 => (∃ n7, wX8_order_32 x1 x3 Q n7 (1 : Int32) (0 : Int32) M6)))))) ∧ (r4 = 0 → wX8_order_15 x1 x3 Q M3))))))))
abbrev rmX8_showsBy : Room := { frames := 2, cells := 0, slots := 0, locals := 52 }
def wX8_showsBy_38 (x1 : Int32) (x2 : Int32) (Q : Int32 → Mem → Prop) : Nat → Int64 → Int64 → Int32 → Mem → Prop
  | 0, _, _, _, _ => False
  | n + 1, v3, v5, v7, M => (((2000 : Int32) ≤ v7 → Q (-4 : Int32) M) ∧ (¬ (2000 : Int32) ≤ v7 → (vp_in (0 : Int32) (ln 105) ∧ ((¬ (lg_cmp (v5 ||| ((1 : Int64) <<< ((M 105 (0 : Int32).toNatClampNeg).toInt64 &&& 63))) v3) = 0 → (wX8_goRead 105 (0 : Int32) x1 x2 v7 M (fun M3 => wX8_showsBy_38 x1 x2 Q n v3 (v5 ||| ((1 : Int64) <<< ((M 105 (0 : Int32).toNatClampNeg).toInt64 &&& 63))) (v7 + (1 : Int32)) M3))) ∧ ((lg_cmp (v5 ||| ((1 : Int64) <<< ((M 105 (0 : Int32).toNatClampNeg).toInt64 &&& 63))) v3) = 0 → Q (v7 + (1 : Int32)) M)))))
def wX8_showsBy_2 (x1 : Int32) (x2 : Int32) (Q : Int32 → Mem → Prop) : Nat → Int32 → Mem → Prop
  | 0, _, _ => False
  | n + 1, v3, M => (((40 : Int32) ≤ v3 → (vp_in (0 : Int32) (ln 81) ∧ (∃ n2, wX8_showsBy_38 x1 x2 Q n2 (((1 : Int64) <<< ((M 81 (0 : Int32).toNatClampNeg).toInt64 &&& 63)) - (1 : Int64)) (0 : Int64) (0 : Int32) M))) ∧ (¬ (40 : Int32) ≤ v3 → (vp_in v3 (ln 105) ∧ wX8_showsBy_2 x1 x2 Q n (v3 + (1 : Int32)) (mu M 105 v3.toNatClampNeg v3))))
def wX8_showsBy (x1 : Int32) (x2 : Int32) (M : Mem) (Q : Int32 → Mem → Prop) : Prop := (∃ n1, wX8_showsBy_2 x1 x2 Q n1 (0 : Int32) M)
abbrev rmX8_shows : Room := { frames := 3, cells := 0, slots := 0, locals := 79 }
def wX8_shows_30 (x1 : Int32) (x2 : Int32) (Q : Int32 → Mem → Prop) (s0 : Int32) (M : Mem) : Prop := Q s0 M
def wX8_shows_29 (x1 : Int32) (x2 : Int32) (Q : Int32 → Mem → Prop) (M : Mem) : Prop := wX8_shows_30 x1 x2 Q (-1 : Int32) M
def wX8_shows (x1 : Int32) (x2 : Int32) (M : Mem) (Q : Int32 → Mem → Prop) : Prop := (wX8_in x1.toInt64 (0 : Int64) (3 : Int64) M (fun r2 M1 => ((r2 = 0 → wX8_shows_29 x1 x2 Q M1) ∧ (¬ r2 = 0 → (wX8_isLeaf x2 M1 (fun r4 M3 => ((r4 = 0 → wX8_shows_29 x1 x2 Q M3) ∧ (¬ r4 = 0 → (wX8_showsBy x1 x2 M3 (fun r6 M5 => wX8_shows_30 x1 x2 Q r6 M5))))))))))
abbrev rmX8_quickest : Room := { frames := 3, cells := 0, slots := 0, locals := 79 }
def wX8_quickest_84 (x1 : Int32) (k_27 : Int32 → Int32 → Int32 → Int32 → Mem → Prop) (k_36 : Int32 → Int32 → Int32 → Int32 → Int32 → Mem → Prop) (Q : Int32 → Mem → Prop) (v2 : Int32) (v3 : Int32) (v4 : Int32) (v5 : Int32) (v6 : Int32) (M : Mem) : Prop := k_36 v2 v3 v4 v5 (v6 + (1 : Int32)) M
def wX8_quickest_74 (x1 : Int32) (k_27 : Int32 → Int32 → Int32 → Int32 → Mem → Prop) (k_36 : Int32 → Int32 → Int32 → Int32 → Int32 → Mem → Prop) (Q : Int32 → Mem → Prop) (v5 : Int32) (v6 : Int32) (v7 : Int32) (M : Mem) : Prop := wX8_quickest_84 x1 (k_27) (k_36) Q v5 v6 v7 v5 v6 M
def wX8_quickest_36 (x1 : Int32) (k_27 : Int32 → Int32 → Int32 → Int32 → Mem → Prop) (Q : Int32 → Mem → Prop) : Nat → Int32 → Int32 → Int32 → Int32 → Int32 → Mem → Prop
  | 0, _, _, _, _, _, _ => False
  | n + 1, v2, v3, v4, v5, v6, M => (vp_in (0 : Int32) (ln 81) ∧ (((M 81 (0 : Int32).toNatClampNeg) ≤ v6 → k_27 v2 v3 v4 (v5 + (1 : Int32)) M) ∧ (¬ (M 81 (0 : Int32).toNatClampNeg) ≤ v6 → (wX8_showsBy v5 v6 M (fun r6 M5 => ((r6 ≤ 0 → wX8_quickest_84 x1 (k_27) (wX8_quickest_36 x1 k_27 Q n) Q v2 v3 v4 v5 v6 M5) ∧ (¬ r6 ≤ 0 → ((v4 < 0 → wX8_quickest_74 x1 (k_27) (wX8_quickest_36 x1 k_27 Q n) Q v5 v6 r6 M5) ∧ (¬ v4 < 0 → ((v4 ≤ r6 → wX8_quickest_84 x1 (k_27) (wX8_quickest_36 x1 k_27 Q n) Q v2 v3 v4 v5 v6 M5) ∧ (¬ v4 ≤ r6 → wX8_quickest_74 x1 (k_27) (wX8_quickest_36 x1 k_27 Q n) Q v5 v6 r6 M5)))))))))))
def wX8_quickest_115 (x1 : Int32) (Q : Int32 → Mem → Prop) (s0 : Int32) (M : Mem) : Prop := Q s0 M
def wX8_quickest_27 (x1 : Int32) (Q : Int32 → Mem → Prop) : Nat → Int32 → Int32 → Int32 → Int32 → Mem → Prop
  | 0, _, _, _, _, _ => False
  | n + 1, v2, v3, v4, v5, M => (((4 : Int32) ≤ v5 → ((¬ x1 = 0 → ((¬ x1 = (1 : Int32) → wX8_quickest_115 x1 Q v4 M) ∧ (x1 = (1 : Int32) → wX8_quickest_115 x1 Q v3 M))) ∧ (x1 = 0 → wX8_quickest_115 x1 Q v2 M))) ∧ (¬ (4 : Int32) ≤ v5 → (∃ n4, wX8_quickest_36 x1 (wX8_quickest_27 x1 Q n) Q n4 v2 v3 v4 v5 (0 : Int32) M)))
def wX8_quickest (x1 : Int32) (M : Mem) (Q : Int32 → Mem → Prop) : Prop := (wX8_in x1.toInt64 (0 : Int64) (2 : Int64) M (fun r2 M1 => ((¬ r2 = 0 → (∃ n3, wX8_quickest_27 x1 Q n3 (-4 : Int32) (-4 : Int32) (-4 : Int32) (0 : Int32) M1)) ∧ (r2 = 0 → Q (-1 : Int32) M1))))
abbrev rmX8_seen : Room := { frames := 2, cells := 0, slots := 0, locals := 46 }
def wX8_seen_34 (x1 : Int64) (x3 : Int32) (x4 : Int32) (Q : Int32 → Mem → Prop) (M : Mem) : Prop := Q (-1 : Int32) M
def wX8_seen (x1 : Int64) (x3 : Int32) (x4 : Int32) (M : Mem) (Q : Int32 → Mem → Prop) : Prop := (wX8_isReader x1 M (fun r2 M1 => ((r2 = 0 → wX8_seen_34 x1 x3 x4 Q M1) ∧ (¬ r2 = 0 → (vp_in (0 : Int32) (ln 82) ∧ (wX8_in x3.toInt64 (0 : Int64) (((M1 82 (0 : Int32).toNatClampNeg) - (1 : Int32)).toInt64) M1 (fun r4 M3 => ((r4 = 0 → wX8_seen_34 x1 x3 x4 Q M3) ∧ (¬ r4 = 0 → (wX8_isLeaf x4 M3 (fun r6 M5 => ((¬ r6 = 0 → ((¬ (M5 79 15) = (12 : Int32) → (vp_in (M5 79 15) (ln 93) ∧ (vp_in ((muL M5 93 (M5 79 15).toNatClampNeg x1) 79 15) (ln 94) ∧ (vp_in ((mu (muL M5 93 (M5 79 15).toNatClampNeg x1) 94 ((muL M5 93 (M5 79 15).toNatClampNeg x1) 79 15).toNatClampNeg x3) 79 15) (ln 95) ∧ Q ((mu (mu (mu (muL M5 93 (M5 79 15).toNatClampNeg x1) 94 ((muL M5 93 (M5 79 15).toNatClampNeg x1) 79 15).toNatClampNeg x3) 95 ((mu (muL M5 93 (M5 79 15).toNatClampNeg x1) 94 ((muL M5 93 (M5 79 15).toNatClampNeg x1) 79 15).toNatClampNeg x3) 79 15).toNatClampNeg x4) 79 15 (((mu (mu (muL M5 93 (M5 79 15).toNatClampNeg x1) 94 ((muL M5 93 (M5 79 15).toNatClampNeg x1) 79 15).toNatClampNeg x3) 95 ((mu (muL M5 93 (M5 79 15).toNatClampNeg x1) 94 ((muL M5 93 (M5 79 15).toNatClampNeg x1) 79 15).toNatClampNeg x3) 79 15).toNatClampNeg x4) 79 15) + (1 : Int32))) 79 15) (mu (mu (mu (muL M5 93 (M5 79 15).toNatClampNeg x1) 94 ((muL M5 93 (M5 79 15).toNatClampNeg x1) 79 15).toNatClampNeg x3) 95 ((mu (muL M5 93 (M5 79 15).toNatClampNeg x1) 94 ((muL M5 93 (M5 79 15).toNatClampNeg x1) 79 15).toNatClampNeg x3) 79 15).toNatClampNeg x4) 79 15 (((mu (mu (muL M5 93 (M5 79 15).toNatClampNeg x1) 94 ((muL M5 93 (M5 79 15).toNatClampNeg x1) 79 15).toNatClampNeg x3) 95 ((mu (muL M5 93 (M5 79 15).toNatClampNeg x1) 94 ((muL M5 93 (M5 79 15).toNatClampNeg x1) 79 15).toNatClampNeg x3) 79 15).toNatClampNeg x4) 79 15) + (1 : Int32))))))) ∧ ((M5 79 15) = (12 : Int32) → Q (-3 : Int32) M5))) ∧ (r6 = 0 → wX8_seen_34 x1 x3 x4 Q M5)))))))))))))
abbrev rmX8_forget : Room := { frames := 0, cells := 0, slots := 0, locals := 0 }
def wX8_forget (M : Mem) (Q : Int32 → Mem → Prop) : Prop := Q (M 79 15) (mu M 79 15 (0 : Int32))
abbrev rmX8_isSo : Room := { frames := 2, cells := 0, slots := 0, locals := 47 }
def wX8_isSo_58 (k_8 : Int32 → Int32 → Mem → Prop) (Q : Int32 → Mem → Prop) (v2 : Int32) (s0 : Int32) (M : Mem) : Prop := k_8 s0 (v2 + (1 : Int32)) M
def wX8_isSo_57 (k_8 : Int32 → Int32 → Mem → Prop) (Q : Int32 → Mem → Prop) (v2 : Int32) (M : Mem) : Prop := wX8_isSo_58 (k_8) Q v2 (0 : Int32) M
def wX8_isSo_8 (Q : Int32 → Mem → Prop) : Nat → Int32 → Int32 → Mem → Prop
  | 0, _, _, _ => False
  | n + 1, v1, v2, M => (((M 79 15) ≤ v2 → ((v1 = 0 ∨ v1 = 1) ∧ Q v1 M)) ∧ (¬ (M 79 15) ≤ v2 → (vp_in v2 (ln 93) ∧ (wX8_layPower (rdL M 93 v2.toNatClampNeg) M (fun M3 => (vp_in v2 (ln 94) ∧ (wX8_placeOf (M3 94 v2.toNatClampNeg) M3 (fun r5 M4 => (vp_in v2 (ln 95) ∧ (wX8_know r5 (M4 95 v2.toNatClampNeg) M4 (fun r7 M6 => ((r7 = 0 → wX8_isSo_57 (wX8_isSo_8 Q n) Q v2 M6) ∧ (¬ r7 = 0 → ((v1 = 0 → wX8_isSo_57 (wX8_isSo_8 Q n) Q v2 M6) ∧ (¬ v1 = 0 → wX8_isSo_58 (wX8_isSo_8 Q n) Q v2 (1 : Int32) M6)))))))))))))))
def wX8_isSo (M : Mem) (Q : Int32 → Mem → Prop) : Prop := (wX8_noOrder M (fun M1 => (∃ n2, wX8_isSo_8 Q n2 (1 : Int32) (0 : Int32) M1)))
abbrev rmX8_so : Room := { frames := 3, cells := 0, slots := 0, locals := 69 }
def wX8_so_12 (Q : Int32 → Mem → Prop) (s0 : Int32) (M : Mem) : Prop := Q s0 M
def wX8_so (M : Mem) (Q : Int32 → Mem → Prop) : Prop := (wX8_isSo M (fun r2 M1 => ((r2 = 0 → wX8_so_12 Q (0 : Int32) M1) ∧ (¬ r2 = 0 → wX8_so_12 Q (1 : Int32) M1))))
abbrev rmX8_sure : Room := { frames := 3, cells := 0, slots := 0, locals := 69 }
def wX8_sure_44 (x1 : Int32) (Q : Int32 → Mem → Prop) (M : Mem) : Prop := (vp_in x1 (ln 103) ∧ Q (M 103 x1.toNatClampNeg) M)
def wX8_sure_53 (x1 : Int32) (Q : Int32 → Mem → Prop) : Nat → Int32 → Mem → Prop
  | 0, _, _ => False
  | n + 1, v2, M => (vp_in v2 (ln 104) ∧ (((M 104 v2.toNatClampNeg) < 0 → Q v2 M) ∧ (¬ (M 104 v2.toNatClampNeg) < 0 → wX8_sure_53 x1 Q n (v2 + (1 : Int32)) M)))
def wX8_sure (x1 : Int32) (M : Mem) (Q : Int32 → Mem → Prop) : Prop := (wX8_isLeaf x1 M (fun r2 M1 => ((¬ r2 = 0 → (wX8_isSo M1 (fun r4 M3 => ((¬ r4 = 0 → (vp_in x1 (ln 103) ∧ ((0 ≤ (M3 103 x1.toNatClampNeg) → wX8_sure_44 x1 Q M3) ∧ (¬ 0 ≤ (M3 103 x1.toNatClampNeg) → (vp_in (0 : Int32) (ln 81) ∧ ((((M3 81 (0 : Int32).toNatClampNeg) - (1 : Int32)) ≤ (M3 79 29) → (∃ n5, wX8_sure_53 x1 Q n5 (0 : Int32) M3)) ∧ (¬ ((M3 81 (0 : Int32).toNatClampNeg) - (1 : Int32)) ≤ (M3 79 29) → wX8_sure_44 x1 Q M3))))))) ∧ (r4 = 0 → Q (-4 : Int32) M3))))) ∧ (r2 = 0 → Q (-1 : Int32) M1))))
abbrev rmX8_lacks : Room := { frames := 3, cells := 0, slots := 0, locals := 68 }
def wX8_lacks_18 (x1 : Int32) (x2 : Int32) (Q : Int32 → Mem → Prop) (M : Mem) : Prop := Q (-1 : Int32) M
def wX8_lacks_79 (x1 : Int32) (x2 : Int32) (Q : Int32 → Mem → Prop) (s0 : Int32) (M : Mem) : Prop := Q s0 M
def wX8_lacks_42 (x1 : Int32) (x2 : Int32) (k_33 : Int32 → Int32 → Mem → Prop) (Q : Int32 → Mem → Prop) : Nat → Int32 → Int32 → Int32 → Mem → Prop
  | 0, _, _, _, _ => False
  | n + 1, v3, v4, v5, M => (vp_in (0 : Int32) (ln 82) ∧ (((M 82 (0 : Int32).toNatClampNeg) ≤ v5 → (wX8_put 100 99 M (fun M10 => k_33 v3 (v4 + (1 : Int32)) M10))) ∧ (¬ (M 82 (0 : Int32).toNatClampNeg) ≤ v5 → (wX8_placeOf v5 M (fun r12 M11 => (vp_in r12 (ln 89) ∧ ((¬ (M11 89 r12.toNatClampNeg) = x1 → wX8_lacks_42 x1 x2 k_33 Q n v3 v4 (v5 + (1 : Int32)) M11) ∧ ((M11 89 r12.toNatClampNeg) = x1 → ((¬ x2 = 0 → wX8_lacks_79 x1 x2 Q v5 M11) ∧ (x2 = 0 → wX8_lacks_79 x1 x2 Q v4 M11))))))))))
def wX8_lacks_33 (x1 : Int32) (x2 : Int32) (Q : Int32 → Mem → Prop) : Nat → Int32 → Int32 → Mem → Prop
  | 0, _, _, _ => False
  | n + 1, v3, v4, M => ((v3 ≤ v4 → Q (-4 : Int32) M) ∧ (¬ v3 ≤ v4 → (∃ n9, wX8_lacks_42 x1 x2 (wX8_lacks_33 x1 x2 Q n) Q n9 v3 v4 (0 : Int32) M)))
def wX8_lacks (x1 : Int32) (x2 : Int32) (M : Mem) (Q : Int32 → Mem → Prop) : Prop := (wX8_isLeaf x1 M (fun r2 M1 => ((r2 = 0 → wX8_lacks_18 x1 x2 Q M1) ∧ (¬ r2 = 0 → (wX8_in x2.toInt64 (0 : Int64) (1 : Int64) M1 (fun r4 M3 => ((¬ r4 = 0 → (wX8_period M3 (fun r6 M5 => (wX8_layPower (0 : Int64) M5 (fun M7 => (∃ n8, wX8_lacks_33 x1 x2 Q n8 r6 (0 : Int32) M7)))))) ∧ (r4 = 0 → wX8_lacks_18 x1 x2 Q M3))))))))
abbrev rmX8_notice : Room := { frames := 2, cells := 0, slots := 0, locals := 47 }
def wX8_notice_28 (x1 : Int32) (x2 : Int32) (x3 : Int32) (Q : Int32 → Mem → Prop) (M : Mem) : Prop := Q (-1 : Int32) M
def wX8_notice_80 (x1 : Int32) (x2 : Int32) (x3 : Int32) (k_50 : Int64 → Int32 → Int32 → Mem → Prop) (Q : Int32 → Mem → Prop) (v4 : Int64) (v7 : Int32) (s0 : Int32) (s1 : Int32) (M : Mem) : Prop := (wX8_put 100 99 M (fun M11 => k_50 v4 (s1 + s0) (v7 + (1 : Int32)) M11))
def wX8_notice_79 (x1 : Int32) (x2 : Int32) (x3 : Int32) (k_50 : Int64 → Int32 → Int32 → Mem → Prop) (Q : Int32 → Mem → Prop) (v4 : Int64) (v7 : Int32) (s0 : Int32) (M : Mem) : Prop := wX8_notice_80 x1 x2 x3 (k_50) Q v4 v7 (0 : Int32) s0 M
def wX8_notice_50 (x1 : Int32) (x2 : Int32) (x3 : Int32) (Q : Int32 → Mem → Prop) : Nat → Int64 → Int32 → Int32 → Mem → Prop
  | 0, _, _, _, _ => False
  | n + 1, v4, v6, v7, M => ((x3 ≤ v7 → Q v6 M) ∧ (¬ x3 ≤ v7 → ((x1 = x2 → wX8_notice_79 x1 x2 x3 (wX8_notice_50 x1 x2 x3 Q n) Q v4 v7 v6 M) ∧ (¬ x1 = x2 → (wX8_leavesNow M (fun r10 M9 => (((lg_cmp (r10 &&& v4) (0 : Int64)) = 0 → wX8_notice_79 x1 x2 x3 (wX8_notice_50 x1 x2 x3 Q n) Q v4 v7 v6 M9) ∧ (¬ (lg_cmp (r10 &&& v4) (0 : Int64)) = 0 → wX8_notice_80 x1 x2 x3 (wX8_notice_50 x1 x2 x3 Q n) Q v4 v7 (1 : Int32) v6 M9))))))))
def wX8_notice (x1 : Int32) (x2 : Int32) (x3 : Int32) (M : Mem) (Q : Int32 → Mem → Prop) : Prop := (wX8_isLeaf x1 M (fun r2 M1 => ((r2 = 0 → wX8_notice_28 x1 x2 x3 Q M1) ∧ (¬ r2 = 0 → (wX8_isLeaf x2 M1 (fun r4 M3 => ((r4 = 0 → wX8_notice_28 x1 x2 x3 Q M3) ∧ (¬ r4 = 0 → (wX8_in x3.toInt64 (0 : Int64) (1000 : Int64) M3 (fun r6 M5 => ((¬ r6 = 0 → (wX8_layPower (0 : Int64) M5 (fun M7 => (∃ n8, wX8_notice_50 x1 x2 x3 Q n8 (((1 : Int64) <<< (x1.toInt64 &&& 63)) ||| ((1 : Int64) <<< (x2.toInt64 &&& 63))) (0 : Int32) (0 : Int32) M7)))) ∧ (r6 = 0 → wX8_notice_28 x1 x2 x3 Q M5))))))))))))
abbrev rmX8_pleasedBy : Room := { frames := 2, cells := 0, slots := 0, locals := 52 }
def wX8_pleasedBy_143 (x1 : Int32) (x2 : Int32) (k_106 : Int32 → Int32 → Mem → Prop) (Q : Int32 → Mem → Prop) (v4 : Int32) (s0 : Int32) (s1 : Int32) (M : Mem) : Prop := k_106 (s1 + s0) (v4 + (1 : Int32)) M
def wX8_pleasedBy_106 (x1 : Int32) (x2 : Int32) (Q : Int32 → Mem → Prop) : Nat → Int32 → Int32 → Mem → Prop
  | 0, _, _, _ => False
  | n + 1, v3, v4, M => (wX8_lesser M (fun r9 M8 => ((r9 ≤ v4 → Q v3 M8) ∧ (¬ r9 ≤ v4 → (vp_in v4 (ln 98) ∧ (vp_in (M8 98 v4.toNatClampNeg) (ln 105) ∧ (vp_in v4 (ln 88) ∧ ((¬ (M8 105 (M8 98 v4.toNatClampNeg).toNatClampNeg) = (M8 88 v4.toNatClampNeg) → wX8_pleasedBy_143 x1 x2 (wX8_pleasedBy_106 x1 x2 Q n) Q v4 (0 : Int32) v3 M8) ∧ ((M8 105 (M8 98 v4.toNatClampNeg).toNatClampNeg) = (M8 88 v4.toNatClampNeg) → wX8_pleasedBy_143 x1 x2 (wX8_pleasedBy_106 x1 x2 Q n) Q v4 (1 : Int32) v3 M8)))))))))
def wX8_pleasedBy_78 (x1 : Int32) (x2 : Int32) (Q : Int32 → Mem → Prop) : Nat → Int32 → Mem → Prop
  | 0, _, _ => False
  | n + 1, v3, M => ((x1 ≤ v3 → (∃ n6, wX8_pleasedBy_106 x1 x2 Q n6 (0 : Int32) (0 : Int32) M)) ∧ (¬ x1 ≤ v3 → (wX8_put 105 99 M (fun M7 => wX8_pleasedBy_78 x1 x2 Q n (v3 + (1 : Int32)) M7))))
def wX8_pleasedBy_38 (x1 : Int32) (x2 : Int32) (Q : Int32 → Mem → Prop) : Nat → Int32 → Mem → Prop
  | 0, _, _ => False
  | n + 1, v3, M => (vp_in (0 : Int32) (ln 82) ∧ (((M 82 (0 : Int32).toNatClampNeg) ≤ v3 → (∃ n4, wX8_pleasedBy_78 x1 x2 Q n4 (1 : Int32) M)) ∧ (¬ (M 82 (0 : Int32).toNatClampNeg) ≤ v3 → (vp_in (0 : Int32) (ln 83) ∧ (vp_in (0 : Int32) (ln 84) ∧ (wX8_goRead 105 (0 : Int32) (M 83 (0 : Int32).toNatClampNeg) (M 84 (0 : Int32).toNatClampNeg) v3 M (fun M5 => wX8_pleasedBy_38 x1 x2 Q n (v3 + (1 : Int32)) M5)))))))
def wX8_pleasedBy_2 (x1 : Int32) (x2 : Int32) (Q : Int32 → Mem → Prop) : Nat → Int32 → Mem → Prop
  | 0, _, _ => False
  | n + 1, v3, M => (((40 : Int32) ≤ v3 → (wX8_layBelow 105 (0 : Int32) x2 M (fun M2 => (∃ n3, wX8_pleasedBy_38 x1 x2 Q n3 (1 : Int32) M2)))) ∧ (¬ (40 : Int32) ≤ v3 → (vp_in v3 (ln 89) ∧ (vp_in v3 (ln 105) ∧ wX8_pleasedBy_2 x1 x2 Q n (v3 + (1 : Int32)) (mu M 105 v3.toNatClampNeg (M 89 v3.toNatClampNeg))))))
def wX8_pleasedBy (x1 : Int32) (x2 : Int32) (M : Mem) (Q : Int32 → Mem → Prop) : Prop := (∃ n1, wX8_pleasedBy_2 x1 x2 Q n1 (0 : Int32) M)
abbrev rmX8_pleased : Room := { frames := 3, cells := 0, slots := 0, locals := 76 }
def wX8_pleased_22 (x1 : Int32) (x2 : Int32) (Q : Int32 → Mem → Prop) (M : Mem) : Prop := Q (-1 : Int32) M
def wX8_pleased_81 (x1 : Int32) (x2 : Int32) (k_33 : Int32 → Int32 → Int32 → Mem → Prop) (Q : Int32 → Mem → Prop) (v3 : Int32) (v5 : Int32) (s0 : Int32) (M : Mem) : Prop := k_33 v3 s0 (v5 + (1 : Int32)) M
def wX8_pleased_66 (x1 : Int32) (x2 : Int32) (k_33 : Int32 → Int32 → Int32 → Mem → Prop) (Q : Int32 → Mem → Prop) (v4 : Int32) (v5 : Int32) (v6 : Int32) (s0 : Int32) (M : Mem) : Prop := ((v6 ≤ v4 → wX8_pleased_81 x1 x2 (k_33) Q s0 v5 v4 M) ∧ (¬ v6 ≤ v4 → wX8_pleased_81 x1 x2 (k_33) Q s0 v5 v6 M))
def wX8_pleased_99 (x1 : Int32) (x2 : Int32) (Q : Int32 → Mem → Prop) (s0 : Int32) (M : Mem) : Prop := Q s0 M
def wX8_pleased_33 (x1 : Int32) (x2 : Int32) (Q : Int32 → Mem → Prop) : Nat → Int32 → Int32 → Int32 → Mem → Prop
  | 0, _, _, _, _ => False
  | n + 1, v3, v4, v5, M => (vp_in (0 : Int32) (ln 81) ∧ (((M 81 (0 : Int32).toNatClampNeg) ≤ v5 → ((¬ x2 = 0 → wX8_pleased_99 x1 x2 Q v4 M) ∧ (x2 = 0 → wX8_pleased_99 x1 x2 Q v3 M))) ∧ (¬ (M 81 (0 : Int32).toNatClampNeg) ≤ v5 → (wX8_pleasedBy x1 v5 M (fun r7 M6 => ((r7 ≤ v4 → wX8_pleased_66 x1 x2 (wX8_pleased_33 x1 x2 Q n) Q v4 v5 r7 v3 M6) ∧ (¬ r7 ≤ v4 → wX8_pleased_66 x1 x2 (wX8_pleased_33 x1 x2 Q n) Q v4 v5 r7 v5 M6)))))))
def wX8_pleased (x1 : Int32) (x2 : Int32) (M : Mem) (Q : Int32 → Mem → Prop) : Prop := (wX8_in x1.toInt64 (1 : Int64) (100 : Int64) M (fun r2 M1 => ((r2 = 0 → wX8_pleased_22 x1 x2 Q M1) ∧ (¬ r2 = 0 → (wX8_in x2.toInt64 (0 : Int64) (1 : Int64) M1 (fun r4 M3 => ((¬ r4 = 0 → (∃ n5, wX8_pleased_33 x1 x2 Q n5 (0 : Int32) (-4 : Int32) (0 : Int32) M3)) ∧ (r4 = 0 → wX8_pleased_22 x1 x2 Q M3))))))))
abbrev rmX8_copy : Room := { frames := 0, cells := 0, slots := 0, locals := 0 }
def wX8_copy_2 (x1 : Int32) (x2 : Int32) (Q : Mem → Prop) : Nat → Int32 → Mem → Prop
  | 0, _, _ => False
  | n + 1, v3, M => (((40 : Int32) ≤ v3 → (vp_in x1 (ln 91) ∧ (vp_in x2 (ln 91) ∧ (vp_in x1 (ln 92) ∧ (vp_in x2 (ln 92) ∧ Q (mu (mu M 91 x2.toNatClampNeg (M 91 x1.toNatClampNeg)) 92 x2.toNatClampNeg ((mu M 91 x2.toNatClampNeg (M 91 x1.toNatClampNeg)) 92 x1.toNatClampNeg))))))) ∧ (¬ (40 : Int32) ≤ v3 → (vp_in (((40 : Int32) * x1) + v3) (ln 90) ∧ (vp_in (((40 : Int32) * x2) + v3) (ln 90) ∧ wX8_copy_2 x1 x2 Q n (v3 + (1 : Int32)) (mu M 90 (((40 : Int32) * x2) + v3).toNatClampNeg (M 90 (((40 : Int32) * x1) + v3).toNatClampNeg))))))
def wX8_copy (x1 : Int32) (x2 : Int32) (M : Mem) (Q : Mem → Prop) : Prop := (∃ n1, wX8_copy_2 x1 x2 Q n1 (0 : Int32) M)
abbrev rmX8_keep : Room := { frames := 1, cells := 0, slots := 0, locals := 23 }
def wX8_keep (M : Mem) (Q : Int32 → Mem → Prop) : Prop := ((¬ (M 79 14) = (2 : Int32) → (wX8_copy (0 : Int32) ((mu M 79 14 ((M 79 14) + (1 : Int32))) 79 14) (mu M 79 14 ((M 79 14) + (1 : Int32))) (fun M1 => Q (M1 79 14) M1))) ∧ ((M 79 14) = (2 : Int32) → Q (-3 : Int32) M))
abbrev rmX8_back : Room := { frames := 1, cells := 0, slots := 0, locals := 23 }
def wX8_back (M : Mem) (Q : Int32 → Mem → Prop) : Prop := ((¬ (M 79 14) = 0 → (wX8_copy (M 79 14) (0 : Int32) M (fun M1 => Q ((mu M1 79 14 ((M1 79 14) - (1 : Int32))) 79 14) (mu M1 79 14 ((M1 79 14) - (1 : Int32)))))) ∧ ((M 79 14) = 0 → Q (-2 : Int32) M))
abbrev rmX8_count : Room := { frames := 0, cells := 0, slots := 0, locals := 0 }
def wX8_count (x1 : Int32) (M : Mem) (Q : Int32 → Mem → Prop) : Prop := ((x1 = (0 : Int32) → (vp_in (0 : Int32) (ln 81) ∧ Q (M 81 (0 : Int32).toNatClampNeg) M)) ∧ (¬ x1 = (0 : Int32) → ((x1 = (1 : Int32) → (vp_in (0 : Int32) (ln 82) ∧ Q (M 82 (0 : Int32).toNatClampNeg) M)) ∧ (¬ x1 = (1 : Int32) → ((x1 = (2 : Int32) → (vp_in (0 : Int32) (ln 87) ∧ Q (M 87 (0 : Int32).toNatClampNeg) M)) ∧ (¬ x1 = (2 : Int32) → ((x1 = (3 : Int32) → (vp_in (0 : Int32) (ln 91) ∧ Q (M 91 (0 : Int32).toNatClampNeg) M)) ∧ (¬ x1 = (3 : Int32) → ((x1 = (4 : Int32) → (vp_in (0 : Int32) (ln 92) ∧ Q (M 92 (0 : Int32).toNatClampNeg) M)) ∧ (¬ x1 = (4 : Int32) → ((x1 = (5 : Int32) → Q (M 79 15) M) ∧ (¬ x1 = (5 : Int32) → ((x1 = (6 : Int32) → Q (M 79 14) M) ∧ (¬ x1 = (6 : Int32) → ((x1 = (7 : Int32) → Q (M 79 0) M) ∧ (¬ x1 = (7 : Int32) → Q (-1 : Int32) M))))))))))))))))
