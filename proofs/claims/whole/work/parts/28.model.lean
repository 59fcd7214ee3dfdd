/-! the reference: its object and the rows behind it -/
def ModAt (h : AH) (m : Nat) : Prop := hS h m = (22, 59) ∧ (hR h m 1 = m + 1 ∧ hS h (m + 1) = (1, 7)) ∧ (hR h m 2 = m + 2 ∧ hS h (m + 2) = (1, 5)) ∧ (hR h m 3 = m + 3 ∧ hS h (m + 3) = (1, 5)) ∧ (hR h m 4 = m + 4 ∧ hS h (m + 4) = (1, 5)) ∧ (hR h m 5 = m + 5 ∧ hS h (m + 5) = (1, 6)) ∧ (hR h m 6 = m + 6 ∧ hS h (m + 6) = (1, 6)) ∧ (hR h m 7 = m + 7 ∧ hS h (m + 7) = (1, 6)) ∧ (hR h m 8 = m + 8 ∧ hS h (m + 8) = (1, 6)) ∧ (hR h m 9 = m + 9 ∧ hS h (m + 9) = (1, 10)) ∧ (hR h m 10 = m + 10 ∧ hS h (m + 10) = (1, 10)) ∧ (hR h m 11 = m + 11 ∧ hS h (m + 11) = (1, 10)) ∧ (hR h m 12 = m + 12 ∧ hS h (m + 12) = (1, 5)) ∧ (hR h m 13 = m + 13 ∧ hS h (m + 13) = (1, 5)) ∧ (hR h m 14 = m + 14 ∧ hS h (m + 14) = (1, 6)) ∧ (hR h m 15 = m + 15 ∧ hS h (m + 15) = (1, 3)) ∧ (hR h m 16 = m + 16 ∧ hS h (m + 16) = (1, 5)) ∧ (hR h m 17 = m + 17 ∧ hS h (m + 17) = (1, 5)) ∧ (hR h m 18 = m + 18 ∧ hS h (m + 18) = (1, 6)) ∧ (hR h m 19 = m + 19 ∧ hS h (m + 19) = (1, 6)) ∧ (hR h m 20 = m + 20 ∧ hS h (m + 20) = (1, 6)) ∧ (hR h m 31 = m + 21 ∧ hS h (m + 21) = (2, 400)) ∧ (hR h m 32 = m + 22 ∧ hS h (m + 22) = (1, 1800)) ∧ (hR h m 33 = m + 23 ∧ hS h (m + 23) = (1, 1800)) ∧ (hR h m 34 = m + 24 ∧ hS h (m + 24) = (1, 6)) ∧ (hR h m 35 = m + 25 ∧ hS h (m + 25) = (1, 72)) ∧ (hR h m 36 = m + 26 ∧ hS h (m + 26) = (1, 72)) ∧ (hR h m 37 = m + 27 ∧ hS h (m + 27) = (1, 72)) ∧ (hR h m 38 = m + 28 ∧ hS h (m + 28) = (1, 402)) ∧ (hR h m 39 = m + 29 ∧ hS h (m + 29) = (4, 12)) ∧ (hR h m 40 = m + 30 ∧ hS h (m + 30) = (4, 300)) ∧ (hR h m 41 = m + 31 ∧ hS h (m + 31) = (1, 5)) ∧ (hR h m 42 = m + 32 ∧ hS h (m + 32) = (1, 5)) ∧ (hR h m 43 = m + 33 ∧ hS h (m + 33) = (1, 560)) ∧ (hR h m 44 = m + 34 ∧ hS h (m + 34) = (1, 1)) ∧ (hR h m 48 = m + 35 ∧ hS h (m + 35) = (1, 3)) ∧ (hR h m 49 = m + 36 ∧ hS h (m + 36) = (1, 3)) ∧ (hR h m 50 = m + 37 ∧ hS h (m + 37) = (1, 32)) ∧ (hR h m 51 = m + 38 ∧ hS h (m + 38) = (1, 49)) ∧ (hR h m 52 = m + 39 ∧ hS h (m + 39) = (1, 49)) ∧ (hR h m 53 = m + 40 ∧ hS h (m + 40) = (1, 366)) ∧ (hR h m 54 = m + 41 ∧ hS h (m + 41) = (1, 42)) ∧ (hR h m 55 = m + 42 ∧ hS h (m + 42) = (1, 3500)) ∧ (hR h m 56 = m + 43 ∧ hS h (m + 43) = (3, 4))
theorem mdq_0 {h : AH} {m : Nat} (H : ModAt h m) : hS h m = (22, 59) := H.1
theorem mdq_1 {h : AH} {m : Nat} (H : ModAt h m) : hR h m 1 = m + 1 := (H.2.1).1
theorem mds_1 {h : AH} {m : Nat} (H : ModAt h m) : hS h (m + 1) = (1, 7) := (H.2.1).2
theorem mdq_2 {h : AH} {m : Nat} (H : ModAt h m) : hR h m 2 = m + 2 := (H.2.2.1).1
theorem mds_2 {h : AH} {m : Nat} (H : ModAt h m) : hS h (m + 2) = (1, 5) := (H.2.2.1).2
theorem mdq_3 {h : AH} {m : Nat} (H : ModAt h m) : hR h m 3 = m + 3 := (H.2.2.2.1).1
theorem mds_3 {h : AH} {m : Nat} (H : ModAt h m) : hS h (m + 3) = (1, 5) := (H.2.2.2.1).2
theorem mdq_4 {h : AH} {m : Nat} (H : ModAt h m) : hR h m 4 = m + 4 := (H.2.2.2.2.1).1
theorem mds_4 {h : AH} {m : Nat} (H : ModAt h m) : hS h (m + 4) = (1, 5) := (H.2.2.2.2.1).2
theorem mdq_5 {h : AH} {m : Nat} (H : ModAt h m) : hR h m 5 = m + 5 := (H.2.2.2.2.2.1).1
theorem mds_5 {h : AH} {m : Nat} (H : ModAt h m) : hS h (m + 5) = (1, 6) := (H.2.2.2.2.2.1).2
theorem mdq_6 {h : AH} {m : Nat} (H : ModAt h m) : hR h m 6 = m + 6 := (H.2.2.2.2.2.2.1).1
theorem mds_6 {h : AH} {m : Nat} (H : ModAt h m) : hS h (m + 6) = (1, 6) := (H.2.2.2.2.2.2.1).2
theorem mdq_7 {h : AH} {m : Nat} (H : ModAt h m) : hR h m 7 = m + 7 := (H.2.2.2.2.2.2.2.1).1
theorem mds_7 {h : AH} {m : Nat} (H : ModAt h m) : hS h (m + 7) = (1, 6) := (H.2.2.2.2.2.2.2.1).2
theorem mdq_8 {h : AH} {m : Nat} (H : ModAt h m) : hR h m 8 = m + 8 := (H.2.2.2.2.2.2.2.2.1).1
theorem mds_8 {h : AH} {m : Nat} (H : ModAt h m) : hS h (m + 8) = (1, 6) := (H.2.2.2.2.2.2.2.2.1).2
theorem mdq_9 {h : AH} {m : Nat} (H : ModAt h m) : hR h m 9 = m + 9 := (H.2.2.2.2.2.2.2.2.2.1).1
theorem mds_9 {h : AH} {m : Nat} (H : ModAt h m) : hS h (m + 9) = (1, 10) := (H.2.2.2.2.2.2.2.2.2.1).2
theorem mdq_10 {h : AH} {m : Nat} (H : ModAt h m) : hR h m 10 = m + 10 := (H.2.2.2.2.2.2.2.2.2.2.1).1
theorem mds_10 {h : AH} {m : Nat} (H : ModAt h m) : hS h (m + 10) = (1, 10) := (H.2.2.2.2.2.2.2.2.2.2.1).2
theorem mdq_11 {h : AH} {m : Nat} (H : ModAt h m) : hR h m 11 = m + 11 := (H.2.2.2.2.2.2.2.2.2.2.2.1).1
theorem mds_11 {h : AH} {m : Nat} (H : ModAt h m) : hS h (m + 11) = (1, 10) := (H.2.2.2.2.2.2.2.2.2.2.2.1).2
theorem mdq_12 {h : AH} {m : Nat} (H : ModAt h m) : hR h m 12 = m + 12 := (H.2.2.2.2.2.2.2.2.2.2.2.2.1).1
theorem mds_12 {h : AH} {m : Nat} (H : ModAt h m) : hS h (m + 12) = (1, 5) := (H.2.2.2.2.2.2.2.2.2.2.2.2.1).2
theorem mdq_13 {h : AH} {m : Nat} (H : ModAt h m) : hR h m 13 = m + 13 := (H.2.2.2.2.2.2.2.2.2.2.2.2.2.1).1
theorem mds_13 {h : AH} {m : Nat} (H : ModAt h m) : hS h (m + 13) = (1, 5) := (H.2.2.2.2.2.2.2.2.2.2.2.2.2.1).2
theorem mdq_14 {h : AH} {m : Nat} (H : ModAt h m) : hR h m 14 = m + 14 := (H.2.2.2.2.2.2.2.2.2.2.2.2.2.2.1).1
theorem mds_14 {h : AH} {m : Nat} (H : ModAt h m) : hS h (m + 14) = (1, 6) := (H.2.2.2.2.2.2.2.2.2.2.2.2.2.2.1).2
theorem mdq_15 {h : AH} {m : Nat} (H : ModAt h m) : hR h m 15 = m + 15 := (H.2.2.2.2.2.2.2.2.2.2.2.2.2.2.2.1).1
theorem mds_15 {h : AH} {m : Nat} (H : ModAt h m) : hS h (m + 15) = (1, 3) := (H.2.2.2.2.2.2.2.2.2.2.2.2.2.2.2.1).2
theorem mdq_16 {h : AH} {m : Nat} (H : ModAt h m) : hR h m 16 = m + 16 := (H.2.2.2.2.2.2.2.2.2.2.2.2.2.2.2.2.1).1
theorem mds_16 {h : AH} {m : Nat} (H : ModAt h m) : hS h (m + 16) = (1, 5) := (H.2.2.2.2.2.2.2.2.2.2.2.2.2.2.2.2.1).2
theorem mdq_17 {h : AH} {m : Nat} (H : ModAt h m) : hR h m 17 = m + 17 := (H.2.2.2.2.2.2.2.2.2.2.2.2.2.2.2.2.2.1).1
theorem mds_17 {h : AH} {m : Nat} (H : ModAt h m) : hS h (m + 17) = (1, 5) := (H.2.2.2.2.2.2.2.2.2.2.2.2.2.2.2.2.2.1).2
theorem mdq_18 {h : AH} {m : Nat} (H : ModAt h m) : hR h m 18 = m + 18 := (H.2.2.2.2.2.2.2.2.2.2.2.2.2.2.2.2.2.2.1).1
theorem mds_18 {h : AH} {m : Nat} (H : ModAt h m) : hS h (m + 18) = (1, 6) := (H.2.2.2.2.2.2.2.2.2.2.2.2.2.2.2.2.2.2.1).2
theorem mdq_19 {h : AH} {m : Nat} (H : ModAt h m) : hR h m 19 = m + 19 := (H.2.2.2.2.2.2.2.2.2.2.2.2.2.2.2.2.2.2.2.1).1
theorem mds_19 {h : AH} {m : Nat} (H : ModAt h m) : hS h (m + 19) = (1, 6) := (H.2.2.2.2.2.2.2.2.2.2.2.2.2.2.2.2.2.2.2.1).2
theorem mdq_20 {h : AH} {m : Nat} (H : ModAt h m) : hR h m 20 = m + 20 := (H.2.2.2.2.2.2.2.2.2.2.2.2.2.2.2.2.2.2.2.2.1).1
theorem mds_20 {h : AH} {m : Nat} (H : ModAt h m) : hS h (m + 20) = (1, 6) := (H.2.2.2.2.2.2.2.2.2.2.2.2.2.2.2.2.2.2.2.2.1).2
theorem mdq_31 {h : AH} {m : Nat} (H : ModAt h m) : hR h m 31 = m + 21 := (H.2.2.2.2.2.2.2.2.2.2.2.2.2.2.2.2.2.2.2.2.2.1).1
theorem mds_31 {h : AH} {m : Nat} (H : ModAt h m) : hS h (m + 21) = (2, 400) := (H.2.2.2.2.2.2.2.2.2.2.2.2.2.2.2.2.2.2.2.2.2.1).2
theorem mdq_32 {h : AH} {m : Nat} (H : ModAt h m) : hR h m 32 = m + 22 := (H.2.2.2.2.2.2.2.2.2.2.2.2.2.2.2.2.2.2.2.2.2.2.1).1
theorem mds_32 {h : AH} {m : Nat} (H : ModAt h m) : hS h (m + 22) = (1, 1800) := (H.2.2.2.2.2.2.2.2.2.2.2.2.2.2.2.2.2.2.2.2.2.2.1).2
theorem mdq_33 {h : AH} {m : Nat} (H : ModAt h m) : hR h m 33 = m + 23 := (H.2.2.2.2.2.2.2.2.2.2.2.2.2.2.2.2.2.2.2.2.2.2.2.1).1
theorem mds_33 {h : AH} {m : Nat} (H : ModAt h m) : hS h (m + 23) = (1, 1800) := (H.2.2.2.2.2.2.2.2.2.2.2.2.2.2.2.2.2.2.2.2.2.2.2.1).2
theorem mdq_34 {h : AH} {m : Nat} (H : ModAt h m) : hR h m 34 = m + 24 := (H.2.2.2.2.2.2.2.2.2.2.2.2.2.2.2.2.2.2.2.2.2.2.2.2.1).1
theorem mds_34 {h : AH} {m : Nat} (H : ModAt h m) : hS h (m + 24) = (1, 6) := (H.2.2.2.2.2.2.2.2.2.2.2.2.2.2.2.2.2.2.2.2.2.2.2.2.1).2
theorem mdq_35 {h : AH} {m : Nat} (H : ModAt h m) : hR h m 35 = m + 25 := (H.2.2.2.2.2.2.2.2.2.2.2.2.2.2.2.2.2.2.2.2.2.2.2.2.2.1).1
theorem mds_35 {h : AH} {m : Nat} (H : ModAt h m) : hS h (m + 25) = (1, 72) := (H.2.2.2.2.2.2.2.2.2.2.2.2.2.2.2.2.2.2.2.2.2.2.2.2.2.1).2
theorem mdq_36 {h : AH} {m : Nat} (H : ModAt h m) : hR h m 36 = m + 26 := (H.2.2.2.2.2.2.2.2.2.2.2.2.2.2.2.2.2.2.2.2.2.2.2.2.2.2.1).1
theorem mds_36 {h : AH} {m : Nat} (H : ModAt h m) : hS h (m + 26) = (1, 72) := (H.2.2.2.2.2.2.2.2.2.2.2.2.2.2.2.2.2.2.2.2.2.2.2.2.2.2.1).2
theorem mdq_37 {h : AH} {m : Nat} (H : ModAt h m) : hR h m 37 = m + 27 := (H.2.2.2.2.2.2.2.2.2.2.2.2.2.2.2.2.2.2.2.2.2.2.2.2.2.2.2.1).1
theorem mds_37 {h : AH} {m : Nat} (H : ModAt h m) : hS h (m + 27) = (1, 72) := (H.2.2.2.2.2.2.2.2.2.2.2.2.2.2.2.2.2.2.2.2.2.2.2.2.2.2.2.1).2
theorem mdq_38 {h : AH} {m : Nat} (H : ModAt h m) : hR h m 38 = m + 28 := (H.2.2.2.2.2.2.2.2.2.2.2.2.2.2.2.2.2.2.2.2.2.2.2.2.2.2.2.2.1).1
theorem mds_38 {h : AH} {m : Nat} (H : ModAt h m) : hS h (m + 28) = (1, 402) := (H.2.2.2.2.2.2.2.2.2.2.2.2.2.2.2.2.2.2.2.2.2.2.2.2.2.2.2.2.1).2
theorem mdq_39 {h : AH} {m : Nat} (H : ModAt h m) : hR h m 39 = m + 29 := (H.2.2.2.2.2.2.2.2.2.2.2.2.2.2.2.2.2.2.2.2.2.2.2.2.2.2.2.2.2.1).1
theorem mds_39 {h : AH} {m : Nat} (H : ModAt h m) : hS h (m + 29) = (4, 12) := (H.2.2.2.2.2.2.2.2.2.2.2.2.2.2.2.2.2.2.2.2.2.2.2.2.2.2.2.2.2.1).2
theorem mdq_40 {h : AH} {m : Nat} (H : ModAt h m) : hR h m 40 = m + 30 := (H.2.2.2.2.2.2.2.2.2.2.2.2.2.2.2.2.2.2.2.2.2.2.2.2.2.2.2.2.2.2.1).1
theorem mds_40 {h : AH} {m : Nat} (H : ModAt h m) : hS h (m + 30) = (4, 300) := (H.2.2.2.2.2.2.2.2.2.2.2.2.2.2.2.2.2.2.2.2.2.2.2.2.2.2.2.2.2.2.1).2
theorem mdq_41 {h : AH} {m : Nat} (H : ModAt h m) : hR h m 41 = m + 31 := (H.2.2.2.2.2.2.2.2.2.2.2.2.2.2.2.2.2.2.2.2.2.2.2.2.2.2.2.2.2.2.2.1).1
theorem mds_41 {h : AH} {m : Nat} (H : ModAt h m) : hS h (m + 31) = (1, 5) := (H.2.2.2.2.2.2.2.2.2.2.2.2.2.2.2.2.2.2.2.2.2.2.2.2.2.2.2.2.2.2.2.1).2
theorem mdq_42 {h : AH} {m : Nat} (H : ModAt h m) : hR h m 42 = m + 32 := (H.2.2.2.2.2.2.2.2.2.2.2.2.2.2.2.2.2.2.2.2.2.2.2.2.2.2.2.2.2.2.2.2.1).1
theorem mds_42 {h : AH} {m : Nat} (H : ModAt h m) : hS h (m + 32) = (1, 5) := (H.2.2.2.2.2.2.2.2.2.2.2.2.2.2.2.2.2.2.2.2.2.2.2.2.2.2.2.2.2.2.2.2.1).2
theorem mdq_43 {h : AH} {m : Nat} (H : ModAt h m) : hR h m 43 = m + 33 := (H.2.2.2.2.2.2.2.2.2.2.2.2.2.2.2.2.2.2.2.2.2.2.2.2.2.2.2.2.2.2.2.2.2.1).1
theorem mds_43 {h : AH} {m : Nat} (H : ModAt h m) : hS h (m + 33) = (1, 560) := (H.2.2.2.2.2.2.2.2.2.2.2.2.2.2.2.2.2.2.2.2.2.2.2.2.2.2.2.2.2.2.2.2.2.1).2
theorem mdq_44 {h : AH} {m : Nat} (H : ModAt h m) : hR h m 44 = m + 34 := (H.2.2.2.2.2.2.2.2.2.2.2.2.2.2.2.2.2.2.2.2.2.2.2.2.2.2.2.2.2.2.2.2.2.2.1).1
theorem mds_44 {h : AH} {m : Nat} (H : ModAt h m) : hS h (m + 34) = (1, 1) := (H.2.2.2.2.2.2.2.2.2.2.2.2.2.2.2.2.2.2.2.2.2.2.2.2.2.2.2.2.2.2.2.2.2.2.1).2
theorem mdq_48 {h : AH} {m : Nat} (H : ModAt h m) : hR h m 48 = m + 35 := (H.2.2.2.2.2.2.2.2.2.2.2.2.2.2.2.2.2.2.2.2.2.2.2.2.2.2.2.2.2.2.2.2.2.2.2.1).1
theorem mds_48 {h : AH} {m : Nat} (H : ModAt h m) : hS h (m + 35) = (1, 3) := (H.2.2.2.2.2.2.2.2.2.2.2.2.2.2.2.2.2.2.2.2.2.2.2.2.2.2.2.2.2.2.2.2.2.2.2.1).2
theorem mdq_49 {h : AH} {m : Nat} (H : ModAt h m) : hR h m 49 = m + 36 := (H.2.2.2.2.2.2.2.2.2.2.2.2.2.2.2.2.2.2.2.2.2.2.2.2.2.2.2.2.2.2.2.2.2.2.2.2.1).1
theorem mds_49 {h : AH} {m : Nat} (H : ModAt h m) : hS h (m + 36) = (1, 3) := (H.2.2.2.2.2.2.2.2.2.2.2.2.2.2.2.2.2.2.2.2.2.2.2.2.2.2.2.2.2.2.2.2.2.2.2.2.1).2
theorem mdq_50 {h : AH} {m : Nat} (H : ModAt h m) : hR h m 50 = m + 37 := (H.2.2.2.2.2.2.2.2.2.2.2.2.2.2.2.2.2.2.2.2.2.2.2.2.2.2.2.2.2.2.2.2.2.2.2.2.2.1).1
theorem mds_50 {h : AH} {m : Nat} (H : ModAt h m) : hS h (m + 37) = (1, 32) := (H.2.2.2.2.2.2.2.2.2.2.2.2.2.2.2.2.2.2.2.2.2.2.2.2.2.2.2.2.2.2.2.2.2.2.2.2.2.1).2
theorem mdq_51 {h : AH} {m : Nat} (H : ModAt h m) : hR h m 51 = m + 38 := (H.2.2.2.2.2.2.2.2.2.2.2.2.2.2.2.2.2.2.2.2.2.2.2.2.2.2.2.2.2.2.2.2.2.2.2.2.2.2.1).1
theorem mds_51 {h : AH} {m : Nat} (H : ModAt h m) : hS h (m + 38) = (1, 49) := (H.2.2.2.2.2.2.2.2.2.2.2.2.2.2.2.2.2.2.2.2.2.2.2.2.2.2.2.2.2.2.2.2.2.2.2.2.2.2.1).2
theorem mdq_52 {h : AH} {m : Nat} (H : ModAt h m) : hR h m 52 = m + 39 := (H.2.2.2.2.2.2.2.2.2.2.2.2.2.2.2.2.2.2.2.2.2.2.2.2.2.2.2.2.2.2.2.2.2.2.2.2.2.2.2.1).1
theorem mds_52 {h : AH} {m : Nat} (H : ModAt h m) : hS h (m + 39) = (1, 49) := (H.2.2.2.2.2.2.2.2.2.2.2.2.2.2.2.2.2.2.2.2.2.2.2.2.2.2.2.2.2.2.2.2.2.2.2.2.2.2.2.1).2
theorem mdq_53 {h : AH} {m : Nat} (H : ModAt h m) : hR h m 53 = m + 40 := (H.2.2.2.2.2.2.2.2.2.2.2.2.2.2.2.2.2.2.2.2.2.2.2.2.2.2.2.2.2.2.2.2.2.2.2.2.2.2.2.2.1).1
theorem mds_53 {h : AH} {m : Nat} (H : ModAt h m) : hS h (m + 40) = (1, 366) := (H.2.2.2.2.2.2.2.2.2.2.2.2.2.2.2.2.2.2.2.2.2.2.2.2.2.2.2.2.2.2.2.2.2.2.2.2.2.2.2.2.1).2
theorem mdq_54 {h : AH} {m : Nat} (H : ModAt h m) : hR h m 54 = m + 41 := (H.2.2.2.2.2.2.2.2.2.2.2.2.2.2.2.2.2.2.2.2.2.2.2.2.2.2.2.2.2.2.2.2.2.2.2.2.2.2.2.2.2.1).1
theorem mds_54 {h : AH} {m : Nat} (H : ModAt h m) : hS h (m + 41) = (1, 42) := (H.2.2.2.2.2.2.2.2.2.2.2.2.2.2.2.2.2.2.2.2.2.2.2.2.2.2.2.2.2.2.2.2.2.2.2.2.2.2.2.2.2.1).2
theorem mdq_55 {h : AH} {m : Nat} (H : ModAt h m) : hR h m 55 = m + 42 := (H.2.2.2.2.2.2.2.2.2.2.2.2.2.2.2.2.2.2.2.2.2.2.2.2.2.2.2.2.2.2.2.2.2.2.2.2.2.2.2.2.2.2.1).1
theorem mds_55 {h : AH} {m : Nat} (H : ModAt h m) : hS h (m + 42) = (1, 3500) := (H.2.2.2.2.2.2.2.2.2.2.2.2.2.2.2.2.2.2.2.2.2.2.2.2.2.2.2.2.2.2.2.2.2.2.2.2.2.2.2.2.2.2.1).2
theorem mdq_56 {h : AH} {m : Nat} (H : ModAt h m) : hR h m 56 = m + 43 := (H.2.2.2.2.2.2.2.2.2.2.2.2.2.2.2.2.2.2.2.2.2.2.2.2.2.2.2.2.2.2.2.2.2.2.2.2.2.2.2.2.2.2.2).1
theorem mds_56 {h : AH} {m : Nat} (H : ModAt h m) : hS h (m + 43) = (3, 4) := (H.2.2.2.2.2.2.2.2.2.2.2.2.2.2.2.2.2.2.2.2.2.2.2.2.2.2.2.2.2.2.2.2.2.2.2.2.2.2.2.2.2.2.2).2
theorem ModAt.fr {h h' : AH} {m : Nat} {S : Nat → Prop} (H : ModAt h m) (f : Fr' h h' S) : ModAt h' m := by
  simp only [ModAt, f.1, f.2.1] at H ⊢; exact H
theorem vl7_0 : vp_in 0 7 := vp_in_nI (n := 0) (by decide) (by decide)
theorem vl7_1 : vp_in 1 7 := vp_in_nI (n := 1) (by decide) (by decide)
theorem vl7_2 : vp_in 2 7 := vp_in_nI (n := 2) (by decide) (by decide)
theorem vl7_3 : vp_in 3 7 := vp_in_nI (n := 3) (by decide) (by decide)
theorem vl7_4 : vp_in 4 7 := vp_in_nI (n := 4) (by decide) (by decide)
theorem vl7_5 : vp_in 5 7 := vp_in_nI (n := 5) (by decide) (by decide)
theorem vl7_6 : vp_in 6 7 := vp_in_nI (n := 6) (by decide) (by decide)
theorem vl12_0 : vp_in 0 12 := vp_in_nI (n := 0) (by decide) (by decide)
theorem vl12_1 : vp_in 1 12 := vp_in_nI (n := 1) (by decide) (by decide)
theorem vl12_2 : vp_in 2 12 := vp_in_nI (n := 2) (by decide) (by decide)
theorem vl12_3 : vp_in 3 12 := vp_in_nI (n := 3) (by decide) (by decide)
theorem vl12_4 : vp_in 4 12 := vp_in_nI (n := 4) (by decide) (by decide)
theorem vl12_5 : vp_in 5 12 := vp_in_nI (n := 5) (by decide) (by decide)
theorem vl12_6 : vp_in 6 12 := vp_in_nI (n := 6) (by decide) (by decide)
theorem vl12_7 : vp_in 7 12 := vp_in_nI (n := 7) (by decide) (by decide)
theorem vl12_8 : vp_in 8 12 := vp_in_nI (n := 8) (by decide) (by decide)
theorem vl12_9 : vp_in 9 12 := vp_in_nI (n := 9) (by decide) (by decide)
theorem vl12_10 : vp_in 10 12 := vp_in_nI (n := 10) (by decide) (by decide)
theorem vl12_11 : vp_in 11 12 := vp_in_nI (n := 11) (by decide) (by decide)
theorem vl3_0 : vp_in 0 3 := vp_in_nI (n := 0) (by decide) (by decide)
theorem vl3_1 : vp_in 1 3 := vp_in_nI (n := 1) (by decide) (by decide)
theorem vl3_2 : vp_in 2 3 := vp_in_nI (n := 2) (by decide) (by decide)
theorem vl1_0 : vp_in 0 1 := vp_in_nI (n := 0) (by decide) (by decide)
