/-! the same by number -/
theorem ltn_0 {a : Nat} (h : a < 2147483648) : nI a < (0 : Int32) ↔ a < 0 := e_lt h (by decide)
theorem gtn_0 {a : Nat} (h : a < 2147483648) : (0 : Int32) < nI a ↔ 0 < a := e_lt (by decide) h
theorem len_0 {a : Nat} (h : a < 2147483648) : nI a ≤ (0 : Int32) ↔ a ≤ 0 := e_le h (by decide)
theorem gen_0 {a : Nat} (h : a < 2147483648) : (0 : Int32) ≤ nI a ↔ 0 ≤ a := e_le (by decide) h
theorem eqn_0 {a : Nat} (h : a < 2147483648) : nI a = (0 : Int32) ↔ a = 0 := e_eq h (by decide)
theorem adn_0 (a : Nat) : nI a + (0 : Int32) = nI (a + 0) := e_add a 0
theorem sbn_0 {a : Nat} (h : 0 ≤ a) : nI a - (0 : Int32) = nI (a - 0) := e_sub h
theorem mln_0 (a : Nat) : (0 : Int32) * nI a = nI (0 * a) := e_mul 0 a
theorem ltn_1 {a : Nat} (h : a < 2147483648) : nI a < (1 : Int32) ↔ a < 1 := e_lt h (by decide)
theorem gtn_1 {a : Nat} (h : a < 2147483648) : (1 : Int32) < nI a ↔ 1 < a := e_lt (by decide) h
theorem len_1 {a : Nat} (h : a < 2147483648) : nI a ≤ (1 : Int32) ↔ a ≤ 1 := e_le h (by decide)
theorem gen_1 {a : Nat} (h : a < 2147483648) : (1 : Int32) ≤ nI a ↔ 1 ≤ a := e_le (by decide) h
theorem eqn_1 {a : Nat} (h : a < 2147483648) : nI a = (1 : Int32) ↔ a = 1 := e_eq h (by decide)
theorem adn_1 (a : Nat) : nI a + (1 : Int32) = nI (a + 1) := e_add a 1
theorem sbn_1 {a : Nat} (h : 1 ≤ a) : nI a - (1 : Int32) = nI (a - 1) := e_sub h
theorem mln_1 (a : Nat) : (1 : Int32) * nI a = nI (1 * a) := e_mul 1 a
theorem ltn_2 {a : Nat} (h : a < 2147483648) : nI a < (2 : Int32) ↔ a < 2 := e_lt h (by decide)
theorem gtn_2 {a : Nat} (h : a < 2147483648) : (2 : Int32) < nI a ↔ 2 < a := e_lt (by decide) h
theorem len_2 {a : Nat} (h : a < 2147483648) : nI a ≤ (2 : Int32) ↔ a ≤ 2 := e_le h (by decide)
theorem gen_2 {a : Nat} (h : a < 2147483648) : (2 : Int32) ≤ nI a ↔ 2 ≤ a := e_le (by decide) h
theorem eqn_2 {a : Nat} (h : a < 2147483648) : nI a = (2 : Int32) ↔ a = 2 := e_eq h (by decide)
theorem adn_2 (a : Nat) : nI a + (2 : Int32) = nI (a + 2) := e_add a 2
theorem sbn_2 {a : Nat} (h : 2 ≤ a) : nI a - (2 : Int32) = nI (a - 2) := e_sub h
theorem mln_2 (a : Nat) : (2 : Int32) * nI a = nI (2 * a) := e_mul 2 a
theorem ltn_3 {a : Nat} (h : a < 2147483648) : nI a < (3 : Int32) ↔ a < 3 := e_lt h (by decide)
theorem gtn_3 {a : Nat} (h : a < 2147483648) : (3 : Int32) < nI a ↔ 3 < a := e_lt (by decide) h
theorem len_3 {a : Nat} (h : a < 2147483648) : nI a ≤ (3 : Int32) ↔ a ≤ 3 := e_le h (by decide)
theorem gen_3 {a : Nat} (h : a < 2147483648) : (3 : Int32) ≤ nI a ↔ 3 ≤ a := e_le (by decide) h
theorem eqn_3 {a : Nat} (h : a < 2147483648) : nI a = (3 : Int32) ↔ a = 3 := e_eq h (by decide)
theorem adn_3 (a : Nat) : nI a + (3 : Int32) = nI (a + 3) := e_add a 3
theorem sbn_3 {a : Nat} (h : 3 ≤ a) : nI a - (3 : Int32) = nI (a - 3) := e_sub h
theorem mln_3 (a : Nat) : (3 : Int32) * nI a = nI (3 * a) := e_mul 3 a
theorem ltn_4 {a : Nat} (h : a < 2147483648) : nI a < (4 : Int32) ↔ a < 4 := e_lt h (by decide)
theorem gtn_4 {a : Nat} (h : a < 2147483648) : (4 : Int32) < nI a ↔ 4 < a := e_lt (by decide) h
theorem len_4 {a : Nat} (h : a < 2147483648) : nI a ≤ (4 : Int32) ↔ a ≤ 4 := e_le h (by decide)
theorem gen_4 {a : Nat} (h : a < 2147483648) : (4 : Int32) ≤ nI a ↔ 4 ≤ a := e_le (by decide) h
theorem eqn_4 {a : Nat} (h : a < 2147483648) : nI a = (4 : Int32) ↔ a = 4 := e_eq h (by decide)
theorem adn_4 (a : Nat) : nI a + (4 : Int32) = nI (a + 4) := e_add a 4
theorem sbn_4 {a : Nat} (h : 4 ≤ a) : nI a - (4 : Int32) = nI (a - 4) := e_sub h
theorem mln_4 (a : Nat) : (4 : Int32) * nI a = nI (4 * a) := e_mul 4 a
theorem ltn_5 {a : Nat} (h : a < 2147483648) : nI a < (5 : Int32) ↔ a < 5 := e_lt h (by decide)
theorem gtn_5 {a : Nat} (h : a < 2147483648) : (5 : Int32) < nI a ↔ 5 < a := e_lt (by decide) h
theorem len_5 {a : Nat} (h : a < 2147483648) : nI a ≤ (5 : Int32) ↔ a ≤ 5 := e_le h (by decide)
theorem gen_5 {a : Nat} (h : a < 2147483648) : (5 : Int32) ≤ nI a ↔ 5 ≤ a := e_le (by decide) h
theorem eqn_5 {a : Nat} (h : a < 2147483648) : nI a = (5 : Int32) ↔ a = 5 := e_eq h (by decide)
theorem adn_5 (a : Nat) : nI a + (5 : Int32) = nI (a + 5) := e_add a 5
theorem sbn_5 {a : Nat} (h : 5 ≤ a) : nI a - (5 : Int32) = nI (a - 5) := e_sub h
theorem mln_5 (a : Nat) : (5 : Int32) * nI a = nI (5 * a) := e_mul 5 a
theorem ltn_6 {a : Nat} (h : a < 2147483648) : nI a < (6 : Int32) ↔ a < 6 := e_lt h (by decide)
theorem gtn_6 {a : Nat} (h : a < 2147483648) : (6 : Int32) < nI a ↔ 6 < a := e_lt (by decide) h
theorem len_6 {a : Nat} (h : a < 2147483648) : nI a ≤ (6 : Int32) ↔ a ≤ 6 := e_le h (by decide)
theorem gen_6 {a : Nat} (h : a < 2147483648) : (6 : Int32) ≤ nI a ↔ 6 ≤ a := e_le (by decide) h
theorem eqn_6 {a : Nat} (h : a < 2147483648) : nI a = (6 : Int32) ↔ a = 6 := e_eq h (by decide)
theorem adn_6 (a : Nat) : nI a + (6 : Int32) = nI (a + 6) := e_add a 6
theorem sbn_6 {a : Nat} (h : 6 ≤ a) : nI a - (6 : Int32) = nI (a - 6) := e_sub h
theorem mln_6 (a : Nat) : (6 : Int32) * nI a = nI (6 * a) := e_mul 6 a
theorem ltn_7 {a : Nat} (h : a < 2147483648) : nI a < (7 : Int32) ↔ a < 7 := e_lt h (by decide)
theorem gtn_7 {a : Nat} (h : a < 2147483648) : (7 : Int32) < nI a ↔ 7 < a := e_lt (by decide) h
theorem len_7 {a : Nat} (h : a < 2147483648) : nI a ≤ (7 : Int32) ↔ a ≤ 7 := e_le h (by decide)
theorem gen_7 {a : Nat} (h : a < 2147483648) : (7 : Int32) ≤ nI a ↔ 7 ≤ a := e_le (by decide) h
theorem eqn_7 {a : Nat} (h : a < 2147483648) : nI a = (7 : Int32) ↔ a = 7 := e_eq h (by decide)
theorem adn_7 (a : Nat) : nI a + (7 : Int32) = nI (a + 7) := e_add a 7
theorem sbn_7 {a : Nat} (h : 7 ≤ a) : nI a - (7 : Int32) = nI (a - 7) := e_sub h
theorem mln_7 (a : Nat) : (7 : Int32) * nI a = nI (7 * a) := e_mul 7 a
theorem ltn_8 {a : Nat} (h : a < 2147483648) : nI a < (8 : Int32) ↔ a < 8 := e_lt h (by decide)
theorem gtn_8 {a : Nat} (h : a < 2147483648) : (8 : Int32) < nI a ↔ 8 < a := e_lt (by decide) h
theorem len_8 {a : Nat} (h : a < 2147483648) : nI a ≤ (8 : Int32) ↔ a ≤ 8 := e_le h (by decide)
theorem gen_8 {a : Nat} (h : a < 2147483648) : (8 : Int32) ≤ nI a ↔ 8 ≤ a := e_le (by decide) h
theorem eqn_8 {a : Nat} (h : a < 2147483648) : nI a = (8 : Int32) ↔ a = 8 := e_eq h (by decide)
theorem adn_8 (a : Nat) : nI a + (8 : Int32) = nI (a + 8) := e_add a 8
theorem sbn_8 {a : Nat} (h : 8 ≤ a) : nI a - (8 : Int32) = nI (a - 8) := e_sub h
theorem mln_8 (a : Nat) : (8 : Int32) * nI a = nI (8 * a) := e_mul 8 a
theorem ltn_9 {a : Nat} (h : a < 2147483648) : nI a < (9 : Int32) ↔ a < 9 := e_lt h (by decide)
theorem gtn_9 {a : Nat} (h : a < 2147483648) : (9 : Int32) < nI a ↔ 9 < a := e_lt (by decide) h
theorem len_9 {a : Nat} (h : a < 2147483648) : nI a ≤ (9 : Int32) ↔ a ≤ 9 := e_le h (by decide)
theorem gen_9 {a : Nat} (h : a < 2147483648) : (9 : Int32) ≤ nI a ↔ 9 ≤ a := e_le (by decide) h
theorem eqn_9 {a : Nat} (h : a < 2147483648) : nI a = (9 : Int32) ↔ a = 9 := e_eq h (by decide)
theorem adn_9 (a : Nat) : nI a + (9 : Int32) = nI (a + 9) := e_add a 9
theorem sbn_9 {a : Nat} (h : 9 ≤ a) : nI a - (9 : Int32) = nI (a - 9) := e_sub h
theorem mln_9 (a : Nat) : (9 : Int32) * nI a = nI (9 * a) := e_mul 9 a
theorem ltn_10 {a : Nat} (h : a < 2147483648) : nI a < (10 : Int32) ↔ a < 10 := e_lt h (by decide)
theorem gtn_10 {a : Nat} (h : a < 2147483648) : (10 : Int32) < nI a ↔ 10 < a := e_lt (by decide) h
theorem len_10 {a : Nat} (h : a < 2147483648) : nI a ≤ (10 : Int32) ↔ a ≤ 10 := e_le h (by decide)
theorem gen_10 {a : Nat} (h : a < 2147483648) : (10 : Int32) ≤ nI a ↔ 10 ≤ a := e_le (by decide) h
theorem eqn_10 {a : Nat} (h : a < 2147483648) : nI a = (10 : Int32) ↔ a = 10 := e_eq h (by decide)
theorem adn_10 (a : Nat) : nI a + (10 : Int32) = nI (a + 10) := e_add a 10
theorem sbn_10 {a : Nat} (h : 10 ≤ a) : nI a - (10 : Int32) = nI (a - 10) := e_sub h
theorem mln_10 (a : Nat) : (10 : Int32) * nI a = nI (10 * a) := e_mul 10 a
theorem ltn_20 {a : Nat} (h : a < 2147483648) : nI a < (20 : Int32) ↔ a < 20 := e_lt h (by decide)
theorem gtn_20 {a : Nat} (h : a < 2147483648) : (20 : Int32) < nI a ↔ 20 < a := e_lt (by decide) h
theorem len_20 {a : Nat} (h : a < 2147483648) : nI a ≤ (20 : Int32) ↔ a ≤ 20 := e_le h (by decide)
theorem gen_20 {a : Nat} (h : a < 2147483648) : (20 : Int32) ≤ nI a ↔ 20 ≤ a := e_le (by decide) h
theorem eqn_20 {a : Nat} (h : a < 2147483648) : nI a = (20 : Int32) ↔ a = 20 := e_eq h (by decide)
theorem adn_20 (a : Nat) : nI a + (20 : Int32) = nI (a + 20) := e_add a 20
theorem sbn_20 {a : Nat} (h : 20 ≤ a) : nI a - (20 : Int32) = nI (a - 20) := e_sub h
theorem mln_20 (a : Nat) : (20 : Int32) * nI a = nI (20 * a) := e_mul 20 a
theorem ltn_30 {a : Nat} (h : a < 2147483648) : nI a < (30 : Int32) ↔ a < 30 := e_lt h (by decide)
theorem gtn_30 {a : Nat} (h : a < 2147483648) : (30 : Int32) < nI a ↔ 30 < a := e_lt (by decide) h
theorem len_30 {a : Nat} (h : a < 2147483648) : nI a ≤ (30 : Int32) ↔ a ≤ 30 := e_le h (by decide)
theorem gen_30 {a : Nat} (h : a < 2147483648) : (30 : Int32) ≤ nI a ↔ 30 ≤ a := e_le (by decide) h
theorem eqn_30 {a : Nat} (h : a < 2147483648) : nI a = (30 : Int32) ↔ a = 30 := e_eq h (by decide)
theorem adn_30 (a : Nat) : nI a + (30 : Int32) = nI (a + 30) := e_add a 30
theorem sbn_30 {a : Nat} (h : 30 ≤ a) : nI a - (30 : Int32) = nI (a - 30) := e_sub h
theorem mln_30 (a : Nat) : (30 : Int32) * nI a = nI (30 * a) := e_mul 30 a
theorem ltn_31 {a : Nat} (h : a < 2147483648) : nI a < (31 : Int32) ↔ a < 31 := e_lt h (by decide)
theorem gtn_31 {a : Nat} (h : a < 2147483648) : (31 : Int32) < nI a ↔ 31 < a := e_lt (by decide) h
theorem len_31 {a : Nat} (h : a < 2147483648) : nI a ≤ (31 : Int32) ↔ a ≤ 31 := e_le h (by decide)
theorem gen_31 {a : Nat} (h : a < 2147483648) : (31 : Int32) ≤ nI a ↔ 31 ≤ a := e_le (by decide) h
theorem eqn_31 {a : Nat} (h : a < 2147483648) : nI a = (31 : Int32) ↔ a = 31 := e_eq h (by decide)
theorem adn_31 (a : Nat) : nI a + (31 : Int32) = nI (a + 31) := e_add a 31
theorem sbn_31 {a : Nat} (h : 31 ≤ a) : nI a - (31 : Int32) = nI (a - 31) := e_sub h
theorem mln_31 (a : Nat) : (31 : Int32) * nI a = nI (31 * a) := e_mul 31 a
theorem ltn_36 {a : Nat} (h : a < 2147483648) : nI a < (36 : Int32) ↔ a < 36 := e_lt h (by decide)
theorem gtn_36 {a : Nat} (h : a < 2147483648) : (36 : Int32) < nI a ↔ 36 < a := e_lt (by decide) h
theorem len_36 {a : Nat} (h : a < 2147483648) : nI a ≤ (36 : Int32) ↔ a ≤ 36 := e_le h (by decide)
theorem gen_36 {a : Nat} (h : a < 2147483648) : (36 : Int32) ≤ nI a ↔ 36 ≤ a := e_le (by decide) h
theorem eqn_36 {a : Nat} (h : a < 2147483648) : nI a = (36 : Int32) ↔ a = 36 := e_eq h (by decide)
theorem adn_36 (a : Nat) : nI a + (36 : Int32) = nI (a + 36) := e_add a 36
theorem sbn_36 {a : Nat} (h : 36 ≤ a) : nI a - (36 : Int32) = nI (a - 36) := e_sub h
theorem mln_36 (a : Nat) : (36 : Int32) * nI a = nI (36 * a) := e_mul 36 a
theorem ltn_59 {a : Nat} (h : a < 2147483648) : nI a < (59 : Int32) ↔ a < 59 := e_lt h (by decide)
theorem gtn_59 {a : Nat} (h : a < 2147483648) : (59 : Int32) < nI a ↔ 59 < a := e_lt (by decide) h
theorem len_59 {a : Nat} (h : a < 2147483648) : nI a ≤ (59 : Int32) ↔ a ≤ 59 := e_le h (by decide)
theorem gen_59 {a : Nat} (h : a < 2147483648) : (59 : Int32) ≤ nI a ↔ 59 ≤ a := e_le (by decide) h
theorem eqn_59 {a : Nat} (h : a < 2147483648) : nI a = (59 : Int32) ↔ a = 59 := e_eq h (by decide)
theorem adn_59 (a : Nat) : nI a + (59 : Int32) = nI (a + 59) := e_add a 59
theorem sbn_59 {a : Nat} (h : 59 ≤ a) : nI a - (59 : Int32) = nI (a - 59) := e_sub h
theorem mln_59 (a : Nat) : (59 : Int32) * nI a = nI (59 * a) := e_mul 59 a
theorem ltn_60 {a : Nat} (h : a < 2147483648) : nI a < (60 : Int32) ↔ a < 60 := e_lt h (by decide)
theorem gtn_60 {a : Nat} (h : a < 2147483648) : (60 : Int32) < nI a ↔ 60 < a := e_lt (by decide) h
theorem len_60 {a : Nat} (h : a < 2147483648) : nI a ≤ (60 : Int32) ↔ a ≤ 60 := e_le h (by decide)
theorem gen_60 {a : Nat} (h : a < 2147483648) : (60 : Int32) ≤ nI a ↔ 60 ≤ a := e_le (by decide) h
theorem eqn_60 {a : Nat} (h : a < 2147483648) : nI a = (60 : Int32) ↔ a = 60 := e_eq h (by decide)
theorem adn_60 (a : Nat) : nI a + (60 : Int32) = nI (a + 60) := e_add a 60
theorem sbn_60 {a : Nat} (h : 60 ≤ a) : nI a - (60 : Int32) = nI (a - 60) := e_sub h
theorem mln_60 (a : Nat) : (60 : Int32) * nI a = nI (60 * a) := e_mul 60 a
theorem ltn_80 {a : Nat} (h : a < 2147483648) : nI a < (80 : Int32) ↔ a < 80 := e_lt h (by decide)
theorem gtn_80 {a : Nat} (h : a < 2147483648) : (80 : Int32) < nI a ↔ 80 < a := e_lt (by decide) h
theorem len_80 {a : Nat} (h : a < 2147483648) : nI a ≤ (80 : Int32) ↔ a ≤ 80 := e_le h (by decide)
theorem gen_80 {a : Nat} (h : a < 2147483648) : (80 : Int32) ≤ nI a ↔ 80 ≤ a := e_le (by decide) h
theorem eqn_80 {a : Nat} (h : a < 2147483648) : nI a = (80 : Int32) ↔ a = 80 := e_eq h (by decide)
theorem ltn_99 {a : Nat} (h : a < 2147483648) : nI a < (99 : Int32) ↔ a < 99 := e_lt h (by decide)
theorem gtn_99 {a : Nat} (h : a < 2147483648) : (99 : Int32) < nI a ↔ 99 < a := e_lt (by decide) h
theorem len_99 {a : Nat} (h : a < 2147483648) : nI a ≤ (99 : Int32) ↔ a ≤ 99 := e_le h (by decide)
theorem gen_99 {a : Nat} (h : a < 2147483648) : (99 : Int32) ≤ nI a ↔ 99 ≤ a := e_le (by decide) h
theorem eqn_99 {a : Nat} (h : a < 2147483648) : nI a = (99 : Int32) ↔ a = 99 := e_eq h (by decide)
theorem ltn_100 {a : Nat} (h : a < 2147483648) : nI a < (100 : Int32) ↔ a < 100 := e_lt h (by decide)
theorem gtn_100 {a : Nat} (h : a < 2147483648) : (100 : Int32) < nI a ↔ 100 < a := e_lt (by decide) h
theorem len_100 {a : Nat} (h : a < 2147483648) : nI a ≤ (100 : Int32) ↔ a ≤ 100 := e_le h (by decide)
theorem gen_100 {a : Nat} (h : a < 2147483648) : (100 : Int32) ≤ nI a ↔ 100 ≤ a := e_le (by decide) h
theorem eqn_100 {a : Nat} (h : a < 2147483648) : nI a = (100 : Int32) ↔ a = 100 := e_eq h (by decide)
theorem ltn_1000000000 {a : Nat} (h : a < 2147483648) : nI a < (1000000000 : Int32) ↔ a < 1000000000 := e_lt h (by decide)
theorem gtn_1000000000 {a : Nat} (h : a < 2147483648) : (1000000000 : Int32) < nI a ↔ 1000000000 < a := e_lt (by decide) h
theorem len_1000000000 {a : Nat} (h : a < 2147483648) : nI a ≤ (1000000000 : Int32) ↔ a ≤ 1000000000 := e_le h (by decide)
theorem gen_1000000000 {a : Nat} (h : a < 2147483648) : (1000000000 : Int32) ≤ nI a ↔ 1000000000 ≤ a := e_le (by decide) h
theorem eqn_1000000000 {a : Nat} (h : a < 2147483648) : nI a = (1000000000 : Int32) ↔ a = 1000000000 := e_eq h (by decide)
theorem ltn_100000000 {a : Nat} (h : a < 2147483648) : nI a < (100000000 : Int32) ↔ a < 100000000 := e_lt h (by decide)
theorem gtn_100000000 {a : Nat} (h : a < 2147483648) : (100000000 : Int32) < nI a ↔ 100000000 < a := e_lt (by decide) h
theorem len_100000000 {a : Nat} (h : a < 2147483648) : nI a ≤ (100000000 : Int32) ↔ a ≤ 100000000 := e_le h (by decide)
theorem gen_100000000 {a : Nat} (h : a < 2147483648) : (100000000 : Int32) ≤ nI a ↔ 100000000 ≤ a := e_le (by decide) h
theorem eqn_100000000 {a : Nat} (h : a < 2147483648) : nI a = (100000000 : Int32) ↔ a = 100000000 := e_eq h (by decide)
theorem cal_s {α β : Type} (a : α) (S : Mem) (k : α → Mem → Option β) : cal (some (a, S)) k = k a S := rfl
theorem nm_s {α β : Type} (a : α) (k : α → β) : nm a k = k a := rfl
theorem e_neg1 {x : Int32} (h : x.toInt ≠ -2147483648) : (-x).toInt = -x.toInt := by
  have h1 := Int32.le_toInt x
  have h2 := Int32.toInt_lt x
  rw [Int32.toInt_neg, Int.bmod_eq_of_le] <;> omega
