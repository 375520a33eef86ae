theorem hS_0 {c_fields : Int32} {c_ties : Int32} {c_worth : (Nat → Int32)} {c_forces : (Nat → Int32)} {c_many : (Nat → Int32)} {c_codes : (Nat → Nat → Int32)} {c_b_list : (Nat → Nat → Int32)} {c_b_many : (Nat → Int32)} {c_p_list : (Nat → Nat → Int32)} {c_p_weights : (Nat → Nat → Int32)} {c_p_drawn : (Nat → Nat → Int32)} {c_p_many : (Nat → Int32)} {c_p_all : (Nat → Int32)} {c_p_turns : (Nat → Int32)} : (hS c_fields c_ties c_worth c_forces c_many c_codes c_b_list c_b_many c_p_list c_p_weights c_p_drawn c_p_many c_p_all c_p_turns)[0]? = some (.inr (4, [.int c_fields, .int c_ties, .ref 1, .ref 2, .ref 3, .ref 4, .ref 7, .ref 12])) := rfl
theorem hS_1 {c_fields : Int32} {c_ties : Int32} {c_worth : (Nat → Int32)} {c_forces : (Nat → Int32)} {c_many : (Nat → Int32)} {c_codes : (Nat → Nat → Int32)} {c_b_list : (Nat → Nat → Int32)} {c_b_many : (Nat → Int32)} {c_p_list : (Nat → Nat → Int32)} {c_p_weights : (Nat → Nat → Int32)} {c_p_drawn : (Nat → Nat → Int32)} {c_p_many : (Nat → Int32)} {c_p_all : (Nat → Int32)} {c_p_turns : (Nat → Int32)} : (hS c_fields c_ties c_worth c_forces c_many c_codes c_b_list c_b_many c_p_list c_p_weights c_p_drawn c_p_many c_p_all c_p_turns)[1]? = some (.inl (0, 4, .inl c_worth)) := rfl
theorem hS_2 {c_fields : Int32} {c_ties : Int32} {c_worth : (Nat → Int32)} {c_forces : (Nat → Int32)} {c_many : (Nat → Int32)} {c_codes : (Nat → Nat → Int32)} {c_b_list : (Nat → Nat → Int32)} {c_b_many : (Nat → Int32)} {c_p_list : (Nat → Nat → Int32)} {c_p_weights : (Nat → Nat → Int32)} {c_p_drawn : (Nat → Nat → Int32)} {c_p_many : (Nat → Int32)} {c_p_all : (Nat → Int32)} {c_p_turns : (Nat → Int32)} : (hS c_fields c_ties c_worth c_forces c_many c_codes c_b_list c_b_many c_p_list c_p_weights c_p_drawn c_p_many c_p_all c_p_turns)[2]? = some (.inl (0, 2, .inl c_forces)) := rfl
theorem hS_3 {c_fields : Int32} {c_ties : Int32} {c_worth : (Nat → Int32)} {c_forces : (Nat → Int32)} {c_many : (Nat → Int32)} {c_codes : (Nat → Nat → Int32)} {c_b_list : (Nat → Nat → Int32)} {c_b_many : (Nat → Int32)} {c_p_list : (Nat → Nat → Int32)} {c_p_weights : (Nat → Nat → Int32)} {c_p_drawn : (Nat → Nat → Int32)} {c_p_many : (Nat → Int32)} {c_p_all : (Nat → Int32)} {c_p_turns : (Nat → Int32)} : (hS c_fields c_ties c_worth c_forces c_many c_codes c_b_list c_b_many c_p_list c_p_weights c_p_drawn c_p_many c_p_all c_p_turns)[3]? = some (.inl (0, 2, .inl c_many)) := rfl
theorem hS_4 {c_fields : Int32} {c_ties : Int32} {c_worth : (Nat → Int32)} {c_forces : (Nat → Int32)} {c_many : (Nat → Int32)} {c_codes : (Nat → Nat → Int32)} {c_b_list : (Nat → Nat → Int32)} {c_b_many : (Nat → Int32)} {c_p_list : (Nat → Nat → Int32)} {c_p_weights : (Nat → Nat → Int32)} {c_p_drawn : (Nat → Nat → Int32)} {c_p_many : (Nat → Int32)} {c_p_all : (Nat → Int32)} {c_p_turns : (Nat → Int32)} : (hS c_fields c_ties c_worth c_forces c_many c_codes c_b_list c_b_many c_p_list c_p_weights c_p_drawn c_p_many c_p_all c_p_turns)[4]? = some (.inl (7, 2, .inr (.inr [5, 6]))) := rfl
theorem hS_5 {c_fields : Int32} {c_ties : Int32} {c_worth : (Nat → Int32)} {c_forces : (Nat → Int32)} {c_many : (Nat → Int32)} {c_codes : (Nat → Nat → Int32)} {c_b_list : (Nat → Nat → Int32)} {c_b_many : (Nat → Int32)} {c_p_list : (Nat → Nat → Int32)} {c_p_weights : (Nat → Nat → Int32)} {c_p_drawn : (Nat → Nat → Int32)} {c_p_many : (Nat → Int32)} {c_p_all : (Nat → Int32)} {c_p_turns : (Nat → Int32)} : (hS c_fields c_ties c_worth c_forces c_many c_codes c_b_list c_b_many c_p_list c_p_weights c_p_drawn c_p_many c_p_all c_p_turns)[5]? = some (.inl (0, 120, .inl (c_codes 0))) := rfl
theorem hS_6 {c_fields : Int32} {c_ties : Int32} {c_worth : (Nat → Int32)} {c_forces : (Nat → Int32)} {c_many : (Nat → Int32)} {c_codes : (Nat → Nat → Int32)} {c_b_list : (Nat → Nat → Int32)} {c_b_many : (Nat → Int32)} {c_p_list : (Nat → Nat → Int32)} {c_p_weights : (Nat → Nat → Int32)} {c_p_drawn : (Nat → Nat → Int32)} {c_p_many : (Nat → Int32)} {c_p_all : (Nat → Int32)} {c_p_turns : (Nat → Int32)} : (hS c_fields c_ties c_worth c_forces c_many c_codes c_b_list c_b_many c_p_list c_p_weights c_p_drawn c_p_many c_p_all c_p_turns)[6]? = some (.inl (0, 120, .inl (c_codes 1))) := rfl
theorem hS_7 {c_fields : Int32} {c_ties : Int32} {c_worth : (Nat → Int32)} {c_forces : (Nat → Int32)} {c_many : (Nat → Int32)} {c_codes : (Nat → Nat → Int32)} {c_b_list : (Nat → Nat → Int32)} {c_b_many : (Nat → Int32)} {c_p_list : (Nat → Nat → Int32)} {c_p_weights : (Nat → Nat → Int32)} {c_p_drawn : (Nat → Nat → Int32)} {c_p_many : (Nat → Int32)} {c_p_all : (Nat → Int32)} {c_p_turns : (Nat → Int32)} : (hS c_fields c_ties c_worth c_forces c_many c_codes c_b_list c_b_many c_p_list c_p_weights c_p_drawn c_p_many c_p_all c_p_turns)[7]? = some (.inl (4, 2, .inr (.inr [8, 10]))) := rfl
theorem hS_8 {c_fields : Int32} {c_ties : Int32} {c_worth : (Nat → Int32)} {c_forces : (Nat → Int32)} {c_many : (Nat → Int32)} {c_codes : (Nat → Nat → Int32)} {c_b_list : (Nat → Nat → Int32)} {c_b_many : (Nat → Int32)} {c_p_list : (Nat → Nat → Int32)} {c_p_weights : (Nat → Nat → Int32)} {c_p_drawn : (Nat → Nat → Int32)} {c_p_many : (Nat → Int32)} {c_p_all : (Nat → Int32)} {c_p_turns : (Nat → Int32)} : (hS c_fields c_ties c_worth c_forces c_many c_codes c_b_list c_b_many c_p_list c_p_weights c_p_drawn c_p_many c_p_all c_p_turns)[8]? = some (.inr (0, [.ref 9, .int (c_b_many 0)])) := rfl
theorem hS_9 {c_fields : Int32} {c_ties : Int32} {c_worth : (Nat → Int32)} {c_forces : (Nat → Int32)} {c_many : (Nat → Int32)} {c_codes : (Nat → Nat → Int32)} {c_b_list : (Nat → Nat → Int32)} {c_b_many : (Nat → Int32)} {c_p_list : (Nat → Nat → Int32)} {c_p_weights : (Nat → Nat → Int32)} {c_p_drawn : (Nat → Nat → Int32)} {c_p_many : (Nat → Int32)} {c_p_all : (Nat → Int32)} {c_p_turns : (Nat → Int32)} : (hS c_fields c_ties c_worth c_forces c_many c_codes c_b_list c_b_many c_p_list c_p_weights c_p_drawn c_p_many c_p_all c_p_turns)[9]? = some (.inl (0, 6, .inl (c_b_list 0))) := rfl
theorem hS_10 {c_fields : Int32} {c_ties : Int32} {c_worth : (Nat → Int32)} {c_forces : (Nat → Int32)} {c_many : (Nat → Int32)} {c_codes : (Nat → Nat → Int32)} {c_b_list : (Nat → Nat → Int32)} {c_b_many : (Nat → Int32)} {c_p_list : (Nat → Nat → Int32)} {c_p_weights : (Nat → Nat → Int32)} {c_p_drawn : (Nat → Nat → Int32)} {c_p_many : (Nat → Int32)} {c_p_all : (Nat → Int32)} {c_p_turns : (Nat → Int32)} : (hS c_fields c_ties c_worth c_forces c_many c_codes c_b_list c_b_many c_p_list c_p_weights c_p_drawn c_p_many c_p_all c_p_turns)[10]? = some (.inr (0, [.ref 11, .int (c_b_many 1)])) := rfl
theorem hS_11 {c_fields : Int32} {c_ties : Int32} {c_worth : (Nat → Int32)} {c_forces : (Nat → Int32)} {c_many : (Nat → Int32)} {c_codes : (Nat → Nat → Int32)} {c_b_list : (Nat → Nat → Int32)} {c_b_many : (Nat → Int32)} {c_p_list : (Nat → Nat → Int32)} {c_p_weights : (Nat → Nat → Int32)} {c_p_drawn : (Nat → Nat → Int32)} {c_p_many : (Nat → Int32)} {c_p_all : (Nat → Int32)} {c_p_turns : (Nat → Int32)} : (hS c_fields c_ties c_worth c_forces c_many c_codes c_b_list c_b_many c_p_list c_p_weights c_p_drawn c_p_many c_p_all c_p_turns)[11]? = some (.inl (0, 6, .inl (c_b_list 1))) := rfl
theorem hS_12 {c_fields : Int32} {c_ties : Int32} {c_worth : (Nat → Int32)} {c_forces : (Nat → Int32)} {c_many : (Nat → Int32)} {c_codes : (Nat → Nat → Int32)} {c_b_list : (Nat → Nat → Int32)} {c_b_many : (Nat → Int32)} {c_p_list : (Nat → Nat → Int32)} {c_p_weights : (Nat → Nat → Int32)} {c_p_drawn : (Nat → Nat → Int32)} {c_p_many : (Nat → Int32)} {c_p_all : (Nat → Int32)} {c_p_turns : (Nat → Int32)} : (hS c_fields c_ties c_worth c_forces c_many c_codes c_b_list c_b_many c_p_list c_p_weights c_p_drawn c_p_many c_p_all c_p_turns)[12]? = some (.inl (5, 2, .inr (.inr [13, 17]))) := rfl
theorem hS_13 {c_fields : Int32} {c_ties : Int32} {c_worth : (Nat → Int32)} {c_forces : (Nat → Int32)} {c_many : (Nat → Int32)} {c_codes : (Nat → Nat → Int32)} {c_b_list : (Nat → Nat → Int32)} {c_b_many : (Nat → Int32)} {c_p_list : (Nat → Nat → Int32)} {c_p_weights : (Nat → Nat → Int32)} {c_p_drawn : (Nat → Nat → Int32)} {c_p_many : (Nat → Int32)} {c_p_all : (Nat → Int32)} {c_p_turns : (Nat → Int32)} : (hS c_fields c_ties c_worth c_forces c_many c_codes c_b_list c_b_many c_p_list c_p_weights c_p_drawn c_p_many c_p_all c_p_turns)[13]? = some (.inr (3, [.ref 14, .ref 15, .ref 16, .int (c_p_many 0), .int (c_p_all 0), .int (c_p_turns 0)])) := rfl
theorem hS_14 {c_fields : Int32} {c_ties : Int32} {c_worth : (Nat → Int32)} {c_forces : (Nat → Int32)} {c_many : (Nat → Int32)} {c_codes : (Nat → Nat → Int32)} {c_b_list : (Nat → Nat → Int32)} {c_b_many : (Nat → Int32)} {c_p_list : (Nat → Nat → Int32)} {c_p_weights : (Nat → Nat → Int32)} {c_p_drawn : (Nat → Nat → Int32)} {c_p_many : (Nat → Int32)} {c_p_all : (Nat → Int32)} {c_p_turns : (Nat → Int32)} : (hS c_fields c_ties c_worth c_forces c_many c_codes c_b_list c_b_many c_p_list c_p_weights c_p_drawn c_p_many c_p_all c_p_turns)[14]? = some (.inl (0, 8, .inl (c_p_list 0))) := rfl
theorem hS_15 {c_fields : Int32} {c_ties : Int32} {c_worth : (Nat → Int32)} {c_forces : (Nat → Int32)} {c_many : (Nat → Int32)} {c_codes : (Nat → Nat → Int32)} {c_b_list : (Nat → Nat → Int32)} {c_b_many : (Nat → Int32)} {c_p_list : (Nat → Nat → Int32)} {c_p_weights : (Nat → Nat → Int32)} {c_p_drawn : (Nat → Nat → Int32)} {c_p_many : (Nat → Int32)} {c_p_all : (Nat → Int32)} {c_p_turns : (Nat → Int32)} : (hS c_fields c_ties c_worth c_forces c_many c_codes c_b_list c_b_many c_p_list c_p_weights c_p_drawn c_p_many c_p_all c_p_turns)[15]? = some (.inl (0, 8, .inl (c_p_weights 0))) := rfl
theorem hS_16 {c_fields : Int32} {c_ties : Int32} {c_worth : (Nat → Int32)} {c_forces : (Nat → Int32)} {c_many : (Nat → Int32)} {c_codes : (Nat → Nat → Int32)} {c_b_list : (Nat → Nat → Int32)} {c_b_many : (Nat → Int32)} {c_p_list : (Nat → Nat → Int32)} {c_p_weights : (Nat → Nat → Int32)} {c_p_drawn : (Nat → Nat → Int32)} {c_p_many : (Nat → Int32)} {c_p_all : (Nat → Int32)} {c_p_turns : (Nat → Int32)} : (hS c_fields c_ties c_worth c_forces c_many c_codes c_b_list c_b_many c_p_list c_p_weights c_p_drawn c_p_many c_p_all c_p_turns)[16]? = some (.inl (0, 8, .inl (c_p_drawn 0))) := rfl
theorem hS_17 {c_fields : Int32} {c_ties : Int32} {c_worth : (Nat → Int32)} {c_forces : (Nat → Int32)} {c_many : (Nat → Int32)} {c_codes : (Nat → Nat → Int32)} {c_b_list : (Nat → Nat → Int32)} {c_b_many : (Nat → Int32)} {c_p_list : (Nat → Nat → Int32)} {c_p_weights : (Nat → Nat → Int32)} {c_p_drawn : (Nat → Nat → Int32)} {c_p_many : (Nat → Int32)} {c_p_all : (Nat → Int32)} {c_p_turns : (Nat → Int32)} : (hS c_fields c_ties c_worth c_forces c_many c_codes c_b_list c_b_many c_p_list c_p_weights c_p_drawn c_p_many c_p_all c_p_turns)[17]? = some (.inr (3, [.ref 18, .ref 19, .ref 20, .int (c_p_many 1), .int (c_p_all 1), .int (c_p_turns 1)])) := rfl
theorem hS_18 {c_fields : Int32} {c_ties : Int32} {c_worth : (Nat → Int32)} {c_forces : (Nat → Int32)} {c_many : (Nat → Int32)} {c_codes : (Nat → Nat → Int32)} {c_b_list : (Nat → Nat → Int32)} {c_b_many : (Nat → Int32)} {c_p_list : (Nat → Nat → Int32)} {c_p_weights : (Nat → Nat → Int32)} {c_p_drawn : (Nat → Nat → Int32)} {c_p_many : (Nat → Int32)} {c_p_all : (Nat → Int32)} {c_p_turns : (Nat → Int32)} : (hS c_fields c_ties c_worth c_forces c_many c_codes c_b_list c_b_many c_p_list c_p_weights c_p_drawn c_p_many c_p_all c_p_turns)[18]? = some (.inl (0, 8, .inl (c_p_list 1))) := rfl
theorem hS_19 {c_fields : Int32} {c_ties : Int32} {c_worth : (Nat → Int32)} {c_forces : (Nat → Int32)} {c_many : (Nat → Int32)} {c_codes : (Nat → Nat → Int32)} {c_b_list : (Nat → Nat → Int32)} {c_b_many : (Nat → Int32)} {c_p_list : (Nat → Nat → Int32)} {c_p_weights : (Nat → Nat → Int32)} {c_p_drawn : (Nat → Nat → Int32)} {c_p_many : (Nat → Int32)} {c_p_all : (Nat → Int32)} {c_p_turns : (Nat → Int32)} : (hS c_fields c_ties c_worth c_forces c_many c_codes c_b_list c_b_many c_p_list c_p_weights c_p_drawn c_p_many c_p_all c_p_turns)[19]? = some (.inl (0, 8, .inl (c_p_weights 1))) := rfl
theorem hS_20 {c_fields : Int32} {c_ties : Int32} {c_worth : (Nat → Int32)} {c_forces : (Nat → Int32)} {c_many : (Nat → Int32)} {c_codes : (Nat → Nat → Int32)} {c_b_list : (Nat → Nat → Int32)} {c_b_many : (Nat → Int32)} {c_p_list : (Nat → Nat → Int32)} {c_p_weights : (Nat → Nat → Int32)} {c_p_drawn : (Nat → Nat → Int32)} {c_p_many : (Nat → Int32)} {c_p_all : (Nat → Int32)} {c_p_turns : (Nat → Int32)} : (hS c_fields c_ties c_worth c_forces c_many c_codes c_b_list c_b_many c_p_list c_p_weights c_p_drawn c_p_many c_p_all c_p_turns)[20]? = some (.inl (0, 8, .inl (c_p_drawn 1))) := rfl
theorem hSS_0 {c_fields : Int32} {c_ties : Int32} {c_worth : (Nat → Int32)} {c_forces : (Nat → Int32)} {c_many : (Nat → Int32)} {c_codes : (Nat → Nat → Int32)} {c_b_list : (Nat → Nat → Int32)} {c_b_many : (Nat → Int32)} {c_p_list : (Nat → Nat → Int32)} {c_p_weights : (Nat → Nat → Int32)} {c_p_drawn : (Nat → Nat → Int32)} {c_p_many : (Nat → Int32)} {c_p_all : (Nat → Int32)} {c_p_turns : (Nat → Int32)} {c_o_fields : Int32} {c_o_ties : Int32} {c_o_worth : (Nat → Int32)} {c_o_forces : (Nat → Int32)} {c_o_many : (Nat → Int32)} {c_o_codes : (Nat → Nat → Int32)} {c_o_b_list : (Nat → Nat → Int32)} {c_o_b_many : (Nat → Int32)} {c_o_p_list : (Nat → Nat → Int32)} {c_o_p_weights : (Nat → Nat → Int32)} {c_o_p_drawn : (Nat → Nat → Int32)} {c_o_p_many : (Nat → Int32)} {c_o_p_all : (Nat → Int32)} {c_o_p_turns : (Nat → Int32)} : (hSS c_fields c_ties c_worth c_forces c_many c_codes c_b_list c_b_many c_p_list c_p_weights c_p_drawn c_p_many c_p_all c_p_turns c_o_fields c_o_ties c_o_worth c_o_forces c_o_many c_o_codes c_o_b_list c_o_b_many c_o_p_list c_o_p_weights c_o_p_drawn c_o_p_many c_o_p_all c_o_p_turns)[0]? = some (.inr (4, [.int c_fields, .int c_ties, .ref 1, .ref 2, .ref 3, .ref 4, .ref 7, .ref 12])) := rfl
theorem hSS_1 {c_fields : Int32} {c_ties : Int32} {c_worth : (Nat → Int32)} {c_forces : (Nat → Int32)} {c_many : (Nat → Int32)} {c_codes : (Nat → Nat → Int32)} {c_b_list : (Nat → Nat → Int32)} {c_b_many : (Nat → Int32)} {c_p_list : (Nat → Nat → Int32)} {c_p_weights : (Nat → Nat → Int32)} {c_p_drawn : (Nat → Nat → Int32)} {c_p_many : (Nat → Int32)} {c_p_all : (Nat → Int32)} {c_p_turns : (Nat → Int32)} {c_o_fields : Int32} {c_o_ties : Int32} {c_o_worth : (Nat → Int32)} {c_o_forces : (Nat → Int32)} {c_o_many : (Nat → Int32)} {c_o_codes : (Nat → Nat → Int32)} {c_o_b_list : (Nat → Nat → Int32)} {c_o_b_many : (Nat → Int32)} {c_o_p_list : (Nat → Nat → Int32)} {c_o_p_weights : (Nat → Nat → Int32)} {c_o_p_drawn : (Nat → Nat → Int32)} {c_o_p_many : (Nat → Int32)} {c_o_p_all : (Nat → Int32)} {c_o_p_turns : (Nat → Int32)} : (hSS c_fields c_ties c_worth c_forces c_many c_codes c_b_list c_b_many c_p_list c_p_weights c_p_drawn c_p_many c_p_all c_p_turns c_o_fields c_o_ties c_o_worth c_o_forces c_o_many c_o_codes c_o_b_list c_o_b_many c_o_p_list c_o_p_weights c_o_p_drawn c_o_p_many c_o_p_all c_o_p_turns)[1]? = some (.inl (0, 4, .inl c_worth)) := rfl
theorem hSS_2 {c_fields : Int32} {c_ties : Int32} {c_worth : (Nat → Int32)} {c_forces : (Nat → Int32)} {c_many : (Nat → Int32)} {c_codes : (Nat → Nat → Int32)} {c_b_list : (Nat → Nat → Int32)} {c_b_many : (Nat → Int32)} {c_p_list : (Nat → Nat → Int32)} {c_p_weights : (Nat → Nat → Int32)} {c_p_drawn : (Nat → Nat → Int32)} {c_p_many : (Nat → Int32)} {c_p_all : (Nat → Int32)} {c_p_turns : (Nat → Int32)} {c_o_fields : Int32} {c_o_ties : Int32} {c_o_worth : (Nat → Int32)} {c_o_forces : (Nat → Int32)} {c_o_many : (Nat → Int32)} {c_o_codes : (Nat → Nat → Int32)} {c_o_b_list : (Nat → Nat → Int32)} {c_o_b_many : (Nat → Int32)} {c_o_p_list : (Nat → Nat → Int32)} {c_o_p_weights : (Nat → Nat → Int32)} {c_o_p_drawn : (Nat → Nat → Int32)} {c_o_p_many : (Nat → Int32)} {c_o_p_all : (Nat → Int32)} {c_o_p_turns : (Nat → Int32)} : (hSS c_fields c_ties c_worth c_forces c_many c_codes c_b_list c_b_many c_p_list c_p_weights c_p_drawn c_p_many c_p_all c_p_turns c_o_fields c_o_ties c_o_worth c_o_forces c_o_many c_o_codes c_o_b_list c_o_b_many c_o_p_list c_o_p_weights c_o_p_drawn c_o_p_many c_o_p_all c_o_p_turns)[2]? = some (.inl (0, 2, .inl c_forces)) := rfl
theorem hSS_3 {c_fields : Int32} {c_ties : Int32} {c_worth : (Nat → Int32)} {c_forces : (Nat → Int32)} {c_many : (Nat → Int32)} {c_codes : (Nat → Nat → Int32)} {c_b_list : (Nat → Nat → Int32)} {c_b_many : (Nat → Int32)} {c_p_list : (Nat → Nat → Int32)} {c_p_weights : (Nat → Nat → Int32)} {c_p_drawn : (Nat → Nat → Int32)} {c_p_many : (Nat → Int32)} {c_p_all : (Nat → Int32)} {c_p_turns : (Nat → Int32)} {c_o_fields : Int32} {c_o_ties : Int32} {c_o_worth : (Nat → Int32)} {c_o_forces : (Nat → Int32)} {c_o_many : (Nat → Int32)} {c_o_codes : (Nat → Nat → Int32)} {c_o_b_list : (Nat → Nat → Int32)} {c_o_b_many : (Nat → Int32)} {c_o_p_list : (Nat → Nat → Int32)} {c_o_p_weights : (Nat → Nat → Int32)} {c_o_p_drawn : (Nat → Nat → Int32)} {c_o_p_many : (Nat → Int32)} {c_o_p_all : (Nat → Int32)} {c_o_p_turns : (Nat → Int32)} : (hSS c_fields c_ties c_worth c_forces c_many c_codes c_b_list c_b_many c_p_list c_p_weights c_p_drawn c_p_many c_p_all c_p_turns c_o_fields c_o_ties c_o_worth c_o_forces c_o_many c_o_codes c_o_b_list c_o_b_many c_o_p_list c_o_p_weights c_o_p_drawn c_o_p_many c_o_p_all c_o_p_turns)[3]? = some (.inl (0, 2, .inl c_many)) := rfl
theorem hSS_4 {c_fields : Int32} {c_ties : Int32} {c_worth : (Nat → Int32)} {c_forces : (Nat → Int32)} {c_many : (Nat → Int32)} {c_codes : (Nat → Nat → Int32)} {c_b_list : (Nat → Nat → Int32)} {c_b_many : (Nat → Int32)} {c_p_list : (Nat → Nat → Int32)} {c_p_weights : (Nat → Nat → Int32)} {c_p_drawn : (Nat → Nat → Int32)} {c_p_many : (Nat → Int32)} {c_p_all : (Nat → Int32)} {c_p_turns : (Nat → Int32)} {c_o_fields : Int32} {c_o_ties : Int32} {c_o_worth : (Nat → Int32)} {c_o_forces : (Nat → Int32)} {c_o_many : (Nat → Int32)} {c_o_codes : (Nat → Nat → Int32)} {c_o_b_list : (Nat → Nat → Int32)} {c_o_b_many : (Nat → Int32)} {c_o_p_list : (Nat → Nat → Int32)} {c_o_p_weights : (Nat → Nat → Int32)} {c_o_p_drawn : (Nat → Nat → Int32)} {c_o_p_many : (Nat → Int32)} {c_o_p_all : (Nat → Int32)} {c_o_p_turns : (Nat → Int32)} : (hSS c_fields c_ties c_worth c_forces c_many c_codes c_b_list c_b_many c_p_list c_p_weights c_p_drawn c_p_many c_p_all c_p_turns c_o_fields c_o_ties c_o_worth c_o_forces c_o_many c_o_codes c_o_b_list c_o_b_many c_o_p_list c_o_p_weights c_o_p_drawn c_o_p_many c_o_p_all c_o_p_turns)[4]? = some (.inl (7, 2, .inr (.inr [5, 6]))) := rfl
theorem hSS_5 {c_fields : Int32} {c_ties : Int32} {c_worth : (Nat → Int32)} {c_forces : (Nat → Int32)} {c_many : (Nat → Int32)} {c_codes : (Nat → Nat → Int32)} {c_b_list : (Nat → Nat → Int32)} {c_b_many : (Nat → Int32)} {c_p_list : (Nat → Nat → Int32)} {c_p_weights : (Nat → Nat → Int32)} {c_p_drawn : (Nat → Nat → Int32)} {c_p_many : (Nat → Int32)} {c_p_all : (Nat → Int32)} {c_p_turns : (Nat → Int32)} {c_o_fields : Int32} {c_o_ties : Int32} {c_o_worth : (Nat → Int32)} {c_o_forces : (Nat → Int32)} {c_o_many : (Nat → Int32)} {c_o_codes : (Nat → Nat → Int32)} {c_o_b_list : (Nat → Nat → Int32)} {c_o_b_many : (Nat → Int32)} {c_o_p_list : (Nat → Nat → Int32)} {c_o_p_weights : (Nat → Nat → Int32)} {c_o_p_drawn : (Nat → Nat → Int32)} {c_o_p_many : (Nat → Int32)} {c_o_p_all : (Nat → Int32)} {c_o_p_turns : (Nat → Int32)} : (hSS c_fields c_ties c_worth c_forces c_many c_codes c_b_list c_b_many c_p_list c_p_weights c_p_drawn c_p_many c_p_all c_p_turns c_o_fields c_o_ties c_o_worth c_o_forces c_o_many c_o_codes c_o_b_list c_o_b_many c_o_p_list c_o_p_weights c_o_p_drawn c_o_p_many c_o_p_all c_o_p_turns)[5]? = some (.inl (0, 120, .inl (c_codes 0))) := rfl
theorem hSS_6 {c_fields : Int32} {c_ties : Int32} {c_worth : (Nat → Int32)} {c_forces : (Nat → Int32)} {c_many : (Nat → Int32)} {c_codes : (Nat → Nat → Int32)} {c_b_list : (Nat → Nat → Int32)} {c_b_many : (Nat → Int32)} {c_p_list : (Nat → Nat → Int32)} {c_p_weights : (Nat → Nat → Int32)} {c_p_drawn : (Nat → Nat → Int32)} {c_p_many : (Nat → Int32)} {c_p_all : (Nat → Int32)} {c_p_turns : (Nat → Int32)} {c_o_fields : Int32} {c_o_ties : Int32} {c_o_worth : (Nat → Int32)} {c_o_forces : (Nat → Int32)} {c_o_many : (Nat → Int32)} {c_o_codes : (Nat → Nat → Int32)} {c_o_b_list : (Nat → Nat → Int32)} {c_o_b_many : (Nat → Int32)} {c_o_p_list : (Nat → Nat → Int32)} {c_o_p_weights : (Nat → Nat → Int32)} {c_o_p_drawn : (Nat → Nat → Int32)} {c_o_p_many : (Nat → Int32)} {c_o_p_all : (Nat → Int32)} {c_o_p_turns : (Nat → Int32)} : (hSS c_fields c_ties c_worth c_forces c_many c_codes c_b_list c_b_many c_p_list c_p_weights c_p_drawn c_p_many c_p_all c_p_turns c_o_fields c_o_ties c_o_worth c_o_forces c_o_many c_o_codes c_o_b_list c_o_b_many c_o_p_list c_o_p_weights c_o_p_drawn c_o_p_many c_o_p_all c_o_p_turns)[6]? = some (.inl (0, 120, .inl (c_codes 1))) := rfl
theorem hSS_7 {c_fields : Int32} {c_ties : Int32} {c_worth : (Nat → Int32)} {c_forces : (Nat → Int32)} {c_many : (Nat → Int32)} {c_codes : (Nat → Nat → Int32)} {c_b_list : (Nat → Nat → Int32)} {c_b_many : (Nat → Int32)} {c_p_list : (Nat → Nat → Int32)} {c_p_weights : (Nat → Nat → Int32)} {c_p_drawn : (Nat → Nat → Int32)} {c_p_many : (Nat → Int32)} {c_p_all : (Nat → Int32)} {c_p_turns : (Nat → Int32)} {c_o_fields : Int32} {c_o_ties : Int32} {c_o_worth : (Nat → Int32)} {c_o_forces : (Nat → Int32)} {c_o_many : (Nat → Int32)} {c_o_codes : (Nat → Nat → Int32)} {c_o_b_list : (Nat → Nat → Int32)} {c_o_b_many : (Nat → Int32)} {c_o_p_list : (Nat → Nat → Int32)} {c_o_p_weights : (Nat → Nat → Int32)} {c_o_p_drawn : (Nat → Nat → Int32)} {c_o_p_many : (Nat → Int32)} {c_o_p_all : (Nat → Int32)} {c_o_p_turns : (Nat → Int32)} : (hSS c_fields c_ties c_worth c_forces c_many c_codes c_b_list c_b_many c_p_list c_p_weights c_p_drawn c_p_many c_p_all c_p_turns c_o_fields c_o_ties c_o_worth c_o_forces c_o_many c_o_codes c_o_b_list c_o_b_many c_o_p_list c_o_p_weights c_o_p_drawn c_o_p_many c_o_p_all c_o_p_turns)[7]? = some (.inl (4, 2, .inr (.inr [8, 10]))) := rfl
theorem hSS_8 {c_fields : Int32} {c_ties : Int32} {c_worth : (Nat → Int32)} {c_forces : (Nat → Int32)} {c_many : (Nat → Int32)} {c_codes : (Nat → Nat → Int32)} {c_b_list : (Nat → Nat → Int32)} {c_b_many : (Nat → Int32)} {c_p_list : (Nat → Nat → Int32)} {c_p_weights : (Nat → Nat → Int32)} {c_p_drawn : (Nat → Nat → Int32)} {c_p_many : (Nat → Int32)} {c_p_all : (Nat → Int32)} {c_p_turns : (Nat → Int32)} {c_o_fields : Int32} {c_o_ties : Int32} {c_o_worth : (Nat → Int32)} {c_o_forces : (Nat → Int32)} {c_o_many : (Nat → Int32)} {c_o_codes : (Nat → Nat → Int32)} {c_o_b_list : (Nat → Nat → Int32)} {c_o_b_many : (Nat → Int32)} {c_o_p_list : (Nat → Nat → Int32)} {c_o_p_weights : (Nat → Nat → Int32)} {c_o_p_drawn : (Nat → Nat → Int32)} {c_o_p_many : (Nat → Int32)} {c_o_p_all : (Nat → Int32)} {c_o_p_turns : (Nat → Int32)} : (hSS c_fields c_ties c_worth c_forces c_many c_codes c_b_list c_b_many c_p_list c_p_weights c_p_drawn c_p_many c_p_all c_p_turns c_o_fields c_o_ties c_o_worth c_o_forces c_o_many c_o_codes c_o_b_list c_o_b_many c_o_p_list c_o_p_weights c_o_p_drawn c_o_p_many c_o_p_all c_o_p_turns)[8]? = some (.inr (0, [.ref 9, .int (c_b_many 0)])) := rfl
theorem hSS_9 {c_fields : Int32} {c_ties : Int32} {c_worth : (Nat → Int32)} {c_forces : (Nat → Int32)} {c_many : (Nat → Int32)} {c_codes : (Nat → Nat → Int32)} {c_b_list : (Nat → Nat → Int32)} {c_b_many : (Nat → Int32)} {c_p_list : (Nat → Nat → Int32)} {c_p_weights : (Nat → Nat → Int32)} {c_p_drawn : (Nat → Nat → Int32)} {c_p_many : (Nat → Int32)} {c_p_all : (Nat → Int32)} {c_p_turns : (Nat → Int32)} {c_o_fields : Int32} {c_o_ties : Int32} {c_o_worth : (Nat → Int32)} {c_o_forces : (Nat → Int32)} {c_o_many : (Nat → Int32)} {c_o_codes : (Nat → Nat → Int32)} {c_o_b_list : (Nat → Nat → Int32)} {c_o_b_many : (Nat → Int32)} {c_o_p_list : (Nat → Nat → Int32)} {c_o_p_weights : (Nat → Nat → Int32)} {c_o_p_drawn : (Nat → Nat → Int32)} {c_o_p_many : (Nat → Int32)} {c_o_p_all : (Nat → Int32)} {c_o_p_turns : (Nat → Int32)} : (hSS c_fields c_ties c_worth c_forces c_many c_codes c_b_list c_b_many c_p_list c_p_weights c_p_drawn c_p_many c_p_all c_p_turns c_o_fields c_o_ties c_o_worth c_o_forces c_o_many c_o_codes c_o_b_list c_o_b_many c_o_p_list c_o_p_weights c_o_p_drawn c_o_p_many c_o_p_all c_o_p_turns)[9]? = some (.inl (0, 6, .inl (c_b_list 0))) := rfl
theorem hSS_10 {c_fields : Int32} {c_ties : Int32} {c_worth : (Nat → Int32)} {c_forces : (Nat → Int32)} {c_many : (Nat → Int32)} {c_codes : (Nat → Nat → Int32)} {c_b_list : (Nat → Nat → Int32)} {c_b_many : (Nat → Int32)} {c_p_list : (Nat → Nat → Int32)} {c_p_weights : (Nat → Nat → Int32)} {c_p_drawn : (Nat → Nat → Int32)} {c_p_many : (Nat → Int32)} {c_p_all : (Nat → Int32)} {c_p_turns : (Nat → Int32)} {c_o_fields : Int32} {c_o_ties : Int32} {c_o_worth : (Nat → Int32)} {c_o_forces : (Nat → Int32)} {c_o_many : (Nat → Int32)} {c_o_codes : (Nat → Nat → Int32)} {c_o_b_list : (Nat → Nat → Int32)} {c_o_b_many : (Nat → Int32)} {c_o_p_list : (Nat → Nat → Int32)} {c_o_p_weights : (Nat → Nat → Int32)} {c_o_p_drawn : (Nat → Nat → Int32)} {c_o_p_many : (Nat → Int32)} {c_o_p_all : (Nat → Int32)} {c_o_p_turns : (Nat → Int32)} : (hSS c_fields c_ties c_worth c_forces c_many c_codes c_b_list c_b_many c_p_list c_p_weights c_p_drawn c_p_many c_p_all c_p_turns c_o_fields c_o_ties c_o_worth c_o_forces c_o_many c_o_codes c_o_b_list c_o_b_many c_o_p_list c_o_p_weights c_o_p_drawn c_o_p_many c_o_p_all c_o_p_turns)[10]? = some (.inr (0, [.ref 11, .int (c_b_many 1)])) := rfl
theorem hSS_11 {c_fields : Int32} {c_ties : Int32} {c_worth : (Nat → Int32)} {c_forces : (Nat → Int32)} {c_many : (Nat → Int32)} {c_codes : (Nat → Nat → Int32)} {c_b_list : (Nat → Nat → Int32)} {c_b_many : (Nat → Int32)} {c_p_list : (Nat → Nat → Int32)} {c_p_weights : (Nat → Nat → Int32)} {c_p_drawn : (Nat → Nat → Int32)} {c_p_many : (Nat → Int32)} {c_p_all : (Nat → Int32)} {c_p_turns : (Nat → Int32)} {c_o_fields : Int32} {c_o_ties : Int32} {c_o_worth : (Nat → Int32)} {c_o_forces : (Nat → Int32)} {c_o_many : (Nat → Int32)} {c_o_codes : (Nat → Nat → Int32)} {c_o_b_list : (Nat → Nat → Int32)} {c_o_b_many : (Nat → Int32)} {c_o_p_list : (Nat → Nat → Int32)} {c_o_p_weights : (Nat → Nat → Int32)} {c_o_p_drawn : (Nat → Nat → Int32)} {c_o_p_many : (Nat → Int32)} {c_o_p_all : (Nat → Int32)} {c_o_p_turns : (Nat → Int32)} : (hSS c_fields c_ties c_worth c_forces c_many c_codes c_b_list c_b_many c_p_list c_p_weights c_p_drawn c_p_many c_p_all c_p_turns c_o_fields c_o_ties c_o_worth c_o_forces c_o_many c_o_codes c_o_b_list c_o_b_many c_o_p_list c_o_p_weights c_o_p_drawn c_o_p_many c_o_p_all c_o_p_turns)[11]? = some (.inl (0, 6, .inl (c_b_list 1))) := rfl
theorem hSS_12 {c_fields : Int32} {c_ties : Int32} {c_worth : (Nat → Int32)} {c_forces : (Nat → Int32)} {c_many : (Nat → Int32)} {c_codes : (Nat → Nat → Int32)} {c_b_list : (Nat → Nat → Int32)} {c_b_many : (Nat → Int32)} {c_p_list : (Nat → Nat → Int32)} {c_p_weights : (Nat → Nat → Int32)} {c_p_drawn : (Nat → Nat → Int32)} {c_p_many : (Nat → Int32)} {c_p_all : (Nat → Int32)} {c_p_turns : (Nat → Int32)} {c_o_fields : Int32} {c_o_ties : Int32} {c_o_worth : (Nat → Int32)} {c_o_forces : (Nat → Int32)} {c_o_many : (Nat → Int32)} {c_o_codes : (Nat → Nat → Int32)} {c_o_b_list : (Nat → Nat → Int32)} {c_o_b_many : (Nat → Int32)} {c_o_p_list : (Nat → Nat → Int32)} {c_o_p_weights : (Nat → Nat → Int32)} {c_o_p_drawn : (Nat → Nat → Int32)} {c_o_p_many : (Nat → Int32)} {c_o_p_all : (Nat → Int32)} {c_o_p_turns : (Nat → Int32)} : (hSS c_fields c_ties c_worth c_forces c_many c_codes c_b_list c_b_many c_p_list c_p_weights c_p_drawn c_p_many c_p_all c_p_turns c_o_fields c_o_ties c_o_worth c_o_forces c_o_many c_o_codes c_o_b_list c_o_b_many c_o_p_list c_o_p_weights c_o_p_drawn c_o_p_many c_o_p_all c_o_p_turns)[12]? = some (.inl (5, 2, .inr (.inr [13, 17]))) := rfl
theorem hSS_13 {c_fields : Int32} {c_ties : Int32} {c_worth : (Nat → Int32)} {c_forces : (Nat → Int32)} {c_many : (Nat → Int32)} {c_codes : (Nat → Nat → Int32)} {c_b_list : (Nat → Nat → Int32)} {c_b_many : (Nat → Int32)} {c_p_list : (Nat → Nat → Int32)} {c_p_weights : (Nat → Nat → Int32)} {c_p_drawn : (Nat → Nat → Int32)} {c_p_many : (Nat → Int32)} {c_p_all : (Nat → Int32)} {c_p_turns : (Nat → Int32)} {c_o_fields : Int32} {c_o_ties : Int32} {c_o_worth : (Nat → Int32)} {c_o_forces : (Nat → Int32)} {c_o_many : (Nat → Int32)} {c_o_codes : (Nat → Nat → Int32)} {c_o_b_list : (Nat → Nat → Int32)} {c_o_b_many : (Nat → Int32)} {c_o_p_list : (Nat → Nat → Int32)} {c_o_p_weights : (Nat → Nat → Int32)} {c_o_p_drawn : (Nat → Nat → Int32)} {c_o_p_many : (Nat → Int32)} {c_o_p_all : (Nat → Int32)} {c_o_p_turns : (Nat → Int32)} : (hSS c_fields c_ties c_worth c_forces c_many c_codes c_b_list c_b_many c_p_list c_p_weights c_p_drawn c_p_many c_p_all c_p_turns c_o_fields c_o_ties c_o_worth c_o_forces c_o_many c_o_codes c_o_b_list c_o_b_many c_o_p_list c_o_p_weights c_o_p_drawn c_o_p_many c_o_p_all c_o_p_turns)[13]? = some (.inr (3, [.ref 14, .ref 15, .ref 16, .int (c_p_many 0), .int (c_p_all 0), .int (c_p_turns 0)])) := rfl
theorem hSS_14 {c_fields : Int32} {c_ties : Int32} {c_worth : (Nat → Int32)} {c_forces : (Nat → Int32)} {c_many : (Nat → Int32)} {c_codes : (Nat → Nat → Int32)} {c_b_list : (Nat → Nat → Int32)} {c_b_many : (Nat → Int32)} {c_p_list : (Nat → Nat → Int32)} {c_p_weights : (Nat → Nat → Int32)} {c_p_drawn : (Nat → Nat → Int32)} {c_p_many : (Nat → Int32)} {c_p_all : (Nat → Int32)} {c_p_turns : (Nat → Int32)} {c_o_fields : Int32} {c_o_ties : Int32} {c_o_worth : (Nat → Int32)} {c_o_forces : (Nat → Int32)} {c_o_many : (Nat → Int32)} {c_o_codes : (Nat → Nat → Int32)} {c_o_b_list : (Nat → Nat → Int32)} {c_o_b_many : (Nat → Int32)} {c_o_p_list : (Nat → Nat → Int32)} {c_o_p_weights : (Nat → Nat → Int32)} {c_o_p_drawn : (Nat → Nat → Int32)} {c_o_p_many : (Nat → Int32)} {c_o_p_all : (Nat → Int32)} {c_o_p_turns : (Nat → Int32)} : (hSS c_fields c_ties c_worth c_forces c_many c_codes c_b_list c_b_many c_p_list c_p_weights c_p_drawn c_p_many c_p_all c_p_turns c_o_fields c_o_ties c_o_worth c_o_forces c_o_many c_o_codes c_o_b_list c_o_b_many c_o_p_list c_o_p_weights c_o_p_drawn c_o_p_many c_o_p_all c_o_p_turns)[14]? = some (.inl (0, 8, .inl (c_p_list 0))) := rfl
theorem hSS_15 {c_fields : Int32} {c_ties : Int32} {c_worth : (Nat → Int32)} {c_forces : (Nat → Int32)} {c_many : (Nat → Int32)} {c_codes : (Nat → Nat → Int32)} {c_b_list : (Nat → Nat → Int32)} {c_b_many : (Nat → Int32)} {c_p_list : (Nat → Nat → Int32)} {c_p_weights : (Nat → Nat → Int32)} {c_p_drawn : (Nat → Nat → Int32)} {c_p_many : (Nat → Int32)} {c_p_all : (Nat → Int32)} {c_p_turns : (Nat → Int32)} {c_o_fields : Int32} {c_o_ties : Int32} {c_o_worth : (Nat → Int32)} {c_o_forces : (Nat → Int32)} {c_o_many : (Nat → Int32)} {c_o_codes : (Nat → Nat → Int32)} {c_o_b_list : (Nat → Nat → Int32)} {c_o_b_many : (Nat → Int32)} {c_o_p_list : (Nat → Nat → Int32)} {c_o_p_weights : (Nat → Nat → Int32)} {c_o_p_drawn : (Nat → Nat → Int32)} {c_o_p_many : (Nat → Int32)} {c_o_p_all : (Nat → Int32)} {c_o_p_turns : (Nat → Int32)} : (hSS c_fields c_ties c_worth c_forces c_many c_codes c_b_list c_b_many c_p_list c_p_weights c_p_drawn c_p_many c_p_all c_p_turns c_o_fields c_o_ties c_o_worth c_o_forces c_o_many c_o_codes c_o_b_list c_o_b_many c_o_p_list c_o_p_weights c_o_p_drawn c_o_p_many c_o_p_all c_o_p_turns)[15]? = some (.inl (0, 8, .inl (c_p_weights 0))) := rfl
theorem hSS_16 {c_fields : Int32} {c_ties : Int32} {c_worth : (Nat → Int32)} {c_forces : (Nat → Int32)} {c_many : (Nat → Int32)} {c_codes : (Nat → Nat → Int32)} {c_b_list : (Nat → Nat → Int32)} {c_b_many : (Nat → Int32)} {c_p_list : (Nat → Nat → Int32)} {c_p_weights : (Nat → Nat → Int32)} {c_p_drawn : (Nat → Nat → Int32)} {c_p_many : (Nat → Int32)} {c_p_all : (Nat → Int32)} {c_p_turns : (Nat → Int32)} {c_o_fields : Int32} {c_o_ties : Int32} {c_o_worth : (Nat → Int32)} {c_o_forces : (Nat → Int32)} {c_o_many : (Nat → Int32)} {c_o_codes : (Nat → Nat → Int32)} {c_o_b_list : (Nat → Nat → Int32)} {c_o_b_many : (Nat → Int32)} {c_o_p_list : (Nat → Nat → Int32)} {c_o_p_weights : (Nat → Nat → Int32)} {c_o_p_drawn : (Nat → Nat → Int32)} {c_o_p_many : (Nat → Int32)} {c_o_p_all : (Nat → Int32)} {c_o_p_turns : (Nat → Int32)} : (hSS c_fields c_ties c_worth c_forces c_many c_codes c_b_list c_b_many c_p_list c_p_weights c_p_drawn c_p_many c_p_all c_p_turns c_o_fields c_o_ties c_o_worth c_o_forces c_o_many c_o_codes c_o_b_list c_o_b_many c_o_p_list c_o_p_weights c_o_p_drawn c_o_p_many c_o_p_all c_o_p_turns)[16]? = some (.inl (0, 8, .inl (c_p_drawn 0))) := rfl
theorem hSS_17 {c_fields : Int32} {c_ties : Int32} {c_worth : (Nat → Int32)} {c_forces : (Nat → Int32)} {c_many : (Nat → Int32)} {c_codes : (Nat → Nat → Int32)} {c_b_list : (Nat → Nat → Int32)} {c_b_many : (Nat → Int32)} {c_p_list : (Nat → Nat → Int32)} {c_p_weights : (Nat → Nat → Int32)} {c_p_drawn : (Nat → Nat → Int32)} {c_p_many : (Nat → Int32)} {c_p_all : (Nat → Int32)} {c_p_turns : (Nat → Int32)} {c_o_fields : Int32} {c_o_ties : Int32} {c_o_worth : (Nat → Int32)} {c_o_forces : (Nat → Int32)} {c_o_many : (Nat → Int32)} {c_o_codes : (Nat → Nat → Int32)} {c_o_b_list : (Nat → Nat → Int32)} {c_o_b_many : (Nat → Int32)} {c_o_p_list : (Nat → Nat → Int32)} {c_o_p_weights : (Nat → Nat → Int32)} {c_o_p_drawn : (Nat → Nat → Int32)} {c_o_p_many : (Nat → Int32)} {c_o_p_all : (Nat → Int32)} {c_o_p_turns : (Nat → Int32)} : (hSS c_fields c_ties c_worth c_forces c_many c_codes c_b_list c_b_many c_p_list c_p_weights c_p_drawn c_p_many c_p_all c_p_turns c_o_fields c_o_ties c_o_worth c_o_forces c_o_many c_o_codes c_o_b_list c_o_b_many c_o_p_list c_o_p_weights c_o_p_drawn c_o_p_many c_o_p_all c_o_p_turns)[17]? = some (.inr (3, [.ref 18, .ref 19, .ref 20, .int (c_p_many 1), .int (c_p_all 1), .int (c_p_turns 1)])) := rfl
theorem hSS_18 {c_fields : Int32} {c_ties : Int32} {c_worth : (Nat → Int32)} {c_forces : (Nat → Int32)} {c_many : (Nat → Int32)} {c_codes : (Nat → Nat → Int32)} {c_b_list : (Nat → Nat → Int32)} {c_b_many : (Nat → Int32)} {c_p_list : (Nat → Nat → Int32)} {c_p_weights : (Nat → Nat → Int32)} {c_p_drawn : (Nat → Nat → Int32)} {c_p_many : (Nat → Int32)} {c_p_all : (Nat → Int32)} {c_p_turns : (Nat → Int32)} {c_o_fields : Int32} {c_o_ties : Int32} {c_o_worth : (Nat → Int32)} {c_o_forces : (Nat → Int32)} {c_o_many : (Nat → Int32)} {c_o_codes : (Nat → Nat → Int32)} {c_o_b_list : (Nat → Nat → Int32)} {c_o_b_many : (Nat → Int32)} {c_o_p_list : (Nat → Nat → Int32)} {c_o_p_weights : (Nat → Nat → Int32)} {c_o_p_drawn : (Nat → Nat → Int32)} {c_o_p_many : (Nat → Int32)} {c_o_p_all : (Nat → Int32)} {c_o_p_turns : (Nat → Int32)} : (hSS c_fields c_ties c_worth c_forces c_many c_codes c_b_list c_b_many c_p_list c_p_weights c_p_drawn c_p_many c_p_all c_p_turns c_o_fields c_o_ties c_o_worth c_o_forces c_o_many c_o_codes c_o_b_list c_o_b_many c_o_p_list c_o_p_weights c_o_p_drawn c_o_p_many c_o_p_all c_o_p_turns)[18]? = some (.inl (0, 8, .inl (c_p_list 1))) := rfl
theorem hSS_19 {c_fields : Int32} {c_ties : Int32} {c_worth : (Nat → Int32)} {c_forces : (Nat → Int32)} {c_many : (Nat → Int32)} {c_codes : (Nat → Nat → Int32)} {c_b_list : (Nat → Nat → Int32)} {c_b_many : (Nat → Int32)} {c_p_list : (Nat → Nat → Int32)} {c_p_weights : (Nat → Nat → Int32)} {c_p_drawn : (Nat → Nat → Int32)} {c_p_many : (Nat → Int32)} {c_p_all : (Nat → Int32)} {c_p_turns : (Nat → Int32)} {c_o_fields : Int32} {c_o_ties : Int32} {c_o_worth : (Nat → Int32)} {c_o_forces : (Nat → Int32)} {c_o_many : (Nat → Int32)} {c_o_codes : (Nat → Nat → Int32)} {c_o_b_list : (Nat → Nat → Int32)} {c_o_b_many : (Nat → Int32)} {c_o_p_list : (Nat → Nat → Int32)} {c_o_p_weights : (Nat → Nat → Int32)} {c_o_p_drawn : (Nat → Nat → Int32)} {c_o_p_many : (Nat → Int32)} {c_o_p_all : (Nat → Int32)} {c_o_p_turns : (Nat → Int32)} : (hSS c_fields c_ties c_worth c_forces c_many c_codes c_b_list c_b_many c_p_list c_p_weights c_p_drawn c_p_many c_p_all c_p_turns c_o_fields c_o_ties c_o_worth c_o_forces c_o_many c_o_codes c_o_b_list c_o_b_many c_o_p_list c_o_p_weights c_o_p_drawn c_o_p_many c_o_p_all c_o_p_turns)[19]? = some (.inl (0, 8, .inl (c_p_weights 1))) := rfl
theorem hSS_20 {c_fields : Int32} {c_ties : Int32} {c_worth : (Nat → Int32)} {c_forces : (Nat → Int32)} {c_many : (Nat → Int32)} {c_codes : (Nat → Nat → Int32)} {c_b_list : (Nat → Nat → Int32)} {c_b_many : (Nat → Int32)} {c_p_list : (Nat → Nat → Int32)} {c_p_weights : (Nat → Nat → Int32)} {c_p_drawn : (Nat → Nat → Int32)} {c_p_many : (Nat → Int32)} {c_p_all : (Nat → Int32)} {c_p_turns : (Nat → Int32)} {c_o_fields : Int32} {c_o_ties : Int32} {c_o_worth : (Nat → Int32)} {c_o_forces : (Nat → Int32)} {c_o_many : (Nat → Int32)} {c_o_codes : (Nat → Nat → Int32)} {c_o_b_list : (Nat → Nat → Int32)} {c_o_b_many : (Nat → Int32)} {c_o_p_list : (Nat → Nat → Int32)} {c_o_p_weights : (Nat → Nat → Int32)} {c_o_p_drawn : (Nat → Nat → Int32)} {c_o_p_many : (Nat → Int32)} {c_o_p_all : (Nat → Int32)} {c_o_p_turns : (Nat → Int32)} : (hSS c_fields c_ties c_worth c_forces c_many c_codes c_b_list c_b_many c_p_list c_p_weights c_p_drawn c_p_many c_p_all c_p_turns c_o_fields c_o_ties c_o_worth c_o_forces c_o_many c_o_codes c_o_b_list c_o_b_many c_o_p_list c_o_p_weights c_o_p_drawn c_o_p_many c_o_p_all c_o_p_turns)[20]? = some (.inl (0, 8, .inl (c_p_drawn 1))) := rfl
theorem hSS_21 {c_fields : Int32} {c_ties : Int32} {c_worth : (Nat → Int32)} {c_forces : (Nat → Int32)} {c_many : (Nat → Int32)} {c_codes : (Nat → Nat → Int32)} {c_b_list : (Nat → Nat → Int32)} {c_b_many : (Nat → Int32)} {c_p_list : (Nat → Nat → Int32)} {c_p_weights : (Nat → Nat → Int32)} {c_p_drawn : (Nat → Nat → Int32)} {c_p_many : (Nat → Int32)} {c_p_all : (Nat → Int32)} {c_p_turns : (Nat → Int32)} {c_o_fields : Int32} {c_o_ties : Int32} {c_o_worth : (Nat → Int32)} {c_o_forces : (Nat → Int32)} {c_o_many : (Nat → Int32)} {c_o_codes : (Nat → Nat → Int32)} {c_o_b_list : (Nat → Nat → Int32)} {c_o_b_many : (Nat → Int32)} {c_o_p_list : (Nat → Nat → Int32)} {c_o_p_weights : (Nat → Nat → Int32)} {c_o_p_drawn : (Nat → Nat → Int32)} {c_o_p_many : (Nat → Int32)} {c_o_p_all : (Nat → Int32)} {c_o_p_turns : (Nat → Int32)} : (hSS c_fields c_ties c_worth c_forces c_many c_codes c_b_list c_b_many c_p_list c_p_weights c_p_drawn c_p_many c_p_all c_p_turns c_o_fields c_o_ties c_o_worth c_o_forces c_o_many c_o_codes c_o_b_list c_o_b_many c_o_p_list c_o_p_weights c_o_p_drawn c_o_p_many c_o_p_all c_o_p_turns)[21]? = some (.inr (4, [.int c_o_fields, .int c_o_ties, .ref 22, .ref 23, .ref 24, .ref 25, .ref 28, .ref 33])) := rfl
theorem hSS_22 {c_fields : Int32} {c_ties : Int32} {c_worth : (Nat → Int32)} {c_forces : (Nat → Int32)} {c_many : (Nat → Int32)} {c_codes : (Nat → Nat → Int32)} {c_b_list : (Nat → Nat → Int32)} {c_b_many : (Nat → Int32)} {c_p_list : (Nat → Nat → Int32)} {c_p_weights : (Nat → Nat → Int32)} {c_p_drawn : (Nat → Nat → Int32)} {c_p_many : (Nat → Int32)} {c_p_all : (Nat → Int32)} {c_p_turns : (Nat → Int32)} {c_o_fields : Int32} {c_o_ties : Int32} {c_o_worth : (Nat → Int32)} {c_o_forces : (Nat → Int32)} {c_o_many : (Nat → Int32)} {c_o_codes : (Nat → Nat → Int32)} {c_o_b_list : (Nat → Nat → Int32)} {c_o_b_many : (Nat → Int32)} {c_o_p_list : (Nat → Nat → Int32)} {c_o_p_weights : (Nat → Nat → Int32)} {c_o_p_drawn : (Nat → Nat → Int32)} {c_o_p_many : (Nat → Int32)} {c_o_p_all : (Nat → Int32)} {c_o_p_turns : (Nat → Int32)} : (hSS c_fields c_ties c_worth c_forces c_many c_codes c_b_list c_b_many c_p_list c_p_weights c_p_drawn c_p_many c_p_all c_p_turns c_o_fields c_o_ties c_o_worth c_o_forces c_o_many c_o_codes c_o_b_list c_o_b_many c_o_p_list c_o_p_weights c_o_p_drawn c_o_p_many c_o_p_all c_o_p_turns)[22]? = some (.inl (0, 4, .inl c_o_worth)) := rfl
theorem hSS_23 {c_fields : Int32} {c_ties : Int32} {c_worth : (Nat → Int32)} {c_forces : (Nat → Int32)} {c_many : (Nat → Int32)} {c_codes : (Nat → Nat → Int32)} {c_b_list : (Nat → Nat → Int32)} {c_b_many : (Nat → Int32)} {c_p_list : (Nat → Nat → Int32)} {c_p_weights : (Nat → Nat → Int32)} {c_p_drawn : (Nat → Nat → Int32)} {c_p_many : (Nat → Int32)} {c_p_all : (Nat → Int32)} {c_p_turns : (Nat → Int32)} {c_o_fields : Int32} {c_o_ties : Int32} {c_o_worth : (Nat → Int32)} {c_o_forces : (Nat → Int32)} {c_o_many : (Nat → Int32)} {c_o_codes : (Nat → Nat → Int32)} {c_o_b_list : (Nat → Nat → Int32)} {c_o_b_many : (Nat → Int32)} {c_o_p_list : (Nat → Nat → Int32)} {c_o_p_weights : (Nat → Nat → Int32)} {c_o_p_drawn : (Nat → Nat → Int32)} {c_o_p_many : (Nat → Int32)} {c_o_p_all : (Nat → Int32)} {c_o_p_turns : (Nat → Int32)} : (hSS c_fields c_ties c_worth c_forces c_many c_codes c_b_list c_b_many c_p_list c_p_weights c_p_drawn c_p_many c_p_all c_p_turns c_o_fields c_o_ties c_o_worth c_o_forces c_o_many c_o_codes c_o_b_list c_o_b_many c_o_p_list c_o_p_weights c_o_p_drawn c_o_p_many c_o_p_all c_o_p_turns)[23]? = some (.inl (0, 2, .inl c_o_forces)) := rfl
theorem hSS_24 {c_fields : Int32} {c_ties : Int32} {c_worth : (Nat → Int32)} {c_forces : (Nat → Int32)} {c_many : (Nat → Int32)} {c_codes : (Nat → Nat → Int32)} {c_b_list : (Nat → Nat → Int32)} {c_b_many : (Nat → Int32)} {c_p_list : (Nat → Nat → Int32)} {c_p_weights : (Nat → Nat → Int32)} {c_p_drawn : (Nat → Nat → Int32)} {c_p_many : (Nat → Int32)} {c_p_all : (Nat → Int32)} {c_p_turns : (Nat → Int32)} {c_o_fields : Int32} {c_o_ties : Int32} {c_o_worth : (Nat → Int32)} {c_o_forces : (Nat → Int32)} {c_o_many : (Nat → Int32)} {c_o_codes : (Nat → Nat → Int32)} {c_o_b_list : (Nat → Nat → Int32)} {c_o_b_many : (Nat → Int32)} {c_o_p_list : (Nat → Nat → Int32)} {c_o_p_weights : (Nat → Nat → Int32)} {c_o_p_drawn : (Nat → Nat → Int32)} {c_o_p_many : (Nat → Int32)} {c_o_p_all : (Nat → Int32)} {c_o_p_turns : (Nat → Int32)} : (hSS c_fields c_ties c_worth c_forces c_many c_codes c_b_list c_b_many c_p_list c_p_weights c_p_drawn c_p_many c_p_all c_p_turns c_o_fields c_o_ties c_o_worth c_o_forces c_o_many c_o_codes c_o_b_list c_o_b_many c_o_p_list c_o_p_weights c_o_p_drawn c_o_p_many c_o_p_all c_o_p_turns)[24]? = some (.inl (0, 2, .inl c_o_many)) := rfl
theorem hSS_25 {c_fields : Int32} {c_ties : Int32} {c_worth : (Nat → Int32)} {c_forces : (Nat → Int32)} {c_many : (Nat → Int32)} {c_codes : (Nat → Nat → Int32)} {c_b_list : (Nat → Nat → Int32)} {c_b_many : (Nat → Int32)} {c_p_list : (Nat → Nat → Int32)} {c_p_weights : (Nat → Nat → Int32)} {c_p_drawn : (Nat → Nat → Int32)} {c_p_many : (Nat → Int32)} {c_p_all : (Nat → Int32)} {c_p_turns : (Nat → Int32)} {c_o_fields : Int32} {c_o_ties : Int32} {c_o_worth : (Nat → Int32)} {c_o_forces : (Nat → Int32)} {c_o_many : (Nat → Int32)} {c_o_codes : (Nat → Nat → Int32)} {c_o_b_list : (Nat → Nat → Int32)} {c_o_b_many : (Nat → Int32)} {c_o_p_list : (Nat → Nat → Int32)} {c_o_p_weights : (Nat → Nat → Int32)} {c_o_p_drawn : (Nat → Nat → Int32)} {c_o_p_many : (Nat → Int32)} {c_o_p_all : (Nat → Int32)} {c_o_p_turns : (Nat → Int32)} : (hSS c_fields c_ties c_worth c_forces c_many c_codes c_b_list c_b_many c_p_list c_p_weights c_p_drawn c_p_many c_p_all c_p_turns c_o_fields c_o_ties c_o_worth c_o_forces c_o_many c_o_codes c_o_b_list c_o_b_many c_o_p_list c_o_p_weights c_o_p_drawn c_o_p_many c_o_p_all c_o_p_turns)[25]? = some (.inl (7, 2, .inr (.inr [26, 27]))) := rfl
theorem hSS_26 {c_fields : Int32} {c_ties : Int32} {c_worth : (Nat → Int32)} {c_forces : (Nat → Int32)} {c_many : (Nat → Int32)} {c_codes : (Nat → Nat → Int32)} {c_b_list : (Nat → Nat → Int32)} {c_b_many : (Nat → Int32)} {c_p_list : (Nat → Nat → Int32)} {c_p_weights : (Nat → Nat → Int32)} {c_p_drawn : (Nat → Nat → Int32)} {c_p_many : (Nat → Int32)} {c_p_all : (Nat → Int32)} {c_p_turns : (Nat → Int32)} {c_o_fields : Int32} {c_o_ties : Int32} {c_o_worth : (Nat → Int32)} {c_o_forces : (Nat → Int32)} {c_o_many : (Nat → Int32)} {c_o_codes : (Nat → Nat → Int32)} {c_o_b_list : (Nat → Nat → Int32)} {c_o_b_many : (Nat → Int32)} {c_o_p_list : (Nat → Nat → Int32)} {c_o_p_weights : (Nat → Nat → Int32)} {c_o_p_drawn : (Nat → Nat → Int32)} {c_o_p_many : (Nat → Int32)} {c_o_p_all : (Nat → Int32)} {c_o_p_turns : (Nat → Int32)} : (hSS c_fields c_ties c_worth c_forces c_many c_codes c_b_list c_b_many c_p_list c_p_weights c_p_drawn c_p_many c_p_all c_p_turns c_o_fields c_o_ties c_o_worth c_o_forces c_o_many c_o_codes c_o_b_list c_o_b_many c_o_p_list c_o_p_weights c_o_p_drawn c_o_p_many c_o_p_all c_o_p_turns)[26]? = some (.inl (0, 120, .inl (c_o_codes 0))) := rfl
theorem hSS_27 {c_fields : Int32} {c_ties : Int32} {c_worth : (Nat → Int32)} {c_forces : (Nat → Int32)} {c_many : (Nat → Int32)} {c_codes : (Nat → Nat → Int32)} {c_b_list : (Nat → Nat → Int32)} {c_b_many : (Nat → Int32)} {c_p_list : (Nat → Nat → Int32)} {c_p_weights : (Nat → Nat → Int32)} {c_p_drawn : (Nat → Nat → Int32)} {c_p_many : (Nat → Int32)} {c_p_all : (Nat → Int32)} {c_p_turns : (Nat → Int32)} {c_o_fields : Int32} {c_o_ties : Int32} {c_o_worth : (Nat → Int32)} {c_o_forces : (Nat → Int32)} {c_o_many : (Nat → Int32)} {c_o_codes : (Nat → Nat → Int32)} {c_o_b_list : (Nat → Nat → Int32)} {c_o_b_many : (Nat → Int32)} {c_o_p_list : (Nat → Nat → Int32)} {c_o_p_weights : (Nat → Nat → Int32)} {c_o_p_drawn : (Nat → Nat → Int32)} {c_o_p_many : (Nat → Int32)} {c_o_p_all : (Nat → Int32)} {c_o_p_turns : (Nat → Int32)} : (hSS c_fields c_ties c_worth c_forces c_many c_codes c_b_list c_b_many c_p_list c_p_weights c_p_drawn c_p_many c_p_all c_p_turns c_o_fields c_o_ties c_o_worth c_o_forces c_o_many c_o_codes c_o_b_list c_o_b_many c_o_p_list c_o_p_weights c_o_p_drawn c_o_p_many c_o_p_all c_o_p_turns)[27]? = some (.inl (0, 120, .inl (c_o_codes 1))) := rfl
theorem hSS_28 {c_fields : Int32} {c_ties : Int32} {c_worth : (Nat → Int32)} {c_forces : (Nat → Int32)} {c_many : (Nat → Int32)} {c_codes : (Nat → Nat → Int32)} {c_b_list : (Nat → Nat → Int32)} {c_b_many : (Nat → Int32)} {c_p_list : (Nat → Nat → Int32)} {c_p_weights : (Nat → Nat → Int32)} {c_p_drawn : (Nat → Nat → Int32)} {c_p_many : (Nat → Int32)} {c_p_all : (Nat → Int32)} {c_p_turns : (Nat → Int32)} {c_o_fields : Int32} {c_o_ties : Int32} {c_o_worth : (Nat → Int32)} {c_o_forces : (Nat → Int32)} {c_o_many : (Nat → Int32)} {c_o_codes : (Nat → Nat → Int32)} {c_o_b_list : (Nat → Nat → Int32)} {c_o_b_many : (Nat → Int32)} {c_o_p_list : (Nat → Nat → Int32)} {c_o_p_weights : (Nat → Nat → Int32)} {c_o_p_drawn : (Nat → Nat → Int32)} {c_o_p_many : (Nat → Int32)} {c_o_p_all : (Nat → Int32)} {c_o_p_turns : (Nat → Int32)} : (hSS c_fields c_ties c_worth c_forces c_many c_codes c_b_list c_b_many c_p_list c_p_weights c_p_drawn c_p_many c_p_all c_p_turns c_o_fields c_o_ties c_o_worth c_o_forces c_o_many c_o_codes c_o_b_list c_o_b_many c_o_p_list c_o_p_weights c_o_p_drawn c_o_p_many c_o_p_all c_o_p_turns)[28]? = some (.inl (4, 2, .inr (.inr [29, 31]))) := rfl
theorem hSS_29 {c_fields : Int32} {c_ties : Int32} {c_worth : (Nat → Int32)} {c_forces : (Nat → Int32)} {c_many : (Nat → Int32)} {c_codes : (Nat → Nat → Int32)} {c_b_list : (Nat → Nat → Int32)} {c_b_many : (Nat → Int32)} {c_p_list : (Nat → Nat → Int32)} {c_p_weights : (Nat → Nat → Int32)} {c_p_drawn : (Nat → Nat → Int32)} {c_p_many : (Nat → Int32)} {c_p_all : (Nat → Int32)} {c_p_turns : (Nat → Int32)} {c_o_fields : Int32} {c_o_ties : Int32} {c_o_worth : (Nat → Int32)} {c_o_forces : (Nat → Int32)} {c_o_many : (Nat → Int32)} {c_o_codes : (Nat → Nat → Int32)} {c_o_b_list : (Nat → Nat → Int32)} {c_o_b_many : (Nat → Int32)} {c_o_p_list : (Nat → Nat → Int32)} {c_o_p_weights : (Nat → Nat → Int32)} {c_o_p_drawn : (Nat → Nat → Int32)} {c_o_p_many : (Nat → Int32)} {c_o_p_all : (Nat → Int32)} {c_o_p_turns : (Nat → Int32)} : (hSS c_fields c_ties c_worth c_forces c_many c_codes c_b_list c_b_many c_p_list c_p_weights c_p_drawn c_p_many c_p_all c_p_turns c_o_fields c_o_ties c_o_worth c_o_forces c_o_many c_o_codes c_o_b_list c_o_b_many c_o_p_list c_o_p_weights c_o_p_drawn c_o_p_many c_o_p_all c_o_p_turns)[29]? = some (.inr (0, [.ref 30, .int (c_o_b_many 0)])) := rfl
theorem hSS_30 {c_fields : Int32} {c_ties : Int32} {c_worth : (Nat → Int32)} {c_forces : (Nat → Int32)} {c_many : (Nat → Int32)} {c_codes : (Nat → Nat → Int32)} {c_b_list : (Nat → Nat → Int32)} {c_b_many : (Nat → Int32)} {c_p_list : (Nat → Nat → Int32)} {c_p_weights : (Nat → Nat → Int32)} {c_p_drawn : (Nat → Nat → Int32)} {c_p_many : (Nat → Int32)} {c_p_all : (Nat → Int32)} {c_p_turns : (Nat → Int32)} {c_o_fields : Int32} {c_o_ties : Int32} {c_o_worth : (Nat → Int32)} {c_o_forces : (Nat → Int32)} {c_o_many : (Nat → Int32)} {c_o_codes : (Nat → Nat → Int32)} {c_o_b_list : (Nat → Nat → Int32)} {c_o_b_many : (Nat → Int32)} {c_o_p_list : (Nat → Nat → Int32)} {c_o_p_weights : (Nat → Nat → Int32)} {c_o_p_drawn : (Nat → Nat → Int32)} {c_o_p_many : (Nat → Int32)} {c_o_p_all : (Nat → Int32)} {c_o_p_turns : (Nat → Int32)} : (hSS c_fields c_ties c_worth c_forces c_many c_codes c_b_list c_b_many c_p_list c_p_weights c_p_drawn c_p_many c_p_all c_p_turns c_o_fields c_o_ties c_o_worth c_o_forces c_o_many c_o_codes c_o_b_list c_o_b_many c_o_p_list c_o_p_weights c_o_p_drawn c_o_p_many c_o_p_all c_o_p_turns)[30]? = some (.inl (0, 6, .inl (c_o_b_list 0))) := rfl
theorem hSS_31 {c_fields : Int32} {c_ties : Int32} {c_worth : (Nat → Int32)} {c_forces : (Nat → Int32)} {c_many : (Nat → Int32)} {c_codes : (Nat → Nat → Int32)} {c_b_list : (Nat → Nat → Int32)} {c_b_many : (Nat → Int32)} {c_p_list : (Nat → Nat → Int32)} {c_p_weights : (Nat → Nat → Int32)} {c_p_drawn : (Nat → Nat → Int32)} {c_p_many : (Nat → Int32)} {c_p_all : (Nat → Int32)} {c_p_turns : (Nat → Int32)} {c_o_fields : Int32} {c_o_ties : Int32} {c_o_worth : (Nat → Int32)} {c_o_forces : (Nat → Int32)} {c_o_many : (Nat → Int32)} {c_o_codes : (Nat → Nat → Int32)} {c_o_b_list : (Nat → Nat → Int32)} {c_o_b_many : (Nat → Int32)} {c_o_p_list : (Nat → Nat → Int32)} {c_o_p_weights : (Nat → Nat → Int32)} {c_o_p_drawn : (Nat → Nat → Int32)} {c_o_p_many : (Nat → Int32)} {c_o_p_all : (Nat → Int32)} {c_o_p_turns : (Nat → Int32)} : (hSS c_fields c_ties c_worth c_forces c_many c_codes c_b_list c_b_many c_p_list c_p_weights c_p_drawn c_p_many c_p_all c_p_turns c_o_fields c_o_ties c_o_worth c_o_forces c_o_many c_o_codes c_o_b_list c_o_b_many c_o_p_list c_o_p_weights c_o_p_drawn c_o_p_many c_o_p_all c_o_p_turns)[31]? = some (.inr (0, [.ref 32, .int (c_o_b_many 1)])) := rfl
theorem hSS_32 {c_fields : Int32} {c_ties : Int32} {c_worth : (Nat → Int32)} {c_forces : (Nat → Int32)} {c_many : (Nat → Int32)} {c_codes : (Nat → Nat → Int32)} {c_b_list : (Nat → Nat → Int32)} {c_b_many : (Nat → Int32)} {c_p_list : (Nat → Nat → Int32)} {c_p_weights : (Nat → Nat → Int32)} {c_p_drawn : (Nat → Nat → Int32)} {c_p_many : (Nat → Int32)} {c_p_all : (Nat → Int32)} {c_p_turns : (Nat → Int32)} {c_o_fields : Int32} {c_o_ties : Int32} {c_o_worth : (Nat → Int32)} {c_o_forces : (Nat → Int32)} {c_o_many : (Nat → Int32)} {c_o_codes : (Nat → Nat → Int32)} {c_o_b_list : (Nat → Nat → Int32)} {c_o_b_many : (Nat → Int32)} {c_o_p_list : (Nat → Nat → Int32)} {c_o_p_weights : (Nat → Nat → Int32)} {c_o_p_drawn : (Nat → Nat → Int32)} {c_o_p_many : (Nat → Int32)} {c_o_p_all : (Nat → Int32)} {c_o_p_turns : (Nat → Int32)} : (hSS c_fields c_ties c_worth c_forces c_many c_codes c_b_list c_b_many c_p_list c_p_weights c_p_drawn c_p_many c_p_all c_p_turns c_o_fields c_o_ties c_o_worth c_o_forces c_o_many c_o_codes c_o_b_list c_o_b_many c_o_p_list c_o_p_weights c_o_p_drawn c_o_p_many c_o_p_all c_o_p_turns)[32]? = some (.inl (0, 6, .inl (c_o_b_list 1))) := rfl
theorem hSS_33 {c_fields : Int32} {c_ties : Int32} {c_worth : (Nat → Int32)} {c_forces : (Nat → Int32)} {c_many : (Nat → Int32)} {c_codes : (Nat → Nat → Int32)} {c_b_list : (Nat → Nat → Int32)} {c_b_many : (Nat → Int32)} {c_p_list : (Nat → Nat → Int32)} {c_p_weights : (Nat → Nat → Int32)} {c_p_drawn : (Nat → Nat → Int32)} {c_p_many : (Nat → Int32)} {c_p_all : (Nat → Int32)} {c_p_turns : (Nat → Int32)} {c_o_fields : Int32} {c_o_ties : Int32} {c_o_worth : (Nat → Int32)} {c_o_forces : (Nat → Int32)} {c_o_many : (Nat → Int32)} {c_o_codes : (Nat → Nat → Int32)} {c_o_b_list : (Nat → Nat → Int32)} {c_o_b_many : (Nat → Int32)} {c_o_p_list : (Nat → Nat → Int32)} {c_o_p_weights : (Nat → Nat → Int32)} {c_o_p_drawn : (Nat → Nat → Int32)} {c_o_p_many : (Nat → Int32)} {c_o_p_all : (Nat → Int32)} {c_o_p_turns : (Nat → Int32)} : (hSS c_fields c_ties c_worth c_forces c_many c_codes c_b_list c_b_many c_p_list c_p_weights c_p_drawn c_p_many c_p_all c_p_turns c_o_fields c_o_ties c_o_worth c_o_forces c_o_many c_o_codes c_o_b_list c_o_b_many c_o_p_list c_o_p_weights c_o_p_drawn c_o_p_many c_o_p_all c_o_p_turns)[33]? = some (.inl (5, 2, .inr (.inr [34, 38]))) := rfl
theorem hSS_34 {c_fields : Int32} {c_ties : Int32} {c_worth : (Nat → Int32)} {c_forces : (Nat → Int32)} {c_many : (Nat → Int32)} {c_codes : (Nat → Nat → Int32)} {c_b_list : (Nat → Nat → Int32)} {c_b_many : (Nat → Int32)} {c_p_list : (Nat → Nat → Int32)} {c_p_weights : (Nat → Nat → Int32)} {c_p_drawn : (Nat → Nat → Int32)} {c_p_many : (Nat → Int32)} {c_p_all : (Nat → Int32)} {c_p_turns : (Nat → Int32)} {c_o_fields : Int32} {c_o_ties : Int32} {c_o_worth : (Nat → Int32)} {c_o_forces : (Nat → Int32)} {c_o_many : (Nat → Int32)} {c_o_codes : (Nat → Nat → Int32)} {c_o_b_list : (Nat → Nat → Int32)} {c_o_b_many : (Nat → Int32)} {c_o_p_list : (Nat → Nat → Int32)} {c_o_p_weights : (Nat → Nat → Int32)} {c_o_p_drawn : (Nat → Nat → Int32)} {c_o_p_many : (Nat → Int32)} {c_o_p_all : (Nat → Int32)} {c_o_p_turns : (Nat → Int32)} : (hSS c_fields c_ties c_worth c_forces c_many c_codes c_b_list c_b_many c_p_list c_p_weights c_p_drawn c_p_many c_p_all c_p_turns c_o_fields c_o_ties c_o_worth c_o_forces c_o_many c_o_codes c_o_b_list c_o_b_many c_o_p_list c_o_p_weights c_o_p_drawn c_o_p_many c_o_p_all c_o_p_turns)[34]? = some (.inr (3, [.ref 35, .ref 36, .ref 37, .int (c_o_p_many 0), .int (c_o_p_all 0), .int (c_o_p_turns 0)])) := rfl
theorem hSS_35 {c_fields : Int32} {c_ties : Int32} {c_worth : (Nat → Int32)} {c_forces : (Nat → Int32)} {c_many : (Nat → Int32)} {c_codes : (Nat → Nat → Int32)} {c_b_list : (Nat → Nat → Int32)} {c_b_many : (Nat → Int32)} {c_p_list : (Nat → Nat → Int32)} {c_p_weights : (Nat → Nat → Int32)} {c_p_drawn : (Nat → Nat → Int32)} {c_p_many : (Nat → Int32)} {c_p_all : (Nat → Int32)} {c_p_turns : (Nat → Int32)} {c_o_fields : Int32} {c_o_ties : Int32} {c_o_worth : (Nat → Int32)} {c_o_forces : (Nat → Int32)} {c_o_many : (Nat → Int32)} {c_o_codes : (Nat → Nat → Int32)} {c_o_b_list : (Nat → Nat → Int32)} {c_o_b_many : (Nat → Int32)} {c_o_p_list : (Nat → Nat → Int32)} {c_o_p_weights : (Nat → Nat → Int32)} {c_o_p_drawn : (Nat → Nat → Int32)} {c_o_p_many : (Nat → Int32)} {c_o_p_all : (Nat → Int32)} {c_o_p_turns : (Nat → Int32)} : (hSS c_fields c_ties c_worth c_forces c_many c_codes c_b_list c_b_many c_p_list c_p_weights c_p_drawn c_p_many c_p_all c_p_turns c_o_fields c_o_ties c_o_worth c_o_forces c_o_many c_o_codes c_o_b_list c_o_b_many c_o_p_list c_o_p_weights c_o_p_drawn c_o_p_many c_o_p_all c_o_p_turns)[35]? = some (.inl (0, 8, .inl (c_o_p_list 0))) := rfl
theorem hSS_36 {c_fields : Int32} {c_ties : Int32} {c_worth : (Nat → Int32)} {c_forces : (Nat → Int32)} {c_many : (Nat → Int32)} {c_codes : (Nat → Nat → Int32)} {c_b_list : (Nat → Nat → Int32)} {c_b_many : (Nat → Int32)} {c_p_list : (Nat → Nat → Int32)} {c_p_weights : (Nat → Nat → Int32)} {c_p_drawn : (Nat → Nat → Int32)} {c_p_many : (Nat → Int32)} {c_p_all : (Nat → Int32)} {c_p_turns : (Nat → Int32)} {c_o_fields : Int32} {c_o_ties : Int32} {c_o_worth : (Nat → Int32)} {c_o_forces : (Nat → Int32)} {c_o_many : (Nat → Int32)} {c_o_codes : (Nat → Nat → Int32)} {c_o_b_list : (Nat → Nat → Int32)} {c_o_b_many : (Nat → Int32)} {c_o_p_list : (Nat → Nat → Int32)} {c_o_p_weights : (Nat → Nat → Int32)} {c_o_p_drawn : (Nat → Nat → Int32)} {c_o_p_many : (Nat → Int32)} {c_o_p_all : (Nat → Int32)} {c_o_p_turns : (Nat → Int32)} : (hSS c_fields c_ties c_worth c_forces c_many c_codes c_b_list c_b_many c_p_list c_p_weights c_p_drawn c_p_many c_p_all c_p_turns c_o_fields c_o_ties c_o_worth c_o_forces c_o_many c_o_codes c_o_b_list c_o_b_many c_o_p_list c_o_p_weights c_o_p_drawn c_o_p_many c_o_p_all c_o_p_turns)[36]? = some (.inl (0, 8, .inl (c_o_p_weights 0))) := rfl
theorem hSS_37 {c_fields : Int32} {c_ties : Int32} {c_worth : (Nat → Int32)} {c_forces : (Nat → Int32)} {c_many : (Nat → Int32)} {c_codes : (Nat → Nat → Int32)} {c_b_list : (Nat → Nat → Int32)} {c_b_many : (Nat → Int32)} {c_p_list : (Nat → Nat → Int32)} {c_p_weights : (Nat → Nat → Int32)} {c_p_drawn : (Nat → Nat → Int32)} {c_p_many : (Nat → Int32)} {c_p_all : (Nat → Int32)} {c_p_turns : (Nat → Int32)} {c_o_fields : Int32} {c_o_ties : Int32} {c_o_worth : (Nat → Int32)} {c_o_forces : (Nat → Int32)} {c_o_many : (Nat → Int32)} {c_o_codes : (Nat → Nat → Int32)} {c_o_b_list : (Nat → Nat → Int32)} {c_o_b_many : (Nat → Int32)} {c_o_p_list : (Nat → Nat → Int32)} {c_o_p_weights : (Nat → Nat → Int32)} {c_o_p_drawn : (Nat → Nat → Int32)} {c_o_p_many : (Nat → Int32)} {c_o_p_all : (Nat → Int32)} {c_o_p_turns : (Nat → Int32)} : (hSS c_fields c_ties c_worth c_forces c_many c_codes c_b_list c_b_many c_p_list c_p_weights c_p_drawn c_p_many c_p_all c_p_turns c_o_fields c_o_ties c_o_worth c_o_forces c_o_many c_o_codes c_o_b_list c_o_b_many c_o_p_list c_o_p_weights c_o_p_drawn c_o_p_many c_o_p_all c_o_p_turns)[37]? = some (.inl (0, 8, .inl (c_o_p_drawn 0))) := rfl
theorem hSS_38 {c_fields : Int32} {c_ties : Int32} {c_worth : (Nat → Int32)} {c_forces : (Nat → Int32)} {c_many : (Nat → Int32)} {c_codes : (Nat → Nat → Int32)} {c_b_list : (Nat → Nat → Int32)} {c_b_many : (Nat → Int32)} {c_p_list : (Nat → Nat → Int32)} {c_p_weights : (Nat → Nat → Int32)} {c_p_drawn : (Nat → Nat → Int32)} {c_p_many : (Nat → Int32)} {c_p_all : (Nat → Int32)} {c_p_turns : (Nat → Int32)} {c_o_fields : Int32} {c_o_ties : Int32} {c_o_worth : (Nat → Int32)} {c_o_forces : (Nat → Int32)} {c_o_many : (Nat → Int32)} {c_o_codes : (Nat → Nat → Int32)} {c_o_b_list : (Nat → Nat → Int32)} {c_o_b_many : (Nat → Int32)} {c_o_p_list : (Nat → Nat → Int32)} {c_o_p_weights : (Nat → Nat → Int32)} {c_o_p_drawn : (Nat → Nat → Int32)} {c_o_p_many : (Nat → Int32)} {c_o_p_all : (Nat → Int32)} {c_o_p_turns : (Nat → Int32)} : (hSS c_fields c_ties c_worth c_forces c_many c_codes c_b_list c_b_many c_p_list c_p_weights c_p_drawn c_p_many c_p_all c_p_turns c_o_fields c_o_ties c_o_worth c_o_forces c_o_many c_o_codes c_o_b_list c_o_b_many c_o_p_list c_o_p_weights c_o_p_drawn c_o_p_many c_o_p_all c_o_p_turns)[38]? = some (.inr (3, [.ref 39, .ref 40, .ref 41, .int (c_o_p_many 1), .int (c_o_p_all 1), .int (c_o_p_turns 1)])) := rfl
theorem hSS_39 {c_fields : Int32} {c_ties : Int32} {c_worth : (Nat → Int32)} {c_forces : (Nat → Int32)} {c_many : (Nat → Int32)} {c_codes : (Nat → Nat → Int32)} {c_b_list : (Nat → Nat → Int32)} {c_b_many : (Nat → Int32)} {c_p_list : (Nat → Nat → Int32)} {c_p_weights : (Nat → Nat → Int32)} {c_p_drawn : (Nat → Nat → Int32)} {c_p_many : (Nat → Int32)} {c_p_all : (Nat → Int32)} {c_p_turns : (Nat → Int32)} {c_o_fields : Int32} {c_o_ties : Int32} {c_o_worth : (Nat → Int32)} {c_o_forces : (Nat → Int32)} {c_o_many : (Nat → Int32)} {c_o_codes : (Nat → Nat → Int32)} {c_o_b_list : (Nat → Nat → Int32)} {c_o_b_many : (Nat → Int32)} {c_o_p_list : (Nat → Nat → Int32)} {c_o_p_weights : (Nat → Nat → Int32)} {c_o_p_drawn : (Nat → Nat → Int32)} {c_o_p_many : (Nat → Int32)} {c_o_p_all : (Nat → Int32)} {c_o_p_turns : (Nat → Int32)} : (hSS c_fields c_ties c_worth c_forces c_many c_codes c_b_list c_b_many c_p_list c_p_weights c_p_drawn c_p_many c_p_all c_p_turns c_o_fields c_o_ties c_o_worth c_o_forces c_o_many c_o_codes c_o_b_list c_o_b_many c_o_p_list c_o_p_weights c_o_p_drawn c_o_p_many c_o_p_all c_o_p_turns)[39]? = some (.inl (0, 8, .inl (c_o_p_list 1))) := rfl
theorem hSS_40 {c_fields : Int32} {c_ties : Int32} {c_worth : (Nat → Int32)} {c_forces : (Nat → Int32)} {c_many : (Nat → Int32)} {c_codes : (Nat → Nat → Int32)} {c_b_list : (Nat → Nat → Int32)} {c_b_many : (Nat → Int32)} {c_p_list : (Nat → Nat → Int32)} {c_p_weights : (Nat → Nat → Int32)} {c_p_drawn : (Nat → Nat → Int32)} {c_p_many : (Nat → Int32)} {c_p_all : (Nat → Int32)} {c_p_turns : (Nat → Int32)} {c_o_fields : Int32} {c_o_ties : Int32} {c_o_worth : (Nat → Int32)} {c_o_forces : (Nat → Int32)} {c_o_many : (Nat → Int32)} {c_o_codes : (Nat → Nat → Int32)} {c_o_b_list : (Nat → Nat → Int32)} {c_o_b_many : (Nat → Int32)} {c_o_p_list : (Nat → Nat → Int32)} {c_o_p_weights : (Nat → Nat → Int32)} {c_o_p_drawn : (Nat → Nat → Int32)} {c_o_p_many : (Nat → Int32)} {c_o_p_all : (Nat → Int32)} {c_o_p_turns : (Nat → Int32)} : (hSS c_fields c_ties c_worth c_forces c_many c_codes c_b_list c_b_many c_p_list c_p_weights c_p_drawn c_p_many c_p_all c_p_turns c_o_fields c_o_ties c_o_worth c_o_forces c_o_many c_o_codes c_o_b_list c_o_b_many c_o_p_list c_o_p_weights c_o_p_drawn c_o_p_many c_o_p_all c_o_p_turns)[40]? = some (.inl (0, 8, .inl (c_o_p_weights 1))) := rfl
theorem hSS_41 {c_fields : Int32} {c_ties : Int32} {c_worth : (Nat → Int32)} {c_forces : (Nat → Int32)} {c_many : (Nat → Int32)} {c_codes : (Nat → Nat → Int32)} {c_b_list : (Nat → Nat → Int32)} {c_b_many : (Nat → Int32)} {c_p_list : (Nat → Nat → Int32)} {c_p_weights : (Nat → Nat → Int32)} {c_p_drawn : (Nat → Nat → Int32)} {c_p_many : (Nat → Int32)} {c_p_all : (Nat → Int32)} {c_p_turns : (Nat → Int32)} {c_o_fields : Int32} {c_o_ties : Int32} {c_o_worth : (Nat → Int32)} {c_o_forces : (Nat → Int32)} {c_o_many : (Nat → Int32)} {c_o_codes : (Nat → Nat → Int32)} {c_o_b_list : (Nat → Nat → Int32)} {c_o_b_many : (Nat → Int32)} {c_o_p_list : (Nat → Nat → Int32)} {c_o_p_weights : (Nat → Nat → Int32)} {c_o_p_drawn : (Nat → Nat → Int32)} {c_o_p_many : (Nat → Int32)} {c_o_p_all : (Nat → Int32)} {c_o_p_turns : (Nat → Int32)} : (hSS c_fields c_ties c_worth c_forces c_many c_codes c_b_list c_b_many c_p_list c_p_weights c_p_drawn c_p_many c_p_all c_p_turns c_o_fields c_o_ties c_o_worth c_o_forces c_o_many c_o_codes c_o_b_list c_o_b_many c_o_p_list c_o_p_weights c_o_p_drawn c_o_p_many c_o_p_all c_o_p_turns)[41]? = some (.inl (0, 8, .inl (c_o_p_drawn 1))) := rfl
theorem xy_b7 : (Int8.ofInt (7)).toInt32 = (7 : Int32) := by decide
theorem f4_38 : xFl RX4 38 4 0 := ⟨_, rfl, by decide, List.mem_of_getElem? (i := 53) (by decide +kernel)⟩
theorem dX4_following_0 : decode cX4_following 0 = .ok (.iconst 0, 1) := by decide +kernel
theorem dX4_following_1 : decode cX4_following 1 = .ok (.istore_n 2, 1) := by decide +kernel
theorem dX4_following_2 : decode cX4_following 2 = .ok (.iload_n 2, 1) := by decide +kernel
theorem dX4_following_3 : decode cX4_following 3 = .ok (.iconst 3, 1) := by decide +kernel
theorem dX4_following_4 : decode cX4_following 4 = .ok (.aload_n 0, 1) := by decide +kernel
theorem dX4_following_5 : decode cX4_following 5 = .ok (.getfield 38, 3) := by decide +kernel
theorem dX4_following_8 : decode cX4_following 8 = .ok (.iconst 1, 1) := by decide +kernel
theorem dX4_following_9 : decode cX4_following 9 = .ok (.isub, 1) := by decide +kernel
theorem dX4_following_10 : decode cX4_following 10 = .ok (.imul, 1) := by decide +kernel
theorem dX4_following_11 : decode cX4_following 11 = .ok (.if_icmp .ge 35, 3) := by decide +kernel
theorem dX4_following_14 : decode cX4_following 14 = .ok (.iload_n 1, 1) := by decide +kernel
theorem dX4_following_15 : decode cX4_following 15 = .ok (.iload_n 2, 1) := by decide +kernel
theorem dX4_following_16 : decode cX4_following 16 = .ok (.ishr, 1) := by decide +kernel
theorem dX4_following_17 : decode cX4_following 17 = .ok (.bipush 7, 2) := by decide +kernel
theorem dX4_following_19 : decode cX4_following 19 = .ok (.iand, 1) := by decide +kernel
theorem dX4_following_20 : decode cX4_following 20 = .ok (.istore_n 3, 1) := by decide +kernel
theorem dX4_following_21 : decode cX4_following 21 = .ok (.iload_n 3, 1) := by decide +kernel
theorem dX4_following_22 : decode cX4_following 22 = .ok (.ifCond .le 18, 3) := by decide +kernel
theorem dX4_following_25 : decode cX4_following 25 = .ok (.iload_n 1, 1) := by decide +kernel
theorem dX4_following_26 : decode cX4_following 26 = .ok (.iload_n 3, 1) := by decide +kernel
theorem dX4_following_27 : decode cX4_following 27 = .ok (.iload_n 2, 1) := by decide +kernel
theorem dX4_following_28 : decode cX4_following 28 = .ok (.ishl, 1) := by decide +kernel
theorem dX4_following_29 : decode cX4_following 29 = .ok (.isub, 1) := by decide +kernel
theorem dX4_following_30 : decode cX4_following 30 = .ok (.bipush 8, 2) := by decide +kernel
theorem dX4_following_32 : decode cX4_following 32 = .ok (.iload_n 2, 1) := by decide +kernel
theorem dX4_following_33 : decode cX4_following 33 = .ok (.ishl, 1) := by decide +kernel
theorem dX4_following_34 : decode cX4_following 34 = .ok (.iadd, 1) := by decide +kernel
theorem dX4_following_35 : decode cX4_following 35 = .ok (.iload_n 3, 1) := by decide +kernel
theorem dX4_following_36 : decode cX4_following 36 = .ok (.iadd, 1) := by decide +kernel
theorem dX4_following_37 : decode cX4_following 37 = .ok (.iconst 1, 1) := by decide +kernel
theorem dX4_following_38 : decode cX4_following 38 = .ok (.isub, 1) := by decide +kernel
theorem dX4_following_39 : decode cX4_following 39 = .ok (.ireturn, 1) := by decide +kernel
theorem dX4_following_40 : decode cX4_following 40 = .ok (.iinc 2 3, 3) := by decide +kernel
theorem dX4_following_43 : decode cX4_following 43 = .ok (.goto (-41), 3) := by decide +kernel
theorem dX4_following_46 : decode cX4_following 46 = .ok (.iconst (-1), 1) := by decide +kernel
theorem dX4_following_47 : decode cX4_following 47 = .ok (.ireturn, 1) := by decide +kernel
abbrev j4_following : xJ := (cX4_following, 4, RX4, 1, 0, 0)
def F4_following_b25 (z : Nat) (x1 : Int32) (x2 : Int32) (x3 : Int32) (c_fields : Int32) : Option (Int32) :=
  some (((((x1 - (x3 <<< (x2 &&& 31))) + ((8 : Int32) <<< (x2 &&& 31))) + x3) - (1 : Int32)))
theorem T4_following_b25 {X : xX} {c_ties : Int32} {c_worth : (Nat → Int32)} {c_forces : (Nat → Int32)} {c_many : (Nat → Int32)} {c_codes : (Nat → Nat → Int32)} {c_b_list : (Nat → Nat → Int32)} {c_b_many : (Nat → Int32)} {c_p_list : (Nat → Nat → Int32)} {c_p_weights : (Nat → Nat → Int32)} {c_p_drawn : (Nat → Nat → Int32)} {c_p_many : (Nat → Int32)} {c_p_all : (Nat → Int32)} {c_p_turns : (Nat → Int32)} {x1 : Int32} {x2 : Int32} {x3 : Int32} {c_fields : Int32} {z : Nat} {v : Int32} (hX : xIs (j4_following) X ((some .int)) (some (.int v)) (hS c_fields c_ties c_worth c_forces c_many c_codes c_b_list c_b_many c_p_list c_p_weights c_p_drawn c_p_many c_p_all c_p_turns)) (hf : F4_following_b25 z x1 x2 x3 c_fields = some v) : xV (j4_following) X 0 0 (hS c_fields c_ties c_worth c_forces c_many c_codes c_b_list c_b_many c_p_list c_p_weights c_p_drawn c_p_many c_p_all c_p_turns) 25 [(1, .int x1), (2, .int x2), (3, .int x3)] [] := by
  unfold F4_following_b25 at hf
  refine xV_iload_n 26 rfl dX4_following_25 rfl 0 rfl ?_
  refine xV_iload_n 27 rfl dX4_following_26 rfl 2 rfl ?_
  refine xV_iload_n 28 rfl dX4_following_27 rfl 1 rfl ?_
  refine xV_ishl 29 rfl dX4_following_28 ?_
  refine xV_isub 30 rfl dX4_following_29 ?_
  refine xV_bipush 32 rfl dX4_following_30 xy_b8 ?_
  refine xV_iload_n 33 rfl dX4_following_32 rfl 1 rfl ?_
  refine xV_ishl 34 rfl dX4_following_33 ?_
  refine xV_iadd 35 rfl dX4_following_34 ?_
  refine xV_iload_n 36 rfl dX4_following_35 rfl 2 rfl ?_
  refine xV_iadd 37 rfl dX4_following_36 ?_
  refine xV_iconst 38 rfl dX4_following_37 xy_i1 ?_
  refine xV_isub 39 rfl dX4_following_38 ?_
  obtain rfl := Option.some.inj hf
  exact xV_iret hX dX4_following_39 rfl (Nat.zero_le _) (Nat.zero_le _)
def F4_following_b2 (z : Nat) (w : Nat) (x1 : Int32) (x2 : Int32) (c_fields : Int32) : Option (Int32) := match w with
  | 0 => none
  | w + 1 => if ((3 : Int32) * (c_fields - (1 : Int32))) ≤ x2 then (some ((-1 : Int32))) else (if ((x1 >>> (x2 &&& 31)) &&& (7 : Int32)) ≤ 0 then (F4_following_b2 z w x1 (x2 + (3 : Int32)) c_fields) else (F4_following_b25 z x1 x2 ((x1 >>> (x2 &&& 31)) &&& (7 : Int32)) c_fields))
theorem T4_following_b2 {X : xX} {c_fields : Int32} {c_ties : Int32} {c_worth : (Nat → Int32)} {c_forces : (Nat → Int32)} {c_many : (Nat → Int32)} {c_codes : (Nat → Nat → Int32)} {c_b_list : (Nat → Nat → Int32)} {c_b_many : (Nat → Int32)} {c_p_list : (Nat → Nat → Int32)} {c_p_weights : (Nat → Nat → Int32)} {c_p_drawn : (Nat → Nat → Int32)} {c_p_many : (Nat → Int32)} {c_p_all : (Nat → Int32)} {c_p_turns : (Nat → Int32)} {z : Nat} {v : Int32} (hX : xIs (j4_following) X ((some .int)) (some (.int v)) (hS c_fields c_ties c_worth c_forces c_many c_codes c_b_list c_b_many c_p_list c_p_weights c_p_drawn c_p_many c_p_all c_p_turns)) : ∀ (w : Nat) {x1 : Int32} {x2 : Int32}, F4_following_b2 z w x1 x2 c_fields = some v → xV (j4_following) X 0 0 (hS c_fields c_ties c_worth c_forces c_many c_codes c_b_list c_b_many c_p_list c_p_weights c_p_drawn c_p_many c_p_all c_p_turns) 2 [(0, .ref 0), (1, .int x1), (2, .int x2)] [] := by
  intro w
  induction w with
  | zero => intro x1 x2 hf; cases hf
  | succ w ih =>
    intro x1 x2 hf
    unfold F4_following_b2 at hf
    refine xV_iload_n 3 rfl dX4_following_2 rfl 2 rfl ?_
    refine xV_iconst 4 rfl dX4_following_3 xy_i3 ?_
    refine xV_aload_n 5 rfl dX4_following_4 rfl 0 rfl ?_
    refine xV_get (v := .int c_fields) 8 rfl dX4_following_5 f4_38 rfl rfl ?_
    refine xV_iconst 9 rfl dX4_following_8 xy_i1 ?_
    refine xV_isub 10 rfl dX4_following_9 ?_
    refine xV_imul 11 rfl dX4_following_10 ?_
    refine xV_icmp_ge (tgt := 46) 14 rfl dX4_following_11 (by decide) (fun h11 => ?_) (fun h11 => ?_)
    · have hf := xif_t hf h11
      refine xV_iconst 47 rfl dX4_following_46 xy_im1 ?_
      obtain rfl := Option.some.inj hf
      exact xV_iret hX dX4_following_47 rfl (Nat.zero_le _) (Nat.zero_le _)
    · have hf := xif_f hf h11
      refine xV_iload_n 15 rfl dX4_following_14 rfl 1 rfl ?_
      refine xV_iload_n 16 rfl dX4_following_15 rfl 2 rfl ?_
      refine xV_ishr 17 rfl dX4_following_16 ?_
      refine xV_bipush 19 rfl dX4_following_17 xy_b7 ?_
      refine xV_iand 20 rfl dX4_following_19 ?_
      refine xV_istore_n (L' := [(3, .int ((x1 >>> (x2 &&& 31)) &&& (7 : Int32))), (0, .ref 0), (1, .int x1), (2, .int x2)]) 21 rfl dX4_following_20 rfl (xlt rfl) rfl ?_
      refine xV_iload_n 22 rfl dX4_following_21 rfl 0 rfl ?_
      refine xV_if_le (tgt := 40) 25 rfl dX4_following_22 (by decide) (fun h22 => ?_) (fun h22 => ?_)
      · have hf := xif_t hf h22
        refine xV_iinc (L' := [(2, .int (x2 + (3 : Int32))), (3, .int ((x1 >>> (x2 &&& 31)) &&& (7 : Int32))), (0, .ref 0), (1, .int x1)]) 43 rfl dX4_following_40 3 rfl (xk_inc xy_i3) (xlt rfl) rfl ?_
        refine xV_goto (tgt := 2) dX4_following_43 (by decide) ?_
        refine xV_sub [2, 3, 0] rfl ?_
        exact ih hf
      · have hf := xif_f hf h22
        refine xV_sub [2, 3, 0] rfl ?_
        exact T4_following_b25 hX hf
def F4_following (z : Nat) (x1 : Int32) (c_fields : Int32) : Option (Int32) :=
  F4_following_b2 z z x1 (0 : Int32) c_fields
theorem T4_following {X : xX} {z : Nat} {x1 : Int32} {c_fields : Int32} {c_ties : Int32} {c_worth : (Nat → Int32)} {c_forces : (Nat → Int32)} {c_many : (Nat → Int32)} {c_codes : (Nat → Nat → Int32)} {c_b_list : (Nat → Nat → Int32)} {c_b_many : (Nat → Int32)} {c_p_list : (Nat → Nat → Int32)} {c_p_weights : (Nat → Nat → Int32)} {c_p_drawn : (Nat → Nat → Int32)} {c_p_many : (Nat → Int32)} {c_p_all : (Nat → Int32)} {c_p_turns : (Nat → Int32)} {v : Int32} (hX : xIs (j4_following) X ((some .int)) (some (.int v)) (hS c_fields c_ties c_worth c_forces c_many c_codes c_b_list c_b_many c_p_list c_p_weights c_p_drawn c_p_many c_p_all c_p_turns)) (hf : F4_following z x1 c_fields = some v) : xV (j4_following) X 0 0 (hS c_fields c_ties c_worth c_forces c_many c_codes c_b_list c_b_many c_p_list c_p_weights c_p_drawn c_p_many c_p_all c_p_turns) 0 [(0, .ref 0), (1, .int x1)] [] := by
  unfold F4_following at hf
  refine xV_iconst 1 rfl dX4_following_0 xy_i0 ?_
  refine xV_istore_n (L' := [(2, .int (0 : Int32)), (0, .ref 0), (1, .int x1)]) 2 rfl dX4_following_1 rfl (xlt rfl) rfl ?_
  refine xV_sub [1, 2, 0] rfl ?_
  exact T4_following_b2 hX _ hf
theorem C4_following (l : Launch) {z : Nat} {x1 : Int32} {c_fields : Int32} {c_ties : Int32} {c_worth : (Nat → Int32)} {c_forces : (Nat → Int32)} {c_many : (Nat → Int32)} {c_codes : (Nat → Nat → Int32)} {c_b_list : (Nat → Nat → Int32)} {c_b_many : (Nat → Int32)} {c_p_list : (Nat → Nat → Int32)} {c_p_weights : (Nat → Nat → Int32)} {c_p_drawn : (Nat → Nat → Int32)} {c_p_many : (Nat → Int32)} {c_p_all : (Nat → Int32)} {c_p_turns : (Nat → Int32)} {v : Int32} (hf : F4_following z x1 c_fields = some v) : xCt l yX4_following ((some .int)) j4_following [.ref 0, .int x1] (hS c_fields c_ties c_worth c_forces c_many c_codes c_b_list c_b_many c_p_list c_p_weights c_p_drawn c_p_many c_p_all c_p_turns) (some (.int v)) (hS c_fields c_ties c_worth c_forces c_many c_codes c_b_list c_b_many c_p_list c_p_weights c_p_drawn c_p_many c_p_all c_p_turns) := xCt_of (by decide) rfl (Nat.le_of_ble_eq_true rfl) (fun _ hX => T4_following hX hf)
theorem m4_following : xMd yX4_following RX4 ((some .int)) j4_following 1 := ⟨List.mem_of_getElem? (i := 75) (by decide +kernel), List.mem_of_getElem? (i := 15) (by decide +kernel), rfl, by decide +kernel⟩
theorem v4_following : xMv yX4_following RX4 := ⟨List.mem_of_getElem? (i := 73) (by decide +kernel), List.mem_of_getElem? (i := 74) (by decide +kernel)⟩
theorem f4_15 : xFl RX4 15 4 3 := ⟨_, rfl, by decide, List.mem_of_getElem? (i := 45) (by decide +kernel)⟩
theorem f4_23 : xFl RX4 23 4 5 := ⟨_, rfl, by decide, List.mem_of_getElem? (i := 48) (by decide +kernel)⟩
theorem k4_69 : Cond.methodLink RX4 69 yX4_following ∈ wsL_law0 := List.mem_of_getElem? (i := 72) (by decide +kernel)
theorem f4_18 : xFl RX4 18 4 4 := ⟨_, rfl, by decide, List.mem_of_getElem? (i := 46) (by decide +kernel)⟩
theorem dX4_listSplits_0 : decode cX4_listSplits 0 = .ok (.aload_n 0, 1) := by decide +kernel
theorem dX4_listSplits_1 : decode cX4_listSplits 1 = .ok (.getfield 15, 3) := by decide +kernel
theorem dX4_listSplits_4 : decode cX4_listSplits 4 = .ok (.iload_n 1, 1) := by decide +kernel
theorem dX4_listSplits_5 : decode cX4_listSplits 5 = .ok (.iaload, 1) := by decide +kernel
theorem dX4_listSplits_6 : decode cX4_listSplits 6 = .ok (.istore_n 2, 1) := by decide +kernel
theorem dX4_listSplits_7 : decode cX4_listSplits 7 = .ok (.iconst 0, 1) := by decide +kernel
theorem dX4_listSplits_8 : decode cX4_listSplits 8 = .ok (.istore_n 3, 1) := by decide +kernel
theorem dX4_listSplits_9 : decode cX4_listSplits 9 = .ok (.iload_n 3, 1) := by decide +kernel
theorem dX4_listSplits_10 : decode cX4_listSplits 10 = .ok (.bipush 120, 2) := by decide +kernel
theorem dX4_listSplits_12 : decode cX4_listSplits 12 = .ok (.if_icmp .ge 29, 3) := by decide +kernel
theorem dX4_listSplits_15 : decode cX4_listSplits 15 = .ok (.iload_n 2, 1) := by decide +kernel
theorem dX4_listSplits_16 : decode cX4_listSplits 16 = .ok (.iconst (-1), 1) := by decide +kernel
theorem dX4_listSplits_17 : decode cX4_listSplits 17 = .ok (.if_icmp .eq 24, 3) := by decide +kernel
theorem dX4_listSplits_20 : decode cX4_listSplits 20 = .ok (.aload_n 0, 1) := by decide +kernel
theorem dX4_listSplits_21 : decode cX4_listSplits 21 = .ok (.getfield 23, 3) := by decide +kernel
theorem dX4_listSplits_24 : decode cX4_listSplits 24 = .ok (.iload_n 1, 1) := by decide +kernel
theorem dX4_listSplits_25 : decode cX4_listSplits 25 = .ok (.aaload, 1) := by decide +kernel
theorem dX4_listSplits_26 : decode cX4_listSplits 26 = .ok (.iload_n 3, 1) := by decide +kernel
theorem dX4_listSplits_27 : decode cX4_listSplits 27 = .ok (.iload_n 2, 1) := by decide +kernel
theorem dX4_listSplits_28 : decode cX4_listSplits 28 = .ok (.iastore, 1) := by decide +kernel
theorem dX4_listSplits_29 : decode cX4_listSplits 29 = .ok (.aload_n 0, 1) := by decide +kernel
theorem dX4_listSplits_30 : decode cX4_listSplits 30 = .ok (.iload_n 2, 1) := by decide +kernel
theorem dX4_listSplits_31 : decode cX4_listSplits 31 = .ok (.invokevirtual 69, 3) := by decide +kernel
theorem dX4_listSplits_34 : decode cX4_listSplits 34 = .ok (.istore_n 2, 1) := by decide +kernel
theorem dX4_listSplits_35 : decode cX4_listSplits 35 = .ok (.iinc 3 1, 3) := by decide +kernel
theorem dX4_listSplits_38 : decode cX4_listSplits 38 = .ok (.goto (-29), 3) := by decide +kernel
theorem dX4_listSplits_41 : decode cX4_listSplits 41 = .ok (.aload_n 0, 1) := by decide +kernel
theorem dX4_listSplits_42 : decode cX4_listSplits 42 = .ok (.getfield 18, 3) := by decide +kernel
theorem dX4_listSplits_45 : decode cX4_listSplits 45 = .ok (.iload_n 1, 1) := by decide +kernel
theorem dX4_listSplits_46 : decode cX4_listSplits 46 = .ok (.iload_n 3, 1) := by decide +kernel
theorem dX4_listSplits_47 : decode cX4_listSplits 47 = .ok (.iastore, 1) := by decide +kernel
theorem dX4_listSplits_48 : decode cX4_listSplits 48 = .ok (.return_, 1) := by decide +kernel
abbrev j4_listSplits : xJ := (cX4_listSplits, 4, RX4, 2, 0, 0)
def F4_listSplits_b41 (z : Nat) (x1 : Int32) (x3 : Int32) (c_fields : Int32) (c_forces : (Nat → Int32)) (c_many : (Nat → Int32)) (c_codes : (Nat → Nat → Int32)) : Option ((Nat → Int32) × (Nat → Nat → Int32)) :=
  xg (xin x1 2) (some ((upd c_many (xn x1) x3), c_codes))
theorem T4_listSplits_b41 {X : xX} {c_ties : Int32} {c_worth : (Nat → Int32)} {c_b_list : (Nat → Nat → Int32)} {c_b_many : (Nat → Int32)} {c_p_list : (Nat → Nat → Int32)} {c_p_weights : (Nat → Nat → Int32)} {c_p_drawn : (Nat → Nat → Int32)} {c_p_many : (Nat → Int32)} {c_p_all : (Nat → Int32)} {c_p_turns : (Nat → Int32)} {x1 : Int32} {x3 : Int32} {c_fields : Int32} {c_forces : (Nat → Int32)} {c_many : (Nat → Int32)} {c_codes : (Nat → Nat → Int32)} {z : Nat} {v : (Nat → Int32) × (Nat → Nat → Int32)} (hX : xIs (j4_listSplits) X none none (hS c_fields c_ties c_worth c_forces v.1 v.2 c_b_list c_b_many c_p_list c_p_weights c_p_drawn c_p_many c_p_all c_p_turns)) (hf : F4_listSplits_b41 z x1 x3 c_fields c_forces c_many c_codes = some v) : xV (j4_listSplits) X 0 0 (hS c_fields c_ties c_worth c_forces c_many c_codes c_b_list c_b_many c_p_list c_p_weights c_p_drawn c_p_many c_p_all c_p_turns) 41 [(0, .ref 0), (1, .int x1), (3, .int x3)] [] := by
  unfold F4_listSplits_b41 at hf
  refine xV_aload_n 42 rfl dX4_listSplits_41 rfl 0 rfl ?_
  refine xV_get (v := .ref 3) 45 rfl dX4_listSplits_42 f4_18 rfl rfl ?_
  refine xV_iload_n 46 rfl dX4_listSplits_45 rfl 1 rfl ?_
  refine xV_iload_n 47 rfl dX4_listSplits_46 rfl 2 rfl ?_
  obtain ⟨hg47, hf⟩ := xg_s hf
  refine xV_iastore (h' := (hS c_fields c_ties c_worth c_forces (upd c_many (xn x1) x3) c_codes c_b_list c_b_many c_p_list c_p_weights c_p_drawn c_p_many c_p_all c_p_turns)) (j := (xn x1)) 48 rfl dX4_listSplits_47 rfl (xin_ok hg47) rfl rfl ?_
  obtain rfl := Option.some.inj hf
  exact xV_vret hX dX4_listSplits_48 (Nat.zero_le _) (Nat.zero_le _)
def F4_listSplits_b9 (z : Nat) (w : Nat) (x1 : Int32) (x2 : Int32) (x3 : Int32) (c_fields : Int32) (c_forces : (Nat → Int32)) (c_many : (Nat → Int32)) (c_codes : (Nat → Nat → Int32)) : Option ((Nat → Int32) × (Nat → Nat → Int32)) := match w with
  | 0 => none
  | w + 1 => if (120 : Int32) ≤ x3 then (F4_listSplits_b41 z x1 x3 c_fields c_forces c_many c_codes) else (if x2 = (-1 : Int32) then (F4_listSplits_b41 z x1 x3 c_fields c_forces c_many c_codes) else (xg (xin x1 2) (xg (xin x3 120) ((F4_following z x2 c_fields).bind (fun v31 => F4_listSplits_b9 z w x1 v31 (x3 + (1 : Int32)) c_fields c_forces c_many (va_up c_codes (xn x1) (upd (c_codes (xn x1)) (xn x3) x2)))))))
theorem T4_listSplits_b9 {X : xX} {c_fields : Int32} {c_ties : Int32} {c_worth : (Nat → Int32)} {c_forces : (Nat → Int32)} {c_b_list : (Nat → Nat → Int32)} {c_b_many : (Nat → Int32)} {c_p_list : (Nat → Nat → Int32)} {c_p_weights : (Nat → Nat → Int32)} {c_p_drawn : (Nat → Nat → Int32)} {c_p_many : (Nat → Int32)} {c_p_all : (Nat → Int32)} {c_p_turns : (Nat → Int32)} {z : Nat} {v : (Nat → Int32) × (Nat → Nat → Int32)} (hX : xIs (j4_listSplits) X none none (hS c_fields c_ties c_worth c_forces v.1 v.2 c_b_list c_b_many c_p_list c_p_weights c_p_drawn c_p_many c_p_all c_p_turns)) : ∀ (w : Nat) {x1 : Int32} {x2 : Int32} {x3 : Int32} {c_many : (Nat → Int32)} {c_codes : (Nat → Nat → Int32)}, F4_listSplits_b9 z w x1 x2 x3 c_fields c_forces c_many c_codes = some v → xV (j4_listSplits) X 0 0 (hS c_fields c_ties c_worth c_forces c_many c_codes c_b_list c_b_many c_p_list c_p_weights c_p_drawn c_p_many c_p_all c_p_turns) 9 [(0, .ref 0), (1, .int x1), (2, .int x2), (3, .int x3)] [] := by
  intro w
  induction w with
  | zero => intro x1 x2 x3 c_many c_codes hf; cases hf
  | succ w ih =>
    intro x1 x2 x3 c_many c_codes hf
    unfold F4_listSplits_b9 at hf
    refine xV_iload_n 10 rfl dX4_listSplits_9 rfl 3 rfl ?_
    refine xV_bipush 12 rfl dX4_listSplits_10 xy_b120 ?_
    refine xV_icmp_ge (tgt := 41) 15 rfl dX4_listSplits_12 (by decide) (fun h12 => ?_) (fun h12 => ?_)
    · have hf := xif_t hf h12
      refine xV_sub [0, 1, 3] rfl ?_
      exact T4_listSplits_b41 hX hf
    · have hf := xif_f hf h12
      refine xV_iload_n 16 rfl dX4_listSplits_15 rfl 2 rfl ?_
      refine xV_iconst 17 rfl dX4_listSplits_16 xy_im1 ?_
      refine xV_icmp_eq (tgt := 41) 20 rfl dX4_listSplits_17 (by decide) (fun h17 => ?_) (fun h17 => ?_)
      · have hf := xif_t hf h17
        refine xV_sub [0, 1, 3] rfl ?_
        exact T4_listSplits_b41 hX hf
      · have hf := xif_f hf h17
        refine xV_aload_n 21 rfl dX4_listSplits_20 rfl 0 rfl ?_
        refine xV_get (v := .ref 4) 24 rfl dX4_listSplits_21 f4_23 rfl rfl ?_
        refine xV_iload_n 25 rfl dX4_listSplits_24 rfl 1 rfl ?_
        obtain ⟨hg25, hf⟩ := xg_s hf
        refine xV_aaload (b := (5 + (xn x1))) 26 rfl dX4_listSplits_25 rfl rfl rfl (xin_ok hg25) (by show ([5, 6] : List Nat)[(xn x1)]? = some (5 + (xn x1)); have hi := xin_lt hg25; generalize (xn x1) = i at hi ⊢; match i, hi with | 0, _ => rfl | 1, _ => rfl) ?_
        refine xV_iload_n 27 rfl dX4_listSplits_26 rfl 3 rfl ?_
        refine xV_iload_n 28 rfl dX4_listSplits_27 rfl 2 rfl ?_
        obtain ⟨hg28, hf⟩ := xg_s hf
        refine xV_iastore (f := (c_codes (xn x1))) (z := 120) (h' := (hS c_fields c_ties c_worth c_forces c_many (va_up c_codes (xn x1) (upd (c_codes (xn x1)) (xn x3) x2)) c_b_list c_b_many c_p_list c_p_weights c_p_drawn c_p_many c_p_all c_p_turns)) (j := (xn x3)) 29 rfl dX4_listSplits_28 (by have hi := (xin_lt hg25); generalize (xn x1) = i at hi ⊢; match i, hi with | 0, _ => exact rfl | 1, _ => exact rfl) (xin_ok hg28) rfl (by have hi := (xin_lt hg25); generalize (xn x1) = i at hi ⊢; match i, hi with | 0, _ => exact rfl | 1, _ => exact rfl) ?_
        refine xV_aload_n 30 rfl dX4_listSplits_29 rfl 0 rfl ?_
        refine xV_iload_n 31 rfl dX4_listSplits_30 rfl 2 rfl ?_
        obtain ⟨v31, hv31, hf⟩ := xb_s hf
        refine xV_same (rest := []) 34 rfl dX4_listSplits_31 rfl (C4_following X.1.2.1 hv31) m4_following v4_following k4_69 rfl rfl rfl rfl rfl (Nat.le_of_ble_eq_true rfl) (Nat.le_of_ble_eq_true rfl) (Nat.le_of_ble_eq_true rfl) ⟨Nat.le_refl _, Nat.le_refl _⟩ ?_
        show xV (j4_listSplits) X 0 0 (hS c_fields c_ties c_worth c_forces c_many (va_up c_codes (xn x1) (upd (c_codes (xn x1)) (xn x3) x2)) c_b_list c_b_many c_p_list c_p_weights c_p_drawn c_p_many c_p_all c_p_turns) 34 [(0, .ref 0), (1, .int x1), (2, .int x2), (3, .int x3)] [.int v31]
        refine xV_istore_n (L' := [(2, .int v31), (0, .ref 0), (1, .int x1), (3, .int x3)]) 35 rfl dX4_listSplits_34 rfl (xlt rfl) rfl ?_
        refine xV_iinc (L' := [(3, .int (x3 + (1 : Int32))), (2, .int v31), (0, .ref 0), (1, .int x1)]) 38 rfl dX4_listSplits_35 3 rfl (xk_inc xy_i1) (xlt rfl) rfl ?_
        refine xV_goto (tgt := 9) dX4_listSplits_38 (by decide) ?_
        refine xV_sub [2, 3, 1, 0] rfl ?_
        exact ih hf
def F4_listSplits (z : Nat) (x1 : Int32) (c_fields : Int32) (c_forces : (Nat → Int32)) (c_many : (Nat → Int32)) (c_codes : (Nat → Nat → Int32)) : Option ((Nat → Int32) × (Nat → Nat → Int32)) :=
  xg (xin x1 2) (F4_listSplits_b9 z z x1 (c_forces (xn x1)) (0 : Int32) c_fields c_forces c_many c_codes)
theorem T4_listSplits {X : xX} {z : Nat} {x1 : Int32} {c_fields : Int32} {c_forces : (Nat → Int32)} {c_many : (Nat → Int32)} {c_codes : (Nat → Nat → Int32)} {c_ties : Int32} {c_worth : (Nat → Int32)} {c_b_list : (Nat → Nat → Int32)} {c_b_many : (Nat → Int32)} {c_p_list : (Nat → Nat → Int32)} {c_p_weights : (Nat → Nat → Int32)} {c_p_drawn : (Nat → Nat → Int32)} {c_p_many : (Nat → Int32)} {c_p_all : (Nat → Int32)} {c_p_turns : (Nat → Int32)} {v : (Nat → Int32) × (Nat → Nat → Int32)} (hX : xIs (j4_listSplits) X none none (hS c_fields c_ties c_worth c_forces v.1 v.2 c_b_list c_b_many c_p_list c_p_weights c_p_drawn c_p_many c_p_all c_p_turns)) (hf : F4_listSplits z x1 c_fields c_forces c_many c_codes = some v) : xV (j4_listSplits) X 0 0 (hS c_fields c_ties c_worth c_forces c_many c_codes c_b_list c_b_many c_p_list c_p_weights c_p_drawn c_p_many c_p_all c_p_turns) 0 [(0, .ref 0), (1, .int x1)] [] := by
  unfold F4_listSplits at hf
  refine xV_aload_n 1 rfl dX4_listSplits_0 rfl 0 rfl ?_
  refine xV_get (v := .ref 2) 4 rfl dX4_listSplits_1 f4_15 rfl rfl ?_
  refine xV_iload_n 5 rfl dX4_listSplits_4 rfl 1 rfl ?_
  obtain ⟨hg5, hf⟩ := xg_s hf
  refine xV_iaload 6 rfl dX4_listSplits_5 rfl (xin_ok hg5) rfl ?_
  refine xV_istore_n (L' := [(2, .int (c_forces (xn x1))), (0, .ref 0), (1, .int x1)]) 7 rfl dX4_listSplits_6 rfl (xlt rfl) rfl ?_
  refine xV_iconst 8 rfl dX4_listSplits_7 xy_i0 ?_
  refine xV_istore_n (L' := [(3, .int (0 : Int32)), (2, .int (c_forces (xn x1))), (0, .ref 0), (1, .int x1)]) 9 rfl dX4_listSplits_8 rfl (xlt rfl) rfl ?_
  refine xV_sub [2, 3, 1, 0] rfl ?_
  exact T4_listSplits_b9 hX _ hf
theorem C4_listSplits (l : Launch) {z : Nat} {x1 : Int32} {c_fields : Int32} {c_forces : (Nat → Int32)} {c_many : (Nat → Int32)} {c_codes : (Nat → Nat → Int32)} {c_ties : Int32} {c_worth : (Nat → Int32)} {c_b_list : (Nat → Nat → Int32)} {c_b_many : (Nat → Int32)} {c_p_list : (Nat → Nat → Int32)} {c_p_weights : (Nat → Nat → Int32)} {c_p_drawn : (Nat → Nat → Int32)} {c_p_many : (Nat → Int32)} {c_p_all : (Nat → Int32)} {c_p_turns : (Nat → Int32)} {v : (Nat → Int32) × (Nat → Nat → Int32)} (hf : F4_listSplits z x1 c_fields c_forces c_many c_codes = some v) : xCt l yX4_listSplits none j4_listSplits [.ref 0, .int x1] (hS c_fields c_ties c_worth c_forces c_many c_codes c_b_list c_b_many c_p_list c_p_weights c_p_drawn c_p_many c_p_all c_p_turns) none (hS c_fields c_ties c_worth c_forces v.1 v.2 c_b_list c_b_many c_p_list c_p_weights c_p_drawn c_p_many c_p_all c_p_turns) := xCt_of (by decide) rfl (Nat.le_of_ble_eq_true rfl) (fun _ hX => T4_listSplits hX hf)
theorem m4_listSplits : xMd yX4_listSplits RX4 none j4_listSplits 1 := ⟨List.mem_of_getElem? (i := 71) (by decide +kernel), List.mem_of_getElem? (i := 15) (by decide +kernel), rfl, by decide +kernel⟩
theorem v4_listSplits : xMv yX4_listSplits RX4 := ⟨List.mem_of_getElem? (i := 69) (by decide +kernel), List.mem_of_getElem? (i := 70) (by decide +kernel)⟩
theorem xy_in0_2 : vp_in (0 : Int32) 2 := xin_ok (by decide)
theorem nf4_0 : ∀ q : vw_C, vwCl[4]? = some q → (q.2.1 0).2.2.2 = false := fun q e => by cases e; rfl
theorem f4_48 : xFl RX4 48 4 1 := ⟨_, rfl, by decide, List.mem_of_getElem? (i := 200) (by decide +kernel)⟩
theorem nf4_1 : ∀ q : vw_C, vwCl[4]? = some q → (q.2.1 1).2.2.2 = false := fun q e => by cases e; rfl
theorem f4_9 : xFl RX4 9 4 2 := ⟨_, rfl, by decide, List.mem_of_getElem? (i := 44) (by decide +kernel)⟩
theorem k4_51 : Cond.methodLink RX4 51 arraycopyName ∈ wsL_law0 := List.mem_of_getElem? (i := 201) (by decide +kernel)
theorem f4_28 : xFl RX4 28 4 6 := ⟨_, rfl, by decide, List.mem_of_getElem? (i := 50) (by decide +kernel)⟩
theorem k4_57 : Cond.methodLink RX4 57 yX0_copyFrom ∈ wsL_law0 := List.mem_of_getElem? (i := 205) (by decide +kernel)
theorem f4_34 : xFl RX4 34 4 7 := ⟨_, rfl, by decide, List.mem_of_getElem? (i := 52) (by decide +kernel)⟩
theorem k4_61 : Cond.methodLink RX4 61 yX3_copyFrom ∈ wsL_law0 := List.mem_of_getElem? (i := 211) (by decide +kernel)
theorem e_SS_BB_F1_F4 {c_fields : Int32} {c_ties : Int32} {c_worth : (Nat → Int32)} {c_forces : (Nat → Int32)} {c_many : (Nat → Int32)} {c_codes : (Nat → Nat → Int32)} {c_b_list : (Nat → Nat → Int32)} {c_b_many : (Nat → Int32)} {c_p_list : (Nat → Nat → Int32)} {c_p_weights : (Nat → Nat → Int32)} {c_p_drawn : (Nat → Nat → Int32)} {c_p_many : (Nat → Int32)} {c_p_all : (Nat → Int32)} {c_p_turns : (Nat → Int32)} {c_o_fields : Int32} {c_o_ties : Int32} {c_o_worth : (Nat → Int32)} {c_o_forces : (Nat → Int32)} {c_o_many : (Nat → Int32)} {c_o_codes : (Nat → Nat → Int32)} {c_o_b_list : (Nat → Nat → Int32)} {c_o_b_many : (Nat → Int32)} {c_o_p_list : (Nat → Nat → Int32)} {c_o_p_weights : (Nat → Nat → Int32)} {c_o_p_drawn : (Nat → Nat → Int32)} {c_o_p_many : (Nat → Int32)} {c_o_p_all : (Nat → Int32)} {c_o_p_turns : (Nat → Int32)} {d_list : (Nat → Int32)} {d_many : Int32} {d_o_list : (Nat → Int32)} {d_o_many : Int32} {i : Nat} (hi : i < 2) {e_b_list : (Nat → Nat → Int32)} {e_b_many : (Nat → Int32)} {e_o_b_list : (Nat → Nat → Int32)} {e_o_b_many : (Nat → Int32)} (q_b_list : e_b_list = va_up c_b_list i d_list) (q_b_many : e_b_many = va_up c_b_many i d_many) (q_o_b_list : e_o_b_list = va_up c_o_b_list i d_o_list) (q_o_b_many : e_o_b_many = va_up c_o_b_many i d_o_many) : xEmb (fun j => if j < 2 then (8 + 2 * i) + j else (29 + 2 * i) + (j - 2)) (hBB (c_b_list i) (c_b_many i) (c_o_b_list i) (c_o_b_many i)) (hBB d_list d_many d_o_list d_o_many) (hSS c_fields c_ties c_worth c_forces c_many c_codes c_b_list c_b_many c_p_list c_p_weights c_p_drawn c_p_many c_p_all c_p_turns c_o_fields c_o_ties c_o_worth c_o_forces c_o_many c_o_codes c_o_b_list c_o_b_many c_o_p_list c_o_p_weights c_o_p_drawn c_o_p_many c_o_p_all c_o_p_turns) (hSS c_fields c_ties c_worth c_forces c_many c_codes e_b_list e_b_many c_p_list c_p_weights c_p_drawn c_p_many c_p_all c_p_turns c_o_fields c_o_ties c_o_worth c_o_forces c_o_many c_o_codes e_o_b_list e_o_b_many c_o_p_list c_o_p_weights c_o_p_drawn c_o_p_many c_o_p_all c_o_p_turns) 0 := by
  subst q_b_list
  subst q_b_many
  subst q_o_b_list
  subst q_o_b_many
  match i, hi with
  | 0, _ => exact ⟨by show xNd _ 4 = true; decide +kernel, And.intro hSS_8 (And.intro hSS_9 (And.intro hSS_29 (And.intro hSS_30 (trivial)))), And.intro hSS_8 (And.intro hSS_9 (And.intro hSS_29 (And.intro hSS_30 (trivial)))), ⟨[0, 1, 2, 3, 4, 5, 6, 7, 10, 11, 12, 13, 14, 15, 16, 17, 18, 19, 20, 21, 22, 23, 24, 25, 26, 27, 28, 31, 32, 33, 34, 35, 36, 37, 38, 39, 40, 41], And.intro (xeq3 hSS_0 hSS_0 rfl) (And.intro (xeq3 hSS_1 hSS_1 rfl) (And.intro (xeq3 hSS_2 hSS_2 rfl) (And.intro (xeq3 hSS_3 hSS_3 rfl) (And.intro (xeq3 hSS_4 hSS_4 rfl) (And.intro (xeq3 hSS_5 hSS_5 rfl) (And.intro (xeq3 hSS_6 hSS_6 rfl) (And.intro (xeq3 hSS_7 hSS_7 rfl) (And.intro (xeq3 hSS_10 hSS_10 rfl) (And.intro (xeq3 hSS_11 hSS_11 rfl) (And.intro (xeq3 hSS_12 hSS_12 rfl) (And.intro (xeq3 hSS_13 hSS_13 rfl) (And.intro (xeq3 hSS_14 hSS_14 rfl) (And.intro (xeq3 hSS_15 hSS_15 rfl) (And.intro (xeq3 hSS_16 hSS_16 rfl) (And.intro (xeq3 hSS_17 hSS_17 rfl) (And.intro (xeq3 hSS_18 hSS_18 rfl) (And.intro (xeq3 hSS_19 hSS_19 rfl) (And.intro (xeq3 hSS_20 hSS_20 rfl) (And.intro (xeq3 hSS_21 hSS_21 rfl) (And.intro (xeq3 hSS_22 hSS_22 rfl) (And.intro (xeq3 hSS_23 hSS_23 rfl) (And.intro (xeq3 hSS_24 hSS_24 rfl) (And.intro (xeq3 hSS_25 hSS_25 rfl) (And.intro (xeq3 hSS_26 hSS_26 rfl) (And.intro (xeq3 hSS_27 hSS_27 rfl) (And.intro (xeq3 hSS_28 hSS_28 rfl) (And.intro (xeq3 hSS_31 hSS_31 rfl) (And.intro (xeq3 hSS_32 hSS_32 rfl) (And.intro (xeq3 hSS_33 hSS_33 rfl) (And.intro (xeq3 hSS_34 hSS_34 rfl) (And.intro (xeq3 hSS_35 hSS_35 rfl) (And.intro (xeq3 hSS_36 hSS_36 rfl) (And.intro (xeq3 hSS_37 hSS_37 rfl) (And.intro (xeq3 hSS_38 hSS_38 rfl) (And.intro (xeq3 hSS_39 hSS_39 rfl) (And.intro (xeq3 hSS_40 hSS_40 rfl) (And.intro (xeq3 hSS_41 hSS_41 rfl) (trivial)))))))))))))))))))))))))))))))))))))), by show xCov _ 4 _ 42 = true; decide +kernel⟩, rfl, ⟨_, hSS_8⟩⟩
  | 1, _ => exact ⟨by show xNd _ 4 = true; decide +kernel, And.intro hSS_10 (And.intro hSS_11 (And.intro hSS_31 (And.intro hSS_32 (trivial)))), And.intro hSS_10 (And.intro hSS_11 (And.intro hSS_31 (And.intro hSS_32 (trivial)))), ⟨[0, 1, 2, 3, 4, 5, 6, 7, 8, 9, 12, 13, 14, 15, 16, 17, 18, 19, 20, 21, 22, 23, 24, 25, 26, 27, 28, 29, 30, 33, 34, 35, 36, 37, 38, 39, 40, 41], And.intro (xeq3 hSS_0 hSS_0 rfl) (And.intro (xeq3 hSS_1 hSS_1 rfl) (And.intro (xeq3 hSS_2 hSS_2 rfl) (And.intro (xeq3 hSS_3 hSS_3 rfl) (And.intro (xeq3 hSS_4 hSS_4 rfl) (And.intro (xeq3 hSS_5 hSS_5 rfl) (And.intro (xeq3 hSS_6 hSS_6 rfl) (And.intro (xeq3 hSS_7 hSS_7 rfl) (And.intro (xeq3 hSS_8 hSS_8 rfl) (And.intro (xeq3 hSS_9 hSS_9 rfl) (And.intro (xeq3 hSS_12 hSS_12 rfl) (And.intro (xeq3 hSS_13 hSS_13 rfl) (And.intro (xeq3 hSS_14 hSS_14 rfl) (And.intro (xeq3 hSS_15 hSS_15 rfl) (And.intro (xeq3 hSS_16 hSS_16 rfl) (And.intro (xeq3 hSS_17 hSS_17 rfl) (And.intro (xeq3 hSS_18 hSS_18 rfl) (And.intro (xeq3 hSS_19 hSS_19 rfl) (And.intro (xeq3 hSS_20 hSS_20 rfl) (And.intro (xeq3 hSS_21 hSS_21 rfl) (And.intro (xeq3 hSS_22 hSS_22 rfl) (And.intro (xeq3 hSS_23 hSS_23 rfl) (And.intro (xeq3 hSS_24 hSS_24 rfl) (And.intro (xeq3 hSS_25 hSS_25 rfl) (And.intro (xeq3 hSS_26 hSS_26 rfl) (And.intro (xeq3 hSS_27 hSS_27 rfl) (And.intro (xeq3 hSS_28 hSS_28 rfl) (And.intro (xeq3 hSS_29 hSS_29 rfl) (And.intro (xeq3 hSS_30 hSS_30 rfl) (And.intro (xeq3 hSS_33 hSS_33 rfl) (And.intro (xeq3 hSS_34 hSS_34 rfl) (And.intro (xeq3 hSS_35 hSS_35 rfl) (And.intro (xeq3 hSS_36 hSS_36 rfl) (And.intro (xeq3 hSS_37 hSS_37 rfl) (And.intro (xeq3 hSS_38 hSS_38 rfl) (And.intro (xeq3 hSS_39 hSS_39 rfl) (And.intro (xeq3 hSS_40 hSS_40 rfl) (And.intro (xeq3 hSS_41 hSS_41 rfl) (trivial)))))))))))))))))))))))))))))))))))))), by show xCov _ 4 _ 42 = true; decide +kernel⟩, rfl, ⟨_, hSS_10⟩⟩
theorem e_SS_PP_F2_F5 {c_fields : Int32} {c_ties : Int32} {c_worth : (Nat → Int32)} {c_forces : (Nat → Int32)} {c_many : (Nat → Int32)} {c_codes : (Nat → Nat → Int32)} {c_b_list : (Nat → Nat → Int32)} {c_b_many : (Nat → Int32)} {c_p_list : (Nat → Nat → Int32)} {c_p_weights : (Nat → Nat → Int32)} {c_p_drawn : (Nat → Nat → Int32)} {c_p_many : (Nat → Int32)} {c_p_all : (Nat → Int32)} {c_p_turns : (Nat → Int32)} {c_o_fields : Int32} {c_o_ties : Int32} {c_o_worth : (Nat → Int32)} {c_o_forces : (Nat → Int32)} {c_o_many : (Nat → Int32)} {c_o_codes : (Nat → Nat → Int32)} {c_o_b_list : (Nat → Nat → Int32)} {c_o_b_many : (Nat → Int32)} {c_o_p_list : (Nat → Nat → Int32)} {c_o_p_weights : (Nat → Nat → Int32)} {c_o_p_drawn : (Nat → Nat → Int32)} {c_o_p_many : (Nat → Int32)} {c_o_p_all : (Nat → Int32)} {c_o_p_turns : (Nat → Int32)} {d_list : (Nat → Int32)} {d_weights : (Nat → Int32)} {d_drawn : (Nat → Int32)} {d_many : Int32} {d_all : Int32} {d_turns : Int32} {d_o_list : (Nat → Int32)} {d_o_weights : (Nat → Int32)} {d_o_drawn : (Nat → Int32)} {d_o_many : Int32} {d_o_all : Int32} {d_o_turns : Int32} {i : Nat} (hi : i < 2) {e_p_list : (Nat → Nat → Int32)} {e_p_weights : (Nat → Nat → Int32)} {e_p_drawn : (Nat → Nat → Int32)} {e_p_many : (Nat → Int32)} {e_p_all : (Nat → Int32)} {e_p_turns : (Nat → Int32)} {e_o_p_list : (Nat → Nat → Int32)} {e_o_p_weights : (Nat → Nat → Int32)} {e_o_p_drawn : (Nat → Nat → Int32)} {e_o_p_many : (Nat → Int32)} {e_o_p_all : (Nat → Int32)} {e_o_p_turns : (Nat → Int32)} (q_p_list : e_p_list = va_up c_p_list i d_list) (q_p_weights : e_p_weights = va_up c_p_weights i d_weights) (q_p_drawn : e_p_drawn = va_up c_p_drawn i d_drawn) (q_p_many : e_p_many = va_up c_p_many i d_many) (q_p_all : e_p_all = va_up c_p_all i d_all) (q_p_turns : e_p_turns = va_up c_p_turns i d_turns) (q_o_p_list : e_o_p_list = va_up c_o_p_list i d_o_list) (q_o_p_weights : e_o_p_weights = va_up c_o_p_weights i d_o_weights) (q_o_p_drawn : e_o_p_drawn = va_up c_o_p_drawn i d_o_drawn) (q_o_p_many : e_o_p_many = va_up c_o_p_many i d_o_many) (q_o_p_all : e_o_p_all = va_up c_o_p_all i d_o_all) (q_o_p_turns : e_o_p_turns = va_up c_o_p_turns i d_o_turns) : xEmb (fun j => if j < 4 then (13 + 4 * i) + j else (34 + 4 * i) + (j - 4)) (hPP (c_p_list i) (c_p_weights i) (c_p_drawn i) (c_p_many i) (c_p_all i) (c_p_turns i) (c_o_p_list i) (c_o_p_weights i) (c_o_p_drawn i) (c_o_p_many i) (c_o_p_all i) (c_o_p_turns i)) (hPP d_list d_weights d_drawn d_many d_all d_turns d_o_list d_o_weights d_o_drawn d_o_many d_o_all d_o_turns) (hSS c_fields c_ties c_worth c_forces c_many c_codes c_b_list c_b_many c_p_list c_p_weights c_p_drawn c_p_many c_p_all c_p_turns c_o_fields c_o_ties c_o_worth c_o_forces c_o_many c_o_codes c_o_b_list c_o_b_many c_o_p_list c_o_p_weights c_o_p_drawn c_o_p_many c_o_p_all c_o_p_turns) (hSS c_fields c_ties c_worth c_forces c_many c_codes c_b_list c_b_many e_p_list e_p_weights e_p_drawn e_p_many e_p_all e_p_turns c_o_fields c_o_ties c_o_worth c_o_forces c_o_many c_o_codes c_o_b_list c_o_b_many e_o_p_list e_o_p_weights e_o_p_drawn e_o_p_many e_o_p_all e_o_p_turns) 3 := by
  subst q_p_list
  subst q_p_weights
  subst q_p_drawn
  subst q_p_many
  subst q_p_all
  subst q_p_turns
  subst q_o_p_list
  subst q_o_p_weights
  subst q_o_p_drawn
  subst q_o_p_many
  subst q_o_p_all
  subst q_o_p_turns
  match i, hi with
  | 0, _ => exact ⟨by show xNd _ 8 = true; decide +kernel, And.intro hSS_13 (And.intro hSS_14 (And.intro hSS_15 (And.intro hSS_16 (And.intro hSS_34 (And.intro hSS_35 (And.intro hSS_36 (And.intro hSS_37 (trivial)))))))), And.intro hSS_13 (And.intro hSS_14 (And.intro hSS_15 (And.intro hSS_16 (And.intro hSS_34 (And.intro hSS_35 (And.intro hSS_36 (And.intro hSS_37 (trivial)))))))), ⟨[0, 1, 2, 3, 4, 5, 6, 7, 8, 9, 10, 11, 12, 17, 18, 19, 20, 21, 22, 23, 24, 25, 26, 27, 28, 29, 30, 31, 32, 33, 38, 39, 40, 41], And.intro (xeq3 hSS_0 hSS_0 rfl) (And.intro (xeq3 hSS_1 hSS_1 rfl) (And.intro (xeq3 hSS_2 hSS_2 rfl) (And.intro (xeq3 hSS_3 hSS_3 rfl) (And.intro (xeq3 hSS_4 hSS_4 rfl) (And.intro (xeq3 hSS_5 hSS_5 rfl) (And.intro (xeq3 hSS_6 hSS_6 rfl) (And.intro (xeq3 hSS_7 hSS_7 rfl) (And.intro (xeq3 hSS_8 hSS_8 rfl) (And.intro (xeq3 hSS_9 hSS_9 rfl) (And.intro (xeq3 hSS_10 hSS_10 rfl) (And.intro (xeq3 hSS_11 hSS_11 rfl) (And.intro (xeq3 hSS_12 hSS_12 rfl) (And.intro (xeq3 hSS_17 hSS_17 rfl) (And.intro (xeq3 hSS_18 hSS_18 rfl) (And.intro (xeq3 hSS_19 hSS_19 rfl) (And.intro (xeq3 hSS_20 hSS_20 rfl) (And.intro (xeq3 hSS_21 hSS_21 rfl) (And.intro (xeq3 hSS_22 hSS_22 rfl) (And.intro (xeq3 hSS_23 hSS_23 rfl) (And.intro (xeq3 hSS_24 hSS_24 rfl) (And.intro (xeq3 hSS_25 hSS_25 rfl) (And.intro (xeq3 hSS_26 hSS_26 rfl) (And.intro (xeq3 hSS_27 hSS_27 rfl) (And.intro (xeq3 hSS_28 hSS_28 rfl) (And.intro (xeq3 hSS_29 hSS_29 rfl) (And.intro (xeq3 hSS_30 hSS_30 rfl) (And.intro (xeq3 hSS_31 hSS_31 rfl) (And.intro (xeq3 hSS_32 hSS_32 rfl) (And.intro (xeq3 hSS_33 hSS_33 rfl) (And.intro (xeq3 hSS_38 hSS_38 rfl) (And.intro (xeq3 hSS_39 hSS_39 rfl) (And.intro (xeq3 hSS_40 hSS_40 rfl) (And.intro (xeq3 hSS_41 hSS_41 rfl) (trivial)))))))))))))))))))))))))))))))))), by show xCov _ 8 _ 42 = true; decide +kernel⟩, rfl, ⟨_, hSS_13⟩⟩
  | 1, _ => exact ⟨by show xNd _ 8 = true; decide +kernel, And.intro hSS_17 (And.intro hSS_18 (And.intro hSS_19 (And.intro hSS_20 (And.intro hSS_38 (And.intro hSS_39 (And.intro hSS_40 (And.intro hSS_41 (trivial)))))))), And.intro hSS_17 (And.intro hSS_18 (And.intro hSS_19 (And.intro hSS_20 (And.intro hSS_38 (And.intro hSS_39 (And.intro hSS_40 (And.intro hSS_41 (trivial)))))))), ⟨[0, 1, 2, 3, 4, 5, 6, 7, 8, 9, 10, 11, 12, 13, 14, 15, 16, 21, 22, 23, 24, 25, 26, 27, 28, 29, 30, 31, 32, 33, 34, 35, 36, 37], And.intro (xeq3 hSS_0 hSS_0 rfl) (And.intro (xeq3 hSS_1 hSS_1 rfl) (And.intro (xeq3 hSS_2 hSS_2 rfl) (And.intro (xeq3 hSS_3 hSS_3 rfl) (And.intro (xeq3 hSS_4 hSS_4 rfl) (And.intro (xeq3 hSS_5 hSS_5 rfl) (And.intro (xeq3 hSS_6 hSS_6 rfl) (And.intro (xeq3 hSS_7 hSS_7 rfl) (And.intro (xeq3 hSS_8 hSS_8 rfl) (And.intro (xeq3 hSS_9 hSS_9 rfl) (And.intro (xeq3 hSS_10 hSS_10 rfl) (And.intro (xeq3 hSS_11 hSS_11 rfl) (And.intro (xeq3 hSS_12 hSS_12 rfl) (And.intro (xeq3 hSS_13 hSS_13 rfl) (And.intro (xeq3 hSS_14 hSS_14 rfl) (And.intro (xeq3 hSS_15 hSS_15 rfl) (And.intro (xeq3 hSS_16 hSS_16 rfl) (And.intro (xeq3 hSS_21 hSS_21 rfl) (And.intro (xeq3 hSS_22 hSS_22 rfl) (And.intro (xeq3 hSS_23 hSS_23 rfl) (And.intro (xeq3 hSS_24 hSS_24 rfl) (And.intro (xeq3 hSS_25 hSS_25 rfl) (And.intro (xeq3 hSS_26 hSS_26 rfl) (And.intro (xeq3 hSS_27 hSS_27 rfl) (And.intro (xeq3 hSS_28 hSS_28 rfl) (And.intro (xeq3 hSS_29 hSS_29 rfl) (And.intro (xeq3 hSS_30 hSS_30 rfl) (And.intro (xeq3 hSS_31 hSS_31 rfl) (And.intro (xeq3 hSS_32 hSS_32 rfl) (And.intro (xeq3 hSS_33 hSS_33 rfl) (And.intro (xeq3 hSS_34 hSS_34 rfl) (And.intro (xeq3 hSS_35 hSS_35 rfl) (And.intro (xeq3 hSS_36 hSS_36 rfl) (And.intro (xeq3 hSS_37 hSS_37 rfl) (trivial)))))))))))))))))))))))))))))))))), by show xCov _ 8 _ 42 = true; decide +kernel⟩, rfl, ⟨_, hSS_17⟩⟩
theorem dX4_copyFrom_0 : decode cX4_copyFrom 0 = .ok (.aload_n 0, 1) := by decide +kernel
theorem dX4_copyFrom_1 : decode cX4_copyFrom 1 = .ok (.aload_n 1, 1) := by decide +kernel
theorem dX4_copyFrom_2 : decode cX4_copyFrom 2 = .ok (.getfield 38, 3) := by decide +kernel
theorem dX4_copyFrom_5 : decode cX4_copyFrom 5 = .ok (.putfield 38, 3) := by decide +kernel
theorem dX4_copyFrom_8 : decode cX4_copyFrom 8 = .ok (.aload_n 0, 1) := by decide +kernel
theorem dX4_copyFrom_9 : decode cX4_copyFrom 9 = .ok (.aload_n 1, 1) := by decide +kernel
theorem dX4_copyFrom_10 : decode cX4_copyFrom 10 = .ok (.getfield 48, 3) := by decide +kernel
theorem dX4_copyFrom_13 : decode cX4_copyFrom 13 = .ok (.putfield 48, 3) := by decide +kernel
theorem dX4_copyFrom_16 : decode cX4_copyFrom 16 = .ok (.aload_n 1, 1) := by decide +kernel
theorem dX4_copyFrom_17 : decode cX4_copyFrom 17 = .ok (.getfield 9, 3) := by decide +kernel
theorem dX4_copyFrom_20 : decode cX4_copyFrom 20 = .ok (.iconst 0, 1) := by decide +kernel
theorem dX4_copyFrom_21 : decode cX4_copyFrom 21 = .ok (.aload_n 0, 1) := by decide +kernel
theorem dX4_copyFrom_22 : decode cX4_copyFrom 22 = .ok (.getfield 9, 3) := by decide +kernel
theorem dX4_copyFrom_25 : decode cX4_copyFrom 25 = .ok (.iconst 0, 1) := by decide +kernel
theorem dX4_copyFrom_26 : decode cX4_copyFrom 26 = .ok (.iconst 4, 1) := by decide +kernel
theorem dX4_copyFrom_27 : decode cX4_copyFrom 27 = .ok (.invokestatic 51, 3) := by decide +kernel
theorem dX4_copyFrom_30 : decode cX4_copyFrom 30 = .ok (.iconst 0, 1) := by decide +kernel
theorem dX4_copyFrom_31 : decode cX4_copyFrom 31 = .ok (.istore_n 2, 1) := by decide +kernel
theorem dX4_copyFrom_32 : decode cX4_copyFrom 32 = .ok (.iload_n 2, 1) := by decide +kernel
theorem dX4_copyFrom_33 : decode cX4_copyFrom 33 = .ok (.iconst 2, 1) := by decide +kernel
theorem dX4_copyFrom_34 : decode cX4_copyFrom 34 = .ok (.if_icmp .ge 82, 3) := by decide +kernel
theorem dX4_copyFrom_37 : decode cX4_copyFrom 37 = .ok (.aload_n 0, 1) := by decide +kernel
theorem dX4_copyFrom_38 : decode cX4_copyFrom 38 = .ok (.getfield 15, 3) := by decide +kernel
theorem dX4_copyFrom_41 : decode cX4_copyFrom 41 = .ok (.iload_n 2, 1) := by decide +kernel
theorem dX4_copyFrom_42 : decode cX4_copyFrom 42 = .ok (.aload_n 1, 1) := by decide +kernel
theorem dX4_copyFrom_43 : decode cX4_copyFrom 43 = .ok (.getfield 15, 3) := by decide +kernel
theorem dX4_copyFrom_46 : decode cX4_copyFrom 46 = .ok (.iload_n 2, 1) := by decide +kernel
theorem dX4_copyFrom_47 : decode cX4_copyFrom 47 = .ok (.iaload, 1) := by decide +kernel
theorem dX4_copyFrom_48 : decode cX4_copyFrom 48 = .ok (.iastore, 1) := by decide +kernel
theorem dX4_copyFrom_49 : decode cX4_copyFrom 49 = .ok (.aload_n 0, 1) := by decide +kernel
theorem dX4_copyFrom_50 : decode cX4_copyFrom 50 = .ok (.getfield 18, 3) := by decide +kernel
theorem dX4_copyFrom_53 : decode cX4_copyFrom 53 = .ok (.iload_n 2, 1) := by decide +kernel
theorem dX4_copyFrom_54 : decode cX4_copyFrom 54 = .ok (.aload_n 1, 1) := by decide +kernel
theorem dX4_copyFrom_55 : decode cX4_copyFrom 55 = .ok (.getfield 18, 3) := by decide +kernel
theorem dX4_copyFrom_58 : decode cX4_copyFrom 58 = .ok (.iload_n 2, 1) := by decide +kernel
theorem dX4_copyFrom_59 : decode cX4_copyFrom 59 = .ok (.iaload, 1) := by decide +kernel
theorem dX4_copyFrom_60 : decode cX4_copyFrom 60 = .ok (.iastore, 1) := by decide +kernel
theorem dX4_copyFrom_61 : decode cX4_copyFrom 61 = .ok (.aload_n 1, 1) := by decide +kernel
theorem dX4_copyFrom_62 : decode cX4_copyFrom 62 = .ok (.getfield 23, 3) := by decide +kernel
theorem dX4_copyFrom_65 : decode cX4_copyFrom 65 = .ok (.iload_n 2, 1) := by decide +kernel
theorem dX4_copyFrom_66 : decode cX4_copyFrom 66 = .ok (.aaload, 1) := by decide +kernel
theorem dX4_copyFrom_67 : decode cX4_copyFrom 67 = .ok (.iconst 0, 1) := by decide +kernel
theorem dX4_copyFrom_68 : decode cX4_copyFrom 68 = .ok (.aload_n 0, 1) := by decide +kernel
theorem dX4_copyFrom_69 : decode cX4_copyFrom 69 = .ok (.getfield 23, 3) := by decide +kernel
theorem dX4_copyFrom_72 : decode cX4_copyFrom 72 = .ok (.iload_n 2, 1) := by decide +kernel
theorem dX4_copyFrom_73 : decode cX4_copyFrom 73 = .ok (.aaload, 1) := by decide +kernel
theorem dX4_copyFrom_74 : decode cX4_copyFrom 74 = .ok (.iconst 0, 1) := by decide +kernel
theorem dX4_copyFrom_75 : decode cX4_copyFrom 75 = .ok (.bipush 120, 2) := by decide +kernel
theorem dX4_copyFrom_77 : decode cX4_copyFrom 77 = .ok (.invokestatic 51, 3) := by decide +kernel
theorem dX4_copyFrom_80 : decode cX4_copyFrom 80 = .ok (.aload_n 0, 1) := by decide +kernel
theorem dX4_copyFrom_81 : decode cX4_copyFrom 81 = .ok (.getfield 28, 3) := by decide +kernel
theorem dX4_copyFrom_84 : decode cX4_copyFrom 84 = .ok (.iload_n 2, 1) := by decide +kernel
theorem dX4_copyFrom_85 : decode cX4_copyFrom 85 = .ok (.aaload, 1) := by decide +kernel
theorem dX4_copyFrom_86 : decode cX4_copyFrom 86 = .ok (.aload_n 1, 1) := by decide +kernel
theorem dX4_copyFrom_87 : decode cX4_copyFrom 87 = .ok (.getfield 28, 3) := by decide +kernel
theorem dX4_copyFrom_90 : decode cX4_copyFrom 90 = .ok (.iload_n 2, 1) := by decide +kernel
theorem dX4_copyFrom_91 : decode cX4_copyFrom 91 = .ok (.aaload, 1) := by decide +kernel
theorem dX4_copyFrom_92 : decode cX4_copyFrom 92 = .ok (.invokevirtual 57, 3) := by decide +kernel
theorem dX4_copyFrom_95 : decode cX4_copyFrom 95 = .ok (.aload_n 0, 1) := by decide +kernel
theorem dX4_copyFrom_96 : decode cX4_copyFrom 96 = .ok (.getfield 34, 3) := by decide +kernel
theorem dX4_copyFrom_99 : decode cX4_copyFrom 99 = .ok (.iload_n 2, 1) := by decide +kernel
theorem dX4_copyFrom_100 : decode cX4_copyFrom 100 = .ok (.aaload, 1) := by decide +kernel
theorem dX4_copyFrom_101 : decode cX4_copyFrom 101 = .ok (.aload_n 1, 1) := by decide +kernel
theorem dX4_copyFrom_102 : decode cX4_copyFrom 102 = .ok (.getfield 34, 3) := by decide +kernel
theorem dX4_copyFrom_105 : decode cX4_copyFrom 105 = .ok (.iload_n 2, 1) := by decide +kernel
theorem dX4_copyFrom_106 : decode cX4_copyFrom 106 = .ok (.aaload, 1) := by decide +kernel
theorem dX4_copyFrom_107 : decode cX4_copyFrom 107 = .ok (.invokevirtual 61, 3) := by decide +kernel
theorem dX4_copyFrom_110 : decode cX4_copyFrom 110 = .ok (.iinc 2 1, 3) := by decide +kernel
theorem dX4_copyFrom_113 : decode cX4_copyFrom 113 = .ok (.goto (-81), 3) := by decide +kernel
theorem dX4_copyFrom_116 : decode cX4_copyFrom 116 = .ok (.return_, 1) := by decide +kernel
abbrev j4_copyFrom : xJ := (cX4_copyFrom, 3, RX4, 2, 0, 0)
def F4_copyFrom_b32 (z : Nat) (w : Nat) (x2 : Int32) (c_fields : Int32) (c_ties : Int32) (c_worth : (Nat → Int32)) (c_forces : (Nat → Int32)) (c_many : (Nat → Int32)) (c_codes : (Nat → Nat → Int32)) (c_b_list : (Nat → Nat → Int32)) (c_b_many : (Nat → Int32)) (c_p_list : (Nat → Nat → Int32)) (c_p_weights : (Nat → Nat → Int32)) (c_p_drawn : (Nat → Nat → Int32)) (c_p_many : (Nat → Int32)) (c_p_all : (Nat → Int32)) (c_p_turns : (Nat → Int32)) (c_o_fields : Int32) (c_o_ties : Int32) (c_o_worth : (Nat → Int32)) (c_o_forces : (Nat → Int32)) (c_o_many : (Nat → Int32)) (c_o_codes : (Nat → Nat → Int32)) (c_o_b_list : (Nat → Nat → Int32)) (c_o_b_many : (Nat → Int32)) (c_o_p_list : (Nat → Nat → Int32)) (c_o_p_weights : (Nat → Nat → Int32)) (c_o_p_drawn : (Nat → Nat → Int32)) (c_o_p_many : (Nat → Int32)) (c_o_p_all : (Nat → Int32)) (c_o_p_turns : (Nat → Int32)) : Option (Int32 × Int32 × (Nat → Int32) × (Nat → Int32) × (Nat → Int32) × (Nat → Nat → Int32) × (Nat → Nat → Int32) × (Nat → Int32) × (Nat → Nat → Int32) × (Nat → Nat → Int32) × (Nat → Nat → Int32) × (Nat → Int32) × (Nat → Int32) × (Nat → Int32)) := match w with
  | 0 => none
  | w + 1 => if (2 : Int32) ≤ x2 then (some (c_fields, c_ties, c_worth, c_forces, c_many, c_codes, c_b_list, c_b_many, c_p_list, c_p_weights, c_p_drawn, c_p_many, c_p_all, c_p_turns)) else (xg (xin x2 2) (xg (xin x2 2) (xg (xin x2 2) (xg (xin x2 2) (xg (xin x2 2) (xg (xin x2 2) (xg (xin x2 2) (xg (xin x2 2) ((F0_copyFrom (c_b_list (xn x2)) (c_b_many (xn x2)) (c_o_b_list (xn x2)) (c_o_b_many (xn x2))).bind (fun v92 => xg (xin x2 2) (xg (xin x2 2) ((F3_copyFrom (c_p_list (xn x2)) (c_p_weights (xn x2)) (c_p_drawn (xn x2)) (c_p_many (xn x2)) (c_p_all (xn x2)) (c_p_turns (xn x2)) (c_o_p_list (xn x2)) (c_o_p_weights (xn x2)) (c_o_p_drawn (xn x2)) (c_o_p_many (xn x2)) (c_o_p_all (xn x2)) (c_o_p_turns (xn x2))).bind (fun v107 => F4_copyFrom_b32 z w (x2 + (1 : Int32)) c_fields c_ties c_worth (upd c_forces (xn x2) (c_o_forces (xn x2))) (upd c_many (xn x2) (c_o_many (xn x2))) (va_up c_codes (xn x2) (va_cpy (c_o_codes (xn x2)) (c_codes (xn x2)) 0 0 120)) (va_up c_b_list (xn x2) v92.1) (va_up c_b_many (xn x2) v92.2) (va_up c_p_list (xn x2) v107.1) (va_up c_p_weights (xn x2) v107.2.1) (va_up c_p_drawn (xn x2) v107.2.2.1) (va_up c_p_many (xn x2) v107.2.2.2.1) (va_up c_p_all (xn x2) v107.2.2.2.2.1) (va_up c_p_turns (xn x2) v107.2.2.2.2.2) c_o_fields c_o_ties c_o_worth c_o_forces c_o_many c_o_codes c_o_b_list c_o_b_many c_o_p_list c_o_p_weights c_o_p_drawn c_o_p_many c_o_p_all c_o_p_turns)))))))))))))
theorem T4_copyFrom_b32 {X : xX} {c_o_fields : Int32} {c_o_ties : Int32} {c_o_worth : (Nat → Int32)} {c_o_forces : (Nat → Int32)} {c_o_many : (Nat → Int32)} {c_o_codes : (Nat → Nat → Int32)} {c_o_b_list : (Nat → Nat → Int32)} {c_o_b_many : (Nat → Int32)} {c_o_p_list : (Nat → Nat → Int32)} {c_o_p_weights : (Nat → Nat → Int32)} {c_o_p_drawn : (Nat → Nat → Int32)} {c_o_p_many : (Nat → Int32)} {c_o_p_all : (Nat → Int32)} {c_o_p_turns : (Nat → Int32)} {z : Nat} {v : Int32 × Int32 × (Nat → Int32) × (Nat → Int32) × (Nat → Int32) × (Nat → Nat → Int32) × (Nat → Nat → Int32) × (Nat → Int32) × (Nat → Nat → Int32) × (Nat → Nat → Int32) × (Nat → Nat → Int32) × (Nat → Int32) × (Nat → Int32) × (Nat → Int32)} (hX : xIs (j4_copyFrom) X none none (hSS v.1 v.2.1 v.2.2.1 v.2.2.2.1 v.2.2.2.2.1 v.2.2.2.2.2.1 v.2.2.2.2.2.2.1 v.2.2.2.2.2.2.2.1 v.2.2.2.2.2.2.2.2.1 v.2.2.2.2.2.2.2.2.2.1 v.2.2.2.2.2.2.2.2.2.2.1 v.2.2.2.2.2.2.2.2.2.2.2.1 v.2.2.2.2.2.2.2.2.2.2.2.2.1 v.2.2.2.2.2.2.2.2.2.2.2.2.2 c_o_fields c_o_ties c_o_worth c_o_forces c_o_many c_o_codes c_o_b_list c_o_b_many c_o_p_list c_o_p_weights c_o_p_drawn c_o_p_many c_o_p_all c_o_p_turns)) : ∀ (w : Nat) {x2 : Int32} {c_fields : Int32} {c_ties : Int32} {c_worth : (Nat → Int32)} {c_forces : (Nat → Int32)} {c_many : (Nat → Int32)} {c_codes : (Nat → Nat → Int32)} {c_b_list : (Nat → Nat → Int32)} {c_b_many : (Nat → Int32)} {c_p_list : (Nat → Nat → Int32)} {c_p_weights : (Nat → Nat → Int32)} {c_p_drawn : (Nat → Nat → Int32)} {c_p_many : (Nat → Int32)} {c_p_all : (Nat → Int32)} {c_p_turns : (Nat → Int32)}, F4_copyFrom_b32 z w x2 c_fields c_ties c_worth c_forces c_many c_codes c_b_list c_b_many c_p_list c_p_weights c_p_drawn c_p_many c_p_all c_p_turns c_o_fields c_o_ties c_o_worth c_o_forces c_o_many c_o_codes c_o_b_list c_o_b_many c_o_p_list c_o_p_weights c_o_p_drawn c_o_p_many c_o_p_all c_o_p_turns = some v → xV (j4_copyFrom) X 0 0 (hSS c_fields c_ties c_worth c_forces c_many c_codes c_b_list c_b_many c_p_list c_p_weights c_p_drawn c_p_many c_p_all c_p_turns c_o_fields c_o_ties c_o_worth c_o_forces c_o_many c_o_codes c_o_b_list c_o_b_many c_o_p_list c_o_p_weights c_o_p_drawn c_o_p_many c_o_p_all c_o_p_turns) 32 [(0, .ref 0), (1, .ref 21), (2, .int x2)] [] := by
  intro w
  induction w with
  | zero => intro x2 c_fields c_ties c_worth c_forces c_many c_codes c_b_list c_b_many c_p_list c_p_weights c_p_drawn c_p_many c_p_all c_p_turns hf; cases hf
  | succ w ih =>
    intro x2 c_fields c_ties c_worth c_forces c_many c_codes c_b_list c_b_many c_p_list c_p_weights c_p_drawn c_p_many c_p_all c_p_turns hf
    unfold F4_copyFrom_b32 at hf
    refine xV_iload_n 33 rfl dX4_copyFrom_32 rfl 2 rfl ?_
    refine xV_iconst 34 rfl dX4_copyFrom_33 xy_i2 ?_
    refine xV_icmp_ge (tgt := 116) 37 rfl dX4_copyFrom_34 (by decide) (fun h34 => ?_) (fun h34 => ?_)
    · have hf := xif_t hf h34
      obtain rfl := Option.some.inj hf
      exact xV_vret hX dX4_copyFrom_116 (Nat.zero_le _) (Nat.zero_le _)
    · have hf := xif_f hf h34
      refine xV_aload_n 38 rfl dX4_copyFrom_37 rfl 0 rfl ?_
      refine xV_get (v := .ref 2) 41 rfl dX4_copyFrom_38 f4_15 rfl rfl ?_
      refine xV_iload_n 42 rfl dX4_copyFrom_41 rfl 2 rfl ?_
      refine xV_aload_n 43 rfl dX4_copyFrom_42 rfl 1 rfl ?_
      refine xV_get (v := .ref 23) 46 rfl dX4_copyFrom_43 f4_15 rfl rfl ?_
      refine xV_iload_n 47 rfl dX4_copyFrom_46 rfl 2 rfl ?_
      obtain ⟨hg47, hf⟩ := xg_s hf
      refine xV_iaload 48 rfl dX4_copyFrom_47 rfl (xin_ok hg47) rfl ?_
      obtain ⟨hg48, hf⟩ := xg_s hf
      refine xV_iastore (h' := (hSS c_fields c_ties c_worth (upd c_forces (xn x2) (c_o_forces (xn x2))) c_many c_codes c_b_list c_b_many c_p_list c_p_weights c_p_drawn c_p_many c_p_all c_p_turns c_o_fields c_o_ties c_o_worth c_o_forces c_o_many c_o_codes c_o_b_list c_o_b_many c_o_p_list c_o_p_weights c_o_p_drawn c_o_p_many c_o_p_all c_o_p_turns)) (j := (xn x2)) 49 rfl dX4_copyFrom_48 rfl (xin_ok hg48) rfl rfl ?_
      refine xV_aload_n 50 rfl dX4_copyFrom_49 rfl 0 rfl ?_
      refine xV_get (v := .ref 3) 53 rfl dX4_copyFrom_50 f4_18 rfl rfl ?_
      refine xV_iload_n 54 rfl dX4_copyFrom_53 rfl 2 rfl ?_
      refine xV_aload_n 55 rfl dX4_copyFrom_54 rfl 1 rfl ?_
      refine xV_get (v := .ref 24) 58 rfl dX4_copyFrom_55 f4_18 rfl rfl ?_
      refine xV_iload_n 59 rfl dX4_copyFrom_58 rfl 2 rfl ?_
      obtain ⟨hg59, hf⟩ := xg_s hf
      refine xV_iaload 60 rfl dX4_copyFrom_59 rfl (xin_ok hg59) rfl ?_
      obtain ⟨hg60, hf⟩ := xg_s hf
      refine xV_iastore (h' := (hSS c_fields c_ties c_worth (upd c_forces (xn x2) (c_o_forces (xn x2))) (upd c_many (xn x2) (c_o_many (xn x2))) c_codes c_b_list c_b_many c_p_list c_p_weights c_p_drawn c_p_many c_p_all c_p_turns c_o_fields c_o_ties c_o_worth c_o_forces c_o_many c_o_codes c_o_b_list c_o_b_many c_o_p_list c_o_p_weights c_o_p_drawn c_o_p_many c_o_p_all c_o_p_turns)) (j := (xn x2)) 61 rfl dX4_copyFrom_60 rfl (xin_ok hg60) rfl rfl ?_
      refine xV_aload_n 62 rfl dX4_copyFrom_61 rfl 1 rfl ?_
      refine xV_get (v := .ref 25) 65 rfl dX4_copyFrom_62 f4_23 rfl rfl ?_
      refine xV_iload_n 66 rfl dX4_copyFrom_65 rfl 2 rfl ?_
      obtain ⟨hg66, hf⟩ := xg_s hf
      refine xV_aaload (b := (26 + (xn x2))) 67 rfl dX4_copyFrom_66 rfl rfl rfl (xin_ok hg66) (by show ([26, 27] : List Nat)[(xn x2)]? = some (26 + (xn x2)); have hi := xin_lt hg66; generalize (xn x2) = i at hi ⊢; match i, hi with | 0, _ => rfl | 1, _ => rfl) ?_
      refine xV_iconst 68 rfl dX4_copyFrom_67 xy_i0 ?_
      refine xV_aload_n 69 rfl dX4_copyFrom_68 rfl 0 rfl ?_
      refine xV_get (v := .ref 4) 72 rfl dX4_copyFrom_69 f4_23 rfl rfl ?_
      refine xV_iload_n 73 rfl dX4_copyFrom_72 rfl 2 rfl ?_
      obtain ⟨hg73, hf⟩ := xg_s hf
      refine xV_aaload (b := (5 + (xn x2))) 74 rfl dX4_copyFrom_73 rfl rfl rfl (xin_ok hg73) (by show ([5, 6] : List Nat)[(xn x2)]? = some (5 + (xn x2)); have hi := xin_lt hg73; generalize (xn x2) = i at hi ⊢; match i, hi with | 0, _ => rfl | 1, _ => rfl) ?_
      refine xV_iconst 75 rfl dX4_copyFrom_74 xy_i0 ?_
      refine xV_bipush 77 rfl dX4_copyFrom_75 xy_b120 ?_
      refine xV_acopy (f := (c_o_codes (xn x2))) (g := (c_codes (xn x2))) (z := 120) (h' := (hSS c_fields c_ties c_worth (upd c_forces (xn x2) (c_o_forces (xn x2))) (upd c_many (xn x2) (c_o_many (xn x2))) (va_up c_codes (xn x2) (va_cpy (c_o_codes (xn x2)) (c_codes (xn x2)) 0 0 120)) c_b_list c_b_many c_p_list c_p_weights c_p_drawn c_p_many c_p_all c_p_turns c_o_fields c_o_ties c_o_worth c_o_forces c_o_many c_o_codes c_o_b_list c_o_b_many c_o_p_list c_o_p_weights c_o_p_drawn c_o_p_many c_o_p_all c_o_p_turns)) 80 rfl dX4_copyFrom_77 k4_51 (by have hi := (xin_lt hg73); generalize (xn x2) = i at hi ⊢; match i, hi with | 0, _ => exact ⟨rfl, rfl, rfl⟩ | 1, _ => exact ⟨rfl, rfl, rfl⟩) (by decide) (by decide) (by decide) (Nat.le_of_ble_eq_true rfl) (Nat.le_of_ble_eq_true rfl) ?_
      refine xV_aload_n 81 rfl dX4_copyFrom_80 rfl 0 rfl ?_
      refine xV_get (v := .ref 7) 84 rfl dX4_copyFrom_81 f4_28 rfl rfl ?_
      refine xV_iload_n 85 rfl dX4_copyFrom_84 rfl 2 rfl ?_
      obtain ⟨hg85, hf⟩ := xg_s hf
      refine xV_aaload (b := (8 + 2 * (xn x2))) 86 rfl dX4_copyFrom_85 rfl rfl rfl (xin_ok hg85) (by show ([8, 10] : List Nat)[(xn x2)]? = some (8 + 2 * (xn x2)); have hi := xin_lt hg85; generalize (xn x2) = i at hi ⊢; match i, hi with | 0, _ => rfl | 1, _ => rfl) ?_
      refine xV_aload_n 87 rfl dX4_copyFrom_86 rfl 1 rfl ?_
      refine xV_get (v := .ref 28) 90 rfl dX4_copyFrom_87 f4_28 rfl rfl ?_
      refine xV_iload_n 91 rfl dX4_copyFrom_90 rfl 2 rfl ?_
      obtain ⟨hg91, hf⟩ := xg_s hf
      refine xV_aaload (b := (29 + 2 * (xn x2))) 92 rfl dX4_copyFrom_91 rfl rfl rfl (xin_ok hg91) (by show ([29, 31] : List Nat)[(xn x2)]? = some (29 + 2 * (xn x2)); have hi := xin_lt hg91; generalize (xn x2) = i at hi ⊢; match i, hi with | 0, _ => rfl | 1, _ => rfl) ?_
      obtain ⟨v92, hv92, hf⟩ := xb_s hf
      refine xV_vir2 (g := (fun j => if j < 2 then (8 + 2 * (xn x2)) + j else (29 + 2 * (xn x2)) + (j - 2))) (hl := (hBB (c_b_list (xn x2)) (c_b_many (xn x2)) (c_o_b_list (xn x2)) (c_o_b_many (xn x2)))) (hl' := (hBB v92.1 v92.2 (c_o_b_list (xn x2)) (c_o_b_many (xn x2)))) (h' := (hSS c_fields c_ties c_worth (upd c_forces (xn x2) (c_o_forces (xn x2))) (upd c_many (xn x2) (c_o_many (xn x2))) (va_up c_codes (xn x2) (va_cpy (c_o_codes (xn x2)) (c_codes (xn x2)) 0 0 120)) (va_up c_b_list (xn x2) v92.1) (va_up c_b_many (xn x2) v92.2) c_p_list c_p_weights c_p_drawn c_p_many c_p_all c_p_turns c_o_fields c_o_ties c_o_worth c_o_forces c_o_many c_o_codes c_o_b_list c_o_b_many c_o_p_list c_o_p_weights c_o_p_drawn c_o_p_many c_o_p_all c_o_p_turns)) (rest := []) (ci := 0) 95 rfl dX4_copyFrom_92 rfl (C0_copyFrom X.1.2.1 hv92) m0_copyFrom v0_copyFrom k4_57 rfl rfl rfl (e_SS_BB_F1_F4 (xin_lt hg91) rfl rfl (xup_same _ _) (xup_same _ _)) rfl (Nat.le_of_ble_eq_true rfl) (Nat.le_of_ble_eq_true rfl) (Nat.le_of_ble_eq_true rfl) ⟨Nat.le_refl _, Nat.le_refl _⟩ ?_
      show xV (j4_copyFrom) X 0 0 (hSS c_fields c_ties c_worth (upd c_forces (xn x2) (c_o_forces (xn x2))) (upd c_many (xn x2) (c_o_many (xn x2))) (va_up c_codes (xn x2) (va_cpy (c_o_codes (xn x2)) (c_codes (xn x2)) 0 0 120)) (va_up c_b_list (xn x2) v92.1) (va_up c_b_many (xn x2) v92.2) c_p_list c_p_weights c_p_drawn c_p_many c_p_all c_p_turns c_o_fields c_o_ties c_o_worth c_o_forces c_o_many c_o_codes c_o_b_list c_o_b_many c_o_p_list c_o_p_weights c_o_p_drawn c_o_p_many c_o_p_all c_o_p_turns) 95 [(0, .ref 0), (1, .ref 21), (2, .int x2)] []
      refine xV_aload_n 96 rfl dX4_copyFrom_95 rfl 0 rfl ?_
      refine xV_get (v := .ref 12) 99 rfl dX4_copyFrom_96 f4_34 rfl rfl ?_
      refine xV_iload_n 100 rfl dX4_copyFrom_99 rfl 2 rfl ?_
      obtain ⟨hg100, hf⟩ := xg_s hf
      refine xV_aaload (b := (13 + 4 * (xn x2))) 101 rfl dX4_copyFrom_100 rfl rfl rfl (xin_ok hg100) (by show ([13, 17] : List Nat)[(xn x2)]? = some (13 + 4 * (xn x2)); have hi := xin_lt hg100; generalize (xn x2) = i at hi ⊢; match i, hi with | 0, _ => rfl | 1, _ => rfl) ?_
      refine xV_aload_n 102 rfl dX4_copyFrom_101 rfl 1 rfl ?_
      refine xV_get (v := .ref 33) 105 rfl dX4_copyFrom_102 f4_34 rfl rfl ?_
      refine xV_iload_n 106 rfl dX4_copyFrom_105 rfl 2 rfl ?_
      obtain ⟨hg106, hf⟩ := xg_s hf
      refine xV_aaload (b := (34 + 4 * (xn x2))) 107 rfl dX4_copyFrom_106 rfl rfl rfl (xin_ok hg106) (by show ([34, 38] : List Nat)[(xn x2)]? = some (34 + 4 * (xn x2)); have hi := xin_lt hg106; generalize (xn x2) = i at hi ⊢; match i, hi with | 0, _ => rfl | 1, _ => rfl) ?_
      obtain ⟨v107, hv107, hf⟩ := xb_s hf
      refine xV_vir2 (g := (fun j => if j < 4 then (13 + 4 * (xn x2)) + j else (34 + 4 * (xn x2)) + (j - 4))) (hl := (hPP (c_p_list (xn x2)) (c_p_weights (xn x2)) (c_p_drawn (xn x2)) (c_p_many (xn x2)) (c_p_all (xn x2)) (c_p_turns (xn x2)) (c_o_p_list (xn x2)) (c_o_p_weights (xn x2)) (c_o_p_drawn (xn x2)) (c_o_p_many (xn x2)) (c_o_p_all (xn x2)) (c_o_p_turns (xn x2)))) (hl' := (hPP v107.1 v107.2.1 v107.2.2.1 v107.2.2.2.1 v107.2.2.2.2.1 v107.2.2.2.2.2 (c_o_p_list (xn x2)) (c_o_p_weights (xn x2)) (c_o_p_drawn (xn x2)) (c_o_p_many (xn x2)) (c_o_p_all (xn x2)) (c_o_p_turns (xn x2)))) (h' := (hSS c_fields c_ties c_worth (upd c_forces (xn x2) (c_o_forces (xn x2))) (upd c_many (xn x2) (c_o_many (xn x2))) (va_up c_codes (xn x2) (va_cpy (c_o_codes (xn x2)) (c_codes (xn x2)) 0 0 120)) (va_up c_b_list (xn x2) v92.1) (va_up c_b_many (xn x2) v92.2) (va_up c_p_list (xn x2) v107.1) (va_up c_p_weights (xn x2) v107.2.1) (va_up c_p_drawn (xn x2) v107.2.2.1) (va_up c_p_many (xn x2) v107.2.2.2.1) (va_up c_p_all (xn x2) v107.2.2.2.2.1) (va_up c_p_turns (xn x2) v107.2.2.2.2.2) c_o_fields c_o_ties c_o_worth c_o_forces c_o_many c_o_codes c_o_b_list c_o_b_many c_o_p_list c_o_p_weights c_o_p_drawn c_o_p_many c_o_p_all c_o_p_turns)) (rest := []) (ci := 3) 110 rfl dX4_copyFrom_107 rfl (C3_copyFrom X.1.2.1 hv107) m3_copyFrom v3_copyFrom k4_61 rfl rfl rfl (e_SS_PP_F2_F5 (xin_lt hg106) rfl rfl rfl rfl rfl rfl (xup_same _ _) (xup_same _ _) (xup_same _ _) (xup_same _ _) (xup_same _ _) (xup_same _ _)) rfl (Nat.le_of_ble_eq_true rfl) (Nat.le_of_ble_eq_true rfl) (Nat.le_of_ble_eq_true rfl) ⟨Nat.le_refl _, Nat.le_refl _⟩ ?_
      show xV (j4_copyFrom) X 0 0 (hSS c_fields c_ties c_worth (upd c_forces (xn x2) (c_o_forces (xn x2))) (upd c_many (xn x2) (c_o_many (xn x2))) (va_up c_codes (xn x2) (va_cpy (c_o_codes (xn x2)) (c_codes (xn x2)) 0 0 120)) (va_up c_b_list (xn x2) v92.1) (va_up c_b_many (xn x2) v92.2) (va_up c_p_list (xn x2) v107.1) (va_up c_p_weights (xn x2) v107.2.1) (va_up c_p_drawn (xn x2) v107.2.2.1) (va_up c_p_many (xn x2) v107.2.2.2.1) (va_up c_p_all (xn x2) v107.2.2.2.2.1) (va_up c_p_turns (xn x2) v107.2.2.2.2.2) c_o_fields c_o_ties c_o_worth c_o_forces c_o_many c_o_codes c_o_b_list c_o_b_many c_o_p_list c_o_p_weights c_o_p_drawn c_o_p_many c_o_p_all c_o_p_turns) 110 [(0, .ref 0), (1, .ref 21), (2, .int x2)] []
      refine xV_iinc (L' := [(2, .int (x2 + (1 : Int32))), (0, .ref 0), (1, .ref 21)]) 113 rfl dX4_copyFrom_110 2 rfl (xk_inc xy_i1) (xlt rfl) rfl ?_
      refine xV_goto (tgt := 32) dX4_copyFrom_113 (by decide) ?_
      refine xV_sub [1, 2, 0] rfl ?_
      exact ih hf
def F4_copyFrom (z : Nat) (c_fields : Int32) (c_ties : Int32) (c_worth : (Nat → Int32)) (c_forces : (Nat → Int32)) (c_many : (Nat → Int32)) (c_codes : (Nat → Nat → Int32)) (c_b_list : (Nat → Nat → Int32)) (c_b_many : (Nat → Int32)) (c_p_list : (Nat → Nat → Int32)) (c_p_weights : (Nat → Nat → Int32)) (c_p_drawn : (Nat → Nat → Int32)) (c_p_many : (Nat → Int32)) (c_p_all : (Nat → Int32)) (c_p_turns : (Nat → Int32)) (c_o_fields : Int32) (c_o_ties : Int32) (c_o_worth : (Nat → Int32)) (c_o_forces : (Nat → Int32)) (c_o_many : (Nat → Int32)) (c_o_codes : (Nat → Nat → Int32)) (c_o_b_list : (Nat → Nat → Int32)) (c_o_b_many : (Nat → Int32)) (c_o_p_list : (Nat → Nat → Int32)) (c_o_p_weights : (Nat → Nat → Int32)) (c_o_p_drawn : (Nat → Nat → Int32)) (c_o_p_many : (Nat → Int32)) (c_o_p_all : (Nat → Int32)) (c_o_p_turns : (Nat → Int32)) : Option (Int32 × Int32 × (Nat → Int32) × (Nat → Int32) × (Nat → Int32) × (Nat → Nat → Int32) × (Nat → Nat → Int32) × (Nat → Int32) × (Nat → Nat → Int32) × (Nat → Nat → Int32) × (Nat → Nat → Int32) × (Nat → Int32) × (Nat → Int32) × (Nat → Int32)) :=
  F4_copyFrom_b32 z z (0 : Int32) c_o_fields c_o_ties (va_cpy c_o_worth c_worth 0 0 4) c_forces c_many c_codes c_b_list c_b_many c_p_list c_p_weights c_p_drawn c_p_many c_p_all c_p_turns c_o_fields c_o_ties c_o_worth c_o_forces c_o_many c_o_codes c_o_b_list c_o_b_many c_o_p_list c_o_p_weights c_o_p_drawn c_o_p_many c_o_p_all c_o_p_turns
theorem T4_copyFrom {X : xX} {z : Nat} {c_fields : Int32} {c_ties : Int32} {c_worth : (Nat → Int32)} {c_forces : (Nat → Int32)} {c_many : (Nat → Int32)} {c_codes : (Nat → Nat → Int32)} {c_b_list : (Nat → Nat → Int32)} {c_b_many : (Nat → Int32)} {c_p_list : (Nat → Nat → Int32)} {c_p_weights : (Nat → Nat → Int32)} {c_p_drawn : (Nat → Nat → Int32)} {c_p_many : (Nat → Int32)} {c_p_all : (Nat → Int32)} {c_p_turns : (Nat → Int32)} {c_o_fields : Int32} {c_o_ties : Int32} {c_o_worth : (Nat → Int32)} {c_o_forces : (Nat → Int32)} {c_o_many : (Nat → Int32)} {c_o_codes : (Nat → Nat → Int32)} {c_o_b_list : (Nat → Nat → Int32)} {c_o_b_many : (Nat → Int32)} {c_o_p_list : (Nat → Nat → Int32)} {c_o_p_weights : (Nat → Nat → Int32)} {c_o_p_drawn : (Nat → Nat → Int32)} {c_o_p_many : (Nat → Int32)} {c_o_p_all : (Nat → Int32)} {c_o_p_turns : (Nat → Int32)}  {v : Int32 × Int32 × (Nat → Int32) × (Nat → Int32) × (Nat → Int32) × (Nat → Nat → Int32) × (Nat → Nat → Int32) × (Nat → Int32) × (Nat → Nat → Int32) × (Nat → Nat → Int32) × (Nat → Nat → Int32) × (Nat → Int32) × (Nat → Int32) × (Nat → Int32)} (hX : xIs (j4_copyFrom) X none none (hSS v.1 v.2.1 v.2.2.1 v.2.2.2.1 v.2.2.2.2.1 v.2.2.2.2.2.1 v.2.2.2.2.2.2.1 v.2.2.2.2.2.2.2.1 v.2.2.2.2.2.2.2.2.1 v.2.2.2.2.2.2.2.2.2.1 v.2.2.2.2.2.2.2.2.2.2.1 v.2.2.2.2.2.2.2.2.2.2.2.1 v.2.2.2.2.2.2.2.2.2.2.2.2.1 v.2.2.2.2.2.2.2.2.2.2.2.2.2 c_o_fields c_o_ties c_o_worth c_o_forces c_o_many c_o_codes c_o_b_list c_o_b_many c_o_p_list c_o_p_weights c_o_p_drawn c_o_p_many c_o_p_all c_o_p_turns)) (hf : F4_copyFrom z c_fields c_ties c_worth c_forces c_many c_codes c_b_list c_b_many c_p_list c_p_weights c_p_drawn c_p_many c_p_all c_p_turns c_o_fields c_o_ties c_o_worth c_o_forces c_o_many c_o_codes c_o_b_list c_o_b_many c_o_p_list c_o_p_weights c_o_p_drawn c_o_p_many c_o_p_all c_o_p_turns = some v) : xV (j4_copyFrom) X 0 0 (hSS c_fields c_ties c_worth c_forces c_many c_codes c_b_list c_b_many c_p_list c_p_weights c_p_drawn c_p_many c_p_all c_p_turns c_o_fields c_o_ties c_o_worth c_o_forces c_o_many c_o_codes c_o_b_list c_o_b_many c_o_p_list c_o_p_weights c_o_p_drawn c_o_p_many c_o_p_all c_o_p_turns) 0 [(0, .ref 0), (1, .ref 21)] [] := by
  unfold F4_copyFrom at hf
  refine xV_aload_n 1 rfl dX4_copyFrom_0 rfl 0 rfl ?_
  refine xV_aload_n 2 rfl dX4_copyFrom_1 rfl 1 rfl ?_
  refine xV_get (v := .int c_o_fields) 5 rfl dX4_copyFrom_2 f4_38 rfl rfl ?_
  refine xV_put (h' := (hSS c_o_fields c_ties c_worth c_forces c_many c_codes c_b_list c_b_many c_p_list c_p_weights c_p_drawn c_p_many c_p_all c_p_turns c_o_fields c_o_ties c_o_worth c_o_forces c_o_many c_o_codes c_o_b_list c_o_b_many c_o_p_list c_o_p_weights c_o_p_drawn c_o_p_many c_o_p_all c_o_p_turns)) 8 rfl dX4_copyFrom_5 f4_38 rfl nf4_0 (fun _ => rfl) (fun _ => rfl) (Nat.le_of_ble_eq_true rfl) rfl ?_
  refine xV_aload_n 9 rfl dX4_copyFrom_8 rfl 0 rfl ?_
  refine xV_aload_n 10 rfl dX4_copyFrom_9 rfl 1 rfl ?_
  refine xV_get (v := .int c_o_ties) 13 rfl dX4_copyFrom_10 f4_48 rfl rfl ?_
  refine xV_put (h' := (hSS c_o_fields c_o_ties c_worth c_forces c_many c_codes c_b_list c_b_many c_p_list c_p_weights c_p_drawn c_p_many c_p_all c_p_turns c_o_fields c_o_ties c_o_worth c_o_forces c_o_many c_o_codes c_o_b_list c_o_b_many c_o_p_list c_o_p_weights c_o_p_drawn c_o_p_many c_o_p_all c_o_p_turns)) 16 rfl dX4_copyFrom_13 f4_48 rfl nf4_1 (fun _ => rfl) (fun _ => rfl) (Nat.le_of_ble_eq_true rfl) rfl ?_
  refine xV_aload_n 17 rfl dX4_copyFrom_16 rfl 1 rfl ?_
  refine xV_get (v := .ref 22) 20 rfl dX4_copyFrom_17 f4_9 rfl rfl ?_
  refine xV_iconst 21 rfl dX4_copyFrom_20 xy_i0 ?_
  refine xV_aload_n 22 rfl dX4_copyFrom_21 rfl 0 rfl ?_
  refine xV_get (v := .ref 1) 25 rfl dX4_copyFrom_22 f4_9 rfl rfl ?_
  refine xV_iconst 26 rfl dX4_copyFrom_25 xy_i0 ?_
  refine xV_iconst 27 rfl dX4_copyFrom_26 xy_i4 ?_
  refine xV_acopy (f := c_o_worth) (g := c_worth) (z := 4) (h' := (hSS c_o_fields c_o_ties (va_cpy c_o_worth c_worth 0 0 4) c_forces c_many c_codes c_b_list c_b_many c_p_list c_p_weights c_p_drawn c_p_many c_p_all c_p_turns c_o_fields c_o_ties c_o_worth c_o_forces c_o_many c_o_codes c_o_b_list c_o_b_many c_o_p_list c_o_p_weights c_o_p_drawn c_o_p_many c_o_p_all c_o_p_turns)) 30 rfl dX4_copyFrom_27 k4_51 (⟨rfl, rfl, rfl⟩) (by decide) (by decide) (by decide) (Nat.le_of_ble_eq_true rfl) (Nat.le_of_ble_eq_true rfl) ?_
  refine xV_iconst 31 rfl dX4_copyFrom_30 xy_i0 ?_
  refine xV_istore_n (L' := [(2, .int (0 : Int32)), (0, .ref 0), (1, .ref 21)]) 32 rfl dX4_copyFrom_31 rfl (xlt rfl) rfl ?_
  refine xV_sub [1, 2, 0] rfl ?_
  exact T4_copyFrom_b32 hX _ hf
theorem C4_copyFrom (l : Launch) {z : Nat} {c_fields : Int32} {c_ties : Int32} {c_worth : (Nat → Int32)} {c_forces : (Nat → Int32)} {c_many : (Nat → Int32)} {c_codes : (Nat → Nat → Int32)} {c_b_list : (Nat → Nat → Int32)} {c_b_many : (Nat → Int32)} {c_p_list : (Nat → Nat → Int32)} {c_p_weights : (Nat → Nat → Int32)} {c_p_drawn : (Nat → Nat → Int32)} {c_p_many : (Nat → Int32)} {c_p_all : (Nat → Int32)} {c_p_turns : (Nat → Int32)} {c_o_fields : Int32} {c_o_ties : Int32} {c_o_worth : (Nat → Int32)} {c_o_forces : (Nat → Int32)} {c_o_many : (Nat → Int32)} {c_o_codes : (Nat → Nat → Int32)} {c_o_b_list : (Nat → Nat → Int32)} {c_o_b_many : (Nat → Int32)} {c_o_p_list : (Nat → Nat → Int32)} {c_o_p_weights : (Nat → Nat → Int32)} {c_o_p_drawn : (Nat → Nat → Int32)} {c_o_p_many : (Nat → Int32)} {c_o_p_all : (Nat → Int32)} {c_o_p_turns : (Nat → Int32)}  {v : Int32 × Int32 × (Nat → Int32) × (Nat → Int32) × (Nat → Int32) × (Nat → Nat → Int32) × (Nat → Nat → Int32) × (Nat → Int32) × (Nat → Nat → Int32) × (Nat → Nat → Int32) × (Nat → Nat → Int32) × (Nat → Int32) × (Nat → Int32) × (Nat → Int32)} (hf : F4_copyFrom z c_fields c_ties c_worth c_forces c_many c_codes c_b_list c_b_many c_p_list c_p_weights c_p_drawn c_p_many c_p_all c_p_turns c_o_fields c_o_ties c_o_worth c_o_forces c_o_many c_o_codes c_o_b_list c_o_b_many c_o_p_list c_o_p_weights c_o_p_drawn c_o_p_many c_o_p_all c_o_p_turns = some v) : xCt l yX4_copyFrom none j4_copyFrom [.ref 0, .ref 21] (hSS c_fields c_ties c_worth c_forces c_many c_codes c_b_list c_b_many c_p_list c_p_weights c_p_drawn c_p_many c_p_all c_p_turns c_o_fields c_o_ties c_o_worth c_o_forces c_o_many c_o_codes c_o_b_list c_o_b_many c_o_p_list c_o_p_weights c_o_p_drawn c_o_p_many c_o_p_all c_o_p_turns) none (hSS v.1 v.2.1 v.2.2.1 v.2.2.2.1 v.2.2.2.2.1 v.2.2.2.2.2.1 v.2.2.2.2.2.2.1 v.2.2.2.2.2.2.2.1 v.2.2.2.2.2.2.2.2.1 v.2.2.2.2.2.2.2.2.2.1 v.2.2.2.2.2.2.2.2.2.2.1 v.2.2.2.2.2.2.2.2.2.2.2.1 v.2.2.2.2.2.2.2.2.2.2.2.2.1 v.2.2.2.2.2.2.2.2.2.2.2.2.2 c_o_fields c_o_ties c_o_worth c_o_forces c_o_many c_o_codes c_o_b_list c_o_b_many c_o_p_list c_o_p_weights c_o_p_drawn c_o_p_many c_o_p_all c_o_p_turns) := xCt_of (by decide) rfl (Nat.le_of_ble_eq_true rfl) (fun _ hX => T4_copyFrom hX hf)
theorem m4_copyFrom : xMd yX4_copyFrom RX4 none j4_copyFrom 1 := ⟨List.mem_of_getElem? (i := 199) (by decide +kernel), List.mem_of_getElem? (i := 15) (by decide +kernel), rfl, by decide +kernel⟩
theorem v4_copyFrom : xMv yX4_copyFrom RX4 := ⟨List.mem_of_getElem? (i := 197) (by decide +kernel), List.mem_of_getElem? (i := 198) (by decide +kernel)⟩
theorem k4_44 : Cond.methodLink RX4 44 yX4_listSplits ∈ wsL_law0 := List.mem_of_getElem? (i := 68) (by decide +kernel)
theorem f4_64 : xFl RX4 64 0 1 := ⟨_, rfl, by decide, List.mem_of_getElem? (i := 326) (by decide +kernel)⟩
theorem k4_66 : Cond.methodLink RX4 66 yX3_clear ∈ wsL_law0 := List.mem_of_getElem? (i := 327) (by decide +kernel)
theorem e_S_P_F2 {c_fields : Int32} {c_ties : Int32} {c_worth : (Nat → Int32)} {c_forces : (Nat → Int32)} {c_many : (Nat → Int32)} {c_codes : (Nat → Nat → Int32)} {c_b_list : (Nat → Nat → Int32)} {c_b_many : (Nat → Int32)} {c_p_list : (Nat → Nat → Int32)} {c_p_weights : (Nat → Nat → Int32)} {c_p_drawn : (Nat → Nat → Int32)} {c_p_many : (Nat → Int32)} {c_p_all : (Nat → Int32)} {c_p_turns : (Nat → Int32)} {d_list : (Nat → Int32)} {d_weights : (Nat → Int32)} {d_drawn : (Nat → Int32)} {d_many : Int32} {d_all : Int32} {d_turns : Int32} {i : Nat} (hi : i < 2) {e_p_list : (Nat → Nat → Int32)} {e_p_weights : (Nat → Nat → Int32)} {e_p_drawn : (Nat → Nat → Int32)} {e_p_many : (Nat → Int32)} {e_p_all : (Nat → Int32)} {e_p_turns : (Nat → Int32)} (q_p_list : e_p_list = va_up c_p_list i d_list) (q_p_weights : e_p_weights = va_up c_p_weights i d_weights) (q_p_drawn : e_p_drawn = va_up c_p_drawn i d_drawn) (q_p_many : e_p_many = va_up c_p_many i d_many) (q_p_all : e_p_all = va_up c_p_all i d_all) (q_p_turns : e_p_turns = va_up c_p_turns i d_turns) : xEmb (fun j => (13 + 4 * i) + j) (hP (c_p_list i) (c_p_weights i) (c_p_drawn i) (c_p_many i) (c_p_all i) (c_p_turns i)) (hP d_list d_weights d_drawn d_many d_all d_turns) (hS c_fields c_ties c_worth c_forces c_many c_codes c_b_list c_b_many c_p_list c_p_weights c_p_drawn c_p_many c_p_all c_p_turns) (hS c_fields c_ties c_worth c_forces c_many c_codes c_b_list c_b_many e_p_list e_p_weights e_p_drawn e_p_many e_p_all e_p_turns) 3 := by
  subst q_p_list
  subst q_p_weights
  subst q_p_drawn
  subst q_p_many
  subst q_p_all
  subst q_p_turns
  match i, hi with
  | 0, _ => exact ⟨by show xNd _ 4 = true; decide +kernel, And.intro hS_13 (And.intro hS_14 (And.intro hS_15 (And.intro hS_16 (trivial)))), And.intro hS_13 (And.intro hS_14 (And.intro hS_15 (And.intro hS_16 (trivial)))), ⟨[0, 1, 2, 3, 4, 5, 6, 7, 8, 9, 10, 11, 12, 17, 18, 19, 20], And.intro (xeq3 hS_0 hS_0 rfl) (And.intro (xeq3 hS_1 hS_1 rfl) (And.intro (xeq3 hS_2 hS_2 rfl) (And.intro (xeq3 hS_3 hS_3 rfl) (And.intro (xeq3 hS_4 hS_4 rfl) (And.intro (xeq3 hS_5 hS_5 rfl) (And.intro (xeq3 hS_6 hS_6 rfl) (And.intro (xeq3 hS_7 hS_7 rfl) (And.intro (xeq3 hS_8 hS_8 rfl) (And.intro (xeq3 hS_9 hS_9 rfl) (And.intro (xeq3 hS_10 hS_10 rfl) (And.intro (xeq3 hS_11 hS_11 rfl) (And.intro (xeq3 hS_12 hS_12 rfl) (And.intro (xeq3 hS_17 hS_17 rfl) (And.intro (xeq3 hS_18 hS_18 rfl) (And.intro (xeq3 hS_19 hS_19 rfl) (And.intro (xeq3 hS_20 hS_20 rfl) (trivial))))))))))))))))), by show xCov _ 4 _ 21 = true; decide +kernel⟩, rfl, ⟨_, hS_13⟩⟩
  | 1, _ => exact ⟨by show xNd _ 4 = true; decide +kernel, And.intro hS_17 (And.intro hS_18 (And.intro hS_19 (And.intro hS_20 (trivial)))), And.intro hS_17 (And.intro hS_18 (And.intro hS_19 (And.intro hS_20 (trivial)))), ⟨[0, 1, 2, 3, 4, 5, 6, 7, 8, 9, 10, 11, 12, 13, 14, 15, 16], And.intro (xeq3 hS_0 hS_0 rfl) (And.intro (xeq3 hS_1 hS_1 rfl) (And.intro (xeq3 hS_2 hS_2 rfl) (And.intro (xeq3 hS_3 hS_3 rfl) (And.intro (xeq3 hS_4 hS_4 rfl) (And.intro (xeq3 hS_5 hS_5 rfl) (And.intro (xeq3 hS_6 hS_6 rfl) (And.intro (xeq3 hS_7 hS_7 rfl) (And.intro (xeq3 hS_8 hS_8 rfl) (And.intro (xeq3 hS_9 hS_9 rfl) (And.intro (xeq3 hS_10 hS_10 rfl) (And.intro (xeq3 hS_11 hS_11 rfl) (And.intro (xeq3 hS_12 hS_12 rfl) (And.intro (xeq3 hS_13 hS_13 rfl) (And.intro (xeq3 hS_14 hS_14 rfl) (And.intro (xeq3 hS_15 hS_15 rfl) (And.intro (xeq3 hS_16 hS_16 rfl) (trivial))))))))))))))))), by show xCov _ 4 _ 21 = true; decide +kernel⟩, rfl, ⟨_, hS_17⟩⟩
theorem dX4_renew_0 : decode cX4_renew 0 = .ok (.iconst 0, 1) := by decide +kernel
theorem dX4_renew_1 : decode cX4_renew 1 = .ok (.istore_n 1, 1) := by decide +kernel
theorem dX4_renew_2 : decode cX4_renew 2 = .ok (.iload_n 1, 1) := by decide +kernel
theorem dX4_renew_3 : decode cX4_renew 3 = .ok (.iconst 2, 1) := by decide +kernel
theorem dX4_renew_4 : decode cX4_renew 4 = .ok (.if_icmp .ge 33, 3) := by decide +kernel
theorem dX4_renew_7 : decode cX4_renew 7 = .ok (.aload_n 0, 1) := by decide +kernel
theorem dX4_renew_8 : decode cX4_renew 8 = .ok (.iload_n 1, 1) := by decide +kernel
theorem dX4_renew_9 : decode cX4_renew 9 = .ok (.invokevirtual 44, 3) := by decide +kernel
theorem dX4_renew_12 : decode cX4_renew 12 = .ok (.aload_n 0, 1) := by decide +kernel
theorem dX4_renew_13 : decode cX4_renew 13 = .ok (.getfield 28, 3) := by decide +kernel
theorem dX4_renew_16 : decode cX4_renew 16 = .ok (.iload_n 1, 1) := by decide +kernel
theorem dX4_renew_17 : decode cX4_renew 17 = .ok (.aaload, 1) := by decide +kernel
theorem dX4_renew_18 : decode cX4_renew 18 = .ok (.iconst 0, 1) := by decide +kernel
theorem dX4_renew_19 : decode cX4_renew 19 = .ok (.putfield 64, 3) := by decide +kernel
theorem dX4_renew_22 : decode cX4_renew 22 = .ok (.aload_n 0, 1) := by decide +kernel
theorem dX4_renew_23 : decode cX4_renew 23 = .ok (.getfield 34, 3) := by decide +kernel
theorem dX4_renew_26 : decode cX4_renew 26 = .ok (.iload_n 1, 1) := by decide +kernel
theorem dX4_renew_27 : decode cX4_renew 27 = .ok (.aaload, 1) := by decide +kernel
theorem dX4_renew_28 : decode cX4_renew 28 = .ok (.invokevirtual 66, 3) := by decide +kernel
theorem dX4_renew_31 : decode cX4_renew 31 = .ok (.iinc 1 1, 3) := by decide +kernel
theorem dX4_renew_34 : decode cX4_renew 34 = .ok (.goto (-32), 3) := by decide +kernel
theorem dX4_renew_37 : decode cX4_renew 37 = .ok (.return_, 1) := by decide +kernel
abbrev j4_renew : xJ := (cX4_renew, 2, RX4, 3, 0, 0)
def F4_renew_b2 (z : Nat) (w : Nat) (x1 : Int32) (c_fields : Int32) (c_forces : (Nat → Int32)) (c_many : (Nat → Int32)) (c_codes : (Nat → Nat → Int32)) (c_b_many : (Nat → Int32)) (c_p_drawn : (Nat → Nat → Int32)) (c_p_many : (Nat → Int32)) (c_p_all : (Nat → Int32)) (c_p_turns : (Nat → Int32)) : Option ((Nat → Int32) × (Nat → Nat → Int32) × (Nat → Int32) × (Nat → Nat → Int32) × (Nat → Int32) × (Nat → Int32) × (Nat → Int32)) := match w with
  | 0 => none
  | w + 1 => if (2 : Int32) ≤ x1 then (some (c_many, c_codes, c_b_many, c_p_drawn, c_p_many, c_p_all, c_p_turns)) else ((F4_listSplits z x1 c_fields c_forces c_many c_codes).bind (fun v9 => xg (xin x1 2) (xg (xin x1 2) ((F3_clear z (c_p_drawn (xn x1)) (c_p_many (xn x1)) (c_p_all (xn x1)) (c_p_turns (xn x1))).bind (fun v28 => F4_renew_b2 z w (x1 + (1 : Int32)) c_fields c_forces v9.1 v9.2 (va_up c_b_many (xn x1) (0 : Int32)) (va_up c_p_drawn (xn x1) v28.1) (va_up c_p_many (xn x1) v28.2.1) (va_up c_p_all (xn x1) v28.2.2.1) (va_up c_p_turns (xn x1) v28.2.2.2))))))
theorem T4_renew_b2 {X : xX} {c_fields : Int32} {c_ties : Int32} {c_worth : (Nat → Int32)} {c_forces : (Nat → Int32)} {c_b_list : (Nat → Nat → Int32)} {c_p_list : (Nat → Nat → Int32)} {c_p_weights : (Nat → Nat → Int32)} {z : Nat} {v : (Nat → Int32) × (Nat → Nat → Int32) × (Nat → Int32) × (Nat → Nat → Int32) × (Nat → Int32) × (Nat → Int32) × (Nat → Int32)} (hX : xIs (j4_renew) X none none (hS c_fields c_ties c_worth c_forces v.1 v.2.1 c_b_list v.2.2.1 c_p_list c_p_weights v.2.2.2.1 v.2.2.2.2.1 v.2.2.2.2.2.1 v.2.2.2.2.2.2)) : ∀ (w : Nat) {x1 : Int32} {c_many : (Nat → Int32)} {c_codes : (Nat → Nat → Int32)} {c_b_many : (Nat → Int32)} {c_p_drawn : (Nat → Nat → Int32)} {c_p_many : (Nat → Int32)} {c_p_all : (Nat → Int32)} {c_p_turns : (Nat → Int32)}, F4_renew_b2 z w x1 c_fields c_forces c_many c_codes c_b_many c_p_drawn c_p_many c_p_all c_p_turns = some v → xV (j4_renew) X 0 0 (hS c_fields c_ties c_worth c_forces c_many c_codes c_b_list c_b_many c_p_list c_p_weights c_p_drawn c_p_many c_p_all c_p_turns) 2 [(0, .ref 0), (1, .int x1)] [] := by
  intro w
  induction w with
  | zero => intro x1 c_many c_codes c_b_many c_p_drawn c_p_many c_p_all c_p_turns hf; cases hf
  | succ w ih =>
    intro x1 c_many c_codes c_b_many c_p_drawn c_p_many c_p_all c_p_turns hf
    unfold F4_renew_b2 at hf
    refine xV_iload_n 3 rfl dX4_renew_2 rfl 1 rfl ?_
    refine xV_iconst 4 rfl dX4_renew_3 xy_i2 ?_
    refine xV_icmp_ge (tgt := 37) 7 rfl dX4_renew_4 (by decide) (fun h4 => ?_) (fun h4 => ?_)
    · have hf := xif_t hf h4
      obtain rfl := Option.some.inj hf
      exact xV_vret hX dX4_renew_37 (Nat.zero_le _) (Nat.zero_le _)
    · have hf := xif_f hf h4
      refine xV_aload_n 8 rfl dX4_renew_7 rfl 0 rfl ?_
      refine xV_iload_n 9 rfl dX4_renew_8 rfl 1 rfl ?_
      obtain ⟨v9, hv9, hf⟩ := xb_s hf
      refine xV_same (rest := []) 12 rfl dX4_renew_9 rfl (C4_listSplits X.1.2.1 hv9) m4_listSplits v4_listSplits k4_44 rfl rfl rfl rfl rfl (Nat.le_of_ble_eq_true rfl) (Nat.le_of_ble_eq_true rfl) (Nat.le_of_ble_eq_true rfl) ⟨Nat.le_refl _, Nat.le_refl _⟩ ?_
      show xV (j4_renew) X 0 0 (hS c_fields c_ties c_worth c_forces v9.1 v9.2 c_b_list c_b_many c_p_list c_p_weights c_p_drawn c_p_many c_p_all c_p_turns) 12 [(0, .ref 0), (1, .int x1)] []
      refine xV_aload_n 13 rfl dX4_renew_12 rfl 0 rfl ?_
      refine xV_get (v := .ref 7) 16 rfl dX4_renew_13 f4_28 rfl rfl ?_
      refine xV_iload_n 17 rfl dX4_renew_16 rfl 1 rfl ?_
      obtain ⟨hg17, hf⟩ := xg_s hf
      refine xV_aaload (b := (8 + 2 * (xn x1))) 18 rfl dX4_renew_17 rfl rfl rfl (xin_ok hg17) (by show ([8, 10] : List Nat)[(xn x1)]? = some (8 + 2 * (xn x1)); have hi := xin_lt hg17; generalize (xn x1) = i at hi ⊢; match i, hi with | 0, _ => rfl | 1, _ => rfl) ?_
      refine xV_iconst 19 rfl dX4_renew_18 xy_i0 ?_
      refine xV_put (h' := (hS c_fields c_ties c_worth c_forces v9.1 v9.2 c_b_list (va_up c_b_many (xn x1) (0 : Int32)) c_p_list c_p_weights c_p_drawn c_p_many c_p_all c_p_turns)) (fs := [.ref (9 + 2 * (xn x1)), .int (c_b_many (xn x1))]) 22 rfl dX4_renew_19 f4_64 (by have hi := (xin_lt hg17); generalize (xn x1) = i at hi ⊢; match i, hi with | 0, _ => exact rfl | 1, _ => exact rfl) nf0_1 (fun _ => rfl) (fun _ => rfl) (Nat.le_of_ble_eq_true rfl) (by have hi := (xin_lt hg17); generalize (xn x1) = i at hi ⊢; match i, hi with | 0, _ => exact rfl | 1, _ => exact rfl) ?_
      refine xV_aload_n 23 rfl dX4_renew_22 rfl 0 rfl ?_
      refine xV_get (v := .ref 12) 26 rfl dX4_renew_23 f4_34 rfl rfl ?_
      refine xV_iload_n 27 rfl dX4_renew_26 rfl 1 rfl ?_
      obtain ⟨hg27, hf⟩ := xg_s hf
      refine xV_aaload (b := (13 + 4 * (xn x1))) 28 rfl dX4_renew_27 rfl rfl rfl (xin_ok hg27) (by show ([13, 17] : List Nat)[(xn x1)]? = some (13 + 4 * (xn x1)); have hi := xin_lt hg27; generalize (xn x1) = i at hi ⊢; match i, hi with | 0, _ => rfl | 1, _ => rfl) ?_
      obtain ⟨v28, hv28, hf⟩ := xb_s hf
      refine xV_vir2 (g := (fun j => (13 + 4 * (xn x1)) + j)) (hl := (hP (c_p_list (xn x1)) (c_p_weights (xn x1)) (c_p_drawn (xn x1)) (c_p_many (xn x1)) (c_p_all (xn x1)) (c_p_turns (xn x1)))) (hl' := (hP (c_p_list (xn x1)) (c_p_weights (xn x1)) v28.1 v28.2.1 v28.2.2.1 v28.2.2.2)) (h' := (hS c_fields c_ties c_worth c_forces v9.1 v9.2 c_b_list (va_up c_b_many (xn x1) (0 : Int32)) c_p_list c_p_weights (va_up c_p_drawn (xn x1) v28.1) (va_up c_p_many (xn x1) v28.2.1) (va_up c_p_all (xn x1) v28.2.2.1) (va_up c_p_turns (xn x1) v28.2.2.2))) (rest := []) (ci := 3) 31 rfl dX4_renew_28 rfl (C3_clear X.1.2.1 hv28) m3_clear v3_clear k4_66 rfl rfl rfl (e_S_P_F2 (xin_lt hg27) (xup_same _ _) (xup_same _ _) rfl rfl rfl rfl) rfl (Nat.le_of_ble_eq_true rfl) (Nat.le_of_ble_eq_true rfl) (Nat.le_of_ble_eq_true rfl) ⟨Nat.le_refl _, Nat.le_refl _⟩ ?_
      show xV (j4_renew) X 0 0 (hS c_fields c_ties c_worth c_forces v9.1 v9.2 c_b_list (va_up c_b_many (xn x1) (0 : Int32)) c_p_list c_p_weights (va_up c_p_drawn (xn x1) v28.1) (va_up c_p_many (xn x1) v28.2.1) (va_up c_p_all (xn x1) v28.2.2.1) (va_up c_p_turns (xn x1) v28.2.2.2)) 31 [(0, .ref 0), (1, .int x1)] []
      refine xV_iinc (L' := [(1, .int (x1 + (1 : Int32))), (0, .ref 0)]) 34 rfl dX4_renew_31 1 rfl (xk_inc xy_i1) (xlt rfl) rfl ?_
      refine xV_goto (tgt := 2) dX4_renew_34 (by decide) ?_
      refine xV_sub [1, 0] rfl ?_
      exact ih hf
def F4_renew (z : Nat) (c_fields : Int32) (c_forces : (Nat → Int32)) (c_many : (Nat → Int32)) (c_codes : (Nat → Nat → Int32)) (c_b_many : (Nat → Int32)) (c_p_drawn : (Nat → Nat → Int32)) (c_p_many : (Nat → Int32)) (c_p_all : (Nat → Int32)) (c_p_turns : (Nat → Int32)) : Option ((Nat → Int32) × (Nat → Nat → Int32) × (Nat → Int32) × (Nat → Nat → Int32) × (Nat → Int32) × (Nat → Int32) × (Nat → Int32)) :=
  F4_renew_b2 z z (0 : Int32) c_fields c_forces c_many c_codes c_b_many c_p_drawn c_p_many c_p_all c_p_turns
theorem T4_renew {X : xX} {z : Nat} {c_fields : Int32} {c_forces : (Nat → Int32)} {c_many : (Nat → Int32)} {c_codes : (Nat → Nat → Int32)} {c_b_many : (Nat → Int32)} {c_p_drawn : (Nat → Nat → Int32)} {c_p_many : (Nat → Int32)} {c_p_all : (Nat → Int32)} {c_p_turns : (Nat → Int32)} {c_ties : Int32} {c_worth : (Nat → Int32)} {c_b_list : (Nat → Nat → Int32)} {c_p_list : (Nat → Nat → Int32)} {c_p_weights : (Nat → Nat → Int32)} {v : (Nat → Int32) × (Nat → Nat → Int32) × (Nat → Int32) × (Nat → Nat → Int32) × (Nat → Int32) × (Nat → Int32) × (Nat → Int32)} (hX : xIs (j4_renew) X none none (hS c_fields c_ties c_worth c_forces v.1 v.2.1 c_b_list v.2.2.1 c_p_list c_p_weights v.2.2.2.1 v.2.2.2.2.1 v.2.2.2.2.2.1 v.2.2.2.2.2.2)) (hf : F4_renew z c_fields c_forces c_many c_codes c_b_many c_p_drawn c_p_many c_p_all c_p_turns = some v) : xV (j4_renew) X 0 0 (hS c_fields c_ties c_worth c_forces c_many c_codes c_b_list c_b_many c_p_list c_p_weights c_p_drawn c_p_many c_p_all c_p_turns) 0 [(0, .ref 0)] [] := by
  unfold F4_renew at hf
  refine xV_iconst 1 rfl dX4_renew_0 xy_i0 ?_
  refine xV_istore_n (L' := [(1, .int (0 : Int32)), (0, .ref 0)]) 2 rfl dX4_renew_1 rfl (xlt rfl) rfl ?_
  refine xV_sub [1, 0] rfl ?_
  exact T4_renew_b2 hX _ hf
theorem C4_renew (l : Launch) {z : Nat} {c_fields : Int32} {c_forces : (Nat → Int32)} {c_many : (Nat → Int32)} {c_codes : (Nat → Nat → Int32)} {c_b_many : (Nat → Int32)} {c_p_drawn : (Nat → Nat → Int32)} {c_p_many : (Nat → Int32)} {c_p_all : (Nat → Int32)} {c_p_turns : (Nat → Int32)} {c_ties : Int32} {c_worth : (Nat → Int32)} {c_b_list : (Nat → Nat → Int32)} {c_p_list : (Nat → Nat → Int32)} {c_p_weights : (Nat → Nat → Int32)} {v : (Nat → Int32) × (Nat → Nat → Int32) × (Nat → Int32) × (Nat → Nat → Int32) × (Nat → Int32) × (Nat → Int32) × (Nat → Int32)} (hf : F4_renew z c_fields c_forces c_many c_codes c_b_many c_p_drawn c_p_many c_p_all c_p_turns = some v) : xCt l yX4_renew none j4_renew [.ref 0] (hS c_fields c_ties c_worth c_forces c_many c_codes c_b_list c_b_many c_p_list c_p_weights c_p_drawn c_p_many c_p_all c_p_turns) none (hS c_fields c_ties c_worth c_forces v.1 v.2.1 c_b_list v.2.2.1 c_p_list c_p_weights v.2.2.2.1 v.2.2.2.2.1 v.2.2.2.2.2.1 v.2.2.2.2.2.2) := xCt_of (by decide) rfl (Nat.le_of_ble_eq_true rfl) (fun _ hX => T4_renew hX hf)
theorem m4_renew : xMd yX4_renew RX4 none j4_renew 0 := ⟨List.mem_of_getElem? (i := 325) (by decide +kernel), List.mem_of_getElem? (i := 15) (by decide +kernel), rfl, by decide +kernel⟩
theorem v4_renew : xMv yX4_renew RX4 := ⟨List.mem_of_getElem? (i := 323) (by decide +kernel), List.mem_of_getElem? (i := 324) (by decide +kernel)⟩
theorem dX4_digit_0 : decode cX4_digit 0 = .ok (.iload_n 1, 1) := by decide +kernel
theorem dX4_digit_1 : decode cX4_digit 1 = .ok (.iconst 3, 1) := by decide +kernel
theorem dX4_digit_2 : decode cX4_digit 2 = .ok (.aload_n 0, 1) := by decide +kernel
theorem dX4_digit_3 : decode cX4_digit 3 = .ok (.getfield 38, 3) := by decide +kernel
theorem dX4_digit_6 : decode cX4_digit 6 = .ok (.iconst 1, 1) := by decide +kernel
theorem dX4_digit_7 : decode cX4_digit 7 = .ok (.isub, 1) := by decide +kernel
theorem dX4_digit_8 : decode cX4_digit 8 = .ok (.iload_n 2, 1) := by decide +kernel
theorem dX4_digit_9 : decode cX4_digit 9 = .ok (.isub, 1) := by decide +kernel
theorem dX4_digit_10 : decode cX4_digit 10 = .ok (.imul, 1) := by decide +kernel
theorem dX4_digit_11 : decode cX4_digit 11 = .ok (.ishr, 1) := by decide +kernel
theorem dX4_digit_12 : decode cX4_digit 12 = .ok (.bipush 7, 2) := by decide +kernel
theorem dX4_digit_14 : decode cX4_digit 14 = .ok (.iand, 1) := by decide +kernel
theorem dX4_digit_15 : decode cX4_digit 15 = .ok (.ireturn, 1) := by decide +kernel
abbrev j4_digit : xJ := (cX4_digit, 3, RX4, 1, 0, 0)
def F4_digit (x1 : Int32) (x2 : Int32) (c_fields : Int32) : Option (Int32) :=
  some (((x1 >>> (((3 : Int32) * ((c_fields - (1 : Int32)) - x2)) &&& 31)) &&& (7 : Int32)))
theorem T4_digit {X : xX} {x1 : Int32} {x2 : Int32} {c_fields : Int32} {c_ties : Int32} {c_worth : (Nat → Int32)} {c_forces : (Nat → Int32)} {c_many : (Nat → Int32)} {c_codes : (Nat → Nat → Int32)} {c_b_list : (Nat → Nat → Int32)} {c_b_many : (Nat → Int32)} {c_p_list : (Nat → Nat → Int32)} {c_p_weights : (Nat → Nat → Int32)} {c_p_drawn : (Nat → Nat → Int32)} {c_p_many : (Nat → Int32)} {c_p_all : (Nat → Int32)} {c_p_turns : (Nat → Int32)} {v : Int32} (hX : xIs (j4_digit) X ((some .int)) (some (.int v)) (hS c_fields c_ties c_worth c_forces c_many c_codes c_b_list c_b_many c_p_list c_p_weights c_p_drawn c_p_many c_p_all c_p_turns)) (hf : F4_digit x1 x2 c_fields = some v) : xV (j4_digit) X 0 0 (hS c_fields c_ties c_worth c_forces c_many c_codes c_b_list c_b_many c_p_list c_p_weights c_p_drawn c_p_many c_p_all c_p_turns) 0 [(0, .ref 0), (1, .int x1), (2, .int x2)] [] := by
  unfold F4_digit at hf
  refine xV_iload_n 1 rfl dX4_digit_0 rfl 1 rfl ?_
  refine xV_iconst 2 rfl dX4_digit_1 xy_i3 ?_
  refine xV_aload_n 3 rfl dX4_digit_2 rfl 0 rfl ?_
  refine xV_get (v := .int c_fields) 6 rfl dX4_digit_3 f4_38 rfl rfl ?_
  refine xV_iconst 7 rfl dX4_digit_6 xy_i1 ?_
  refine xV_isub 8 rfl dX4_digit_7 ?_
  refine xV_iload_n 9 rfl dX4_digit_8 rfl 2 rfl ?_
  refine xV_isub 10 rfl dX4_digit_9 ?_
  refine xV_imul 11 rfl dX4_digit_10 ?_
  refine xV_ishr 12 rfl dX4_digit_11 ?_
  refine xV_bipush 14 rfl dX4_digit_12 xy_b7 ?_
  refine xV_iand 15 rfl dX4_digit_14 ?_
  obtain rfl := Option.some.inj hf
  exact xV_iret hX dX4_digit_15 rfl (Nat.zero_le _) (Nat.zero_le _)
theorem C4_digit (l : Launch) {x1 : Int32} {x2 : Int32} {c_fields : Int32} {c_ties : Int32} {c_worth : (Nat → Int32)} {c_forces : (Nat → Int32)} {c_many : (Nat → Int32)} {c_codes : (Nat → Nat → Int32)} {c_b_list : (Nat → Nat → Int32)} {c_b_many : (Nat → Int32)} {c_p_list : (Nat → Nat → Int32)} {c_p_weights : (Nat → Nat → Int32)} {c_p_drawn : (Nat → Nat → Int32)} {c_p_many : (Nat → Int32)} {c_p_all : (Nat → Int32)} {c_p_turns : (Nat → Int32)} {v : Int32} (hf : F4_digit x1 x2 c_fields = some v) : xCt l yX4_digit ((some .int)) j4_digit [.ref 0, .int x1, .int x2] (hS c_fields c_ties c_worth c_forces c_many c_codes c_b_list c_b_many c_p_list c_p_weights c_p_drawn c_p_many c_p_all c_p_turns) (some (.int v)) (hS c_fields c_ties c_worth c_forces c_many c_codes c_b_list c_b_many c_p_list c_p_weights c_p_drawn c_p_many c_p_all c_p_turns) := xCt_of (by decide) rfl (Nat.le_of_ble_eq_true rfl) (fun _ hX => T4_digit hX hf)
theorem m4_digit : xMd yX4_digit RX4 ((some .int)) j4_digit 2 := ⟨List.mem_of_getElem? (i := 615) (by decide +kernel), List.mem_of_getElem? (i := 15) (by decide +kernel), rfl, by decide +kernel⟩
theorem v4_digit : xMv yX4_digit RX4 := ⟨List.mem_of_getElem? (i := 613) (by decide +kernel), List.mem_of_getElem? (i := 614) (by decide +kernel)⟩
theorem dX4_oneOn_0 : decode cX4_oneOn 0 = .ok (.iconst 1, 1) := by decide +kernel
theorem dX4_oneOn_1 : decode cX4_oneOn 1 = .ok (.iconst 3, 1) := by decide +kernel
theorem dX4_oneOn_2 : decode cX4_oneOn 2 = .ok (.aload_n 0, 1) := by decide +kernel
theorem dX4_oneOn_3 : decode cX4_oneOn 3 = .ok (.getfield 38, 3) := by decide +kernel
theorem dX4_oneOn_6 : decode cX4_oneOn 6 = .ok (.iconst 1, 1) := by decide +kernel
theorem dX4_oneOn_7 : decode cX4_oneOn 7 = .ok (.isub, 1) := by decide +kernel
theorem dX4_oneOn_8 : decode cX4_oneOn 8 = .ok (.iload_n 1, 1) := by decide +kernel
theorem dX4_oneOn_9 : decode cX4_oneOn 9 = .ok (.isub, 1) := by decide +kernel
theorem dX4_oneOn_10 : decode cX4_oneOn 10 = .ok (.imul, 1) := by decide +kernel
theorem dX4_oneOn_11 : decode cX4_oneOn 11 = .ok (.ishl, 1) := by decide +kernel
theorem dX4_oneOn_12 : decode cX4_oneOn 12 = .ok (.ireturn, 1) := by decide +kernel
abbrev j4_oneOn : xJ := (cX4_oneOn, 2, RX4, 1, 0, 0)
def F4_oneOn (x1 : Int32) (c_fields : Int32) : Option (Int32) :=
  some (((1 : Int32) <<< (((3 : Int32) * ((c_fields - (1 : Int32)) - x1)) &&& 31)))
theorem T4_oneOn {X : xX} {x1 : Int32} {c_fields : Int32} {c_ties : Int32} {c_worth : (Nat → Int32)} {c_forces : (Nat → Int32)} {c_many : (Nat → Int32)} {c_codes : (Nat → Nat → Int32)} {c_b_list : (Nat → Nat → Int32)} {c_b_many : (Nat → Int32)} {c_p_list : (Nat → Nat → Int32)} {c_p_weights : (Nat → Nat → Int32)} {c_p_drawn : (Nat → Nat → Int32)} {c_p_many : (Nat → Int32)} {c_p_all : (Nat → Int32)} {c_p_turns : (Nat → Int32)} {v : Int32} (hX : xIs (j4_oneOn) X ((some .int)) (some (.int v)) (hS c_fields c_ties c_worth c_forces c_many c_codes c_b_list c_b_many c_p_list c_p_weights c_p_drawn c_p_many c_p_all c_p_turns)) (hf : F4_oneOn x1 c_fields = some v) : xV (j4_oneOn) X 0 0 (hS c_fields c_ties c_worth c_forces c_many c_codes c_b_list c_b_many c_p_list c_p_weights c_p_drawn c_p_many c_p_all c_p_turns) 0 [(0, .ref 0), (1, .int x1)] [] := by
  unfold F4_oneOn at hf
  refine xV_iconst 1 rfl dX4_oneOn_0 xy_i1 ?_
  refine xV_iconst 2 rfl dX4_oneOn_1 xy_i3 ?_
  refine xV_aload_n 3 rfl dX4_oneOn_2 rfl 0 rfl ?_
  refine xV_get (v := .int c_fields) 6 rfl dX4_oneOn_3 f4_38 rfl rfl ?_
  refine xV_iconst 7 rfl dX4_oneOn_6 xy_i1 ?_
  refine xV_isub 8 rfl dX4_oneOn_7 ?_
  refine xV_iload_n 9 rfl dX4_oneOn_8 rfl 1 rfl ?_
  refine xV_isub 10 rfl dX4_oneOn_9 ?_
  refine xV_imul 11 rfl dX4_oneOn_10 ?_
  refine xV_ishl 12 rfl dX4_oneOn_11 ?_
  obtain rfl := Option.some.inj hf
  exact xV_iret hX dX4_oneOn_12 rfl (Nat.zero_le _) (Nat.zero_le _)
theorem C4_oneOn (l : Launch) {x1 : Int32} {c_fields : Int32} {c_ties : Int32} {c_worth : (Nat → Int32)} {c_forces : (Nat → Int32)} {c_many : (Nat → Int32)} {c_codes : (Nat → Nat → Int32)} {c_b_list : (Nat → Nat → Int32)} {c_b_many : (Nat → Int32)} {c_p_list : (Nat → Nat → Int32)} {c_p_weights : (Nat → Nat → Int32)} {c_p_drawn : (Nat → Nat → Int32)} {c_p_many : (Nat → Int32)} {c_p_all : (Nat → Int32)} {c_p_turns : (Nat → Int32)} {v : Int32} (hf : F4_oneOn x1 c_fields = some v) : xCt l yX4_oneOn ((some .int)) j4_oneOn [.ref 0, .int x1] (hS c_fields c_ties c_worth c_forces c_many c_codes c_b_list c_b_many c_p_list c_p_weights c_p_drawn c_p_many c_p_all c_p_turns) (some (.int v)) (hS c_fields c_ties c_worth c_forces c_many c_codes c_b_list c_b_many c_p_list c_p_weights c_p_drawn c_p_many c_p_all c_p_turns) := xCt_of (by decide) rfl (Nat.le_of_ble_eq_true rfl) (fun _ hX => T4_oneOn hX hf)
theorem m4_oneOn : xMd yX4_oneOn RX4 ((some .int)) j4_oneOn 1 := ⟨List.mem_of_getElem? (i := 639) (by decide +kernel), List.mem_of_getElem? (i := 15) (by decide +kernel), rfl, by decide +kernel⟩
theorem v4_oneOn : xMv yX4_oneOn RX4 := ⟨List.mem_of_getElem? (i := 637) (by decide +kernel), List.mem_of_getElem? (i := 638) (by decide +kernel)⟩
theorem xy_in0_4 : vp_in (0 : Int32) 4 := xin_ok (by decide)
theorem dX4_allWorth_0 : decode cX4_allWorth 0 = .ok (.iconst 0, 1) := by decide +kernel
theorem dX4_allWorth_1 : decode cX4_allWorth 1 = .ok (.istore_n 1, 1) := by decide +kernel
theorem dX4_allWorth_2 : decode cX4_allWorth 2 = .ok (.iconst 0, 1) := by decide +kernel
theorem dX4_allWorth_3 : decode cX4_allWorth 3 = .ok (.istore_n 2, 1) := by decide +kernel
theorem dX4_allWorth_4 : decode cX4_allWorth 4 = .ok (.iload_n 2, 1) := by decide +kernel
theorem dX4_allWorth_5 : decode cX4_allWorth 5 = .ok (.aload_n 0, 1) := by decide +kernel
theorem dX4_allWorth_6 : decode cX4_allWorth 6 = .ok (.getfield 38, 3) := by decide +kernel
theorem dX4_allWorth_9 : decode cX4_allWorth 9 = .ok (.if_icmp .ge 18, 3) := by decide +kernel
theorem dX4_allWorth_12 : decode cX4_allWorth 12 = .ok (.iload_n 1, 1) := by decide +kernel
theorem dX4_allWorth_13 : decode cX4_allWorth 13 = .ok (.aload_n 0, 1) := by decide +kernel
theorem dX4_allWorth_14 : decode cX4_allWorth 14 = .ok (.getfield 9, 3) := by decide +kernel
theorem dX4_allWorth_17 : decode cX4_allWorth 17 = .ok (.iload_n 2, 1) := by decide +kernel
theorem dX4_allWorth_18 : decode cX4_allWorth 18 = .ok (.iaload, 1) := by decide +kernel
theorem dX4_allWorth_19 : decode cX4_allWorth 19 = .ok (.iadd, 1) := by decide +kernel
theorem dX4_allWorth_20 : decode cX4_allWorth 20 = .ok (.istore_n 1, 1) := by decide +kernel
theorem dX4_allWorth_21 : decode cX4_allWorth 21 = .ok (.iinc 2 1, 3) := by decide +kernel
theorem dX4_allWorth_24 : decode cX4_allWorth 24 = .ok (.goto (-20), 3) := by decide +kernel
theorem dX4_allWorth_27 : decode cX4_allWorth 27 = .ok (.iload_n 1, 1) := by decide +kernel
theorem dX4_allWorth_28 : decode cX4_allWorth 28 = .ok (.ireturn, 1) := by decide +kernel
abbrev j4_allWorth : xJ := (cX4_allWorth, 3, RX4, 1, 0, 0)
def F4_allWorth_b4 (z : Nat) (w : Nat) (x1 : Int32) (x2 : Int32) (c_fields : Int32) (c_worth : (Nat → Int32)) : Option (Int32) := match w with
  | 0 => none
  | w + 1 => if c_fields ≤ x2 then (some (x1)) else (xg (xin x2 4) (F4_allWorth_b4 z w (x1 + (c_worth (xn x2))) (x2 + (1 : Int32)) c_fields c_worth))
theorem T4_allWorth_b4 {X : xX} {c_fields : Int32} {c_ties : Int32} {c_worth : (Nat → Int32)} {c_forces : (Nat → Int32)} {c_many : (Nat → Int32)} {c_codes : (Nat → Nat → Int32)} {c_b_list : (Nat → Nat → Int32)} {c_b_many : (Nat → Int32)} {c_p_list : (Nat → Nat → Int32)} {c_p_weights : (Nat → Nat → Int32)} {c_p_drawn : (Nat → Nat → Int32)} {c_p_many : (Nat → Int32)} {c_p_all : (Nat → Int32)} {c_p_turns : (Nat → Int32)} {z : Nat} {v : Int32} (hX : xIs (j4_allWorth) X ((some .int)) (some (.int v)) (hS c_fields c_ties c_worth c_forces c_many c_codes c_b_list c_b_many c_p_list c_p_weights c_p_drawn c_p_many c_p_all c_p_turns)) : ∀ (w : Nat) {x1 : Int32} {x2 : Int32}, F4_allWorth_b4 z w x1 x2 c_fields c_worth = some v → xV (j4_allWorth) X 0 0 (hS c_fields c_ties c_worth c_forces c_many c_codes c_b_list c_b_many c_p_list c_p_weights c_p_drawn c_p_many c_p_all c_p_turns) 4 [(0, .ref 0), (1, .int x1), (2, .int x2)] [] := by
  intro w
  induction w with
  | zero => intro x1 x2 hf; cases hf
  | succ w ih =>
    intro x1 x2 hf
    unfold F4_allWorth_b4 at hf
    refine xV_iload_n 5 rfl dX4_allWorth_4 rfl 2 rfl ?_
    refine xV_aload_n 6 rfl dX4_allWorth_5 rfl 0 rfl ?_
    refine xV_get (v := .int c_fields) 9 rfl dX4_allWorth_6 f4_38 rfl rfl ?_
    refine xV_icmp_ge (tgt := 27) 12 rfl dX4_allWorth_9 (by decide) (fun h9 => ?_) (fun h9 => ?_)
    · have hf := xif_t hf h9
      refine xV_iload_n 28 rfl dX4_allWorth_27 rfl 1 rfl ?_
      obtain rfl := Option.some.inj hf
      exact xV_iret hX dX4_allWorth_28 rfl (Nat.zero_le _) (Nat.zero_le _)
    · have hf := xif_f hf h9
      refine xV_iload_n 13 rfl dX4_allWorth_12 rfl 1 rfl ?_
      refine xV_aload_n 14 rfl dX4_allWorth_13 rfl 0 rfl ?_
      refine xV_get (v := .ref 1) 17 rfl dX4_allWorth_14 f4_9 rfl rfl ?_
      refine xV_iload_n 18 rfl dX4_allWorth_17 rfl 2 rfl ?_
      obtain ⟨hg18, hf⟩ := xg_s hf
      refine xV_iaload 19 rfl dX4_allWorth_18 rfl (xin_ok hg18) rfl ?_
      refine xV_iadd 20 rfl dX4_allWorth_19 ?_
      refine xV_istore_n (L' := [(1, .int (x1 + (c_worth (xn x2)))), (0, .ref 0), (2, .int x2)]) 21 rfl dX4_allWorth_20 rfl (xlt rfl) rfl ?_
      refine xV_iinc (L' := [(2, .int (x2 + (1 : Int32))), (1, .int (x1 + (c_worth (xn x2)))), (0, .ref 0)]) 24 rfl dX4_allWorth_21 2 rfl (xk_inc xy_i1) (xlt rfl) rfl ?_
      refine xV_goto (tgt := 4) dX4_allWorth_24 (by decide) ?_
      refine xV_sub [2, 1, 0] rfl ?_
      exact ih hf
def F4_allWorth (z : Nat) (c_fields : Int32) (c_worth : (Nat → Int32)) : Option (Int32) :=
  F4_allWorth_b4 z z (0 : Int32) (0 : Int32) c_fields c_worth
theorem T4_allWorth {X : xX} {z : Nat} {c_fields : Int32} {c_worth : (Nat → Int32)} {c_ties : Int32} {c_forces : (Nat → Int32)} {c_many : (Nat → Int32)} {c_codes : (Nat → Nat → Int32)} {c_b_list : (Nat → Nat → Int32)} {c_b_many : (Nat → Int32)} {c_p_list : (Nat → Nat → Int32)} {c_p_weights : (Nat → Nat → Int32)} {c_p_drawn : (Nat → Nat → Int32)} {c_p_many : (Nat → Int32)} {c_p_all : (Nat → Int32)} {c_p_turns : (Nat → Int32)} {v : Int32} (hX : xIs (j4_allWorth) X ((some .int)) (some (.int v)) (hS c_fields c_ties c_worth c_forces c_many c_codes c_b_list c_b_many c_p_list c_p_weights c_p_drawn c_p_many c_p_all c_p_turns)) (hf : F4_allWorth z c_fields c_worth = some v) : xV (j4_allWorth) X 0 0 (hS c_fields c_ties c_worth c_forces c_many c_codes c_b_list c_b_many c_p_list c_p_weights c_p_drawn c_p_many c_p_all c_p_turns) 0 [(0, .ref 0)] [] := by
  unfold F4_allWorth at hf
  refine xV_iconst 1 rfl dX4_allWorth_0 xy_i0 ?_
  refine xV_istore_n (L' := [(1, .int (0 : Int32)), (0, .ref 0)]) 2 rfl dX4_allWorth_1 rfl (xlt rfl) rfl ?_
  refine xV_iconst 3 rfl dX4_allWorth_2 xy_i0 ?_
  refine xV_istore_n (L' := [(2, .int (0 : Int32)), (1, .int (0 : Int32)), (0, .ref 0)]) 4 rfl dX4_allWorth_3 rfl (xlt rfl) rfl ?_
  refine xV_sub [2, 1, 0] rfl ?_
  exact T4_allWorth_b4 hX _ hf
theorem C4_allWorth (l : Launch) {z : Nat} {c_fields : Int32} {c_worth : (Nat → Int32)} {c_ties : Int32} {c_forces : (Nat → Int32)} {c_many : (Nat → Int32)} {c_codes : (Nat → Nat → Int32)} {c_b_list : (Nat → Nat → Int32)} {c_b_many : (Nat → Int32)} {c_p_list : (Nat → Nat → Int32)} {c_p_weights : (Nat → Nat → Int32)} {c_p_drawn : (Nat → Nat → Int32)} {c_p_many : (Nat → Int32)} {c_p_all : (Nat → Int32)} {c_p_turns : (Nat → Int32)} {v : Int32} (hf : F4_allWorth z c_fields c_worth = some v) : xCt l yX4_allWorth ((some .int)) j4_allWorth [.ref 0] (hS c_fields c_ties c_worth c_forces c_many c_codes c_b_list c_b_many c_p_list c_p_weights c_p_drawn c_p_many c_p_all c_p_turns) (some (.int v)) (hS c_fields c_ties c_worth c_forces c_many c_codes c_b_list c_b_many c_p_list c_p_weights c_p_drawn c_p_many c_p_all c_p_turns) := xCt_of (by decide) rfl (Nat.le_of_ble_eq_true rfl) (fun _ hX => T4_allWorth hX hf)
theorem m4_allWorth : xMd yX4_allWorth RX4 ((some .int)) j4_allWorth 0 := ⟨List.mem_of_getElem? (i := 510) (by decide +kernel), List.mem_of_getElem? (i := 15) (by decide +kernel), rfl, by decide +kernel⟩
theorem v4_allWorth : xMv yX4_allWorth RX4 := ⟨List.mem_of_getElem? (i := 508) (by decide +kernel), List.mem_of_getElem? (i := 509) (by decide +kernel)⟩
theorem kn4_73 : (RX4, 73, yX9_isSide) ∈ xNl := List.mem_of_getElem? (i := 0) rfl
theorem dX4_isSplit_0 : decode cX4_isSplit 0 = .ok (.iload_n 1, 1) := by decide +kernel
theorem dX4_isSplit_1 : decode cX4_isSplit 1 = .ok (.invokestatic 73, 3) := by decide +kernel
theorem dX4_isSplit_4 : decode cX4_isSplit 4 = .ok (.ifCond .eq 21, 3) := by decide +kernel
theorem dX4_isSplit_7 : decode cX4_isSplit 7 = .ok (.iload_n 2, 1) := by decide +kernel
theorem dX4_isSplit_8 : decode cX4_isSplit 8 = .ok (.ifCond .lt 17, 3) := by decide +kernel
theorem dX4_isSplit_11 : decode cX4_isSplit 11 = .ok (.iload_n 2, 1) := by decide +kernel
theorem dX4_isSplit_12 : decode cX4_isSplit 12 = .ok (.aload_n 0, 1) := by decide +kernel
theorem dX4_isSplit_13 : decode cX4_isSplit 13 = .ok (.getfield 18, 3) := by decide +kernel
theorem dX4_isSplit_16 : decode cX4_isSplit 16 = .ok (.iload_n 1, 1) := by decide +kernel
theorem dX4_isSplit_17 : decode cX4_isSplit 17 = .ok (.iaload, 1) := by decide +kernel
theorem dX4_isSplit_18 : decode cX4_isSplit 18 = .ok (.if_icmp .ge 7, 3) := by decide +kernel
theorem dX4_isSplit_21 : decode cX4_isSplit 21 = .ok (.iconst 1, 1) := by decide +kernel
theorem dX4_isSplit_22 : decode cX4_isSplit 22 = .ok (.goto 4, 3) := by decide +kernel
theorem dX4_isSplit_25 : decode cX4_isSplit 25 = .ok (.iconst 0, 1) := by decide +kernel
theorem dX4_isSplit_26 : decode cX4_isSplit 26 = .ok (.ireturn, 1) := by decide +kernel
abbrev j4_isSplit : xJ := (cX4_isSplit, 3, RX4, 2, 0, 0)
def F4_isSplit (x1 : Int32) (x2 : Int32) (c_many : (Nat → Int32)) : Option (Int32) :=
  (F9_isSide x1).bind (fun v1 => if v1 = 0 then (some ((0 : Int32))) else (if x2 < 0 then (some ((0 : Int32))) else (xg (xin x1 2) (if (c_many (xn x1)) ≤ x2 then (some ((0 : Int32))) else (some ((1 : Int32)))))))
theorem T4_isSplit {X : xX} {x1 : Int32} {x2 : Int32} {c_many : (Nat → Int32)} {c_fields : Int32} {c_ties : Int32} {c_worth : (Nat → Int32)} {c_forces : (Nat → Int32)} {c_codes : (Nat → Nat → Int32)} {c_b_list : (Nat → Nat → Int32)} {c_b_many : (Nat → Int32)} {c_p_list : (Nat → Nat → Int32)} {c_p_weights : (Nat → Nat → Int32)} {c_p_drawn : (Nat → Nat → Int32)} {c_p_many : (Nat → Int32)} {c_p_all : (Nat → Int32)} {c_p_turns : (Nat → Int32)} {v : Int32} (hX : xIs (j4_isSplit) X ((some .boolean)) (some (.int v)) (hS c_fields c_ties c_worth c_forces c_many c_codes c_b_list c_b_many c_p_list c_p_weights c_p_drawn c_p_many c_p_all c_p_turns)) (hf : F4_isSplit x1 x2 c_many = some v) : xV (j4_isSplit) X 0 0 (hS c_fields c_ties c_worth c_forces c_many c_codes c_b_list c_b_many c_p_list c_p_weights c_p_drawn c_p_many c_p_all c_p_turns) 0 [(0, .ref 0), (1, .int x1), (2, .int x2)] [] := by
  unfold F4_isSplit at hf
  refine xV_iload_n 1 rfl dX4_isSplit_0 rfl 1 rfl ?_
  obtain ⟨v1, hv1, hf⟩ := xb_s hf
  refine xV_stN (rest := []) 4 rfl dX4_isSplit_1 rfl (C9_isSide X.1.2.1 hv1) m9_isSide s9_isSide kn4_73 rfl (Nat.le_of_ble_eq_true rfl) (Nat.le_of_ble_eq_true rfl) (Nat.le_of_ble_eq_true rfl) ⟨Nat.le_refl _, Nat.le_refl _⟩ ?_
  show xV (j4_isSplit) X 0 0 (hS c_fields c_ties c_worth c_forces c_many c_codes c_b_list c_b_many c_p_list c_p_weights c_p_drawn c_p_many c_p_all c_p_turns) 4 [(0, .ref 0), (1, .int x1), (2, .int x2)] [.int v1]
  refine xV_if_eq (tgt := 25) 7 rfl dX4_isSplit_4 (by decide) (fun h4 => ?_) (fun h4 => ?_)
  · have hf := xif_t hf h4
    refine xV_iconst 26 rfl dX4_isSplit_25 xy_i0 ?_
    obtain rfl := Option.some.inj hf
    exact xV_iret hX dX4_isSplit_26 (xbo_ok rfl) (Nat.zero_le _) (Nat.zero_le _)
  · have hf := xif_f hf h4
    refine xV_iload_n 8 rfl dX4_isSplit_7 rfl 2 rfl ?_
    refine xV_if_lt (tgt := 25) 11 rfl dX4_isSplit_8 (by decide) (fun h8 => ?_) (fun h8 => ?_)
    · have hf := xif_t hf h8
      refine xV_iconst 26 rfl dX4_isSplit_25 xy_i0 ?_
      obtain rfl := Option.some.inj hf
      exact xV_iret hX dX4_isSplit_26 (xbo_ok rfl) (Nat.zero_le _) (Nat.zero_le _)
    · have hf := xif_f hf h8
      refine xV_iload_n 12 rfl dX4_isSplit_11 rfl 2 rfl ?_
      refine xV_aload_n 13 rfl dX4_isSplit_12 rfl 0 rfl ?_
      refine xV_get (v := .ref 3) 16 rfl dX4_isSplit_13 f4_18 rfl rfl ?_
      refine xV_iload_n 17 rfl dX4_isSplit_16 rfl 1 rfl ?_
      obtain ⟨hg17, hf⟩ := xg_s hf
      refine xV_iaload 18 rfl dX4_isSplit_17 rfl (xin_ok hg17) rfl ?_
      refine xV_icmp_ge (tgt := 25) 21 rfl dX4_isSplit_18 (by decide) (fun h18 => ?_) (fun h18 => ?_)
      · have hf := xif_t hf h18
        refine xV_iconst 26 rfl dX4_isSplit_25 xy_i0 ?_
        obtain rfl := Option.some.inj hf
        exact xV_iret hX dX4_isSplit_26 (xbo_ok rfl) (Nat.zero_le _) (Nat.zero_le _)
      · have hf := xif_f hf h18
        refine xV_iconst 22 rfl dX4_isSplit_21 xy_i1 ?_
        refine xV_goto (tgt := 26) dX4_isSplit_22 (by decide) ?_
        obtain rfl := Option.some.inj hf
        exact xV_iret hX dX4_isSplit_26 (xbo_ok rfl) (Nat.zero_le _) (Nat.zero_le _)
theorem C4_isSplit (l : Launch) {x1 : Int32} {x2 : Int32} {c_many : (Nat → Int32)} {c_fields : Int32} {c_ties : Int32} {c_worth : (Nat → Int32)} {c_forces : (Nat → Int32)} {c_codes : (Nat → Nat → Int32)} {c_b_list : (Nat → Nat → Int32)} {c_b_many : (Nat → Int32)} {c_p_list : (Nat → Nat → Int32)} {c_p_weights : (Nat → Nat → Int32)} {c_p_drawn : (Nat → Nat → Int32)} {c_p_many : (Nat → Int32)} {c_p_all : (Nat → Int32)} {c_p_turns : (Nat → Int32)} {v : Int32} (hf : F4_isSplit x1 x2 c_many = some v) : xCt l yX4_isSplit ((some .boolean)) j4_isSplit [.ref 0, .int x1, .int x2] (hS c_fields c_ties c_worth c_forces c_many c_codes c_b_list c_b_many c_p_list c_p_weights c_p_drawn c_p_many c_p_all c_p_turns) (some (.int v)) (hS c_fields c_ties c_worth c_forces c_many c_codes c_b_list c_b_many c_p_list c_p_weights c_p_drawn c_p_many c_p_all c_p_turns) := xCt_of (by decide) rfl (Nat.le_of_ble_eq_true rfl) (fun _ hX => T4_isSplit hX hf)
theorem m4_isSplit : xMd yX4_isSplit RX4 ((some .boolean)) j4_isSplit 2 := ⟨List.mem_of_getElem? (i := 578) (by decide +kernel), List.mem_of_getElem? (i := 15) (by decide +kernel), rfl, by decide +kernel⟩
theorem v4_isSplit : xMv yX4_isSplit RX4 := ⟨List.mem_of_getElem? (i := 576) (by decide +kernel), List.mem_of_getElem? (i := 577) (by decide +kernel)⟩
theorem dX4_numberOf_0 : decode cX4_numberOf 0 = .ok (.iconst 0, 1) := by decide +kernel
theorem dX4_numberOf_1 : decode cX4_numberOf 1 = .ok (.istore_n 3, 1) := by decide +kernel
theorem dX4_numberOf_2 : decode cX4_numberOf 2 = .ok (.iload_n 3, 1) := by decide +kernel
theorem dX4_numberOf_3 : decode cX4_numberOf 3 = .ok (.aload_n 0, 1) := by decide +kernel
theorem dX4_numberOf_4 : decode cX4_numberOf 4 = .ok (.getfield 18, 3) := by decide +kernel
theorem dX4_numberOf_7 : decode cX4_numberOf 7 = .ok (.iload_n 1, 1) := by decide +kernel
theorem dX4_numberOf_8 : decode cX4_numberOf 8 = .ok (.iaload, 1) := by decide +kernel
theorem dX4_numberOf_9 : decode cX4_numberOf 9 = .ok (.if_icmp .ge 23, 3) := by decide +kernel
theorem dX4_numberOf_12 : decode cX4_numberOf 12 = .ok (.aload_n 0, 1) := by decide +kernel
theorem dX4_numberOf_13 : decode cX4_numberOf 13 = .ok (.getfield 23, 3) := by decide +kernel
theorem dX4_numberOf_16 : decode cX4_numberOf 16 = .ok (.iload_n 1, 1) := by decide +kernel
theorem dX4_numberOf_17 : decode cX4_numberOf 17 = .ok (.aaload, 1) := by decide +kernel
theorem dX4_numberOf_18 : decode cX4_numberOf 18 = .ok (.iload_n 3, 1) := by decide +kernel
theorem dX4_numberOf_19 : decode cX4_numberOf 19 = .ok (.iaload, 1) := by decide +kernel
theorem dX4_numberOf_20 : decode cX4_numberOf 20 = .ok (.iload_n 2, 1) := by decide +kernel
theorem dX4_numberOf_21 : decode cX4_numberOf 21 = .ok (.if_icmp .ne 5, 3) := by decide +kernel
theorem dX4_numberOf_24 : decode cX4_numberOf 24 = .ok (.iload_n 3, 1) := by decide +kernel
theorem dX4_numberOf_25 : decode cX4_numberOf 25 = .ok (.ireturn, 1) := by decide +kernel
theorem dX4_numberOf_26 : decode cX4_numberOf 26 = .ok (.iinc 3 1, 3) := by decide +kernel
theorem dX4_numberOf_29 : decode cX4_numberOf 29 = .ok (.goto (-27), 3) := by decide +kernel
theorem dX4_numberOf_32 : decode cX4_numberOf 32 = .ok (.iconst (-1), 1) := by decide +kernel
theorem dX4_numberOf_33 : decode cX4_numberOf 33 = .ok (.ireturn, 1) := by decide +kernel
abbrev j4_numberOf : xJ := (cX4_numberOf, 4, RX4, 1, 0, 0)
def F4_numberOf_b2 (z : Nat) (w : Nat) (x1 : Int32) (x2 : Int32) (x3 : Int32) (c_many : (Nat → Int32)) (c_codes : (Nat → Nat → Int32)) : Option (Int32) := match w with
  | 0 => none
  | w + 1 => xg (xin x1 2) (if (c_many (xn x1)) ≤ x3 then (some ((-1 : Int32))) else (xg (xin x1 2) (xg (xin x3 120) (if ((c_codes (xn x1)) (xn x3)) = x2 then (some (x3)) else (F4_numberOf_b2 z w x1 x2 (x3 + (1 : Int32)) c_many c_codes)))))
theorem T4_numberOf_b2 {X : xX} {c_fields : Int32} {c_ties : Int32} {c_worth : (Nat → Int32)} {c_forces : (Nat → Int32)} {c_many : (Nat → Int32)} {c_codes : (Nat → Nat → Int32)} {c_b_list : (Nat → Nat → Int32)} {c_b_many : (Nat → Int32)} {c_p_list : (Nat → Nat → Int32)} {c_p_weights : (Nat → Nat → Int32)} {c_p_drawn : (Nat → Nat → Int32)} {c_p_many : (Nat → Int32)} {c_p_all : (Nat → Int32)} {c_p_turns : (Nat → Int32)} {z : Nat} {v : Int32} (hX : xIs (j4_numberOf) X ((some .int)) (some (.int v)) (hS c_fields c_ties c_worth c_forces c_many c_codes c_b_list c_b_many c_p_list c_p_weights c_p_drawn c_p_many c_p_all c_p_turns)) : ∀ (w : Nat) {x1 : Int32} {x2 : Int32} {x3 : Int32}, F4_numberOf_b2 z w x1 x2 x3 c_many c_codes = some v → xV (j4_numberOf) X 0 0 (hS c_fields c_ties c_worth c_forces c_many c_codes c_b_list c_b_many c_p_list c_p_weights c_p_drawn c_p_many c_p_all c_p_turns) 2 [(0, .ref 0), (1, .int x1), (2, .int x2), (3, .int x3)] [] := by
  intro w
  induction w with
  | zero => intro x1 x2 x3 hf; cases hf
  | succ w ih =>
    intro x1 x2 x3 hf
    unfold F4_numberOf_b2 at hf
    refine xV_iload_n 3 rfl dX4_numberOf_2 rfl 3 rfl ?_
    refine xV_aload_n 4 rfl dX4_numberOf_3 rfl 0 rfl ?_
    refine xV_get (v := .ref 3) 7 rfl dX4_numberOf_4 f4_18 rfl rfl ?_
    refine xV_iload_n 8 rfl dX4_numberOf_7 rfl 1 rfl ?_
    obtain ⟨hg8, hf⟩ := xg_s hf
    refine xV_iaload 9 rfl dX4_numberOf_8 rfl (xin_ok hg8) rfl ?_
    refine xV_icmp_ge (tgt := 32) 12 rfl dX4_numberOf_9 (by decide) (fun h9 => ?_) (fun h9 => ?_)
    · have hf := xif_t hf h9
      refine xV_iconst 33 rfl dX4_numberOf_32 xy_im1 ?_
      obtain rfl := Option.some.inj hf
      exact xV_iret hX dX4_numberOf_33 rfl (Nat.zero_le _) (Nat.zero_le _)
    · have hf := xif_f hf h9
      refine xV_aload_n 13 rfl dX4_numberOf_12 rfl 0 rfl ?_
      refine xV_get (v := .ref 4) 16 rfl dX4_numberOf_13 f4_23 rfl rfl ?_
      refine xV_iload_n 17 rfl dX4_numberOf_16 rfl 1 rfl ?_
      obtain ⟨hg17, hf⟩ := xg_s hf
      refine xV_aaload (b := (5 + (xn x1))) 18 rfl dX4_numberOf_17 rfl rfl rfl (xin_ok hg17) (by show ([5, 6] : List Nat)[(xn x1)]? = some (5 + (xn x1)); have hi := xin_lt hg17; generalize (xn x1) = i at hi ⊢; match i, hi with | 0, _ => rfl | 1, _ => rfl) ?_
      refine xV_iload_n 19 rfl dX4_numberOf_18 rfl 3 rfl ?_
      obtain ⟨hg19, hf⟩ := xg_s hf
      refine xV_iaload (f := (c_codes (xn x1))) (z := 120) 20 rfl dX4_numberOf_19 (by have hi := (xin_lt hg17); generalize (xn x1) = i at hi ⊢; match i, hi with | 0, _ => exact rfl | 1, _ => exact rfl) (xin_ok hg19) rfl ?_
      refine xV_iload_n 21 rfl dX4_numberOf_20 rfl 2 rfl ?_
      refine xV_icmp_ne (tgt := 26) 24 rfl dX4_numberOf_21 (by decide) (fun h21 => ?_) (fun h21 => ?_)
      · have hf := xif_f hf h21
        refine xV_iinc (L' := [(3, .int (x3 + (1 : Int32))), (0, .ref 0), (1, .int x1), (2, .int x2)]) 29 rfl dX4_numberOf_26 3 rfl (xk_inc xy_i1) (xlt rfl) rfl ?_
        refine xV_goto (tgt := 2) dX4_numberOf_29 (by decide) ?_
        refine xV_sub [1, 2, 3, 0] rfl ?_
        exact ih hf
      · have hf := xif_t hf h21
        refine xV_iload_n 25 rfl dX4_numberOf_24 rfl 3 rfl ?_
        obtain rfl := Option.some.inj hf
        exact xV_iret hX dX4_numberOf_25 rfl (Nat.zero_le _) (Nat.zero_le _)
def F4_numberOf (z : Nat) (x1 : Int32) (x2 : Int32) (c_many : (Nat → Int32)) (c_codes : (Nat → Nat → Int32)) : Option (Int32) :=
  F4_numberOf_b2 z z x1 x2 (0 : Int32) c_many c_codes
theorem T4_numberOf {X : xX} {z : Nat} {x1 : Int32} {x2 : Int32} {c_many : (Nat → Int32)} {c_codes : (Nat → Nat → Int32)} {c_fields : Int32} {c_ties : Int32} {c_worth : (Nat → Int32)} {c_forces : (Nat → Int32)} {c_b_list : (Nat → Nat → Int32)} {c_b_many : (Nat → Int32)} {c_p_list : (Nat → Nat → Int32)} {c_p_weights : (Nat → Nat → Int32)} {c_p_drawn : (Nat → Nat → Int32)} {c_p_many : (Nat → Int32)} {c_p_all : (Nat → Int32)} {c_p_turns : (Nat → Int32)} {v : Int32} (hX : xIs (j4_numberOf) X ((some .int)) (some (.int v)) (hS c_fields c_ties c_worth c_forces c_many c_codes c_b_list c_b_many c_p_list c_p_weights c_p_drawn c_p_many c_p_all c_p_turns)) (hf : F4_numberOf z x1 x2 c_many c_codes = some v) : xV (j4_numberOf) X 0 0 (hS c_fields c_ties c_worth c_forces c_many c_codes c_b_list c_b_many c_p_list c_p_weights c_p_drawn c_p_many c_p_all c_p_turns) 0 [(0, .ref 0), (1, .int x1), (2, .int x2)] [] := by
  unfold F4_numberOf at hf
  refine xV_iconst 1 rfl dX4_numberOf_0 xy_i0 ?_
  refine xV_istore_n (L' := [(3, .int (0 : Int32)), (0, .ref 0), (1, .int x1), (2, .int x2)]) 2 rfl dX4_numberOf_1 rfl (xlt rfl) rfl ?_
  refine xV_sub [1, 2, 3, 0] rfl ?_
  exact T4_numberOf_b2 hX _ hf
theorem C4_numberOf (l : Launch) {z : Nat} {x1 : Int32} {x2 : Int32} {c_many : (Nat → Int32)} {c_codes : (Nat → Nat → Int32)} {c_fields : Int32} {c_ties : Int32} {c_worth : (Nat → Int32)} {c_forces : (Nat → Int32)} {c_b_list : (Nat → Nat → Int32)} {c_b_many : (Nat → Int32)} {c_p_list : (Nat → Nat → Int32)} {c_p_weights : (Nat → Nat → Int32)} {c_p_drawn : (Nat → Nat → Int32)} {c_p_many : (Nat → Int32)} {c_p_all : (Nat → Int32)} {c_p_turns : (Nat → Int32)} {v : Int32} (hf : F4_numberOf z x1 x2 c_many c_codes = some v) : xCt l yX4_numberOf ((some .int)) j4_numberOf [.ref 0, .int x1, .int x2] (hS c_fields c_ties c_worth c_forces c_many c_codes c_b_list c_b_many c_p_list c_p_weights c_p_drawn c_p_many c_p_all c_p_turns) (some (.int v)) (hS c_fields c_ties c_worth c_forces c_many c_codes c_b_list c_b_many c_p_list c_p_weights c_p_drawn c_p_many c_p_all c_p_turns) := xCt_of (by decide) rfl (Nat.le_of_ble_eq_true rfl) (fun _ hX => T4_numberOf hX hf)
theorem m4_numberOf : xMd yX4_numberOf RX4 ((some .int)) j4_numberOf 2 := ⟨List.mem_of_getElem? (i := 368) (by decide +kernel), List.mem_of_getElem? (i := 15) (by decide +kernel), rfl, by decide +kernel⟩
theorem v4_numberOf : xMv yX4_numberOf RX4 := ⟨List.mem_of_getElem? (i := 366) (by decide +kernel), List.mem_of_getElem? (i := 367) (by decide +kernel)⟩
theorem dX4_winner_0 : decode cX4_winner 0 = .ok (.iload_n 1, 1) := by decide +kernel
theorem dX4_winner_1 : decode cX4_winner 1 = .ok (.iload_n 2, 1) := by decide +kernel
theorem dX4_winner_2 : decode cX4_winner 2 = .ok (.if_icmp .eq 14, 3) := by decide +kernel
theorem dX4_winner_5 : decode cX4_winner 5 = .ok (.iload_n 1, 1) := by decide +kernel
theorem dX4_winner_6 : decode cX4_winner 6 = .ok (.iload_n 2, 1) := by decide +kernel
theorem dX4_winner_7 : decode cX4_winner 7 = .ok (.if_icmp .le 7, 3) := by decide +kernel
theorem dX4_winner_10 : decode cX4_winner 10 = .ok (.iconst 1, 1) := by decide +kernel
theorem dX4_winner_11 : decode cX4_winner 11 = .ok (.goto 4, 3) := by decide +kernel
theorem dX4_winner_14 : decode cX4_winner 14 = .ok (.iconst (-1), 1) := by decide +kernel
theorem dX4_winner_15 : decode cX4_winner 15 = .ok (.ireturn, 1) := by decide +kernel
theorem dX4_winner_16 : decode cX4_winner 16 = .ok (.aload_n 0, 1) := by decide +kernel
theorem dX4_winner_17 : decode cX4_winner 17 = .ok (.getfield 48, 3) := by decide +kernel
theorem dX4_winner_20 : decode cX4_winner 20 = .ok (.iconst 1, 1) := by decide +kernel
theorem dX4_winner_21 : decode cX4_winner 21 = .ok (.if_icmp .ne 7, 3) := by decide +kernel
theorem dX4_winner_24 : decode cX4_winner 24 = .ok (.iconst 1, 1) := by decide +kernel
theorem dX4_winner_25 : decode cX4_winner 25 = .ok (.goto 16, 3) := by decide +kernel
theorem dX4_winner_28 : decode cX4_winner 28 = .ok (.aload_n 0, 1) := by decide +kernel
theorem dX4_winner_29 : decode cX4_winner 29 = .ok (.getfield 48, 3) := by decide +kernel
theorem dX4_winner_32 : decode cX4_winner 32 = .ok (.iconst 2, 1) := by decide +kernel
theorem dX4_winner_33 : decode cX4_winner 33 = .ok (.if_icmp .ne 7, 3) := by decide +kernel
theorem dX4_winner_36 : decode cX4_winner 36 = .ok (.iconst (-1), 1) := by decide +kernel
theorem dX4_winner_37 : decode cX4_winner 37 = .ok (.goto 4, 3) := by decide +kernel
theorem dX4_winner_40 : decode cX4_winner 40 = .ok (.iconst 0, 1) := by decide +kernel
theorem dX4_winner_41 : decode cX4_winner 41 = .ok (.ireturn, 1) := by decide +kernel
abbrev j4_winner : xJ := (cX4_winner, 3, RX4, 1, 0, 0)
def F4_winner (x1 : Int32) (x2 : Int32) (c_ties : Int32) : Option (Int32) :=
  if x1 = x2 then (if c_ties = (1 : Int32) then (some ((1 : Int32))) else (if c_ties = (2 : Int32) then (some ((-1 : Int32))) else (some ((0 : Int32))))) else (if x1 ≤ x2 then (some ((-1 : Int32))) else (some ((1 : Int32))))
theorem T4_winner {X : xX} {x1 : Int32} {x2 : Int32} {c_ties : Int32} {c_fields : Int32} {c_worth : (Nat → Int32)} {c_forces : (Nat → Int32)} {c_many : (Nat → Int32)} {c_codes : (Nat → Nat → Int32)} {c_b_list : (Nat → Nat → Int32)} {c_b_many : (Nat → Int32)} {c_p_list : (Nat → Nat → Int32)} {c_p_weights : (Nat → Nat → Int32)} {c_p_drawn : (Nat → Nat → Int32)} {c_p_many : (Nat → Int32)} {c_p_all : (Nat → Int32)} {c_p_turns : (Nat → Int32)} {v : Int32} (hX : xIs (j4_winner) X ((some .int)) (some (.int v)) (hS c_fields c_ties c_worth c_forces c_many c_codes c_b_list c_b_many c_p_list c_p_weights c_p_drawn c_p_many c_p_all c_p_turns)) (hf : F4_winner x1 x2 c_ties = some v) : xV (j4_winner) X 0 0 (hS c_fields c_ties c_worth c_forces c_many c_codes c_b_list c_b_many c_p_list c_p_weights c_p_drawn c_p_many c_p_all c_p_turns) 0 [(0, .ref 0), (1, .int x1), (2, .int x2)] [] := by
  unfold F4_winner at hf
  refine xV_iload_n 1 rfl dX4_winner_0 rfl 1 rfl ?_
  refine xV_iload_n 2 rfl dX4_winner_1 rfl 2 rfl ?_
  refine xV_icmp_eq (tgt := 16) 5 rfl dX4_winner_2 (by decide) (fun h2 => ?_) (fun h2 => ?_)
  · have hf := xif_t hf h2
    refine xV_aload_n 17 rfl dX4_winner_16 rfl 0 rfl ?_
    refine xV_get (v := .int c_ties) 20 rfl dX4_winner_17 f4_48 rfl rfl ?_
    refine xV_iconst 21 rfl dX4_winner_20 xy_i1 ?_
    refine xV_icmp_ne (tgt := 28) 24 rfl dX4_winner_21 (by decide) (fun h21 => ?_) (fun h21 => ?_)
    · have hf := xif_f hf h21
      refine xV_aload_n 29 rfl dX4_winner_28 rfl 0 rfl ?_
      refine xV_get (v := .int c_ties) 32 rfl dX4_winner_29 f4_48 rfl rfl ?_
      refine xV_iconst 33 rfl dX4_winner_32 xy_i2 ?_
      refine xV_icmp_ne (tgt := 40) 36 rfl dX4_winner_33 (by decide) (fun h33 => ?_) (fun h33 => ?_)
      · have hf := xif_f hf h33
        refine xV_iconst 41 rfl dX4_winner_40 xy_i0 ?_
        obtain rfl := Option.some.inj hf
        exact xV_iret hX dX4_winner_41 rfl (Nat.zero_le _) (Nat.zero_le _)
      · have hf := xif_t hf h33
        refine xV_iconst 37 rfl dX4_winner_36 xy_im1 ?_
        refine xV_goto (tgt := 41) dX4_winner_37 (by decide) ?_
        obtain rfl := Option.some.inj hf
        exact xV_iret hX dX4_winner_41 rfl (Nat.zero_le _) (Nat.zero_le _)
    · have hf := xif_t hf h21
      refine xV_iconst 25 rfl dX4_winner_24 xy_i1 ?_
      refine xV_goto (tgt := 41) dX4_winner_25 (by decide) ?_
      obtain rfl := Option.some.inj hf
      exact xV_iret hX dX4_winner_41 rfl (Nat.zero_le _) (Nat.zero_le _)
  · have hf := xif_f hf h2
    refine xV_iload_n 6 rfl dX4_winner_5 rfl 1 rfl ?_
    refine xV_iload_n 7 rfl dX4_winner_6 rfl 2 rfl ?_
    refine xV_icmp_le (tgt := 14) 10 rfl dX4_winner_7 (by decide) (fun h7 => ?_) (fun h7 => ?_)
    · have hf := xif_t hf h7
      refine xV_iconst 15 rfl dX4_winner_14 xy_im1 ?_
      obtain rfl := Option.some.inj hf
      exact xV_iret hX dX4_winner_15 rfl (Nat.zero_le _) (Nat.zero_le _)
    · have hf := xif_f hf h7
      refine xV_iconst 11 rfl dX4_winner_10 xy_i1 ?_
      refine xV_goto (tgt := 15) dX4_winner_11 (by decide) ?_
      obtain rfl := Option.some.inj hf
      exact xV_iret hX dX4_winner_15 rfl (Nat.zero_le _) (Nat.zero_le _)
theorem C4_winner (l : Launch) {x1 : Int32} {x2 : Int32} {c_ties : Int32} {c_fields : Int32} {c_worth : (Nat → Int32)} {c_forces : (Nat → Int32)} {c_many : (Nat → Int32)} {c_codes : (Nat → Nat → Int32)} {c_b_list : (Nat → Nat → Int32)} {c_b_many : (Nat → Int32)} {c_p_list : (Nat → Nat → Int32)} {c_p_weights : (Nat → Nat → Int32)} {c_p_drawn : (Nat → Nat → Int32)} {c_p_many : (Nat → Int32)} {c_p_all : (Nat → Int32)} {c_p_turns : (Nat → Int32)} {v : Int32} (hf : F4_winner x1 x2 c_ties = some v) : xCt l yX4_winner ((some .int)) j4_winner [.ref 0, .int x1, .int x2] (hS c_fields c_ties c_worth c_forces c_many c_codes c_b_list c_b_many c_p_list c_p_weights c_p_drawn c_p_many c_p_all c_p_turns) (some (.int v)) (hS c_fields c_ties c_worth c_forces c_many c_codes c_b_list c_b_many c_p_list c_p_weights c_p_drawn c_p_many c_p_all c_p_turns) := xCt_of (by decide) rfl (Nat.le_of_ble_eq_true rfl) (fun _ hX => T4_winner hX hf)
theorem m4_winner : xMd yX4_winner RX4 ((some .int)) j4_winner 2 := ⟨List.mem_of_getElem? (i := 619) (by decide +kernel), List.mem_of_getElem? (i := 15) (by decide +kernel), rfl, by decide +kernel⟩
theorem v4_winner : xMv yX4_winner RX4 := ⟨List.mem_of_getElem? (i := 617) (by decide +kernel), List.mem_of_getElem? (i := 618) (by decide +kernel)⟩
theorem xy_in1_2 : vp_in (1 : Int32) 2 := xin_ok (by decide)
theorem k4_77 : Cond.methodLink RX4 77 yX4_digit ∈ wsL_law0 := List.mem_of_getElem? (i := 612) (by decide +kernel)
theorem k4_81 : Cond.methodLink RX4 81 yX4_winner ∈ wsL_law0 := List.mem_of_getElem? (i := 616) (by decide +kernel)
theorem dX4_gainFor_0 : decode cX4_gainFor 0 = .ok (.iload_n 1, 1) := by decide +kernel
theorem dX4_gainFor_1 : decode cX4_gainFor 1 = .ok (.ifCond .ne 14, 3) := by decide +kernel
theorem dX4_gainFor_4 : decode cX4_gainFor 4 = .ok (.aload_n 0, 1) := by decide +kernel
theorem dX4_gainFor_5 : decode cX4_gainFor 5 = .ok (.getfield 23, 3) := by decide +kernel
theorem dX4_gainFor_8 : decode cX4_gainFor 8 = .ok (.iconst 0, 1) := by decide +kernel
theorem dX4_gainFor_9 : decode cX4_gainFor 9 = .ok (.aaload, 1) := by decide +kernel
theorem dX4_gainFor_10 : decode cX4_gainFor 10 = .ok (.iload_n 2, 1) := by decide +kernel
theorem dX4_gainFor_11 : decode cX4_gainFor 11 = .ok (.iaload, 1) := by decide +kernel
theorem dX4_gainFor_12 : decode cX4_gainFor 12 = .ok (.goto 11, 3) := by decide +kernel
theorem dX4_gainFor_15 : decode cX4_gainFor 15 = .ok (.aload_n 0, 1) := by decide +kernel
theorem dX4_gainFor_16 : decode cX4_gainFor 16 = .ok (.getfield 23, 3) := by decide +kernel
theorem dX4_gainFor_19 : decode cX4_gainFor 19 = .ok (.iconst 0, 1) := by decide +kernel
theorem dX4_gainFor_20 : decode cX4_gainFor 20 = .ok (.aaload, 1) := by decide +kernel
theorem dX4_gainFor_21 : decode cX4_gainFor 21 = .ok (.iload_n 3, 1) := by decide +kernel
theorem dX4_gainFor_22 : decode cX4_gainFor 22 = .ok (.iaload, 1) := by decide +kernel
theorem dX4_gainFor_23 : decode cX4_gainFor 23 = .ok (.istore 4, 2) := by decide +kernel
theorem dX4_gainFor_25 : decode cX4_gainFor 25 = .ok (.iload_n 1, 1) := by decide +kernel
theorem dX4_gainFor_26 : decode cX4_gainFor 26 = .ok (.ifCond .ne 14, 3) := by decide +kernel
theorem dX4_gainFor_29 : decode cX4_gainFor 29 = .ok (.aload_n 0, 1) := by decide +kernel
theorem dX4_gainFor_30 : decode cX4_gainFor 30 = .ok (.getfield 23, 3) := by decide +kernel
theorem dX4_gainFor_33 : decode cX4_gainFor 33 = .ok (.iconst 1, 1) := by decide +kernel
theorem dX4_gainFor_34 : decode cX4_gainFor 34 = .ok (.aaload, 1) := by decide +kernel
theorem dX4_gainFor_35 : decode cX4_gainFor 35 = .ok (.iload_n 3, 1) := by decide +kernel
theorem dX4_gainFor_36 : decode cX4_gainFor 36 = .ok (.iaload, 1) := by decide +kernel
theorem dX4_gainFor_37 : decode cX4_gainFor 37 = .ok (.goto 11, 3) := by decide +kernel
theorem dX4_gainFor_40 : decode cX4_gainFor 40 = .ok (.aload_n 0, 1) := by decide +kernel
theorem dX4_gainFor_41 : decode cX4_gainFor 41 = .ok (.getfield 23, 3) := by decide +kernel
theorem dX4_gainFor_44 : decode cX4_gainFor 44 = .ok (.iconst 1, 1) := by decide +kernel
theorem dX4_gainFor_45 : decode cX4_gainFor 45 = .ok (.aaload, 1) := by decide +kernel
theorem dX4_gainFor_46 : decode cX4_gainFor 46 = .ok (.iload_n 2, 1) := by decide +kernel
theorem dX4_gainFor_47 : decode cX4_gainFor 47 = .ok (.iaload, 1) := by decide +kernel
theorem dX4_gainFor_48 : decode cX4_gainFor 48 = .ok (.istore 5, 2) := by decide +kernel
theorem dX4_gainFor_50 : decode cX4_gainFor 50 = .ok (.iconst 0, 1) := by decide +kernel
theorem dX4_gainFor_51 : decode cX4_gainFor 51 = .ok (.istore 6, 2) := by decide +kernel
theorem dX4_gainFor_53 : decode cX4_gainFor 53 = .ok (.iconst 0, 1) := by decide +kernel
theorem dX4_gainFor_54 : decode cX4_gainFor 54 = .ok (.istore 7, 2) := by decide +kernel
theorem dX4_gainFor_56 : decode cX4_gainFor 56 = .ok (.iload 7, 2) := by decide +kernel
theorem dX4_gainFor_58 : decode cX4_gainFor 58 = .ok (.aload_n 0, 1) := by decide +kernel
theorem dX4_gainFor_59 : decode cX4_gainFor 59 = .ok (.getfield 38, 3) := by decide +kernel
theorem dX4_gainFor_62 : decode cX4_gainFor 62 = .ok (.if_icmp .ge 42, 3) := by decide +kernel
theorem dX4_gainFor_65 : decode cX4_gainFor 65 = .ok (.iload 6, 2) := by decide +kernel
theorem dX4_gainFor_67 : decode cX4_gainFor 67 = .ok (.aload_n 0, 1) := by decide +kernel
theorem dX4_gainFor_68 : decode cX4_gainFor 68 = .ok (.getfield 9, 3) := by decide +kernel
theorem dX4_gainFor_71 : decode cX4_gainFor 71 = .ok (.iload 7, 2) := by decide +kernel
theorem dX4_gainFor_73 : decode cX4_gainFor 73 = .ok (.iaload, 1) := by decide +kernel
theorem dX4_gainFor_74 : decode cX4_gainFor 74 = .ok (.aload_n 0, 1) := by decide +kernel
theorem dX4_gainFor_75 : decode cX4_gainFor 75 = .ok (.aload_n 0, 1) := by decide +kernel
theorem dX4_gainFor_76 : decode cX4_gainFor 76 = .ok (.iload 4, 2) := by decide +kernel
theorem dX4_gainFor_78 : decode cX4_gainFor 78 = .ok (.iload 7, 2) := by decide +kernel
theorem dX4_gainFor_80 : decode cX4_gainFor 80 = .ok (.invokevirtual 77, 3) := by decide +kernel
theorem dX4_gainFor_83 : decode cX4_gainFor 83 = .ok (.aload_n 0, 1) := by decide +kernel
theorem dX4_gainFor_84 : decode cX4_gainFor 84 = .ok (.iload 5, 2) := by decide +kernel
theorem dX4_gainFor_86 : decode cX4_gainFor 86 = .ok (.iload 7, 2) := by decide +kernel
theorem dX4_gainFor_88 : decode cX4_gainFor 88 = .ok (.invokevirtual 77, 3) := by decide +kernel
theorem dX4_gainFor_91 : decode cX4_gainFor 91 = .ok (.invokevirtual 81, 3) := by decide +kernel
theorem dX4_gainFor_94 : decode cX4_gainFor 94 = .ok (.imul, 1) := by decide +kernel
theorem dX4_gainFor_95 : decode cX4_gainFor 95 = .ok (.iadd, 1) := by decide +kernel
theorem dX4_gainFor_96 : decode cX4_gainFor 96 = .ok (.istore 6, 2) := by decide +kernel
theorem dX4_gainFor_98 : decode cX4_gainFor 98 = .ok (.iinc 7 1, 3) := by decide +kernel
theorem dX4_gainFor_101 : decode cX4_gainFor 101 = .ok (.goto (-45), 3) := by decide +kernel
theorem dX4_gainFor_104 : decode cX4_gainFor 104 = .ok (.iload_n 1, 1) := by decide +kernel
theorem dX4_gainFor_105 : decode cX4_gainFor 105 = .ok (.ifCond .ne 8, 3) := by decide +kernel
theorem dX4_gainFor_108 : decode cX4_gainFor 108 = .ok (.iload 6, 2) := by decide +kernel
theorem dX4_gainFor_110 : decode cX4_gainFor 110 = .ok (.goto 6, 3) := by decide +kernel
theorem dX4_gainFor_113 : decode cX4_gainFor 113 = .ok (.iload 6, 2) := by decide +kernel
theorem dX4_gainFor_115 : decode cX4_gainFor 115 = .ok (.ineg, 1) := by decide +kernel
theorem dX4_gainFor_116 : decode cX4_gainFor 116 = .ok (.ireturn, 1) := by decide +kernel
abbrev j4_gainFor : xJ := (cX4_gainFor, 8, RX4, 2, 0, 0)
def F4_gainFor_b104 (z : Nat) (x1 : Int32) (x6 : Int32) (c_fields : Int32) (c_ties : Int32) (c_worth : (Nat → Int32)) (c_codes : (Nat → Nat → Int32)) : Option (Int32) :=
  if x1 = 0 then (some (x6)) else (some ((-x6)))
theorem T4_gainFor_b104 {X : xX} {c_forces : (Nat → Int32)} {c_many : (Nat → Int32)} {c_b_list : (Nat → Nat → Int32)} {c_b_many : (Nat → Int32)} {c_p_list : (Nat → Nat → Int32)} {c_p_weights : (Nat → Nat → Int32)} {c_p_drawn : (Nat → Nat → Int32)} {c_p_many : (Nat → Int32)} {c_p_all : (Nat → Int32)} {c_p_turns : (Nat → Int32)} {x1 : Int32} {x6 : Int32} {c_fields : Int32} {c_ties : Int32} {c_worth : (Nat → Int32)} {c_codes : (Nat → Nat → Int32)} {z : Nat} {v : Int32} (hX : xIs (j4_gainFor) X ((some .int)) (some (.int v)) (hS c_fields c_ties c_worth c_forces c_many c_codes c_b_list c_b_many c_p_list c_p_weights c_p_drawn c_p_many c_p_all c_p_turns)) (hf : F4_gainFor_b104 z x1 x6 c_fields c_ties c_worth c_codes = some v) : xV (j4_gainFor) X 0 0 (hS c_fields c_ties c_worth c_forces c_many c_codes c_b_list c_b_many c_p_list c_p_weights c_p_drawn c_p_many c_p_all c_p_turns) 104 [(1, .int x1), (6, .int x6)] [] := by
  unfold F4_gainFor_b104 at hf
  refine xV_iload_n 105 rfl dX4_gainFor_104 rfl 0 rfl ?_
  refine xV_if_ne (tgt := 113) 108 rfl dX4_gainFor_105 (by decide) (fun h105 => ?_) (fun h105 => ?_)
  · have hf := xif_f hf h105
    refine xV_iload 115 rfl dX4_gainFor_113 1 rfl ?_
    refine xV_ineg 116 rfl dX4_gainFor_115 ?_
    obtain rfl := Option.some.inj hf
    exact xV_iret hX dX4_gainFor_116 rfl (Nat.zero_le _) (Nat.zero_le _)
  · have hf := xif_t hf h105
    refine xV_iload 110 rfl dX4_gainFor_108 1 rfl ?_
    refine xV_goto (tgt := 116) dX4_gainFor_110 (by decide) ?_
    obtain rfl := Option.some.inj hf
    exact xV_iret hX dX4_gainFor_116 rfl (Nat.zero_le _) (Nat.zero_le _)
def F4_gainFor_b56 (z : Nat) (w : Nat) (x1 : Int32) (x4 : Int32) (x5 : Int32) (x6 : Int32) (x7 : Int32) (c_fields : Int32) (c_ties : Int32) (c_worth : (Nat → Int32)) (c_codes : (Nat → Nat → Int32)) : Option (Int32) := match w with
  | 0 => none
  | w + 1 => if c_fields ≤ x7 then (F4_gainFor_b104 z x1 x6 c_fields c_ties c_worth c_codes) else (xg (xin x7 4) ((F4_digit x4 x7 c_fields).bind (fun v80 => (F4_digit x5 x7 c_fields).bind (fun v88 => (F4_winner v80 v88 c_ties).bind (fun v91 => F4_gainFor_b56 z w x1 x4 x5 (x6 + ((c_worth (xn x7)) * v91)) (x7 + (1 : Int32)) c_fields c_ties c_worth c_codes)))))
theorem T4_gainFor_b56 {X : xX} {c_fields : Int32} {c_ties : Int32} {c_worth : (Nat → Int32)} {c_forces : (Nat → Int32)} {c_many : (Nat → Int32)} {c_codes : (Nat → Nat → Int32)} {c_b_list : (Nat → Nat → Int32)} {c_b_many : (Nat → Int32)} {c_p_list : (Nat → Nat → Int32)} {c_p_weights : (Nat → Nat → Int32)} {c_p_drawn : (Nat → Nat → Int32)} {c_p_many : (Nat → Int32)} {c_p_all : (Nat → Int32)} {c_p_turns : (Nat → Int32)} {z : Nat} {v : Int32} (hX : xIs (j4_gainFor) X ((some .int)) (some (.int v)) (hS c_fields c_ties c_worth c_forces c_many c_codes c_b_list c_b_many c_p_list c_p_weights c_p_drawn c_p_many c_p_all c_p_turns)) : ∀ (w : Nat) {x1 : Int32} {x4 : Int32} {x5 : Int32} {x6 : Int32} {x7 : Int32}, F4_gainFor_b56 z w x1 x4 x5 x6 x7 c_fields c_ties c_worth c_codes = some v → xV (j4_gainFor) X 0 0 (hS c_fields c_ties c_worth c_forces c_many c_codes c_b_list c_b_many c_p_list c_p_weights c_p_drawn c_p_many c_p_all c_p_turns) 56 [(0, .ref 0), (1, .int x1), (4, .int x4), (5, .int x5), (6, .int x6), (7, .int x7)] [] := by
  intro w
  induction w with
  | zero => intro x1 x4 x5 x6 x7 hf; cases hf
  | succ w ih =>
    intro x1 x4 x5 x6 x7 hf
    unfold F4_gainFor_b56 at hf
    refine xV_iload 58 rfl dX4_gainFor_56 5 rfl ?_
    refine xV_aload_n 59 rfl dX4_gainFor_58 rfl 0 rfl ?_
    refine xV_get (v := .int c_fields) 62 rfl dX4_gainFor_59 f4_38 rfl rfl ?_
    refine xV_icmp_ge (tgt := 104) 65 rfl dX4_gainFor_62 (by decide) (fun h62 => ?_) (fun h62 => ?_)
    · have hf := xif_t hf h62
      refine xV_sub [1, 4] rfl ?_
      exact T4_gainFor_b104 hX hf
    · have hf := xif_f hf h62
      refine xV_iload 67 rfl dX4_gainFor_65 4 rfl ?_
      refine xV_aload_n 68 rfl dX4_gainFor_67 rfl 0 rfl ?_
      refine xV_get (v := .ref 1) 71 rfl dX4_gainFor_68 f4_9 rfl rfl ?_
      refine xV_iload 73 rfl dX4_gainFor_71 5 rfl ?_
      obtain ⟨hg73, hf⟩ := xg_s hf
      refine xV_iaload 74 rfl dX4_gainFor_73 rfl (xin_ok hg73) rfl ?_
      refine xV_aload_n 75 rfl dX4_gainFor_74 rfl 0 rfl ?_
      refine xV_aload_n 76 rfl dX4_gainFor_75 rfl 0 rfl ?_
      refine xV_iload 78 rfl dX4_gainFor_76 2 rfl ?_
      refine xV_iload 80 rfl dX4_gainFor_78 5 rfl ?_
      obtain ⟨v80, hv80, hf⟩ := xb_s hf
      refine xV_same (rest := [.ref 0, .int (c_worth (xn x7)), .int x6]) 83 rfl dX4_gainFor_80 rfl (C4_digit X.1.2.1 hv80) m4_digit v4_digit k4_77 rfl rfl rfl rfl rfl (Nat.le_of_ble_eq_true rfl) (Nat.le_of_ble_eq_true rfl) (Nat.le_of_ble_eq_true rfl) ⟨Nat.le_refl _, Nat.le_refl _⟩ ?_
      show xV (j4_gainFor) X 0 0 (hS c_fields c_ties c_worth c_forces c_many c_codes c_b_list c_b_many c_p_list c_p_weights c_p_drawn c_p_many c_p_all c_p_turns) 83 [(0, .ref 0), (1, .int x1), (4, .int x4), (5, .int x5), (6, .int x6), (7, .int x7)] [.int v80, .ref 0, .int (c_worth (xn x7)), .int x6]
      refine xV_aload_n 84 rfl dX4_gainFor_83 rfl 0 rfl ?_
      refine xV_iload 86 rfl dX4_gainFor_84 3 rfl ?_
      refine xV_iload 88 rfl dX4_gainFor_86 5 rfl ?_
      obtain ⟨v88, hv88, hf⟩ := xb_s hf
      refine xV_same (rest := [.int v80, .ref 0, .int (c_worth (xn x7)), .int x6]) 91 rfl dX4_gainFor_88 rfl (C4_digit X.1.2.1 hv88) m4_digit v4_digit k4_77 rfl rfl rfl rfl rfl (Nat.le_of_ble_eq_true rfl) (Nat.le_of_ble_eq_true rfl) (Nat.le_of_ble_eq_true rfl) ⟨Nat.le_refl _, Nat.le_refl _⟩ ?_
      show xV (j4_gainFor) X 0 0 (hS c_fields c_ties c_worth c_forces c_many c_codes c_b_list c_b_many c_p_list c_p_weights c_p_drawn c_p_many c_p_all c_p_turns) 91 [(0, .ref 0), (1, .int x1), (4, .int x4), (5, .int x5), (6, .int x6), (7, .int x7)] [.int v88, .int v80, .ref 0, .int (c_worth (xn x7)), .int x6]
      obtain ⟨v91, hv91, hf⟩ := xb_s hf
      refine xV_same (rest := [.int (c_worth (xn x7)), .int x6]) 94 rfl dX4_gainFor_91 rfl (C4_winner X.1.2.1 hv91) m4_winner v4_winner k4_81 rfl rfl rfl rfl rfl (Nat.le_of_ble_eq_true rfl) (Nat.le_of_ble_eq_true rfl) (Nat.le_of_ble_eq_true rfl) ⟨Nat.le_refl _, Nat.le_refl _⟩ ?_
      show xV (j4_gainFor) X 0 0 (hS c_fields c_ties c_worth c_forces c_many c_codes c_b_list c_b_many c_p_list c_p_weights c_p_drawn c_p_many c_p_all c_p_turns) 94 [(0, .ref 0), (1, .int x1), (4, .int x4), (5, .int x5), (6, .int x6), (7, .int x7)] [.int v91, .int (c_worth (xn x7)), .int x6]
      refine xV_imul 95 rfl dX4_gainFor_94 ?_
      refine xV_iadd 96 rfl dX4_gainFor_95 ?_
      refine xV_istore (L' := [(6, .int (x6 + ((c_worth (xn x7)) * v91))), (0, .ref 0), (1, .int x1), (4, .int x4), (5, .int x5), (7, .int x7)]) 98 rfl dX4_gainFor_96 (xlt rfl) rfl ?_
      refine xV_iinc (L' := [(7, .int (x7 + (1 : Int32))), (6, .int (x6 + ((c_worth (xn x7)) * v91))), (0, .ref 0), (1, .int x1), (4, .int x4), (5, .int x5)]) 101 rfl dX4_gainFor_98 5 rfl (xk_inc xy_i1) (xlt rfl) rfl ?_
      refine xV_goto (tgt := 56) dX4_gainFor_101 (by decide) ?_
      refine xV_sub [2, 3, 4, 5, 1, 0] rfl ?_
      exact ih hf
def F4_gainFor_b48 (z : Nat) (x1 : Int32) (x4 : Int32) (s0 : Int32) (c_fields : Int32) (c_ties : Int32) (c_worth : (Nat → Int32)) (c_codes : (Nat → Nat → Int32)) : Option (Int32) :=
  F4_gainFor_b56 z z x1 x4 s0 (0 : Int32) (0 : Int32) c_fields c_ties c_worth c_codes
theorem T4_gainFor_b48 {X : xX} {c_forces : (Nat → Int32)} {c_many : (Nat → Int32)} {c_b_list : (Nat → Nat → Int32)} {c_b_many : (Nat → Int32)} {c_p_list : (Nat → Nat → Int32)} {c_p_weights : (Nat → Nat → Int32)} {c_p_drawn : (Nat → Nat → Int32)} {c_p_many : (Nat → Int32)} {c_p_all : (Nat → Int32)} {c_p_turns : (Nat → Int32)} {x1 : Int32} {x4 : Int32} {s0 : Int32} {c_fields : Int32} {c_ties : Int32} {c_worth : (Nat → Int32)} {c_codes : (Nat → Nat → Int32)} {z : Nat} {v : Int32} (hX : xIs (j4_gainFor) X ((some .int)) (some (.int v)) (hS c_fields c_ties c_worth c_forces c_many c_codes c_b_list c_b_many c_p_list c_p_weights c_p_drawn c_p_many c_p_all c_p_turns)) (hf : F4_gainFor_b48 z x1 x4 s0 c_fields c_ties c_worth c_codes = some v) : xV (j4_gainFor) X 0 0 (hS c_fields c_ties c_worth c_forces c_many c_codes c_b_list c_b_many c_p_list c_p_weights c_p_drawn c_p_many c_p_all c_p_turns) 48 [(0, .ref 0), (1, .int x1), (4, .int x4)] [.int s0] := by
  unfold F4_gainFor_b48 at hf
  refine xV_istore (L' := [(5, .int s0), (0, .ref 0), (1, .int x1), (4, .int x4)]) 50 rfl dX4_gainFor_48 (xlt rfl) rfl ?_
  refine xV_iconst 51 rfl dX4_gainFor_50 xy_i0 ?_
  refine xV_istore (L' := [(6, .int (0 : Int32)), (5, .int s0), (0, .ref 0), (1, .int x1), (4, .int x4)]) 53 rfl dX4_gainFor_51 (xlt rfl) rfl ?_
  refine xV_iconst 54 rfl dX4_gainFor_53 xy_i0 ?_
  refine xV_istore (L' := [(7, .int (0 : Int32)), (6, .int (0 : Int32)), (5, .int s0), (0, .ref 0), (1, .int x1), (4, .int x4)]) 56 rfl dX4_gainFor_54 (xlt rfl) rfl ?_
  refine xV_sub [3, 4, 5, 2, 1, 0] rfl ?_
  exact T4_gainFor_b56 hX _ hf
def F4_gainFor_b23 (z : Nat) (x1 : Int32) (x2 : Int32) (x3 : Int32) (s0 : Int32) (c_fields : Int32) (c_ties : Int32) (c_worth : (Nat → Int32)) (c_codes : (Nat → Nat → Int32)) : Option (Int32) :=
  if x1 = 0 then (xg (xin x3 120) (F4_gainFor_b48 z x1 s0 ((c_codes 1) (xn x3)) c_fields c_ties c_worth c_codes)) else (xg (xin x2 120) (F4_gainFor_b48 z x1 s0 ((c_codes 1) (xn x2)) c_fields c_ties c_worth c_codes))
theorem T4_gainFor_b23 {X : xX} {c_forces : (Nat → Int32)} {c_many : (Nat → Int32)} {c_b_list : (Nat → Nat → Int32)} {c_b_many : (Nat → Int32)} {c_p_list : (Nat → Nat → Int32)} {c_p_weights : (Nat → Nat → Int32)} {c_p_drawn : (Nat → Nat → Int32)} {c_p_many : (Nat → Int32)} {c_p_all : (Nat → Int32)} {c_p_turns : (Nat → Int32)} {x1 : Int32} {x2 : Int32} {x3 : Int32} {s0 : Int32} {c_fields : Int32} {c_ties : Int32} {c_worth : (Nat → Int32)} {c_codes : (Nat → Nat → Int32)} {z : Nat} {v : Int32} (hX : xIs (j4_gainFor) X ((some .int)) (some (.int v)) (hS c_fields c_ties c_worth c_forces c_many c_codes c_b_list c_b_many c_p_list c_p_weights c_p_drawn c_p_many c_p_all c_p_turns)) (hf : F4_gainFor_b23 z x1 x2 x3 s0 c_fields c_ties c_worth c_codes = some v) : xV (j4_gainFor) X 0 0 (hS c_fields c_ties c_worth c_forces c_many c_codes c_b_list c_b_many c_p_list c_p_weights c_p_drawn c_p_many c_p_all c_p_turns) 23 [(0, .ref 0), (1, .int x1), (2, .int x2), (3, .int x3)] [.int s0] := by
  unfold F4_gainFor_b23 at hf
  refine xV_istore (L' := [(4, .int s0), (0, .ref 0), (1, .int x1), (2, .int x2), (3, .int x3)]) 25 rfl dX4_gainFor_23 (xlt rfl) rfl ?_
  refine xV_iload_n 26 rfl dX4_gainFor_25 rfl 2 rfl ?_
  refine xV_if_ne (tgt := 40) 29 rfl dX4_gainFor_26 (by decide) (fun h26 => ?_) (fun h26 => ?_)
  · have hf := xif_f hf h26
    refine xV_aload_n 41 rfl dX4_gainFor_40 rfl 1 rfl ?_
    refine xV_get (v := .ref 4) 44 rfl dX4_gainFor_41 f4_23 rfl rfl ?_
    refine xV_iconst 45 rfl dX4_gainFor_44 xy_i1 ?_
    refine xV_aaload (b := 6) 46 rfl dX4_gainFor_45 rfl rfl rfl xy_in1_2 (by decide) ?_
    refine xV_iload_n 47 rfl dX4_gainFor_46 rfl 3 rfl ?_
    obtain ⟨hg47, hf⟩ := xg_s hf
    refine xV_iaload 48 rfl dX4_gainFor_47 rfl (xin_ok hg47) rfl ?_
    refine xV_sub [1, 2, 0] rfl ?_
    exact T4_gainFor_b48 hX hf
  · have hf := xif_t hf h26
    refine xV_aload_n 30 rfl dX4_gainFor_29 rfl 1 rfl ?_
    refine xV_get (v := .ref 4) 33 rfl dX4_gainFor_30 f4_23 rfl rfl ?_
    refine xV_iconst 34 rfl dX4_gainFor_33 xy_i1 ?_
    refine xV_aaload (b := 6) 35 rfl dX4_gainFor_34 rfl rfl rfl xy_in1_2 (by decide) ?_
    refine xV_iload_n 36 rfl dX4_gainFor_35 rfl 4 rfl ?_
    obtain ⟨hg36, hf⟩ := xg_s hf
    refine xV_iaload 37 rfl dX4_gainFor_36 rfl (xin_ok hg36) rfl ?_
    refine xV_goto (tgt := 48) dX4_gainFor_37 (by decide) ?_
    refine xV_sub [1, 2, 0] rfl ?_
    exact T4_gainFor_b48 hX hf
def F4_gainFor (z : Nat) (x1 : Int32) (x2 : Int32) (x3 : Int32) (c_fields : Int32) (c_ties : Int32) (c_worth : (Nat → Int32)) (c_codes : (Nat → Nat → Int32)) : Option (Int32) :=
  if x1 = 0 then (xg (xin x2 120) (F4_gainFor_b23 z x1 x2 x3 ((c_codes 0) (xn x2)) c_fields c_ties c_worth c_codes)) else (xg (xin x3 120) (F4_gainFor_b23 z x1 x2 x3 ((c_codes 0) (xn x3)) c_fields c_ties c_worth c_codes))
theorem T4_gainFor {X : xX} {z : Nat} {x1 : Int32} {x2 : Int32} {x3 : Int32} {c_fields : Int32} {c_ties : Int32} {c_worth : (Nat → Int32)} {c_codes : (Nat → Nat → Int32)} {c_forces : (Nat → Int32)} {c_many : (Nat → Int32)} {c_b_list : (Nat → Nat → Int32)} {c_b_many : (Nat → Int32)} {c_p_list : (Nat → Nat → Int32)} {c_p_weights : (Nat → Nat → Int32)} {c_p_drawn : (Nat → Nat → Int32)} {c_p_many : (Nat → Int32)} {c_p_all : (Nat → Int32)} {c_p_turns : (Nat → Int32)} {v : Int32} (hX : xIs (j4_gainFor) X ((some .int)) (some (.int v)) (hS c_fields c_ties c_worth c_forces c_many c_codes c_b_list c_b_many c_p_list c_p_weights c_p_drawn c_p_many c_p_all c_p_turns)) (hf : F4_gainFor z x1 x2 x3 c_fields c_ties c_worth c_codes = some v) : xV (j4_gainFor) X 0 0 (hS c_fields c_ties c_worth c_forces c_many c_codes c_b_list c_b_many c_p_list c_p_weights c_p_drawn c_p_many c_p_all c_p_turns) 0 [(0, .ref 0), (1, .int x1), (2, .int x2), (3, .int x3)] [] := by
  unfold F4_gainFor at hf
  refine xV_iload_n 1 rfl dX4_gainFor_0 rfl 1 rfl ?_
  refine xV_if_ne (tgt := 15) 4 rfl dX4_gainFor_1 (by decide) (fun h1 => ?_) (fun h1 => ?_)
  · have hf := xif_f hf h1
    refine xV_aload_n 16 rfl dX4_gainFor_15 rfl 0 rfl ?_
    refine xV_get (v := .ref 4) 19 rfl dX4_gainFor_16 f4_23 rfl rfl ?_
    refine xV_iconst 20 rfl dX4_gainFor_19 xy_i0 ?_
    refine xV_aaload (b := 5) 21 rfl dX4_gainFor_20 rfl rfl rfl xy_in0_2 (by decide) ?_
    refine xV_iload_n 22 rfl dX4_gainFor_21 rfl 3 rfl ?_
    obtain ⟨hg22, hf⟩ := xg_s hf
    refine xV_iaload 23 rfl dX4_gainFor_22 rfl (xin_ok hg22) rfl ?_
    exact T4_gainFor_b23 hX hf
  · have hf := xif_t hf h1
    refine xV_aload_n 5 rfl dX4_gainFor_4 rfl 0 rfl ?_
    refine xV_get (v := .ref 4) 8 rfl dX4_gainFor_5 f4_23 rfl rfl ?_
    refine xV_iconst 9 rfl dX4_gainFor_8 xy_i0 ?_
    refine xV_aaload (b := 5) 10 rfl dX4_gainFor_9 rfl rfl rfl xy_in0_2 (by decide) ?_
    refine xV_iload_n 11 rfl dX4_gainFor_10 rfl 2 rfl ?_
    obtain ⟨hg11, hf⟩ := xg_s hf
    refine xV_iaload 12 rfl dX4_gainFor_11 rfl (xin_ok hg11) rfl ?_
    refine xV_goto (tgt := 23) dX4_gainFor_12 (by decide) ?_
    exact T4_gainFor_b23 hX hf
theorem C4_gainFor (l : Launch) {z : Nat} {x1 : Int32} {x2 : Int32} {x3 : Int32} {c_fields : Int32} {c_ties : Int32} {c_worth : (Nat → Int32)} {c_codes : (Nat → Nat → Int32)} {c_forces : (Nat → Int32)} {c_many : (Nat → Int32)} {c_b_list : (Nat → Nat → Int32)} {c_b_many : (Nat → Int32)} {c_p_list : (Nat → Nat → Int32)} {c_p_weights : (Nat → Nat → Int32)} {c_p_drawn : (Nat → Nat → Int32)} {c_p_many : (Nat → Int32)} {c_p_all : (Nat → Int32)} {c_p_turns : (Nat → Int32)} {v : Int32} (hf : F4_gainFor z x1 x2 x3 c_fields c_ties c_worth c_codes = some v) : xCt l yX4_gainFor ((some .int)) j4_gainFor [.ref 0, .int x1, .int x2, .int x3] (hS c_fields c_ties c_worth c_forces c_many c_codes c_b_list c_b_many c_p_list c_p_weights c_p_drawn c_p_many c_p_all c_p_turns) (some (.int v)) (hS c_fields c_ties c_worth c_forces c_many c_codes c_b_list c_b_many c_p_list c_p_weights c_p_drawn c_p_many c_p_all c_p_turns) := xCt_of (by decide) rfl (Nat.le_of_ble_eq_true rfl) (fun _ hX => T4_gainFor hX hf)
theorem m4_gainFor : xMd yX4_gainFor RX4 ((some .int)) j4_gainFor 3 := ⟨List.mem_of_getElem? (i := 611) (by decide +kernel), List.mem_of_getElem? (i := 15) (by decide +kernel), rfl, by decide +kernel⟩
theorem v4_gainFor : xMv yX4_gainFor RX4 := ⟨List.mem_of_getElem? (i := 609) (by decide +kernel), List.mem_of_getElem? (i := 610) (by decide +kernel)⟩
theorem k4_84 : Cond.methodLink RX4 84 yX4_gainFor ∈ wsL_law0 := List.mem_of_getElem? (i := 699) (by decide +kernel)
theorem k4_88 : Cond.methodLink RX4 88 Lib.Math.min.name ∈ wsL_law0 := List.mem_of_getElem? (i := 787) (by decide +kernel)
theorem dX4_leastGain_0 : decode cX4_leastGain 0 = .ok (.bipush 8, 2) := by decide +kernel
theorem dX4_leastGain_2 : decode cX4_leastGain 2 = .ok (.istore 4, 2) := by decide +kernel
theorem dX4_leastGain_4 : decode cX4_leastGain 4 = .ok (.iconst 0, 1) := by decide +kernel
theorem dX4_leastGain_5 : decode cX4_leastGain 5 = .ok (.istore 5, 2) := by decide +kernel
theorem dX4_leastGain_7 : decode cX4_leastGain 7 = .ok (.iload 5, 2) := by decide +kernel
theorem dX4_leastGain_9 : decode cX4_leastGain 9 = .ok (.aload_n 0, 1) := by decide +kernel
theorem dX4_leastGain_10 : decode cX4_leastGain 10 = .ok (.getfield 18, 3) := by decide +kernel
theorem dX4_leastGain_13 : decode cX4_leastGain 13 = .ok (.iconst 1, 1) := by decide +kernel
theorem dX4_leastGain_14 : decode cX4_leastGain 14 = .ok (.iload_n 1, 1) := by decide +kernel
theorem dX4_leastGain_15 : decode cX4_leastGain 15 = .ok (.isub, 1) := by decide +kernel
theorem dX4_leastGain_16 : decode cX4_leastGain 16 = .ok (.iaload, 1) := by decide +kernel
theorem dX4_leastGain_17 : decode cX4_leastGain 17 = .ok (.if_icmp .ge 30, 3) := by decide +kernel
theorem dX4_leastGain_20 : decode cX4_leastGain 20 = .ok (.iload 4, 2) := by decide +kernel
theorem dX4_leastGain_22 : decode cX4_leastGain 22 = .ok (.iload_n 3, 1) := by decide +kernel
theorem dX4_leastGain_23 : decode cX4_leastGain 23 = .ok (.if_icmp .le 24, 3) := by decide +kernel
theorem dX4_leastGain_26 : decode cX4_leastGain 26 = .ok (.iload 4, 2) := by decide +kernel
theorem dX4_leastGain_28 : decode cX4_leastGain 28 = .ok (.aload_n 0, 1) := by decide +kernel
theorem dX4_leastGain_29 : decode cX4_leastGain 29 = .ok (.iload_n 1, 1) := by decide +kernel
theorem dX4_leastGain_30 : decode cX4_leastGain 30 = .ok (.iload_n 2, 1) := by decide +kernel
theorem dX4_leastGain_31 : decode cX4_leastGain 31 = .ok (.iload 5, 2) := by decide +kernel
theorem dX4_leastGain_33 : decode cX4_leastGain 33 = .ok (.invokevirtual 84, 3) := by decide +kernel
theorem dX4_leastGain_36 : decode cX4_leastGain 36 = .ok (.invokestatic 88, 3) := by decide +kernel
theorem dX4_leastGain_39 : decode cX4_leastGain 39 = .ok (.istore 4, 2) := by decide +kernel
theorem dX4_leastGain_41 : decode cX4_leastGain 41 = .ok (.iinc 5 1, 3) := by decide +kernel
theorem dX4_leastGain_44 : decode cX4_leastGain 44 = .ok (.goto (-37), 3) := by decide +kernel
theorem dX4_leastGain_47 : decode cX4_leastGain 47 = .ok (.iload 4, 2) := by decide +kernel
theorem dX4_leastGain_49 : decode cX4_leastGain 49 = .ok (.ireturn, 1) := by decide +kernel
abbrev j4_leastGain : xJ := (cX4_leastGain, 6, RX4, 3, 0, 0)
def F4_leastGain_b7 (z : Nat) (w : Nat) (x1 : Int32) (x2 : Int32) (x3 : Int32) (x4 : Int32) (x5 : Int32) (c_fields : Int32) (c_ties : Int32) (c_worth : (Nat → Int32)) (c_many : (Nat → Int32)) (c_codes : (Nat → Nat → Int32)) : Option (Int32) := match w with
  | 0 => none
  | w + 1 => xg (xin ((1 : Int32) - x1) 2) (if (c_many (xn ((1 : Int32) - x1))) ≤ x5 then (some (x4)) else (if x4 ≤ x3 then (some (x4)) else ((F4_gainFor z x1 x2 x5 c_fields c_ties c_worth c_codes).bind (fun v33 => F4_leastGain_b7 z w x1 x2 x3 (if v33 < x4 then v33 else x4) (x5 + (1 : Int32)) c_fields c_ties c_worth c_many c_codes))))
theorem T4_leastGain_b7 {X : xX} {c_fields : Int32} {c_ties : Int32} {c_worth : (Nat → Int32)} {c_forces : (Nat → Int32)} {c_many : (Nat → Int32)} {c_codes : (Nat → Nat → Int32)} {c_b_list : (Nat → Nat → Int32)} {c_b_many : (Nat → Int32)} {c_p_list : (Nat → Nat → Int32)} {c_p_weights : (Nat → Nat → Int32)} {c_p_drawn : (Nat → Nat → Int32)} {c_p_many : (Nat → Int32)} {c_p_all : (Nat → Int32)} {c_p_turns : (Nat → Int32)} {z : Nat} {v : Int32} (hX : xIs (j4_leastGain) X ((some .int)) (some (.int v)) (hS c_fields c_ties c_worth c_forces c_many c_codes c_b_list c_b_many c_p_list c_p_weights c_p_drawn c_p_many c_p_all c_p_turns)) : ∀ (w : Nat) {x1 : Int32} {x2 : Int32} {x3 : Int32} {x4 : Int32} {x5 : Int32}, F4_leastGain_b7 z w x1 x2 x3 x4 x5 c_fields c_ties c_worth c_many c_codes = some v → xV (j4_leastGain) X 0 0 (hS c_fields c_ties c_worth c_forces c_many c_codes c_b_list c_b_many c_p_list c_p_weights c_p_drawn c_p_many c_p_all c_p_turns) 7 [(0, .ref 0), (1, .int x1), (2, .int x2), (3, .int x3), (4, .int x4), (5, .int x5)] [] := by
  intro w
  induction w with
  | zero => intro x1 x2 x3 x4 x5 hf; cases hf
  | succ w ih =>
    intro x1 x2 x3 x4 x5 hf
    unfold F4_leastGain_b7 at hf
    refine xV_iload 9 rfl dX4_leastGain_7 5 rfl ?_
    refine xV_aload_n 10 rfl dX4_leastGain_9 rfl 0 rfl ?_
    refine xV_get (v := .ref 3) 13 rfl dX4_leastGain_10 f4_18 rfl rfl ?_
    refine xV_iconst 14 rfl dX4_leastGain_13 xy_i1 ?_
    refine xV_iload_n 15 rfl dX4_leastGain_14 rfl 1 rfl ?_
    refine xV_isub 16 rfl dX4_leastGain_15 ?_
    obtain ⟨hg16, hf⟩ := xg_s hf
    refine xV_iaload 17 rfl dX4_leastGain_16 rfl (xin_ok hg16) rfl ?_
    refine xV_icmp_ge (tgt := 47) 20 rfl dX4_leastGain_17 (by decide) (fun h17 => ?_) (fun h17 => ?_)
    · have hf := xif_t hf h17
      refine xV_iload 49 rfl dX4_leastGain_47 4 rfl ?_
      obtain rfl := Option.some.inj hf
      exact xV_iret hX dX4_leastGain_49 rfl (Nat.zero_le _) (Nat.zero_le _)
    · have hf := xif_f hf h17
      refine xV_iload 22 rfl dX4_leastGain_20 4 rfl ?_
      refine xV_iload_n 23 rfl dX4_leastGain_22 rfl 3 rfl ?_
      refine xV_icmp_le (tgt := 47) 26 rfl dX4_leastGain_23 (by decide) (fun h23 => ?_) (fun h23 => ?_)
      · have hf := xif_t hf h23
        refine xV_iload 49 rfl dX4_leastGain_47 4 rfl ?_
        obtain rfl := Option.some.inj hf
        exact xV_iret hX dX4_leastGain_49 rfl (Nat.zero_le _) (Nat.zero_le _)
      · have hf := xif_f hf h23
        refine xV_iload 28 rfl dX4_leastGain_26 4 rfl ?_
        refine xV_aload_n 29 rfl dX4_leastGain_28 rfl 0 rfl ?_
        refine xV_iload_n 30 rfl dX4_leastGain_29 rfl 1 rfl ?_
        refine xV_iload_n 31 rfl dX4_leastGain_30 rfl 2 rfl ?_
        refine xV_iload 33 rfl dX4_leastGain_31 5 rfl ?_
        obtain ⟨v33, hv33, hf⟩ := xb_s hf
        refine xV_same (rest := [.int x4]) 36 rfl dX4_leastGain_33 rfl (C4_gainFor X.1.2.1 hv33) m4_gainFor v4_gainFor k4_84 rfl rfl rfl rfl rfl (Nat.le_of_ble_eq_true rfl) (Nat.le_of_ble_eq_true rfl) (Nat.le_of_ble_eq_true rfl) ⟨Nat.le_refl _, Nat.le_refl _⟩ ?_
        show xV (j4_leastGain) X 0 0 (hS c_fields c_ties c_worth c_forces c_many c_codes c_b_list c_b_many c_p_list c_p_weights c_p_drawn c_p_many c_p_all c_p_turns) 36 [(0, .ref 0), (1, .int x1), (2, .int x2), (3, .int x3), (4, .int x4), (5, .int x5)] [.int v33, .int x4]
        refine xV_mmin 39 rfl dX4_leastGain_36 k4_88 (Nat.le_of_ble_eq_true rfl) (Nat.le_of_ble_eq_true rfl) (Nat.zero_le _) (Nat.zero_le _) ?_
        refine xV_istore (L' := [(4, .int (if v33 < x4 then v33 else x4)), (0, .ref 0), (1, .int x1), (2, .int x2), (3, .int x3), (5, .int x5)]) 41 rfl dX4_leastGain_39 (xlt rfl) rfl ?_
        refine xV_iinc (L' := [(5, .int (x5 + (1 : Int32))), (4, .int (if v33 < x4 then v33 else x4)), (0, .ref 0), (1, .int x1), (2, .int x2), (3, .int x3)]) 44 rfl dX4_leastGain_41 5 rfl (xk_inc xy_i1) (xlt rfl) rfl ?_
        refine xV_goto (tgt := 7) dX4_leastGain_44 (by decide) ?_
        refine xV_sub [2, 3, 4, 5, 1, 0] rfl ?_
        exact ih hf
def F4_leastGain (z : Nat) (x1 : Int32) (x2 : Int32) (x3 : Int32) (c_fields : Int32) (c_ties : Int32) (c_worth : (Nat → Int32)) (c_many : (Nat → Int32)) (c_codes : (Nat → Nat → Int32)) : Option (Int32) :=
  F4_leastGain_b7 z z x1 x2 x3 (8 : Int32) (0 : Int32) c_fields c_ties c_worth c_many c_codes
theorem T4_leastGain {X : xX} {z : Nat} {x1 : Int32} {x2 : Int32} {x3 : Int32} {c_fields : Int32} {c_ties : Int32} {c_worth : (Nat → Int32)} {c_many : (Nat → Int32)} {c_codes : (Nat → Nat → Int32)} {c_forces : (Nat → Int32)} {c_b_list : (Nat → Nat → Int32)} {c_b_many : (Nat → Int32)} {c_p_list : (Nat → Nat → Int32)} {c_p_weights : (Nat → Nat → Int32)} {c_p_drawn : (Nat → Nat → Int32)} {c_p_many : (Nat → Int32)} {c_p_all : (Nat → Int32)} {c_p_turns : (Nat → Int32)} {v : Int32} (hX : xIs (j4_leastGain) X ((some .int)) (some (.int v)) (hS c_fields c_ties c_worth c_forces c_many c_codes c_b_list c_b_many c_p_list c_p_weights c_p_drawn c_p_many c_p_all c_p_turns)) (hf : F4_leastGain z x1 x2 x3 c_fields c_ties c_worth c_many c_codes = some v) : xV (j4_leastGain) X 0 0 (hS c_fields c_ties c_worth c_forces c_many c_codes c_b_list c_b_many c_p_list c_p_weights c_p_drawn c_p_many c_p_all c_p_turns) 0 [(0, .ref 0), (1, .int x1), (2, .int x2), (3, .int x3)] [] := by
  unfold F4_leastGain at hf
  refine xV_bipush 2 rfl dX4_leastGain_0 xy_b8 ?_
  refine xV_istore (L' := [(4, .int (8 : Int32)), (0, .ref 0), (1, .int x1), (2, .int x2), (3, .int x3)]) 4 rfl dX4_leastGain_2 (xlt rfl) rfl ?_
  refine xV_iconst 5 rfl dX4_leastGain_4 xy_i0 ?_
  refine xV_istore (L' := [(5, .int (0 : Int32)), (4, .int (8 : Int32)), (0, .ref 0), (1, .int x1), (2, .int x2), (3, .int x3)]) 7 rfl dX4_leastGain_5 (xlt rfl) rfl ?_
  refine xV_sub [2, 3, 4, 5, 1, 0] rfl ?_
  exact T4_leastGain_b7 hX _ hf
theorem C4_leastGain (l : Launch) {z : Nat} {x1 : Int32} {x2 : Int32} {x3 : Int32} {c_fields : Int32} {c_ties : Int32} {c_worth : (Nat → Int32)} {c_many : (Nat → Int32)} {c_codes : (Nat → Nat → Int32)} {c_forces : (Nat → Int32)} {c_b_list : (Nat → Nat → Int32)} {c_b_many : (Nat → Int32)} {c_p_list : (Nat → Nat → Int32)} {c_p_weights : (Nat → Nat → Int32)} {c_p_drawn : (Nat → Nat → Int32)} {c_p_many : (Nat → Int32)} {c_p_all : (Nat → Int32)} {c_p_turns : (Nat → Int32)} {v : Int32} (hf : F4_leastGain z x1 x2 x3 c_fields c_ties c_worth c_many c_codes = some v) : xCt l yX4_leastGain ((some .int)) j4_leastGain [.ref 0, .int x1, .int x2, .int x3] (hS c_fields c_ties c_worth c_forces c_many c_codes c_b_list c_b_many c_p_list c_p_weights c_p_drawn c_p_many c_p_all c_p_turns) (some (.int v)) (hS c_fields c_ties c_worth c_forces c_many c_codes c_b_list c_b_many c_p_list c_p_weights c_p_drawn c_p_many c_p_all c_p_turns) := xCt_of (by decide) rfl (Nat.le_of_ble_eq_true rfl) (fun _ hX => T4_leastGain hX hf)
theorem m4_leastGain : xMd yX4_leastGain RX4 ((some .int)) j4_leastGain 3 := ⟨List.mem_of_getElem? (i := 786) (by decide +kernel), List.mem_of_getElem? (i := 15) (by decide +kernel), rfl, by decide +kernel⟩
theorem v4_leastGain : xMv yX4_leastGain RX4 := ⟨List.mem_of_getElem? (i := 784) (by decide +kernel), List.mem_of_getElem? (i := 785) (by decide +kernel)⟩
theorem dX4_isBeaten_0 : decode cX4_isBeaten 0 = .ok (.iconst 0, 1) := by decide +kernel
theorem dX4_isBeaten_1 : decode cX4_isBeaten 1 = .ok (.istore 4, 2) := by decide +kernel
theorem dX4_isBeaten_3 : decode cX4_isBeaten 3 = .ok (.iload 4, 2) := by decide +kernel
theorem dX4_isBeaten_5 : decode cX4_isBeaten 5 = .ok (.aload_n 0, 1) := by decide +kernel
theorem dX4_isBeaten_6 : decode cX4_isBeaten 6 = .ok (.getfield 18, 3) := by decide +kernel
theorem dX4_isBeaten_9 : decode cX4_isBeaten 9 = .ok (.iconst 1, 1) := by decide +kernel
theorem dX4_isBeaten_10 : decode cX4_isBeaten 10 = .ok (.iload_n 1, 1) := by decide +kernel
theorem dX4_isBeaten_11 : decode cX4_isBeaten 11 = .ok (.isub, 1) := by decide +kernel
theorem dX4_isBeaten_12 : decode cX4_isBeaten 12 = .ok (.iaload, 1) := by decide +kernel
theorem dX4_isBeaten_13 : decode cX4_isBeaten 13 = .ok (.if_icmp .ge 30, 3) := by decide +kernel
theorem dX4_isBeaten_16 : decode cX4_isBeaten 16 = .ok (.aload_n 0, 1) := by decide +kernel
theorem dX4_isBeaten_17 : decode cX4_isBeaten 17 = .ok (.iload_n 1, 1) := by decide +kernel
theorem dX4_isBeaten_18 : decode cX4_isBeaten 18 = .ok (.iload_n 2, 1) := by decide +kernel
theorem dX4_isBeaten_19 : decode cX4_isBeaten 19 = .ok (.iload 4, 2) := by decide +kernel
theorem dX4_isBeaten_21 : decode cX4_isBeaten 21 = .ok (.invokevirtual 84, 3) := by decide +kernel
theorem dX4_isBeaten_24 : decode cX4_isBeaten 24 = .ok (.aload_n 0, 1) := by decide +kernel
theorem dX4_isBeaten_25 : decode cX4_isBeaten 25 = .ok (.iload_n 1, 1) := by decide +kernel
theorem dX4_isBeaten_26 : decode cX4_isBeaten 26 = .ok (.iload_n 3, 1) := by decide +kernel
theorem dX4_isBeaten_27 : decode cX4_isBeaten 27 = .ok (.iload 4, 2) := by decide +kernel
theorem dX4_isBeaten_29 : decode cX4_isBeaten 29 = .ok (.invokevirtual 84, 3) := by decide +kernel
theorem dX4_isBeaten_32 : decode cX4_isBeaten 32 = .ok (.if_icmp .lt 5, 3) := by decide +kernel
theorem dX4_isBeaten_35 : decode cX4_isBeaten 35 = .ok (.iconst 0, 1) := by decide +kernel
theorem dX4_isBeaten_36 : decode cX4_isBeaten 36 = .ok (.ireturn, 1) := by decide +kernel
theorem dX4_isBeaten_37 : decode cX4_isBeaten 37 = .ok (.iinc 4 1, 3) := by decide +kernel
theorem dX4_isBeaten_40 : decode cX4_isBeaten 40 = .ok (.goto (-37), 3) := by decide +kernel
theorem dX4_isBeaten_43 : decode cX4_isBeaten 43 = .ok (.iconst 1, 1) := by decide +kernel
theorem dX4_isBeaten_44 : decode cX4_isBeaten 44 = .ok (.ireturn, 1) := by decide +kernel
abbrev j4_isBeaten : xJ := (cX4_isBeaten, 5, RX4, 3, 0, 0)
def F4_isBeaten_b3 (z : Nat) (w : Nat) (x1 : Int32) (x2 : Int32) (x3 : Int32) (x4 : Int32) (c_fields : Int32) (c_ties : Int32) (c_worth : (Nat → Int32)) (c_many : (Nat → Int32)) (c_codes : (Nat → Nat → Int32)) : Option (Int32) := match w with
  | 0 => none
  | w + 1 => xg (xin ((1 : Int32) - x1) 2) (if (c_many (xn ((1 : Int32) - x1))) ≤ x4 then (some ((1 : Int32))) else ((F4_gainFor z x1 x2 x4 c_fields c_ties c_worth c_codes).bind (fun v21 => (F4_gainFor z x1 x3 x4 c_fields c_ties c_worth c_codes).bind (fun v29 => if v21 < v29 then (F4_isBeaten_b3 z w x1 x2 x3 (x4 + (1 : Int32)) c_fields c_ties c_worth c_many c_codes) else (some ((0 : Int32)))))))
theorem T4_isBeaten_b3 {X : xX} {c_fields : Int32} {c_ties : Int32} {c_worth : (Nat → Int32)} {c_forces : (Nat → Int32)} {c_many : (Nat → Int32)} {c_codes : (Nat → Nat → Int32)} {c_b_list : (Nat → Nat → Int32)} {c_b_many : (Nat → Int32)} {c_p_list : (Nat → Nat → Int32)} {c_p_weights : (Nat → Nat → Int32)} {c_p_drawn : (Nat → Nat → Int32)} {c_p_many : (Nat → Int32)} {c_p_all : (Nat → Int32)} {c_p_turns : (Nat → Int32)} {z : Nat} {v : Int32} (hX : xIs (j4_isBeaten) X ((some .boolean)) (some (.int v)) (hS c_fields c_ties c_worth c_forces c_many c_codes c_b_list c_b_many c_p_list c_p_weights c_p_drawn c_p_many c_p_all c_p_turns)) : ∀ (w : Nat) {x1 : Int32} {x2 : Int32} {x3 : Int32} {x4 : Int32}, F4_isBeaten_b3 z w x1 x2 x3 x4 c_fields c_ties c_worth c_many c_codes = some v → xV (j4_isBeaten) X 0 0 (hS c_fields c_ties c_worth c_forces c_many c_codes c_b_list c_b_many c_p_list c_p_weights c_p_drawn c_p_many c_p_all c_p_turns) 3 [(0, .ref 0), (1, .int x1), (2, .int x2), (3, .int x3), (4, .int x4)] [] := by
  intro w
  induction w with
  | zero => intro x1 x2 x3 x4 hf; cases hf
  | succ w ih =>
    intro x1 x2 x3 x4 hf
    unfold F4_isBeaten_b3 at hf
    refine xV_iload 5 rfl dX4_isBeaten_3 4 rfl ?_
    refine xV_aload_n 6 rfl dX4_isBeaten_5 rfl 0 rfl ?_
    refine xV_get (v := .ref 3) 9 rfl dX4_isBeaten_6 f4_18 rfl rfl ?_
    refine xV_iconst 10 rfl dX4_isBeaten_9 xy_i1 ?_
    refine xV_iload_n 11 rfl dX4_isBeaten_10 rfl 1 rfl ?_
    refine xV_isub 12 rfl dX4_isBeaten_11 ?_
    obtain ⟨hg12, hf⟩ := xg_s hf
    refine xV_iaload 13 rfl dX4_isBeaten_12 rfl (xin_ok hg12) rfl ?_
    refine xV_icmp_ge (tgt := 43) 16 rfl dX4_isBeaten_13 (by decide) (fun h13 => ?_) (fun h13 => ?_)
    · have hf := xif_t hf h13
      refine xV_iconst 44 rfl dX4_isBeaten_43 xy_i1 ?_
      obtain rfl := Option.some.inj hf
      exact xV_iret hX dX4_isBeaten_44 (xbo_ok rfl) (Nat.zero_le _) (Nat.zero_le _)
    · have hf := xif_f hf h13
      refine xV_aload_n 17 rfl dX4_isBeaten_16 rfl 0 rfl ?_
      refine xV_iload_n 18 rfl dX4_isBeaten_17 rfl 1 rfl ?_
      refine xV_iload_n 19 rfl dX4_isBeaten_18 rfl 2 rfl ?_
      refine xV_iload 21 rfl dX4_isBeaten_19 4 rfl ?_
      obtain ⟨v21, hv21, hf⟩ := xb_s hf
      refine xV_same (rest := []) 24 rfl dX4_isBeaten_21 rfl (C4_gainFor X.1.2.1 hv21) m4_gainFor v4_gainFor k4_84 rfl rfl rfl rfl rfl (Nat.le_of_ble_eq_true rfl) (Nat.le_of_ble_eq_true rfl) (Nat.le_of_ble_eq_true rfl) ⟨Nat.le_refl _, Nat.le_refl _⟩ ?_
      show xV (j4_isBeaten) X 0 0 (hS c_fields c_ties c_worth c_forces c_many c_codes c_b_list c_b_many c_p_list c_p_weights c_p_drawn c_p_many c_p_all c_p_turns) 24 [(0, .ref 0), (1, .int x1), (2, .int x2), (3, .int x3), (4, .int x4)] [.int v21]
      refine xV_aload_n 25 rfl dX4_isBeaten_24 rfl 0 rfl ?_
      refine xV_iload_n 26 rfl dX4_isBeaten_25 rfl 1 rfl ?_
      refine xV_iload_n 27 rfl dX4_isBeaten_26 rfl 3 rfl ?_
      refine xV_iload 29 rfl dX4_isBeaten_27 4 rfl ?_
      obtain ⟨v29, hv29, hf⟩ := xb_s hf
      refine xV_same (rest := [.int v21]) 32 rfl dX4_isBeaten_29 rfl (C4_gainFor X.1.2.1 hv29) m4_gainFor v4_gainFor k4_84 rfl rfl rfl rfl rfl (Nat.le_of_ble_eq_true rfl) (Nat.le_of_ble_eq_true rfl) (Nat.le_of_ble_eq_true rfl) ⟨Nat.le_refl _, Nat.le_refl _⟩ ?_
      show xV (j4_isBeaten) X 0 0 (hS c_fields c_ties c_worth c_forces c_many c_codes c_b_list c_b_many c_p_list c_p_weights c_p_drawn c_p_many c_p_all c_p_turns) 32 [(0, .ref 0), (1, .int x1), (2, .int x2), (3, .int x3), (4, .int x4)] [.int v29, .int v21]
      refine xV_icmp_lt (tgt := 37) 35 rfl dX4_isBeaten_32 (by decide) (fun h32 => ?_) (fun h32 => ?_)
      · have hf := xif_t hf h32
        refine xV_iinc (L' := [(4, .int (x4 + (1 : Int32))), (0, .ref 0), (1, .int x1), (2, .int x2), (3, .int x3)]) 40 rfl dX4_isBeaten_37 4 rfl (xk_inc xy_i1) (xlt rfl) rfl ?_
        refine xV_goto (tgt := 3) dX4_isBeaten_40 (by decide) ?_
        refine xV_sub [1, 2, 3, 4, 0] rfl ?_
        exact ih hf
      · have hf := xif_f hf h32
        refine xV_iconst 36 rfl dX4_isBeaten_35 xy_i0 ?_
        obtain rfl := Option.some.inj hf
        exact xV_iret hX dX4_isBeaten_36 (xbo_ok rfl) (Nat.zero_le _) (Nat.zero_le _)
def F4_isBeaten (z : Nat) (x1 : Int32) (x2 : Int32) (x3 : Int32) (c_fields : Int32) (c_ties : Int32) (c_worth : (Nat → Int32)) (c_many : (Nat → Int32)) (c_codes : (Nat → Nat → Int32)) : Option (Int32) :=
  F4_isBeaten_b3 z z x1 x2 x3 (0 : Int32) c_fields c_ties c_worth c_many c_codes
theorem T4_isBeaten {X : xX} {z : Nat} {x1 : Int32} {x2 : Int32} {x3 : Int32} {c_fields : Int32} {c_ties : Int32} {c_worth : (Nat → Int32)} {c_many : (Nat → Int32)} {c_codes : (Nat → Nat → Int32)} {c_forces : (Nat → Int32)} {c_b_list : (Nat → Nat → Int32)} {c_b_many : (Nat → Int32)} {c_p_list : (Nat → Nat → Int32)} {c_p_weights : (Nat → Nat → Int32)} {c_p_drawn : (Nat → Nat → Int32)} {c_p_many : (Nat → Int32)} {c_p_all : (Nat → Int32)} {c_p_turns : (Nat → Int32)} {v : Int32} (hX : xIs (j4_isBeaten) X ((some .boolean)) (some (.int v)) (hS c_fields c_ties c_worth c_forces c_many c_codes c_b_list c_b_many c_p_list c_p_weights c_p_drawn c_p_many c_p_all c_p_turns)) (hf : F4_isBeaten z x1 x2 x3 c_fields c_ties c_worth c_many c_codes = some v) : xV (j4_isBeaten) X 0 0 (hS c_fields c_ties c_worth c_forces c_many c_codes c_b_list c_b_many c_p_list c_p_weights c_p_drawn c_p_many c_p_all c_p_turns) 0 [(0, .ref 0), (1, .int x1), (2, .int x2), (3, .int x3)] [] := by
  unfold F4_isBeaten at hf
  refine xV_iconst 1 rfl dX4_isBeaten_0 xy_i0 ?_
  refine xV_istore (L' := [(4, .int (0 : Int32)), (0, .ref 0), (1, .int x1), (2, .int x2), (3, .int x3)]) 3 rfl dX4_isBeaten_1 (xlt rfl) rfl ?_
  refine xV_sub [1, 2, 3, 4, 0] rfl ?_
  exact T4_isBeaten_b3 hX _ hf
theorem C4_isBeaten (l : Launch) {z : Nat} {x1 : Int32} {x2 : Int32} {x3 : Int32} {c_fields : Int32} {c_ties : Int32} {c_worth : (Nat → Int32)} {c_many : (Nat → Int32)} {c_codes : (Nat → Nat → Int32)} {c_forces : (Nat → Int32)} {c_b_list : (Nat → Nat → Int32)} {c_b_many : (Nat → Int32)} {c_p_list : (Nat → Nat → Int32)} {c_p_weights : (Nat → Nat → Int32)} {c_p_drawn : (Nat → Nat → Int32)} {c_p_many : (Nat → Int32)} {c_p_all : (Nat → Int32)} {c_p_turns : (Nat → Int32)} {v : Int32} (hf : F4_isBeaten z x1 x2 x3 c_fields c_ties c_worth c_many c_codes = some v) : xCt l yX4_isBeaten ((some .boolean)) j4_isBeaten [.ref 0, .int x1, .int x2, .int x3] (hS c_fields c_ties c_worth c_forces c_many c_codes c_b_list c_b_many c_p_list c_p_weights c_p_drawn c_p_many c_p_all c_p_turns) (some (.int v)) (hS c_fields c_ties c_worth c_forces c_many c_codes c_b_list c_b_many c_p_list c_p_weights c_p_drawn c_p_many c_p_all c_p_turns) := xCt_of (by decide) rfl (Nat.le_of_ble_eq_true rfl) (fun _ hX => T4_isBeaten hX hf)
theorem m4_isBeaten : xMd yX4_isBeaten RX4 ((some .boolean)) j4_isBeaten 3 := ⟨List.mem_of_getElem? (i := 698) (by decide +kernel), List.mem_of_getElem? (i := 15) (by decide +kernel), rfl, by decide +kernel⟩
theorem v4_isBeaten : xMv yX4_isBeaten RX4 := ⟨List.mem_of_getElem? (i := 696) (by decide +kernel), List.mem_of_getElem? (i := 697) (by decide +kernel)⟩
theorem dX4_isWorse_0 : decode cX4_isWorse 0 = .ok (.iconst 0, 1) := by decide +kernel
theorem dX4_isWorse_1 : decode cX4_isWorse 1 = .ok (.istore 4, 2) := by decide +kernel
theorem dX4_isWorse_3 : decode cX4_isWorse 3 = .ok (.iconst 0, 1) := by decide +kernel
theorem dX4_isWorse_4 : decode cX4_isWorse 4 = .ok (.istore 5, 2) := by decide +kernel
theorem dX4_isWorse_6 : decode cX4_isWorse 6 = .ok (.iload 5, 2) := by decide +kernel
theorem dX4_isWorse_8 : decode cX4_isWorse 8 = .ok (.aload_n 0, 1) := by decide +kernel
theorem dX4_isWorse_9 : decode cX4_isWorse 9 = .ok (.getfield 18, 3) := by decide +kernel
theorem dX4_isWorse_12 : decode cX4_isWorse 12 = .ok (.iconst 1, 1) := by decide +kernel
theorem dX4_isWorse_13 : decode cX4_isWorse 13 = .ok (.iload_n 1, 1) := by decide +kernel
theorem dX4_isWorse_14 : decode cX4_isWorse 14 = .ok (.isub, 1) := by decide +kernel
theorem dX4_isWorse_15 : decode cX4_isWorse 15 = .ok (.iaload, 1) := by decide +kernel
theorem dX4_isWorse_16 : decode cX4_isWorse 16 = .ok (.if_icmp .ge 57, 3) := by decide +kernel
theorem dX4_isWorse_19 : decode cX4_isWorse 19 = .ok (.aload_n 0, 1) := by decide +kernel
theorem dX4_isWorse_20 : decode cX4_isWorse 20 = .ok (.iload_n 1, 1) := by decide +kernel
theorem dX4_isWorse_21 : decode cX4_isWorse 21 = .ok (.iload_n 2, 1) := by decide +kernel
theorem dX4_isWorse_22 : decode cX4_isWorse 22 = .ok (.iload 5, 2) := by decide +kernel
theorem dX4_isWorse_24 : decode cX4_isWorse 24 = .ok (.invokevirtual 84, 3) := by decide +kernel
theorem dX4_isWorse_27 : decode cX4_isWorse 27 = .ok (.istore 6, 2) := by decide +kernel
theorem dX4_isWorse_29 : decode cX4_isWorse 29 = .ok (.aload_n 0, 1) := by decide +kernel
theorem dX4_isWorse_30 : decode cX4_isWorse 30 = .ok (.iload_n 1, 1) := by decide +kernel
theorem dX4_isWorse_31 : decode cX4_isWorse 31 = .ok (.iload_n 3, 1) := by decide +kernel
theorem dX4_isWorse_32 : decode cX4_isWorse 32 = .ok (.iload 5, 2) := by decide +kernel
theorem dX4_isWorse_34 : decode cX4_isWorse 34 = .ok (.invokevirtual 84, 3) := by decide +kernel
theorem dX4_isWorse_37 : decode cX4_isWorse 37 = .ok (.istore 7, 2) := by decide +kernel
theorem dX4_isWorse_39 : decode cX4_isWorse 39 = .ok (.iload 6, 2) := by decide +kernel
theorem dX4_isWorse_41 : decode cX4_isWorse 41 = .ok (.iload 7, 2) := by decide +kernel
theorem dX4_isWorse_43 : decode cX4_isWorse 43 = .ok (.if_icmp .le 5, 3) := by decide +kernel
theorem dX4_isWorse_46 : decode cX4_isWorse 46 = .ok (.iconst 0, 1) := by decide +kernel
theorem dX4_isWorse_47 : decode cX4_isWorse 47 = .ok (.ireturn, 1) := by decide +kernel
theorem dX4_isWorse_48 : decode cX4_isWorse 48 = .ok (.iload 4, 2) := by decide +kernel
theorem dX4_isWorse_50 : decode cX4_isWorse 50 = .ok (.ifCond .ne 10, 3) := by decide +kernel
theorem dX4_isWorse_53 : decode cX4_isWorse 53 = .ok (.iload 6, 2) := by decide +kernel
theorem dX4_isWorse_55 : decode cX4_isWorse 55 = .ok (.iload 7, 2) := by decide +kernel
theorem dX4_isWorse_57 : decode cX4_isWorse 57 = .ok (.if_icmp .ge 7, 3) := by decide +kernel
theorem dX4_isWorse_60 : decode cX4_isWorse 60 = .ok (.iconst 1, 1) := by decide +kernel
theorem dX4_isWorse_61 : decode cX4_isWorse 61 = .ok (.goto 4, 3) := by decide +kernel
theorem dX4_isWorse_64 : decode cX4_isWorse 64 = .ok (.iconst 0, 1) := by decide +kernel
theorem dX4_isWorse_65 : decode cX4_isWorse 65 = .ok (.istore 4, 2) := by decide +kernel
theorem dX4_isWorse_67 : decode cX4_isWorse 67 = .ok (.iinc 5 1, 3) := by decide +kernel
theorem dX4_isWorse_70 : decode cX4_isWorse 70 = .ok (.goto (-64), 3) := by decide +kernel
theorem dX4_isWorse_73 : decode cX4_isWorse 73 = .ok (.iload 4, 2) := by decide +kernel
theorem dX4_isWorse_75 : decode cX4_isWorse 75 = .ok (.ireturn, 1) := by decide +kernel
abbrev j4_isWorse : xJ := (cX4_isWorse, 8, RX4, 3, 0, 0)
def F4_isWorse_b65 (z : Nat) (x1 : Int32) (x2 : Int32) (x3 : Int32) (x5 : Int32) (s0 : Int32) (c_fields : Int32) (c_ties : Int32) (c_worth : (Nat → Int32)) (c_many : (Nat → Int32)) (c_codes : (Nat → Nat → Int32)) (k6 : Int32 → Int32 → Int32 → Int32 → Int32 → Int32 → Int32 → (Nat → Int32) → (Nat → Int32) → (Nat → Nat → Int32) → Option (Int32)) : Option (Int32) :=
  k6 x1 x2 x3 s0 (x5 + (1 : Int32)) c_fields c_ties c_worth c_many c_codes
theorem T4_isWorse_b65 {X : xX} {c_forces : (Nat → Int32)} {c_b_list : (Nat → Nat → Int32)} {c_b_many : (Nat → Int32)} {c_p_list : (Nat → Nat → Int32)} {c_p_weights : (Nat → Nat → Int32)} {c_p_drawn : (Nat → Nat → Int32)} {c_p_many : (Nat → Int32)} {c_p_all : (Nat → Int32)} {c_p_turns : (Nat → Int32)} {x1 : Int32} {x2 : Int32} {x3 : Int32} {x5 : Int32} {s0 : Int32} {c_fields : Int32} {c_ties : Int32} {c_worth : (Nat → Int32)} {c_many : (Nat → Int32)} {c_codes : (Nat → Nat → Int32)} {z : Nat} {v : Int32} {k6 : Int32 → Int32 → Int32 → Int32 → Int32 → Int32 → Int32 → (Nat → Int32) → (Nat → Int32) → (Nat → Nat → Int32) → Option (Int32)} (hX : xIs (j4_isWorse) X ((some .boolean)) (some (.int v)) (hS c_fields c_ties c_worth c_forces c_many c_codes c_b_list c_b_many c_p_list c_p_weights c_p_drawn c_p_many c_p_all c_p_turns)) (hk6 : ∀ {x1 : Int32} {x2 : Int32} {x3 : Int32} {x4 : Int32} {x5 : Int32}, k6 x1 x2 x3 x4 x5 c_fields c_ties c_worth c_many c_codes = some v → xV (j4_isWorse) X 0 0 (hS c_fields c_ties c_worth c_forces c_many c_codes c_b_list c_b_many c_p_list c_p_weights c_p_drawn c_p_many c_p_all c_p_turns) 6 [(0, .ref 0), (1, .int x1), (2, .int x2), (3, .int x3), (4, .int x4), (5, .int x5)] []) (hf : F4_isWorse_b65 z x1 x2 x3 x5 s0 c_fields c_ties c_worth c_many c_codes k6 = some v) : xV (j4_isWorse) X 0 0 (hS c_fields c_ties c_worth c_forces c_many c_codes c_b_list c_b_many c_p_list c_p_weights c_p_drawn c_p_many c_p_all c_p_turns) 65 [(0, .ref 0), (1, .int x1), (2, .int x2), (3, .int x3), (5, .int x5)] [.int s0] := by
  unfold F4_isWorse_b65 at hf
  refine xV_istore (L' := [(4, .int s0), (0, .ref 0), (1, .int x1), (2, .int x2), (3, .int x3), (5, .int x5)]) 67 rfl dX4_isWorse_65 (xlt rfl) rfl ?_
  refine xV_iinc (L' := [(5, .int (x5 + (1 : Int32))), (4, .int s0), (0, .ref 0), (1, .int x1), (2, .int x2), (3, .int x3)]) 70 rfl dX4_isWorse_67 5 rfl (xk_inc xy_i1) (xlt rfl) rfl ?_
  refine xV_goto (tgt := 6) dX4_isWorse_70 (by decide) ?_
  refine xV_sub [2, 3, 4, 5, 1, 0] rfl ?_
  exact hk6 hf
def F4_isWorse_b6 (z : Nat) (w : Nat) (x1 : Int32) (x2 : Int32) (x3 : Int32) (x4 : Int32) (x5 : Int32) (c_fields : Int32) (c_ties : Int32) (c_worth : (Nat → Int32)) (c_many : (Nat → Int32)) (c_codes : (Nat → Nat → Int32)) : Option (Int32) := match w with
  | 0 => none
  | w + 1 => xg (xin ((1 : Int32) - x1) 2) (if (c_many (xn ((1 : Int32) - x1))) ≤ x5 then (xg (xbo x4) (some (x4))) else ((F4_gainFor z x1 x2 x5 c_fields c_ties c_worth c_codes).bind (fun v24 => (F4_gainFor z x1 x3 x5 c_fields c_ties c_worth c_codes).bind (fun v34 => if v24 ≤ v34 then (if x4 = 0 then (if v34 ≤ v24 then (F4_isWorse_b65 z x1 x2 x3 x5 (0 : Int32) c_fields c_ties c_worth c_many c_codes (fun q0 q1 q2 q3 q4 q5 q6 q7 q8 q9 => F4_isWorse_b6 z w q0 q1 q2 q3 q4 q5 q6 q7 q8 q9)) else (F4_isWorse_b65 z x1 x2 x3 x5 (1 : Int32) c_fields c_ties c_worth c_many c_codes (fun q0 q1 q2 q3 q4 q5 q6 q7 q8 q9 => F4_isWorse_b6 z w q0 q1 q2 q3 q4 q5 q6 q7 q8 q9))) else (F4_isWorse_b65 z x1 x2 x3 x5 (1 : Int32) c_fields c_ties c_worth c_many c_codes (fun q0 q1 q2 q3 q4 q5 q6 q7 q8 q9 => F4_isWorse_b6 z w q0 q1 q2 q3 q4 q5 q6 q7 q8 q9))) else (some ((0 : Int32)))))))
theorem T4_isWorse_b6 {X : xX} {c_fields : Int32} {c_ties : Int32} {c_worth : (Nat → Int32)} {c_forces : (Nat → Int32)} {c_many : (Nat → Int32)} {c_codes : (Nat → Nat → Int32)} {c_b_list : (Nat → Nat → Int32)} {c_b_many : (Nat → Int32)} {c_p_list : (Nat → Nat → Int32)} {c_p_weights : (Nat → Nat → Int32)} {c_p_drawn : (Nat → Nat → Int32)} {c_p_many : (Nat → Int32)} {c_p_all : (Nat → Int32)} {c_p_turns : (Nat → Int32)} {z : Nat} {v : Int32} (hX : xIs (j4_isWorse) X ((some .boolean)) (some (.int v)) (hS c_fields c_ties c_worth c_forces c_many c_codes c_b_list c_b_many c_p_list c_p_weights c_p_drawn c_p_many c_p_all c_p_turns)) : ∀ (w : Nat) {x1 : Int32} {x2 : Int32} {x3 : Int32} {x4 : Int32} {x5 : Int32}, F4_isWorse_b6 z w x1 x2 x3 x4 x5 c_fields c_ties c_worth c_many c_codes = some v → xV (j4_isWorse) X 0 0 (hS c_fields c_ties c_worth c_forces c_many c_codes c_b_list c_b_many c_p_list c_p_weights c_p_drawn c_p_many c_p_all c_p_turns) 6 [(0, .ref 0), (1, .int x1), (2, .int x2), (3, .int x3), (4, .int x4), (5, .int x5)] [] := by
  intro w
  induction w with
  | zero => intro x1 x2 x3 x4 x5 hf; cases hf
  | succ w ih =>
    intro x1 x2 x3 x4 x5 hf
    unfold F4_isWorse_b6 at hf
    refine xV_iload 8 rfl dX4_isWorse_6 5 rfl ?_
    refine xV_aload_n 9 rfl dX4_isWorse_8 rfl 0 rfl ?_
    refine xV_get (v := .ref 3) 12 rfl dX4_isWorse_9 f4_18 rfl rfl ?_
    refine xV_iconst 13 rfl dX4_isWorse_12 xy_i1 ?_
    refine xV_iload_n 14 rfl dX4_isWorse_13 rfl 1 rfl ?_
    refine xV_isub 15 rfl dX4_isWorse_14 ?_
    obtain ⟨hg15, hf⟩ := xg_s hf
    refine xV_iaload 16 rfl dX4_isWorse_15 rfl (xin_ok hg15) rfl ?_
    refine xV_icmp_ge (tgt := 73) 19 rfl dX4_isWorse_16 (by decide) (fun h16 => ?_) (fun h16 => ?_)
    · have hf := xif_t hf h16
      refine xV_iload 75 rfl dX4_isWorse_73 4 rfl ?_
      obtain ⟨hgr, hf⟩ := xg_s hf
      obtain rfl := Option.some.inj hf
      exact xV_iret hX dX4_isWorse_75 (xbo_ok hgr) (Nat.zero_le _) (Nat.zero_le _)
    · have hf := xif_f hf h16
      refine xV_aload_n 20 rfl dX4_isWorse_19 rfl 0 rfl ?_
      refine xV_iload_n 21 rfl dX4_isWorse_20 rfl 1 rfl ?_
      refine xV_iload_n 22 rfl dX4_isWorse_21 rfl 2 rfl ?_
      refine xV_iload 24 rfl dX4_isWorse_22 5 rfl ?_
      obtain ⟨v24, hv24, hf⟩ := xb_s hf
      refine xV_same (rest := []) 27 rfl dX4_isWorse_24 rfl (C4_gainFor X.1.2.1 hv24) m4_gainFor v4_gainFor k4_84 rfl rfl rfl rfl rfl (Nat.le_of_ble_eq_true rfl) (Nat.le_of_ble_eq_true rfl) (Nat.le_of_ble_eq_true rfl) ⟨Nat.le_refl _, Nat.le_refl _⟩ ?_
      show xV (j4_isWorse) X 0 0 (hS c_fields c_ties c_worth c_forces c_many c_codes c_b_list c_b_many c_p_list c_p_weights c_p_drawn c_p_many c_p_all c_p_turns) 27 [(0, .ref 0), (1, .int x1), (2, .int x2), (3, .int x3), (4, .int x4), (5, .int x5)] [.int v24]
      refine xV_istore (L' := [(6, .int v24), (0, .ref 0), (1, .int x1), (2, .int x2), (3, .int x3), (4, .int x4), (5, .int x5)]) 29 rfl dX4_isWorse_27 (xlt rfl) rfl ?_
      refine xV_aload_n 30 rfl dX4_isWorse_29 rfl 1 rfl ?_
      refine xV_iload_n 31 rfl dX4_isWorse_30 rfl 2 rfl ?_
      refine xV_iload_n 32 rfl dX4_isWorse_31 rfl 4 rfl ?_
      refine xV_iload 34 rfl dX4_isWorse_32 6 rfl ?_
      obtain ⟨v34, hv34, hf⟩ := xb_s hf
      refine xV_same (rest := []) 37 rfl dX4_isWorse_34 rfl (C4_gainFor X.1.2.1 hv34) m4_gainFor v4_gainFor k4_84 rfl rfl rfl rfl rfl (Nat.le_of_ble_eq_true rfl) (Nat.le_of_ble_eq_true rfl) (Nat.le_of_ble_eq_true rfl) ⟨Nat.le_refl _, Nat.le_refl _⟩ ?_
      show xV (j4_isWorse) X 0 0 (hS c_fields c_ties c_worth c_forces c_many c_codes c_b_list c_b_many c_p_list c_p_weights c_p_drawn c_p_many c_p_all c_p_turns) 37 [(6, .int v24), (0, .ref 0), (1, .int x1), (2, .int x2), (3, .int x3), (4, .int x4), (5, .int x5)] [.int v34]
      refine xV_istore (L' := [(7, .int v34), (6, .int v24), (0, .ref 0), (1, .int x1), (2, .int x2), (3, .int x3), (4, .int x4), (5, .int x5)]) 39 rfl dX4_isWorse_37 (xlt rfl) rfl ?_
      refine xV_iload 41 rfl dX4_isWorse_39 1 rfl ?_
      refine xV_iload 43 rfl dX4_isWorse_41 0 rfl ?_
      refine xV_icmp_le (tgt := 48) 46 rfl dX4_isWorse_43 (by decide) (fun h43 => ?_) (fun h43 => ?_)
      · have hf := xif_t hf h43
        refine xV_iload 50 rfl dX4_isWorse_48 6 rfl ?_
        refine xV_if_ne (tgt := 60) 53 rfl dX4_isWorse_50 (by decide) (fun h50 => ?_) (fun h50 => ?_)
        · have hf := xif_f hf h50
          refine xV_iconst 61 rfl dX4_isWorse_60 xy_i1 ?_
          refine xV_goto (tgt := 65) dX4_isWorse_61 (by decide) ?_
          refine xV_sub [2, 3, 4, 5, 7] rfl ?_
          exact T4_isWorse_b65 hX (fun {_ _ _ _ _} hq => ih hq) hf
        · have hf := xif_t hf h50
          refine xV_iload 55 rfl dX4_isWorse_53 1 rfl ?_
          refine xV_iload 57 rfl dX4_isWorse_55 0 rfl ?_
          refine xV_icmp_ge (tgt := 64) 60 rfl dX4_isWorse_57 (by decide) (fun h57 => ?_) (fun h57 => ?_)
          · have hf := xif_t hf h57
            refine xV_iconst 65 rfl dX4_isWorse_64 xy_i0 ?_
            refine xV_sub [2, 3, 4, 5, 7] rfl ?_
            exact T4_isWorse_b65 hX (fun {_ _ _ _ _} hq => ih hq) hf
          · have hf := xif_f hf h57
            refine xV_iconst 61 rfl dX4_isWorse_60 xy_i1 ?_
            refine xV_goto (tgt := 65) dX4_isWorse_61 (by decide) ?_
            refine xV_sub [2, 3, 4, 5, 7] rfl ?_
            exact T4_isWorse_b65 hX (fun {_ _ _ _ _} hq => ih hq) hf
      · have hf := xif_f hf h43
        refine xV_iconst 47 rfl dX4_isWorse_46 xy_i0 ?_
        obtain rfl := Option.some.inj hf
        exact xV_iret hX dX4_isWorse_47 (xbo_ok rfl) (Nat.zero_le _) (Nat.zero_le _)
def F4_isWorse (z : Nat) (x1 : Int32) (x2 : Int32) (x3 : Int32) (c_fields : Int32) (c_ties : Int32) (c_worth : (Nat → Int32)) (c_many : (Nat → Int32)) (c_codes : (Nat → Nat → Int32)) : Option (Int32) :=
  F4_isWorse_b6 z z x1 x2 x3 (0 : Int32) (0 : Int32) c_fields c_ties c_worth c_many c_codes
theorem T4_isWorse {X : xX} {z : Nat} {x1 : Int32} {x2 : Int32} {x3 : Int32} {c_fields : Int32} {c_ties : Int32} {c_worth : (Nat → Int32)} {c_many : (Nat → Int32)} {c_codes : (Nat → Nat → Int32)} {c_forces : (Nat → Int32)} {c_b_list : (Nat → Nat → Int32)} {c_b_many : (Nat → Int32)} {c_p_list : (Nat → Nat → Int32)} {c_p_weights : (Nat → Nat → Int32)} {c_p_drawn : (Nat → Nat → Int32)} {c_p_many : (Nat → Int32)} {c_p_all : (Nat → Int32)} {c_p_turns : (Nat → Int32)} {v : Int32} (hX : xIs (j4_isWorse) X ((some .boolean)) (some (.int v)) (hS c_fields c_ties c_worth c_forces c_many c_codes c_b_list c_b_many c_p_list c_p_weights c_p_drawn c_p_many c_p_all c_p_turns)) (hf : F4_isWorse z x1 x2 x3 c_fields c_ties c_worth c_many c_codes = some v) : xV (j4_isWorse) X 0 0 (hS c_fields c_ties c_worth c_forces c_many c_codes c_b_list c_b_many c_p_list c_p_weights c_p_drawn c_p_many c_p_all c_p_turns) 0 [(0, .ref 0), (1, .int x1), (2, .int x2), (3, .int x3)] [] := by
  unfold F4_isWorse at hf
  refine xV_iconst 1 rfl dX4_isWorse_0 xy_i0 ?_
  refine xV_istore (L' := [(4, .int (0 : Int32)), (0, .ref 0), (1, .int x1), (2, .int x2), (3, .int x3)]) 3 rfl dX4_isWorse_1 (xlt rfl) rfl ?_
  refine xV_iconst 4 rfl dX4_isWorse_3 xy_i0 ?_
  refine xV_istore (L' := [(5, .int (0 : Int32)), (4, .int (0 : Int32)), (0, .ref 0), (1, .int x1), (2, .int x2), (3, .int x3)]) 6 rfl dX4_isWorse_4 (xlt rfl) rfl ?_
  refine xV_sub [2, 3, 4, 5, 1, 0] rfl ?_
  exact T4_isWorse_b6 hX _ hf
theorem C4_isWorse (l : Launch) {z : Nat} {x1 : Int32} {x2 : Int32} {x3 : Int32} {c_fields : Int32} {c_ties : Int32} {c_worth : (Nat → Int32)} {c_many : (Nat → Int32)} {c_codes : (Nat → Nat → Int32)} {c_forces : (Nat → Int32)} {c_b_list : (Nat → Nat → Int32)} {c_b_many : (Nat → Int32)} {c_p_list : (Nat → Nat → Int32)} {c_p_weights : (Nat → Nat → Int32)} {c_p_drawn : (Nat → Nat → Int32)} {c_p_many : (Nat → Int32)} {c_p_all : (Nat → Int32)} {c_p_turns : (Nat → Int32)} {v : Int32} (hf : F4_isWorse z x1 x2 x3 c_fields c_ties c_worth c_many c_codes = some v) : xCt l yX4_isWorse ((some .boolean)) j4_isWorse [.ref 0, .int x1, .int x2, .int x3] (hS c_fields c_ties c_worth c_forces c_many c_codes c_b_list c_b_many c_p_list c_p_weights c_p_drawn c_p_many c_p_all c_p_turns) (some (.int v)) (hS c_fields c_ties c_worth c_forces c_many c_codes c_b_list c_b_many c_p_list c_p_weights c_p_drawn c_p_many c_p_all c_p_turns) := xCt_of (by decide) rfl (Nat.le_of_ble_eq_true rfl) (fun _ hX => T4_isWorse hX hf)
theorem m4_isWorse : xMd yX4_isWorse RX4 ((some .boolean)) j4_isWorse 3 := ⟨List.mem_of_getElem? (i := 703) (by decide +kernel), List.mem_of_getElem? (i := 15) (by decide +kernel), rfl, by decide +kernel⟩
theorem v4_isWorse : xMv yX4_isWorse RX4 := ⟨List.mem_of_getElem? (i := 701) (by decide +kernel), List.mem_of_getElem? (i := 702) (by decide +kernel)⟩
theorem k4_93 : Cond.methodLink RX4 93 yX4_oneOn ∈ wsL_law0 := List.mem_of_getElem? (i := 636) (by decide +kernel)
theorem dX4_leastAlike_0 : decode cX4_leastAlike 0 = .ok (.iload_n 1, 1) := by decide +kernel
theorem dX4_leastAlike_1 : decode cX4_leastAlike 1 = .ok (.istore_n 2, 1) := by decide +kernel
theorem dX4_leastAlike_2 : decode cX4_leastAlike 2 = .ok (.iconst 0, 1) := by decide +kernel
theorem dX4_leastAlike_3 : decode cX4_leastAlike 3 = .ok (.istore_n 3, 1) := by decide +kernel
theorem dX4_leastAlike_4 : decode cX4_leastAlike 4 = .ok (.iload_n 3, 1) := by decide +kernel
theorem dX4_leastAlike_5 : decode cX4_leastAlike 5 = .ok (.aload_n 0, 1) := by decide +kernel
theorem dX4_leastAlike_6 : decode cX4_leastAlike 6 = .ok (.getfield 38, 3) := by decide +kernel
theorem dX4_leastAlike_9 : decode cX4_leastAlike 9 = .ok (.if_icmp .ge 84, 3) := by decide +kernel
theorem dX4_leastAlike_12 : decode cX4_leastAlike 12 = .ok (.iload_n 3, 1) := by decide +kernel
theorem dX4_leastAlike_13 : decode cX4_leastAlike 13 = .ok (.iconst 1, 1) := by decide +kernel
theorem dX4_leastAlike_14 : decode cX4_leastAlike 14 = .ok (.iadd, 1) := by decide +kernel
theorem dX4_leastAlike_15 : decode cX4_leastAlike 15 = .ok (.istore 4, 2) := by decide +kernel
theorem dX4_leastAlike_17 : decode cX4_leastAlike 17 = .ok (.iload 4, 2) := by decide +kernel
theorem dX4_leastAlike_19 : decode cX4_leastAlike 19 = .ok (.aload_n 0, 1) := by decide +kernel
theorem dX4_leastAlike_20 : decode cX4_leastAlike 20 = .ok (.getfield 38, 3) := by decide +kernel
theorem dX4_leastAlike_23 : decode cX4_leastAlike 23 = .ok (.if_icmp .ge 64, 3) := by decide +kernel
theorem dX4_leastAlike_26 : decode cX4_leastAlike 26 = .ok (.aload_n 0, 1) := by decide +kernel
theorem dX4_leastAlike_27 : decode cX4_leastAlike 27 = .ok (.iload_n 2, 1) := by decide +kernel
theorem dX4_leastAlike_28 : decode cX4_leastAlike 28 = .ok (.iload_n 3, 1) := by decide +kernel
theorem dX4_leastAlike_29 : decode cX4_leastAlike 29 = .ok (.invokevirtual 77, 3) := by decide +kernel
theorem dX4_leastAlike_32 : decode cX4_leastAlike 32 = .ok (.aload_n 0, 1) := by decide +kernel
theorem dX4_leastAlike_33 : decode cX4_leastAlike 33 = .ok (.iload_n 2, 1) := by decide +kernel
theorem dX4_leastAlike_34 : decode cX4_leastAlike 34 = .ok (.iload 4, 2) := by decide +kernel
theorem dX4_leastAlike_36 : decode cX4_leastAlike 36 = .ok (.invokevirtual 77, 3) := by decide +kernel
theorem dX4_leastAlike_39 : decode cX4_leastAlike 39 = .ok (.isub, 1) := by decide +kernel
theorem dX4_leastAlike_40 : decode cX4_leastAlike 40 = .ok (.istore 5, 2) := by decide +kernel
theorem dX4_leastAlike_42 : decode cX4_leastAlike 42 = .ok (.aload_n 0, 1) := by decide +kernel
theorem dX4_leastAlike_43 : decode cX4_leastAlike 43 = .ok (.getfield 9, 3) := by decide +kernel
theorem dX4_leastAlike_46 : decode cX4_leastAlike 46 = .ok (.iload_n 3, 1) := by decide +kernel
theorem dX4_leastAlike_47 : decode cX4_leastAlike 47 = .ok (.iaload, 1) := by decide +kernel
theorem dX4_leastAlike_48 : decode cX4_leastAlike 48 = .ok (.aload_n 0, 1) := by decide +kernel
theorem dX4_leastAlike_49 : decode cX4_leastAlike 49 = .ok (.getfield 9, 3) := by decide +kernel
theorem dX4_leastAlike_52 : decode cX4_leastAlike 52 = .ok (.iload 4, 2) := by decide +kernel
theorem dX4_leastAlike_54 : decode cX4_leastAlike 54 = .ok (.iaload, 1) := by decide +kernel
theorem dX4_leastAlike_55 : decode cX4_leastAlike 55 = .ok (.if_icmp .ne 26, 3) := by decide +kernel
theorem dX4_leastAlike_58 : decode cX4_leastAlike 58 = .ok (.iload 5, 2) := by decide +kernel
theorem dX4_leastAlike_60 : decode cX4_leastAlike 60 = .ok (.ifCond .le 21, 3) := by decide +kernel
theorem dX4_leastAlike_63 : decode cX4_leastAlike 63 = .ok (.iload_n 2, 1) := by decide +kernel
theorem dX4_leastAlike_64 : decode cX4_leastAlike 64 = .ok (.iload 5, 2) := by decide +kernel
theorem dX4_leastAlike_66 : decode cX4_leastAlike 66 = .ok (.aload_n 0, 1) := by decide +kernel
theorem dX4_leastAlike_67 : decode cX4_leastAlike 67 = .ok (.iload 4, 2) := by decide +kernel
theorem dX4_leastAlike_69 : decode cX4_leastAlike 69 = .ok (.invokevirtual 93, 3) := by decide +kernel
theorem dX4_leastAlike_72 : decode cX4_leastAlike 72 = .ok (.aload_n 0, 1) := by decide +kernel
theorem dX4_leastAlike_73 : decode cX4_leastAlike 73 = .ok (.iload_n 3, 1) := by decide +kernel
theorem dX4_leastAlike_74 : decode cX4_leastAlike 74 = .ok (.invokevirtual 93, 3) := by decide +kernel
theorem dX4_leastAlike_77 : decode cX4_leastAlike 77 = .ok (.isub, 1) := by decide +kernel
theorem dX4_leastAlike_78 : decode cX4_leastAlike 78 = .ok (.imul, 1) := by decide +kernel
theorem dX4_leastAlike_79 : decode cX4_leastAlike 79 = .ok (.iadd, 1) := by decide +kernel
theorem dX4_leastAlike_80 : decode cX4_leastAlike 80 = .ok (.istore_n 2, 1) := by decide +kernel
theorem dX4_leastAlike_81 : decode cX4_leastAlike 81 = .ok (.iinc 4 1, 3) := by decide +kernel
theorem dX4_leastAlike_84 : decode cX4_leastAlike 84 = .ok (.goto (-67), 3) := by decide +kernel
theorem dX4_leastAlike_87 : decode cX4_leastAlike 87 = .ok (.iinc 3 1, 3) := by decide +kernel
theorem dX4_leastAlike_90 : decode cX4_leastAlike 90 = .ok (.goto (-86), 3) := by decide +kernel
theorem dX4_leastAlike_93 : decode cX4_leastAlike 93 = .ok (.iload_n 2, 1) := by decide +kernel
theorem dX4_leastAlike_94 : decode cX4_leastAlike 94 = .ok (.ireturn, 1) := by decide +kernel
abbrev j4_leastAlike : xJ := (cX4_leastAlike, 6, RX4, 2, 0, 0)
def F4_leastAlike_b87 (z : Nat) (x2 : Int32) (x3 : Int32) (c_fields : Int32) (c_worth : (Nat → Int32)) (k4 : Int32 → Int32 → Int32 → (Nat → Int32) → Option (Int32)) : Option (Int32) :=
  k4 x2 (x3 + (1 : Int32)) c_fields c_worth
theorem T4_leastAlike_b87 {X : xX} {c_ties : Int32} {c_forces : (Nat → Int32)} {c_many : (Nat → Int32)} {c_codes : (Nat → Nat → Int32)} {c_b_list : (Nat → Nat → Int32)} {c_b_many : (Nat → Int32)} {c_p_list : (Nat → Nat → Int32)} {c_p_weights : (Nat → Nat → Int32)} {c_p_drawn : (Nat → Nat → Int32)} {c_p_many : (Nat → Int32)} {c_p_all : (Nat → Int32)} {c_p_turns : (Nat → Int32)} {x2 : Int32} {x3 : Int32} {c_fields : Int32} {c_worth : (Nat → Int32)} {z : Nat} {v : Int32} {k4 : Int32 → Int32 → Int32 → (Nat → Int32) → Option (Int32)} (hX : xIs (j4_leastAlike) X ((some .int)) (some (.int v)) (hS c_fields c_ties c_worth c_forces c_many c_codes c_b_list c_b_many c_p_list c_p_weights c_p_drawn c_p_many c_p_all c_p_turns)) (hk4 : ∀ {x2 : Int32} {x3 : Int32}, k4 x2 x3 c_fields c_worth = some v → xV (j4_leastAlike) X 0 0 (hS c_fields c_ties c_worth c_forces c_many c_codes c_b_list c_b_many c_p_list c_p_weights c_p_drawn c_p_many c_p_all c_p_turns) 4 [(0, .ref 0), (2, .int x2), (3, .int x3)] []) (hf : F4_leastAlike_b87 z x2 x3 c_fields c_worth k4 = some v) : xV (j4_leastAlike) X 0 0 (hS c_fields c_ties c_worth c_forces c_many c_codes c_b_list c_b_many c_p_list c_p_weights c_p_drawn c_p_many c_p_all c_p_turns) 87 [(0, .ref 0), (2, .int x2), (3, .int x3)] [] := by
  unfold F4_leastAlike_b87 at hf
  refine xV_iinc (L' := [(3, .int (x3 + (1 : Int32))), (0, .ref 0), (2, .int x2)]) 90 rfl dX4_leastAlike_87 2 rfl (xk_inc xy_i1) (xlt rfl) rfl ?_
  refine xV_goto (tgt := 4) dX4_leastAlike_90 (by decide) ?_
  refine xV_sub [1, 2, 0] rfl ?_
  exact hk4 hf
def F4_leastAlike_b81 (z : Nat) (x2 : Int32) (x3 : Int32) (x4 : Int32) (c_fields : Int32) (c_worth : (Nat → Int32)) (k4 : Int32 → Int32 → Int32 → (Nat → Int32) → Option (Int32)) (k17 : Int32 → Int32 → Int32 → Int32 → (Nat → Int32) → Option (Int32)) : Option (Int32) :=
  k17 x2 x3 (x4 + (1 : Int32)) c_fields c_worth
theorem T4_leastAlike_b81 {X : xX} {c_ties : Int32} {c_forces : (Nat → Int32)} {c_many : (Nat → Int32)} {c_codes : (Nat → Nat → Int32)} {c_b_list : (Nat → Nat → Int32)} {c_b_many : (Nat → Int32)} {c_p_list : (Nat → Nat → Int32)} {c_p_weights : (Nat → Nat → Int32)} {c_p_drawn : (Nat → Nat → Int32)} {c_p_many : (Nat → Int32)} {c_p_all : (Nat → Int32)} {c_p_turns : (Nat → Int32)} {x2 : Int32} {x3 : Int32} {x4 : Int32} {c_fields : Int32} {c_worth : (Nat → Int32)} {z : Nat} {v : Int32} {k4 : Int32 → Int32 → Int32 → (Nat → Int32) → Option (Int32)} {k17 : Int32 → Int32 → Int32 → Int32 → (Nat → Int32) → Option (Int32)} (hX : xIs (j4_leastAlike) X ((some .int)) (some (.int v)) (hS c_fields c_ties c_worth c_forces c_many c_codes c_b_list c_b_many c_p_list c_p_weights c_p_drawn c_p_many c_p_all c_p_turns)) (hk4 : ∀ {x2 : Int32} {x3 : Int32}, k4 x2 x3 c_fields c_worth = some v → xV (j4_leastAlike) X 0 0 (hS c_fields c_ties c_worth c_forces c_many c_codes c_b_list c_b_many c_p_list c_p_weights c_p_drawn c_p_many c_p_all c_p_turns) 4 [(0, .ref 0), (2, .int x2), (3, .int x3)] []) (hk17 : ∀ {x2 : Int32} {x3 : Int32} {x4 : Int32}, k17 x2 x3 x4 c_fields c_worth = some v → xV (j4_leastAlike) X 0 0 (hS c_fields c_ties c_worth c_forces c_many c_codes c_b_list c_b_many c_p_list c_p_weights c_p_drawn c_p_many c_p_all c_p_turns) 17 [(0, .ref 0), (2, .int x2), (3, .int x3), (4, .int x4)] []) (hf : F4_leastAlike_b81 z x2 x3 x4 c_fields c_worth k4 k17 = some v) : xV (j4_leastAlike) X 0 0 (hS c_fields c_ties c_worth c_forces c_many c_codes c_b_list c_b_many c_p_list c_p_weights c_p_drawn c_p_many c_p_all c_p_turns) 81 [(0, .ref 0), (2, .int x2), (3, .int x3), (4, .int x4)] [] := by
  unfold F4_leastAlike_b81 at hf
  refine xV_iinc (L' := [(4, .int (x4 + (1 : Int32))), (0, .ref 0), (2, .int x2), (3, .int x3)]) 84 rfl dX4_leastAlike_81 3 rfl (xk_inc xy_i1) (xlt rfl) rfl ?_
  refine xV_goto (tgt := 17) dX4_leastAlike_84 (by decide) ?_
  refine xV_sub [1, 2, 3, 0] rfl ?_
  exact hk17 hf
def F4_leastAlike_b17 (z : Nat) (w : Nat) (x2 : Int32) (x3 : Int32) (x4 : Int32) (c_fields : Int32) (c_worth : (Nat → Int32)) (k4 : Int32 → Int32 → Int32 → (Nat → Int32) → Option (Int32)) : Option (Int32) := match w with
  | 0 => none
  | w + 1 => if c_fields ≤ x4 then (F4_leastAlike_b87 z x2 x3 c_fields c_worth k4) else ((F4_digit x2 x3 c_fields).bind (fun v29 => (F4_digit x2 x4 c_fields).bind (fun v36 => xg (xin x3 4) (xg (xin x4 4) (if (c_worth (xn x3)) = (c_worth (xn x4)) then (if (v29 - v36) ≤ 0 then (F4_leastAlike_b81 z x2 x3 x4 c_fields c_worth k4 (fun q0 q1 q2 q3 q4 => F4_leastAlike_b17 z w q0 q1 q2 q3 q4 k4)) else ((F4_oneOn x4 c_fields).bind (fun v69 => (F4_oneOn x3 c_fields).bind (fun v74 => F4_leastAlike_b81 z (x2 + ((v29 - v36) * (v69 - v74))) x3 x4 c_fields c_worth k4 (fun q0 q1 q2 q3 q4 => F4_leastAlike_b17 z w q0 q1 q2 q3 q4 k4))))) else (F4_leastAlike_b81 z x2 x3 x4 c_fields c_worth k4 (fun q0 q1 q2 q3 q4 => F4_leastAlike_b17 z w q0 q1 q2 q3 q4 k4)))))))
theorem T4_leastAlike_b17 {X : xX} {c_fields : Int32} {c_ties : Int32} {c_worth : (Nat → Int32)} {c_forces : (Nat → Int32)} {c_many : (Nat → Int32)} {c_codes : (Nat → Nat → Int32)} {c_b_list : (Nat → Nat → Int32)} {c_b_many : (Nat → Int32)} {c_p_list : (Nat → Nat → Int32)} {c_p_weights : (Nat → Nat → Int32)} {c_p_drawn : (Nat → Nat → Int32)} {c_p_many : (Nat → Int32)} {c_p_all : (Nat → Int32)} {c_p_turns : (Nat → Int32)} {z : Nat} {v : Int32} {k4 : Int32 → Int32 → Int32 → (Nat → Int32) → Option (Int32)} (hX : xIs (j4_leastAlike) X ((some .int)) (some (.int v)) (hS c_fields c_ties c_worth c_forces c_many c_codes c_b_list c_b_many c_p_list c_p_weights c_p_drawn c_p_many c_p_all c_p_turns)) (hk4 : ∀ {x2 : Int32} {x3 : Int32}, k4 x2 x3 c_fields c_worth = some v → xV (j4_leastAlike) X 0 0 (hS c_fields c_ties c_worth c_forces c_many c_codes c_b_list c_b_many c_p_list c_p_weights c_p_drawn c_p_many c_p_all c_p_turns) 4 [(0, .ref 0), (2, .int x2), (3, .int x3)] []) : ∀ (w : Nat) {x2 : Int32} {x3 : Int32} {x4 : Int32}, F4_leastAlike_b17 z w x2 x3 x4 c_fields c_worth k4 = some v → xV (j4_leastAlike) X 0 0 (hS c_fields c_ties c_worth c_forces c_many c_codes c_b_list c_b_many c_p_list c_p_weights c_p_drawn c_p_many c_p_all c_p_turns) 17 [(0, .ref 0), (2, .int x2), (3, .int x3), (4, .int x4)] [] := by
  intro w
  induction w with
  | zero => intro x2 x3 x4 hf; cases hf
  | succ w ih =>
    intro x2 x3 x4 hf
    unfold F4_leastAlike_b17 at hf
    refine xV_iload 19 rfl dX4_leastAlike_17 3 rfl ?_
    refine xV_aload_n 20 rfl dX4_leastAlike_19 rfl 0 rfl ?_
    refine xV_get (v := .int c_fields) 23 rfl dX4_leastAlike_20 f4_38 rfl rfl ?_
    refine xV_icmp_ge (tgt := 87) 26 rfl dX4_leastAlike_23 (by decide) (fun h23 => ?_) (fun h23 => ?_)
    · have hf := xif_t hf h23
      refine xV_sub [0, 1, 2] rfl ?_
      exact T4_leastAlike_b87 hX hk4 hf
    · have hf := xif_f hf h23
      refine xV_aload_n 27 rfl dX4_leastAlike_26 rfl 0 rfl ?_
      refine xV_iload_n 28 rfl dX4_leastAlike_27 rfl 1 rfl ?_
      refine xV_iload_n 29 rfl dX4_leastAlike_28 rfl 2 rfl ?_
      obtain ⟨v29, hv29, hf⟩ := xb_s hf
      refine xV_same (rest := []) 32 rfl dX4_leastAlike_29 rfl (C4_digit X.1.2.1 hv29) m4_digit v4_digit k4_77 rfl rfl rfl rfl rfl (Nat.le_of_ble_eq_true rfl) (Nat.le_of_ble_eq_true rfl) (Nat.le_of_ble_eq_true rfl) ⟨Nat.le_refl _, Nat.le_refl _⟩ ?_
      show xV (j4_leastAlike) X 0 0 (hS c_fields c_ties c_worth c_forces c_many c_codes c_b_list c_b_many c_p_list c_p_weights c_p_drawn c_p_many c_p_all c_p_turns) 32 [(0, .ref 0), (2, .int x2), (3, .int x3), (4, .int x4)] [.int v29]
      refine xV_aload_n 33 rfl dX4_leastAlike_32 rfl 0 rfl ?_
      refine xV_iload_n 34 rfl dX4_leastAlike_33 rfl 1 rfl ?_
      refine xV_iload 36 rfl dX4_leastAlike_34 3 rfl ?_
      obtain ⟨v36, hv36, hf⟩ := xb_s hf
      refine xV_same (rest := [.int v29]) 39 rfl dX4_leastAlike_36 rfl (C4_digit X.1.2.1 hv36) m4_digit v4_digit k4_77 rfl rfl rfl rfl rfl (Nat.le_of_ble_eq_true rfl) (Nat.le_of_ble_eq_true rfl) (Nat.le_of_ble_eq_true rfl) ⟨Nat.le_refl _, Nat.le_refl _⟩ ?_
      show xV (j4_leastAlike) X 0 0 (hS c_fields c_ties c_worth c_forces c_many c_codes c_b_list c_b_many c_p_list c_p_weights c_p_drawn c_p_many c_p_all c_p_turns) 39 [(0, .ref 0), (2, .int x2), (3, .int x3), (4, .int x4)] [.int v36, .int v29]
      refine xV_isub 40 rfl dX4_leastAlike_39 ?_
      refine xV_istore (L' := [(5, .int (v29 - v36)), (0, .ref 0), (2, .int x2), (3, .int x3), (4, .int x4)]) 42 rfl dX4_leastAlike_40 (xlt rfl) rfl ?_
      refine xV_aload_n 43 rfl dX4_leastAlike_42 rfl 1 rfl ?_
      refine xV_get (v := .ref 1) 46 rfl dX4_leastAlike_43 f4_9 rfl rfl ?_
      refine xV_iload_n 47 rfl dX4_leastAlike_46 rfl 3 rfl ?_
      obtain ⟨hg47, hf⟩ := xg_s hf
      refine xV_iaload 48 rfl dX4_leastAlike_47 rfl (xin_ok hg47) rfl ?_
      refine xV_aload_n 49 rfl dX4_leastAlike_48 rfl 1 rfl ?_
      refine xV_get (v := .ref 1) 52 rfl dX4_leastAlike_49 f4_9 rfl rfl ?_
      refine xV_iload 54 rfl dX4_leastAlike_52 4 rfl ?_
      obtain ⟨hg54, hf⟩ := xg_s hf
      refine xV_iaload 55 rfl dX4_leastAlike_54 rfl (xin_ok hg54) rfl ?_
      refine xV_icmp_ne (tgt := 81) 58 rfl dX4_leastAlike_55 (by decide) (fun h55 => ?_) (fun h55 => ?_)
      · have hf := xif_f hf h55
        refine xV_sub [1, 2, 3, 4] rfl ?_
        exact T4_leastAlike_b81 hX hk4 (fun {_ _ _} hq => ih hq) hf
      · have hf := xif_t hf h55
        refine xV_iload 60 rfl dX4_leastAlike_58 0 rfl ?_
        refine xV_if_le (tgt := 81) 63 rfl dX4_leastAlike_60 (by decide) (fun h60 => ?_) (fun h60 => ?_)
        · have hf := xif_t hf h60
          refine xV_sub [1, 2, 3, 4] rfl ?_
          exact T4_leastAlike_b81 hX hk4 (fun {_ _ _} hq => ih hq) hf
        · have hf := xif_f hf h60
          refine xV_iload_n 64 rfl dX4_leastAlike_63 rfl 2 rfl ?_
          refine xV_iload 66 rfl dX4_leastAlike_64 0 rfl ?_
          refine xV_aload_n 67 rfl dX4_leastAlike_66 rfl 1 rfl ?_
          refine xV_iload 69 rfl dX4_leastAlike_67 4 rfl ?_
          obtain ⟨v69, hv69, hf⟩ := xb_s hf
          refine xV_same (rest := [.int (v29 - v36), .int x2]) 72 rfl dX4_leastAlike_69 rfl (C4_oneOn X.1.2.1 hv69) m4_oneOn v4_oneOn k4_93 rfl rfl rfl rfl rfl (Nat.le_of_ble_eq_true rfl) (Nat.le_of_ble_eq_true rfl) (Nat.le_of_ble_eq_true rfl) ⟨Nat.le_refl _, Nat.le_refl _⟩ ?_
          show xV (j4_leastAlike) X 0 0 (hS c_fields c_ties c_worth c_forces c_many c_codes c_b_list c_b_many c_p_list c_p_weights c_p_drawn c_p_many c_p_all c_p_turns) 72 [(5, .int (v29 - v36)), (0, .ref 0), (2, .int x2), (3, .int x3), (4, .int x4)] [.int v69, .int (v29 - v36), .int x2]
          refine xV_aload_n 73 rfl dX4_leastAlike_72 rfl 1 rfl ?_
          refine xV_iload_n 74 rfl dX4_leastAlike_73 rfl 3 rfl ?_
          obtain ⟨v74, hv74, hf⟩ := xb_s hf
          refine xV_same (rest := [.int v69, .int (v29 - v36), .int x2]) 77 rfl dX4_leastAlike_74 rfl (C4_oneOn X.1.2.1 hv74) m4_oneOn v4_oneOn k4_93 rfl rfl rfl rfl rfl (Nat.le_of_ble_eq_true rfl) (Nat.le_of_ble_eq_true rfl) (Nat.le_of_ble_eq_true rfl) ⟨Nat.le_refl _, Nat.le_refl _⟩ ?_
          show xV (j4_leastAlike) X 0 0 (hS c_fields c_ties c_worth c_forces c_many c_codes c_b_list c_b_many c_p_list c_p_weights c_p_drawn c_p_many c_p_all c_p_turns) 77 [(5, .int (v29 - v36)), (0, .ref 0), (2, .int x2), (3, .int x3), (4, .int x4)] [.int v74, .int v69, .int (v29 - v36), .int x2]
          refine xV_isub 78 rfl dX4_leastAlike_77 ?_
          refine xV_imul 79 rfl dX4_leastAlike_78 ?_
          refine xV_iadd 80 rfl dX4_leastAlike_79 ?_
          refine xV_istore_n (L' := [(2, .int (x2 + ((v29 - v36) * (v69 - v74)))), (5, .int (v29 - v36)), (0, .ref 0), (3, .int x3), (4, .int x4)]) 81 rfl dX4_leastAlike_80 rfl (xlt rfl) rfl ?_
          refine xV_sub [2, 0, 3, 4] rfl ?_
          exact T4_leastAlike_b81 hX hk4 (fun {_ _ _} hq => ih hq) hf
def F4_leastAlike_b4 (z : Nat) (w : Nat) (x2 : Int32) (x3 : Int32) (c_fields : Int32) (c_worth : (Nat → Int32)) : Option (Int32) := match w with
  | 0 => none
  | w + 1 => if c_fields ≤ x3 then (some (x2)) else (F4_leastAlike_b17 z z x2 x3 (x3 + (1 : Int32)) c_fields c_worth (fun q0 q1 q2 q3 => F4_leastAlike_b4 z w q0 q1 q2 q3))
theorem T4_leastAlike_b4 {X : xX} {c_fields : Int32} {c_ties : Int32} {c_worth : (Nat → Int32)} {c_forces : (Nat → Int32)} {c_many : (Nat → Int32)} {c_codes : (Nat → Nat → Int32)} {c_b_list : (Nat → Nat → Int32)} {c_b_many : (Nat → Int32)} {c_p_list : (Nat → Nat → Int32)} {c_p_weights : (Nat → Nat → Int32)} {c_p_drawn : (Nat → Nat → Int32)} {c_p_many : (Nat → Int32)} {c_p_all : (Nat → Int32)} {c_p_turns : (Nat → Int32)} {z : Nat} {v : Int32} (hX : xIs (j4_leastAlike) X ((some .int)) (some (.int v)) (hS c_fields c_ties c_worth c_forces c_many c_codes c_b_list c_b_many c_p_list c_p_weights c_p_drawn c_p_many c_p_all c_p_turns)) : ∀ (w : Nat) {x2 : Int32} {x3 : Int32}, F4_leastAlike_b4 z w x2 x3 c_fields c_worth = some v → xV (j4_leastAlike) X 0 0 (hS c_fields c_ties c_worth c_forces c_many c_codes c_b_list c_b_many c_p_list c_p_weights c_p_drawn c_p_many c_p_all c_p_turns) 4 [(0, .ref 0), (2, .int x2), (3, .int x3)] [] := by
  intro w
  induction w with
  | zero => intro x2 x3 hf; cases hf
  | succ w ih =>
    intro x2 x3 hf
    unfold F4_leastAlike_b4 at hf
    refine xV_iload_n 5 rfl dX4_leastAlike_4 rfl 2 rfl ?_
    refine xV_aload_n 6 rfl dX4_leastAlike_5 rfl 0 rfl ?_
    refine xV_get (v := .int c_fields) 9 rfl dX4_leastAlike_6 f4_38 rfl rfl ?_
    refine xV_icmp_ge (tgt := 93) 12 rfl dX4_leastAlike_9 (by decide) (fun h9 => ?_) (fun h9 => ?_)
    · have hf := xif_t hf h9
      refine xV_iload_n 94 rfl dX4_leastAlike_93 rfl 1 rfl ?_
      obtain rfl := Option.some.inj hf
      exact xV_iret hX dX4_leastAlike_94 rfl (Nat.zero_le _) (Nat.zero_le _)
    · have hf := xif_f hf h9
      refine xV_iload_n 13 rfl dX4_leastAlike_12 rfl 2 rfl ?_
      refine xV_iconst 14 rfl dX4_leastAlike_13 xy_i1 ?_
      refine xV_iadd 15 rfl dX4_leastAlike_14 ?_
      refine xV_istore (L' := [(4, .int (x3 + (1 : Int32))), (0, .ref 0), (2, .int x2), (3, .int x3)]) 17 rfl dX4_leastAlike_15 (xlt rfl) rfl ?_
      refine xV_sub [1, 2, 3, 0] rfl ?_
      exact T4_leastAlike_b17 hX (fun {_ _} hq => ih hq) _ hf
def F4_leastAlike (z : Nat) (x1 : Int32) (c_fields : Int32) (c_worth : (Nat → Int32)) : Option (Int32) :=
  F4_leastAlike_b4 z z x1 (0 : Int32) c_fields c_worth
theorem T4_leastAlike {X : xX} {z : Nat} {x1 : Int32} {c_fields : Int32} {c_worth : (Nat → Int32)} {c_ties : Int32} {c_forces : (Nat → Int32)} {c_many : (Nat → Int32)} {c_codes : (Nat → Nat → Int32)} {c_b_list : (Nat → Nat → Int32)} {c_b_many : (Nat → Int32)} {c_p_list : (Nat → Nat → Int32)} {c_p_weights : (Nat → Nat → Int32)} {c_p_drawn : (Nat → Nat → Int32)} {c_p_many : (Nat → Int32)} {c_p_all : (Nat → Int32)} {c_p_turns : (Nat → Int32)} {v : Int32} (hX : xIs (j4_leastAlike) X ((some .int)) (some (.int v)) (hS c_fields c_ties c_worth c_forces c_many c_codes c_b_list c_b_many c_p_list c_p_weights c_p_drawn c_p_many c_p_all c_p_turns)) (hf : F4_leastAlike z x1 c_fields c_worth = some v) : xV (j4_leastAlike) X 0 0 (hS c_fields c_ties c_worth c_forces c_many c_codes c_b_list c_b_many c_p_list c_p_weights c_p_drawn c_p_many c_p_all c_p_turns) 0 [(0, .ref 0), (1, .int x1)] [] := by
  unfold F4_leastAlike at hf
  refine xV_iload_n 1 rfl dX4_leastAlike_0 rfl 1 rfl ?_
  refine xV_istore_n (L' := [(2, .int x1), (0, .ref 0), (1, .int x1)]) 2 rfl dX4_leastAlike_1 rfl (xlt rfl) rfl ?_
  refine xV_iconst 3 rfl dX4_leastAlike_2 xy_i0 ?_
  refine xV_istore_n (L' := [(3, .int (0 : Int32)), (2, .int x1), (0, .ref 0), (1, .int x1)]) 4 rfl dX4_leastAlike_3 rfl (xlt rfl) rfl ?_
  refine xV_sub [2, 1, 0] rfl ?_
  exact T4_leastAlike_b4 hX _ hf
theorem C4_leastAlike (l : Launch) {z : Nat} {x1 : Int32} {c_fields : Int32} {c_worth : (Nat → Int32)} {c_ties : Int32} {c_forces : (Nat → Int32)} {c_many : (Nat → Int32)} {c_codes : (Nat → Nat → Int32)} {c_b_list : (Nat → Nat → Int32)} {c_b_many : (Nat → Int32)} {c_p_list : (Nat → Nat → Int32)} {c_p_weights : (Nat → Nat → Int32)} {c_p_drawn : (Nat → Nat → Int32)} {c_p_many : (Nat → Int32)} {c_p_all : (Nat → Int32)} {c_p_turns : (Nat → Int32)} {v : Int32} (hf : F4_leastAlike z x1 c_fields c_worth = some v) : xCt l yX4_leastAlike ((some .int)) j4_leastAlike [.ref 0, .int x1] (hS c_fields c_ties c_worth c_forces c_many c_codes c_b_list c_b_many c_p_list c_p_weights c_p_drawn c_p_many c_p_all c_p_turns) (some (.int v)) (hS c_fields c_ties c_worth c_forces c_many c_codes c_b_list c_b_many c_p_list c_p_weights c_p_drawn c_p_many c_p_all c_p_turns) := xCt_of (by decide) rfl (Nat.le_of_ble_eq_true rfl) (fun _ hX => T4_leastAlike hX hf)
theorem m4_leastAlike : xMd yX4_leastAlike RX4 ((some .int)) j4_leastAlike 1 := ⟨List.mem_of_getElem? (i := 635) (by decide +kernel), List.mem_of_getElem? (i := 15) (by decide +kernel), rfl, by decide +kernel⟩
theorem v4_leastAlike : xMv yX4_leastAlike RX4 := ⟨List.mem_of_getElem? (i := 633) (by decide +kernel), List.mem_of_getElem? (i := 634) (by decide +kernel)⟩
theorem k4_96 : Cond.methodLink RX4 96 yX4_leastAlike ∈ wsL_law0 := List.mem_of_getElem? (i := 632) (by decide +kernel)
theorem k4_99 : Cond.methodLink RX4 99 yX4_numberOf ∈ wsL_law0 := List.mem_of_getElem? (i := 672) (by decide +kernel)
theorem dX4_shapeFirst_0 : decode cX4_shapeFirst 0 = .ok (.aload_n 0, 1) := by decide +kernel
theorem dX4_shapeFirst_1 : decode cX4_shapeFirst 1 = .ok (.iload_n 1, 1) := by decide +kernel
theorem dX4_shapeFirst_2 : decode cX4_shapeFirst 2 = .ok (.aload_n 0, 1) := by decide +kernel
theorem dX4_shapeFirst_3 : decode cX4_shapeFirst 3 = .ok (.aload_n 0, 1) := by decide +kernel
theorem dX4_shapeFirst_4 : decode cX4_shapeFirst 4 = .ok (.getfield 23, 3) := by decide +kernel
theorem dX4_shapeFirst_7 : decode cX4_shapeFirst 7 = .ok (.iload_n 1, 1) := by decide +kernel
theorem dX4_shapeFirst_8 : decode cX4_shapeFirst 8 = .ok (.aaload, 1) := by decide +kernel
theorem dX4_shapeFirst_9 : decode cX4_shapeFirst 9 = .ok (.iload_n 2, 1) := by decide +kernel
theorem dX4_shapeFirst_10 : decode cX4_shapeFirst 10 = .ok (.iaload, 1) := by decide +kernel
theorem dX4_shapeFirst_11 : decode cX4_shapeFirst 11 = .ok (.invokevirtual 96, 3) := by decide +kernel
theorem dX4_shapeFirst_14 : decode cX4_shapeFirst 14 = .ok (.invokevirtual 99, 3) := by decide +kernel
theorem dX4_shapeFirst_17 : decode cX4_shapeFirst 17 = .ok (.ireturn, 1) := by decide +kernel
abbrev j4_shapeFirst : xJ := (cX4_shapeFirst, 3, RX4, 3, 0, 0)
def F4_shapeFirst (z : Nat) (x1 : Int32) (x2 : Int32) (c_fields : Int32) (c_worth : (Nat → Int32)) (c_many : (Nat → Int32)) (c_codes : (Nat → Nat → Int32)) : Option (Int32) :=
  xg (xin x1 2) (xg (xin x2 120) ((F4_leastAlike z ((c_codes (xn x1)) (xn x2)) c_fields c_worth).bind (fun v11 => (F4_numberOf z x1 v11 c_many c_codes).bind (fun v14 => some (v14)))))
theorem T4_shapeFirst {X : xX} {z : Nat} {x1 : Int32} {x2 : Int32} {c_fields : Int32} {c_worth : (Nat → Int32)} {c_many : (Nat → Int32)} {c_codes : (Nat → Nat → Int32)} {c_ties : Int32} {c_forces : (Nat → Int32)} {c_b_list : (Nat → Nat → Int32)} {c_b_many : (Nat → Int32)} {c_p_list : (Nat → Nat → Int32)} {c_p_weights : (Nat → Nat → Int32)} {c_p_drawn : (Nat → Nat → Int32)} {c_p_many : (Nat → Int32)} {c_p_all : (Nat → Int32)} {c_p_turns : (Nat → Int32)} {v : Int32} (hX : xIs (j4_shapeFirst) X ((some .int)) (some (.int v)) (hS c_fields c_ties c_worth c_forces c_many c_codes c_b_list c_b_many c_p_list c_p_weights c_p_drawn c_p_many c_p_all c_p_turns)) (hf : F4_shapeFirst z x1 x2 c_fields c_worth c_many c_codes = some v) : xV (j4_shapeFirst) X 0 0 (hS c_fields c_ties c_worth c_forces c_many c_codes c_b_list c_b_many c_p_list c_p_weights c_p_drawn c_p_many c_p_all c_p_turns) 0 [(0, .ref 0), (1, .int x1), (2, .int x2)] [] := by
  unfold F4_shapeFirst at hf
  refine xV_aload_n 1 rfl dX4_shapeFirst_0 rfl 0 rfl ?_
  refine xV_iload_n 2 rfl dX4_shapeFirst_1 rfl 1 rfl ?_
  refine xV_aload_n 3 rfl dX4_shapeFirst_2 rfl 0 rfl ?_
  refine xV_aload_n 4 rfl dX4_shapeFirst_3 rfl 0 rfl ?_
  refine xV_get (v := .ref 4) 7 rfl dX4_shapeFirst_4 f4_23 rfl rfl ?_
  refine xV_iload_n 8 rfl dX4_shapeFirst_7 rfl 1 rfl ?_
  obtain ⟨hg8, hf⟩ := xg_s hf
  refine xV_aaload (b := (5 + (xn x1))) 9 rfl dX4_shapeFirst_8 rfl rfl rfl (xin_ok hg8) (by show ([5, 6] : List Nat)[(xn x1)]? = some (5 + (xn x1)); have hi := xin_lt hg8; generalize (xn x1) = i at hi ⊢; match i, hi with | 0, _ => rfl | 1, _ => rfl) ?_
  refine xV_iload_n 10 rfl dX4_shapeFirst_9 rfl 2 rfl ?_
  obtain ⟨hg10, hf⟩ := xg_s hf
  refine xV_iaload (f := (c_codes (xn x1))) (z := 120) 11 rfl dX4_shapeFirst_10 (by have hi := (xin_lt hg8); generalize (xn x1) = i at hi ⊢; match i, hi with | 0, _ => exact rfl | 1, _ => exact rfl) (xin_ok hg10) rfl ?_
  obtain ⟨v11, hv11, hf⟩ := xb_s hf
  refine xV_same (rest := [.int x1, .ref 0]) 14 rfl dX4_shapeFirst_11 rfl (C4_leastAlike X.1.2.1 hv11) m4_leastAlike v4_leastAlike k4_96 rfl rfl rfl rfl rfl (Nat.le_of_ble_eq_true rfl) (Nat.le_of_ble_eq_true rfl) (Nat.le_of_ble_eq_true rfl) ⟨Nat.le_refl _, Nat.le_refl _⟩ ?_
  show xV (j4_shapeFirst) X 0 0 (hS c_fields c_ties c_worth c_forces c_many c_codes c_b_list c_b_many c_p_list c_p_weights c_p_drawn c_p_many c_p_all c_p_turns) 14 [(0, .ref 0), (1, .int x1), (2, .int x2)] [.int v11, .int x1, .ref 0]
  obtain ⟨v14, hv14, hf⟩ := xb_s hf
  refine xV_same (rest := []) 17 rfl dX4_shapeFirst_14 rfl (C4_numberOf X.1.2.1 hv14) m4_numberOf v4_numberOf k4_99 rfl rfl rfl rfl rfl (Nat.le_of_ble_eq_true rfl) (Nat.le_of_ble_eq_true rfl) (Nat.le_of_ble_eq_true rfl) ⟨Nat.le_refl _, Nat.le_refl _⟩ ?_
  show xV (j4_shapeFirst) X 0 0 (hS c_fields c_ties c_worth c_forces c_many c_codes c_b_list c_b_many c_p_list c_p_weights c_p_drawn c_p_many c_p_all c_p_turns) 17 [(0, .ref 0), (1, .int x1), (2, .int x2)] [.int v14]
  obtain rfl := Option.some.inj hf
  exact xV_iret hX dX4_shapeFirst_17 rfl (Nat.zero_le _) (Nat.zero_le _)
theorem C4_shapeFirst (l : Launch) {z : Nat} {x1 : Int32} {x2 : Int32} {c_fields : Int32} {c_worth : (Nat → Int32)} {c_many : (Nat → Int32)} {c_codes : (Nat → Nat → Int32)} {c_ties : Int32} {c_forces : (Nat → Int32)} {c_b_list : (Nat → Nat → Int32)} {c_b_many : (Nat → Int32)} {c_p_list : (Nat → Nat → Int32)} {c_p_weights : (Nat → Nat → Int32)} {c_p_drawn : (Nat → Nat → Int32)} {c_p_many : (Nat → Int32)} {c_p_all : (Nat → Int32)} {c_p_turns : (Nat → Int32)} {v : Int32} (hf : F4_shapeFirst z x1 x2 c_fields c_worth c_many c_codes = some v) : xCt l yX4_shapeFirst ((some .int)) j4_shapeFirst [.ref 0, .int x1, .int x2] (hS c_fields c_ties c_worth c_forces c_many c_codes c_b_list c_b_many c_p_list c_p_weights c_p_drawn c_p_many c_p_all c_p_turns) (some (.int v)) (hS c_fields c_ties c_worth c_forces c_many c_codes c_b_list c_b_many c_p_list c_p_weights c_p_drawn c_p_many c_p_all c_p_turns) := xCt_of (by decide) rfl (Nat.le_of_ble_eq_true rfl) (fun _ hX => T4_shapeFirst hX hf)
theorem m4_shapeFirst : xMd yX4_shapeFirst RX4 ((some .int)) j4_shapeFirst 2 := ⟨List.mem_of_getElem? (i := 671) (by decide +kernel), List.mem_of_getElem? (i := 15) (by decide +kernel), rfl, by decide +kernel⟩
theorem v4_shapeFirst : xMv yX4_shapeFirst RX4 := ⟨List.mem_of_getElem? (i := 669) (by decide +kernel), List.mem_of_getElem? (i := 670) (by decide +kernel)⟩
theorem dX4_shapeSize_0 : decode cX4_shapeSize 0 = .ok (.aload_n 0, 1) := by decide +kernel
theorem dX4_shapeSize_1 : decode cX4_shapeSize 1 = .ok (.aload_n 0, 1) := by decide +kernel
theorem dX4_shapeSize_2 : decode cX4_shapeSize 2 = .ok (.getfield 23, 3) := by decide +kernel
theorem dX4_shapeSize_5 : decode cX4_shapeSize 5 = .ok (.iload_n 1, 1) := by decide +kernel
theorem dX4_shapeSize_6 : decode cX4_shapeSize 6 = .ok (.aaload, 1) := by decide +kernel
theorem dX4_shapeSize_7 : decode cX4_shapeSize 7 = .ok (.iload_n 2, 1) := by decide +kernel
theorem dX4_shapeSize_8 : decode cX4_shapeSize 8 = .ok (.iaload, 1) := by decide +kernel
theorem dX4_shapeSize_9 : decode cX4_shapeSize 9 = .ok (.invokevirtual 96, 3) := by decide +kernel
theorem dX4_shapeSize_12 : decode cX4_shapeSize 12 = .ok (.istore_n 3, 1) := by decide +kernel
theorem dX4_shapeSize_13 : decode cX4_shapeSize 13 = .ok (.iconst 0, 1) := by decide +kernel
theorem dX4_shapeSize_14 : decode cX4_shapeSize 14 = .ok (.istore 4, 2) := by decide +kernel
theorem dX4_shapeSize_16 : decode cX4_shapeSize 16 = .ok (.iconst 0, 1) := by decide +kernel
theorem dX4_shapeSize_17 : decode cX4_shapeSize 17 = .ok (.istore 5, 2) := by decide +kernel
theorem dX4_shapeSize_19 : decode cX4_shapeSize 19 = .ok (.iload 5, 2) := by decide +kernel
theorem dX4_shapeSize_21 : decode cX4_shapeSize 21 = .ok (.aload_n 0, 1) := by decide +kernel
theorem dX4_shapeSize_22 : decode cX4_shapeSize 22 = .ok (.getfield 18, 3) := by decide +kernel
theorem dX4_shapeSize_25 : decode cX4_shapeSize 25 = .ok (.iload_n 1, 1) := by decide +kernel
theorem dX4_shapeSize_26 : decode cX4_shapeSize 26 = .ok (.iaload, 1) := by decide +kernel
theorem dX4_shapeSize_27 : decode cX4_shapeSize 27 = .ok (.if_icmp .ge 29, 3) := by decide +kernel
theorem dX4_shapeSize_30 : decode cX4_shapeSize 30 = .ok (.aload_n 0, 1) := by decide +kernel
theorem dX4_shapeSize_31 : decode cX4_shapeSize 31 = .ok (.aload_n 0, 1) := by decide +kernel
theorem dX4_shapeSize_32 : decode cX4_shapeSize 32 = .ok (.getfield 23, 3) := by decide +kernel
theorem dX4_shapeSize_35 : decode cX4_shapeSize 35 = .ok (.iload_n 1, 1) := by decide +kernel
theorem dX4_shapeSize_36 : decode cX4_shapeSize 36 = .ok (.aaload, 1) := by decide +kernel
theorem dX4_shapeSize_37 : decode cX4_shapeSize 37 = .ok (.iload 5, 2) := by decide +kernel
theorem dX4_shapeSize_39 : decode cX4_shapeSize 39 = .ok (.iaload, 1) := by decide +kernel
theorem dX4_shapeSize_40 : decode cX4_shapeSize 40 = .ok (.invokevirtual 96, 3) := by decide +kernel
theorem dX4_shapeSize_43 : decode cX4_shapeSize 43 = .ok (.iload_n 3, 1) := by decide +kernel
theorem dX4_shapeSize_44 : decode cX4_shapeSize 44 = .ok (.if_icmp .ne 6, 3) := by decide +kernel
theorem dX4_shapeSize_47 : decode cX4_shapeSize 47 = .ok (.iinc 4 1, 3) := by decide +kernel
theorem dX4_shapeSize_50 : decode cX4_shapeSize 50 = .ok (.iinc 5 1, 3) := by decide +kernel
theorem dX4_shapeSize_53 : decode cX4_shapeSize 53 = .ok (.goto (-34), 3) := by decide +kernel
theorem dX4_shapeSize_56 : decode cX4_shapeSize 56 = .ok (.iload 4, 2) := by decide +kernel
theorem dX4_shapeSize_58 : decode cX4_shapeSize 58 = .ok (.ireturn, 1) := by decide +kernel
abbrev j4_shapeSize : xJ := (cX4_shapeSize, 6, RX4, 3, 0, 0)
def F4_shapeSize_b50 (z : Nat) (x1 : Int32) (x3 : Int32) (x4 : Int32) (x5 : Int32) (c_fields : Int32) (c_worth : (Nat → Int32)) (c_many : (Nat → Int32)) (c_codes : (Nat → Nat → Int32)) (k19 : Int32 → Int32 → Int32 → Int32 → Int32 → (Nat → Int32) → (Nat → Int32) → (Nat → Nat → Int32) → Option (Int32)) : Option (Int32) :=
  k19 x1 x3 x4 (x5 + (1 : Int32)) c_fields c_worth c_many c_codes
theorem T4_shapeSize_b50 {X : xX} {c_ties : Int32} {c_forces : (Nat → Int32)} {c_b_list : (Nat → Nat → Int32)} {c_b_many : (Nat → Int32)} {c_p_list : (Nat → Nat → Int32)} {c_p_weights : (Nat → Nat → Int32)} {c_p_drawn : (Nat → Nat → Int32)} {c_p_many : (Nat → Int32)} {c_p_all : (Nat → Int32)} {c_p_turns : (Nat → Int32)} {x1 : Int32} {x3 : Int32} {x4 : Int32} {x5 : Int32} {c_fields : Int32} {c_worth : (Nat → Int32)} {c_many : (Nat → Int32)} {c_codes : (Nat → Nat → Int32)} {z : Nat} {v : Int32} {k19 : Int32 → Int32 → Int32 → Int32 → Int32 → (Nat → Int32) → (Nat → Int32) → (Nat → Nat → Int32) → Option (Int32)} (hX : xIs (j4_shapeSize) X ((some .int)) (some (.int v)) (hS c_fields c_ties c_worth c_forces c_many c_codes c_b_list c_b_many c_p_list c_p_weights c_p_drawn c_p_many c_p_all c_p_turns)) (hk19 : ∀ {x1 : Int32} {x3 : Int32} {x4 : Int32} {x5 : Int32}, k19 x1 x3 x4 x5 c_fields c_worth c_many c_codes = some v → xV (j4_shapeSize) X 0 0 (hS c_fields c_ties c_worth c_forces c_many c_codes c_b_list c_b_many c_p_list c_p_weights c_p_drawn c_p_many c_p_all c_p_turns) 19 [(0, .ref 0), (1, .int x1), (3, .int x3), (4, .int x4), (5, .int x5)] []) (hf : F4_shapeSize_b50 z x1 x3 x4 x5 c_fields c_worth c_many c_codes k19 = some v) : xV (j4_shapeSize) X 0 0 (hS c_fields c_ties c_worth c_forces c_many c_codes c_b_list c_b_many c_p_list c_p_weights c_p_drawn c_p_many c_p_all c_p_turns) 50 [(0, .ref 0), (1, .int x1), (3, .int x3), (4, .int x4), (5, .int x5)] [] := by
  unfold F4_shapeSize_b50 at hf
  refine xV_iinc (L' := [(5, .int (x5 + (1 : Int32))), (0, .ref 0), (1, .int x1), (3, .int x3), (4, .int x4)]) 53 rfl dX4_shapeSize_50 4 rfl (xk_inc xy_i1) (xlt rfl) rfl ?_
  refine xV_goto (tgt := 19) dX4_shapeSize_53 (by decide) ?_
  refine xV_sub [1, 2, 3, 4, 0] rfl ?_
  exact hk19 hf
def F4_shapeSize_b19 (z : Nat) (w : Nat) (x1 : Int32) (x3 : Int32) (x4 : Int32) (x5 : Int32) (c_fields : Int32) (c_worth : (Nat → Int32)) (c_many : (Nat → Int32)) (c_codes : (Nat → Nat → Int32)) : Option (Int32) := match w with
  | 0 => none
  | w + 1 => xg (xin x1 2) (if (c_many (xn x1)) ≤ x5 then (some (x4)) else (xg (xin x1 2) (xg (xin x5 120) ((F4_leastAlike z ((c_codes (xn x1)) (xn x5)) c_fields c_worth).bind (fun v40 => if v40 = x3 then (F4_shapeSize_b50 z x1 x3 (x4 + (1 : Int32)) x5 c_fields c_worth c_many c_codes (fun q0 q1 q2 q3 q4 q5 q6 q7 => F4_shapeSize_b19 z w q0 q1 q2 q3 q4 q5 q6 q7)) else (F4_shapeSize_b50 z x1 x3 x4 x5 c_fields c_worth c_many c_codes (fun q0 q1 q2 q3 q4 q5 q6 q7 => F4_shapeSize_b19 z w q0 q1 q2 q3 q4 q5 q6 q7)))))))
theorem T4_shapeSize_b19 {X : xX} {c_fields : Int32} {c_ties : Int32} {c_worth : (Nat → Int32)} {c_forces : (Nat → Int32)} {c_many : (Nat → Int32)} {c_codes : (Nat → Nat → Int32)} {c_b_list : (Nat → Nat → Int32)} {c_b_many : (Nat → Int32)} {c_p_list : (Nat → Nat → Int32)} {c_p_weights : (Nat → Nat → Int32)} {c_p_drawn : (Nat → Nat → Int32)} {c_p_many : (Nat → Int32)} {c_p_all : (Nat → Int32)} {c_p_turns : (Nat → Int32)} {z : Nat} {v : Int32} (hX : xIs (j4_shapeSize) X ((some .int)) (some (.int v)) (hS c_fields c_ties c_worth c_forces c_many c_codes c_b_list c_b_many c_p_list c_p_weights c_p_drawn c_p_many c_p_all c_p_turns)) : ∀ (w : Nat) {x1 : Int32} {x3 : Int32} {x4 : Int32} {x5 : Int32}, F4_shapeSize_b19 z w x1 x3 x4 x5 c_fields c_worth c_many c_codes = some v → xV (j4_shapeSize) X 0 0 (hS c_fields c_ties c_worth c_forces c_many c_codes c_b_list c_b_many c_p_list c_p_weights c_p_drawn c_p_many c_p_all c_p_turns) 19 [(0, .ref 0), (1, .int x1), (3, .int x3), (4, .int x4), (5, .int x5)] [] := by
  intro w
  induction w with
  | zero => intro x1 x3 x4 x5 hf; cases hf
  | succ w ih =>
    intro x1 x3 x4 x5 hf
    unfold F4_shapeSize_b19 at hf
    refine xV_iload 21 rfl dX4_shapeSize_19 4 rfl ?_
    refine xV_aload_n 22 rfl dX4_shapeSize_21 rfl 0 rfl ?_
    refine xV_get (v := .ref 3) 25 rfl dX4_shapeSize_22 f4_18 rfl rfl ?_
    refine xV_iload_n 26 rfl dX4_shapeSize_25 rfl 1 rfl ?_
    obtain ⟨hg26, hf⟩ := xg_s hf
    refine xV_iaload 27 rfl dX4_shapeSize_26 rfl (xin_ok hg26) rfl ?_
    refine xV_icmp_ge (tgt := 56) 30 rfl dX4_shapeSize_27 (by decide) (fun h27 => ?_) (fun h27 => ?_)
    · have hf := xif_t hf h27
      refine xV_iload 58 rfl dX4_shapeSize_56 3 rfl ?_
      obtain rfl := Option.some.inj hf
      exact xV_iret hX dX4_shapeSize_58 rfl (Nat.zero_le _) (Nat.zero_le _)
    · have hf := xif_f hf h27
      refine xV_aload_n 31 rfl dX4_shapeSize_30 rfl 0 rfl ?_
      refine xV_aload_n 32 rfl dX4_shapeSize_31 rfl 0 rfl ?_
      refine xV_get (v := .ref 4) 35 rfl dX4_shapeSize_32 f4_23 rfl rfl ?_
      refine xV_iload_n 36 rfl dX4_shapeSize_35 rfl 1 rfl ?_
      obtain ⟨hg36, hf⟩ := xg_s hf
      refine xV_aaload (b := (5 + (xn x1))) 37 rfl dX4_shapeSize_36 rfl rfl rfl (xin_ok hg36) (by show ([5, 6] : List Nat)[(xn x1)]? = some (5 + (xn x1)); have hi := xin_lt hg36; generalize (xn x1) = i at hi ⊢; match i, hi with | 0, _ => rfl | 1, _ => rfl) ?_
      refine xV_iload 39 rfl dX4_shapeSize_37 4 rfl ?_
      obtain ⟨hg39, hf⟩ := xg_s hf
      refine xV_iaload (f := (c_codes (xn x1))) (z := 120) 40 rfl dX4_shapeSize_39 (by have hi := (xin_lt hg36); generalize (xn x1) = i at hi ⊢; match i, hi with | 0, _ => exact rfl | 1, _ => exact rfl) (xin_ok hg39) rfl ?_
      obtain ⟨v40, hv40, hf⟩ := xb_s hf
      refine xV_same (rest := []) 43 rfl dX4_shapeSize_40 rfl (C4_leastAlike X.1.2.1 hv40) m4_leastAlike v4_leastAlike k4_96 rfl rfl rfl rfl rfl (Nat.le_of_ble_eq_true rfl) (Nat.le_of_ble_eq_true rfl) (Nat.le_of_ble_eq_true rfl) ⟨Nat.le_refl _, Nat.le_refl _⟩ ?_
      show xV (j4_shapeSize) X 0 0 (hS c_fields c_ties c_worth c_forces c_many c_codes c_b_list c_b_many c_p_list c_p_weights c_p_drawn c_p_many c_p_all c_p_turns) 43 [(0, .ref 0), (1, .int x1), (3, .int x3), (4, .int x4), (5, .int x5)] [.int v40]
      refine xV_iload_n 44 rfl dX4_shapeSize_43 rfl 2 rfl ?_
      refine xV_icmp_ne (tgt := 50) 47 rfl dX4_shapeSize_44 (by decide) (fun h44 => ?_) (fun h44 => ?_)
      · have hf := xif_f hf h44
        exact T4_shapeSize_b50 hX (fun {_ _ _ _} hq => ih hq) hf
      · have hf := xif_t hf h44
        refine xV_iinc (L' := [(4, .int (x4 + (1 : Int32))), (0, .ref 0), (1, .int x1), (3, .int x3), (5, .int x5)]) 50 rfl dX4_shapeSize_47 3 rfl (xk_inc xy_i1) (xlt rfl) rfl ?_
        refine xV_sub [1, 2, 3, 0, 4] rfl ?_
        exact T4_shapeSize_b50 hX (fun {_ _ _ _} hq => ih hq) hf
def F4_shapeSize (z : Nat) (x1 : Int32) (x2 : Int32) (c_fields : Int32) (c_worth : (Nat → Int32)) (c_many : (Nat → Int32)) (c_codes : (Nat → Nat → Int32)) : Option (Int32) :=
  xg (xin x1 2) (xg (xin x2 120) ((F4_leastAlike z ((c_codes (xn x1)) (xn x2)) c_fields c_worth).bind (fun v9 => F4_shapeSize_b19 z z x1 v9 (0 : Int32) (0 : Int32) c_fields c_worth c_many c_codes)))
theorem T4_shapeSize {X : xX} {z : Nat} {x1 : Int32} {x2 : Int32} {c_fields : Int32} {c_worth : (Nat → Int32)} {c_many : (Nat → Int32)} {c_codes : (Nat → Nat → Int32)} {c_ties : Int32} {c_forces : (Nat → Int32)} {c_b_list : (Nat → Nat → Int32)} {c_b_many : (Nat → Int32)} {c_p_list : (Nat → Nat → Int32)} {c_p_weights : (Nat → Nat → Int32)} {c_p_drawn : (Nat → Nat → Int32)} {c_p_many : (Nat → Int32)} {c_p_all : (Nat → Int32)} {c_p_turns : (Nat → Int32)} {v : Int32} (hX : xIs (j4_shapeSize) X ((some .int)) (some (.int v)) (hS c_fields c_ties c_worth c_forces c_many c_codes c_b_list c_b_many c_p_list c_p_weights c_p_drawn c_p_many c_p_all c_p_turns)) (hf : F4_shapeSize z x1 x2 c_fields c_worth c_many c_codes = some v) : xV (j4_shapeSize) X 0 0 (hS c_fields c_ties c_worth c_forces c_many c_codes c_b_list c_b_many c_p_list c_p_weights c_p_drawn c_p_many c_p_all c_p_turns) 0 [(0, .ref 0), (1, .int x1), (2, .int x2)] [] := by
  unfold F4_shapeSize at hf
  refine xV_aload_n 1 rfl dX4_shapeSize_0 rfl 0 rfl ?_
  refine xV_aload_n 2 rfl dX4_shapeSize_1 rfl 0 rfl ?_
  refine xV_get (v := .ref 4) 5 rfl dX4_shapeSize_2 f4_23 rfl rfl ?_
  refine xV_iload_n 6 rfl dX4_shapeSize_5 rfl 1 rfl ?_
  obtain ⟨hg6, hf⟩ := xg_s hf
  refine xV_aaload (b := (5 + (xn x1))) 7 rfl dX4_shapeSize_6 rfl rfl rfl (xin_ok hg6) (by show ([5, 6] : List Nat)[(xn x1)]? = some (5 + (xn x1)); have hi := xin_lt hg6; generalize (xn x1) = i at hi ⊢; match i, hi with | 0, _ => rfl | 1, _ => rfl) ?_
  refine xV_iload_n 8 rfl dX4_shapeSize_7 rfl 2 rfl ?_
  obtain ⟨hg8, hf⟩ := xg_s hf
  refine xV_iaload (f := (c_codes (xn x1))) (z := 120) 9 rfl dX4_shapeSize_8 (by have hi := (xin_lt hg6); generalize (xn x1) = i at hi ⊢; match i, hi with | 0, _ => exact rfl | 1, _ => exact rfl) (xin_ok hg8) rfl ?_
  obtain ⟨v9, hv9, hf⟩ := xb_s hf
  refine xV_same (rest := []) 12 rfl dX4_shapeSize_9 rfl (C4_leastAlike X.1.2.1 hv9) m4_leastAlike v4_leastAlike k4_96 rfl rfl rfl rfl rfl (Nat.le_of_ble_eq_true rfl) (Nat.le_of_ble_eq_true rfl) (Nat.le_of_ble_eq_true rfl) ⟨Nat.le_refl _, Nat.le_refl _⟩ ?_
  show xV (j4_shapeSize) X 0 0 (hS c_fields c_ties c_worth c_forces c_many c_codes c_b_list c_b_many c_p_list c_p_weights c_p_drawn c_p_many c_p_all c_p_turns) 12 [(0, .ref 0), (1, .int x1), (2, .int x2)] [.int v9]
  refine xV_istore_n (L' := [(3, .int v9), (0, .ref 0), (1, .int x1), (2, .int x2)]) 13 rfl dX4_shapeSize_12 rfl (xlt rfl) rfl ?_
  refine xV_iconst 14 rfl dX4_shapeSize_13 xy_i0 ?_
  refine xV_istore (L' := [(4, .int (0 : Int32)), (3, .int v9), (0, .ref 0), (1, .int x1), (2, .int x2)]) 16 rfl dX4_shapeSize_14 (xlt rfl) rfl ?_
  refine xV_iconst 17 rfl dX4_shapeSize_16 xy_i0 ?_
  refine xV_istore (L' := [(5, .int (0 : Int32)), (4, .int (0 : Int32)), (3, .int v9), (0, .ref 0), (1, .int x1), (2, .int x2)]) 19 rfl dX4_shapeSize_17 (xlt rfl) rfl ?_
  refine xV_sub [3, 4, 2, 1, 0] rfl ?_
  exact T4_shapeSize_b19 hX _ hf
theorem C4_shapeSize (l : Launch) {z : Nat} {x1 : Int32} {x2 : Int32} {c_fields : Int32} {c_worth : (Nat → Int32)} {c_many : (Nat → Int32)} {c_codes : (Nat → Nat → Int32)} {c_ties : Int32} {c_forces : (Nat → Int32)} {c_b_list : (Nat → Nat → Int32)} {c_b_many : (Nat → Int32)} {c_p_list : (Nat → Nat → Int32)} {c_p_weights : (Nat → Nat → Int32)} {c_p_drawn : (Nat → Nat → Int32)} {c_p_many : (Nat → Int32)} {c_p_all : (Nat → Int32)} {c_p_turns : (Nat → Int32)} {v : Int32} (hf : F4_shapeSize z x1 x2 c_fields c_worth c_many c_codes = some v) : xCt l yX4_shapeSize ((some .int)) j4_shapeSize [.ref 0, .int x1, .int x2] (hS c_fields c_ties c_worth c_forces c_many c_codes c_b_list c_b_many c_p_list c_p_weights c_p_drawn c_p_many c_p_all c_p_turns) (some (.int v)) (hS c_fields c_ties c_worth c_forces c_many c_codes c_b_list c_b_many c_p_list c_p_weights c_p_drawn c_p_many c_p_all c_p_turns) := xCt_of (by decide) rfl (Nat.le_of_ble_eq_true rfl) (fun _ hX => T4_shapeSize hX hf)
theorem m4_shapeSize : xMd yX4_shapeSize RX4 ((some .int)) j4_shapeSize 2 := ⟨List.mem_of_getElem? (i := 667) (by decide +kernel), List.mem_of_getElem? (i := 15) (by decide +kernel), rfl, by decide +kernel⟩
theorem v4_shapeSize : xMv yX4_shapeSize RX4 := ⟨List.mem_of_getElem? (i := 665) (by decide +kernel), List.mem_of_getElem? (i := 666) (by decide +kernel)⟩
theorem dX4_shapesUpTo_0 : decode cX4_shapesUpTo 0 = .ok (.iconst 0, 1) := by decide +kernel
theorem dX4_shapesUpTo_1 : decode cX4_shapesUpTo 1 = .ok (.istore_n 3, 1) := by decide +kernel
theorem dX4_shapesUpTo_2 : decode cX4_shapesUpTo 2 = .ok (.iconst 0, 1) := by decide +kernel
theorem dX4_shapesUpTo_3 : decode cX4_shapesUpTo 3 = .ok (.istore 4, 2) := by decide +kernel
theorem dX4_shapesUpTo_5 : decode cX4_shapesUpTo 5 = .ok (.iload 4, 2) := by decide +kernel
theorem dX4_shapesUpTo_7 : decode cX4_shapesUpTo 7 = .ok (.iload_n 2, 1) := by decide +kernel
theorem dX4_shapesUpTo_8 : decode cX4_shapesUpTo 8 = .ok (.if_icmp .gt 48, 3) := by decide +kernel
theorem dX4_shapesUpTo_11 : decode cX4_shapesUpTo 11 = .ok (.iload 4, 2) := by decide +kernel
theorem dX4_shapesUpTo_13 : decode cX4_shapesUpTo 13 = .ok (.aload_n 0, 1) := by decide +kernel
theorem dX4_shapesUpTo_14 : decode cX4_shapesUpTo 14 = .ok (.getfield 18, 3) := by decide +kernel
theorem dX4_shapesUpTo_17 : decode cX4_shapesUpTo 17 = .ok (.iload_n 1, 1) := by decide +kernel
theorem dX4_shapesUpTo_18 : decode cX4_shapesUpTo 18 = .ok (.iaload, 1) := by decide +kernel
theorem dX4_shapesUpTo_19 : decode cX4_shapesUpTo 19 = .ok (.if_icmp .ge 37, 3) := by decide +kernel
theorem dX4_shapesUpTo_22 : decode cX4_shapesUpTo 22 = .ok (.aload_n 0, 1) := by decide +kernel
theorem dX4_shapesUpTo_23 : decode cX4_shapesUpTo 23 = .ok (.aload_n 0, 1) := by decide +kernel
theorem dX4_shapesUpTo_24 : decode cX4_shapesUpTo 24 = .ok (.getfield 23, 3) := by decide +kernel
theorem dX4_shapesUpTo_27 : decode cX4_shapesUpTo 27 = .ok (.iload_n 1, 1) := by decide +kernel
theorem dX4_shapesUpTo_28 : decode cX4_shapesUpTo 28 = .ok (.aaload, 1) := by decide +kernel
theorem dX4_shapesUpTo_29 : decode cX4_shapesUpTo 29 = .ok (.iload 4, 2) := by decide +kernel
theorem dX4_shapesUpTo_31 : decode cX4_shapesUpTo 31 = .ok (.iaload, 1) := by decide +kernel
theorem dX4_shapesUpTo_32 : decode cX4_shapesUpTo 32 = .ok (.invokevirtual 96, 3) := by decide +kernel
theorem dX4_shapesUpTo_35 : decode cX4_shapesUpTo 35 = .ok (.aload_n 0, 1) := by decide +kernel
theorem dX4_shapesUpTo_36 : decode cX4_shapesUpTo 36 = .ok (.getfield 23, 3) := by decide +kernel
theorem dX4_shapesUpTo_39 : decode cX4_shapesUpTo 39 = .ok (.iload_n 1, 1) := by decide +kernel
theorem dX4_shapesUpTo_40 : decode cX4_shapesUpTo 40 = .ok (.aaload, 1) := by decide +kernel
theorem dX4_shapesUpTo_41 : decode cX4_shapesUpTo 41 = .ok (.iload 4, 2) := by decide +kernel
theorem dX4_shapesUpTo_43 : decode cX4_shapesUpTo 43 = .ok (.iaload, 1) := by decide +kernel
theorem dX4_shapesUpTo_44 : decode cX4_shapesUpTo 44 = .ok (.if_icmp .ne 6, 3) := by decide +kernel
theorem dX4_shapesUpTo_47 : decode cX4_shapesUpTo 47 = .ok (.iinc 3 1, 3) := by decide +kernel
theorem dX4_shapesUpTo_50 : decode cX4_shapesUpTo 50 = .ok (.iinc 4 1, 3) := by decide +kernel
theorem dX4_shapesUpTo_53 : decode cX4_shapesUpTo 53 = .ok (.goto (-48), 3) := by decide +kernel
theorem dX4_shapesUpTo_56 : decode cX4_shapesUpTo 56 = .ok (.iload_n 3, 1) := by decide +kernel
theorem dX4_shapesUpTo_57 : decode cX4_shapesUpTo 57 = .ok (.ireturn, 1) := by decide +kernel
abbrev j4_shapesUpTo : xJ := (cX4_shapesUpTo, 5, RX4, 3, 0, 0)
def F4_shapesUpTo_b50 (z : Nat) (x1 : Int32) (x2 : Int32) (x3 : Int32) (x4 : Int32) (c_fields : Int32) (c_worth : (Nat → Int32)) (c_many : (Nat → Int32)) (c_codes : (Nat → Nat → Int32)) (k5 : Int32 → Int32 → Int32 → Int32 → Int32 → (Nat → Int32) → (Nat → Int32) → (Nat → Nat → Int32) → Option (Int32)) : Option (Int32) :=
  k5 x1 x2 x3 (x4 + (1 : Int32)) c_fields c_worth c_many c_codes
theorem T4_shapesUpTo_b50 {X : xX} {c_ties : Int32} {c_forces : (Nat → Int32)} {c_b_list : (Nat → Nat → Int32)} {c_b_many : (Nat → Int32)} {c_p_list : (Nat → Nat → Int32)} {c_p_weights : (Nat → Nat → Int32)} {c_p_drawn : (Nat → Nat → Int32)} {c_p_many : (Nat → Int32)} {c_p_all : (Nat → Int32)} {c_p_turns : (Nat → Int32)} {x1 : Int32} {x2 : Int32} {x3 : Int32} {x4 : Int32} {c_fields : Int32} {c_worth : (Nat → Int32)} {c_many : (Nat → Int32)} {c_codes : (Nat → Nat → Int32)} {z : Nat} {v : Int32} {k5 : Int32 → Int32 → Int32 → Int32 → Int32 → (Nat → Int32) → (Nat → Int32) → (Nat → Nat → Int32) → Option (Int32)} (hX : xIs (j4_shapesUpTo) X ((some .int)) (some (.int v)) (hS c_fields c_ties c_worth c_forces c_many c_codes c_b_list c_b_many c_p_list c_p_weights c_p_drawn c_p_many c_p_all c_p_turns)) (hk5 : ∀ {x1 : Int32} {x2 : Int32} {x3 : Int32} {x4 : Int32}, k5 x1 x2 x3 x4 c_fields c_worth c_many c_codes = some v → xV (j4_shapesUpTo) X 0 0 (hS c_fields c_ties c_worth c_forces c_many c_codes c_b_list c_b_many c_p_list c_p_weights c_p_drawn c_p_many c_p_all c_p_turns) 5 [(0, .ref 0), (1, .int x1), (2, .int x2), (3, .int x3), (4, .int x4)] []) (hf : F4_shapesUpTo_b50 z x1 x2 x3 x4 c_fields c_worth c_many c_codes k5 = some v) : xV (j4_shapesUpTo) X 0 0 (hS c_fields c_ties c_worth c_forces c_many c_codes c_b_list c_b_many c_p_list c_p_weights c_p_drawn c_p_many c_p_all c_p_turns) 50 [(0, .ref 0), (1, .int x1), (2, .int x2), (3, .int x3), (4, .int x4)] [] := by
  unfold F4_shapesUpTo_b50 at hf
  refine xV_iinc (L' := [(4, .int (x4 + (1 : Int32))), (0, .ref 0), (1, .int x1), (2, .int x2), (3, .int x3)]) 53 rfl dX4_shapesUpTo_50 4 rfl (xk_inc xy_i1) (xlt rfl) rfl ?_
  refine xV_goto (tgt := 5) dX4_shapesUpTo_53 (by decide) ?_
  refine xV_sub [1, 2, 3, 4, 0] rfl ?_
  exact hk5 hf
def F4_shapesUpTo_b5 (z : Nat) (w : Nat) (x1 : Int32) (x2 : Int32) (x3 : Int32) (x4 : Int32) (c_fields : Int32) (c_worth : (Nat → Int32)) (c_many : (Nat → Int32)) (c_codes : (Nat → Nat → Int32)) : Option (Int32) := match w with
  | 0 => none
  | w + 1 => if x2 < x4 then (some (x3)) else (xg (xin x1 2) (if (c_many (xn x1)) ≤ x4 then (some (x3)) else (xg (xin x1 2) (xg (xin x4 120) ((F4_leastAlike z ((c_codes (xn x1)) (xn x4)) c_fields c_worth).bind (fun v32 => xg (xin x1 2) (xg (xin x4 120) (if v32 = ((c_codes (xn x1)) (xn x4)) then (F4_shapesUpTo_b50 z x1 x2 (x3 + (1 : Int32)) x4 c_fields c_worth c_many c_codes (fun q0 q1 q2 q3 q4 q5 q6 q7 => F4_shapesUpTo_b5 z w q0 q1 q2 q3 q4 q5 q6 q7)) else (F4_shapesUpTo_b50 z x1 x2 x3 x4 c_fields c_worth c_many c_codes (fun q0 q1 q2 q3 q4 q5 q6 q7 => F4_shapesUpTo_b5 z w q0 q1 q2 q3 q4 q5 q6 q7))))))))))
theorem T4_shapesUpTo_b5 {X : xX} {c_fields : Int32} {c_ties : Int32} {c_worth : (Nat → Int32)} {c_forces : (Nat → Int32)} {c_many : (Nat → Int32)} {c_codes : (Nat → Nat → Int32)} {c_b_list : (Nat → Nat → Int32)} {c_b_many : (Nat → Int32)} {c_p_list : (Nat → Nat → Int32)} {c_p_weights : (Nat → Nat → Int32)} {c_p_drawn : (Nat → Nat → Int32)} {c_p_many : (Nat → Int32)} {c_p_all : (Nat → Int32)} {c_p_turns : (Nat → Int32)} {z : Nat} {v : Int32} (hX : xIs (j4_shapesUpTo) X ((some .int)) (some (.int v)) (hS c_fields c_ties c_worth c_forces c_many c_codes c_b_list c_b_many c_p_list c_p_weights c_p_drawn c_p_many c_p_all c_p_turns)) : ∀ (w : Nat) {x1 : Int32} {x2 : Int32} {x3 : Int32} {x4 : Int32}, F4_shapesUpTo_b5 z w x1 x2 x3 x4 c_fields c_worth c_many c_codes = some v → xV (j4_shapesUpTo) X 0 0 (hS c_fields c_ties c_worth c_forces c_many c_codes c_b_list c_b_many c_p_list c_p_weights c_p_drawn c_p_many c_p_all c_p_turns) 5 [(0, .ref 0), (1, .int x1), (2, .int x2), (3, .int x3), (4, .int x4)] [] := by
  intro w
  induction w with
  | zero => intro x1 x2 x3 x4 hf; cases hf
  | succ w ih =>
    intro x1 x2 x3 x4 hf
    unfold F4_shapesUpTo_b5 at hf
    refine xV_iload 7 rfl dX4_shapesUpTo_5 4 rfl ?_
    refine xV_iload_n 8 rfl dX4_shapesUpTo_7 rfl 2 rfl ?_
    refine xV_icmp_gt (tgt := 56) 11 rfl dX4_shapesUpTo_8 (by decide) (fun h8 => ?_) (fun h8 => ?_)
    · have hf := xif_t hf h8
      refine xV_iload_n 57 rfl dX4_shapesUpTo_56 rfl 3 rfl ?_
      obtain rfl := Option.some.inj hf
      exact xV_iret hX dX4_shapesUpTo_57 rfl (Nat.zero_le _) (Nat.zero_le _)
    · have hf := xif_f hf h8
      refine xV_iload 13 rfl dX4_shapesUpTo_11 4 rfl ?_
      refine xV_aload_n 14 rfl dX4_shapesUpTo_13 rfl 0 rfl ?_
      refine xV_get (v := .ref 3) 17 rfl dX4_shapesUpTo_14 f4_18 rfl rfl ?_
      refine xV_iload_n 18 rfl dX4_shapesUpTo_17 rfl 1 rfl ?_
      obtain ⟨hg18, hf⟩ := xg_s hf
      refine xV_iaload 19 rfl dX4_shapesUpTo_18 rfl (xin_ok hg18) rfl ?_
      refine xV_icmp_ge (tgt := 56) 22 rfl dX4_shapesUpTo_19 (by decide) (fun h19 => ?_) (fun h19 => ?_)
      · have hf := xif_t hf h19
        refine xV_iload_n 57 rfl dX4_shapesUpTo_56 rfl 3 rfl ?_
        obtain rfl := Option.some.inj hf
        exact xV_iret hX dX4_shapesUpTo_57 rfl (Nat.zero_le _) (Nat.zero_le _)
      · have hf := xif_f hf h19
        refine xV_aload_n 23 rfl dX4_shapesUpTo_22 rfl 0 rfl ?_
        refine xV_aload_n 24 rfl dX4_shapesUpTo_23 rfl 0 rfl ?_
        refine xV_get (v := .ref 4) 27 rfl dX4_shapesUpTo_24 f4_23 rfl rfl ?_
        refine xV_iload_n 28 rfl dX4_shapesUpTo_27 rfl 1 rfl ?_
        obtain ⟨hg28, hf⟩ := xg_s hf
        refine xV_aaload (b := (5 + (xn x1))) 29 rfl dX4_shapesUpTo_28 rfl rfl rfl (xin_ok hg28) (by show ([5, 6] : List Nat)[(xn x1)]? = some (5 + (xn x1)); have hi := xin_lt hg28; generalize (xn x1) = i at hi ⊢; match i, hi with | 0, _ => rfl | 1, _ => rfl) ?_
        refine xV_iload 31 rfl dX4_shapesUpTo_29 4 rfl ?_
        obtain ⟨hg31, hf⟩ := xg_s hf
        refine xV_iaload (f := (c_codes (xn x1))) (z := 120) 32 rfl dX4_shapesUpTo_31 (by have hi := (xin_lt hg28); generalize (xn x1) = i at hi ⊢; match i, hi with | 0, _ => exact rfl | 1, _ => exact rfl) (xin_ok hg31) rfl ?_
        obtain ⟨v32, hv32, hf⟩ := xb_s hf
        refine xV_same (rest := []) 35 rfl dX4_shapesUpTo_32 rfl (C4_leastAlike X.1.2.1 hv32) m4_leastAlike v4_leastAlike k4_96 rfl rfl rfl rfl rfl (Nat.le_of_ble_eq_true rfl) (Nat.le_of_ble_eq_true rfl) (Nat.le_of_ble_eq_true rfl) ⟨Nat.le_refl _, Nat.le_refl _⟩ ?_
        show xV (j4_shapesUpTo) X 0 0 (hS c_fields c_ties c_worth c_forces c_many c_codes c_b_list c_b_many c_p_list c_p_weights c_p_drawn c_p_many c_p_all c_p_turns) 35 [(0, .ref 0), (1, .int x1), (2, .int x2), (3, .int x3), (4, .int x4)] [.int v32]
        refine xV_aload_n 36 rfl dX4_shapesUpTo_35 rfl 0 rfl ?_
        refine xV_get (v := .ref 4) 39 rfl dX4_shapesUpTo_36 f4_23 rfl rfl ?_
        refine xV_iload_n 40 rfl dX4_shapesUpTo_39 rfl 1 rfl ?_
        obtain ⟨hg40, hf⟩ := xg_s hf
        refine xV_aaload (b := (5 + (xn x1))) 41 rfl dX4_shapesUpTo_40 rfl rfl rfl (xin_ok hg40) (by show ([5, 6] : List Nat)[(xn x1)]? = some (5 + (xn x1)); have hi := xin_lt hg40; generalize (xn x1) = i at hi ⊢; match i, hi with | 0, _ => rfl | 1, _ => rfl) ?_
        refine xV_iload 43 rfl dX4_shapesUpTo_41 4 rfl ?_
        obtain ⟨hg43, hf⟩ := xg_s hf
        refine xV_iaload (f := (c_codes (xn x1))) (z := 120) 44 rfl dX4_shapesUpTo_43 (by have hi := (xin_lt hg40); generalize (xn x1) = i at hi ⊢; match i, hi with | 0, _ => exact rfl | 1, _ => exact rfl) (xin_ok hg43) rfl ?_
        refine xV_icmp_ne (tgt := 50) 47 rfl dX4_shapesUpTo_44 (by decide) (fun h44 => ?_) (fun h44 => ?_)
        · have hf := xif_f hf h44
          exact T4_shapesUpTo_b50 hX (fun {_ _ _ _} hq => ih hq) hf
        · have hf := xif_t hf h44
          refine xV_iinc (L' := [(3, .int (x3 + (1 : Int32))), (0, .ref 0), (1, .int x1), (2, .int x2), (4, .int x4)]) 50 rfl dX4_shapesUpTo_47 3 rfl (xk_inc xy_i1) (xlt rfl) rfl ?_
          refine xV_sub [1, 2, 3, 0, 4] rfl ?_
          exact T4_shapesUpTo_b50 hX (fun {_ _ _ _} hq => ih hq) hf
def F4_shapesUpTo (z : Nat) (x1 : Int32) (x2 : Int32) (c_fields : Int32) (c_worth : (Nat → Int32)) (c_many : (Nat → Int32)) (c_codes : (Nat → Nat → Int32)) : Option (Int32) :=
  F4_shapesUpTo_b5 z z x1 x2 (0 : Int32) (0 : Int32) c_fields c_worth c_many c_codes
theorem T4_shapesUpTo {X : xX} {z : Nat} {x1 : Int32} {x2 : Int32} {c_fields : Int32} {c_worth : (Nat → Int32)} {c_many : (Nat → Int32)} {c_codes : (Nat → Nat → Int32)} {c_ties : Int32} {c_forces : (Nat → Int32)} {c_b_list : (Nat → Nat → Int32)} {c_b_many : (Nat → Int32)} {c_p_list : (Nat → Nat → Int32)} {c_p_weights : (Nat → Nat → Int32)} {c_p_drawn : (Nat → Nat → Int32)} {c_p_many : (Nat → Int32)} {c_p_all : (Nat → Int32)} {c_p_turns : (Nat → Int32)} {v : Int32} (hX : xIs (j4_shapesUpTo) X ((some .int)) (some (.int v)) (hS c_fields c_ties c_worth c_forces c_many c_codes c_b_list c_b_many c_p_list c_p_weights c_p_drawn c_p_many c_p_all c_p_turns)) (hf : F4_shapesUpTo z x1 x2 c_fields c_worth c_many c_codes = some v) : xV (j4_shapesUpTo) X 0 0 (hS c_fields c_ties c_worth c_forces c_many c_codes c_b_list c_b_many c_p_list c_p_weights c_p_drawn c_p_many c_p_all c_p_turns) 0 [(0, .ref 0), (1, .int x1), (2, .int x2)] [] := by
  unfold F4_shapesUpTo at hf
  refine xV_iconst 1 rfl dX4_shapesUpTo_0 xy_i0 ?_
  refine xV_istore_n (L' := [(3, .int (0 : Int32)), (0, .ref 0), (1, .int x1), (2, .int x2)]) 2 rfl dX4_shapesUpTo_1 rfl (xlt rfl) rfl ?_
  refine xV_iconst 3 rfl dX4_shapesUpTo_2 xy_i0 ?_
  refine xV_istore (L' := [(4, .int (0 : Int32)), (3, .int (0 : Int32)), (0, .ref 0), (1, .int x1), (2, .int x2)]) 5 rfl dX4_shapesUpTo_3 (xlt rfl) rfl ?_
  refine xV_sub [2, 3, 4, 1, 0] rfl ?_
  exact T4_shapesUpTo_b5 hX _ hf
theorem C4_shapesUpTo (l : Launch) {z : Nat} {x1 : Int32} {x2 : Int32} {c_fields : Int32} {c_worth : (Nat → Int32)} {c_many : (Nat → Int32)} {c_codes : (Nat → Nat → Int32)} {c_ties : Int32} {c_forces : (Nat → Int32)} {c_b_list : (Nat → Nat → Int32)} {c_b_many : (Nat → Int32)} {c_p_list : (Nat → Nat → Int32)} {c_p_weights : (Nat → Nat → Int32)} {c_p_drawn : (Nat → Nat → Int32)} {c_p_many : (Nat → Int32)} {c_p_all : (Nat → Int32)} {c_p_turns : (Nat → Int32)} {v : Int32} (hf : F4_shapesUpTo z x1 x2 c_fields c_worth c_many c_codes = some v) : xCt l yX4_shapesUpTo ((some .int)) j4_shapesUpTo [.ref 0, .int x1, .int x2] (hS c_fields c_ties c_worth c_forces c_many c_codes c_b_list c_b_many c_p_list c_p_weights c_p_drawn c_p_many c_p_all c_p_turns) (some (.int v)) (hS c_fields c_ties c_worth c_forces c_many c_codes c_b_list c_b_many c_p_list c_p_weights c_p_drawn c_p_many c_p_all c_p_turns) := xCt_of (by decide) rfl (Nat.le_of_ble_eq_true rfl) (fun _ hX => T4_shapesUpTo hX hf)
theorem m4_shapesUpTo : xMd yX4_shapesUpTo RX4 ((some .int)) j4_shapesUpTo 2 := ⟨List.mem_of_getElem? (i := 631) (by decide +kernel), List.mem_of_getElem? (i := 15) (by decide +kernel), rfl, by decide +kernel⟩
theorem v4_shapesUpTo : xMv yX4_shapesUpTo RX4 := ⟨List.mem_of_getElem? (i := 629) (by decide +kernel), List.mem_of_getElem? (i := 630) (by decide +kernel)⟩
