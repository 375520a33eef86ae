theorem hWS_0 {c_all : Int32} {c_mass : (Nat → Nat → Int32)} {c_s_fields : Int32} {c_s_ties : Int32} {c_s_worth : (Nat → Int32)} {c_s_forces : (Nat → Int32)} {c_s_many : (Nat → Int32)} {c_s_codes : (Nat → Nat → Int32)} {c_s_b_list : (Nat → Nat → Int32)} {c_s_b_many : (Nat → Int32)} {c_s_p_list : (Nat → Nat → Int32)} {c_s_p_weights : (Nat → Nat → Int32)} {c_s_p_drawn : (Nat → Nat → Int32)} {c_s_p_many : (Nat → Int32)} {c_s_p_all : (Nat → Int32)} {c_s_p_turns : (Nat → Int32)} : (hWS c_all c_mass c_s_fields c_s_ties c_s_worth c_s_forces c_s_many c_s_codes c_s_b_list c_s_b_many c_s_p_list c_s_p_weights c_s_p_drawn c_s_p_many c_s_p_all c_s_p_turns)[0]? = some (.inr (6, [.ref 1, .int c_all])) := rfl
theorem hWS_1 {c_all : Int32} {c_mass : (Nat → Nat → Int32)} {c_s_fields : Int32} {c_s_ties : Int32} {c_s_worth : (Nat → Int32)} {c_s_forces : (Nat → Int32)} {c_s_many : (Nat → Int32)} {c_s_codes : (Nat → Nat → Int32)} {c_s_b_list : (Nat → Nat → Int32)} {c_s_b_many : (Nat → Int32)} {c_s_p_list : (Nat → Nat → Int32)} {c_s_p_weights : (Nat → Nat → Int32)} {c_s_p_drawn : (Nat → Nat → Int32)} {c_s_p_many : (Nat → Int32)} {c_s_p_all : (Nat → Int32)} {c_s_p_turns : (Nat → Int32)} : (hWS c_all c_mass c_s_fields c_s_ties c_s_worth c_s_forces c_s_many c_s_codes c_s_b_list c_s_b_many c_s_p_list c_s_p_weights c_s_p_drawn c_s_p_many c_s_p_all c_s_p_turns)[1]? = some (.inl (7, 4, .inr (.inr [2, 3, 4, 5]))) := rfl
theorem hWS_2 {c_all : Int32} {c_mass : (Nat → Nat → Int32)} {c_s_fields : Int32} {c_s_ties : Int32} {c_s_worth : (Nat → Int32)} {c_s_forces : (Nat → Int32)} {c_s_many : (Nat → Int32)} {c_s_codes : (Nat → Nat → Int32)} {c_s_b_list : (Nat → Nat → Int32)} {c_s_b_many : (Nat → Int32)} {c_s_p_list : (Nat → Nat → Int32)} {c_s_p_weights : (Nat → Nat → Int32)} {c_s_p_drawn : (Nat → Nat → Int32)} {c_s_p_many : (Nat → Int32)} {c_s_p_all : (Nat → Int32)} {c_s_p_turns : (Nat → Int32)} : (hWS c_all c_mass c_s_fields c_s_ties c_s_worth c_s_forces c_s_many c_s_codes c_s_b_list c_s_b_many c_s_p_list c_s_p_weights c_s_p_drawn c_s_p_many c_s_p_all c_s_p_turns)[2]? = some (.inl (0, 8, .inl (c_mass 0))) := rfl
theorem hWS_3 {c_all : Int32} {c_mass : (Nat → Nat → Int32)} {c_s_fields : Int32} {c_s_ties : Int32} {c_s_worth : (Nat → Int32)} {c_s_forces : (Nat → Int32)} {c_s_many : (Nat → Int32)} {c_s_codes : (Nat → Nat → Int32)} {c_s_b_list : (Nat → Nat → Int32)} {c_s_b_many : (Nat → Int32)} {c_s_p_list : (Nat → Nat → Int32)} {c_s_p_weights : (Nat → Nat → Int32)} {c_s_p_drawn : (Nat → Nat → Int32)} {c_s_p_many : (Nat → Int32)} {c_s_p_all : (Nat → Int32)} {c_s_p_turns : (Nat → Int32)} : (hWS c_all c_mass c_s_fields c_s_ties c_s_worth c_s_forces c_s_many c_s_codes c_s_b_list c_s_b_many c_s_p_list c_s_p_weights c_s_p_drawn c_s_p_many c_s_p_all c_s_p_turns)[3]? = some (.inl (0, 8, .inl (c_mass 1))) := rfl
theorem hWS_4 {c_all : Int32} {c_mass : (Nat → Nat → Int32)} {c_s_fields : Int32} {c_s_ties : Int32} {c_s_worth : (Nat → Int32)} {c_s_forces : (Nat → Int32)} {c_s_many : (Nat → Int32)} {c_s_codes : (Nat → Nat → Int32)} {c_s_b_list : (Nat → Nat → Int32)} {c_s_b_many : (Nat → Int32)} {c_s_p_list : (Nat → Nat → Int32)} {c_s_p_weights : (Nat → Nat → Int32)} {c_s_p_drawn : (Nat → Nat → Int32)} {c_s_p_many : (Nat → Int32)} {c_s_p_all : (Nat → Int32)} {c_s_p_turns : (Nat → Int32)} : (hWS c_all c_mass c_s_fields c_s_ties c_s_worth c_s_forces c_s_many c_s_codes c_s_b_list c_s_b_many c_s_p_list c_s_p_weights c_s_p_drawn c_s_p_many c_s_p_all c_s_p_turns)[4]? = some (.inl (0, 8, .inl (c_mass 2))) := rfl
theorem hWS_5 {c_all : Int32} {c_mass : (Nat → Nat → Int32)} {c_s_fields : Int32} {c_s_ties : Int32} {c_s_worth : (Nat → Int32)} {c_s_forces : (Nat → Int32)} {c_s_many : (Nat → Int32)} {c_s_codes : (Nat → Nat → Int32)} {c_s_b_list : (Nat → Nat → Int32)} {c_s_b_many : (Nat → Int32)} {c_s_p_list : (Nat → Nat → Int32)} {c_s_p_weights : (Nat → Nat → Int32)} {c_s_p_drawn : (Nat → Nat → Int32)} {c_s_p_many : (Nat → Int32)} {c_s_p_all : (Nat → Int32)} {c_s_p_turns : (Nat → Int32)} : (hWS c_all c_mass c_s_fields c_s_ties c_s_worth c_s_forces c_s_many c_s_codes c_s_b_list c_s_b_many c_s_p_list c_s_p_weights c_s_p_drawn c_s_p_many c_s_p_all c_s_p_turns)[5]? = some (.inl (0, 8, .inl (c_mass 3))) := rfl
theorem hWS_6 {c_all : Int32} {c_mass : (Nat → Nat → Int32)} {c_s_fields : Int32} {c_s_ties : Int32} {c_s_worth : (Nat → Int32)} {c_s_forces : (Nat → Int32)} {c_s_many : (Nat → Int32)} {c_s_codes : (Nat → Nat → Int32)} {c_s_b_list : (Nat → Nat → Int32)} {c_s_b_many : (Nat → Int32)} {c_s_p_list : (Nat → Nat → Int32)} {c_s_p_weights : (Nat → Nat → Int32)} {c_s_p_drawn : (Nat → Nat → Int32)} {c_s_p_many : (Nat → Int32)} {c_s_p_all : (Nat → Int32)} {c_s_p_turns : (Nat → Int32)} : (hWS c_all c_mass c_s_fields c_s_ties c_s_worth c_s_forces c_s_many c_s_codes c_s_b_list c_s_b_many c_s_p_list c_s_p_weights c_s_p_drawn c_s_p_many c_s_p_all c_s_p_turns)[6]? = some (.inr (4, [.int c_s_fields, .int c_s_ties, .ref 7, .ref 8, .ref 9, .ref 10, .ref 13, .ref 18])) := rfl
theorem hWS_7 {c_all : Int32} {c_mass : (Nat → Nat → Int32)} {c_s_fields : Int32} {c_s_ties : Int32} {c_s_worth : (Nat → Int32)} {c_s_forces : (Nat → Int32)} {c_s_many : (Nat → Int32)} {c_s_codes : (Nat → Nat → Int32)} {c_s_b_list : (Nat → Nat → Int32)} {c_s_b_many : (Nat → Int32)} {c_s_p_list : (Nat → Nat → Int32)} {c_s_p_weights : (Nat → Nat → Int32)} {c_s_p_drawn : (Nat → Nat → Int32)} {c_s_p_many : (Nat → Int32)} {c_s_p_all : (Nat → Int32)} {c_s_p_turns : (Nat → Int32)} : (hWS c_all c_mass c_s_fields c_s_ties c_s_worth c_s_forces c_s_many c_s_codes c_s_b_list c_s_b_many c_s_p_list c_s_p_weights c_s_p_drawn c_s_p_many c_s_p_all c_s_p_turns)[7]? = some (.inl (0, 4, .inl c_s_worth)) := rfl
theorem hWS_8 {c_all : Int32} {c_mass : (Nat → Nat → Int32)} {c_s_fields : Int32} {c_s_ties : Int32} {c_s_worth : (Nat → Int32)} {c_s_forces : (Nat → Int32)} {c_s_many : (Nat → Int32)} {c_s_codes : (Nat → Nat → Int32)} {c_s_b_list : (Nat → Nat → Int32)} {c_s_b_many : (Nat → Int32)} {c_s_p_list : (Nat → Nat → Int32)} {c_s_p_weights : (Nat → Nat → Int32)} {c_s_p_drawn : (Nat → Nat → Int32)} {c_s_p_many : (Nat → Int32)} {c_s_p_all : (Nat → Int32)} {c_s_p_turns : (Nat → Int32)} : (hWS c_all c_mass c_s_fields c_s_ties c_s_worth c_s_forces c_s_many c_s_codes c_s_b_list c_s_b_many c_s_p_list c_s_p_weights c_s_p_drawn c_s_p_many c_s_p_all c_s_p_turns)[8]? = some (.inl (0, 2, .inl c_s_forces)) := rfl
theorem hWS_9 {c_all : Int32} {c_mass : (Nat → Nat → Int32)} {c_s_fields : Int32} {c_s_ties : Int32} {c_s_worth : (Nat → Int32)} {c_s_forces : (Nat → Int32)} {c_s_many : (Nat → Int32)} {c_s_codes : (Nat → Nat → Int32)} {c_s_b_list : (Nat → Nat → Int32)} {c_s_b_many : (Nat → Int32)} {c_s_p_list : (Nat → Nat → Int32)} {c_s_p_weights : (Nat → Nat → Int32)} {c_s_p_drawn : (Nat → Nat → Int32)} {c_s_p_many : (Nat → Int32)} {c_s_p_all : (Nat → Int32)} {c_s_p_turns : (Nat → Int32)} : (hWS c_all c_mass c_s_fields c_s_ties c_s_worth c_s_forces c_s_many c_s_codes c_s_b_list c_s_b_many c_s_p_list c_s_p_weights c_s_p_drawn c_s_p_many c_s_p_all c_s_p_turns)[9]? = some (.inl (0, 2, .inl c_s_many)) := rfl
theorem hWS_10 {c_all : Int32} {c_mass : (Nat → Nat → Int32)} {c_s_fields : Int32} {c_s_ties : Int32} {c_s_worth : (Nat → Int32)} {c_s_forces : (Nat → Int32)} {c_s_many : (Nat → Int32)} {c_s_codes : (Nat → Nat → Int32)} {c_s_b_list : (Nat → Nat → Int32)} {c_s_b_many : (Nat → Int32)} {c_s_p_list : (Nat → Nat → Int32)} {c_s_p_weights : (Nat → Nat → Int32)} {c_s_p_drawn : (Nat → Nat → Int32)} {c_s_p_many : (Nat → Int32)} {c_s_p_all : (Nat → Int32)} {c_s_p_turns : (Nat → Int32)} : (hWS c_all c_mass c_s_fields c_s_ties c_s_worth c_s_forces c_s_many c_s_codes c_s_b_list c_s_b_many c_s_p_list c_s_p_weights c_s_p_drawn c_s_p_many c_s_p_all c_s_p_turns)[10]? = some (.inl (7, 2, .inr (.inr [11, 12]))) := rfl
theorem hWS_11 {c_all : Int32} {c_mass : (Nat → Nat → Int32)} {c_s_fields : Int32} {c_s_ties : Int32} {c_s_worth : (Nat → Int32)} {c_s_forces : (Nat → Int32)} {c_s_many : (Nat → Int32)} {c_s_codes : (Nat → Nat → Int32)} {c_s_b_list : (Nat → Nat → Int32)} {c_s_b_many : (Nat → Int32)} {c_s_p_list : (Nat → Nat → Int32)} {c_s_p_weights : (Nat → Nat → Int32)} {c_s_p_drawn : (Nat → Nat → Int32)} {c_s_p_many : (Nat → Int32)} {c_s_p_all : (Nat → Int32)} {c_s_p_turns : (Nat → Int32)} : (hWS c_all c_mass c_s_fields c_s_ties c_s_worth c_s_forces c_s_many c_s_codes c_s_b_list c_s_b_many c_s_p_list c_s_p_weights c_s_p_drawn c_s_p_many c_s_p_all c_s_p_turns)[11]? = some (.inl (0, 120, .inl (c_s_codes 0))) := rfl
theorem hWS_12 {c_all : Int32} {c_mass : (Nat → Nat → Int32)} {c_s_fields : Int32} {c_s_ties : Int32} {c_s_worth : (Nat → Int32)} {c_s_forces : (Nat → Int32)} {c_s_many : (Nat → Int32)} {c_s_codes : (Nat → Nat → Int32)} {c_s_b_list : (Nat → Nat → Int32)} {c_s_b_many : (Nat → Int32)} {c_s_p_list : (Nat → Nat → Int32)} {c_s_p_weights : (Nat → Nat → Int32)} {c_s_p_drawn : (Nat → Nat → Int32)} {c_s_p_many : (Nat → Int32)} {c_s_p_all : (Nat → Int32)} {c_s_p_turns : (Nat → Int32)} : (hWS c_all c_mass c_s_fields c_s_ties c_s_worth c_s_forces c_s_many c_s_codes c_s_b_list c_s_b_many c_s_p_list c_s_p_weights c_s_p_drawn c_s_p_many c_s_p_all c_s_p_turns)[12]? = some (.inl (0, 120, .inl (c_s_codes 1))) := rfl
theorem hWS_13 {c_all : Int32} {c_mass : (Nat → Nat → Int32)} {c_s_fields : Int32} {c_s_ties : Int32} {c_s_worth : (Nat → Int32)} {c_s_forces : (Nat → Int32)} {c_s_many : (Nat → Int32)} {c_s_codes : (Nat → Nat → Int32)} {c_s_b_list : (Nat → Nat → Int32)} {c_s_b_many : (Nat → Int32)} {c_s_p_list : (Nat → Nat → Int32)} {c_s_p_weights : (Nat → Nat → Int32)} {c_s_p_drawn : (Nat → Nat → Int32)} {c_s_p_many : (Nat → Int32)} {c_s_p_all : (Nat → Int32)} {c_s_p_turns : (Nat → Int32)} : (hWS c_all c_mass c_s_fields c_s_ties c_s_worth c_s_forces c_s_many c_s_codes c_s_b_list c_s_b_many c_s_p_list c_s_p_weights c_s_p_drawn c_s_p_many c_s_p_all c_s_p_turns)[13]? = some (.inl (4, 2, .inr (.inr [14, 16]))) := rfl
theorem hWS_14 {c_all : Int32} {c_mass : (Nat → Nat → Int32)} {c_s_fields : Int32} {c_s_ties : Int32} {c_s_worth : (Nat → Int32)} {c_s_forces : (Nat → Int32)} {c_s_many : (Nat → Int32)} {c_s_codes : (Nat → Nat → Int32)} {c_s_b_list : (Nat → Nat → Int32)} {c_s_b_many : (Nat → Int32)} {c_s_p_list : (Nat → Nat → Int32)} {c_s_p_weights : (Nat → Nat → Int32)} {c_s_p_drawn : (Nat → Nat → Int32)} {c_s_p_many : (Nat → Int32)} {c_s_p_all : (Nat → Int32)} {c_s_p_turns : (Nat → Int32)} : (hWS c_all c_mass c_s_fields c_s_ties c_s_worth c_s_forces c_s_many c_s_codes c_s_b_list c_s_b_many c_s_p_list c_s_p_weights c_s_p_drawn c_s_p_many c_s_p_all c_s_p_turns)[14]? = some (.inr (0, [.ref 15, .int (c_s_b_many 0)])) := rfl
theorem hWS_15 {c_all : Int32} {c_mass : (Nat → Nat → Int32)} {c_s_fields : Int32} {c_s_ties : Int32} {c_s_worth : (Nat → Int32)} {c_s_forces : (Nat → Int32)} {c_s_many : (Nat → Int32)} {c_s_codes : (Nat → Nat → Int32)} {c_s_b_list : (Nat → Nat → Int32)} {c_s_b_many : (Nat → Int32)} {c_s_p_list : (Nat → Nat → Int32)} {c_s_p_weights : (Nat → Nat → Int32)} {c_s_p_drawn : (Nat → Nat → Int32)} {c_s_p_many : (Nat → Int32)} {c_s_p_all : (Nat → Int32)} {c_s_p_turns : (Nat → Int32)} : (hWS c_all c_mass c_s_fields c_s_ties c_s_worth c_s_forces c_s_many c_s_codes c_s_b_list c_s_b_many c_s_p_list c_s_p_weights c_s_p_drawn c_s_p_many c_s_p_all c_s_p_turns)[15]? = some (.inl (0, 6, .inl (c_s_b_list 0))) := rfl
theorem hWS_16 {c_all : Int32} {c_mass : (Nat → Nat → Int32)} {c_s_fields : Int32} {c_s_ties : Int32} {c_s_worth : (Nat → Int32)} {c_s_forces : (Nat → Int32)} {c_s_many : (Nat → Int32)} {c_s_codes : (Nat → Nat → Int32)} {c_s_b_list : (Nat → Nat → Int32)} {c_s_b_many : (Nat → Int32)} {c_s_p_list : (Nat → Nat → Int32)} {c_s_p_weights : (Nat → Nat → Int32)} {c_s_p_drawn : (Nat → Nat → Int32)} {c_s_p_many : (Nat → Int32)} {c_s_p_all : (Nat → Int32)} {c_s_p_turns : (Nat → Int32)} : (hWS c_all c_mass c_s_fields c_s_ties c_s_worth c_s_forces c_s_many c_s_codes c_s_b_list c_s_b_many c_s_p_list c_s_p_weights c_s_p_drawn c_s_p_many c_s_p_all c_s_p_turns)[16]? = some (.inr (0, [.ref 17, .int (c_s_b_many 1)])) := rfl
theorem hWS_17 {c_all : Int32} {c_mass : (Nat → Nat → Int32)} {c_s_fields : Int32} {c_s_ties : Int32} {c_s_worth : (Nat → Int32)} {c_s_forces : (Nat → Int32)} {c_s_many : (Nat → Int32)} {c_s_codes : (Nat → Nat → Int32)} {c_s_b_list : (Nat → Nat → Int32)} {c_s_b_many : (Nat → Int32)} {c_s_p_list : (Nat → Nat → Int32)} {c_s_p_weights : (Nat → Nat → Int32)} {c_s_p_drawn : (Nat → Nat → Int32)} {c_s_p_many : (Nat → Int32)} {c_s_p_all : (Nat → Int32)} {c_s_p_turns : (Nat → Int32)} : (hWS c_all c_mass c_s_fields c_s_ties c_s_worth c_s_forces c_s_many c_s_codes c_s_b_list c_s_b_many c_s_p_list c_s_p_weights c_s_p_drawn c_s_p_many c_s_p_all c_s_p_turns)[17]? = some (.inl (0, 6, .inl (c_s_b_list 1))) := rfl
theorem hWS_18 {c_all : Int32} {c_mass : (Nat → Nat → Int32)} {c_s_fields : Int32} {c_s_ties : Int32} {c_s_worth : (Nat → Int32)} {c_s_forces : (Nat → Int32)} {c_s_many : (Nat → Int32)} {c_s_codes : (Nat → Nat → Int32)} {c_s_b_list : (Nat → Nat → Int32)} {c_s_b_many : (Nat → Int32)} {c_s_p_list : (Nat → Nat → Int32)} {c_s_p_weights : (Nat → Nat → Int32)} {c_s_p_drawn : (Nat → Nat → Int32)} {c_s_p_many : (Nat → Int32)} {c_s_p_all : (Nat → Int32)} {c_s_p_turns : (Nat → Int32)} : (hWS c_all c_mass c_s_fields c_s_ties c_s_worth c_s_forces c_s_many c_s_codes c_s_b_list c_s_b_many c_s_p_list c_s_p_weights c_s_p_drawn c_s_p_many c_s_p_all c_s_p_turns)[18]? = some (.inl (5, 2, .inr (.inr [19, 23]))) := rfl
theorem hWS_19 {c_all : Int32} {c_mass : (Nat → Nat → Int32)} {c_s_fields : Int32} {c_s_ties : Int32} {c_s_worth : (Nat → Int32)} {c_s_forces : (Nat → Int32)} {c_s_many : (Nat → Int32)} {c_s_codes : (Nat → Nat → Int32)} {c_s_b_list : (Nat → Nat → Int32)} {c_s_b_many : (Nat → Int32)} {c_s_p_list : (Nat → Nat → Int32)} {c_s_p_weights : (Nat → Nat → Int32)} {c_s_p_drawn : (Nat → Nat → Int32)} {c_s_p_many : (Nat → Int32)} {c_s_p_all : (Nat → Int32)} {c_s_p_turns : (Nat → Int32)} : (hWS c_all c_mass c_s_fields c_s_ties c_s_worth c_s_forces c_s_many c_s_codes c_s_b_list c_s_b_many c_s_p_list c_s_p_weights c_s_p_drawn c_s_p_many c_s_p_all c_s_p_turns)[19]? = some (.inr (3, [.ref 20, .ref 21, .ref 22, .int (c_s_p_many 0), .int (c_s_p_all 0), .int (c_s_p_turns 0)])) := rfl
theorem hWS_20 {c_all : Int32} {c_mass : (Nat → Nat → Int32)} {c_s_fields : Int32} {c_s_ties : Int32} {c_s_worth : (Nat → Int32)} {c_s_forces : (Nat → Int32)} {c_s_many : (Nat → Int32)} {c_s_codes : (Nat → Nat → Int32)} {c_s_b_list : (Nat → Nat → Int32)} {c_s_b_many : (Nat → Int32)} {c_s_p_list : (Nat → Nat → Int32)} {c_s_p_weights : (Nat → Nat → Int32)} {c_s_p_drawn : (Nat → Nat → Int32)} {c_s_p_many : (Nat → Int32)} {c_s_p_all : (Nat → Int32)} {c_s_p_turns : (Nat → Int32)} : (hWS c_all c_mass c_s_fields c_s_ties c_s_worth c_s_forces c_s_many c_s_codes c_s_b_list c_s_b_many c_s_p_list c_s_p_weights c_s_p_drawn c_s_p_many c_s_p_all c_s_p_turns)[20]? = some (.inl (0, 8, .inl (c_s_p_list 0))) := rfl
theorem hWS_21 {c_all : Int32} {c_mass : (Nat → Nat → Int32)} {c_s_fields : Int32} {c_s_ties : Int32} {c_s_worth : (Nat → Int32)} {c_s_forces : (Nat → Int32)} {c_s_many : (Nat → Int32)} {c_s_codes : (Nat → Nat → Int32)} {c_s_b_list : (Nat → Nat → Int32)} {c_s_b_many : (Nat → Int32)} {c_s_p_list : (Nat → Nat → Int32)} {c_s_p_weights : (Nat → Nat → Int32)} {c_s_p_drawn : (Nat → Nat → Int32)} {c_s_p_many : (Nat → Int32)} {c_s_p_all : (Nat → Int32)} {c_s_p_turns : (Nat → Int32)} : (hWS c_all c_mass c_s_fields c_s_ties c_s_worth c_s_forces c_s_many c_s_codes c_s_b_list c_s_b_many c_s_p_list c_s_p_weights c_s_p_drawn c_s_p_many c_s_p_all c_s_p_turns)[21]? = some (.inl (0, 8, .inl (c_s_p_weights 0))) := rfl
theorem hWS_22 {c_all : Int32} {c_mass : (Nat → Nat → Int32)} {c_s_fields : Int32} {c_s_ties : Int32} {c_s_worth : (Nat → Int32)} {c_s_forces : (Nat → Int32)} {c_s_many : (Nat → Int32)} {c_s_codes : (Nat → Nat → Int32)} {c_s_b_list : (Nat → Nat → Int32)} {c_s_b_many : (Nat → Int32)} {c_s_p_list : (Nat → Nat → Int32)} {c_s_p_weights : (Nat → Nat → Int32)} {c_s_p_drawn : (Nat → Nat → Int32)} {c_s_p_many : (Nat → Int32)} {c_s_p_all : (Nat → Int32)} {c_s_p_turns : (Nat → Int32)} : (hWS c_all c_mass c_s_fields c_s_ties c_s_worth c_s_forces c_s_many c_s_codes c_s_b_list c_s_b_many c_s_p_list c_s_p_weights c_s_p_drawn c_s_p_many c_s_p_all c_s_p_turns)[22]? = some (.inl (0, 8, .inl (c_s_p_drawn 0))) := rfl
theorem hWS_23 {c_all : Int32} {c_mass : (Nat → Nat → Int32)} {c_s_fields : Int32} {c_s_ties : Int32} {c_s_worth : (Nat → Int32)} {c_s_forces : (Nat → Int32)} {c_s_many : (Nat → Int32)} {c_s_codes : (Nat → Nat → Int32)} {c_s_b_list : (Nat → Nat → Int32)} {c_s_b_many : (Nat → Int32)} {c_s_p_list : (Nat → Nat → Int32)} {c_s_p_weights : (Nat → Nat → Int32)} {c_s_p_drawn : (Nat → Nat → Int32)} {c_s_p_many : (Nat → Int32)} {c_s_p_all : (Nat → Int32)} {c_s_p_turns : (Nat → Int32)} : (hWS c_all c_mass c_s_fields c_s_ties c_s_worth c_s_forces c_s_many c_s_codes c_s_b_list c_s_b_many c_s_p_list c_s_p_weights c_s_p_drawn c_s_p_many c_s_p_all c_s_p_turns)[23]? = some (.inr (3, [.ref 24, .ref 25, .ref 26, .int (c_s_p_many 1), .int (c_s_p_all 1), .int (c_s_p_turns 1)])) := rfl
theorem hWS_24 {c_all : Int32} {c_mass : (Nat → Nat → Int32)} {c_s_fields : Int32} {c_s_ties : Int32} {c_s_worth : (Nat → Int32)} {c_s_forces : (Nat → Int32)} {c_s_many : (Nat → Int32)} {c_s_codes : (Nat → Nat → Int32)} {c_s_b_list : (Nat → Nat → Int32)} {c_s_b_many : (Nat → Int32)} {c_s_p_list : (Nat → Nat → Int32)} {c_s_p_weights : (Nat → Nat → Int32)} {c_s_p_drawn : (Nat → Nat → Int32)} {c_s_p_many : (Nat → Int32)} {c_s_p_all : (Nat → Int32)} {c_s_p_turns : (Nat → Int32)} : (hWS c_all c_mass c_s_fields c_s_ties c_s_worth c_s_forces c_s_many c_s_codes c_s_b_list c_s_b_many c_s_p_list c_s_p_weights c_s_p_drawn c_s_p_many c_s_p_all c_s_p_turns)[24]? = some (.inl (0, 8, .inl (c_s_p_list 1))) := rfl
theorem hWS_25 {c_all : Int32} {c_mass : (Nat → Nat → Int32)} {c_s_fields : Int32} {c_s_ties : Int32} {c_s_worth : (Nat → Int32)} {c_s_forces : (Nat → Int32)} {c_s_many : (Nat → Int32)} {c_s_codes : (Nat → Nat → Int32)} {c_s_b_list : (Nat → Nat → Int32)} {c_s_b_many : (Nat → Int32)} {c_s_p_list : (Nat → Nat → Int32)} {c_s_p_weights : (Nat → Nat → Int32)} {c_s_p_drawn : (Nat → Nat → Int32)} {c_s_p_many : (Nat → Int32)} {c_s_p_all : (Nat → Int32)} {c_s_p_turns : (Nat → Int32)} : (hWS c_all c_mass c_s_fields c_s_ties c_s_worth c_s_forces c_s_many c_s_codes c_s_b_list c_s_b_many c_s_p_list c_s_p_weights c_s_p_drawn c_s_p_many c_s_p_all c_s_p_turns)[25]? = some (.inl (0, 8, .inl (c_s_p_weights 1))) := rfl
theorem hWS_26 {c_all : Int32} {c_mass : (Nat → Nat → Int32)} {c_s_fields : Int32} {c_s_ties : Int32} {c_s_worth : (Nat → Int32)} {c_s_forces : (Nat → Int32)} {c_s_many : (Nat → Int32)} {c_s_codes : (Nat → Nat → Int32)} {c_s_b_list : (Nat → Nat → Int32)} {c_s_b_many : (Nat → Int32)} {c_s_p_list : (Nat → Nat → Int32)} {c_s_p_weights : (Nat → Nat → Int32)} {c_s_p_drawn : (Nat → Nat → Int32)} {c_s_p_many : (Nat → Int32)} {c_s_p_all : (Nat → Int32)} {c_s_p_turns : (Nat → Int32)} : (hWS c_all c_mass c_s_fields c_s_ties c_s_worth c_s_forces c_s_many c_s_codes c_s_b_list c_s_b_many c_s_p_list c_s_p_weights c_s_p_drawn c_s_p_many c_s_p_all c_s_p_turns)[26]? = some (.inl (0, 8, .inl (c_s_p_drawn 1))) := rfl
theorem f6_16 : xFl RX6 16 6 1 := ⟨_, rfl, by decide, List.mem_of_getElem? (i := 1079) (by decide +kernel)⟩
theorem nf6_1 : ∀ q : vw_C, vwCl[6]? = some q → (q.2.1 1).2.2.2 = false := fun q e => by cases e; rfl
theorem f6_11 : xFl RX6 11 6 0 := ⟨_, rfl, by decide, List.mem_of_getElem? (i := 107) (by decide +kernel)⟩
theorem dX6_clear_0 : decode cX6_clear 0 = .ok (.aload_n 0, 1) := by decide +kernel
theorem dX6_clear_1 : decode cX6_clear 1 = .ok (.iconst 0, 1) := by decide +kernel
theorem dX6_clear_2 : decode cX6_clear 2 = .ok (.putfield 16, 3) := by decide +kernel
theorem dX6_clear_5 : decode cX6_clear 5 = .ok (.iconst 0, 1) := by decide +kernel
theorem dX6_clear_6 : decode cX6_clear 6 = .ok (.istore_n 1, 1) := by decide +kernel
theorem dX6_clear_7 : decode cX6_clear 7 = .ok (.iload_n 1, 1) := by decide +kernel
theorem dX6_clear_8 : decode cX6_clear 8 = .ok (.iconst 4, 1) := by decide +kernel
theorem dX6_clear_9 : decode cX6_clear 9 = .ok (.if_icmp .ge 32, 3) := by decide +kernel
theorem dX6_clear_12 : decode cX6_clear 12 = .ok (.iconst 0, 1) := by decide +kernel
theorem dX6_clear_13 : decode cX6_clear 13 = .ok (.istore_n 2, 1) := by decide +kernel
theorem dX6_clear_14 : decode cX6_clear 14 = .ok (.iload_n 2, 1) := by decide +kernel
theorem dX6_clear_15 : decode cX6_clear 15 = .ok (.bipush 7, 2) := by decide +kernel
theorem dX6_clear_17 : decode cX6_clear 17 = .ok (.if_icmp .gt 18, 3) := by decide +kernel
theorem dX6_clear_20 : decode cX6_clear 20 = .ok (.aload_n 0, 1) := by decide +kernel
theorem dX6_clear_21 : decode cX6_clear 21 = .ok (.getfield 11, 3) := by decide +kernel
theorem dX6_clear_24 : decode cX6_clear 24 = .ok (.iload_n 1, 1) := by decide +kernel
theorem dX6_clear_25 : decode cX6_clear 25 = .ok (.aaload, 1) := by decide +kernel
theorem dX6_clear_26 : decode cX6_clear 26 = .ok (.iload_n 2, 1) := by decide +kernel
theorem dX6_clear_27 : decode cX6_clear 27 = .ok (.iconst 0, 1) := by decide +kernel
theorem dX6_clear_28 : decode cX6_clear 28 = .ok (.iastore, 1) := by decide +kernel
theorem dX6_clear_29 : decode cX6_clear 29 = .ok (.iinc 2 1, 3) := by decide +kernel
theorem dX6_clear_32 : decode cX6_clear 32 = .ok (.goto (-18), 3) := by decide +kernel
theorem dX6_clear_35 : decode cX6_clear 35 = .ok (.iinc 1 1, 3) := by decide +kernel
theorem dX6_clear_38 : decode cX6_clear 38 = .ok (.goto (-31), 3) := by decide +kernel
theorem dX6_clear_41 : decode cX6_clear 41 = .ok (.return_, 1) := by decide +kernel
abbrev j6_clear : xJ := (cX6_clear, 3, RX6, 1, 0, 0)
def F6_clear_b35 (z : Nat) (x1 : Int32) (c_all : Int32) (c_mass : (Nat → Nat → Int32)) (k7 : Int32 → Int32 → (Nat → Nat → Int32) → Option (Int32 × (Nat → Nat → Int32))) : Option (Int32 × (Nat → Nat → Int32)) :=
  k7 (x1 + (1 : Int32)) c_all c_mass
theorem T6_clear_b35 {X : xX}  {x1 : Int32} {c_all : Int32} {c_mass : (Nat → Nat → Int32)} {z : Nat} {v : Int32 × (Nat → Nat → Int32)} {k7 : Int32 → Int32 → (Nat → Nat → Int32) → Option (Int32 × (Nat → Nat → Int32))} (hX : xIs (j6_clear) X none none (hSp v.1 v.2)) (hk7 : ∀ {x1 : Int32} {c_all : Int32} {c_mass : (Nat → Nat → Int32)}, k7 x1 c_all c_mass = some v → xV (j6_clear) X 0 0 (hSp c_all c_mass) 7 [(0, .ref 0), (1, .int x1)] []) (hf : F6_clear_b35 z x1 c_all c_mass k7 = some v) : xV (j6_clear) X 0 0 (hSp c_all c_mass) 35 [(0, .ref 0), (1, .int x1)] [] := by
  unfold F6_clear_b35 at hf
  refine xV_iinc (L' := [(1, .int (x1 + (1 : Int32))), (0, .ref 0)]) 38 rfl dX6_clear_35 1 rfl (xk_inc xy_i1) (xlt rfl) rfl ?_
  refine xV_goto (tgt := 7) dX6_clear_38 (by decide) ?_
  refine xV_sub [1, 0] rfl ?_
  exact hk7 hf
def F6_clear_b14 (z : Nat) (w : Nat) (x1 : Int32) (x2 : Int32) (c_all : Int32) (c_mass : (Nat → Nat → Int32)) (k7 : Int32 → Int32 → (Nat → Nat → Int32) → Option (Int32 × (Nat → Nat → Int32))) : Option (Int32 × (Nat → Nat → Int32)) := match w with
  | 0 => none
  | w + 1 => if (7 : Int32) < x2 then (F6_clear_b35 z x1 c_all c_mass k7) else (xg (xin x1 4) (xg (xin x2 8) (F6_clear_b14 z w x1 (x2 + (1 : Int32)) c_all (va_up c_mass (xn x1) (upd (c_mass (xn x1)) (xn x2) (0 : Int32))) k7)))
theorem T6_clear_b14 {X : xX}  {z : Nat} {v : Int32 × (Nat → Nat → Int32)} {k7 : Int32 → Int32 → (Nat → Nat → Int32) → Option (Int32 × (Nat → Nat → Int32))} (hX : xIs (j6_clear) X none none (hSp v.1 v.2)) (hk7 : ∀ {x1 : Int32} {c_all : Int32} {c_mass : (Nat → Nat → Int32)}, k7 x1 c_all c_mass = some v → xV (j6_clear) X 0 0 (hSp c_all c_mass) 7 [(0, .ref 0), (1, .int x1)] []) : ∀ (w : Nat) {x1 : Int32} {x2 : Int32} {c_all : Int32} {c_mass : (Nat → Nat → Int32)}, F6_clear_b14 z w x1 x2 c_all c_mass k7 = some v → xV (j6_clear) X 0 0 (hSp c_all c_mass) 14 [(0, .ref 0), (1, .int x1), (2, .int x2)] [] := by
  intro w
  induction w with
  | zero => intro x1 x2 c_all c_mass hf; cases hf
  | succ w ih =>
    intro x1 x2 c_all c_mass hf
    unfold F6_clear_b14 at hf
    refine xV_iload_n 15 rfl dX6_clear_14 rfl 2 rfl ?_
    refine xV_bipush 17 rfl dX6_clear_15 xy_b7 ?_
    refine xV_icmp_gt (tgt := 35) 20 rfl dX6_clear_17 (by decide) (fun h17 => ?_) (fun h17 => ?_)
    · have hf := xif_t hf h17
      refine xV_sub [0, 1] rfl ?_
      exact T6_clear_b35 hX hk7 hf
    · have hf := xif_f hf h17
      refine xV_aload_n 21 rfl dX6_clear_20 rfl 0 rfl ?_
      refine xV_get (v := .ref 1) 24 rfl dX6_clear_21 f6_11 rfl rfl ?_
      refine xV_iload_n 25 rfl dX6_clear_24 rfl 1 rfl ?_
      obtain ⟨hg25, hf⟩ := xg_s hf
      refine xV_aaload (b := (2 + (xn x1))) 26 rfl dX6_clear_25 rfl rfl rfl (xin_ok hg25) (by show ([2, 3, 4, 5] : List Nat)[(xn x1)]? = some (2 + (xn x1)); have hi := xin_lt hg25; generalize (xn x1) = i at hi ⊢; match i, hi with | 0, _ => rfl | 1, _ => rfl | 2, _ => rfl | 3, _ => rfl) ?_
      refine xV_iload_n 27 rfl dX6_clear_26 rfl 2 rfl ?_
      refine xV_iconst 28 rfl dX6_clear_27 xy_i0 ?_
      obtain ⟨hg28, hf⟩ := xg_s hf
      refine xV_iastore (f := (c_mass (xn x1))) (z := 8) (h' := (hSp c_all (va_up c_mass (xn x1) (upd (c_mass (xn x1)) (xn x2) (0 : Int32))))) (j := (xn x2)) 29 rfl dX6_clear_28 (by have hi := (xin_lt hg25); generalize (xn x1) = i at hi ⊢; match i, hi with | 0, _ => exact rfl | 1, _ => exact rfl | 2, _ => exact rfl | 3, _ => exact rfl) (xin_ok hg28) rfl (by have hi := (xin_lt hg25); generalize (xn x1) = i at hi ⊢; match i, hi with | 0, _ => exact rfl | 1, _ => exact rfl | 2, _ => exact rfl | 3, _ => exact rfl) ?_
      refine xV_iinc (L' := [(2, .int (x2 + (1 : Int32))), (0, .ref 0), (1, .int x1)]) 32 rfl dX6_clear_29 2 rfl (xk_inc xy_i1) (xlt rfl) rfl ?_
      refine xV_goto (tgt := 14) dX6_clear_32 (by decide) ?_
      refine xV_sub [1, 2, 0] rfl ?_
      exact ih hf
def F6_clear_b7 (z : Nat) (w : Nat) (x1 : Int32) (c_all : Int32) (c_mass : (Nat → Nat → Int32)) : Option (Int32 × (Nat → Nat → Int32)) := match w with
  | 0 => none
  | w + 1 => if (4 : Int32) ≤ x1 then (some (c_all, c_mass)) else (F6_clear_b14 z z x1 (0 : Int32) c_all c_mass (fun q0 q1 q2 => F6_clear_b7 z w q0 q1 q2))
theorem T6_clear_b7 {X : xX}  {z : Nat} {v : Int32 × (Nat → Nat → Int32)} (hX : xIs (j6_clear) X none none (hSp v.1 v.2)) : ∀ (w : Nat) {x1 : Int32} {c_all : Int32} {c_mass : (Nat → Nat → Int32)}, F6_clear_b7 z w x1 c_all c_mass = some v → xV (j6_clear) X 0 0 (hSp c_all c_mass) 7 [(0, .ref 0), (1, .int x1)] [] := by
  intro w
  induction w with
  | zero => intro x1 c_all c_mass hf; cases hf
  | succ w ih =>
    intro x1 c_all c_mass hf
    unfold F6_clear_b7 at hf
    refine xV_iload_n 8 rfl dX6_clear_7 rfl 1 rfl ?_
    refine xV_iconst 9 rfl dX6_clear_8 xy_i4 ?_
    refine xV_icmp_ge (tgt := 41) 12 rfl dX6_clear_9 (by decide) (fun h9 => ?_) (fun h9 => ?_)
    · have hf := xif_t hf h9
      obtain rfl := Option.some.inj hf
      exact xV_vret hX dX6_clear_41 (Nat.zero_le _) (Nat.zero_le _)
    · have hf := xif_f hf h9
      refine xV_iconst 13 rfl dX6_clear_12 xy_i0 ?_
      refine xV_istore_n (L' := [(2, .int (0 : Int32)), (0, .ref 0), (1, .int x1)]) 14 rfl dX6_clear_13 rfl (xlt rfl) rfl ?_
      refine xV_sub [1, 2, 0] rfl ?_
      exact T6_clear_b14 hX (fun {_ _ _} hq => ih hq) _ hf
def F6_clear (z : Nat) (c_all : Int32) (c_mass : (Nat → Nat → Int32)) : Option (Int32 × (Nat → Nat → Int32)) :=
  F6_clear_b7 z z (0 : Int32) (0 : Int32) c_mass
theorem T6_clear {X : xX} {z : Nat} {c_all : Int32} {c_mass : (Nat → Nat → Int32)}  {v : Int32 × (Nat → Nat → Int32)} (hX : xIs (j6_clear) X none none (hSp v.1 v.2)) (hf : F6_clear z c_all c_mass = some v) : xV (j6_clear) X 0 0 (hSp c_all c_mass) 0 [(0, .ref 0)] [] := by
  unfold F6_clear at hf
  refine xV_aload_n 1 rfl dX6_clear_0 rfl 0 rfl ?_
  refine xV_iconst 2 rfl dX6_clear_1 xy_i0 ?_
  refine xV_put (h' := (hSp (0 : Int32) c_mass)) 5 rfl dX6_clear_2 f6_16 rfl nf6_1 (fun _ => rfl) (fun _ => rfl) (Nat.le_of_ble_eq_true rfl) rfl ?_
  refine xV_iconst 6 rfl dX6_clear_5 xy_i0 ?_
  refine xV_istore_n (L' := [(1, .int (0 : Int32)), (0, .ref 0)]) 7 rfl dX6_clear_6 rfl (xlt rfl) rfl ?_
  refine xV_sub [1, 0] rfl ?_
  exact T6_clear_b7 hX _ hf
theorem C6_clear (l : Launch) {z : Nat} {c_all : Int32} {c_mass : (Nat → Nat → Int32)}  {v : Int32 × (Nat → Nat → Int32)} (hf : F6_clear z c_all c_mass = some v) : xCt l yX6_clear none j6_clear [.ref 0] (hSp c_all c_mass) none (hSp v.1 v.2) := xCt_of (by decide) rfl (Nat.le_of_ble_eq_true rfl) (fun _ hX => T6_clear hX hf)
theorem m6_clear : xMd yX6_clear RX6 none j6_clear 0 := ⟨List.mem_of_getElem? (i := 1078) (by decide +kernel), List.mem_of_getElem? (i := 33) (by decide +kernel), rfl, by decide +kernel⟩
theorem v6_clear : xMv yX6_clear RX6 := ⟨List.mem_of_getElem? (i := 1076) (by decide +kernel), List.mem_of_getElem? (i := 1077) (by decide +kernel)⟩
theorem f6_20 : xFl RX6 20 4 0 := ⟨_, rfl, by decide, List.mem_of_getElem? (i := 1084) (by decide +kernel)⟩
theorem k6_25 : Cond.methodLink RX6 25 yX4_digit ∈ wsL_law0 := List.mem_of_getElem? (i := 1085) (by decide +kernel)
theorem e_WS_S_L6 {c_all : Int32} {c_mass : (Nat → Nat → Int32)} {c_s_fields : Int32} {c_s_ties : Int32} {c_s_worth : (Nat → Int32)} {c_s_forces : (Nat → Int32)} {c_s_many : (Nat → Int32)} {c_s_codes : (Nat → Nat → Int32)} {c_s_b_list : (Nat → Nat → Int32)} {c_s_b_many : (Nat → Int32)} {c_s_p_list : (Nat → Nat → Int32)} {c_s_p_weights : (Nat → Nat → Int32)} {c_s_p_drawn : (Nat → Nat → Int32)} {c_s_p_many : (Nat → Int32)} {c_s_p_all : (Nat → Int32)} {c_s_p_turns : (Nat → Int32)} {d_fields : Int32} {d_ties : Int32} {d_worth : (Nat → Int32)} {d_forces : (Nat → Int32)} {d_many : (Nat → Int32)} {d_codes : (Nat → Nat → Int32)} {d_b_list : (Nat → Nat → Int32)} {d_b_many : (Nat → Int32)} {d_p_list : (Nat → Nat → Int32)} {d_p_weights : (Nat → Nat → Int32)} {d_p_drawn : (Nat → Nat → Int32)} {d_p_many : (Nat → Int32)} {d_p_all : (Nat → Int32)} {d_p_turns : (Nat → Int32)} : xEmb (fun j => 6 + j) (hS c_s_fields c_s_ties c_s_worth c_s_forces c_s_many c_s_codes c_s_b_list c_s_b_many c_s_p_list c_s_p_weights c_s_p_drawn c_s_p_many c_s_p_all c_s_p_turns) (hS d_fields d_ties d_worth d_forces d_many d_codes d_b_list d_b_many d_p_list d_p_weights d_p_drawn d_p_many d_p_all d_p_turns) (hWS c_all c_mass c_s_fields c_s_ties c_s_worth c_s_forces c_s_many c_s_codes c_s_b_list c_s_b_many c_s_p_list c_s_p_weights c_s_p_drawn c_s_p_many c_s_p_all c_s_p_turns) (hWS c_all c_mass d_fields d_ties d_worth d_forces d_many d_codes d_b_list d_b_many d_p_list d_p_weights d_p_drawn d_p_many d_p_all d_p_turns) 4 := ⟨by show xNd _ 21 = true; decide +kernel, And.intro hWS_6 (And.intro hWS_7 (And.intro hWS_8 (And.intro hWS_9 (And.intro hWS_10 (And.intro hWS_11 (And.intro hWS_12 (And.intro hWS_13 (And.intro hWS_14 (And.intro hWS_15 (And.intro hWS_16 (And.intro hWS_17 (And.intro hWS_18 (And.intro hWS_19 (And.intro hWS_20 (And.intro hWS_21 (And.intro hWS_22 (And.intro hWS_23 (And.intro hWS_24 (And.intro hWS_25 (And.intro hWS_26 (trivial))))))))))))))))))))), And.intro hWS_6 (And.intro hWS_7 (And.intro hWS_8 (And.intro hWS_9 (And.intro hWS_10 (And.intro hWS_11 (And.intro hWS_12 (And.intro hWS_13 (And.intro hWS_14 (And.intro hWS_15 (And.intro hWS_16 (And.intro hWS_17 (And.intro hWS_18 (And.intro hWS_19 (And.intro hWS_20 (And.intro hWS_21 (And.intro hWS_22 (And.intro hWS_23 (And.intro hWS_24 (And.intro hWS_25 (And.intro hWS_26 (trivial))))))))))))))))))))), ⟨[0, 1, 2, 3, 4, 5], And.intro (xeq3 hWS_0 hWS_0 rfl) (And.intro (xeq3 hWS_1 hWS_1 rfl) (And.intro (xeq3 hWS_2 hWS_2 rfl) (And.intro (xeq3 hWS_3 hWS_3 rfl) (And.intro (xeq3 hWS_4 hWS_4 rfl) (And.intro (xeq3 hWS_5 hWS_5 rfl) (trivial)))))), by show xCov _ 21 _ 27 = true; decide +kernel⟩, rfl, ⟨_, hWS_6⟩⟩
theorem dX6_lay_0 : decode cX6_lay 0 = .ok (.aload_n 0, 1) := by decide +kernel
theorem dX6_lay_1 : decode cX6_lay 1 = .ok (.dup, 1) := by decide +kernel
theorem dX6_lay_2 : decode cX6_lay 2 = .ok (.getfield 16, 3) := by decide +kernel
theorem dX6_lay_5 : decode cX6_lay 5 = .ok (.iload_n 3, 1) := by decide +kernel
theorem dX6_lay_6 : decode cX6_lay 6 = .ok (.iadd, 1) := by decide +kernel
theorem dX6_lay_7 : decode cX6_lay 7 = .ok (.putfield 16, 3) := by decide +kernel
theorem dX6_lay_10 : decode cX6_lay 10 = .ok (.iconst 0, 1) := by decide +kernel
theorem dX6_lay_11 : decode cX6_lay 11 = .ok (.istore 4, 2) := by decide +kernel
theorem dX6_lay_13 : decode cX6_lay 13 = .ok (.iload 4, 2) := by decide +kernel
theorem dX6_lay_15 : decode cX6_lay 15 = .ok (.aload_n 1, 1) := by decide +kernel
theorem dX6_lay_16 : decode cX6_lay 16 = .ok (.getfield 20, 3) := by decide +kernel
theorem dX6_lay_19 : decode cX6_lay 19 = .ok (.if_icmp .ge 28, 3) := by decide +kernel
theorem dX6_lay_22 : decode cX6_lay 22 = .ok (.aload_n 0, 1) := by decide +kernel
theorem dX6_lay_23 : decode cX6_lay 23 = .ok (.getfield 11, 3) := by decide +kernel
theorem dX6_lay_26 : decode cX6_lay 26 = .ok (.iload 4, 2) := by decide +kernel
theorem dX6_lay_28 : decode cX6_lay 28 = .ok (.aaload, 1) := by decide +kernel
theorem dX6_lay_29 : decode cX6_lay 29 = .ok (.aload_n 1, 1) := by decide +kernel
theorem dX6_lay_30 : decode cX6_lay 30 = .ok (.iload_n 2, 1) := by decide +kernel
theorem dX6_lay_31 : decode cX6_lay 31 = .ok (.iload 4, 2) := by decide +kernel
theorem dX6_lay_33 : decode cX6_lay 33 = .ok (.invokevirtual 25, 3) := by decide +kernel
theorem dX6_lay_36 : decode cX6_lay 36 = .ok (.dup2, 1) := by decide +kernel
theorem dX6_lay_37 : decode cX6_lay 37 = .ok (.iaload, 1) := by decide +kernel
theorem dX6_lay_38 : decode cX6_lay 38 = .ok (.iload_n 3, 1) := by decide +kernel
theorem dX6_lay_39 : decode cX6_lay 39 = .ok (.iadd, 1) := by decide +kernel
theorem dX6_lay_40 : decode cX6_lay 40 = .ok (.iastore, 1) := by decide +kernel
theorem dX6_lay_41 : decode cX6_lay 41 = .ok (.iinc 4 1, 3) := by decide +kernel
theorem dX6_lay_44 : decode cX6_lay 44 = .ok (.goto (-31), 3) := by decide +kernel
theorem dX6_lay_47 : decode cX6_lay 47 = .ok (.return_, 1) := by decide +kernel
abbrev j6_lay : xJ := (cX6_lay, 5, RX6, 2, 0, 0)
def F6_lay_b13 (z : Nat) (w : Nat) (x2 : Int32) (x3 : Int32) (x4 : Int32) (c_all : Int32) (c_mass : (Nat → Nat → Int32)) (c_s_fields : Int32) : Option (Int32 × (Nat → Nat → Int32)) := match w with
  | 0 => none
  | w + 1 => if c_s_fields ≤ x4 then (some (c_all, c_mass)) else (xg (xin x4 4) ((F4_digit x2 x4 c_s_fields).bind (fun v33 => xg (xin v33 8) (xg (xin v33 8) (F6_lay_b13 z w x2 x3 (x4 + (1 : Int32)) c_all (va_up c_mass (xn x4) (upd (c_mass (xn x4)) (xn v33) (((c_mass (xn x4)) (xn v33)) + x3))) c_s_fields)))))
theorem T6_lay_b13 {X : xX} {c_s_fields : Int32} {c_s_ties : Int32} {c_s_worth : (Nat → Int32)} {c_s_forces : (Nat → Int32)} {c_s_many : (Nat → Int32)} {c_s_codes : (Nat → Nat → Int32)} {c_s_b_list : (Nat → Nat → Int32)} {c_s_b_many : (Nat → Int32)} {c_s_p_list : (Nat → Nat → Int32)} {c_s_p_weights : (Nat → Nat → Int32)} {c_s_p_drawn : (Nat → Nat → Int32)} {c_s_p_many : (Nat → Int32)} {c_s_p_all : (Nat → Int32)} {c_s_p_turns : (Nat → Int32)} {z : Nat} {v : Int32 × (Nat → Nat → Int32)} (hX : xIs (j6_lay) X none none (hWS v.1 v.2 c_s_fields c_s_ties c_s_worth c_s_forces c_s_many c_s_codes c_s_b_list c_s_b_many c_s_p_list c_s_p_weights c_s_p_drawn c_s_p_many c_s_p_all c_s_p_turns)) : ∀ (w : Nat) {x2 : Int32} {x3 : Int32} {x4 : Int32} {c_all : Int32} {c_mass : (Nat → Nat → Int32)}, F6_lay_b13 z w x2 x3 x4 c_all c_mass c_s_fields = some v → xV (j6_lay) X 0 0 (hWS c_all c_mass c_s_fields c_s_ties c_s_worth c_s_forces c_s_many c_s_codes c_s_b_list c_s_b_many c_s_p_list c_s_p_weights c_s_p_drawn c_s_p_many c_s_p_all c_s_p_turns) 13 [(0, .ref 0), (1, .ref 6), (2, .int x2), (3, .int x3), (4, .int x4)] [] := by
  intro w
  induction w with
  | zero => intro x2 x3 x4 c_all c_mass hf; cases hf
  | succ w ih =>
    intro x2 x3 x4 c_all c_mass hf
    unfold F6_lay_b13 at hf
    refine xV_iload 15 rfl dX6_lay_13 4 rfl ?_
    refine xV_aload_n 16 rfl dX6_lay_15 rfl 1 rfl ?_
    refine xV_get (v := .int c_s_fields) 19 rfl dX6_lay_16 f6_20 rfl rfl ?_
    refine xV_icmp_ge (tgt := 47) 22 rfl dX6_lay_19 (by decide) (fun h19 => ?_) (fun h19 => ?_)
    · have hf := xif_t hf h19
      obtain rfl := Option.some.inj hf
      exact xV_vret hX dX6_lay_47 (Nat.zero_le _) (Nat.zero_le _)
    · have hf := xif_f hf h19
      refine xV_aload_n 23 rfl dX6_lay_22 rfl 0 rfl ?_
      refine xV_get (v := .ref 1) 26 rfl dX6_lay_23 f6_11 rfl rfl ?_
      refine xV_iload 28 rfl dX6_lay_26 4 rfl ?_
      obtain ⟨hg28, hf⟩ := xg_s hf
      refine xV_aaload (b := (2 + (xn x4))) 29 rfl dX6_lay_28 rfl rfl rfl (xin_ok hg28) (by show ([2, 3, 4, 5] : List Nat)[(xn x4)]? = some (2 + (xn x4)); have hi := xin_lt hg28; generalize (xn x4) = i at hi ⊢; match i, hi with | 0, _ => rfl | 1, _ => rfl | 2, _ => rfl | 3, _ => rfl) ?_
      refine xV_aload_n 30 rfl dX6_lay_29 rfl 1 rfl ?_
      refine xV_iload_n 31 rfl dX6_lay_30 rfl 2 rfl ?_
      refine xV_iload 33 rfl dX6_lay_31 4 rfl ?_
      obtain ⟨v33, hv33, hf⟩ := xb_s hf
      refine xV_vir2 (g := (fun j => 6 + j)) (hl := (hS c_s_fields c_s_ties c_s_worth c_s_forces c_s_many c_s_codes c_s_b_list c_s_b_many c_s_p_list c_s_p_weights c_s_p_drawn c_s_p_many c_s_p_all c_s_p_turns)) (hl' := (hS c_s_fields c_s_ties c_s_worth c_s_forces c_s_many c_s_codes c_s_b_list c_s_b_many c_s_p_list c_s_p_weights c_s_p_drawn c_s_p_many c_s_p_all c_s_p_turns)) (h' := (hWS c_all c_mass c_s_fields c_s_ties c_s_worth c_s_forces c_s_many c_s_codes c_s_b_list c_s_b_many c_s_p_list c_s_p_weights c_s_p_drawn c_s_p_many c_s_p_all c_s_p_turns)) (rest := [.ref (2 + (xn x4))]) (ci := 4) 36 rfl dX6_lay_33 rfl (C4_digit X.1.2.1 hv33) m4_digit v4_digit k6_25 rfl rfl rfl (e_WS_S_L6) rfl (Nat.le_of_ble_eq_true rfl) (Nat.le_of_ble_eq_true rfl) (Nat.le_of_ble_eq_true rfl) ⟨Nat.le_refl _, Nat.le_refl _⟩ ?_
      show xV (j6_lay) X 0 0 (hWS c_all c_mass c_s_fields c_s_ties c_s_worth c_s_forces c_s_many c_s_codes c_s_b_list c_s_b_many c_s_p_list c_s_p_weights c_s_p_drawn c_s_p_many c_s_p_all c_s_p_turns) 36 [(0, .ref 0), (1, .ref 6), (2, .int x2), (3, .int x3), (4, .int x4)] [.int v33, .ref (2 + (xn x4))]
      refine xV_dup2 37 rfl dX6_lay_36 rfl rfl ?_
      obtain ⟨hg37, hf⟩ := xg_s hf
      refine xV_iaload (f := (c_mass (xn x4))) (z := 8) 38 rfl dX6_lay_37 (by have hi := (xin_lt hg28); generalize (xn x4) = i at hi ⊢; match i, hi with | 0, _ => exact rfl | 1, _ => exact rfl | 2, _ => exact rfl | 3, _ => exact rfl) (xin_ok hg37) rfl ?_
      refine xV_iload_n 39 rfl dX6_lay_38 rfl 3 rfl ?_
      refine xV_iadd 40 rfl dX6_lay_39 ?_
      obtain ⟨hg40, hf⟩ := xg_s hf
      refine xV_iastore (f := (c_mass (xn x4))) (z := 8) (h' := (hWS c_all (va_up c_mass (xn x4) (upd (c_mass (xn x4)) (xn v33) (((c_mass (xn x4)) (xn v33)) + x3))) c_s_fields c_s_ties c_s_worth c_s_forces c_s_many c_s_codes c_s_b_list c_s_b_many c_s_p_list c_s_p_weights c_s_p_drawn c_s_p_many c_s_p_all c_s_p_turns)) (j := (xn v33)) 41 rfl dX6_lay_40 (by have hi := (xin_lt hg28); generalize (xn x4) = i at hi ⊢; match i, hi with | 0, _ => exact rfl | 1, _ => exact rfl | 2, _ => exact rfl | 3, _ => exact rfl) (xin_ok hg40) rfl (by have hi := (xin_lt hg28); generalize (xn x4) = i at hi ⊢; match i, hi with | 0, _ => exact rfl | 1, _ => exact rfl | 2, _ => exact rfl | 3, _ => exact rfl) ?_
      refine xV_iinc (L' := [(4, .int (x4 + (1 : Int32))), (0, .ref 0), (1, .ref 6), (2, .int x2), (3, .int x3)]) 44 rfl dX6_lay_41 4 rfl (xk_inc xy_i1) (xlt rfl) rfl ?_
      refine xV_goto (tgt := 13) dX6_lay_44 (by decide) ?_
      refine xV_sub [1, 2, 3, 4, 0] rfl ?_
      exact ih hf
def F6_lay (z : Nat) (x2 : Int32) (x3 : Int32) (c_all : Int32) (c_mass : (Nat → Nat → Int32)) (c_s_fields : Int32) : Option (Int32 × (Nat → Nat → Int32)) :=
  F6_lay_b13 z z x2 x3 (0 : Int32) (c_all + x3) c_mass c_s_fields
theorem T6_lay {X : xX} {z : Nat} {x2 : Int32} {x3 : Int32} {c_all : Int32} {c_mass : (Nat → Nat → Int32)} {c_s_fields : Int32} {c_s_ties : Int32} {c_s_worth : (Nat → Int32)} {c_s_forces : (Nat → Int32)} {c_s_many : (Nat → Int32)} {c_s_codes : (Nat → Nat → Int32)} {c_s_b_list : (Nat → Nat → Int32)} {c_s_b_many : (Nat → Int32)} {c_s_p_list : (Nat → Nat → Int32)} {c_s_p_weights : (Nat → Nat → Int32)} {c_s_p_drawn : (Nat → Nat → Int32)} {c_s_p_many : (Nat → Int32)} {c_s_p_all : (Nat → Int32)} {c_s_p_turns : (Nat → Int32)} {v : Int32 × (Nat → Nat → Int32)} (hX : xIs (j6_lay) X none none (hWS v.1 v.2 c_s_fields c_s_ties c_s_worth c_s_forces c_s_many c_s_codes c_s_b_list c_s_b_many c_s_p_list c_s_p_weights c_s_p_drawn c_s_p_many c_s_p_all c_s_p_turns)) (hf : F6_lay z x2 x3 c_all c_mass c_s_fields = some v) : xV (j6_lay) X 0 0 (hWS c_all c_mass c_s_fields c_s_ties c_s_worth c_s_forces c_s_many c_s_codes c_s_b_list c_s_b_many c_s_p_list c_s_p_weights c_s_p_drawn c_s_p_many c_s_p_all c_s_p_turns) 0 [(0, .ref 0), (1, .ref 6), (2, .int x2), (3, .int x3)] [] := by
  unfold F6_lay at hf
  refine xV_aload_n 1 rfl dX6_lay_0 rfl 0 rfl ?_
  refine xV_dup 2 rfl dX6_lay_1 rfl ?_
  refine xV_get (v := .int c_all) 5 rfl dX6_lay_2 f6_16 rfl rfl ?_
  refine xV_iload_n 6 rfl dX6_lay_5 rfl 3 rfl ?_
  refine xV_iadd 7 rfl dX6_lay_6 ?_
  refine xV_put (h' := (hWS (c_all + x3) c_mass c_s_fields c_s_ties c_s_worth c_s_forces c_s_many c_s_codes c_s_b_list c_s_b_many c_s_p_list c_s_p_weights c_s_p_drawn c_s_p_many c_s_p_all c_s_p_turns)) 10 rfl dX6_lay_7 f6_16 rfl nf6_1 (fun _ => rfl) (fun _ => rfl) (Nat.le_of_ble_eq_true rfl) rfl ?_
  refine xV_iconst 11 rfl dX6_lay_10 xy_i0 ?_
  refine xV_istore (L' := [(4, .int (0 : Int32)), (0, .ref 0), (1, .ref 6), (2, .int x2), (3, .int x3)]) 13 rfl dX6_lay_11 (xlt rfl) rfl ?_
  refine xV_sub [1, 2, 3, 4, 0] rfl ?_
  exact T6_lay_b13 hX _ hf
theorem C6_lay (l : Launch) {z : Nat} {x2 : Int32} {x3 : Int32} {c_all : Int32} {c_mass : (Nat → Nat → Int32)} {c_s_fields : Int32} {c_s_ties : Int32} {c_s_worth : (Nat → Int32)} {c_s_forces : (Nat → Int32)} {c_s_many : (Nat → Int32)} {c_s_codes : (Nat → Nat → Int32)} {c_s_b_list : (Nat → Nat → Int32)} {c_s_b_many : (Nat → Int32)} {c_s_p_list : (Nat → Nat → Int32)} {c_s_p_weights : (Nat → Nat → Int32)} {c_s_p_drawn : (Nat → Nat → Int32)} {c_s_p_many : (Nat → Int32)} {c_s_p_all : (Nat → Int32)} {c_s_p_turns : (Nat → Int32)} {v : Int32 × (Nat → Nat → Int32)} (hf : F6_lay z x2 x3 c_all c_mass c_s_fields = some v) : xCt l yX6_lay none j6_lay [.ref 0, .ref 6, .int x2, .int x3] (hWS c_all c_mass c_s_fields c_s_ties c_s_worth c_s_forces c_s_many c_s_codes c_s_b_list c_s_b_many c_s_p_list c_s_p_weights c_s_p_drawn c_s_p_many c_s_p_all c_s_p_turns) none (hWS v.1 v.2 c_s_fields c_s_ties c_s_worth c_s_forces c_s_many c_s_codes c_s_b_list c_s_b_many c_s_p_list c_s_p_weights c_s_p_drawn c_s_p_many c_s_p_all c_s_p_turns) := xCt_of (by decide) rfl (Nat.le_of_ble_eq_true rfl) (fun _ hX => T6_lay hX hf)
theorem m6_lay : xMd yX6_lay RX6 none j6_lay 3 := ⟨List.mem_of_getElem? (i := 1083) (by decide +kernel), List.mem_of_getElem? (i := 33) (by decide +kernel), rfl, by decide +kernel⟩
theorem v6_lay : xMv yX6_lay RX6 := ⟨List.mem_of_getElem? (i := 1081) (by decide +kernel), List.mem_of_getElem? (i := 1082) (by decide +kernel)⟩
theorem f6_33 : xFl RX6 33 4 2 := ⟨_, rfl, by decide, List.mem_of_getElem? (i := 1098) (by decide +kernel)⟩
theorem dX6_isFirstAlike_0 : decode cX6_isFirstAlike 0 = .ok (.iconst 0, 1) := by decide +kernel
theorem dX6_isFirstAlike_1 : decode cX6_isFirstAlike 1 = .ok (.istore_n 3, 1) := by decide +kernel
theorem dX6_isFirstAlike_2 : decode cX6_isFirstAlike 2 = .ok (.iload_n 3, 1) := by decide +kernel
theorem dX6_isFirstAlike_3 : decode cX6_isFirstAlike 3 = .ok (.iload_n 2, 1) := by decide +kernel
theorem dX6_isFirstAlike_4 : decode cX6_isFirstAlike 4 = .ok (.if_icmp .ge 26, 3) := by decide +kernel
theorem dX6_isFirstAlike_7 : decode cX6_isFirstAlike 7 = .ok (.aload_n 1, 1) := by decide +kernel
theorem dX6_isFirstAlike_8 : decode cX6_isFirstAlike 8 = .ok (.getfield 33, 3) := by decide +kernel
theorem dX6_isFirstAlike_11 : decode cX6_isFirstAlike 11 = .ok (.iload_n 3, 1) := by decide +kernel
theorem dX6_isFirstAlike_12 : decode cX6_isFirstAlike 12 = .ok (.iaload, 1) := by decide +kernel
theorem dX6_isFirstAlike_13 : decode cX6_isFirstAlike 13 = .ok (.aload_n 1, 1) := by decide +kernel
theorem dX6_isFirstAlike_14 : decode cX6_isFirstAlike 14 = .ok (.getfield 33, 3) := by decide +kernel
theorem dX6_isFirstAlike_17 : decode cX6_isFirstAlike 17 = .ok (.iload_n 2, 1) := by decide +kernel
theorem dX6_isFirstAlike_18 : decode cX6_isFirstAlike 18 = .ok (.iaload, 1) := by decide +kernel
theorem dX6_isFirstAlike_19 : decode cX6_isFirstAlike 19 = .ok (.if_icmp .ne 5, 3) := by decide +kernel
theorem dX6_isFirstAlike_22 : decode cX6_isFirstAlike 22 = .ok (.iconst 0, 1) := by decide +kernel
theorem dX6_isFirstAlike_23 : decode cX6_isFirstAlike 23 = .ok (.ireturn, 1) := by decide +kernel
theorem dX6_isFirstAlike_24 : decode cX6_isFirstAlike 24 = .ok (.iinc 3 1, 3) := by decide +kernel
theorem dX6_isFirstAlike_27 : decode cX6_isFirstAlike 27 = .ok (.goto (-25), 3) := by decide +kernel
theorem dX6_isFirstAlike_30 : decode cX6_isFirstAlike 30 = .ok (.iconst 1, 1) := by decide +kernel
theorem dX6_isFirstAlike_31 : decode cX6_isFirstAlike 31 = .ok (.ireturn, 1) := by decide +kernel
abbrev j6_isFirstAlike : xJ := (cX6_isFirstAlike, 4, RX6, 1, 0, 0)
def F6_isFirstAlike_b2 (z : Nat) (w : Nat) (x2 : Int32) (x3 : Int32) (c_s_worth : (Nat → Int32)) : Option (Int32) := match w with
  | 0 => none
  | w + 1 => if x2 ≤ x3 then (some ((1 : Int32))) else (xg (xin x3 4) (xg (xin x2 4) (if (c_s_worth (xn x3)) = (c_s_worth (xn x2)) then (some ((0 : Int32))) else (F6_isFirstAlike_b2 z w x2 (x3 + (1 : Int32)) c_s_worth))))
theorem T6_isFirstAlike_b2 {X : xX} {c_all : Int32} {c_mass : (Nat → Nat → Int32)} {c_s_fields : Int32} {c_s_ties : Int32} {c_s_worth : (Nat → Int32)} {c_s_forces : (Nat → Int32)} {c_s_many : (Nat → Int32)} {c_s_codes : (Nat → Nat → Int32)} {c_s_b_list : (Nat → Nat → Int32)} {c_s_b_many : (Nat → Int32)} {c_s_p_list : (Nat → Nat → Int32)} {c_s_p_weights : (Nat → Nat → Int32)} {c_s_p_drawn : (Nat → Nat → Int32)} {c_s_p_many : (Nat → Int32)} {c_s_p_all : (Nat → Int32)} {c_s_p_turns : (Nat → Int32)} {z : Nat} {v : Int32} (hX : xIs (j6_isFirstAlike) X ((some .boolean)) (some (.int v)) (hWS c_all c_mass c_s_fields c_s_ties c_s_worth c_s_forces c_s_many c_s_codes c_s_b_list c_s_b_many c_s_p_list c_s_p_weights c_s_p_drawn c_s_p_many c_s_p_all c_s_p_turns)) : ∀ (w : Nat) {x2 : Int32} {x3 : Int32}, F6_isFirstAlike_b2 z w x2 x3 c_s_worth = some v → xV (j6_isFirstAlike) X 0 0 (hWS c_all c_mass c_s_fields c_s_ties c_s_worth c_s_forces c_s_many c_s_codes c_s_b_list c_s_b_many c_s_p_list c_s_p_weights c_s_p_drawn c_s_p_many c_s_p_all c_s_p_turns) 2 [(1, .ref 6), (2, .int x2), (3, .int x3)] [] := by
  intro w
  induction w with
  | zero => intro x2 x3 hf; cases hf
  | succ w ih =>
    intro x2 x3 hf
    unfold F6_isFirstAlike_b2 at hf
    refine xV_iload_n 3 rfl dX6_isFirstAlike_2 rfl 2 rfl ?_
    refine xV_iload_n 4 rfl dX6_isFirstAlike_3 rfl 1 rfl ?_
    refine xV_icmp_ge (tgt := 30) 7 rfl dX6_isFirstAlike_4 (by decide) (fun h4 => ?_) (fun h4 => ?_)
    · have hf := xif_t hf h4
      refine xV_iconst 31 rfl dX6_isFirstAlike_30 xy_i1 ?_
      obtain rfl := Option.some.inj hf
      exact xV_iret hX dX6_isFirstAlike_31 (xbo_ok rfl) (Nat.zero_le _) (Nat.zero_le _)
    · have hf := xif_f hf h4
      refine xV_aload_n 8 rfl dX6_isFirstAlike_7 rfl 0 rfl ?_
      refine xV_get (v := .ref 7) 11 rfl dX6_isFirstAlike_8 f6_33 rfl rfl ?_
      refine xV_iload_n 12 rfl dX6_isFirstAlike_11 rfl 2 rfl ?_
      obtain ⟨hg12, hf⟩ := xg_s hf
      refine xV_iaload 13 rfl dX6_isFirstAlike_12 rfl (xin_ok hg12) rfl ?_
      refine xV_aload_n 14 rfl dX6_isFirstAlike_13 rfl 0 rfl ?_
      refine xV_get (v := .ref 7) 17 rfl dX6_isFirstAlike_14 f6_33 rfl rfl ?_
      refine xV_iload_n 18 rfl dX6_isFirstAlike_17 rfl 1 rfl ?_
      obtain ⟨hg18, hf⟩ := xg_s hf
      refine xV_iaload 19 rfl dX6_isFirstAlike_18 rfl (xin_ok hg18) rfl ?_
      refine xV_icmp_ne (tgt := 24) 22 rfl dX6_isFirstAlike_19 (by decide) (fun h19 => ?_) (fun h19 => ?_)
      · have hf := xif_f hf h19
        refine xV_iinc (L' := [(3, .int (x3 + (1 : Int32))), (1, .ref 6), (2, .int x2)]) 27 rfl dX6_isFirstAlike_24 2 rfl (xk_inc xy_i1) (xlt rfl) rfl ?_
        refine xV_goto (tgt := 2) dX6_isFirstAlike_27 (by decide) ?_
        refine xV_sub [1, 2, 0] rfl ?_
        exact ih hf
      · have hf := xif_t hf h19
        refine xV_iconst 23 rfl dX6_isFirstAlike_22 xy_i0 ?_
        obtain rfl := Option.some.inj hf
        exact xV_iret hX dX6_isFirstAlike_23 (xbo_ok rfl) (Nat.zero_le _) (Nat.zero_le _)
def F6_isFirstAlike (z : Nat) (x2 : Int32) (c_s_worth : (Nat → Int32)) : Option (Int32) :=
  F6_isFirstAlike_b2 z z x2 (0 : Int32) c_s_worth
theorem T6_isFirstAlike {X : xX} {z : Nat} {x2 : Int32} {c_s_worth : (Nat → Int32)} {c_all : Int32} {c_mass : (Nat → Nat → Int32)} {c_s_fields : Int32} {c_s_ties : Int32} {c_s_forces : (Nat → Int32)} {c_s_many : (Nat → Int32)} {c_s_codes : (Nat → Nat → Int32)} {c_s_b_list : (Nat → Nat → Int32)} {c_s_b_many : (Nat → Int32)} {c_s_p_list : (Nat → Nat → Int32)} {c_s_p_weights : (Nat → Nat → Int32)} {c_s_p_drawn : (Nat → Nat → Int32)} {c_s_p_many : (Nat → Int32)} {c_s_p_all : (Nat → Int32)} {c_s_p_turns : (Nat → Int32)} {v : Int32} (hX : xIs (j6_isFirstAlike) X ((some .boolean)) (some (.int v)) (hWS c_all c_mass c_s_fields c_s_ties c_s_worth c_s_forces c_s_many c_s_codes c_s_b_list c_s_b_many c_s_p_list c_s_p_weights c_s_p_drawn c_s_p_many c_s_p_all c_s_p_turns)) (hf : F6_isFirstAlike z x2 c_s_worth = some v) : xV (j6_isFirstAlike) X 0 0 (hWS c_all c_mass c_s_fields c_s_ties c_s_worth c_s_forces c_s_many c_s_codes c_s_b_list c_s_b_many c_s_p_list c_s_p_weights c_s_p_drawn c_s_p_many c_s_p_all c_s_p_turns) 0 [(0, .ref 0), (1, .ref 6), (2, .int x2)] [] := by
  unfold F6_isFirstAlike at hf
  refine xV_iconst 1 rfl dX6_isFirstAlike_0 xy_i0 ?_
  refine xV_istore_n (L' := [(3, .int (0 : Int32)), (0, .ref 0), (1, .ref 6), (2, .int x2)]) 2 rfl dX6_isFirstAlike_1 rfl (xlt rfl) rfl ?_
  refine xV_sub [2, 3, 0] rfl ?_
  exact T6_isFirstAlike_b2 hX _ hf
theorem C6_isFirstAlike (l : Launch) {z : Nat} {x2 : Int32} {c_s_worth : (Nat → Int32)} {c_all : Int32} {c_mass : (Nat → Nat → Int32)} {c_s_fields : Int32} {c_s_ties : Int32} {c_s_forces : (Nat → Int32)} {c_s_many : (Nat → Int32)} {c_s_codes : (Nat → Nat → Int32)} {c_s_b_list : (Nat → Nat → Int32)} {c_s_b_many : (Nat → Int32)} {c_s_p_list : (Nat → Nat → Int32)} {c_s_p_weights : (Nat → Nat → Int32)} {c_s_p_drawn : (Nat → Nat → Int32)} {c_s_p_many : (Nat → Int32)} {c_s_p_all : (Nat → Int32)} {c_s_p_turns : (Nat → Int32)} {v : Int32} (hf : F6_isFirstAlike z x2 c_s_worth = some v) : xCt l yX6_isFirstAlike ((some .boolean)) j6_isFirstAlike [.ref 0, .ref 6, .int x2] (hWS c_all c_mass c_s_fields c_s_ties c_s_worth c_s_forces c_s_many c_s_codes c_s_b_list c_s_b_many c_s_p_list c_s_p_weights c_s_p_drawn c_s_p_many c_s_p_all c_s_p_turns) (some (.int v)) (hWS c_all c_mass c_s_fields c_s_ties c_s_worth c_s_forces c_s_many c_s_codes c_s_b_list c_s_b_many c_s_p_list c_s_p_weights c_s_p_drawn c_s_p_many c_s_p_all c_s_p_turns) := xCt_of (by decide) rfl (Nat.le_of_ble_eq_true rfl) (fun _ hX => T6_isFirstAlike hX hf)
theorem m6_isFirstAlike : xMd yX6_isFirstAlike RX6 ((some .boolean)) j6_isFirstAlike 2 := ⟨List.mem_of_getElem? (i := 1157) (by decide +kernel), List.mem_of_getElem? (i := 33) (by decide +kernel), rfl, by decide +kernel⟩
theorem v6_isFirstAlike : xMv yX6_isFirstAlike RX6 := ⟨List.mem_of_getElem? (i := 1155) (by decide +kernel), List.mem_of_getElem? (i := 1156) (by decide +kernel)⟩
theorem xy_b12 : (Int8.ofInt (12)).toInt32 = (12 : Int32) := by decide
theorem dX6_levelAlike_0 : decode cX6_levelAlike 0 = .ok (.iconst 0, 1) := by decide +kernel
theorem dX6_levelAlike_1 : decode cX6_levelAlike 1 = .ok (.istore_n 3, 1) := by decide +kernel
theorem dX6_levelAlike_2 : decode cX6_levelAlike 2 = .ok (.iload_n 3, 1) := by decide +kernel
theorem dX6_levelAlike_3 : decode cX6_levelAlike 3 = .ok (.bipush 7, 2) := by decide +kernel
theorem dX6_levelAlike_5 : decode cX6_levelAlike 5 = .ok (.if_icmp .gt 120, 3) := by decide +kernel
theorem dX6_levelAlike_8 : decode cX6_levelAlike 8 = .ok (.iconst 0, 1) := by decide +kernel
theorem dX6_levelAlike_9 : decode cX6_levelAlike 9 = .ok (.istore 4, 2) := by decide +kernel
theorem dX6_levelAlike_11 : decode cX6_levelAlike 11 = .ok (.iconst 0, 1) := by decide +kernel
theorem dX6_levelAlike_12 : decode cX6_levelAlike 12 = .ok (.istore 5, 2) := by decide +kernel
theorem dX6_levelAlike_14 : decode cX6_levelAlike 14 = .ok (.iconst 0, 1) := by decide +kernel
theorem dX6_levelAlike_15 : decode cX6_levelAlike 15 = .ok (.istore 6, 2) := by decide +kernel
theorem dX6_levelAlike_17 : decode cX6_levelAlike 17 = .ok (.iload 6, 2) := by decide +kernel
theorem dX6_levelAlike_19 : decode cX6_levelAlike 19 = .ok (.aload_n 1, 1) := by decide +kernel
theorem dX6_levelAlike_20 : decode cX6_levelAlike 20 = .ok (.getfield 20, 3) := by decide +kernel
theorem dX6_levelAlike_23 : decode cX6_levelAlike 23 = .ok (.if_icmp .ge 37, 3) := by decide +kernel
theorem dX6_levelAlike_26 : decode cX6_levelAlike 26 = .ok (.aload_n 1, 1) := by decide +kernel
theorem dX6_levelAlike_27 : decode cX6_levelAlike 27 = .ok (.getfield 33, 3) := by decide +kernel
theorem dX6_levelAlike_30 : decode cX6_levelAlike 30 = .ok (.iload 6, 2) := by decide +kernel
theorem dX6_levelAlike_32 : decode cX6_levelAlike 32 = .ok (.iaload, 1) := by decide +kernel
theorem dX6_levelAlike_33 : decode cX6_levelAlike 33 = .ok (.iload_n 2, 1) := by decide +kernel
theorem dX6_levelAlike_34 : decode cX6_levelAlike 34 = .ok (.if_icmp .ne 20, 3) := by decide +kernel
theorem dX6_levelAlike_37 : decode cX6_levelAlike 37 = .ok (.iload 4, 2) := by decide +kernel
theorem dX6_levelAlike_39 : decode cX6_levelAlike 39 = .ok (.aload_n 0, 1) := by decide +kernel
theorem dX6_levelAlike_40 : decode cX6_levelAlike 40 = .ok (.getfield 11, 3) := by decide +kernel
theorem dX6_levelAlike_43 : decode cX6_levelAlike 43 = .ok (.iload 6, 2) := by decide +kernel
theorem dX6_levelAlike_45 : decode cX6_levelAlike 45 = .ok (.aaload, 1) := by decide +kernel
theorem dX6_levelAlike_46 : decode cX6_levelAlike 46 = .ok (.iload_n 3, 1) := by decide +kernel
theorem dX6_levelAlike_47 : decode cX6_levelAlike 47 = .ok (.iaload, 1) := by decide +kernel
theorem dX6_levelAlike_48 : decode cX6_levelAlike 48 = .ok (.iadd, 1) := by decide +kernel
theorem dX6_levelAlike_49 : decode cX6_levelAlike 49 = .ok (.istore 4, 2) := by decide +kernel
theorem dX6_levelAlike_51 : decode cX6_levelAlike 51 = .ok (.iinc 5 1, 3) := by decide +kernel
theorem dX6_levelAlike_54 : decode cX6_levelAlike 54 = .ok (.iinc 6 1, 3) := by decide +kernel
theorem dX6_levelAlike_57 : decode cX6_levelAlike 57 = .ok (.goto (-40), 3) := by decide +kernel
theorem dX6_levelAlike_60 : decode cX6_levelAlike 60 = .ok (.iload 5, 2) := by decide +kernel
theorem dX6_levelAlike_62 : decode cX6_levelAlike 62 = .ok (.ifCond .le 14, 3) := by decide +kernel
theorem dX6_levelAlike_65 : decode cX6_levelAlike 65 = .ok (.iload 4, 2) := by decide +kernel
theorem dX6_levelAlike_67 : decode cX6_levelAlike 67 = .ok (.bipush 12, 2) := by decide +kernel
theorem dX6_levelAlike_69 : decode cX6_levelAlike 69 = .ok (.imul, 1) := by decide +kernel
theorem dX6_levelAlike_70 : decode cX6_levelAlike 70 = .ok (.iload 5, 2) := by decide +kernel
theorem dX6_levelAlike_72 : decode cX6_levelAlike 72 = .ok (.idiv, 1) := by decide +kernel
theorem dX6_levelAlike_73 : decode cX6_levelAlike 73 = .ok (.goto 4, 3) := by decide +kernel
theorem dX6_levelAlike_76 : decode cX6_levelAlike 76 = .ok (.iconst 0, 1) := by decide +kernel
theorem dX6_levelAlike_77 : decode cX6_levelAlike 77 = .ok (.istore 6, 2) := by decide +kernel
theorem dX6_levelAlike_79 : decode cX6_levelAlike 79 = .ok (.iconst 0, 1) := by decide +kernel
theorem dX6_levelAlike_80 : decode cX6_levelAlike 80 = .ok (.istore 7, 2) := by decide +kernel
theorem dX6_levelAlike_82 : decode cX6_levelAlike 82 = .ok (.iload 7, 2) := by decide +kernel
theorem dX6_levelAlike_84 : decode cX6_levelAlike 84 = .ok (.aload_n 1, 1) := by decide +kernel
theorem dX6_levelAlike_85 : decode cX6_levelAlike 85 = .ok (.getfield 20, 3) := by decide +kernel
theorem dX6_levelAlike_88 : decode cX6_levelAlike 88 = .ok (.if_icmp .ge 31, 3) := by decide +kernel
theorem dX6_levelAlike_91 : decode cX6_levelAlike 91 = .ok (.aload_n 1, 1) := by decide +kernel
theorem dX6_levelAlike_92 : decode cX6_levelAlike 92 = .ok (.getfield 33, 3) := by decide +kernel
theorem dX6_levelAlike_95 : decode cX6_levelAlike 95 = .ok (.iload 7, 2) := by decide +kernel
theorem dX6_levelAlike_97 : decode cX6_levelAlike 97 = .ok (.iaload, 1) := by decide +kernel
theorem dX6_levelAlike_98 : decode cX6_levelAlike 98 = .ok (.iload_n 2, 1) := by decide +kernel
theorem dX6_levelAlike_99 : decode cX6_levelAlike 99 = .ok (.if_icmp .ne 14, 3) := by decide +kernel
theorem dX6_levelAlike_102 : decode cX6_levelAlike 102 = .ok (.aload_n 0, 1) := by decide +kernel
theorem dX6_levelAlike_103 : decode cX6_levelAlike 103 = .ok (.getfield 11, 3) := by decide +kernel
theorem dX6_levelAlike_106 : decode cX6_levelAlike 106 = .ok (.iload 7, 2) := by decide +kernel
theorem dX6_levelAlike_108 : decode cX6_levelAlike 108 = .ok (.aaload, 1) := by decide +kernel
theorem dX6_levelAlike_109 : decode cX6_levelAlike 109 = .ok (.iload_n 3, 1) := by decide +kernel
theorem dX6_levelAlike_110 : decode cX6_levelAlike 110 = .ok (.iload 6, 2) := by decide +kernel
theorem dX6_levelAlike_112 : decode cX6_levelAlike 112 = .ok (.iastore, 1) := by decide +kernel
theorem dX6_levelAlike_113 : decode cX6_levelAlike 113 = .ok (.iinc 7 1, 3) := by decide +kernel
theorem dX6_levelAlike_116 : decode cX6_levelAlike 116 = .ok (.goto (-34), 3) := by decide +kernel
theorem dX6_levelAlike_119 : decode cX6_levelAlike 119 = .ok (.iinc 3 1, 3) := by decide +kernel
theorem dX6_levelAlike_122 : decode cX6_levelAlike 122 = .ok (.goto (-120), 3) := by decide +kernel
theorem dX6_levelAlike_125 : decode cX6_levelAlike 125 = .ok (.return_, 1) := by decide +kernel
abbrev j6_levelAlike : xJ := (cX6_levelAlike, 8, RX6, 1, 0, 0)
def F6_levelAlike_b119 (z : Nat) (x2 : Int32) (x3 : Int32) (c_mass : (Nat → Nat → Int32)) (c_s_fields : Int32) (c_s_worth : (Nat → Int32)) (k2 : Int32 → Int32 → (Nat → Nat → Int32) → Int32 → (Nat → Int32) → Option ((Nat → Nat → Int32))) : Option ((Nat → Nat → Int32)) :=
  k2 x2 (x3 + (1 : Int32)) c_mass c_s_fields c_s_worth
theorem T6_levelAlike_b119 {X : xX} {c_all : Int32} {c_s_ties : Int32} {c_s_forces : (Nat → Int32)} {c_s_many : (Nat → Int32)} {c_s_codes : (Nat → Nat → Int32)} {c_s_b_list : (Nat → Nat → Int32)} {c_s_b_many : (Nat → Int32)} {c_s_p_list : (Nat → Nat → Int32)} {c_s_p_weights : (Nat → Nat → Int32)} {c_s_p_drawn : (Nat → Nat → Int32)} {c_s_p_many : (Nat → Int32)} {c_s_p_all : (Nat → Int32)} {c_s_p_turns : (Nat → Int32)} {x2 : Int32} {x3 : Int32} {c_mass : (Nat → Nat → Int32)} {c_s_fields : Int32} {c_s_worth : (Nat → Int32)} {z : Nat} {v : (Nat → Nat → Int32)} {k2 : Int32 → Int32 → (Nat → Nat → Int32) → Int32 → (Nat → Int32) → Option ((Nat → Nat → Int32))} (hX : xIs (j6_levelAlike) X none none (hWS c_all v c_s_fields c_s_ties c_s_worth c_s_forces c_s_many c_s_codes c_s_b_list c_s_b_many c_s_p_list c_s_p_weights c_s_p_drawn c_s_p_many c_s_p_all c_s_p_turns)) (hk2 : ∀ {x2 : Int32} {x3 : Int32} {c_mass : (Nat → Nat → Int32)}, k2 x2 x3 c_mass c_s_fields c_s_worth = some v → xV (j6_levelAlike) X 0 0 (hWS c_all c_mass c_s_fields c_s_ties c_s_worth c_s_forces c_s_many c_s_codes c_s_b_list c_s_b_many c_s_p_list c_s_p_weights c_s_p_drawn c_s_p_many c_s_p_all c_s_p_turns) 2 [(0, .ref 0), (1, .ref 6), (2, .int x2), (3, .int x3)] []) (hf : F6_levelAlike_b119 z x2 x3 c_mass c_s_fields c_s_worth k2 = some v) : xV (j6_levelAlike) X 0 0 (hWS c_all c_mass c_s_fields c_s_ties c_s_worth c_s_forces c_s_many c_s_codes c_s_b_list c_s_b_many c_s_p_list c_s_p_weights c_s_p_drawn c_s_p_many c_s_p_all c_s_p_turns) 119 [(0, .ref 0), (1, .ref 6), (2, .int x2), (3, .int x3)] [] := by
  unfold F6_levelAlike_b119 at hf
  refine xV_iinc (L' := [(3, .int (x3 + (1 : Int32))), (0, .ref 0), (1, .ref 6), (2, .int x2)]) 122 rfl dX6_levelAlike_119 3 rfl (xk_inc xy_i1) (xlt rfl) rfl ?_
  refine xV_goto (tgt := 2) dX6_levelAlike_122 (by decide) ?_
  refine xV_sub [1, 2, 3, 0] rfl ?_
  exact hk2 hf
def F6_levelAlike_b113 (z : Nat) (x2 : Int32) (x3 : Int32) (x6 : Int32) (x7 : Int32) (c_mass : (Nat → Nat → Int32)) (c_s_fields : Int32) (c_s_worth : (Nat → Int32)) (k2 : Int32 → Int32 → (Nat → Nat → Int32) → Int32 → (Nat → Int32) → Option ((Nat → Nat → Int32))) (k82 : Int32 → Int32 → Int32 → Int32 → (Nat → Nat → Int32) → Int32 → (Nat → Int32) → Option ((Nat → Nat → Int32))) : Option ((Nat → Nat → Int32)) :=
  k82 x2 x3 x6 (x7 + (1 : Int32)) c_mass c_s_fields c_s_worth
theorem T6_levelAlike_b113 {X : xX} {c_all : Int32} {c_s_ties : Int32} {c_s_forces : (Nat → Int32)} {c_s_many : (Nat → Int32)} {c_s_codes : (Nat → Nat → Int32)} {c_s_b_list : (Nat → Nat → Int32)} {c_s_b_many : (Nat → Int32)} {c_s_p_list : (Nat → Nat → Int32)} {c_s_p_weights : (Nat → Nat → Int32)} {c_s_p_drawn : (Nat → Nat → Int32)} {c_s_p_many : (Nat → Int32)} {c_s_p_all : (Nat → Int32)} {c_s_p_turns : (Nat → Int32)} {x2 : Int32} {x3 : Int32} {x6 : Int32} {x7 : Int32} {c_mass : (Nat → Nat → Int32)} {c_s_fields : Int32} {c_s_worth : (Nat → Int32)} {z : Nat} {v : (Nat → Nat → Int32)} {k2 : Int32 → Int32 → (Nat → Nat → Int32) → Int32 → (Nat → Int32) → Option ((Nat → Nat → Int32))} {k82 : Int32 → Int32 → Int32 → Int32 → (Nat → Nat → Int32) → Int32 → (Nat → Int32) → Option ((Nat → Nat → Int32))} (hX : xIs (j6_levelAlike) X none none (hWS c_all v c_s_fields c_s_ties c_s_worth c_s_forces c_s_many c_s_codes c_s_b_list c_s_b_many c_s_p_list c_s_p_weights c_s_p_drawn c_s_p_many c_s_p_all c_s_p_turns)) (hk2 : ∀ {x2 : Int32} {x3 : Int32} {c_mass : (Nat → Nat → Int32)}, k2 x2 x3 c_mass c_s_fields c_s_worth = some v → xV (j6_levelAlike) X 0 0 (hWS c_all c_mass c_s_fields c_s_ties c_s_worth c_s_forces c_s_many c_s_codes c_s_b_list c_s_b_many c_s_p_list c_s_p_weights c_s_p_drawn c_s_p_many c_s_p_all c_s_p_turns) 2 [(0, .ref 0), (1, .ref 6), (2, .int x2), (3, .int x3)] []) (hk82 : ∀ {x2 : Int32} {x3 : Int32} {x6 : Int32} {x7 : Int32} {c_mass : (Nat → Nat → Int32)}, k82 x2 x3 x6 x7 c_mass c_s_fields c_s_worth = some v → xV (j6_levelAlike) X 0 0 (hWS c_all c_mass c_s_fields c_s_ties c_s_worth c_s_forces c_s_many c_s_codes c_s_b_list c_s_b_many c_s_p_list c_s_p_weights c_s_p_drawn c_s_p_many c_s_p_all c_s_p_turns) 82 [(0, .ref 0), (1, .ref 6), (2, .int x2), (3, .int x3), (6, .int x6), (7, .int x7)] []) (hf : F6_levelAlike_b113 z x2 x3 x6 x7 c_mass c_s_fields c_s_worth k2 k82 = some v) : xV (j6_levelAlike) X 0 0 (hWS c_all c_mass c_s_fields c_s_ties c_s_worth c_s_forces c_s_many c_s_codes c_s_b_list c_s_b_many c_s_p_list c_s_p_weights c_s_p_drawn c_s_p_many c_s_p_all c_s_p_turns) 113 [(0, .ref 0), (1, .ref 6), (2, .int x2), (3, .int x3), (6, .int x6), (7, .int x7)] [] := by
  unfold F6_levelAlike_b113 at hf
  refine xV_iinc (L' := [(7, .int (x7 + (1 : Int32))), (0, .ref 0), (1, .ref 6), (2, .int x2), (3, .int x3), (6, .int x6)]) 116 rfl dX6_levelAlike_113 5 rfl (xk_inc xy_i1) (xlt rfl) rfl ?_
  refine xV_goto (tgt := 82) dX6_levelAlike_116 (by decide) ?_
  refine xV_sub [1, 2, 3, 4, 5, 0] rfl ?_
  exact hk82 hf
def F6_levelAlike_b82 (z : Nat) (w : Nat) (x2 : Int32) (x3 : Int32) (x6 : Int32) (x7 : Int32) (c_mass : (Nat → Nat → Int32)) (c_s_fields : Int32) (c_s_worth : (Nat → Int32)) (k2 : Int32 → Int32 → (Nat → Nat → Int32) → Int32 → (Nat → Int32) → Option ((Nat → Nat → Int32))) : Option ((Nat → Nat → Int32)) := match w with
  | 0 => none
  | w + 1 => if c_s_fields ≤ x7 then (F6_levelAlike_b119 z x2 x3 c_mass c_s_fields c_s_worth k2) else (xg (xin x7 4) (if (c_s_worth (xn x7)) = x2 then (xg (xin x7 4) (xg (xin x3 8) (F6_levelAlike_b113 z x2 x3 x6 x7 (va_up c_mass (xn x7) (upd (c_mass (xn x7)) (xn x3) x6)) c_s_fields c_s_worth k2 (fun q0 q1 q2 q3 q4 q5 q6 => F6_levelAlike_b82 z w q0 q1 q2 q3 q4 q5 q6 k2)))) else (F6_levelAlike_b113 z x2 x3 x6 x7 c_mass c_s_fields c_s_worth k2 (fun q0 q1 q2 q3 q4 q5 q6 => F6_levelAlike_b82 z w q0 q1 q2 q3 q4 q5 q6 k2))))
theorem T6_levelAlike_b82 {X : xX} {c_all : Int32} {c_s_fields : Int32} {c_s_ties : Int32} {c_s_worth : (Nat → Int32)} {c_s_forces : (Nat → Int32)} {c_s_many : (Nat → Int32)} {c_s_codes : (Nat → Nat → Int32)} {c_s_b_list : (Nat → Nat → Int32)} {c_s_b_many : (Nat → Int32)} {c_s_p_list : (Nat → Nat → Int32)} {c_s_p_weights : (Nat → Nat → Int32)} {c_s_p_drawn : (Nat → Nat → Int32)} {c_s_p_many : (Nat → Int32)} {c_s_p_all : (Nat → Int32)} {c_s_p_turns : (Nat → Int32)} {z : Nat} {v : (Nat → Nat → Int32)} {k2 : Int32 → Int32 → (Nat → Nat → Int32) → Int32 → (Nat → Int32) → Option ((Nat → Nat → Int32))} (hX : xIs (j6_levelAlike) X none none (hWS c_all v c_s_fields c_s_ties c_s_worth c_s_forces c_s_many c_s_codes c_s_b_list c_s_b_many c_s_p_list c_s_p_weights c_s_p_drawn c_s_p_many c_s_p_all c_s_p_turns)) (hk2 : ∀ {x2 : Int32} {x3 : Int32} {c_mass : (Nat → Nat → Int32)}, k2 x2 x3 c_mass c_s_fields c_s_worth = some v → xV (j6_levelAlike) X 0 0 (hWS c_all c_mass c_s_fields c_s_ties c_s_worth c_s_forces c_s_many c_s_codes c_s_b_list c_s_b_many c_s_p_list c_s_p_weights c_s_p_drawn c_s_p_many c_s_p_all c_s_p_turns) 2 [(0, .ref 0), (1, .ref 6), (2, .int x2), (3, .int x3)] []) : ∀ (w : Nat) {x2 : Int32} {x3 : Int32} {x6 : Int32} {x7 : Int32} {c_mass : (Nat → Nat → Int32)}, F6_levelAlike_b82 z w x2 x3 x6 x7 c_mass c_s_fields c_s_worth k2 = some v → xV (j6_levelAlike) X 0 0 (hWS c_all c_mass c_s_fields c_s_ties c_s_worth c_s_forces c_s_many c_s_codes c_s_b_list c_s_b_many c_s_p_list c_s_p_weights c_s_p_drawn c_s_p_many c_s_p_all c_s_p_turns) 82 [(0, .ref 0), (1, .ref 6), (2, .int x2), (3, .int x3), (6, .int x6), (7, .int x7)] [] := by
  intro w
  induction w with
  | zero => intro x2 x3 x6 x7 c_mass hf; cases hf
  | succ w ih =>
    intro x2 x3 x6 x7 c_mass hf
    unfold F6_levelAlike_b82 at hf
    refine xV_iload 84 rfl dX6_levelAlike_82 5 rfl ?_
    refine xV_aload_n 85 rfl dX6_levelAlike_84 rfl 1 rfl ?_
    refine xV_get (v := .int c_s_fields) 88 rfl dX6_levelAlike_85 f6_20 rfl rfl ?_
    refine xV_icmp_ge (tgt := 119) 91 rfl dX6_levelAlike_88 (by decide) (fun h88 => ?_) (fun h88 => ?_)
    · have hf := xif_t hf h88
      refine xV_sub [0, 1, 2, 3] rfl ?_
      exact T6_levelAlike_b119 hX hk2 hf
    · have hf := xif_f hf h88
      refine xV_aload_n 92 rfl dX6_levelAlike_91 rfl 1 rfl ?_
      refine xV_get (v := .ref 7) 95 rfl dX6_levelAlike_92 f6_33 rfl rfl ?_
      refine xV_iload 97 rfl dX6_levelAlike_95 5 rfl ?_
      obtain ⟨hg97, hf⟩ := xg_s hf
      refine xV_iaload 98 rfl dX6_levelAlike_97 rfl (xin_ok hg97) rfl ?_
      refine xV_iload_n 99 rfl dX6_levelAlike_98 rfl 2 rfl ?_
      refine xV_icmp_ne (tgt := 113) 102 rfl dX6_levelAlike_99 (by decide) (fun h99 => ?_) (fun h99 => ?_)
      · have hf := xif_f hf h99
        exact T6_levelAlike_b113 hX hk2 (fun {_ _ _ _ _} hq => ih hq) hf
      · have hf := xif_t hf h99
        refine xV_aload_n 103 rfl dX6_levelAlike_102 rfl 0 rfl ?_
        refine xV_get (v := .ref 1) 106 rfl dX6_levelAlike_103 f6_11 rfl rfl ?_
        refine xV_iload 108 rfl dX6_levelAlike_106 5 rfl ?_
        obtain ⟨hg108, hf⟩ := xg_s hf
        refine xV_aaload (b := (2 + (xn x7))) 109 rfl dX6_levelAlike_108 rfl rfl rfl (xin_ok hg108) (by show ([2, 3, 4, 5] : List Nat)[(xn x7)]? = some (2 + (xn x7)); have hi := xin_lt hg108; generalize (xn x7) = i at hi ⊢; match i, hi with | 0, _ => rfl | 1, _ => rfl | 2, _ => rfl | 3, _ => rfl) ?_
        refine xV_iload_n 110 rfl dX6_levelAlike_109 rfl 3 rfl ?_
        refine xV_iload 112 rfl dX6_levelAlike_110 4 rfl ?_
        obtain ⟨hg112, hf⟩ := xg_s hf
        refine xV_iastore (f := (c_mass (xn x7))) (z := 8) (h' := (hWS c_all (va_up c_mass (xn x7) (upd (c_mass (xn x7)) (xn x3) x6)) c_s_fields c_s_ties c_s_worth c_s_forces c_s_many c_s_codes c_s_b_list c_s_b_many c_s_p_list c_s_p_weights c_s_p_drawn c_s_p_many c_s_p_all c_s_p_turns)) (j := (xn x3)) 113 rfl dX6_levelAlike_112 (by have hi := (xin_lt hg108); generalize (xn x7) = i at hi ⊢; match i, hi with | 0, _ => exact rfl | 1, _ => exact rfl | 2, _ => exact rfl | 3, _ => exact rfl) (xin_ok hg112) rfl (by have hi := (xin_lt hg108); generalize (xn x7) = i at hi ⊢; match i, hi with | 0, _ => exact rfl | 1, _ => exact rfl | 2, _ => exact rfl | 3, _ => exact rfl) ?_
        exact T6_levelAlike_b113 hX hk2 (fun {_ _ _ _ _} hq => ih hq) hf
def F6_levelAlike_b77 (z : Nat) (x2 : Int32) (x3 : Int32) (s0 : Int32) (c_mass : (Nat → Nat → Int32)) (c_s_fields : Int32) (c_s_worth : (Nat → Int32)) (k2 : Int32 → Int32 → (Nat → Nat → Int32) → Int32 → (Nat → Int32) → Option ((Nat → Nat → Int32))) : Option ((Nat → Nat → Int32)) :=
  F6_levelAlike_b82 z z x2 x3 s0 (0 : Int32) c_mass c_s_fields c_s_worth k2
theorem T6_levelAlike_b77 {X : xX} {c_all : Int32} {c_s_ties : Int32} {c_s_forces : (Nat → Int32)} {c_s_many : (Nat → Int32)} {c_s_codes : (Nat → Nat → Int32)} {c_s_b_list : (Nat → Nat → Int32)} {c_s_b_many : (Nat → Int32)} {c_s_p_list : (Nat → Nat → Int32)} {c_s_p_weights : (Nat → Nat → Int32)} {c_s_p_drawn : (Nat → Nat → Int32)} {c_s_p_many : (Nat → Int32)} {c_s_p_all : (Nat → Int32)} {c_s_p_turns : (Nat → Int32)} {x2 : Int32} {x3 : Int32} {s0 : Int32} {c_mass : (Nat → Nat → Int32)} {c_s_fields : Int32} {c_s_worth : (Nat → Int32)} {z : Nat} {v : (Nat → Nat → Int32)} {k2 : Int32 → Int32 → (Nat → Nat → Int32) → Int32 → (Nat → Int32) → Option ((Nat → Nat → Int32))} (hX : xIs (j6_levelAlike) X none none (hWS c_all v c_s_fields c_s_ties c_s_worth c_s_forces c_s_many c_s_codes c_s_b_list c_s_b_many c_s_p_list c_s_p_weights c_s_p_drawn c_s_p_many c_s_p_all c_s_p_turns)) (hk2 : ∀ {x2 : Int32} {x3 : Int32} {c_mass : (Nat → Nat → Int32)}, k2 x2 x3 c_mass c_s_fields c_s_worth = some v → xV (j6_levelAlike) X 0 0 (hWS c_all c_mass c_s_fields c_s_ties c_s_worth c_s_forces c_s_many c_s_codes c_s_b_list c_s_b_many c_s_p_list c_s_p_weights c_s_p_drawn c_s_p_many c_s_p_all c_s_p_turns) 2 [(0, .ref 0), (1, .ref 6), (2, .int x2), (3, .int x3)] []) (hf : F6_levelAlike_b77 z x2 x3 s0 c_mass c_s_fields c_s_worth k2 = some v) : xV (j6_levelAlike) X 0 0 (hWS c_all c_mass c_s_fields c_s_ties c_s_worth c_s_forces c_s_many c_s_codes c_s_b_list c_s_b_many c_s_p_list c_s_p_weights c_s_p_drawn c_s_p_many c_s_p_all c_s_p_turns) 77 [(0, .ref 0), (1, .ref 6), (2, .int x2), (3, .int x3)] [.int s0] := by
  unfold F6_levelAlike_b77 at hf
  refine xV_istore (L' := [(6, .int s0), (0, .ref 0), (1, .ref 6), (2, .int x2), (3, .int x3)]) 79 rfl dX6_levelAlike_77 (xlt rfl) rfl ?_
  refine xV_iconst 80 rfl dX6_levelAlike_79 xy_i0 ?_
  refine xV_istore (L' := [(7, .int (0 : Int32)), (6, .int s0), (0, .ref 0), (1, .ref 6), (2, .int x2), (3, .int x3)]) 82 rfl dX6_levelAlike_80 (xlt rfl) rfl ?_
  refine xV_sub [2, 3, 4, 5, 1, 0] rfl ?_
  exact T6_levelAlike_b82 hX hk2 _ hf
def F6_levelAlike_b60 (z : Nat) (x2 : Int32) (x3 : Int32) (x4 : Int32) (x5 : Int32) (c_mass : (Nat → Nat → Int32)) (c_s_fields : Int32) (c_s_worth : (Nat → Int32)) (k2 : Int32 → Int32 → (Nat → Nat → Int32) → Int32 → (Nat → Int32) → Option ((Nat → Nat → Int32))) : Option ((Nat → Nat → Int32)) :=
  if x5 ≤ 0 then (F6_levelAlike_b77 z x2 x3 (0 : Int32) c_mass c_s_fields c_s_worth k2) else (xg (xnz x5) (F6_levelAlike_b77 z x2 x3 ((x4 * (12 : Int32)) / x5) c_mass c_s_fields c_s_worth k2))
theorem T6_levelAlike_b60 {X : xX} {c_all : Int32} {c_s_ties : Int32} {c_s_forces : (Nat → Int32)} {c_s_many : (Nat → Int32)} {c_s_codes : (Nat → Nat → Int32)} {c_s_b_list : (Nat → Nat → Int32)} {c_s_b_many : (Nat → Int32)} {c_s_p_list : (Nat → Nat → Int32)} {c_s_p_weights : (Nat → Nat → Int32)} {c_s_p_drawn : (Nat → Nat → Int32)} {c_s_p_many : (Nat → Int32)} {c_s_p_all : (Nat → Int32)} {c_s_p_turns : (Nat → Int32)} {x2 : Int32} {x3 : Int32} {x4 : Int32} {x5 : Int32} {c_mass : (Nat → Nat → Int32)} {c_s_fields : Int32} {c_s_worth : (Nat → Int32)} {z : Nat} {v : (Nat → Nat → Int32)} {k2 : Int32 → Int32 → (Nat → Nat → Int32) → Int32 → (Nat → Int32) → Option ((Nat → Nat → Int32))} (hX : xIs (j6_levelAlike) X none none (hWS c_all v c_s_fields c_s_ties c_s_worth c_s_forces c_s_many c_s_codes c_s_b_list c_s_b_many c_s_p_list c_s_p_weights c_s_p_drawn c_s_p_many c_s_p_all c_s_p_turns)) (hk2 : ∀ {x2 : Int32} {x3 : Int32} {c_mass : (Nat → Nat → Int32)}, k2 x2 x3 c_mass c_s_fields c_s_worth = some v → xV (j6_levelAlike) X 0 0 (hWS c_all c_mass c_s_fields c_s_ties c_s_worth c_s_forces c_s_many c_s_codes c_s_b_list c_s_b_many c_s_p_list c_s_p_weights c_s_p_drawn c_s_p_many c_s_p_all c_s_p_turns) 2 [(0, .ref 0), (1, .ref 6), (2, .int x2), (3, .int x3)] []) (hf : F6_levelAlike_b60 z x2 x3 x4 x5 c_mass c_s_fields c_s_worth k2 = some v) : xV (j6_levelAlike) X 0 0 (hWS c_all c_mass c_s_fields c_s_ties c_s_worth c_s_forces c_s_many c_s_codes c_s_b_list c_s_b_many c_s_p_list c_s_p_weights c_s_p_drawn c_s_p_many c_s_p_all c_s_p_turns) 60 [(0, .ref 0), (1, .ref 6), (2, .int x2), (3, .int x3), (4, .int x4), (5, .int x5)] [] := by
  unfold F6_levelAlike_b60 at hf
  refine xV_iload 62 rfl dX6_levelAlike_60 5 rfl ?_
  refine xV_if_le (tgt := 76) 65 rfl dX6_levelAlike_62 (by decide) (fun h62 => ?_) (fun h62 => ?_)
  · have hf := xif_t hf h62
    refine xV_iconst 77 rfl dX6_levelAlike_76 xy_i0 ?_
    refine xV_sub [0, 1, 2, 3] rfl ?_
    exact T6_levelAlike_b77 hX hk2 hf
  · have hf := xif_f hf h62
    refine xV_iload 67 rfl dX6_levelAlike_65 4 rfl ?_
    refine xV_bipush 69 rfl dX6_levelAlike_67 xy_b12 ?_
    refine xV_imul 70 rfl dX6_levelAlike_69 ?_
    refine xV_iload 72 rfl dX6_levelAlike_70 5 rfl ?_
    obtain ⟨hg72, hf⟩ := xg_s hf
    refine xV_idiv 73 rfl dX6_levelAlike_72 (xnz_ok hg72) ?_
    refine xV_goto (tgt := 77) dX6_levelAlike_73 (by decide) ?_
    refine xV_sub [0, 1, 2, 3] rfl ?_
    exact T6_levelAlike_b77 hX hk2 hf
def F6_levelAlike_b54 (z : Nat) (x2 : Int32) (x3 : Int32) (x4 : Int32) (x5 : Int32) (x6 : Int32) (c_mass : (Nat → Nat → Int32)) (c_s_fields : Int32) (c_s_worth : (Nat → Int32)) (k2 : Int32 → Int32 → (Nat → Nat → Int32) → Int32 → (Nat → Int32) → Option ((Nat → Nat → Int32))) (k17 : Int32 → Int32 → Int32 → Int32 → Int32 → (Nat → Nat → Int32) → Int32 → (Nat → Int32) → Option ((Nat → Nat → Int32))) : Option ((Nat → Nat → Int32)) :=
  k17 x2 x3 x4 x5 (x6 + (1 : Int32)) c_mass c_s_fields c_s_worth
theorem T6_levelAlike_b54 {X : xX} {c_all : Int32} {c_s_ties : Int32} {c_s_forces : (Nat → Int32)} {c_s_many : (Nat → Int32)} {c_s_codes : (Nat → Nat → Int32)} {c_s_b_list : (Nat → Nat → Int32)} {c_s_b_many : (Nat → Int32)} {c_s_p_list : (Nat → Nat → Int32)} {c_s_p_weights : (Nat → Nat → Int32)} {c_s_p_drawn : (Nat → Nat → Int32)} {c_s_p_many : (Nat → Int32)} {c_s_p_all : (Nat → Int32)} {c_s_p_turns : (Nat → Int32)} {x2 : Int32} {x3 : Int32} {x4 : Int32} {x5 : Int32} {x6 : Int32} {c_mass : (Nat → Nat → Int32)} {c_s_fields : Int32} {c_s_worth : (Nat → Int32)} {z : Nat} {v : (Nat → Nat → Int32)} {k2 : Int32 → Int32 → (Nat → Nat → Int32) → Int32 → (Nat → Int32) → Option ((Nat → Nat → Int32))} {k17 : Int32 → Int32 → Int32 → Int32 → Int32 → (Nat → Nat → Int32) → Int32 → (Nat → Int32) → Option ((Nat → Nat → Int32))} (hX : xIs (j6_levelAlike) X none none (hWS c_all v c_s_fields c_s_ties c_s_worth c_s_forces c_s_many c_s_codes c_s_b_list c_s_b_many c_s_p_list c_s_p_weights c_s_p_drawn c_s_p_many c_s_p_all c_s_p_turns)) (hk2 : ∀ {x2 : Int32} {x3 : Int32} {c_mass : (Nat → Nat → Int32)}, k2 x2 x3 c_mass c_s_fields c_s_worth = some v → xV (j6_levelAlike) X 0 0 (hWS c_all c_mass c_s_fields c_s_ties c_s_worth c_s_forces c_s_many c_s_codes c_s_b_list c_s_b_many c_s_p_list c_s_p_weights c_s_p_drawn c_s_p_many c_s_p_all c_s_p_turns) 2 [(0, .ref 0), (1, .ref 6), (2, .int x2), (3, .int x3)] []) (hk17 : ∀ {x2 : Int32} {x3 : Int32} {x4 : Int32} {x5 : Int32} {x6 : Int32} {c_mass : (Nat → Nat → Int32)}, k17 x2 x3 x4 x5 x6 c_mass c_s_fields c_s_worth = some v → xV (j6_levelAlike) X 0 0 (hWS c_all c_mass c_s_fields c_s_ties c_s_worth c_s_forces c_s_many c_s_codes c_s_b_list c_s_b_many c_s_p_list c_s_p_weights c_s_p_drawn c_s_p_many c_s_p_all c_s_p_turns) 17 [(0, .ref 0), (1, .ref 6), (2, .int x2), (3, .int x3), (4, .int x4), (5, .int x5), (6, .int x6)] []) (hf : F6_levelAlike_b54 z x2 x3 x4 x5 x6 c_mass c_s_fields c_s_worth k2 k17 = some v) : xV (j6_levelAlike) X 0 0 (hWS c_all c_mass c_s_fields c_s_ties c_s_worth c_s_forces c_s_many c_s_codes c_s_b_list c_s_b_many c_s_p_list c_s_p_weights c_s_p_drawn c_s_p_many c_s_p_all c_s_p_turns) 54 [(0, .ref 0), (1, .ref 6), (2, .int x2), (3, .int x3), (4, .int x4), (5, .int x5), (6, .int x6)] [] := by
  unfold F6_levelAlike_b54 at hf
  refine xV_iinc (L' := [(6, .int (x6 + (1 : Int32))), (0, .ref 0), (1, .ref 6), (2, .int x2), (3, .int x3), (4, .int x4), (5, .int x5)]) 57 rfl dX6_levelAlike_54 6 rfl (xk_inc xy_i1) (xlt rfl) rfl ?_
  refine xV_goto (tgt := 17) dX6_levelAlike_57 (by decide) ?_
  refine xV_sub [1, 2, 3, 4, 5, 6, 0] rfl ?_
  exact hk17 hf
def F6_levelAlike_b17 (z : Nat) (w : Nat) (x2 : Int32) (x3 : Int32) (x4 : Int32) (x5 : Int32) (x6 : Int32) (c_mass : (Nat → Nat → Int32)) (c_s_fields : Int32) (c_s_worth : (Nat → Int32)) (k2 : Int32 → Int32 → (Nat → Nat → Int32) → Int32 → (Nat → Int32) → Option ((Nat → Nat → Int32))) : Option ((Nat → Nat → Int32)) := match w with
  | 0 => none
  | w + 1 => if c_s_fields ≤ x6 then (F6_levelAlike_b60 z x2 x3 x4 x5 c_mass c_s_fields c_s_worth k2) else (xg (xin x6 4) (if (c_s_worth (xn x6)) = x2 then (xg (xin x6 4) (xg (xin x3 8) (F6_levelAlike_b54 z x2 x3 (x4 + ((c_mass (xn x6)) (xn x3))) (x5 + (1 : Int32)) x6 c_mass c_s_fields c_s_worth k2 (fun q0 q1 q2 q3 q4 q5 q6 q7 => F6_levelAlike_b17 z w q0 q1 q2 q3 q4 q5 q6 q7 k2)))) else (F6_levelAlike_b54 z x2 x3 x4 x5 x6 c_mass c_s_fields c_s_worth k2 (fun q0 q1 q2 q3 q4 q5 q6 q7 => F6_levelAlike_b17 z w q0 q1 q2 q3 q4 q5 q6 q7 k2))))
theorem T6_levelAlike_b17 {X : xX} {c_all : Int32} {c_s_fields : Int32} {c_s_ties : Int32} {c_s_worth : (Nat → Int32)} {c_s_forces : (Nat → Int32)} {c_s_many : (Nat → Int32)} {c_s_codes : (Nat → Nat → Int32)} {c_s_b_list : (Nat → Nat → Int32)} {c_s_b_many : (Nat → Int32)} {c_s_p_list : (Nat → Nat → Int32)} {c_s_p_weights : (Nat → Nat → Int32)} {c_s_p_drawn : (Nat → Nat → Int32)} {c_s_p_many : (Nat → Int32)} {c_s_p_all : (Nat → Int32)} {c_s_p_turns : (Nat → Int32)} {z : Nat} {v : (Nat → Nat → Int32)} {k2 : Int32 → Int32 → (Nat → Nat → Int32) → Int32 → (Nat → Int32) → Option ((Nat → Nat → Int32))} (hX : xIs (j6_levelAlike) X none none (hWS c_all v c_s_fields c_s_ties c_s_worth c_s_forces c_s_many c_s_codes c_s_b_list c_s_b_many c_s_p_list c_s_p_weights c_s_p_drawn c_s_p_many c_s_p_all c_s_p_turns)) (hk2 : ∀ {x2 : Int32} {x3 : Int32} {c_mass : (Nat → Nat → Int32)}, k2 x2 x3 c_mass c_s_fields c_s_worth = some v → xV (j6_levelAlike) X 0 0 (hWS c_all c_mass c_s_fields c_s_ties c_s_worth c_s_forces c_s_many c_s_codes c_s_b_list c_s_b_many c_s_p_list c_s_p_weights c_s_p_drawn c_s_p_many c_s_p_all c_s_p_turns) 2 [(0, .ref 0), (1, .ref 6), (2, .int x2), (3, .int x3)] []) : ∀ (w : Nat) {x2 : Int32} {x3 : Int32} {x4 : Int32} {x5 : Int32} {x6 : Int32} {c_mass : (Nat → Nat → Int32)}, F6_levelAlike_b17 z w x2 x3 x4 x5 x6 c_mass c_s_fields c_s_worth k2 = some v → xV (j6_levelAlike) X 0 0 (hWS c_all c_mass c_s_fields c_s_ties c_s_worth c_s_forces c_s_many c_s_codes c_s_b_list c_s_b_many c_s_p_list c_s_p_weights c_s_p_drawn c_s_p_many c_s_p_all c_s_p_turns) 17 [(0, .ref 0), (1, .ref 6), (2, .int x2), (3, .int x3), (4, .int x4), (5, .int x5), (6, .int x6)] [] := by
  intro w
  induction w with
  | zero => intro x2 x3 x4 x5 x6 c_mass hf; cases hf
  | succ w ih =>
    intro x2 x3 x4 x5 x6 c_mass hf
    unfold F6_levelAlike_b17 at hf
    refine xV_iload 19 rfl dX6_levelAlike_17 6 rfl ?_
    refine xV_aload_n 20 rfl dX6_levelAlike_19 rfl 1 rfl ?_
    refine xV_get (v := .int c_s_fields) 23 rfl dX6_levelAlike_20 f6_20 rfl rfl ?_
    refine xV_icmp_ge (tgt := 60) 26 rfl dX6_levelAlike_23 (by decide) (fun h23 => ?_) (fun h23 => ?_)
    · have hf := xif_t hf h23
      refine xV_sub [0, 1, 2, 3, 4, 5] rfl ?_
      exact T6_levelAlike_b60 hX hk2 hf
    · have hf := xif_f hf h23
      refine xV_aload_n 27 rfl dX6_levelAlike_26 rfl 1 rfl ?_
      refine xV_get (v := .ref 7) 30 rfl dX6_levelAlike_27 f6_33 rfl rfl ?_
      refine xV_iload 32 rfl dX6_levelAlike_30 6 rfl ?_
      obtain ⟨hg32, hf⟩ := xg_s hf
      refine xV_iaload 33 rfl dX6_levelAlike_32 rfl (xin_ok hg32) rfl ?_
      refine xV_iload_n 34 rfl dX6_levelAlike_33 rfl 2 rfl ?_
      refine xV_icmp_ne (tgt := 54) 37 rfl dX6_levelAlike_34 (by decide) (fun h34 => ?_) (fun h34 => ?_)
      · have hf := xif_f hf h34
        exact T6_levelAlike_b54 hX hk2 (fun {_ _ _ _ _ _} hq => ih hq) hf
      · have hf := xif_t hf h34
        refine xV_iload 39 rfl dX6_levelAlike_37 4 rfl ?_
        refine xV_aload_n 40 rfl dX6_levelAlike_39 rfl 0 rfl ?_
        refine xV_get (v := .ref 1) 43 rfl dX6_levelAlike_40 f6_11 rfl rfl ?_
        refine xV_iload 45 rfl dX6_levelAlike_43 6 rfl ?_
        obtain ⟨hg45, hf⟩ := xg_s hf
        refine xV_aaload (b := (2 + (xn x6))) 46 rfl dX6_levelAlike_45 rfl rfl rfl (xin_ok hg45) (by show ([2, 3, 4, 5] : List Nat)[(xn x6)]? = some (2 + (xn x6)); have hi := xin_lt hg45; generalize (xn x6) = i at hi ⊢; match i, hi with | 0, _ => rfl | 1, _ => rfl | 2, _ => rfl | 3, _ => rfl) ?_
        refine xV_iload_n 47 rfl dX6_levelAlike_46 rfl 3 rfl ?_
        obtain ⟨hg47, hf⟩ := xg_s hf
        refine xV_iaload (f := (c_mass (xn x6))) (z := 8) 48 rfl dX6_levelAlike_47 (by have hi := (xin_lt hg45); generalize (xn x6) = i at hi ⊢; match i, hi with | 0, _ => exact rfl | 1, _ => exact rfl | 2, _ => exact rfl | 3, _ => exact rfl) (xin_ok hg47) rfl ?_
        refine xV_iadd 49 rfl dX6_levelAlike_48 ?_
        refine xV_istore (L' := [(4, .int (x4 + ((c_mass (xn x6)) (xn x3)))), (0, .ref 0), (1, .ref 6), (2, .int x2), (3, .int x3), (5, .int x5), (6, .int x6)]) 51 rfl dX6_levelAlike_49 (xlt rfl) rfl ?_
        refine xV_iinc (L' := [(5, .int (x5 + (1 : Int32))), (4, .int (x4 + ((c_mass (xn x6)) (xn x3)))), (0, .ref 0), (1, .ref 6), (2, .int x2), (3, .int x3), (6, .int x6)]) 54 rfl dX6_levelAlike_51 5 rfl (xk_inc xy_i1) (xlt rfl) rfl ?_
        refine xV_sub [2, 3, 4, 5, 1, 0, 6] rfl ?_
        exact T6_levelAlike_b54 hX hk2 (fun {_ _ _ _ _ _} hq => ih hq) hf
def F6_levelAlike_b2 (z : Nat) (w : Nat) (x2 : Int32) (x3 : Int32) (c_mass : (Nat → Nat → Int32)) (c_s_fields : Int32) (c_s_worth : (Nat → Int32)) : Option ((Nat → Nat → Int32)) := match w with
  | 0 => none
  | w + 1 => if (7 : Int32) < x3 then (some (c_mass)) else (F6_levelAlike_b17 z z x2 x3 (0 : Int32) (0 : Int32) (0 : Int32) c_mass c_s_fields c_s_worth (fun q0 q1 q2 q3 q4 => F6_levelAlike_b2 z w q0 q1 q2 q3 q4))
theorem T6_levelAlike_b2 {X : xX} {c_all : Int32} {c_s_fields : Int32} {c_s_ties : Int32} {c_s_worth : (Nat → Int32)} {c_s_forces : (Nat → Int32)} {c_s_many : (Nat → Int32)} {c_s_codes : (Nat → Nat → Int32)} {c_s_b_list : (Nat → Nat → Int32)} {c_s_b_many : (Nat → Int32)} {c_s_p_list : (Nat → Nat → Int32)} {c_s_p_weights : (Nat → Nat → Int32)} {c_s_p_drawn : (Nat → Nat → Int32)} {c_s_p_many : (Nat → Int32)} {c_s_p_all : (Nat → Int32)} {c_s_p_turns : (Nat → Int32)} {z : Nat} {v : (Nat → Nat → Int32)} (hX : xIs (j6_levelAlike) X none none (hWS c_all v c_s_fields c_s_ties c_s_worth c_s_forces c_s_many c_s_codes c_s_b_list c_s_b_many c_s_p_list c_s_p_weights c_s_p_drawn c_s_p_many c_s_p_all c_s_p_turns)) : ∀ (w : Nat) {x2 : Int32} {x3 : Int32} {c_mass : (Nat → Nat → Int32)}, F6_levelAlike_b2 z w x2 x3 c_mass c_s_fields c_s_worth = some v → xV (j6_levelAlike) X 0 0 (hWS c_all c_mass c_s_fields c_s_ties c_s_worth c_s_forces c_s_many c_s_codes c_s_b_list c_s_b_many c_s_p_list c_s_p_weights c_s_p_drawn c_s_p_many c_s_p_all c_s_p_turns) 2 [(0, .ref 0), (1, .ref 6), (2, .int x2), (3, .int x3)] [] := by
  intro w
  induction w with
  | zero => intro x2 x3 c_mass hf; cases hf
  | succ w ih =>
    intro x2 x3 c_mass hf
    unfold F6_levelAlike_b2 at hf
    refine xV_iload_n 3 rfl dX6_levelAlike_2 rfl 3 rfl ?_
    refine xV_bipush 5 rfl dX6_levelAlike_3 xy_b7 ?_
    refine xV_icmp_gt (tgt := 125) 8 rfl dX6_levelAlike_5 (by decide) (fun h5 => ?_) (fun h5 => ?_)
    · have hf := xif_t hf h5
      obtain rfl := Option.some.inj hf
      exact xV_vret hX dX6_levelAlike_125 (Nat.zero_le _) (Nat.zero_le _)
    · have hf := xif_f hf h5
      refine xV_iconst 9 rfl dX6_levelAlike_8 xy_i0 ?_
      refine xV_istore (L' := [(4, .int (0 : Int32)), (0, .ref 0), (1, .ref 6), (2, .int x2), (3, .int x3)]) 11 rfl dX6_levelAlike_9 (xlt rfl) rfl ?_
      refine xV_iconst 12 rfl dX6_levelAlike_11 xy_i0 ?_
      refine xV_istore (L' := [(5, .int (0 : Int32)), (4, .int (0 : Int32)), (0, .ref 0), (1, .ref 6), (2, .int x2), (3, .int x3)]) 14 rfl dX6_levelAlike_12 (xlt rfl) rfl ?_
      refine xV_iconst 15 rfl dX6_levelAlike_14 xy_i0 ?_
      refine xV_istore (L' := [(6, .int (0 : Int32)), (5, .int (0 : Int32)), (4, .int (0 : Int32)), (0, .ref 0), (1, .ref 6), (2, .int x2), (3, .int x3)]) 17 rfl dX6_levelAlike_15 (xlt rfl) rfl ?_
      refine xV_sub [3, 4, 5, 6, 2, 1, 0] rfl ?_
      exact T6_levelAlike_b17 hX (fun {_ _ _} hq => ih hq) _ hf
def F6_levelAlike (z : Nat) (x2 : Int32) (c_mass : (Nat → Nat → Int32)) (c_s_fields : Int32) (c_s_worth : (Nat → Int32)) : Option ((Nat → Nat → Int32)) :=
  F6_levelAlike_b2 z z x2 (0 : Int32) c_mass c_s_fields c_s_worth
theorem T6_levelAlike {X : xX} {z : Nat} {x2 : Int32} {c_mass : (Nat → Nat → Int32)} {c_s_fields : Int32} {c_s_worth : (Nat → Int32)} {c_all : Int32} {c_s_ties : Int32} {c_s_forces : (Nat → Int32)} {c_s_many : (Nat → Int32)} {c_s_codes : (Nat → Nat → Int32)} {c_s_b_list : (Nat → Nat → Int32)} {c_s_b_many : (Nat → Int32)} {c_s_p_list : (Nat → Nat → Int32)} {c_s_p_weights : (Nat → Nat → Int32)} {c_s_p_drawn : (Nat → Nat → Int32)} {c_s_p_many : (Nat → Int32)} {c_s_p_all : (Nat → Int32)} {c_s_p_turns : (Nat → Int32)} {v : (Nat → Nat → Int32)} (hX : xIs (j6_levelAlike) X none none (hWS c_all v c_s_fields c_s_ties c_s_worth c_s_forces c_s_many c_s_codes c_s_b_list c_s_b_many c_s_p_list c_s_p_weights c_s_p_drawn c_s_p_many c_s_p_all c_s_p_turns)) (hf : F6_levelAlike z x2 c_mass c_s_fields c_s_worth = some v) : xV (j6_levelAlike) X 0 0 (hWS c_all c_mass c_s_fields c_s_ties c_s_worth c_s_forces c_s_many c_s_codes c_s_b_list c_s_b_many c_s_p_list c_s_p_weights c_s_p_drawn c_s_p_many c_s_p_all c_s_p_turns) 0 [(0, .ref 0), (1, .ref 6), (2, .int x2)] [] := by
  unfold F6_levelAlike at hf
  refine xV_iconst 1 rfl dX6_levelAlike_0 xy_i0 ?_
  refine xV_istore_n (L' := [(3, .int (0 : Int32)), (0, .ref 0), (1, .ref 6), (2, .int x2)]) 2 rfl dX6_levelAlike_1 rfl (xlt rfl) rfl ?_
  refine xV_sub [1, 2, 3, 0] rfl ?_
  exact T6_levelAlike_b2 hX _ hf
theorem C6_levelAlike (l : Launch) {z : Nat} {x2 : Int32} {c_mass : (Nat → Nat → Int32)} {c_s_fields : Int32} {c_s_worth : (Nat → Int32)} {c_all : Int32} {c_s_ties : Int32} {c_s_forces : (Nat → Int32)} {c_s_many : (Nat → Int32)} {c_s_codes : (Nat → Nat → Int32)} {c_s_b_list : (Nat → Nat → Int32)} {c_s_b_many : (Nat → Int32)} {c_s_p_list : (Nat → Nat → Int32)} {c_s_p_weights : (Nat → Nat → Int32)} {c_s_p_drawn : (Nat → Nat → Int32)} {c_s_p_many : (Nat → Int32)} {c_s_p_all : (Nat → Int32)} {c_s_p_turns : (Nat → Int32)} {v : (Nat → Nat → Int32)} (hf : F6_levelAlike z x2 c_mass c_s_fields c_s_worth = some v) : xCt l yX6_levelAlike none j6_levelAlike [.ref 0, .ref 6, .int x2] (hWS c_all c_mass c_s_fields c_s_ties c_s_worth c_s_forces c_s_many c_s_codes c_s_b_list c_s_b_many c_s_p_list c_s_p_weights c_s_p_drawn c_s_p_many c_s_p_all c_s_p_turns) none (hWS c_all v c_s_fields c_s_ties c_s_worth c_s_forces c_s_many c_s_codes c_s_b_list c_s_b_many c_s_p_list c_s_p_weights c_s_p_drawn c_s_p_many c_s_p_all c_s_p_turns) := xCt_of (by decide) rfl (Nat.le_of_ble_eq_true rfl) (fun _ hX => T6_levelAlike hX hf)
theorem m6_levelAlike : xMd yX6_levelAlike RX6 none j6_levelAlike 2 := ⟨List.mem_of_getElem? (i := 1161) (by decide +kernel), List.mem_of_getElem? (i := 33) (by decide +kernel), rfl, by decide +kernel⟩
theorem v6_levelAlike : xMv yX6_levelAlike RX6 := ⟨List.mem_of_getElem? (i := 1159) (by decide +kernel), List.mem_of_getElem? (i := 1160) (by decide +kernel)⟩
theorem k6_29 : Cond.methodLink RX6 29 yX6_isFirstAlike ∈ wsL_law0 := List.mem_of_getElem? (i := 1154) (by decide +kernel)
theorem k6_37 : Cond.methodLink RX6 37 yX6_levelAlike ∈ wsL_law0 := List.mem_of_getElem? (i := 1158) (by decide +kernel)
theorem dX6_levelOut_0 : decode cX6_levelOut 0 = .ok (.aload_n 0, 1) := by decide +kernel
theorem dX6_levelOut_1 : decode cX6_levelOut 1 = .ok (.dup, 1) := by decide +kernel
theorem dX6_levelOut_2 : decode cX6_levelOut 2 = .ok (.getfield 16, 3) := by decide +kernel
theorem dX6_levelOut_5 : decode cX6_levelOut 5 = .ok (.bipush 12, 2) := by decide +kernel
theorem dX6_levelOut_7 : decode cX6_levelOut 7 = .ok (.imul, 1) := by decide +kernel
theorem dX6_levelOut_8 : decode cX6_levelOut 8 = .ok (.putfield 16, 3) := by decide +kernel
theorem dX6_levelOut_11 : decode cX6_levelOut 11 = .ok (.iconst 0, 1) := by decide +kernel
theorem dX6_levelOut_12 : decode cX6_levelOut 12 = .ok (.istore_n 2, 1) := by decide +kernel
theorem dX6_levelOut_13 : decode cX6_levelOut 13 = .ok (.iload_n 2, 1) := by decide +kernel
theorem dX6_levelOut_14 : decode cX6_levelOut 14 = .ok (.aload_n 1, 1) := by decide +kernel
theorem dX6_levelOut_15 : decode cX6_levelOut 15 = .ok (.getfield 20, 3) := by decide +kernel
theorem dX6_levelOut_18 : decode cX6_levelOut 18 = .ok (.if_icmp .ge 29, 3) := by decide +kernel
theorem dX6_levelOut_21 : decode cX6_levelOut 21 = .ok (.aload_n 0, 1) := by decide +kernel
theorem dX6_levelOut_22 : decode cX6_levelOut 22 = .ok (.aload_n 1, 1) := by decide +kernel
theorem dX6_levelOut_23 : decode cX6_levelOut 23 = .ok (.iload_n 2, 1) := by decide +kernel
theorem dX6_levelOut_24 : decode cX6_levelOut 24 = .ok (.invokevirtual 29, 3) := by decide +kernel
theorem dX6_levelOut_27 : decode cX6_levelOut 27 = .ok (.ifCond .eq 14, 3) := by decide +kernel
theorem dX6_levelOut_30 : decode cX6_levelOut 30 = .ok (.aload_n 0, 1) := by decide +kernel
theorem dX6_levelOut_31 : decode cX6_levelOut 31 = .ok (.aload_n 1, 1) := by decide +kernel
theorem dX6_levelOut_32 : decode cX6_levelOut 32 = .ok (.aload_n 1, 1) := by decide +kernel
theorem dX6_levelOut_33 : decode cX6_levelOut 33 = .ok (.getfield 33, 3) := by decide +kernel
theorem dX6_levelOut_36 : decode cX6_levelOut 36 = .ok (.iload_n 2, 1) := by decide +kernel
theorem dX6_levelOut_37 : decode cX6_levelOut 37 = .ok (.iaload, 1) := by decide +kernel
theorem dX6_levelOut_38 : decode cX6_levelOut 38 = .ok (.invokevirtual 37, 3) := by decide +kernel
theorem dX6_levelOut_41 : decode cX6_levelOut 41 = .ok (.iinc 2 1, 3) := by decide +kernel
theorem dX6_levelOut_44 : decode cX6_levelOut 44 = .ok (.goto (-31), 3) := by decide +kernel
theorem dX6_levelOut_47 : decode cX6_levelOut 47 = .ok (.return_, 1) := by decide +kernel
abbrev j6_levelOut : xJ := (cX6_levelOut, 3, RX6, 2, 0, 0)
def F6_levelOut_b41 (z : Nat) (x2 : Int32) (c_all : Int32) (c_mass : (Nat → Nat → Int32)) (c_s_fields : Int32) (c_s_worth : (Nat → Int32)) (k13 : Int32 → Int32 → (Nat → Nat → Int32) → Int32 → (Nat → Int32) → Option (Int32 × (Nat → Nat → Int32))) : Option (Int32 × (Nat → Nat → Int32)) :=
  k13 (x2 + (1 : Int32)) c_all c_mass c_s_fields c_s_worth
theorem T6_levelOut_b41 {X : xX} {c_s_ties : Int32} {c_s_forces : (Nat → Int32)} {c_s_many : (Nat → Int32)} {c_s_codes : (Nat → Nat → Int32)} {c_s_b_list : (Nat → Nat → Int32)} {c_s_b_many : (Nat → Int32)} {c_s_p_list : (Nat → Nat → Int32)} {c_s_p_weights : (Nat → Nat → Int32)} {c_s_p_drawn : (Nat → Nat → Int32)} {c_s_p_many : (Nat → Int32)} {c_s_p_all : (Nat → Int32)} {c_s_p_turns : (Nat → Int32)} {x2 : Int32} {c_all : Int32} {c_mass : (Nat → Nat → Int32)} {c_s_fields : Int32} {c_s_worth : (Nat → Int32)} {z : Nat} {v : Int32 × (Nat → Nat → Int32)} {k13 : Int32 → Int32 → (Nat → Nat → Int32) → Int32 → (Nat → Int32) → Option (Int32 × (Nat → Nat → Int32))} (hX : xIs (j6_levelOut) X none none (hWS v.1 v.2 c_s_fields c_s_ties c_s_worth c_s_forces c_s_many c_s_codes c_s_b_list c_s_b_many c_s_p_list c_s_p_weights c_s_p_drawn c_s_p_many c_s_p_all c_s_p_turns)) (hk13 : ∀ {x2 : Int32} {c_all : Int32} {c_mass : (Nat → Nat → Int32)}, k13 x2 c_all c_mass c_s_fields c_s_worth = some v → xV (j6_levelOut) X 0 0 (hWS c_all c_mass c_s_fields c_s_ties c_s_worth c_s_forces c_s_many c_s_codes c_s_b_list c_s_b_many c_s_p_list c_s_p_weights c_s_p_drawn c_s_p_many c_s_p_all c_s_p_turns) 13 [(0, .ref 0), (1, .ref 6), (2, .int x2)] []) (hf : F6_levelOut_b41 z x2 c_all c_mass c_s_fields c_s_worth k13 = some v) : xV (j6_levelOut) X 0 0 (hWS c_all c_mass c_s_fields c_s_ties c_s_worth c_s_forces c_s_many c_s_codes c_s_b_list c_s_b_many c_s_p_list c_s_p_weights c_s_p_drawn c_s_p_many c_s_p_all c_s_p_turns) 41 [(0, .ref 0), (1, .ref 6), (2, .int x2)] [] := by
  unfold F6_levelOut_b41 at hf
  refine xV_iinc (L' := [(2, .int (x2 + (1 : Int32))), (0, .ref 0), (1, .ref 6)]) 44 rfl dX6_levelOut_41 2 rfl (xk_inc xy_i1) (xlt rfl) rfl ?_
  refine xV_goto (tgt := 13) dX6_levelOut_44 (by decide) ?_
  refine xV_sub [1, 2, 0] rfl ?_
  exact hk13 hf
def F6_levelOut_b13 (z : Nat) (w : Nat) (x2 : Int32) (c_all : Int32) (c_mass : (Nat → Nat → Int32)) (c_s_fields : Int32) (c_s_worth : (Nat → Int32)) : Option (Int32 × (Nat → Nat → Int32)) := match w with
  | 0 => none
  | w + 1 => if c_s_fields ≤ x2 then (some (c_all, c_mass)) else ((F6_isFirstAlike z x2 c_s_worth).bind (fun v24 => if v24 = 0 then (F6_levelOut_b41 z x2 c_all c_mass c_s_fields c_s_worth (fun q0 q1 q2 q3 q4 => F6_levelOut_b13 z w q0 q1 q2 q3 q4)) else (xg (xin x2 4) ((F6_levelAlike z (c_s_worth (xn x2)) c_mass c_s_fields c_s_worth).bind (fun v38 => F6_levelOut_b41 z x2 c_all v38 c_s_fields c_s_worth (fun q0 q1 q2 q3 q4 => F6_levelOut_b13 z w q0 q1 q2 q3 q4))))))
theorem T6_levelOut_b13 {X : xX} {c_s_fields : Int32} {c_s_ties : Int32} {c_s_worth : (Nat → Int32)} {c_s_forces : (Nat → Int32)} {c_s_many : (Nat → Int32)} {c_s_codes : (Nat → Nat → Int32)} {c_s_b_list : (Nat → Nat → Int32)} {c_s_b_many : (Nat → Int32)} {c_s_p_list : (Nat → Nat → Int32)} {c_s_p_weights : (Nat → Nat → Int32)} {c_s_p_drawn : (Nat → Nat → Int32)} {c_s_p_many : (Nat → Int32)} {c_s_p_all : (Nat → Int32)} {c_s_p_turns : (Nat → Int32)} {z : Nat} {v : Int32 × (Nat → Nat → Int32)} (hX : xIs (j6_levelOut) X none none (hWS v.1 v.2 c_s_fields c_s_ties c_s_worth c_s_forces c_s_many c_s_codes c_s_b_list c_s_b_many c_s_p_list c_s_p_weights c_s_p_drawn c_s_p_many c_s_p_all c_s_p_turns)) : ∀ (w : Nat) {x2 : Int32} {c_all : Int32} {c_mass : (Nat → Nat → Int32)}, F6_levelOut_b13 z w x2 c_all c_mass c_s_fields c_s_worth = some v → xV (j6_levelOut) X 0 0 (hWS c_all c_mass c_s_fields c_s_ties c_s_worth c_s_forces c_s_many c_s_codes c_s_b_list c_s_b_many c_s_p_list c_s_p_weights c_s_p_drawn c_s_p_many c_s_p_all c_s_p_turns) 13 [(0, .ref 0), (1, .ref 6), (2, .int x2)] [] := by
  intro w
  induction w with
  | zero => intro x2 c_all c_mass hf; cases hf
  | succ w ih =>
    intro x2 c_all c_mass hf
    unfold F6_levelOut_b13 at hf
    refine xV_iload_n 14 rfl dX6_levelOut_13 rfl 2 rfl ?_
    refine xV_aload_n 15 rfl dX6_levelOut_14 rfl 1 rfl ?_
    refine xV_get (v := .int c_s_fields) 18 rfl dX6_levelOut_15 f6_20 rfl rfl ?_
    refine xV_icmp_ge (tgt := 47) 21 rfl dX6_levelOut_18 (by decide) (fun h18 => ?_) (fun h18 => ?_)
    · have hf := xif_t hf h18
      obtain rfl := Option.some.inj hf
      exact xV_vret hX dX6_levelOut_47 (Nat.zero_le _) (Nat.zero_le _)
    · have hf := xif_f hf h18
      refine xV_aload_n 22 rfl dX6_levelOut_21 rfl 0 rfl ?_
      refine xV_aload_n 23 rfl dX6_levelOut_22 rfl 1 rfl ?_
      refine xV_iload_n 24 rfl dX6_levelOut_23 rfl 2 rfl ?_
      obtain ⟨v24, hv24, hf⟩ := xb_s hf
      refine xV_same (rest := []) 27 rfl dX6_levelOut_24 rfl (C6_isFirstAlike X.1.2.1 hv24) m6_isFirstAlike v6_isFirstAlike k6_29 rfl rfl rfl rfl rfl (Nat.le_of_ble_eq_true rfl) (Nat.le_of_ble_eq_true rfl) (Nat.le_of_ble_eq_true rfl) ⟨Nat.le_refl _, Nat.le_refl _⟩ ?_
      show xV (j6_levelOut) X 0 0 (hWS c_all c_mass c_s_fields c_s_ties c_s_worth c_s_forces c_s_many c_s_codes c_s_b_list c_s_b_many c_s_p_list c_s_p_weights c_s_p_drawn c_s_p_many c_s_p_all c_s_p_turns) 27 [(0, .ref 0), (1, .ref 6), (2, .int x2)] [.int v24]
      refine xV_if_eq (tgt := 41) 30 rfl dX6_levelOut_27 (by decide) (fun h27 => ?_) (fun h27 => ?_)
      · have hf := xif_t hf h27
        exact T6_levelOut_b41 hX (fun {_ _ _} hq => ih hq) hf
      · have hf := xif_f hf h27
        refine xV_aload_n 31 rfl dX6_levelOut_30 rfl 0 rfl ?_
        refine xV_aload_n 32 rfl dX6_levelOut_31 rfl 1 rfl ?_
        refine xV_aload_n 33 rfl dX6_levelOut_32 rfl 1 rfl ?_
        refine xV_get (v := .ref 7) 36 rfl dX6_levelOut_33 f6_33 rfl rfl ?_
        refine xV_iload_n 37 rfl dX6_levelOut_36 rfl 2 rfl ?_
        obtain ⟨hg37, hf⟩ := xg_s hf
        refine xV_iaload 38 rfl dX6_levelOut_37 rfl (xin_ok hg37) rfl ?_
        obtain ⟨v38, hv38, hf⟩ := xb_s hf
        refine xV_same (rest := []) 41 rfl dX6_levelOut_38 rfl (C6_levelAlike X.1.2.1 hv38) m6_levelAlike v6_levelAlike k6_37 rfl rfl rfl rfl rfl (Nat.le_of_ble_eq_true rfl) (Nat.le_of_ble_eq_true rfl) (Nat.le_of_ble_eq_true rfl) ⟨Nat.le_refl _, Nat.le_refl _⟩ ?_
        show xV (j6_levelOut) X 0 0 (hWS c_all v38 c_s_fields c_s_ties c_s_worth c_s_forces c_s_many c_s_codes c_s_b_list c_s_b_many c_s_p_list c_s_p_weights c_s_p_drawn c_s_p_many c_s_p_all c_s_p_turns) 41 [(0, .ref 0), (1, .ref 6), (2, .int x2)] []
        exact T6_levelOut_b41 hX (fun {_ _ _} hq => ih hq) hf
def F6_levelOut (z : Nat) (c_all : Int32) (c_mass : (Nat → Nat → Int32)) (c_s_fields : Int32) (c_s_worth : (Nat → Int32)) : Option (Int32 × (Nat → Nat → Int32)) :=
  F6_levelOut_b13 z z (0 : Int32) (c_all * (12 : Int32)) c_mass c_s_fields c_s_worth
theorem T6_levelOut {X : xX} {z : Nat} {c_all : Int32} {c_mass : (Nat → Nat → Int32)} {c_s_fields : Int32} {c_s_worth : (Nat → Int32)} {c_s_ties : Int32} {c_s_forces : (Nat → Int32)} {c_s_many : (Nat → Int32)} {c_s_codes : (Nat → Nat → Int32)} {c_s_b_list : (Nat → Nat → Int32)} {c_s_b_many : (Nat → Int32)} {c_s_p_list : (Nat → Nat → Int32)} {c_s_p_weights : (Nat → Nat → Int32)} {c_s_p_drawn : (Nat → Nat → Int32)} {c_s_p_many : (Nat → Int32)} {c_s_p_all : (Nat → Int32)} {c_s_p_turns : (Nat → Int32)} {v : Int32 × (Nat → Nat → Int32)} (hX : xIs (j6_levelOut) X none none (hWS v.1 v.2 c_s_fields c_s_ties c_s_worth c_s_forces c_s_many c_s_codes c_s_b_list c_s_b_many c_s_p_list c_s_p_weights c_s_p_drawn c_s_p_many c_s_p_all c_s_p_turns)) (hf : F6_levelOut z c_all c_mass c_s_fields c_s_worth = some v) : xV (j6_levelOut) X 0 0 (hWS c_all c_mass c_s_fields c_s_ties c_s_worth c_s_forces c_s_many c_s_codes c_s_b_list c_s_b_many c_s_p_list c_s_p_weights c_s_p_drawn c_s_p_many c_s_p_all c_s_p_turns) 0 [(0, .ref 0), (1, .ref 6)] [] := by
  unfold F6_levelOut at hf
  refine xV_aload_n 1 rfl dX6_levelOut_0 rfl 0 rfl ?_
  refine xV_dup 2 rfl dX6_levelOut_1 rfl ?_
  refine xV_get (v := .int c_all) 5 rfl dX6_levelOut_2 f6_16 rfl rfl ?_
  refine xV_bipush 7 rfl dX6_levelOut_5 xy_b12 ?_
  refine xV_imul 8 rfl dX6_levelOut_7 ?_
  refine xV_put (h' := (hWS (c_all * (12 : Int32)) c_mass c_s_fields c_s_ties c_s_worth c_s_forces c_s_many c_s_codes c_s_b_list c_s_b_many c_s_p_list c_s_p_weights c_s_p_drawn c_s_p_many c_s_p_all c_s_p_turns)) 11 rfl dX6_levelOut_8 f6_16 rfl nf6_1 (fun _ => rfl) (fun _ => rfl) (Nat.le_of_ble_eq_true rfl) rfl ?_
  refine xV_iconst 12 rfl dX6_levelOut_11 xy_i0 ?_
  refine xV_istore_n (L' := [(2, .int (0 : Int32)), (0, .ref 0), (1, .ref 6)]) 13 rfl dX6_levelOut_12 rfl (xlt rfl) rfl ?_
  refine xV_sub [1, 2, 0] rfl ?_
  exact T6_levelOut_b13 hX _ hf
theorem C6_levelOut (l : Launch) {z : Nat} {c_all : Int32} {c_mass : (Nat → Nat → Int32)} {c_s_fields : Int32} {c_s_worth : (Nat → Int32)} {c_s_ties : Int32} {c_s_forces : (Nat → Int32)} {c_s_many : (Nat → Int32)} {c_s_codes : (Nat → Nat → Int32)} {c_s_b_list : (Nat → Nat → Int32)} {c_s_b_many : (Nat → Int32)} {c_s_p_list : (Nat → Nat → Int32)} {c_s_p_weights : (Nat → Nat → Int32)} {c_s_p_drawn : (Nat → Nat → Int32)} {c_s_p_many : (Nat → Int32)} {c_s_p_all : (Nat → Int32)} {c_s_p_turns : (Nat → Int32)} {v : Int32 × (Nat → Nat → Int32)} (hf : F6_levelOut z c_all c_mass c_s_fields c_s_worth = some v) : xCt l yX6_levelOut none j6_levelOut [.ref 0, .ref 6] (hWS c_all c_mass c_s_fields c_s_ties c_s_worth c_s_forces c_s_many c_s_codes c_s_b_list c_s_b_many c_s_p_list c_s_p_weights c_s_p_drawn c_s_p_many c_s_p_all c_s_p_turns) none (hWS v.1 v.2 c_s_fields c_s_ties c_s_worth c_s_forces c_s_many c_s_codes c_s_b_list c_s_b_many c_s_p_list c_s_p_weights c_s_p_drawn c_s_p_many c_s_p_all c_s_p_turns) := xCt_of (by decide) rfl (Nat.le_of_ble_eq_true rfl) (fun _ hX => T6_levelOut hX hf)
theorem m6_levelOut : xMd yX6_levelOut RX6 none j6_levelOut 1 := ⟨List.mem_of_getElem? (i := 1153) (by decide +kernel), List.mem_of_getElem? (i := 33) (by decide +kernel), rfl, by decide +kernel⟩
theorem v6_levelOut : xMv yX6_levelOut RX6 := ⟨List.mem_of_getElem? (i := 1151) (by decide +kernel), List.mem_of_getElem? (i := 1152) (by decide +kernel)⟩
theorem k6_41 : Cond.methodLink RX6 41 yX4_winner ∈ wsL_law0 := List.mem_of_getElem? (i := 1099) (by decide +kernel)
theorem dX6_gainFor_0 : decode cX6_gainFor 0 = .ok (.iconst 0, 1) := by decide +kernel
theorem dX6_gainFor_1 : decode cX6_gainFor 1 = .ok (.istore 4, 2) := by decide +kernel
theorem dX6_gainFor_3 : decode cX6_gainFor 3 = .ok (.iconst 0, 1) := by decide +kernel
theorem dX6_gainFor_4 : decode cX6_gainFor 4 = .ok (.istore 5, 2) := by decide +kernel
theorem dX6_gainFor_6 : decode cX6_gainFor 6 = .ok (.iload 5, 2) := by decide +kernel
theorem dX6_gainFor_8 : decode cX6_gainFor 8 = .ok (.aload_n 1, 1) := by decide +kernel
theorem dX6_gainFor_9 : decode cX6_gainFor 9 = .ok (.getfield 20, 3) := by decide +kernel
theorem dX6_gainFor_12 : decode cX6_gainFor 12 = .ok (.if_icmp .ge 96, 3) := by decide +kernel
theorem dX6_gainFor_15 : decode cX6_gainFor 15 = .ok (.aload_n 1, 1) := by decide +kernel
theorem dX6_gainFor_16 : decode cX6_gainFor 16 = .ok (.iload_n 3, 1) := by decide +kernel
theorem dX6_gainFor_17 : decode cX6_gainFor 17 = .ok (.iload 5, 2) := by decide +kernel
theorem dX6_gainFor_19 : decode cX6_gainFor 19 = .ok (.invokevirtual 25, 3) := by decide +kernel
theorem dX6_gainFor_22 : decode cX6_gainFor 22 = .ok (.istore 6, 2) := by decide +kernel
theorem dX6_gainFor_24 : decode cX6_gainFor 24 = .ok (.iconst 0, 1) := by decide +kernel
theorem dX6_gainFor_25 : decode cX6_gainFor 25 = .ok (.istore 7, 2) := by decide +kernel
theorem dX6_gainFor_27 : decode cX6_gainFor 27 = .ok (.iconst 0, 1) := by decide +kernel
theorem dX6_gainFor_28 : decode cX6_gainFor 28 = .ok (.istore 8, 2) := by decide +kernel
theorem dX6_gainFor_30 : decode cX6_gainFor 30 = .ok (.iload 8, 2) := by decide +kernel
theorem dX6_gainFor_32 : decode cX6_gainFor 32 = .ok (.bipush 7, 2) := by decide +kernel
theorem dX6_gainFor_34 : decode cX6_gainFor 34 = .ok (.if_icmp .gt 53, 3) := by decide +kernel
theorem dX6_gainFor_37 : decode cX6_gainFor 37 = .ok (.iload_n 2, 1) := by decide +kernel
theorem dX6_gainFor_38 : decode cX6_gainFor 38 = .ok (.ifCond .ne 14, 3) := by decide +kernel
theorem dX6_gainFor_41 : decode cX6_gainFor 41 = .ok (.aload_n 1, 1) := by decide +kernel
theorem dX6_gainFor_42 : decode cX6_gainFor 42 = .ok (.iload 8, 2) := by decide +kernel
theorem dX6_gainFor_44 : decode cX6_gainFor 44 = .ok (.iload 6, 2) := by decide +kernel
theorem dX6_gainFor_46 : decode cX6_gainFor 46 = .ok (.invokevirtual 41, 3) := by decide +kernel
theorem dX6_gainFor_49 : decode cX6_gainFor 49 = .ok (.goto 12, 3) := by decide +kernel
theorem dX6_gainFor_52 : decode cX6_gainFor 52 = .ok (.aload_n 1, 1) := by decide +kernel
theorem dX6_gainFor_53 : decode cX6_gainFor 53 = .ok (.iload 6, 2) := by decide +kernel
theorem dX6_gainFor_55 : decode cX6_gainFor 55 = .ok (.iload 8, 2) := by decide +kernel
theorem dX6_gainFor_57 : decode cX6_gainFor 57 = .ok (.invokevirtual 41, 3) := by decide +kernel
theorem dX6_gainFor_60 : decode cX6_gainFor 60 = .ok (.ineg, 1) := by decide +kernel
theorem dX6_gainFor_61 : decode cX6_gainFor 61 = .ok (.istore 9, 2) := by decide +kernel
theorem dX6_gainFor_63 : decode cX6_gainFor 63 = .ok (.iload 7, 2) := by decide +kernel
theorem dX6_gainFor_65 : decode cX6_gainFor 65 = .ok (.aload_n 0, 1) := by decide +kernel
theorem dX6_gainFor_66 : decode cX6_gainFor 66 = .ok (.getfield 11, 3) := by decide +kernel
theorem dX6_gainFor_69 : decode cX6_gainFor 69 = .ok (.iload 5, 2) := by decide +kernel
theorem dX6_gainFor_71 : decode cX6_gainFor 71 = .ok (.aaload, 1) := by decide +kernel
theorem dX6_gainFor_72 : decode cX6_gainFor 72 = .ok (.iload 8, 2) := by decide +kernel
theorem dX6_gainFor_74 : decode cX6_gainFor 74 = .ok (.iaload, 1) := by decide +kernel
theorem dX6_gainFor_75 : decode cX6_gainFor 75 = .ok (.iload 9, 2) := by decide +kernel
theorem dX6_gainFor_77 : decode cX6_gainFor 77 = .ok (.imul, 1) := by decide +kernel
theorem dX6_gainFor_78 : decode cX6_gainFor 78 = .ok (.iadd, 1) := by decide +kernel
theorem dX6_gainFor_79 : decode cX6_gainFor 79 = .ok (.istore 7, 2) := by decide +kernel
theorem dX6_gainFor_81 : decode cX6_gainFor 81 = .ok (.iinc 8 1, 3) := by decide +kernel
theorem dX6_gainFor_84 : decode cX6_gainFor 84 = .ok (.goto (-54), 3) := by decide +kernel
theorem dX6_gainFor_87 : decode cX6_gainFor 87 = .ok (.iload 4, 2) := by decide +kernel
theorem dX6_gainFor_89 : decode cX6_gainFor 89 = .ok (.aload_n 1, 1) := by decide +kernel
theorem dX6_gainFor_90 : decode cX6_gainFor 90 = .ok (.getfield 33, 3) := by decide +kernel
theorem dX6_gainFor_93 : decode cX6_gainFor 93 = .ok (.iload 5, 2) := by decide +kernel
theorem dX6_gainFor_95 : decode cX6_gainFor 95 = .ok (.iaload, 1) := by decide +kernel
theorem dX6_gainFor_96 : decode cX6_gainFor 96 = .ok (.iload 7, 2) := by decide +kernel
theorem dX6_gainFor_98 : decode cX6_gainFor 98 = .ok (.imul, 1) := by decide +kernel
theorem dX6_gainFor_99 : decode cX6_gainFor 99 = .ok (.iadd, 1) := by decide +kernel
theorem dX6_gainFor_100 : decode cX6_gainFor 100 = .ok (.istore 4, 2) := by decide +kernel
theorem dX6_gainFor_102 : decode cX6_gainFor 102 = .ok (.iinc 5 1, 3) := by decide +kernel
theorem dX6_gainFor_105 : decode cX6_gainFor 105 = .ok (.goto (-99), 3) := by decide +kernel
theorem dX6_gainFor_108 : decode cX6_gainFor 108 = .ok (.iload 4, 2) := by decide +kernel
theorem dX6_gainFor_110 : decode cX6_gainFor 110 = .ok (.ireturn, 1) := by decide +kernel
abbrev j6_gainFor : xJ := (cX6_gainFor, 10, RX6, 2, 0, 0)
def F6_gainFor_b87 (z : Nat) (x2 : Int32) (x3 : Int32) (x4 : Int32) (x5 : Int32) (x7 : Int32) (c_mass : (Nat → Nat → Int32)) (c_s_fields : Int32) (c_s_ties : Int32) (c_s_worth : (Nat → Int32)) (k6 : Int32 → Int32 → Int32 → Int32 → (Nat → Nat → Int32) → Int32 → Int32 → (Nat → Int32) → Option (Int32)) : Option (Int32) :=
  xg (xin x5 4) (k6 x2 x3 (x4 + ((c_s_worth (xn x5)) * x7)) (x5 + (1 : Int32)) c_mass c_s_fields c_s_ties c_s_worth)
theorem T6_gainFor_b87 {X : xX} {c_all : Int32} {c_s_forces : (Nat → Int32)} {c_s_many : (Nat → Int32)} {c_s_codes : (Nat → Nat → Int32)} {c_s_b_list : (Nat → Nat → Int32)} {c_s_b_many : (Nat → Int32)} {c_s_p_list : (Nat → Nat → Int32)} {c_s_p_weights : (Nat → Nat → Int32)} {c_s_p_drawn : (Nat → Nat → Int32)} {c_s_p_many : (Nat → Int32)} {c_s_p_all : (Nat → Int32)} {c_s_p_turns : (Nat → Int32)} {x2 : Int32} {x3 : Int32} {x4 : Int32} {x5 : Int32} {x7 : Int32} {c_mass : (Nat → Nat → Int32)} {c_s_fields : Int32} {c_s_ties : Int32} {c_s_worth : (Nat → Int32)} {z : Nat} {v : Int32} {k6 : Int32 → Int32 → Int32 → Int32 → (Nat → Nat → Int32) → Int32 → Int32 → (Nat → Int32) → Option (Int32)} (hX : xIs (j6_gainFor) X ((some .int)) (some (.int v)) (hWS c_all c_mass c_s_fields c_s_ties c_s_worth c_s_forces c_s_many c_s_codes c_s_b_list c_s_b_many c_s_p_list c_s_p_weights c_s_p_drawn c_s_p_many c_s_p_all c_s_p_turns)) (hk6 : ∀ {x2 : Int32} {x3 : Int32} {x4 : Int32} {x5 : Int32}, k6 x2 x3 x4 x5 c_mass c_s_fields c_s_ties c_s_worth = some v → xV (j6_gainFor) X 0 0 (hWS c_all c_mass c_s_fields c_s_ties c_s_worth c_s_forces c_s_many c_s_codes c_s_b_list c_s_b_many c_s_p_list c_s_p_weights c_s_p_drawn c_s_p_many c_s_p_all c_s_p_turns) 6 [(0, .ref 0), (1, .ref 6), (2, .int x2), (3, .int x3), (4, .int x4), (5, .int x5)] []) (hf : F6_gainFor_b87 z x2 x3 x4 x5 x7 c_mass c_s_fields c_s_ties c_s_worth k6 = some v) : xV (j6_gainFor) X 0 0 (hWS c_all c_mass c_s_fields c_s_ties c_s_worth c_s_forces c_s_many c_s_codes c_s_b_list c_s_b_many c_s_p_list c_s_p_weights c_s_p_drawn c_s_p_many c_s_p_all c_s_p_turns) 87 [(0, .ref 0), (1, .ref 6), (2, .int x2), (3, .int x3), (4, .int x4), (5, .int x5), (7, .int x7)] [] := by
  unfold F6_gainFor_b87 at hf
  refine xV_iload 89 rfl dX6_gainFor_87 4 rfl ?_
  refine xV_aload_n 90 rfl dX6_gainFor_89 rfl 1 rfl ?_
  refine xV_get (v := .ref 7) 93 rfl dX6_gainFor_90 f6_33 rfl rfl ?_
  refine xV_iload 95 rfl dX6_gainFor_93 5 rfl ?_
  obtain ⟨hg95, hf⟩ := xg_s hf
  refine xV_iaload 96 rfl dX6_gainFor_95 rfl (xin_ok hg95) rfl ?_
  refine xV_iload 98 rfl dX6_gainFor_96 6 rfl ?_
  refine xV_imul 99 rfl dX6_gainFor_98 ?_
  refine xV_iadd 100 rfl dX6_gainFor_99 ?_
  refine xV_istore (L' := [(4, .int (x4 + ((c_s_worth (xn x5)) * x7))), (0, .ref 0), (1, .ref 6), (2, .int x2), (3, .int x3), (5, .int x5), (7, .int x7)]) 102 rfl dX6_gainFor_100 (xlt rfl) rfl ?_
  refine xV_iinc (L' := [(5, .int (x5 + (1 : Int32))), (4, .int (x4 + ((c_s_worth (xn x5)) * x7))), (0, .ref 0), (1, .ref 6), (2, .int x2), (3, .int x3), (7, .int x7)]) 105 rfl dX6_gainFor_102 5 rfl (xk_inc xy_i1) (xlt rfl) rfl ?_
  refine xV_goto (tgt := 6) dX6_gainFor_105 (by decide) ?_
  refine xV_sub [2, 3, 4, 5, 1, 0] rfl ?_
  exact hk6 hf
def F6_gainFor_b61 (z : Nat) (x2 : Int32) (x3 : Int32) (x4 : Int32) (x5 : Int32) (x6 : Int32) (x7 : Int32) (x8 : Int32) (s0 : Int32) (c_mass : (Nat → Nat → Int32)) (c_s_fields : Int32) (c_s_ties : Int32) (c_s_worth : (Nat → Int32)) (k6 : Int32 → Int32 → Int32 → Int32 → (Nat → Nat → Int32) → Int32 → Int32 → (Nat → Int32) → Option (Int32)) (k30 : Int32 → Int32 → Int32 → Int32 → Int32 → Int32 → Int32 → (Nat → Nat → Int32) → Int32 → Int32 → (Nat → Int32) → Option (Int32)) : Option (Int32) :=
  xg (xin x5 4) (xg (xin x8 8) (k30 x2 x3 x4 x5 x6 (x7 + (((c_mass (xn x5)) (xn x8)) * s0)) (x8 + (1 : Int32)) c_mass c_s_fields c_s_ties c_s_worth))
theorem T6_gainFor_b61 {X : xX} {c_all : Int32} {c_s_forces : (Nat → Int32)} {c_s_many : (Nat → Int32)} {c_s_codes : (Nat → Nat → Int32)} {c_s_b_list : (Nat → Nat → Int32)} {c_s_b_many : (Nat → Int32)} {c_s_p_list : (Nat → Nat → Int32)} {c_s_p_weights : (Nat → Nat → Int32)} {c_s_p_drawn : (Nat → Nat → Int32)} {c_s_p_many : (Nat → Int32)} {c_s_p_all : (Nat → Int32)} {c_s_p_turns : (Nat → Int32)} {x2 : Int32} {x3 : Int32} {x4 : Int32} {x5 : Int32} {x6 : Int32} {x7 : Int32} {x8 : Int32} {s0 : Int32} {c_mass : (Nat → Nat → Int32)} {c_s_fields : Int32} {c_s_ties : Int32} {c_s_worth : (Nat → Int32)} {z : Nat} {v : Int32} {k6 : Int32 → Int32 → Int32 → Int32 → (Nat → Nat → Int32) → Int32 → Int32 → (Nat → Int32) → Option (Int32)} {k30 : Int32 → Int32 → Int32 → Int32 → Int32 → Int32 → Int32 → (Nat → Nat → Int32) → Int32 → Int32 → (Nat → Int32) → Option (Int32)} (hX : xIs (j6_gainFor) X ((some .int)) (some (.int v)) (hWS c_all c_mass c_s_fields c_s_ties c_s_worth c_s_forces c_s_many c_s_codes c_s_b_list c_s_b_many c_s_p_list c_s_p_weights c_s_p_drawn c_s_p_many c_s_p_all c_s_p_turns)) (hk6 : ∀ {x2 : Int32} {x3 : Int32} {x4 : Int32} {x5 : Int32}, k6 x2 x3 x4 x5 c_mass c_s_fields c_s_ties c_s_worth = some v → xV (j6_gainFor) X 0 0 (hWS c_all c_mass c_s_fields c_s_ties c_s_worth c_s_forces c_s_many c_s_codes c_s_b_list c_s_b_many c_s_p_list c_s_p_weights c_s_p_drawn c_s_p_many c_s_p_all c_s_p_turns) 6 [(0, .ref 0), (1, .ref 6), (2, .int x2), (3, .int x3), (4, .int x4), (5, .int x5)] []) (hk30 : ∀ {x2 : Int32} {x3 : Int32} {x4 : Int32} {x5 : Int32} {x6 : Int32} {x7 : Int32} {x8 : Int32}, k30 x2 x3 x4 x5 x6 x7 x8 c_mass c_s_fields c_s_ties c_s_worth = some v → xV (j6_gainFor) X 0 0 (hWS c_all c_mass c_s_fields c_s_ties c_s_worth c_s_forces c_s_many c_s_codes c_s_b_list c_s_b_many c_s_p_list c_s_p_weights c_s_p_drawn c_s_p_many c_s_p_all c_s_p_turns) 30 [(0, .ref 0), (1, .ref 6), (2, .int x2), (3, .int x3), (4, .int x4), (5, .int x5), (6, .int x6), (7, .int x7), (8, .int x8)] []) (hf : F6_gainFor_b61 z x2 x3 x4 x5 x6 x7 x8 s0 c_mass c_s_fields c_s_ties c_s_worth k6 k30 = some v) : xV (j6_gainFor) X 0 0 (hWS c_all c_mass c_s_fields c_s_ties c_s_worth c_s_forces c_s_many c_s_codes c_s_b_list c_s_b_many c_s_p_list c_s_p_weights c_s_p_drawn c_s_p_many c_s_p_all c_s_p_turns) 61 [(0, .ref 0), (1, .ref 6), (2, .int x2), (3, .int x3), (4, .int x4), (5, .int x5), (6, .int x6), (7, .int x7), (8, .int x8)] [.int s0] := by
  unfold F6_gainFor_b61 at hf
  refine xV_istore (L' := [(9, .int s0), (0, .ref 0), (1, .ref 6), (2, .int x2), (3, .int x3), (4, .int x4), (5, .int x5), (6, .int x6), (7, .int x7), (8, .int x8)]) 63 rfl dX6_gainFor_61 (xlt rfl) rfl ?_
  refine xV_iload 65 rfl dX6_gainFor_63 8 rfl ?_
  refine xV_aload_n 66 rfl dX6_gainFor_65 rfl 1 rfl ?_
  refine xV_get (v := .ref 1) 69 rfl dX6_gainFor_66 f6_11 rfl rfl ?_
  refine xV_iload 71 rfl dX6_gainFor_69 6 rfl ?_
  obtain ⟨hg71, hf⟩ := xg_s hf
  refine xV_aaload (b := (2 + (xn x5))) 72 rfl dX6_gainFor_71 rfl rfl rfl (xin_ok hg71) (by show ([2, 3, 4, 5] : List Nat)[(xn x5)]? = some (2 + (xn x5)); have hi := xin_lt hg71; generalize (xn x5) = i at hi ⊢; match i, hi with | 0, _ => rfl | 1, _ => rfl | 2, _ => rfl | 3, _ => rfl) ?_
  refine xV_iload 74 rfl dX6_gainFor_72 9 rfl ?_
  obtain ⟨hg74, hf⟩ := xg_s hf
  refine xV_iaload (f := (c_mass (xn x5))) (z := 8) 75 rfl dX6_gainFor_74 (by have hi := (xin_lt hg71); generalize (xn x5) = i at hi ⊢; match i, hi with | 0, _ => exact rfl | 1, _ => exact rfl | 2, _ => exact rfl | 3, _ => exact rfl) (xin_ok hg74) rfl ?_
  refine xV_iload 77 rfl dX6_gainFor_75 0 rfl ?_
  refine xV_imul 78 rfl dX6_gainFor_77 ?_
  refine xV_iadd 79 rfl dX6_gainFor_78 ?_
  refine xV_istore (L' := [(7, .int (x7 + (((c_mass (xn x5)) (xn x8)) * s0))), (9, .int s0), (0, .ref 0), (1, .ref 6), (2, .int x2), (3, .int x3), (4, .int x4), (5, .int x5), (6, .int x6), (8, .int x8)]) 81 rfl dX6_gainFor_79 (xlt rfl) rfl ?_
  refine xV_iinc (L' := [(8, .int (x8 + (1 : Int32))), (7, .int (x7 + (((c_mass (xn x5)) (xn x8)) * s0))), (9, .int s0), (0, .ref 0), (1, .ref 6), (2, .int x2), (3, .int x3), (4, .int x4), (5, .int x5), (6, .int x6)]) 84 rfl dX6_gainFor_81 9 rfl (xk_inc xy_i1) (xlt rfl) rfl ?_
  refine xV_goto (tgt := 30) dX6_gainFor_84 (by decide) ?_
  refine xV_sub [3, 4, 5, 6, 7, 8, 9, 1, 0] rfl ?_
  exact hk30 hf
def F6_gainFor_b30 (z : Nat) (w : Nat) (x2 : Int32) (x3 : Int32) (x4 : Int32) (x5 : Int32) (x6 : Int32) (x7 : Int32) (x8 : Int32) (c_mass : (Nat → Nat → Int32)) (c_s_fields : Int32) (c_s_ties : Int32) (c_s_worth : (Nat → Int32)) (k6 : Int32 → Int32 → Int32 → Int32 → (Nat → Nat → Int32) → Int32 → Int32 → (Nat → Int32) → Option (Int32)) : Option (Int32) := match w with
  | 0 => none
  | w + 1 => if (7 : Int32) < x8 then (F6_gainFor_b87 z x2 x3 x4 x5 x7 c_mass c_s_fields c_s_ties c_s_worth k6) else (if x2 = 0 then ((F4_winner x8 x6 c_s_ties).bind (fun v46 => F6_gainFor_b61 z x2 x3 x4 x5 x6 x7 x8 v46 c_mass c_s_fields c_s_ties c_s_worth k6 (fun q0 q1 q2 q3 q4 q5 q6 q7 q8 q9 q10 => F6_gainFor_b30 z w q0 q1 q2 q3 q4 q5 q6 q7 q8 q9 q10 k6))) else ((F4_winner x6 x8 c_s_ties).bind (fun v57 => F6_gainFor_b61 z x2 x3 x4 x5 x6 x7 x8 (-v57) c_mass c_s_fields c_s_ties c_s_worth k6 (fun q0 q1 q2 q3 q4 q5 q6 q7 q8 q9 q10 => F6_gainFor_b30 z w q0 q1 q2 q3 q4 q5 q6 q7 q8 q9 q10 k6))))
theorem T6_gainFor_b30 {X : xX} {c_all : Int32} {c_mass : (Nat → Nat → Int32)} {c_s_fields : Int32} {c_s_ties : Int32} {c_s_worth : (Nat → Int32)} {c_s_forces : (Nat → Int32)} {c_s_many : (Nat → Int32)} {c_s_codes : (Nat → Nat → Int32)} {c_s_b_list : (Nat → Nat → Int32)} {c_s_b_many : (Nat → Int32)} {c_s_p_list : (Nat → Nat → Int32)} {c_s_p_weights : (Nat → Nat → Int32)} {c_s_p_drawn : (Nat → Nat → Int32)} {c_s_p_many : (Nat → Int32)} {c_s_p_all : (Nat → Int32)} {c_s_p_turns : (Nat → Int32)} {z : Nat} {v : Int32} {k6 : Int32 → Int32 → Int32 → Int32 → (Nat → Nat → Int32) → Int32 → Int32 → (Nat → Int32) → Option (Int32)} (hX : xIs (j6_gainFor) X ((some .int)) (some (.int v)) (hWS c_all c_mass c_s_fields c_s_ties c_s_worth c_s_forces c_s_many c_s_codes c_s_b_list c_s_b_many c_s_p_list c_s_p_weights c_s_p_drawn c_s_p_many c_s_p_all c_s_p_turns)) (hk6 : ∀ {x2 : Int32} {x3 : Int32} {x4 : Int32} {x5 : Int32}, k6 x2 x3 x4 x5 c_mass c_s_fields c_s_ties c_s_worth = some v → xV (j6_gainFor) X 0 0 (hWS c_all c_mass c_s_fields c_s_ties c_s_worth c_s_forces c_s_many c_s_codes c_s_b_list c_s_b_many c_s_p_list c_s_p_weights c_s_p_drawn c_s_p_many c_s_p_all c_s_p_turns) 6 [(0, .ref 0), (1, .ref 6), (2, .int x2), (3, .int x3), (4, .int x4), (5, .int x5)] []) : ∀ (w : Nat) {x2 : Int32} {x3 : Int32} {x4 : Int32} {x5 : Int32} {x6 : Int32} {x7 : Int32} {x8 : Int32}, F6_gainFor_b30 z w x2 x3 x4 x5 x6 x7 x8 c_mass c_s_fields c_s_ties c_s_worth k6 = some v → xV (j6_gainFor) X 0 0 (hWS c_all c_mass c_s_fields c_s_ties c_s_worth c_s_forces c_s_many c_s_codes c_s_b_list c_s_b_many c_s_p_list c_s_p_weights c_s_p_drawn c_s_p_many c_s_p_all c_s_p_turns) 30 [(0, .ref 0), (1, .ref 6), (2, .int x2), (3, .int x3), (4, .int x4), (5, .int x5), (6, .int x6), (7, .int x7), (8, .int x8)] [] := by
  intro w
  induction w with
  | zero => intro x2 x3 x4 x5 x6 x7 x8 hf; cases hf
  | succ w ih =>
    intro x2 x3 x4 x5 x6 x7 x8 hf
    unfold F6_gainFor_b30 at hf
    refine xV_iload 32 rfl dX6_gainFor_30 8 rfl ?_
    refine xV_bipush 34 rfl dX6_gainFor_32 xy_b7 ?_
    refine xV_icmp_gt (tgt := 87) 37 rfl dX6_gainFor_34 (by decide) (fun h34 => ?_) (fun h34 => ?_)
    · have hf := xif_t hf h34
      refine xV_sub [0, 1, 2, 3, 4, 5, 7] rfl ?_
      exact T6_gainFor_b87 hX hk6 hf
    · have hf := xif_f hf h34
      refine xV_iload_n 38 rfl dX6_gainFor_37 rfl 2 rfl ?_
      refine xV_if_ne (tgt := 52) 41 rfl dX6_gainFor_38 (by decide) (fun h38 => ?_) (fun h38 => ?_)
      · have hf := xif_f hf h38
        refine xV_aload_n 53 rfl dX6_gainFor_52 rfl 1 rfl ?_
        refine xV_iload 55 rfl dX6_gainFor_53 6 rfl ?_
        refine xV_iload 57 rfl dX6_gainFor_55 8 rfl ?_
        obtain ⟨v57, hv57, hf⟩ := xb_s hf
        refine xV_vir2 (g := (fun j => 6 + j)) (hl := (hS c_s_fields c_s_ties c_s_worth c_s_forces c_s_many c_s_codes c_s_b_list c_s_b_many c_s_p_list c_s_p_weights c_s_p_drawn c_s_p_many c_s_p_all c_s_p_turns)) (hl' := (hS c_s_fields c_s_ties c_s_worth c_s_forces c_s_many c_s_codes c_s_b_list c_s_b_many c_s_p_list c_s_p_weights c_s_p_drawn c_s_p_many c_s_p_all c_s_p_turns)) (h' := (hWS c_all c_mass c_s_fields c_s_ties c_s_worth c_s_forces c_s_many c_s_codes c_s_b_list c_s_b_many c_s_p_list c_s_p_weights c_s_p_drawn c_s_p_many c_s_p_all c_s_p_turns)) (rest := []) (ci := 4) 60 rfl dX6_gainFor_57 rfl (C4_winner X.1.2.1 hv57) m4_winner v4_winner k6_41 rfl rfl rfl (e_WS_S_L6) rfl (Nat.le_of_ble_eq_true rfl) (Nat.le_of_ble_eq_true rfl) (Nat.le_of_ble_eq_true rfl) ⟨Nat.le_refl _, Nat.le_refl _⟩ ?_
        show xV (j6_gainFor) X 0 0 (hWS c_all c_mass c_s_fields c_s_ties c_s_worth c_s_forces c_s_many c_s_codes c_s_b_list c_s_b_many c_s_p_list c_s_p_weights c_s_p_drawn c_s_p_many c_s_p_all c_s_p_turns) 60 [(0, .ref 0), (1, .ref 6), (2, .int x2), (3, .int x3), (4, .int x4), (5, .int x5), (6, .int x6), (7, .int x7), (8, .int x8)] [.int v57]
        refine xV_ineg 61 rfl dX6_gainFor_60 ?_
        exact T6_gainFor_b61 hX hk6 (fun {_ _ _ _ _ _ _} hq => ih hq) hf
      · have hf := xif_t hf h38
        refine xV_aload_n 42 rfl dX6_gainFor_41 rfl 1 rfl ?_
        refine xV_iload 44 rfl dX6_gainFor_42 8 rfl ?_
        refine xV_iload 46 rfl dX6_gainFor_44 6 rfl ?_
        obtain ⟨v46, hv46, hf⟩ := xb_s hf
        refine xV_vir2 (g := (fun j => 6 + j)) (hl := (hS c_s_fields c_s_ties c_s_worth c_s_forces c_s_many c_s_codes c_s_b_list c_s_b_many c_s_p_list c_s_p_weights c_s_p_drawn c_s_p_many c_s_p_all c_s_p_turns)) (hl' := (hS c_s_fields c_s_ties c_s_worth c_s_forces c_s_many c_s_codes c_s_b_list c_s_b_many c_s_p_list c_s_p_weights c_s_p_drawn c_s_p_many c_s_p_all c_s_p_turns)) (h' := (hWS c_all c_mass c_s_fields c_s_ties c_s_worth c_s_forces c_s_many c_s_codes c_s_b_list c_s_b_many c_s_p_list c_s_p_weights c_s_p_drawn c_s_p_many c_s_p_all c_s_p_turns)) (rest := []) (ci := 4) 49 rfl dX6_gainFor_46 rfl (C4_winner X.1.2.1 hv46) m4_winner v4_winner k6_41 rfl rfl rfl (e_WS_S_L6) rfl (Nat.le_of_ble_eq_true rfl) (Nat.le_of_ble_eq_true rfl) (Nat.le_of_ble_eq_true rfl) ⟨Nat.le_refl _, Nat.le_refl _⟩ ?_
        show xV (j6_gainFor) X 0 0 (hWS c_all c_mass c_s_fields c_s_ties c_s_worth c_s_forces c_s_many c_s_codes c_s_b_list c_s_b_many c_s_p_list c_s_p_weights c_s_p_drawn c_s_p_many c_s_p_all c_s_p_turns) 49 [(0, .ref 0), (1, .ref 6), (2, .int x2), (3, .int x3), (4, .int x4), (5, .int x5), (6, .int x6), (7, .int x7), (8, .int x8)] [.int v46]
        refine xV_goto (tgt := 61) dX6_gainFor_49 (by decide) ?_
        exact T6_gainFor_b61 hX hk6 (fun {_ _ _ _ _ _ _} hq => ih hq) hf
def F6_gainFor_b6 (z : Nat) (w : Nat) (x2 : Int32) (x3 : Int32) (x4 : Int32) (x5 : Int32) (c_mass : (Nat → Nat → Int32)) (c_s_fields : Int32) (c_s_ties : Int32) (c_s_worth : (Nat → Int32)) : Option (Int32) := match w with
  | 0 => none
  | w + 1 => if c_s_fields ≤ x5 then (some (x4)) else ((F4_digit x3 x5 c_s_fields).bind (fun v19 => F6_gainFor_b30 z z x2 x3 x4 x5 v19 (0 : Int32) (0 : Int32) c_mass c_s_fields c_s_ties c_s_worth (fun q0 q1 q2 q3 q4 q5 q6 q7 => F6_gainFor_b6 z w q0 q1 q2 q3 q4 q5 q6 q7)))
theorem T6_gainFor_b6 {X : xX} {c_all : Int32} {c_mass : (Nat → Nat → Int32)} {c_s_fields : Int32} {c_s_ties : Int32} {c_s_worth : (Nat → Int32)} {c_s_forces : (Nat → Int32)} {c_s_many : (Nat → Int32)} {c_s_codes : (Nat → Nat → Int32)} {c_s_b_list : (Nat → Nat → Int32)} {c_s_b_many : (Nat → Int32)} {c_s_p_list : (Nat → Nat → Int32)} {c_s_p_weights : (Nat → Nat → Int32)} {c_s_p_drawn : (Nat → Nat → Int32)} {c_s_p_many : (Nat → Int32)} {c_s_p_all : (Nat → Int32)} {c_s_p_turns : (Nat → Int32)} {z : Nat} {v : Int32} (hX : xIs (j6_gainFor) X ((some .int)) (some (.int v)) (hWS c_all c_mass c_s_fields c_s_ties c_s_worth c_s_forces c_s_many c_s_codes c_s_b_list c_s_b_many c_s_p_list c_s_p_weights c_s_p_drawn c_s_p_many c_s_p_all c_s_p_turns)) : ∀ (w : Nat) {x2 : Int32} {x3 : Int32} {x4 : Int32} {x5 : Int32}, F6_gainFor_b6 z w x2 x3 x4 x5 c_mass c_s_fields c_s_ties c_s_worth = some v → xV (j6_gainFor) X 0 0 (hWS c_all c_mass c_s_fields c_s_ties c_s_worth c_s_forces c_s_many c_s_codes c_s_b_list c_s_b_many c_s_p_list c_s_p_weights c_s_p_drawn c_s_p_many c_s_p_all c_s_p_turns) 6 [(0, .ref 0), (1, .ref 6), (2, .int x2), (3, .int x3), (4, .int x4), (5, .int x5)] [] := by
  intro w
  induction w with
  | zero => intro x2 x3 x4 x5 hf; cases hf
  | succ w ih =>
    intro x2 x3 x4 x5 hf
    unfold F6_gainFor_b6 at hf
    refine xV_iload 8 rfl dX6_gainFor_6 5 rfl ?_
    refine xV_aload_n 9 rfl dX6_gainFor_8 rfl 1 rfl ?_
    refine xV_get (v := .int c_s_fields) 12 rfl dX6_gainFor_9 f6_20 rfl rfl ?_
    refine xV_icmp_ge (tgt := 108) 15 rfl dX6_gainFor_12 (by decide) (fun h12 => ?_) (fun h12 => ?_)
    · have hf := xif_t hf h12
      refine xV_iload 110 rfl dX6_gainFor_108 4 rfl ?_
      obtain rfl := Option.some.inj hf
      exact xV_iret hX dX6_gainFor_110 rfl (Nat.zero_le _) (Nat.zero_le _)
    · have hf := xif_f hf h12
      refine xV_aload_n 16 rfl dX6_gainFor_15 rfl 1 rfl ?_
      refine xV_iload_n 17 rfl dX6_gainFor_16 rfl 3 rfl ?_
      refine xV_iload 19 rfl dX6_gainFor_17 5 rfl ?_
      obtain ⟨v19, hv19, hf⟩ := xb_s hf
      refine xV_vir2 (g := (fun j => 6 + j)) (hl := (hS c_s_fields c_s_ties c_s_worth c_s_forces c_s_many c_s_codes c_s_b_list c_s_b_many c_s_p_list c_s_p_weights c_s_p_drawn c_s_p_many c_s_p_all c_s_p_turns)) (hl' := (hS c_s_fields c_s_ties c_s_worth c_s_forces c_s_many c_s_codes c_s_b_list c_s_b_many c_s_p_list c_s_p_weights c_s_p_drawn c_s_p_many c_s_p_all c_s_p_turns)) (h' := (hWS c_all c_mass c_s_fields c_s_ties c_s_worth c_s_forces c_s_many c_s_codes c_s_b_list c_s_b_many c_s_p_list c_s_p_weights c_s_p_drawn c_s_p_many c_s_p_all c_s_p_turns)) (rest := []) (ci := 4) 22 rfl dX6_gainFor_19 rfl (C4_digit X.1.2.1 hv19) m4_digit v4_digit k6_25 rfl rfl rfl (e_WS_S_L6) rfl (Nat.le_of_ble_eq_true rfl) (Nat.le_of_ble_eq_true rfl) (Nat.le_of_ble_eq_true rfl) ⟨Nat.le_refl _, Nat.le_refl _⟩ ?_
      show xV (j6_gainFor) X 0 0 (hWS c_all c_mass c_s_fields c_s_ties c_s_worth c_s_forces c_s_many c_s_codes c_s_b_list c_s_b_many c_s_p_list c_s_p_weights c_s_p_drawn c_s_p_many c_s_p_all c_s_p_turns) 22 [(0, .ref 0), (1, .ref 6), (2, .int x2), (3, .int x3), (4, .int x4), (5, .int x5)] [.int v19]
      refine xV_istore (L' := [(6, .int v19), (0, .ref 0), (1, .ref 6), (2, .int x2), (3, .int x3), (4, .int x4), (5, .int x5)]) 24 rfl dX6_gainFor_22 (xlt rfl) rfl ?_
      refine xV_iconst 25 rfl dX6_gainFor_24 xy_i0 ?_
      refine xV_istore (L' := [(7, .int (0 : Int32)), (6, .int v19), (0, .ref 0), (1, .ref 6), (2, .int x2), (3, .int x3), (4, .int x4), (5, .int x5)]) 27 rfl dX6_gainFor_25 (xlt rfl) rfl ?_
      refine xV_iconst 28 rfl dX6_gainFor_27 xy_i0 ?_
      refine xV_istore (L' := [(8, .int (0 : Int32)), (7, .int (0 : Int32)), (6, .int v19), (0, .ref 0), (1, .ref 6), (2, .int x2), (3, .int x3), (4, .int x4), (5, .int x5)]) 30 rfl dX6_gainFor_28 (xlt rfl) rfl ?_
      refine xV_sub [3, 4, 5, 6, 7, 8, 2, 1, 0] rfl ?_
      exact T6_gainFor_b30 hX (fun {_ _ _ _} hq => ih hq) _ hf
def F6_gainFor (z : Nat) (x2 : Int32) (x3 : Int32) (c_mass : (Nat → Nat → Int32)) (c_s_fields : Int32) (c_s_ties : Int32) (c_s_worth : (Nat → Int32)) : Option (Int32) :=
  F6_gainFor_b6 z z x2 x3 (0 : Int32) (0 : Int32) c_mass c_s_fields c_s_ties c_s_worth
theorem T6_gainFor {X : xX} {z : Nat} {x2 : Int32} {x3 : Int32} {c_mass : (Nat → Nat → Int32)} {c_s_fields : Int32} {c_s_ties : Int32} {c_s_worth : (Nat → Int32)} {c_all : Int32} {c_s_forces : (Nat → Int32)} {c_s_many : (Nat → Int32)} {c_s_codes : (Nat → Nat → Int32)} {c_s_b_list : (Nat → Nat → Int32)} {c_s_b_many : (Nat → Int32)} {c_s_p_list : (Nat → Nat → Int32)} {c_s_p_weights : (Nat → Nat → Int32)} {c_s_p_drawn : (Nat → Nat → Int32)} {c_s_p_many : (Nat → Int32)} {c_s_p_all : (Nat → Int32)} {c_s_p_turns : (Nat → Int32)} {v : Int32} (hX : xIs (j6_gainFor) X ((some .int)) (some (.int v)) (hWS c_all c_mass c_s_fields c_s_ties c_s_worth c_s_forces c_s_many c_s_codes c_s_b_list c_s_b_many c_s_p_list c_s_p_weights c_s_p_drawn c_s_p_many c_s_p_all c_s_p_turns)) (hf : F6_gainFor z x2 x3 c_mass c_s_fields c_s_ties c_s_worth = some v) : xV (j6_gainFor) X 0 0 (hWS c_all c_mass c_s_fields c_s_ties c_s_worth c_s_forces c_s_many c_s_codes c_s_b_list c_s_b_many c_s_p_list c_s_p_weights c_s_p_drawn c_s_p_many c_s_p_all c_s_p_turns) 0 [(0, .ref 0), (1, .ref 6), (2, .int x2), (3, .int x3)] [] := by
  unfold F6_gainFor at hf
  refine xV_iconst 1 rfl dX6_gainFor_0 xy_i0 ?_
  refine xV_istore (L' := [(4, .int (0 : Int32)), (0, .ref 0), (1, .ref 6), (2, .int x2), (3, .int x3)]) 3 rfl dX6_gainFor_1 (xlt rfl) rfl ?_
  refine xV_iconst 4 rfl dX6_gainFor_3 xy_i0 ?_
  refine xV_istore (L' := [(5, .int (0 : Int32)), (4, .int (0 : Int32)), (0, .ref 0), (1, .ref 6), (2, .int x2), (3, .int x3)]) 6 rfl dX6_gainFor_4 (xlt rfl) rfl ?_
  refine xV_sub [2, 3, 4, 5, 1, 0] rfl ?_
  exact T6_gainFor_b6 hX _ hf
theorem C6_gainFor (l : Launch) {z : Nat} {x2 : Int32} {x3 : Int32} {c_mass : (Nat → Nat → Int32)} {c_s_fields : Int32} {c_s_ties : Int32} {c_s_worth : (Nat → Int32)} {c_all : Int32} {c_s_forces : (Nat → Int32)} {c_s_many : (Nat → Int32)} {c_s_codes : (Nat → Nat → Int32)} {c_s_b_list : (Nat → Nat → Int32)} {c_s_b_many : (Nat → Int32)} {c_s_p_list : (Nat → Nat → Int32)} {c_s_p_weights : (Nat → Nat → Int32)} {c_s_p_drawn : (Nat → Nat → Int32)} {c_s_p_many : (Nat → Int32)} {c_s_p_all : (Nat → Int32)} {c_s_p_turns : (Nat → Int32)} {v : Int32} (hf : F6_gainFor z x2 x3 c_mass c_s_fields c_s_ties c_s_worth = some v) : xCt l yX6_gainFor ((some .int)) j6_gainFor [.ref 0, .ref 6, .int x2, .int x3] (hWS c_all c_mass c_s_fields c_s_ties c_s_worth c_s_forces c_s_many c_s_codes c_s_b_list c_s_b_many c_s_p_list c_s_p_weights c_s_p_drawn c_s_p_many c_s_p_all c_s_p_turns) (some (.int v)) (hWS c_all c_mass c_s_fields c_s_ties c_s_worth c_s_forces c_s_many c_s_codes c_s_b_list c_s_b_many c_s_p_list c_s_p_weights c_s_p_drawn c_s_p_many c_s_p_all c_s_p_turns) := xCt_of (by decide) rfl (Nat.le_of_ble_eq_true rfl) (fun _ hX => T6_gainFor hX hf)
theorem m6_gainFor : xMd yX6_gainFor RX6 ((some .int)) j6_gainFor 3 := ⟨List.mem_of_getElem? (i := 1097) (by decide +kernel), List.mem_of_getElem? (i := 33) (by decide +kernel), rfl, by decide +kernel⟩
theorem v6_gainFor : xMv yX6_gainFor RX6 := ⟨List.mem_of_getElem? (i := 1095) (by decide +kernel), List.mem_of_getElem? (i := 1096) (by decide +kernel)⟩
